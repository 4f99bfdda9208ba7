theorem tw0 : Cond.initialized "BallBoxLaw" ∈ TB := tb_1 (i := 0) rfl rfl
theorem tw1 : Cond.initialized "BallBox" ∈ TB := tb_1 (i := 1) rfl rfl
theorem tw2 : Cond.initialized "BallBox$Tape" ∈ TB := tb_1 (i := 2) rfl rfl
theorem tw3 : Cond.initialized "BallBox$BoxReader" ∈ TB := tb_1 (i := 3) rfl rfl
theorem tw4 : Cond.initialized "BallBox$State" ∈ TB := tb_1 (i := 4) rfl rfl
theorem tw5 : Cond.initialized "java/util/Arrays" ∈ TB := tb_1 (i := 5) rfl rfl
theorem tw6 : Cond.initialized "BallBox$RuleReader" ∈ TB := tb_1 (i := 6) rfl rfl
theorem tw7 : Cond.initialized "BallBox$Rule" ∈ TB := tb_1 (i := 7) rfl rfl
theorem tw8 : Cond.initialized "BallBox$Roller" ∈ TB := tb_1 (i := 8) rfl rfl
theorem tw9 : Cond.initialized "BallBox$Search" ∈ TB := tb_1 (i := 9) rfl rfl
theorem tw10 : Cond.initialized "BallBox$Carver" ∈ TB := tb_1 (i := 10) rfl rfl
theorem tw11 : Cond.initialized "BallBox$Pairs" ∈ TB := tb_1 (i := 11) rfl rfl
theorem tw12 : Cond.initialized "BallBox$Listener" ∈ TB := tb_1 (i := 12) rfl rfl
theorem tw13 : Cond.initialized "BallBox$Trial" ∈ TB := tb_1 (i := 13) rfl rfl
theorem tw14 : Cond.initialized "BallBoxModel" ∈ TB := tb_1 (i := 14) rfl rfl
theorem tw15 : Cond.initialized "java/lang/String" ∈ TB := tb_1 (i := 15) rfl rfl
theorem tw16 : Cond.initialized "java/lang/StringLatin1" ∈ TB := tb_1 (i := 16) rfl rfl
theorem tw17 : Cond.initialized "jdk/internal/util/Preconditions" ∈ TB := tb_1 (i := 17) rfl rfl
theorem tw18 : Cond.initialized "java/lang/StringUTF16" ∈ TB := tb_1 (i := 18) rfl rfl
theorem tw19 : Cond.initialized "java/lang/System" ∈ TB := tb_1 (i := 19) rfl rfl
theorem tw20 : Cond.initialized "java/lang/Math" ∈ TB := tb_1 (i := 20) rfl rfl
theorem tw21 : Cond.initialized "java/lang/Character" ∈ TB := tb_1 (i := 21) rfl rfl
theorem tw22 : Cond.classLink "BallBoxLaw" (7 : Nat) "BallBox" ∈ TB := tb_1 (i := 22) rfl rfl
theorem tw23 : Cond.instantiable "BallBox" (15 : Nat) ∈ TB := tb_1 (i := 23) rfl rfl
theorem tw24 : Cond.methodLink "BallBoxLaw" (9 : Nat) y_BB_init ∈ TB := tb_1 (i := 24) rfl rfl
theorem tw25 : Cond.instanceMethod y_BB_init ∈ TB := tb_1 (i := 25) rfl rfl
theorem tw26 : Cond.code y_BB_init prog_1_method_1_code (2 : Nat) (Option.none : Option FieldType) ∈ TB := tb_1 (i := 26) rfl rfl
theorem tw27 : Cond.methodLink "BallBox" (1 : Nat) y_JO_init ∈ TB := tb_1 (i := 27) rfl rfl
theorem tw28 : Cond.instanceMethod y_JO_init ∈ TB := tb_1 (i := 28) rfl rfl
theorem tw29 : Cond.code y_JO_init object_method_1_code (1 : Nat) (Option.none : Option FieldType) ∈ TB := tb_1 (i := 29) rfl rfl
theorem tw30 : Cond.classLink "BallBox" (7 : Nat) "BallBox$Tape" ∈ TB := tb_1 (i := 30) rfl rfl
theorem tw31 : Cond.instantiable "BallBox$Tape" (4 : Nat) ∈ TB := tb_1 (i := 31) rfl rfl
theorem tw33 : Cond.instanceMethod y_TA_init ∈ TB := tb_1 (i := 33) rfl rfl
theorem tw34 : Cond.code y_TA_init prog_11_method_1_code (1 : Nat) (Option.none : Option FieldType) ∈ TB := tb_1 (i := 34) rfl rfl
theorem tw35 : Cond.methodLink "BallBox$Tape" (3 : Nat) y_JO_init ∈ TB := tb_1 (i := 35) rfl rfl
theorem tw36 : Cond.fieldLink "BallBox$Tape" (11 : Nat) "BallBox$Tape" "bytes" "[I" ∈ TB := tb_1 (i := 36) rfl rfl
theorem tw37 : Cond.fieldLink "BallBox" (92 : Nat) "BallBox$Tape" "length" "I" ∈ TB := tb_1 (i := 37) rfl rfl
theorem tw38 : Cond.fieldLink "BallBox$Tape" (15 : Nat) "BallBox$Tape" "length" "I" ∈ TB := tb_1 (i := 38) rfl rfl
theorem tw39 : Cond.fieldLink "BallBox$BoxReader" (77 : Nat) "BallBox$Tape" "length" "I" ∈ TB := tb_1 (i := 39) rfl rfl
theorem tw40 : Cond.fieldLink "BallBox$BoxReader" (41 : Nat) "BallBox$Tape" "at" "I" ∈ TB := tb_1 (i := 40) rfl rfl
theorem tw41 : Cond.fieldLink "BallBox$Tape" (19 : Nat) "BallBox$Tape" "at" "I" ∈ TB := tb_1 (i := 41) rfl rfl
theorem tw42 : Cond.fieldLink "BallBox$RuleReader" (82 : Nat) "BallBox$Tape" "at" "I" ∈ TB := tb_1 (i := 42) rfl rfl
theorem tw43 : Cond.fieldLink "BallBox$BoxReader" (30 : Nat) "BallBox$Tape" "fault" "I" ∈ TB := tb_1 (i := 43) rfl rfl
theorem tw44 : Cond.fieldLink "BallBox$Tape" (22 : Nat) "BallBox$Tape" "fault" "I" ∈ TB := tb_1 (i := 44) rfl rfl
theorem tw45 : Cond.laysFinal "BallBox$Tape" "BallBox$Tape" "bytes" "[I" ∈ TB := tb_1 (i := 45) rfl rfl
theorem tw47 : Cond.lays "BallBox$Tape" "BallBox$Tape" "length" "I" ∈ TB := tb_1 (i := 47) rfl rfl
theorem tw49 : Cond.lays "BallBox$Tape" "BallBox$Tape" "at" "I" ∈ TB := tb_1 (i := 49) rfl rfl
theorem tw51 : Cond.lays "BallBox$Tape" "BallBox$Tape" "fault" "I" ∈ TB := tb_1 (i := 51) rfl rfl
theorem tw53 : Cond.superclass "BallBox$Tape" "java/lang/Object" ∈ TB := tb_1 (i := 53) rfl rfl
theorem tw54 : Cond.arrayClass FieldType.int ∈ TB := tb_1 (i := 54) rfl rfl
theorem tw55 : Cond.classLink "BallBox" (16 : Nat) "BallBox$BoxReader" ∈ TB := tb_1 (i := 55) rfl rfl
theorem tw56 : Cond.instantiable "BallBox$BoxReader" (1 : Nat) ∈ TB := tb_1 (i := 56) rfl rfl
theorem tw58 : Cond.instanceMethod y_BR_init ∈ TB := tb_1 (i := 58) rfl rfl
theorem tw59 : Cond.code y_BR_init prog_2_method_1_code (1 : Nat) (Option.none : Option FieldType) ∈ TB := tb_1 (i := 59) rfl rfl
theorem tw60 : Cond.methodLink "BallBox$BoxReader" (3 : Nat) y_JO_init ∈ TB := tb_1 (i := 60) rfl rfl
theorem tw61 : Cond.classLink "BallBox$BoxReader" (9 : Nat) "BallBox$State" ∈ TB := tb_1 (i := 61) rfl rfl
theorem tw62 : Cond.instantiable "BallBox$State" (15 : Nat) ∈ TB := tb_1 (i := 62) rfl rfl
theorem tw63 : Cond.methodLink "BallBox$BoxReader" (11 : Nat) y_SA_init ∈ TB := tb_1 (i := 63) rfl rfl
theorem tw64 : Cond.instanceMethod y_SA_init ∈ TB := tb_1 (i := 64) rfl rfl
theorem tw65 : Cond.code y_SA_init prog_10_method_1_code (1 : Nat) (Option.none : Option FieldType) ∈ TB := tb_1 (i := 65) rfl rfl
theorem tw66 : Cond.methodLink "BallBox$State" (3 : Nat) y_JO_init ∈ TB := tb_1 (i := 66) rfl rfl
theorem tw67 : Cond.methodLink "BallBox$State" (28 : Nat) y_JA_fill ∈ TB := tb_1 (i := 67) rfl rfl
theorem tw68 : Cond.static y_JA_fill ∈ TB := tb_1 (i := 68) rfl rfl
theorem tw69 : Cond.code y_JA_fill prog_21_method_103_code (4 : Nat) (Option.none : Option FieldType) ∈ TB := tb_1 (i := 69) rfl rfl
theorem tw70 : Cond.fieldLink "BallBox" (318 : Nat) "BallBox$State" "kept" "Z" ∈ TB := tb_1 (i := 70) rfl rfl
theorem tw71 : Cond.fieldLink "BallBox" (172 : Nat) "BallBox$State" "boxed" "Z" ∈ TB := tb_1 (i := 71) rfl rfl
theorem tw72 : Cond.fieldLink "BallBox$State" (75 : Nat) "BallBox$State" "boxed" "Z" ∈ TB := tb_1 (i := 72) rfl rfl
theorem tw73 : Cond.fieldLink "BallBox$BoxReader" (95 : Nat) "BallBox$State" "columns" "I" ∈ TB := tb_1 (i := 73) rfl rfl
theorem tw74 : Cond.fieldLink "BallBox$State" (65 : Nat) "BallBox$State" "columns" "I" ∈ TB := tb_1 (i := 74) rfl rfl
theorem tw75 : Cond.fieldLink "BallBox" (308 : Nat) "BallBox$State" "columns" "I" ∈ TB := tb_1 (i := 75) rfl rfl
theorem tw76 : Cond.fieldLink "BallBox$BoxReader" (62 : Nat) "BallBox$State" "rows" "I" ∈ TB := tb_1 (i := 76) rfl rfl
theorem tw77 : Cond.fieldLink "BallBox$State" (68 : Nat) "BallBox$State" "rows" "I" ∈ TB := tb_1 (i := 77) rfl rfl
theorem tw78 : Cond.fieldLink "BallBox" (311 : Nat) "BallBox$State" "rows" "I" ∈ TB := tb_1 (i := 78) rfl rfl
theorem tw79 : Cond.fieldLink "BallBox$Pairs" (50 : Nat) "BallBox$State" "balls" "I" ∈ TB := tb_1 (i := 79) rfl rfl
theorem tw80 : Cond.fieldLink "BallBox$BoxReader" (65 : Nat) "BallBox$State" "balls" "I" ∈ TB := tb_1 (i := 80) rfl rfl
theorem tw81 : Cond.fieldLink "BallBox$Roller" (56 : Nat) "BallBox$State" "balls" "I" ∈ TB := tb_1 (i := 81) rfl rfl
theorem tw82 : Cond.fieldLink "BallBox" (114 : Nat) "BallBox$State" "balls" "I" ∈ TB := tb_1 (i := 82) rfl rfl
theorem tw83 : Cond.fieldLink "BallBox$Listener" (59 : Nat) "BallBox$State" "balls" "I" ∈ TB := tb_1 (i := 83) rfl rfl
theorem tw84 : Cond.fieldLink "BallBox$State" (57 : Nat) "BallBox$State" "balls" "I" ∈ TB := tb_1 (i := 84) rfl rfl
theorem tw85 : Cond.fieldLink "BallBox$Trial" (15 : Nat) "BallBox$State" "situation" "I" ∈ TB := tb_1 (i := 85) rfl rfl
theorem tw86 : Cond.fieldLink "BallBox$Carver" (48 : Nat) "BallBox$State" "situation" "I" ∈ TB := tb_1 (i := 86) rfl rfl
theorem tw87 : Cond.fieldLink "BallBox$Search" (40 : Nat) "BallBox$State" "situation" "I" ∈ TB := tb_1 (i := 87) rfl rfl
theorem tw88 : Cond.fieldLink "BallBox$BoxReader" (105 : Nat) "BallBox$State" "situation" "I" ∈ TB := tb_1 (i := 88) rfl rfl
theorem tw89 : Cond.fieldLink "BallBox" (139 : Nat) "BallBox$State" "situation" "I" ∈ TB := tb_1 (i := 89) rfl rfl
theorem tw90 : Cond.fieldLink "BallBox$State" (48 : Nat) "BallBox$State" "situation" "I" ∈ TB := tb_1 (i := 90) rfl rfl
theorem tw91 : Cond.fieldLink "BallBox$Roller" (99 : Nat) "BallBox$State" "tips" "I" ∈ TB := tb_1 (i := 91) rfl rfl
theorem tw92 : Cond.fieldLink "BallBox" (183 : Nat) "BallBox$State" "tips" "I" ∈ TB := tb_1 (i := 92) rfl rfl
theorem tw93 : Cond.fieldLink "BallBox$State" (79 : Nat) "BallBox$State" "tips" "I" ∈ TB := tb_1 (i := 93) rfl rfl
theorem tw94 : Cond.fieldLink "BallBox$Trial" (28 : Nat) "BallBox$State" "rowLength" "I" ∈ TB := tb_1 (i := 94) rfl rfl
theorem tw95 : Cond.fieldLink "BallBox" (192 : Nat) "BallBox$State" "rowLength" "I" ∈ TB := tb_1 (i := 95) rfl rfl
theorem tw96 : Cond.fieldLink "BallBox$State" (82 : Nat) "BallBox$State" "rowLength" "I" ∈ TB := tb_1 (i := 96) rfl rfl
theorem tw97 : Cond.fieldLink "BallBox$Listener" (84 : Nat) "BallBox$State" "soundCount" "I" ∈ TB := tb_1 (i := 97) rfl rfl
theorem tw98 : Cond.fieldLink "BallBox" (254 : Nat) "BallBox$State" "soundCount" "I" ∈ TB := tb_1 (i := 98) rfl rfl
theorem tw99 : Cond.fieldLink "BallBox$State" (85 : Nat) "BallBox$State" "soundCount" "I" ∈ TB := tb_1 (i := 99) rfl rfl
theorem tw100 : Cond.fieldLink "BallBox$State" (9 : Nat) "BallBox$State" "force" "I" ∈ TB := tb_1 (i := 100) rfl rfl
theorem tw101 : Cond.fieldLink "BallBox$Roller" (44 : Nat) "BallBox$State" "force" "I" ∈ TB := tb_1 (i := 101) rfl rfl
theorem tw102 : Cond.fieldLink "BallBox" (128 : Nat) "BallBox$State" "force" "I" ∈ TB := tb_1 (i := 102) rfl rfl
theorem tw103 : Cond.fieldLink "BallBox$Trial" (80 : Nat) "BallBox$State" "x" "I" ∈ TB := tb_1 (i := 103) rfl rfl
theorem tw104 : Cond.fieldLink "BallBox$State" (94 : Nat) "BallBox$State" "x" "I" ∈ TB := tb_1 (i := 104) rfl rfl
theorem tw105 : Cond.fieldLink "BallBox" (296 : Nat) "BallBox$State" "x" "I" ∈ TB := tb_1 (i := 105) rfl rfl
theorem tw106 : Cond.fieldLink "BallBox$State" (15 : Nat) "BallBox$State" "kinds" "[I" ∈ TB := tb_1 (i := 106) rfl rfl
theorem tw107 : Cond.fieldLink "BallBox$Carver" (45 : Nat) "BallBox$State" "kinds" "[I" ∈ TB := tb_1 (i := 107) rfl rfl
theorem tw108 : Cond.fieldLink "BallBox$Roller" (113 : Nat) "BallBox$State" "kinds" "[I" ∈ TB := tb_1 (i := 108) rfl rfl
theorem tw109 : Cond.fieldLink "BallBox$State" (19 : Nat) "BallBox$State" "holes" "[I" ∈ TB := tb_1 (i := 109) rfl rfl
theorem tw110 : Cond.fieldLink "BallBox$State" (22 : Nat) "BallBox$State" "row" "[I" ∈ TB := tb_1 (i := 110) rfl rfl
theorem tw111 : Cond.fieldLink "BallBox$Trial" (31 : Nat) "BallBox$State" "row" "[I" ∈ TB := tb_1 (i := 111) rfl rfl
theorem tw112 : Cond.fieldLink "BallBox" (195 : Nat) "BallBox$State" "row" "[I" ∈ TB := tb_1 (i := 112) rfl rfl
theorem tw113 : Cond.fieldLink "BallBox$State" (25 : Nat) "BallBox$State" "sounds" "[I" ∈ TB := tb_1 (i := 113) rfl rfl
theorem tw114 : Cond.fieldLink "BallBox$Listener" (87 : Nat) "BallBox$State" "sounds" "[I" ∈ TB := tb_1 (i := 114) rfl rfl
theorem tw115 : Cond.fieldLink "BallBox" (257 : Nat) "BallBox$State" "sounds" "[I" ∈ TB := tb_1 (i := 115) rfl rfl
theorem tw116 : Cond.lays "BallBox$State" "BallBox$State" "kept" "Z" ∈ TB := tb_1 (i := 116) rfl rfl
theorem tw118 : Cond.lays "BallBox$State" "BallBox$State" "boxed" "Z" ∈ TB := tb_1 (i := 118) rfl rfl
theorem tw120 : Cond.lays "BallBox$State" "BallBox$State" "columns" "I" ∈ TB := tb_1 (i := 120) rfl rfl
theorem tw122 : Cond.lays "BallBox$State" "BallBox$State" "rows" "I" ∈ TB := tb_1 (i := 122) rfl rfl
theorem tw124 : Cond.lays "BallBox$State" "BallBox$State" "balls" "I" ∈ TB := tb_1 (i := 124) rfl rfl
theorem tw126 : Cond.lays "BallBox$State" "BallBox$State" "situation" "I" ∈ TB := tb_1 (i := 126) rfl rfl
theorem tw128 : Cond.lays "BallBox$State" "BallBox$State" "tips" "I" ∈ TB := tb_1 (i := 128) rfl rfl
theorem tw130 : Cond.lays "BallBox$State" "BallBox$State" "rowLength" "I" ∈ TB := tb_1 (i := 130) rfl rfl
theorem tw132 : Cond.lays "BallBox$State" "BallBox$State" "soundCount" "I" ∈ TB := tb_1 (i := 132) rfl rfl
theorem tw134 : Cond.lays "BallBox$State" "BallBox$State" "force" "I" ∈ TB := tb_1 (i := 134) rfl rfl
theorem tw136 : Cond.lays "BallBox$State" "BallBox$State" "x" "I" ∈ TB := tb_1 (i := 136) rfl rfl
theorem tw138 : Cond.laysFinal "BallBox$State" "BallBox$State" "kinds" "[I" ∈ TB := tb_1 (i := 138) rfl rfl
theorem tw140 : Cond.laysFinal "BallBox$State" "BallBox$State" "holes" "[I" ∈ TB := tb_1 (i := 140) rfl rfl
theorem tw142 : Cond.laysFinal "BallBox$State" "BallBox$State" "row" "[I" ∈ TB := tb_1 (i := 142) rfl rfl
theorem tw144 : Cond.laysFinal "BallBox$State" "BallBox$State" "sounds" "[I" ∈ TB := tb_1 (i := 144) rfl rfl
theorem tw146 : Cond.superclass "BallBox$State" "java/lang/Object" ∈ TB := tb_1 (i := 146) rfl rfl
theorem tw147 : Cond.fieldLink "BallBox$BoxReader" (12 : Nat) "BallBox$BoxReader" "draft" "LBallBox$State;" ∈ TB := tb_1 (i := 147) rfl rfl
theorem tw148 : Cond.fieldLink "BallBox" (104 : Nat) "BallBox$BoxReader" "draft" "LBallBox$State;" ∈ TB := tb_1 (i := 148) rfl rfl
theorem tw149 : Cond.laysFinal "BallBox$BoxReader" "BallBox$BoxReader" "draft" "LBallBox$State;" ∈ TB := tb_1 (i := 149) rfl rfl
theorem tw151 : Cond.superclass "BallBox$BoxReader" "java/lang/Object" ∈ TB := tb_1 (i := 151) rfl rfl
theorem tw152 : Cond.classLink "BallBox" (23 : Nat) "BallBox$RuleReader" ∈ TB := tb_1 (i := 152) rfl rfl
theorem tw153 : Cond.instantiable "BallBox$RuleReader" (7 : Nat) ∈ TB := tb_1 (i := 153) rfl rfl
theorem tw155 : Cond.instanceMethod y_RR_init ∈ TB := tb_1 (i := 155) rfl rfl
theorem tw156 : Cond.code y_RR_init prog_8_method_1_code (1 : Nat) (Option.none : Option FieldType) ∈ TB := tb_1 (i := 156) rfl rfl
theorem tw157 : Cond.methodLink "BallBox$RuleReader" (3 : Nat) y_JO_init ∈ TB := tb_1 (i := 157) rfl rfl
theorem tw158 : Cond.classLink "BallBox$RuleReader" (18 : Nat) "BallBox$Rule" ∈ TB := tb_1 (i := 158) rfl rfl
theorem tw159 : Cond.instantiable "BallBox$Rule" (7 : Nat) ∈ TB := tb_1 (i := 159) rfl rfl
theorem tw161 : Cond.instanceMethod y_RU_init ∈ TB := tb_1 (i := 161) rfl rfl
theorem tw162 : Cond.code y_RU_init prog_7_method_1_code (1 : Nat) (Option.none : Option FieldType) ∈ TB := tb_1 (i := 162) rfl rfl
theorem tw163 : Cond.methodLink "BallBox$Rule" (1 : Nat) y_JO_init ∈ TB := tb_1 (i := 163) rfl rfl
theorem tw164 : Cond.fieldLink "BallBox$Rule" (9 : Nat) "BallBox$Rule" "code" "[I" ∈ TB := tb_1 (i := 164) rfl rfl
theorem tw165 : Cond.fieldLink "BallBox$Rule" (15 : Nat) "BallBox$Rule" "sumEnds" "[I" ∈ TB := tb_1 (i := 165) rfl rfl
theorem tw166 : Cond.fieldLink "BallBox$Rule" (18 : Nat) "BallBox$Rule" "testEnds" "[I" ∈ TB := tb_1 (i := 166) rfl rfl
theorem tw167 : Cond.fieldLink "BallBox$Rule" (21 : Nat) "BallBox$Rule" "stack" "[J" ∈ TB := tb_1 (i := 167) rfl rfl
theorem tw168 : Cond.fieldLink "BallBox$Rule" (25 : Nat) "BallBox$Rule" "length" "I" ∈ TB := tb_1 (i := 168) rfl rfl
theorem tw169 : Cond.fieldLink "BallBox$Rule" (29 : Nat) "BallBox$Rule" "clauses" "I" ∈ TB := tb_1 (i := 169) rfl rfl
theorem tw170 : Cond.fieldLink "BallBox$Rule" (32 : Nat) "BallBox$Rule" "used" "I" ∈ TB := tb_1 (i := 170) rfl rfl
theorem tw171 : Cond.laysFinal "BallBox$Rule" "BallBox$Rule" "code" "[I" ∈ TB := tb_1 (i := 171) rfl rfl
theorem tw173 : Cond.laysFinal "BallBox$Rule" "BallBox$Rule" "sumEnds" "[I" ∈ TB := tb_1 (i := 173) rfl rfl
theorem tw175 : Cond.laysFinal "BallBox$Rule" "BallBox$Rule" "testEnds" "[I" ∈ TB := tb_1 (i := 175) rfl rfl
theorem tw177 : Cond.laysFinal "BallBox$Rule" "BallBox$Rule" "stack" "[J" ∈ TB := tb_1 (i := 177) rfl rfl
theorem tw179 : Cond.lays "BallBox$Rule" "BallBox$Rule" "length" "I" ∈ TB := tb_1 (i := 179) rfl rfl
theorem tw181 : Cond.lays "BallBox$Rule" "BallBox$Rule" "clauses" "I" ∈ TB := tb_1 (i := 181) rfl rfl
theorem tw183 : Cond.lays "BallBox$Rule" "BallBox$Rule" "used" "I" ∈ TB := tb_1 (i := 183) rfl rfl
theorem tw185 : Cond.superclass "BallBox$Rule" "java/lang/Object" ∈ TB := tb_1 (i := 185) rfl rfl
theorem tw186 : Cond.arrayClass FieldType.long ∈ TB := tb_1 (i := 186) rfl rfl
theorem tw187 : Cond.fieldLink "BallBox$RuleReader" (11 : Nat) "BallBox$RuleReader" "tokens" "[I" ∈ TB := tb_1 (i := 187) rfl rfl
theorem tw188 : Cond.fieldLink "BallBox$RuleReader" (15 : Nat) "BallBox$RuleReader" "places" "[I" ∈ TB := tb_1 (i := 188) rfl rfl
theorem tw189 : Cond.fieldLink "BallBox$RuleReader" (76 : Nat) "BallBox$RuleReader" "tokenCount" "I" ∈ TB := tb_1 (i := 189) rfl rfl
theorem tw190 : Cond.fieldLink "BallBox$RuleReader" (32 : Nat) "BallBox$RuleReader" "at" "I" ∈ TB := tb_1 (i := 190) rfl rfl
theorem tw191 : Cond.fieldLink "BallBox$RuleReader" (36 : Nat) "BallBox$RuleReader" "values" "I" ∈ TB := tb_1 (i := 191) rfl rfl
theorem tw192 : Cond.fieldLink "BallBox$RuleReader" (39 : Nat) "BallBox$RuleReader" "fault" "I" ∈ TB := tb_1 (i := 192) rfl rfl
theorem tw193 : Cond.fieldLink "BallBox$RuleReader" (21 : Nat) "BallBox$RuleReader" "draft" "LBallBox$Rule;" ∈ TB := tb_1 (i := 193) rfl rfl
theorem tw194 : Cond.fieldLink "BallBox" (121 : Nat) "BallBox$RuleReader" "draft" "LBallBox$Rule;" ∈ TB := tb_1 (i := 194) rfl rfl
theorem tw195 : Cond.laysFinal "BallBox$RuleReader" "BallBox$RuleReader" "tokens" "[I" ∈ TB := tb_1 (i := 195) rfl rfl
theorem tw197 : Cond.laysFinal "BallBox$RuleReader" "BallBox$RuleReader" "places" "[I" ∈ TB := tb_1 (i := 197) rfl rfl
theorem tw199 : Cond.lays "BallBox$RuleReader" "BallBox$RuleReader" "tokenCount" "I" ∈ TB := tb_1 (i := 199) rfl rfl
theorem tw201 : Cond.lays "BallBox$RuleReader" "BallBox$RuleReader" "at" "I" ∈ TB := tb_1 (i := 201) rfl rfl
theorem tw203 : Cond.lays "BallBox$RuleReader" "BallBox$RuleReader" "values" "I" ∈ TB := tb_1 (i := 203) rfl rfl
theorem tw205 : Cond.lays "BallBox$RuleReader" "BallBox$RuleReader" "fault" "I" ∈ TB := tb_1 (i := 205) rfl rfl
theorem tw207 : Cond.laysFinal "BallBox$RuleReader" "BallBox$RuleReader" "draft" "LBallBox$Rule;" ∈ TB := tb_1 (i := 207) rfl rfl
theorem tw209 : Cond.superclass "BallBox$RuleReader" "java/lang/Object" ∈ TB := tb_1 (i := 209) rfl rfl
theorem tw210 : Cond.classLink "BallBox" (30 : Nat) "BallBox$Roller" ∈ TB := tb_1 (i := 210) rfl rfl
theorem tw211 : Cond.instantiable "BallBox$Roller" (8 : Nat) ∈ TB := tb_1 (i := 211) rfl rfl
theorem tw212 : Cond.methodLink "BallBox" (32 : Nat) y_RO_init ∈ TB := tb_1 (i := 212) rfl rfl
theorem tw213 : Cond.instanceMethod y_RO_init ∈ TB := tb_1 (i := 213) rfl rfl
theorem tw214 : Cond.code y_RO_init prog_6_method_1_code (2 : Nat) (Option.none : Option FieldType) ∈ TB := tb_1 (i := 214) rfl rfl
theorem tw215 : Cond.methodLink "BallBox$Roller" (1 : Nat) y_JO_init ∈ TB := tb_1 (i := 215) rfl rfl
theorem tw216 : Cond.classLink "BallBox$Roller" (9 : Nat) "BallBox$Rule" ∈ TB := tb_1 (i := 216) rfl rfl
theorem tw219 : Cond.fieldLink "BallBox$Roller" (11 : Nat) "BallBox$Roller" "rules" "[LBallBox$Rule;" ∈ TB := tb_1 (i := 219) rfl rfl
theorem tw220 : Cond.fieldLink "BallBox$Roller" (15 : Nat) "BallBox$Roller" "words" "[J" ∈ TB := tb_1 (i := 220) rfl rfl
theorem tw221 : Cond.fieldLink "BallBox$Roller" (19 : Nat) "BallBox$Roller" "keys" "[J" ∈ TB := tb_1 (i := 221) rfl rfl
theorem tw222 : Cond.fieldLink "BallBox$Roller" (22 : Nat) "BallBox$Roller" "order" "[I" ∈ TB := tb_1 (i := 222) rfl rfl
theorem tw223 : Cond.fieldLink "BallBox$Roller" (53 : Nat) "BallBox$Roller" "lined" "I" ∈ TB := tb_1 (i := 223) rfl rfl
theorem tw224 : Cond.fieldLink "BallBox$Roller" (27 : Nat) "BallBox$Roller" "ruleCount" "I" ∈ TB := tb_1 (i := 224) rfl rfl
theorem tw225 : Cond.fieldLink "BallBox" (117 : Nat) "BallBox$Roller" "ruleCount" "I" ∈ TB := tb_1 (i := 225) rfl rfl
theorem tw226 : Cond.fieldLink "BallBox$Roller" (35 : Nat) "BallBox$Roller" "hits" "I" ∈ TB := tb_1 (i := 226) rfl rfl
theorem tw227 : Cond.fieldLink "BallBox$Trial" (45 : Nat) "BallBox$Roller" "hits" "I" ∈ TB := tb_1 (i := 227) rfl rfl
theorem tw228 : Cond.fieldLink "BallBox$Listener" (96 : Nat) "BallBox$Roller" "hits" "I" ∈ TB := tb_1 (i := 228) rfl rfl
theorem tw229 : Cond.fieldLink "BallBox" (186 : Nat) "BallBox$Roller" "hits" "I" ∈ TB := tb_1 (i := 229) rfl rfl
theorem tw230 : Cond.fieldLink "BallBox$Roller" (38 : Nat) "BallBox$Roller" "falls" "I" ∈ TB := tb_1 (i := 230) rfl rfl
theorem tw231 : Cond.fieldLink "BallBox$Trial" (46 : Nat) "BallBox$Roller" "falls" "I" ∈ TB := tb_1 (i := 231) rfl rfl
theorem tw232 : Cond.fieldLink "BallBox$Listener" (99 : Nat) "BallBox$Roller" "falls" "I" ∈ TB := tb_1 (i := 232) rfl rfl
theorem tw233 : Cond.fieldLink "BallBox" (189 : Nat) "BallBox$Roller" "falls" "I" ∈ TB := tb_1 (i := 233) rfl rfl
theorem tw234 : Cond.laysFinal "BallBox$Roller" "BallBox$Roller" "rules" "[LBallBox$Rule;" ∈ TB := tb_1 (i := 234) rfl rfl
theorem tw236 : Cond.laysFinal "BallBox$Roller" "BallBox$Roller" "words" "[J" ∈ TB := tb_1 (i := 236) rfl rfl
theorem tw238 : Cond.laysFinal "BallBox$Roller" "BallBox$Roller" "keys" "[J" ∈ TB := tb_1 (i := 238) rfl rfl
theorem tw240 : Cond.laysFinal "BallBox$Roller" "BallBox$Roller" "order" "[I" ∈ TB := tb_2 (i := 0) rfl rfl
theorem tw242 : Cond.lays "BallBox$Roller" "BallBox$Roller" "lined" "I" ∈ TB := tb_2 (i := 2) rfl rfl
theorem tw244 : Cond.lays "BallBox$Roller" "BallBox$Roller" "ruleCount" "I" ∈ TB := tb_2 (i := 4) rfl rfl
theorem tw246 : Cond.lays "BallBox$Roller" "BallBox$Roller" "hits" "I" ∈ TB := tb_2 (i := 6) rfl rfl
theorem tw248 : Cond.lays "BallBox$Roller" "BallBox$Roller" "falls" "I" ∈ TB := tb_2 (i := 8) rfl rfl
theorem tw250 : Cond.superclass "BallBox$Roller" "java/lang/Object" ∈ TB := tb_2 (i := 10) rfl rfl
theorem tw251 : Cond.classLink "BallBox" (37 : Nat) "BallBox$Search" ∈ TB := tb_2 (i := 11) rfl rfl
theorem tw252 : Cond.instantiable "BallBox$Search" (8 : Nat) ∈ TB := tb_2 (i := 12) rfl rfl
theorem tw253 : Cond.methodLink "BallBox" (39 : Nat) y_SE_init ∈ TB := tb_2 (i := 13) rfl rfl
theorem tw254 : Cond.instanceMethod y_SE_init ∈ TB := tb_2 (i := 14) rfl rfl
theorem tw255 : Cond.code y_SE_init prog_9_method_1_code (2 : Nat) (Option.none : Option FieldType) ∈ TB := tb_2 (i := 15) rfl rfl
theorem tw256 : Cond.methodLink "BallBox$Search" (3 : Nat) y_JO_init ∈ TB := tb_2 (i := 16) rfl rfl
theorem tw257 : Cond.fieldLink "BallBox$Search" (26 : Nat) "BallBox$Search" "roller" "LBallBox$Roller;" ∈ TB := tb_2 (i := 17) rfl rfl
theorem tw258 : Cond.fieldLink "BallBox$Search" (11 : Nat) "BallBox$Search" "queue" "[I" ∈ TB := tb_2 (i := 18) rfl rfl
theorem tw259 : Cond.fieldLink "BallBox$Search" (15 : Nat) "BallBox$Search" "cameBy" "[I" ∈ TB := tb_2 (i := 19) rfl rfl
theorem tw260 : Cond.fieldLink "BallBox$Search" (18 : Nat) "BallBox$Search" "seen" "[J" ∈ TB := tb_2 (i := 20) rfl rfl
theorem tw261 : Cond.fieldLink "BallBox$Search" (53 : Nat) "BallBox$Search" "queued" "I" ∈ TB := tb_2 (i := 21) rfl rfl
theorem tw262 : Cond.fieldLink "BallBox$Search" (62 : Nat) "BallBox$Search" "homeCameBy" "I" ∈ TB := tb_2 (i := 22) rfl rfl
theorem tw263 : Cond.fieldLink "BallBox$Search" (22 : Nat) "BallBox$Search" "asOf" "I" ∈ TB := tb_2 (i := 23) rfl rfl
theorem tw264 : Cond.fieldLink "BallBox$Search" (34 : Nat) "BallBox$Search" "fewest" "I" ∈ TB := tb_2 (i := 24) rfl rfl
theorem tw265 : Cond.fieldLink "BallBox" (226 : Nat) "BallBox$Search" "fewest" "I" ∈ TB := tb_2 (i := 25) rfl rfl
theorem tw266 : Cond.laysFinal "BallBox$Search" "BallBox$Search" "roller" "LBallBox$Roller;" ∈ TB := tb_2 (i := 26) rfl rfl
theorem tw268 : Cond.laysFinal "BallBox$Search" "BallBox$Search" "queue" "[I" ∈ TB := tb_2 (i := 28) rfl rfl
theorem tw270 : Cond.laysFinal "BallBox$Search" "BallBox$Search" "cameBy" "[I" ∈ TB := tb_2 (i := 30) rfl rfl
theorem tw272 : Cond.laysFinal "BallBox$Search" "BallBox$Search" "seen" "[J" ∈ TB := tb_2 (i := 32) rfl rfl
theorem tw274 : Cond.lays "BallBox$Search" "BallBox$Search" "queued" "I" ∈ TB := tb_2 (i := 34) rfl rfl
theorem tw276 : Cond.lays "BallBox$Search" "BallBox$Search" "homeCameBy" "I" ∈ TB := tb_2 (i := 36) rfl rfl
theorem tw278 : Cond.lays "BallBox$Search" "BallBox$Search" "asOf" "I" ∈ TB := tb_2 (i := 38) rfl rfl
theorem tw280 : Cond.lays "BallBox$Search" "BallBox$Search" "fewest" "I" ∈ TB := tb_2 (i := 40) rfl rfl
theorem tw282 : Cond.superclass "BallBox$Search" "java/lang/Object" ∈ TB := tb_2 (i := 42) rfl rfl
theorem tw283 : Cond.classLink "BallBox" (46 : Nat) "BallBox$Carver" ∈ TB := tb_2 (i := 43) rfl rfl
theorem tw284 : Cond.instantiable "BallBox$Carver" (5 : Nat) ∈ TB := tb_2 (i := 44) rfl rfl
theorem tw285 : Cond.methodLink "BallBox" (48 : Nat) y_CA_init ∈ TB := tb_2 (i := 45) rfl rfl
theorem tw286 : Cond.instanceMethod y_CA_init ∈ TB := tb_2 (i := 46) rfl rfl
theorem tw287 : Cond.code y_CA_init prog_3_method_1_code (2 : Nat) (Option.none : Option FieldType) ∈ TB := tb_2 (i := 47) rfl rfl
theorem tw288 : Cond.methodLink "BallBox$Carver" (3 : Nat) y_JO_init ∈ TB := tb_2 (i := 48) rfl rfl
theorem tw289 : Cond.classLink "BallBox$Carver" (9 : Nat) "BallBox$State" ∈ TB := tb_2 (i := 49) rfl rfl
theorem tw290 : Cond.methodLink "BallBox$Carver" (11 : Nat) y_SA_init ∈ TB := tb_2 (i := 50) rfl rfl
theorem tw291 : Cond.classLink "BallBox$Carver" (28 : Nat) "BallBox$Search" ∈ TB := tb_2 (i := 51) rfl rfl
theorem tw292 : Cond.methodLink "BallBox$Carver" (30 : Nat) y_SE_init ∈ TB := tb_2 (i := 52) rfl rfl
theorem tw293 : Cond.fieldLink "BallBox$Carver" (33 : Nat) "BallBox$Carver" "search" "LBallBox$Search;" ∈ TB := tb_2 (i := 53) rfl rfl
theorem tw294 : Cond.fieldLink "BallBox$Carver" (12 : Nat) "BallBox$Carver" "tried" "LBallBox$State;" ∈ TB := tb_2 (i := 54) rfl rfl
theorem tw295 : Cond.fieldLink "BallBox$Carver" (18 : Nat) "BallBox$Carver" "asOf" "[I" ∈ TB := tb_2 (i := 55) rfl rfl
theorem tw296 : Cond.fieldLink "BallBox$Carver" (22 : Nat) "BallBox$Carver" "bestSpots" "[I" ∈ TB := tb_2 (i := 56) rfl rfl
theorem tw297 : Cond.fieldLink "BallBox$Carver" (25 : Nat) "BallBox$Carver" "bestTips" "[I" ∈ TB := tb_2 (i := 57) rfl rfl
theorem tw298 : Cond.laysFinal "BallBox$Carver" "BallBox$Carver" "search" "LBallBox$Search;" ∈ TB := tb_2 (i := 58) rfl rfl
theorem tw300 : Cond.laysFinal "BallBox$Carver" "BallBox$Carver" "tried" "LBallBox$State;" ∈ TB := tb_2 (i := 60) rfl rfl
theorem tw302 : Cond.laysFinal "BallBox$Carver" "BallBox$Carver" "asOf" "[I" ∈ TB := tb_2 (i := 62) rfl rfl
theorem tw304 : Cond.laysFinal "BallBox$Carver" "BallBox$Carver" "bestSpots" "[I" ∈ TB := tb_2 (i := 64) rfl rfl
theorem tw306 : Cond.laysFinal "BallBox$Carver" "BallBox$Carver" "bestTips" "[I" ∈ TB := tb_2 (i := 66) rfl rfl
theorem tw308 : Cond.superclass "BallBox$Carver" "java/lang/Object" ∈ TB := tb_2 (i := 68) rfl rfl
theorem tw309 : Cond.classLink "BallBox" (53 : Nat) "BallBox$Pairs" ∈ TB := tb_2 (i := 69) rfl rfl
theorem tw310 : Cond.instantiable "BallBox$Pairs" (16 : Nat) ∈ TB := tb_2 (i := 70) rfl rfl
theorem tw311 : Cond.methodLink "BallBox" (55 : Nat) y_PA_init ∈ TB := tb_2 (i := 71) rfl rfl
theorem tw312 : Cond.instanceMethod y_PA_init ∈ TB := tb_2 (i := 72) rfl rfl
theorem tw313 : Cond.code y_PA_init prog_5_method_1_code (2 : Nat) (Option.none : Option FieldType) ∈ TB := tb_2 (i := 73) rfl rfl
theorem tw314 : Cond.methodLink "BallBox$Pairs" (3 : Nat) y_JO_init ∈ TB := tb_2 (i := 74) rfl rfl
theorem tw315 : Cond.fieldLink "BallBox$Pairs" (42 : Nat) "BallBox$Pairs" "roller" "LBallBox$Roller;" ∈ TB := tb_2 (i := 75) rfl rfl
theorem tw316 : Cond.fieldLink "BallBox$Pairs" (11 : Nat) "BallBox$Pairs" "plain" "[I" ∈ TB := tb_2 (i := 76) rfl rfl
theorem tw317 : Cond.fieldLink "BallBox$Pairs" (17 : Nat) "BallBox$Pairs" "reached" "[I" ∈ TB := tb_2 (i := 77) rfl rfl
theorem tw318 : Cond.fieldLink "BallBox$Pairs" (20 : Nat) "BallBox$Pairs" "far" "[I" ∈ TB := tb_2 (i := 78) rfl rfl
theorem tw319 : Cond.fieldLink "BallBox$Pairs" (23 : Nat) "BallBox$Pairs" "listed" "[I" ∈ TB := tb_2 (i := 79) rfl rfl
theorem tw320 : Cond.fieldLink "BallBox$Pairs" (26 : Nat) "BallBox$Pairs" "marks" "[I" ∈ TB := tb_2 (i := 80) rfl rfl
theorem tw321 : Cond.fieldLink "BallBox$Pairs" (29 : Nat) "BallBox$Pairs" "sets" "[I" ∈ TB := tb_2 (i := 81) rfl rfl
theorem tw322 : Cond.fieldLink "BallBox$Pairs" (32 : Nat) "BallBox$Pairs" "sizes" "[I" ∈ TB := tb_2 (i := 82) rfl rfl
theorem tw323 : Cond.fieldLink "BallBox$Pairs" (35 : Nat) "BallBox$Pairs" "tried" "[I" ∈ TB := tb_2 (i := 83) rfl rfl
theorem tw324 : Cond.fieldLink "BallBox$Pairs" (77 : Nat) "BallBox$Pairs" "listedCount" "I" ∈ TB := tb_2 (i := 84) rfl rfl
theorem tw325 : Cond.fieldLink "BallBox$Pairs" (120 : Nat) "BallBox$Pairs" "mark" "I" ∈ TB := tb_2 (i := 85) rfl rfl
theorem tw326 : Cond.fieldLink "BallBox$Pairs" (38 : Nat) "BallBox$Pairs" "asOf" "I" ∈ TB := tb_2 (i := 86) rfl rfl
theorem tw327 : Cond.fieldLink "BallBox$Pairs" (67 : Nat) "BallBox$Pairs" "lengthsTried" "I" ∈ TB := tb_2 (i := 87) rfl rfl
theorem tw328 : Cond.fieldLink "BallBox$Pairs" (70 : Nat) "BallBox$Pairs" "blindFound" "I" ∈ TB := tb_2 (i := 88) rfl rfl
theorem tw329 : Cond.fieldLink "BallBox$Pairs" (99 : Nat) "BallBox$Pairs" "hardestFar" "I" ∈ TB := tb_2 (i := 89) rfl rfl
theorem tw330 : Cond.fieldLink "BallBox" (245 : Nat) "BallBox$Pairs" "hardestFar" "I" ∈ TB := tb_2 (i := 90) rfl rfl
theorem tw331 : Cond.fieldLink "BallBox$Pairs" (102 : Nat) "BallBox$Pairs" "hardestStart" "I" ∈ TB := tb_2 (i := 91) rfl rfl
theorem tw332 : Cond.fieldLink "BallBox" (248 : Nat) "BallBox$Pairs" "hardestStart" "I" ∈ TB := tb_2 (i := 92) rfl rfl
theorem tw333 : Cond.laysFinal "BallBox$Pairs" "BallBox$Pairs" "roller" "LBallBox$Roller;" ∈ TB := tb_2 (i := 93) rfl rfl
theorem tw335 : Cond.laysFinal "BallBox$Pairs" "BallBox$Pairs" "plain" "[I" ∈ TB := tb_2 (i := 95) rfl rfl
theorem tw337 : Cond.laysFinal "BallBox$Pairs" "BallBox$Pairs" "reached" "[I" ∈ TB := tb_2 (i := 97) rfl rfl
theorem tw339 : Cond.laysFinal "BallBox$Pairs" "BallBox$Pairs" "far" "[I" ∈ TB := tb_2 (i := 99) rfl rfl
theorem tw341 : Cond.laysFinal "BallBox$Pairs" "BallBox$Pairs" "listed" "[I" ∈ TB := tb_2 (i := 101) rfl rfl
theorem tw343 : Cond.laysFinal "BallBox$Pairs" "BallBox$Pairs" "marks" "[I" ∈ TB := tb_2 (i := 103) rfl rfl
theorem tw345 : Cond.laysFinal "BallBox$Pairs" "BallBox$Pairs" "sets" "[I" ∈ TB := tb_2 (i := 105) rfl rfl
theorem tw347 : Cond.laysFinal "BallBox$Pairs" "BallBox$Pairs" "sizes" "[I" ∈ TB := tb_2 (i := 107) rfl rfl
theorem tw349 : Cond.laysFinal "BallBox$Pairs" "BallBox$Pairs" "tried" "[I" ∈ TB := tb_2 (i := 109) rfl rfl
theorem tw351 : Cond.lays "BallBox$Pairs" "BallBox$Pairs" "listedCount" "I" ∈ TB := tb_2 (i := 111) rfl rfl
theorem tw353 : Cond.lays "BallBox$Pairs" "BallBox$Pairs" "mark" "I" ∈ TB := tb_2 (i := 113) rfl rfl
theorem tw355 : Cond.lays "BallBox$Pairs" "BallBox$Pairs" "asOf" "I" ∈ TB := tb_2 (i := 115) rfl rfl
theorem tw357 : Cond.lays "BallBox$Pairs" "BallBox$Pairs" "lengthsTried" "I" ∈ TB := tb_2 (i := 117) rfl rfl
theorem tw359 : Cond.lays "BallBox$Pairs" "BallBox$Pairs" "blindFound" "I" ∈ TB := tb_2 (i := 119) rfl rfl
theorem tw361 : Cond.lays "BallBox$Pairs" "BallBox$Pairs" "hardestFar" "I" ∈ TB := tb_2 (i := 121) rfl rfl
theorem tw363 : Cond.lays "BallBox$Pairs" "BallBox$Pairs" "hardestStart" "I" ∈ TB := tb_2 (i := 123) rfl rfl
theorem tw365 : Cond.superclass "BallBox$Pairs" "java/lang/Object" ∈ TB := tb_2 (i := 125) rfl rfl
theorem tw366 : Cond.classLink "BallBox" (60 : Nat) "BallBox$Listener" ∈ TB := tb_2 (i := 126) rfl rfl
theorem tw367 : Cond.instantiable "BallBox$Listener" (10 : Nat) ∈ TB := tb_2 (i := 127) rfl rfl
theorem tw368 : Cond.methodLink "BallBox" (62 : Nat) y_LI_init ∈ TB := tb_2 (i := 128) rfl rfl
theorem tw369 : Cond.instanceMethod y_LI_init ∈ TB := tb_2 (i := 129) rfl rfl
theorem tw370 : Cond.code y_LI_init prog_4_method_1_code (2 : Nat) (Option.none : Option FieldType) ∈ TB := tb_2 (i := 130) rfl rfl
theorem tw371 : Cond.methodLink "BallBox$Listener" (3 : Nat) y_JO_init ∈ TB := tb_2 (i := 131) rfl rfl
theorem tw372 : Cond.fieldLink "BallBox$Listener" (28 : Nat) "BallBox$Listener" "roller" "LBallBox$Roller;" ∈ TB := tb_2 (i := 132) rfl rfl
theorem tw373 : Cond.fieldLink "BallBox$Listener" (11 : Nat) "BallBox$Listener" "plain" "[I" ∈ TB := tb_2 (i := 133) rfl rfl
theorem tw374 : Cond.fieldLink "BallBox$Listener" (17 : Nat) "BallBox$Listener" "spots" "[J" ∈ TB := tb_2 (i := 134) rfl rfl
theorem tw375 : Cond.fieldLink "BallBox$Listener" (21 : Nat) "BallBox$Listener" "alike" "[I" ∈ TB := tb_2 (i := 135) rfl rfl
theorem tw376 : Cond.fieldLink "BallBox$Listener" (24 : Nat) "BallBox$Listener" "asOf" "I" ∈ TB := tb_2 (i := 136) rfl rfl
theorem tw377 : Cond.fieldLink "BallBox$Listener" (39 : Nat) "BallBox$Listener" "tellsToo" "Z" ∈ TB := tb_2 (i := 137) rfl rfl
theorem tw378 : Cond.fieldLink "BallBox$Listener" (43 : Nat) "BallBox$Listener" "fitting" "I" ∈ TB := tb_2 (i := 138) rfl rfl
theorem tw379 : Cond.fieldLink "BallBox" (266 : Nat) "BallBox$Listener" "fitting" "I" ∈ TB := tb_2 (i := 139) rfl rfl
theorem tw380 : Cond.fieldLink "BallBox$Listener" (102 : Nat) "BallBox$Listener" "firstStart" "I" ∈ TB := tb_2 (i := 140) rfl rfl
theorem tw381 : Cond.fieldLink "BallBox" (269 : Nat) "BallBox$Listener" "firstStart" "I" ∈ TB := tb_2 (i := 141) rfl rfl
theorem tw382 : Cond.fieldLink "BallBox$Listener" (112 : Nat) "BallBox$Listener" "tellingWay" "I" ∈ TB := tb_2 (i := 142) rfl rfl
theorem tw383 : Cond.fieldLink "BallBox" (276 : Nat) "BallBox$Listener" "tellingWay" "I" ∈ TB := tb_2 (i := 143) rfl rfl
theorem tw384 : Cond.fieldLink "BallBox$Listener" (120 : Nat) "BallBox$Listener" "mostAlike" "I" ∈ TB := tb_2 (i := 144) rfl rfl
theorem tw385 : Cond.fieldLink "BallBox" (279 : Nat) "BallBox$Listener" "mostAlike" "I" ∈ TB := tb_2 (i := 145) rfl rfl
theorem tw386 : Cond.laysFinal "BallBox$Listener" "BallBox$Listener" "roller" "LBallBox$Roller;" ∈ TB := tb_2 (i := 146) rfl rfl
theorem tw388 : Cond.laysFinal "BallBox$Listener" "BallBox$Listener" "plain" "[I" ∈ TB := tb_2 (i := 148) rfl rfl
theorem tw390 : Cond.laysFinal "BallBox$Listener" "BallBox$Listener" "spots" "[J" ∈ TB := tb_2 (i := 150) rfl rfl
theorem tw392 : Cond.laysFinal "BallBox$Listener" "BallBox$Listener" "alike" "[I" ∈ TB := tb_2 (i := 152) rfl rfl
theorem tw394 : Cond.lays "BallBox$Listener" "BallBox$Listener" "asOf" "I" ∈ TB := tb_2 (i := 154) rfl rfl
theorem tw396 : Cond.lays "BallBox$Listener" "BallBox$Listener" "tellsToo" "Z" ∈ TB := tb_2 (i := 156) rfl rfl
theorem tw398 : Cond.lays "BallBox$Listener" "BallBox$Listener" "fitting" "I" ∈ TB := tb_2 (i := 158) rfl rfl
theorem tw400 : Cond.lays "BallBox$Listener" "BallBox$Listener" "firstStart" "I" ∈ TB := tb_2 (i := 160) rfl rfl
theorem tw402 : Cond.lays "BallBox$Listener" "BallBox$Listener" "tellingWay" "I" ∈ TB := tb_2 (i := 162) rfl rfl
theorem tw404 : Cond.lays "BallBox$Listener" "BallBox$Listener" "mostAlike" "I" ∈ TB := tb_2 (i := 164) rfl rfl
theorem tw406 : Cond.superclass "BallBox$Listener" "java/lang/Object" ∈ TB := tb_2 (i := 166) rfl rfl
theorem tw407 : Cond.classLink "BallBox" (67 : Nat) "BallBox$Trial" ∈ TB := tb_2 (i := 167) rfl rfl
theorem tw408 : Cond.instantiable "BallBox$Trial" (8 : Nat) ∈ TB := tb_2 (i := 168) rfl rfl
theorem tw409 : Cond.methodLink "BallBox" (69 : Nat) y_TR_init ∈ TB := tb_2 (i := 169) rfl rfl
theorem tw410 : Cond.instanceMethod y_TR_init ∈ TB := tb_2 (i := 170) rfl rfl
theorem tw411 : Cond.code y_TR_init prog_12_method_1_code (2 : Nat) (Option.none : Option FieldType) ∈ TB := tb_2 (i := 171) rfl rfl
theorem tw412 : Cond.methodLink "BallBox$Trial" (3 : Nat) y_JO_init ∈ TB := tb_2 (i := 172) rfl rfl
theorem tw413 : Cond.fieldLink "BallBox$Trial" (9 : Nat) "BallBox$Trial" "roller" "LBallBox$Roller;" ∈ TB := tb_2 (i := 173) rfl rfl
theorem tw414 : Cond.fieldLink "BallBox$Trial" (21 : Nat) "BallBox$Trial" "situation" "I" ∈ TB := tb_2 (i := 174) rfl rfl
theorem tw415 : Cond.fieldLink "BallBox" (201 : Nat) "BallBox$Trial" "situation" "I" ∈ TB := tb_2 (i := 175) rfl rfl
theorem tw416 : Cond.fieldLink "BallBox$Trial" (22 : Nat) "BallBox$Trial" "hits" "I" ∈ TB := tb_2 (i := 176) rfl rfl
theorem tw417 : Cond.fieldLink "BallBox" (208 : Nat) "BallBox$Trial" "hits" "I" ∈ TB := tb_2 (i := 177) rfl rfl
theorem tw418 : Cond.fieldLink "BallBox$Trial" (25 : Nat) "BallBox$Trial" "falls" "I" ∈ TB := tb_2 (i := 178) rfl rfl
theorem tw419 : Cond.fieldLink "BallBox" (209 : Nat) "BallBox$Trial" "falls" "I" ∈ TB := tb_2 (i := 179) rfl rfl
theorem tw420 : Cond.fieldLink "BallBox$Trial" (47 : Nat) "BallBox$Trial" "above" "J" ∈ TB := tb_2 (i := 180) rfl rfl
theorem tw421 : Cond.fieldLink "BallBox" (216 : Nat) "BallBox$Trial" "above" "J" ∈ TB := tb_2 (i := 181) rfl rfl
theorem tw422 : Cond.fieldLink "BallBox$Trial" (51 : Nat) "BallBox$Trial" "below" "J" ∈ TB := tb_2 (i := 182) rfl rfl
theorem tw423 : Cond.fieldLink "BallBox" (220 : Nat) "BallBox$Trial" "below" "J" ∈ TB := tb_2 (i := 183) rfl rfl
theorem tw424 : Cond.fieldLink "BallBox$Trial" (83 : Nat) "BallBox$Trial" "timesHome" "I" ∈ TB := tb_2 (i := 184) rfl rfl
theorem tw425 : Cond.fieldLink "BallBox" (302 : Nat) "BallBox$Trial" "timesHome" "I" ∈ TB := tb_2 (i := 185) rfl rfl
theorem tw426 : Cond.fieldLink "BallBox$Trial" (86 : Nat) "BallBox$Trial" "lost" "I" ∈ TB := tb_2 (i := 186) rfl rfl
theorem tw427 : Cond.fieldLink "BallBox" (305 : Nat) "BallBox$Trial" "lost" "I" ∈ TB := tb_2 (i := 187) rfl rfl
theorem tw428 : Cond.laysFinal "BallBox$Trial" "BallBox$Trial" "roller" "LBallBox$Roller;" ∈ TB := tb_2 (i := 188) rfl rfl
theorem tw430 : Cond.lays "BallBox$Trial" "BallBox$Trial" "situation" "I" ∈ TB := tb_2 (i := 190) rfl rfl
theorem tw432 : Cond.lays "BallBox$Trial" "BallBox$Trial" "hits" "I" ∈ TB := tb_2 (i := 192) rfl rfl
theorem tw434 : Cond.lays "BallBox$Trial" "BallBox$Trial" "falls" "I" ∈ TB := tb_2 (i := 194) rfl rfl
theorem tw436 : Cond.lays "BallBox$Trial" "BallBox$Trial" "above" "J" ∈ TB := tb_2 (i := 196) rfl rfl
theorem tw438 : Cond.lays "BallBox$Trial" "BallBox$Trial" "below" "J" ∈ TB := tb_2 (i := 198) rfl rfl
theorem tw440 : Cond.lays "BallBox$Trial" "BallBox$Trial" "timesHome" "I" ∈ TB := tb_2 (i := 200) rfl rfl
theorem tw442 : Cond.lays "BallBox$Trial" "BallBox$Trial" "lost" "I" ∈ TB := tb_2 (i := 202) rfl rfl
theorem tw444 : Cond.superclass "BallBox$Trial" "java/lang/Object" ∈ TB := tb_2 (i := 204) rfl rfl
theorem tw445 : Cond.classLink "BallBox" (74 : Nat) "BallBox$State" ∈ TB := tb_2 (i := 205) rfl rfl
theorem tw446 : Cond.methodLink "BallBox" (76 : Nat) y_SA_init ∈ TB := tb_2 (i := 206) rfl rfl
theorem tw448 : Cond.fieldLink "BallBox" (10 : Nat) "BallBox" "tape" "LBallBox$Tape;" ∈ TB := tb_2 (i := 208) rfl rfl
theorem tw449 : Cond.fieldLink "BallBox" (19 : Nat) "BallBox" "boxReader" "LBallBox$BoxReader;" ∈ TB := tb_2 (i := 209) rfl rfl
theorem tw450 : Cond.fieldLink "BallBox" (26 : Nat) "BallBox" "ruleReader" "LBallBox$RuleReader;" ∈ TB := tb_2 (i := 210) rfl rfl
theorem tw451 : Cond.fieldLink "BallBox" (33 : Nat) "BallBox" "roller" "LBallBox$Roller;" ∈ TB := tb_2 (i := 211) rfl rfl
theorem tw452 : Cond.fieldLink "BallBox" (42 : Nat) "BallBox" "search" "LBallBox$Search;" ∈ TB := tb_2 (i := 212) rfl rfl
theorem tw453 : Cond.fieldLink "BallBox" (49 : Nat) "BallBox" "carver" "LBallBox$Carver;" ∈ TB := tb_2 (i := 213) rfl rfl
theorem tw454 : Cond.fieldLink "BallBox" (56 : Nat) "BallBox" "pairs" "LBallBox$Pairs;" ∈ TB := tb_2 (i := 214) rfl rfl
theorem tw455 : Cond.fieldLink "BallBox" (63 : Nat) "BallBox" "listener" "LBallBox$Listener;" ∈ TB := tb_2 (i := 215) rfl rfl
theorem tw456 : Cond.fieldLink "BallBox" (70 : Nat) "BallBox" "trial" "LBallBox$Trial;" ∈ TB := tb_2 (i := 216) rfl rfl
theorem tw457 : Cond.fieldLink "BallBox" (77 : Nat) "BallBox" "state" "LBallBox$State;" ∈ TB := tb_2 (i := 217) rfl rfl
theorem tw458 : Cond.fieldLink "BallBox" (81 : Nat) "BallBox" "images" "[LBallBox$State;" ∈ TB := tb_2 (i := 218) rfl rfl
theorem tw459 : Cond.fieldLink "BallBox" (85 : Nat) "BallBox" "pages" "[LBallBox$State;" ∈ TB := tb_2 (i := 219) rfl rfl
theorem tw460 : Cond.fieldLink "BallBox" (88 : Nat) "BallBox" "pains" "[I" ∈ TB := tb_2 (i := 220) rfl rfl
theorem tw461 : Cond.fieldLink "BallBox" (286 : Nat) "BallBox" "pageCount" "I" ∈ TB := tb_2 (i := 221) rfl rfl
theorem tw462 : Cond.fieldLink "BallBox" (111 : Nat) "BallBox" "changes" "I" ∈ TB := tb_2 (i := 222) rfl rfl
theorem tw463 : Cond.laysFinal "BallBox" "BallBox" "tape" "LBallBox$Tape;" ∈ TB := tb_2 (i := 223) rfl rfl
theorem tw465 : Cond.laysFinal "BallBox" "BallBox" "boxReader" "LBallBox$BoxReader;" ∈ TB := tb_2 (i := 225) rfl rfl
theorem tw467 : Cond.laysFinal "BallBox" "BallBox" "ruleReader" "LBallBox$RuleReader;" ∈ TB := tb_2 (i := 227) rfl rfl
theorem tw469 : Cond.laysFinal "BallBox" "BallBox" "roller" "LBallBox$Roller;" ∈ TB := tb_2 (i := 229) rfl rfl
theorem tw471 : Cond.laysFinal "BallBox" "BallBox" "search" "LBallBox$Search;" ∈ TB := tb_2 (i := 231) rfl rfl
theorem tw473 : Cond.laysFinal "BallBox" "BallBox" "carver" "LBallBox$Carver;" ∈ TB := tb_2 (i := 233) rfl rfl
theorem tw475 : Cond.laysFinal "BallBox" "BallBox" "pairs" "LBallBox$Pairs;" ∈ TB := tb_2 (i := 235) rfl rfl
theorem tw477 : Cond.laysFinal "BallBox" "BallBox" "listener" "LBallBox$Listener;" ∈ TB := tb_2 (i := 237) rfl rfl
theorem tw479 : Cond.laysFinal "BallBox" "BallBox" "trial" "LBallBox$Trial;" ∈ TB := tb_2 (i := 239) rfl rfl
theorem tw481 : Cond.laysFinal "BallBox" "BallBox" "state" "LBallBox$State;" ∈ TB := tb_3 (i := 1) rfl rfl
theorem tw483 : Cond.laysFinal "BallBox" "BallBox" "images" "[LBallBox$State;" ∈ TB := tb_3 (i := 3) rfl rfl
theorem tw485 : Cond.laysFinal "BallBox" "BallBox" "pages" "[LBallBox$State;" ∈ TB := tb_3 (i := 5) rfl rfl
theorem tw487 : Cond.laysFinal "BallBox" "BallBox" "pains" "[I" ∈ TB := tb_3 (i := 7) rfl rfl
theorem tw489 : Cond.lays "BallBox" "BallBox" "pageCount" "I" ∈ TB := tb_3 (i := 9) rfl rfl
theorem tw491 : Cond.lays "BallBox" "BallBox" "changes" "I" ∈ TB := tb_3 (i := 11) rfl rfl
theorem tw493 : Cond.superclass "BallBox" "java/lang/Object" ∈ TB := tb_3 (i := 13) rfl rfl
theorem tw494 : Cond.methodLink "BallBoxLaw" (13 : Nat) y_BB_feed ∈ TB := tb_3 (i := 14) rfl rfl
theorem tw495 : Cond.instanceMethod y_BB_feed ∈ TB := tb_3 (i := 15) rfl rfl
theorem tw496 : Cond.selects "BallBox" y_BB_feed y_BB_feed ∈ TB := tb_3 (i := 16) rfl rfl
theorem tw497 : Cond.code y_BB_feed prog_1_method_2_code (6 : Nat) (Option.some FieldType.int) ∈ TB := tb_3 (i := 17) rfl rfl
theorem tw498 : Cond.methodLink "BallBox" (96 : Nat) y_TA_takeFour ∈ TB := tb_3 (i := 18) rfl rfl
theorem tw499 : Cond.instanceMethod y_TA_takeFour ∈ TB := tb_3 (i := 19) rfl rfl
theorem tw500 : Cond.selects "BallBox$Tape" y_TA_takeFour y_TA_takeFour ∈ TB := tb_3 (i := 20) rfl rfl
theorem tw501 : Cond.code y_TA_takeFour prog_11_method_2_code (3 : Nat) (Option.none : Option FieldType) ∈ TB := tb_3 (i := 21) rfl rfl
theorem tw502 : Cond.methodLink "BallBoxLaw" (18 : Nat) y_BB_end ∈ TB := tb_3 (i := 22) rfl rfl
theorem tw503 : Cond.instanceMethod y_BB_end ∈ TB := tb_3 (i := 23) rfl rfl
theorem tw504 : Cond.selects "BallBox" y_BB_end y_BB_end ∈ TB := tb_3 (i := 24) rfl rfl
theorem tw505 : Cond.code y_BB_end prog_1_method_3_code (2 : Nat) (Option.some FieldType.int) ∈ TB := tb_3 (i := 25) rfl rfl
theorem tw506 : Cond.methodLink "BallBoxLaw" (23 : Nat) y_BB_box ∈ TB := tb_3 (i := 26) rfl rfl
theorem tw507 : Cond.instanceMethod y_BB_box ∈ TB := tb_3 (i := 27) rfl rfl
theorem tw508 : Cond.selects "BallBox" y_BB_box y_BB_box ∈ TB := tb_3 (i := 28) rfl rfl
theorem tw509 : Cond.code y_BB_box prog_1_method_4_code (2 : Nat) (Option.some FieldType.int) ∈ TB := tb_3 (i := 29) rfl rfl
theorem tw510 : Cond.methodLink "BallBox" (100 : Nat) y_BR_read ∈ TB := tb_3 (i := 30) rfl rfl
theorem tw511 : Cond.instanceMethod y_BR_read ∈ TB := tb_3 (i := 31) rfl rfl
theorem tw512 : Cond.selects "BallBox$BoxReader" y_BR_read y_BR_read ∈ TB := tb_3 (i := 32) rfl rfl
theorem tw513 : Cond.code y_BR_read prog_2_method_2_code (3 : Nat) (Option.some FieldType.int) ∈ TB := tb_3 (i := 33) rfl rfl
theorem tw514 : Cond.methodLink "BallBox$BoxReader" (18 : Nat) y_SA_clearBox ∈ TB := tb_3 (i := 34) rfl rfl
theorem tw515 : Cond.instanceMethod y_SA_clearBox ∈ TB := tb_3 (i := 35) rfl rfl
theorem tw516 : Cond.selects "BallBox$State" y_SA_clearBox y_SA_clearBox ∈ TB := tb_3 (i := 36) rfl rfl
theorem tw517 : Cond.code y_SA_clearBox prog_10_method_23_code (1 : Nat) (Option.none : Option FieldType) ∈ TB := tb_3 (i := 37) rfl rfl
theorem tw518 : Cond.methodLink "BallBox$BoxReader" (21 : Nat) y_TA_start ∈ TB := tb_3 (i := 38) rfl rfl
theorem tw519 : Cond.instanceMethod y_TA_start ∈ TB := tb_3 (i := 39) rfl rfl
theorem tw520 : Cond.selects "BallBox$Tape" y_TA_start y_TA_start ∈ TB := tb_3 (i := 40) rfl rfl
theorem tw521 : Cond.code y_TA_start prog_11_method_3_code (1 : Nat) (Option.none : Option FieldType) ∈ TB := tb_3 (i := 41) rfl rfl
theorem tw522 : Cond.methodLink "BallBox$BoxReader" (26 : Nat) y_BR_readClause ∈ TB := tb_3 (i := 42) rfl rfl
theorem tw524 : Cond.instanceMethod y_BR_readClause ∈ TB := tb_3 (i := 44) rfl rfl
theorem tw525 : Cond.code y_BR_readClause prog_2_method_3_code (4 : Nat) (Option.some FieldType.boolean) ∈ TB := tb_3 (i := 45) rfl rfl
theorem tw526 : Cond.methodLink "BallBox$BoxReader" (34 : Nat) y_TA_skipBlanks ∈ TB := tb_3 (i := 46) rfl rfl
theorem tw527 : Cond.instanceMethod y_TA_skipBlanks ∈ TB := tb_3 (i := 47) rfl rfl
theorem tw528 : Cond.selects "BallBox$Tape" y_TA_skipBlanks y_TA_skipBlanks ∈ TB := tb_3 (i := 48) rfl rfl
theorem tw529 : Cond.code y_TA_skipBlanks prog_11_method_7_code (1 : Nat) (Option.none : Option FieldType) ∈ TB := tb_3 (i := 49) rfl rfl
theorem tw530 : Cond.methodLink "BallBox$BoxReader" (52 : Nat) y_TA_endOfWord ∈ TB := tb_3 (i := 50) rfl rfl
theorem tw531 : Cond.instanceMethod y_TA_endOfWord ∈ TB := tb_3 (i := 51) rfl rfl
theorem tw532 : Cond.selects "BallBox$Tape" y_TA_endOfWord y_TA_endOfWord ∈ TB := tb_3 (i := 52) rfl rfl
theorem tw533 : Cond.code y_TA_endOfWord prog_11_method_8_code (2 : Nat) (Option.some FieldType.int) ∈ TB := tb_3 (i := 53) rfl rfl
theorem tw535 : Cond.methodLink "BallBox$BoxReader" (58 : Nat) y_TA_isWord ∈ TB := tb_3 (i := 55) rfl rfl
theorem tw536 : Cond.instanceMethod y_TA_isWord ∈ TB := tb_3 (i := 56) rfl rfl
theorem tw537 : Cond.selects "BallBox$Tape" y_TA_isWord y_TA_isWord ∈ TB := tb_3 (i := 57) rfl rfl
theorem tw538 : Cond.code y_TA_isWord prog_11_method_10_code (4 : Nat) (Option.some FieldType.boolean) ∈ TB := tb_3 (i := 58) rfl rfl
theorem tw539 : Cond.methodLink "BallBox$Tape" (25 : Nat) y_JS_length ∈ TB := tb_3 (i := 59) rfl rfl
theorem tw540 : Cond.instanceMethod y_JS_length ∈ TB := tb_3 (i := 60) rfl rfl
theorem tw541 : Cond.selects "java/lang/String" y_JS_length y_JS_length ∈ TB := tb_3 (i := 61) rfl rfl
theorem tw542 : Cond.code y_JS_length prog_17_method_54_code (1 : Nat) (Option.some FieldType.int) ∈ TB := tb_3 (i := 62) rfl rfl
theorem tw543 : Cond.methodLink "java/lang/String" (335 : Nat) y_JS_coder ∈ TB := tb_3 (i := 63) rfl rfl
theorem tw544 : Cond.instanceMethod y_JS_coder ∈ TB := tb_3 (i := 64) rfl rfl
theorem tw545 : Cond.selects "java/lang/String" y_JS_coder y_JS_coder ∈ TB := tb_3 (i := 65) rfl rfl
theorem tw546 : Cond.code y_JS_coder prog_17_method_152_code (1 : Nat) (Option.some FieldType.byte) ∈ TB := tb_3 (i := 66) rfl rfl
theorem tw547 : Cond.fieldLink "java/lang/String" (38 : Nat) "java/lang/String" "COMPACT_STRINGS" "Z" ∈ TB := tb_3 (i := 67) rfl rfl
theorem tw549 : Cond.methodLink "BallBox$Tape" (30 : Nat) y_JS_charAt ∈ TB := tb_3 (i := 69) rfl rfl
theorem tw550 : Cond.instanceMethod y_JS_charAt ∈ TB := tb_3 (i := 70) rfl rfl
theorem tw551 : Cond.selects "java/lang/String" y_JS_charAt y_JS_charAt ∈ TB := tb_3 (i := 71) rfl rfl
theorem tw552 : Cond.code y_JS_charAt prog_17_method_56_code (2 : Nat) (Option.some FieldType.char) ∈ TB := tb_3 (i := 72) rfl rfl
theorem tw553 : Cond.methodLink "java/lang/String" (492 : Nat) y_JS_isLatin1 ∈ TB := tb_3 (i := 73) rfl rfl
theorem tw554 : Cond.instanceMethod y_JS_isLatin1 ∈ TB := tb_3 (i := 74) rfl rfl
theorem tw555 : Cond.selects "java/lang/String" y_JS_isLatin1 y_JS_isLatin1 ∈ TB := tb_3 (i := 75) rfl rfl
theorem tw556 : Cond.code y_JS_isLatin1 prog_17_method_154_code (1 : Nat) (Option.some FieldType.boolean) ∈ TB := tb_3 (i := 76) rfl rfl
theorem tw557 : Cond.methodLink "java/lang/String" (495 : Nat) y_JL_charAt ∈ TB := tb_3 (i := 77) rfl rfl
theorem tw558 : Cond.static y_JL_charAt ∈ TB := tb_3 (i := 78) rfl rfl
theorem tw559 : Cond.code y_JL_charAt prog_18_method_2_code (2 : Nat) (Option.some FieldType.char) ∈ TB := tb_3 (i := 79) rfl rfl
theorem tw560 : Cond.methodLink "java/lang/StringLatin1" (9 : Nat) y_JS_checkIndex ∈ TB := tb_3 (i := 80) rfl rfl
theorem tw561 : Cond.static y_JS_checkIndex ∈ TB := tb_3 (i := 81) rfl rfl
theorem tw562 : Cond.code y_JS_checkIndex prog_17_method_155_code (2 : Nat) (Option.none : Option FieldType) ∈ TB := tb_3 (i := 82) rfl rfl
theorem tw563 : Cond.fieldLink "java/lang/String" (1053 : Nat) "jdk/internal/util/Preconditions" "SIOOBE_FORMATTER" "Ljava/util/function/BiFunction;" ∈ TB := tb_3 (i := 83) rfl rfl
theorem tw565 : Cond.methodLink "java/lang/String" (1059 : Nat) y_JP_checkIndex ∈ TB := tb_3 (i := 85) rfl rfl
theorem tw566 : Cond.static y_JP_checkIndex ∈ TB := tb_3 (i := 86) rfl rfl
theorem tw567 : Cond.code y_JP_checkIndex prog_22_method_11_code (3 : Nat) (Option.some FieldType.int) ∈ TB := tb_3 (i := 87) rfl rfl
theorem tw568 : Cond.methodLink "java/lang/String" (498 : Nat) y_JU_charAt ∈ TB := tb_3 (i := 88) rfl rfl
theorem tw569 : Cond.static y_JU_charAt ∈ TB := tb_3 (i := 89) rfl rfl
theorem tw570 : Cond.code y_JU_charAt prog_19_method_83_code (2 : Nat) (Option.some FieldType.char) ∈ TB := tb_3 (i := 90) rfl rfl
theorem tw571 : Cond.methodLink "java/lang/StringUTF16" (67 : Nat) y_JU_checkIndex ∈ TB := tb_3 (i := 91) rfl rfl
theorem tw572 : Cond.static y_JU_checkIndex ∈ TB := tb_3 (i := 92) rfl rfl
theorem tw573 : Cond.code y_JU_checkIndex prog_19_method_91_code (2 : Nat) (Option.none : Option FieldType) ∈ TB := tb_3 (i := 93) rfl rfl
theorem tw574 : Cond.methodLink "java/lang/StringUTF16" (48 : Nat) y_JU_length ∈ TB := tb_3 (i := 94) rfl rfl
theorem tw575 : Cond.static y_JU_length ∈ TB := tb_3 (i := 95) rfl rfl
theorem tw576 : Cond.code y_JU_length prog_19_method_6_code (1 : Nat) (Option.some FieldType.int) ∈ TB := tb_3 (i := 96) rfl rfl
theorem tw577 : Cond.methodLink "java/lang/StringUTF16" (414 : Nat) y_JS_checkIndex ∈ TB := tb_3 (i := 97) rfl rfl
theorem tw578 : Cond.methodLink "java/lang/StringUTF16" (71 : Nat) y_JU_getChar ∈ TB := tb_3 (i := 98) rfl rfl
theorem tw579 : Cond.static y_JU_getChar ∈ TB := tb_3 (i := 99) rfl rfl
theorem tw580 : Cond.code y_JU_getChar prog_19_method_5_code (2 : Nat) (Option.some FieldType.char) ∈ TB := tb_3 (i := 100) rfl rfl
theorem tw581 : Cond.fieldLink "java/lang/StringUTF16" (44 : Nat) "java/lang/StringUTF16" "$assertionsDisabled" "Z" ∈ TB := tb_3 (i := 101) rfl rfl
theorem tw583 : Cond.fieldLink "java/lang/StringUTF16" (59 : Nat) "java/lang/StringUTF16" "HI_BYTE_SHIFT" "I" ∈ TB := tb_3 (i := 103) rfl rfl
theorem tw585 : Cond.fieldLink "java/lang/StringUTF16" (63 : Nat) "java/lang/StringUTF16" "LO_BYTE_SHIFT" "I" ∈ TB := tb_3 (i := 105) rfl rfl
theorem tw587 : Cond.methodLink "BallBox$BoxReader" (48 : Nat) y_TA_blame ∈ TB := tb_3 (i := 107) rfl rfl
theorem tw588 : Cond.instanceMethod y_TA_blame ∈ TB := tb_3 (i := 108) rfl rfl
theorem tw589 : Cond.selects "BallBox$Tape" y_TA_blame y_TA_blame ∈ TB := tb_3 (i := 109) rfl rfl
theorem tw590 : Cond.code y_TA_blame prog_11_method_4_code (3 : Nat) (Option.some FieldType.boolean) ∈ TB := tb_3 (i := 110) rfl rfl
theorem tw591 : Cond.methodLink "BallBox$BoxReader" (68 : Nat) y_BR_readRow ∈ TB := tb_3 (i := 111) rfl rfl
theorem tw593 : Cond.instanceMethod y_BR_readRow ∈ TB := tb_3 (i := 113) rfl rfl
theorem tw594 : Cond.code y_BR_readRow prog_2_method_4_code (5 : Nat) (Option.some FieldType.boolean) ∈ TB := tb_3 (i := 114) rfl rfl
theorem tw595 : Cond.methodLink "BallBox$BoxReader" (44 : Nat) y_TA_signAt ∈ TB := tb_3 (i := 115) rfl rfl
theorem tw596 : Cond.instanceMethod y_TA_signAt ∈ TB := tb_3 (i := 116) rfl rfl
theorem tw597 : Cond.selects "BallBox$Tape" y_TA_signAt y_TA_signAt ∈ TB := tb_3 (i := 117) rfl rfl
theorem tw598 : Cond.code y_TA_signAt prog_11_method_5_code (2 : Nat) (Option.some FieldType.int) ∈ TB := tb_3 (i := 118) rfl rfl
theorem tw599 : Cond.methodLink "BallBox$BoxReader" (80 : Nat) y_BR_kindOf ∈ TB := tb_3 (i := 119) rfl rfl
theorem tw600 : Cond.static y_BR_kindOf ∈ TB := tb_3 (i := 120) rfl rfl
theorem tw601 : Cond.code y_BR_kindOf prog_2_method_5_code (1 : Nat) (Option.some FieldType.int) ∈ TB := tb_3 (i := 121) rfl rfl
theorem tw602 : Cond.methodLink "BallBox$BoxReader" (83 : Nat) y_SA_hasHole ∈ TB := tb_3 (i := 122) rfl rfl
theorem tw603 : Cond.instanceMethod y_SA_hasHole ∈ TB := tb_3 (i := 123) rfl rfl
theorem tw604 : Cond.selects "BallBox$State" y_SA_hasHole y_SA_hasHole ∈ TB := tb_3 (i := 124) rfl rfl
theorem tw605 : Cond.code y_SA_hasHole prog_10_method_16_code (2 : Nat) (Option.some FieldType.boolean) ∈ TB := tb_3 (i := 125) rfl rfl
theorem tw606 : Cond.methodLink "BallBox$BoxReader" (87 : Nat) y_SA_spotOf ∈ TB := tb_3 (i := 126) rfl rfl
theorem tw607 : Cond.static y_SA_spotOf ∈ TB := tb_3 (i := 127) rfl rfl
theorem tw608 : Cond.code y_SA_spotOf prog_10_method_2_code (2 : Nat) (Option.some FieldType.int) ∈ TB := tb_3 (i := 128) rfl rfl
theorem tw609 : Cond.methodLink "BallBox$BoxReader" (91 : Nat) y_SA_makeKind ∈ TB := tb_3 (i := 129) rfl rfl
theorem tw610 : Cond.instanceMethod y_SA_makeKind ∈ TB := tb_3 (i := 130) rfl rfl
theorem tw611 : Cond.selects "BallBox$State" y_SA_makeKind y_SA_makeKind ∈ TB := tb_3 (i := 131) rfl rfl
theorem tw612 : Cond.code y_SA_makeKind prog_10_method_15_code (3 : Nat) (Option.none : Option FieldType) ∈ TB := tb_3 (i := 132) rfl rfl
theorem tw614 : Cond.methodLink "BallBox$BoxReader" (74 : Nat) y_BR_readBall ∈ TB := tb_3 (i := 134) rfl rfl
theorem tw616 : Cond.instanceMethod y_BR_readBall ∈ TB := tb_3 (i := 136) rfl rfl
theorem tw617 : Cond.code y_BR_readBall prog_2_method_6_code (6 : Nat) (Option.some FieldType.boolean) ∈ TB := tb_3 (i := 137) rfl rfl
theorem tw618 : Cond.methodLink "BallBox$BoxReader" (98 : Nat) y_BR_readCoordinate ∈ TB := tb_3 (i := 138) rfl rfl
theorem tw619 : Cond.static y_BR_readCoordinate ∈ TB := tb_3 (i := 139) rfl rfl
theorem tw620 : Cond.code y_BR_readCoordinate prog_2_method_7_code (3 : Nat) (Option.some FieldType.int) ∈ TB := tb_3 (i := 140) rfl rfl
theorem tw621 : Cond.methodLink "BallBox$BoxReader" (112 : Nat) y_TA_readNumber ∈ TB := tb_3 (i := 141) rfl rfl
theorem tw622 : Cond.instanceMethod y_TA_readNumber ∈ TB := tb_3 (i := 142) rfl rfl
theorem tw623 : Cond.selects "BallBox$Tape" y_TA_readNumber y_TA_readNumber ∈ TB := tb_3 (i := 143) rfl rfl
theorem tw624 : Cond.code y_TA_readNumber prog_11_method_11_code (4 : Nat) (Option.some FieldType.int) ∈ TB := tb_3 (i := 144) rfl rfl
theorem tw625 : Cond.methodLink "BallBox$Tape" (34 : Nat) y_TA_endOfDigits ∈ TB := tb_3 (i := 145) rfl rfl
theorem tw626 : Cond.instanceMethod y_TA_endOfDigits ∈ TB := tb_3 (i := 146) rfl rfl
theorem tw627 : Cond.selects "BallBox$Tape" y_TA_endOfDigits y_TA_endOfDigits ∈ TB := tb_3 (i := 147) rfl rfl
theorem tw628 : Cond.code y_TA_endOfDigits prog_11_method_9_code (2 : Nat) (Option.some FieldType.int) ∈ TB := tb_3 (i := 148) rfl rfl
theorem tw629 : Cond.methodLink "BallBox$Tape" (37 : Nat) y_TA_blame ∈ TB := tb_3 (i := 149) rfl rfl
theorem tw630 : Cond.methodLink "BallBox$BoxReader" (102 : Nat) y_SA_isBare ∈ TB := tb_3 (i := 150) rfl rfl
theorem tw631 : Cond.instanceMethod y_SA_isBare ∈ TB := tb_3 (i := 151) rfl rfl
theorem tw632 : Cond.selects "BallBox$State" y_SA_isBare y_SA_isBare ∈ TB := tb_3 (i := 152) rfl rfl
theorem tw633 : Cond.code y_SA_isBare prog_10_method_17_code (2 : Nat) (Option.some FieldType.boolean) ∈ TB := tb_3 (i := 153) rfl rfl
theorem tw634 : Cond.methodLink "BallBox$State" (45 : Nat) y_SA_kindAt ∈ TB := tb_3 (i := 154) rfl rfl
theorem tw635 : Cond.instanceMethod y_SA_kindAt ∈ TB := tb_3 (i := 155) rfl rfl
theorem tw636 : Cond.selects "BallBox$State" y_SA_kindAt y_SA_kindAt ∈ TB := tb_3 (i := 156) rfl rfl
theorem tw637 : Cond.code y_SA_kindAt prog_10_method_14_code (2 : Nat) (Option.some FieldType.int) ∈ TB := tb_3 (i := 157) rfl rfl
theorem tw638 : Cond.methodLink "BallBox$State" (51 : Nat) y_SA_whoLies ∈ TB := tb_3 (i := 158) rfl rfl
theorem tw639 : Cond.static y_SA_whoLies ∈ TB := tb_3 (i := 159) rfl rfl
theorem tw640 : Cond.code y_SA_whoLies prog_10_method_11_code (3 : Nat) (Option.some FieldType.int) ∈ TB := tb_3 (i := 160) rfl rfl
theorem tw641 : Cond.methodLink "BallBox$State" (34 : Nat) y_SA_spotIn ∈ TB := tb_3 (i := 161) rfl rfl
theorem tw642 : Cond.static y_SA_spotIn ∈ TB := tb_3 (i := 162) rfl rfl
theorem tw643 : Cond.code y_SA_spotIn prog_10_method_5_code (2 : Nat) (Option.some FieldType.int) ∈ TB := tb_3 (i := 163) rfl rfl
theorem tw644 : Cond.methodLink "BallBox$BoxReader" (108 : Nat) y_SA_laid ∈ TB := tb_3 (i := 164) rfl rfl
theorem tw645 : Cond.static y_SA_laid ∈ TB := tb_3 (i := 165) rfl rfl
theorem tw646 : Cond.code y_SA_laid prog_10_method_8_code (3 : Nat) (Option.some FieldType.int) ∈ TB := tb_3 (i := 166) rfl rfl
theorem tw647 : Cond.methodLink "BallBox$BoxReader" (37 : Nat) y_TA_isAtEnd ∈ TB := tb_3 (i := 167) rfl rfl
theorem tw648 : Cond.instanceMethod y_TA_isAtEnd ∈ TB := tb_3 (i := 168) rfl rfl
theorem tw649 : Cond.selects "BallBox$Tape" y_TA_isAtEnd y_TA_isAtEnd ∈ TB := tb_3 (i := 169) rfl rfl
theorem tw650 : Cond.code y_TA_isAtEnd prog_11_method_6_code (1 : Nat) (Option.some FieldType.boolean) ∈ TB := tb_3 (i := 170) rfl rfl
theorem tw651 : Cond.methodLink "BallBox" (107 : Nat) y_SA_beginWith ∈ TB := tb_3 (i := 171) rfl rfl
theorem tw652 : Cond.instanceMethod y_SA_beginWith ∈ TB := tb_3 (i := 172) rfl rfl
theorem tw653 : Cond.selects "BallBox$State" y_SA_beginWith y_SA_beginWith ∈ TB := tb_3 (i := 173) rfl rfl
theorem tw654 : Cond.code y_SA_beginWith prog_10_method_24_code (2 : Nat) (Option.none : Option FieldType) ∈ TB := tb_3 (i := 174) rfl rfl
theorem tw655 : Cond.methodLink "BallBox$State" (71 : Nat) y_SA_takeBox ∈ TB := tb_3 (i := 175) rfl rfl
theorem tw657 : Cond.instanceMethod y_SA_takeBox ∈ TB := tb_3 (i := 177) rfl rfl
theorem tw658 : Cond.code y_SA_takeBox prog_10_method_25_code (2 : Nat) (Option.none : Option FieldType) ∈ TB := tb_3 (i := 178) rfl rfl
theorem tw659 : Cond.methodLink "BallBox$State" (88 : Nat) ({ cls := "java/lang/System", name := "arraycopy", desc := "(Ljava/lang/Object;ILjava/lang/Object;II)V" } : Jvm.MethodName) ∈ TB := tb_3 (i := 179) rfl rfl
theorem tw660 : Cond.static ({ cls := "java/lang/System", name := "arraycopy", desc := "(Ljava/lang/Object;ILjava/lang/Object;II)V" } : Jvm.MethodName) ∈ TB := tb_3 (i := 180) rfl rfl
theorem tw661 : Cond.native ({ cls := "java/lang/System", name := "arraycopy", desc := "(Ljava/lang/Object;ILjava/lang/Object;II)V" } : Jvm.MethodName) ∈ TB := tb_3 (i := 181) rfl rfl
theorem tw662 : Cond.arrayClass FieldType.byte ∈ TB := tb_3 (i := 182) rfl rfl
theorem tw663 : Cond.methodLink "BallBoxLaw" (28 : Nat) y_BB_rule ∈ TB := tb_3 (i := 183) rfl rfl
theorem tw664 : Cond.instanceMethod y_BB_rule ∈ TB := tb_3 (i := 184) rfl rfl
theorem tw665 : Cond.selects "BallBox" y_BB_rule y_BB_rule ∈ TB := tb_3 (i := 185) rfl rfl
theorem tw666 : Cond.code y_BB_rule prog_1_method_5_code (2 : Nat) (Option.some FieldType.int) ∈ TB := tb_3 (i := 186) rfl rfl
theorem tw667 : Cond.methodLink "BallBox" (120 : Nat) y_RR_read ∈ TB := tb_3 (i := 187) rfl rfl
theorem tw668 : Cond.instanceMethod y_RR_read ∈ TB := tb_3 (i := 188) rfl rfl
theorem tw669 : Cond.selects "BallBox$RuleReader" y_RR_read y_RR_read ∈ TB := tb_3 (i := 189) rfl rfl
theorem tw670 : Cond.code y_RR_read prog_8_method_2_code (4 : Nat) (Option.some FieldType.int) ∈ TB := tb_3 (i := 190) rfl rfl
theorem tw671 : Cond.methodLink "BallBox$RuleReader" (25 : Nat) y_RR_cutUp ∈ TB := tb_3 (i := 191) rfl rfl
theorem tw673 : Cond.instanceMethod y_RR_cutUp ∈ TB := tb_3 (i := 193) rfl rfl
theorem tw674 : Cond.code y_RR_cutUp prog_8_method_6_code (3 : Nat) (Option.none : Option FieldType) ∈ TB := tb_3 (i := 194) rfl rfl
theorem tw675 : Cond.methodLink "BallBox$RuleReader" (73 : Nat) y_TA_start ∈ TB := tb_3 (i := 195) rfl rfl
theorem tw676 : Cond.methodLink "BallBox$RuleReader" (79 : Nat) y_TA_skipBlanks ∈ TB := tb_3 (i := 196) rfl rfl
theorem tw677 : Cond.methodLink "BallBox$RuleReader" (83 : Nat) y_RR_cutToken ∈ TB := tb_3 (i := 197) rfl rfl
theorem tw678 : Cond.static y_RR_cutToken ∈ TB := tb_3 (i := 198) rfl rfl
theorem tw679 : Cond.code y_RR_cutToken prog_8_method_7_code (4 : Nat) (Option.some FieldType.int) ∈ TB := tb_3 (i := 199) rfl rfl
theorem tw680 : Cond.methodLink "BallBox$RuleReader" (87 : Nat) y_TA_isAtEnd ∈ TB := tb_3 (i := 200) rfl rfl
theorem tw681 : Cond.methodLink "BallBox$RuleReader" (90 : Nat) y_TA_endOfDigits ∈ TB := tb_3 (i := 201) rfl rfl
theorem tw682 : Cond.methodLink "BallBox$RuleReader" (93 : Nat) y_TA_readNumber ∈ TB := tb_3 (i := 202) rfl rfl
theorem tw683 : Cond.methodLink "BallBox$RuleReader" (96 : Nat) y_TA_endOfWord ∈ TB := tb_3 (i := 203) rfl rfl
theorem tw684 : Cond.methodLink "BallBox$RuleReader" (99 : Nat) y_RR_wordUpTo ∈ TB := tb_3 (i := 204) rfl rfl
theorem tw685 : Cond.static y_RR_wordUpTo ∈ TB := tb_3 (i := 205) rfl rfl
theorem tw686 : Cond.code y_RR_wordUpTo prog_8_method_8_code (5 : Nat) (Option.some FieldType.int) ∈ TB := tb_3 (i := 206) rfl rfl
theorem tw688 : Cond.methodLink "BallBox$RuleReader" (108 : Nat) y_JS_length ∈ TB := tb_3 (i := 208) rfl rfl
theorem tw689 : Cond.methodLink "BallBox$RuleReader" (113 : Nat) y_JS_charAt ∈ TB := tb_3 (i := 209) rfl rfl
theorem tw690 : Cond.methodLink "BallBox$RuleReader" (117 : Nat) y_TA_signAt ∈ TB := tb_3 (i := 210) rfl rfl
theorem tw691 : Cond.methodLink "BallBox$RuleReader" (103 : Nat) y_RR_cutSign ∈ TB := tb_3 (i := 211) rfl rfl
theorem tw692 : Cond.static y_RR_cutSign ∈ TB := tb_3 (i := 212) rfl rfl
theorem tw693 : Cond.code y_RR_cutSign prog_8_method_9_code (4 : Nat) (Option.some FieldType.int) ∈ TB := tb_3 (i := 213) rfl rfl
theorem tw695 : Cond.methodLink "BallBox$RuleReader" (123 : Nat) y_JS_indexOf ∈ TB := tb_3 (i := 215) rfl rfl
theorem tw696 : Cond.instanceMethod y_JS_indexOf ∈ TB := tb_3 (i := 216) rfl rfl
theorem tw697 : Cond.selects "java/lang/String" y_JS_indexOf y_JS_indexOf ∈ TB := tb_3 (i := 217) rfl rfl
theorem tw698 : Cond.code y_JS_indexOf prog_17_method_79_code (2 : Nat) (Option.some FieldType.int) ∈ TB := tb_3 (i := 218) rfl rfl
theorem tw699 : Cond.methodLink "java/lang/String" (633 : Nat) y_JS_indexOf_1 ∈ TB := tb_3 (i := 219) rfl rfl
theorem tw700 : Cond.instanceMethod y_JS_indexOf_1 ∈ TB := tb_3 (i := 220) rfl rfl
theorem tw701 : Cond.selects "java/lang/String" y_JS_indexOf_1 y_JS_indexOf_1 ∈ TB := tb_3 (i := 221) rfl rfl
theorem tw702 : Cond.code y_JS_indexOf_1 prog_17_method_80_code (3 : Nat) (Option.some FieldType.int) ∈ TB := tb_3 (i := 222) rfl rfl
theorem tw703 : Cond.methodLink "java/lang/String" (505 : Nat) y_JS_length ∈ TB := tb_3 (i := 223) rfl rfl
theorem tw704 : Cond.methodLink "java/lang/String" (637 : Nat) y_JL_indexOf ∈ TB := tb_3 (i := 224) rfl rfl
theorem tw705 : Cond.static y_JL_indexOf ∈ TB := tb_3 (i := 225) rfl rfl
theorem tw706 : Cond.code y_JL_indexOf prog_18_method_22_code (4 : Nat) (Option.some FieldType.int) ∈ TB := tb_3 (i := 226) rfl rfl
theorem tw707 : Cond.methodLink "java/lang/StringLatin1" (88 : Nat) y_JL_canEncode ∈ TB := tb_3 (i := 227) rfl rfl
theorem tw708 : Cond.static y_JL_canEncode ∈ TB := tb_3 (i := 228) rfl rfl
theorem tw709 : Cond.code y_JL_canEncode prog_18_method_4_code (1 : Nat) (Option.some FieldType.boolean) ∈ TB := tb_3 (i := 229) rfl rfl
theorem tw710 : Cond.methodLink "java/lang/StringLatin1" (92 : Nat) y_JM_max ∈ TB := tb_3 (i := 230) rfl rfl
theorem tw711 : Cond.static y_JM_max ∈ TB := tb_3 (i := 231) rfl rfl
theorem tw712 : Cond.code y_JM_max prog_16_method_65_code (2 : Nat) (Option.some FieldType.int) ∈ TB := tb_3 (i := 232) rfl rfl
theorem tw713 : Cond.methodLink "java/lang/StringLatin1" (38 : Nat) y_JM_min ∈ TB := tb_3 (i := 233) rfl rfl
theorem tw714 : Cond.static y_JM_min ∈ TB := tb_3 (i := 234) rfl rfl
theorem tw715 : Cond.code y_JM_min prog_16_method_69_code (2 : Nat) (Option.some FieldType.int) ∈ TB := tb_3 (i := 235) rfl rfl
theorem tw716 : Cond.methodLink "java/lang/StringLatin1" (95 : Nat) y_JL_indexOfChar ∈ TB := tb_3 (i := 236) rfl rfl
theorem tw717 : Cond.static y_JL_indexOfChar ∈ TB := tb_3 (i := 237) rfl rfl
theorem tw718 : Cond.code y_JL_indexOfChar prog_18_method_23_code (6 : Nat) (Option.some FieldType.int) ∈ TB := tb_3 (i := 238) rfl rfl
theorem tw719 : Cond.methodLink "java/lang/String" (640 : Nat) y_JU_indexOf ∈ TB := tb_3 (i := 239) rfl rfl
theorem tw720 : Cond.static y_JU_indexOf ∈ TB := tb_4 (i := 0) rfl rfl
theorem tw721 : Cond.code y_JU_indexOf prog_19_method_40_code (4 : Nat) (Option.some FieldType.int) ∈ TB := tb_4 (i := 1) rfl rfl
theorem tw722 : Cond.methodLink "java/lang/StringUTF16" (224 : Nat) y_JM_max ∈ TB := tb_4 (i := 2) rfl rfl
theorem tw723 : Cond.methodLink "java/lang/StringUTF16" (183 : Nat) y_JM_min ∈ TB := tb_4 (i := 3) rfl rfl
theorem tw724 : Cond.constant "java/lang/StringUTF16" (227 : Nat) (65536 : Int32) ∈ TB := tb_4 (i := 4) rfl rfl
theorem tw725 : Cond.methodLink "java/lang/StringUTF16" (228 : Nat) y_JU_indexOfChar ∈ TB := tb_4 (i := 5) rfl rfl
theorem tw726 : Cond.static y_JU_indexOfChar ∈ TB := tb_4 (i := 6) rfl rfl
theorem tw727 : Cond.code y_JU_indexOfChar prog_19_method_47_code (4 : Nat) (Option.some FieldType.int) ∈ TB := tb_4 (i := 7) rfl rfl
theorem tw728 : Cond.methodLink "java/lang/StringUTF16" (96 : Nat) y_JU_checkBoundsBeginEnd ∈ TB := tb_4 (i := 8) rfl rfl
theorem tw729 : Cond.static y_JU_checkBoundsBeginEnd ∈ TB := tb_4 (i := 9) rfl rfl
theorem tw730 : Cond.code y_JU_checkBoundsBeginEnd prog_19_method_93_code (3 : Nat) (Option.none : Option FieldType) ∈ TB := tb_4 (i := 10) rfl rfl
theorem tw731 : Cond.methodLink "java/lang/StringUTF16" (241 : Nat) y_JS_checkBoundsBeginEnd ∈ TB := tb_4 (i := 11) rfl rfl
theorem tw732 : Cond.static y_JS_checkBoundsBeginEnd ∈ TB := tb_4 (i := 12) rfl rfl
theorem tw733 : Cond.code y_JS_checkBoundsBeginEnd prog_17_method_158_code (3 : Nat) (Option.none : Option FieldType) ∈ TB := tb_4 (i := 13) rfl rfl
theorem tw734 : Cond.methodLink "java/lang/String" (1062 : Nat) y_JP_checkFromToIndex ∈ TB := tb_4 (i := 14) rfl rfl
theorem tw735 : Cond.static y_JP_checkFromToIndex ∈ TB := tb_4 (i := 15) rfl rfl
theorem tw736 : Cond.code y_JP_checkFromToIndex prog_22_method_12_code (4 : Nat) (Option.some FieldType.int) ∈ TB := tb_4 (i := 16) rfl rfl
theorem tw737 : Cond.methodLink "java/lang/StringUTF16" (244 : Nat) y_JU_indexOfCharUnsafe ∈ TB := tb_4 (i := 17) rfl rfl
theorem tw738 : Cond.static y_JU_indexOfCharUnsafe ∈ TB := tb_4 (i := 18) rfl rfl
theorem tw739 : Cond.code y_JU_indexOfCharUnsafe prog_19_method_48_code (5 : Nat) (Option.some FieldType.int) ∈ TB := tb_4 (i := 19) rfl rfl
theorem tw740 : Cond.methodLink "java/lang/StringUTF16" (232 : Nat) y_JU_indexOfSupplementary ∈ TB := tb_4 (i := 20) rfl rfl
theorem tw741 : Cond.static y_JU_indexOfSupplementary ∈ TB := tb_4 (i := 21) rfl rfl
theorem tw742 : Cond.code y_JU_indexOfSupplementary prog_19_method_49_code (7 : Nat) (Option.some FieldType.int) ∈ TB := tb_4 (i := 22) rfl rfl
theorem tw743 : Cond.methodLink "java/lang/StringUTF16" (164 : Nat) y_JC_isValidCodePoint ∈ TB := tb_4 (i := 23) rfl rfl
theorem tw744 : Cond.static y_JC_isValidCodePoint ∈ TB := tb_4 (i := 24) rfl rfl
theorem tw745 : Cond.code y_JC_isValidCodePoint prog_15_method_11_code (2 : Nat) (Option.some FieldType.boolean) ∈ TB := tb_4 (i := 25) rfl rfl
theorem tw746 : Cond.methodLink "java/lang/StringUTF16" (157 : Nat) y_JC_highSurrogate ∈ TB := tb_4 (i := 26) rfl rfl
theorem tw747 : Cond.static y_JC_highSurrogate ∈ TB := tb_4 (i := 27) rfl rfl
theorem tw748 : Cond.code y_JC_highSurrogate prog_15_method_28_code (1 : Nat) (Option.some FieldType.char) ∈ TB := tb_4 (i := 28) rfl rfl
theorem tw749 : Cond.constant "java/lang/Character" (110 : Nat) (55232 : Int32) ∈ TB := tb_4 (i := 29) rfl rfl
theorem tw750 : Cond.methodLink "java/lang/StringUTF16" (161 : Nat) y_JC_lowSurrogate ∈ TB := tb_4 (i := 30) rfl rfl
theorem tw751 : Cond.static y_JC_lowSurrogate ∈ TB := tb_4 (i := 31) rfl rfl
theorem tw752 : Cond.code y_JC_lowSurrogate prog_15_method_29_code (1 : Nat) (Option.some FieldType.char) ∈ TB := tb_4 (i := 32) rfl rfl
theorem tw753 : Cond.constant "java/lang/Character" (76 : Nat) (56320 : Int32) ∈ TB := tb_4 (i := 33) rfl rfl
theorem tw754 : Cond.methodLink "BallBox$RuleReader" (29 : Nat) y_RU_clear ∈ TB := tb_4 (i := 34) rfl rfl
theorem tw755 : Cond.instanceMethod y_RU_clear ∈ TB := tb_4 (i := 35) rfl rfl
theorem tw756 : Cond.selects "BallBox$Rule" y_RU_clear y_RU_clear ∈ TB := tb_4 (i := 36) rfl rfl
theorem tw757 : Cond.code y_RU_clear prog_7_method_2_code (1 : Nat) (Option.none : Option FieldType) ∈ TB := tb_4 (i := 37) rfl rfl
theorem tw758 : Cond.methodLink "BallBox$RuleReader" (42 : Nat) y_RR_openClause ∈ TB := tb_4 (i := 38) rfl rfl
theorem tw760 : Cond.instanceMethod y_RR_openClause ∈ TB := tb_4 (i := 40) rfl rfl
theorem tw761 : Cond.code y_RR_openClause prog_8_method_3_code (2 : Nat) (Option.some FieldType.boolean) ∈ TB := tb_4 (i := 41) rfl rfl
theorem tw762 : Cond.methodLink "BallBox$RuleReader" (66 : Nat) y_RR_tokenHere ∈ TB := tb_4 (i := 42) rfl rfl
theorem tw764 : Cond.instanceMethod y_RR_tokenHere ∈ TB := tb_4 (i := 44) rfl rfl
theorem tw765 : Cond.code y_RR_tokenHere prog_8_method_10_code (1 : Nat) (Option.some FieldType.int) ∈ TB := tb_4 (i := 45) rfl rfl
theorem tw766 : Cond.methodLink "BallBox$RuleReader" (70 : Nat) y_RR_blame ∈ TB := tb_4 (i := 46) rfl rfl
theorem tw768 : Cond.instanceMethod y_RR_blame ∈ TB := tb_4 (i := 48) rfl rfl
theorem tw769 : Cond.code y_RR_blame prog_8_method_11_code (2 : Nat) (Option.some FieldType.boolean) ∈ TB := tb_4 (i := 49) rfl rfl
theorem tw770 : Cond.methodLink "BallBox$RuleReader" (46 : Nat) y_RR_readSum ∈ TB := tb_4 (i := 50) rfl rfl
theorem tw772 : Cond.instanceMethod y_RR_readSum ∈ TB := tb_4 (i := 52) rfl rfl
theorem tw773 : Cond.code y_RR_readSum prog_8_method_15_code (5 : Nat) (Option.some FieldType.boolean) ∈ TB := tb_4 (i := 53) rfl rfl
theorem tw774 : Cond.methodLink "BallBox$RuleReader" (136 : Nat) y_RR_readValue ∈ TB := tb_4 (i := 54) rfl rfl
theorem tw776 : Cond.instanceMethod y_RR_readValue ∈ TB := tb_4 (i := 56) rfl rfl
theorem tw777 : Cond.code y_RR_readValue prog_8_method_16_code (2 : Nat) (Option.some FieldType.boolean) ∈ TB := tb_4 (i := 57) rfl rfl
theorem tw778 : Cond.methodLink "BallBox$RuleReader" (129 : Nat) y_RU_add ∈ TB := tb_4 (i := 58) rfl rfl
theorem tw779 : Cond.instanceMethod y_RU_add ∈ TB := tb_4 (i := 59) rfl rfl
theorem tw780 : Cond.selects "BallBox$Rule" y_RU_add y_RU_add ∈ TB := tb_4 (i := 60) rfl rfl
theorem tw781 : Cond.code y_RU_add prog_7_method_5_code (2 : Nat) (Option.none : Option FieldType) ∈ TB := tb_4 (i := 61) rfl rfl
theorem tw782 : Cond.methodLink "BallBox$RuleReader" (50 : Nat) y_RU_endSum ∈ TB := tb_4 (i := 62) rfl rfl
theorem tw783 : Cond.instanceMethod y_RU_endSum ∈ TB := tb_4 (i := 63) rfl rfl
theorem tw784 : Cond.selects "BallBox$Rule" y_RU_endSum y_RU_endSum ∈ TB := tb_4 (i := 64) rfl rfl
theorem tw785 : Cond.code y_RU_endSum prog_7_method_6_code (1 : Nat) (Option.none : Option FieldType) ∈ TB := tb_4 (i := 65) rfl rfl
theorem tw786 : Cond.methodLink "BallBox$RuleReader" (53 : Nat) y_RR_takes ∈ TB := tb_4 (i := 66) rfl rfl
theorem tw788 : Cond.instanceMethod y_RR_takes ∈ TB := tb_4 (i := 68) rfl rfl
theorem tw789 : Cond.code y_RR_takes prog_8_method_5_code (2 : Nat) (Option.some FieldType.boolean) ∈ TB := tb_4 (i := 69) rfl rfl
theorem tw790 : Cond.methodLink "BallBox$RuleReader" (57 : Nat) y_RR_readTest ∈ TB := tb_4 (i := 70) rfl rfl
theorem tw792 : Cond.instanceMethod y_RR_readTest ∈ TB := tb_4 (i := 72) rfl rfl
theorem tw793 : Cond.code y_RR_readTest prog_8_method_12_code (5 : Nat) (Option.some FieldType.boolean) ∈ TB := tb_4 (i := 73) rfl rfl
theorem tw794 : Cond.methodLink "BallBox$RuleReader" (126 : Nat) y_RR_readFact ∈ TB := tb_4 (i := 74) rfl rfl
theorem tw796 : Cond.instanceMethod y_RR_readFact ∈ TB := tb_4 (i := 76) rfl rfl
theorem tw797 : Cond.code y_RR_readFact prog_8_method_13_code (3 : Nat) (Option.some FieldType.boolean) ∈ TB := tb_4 (i := 77) rfl rfl
theorem tw798 : Cond.methodLink "BallBox$RuleReader" (133 : Nat) y_RR_readComparison ∈ TB := tb_4 (i := 78) rfl rfl
theorem tw800 : Cond.instanceMethod y_RR_readComparison ∈ TB := tb_4 (i := 80) rfl rfl
theorem tw801 : Cond.code y_RR_readComparison prog_8_method_14_code (3 : Nat) (Option.some FieldType.boolean) ∈ TB := tb_4 (i := 81) rfl rfl
theorem tw802 : Cond.methodLink "BallBox$RuleReader" (60 : Nat) y_RU_endClause ∈ TB := tb_4 (i := 82) rfl rfl
theorem tw803 : Cond.instanceMethod y_RU_endClause ∈ TB := tb_4 (i := 83) rfl rfl
theorem tw804 : Cond.selects "BallBox$Rule" y_RU_endClause y_RU_endClause ∈ TB := tb_4 (i := 84) rfl rfl
theorem tw805 : Cond.code y_RU_endClause prog_7_method_7_code (1 : Nat) (Option.none : Option FieldType) ∈ TB := tb_4 (i := 85) rfl rfl
theorem tw806 : Cond.methodLink "BallBox$RuleReader" (63 : Nat) y_RR_closeClause ∈ TB := tb_4 (i := 86) rfl rfl
theorem tw808 : Cond.instanceMethod y_RR_closeClause ∈ TB := tb_4 (i := 88) rfl rfl
theorem tw809 : Cond.code y_RR_closeClause prog_8_method_4_code (1 : Nat) (Option.some FieldType.boolean) ∈ TB := tb_4 (i := 89) rfl rfl
theorem tw810 : Cond.methodLink "BallBox" (124 : Nat) y_RO_addRule ∈ TB := tb_4 (i := 90) rfl rfl
theorem tw811 : Cond.instanceMethod y_RO_addRule ∈ TB := tb_4 (i := 91) rfl rfl
theorem tw812 : Cond.selects "BallBox$Roller" y_RO_addRule y_RO_addRule ∈ TB := tb_4 (i := 92) rfl rfl
theorem tw813 : Cond.code y_RO_addRule prog_6_method_2_code (2 : Nat) (Option.none : Option FieldType) ∈ TB := tb_4 (i := 93) rfl rfl
theorem tw814 : Cond.methodLink "BallBox$Roller" (31 : Nat) y_RU_takeOver ∈ TB := tb_4 (i := 94) rfl rfl
theorem tw815 : Cond.instanceMethod y_RU_takeOver ∈ TB := tb_4 (i := 95) rfl rfl
theorem tw816 : Cond.selects "BallBox$Rule" y_RU_takeOver y_RU_takeOver ∈ TB := tb_4 (i := 96) rfl rfl
theorem tw817 : Cond.code y_RU_takeOver prog_7_method_3_code (2 : Nat) (Option.none : Option FieldType) ∈ TB := tb_4 (i := 97) rfl rfl
theorem tw818 : Cond.methodLink "BallBox$Rule" (35 : Nat) ({ cls := "java/lang/System", name := "arraycopy", desc := "(Ljava/lang/Object;ILjava/lang/Object;II)V" } : Jvm.MethodName) ∈ TB := tb_4 (i := 98) rfl rfl
theorem tw819 : Cond.methodLink "BallBoxLaw" (32 : Nat) y_BB_force ∈ TB := tb_4 (i := 99) rfl rfl
theorem tw820 : Cond.instanceMethod y_BB_force ∈ TB := tb_4 (i := 100) rfl rfl
theorem tw821 : Cond.selects "BallBox" y_BB_force y_BB_force ∈ TB := tb_4 (i := 101) rfl rfl
theorem tw822 : Cond.code y_BB_force prog_1_method_6_code (3 : Nat) (Option.some FieldType.int) ∈ TB := tb_4 (i := 102) rfl rfl
theorem tw823 : Cond.methodLink "BallBoxLaw" (36 : Nat) y_BB_cell ∈ TB := tb_4 (i := 103) rfl rfl
theorem tw824 : Cond.instanceMethod y_BB_cell ∈ TB := tb_4 (i := 104) rfl rfl
theorem tw825 : Cond.selects "BallBox" y_BB_cell y_BB_cell ∈ TB := tb_4 (i := 105) rfl rfl
theorem tw826 : Cond.code y_BB_cell prog_1_method_7_code (6 : Nat) (Option.some FieldType.int) ∈ TB := tb_4 (i := 106) rfl rfl
theorem tw827 : Cond.methodLink "BallBox" (131 : Nat) y_SA_spotOf ∈ TB := tb_4 (i := 107) rfl rfl
theorem tw828 : Cond.methodLink "BallBox" (135 : Nat) y_SA_kindAt ∈ TB := tb_4 (i := 108) rfl rfl
theorem tw829 : Cond.methodLink "BallBox" (142 : Nat) y_SA_whoLies ∈ TB := tb_4 (i := 109) rfl rfl
theorem tw830 : Cond.methodLink "BallBoxLaw" (41 : Nat) y_BB_ball ∈ TB := tb_4 (i := 110) rfl rfl
theorem tw831 : Cond.instanceMethod y_BB_ball ∈ TB := tb_4 (i := 111) rfl rfl
theorem tw832 : Cond.selects "BallBox" y_BB_ball y_BB_ball ∈ TB := tb_4 (i := 112) rfl rfl
theorem tw833 : Cond.code y_BB_ball prog_1_method_8_code (5 : Nat) (Option.some FieldType.int) ∈ TB := tb_4 (i := 113) rfl rfl
theorem tw834 : Cond.methodLink "BallBox" (145 : Nat) y_SA_spotIn ∈ TB := tb_4 (i := 114) rfl rfl
theorem tw835 : Cond.methodLink "BallBox" (148 : Nat) y_SA_isFallen ∈ TB := tb_4 (i := 115) rfl rfl
theorem tw836 : Cond.static y_SA_isFallen ∈ TB := tb_4 (i := 116) rfl rfl
theorem tw837 : Cond.code y_SA_isFallen prog_10_method_7_code (1 : Nat) (Option.some FieldType.boolean) ∈ TB := tb_4 (i := 117) rfl rfl
theorem tw838 : Cond.methodLink "BallBox" (152 : Nat) y_SA_columnOf ∈ TB := tb_4 (i := 118) rfl rfl
theorem tw839 : Cond.static y_SA_columnOf ∈ TB := tb_4 (i := 119) rfl rfl
theorem tw840 : Cond.code y_SA_columnOf prog_10_method_3_code (1 : Nat) (Option.some FieldType.int) ∈ TB := tb_4 (i := 120) rfl rfl
theorem tw841 : Cond.methodLink "BallBox" (155 : Nat) y_SA_rowOf ∈ TB := tb_4 (i := 121) rfl rfl
theorem tw842 : Cond.static y_SA_rowOf ∈ TB := tb_4 (i := 122) rfl rfl
theorem tw843 : Cond.code y_SA_rowOf prog_10_method_4_code (1 : Nat) (Option.some FieldType.int) ∈ TB := tb_4 (i := 123) rfl rfl
theorem tw844 : Cond.methodLink "BallBox" (158 : Nat) y_SA_stepsHome ∈ TB := tb_4 (i := 124) rfl rfl
theorem tw845 : Cond.instanceMethod y_SA_stepsHome ∈ TB := tb_4 (i := 125) rfl rfl
theorem tw846 : Cond.selects "BallBox$State" y_SA_stepsHome y_SA_stepsHome ∈ TB := tb_4 (i := 126) rfl rfl
theorem tw847 : Cond.code y_SA_stepsHome prog_10_method_20_code (4 : Nat) (Option.some FieldType.int) ∈ TB := tb_4 (i := 127) rfl rfl
theorem tw848 : Cond.methodLink "BallBox$State" (42 : Nat) y_SA_columnOf ∈ TB := tb_4 (i := 128) rfl rfl
theorem tw849 : Cond.methodLink "BallBox$State" (60 : Nat) y_JM_abs ∈ TB := tb_4 (i := 129) rfl rfl
theorem tw850 : Cond.static y_JM_abs ∈ TB := tb_4 (i := 130) rfl rfl
theorem tw851 : Cond.code y_JM_abs prog_16_method_59_code (1 : Nat) (Option.some FieldType.int) ∈ TB := tb_4 (i := 131) rfl rfl
theorem tw852 : Cond.methodLink "BallBox$State" (38 : Nat) y_SA_rowOf ∈ TB := tb_4 (i := 132) rfl rfl
theorem tw853 : Cond.methodLink "BallBoxLaw" (46 : Nat) y_BB_put ∈ TB := tb_4 (i := 133) rfl rfl
theorem tw854 : Cond.instanceMethod y_BB_put ∈ TB := tb_4 (i := 134) rfl rfl
theorem tw855 : Cond.selects "BallBox" y_BB_put y_BB_put ∈ TB := tb_4 (i := 135) rfl rfl
theorem tw856 : Cond.code y_BB_put prog_1_method_9_code (5 : Nat) (Option.some FieldType.boolean) ∈ TB := tb_4 (i := 136) rfl rfl
theorem tw857 : Cond.methodLink "BallBox" (161 : Nat) y_SA_isBare ∈ TB := tb_4 (i := 137) rfl rfl
theorem tw858 : Cond.methodLink "BallBox" (164 : Nat) y_SA_laid ∈ TB := tb_4 (i := 138) rfl rfl
theorem tw859 : Cond.methodLink "BallBoxLaw" (51 : Nat) y_BB_wall ∈ TB := tb_4 (i := 139) rfl rfl
theorem tw860 : Cond.instanceMethod y_BB_wall ∈ TB := tb_4 (i := 140) rfl rfl
theorem tw861 : Cond.selects "BallBox" y_BB_wall y_BB_wall ∈ TB := tb_4 (i := 141) rfl rfl
theorem tw862 : Cond.code y_BB_wall prog_1_method_10_code (6 : Nat) (Option.some FieldType.boolean) ∈ TB := tb_4 (i := 142) rfl rfl
theorem tw863 : Cond.methodLink "BallBox" (168 : Nat) y_SA_makeKind ∈ TB := tb_4 (i := 143) rfl rfl
theorem tw864 : Cond.methodLink "BallBoxLaw" (56 : Nat) y_BB_tip ∈ TB := tb_4 (i := 144) rfl rfl
theorem tw865 : Cond.instanceMethod y_BB_tip ∈ TB := tb_4 (i := 145) rfl rfl
theorem tw866 : Cond.selects "BallBox" y_BB_tip y_BB_tip ∈ TB := tb_4 (i := 146) rfl rfl
theorem tw867 : Cond.code y_BB_tip prog_1_method_11_code (2 : Nat) (Option.some FieldType.int) ∈ TB := tb_4 (i := 147) rfl rfl
theorem tw868 : Cond.methodLink "BallBox" (176 : Nat) y_BB_isWay ∈ TB := tb_4 (i := 148) rfl rfl
theorem tw869 : Cond.static y_BB_isWay ∈ TB := tb_4 (i := 149) rfl rfl
theorem tw870 : Cond.code y_BB_isWay prog_1_method_34_code (1 : Nat) (Option.some FieldType.boolean) ∈ TB := tb_4 (i := 150) rfl rfl
theorem tw871 : Cond.methodLink "BallBox" (179 : Nat) y_RO_rolled ∈ TB := tb_4 (i := 151) rfl rfl
theorem tw872 : Cond.instanceMethod y_RO_rolled ∈ TB := tb_4 (i := 152) rfl rfl
theorem tw873 : Cond.selects "BallBox$Roller" y_RO_rolled y_RO_rolled ∈ TB := tb_4 (i := 153) rfl rfl
theorem tw874 : Cond.code y_RO_rolled prog_6_method_3_code (7 : Nat) (Option.some FieldType.int) ∈ TB := tb_4 (i := 154) rfl rfl
theorem tw875 : Cond.fieldLink "BallBox$Roller" (41 : Nat) "BallBox$Roller" "STEPS" "[I" ∈ TB := tb_4 (i := 155) rfl rfl
theorem tw877 : Cond.methodLink "BallBox$Roller" (49 : Nat) y_RO_someMeet ∈ TB := tb_4 (i := 157) rfl rfl
theorem tw878 : Cond.static y_RO_someMeet ∈ TB := tb_4 (i := 158) rfl rfl
theorem tw879 : Cond.code y_RO_someMeet prog_6_method_4_code (6 : Nat) (Option.some FieldType.boolean) ∈ TB := tb_4 (i := 159) rfl rfl
theorem tw880 : Cond.methodLink "BallBox$Roller" (59 : Nat) y_SA_spotIn ∈ TB := tb_4 (i := 160) rfl rfl
theorem tw881 : Cond.methodLink "BallBox$Roller" (63 : Nat) y_SA_isFallen ∈ TB := tb_4 (i := 161) rfl rfl
theorem tw882 : Cond.methodLink "BallBox$Roller" (67 : Nat) y_RO_tellWords ∈ TB := tb_4 (i := 162) rfl rfl
theorem tw884 : Cond.instanceMethod y_RO_tellWords ∈ TB := tb_4 (i := 164) rfl rfl
theorem tw885 : Cond.code y_RO_tellWords prog_6_method_7_code (7 : Nat) (Option.none : Option FieldType) ∈ TB := tb_4 (i := 165) rfl rfl
theorem tw886 : Cond.methodLink "BallBox$Roller" (86 : Nat) y_SA_columnOf ∈ TB := tb_4 (i := 166) rfl rfl
theorem tw887 : Cond.methodLink "BallBox$Roller" (90 : Nat) y_SA_rowOf ∈ TB := tb_4 (i := 167) rfl rfl
theorem tw888 : Cond.methodLink "BallBox$Roller" (93 : Nat) y_RU_uses ∈ TB := tb_4 (i := 168) rfl rfl
theorem tw889 : Cond.instanceMethod y_RU_uses ∈ TB := tb_4 (i := 169) rfl rfl
theorem tw890 : Cond.selects "BallBox$Rule" y_RU_uses y_RU_uses ∈ TB := tb_4 (i := 170) rfl rfl
theorem tw891 : Cond.code y_RU_uses prog_7_method_4_code (2 : Nat) (Option.some FieldType.boolean) ∈ TB := tb_4 (i := 171) rfl rfl
theorem tw892 : Cond.methodLink "BallBox$Roller" (96 : Nat) y_RO_reach ∈ TB := tb_4 (i := 172) rfl rfl
theorem tw893 : Cond.static y_RO_reach ∈ TB := tb_4 (i := 173) rfl rfl
theorem tw894 : Cond.code y_RO_reach prog_6_method_8_code (11 : Nat) (Option.some FieldType.int) ∈ TB := tb_4 (i := 174) rfl rfl
theorem tw895 : Cond.methodLink "BallBox$Roller" (102 : Nat) y_SA_howManyHome ∈ TB := tb_4 (i := 175) rfl rfl
theorem tw896 : Cond.instanceMethod y_SA_howManyHome ∈ TB := tb_4 (i := 176) rfl rfl
theorem tw897 : Cond.selects "BallBox$State" y_SA_howManyHome y_SA_howManyHome ∈ TB := tb_4 (i := 177) rfl rfl
theorem tw898 : Cond.code y_SA_howManyHome prog_10_method_18_code (2 : Nat) (Option.some FieldType.int) ∈ TB := tb_4 (i := 178) rfl rfl
theorem tw899 : Cond.methodLink "BallBox$State" (54 : Nat) y_SA_howMany ∈ TB := tb_4 (i := 179) rfl rfl
theorem tw900 : Cond.static y_SA_howMany ∈ TB := tb_4 (i := 180) rfl rfl
theorem tw901 : Cond.code y_SA_howMany prog_10_method_9_code (4 : Nat) (Option.some FieldType.int) ∈ TB := tb_4 (i := 181) rfl rfl
theorem tw902 : Cond.methodLink "BallBox$Roller" (105 : Nat) y_SA_stepsHome ∈ TB := tb_4 (i := 182) rfl rfl
theorem tw903 : Cond.methodLink "BallBox$Roller" (108 : Nat) y_JM_max ∈ TB := tb_4 (i := 183) rfl rfl
theorem tw904 : Cond.methodLink "BallBox$Roller" (71 : Nat) y_RU_keyBy ∈ TB := tb_4 (i := 184) rfl rfl
theorem tw905 : Cond.instanceMethod y_RU_keyBy ∈ TB := tb_4 (i := 185) rfl rfl
theorem tw906 : Cond.selects "BallBox$Rule" y_RU_keyBy y_RU_keyBy ∈ TB := tb_4 (i := 186) rfl rfl
theorem tw907 : Cond.code y_RU_keyBy prog_7_method_8_code (5 : Nat) (Option.some FieldType.long) ∈ TB := tb_4 (i := 187) rfl rfl
theorem tw908 : Cond.methodLink "BallBox$Rule" (41 : Nat) y_RU_workedOut ∈ TB := tb_4 (i := 188) rfl rfl
theorem tw910 : Cond.instanceMethod y_RU_workedOut ∈ TB := tb_4 (i := 190) rfl rfl
theorem tw911 : Cond.code y_RU_workedOut prog_7_method_9_code (7 : Nat) (Option.some FieldType.long) ∈ TB := tb_4 (i := 191) rfl rfl
theorem tw912 : Cond.methodLink "BallBox$Rule" (45 : Nat) y_RU_joined ∈ TB := tb_4 (i := 192) rfl rfl
theorem tw913 : Cond.static y_RU_joined ∈ TB := tb_4 (i := 193) rfl rfl
theorem tw914 : Cond.code y_RU_joined prog_7_method_10_code (5 : Nat) (Option.some FieldType.long) ∈ TB := tb_4 (i := 194) rfl rfl
theorem tw915 : Cond.methodLink "BallBox$Roller" (75 : Nat) y_RO_lag ∈ TB := tb_4 (i := 195) rfl rfl
theorem tw916 : Cond.static y_RO_lag ∈ TB := tb_4 (i := 196) rfl rfl
theorem tw917 : Cond.code y_RO_lag prog_6_method_6_code (2 : Nat) (Option.some FieldType.int) ∈ TB := tb_4 (i := 197) rfl rfl
theorem tw918 : Cond.methodLink "BallBox$Roller" (78 : Nat) y_RO_lineUp ∈ TB := tb_4 (i := 198) rfl rfl
theorem tw920 : Cond.instanceMethod y_RO_lineUp ∈ TB := tb_4 (i := 200) rfl rfl
theorem tw921 : Cond.code y_RO_lineUp prog_6_method_5_code (5 : Nat) (Option.none : Option FieldType) ∈ TB := tb_4 (i := 201) rfl rfl
theorem tw922 : Cond.methodLink "BallBox$Roller" (82 : Nat) y_RO_rollOne ∈ TB := tb_4 (i := 202) rfl rfl
theorem tw924 : Cond.instanceMethod y_RO_rollOne ∈ TB := tb_4 (i := 204) rfl rfl
theorem tw925 : Cond.code y_RO_rollOne prog_6_method_9_code (9 : Nat) (Option.some FieldType.int) ∈ TB := tb_4 (i := 205) rfl rfl
theorem tw926 : Cond.methodLink "BallBox$Roller" (116 : Nat) y_SA_kindAt ∈ TB := tb_4 (i := 206) rfl rfl
theorem tw927 : Cond.methodLink "BallBox$Roller" (119 : Nat) y_SA_laid ∈ TB := tb_4 (i := 207) rfl rfl
theorem tw928 : Cond.methodLink "BallBoxLaw" (60 : Nat) y_BB_may ∈ TB := tb_4 (i := 208) rfl rfl
theorem tw929 : Cond.instanceMethod y_BB_may ∈ TB := tb_4 (i := 209) rfl rfl
theorem tw930 : Cond.selects "BallBox" y_BB_may y_BB_may ∈ TB := tb_4 (i := 210) rfl rfl
theorem tw931 : Cond.code y_BB_may prog_1_method_12_code (2 : Nat) (Option.some FieldType.int) ∈ TB := tb_4 (i := 211) rfl rfl
theorem tw932 : Cond.methodLink "BallBoxLaw" (64 : Nat) y_BB_press ∈ TB := tb_4 (i := 212) rfl rfl
theorem tw933 : Cond.instanceMethod y_BB_press ∈ TB := tb_4 (i := 213) rfl rfl
theorem tw934 : Cond.selects "BallBox" y_BB_press y_BB_press ∈ TB := tb_4 (i := 214) rfl rfl
theorem tw935 : Cond.code y_BB_press prog_1_method_13_code (2 : Nat) (Option.some FieldType.int) ∈ TB := tb_4 (i := 215) rfl rfl
theorem tw936 : Cond.methodLink "BallBoxLaw" (68 : Nat) y_BB_would ∈ TB := tb_4 (i := 216) rfl rfl
theorem tw937 : Cond.instanceMethod y_BB_would ∈ TB := tb_4 (i := 217) rfl rfl
theorem tw938 : Cond.selects "BallBox" y_BB_would y_BB_would ∈ TB := tb_4 (i := 218) rfl rfl
theorem tw939 : Cond.code y_BB_would prog_1_method_14_code (2 : Nat) (Option.some FieldType.int) ∈ TB := tb_4 (i := 219) rfl rfl
theorem tw940 : Cond.methodLink "BallBox" (198 : Nat) y_TR_followRow ∈ TB := tb_4 (i := 220) rfl rfl
theorem tw941 : Cond.instanceMethod y_TR_followRow ∈ TB := tb_4 (i := 221) rfl rfl
theorem tw942 : Cond.selects "BallBox$Trial" y_TR_followRow y_TR_followRow ∈ TB := tb_4 (i := 222) rfl rfl
theorem tw943 : Cond.code y_TR_followRow prog_12_method_2_code (3 : Nat) (Option.none : Option FieldType) ∈ TB := tb_4 (i := 223) rfl rfl
theorem tw944 : Cond.methodLink "BallBox$Trial" (35 : Nat) y_TR_roll ∈ TB := tb_4 (i := 224) rfl rfl
theorem tw946 : Cond.instanceMethod y_TR_roll ∈ TB := tb_4 (i := 226) rfl rfl
theorem tw947 : Cond.code y_TR_roll prog_12_method_3_code (3 : Nat) (Option.none : Option FieldType) ∈ TB := tb_4 (i := 227) rfl rfl
theorem tw948 : Cond.methodLink "BallBox$Trial" (39 : Nat) y_RO_rolled ∈ TB := tb_4 (i := 228) rfl rfl
theorem tw949 : Cond.methodLink "BallBox" (202 : Nat) y_SA_howManyHome ∈ TB := tb_4 (i := 229) rfl rfl
theorem tw950 : Cond.methodLink "BallBox" (205 : Nat) y_SA_howMany ∈ TB := tb_4 (i := 230) rfl rfl
theorem tw951 : Cond.methodLink "BallBoxLaw" (72 : Nat) y_BB_sure ∈ TB := tb_4 (i := 231) rfl rfl
theorem tw952 : Cond.instanceMethod y_BB_sure ∈ TB := tb_4 (i := 232) rfl rfl
theorem tw953 : Cond.selects "BallBox" y_BB_sure y_BB_sure ∈ TB := tb_4 (i := 233) rfl rfl
theorem tw954 : Cond.code y_BB_sure prog_1_method_15_code (3 : Nat) (Option.some FieldType.long) ∈ TB := tb_4 (i := 234) rfl rfl
theorem tw955 : Cond.constantLong "BallBox" (210 : Nat) (-1 : Int64) ∈ TB := tb_4 (i := 235) rfl rfl
theorem tw956 : Cond.methodLink "BallBox" (212 : Nat) y_TR_reckonSure ∈ TB := tb_4 (i := 236) rfl rfl
theorem tw957 : Cond.instanceMethod y_TR_reckonSure ∈ TB := tb_4 (i := 237) rfl rfl
theorem tw958 : Cond.selects "BallBox$Trial" y_TR_reckonSure y_TR_reckonSure ∈ TB := tb_4 (i := 238) rfl rfl
theorem tw959 : Cond.code y_TR_reckonSure prog_12_method_4_code (6 : Nat) (Option.none : Option FieldType) ∈ TB := tb_4 (i := 239) rfl rfl
theorem tw960 : Cond.constantLong "BallBox$Trial" (54 : Nat) (100 : Int64) ∈ TB := tb_5 (i := 0) rfl rfl
theorem tw961 : Cond.methodLink "BallBox$Trial" (56 : Nat) y_TR_weightOf ∈ TB := tb_5 (i := 1) rfl rfl
theorem tw962 : Cond.static y_TR_weightOf ∈ TB := tb_5 (i := 2) rfl rfl
theorem tw963 : Cond.code y_TR_weightOf prog_12_method_5_code (6 : Nat) (Option.some FieldType.long) ∈ TB := tb_5 (i := 3) rfl rfl
theorem tw964 : Cond.methodLink "BallBox$Trial" (60 : Nat) y_TR_bringsHome ∈ TB := tb_5 (i := 4) rfl rfl
theorem tw966 : Cond.instanceMethod y_TR_bringsHome ∈ TB := tb_5 (i := 6) rfl rfl
theorem tw967 : Cond.code y_TR_bringsHome prog_12_method_6_code (5 : Nat) (Option.some FieldType.boolean) ∈ TB := tb_5 (i := 7) rfl rfl
theorem tw968 : Cond.methodLink "BallBox$Trial" (64 : Nat) y_TR_greatestDivisor ∈ TB := tb_5 (i := 8) rfl rfl
theorem tw969 : Cond.static y_TR_greatestDivisor ∈ TB := tb_5 (i := 9) rfl rfl
theorem tw970 : Cond.code y_TR_greatestDivisor prog_12_method_7_code (11 : Nat) (Option.some FieldType.long) ∈ TB := tb_5 (i := 10) rfl rfl
theorem tw971 : Cond.methodLink "BallBoxLaw" (77 : Nat) y_BB_fewest ∈ TB := tb_5 (i := 11) rfl rfl
theorem tw972 : Cond.instanceMethod y_BB_fewest ∈ TB := tb_5 (i := 12) rfl rfl
theorem tw973 : Cond.selects "BallBox" y_BB_fewest y_BB_fewest ∈ TB := tb_5 (i := 13) rfl rfl
theorem tw974 : Cond.code y_BB_fewest prog_1_method_16_code (1 : Nat) (Option.some FieldType.int) ∈ TB := tb_5 (i := 14) rfl rfl
theorem tw975 : Cond.methodLink "BallBox" (223 : Nat) y_SE_keepUp ∈ TB := tb_5 (i := 15) rfl rfl
theorem tw976 : Cond.instanceMethod y_SE_keepUp ∈ TB := tb_5 (i := 16) rfl rfl
theorem tw977 : Cond.selects "BallBox$Search" y_SE_keepUp y_SE_keepUp ∈ TB := tb_5 (i := 17) rfl rfl
theorem tw978 : Cond.code y_SE_keepUp prog_9_method_2_code (3 : Nat) (Option.none : Option FieldType) ∈ TB := tb_5 (i := 18) rfl rfl
theorem tw979 : Cond.methodLink "BallBox$Search" (30 : Nat) y_SE_reckoned ∈ TB := tb_5 (i := 19) rfl rfl
theorem tw980 : Cond.instanceMethod y_SE_reckoned ∈ TB := tb_5 (i := 20) rfl rfl
theorem tw981 : Cond.selects "BallBox$Search" y_SE_reckoned y_SE_reckoned ∈ TB := tb_5 (i := 21) rfl rfl
theorem tw982 : Cond.code y_SE_reckoned prog_9_method_3_code (5 : Nat) (Option.some FieldType.int) ∈ TB := tb_5 (i := 22) rfl rfl
theorem tw983 : Cond.methodLink "BallBox$Search" (37 : Nat) y_SE_forget ∈ TB := tb_5 (i := 23) rfl rfl
theorem tw985 : Cond.instanceMethod y_SE_forget ∈ TB := tb_5 (i := 25) rfl rfl
theorem tw986 : Cond.code y_SE_forget prog_9_method_6_code (2 : Nat) (Option.none : Option FieldType) ∈ TB := tb_5 (i := 26) rfl rfl
theorem tw987 : Cond.methodLink "BallBox$Search" (45 : Nat) y_SA_hasLost ∈ TB := tb_5 (i := 27) rfl rfl
theorem tw988 : Cond.static y_SA_hasLost ∈ TB := tb_5 (i := 28) rfl rfl
theorem tw989 : Cond.code y_SA_hasLost prog_10_method_10_code (1 : Nat) (Option.some FieldType.boolean) ∈ TB := tb_5 (i := 29) rfl rfl
theorem tw990 : Cond.methodLink "BallBox$Search" (49 : Nat) y_SE_note ∈ TB := tb_5 (i := 30) rfl rfl
theorem tw992 : Cond.instanceMethod y_SE_note ∈ TB := tb_5 (i := 32) rfl rfl
theorem tw993 : Cond.code y_SE_note prog_9_method_8_code (3 : Nat) (Option.none : Option FieldType) ∈ TB := tb_5 (i := 33) rfl rfl
theorem tw994 : Cond.methodLink "BallBox$Search" (56 : Nat) y_RO_rolled ∈ TB := tb_5 (i := 34) rfl rfl
theorem tw995 : Cond.methodLink "BallBox$Search" (65 : Nat) y_SE_tipsBack ∈ TB := tb_5 (i := 35) rfl rfl
theorem tw997 : Cond.instanceMethod y_SE_tipsBack ∈ TB := tb_5 (i := 37) rfl rfl
theorem tw998 : Cond.code y_SE_tipsBack prog_9_method_5_code (4 : Nat) (Option.some FieldType.int) ∈ TB := tb_5 (i := 38) rfl rfl
theorem tw999 : Cond.methodLink "BallBox$Search" (69 : Nat) y_SE_isSeen ∈ TB := tb_5 (i := 39) rfl rfl
theorem tw1001 : Cond.instanceMethod y_SE_isSeen ∈ TB := tb_5 (i := 41) rfl rfl
theorem tw1002 : Cond.code y_SE_isSeen prog_9_method_7_code (2 : Nat) (Option.some FieldType.boolean) ∈ TB := tb_5 (i := 42) rfl rfl
theorem tw1003 : Cond.methodLink "BallBoxLaw" (81 : Nat) y_BB_path ∈ TB := tb_5 (i := 43) rfl rfl
theorem tw1004 : Cond.instanceMethod y_BB_path ∈ TB := tb_5 (i := 44) rfl rfl
theorem tw1005 : Cond.selects "BallBox" y_BB_path y_BB_path ∈ TB := tb_5 (i := 45) rfl rfl
theorem tw1006 : Cond.code y_BB_path prog_1_method_17_code (2 : Nat) (Option.some FieldType.int) ∈ TB := tb_5 (i := 46) rfl rfl
theorem tw1007 : Cond.methodLink "BallBox" (229 : Nat) y_SE_wayOfPath ∈ TB := tb_5 (i := 47) rfl rfl
theorem tw1008 : Cond.instanceMethod y_SE_wayOfPath ∈ TB := tb_5 (i := 48) rfl rfl
theorem tw1009 : Cond.selects "BallBox$Search" y_SE_wayOfPath y_SE_wayOfPath ∈ TB := tb_5 (i := 49) rfl rfl
theorem tw1010 : Cond.code y_SE_wayOfPath prog_9_method_4_code (4 : Nat) (Option.some FieldType.int) ∈ TB := tb_5 (i := 50) rfl rfl
theorem tw1011 : Cond.methodLink "BallBoxLaw" (85 : Nat) y_BB_blind ∈ TB := tb_5 (i := 51) rfl rfl
theorem tw1012 : Cond.instanceMethod y_BB_blind ∈ TB := tb_5 (i := 52) rfl rfl
theorem tw1013 : Cond.selects "BallBox" y_BB_blind y_BB_blind ∈ TB := tb_5 (i := 53) rfl rfl
theorem tw1014 : Cond.code y_BB_blind prog_1_method_18_code (5 : Nat) (Option.some FieldType.int) ∈ TB := tb_5 (i := 54) rfl rfl
theorem tw1015 : Cond.methodLink "BallBox" (232 : Nat) y_PA_keepUp ∈ TB := tb_5 (i := 55) rfl rfl
theorem tw1016 : Cond.instanceMethod y_PA_keepUp ∈ TB := tb_5 (i := 56) rfl rfl
theorem tw1017 : Cond.selects "BallBox$Pairs" y_PA_keepUp y_PA_keepUp ∈ TB := tb_5 (i := 57) rfl rfl
theorem tw1018 : Cond.code y_PA_keepUp prog_5_method_2_code (4 : Nat) (Option.none : Option FieldType) ∈ TB := tb_5 (i := 58) rfl rfl
theorem tw1019 : Cond.methodLink "BallBox$Pairs" (46 : Nat) y_SA_listPlain ∈ TB := tb_5 (i := 59) rfl rfl
theorem tw1020 : Cond.instanceMethod y_SA_listPlain ∈ TB := tb_5 (i := 60) rfl rfl
theorem tw1021 : Cond.selects "BallBox$State" y_SA_listPlain y_SA_listPlain ∈ TB := tb_5 (i := 61) rfl rfl
theorem tw1022 : Cond.code y_SA_listPlain prog_10_method_22_code (4 : Nat) (Option.some FieldType.int) ∈ TB := tb_5 (i := 62) rfl rfl
theorem tw1023 : Cond.methodLink "BallBox$Pairs" (53 : Nat) y_PA_listSituations ∈ TB := tb_5 (i := 63) rfl rfl
theorem tw1025 : Cond.instanceMethod y_PA_listSituations ∈ TB := tb_5 (i := 65) rfl rfl
theorem tw1026 : Cond.code y_PA_listSituations prog_5_method_5_code (9 : Nat) (Option.none : Option FieldType) ∈ TB := tb_5 (i := 66) rfl rfl
theorem tw1027 : Cond.methodLink "BallBox$Pairs" (57 : Nat) y_PA_rollAll ∈ TB := tb_5 (i := 67) rfl rfl
theorem tw1029 : Cond.instanceMethod y_PA_rollAll ∈ TB := tb_5 (i := 69) rfl rfl
theorem tw1030 : Cond.code y_PA_rollAll prog_5_method_6_code (6 : Nat) (Option.none : Option FieldType) ∈ TB := tb_5 (i := 70) rfl rfl
theorem tw1031 : Cond.methodLink "BallBox$Pairs" (80 : Nat) y_RO_rolled ∈ TB := tb_5 (i := 71) rfl rfl
theorem tw1032 : Cond.methodLink "BallBox$Pairs" (86 : Nat) y_SA_hasLost ∈ TB := tb_5 (i := 72) rfl rfl
theorem tw1033 : Cond.methodLink "BallBox$Pairs" (61 : Nat) y_PA_reckonFar ∈ TB := tb_5 (i := 73) rfl rfl
theorem tw1035 : Cond.instanceMethod y_PA_reckonFar ∈ TB := tb_5 (i := 75) rfl rfl
theorem tw1036 : Cond.code y_PA_reckonFar prog_5_method_7_code (5 : Nat) (Option.none : Option FieldType) ∈ TB := tb_5 (i := 76) rfl rfl
theorem tw1037 : Cond.methodLink "BallBox$Pairs" (89 : Nat) y_JA_fill ∈ TB := tb_5 (i := 77) rfl rfl
theorem tw1038 : Cond.methodLink "BallBox$Pairs" (95 : Nat) y_PA_comesTo ∈ TB := tb_5 (i := 78) rfl rfl
theorem tw1040 : Cond.instanceMethod y_PA_comesTo ∈ TB := tb_5 (i := 80) rfl rfl
theorem tw1041 : Cond.code y_PA_comesTo prog_5_method_8_code (5 : Nat) (Option.some FieldType.boolean) ∈ TB := tb_5 (i := 81) rfl rfl
theorem tw1042 : Cond.methodLink "BallBox$Pairs" (64 : Nat) y_PA_listBeginnings ∈ TB := tb_5 (i := 82) rfl rfl
theorem tw1044 : Cond.instanceMethod y_PA_listBeginnings ∈ TB := tb_5 (i := 84) rfl rfl
theorem tw1045 : Cond.code y_PA_listBeginnings prog_5_method_9_code (6 : Nat) (Option.none : Option FieldType) ∈ TB := tb_5 (i := 85) rfl rfl
theorem tw1046 : Cond.methodLink "BallBox$Pairs" (105 : Nat) y_SA_beginningsEnd ∈ TB := tb_5 (i := 86) rfl rfl
theorem tw1047 : Cond.static y_SA_beginningsEnd ∈ TB := tb_5 (i := 87) rfl rfl
theorem tw1048 : Cond.code y_SA_beginningsEnd prog_10_method_13_code (4 : Nat) (Option.some FieldType.int) ∈ TB := tb_5 (i := 88) rfl rfl
theorem tw1049 : Cond.methodLink "BallBox$Pairs" (109 : Nat) y_SA_beginning ∈ TB := tb_5 (i := 89) rfl rfl
theorem tw1050 : Cond.static y_SA_beginning ∈ TB := tb_5 (i := 90) rfl rfl
theorem tw1051 : Cond.code y_SA_beginning prog_10_method_12_code (10 : Nat) (Option.some FieldType.int) ∈ TB := tb_5 (i := 91) rfl rfl
theorem tw1052 : Cond.methodLink "BallBox" (233 : Nat) y_PA_blindLength ∈ TB := tb_5 (i := 92) rfl rfl
theorem tw1053 : Cond.instanceMethod y_PA_blindLength ∈ TB := tb_5 (i := 93) rfl rfl
theorem tw1054 : Cond.selects "BallBox$Pairs" y_PA_blindLength y_PA_blindLength ∈ TB := tb_5 (i := 94) rfl rfl
theorem tw1055 : Cond.code y_PA_blindLength prog_5_method_3_code (2 : Nat) (Option.some FieldType.int) ∈ TB := tb_5 (i := 95) rfl rfl
theorem tw1056 : Cond.methodLink "BallBox$Pairs" (73 : Nat) y_PA_findsRow ∈ TB := tb_5 (i := 96) rfl rfl
theorem tw1058 : Cond.instanceMethod y_PA_findsRow ∈ TB := tb_5 (i := 98) rfl rfl
theorem tw1059 : Cond.code y_PA_findsRow prog_5_method_10_code (4 : Nat) (Option.some FieldType.boolean) ∈ TB := tb_5 (i := 99) rfl rfl
theorem tw1060 : Cond.methodLink "BallBox$Pairs" (113 : Nat) y_PA_startsCanDo ∈ TB := tb_5 (i := 100) rfl rfl
theorem tw1062 : Cond.instanceMethod y_PA_startsCanDo ∈ TB := tb_5 (i := 102) rfl rfl
theorem tw1063 : Cond.code y_PA_startsCanDo prog_5_method_11_code (4 : Nat) (Option.some FieldType.boolean) ∈ TB := tb_5 (i := 103) rfl rfl
theorem tw1064 : Cond.methodLink "BallBox$Pairs" (116 : Nat) y_PA_goesOn ∈ TB := tb_5 (i := 104) rfl rfl
theorem tw1066 : Cond.instanceMethod y_PA_goesOn ∈ TB := tb_5 (i := 106) rfl rfl
theorem tw1067 : Cond.code y_PA_goesOn prog_5_method_12_code (9 : Nat) (Option.some FieldType.boolean) ∈ TB := tb_5 (i := 107) rfl rfl
theorem tw1068 : Cond.methodLink "BallBox" (236 : Nat) y_PA_wayOfBlind ∈ TB := tb_5 (i := 108) rfl rfl
theorem tw1069 : Cond.instanceMethod y_PA_wayOfBlind ∈ TB := tb_5 (i := 109) rfl rfl
theorem tw1070 : Cond.selects "BallBox$Pairs" y_PA_wayOfBlind y_PA_wayOfBlind ∈ TB := tb_5 (i := 110) rfl rfl
theorem tw1071 : Cond.code y_PA_wayOfBlind prog_5_method_4_code (2 : Nat) (Option.some FieldType.int) ∈ TB := tb_5 (i := 111) rfl rfl
theorem tw1072 : Cond.methodLink "BallBoxLaw" (89 : Nat) y_BB_chipped ∈ TB := tb_5 (i := 112) rfl rfl
theorem tw1073 : Cond.instanceMethod y_BB_chipped ∈ TB := tb_5 (i := 113) rfl rfl
theorem tw1074 : Cond.selects "BallBox" y_BB_chipped y_BB_chipped ∈ TB := tb_5 (i := 114) rfl rfl
theorem tw1075 : Cond.code y_BB_chipped prog_1_method_19_code (2 : Nat) (Option.some FieldType.int) ∈ TB := tb_5 (i := 115) rfl rfl
theorem tw1076 : Cond.methodLink "BallBox" (239 : Nat) y_CA_keepUp ∈ TB := tb_5 (i := 116) rfl rfl
theorem tw1077 : Cond.instanceMethod y_CA_keepUp ∈ TB := tb_5 (i := 117) rfl rfl
theorem tw1078 : Cond.selects "BallBox$Carver" y_CA_keepUp y_CA_keepUp ∈ TB := tb_5 (i := 118) rfl rfl
theorem tw1079 : Cond.code y_CA_keepUp prog_3_method_2_code (6 : Nat) (Option.none : Option FieldType) ∈ TB := tb_5 (i := 119) rfl rfl
theorem tw1080 : Cond.methodLink "BallBox$Carver" (37 : Nat) y_SA_isHopeless ∈ TB := tb_5 (i := 120) rfl rfl
theorem tw1081 : Cond.instanceMethod y_SA_isHopeless ∈ TB := tb_5 (i := 121) rfl rfl
theorem tw1082 : Cond.selects "BallBox$State" y_SA_isHopeless y_SA_isHopeless ∈ TB := tb_5 (i := 122) rfl rfl
theorem tw1083 : Cond.code y_SA_isHopeless prog_10_method_21_code (3 : Nat) (Option.some FieldType.boolean) ∈ TB := tb_5 (i := 123) rfl rfl
theorem tw1084 : Cond.methodLink "BallBox$Carver" (41 : Nat) y_SA_takeOver ∈ TB := tb_5 (i := 124) rfl rfl
theorem tw1085 : Cond.instanceMethod y_SA_takeOver ∈ TB := tb_5 (i := 125) rfl rfl
theorem tw1086 : Cond.selects "BallBox$State" y_SA_takeOver y_SA_takeOver ∈ TB := tb_5 (i := 126) rfl rfl
theorem tw1087 : Cond.code y_SA_takeOver prog_10_method_26_code (2 : Nat) (Option.none : Option FieldType) ∈ TB := tb_5 (i := 127) rfl rfl
theorem tw1088 : Cond.methodLink "BallBox$Carver" (52 : Nat) y_SA_whoLies ∈ TB := tb_5 (i := 128) rfl rfl
theorem tw1089 : Cond.methodLink "BallBox$Carver" (56 : Nat) y_SE_reckoned ∈ TB := tb_5 (i := 129) rfl rfl
theorem tw1090 : Cond.methodLink "BallBox$Carver" (60 : Nat) y_CA_noteIfBetter ∈ TB := tb_5 (i := 130) rfl rfl
theorem tw1092 : Cond.instanceMethod y_CA_noteIfBetter ∈ TB := tb_5 (i := 132) rfl rfl
theorem tw1093 : Cond.code y_CA_noteIfBetter prog_3_method_3_code (6 : Nat) (Option.none : Option FieldType) ∈ TB := tb_5 (i := 133) rfl rfl
theorem tw1094 : Cond.methodLink "BallBox" (242 : Nat) y_CA_answer ∈ TB := tb_5 (i := 134) rfl rfl
theorem tw1095 : Cond.instanceMethod y_CA_answer ∈ TB := tb_5 (i := 135) rfl rfl
theorem tw1096 : Cond.selects "BallBox$Carver" y_CA_answer y_CA_answer ∈ TB := tb_5 (i := 136) rfl rfl
theorem tw1097 : Cond.code y_CA_answer prog_3_method_4_code (4 : Nat) (Option.some FieldType.int) ∈ TB := tb_5 (i := 137) rfl rfl
theorem tw1098 : Cond.methodLink "BallBox$Carver" (64 : Nat) y_SA_columnOf ∈ TB := tb_5 (i := 138) rfl rfl
theorem tw1099 : Cond.methodLink "BallBox$Carver" (68 : Nat) y_SA_rowOf ∈ TB := tb_5 (i := 139) rfl rfl
theorem tw1100 : Cond.methodLink "BallBoxLaw" (93 : Nat) y_BB_walled ∈ TB := tb_5 (i := 140) rfl rfl
theorem tw1101 : Cond.instanceMethod y_BB_walled ∈ TB := tb_5 (i := 141) rfl rfl
theorem tw1102 : Cond.selects "BallBox" y_BB_walled y_BB_walled ∈ TB := tb_5 (i := 142) rfl rfl
theorem tw1103 : Cond.code y_BB_walled prog_1_method_20_code (2 : Nat) (Option.some FieldType.int) ∈ TB := tb_5 (i := 143) rfl rfl
theorem tw1104 : Cond.methodLink "BallBoxLaw" (97 : Nat) y_BB_hardest ∈ TB := tb_5 (i := 144) rfl rfl
theorem tw1105 : Cond.instanceMethod y_BB_hardest ∈ TB := tb_5 (i := 145) rfl rfl
theorem tw1106 : Cond.selects "BallBox" y_BB_hardest y_BB_hardest ∈ TB := tb_5 (i := 146) rfl rfl
theorem tw1107 : Cond.code y_BB_hardest prog_1_method_21_code (2 : Nat) (Option.some FieldType.int) ∈ TB := tb_5 (i := 147) rfl rfl
theorem tw1108 : Cond.methodLink "BallBox" (251 : Nat) y_SA_numberIn ∈ TB := tb_5 (i := 148) rfl rfl
theorem tw1109 : Cond.static y_SA_numberIn ∈ TB := tb_5 (i := 149) rfl rfl
theorem tw1110 : Cond.code y_SA_numberIn prog_10_method_6_code (3 : Nat) (Option.some FieldType.int) ∈ TB := tb_5 (i := 150) rfl rfl
theorem tw1111 : Cond.methodLink "BallBoxLaw" (101 : Nat) y_BB_sound ∈ TB := tb_5 (i := 151) rfl rfl
theorem tw1112 : Cond.instanceMethod y_BB_sound ∈ TB := tb_5 (i := 152) rfl rfl
theorem tw1113 : Cond.selects "BallBox" y_BB_sound y_BB_sound ∈ TB := tb_5 (i := 153) rfl rfl
theorem tw1114 : Cond.code y_BB_sound prog_1_method_22_code (5 : Nat) (Option.some FieldType.int) ∈ TB := tb_5 (i := 154) rfl rfl
theorem tw1115 : Cond.methodLink "BallBox" (260 : Nat) y_LI_packed ∈ TB := tb_5 (i := 155) rfl rfl
theorem tw1116 : Cond.static y_LI_packed ∈ TB := tb_5 (i := 156) rfl rfl
theorem tw1117 : Cond.code y_LI_packed prog_4_method_2_code (3 : Nat) (Option.some FieldType.int) ∈ TB := tb_5 (i := 157) rfl rfl
theorem tw1118 : Cond.methodLink "BallBox$Listener" (32 : Nat) y_LI_heard ∈ TB := tb_5 (i := 158) rfl rfl
theorem tw1119 : Cond.static y_LI_heard ∈ TB := tb_5 (i := 159) rfl rfl
theorem tw1120 : Cond.code y_LI_heard prog_4_method_3_code (2 : Nat) (Option.some FieldType.int) ∈ TB := tb_5 (i := 160) rfl rfl
theorem tw1121 : Cond.methodLink "BallBoxLaw" (105 : Nat) y_BB_fits ∈ TB := tb_5 (i := 161) rfl rfl
theorem tw1122 : Cond.instanceMethod y_BB_fits ∈ TB := tb_5 (i := 162) rfl rfl
theorem tw1123 : Cond.selects "BallBox" y_BB_fits y_BB_fits ∈ TB := tb_5 (i := 163) rfl rfl
theorem tw1124 : Cond.code y_BB_fits prog_1_method_23_code (2 : Nat) (Option.some FieldType.int) ∈ TB := tb_5 (i := 164) rfl rfl
theorem tw1125 : Cond.methodLink "BallBox" (263 : Nat) y_LI_keepUp ∈ TB := tb_5 (i := 165) rfl rfl
theorem tw1126 : Cond.instanceMethod y_LI_keepUp ∈ TB := tb_5 (i := 166) rfl rfl
theorem tw1127 : Cond.selects "BallBox$Listener" y_LI_keepUp y_LI_keepUp ∈ TB := tb_5 (i := 167) rfl rfl
theorem tw1128 : Cond.code y_LI_keepUp prog_4_method_5_code (9 : Nat) (Option.none : Option FieldType) ∈ TB := tb_5 (i := 168) rfl rfl
theorem tw1129 : Cond.methodLink "BallBox$Listener" (46 : Nat) y_JA_fill_1 ∈ TB := tb_5 (i := 169) rfl rfl
theorem tw1130 : Cond.static y_JA_fill_1 ∈ TB := tb_5 (i := 170) rfl rfl
theorem tw1131 : Cond.code y_JA_fill_1 prog_21_method_101_code (5 : Nat) (Option.none : Option FieldType) ∈ TB := tb_5 (i := 171) rfl rfl
theorem tw1132 : Cond.methodLink "BallBox$Listener" (52 : Nat) y_JA_fill ∈ TB := tb_5 (i := 172) rfl rfl
theorem tw1133 : Cond.methodLink "BallBox$Listener" (55 : Nat) y_SA_listPlain ∈ TB := tb_5 (i := 173) rfl rfl
theorem tw1134 : Cond.methodLink "BallBox$Listener" (62 : Nat) y_SA_beginningsEnd ∈ TB := tb_5 (i := 174) rfl rfl
theorem tw1135 : Cond.methodLink "BallBox$Listener" (65 : Nat) y_SA_beginning ∈ TB := tb_5 (i := 175) rfl rfl
theorem tw1136 : Cond.methodLink "BallBox$Listener" (69 : Nat) y_LI_behindSounds ∈ TB := tb_5 (i := 176) rfl rfl
theorem tw1138 : Cond.instanceMethod y_LI_behindSounds ∈ TB := tb_5 (i := 178) rfl rfl
theorem tw1139 : Cond.code y_LI_behindSounds prog_4_method_6_code (6 : Nat) (Option.some FieldType.int) ∈ TB := tb_5 (i := 179) rfl rfl
theorem tw1140 : Cond.methodLink "BallBox$Listener" (90 : Nat) y_RO_rolled ∈ TB := tb_5 (i := 180) rfl rfl
theorem tw1141 : Cond.methodLink "BallBox$Listener" (73 : Nat) y_LI_noteFit ∈ TB := tb_5 (i := 181) rfl rfl
theorem tw1143 : Cond.instanceMethod y_LI_noteFit ∈ TB := tb_5 (i := 183) rfl rfl
theorem tw1144 : Cond.code y_LI_noteFit prog_4_method_7_code (4 : Nat) (Option.none : Option FieldType) ∈ TB := tb_5 (i := 184) rfl rfl
theorem tw1145 : Cond.methodLink "BallBox$Listener" (105 : Nat) y_SA_spotIn ∈ TB := tb_5 (i := 185) rfl rfl
theorem tw1146 : Cond.methodLink "BallBox$Listener" (77 : Nat) y_LI_listenOn ∈ TB := tb_5 (i := 186) rfl rfl
theorem tw1148 : Cond.instanceMethod y_LI_listenOn ∈ TB := tb_5 (i := 188) rfl rfl
theorem tw1149 : Cond.code y_LI_listenOn prog_4_method_8_code (4 : Nat) (Option.none : Option FieldType) ∈ TB := tb_5 (i := 189) rfl rfl
theorem tw1150 : Cond.methodLink "BallBox$Listener" (108 : Nat) y_LI_packed ∈ TB := tb_5 (i := 190) rfl rfl
theorem tw1151 : Cond.methodLink "BallBox$Listener" (81 : Nat) y_LI_chooseWay ∈ TB := tb_5 (i := 191) rfl rfl
theorem tw1153 : Cond.instanceMethod y_LI_chooseWay ∈ TB := tb_5 (i := 193) rfl rfl
theorem tw1154 : Cond.code y_LI_chooseWay prog_4_method_9_code (4 : Nat) (Option.none : Option FieldType) ∈ TB := tb_5 (i := 194) rfl rfl
theorem tw1155 : Cond.methodLink "BallBox$Listener" (115 : Nat) y_JM_max ∈ TB := tb_5 (i := 195) rfl rfl
theorem tw1156 : Cond.methodLink "BallBoxLaw" (109 : Nat) y_BB_where ∈ TB := tb_5 (i := 196) rfl rfl
theorem tw1157 : Cond.instanceMethod y_BB_where ∈ TB := tb_5 (i := 197) rfl rfl
theorem tw1158 : Cond.selects "BallBox" y_BB_where y_BB_where ∈ TB := tb_5 (i := 198) rfl rfl
theorem tw1159 : Cond.code y_BB_where prog_1_method_24_code (2 : Nat) (Option.some FieldType.long) ∈ TB := tb_5 (i := 199) rfl rfl
theorem tw1160 : Cond.methodLink "BallBox" (272 : Nat) y_LI_cellsOf ∈ TB := tb_5 (i := 200) rfl rfl
theorem tw1161 : Cond.instanceMethod y_LI_cellsOf ∈ TB := tb_5 (i := 201) rfl rfl
theorem tw1162 : Cond.selects "BallBox$Listener" y_LI_cellsOf y_LI_cellsOf ∈ TB := tb_5 (i := 202) rfl rfl
theorem tw1163 : Cond.code y_LI_cellsOf prog_4_method_4_code (6 : Nat) (Option.some FieldType.long) ∈ TB := tb_5 (i := 203) rfl rfl
theorem tw1164 : Cond.methodLink "BallBox$Listener" (36 : Nat) y_SA_spotOf ∈ TB := tb_5 (i := 204) rfl rfl
theorem tw1165 : Cond.methodLink "BallBoxLaw" (114 : Nat) y_BB_tells ∈ TB := tb_5 (i := 205) rfl rfl
theorem tw1166 : Cond.instanceMethod y_BB_tells ∈ TB := tb_5 (i := 206) rfl rfl
theorem tw1167 : Cond.selects "BallBox" y_BB_tells y_BB_tells ∈ TB := tb_5 (i := 207) rfl rfl
theorem tw1168 : Cond.code y_BB_tells prog_1_method_25_code (2 : Nat) (Option.some FieldType.int) ∈ TB := tb_5 (i := 208) rfl rfl
theorem tw1169 : Cond.methodLink "BallBoxLaw" (118 : Nat) y_BB_game ∈ TB := tb_5 (i := 209) rfl rfl
theorem tw1170 : Cond.instanceMethod y_BB_game ∈ TB := tb_5 (i := 210) rfl rfl
theorem tw1171 : Cond.selects "BallBox" y_BB_game y_BB_game ∈ TB := tb_5 (i := 211) rfl rfl
theorem tw1172 : Cond.code y_BB_game prog_1_method_26_code (4 : Nat) (Option.some FieldType.int) ∈ TB := tb_5 (i := 212) rfl rfl
theorem tw1173 : Cond.methodLink "BallBox" (282 : Nat) y_TR_winningWay ∈ TB := tb_5 (i := 213) rfl rfl
theorem tw1174 : Cond.instanceMethod y_TR_winningWay ∈ TB := tb_5 (i := 214) rfl rfl
theorem tw1175 : Cond.selects "BallBox$Trial" y_TR_winningWay y_TR_winningWay ∈ TB := tb_5 (i := 215) rfl rfl
theorem tw1176 : Cond.code y_TR_winningWay prog_12_method_8_code (5 : Nat) (Option.some FieldType.int) ∈ TB := tb_5 (i := 216) rfl rfl
theorem tw1177 : Cond.methodLink "BallBox$Trial" (68 : Nat) y_SA_isHopeless ∈ TB := tb_5 (i := 217) rfl rfl
theorem tw1178 : Cond.methodLink "BallBox$Trial" (72 : Nat) y_TR_comesHome ∈ TB := tb_5 (i := 218) rfl rfl
theorem tw1180 : Cond.instanceMethod y_TR_comesHome ∈ TB := tb_5 (i := 220) rfl rfl
theorem tw1181 : Cond.code y_TR_comesHome prog_12_method_9_code (7 : Nat) (Option.some FieldType.boolean) ∈ TB := tb_5 (i := 221) rfl rfl
theorem tw1182 : Cond.methodLink "BallBox$Trial" (76 : Nat) y_SA_hasLost ∈ TB := tb_5 (i := 222) rfl rfl
theorem tw1183 : Cond.methodLink "BallBoxLaw" (122 : Nat) y_BB_book ∈ TB := tb_5 (i := 223) rfl rfl
theorem tw1184 : Cond.instanceMethod y_BB_book ∈ TB := tb_5 (i := 224) rfl rfl
theorem tw1185 : Cond.selects "BallBox" y_BB_book y_BB_book ∈ TB := tb_5 (i := 225) rfl rfl
theorem tw1186 : Cond.code y_BB_book prog_1_method_27_code (1 : Nat) (Option.some FieldType.int) ∈ TB := tb_5 (i := 226) rfl rfl
theorem tw1187 : Cond.methodLink "BallBox" (289 : Nat) y_BB_isInBook ∈ TB := tb_5 (i := 227) rfl rfl
theorem tw1189 : Cond.instanceMethod y_BB_isInBook ∈ TB := tb_5 (i := 229) rfl rfl
theorem tw1190 : Cond.code y_BB_isInBook prog_1_method_35_code (2 : Nat) (Option.some FieldType.boolean) ∈ TB := tb_5 (i := 230) rfl rfl
theorem tw1191 : Cond.methodLink "BallBox" (321 : Nat) y_SA_isAlike ∈ TB := tb_5 (i := 231) rfl rfl
theorem tw1192 : Cond.instanceMethod y_SA_isAlike ∈ TB := tb_5 (i := 232) rfl rfl
theorem tw1193 : Cond.selects "BallBox$State" y_SA_isAlike y_SA_isAlike ∈ TB := tb_5 (i := 233) rfl rfl
theorem tw1194 : Cond.code y_SA_isAlike prog_10_method_27_code (3 : Nat) (Option.some FieldType.boolean) ∈ TB := tb_5 (i := 234) rfl rfl
theorem tw1195 : Cond.methodLink "BallBox$State" (97 : Nat) y_SA_isTurned ∈ TB := tb_5 (i := 235) rfl rfl
theorem tw1197 : Cond.instanceMethod y_SA_isTurned ∈ TB := tb_5 (i := 237) rfl rfl
theorem tw1198 : Cond.code y_SA_isTurned prog_10_method_28_code (9 : Nat) (Option.some FieldType.boolean) ∈ TB := tb_5 (i := 238) rfl rfl
theorem tw1199 : Cond.methodLink "BallBox$State" (101 : Nat) y_SA_spotOf ∈ TB := tb_5 (i := 239) rfl rfl
theorem tw1200 : Cond.methodLink "BallBox$State" (104 : Nat) y_SA_showsSame ∈ TB := tb_6 (i := 0) rfl rfl
theorem tw1202 : Cond.instanceMethod y_SA_showsSame ∈ TB := tb_6 (i := 2) rfl rfl
theorem tw1203 : Cond.code y_SA_showsSame prog_10_method_29_code (4 : Nat) (Option.some FieldType.boolean) ∈ TB := tb_6 (i := 3) rfl rfl
theorem tw1204 : Cond.methodLink "BallBox" (293 : Nat) y_SA_takeOver ∈ TB := tb_6 (i := 4) rfl rfl
theorem tw1205 : Cond.methodLink "BallBoxLaw" (126 : Nat) y_BB_pain ∈ TB := tb_6 (i := 5) rfl rfl
theorem tw1206 : Cond.instanceMethod y_BB_pain ∈ TB := tb_6 (i := 6) rfl rfl
theorem tw1207 : Cond.selects "BallBox" y_BB_pain y_BB_pain ∈ TB := tb_6 (i := 7) rfl rfl
theorem tw1208 : Cond.code y_BB_pain prog_1_method_28_code (2 : Nat) (Option.some FieldType.int) ∈ TB := tb_6 (i := 8) rfl rfl
theorem tw1209 : Cond.methodLink "BallBoxLaw" (130 : Nat) y_BB_seed ∈ TB := tb_6 (i := 9) rfl rfl
theorem tw1210 : Cond.instanceMethod y_BB_seed ∈ TB := tb_6 (i := 10) rfl rfl
theorem tw1211 : Cond.selects "BallBox" y_BB_seed y_BB_seed ∈ TB := tb_6 (i := 11) rfl rfl
theorem tw1212 : Cond.code y_BB_seed prog_1_method_29_code (3 : Nat) (Option.some FieldType.int) ∈ TB := tb_6 (i := 12) rfl rfl
theorem tw1213 : Cond.methodLink "BallBoxLaw" (134 : Nat) y_BB_shaken ∈ TB := tb_6 (i := 13) rfl rfl
theorem tw1214 : Cond.instanceMethod y_BB_shaken ∈ TB := tb_6 (i := 14) rfl rfl
theorem tw1215 : Cond.selects "BallBox" y_BB_shaken y_BB_shaken ∈ TB := tb_6 (i := 15) rfl rfl
theorem tw1216 : Cond.code y_BB_shaken prog_1_method_30_code (5 : Nat) (Option.some FieldType.int) ∈ TB := tb_6 (i := 16) rfl rfl
theorem tw1217 : Cond.methodLink "BallBox" (299 : Nat) y_TR_shake ∈ TB := tb_6 (i := 17) rfl rfl
theorem tw1218 : Cond.instanceMethod y_TR_shake ∈ TB := tb_6 (i := 18) rfl rfl
theorem tw1219 : Cond.selects "BallBox$Trial" y_TR_shake y_TR_shake ∈ TB := tb_6 (i := 19) rfl rfl
theorem tw1220 : Cond.code y_TR_shake prog_12_method_10_code (8 : Nat) (Option.none : Option FieldType) ∈ TB := tb_6 (i := 20) rfl rfl
theorem tw1221 : Cond.constantLong "BallBox$Trial" (89 : Nat) (1103515245 : Int64) ∈ TB := tb_6 (i := 21) rfl rfl
theorem tw1222 : Cond.constantLong "BallBox$Trial" (91 : Nat) (12345 : Int64) ∈ TB := tb_6 (i := 22) rfl rfl
theorem tw1223 : Cond.constantLong "BallBox$Trial" (93 : Nat) (2147483647 : Int64) ∈ TB := tb_6 (i := 23) rfl rfl
theorem tw1224 : Cond.constantLong "BallBox$Trial" (95 : Nat) (65536 : Int64) ∈ TB := tb_6 (i := 24) rfl rfl
theorem tw1225 : Cond.constantLong "BallBox$Trial" (97 : Nat) (4 : Int64) ∈ TB := tb_6 (i := 25) rfl rfl
theorem tw1226 : Cond.methodLink "BallBox$Trial" (99 : Nat) y_SA_howMany ∈ TB := tb_6 (i := 26) rfl rfl
theorem tw1227 : Cond.methodLink "BallBoxLaw" (138 : Nat) y_BB_count ∈ TB := tb_6 (i := 27) rfl rfl
theorem tw1228 : Cond.instanceMethod y_BB_count ∈ TB := tb_6 (i := 28) rfl rfl
theorem tw1229 : Cond.selects "BallBox" y_BB_count y_BB_count ∈ TB := tb_6 (i := 29) rfl rfl
theorem tw1230 : Cond.code y_BB_count prog_1_method_31_code (2 : Nat) (Option.some FieldType.int) ∈ TB := tb_6 (i := 30) rfl rfl
theorem tw1231 : Cond.methodLink "BallBox" (314 : Nat) y_SA_howManyWalls ∈ TB := tb_6 (i := 31) rfl rfl
theorem tw1232 : Cond.instanceMethod y_SA_howManyWalls ∈ TB := tb_6 (i := 32) rfl rfl
theorem tw1233 : Cond.selects "BallBox$State" y_SA_howManyWalls y_SA_howManyWalls ∈ TB := tb_6 (i := 33) rfl rfl
theorem tw1234 : Cond.code y_SA_howManyWalls prog_10_method_19_code (3 : Nat) (Option.some FieldType.int) ∈ TB := tb_6 (i := 34) rfl rfl
theorem tw1235 : Cond.methodLink "BallBoxLaw" (142 : Nat) y_BB_image ∈ TB := tb_6 (i := 35) rfl rfl
theorem tw1236 : Cond.instanceMethod y_BB_image ∈ TB := tb_6 (i := 36) rfl rfl
theorem tw1237 : Cond.selects "BallBox" y_BB_image y_BB_image ∈ TB := tb_6 (i := 37) rfl rfl
theorem tw1238 : Cond.code y_BB_image prog_1_method_32_code (2 : Nat) (Option.some FieldType.int) ∈ TB := tb_6 (i := 38) rfl rfl
theorem tw1239 : Cond.methodLink "BallBoxLaw" (146 : Nat) y_BB_back ∈ TB := tb_6 (i := 39) rfl rfl
theorem tw1240 : Cond.instanceMethod y_BB_back ∈ TB := tb_6 (i := 40) rfl rfl
theorem tw1241 : Cond.selects "BallBox" y_BB_back y_BB_back ∈ TB := tb_6 (i := 41) rfl rfl
theorem tw1242 : Cond.code y_BB_back prog_1_method_33_code (2 : Nat) (Option.some FieldType.int) ∈ TB := tb_6 (i := 42) rfl rfl
theorem tw1243 : Cond.classLink "BallBoxLaw" (10 : Nat) "BallBoxModel" ∈ TB := tb_6 (i := 43) rfl rfl
theorem tw1244 : Cond.instantiable "BallBoxModel" (76 : Nat) ∈ TB := tb_6 (i := 44) rfl rfl
theorem tw1245 : Cond.methodLink "BallBoxLaw" (12 : Nat) y_BM_init ∈ TB := tb_6 (i := 45) rfl rfl
theorem tw1246 : Cond.instanceMethod y_BM_init ∈ TB := tb_6 (i := 46) rfl rfl
theorem tw1247 : Cond.code y_BM_init prog_14_method_1_code (1 : Nat) (Option.none : Option FieldType) ∈ TB := tb_6 (i := 47) rfl rfl
theorem tw1248 : Cond.methodLink "BallBoxModel" (3 : Nat) y_JO_init ∈ TB := tb_6 (i := 48) rfl rfl
theorem tw1249 : Cond.constant "BallBoxModel" (85 : Nat) (54872 : Int32) ∈ TB := tb_6 (i := 49) rfl rfl
theorem tw1250 : Cond.fieldLink "BallBoxModel" (9 : Nat) "BallBoxModel" "scalar" "[I" ∈ TB := tb_6 (i := 50) rfl rfl
theorem tw1251 : Cond.fieldLink "BallBoxModel" (13 : Nat) "BallBoxModel" "kind" "[I" ∈ TB := tb_6 (i := 51) rfl rfl
theorem tw1252 : Cond.fieldLink "BallBoxModel" (16 : Nat) "BallBoxModel" "place" "[I" ∈ TB := tb_6 (i := 52) rfl rfl
theorem tw1253 : Cond.fieldLink "BallBoxModel" (19 : Nat) "BallBoxModel" "pressed" "[I" ∈ TB := tb_6 (i := 53) rfl rfl
theorem tw1254 : Cond.fieldLink "BallBoxModel" (22 : Nat) "BallBoxModel" "soundWay" "[I" ∈ TB := tb_6 (i := 54) rfl rfl
theorem tw1255 : Cond.fieldLink "BallBoxModel" (25 : Nat) "BallBoxModel" "soundHits" "[I" ∈ TB := tb_6 (i := 55) rfl rfl
theorem tw1256 : Cond.fieldLink "BallBoxModel" (28 : Nat) "BallBoxModel" "soundFalls" "[I" ∈ TB := tb_6 (i := 56) rfl rfl
theorem tw1257 : Cond.fieldLink "BallBoxModel" (31 : Nat) "BallBoxModel" "newScalar" "[I" ∈ TB := tb_6 (i := 57) rfl rfl
theorem tw1258 : Cond.fieldLink "BallBoxModel" (34 : Nat) "BallBoxModel" "newKind" "[I" ∈ TB := tb_6 (i := 58) rfl rfl
theorem tw1259 : Cond.fieldLink "BallBoxModel" (37 : Nat) "BallBoxModel" "newPlace" "[I" ∈ TB := tb_6 (i := 59) rfl rfl
theorem tw1260 : Cond.fieldLink "BallBoxModel" (188 : Nat) "BallBoxModel" "taped" "I" ∈ TB := tb_6 (i := 60) rfl rfl
theorem tw1261 : Cond.fieldLink "BallBoxModel" (214 : Nat) "BallBoxModel" "p" "I" ∈ TB := tb_6 (i := 61) rfl rfl
theorem tw1262 : Cond.fieldLink "BallBoxModel" (211 : Nat) "BallBoxModel" "fault" "I" ∈ TB := tb_6 (i := 62) rfl rfl
theorem tw1263 : Cond.fieldLink "BallBoxModel" (241 : Nat) "BallBoxModel" "slot" "I" ∈ TB := tb_6 (i := 63) rfl rfl
theorem tw1264 : Cond.fieldLink "BallBoxModel" (347 : Nat) "BallBoxModel" "rules" "I" ∈ TB := tb_6 (i := 64) rfl rfl
theorem tw1265 : Cond.fieldLink "BallBoxModel" (244 : Nat) "BallBoxModel" "entries" "I" ∈ TB := tb_6 (i := 65) rfl rfl
theorem tw1266 : Cond.fieldLink "BallBoxModel" (284 : Nat) "BallBoxModel" "deep" "I" ∈ TB := tb_6 (i := 66) rfl rfl
theorem tw1267 : Cond.fieldLink "BallBoxModel" (247 : Nat) "BallBoxModel" "counted" "I" ∈ TB := tb_6 (i := 67) rfl rfl
theorem tw1268 : Cond.fieldLink "BallBoxModel" (281 : Nat) "BallBoxModel" "opened" "I" ∈ TB := tb_6 (i := 68) rfl rfl
theorem tw1269 : Cond.fieldLink "BallBoxModel" (40 : Nat) "BallBoxModel" "words" "I" ∈ TB := tb_6 (i := 69) rfl rfl
theorem tw1270 : Cond.fieldLink "BallBoxModel" (311 : Nat) "BallBoxModel" "holesTold" "I" ∈ TB := tb_6 (i := 70) rfl rfl
theorem tw1271 : Cond.fieldLink "BallBoxModel" (44 : Nat) "BallBoxModel" "tape" "[B" ∈ TB := tb_6 (i := 71) rfl rfl
theorem tw1272 : Cond.fieldLink "BallBoxModel" (48 : Nat) "BallBoxModel" "sort" "[I" ∈ TB := tb_6 (i := 72) rfl rfl
theorem tw1273 : Cond.fieldLink "BallBoxModel" (51 : Nat) "BallBoxModel" "number" "[I" ∈ TB := tb_6 (i := 73) rfl rfl
theorem tw1274 : Cond.fieldLink "BallBoxModel" (54 : Nat) "BallBoxModel" "clauses" "[I" ∈ TB := tb_6 (i := 74) rfl rfl
theorem tw1275 : Cond.fieldLink "BallBoxModel" (57 : Nat) "BallBoxModel" "sumAt" "[I" ∈ TB := tb_6 (i := 75) rfl rfl
theorem tw1276 : Cond.fieldLink "BallBoxModel" (60 : Nat) "BallBoxModel" "testAt" "[I" ∈ TB := tb_6 (i := 76) rfl rfl
theorem tw1277 : Cond.fieldLink "BallBoxModel" (63 : Nat) "BallBoxModel" "endAt" "[I" ∈ TB := tb_6 (i := 77) rfl rfl
theorem tw1278 : Cond.fieldLink "BallBoxModel" (66 : Nat) "BallBoxModel" "open" "[I" ∈ TB := tb_6 (i := 78) rfl rfl
theorem tw1279 : Cond.fieldLink "BallBoxModel" (69 : Nat) "BallBoxModel" "asked" "[J" ∈ TB := tb_6 (i := 79) rfl rfl
theorem tw1280 : Cond.fieldLink "BallBoxModel" (73 : Nat) "BallBoxModel" "stack" "[J" ∈ TB := tb_6 (i := 80) rfl rfl
theorem tw1281 : Cond.fieldLink "BallBoxModel" (363 : Nat) "BallBoxModel" "rolledTo" "I" ∈ TB := tb_6 (i := 81) rfl rfl
theorem tw1282 : Cond.fieldLink "BallBoxModel" (76 : Nat) "BallBoxModel" "order" "[I" ∈ TB := tb_6 (i := 82) rfl rfl
theorem tw1283 : Cond.fieldLink "BallBoxModel" (79 : Nat) "BallBoxModel" "rank" "[J" ∈ TB := tb_6 (i := 83) rfl rfl
theorem tw1284 : Cond.fieldLink "BallBoxModel" (385 : Nat) "BallBoxModel" "hits" "I" ∈ TB := tb_6 (i := 84) rfl rfl
theorem tw1285 : Cond.fieldLink "BallBoxModel" (388 : Nat) "BallBoxModel" "falls" "I" ∈ TB := tb_6 (i := 85) rfl rfl
theorem tw1286 : Cond.fieldLink "BallBoxModel" (82 : Nat) "BallBoxModel" "keptPlace" "[I" ∈ TB := tb_6 (i := 86) rfl rfl
theorem tw1287 : Cond.fieldLink "BallBoxModel" (404 : Nat) "BallBoxModel" "allHits" "I" ∈ TB := tb_6 (i := 87) rfl rfl
theorem tw1288 : Cond.fieldLink "BallBoxModel" (407 : Nat) "BallBoxModel" "allFalls" "I" ∈ TB := tb_6 (i := 88) rfl rfl
theorem tw1289 : Cond.fieldLink "BallBoxModel" (86 : Nat) "BallBoxModel" "came" "[I" ∈ TB := tb_6 (i := 89) rfl rfl
theorem tw1290 : Cond.fieldLink "BallBoxModel" (89 : Nat) "BallBoxModel" "looked" "[I" ∈ TB := tb_6 (i := 90) rfl rfl
theorem tw1291 : Cond.fieldLink "BallBoxModel" (92 : Nat) "BallBoxModel" "from" "[I" ∈ TB := tb_6 (i := 91) rfl rfl
theorem tw1292 : Cond.fieldLink "BallBoxModel" (95 : Nat) "BallBoxModel" "byWay" "[I" ∈ TB := tb_6 (i := 92) rfl rfl
theorem tw1293 : Cond.fieldLink "BallBoxModel" (425 : Nat) "BallBoxModel" "marks" "I" ∈ TB := tb_6 (i := 93) rfl rfl
theorem tw1294 : Cond.fieldLink "BallBoxModel" (428 : Nat) "BallBoxModel" "lookedMany" "I" ∈ TB := tb_6 (i := 94) rfl rfl
theorem tw1295 : Cond.fieldLink "BallBoxModel" (431 : Nat) "BallBoxModel" "foundAt" "I" ∈ TB := tb_6 (i := 95) rfl rfl
theorem tw1296 : Cond.fieldLink "BallBoxModel" (98 : Nat) "BallBoxModel" "nowPlace" "[I" ∈ TB := tb_6 (i := 96) rfl rfl
theorem tw1297 : Cond.fieldLink "BallBoxModel" (101 : Nat) "BallBoxModel" "nextOf" "[I" ∈ TB := tb_6 (i := 97) rfl rfl
theorem tw1298 : Cond.fieldLink "BallBoxModel" (104 : Nat) "BallBoxModel" "begun" "[I" ∈ TB := tb_6 (i := 98) rfl rfl
theorem tw1299 : Cond.fieldLink "BallBoxModel" (107 : Nat) "BallBoxModel" "now" "[I" ∈ TB := tb_6 (i := 99) rfl rfl
theorem tw1300 : Cond.fieldLink "BallBoxModel" (110 : Nat) "BallBoxModel" "row" "[I" ∈ TB := tb_6 (i := 100) rfl rfl
theorem tw1301 : Cond.fieldLink "BallBoxModel" (458 : Nat) "BallBoxModel" "blindLong" "I" ∈ TB := tb_6 (i := 101) rfl rfl
theorem tw1302 : Cond.fieldLink "BallBoxModel" (465 : Nat) "BallBoxModel" "blindCode" "I" ∈ TB := tb_6 (i := 102) rfl rfl
theorem tw1303 : Cond.fieldLink "BallBoxModel" (473 : Nat) "BallBoxModel" "bestAt" "I" ∈ TB := tb_6 (i := 103) rfl rfl
theorem tw1304 : Cond.fieldLink "BallBoxModel" (476 : Nat) "BallBoxModel" "bestFewest" "I" ∈ TB := tb_6 (i := 104) rfl rfl
theorem tw1305 : Cond.fieldLink "BallBoxModel" (113 : Nat) "BallBoxModel" "far" "[I" ∈ TB := tb_6 (i := 105) rfl rfl
theorem tw1306 : Cond.fieldLink "BallBoxModel" (116 : Nat) "BallBoxModel" "firstPlace" "[I" ∈ TB := tb_6 (i := 106) rfl rfl
theorem tw1307 : Cond.fieldLink "BallBoxModel" (119 : Nat) "BallBoxModel" "groups" "[I" ∈ TB := tb_6 (i := 107) rfl rfl
theorem tw1308 : Cond.fieldLink "BallBoxModel" (122 : Nat) "BallBoxModel" "whereOf" "[J" ∈ TB := tb_6 (i := 108) rfl rfl
theorem tw1309 : Cond.fieldLink "BallBoxModel" (493 : Nat) "BallBoxModel" "fitMany" "I" ∈ TB := tb_6 (i := 109) rfl rfl
theorem tw1310 : Cond.fieldLink "BallBoxModel" (125 : Nat) "BallBoxModel" "beganAt" "[I" ∈ TB := tb_6 (i := 110) rfl rfl
theorem tw1311 : Cond.fieldLink "BallBoxModel" (128 : Nat) "BallBoxModel" "levelPlace" "[I" ∈ TB := tb_6 (i := 111) rfl rfl
theorem tw1312 : Cond.fieldLink "BallBoxModel" (131 : Nat) "BallBoxModel" "tried" "[I" ∈ TB := tb_6 (i := 112) rfl rfl
theorem tw1313 : Cond.fieldLink "BallBoxModel" (134 : Nat) "BallBoxModel" "isHad" "[Z" ∈ TB := tb_6 (i := 113) rfl rfl
theorem tw1314 : Cond.fieldLink "BallBoxModel" (508 : Nat) "BallBoxModel" "firstWay" "I" ∈ TB := tb_6 (i := 114) rfl rfl
theorem tw1315 : Cond.fieldLink "BallBoxModel" (531 : Nat) "BallBoxModel" "bookMany" "I" ∈ TB := tb_6 (i := 115) rfl rfl
theorem tw1316 : Cond.fieldLink "BallBoxModel" (138 : Nat) "BallBoxModel" "bookColumns" "[I" ∈ TB := tb_6 (i := 116) rfl rfl
theorem tw1317 : Cond.fieldLink "BallBoxModel" (141 : Nat) "BallBoxModel" "bookRows" "[I" ∈ TB := tb_6 (i := 117) rfl rfl
theorem tw1318 : Cond.fieldLink "BallBoxModel" (144 : Nat) "BallBoxModel" "bookKind" "[I" ∈ TB := tb_6 (i := 118) rfl rfl
theorem tw1319 : Cond.fieldLink "BallBoxModel" (147 : Nat) "BallBoxModel" "bookPlace" "[I" ∈ TB := tb_6 (i := 119) rfl rfl
theorem tw1320 : Cond.fieldLink "BallBoxModel" (150 : Nat) "BallBoxModel" "bookPain" "[I" ∈ TB := tb_6 (i := 120) rfl rfl
theorem tw1321 : Cond.fieldLink "BallBoxModel" (153 : Nat) "BallBoxModel" "images" "[I" ∈ TB := tb_6 (i := 121) rfl rfl
theorem tw1322 : Cond.fieldLink "BallBoxModel" (156 : Nat) "BallBoxModel" "isMade" "[Z" ∈ TB := tb_6 (i := 122) rfl rfl
theorem tw1323 : Cond.fieldLink "BallBoxModel" (555 : Nat) "BallBoxModel" "imageAt" "I" ∈ TB := tb_6 (i := 123) rfl rfl
theorem tw1324 : Cond.fieldLink "BallBoxModel" (551 : Nat) "BallBoxModel" "goesBack" "Z" ∈ TB := tb_6 (i := 124) rfl rfl
theorem tw1325 : Cond.lays "BallBoxModel" "BallBoxModel" "thrown" "I" ∈ TB := tb_6 (i := 125) rfl rfl
theorem tw1327 : Cond.laysFinal "BallBoxModel" "BallBoxModel" "scalar" "[I" ∈ TB := tb_6 (i := 127) rfl rfl
theorem tw1329 : Cond.laysFinal "BallBoxModel" "BallBoxModel" "kind" "[I" ∈ TB := tb_6 (i := 129) rfl rfl
theorem tw1331 : Cond.laysFinal "BallBoxModel" "BallBoxModel" "place" "[I" ∈ TB := tb_6 (i := 131) rfl rfl
theorem tw1333 : Cond.laysFinal "BallBoxModel" "BallBoxModel" "pressed" "[I" ∈ TB := tb_6 (i := 133) rfl rfl
theorem tw1335 : Cond.laysFinal "BallBoxModel" "BallBoxModel" "soundWay" "[I" ∈ TB := tb_6 (i := 135) rfl rfl
theorem tw1337 : Cond.laysFinal "BallBoxModel" "BallBoxModel" "soundHits" "[I" ∈ TB := tb_6 (i := 137) rfl rfl
theorem tw1339 : Cond.laysFinal "BallBoxModel" "BallBoxModel" "soundFalls" "[I" ∈ TB := tb_6 (i := 139) rfl rfl
theorem tw1341 : Cond.laysFinal "BallBoxModel" "BallBoxModel" "newScalar" "[I" ∈ TB := tb_6 (i := 141) rfl rfl
theorem tw1343 : Cond.laysFinal "BallBoxModel" "BallBoxModel" "newKind" "[I" ∈ TB := tb_6 (i := 143) rfl rfl
theorem tw1345 : Cond.laysFinal "BallBoxModel" "BallBoxModel" "newPlace" "[I" ∈ TB := tb_6 (i := 145) rfl rfl
theorem tw1347 : Cond.lays "BallBoxModel" "BallBoxModel" "taped" "I" ∈ TB := tb_6 (i := 147) rfl rfl
theorem tw1349 : Cond.lays "BallBoxModel" "BallBoxModel" "p" "I" ∈ TB := tb_6 (i := 149) rfl rfl
theorem tw1351 : Cond.lays "BallBoxModel" "BallBoxModel" "fault" "I" ∈ TB := tb_6 (i := 151) rfl rfl
theorem tw1353 : Cond.lays "BallBoxModel" "BallBoxModel" "slot" "I" ∈ TB := tb_6 (i := 153) rfl rfl
theorem tw1355 : Cond.lays "BallBoxModel" "BallBoxModel" "rules" "I" ∈ TB := tb_6 (i := 155) rfl rfl
theorem tw1357 : Cond.lays "BallBoxModel" "BallBoxModel" "entries" "I" ∈ TB := tb_6 (i := 157) rfl rfl
theorem tw1359 : Cond.lays "BallBoxModel" "BallBoxModel" "deep" "I" ∈ TB := tb_6 (i := 159) rfl rfl
theorem tw1361 : Cond.lays "BallBoxModel" "BallBoxModel" "counted" "I" ∈ TB := tb_6 (i := 161) rfl rfl
theorem tw1363 : Cond.lays "BallBoxModel" "BallBoxModel" "opened" "I" ∈ TB := tb_6 (i := 163) rfl rfl
theorem tw1365 : Cond.lays "BallBoxModel" "BallBoxModel" "words" "I" ∈ TB := tb_6 (i := 165) rfl rfl
theorem tw1367 : Cond.lays "BallBoxModel" "BallBoxModel" "holesTold" "I" ∈ TB := tb_6 (i := 167) rfl rfl
theorem tw1369 : Cond.laysFinal "BallBoxModel" "BallBoxModel" "tape" "[B" ∈ TB := tb_6 (i := 169) rfl rfl
theorem tw1371 : Cond.laysFinal "BallBoxModel" "BallBoxModel" "sort" "[I" ∈ TB := tb_6 (i := 171) rfl rfl
theorem tw1373 : Cond.laysFinal "BallBoxModel" "BallBoxModel" "number" "[I" ∈ TB := tb_6 (i := 173) rfl rfl
theorem tw1375 : Cond.laysFinal "BallBoxModel" "BallBoxModel" "clauses" "[I" ∈ TB := tb_6 (i := 175) rfl rfl
theorem tw1377 : Cond.laysFinal "BallBoxModel" "BallBoxModel" "sumAt" "[I" ∈ TB := tb_6 (i := 177) rfl rfl
theorem tw1379 : Cond.laysFinal "BallBoxModel" "BallBoxModel" "testAt" "[I" ∈ TB := tb_6 (i := 179) rfl rfl
theorem tw1381 : Cond.laysFinal "BallBoxModel" "BallBoxModel" "endAt" "[I" ∈ TB := tb_6 (i := 181) rfl rfl
theorem tw1383 : Cond.laysFinal "BallBoxModel" "BallBoxModel" "open" "[I" ∈ TB := tb_6 (i := 183) rfl rfl
theorem tw1385 : Cond.laysFinal "BallBoxModel" "BallBoxModel" "asked" "[J" ∈ TB := tb_6 (i := 185) rfl rfl
theorem tw1387 : Cond.laysFinal "BallBoxModel" "BallBoxModel" "stack" "[J" ∈ TB := tb_6 (i := 187) rfl rfl
theorem tw1389 : Cond.lays "BallBoxModel" "BallBoxModel" "rolledTo" "I" ∈ TB := tb_6 (i := 189) rfl rfl
theorem tw1391 : Cond.laysFinal "BallBoxModel" "BallBoxModel" "order" "[I" ∈ TB := tb_6 (i := 191) rfl rfl
theorem tw1393 : Cond.laysFinal "BallBoxModel" "BallBoxModel" "rank" "[J" ∈ TB := tb_6 (i := 193) rfl rfl
theorem tw1395 : Cond.lays "BallBoxModel" "BallBoxModel" "hits" "I" ∈ TB := tb_6 (i := 195) rfl rfl
theorem tw1397 : Cond.lays "BallBoxModel" "BallBoxModel" "falls" "I" ∈ TB := tb_6 (i := 197) rfl rfl
theorem tw1399 : Cond.laysFinal "BallBoxModel" "BallBoxModel" "keptPlace" "[I" ∈ TB := tb_6 (i := 199) rfl rfl
theorem tw1401 : Cond.lays "BallBoxModel" "BallBoxModel" "allHits" "I" ∈ TB := tb_6 (i := 201) rfl rfl
theorem tw1403 : Cond.lays "BallBoxModel" "BallBoxModel" "allFalls" "I" ∈ TB := tb_6 (i := 203) rfl rfl
theorem tw1405 : Cond.laysFinal "BallBoxModel" "BallBoxModel" "came" "[I" ∈ TB := tb_6 (i := 205) rfl rfl
theorem tw1407 : Cond.laysFinal "BallBoxModel" "BallBoxModel" "looked" "[I" ∈ TB := tb_6 (i := 207) rfl rfl
theorem tw1409 : Cond.laysFinal "BallBoxModel" "BallBoxModel" "from" "[I" ∈ TB := tb_6 (i := 209) rfl rfl
theorem tw1411 : Cond.laysFinal "BallBoxModel" "BallBoxModel" "byWay" "[I" ∈ TB := tb_6 (i := 211) rfl rfl
theorem tw1413 : Cond.lays "BallBoxModel" "BallBoxModel" "marks" "I" ∈ TB := tb_6 (i := 213) rfl rfl
theorem tw1415 : Cond.lays "BallBoxModel" "BallBoxModel" "lookedMany" "I" ∈ TB := tb_6 (i := 215) rfl rfl
theorem tw1417 : Cond.lays "BallBoxModel" "BallBoxModel" "foundAt" "I" ∈ TB := tb_6 (i := 217) rfl rfl
theorem tw1419 : Cond.laysFinal "BallBoxModel" "BallBoxModel" "nowPlace" "[I" ∈ TB := tb_6 (i := 219) rfl rfl
theorem tw1421 : Cond.laysFinal "BallBoxModel" "BallBoxModel" "nextOf" "[I" ∈ TB := tb_6 (i := 221) rfl rfl
theorem tw1423 : Cond.laysFinal "BallBoxModel" "BallBoxModel" "begun" "[I" ∈ TB := tb_6 (i := 223) rfl rfl
theorem tw1425 : Cond.laysFinal "BallBoxModel" "BallBoxModel" "now" "[I" ∈ TB := tb_6 (i := 225) rfl rfl
theorem tw1427 : Cond.laysFinal "BallBoxModel" "BallBoxModel" "row" "[I" ∈ TB := tb_6 (i := 227) rfl rfl
theorem tw1429 : Cond.lays "BallBoxModel" "BallBoxModel" "blindLong" "I" ∈ TB := tb_6 (i := 229) rfl rfl
theorem tw1431 : Cond.lays "BallBoxModel" "BallBoxModel" "blindCode" "I" ∈ TB := tb_6 (i := 231) rfl rfl
theorem tw1433 : Cond.lays "BallBoxModel" "BallBoxModel" "bestAt" "I" ∈ TB := tb_6 (i := 233) rfl rfl
theorem tw1435 : Cond.lays "BallBoxModel" "BallBoxModel" "bestFewest" "I" ∈ TB := tb_6 (i := 235) rfl rfl
theorem tw1437 : Cond.laysFinal "BallBoxModel" "BallBoxModel" "far" "[I" ∈ TB := tb_6 (i := 237) rfl rfl
theorem tw1439 : Cond.laysFinal "BallBoxModel" "BallBoxModel" "firstPlace" "[I" ∈ TB := tb_6 (i := 239) rfl rfl
theorem tw1441 : Cond.laysFinal "BallBoxModel" "BallBoxModel" "groups" "[I" ∈ TB := tb_7 (i := 1) rfl rfl
theorem tw1443 : Cond.laysFinal "BallBoxModel" "BallBoxModel" "whereOf" "[J" ∈ TB := tb_7 (i := 3) rfl rfl
theorem tw1445 : Cond.lays "BallBoxModel" "BallBoxModel" "fitMany" "I" ∈ TB := tb_7 (i := 5) rfl rfl
theorem tw1447 : Cond.laysFinal "BallBoxModel" "BallBoxModel" "beganAt" "[I" ∈ TB := tb_7 (i := 7) rfl rfl
theorem tw1449 : Cond.laysFinal "BallBoxModel" "BallBoxModel" "levelPlace" "[I" ∈ TB := tb_7 (i := 9) rfl rfl
theorem tw1451 : Cond.laysFinal "BallBoxModel" "BallBoxModel" "tried" "[I" ∈ TB := tb_7 (i := 11) rfl rfl
theorem tw1453 : Cond.laysFinal "BallBoxModel" "BallBoxModel" "isHad" "[Z" ∈ TB := tb_7 (i := 13) rfl rfl
theorem tw1455 : Cond.lays "BallBoxModel" "BallBoxModel" "firstWay" "I" ∈ TB := tb_7 (i := 15) rfl rfl
theorem tw1457 : Cond.lays "BallBoxModel" "BallBoxModel" "bookMany" "I" ∈ TB := tb_7 (i := 17) rfl rfl
theorem tw1459 : Cond.laysFinal "BallBoxModel" "BallBoxModel" "bookColumns" "[I" ∈ TB := tb_7 (i := 19) rfl rfl
theorem tw1461 : Cond.laysFinal "BallBoxModel" "BallBoxModel" "bookRows" "[I" ∈ TB := tb_7 (i := 21) rfl rfl
theorem tw1463 : Cond.laysFinal "BallBoxModel" "BallBoxModel" "bookKind" "[I" ∈ TB := tb_7 (i := 23) rfl rfl
theorem tw1465 : Cond.laysFinal "BallBoxModel" "BallBoxModel" "bookPlace" "[I" ∈ TB := tb_7 (i := 25) rfl rfl
theorem tw1467 : Cond.laysFinal "BallBoxModel" "BallBoxModel" "bookPain" "[I" ∈ TB := tb_7 (i := 27) rfl rfl
theorem tw1469 : Cond.laysFinal "BallBoxModel" "BallBoxModel" "images" "[I" ∈ TB := tb_7 (i := 29) rfl rfl
theorem tw1471 : Cond.laysFinal "BallBoxModel" "BallBoxModel" "isMade" "[Z" ∈ TB := tb_7 (i := 31) rfl rfl
theorem tw1473 : Cond.lays "BallBoxModel" "BallBoxModel" "imageAt" "I" ∈ TB := tb_7 (i := 33) rfl rfl
theorem tw1475 : Cond.lays "BallBoxModel" "BallBoxModel" "goesBack" "Z" ∈ TB := tb_7 (i := 35) rfl rfl
theorem tw1477 : Cond.superclass "BallBoxModel" "java/lang/Object" ∈ TB := tb_7 (i := 37) rfl rfl
theorem tw1478 : Cond.arrayClass FieldType.boolean ∈ TB := tb_7 (i := 38) rfl rfl
theorem tw1479 : Cond.methodLink "BallBoxLaw" (17 : Nat) y_BM_feed ∈ TB := tb_7 (i := 39) rfl rfl
theorem tw1480 : Cond.instanceMethod y_BM_feed ∈ TB := tb_7 (i := 40) rfl rfl
theorem tw1481 : Cond.selects "BallBoxModel" y_BM_feed y_BM_feed ∈ TB := tb_7 (i := 41) rfl rfl
theorem tw1482 : Cond.code y_BM_feed prog_14_method_17_code (6 : Nat) (Option.some FieldType.int) ∈ TB := tb_7 (i := 42) rfl rfl
theorem tw1483 : Cond.methodLink "BallBoxModel" (191 : Nat) y_BM_append ∈ TB := tb_7 (i := 43) rfl rfl
theorem tw1485 : Cond.instanceMethod y_BM_append ∈ TB := tb_7 (i := 45) rfl rfl
theorem tw1486 : Cond.code y_BM_append prog_14_method_18_code (3 : Nat) (Option.none : Option FieldType) ∈ TB := tb_7 (i := 46) rfl rfl
theorem tw1487 : Cond.methodLink "BallBoxLaw" (22 : Nat) y_BM_end ∈ TB := tb_7 (i := 47) rfl rfl
theorem tw1488 : Cond.instanceMethod y_BM_end ∈ TB := tb_7 (i := 48) rfl rfl
theorem tw1489 : Cond.selects "BallBoxModel" y_BM_end y_BM_end ∈ TB := tb_7 (i := 49) rfl rfl
theorem tw1490 : Cond.code y_BM_end prog_14_method_19_code (2 : Nat) (Option.some FieldType.int) ∈ TB := tb_7 (i := 50) rfl rfl
theorem tw1491 : Cond.methodLink "BallBoxLaw" (27 : Nat) y_BM_box ∈ TB := tb_7 (i := 51) rfl rfl
theorem tw1492 : Cond.instanceMethod y_BM_box ∈ TB := tb_7 (i := 52) rfl rfl
theorem tw1493 : Cond.selects "BallBoxModel" y_BM_box y_BM_box ∈ TB := tb_7 (i := 53) rfl rfl
theorem tw1494 : Cond.code y_BM_box prog_14_method_47_code (4 : Nat) (Option.some FieldType.int) ∈ TB := tb_7 (i := 54) rfl rfl
theorem tw1495 : Cond.methodLink "BallBoxModel" (324 : Nat) y_BM_starts ∈ TB := tb_7 (i := 55) rfl rfl
theorem tw1497 : Cond.instanceMethod y_BM_starts ∈ TB := tb_7 (i := 57) rfl rfl
theorem tw1498 : Cond.code y_BM_starts prog_14_method_46_code (1 : Nat) (Option.none : Option FieldType) ∈ TB := tb_7 (i := 58) rfl rfl
theorem tw1499 : Cond.methodLink "BallBoxModel" (327 : Nat) y_BM_boxClause ∈ TB := tb_7 (i := 59) rfl rfl
theorem tw1501 : Cond.instanceMethod y_BM_boxClause ∈ TB := tb_7 (i := 61) rfl rfl
theorem tw1502 : Cond.code y_BM_boxClause prog_14_method_43_code (5 : Nat) (Option.none : Option FieldType) ∈ TB := tb_7 (i := 62) rfl rfl
theorem tw1503 : Cond.methodLink "BallBoxModel" (234 : Nat) y_BM_blanks ∈ TB := tb_7 (i := 63) rfl rfl
theorem tw1505 : Cond.instanceMethod y_BM_blanks ∈ TB := tb_7 (i := 65) rfl rfl
theorem tw1506 : Cond.code y_BM_blanks prog_14_method_23_code (1 : Nat) (Option.none : Option FieldType) ∈ TB := tb_7 (i := 66) rfl rfl
theorem tw1507 : Cond.methodLink "BallBoxModel" (217 : Nat) y_BM_sign ∈ TB := tb_7 (i := 67) rfl rfl
theorem tw1509 : Cond.instanceMethod y_BM_sign ∈ TB := tb_7 (i := 69) rfl rfl
theorem tw1510 : Cond.code y_BM_sign prog_14_method_22_code (1 : Nat) (Option.some FieldType.int) ∈ TB := tb_7 (i := 70) rfl rfl
theorem tw1512 : Cond.methodLink "BallBoxModel" (237 : Nat) y_BM_stood ∈ TB := tb_7 (i := 72) rfl rfl
theorem tw1514 : Cond.instanceMethod y_BM_stood ∈ TB := tb_7 (i := 74) rfl rfl
theorem tw1515 : Cond.code y_BM_stood prog_14_method_25_code (5 : Nat) (Option.some FieldType.boolean) ∈ TB := tb_7 (i := 75) rfl rfl
theorem tw1516 : Cond.methodLink "BallBoxModel" (225 : Nat) y_JS_length ∈ TB := tb_7 (i := 76) rfl rfl
theorem tw1517 : Cond.methodLink "BallBoxModel" (230 : Nat) y_JS_charAt ∈ TB := tb_7 (i := 77) rfl rfl
theorem tw1519 : Cond.methodLink "BallBoxModel" (250 : Nat) y_BM_fails ∈ TB := tb_7 (i := 79) rfl rfl
theorem tw1521 : Cond.instanceMethod y_BM_fails ∈ TB := tb_7 (i := 81) rfl rfl
theorem tw1522 : Cond.code y_BM_fails prog_14_method_21_code (3 : Nat) (Option.none : Option FieldType) ∈ TB := tb_7 (i := 82) rfl rfl
theorem tw1523 : Cond.methodLink "BallBoxModel" (318 : Nat) y_BM_signs ∈ TB := tb_7 (i := 83) rfl rfl
theorem tw1525 : Cond.instanceMethod y_BM_signs ∈ TB := tb_7 (i := 85) rfl rfl
theorem tw1526 : Cond.code y_BM_signs prog_14_method_41_code (3 : Nat) (Option.none : Option FieldType) ∈ TB := tb_7 (i := 86) rfl rfl
theorem tw1527 : Cond.methodLink "BallBoxModel" (308 : Nat) y_BM_signKind ∈ TB := tb_7 (i := 87) rfl rfl
theorem tw1529 : Cond.instanceMethod y_BM_signKind ∈ TB := tb_7 (i := 89) rfl rfl
theorem tw1530 : Cond.code y_BM_signKind prog_14_method_40_code (1 : Nat) (Option.some FieldType.int) ∈ TB := tb_7 (i := 90) rfl rfl
theorem tw1531 : Cond.methodLink "BallBoxModel" (321 : Nat) y_BM_laidBall ∈ TB := tb_7 (i := 91) rfl rfl
theorem tw1533 : Cond.instanceMethod y_BM_laidBall ∈ TB := tb_7 (i := 93) rfl rfl
theorem tw1534 : Cond.code y_BM_laidBall prog_14_method_42_code (7 : Nat) (Option.none : Option FieldType) ∈ TB := tb_7 (i := 94) rfl rfl
theorem tw1535 : Cond.methodLink "BallBoxModel" (314 : Nat) y_BM_amount ∈ TB := tb_7 (i := 95) rfl rfl
theorem tw1537 : Cond.instanceMethod y_BM_amount ∈ TB := tb_7 (i := 97) rfl rfl
theorem tw1538 : Cond.code y_BM_amount prog_14_method_39_code (5 : Nat) (Option.some FieldType.int) ∈ TB := tb_7 (i := 98) rfl rfl
theorem tw1539 : Cond.constant "BallBoxModel" (258 : Nat) (99999 : Int32) ∈ TB := tb_7 (i := 99) rfl rfl
theorem tw1540 : Cond.methodLink "BallBoxModel" (259 : Nat) y_BM_digits ∈ TB := tb_7 (i := 100) rfl rfl
theorem tw1542 : Cond.instanceMethod y_BM_digits ∈ TB := tb_7 (i := 102) rfl rfl
theorem tw1543 : Cond.code y_BM_digits prog_14_method_29_code (4 : Nat) (Option.some FieldType.int) ∈ TB := tb_7 (i := 103) rfl rfl
theorem tw1544 : Cond.methodLink "BallBoxModel" (254 : Nat) y_BM_isDigit ∈ TB := tb_7 (i := 104) rfl rfl
theorem tw1546 : Cond.instanceMethod y_BM_isDigit ∈ TB := tb_7 (i := 106) rfl rfl
theorem tw1547 : Cond.code y_BM_isDigit prog_14_method_24_code (1 : Nat) (Option.some FieldType.boolean) ∈ TB := tb_7 (i := 107) rfl rfl
theorem tw1548 : Cond.constantLong "BallBoxModel" (221 : Nat) (48 : Int64) ∈ TB := tb_7 (i := 108) rfl rfl
theorem tw1549 : Cond.constantLong "BallBoxModel" (223 : Nat) (57 : Int64) ∈ TB := tb_7 (i := 109) rfl rfl
theorem tw1550 : Cond.methodLink "BallBoxModel" (162 : Nat) y_BM_in ∈ TB := tb_7 (i := 110) rfl rfl
theorem tw1551 : Cond.static y_BM_in ∈ TB := tb_7 (i := 111) rfl rfl
theorem tw1552 : Cond.code y_BM_in prog_14_method_3_code (6 : Nat) (Option.some FieldType.boolean) ∈ TB := tb_7 (i := 112) rfl rfl
theorem tw1553 : Cond.methodLink "BallBoxModel" (330 : Nat) y_BM_goesOn ∈ TB := tb_7 (i := 113) rfl rfl
theorem tw1555 : Cond.instanceMethod y_BM_goesOn ∈ TB := tb_7 (i := 115) rfl rfl
theorem tw1556 : Cond.code y_BM_goesOn prog_14_method_45_code (2 : Nat) (Option.some FieldType.boolean) ∈ TB := tb_7 (i := 116) rfl rfl
theorem tw1557 : Cond.methodLink "BallBoxModel" (333 : Nat) y_BM_lay ∈ TB := tb_7 (i := 117) rfl rfl
theorem tw1558 : Cond.static y_BM_lay ∈ TB := tb_7 (i := 118) rfl rfl
theorem tw1559 : Cond.code y_BM_lay prog_14_method_44_code (3 : Nat) (Option.none : Option FieldType) ∈ TB := tb_7 (i := 119) rfl rfl
theorem tw1560 : Cond.methodLink "BallBoxLaw" (31 : Nat) y_BM_rule ∈ TB := tb_7 (i := 120) rfl rfl
theorem tw1561 : Cond.instanceMethod y_BM_rule ∈ TB := tb_7 (i := 121) rfl rfl
theorem tw1562 : Cond.selects "BallBoxModel" y_BM_rule y_BM_rule ∈ TB := tb_7 (i := 122) rfl rfl
theorem tw1563 : Cond.code y_BM_rule prog_14_method_49_code (3 : Nat) (Option.some FieldType.int) ∈ TB := tb_7 (i := 123) rfl rfl
theorem tw1564 : Cond.methodLink "BallBoxModel" (350 : Nat) y_BM_ruleClause ∈ TB := tb_7 (i := 124) rfl rfl
theorem tw1566 : Cond.instanceMethod y_BM_ruleClause ∈ TB := tb_7 (i := 126) rfl rfl
theorem tw1567 : Cond.code y_BM_ruleClause prog_14_method_48_code (4 : Nat) (Option.none : Option FieldType) ∈ TB := tb_7 (i := 127) rfl rfl
theorem tw1569 : Cond.methodLink "BallBoxModel" (278 : Nat) y_BM_sum ∈ TB := tb_7 (i := 129) rfl rfl
theorem tw1571 : Cond.instanceMethod y_BM_sum ∈ TB := tb_7 (i := 131) rfl rfl
theorem tw1572 : Cond.code y_BM_sum prog_14_method_32_code (2 : Nat) (Option.none : Option FieldType) ∈ TB := tb_7 (i := 132) rfl rfl
theorem tw1573 : Cond.methodLink "BallBoxModel" (275 : Nat) y_BM_term ∈ TB := tb_7 (i := 133) rfl rfl
theorem tw1575 : Cond.instanceMethod y_BM_term ∈ TB := tb_7 (i := 135) rfl rfl
theorem tw1576 : Cond.code y_BM_term prog_14_method_31_code (2 : Nat) (Option.none : Option FieldType) ∈ TB := tb_7 (i := 136) rfl rfl
theorem tw1577 : Cond.methodLink "BallBoxModel" (272 : Nat) y_BM_value ∈ TB := tb_7 (i := 137) rfl rfl
theorem tw1579 : Cond.instanceMethod y_BM_value ∈ TB := tb_7 (i := 139) rfl rfl
theorem tw1580 : Cond.code y_BM_value prog_14_method_30_code (3 : Nat) (Option.none : Option FieldType) ∈ TB := tb_7 (i := 140) rfl rfl
theorem tw1581 : Cond.methodLink "BallBoxModel" (262 : Nat) y_BM_isCounted ∈ TB := tb_7 (i := 141) rfl rfl
theorem tw1583 : Cond.instanceMethod y_BM_isCounted ∈ TB := tb_7 (i := 143) rfl rfl
theorem tw1584 : Cond.code y_BM_isCounted prog_14_method_28_code (2 : Nat) (Option.none : Option FieldType) ∈ TB := tb_7 (i := 144) rfl rfl
theorem tw1585 : Cond.methodLink "BallBoxModel" (265 : Nat) y_BM_entry ∈ TB := tb_7 (i := 145) rfl rfl
theorem tw1587 : Cond.instanceMethod y_BM_entry ∈ TB := tb_7 (i := 147) rfl rfl
theorem tw1588 : Cond.code y_BM_entry prog_14_method_27_code (3 : Nat) (Option.none : Option FieldType) ∈ TB := tb_7 (i := 148) rfl rfl
theorem tw1589 : Cond.methodLink "BallBoxModel" (268 : Nat) y_BM_wordOf ∈ TB := tb_7 (i := 149) rfl rfl
theorem tw1590 : Cond.static y_BM_wordOf ∈ TB := tb_7 (i := 150) rfl rfl
theorem tw1591 : Cond.code y_BM_wordOf prog_14_method_20_code (1 : Nat) (Option.some (FieldType.object "java/lang/String")) ∈ TB := tb_7 (i := 151) rfl rfl
theorem tw1600 : Cond.methodLink "BallBoxModel" (341 : Nat) y_BM_takes ∈ TB := tb_7 (i := 160) rfl rfl
theorem tw1602 : Cond.instanceMethod y_BM_takes ∈ TB := tb_7 (i := 162) rfl rfl
theorem tw1603 : Cond.code y_BM_takes prog_14_method_26_code (3 : Nat) (Option.some FieldType.boolean) ∈ TB := tb_7 (i := 163) rfl rfl
theorem tw1604 : Cond.methodLink "BallBoxModel" (344 : Nat) y_BM_test ∈ TB := tb_7 (i := 164) rfl rfl
theorem tw1606 : Cond.instanceMethod y_BM_test ∈ TB := tb_7 (i := 166) rfl rfl
theorem tw1607 : Cond.code y_BM_test prog_14_method_38_code (5 : Nat) (Option.none : Option FieldType) ∈ TB := tb_7 (i := 167) rfl rfl
theorem tw1608 : Cond.methodLink "BallBoxModel" (298 : Nat) y_BM_fact ∈ TB := tb_7 (i := 168) rfl rfl
theorem tw1610 : Cond.instanceMethod y_BM_fact ∈ TB := tb_7 (i := 170) rfl rfl
theorem tw1611 : Cond.code y_BM_fact prog_14_method_37_code (1 : Nat) (Option.some FieldType.boolean) ∈ TB := tb_7 (i := 171) rfl rfl
theorem tw1613 : Cond.methodLink "BallBoxModel" (292 : Nat) y_BM_opens ∈ TB := tb_7 (i := 173) rfl rfl
theorem tw1615 : Cond.instanceMethod y_BM_opens ∈ TB := tb_7 (i := 175) rfl rfl
theorem tw1616 : Cond.code y_BM_opens prog_14_method_35_code (2 : Nat) (Option.none : Option FieldType) ∈ TB := tb_7 (i := 176) rfl rfl
theorem tw1617 : Cond.methodLink "BallBoxModel" (295 : Nat) y_BM_compared ∈ TB := tb_7 (i := 177) rfl rfl
theorem tw1619 : Cond.instanceMethod y_BM_compared ∈ TB := tb_7 (i := 179) rfl rfl
theorem tw1620 : Cond.code y_BM_compared prog_14_method_33_code (3 : Nat) (Option.none : Option FieldType) ∈ TB := tb_7 (i := 180) rfl rfl
theorem tw1621 : Cond.methodLink "BallBoxModel" (301 : Nat) y_BM_answers ∈ TB := tb_7 (i := 181) rfl rfl
theorem tw1623 : Cond.instanceMethod y_BM_answers ∈ TB := tb_7 (i := 183) rfl rfl
theorem tw1624 : Cond.code y_BM_answers prog_14_method_36_code (2 : Nat) (Option.none : Option FieldType) ∈ TB := tb_7 (i := 184) rfl rfl
theorem tw1625 : Cond.methodLink "BallBoxModel" (287 : Nat) y_BM_top ∈ TB := tb_7 (i := 185) rfl rfl
theorem tw1627 : Cond.instanceMethod y_BM_top ∈ TB := tb_7 (i := 187) rfl rfl
theorem tw1628 : Cond.code y_BM_top prog_14_method_34_code (1 : Nat) (Option.some FieldType.int) ∈ TB := tb_7 (i := 188) rfl rfl
theorem tw1631 : Cond.methodLink "BallBoxLaw" (35 : Nat) y_BM_force ∈ TB := tb_7 (i := 191) rfl rfl
theorem tw1632 : Cond.instanceMethod y_BM_force ∈ TB := tb_7 (i := 192) rfl rfl
theorem tw1633 : Cond.selects "BallBoxModel" y_BM_force y_BM_force ∈ TB := tb_7 (i := 193) rfl rfl
theorem tw1634 : Cond.code y_BM_force prog_14_method_50_code (3 : Nat) (Option.some FieldType.int) ∈ TB := tb_7 (i := 194) rfl rfl
theorem tw1635 : Cond.constantLong "BallBoxModel" (353 : Nat) (-1 : Int64) ∈ TB := tb_7 (i := 195) rfl rfl
theorem tw1636 : Cond.methodLink "BallBoxLaw" (59 : Nat) y_BM_tip ∈ TB := tb_7 (i := 196) rfl rfl
theorem tw1637 : Cond.instanceMethod y_BM_tip ∈ TB := tb_7 (i := 197) rfl rfl
theorem tw1638 : Cond.selects "BallBoxModel" y_BM_tip y_BM_tip ∈ TB := tb_7 (i := 198) rfl rfl
theorem tw1639 : Cond.code y_BM_tip prog_14_method_58_code (2 : Nat) (Option.some FieldType.int) ∈ TB := tb_7 (i := 199) rfl rfl
theorem tw1640 : Cond.methodLink "BallBoxModel" (391 : Nat) y_BM_isBox ∈ TB := tb_7 (i := 200) rfl rfl
theorem tw1642 : Cond.instanceMethod y_BM_isBox ∈ TB := tb_7 (i := 202) rfl rfl
theorem tw1643 : Cond.code y_BM_isBox prog_14_method_6_code (1 : Nat) (Option.some FieldType.boolean) ∈ TB := tb_7 (i := 203) rfl rfl
theorem tw1644 : Cond.constantLong "BallBoxModel" (394 : Nat) (3 : Int64) ∈ TB := tb_7 (i := 204) rfl rfl
theorem tw1645 : Cond.methodLink "BallBoxModel" (396 : Nat) y_BM_tips ∈ TB := tb_7 (i := 205) rfl rfl
theorem tw1647 : Cond.instanceMethod y_BM_tips ∈ TB := tb_7 (i := 207) rfl rfl
theorem tw1648 : Cond.code y_BM_tips prog_14_method_57_code (8 : Nat) (Option.none : Option FieldType) ∈ TB := tb_7 (i := 208) rfl rfl
theorem tw1649 : Cond.methodLink "BallBoxModel" (381 : Nat) y_BM_rankOf ∈ TB := tb_7 (i := 209) rfl rfl
theorem tw1651 : Cond.instanceMethod y_BM_rankOf ∈ TB := tb_7 (i := 211) rfl rfl
theorem tw1652 : Cond.code y_BM_rankOf prog_14_method_56_code (6 : Nat) (Option.some FieldType.long) ∈ TB := tb_7 (i := 212) rfl rfl
theorem tw1653 : Cond.methodLink "BallBoxModel" (378 : Nat) y_BM_sumOf ∈ TB := tb_7 (i := 213) rfl rfl
theorem tw1655 : Cond.instanceMethod y_BM_sumOf ∈ TB := tb_7 (i := 215) rfl rfl
theorem tw1656 : Cond.code y_BM_sumOf prog_14_method_55_code (5 : Nat) (Option.some FieldType.long) ∈ TB := tb_7 (i := 216) rfl rfl
theorem tw1657 : Cond.methodLink "BallBoxModel" (369 : Nat) y_BM_rolls ∈ TB := tb_7 (i := 217) rfl rfl
theorem tw1659 : Cond.instanceMethod y_BM_rolls ∈ TB := tb_7 (i := 219) rfl rfl
theorem tw1660 : Cond.code y_BM_rolls prog_14_method_54_code (5 : Nat) (Option.some FieldType.int) ∈ TB := tb_7 (i := 220) rfl rfl
theorem tw1661 : Cond.methodLink "BallBoxModel" (366 : Nat) y_BM_by ∈ TB := tb_7 (i := 221) rfl rfl
theorem tw1663 : Cond.instanceMethod y_BM_by ∈ TB := tb_7 (i := 223) rfl rfl
theorem tw1664 : Cond.code y_BM_by prog_14_method_12_code (5 : Nat) (Option.some FieldType.int) ∈ TB := tb_7 (i := 224) rfl rfl
theorem tw1665 : Cond.methodLink "BallBoxModel" (166 : Nat) y_BM_isCell ∈ TB := tb_7 (i := 225) rfl rfl
theorem tw1667 : Cond.instanceMethod y_BM_isCell ∈ TB := tb_7 (i := 227) rfl rfl
theorem tw1668 : Cond.code y_BM_isCell prog_14_method_7_code (3 : Nat) (Option.some FieldType.boolean) ∈ TB := tb_7 (i := 228) rfl rfl
theorem tw1669 : Cond.methodLink "BallBoxModel" (174 : Nat) y_BM_whoAt ∈ TB := tb_7 (i := 229) rfl rfl
theorem tw1671 : Cond.instanceMethod y_BM_whoAt ∈ TB := tb_7 (i := 231) rfl rfl
theorem tw1672 : Cond.code y_BM_whoAt prog_14_method_10_code (3 : Nat) (Option.some FieldType.int) ∈ TB := tb_7 (i := 232) rfl rfl
theorem tw1673 : Cond.methodLink "BallBoxModel" (185 : Nat) y_BM_fell ∈ TB := tb_7 (i := 233) rfl rfl
theorem tw1675 : Cond.instanceMethod y_BM_fell ∈ TB := tb_7 (i := 235) rfl rfl
theorem tw1676 : Cond.code y_BM_fell prog_14_method_15_code (4 : Nat) (Option.some FieldType.int) ∈ TB := tb_7 (i := 236) rfl rfl
theorem tw1677 : Cond.methodLink "BallBoxModel" (372 : Nat) y_BM_steps ∈ TB := tb_7 (i := 237) rfl rfl
theorem tw1679 : Cond.instanceMethod y_BM_steps ∈ TB := tb_7 (i := 239) rfl rfl
theorem tw1680 : Cond.code y_BM_steps prog_14_method_14_code (3 : Nat) (Option.some FieldType.int) ∈ TB := tb_8 (i := 0) rfl rfl
theorem tw1681 : Cond.methodLink "BallBoxModel" (178 : Nat) y_BM_holeOf ∈ TB := tb_8 (i := 1) rfl rfl
theorem tw1683 : Cond.instanceMethod y_BM_holeOf ∈ TB := tb_8 (i := 3) rfl rfl
theorem tw1684 : Cond.code y_BM_holeOf prog_14_method_13_code (3 : Nat) (Option.some FieldType.int) ∈ TB := tb_8 (i := 4) rfl rfl
theorem tw1685 : Cond.methodLink "BallBoxModel" (170 : Nat) y_BM_isThere ∈ TB := tb_8 (i := 5) rfl rfl
theorem tw1687 : Cond.instanceMethod y_BM_isThere ∈ TB := tb_8 (i := 7) rfl rfl
theorem tw1688 : Cond.code y_BM_isThere prog_14_method_8_code (2 : Nat) (Option.some FieldType.boolean) ∈ TB := tb_8 (i := 8) rfl rfl
theorem tw1689 : Cond.methodLink "BallBoxModel" (181 : Nat) y_BM_apart ∈ TB := tb_8 (i := 9) rfl rfl
theorem tw1690 : Cond.static y_BM_apart ∈ TB := tb_8 (i := 10) rfl rfl
theorem tw1691 : Cond.code y_BM_apart prog_14_method_4_code (2 : Nat) (Option.some FieldType.int) ∈ TB := tb_8 (i := 11) rfl rfl
theorem tw1692 : Cond.methodLink "BallBoxModel" (374 : Nat) y_BM_answer ∈ TB := tb_8 (i := 12) rfl rfl
theorem tw1694 : Cond.instanceMethod y_BM_answer ∈ TB := tb_8 (i := 14) rfl rfl
theorem tw1695 : Cond.code y_BM_answer prog_14_method_53_code (8 : Nat) (Option.some FieldType.long) ∈ TB := tb_8 (i := 15) rfl rfl
theorem tw1696 : Cond.methodLink "BallBoxModel" (359 : Nat) y_BM_both ∈ TB := tb_8 (i := 16) rfl rfl
theorem tw1697 : Cond.static y_BM_both ∈ TB := tb_8 (i := 17) rfl rfl
theorem tw1698 : Cond.code y_BM_both prog_14_method_52_code (5 : Nat) (Option.some FieldType.long) ∈ TB := tb_8 (i := 18) rfl rfl
theorem tw1699 : Cond.methodLink "BallBoxModel" (355 : Nat) y_BM_truth ∈ TB := tb_8 (i := 19) rfl rfl
theorem tw1700 : Cond.static y_BM_truth ∈ TB := tb_8 (i := 20) rfl rfl
theorem tw1701 : Cond.code y_BM_truth prog_14_method_51_code (1 : Nat) (Option.some FieldType.long) ∈ TB := tb_8 (i := 21) rfl rfl
theorem tw1702 : Cond.methodLink "BallBoxLaw" (63 : Nat) y_BM_may ∈ TB := tb_8 (i := 22) rfl rfl
theorem tw1703 : Cond.instanceMethod y_BM_may ∈ TB := tb_8 (i := 23) rfl rfl
theorem tw1704 : Cond.selects "BallBoxModel" y_BM_may y_BM_may ∈ TB := tb_8 (i := 24) rfl rfl
theorem tw1705 : Cond.code y_BM_may prog_14_method_59_code (2 : Nat) (Option.some FieldType.int) ∈ TB := tb_8 (i := 25) rfl rfl
theorem tw1706 : Cond.methodLink "BallBoxLaw" (40 : Nat) y_BM_cell ∈ TB := tb_8 (i := 26) rfl rfl
theorem tw1707 : Cond.instanceMethod y_BM_cell ∈ TB := tb_8 (i := 27) rfl rfl
theorem tw1708 : Cond.selects "BallBoxModel" y_BM_cell y_BM_cell ∈ TB := tb_8 (i := 28) rfl rfl
theorem tw1709 : Cond.code y_BM_cell prog_14_method_60_code (4 : Nat) (Option.some FieldType.int) ∈ TB := tb_8 (i := 29) rfl rfl
theorem tw1710 : Cond.methodLink "BallBoxLaw" (45 : Nat) y_BM_ball ∈ TB := tb_8 (i := 30) rfl rfl
theorem tw1711 : Cond.instanceMethod y_BM_ball ∈ TB := tb_8 (i := 31) rfl rfl
theorem tw1712 : Cond.selects "BallBoxModel" y_BM_ball y_BM_ball ∈ TB := tb_8 (i := 32) rfl rfl
theorem tw1713 : Cond.code y_BM_ball prog_14_method_61_code (4 : Nat) (Option.some FieldType.int) ∈ TB := tb_8 (i := 33) rfl rfl
theorem tw1714 : Cond.methodLink "BallBoxModel" (398 : Nat) y_BM_isBall ∈ TB := tb_8 (i := 34) rfl rfl
theorem tw1716 : Cond.instanceMethod y_BM_isBall ∈ TB := tb_8 (i := 36) rfl rfl
theorem tw1717 : Cond.code y_BM_isBall prog_14_method_9_code (2 : Nat) (Option.some FieldType.boolean) ∈ TB := tb_8 (i := 37) rfl rfl
theorem tw1718 : Cond.methodLink "BallBoxLaw" (50 : Nat) y_BM_put ∈ TB := tb_8 (i := 38) rfl rfl
theorem tw1719 : Cond.instanceMethod y_BM_put ∈ TB := tb_8 (i := 39) rfl rfl
theorem tw1720 : Cond.selects "BallBoxModel" y_BM_put y_BM_put ∈ TB := tb_8 (i := 40) rfl rfl
theorem tw1721 : Cond.code y_BM_put prog_14_method_62_code (5 : Nat) (Option.some FieldType.boolean) ∈ TB := tb_8 (i := 41) rfl rfl
theorem tw1722 : Cond.methodLink "BallBoxModel" (401 : Nat) y_BM_isFree ∈ TB := tb_8 (i := 42) rfl rfl
theorem tw1724 : Cond.instanceMethod y_BM_isFree ∈ TB := tb_8 (i := 44) rfl rfl
theorem tw1725 : Cond.code y_BM_isFree prog_14_method_11_code (2 : Nat) (Option.some FieldType.boolean) ∈ TB := tb_8 (i := 45) rfl rfl
theorem tw1726 : Cond.methodLink "BallBoxLaw" (55 : Nat) y_BM_wall ∈ TB := tb_8 (i := 46) rfl rfl
theorem tw1727 : Cond.instanceMethod y_BM_wall ∈ TB := tb_8 (i := 47) rfl rfl
theorem tw1728 : Cond.selects "BallBoxModel" y_BM_wall y_BM_wall ∈ TB := tb_8 (i := 48) rfl rfl
theorem tw1729 : Cond.code y_BM_wall prog_14_method_63_code (6 : Nat) (Option.some FieldType.boolean) ∈ TB := tb_8 (i := 49) rfl rfl
theorem tw1730 : Cond.methodLink "BallBoxLaw" (67 : Nat) y_BM_press ∈ TB := tb_8 (i := 50) rfl rfl
theorem tw1731 : Cond.instanceMethod y_BM_press ∈ TB := tb_8 (i := 51) rfl rfl
theorem tw1732 : Cond.selects "BallBoxModel" y_BM_press y_BM_press ∈ TB := tb_8 (i := 52) rfl rfl
theorem tw1733 : Cond.code y_BM_press prog_14_method_64_code (2 : Nat) (Option.some FieldType.int) ∈ TB := tb_8 (i := 53) rfl rfl
theorem tw1734 : Cond.methodLink "BallBoxLaw" (71 : Nat) y_BM_would ∈ TB := tb_8 (i := 54) rfl rfl
theorem tw1735 : Cond.instanceMethod y_BM_would ∈ TB := tb_8 (i := 55) rfl rfl
theorem tw1736 : Cond.selects "BallBoxModel" y_BM_would y_BM_would ∈ TB := tb_8 (i := 56) rfl rfl
theorem tw1737 : Cond.code y_BM_would prog_14_method_66_code (3 : Nat) (Option.some FieldType.int) ∈ TB := tb_8 (i := 57) rfl rfl
theorem tw1738 : Cond.methodLink "BallBoxModel" (410 : Nat) y_BM_tipsRow ∈ TB := tb_8 (i := 58) rfl rfl
theorem tw1740 : Cond.instanceMethod y_BM_tipsRow ∈ TB := tb_8 (i := 60) rfl rfl
theorem tw1741 : Cond.code y_BM_tipsRow prog_14_method_65_code (3 : Nat) (Option.none : Option FieldType) ∈ TB := tb_8 (i := 61) rfl rfl
theorem tw1742 : Cond.methodLink "BallBoxLaw" (76 : Nat) y_BM_sure ∈ TB := tb_8 (i := 62) rfl rfl
theorem tw1743 : Cond.instanceMethod y_BM_sure ∈ TB := tb_8 (i := 63) rfl rfl
theorem tw1744 : Cond.selects "BallBoxModel" y_BM_sure y_BM_sure ∈ TB := tb_8 (i := 64) rfl rfl
theorem tw1745 : Cond.code y_BM_sure prog_14_method_67_code (12 : Nat) (Option.some FieldType.long) ∈ TB := tb_8 (i := 65) rfl rfl
theorem tw1746 : Cond.constantLong "BallBoxModel" (413 : Nat) (100 : Int64) ∈ TB := tb_8 (i := 66) rfl rfl
theorem tw1747 : Cond.methodLink "BallBoxModel" (415 : Nat) y_BM_areHome ∈ TB := tb_8 (i := 67) rfl rfl
theorem tw1749 : Cond.instanceMethod y_BM_areHome ∈ TB := tb_8 (i := 69) rfl rfl
theorem tw1750 : Cond.code y_BM_areHome prog_14_method_16_code (1 : Nat) (Option.some FieldType.boolean) ∈ TB := tb_8 (i := 70) rfl rfl
theorem tw1751 : Cond.methodLink "BallBoxModel" (418 : Nat) y_BM_divisor ∈ TB := tb_8 (i := 71) rfl rfl
theorem tw1752 : Cond.static y_BM_divisor ∈ TB := tb_8 (i := 72) rfl rfl
theorem tw1753 : Cond.code y_BM_divisor prog_14_method_5_code (10 : Nat) (Option.some FieldType.long) ∈ TB := tb_8 (i := 73) rfl rfl
theorem tw1754 : Cond.methodLink "BallBoxLaw" (80 : Nat) y_BM_fewest ∈ TB := tb_8 (i := 74) rfl rfl
theorem tw1755 : Cond.instanceMethod y_BM_fewest ∈ TB := tb_8 (i := 75) rfl rfl
theorem tw1756 : Cond.selects "BallBoxModel" y_BM_fewest y_BM_fewest ∈ TB := tb_8 (i := 76) rfl rfl
theorem tw1757 : Cond.code y_BM_fewest prog_14_method_72_code (1 : Nat) (Option.some FieldType.int) ∈ TB := tb_8 (i := 77) rfl rfl
theorem tw1758 : Cond.methodLink "BallBoxModel" (440 : Nat) y_BM_finds ∈ TB := tb_8 (i := 78) rfl rfl
theorem tw1760 : Cond.instanceMethod y_BM_finds ∈ TB := tb_8 (i := 80) rfl rfl
theorem tw1761 : Cond.code y_BM_finds prog_14_method_71_code (4 : Nat) (Option.some FieldType.int) ∈ TB := tb_8 (i := 81) rfl rfl
theorem tw1762 : Cond.methodLink "BallBoxModel" (434 : Nat) y_BM_comes ∈ TB := tb_8 (i := 82) rfl rfl
theorem tw1764 : Cond.instanceMethod y_BM_comes ∈ TB := tb_8 (i := 84) rfl rfl
theorem tw1765 : Cond.code y_BM_comes prog_14_method_70_code (4 : Nat) (Option.some FieldType.boolean) ∈ TB := tb_8 (i := 85) rfl rfl
theorem tw1766 : Cond.methodLink "BallBoxModel" (422 : Nat) y_BM_situationNow ∈ TB := tb_8 (i := 86) rfl rfl
theorem tw1768 : Cond.instanceMethod y_BM_situationNow ∈ TB := tb_8 (i := 88) rfl rfl
theorem tw1769 : Cond.code y_BM_situationNow prog_14_method_68_code (3 : Nat) (Option.some FieldType.int) ∈ TB := tb_8 (i := 89) rfl rfl
theorem tw1770 : Cond.methodLink "BallBoxModel" (437 : Nat) y_BM_laysSituation ∈ TB := tb_8 (i := 90) rfl rfl
theorem tw1772 : Cond.instanceMethod y_BM_laysSituation ∈ TB := tb_8 (i := 92) rfl rfl
theorem tw1773 : Cond.code y_BM_laysSituation prog_14_method_69_code (4 : Nat) (Option.none : Option FieldType) ∈ TB := tb_8 (i := 93) rfl rfl
theorem tw1774 : Cond.methodLink "BallBoxLaw" (84 : Nat) y_BM_path ∈ TB := tb_8 (i := 94) rfl rfl
theorem tw1775 : Cond.instanceMethod y_BM_path ∈ TB := tb_8 (i := 95) rfl rfl
theorem tw1776 : Cond.selects "BallBoxModel" y_BM_path y_BM_path ∈ TB := tb_8 (i := 96) rfl rfl
theorem tw1777 : Cond.code y_BM_path prog_14_method_73_code (5 : Nat) (Option.some FieldType.int) ∈ TB := tb_8 (i := 97) rfl rfl
theorem tw1778 : Cond.methodLink "BallBoxLaw" (88 : Nat) y_BM_blind ∈ TB := tb_8 (i := 98) rfl rfl
theorem tw1779 : Cond.instanceMethod y_BM_blind ∈ TB := tb_8 (i := 99) rfl rfl
theorem tw1780 : Cond.selects "BallBoxModel" y_BM_blind y_BM_blind ∈ TB := tb_8 (i := 100) rfl rfl
theorem tw1781 : Cond.code y_BM_blind prog_14_method_81_code (5 : Nat) (Option.some FieldType.int) ∈ TB := tb_8 (i := 101) rfl rfl
theorem tw1782 : Cond.constantLong "BallBoxModel" (468 : Nat) (6 : Int64) ∈ TB := tb_8 (i := 102) rfl rfl
theorem tw1783 : Cond.methodLink "BallBoxModel" (470 : Nat) y_BM_findsBlind ∈ TB := tb_8 (i := 103) rfl rfl
theorem tw1785 : Cond.instanceMethod y_BM_findsBlind ∈ TB := tb_8 (i := 105) rfl rfl
theorem tw1786 : Cond.code y_BM_findsBlind prog_14_method_80_code (6 : Nat) (Option.none : Option FieldType) ∈ TB := tb_8 (i := 106) rfl rfl
theorem tw1787 : Cond.methodLink "BallBoxModel" (452 : Nat) y_BM_fillsNext ∈ TB := tb_8 (i := 107) rfl rfl
theorem tw1789 : Cond.instanceMethod y_BM_fillsNext ∈ TB := tb_8 (i := 109) rfl rfl
theorem tw1790 : Cond.code y_BM_fillsNext prog_14_method_77_code (5 : Nat) (Option.none : Option FieldType) ∈ TB := tb_8 (i := 110) rfl rfl
theorem tw1791 : Cond.methodLink "BallBoxModel" (455 : Nat) y_BM_fillsBegun ∈ TB := tb_8 (i := 111) rfl rfl
theorem tw1793 : Cond.instanceMethod y_BM_fillsBegun ∈ TB := tb_8 (i := 113) rfl rfl
theorem tw1794 : Cond.code y_BM_fillsBegun prog_14_method_78_code (3 : Nat) (Option.some FieldType.int) ∈ TB := tb_8 (i := 114) rfl rfl
theorem tw1795 : Cond.methodLink "BallBoxModel" (443 : Nat) y_BM_codes ∈ TB := tb_8 (i := 115) rfl rfl
theorem tw1797 : Cond.instanceMethod y_BM_codes ∈ TB := tb_8 (i := 117) rfl rfl
theorem tw1798 : Cond.code y_BM_codes prog_14_method_75_code (3 : Nat) (Option.some FieldType.int) ∈ TB := tb_8 (i := 118) rfl rfl
theorem tw1799 : Cond.methodLink "BallBoxModel" (446 : Nat) y_BM_isBeginning ∈ TB := tb_8 (i := 119) rfl rfl
theorem tw1801 : Cond.instanceMethod y_BM_isBeginning ∈ TB := tb_8 (i := 121) rfl rfl
theorem tw1802 : Cond.code y_BM_isBeginning prog_14_method_74_code (7 : Nat) (Option.some FieldType.boolean) ∈ TB := tb_8 (i := 122) rfl rfl
theorem tw1803 : Cond.methodLink "BallBoxModel" (461 : Nat) y_BM_isBlind ∈ TB := tb_8 (i := 123) rfl rfl
theorem tw1805 : Cond.instanceMethod y_BM_isBlind ∈ TB := tb_8 (i := 125) rfl rfl
theorem tw1806 : Cond.code y_BM_isBlind prog_14_method_79_code (9 : Nat) (Option.some FieldType.boolean) ∈ TB := tb_8 (i := 126) rfl rfl
theorem tw1807 : Cond.methodLink "BallBoxModel" (449 : Nat) y_BM_isWhole ∈ TB := tb_8 (i := 127) rfl rfl
theorem tw1809 : Cond.instanceMethod y_BM_isWhole ∈ TB := tb_8 (i := 129) rfl rfl
theorem tw1810 : Cond.code y_BM_isWhole prog_14_method_76_code (4 : Nat) (Option.some FieldType.boolean) ∈ TB := tb_8 (i := 130) rfl rfl
theorem tw1811 : Cond.methodLink "BallBoxLaw" (92 : Nat) y_BM_chipped ∈ TB := tb_8 (i := 131) rfl rfl
theorem tw1812 : Cond.instanceMethod y_BM_chipped ∈ TB := tb_8 (i := 132) rfl rfl
theorem tw1813 : Cond.selects "BallBoxModel" y_BM_chipped y_BM_chipped ∈ TB := tb_8 (i := 133) rfl rfl
theorem tw1814 : Cond.code y_BM_chipped prog_14_method_85_code (2 : Nat) (Option.some FieldType.int) ∈ TB := tb_8 (i := 134) rfl rfl
theorem tw1815 : Cond.constantLong "BallBoxModel" (479 : Nat) (2 : Int64) ∈ TB := tb_8 (i := 135) rfl rfl
theorem tw1816 : Cond.methodLink "BallBoxModel" (481 : Nat) y_BM_findsChipped ∈ TB := tb_8 (i := 136) rfl rfl
theorem tw1818 : Cond.instanceMethod y_BM_findsChipped ∈ TB := tb_8 (i := 138) rfl rfl
theorem tw1819 : Cond.code y_BM_findsChipped prog_14_method_82_code (3 : Nat) (Option.none : Option FieldType) ∈ TB := tb_8 (i := 139) rfl rfl
theorem tw1820 : Cond.methodLink "BallBoxModel" (484 : Nat) y_BM_best ∈ TB := tb_8 (i := 140) rfl rfl
theorem tw1822 : Cond.instanceMethod y_BM_best ∈ TB := tb_8 (i := 142) rfl rfl
theorem tw1823 : Cond.code y_BM_best prog_14_method_84_code (2 : Nat) (Option.some FieldType.int) ∈ TB := tb_8 (i := 143) rfl rfl
theorem tw1824 : Cond.methodLink "BallBoxLaw" (96 : Nat) y_BM_walled ∈ TB := tb_8 (i := 144) rfl rfl
theorem tw1825 : Cond.instanceMethod y_BM_walled ∈ TB := tb_8 (i := 145) rfl rfl
theorem tw1826 : Cond.selects "BallBoxModel" y_BM_walled y_BM_walled ∈ TB := tb_8 (i := 146) rfl rfl
theorem tw1827 : Cond.code y_BM_walled prog_14_method_86_code (2 : Nat) (Option.some FieldType.int) ∈ TB := tb_8 (i := 147) rfl rfl
theorem tw1828 : Cond.methodLink "BallBoxModel" (487 : Nat) y_BM_findsWalled ∈ TB := tb_8 (i := 148) rfl rfl
theorem tw1830 : Cond.instanceMethod y_BM_findsWalled ∈ TB := tb_8 (i := 150) rfl rfl
theorem tw1831 : Cond.code y_BM_findsWalled prog_14_method_83_code (3 : Nat) (Option.none : Option FieldType) ∈ TB := tb_8 (i := 151) rfl rfl
theorem tw1832 : Cond.methodLink "BallBoxLaw" (100 : Nat) y_BM_hardest ∈ TB := tb_8 (i := 152) rfl rfl
theorem tw1833 : Cond.instanceMethod y_BM_hardest ∈ TB := tb_8 (i := 153) rfl rfl
theorem tw1834 : Cond.selects "BallBoxModel" y_BM_hardest y_BM_hardest ∈ TB := tb_8 (i := 154) rfl rfl
theorem tw1835 : Cond.code y_BM_hardest prog_14_method_88_code (5 : Nat) (Option.some FieldType.int) ∈ TB := tb_8 (i := 155) rfl rfl
theorem tw1836 : Cond.methodLink "BallBoxModel" (490 : Nat) y_BM_fillsFar ∈ TB := tb_8 (i := 156) rfl rfl
theorem tw1838 : Cond.instanceMethod y_BM_fillsFar ∈ TB := tb_8 (i := 158) rfl rfl
theorem tw1839 : Cond.code y_BM_fillsFar prog_14_method_87_code (5 : Nat) (Option.none : Option FieldType) ∈ TB := tb_8 (i := 159) rfl rfl
theorem tw1840 : Cond.methodLink "BallBoxLaw" (104 : Nat) y_BM_sound ∈ TB := tb_8 (i := 160) rfl rfl
theorem tw1841 : Cond.instanceMethod y_BM_sound ∈ TB := tb_8 (i := 161) rfl rfl
theorem tw1842 : Cond.selects "BallBoxModel" y_BM_sound y_BM_sound ∈ TB := tb_8 (i := 162) rfl rfl
theorem tw1843 : Cond.code y_BM_sound prog_14_method_89_code (5 : Nat) (Option.some FieldType.int) ∈ TB := tb_8 (i := 163) rfl rfl
theorem tw1844 : Cond.methodLink "BallBoxLaw" (108 : Nat) y_BM_fits ∈ TB := tb_8 (i := 164) rfl rfl
theorem tw1845 : Cond.instanceMethod y_BM_fits ∈ TB := tb_8 (i := 165) rfl rfl
theorem tw1846 : Cond.selects "BallBoxModel" y_BM_fits y_BM_fits ∈ TB := tb_8 (i := 166) rfl rfl
theorem tw1847 : Cond.code y_BM_fits prog_14_method_93_code (2 : Nat) (Option.some FieldType.int) ∈ TB := tb_8 (i := 167) rfl rfl
theorem tw1848 : Cond.methodLink "BallBoxModel" (502 : Nat) y_BM_findsFits ∈ TB := tb_8 (i := 168) rfl rfl
theorem tw1850 : Cond.instanceMethod y_BM_findsFits ∈ TB := tb_8 (i := 170) rfl rfl
theorem tw1851 : Cond.code y_BM_findsFits prog_14_method_92_code (3 : Nat) (Option.none : Option FieldType) ∈ TB := tb_8 (i := 171) rfl rfl
theorem tw1852 : Cond.methodLink "BallBoxModel" (496 : Nat) y_BM_sounds ∈ TB := tb_8 (i := 172) rfl rfl
theorem tw1854 : Cond.instanceMethod y_BM_sounds ∈ TB := tb_8 (i := 174) rfl rfl
theorem tw1855 : Cond.code y_BM_sounds prog_14_method_90_code (3 : Nat) (Option.some FieldType.boolean) ∈ TB := tb_8 (i := 175) rfl rfl
theorem tw1856 : Cond.methodLink "BallBoxModel" (499 : Nat) y_BM_groupsAll ∈ TB := tb_8 (i := 176) rfl rfl
theorem tw1858 : Cond.instanceMethod y_BM_groupsAll ∈ TB := tb_8 (i := 178) rfl rfl
theorem tw1859 : Cond.code y_BM_groupsAll prog_14_method_91_code (2 : Nat) (Option.none : Option FieldType) ∈ TB := tb_8 (i := 179) rfl rfl
theorem tw1860 : Cond.methodLink "BallBoxLaw" (113 : Nat) y_BM_where ∈ TB := tb_8 (i := 180) rfl rfl
theorem tw1861 : Cond.instanceMethod y_BM_where ∈ TB := tb_8 (i := 181) rfl rfl
theorem tw1862 : Cond.selects "BallBoxModel" y_BM_where y_BM_where ∈ TB := tb_8 (i := 182) rfl rfl
theorem tw1863 : Cond.code y_BM_where prog_14_method_94_code (2 : Nat) (Option.some FieldType.long) ∈ TB := tb_8 (i := 183) rfl rfl
theorem tw1864 : Cond.methodLink "BallBoxLaw" (117 : Nat) y_BM_tells ∈ TB := tb_8 (i := 184) rfl rfl
theorem tw1865 : Cond.instanceMethod y_BM_tells ∈ TB := tb_8 (i := 185) rfl rfl
theorem tw1866 : Cond.selects "BallBoxModel" y_BM_tells y_BM_tells ∈ TB := tb_8 (i := 186) rfl rfl
theorem tw1867 : Cond.code y_BM_tells prog_14_method_95_code (8 : Nat) (Option.some FieldType.int) ∈ TB := tb_8 (i := 187) rfl rfl
theorem tw1868 : Cond.methodLink "BallBoxLaw" (121 : Nat) y_BM_game ∈ TB := tb_8 (i := 188) rfl rfl
theorem tw1869 : Cond.instanceMethod y_BM_game ∈ TB := tb_8 (i := 189) rfl rfl
theorem tw1870 : Cond.selects "BallBoxModel" y_BM_game y_BM_game ∈ TB := tb_8 (i := 190) rfl rfl
theorem tw1871 : Cond.code y_BM_game prog_14_method_101_code (4 : Nat) (Option.some FieldType.int) ∈ TB := tb_8 (i := 191) rfl rfl
theorem tw1872 : Cond.constantLong "BallBoxModel" (520 : Nat) (8 : Int64) ∈ TB := tb_8 (i := 192) rfl rfl
theorem tw1873 : Cond.methodLink "BallBoxModel" (522 : Nat) y_BM_plays ∈ TB := tb_8 (i := 193) rfl rfl
theorem tw1875 : Cond.instanceMethod y_BM_plays ∈ TB := tb_8 (i := 195) rfl rfl
theorem tw1876 : Cond.code y_BM_plays prog_14_method_100_code (5 : Nat) (Option.some FieldType.boolean) ∈ TB := tb_8 (i := 196) rfl rfl
theorem tw1877 : Cond.methodLink "BallBoxModel" (511 : Nat) y_BM_isTold ∈ TB := tb_8 (i := 197) rfl rfl
theorem tw1879 : Cond.instanceMethod y_BM_isTold ∈ TB := tb_8 (i := 199) rfl rfl
theorem tw1880 : Cond.code y_BM_isTold prog_14_method_98_code (4 : Nat) (Option.some FieldType.boolean) ∈ TB := tb_8 (i := 200) rfl rfl
theorem tw1881 : Cond.methodLink "BallBoxModel" (505 : Nat) y_BM_keepsLevel ∈ TB := tb_8 (i := 201) rfl rfl
theorem tw1883 : Cond.instanceMethod y_BM_keepsLevel ∈ TB := tb_8 (i := 203) rfl rfl
theorem tw1884 : Cond.code y_BM_keepsLevel prog_14_method_97_code (3 : Nat) (Option.none : Option FieldType) ∈ TB := tb_8 (i := 204) rfl rfl
theorem tw1885 : Cond.methodLink "BallBoxModel" (514 : Nat) y_BM_isOver ∈ TB := tb_8 (i := 205) rfl rfl
theorem tw1887 : Cond.instanceMethod y_BM_isOver ∈ TB := tb_8 (i := 207) rfl rfl
theorem tw1888 : Cond.code y_BM_isOver prog_14_method_99_code (2 : Nat) (Option.some FieldType.boolean) ∈ TB := tb_8 (i := 208) rfl rfl
theorem tw1889 : Cond.methodLink "BallBoxModel" (517 : Nat) y_BM_laysLevel ∈ TB := tb_8 (i := 209) rfl rfl
theorem tw1891 : Cond.instanceMethod y_BM_laysLevel ∈ TB := tb_8 (i := 211) rfl rfl
theorem tw1892 : Cond.code y_BM_laysLevel prog_14_method_96_code (3 : Nat) (Option.none : Option FieldType) ∈ TB := tb_8 (i := 212) rfl rfl
theorem tw1893 : Cond.methodLink "BallBoxLaw" (125 : Nat) y_BM_book ∈ TB := tb_8 (i := 213) rfl rfl
theorem tw1894 : Cond.instanceMethod y_BM_book ∈ TB := tb_8 (i := 214) rfl rfl
theorem tw1895 : Cond.selects "BallBoxModel" y_BM_book y_BM_book ∈ TB := tb_8 (i := 215) rfl rfl
theorem tw1896 : Cond.code y_BM_book prog_14_method_105_code (4 : Nat) (Option.some FieldType.int) ∈ TB := tb_8 (i := 216) rfl rfl
theorem tw1897 : Cond.methodLink "BallBoxModel" (534 : Nat) y_BM_isAlike ∈ TB := tb_8 (i := 217) rfl rfl
theorem tw1899 : Cond.instanceMethod y_BM_isAlike ∈ TB := tb_8 (i := 219) rfl rfl
theorem tw1900 : Cond.code y_BM_isAlike prog_14_method_104_code (7 : Nat) (Option.some FieldType.boolean) ∈ TB := tb_8 (i := 220) rfl rfl
theorem tw1901 : Cond.methodLink "BallBoxModel" (525 : Nat) y_BM_turned ∈ TB := tb_8 (i := 221) rfl rfl
theorem tw1903 : Cond.instanceMethod y_BM_turned ∈ TB := tb_8 (i := 223) rfl rfl
theorem tw1904 : Cond.code y_BM_turned prog_14_method_102_code (5 : Nat) (Option.some FieldType.int) ∈ TB := tb_8 (i := 224) rfl rfl
theorem tw1905 : Cond.methodLink "BallBoxModel" (528 : Nat) y_BM_lies ∈ TB := tb_8 (i := 225) rfl rfl
theorem tw1907 : Cond.instanceMethod y_BM_lies ∈ TB := tb_8 (i := 227) rfl rfl
theorem tw1908 : Cond.code y_BM_lies prog_14_method_103_code (2 : Nat) (Option.some FieldType.int) ∈ TB := tb_8 (i := 228) rfl rfl
theorem tw1909 : Cond.methodLink "BallBoxLaw" (129 : Nat) y_BM_pain ∈ TB := tb_8 (i := 229) rfl rfl
theorem tw1910 : Cond.instanceMethod y_BM_pain ∈ TB := tb_8 (i := 230) rfl rfl
theorem tw1911 : Cond.selects "BallBoxModel" y_BM_pain y_BM_pain ∈ TB := tb_8 (i := 231) rfl rfl
theorem tw1912 : Cond.code y_BM_pain prog_14_method_106_code (2 : Nat) (Option.some FieldType.int) ∈ TB := tb_8 (i := 232) rfl rfl
theorem tw1913 : Cond.methodLink "BallBoxLaw" (133 : Nat) y_BM_seed ∈ TB := tb_8 (i := 233) rfl rfl
theorem tw1914 : Cond.instanceMethod y_BM_seed ∈ TB := tb_8 (i := 234) rfl rfl
theorem tw1915 : Cond.selects "BallBoxModel" y_BM_seed y_BM_seed ∈ TB := tb_8 (i := 235) rfl rfl
theorem tw1916 : Cond.code y_BM_seed prog_14_method_107_code (3 : Nat) (Option.some FieldType.int) ∈ TB := tb_8 (i := 236) rfl rfl
theorem tw1917 : Cond.methodLink "BallBoxLaw" (137 : Nat) y_BM_shaken ∈ TB := tb_8 (i := 237) rfl rfl
theorem tw1918 : Cond.instanceMethod y_BM_shaken ∈ TB := tb_8 (i := 238) rfl rfl
theorem tw1919 : Cond.selects "BallBoxModel" y_BM_shaken y_BM_shaken ∈ TB := tb_8 (i := 239) rfl rfl
theorem tw1920 : Cond.code y_BM_shaken prog_14_method_109_code (8 : Nat) (Option.some FieldType.int) ∈ TB := tb_9 (i := 0) rfl rfl
theorem tw1921 : Cond.constantLong "BallBoxModel" (544 : Nat) (20 : Int64) ∈ TB := tb_9 (i := 1) rfl rfl
theorem tw1922 : Cond.constantLong "BallBoxModel" (546 : Nat) (60 : Int64) ∈ TB := tb_9 (i := 2) rfl rfl
theorem tw1923 : Cond.methodLink "BallBoxModel" (548 : Nat) y_BM_draws ∈ TB := tb_9 (i := 3) rfl rfl
theorem tw1925 : Cond.instanceMethod y_BM_draws ∈ TB := tb_9 (i := 5) rfl rfl
theorem tw1926 : Cond.code y_BM_draws prog_14_method_108_code (2 : Nat) (Option.some FieldType.int) ∈ TB := tb_9 (i := 6) rfl rfl
theorem tw1927 : Cond.constantLong "BallBoxModel" (537 : Nat) (1103515245 : Int64) ∈ TB := tb_9 (i := 7) rfl rfl
theorem tw1928 : Cond.constantLong "BallBoxModel" (539 : Nat) (12345 : Int64) ∈ TB := tb_9 (i := 8) rfl rfl
theorem tw1929 : Cond.constantLong "BallBoxModel" (541 : Nat) (2147483648 : Int64) ∈ TB := tb_9 (i := 9) rfl rfl
theorem tw1930 : Cond.constant "BallBoxModel" (543 : Nat) (65536 : Int32) ∈ TB := tb_9 (i := 10) rfl rfl
theorem tw1931 : Cond.methodLink "BallBoxLaw" (141 : Nat) y_BM_count ∈ TB := tb_9 (i := 11) rfl rfl
theorem tw1932 : Cond.instanceMethod y_BM_count ∈ TB := tb_9 (i := 12) rfl rfl
theorem tw1933 : Cond.selects "BallBoxModel" y_BM_count y_BM_count ∈ TB := tb_9 (i := 13) rfl rfl
theorem tw1934 : Cond.code y_BM_count prog_14_method_110_code (4 : Nat) (Option.some FieldType.int) ∈ TB := tb_9 (i := 14) rfl rfl
theorem tw1935 : Cond.methodLink "BallBoxLaw" (145 : Nat) y_BM_image ∈ TB := tb_9 (i := 15) rfl rfl
theorem tw1936 : Cond.instanceMethod y_BM_image ∈ TB := tb_9 (i := 16) rfl rfl
theorem tw1937 : Cond.selects "BallBoxModel" y_BM_image y_BM_image ∈ TB := tb_9 (i := 17) rfl rfl
theorem tw1938 : Cond.code y_BM_image prog_14_method_113_code (2 : Nat) (Option.some FieldType.int) ∈ TB := tb_9 (i := 18) rfl rfl
theorem tw1939 : Cond.methodLink "BallBoxModel" (562 : Nat) y_BM_carriesAll ∈ TB := tb_9 (i := 19) rfl rfl
theorem tw1941 : Cond.instanceMethod y_BM_carriesAll ∈ TB := tb_9 (i := 21) rfl rfl
theorem tw1942 : Cond.code y_BM_carriesAll prog_14_method_112_code (3 : Nat) (Option.none : Option FieldType) ∈ TB := tb_9 (i := 22) rfl rfl
theorem tw1943 : Cond.methodLink "BallBoxModel" (558 : Nat) y_BM_carry ∈ TB := tb_9 (i := 23) rfl rfl
theorem tw1945 : Cond.instanceMethod y_BM_carry ∈ TB := tb_9 (i := 25) rfl rfl
theorem tw1946 : Cond.code y_BM_carry prog_14_method_111_code (3 : Nat) (Option.none : Option FieldType) ∈ TB := tb_9 (i := 26) rfl rfl
theorem tw1947 : Cond.methodLink "BallBoxLaw" (149 : Nat) y_BM_back ∈ TB := tb_9 (i := 27) rfl rfl
theorem tw1948 : Cond.instanceMethod y_BM_back ∈ TB := tb_9 (i := 28) rfl rfl
theorem tw1949 : Cond.selects "BallBoxModel" y_BM_back y_BM_back ∈ TB := tb_9 (i := 29) rfl rfl
theorem tw1950 : Cond.code y_BM_back prog_14_method_114_code (2 : Nat) (Option.some FieldType.int) ∈ TB := tb_9 (i := 30) rfl rfl
theorem tw1951 : Cond.fieldLink "java/lang/String" (9 : Nat) "java/lang/String" "value" "[B" ∈ TB := tb_9 (i := 31) rfl rfl
theorem tw1952 : Cond.fieldLink "java/lang/String" (15 : Nat) "java/lang/String" "coder" "B" ∈ TB := tb_9 (i := 32) rfl rfl
theorem ts0 : Cond.selects "BallBox$BoxReader" y_BR_readClause y_BR_readClause ∈ TB := tb_se (i := 0) rfl rfl
theorem ts1 : Cond.selects "BallBox$BoxReader" y_BR_readRow y_BR_readRow ∈ TB := tb_se (i := 1) rfl rfl
theorem ts2 : Cond.selects "BallBox$BoxReader" y_BR_readBall y_BR_readBall ∈ TB := tb_se (i := 2) rfl rfl
theorem ts3 : Cond.selects "BallBox$State" y_SA_takeBox y_SA_takeBox ∈ TB := tb_se (i := 3) rfl rfl
theorem ts4 : Cond.selects "BallBox$RuleReader" y_RR_cutUp y_RR_cutUp ∈ TB := tb_se (i := 4) rfl rfl
theorem ts5 : Cond.selects "BallBox$RuleReader" y_RR_openClause y_RR_openClause ∈ TB := tb_se (i := 5) rfl rfl
theorem ts6 : Cond.selects "BallBox$RuleReader" y_RR_tokenHere y_RR_tokenHere ∈ TB := tb_se (i := 6) rfl rfl
theorem ts7 : Cond.selects "BallBox$RuleReader" y_RR_blame y_RR_blame ∈ TB := tb_se (i := 7) rfl rfl
theorem ts8 : Cond.selects "BallBox$RuleReader" y_RR_readSum y_RR_readSum ∈ TB := tb_se (i := 8) rfl rfl
theorem ts9 : Cond.selects "BallBox$RuleReader" y_RR_readValue y_RR_readValue ∈ TB := tb_se (i := 9) rfl rfl
theorem ts10 : Cond.selects "BallBox$RuleReader" y_RR_takes y_RR_takes ∈ TB := tb_se (i := 10) rfl rfl
theorem ts11 : Cond.selects "BallBox$RuleReader" y_RR_readTest y_RR_readTest ∈ TB := tb_se (i := 11) rfl rfl
theorem ts12 : Cond.selects "BallBox$RuleReader" y_RR_readFact y_RR_readFact ∈ TB := tb_se (i := 12) rfl rfl
theorem ts13 : Cond.selects "BallBox$RuleReader" y_RR_readComparison y_RR_readComparison ∈ TB := tb_se (i := 13) rfl rfl
theorem ts14 : Cond.selects "BallBox$RuleReader" y_RR_closeClause y_RR_closeClause ∈ TB := tb_se (i := 14) rfl rfl
theorem ts15 : Cond.selects "BallBox$Roller" y_RO_tellWords y_RO_tellWords ∈ TB := tb_se (i := 15) rfl rfl
theorem ts16 : Cond.selects "BallBox$Rule" y_RU_workedOut y_RU_workedOut ∈ TB := tb_se (i := 16) rfl rfl
theorem ts17 : Cond.selects "BallBox$Roller" y_RO_lineUp y_RO_lineUp ∈ TB := tb_se (i := 17) rfl rfl
theorem ts18 : Cond.selects "BallBox$Roller" y_RO_rollOne y_RO_rollOne ∈ TB := tb_se (i := 18) rfl rfl
theorem ts19 : Cond.selects "BallBox$Trial" y_TR_roll y_TR_roll ∈ TB := tb_se (i := 19) rfl rfl
theorem ts20 : Cond.selects "BallBox$Trial" y_TR_bringsHome y_TR_bringsHome ∈ TB := tb_se (i := 20) rfl rfl
theorem ts21 : Cond.selects "BallBox$Search" y_SE_forget y_SE_forget ∈ TB := tb_se (i := 21) rfl rfl
theorem ts22 : Cond.selects "BallBox$Search" y_SE_note y_SE_note ∈ TB := tb_se (i := 22) rfl rfl
theorem ts23 : Cond.selects "BallBox$Search" y_SE_tipsBack y_SE_tipsBack ∈ TB := tb_se (i := 23) rfl rfl
theorem ts24 : Cond.selects "BallBox$Search" y_SE_isSeen y_SE_isSeen ∈ TB := tb_se (i := 24) rfl rfl
theorem ts25 : Cond.selects "BallBox$Pairs" y_PA_listSituations y_PA_listSituations ∈ TB := tb_se (i := 25) rfl rfl
theorem ts26 : Cond.selects "BallBox$Pairs" y_PA_rollAll y_PA_rollAll ∈ TB := tb_se (i := 26) rfl rfl
theorem ts27 : Cond.selects "BallBox$Pairs" y_PA_reckonFar y_PA_reckonFar ∈ TB := tb_se (i := 27) rfl rfl
theorem ts28 : Cond.selects "BallBox$Pairs" y_PA_comesTo y_PA_comesTo ∈ TB := tb_se (i := 28) rfl rfl
theorem ts29 : Cond.selects "BallBox$Pairs" y_PA_listBeginnings y_PA_listBeginnings ∈ TB := tb_se (i := 29) rfl rfl
theorem ts30 : Cond.selects "BallBox$Pairs" y_PA_findsRow y_PA_findsRow ∈ TB := tb_se (i := 30) rfl rfl
theorem ts31 : Cond.selects "BallBox$Pairs" y_PA_startsCanDo y_PA_startsCanDo ∈ TB := tb_se (i := 31) rfl rfl
theorem ts32 : Cond.selects "BallBox$Pairs" y_PA_goesOn y_PA_goesOn ∈ TB := tb_se (i := 32) rfl rfl
theorem ts33 : Cond.selects "BallBox$Carver" y_CA_noteIfBetter y_CA_noteIfBetter ∈ TB := tb_se (i := 33) rfl rfl
theorem ts34 : Cond.selects "BallBox$Listener" y_LI_behindSounds y_LI_behindSounds ∈ TB := tb_se (i := 34) rfl rfl
theorem ts35 : Cond.selects "BallBox$Listener" y_LI_noteFit y_LI_noteFit ∈ TB := tb_se (i := 35) rfl rfl
theorem ts36 : Cond.selects "BallBox$Listener" y_LI_listenOn y_LI_listenOn ∈ TB := tb_se (i := 36) rfl rfl
theorem ts37 : Cond.selects "BallBox$Listener" y_LI_chooseWay y_LI_chooseWay ∈ TB := tb_se (i := 37) rfl rfl
theorem ts38 : Cond.selects "BallBox$Trial" y_TR_comesHome y_TR_comesHome ∈ TB := tb_se (i := 38) rfl rfl
theorem ts39 : Cond.selects "BallBox" y_BB_isInBook y_BB_isInBook ∈ TB := tb_se (i := 39) rfl rfl
theorem ts40 : Cond.selects "BallBox$State" y_SA_isTurned y_SA_isTurned ∈ TB := tb_se (i := 40) rfl rfl
theorem ts41 : Cond.selects "BallBox$State" y_SA_showsSame y_SA_showsSame ∈ TB := tb_se (i := 41) rfl rfl
theorem ts42 : Cond.selects "BallBoxModel" y_BM_append y_BM_append ∈ TB := tb_se (i := 42) rfl rfl
theorem ts43 : Cond.selects "BallBoxModel" y_BM_starts y_BM_starts ∈ TB := tb_se (i := 43) rfl rfl
theorem ts44 : Cond.selects "BallBoxModel" y_BM_boxClause y_BM_boxClause ∈ TB := tb_se (i := 44) rfl rfl
theorem ts45 : Cond.selects "BallBoxModel" y_BM_blanks y_BM_blanks ∈ TB := tb_se (i := 45) rfl rfl
theorem ts46 : Cond.selects "BallBoxModel" y_BM_sign y_BM_sign ∈ TB := tb_se (i := 46) rfl rfl
theorem ts47 : Cond.selects "BallBoxModel" y_BM_stood y_BM_stood ∈ TB := tb_se (i := 47) rfl rfl
theorem ts48 : Cond.selects "BallBoxModel" y_BM_fails y_BM_fails ∈ TB := tb_se (i := 48) rfl rfl
theorem ts49 : Cond.selects "BallBoxModel" y_BM_signs y_BM_signs ∈ TB := tb_se (i := 49) rfl rfl
theorem ts50 : Cond.selects "BallBoxModel" y_BM_signKind y_BM_signKind ∈ TB := tb_se (i := 50) rfl rfl
theorem ts51 : Cond.selects "BallBoxModel" y_BM_laidBall y_BM_laidBall ∈ TB := tb_se (i := 51) rfl rfl
theorem ts52 : Cond.selects "BallBoxModel" y_BM_amount y_BM_amount ∈ TB := tb_se (i := 52) rfl rfl
theorem ts53 : Cond.selects "BallBoxModel" y_BM_digits y_BM_digits ∈ TB := tb_se (i := 53) rfl rfl
theorem ts54 : Cond.selects "BallBoxModel" y_BM_isDigit y_BM_isDigit ∈ TB := tb_se (i := 54) rfl rfl
theorem ts55 : Cond.selects "BallBoxModel" y_BM_goesOn y_BM_goesOn ∈ TB := tb_se (i := 55) rfl rfl
theorem ts56 : Cond.selects "BallBoxModel" y_BM_ruleClause y_BM_ruleClause ∈ TB := tb_se (i := 56) rfl rfl
theorem ts57 : Cond.selects "BallBoxModel" y_BM_sum y_BM_sum ∈ TB := tb_se (i := 57) rfl rfl
theorem ts58 : Cond.selects "BallBoxModel" y_BM_term y_BM_term ∈ TB := tb_se (i := 58) rfl rfl
theorem ts59 : Cond.selects "BallBoxModel" y_BM_value y_BM_value ∈ TB := tb_se (i := 59) rfl rfl
theorem ts60 : Cond.selects "BallBoxModel" y_BM_isCounted y_BM_isCounted ∈ TB := tb_se (i := 60) rfl rfl
theorem ts61 : Cond.selects "BallBoxModel" y_BM_entry y_BM_entry ∈ TB := tb_se (i := 61) rfl rfl
theorem ts62 : Cond.selects "BallBoxModel" y_BM_takes y_BM_takes ∈ TB := tb_se (i := 62) rfl rfl
theorem ts63 : Cond.selects "BallBoxModel" y_BM_test y_BM_test ∈ TB := tb_se (i := 63) rfl rfl
theorem ts64 : Cond.selects "BallBoxModel" y_BM_fact y_BM_fact ∈ TB := tb_se (i := 64) rfl rfl
theorem ts65 : Cond.selects "BallBoxModel" y_BM_opens y_BM_opens ∈ TB := tb_se (i := 65) rfl rfl
theorem ts66 : Cond.selects "BallBoxModel" y_BM_compared y_BM_compared ∈ TB := tb_se (i := 66) rfl rfl
theorem ts67 : Cond.selects "BallBoxModel" y_BM_answers y_BM_answers ∈ TB := tb_se (i := 67) rfl rfl
theorem ts68 : Cond.selects "BallBoxModel" y_BM_top y_BM_top ∈ TB := tb_se (i := 68) rfl rfl
theorem ts69 : Cond.selects "BallBoxModel" y_BM_isBox y_BM_isBox ∈ TB := tb_se (i := 69) rfl rfl
theorem ts70 : Cond.selects "BallBoxModel" y_BM_tips y_BM_tips ∈ TB := tb_se (i := 70) rfl rfl
theorem ts71 : Cond.selects "BallBoxModel" y_BM_rankOf y_BM_rankOf ∈ TB := tb_se (i := 71) rfl rfl
theorem ts72 : Cond.selects "BallBoxModel" y_BM_sumOf y_BM_sumOf ∈ TB := tb_se (i := 72) rfl rfl
theorem ts73 : Cond.selects "BallBoxModel" y_BM_rolls y_BM_rolls ∈ TB := tb_se (i := 73) rfl rfl
theorem ts74 : Cond.selects "BallBoxModel" y_BM_by y_BM_by ∈ TB := tb_se (i := 74) rfl rfl
theorem ts75 : Cond.selects "BallBoxModel" y_BM_isCell y_BM_isCell ∈ TB := tb_se (i := 75) rfl rfl
theorem ts76 : Cond.selects "BallBoxModel" y_BM_whoAt y_BM_whoAt ∈ TB := tb_se (i := 76) rfl rfl
theorem ts77 : Cond.selects "BallBoxModel" y_BM_fell y_BM_fell ∈ TB := tb_se (i := 77) rfl rfl
theorem ts78 : Cond.selects "BallBoxModel" y_BM_steps y_BM_steps ∈ TB := tb_se (i := 78) rfl rfl
theorem ts79 : Cond.selects "BallBoxModel" y_BM_holeOf y_BM_holeOf ∈ TB := tb_se (i := 79) rfl rfl
theorem ts80 : Cond.selects "BallBoxModel" y_BM_isThere y_BM_isThere ∈ TB := tb_se (i := 80) rfl rfl
theorem ts81 : Cond.selects "BallBoxModel" y_BM_answer y_BM_answer ∈ TB := tb_se (i := 81) rfl rfl
theorem ts82 : Cond.selects "BallBoxModel" y_BM_isBall y_BM_isBall ∈ TB := tb_se (i := 82) rfl rfl
theorem ts83 : Cond.selects "BallBoxModel" y_BM_isFree y_BM_isFree ∈ TB := tb_se (i := 83) rfl rfl
theorem ts84 : Cond.selects "BallBoxModel" y_BM_tipsRow y_BM_tipsRow ∈ TB := tb_se (i := 84) rfl rfl
theorem ts85 : Cond.selects "BallBoxModel" y_BM_areHome y_BM_areHome ∈ TB := tb_se (i := 85) rfl rfl
theorem ts86 : Cond.selects "BallBoxModel" y_BM_finds y_BM_finds ∈ TB := tb_se (i := 86) rfl rfl
theorem ts87 : Cond.selects "BallBoxModel" y_BM_comes y_BM_comes ∈ TB := tb_se (i := 87) rfl rfl
theorem ts88 : Cond.selects "BallBoxModel" y_BM_situationNow y_BM_situationNow ∈ TB := tb_se (i := 88) rfl rfl
theorem ts89 : Cond.selects "BallBoxModel" y_BM_laysSituation y_BM_laysSituation ∈ TB := tb_se (i := 89) rfl rfl
theorem ts90 : Cond.selects "BallBoxModel" y_BM_findsBlind y_BM_findsBlind ∈ TB := tb_se (i := 90) rfl rfl
theorem ts91 : Cond.selects "BallBoxModel" y_BM_fillsNext y_BM_fillsNext ∈ TB := tb_se (i := 91) rfl rfl
theorem ts92 : Cond.selects "BallBoxModel" y_BM_fillsBegun y_BM_fillsBegun ∈ TB := tb_se (i := 92) rfl rfl
theorem ts93 : Cond.selects "BallBoxModel" y_BM_codes y_BM_codes ∈ TB := tb_se (i := 93) rfl rfl
theorem ts94 : Cond.selects "BallBoxModel" y_BM_isBeginning y_BM_isBeginning ∈ TB := tb_se (i := 94) rfl rfl
theorem ts95 : Cond.selects "BallBoxModel" y_BM_isBlind y_BM_isBlind ∈ TB := tb_se (i := 95) rfl rfl
theorem ts96 : Cond.selects "BallBoxModel" y_BM_isWhole y_BM_isWhole ∈ TB := tb_se (i := 96) rfl rfl
theorem ts97 : Cond.selects "BallBoxModel" y_BM_findsChipped y_BM_findsChipped ∈ TB := tb_se (i := 97) rfl rfl
theorem ts98 : Cond.selects "BallBoxModel" y_BM_best y_BM_best ∈ TB := tb_se (i := 98) rfl rfl
theorem ts99 : Cond.selects "BallBoxModel" y_BM_findsWalled y_BM_findsWalled ∈ TB := tb_se (i := 99) rfl rfl
theorem ts100 : Cond.selects "BallBoxModel" y_BM_fillsFar y_BM_fillsFar ∈ TB := tb_se (i := 100) rfl rfl
theorem ts101 : Cond.selects "BallBoxModel" y_BM_findsFits y_BM_findsFits ∈ TB := tb_se (i := 101) rfl rfl
theorem ts102 : Cond.selects "BallBoxModel" y_BM_sounds y_BM_sounds ∈ TB := tb_se (i := 102) rfl rfl
theorem ts103 : Cond.selects "BallBoxModel" y_BM_groupsAll y_BM_groupsAll ∈ TB := tb_se (i := 103) rfl rfl
theorem ts104 : Cond.selects "BallBoxModel" y_BM_plays y_BM_plays ∈ TB := tb_se (i := 104) rfl rfl
theorem ts105 : Cond.selects "BallBoxModel" y_BM_isTold y_BM_isTold ∈ TB := tb_se (i := 105) rfl rfl
theorem ts106 : Cond.selects "BallBoxModel" y_BM_keepsLevel y_BM_keepsLevel ∈ TB := tb_se (i := 106) rfl rfl
theorem ts107 : Cond.selects "BallBoxModel" y_BM_isOver y_BM_isOver ∈ TB := tb_se (i := 107) rfl rfl
theorem ts108 : Cond.selects "BallBoxModel" y_BM_laysLevel y_BM_laysLevel ∈ TB := tb_se (i := 108) rfl rfl
theorem ts109 : Cond.selects "BallBoxModel" y_BM_isAlike y_BM_isAlike ∈ TB := tb_se (i := 109) rfl rfl
theorem ts110 : Cond.selects "BallBoxModel" y_BM_turned y_BM_turned ∈ TB := tb_se (i := 110) rfl rfl
theorem ts111 : Cond.selects "BallBoxModel" y_BM_lies y_BM_lies ∈ TB := tb_se (i := 111) rfl rfl
theorem ts112 : Cond.selects "BallBoxModel" y_BM_draws y_BM_draws ∈ TB := tb_se (i := 112) rfl rfl
theorem ts113 : Cond.selects "BallBoxModel" y_BM_carriesAll y_BM_carriesAll ∈ TB := tb_se (i := 113) rfl rfl
theorem ts114 : Cond.selects "BallBoxModel" y_BM_carry y_BM_carry ∈ TB := tb_se (i := 114) rfl rfl
theorem uw0 : ∀ w ∈ u_ws RX0 TX0 1, w ∈ TB := by
  intro w hw
  obtain ⟨k, hk, rfl⟩ := List.mem_map.mp hw
  have hk := List.mem_range.mp hk
  match k, hk with
  | 0, _ => exact tw149
  | k + 1, h => exact absurd h (by omega)
theorem uw1 : ∀ w ∈ u_ws RX1 TX1 5, w ∈ TB := by
  intro w hw
  obtain ⟨k, hk, rfl⟩ := List.mem_map.mp hw
  have hk := List.mem_range.mp hk
  match k, hk with
  | 0, _ => exact tw298
  | 1, _ => exact tw300
  | 2, _ => exact tw302
  | 3, _ => exact tw304
  | 4, _ => exact tw306
  | k + 5, h => exact absurd h (by omega)
theorem uw2 : ∀ w ∈ u_ws RX2 TX2 10, w ∈ TB := by
  intro w hw
  obtain ⟨k, hk, rfl⟩ := List.mem_map.mp hw
  have hk := List.mem_range.mp hk
  match k, hk with
  | 0, _ => exact tw386
  | 1, _ => exact tw388
  | 2, _ => exact tw390
  | 3, _ => exact tw392
  | 4, _ => exact tw394
  | 5, _ => exact tw396
  | 6, _ => exact tw398
  | 7, _ => exact tw400
  | 8, _ => exact tw402
  | 9, _ => exact tw404
  | k + 10, h => exact absurd h (by omega)
theorem uw3 : ∀ w ∈ u_ws RX3 TX3 16, w ∈ TB := by
  intro w hw
  obtain ⟨k, hk, rfl⟩ := List.mem_map.mp hw
  have hk := List.mem_range.mp hk
  match k, hk with
  | 0, _ => exact tw333
  | 1, _ => exact tw335
  | 2, _ => exact tw337
  | 3, _ => exact tw339
  | 4, _ => exact tw341
  | 5, _ => exact tw343
  | 6, _ => exact tw345
  | 7, _ => exact tw347
  | 8, _ => exact tw349
  | 9, _ => exact tw351
  | 10, _ => exact tw353
  | 11, _ => exact tw355
  | 12, _ => exact tw357
  | 13, _ => exact tw359
  | 14, _ => exact tw361
  | 15, _ => exact tw363
  | k + 16, h => exact absurd h (by omega)
theorem uw4 : ∀ w ∈ u_ws RX4 TX4 8, w ∈ TB := by
  intro w hw
  obtain ⟨k, hk, rfl⟩ := List.mem_map.mp hw
  have hk := List.mem_range.mp hk
  match k, hk with
  | 0, _ => exact tw234
  | 1, _ => exact tw236
  | 2, _ => exact tw238
  | 3, _ => exact tw240
  | 4, _ => exact tw242
  | 5, _ => exact tw244
  | 6, _ => exact tw246
  | 7, _ => exact tw248
  | k + 8, h => exact absurd h (by omega)
theorem uw5 : ∀ w ∈ u_ws RX5 TX5 7, w ∈ TB := by
  intro w hw
  obtain ⟨k, hk, rfl⟩ := List.mem_map.mp hw
  have hk := List.mem_range.mp hk
  match k, hk with
  | 0, _ => exact tw171
  | 1, _ => exact tw173
  | 2, _ => exact tw175
  | 3, _ => exact tw177
  | 4, _ => exact tw179
  | 5, _ => exact tw181
  | 6, _ => exact tw183
  | k + 7, h => exact absurd h (by omega)
theorem uw6 : ∀ w ∈ u_ws RX6 TX6 7, w ∈ TB := by
  intro w hw
  obtain ⟨k, hk, rfl⟩ := List.mem_map.mp hw
  have hk := List.mem_range.mp hk
  match k, hk with
  | 0, _ => exact tw195
  | 1, _ => exact tw197
  | 2, _ => exact tw199
  | 3, _ => exact tw201
  | 4, _ => exact tw203
  | 5, _ => exact tw205
  | 6, _ => exact tw207
  | k + 7, h => exact absurd h (by omega)
theorem uw7 : ∀ w ∈ u_ws RX7 TX7 8, w ∈ TB := by
  intro w hw
  obtain ⟨k, hk, rfl⟩ := List.mem_map.mp hw
  have hk := List.mem_range.mp hk
  match k, hk with
  | 0, _ => exact tw266
  | 1, _ => exact tw268
  | 2, _ => exact tw270
  | 3, _ => exact tw272
  | 4, _ => exact tw274
  | 5, _ => exact tw276
  | 6, _ => exact tw278
  | 7, _ => exact tw280
  | k + 8, h => exact absurd h (by omega)
theorem uw8 : ∀ w ∈ u_ws RX8 TX8 15, w ∈ TB := by
  intro w hw
  obtain ⟨k, hk, rfl⟩ := List.mem_map.mp hw
  have hk := List.mem_range.mp hk
  match k, hk with
  | 0, _ => exact tw116
  | 1, _ => exact tw118
  | 2, _ => exact tw120
  | 3, _ => exact tw122
  | 4, _ => exact tw124
  | 5, _ => exact tw126
  | 6, _ => exact tw128
  | 7, _ => exact tw130
  | 8, _ => exact tw132
  | 9, _ => exact tw134
  | 10, _ => exact tw136
  | 11, _ => exact tw138
  | 12, _ => exact tw140
  | 13, _ => exact tw142
  | 14, _ => exact tw144
  | k + 15, h => exact absurd h (by omega)
theorem uw9 : ∀ w ∈ u_ws RX9 TX9 4, w ∈ TB := by
  intro w hw
  obtain ⟨k, hk, rfl⟩ := List.mem_map.mp hw
  have hk := List.mem_range.mp hk
  match k, hk with
  | 0, _ => exact tw45
  | 1, _ => exact tw47
  | 2, _ => exact tw49
  | 3, _ => exact tw51
  | k + 4, h => exact absurd h (by omega)
theorem uw10 : ∀ w ∈ u_ws RX10 TX10 8, w ∈ TB := by
  intro w hw
  obtain ⟨k, hk, rfl⟩ := List.mem_map.mp hw
  have hk := List.mem_range.mp hk
  match k, hk with
  | 0, _ => exact tw428
  | 1, _ => exact tw430
  | 2, _ => exact tw432
  | 3, _ => exact tw434
  | 4, _ => exact tw436
  | 5, _ => exact tw438
  | 6, _ => exact tw440
  | 7, _ => exact tw442
  | k + 8, h => exact absurd h (by omega)
theorem uw11 : ∀ w ∈ u_ws RX11 TX11 15, w ∈ TB := by
  intro w hw
  obtain ⟨k, hk, rfl⟩ := List.mem_map.mp hw
  have hk := List.mem_range.mp hk
  match k, hk with
  | 0, _ => exact tw463
  | 1, _ => exact tw465
  | 2, _ => exact tw467
  | 3, _ => exact tw469
  | 4, _ => exact tw471
  | 5, _ => exact tw473
  | 6, _ => exact tw475
  | 7, _ => exact tw477
  | 8, _ => exact tw479
  | 9, _ => exact tw481
  | 10, _ => exact tw483
  | 11, _ => exact tw485
  | 12, _ => exact tw487
  | 13, _ => exact tw489
  | 14, _ => exact tw491
  | k + 15, h => exact absurd h (by omega)
theorem uw12 : ∀ w ∈ u_ws RX12 TX12 76, w ∈ TB := by
  intro w hw
  obtain ⟨k, hk, rfl⟩ := List.mem_map.mp hw
  have hk := List.mem_range.mp hk
  match k, hk with
  | 0, _ => exact tw1325
  | 1, _ => exact tw1327
  | 2, _ => exact tw1329
  | 3, _ => exact tw1331
  | 4, _ => exact tw1333
  | 5, _ => exact tw1335
  | 6, _ => exact tw1337
  | 7, _ => exact tw1339
  | 8, _ => exact tw1341
  | 9, _ => exact tw1343
  | 10, _ => exact tw1345
  | 11, _ => exact tw1347
  | 12, _ => exact tw1349
  | 13, _ => exact tw1351
  | 14, _ => exact tw1353
  | 15, _ => exact tw1355
  | 16, _ => exact tw1357
  | 17, _ => exact tw1359
  | 18, _ => exact tw1361
  | 19, _ => exact tw1363
  | 20, _ => exact tw1365
  | 21, _ => exact tw1367
  | 22, _ => exact tw1369
  | 23, _ => exact tw1371
  | 24, _ => exact tw1373
  | 25, _ => exact tw1375
  | 26, _ => exact tw1377
  | 27, _ => exact tw1379
  | 28, _ => exact tw1381
  | 29, _ => exact tw1383
  | 30, _ => exact tw1385
  | 31, _ => exact tw1387
  | 32, _ => exact tw1389
  | 33, _ => exact tw1391
  | 34, _ => exact tw1393
  | 35, _ => exact tw1395
  | 36, _ => exact tw1397
  | 37, _ => exact tw1399
  | 38, _ => exact tw1401
  | 39, _ => exact tw1403
  | 40, _ => exact tw1405
  | 41, _ => exact tw1407
  | 42, _ => exact tw1409
  | 43, _ => exact tw1411
  | 44, _ => exact tw1413
  | 45, _ => exact tw1415
  | 46, _ => exact tw1417
  | 47, _ => exact tw1419
  | 48, _ => exact tw1421
  | 49, _ => exact tw1423
  | 50, _ => exact tw1425
  | 51, _ => exact tw1427
  | 52, _ => exact tw1429
  | 53, _ => exact tw1431
  | 54, _ => exact tw1433
  | 55, _ => exact tw1435
  | 56, _ => exact tw1437
  | 57, _ => exact tw1439
  | 58, _ => exact tw1441
  | 59, _ => exact tw1443
  | 60, _ => exact tw1445
  | 61, _ => exact tw1447
  | 62, _ => exact tw1449
  | 63, _ => exact tw1451
  | 64, _ => exact tw1453
  | 65, _ => exact tw1455
  | 66, _ => exact tw1457
  | 67, _ => exact tw1459
  | 68, _ => exact tw1461
  | 69, _ => exact tw1463
  | 70, _ => exact tw1465
  | 71, _ => exact tw1467
  | 72, _ => exact tw1469
  | 73, _ => exact tw1471
  | 74, _ => exact tw1473
  | 75, _ => exact tw1475
  | k + 76, h => exact absurd h (by omega)
