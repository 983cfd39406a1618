/-! ===== words of the law's list ===== -/
set_option maxRecDepth 20000 in
theorem u2 : Cond.initialized RX8 ∈ wsL_law := List.mem_of_getElem? (i := 2) (by decide +kernel)
set_option maxRecDepth 20000 in
theorem u5 : Cond.initialized RX9 ∈ wsL_law := List.mem_of_getElem? (i := 5) (by decide +kernel)
set_option maxRecDepth 20000 in
theorem u14 : Cond.initialized RX2 ∈ wsL_law := List.mem_of_getElem? (i := 14) (by decide +kernel)
set_option maxRecDepth 20000 in
theorem u15 : Cond.fieldLink RX8 12 "ScaleGroups" "now" "LScaleGroups$Order;" ∈ wsL_law := List.mem_of_getElem? (i := 15) (by decide +kernel)
set_option maxRecDepth 20000 in
theorem u16 : Cond.fieldLink RX8 16 "ScaleGroups" "ahead" "LScaleGroups$Order;" ∈ wsL_law := List.mem_of_getElem? (i := 16) (by decide +kernel)
set_option maxRecDepth 20000 in
theorem u17 : Cond.fieldLink RX8 19 "ScaleGroups" "tried" "LScaleGroups$Order;" ∈ wsL_law := List.mem_of_getElem? (i := 17) (by decide +kernel)
set_option maxRecDepth 20000 in
theorem u20 : Cond.initialized RX5 ∈ wsL_law := List.mem_of_getElem? (i := 20) (by decide +kernel)
set_option maxRecDepth 20000 in
theorem u21 : Cond.fieldLink RX8 25 "ScaleGroups" "scale" "LScaleGroups$Scale;" ∈ wsL_law := List.mem_of_getElem? (i := 21) (by decide +kernel)
set_option maxRecDepth 20000 in
theorem u22 : Cond.fieldLink RX8 29 "ScaleGroups" "other" "LScaleGroups$Scale;" ∈ wsL_law := List.mem_of_getElem? (i := 22) (by decide +kernel)
set_option maxRecDepth 20000 in
theorem u25 : Cond.initialized RX0 ∈ wsL_law := List.mem_of_getElem? (i := 25) (by decide +kernel)
set_option maxRecDepth 20000 in
theorem u26 : Cond.fieldLink RX8 35 "ScaleGroups" "labels" "LScaleGroups$Labels;" ∈ wsL_law := List.mem_of_getElem? (i := 26) (by decide +kernel)
set_option maxRecDepth 20000 in
theorem u29 : Cond.initialized RX3 ∈ wsL_law := List.mem_of_getElem? (i := 29) (by decide +kernel)
set_option maxRecDepth 20000 in
theorem u30 : Cond.fieldLink RX8 42 "ScaleGroups" "corners" "LScaleGroups$Outline;" ∈ wsL_law := List.mem_of_getElem? (i := 30) (by decide +kernel)
set_option maxRecDepth 20000 in
theorem u33 : Cond.initialized RX7 ∈ wsL_law := List.mem_of_getElem? (i := 33) (by decide +kernel)
set_option maxRecDepth 20000 in
theorem u34 : Cond.fieldLink RX8 49 "ScaleGroups" "ways" "LScaleGroups$Ways;" ∈ wsL_law := List.mem_of_getElem? (i := 34) (by decide +kernel)
set_option maxRecDepth 20000 in
theorem u37 : Cond.initialized RX1 ∈ wsL_law := List.mem_of_getElem? (i := 37) (by decide +kernel)
set_option maxRecDepth 20000 in
theorem u38 : Cond.fieldLink RX8 56 "ScaleGroups" "lasting" "LScaleGroups$Lasting;" ∈ wsL_law := List.mem_of_getElem? (i := 38) (by decide +kernel)
set_option maxRecDepth 20000 in
theorem u40 : Cond.fieldLink RX8 60 "ScaleGroups" "row" "[I" ∈ wsL_law := List.mem_of_getElem? (i := 40) (by decide +kernel)
set_option maxRecDepth 20000 in
theorem u41 : Cond.fieldLink RX8 64 "ScaleGroups" "labelSize" "I" ∈ wsL_law := List.mem_of_getElem? (i := 41) (by decide +kernel)
set_option maxRecDepth 20000 in
theorem u42 : Cond.fieldLink RX8 68 "ScaleGroups" "drawState" "I" ∈ wsL_law := List.mem_of_getElem? (i := 42) (by decide +kernel)
set_option maxRecDepth 20000 in
theorem u49 : Cond.initialized RX4 ∈ wsL_law := List.mem_of_getElem? (i := 49) (by decide +kernel)
set_option maxRecDepth 20000 in
theorem u50 : Cond.fieldLink RX2 12 "ScaleGroups$Order" "points" "LScaleGroups$Points;" ∈ wsL_law := List.mem_of_getElem? (i := 50) (by decide +kernel)
set_option maxRecDepth 20000 in
theorem u51 : Cond.fieldLink RX2 18 "ScaleGroups$Order" "count" "I" ∈ wsL_law := List.mem_of_getElem? (i := 51) (by decide +kernel)
set_option maxRecDepth 20000 in
theorem u53 : Cond.fieldLink RX2 22 "ScaleGroups$Order" "keys" "[J" ∈ wsL_law := List.mem_of_getElem? (i := 53) (by decide +kernel)
set_option maxRecDepth 20000 in
theorem u54 : Cond.fieldLink RX2 26 "ScaleGroups$Order" "aparts" "[I" ∈ wsL_law := List.mem_of_getElem? (i := 54) (by decide +kernel)
set_option maxRecDepth 20000 in
theorem u55 : Cond.fieldLink RX2 30 "ScaleGroups$Order" "roots" "[I" ∈ wsL_law := List.mem_of_getElem? (i := 55) (by decide +kernel)
set_option maxRecDepth 20000 in
theorem u56 : Cond.fieldLink RX2 33 "ScaleGroups$Order" "firsts" "[I" ∈ wsL_law := List.mem_of_getElem? (i := 56) (by decide +kernel)
set_option maxRecDepth 20000 in
theorem u57 : Cond.fieldLink RX2 36 "ScaleGroups$Order" "seconds" "[I" ∈ wsL_law := List.mem_of_getElem? (i := 57) (by decide +kernel)
set_option maxRecDepth 20000 in
theorem u58 : Cond.fieldLink RX2 39 "ScaleGroups$Order" "parts" "[I" ∈ wsL_law := List.mem_of_getElem? (i := 58) (by decide +kernel)
set_option maxRecDepth 20000 in
theorem u59 : Cond.fieldLink RX2 42 "ScaleGroups$Order" "firstSides" "[I" ∈ wsL_law := List.mem_of_getElem? (i := 59) (by decide +kernel)
set_option maxRecDepth 20000 in
theorem u60 : Cond.fieldLink RX2 45 "ScaleGroups$Order" "otherSides" "[I" ∈ wsL_law := List.mem_of_getElem? (i := 60) (by decide +kernel)
set_option maxRecDepth 20000 in
theorem u61 : Cond.fieldLink RX2 48 "ScaleGroups$Order" "joinsAbove" "[I" ∈ wsL_law := List.mem_of_getElem? (i := 61) (by decide +kernel)
set_option maxRecDepth 20000 in
theorem u62 : Cond.fieldLink RX2 51 "ScaleGroups$Order" "pointsAbove" "[I" ∈ wsL_law := List.mem_of_getElem? (i := 62) (by decide +kernel)
set_option maxRecDepth 20000 in
theorem u63 : Cond.fieldLink RX2 54 "ScaleGroups$Order" "pairs" "[J" ∈ wsL_law := List.mem_of_getElem? (i := 63) (by decide +kernel)
set_option maxRecDepth 20000 in
theorem u64 : Cond.fieldLink RX2 57 "ScaleGroups$Order" "links" "[J" ∈ wsL_law := List.mem_of_getElem? (i := 64) (by decide +kernel)
set_option maxRecDepth 20000 in
theorem u65 : Cond.fieldLink RX2 60 "ScaleGroups$Order" "nodes" "[I" ∈ wsL_law := List.mem_of_getElem? (i := 65) (by decide +kernel)
set_option maxRecDepth 20000 in
theorem u70 : Cond.fieldLink RX4 9 "ScaleGroups$Points" "count" "I" ∈ wsL_law := List.mem_of_getElem? (i := 70) (by decide +kernel)
set_option maxRecDepth 20000 in
theorem u71 : Cond.fieldLink RX4 15 "ScaleGroups$Points" "xs" "[I" ∈ wsL_law := List.mem_of_getElem? (i := 71) (by decide +kernel)
set_option maxRecDepth 20000 in
theorem u72 : Cond.fieldLink RX4 19 "ScaleGroups$Points" "ys" "[I" ∈ wsL_law := List.mem_of_getElem? (i := 72) (by decide +kernel)
set_option maxRecDepth 20000 in
theorem u73 : Cond.fieldLink RX4 22 "ScaleGroups$Points" "ws" "[I" ∈ wsL_law := List.mem_of_getElem? (i := 73) (by decide +kernel)
set_option maxRecDepth 20000 in
theorem u78 : Cond.fieldLink RX5 9 "ScaleGroups$Scale" "count" "I" ∈ wsL_law := List.mem_of_getElem? (i := 78) (by decide +kernel)
set_option maxRecDepth 20000 in
theorem u79 : Cond.fieldLink RX5 15 "ScaleGroups$Scale" "sets" "[I" ∈ wsL_law := List.mem_of_getElem? (i := 79) (by decide +kernel)
set_option maxRecDepth 20000 in
theorem u80 : Cond.fieldLink RX5 19 "ScaleGroups$Scale" "weights" "[I" ∈ wsL_law := List.mem_of_getElem? (i := 80) (by decide +kernel)
set_option maxRecDepth 20000 in
theorem u81 : Cond.fieldLink RX5 22 "ScaleGroups$Scale" "xs" "[I" ∈ wsL_law := List.mem_of_getElem? (i := 81) (by decide +kernel)
set_option maxRecDepth 20000 in
theorem u82 : Cond.fieldLink RX5 25 "ScaleGroups$Scale" "ys" "[I" ∈ wsL_law := List.mem_of_getElem? (i := 82) (by decide +kernel)
set_option maxRecDepth 20000 in
theorem u83 : Cond.fieldLink RX5 28 "ScaleGroups$Scale" "groupAt" "[I" ∈ wsL_law := List.mem_of_getElem? (i := 83) (by decide +kernel)
set_option maxRecDepth 20000 in
theorem u88 : Cond.fieldLink RX0 9 "ScaleGroups$Labels" "count" "I" ∈ wsL_law := List.mem_of_getElem? (i := 88) (by decide +kernel)
set_option maxRecDepth 20000 in
theorem u89 : Cond.fieldLink RX0 15 "ScaleGroups$Labels" "visible" "[I" ∈ wsL_law := List.mem_of_getElem? (i := 89) (by decide +kernel)
set_option maxRecDepth 20000 in
theorem u90 : Cond.fieldLink RX0 19 "ScaleGroups$Labels" "holders" "[I" ∈ wsL_law := List.mem_of_getElem? (i := 90) (by decide +kernel)
set_option maxRecDepth 20000 in
theorem u95 : Cond.fieldLink RX3 9 "ScaleGroups$Outline" "count" "I" ∈ wsL_law := List.mem_of_getElem? (i := 95) (by decide +kernel)
set_option maxRecDepth 20000 in
theorem u96 : Cond.fieldLink RX3 15 "ScaleGroups$Outline" "row" "[I" ∈ wsL_law := List.mem_of_getElem? (i := 96) (by decide +kernel)
set_option maxRecDepth 20000 in
theorem u102 : Cond.fieldLink RX7 11 "ScaleGroups$Ways" "far" "[[I" ∈ wsL_law := List.mem_of_getElem? (i := 102) (by decide +kernel)
set_option maxRecDepth 20000 in
theorem u107 : Cond.fieldLink RX1 9 "ScaleGroups$Lasting" "total" "I" ∈ wsL_law := List.mem_of_getElem? (i := 107) (by decide +kernel)
set_option maxRecDepth 20000 in
theorem u108 : Cond.fieldLink RX1 15 "ScaleGroups$Lasting" "count" "I" ∈ wsL_law := List.mem_of_getElem? (i := 108) (by decide +kernel)
set_option maxRecDepth 20000 in
theorem u109 : Cond.fieldLink RX1 18 "ScaleGroups$Lasting" "totals" "[I" ∈ wsL_law := List.mem_of_getElem? (i := 109) (by decide +kernel)
set_option maxRecDepth 20000 in
theorem u111 : Cond.fieldLink RX1 22 "ScaleGroups$Lasting" "open" "[Z" ∈ wsL_law := List.mem_of_getElem? (i := 111) (by decide +kernel)
set_option maxRecDepth 20000 in
theorem u112 : Cond.fieldLink RX1 26 "ScaleGroups$Lasting" "nodesByLeast" "[I" ∈ wsL_law := List.mem_of_getElem? (i := 112) (by decide +kernel)
set_option maxRecDepth 20000 in
theorem u117 : Cond.fieldLink RX9 7 "ScaleGroupsModel" "x" "[I" ∈ wsL_law := List.mem_of_getElem? (i := 117) (by decide +kernel)
set_option maxRecDepth 20000 in
theorem u118 : Cond.fieldLink RX9 13 "ScaleGroupsModel" "y" "[I" ∈ wsL_law := List.mem_of_getElem? (i := 118) (by decide +kernel)
set_option maxRecDepth 20000 in
theorem u119 : Cond.fieldLink RX9 16 "ScaleGroupsModel" "w" "[I" ∈ wsL_law := List.mem_of_getElem? (i := 119) (by decide +kernel)
set_option maxRecDepth 20000 in
theorem u120 : Cond.fieldLink RX9 19 "ScaleGroupsModel" "size" "I" ∈ wsL_law := List.mem_of_getElem? (i := 120) (by decide +kernel)
set_option maxRecDepth 20000 in
theorem u121 : Cond.fieldLink RX9 23 "ScaleGroupsModel" "first" "[I" ∈ wsL_law := List.mem_of_getElem? (i := 121) (by decide +kernel)
set_option maxRecDepth 20000 in
theorem u122 : Cond.fieldLink RX9 26 "ScaleGroupsModel" "second" "[I" ∈ wsL_law := List.mem_of_getElem? (i := 122) (by decide +kernel)
set_option maxRecDepth 20000 in
theorem u123 : Cond.fieldLink RX9 29 "ScaleGroupsModel" "wide" "[I" ∈ wsL_law := List.mem_of_getElem? (i := 123) (by decide +kernel)
set_option maxRecDepth 20000 in
theorem u124 : Cond.fieldLink RX9 32 "ScaleGroupsModel" "madeSet" "[I" ∈ wsL_law := List.mem_of_getElem? (i := 124) (by decide +kernel)
set_option maxRecDepth 20000 in
theorem u125 : Cond.fieldLink RX9 35 "ScaleGroupsModel" "oneSide" "[I" ∈ wsL_law := List.mem_of_getElem? (i := 125) (by decide +kernel)
set_option maxRecDepth 20000 in
theorem u126 : Cond.fieldLink RX9 38 "ScaleGroupsModel" "otherSide" "[I" ∈ wsL_law := List.mem_of_getElem? (i := 126) (by decide +kernel)
set_option maxRecDepth 20000 in
theorem u127 : Cond.fieldLink RX9 41 "ScaleGroupsModel" "aboveJoin" "[I" ∈ wsL_law := List.mem_of_getElem? (i := 127) (by decide +kernel)
set_option maxRecDepth 20000 in
theorem u128 : Cond.fieldLink RX9 44 "ScaleGroupsModel" "abovePoint" "[I" ∈ wsL_law := List.mem_of_getElem? (i := 128) (by decide +kernel)
set_option maxRecDepth 20000 in
theorem u129 : Cond.fieldLink RX9 47 "ScaleGroupsModel" "nodeOf" "[I" ∈ wsL_law := List.mem_of_getElem? (i := 129) (by decide +kernel)
set_option maxRecDepth 20000 in
theorem u130 : Cond.fieldLink RX9 50 "ScaleGroupsModel" "setOf" "[I" ∈ wsL_law := List.mem_of_getElem? (i := 130) (by decide +kernel)
set_option maxRecDepth 20000 in
theorem u131 : Cond.fieldLink RX9 53 "ScaleGroupsModel" "wasPlace" "[I" ∈ wsL_law := List.mem_of_getElem? (i := 131) (by decide +kernel)
set_option maxRecDepth 20000 in
theorem u132 : Cond.fieldLink RX9 56 "ScaleGroupsModel" "wasOne" "[I" ∈ wsL_law := List.mem_of_getElem? (i := 132) (by decide +kernel)
set_option maxRecDepth 20000 in
theorem u133 : Cond.fieldLink RX9 59 "ScaleGroupsModel" "wasOther" "[I" ∈ wsL_law := List.mem_of_getElem? (i := 133) (by decide +kernel)
set_option maxRecDepth 20000 in
theorem u134 : Cond.fieldLink RX9 62 "ScaleGroupsModel" "wasWide" "[I" ∈ wsL_law := List.mem_of_getElem? (i := 134) (by decide +kernel)
set_option maxRecDepth 20000 in
theorem u135 : Cond.fieldLink RX9 65 "ScaleGroupsModel" "way" "[I" ∈ wsL_law := List.mem_of_getElem? (i := 135) (by decide +kernel)
set_option maxRecDepth 20000 in
theorem u136 : Cond.fieldLink RX9 68 "ScaleGroupsModel" "partOf" "[I" ∈ wsL_law := List.mem_of_getElem? (i := 136) (by decide +kernel)
set_option maxRecDepth 20000 in
theorem u137 : Cond.fieldLink RX9 71 "ScaleGroupsModel" "corner" "[I" ∈ wsL_law := List.mem_of_getElem? (i := 137) (by decide +kernel)
set_option maxRecDepth 20000 in
theorem u138 : Cond.fieldLink RX9 74 "ScaleGroupsModel" "ahead" "[I" ∈ wsL_law := List.mem_of_getElem? (i := 138) (by decide +kernel)
set_option maxRecDepth 20000 in
theorem u139 : Cond.fieldLink RX9 77 "ScaleGroupsModel" "bestNode" "[I" ∈ wsL_law := List.mem_of_getElem? (i := 139) (by decide +kernel)
set_option maxRecDepth 20000 in
theorem u140 : Cond.fieldLink RX9 80 "ScaleGroupsModel" "ranked" "[I" ∈ wsL_law := List.mem_of_getElem? (i := 140) (by decide +kernel)
set_option maxRecDepth 20000 in
theorem u141 : Cond.fieldLink RX9 83 "ScaleGroupsModel" "shown" "[I" ∈ wsL_law := List.mem_of_getElem? (i := 141) (by decide +kernel)
set_option maxRecDepth 20000 in
theorem u142 : Cond.fieldLink RX9 86 "ScaleGroupsModel" "asideOne" "[I" ∈ wsL_law := List.mem_of_getElem? (i := 142) (by decide +kernel)
set_option maxRecDepth 20000 in
theorem u143 : Cond.fieldLink RX9 89 "ScaleGroupsModel" "asideOther" "[I" ∈ wsL_law := List.mem_of_getElem? (i := 143) (by decide +kernel)
set_option maxRecDepth 20000 in
theorem u144 : Cond.fieldLink RX9 92 "ScaleGroupsModel" "wasPart" "[I" ∈ wsL_law := List.mem_of_getElem? (i := 144) (by decide +kernel)
set_option maxRecDepth 20000 in
theorem u149 : Cond.fieldLink RX8 75 "ScaleGroups$Order" "points" "LScaleGroups$Points;" ∈ wsL_law := List.mem_of_getElem? (i := 149) (by decide +kernel)
set_option maxRecDepth 20000 in
theorem u150 : Cond.methodLink RX8 71 yX8_isWeight ∈ wsL_law := List.mem_of_getElem? (i := 150) (by decide +kernel)
set_option maxRecDepth 20000 in
theorem u151 : Cond.static yX8_isWeight ∈ wsL_law := List.mem_of_getElem? (i := 151) (by decide +kernel)
set_option maxRecDepth 20000 in
theorem u152 : Cond.code yX8_isWeight cX8_isWeight 1 (some .boolean) ∈ wsL_law := List.mem_of_getElem? (i := 152) (by decide +kernel)
set_option maxRecDepth 20000 in
theorem u153 : Cond.methodLink RX8 79 yX4_canCome ∈ wsL_law := List.mem_of_getElem? (i := 153) (by decide +kernel)
set_option maxRecDepth 20000 in
theorem u154 : Cond.instanceMethod yX4_canCome ∈ wsL_law := List.mem_of_getElem? (i := 154) (by decide +kernel)
set_option maxRecDepth 20000 in
theorem u155 : Cond.selects RX4 yX4_canCome yX4_canCome ∈ wsL_law := List.mem_of_getElem? (i := 155) (by decide +kernel)
set_option maxRecDepth 20000 in
theorem u156 : Cond.code yX4_canCome cX4_canCome 3 (some .boolean) ∈ wsL_law := List.mem_of_getElem? (i := 156) (by decide +kernel)
set_option maxRecDepth 20000 in
theorem u157 : Cond.methodLink RX4 25 yX4_find ∈ wsL_law := List.mem_of_getElem? (i := 157) (by decide +kernel)
set_option maxRecDepth 20000 in
theorem u158 : Cond.instanceMethod yX4_find ∈ wsL_law := List.mem_of_getElem? (i := 158) (by decide +kernel)
set_option maxRecDepth 20000 in
theorem u159 : Cond.selects RX4 yX4_find yX4_find ∈ wsL_law := List.mem_of_getElem? (i := 159) (by decide +kernel)
set_option maxRecDepth 20000 in
theorem u160 : Cond.code yX4_find cX4_find 4 (some .int) ∈ wsL_law := List.mem_of_getElem? (i := 160) (by decide +kernel)
set_option maxRecDepth 20000 in
theorem u161 : Cond.methodLink RX8 85 yX8_startRepair ∈ wsL_law := List.mem_of_getElem? (i := 161) (by decide +kernel)
set_option maxRecDepth 20000 in
theorem u162 : Cond.instanceMethod yX8_startRepair ∈ wsL_law := List.mem_of_getElem? (i := 162) (by decide +kernel)
set_option maxRecDepth 20000 in
theorem u163 : Cond.selects RX8 yX8_startRepair yX8_startRepair ∈ wsL_law := List.mem_of_getElem? (i := 163) (by decide +kernel)
set_option maxRecDepth 20000 in
theorem u164 : Cond.code yX8_startRepair cX8_startRepair 2 none ∈ wsL_law := List.mem_of_getElem? (i := 164) (by decide +kernel)
set_option maxRecDepth 20000 in
theorem u165 : Cond.methodLink RX8 335 yX4_copy ∈ wsL_law := List.mem_of_getElem? (i := 165) (by decide +kernel)
set_option maxRecDepth 20000 in
theorem u166 : Cond.instanceMethod yX4_copy ∈ wsL_law := List.mem_of_getElem? (i := 166) (by decide +kernel)
set_option maxRecDepth 20000 in
theorem u167 : Cond.selects RX4 yX4_copy yX4_copy ∈ wsL_law := List.mem_of_getElem? (i := 167) (by decide +kernel)
set_option maxRecDepth 20000 in
theorem u168 : Cond.code yX4_copy cX4_copy 3 none ∈ wsL_law := List.mem_of_getElem? (i := 168) (by decide +kernel)
set_option maxRecDepth 20000 in
theorem u169 : Cond.methodLink RX8 88 yX4_put ∈ wsL_law := List.mem_of_getElem? (i := 169) (by decide +kernel)
set_option maxRecDepth 20000 in
theorem u170 : Cond.instanceMethod yX4_put ∈ wsL_law := List.mem_of_getElem? (i := 170) (by decide +kernel)
set_option maxRecDepth 20000 in
theorem u171 : Cond.selects RX4 yX4_put yX4_put ∈ wsL_law := List.mem_of_getElem? (i := 171) (by decide +kernel)
set_option maxRecDepth 20000 in
theorem u172 : Cond.code yX4_put cX4_put 5 none ∈ wsL_law := List.mem_of_getElem? (i := 172) (by decide +kernel)
set_option maxRecDepth 20000 in
theorem u173 : Cond.methodLink RX4 29 yX4_move ∈ wsL_law := List.mem_of_getElem? (i := 173) (by decide +kernel)
set_option maxRecDepth 20000 in
theorem u174 : Cond.instanceMethod yX4_move ∈ wsL_law := List.mem_of_getElem? (i := 174) (by decide +kernel)
set_option maxRecDepth 20000 in
theorem u175 : Cond.selects RX4 yX4_move yX4_move ∈ wsL_law := List.mem_of_getElem? (i := 175) (by decide +kernel)
set_option maxRecDepth 20000 in
theorem u176 : Cond.code yX4_move cX4_move 3 none ∈ wsL_law := List.mem_of_getElem? (i := 176) (by decide +kernel)
set_option maxRecDepth 20000 in
theorem u177 : Cond.methodLink RX8 92 yX2_rebuild ∈ wsL_law := List.mem_of_getElem? (i := 177) (by decide +kernel)
set_option maxRecDepth 20000 in
theorem u178 : Cond.instanceMethod yX2_rebuild ∈ wsL_law := List.mem_of_getElem? (i := 178) (by decide +kernel)
set_option maxRecDepth 20000 in
theorem u179 : Cond.selects RX2 yX2_rebuild yX2_rebuild ∈ wsL_law := List.mem_of_getElem? (i := 179) (by decide +kernel)
set_option maxRecDepth 20000 in
theorem u180 : Cond.code yX2_rebuild cX2_rebuild 2 none ∈ wsL_law := List.mem_of_getElem? (i := 180) (by decide +kernel)
set_option maxRecDepth 20000 in
theorem u181 : Cond.fieldLink RX2 66 "ScaleGroups$Points" "count" "I" ∈ wsL_law := List.mem_of_getElem? (i := 181) (by decide +kernel)
set_option maxRecDepth 20000 in
theorem u182 : Cond.methodLink RX2 63 yX2_growTree ∈ wsL_law := List.mem_of_getElem? (i := 182) (by decide +kernel)
set_option maxRecDepth 20000 in
theorem u183 : Cond.instanceMethod yX2_growTree ∈ wsL_law := List.mem_of_getElem? (i := 183) (by decide +kernel)
set_option maxRecDepth 20000 in
theorem u184 : Cond.selects RX2 yX2_growTree yX2_growTree ∈ wsL_law := List.mem_of_getElem? (i := 184) (by decide +kernel)
set_option maxRecDepth 20000 in
theorem u185 : Cond.code yX2_growTree cX2_growTree 5 none ∈ wsL_law := List.mem_of_getElem? (i := 185) (by decide +kernel)
set_option maxRecDepth 20000 in
theorem u186 : Cond.methodLink RX2 89 Lib.MathLoose.min_long.x ∈ wsL_law := List.mem_of_getElem? (i := 186) (by decide +kernel)
set_option maxRecDepth 20000 in
theorem u187 : Cond.static Lib.MathLoose.min_long.x ∈ wsL_law := List.mem_of_getElem? (i := 187) (by decide +kernel)
set_option maxRecDepth 20000 in
theorem u188 : Cond.initialized "java/lang/Math" ∈ wsL_law := List.mem_of_getElem? (i := 188) (by decide +kernel)
set_option maxRecDepth 20000 in
theorem u189 : Cond.code Lib.MathLoose.min_long.x Lib.MathLoose.min_long.code 4 (some .long) ∈ wsL_law := List.mem_of_getElem? (i := 189) (by decide +kernel)
set_option maxRecDepth 20000 in
theorem u190 : Cond.methodLink RX2 71 yX2_keyOf ∈ wsL_law := List.mem_of_getElem? (i := 190) (by decide +kernel)
set_option maxRecDepth 20000 in
theorem u191 : Cond.instanceMethod yX2_keyOf ∈ wsL_law := List.mem_of_getElem? (i := 191) (by decide +kernel)
set_option maxRecDepth 20000 in
theorem u192 : Cond.selects RX2 yX2_keyOf yX2_keyOf ∈ wsL_law := List.mem_of_getElem? (i := 192) (by decide +kernel)
set_option maxRecDepth 20000 in
theorem u193 : Cond.code yX2_keyOf cX2_keyOf 3 (some .long) ∈ wsL_law := List.mem_of_getElem? (i := 193) (by decide +kernel)
set_option maxRecDepth 20000 in
theorem u194 : Cond.methodLink RX2 99 Lib.Math.min.name ∈ wsL_law := List.mem_of_getElem? (i := 194) (by decide +kernel)
set_option maxRecDepth 20000 in
theorem u195 : Cond.static Lib.Math.min.name ∈ wsL_law := List.mem_of_getElem? (i := 195) (by decide +kernel)
set_option maxRecDepth 20000 in
theorem u196 : Cond.code Lib.Math.min.name Lib.Math.min.code 2 (some .int) ∈ wsL_law := List.mem_of_getElem? (i := 196) (by decide +kernel)
set_option maxRecDepth 20000 in
theorem u197 : Cond.methodLink RX2 101 Lib.Math.max.name ∈ wsL_law := List.mem_of_getElem? (i := 197) (by decide +kernel)
set_option maxRecDepth 20000 in
theorem u198 : Cond.static Lib.Math.max.name ∈ wsL_law := List.mem_of_getElem? (i := 198) (by decide +kernel)
set_option maxRecDepth 20000 in
theorem u199 : Cond.code Lib.Math.max.name Lib.Math.max.code 2 (some .int) ∈ wsL_law := List.mem_of_getElem? (i := 199) (by decide +kernel)
set_option maxRecDepth 20000 in
theorem u200 : Cond.methodLink RX2 95 yX4_apart ∈ wsL_law := List.mem_of_getElem? (i := 200) (by decide +kernel)
set_option maxRecDepth 20000 in
theorem u201 : Cond.instanceMethod yX4_apart ∈ wsL_law := List.mem_of_getElem? (i := 201) (by decide +kernel)
set_option maxRecDepth 20000 in
theorem u202 : Cond.selects RX4 yX4_apart yX4_apart ∈ wsL_law := List.mem_of_getElem? (i := 202) (by decide +kernel)
set_option maxRecDepth 20000 in
theorem u203 : Cond.code yX4_apart cX4_apart 3 (some .int) ∈ wsL_law := List.mem_of_getElem? (i := 203) (by decide +kernel)
set_option maxRecDepth 20000 in
theorem u204 : Cond.methodLink RX4 33 yX4_squares ∈ wsL_law := List.mem_of_getElem? (i := 204) (by decide +kernel)
set_option maxRecDepth 20000 in
theorem u205 : Cond.instanceMethod yX4_squares ∈ wsL_law := List.mem_of_getElem? (i := 205) (by decide +kernel)
set_option maxRecDepth 20000 in
theorem u206 : Cond.selects RX4 yX4_squares yX4_squares ∈ wsL_law := List.mem_of_getElem? (i := 206) (by decide +kernel)
set_option maxRecDepth 20000 in
theorem u207 : Cond.code yX4_squares cX4_squares 6 (some .int) ∈ wsL_law := List.mem_of_getElem? (i := 207) (by decide +kernel)
set_option maxRecDepth 20000 in
theorem u208 : Cond.methodLink RX2 75 yX2_nextToGrow ∈ wsL_law := List.mem_of_getElem? (i := 208) (by decide +kernel)
set_option maxRecDepth 20000 in
theorem u209 : Cond.instanceMethod yX2_nextToGrow ∈ wsL_law := List.mem_of_getElem? (i := 209) (by decide +kernel)
set_option maxRecDepth 20000 in
theorem u210 : Cond.selects RX2 yX2_nextToGrow yX2_nextToGrow ∈ wsL_law := List.mem_of_getElem? (i := 210) (by decide +kernel)
set_option maxRecDepth 20000 in
theorem u211 : Cond.code yX2_nextToGrow cX2_nextToGrow 4 (some .int) ∈ wsL_law := List.mem_of_getElem? (i := 211) (by decide +kernel)
set_option maxRecDepth 20000 in
theorem u212 : Cond.methodLink RX2 83 yX6_has ∈ wsL_law := List.mem_of_getElem? (i := 212) (by decide +kernel)
set_option maxRecDepth 20000 in
theorem u213 : Cond.static yX6_has ∈ wsL_law := List.mem_of_getElem? (i := 213) (by decide +kernel)
set_option maxRecDepth 20000 in
theorem u214 : Cond.initialized RX6 ∈ wsL_law := List.mem_of_getElem? (i := 214) (by decide +kernel)
set_option maxRecDepth 20000 in
theorem u215 : Cond.code yX6_has cX6_has 2 (some .boolean) ∈ wsL_law := List.mem_of_getElem? (i := 215) (by decide +kernel)
set_option maxRecDepth 20000 in
theorem u216 : Cond.methodLink RX2 79 yX2_putKey ∈ wsL_law := List.mem_of_getElem? (i := 216) (by decide +kernel)
set_option maxRecDepth 20000 in
theorem u217 : Cond.instanceMethod yX2_putKey ∈ wsL_law := List.mem_of_getElem? (i := 217) (by decide +kernel)
set_option maxRecDepth 20000 in
theorem u218 : Cond.selects RX2 yX2_putKey yX2_putKey ∈ wsL_law := List.mem_of_getElem? (i := 218) (by decide +kernel)
set_option maxRecDepth 20000 in
theorem u219 : Cond.code yX2_putKey cX2_putKey 4 none ∈ wsL_law := List.mem_of_getElem? (i := 219) (by decide +kernel)
set_option maxRecDepth 20000 in
theorem u220 : Cond.methodLink RX2 67 yX2_makeJoin ∈ wsL_law := List.mem_of_getElem? (i := 220) (by decide +kernel)
set_option maxRecDepth 20000 in
theorem u221 : Cond.instanceMethod yX2_makeJoin ∈ wsL_law := List.mem_of_getElem? (i := 221) (by decide +kernel)
set_option maxRecDepth 20000 in
theorem u222 : Cond.selects RX2 yX2_makeJoin yX2_makeJoin ∈ wsL_law := List.mem_of_getElem? (i := 222) (by decide +kernel)
set_option maxRecDepth 20000 in
theorem u223 : Cond.code yX2_makeJoin cX2_makeJoin 5 none ∈ wsL_law := List.mem_of_getElem? (i := 223) (by decide +kernel)
set_option maxRecDepth 20000 in
theorem u224 : Cond.constantLong RX2 104 (31) ∈ wsL_law := List.mem_of_getElem? (i := 224) (by decide +kernel)
set_option maxRecDepth 20000 in
theorem u225 : Cond.methodLink RX2 106 yX6_root ∈ wsL_law := List.mem_of_getElem? (i := 225) (by decide +kernel)
set_option maxRecDepth 20000 in
theorem u226 : Cond.static yX6_root ∈ wsL_law := List.mem_of_getElem? (i := 226) (by decide +kernel)
set_option maxRecDepth 20000 in
theorem u227 : Cond.code yX6_root cX6_root 4 (some .int) ∈ wsL_law := List.mem_of_getElem? (i := 227) (by decide +kernel)
set_option maxRecDepth 20000 in
theorem u228 : Cond.methodLink RX2 109 yX2_placeOf ∈ wsL_law := List.mem_of_getElem? (i := 228) (by decide +kernel)
set_option maxRecDepth 20000 in
theorem u229 : Cond.instanceMethod yX2_placeOf ∈ wsL_law := List.mem_of_getElem? (i := 229) (by decide +kernel)
set_option maxRecDepth 20000 in
theorem u230 : Cond.selects RX2 yX2_placeOf yX2_placeOf ∈ wsL_law := List.mem_of_getElem? (i := 230) (by decide +kernel)
set_option maxRecDepth 20000 in
theorem u231 : Cond.code yX2_placeOf cX2_placeOf 2 (some .long) ∈ wsL_law := List.mem_of_getElem? (i := 231) (by decide +kernel)
set_option maxRecDepth 20000 in
theorem u232 : Cond.fieldLink RX2 120 "ScaleGroups$Points" "xs" "[I" ∈ wsL_law := List.mem_of_getElem? (i := 232) (by decide +kernel)
set_option maxRecDepth 20000 in
theorem u233 : Cond.fieldLink RX2 123 "ScaleGroups$Points" "ys" "[I" ∈ wsL_law := List.mem_of_getElem? (i := 233) (by decide +kernel)
set_option maxRecDepth 20000 in
theorem u234 : Cond.methodLink RX2 113 yX2_setOf ∈ wsL_law := List.mem_of_getElem? (i := 234) (by decide +kernel)
set_option maxRecDepth 20000 in
theorem u235 : Cond.instanceMethod yX2_setOf ∈ wsL_law := List.mem_of_getElem? (i := 235) (by decide +kernel)
set_option maxRecDepth 20000 in
theorem u236 : Cond.selects RX2 yX2_setOf yX2_setOf ∈ wsL_law := List.mem_of_getElem? (i := 236) (by decide +kernel)
set_option maxRecDepth 20000 in
theorem u237 : Cond.code yX2_setOf cX2_setOf 3 (some .int) ∈ wsL_law := List.mem_of_getElem? (i := 237) (by decide +kernel)
set_option maxRecDepth 20000 in
theorem u238 : Cond.methodLink RX2 126 yX2_joinOf ∈ wsL_law := List.mem_of_getElem? (i := 238) (by decide +kernel)
set_option maxRecDepth 20000 in
theorem u239 : Cond.static yX2_joinOf ∈ wsL_law := List.mem_of_getElem? (i := 239) (by decide +kernel)
set_option maxRecDepth 20000 in
theorem u240 : Cond.code yX2_joinOf cX2_joinOf 1 (some .int) ∈ wsL_law := List.mem_of_getElem? (i := 240) (by decide +kernel)
set_option maxRecDepth 20000 in
theorem u241 : Cond.methodLink RX2 116 yX2_putBelow ∈ wsL_law := List.mem_of_getElem? (i := 241) (by decide +kernel)
set_option maxRecDepth 20000 in
theorem u242 : Cond.instanceMethod yX2_putBelow ∈ wsL_law := List.mem_of_getElem? (i := 242) (by decide +kernel)
set_option maxRecDepth 20000 in
theorem u243 : Cond.selects RX2 yX2_putBelow yX2_putBelow ∈ wsL_law := List.mem_of_getElem? (i := 243) (by decide +kernel)
set_option maxRecDepth 20000 in
theorem u244 : Cond.code yX2_putBelow cX2_putBelow 4 none ∈ wsL_law := List.mem_of_getElem? (i := 244) (by decide +kernel)
set_option maxRecDepth 20000 in
theorem u245 : Cond.methodLink RX8 95 yX2_countUnlike ∈ wsL_law := List.mem_of_getElem? (i := 245) (by decide +kernel)
set_option maxRecDepth 20000 in
theorem u246 : Cond.instanceMethod yX2_countUnlike ∈ wsL_law := List.mem_of_getElem? (i := 246) (by decide +kernel)
set_option maxRecDepth 20000 in
theorem u247 : Cond.selects RX2 yX2_countUnlike yX2_countUnlike ∈ wsL_law := List.mem_of_getElem? (i := 247) (by decide +kernel)
set_option maxRecDepth 20000 in
theorem u248 : Cond.code yX2_countUnlike cX2_countUnlike 4 (some .int) ∈ wsL_law := List.mem_of_getElem? (i := 248) (by decide +kernel)
set_option maxRecDepth 20000 in
theorem u249 : Cond.methodLink RX2 139 yX2_hasPair ∈ wsL_law := List.mem_of_getElem? (i := 249) (by decide +kernel)
set_option maxRecDepth 20000 in
theorem u250 : Cond.instanceMethod yX2_hasPair ∈ wsL_law := List.mem_of_getElem? (i := 250) (by decide +kernel)
set_option maxRecDepth 20000 in
theorem u251 : Cond.selects RX2 yX2_hasPair yX2_hasPair ∈ wsL_law := List.mem_of_getElem? (i := 251) (by decide +kernel)
set_option maxRecDepth 20000 in
theorem u252 : Cond.code yX2_hasPair cX2_hasPair 4 (some .boolean) ∈ wsL_law := List.mem_of_getElem? (i := 252) (by decide +kernel)
set_option maxRecDepth 20000 in
theorem u257 : Cond.fieldLink RX9 95 "ScaleGroupsModel" "told" "I" ∈ wsL_law := List.mem_of_getElem? (i := 257) (by decide +kernel)
set_option maxRecDepth 20000 in
theorem u258 : Cond.constantLong RX9 167 (99) ∈ wsL_law := List.mem_of_getElem? (i := 258) (by decide +kernel)
set_option maxRecDepth 20000 in
theorem u259 : Cond.methodLink RX9 164 yX9_canCome ∈ wsL_law := List.mem_of_getElem? (i := 259) (by decide +kernel)
set_option maxRecDepth 20000 in
theorem u260 : Cond.instanceMethod yX9_canCome ∈ wsL_law := List.mem_of_getElem? (i := 260) (by decide +kernel)
set_option maxRecDepth 20000 in
theorem u261 : Cond.selects RX9 yX9_canCome yX9_canCome ∈ wsL_law := List.mem_of_getElem? (i := 261) (by decide +kernel)
set_option maxRecDepth 20000 in
theorem u262 : Cond.code yX9_canCome cX9_canCome 3 (some .boolean) ∈ wsL_law := List.mem_of_getElem? (i := 262) (by decide +kernel)
set_option maxRecDepth 20000 in
theorem u263 : Cond.fieldLink RX9 98 "ScaleGroupsModel" "n" "I" ∈ wsL_law := List.mem_of_getElem? (i := 263) (by decide +kernel)
set_option maxRecDepth 20000 in
theorem u264 : Cond.constantLong RX9 159 (1023) ∈ wsL_law := List.mem_of_getElem? (i := 264) (by decide +kernel)
set_option maxRecDepth 20000 in
theorem u265 : Cond.methodLink RX9 101 yX9_isIn ∈ wsL_law := List.mem_of_getElem? (i := 265) (by decide +kernel)
set_option maxRecDepth 20000 in
theorem u266 : Cond.instanceMethod yX9_isIn ∈ wsL_law := List.mem_of_getElem? (i := 266) (by decide +kernel)
set_option maxRecDepth 20000 in
theorem u267 : Cond.selects RX9 yX9_isIn yX9_isIn ∈ wsL_law := List.mem_of_getElem? (i := 267) (by decide +kernel)
set_option maxRecDepth 20000 in
theorem u268 : Cond.code yX9_isIn cX9_isIn 7 (some .boolean) ∈ wsL_law := List.mem_of_getElem? (i := 268) (by decide +kernel)
set_option maxRecDepth 20000 in
theorem u269 : Cond.methodLink RX9 161 yX9_pointAt ∈ wsL_law := List.mem_of_getElem? (i := 269) (by decide +kernel)
set_option maxRecDepth 20000 in
theorem u270 : Cond.instanceMethod yX9_pointAt ∈ wsL_law := List.mem_of_getElem? (i := 270) (by decide +kernel)
set_option maxRecDepth 20000 in
theorem u271 : Cond.selects RX9 yX9_pointAt yX9_pointAt ∈ wsL_law := List.mem_of_getElem? (i := 271) (by decide +kernel)
set_option maxRecDepth 20000 in
theorem u272 : Cond.code yX9_pointAt cX9_pointAt 4 (some .int) ∈ wsL_law := List.mem_of_getElem? (i := 272) (by decide +kernel)
set_option maxRecDepth 20000 in
theorem u273 : Cond.methodLink RX9 169 yX9_keeps ∈ wsL_law := List.mem_of_getElem? (i := 273) (by decide +kernel)
set_option maxRecDepth 20000 in
theorem u274 : Cond.instanceMethod yX9_keeps ∈ wsL_law := List.mem_of_getElem? (i := 274) (by decide +kernel)
set_option maxRecDepth 20000 in
theorem u275 : Cond.selects RX9 yX9_keeps yX9_keeps ∈ wsL_law := List.mem_of_getElem? (i := 275) (by decide +kernel)
set_option maxRecDepth 20000 in
theorem u276 : Cond.code yX9_keeps cX9_keeps 2 none ∈ wsL_law := List.mem_of_getElem? (i := 276) (by decide +kernel)
set_option maxRecDepth 20000 in
theorem u277 : Cond.fieldLink RX9 138 "ScaleGroupsModel" "wasMany" "I" ∈ wsL_law := List.mem_of_getElem? (i := 277) (by decide +kernel)
set_option maxRecDepth 20000 in
theorem u278 : Cond.fieldLink RX9 145 "ScaleGroupsModel" "isRepaired" "Z" ∈ wsL_law := List.mem_of_getElem? (i := 278) (by decide +kernel)
set_option maxRecDepth 20000 in
theorem u279 : Cond.methodLink RX9 141 yX9_placeOf ∈ wsL_law := List.mem_of_getElem? (i := 279) (by decide +kernel)
set_option maxRecDepth 20000 in
theorem u280 : Cond.instanceMethod yX9_placeOf ∈ wsL_law := List.mem_of_getElem? (i := 280) (by decide +kernel)
set_option maxRecDepth 20000 in
theorem u281 : Cond.selects RX9 yX9_placeOf yX9_placeOf ∈ wsL_law := List.mem_of_getElem? (i := 281) (by decide +kernel)
set_option maxRecDepth 20000 in
theorem u282 : Cond.code yX9_placeOf cX9_placeOf 2 (some .int) ∈ wsL_law := List.mem_of_getElem? (i := 282) (by decide +kernel)
set_option maxRecDepth 20000 in
theorem u283 : Cond.methodLink RX9 119 yX9_joins ∈ wsL_law := List.mem_of_getElem? (i := 283) (by decide +kernel)
set_option maxRecDepth 20000 in
theorem u284 : Cond.instanceMethod yX9_joins ∈ wsL_law := List.mem_of_getElem? (i := 284) (by decide +kernel)
set_option maxRecDepth 20000 in
theorem u285 : Cond.selects RX9 yX9_joins yX9_joins ∈ wsL_law := List.mem_of_getElem? (i := 285) (by decide +kernel)
set_option maxRecDepth 20000 in
theorem u286 : Cond.code yX9_joins cX9_joins 1 (some .int) ∈ wsL_law := List.mem_of_getElem? (i := 286) (by decide +kernel)
set_option maxRecDepth 20000 in
theorem u287 : Cond.methodLink RX9 172 yX9_comes ∈ wsL_law := List.mem_of_getElem? (i := 287) (by decide +kernel)
set_option maxRecDepth 20000 in
theorem u288 : Cond.instanceMethod yX9_comes ∈ wsL_law := List.mem_of_getElem? (i := 288) (by decide +kernel)
set_option maxRecDepth 20000 in
theorem u289 : Cond.selects RX9 yX9_comes yX9_comes ∈ wsL_law := List.mem_of_getElem? (i := 289) (by decide +kernel)
set_option maxRecDepth 20000 in
theorem u290 : Cond.code yX9_comes cX9_comes 5 none ∈ wsL_law := List.mem_of_getElem? (i := 290) (by decide +kernel)
set_option maxRecDepth 20000 in
theorem u291 : Cond.methodLink RX9 176 yX9_laysTree ∈ wsL_law := List.mem_of_getElem? (i := 291) (by decide +kernel)
set_option maxRecDepth 20000 in
theorem u292 : Cond.instanceMethod yX9_laysTree ∈ wsL_law := List.mem_of_getElem? (i := 292) (by decide +kernel)
set_option maxRecDepth 20000 in
theorem u293 : Cond.selects RX9 yX9_laysTree yX9_laysTree ∈ wsL_law := List.mem_of_getElem? (i := 293) (by decide +kernel)
set_option maxRecDepth 20000 in
theorem u294 : Cond.code yX9_laysTree cX9_laysTree 7 none ∈ wsL_law := List.mem_of_getElem? (i := 294) (by decide +kernel)
set_option maxRecDepth 20000 in
theorem u295 : Cond.methodLink RX9 111 Lib.Math.min.name ∈ wsL_law := List.mem_of_getElem? (i := 295) (by decide +kernel)
set_option maxRecDepth 20000 in
theorem u296 : Cond.methodLink RX9 116 Lib.Math.max.name ∈ wsL_law := List.mem_of_getElem? (i := 296) (by decide +kernel)
set_option maxRecDepth 20000 in
theorem u297 : Cond.methodLink RX9 123 yX9_has ∈ wsL_law := List.mem_of_getElem? (i := 297) (by decide +kernel)
set_option maxRecDepth 20000 in
theorem u298 : Cond.instanceMethod yX9_has ∈ wsL_law := List.mem_of_getElem? (i := 298) (by decide +kernel)
set_option maxRecDepth 20000 in
theorem u299 : Cond.selects RX9 yX9_has yX9_has ∈ wsL_law := List.mem_of_getElem? (i := 299) (by decide +kernel)
set_option maxRecDepth 20000 in
theorem u300 : Cond.code yX9_has cX9_has 3 (some .boolean) ∈ wsL_law := List.mem_of_getElem? (i := 300) (by decide +kernel)
set_option maxRecDepth 20000 in
theorem u301 : Cond.methodLink RX9 127 yX9_isSooner ∈ wsL_law := List.mem_of_getElem? (i := 301) (by decide +kernel)
set_option maxRecDepth 20000 in
theorem u302 : Cond.instanceMethod yX9_isSooner ∈ wsL_law := List.mem_of_getElem? (i := 302) (by decide +kernel)
set_option maxRecDepth 20000 in
theorem u303 : Cond.selects RX9 yX9_isSooner yX9_isSooner ∈ wsL_law := List.mem_of_getElem? (i := 303) (by decide +kernel)
set_option maxRecDepth 20000 in
theorem u304 : Cond.code yX9_isSooner cX9_isSooner 7 (some .boolean) ∈ wsL_law := List.mem_of_getElem? (i := 304) (by decide +kernel)
set_option maxRecDepth 20000 in
theorem u305 : Cond.methodLink RX9 107 yX9_apart ∈ wsL_law := List.mem_of_getElem? (i := 305) (by decide +kernel)
set_option maxRecDepth 20000 in
theorem u306 : Cond.instanceMethod yX9_apart ∈ wsL_law := List.mem_of_getElem? (i := 306) (by decide +kernel)
set_option maxRecDepth 20000 in
theorem u307 : Cond.selects RX9 yX9_apart yX9_apart ∈ wsL_law := List.mem_of_getElem? (i := 307) (by decide +kernel)
set_option maxRecDepth 20000 in
theorem u308 : Cond.code yX9_apart cX9_apart 3 (some .int) ∈ wsL_law := List.mem_of_getElem? (i := 308) (by decide +kernel)
set_option maxRecDepth 20000 in
theorem u309 : Cond.methodLink RX9 131 yX9_laysSides ∈ wsL_law := List.mem_of_getElem? (i := 309) (by decide +kernel)
set_option maxRecDepth 20000 in
theorem u310 : Cond.instanceMethod yX9_laysSides ∈ wsL_law := List.mem_of_getElem? (i := 310) (by decide +kernel)
set_option maxRecDepth 20000 in
theorem u311 : Cond.selects RX9 yX9_laysSides yX9_laysSides ∈ wsL_law := List.mem_of_getElem? (i := 311) (by decide +kernel)
set_option maxRecDepth 20000 in
theorem u312 : Cond.code yX9_laysSides cX9_laysSides 3 none ∈ wsL_law := List.mem_of_getElem? (i := 312) (by decide +kernel)
set_option maxRecDepth 20000 in
theorem u313 : Cond.methodLink RX9 134 yX9_puts ∈ wsL_law := List.mem_of_getElem? (i := 313) (by decide +kernel)
set_option maxRecDepth 20000 in
theorem u314 : Cond.instanceMethod yX9_puts ∈ wsL_law := List.mem_of_getElem? (i := 314) (by decide +kernel)
set_option maxRecDepth 20000 in
theorem u315 : Cond.selects RX9 yX9_puts yX9_puts ∈ wsL_law := List.mem_of_getElem? (i := 315) (by decide +kernel)
set_option maxRecDepth 20000 in
theorem u316 : Cond.code yX9_puts cX9_puts 3 none ∈ wsL_law := List.mem_of_getElem? (i := 316) (by decide +kernel)
set_option maxRecDepth 20000 in
theorem u317 : Cond.methodLink RX9 179 yX9_newOnes ∈ wsL_law := List.mem_of_getElem? (i := 317) (by decide +kernel)
set_option maxRecDepth 20000 in
theorem u318 : Cond.instanceMethod yX9_newOnes ∈ wsL_law := List.mem_of_getElem? (i := 318) (by decide +kernel)
set_option maxRecDepth 20000 in
theorem u319 : Cond.selects RX9 yX9_newOnes yX9_newOnes ∈ wsL_law := List.mem_of_getElem? (i := 319) (by decide +kernel)
set_option maxRecDepth 20000 in
theorem u320 : Cond.code yX9_newOnes cX9_newOnes 3 (some .int) ∈ wsL_law := List.mem_of_getElem? (i := 320) (by decide +kernel)
set_option maxRecDepth 20000 in
theorem u321 : Cond.methodLink RX9 155 yX9_isNew ∈ wsL_law := List.mem_of_getElem? (i := 321) (by decide +kernel)
set_option maxRecDepth 20000 in
theorem u322 : Cond.instanceMethod yX9_isNew ∈ wsL_law := List.mem_of_getElem? (i := 322) (by decide +kernel)
set_option maxRecDepth 20000 in
theorem u323 : Cond.selects RX9 yX9_isNew yX9_isNew ∈ wsL_law := List.mem_of_getElem? (i := 323) (by decide +kernel)
set_option maxRecDepth 20000 in
theorem u324 : Cond.code yX9_isNew cX9_isNew 3 (some .boolean) ∈ wsL_law := List.mem_of_getElem? (i := 324) (by decide +kernel)
set_option maxRecDepth 20000 in
theorem u325 : Cond.methodLink RX9 149 yX9_wasJoins ∈ wsL_law := List.mem_of_getElem? (i := 325) (by decide +kernel)
set_option maxRecDepth 20000 in
theorem u326 : Cond.instanceMethod yX9_wasJoins ∈ wsL_law := List.mem_of_getElem? (i := 326) (by decide +kernel)
set_option maxRecDepth 20000 in
theorem u327 : Cond.selects RX9 yX9_wasJoins yX9_wasJoins ∈ wsL_law := List.mem_of_getElem? (i := 327) (by decide +kernel)
set_option maxRecDepth 20000 in
theorem u328 : Cond.code yX9_wasJoins cX9_wasJoins 1 (some .int) ∈ wsL_law := List.mem_of_getElem? (i := 328) (by decide +kernel)
set_option maxRecDepth 20000 in
theorem u329 : Cond.methodLink RX9 152 yX9_areSame ∈ wsL_law := List.mem_of_getElem? (i := 329) (by decide +kernel)
set_option maxRecDepth 20000 in
theorem u330 : Cond.instanceMethod yX9_areSame ∈ wsL_law := List.mem_of_getElem? (i := 330) (by decide +kernel)
set_option maxRecDepth 20000 in
theorem u331 : Cond.selects RX9 yX9_areSame yX9_areSame ∈ wsL_law := List.mem_of_getElem? (i := 331) (by decide +kernel)
set_option maxRecDepth 20000 in
theorem u332 : Cond.code yX9_areSame cX9_areSame 5 (some .boolean) ∈ wsL_law := List.mem_of_getElem? (i := 332) (by decide +kernel)
set_option maxRecDepth 20000 in
theorem u337 : Cond.methodLink RX8 99 yX8_isPoint ∈ wsL_law := List.mem_of_getElem? (i := 337) (by decide +kernel)
set_option maxRecDepth 20000 in
theorem u338 : Cond.instanceMethod yX8_isPoint ∈ wsL_law := List.mem_of_getElem? (i := 338) (by decide +kernel)
set_option maxRecDepth 20000 in
theorem u339 : Cond.selects RX8 yX8_isPoint yX8_isPoint ∈ wsL_law := List.mem_of_getElem? (i := 339) (by decide +kernel)
set_option maxRecDepth 20000 in
theorem u340 : Cond.code yX8_isPoint cX8_isPoint 2 (some .boolean) ∈ wsL_law := List.mem_of_getElem? (i := 340) (by decide +kernel)
set_option maxRecDepth 20000 in
theorem u341 : Cond.fieldLink RX8 113 "ScaleGroups$Points" "count" "I" ∈ wsL_law := List.mem_of_getElem? (i := 341) (by decide +kernel)
set_option maxRecDepth 20000 in
theorem u342 : Cond.methodLink RX8 102 yX4_drop ∈ wsL_law := List.mem_of_getElem? (i := 342) (by decide +kernel)
set_option maxRecDepth 20000 in
theorem u343 : Cond.instanceMethod yX4_drop ∈ wsL_law := List.mem_of_getElem? (i := 343) (by decide +kernel)
set_option maxRecDepth 20000 in
theorem u344 : Cond.selects RX4 yX4_drop yX4_drop ∈ wsL_law := List.mem_of_getElem? (i := 344) (by decide +kernel)
set_option maxRecDepth 20000 in
theorem u345 : Cond.code yX4_drop cX4_drop 3 none ∈ wsL_law := List.mem_of_getElem? (i := 345) (by decide +kernel)
set_option maxRecDepth 20000 in
theorem u350 : Cond.methodLink RX9 182 yX9_isPoint ∈ wsL_law := List.mem_of_getElem? (i := 350) (by decide +kernel)
set_option maxRecDepth 20000 in
theorem u351 : Cond.instanceMethod yX9_isPoint ∈ wsL_law := List.mem_of_getElem? (i := 351) (by decide +kernel)
set_option maxRecDepth 20000 in
theorem u352 : Cond.selects RX9 yX9_isPoint yX9_isPoint ∈ wsL_law := List.mem_of_getElem? (i := 352) (by decide +kernel)
set_option maxRecDepth 20000 in
theorem u353 : Cond.code yX9_isPoint cX9_isPoint 2 (some .boolean) ∈ wsL_law := List.mem_of_getElem? (i := 353) (by decide +kernel)
set_option maxRecDepth 20000 in
theorem u354 : Cond.methodLink RX9 185 yX9_goes ∈ wsL_law := List.mem_of_getElem? (i := 354) (by decide +kernel)
set_option maxRecDepth 20000 in
theorem u355 : Cond.instanceMethod yX9_goes ∈ wsL_law := List.mem_of_getElem? (i := 355) (by decide +kernel)
set_option maxRecDepth 20000 in
theorem u356 : Cond.selects RX9 yX9_goes yX9_goes ∈ wsL_law := List.mem_of_getElem? (i := 356) (by decide +kernel)
set_option maxRecDepth 20000 in
theorem u357 : Cond.code yX9_goes cX9_goes 3 none ∈ wsL_law := List.mem_of_getElem? (i := 357) (by decide +kernel)
set_option maxRecDepth 20000 in
theorem u362 : Cond.fieldLink RX8 106 "ScaleGroups$Points" "ws" "[I" ∈ wsL_law := List.mem_of_getElem? (i := 362) (by decide +kernel)
set_option maxRecDepth 20000 in
theorem u371 : Cond.methodLink RX8 109 yX8_draw ∈ wsL_law := List.mem_of_getElem? (i := 371) (by decide +kernel)
set_option maxRecDepth 20000 in
theorem u372 : Cond.instanceMethod yX8_draw ∈ wsL_law := List.mem_of_getElem? (i := 372) (by decide +kernel)
set_option maxRecDepth 20000 in
theorem u373 : Cond.selects RX8 yX8_draw yX8_draw ∈ wsL_law := List.mem_of_getElem? (i := 373) (by decide +kernel)
set_option maxRecDepth 20000 in
theorem u374 : Cond.code yX8_draw cX8_draw 2 (some .int) ∈ wsL_law := List.mem_of_getElem? (i := 374) (by decide +kernel)
set_option maxRecDepth 20000 in
theorem u375 : Cond.constant RX8 351 (1664525) ∈ wsL_law := List.mem_of_getElem? (i := 375) (by decide +kernel)
set_option maxRecDepth 20000 in
theorem u376 : Cond.constant RX8 352 (1013904223) ∈ wsL_law := List.mem_of_getElem? (i := 376) (by decide +kernel)
set_option maxRecDepth 20000 in
theorem u381 : Cond.constantLong RX9 194 (24) ∈ wsL_law := List.mem_of_getElem? (i := 381) (by decide +kernel)
set_option maxRecDepth 20000 in
theorem u382 : Cond.methodLink RX9 196 yX9_draw ∈ wsL_law := List.mem_of_getElem? (i := 382) (by decide +kernel)
set_option maxRecDepth 20000 in
theorem u383 : Cond.instanceMethod yX9_draw ∈ wsL_law := List.mem_of_getElem? (i := 383) (by decide +kernel)
set_option maxRecDepth 20000 in
theorem u384 : Cond.selects RX9 yX9_draw yX9_draw ∈ wsL_law := List.mem_of_getElem? (i := 384) (by decide +kernel)
set_option maxRecDepth 20000 in
theorem u385 : Cond.code yX9_draw cX9_draw 2 (some .int) ∈ wsL_law := List.mem_of_getElem? (i := 385) (by decide +kernel)
set_option maxRecDepth 20000 in
theorem u386 : Cond.constant RX9 189 (1664525) ∈ wsL_law := List.mem_of_getElem? (i := 386) (by decide +kernel)
set_option maxRecDepth 20000 in
theorem u387 : Cond.fieldLink RX9 190 "ScaleGroupsModel" "state" "I" ∈ wsL_law := List.mem_of_getElem? (i := 387) (by decide +kernel)
set_option maxRecDepth 20000 in
theorem u388 : Cond.constant RX9 193 (1013904223) ∈ wsL_law := List.mem_of_getElem? (i := 388) (by decide +kernel)
set_option maxRecDepth 20000 in
theorem u413 : Cond.constantLong RX9 199 (999) ∈ wsL_law := List.mem_of_getElem? (i := 413) (by decide +kernel)
set_option maxRecDepth 20000 in
theorem u418 : Cond.fieldLink RX8 116 "ScaleGroups$Points" "xs" "[I" ∈ wsL_law := List.mem_of_getElem? (i := 418) (by decide +kernel)
set_option maxRecDepth 20000 in
theorem u419 : Cond.fieldLink RX8 119 "ScaleGroups$Points" "ys" "[I" ∈ wsL_law := List.mem_of_getElem? (i := 419) (by decide +kernel)
set_option maxRecDepth 20000 in
theorem u420 : Cond.methodLink RX8 122 yX4_nearestTo ∈ wsL_law := List.mem_of_getElem? (i := 420) (by decide +kernel)
set_option maxRecDepth 20000 in
theorem u421 : Cond.instanceMethod yX4_nearestTo ∈ wsL_law := List.mem_of_getElem? (i := 421) (by decide +kernel)
set_option maxRecDepth 20000 in
theorem u422 : Cond.selects RX4 yX4_nearestTo yX4_nearestTo ∈ wsL_law := List.mem_of_getElem? (i := 422) (by decide +kernel)
set_option maxRecDepth 20000 in
theorem u423 : Cond.code yX4_nearestTo cX4_nearestTo 5 (some .int) ∈ wsL_law := List.mem_of_getElem? (i := 423) (by decide +kernel)
set_option maxRecDepth 20000 in
theorem u424 : Cond.methodLink RX4 37 yX4_apart ∈ wsL_law := List.mem_of_getElem? (i := 424) (by decide +kernel)
set_option maxRecDepth 20000 in
theorem u425 : Cond.methodLink RX8 125 yX4_apartFromNearest ∈ wsL_law := List.mem_of_getElem? (i := 425) (by decide +kernel)
set_option maxRecDepth 20000 in
theorem u426 : Cond.instanceMethod yX4_apartFromNearest ∈ wsL_law := List.mem_of_getElem? (i := 426) (by decide +kernel)
set_option maxRecDepth 20000 in
theorem u427 : Cond.selects RX4 yX4_apartFromNearest yX4_apartFromNearest ∈ wsL_law := List.mem_of_getElem? (i := 427) (by decide +kernel)
set_option maxRecDepth 20000 in
theorem u428 : Cond.code yX4_apartFromNearest cX4_apartFromNearest 3 (some .int) ∈ wsL_law := List.mem_of_getElem? (i := 428) (by decide +kernel)
set_option maxRecDepth 20000 in
theorem u429 : Cond.methodLink RX4 40 yX4_nearestTo ∈ wsL_law := List.mem_of_getElem? (i := 429) (by decide +kernel)
set_option maxRecDepth 20000 in
theorem u430 : Cond.methodLink RX8 128 yX2_linksOf ∈ wsL_law := List.mem_of_getElem? (i := 430) (by decide +kernel)
set_option maxRecDepth 20000 in
theorem u431 : Cond.instanceMethod yX2_linksOf ∈ wsL_law := List.mem_of_getElem? (i := 431) (by decide +kernel)
set_option maxRecDepth 20000 in
theorem u432 : Cond.selects RX2 yX2_linksOf yX2_linksOf ∈ wsL_law := List.mem_of_getElem? (i := 432) (by decide +kernel)
set_option maxRecDepth 20000 in
theorem u433 : Cond.code yX2_linksOf cX2_linksOf 4 (some .int) ∈ wsL_law := List.mem_of_getElem? (i := 433) (by decide +kernel)
set_option maxRecDepth 20000 in
theorem u438 : Cond.methodLink RX9 201 yX9_linksOf ∈ wsL_law := List.mem_of_getElem? (i := 438) (by decide +kernel)
set_option maxRecDepth 20000 in
theorem u439 : Cond.instanceMethod yX9_linksOf ∈ wsL_law := List.mem_of_getElem? (i := 439) (by decide +kernel)
set_option maxRecDepth 20000 in
theorem u440 : Cond.selects RX9 yX9_linksOf yX9_linksOf ∈ wsL_law := List.mem_of_getElem? (i := 440) (by decide +kernel)
set_option maxRecDepth 20000 in
theorem u441 : Cond.code yX9_linksOf cX9_linksOf 4 (some .int) ∈ wsL_law := List.mem_of_getElem? (i := 441) (by decide +kernel)
set_option maxRecDepth 20000 in
theorem u442 : Cond.methodLink RX9 204 yX9_nearestOf ∈ wsL_law := List.mem_of_getElem? (i := 442) (by decide +kernel)
set_option maxRecDepth 20000 in
theorem u443 : Cond.instanceMethod yX9_nearestOf ∈ wsL_law := List.mem_of_getElem? (i := 443) (by decide +kernel)
set_option maxRecDepth 20000 in
theorem u444 : Cond.selects RX9 yX9_nearestOf yX9_nearestOf ∈ wsL_law := List.mem_of_getElem? (i := 444) (by decide +kernel)
set_option maxRecDepth 20000 in
theorem u445 : Cond.code yX9_nearestOf cX9_nearestOf 4 (some .int) ∈ wsL_law := List.mem_of_getElem? (i := 445) (by decide +kernel)
set_option maxRecDepth 20000 in
theorem u450 : Cond.methodLink RX8 131 yX4_find ∈ wsL_law := List.mem_of_getElem? (i := 450) (by decide +kernel)
set_option maxRecDepth 20000 in
theorem u459 : Cond.methodLink RX8 135 yX8_isNearPlace ∈ wsL_law := List.mem_of_getElem? (i := 459) (by decide +kernel)
set_option maxRecDepth 20000 in
theorem u460 : Cond.static yX8_isNearPlace ∈ wsL_law := List.mem_of_getElem? (i := 460) (by decide +kernel)
set_option maxRecDepth 20000 in
theorem u461 : Cond.code yX8_isNearPlace cX8_isNearPlace 1 (some .boolean) ∈ wsL_law := List.mem_of_getElem? (i := 461) (by decide +kernel)
set_option maxRecDepth 20000 in
theorem u462 : Cond.methodLink RX8 138 yX4_squares ∈ wsL_law := List.mem_of_getElem? (i := 462) (by decide +kernel)
set_option maxRecDepth 20000 in
theorem u463 : Cond.methodLink RX8 142 yX8_rankInRow ∈ wsL_law := List.mem_of_getElem? (i := 463) (by decide +kernel)
set_option maxRecDepth 20000 in
theorem u464 : Cond.instanceMethod yX8_rankInRow ∈ wsL_law := List.mem_of_getElem? (i := 464) (by decide +kernel)
set_option maxRecDepth 20000 in
theorem u465 : Cond.selects RX8 yX8_rankInRow yX8_rankInRow ∈ wsL_law := List.mem_of_getElem? (i := 465) (by decide +kernel)
set_option maxRecDepth 20000 in
theorem u466 : Cond.code yX8_rankInRow cX8_rankInRow 5 (some .int) ∈ wsL_law := List.mem_of_getElem? (i := 466) (by decide +kernel)
set_option maxRecDepth 20000 in
theorem u471 : Cond.constantLong RX9 207 (-9999) ∈ wsL_law := List.mem_of_getElem? (i := 471) (by decide +kernel)
set_option maxRecDepth 20000 in
theorem u472 : Cond.constantLong RX9 209 (9999) ∈ wsL_law := List.mem_of_getElem? (i := 472) (by decide +kernel)
set_option maxRecDepth 20000 in
theorem u473 : Cond.methodLink RX9 211 yX9_farFrom ∈ wsL_law := List.mem_of_getElem? (i := 473) (by decide +kernel)
set_option maxRecDepth 20000 in
theorem u474 : Cond.instanceMethod yX9_farFrom ∈ wsL_law := List.mem_of_getElem? (i := 474) (by decide +kernel)
set_option maxRecDepth 20000 in
theorem u475 : Cond.selects RX9 yX9_farFrom yX9_farFrom ∈ wsL_law := List.mem_of_getElem? (i := 475) (by decide +kernel)
set_option maxRecDepth 20000 in
theorem u476 : Cond.code yX9_farFrom cX9_farFrom 4 (some .int) ∈ wsL_law := List.mem_of_getElem? (i := 476) (by decide +kernel)
set_option maxRecDepth 20000 in
theorem u481 : Cond.fieldLink RX8 145 "ScaleGroups$Order" "count" "I" ∈ wsL_law := List.mem_of_getElem? (i := 481) (by decide +kernel)
set_option maxRecDepth 20000 in
theorem u482 : Cond.fieldLink RX8 146 "ScaleGroups$Order" "aparts" "[I" ∈ wsL_law := List.mem_of_getElem? (i := 482) (by decide +kernel)
set_option maxRecDepth 20000 in
theorem u483 : Cond.fieldLink RX8 149 "ScaleGroups$Order" "firsts" "[I" ∈ wsL_law := List.mem_of_getElem? (i := 483) (by decide +kernel)
set_option maxRecDepth 20000 in
theorem u484 : Cond.fieldLink RX8 152 "ScaleGroups$Order" "seconds" "[I" ∈ wsL_law := List.mem_of_getElem? (i := 484) (by decide +kernel)
set_option maxRecDepth 20000 in
theorem u485 : Cond.fieldLink RX8 155 "ScaleGroups$Order" "parts" "[I" ∈ wsL_law := List.mem_of_getElem? (i := 485) (by decide +kernel)
set_option maxRecDepth 20000 in
theorem u486 : Cond.fieldLink RX8 166 "ScaleGroups$Order" "firstSides" "[I" ∈ wsL_law := List.mem_of_getElem? (i := 486) (by decide +kernel)
set_option maxRecDepth 20000 in
theorem u487 : Cond.fieldLink RX8 169 "ScaleGroups$Order" "otherSides" "[I" ∈ wsL_law := List.mem_of_getElem? (i := 487) (by decide +kernel)
set_option maxRecDepth 20000 in
theorem u488 : Cond.fieldLink RX8 172 "ScaleGroups$Order" "joinsAbove" "[I" ∈ wsL_law := List.mem_of_getElem? (i := 488) (by decide +kernel)
set_option maxRecDepth 20000 in
theorem u489 : Cond.fieldLink RX8 178 "ScaleGroups$Order" "pairs" "[J" ∈ wsL_law := List.mem_of_getElem? (i := 489) (by decide +kernel)
set_option maxRecDepth 20000 in
theorem u490 : Cond.methodLink RX8 158 yJ6_bitCount_0f7a4 ∈ wsL_law := List.mem_of_getElem? (i := 490) (by decide +kernel)
set_option maxRecDepth 20000 in
theorem u491 : Cond.static yJ6_bitCount_0f7a4 ∈ wsL_law := List.mem_of_getElem? (i := 491) (by decide +kernel)
set_option maxRecDepth 20000 in
theorem u492 : Cond.initialized RJ6 ∈ wsL_law := List.mem_of_getElem? (i := 492) (by decide +kernel)
set_option maxRecDepth 20000 in
theorem u493 : Cond.code yJ6_bitCount_0f7a4 cJ6_bitCount_0f7a4 1 (some .int) ∈ wsL_law := List.mem_of_getElem? (i := 493) (by decide +kernel)
set_option maxRecDepth 20000 in
theorem u497 : Cond.methodLink RX8 163 yX4_weightOf ∈ wsL_law := List.mem_of_getElem? (i := 497) (by decide +kernel)
set_option maxRecDepth 20000 in
theorem u498 : Cond.instanceMethod yX4_weightOf ∈ wsL_law := List.mem_of_getElem? (i := 498) (by decide +kernel)
set_option maxRecDepth 20000 in
theorem u499 : Cond.selects RX4 yX4_weightOf yX4_weightOf ∈ wsL_law := List.mem_of_getElem? (i := 499) (by decide +kernel)
set_option maxRecDepth 20000 in
theorem u500 : Cond.code yX4_weightOf cX4_weightOf 4 (some .int) ∈ wsL_law := List.mem_of_getElem? (i := 500) (by decide +kernel)
set_option maxRecDepth 20000 in
theorem u501 : Cond.methodLink RX4 44 yX6_has ∈ wsL_law := List.mem_of_getElem? (i := 501) (by decide +kernel)
set_option maxRecDepth 20000 in
theorem u502 : Cond.methodLink RX8 175 yX2_lastsOf ∈ wsL_law := List.mem_of_getElem? (i := 502) (by decide +kernel)
set_option maxRecDepth 20000 in
theorem u503 : Cond.instanceMethod yX2_lastsOf ∈ wsL_law := List.mem_of_getElem? (i := 503) (by decide +kernel)
set_option maxRecDepth 20000 in
theorem u504 : Cond.selects RX2 yX2_lastsOf yX2_lastsOf ∈ wsL_law := List.mem_of_getElem? (i := 504) (by decide +kernel)
set_option maxRecDepth 20000 in
theorem u505 : Cond.code yX2_lastsOf cX2_lastsOf 3 (some .int) ∈ wsL_law := List.mem_of_getElem? (i := 505) (by decide +kernel)
set_option maxRecDepth 20000 in
theorem u506 : Cond.methodLink RX2 129 yX2_weightTill ∈ wsL_law := List.mem_of_getElem? (i := 506) (by decide +kernel)
set_option maxRecDepth 20000 in
theorem u507 : Cond.instanceMethod yX2_weightTill ∈ wsL_law := List.mem_of_getElem? (i := 507) (by decide +kernel)
set_option maxRecDepth 20000 in
theorem u508 : Cond.selects RX2 yX2_weightTill yX2_weightTill ∈ wsL_law := List.mem_of_getElem? (i := 508) (by decide +kernel)
set_option maxRecDepth 20000 in
theorem u509 : Cond.code yX2_weightTill cX2_weightTill 4 (some .int) ∈ wsL_law := List.mem_of_getElem? (i := 509) (by decide +kernel)
set_option maxRecDepth 20000 in
theorem u510 : Cond.methodLink RX2 133 yX4_weightOf ∈ wsL_law := List.mem_of_getElem? (i := 510) (by decide +kernel)
set_option maxRecDepth 20000 in
theorem u511 : Cond.methodLink RX8 182 yX2_hasPair ∈ wsL_law := List.mem_of_getElem? (i := 511) (by decide +kernel)
set_option maxRecDepth 20000 in
theorem u516 : Cond.methodLink RX9 221 yX9_isJoin ∈ wsL_law := List.mem_of_getElem? (i := 516) (by decide +kernel)
set_option maxRecDepth 20000 in
theorem u517 : Cond.instanceMethod yX9_isJoin ∈ wsL_law := List.mem_of_getElem? (i := 517) (by decide +kernel)
set_option maxRecDepth 20000 in
theorem u518 : Cond.selects RX9 yX9_isJoin yX9_isJoin ∈ wsL_law := List.mem_of_getElem? (i := 518) (by decide +kernel)
set_option maxRecDepth 20000 in
theorem u519 : Cond.code yX9_isJoin cX9_isJoin 2 (some .boolean) ∈ wsL_law := List.mem_of_getElem? (i := 519) (by decide +kernel)
set_option maxRecDepth 20000 in
theorem u520 : Cond.methodLink RX9 224 yX9_bits ∈ wsL_law := List.mem_of_getElem? (i := 520) (by decide +kernel)
set_option maxRecDepth 20000 in
theorem u521 : Cond.instanceMethod yX9_bits ∈ wsL_law := List.mem_of_getElem? (i := 521) (by decide +kernel)
set_option maxRecDepth 20000 in
theorem u522 : Cond.selects RX9 yX9_bits yX9_bits ∈ wsL_law := List.mem_of_getElem? (i := 522) (by decide +kernel)
set_option maxRecDepth 20000 in
theorem u523 : Cond.code yX9_bits cX9_bits 4 (some .int) ∈ wsL_law := List.mem_of_getElem? (i := 523) (by decide +kernel)
set_option maxRecDepth 20000 in
theorem u524 : Cond.methodLink RX9 215 yX9_weightOf ∈ wsL_law := List.mem_of_getElem? (i := 524) (by decide +kernel)
set_option maxRecDepth 20000 in
theorem u525 : Cond.instanceMethod yX9_weightOf ∈ wsL_law := List.mem_of_getElem? (i := 525) (by decide +kernel)
set_option maxRecDepth 20000 in
theorem u526 : Cond.selects RX9 yX9_weightOf yX9_weightOf ∈ wsL_law := List.mem_of_getElem? (i := 526) (by decide +kernel)
set_option maxRecDepth 20000 in
theorem u527 : Cond.code yX9_weightOf cX9_weightOf 4 (some .int) ∈ wsL_law := List.mem_of_getElem? (i := 527) (by decide +kernel)
set_option maxRecDepth 20000 in
theorem u528 : Cond.methodLink RX9 227 yX9_lasts ∈ wsL_law := List.mem_of_getElem? (i := 528) (by decide +kernel)
set_option maxRecDepth 20000 in
theorem u529 : Cond.instanceMethod yX9_lasts ∈ wsL_law := List.mem_of_getElem? (i := 529) (by decide +kernel)
set_option maxRecDepth 20000 in
theorem u530 : Cond.selects RX9 yX9_lasts yX9_lasts ∈ wsL_law := List.mem_of_getElem? (i := 530) (by decide +kernel)
set_option maxRecDepth 20000 in
theorem u531 : Cond.code yX9_lasts cX9_lasts 4 (some .int) ∈ wsL_law := List.mem_of_getElem? (i := 531) (by decide +kernel)
set_option maxRecDepth 20000 in
theorem u532 : Cond.methodLink RX9 218 yX9_root ∈ wsL_law := List.mem_of_getElem? (i := 532) (by decide +kernel)
set_option maxRecDepth 20000 in
theorem u533 : Cond.instanceMethod yX9_root ∈ wsL_law := List.mem_of_getElem? (i := 533) (by decide +kernel)
set_option maxRecDepth 20000 in
theorem u534 : Cond.selects RX9 yX9_root yX9_root ∈ wsL_law := List.mem_of_getElem? (i := 534) (by decide +kernel)
set_option maxRecDepth 20000 in
theorem u535 : Cond.code yX9_root cX9_root 3 (some .int) ∈ wsL_law := List.mem_of_getElem? (i := 535) (by decide +kernel)
set_option maxRecDepth 20000 in
theorem u537 : Cond.instanceMethod yX8_meets ∈ wsL_law := List.mem_of_getElem? (i := 537) (by decide +kernel)
set_option maxRecDepth 20000 in
theorem u538 : Cond.selects RX8 yX8_meets yX8_meets ∈ wsL_law := List.mem_of_getElem? (i := 538) (by decide +kernel)
set_option maxRecDepth 20000 in
theorem u539 : Cond.code yX8_meets cX8_meets 3 (some .int) ∈ wsL_law := List.mem_of_getElem? (i := 539) (by decide +kernel)
set_option maxRecDepth 20000 in
theorem u540 : Cond.methodLink RX8 186 yX2_meeting ∈ wsL_law := List.mem_of_getElem? (i := 540) (by decide +kernel)
set_option maxRecDepth 20000 in
theorem u541 : Cond.instanceMethod yX2_meeting ∈ wsL_law := List.mem_of_getElem? (i := 541) (by decide +kernel)
set_option maxRecDepth 20000 in
theorem u542 : Cond.selects RX2 yX2_meeting yX2_meeting ∈ wsL_law := List.mem_of_getElem? (i := 542) (by decide +kernel)
set_option maxRecDepth 20000 in
theorem u543 : Cond.code yX2_meeting cX2_meeting 4 (some .int) ∈ wsL_law := List.mem_of_getElem? (i := 543) (by decide +kernel)
set_option maxRecDepth 20000 in
theorem u552 : Cond.fieldLink RX8 193 "ScaleGroups$Ways" "far" "[[I" ∈ wsL_law := List.mem_of_getElem? (i := 552) (by decide +kernel)
set_option maxRecDepth 20000 in
theorem u553 : Cond.methodLink RX8 189 yX7_measure ∈ wsL_law := List.mem_of_getElem? (i := 553) (by decide +kernel)
set_option maxRecDepth 20000 in
theorem u554 : Cond.instanceMethod yX7_measure ∈ wsL_law := List.mem_of_getElem? (i := 554) (by decide +kernel)
set_option maxRecDepth 20000 in
theorem u555 : Cond.selects RX7 yX7_measure yX7_measure ∈ wsL_law := List.mem_of_getElem? (i := 555) (by decide +kernel)
set_option maxRecDepth 20000 in
theorem u556 : Cond.code yX7_measure cX7_measure 4 none ∈ wsL_law := List.mem_of_getElem? (i := 556) (by decide +kernel)
set_option maxRecDepth 20000 in
theorem u557 : Cond.fieldLink RX7 16 "ScaleGroups$Order" "points" "LScaleGroups$Points;" ∈ wsL_law := List.mem_of_getElem? (i := 557) (by decide +kernel)
set_option maxRecDepth 20000 in
theorem u558 : Cond.fieldLink RX7 22 "ScaleGroups$Points" "count" "I" ∈ wsL_law := List.mem_of_getElem? (i := 558) (by decide +kernel)
set_option maxRecDepth 20000 in
theorem u559 : Cond.fieldLink RX7 28 "ScaleGroups$Order" "count" "I" ∈ wsL_law := List.mem_of_getElem? (i := 559) (by decide +kernel)
set_option maxRecDepth 20000 in
theorem u560 : Cond.fieldLink RX7 29 "ScaleGroups$Order" "roots" "[I" ∈ wsL_law := List.mem_of_getElem? (i := 560) (by decide +kernel)
set_option maxRecDepth 20000 in
theorem u561 : Cond.methodLink RX7 33 yX7_link ∈ wsL_law := List.mem_of_getElem? (i := 561) (by decide +kernel)
set_option maxRecDepth 20000 in
theorem u562 : Cond.instanceMethod yX7_link ∈ wsL_law := List.mem_of_getElem? (i := 562) (by decide +kernel)
set_option maxRecDepth 20000 in
theorem u563 : Cond.selects RX7 yX7_link yX7_link ∈ wsL_law := List.mem_of_getElem? (i := 563) (by decide +kernel)
set_option maxRecDepth 20000 in
theorem u564 : Cond.code yX7_link cX7_link 10 none ∈ wsL_law := List.mem_of_getElem? (i := 564) (by decide +kernel)
set_option maxRecDepth 20000 in
theorem u565 : Cond.fieldLink RX7 37 "ScaleGroups$Order" "firstSides" "[I" ∈ wsL_law := List.mem_of_getElem? (i := 565) (by decide +kernel)
set_option maxRecDepth 20000 in
theorem u566 : Cond.fieldLink RX7 44 "ScaleGroups$Order" "otherSides" "[I" ∈ wsL_law := List.mem_of_getElem? (i := 566) (by decide +kernel)
set_option maxRecDepth 20000 in
theorem u567 : Cond.fieldLink RX7 47 "ScaleGroups$Order" "firsts" "[I" ∈ wsL_law := List.mem_of_getElem? (i := 567) (by decide +kernel)
set_option maxRecDepth 20000 in
theorem u568 : Cond.fieldLink RX7 50 "ScaleGroups$Order" "seconds" "[I" ∈ wsL_law := List.mem_of_getElem? (i := 568) (by decide +kernel)
set_option maxRecDepth 20000 in
theorem u569 : Cond.methodLink RX7 40 yX2_setOf ∈ wsL_law := List.mem_of_getElem? (i := 569) (by decide +kernel)
set_option maxRecDepth 20000 in
theorem u570 : Cond.methodLink RX7 53 yX6_has ∈ wsL_law := List.mem_of_getElem? (i := 570) (by decide +kernel)
set_option maxRecDepth 20000 in
theorem u575 : Cond.fieldLink RX9 230 "ScaleGroupsModel" "wayLong" "I" ∈ wsL_law := List.mem_of_getElem? (i := 575) (by decide +kernel)
set_option maxRecDepth 20000 in
theorem u576 : Cond.methodLink RX9 233 yX9_goesAlong ∈ wsL_law := List.mem_of_getElem? (i := 576) (by decide +kernel)
set_option maxRecDepth 20000 in
theorem u577 : Cond.instanceMethod yX9_goesAlong ∈ wsL_law := List.mem_of_getElem? (i := 577) (by decide +kernel)
set_option maxRecDepth 20000 in
theorem u578 : Cond.selects RX9 yX9_goesAlong yX9_goesAlong ∈ wsL_law := List.mem_of_getElem? (i := 578) (by decide +kernel)
set_option maxRecDepth 20000 in
theorem u579 : Cond.code yX9_goesAlong cX9_goesAlong 6 (some .boolean) ∈ wsL_law := List.mem_of_getElem? (i := 579) (by decide +kernel)
set_option maxRecDepth 20000 in
theorem u588 : Cond.constantLong RX9 237 (2) ∈ wsL_law := List.mem_of_getElem? (i := 588) (by decide +kernel)
set_option maxRecDepth 20000 in
theorem u589 : Cond.methodLink RX9 239 yX9_rootsAlong ∈ wsL_law := List.mem_of_getElem? (i := 589) (by decide +kernel)
set_option maxRecDepth 20000 in
theorem u590 : Cond.instanceMethod yX9_rootsAlong ∈ wsL_law := List.mem_of_getElem? (i := 590) (by decide +kernel)
set_option maxRecDepth 20000 in
theorem u591 : Cond.selects RX9 yX9_rootsAlong yX9_rootsAlong ∈ wsL_law := List.mem_of_getElem? (i := 591) (by decide +kernel)
set_option maxRecDepth 20000 in
theorem u592 : Cond.code yX9_rootsAlong cX9_rootsAlong 5 (some .int) ∈ wsL_law := List.mem_of_getElem? (i := 592) (by decide +kernel)
set_option maxRecDepth 20000 in
theorem u597 : Cond.methodLink RX8 197 yX8_meets ∈ wsL_law := List.mem_of_getElem? (i := 597) (by decide +kernel)
set_option maxRecDepth 20000 in
theorem u598 : Cond.methodLink RX8 200 yX2_joinsWithin ∈ wsL_law := List.mem_of_getElem? (i := 598) (by decide +kernel)
set_option maxRecDepth 20000 in
theorem u599 : Cond.instanceMethod yX2_joinsWithin ∈ wsL_law := List.mem_of_getElem? (i := 599) (by decide +kernel)
set_option maxRecDepth 20000 in
theorem u600 : Cond.selects RX2 yX2_joinsWithin yX2_joinsWithin ∈ wsL_law := List.mem_of_getElem? (i := 600) (by decide +kernel)
set_option maxRecDepth 20000 in
theorem u601 : Cond.code yX2_joinsWithin cX2_joinsWithin 4 (some .int) ∈ wsL_law := List.mem_of_getElem? (i := 601) (by decide +kernel)
set_option maxRecDepth 20000 in
theorem u606 : Cond.methodLink RX9 260 yX9_laysZoom ∈ wsL_law := List.mem_of_getElem? (i := 606) (by decide +kernel)
set_option maxRecDepth 20000 in
theorem u607 : Cond.instanceMethod yX9_laysZoom ∈ wsL_law := List.mem_of_getElem? (i := 607) (by decide +kernel)
set_option maxRecDepth 20000 in
theorem u608 : Cond.selects RX9 yX9_laysZoom yX9_laysZoom ∈ wsL_law := List.mem_of_getElem? (i := 608) (by decide +kernel)
set_option maxRecDepth 20000 in
theorem u609 : Cond.code yX9_laysZoom cX9_laysZoom 2 none ∈ wsL_law := List.mem_of_getElem? (i := 609) (by decide +kernel)
set_option maxRecDepth 20000 in
theorem u610 : Cond.methodLink RX9 245 yX9_joinsOf ∈ wsL_law := List.mem_of_getElem? (i := 610) (by decide +kernel)
set_option maxRecDepth 20000 in
theorem u611 : Cond.instanceMethod yX9_joinsOf ∈ wsL_law := List.mem_of_getElem? (i := 611) (by decide +kernel)
set_option maxRecDepth 20000 in
theorem u612 : Cond.selects RX9 yX9_joinsOf yX9_joinsOf ∈ wsL_law := List.mem_of_getElem? (i := 612) (by decide +kernel)
set_option maxRecDepth 20000 in
theorem u613 : Cond.code yX9_joinsOf cX9_joinsOf 3 (some .int) ∈ wsL_law := List.mem_of_getElem? (i := 613) (by decide +kernel)
set_option maxRecDepth 20000 in
theorem u614 : Cond.methodLink RX9 242 yX9_radius ∈ wsL_law := List.mem_of_getElem? (i := 614) (by decide +kernel)
set_option maxRecDepth 20000 in
theorem u615 : Cond.instanceMethod yX9_radius ∈ wsL_law := List.mem_of_getElem? (i := 615) (by decide +kernel)
set_option maxRecDepth 20000 in
theorem u616 : Cond.selects RX9 yX9_radius yX9_radius ∈ wsL_law := List.mem_of_getElem? (i := 616) (by decide +kernel)
set_option maxRecDepth 20000 in
theorem u617 : Cond.code yX9_radius cX9_radius 2 (some .int) ∈ wsL_law := List.mem_of_getElem? (i := 617) (by decide +kernel)
set_option maxRecDepth 20000 in
theorem u618 : Cond.methodLink RX9 248 yX9_laysParts ∈ wsL_law := List.mem_of_getElem? (i := 618) (by decide +kernel)
set_option maxRecDepth 20000 in
theorem u619 : Cond.instanceMethod yX9_laysParts ∈ wsL_law := List.mem_of_getElem? (i := 619) (by decide +kernel)
set_option maxRecDepth 20000 in
theorem u620 : Cond.selects RX9 yX9_laysParts yX9_laysParts ∈ wsL_law := List.mem_of_getElem? (i := 620) (by decide +kernel)
set_option maxRecDepth 20000 in
theorem u621 : Cond.code yX9_laysParts cX9_laysParts 4 none ∈ wsL_law := List.mem_of_getElem? (i := 621) (by decide +kernel)
set_option maxRecDepth 20000 in
theorem u623 : Cond.instanceMethod yX8_groups ∈ wsL_law := List.mem_of_getElem? (i := 623) (by decide +kernel)
set_option maxRecDepth 20000 in
theorem u624 : Cond.selects RX8 yX8_groups yX8_groups ∈ wsL_law := List.mem_of_getElem? (i := 624) (by decide +kernel)
set_option maxRecDepth 20000 in
theorem u625 : Cond.code yX8_groups cX8_groups 2 (some .int) ∈ wsL_law := List.mem_of_getElem? (i := 625) (by decide +kernel)
set_option maxRecDepth 20000 in
theorem u626 : Cond.methodLink RX8 203 yX8_isZoom ∈ wsL_law := List.mem_of_getElem? (i := 626) (by decide +kernel)
set_option maxRecDepth 20000 in
theorem u627 : Cond.static yX8_isZoom ∈ wsL_law := List.mem_of_getElem? (i := 627) (by decide +kernel)
set_option maxRecDepth 20000 in
theorem u628 : Cond.code yX8_isZoom cX8_isZoom 1 (some .boolean) ∈ wsL_law := List.mem_of_getElem? (i := 628) (by decide +kernel)
set_option maxRecDepth 20000 in
theorem u633 : Cond.methodLink RX9 257 yX9_isZoom ∈ wsL_law := List.mem_of_getElem? (i := 633) (by decide +kernel)
set_option maxRecDepth 20000 in
theorem u634 : Cond.instanceMethod yX9_isZoom ∈ wsL_law := List.mem_of_getElem? (i := 634) (by decide +kernel)
set_option maxRecDepth 20000 in
theorem u635 : Cond.selects RX9 yX9_isZoom yX9_isZoom ∈ wsL_law := List.mem_of_getElem? (i := 635) (by decide +kernel)
set_option maxRecDepth 20000 in
theorem u636 : Cond.code yX9_isZoom cX9_isZoom 2 (some .boolean) ∈ wsL_law := List.mem_of_getElem? (i := 636) (by decide +kernel)
set_option maxRecDepth 20000 in
theorem u637 : Cond.constantLong RX9 105 (10) ∈ wsL_law := List.mem_of_getElem? (i := 637) (by decide +kernel)
set_option maxRecDepth 20000 in
theorem u638 : Cond.methodLink RX9 263 yX9_partsNow ∈ wsL_law := List.mem_of_getElem? (i := 638) (by decide +kernel)
set_option maxRecDepth 20000 in
theorem u639 : Cond.instanceMethod yX9_partsNow ∈ wsL_law := List.mem_of_getElem? (i := 639) (by decide +kernel)
set_option maxRecDepth 20000 in
theorem u640 : Cond.selects RX9 yX9_partsNow yX9_partsNow ∈ wsL_law := List.mem_of_getElem? (i := 640) (by decide +kernel)
set_option maxRecDepth 20000 in
theorem u641 : Cond.code yX9_partsNow cX9_partsNow 3 (some .int) ∈ wsL_law := List.mem_of_getElem? (i := 641) (by decide +kernel)
set_option maxRecDepth 20000 in
theorem u642 : Cond.methodLink RX9 254 yX9_isFirst ∈ wsL_law := List.mem_of_getElem? (i := 642) (by decide +kernel)
set_option maxRecDepth 20000 in
theorem u643 : Cond.instanceMethod yX9_isFirst ∈ wsL_law := List.mem_of_getElem? (i := 643) (by decide +kernel)
set_option maxRecDepth 20000 in
theorem u644 : Cond.selects RX9 yX9_isFirst yX9_isFirst ∈ wsL_law := List.mem_of_getElem? (i := 644) (by decide +kernel)
set_option maxRecDepth 20000 in
theorem u645 : Cond.code yX9_isFirst cX9_isFirst 2 (some .boolean) ∈ wsL_law := List.mem_of_getElem? (i := 645) (by decide +kernel)
set_option maxRecDepth 20000 in
theorem u646 : Cond.methodLink RX9 251 yX9_least ∈ wsL_law := List.mem_of_getElem? (i := 646) (by decide +kernel)
set_option maxRecDepth 20000 in
theorem u647 : Cond.instanceMethod yX9_least ∈ wsL_law := List.mem_of_getElem? (i := 647) (by decide +kernel)
set_option maxRecDepth 20000 in
theorem u648 : Cond.selects RX9 yX9_least yX9_least ∈ wsL_law := List.mem_of_getElem? (i := 648) (by decide +kernel)
set_option maxRecDepth 20000 in
theorem u649 : Cond.code yX9_least cX9_least 3 (some .int) ∈ wsL_law := List.mem_of_getElem? (i := 649) (by decide +kernel)
set_option maxRecDepth 20000 in
theorem u654 : Cond.fieldLink RX8 210 "ScaleGroups$Scale" "groupAt" "[I" ∈ wsL_law := List.mem_of_getElem? (i := 654) (by decide +kernel)
set_option maxRecDepth 20000 in
theorem u655 : Cond.methodLink RX8 206 yX5_cut ∈ wsL_law := List.mem_of_getElem? (i := 655) (by decide +kernel)
set_option maxRecDepth 20000 in
theorem u656 : Cond.instanceMethod yX5_cut ∈ wsL_law := List.mem_of_getElem? (i := 656) (by decide +kernel)
set_option maxRecDepth 20000 in
theorem u657 : Cond.selects RX5 yX5_cut yX5_cut ∈ wsL_law := List.mem_of_getElem? (i := 657) (by decide +kernel)
set_option maxRecDepth 20000 in
theorem u658 : Cond.code yX5_cut cX5_cut 6 none ∈ wsL_law := List.mem_of_getElem? (i := 658) (by decide +kernel)
set_option maxRecDepth 20000 in
theorem u659 : Cond.fieldLink RX5 37 "ScaleGroups$Order" "points" "LScaleGroups$Points;" ∈ wsL_law := List.mem_of_getElem? (i := 659) (by decide +kernel)
set_option maxRecDepth 20000 in
theorem u660 : Cond.fieldLink RX5 41 "ScaleGroups$Points" "count" "I" ∈ wsL_law := List.mem_of_getElem? (i := 660) (by decide +kernel)
set_option maxRecDepth 20000 in
theorem u661 : Cond.methodLink RX5 31 yX2_joinsWithin ∈ wsL_law := List.mem_of_getElem? (i := 661) (by decide +kernel)
set_option maxRecDepth 20000 in
theorem u662 : Cond.methodLink RX5 44 yX6_has ∈ wsL_law := List.mem_of_getElem? (i := 662) (by decide +kernel)
set_option maxRecDepth 20000 in
theorem u663 : Cond.methodLink RX5 50 yX2_partOf ∈ wsL_law := List.mem_of_getElem? (i := 663) (by decide +kernel)
set_option maxRecDepth 20000 in
theorem u664 : Cond.instanceMethod yX2_partOf ∈ wsL_law := List.mem_of_getElem? (i := 664) (by decide +kernel)
set_option maxRecDepth 20000 in
theorem u665 : Cond.selects RX2 yX2_partOf yX2_partOf ∈ wsL_law := List.mem_of_getElem? (i := 665) (by decide +kernel)
set_option maxRecDepth 20000 in
theorem u666 : Cond.code yX2_partOf cX2_partOf 4 (some .int) ∈ wsL_law := List.mem_of_getElem? (i := 666) (by decide +kernel)
set_option maxRecDepth 20000 in
theorem u667 : Cond.methodLink RX5 54 yX5_gather ∈ wsL_law := List.mem_of_getElem? (i := 667) (by decide +kernel)
set_option maxRecDepth 20000 in
theorem u668 : Cond.instanceMethod yX5_gather ∈ wsL_law := List.mem_of_getElem? (i := 668) (by decide +kernel)
set_option maxRecDepth 20000 in
theorem u669 : Cond.selects RX5 yX5_gather yX5_gather ∈ wsL_law := List.mem_of_getElem? (i := 669) (by decide +kernel)
set_option maxRecDepth 20000 in
theorem u670 : Cond.code yX5_gather cX5_gather 7 none ∈ wsL_law := List.mem_of_getElem? (i := 670) (by decide +kernel)
set_option maxRecDepth 20000 in
theorem u671 : Cond.fieldLink RX5 58 "ScaleGroups$Points" "ws" "[I" ∈ wsL_law := List.mem_of_getElem? (i := 671) (by decide +kernel)
set_option maxRecDepth 20000 in
theorem u672 : Cond.fieldLink RX5 61 "ScaleGroups$Points" "xs" "[I" ∈ wsL_law := List.mem_of_getElem? (i := 672) (by decide +kernel)
set_option maxRecDepth 20000 in
theorem u673 : Cond.fieldLink RX5 62 "ScaleGroups$Points" "ys" "[I" ∈ wsL_law := List.mem_of_getElem? (i := 673) (by decide +kernel)
set_option maxRecDepth 20000 in
theorem u678 : Cond.methodLink RX9 266 yX9_numberOf ∈ wsL_law := List.mem_of_getElem? (i := 678) (by decide +kernel)
set_option maxRecDepth 20000 in
theorem u679 : Cond.instanceMethod yX9_numberOf ∈ wsL_law := List.mem_of_getElem? (i := 679) (by decide +kernel)
set_option maxRecDepth 20000 in
theorem u680 : Cond.selects RX9 yX9_numberOf yX9_numberOf ∈ wsL_law := List.mem_of_getElem? (i := 680) (by decide +kernel)
set_option maxRecDepth 20000 in
theorem u681 : Cond.code yX9_numberOf cX9_numberOf 4 (some .int) ∈ wsL_law := List.mem_of_getElem? (i := 681) (by decide +kernel)
set_option maxRecDepth 20000 in
theorem u686 : Cond.fieldLink RX8 216 "ScaleGroups$Scale" "sets" "[I" ∈ wsL_law := List.mem_of_getElem? (i := 686) (by decide +kernel)
set_option maxRecDepth 20000 in
theorem u687 : Cond.fieldLink RX8 224 "ScaleGroups$Scale" "weights" "[I" ∈ wsL_law := List.mem_of_getElem? (i := 687) (by decide +kernel)
set_option maxRecDepth 20000 in
theorem u688 : Cond.fieldLink RX8 234 "ScaleGroups$Scale" "xs" "[I" ∈ wsL_law := List.mem_of_getElem? (i := 688) (by decide +kernel)
set_option maxRecDepth 20000 in
theorem u689 : Cond.fieldLink RX8 235 "ScaleGroups$Scale" "ys" "[I" ∈ wsL_law := List.mem_of_getElem? (i := 689) (by decide +kernel)
set_option maxRecDepth 20000 in
theorem u690 : Cond.methodLink RX8 213 yX8_cutsGroup ∈ wsL_law := List.mem_of_getElem? (i := 690) (by decide +kernel)
set_option maxRecDepth 20000 in
theorem u691 : Cond.instanceMethod yX8_cutsGroup ∈ wsL_law := List.mem_of_getElem? (i := 691) (by decide +kernel)
set_option maxRecDepth 20000 in
theorem u692 : Cond.selects RX8 yX8_cutsGroup yX8_cutsGroup ∈ wsL_law := List.mem_of_getElem? (i := 692) (by decide +kernel)
set_option maxRecDepth 20000 in
theorem u693 : Cond.code yX8_cutsGroup cX8_cutsGroup 3 (some .boolean) ∈ wsL_law := List.mem_of_getElem? (i := 693) (by decide +kernel)
set_option maxRecDepth 20000 in
theorem u694 : Cond.fieldLink RX8 283 "ScaleGroups$Scale" "count" "I" ∈ wsL_law := List.mem_of_getElem? (i := 694) (by decide +kernel)
set_option maxRecDepth 20000 in
theorem u695 : Cond.methodLink RX8 219 yX6_least ∈ wsL_law := List.mem_of_getElem? (i := 695) (by decide +kernel)
set_option maxRecDepth 20000 in
theorem u696 : Cond.static yX6_least ∈ wsL_law := List.mem_of_getElem? (i := 696) (by decide +kernel)
set_option maxRecDepth 20000 in
theorem u697 : Cond.code yX6_least cX6_least 1 (some .int) ∈ wsL_law := List.mem_of_getElem? (i := 697) (by decide +kernel)
set_option maxRecDepth 20000 in
theorem u698 : Cond.methodLink RX6 9 yX6_nth ∈ wsL_law := List.mem_of_getElem? (i := 698) (by decide +kernel)
set_option maxRecDepth 20000 in
theorem u699 : Cond.static yX6_nth ∈ wsL_law := List.mem_of_getElem? (i := 699) (by decide +kernel)
set_option maxRecDepth 20000 in
theorem u700 : Cond.code yX6_nth cX6_nth 4 (some .int) ∈ wsL_law := List.mem_of_getElem? (i := 700) (by decide +kernel)
set_option maxRecDepth 20000 in
theorem u701 : Cond.methodLink RX6 15 yX6_has ∈ wsL_law := List.mem_of_getElem? (i := 701) (by decide +kernel)
set_option maxRecDepth 20000 in
theorem u702 : Cond.methodLink RX8 227 yX6_lowest ∈ wsL_law := List.mem_of_getElem? (i := 702) (by decide +kernel)
set_option maxRecDepth 20000 in
theorem u703 : Cond.static yX6_lowest ∈ wsL_law := List.mem_of_getElem? (i := 703) (by decide +kernel)
set_option maxRecDepth 20000 in
theorem u704 : Cond.code yX6_lowest cX6_lowest 4 (some .int) ∈ wsL_law := List.mem_of_getElem? (i := 704) (by decide +kernel)
set_option maxRecDepth 20000 in
theorem u705 : Cond.methodLink RX6 19 Lib.Math.min.name ∈ wsL_law := List.mem_of_getElem? (i := 705) (by decide +kernel)
set_option maxRecDepth 20000 in
theorem u706 : Cond.methodLink RX8 231 yX6_highest ∈ wsL_law := List.mem_of_getElem? (i := 706) (by decide +kernel)
set_option maxRecDepth 20000 in
theorem u707 : Cond.static yX6_highest ∈ wsL_law := List.mem_of_getElem? (i := 707) (by decide +kernel)
set_option maxRecDepth 20000 in
theorem u708 : Cond.code yX6_highest cX6_highest 4 (some .int) ∈ wsL_law := List.mem_of_getElem? (i := 708) (by decide +kernel)
set_option maxRecDepth 20000 in
theorem u709 : Cond.methodLink RX6 24 Lib.Math.max.name ∈ wsL_law := List.mem_of_getElem? (i := 709) (by decide +kernel)
set_option maxRecDepth 20000 in
theorem u710 : Cond.methodLink RX8 236 yX4_heaviestOf ∈ wsL_law := List.mem_of_getElem? (i := 710) (by decide +kernel)
set_option maxRecDepth 20000 in
theorem u711 : Cond.instanceMethod yX4_heaviestOf ∈ wsL_law := List.mem_of_getElem? (i := 711) (by decide +kernel)
set_option maxRecDepth 20000 in
theorem u712 : Cond.selects RX4 yX4_heaviestOf yX4_heaviestOf ∈ wsL_law := List.mem_of_getElem? (i := 712) (by decide +kernel)
set_option maxRecDepth 20000 in
theorem u713 : Cond.code yX4_heaviestOf cX4_heaviestOf 5 (some .int) ∈ wsL_law := List.mem_of_getElem? (i := 713) (by decide +kernel)
set_option maxRecDepth 20000 in
theorem u714 : Cond.methodLink RX8 239 yX2_makerOf ∈ wsL_law := List.mem_of_getElem? (i := 714) (by decide +kernel)
set_option maxRecDepth 20000 in
theorem u715 : Cond.instanceMethod yX2_makerOf ∈ wsL_law := List.mem_of_getElem? (i := 715) (by decide +kernel)
set_option maxRecDepth 20000 in
theorem u716 : Cond.selects RX2 yX2_makerOf yX2_makerOf ∈ wsL_law := List.mem_of_getElem? (i := 716) (by decide +kernel)
set_option maxRecDepth 20000 in
theorem u717 : Cond.code yX2_makerOf cX2_makerOf 3 (some .int) ∈ wsL_law := List.mem_of_getElem? (i := 717) (by decide +kernel)
set_option maxRecDepth 20000 in
theorem u718 : Cond.methodLink RX8 242 yX8_countSplits ∈ wsL_law := List.mem_of_getElem? (i := 718) (by decide +kernel)
set_option maxRecDepth 20000 in
theorem u719 : Cond.instanceMethod yX8_countSplits ∈ wsL_law := List.mem_of_getElem? (i := 719) (by decide +kernel)
set_option maxRecDepth 20000 in
theorem u720 : Cond.selects RX8 yX8_countSplits yX8_countSplits ∈ wsL_law := List.mem_of_getElem? (i := 720) (by decide +kernel)
set_option maxRecDepth 20000 in
theorem u721 : Cond.code yX8_countSplits cX8_countSplits 3 (some .int) ∈ wsL_law := List.mem_of_getElem? (i := 721) (by decide +kernel)
set_option maxRecDepth 20000 in
theorem u722 : Cond.methodLink RX8 251 yX5_groupsWithin ∈ wsL_law := List.mem_of_getElem? (i := 722) (by decide +kernel)
set_option maxRecDepth 20000 in
theorem u723 : Cond.instanceMethod yX5_groupsWithin ∈ wsL_law := List.mem_of_getElem? (i := 723) (by decide +kernel)
set_option maxRecDepth 20000 in
theorem u724 : Cond.selects RX5 yX5_groupsWithin yX5_groupsWithin ∈ wsL_law := List.mem_of_getElem? (i := 724) (by decide +kernel)
set_option maxRecDepth 20000 in
theorem u725 : Cond.code yX5_groupsWithin cX5_groupsWithin 4 (some .int) ∈ wsL_law := List.mem_of_getElem? (i := 725) (by decide +kernel)
set_option maxRecDepth 20000 in
theorem u726 : Cond.methodLink RX8 245 yX4_wide ∈ wsL_law := List.mem_of_getElem? (i := 726) (by decide +kernel)
set_option maxRecDepth 20000 in
theorem u727 : Cond.instanceMethod yX4_wide ∈ wsL_law := List.mem_of_getElem? (i := 727) (by decide +kernel)
set_option maxRecDepth 20000 in
theorem u728 : Cond.selects RX4 yX4_wide yX4_wide ∈ wsL_law := List.mem_of_getElem? (i := 728) (by decide +kernel)
set_option maxRecDepth 20000 in
theorem u729 : Cond.code yX4_wide cX4_wide 5 (some .int) ∈ wsL_law := List.mem_of_getElem? (i := 729) (by decide +kernel)
set_option maxRecDepth 20000 in
theorem u730 : Cond.methodLink RX4 50 Lib.Math.max.name ∈ wsL_law := List.mem_of_getElem? (i := 730) (by decide +kernel)
set_option maxRecDepth 20000 in
theorem u735 : Cond.methodLink RX9 269 yX9_groupSet ∈ wsL_law := List.mem_of_getElem? (i := 735) (by decide +kernel)
set_option maxRecDepth 20000 in
theorem u736 : Cond.instanceMethod yX9_groupSet ∈ wsL_law := List.mem_of_getElem? (i := 736) (by decide +kernel)
set_option maxRecDepth 20000 in
theorem u737 : Cond.selects RX9 yX9_groupSet yX9_groupSet ∈ wsL_law := List.mem_of_getElem? (i := 737) (by decide +kernel)
set_option maxRecDepth 20000 in
theorem u738 : Cond.code yX9_groupSet cX9_groupSet 5 (some .int) ∈ wsL_law := List.mem_of_getElem? (i := 738) (by decide +kernel)
set_option maxRecDepth 20000 in
theorem u739 : Cond.methodLink RX9 272 yX9_bound ∈ wsL_law := List.mem_of_getElem? (i := 739) (by decide +kernel)
set_option maxRecDepth 20000 in
theorem u740 : Cond.instanceMethod yX9_bound ∈ wsL_law := List.mem_of_getElem? (i := 740) (by decide +kernel)
set_option maxRecDepth 20000 in
theorem u741 : Cond.selects RX9 yX9_bound yX9_bound ∈ wsL_law := List.mem_of_getElem? (i := 741) (by decide +kernel)
set_option maxRecDepth 20000 in
theorem u742 : Cond.code yX9_bound cX9_bound 7 (some .int) ∈ wsL_law := List.mem_of_getElem? (i := 742) (by decide +kernel)
set_option maxRecDepth 20000 in
theorem u743 : Cond.methodLink RX9 276 yX9_centre ∈ wsL_law := List.mem_of_getElem? (i := 743) (by decide +kernel)
set_option maxRecDepth 20000 in
theorem u744 : Cond.instanceMethod yX9_centre ∈ wsL_law := List.mem_of_getElem? (i := 744) (by decide +kernel)
set_option maxRecDepth 20000 in
theorem u745 : Cond.selects RX9 yX9_centre yX9_centre ∈ wsL_law := List.mem_of_getElem? (i := 745) (by decide +kernel)
set_option maxRecDepth 20000 in
theorem u746 : Cond.code yX9_centre cX9_centre 5 (some .int) ∈ wsL_law := List.mem_of_getElem? (i := 746) (by decide +kernel)
set_option maxRecDepth 20000 in
theorem u747 : Cond.methodLink RX9 280 yX9_topOf ∈ wsL_law := List.mem_of_getElem? (i := 747) (by decide +kernel)
set_option maxRecDepth 20000 in
theorem u748 : Cond.instanceMethod yX9_topOf ∈ wsL_law := List.mem_of_getElem? (i := 748) (by decide +kernel)
set_option maxRecDepth 20000 in
theorem u749 : Cond.selects RX9 yX9_topOf yX9_topOf ∈ wsL_law := List.mem_of_getElem? (i := 749) (by decide +kernel)
set_option maxRecDepth 20000 in
theorem u750 : Cond.code yX9_topOf cX9_topOf 4 (some .int) ∈ wsL_law := List.mem_of_getElem? (i := 750) (by decide +kernel)
set_option maxRecDepth 20000 in
theorem u751 : Cond.methodLink RX9 283 yX9_makerOf ∈ wsL_law := List.mem_of_getElem? (i := 751) (by decide +kernel)
set_option maxRecDepth 20000 in
theorem u752 : Cond.instanceMethod yX9_makerOf ∈ wsL_law := List.mem_of_getElem? (i := 752) (by decide +kernel)
set_option maxRecDepth 20000 in
theorem u753 : Cond.selects RX9 yX9_makerOf yX9_makerOf ∈ wsL_law := List.mem_of_getElem? (i := 753) (by decide +kernel)
set_option maxRecDepth 20000 in
theorem u754 : Cond.code yX9_makerOf cX9_makerOf 3 (some .int) ∈ wsL_law := List.mem_of_getElem? (i := 754) (by decide +kernel)
set_option maxRecDepth 20000 in
theorem u755 : Cond.methodLink RX9 286 yX9_splitsInto ∈ wsL_law := List.mem_of_getElem? (i := 755) (by decide +kernel)
set_option maxRecDepth 20000 in
theorem u756 : Cond.instanceMethod yX9_splitsInto ∈ wsL_law := List.mem_of_getElem? (i := 756) (by decide +kernel)
set_option maxRecDepth 20000 in
theorem u757 : Cond.selects RX9 yX9_splitsInto yX9_splitsInto ∈ wsL_law := List.mem_of_getElem? (i := 757) (by decide +kernel)
set_option maxRecDepth 20000 in
theorem u758 : Cond.code yX9_splitsInto cX9_splitsInto 5 (some .int) ∈ wsL_law := List.mem_of_getElem? (i := 758) (by decide +kernel)
set_option maxRecDepth 20000 in
theorem u759 : Cond.methodLink RX9 289 yX9_widest ∈ wsL_law := List.mem_of_getElem? (i := 759) (by decide +kernel)
set_option maxRecDepth 20000 in
theorem u760 : Cond.instanceMethod yX9_widest ∈ wsL_law := List.mem_of_getElem? (i := 760) (by decide +kernel)
set_option maxRecDepth 20000 in
theorem u761 : Cond.selects RX9 yX9_widest yX9_widest ∈ wsL_law := List.mem_of_getElem? (i := 761) (by decide +kernel)
set_option maxRecDepth 20000 in
theorem u762 : Cond.code yX9_widest cX9_widest 5 (some .int) ∈ wsL_law := List.mem_of_getElem? (i := 762) (by decide +kernel)
set_option maxRecDepth 20000 in
theorem u767 : Cond.methodLink RX8 248 yX6_nth ∈ wsL_law := List.mem_of_getElem? (i := 767) (by decide +kernel)
set_option maxRecDepth 20000 in
theorem u784 : Cond.methodLink RX8 254 yX5_centresIn ∈ wsL_law := List.mem_of_getElem? (i := 784) (by decide +kernel)
set_option maxRecDepth 20000 in
theorem u785 : Cond.instanceMethod yX5_centresIn ∈ wsL_law := List.mem_of_getElem? (i := 785) (by decide +kernel)
set_option maxRecDepth 20000 in
theorem u786 : Cond.selects RX5 yX5_centresIn yX5_centresIn ∈ wsL_law := List.mem_of_getElem? (i := 786) (by decide +kernel)
set_option maxRecDepth 20000 in
theorem u787 : Cond.code yX5_centresIn cX5_centresIn 7 (some .int) ∈ wsL_law := List.mem_of_getElem? (i := 787) (by decide +kernel)
set_option maxRecDepth 20000 in
theorem u788 : Cond.methodLink RX8 258 yX4_within ∈ wsL_law := List.mem_of_getElem? (i := 788) (by decide +kernel)
set_option maxRecDepth 20000 in
theorem u789 : Cond.instanceMethod yX4_within ∈ wsL_law := List.mem_of_getElem? (i := 789) (by decide +kernel)
set_option maxRecDepth 20000 in
theorem u790 : Cond.selects RX4 yX4_within yX4_within ∈ wsL_law := List.mem_of_getElem? (i := 790) (by decide +kernel)
set_option maxRecDepth 20000 in
theorem u791 : Cond.code yX4_within cX4_within 7 (some .int) ∈ wsL_law := List.mem_of_getElem? (i := 791) (by decide +kernel)
set_option maxRecDepth 20000 in
theorem u792 : Cond.methodLink RX8 261 yX5_weightOf ∈ wsL_law := List.mem_of_getElem? (i := 792) (by decide +kernel)
set_option maxRecDepth 20000 in
theorem u793 : Cond.instanceMethod yX5_weightOf ∈ wsL_law := List.mem_of_getElem? (i := 793) (by decide +kernel)
set_option maxRecDepth 20000 in
theorem u794 : Cond.selects RX5 yX5_weightOf yX5_weightOf ∈ wsL_law := List.mem_of_getElem? (i := 794) (by decide +kernel)
set_option maxRecDepth 20000 in
theorem u795 : Cond.code yX5_weightOf cX5_weightOf 4 (some .int) ∈ wsL_law := List.mem_of_getElem? (i := 795) (by decide +kernel)
set_option maxRecDepth 20000 in
theorem u800 : Cond.constantLong RX9 300 (3) ∈ wsL_law := List.mem_of_getElem? (i := 800) (by decide +kernel)
set_option maxRecDepth 20000 in
theorem u801 : Cond.methodLink RX9 302 yX9_centredIn ∈ wsL_law := List.mem_of_getElem? (i := 801) (by decide +kernel)
set_option maxRecDepth 20000 in
theorem u802 : Cond.instanceMethod yX9_centredIn ∈ wsL_law := List.mem_of_getElem? (i := 802) (by decide +kernel)
set_option maxRecDepth 20000 in
theorem u803 : Cond.selects RX9 yX9_centredIn yX9_centredIn ∈ wsL_law := List.mem_of_getElem? (i := 803) (by decide +kernel)
set_option maxRecDepth 20000 in
theorem u804 : Cond.code yX9_centredIn cX9_centredIn 8 (some .int) ∈ wsL_law := List.mem_of_getElem? (i := 804) (by decide +kernel)
set_option maxRecDepth 20000 in
theorem u805 : Cond.methodLink RX9 296 yX9_isCentred ∈ wsL_law := List.mem_of_getElem? (i := 805) (by decide +kernel)
set_option maxRecDepth 20000 in
theorem u806 : Cond.instanceMethod yX9_isCentred ∈ wsL_law := List.mem_of_getElem? (i := 806) (by decide +kernel)
set_option maxRecDepth 20000 in
theorem u807 : Cond.selects RX9 yX9_isCentred yX9_isCentred ∈ wsL_law := List.mem_of_getElem? (i := 807) (by decide +kernel)
set_option maxRecDepth 20000 in
theorem u808 : Cond.code yX9_isCentred cX9_isCentred 6 (some .boolean) ∈ wsL_law := List.mem_of_getElem? (i := 808) (by decide +kernel)
set_option maxRecDepth 20000 in
theorem u809 : Cond.methodLink RX9 292 yX9_isWithin ∈ wsL_law := List.mem_of_getElem? (i := 809) (by decide +kernel)
set_option maxRecDepth 20000 in
theorem u810 : Cond.instanceMethod yX9_isWithin ∈ wsL_law := List.mem_of_getElem? (i := 810) (by decide +kernel)
set_option maxRecDepth 20000 in
theorem u811 : Cond.selects RX9 yX9_isWithin yX9_isWithin ∈ wsL_law := List.mem_of_getElem? (i := 811) (by decide +kernel)
set_option maxRecDepth 20000 in
theorem u812 : Cond.code yX9_isWithin cX9_isWithin 7 (some .boolean) ∈ wsL_law := List.mem_of_getElem? (i := 812) (by decide +kernel)
set_option maxRecDepth 20000 in
theorem u813 : Cond.methodLink RX9 306 yX9_pointsIn ∈ wsL_law := List.mem_of_getElem? (i := 813) (by decide +kernel)
set_option maxRecDepth 20000 in
theorem u814 : Cond.instanceMethod yX9_pointsIn ∈ wsL_law := List.mem_of_getElem? (i := 814) (by decide +kernel)
set_option maxRecDepth 20000 in
theorem u815 : Cond.selects RX9 yX9_pointsIn yX9_pointsIn ∈ wsL_law := List.mem_of_getElem? (i := 815) (by decide +kernel)
set_option maxRecDepth 20000 in
theorem u816 : Cond.code yX9_pointsIn cX9_pointsIn 7 (some .int) ∈ wsL_law := List.mem_of_getElem? (i := 816) (by decide +kernel)
set_option maxRecDepth 20000 in
theorem u821 : Cond.methodLink RX8 262 yX5_heaviest ∈ wsL_law := List.mem_of_getElem? (i := 821) (by decide +kernel)
set_option maxRecDepth 20000 in
theorem u822 : Cond.instanceMethod yX5_heaviest ∈ wsL_law := List.mem_of_getElem? (i := 822) (by decide +kernel)
set_option maxRecDepth 20000 in
theorem u823 : Cond.selects RX5 yX5_heaviest yX5_heaviest ∈ wsL_law := List.mem_of_getElem? (i := 823) (by decide +kernel)
set_option maxRecDepth 20000 in
theorem u824 : Cond.code yX5_heaviest cX5_heaviest 4 (some .int) ∈ wsL_law := List.mem_of_getElem? (i := 824) (by decide +kernel)
set_option maxRecDepth 20000 in
theorem u825 : Cond.methodLink RX5 63 yX5_countAhead ∈ wsL_law := List.mem_of_getElem? (i := 825) (by decide +kernel)
set_option maxRecDepth 20000 in
theorem u826 : Cond.instanceMethod yX5_countAhead ∈ wsL_law := List.mem_of_getElem? (i := 826) (by decide +kernel)
set_option maxRecDepth 20000 in
theorem u827 : Cond.selects RX5 yX5_countAhead yX5_countAhead ∈ wsL_law := List.mem_of_getElem? (i := 827) (by decide +kernel)
set_option maxRecDepth 20000 in
theorem u828 : Cond.code yX5_countAhead cX5_countAhead 6 (some .int) ∈ wsL_law := List.mem_of_getElem? (i := 828) (by decide +kernel)
set_option maxRecDepth 20000 in
theorem u837 : Cond.methodLink RX8 265 yX8_nextInRow ∈ wsL_law := List.mem_of_getElem? (i := 837) (by decide +kernel)
set_option maxRecDepth 20000 in
theorem u838 : Cond.instanceMethod yX8_nextInRow ∈ wsL_law := List.mem_of_getElem? (i := 838) (by decide +kernel)
set_option maxRecDepth 20000 in
theorem u839 : Cond.selects RX8 yX8_nextInRow yX8_nextInRow ∈ wsL_law := List.mem_of_getElem? (i := 839) (by decide +kernel)
set_option maxRecDepth 20000 in
theorem u840 : Cond.code yX8_nextInRow cX8_nextInRow 5 (some .int) ∈ wsL_law := List.mem_of_getElem? (i := 840) (by decide +kernel)
set_option maxRecDepth 20000 in
theorem u857 : Cond.methodLink RX8 268 yX6_has ∈ wsL_law := List.mem_of_getElem? (i := 857) (by decide +kernel)
set_option maxRecDepth 20000 in
theorem u858 : Cond.methodLink RX8 271 yX8_widestTile ∈ wsL_law := List.mem_of_getElem? (i := 858) (by decide +kernel)
set_option maxRecDepth 20000 in
theorem u859 : Cond.instanceMethod yX8_widestTile ∈ wsL_law := List.mem_of_getElem? (i := 859) (by decide +kernel)
set_option maxRecDepth 20000 in
theorem u860 : Cond.selects RX8 yX8_widestTile yX8_widestTile ∈ wsL_law := List.mem_of_getElem? (i := 860) (by decide +kernel)
set_option maxRecDepth 20000 in
theorem u861 : Cond.code yX8_widestTile cX8_widestTile 7 (some .int) ∈ wsL_law := List.mem_of_getElem? (i := 861) (by decide +kernel)
set_option maxRecDepth 20000 in
theorem u862 : Cond.methodLink RX8 293 yX8_pointsInTile ∈ wsL_law := List.mem_of_getElem? (i := 862) (by decide +kernel)
set_option maxRecDepth 20000 in
theorem u863 : Cond.instanceMethod yX8_pointsInTile ∈ wsL_law := List.mem_of_getElem? (i := 863) (by decide +kernel)
set_option maxRecDepth 20000 in
theorem u864 : Cond.selects RX8 yX8_pointsInTile yX8_pointsInTile ∈ wsL_law := List.mem_of_getElem? (i := 864) (by decide +kernel)
set_option maxRecDepth 20000 in
theorem u865 : Cond.code yX8_pointsInTile cX8_pointsInTile 7 (some .int) ∈ wsL_law := List.mem_of_getElem? (i := 865) (by decide +kernel)
set_option maxRecDepth 20000 in
theorem u870 : Cond.methodLink RX9 313 yX9_tiles ∈ wsL_law := List.mem_of_getElem? (i := 870) (by decide +kernel)
set_option maxRecDepth 20000 in
theorem u871 : Cond.instanceMethod yX9_tiles ∈ wsL_law := List.mem_of_getElem? (i := 871) (by decide +kernel)
set_option maxRecDepth 20000 in
theorem u872 : Cond.selects RX9 yX9_tiles yX9_tiles ∈ wsL_law := List.mem_of_getElem? (i := 872) (by decide +kernel)
set_option maxRecDepth 20000 in
theorem u873 : Cond.code yX9_tiles cX9_tiles 8 (some .int) ∈ wsL_law := List.mem_of_getElem? (i := 873) (by decide +kernel)
set_option maxRecDepth 20000 in
theorem u874 : Cond.methodLink RX9 310 yX9_tileSet ∈ wsL_law := List.mem_of_getElem? (i := 874) (by decide +kernel)
set_option maxRecDepth 20000 in
theorem u875 : Cond.instanceMethod yX9_tileSet ∈ wsL_law := List.mem_of_getElem? (i := 875) (by decide +kernel)
set_option maxRecDepth 20000 in
theorem u876 : Cond.selects RX9 yX9_tileSet yX9_tileSet ∈ wsL_law := List.mem_of_getElem? (i := 876) (by decide +kernel)
set_option maxRecDepth 20000 in
theorem u877 : Cond.code yX9_tileSet cX9_tileSet 5 (some .int) ∈ wsL_law := List.mem_of_getElem? (i := 877) (by decide +kernel)
set_option maxRecDepth 20000 in
theorem u882 : Cond.fieldLink RX8 277 "ScaleGroups$Outline" "count" "I" ∈ wsL_law := List.mem_of_getElem? (i := 882) (by decide +kernel)
set_option maxRecDepth 20000 in
theorem u883 : Cond.fieldLink RX8 278 "ScaleGroups$Outline" "row" "[I" ∈ wsL_law := List.mem_of_getElem? (i := 883) (by decide +kernel)
set_option maxRecDepth 20000 in
theorem u884 : Cond.methodLink RX8 274 yX3_draw ∈ wsL_law := List.mem_of_getElem? (i := 884) (by decide +kernel)
set_option maxRecDepth 20000 in
theorem u885 : Cond.instanceMethod yX3_draw ∈ wsL_law := List.mem_of_getElem? (i := 885) (by decide +kernel)
set_option maxRecDepth 20000 in
theorem u886 : Cond.selects RX3 yX3_draw yX3_draw ∈ wsL_law := List.mem_of_getElem? (i := 886) (by decide +kernel)
set_option maxRecDepth 20000 in
theorem u887 : Cond.code yX3_draw cX3_draw 5 none ∈ wsL_law := List.mem_of_getElem? (i := 887) (by decide +kernel)
set_option maxRecDepth 20000 in
theorem u888 : Cond.fieldLink RX3 19 "ScaleGroups$Points" "count" "I" ∈ wsL_law := List.mem_of_getElem? (i := 888) (by decide +kernel)
set_option maxRecDepth 20000 in
theorem u889 : Cond.methodLink RX3 22 yX6_has ∈ wsL_law := List.mem_of_getElem? (i := 889) (by decide +kernel)
set_option maxRecDepth 20000 in
theorem u890 : Cond.methodLink RX3 28 yX3_turnTo ∈ wsL_law := List.mem_of_getElem? (i := 890) (by decide +kernel)
set_option maxRecDepth 20000 in
theorem u891 : Cond.instanceMethod yX3_turnTo ∈ wsL_law := List.mem_of_getElem? (i := 891) (by decide +kernel)
set_option maxRecDepth 20000 in
theorem u892 : Cond.selects RX3 yX3_turnTo yX3_turnTo ∈ wsL_law := List.mem_of_getElem? (i := 892) (by decide +kernel)
set_option maxRecDepth 20000 in
theorem u893 : Cond.code yX3_turnTo cX3_turnTo 4 none ∈ wsL_law := List.mem_of_getElem? (i := 893) (by decide +kernel)
set_option maxRecDepth 20000 in
theorem u894 : Cond.methodLink RX3 32 yX3_cross ∈ wsL_law := List.mem_of_getElem? (i := 894) (by decide +kernel)
set_option maxRecDepth 20000 in
theorem u895 : Cond.static yX3_cross ∈ wsL_law := List.mem_of_getElem? (i := 895) (by decide +kernel)
set_option maxRecDepth 20000 in
theorem u896 : Cond.code yX3_cross cX3_cross 4 (some .int) ∈ wsL_law := List.mem_of_getElem? (i := 896) (by decide +kernel)
set_option maxRecDepth 20000 in
theorem u897 : Cond.fieldLink RX3 36 "ScaleGroups$Points" "xs" "[I" ∈ wsL_law := List.mem_of_getElem? (i := 897) (by decide +kernel)
set_option maxRecDepth 20000 in
theorem u898 : Cond.fieldLink RX3 39 "ScaleGroups$Points" "ys" "[I" ∈ wsL_law := List.mem_of_getElem? (i := 898) (by decide +kernel)
set_option maxRecDepth 20000 in
theorem u903 : Cond.fieldLink RX9 319 "ScaleGroupsModel" "corners" "I" ∈ wsL_law := List.mem_of_getElem? (i := 903) (by decide +kernel)
set_option maxRecDepth 20000 in
theorem u904 : Cond.methodLink RX9 325 yX9_laysOutline ∈ wsL_law := List.mem_of_getElem? (i := 904) (by decide +kernel)
set_option maxRecDepth 20000 in
theorem u905 : Cond.instanceMethod yX9_laysOutline ∈ wsL_law := List.mem_of_getElem? (i := 905) (by decide +kernel)
set_option maxRecDepth 20000 in
theorem u906 : Cond.selects RX9 yX9_laysOutline yX9_laysOutline ∈ wsL_law := List.mem_of_getElem? (i := 906) (by decide +kernel)
set_option maxRecDepth 20000 in
theorem u907 : Cond.code yX9_laysOutline cX9_laysOutline 3 none ∈ wsL_law := List.mem_of_getElem? (i := 907) (by decide +kernel)
set_option maxRecDepth 20000 in
theorem u908 : Cond.methodLink RX9 322 yX9_nextCorner ∈ wsL_law := List.mem_of_getElem? (i := 908) (by decide +kernel)
set_option maxRecDepth 20000 in
theorem u909 : Cond.instanceMethod yX9_nextCorner ∈ wsL_law := List.mem_of_getElem? (i := 909) (by decide +kernel)
set_option maxRecDepth 20000 in
theorem u910 : Cond.selects RX9 yX9_nextCorner yX9_nextCorner ∈ wsL_law := List.mem_of_getElem? (i := 910) (by decide +kernel)
set_option maxRecDepth 20000 in
theorem u911 : Cond.code yX9_nextCorner cX9_nextCorner 6 (some .int) ∈ wsL_law := List.mem_of_getElem? (i := 911) (by decide +kernel)
set_option maxRecDepth 20000 in
theorem u912 : Cond.methodLink RX9 316 yX9_turn ∈ wsL_law := List.mem_of_getElem? (i := 912) (by decide +kernel)
set_option maxRecDepth 20000 in
theorem u913 : Cond.instanceMethod yX9_turn ∈ wsL_law := List.mem_of_getElem? (i := 913) (by decide +kernel)
set_option maxRecDepth 20000 in
theorem u914 : Cond.selects RX9 yX9_turn yX9_turn ∈ wsL_law := List.mem_of_getElem? (i := 914) (by decide +kernel)
set_option maxRecDepth 20000 in
theorem u915 : Cond.code yX9_turn cX9_turn 4 (some .int) ∈ wsL_law := List.mem_of_getElem? (i := 915) (by decide +kernel)
set_option maxRecDepth 20000 in
theorem u920 : Cond.methodLink RX8 279 yX3_twiceArea ∈ wsL_law := List.mem_of_getElem? (i := 920) (by decide +kernel)
set_option maxRecDepth 20000 in
theorem u921 : Cond.instanceMethod yX3_twiceArea ∈ wsL_law := List.mem_of_getElem? (i := 921) (by decide +kernel)
set_option maxRecDepth 20000 in
theorem u922 : Cond.selects RX3 yX3_twiceArea yX3_twiceArea ∈ wsL_law := List.mem_of_getElem? (i := 922) (by decide +kernel)
set_option maxRecDepth 20000 in
theorem u923 : Cond.code yX3_twiceArea cX3_twiceArea 6 (some .int) ∈ wsL_law := List.mem_of_getElem? (i := 923) (by decide +kernel)
set_option maxRecDepth 20000 in
theorem u932 : Cond.methodLink RX8 284 yX5_groupOfPart ∈ wsL_law := List.mem_of_getElem? (i := 932) (by decide +kernel)
set_option maxRecDepth 20000 in
theorem u933 : Cond.instanceMethod yX5_groupOfPart ∈ wsL_law := List.mem_of_getElem? (i := 933) (by decide +kernel)
set_option maxRecDepth 20000 in
theorem u934 : Cond.selects RX5 yX5_groupOfPart yX5_groupOfPart ∈ wsL_law := List.mem_of_getElem? (i := 934) (by decide +kernel)
set_option maxRecDepth 20000 in
theorem u935 : Cond.code yX5_groupOfPart cX5_groupOfPart 3 (some .int) ∈ wsL_law := List.mem_of_getElem? (i := 935) (by decide +kernel)
set_option maxRecDepth 20000 in
theorem u936 : Cond.methodLink RX8 287 yX6_farther ∈ wsL_law := List.mem_of_getElem? (i := 936) (by decide +kernel)
set_option maxRecDepth 20000 in
theorem u937 : Cond.static yX6_farther ∈ wsL_law := List.mem_of_getElem? (i := 937) (by decide +kernel)
set_option maxRecDepth 20000 in
theorem u938 : Cond.code yX6_farther cX6_farther 2 (some .int) ∈ wsL_law := List.mem_of_getElem? (i := 938) (by decide +kernel)
set_option maxRecDepth 20000 in
theorem u939 : Cond.methodLink RX6 27 Lib.Math.abs.name ∈ wsL_law := List.mem_of_getElem? (i := 939) (by decide +kernel)
set_option maxRecDepth 20000 in
theorem u940 : Cond.static Lib.Math.abs.name ∈ wsL_law := List.mem_of_getElem? (i := 940) (by decide +kernel)
set_option maxRecDepth 20000 in
theorem u941 : Cond.code Lib.Math.abs.name Lib.Math.abs.code 1 (some .int) ∈ wsL_law := List.mem_of_getElem? (i := 941) (by decide +kernel)
set_option maxRecDepth 20000 in
theorem u946 : Cond.constantLong RX9 331 (9) ∈ wsL_law := List.mem_of_getElem? (i := 946) (by decide +kernel)
set_option maxRecDepth 20000 in
theorem u947 : Cond.methodLink RX9 333 yX9_farther ∈ wsL_law := List.mem_of_getElem? (i := 947) (by decide +kernel)
set_option maxRecDepth 20000 in
theorem u948 : Cond.instanceMethod yX9_farther ∈ wsL_law := List.mem_of_getElem? (i := 948) (by decide +kernel)
set_option maxRecDepth 20000 in
theorem u949 : Cond.selects RX9 yX9_farther yX9_farther ∈ wsL_law := List.mem_of_getElem? (i := 949) (by decide +kernel)
set_option maxRecDepth 20000 in
theorem u950 : Cond.code yX9_farther cX9_farther 3 (some .int) ∈ wsL_law := List.mem_of_getElem? (i := 950) (by decide +kernel)
set_option maxRecDepth 20000 in
theorem u951 : Cond.methodLink RX9 328 Lib.Math.abs.name ∈ wsL_law := List.mem_of_getElem? (i := 951) (by decide +kernel)
set_option maxRecDepth 20000 in
theorem u956 : Cond.methodLink RX8 290 yX8_isTile ∈ wsL_law := List.mem_of_getElem? (i := 956) (by decide +kernel)
set_option maxRecDepth 20000 in
theorem u957 : Cond.static yX8_isTile ∈ wsL_law := List.mem_of_getElem? (i := 957) (by decide +kernel)
set_option maxRecDepth 20000 in
theorem u958 : Cond.code yX8_isTile cX8_isTile 2 (some .boolean) ∈ wsL_law := List.mem_of_getElem? (i := 958) (by decide +kernel)
set_option maxRecDepth 20000 in
theorem u959 : Cond.methodLink RX8 296 yX8_filledQuarters ∈ wsL_law := List.mem_of_getElem? (i := 959) (by decide +kernel)
set_option maxRecDepth 20000 in
theorem u960 : Cond.instanceMethod yX8_filledQuarters ∈ wsL_law := List.mem_of_getElem? (i := 960) (by decide +kernel)
set_option maxRecDepth 20000 in
theorem u961 : Cond.selects RX8 yX8_filledQuarters yX8_filledQuarters ∈ wsL_law := List.mem_of_getElem? (i := 961) (by decide +kernel)
set_option maxRecDepth 20000 in
theorem u962 : Cond.code yX8_filledQuarters cX8_filledQuarters 6 (some .int) ∈ wsL_law := List.mem_of_getElem? (i := 962) (by decide +kernel)
set_option maxRecDepth 20000 in
theorem u971 : Cond.methodLink RX8 299 yX2_partOf ∈ wsL_law := List.mem_of_getElem? (i := 971) (by decide +kernel)
set_option maxRecDepth 20000 in
theorem u980 : Cond.fieldLink RX8 302 "ScaleGroups$Order" "roots" "[I" ∈ wsL_law := List.mem_of_getElem? (i := 980) (by decide +kernel)
set_option maxRecDepth 20000 in
theorem u989 : Cond.fieldLink RX8 309 "ScaleGroups$Lasting" "total" "I" ∈ wsL_law := List.mem_of_getElem? (i := 989) (by decide +kernel)
set_option maxRecDepth 20000 in
theorem u990 : Cond.fieldLink RX8 312 "ScaleGroups$Lasting" "count" "I" ∈ wsL_law := List.mem_of_getElem? (i := 990) (by decide +kernel)
set_option maxRecDepth 20000 in
theorem u991 : Cond.methodLink RX8 305 yX1_choose ∈ wsL_law := List.mem_of_getElem? (i := 991) (by decide +kernel)
set_option maxRecDepth 20000 in
theorem u992 : Cond.instanceMethod yX1_choose ∈ wsL_law := List.mem_of_getElem? (i := 992) (by decide +kernel)
set_option maxRecDepth 20000 in
theorem u993 : Cond.selects RX1 yX1_choose yX1_choose ∈ wsL_law := List.mem_of_getElem? (i := 993) (by decide +kernel)
set_option maxRecDepth 20000 in
theorem u994 : Cond.code yX1_choose cX1_choose 3 none ∈ wsL_law := List.mem_of_getElem? (i := 994) (by decide +kernel)
set_option maxRecDepth 20000 in
theorem u995 : Cond.fieldLink RX1 29 "ScaleGroups$Order" "points" "LScaleGroups$Points;" ∈ wsL_law := List.mem_of_getElem? (i := 995) (by decide +kernel)
set_option maxRecDepth 20000 in
theorem u996 : Cond.fieldLink RX1 35 "ScaleGroups$Points" "count" "I" ∈ wsL_law := List.mem_of_getElem? (i := 996) (by decide +kernel)
set_option maxRecDepth 20000 in
theorem u997 : Cond.fieldLink RX1 38 "ScaleGroups$Order" "count" "I" ∈ wsL_law := List.mem_of_getElem? (i := 997) (by decide +kernel)
set_option maxRecDepth 20000 in
theorem u998 : Cond.methodLink RX1 47 Lib.Math.max.name ∈ wsL_law := List.mem_of_getElem? (i := 998) (by decide +kernel)
set_option maxRecDepth 20000 in
theorem u999 : Cond.methodLink RX1 39 yX2_lastsOf ∈ wsL_law := List.mem_of_getElem? (i := 999) (by decide +kernel)
set_option maxRecDepth 20000 in
theorem u1000 : Cond.methodLink RX1 43 yX1_sidesTotal ∈ wsL_law := List.mem_of_getElem? (i := 1000) (by decide +kernel)
set_option maxRecDepth 20000 in
theorem u1001 : Cond.instanceMethod yX1_sidesTotal ∈ wsL_law := List.mem_of_getElem? (i := 1001) (by decide +kernel)
set_option maxRecDepth 20000 in
theorem u1002 : Cond.selects RX1 yX1_sidesTotal yX1_sidesTotal ∈ wsL_law := List.mem_of_getElem? (i := 1002) (by decide +kernel)
set_option maxRecDepth 20000 in
theorem u1003 : Cond.code yX1_sidesTotal cX1_sidesTotal 3 (some .int) ∈ wsL_law := List.mem_of_getElem? (i := 1003) (by decide +kernel)
set_option maxRecDepth 20000 in
theorem u1004 : Cond.fieldLink RX1 61 "ScaleGroups$Order" "firstSides" "[I" ∈ wsL_law := List.mem_of_getElem? (i := 1004) (by decide +kernel)
set_option maxRecDepth 20000 in
theorem u1005 : Cond.fieldLink RX1 67 "ScaleGroups$Order" "otherSides" "[I" ∈ wsL_law := List.mem_of_getElem? (i := 1005) (by decide +kernel)
set_option maxRecDepth 20000 in
theorem u1006 : Cond.methodLink RX1 64 yX1_totalOf ∈ wsL_law := List.mem_of_getElem? (i := 1006) (by decide +kernel)
set_option maxRecDepth 20000 in
theorem u1007 : Cond.instanceMethod yX1_totalOf ∈ wsL_law := List.mem_of_getElem? (i := 1007) (by decide +kernel)
set_option maxRecDepth 20000 in
theorem u1008 : Cond.selects RX1 yX1_totalOf yX1_totalOf ∈ wsL_law := List.mem_of_getElem? (i := 1008) (by decide +kernel)
set_option maxRecDepth 20000 in
theorem u1009 : Cond.code yX1_totalOf cX1_totalOf 4 (some .int) ∈ wsL_law := List.mem_of_getElem? (i := 1009) (by decide +kernel)
set_option maxRecDepth 20000 in
theorem u1010 : Cond.methodLink RX1 70 yX2_joinOf ∈ wsL_law := List.mem_of_getElem? (i := 1010) (by decide +kernel)
set_option maxRecDepth 20000 in
theorem u1011 : Cond.methodLink RX1 53 yX1_chooseJoins ∈ wsL_law := List.mem_of_getElem? (i := 1011) (by decide +kernel)
set_option maxRecDepth 20000 in
theorem u1012 : Cond.instanceMethod yX1_chooseJoins ∈ wsL_law := List.mem_of_getElem? (i := 1012) (by decide +kernel)
set_option maxRecDepth 20000 in
theorem u1013 : Cond.selects RX1 yX1_chooseJoins yX1_chooseJoins ∈ wsL_law := List.mem_of_getElem? (i := 1013) (by decide +kernel)
set_option maxRecDepth 20000 in
theorem u1014 : Cond.code yX1_chooseJoins cX1_chooseJoins 3 none ∈ wsL_law := List.mem_of_getElem? (i := 1014) (by decide +kernel)
set_option maxRecDepth 20000 in
theorem u1015 : Cond.methodLink RX1 57 yX1_put ∈ wsL_law := List.mem_of_getElem? (i := 1015) (by decide +kernel)
set_option maxRecDepth 20000 in
theorem u1016 : Cond.instanceMethod yX1_put ∈ wsL_law := List.mem_of_getElem? (i := 1016) (by decide +kernel)
set_option maxRecDepth 20000 in
theorem u1017 : Cond.selects RX1 yX1_put yX1_put ∈ wsL_law := List.mem_of_getElem? (i := 1017) (by decide +kernel)
set_option maxRecDepth 20000 in
theorem u1018 : Cond.code yX1_put cX1_put 4 none ∈ wsL_law := List.mem_of_getElem? (i := 1018) (by decide +kernel)
set_option maxRecDepth 20000 in
theorem u1019 : Cond.methodLink RX1 76 yX2_setOf ∈ wsL_law := List.mem_of_getElem? (i := 1019) (by decide +kernel)
set_option maxRecDepth 20000 in
theorem u1020 : Cond.methodLink RX1 79 yX6_least ∈ wsL_law := List.mem_of_getElem? (i := 1020) (by decide +kernel)
set_option maxRecDepth 20000 in
theorem u1021 : Cond.methodLink RX1 73 yX1_openNode ∈ wsL_law := List.mem_of_getElem? (i := 1021) (by decide +kernel)
set_option maxRecDepth 20000 in
theorem u1022 : Cond.instanceMethod yX1_openNode ∈ wsL_law := List.mem_of_getElem? (i := 1022) (by decide +kernel)
set_option maxRecDepth 20000 in
theorem u1023 : Cond.selects RX1 yX1_openNode yX1_openNode ∈ wsL_law := List.mem_of_getElem? (i := 1023) (by decide +kernel)
set_option maxRecDepth 20000 in
theorem u1024 : Cond.code yX1_openNode cX1_openNode 4 none ∈ wsL_law := List.mem_of_getElem? (i := 1024) (by decide +kernel)
set_option maxRecDepth 20000 in
theorem u1025 : Cond.methodLink RX8 313 yX1_nth ∈ wsL_law := List.mem_of_getElem? (i := 1025) (by decide +kernel)
set_option maxRecDepth 20000 in
theorem u1026 : Cond.instanceMethod yX1_nth ∈ wsL_law := List.mem_of_getElem? (i := 1026) (by decide +kernel)
set_option maxRecDepth 20000 in
theorem u1027 : Cond.selects RX1 yX1_nth yX1_nth ∈ wsL_law := List.mem_of_getElem? (i := 1027) (by decide +kernel)
set_option maxRecDepth 20000 in
theorem u1028 : Cond.code yX1_nth cX1_nth 5 (some .int) ∈ wsL_law := List.mem_of_getElem? (i := 1028) (by decide +kernel)
set_option maxRecDepth 20000 in
theorem u1033 : Cond.fieldLink RX9 342 "ScaleGroupsModel" "bestMany" "I" ∈ wsL_law := List.mem_of_getElem? (i := 1033) (by decide +kernel)
set_option maxRecDepth 20000 in
theorem u1034 : Cond.methodLink RX9 339 yX9_takesBest ∈ wsL_law := List.mem_of_getElem? (i := 1034) (by decide +kernel)
set_option maxRecDepth 20000 in
theorem u1035 : Cond.instanceMethod yX9_takesBest ∈ wsL_law := List.mem_of_getElem? (i := 1035) (by decide +kernel)
set_option maxRecDepth 20000 in
theorem u1036 : Cond.selects RX9 yX9_takesBest yX9_takesBest ∈ wsL_law := List.mem_of_getElem? (i := 1036) (by decide +kernel)
set_option maxRecDepth 20000 in
theorem u1037 : Cond.code yX9_takesBest cX9_takesBest 3 none ∈ wsL_law := List.mem_of_getElem? (i := 1037) (by decide +kernel)
set_option maxRecDepth 20000 in
theorem u1038 : Cond.methodLink RX9 336 yX9_bestOf ∈ wsL_law := List.mem_of_getElem? (i := 1038) (by decide +kernel)
set_option maxRecDepth 20000 in
theorem u1039 : Cond.instanceMethod yX9_bestOf ∈ wsL_law := List.mem_of_getElem? (i := 1039) (by decide +kernel)
set_option maxRecDepth 20000 in
theorem u1040 : Cond.selects RX9 yX9_bestOf yX9_bestOf ∈ wsL_law := List.mem_of_getElem? (i := 1040) (by decide +kernel)
set_option maxRecDepth 20000 in
theorem u1041 : Cond.code yX9_bestOf cX9_bestOf 3 (some .int) ∈ wsL_law := List.mem_of_getElem? (i := 1041) (by decide +kernel)
set_option maxRecDepth 20000 in
theorem u1042 : Cond.methodLink RX9 345 yX9_setOfNode ∈ wsL_law := List.mem_of_getElem? (i := 1042) (by decide +kernel)
set_option maxRecDepth 20000 in
theorem u1043 : Cond.instanceMethod yX9_setOfNode ∈ wsL_law := List.mem_of_getElem? (i := 1043) (by decide +kernel)
set_option maxRecDepth 20000 in
theorem u1044 : Cond.selects RX9 yX9_setOfNode yX9_setOfNode ∈ wsL_law := List.mem_of_getElem? (i := 1044) (by decide +kernel)
set_option maxRecDepth 20000 in
theorem u1045 : Cond.code yX9_setOfNode cX9_setOfNode 2 (some .int) ∈ wsL_law := List.mem_of_getElem? (i := 1045) (by decide +kernel)
set_option maxRecDepth 20000 in
theorem u1050 : Cond.fieldLink RX8 317 "ScaleGroups$Labels" "count" "I" ∈ wsL_law := List.mem_of_getElem? (i := 1050) (by decide +kernel)
set_option maxRecDepth 20000 in
theorem u1051 : Cond.methodLink RX8 314 yX8_layLabels ∈ wsL_law := List.mem_of_getElem? (i := 1051) (by decide +kernel)
set_option maxRecDepth 20000 in
theorem u1052 : Cond.instanceMethod yX8_layLabels ∈ wsL_law := List.mem_of_getElem? (i := 1052) (by decide +kernel)
set_option maxRecDepth 20000 in
theorem u1053 : Cond.selects RX8 yX8_layLabels yX8_layLabels ∈ wsL_law := List.mem_of_getElem? (i := 1053) (by decide +kernel)
set_option maxRecDepth 20000 in
theorem u1054 : Cond.code yX8_layLabels cX8_layLabels 2 none ∈ wsL_law := List.mem_of_getElem? (i := 1054) (by decide +kernel)
set_option maxRecDepth 20000 in
theorem u1055 : Cond.methodLink RX8 353 yX0_lay ∈ wsL_law := List.mem_of_getElem? (i := 1055) (by decide +kernel)
set_option maxRecDepth 20000 in
theorem u1056 : Cond.instanceMethod yX0_lay ∈ wsL_law := List.mem_of_getElem? (i := 1056) (by decide +kernel)
set_option maxRecDepth 20000 in
theorem u1057 : Cond.selects RX0 yX0_lay yX0_lay ∈ wsL_law := List.mem_of_getElem? (i := 1057) (by decide +kernel)
set_option maxRecDepth 20000 in
theorem u1058 : Cond.code yX0_lay cX0_lay 6 none ∈ wsL_law := List.mem_of_getElem? (i := 1058) (by decide +kernel)
set_option maxRecDepth 20000 in
theorem u1059 : Cond.fieldLink RX0 22 "ScaleGroups$Scale" "count" "I" ∈ wsL_law := List.mem_of_getElem? (i := 1059) (by decide +kernel)
set_option maxRecDepth 20000 in
theorem u1060 : Cond.methodLink RX0 25 yX6_first ∈ wsL_law := List.mem_of_getElem? (i := 1060) (by decide +kernel)
set_option maxRecDepth 20000 in
theorem u1061 : Cond.static yX6_first ∈ wsL_law := List.mem_of_getElem? (i := 1061) (by decide +kernel)
set_option maxRecDepth 20000 in
theorem u1062 : Cond.code yX6_first cX6_first 1 (some .int) ∈ wsL_law := List.mem_of_getElem? (i := 1062) (by decide +kernel)
set_option maxRecDepth 20000 in
theorem u1063 : Cond.methodLink RX0 31 yX5_heaviest ∈ wsL_law := List.mem_of_getElem? (i := 1063) (by decide +kernel)
set_option maxRecDepth 20000 in
theorem u1064 : Cond.methodLink RX0 35 yX0_isClear ∈ wsL_law := List.mem_of_getElem? (i := 1064) (by decide +kernel)
set_option maxRecDepth 20000 in
theorem u1065 : Cond.instanceMethod yX0_isClear ∈ wsL_law := List.mem_of_getElem? (i := 1065) (by decide +kernel)
set_option maxRecDepth 20000 in
theorem u1066 : Cond.selects RX0 yX0_isClear yX0_isClear ∈ wsL_law := List.mem_of_getElem? (i := 1066) (by decide +kernel)
set_option maxRecDepth 20000 in
theorem u1067 : Cond.code yX0_isClear cX0_isClear 5 (some .boolean) ∈ wsL_law := List.mem_of_getElem? (i := 1067) (by decide +kernel)
set_option maxRecDepth 20000 in
theorem u1068 : Cond.methodLink RX0 39 yX0_nearestTo ∈ wsL_law := List.mem_of_getElem? (i := 1068) (by decide +kernel)
set_option maxRecDepth 20000 in
theorem u1069 : Cond.instanceMethod yX0_nearestTo ∈ wsL_law := List.mem_of_getElem? (i := 1069) (by decide +kernel)
set_option maxRecDepth 20000 in
theorem u1070 : Cond.selects RX0 yX0_nearestTo yX0_nearestTo ∈ wsL_law := List.mem_of_getElem? (i := 1070) (by decide +kernel)
set_option maxRecDepth 20000 in
theorem u1071 : Cond.code yX0_nearestTo cX0_nearestTo 7 (some .int) ∈ wsL_law := List.mem_of_getElem? (i := 1071) (by decide +kernel)
set_option maxRecDepth 20000 in
theorem u1072 : Cond.methodLink RX0 43 yX5_gap ∈ wsL_law := List.mem_of_getElem? (i := 1072) (by decide +kernel)
set_option maxRecDepth 20000 in
theorem u1073 : Cond.instanceMethod yX5_gap ∈ wsL_law := List.mem_of_getElem? (i := 1073) (by decide +kernel)
set_option maxRecDepth 20000 in
theorem u1074 : Cond.selects RX5 yX5_gap yX5_gap ∈ wsL_law := List.mem_of_getElem? (i := 1074) (by decide +kernel)
set_option maxRecDepth 20000 in
theorem u1075 : Cond.code yX5_gap cX5_gap 3 (some .int) ∈ wsL_law := List.mem_of_getElem? (i := 1075) (by decide +kernel)
set_option maxRecDepth 20000 in
theorem u1076 : Cond.methodLink RX5 66 yX6_farther ∈ wsL_law := List.mem_of_getElem? (i := 1076) (by decide +kernel)
set_option maxRecDepth 20000 in
theorem u1081 : Cond.fieldLink RX9 351 "ScaleGroupsModel" "shownMany" "I" ∈ wsL_law := List.mem_of_getElem? (i := 1081) (by decide +kernel)
set_option maxRecDepth 20000 in
theorem u1082 : Cond.methodLink RX9 354 yX9_laysLabels ∈ wsL_law := List.mem_of_getElem? (i := 1082) (by decide +kernel)
set_option maxRecDepth 20000 in
theorem u1083 : Cond.instanceMethod yX9_laysLabels ∈ wsL_law := List.mem_of_getElem? (i := 1083) (by decide +kernel)
set_option maxRecDepth 20000 in
theorem u1084 : Cond.selects RX9 yX9_laysLabels yX9_laysLabels ∈ wsL_law := List.mem_of_getElem? (i := 1084) (by decide +kernel)
set_option maxRecDepth 20000 in
theorem u1085 : Cond.code yX9_laysLabels cX9_laysLabels 5 none ∈ wsL_law := List.mem_of_getElem? (i := 1085) (by decide +kernel)
set_option maxRecDepth 20000 in
theorem u1086 : Cond.fieldLink RX9 348 "ScaleGroupsModel" "rankedMany" "I" ∈ wsL_law := List.mem_of_getElem? (i := 1086) (by decide +kernel)
set_option maxRecDepth 20000 in
theorem u1091 : Cond.fieldLink RX8 321 "ScaleGroups$Labels" "visible" "[I" ∈ wsL_law := List.mem_of_getElem? (i := 1091) (by decide +kernel)
set_option maxRecDepth 20000 in
theorem u1092 : Cond.methodLink RX8 318 yX0_countedWith ∈ wsL_law := List.mem_of_getElem? (i := 1092) (by decide +kernel)
set_option maxRecDepth 20000 in
theorem u1093 : Cond.instanceMethod yX0_countedWith ∈ wsL_law := List.mem_of_getElem? (i := 1093) (by decide +kernel)
set_option maxRecDepth 20000 in
theorem u1094 : Cond.selects RX0 yX0_countedWith yX0_countedWith ∈ wsL_law := List.mem_of_getElem? (i := 1094) (by decide +kernel)
set_option maxRecDepth 20000 in
theorem u1095 : Cond.code yX0_countedWith cX0_countedWith 5 (some .int) ∈ wsL_law := List.mem_of_getElem? (i := 1095) (by decide +kernel)
set_option maxRecDepth 20000 in
theorem u1100 : Cond.methodLink RX9 357 yX9_countedBy ∈ wsL_law := List.mem_of_getElem? (i := 1100) (by decide +kernel)
set_option maxRecDepth 20000 in
theorem u1101 : Cond.instanceMethod yX9_countedBy ∈ wsL_law := List.mem_of_getElem? (i := 1101) (by decide +kernel)
set_option maxRecDepth 20000 in
theorem u1102 : Cond.selects RX9 yX9_countedBy yX9_countedBy ∈ wsL_law := List.mem_of_getElem? (i := 1102) (by decide +kernel)
set_option maxRecDepth 20000 in
theorem u1103 : Cond.code yX9_countedBy cX9_countedBy 4 (some .int) ∈ wsL_law := List.mem_of_getElem? (i := 1103) (by decide +kernel)
set_option maxRecDepth 20000 in
theorem u1108 : Cond.fieldLink RX8 324 "ScaleGroups$Labels" "holders" "[I" ∈ wsL_law := List.mem_of_getElem? (i := 1108) (by decide +kernel)
set_option maxRecDepth 20000 in
theorem u1117 : Cond.methodLink RX8 327 yX2_sumAparts ∈ wsL_law := List.mem_of_getElem? (i := 1117) (by decide +kernel)
set_option maxRecDepth 20000 in
theorem u1118 : Cond.instanceMethod yX2_sumAparts ∈ wsL_law := List.mem_of_getElem? (i := 1118) (by decide +kernel)
set_option maxRecDepth 20000 in
theorem u1119 : Cond.selects RX2 yX2_sumAparts yX2_sumAparts ∈ wsL_law := List.mem_of_getElem? (i := 1119) (by decide +kernel)
set_option maxRecDepth 20000 in
theorem u1120 : Cond.code yX2_sumAparts cX2_sumAparts 3 (some .int) ∈ wsL_law := List.mem_of_getElem? (i := 1120) (by decide +kernel)
set_option maxRecDepth 20000 in
theorem u1121 : Cond.methodLink RX8 331 yX2_sameFromFirst ∈ wsL_law := List.mem_of_getElem? (i := 1121) (by decide +kernel)
set_option maxRecDepth 20000 in
theorem u1122 : Cond.instanceMethod yX2_sameFromFirst ∈ wsL_law := List.mem_of_getElem? (i := 1122) (by decide +kernel)
set_option maxRecDepth 20000 in
theorem u1123 : Cond.selects RX2 yX2_sameFromFirst yX2_sameFromFirst ∈ wsL_law := List.mem_of_getElem? (i := 1123) (by decide +kernel)
set_option maxRecDepth 20000 in
theorem u1124 : Cond.code yX2_sameFromFirst cX2_sameFromFirst 3 (some .int) ∈ wsL_law := List.mem_of_getElem? (i := 1124) (by decide +kernel)
set_option maxRecDepth 20000 in
theorem u1129 : Cond.methodLink RX9 363 yX9_goneOnes ∈ wsL_law := List.mem_of_getElem? (i := 1129) (by decide +kernel)
set_option maxRecDepth 20000 in
theorem u1130 : Cond.instanceMethod yX9_goneOnes ∈ wsL_law := List.mem_of_getElem? (i := 1130) (by decide +kernel)
set_option maxRecDepth 20000 in
theorem u1131 : Cond.selects RX9 yX9_goneOnes yX9_goneOnes ∈ wsL_law := List.mem_of_getElem? (i := 1131) (by decide +kernel)
set_option maxRecDepth 20000 in
theorem u1132 : Cond.code yX9_goneOnes cX9_goneOnes 4 (some .int) ∈ wsL_law := List.mem_of_getElem? (i := 1132) (by decide +kernel)
set_option maxRecDepth 20000 in
theorem u1133 : Cond.methodLink RX9 360 yX9_isGone ∈ wsL_law := List.mem_of_getElem? (i := 1133) (by decide +kernel)
set_option maxRecDepth 20000 in
theorem u1134 : Cond.instanceMethod yX9_isGone ∈ wsL_law := List.mem_of_getElem? (i := 1134) (by decide +kernel)
set_option maxRecDepth 20000 in
theorem u1135 : Cond.selects RX9 yX9_isGone yX9_isGone ∈ wsL_law := List.mem_of_getElem? (i := 1135) (by decide +kernel)
set_option maxRecDepth 20000 in
theorem u1136 : Cond.code yX9_isGone cX9_isGone 3 (some .boolean) ∈ wsL_law := List.mem_of_getElem? (i := 1136) (by decide +kernel)
set_option maxRecDepth 20000 in
theorem u1137 : Cond.methodLink RX9 367 yX9_asTheyWere ∈ wsL_law := List.mem_of_getElem? (i := 1137) (by decide +kernel)
set_option maxRecDepth 20000 in
theorem u1138 : Cond.instanceMethod yX9_asTheyWere ∈ wsL_law := List.mem_of_getElem? (i := 1138) (by decide +kernel)
set_option maxRecDepth 20000 in
theorem u1139 : Cond.selects RX9 yX9_asTheyWere yX9_asTheyWere ∈ wsL_law := List.mem_of_getElem? (i := 1139) (by decide +kernel)
set_option maxRecDepth 20000 in
theorem u1140 : Cond.code yX9_asTheyWere cX9_asTheyWere 2 (some .int) ∈ wsL_law := List.mem_of_getElem? (i := 1140) (by decide +kernel)
set_option maxRecDepth 20000 in
theorem u1145 : Cond.constant RX8 334 (-10000000) ∈ wsL_law := List.mem_of_getElem? (i := 1145) (by decide +kernel)
set_option maxRecDepth 20000 in
theorem u1150 : Cond.constant RX9 370 (-10000000) ∈ wsL_law := List.mem_of_getElem? (i := 1150) (by decide +kernel)
set_option maxRecDepth 20000 in
theorem u1151 : Cond.methodLink RX9 371 yX9_allApart ∈ wsL_law := List.mem_of_getElem? (i := 1151) (by decide +kernel)
set_option maxRecDepth 20000 in
theorem u1152 : Cond.instanceMethod yX9_allApart ∈ wsL_law := List.mem_of_getElem? (i := 1152) (by decide +kernel)
set_option maxRecDepth 20000 in
theorem u1153 : Cond.selects RX9 yX9_allApart yX9_allApart ∈ wsL_law := List.mem_of_getElem? (i := 1153) (by decide +kernel)
set_option maxRecDepth 20000 in
theorem u1154 : Cond.code yX9_allApart cX9_allApart 3 (some .int) ∈ wsL_law := List.mem_of_getElem? (i := 1154) (by decide +kernel)
set_option maxRecDepth 20000 in
theorem u1163 : Cond.methodLink RX9 374 yX9_laysWas ∈ wsL_law := List.mem_of_getElem? (i := 1163) (by decide +kernel)
set_option maxRecDepth 20000 in
theorem u1164 : Cond.instanceMethod yX9_laysWas ∈ wsL_law := List.mem_of_getElem? (i := 1164) (by decide +kernel)
set_option maxRecDepth 20000 in
theorem u1165 : Cond.selects RX9 yX9_laysWas yX9_laysWas ∈ wsL_law := List.mem_of_getElem? (i := 1165) (by decide +kernel)
set_option maxRecDepth 20000 in
theorem u1166 : Cond.code yX9_laysWas cX9_laysWas 6 none ∈ wsL_law := List.mem_of_getElem? (i := 1166) (by decide +kernel)
set_option maxRecDepth 20000 in
theorem u1167 : Cond.methodLink RX9 377 yX9_nowAt ∈ wsL_law := List.mem_of_getElem? (i := 1167) (by decide +kernel)
set_option maxRecDepth 20000 in
theorem u1168 : Cond.instanceMethod yX9_nowAt ∈ wsL_law := List.mem_of_getElem? (i := 1168) (by decide +kernel)
set_option maxRecDepth 20000 in
theorem u1169 : Cond.selects RX9 yX9_nowAt yX9_nowAt ∈ wsL_law := List.mem_of_getElem? (i := 1169) (by decide +kernel)
set_option maxRecDepth 20000 in
theorem u1170 : Cond.code yX9_nowAt cX9_nowAt 2 (some .int) ∈ wsL_law := List.mem_of_getElem? (i := 1170) (by decide +kernel)
set_option maxRecDepth 20000 in
theorem u1175 : Cond.methodLink RX8 339 yX6_first ∈ wsL_law := List.mem_of_getElem? (i := 1175) (by decide +kernel)
set_option maxRecDepth 20000 in
theorem u1176 : Cond.methodLink RX8 342 yX2_sumRoots ∈ wsL_law := List.mem_of_getElem? (i := 1176) (by decide +kernel)
set_option maxRecDepth 20000 in
theorem u1177 : Cond.instanceMethod yX2_sumRoots ∈ wsL_law := List.mem_of_getElem? (i := 1177) (by decide +kernel)
set_option maxRecDepth 20000 in
theorem u1178 : Cond.selects RX2 yX2_sumRoots yX2_sumRoots ∈ wsL_law := List.mem_of_getElem? (i := 1178) (by decide +kernel)
set_option maxRecDepth 20000 in
theorem u1179 : Cond.code yX2_sumRoots cX2_sumRoots 3 (some .int) ∈ wsL_law := List.mem_of_getElem? (i := 1179) (by decide +kernel)
set_option maxRecDepth 20000 in
theorem u1180 : Cond.methodLink RX8 345 yX2_mostLinks ∈ wsL_law := List.mem_of_getElem? (i := 1180) (by decide +kernel)
set_option maxRecDepth 20000 in
theorem u1181 : Cond.instanceMethod yX2_mostLinks ∈ wsL_law := List.mem_of_getElem? (i := 1181) (by decide +kernel)
set_option maxRecDepth 20000 in
theorem u1182 : Cond.selects RX2 yX2_mostLinks yX2_mostLinks ∈ wsL_law := List.mem_of_getElem? (i := 1182) (by decide +kernel)
set_option maxRecDepth 20000 in
theorem u1183 : Cond.code yX2_mostLinks cX2_mostLinks 3 (some .int) ∈ wsL_law := List.mem_of_getElem? (i := 1183) (by decide +kernel)
set_option maxRecDepth 20000 in
theorem u1184 : Cond.methodLink RX2 136 yX2_linksOf ∈ wsL_law := List.mem_of_getElem? (i := 1184) (by decide +kernel)
set_option maxRecDepth 20000 in
theorem u1185 : Cond.methodLink RX8 348 yX8_groupsOfAllZooms ∈ wsL_law := List.mem_of_getElem? (i := 1185) (by decide +kernel)
set_option maxRecDepth 20000 in
theorem u1186 : Cond.instanceMethod yX8_groupsOfAllZooms ∈ wsL_law := List.mem_of_getElem? (i := 1186) (by decide +kernel)
set_option maxRecDepth 20000 in
theorem u1187 : Cond.selects RX8 yX8_groupsOfAllZooms yX8_groupsOfAllZooms ∈ wsL_law := List.mem_of_getElem? (i := 1187) (by decide +kernel)
set_option maxRecDepth 20000 in
theorem u1188 : Cond.code yX8_groupsOfAllZooms cX8_groupsOfAllZooms 3 (some .int) ∈ wsL_law := List.mem_of_getElem? (i := 1188) (by decide +kernel)
set_option maxRecDepth 20000 in
theorem u1189 : Cond.methodLink RX8 357 yX8_groups ∈ wsL_law := List.mem_of_getElem? (i := 1189) (by decide +kernel)
set_option maxRecDepth 20000 in
theorem u1194 : Cond.methodLink RX9 380 yX9_rootsOfAll ∈ wsL_law := List.mem_of_getElem? (i := 1194) (by decide +kernel)
set_option maxRecDepth 20000 in
theorem u1195 : Cond.instanceMethod yX9_rootsOfAll ∈ wsL_law := List.mem_of_getElem? (i := 1195) (by decide +kernel)
set_option maxRecDepth 20000 in
theorem u1196 : Cond.selects RX9 yX9_rootsOfAll yX9_rootsOfAll ∈ wsL_law := List.mem_of_getElem? (i := 1196) (by decide +kernel)
set_option maxRecDepth 20000 in
theorem u1197 : Cond.code yX9_rootsOfAll cX9_rootsOfAll 3 (some .int) ∈ wsL_law := List.mem_of_getElem? (i := 1197) (by decide +kernel)
set_option maxRecDepth 20000 in
theorem u1198 : Cond.methodLink RX9 383 yX9_mostLinks ∈ wsL_law := List.mem_of_getElem? (i := 1198) (by decide +kernel)
set_option maxRecDepth 20000 in
theorem u1199 : Cond.instanceMethod yX9_mostLinks ∈ wsL_law := List.mem_of_getElem? (i := 1199) (by decide +kernel)
set_option maxRecDepth 20000 in
theorem u1200 : Cond.selects RX9 yX9_mostLinks yX9_mostLinks ∈ wsL_law := List.mem_of_getElem? (i := 1200) (by decide +kernel)
set_option maxRecDepth 20000 in
theorem u1201 : Cond.code yX9_mostLinks cX9_mostLinks 3 (some .int) ∈ wsL_law := List.mem_of_getElem? (i := 1201) (by decide +kernel)
set_option maxRecDepth 20000 in
theorem u1202 : Cond.methodLink RX9 386 yX9_groupsOfAll ∈ wsL_law := List.mem_of_getElem? (i := 1202) (by decide +kernel)
set_option maxRecDepth 20000 in
theorem u1203 : Cond.instanceMethod yX9_groupsOfAll ∈ wsL_law := List.mem_of_getElem? (i := 1203) (by decide +kernel)
set_option maxRecDepth 20000 in
theorem u1204 : Cond.selects RX9 yX9_groupsOfAll yX9_groupsOfAll ∈ wsL_law := List.mem_of_getElem? (i := 1204) (by decide +kernel)
set_option maxRecDepth 20000 in
theorem u1205 : Cond.code yX9_groupsOfAll cX9_groupsOfAll 3 (some .int) ∈ wsL_law := List.mem_of_getElem? (i := 1205) (by decide +kernel)
