def wsX11_cue_r2 : List Cond := [Cond.methodLink RX11 194 yX11_refusesPairs, Cond.instanceMethod yX11_refusesPairs, Cond.selects RX11 yX11_refusesPairs yX11_refusesPairs, Cond.code yX11_refusesPairs cX11_refusesPairs 4 (some .int), Cond.methodLink RX11 152 yX11_isBatten, Cond.instanceMethod yX11_isBatten, Cond.selects RX11 yX11_isBatten yX11_isBatten, Cond.code yX11_isBatten cX11_isBatten 2 (some .boolean), Cond.methodLink RX11 185 yX11_isDigit, Cond.static yX11_isDigit, Cond.code yX11_isDigit cX11_isDigit 1 (some .boolean), Cond.methodLink RX11 197 yX11_isTwice, Cond.instanceMethod yX11_isTwice, Cond.selects RX11 yX11_isTwice yX11_isTwice, Cond.code yX11_isTwice cX11_isTwice 6 (some .boolean), Cond.methodLink RX11 188 yX11_goalsAsNow, Cond.instanceMethod yX11_goalsAsNow, Cond.selects RX11 yX11_goalsAsNow yX11_goalsAsNow, Cond.code yX11_goalsAsNow cX11_goalsAsNow 2 none, Cond.fieldLink RX11 28 "FlyFloorModel" "height" "[I", Cond.methodLink RX11 191 yX11_doCue, Cond.instanceMethod yX11_doCue, Cond.selects RX11 yX11_doCue yX11_doCue, Cond.code yX11_doCue cX11_doCue 2 (some .int)]
def wsX11_cue_r3 : List Cond := [Cond.methodLink RX11 172 yX11_canBe, Cond.instanceMethod yX11_canBe, Cond.selects RX11 yX11_canBe yX11_canBe, Cond.code yX11_canBe cX11_canBe 3 (some .boolean), Cond.fieldLink RX11 117 "FlyFloorModel" "hands" "I", Cond.methodLink RX11 155 yX11_pullOf, Cond.instanceMethod yX11_pullOf, Cond.selects RX11 yX11_pullOf yX11_pullOf, Cond.code yX11_pullOf cX11_pullOf 3 (some .int), Cond.fieldLink RX11 22 "FlyFloorModel" "load" "[I", Cond.fieldLink RX11 25 "FlyFloorModel" "bricks" "[I", Cond.fieldLink RX11 19 "FlyFloorModel" "kind" "[I", Cond.methodLink RX11 165 yX11_fouls, Cond.instanceMethod yX11_fouls, Cond.selects RX11 yX11_fouls yX11_fouls, Cond.code yX11_fouls cX11_fouls 2 (some .boolean), Cond.fieldLink RX11 31 "FlyFloorModel" "drop" "[I", Cond.methodLink RX11 176 yX11_beats, Cond.instanceMethod yX11_beats, Cond.selects RX11 yX11_beats yX11_beats, Cond.code yX11_beats cX11_beats 4 (some .int), Cond.methodLink RX11 168 yX11_apart, Cond.static yX11_apart, Cond.code yX11_apart cX11_apart 2 (some .int)]
def wsX11_cue_r4 : List Cond := [Cond.methodLink RX11 179 yX11_remember, Cond.instanceMethod yX11_remember, Cond.selects RX11 yX11_remember yX11_remember, Cond.code yX11_remember cX11_remember 2 none, Cond.fieldLink RX11 135 "FlyFloorModel" "known" "I", Cond.fieldLink RX11 40 "FlyFloorModel" "before" "[I", Cond.methodLink RX11 203 yX11_write, Cond.instanceMethod yX11_write, Cond.selects RX11 yX11_write yX11_write, Cond.code yX11_write cX11_write 4 none, Cond.fieldLink RX11 129 "FlyFloorModel" "stock" "I", Cond.methodLink RX11 182 yX11_goes, Cond.instanceMethod yX11_goes, Cond.selects RX11 yX11_goes yX11_goes, Cond.code yX11_goes cX11_goes 2 none]
def wsX11_cue : List Cond := .code yX11_cue cX11_cue 9 (some .int) :: ((wsX11_cue_r1 ++ (wsX11_cue_r2 ++ (wsX11_cue_r3 ++ wsX11_cue_r4))) ++ wsX110)
def wsX11_runsAway : List Cond := .code yX11_runsAway cX11_runsAway 2 (some .int) :: ([.fieldLink RX11 25 "FlyFloorModel" "bricks" "[I", .fieldLink RX11 22 "FlyFloorModel" "load" "[I", .fieldLink RX11 117 "FlyFloorModel" "hands" "I", .fieldLink RX11 28 "FlyFloorModel" "height" "[I"] ++ wsX110)
def wsX11_hang_r1 : List Cond := [Cond.fieldLink RX11 28 "FlyFloorModel" "height" "[I", Cond.fieldLink RX11 22 "FlyFloorModel" "load" "[I", Cond.methodLink RX11 152 yX11_isBatten, Cond.instanceMethod yX11_isBatten, Cond.selects RX11 yX11_isBatten yX11_isBatten, Cond.initialized RX11, Cond.code yX11_isBatten cX11_isBatten 2 (some .boolean), Cond.fieldLink RX11 87 "FlyFloorModel" "battens" "I", Cond.methodLink RX11 185 yX11_isDigit, Cond.static yX11_isDigit, Cond.code yX11_isDigit cX11_isDigit 1 (some .boolean), Cond.methodLink RX11 83 yX11_within, Cond.static yX11_within, Cond.code yX11_within cX11_within 3 (some .boolean), Cond.methodLink RX11 179 yX11_remember, Cond.instanceMethod yX11_remember, Cond.selects RX11 yX11_remember yX11_remember, Cond.code yX11_remember cX11_remember 2 none, Cond.fieldLink RX11 135 "FlyFloorModel" "known" "I", Cond.fieldLink RX11 40 "FlyFloorModel" "before" "[I", Cond.methodLink RX11 203 yX11_write, Cond.instanceMethod yX11_write, Cond.selects RX11 yX11_write yX11_write, Cond.code yX11_write cX11_write 4 none]
def wsX11_hang_r2 : List Cond := [Cond.fieldLink RX11 25 "FlyFloorModel" "bricks" "[I", Cond.fieldLink RX11 129 "FlyFloorModel" "stock" "I", Cond.methodLink RX11 200 yX11_runsAway, Cond.instanceMethod yX11_runsAway, Cond.selects RX11 yX11_runsAway yX11_runsAway, Cond.code yX11_runsAway cX11_runsAway 2 (some .int), Cond.fieldLink RX11 117 "FlyFloorModel" "hands" "I"]
def wsX11_hang : List Cond := .code yX11_hang cX11_hang 3 (some .int) :: ((wsX11_hang_r1 ++ wsX11_hang_r2) ++ wsX110)
def wsX11_brick_r1 : List Cond := [Cond.fieldLink RX11 28 "FlyFloorModel" "height" "[I", Cond.fieldLink RX11 25 "FlyFloorModel" "bricks" "[I", Cond.fieldLink RX11 129 "FlyFloorModel" "stock" "I", Cond.methodLink RX11 152 yX11_isBatten, Cond.instanceMethod yX11_isBatten, Cond.selects RX11 yX11_isBatten yX11_isBatten, Cond.initialized RX11, Cond.code yX11_isBatten cX11_isBatten 2 (some .boolean), Cond.fieldLink RX11 87 "FlyFloorModel" "battens" "I", Cond.methodLink RX11 185 yX11_isDigit, Cond.static yX11_isDigit, Cond.code yX11_isDigit cX11_isDigit 1 (some .boolean), Cond.methodLink RX11 83 yX11_within, Cond.static yX11_within, Cond.code yX11_within cX11_within 3 (some .boolean), Cond.methodLink RX11 179 yX11_remember, Cond.instanceMethod yX11_remember, Cond.selects RX11 yX11_remember yX11_remember, Cond.code yX11_remember cX11_remember 2 none, Cond.fieldLink RX11 135 "FlyFloorModel" "known" "I", Cond.fieldLink RX11 40 "FlyFloorModel" "before" "[I", Cond.methodLink RX11 203 yX11_write, Cond.instanceMethod yX11_write, Cond.selects RX11 yX11_write yX11_write]
def wsX11_brick_r2 : List Cond := [Cond.code yX11_write cX11_write 4 none, Cond.fieldLink RX11 22 "FlyFloorModel" "load" "[I", Cond.methodLink RX11 200 yX11_runsAway, Cond.instanceMethod yX11_runsAway, Cond.selects RX11 yX11_runsAway yX11_runsAway, Cond.code yX11_runsAway cX11_runsAway 2 (some .int), Cond.fieldLink RX11 117 "FlyFloorModel" "hands" "I"]
def wsX11_brick : List Cond := .code yX11_brick cX11_brick 3 (some .int) :: ((wsX11_brick_r1 ++ wsX11_brick_r2) ++ wsX110)
def wsX11_readBack : List Cond := .code yX11_readBack cX11_readBack 4 none :: ([.fieldLink RX11 28 "FlyFloorModel" "height" "[I", .fieldLink RX11 22 "FlyFloorModel" "load" "[I", .fieldLink RX11 25 "FlyFloorModel" "bricks" "[I", .fieldLink RX11 129 "FlyFloorModel" "stock" "I"] ++ wsX110)
def wsX11_undo : List Cond := .code yX11_undo cX11_undo 1 (some .int) :: ([.fieldLink RX11 135 "FlyFloorModel" "known" "I", .fieldLink RX11 40 "FlyFloorModel" "before" "[I", .methodLink RX11 207 yX11_readBack, .instanceMethod yX11_readBack, .selects RX11 yX11_readBack yX11_readBack, .initialized RX11, .code yX11_readBack cX11_readBack 4 none, .fieldLink RX11 28 "FlyFloorModel" "height" "[I", .fieldLink RX11 22 "FlyFloorModel" "load" "[I", .fieldLink RX11 25 "FlyFloorModel" "bricks" "[I", .fieldLink RX11 129 "FlyFloorModel" "stock" "I"] ++ wsX110)
def wsX11_keep : List Cond := .code yX11_keep cX11_keep 2 (some .int) :: ([.fieldLink RX11 87 "FlyFloorModel" "battens" "I", .fieldLink RX11 47 "FlyFloorModel" "kept" "[I", .fieldLink RX11 50 "FlyFloorModel" "keptHands" "[I", .fieldLink RX11 117 "FlyFloorModel" "hands" "I", .fieldLink RX11 53 "FlyFloorModel" "keptTrim" "[I", .fieldLink RX11 123 "FlyFloorModel" "trimNow" "I", .fieldLink RX11 43 "FlyFloorModel" "isKept" "[Z", .methodLink RX11 83 yX11_within, .static yX11_within, .initialized RX11, .code yX11_within cX11_within 3 (some .boolean), .methodLink RX11 203 yX11_write, .instanceMethod yX11_write, .selects RX11 yX11_write yX11_write, .code yX11_write cX11_write 4 none, .fieldLink RX11 28 "FlyFloorModel" "height" "[I", .fieldLink RX11 22 "FlyFloorModel" "load" "[I", .fieldLink RX11 25 "FlyFloorModel" "bricks" "[I", .fieldLink RX11 129 "FlyFloorModel" "stock" "I"] ++ wsX110)
def wsX11_restore : List Cond := .code yX11_restore cX11_restore 2 (some .int) :: ([.fieldLink RX11 43 "FlyFloorModel" "isKept" "[Z", .fieldLink RX11 47 "FlyFloorModel" "kept" "[I", .fieldLink RX11 50 "FlyFloorModel" "keptHands" "[I", .fieldLink RX11 117 "FlyFloorModel" "hands" "I", .fieldLink RX11 53 "FlyFloorModel" "keptTrim" "[I", .fieldLink RX11 123 "FlyFloorModel" "trimNow" "I", .fieldLink RX11 135 "FlyFloorModel" "known" "I", .fieldLink RX11 129 "FlyFloorModel" "stock" "I", .methodLink RX11 83 yX11_within, .static yX11_within, .initialized RX11, .code yX11_within cX11_within 3 (some .boolean), .methodLink RX11 207 yX11_readBack, .instanceMethod yX11_readBack, .selects RX11 yX11_readBack yX11_readBack, .code yX11_readBack cX11_readBack 4 none, .fieldLink RX11 28 "FlyFloorModel" "height" "[I", .fieldLink RX11 22 "FlyFloorModel" "load" "[I", .fieldLink RX11 25 "FlyFloorModel" "bricks" "[I"] ++ wsX110)
def wsX11_keepHeights : List Cond := .code yX11_keepHeights cX11_keepHeights 2 none :: ([.fieldLink RX11 56 "FlyFloorModel" "heightWas" "[I", .fieldLink RX11 28 "FlyFloorModel" "height" "[I"] ++ wsX110)
def wsX11_putHeights : List Cond := .code yX11_putHeights cX11_putHeights 2 none :: ([.fieldLink RX11 28 "FlyFloorModel" "height" "[I", .fieldLink RX11 56 "FlyFloorModel" "heightWas" "[I"] ++ wsX110)
def wsX11_goAct_r1 : List Cond := [Cond.fieldLink RX11 210 "FlyFloorModel" "allBeats" "I", Cond.fieldLink RX11 213 "FlyFloorModel" "allEffort" "I", Cond.fieldLink RX11 37 "FlyFloorModel" "goal" "[I", Cond.fieldLink RX11 16 "FlyFloorModel" "cells" "[I", Cond.methodLink RX11 188 yX11_goalsAsNow, Cond.instanceMethod yX11_goalsAsNow, Cond.selects RX11 yX11_goalsAsNow yX11_goalsAsNow, Cond.initialized RX11, Cond.code yX11_goalsAsNow cX11_goalsAsNow 2 none, Cond.fieldLink RX11 87 "FlyFloorModel" "battens" "I", Cond.fieldLink RX11 28 "FlyFloorModel" "height" "[I", Cond.methodLink RX11 172 yX11_canBe, Cond.instanceMethod yX11_canBe, Cond.selects RX11 yX11_canBe yX11_canBe, Cond.code yX11_canBe cX11_canBe 3 (some .boolean), Cond.fieldLink RX11 117 "FlyFloorModel" "hands" "I", Cond.methodLink RX11 155 yX11_pullOf, Cond.instanceMethod yX11_pullOf, Cond.selects RX11 yX11_pullOf yX11_pullOf, Cond.code yX11_pullOf cX11_pullOf 3 (some .int), Cond.fieldLink RX11 22 "FlyFloorModel" "load" "[I", Cond.fieldLink RX11 25 "FlyFloorModel" "bricks" "[I", Cond.fieldLink RX11 19 "FlyFloorModel" "kind" "[I", Cond.methodLink RX11 165 yX11_fouls]
def wsX11_goAct_r2 : List Cond := [Cond.instanceMethod yX11_fouls, Cond.selects RX11 yX11_fouls yX11_fouls, Cond.code yX11_fouls cX11_fouls 2 (some .boolean), Cond.fieldLink RX11 31 "FlyFloorModel" "drop" "[I", Cond.methodLink RX11 176 yX11_beats, Cond.instanceMethod yX11_beats, Cond.selects RX11 yX11_beats yX11_beats, Cond.code yX11_beats cX11_beats 4 (some .int), Cond.methodLink RX11 168 yX11_apart, Cond.static yX11_apart, Cond.code yX11_apart cX11_apart 2 (some .int), Cond.methodLink RX11 216 yX11_effort, Cond.instanceMethod yX11_effort, Cond.selects RX11 yX11_effort yX11_effort, Cond.code yX11_effort cX11_effort 3 (some .int), Cond.methodLink RX11 182 yX11_goes, Cond.instanceMethod yX11_goes, Cond.selects RX11 yX11_goes yX11_goes, Cond.code yX11_goes cX11_goes 2 none]
def wsX11_goAct : List Cond := .code yX11_goAct cX11_goAct 4 (some .int) :: ((wsX11_goAct_r1 ++ wsX11_goAct_r2) ++ wsX110)
def wsX11_tellAct : List Cond := .code yX11_tellAct cX11_tellAct 2 (some .int) :: ([.fieldLink RX11 28 "FlyFloorModel" "height" "[I", .fieldLink RX11 210 "FlyFloorModel" "allBeats" "I", .fieldLink RX11 213 "FlyFloorModel" "allEffort" "I", .methodLink RX11 152 yX11_isBatten, .instanceMethod yX11_isBatten, .selects RX11 yX11_isBatten yX11_isBatten, .initialized RX11, .code yX11_isBatten cX11_isBatten 2 (some .boolean), .fieldLink RX11 87 "FlyFloorModel" "battens" "I", .methodLink RX11 161 yX11_seenNow, .instanceMethod yX11_seenNow, .selects RX11 yX11_seenNow yX11_seenNow, .code yX11_seenNow cX11_seenNow 4 (some .int), .fieldLink RX11 123 "FlyFloorModel" "trimNow" "I", .methodLink RX11 158 yX11_edgeOf, .instanceMethod yX11_edgeOf, .selects RX11 yX11_edgeOf yX11_edgeOf, .code yX11_edgeOf cX11_edgeOf 2 (some .int), .fieldLink RX11 31 "FlyFloorModel" "drop" "[I"] ++ wsX110)
def wsX11_act_r1 : List Cond := [Cond.fieldLink RX11 77 "FlyFloorModel" "fault" "I", Cond.fieldLink RX11 87 "FlyFloorModel" "battens" "I", Cond.methodLink RX11 93 yX11_isSheet, Cond.static yX11_isSheet, Cond.initialized RX11, Cond.code yX11_isSheet cX11_isSheet 1 (some .boolean), Cond.methodLink RX11 83 yX11_within, Cond.static yX11_within, Cond.code yX11_within cX11_within 3 (some .boolean), Cond.methodLink RX11 97 yX11_isSort, Cond.static yX11_isSort, Cond.code yX11_isSort cX11_isSort 1 (some .boolean), Cond.methodLink RX11 100 yX11_against, Cond.instanceMethod yX11_against, Cond.selects RX11 yX11_against yX11_against, Cond.code yX11_against cX11_against 5 (some .int), Cond.fieldLink RX11 9 "FlyFloorModel" "sorts" "[I", Cond.fieldLink RX11 13 "FlyFloorModel" "sheetLong" "[I", Cond.methodLink RX11 104 yX11_fails, Cond.instanceMethod yX11_fails, Cond.selects RX11 yX11_fails yX11_fails, Cond.code yX11_fails cX11_fails 2 (some .int), Cond.methodLink RX11 194 yX11_refusesPairs, Cond.instanceMethod yX11_refusesPairs]
def wsX11_act_r2 : List Cond := [Cond.selects RX11 yX11_refusesPairs yX11_refusesPairs, Cond.code yX11_refusesPairs cX11_refusesPairs 4 (some .int), Cond.fieldLink RX11 16 "FlyFloorModel" "cells" "[I", Cond.methodLink RX11 152 yX11_isBatten, Cond.instanceMethod yX11_isBatten, Cond.selects RX11 yX11_isBatten yX11_isBatten, Cond.code yX11_isBatten cX11_isBatten 2 (some .boolean), Cond.methodLink RX11 185 yX11_isDigit, Cond.static yX11_isDigit, Cond.code yX11_isDigit cX11_isDigit 1 (some .boolean), Cond.methodLink RX11 219 yX11_keepHeights, Cond.instanceMethod yX11_keepHeights, Cond.selects RX11 yX11_keepHeights yX11_keepHeights, Cond.code yX11_keepHeights cX11_keepHeights 2 none, Cond.fieldLink RX11 56 "FlyFloorModel" "heightWas" "[I", Cond.fieldLink RX11 28 "FlyFloorModel" "height" "[I", Cond.methodLink RX11 222 yX11_goAct, Cond.instanceMethod yX11_goAct, Cond.selects RX11 yX11_goAct yX11_goAct, Cond.code yX11_goAct cX11_goAct 4 (some .int), Cond.fieldLink RX11 210 "FlyFloorModel" "allBeats" "I", Cond.fieldLink RX11 213 "FlyFloorModel" "allEffort" "I", Cond.fieldLink RX11 37 "FlyFloorModel" "goal" "[I", Cond.methodLink RX11 188 yX11_goalsAsNow]
def wsX11_act_r3 : List Cond := [Cond.instanceMethod yX11_goalsAsNow, Cond.selects RX11 yX11_goalsAsNow yX11_goalsAsNow, Cond.code yX11_goalsAsNow cX11_goalsAsNow 2 none, Cond.methodLink RX11 172 yX11_canBe, Cond.instanceMethod yX11_canBe, Cond.selects RX11 yX11_canBe yX11_canBe, Cond.code yX11_canBe cX11_canBe 3 (some .boolean), Cond.fieldLink RX11 117 "FlyFloorModel" "hands" "I", Cond.methodLink RX11 155 yX11_pullOf, Cond.instanceMethod yX11_pullOf, Cond.selects RX11 yX11_pullOf yX11_pullOf, Cond.code yX11_pullOf cX11_pullOf 3 (some .int), Cond.fieldLink RX11 22 "FlyFloorModel" "load" "[I", Cond.fieldLink RX11 25 "FlyFloorModel" "bricks" "[I", Cond.fieldLink RX11 19 "FlyFloorModel" "kind" "[I", Cond.methodLink RX11 165 yX11_fouls, Cond.instanceMethod yX11_fouls, Cond.selects RX11 yX11_fouls yX11_fouls, Cond.code yX11_fouls cX11_fouls 2 (some .boolean), Cond.fieldLink RX11 31 "FlyFloorModel" "drop" "[I", Cond.methodLink RX11 176 yX11_beats, Cond.instanceMethod yX11_beats, Cond.selects RX11 yX11_beats yX11_beats, Cond.code yX11_beats cX11_beats 4 (some .int)]
def wsX11_act_r4 : List Cond := [Cond.methodLink RX11 168 yX11_apart, Cond.static yX11_apart, Cond.code yX11_apart cX11_apart 2 (some .int), Cond.methodLink RX11 216 yX11_effort, Cond.instanceMethod yX11_effort, Cond.selects RX11 yX11_effort yX11_effort, Cond.code yX11_effort cX11_effort 3 (some .int), Cond.methodLink RX11 182 yX11_goes, Cond.instanceMethod yX11_goes, Cond.selects RX11 yX11_goes yX11_goes, Cond.code yX11_goes cX11_goes 2 none, Cond.methodLink RX11 225 yX11_tellAct, Cond.instanceMethod yX11_tellAct, Cond.selects RX11 yX11_tellAct yX11_tellAct, Cond.code yX11_tellAct cX11_tellAct 2 (some .int), Cond.methodLink RX11 161 yX11_seenNow, Cond.instanceMethod yX11_seenNow, Cond.selects RX11 yX11_seenNow yX11_seenNow, Cond.code yX11_seenNow cX11_seenNow 4 (some .int), Cond.fieldLink RX11 123 "FlyFloorModel" "trimNow" "I", Cond.methodLink RX11 158 yX11_edgeOf, Cond.instanceMethod yX11_edgeOf, Cond.selects RX11 yX11_edgeOf yX11_edgeOf, Cond.code yX11_edgeOf cX11_edgeOf 2 (some .int)]
def wsX11_act_r5 : List Cond := [Cond.methodLink RX11 228 yX11_putHeights, Cond.instanceMethod yX11_putHeights, Cond.selects RX11 yX11_putHeights yX11_putHeights, Cond.code yX11_putHeights cX11_putHeights 2 none]
def wsX11_act : List Cond := .code yX11_act cX11_act 11 (some .int) :: ((wsX11_act_r1 ++ (wsX11_act_r2 ++ (wsX11_act_r3 ++ (wsX11_act_r4 ++ wsX11_act_r5)))) ++ wsX110)
def wsX11_crew_r1 : List Cond := [Cond.fieldLink RX11 77 "FlyFloorModel" "fault" "I", Cond.fieldLink RX11 87 "FlyFloorModel" "battens" "I", Cond.fieldLink RX11 117 "FlyFloorModel" "hands" "I", Cond.methodLink RX11 93 yX11_isSheet, Cond.static yX11_isSheet, Cond.initialized RX11, Cond.code yX11_isSheet cX11_isSheet 1 (some .boolean), Cond.methodLink RX11 83 yX11_within, Cond.static yX11_within, Cond.code yX11_within cX11_within 3 (some .boolean), Cond.methodLink RX11 97 yX11_isSort, Cond.static yX11_isSort, Cond.code yX11_isSort cX11_isSort 1 (some .boolean), Cond.methodLink RX11 100 yX11_against, Cond.instanceMethod yX11_against, Cond.selects RX11 yX11_against yX11_against, Cond.code yX11_against cX11_against 5 (some .int), Cond.fieldLink RX11 9 "FlyFloorModel" "sorts" "[I", Cond.fieldLink RX11 13 "FlyFloorModel" "sheetLong" "[I", Cond.methodLink RX11 104 yX11_fails, Cond.instanceMethod yX11_fails, Cond.selects RX11 yX11_fails yX11_fails, Cond.code yX11_fails cX11_fails 2 (some .int), Cond.methodLink RX11 194 yX11_refusesPairs]
def wsX11_crew_r2 : List Cond := [Cond.instanceMethod yX11_refusesPairs, Cond.selects RX11 yX11_refusesPairs yX11_refusesPairs, Cond.code yX11_refusesPairs cX11_refusesPairs 4 (some .int), Cond.fieldLink RX11 16 "FlyFloorModel" "cells" "[I", Cond.methodLink RX11 152 yX11_isBatten, Cond.instanceMethod yX11_isBatten, Cond.selects RX11 yX11_isBatten yX11_isBatten, Cond.code yX11_isBatten cX11_isBatten 2 (some .boolean), Cond.methodLink RX11 185 yX11_isDigit, Cond.static yX11_isDigit, Cond.code yX11_isDigit cX11_isDigit 1 (some .boolean), Cond.methodLink RX11 219 yX11_keepHeights, Cond.instanceMethod yX11_keepHeights, Cond.selects RX11 yX11_keepHeights yX11_keepHeights, Cond.code yX11_keepHeights cX11_keepHeights 2 none, Cond.fieldLink RX11 56 "FlyFloorModel" "heightWas" "[I", Cond.fieldLink RX11 28 "FlyFloorModel" "height" "[I", Cond.methodLink RX11 222 yX11_goAct, Cond.instanceMethod yX11_goAct, Cond.selects RX11 yX11_goAct yX11_goAct, Cond.code yX11_goAct cX11_goAct 4 (some .int), Cond.fieldLink RX11 210 "FlyFloorModel" "allBeats" "I", Cond.fieldLink RX11 213 "FlyFloorModel" "allEffort" "I", Cond.fieldLink RX11 37 "FlyFloorModel" "goal" "[I"]
def wsX11_crew_r3 : List Cond := [Cond.methodLink RX11 188 yX11_goalsAsNow, Cond.instanceMethod yX11_goalsAsNow, Cond.selects RX11 yX11_goalsAsNow yX11_goalsAsNow, Cond.code yX11_goalsAsNow cX11_goalsAsNow 2 none, Cond.methodLink RX11 172 yX11_canBe, Cond.instanceMethod yX11_canBe, Cond.selects RX11 yX11_canBe yX11_canBe, Cond.code yX11_canBe cX11_canBe 3 (some .boolean), Cond.methodLink RX11 155 yX11_pullOf, Cond.instanceMethod yX11_pullOf, Cond.selects RX11 yX11_pullOf yX11_pullOf, Cond.code yX11_pullOf cX11_pullOf 3 (some .int), Cond.fieldLink RX11 22 "FlyFloorModel" "load" "[I", Cond.fieldLink RX11 25 "FlyFloorModel" "bricks" "[I", Cond.fieldLink RX11 19 "FlyFloorModel" "kind" "[I", Cond.methodLink RX11 165 yX11_fouls, Cond.instanceMethod yX11_fouls, Cond.selects RX11 yX11_fouls yX11_fouls, Cond.code yX11_fouls cX11_fouls 2 (some .boolean), Cond.fieldLink RX11 31 "FlyFloorModel" "drop" "[I", Cond.methodLink RX11 176 yX11_beats, Cond.instanceMethod yX11_beats, Cond.selects RX11 yX11_beats yX11_beats, Cond.code yX11_beats cX11_beats 4 (some .int)]
def wsX11_crew_r4 : List Cond := [Cond.methodLink RX11 168 yX11_apart, Cond.static yX11_apart, Cond.code yX11_apart cX11_apart 2 (some .int), Cond.methodLink RX11 216 yX11_effort, Cond.instanceMethod yX11_effort, Cond.selects RX11 yX11_effort yX11_effort, Cond.code yX11_effort cX11_effort 3 (some .int), Cond.methodLink RX11 182 yX11_goes, Cond.instanceMethod yX11_goes, Cond.selects RX11 yX11_goes yX11_goes, Cond.code yX11_goes cX11_goes 2 none, Cond.methodLink RX11 228 yX11_putHeights, Cond.instanceMethod yX11_putHeights, Cond.selects RX11 yX11_putHeights yX11_putHeights, Cond.code yX11_putHeights cX11_putHeights 2 none]
def wsX11_crew : List Cond := .code yX11_crew cX11_crew 11 (some .int) :: ((wsX11_crew_r1 ++ (wsX11_crew_r2 ++ (wsX11_crew_r3 ++ wsX11_crew_r4))) ++ wsX110)
def wsX11_placeBy : List Cond := .code yX11_placeBy cX11_placeBy 4 (some .int) :: ([.fieldLink RX11 28 "FlyFloorModel" "height" "[I"] ++ wsX110)
def wsX11_goalsBy : List Cond := .code yX11_goalsBy cX11_goalsBy 5 (some .boolean) :: ([.fieldLink RX11 231 "FlyFloorModel" "goMany" "I", .fieldLink RX11 234 "FlyFloorModel" "goEffort" "I", .fieldLink RX11 87 "FlyFloorModel" "battens" "I", .fieldLink RX11 37 "FlyFloorModel" "goal" "[I", .fieldLink RX11 28 "FlyFloorModel" "height" "[I", .fieldLink RX11 117 "FlyFloorModel" "hands" "I", .methodLink RX11 237 yX11_placeBy, .instanceMethod yX11_placeBy, .selects RX11 yX11_placeBy yX11_placeBy, .initialized RX11, .code yX11_placeBy cX11_placeBy 4 (some .int), .methodLink RX11 155 yX11_pullOf, .instanceMethod yX11_pullOf, .selects RX11 yX11_pullOf yX11_pullOf, .code yX11_pullOf cX11_pullOf 3 (some .int), .fieldLink RX11 22 "FlyFloorModel" "load" "[I", .fieldLink RX11 25 "FlyFloorModel" "bricks" "[I", .fieldLink RX11 19 "FlyFloorModel" "kind" "[I", .methodLink RX11 168 yX11_apart, .static yX11_apart, .code yX11_apart cX11_apart 2 (some .int)] ++ wsX110)
def wsX11_isPicture_r1 : List Cond := [Cond.methodLink RX11 219 yX11_keepHeights, Cond.instanceMethod yX11_keepHeights, Cond.selects RX11 yX11_keepHeights yX11_keepHeights, Cond.initialized RX11, Cond.code yX11_keepHeights cX11_keepHeights 2 none, Cond.fieldLink RX11 56 "FlyFloorModel" "heightWas" "[I", Cond.fieldLink RX11 28 "FlyFloorModel" "height" "[I", Cond.methodLink RX11 182 yX11_goes, Cond.instanceMethod yX11_goes, Cond.selects RX11 yX11_goes yX11_goes, Cond.code yX11_goes cX11_goes 2 none, Cond.fieldLink RX11 87 "FlyFloorModel" "battens" "I", Cond.fieldLink RX11 37 "FlyFloorModel" "goal" "[I", Cond.methodLink RX11 161 yX11_seenNow, Cond.instanceMethod yX11_seenNow, Cond.selects RX11 yX11_seenNow yX11_seenNow, Cond.code yX11_seenNow cX11_seenNow 4 (some .int), Cond.fieldLink RX11 123 "FlyFloorModel" "trimNow" "I", Cond.methodLink RX11 158 yX11_edgeOf, Cond.instanceMethod yX11_edgeOf, Cond.selects RX11 yX11_edgeOf yX11_edgeOf, Cond.code yX11_edgeOf cX11_edgeOf 2 (some .int), Cond.fieldLink RX11 31 "FlyFloorModel" "drop" "[I", Cond.methodLink RX11 228 yX11_putHeights]
def wsX11_isPicture_r2 : List Cond := [Cond.instanceMethod yX11_putHeights, Cond.selects RX11 yX11_putHeights yX11_putHeights, Cond.code yX11_putHeights cX11_putHeights 2 none]
def wsX11_isPicture : List Cond := .code yX11_isPicture cX11_isPicture 3 (some .boolean) :: ((wsX11_isPicture_r1 ++ wsX11_isPicture_r2) ++ wsX110)
def wsX11_findPicture_r1 : List Cond := [Cond.fieldLink RX11 87 "FlyFloorModel" "battens" "I", Cond.constant RX11 240 (1000000), Cond.fieldLink RX11 231 "FlyFloorModel" "goMany" "I", Cond.fieldLink RX11 234 "FlyFloorModel" "goEffort" "I", Cond.fieldLink RX11 59 "FlyFloorModel" "picture" "[I", Cond.fieldLink RX11 37 "FlyFloorModel" "goal" "[I", Cond.methodLink RX11 241 yX11_goalsBy, Cond.instanceMethod yX11_goalsBy, Cond.selects RX11 yX11_goalsBy yX11_goalsBy, Cond.initialized RX11, Cond.code yX11_goalsBy cX11_goalsBy 5 (some .boolean), Cond.fieldLink RX11 28 "FlyFloorModel" "height" "[I", Cond.fieldLink RX11 117 "FlyFloorModel" "hands" "I", Cond.methodLink RX11 237 yX11_placeBy, Cond.instanceMethod yX11_placeBy, Cond.selects RX11 yX11_placeBy yX11_placeBy, Cond.code yX11_placeBy cX11_placeBy 4 (some .int), Cond.methodLink RX11 155 yX11_pullOf, Cond.instanceMethod yX11_pullOf, Cond.selects RX11 yX11_pullOf yX11_pullOf, Cond.code yX11_pullOf cX11_pullOf 3 (some .int), Cond.fieldLink RX11 22 "FlyFloorModel" "load" "[I", Cond.fieldLink RX11 25 "FlyFloorModel" "bricks" "[I", Cond.fieldLink RX11 19 "FlyFloorModel" "kind" "[I"]
def wsX11_findPicture_r2 : List Cond := [Cond.methodLink RX11 168 yX11_apart, Cond.static yX11_apart, Cond.code yX11_apart cX11_apart 2 (some .int), Cond.methodLink RX11 244 yX11_isPicture, Cond.instanceMethod yX11_isPicture, Cond.selects RX11 yX11_isPicture yX11_isPicture, Cond.code yX11_isPicture cX11_isPicture 3 (some .boolean), Cond.methodLink RX11 219 yX11_keepHeights, Cond.instanceMethod yX11_keepHeights, Cond.selects RX11 yX11_keepHeights yX11_keepHeights, Cond.code yX11_keepHeights cX11_keepHeights 2 none, Cond.fieldLink RX11 56 "FlyFloorModel" "heightWas" "[I", Cond.methodLink RX11 182 yX11_goes, Cond.instanceMethod yX11_goes, Cond.selects RX11 yX11_goes yX11_goes, Cond.code yX11_goes cX11_goes 2 none, Cond.methodLink RX11 161 yX11_seenNow, Cond.instanceMethod yX11_seenNow, Cond.selects RX11 yX11_seenNow yX11_seenNow, Cond.code yX11_seenNow cX11_seenNow 4 (some .int), Cond.fieldLink RX11 123 "FlyFloorModel" "trimNow" "I", Cond.methodLink RX11 158 yX11_edgeOf, Cond.instanceMethod yX11_edgeOf, Cond.selects RX11 yX11_edgeOf yX11_edgeOf]
def wsX11_findPicture_r3 : List Cond := [Cond.code yX11_edgeOf cX11_edgeOf 2 (some .int), Cond.fieldLink RX11 31 "FlyFloorModel" "drop" "[I", Cond.methodLink RX11 228 yX11_putHeights, Cond.instanceMethod yX11_putHeights, Cond.selects RX11 yX11_putHeights yX11_putHeights, Cond.code yX11_putHeights cX11_putHeights 2 none]
def wsX11_findPicture : List Cond := .code yX11_findPicture cX11_findPicture 6 (some .int) :: ((wsX11_findPicture_r1 ++ (wsX11_findPicture_r2 ++ wsX11_findPicture_r3)) ++ wsX110)
def wsX11_picture_r1 : List Cond := [Cond.fieldLink RX11 87 "FlyFloorModel" "battens" "I", Cond.constant RX11 240 (1000000), Cond.fieldLink RX11 59 "FlyFloorModel" "picture" "[I", Cond.methodLink RX11 83 yX11_within, Cond.static yX11_within, Cond.initialized RX11, Cond.code yX11_within cX11_within 3 (some .boolean), Cond.methodLink RX11 247 yX11_findPicture, Cond.instanceMethod yX11_findPicture, Cond.selects RX11 yX11_findPicture yX11_findPicture, Cond.code yX11_findPicture cX11_findPicture 6 (some .int), Cond.fieldLink RX11 231 "FlyFloorModel" "goMany" "I", Cond.fieldLink RX11 234 "FlyFloorModel" "goEffort" "I", Cond.fieldLink RX11 37 "FlyFloorModel" "goal" "[I", Cond.methodLink RX11 241 yX11_goalsBy, Cond.instanceMethod yX11_goalsBy, Cond.selects RX11 yX11_goalsBy yX11_goalsBy, Cond.code yX11_goalsBy cX11_goalsBy 5 (some .boolean), Cond.fieldLink RX11 28 "FlyFloorModel" "height" "[I", Cond.fieldLink RX11 117 "FlyFloorModel" "hands" "I", Cond.methodLink RX11 237 yX11_placeBy, Cond.instanceMethod yX11_placeBy, Cond.selects RX11 yX11_placeBy yX11_placeBy, Cond.code yX11_placeBy cX11_placeBy 4 (some .int)]
def wsX11_picture_r2 : List Cond := [Cond.methodLink RX11 155 yX11_pullOf, Cond.instanceMethod yX11_pullOf, Cond.selects RX11 yX11_pullOf yX11_pullOf, Cond.code yX11_pullOf cX11_pullOf 3 (some .int), Cond.fieldLink RX11 22 "FlyFloorModel" "load" "[I", Cond.fieldLink RX11 25 "FlyFloorModel" "bricks" "[I", Cond.fieldLink RX11 19 "FlyFloorModel" "kind" "[I", Cond.methodLink RX11 168 yX11_apart, Cond.static yX11_apart, Cond.code yX11_apart cX11_apart 2 (some .int), Cond.methodLink RX11 244 yX11_isPicture, Cond.instanceMethod yX11_isPicture, Cond.selects RX11 yX11_isPicture yX11_isPicture, Cond.code yX11_isPicture cX11_isPicture 3 (some .boolean), Cond.methodLink RX11 219 yX11_keepHeights, Cond.instanceMethod yX11_keepHeights, Cond.selects RX11 yX11_keepHeights yX11_keepHeights, Cond.code yX11_keepHeights cX11_keepHeights 2 none, Cond.fieldLink RX11 56 "FlyFloorModel" "heightWas" "[I", Cond.methodLink RX11 182 yX11_goes, Cond.instanceMethod yX11_goes, Cond.selects RX11 yX11_goes yX11_goes, Cond.code yX11_goes cX11_goes 2 none, Cond.methodLink RX11 161 yX11_seenNow]
def wsX11_picture_r3 : List Cond := [Cond.instanceMethod yX11_seenNow, Cond.selects RX11 yX11_seenNow yX11_seenNow, Cond.code yX11_seenNow cX11_seenNow 4 (some .int), Cond.fieldLink RX11 123 "FlyFloorModel" "trimNow" "I", Cond.methodLink RX11 158 yX11_edgeOf, Cond.instanceMethod yX11_edgeOf, Cond.selects RX11 yX11_edgeOf yX11_edgeOf, Cond.code yX11_edgeOf cX11_edgeOf 2 (some .int), Cond.fieldLink RX11 31 "FlyFloorModel" "drop" "[I", Cond.methodLink RX11 228 yX11_putHeights, Cond.instanceMethod yX11_putHeights, Cond.selects RX11 yX11_putHeights yX11_putHeights, Cond.code yX11_putHeights cX11_putHeights 2 none, Cond.methodLink RX11 152 yX11_isBatten, Cond.instanceMethod yX11_isBatten, Cond.selects RX11 yX11_isBatten yX11_isBatten, Cond.code yX11_isBatten cX11_isBatten 2 (some .boolean)]
def wsX11_picture : List Cond := .code yX11_picture cX11_picture 4 (some .int) :: ((wsX11_picture_r1 ++ (wsX11_picture_r2 ++ wsX11_picture_r3)) ++ wsX110)
def wsX11_canSplit_r1 : List Cond := [Cond.fieldLink RX11 62 "FlyFloorModel" "cueOf" "[I", Cond.fieldLink RX11 37 "FlyFloorModel" "goal" "[I", Cond.fieldLink RX11 16 "FlyFloorModel" "cells" "[I", Cond.methodLink RX11 219 yX11_keepHeights, Cond.instanceMethod yX11_keepHeights, Cond.selects RX11 yX11_keepHeights yX11_keepHeights, Cond.initialized RX11, Cond.code yX11_keepHeights cX11_keepHeights 2 none, Cond.fieldLink RX11 56 "FlyFloorModel" "heightWas" "[I", Cond.fieldLink RX11 28 "FlyFloorModel" "height" "[I", Cond.methodLink RX11 188 yX11_goalsAsNow, Cond.instanceMethod yX11_goalsAsNow, Cond.selects RX11 yX11_goalsAsNow yX11_goalsAsNow, Cond.code yX11_goalsAsNow cX11_goalsAsNow 2 none, Cond.fieldLink RX11 87 "FlyFloorModel" "battens" "I", Cond.methodLink RX11 172 yX11_canBe, Cond.instanceMethod yX11_canBe, Cond.selects RX11 yX11_canBe yX11_canBe, Cond.code yX11_canBe cX11_canBe 3 (some .boolean), Cond.fieldLink RX11 117 "FlyFloorModel" "hands" "I", Cond.methodLink RX11 155 yX11_pullOf, Cond.instanceMethod yX11_pullOf, Cond.selects RX11 yX11_pullOf yX11_pullOf, Cond.code yX11_pullOf cX11_pullOf 3 (some .int)]
def wsX11_canSplit_r2 : List Cond := [Cond.fieldLink RX11 22 "FlyFloorModel" "load" "[I", Cond.fieldLink RX11 25 "FlyFloorModel" "bricks" "[I", Cond.fieldLink RX11 19 "FlyFloorModel" "kind" "[I", Cond.methodLink RX11 165 yX11_fouls, Cond.instanceMethod yX11_fouls, Cond.selects RX11 yX11_fouls yX11_fouls, Cond.code yX11_fouls cX11_fouls 2 (some .boolean), Cond.fieldLink RX11 31 "FlyFloorModel" "drop" "[I", Cond.methodLink RX11 182 yX11_goes, Cond.instanceMethod yX11_goes, Cond.selects RX11 yX11_goes yX11_goes, Cond.code yX11_goes cX11_goes 2 none, Cond.methodLink RX11 228 yX11_putHeights, Cond.instanceMethod yX11_putHeights, Cond.selects RX11 yX11_putHeights yX11_putHeights, Cond.code yX11_putHeights cX11_putHeights 2 none]
def wsX11_canSplit : List Cond := .code yX11_canSplit cX11_canSplit 7 (some .boolean) :: ((wsX11_canSplit_r1 ++ wsX11_canSplit_r2) ++ wsX110)
def wsX11_findSplit_r1 : List Cond := [Cond.fieldLink RX11 62 "FlyFloorModel" "cueOf" "[I", Cond.fieldLink RX11 65 "FlyFloorModel" "splitted" "[I", Cond.methodLink RX11 250 yX11_canSplit, Cond.instanceMethod yX11_canSplit, Cond.selects RX11 yX11_canSplit yX11_canSplit, Cond.initialized RX11, Cond.code yX11_canSplit cX11_canSplit 7 (some .boolean), Cond.fieldLink RX11 37 "FlyFloorModel" "goal" "[I", Cond.fieldLink RX11 16 "FlyFloorModel" "cells" "[I", Cond.methodLink RX11 219 yX11_keepHeights, Cond.instanceMethod yX11_keepHeights, Cond.selects RX11 yX11_keepHeights yX11_keepHeights, Cond.code yX11_keepHeights cX11_keepHeights 2 none, Cond.fieldLink RX11 56 "FlyFloorModel" "heightWas" "[I", Cond.fieldLink RX11 28 "FlyFloorModel" "height" "[I", Cond.methodLink RX11 188 yX11_goalsAsNow, Cond.instanceMethod yX11_goalsAsNow, Cond.selects RX11 yX11_goalsAsNow yX11_goalsAsNow, Cond.code yX11_goalsAsNow cX11_goalsAsNow 2 none, Cond.fieldLink RX11 87 "FlyFloorModel" "battens" "I", Cond.methodLink RX11 172 yX11_canBe, Cond.instanceMethod yX11_canBe, Cond.selects RX11 yX11_canBe yX11_canBe, Cond.code yX11_canBe cX11_canBe 3 (some .boolean)]
def wsX11_findSplit_r2 : List Cond := [Cond.fieldLink RX11 117 "FlyFloorModel" "hands" "I", Cond.methodLink RX11 155 yX11_pullOf, Cond.instanceMethod yX11_pullOf, Cond.selects RX11 yX11_pullOf yX11_pullOf, Cond.code yX11_pullOf cX11_pullOf 3 (some .int), Cond.fieldLink RX11 22 "FlyFloorModel" "load" "[I", Cond.fieldLink RX11 25 "FlyFloorModel" "bricks" "[I", Cond.fieldLink RX11 19 "FlyFloorModel" "kind" "[I", Cond.methodLink RX11 165 yX11_fouls, Cond.instanceMethod yX11_fouls, Cond.selects RX11 yX11_fouls yX11_fouls, Cond.code yX11_fouls cX11_fouls 2 (some .boolean), Cond.fieldLink RX11 31 "FlyFloorModel" "drop" "[I", Cond.methodLink RX11 182 yX11_goes, Cond.instanceMethod yX11_goes, Cond.selects RX11 yX11_goes yX11_goes, Cond.code yX11_goes cX11_goes 2 none, Cond.methodLink RX11 228 yX11_putHeights, Cond.instanceMethod yX11_putHeights, Cond.selects RX11 yX11_putHeights yX11_putHeights, Cond.code yX11_putHeights cX11_putHeights 2 none]
def wsX11_findSplit : List Cond := .code yX11_findSplit cX11_findSplit 8 (some .int) :: ((wsX11_findSplit_r1 ++ wsX11_findSplit_r2) ++ wsX110)
def wsX11_split_r1 : List Cond := [Cond.fieldLink RX11 77 "FlyFloorModel" "fault" "I", Cond.fieldLink RX11 87 "FlyFloorModel" "battens" "I", Cond.fieldLink RX11 65 "FlyFloorModel" "splitted" "[I", Cond.methodLink RX11 93 yX11_isSheet, Cond.static yX11_isSheet, Cond.initialized RX11, Cond.code yX11_isSheet cX11_isSheet 1 (some .boolean), Cond.methodLink RX11 83 yX11_within, Cond.static yX11_within, Cond.code yX11_within cX11_within 3 (some .boolean), Cond.methodLink RX11 97 yX11_isSort, Cond.static yX11_isSort, Cond.code yX11_isSort cX11_isSort 1 (some .boolean), Cond.methodLink RX11 100 yX11_against, Cond.instanceMethod yX11_against, Cond.selects RX11 yX11_against yX11_against, Cond.code yX11_against cX11_against 5 (some .int), Cond.fieldLink RX11 9 "FlyFloorModel" "sorts" "[I", Cond.fieldLink RX11 13 "FlyFloorModel" "sheetLong" "[I", Cond.methodLink RX11 104 yX11_fails, Cond.instanceMethod yX11_fails, Cond.selects RX11 yX11_fails yX11_fails, Cond.code yX11_fails cX11_fails 2 (some .int), Cond.methodLink RX11 194 yX11_refusesPairs]
def wsX11_split_r2 : List Cond := [Cond.instanceMethod yX11_refusesPairs, Cond.selects RX11 yX11_refusesPairs yX11_refusesPairs, Cond.code yX11_refusesPairs cX11_refusesPairs 4 (some .int), Cond.fieldLink RX11 16 "FlyFloorModel" "cells" "[I", Cond.methodLink RX11 152 yX11_isBatten, Cond.instanceMethod yX11_isBatten, Cond.selects RX11 yX11_isBatten yX11_isBatten, Cond.code yX11_isBatten cX11_isBatten 2 (some .boolean), Cond.methodLink RX11 185 yX11_isDigit, Cond.static yX11_isDigit, Cond.code yX11_isDigit cX11_isDigit 1 (some .boolean), Cond.methodLink RX11 197 yX11_isTwice, Cond.instanceMethod yX11_isTwice, Cond.selects RX11 yX11_isTwice yX11_isTwice, Cond.code yX11_isTwice cX11_isTwice 6 (some .boolean), Cond.methodLink RX11 253 yX11_findSplit, Cond.instanceMethod yX11_findSplit, Cond.selects RX11 yX11_findSplit yX11_findSplit, Cond.code yX11_findSplit cX11_findSplit 8 (some .int), Cond.fieldLink RX11 62 "FlyFloorModel" "cueOf" "[I", Cond.methodLink RX11 250 yX11_canSplit, Cond.instanceMethod yX11_canSplit, Cond.selects RX11 yX11_canSplit yX11_canSplit, Cond.code yX11_canSplit cX11_canSplit 7 (some .boolean)]
def wsX11_split_r3 : List Cond := [Cond.fieldLink RX11 37 "FlyFloorModel" "goal" "[I", Cond.methodLink RX11 219 yX11_keepHeights, Cond.instanceMethod yX11_keepHeights, Cond.selects RX11 yX11_keepHeights yX11_keepHeights, Cond.code yX11_keepHeights cX11_keepHeights 2 none, Cond.fieldLink RX11 56 "FlyFloorModel" "heightWas" "[I", Cond.fieldLink RX11 28 "FlyFloorModel" "height" "[I", Cond.methodLink RX11 188 yX11_goalsAsNow, Cond.instanceMethod yX11_goalsAsNow, Cond.selects RX11 yX11_goalsAsNow yX11_goalsAsNow, Cond.code yX11_goalsAsNow cX11_goalsAsNow 2 none, Cond.methodLink RX11 172 yX11_canBe, Cond.instanceMethod yX11_canBe, Cond.selects RX11 yX11_canBe yX11_canBe, Cond.code yX11_canBe cX11_canBe 3 (some .boolean), Cond.fieldLink RX11 117 "FlyFloorModel" "hands" "I", Cond.methodLink RX11 155 yX11_pullOf, Cond.instanceMethod yX11_pullOf, Cond.selects RX11 yX11_pullOf yX11_pullOf, Cond.code yX11_pullOf cX11_pullOf 3 (some .int), Cond.fieldLink RX11 22 "FlyFloorModel" "load" "[I", Cond.fieldLink RX11 25 "FlyFloorModel" "bricks" "[I", Cond.fieldLink RX11 19 "FlyFloorModel" "kind" "[I", Cond.methodLink RX11 165 yX11_fouls]
def wsX11_split_r4 : List Cond := [Cond.instanceMethod yX11_fouls, Cond.selects RX11 yX11_fouls yX11_fouls, Cond.code yX11_fouls cX11_fouls 2 (some .boolean), Cond.fieldLink RX11 31 "FlyFloorModel" "drop" "[I", Cond.methodLink RX11 182 yX11_goes, Cond.instanceMethod yX11_goes, Cond.selects RX11 yX11_goes yX11_goes, Cond.code yX11_goes cX11_goes 2 none, Cond.methodLink RX11 228 yX11_putHeights, Cond.instanceMethod yX11_putHeights, Cond.selects RX11 yX11_putHeights yX11_putHeights, Cond.code yX11_putHeights cX11_putHeights 2 none]
def wsX11_split : List Cond := .code yX11_split cX11_split 10 (some .int) :: ((wsX11_split_r1 ++ (wsX11_split_r2 ++ (wsX11_split_r3 ++ wsX11_split_r4))) ++ wsX110)
def wsX11_balance : List Cond := .code yX11_balance cX11_balance 7 (some .int) :: ([.fieldLink RX11 25 "FlyFloorModel" "bricks" "[I", .fieldLink RX11 129 "FlyFloorModel" "stock" "I", .methodLink RX11 152 yX11_isBatten, .instanceMethod yX11_isBatten, .selects RX11 yX11_isBatten yX11_isBatten, .initialized RX11, .code yX11_isBatten cX11_isBatten 2 (some .boolean), .fieldLink RX11 87 "FlyFloorModel" "battens" "I", .methodLink RX11 185 yX11_isDigit, .static yX11_isDigit, .code yX11_isDigit cX11_isDigit 1 (some .boolean), .methodLink RX11 83 yX11_within, .static yX11_within, .code yX11_within cX11_within 3 (some .boolean), .methodLink RX11 155 yX11_pullOf, .instanceMethod yX11_pullOf, .selects RX11 yX11_pullOf yX11_pullOf, .code yX11_pullOf cX11_pullOf 3 (some .int), .fieldLink RX11 22 "FlyFloorModel" "load" "[I", .fieldLink RX11 19 "FlyFloorModel" "kind" "[I", .methodLink RX11 168 yX11_apart, .static yX11_apart, .code yX11_apart cX11_apart 2 (some .int)] ++ wsX110)
def wsX11_reading : List Cond := .code yX11_reading cX11_reading 4 (some .int) :: ([.fieldLink RX11 138 "FlyFloorModel" "readings" "I", .fieldLink RX11 68 "FlyFloorModel" "readWhich" "[I", .fieldLink RX11 71 "FlyFloorModel" "readBy" "[I", .fieldLink RX11 74 "FlyFloorModel" "readEffort" "[I", .methodLink RX11 152 yX11_isBatten, .instanceMethod yX11_isBatten, .selects RX11 yX11_isBatten yX11_isBatten, .initialized RX11, .code yX11_isBatten cX11_isBatten 2 (some .boolean), .fieldLink RX11 87 "FlyFloorModel" "battens" "I", .methodLink RX11 83 yX11_within, .static yX11_within, .code yX11_within cX11_within 3 (some .boolean)] ++ wsX110)
def wsX11_back : List Cond := .code yX11_back cX11_back 2 (some .int) :: ([.fieldLink RX11 138 "FlyFloorModel" "readings" "I", .methodLink RX11 83 yX11_within, .static yX11_within, .initialized RX11, .code yX11_within cX11_within 3 (some .boolean)] ++ wsX110)
def wsX11_areSo : List Cond := .code yX11_areSo cX11_areSo 2 (some .boolean) :: ([.fieldLink RX11 138 "FlyFloorModel" "readings" "I", .fieldLink RX11 68 "FlyFloorModel" "readWhich" "[I", .fieldLink RX11 71 "FlyFloorModel" "readBy" "[I", .fieldLink RX11 74 "FlyFloorModel" "readEffort" "[I", .methodLink RX11 155 yX11_pullOf, .instanceMethod yX11_pullOf, .selects RX11 yX11_pullOf yX11_pullOf, .initialized RX11, .code yX11_pullOf cX11_pullOf 3 (some .int), .fieldLink RX11 22 "FlyFloorModel" "load" "[I", .fieldLink RX11 25 "FlyFloorModel" "bricks" "[I", .fieldLink RX11 19 "FlyFloorModel" "kind" "[I"] ++ wsX110)
def wsX11_loads : List Cond := .code yX11_loads cX11_loads 5 (some .int) :: ([.fieldLink RX11 22 "FlyFloorModel" "load" "[I", .methodLink RX11 152 yX11_isBatten, .instanceMethod yX11_isBatten, .selects RX11 yX11_isBatten yX11_isBatten, .initialized RX11, .code yX11_isBatten cX11_isBatten 2 (some .boolean), .fieldLink RX11 87 "FlyFloorModel" "battens" "I", .methodLink RX11 256 yX11_areSo, .instanceMethod yX11_areSo, .selects RX11 yX11_areSo yX11_areSo, .code yX11_areSo cX11_areSo 2 (some .boolean), .fieldLink RX11 138 "FlyFloorModel" "readings" "I", .fieldLink RX11 68 "FlyFloorModel" "readWhich" "[I", .fieldLink RX11 71 "FlyFloorModel" "readBy" "[I", .fieldLink RX11 74 "FlyFloorModel" "readEffort" "[I", .methodLink RX11 155 yX11_pullOf, .instanceMethod yX11_pullOf, .selects RX11 yX11_pullOf yX11_pullOf, .code yX11_pullOf cX11_pullOf 3 (some .int), .fieldLink RX11 25 "FlyFloorModel" "bricks" "[I", .fieldLink RX11 19 "FlyFloorModel" "kind" "[I"] ++ wsX110)
def wsX11_weights : List Cond := .code yX11_weights cX11_weights 5 (some .int) :: ([.fieldLink RX11 25 "FlyFloorModel" "bricks" "[I", .methodLink RX11 152 yX11_isBatten, .instanceMethod yX11_isBatten, .selects RX11 yX11_isBatten yX11_isBatten, .initialized RX11, .code yX11_isBatten cX11_isBatten 2 (some .boolean), .fieldLink RX11 87 "FlyFloorModel" "battens" "I", .methodLink RX11 256 yX11_areSo, .instanceMethod yX11_areSo, .selects RX11 yX11_areSo yX11_areSo, .code yX11_areSo cX11_areSo 2 (some .boolean), .fieldLink RX11 138 "FlyFloorModel" "readings" "I", .fieldLink RX11 68 "FlyFloorModel" "readWhich" "[I", .fieldLink RX11 71 "FlyFloorModel" "readBy" "[I", .fieldLink RX11 74 "FlyFloorModel" "readEffort" "[I", .methodLink RX11 155 yX11_pullOf, .instanceMethod yX11_pullOf, .selects RX11 yX11_pullOf yX11_pullOf, .code yX11_pullOf cX11_pullOf 3 (some .int), .fieldLink RX11 22 "FlyFloorModel" "load" "[I", .fieldLink RX11 19 "FlyFloorModel" "kind" "[I"] ++ wsX110)
def wsX11_kinds : List Cond := .code yX11_kinds cX11_kinds 5 (some .int) :: ([.fieldLink RX11 19 "FlyFloorModel" "kind" "[I", .methodLink RX11 152 yX11_isBatten, .instanceMethod yX11_isBatten, .selects RX11 yX11_isBatten yX11_isBatten, .initialized RX11, .code yX11_isBatten cX11_isBatten 2 (some .boolean), .fieldLink RX11 87 "FlyFloorModel" "battens" "I", .methodLink RX11 256 yX11_areSo, .instanceMethod yX11_areSo, .selects RX11 yX11_areSo yX11_areSo, .code yX11_areSo cX11_areSo 2 (some .boolean), .fieldLink RX11 138 "FlyFloorModel" "readings" "I", .fieldLink RX11 68 "FlyFloorModel" "readWhich" "[I", .fieldLink RX11 71 "FlyFloorModel" "readBy" "[I", .fieldLink RX11 74 "FlyFloorModel" "readEffort" "[I", .methodLink RX11 155 yX11_pullOf, .instanceMethod yX11_pullOf, .selects RX11 yX11_pullOf yX11_pullOf, .code yX11_pullOf cX11_pullOf 3 (some .int), .fieldLink RX11 22 "FlyFloorModel" "load" "[I", .fieldLink RX11 25 "FlyFloorModel" "bricks" "[I"] ++ wsX110)
def wsX11_inLeastTerms : List Cond := .code yX11_inLeastTerms cX11_inLeastTerms 11 (some .long) :: ([])
def wsX11_odds_r1 : List Cond := [Cond.constantLong RX11 81 (-9223372036854775808), Cond.fieldLink RX11 87 "FlyFloorModel" "battens" "I", Cond.fieldLink RX11 28 "FlyFloorModel" "height" "[I", Cond.methodLink RX11 152 yX11_isBatten, Cond.instanceMethod yX11_isBatten, Cond.selects RX11 yX11_isBatten yX11_isBatten, Cond.initialized RX11, Cond.code yX11_isBatten cX11_isBatten 2 (some .boolean), Cond.methodLink RX11 83 yX11_within, Cond.static yX11_within, Cond.code yX11_within cX11_within 3 (some .boolean), Cond.methodLink RX11 219 yX11_keepHeights, Cond.instanceMethod yX11_keepHeights, Cond.selects RX11 yX11_keepHeights yX11_keepHeights, Cond.code yX11_keepHeights cX11_keepHeights 2 none, Cond.fieldLink RX11 56 "FlyFloorModel" "heightWas" "[I", Cond.methodLink RX11 161 yX11_seenNow, Cond.instanceMethod yX11_seenNow, Cond.selects RX11 yX11_seenNow yX11_seenNow, Cond.code yX11_seenNow cX11_seenNow 4 (some .int), Cond.fieldLink RX11 123 "FlyFloorModel" "trimNow" "I", Cond.methodLink RX11 158 yX11_edgeOf, Cond.instanceMethod yX11_edgeOf, Cond.selects RX11 yX11_edgeOf yX11_edgeOf]
def wsX11_odds_r2 : List Cond := [Cond.code yX11_edgeOf cX11_edgeOf 2 (some .int), Cond.fieldLink RX11 31 "FlyFloorModel" "drop" "[I", Cond.methodLink RX11 228 yX11_putHeights, Cond.instanceMethod yX11_putHeights, Cond.selects RX11 yX11_putHeights yX11_putHeights, Cond.code yX11_putHeights cX11_putHeights 2 none, Cond.methodLink RX11 259 yX11_inLeastTerms, Cond.static yX11_inLeastTerms, Cond.code yX11_inLeastTerms cX11_inLeastTerms 11 (some .long)]
def wsX11_odds : List Cond := .code yX11_odds cX11_odds 6 (some .long) :: ((wsX11_odds_r1 ++ wsX11_odds_r2) ++ wsX110)
def wsX11_sheet : List Cond := .code yX11_sheet cX11_sheet 5 (some .int) :: ([.fieldLink RX11 77 "FlyFloorModel" "fault" "I", .fieldLink RX11 9 "FlyFloorModel" "sorts" "[I", .fieldLink RX11 13 "FlyFloorModel" "sheetLong" "[I", .fieldLink RX11 16 "FlyFloorModel" "cells" "[I", .methodLink RX11 93 yX11_isSheet, .static yX11_isSheet, .initialized RX11, .code yX11_isSheet cX11_isSheet 1 (some .boolean), .methodLink RX11 83 yX11_within, .static yX11_within, .code yX11_within cX11_within 3 (some .boolean), .methodLink RX11 97 yX11_isSort, .static yX11_isSort, .code yX11_isSort cX11_isSort 1 (some .boolean), .methodLink RX11 104 yX11_fails, .instanceMethod yX11_fails, .selects RX11 yX11_fails yX11_fails, .code yX11_fails cX11_fails 2 (some .int)] ++ wsX110)
def wsX11_lose : List Cond := .code yX11_lose cX11_lose 3 (some .int) :: ([.fieldLink RX11 9 "FlyFloorModel" "sorts" "[I", .methodLink RX11 93 yX11_isSheet, .static yX11_isSheet, .initialized RX11, .code yX11_isSheet cX11_isSheet 1 (some .boolean), .methodLink RX11 83 yX11_within, .static yX11_within, .code yX11_within cX11_within 3 (some .boolean)] ++ wsX110)
def wsX11_put : List Cond := .code yX11_put cX11_put 4 (some .int) :: ([.fieldLink RX11 77 "FlyFloorModel" "fault" "I", .fieldLink RX11 9 "FlyFloorModel" "sorts" "[I", .fieldLink RX11 13 "FlyFloorModel" "sheetLong" "[I", .fieldLink RX11 16 "FlyFloorModel" "cells" "[I", .methodLink RX11 93 yX11_isSheet, .static yX11_isSheet, .initialized RX11, .code yX11_isSheet cX11_isSheet 1 (some .boolean), .methodLink RX11 83 yX11_within, .static yX11_within, .code yX11_within cX11_within 3 (some .boolean), .methodLink RX11 104 yX11_fails, .instanceMethod yX11_fails, .selects RX11 yX11_fails yX11_fails, .code yX11_fails cX11_fails 2 (some .int)] ++ wsX110)
def wsX11_cell : List Cond := .code yX11_cell cX11_cell 4 (some .long) :: ([.fieldLink RX11 77 "FlyFloorModel" "fault" "I", .constantLong RX11 81 (-9223372036854775808), .fieldLink RX11 9 "FlyFloorModel" "sorts" "[I", .fieldLink RX11 13 "FlyFloorModel" "sheetLong" "[I", .fieldLink RX11 16 "FlyFloorModel" "cells" "[I", .methodLink RX11 93 yX11_isSheet, .static yX11_isSheet, .initialized RX11, .code yX11_isSheet cX11_isSheet 1 (some .boolean), .methodLink RX11 83 yX11_within, .static yX11_within, .code yX11_within cX11_within 3 (some .boolean), .methodLink RX11 97 yX11_isSort, .static yX11_isSort, .code yX11_isSort cX11_isSort 1 (some .boolean), .methodLink RX11 263 yX11_lost, .instanceMethod yX11_lost, .selects RX11 yX11_lost yX11_lost, .code yX11_lost cX11_lost 2 (some .long)] ++ wsX110)
def wsX11_copy : List Cond := .code yX11_copy cX11_copy 10 (some .int) :: ([.fieldLink RX11 77 "FlyFloorModel" "fault" "I", .fieldLink RX11 9 "FlyFloorModel" "sorts" "[I", .fieldLink RX11 13 "FlyFloorModel" "sheetLong" "[I", .fieldLink RX11 16 "FlyFloorModel" "cells" "[I", .methodLink RX11 93 yX11_isSheet, .static yX11_isSheet, .initialized RX11, .code yX11_isSheet cX11_isSheet 1 (some .boolean), .methodLink RX11 83 yX11_within, .static yX11_within, .code yX11_within cX11_within 3 (some .boolean), .methodLink RX11 104 yX11_fails, .instanceMethod yX11_fails, .selects RX11 yX11_fails yX11_fails, .code yX11_fails cX11_fails 2 (some .int)] ++ wsX110)
def wsX11_begins : List Cond := .code yX11_begins cX11_begins 2 none :: ([.fieldLink RX11 267 "FlyFloorModel" "trace" "I"] ++ wsX110)
def wsX11_tell : List Cond := .code yX11_tell cX11_tell 3 (some .int) :: ([.fieldLink RX11 22 "FlyFloorModel" "load" "[I", .fieldLink RX11 19 "FlyFloorModel" "kind" "[I", .methodLink RX11 152 yX11_isBatten, .instanceMethod yX11_isBatten, .selects RX11 yX11_isBatten yX11_isBatten, .initialized RX11, .code yX11_isBatten cX11_isBatten 2 (some .boolean), .fieldLink RX11 87 "FlyFloorModel" "battens" "I", .methodLink RX11 270 yX11_begins, .instanceMethod yX11_begins, .selects RX11 yX11_begins yX11_begins, .code yX11_begins cX11_begins 2 none, .fieldLink RX11 267 "FlyFloorModel" "trace" "I"] ++ wsX110)
def wsX11_call : List Cond := .code yX11_call cX11_call 2 (some .int) :: ([.fieldLink RX11 19 "FlyFloorModel" "kind" "[I", .methodLink RX11 152 yX11_isBatten, .instanceMethod yX11_isBatten, .selects RX11 yX11_isBatten yX11_isBatten, .initialized RX11, .code yX11_isBatten cX11_isBatten 2 (some .boolean), .fieldLink RX11 87 "FlyFloorModel" "battens" "I", .methodLink RX11 270 yX11_begins, .instanceMethod yX11_begins, .selects RX11 yX11_begins yX11_begins, .code yX11_begins cX11_begins 2 none, .fieldLink RX11 267 "FlyFloorModel" "trace" "I"] ++ wsX110)
def wsX11_as : List Cond := .code yX11_as cX11_as 3 (some .int) :: ([.fieldLink RX11 77 "FlyFloorModel" "fault" "I", .fieldLink RX11 19 "FlyFloorModel" "kind" "[I", .methodLink RX11 152 yX11_isBatten, .instanceMethod yX11_isBatten, .selects RX11 yX11_isBatten yX11_isBatten, .initialized RX11, .code yX11_isBatten cX11_isBatten 2 (some .boolean), .fieldLink RX11 87 "FlyFloorModel" "battens" "I", .methodLink RX11 83 yX11_within, .static yX11_within, .code yX11_within cX11_within 3 (some .boolean), .methodLink RX11 104 yX11_fails, .instanceMethod yX11_fails, .selects RX11 yX11_fails yX11_fails, .code yX11_fails cX11_fails 2 (some .int)] ++ wsX110)
def wsX11_trace : List Cond := .code yX11_trace cX11_trace 1 (some .int) :: ([.fieldLink RX11 267 "FlyFloorModel" "trace" "I"] ++ wsX110)
def wsX11_fault : List Cond := .code yX11_fault cX11_fault 1 (some .int) :: ([.fieldLink RX11 77 "FlyFloorModel" "fault" "I"] ++ wsX110)
def wsX11_many : List Cond := .code yX11_many cX11_many 2 (some .int) :: ([.fieldLink RX11 87 "FlyFloorModel" "battens" "I", .fieldLink RX11 117 "FlyFloorModel" "hands" "I", .fieldLink RX11 123 "FlyFloorModel" "trimNow" "I", .fieldLink RX11 129 "FlyFloorModel" "stock" "I", .fieldLink RX11 135 "FlyFloorModel" "known" "I", .fieldLink RX11 138 "FlyFloorModel" "readings" "I"] ++ wsX110)
def wsJ9_abs_0f7a4 : List Cond := .code yJ9_abs_0f7a4 cJ9_abs_0f7a4 1 (some .int) :: ([])
def wsJ9_max_7cf53 : List Cond := .code yJ9_max_7cf53 cJ9_max_7cf53 2 (some .int) :: ([])
def wsJ9_min_7cf53 : List Cond := .code yJ9_min_7cf53 cJ9_min_7cf53 2 (some .int) :: ([])
def wsL_law_r1 : List Cond := [Cond.classLink RL 7 RX10, Cond.instantiable RX10 12, Cond.initialized RX10, Cond.classLink RL 10 RX11, Cond.instantiable RX11 39, Cond.initialized RX11, Cond.methodLink RL 9 yX10_init, Cond.instanceMethod yX10_init, Cond.code yX10_init cX10_init 2 none, Cond.methodLink RX10 3 objectInit, Cond.instanceMethod objectInit, Cond.code objectInit ⟨#[0xb1]⟩ 1 none, Cond.classLink RX10 11 RX7, Cond.fieldLink RX10 13 "FlyFloor" "sheets" "[LFlyFloor$Sheet;", Cond.instantiable RX7 4, Cond.initialized RX7, Cond.classLink RX10 18 RX6, Cond.fieldLink RX10 20 "FlyFloor" "images" "[LFlyFloor$Rig;", Cond.instantiable RX6 6, Cond.initialized RX6, Cond.arrayClass .boolean, Cond.fieldLink RX10 25 "FlyFloor" "kept" "[Z", Cond.classLink RX10 29 RX1, Cond.instantiable RX1 4]
def wsL_law_r2 : List Cond := [Cond.initialized RX1, Cond.fieldLink RX10 32 "FlyFloor" "loft" "LFlyFloor$Loft;", Cond.classLink RX10 36 RX3, Cond.instantiable RX3 3, Cond.initialized RX3, Cond.fieldLink RX10 39 "FlyFloor" "past" "LFlyFloor$Past;", Cond.classLink RX10 43 RX5, Cond.instantiable RX5 4, Cond.initialized RX5, Cond.fieldLink RX10 46 "FlyFloor" "readings" "LFlyFloor$Readings;", Cond.classLink RX10 50 RX2, Cond.instantiable RX2 3, Cond.initialized RX2, Cond.fieldLink RX10 53 "FlyFloor" "moves" "LFlyFloor$Moves;", Cond.classLink RX10 57 RX0, Cond.instantiable RX0 5, Cond.initialized RX0, Cond.fieldLink RX10 60 "FlyFloor" "told" "LFlyFloor$Act;", Cond.classLink RX10 64 RX4, Cond.instantiable RX4 6, Cond.initialized RX4, Cond.fieldLink RX10 67 "FlyFloor" "shown" "LFlyFloor$Picture;", Cond.classLink RX10 71 RX8, Cond.instantiable RX8 7]
def wsL_law_r3 : List Cond := [Cond.initialized RX8, Cond.fieldLink RX10 74 "FlyFloor" "parted" "LFlyFloor$Split;", Cond.instanceMethod yX7_init, Cond.code yX7_init cX7_init 1 none, Cond.methodLink RX7 3 objectInit, Cond.arrayClass .int, Cond.fieldLink RX7 9 "FlyFloor$Sheet" "cells" "[I", Cond.instanceMethod yX6_init, Cond.code yX6_init cX6_init 1 none, Cond.methodLink RX6 3 objectInit, Cond.fieldLink RX6 9 "FlyFloor$Rig" "load" "[I", Cond.fieldLink RX6 15 "FlyFloor$Rig" "bricks" "[I", Cond.fieldLink RX6 18 "FlyFloor$Rig" "height" "[I", Cond.instanceMethod yX1_init, Cond.code yX1_init cX1_init 1 none, Cond.methodLink RX1 3 objectInit, Cond.fieldLink RX1 9 "FlyFloor$Loft" "kind" "[I", Cond.fieldLink RX1 15 "FlyFloor$Loft" "drop" "[I", Cond.classLink RX1 18 RX6, Cond.fieldLink RX1 21 "FlyFloor$Loft" "now" "LFlyFloor$Rig;", Cond.methodLink RX10 38 yX3_init, Cond.instanceMethod yX3_init, Cond.code yX3_init cX3_init 2 none, Cond.methodLink RX3 3 objectInit]
def wsL_law_r4 : List Cond := [Cond.classLink RX3 9 RX6, Cond.fieldLink RX3 11 "FlyFloor$Past" "rigs" "[LFlyFloor$Rig;", Cond.instanceMethod yX5_init, Cond.code yX5_init cX5_init 1 none, Cond.methodLink RX5 3 objectInit, Cond.fieldLink RX5 9 "FlyFloor$Readings" "batten" "[I", Cond.fieldLink RX5 15 "FlyFloor$Readings" "far" "[I", Cond.fieldLink RX5 18 "FlyFloor$Readings" "effort" "[I", Cond.instanceMethod yX2_init, Cond.code yX2_init cX2_init 1 none, Cond.methodLink RX2 3 objectInit, Cond.fieldLink RX2 9 "FlyFloor$Moves" "batten" "[I", Cond.fieldLink RX2 15 "FlyFloor$Moves" "height" "[I", Cond.instanceMethod yX0_init, Cond.code yX0_init cX0_init 1 none, Cond.methodLink RX0 3 objectInit, Cond.fieldLink RX0 9 "FlyFloor$Act" "before" "[I", Cond.fieldLink RX0 15 "FlyFloor$Act" "after" "[I", Cond.instanceMethod yX4_init, Cond.code yX4_init cX4_init 1 none, Cond.methodLink RX4 3 objectInit, Cond.fieldLink RX4 11 "FlyFloor$Picture" "tried" "[I", Cond.fieldLink RX4 15 "FlyFloor$Picture" "cost" "[I", Cond.fieldLink RX4 18 "FlyFloor$Picture" "least" "[I"]
def wsL_law_r5 : List Cond := [Cond.fieldLink RX4 21 "FlyFloor$Picture" "height" "[I", Cond.instanceMethod yX8_init, Cond.code yX8_init cX8_init 1 none, Cond.methodLink RX8 3 objectInit, Cond.fieldLink RX8 11 "FlyFloor$Split" "next" "[I", Cond.fieldLink RX8 15 "FlyFloor$Split" "fewest" "[I", Cond.fieldLink RX8 18 "FlyFloor$Split" "before" "[I", Cond.fieldLink RX8 21 "FlyFloor$Split" "after" "[I", Cond.fieldLink RX8 24 "FlyFloor$Split" "cueOf" "[I", Cond.fieldLink RX8 27 "FlyFloor$Split" "inCue" "[I", Cond.methodLink RL 12 yX11_init, Cond.instanceMethod yX11_init, Cond.code yX11_init cX11_init 1 none, Cond.methodLink RX11 1 objectInit, Cond.fieldLink RX11 9 "FlyFloorModel" "sorts" "[I", Cond.fieldLink RX11 13 "FlyFloorModel" "sheetLong" "[I", Cond.fieldLink RX11 16 "FlyFloorModel" "cells" "[I", Cond.fieldLink RX11 19 "FlyFloorModel" "kind" "[I", Cond.fieldLink RX11 22 "FlyFloorModel" "load" "[I", Cond.fieldLink RX11 25 "FlyFloorModel" "bricks" "[I", Cond.fieldLink RX11 28 "FlyFloorModel" "height" "[I", Cond.fieldLink RX11 31 "FlyFloorModel" "drop" "[I", Cond.fieldLink RX11 34 "FlyFloorModel" "read" "[I", Cond.fieldLink RX11 37 "FlyFloorModel" "goal" "[I"]
def wsL_law_r6 : List Cond := [Cond.fieldLink RX11 40 "FlyFloorModel" "before" "[I", Cond.fieldLink RX11 43 "FlyFloorModel" "isKept" "[Z", Cond.fieldLink RX11 47 "FlyFloorModel" "kept" "[I", Cond.fieldLink RX11 50 "FlyFloorModel" "keptHands" "[I", Cond.fieldLink RX11 53 "FlyFloorModel" "keptTrim" "[I", Cond.fieldLink RX11 56 "FlyFloorModel" "heightWas" "[I", Cond.fieldLink RX11 59 "FlyFloorModel" "picture" "[I", Cond.fieldLink RX11 62 "FlyFloorModel" "cueOf" "[I", Cond.fieldLink RX11 65 "FlyFloorModel" "splitted" "[I", Cond.fieldLink RX11 68 "FlyFloorModel" "readWhich" "[I", Cond.fieldLink RX11 71 "FlyFloorModel" "readBy" "[I", Cond.fieldLink RX11 74 "FlyFloorModel" "readEffort" "[I", Cond.methodLink RL 13 yX10_loft, Cond.instanceMethod yX10_loft, Cond.selects RX10 yX10_loft yX10_loft, Cond.code yX10_loft cX10_loft 9 (some .int), Cond.fieldLink RX10 78 "FlyFloor" "lastFault" "I", Cond.fieldLink RX10 97 "FlyFloor$Sheet" "cells" "[I", Cond.fieldLink RX10 114 "FlyFloor$Readings" "count" "I", Cond.fieldLink RX10 117 "FlyFloor$Loft" "count" "I", Cond.methodLink RX10 82 yX10_isSheet, Cond.static yX10_isSheet, Cond.code yX10_isSheet cX10_isSheet 1 (some .boolean), Cond.methodLink RX10 154 yX10_within]
def wsL_law_r7 : List Cond := [Cond.static yX10_within, Cond.code yX10_within cX10_within 3 (some .boolean), Cond.methodLink RX10 86 yX10_isLane, Cond.static yX10_isLane, Cond.code yX10_isLane cX10_isLane 1 (some .boolean), Cond.methodLink RX10 89 yX7_faultOf, Cond.instanceMethod yX7_faultOf, Cond.selects RX7 yX7_faultOf yX7_faultOf, Cond.code yX7_faultOf cX7_faultOf 4 (some .int), Cond.fieldLink RX7 15 "FlyFloor$Sheet" "hasRow" "Z", Cond.fieldLink RX7 19 "FlyFloor$Sheet" "lane" "I", Cond.methodLink RX7 26 yX7_hasCells, Cond.instanceMethod yX7_hasCells, Cond.selects RX7 yX7_hasCells yX7_hasCells, Cond.code yX7_hasCells cX7_hasCells 3 (some .boolean), Cond.fieldLink RX7 23 "FlyFloor$Sheet" "length" "I", Cond.methodLink RX10 93 yX10_faulted, Cond.instanceMethod yX10_faulted, Cond.selects RX10 yX10_faulted yX10_faulted, Cond.code yX10_faulted cX10_faulted 2 (some .int), Cond.methodLink RX10 101 yX9_firstFault, Cond.static yX9_firstFault, Cond.initialized RX9, Cond.code yX9_firstFault cX9_firstFault 4 (some .int)]
def wsL_law_r8 : List Cond := [Cond.methodLink RX9 9 yX9_goesOn, Cond.static yX9_goesOn, Cond.code yX9_goesOn cX9_goesOn 2 (some .boolean), Cond.methodLink RX9 19 yX9_ofBattenGoesOn, Cond.static yX9_ofBattenGoesOn, Cond.code yX9_ofBattenGoesOn cX9_ofBattenGoesOn 2 (some .boolean), Cond.methodLink RX10 107 yX1_build, Cond.instanceMethod yX1_build, Cond.selects RX1 yX1_build yX1_build, Cond.code yX1_build cX1_build 6 none, Cond.fieldLink RX1 25 "FlyFloor$Rig" "hands" "I", Cond.fieldLink RX1 29 "FlyFloor$Rig" "trim" "I", Cond.fieldLink RX1 32 "FlyFloor$Rig" "stock" "I", Cond.fieldLink RX1 37 "FlyFloor$Loft" "count" "I", Cond.fieldLink RX1 44 "FlyFloor$Rig" "load" "[I", Cond.fieldLink RX1 47 "FlyFloor$Rig" "bricks" "[I", Cond.fieldLink RX1 50 "FlyFloor$Rig" "height" "[I", Cond.methodLink RX1 40 yX9_kindOf, Cond.static yX9_kindOf, Cond.code yX9_kindOf cX9_kindOf 1 (some .int), Cond.methodLink RX10 111 yX3_forget, Cond.instanceMethod yX3_forget, Cond.selects RX3 yX3_forget yX3_forget, Cond.code yX3_forget cX3_forget 1 none]
def wsL_law_r9 : List Cond := [Cond.fieldLink RX3 18 "FlyFloor$Past" "known" "I", Cond.methodLink RL 17 yX11_loft, Cond.instanceMethod yX11_loft, Cond.selects RX11 yX11_loft yX11_loft, Cond.code yX11_loft cX11_loft 7 (some .int), Cond.fieldLink RX11 77 "FlyFloorModel" "fault" "I", Cond.fieldLink RX11 90 "FlyFloorModel" "at" "I", Cond.fieldLink RX11 87 "FlyFloorModel" "battens" "I", Cond.methodLink RX11 93 yX11_isSheet, Cond.static yX11_isSheet, Cond.code yX11_isSheet cX11_isSheet 1 (some .boolean), Cond.methodLink RX11 83 yX11_within, Cond.static yX11_within, Cond.code yX11_within cX11_within 3 (some .boolean), Cond.methodLink RX11 97 yX11_isSort, Cond.static yX11_isSort, Cond.code yX11_isSort cX11_isSort 1 (some .boolean), Cond.methodLink RX11 100 yX11_against, Cond.instanceMethod yX11_against, Cond.selects RX11 yX11_against yX11_against, Cond.code yX11_against cX11_against 5 (some .int), Cond.methodLink RX11 104 yX11_fails, Cond.instanceMethod yX11_fails, Cond.selects RX11 yX11_fails yX11_fails]
def wsL_law_r10 : List Cond := [Cond.code yX11_fails cX11_fails 2 (some .int), Cond.methodLink RX11 108 yX11_readLoft, Cond.instanceMethod yX11_readLoft, Cond.selects RX11 yX11_readLoft yX11_readLoft, Cond.code yX11_readLoft cX11_readLoft 2 (some .boolean), Cond.fieldLink RX11 132 "FlyFloorModel" "readBattens" "I", Cond.fieldLink RX11 114 "FlyFloorModel" "readHands" "I", Cond.fieldLink RX11 120 "FlyFloorModel" "readTrim" "I", Cond.fieldLink RX11 126 "FlyFloorModel" "readStock" "I", Cond.methodLink RX11 141 yX11_isSign, Cond.instanceMethod yX11_isSign, Cond.selects RX11 yX11_isSign yX11_isSign, Cond.code yX11_isSign cX11_isSign 3 (some .boolean), Cond.methodLink RX11 145 yX11_digit, Cond.instanceMethod yX11_digit, Cond.selects RX11 yX11_digit yX11_digit, Cond.code yX11_digit cX11_digit 4 (some .int), Cond.methodLink RX11 149 yX11_readBatten, Cond.instanceMethod yX11_readBatten, Cond.selects RX11 yX11_readBatten yX11_readBatten, Cond.code yX11_readBatten cX11_readBatten 5 (some .boolean), Cond.methodLink RX11 111 yX11_takeLoft, Cond.instanceMethod yX11_takeLoft, Cond.selects RX11 yX11_takeLoft yX11_takeLoft]
def wsL_law_r11 : List Cond := [Cond.code yX11_takeLoft cX11_takeLoft 2 none, Cond.fieldLink RX11 117 "FlyFloorModel" "hands" "I", Cond.fieldLink RX11 123 "FlyFloorModel" "trimNow" "I", Cond.fieldLink RX11 129 "FlyFloorModel" "stock" "I", Cond.fieldLink RX11 135 "FlyFloorModel" "known" "I", Cond.fieldLink RX11 138 "FlyFloorModel" "readings" "I", Cond.methodLink RL 18 yX10_ofBatten, Cond.instanceMethod yX10_ofBatten, Cond.selects RX10 yX10_ofBatten yX10_ofBatten, Cond.code yX10_ofBatten cX10_ofBatten 3 (some .int), Cond.fieldLink RX10 121 "FlyFloor$Loft" "kind" "[I", Cond.fieldLink RX10 124 "FlyFloor$Loft" "now" "LFlyFloor$Rig;", Cond.fieldLink RX10 128 "FlyFloor$Rig" "load" "[I", Cond.fieldLink RX10 131 "FlyFloor$Rig" "bricks" "[I", Cond.fieldLink RX10 134 "FlyFloor$Rig" "height" "[I", Cond.fieldLink RX10 137 "FlyFloor$Loft" "drop" "[I", Cond.methodLink RX10 118 yX1_has, Cond.instanceMethod yX1_has, Cond.selects RX1 yX1_has yX1_has, Cond.code yX1_has cX1_has 2 (some .boolean), Cond.methodLink RX10 140 yX1_pull, Cond.instanceMethod yX1_pull, Cond.selects RX1 yX1_pull yX1_pull, Cond.code yX1_pull cX1_pull 2 (some .int)]
def wsL_law_r12 : List Cond := [Cond.static yX10_pullOf, Cond.code yX10_pullOf cX10_pullOf 4 (some .int), Cond.methodLink RX10 300 Lib.Math.abs.name, Cond.static Lib.Math.abs.name, Cond.initialized "java/lang/Math", Cond.code Lib.Math.abs.name Lib.Math.abs.code 1 (some .int), Cond.methodLink RX10 305 Lib.Math.max.name, Cond.static Lib.Math.max.name, Cond.code Lib.Math.max.name Lib.Math.max.code 2 (some .int), Cond.methodLink RX10 143 yX1_edge, Cond.instanceMethod yX1_edge, Cond.selects RX1 yX1_edge yX1_edge, Cond.code yX1_edge cX1_edge 3 (some .int), Cond.methodLink RX1 57 Lib.Math.max.name, Cond.methodLink RL 22 yX11_ofBatten, Cond.instanceMethod yX11_ofBatten, Cond.selects RX11 yX11_ofBatten yX11_ofBatten, Cond.code yX11_ofBatten cX11_ofBatten 3 (some .int), Cond.methodLink RX11 152 yX11_isBatten, Cond.instanceMethod yX11_isBatten, Cond.selects RX11 yX11_isBatten yX11_isBatten, Cond.code yX11_isBatten cX11_isBatten 2 (some .boolean), Cond.methodLink RX11 155 yX11_pullOf, Cond.instanceMethod yX11_pullOf]
def wsL_law_r13 : List Cond := [Cond.selects RX11 yX11_pullOf yX11_pullOf, Cond.code yX11_pullOf cX11_pullOf 3 (some .int), Cond.methodLink RX11 158 yX11_edgeOf, Cond.instanceMethod yX11_edgeOf, Cond.selects RX11 yX11_edgeOf yX11_edgeOf, Cond.code yX11_edgeOf cX11_edgeOf 2 (some .int), Cond.methodLink RL 23 yX10_seen, Cond.instanceMethod yX10_seen, Cond.selects RX10 yX10_seen yX10_seen, Cond.code yX10_seen cX10_seen 1 (some .int), Cond.methodLink RX10 147 yX1_seenAt, Cond.instanceMethod yX1_seenAt, Cond.selects RX1 yX1_seenAt yX1_seenAt, Cond.code yX1_seenAt cX1_seenAt 6 (some .int), Cond.methodLink RX1 63 yX1_edge, Cond.methodLink RL 27 yX11_seen, Cond.instanceMethod yX11_seen, Cond.selects RX11 yX11_seen yX11_seen, Cond.code yX11_seen cX11_seen 1 (some .int), Cond.methodLink RX11 161 yX11_seenNow, Cond.instanceMethod yX11_seenNow, Cond.selects RX11 yX11_seenNow yX11_seenNow, Cond.code yX11_seenNow cX11_seenNow 4 (some .int), Cond.methodLink RL 28 yX10_hides]
def wsL_law_r14 : List Cond := [Cond.instanceMethod yX10_hides, Cond.selects RX10 yX10_hides yX10_hides, Cond.code yX10_hides cX10_hides 2 (some .int), Cond.methodLink RX10 151 yX1_hiderOf, Cond.instanceMethod yX1_hiderOf, Cond.selects RX1 yX1_hiderOf yX1_hiderOf, Cond.code yX1_hiderOf cX1_hiderOf 4 (some .int), Cond.methodLink RL 32 yX11_hides, Cond.instanceMethod yX11_hides, Cond.selects RX11 yX11_hides yX11_hides, Cond.code yX11_hides cX11_hides 3 (some .int), Cond.methodLink RL 33 yX10_hire, Cond.instanceMethod yX10_hire, Cond.selects RX10 yX10_hire yX10_hire, Cond.code yX10_hire cX10_hire 3 (some .int), Cond.fieldLink RX10 158 "FlyFloor$Rig" "hands" "I", Cond.methodLink RL 36 yX11_hire, Cond.instanceMethod yX11_hire, Cond.selects RX11 yX11_hire yX11_hire, Cond.code yX11_hire cX11_hire 3 (some .int), Cond.methodLink RL 37 yX10_trim, Cond.instanceMethod yX10_trim, Cond.selects RX10 yX10_trim yX10_trim, Cond.code yX10_trim cX10_trim 3 (some .int)]
def wsL_law_r15 : List Cond := [Cond.fieldLink RX10 161 "FlyFloor$Rig" "trim" "I", Cond.methodLink RL 40 yX11_trim, Cond.instanceMethod yX11_trim, Cond.selects RX11 yX11_trim yX11_trim, Cond.code yX11_trim cX11_trim 3 (some .int), Cond.methodLink RL 41 yX10_fly, Cond.instanceMethod yX10_fly, Cond.selects RX10 yX10_fly yX10_fly, Cond.code yX10_fly cX10_fly 3 (some .int), Cond.fieldLink RX10 167 "FlyFloor$Moves" "count" "I", Cond.methodLink RX10 164 yX10_isHeight, Cond.static yX10_isHeight, Cond.code yX10_isHeight cX10_isHeight 1 (some .boolean), Cond.methodLink RX10 168 yX2_add, Cond.instanceMethod yX2_add, Cond.selects RX2 yX2_add yX2_add, Cond.code yX2_add cX2_add 3 none, Cond.fieldLink RX2 18 "FlyFloor$Moves" "count" "I", Cond.methodLink RX10 172 yX10_doMoves, Cond.instanceMethod yX10_doMoves, Cond.selects RX10 yX10_doMoves yX10_doMoves, Cond.code yX10_doMoves cX10_doMoves 3 (some .int), Cond.fieldLink RX10 216 "FlyFloor$Act" "after" "[I", Cond.methodLink RX10 278 arraycopyName]
def wsL_law_r16 : List Cond := [Cond.native arraycopyName, Cond.static arraycopyName, Cond.initialized "java/lang/System", Cond.fieldLink RX10 308 "FlyFloor$Moves" "batten" "[I", Cond.fieldLink RX10 311 "FlyFloor$Moves" "height" "[I", Cond.methodLink RX10 312 yX1_canBe, Cond.instanceMethod yX1_canBe, Cond.selects RX1 yX1_canBe yX1_canBe, Cond.code yX1_canBe cX1_canBe 6 (some .boolean), Cond.methodLink RX1 66 yX1_pull, Cond.methodLink RX1 69 yX1_foul, Cond.instanceMethod yX1_foul, Cond.selects RX1 yX1_foul yX1_foul, Cond.code yX1_foul cX1_foul 4 (some .boolean), Cond.methodLink RX10 316 yX1_beats, Cond.instanceMethod yX1_beats, Cond.selects RX1 yX1_beats yX1_beats, Cond.code yX1_beats cX1_beats 5 (some .int), Cond.methodLink RX1 73 Lib.Math.abs.name, Cond.methodLink RX10 187 yX3_remember, Cond.instanceMethod yX3_remember, Cond.selects RX3 yX3_remember yX3_remember, Cond.code yX3_remember cX3_remember 2 none, Cond.fieldLink RX3 22 "FlyFloor$Past" "next" "I"]
def wsL_law_r17 : List Cond := [Cond.methodLink RX3 29 Lib.Math.min.name, Cond.static Lib.Math.min.name, Cond.code Lib.Math.min.name Lib.Math.min.code 2 (some .int), Cond.methodLink RX3 25 yX6_takeMoved, Cond.instanceMethod yX6_takeMoved, Cond.selects RX6 yX6_takeMoved yX6_takeMoved, Cond.code yX6_takeMoved cX6_takeMoved 2 none, Cond.methodLink RX6 21 arraycopyName, Cond.fieldLink RX6 27 "FlyFloor$Rig" "stock" "I", Cond.methodLink RL 44 yX11_fly, Cond.instanceMethod yX11_fly, Cond.selects RX11 yX11_fly yX11_fly, Cond.code yX11_fly cX11_fly 3 (some .int), Cond.methodLink RX11 185 yX11_isDigit, Cond.static yX11_isDigit, Cond.code yX11_isDigit cX11_isDigit 1 (some .boolean), Cond.methodLink RX11 188 yX11_goalsAsNow, Cond.instanceMethod yX11_goalsAsNow, Cond.selects RX11 yX11_goalsAsNow yX11_goalsAsNow, Cond.code yX11_goalsAsNow cX11_goalsAsNow 2 none, Cond.methodLink RX11 191 yX11_doCue, Cond.instanceMethod yX11_doCue, Cond.selects RX11 yX11_doCue yX11_doCue, Cond.code yX11_doCue cX11_doCue 2 (some .int)]
def wsL_law_r18 : List Cond := [Cond.methodLink RX11 172 yX11_canBe, Cond.instanceMethod yX11_canBe, Cond.selects RX11 yX11_canBe yX11_canBe, Cond.code yX11_canBe cX11_canBe 3 (some .boolean), Cond.methodLink RX11 165 yX11_fouls, Cond.instanceMethod yX11_fouls, Cond.selects RX11 yX11_fouls yX11_fouls, Cond.code yX11_fouls cX11_fouls 2 (some .boolean), Cond.methodLink RX11 176 yX11_beats, Cond.instanceMethod yX11_beats, Cond.selects RX11 yX11_beats yX11_beats, Cond.code yX11_beats cX11_beats 4 (some .int), Cond.methodLink RX11 168 yX11_apart, Cond.static yX11_apart, Cond.code yX11_apart cX11_apart 2 (some .int), Cond.methodLink RX11 179 yX11_remember, Cond.instanceMethod yX11_remember, Cond.selects RX11 yX11_remember yX11_remember, Cond.code yX11_remember cX11_remember 2 none, Cond.methodLink RX11 203 yX11_write, Cond.instanceMethod yX11_write, Cond.selects RX11 yX11_write yX11_write, Cond.code yX11_write cX11_write 4 none, Cond.methodLink RX11 182 yX11_goes]
def wsL_law_r19 : List Cond := [Cond.instanceMethod yX11_goes, Cond.selects RX11 yX11_goes yX11_goes, Cond.code yX11_goes cX11_goes 2 none, Cond.methodLink RL 45 yX10_cue, Cond.instanceMethod yX10_cue, Cond.selects RX10 yX10_cue yX10_cue, Cond.code yX10_cue cX10_cue 6 (some .int), Cond.methodLink RX10 176 yX10_takeMoves, Cond.instanceMethod yX10_takeMoves, Cond.selects RX10 yX10_takeMoves yX10_takeMoves, Cond.code yX10_takeMoves cX10_takeMoves 9 (some .int), Cond.methodLink RX10 180 yX2_repeatBatten, Cond.instanceMethod yX2_repeatBatten, Cond.selects RX2 yX2_repeatBatten yX2_repeatBatten, Cond.code yX2_repeatBatten cX2_repeatBatten 4 (some .boolean), Cond.methodLink RL 48 yX11_cue, Cond.instanceMethod yX11_cue, Cond.selects RX11 yX11_cue yX11_cue, Cond.code yX11_cue cX11_cue 9 (some .int), Cond.methodLink RX11 194 yX11_refusesPairs, Cond.instanceMethod yX11_refusesPairs, Cond.selects RX11 yX11_refusesPairs yX11_refusesPairs, Cond.code yX11_refusesPairs cX11_refusesPairs 4 (some .int), Cond.methodLink RX11 197 yX11_isTwice]
def wsL_law_r20 : List Cond := [Cond.instanceMethod yX11_isTwice, Cond.selects RX11 yX11_isTwice yX11_isTwice, Cond.code yX11_isTwice cX11_isTwice 6 (some .boolean), Cond.methodLink RL 49 yX10_hang, Cond.instanceMethod yX10_hang, Cond.selects RX10 yX10_hang yX10_hang, Cond.code yX10_hang cX10_hang 3 (some .int), Cond.methodLink RX10 184 yX10_isDigit, Cond.static yX10_isDigit, Cond.code yX10_isDigit cX10_isDigit 1 (some .boolean), Cond.methodLink RX10 191 yX1_runsAway, Cond.instanceMethod yX1_runsAway, Cond.selects RX1 yX1_runsAway yX1_runsAway, Cond.code yX1_runsAway cX1_runsAway 2 (some .int), Cond.methodLink RL 52 yX11_hang, Cond.instanceMethod yX11_hang, Cond.selects RX11 yX11_hang yX11_hang, Cond.code yX11_hang cX11_hang 3 (some .int), Cond.methodLink RX11 200 yX11_runsAway, Cond.instanceMethod yX11_runsAway, Cond.selects RX11 yX11_runsAway yX11_runsAway, Cond.code yX11_runsAway cX11_runsAway 2 (some .int), Cond.methodLink RL 53 yX10_brick, Cond.instanceMethod yX10_brick]
def wsL_law_r21 : List Cond := [Cond.selects RX10 yX10_brick yX10_brick, Cond.code yX10_brick cX10_brick 4 (some .int), Cond.fieldLink RX10 194 "FlyFloor$Rig" "stock" "I", Cond.methodLink RL 56 yX11_brick, Cond.instanceMethod yX11_brick, Cond.selects RX11 yX11_brick yX11_brick, Cond.code yX11_brick cX11_brick 3 (some .int), Cond.methodLink RL 57 yX10_undo, Cond.instanceMethod yX10_undo, Cond.selects RX10 yX10_undo yX10_undo, Cond.code yX10_undo cX10_undo 1 (some .int), Cond.fieldLink RX10 197 "FlyFloor$Past" "known" "I", Cond.methodLink RX10 200 yX3_bringBack, Cond.instanceMethod yX3_bringBack, Cond.selects RX3 yX3_bringBack yX3_bringBack, Cond.code yX3_bringBack cX3_bringBack 2 none, Cond.methodLink RL 60 yX11_undo, Cond.instanceMethod yX11_undo, Cond.selects RX11 yX11_undo yX11_undo, Cond.code yX11_undo cX11_undo 1 (some .int), Cond.methodLink RX11 207 yX11_readBack, Cond.instanceMethod yX11_readBack, Cond.selects RX11 yX11_readBack yX11_readBack, Cond.code yX11_readBack cX11_readBack 4 none]
def wsL_law_r22 : List Cond := [Cond.methodLink RL 61 yX10_keep, Cond.instanceMethod yX10_keep, Cond.selects RX10 yX10_keep yX10_keep, Cond.code yX10_keep cX10_keep 4 (some .int), Cond.methodLink RX10 203 yX10_isImage, Cond.static yX10_isImage, Cond.code yX10_isImage cX10_isImage 1 (some .boolean), Cond.methodLink RX10 206 yX6_takeAll, Cond.instanceMethod yX6_takeAll, Cond.selects RX6 yX6_takeAll yX6_takeAll, Cond.code yX6_takeAll cX6_takeAll 2 none, Cond.fieldLink RX6 35 "FlyFloor$Rig" "hands" "I", Cond.fieldLink RX6 38 "FlyFloor$Rig" "trim" "I", Cond.methodLink RX6 31 yX6_takeMoved, Cond.methodLink RL 64 yX11_keep, Cond.instanceMethod yX11_keep, Cond.selects RX11 yX11_keep yX11_keep, Cond.code yX11_keep cX11_keep 2 (some .int), Cond.methodLink RL 65 yX10_restore, Cond.instanceMethod yX10_restore, Cond.selects RX10 yX10_restore yX10_restore, Cond.code yX10_restore cX10_restore 2 (some .int), Cond.methodLink RL 68 yX11_restore, Cond.instanceMethod yX11_restore]
def wsL_law_r23 : List Cond := [Cond.selects RX11 yX11_restore yX11_restore, Cond.code yX11_restore cX11_restore 2 (some .int), Cond.methodLink RL 69 yX10_act, Cond.instanceMethod yX10_act, Cond.selects RX10 yX10_act yX10_act, Cond.code yX10_act cX10_act 8 (some .int), Cond.fieldLink RX10 213 "FlyFloor$Act" "firstWrong" "I", Cond.fieldLink RX10 219 "FlyFloor$Act" "beats" "I", Cond.fieldLink RX10 222 "FlyFloor$Act" "effort" "I", Cond.methodLink RX10 209 yX0_run, Cond.instanceMethod yX0_run, Cond.selects RX0 yX0_run yX0_run, Cond.code yX0_run cX0_run 7 none, Cond.fieldLink RX0 18 "FlyFloor$Act" "beats" "I", Cond.fieldLink RX0 22 "FlyFloor$Act" "effort" "I", Cond.fieldLink RX0 25 "FlyFloor$Act" "firstWrong" "I", Cond.fieldLink RX0 28 "FlyFloor$Loft" "now" "LFlyFloor$Rig;", Cond.fieldLink RX0 34 "FlyFloor$Rig" "height" "[I", Cond.methodLink RX0 39 arraycopyName, Cond.fieldLink RX0 45 "FlyFloor$Moves" "count" "I", Cond.fieldLink RX0 50 "FlyFloor$Moves" "batten" "[I", Cond.fieldLink RX0 53 "FlyFloor$Moves" "height" "[I", Cond.methodLink RX0 58 Lib.Math.abs.name, Cond.methodLink RX0 54 yX1_canBe]
def wsL_law_r24 : List Cond := [Cond.methodLink RX0 64 yX1_pull, Cond.methodLink RL 73 yX11_act, Cond.instanceMethod yX11_act, Cond.selects RX11 yX11_act yX11_act, Cond.code yX11_act cX11_act 11 (some .int), Cond.methodLink RX11 219 yX11_keepHeights, Cond.instanceMethod yX11_keepHeights, Cond.selects RX11 yX11_keepHeights yX11_keepHeights, Cond.code yX11_keepHeights cX11_keepHeights 2 none, Cond.methodLink RX11 222 yX11_goAct, Cond.instanceMethod yX11_goAct, Cond.selects RX11 yX11_goAct yX11_goAct, Cond.code yX11_goAct cX11_goAct 4 (some .int), Cond.fieldLink RX11 210 "FlyFloorModel" "allBeats" "I", Cond.fieldLink RX11 213 "FlyFloorModel" "allEffort" "I", Cond.methodLink RX11 216 yX11_effort, Cond.instanceMethod yX11_effort, Cond.selects RX11 yX11_effort yX11_effort, Cond.code yX11_effort cX11_effort 3 (some .int), Cond.methodLink RX11 225 yX11_tellAct, Cond.instanceMethod yX11_tellAct, Cond.selects RX11 yX11_tellAct yX11_tellAct, Cond.code yX11_tellAct cX11_tellAct 2 (some .int), Cond.methodLink RX11 228 yX11_putHeights]
def wsL_law_r25 : List Cond := [Cond.instanceMethod yX11_putHeights, Cond.selects RX11 yX11_putHeights yX11_putHeights, Cond.code yX11_putHeights cX11_putHeights 2 none, Cond.methodLink RL 74 yX10_picture, Cond.instanceMethod yX10_picture, Cond.selects RX10 yX10_picture yX10_picture, Cond.code yX10_picture cX10_picture 3 (some .int), Cond.fieldLink RX10 229 "FlyFloor$Picture" "goes" "I", Cond.fieldLink RX10 232 "FlyFloor$Picture" "effort" "I", Cond.fieldLink RX10 233 "FlyFloor$Picture" "height" "[I", Cond.methodLink RX10 225 yX4_find, Cond.instanceMethod yX4_find, Cond.selects RX4 yX4_find yX4_find, Cond.code yX4_find cX4_find 5 (some .boolean), Cond.fieldLink RX4 24 "FlyFloor$Loft" "count" "I", Cond.fieldLink RX4 38 "FlyFloor$Loft" "now" "LFlyFloor$Rig;", Cond.fieldLink RX4 42 "FlyFloor$Rig" "trim" "I", Cond.constant RX4 47 (1000000), Cond.fieldLink RX4 48 "FlyFloor$Picture" "goes" "I", Cond.fieldLink RX4 51 "FlyFloor$Picture" "effort" "I", Cond.methodLink RX4 30 yX4_setTried, Cond.instanceMethod yX4_setTried, Cond.selects RX4 yX4_setTried yX4_setTried, Cond.code yX4_setTried cX4_setTried 8 none]
def wsL_law_r26 : List Cond := [Cond.fieldLink RX4 57 "FlyFloor$Rig" "height" "[I", Cond.methodLink RX4 62 Lib.Math.abs.name, Cond.fieldLink RX4 67 "FlyFloor$Rig" "hands" "I", Cond.methodLink RX4 58 yX1_pull, Cond.methodLink RX4 34 yX4_leastFrom, Cond.instanceMethod yX4_leastFrom, Cond.selects RX4 yX4_leastFrom yX4_leastFrom, Cond.code yX4_leastFrom cX4_leastFrom 7 (some .int), Cond.methodLink RX4 74 Lib.Math.min.name, Cond.methodLink RX4 70 yX4_costFrom, Cond.instanceMethod yX4_costFrom, Cond.selects RX4 yX4_costFrom yX4_costFrom, Cond.code yX4_costFrom cX4_costFrom 9 (some .int), Cond.methodLink RX4 78 yX1_edge, Cond.methodLink RX4 54 yX4_choose, Cond.instanceMethod yX4_choose, Cond.selects RX4 yX4_choose yX4_choose, Cond.code yX4_choose cX4_choose 6 none, Cond.methodLink RL 77 yX11_picture, Cond.instanceMethod yX11_picture, Cond.selects RX11 yX11_picture yX11_picture, Cond.code yX11_picture cX11_picture 4 (some .int), Cond.constant RX11 240 (1000000), Cond.methodLink RX11 247 yX11_findPicture]
def wsL_law_r27 : List Cond := [Cond.instanceMethod yX11_findPicture, Cond.selects RX11 yX11_findPicture yX11_findPicture, Cond.code yX11_findPicture cX11_findPicture 6 (some .int), Cond.fieldLink RX11 231 "FlyFloorModel" "goMany" "I", Cond.fieldLink RX11 234 "FlyFloorModel" "goEffort" "I", Cond.methodLink RX11 241 yX11_goalsBy, Cond.instanceMethod yX11_goalsBy, Cond.selects RX11 yX11_goalsBy yX11_goalsBy, Cond.code yX11_goalsBy cX11_goalsBy 5 (some .boolean), Cond.methodLink RX11 237 yX11_placeBy, Cond.instanceMethod yX11_placeBy, Cond.selects RX11 yX11_placeBy yX11_placeBy, Cond.code yX11_placeBy cX11_placeBy 4 (some .int), Cond.methodLink RX11 244 yX11_isPicture, Cond.instanceMethod yX11_isPicture, Cond.selects RX11 yX11_isPicture yX11_isPicture, Cond.code yX11_isPicture cX11_isPicture 3 (some .boolean), Cond.methodLink RL 78 yX10_split, Cond.instanceMethod yX10_split, Cond.selects RX10 yX10_split yX10_split, Cond.code yX10_split cX10_split 7 (some .int), Cond.fieldLink RX10 237 "FlyFloor$Split" "cues" "I", Cond.fieldLink RX10 240 "FlyFloor$Split" "cueOf" "[I", Cond.methodLink RX10 234 yX8_find]
def wsL_law_r28 : List Cond := [Cond.instanceMethod yX8_find, Cond.selects RX8 yX8_find yX8_find, Cond.code yX8_find cX8_find 5 (some .boolean), Cond.fieldLink RX8 30 "FlyFloor$Moves" "count" "I", Cond.fieldLink RX8 44 "FlyFloor$Split" "cues" "I", Cond.methodLink RX8 36 yX8_nextBehind, Cond.instanceMethod yX8_nextBehind, Cond.selects RX8 yX8_nextBehind yX8_nextBehind, Cond.code yX8_nextBehind cX8_nextBehind 6 (some .int), Cond.fieldLink RX8 51 "FlyFloor$Loft" "now" "LFlyFloor$Rig;", Cond.fieldLink RX8 57 "FlyFloor$Rig" "height" "[I", Cond.methodLink RX8 62 arraycopyName, Cond.fieldLink RX8 72 "FlyFloor$Rig" "hands" "I", Cond.methodLink RX8 68 yX8_bring, Cond.static yX8_bring, Cond.code yX8_bring cX8_bring 4 none, Cond.fieldLink RX8 79 "FlyFloor$Moves" "batten" "[I", Cond.fieldLink RX8 82 "FlyFloor$Moves" "height" "[I", Cond.methodLink RX8 75 yX1_canBe, Cond.methodLink RX8 40 yX8_fewestBehind, Cond.instanceMethod yX8_fewestBehind, Cond.selects RX8 yX8_fewestBehind yX8_fewestBehind, Cond.code yX8_fewestBehind cX8_fewestBehind 6 (some .int), Cond.methodLink RX8 83 Lib.Math.min.name]
def wsL_law_r29 : List Cond := [Cond.methodLink RX8 47 yX8_chooseRow, Cond.instanceMethod yX8_chooseRow, Cond.selects RX8 yX8_chooseRow yX8_chooseRow, Cond.code yX8_chooseRow cX8_chooseRow 4 (some .boolean), Cond.methodLink RX8 88 yX8_readRow, Cond.instanceMethod yX8_readRow, Cond.selects RX8 yX8_readRow yX8_readRow, Cond.code yX8_readRow cX8_readRow 6 none, Cond.methodLink RX8 96 Lib.Math.max.name, Cond.methodLink RX8 92 yX8_rowCanBe, Cond.instanceMethod yX8_rowCanBe, Cond.selects RX8 yX8_rowCanBe yX8_rowCanBe, Cond.code yX8_rowCanBe cX8_rowCanBe 3 (some .boolean), Cond.methodLink RL 81 yX11_split, Cond.instanceMethod yX11_split, Cond.selects RX11 yX11_split yX11_split, Cond.code yX11_split cX11_split 10 (some .int), Cond.methodLink RX11 253 yX11_findSplit, Cond.instanceMethod yX11_findSplit, Cond.selects RX11 yX11_findSplit yX11_findSplit, Cond.code yX11_findSplit cX11_findSplit 8 (some .int), Cond.methodLink RX11 250 yX11_canSplit, Cond.instanceMethod yX11_canSplit, Cond.selects RX11 yX11_canSplit yX11_canSplit]
def wsL_law_r30 : List Cond := [Cond.code yX11_canSplit cX11_canSplit 7 (some .boolean), Cond.methodLink RL 82 yX10_crew, Cond.instanceMethod yX10_crew, Cond.selects RX10 yX10_crew yX10_crew, Cond.code yX10_crew cX10_crew 7 (some .int), Cond.methodLink RL 85 yX11_crew, Cond.instanceMethod yX11_crew, Cond.selects RX11 yX11_crew yX11_crew, Cond.code yX11_crew cX11_crew 11 (some .int), Cond.methodLink RL 86 yX10_balance, Cond.instanceMethod yX10_balance, Cond.selects RX10 yX10_balance yX10_balance, Cond.code yX10_balance cX10_balance 3 (some .int), Cond.methodLink RX10 243 yX1_balanceOf, Cond.instanceMethod yX1_balanceOf, Cond.selects RX1 yX1_balanceOf yX1_balanceOf, Cond.code yX1_balanceOf cX1_balanceOf 8 (some .int), Cond.methodLink RX1 76 Lib.Math.min.name, Cond.methodLink RL 89 yX11_balance, Cond.instanceMethod yX11_balance, Cond.selects RX11 yX11_balance yX11_balance, Cond.code yX11_balance cX11_balance 7 (some .int), Cond.methodLink RL 90 yX10_reading, Cond.instanceMethod yX10_reading]
def wsL_law_r31 : List Cond := [Cond.selects RX10 yX10_reading yX10_reading, Cond.code yX10_reading cX10_reading 5 (some .int), Cond.methodLink RX10 246 yX5_add, Cond.instanceMethod yX5_add, Cond.selects RX5 yX5_add yX5_add, Cond.code yX5_add cX5_add 4 none, Cond.fieldLink RX5 21 "FlyFloor$Readings" "count" "I", Cond.methodLink RL 94 yX11_reading, Cond.instanceMethod yX11_reading, Cond.selects RX11 yX11_reading yX11_reading, Cond.code yX11_reading cX11_reading 4 (some .int), Cond.methodLink RL 95 yX10_back, Cond.instanceMethod yX10_back, Cond.selects RX10 yX10_back yX10_back, Cond.code yX10_back cX10_back 2 (some .int), Cond.methodLink RL 98 yX11_back, Cond.instanceMethod yX11_back, Cond.selects RX11 yX11_back yX11_back, Cond.code yX11_back cX11_back 2 (some .int), Cond.methodLink RL 99 yX10_loads, Cond.instanceMethod yX10_loads, Cond.selects RX10 yX10_loads yX10_loads, Cond.code yX10_loads cX10_loads 5 (some .int), Cond.methodLink RX10 249 yX10_pullOf]
def wsL_law_r32 : List Cond := [Cond.methodLink RX10 252 yX5_areSo, Cond.instanceMethod yX5_areSo, Cond.selects RX5 yX5_areSo yX5_areSo, Cond.code yX5_areSo cX5_areSo 6 (some .boolean), Cond.methodLink RX5 25 yX1_pull, Cond.methodLink RL 102 yX11_loads, Cond.instanceMethod yX11_loads, Cond.selects RX11 yX11_loads yX11_loads, Cond.code yX11_loads cX11_loads 5 (some .int), Cond.methodLink RX11 256 yX11_areSo, Cond.instanceMethod yX11_areSo, Cond.selects RX11 yX11_areSo yX11_areSo, Cond.code yX11_areSo cX11_areSo 2 (some .boolean), Cond.methodLink RL 103 yX10_weights, Cond.instanceMethod yX10_weights, Cond.selects RX10 yX10_weights yX10_weights, Cond.code yX10_weights cX10_weights 5 (some .int), Cond.methodLink RL 106 yX11_weights, Cond.instanceMethod yX11_weights, Cond.selects RX11 yX11_weights yX11_weights, Cond.code yX11_weights cX11_weights 5 (some .int), Cond.methodLink RL 107 yX10_kinds, Cond.instanceMethod yX10_kinds, Cond.selects RX10 yX10_kinds yX10_kinds]
def wsL_law_r33 : List Cond := [Cond.code yX10_kinds cX10_kinds 5 (some .int), Cond.methodLink RL 110 yX11_kinds, Cond.instanceMethod yX11_kinds, Cond.selects RX11 yX11_kinds yX11_kinds, Cond.code yX11_kinds cX11_kinds 5 (some .int), Cond.methodLink RL 111 yX10_odds, Cond.instanceMethod yX10_odds, Cond.selects RX10 yX10_odds yX10_odds, Cond.code yX10_odds cX10_odds 4 (some .long), Cond.constantLong RX10 256 (-9223372036854775808), Cond.methodLink RX10 258 yX1_isSeenAmongUp, Cond.instanceMethod yX1_isSeenAmongUp, Cond.selects RX1 yX1_isSeenAmongUp yX1_isSeenAmongUp, Cond.code yX1_isSeenAmongUp cX1_isSeenAmongUp 4 (some .boolean), Cond.methodLink RL 115 yX11_odds, Cond.instanceMethod yX11_odds, Cond.selects RX11 yX11_odds yX11_odds, Cond.code yX11_odds cX11_odds 6 (some .long), Cond.constantLong RX11 81 (-9223372036854775808), Cond.methodLink RX11 259 yX11_inLeastTerms, Cond.static yX11_inLeastTerms, Cond.code yX11_inLeastTerms cX11_inLeastTerms 11 (some .long), Cond.methodLink RL 116 yX10_sheet, Cond.instanceMethod yX10_sheet]
def wsL_law_r34 : List Cond := [Cond.selects RX10 yX10_sheet yX10_sheet, Cond.code yX10_sheet cX10_sheet 4 (some .int), Cond.methodLink RX10 261 yX7_renew, Cond.instanceMethod yX7_renew, Cond.selects RX7 yX7_renew yX7_renew, Cond.code yX7_renew cX7_renew 4 none, Cond.methodLink RL 119 yX11_sheet, Cond.instanceMethod yX11_sheet, Cond.selects RX11 yX11_sheet yX11_sheet, Cond.code yX11_sheet cX11_sheet 5 (some .int), Cond.methodLink RL 120 yX10_lose, Cond.instanceMethod yX10_lose, Cond.selects RX10 yX10_lose yX10_lose, Cond.code yX10_lose cX10_lose 3 (some .int), Cond.fieldLink RX10 264 "FlyFloor$Sheet" "hasRow" "Z", Cond.methodLink RL 123 yX11_lose, Cond.instanceMethod yX11_lose, Cond.selects RX11 yX11_lose yX11_lose, Cond.code yX11_lose cX11_lose 3 (some .int), Cond.methodLink RL 124 yX10_put, Cond.instanceMethod yX10_put, Cond.selects RX10 yX10_put yX10_put, Cond.code yX10_put cX10_put 5 (some .int), Cond.fieldLink RX10 268 "FlyFloor$Sheet" "lane" "I"]
def wsL_law_r35 : List Cond := [Cond.methodLink RX10 271 yX7_set, Cond.instanceMethod yX7_set, Cond.selects RX7 yX7_set yX7_set, Cond.code yX7_set cX7_set 3 none, Cond.methodLink RL 127 yX11_put, Cond.instanceMethod yX11_put, Cond.selects RX11 yX11_put yX11_put, Cond.code yX11_put cX11_put 4 (some .int), Cond.methodLink RL 128 yX10_cell, Cond.instanceMethod yX10_cell, Cond.selects RX10 yX10_cell yX10_cell, Cond.code yX10_cell cX10_cell 5 (some .long), Cond.methodLink RL 132 yX11_cell, Cond.instanceMethod yX11_cell, Cond.selects RX11 yX11_cell yX11_cell, Cond.code yX11_cell cX11_cell 4 (some .long), Cond.methodLink RX11 263 yX11_lost, Cond.instanceMethod yX11_lost, Cond.selects RX11 yX11_lost yX11_lost, Cond.code yX11_lost cX11_lost 2 (some .long), Cond.methodLink RL 133 yX10_copy, Cond.instanceMethod yX10_copy, Cond.selects RX10 yX10_copy yX10_copy, Cond.code yX10_copy cX10_copy 8 (some .int)]
def wsL_law_r36 : List Cond := [Cond.methodLink RX10 274 yX7_hasCells, Cond.methodLink RL 136 yX11_copy, Cond.instanceMethod yX11_copy, Cond.selects RX11 yX11_copy yX11_copy, Cond.code yX11_copy cX11_copy 10 (some .int), Cond.methodLink RL 137 yX10_tell, Cond.instanceMethod yX10_tell, Cond.selects RX10 yX10_tell yX10_tell, Cond.code yX10_tell cX10_tell 3 (some .int), Cond.methodLink RX10 284 yX10_lineTells, Cond.instanceMethod yX10_lineTells, Cond.selects RX10 yX10_lineTells yX10_lineTells, Cond.code yX10_lineTells cX10_lineTells 2 (some .int), Cond.methodLink RX10 293 yX10_leave, Cond.instanceMethod yX10_leave, Cond.selects RX10 yX10_leave yX10_leave, Cond.code yX10_leave cX10_leave 2 none, Cond.fieldLink RX10 297 "FlyFloor" "left" "I", Cond.methodLink RX10 287 yX10_arborTells, Cond.instanceMethod yX10_arborTells, Cond.selects RX10 yX10_arborTells yX10_arborTells, Cond.code yX10_arborTells cX10_arborTells 2 (some .int), Cond.methodLink RX10 290 yX10_winchTells, Cond.instanceMethod yX10_winchTells]
def wsL_law_r37 : List Cond := [Cond.selects RX10 yX10_winchTells yX10_winchTells, Cond.code yX10_winchTells cX10_winchTells 3 (some .int), Cond.methodLink RL 140 yX11_tell, Cond.instanceMethod yX11_tell, Cond.selects RX11 yX11_tell yX11_tell, Cond.code yX11_tell cX11_tell 3 (some .int), Cond.methodLink RX11 270 yX11_begins, Cond.instanceMethod yX11_begins, Cond.selects RX11 yX11_begins yX11_begins, Cond.code yX11_begins cX11_begins 2 none, Cond.fieldLink RX11 267 "FlyFloorModel" "trace" "I", Cond.methodLink RL 141 yX10_call, Cond.instanceMethod yX10_call, Cond.selects RX10 yX10_call yX10_call, Cond.code yX10_call cX10_call 2 (some .int), Cond.methodLink RL 144 yX11_call, Cond.instanceMethod yX11_call, Cond.selects RX11 yX11_call yX11_call, Cond.code yX11_call cX11_call 2 (some .int), Cond.methodLink RL 145 yX10_as, Cond.instanceMethod yX10_as, Cond.selects RX10 yX10_as yX10_as, Cond.code yX10_as cX10_as 3 (some .int), Cond.methodLink RL 148 yX11_as]
def wsL_law_r38 : List Cond := [Cond.instanceMethod yX11_as, Cond.selects RX11 yX11_as yX11_as, Cond.code yX11_as cX11_as 3 (some .int), Cond.methodLink RL 149 yX10_trace, Cond.instanceMethod yX10_trace, Cond.selects RX10 yX10_trace yX10_trace, Cond.code yX10_trace cX10_trace 1 (some .int), Cond.methodLink RL 152 yX11_trace, Cond.instanceMethod yX11_trace, Cond.selects RX11 yX11_trace yX11_trace, Cond.code yX11_trace cX11_trace 1 (some .int), Cond.methodLink RL 153 yX10_fault, Cond.instanceMethod yX10_fault, Cond.selects RX10 yX10_fault yX10_fault, Cond.code yX10_fault cX10_fault 1 (some .int), Cond.methodLink RL 156 yX11_fault, Cond.instanceMethod yX11_fault, Cond.selects RX11 yX11_fault yX11_fault, Cond.code yX11_fault cX11_fault 1 (some .int), Cond.methodLink RL 157 yX10_many, Cond.instanceMethod yX10_many, Cond.selects RX10 yX10_many yX10_many, Cond.code yX10_many cX10_many 2 (some .int), Cond.methodLink RL 160 yX11_many]
def wsL_law_r39 : List Cond := [Cond.instanceMethod yX11_many, Cond.selects RX11 yX11_many yX11_many, Cond.code yX11_many cX11_many 2 (some .int)]
def wsL_law : List Cond := (wsL_law_r1 ++ (wsL_law_r2 ++ (wsL_law_r3 ++ (wsL_law_r4 ++ (wsL_law_r5 ++ (wsL_law_r6 ++ (wsL_law_r7 ++ (wsL_law_r8 ++ (wsL_law_r9 ++ (wsL_law_r10 ++ (wsL_law_r11 ++ (wsL_law_r12 ++ (wsL_law_r13 ++ (wsL_law_r14 ++ (wsL_law_r15 ++ (wsL_law_r16 ++ (wsL_law_r17 ++ (wsL_law_r18 ++ (wsL_law_r19 ++ (wsL_law_r20 ++ (wsL_law_r21 ++ (wsL_law_r22 ++ (wsL_law_r23 ++ (wsL_law_r24 ++ (wsL_law_r25 ++ (wsL_law_r26 ++ (wsL_law_r27 ++ (wsL_law_r28 ++ (wsL_law_r29 ++ (wsL_law_r30 ++ (wsL_law_r31 ++ (wsL_law_r32 ++ (wsL_law_r33 ++ (wsL_law_r34 ++ (wsL_law_r35 ++ (wsL_law_r36 ++ (wsL_law_r37 ++ (wsL_law_r38 ++ wsL_law_r39)))))))))))))))))))))))))))))))))))))) ++ wsX100 ++ wsX110 ++ wsX70 ++ wsX60 ++ wsX10 ++ wsX30 ++ wsX50 ++ wsX20 ++ wsX00 ++ wsX40 ++ wsX80 ++ ([] : List Cond)
theorem mem_r {big : List Cond} (ws : List Cond) (ps : List Nat) (hp : ws = ps.filterMap (fun i => big[i]?)) : ∀ w ∈ ws, w ∈ big := by
  intro w hw
  rw [hp] at hw
  obtain ⟨i, -, hi⟩ := List.mem_filterMap.mp hw
  first | exact List.mem_of_getElem? hi | exact List.getElem?_mem hi
set_option maxRecDepth 20000 in
theorem wsLi_1 : ∀ w ∈ wsL_law_r1, w ∈ lw_tbl := mem_r _ [59, 60, 45, 739, 740, 55, 61, 62, 63, 64, 65, 66, 67, 313, 69, 46, 91, 316, 93, 47, 164, 317, 135, 136] (by decide +kernel)
set_option maxRecDepth 20000 in
theorem wsLi_2 : ∀ w ∈ wsL_law_r2, w ∈ lw_tbl := mem_r _ [48, 314, 165, 166, 49, 315, 184, 185, 50, 318, 204, 205, 51, 319, 229, 230, 52, 320, 255, 256, 53, 321, 283, 284] (by decide +kernel)
set_option maxRecDepth 20000 in
theorem wsLi_3 : ∀ w ∈ wsL_law_r3, w ∈ lw_tbl := mem_r _ [54, 322, 71, 72, 73, 90, 74, 95, 96, 97, 98, 101, 104, 138, 139, 140, 143, 145, 141, 147, 167, 168, 169, 170] (by decide +kernel)
set_option maxRecDepth 20000 in
theorem wsLi_4 : ∀ w ∈ wsL_law_r4, w ∈ lw_tbl := mem_r _ [171, 173, 187, 188, 189, 190, 191, 192, 207, 208, 209, 210, 214, 232, 233, 234, 235, 236, 258, 259, 260, 261, 262, 263] (by decide +kernel)
set_option maxRecDepth 20000 in
theorem wsLi_5 : ∀ w ∈ wsL_law_r5, w ∈ lw_tbl := mem_r _ [264, 286, 287, 288, 289, 290, 291, 292, 293, 295, 741, 742, 743, 744, 747, 748, 749, 754, 755, 756, 757, 758, 764, 765] (by decide +kernel)
set_option maxRecDepth 20000 in
theorem wsLi_6 : ∀ w ∈ wsL_law_r6, w ∈ lw_tbl := mem_r _ [767, 768, 769, 770, 771, 772, 775, 778, 779, 781, 782, 783, 350, 351, 352, 353, 324, 75, 194, 154, 354, 355, 356, 357] (by decide +kernel)
set_option maxRecDepth 20000 in
theorem wsLi_7 : ∀ w ∈ wsL_law_r7, w ∈ lw_tbl := mem_r _ [358, 359, 360, 361, 362, 363, 364, 365, 366, 76, 78, 367, 368, 369, 370, 80, 371, 373, 0, 374, 375, 376, 56, 377] (by decide +kernel)
set_option maxRecDepth 20000 in
theorem wsLi_8 : ∀ w ∈ wsL_law_r8, w ∈ lw_tbl := mem_r _ [378, 379, 380, 382, 383, 384, 385, 386, 387, 388, 113, 118, 110, 153, 99, 102, 106, 389, 390, 391, 392, 393, 394, 395] (by decide +kernel)
set_option maxRecDepth 20000 in
theorem wsLi_9 : ∀ w ∈ wsL_law_r9, w ∈ lw_tbl := mem_r _ [174, 863, 864, 865, 866, 745, 759, 750, 867, 868, 869, 870, 871, 872, 873, 874, 875, 876, 878, 7, 879, 880, 882, 8] (by decide +kernel)
set_option maxRecDepth 20000 in
theorem wsLi_10 : ∀ w ∈ wsL_law_r10, w ∈ lw_tbl := mem_r _ [883, 884, 886, 9, 887, 763, 760, 761, 762, 888, 890, 10, 891, 892, 894, 11, 895, 896, 898, 12, 899, 900, 902, 13] (by decide +kernel)
set_option maxRecDepth 20000 in
theorem wsLi_11 : ∀ w ∈ wsL_law_r11, w ∈ lw_tbl := mem_r _ [903, 751, 752, 753, 766, 780, 396, 397, 398, 399, 144, 151, 100, 103, 109, 146, 400, 401, 402, 403, 404, 405, 406, 407] (by decide +kernel)
set_option maxRecDepth 20000 in
theorem wsLi_12 : ∀ w ∈ wsL_law_r12, w ∈ lw_tbl := mem_r _ [409, 410, 411, 412, 57, 413, 414, 415, 416, 417, 418, 419, 420, 421, 904, 905, 906, 907, 908, 910, 14, 911, 912, 914] (by decide +kernel)
set_option maxRecDepth 20000 in
theorem wsLi_13 : ∀ w ∈ wsL_law_r13, w ∈ lw_tbl := mem_r _ [15, 915, 916, 918, 16, 919, 422, 423, 424, 425, 426, 427, 428, 429, 430, 920, 921, 922, 923, 924, 926, 17, 927, 431] (by decide +kernel)
set_option maxRecDepth 20000 in
theorem wsLi_14 : ∀ w ∈ wsL_law_r14, w ∈ lw_tbl := mem_r _ [432, 433, 434, 435, 436, 437, 438, 928, 929, 930, 931, 439, 440, 441, 442, 117, 932, 933, 934, 935, 443, 444, 445, 446] (by decide +kernel)
set_option maxRecDepth 20000 in
theorem wsLi_15 : ∀ w ∈ wsL_law_r15, w ∈ lw_tbl := mem_r _ [121, 936, 937, 938, 939, 447, 448, 449, 450, 221, 451, 452, 453, 454, 455, 456, 457, 218, 458, 460, 1, 461, 237, 462] (by decide +kernel)
set_option maxRecDepth 20000 in
theorem wsLi_16 : ∀ w ∈ wsL_law_r16, w ∈ lw_tbl := mem_r _ [464, 463, 58, 213, 217, 465, 466, 467, 468, 469, 470, 471, 472, 473, 474, 475, 476, 477, 478, 479, 480, 481, 482, 176] (by decide +kernel)
set_option maxRecDepth 20000 in
theorem wsLi_17 : ∀ w ∈ wsL_law_r17, w ∈ lw_tbl := mem_r _ [488, 489, 490, 483, 484, 485, 486, 487, 111, 940, 941, 942, 943, 944, 945, 946, 947, 949, 18, 950, 951, 953, 19, 954] (by decide +kernel)
set_option maxRecDepth 20000 in
theorem wsLi_18 : ∀ w ∈ wsL_law_r18, w ∈ lw_tbl := mem_r _ [955, 957, 20, 958, 959, 961, 21, 962, 963, 965, 22, 966, 967, 968, 969, 970, 972, 23, 973, 974, 976, 24, 977, 978] (by decide +kernel)
set_option maxRecDepth 20000 in
theorem wsLi_19 : ∀ w ∈ wsL_law_r19, w ∈ lw_tbl := mem_r _ [980, 25, 981, 491, 492, 493, 494, 495, 497, 2, 498, 499, 500, 501, 502, 982, 983, 984, 985, 986, 988, 26, 989, 990] (by decide +kernel)
set_option maxRecDepth 20000 in
theorem wsLi_20 : ∀ w ∈ wsL_law_r20, w ∈ lw_tbl := mem_r _ [992, 27, 993, 503, 504, 505, 506, 507, 508, 509, 510, 511, 512, 513, 994, 995, 996, 997, 998, 1000, 28, 1001, 514, 515] (by decide +kernel)
set_option maxRecDepth 20000 in
theorem wsLi_21 : ∀ w ∈ wsL_law_r21, w ∈ lw_tbl := mem_r _ [516, 517, 112, 1002, 1003, 1004, 1005, 518, 519, 520, 521, 175, 522, 523, 524, 525, 1006, 1007, 1008, 1009, 1010, 1012, 29, 1013] (by decide +kernel)
set_option maxRecDepth 20000 in
theorem wsLi_22 : ∀ w ∈ wsL_law_r22, w ∈ lw_tbl := mem_r _ [526, 527, 528, 529, 530, 531, 532, 533, 534, 535, 536, 114, 120, 537, 1014, 1015, 1016, 1017, 538, 539, 540, 541, 1018, 1019] (by decide +kernel)
set_option maxRecDepth 20000 in
theorem wsLi_23 : ∀ w ∈ wsL_law_r23, w ∈ lw_tbl := mem_r _ [1020, 1021, 542, 543, 544, 545, 243, 239, 241, 546, 547, 548, 549, 238, 240, 242, 148, 105, 550, 220, 211, 215, 552, 551] (by decide +kernel)
set_option maxRecDepth 20000 in
theorem wsLi_24 : ∀ w ∈ wsL_law_r24, w ∈ lw_tbl := mem_r _ [553, 1022, 1023, 1024, 1025, 1026, 1028, 30, 1029, 1030, 1032, 31, 1033, 773, 774, 1034, 1036, 32, 1037, 1038, 1040, 33, 1041, 1042] (by decide +kernel)
set_option maxRecDepth 20000 in
theorem wsLi_25 : ∀ w ∈ wsL_law_r25, w ∈ lw_tbl := mem_r _ [1044, 34, 1045, 554, 555, 556, 557, 267, 269, 265, 558, 559, 560, 561, 152, 149, 119, 568, 266, 268, 562, 563, 564, 565] (by decide +kernel)
set_option maxRecDepth 20000 in
theorem wsLi_26 : ∀ w ∈ wsL_law_r26, w ∈ lw_tbl := mem_r _ [107, 567, 115, 566, 569, 570, 571, 572, 578, 573, 574, 575, 576, 577, 579, 580, 581, 582, 1050, 1051, 1052, 1053, 1058, 1054] (by decide +kernel)
set_option maxRecDepth 20000 in
theorem wsLi_27 : ∀ w ∈ wsL_law_r27, w ∈ lw_tbl := mem_r _ [1056, 35, 1057, 776, 777, 1059, 1061, 36, 1062, 1063, 1065, 37, 1066, 1067, 1069, 38, 1070, 583, 584, 585, 586, 297, 294, 587] (by decide +kernel)
set_option maxRecDepth 20000 in
theorem wsLi_28 : ∀ w ∈ wsL_law_r28, w ∈ lw_tbl := mem_r _ [588, 589, 590, 219, 296, 591, 592, 593, 594, 150, 108, 595, 116, 596, 597, 598, 212, 216, 599, 600, 601, 602, 603, 604] (by decide +kernel)
set_option maxRecDepth 20000 in
theorem wsLi_29 : ∀ w ∈ wsL_law_r29, w ∈ lw_tbl := mem_r _ [605, 606, 607, 608, 609, 610, 611, 612, 613, 614, 615, 616, 617, 1071, 1072, 1073, 1074, 1075, 1077, 39, 1078, 1079, 1081, 40] (by decide +kernel)
set_option maxRecDepth 20000 in
theorem wsLi_30 : ∀ w ∈ wsL_law_r30, w ∈ lw_tbl := mem_r _ [1082, 618, 619, 620, 621, 1046, 1047, 1048, 1049, 622, 623, 624, 625, 626, 627, 628, 629, 630, 1083, 1084, 1085, 1086, 631, 632] (by decide +kernel)
set_option maxRecDepth 20000 in
theorem wsLi_31 : ∀ w ∈ wsL_law_r31, w ∈ lw_tbl := mem_r _ [633, 634, 635, 636, 637, 638, 193, 1087, 1088, 1089, 1090, 639, 640, 641, 642, 1091, 1092, 1093, 1094, 643, 644, 645, 646, 647] (by decide +kernel)
set_option maxRecDepth 20000 in
theorem wsLi_32 : ∀ w ∈ wsL_law_r32, w ∈ lw_tbl := mem_r _ [648, 649, 650, 651, 652, 1095, 1096, 1097, 1098, 1099, 1101, 41, 1102, 653, 654, 655, 656, 1103, 1104, 1105, 1106, 657, 658, 659] (by decide +kernel)
set_option maxRecDepth 20000 in
theorem wsLi_33 : ∀ w ∈ wsL_law_r33, w ∈ lw_tbl := mem_r _ [660, 1107, 1108, 1109, 1110, 661, 662, 663, 664, 665, 666, 667, 668, 669, 1111, 1112, 1113, 1114, 1115, 1116, 1117, 1118, 670, 671] (by decide +kernel)
set_option maxRecDepth 20000 in
theorem wsLi_34 : ∀ w ∈ wsL_law_r34, w ∈ lw_tbl := mem_r _ [672, 673, 674, 675, 676, 677, 1119, 1120, 1121, 1122, 678, 679, 680, 681, 77, 1123, 1124, 1125, 1126, 682, 683, 684, 685, 79] (by decide +kernel)
set_option maxRecDepth 20000 in
theorem wsLi_35 : ∀ w ∈ wsL_law_r35, w ∈ lw_tbl := mem_r _ [686, 687, 688, 689, 1127, 1128, 1129, 1130, 690, 691, 692, 693, 1131, 1132, 1133, 1134, 1135, 1137, 42, 1138, 694, 695, 696, 697] (by decide +kernel)
set_option maxRecDepth 20000 in
theorem wsLi_36 : ∀ w ∈ wsL_law_r36, w ∈ lw_tbl := mem_r _ [698, 1139, 1140, 1141, 1142, 699, 700, 701, 702, 703, 705, 3, 706, 707, 709, 4, 710, 323, 711, 713, 5, 714, 715, 717] (by decide +kernel)
set_option maxRecDepth 20000 in
theorem wsLi_37 : ∀ w ∈ wsL_law_r37, w ∈ lw_tbl := mem_r _ [6, 718, 1143, 1144, 1145, 1146, 1147, 1149, 43, 1150, 746, 719, 720, 721, 722, 1151, 1152, 1153, 1154, 723, 724, 725, 726, 1155] (by decide +kernel)
set_option maxRecDepth 20000 in
theorem wsLi_38 : ∀ w ∈ wsL_law_r38, w ∈ lw_tbl := mem_r _ [1156, 1157, 1158, 727, 728, 729, 730, 1159, 1160, 1161, 1162, 731, 732, 733, 734, 1163, 1164, 1165, 1166, 735, 736, 737, 738, 1167] (by decide +kernel)
set_option maxRecDepth 20000 in
theorem wsLi_39 : ∀ w ∈ wsL_law_r39, w ∈ lw_tbl := mem_r _ [1168, 1169, 1170] (by decide +kernel)
set_option maxRecDepth 20000 in
theorem wsLi_wsX100 : ∀ w ∈ wsX100, w ∈ lw_tbl := mem_r _ [325, 327, 329, 331, 333, 335, 337, 339, 341, 343, 345, 347] (by decide +kernel)
set_option maxRecDepth 20000 in
theorem wsLi_wsX110 : ∀ w ∈ wsX110, w ∈ lw_tbl := mem_r _ [784, 786, 788, 790, 792, 794, 796, 798, 800, 802, 804, 806, 808, 810, 812, 814, 816, 818, 820, 822, 824, 826, 828, 830, 832, 834, 836, 838, 840, 842, 844, 846, 848, 850, 852, 854, 856, 858, 860] (by decide +kernel)
set_option maxRecDepth 20000 in
theorem wsLi_wsX70 : ∀ w ∈ wsX70, w ∈ lw_tbl := mem_r _ [81, 83, 85, 87] (by decide +kernel)
set_option maxRecDepth 20000 in
theorem wsLi_wsX60 : ∀ w ∈ wsX60, w ∈ lw_tbl := mem_r _ [122, 124, 126, 128, 130, 132] (by decide +kernel)
set_option maxRecDepth 20000 in
theorem wsLi_wsX10 : ∀ w ∈ wsX10, w ∈ lw_tbl := mem_r _ [155, 157, 159, 161] (by decide +kernel)
set_option maxRecDepth 20000 in
theorem wsLi_wsX30 : ∀ w ∈ wsX30, w ∈ lw_tbl := mem_r _ [177, 179, 181] (by decide +kernel)
set_option maxRecDepth 20000 in
theorem wsLi_wsX50 : ∀ w ∈ wsX50, w ∈ lw_tbl := mem_r _ [195, 197, 199, 201] (by decide +kernel)
set_option maxRecDepth 20000 in
theorem wsLi_wsX20 : ∀ w ∈ wsX20, w ∈ lw_tbl := mem_r _ [222, 224, 226] (by decide +kernel)
set_option maxRecDepth 20000 in
theorem wsLi_wsX00 : ∀ w ∈ wsX00, w ∈ lw_tbl := mem_r _ [244, 246, 248, 250, 252] (by decide +kernel)
set_option maxRecDepth 20000 in
theorem wsLi_wsX40 : ∀ w ∈ wsX40, w ∈ lw_tbl := mem_r _ [270, 272, 274, 276, 278, 280] (by decide +kernel)
set_option maxRecDepth 20000 in
theorem wsLi_wsX80 : ∀ w ∈ wsX80, w ∈ lw_tbl := mem_r _ [298, 300, 302, 304, 306, 308, 310] (by decide +kernel)
theorem wsL_law_in : ∀ w ∈ wsL_law, w ∈ lw_tbl := by
  unfold wsL_law
  exact List.forall_mem_append.mpr ⟨List.forall_mem_append.mpr ⟨List.forall_mem_append.mpr ⟨List.forall_mem_append.mpr ⟨List.forall_mem_append.mpr ⟨List.forall_mem_append.mpr ⟨List.forall_mem_append.mpr ⟨List.forall_mem_append.mpr ⟨List.forall_mem_append.mpr ⟨List.forall_mem_append.mpr ⟨List.forall_mem_append.mpr ⟨List.forall_mem_append.mpr ⟨List.forall_mem_append.mpr ⟨wsLi_1, List.forall_mem_append.mpr ⟨wsLi_2, List.forall_mem_append.mpr ⟨wsLi_3, List.forall_mem_append.mpr ⟨wsLi_4, List.forall_mem_append.mpr ⟨wsLi_5, List.forall_mem_append.mpr ⟨wsLi_6, List.forall_mem_append.mpr ⟨wsLi_7, List.forall_mem_append.mpr ⟨wsLi_8, List.forall_mem_append.mpr ⟨wsLi_9, List.forall_mem_append.mpr ⟨wsLi_10, List.forall_mem_append.mpr ⟨wsLi_11, List.forall_mem_append.mpr ⟨wsLi_12, List.forall_mem_append.mpr ⟨wsLi_13, List.forall_mem_append.mpr ⟨wsLi_14, List.forall_mem_append.mpr ⟨wsLi_15, List.forall_mem_append.mpr ⟨wsLi_16, List.forall_mem_append.mpr ⟨wsLi_17, List.forall_mem_append.mpr ⟨wsLi_18, List.forall_mem_append.mpr ⟨wsLi_19, List.forall_mem_append.mpr ⟨wsLi_20, List.forall_mem_append.mpr ⟨wsLi_21, List.forall_mem_append.mpr ⟨wsLi_22, List.forall_mem_append.mpr ⟨wsLi_23, List.forall_mem_append.mpr ⟨wsLi_24, List.forall_mem_append.mpr ⟨wsLi_25, List.forall_mem_append.mpr ⟨wsLi_26, List.forall_mem_append.mpr ⟨wsLi_27, List.forall_mem_append.mpr ⟨wsLi_28, List.forall_mem_append.mpr ⟨wsLi_29, List.forall_mem_append.mpr ⟨wsLi_30, List.forall_mem_append.mpr ⟨wsLi_31, List.forall_mem_append.mpr ⟨wsLi_32, List.forall_mem_append.mpr ⟨wsLi_33, List.forall_mem_append.mpr ⟨wsLi_34, List.forall_mem_append.mpr ⟨wsLi_35, List.forall_mem_append.mpr ⟨wsLi_36, List.forall_mem_append.mpr ⟨wsLi_37, List.forall_mem_append.mpr ⟨wsLi_38, wsLi_39⟩⟩⟩⟩⟩⟩⟩⟩⟩⟩⟩⟩⟩⟩⟩⟩⟩⟩⟩⟩⟩⟩⟩⟩⟩⟩⟩⟩⟩⟩⟩⟩⟩⟩⟩⟩⟩⟩, wsLi_wsX100⟩, wsLi_wsX110⟩, wsLi_wsX70⟩, wsLi_wsX60⟩, wsLi_wsX10⟩, wsLi_wsX30⟩, wsLi_wsX50⟩, wsLi_wsX20⟩, wsLi_wsX00⟩, wsLi_wsX40⟩, wsLi_wsX80⟩, fun _ h => absurd h List.not_mem_nil⟩
theorem inlX0 : ∀ w ∈ wsX00, w ∈ wsL_law := fun _ h => List.mem_append_left _ (List.mem_append_left _ (List.mem_append_left _ (List.mem_append_right _ h)))
theorem inX0 : ∀ w ∈ wsX00, w ∈ lw_tbl := fun w h => wsL_law_in w (inlX0 w h)
theorem inlX1 : ∀ w ∈ wsX10, w ∈ wsL_law := fun _ h => List.mem_append_left _ (List.mem_append_left _ (List.mem_append_left _ (List.mem_append_left _ (List.mem_append_left _ (List.mem_append_left _ (List.mem_append_left _ (List.mem_append_right _ h)))))))
theorem inX1 : ∀ w ∈ wsX10, w ∈ lw_tbl := fun w h => wsL_law_in w (inlX1 w h)
theorem inlX2 : ∀ w ∈ wsX20, w ∈ wsL_law := fun _ h => List.mem_append_left _ (List.mem_append_left _ (List.mem_append_left _ (List.mem_append_left _ (List.mem_append_right _ h))))
theorem inX2 : ∀ w ∈ wsX20, w ∈ lw_tbl := fun w h => wsL_law_in w (inlX2 w h)
theorem inlX3 : ∀ w ∈ wsX30, w ∈ wsL_law := fun _ h => List.mem_append_left _ (List.mem_append_left _ (List.mem_append_left _ (List.mem_append_left _ (List.mem_append_left _ (List.mem_append_left _ (List.mem_append_right _ h))))))
theorem inX3 : ∀ w ∈ wsX30, w ∈ lw_tbl := fun w h => wsL_law_in w (inlX3 w h)
theorem inlX4 : ∀ w ∈ wsX40, w ∈ wsL_law := fun _ h => List.mem_append_left _ (List.mem_append_left _ (List.mem_append_right _ h))
theorem inX4 : ∀ w ∈ wsX40, w ∈ lw_tbl := fun w h => wsL_law_in w (inlX4 w h)
theorem inlX5 : ∀ w ∈ wsX50, w ∈ wsL_law := fun _ h => List.mem_append_left _ (List.mem_append_left _ (List.mem_append_left _ (List.mem_append_left _ (List.mem_append_left _ (List.mem_append_right _ h)))))
theorem inX5 : ∀ w ∈ wsX50, w ∈ lw_tbl := fun w h => wsL_law_in w (inlX5 w h)
theorem inlX6 : ∀ w ∈ wsX60, w ∈ wsL_law := fun _ h => List.mem_append_left _ (List.mem_append_left _ (List.mem_append_left _ (List.mem_append_left _ (List.mem_append_left _ (List.mem_append_left _ (List.mem_append_left _ (List.mem_append_left _ (List.mem_append_right _ h))))))))
theorem inX6 : ∀ w ∈ wsX60, w ∈ lw_tbl := fun w h => wsL_law_in w (inlX6 w h)
theorem inlX7 : ∀ w ∈ wsX70, w ∈ wsL_law := fun _ h => List.mem_append_left _ (List.mem_append_left _ (List.mem_append_left _ (List.mem_append_left _ (List.mem_append_left _ (List.mem_append_left _ (List.mem_append_left _ (List.mem_append_left _ (List.mem_append_left _ (List.mem_append_right _ h)))))))))
theorem inX7 : ∀ w ∈ wsX70, w ∈ lw_tbl := fun w h => wsL_law_in w (inlX7 w h)
theorem inlX8 : ∀ w ∈ wsX80, w ∈ wsL_law := fun _ h => List.mem_append_left _ (List.mem_append_right _ h)
theorem inX8 : ∀ w ∈ wsX80, w ∈ lw_tbl := fun w h => wsL_law_in w (inlX8 w h)
theorem inX9 : ∀ w ∈ wsX90, w ∈ lw_tbl := by decide +kernel
theorem inlX10 : ∀ w ∈ wsX100, w ∈ wsL_law := fun _ h => List.mem_append_left _ (List.mem_append_left _ (List.mem_append_left _ (List.mem_append_left _ (List.mem_append_left _ (List.mem_append_left _ (List.mem_append_left _ (List.mem_append_left _ (List.mem_append_left _ (List.mem_append_left _ (List.mem_append_left _ (List.mem_append_right _ h)))))))))))
theorem inX10 : ∀ w ∈ wsX100, w ∈ lw_tbl := fun w h => wsL_law_in w (inlX10 w h)
theorem inlX11 : ∀ w ∈ wsX110, w ∈ wsL_law := fun _ h => List.mem_append_left _ (List.mem_append_left _ (List.mem_append_left _ (List.mem_append_left _ (List.mem_append_left _ (List.mem_append_left _ (List.mem_append_left _ (List.mem_append_left _ (List.mem_append_left _ (List.mem_append_left _ (List.mem_append_right _ h))))))))))
theorem inX11 : ∀ w ∈ wsX110, w ∈ lw_tbl := fun w h => wsL_law_in w (inlX11 w h)
theorem inJ9 : ∀ w ∈ wsJ90, w ∈ lw_tbl := by decide +kernel
theorem inJ10 : ∀ w ∈ wsJ100, w ∈ lw_tbl := by decide +kernel
theorem dX0_init_0 : decode cX0_init 0 = .ok (.aload_n 0, 1) := by decide +kernel
theorem dX0_init_1 : decode cX0_init 1 = .ok (.invokespecial 3, 3) := by decide +kernel
theorem dX0_init_4 : decode cX0_init 4 = .ok (.aload_n 0, 1) := by decide +kernel
theorem dX0_init_5 : decode cX0_init 5 = .ok (.bipush 8, 2) := by decide +kernel
theorem dX0_init_7 : decode cX0_init 7 = .ok (.newarray .int, 2) := by decide +kernel
theorem dX0_init_9 : decode cX0_init 9 = .ok (.putfield 9, 3) := by decide +kernel
theorem dX0_init_12 : decode cX0_init 12 = .ok (.aload_n 0, 1) := by decide +kernel
theorem dX0_init_13 : decode cX0_init 13 = .ok (.bipush 8, 2) := by decide +kernel
theorem dX0_init_15 : decode cX0_init 15 = .ok (.newarray .int, 2) := by decide +kernel
theorem dX0_init_17 : decode cX0_init 17 = .ok (.putfield 15, 3) := by decide +kernel
theorem dX0_init_20 : decode cX0_init 20 = .ok (.return_, 1) := by decide +kernel
set_option maxRecDepth 20000 in
theorem ggX0_run_X1_canBe : GoodIn wsX0_run wsX1_canBe := goodIn_r _ [23, 24, 25, 26, 27, 22, 28, 29, 30, 31, 32, 33, 34, 35, 36, 16, 17, 18, 37, 38, 39, 40, 41, 42, 43, 44, 51, 52, 53, 54, 55, 56, 57, 58, 59, 60] (by decide +kernel) (by decide +kernel)
set_option maxRecDepth 20000 in
theorem gX0_run_X1_canBe : GoodIn wsX0_run (wsV RX0 54 RX1 yX1_canBe wsX1_canBe) := goodIn_app (goodIn_of _ (by decide +kernel)) ggX0_run_X1_canBe
set_option maxRecDepth 20000 in
theorem ggX0_run_X1_pull : GoodIn wsX0_run wsX1_pull := goodIn_r _ [28, 29, 30, 31, 32, 33, 34, 35, 36, 16, 17, 18, 37, 38, 39, 51, 52, 53, 54, 55, 56, 57, 58, 59, 60] (by decide +kernel) (by decide +kernel)
set_option maxRecDepth 20000 in
theorem gX0_run_X1_pull : GoodIn wsX0_run (wsV RX0 64 RX1 yX1_pull wsX1_pull) := goodIn_app (goodIn_of _ (by decide +kernel)) ggX0_run_X1_pull
theorem dX0_run_0 : decode cX0_run 0 = .ok (.aload_n 0, 1) := by decide +kernel
theorem dX0_run_1 : decode cX0_run 1 = .ok (.iconst 0, 1) := by decide +kernel
theorem dX0_run_2 : decode cX0_run 2 = .ok (.putfield 18, 3) := by decide +kernel
theorem dX0_run_5 : decode cX0_run 5 = .ok (.aload_n 0, 1) := by decide +kernel
theorem dX0_run_6 : decode cX0_run 6 = .ok (.iconst 0, 1) := by decide +kernel
theorem dX0_run_7 : decode cX0_run 7 = .ok (.putfield 22, 3) := by decide +kernel
theorem dX0_run_10 : decode cX0_run 10 = .ok (.aload_n 0, 1) := by decide +kernel
theorem dX0_run_11 : decode cX0_run 11 = .ok (.bipush (-9), 2) := by decide +kernel
theorem dX0_run_13 : decode cX0_run 13 = .ok (.putfield 25, 3) := by decide +kernel
theorem dX0_run_16 : decode cX0_run 16 = .ok (.aload_n 1, 1) := by decide +kernel
theorem dX0_run_17 : decode cX0_run 17 = .ok (.getfield 28, 3) := by decide +kernel
theorem dX0_run_20 : decode cX0_run 20 = .ok (.getfield 34, 3) := by decide +kernel
theorem dX0_run_23 : decode cX0_run 23 = .ok (.iconst 0, 1) := by decide +kernel
theorem dX0_run_24 : decode cX0_run 24 = .ok (.aload_n 0, 1) := by decide +kernel
theorem dX0_run_25 : decode cX0_run 25 = .ok (.getfield 9, 3) := by decide +kernel
theorem dX0_run_28 : decode cX0_run 28 = .ok (.iconst 0, 1) := by decide +kernel
theorem dX0_run_29 : decode cX0_run 29 = .ok (.bipush 8, 2) := by decide +kernel
theorem dX0_run_31 : decode cX0_run 31 = .ok (.invokestatic 39, 3) := by decide +kernel
theorem dX0_run_34 : decode cX0_run 34 = .ok (.aload_n 1, 1) := by decide +kernel
theorem dX0_run_35 : decode cX0_run 35 = .ok (.getfield 28, 3) := by decide +kernel
theorem dX0_run_38 : decode cX0_run 38 = .ok (.getfield 34, 3) := by decide +kernel
theorem dX0_run_41 : decode cX0_run 41 = .ok (.iconst 0, 1) := by decide +kernel
theorem dX0_run_42 : decode cX0_run 42 = .ok (.aload_n 0, 1) := by decide +kernel
theorem dX0_run_43 : decode cX0_run 43 = .ok (.getfield 15, 3) := by decide +kernel
theorem dX0_run_46 : decode cX0_run 46 = .ok (.iconst 0, 1) := by decide +kernel
theorem dX0_run_47 : decode cX0_run 47 = .ok (.bipush 8, 2) := by decide +kernel
theorem dX0_run_49 : decode cX0_run 49 = .ok (.invokestatic 39, 3) := by decide +kernel
theorem dX0_run_52 : decode cX0_run 52 = .ok (.iconst 0, 1) := by decide +kernel
theorem dX0_run_53 : decode cX0_run 53 = .ok (.istore 4, 2) := by decide +kernel
theorem dX0_run_55 : decode cX0_run 55 = .ok (.iload 4, 2) := by decide +kernel
theorem dX0_run_57 : decode cX0_run 57 = .ok (.aload_n 2, 1) := by decide +kernel
theorem dX0_run_58 : decode cX0_run 58 = .ok (.getfield 45, 3) := by decide +kernel
theorem dX0_run_61 : decode cX0_run 61 = .ok (.if_icmp .ge 118, 3) := by decide +kernel
theorem dX0_run_64 : decode cX0_run 64 = .ok (.aload_n 2, 1) := by decide +kernel
theorem dX0_run_65 : decode cX0_run 65 = .ok (.getfield 50, 3) := by decide +kernel
theorem dX0_run_68 : decode cX0_run 68 = .ok (.iload 4, 2) := by decide +kernel
theorem dX0_run_70 : decode cX0_run 70 = .ok (.iaload, 1) := by decide +kernel
theorem dX0_run_71 : decode cX0_run 71 = .ok (.istore 5, 2) := by decide +kernel
theorem dX0_run_73 : decode cX0_run 73 = .ok (.aload_n 0, 1) := by decide +kernel
theorem dX0_run_74 : decode cX0_run 74 = .ok (.getfield 15, 3) := by decide +kernel
theorem dX0_run_77 : decode cX0_run 77 = .ok (.iload 5, 2) := by decide +kernel
theorem dX0_run_79 : decode cX0_run 79 = .ok (.aload_n 2, 1) := by decide +kernel
theorem dX0_run_80 : decode cX0_run 80 = .ok (.getfield 53, 3) := by decide +kernel
theorem dX0_run_83 : decode cX0_run 83 = .ok (.iload 4, 2) := by decide +kernel
theorem dX0_run_85 : decode cX0_run 85 = .ok (.iaload, 1) := by decide +kernel
theorem dX0_run_86 : decode cX0_run 86 = .ok (.iastore, 1) := by decide +kernel
theorem dX0_run_87 : decode cX0_run 87 = .ok (.aload_n 1, 1) := by decide +kernel
theorem dX0_run_88 : decode cX0_run 88 = .ok (.aload_n 0, 1) := by decide +kernel
theorem dX0_run_89 : decode cX0_run 89 = .ok (.getfield 9, 3) := by decide +kernel
theorem dX0_run_92 : decode cX0_run 92 = .ok (.aload_n 0, 1) := by decide +kernel
theorem dX0_run_93 : decode cX0_run 93 = .ok (.getfield 15, 3) := by decide +kernel
theorem dX0_run_96 : decode cX0_run 96 = .ok (.iload_n 3, 1) := by decide +kernel
theorem dX0_run_97 : decode cX0_run 97 = .ok (.invokevirtual 54, 3) := by decide +kernel
theorem dX0_run_100 : decode cX0_run 100 = .ok (.ifCond .ne 10, 3) := by decide +kernel
theorem dX0_run_103 : decode cX0_run 103 = .ok (.aload_n 0, 1) := by decide +kernel
theorem dX0_run_104 : decode cX0_run 104 = .ok (.iload 4, 2) := by decide +kernel
theorem dX0_run_106 : decode cX0_run 106 = .ok (.putfield 25, 3) := by decide +kernel
theorem dX0_run_109 : decode cX0_run 109 = .ok (.return_, 1) := by decide +kernel
theorem dX0_run_110 : decode cX0_run 110 = .ok (.aload_n 0, 1) := by decide +kernel
theorem dX0_run_111 : decode cX0_run 111 = .ok (.getfield 15, 3) := by decide +kernel
theorem dX0_run_114 : decode cX0_run 114 = .ok (.iload 5, 2) := by decide +kernel
theorem dX0_run_116 : decode cX0_run 116 = .ok (.iaload, 1) := by decide +kernel
theorem dX0_run_117 : decode cX0_run 117 = .ok (.aload_n 0, 1) := by decide +kernel
theorem dX0_run_118 : decode cX0_run 118 = .ok (.getfield 9, 3) := by decide +kernel
theorem dX0_run_121 : decode cX0_run 121 = .ok (.iload 5, 2) := by decide +kernel
theorem dX0_run_123 : decode cX0_run 123 = .ok (.iaload, 1) := by decide +kernel
theorem dX0_run_124 : decode cX0_run 124 = .ok (.isub, 1) := by decide +kernel
theorem dX0_run_125 : decode cX0_run 125 = .ok (.invokestatic 58, 3) := by decide +kernel
theorem dX0_run_128 : decode cX0_run 128 = .ok (.istore 6, 2) := by decide +kernel
theorem dX0_run_130 : decode cX0_run 130 = .ok (.aload_n 0, 1) := by decide +kernel
theorem dX0_run_131 : decode cX0_run 131 = .ok (.dup, 1) := by decide +kernel
theorem dX0_run_132 : decode cX0_run 132 = .ok (.getfield 18, 3) := by decide +kernel
theorem dX0_run_135 : decode cX0_run 135 = .ok (.iload 6, 2) := by decide +kernel
theorem dX0_run_137 : decode cX0_run 137 = .ok (.iadd, 1) := by decide +kernel
theorem dX0_run_138 : decode cX0_run 138 = .ok (.putfield 18, 3) := by decide +kernel
theorem dX0_run_141 : decode cX0_run 141 = .ok (.aload_n 0, 1) := by decide +kernel
theorem dX0_run_142 : decode cX0_run 142 = .ok (.dup, 1) := by decide +kernel
theorem dX0_run_143 : decode cX0_run 143 = .ok (.getfield 22, 3) := by decide +kernel
theorem dX0_run_146 : decode cX0_run 146 = .ok (.iload 6, 2) := by decide +kernel
theorem dX0_run_148 : decode cX0_run 148 = .ok (.aload_n 1, 1) := by decide +kernel
theorem dX0_run_149 : decode cX0_run 149 = .ok (.iload 5, 2) := by decide +kernel
theorem dX0_run_151 : decode cX0_run 151 = .ok (.invokevirtual 64, 3) := by decide +kernel
theorem dX0_run_154 : decode cX0_run 154 = .ok (.imul, 1) := by decide +kernel
theorem dX0_run_155 : decode cX0_run 155 = .ok (.iadd, 1) := by decide +kernel
theorem dX0_run_156 : decode cX0_run 156 = .ok (.putfield 22, 3) := by decide +kernel
theorem dX0_run_159 : decode cX0_run 159 = .ok (.aload_n 0, 1) := by decide +kernel
theorem dX0_run_160 : decode cX0_run 160 = .ok (.getfield 9, 3) := by decide +kernel
theorem dX0_run_163 : decode cX0_run 163 = .ok (.iload 5, 2) := by decide +kernel
theorem dX0_run_165 : decode cX0_run 165 = .ok (.aload_n 0, 1) := by decide +kernel
theorem dX0_run_166 : decode cX0_run 166 = .ok (.getfield 15, 3) := by decide +kernel
theorem dX0_run_169 : decode cX0_run 169 = .ok (.iload 5, 2) := by decide +kernel
theorem dX0_run_171 : decode cX0_run 171 = .ok (.iaload, 1) := by decide +kernel
theorem dX0_run_172 : decode cX0_run 172 = .ok (.iastore, 1) := by decide +kernel
theorem dX0_run_173 : decode cX0_run 173 = .ok (.iinc 4 1, 3) := by decide +kernel
theorem dX0_run_176 : decode cX0_run 176 = .ok (.goto (-121), 3) := by decide +kernel
theorem dX0_run_179 : decode cX0_run 179 = .ok (.return_, 1) := by decide +kernel
set_option maxRecDepth 20000 in
theorem ggX1_init_X6_init : GoodIn wsX1_init wsX6_init := goodIn_r _ [12, 13, 2, 3, 4, 14, 15, 16, 21, 22, 23, 24, 25, 26] (by decide +kernel) (by decide +kernel)
set_option maxRecDepth 20000 in
theorem gX1_init_X6_init_n20 : GoodIn wsX1_init (wsX6_init) := ggX1_init_X6_init
theorem dX1_init_0 : decode cX1_init 0 = .ok (.aload_n 0, 1) := by decide +kernel
theorem dX1_init_1 : decode cX1_init 1 = .ok (.invokespecial 3, 3) := by decide +kernel
theorem dX1_init_4 : decode cX1_init 4 = .ok (.aload_n 0, 1) := by decide +kernel
theorem dX1_init_5 : decode cX1_init 5 = .ok (.bipush 8, 2) := by decide +kernel
theorem dX1_init_7 : decode cX1_init 7 = .ok (.newarray .int, 2) := by decide +kernel
theorem dX1_init_9 : decode cX1_init 9 = .ok (.putfield 9, 3) := by decide +kernel
theorem dX1_init_12 : decode cX1_init 12 = .ok (.aload_n 0, 1) := by decide +kernel
theorem dX1_init_13 : decode cX1_init 13 = .ok (.bipush 8, 2) := by decide +kernel
theorem dX1_init_15 : decode cX1_init 15 = .ok (.newarray .int, 2) := by decide +kernel
theorem dX1_init_17 : decode cX1_init 17 = .ok (.putfield 15, 3) := by decide +kernel
theorem dX1_init_20 : decode cX1_init 20 = .ok (.aload_n 0, 1) := by decide +kernel
theorem dX1_init_21 : decode cX1_init 21 = .ok (.new 18, 3) := by decide +kernel
theorem dX1_init_24 : decode cX1_init 24 = .ok (.dup, 1) := by decide +kernel
theorem dX1_init_25 : decode cX1_init 25 = .ok (.invokespecial 20, 3) := by decide +kernel
theorem dX1_init_28 : decode cX1_init 28 = .ok (.putfield 21, 3) := by decide +kernel
theorem dX1_init_31 : decode cX1_init 31 = .ok (.return_, 1) := by decide +kernel
set_option maxRecDepth 20000 in
theorem ggX1_build_X9_kindOf : GoodIn wsX1_build wsX9_kindOf := goodIn_r _ [14] (by decide +kernel) (by decide +kernel)
set_option maxRecDepth 20000 in
theorem gX1_build_X9_kindOf : GoodIn wsX1_build (va_wsS RX1 40 yX9_kindOf wsX9_kindOf) := goodIn_app (goodIn_of _ (by decide +kernel)) ggX1_build_X9_kindOf
theorem dX1_build_0 : decode cX1_build 0 = .ok (.aload_n 0, 1) := by decide +kernel
theorem dX1_build_1 : decode cX1_build 1 = .ok (.getfield 21, 3) := by decide +kernel
theorem dX1_build_4 : decode cX1_build 4 = .ok (.aload_n 1, 1) := by decide +kernel
theorem dX1_build_5 : decode cX1_build 5 = .ok (.iload_n 2, 1) := by decide +kernel
theorem dX1_build_6 : decode cX1_build 6 = .ok (.iconst 1, 1) := by decide +kernel
theorem dX1_build_7 : decode cX1_build 7 = .ok (.iadd, 1) := by decide +kernel
theorem dX1_build_8 : decode cX1_build 8 = .ok (.iaload, 1) := by decide +kernel
theorem dX1_build_9 : decode cX1_build 9 = .ok (.bipush 48, 2) := by decide +kernel
theorem dX1_build_11 : decode cX1_build 11 = .ok (.isub, 1) := by decide +kernel
theorem dX1_build_12 : decode cX1_build 12 = .ok (.putfield 25, 3) := by decide +kernel
theorem dX1_build_15 : decode cX1_build 15 = .ok (.aload_n 0, 1) := by decide +kernel
theorem dX1_build_16 : decode cX1_build 16 = .ok (.getfield 21, 3) := by decide +kernel
theorem dX1_build_19 : decode cX1_build 19 = .ok (.aload_n 1, 1) := by decide +kernel
theorem dX1_build_20 : decode cX1_build 20 = .ok (.iload_n 2, 1) := by decide +kernel
theorem dX1_build_21 : decode cX1_build 21 = .ok (.iconst 2, 1) := by decide +kernel
theorem dX1_build_22 : decode cX1_build 22 = .ok (.iadd, 1) := by decide +kernel
theorem dX1_build_23 : decode cX1_build 23 = .ok (.iaload, 1) := by decide +kernel
theorem dX1_build_24 : decode cX1_build 24 = .ok (.bipush 48, 2) := by decide +kernel
theorem dX1_build_26 : decode cX1_build 26 = .ok (.isub, 1) := by decide +kernel
theorem dX1_build_27 : decode cX1_build 27 = .ok (.putfield 29, 3) := by decide +kernel
theorem dX1_build_30 : decode cX1_build 30 = .ok (.aload_n 0, 1) := by decide +kernel
theorem dX1_build_31 : decode cX1_build 31 = .ok (.getfield 21, 3) := by decide +kernel
theorem dX1_build_34 : decode cX1_build 34 = .ok (.aload_n 1, 1) := by decide +kernel
theorem dX1_build_35 : decode cX1_build 35 = .ok (.iload_n 2, 1) := by decide +kernel
theorem dX1_build_36 : decode cX1_build 36 = .ok (.iconst 3, 1) := by decide +kernel
theorem dX1_build_37 : decode cX1_build 37 = .ok (.iadd, 1) := by decide +kernel
theorem dX1_build_38 : decode cX1_build 38 = .ok (.iaload, 1) := by decide +kernel
theorem dX1_build_39 : decode cX1_build 39 = .ok (.bipush 48, 2) := by decide +kernel
theorem dX1_build_41 : decode cX1_build 41 = .ok (.isub, 1) := by decide +kernel
theorem dX1_build_42 : decode cX1_build 42 = .ok (.putfield 32, 3) := by decide +kernel
theorem dX1_build_45 : decode cX1_build 45 = .ok (.aload_n 0, 1) := by decide +kernel
theorem dX1_build_46 : decode cX1_build 46 = .ok (.iload_n 3, 1) := by decide +kernel
theorem dX1_build_47 : decode cX1_build 47 = .ok (.iconst 4, 1) := by decide +kernel
theorem dX1_build_48 : decode cX1_build 48 = .ok (.isub, 1) := by decide +kernel
theorem dX1_build_49 : decode cX1_build 49 = .ok (.bipush 6, 2) := by decide +kernel
theorem dX1_build_51 : decode cX1_build 51 = .ok (.idiv, 1) := by decide +kernel
theorem dX1_build_52 : decode cX1_build 52 = .ok (.putfield 37, 3) := by decide +kernel
theorem dX1_build_55 : decode cX1_build 55 = .ok (.iconst 0, 1) := by decide +kernel
theorem dX1_build_56 : decode cX1_build 56 = .ok (.istore 4, 2) := by decide +kernel
theorem dX1_build_58 : decode cX1_build 58 = .ok (.iload 4, 2) := by decide +kernel
theorem dX1_build_60 : decode cX1_build 60 = .ok (.aload_n 0, 1) := by decide +kernel
theorem dX1_build_61 : decode cX1_build 61 = .ok (.getfield 37, 3) := by decide +kernel
theorem dX1_build_64 : decode cX1_build 64 = .ok (.if_icmp .ge 109, 3) := by decide +kernel
theorem dX1_build_67 : decode cX1_build 67 = .ok (.iload_n 2, 1) := by decide +kernel
theorem dX1_build_68 : decode cX1_build 68 = .ok (.iconst 4, 1) := by decide +kernel
theorem dX1_build_69 : decode cX1_build 69 = .ok (.iadd, 1) := by decide +kernel
theorem dX1_build_70 : decode cX1_build 70 = .ok (.iload 4, 2) := by decide +kernel
theorem dX1_build_72 : decode cX1_build 72 = .ok (.bipush 6, 2) := by decide +kernel
theorem dX1_build_74 : decode cX1_build 74 = .ok (.imul, 1) := by decide +kernel
theorem dX1_build_75 : decode cX1_build 75 = .ok (.iadd, 1) := by decide +kernel
theorem dX1_build_76 : decode cX1_build 76 = .ok (.istore 5, 2) := by decide +kernel
theorem dX1_build_78 : decode cX1_build 78 = .ok (.aload_n 0, 1) := by decide +kernel
theorem dX1_build_79 : decode cX1_build 79 = .ok (.getfield 9, 3) := by decide +kernel
theorem dX1_build_82 : decode cX1_build 82 = .ok (.iload 4, 2) := by decide +kernel
theorem dX1_build_84 : decode cX1_build 84 = .ok (.aload_n 1, 1) := by decide +kernel
theorem dX1_build_85 : decode cX1_build 85 = .ok (.iload 5, 2) := by decide +kernel
theorem dX1_build_87 : decode cX1_build 87 = .ok (.iconst 1, 1) := by decide +kernel
theorem dX1_build_88 : decode cX1_build 88 = .ok (.iadd, 1) := by decide +kernel
theorem dX1_build_89 : decode cX1_build 89 = .ok (.iaload, 1) := by decide +kernel
theorem dX1_build_90 : decode cX1_build 90 = .ok (.invokestatic 40, 3) := by decide +kernel
theorem dX1_build_93 : decode cX1_build 93 = .ok (.iastore, 1) := by decide +kernel
theorem dX1_build_94 : decode cX1_build 94 = .ok (.aload_n 0, 1) := by decide +kernel
theorem dX1_build_95 : decode cX1_build 95 = .ok (.getfield 21, 3) := by decide +kernel
theorem dX1_build_98 : decode cX1_build 98 = .ok (.getfield 44, 3) := by decide +kernel
theorem dX1_build_101 : decode cX1_build 101 = .ok (.iload 4, 2) := by decide +kernel
theorem dX1_build_103 : decode cX1_build 103 = .ok (.aload_n 1, 1) := by decide +kernel
theorem dX1_build_104 : decode cX1_build 104 = .ok (.iload 5, 2) := by decide +kernel
theorem dX1_build_106 : decode cX1_build 106 = .ok (.iconst 2, 1) := by decide +kernel
theorem dX1_build_107 : decode cX1_build 107 = .ok (.iadd, 1) := by decide +kernel
theorem dX1_build_108 : decode cX1_build 108 = .ok (.iaload, 1) := by decide +kernel
theorem dX1_build_109 : decode cX1_build 109 = .ok (.bipush 48, 2) := by decide +kernel
theorem dX1_build_111 : decode cX1_build 111 = .ok (.isub, 1) := by decide +kernel
theorem dX1_build_112 : decode cX1_build 112 = .ok (.iastore, 1) := by decide +kernel
theorem dX1_build_113 : decode cX1_build 113 = .ok (.aload_n 0, 1) := by decide +kernel
theorem dX1_build_114 : decode cX1_build 114 = .ok (.getfield 21, 3) := by decide +kernel
theorem dX1_build_117 : decode cX1_build 117 = .ok (.getfield 47, 3) := by decide +kernel
theorem dX1_build_120 : decode cX1_build 120 = .ok (.iload 4, 2) := by decide +kernel
theorem dX1_build_122 : decode cX1_build 122 = .ok (.aload_n 1, 1) := by decide +kernel
theorem dX1_build_123 : decode cX1_build 123 = .ok (.iload 5, 2) := by decide +kernel
theorem dX1_build_125 : decode cX1_build 125 = .ok (.iconst 3, 1) := by decide +kernel
theorem dX1_build_126 : decode cX1_build 126 = .ok (.iadd, 1) := by decide +kernel
theorem dX1_build_127 : decode cX1_build 127 = .ok (.iaload, 1) := by decide +kernel
theorem dX1_build_128 : decode cX1_build 128 = .ok (.bipush 48, 2) := by decide +kernel
theorem dX1_build_130 : decode cX1_build 130 = .ok (.isub, 1) := by decide +kernel
theorem dX1_build_131 : decode cX1_build 131 = .ok (.iastore, 1) := by decide +kernel
theorem dX1_build_132 : decode cX1_build 132 = .ok (.aload_n 0, 1) := by decide +kernel
theorem dX1_build_133 : decode cX1_build 133 = .ok (.getfield 21, 3) := by decide +kernel
theorem dX1_build_136 : decode cX1_build 136 = .ok (.getfield 50, 3) := by decide +kernel
theorem dX1_build_139 : decode cX1_build 139 = .ok (.iload 4, 2) := by decide +kernel
theorem dX1_build_141 : decode cX1_build 141 = .ok (.aload_n 1, 1) := by decide +kernel
theorem dX1_build_142 : decode cX1_build 142 = .ok (.iload 5, 2) := by decide +kernel
theorem dX1_build_144 : decode cX1_build 144 = .ok (.iconst 4, 1) := by decide +kernel
theorem dX1_build_145 : decode cX1_build 145 = .ok (.iadd, 1) := by decide +kernel
theorem dX1_build_146 : decode cX1_build 146 = .ok (.iaload, 1) := by decide +kernel
theorem dX1_build_147 : decode cX1_build 147 = .ok (.bipush 48, 2) := by decide +kernel
theorem dX1_build_149 : decode cX1_build 149 = .ok (.isub, 1) := by decide +kernel
theorem dX1_build_150 : decode cX1_build 150 = .ok (.iastore, 1) := by decide +kernel
theorem dX1_build_151 : decode cX1_build 151 = .ok (.aload_n 0, 1) := by decide +kernel
theorem dX1_build_152 : decode cX1_build 152 = .ok (.getfield 15, 3) := by decide +kernel
theorem dX1_build_155 : decode cX1_build 155 = .ok (.iload 4, 2) := by decide +kernel
theorem dX1_build_157 : decode cX1_build 157 = .ok (.aload_n 1, 1) := by decide +kernel
theorem dX1_build_158 : decode cX1_build 158 = .ok (.iload 5, 2) := by decide +kernel
theorem dX1_build_160 : decode cX1_build 160 = .ok (.iconst 5, 1) := by decide +kernel
theorem dX1_build_161 : decode cX1_build 161 = .ok (.iadd, 1) := by decide +kernel
theorem dX1_build_162 : decode cX1_build 162 = .ok (.iaload, 1) := by decide +kernel
theorem dX1_build_163 : decode cX1_build 163 = .ok (.bipush 48, 2) := by decide +kernel
theorem dX1_build_165 : decode cX1_build 165 = .ok (.isub, 1) := by decide +kernel
theorem dX1_build_166 : decode cX1_build 166 = .ok (.iastore, 1) := by decide +kernel
theorem dX1_build_167 : decode cX1_build 167 = .ok (.iinc 4 1, 3) := by decide +kernel
theorem dX1_build_170 : decode cX1_build 170 = .ok (.goto (-112), 3) := by decide +kernel
theorem dX1_build_173 : decode cX1_build 173 = .ok (.return_, 1) := by decide +kernel
theorem dX1_has_0 : decode cX1_has 0 = .ok (.iload_n 1, 1) := by decide +kernel
theorem dX1_has_1 : decode cX1_has 1 = .ok (.ifCond .lt 15, 3) := by decide +kernel
theorem dX1_has_4 : decode cX1_has 4 = .ok (.iload_n 1, 1) := by decide +kernel
theorem dX1_has_5 : decode cX1_has 5 = .ok (.aload_n 0, 1) := by decide +kernel
theorem dX1_has_6 : decode cX1_has 6 = .ok (.getfield 37, 3) := by decide +kernel
theorem dX1_has_9 : decode cX1_has 9 = .ok (.if_icmp .ge 7, 3) := by decide +kernel
theorem dX1_has_12 : decode cX1_has 12 = .ok (.iconst 1, 1) := by decide +kernel
theorem dX1_has_13 : decode cX1_has 13 = .ok (.goto 4, 3) := by decide +kernel
theorem dX1_has_16 : decode cX1_has 16 = .ok (.iconst 0, 1) := by decide +kernel
theorem dX1_has_17 : decode cX1_has 17 = .ok (.ireturn, 1) := by decide +kernel
set_option maxRecDepth 20000 in
theorem ggX1_pull_X10_pullOf : GoodIn wsX1_pull wsX10_pullOf := goodIn_r _ [7, 8, 9, 10, 11, 12, 13, 14] (by decide +kernel) (by decide +kernel)
set_option maxRecDepth 20000 in
theorem gX1_pull_X10_pullOf_n53 : GoodIn wsX1_pull (wsX10_pullOf) := ggX1_pull_X10_pullOf
theorem dX1_pull_0 : decode cX1_pull 0 = .ok (.aload_n 0, 1) := by decide +kernel
theorem dX1_pull_1 : decode cX1_pull 1 = .ok (.getfield 9, 3) := by decide +kernel
theorem dX1_pull_4 : decode cX1_pull 4 = .ok (.iload_n 1, 1) := by decide +kernel
theorem dX1_pull_5 : decode cX1_pull 5 = .ok (.iaload, 1) := by decide +kernel
theorem dX1_pull_6 : decode cX1_pull 6 = .ok (.aload_n 0, 1) := by decide +kernel
theorem dX1_pull_7 : decode cX1_pull 7 = .ok (.getfield 21, 3) := by decide +kernel
theorem dX1_pull_10 : decode cX1_pull 10 = .ok (.getfield 44, 3) := by decide +kernel
theorem dX1_pull_13 : decode cX1_pull 13 = .ok (.iload_n 1, 1) := by decide +kernel
theorem dX1_pull_14 : decode cX1_pull 14 = .ok (.iaload, 1) := by decide +kernel
theorem dX1_pull_15 : decode cX1_pull 15 = .ok (.aload_n 0, 1) := by decide +kernel
theorem dX1_pull_16 : decode cX1_pull 16 = .ok (.getfield 21, 3) := by decide +kernel
theorem dX1_pull_19 : decode cX1_pull 19 = .ok (.getfield 47, 3) := by decide +kernel
theorem dX1_pull_22 : decode cX1_pull 22 = .ok (.iload_n 1, 1) := by decide +kernel
theorem dX1_pull_23 : decode cX1_pull 23 = .ok (.iaload, 1) := by decide +kernel
theorem dX1_pull_24 : decode cX1_pull 24 = .ok (.invokestatic 53, 3) := by decide +kernel
theorem dX1_pull_27 : decode cX1_pull 27 = .ok (.ireturn, 1) := by decide +kernel
theorem dX1_edge_0 : decode cX1_edge 0 = .ok (.iload_n 2, 1) := by decide +kernel
theorem dX1_edge_1 : decode cX1_edge 1 = .ok (.aload_n 0, 1) := by decide +kernel
theorem dX1_edge_2 : decode cX1_edge 2 = .ok (.getfield 15, 3) := by decide +kernel
theorem dX1_edge_5 : decode cX1_edge 5 = .ok (.iload_n 1, 1) := by decide +kernel
theorem dX1_edge_6 : decode cX1_edge 6 = .ok (.iaload, 1) := by decide +kernel
theorem dX1_edge_7 : decode cX1_edge 7 = .ok (.isub, 1) := by decide +kernel
theorem dX1_edge_8 : decode cX1_edge 8 = .ok (.iconst 0, 1) := by decide +kernel
theorem dX1_edge_9 : decode cX1_edge 9 = .ok (.invokestatic 57, 3) := by decide +kernel
theorem dX1_edge_12 : decode cX1_edge 12 = .ok (.ireturn, 1) := by decide +kernel
set_option maxRecDepth 20000 in
theorem ggX1_seenAt_X1_edge : GoodIn wsX1_seenAt wsX1_edge := goodIn_r _ [8, 9, 10, 11, 12, 13, 14, 15, 16, 17] (by decide +kernel) (by decide +kernel)
set_option maxRecDepth 20000 in
theorem gX1_seenAt_X1_edge : GoodIn wsX1_seenAt (wsV RX1 63 RX1 yX1_edge wsX1_edge) := goodIn_app (goodIn_of _ (by decide +kernel)) ggX1_seenAt_X1_edge
theorem dX1_seenAt_0 : decode cX1_seenAt 0 = .ok (.iconst 0, 1) := by decide +kernel
theorem dX1_seenAt_1 : decode cX1_seenAt 1 = .ok (.istore_n 2, 1) := by decide +kernel
theorem dX1_seenAt_2 : decode cX1_seenAt 2 = .ok (.aload_n 0, 1) := by decide +kernel
theorem dX1_seenAt_3 : decode cX1_seenAt 3 = .ok (.getfield 21, 3) := by decide +kernel
theorem dX1_seenAt_6 : decode cX1_seenAt 6 = .ok (.getfield 29, 3) := by decide +kernel
theorem dX1_seenAt_9 : decode cX1_seenAt 9 = .ok (.istore_n 3, 1) := by decide +kernel
theorem dX1_seenAt_10 : decode cX1_seenAt 10 = .ok (.iconst 0, 1) := by decide +kernel
theorem dX1_seenAt_11 : decode cX1_seenAt 11 = .ok (.istore 4, 2) := by decide +kernel
theorem dX1_seenAt_13 : decode cX1_seenAt 13 = .ok (.iload 4, 2) := by decide +kernel
theorem dX1_seenAt_15 : decode cX1_seenAt 15 = .ok (.aload_n 0, 1) := by decide +kernel
theorem dX1_seenAt_16 : decode cX1_seenAt 16 = .ok (.getfield 37, 3) := by decide +kernel
theorem dX1_seenAt_19 : decode cX1_seenAt 19 = .ok (.if_icmp .ge 37, 3) := by decide +kernel
theorem dX1_seenAt_22 : decode cX1_seenAt 22 = .ok (.aload_n 0, 1) := by decide +kernel
theorem dX1_seenAt_23 : decode cX1_seenAt 23 = .ok (.iload 4, 2) := by decide +kernel
theorem dX1_seenAt_25 : decode cX1_seenAt 25 = .ok (.aload_n 1, 1) := by decide +kernel
theorem dX1_seenAt_26 : decode cX1_seenAt 26 = .ok (.iload 4, 2) := by decide +kernel
theorem dX1_seenAt_28 : decode cX1_seenAt 28 = .ok (.iaload, 1) := by decide +kernel
theorem dX1_seenAt_29 : decode cX1_seenAt 29 = .ok (.invokevirtual 63, 3) := by decide +kernel
theorem dX1_seenAt_32 : decode cX1_seenAt 32 = .ok (.istore 5, 2) := by decide +kernel
theorem dX1_seenAt_34 : decode cX1_seenAt 34 = .ok (.iload 5, 2) := by decide +kernel
theorem dX1_seenAt_36 : decode cX1_seenAt 36 = .ok (.iload_n 3, 1) := by decide +kernel
theorem dX1_seenAt_37 : decode cX1_seenAt 37 = .ok (.if_icmp .ge 13, 3) := by decide +kernel
theorem dX1_seenAt_40 : decode cX1_seenAt 40 = .ok (.iload_n 2, 1) := by decide +kernel
theorem dX1_seenAt_41 : decode cX1_seenAt 41 = .ok (.iconst 1, 1) := by decide +kernel
theorem dX1_seenAt_42 : decode cX1_seenAt 42 = .ok (.iload 4, 2) := by decide +kernel
theorem dX1_seenAt_44 : decode cX1_seenAt 44 = .ok (.ishl, 1) := by decide +kernel
theorem dX1_seenAt_45 : decode cX1_seenAt 45 = .ok (.ior, 1) := by decide +kernel
theorem dX1_seenAt_46 : decode cX1_seenAt 46 = .ok (.istore_n 2, 1) := by decide +kernel
theorem dX1_seenAt_47 : decode cX1_seenAt 47 = .ok (.iload 5, 2) := by decide +kernel
theorem dX1_seenAt_49 : decode cX1_seenAt 49 = .ok (.istore_n 3, 1) := by decide +kernel
theorem dX1_seenAt_50 : decode cX1_seenAt 50 = .ok (.iinc 4 1, 3) := by decide +kernel
theorem dX1_seenAt_53 : decode cX1_seenAt 53 = .ok (.goto (-40), 3) := by decide +kernel
theorem dX1_seenAt_56 : decode cX1_seenAt 56 = .ok (.iload_n 2, 1) := by decide +kernel
theorem dX1_seenAt_57 : decode cX1_seenAt 57 = .ok (.ireturn, 1) := by decide +kernel
set_option maxRecDepth 20000 in
theorem ggX1_hiderOf_X1_edge : GoodIn wsX1_hiderOf wsX1_edge := goodIn_r _ [8, 9, 10, 11, 12, 13, 14, 15, 16, 17] (by decide +kernel) (by decide +kernel)
set_option maxRecDepth 20000 in
theorem gX1_hiderOf_X1_edge : GoodIn wsX1_hiderOf (wsV RX1 63 RX1 yX1_edge wsX1_edge) := goodIn_app (goodIn_of _ (by decide +kernel)) ggX1_hiderOf_X1_edge
theorem dX1_hiderOf_0 : decode cX1_hiderOf 0 = .ok (.aload_n 0, 1) := by decide +kernel
theorem dX1_hiderOf_1 : decode cX1_hiderOf 1 = .ok (.iload_n 1, 1) := by decide +kernel
theorem dX1_hiderOf_2 : decode cX1_hiderOf 2 = .ok (.aload_n 0, 1) := by decide +kernel
theorem dX1_hiderOf_3 : decode cX1_hiderOf 3 = .ok (.getfield 21, 3) := by decide +kernel
theorem dX1_hiderOf_6 : decode cX1_hiderOf 6 = .ok (.getfield 50, 3) := by decide +kernel
theorem dX1_hiderOf_9 : decode cX1_hiderOf 9 = .ok (.iload_n 1, 1) := by decide +kernel
theorem dX1_hiderOf_10 : decode cX1_hiderOf 10 = .ok (.iaload, 1) := by decide +kernel
theorem dX1_hiderOf_11 : decode cX1_hiderOf 11 = .ok (.invokevirtual 63, 3) := by decide +kernel
theorem dX1_hiderOf_14 : decode cX1_hiderOf 14 = .ok (.istore_n 2, 1) := by decide +kernel
theorem dX1_hiderOf_15 : decode cX1_hiderOf 15 = .ok (.iload_n 2, 1) := by decide +kernel
theorem dX1_hiderOf_16 : decode cX1_hiderOf 16 = .ok (.aload_n 0, 1) := by decide +kernel
theorem dX1_hiderOf_17 : decode cX1_hiderOf 17 = .ok (.getfield 21, 3) := by decide +kernel
theorem dX1_hiderOf_20 : decode cX1_hiderOf 20 = .ok (.getfield 29, 3) := by decide +kernel
theorem dX1_hiderOf_23 : decode cX1_hiderOf 23 = .ok (.if_icmp .lt 6, 3) := by decide +kernel
theorem dX1_hiderOf_26 : decode cX1_hiderOf 26 = .ok (.bipush (-9), 2) := by decide +kernel
theorem dX1_hiderOf_28 : decode cX1_hiderOf 28 = .ok (.ireturn, 1) := by decide +kernel
theorem dX1_hiderOf_29 : decode cX1_hiderOf 29 = .ok (.iconst 0, 1) := by decide +kernel
theorem dX1_hiderOf_30 : decode cX1_hiderOf 30 = .ok (.istore_n 3, 1) := by decide +kernel
theorem dX1_hiderOf_31 : decode cX1_hiderOf 31 = .ok (.iload_n 3, 1) := by decide +kernel
theorem dX1_hiderOf_32 : decode cX1_hiderOf 32 = .ok (.iload_n 1, 1) := by decide +kernel
theorem dX1_hiderOf_33 : decode cX1_hiderOf 33 = .ok (.if_icmp .ge 29, 3) := by decide +kernel
theorem dX1_hiderOf_36 : decode cX1_hiderOf 36 = .ok (.aload_n 0, 1) := by decide +kernel
theorem dX1_hiderOf_37 : decode cX1_hiderOf 37 = .ok (.iload_n 3, 1) := by decide +kernel
theorem dX1_hiderOf_38 : decode cX1_hiderOf 38 = .ok (.aload_n 0, 1) := by decide +kernel
theorem dX1_hiderOf_39 : decode cX1_hiderOf 39 = .ok (.getfield 21, 3) := by decide +kernel
theorem dX1_hiderOf_42 : decode cX1_hiderOf 42 = .ok (.getfield 50, 3) := by decide +kernel
theorem dX1_hiderOf_45 : decode cX1_hiderOf 45 = .ok (.iload_n 3, 1) := by decide +kernel
theorem dX1_hiderOf_46 : decode cX1_hiderOf 46 = .ok (.iaload, 1) := by decide +kernel
theorem dX1_hiderOf_47 : decode cX1_hiderOf 47 = .ok (.invokevirtual 63, 3) := by decide +kernel
theorem dX1_hiderOf_50 : decode cX1_hiderOf 50 = .ok (.iload_n 2, 1) := by decide +kernel
theorem dX1_hiderOf_51 : decode cX1_hiderOf 51 = .ok (.if_icmp .gt 5, 3) := by decide +kernel
theorem dX1_hiderOf_54 : decode cX1_hiderOf 54 = .ok (.iload_n 3, 1) := by decide +kernel
theorem dX1_hiderOf_55 : decode cX1_hiderOf 55 = .ok (.ireturn, 1) := by decide +kernel
theorem dX1_hiderOf_56 : decode cX1_hiderOf 56 = .ok (.iinc 3 1, 3) := by decide +kernel
theorem dX1_hiderOf_59 : decode cX1_hiderOf 59 = .ok (.goto (-28), 3) := by decide +kernel
theorem dX1_hiderOf_62 : decode cX1_hiderOf 62 = .ok (.bipush (-9), 2) := by decide +kernel
theorem dX1_hiderOf_64 : decode cX1_hiderOf 64 = .ok (.ireturn, 1) := by decide +kernel
set_option maxRecDepth 20000 in
theorem ggX1_isSeenAmongUp_X1_edge : GoodIn wsX1_isSeenAmongUp wsX1_edge := goodIn_r _ [7, 8, 9, 10, 11, 12, 13, 14, 15, 16] (by decide +kernel) (by decide +kernel)
set_option maxRecDepth 20000 in
theorem gX1_isSeenAmongUp_X1_edge : GoodIn wsX1_isSeenAmongUp (wsV RX1 63 RX1 yX1_edge wsX1_edge) := goodIn_app (goodIn_of _ (by decide +kernel)) ggX1_isSeenAmongUp_X1_edge
theorem dX1_isSeenAmongUp_0 : decode cX1_isSeenAmongUp 0 = .ok (.aload_n 0, 1) := by decide +kernel
theorem dX1_isSeenAmongUp_1 : decode cX1_isSeenAmongUp 1 = .ok (.iload_n 1, 1) := by decide +kernel
theorem dX1_isSeenAmongUp_2 : decode cX1_isSeenAmongUp 2 = .ok (.bipush 9, 2) := by decide +kernel
theorem dX1_isSeenAmongUp_4 : decode cX1_isSeenAmongUp 4 = .ok (.invokevirtual 63, 3) := by decide +kernel
theorem dX1_isSeenAmongUp_7 : decode cX1_isSeenAmongUp 7 = .ok (.istore_n 2, 1) := by decide +kernel
theorem dX1_isSeenAmongUp_8 : decode cX1_isSeenAmongUp 8 = .ok (.iconst 0, 1) := by decide +kernel
theorem dX1_isSeenAmongUp_9 : decode cX1_isSeenAmongUp 9 = .ok (.istore_n 3, 1) := by decide +kernel
theorem dX1_isSeenAmongUp_10 : decode cX1_isSeenAmongUp 10 = .ok (.iload_n 3, 1) := by decide +kernel
theorem dX1_isSeenAmongUp_11 : decode cX1_isSeenAmongUp 11 = .ok (.iload_n 1, 1) := by decide +kernel
theorem dX1_isSeenAmongUp_12 : decode cX1_isSeenAmongUp 12 = .ok (.if_icmp .ge 22, 3) := by decide +kernel
theorem dX1_isSeenAmongUp_15 : decode cX1_isSeenAmongUp 15 = .ok (.aload_n 0, 1) := by decide +kernel
theorem dX1_isSeenAmongUp_16 : decode cX1_isSeenAmongUp 16 = .ok (.iload_n 3, 1) := by decide +kernel
theorem dX1_isSeenAmongUp_17 : decode cX1_isSeenAmongUp 17 = .ok (.bipush 9, 2) := by decide +kernel
theorem dX1_isSeenAmongUp_19 : decode cX1_isSeenAmongUp 19 = .ok (.invokevirtual 63, 3) := by decide +kernel
theorem dX1_isSeenAmongUp_22 : decode cX1_isSeenAmongUp 22 = .ok (.iload_n 2, 1) := by decide +kernel
theorem dX1_isSeenAmongUp_23 : decode cX1_isSeenAmongUp 23 = .ok (.if_icmp .gt 5, 3) := by decide +kernel
theorem dX1_isSeenAmongUp_26 : decode cX1_isSeenAmongUp 26 = .ok (.iconst 0, 1) := by decide +kernel
theorem dX1_isSeenAmongUp_27 : decode cX1_isSeenAmongUp 27 = .ok (.ireturn, 1) := by decide +kernel
theorem dX1_isSeenAmongUp_28 : decode cX1_isSeenAmongUp 28 = .ok (.iinc 3 1, 3) := by decide +kernel
theorem dX1_isSeenAmongUp_31 : decode cX1_isSeenAmongUp 31 = .ok (.goto (-21), 3) := by decide +kernel
theorem dX1_isSeenAmongUp_34 : decode cX1_isSeenAmongUp 34 = .ok (.iload_n 2, 1) := by decide +kernel
theorem dX1_isSeenAmongUp_35 : decode cX1_isSeenAmongUp 35 = .ok (.aload_n 0, 1) := by decide +kernel
theorem dX1_isSeenAmongUp_36 : decode cX1_isSeenAmongUp 36 = .ok (.getfield 21, 3) := by decide +kernel
theorem dX1_isSeenAmongUp_39 : decode cX1_isSeenAmongUp 39 = .ok (.getfield 29, 3) := by decide +kernel
theorem dX1_isSeenAmongUp_42 : decode cX1_isSeenAmongUp 42 = .ok (.if_icmp .ge 7, 3) := by decide +kernel
theorem dX1_isSeenAmongUp_45 : decode cX1_isSeenAmongUp 45 = .ok (.iconst 1, 1) := by decide +kernel
theorem dX1_isSeenAmongUp_46 : decode cX1_isSeenAmongUp 46 = .ok (.goto 4, 3) := by decide +kernel
theorem dX1_isSeenAmongUp_49 : decode cX1_isSeenAmongUp 49 = .ok (.iconst 0, 1) := by decide +kernel
theorem dX1_isSeenAmongUp_50 : decode cX1_isSeenAmongUp 50 = .ok (.ireturn, 1) := by decide +kernel
set_option maxRecDepth 20000 in
theorem ggX1_canBe_X1_pull : GoodIn wsX1_canBe wsX1_pull := goodIn_r _ [6, 7, 8, 9, 10, 11, 12, 13, 14, 15, 16, 17, 18, 19, 20, 26, 27, 28, 29, 30, 31, 32, 33, 34, 35] (by decide +kernel) (by decide +kernel)
set_option maxRecDepth 20000 in
theorem gX1_canBe_X1_pull : GoodIn wsX1_canBe (wsV RX1 66 RX1 yX1_pull wsX1_pull) := goodIn_app (goodIn_of _ (by decide +kernel)) ggX1_canBe_X1_pull
set_option maxRecDepth 20000 in
theorem ggX1_canBe_X1_foul : GoodIn wsX1_canBe wsX1_foul := goodIn_r _ [24, 25, 26, 27, 28, 29] (by decide +kernel) (by decide +kernel)
set_option maxRecDepth 20000 in
theorem gX1_canBe_X1_foul : GoodIn wsX1_canBe (wsV RX1 69 RX1 yX1_foul wsX1_foul) := goodIn_app (goodIn_of _ (by decide +kernel)) ggX1_canBe_X1_foul
theorem dX1_canBe_0 : decode cX1_canBe 0 = .ok (.iconst 0, 1) := by decide +kernel
theorem dX1_canBe_1 : decode cX1_canBe 1 = .ok (.istore 4, 2) := by decide +kernel
theorem dX1_canBe_3 : decode cX1_canBe 3 = .ok (.iconst 0, 1) := by decide +kernel
theorem dX1_canBe_4 : decode cX1_canBe 4 = .ok (.istore 5, 2) := by decide +kernel
theorem dX1_canBe_6 : decode cX1_canBe 6 = .ok (.iload 5, 2) := by decide +kernel
theorem dX1_canBe_8 : decode cX1_canBe 8 = .ok (.aload_n 0, 1) := by decide +kernel
theorem dX1_canBe_9 : decode cX1_canBe 9 = .ok (.getfield 37, 3) := by decide +kernel
theorem dX1_canBe_12 : decode cX1_canBe 12 = .ok (.if_icmp .ge 59, 3) := by decide +kernel
theorem dX1_canBe_15 : decode cX1_canBe 15 = .ok (.iload 4, 2) := by decide +kernel
theorem dX1_canBe_17 : decode cX1_canBe 17 = .ok (.aload_n 1, 1) := by decide +kernel
theorem dX1_canBe_18 : decode cX1_canBe 18 = .ok (.iload 5, 2) := by decide +kernel
theorem dX1_canBe_20 : decode cX1_canBe 20 = .ok (.iaload, 1) := by decide +kernel
theorem dX1_canBe_21 : decode cX1_canBe 21 = .ok (.aload_n 2, 1) := by decide +kernel
theorem dX1_canBe_22 : decode cX1_canBe 22 = .ok (.iload 5, 2) := by decide +kernel
theorem dX1_canBe_24 : decode cX1_canBe 24 = .ok (.iaload, 1) := by decide +kernel
theorem dX1_canBe_25 : decode cX1_canBe 25 = .ok (.if_icmp .eq 12, 3) := by decide +kernel
theorem dX1_canBe_28 : decode cX1_canBe 28 = .ok (.aload_n 0, 1) := by decide +kernel
theorem dX1_canBe_29 : decode cX1_canBe 29 = .ok (.iload 5, 2) := by decide +kernel
theorem dX1_canBe_31 : decode cX1_canBe 31 = .ok (.invokevirtual 66, 3) := by decide +kernel
theorem dX1_canBe_34 : decode cX1_canBe 34 = .ok (.goto 4, 3) := by decide +kernel
theorem dX1_canBe_37 : decode cX1_canBe 37 = .ok (.iconst 0, 1) := by decide +kernel
theorem dX1_canBe_38 : decode cX1_canBe 38 = .ok (.iadd, 1) := by decide +kernel
theorem dX1_canBe_39 : decode cX1_canBe 39 = .ok (.istore 4, 2) := by decide +kernel
theorem dX1_canBe_41 : decode cX1_canBe 41 = .ok (.iload 5, 2) := by decide +kernel
theorem dX1_canBe_43 : decode cX1_canBe 43 = .ok (.iconst 1, 1) := by decide +kernel
theorem dX1_canBe_44 : decode cX1_canBe 44 = .ok (.iadd, 1) := by decide +kernel
theorem dX1_canBe_45 : decode cX1_canBe 45 = .ok (.aload_n 0, 1) := by decide +kernel
theorem dX1_canBe_46 : decode cX1_canBe 46 = .ok (.getfield 37, 3) := by decide +kernel
theorem dX1_canBe_49 : decode cX1_canBe 49 = .ok (.if_icmp .ge 16, 3) := by decide +kernel
theorem dX1_canBe_52 : decode cX1_canBe 52 = .ok (.aload_n 0, 1) := by decide +kernel
theorem dX1_canBe_53 : decode cX1_canBe 53 = .ok (.iload 5, 2) := by decide +kernel
theorem dX1_canBe_55 : decode cX1_canBe 55 = .ok (.aload_n 1, 1) := by decide +kernel
theorem dX1_canBe_56 : decode cX1_canBe 56 = .ok (.aload_n 2, 1) := by decide +kernel
theorem dX1_canBe_57 : decode cX1_canBe 57 = .ok (.invokevirtual 69, 3) := by decide +kernel
theorem dX1_canBe_60 : decode cX1_canBe 60 = .ok (.ifCond .eq 5, 3) := by decide +kernel
theorem dX1_canBe_63 : decode cX1_canBe 63 = .ok (.iconst 0, 1) := by decide +kernel
theorem dX1_canBe_64 : decode cX1_canBe 64 = .ok (.ireturn, 1) := by decide +kernel
theorem dX1_canBe_65 : decode cX1_canBe 65 = .ok (.iinc 5 1, 3) := by decide +kernel
theorem dX1_canBe_68 : decode cX1_canBe 68 = .ok (.goto (-62), 3) := by decide +kernel
theorem dX1_canBe_71 : decode cX1_canBe 71 = .ok (.iload 4, 2) := by decide +kernel
theorem dX1_canBe_73 : decode cX1_canBe 73 = .ok (.iload_n 3, 1) := by decide +kernel
theorem dX1_canBe_74 : decode cX1_canBe 74 = .ok (.if_icmp .gt 7, 3) := by decide +kernel
theorem dX1_canBe_77 : decode cX1_canBe 77 = .ok (.iconst 1, 1) := by decide +kernel
theorem dX1_canBe_78 : decode cX1_canBe 78 = .ok (.goto 4, 3) := by decide +kernel
theorem dX1_canBe_81 : decode cX1_canBe 81 = .ok (.iconst 0, 1) := by decide +kernel
theorem dX1_canBe_82 : decode cX1_canBe 82 = .ok (.ireturn, 1) := by decide +kernel
theorem dX1_foul_0 : decode cX1_foul 0 = .ok (.aload_n 0, 1) := by decide +kernel
theorem dX1_foul_1 : decode cX1_foul 1 = .ok (.getfield 15, 3) := by decide +kernel
theorem dX1_foul_4 : decode cX1_foul 4 = .ok (.iload_n 1, 1) := by decide +kernel
theorem dX1_foul_5 : decode cX1_foul 5 = .ok (.iaload, 1) := by decide +kernel
theorem dX1_foul_6 : decode cX1_foul 6 = .ok (.ifCond .eq 14, 3) := by decide +kernel
theorem dX1_foul_9 : decode cX1_foul 9 = .ok (.aload_n 0, 1) := by decide +kernel
theorem dX1_foul_10 : decode cX1_foul 10 = .ok (.getfield 15, 3) := by decide +kernel
theorem dX1_foul_13 : decode cX1_foul 13 = .ok (.iload_n 1, 1) := by decide +kernel
theorem dX1_foul_14 : decode cX1_foul 14 = .ok (.iconst 1, 1) := by decide +kernel
theorem dX1_foul_15 : decode cX1_foul 15 = .ok (.iadd, 1) := by decide +kernel
theorem dX1_foul_16 : decode cX1_foul 16 = .ok (.iaload, 1) := by decide +kernel
theorem dX1_foul_17 : decode cX1_foul 17 = .ok (.ifCond .ne 5, 3) := by decide +kernel
theorem dX1_foul_20 : decode cX1_foul 20 = .ok (.iconst 0, 1) := by decide +kernel
theorem dX1_foul_21 : decode cX1_foul 21 = .ok (.ireturn, 1) := by decide +kernel
theorem dX1_foul_22 : decode cX1_foul 22 = .ok (.aload_n 2, 1) := by decide +kernel
theorem dX1_foul_23 : decode cX1_foul 23 = .ok (.iload_n 1, 1) := by decide +kernel
theorem dX1_foul_24 : decode cX1_foul 24 = .ok (.iaload, 1) := by decide +kernel
theorem dX1_foul_25 : decode cX1_foul 25 = .ok (.aload_n 2, 1) := by decide +kernel
theorem dX1_foul_26 : decode cX1_foul 26 = .ok (.iload_n 1, 1) := by decide +kernel
theorem dX1_foul_27 : decode cX1_foul 27 = .ok (.iconst 1, 1) := by decide +kernel
theorem dX1_foul_28 : decode cX1_foul 28 = .ok (.iadd, 1) := by decide +kernel
theorem dX1_foul_29 : decode cX1_foul 29 = .ok (.iaload, 1) := by decide +kernel
theorem dX1_foul_30 : decode cX1_foul 30 = .ok (.if_icmp .le 14, 3) := by decide +kernel
theorem dX1_foul_33 : decode cX1_foul 33 = .ok (.aload_n 3, 1) := by decide +kernel
theorem dX1_foul_34 : decode cX1_foul 34 = .ok (.iload_n 1, 1) := by decide +kernel
theorem dX1_foul_35 : decode cX1_foul 35 = .ok (.iaload, 1) := by decide +kernel
theorem dX1_foul_36 : decode cX1_foul 36 = .ok (.aload_n 3, 1) := by decide +kernel
theorem dX1_foul_37 : decode cX1_foul 37 = .ok (.iload_n 1, 1) := by decide +kernel
theorem dX1_foul_38 : decode cX1_foul 38 = .ok (.iconst 1, 1) := by decide +kernel
theorem dX1_foul_39 : decode cX1_foul 39 = .ok (.iadd, 1) := by decide +kernel
theorem dX1_foul_40 : decode cX1_foul 40 = .ok (.iaload, 1) := by decide +kernel
theorem dX1_foul_41 : decode cX1_foul 41 = .ok (.if_icmp .lt 25, 3) := by decide +kernel
theorem dX1_foul_44 : decode cX1_foul 44 = .ok (.aload_n 2, 1) := by decide +kernel
theorem dX1_foul_45 : decode cX1_foul 45 = .ok (.iload_n 1, 1) := by decide +kernel
theorem dX1_foul_46 : decode cX1_foul 46 = .ok (.iaload, 1) := by decide +kernel
theorem dX1_foul_47 : decode cX1_foul 47 = .ok (.aload_n 2, 1) := by decide +kernel
theorem dX1_foul_48 : decode cX1_foul 48 = .ok (.iload_n 1, 1) := by decide +kernel
theorem dX1_foul_49 : decode cX1_foul 49 = .ok (.iconst 1, 1) := by decide +kernel
theorem dX1_foul_50 : decode cX1_foul 50 = .ok (.iadd, 1) := by decide +kernel
theorem dX1_foul_51 : decode cX1_foul 51 = .ok (.iaload, 1) := by decide +kernel
theorem dX1_foul_52 : decode cX1_foul 52 = .ok (.if_icmp .ge 18, 3) := by decide +kernel
theorem dX1_foul_55 : decode cX1_foul 55 = .ok (.aload_n 3, 1) := by decide +kernel
theorem dX1_foul_56 : decode cX1_foul 56 = .ok (.iload_n 1, 1) := by decide +kernel
theorem dX1_foul_57 : decode cX1_foul 57 = .ok (.iaload, 1) := by decide +kernel
theorem dX1_foul_58 : decode cX1_foul 58 = .ok (.aload_n 3, 1) := by decide +kernel
theorem dX1_foul_59 : decode cX1_foul 59 = .ok (.iload_n 1, 1) := by decide +kernel
theorem dX1_foul_60 : decode cX1_foul 60 = .ok (.iconst 1, 1) := by decide +kernel
theorem dX1_foul_61 : decode cX1_foul 61 = .ok (.iadd, 1) := by decide +kernel
theorem dX1_foul_62 : decode cX1_foul 62 = .ok (.iaload, 1) := by decide +kernel
theorem dX1_foul_63 : decode cX1_foul 63 = .ok (.if_icmp .le 7, 3) := by decide +kernel
theorem dX1_foul_66 : decode cX1_foul 66 = .ok (.iconst 1, 1) := by decide +kernel
theorem dX1_foul_67 : decode cX1_foul 67 = .ok (.goto 4, 3) := by decide +kernel
theorem dX1_foul_70 : decode cX1_foul 70 = .ok (.iconst 0, 1) := by decide +kernel
theorem dX1_foul_71 : decode cX1_foul 71 = .ok (.ireturn, 1) := by decide +kernel
theorem dX1_beats_0 : decode cX1_beats 0 = .ok (.iconst 0, 1) := by decide +kernel
theorem dX1_beats_1 : decode cX1_beats 1 = .ok (.istore_n 3, 1) := by decide +kernel
theorem dX1_beats_2 : decode cX1_beats 2 = .ok (.iconst 0, 1) := by decide +kernel
theorem dX1_beats_3 : decode cX1_beats 3 = .ok (.istore 4, 2) := by decide +kernel
theorem dX1_beats_5 : decode cX1_beats 5 = .ok (.iload 4, 2) := by decide +kernel
theorem dX1_beats_7 : decode cX1_beats 7 = .ok (.aload_n 0, 1) := by decide +kernel
theorem dX1_beats_8 : decode cX1_beats 8 = .ok (.getfield 37, 3) := by decide +kernel
theorem dX1_beats_11 : decode cX1_beats 11 = .ok (.if_icmp .ge 26, 3) := by decide +kernel
theorem dX1_beats_14 : decode cX1_beats 14 = .ok (.iload_n 3, 1) := by decide +kernel
theorem dX1_beats_15 : decode cX1_beats 15 = .ok (.aload_n 2, 1) := by decide +kernel
theorem dX1_beats_16 : decode cX1_beats 16 = .ok (.iload 4, 2) := by decide +kernel
theorem dX1_beats_18 : decode cX1_beats 18 = .ok (.iaload, 1) := by decide +kernel
theorem dX1_beats_19 : decode cX1_beats 19 = .ok (.aload_n 1, 1) := by decide +kernel
theorem dX1_beats_20 : decode cX1_beats 20 = .ok (.iload 4, 2) := by decide +kernel
theorem dX1_beats_22 : decode cX1_beats 22 = .ok (.iaload, 1) := by decide +kernel
theorem dX1_beats_23 : decode cX1_beats 23 = .ok (.isub, 1) := by decide +kernel
theorem dX1_beats_24 : decode cX1_beats 24 = .ok (.invokestatic 73, 3) := by decide +kernel
theorem dX1_beats_27 : decode cX1_beats 27 = .ok (.invokestatic 57, 3) := by decide +kernel
theorem dX1_beats_30 : decode cX1_beats 30 = .ok (.istore_n 3, 1) := by decide +kernel
theorem dX1_beats_31 : decode cX1_beats 31 = .ok (.iinc 4 1, 3) := by decide +kernel
theorem dX1_beats_34 : decode cX1_beats 34 = .ok (.goto (-29), 3) := by decide +kernel
theorem dX1_beats_37 : decode cX1_beats 37 = .ok (.iload_n 3, 1) := by decide +kernel
theorem dX1_beats_38 : decode cX1_beats 38 = .ok (.ireturn, 1) := by decide +kernel
theorem dX1_runsAway_0 : decode cX1_runsAway 0 = .ok (.aload_n 0, 1) := by decide +kernel
theorem dX1_runsAway_1 : decode cX1_runsAway 1 = .ok (.getfield 21, 3) := by decide +kernel
theorem dX1_runsAway_4 : decode cX1_runsAway 4 = .ok (.getfield 47, 3) := by decide +kernel
theorem dX1_runsAway_7 : decode cX1_runsAway 7 = .ok (.iload_n 1, 1) := by decide +kernel
theorem dX1_runsAway_8 : decode cX1_runsAway 8 = .ok (.iaload, 1) := by decide +kernel
theorem dX1_runsAway_9 : decode cX1_runsAway 9 = .ok (.aload_n 0, 1) := by decide +kernel
theorem dX1_runsAway_10 : decode cX1_runsAway 10 = .ok (.getfield 21, 3) := by decide +kernel
theorem dX1_runsAway_13 : decode cX1_runsAway 13 = .ok (.getfield 44, 3) := by decide +kernel
theorem dX1_runsAway_16 : decode cX1_runsAway 16 = .ok (.iload_n 1, 1) := by decide +kernel
theorem dX1_runsAway_17 : decode cX1_runsAway 17 = .ok (.iaload, 1) := by decide +kernel
theorem dX1_runsAway_18 : decode cX1_runsAway 18 = .ok (.isub, 1) := by decide +kernel
theorem dX1_runsAway_19 : decode cX1_runsAway 19 = .ok (.aload_n 0, 1) := by decide +kernel
theorem dX1_runsAway_20 : decode cX1_runsAway 20 = .ok (.getfield 21, 3) := by decide +kernel
theorem dX1_runsAway_23 : decode cX1_runsAway 23 = .ok (.getfield 25, 3) := by decide +kernel
theorem dX1_runsAway_26 : decode cX1_runsAway 26 = .ok (.if_icmp .gt 5, 3) := by decide +kernel
theorem dX1_runsAway_29 : decode cX1_runsAway 29 = .ok (.iconst 0, 1) := by decide +kernel
theorem dX1_runsAway_30 : decode cX1_runsAway 30 = .ok (.ireturn, 1) := by decide +kernel
theorem dX1_runsAway_31 : decode cX1_runsAway 31 = .ok (.aload_n 0, 1) := by decide +kernel
theorem dX1_runsAway_32 : decode cX1_runsAway 32 = .ok (.getfield 21, 3) := by decide +kernel
theorem dX1_runsAway_35 : decode cX1_runsAway 35 = .ok (.getfield 50, 3) := by decide +kernel
theorem dX1_runsAway_38 : decode cX1_runsAway 38 = .ok (.iload_n 1, 1) := by decide +kernel
theorem dX1_runsAway_39 : decode cX1_runsAway 39 = .ok (.bipush 9, 2) := by decide +kernel
theorem dX1_runsAway_41 : decode cX1_runsAway 41 = .ok (.iastore, 1) := by decide +kernel
theorem dX1_runsAway_42 : decode cX1_runsAway 42 = .ok (.iconst 1, 1) := by decide +kernel
theorem dX1_runsAway_43 : decode cX1_runsAway 43 = .ok (.ireturn, 1) := by decide +kernel
set_option maxRecDepth 20000 in
theorem ggX1_balanceOf_X10_pullOf : GoodIn wsX1_balanceOf wsX10_pullOf := goodIn_r _ [15, 16, 9, 6, 10, 17, 18, 19] (by decide +kernel) (by decide +kernel)
set_option maxRecDepth 20000 in
theorem gX1_balanceOf_X10_pullOf_n53 : GoodIn wsX1_balanceOf (wsX10_pullOf) := ggX1_balanceOf_X10_pullOf
theorem dX1_balanceOf_0 : decode cX1_balanceOf 0 = .ok (.aload_n 0, 1) := by decide +kernel
theorem dX1_balanceOf_1 : decode cX1_balanceOf 1 = .ok (.getfield 21, 3) := by decide +kernel
theorem dX1_balanceOf_4 : decode cX1_balanceOf 4 = .ok (.getfield 47, 3) := by decide +kernel
theorem dX1_balanceOf_7 : decode cX1_balanceOf 7 = .ok (.iload_n 1, 1) := by decide +kernel
theorem dX1_balanceOf_8 : decode cX1_balanceOf 8 = .ok (.iaload, 1) := by decide +kernel
theorem dX1_balanceOf_9 : decode cX1_balanceOf 9 = .ok (.istore_n 3, 1) := by decide +kernel
theorem dX1_balanceOf_10 : decode cX1_balanceOf 10 = .ok (.iload_n 3, 1) := by decide +kernel
theorem dX1_balanceOf_11 : decode cX1_balanceOf 11 = .ok (.aload_n 0, 1) := by decide +kernel
theorem dX1_balanceOf_12 : decode cX1_balanceOf 12 = .ok (.getfield 21, 3) := by decide +kernel
theorem dX1_balanceOf_15 : decode cX1_balanceOf 15 = .ok (.getfield 32, 3) := by decide +kernel
theorem dX1_balanceOf_18 : decode cX1_balanceOf 18 = .ok (.iadd, 1) := by decide +kernel
theorem dX1_balanceOf_19 : decode cX1_balanceOf 19 = .ok (.bipush 9, 2) := by decide +kernel
theorem dX1_balanceOf_21 : decode cX1_balanceOf 21 = .ok (.invokestatic 76, 3) := by decide +kernel
theorem dX1_balanceOf_24 : decode cX1_balanceOf 24 = .ok (.istore 4, 2) := by decide +kernel
theorem dX1_balanceOf_26 : decode cX1_balanceOf 26 = .ok (.bipush (-9), 2) := by decide +kernel
theorem dX1_balanceOf_28 : decode cX1_balanceOf 28 = .ok (.istore 5, 2) := by decide +kernel
theorem dX1_balanceOf_30 : decode cX1_balanceOf 30 = .ok (.iconst 0, 1) := by decide +kernel
theorem dX1_balanceOf_31 : decode cX1_balanceOf 31 = .ok (.istore 6, 2) := by decide +kernel
theorem dX1_balanceOf_33 : decode cX1_balanceOf 33 = .ok (.iload 6, 2) := by decide +kernel
theorem dX1_balanceOf_35 : decode cX1_balanceOf 35 = .ok (.iload 4, 2) := by decide +kernel
theorem dX1_balanceOf_37 : decode cX1_balanceOf 37 = .ok (.if_icmp .gt 73, 3) := by decide +kernel
theorem dX1_balanceOf_40 : decode cX1_balanceOf 40 = .ok (.iload 5, 2) := by decide +kernel
theorem dX1_balanceOf_42 : decode cX1_balanceOf 42 = .ok (.bipush (-9), 2) := by decide +kernel
theorem dX1_balanceOf_44 : decode cX1_balanceOf 44 = .ok (.if_icmp .eq 20, 3) := by decide +kernel
theorem dX1_balanceOf_47 : decode cX1_balanceOf 47 = .ok (.iload 6, 2) := by decide +kernel
theorem dX1_balanceOf_49 : decode cX1_balanceOf 49 = .ok (.iload_n 3, 1) := by decide +kernel
theorem dX1_balanceOf_50 : decode cX1_balanceOf 50 = .ok (.isub, 1) := by decide +kernel
theorem dX1_balanceOf_51 : decode cX1_balanceOf 51 = .ok (.invokestatic 73, 3) := by decide +kernel
theorem dX1_balanceOf_54 : decode cX1_balanceOf 54 = .ok (.iload 5, 2) := by decide +kernel
theorem dX1_balanceOf_56 : decode cX1_balanceOf 56 = .ok (.iload_n 3, 1) := by decide +kernel
theorem dX1_balanceOf_57 : decode cX1_balanceOf 57 = .ok (.isub, 1) := by decide +kernel
theorem dX1_balanceOf_58 : decode cX1_balanceOf 58 = .ok (.invokestatic 73, 3) := by decide +kernel
theorem dX1_balanceOf_61 : decode cX1_balanceOf 61 = .ok (.if_icmp .ge 7, 3) := by decide +kernel
theorem dX1_balanceOf_64 : decode cX1_balanceOf 64 = .ok (.iconst 1, 1) := by decide +kernel
theorem dX1_balanceOf_65 : decode cX1_balanceOf 65 = .ok (.goto 4, 3) := by decide +kernel
theorem dX1_balanceOf_68 : decode cX1_balanceOf 68 = .ok (.iconst 0, 1) := by decide +kernel
theorem dX1_balanceOf_69 : decode cX1_balanceOf 69 = .ok (.istore 7, 2) := by decide +kernel
theorem dX1_balanceOf_71 : decode cX1_balanceOf 71 = .ok (.iload 7, 2) := by decide +kernel
theorem dX1_balanceOf_73 : decode cX1_balanceOf 73 = .ok (.ifCond .eq 31, 3) := by decide +kernel
theorem dX1_balanceOf_76 : decode cX1_balanceOf 76 = .ok (.aload_n 0, 1) := by decide +kernel
theorem dX1_balanceOf_77 : decode cX1_balanceOf 77 = .ok (.getfield 9, 3) := by decide +kernel
theorem dX1_balanceOf_80 : decode cX1_balanceOf 80 = .ok (.iload_n 1, 1) := by decide +kernel
theorem dX1_balanceOf_81 : decode cX1_balanceOf 81 = .ok (.iaload, 1) := by decide +kernel
theorem dX1_balanceOf_82 : decode cX1_balanceOf 82 = .ok (.aload_n 0, 1) := by decide +kernel
theorem dX1_balanceOf_83 : decode cX1_balanceOf 83 = .ok (.getfield 21, 3) := by decide +kernel
theorem dX1_balanceOf_86 : decode cX1_balanceOf 86 = .ok (.getfield 44, 3) := by decide +kernel
theorem dX1_balanceOf_89 : decode cX1_balanceOf 89 = .ok (.iload_n 1, 1) := by decide +kernel
theorem dX1_balanceOf_90 : decode cX1_balanceOf 90 = .ok (.iaload, 1) := by decide +kernel
theorem dX1_balanceOf_91 : decode cX1_balanceOf 91 = .ok (.iload 6, 2) := by decide +kernel
theorem dX1_balanceOf_93 : decode cX1_balanceOf 93 = .ok (.invokestatic 53, 3) := by decide +kernel
theorem dX1_balanceOf_96 : decode cX1_balanceOf 96 = .ok (.iload_n 2, 1) := by decide +kernel
theorem dX1_balanceOf_97 : decode cX1_balanceOf 97 = .ok (.if_icmp .gt 7, 3) := by decide +kernel
theorem dX1_balanceOf_100 : decode cX1_balanceOf 100 = .ok (.iload 6, 2) := by decide +kernel
theorem dX1_balanceOf_102 : decode cX1_balanceOf 102 = .ok (.istore 5, 2) := by decide +kernel
theorem dX1_balanceOf_104 : decode cX1_balanceOf 104 = .ok (.iinc 6 1, 3) := by decide +kernel
theorem dX1_balanceOf_107 : decode cX1_balanceOf 107 = .ok (.goto (-74), 3) := by decide +kernel
theorem dX1_balanceOf_110 : decode cX1_balanceOf 110 = .ok (.iload 5, 2) := by decide +kernel
theorem dX1_balanceOf_112 : decode cX1_balanceOf 112 = .ok (.ireturn, 1) := by decide +kernel
theorem dX2_init_0 : decode cX2_init 0 = .ok (.aload_n 0, 1) := by decide +kernel
theorem dX2_init_1 : decode cX2_init 1 = .ok (.invokespecial 3, 3) := by decide +kernel
theorem dX2_init_4 : decode cX2_init 4 = .ok (.aload_n 0, 1) := by decide +kernel
theorem dX2_init_5 : decode cX2_init 5 = .ok (.bipush 20, 2) := by decide +kernel
theorem dX2_init_7 : decode cX2_init 7 = .ok (.newarray .int, 2) := by decide +kernel
theorem dX2_init_9 : decode cX2_init 9 = .ok (.putfield 9, 3) := by decide +kernel
theorem dX2_init_12 : decode cX2_init 12 = .ok (.aload_n 0, 1) := by decide +kernel
theorem dX2_init_13 : decode cX2_init 13 = .ok (.bipush 20, 2) := by decide +kernel
theorem dX2_init_15 : decode cX2_init 15 = .ok (.newarray .int, 2) := by decide +kernel
theorem dX2_init_17 : decode cX2_init 17 = .ok (.putfield 15, 3) := by decide +kernel
theorem dX2_init_20 : decode cX2_init 20 = .ok (.return_, 1) := by decide +kernel
theorem dX2_add_0 : decode cX2_add 0 = .ok (.aload_n 0, 1) := by decide +kernel
theorem dX2_add_1 : decode cX2_add 1 = .ok (.getfield 18, 3) := by decide +kernel
theorem dX2_add_4 : decode cX2_add 4 = .ok (.bipush 20, 2) := by decide +kernel
theorem dX2_add_6 : decode cX2_add 6 = .ok (.if_icmp .ge 33, 3) := by decide +kernel
theorem dX2_add_9 : decode cX2_add 9 = .ok (.aload_n 0, 1) := by decide +kernel
theorem dX2_add_10 : decode cX2_add 10 = .ok (.getfield 9, 3) := by decide +kernel
theorem dX2_add_13 : decode cX2_add 13 = .ok (.aload_n 0, 1) := by decide +kernel
theorem dX2_add_14 : decode cX2_add 14 = .ok (.getfield 18, 3) := by decide +kernel
theorem dX2_add_17 : decode cX2_add 17 = .ok (.iload_n 1, 1) := by decide +kernel
theorem dX2_add_18 : decode cX2_add 18 = .ok (.iastore, 1) := by decide +kernel
theorem dX2_add_19 : decode cX2_add 19 = .ok (.aload_n 0, 1) := by decide +kernel
theorem dX2_add_20 : decode cX2_add 20 = .ok (.getfield 15, 3) := by decide +kernel
theorem dX2_add_23 : decode cX2_add 23 = .ok (.aload_n 0, 1) := by decide +kernel
theorem dX2_add_24 : decode cX2_add 24 = .ok (.getfield 18, 3) := by decide +kernel
theorem dX2_add_27 : decode cX2_add 27 = .ok (.iload_n 2, 1) := by decide +kernel
