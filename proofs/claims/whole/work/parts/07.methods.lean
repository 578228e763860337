theorem dx {cc : ByteArray} {T : List (Nat × Instr × Nat)} (h : ∀ q ∈ T, decode cc q.1 = .ok q.2) (i : Nat) {pc : Nat} {ins : Instr} {len : Nat} (hi : T[i]? = some (pc, ins, len)) : decode cc pc = .ok (ins, len) := h (pc, ins, len) (List.mem_of_getElem? hi)
abbrev Mb_add : MI := (yX0_add, cX0_add, 3, (some .int), 5, 117)
abbrev Mb_dropStep : MI := (yX0_dropStep, cX0_dropStep, 1, none, 0, 0)
abbrev Mb_playFrom : MI := (yX0_playFrom, cX0_playFrom, 3, none, 4, 95)
abbrev Mb_lyingNow : MI := (yX0_lyingNow, cX0_lyingNow, 1, (some .int), 0, 0)
abbrev Mb_afterLetIn : MI := (yX0_afterLetIn, cX0_afterLetIn, 3, (some .int), 3, 73)
abbrev Mb_afterPull : MI := (yX0_afterPull, cX0_afterPull, 4, (some .int), 1, 21)
abbrev Mb_isDone : MI := (yX0_isDone, cX0_isDone, 2, (some .boolean), 0, 0)
abbrev Mb_firstNotDone : MI := (yX0_firstNotDone, cX0_firstNotDone, 2, (some .int), 1, 21)
abbrev Mb_howManyDone : MI := (yX0_howManyDone, cX0_howManyDone, 3, (some .int), 1, 21)
abbrev Mb_pipesOf : MI := (yX0_pipesOf, cX0_pipesOf, 3, (some .int), 0, 0)
abbrev Mb_endsOf : MI := (yX0_endsOf, cX0_endsOf, 2, (some .int), 1, 20)
abbrev Mb_wiresIn : MI := (yX0_wiresIn, cX0_wiresIn, 5, (some .int), 1, 22)
abbrev Mb_fullPipes : MI := (yX0_fullPipes, cX0_fullPipes, 4, (some .int), 2, 46)
abbrev Mb_loadNow : MI := (yX0_loadNow, cX0_loadNow, 1, none, 2, 47)
abbrev Mb_fillLoad : MI := (yX0_fillLoad, cX0_fillLoad, 5, none, 1, 23)
abbrev Mb_drawnOutWith : MI := (yX0_drawnOutWith, cX0_drawnOutWith, 7, (some .int), 1, 22)
abbrev Mb_joinedTo : MI := (yX0_joinedTo, cX0_joinedTo, 7, (some .int), 2, 41)
abbrev Mf_greatest : MI := (yX1_greatest, cX1_greatest, 4, (some .int), 3, 72)
abbrev Mf_seekRoom : MI := (yX1_seekRoom, cX1_seekRoom, 9, (some .boolean), 2, 44)
abbrev Mf_hasRoom : MI := (yX1_hasRoom, cX1_hasRoom, 4, (some .boolean), 1, 21)
abbrev Mf_push : MI := (yX1_push, cX1_push, 6, none, 1, 22)
abbrev Mj_addMark : MI := (yX2_addMark, cX2_addMark, 3, (some .int), 0, 0)
abbrev Mj_addScene : MI := (yX2_addScene, cX2_addScene, 2, (some .int), 0, 0)
abbrev Mj_dropMarks : MI := (yX2_dropMarks, cX2_dropMarks, 2, (some .int), 0, 0)
abbrev Mj_dropScenes : MI := (yX2_dropScenes, cX2_dropScenes, 2, (some .int), 0, 0)
abbrev Ml_seek : MI := (yX3_seek, cX3_seek, 4, none, 5, 120)
abbrev Ml_seekTwo : MI := (yX3_seekTwo, cX3_seekTwo, 6, none, 4, 95)
abbrev Ml_lastLetIn : MI := (yX3_lastLetIn, cX3_lastLetIn, 6, (some .int), 3, 70)
abbrev Ml_burningWith : MI := (yX3_burningWith, cX3_burningWith, 4, (some .int), 2, 47)
abbrev Ml_spread : MI := (yX3_spread, cX3_spread, 6, (some .int), 1, 22)
abbrev Ml_holdsAll : MI := (yX3_holdsAll, cX3_holdsAll, 2, (some .boolean), 0, 0)
abbrev Mp_append : MI := (yX4_append, cX4_append, 2, none, 2, 44)
abbrev Mp_clear : MI := (yX4_clear, cX4_clear, 1, none, 1, 21)
abbrev Mp_dropPipe : MI := (yX4_dropPipe, cX4_dropPipe, 1, none, 1, 21)
abbrev Mp_fits : MI := (yX4_fits, cX4_fits, 3, (some .boolean), 1, 22)
abbrev Mp_takeUp : MI := (yX4_takeUp, cX4_takeUp, 3, none, 1, 22)
abbrev Mp_settle : MI := (yX4_settle, cX4_settle, 2, none, 0, 0)
abbrev Mp_hasPipe : MI := (yX4_hasPipe, cX4_hasPipe, 2, (some .boolean), 1, 22)
abbrev Mp_isShut : MI := (yX4_isShut, cX4_isShut, 2, (some .boolean), 0, 0)
abbrev Mp_touches : MI := (yX4_touches, cX4_touches, 3, (some .boolean), 0, 0)
abbrev Mp_opposite : MI := (yX4_opposite, cX4_opposite, 3, (some .int), 0, 0)
abbrev Mp_wholeLength : MI := (yX4_wholeLength, cX4_wholeLength, 3, (some .int), 0, 0)
abbrev Mp_dampIn : MI := (yX4_dampIn, cX4_dampIn, 4, (some .int), 1, 21)
abbrev Mr_follow : MI := (yX5_follow, cX5_follow, 4, none, 2, 46)
abbrev Mr_ring : MI := (yX5_ring, cX5_ring, 4, none, 1, 23)
abbrev Mr_possibleEnds : MI := (yX5_possibleEnds, cX5_possibleEnds, 3, (some .int), 1, 20)
abbrev Mr_stroll : MI := (yX5_stroll, cX5_stroll, 8, (some .int), 3, 68)
abbrev Mr_choicesAt : MI := (yX5_choicesAt, cX5_choicesAt, 4, (some .int), 2, 44)
abbrev Mr_behindChoice : MI := (yX5_behindChoice, cX5_behindChoice, 5, (some .int), 2, 44)
abbrev Mr_isChoice : MI := (yX5_isChoice, cX5_isChoice, 3, (some .boolean), 1, 22)
abbrev Ms_found : MI := (yX6_found, cX6_found, 2, (some .int), 0, 0)
abbrev Ms_hasSheet : MI := (yX6_hasSheet, cX6_hasSheet, 2, (some .boolean), 1, 22)
abbrev Ms_isForm : MI := (yX6_isForm, cX6_isForm, 2, (some .boolean), 1, 22)
abbrev Ms_isLost : MI := (yX6_isLost, cX6_isLost, 2, (some .boolean), 0, 0)
abbrev Ms_renew : MI := (yX6_renew, cX6_renew, 5, none, 0, 0)
abbrev Ms_drop : MI := (yX6_drop, cX6_drop, 2, none, 0, 0)
abbrev Ms_findingAt : MI := (yX6_findingAt, cX6_findingAt, 4, (some .int), 1, 22)
abbrev Ms_item : MI := (yX6_item, cX6_item, 3, (some .int), 0, 0)
abbrev Ms_store : MI := (yX6_store, cX6_store, 4, none, 1, 21)
abbrev Ms_narrowed : MI := (yX6_narrowed, cX6_narrowed, 2, (some .int), 0, 0)
abbrev Ms_hasSpan : MI := (yX6_hasSpan, cX6_hasSpan, 4, (some .boolean), 0, 0)
abbrev Ms_move : MI := (yX6_move, cX6_move, 6, none, 1, 60)
abbrev Mw_isOpen : MI := (yX7_isOpen, cX7_isOpen, 2, (some .boolean), 0, 0)
abbrev Mw_find : MI := (yX7_find, cX7_find, 6, (some .boolean), 2, 48)
abbrev Mw_measure : MI := (yX7_measure, cX7_measure, 5, none, 1, 24)
abbrev Mw_shorten : MI := (yX7_shorten, cX7_shorten, 5, (some .boolean), 0, 0)
abbrev Mw_leastOnward : MI := (yX7_leastOnward, cX7_leastOnward, 3, (some .int), 1, 22)
abbrev Mw_rowLength : MI := (yX7_rowLength, cX7_rowLength, 3, (some .int), 0, 0)
abbrev Mw_rowBits : MI := (yX7_rowBits, cX7_rowBits, 3, (some .int), 1, 20)
abbrev Mw_drawAlongRow : MI := (yX7_drawAlongRow, cX7_drawAlongRow, 3, none, 0, 0)
abbrev Mw_drawAll : MI := (yX7_drawAll, cX7_drawAll, 6, (some .int), 3, 73)
abbrev Mw_roomInRow : MI := (yX7_roomInRow, cX7_roomInRow, 3, (some .int), 1, 21)
abbrev Mw_reachedFrom : MI := (yX7_reachedFrom, cX7_reachedFrom, 7, (some .int), 1, 21)
abbrev Mx_type : MI := (yX8_type, cX8_type, 2, (some .int), 5, 117)
abbrev Mx_wipe : MI := (yX8_wipe, cX8_wipe, 2, (some .int), 5, 117)
abbrev Mx_undo : MI := (yX8_undo, cX8_undo, 1, (some .int), 5, 117)
abbrev Mx_fault : MI := (yX8_fault, cX8_fault, 1, (some .int), 0, 0)
abbrev Mx_pipe : MI := (yX8_pipe, cX8_pipe, 3, (some .int), 2, 46)
abbrev Mx_set : MI := (yX8_set, cX8_set, 3, (some .int), 6, 139)
abbrev Mx_setShut : MI := (yX8_setShut, cX8_setShut, 3, (some .int), 5, 117)
abbrev Mx_setTakes : MI := (yX8_setTakes, cX8_setTakes, 3, (some .int), 5, 117)
abbrev Mx_setHard : MI := (yX8_setHard, cX8_setHard, 3, (some .int), 0, 0)
abbrev Mx_letIn : MI := (yX8_letIn, cX8_letIn, 3, (some .int), 6, 139)
abbrev Mx_pull : MI := (yX8_pull, cX8_pull, 2, (some .int), 6, 139)
abbrev Mx_back : MI := (yX8_back, cX8_back, 1, (some .int), 1, 20)
abbrev Mx_read : MI := (yX8_read, cX8_read, 6, (some .int), 6, 139)
abbrev Mx_judged : MI := (yX8_judged, cX8_judged, 1, (some .int), 2, 42)
abbrev Mx_state : MI := (yX8_state, cX8_state, 3, (some .int), 3, 69)
abbrev Mx_wire : MI := (yX8_wire, cX8_wire, 3, (some .int), 2, 43)
abbrev Mx_out : MI := (yX8_out, cX8_out, 2, (some .int), 2, 48)
abbrev Mx_shortest : MI := (yX8_shortest, cX8_shortest, 4, (some .int), 4, 95)
abbrev Mx_most : MI := (yX8_most, cX8_most, 4, (some .int), 4, 98)
abbrev Mx_fails : MI := (yX8_fails, cX8_fails, 2, (some .int), 3, 67)
abbrev Mx_soonest : MI := (yX8_soonest, cX8_soonest, 6, (some .int), 3, 67)
abbrev Mx_left : MI := (yX8_left, cX8_left, 6, (some .int), 3, 67)
abbrev Mx_burns : MI := (yX8_burns, cX8_burns, 2, (some .int), 3, 67)
abbrev Mx_lit : MI := (yX8_lit, cX8_lit, 3, (some .int), 6, 143)
abbrev Mx_heard : MI := (yX8_heard, cX8_heard, 4, (some .int), 3, 69)
abbrev Mx_meet : MI := (yX8_meet, cX8_meet, 6, (some .int), 2, 43)
abbrev Mx_drowsy : MI := (yX8_drowsy, cX8_drowsy, 4, (some .int), 4, 95)
abbrev Mx_chalk : MI := (yX8_chalk, cX8_chalk, 4, (some .int), 3, 63)
abbrev Mx_lies : MI := (yX8_lies, cX8_lies, 5, (some .int), 2, 41)
abbrev Mx_scene : MI := (yX8_scene, cX8_scene, 2, (some .int), 1, 22)
abbrev Mx_scenes : MI := (yX8_scenes, cX8_scenes, 5, (some .int), 4, 88)
abbrev Mx_cue : MI := (yX8_cue, cX8_cue, 3, (some .int), 4, 88)
abbrev Mx_forget : MI := (yX8_forget, cX8_forget, 2, (some .int), 1, 21)
abbrev Mx_sheet : MI := (yX8_sheet, cX8_sheet, 4, (some .int), 2, 43)
abbrev Mx_lose : MI := (yX8_lose, cX8_lose, 3, (some .int), 2, 43)
abbrev Mx_lay : MI := (yX8_lay, cX8_lay, 6, (some .int), 2, 45)
abbrev Mx_get : MI := (yX8_get, cX8_get, 5, (some .int), 2, 45)
abbrev Mx_copy : MI := (yX8_copy, cX8_copy, 6, (some .int), 2, 85)
abbrev Mx_write : MI := (yX8_write, cX8_write, 6, (some .int), 4, 95)
abbrev Mx_count : MI := (yX8_count, cX8_count, 2, (some .int), 2, 43)
abbrev Mx_digest : MI := (yX8_digest, cX8_digest, 4, (some .long), 6, 146)
abbrev Mx_mixPipes : MI := (yX8_mixPipes, cX8_mixPipes, 7, (some .long), 3, 68)
abbrev Mx_mixWires : MI := (yX8_mixWires, cX8_mixWires, 6, (some .long), 4, 88)
abbrev Mx_mixEnds : MI := (yX8_mixEnds, cX8_mixEnds, 6, (some .long), 5, 121)
abbrev Mx_mix : MI := (yX8_mix, cX8_mix, 3, (some .long), 0, 0)
abbrev Mx_within : MI := (yX8_within, cX8_within, 3, (some .boolean), 0, 0)
abbrev Mx_isEnd : MI := (yX8_isEnd, cX8_isEnd, 1, (some .boolean), 1, 22)
abbrev Mx_areTwoEnds : MI := (yX8_areTwoEnds, cX8_areTwoEnds, 2, (some .boolean), 2, 42)
abbrev Mx_isWire : MI := (yX8_isWire, cX8_isWire, 1, (some .boolean), 1, 22)
abbrev Mx_isBehind : MI := (yX8_isBehind, cX8_isBehind, 2, (some .boolean), 1, 22)
abbrev Mx_bit : MI := (yX8_bit, cX8_bit, 1, (some .int), 0, 0)
abbrev Mx_hasBit : MI := (yX8_hasBit, cX8_hasBit, 2, (some .boolean), 0, 0)
abbrev Mx_findWay : MI := (yX8_findWay, cX8_findWay, 3, (some .boolean), 3, 73)
abbrev Mx_burningBehind : MI := (yX8_burningBehind, cX8_burningBehind, 2, (some .int), 3, 67)
abbrev Mx_failingDay : MI := (yX8_failingDay, cX8_failingDay, 4, (some .int), 2, 44)
abbrev Mm_in : MI := (yX9_in, cX9_in, 6, (some .boolean), 0, 0)
abbrev Mm_isTwo : MI := (yX9_isTwo, cX9_isTwo, 1, (some .boolean), 1, 25)
abbrev Mm_isIn : MI := (yX9_isIn, cX9_isIn, 2, (some .boolean), 0, 0)
abbrev Mm_ones : MI := (yX9_ones, cX9_ones, 3, (some .int), 0, 0)
abbrev Mm_finds : MI := (yX9_finds, cX9_finds, 2, (some .int), 0, 0)
abbrev Mm_isSheet : MI := (yX9_isSheet, cX9_isSheet, 1, (some .boolean), 1, 25)
abbrev Mm_sheet : MI := (yX9_sheet, cX9_sheet, 5, (some .int), 2, 45)
abbrev Mm_lose : MI := (yX9_lose, cX9_lose, 2, (some .int), 2, 45)
abbrev Mm_lacks : MI := (yX9_lacks, cX9_lacks, 4, (some .int), 1, 25)
abbrev Mm_cut : MI := (yX9_cut, cX9_cut, 2, (some .int), 0, 0)
abbrev Mm_lay : MI := (yX9_lay, cX9_lay, 6, (some .int), 2, 48)
abbrev Mm_get : MI := (yX9_get, cX9_get, 4, (some .int), 2, 48)
abbrev Mm_copy : MI := (yX9_copy, cX9_copy, 7, (some .int), 2, 45)
abbrev Mm_type : MI := (yX9_type, cX9_type, 2, (some .int), 1, 25)
abbrev Mm_wipe : MI := (yX9_wipe, cX9_wipe, 2, (some .int), 0, 0)
abbrev Mm_readsPipe : MI := (yX9_readsPipe, cX9_readsPipe, 4, (some .boolean), 1, 25)
abbrev Mm_reads : MI := (yX9_reads, cX9_reads, 3, (some .int), 2, 48)
abbrev Mm_fault : MI := (yX9_fault, cX9_fault, 1, (some .int), 3, 70)
abbrev Mm_undo : MI := (yX9_undo, cX9_undo, 1, (some .int), 3, 70)
abbrev Mm_set : MI := (yX9_set, cX9_set, 4, (some .int), 1, 25)
abbrev Mm_isEnd : MI := (yX9_isEnd, cX9_isEnd, 1, (some .boolean), 1, 25)
abbrev Mm_isWire : MI := (yX9_isWire, cX9_isWire, 1, (some .boolean), 1, 25)
abbrev Mm_areEnds : MI := (yX9_areEnds, cX9_areEnds, 2, (some .boolean), 2, 45)
abbrev Mm_more : MI := (yX9_more, cX9_more, 3, (some .int), 0, 0)
abbrev Mm_letIn : MI := (yX9_letIn, cX9_letIn, 3, (some .int), 3, 66)
abbrev Mm_pull : MI := (yX9_pull, cX9_pull, 2, (some .int), 2, 45)
abbrev Mm_back : MI := (yX9_back, cX9_back, 1, (some .int), 0, 0)
abbrev Mm_read : MI := (yX9_read, cX9_read, 4, (some .int), 4, 88)
abbrev Mm_other : MI := (yX9_other, cX9_other, 3, (some .int), 0, 0)
abbrev Mm_isOpen : MI := (yX9_isOpen, cX9_isOpen, 2, (some .boolean), 1, 21)
abbrev Mm_findFar : MI := (yX9_findFar, cX9_findFar, 7, none, 2, 42)
abbrev Mm_findWay : MI := (yX9_findWay, cX9_findWay, 8, (some .int), 3, 68)
abbrev Mm_draws : MI := (yX9_draws, cX9_draws, 6, (some .int), 4, 95)
abbrev Mm_canPull : MI := (yX9_canPull, cX9_canPull, 4, (some .boolean), 1, 21)
abbrev Mm_pulls : MI := (yX9_pulls, cX9_pulls, 3, none, 1, 21)
abbrev Mm_goes : MI := (yX9_goes, cX9_goes, 4, none, 5, 120)
abbrev Mm_goesAll : MI := (yX9_goesAll, cX9_goesAll, 1, none, 6, 143)
abbrev Mm_pipe : MI := (yX9_pipe, cX9_pipe, 3, (some .int), 7, 163)
abbrev Mm_judged : MI := (yX9_judged, cX9_judged, 1, (some .int), 7, 163)
abbrev Mm_fullNow : MI := (yX9_fullNow, cX9_fullNow, 3, (some .int), 0, 0)
abbrev Mm_stateOf : MI := (yX9_stateOf, cX9_stateOf, 3, (some .int), 6, 143)
abbrev Mm_state : MI := (yX9_state, cX9_state, 3, (some .int), 7, 165)
abbrev Mm_pipesOf : MI := (yX9_pipesOf, cX9_pipesOf, 2, (some .int), 1, 21)
abbrev Mm_wire : MI := (yX9_wire, cX9_wire, 3, (some .int), 6, 143)
abbrev Mm_outOf : MI := (yX9_outOf, cX9_outOf, 5, (some .int), 2, 42)
abbrev Mm_out : MI := (yX9_out, cX9_out, 2, (some .int), 7, 163)
abbrev Mm_shortestOf : MI := (yX9_shortestOf, cX9_shortestOf, 5, (some .int), 4, 95)
abbrev Mm_shortest : MI := (yX9_shortest, cX9_shortest, 4, (some .int), 7, 163)
abbrev Mm_keeps : MI := (yX9_keeps, cX9_keeps, 2, none, 0, 0)
abbrev Mm_putsBack : MI := (yX9_putsBack, cX9_putsBack, 2, none, 0, 0)
abbrev Mm_drawnOf : MI := (yX9_drawnOf, cX9_drawnOf, 4, (some .int), 5, 120)
abbrev Mm_flows : MI := (yX9_flows, cX9_flows, 9, (some .boolean), 1, 22)
abbrev Mm_mostOf : MI := (yX9_mostOf, cX9_mostOf, 4, (some .int), 2, 50)
abbrev Mm_most : MI := (yX9_most, cX9_most, 4, (some .int), 7, 163)
abbrev Mm_failsOf : MI := (yX9_failsOf, cX9_failsOf, 4, (some .int), 2, 42)
abbrev Mm_fails : MI := (yX9_fails, cX9_fails, 2, (some .int), 7, 163)
abbrev Mm_soonestNow : MI := (yX9_soonestNow, cX9_soonestNow, 4, (some .int), 3, 65)
abbrev Mm_soonest : MI := (yX9_soonest, cX9_soonest, 1, (some .int), 7, 163)
abbrev Mm_leftOn : MI := (yX9_leftOn, cX9_leftOn, 5, (some .int), 3, 65)
abbrev Mm_left : MI := (yX9_left, cX9_left, 2, (some .int), 7, 163)
abbrev Mm_burnsBy : MI := (yX9_burnsBy, cX9_burnsBy, 9, (some .int), 2, 43)
abbrev Mm_joined : MI := (yX9_joined, cX9_joined, 3, (some .int), 1, 21)
abbrev Mm_burnsNow : MI := (yX9_burnsNow, cX9_burnsNow, 2, (some .int), 3, 71)
abbrev Mm_burns : MI := (yX9_burns, cX9_burns, 2, (some .int), 7, 163)
abbrev Mm_lights : MI := (yX9_lights, cX9_lights, 7, (some .boolean), 5, 120)
abbrev Mm_findLit : MI := (yX9_findLit, cX9_findLit, 5, none, 6, 146)
abbrev Mm_lit : MI := (yX9_lit, cX9_lit, 3, (some .int), 7, 170)
abbrev Mm_outAt : MI := (yX9_outAt, cX9_outAt, 2, (some .int), 0, 0)
abbrev Mm_inAt : MI := (yX9_inAt, cX9_inAt, 2, (some .int), 0, 0)
abbrev Mm_goesThrough : MI := (yX9_goesThrough, cX9_goesThrough, 2, (some .boolean), 1, 21)
abbrev Mm_walks : MI := (yX9_walks, cX9_walks, 6, none, 2, 42)
abbrev Mm_waysTo : MI := (yX9_waysTo, cX9_waysTo, 6, (some .int), 1, 21)
abbrev Mm_heardOf : MI := (yX9_heardOf, cX9_heardOf, 6, (some .int), 3, 67)
abbrev Mm_heard : MI := (yX9_heard, cX9_heard, 4, (some .int), 4, 92)
abbrev Mm_meetOf : MI := (yX9_meetOf, cX9_meetOf, 7, (some .int), 0, 0)
abbrev Mm_meet : MI := (yX9_meet, cX9_meet, 6, (some .int), 3, 70)
abbrev Mm_drowsyOf : MI := (yX9_drowsyOf, cX9_drowsyOf, 10, (some .int), 1, 22)
abbrev Mm_drowsy : MI := (yX9_drowsy, cX9_drowsy, 4, (some .int), 3, 70)
abbrev Mm_chalk : MI := (yX9_chalk, cX9_chalk, 4, (some .int), 3, 66)
abbrev Mm_liesNow : MI := (yX9_liesNow, cX9_liesNow, 7, (some .int), 1, 21)
abbrev Mm_lies : MI := (yX9_lies, cX9_lies, 1, (some .int), 7, 163)
abbrev Mm_scene : MI := (yX9_scene, cX9_scene, 2, (some .int), 1, 25)
abbrev Mm_scenesOf : MI := (yX9_scenesOf, cX9_scenesOf, 5, (some .int), 6, 143)
abbrev Mm_scenes : MI := (yX9_scenes, cX9_scenes, 2, (some .int), 7, 167)
abbrev Mm_cueOf : MI := (yX9_cueOf, cX9_cueOf, 3, (some .int), 7, 167)
abbrev Mm_cue : MI := (yX9_cue, cX9_cue, 2, (some .int), 8, 189)
abbrev Mm_forget : MI := (yX9_forget, cX9_forget, 3, (some .int), 2, 45)
abbrev Mm_write : MI := (yX9_write, cX9_write, 7, (some .int), 7, 163)
abbrev Mm_count : MI := (yX9_count, cX9_count, 4, (some .int), 7, 163)
abbrev Mm_digest : MI := (yX9_digest, cX9_digest, 5, (some .long), 9, 210)
abbrev Mk_bitCount : MI := (yJ6_bitCount_0f7a4, cJ6_bitCount_0f7a4, 1, (some .int), 0, 0)
abbrev Mk_abs : MI := (yJ9_abs_0f7a4, cJ9_abs_0f7a4, 1, (some .int), 0, 0)
abbrev Mk_max : MI := (yJ9_max_7cf53, cJ9_max_7cf53, 2, (some .int), 0, 0)
abbrev Mk_min : MI := (yJ9_min_7cf53, cJ9_min_7cf53, 2, (some .int), 0, 0)
abbrev Mk_fill : MI := (yJ7_fill_53178, cJ7_fill_53178, 4, none, 0, 0)
abbrev Mlaw_law : MI := (yL_law, cL_law, 4, (some .boolean), 10, 234)
theorem k78 : Cond.initialized RX0 ∈ gtbl := gm 78 (by decide +kernel)
theorem k524 : Cond.code yX0_add cX0_add 3 (some .int) ∈ gtbl := gm 524 (by decide +kernel)
theorem ck_b_add : (Cond.initialized Mb_add.1.cls ∈ gtbl) ∧ (Cond.code Mb_add.1 Mb_add.2.1 Mb_add.2.2.1 Mb_add.2.2.2.1 ∈ gtbl) ∧ (Mb_add.1.cls ≠ "java/lang/invoke/MethodHandle" ∧ Mb_add.1.cls ≠ "java/lang/invoke/VarHandle" ∧ (parseMethodDescriptor Mb_add.1.desc).map (fun d => d.parameters.length) = some 2) := ⟨k78, k524, by decide +kernel, by decide +kernel, by decide +kernel⟩
theorem k522 : Cond.instanceMethod yX0_add ∈ gtbl := gm 522 (by decide +kernel)
theorem k523 : Cond.selects RX0 yX0_add yX0_add ∈ gtbl := gm 523 (by decide +kernel)
theorem k540 : Cond.code yX0_dropStep cX0_dropStep 1 none ∈ gtbl := gm 540 (by decide +kernel)
theorem ck_b_dropStep : (Cond.initialized Mb_dropStep.1.cls ∈ gtbl) ∧ (Cond.code Mb_dropStep.1 Mb_dropStep.2.1 Mb_dropStep.2.2.1 Mb_dropStep.2.2.2.1 ∈ gtbl) ∧ (Mb_dropStep.1.cls ≠ "java/lang/invoke/MethodHandle" ∧ Mb_dropStep.1.cls ≠ "java/lang/invoke/VarHandle" ∧ (parseMethodDescriptor Mb_dropStep.1.desc).map (fun d => d.parameters.length) = some 0) := ⟨k78, k540, by decide +kernel, by decide +kernel, by decide +kernel⟩
theorem k538 : Cond.instanceMethod yX0_dropStep ∈ gtbl := gm 538 (by decide +kernel)
theorem k539 : Cond.selects RX0 yX0_dropStep yX0_dropStep ∈ gtbl := gm 539 (by decide +kernel)
theorem k397 : Cond.code yX0_playFrom cX0_playFrom 3 none ∈ gtbl := gm 397 (by decide +kernel)
theorem ck_b_playFrom : (Cond.initialized Mb_playFrom.1.cls ∈ gtbl) ∧ (Cond.code Mb_playFrom.1 Mb_playFrom.2.1 Mb_playFrom.2.2.1 Mb_playFrom.2.2.2.1 ∈ gtbl) ∧ (Mb_playFrom.1.cls ≠ "java/lang/invoke/MethodHandle" ∧ Mb_playFrom.1.cls ≠ "java/lang/invoke/VarHandle" ∧ (parseMethodDescriptor Mb_playFrom.1.desc).map (fun d => d.parameters.length) = some 1) := ⟨k78, k397, by decide +kernel, by decide +kernel, by decide +kernel⟩
theorem k395 : Cond.instanceMethod yX0_playFrom ∈ gtbl := gm 395 (by decide +kernel)
theorem k396 : Cond.selects RX0 yX0_playFrom yX0_playFrom ∈ gtbl := gm 396 (by decide +kernel)
theorem k489 : Cond.code yX0_lyingNow cX0_lyingNow 1 (some .int) ∈ gtbl := gm 489 (by decide +kernel)
theorem ck_b_lyingNow : (Cond.initialized Mb_lyingNow.1.cls ∈ gtbl) ∧ (Cond.code Mb_lyingNow.1 Mb_lyingNow.2.1 Mb_lyingNow.2.2.1 Mb_lyingNow.2.2.2.1 ∈ gtbl) ∧ (Mb_lyingNow.1.cls ≠ "java/lang/invoke/MethodHandle" ∧ Mb_lyingNow.1.cls ≠ "java/lang/invoke/VarHandle" ∧ (parseMethodDescriptor Mb_lyingNow.1.desc).map (fun d => d.parameters.length) = some 0) := ⟨k78, k489, by decide +kernel, by decide +kernel, by decide +kernel⟩
theorem k487 : Cond.instanceMethod yX0_lyingNow ∈ gtbl := gm 487 (by decide +kernel)
theorem k488 : Cond.selects RX0 yX0_lyingNow yX0_lyingNow ∈ gtbl := gm 488 (by decide +kernel)
theorem k411 : Cond.code yX0_afterLetIn cX0_afterLetIn 3 (some .int) ∈ gtbl := gm 411 (by decide +kernel)
theorem ck_b_afterLetIn : (Cond.initialized Mb_afterLetIn.1.cls ∈ gtbl) ∧ (Cond.code Mb_afterLetIn.1 Mb_afterLetIn.2.1 Mb_afterLetIn.2.2.1 Mb_afterLetIn.2.2.2.1 ∈ gtbl) ∧ (Mb_afterLetIn.1.cls ≠ "java/lang/invoke/MethodHandle" ∧ Mb_afterLetIn.1.cls ≠ "java/lang/invoke/VarHandle" ∧ (parseMethodDescriptor Mb_afterLetIn.1.desc).map (fun d => d.parameters.length) = some 1) := ⟨k78, k411, by decide +kernel, by decide +kernel, by decide +kernel⟩
theorem k410 : Cond.instanceMethod yX0_afterLetIn ∈ gtbl := gm 410 (by decide +kernel)
theorem k4 : Cond.selects RX0 yX0_afterLetIn yX0_afterLetIn ∈ gtbl := gm 4 (by decide +kernel)
theorem k401 : Cond.code yX0_afterPull cX0_afterPull 4 (some .int) ∈ gtbl := gm 401 (by decide +kernel)
theorem ck_b_afterPull : (Cond.initialized Mb_afterPull.1.cls ∈ gtbl) ∧ (Cond.code Mb_afterPull.1 Mb_afterPull.2.1 Mb_afterPull.2.2.1 Mb_afterPull.2.2.2.1 ∈ gtbl) ∧ (Mb_afterPull.1.cls ≠ "java/lang/invoke/MethodHandle" ∧ Mb_afterPull.1.cls ≠ "java/lang/invoke/VarHandle" ∧ (parseMethodDescriptor Mb_afterPull.1.desc).map (fun d => d.parameters.length) = some 2) := ⟨k78, k401, by decide +kernel, by decide +kernel, by decide +kernel⟩
theorem k400 : Cond.instanceMethod yX0_afterPull ∈ gtbl := gm 400 (by decide +kernel)
theorem k3 : Cond.selects RX0 yX0_afterPull yX0_afterPull ∈ gtbl := gm 3 (by decide +kernel)
theorem k573 : Cond.code yX0_isDone cX0_isDone 2 (some .boolean) ∈ gtbl := gm 573 (by decide +kernel)
theorem ck_b_isDone : (Cond.initialized Mb_isDone.1.cls ∈ gtbl) ∧ (Cond.code Mb_isDone.1 Mb_isDone.2.1 Mb_isDone.2.2.1 Mb_isDone.2.2.2.1 ∈ gtbl) ∧ (Mb_isDone.1.cls ≠ "java/lang/invoke/MethodHandle" ∧ Mb_isDone.1.cls ≠ "java/lang/invoke/VarHandle" ∧ (parseMethodDescriptor Mb_isDone.1.desc).map (fun d => d.parameters.length) = some 1) := ⟨k78, k573, by decide +kernel, by decide +kernel, by decide +kernel⟩
theorem k572 : Cond.instanceMethod yX0_isDone ∈ gtbl := gm 572 (by decide +kernel)
theorem k12 : Cond.selects RX0 yX0_isDone yX0_isDone ∈ gtbl := gm 12 (by decide +kernel)
theorem k569 : Cond.code yX0_firstNotDone cX0_firstNotDone 2 (some .int) ∈ gtbl := gm 569 (by decide +kernel)
theorem ck_b_firstNotDone : (Cond.initialized Mb_firstNotDone.1.cls ∈ gtbl) ∧ (Cond.code Mb_firstNotDone.1 Mb_firstNotDone.2.1 Mb_firstNotDone.2.2.1 Mb_firstNotDone.2.2.2.1 ∈ gtbl) ∧ (Mb_firstNotDone.1.cls ≠ "java/lang/invoke/MethodHandle" ∧ Mb_firstNotDone.1.cls ≠ "java/lang/invoke/VarHandle" ∧ (parseMethodDescriptor Mb_firstNotDone.1.desc).map (fun d => d.parameters.length) = some 0) := ⟨k78, k569, by decide +kernel, by decide +kernel, by decide +kernel⟩
theorem k567 : Cond.instanceMethod yX0_firstNotDone ∈ gtbl := gm 567 (by decide +kernel)
theorem k568 : Cond.selects RX0 yX0_firstNotDone yX0_firstNotDone ∈ gtbl := gm 568 (by decide +kernel)
theorem k898 : Cond.code yX0_howManyDone cX0_howManyDone 3 (some .int) ∈ gtbl := gm 898 (by decide +kernel)
theorem ck_b_howManyDone : (Cond.initialized Mb_howManyDone.1.cls ∈ gtbl) ∧ (Cond.code Mb_howManyDone.1 Mb_howManyDone.2.1 Mb_howManyDone.2.2.1 Mb_howManyDone.2.2.2.1 ∈ gtbl) ∧ (Mb_howManyDone.1.cls ≠ "java/lang/invoke/MethodHandle" ∧ Mb_howManyDone.1.cls ≠ "java/lang/invoke/VarHandle" ∧ (parseMethodDescriptor Mb_howManyDone.1.desc).map (fun d => d.parameters.length) = some 0) := ⟨k78, k898, by decide +kernel, by decide +kernel, by decide +kernel⟩
theorem k896 : Cond.instanceMethod yX0_howManyDone ∈ gtbl := gm 896 (by decide +kernel)
theorem k897 : Cond.selects RX0 yX0_howManyDone yX0_howManyDone ∈ gtbl := gm 897 (by decide +kernel)
theorem k420 : Cond.code yX0_pipesOf cX0_pipesOf 3 (some .int) ∈ gtbl := gm 420 (by decide +kernel)
theorem ck_b_pipesOf : (Cond.initialized Mb_pipesOf.1.cls ∈ gtbl) ∧ (Cond.code Mb_pipesOf.1 Mb_pipesOf.2.1 Mb_pipesOf.2.2.1 Mb_pipesOf.2.2.2.1 ∈ gtbl) ∧ (Mb_pipesOf.1.cls ≠ "java/lang/invoke/MethodHandle" ∧ Mb_pipesOf.1.cls ≠ "java/lang/invoke/VarHandle" ∧ (parseMethodDescriptor Mb_pipesOf.1.desc).map (fun d => d.parameters.length) = some 2) := ⟨k78, k420, by decide +kernel, by decide +kernel, by decide +kernel⟩
theorem k418 : Cond.instanceMethod yX0_pipesOf ∈ gtbl := gm 418 (by decide +kernel)
theorem k419 : Cond.selects RX0 yX0_pipesOf yX0_pipesOf ∈ gtbl := gm 419 (by decide +kernel)
theorem k696 : Cond.code yX0_endsOf cX0_endsOf 2 (some .int) ∈ gtbl := gm 696 (by decide +kernel)
theorem ck_b_endsOf : (Cond.initialized Mb_endsOf.1.cls ∈ gtbl) ∧ (Cond.code Mb_endsOf.1 Mb_endsOf.2.1 Mb_endsOf.2.2.1 Mb_endsOf.2.2.2.1 ∈ gtbl) ∧ (Mb_endsOf.1.cls ≠ "java/lang/invoke/MethodHandle" ∧ Mb_endsOf.1.cls ≠ "java/lang/invoke/VarHandle" ∧ (parseMethodDescriptor Mb_endsOf.1.desc).map (fun d => d.parameters.length) = some 1) := ⟨k78, k696, by decide +kernel, by decide +kernel, by decide +kernel⟩
theorem k694 : Cond.instanceMethod yX0_endsOf ∈ gtbl := gm 694 (by decide +kernel)
theorem k695 : Cond.selects RX0 yX0_endsOf yX0_endsOf ∈ gtbl := gm 695 (by decide +kernel)
theorem k493 : Cond.code yX0_wiresIn cX0_wiresIn 5 (some .int) ∈ gtbl := gm 493 (by decide +kernel)
theorem ck_b_wiresIn : (Cond.initialized Mb_wiresIn.1.cls ∈ gtbl) ∧ (Cond.code Mb_wiresIn.1 Mb_wiresIn.2.1 Mb_wiresIn.2.2.1 Mb_wiresIn.2.2.2.1 ∈ gtbl) ∧ (Mb_wiresIn.1.cls ≠ "java/lang/invoke/MethodHandle" ∧ Mb_wiresIn.1.cls ≠ "java/lang/invoke/VarHandle" ∧ (parseMethodDescriptor Mb_wiresIn.1.desc).map (fun d => d.parameters.length) = some 2) := ⟨k78, k493, by decide +kernel, by decide +kernel, by decide +kernel⟩
theorem k491 : Cond.instanceMethod yX0_wiresIn ∈ gtbl := gm 491 (by decide +kernel)
theorem k492 : Cond.selects RX0 yX0_wiresIn yX0_wiresIn ∈ gtbl := gm 492 (by decide +kernel)
theorem k585 : Cond.code yX0_fullPipes cX0_fullPipes 4 (some .int) ∈ gtbl := gm 585 (by decide +kernel)
theorem ck_b_fullPipes : (Cond.initialized Mb_fullPipes.1.cls ∈ gtbl) ∧ (Cond.code Mb_fullPipes.1 Mb_fullPipes.2.1 Mb_fullPipes.2.2.1 Mb_fullPipes.2.2.2.1 ∈ gtbl) ∧ (Mb_fullPipes.1.cls ≠ "java/lang/invoke/MethodHandle" ∧ Mb_fullPipes.1.cls ≠ "java/lang/invoke/VarHandle" ∧ (parseMethodDescriptor Mb_fullPipes.1.desc).map (fun d => d.parameters.length) = some 1) := ⟨k78, k585, by decide +kernel, by decide +kernel, by decide +kernel⟩
theorem k583 : Cond.instanceMethod yX0_fullPipes ∈ gtbl := gm 583 (by decide +kernel)
theorem k584 : Cond.selects RX0 yX0_fullPipes yX0_fullPipes ∈ gtbl := gm 584 (by decide +kernel)
theorem k613 : Cond.code yX0_loadNow cX0_loadNow 1 none ∈ gtbl := gm 613 (by decide +kernel)
theorem ck_b_loadNow : (Cond.initialized Mb_loadNow.1.cls ∈ gtbl) ∧ (Cond.code Mb_loadNow.1 Mb_loadNow.2.1 Mb_loadNow.2.2.1 Mb_loadNow.2.2.2.1 ∈ gtbl) ∧ (Mb_loadNow.1.cls ≠ "java/lang/invoke/MethodHandle" ∧ Mb_loadNow.1.cls ≠ "java/lang/invoke/VarHandle" ∧ (parseMethodDescriptor Mb_loadNow.1.desc).map (fun d => d.parameters.length) = some 0) := ⟨k78, k613, by decide +kernel, by decide +kernel, by decide +kernel⟩
theorem k611 : Cond.instanceMethod yX0_loadNow ∈ gtbl := gm 611 (by decide +kernel)
theorem k612 : Cond.selects RX0 yX0_loadNow yX0_loadNow ∈ gtbl := gm 612 (by decide +kernel)
theorem k415 : Cond.code yX0_fillLoad cX0_fillLoad 5 none ∈ gtbl := gm 415 (by decide +kernel)
theorem ck_b_fillLoad : (Cond.initialized Mb_fillLoad.1.cls ∈ gtbl) ∧ (Cond.code Mb_fillLoad.1 Mb_fillLoad.2.1 Mb_fillLoad.2.2.1 Mb_fillLoad.2.2.2.1 ∈ gtbl) ∧ (Mb_fillLoad.1.cls ≠ "java/lang/invoke/MethodHandle" ∧ Mb_fillLoad.1.cls ≠ "java/lang/invoke/VarHandle" ∧ (parseMethodDescriptor Mb_fillLoad.1.desc).map (fun d => d.parameters.length) = some 1) := ⟨k78, k415, by decide +kernel, by decide +kernel, by decide +kernel⟩
theorem k414 : Cond.instanceMethod yX0_fillLoad ∈ gtbl := gm 414 (by decide +kernel)
theorem k5 : Cond.selects RX0 yX0_fillLoad yX0_fillLoad ∈ gtbl := gm 5 (by decide +kernel)
theorem k600 : Cond.code yX0_drawnOutWith cX0_drawnOutWith 7 (some .int) ∈ gtbl := gm 600 (by decide +kernel)
theorem ck_b_drawnOutWith : (Cond.initialized Mb_drawnOutWith.1.cls ∈ gtbl) ∧ (Cond.code Mb_drawnOutWith.1 Mb_drawnOutWith.2.1 Mb_drawnOutWith.2.2.1 Mb_drawnOutWith.2.2.2.1 ∈ gtbl) ∧ (Mb_drawnOutWith.1.cls ≠ "java/lang/invoke/MethodHandle" ∧ Mb_drawnOutWith.1.cls ≠ "java/lang/invoke/VarHandle" ∧ (parseMethodDescriptor Mb_drawnOutWith.1.desc).map (fun d => d.parameters.length) = some 1) := ⟨k78, k600, by decide +kernel, by decide +kernel, by decide +kernel⟩
theorem k598 : Cond.instanceMethod yX0_drawnOutWith ∈ gtbl := gm 598 (by decide +kernel)
theorem k599 : Cond.selects RX0 yX0_drawnOutWith yX0_drawnOutWith ∈ gtbl := gm 599 (by decide +kernel)
theorem k692 : Cond.code yX0_joinedTo cX0_joinedTo 7 (some .int) ∈ gtbl := gm 692 (by decide +kernel)
theorem ck_b_joinedTo : (Cond.initialized Mb_joinedTo.1.cls ∈ gtbl) ∧ (Cond.code Mb_joinedTo.1 Mb_joinedTo.2.1 Mb_joinedTo.2.2.1 Mb_joinedTo.2.2.2.1 ∈ gtbl) ∧ (Mb_joinedTo.1.cls ≠ "java/lang/invoke/MethodHandle" ∧ Mb_joinedTo.1.cls ≠ "java/lang/invoke/VarHandle" ∧ (parseMethodDescriptor Mb_joinedTo.1.desc).map (fun d => d.parameters.length) = some 2) := ⟨k78, k692, by decide +kernel, by decide +kernel, by decide +kernel⟩
theorem k690 : Cond.instanceMethod yX0_joinedTo ∈ gtbl := gm 690 (by decide +kernel)
theorem k691 : Cond.selects RX0 yX0_joinedTo yX0_joinedTo ∈ gtbl := gm 691 (by decide +kernel)
theorem k79 : Cond.initialized RX1 ∈ gtbl := gm 79 (by decide +kernel)
theorem k642 : Cond.code yX1_greatest cX1_greatest 4 (some .int) ∈ gtbl := gm 642 (by decide +kernel)
theorem ck_f_greatest : (Cond.initialized Mf_greatest.1.cls ∈ gtbl) ∧ (Cond.code Mf_greatest.1 Mf_greatest.2.1 Mf_greatest.2.2.1 Mf_greatest.2.2.2.1 ∈ gtbl) ∧ (Mf_greatest.1.cls ≠ "java/lang/invoke/MethodHandle" ∧ Mf_greatest.1.cls ≠ "java/lang/invoke/VarHandle" ∧ (parseMethodDescriptor Mf_greatest.1.desc).map (fun d => d.parameters.length) = some 2) := ⟨k79, k642, by decide +kernel, by decide +kernel, by decide +kernel⟩
theorem k640 : Cond.instanceMethod yX1_greatest ∈ gtbl := gm 640 (by decide +kernel)
theorem k641 : Cond.selects RX1 yX1_greatest yX1_greatest ∈ gtbl := gm 641 (by decide +kernel)
theorem k647 : Cond.code yX1_seekRoom cX1_seekRoom 9 (some .boolean) ∈ gtbl := gm 647 (by decide +kernel)
theorem ck_f_seekRoom : (Cond.initialized Mf_seekRoom.1.cls ∈ gtbl) ∧ (Cond.code Mf_seekRoom.1 Mf_seekRoom.2.1 Mf_seekRoom.2.2.1 Mf_seekRoom.2.2.2.1 ∈ gtbl) ∧ (Mf_seekRoom.1.cls ≠ "java/lang/invoke/MethodHandle" ∧ Mf_seekRoom.1.cls ≠ "java/lang/invoke/VarHandle" ∧ (parseMethodDescriptor Mf_seekRoom.1.desc).map (fun d => d.parameters.length) = some 2) := ⟨k79, k647, by decide +kernel, by decide +kernel, by decide +kernel⟩
theorem k646 : Cond.instanceMethod yX1_seekRoom ∈ gtbl := gm 646 (by decide +kernel)
theorem k16 : Cond.selects RX1 yX1_seekRoom yX1_seekRoom ∈ gtbl := gm 16 (by decide +kernel)
theorem k654 : Cond.code yX1_hasRoom cX1_hasRoom 4 (some .boolean) ∈ gtbl := gm 654 (by decide +kernel)
theorem ck_f_hasRoom : (Cond.initialized Mf_hasRoom.1.cls ∈ gtbl) ∧ (Cond.code Mf_hasRoom.1 Mf_hasRoom.2.1 Mf_hasRoom.2.2.1 Mf_hasRoom.2.2.2.1 ∈ gtbl) ∧ (Mf_hasRoom.1.cls ≠ "java/lang/invoke/MethodHandle" ∧ Mf_hasRoom.1.cls ≠ "java/lang/invoke/VarHandle" ∧ (parseMethodDescriptor Mf_hasRoom.1.desc).map (fun d => d.parameters.length) = some 2) := ⟨k79, k654, by decide +kernel, by decide +kernel, by decide +kernel⟩
theorem k653 : Cond.instanceMethod yX1_hasRoom ∈ gtbl := gm 653 (by decide +kernel)
theorem k17 : Cond.selects RX1 yX1_hasRoom yX1_hasRoom ∈ gtbl := gm 17 (by decide +kernel)
theorem k663 : Cond.code yX1_push cX1_push 6 none ∈ gtbl := gm 663 (by decide +kernel)
theorem ck_f_push : (Cond.initialized Mf_push.1.cls ∈ gtbl) ∧ (Cond.code Mf_push.1 Mf_push.2.1 Mf_push.2.2.1 Mf_push.2.2.2.1 ∈ gtbl) ∧ (Mf_push.1.cls ≠ "java/lang/invoke/MethodHandle" ∧ Mf_push.1.cls ≠ "java/lang/invoke/VarHandle" ∧ (parseMethodDescriptor Mf_push.1.desc).map (fun d => d.parameters.length) = some 2) := ⟨k79, k663, by decide +kernel, by decide +kernel, by decide +kernel⟩
theorem k662 : Cond.instanceMethod yX1_push ∈ gtbl := gm 662 (by decide +kernel)
theorem k18 : Cond.selects RX1 yX1_push yX1_push ∈ gtbl := gm 18 (by decide +kernel)
theorem k82 : Cond.initialized RX2 ∈ gtbl := gm 82 (by decide +kernel)
theorem k792 : Cond.code yX2_addMark cX2_addMark 3 (some .int) ∈ gtbl := gm 792 (by decide +kernel)
theorem ck_j_addMark : (Cond.initialized Mj_addMark.1.cls ∈ gtbl) ∧ (Cond.code Mj_addMark.1 Mj_addMark.2.1 Mj_addMark.2.2.1 Mj_addMark.2.2.2.1 ∈ gtbl) ∧ (Mj_addMark.1.cls ≠ "java/lang/invoke/MethodHandle" ∧ Mj_addMark.1.cls ≠ "java/lang/invoke/VarHandle" ∧ (parseMethodDescriptor Mj_addMark.1.desc).map (fun d => d.parameters.length) = some 2) := ⟨k82, k792, by decide +kernel, by decide +kernel, by decide +kernel⟩
theorem k790 : Cond.instanceMethod yX2_addMark ∈ gtbl := gm 790 (by decide +kernel)
theorem k791 : Cond.selects RX2 yX2_addMark yX2_addMark ∈ gtbl := gm 791 (by decide +kernel)
theorem k805 : Cond.code yX2_addScene cX2_addScene 2 (some .int) ∈ gtbl := gm 805 (by decide +kernel)
theorem ck_j_addScene : (Cond.initialized Mj_addScene.1.cls ∈ gtbl) ∧ (Cond.code Mj_addScene.1 Mj_addScene.2.1 Mj_addScene.2.2.1 Mj_addScene.2.2.2.1 ∈ gtbl) ∧ (Mj_addScene.1.cls ≠ "java/lang/invoke/MethodHandle" ∧ Mj_addScene.1.cls ≠ "java/lang/invoke/VarHandle" ∧ (parseMethodDescriptor Mj_addScene.1.desc).map (fun d => d.parameters.length) = some 1) := ⟨k82, k805, by decide +kernel, by decide +kernel, by decide +kernel⟩
theorem k803 : Cond.instanceMethod yX2_addScene ∈ gtbl := gm 803 (by decide +kernel)
theorem k804 : Cond.selects RX2 yX2_addScene yX2_addScene ∈ gtbl := gm 804 (by decide +kernel)
theorem k825 : Cond.code yX2_dropMarks cX2_dropMarks 2 (some .int) ∈ gtbl := gm 825 (by decide +kernel)
theorem ck_j_dropMarks : (Cond.initialized Mj_dropMarks.1.cls ∈ gtbl) ∧ (Cond.code Mj_dropMarks.1 Mj_dropMarks.2.1 Mj_dropMarks.2.2.1 Mj_dropMarks.2.2.2.1 ∈ gtbl) ∧ (Mj_dropMarks.1.cls ≠ "java/lang/invoke/MethodHandle" ∧ Mj_dropMarks.1.cls ≠ "java/lang/invoke/VarHandle" ∧ (parseMethodDescriptor Mj_dropMarks.1.desc).map (fun d => d.parameters.length) = some 0) := ⟨k82, k825, by decide +kernel, by decide +kernel, by decide +kernel⟩
theorem k823 : Cond.instanceMethod yX2_dropMarks ∈ gtbl := gm 823 (by decide +kernel)
theorem k824 : Cond.selects RX2 yX2_dropMarks yX2_dropMarks ∈ gtbl := gm 824 (by decide +kernel)
theorem k829 : Cond.code yX2_dropScenes cX2_dropScenes 2 (some .int) ∈ gtbl := gm 829 (by decide +kernel)
theorem ck_j_dropScenes : (Cond.initialized Mj_dropScenes.1.cls ∈ gtbl) ∧ (Cond.code Mj_dropScenes.1 Mj_dropScenes.2.1 Mj_dropScenes.2.2.1 Mj_dropScenes.2.2.2.1 ∈ gtbl) ∧ (Mj_dropScenes.1.cls ≠ "java/lang/invoke/MethodHandle" ∧ Mj_dropScenes.1.cls ≠ "java/lang/invoke/VarHandle" ∧ (parseMethodDescriptor Mj_dropScenes.1.desc).map (fun d => d.parameters.length) = some 0) := ⟨k82, k829, by decide +kernel, by decide +kernel, by decide +kernel⟩
theorem k827 : Cond.instanceMethod yX2_dropScenes ∈ gtbl := gm 827 (by decide +kernel)
theorem k828 : Cond.selects RX2 yX2_dropScenes yX2_dropScenes ∈ gtbl := gm 828 (by decide +kernel)
theorem k80 : Cond.initialized RX3 ∈ gtbl := gm 80 (by decide +kernel)
theorem k704 : Cond.code yX3_seek cX3_seek 4 none ∈ gtbl := gm 704 (by decide +kernel)
theorem ck_l_seek : (Cond.initialized Ml_seek.1.cls ∈ gtbl) ∧ (Cond.code Ml_seek.1 Ml_seek.2.1 Ml_seek.2.2.1 Ml_seek.2.2.2.1 ∈ gtbl) ∧ (Ml_seek.1.cls ≠ "java/lang/invoke/MethodHandle" ∧ Ml_seek.1.cls ≠ "java/lang/invoke/VarHandle" ∧ (parseMethodDescriptor Ml_seek.1.desc).map (fun d => d.parameters.length) = some 1) := ⟨k80, k704, by decide +kernel, by decide +kernel, by decide +kernel⟩
theorem k702 : Cond.instanceMethod yX3_seek ∈ gtbl := gm 702 (by decide +kernel)
theorem k703 : Cond.selects RX3 yX3_seek yX3_seek ∈ gtbl := gm 703 (by decide +kernel)
theorem k732 : Cond.code yX3_seekTwo cX3_seekTwo 6 none ∈ gtbl := gm 732 (by decide +kernel)
theorem ck_l_seekTwo : (Cond.initialized Ml_seekTwo.1.cls ∈ gtbl) ∧ (Cond.code Ml_seekTwo.1 Ml_seekTwo.2.1 Ml_seekTwo.2.2.1 Ml_seekTwo.2.2.2.1 ∈ gtbl) ∧ (Ml_seekTwo.1.cls ≠ "java/lang/invoke/MethodHandle" ∧ Ml_seekTwo.1.cls ≠ "java/lang/invoke/VarHandle" ∧ (parseMethodDescriptor Ml_seekTwo.1.desc).map (fun d => d.parameters.length) = some 1) := ⟨k80, k732, by decide +kernel, by decide +kernel, by decide +kernel⟩
theorem k731 : Cond.instanceMethod yX3_seekTwo ∈ gtbl := gm 731 (by decide +kernel)
theorem k23 : Cond.selects RX3 yX3_seekTwo yX3_seekTwo ∈ gtbl := gm 23 (by decide +kernel)
theorem k714 : Cond.code yX3_lastLetIn cX3_lastLetIn 6 (some .int) ∈ gtbl := gm 714 (by decide +kernel)
theorem ck_l_lastLetIn : (Cond.initialized Ml_lastLetIn.1.cls ∈ gtbl) ∧ (Cond.code Ml_lastLetIn.1 Ml_lastLetIn.2.1 Ml_lastLetIn.2.2.1 Ml_lastLetIn.2.2.2.1 ∈ gtbl) ∧ (Ml_lastLetIn.1.cls ≠ "java/lang/invoke/MethodHandle" ∧ Ml_lastLetIn.1.cls ≠ "java/lang/invoke/VarHandle" ∧ (parseMethodDescriptor Ml_lastLetIn.1.desc).map (fun d => d.parameters.length) = some 2) := ⟨k80, k714, by decide +kernel, by decide +kernel, by decide +kernel⟩
theorem k713 : Cond.instanceMethod yX3_lastLetIn ∈ gtbl := gm 713 (by decide +kernel)
theorem k20 : Cond.selects RX3 yX3_lastLetIn yX3_lastLetIn ∈ gtbl := gm 20 (by decide +kernel)
theorem k718 : Cond.code yX3_burningWith cX3_burningWith 4 (some .int) ∈ gtbl := gm 718 (by decide +kernel)
theorem ck_l_burningWith : (Cond.initialized Ml_burningWith.1.cls ∈ gtbl) ∧ (Cond.code Ml_burningWith.1 Ml_burningWith.2.1 Ml_burningWith.2.2.1 Ml_burningWith.2.2.2.1 ∈ gtbl) ∧ (Ml_burningWith.1.cls ≠ "java/lang/invoke/MethodHandle" ∧ Ml_burningWith.1.cls ≠ "java/lang/invoke/VarHandle" ∧ (parseMethodDescriptor Ml_burningWith.1.desc).map (fun d => d.parameters.length) = some 2) := ⟨k80, k718, by decide +kernel, by decide +kernel, by decide +kernel⟩
theorem k717 : Cond.instanceMethod yX3_burningWith ∈ gtbl := gm 717 (by decide +kernel)
theorem k21 : Cond.selects RX3 yX3_burningWith yX3_burningWith ∈ gtbl := gm 21 (by decide +kernel)
theorem k722 : Cond.code yX3_spread cX3_spread 6 (some .int) ∈ gtbl := gm 722 (by decide +kernel)
theorem ck_l_spread : (Cond.initialized Ml_spread.1.cls ∈ gtbl) ∧ (Cond.code Ml_spread.1 Ml_spread.2.1 Ml_spread.2.2.1 Ml_spread.2.2.2.1 ∈ gtbl) ∧ (Ml_spread.1.cls ≠ "java/lang/invoke/MethodHandle" ∧ Ml_spread.1.cls ≠ "java/lang/invoke/VarHandle" ∧ (parseMethodDescriptor Ml_spread.1.desc).map (fun d => d.parameters.length) = some 2) := ⟨k80, k722, by decide +kernel, by decide +kernel, by decide +kernel⟩
theorem k721 : Cond.instanceMethod yX3_spread ∈ gtbl := gm 721 (by decide +kernel)
theorem k22 : Cond.selects RX3 yX3_spread yX3_spread ∈ gtbl := gm 22 (by decide +kernel)
theorem k709 : Cond.code yX3_holdsAll cX3_holdsAll 2 (some .boolean) ∈ gtbl := gm 709 (by decide +kernel)
theorem ck_l_holdsAll : (Cond.initialized Ml_holdsAll.1.cls ∈ gtbl) ∧ (Cond.code Ml_holdsAll.1 Ml_holdsAll.2.1 Ml_holdsAll.2.2.1 Ml_holdsAll.2.2.2.1 ∈ gtbl) ∧ (Ml_holdsAll.1.cls ≠ "java/lang/invoke/MethodHandle" ∧ Ml_holdsAll.1.cls ≠ "java/lang/invoke/VarHandle" ∧ (parseMethodDescriptor Ml_holdsAll.1.desc).map (fun d => d.parameters.length) = some 2) := ⟨k80, k709, by decide +kernel, by decide +kernel, by decide +kernel⟩
theorem k708 : Cond.static yX3_holdsAll ∈ gtbl := gm 708 (by decide +kernel)
theorem k76 : Cond.initialized RX4 ∈ gtbl := gm 76 (by decide +kernel)
theorem k380 : Cond.code yX4_append cX4_append 2 none ∈ gtbl := gm 380 (by decide +kernel)
theorem ck_p_append : (Cond.initialized Mp_append.1.cls ∈ gtbl) ∧ (Cond.code Mp_append.1 Mp_append.2.1 Mp_append.2.2.1 Mp_append.2.2.2.1 ∈ gtbl) ∧ (Mp_append.1.cls ≠ "java/lang/invoke/MethodHandle" ∧ Mp_append.1.cls ≠ "java/lang/invoke/VarHandle" ∧ (parseMethodDescriptor Mp_append.1.desc).map (fun d => d.parameters.length) = some 1) := ⟨k76, k380, by decide +kernel, by decide +kernel, by decide +kernel⟩
theorem k378 : Cond.instanceMethod yX4_append ∈ gtbl := gm 378 (by decide +kernel)
theorem k379 : Cond.selects RX4 yX4_append yX4_append ∈ gtbl := gm 379 (by decide +kernel)
theorem k462 : Cond.code yX4_clear cX4_clear 1 none ∈ gtbl := gm 462 (by decide +kernel)
theorem ck_p_clear : (Cond.initialized Mp_clear.1.cls ∈ gtbl) ∧ (Cond.code Mp_clear.1 Mp_clear.2.1 Mp_clear.2.2.1 Mp_clear.2.2.2.1 ∈ gtbl) ∧ (Mp_clear.1.cls ≠ "java/lang/invoke/MethodHandle" ∧ Mp_clear.1.cls ≠ "java/lang/invoke/VarHandle" ∧ (parseMethodDescriptor Mp_clear.1.desc).map (fun d => d.parameters.length) = some 0) := ⟨k76, k462, by decide +kernel, by decide +kernel, by decide +kernel⟩
theorem k460 : Cond.instanceMethod yX4_clear ∈ gtbl := gm 460 (by decide +kernel)
theorem k461 : Cond.selects RX4 yX4_clear yX4_clear ∈ gtbl := gm 461 (by decide +kernel)
theorem k470 : Cond.code yX4_dropPipe cX4_dropPipe 1 none ∈ gtbl := gm 470 (by decide +kernel)
theorem ck_p_dropPipe : (Cond.initialized Mp_dropPipe.1.cls ∈ gtbl) ∧ (Cond.code Mp_dropPipe.1 Mp_dropPipe.2.1 Mp_dropPipe.2.2.1 Mp_dropPipe.2.2.2.1 ∈ gtbl) ∧ (Mp_dropPipe.1.cls ≠ "java/lang/invoke/MethodHandle" ∧ Mp_dropPipe.1.cls ≠ "java/lang/invoke/VarHandle" ∧ (parseMethodDescriptor Mp_dropPipe.1.desc).map (fun d => d.parameters.length) = some 0) := ⟨k76, k470, by decide +kernel, by decide +kernel, by decide +kernel⟩
theorem k468 : Cond.instanceMethod yX4_dropPipe ∈ gtbl := gm 468 (by decide +kernel)
theorem k469 : Cond.selects RX4 yX4_dropPipe yX4_dropPipe ∈ gtbl := gm 469 (by decide +kernel)
theorem k384 : Cond.code yX4_fits cX4_fits 3 (some .boolean) ∈ gtbl := gm 384 (by decide +kernel)
theorem ck_p_fits : (Cond.initialized Mp_fits.1.cls ∈ gtbl) ∧ (Cond.code Mp_fits.1 Mp_fits.2.1 Mp_fits.2.2.1 Mp_fits.2.2.2.1 ∈ gtbl) ∧ (Mp_fits.1.cls ≠ "java/lang/invoke/MethodHandle" ∧ Mp_fits.1.cls ≠ "java/lang/invoke/VarHandle" ∧ (parseMethodDescriptor Mp_fits.1.desc).map (fun d => d.parameters.length) = some 1) := ⟨k76, k384, by decide +kernel, by decide +kernel, by decide +kernel⟩
theorem k383 : Cond.instanceMethod yX4_fits ∈ gtbl := gm 383 (by decide +kernel)
theorem k0 : Cond.selects RX4 yX4_fits yX4_fits ∈ gtbl := gm 0 (by decide +kernel)
theorem k389 : Cond.code yX4_takeUp cX4_takeUp 3 none ∈ gtbl := gm 389 (by decide +kernel)
theorem ck_p_takeUp : (Cond.initialized Mp_takeUp.1.cls ∈ gtbl) ∧ (Cond.code Mp_takeUp.1 Mp_takeUp.2.1 Mp_takeUp.2.2.1 Mp_takeUp.2.2.2.1 ∈ gtbl) ∧ (Mp_takeUp.1.cls ≠ "java/lang/invoke/MethodHandle" ∧ Mp_takeUp.1.cls ≠ "java/lang/invoke/VarHandle" ∧ (parseMethodDescriptor Mp_takeUp.1.desc).map (fun d => d.parameters.length) = some 1) := ⟨k76, k389, by decide +kernel, by decide +kernel, by decide +kernel⟩
theorem k388 : Cond.instanceMethod yX4_takeUp ∈ gtbl := gm 388 (by decide +kernel)
theorem k1 : Cond.selects RX4 yX4_takeUp yX4_takeUp ∈ gtbl := gm 1 (by decide +kernel)
theorem k393 : Cond.code yX4_settle cX4_settle 2 none ∈ gtbl := gm 393 (by decide +kernel)
theorem ck_p_settle : (Cond.initialized Mp_settle.1.cls ∈ gtbl) ∧ (Cond.code Mp_settle.1 Mp_settle.2.1 Mp_settle.2.2.1 Mp_settle.2.2.2.1 ∈ gtbl) ∧ (Mp_settle.1.cls ≠ "java/lang/invoke/MethodHandle" ∧ Mp_settle.1.cls ≠ "java/lang/invoke/VarHandle" ∧ (parseMethodDescriptor Mp_settle.1.desc).map (fun d => d.parameters.length) = some 0) := ⟨k76, k393, by decide +kernel, by decide +kernel, by decide +kernel⟩
theorem k392 : Cond.instanceMethod yX4_settle ∈ gtbl := gm 392 (by decide +kernel)
theorem k2 : Cond.selects RX4 yX4_settle yX4_settle ∈ gtbl := gm 2 (by decide +kernel)
theorem k485 : Cond.code yX4_hasPipe cX4_hasPipe 2 (some .boolean) ∈ gtbl := gm 485 (by decide +kernel)
theorem ck_p_hasPipe : (Cond.initialized Mp_hasPipe.1.cls ∈ gtbl) ∧ (Cond.code Mp_hasPipe.1 Mp_hasPipe.2.1 Mp_hasPipe.2.2.1 Mp_hasPipe.2.2.2.1 ∈ gtbl) ∧ (Mp_hasPipe.1.cls ≠ "java/lang/invoke/MethodHandle" ∧ Mp_hasPipe.1.cls ≠ "java/lang/invoke/VarHandle" ∧ (parseMethodDescriptor Mp_hasPipe.1.desc).map (fun d => d.parameters.length) = some 1) := ⟨k76, k485, by decide +kernel, by decide +kernel, by decide +kernel⟩
theorem k483 : Cond.instanceMethod yX4_hasPipe ∈ gtbl := gm 483 (by decide +kernel)
theorem k484 : Cond.selects RX4 yX4_hasPipe yX4_hasPipe ∈ gtbl := gm 484 (by decide +kernel)
theorem k658 : Cond.code yX4_isShut cX4_isShut 2 (some .boolean) ∈ gtbl := gm 658 (by decide +kernel)
theorem ck_p_isShut : (Cond.initialized Mp_isShut.1.cls ∈ gtbl) ∧ (Cond.code Mp_isShut.1 Mp_isShut.2.1 Mp_isShut.2.2.1 Mp_isShut.2.2.2.1 ∈ gtbl) ∧ (Mp_isShut.1.cls ≠ "java/lang/invoke/MethodHandle" ∧ Mp_isShut.1.cls ≠ "java/lang/invoke/VarHandle" ∧ (parseMethodDescriptor Mp_isShut.1.desc).map (fun d => d.parameters.length) = some 1) := ⟨k76, k658, by decide +kernel, by decide +kernel, by decide +kernel⟩
theorem k656 : Cond.instanceMethod yX4_isShut ∈ gtbl := gm 656 (by decide +kernel)
theorem k657 : Cond.selects RX4 yX4_isShut yX4_isShut ∈ gtbl := gm 657 (by decide +kernel)
theorem k445 : Cond.code yX4_touches cX4_touches 3 (some .boolean) ∈ gtbl := gm 445 (by decide +kernel)
theorem ck_p_touches : (Cond.initialized Mp_touches.1.cls ∈ gtbl) ∧ (Cond.code Mp_touches.1 Mp_touches.2.1 Mp_touches.2.2.1 Mp_touches.2.2.2.1 ∈ gtbl) ∧ (Mp_touches.1.cls ≠ "java/lang/invoke/MethodHandle" ∧ Mp_touches.1.cls ≠ "java/lang/invoke/VarHandle" ∧ (parseMethodDescriptor Mp_touches.1.desc).map (fun d => d.parameters.length) = some 2) := ⟨k76, k445, by decide +kernel, by decide +kernel, by decide +kernel⟩
theorem k443 : Cond.instanceMethod yX4_touches ∈ gtbl := gm 443 (by decide +kernel)
theorem k444 : Cond.selects RX4 yX4_touches yX4_touches ∈ gtbl := gm 444 (by decide +kernel)
theorem k449 : Cond.code yX4_opposite cX4_opposite 3 (some .int) ∈ gtbl := gm 449 (by decide +kernel)
theorem ck_p_opposite : (Cond.initialized Mp_opposite.1.cls ∈ gtbl) ∧ (Cond.code Mp_opposite.1 Mp_opposite.2.1 Mp_opposite.2.2.1 Mp_opposite.2.2.2.1 ∈ gtbl) ∧ (Mp_opposite.1.cls ≠ "java/lang/invoke/MethodHandle" ∧ Mp_opposite.1.cls ≠ "java/lang/invoke/VarHandle" ∧ (parseMethodDescriptor Mp_opposite.1.desc).map (fun d => d.parameters.length) = some 2) := ⟨k76, k449, by decide +kernel, by decide +kernel, by decide +kernel⟩
theorem k447 : Cond.instanceMethod yX4_opposite ∈ gtbl := gm 447 (by decide +kernel)
theorem k448 : Cond.selects RX4 yX4_opposite yX4_opposite ∈ gtbl := gm 448 (by decide +kernel)
theorem k908 : Cond.code yX4_wholeLength cX4_wholeLength 3 (some .int) ∈ gtbl := gm 908 (by decide +kernel)
theorem ck_p_wholeLength : (Cond.initialized Mp_wholeLength.1.cls ∈ gtbl) ∧ (Cond.code Mp_wholeLength.1 Mp_wholeLength.2.1 Mp_wholeLength.2.2.1 Mp_wholeLength.2.2.2.1 ∈ gtbl) ∧ (Mp_wholeLength.1.cls ≠ "java/lang/invoke/MethodHandle" ∧ Mp_wholeLength.1.cls ≠ "java/lang/invoke/VarHandle" ∧ (parseMethodDescriptor Mp_wholeLength.1.desc).map (fun d => d.parameters.length) = some 0) := ⟨k76, k908, by decide +kernel, by decide +kernel, by decide +kernel⟩
theorem k906 : Cond.instanceMethod yX4_wholeLength ∈ gtbl := gm 906 (by decide +kernel)
theorem k907 : Cond.selects RX4 yX4_wholeLength yX4_wholeLength ∈ gtbl := gm 907 (by decide +kernel)
theorem k675 : Cond.code yX4_dampIn cX4_dampIn 4 (some .int) ∈ gtbl := gm 675 (by decide +kernel)
theorem ck_p_dampIn : (Cond.initialized Mp_dampIn.1.cls ∈ gtbl) ∧ (Cond.code Mp_dampIn.1 Mp_dampIn.2.1 Mp_dampIn.2.2.1 Mp_dampIn.2.2.2.1 ∈ gtbl) ∧ (Mp_dampIn.1.cls ≠ "java/lang/invoke/MethodHandle" ∧ Mp_dampIn.1.cls ≠ "java/lang/invoke/VarHandle" ∧ (parseMethodDescriptor Mp_dampIn.1.desc).map (fun d => d.parameters.length) = some 1) := ⟨k76, k675, by decide +kernel, by decide +kernel, by decide +kernel⟩
theorem k673 : Cond.instanceMethod yX4_dampIn ∈ gtbl := gm 673 (by decide +kernel)
theorem k674 : Cond.selects RX4 yX4_dampIn yX4_dampIn ∈ gtbl := gm 674 (by decide +kernel)
theorem k81 : Cond.initialized RX5 ∈ gtbl := gm 81 (by decide +kernel)
theorem k742 : Cond.code yX5_follow cX5_follow 4 none ∈ gtbl := gm 742 (by decide +kernel)
theorem ck_r_follow : (Cond.initialized Mr_follow.1.cls ∈ gtbl) ∧ (Cond.code Mr_follow.1 Mr_follow.2.1 Mr_follow.2.2.1 Mr_follow.2.2.2.1 ∈ gtbl) ∧ (Mr_follow.1.cls ≠ "java/lang/invoke/MethodHandle" ∧ Mr_follow.1.cls ≠ "java/lang/invoke/VarHandle" ∧ (parseMethodDescriptor Mr_follow.1.desc).map (fun d => d.parameters.length) = some 2) := ⟨k81, k742, by decide +kernel, by decide +kernel, by decide +kernel⟩
theorem k740 : Cond.instanceMethod yX5_follow ∈ gtbl := gm 740 (by decide +kernel)
theorem k741 : Cond.selects RX5 yX5_follow yX5_follow ∈ gtbl := gm 741 (by decide +kernel)
theorem k747 : Cond.code yX5_ring cX5_ring 4 none ∈ gtbl := gm 747 (by decide +kernel)
theorem ck_r_ring : (Cond.initialized Mr_ring.1.cls ∈ gtbl) ∧ (Cond.code Mr_ring.1 Mr_ring.2.1 Mr_ring.2.2.1 Mr_ring.2.2.2.1 ∈ gtbl) ∧ (Mr_ring.1.cls ≠ "java/lang/invoke/MethodHandle" ∧ Mr_ring.1.cls ≠ "java/lang/invoke/VarHandle" ∧ (parseMethodDescriptor Mr_ring.1.desc).map (fun d => d.parameters.length) = some 0) := ⟨k81, k747, by decide +kernel, by decide +kernel, by decide +kernel⟩
theorem k746 : Cond.instanceMethod yX5_ring ∈ gtbl := gm 746 (by decide +kernel)
theorem k24 : Cond.selects RX5 yX5_ring yX5_ring ∈ gtbl := gm 24 (by decide +kernel)
theorem k752 : Cond.code yX5_possibleEnds cX5_possibleEnds 3 (some .int) ∈ gtbl := gm 752 (by decide +kernel)
theorem ck_r_possibleEnds : (Cond.initialized Mr_possibleEnds.1.cls ∈ gtbl) ∧ (Cond.code Mr_possibleEnds.1 Mr_possibleEnds.2.1 Mr_possibleEnds.2.2.1 Mr_possibleEnds.2.2.2.1 ∈ gtbl) ∧ (Mr_possibleEnds.1.cls ≠ "java/lang/invoke/MethodHandle" ∧ Mr_possibleEnds.1.cls ≠ "java/lang/invoke/VarHandle" ∧ (parseMethodDescriptor Mr_possibleEnds.1.desc).map (fun d => d.parameters.length) = some 0) := ⟨k81, k752, by decide +kernel, by decide +kernel, by decide +kernel⟩
theorem k750 : Cond.instanceMethod yX5_possibleEnds ∈ gtbl := gm 750 (by decide +kernel)
theorem k751 : Cond.selects RX5 yX5_possibleEnds yX5_possibleEnds ∈ gtbl := gm 751 (by decide +kernel)
theorem k768 : Cond.code yX5_stroll cX5_stroll 8 (some .int) ∈ gtbl := gm 768 (by decide +kernel)
theorem ck_r_stroll : (Cond.initialized Mr_stroll.1.cls ∈ gtbl) ∧ (Cond.code Mr_stroll.1 Mr_stroll.2.1 Mr_stroll.2.2.1 Mr_stroll.2.2.2.1 ∈ gtbl) ∧ (Mr_stroll.1.cls ≠ "java/lang/invoke/MethodHandle" ∧ Mr_stroll.1.cls ≠ "java/lang/invoke/VarHandle" ∧ (parseMethodDescriptor Mr_stroll.1.desc).map (fun d => d.parameters.length) = some 3) := ⟨k81, k768, by decide +kernel, by decide +kernel, by decide +kernel⟩
theorem k766 : Cond.instanceMethod yX5_stroll ∈ gtbl := gm 766 (by decide +kernel)
theorem k767 : Cond.selects RX5 yX5_stroll yX5_stroll ∈ gtbl := gm 767 (by decide +kernel)
theorem k772 : Cond.code yX5_choicesAt cX5_choicesAt 4 (some .int) ∈ gtbl := gm 772 (by decide +kernel)
theorem ck_r_choicesAt : (Cond.initialized Mr_choicesAt.1.cls ∈ gtbl) ∧ (Cond.code Mr_choicesAt.1 Mr_choicesAt.2.1 Mr_choicesAt.2.2.1 Mr_choicesAt.2.2.2.1 ∈ gtbl) ∧ (Mr_choicesAt.1.cls ≠ "java/lang/invoke/MethodHandle" ∧ Mr_choicesAt.1.cls ≠ "java/lang/invoke/VarHandle" ∧ (parseMethodDescriptor Mr_choicesAt.1.desc).map (fun d => d.parameters.length) = some 1) := ⟨k81, k772, by decide +kernel, by decide +kernel, by decide +kernel⟩
theorem k771 : Cond.instanceMethod yX5_choicesAt ∈ gtbl := gm 771 (by decide +kernel)
theorem k25 : Cond.selects RX5 yX5_choicesAt yX5_choicesAt ∈ gtbl := gm 25 (by decide +kernel)
theorem k782 : Cond.code yX5_behindChoice cX5_behindChoice 5 (some .int) ∈ gtbl := gm 782 (by decide +kernel)
theorem ck_r_behindChoice : (Cond.initialized Mr_behindChoice.1.cls ∈ gtbl) ∧ (Cond.code Mr_behindChoice.1 Mr_behindChoice.2.1 Mr_behindChoice.2.2.1 Mr_behindChoice.2.2.2.1 ∈ gtbl) ∧ (Mr_behindChoice.1.cls ≠ "java/lang/invoke/MethodHandle" ∧ Mr_behindChoice.1.cls ≠ "java/lang/invoke/VarHandle" ∧ (parseMethodDescriptor Mr_behindChoice.1.desc).map (fun d => d.parameters.length) = some 2) := ⟨k81, k782, by decide +kernel, by decide +kernel, by decide +kernel⟩
theorem k781 : Cond.instanceMethod yX5_behindChoice ∈ gtbl := gm 781 (by decide +kernel)
theorem k27 : Cond.selects RX5 yX5_behindChoice yX5_behindChoice ∈ gtbl := gm 27 (by decide +kernel)
theorem k776 : Cond.code yX5_isChoice cX5_isChoice 3 (some .boolean) ∈ gtbl := gm 776 (by decide +kernel)
theorem ck_r_isChoice : (Cond.initialized Mr_isChoice.1.cls ∈ gtbl) ∧ (Cond.code Mr_isChoice.1 Mr_isChoice.2.1 Mr_isChoice.2.2.1 Mr_isChoice.2.2.2.1 ∈ gtbl) ∧ (Mr_isChoice.1.cls ≠ "java/lang/invoke/MethodHandle" ∧ Mr_isChoice.1.cls ≠ "java/lang/invoke/VarHandle" ∧ (parseMethodDescriptor Mr_isChoice.1.desc).map (fun d => d.parameters.length) = some 2) := ⟨k81, k776, by decide +kernel, by decide +kernel, by decide +kernel⟩
theorem k775 : Cond.instanceMethod yX5_isChoice ∈ gtbl := gm 775 (by decide +kernel)
theorem k26 : Cond.selects RX5 yX5_isChoice yX5_isChoice ∈ gtbl := gm 26 (by decide +kernel)
theorem k83 : Cond.initialized RX6 ∈ gtbl := gm 83 (by decide +kernel)
theorem k557 : Cond.code yX6_found cX6_found 2 (some .int) ∈ gtbl := gm 557 (by decide +kernel)
theorem ck_s_found : (Cond.initialized Ms_found.1.cls ∈ gtbl) ∧ (Cond.code Ms_found.1 Ms_found.2.1 Ms_found.2.2.1 Ms_found.2.2.2.1 ∈ gtbl) ∧ (Ms_found.1.cls ≠ "java/lang/invoke/MethodHandle" ∧ Ms_found.1.cls ≠ "java/lang/invoke/VarHandle" ∧ (parseMethodDescriptor Ms_found.1.desc).map (fun d => d.parameters.length) = some 1) := ⟨k83, k557, by decide +kernel, by decide +kernel, by decide +kernel⟩
theorem k555 : Cond.instanceMethod yX6_found ∈ gtbl := gm 555 (by decide +kernel)
theorem k556 : Cond.selects RX6 yX6_found yX6_found ∈ gtbl := gm 556 (by decide +kernel)
theorem k548 : Cond.code yX6_hasSheet cX6_hasSheet 2 (some .boolean) ∈ gtbl := gm 548 (by decide +kernel)
theorem ck_s_hasSheet : (Cond.initialized Ms_hasSheet.1.cls ∈ gtbl) ∧ (Cond.code Ms_hasSheet.1 Ms_hasSheet.2.1 Ms_hasSheet.2.2.1 Ms_hasSheet.2.2.2.1 ∈ gtbl) ∧ (Ms_hasSheet.1.cls ≠ "java/lang/invoke/MethodHandle" ∧ Ms_hasSheet.1.cls ≠ "java/lang/invoke/VarHandle" ∧ (parseMethodDescriptor Ms_hasSheet.1.desc).map (fun d => d.parameters.length) = some 1) := ⟨k83, k548, by decide +kernel, by decide +kernel, by decide +kernel⟩
theorem k546 : Cond.instanceMethod yX6_hasSheet ∈ gtbl := gm 546 (by decide +kernel)
theorem k547 : Cond.selects RX6 yX6_hasSheet yX6_hasSheet ∈ gtbl := gm 547 (by decide +kernel)
theorem k837 : Cond.code yX6_isForm cX6_isForm 2 (some .boolean) ∈ gtbl := gm 837 (by decide +kernel)
theorem ck_s_isForm : (Cond.initialized Ms_isForm.1.cls ∈ gtbl) ∧ (Cond.code Ms_isForm.1 Ms_isForm.2.1 Ms_isForm.2.2.1 Ms_isForm.2.2.2.1 ∈ gtbl) ∧ (Ms_isForm.1.cls ≠ "java/lang/invoke/MethodHandle" ∧ Ms_isForm.1.cls ≠ "java/lang/invoke/VarHandle" ∧ (parseMethodDescriptor Ms_isForm.1.desc).map (fun d => d.parameters.length) = some 1) := ⟨k83, k837, by decide +kernel, by decide +kernel, by decide +kernel⟩
theorem k835 : Cond.instanceMethod yX6_isForm ∈ gtbl := gm 835 (by decide +kernel)
theorem k836 : Cond.selects RX6 yX6_isForm yX6_isForm ∈ gtbl := gm 836 (by decide +kernel)
theorem k553 : Cond.code yX6_isLost cX6_isLost 2 (some .boolean) ∈ gtbl := gm 553 (by decide +kernel)
theorem ck_s_isLost : (Cond.initialized Ms_isLost.1.cls ∈ gtbl) ∧ (Cond.code Ms_isLost.1 Ms_isLost.2.1 Ms_isLost.2.2.1 Ms_isLost.2.2.2.1 ∈ gtbl) ∧ (Ms_isLost.1.cls ≠ "java/lang/invoke/MethodHandle" ∧ Ms_isLost.1.cls ≠ "java/lang/invoke/VarHandle" ∧ (parseMethodDescriptor Ms_isLost.1.desc).map (fun d => d.parameters.length) = some 1) := ⟨k83, k553, by decide +kernel, by decide +kernel, by decide +kernel⟩
theorem k551 : Cond.instanceMethod yX6_isLost ∈ gtbl := gm 551 (by decide +kernel)
theorem k552 : Cond.selects RX6 yX6_isLost yX6_isLost ∈ gtbl := gm 552 (by decide +kernel)
theorem k841 : Cond.code yX6_renew cX6_renew 5 none ∈ gtbl := gm 841 (by decide +kernel)
theorem ck_s_renew : (Cond.initialized Ms_renew.1.cls ∈ gtbl) ∧ (Cond.code Ms_renew.1 Ms_renew.2.1 Ms_renew.2.2.1 Ms_renew.2.2.2.1 ∈ gtbl) ∧ (Ms_renew.1.cls ≠ "java/lang/invoke/MethodHandle" ∧ Ms_renew.1.cls ≠ "java/lang/invoke/VarHandle" ∧ (parseMethodDescriptor Ms_renew.1.desc).map (fun d => d.parameters.length) = some 3) := ⟨k83, k841, by decide +kernel, by decide +kernel, by decide +kernel⟩
theorem k839 : Cond.instanceMethod yX6_renew ∈ gtbl := gm 839 (by decide +kernel)
theorem k840 : Cond.selects RX6 yX6_renew yX6_renew ∈ gtbl := gm 840 (by decide +kernel)
theorem k849 : Cond.code yX6_drop cX6_drop 2 none ∈ gtbl := gm 849 (by decide +kernel)
theorem ck_s_drop : (Cond.initialized Ms_drop.1.cls ∈ gtbl) ∧ (Cond.code Ms_drop.1 Ms_drop.2.1 Ms_drop.2.2.1 Ms_drop.2.2.2.1 ∈ gtbl) ∧ (Ms_drop.1.cls ≠ "java/lang/invoke/MethodHandle" ∧ Ms_drop.1.cls ≠ "java/lang/invoke/VarHandle" ∧ (parseMethodDescriptor Ms_drop.1.desc).map (fun d => d.parameters.length) = some 1) := ⟨k83, k849, by decide +kernel, by decide +kernel, by decide +kernel⟩
theorem k847 : Cond.instanceMethod yX6_drop ∈ gtbl := gm 847 (by decide +kernel)
theorem k848 : Cond.selects RX6 yX6_drop yX6_drop ∈ gtbl := gm 848 (by decide +kernel)
theorem k857 : Cond.code yX6_findingAt cX6_findingAt 4 (some .int) ∈ gtbl := gm 857 (by decide +kernel)
theorem ck_s_findingAt : (Cond.initialized Ms_findingAt.1.cls ∈ gtbl) ∧ (Cond.code Ms_findingAt.1 Ms_findingAt.2.1 Ms_findingAt.2.2.1 Ms_findingAt.2.2.2.1 ∈ gtbl) ∧ (Ms_findingAt.1.cls ≠ "java/lang/invoke/MethodHandle" ∧ Ms_findingAt.1.cls ≠ "java/lang/invoke/VarHandle" ∧ (parseMethodDescriptor Ms_findingAt.1.desc).map (fun d => d.parameters.length) = some 3) := ⟨k83, k857, by decide +kernel, by decide +kernel, by decide +kernel⟩
theorem k855 : Cond.instanceMethod yX6_findingAt ∈ gtbl := gm 855 (by decide +kernel)
theorem k856 : Cond.selects RX6 yX6_findingAt yX6_findingAt ∈ gtbl := gm 856 (by decide +kernel)
theorem k561 : Cond.code yX6_item cX6_item 3 (some .int) ∈ gtbl := gm 561 (by decide +kernel)
theorem ck_s_item : (Cond.initialized Ms_item.1.cls ∈ gtbl) ∧ (Cond.code Ms_item.1 Ms_item.2.1 Ms_item.2.2.1 Ms_item.2.2.2.1 ∈ gtbl) ∧ (Ms_item.1.cls ≠ "java/lang/invoke/MethodHandle" ∧ Ms_item.1.cls ≠ "java/lang/invoke/VarHandle" ∧ (parseMethodDescriptor Ms_item.1.desc).map (fun d => d.parameters.length) = some 2) := ⟨k83, k561, by decide +kernel, by decide +kernel, by decide +kernel⟩
theorem k559 : Cond.instanceMethod yX6_item ∈ gtbl := gm 559 (by decide +kernel)
theorem k560 : Cond.selects RX6 yX6_item yX6_item ∈ gtbl := gm 560 (by decide +kernel)
theorem k862 : Cond.code yX6_store cX6_store 4 none ∈ gtbl := gm 862 (by decide +kernel)
theorem ck_s_store : (Cond.initialized Ms_store.1.cls ∈ gtbl) ∧ (Cond.code Ms_store.1 Ms_store.2.1 Ms_store.2.2.1 Ms_store.2.2.2.1 ∈ gtbl) ∧ (Ms_store.1.cls ≠ "java/lang/invoke/MethodHandle" ∧ Ms_store.1.cls ≠ "java/lang/invoke/VarHandle" ∧ (parseMethodDescriptor Ms_store.1.desc).map (fun d => d.parameters.length) = some 3) := ⟨k83, k862, by decide +kernel, by decide +kernel, by decide +kernel⟩
theorem k860 : Cond.instanceMethod yX6_store ∈ gtbl := gm 860 (by decide +kernel)
theorem k861 : Cond.selects RX6 yX6_store yX6_store ∈ gtbl := gm 861 (by decide +kernel)
theorem k865 : Cond.code yX6_narrowed cX6_narrowed 2 (some .int) ∈ gtbl := gm 865 (by decide +kernel)
theorem ck_s_narrowed : (Cond.initialized Ms_narrowed.1.cls ∈ gtbl) ∧ (Cond.code Ms_narrowed.1 Ms_narrowed.2.1 Ms_narrowed.2.2.1 Ms_narrowed.2.2.2.1 ∈ gtbl) ∧ (Ms_narrowed.1.cls ≠ "java/lang/invoke/MethodHandle" ∧ Ms_narrowed.1.cls ≠ "java/lang/invoke/VarHandle" ∧ (parseMethodDescriptor Ms_narrowed.1.desc).map (fun d => d.parameters.length) = some 2) := ⟨k83, k865, by decide +kernel, by decide +kernel, by decide +kernel⟩
theorem k864 : Cond.static yX6_narrowed ∈ gtbl := gm 864 (by decide +kernel)
theorem k878 : Cond.code yX6_hasSpan cX6_hasSpan 4 (some .boolean) ∈ gtbl := gm 878 (by decide +kernel)
theorem ck_s_hasSpan : (Cond.initialized Ms_hasSpan.1.cls ∈ gtbl) ∧ (Cond.code Ms_hasSpan.1 Ms_hasSpan.2.1 Ms_hasSpan.2.2.1 Ms_hasSpan.2.2.2.1 ∈ gtbl) ∧ (Ms_hasSpan.1.cls ≠ "java/lang/invoke/MethodHandle" ∧ Ms_hasSpan.1.cls ≠ "java/lang/invoke/VarHandle" ∧ (parseMethodDescriptor Ms_hasSpan.1.desc).map (fun d => d.parameters.length) = some 3) := ⟨k83, k878, by decide +kernel, by decide +kernel, by decide +kernel⟩
theorem k876 : Cond.instanceMethod yX6_hasSpan ∈ gtbl := gm 876 (by decide +kernel)
theorem k877 : Cond.selects RX6 yX6_hasSpan yX6_hasSpan ∈ gtbl := gm 877 (by decide +kernel)
theorem k882 : Cond.code yX6_move cX6_move 6 none ∈ gtbl := gm 882 (by decide +kernel)
theorem ck_s_move : (Cond.initialized Ms_move.1.cls ∈ gtbl) ∧ (Cond.code Ms_move.1 Ms_move.2.1 Ms_move.2.2.1 Ms_move.2.2.2.1 ∈ gtbl) ∧ (Ms_move.1.cls ≠ "java/lang/invoke/MethodHandle" ∧ Ms_move.1.cls ≠ "java/lang/invoke/VarHandle" ∧ (parseMethodDescriptor Ms_move.1.desc).map (fun d => d.parameters.length) = some 5) := ⟨k83, k882, by decide +kernel, by decide +kernel, by decide +kernel⟩
theorem k880 : Cond.instanceMethod yX6_move ∈ gtbl := gm 880 (by decide +kernel)
theorem k881 : Cond.selects RX6 yX6_move yX6_move ∈ gtbl := gm 881 (by decide +kernel)
theorem k77 : Cond.initialized RX7 ∈ gtbl := gm 77 (by decide +kernel)
theorem k433 : Cond.code yX7_isOpen cX7_isOpen 2 (some .boolean) ∈ gtbl := gm 433 (by decide +kernel)
theorem ck_w_isOpen : (Cond.initialized Mw_isOpen.1.cls ∈ gtbl) ∧ (Cond.code Mw_isOpen.1 Mw_isOpen.2.1 Mw_isOpen.2.2.1 Mw_isOpen.2.2.2.1 ∈ gtbl) ∧ (Mw_isOpen.1.cls ≠ "java/lang/invoke/MethodHandle" ∧ Mw_isOpen.1.cls ≠ "java/lang/invoke/VarHandle" ∧ (parseMethodDescriptor Mw_isOpen.1.desc).map (fun d => d.parameters.length) = some 1) := ⟨k77, k433, by decide +kernel, by decide +kernel, by decide +kernel⟩
theorem k431 : Cond.instanceMethod yX7_isOpen ∈ gtbl := gm 431 (by decide +kernel)
theorem k432 : Cond.selects RX7 yX7_isOpen yX7_isOpen ∈ gtbl := gm 432 (by decide +kernel)
theorem k424 : Cond.code yX7_find cX7_find 6 (some .boolean) ∈ gtbl := gm 424 (by decide +kernel)
theorem ck_w_find : (Cond.initialized Mw_find.1.cls ∈ gtbl) ∧ (Cond.code Mw_find.1 Mw_find.2.1 Mw_find.2.2.1 Mw_find.2.2.2.1 ∈ gtbl) ∧ (Mw_find.1.cls ≠ "java/lang/invoke/MethodHandle" ∧ Mw_find.1.cls ≠ "java/lang/invoke/VarHandle" ∧ (parseMethodDescriptor Mw_find.1.desc).map (fun d => d.parameters.length) = some 2) := ⟨k77, k424, by decide +kernel, by decide +kernel, by decide +kernel⟩
theorem k422 : Cond.instanceMethod yX7_find ∈ gtbl := gm 422 (by decide +kernel)
theorem k423 : Cond.selects RX7 yX7_find yX7_find ∈ gtbl := gm 423 (by decide +kernel)
theorem k428 : Cond.code yX7_measure cX7_measure 5 none ∈ gtbl := gm 428 (by decide +kernel)
theorem ck_w_measure : (Cond.initialized Mw_measure.1.cls ∈ gtbl) ∧ (Cond.code Mw_measure.1 Mw_measure.2.1 Mw_measure.2.2.1 Mw_measure.2.2.2.1 ∈ gtbl) ∧ (Mw_measure.1.cls ≠ "java/lang/invoke/MethodHandle" ∧ Mw_measure.1.cls ≠ "java/lang/invoke/VarHandle" ∧ (parseMethodDescriptor Mw_measure.1.desc).map (fun d => d.parameters.length) = some 1) := ⟨k77, k428, by decide +kernel, by decide +kernel, by decide +kernel⟩
theorem k427 : Cond.instanceMethod yX7_measure ∈ gtbl := gm 427 (by decide +kernel)
theorem k6 : Cond.selects RX7 yX7_measure yX7_measure ∈ gtbl := gm 6 (by decide +kernel)
theorem k437 : Cond.code yX7_shorten cX7_shorten 5 (some .boolean) ∈ gtbl := gm 437 (by decide +kernel)
theorem ck_w_shorten : (Cond.initialized Mw_shorten.1.cls ∈ gtbl) ∧ (Cond.code Mw_shorten.1 Mw_shorten.2.1 Mw_shorten.2.2.1 Mw_shorten.2.2.2.1 ∈ gtbl) ∧ (Mw_shorten.1.cls ≠ "java/lang/invoke/MethodHandle" ∧ Mw_shorten.1.cls ≠ "java/lang/invoke/VarHandle" ∧ (parseMethodDescriptor Mw_shorten.1.desc).map (fun d => d.parameters.length) = some 1) := ⟨k77, k437, by decide +kernel, by decide +kernel, by decide +kernel⟩
theorem k436 : Cond.instanceMethod yX7_shorten ∈ gtbl := gm 436 (by decide +kernel)
theorem k7 : Cond.selects RX7 yX7_shorten yX7_shorten ∈ gtbl := gm 7 (by decide +kernel)
theorem k441 : Cond.code yX7_leastOnward cX7_leastOnward 3 (some .int) ∈ gtbl := gm 441 (by decide +kernel)
theorem ck_w_leastOnward : (Cond.initialized Mw_leastOnward.1.cls ∈ gtbl) ∧ (Cond.code Mw_leastOnward.1 Mw_leastOnward.2.1 Mw_leastOnward.2.2.1 Mw_leastOnward.2.2.2.1 ∈ gtbl) ∧ (Mw_leastOnward.1.cls ≠ "java/lang/invoke/MethodHandle" ∧ Mw_leastOnward.1.cls ≠ "java/lang/invoke/VarHandle" ∧ (parseMethodDescriptor Mw_leastOnward.1.desc).map (fun d => d.parameters.length) = some 1) := ⟨k77, k441, by decide +kernel, by decide +kernel, by decide +kernel⟩
theorem k440 : Cond.instanceMethod yX7_leastOnward ∈ gtbl := gm 440 (by decide +kernel)
theorem k8 : Cond.selects RX7 yX7_leastOnward yX7_leastOnward ∈ gtbl := gm 8 (by decide +kernel)
theorem k618 : Cond.code yX7_rowLength cX7_rowLength 3 (some .int) ∈ gtbl := gm 618 (by decide +kernel)
theorem ck_w_rowLength : (Cond.initialized Mw_rowLength.1.cls ∈ gtbl) ∧ (Cond.code Mw_rowLength.1 Mw_rowLength.2.1 Mw_rowLength.2.2.1 Mw_rowLength.2.2.2.1 ∈ gtbl) ∧ (Mw_rowLength.1.cls ≠ "java/lang/invoke/MethodHandle" ∧ Mw_rowLength.1.cls ≠ "java/lang/invoke/VarHandle" ∧ (parseMethodDescriptor Mw_rowLength.1.desc).map (fun d => d.parameters.length) = some 0) := ⟨k77, k618, by decide +kernel, by decide +kernel, by decide +kernel⟩
theorem k616 : Cond.instanceMethod yX7_rowLength ∈ gtbl := gm 616 (by decide +kernel)
theorem k617 : Cond.selects RX7 yX7_rowLength yX7_rowLength ∈ gtbl := gm 617 (by decide +kernel)
theorem k453 : Cond.code yX7_rowBits cX7_rowBits 3 (some .int) ∈ gtbl := gm 453 (by decide +kernel)
theorem ck_w_rowBits : (Cond.initialized Mw_rowBits.1.cls ∈ gtbl) ∧ (Cond.code Mw_rowBits.1 Mw_rowBits.2.1 Mw_rowBits.2.2.1 Mw_rowBits.2.2.2.1 ∈ gtbl) ∧ (Mw_rowBits.1.cls ≠ "java/lang/invoke/MethodHandle" ∧ Mw_rowBits.1.cls ≠ "java/lang/invoke/VarHandle" ∧ (parseMethodDescriptor Mw_rowBits.1.desc).map (fun d => d.parameters.length) = some 0) := ⟨k77, k453, by decide +kernel, by decide +kernel, by decide +kernel⟩
theorem k451 : Cond.instanceMethod yX7_rowBits ∈ gtbl := gm 451 (by decide +kernel)
theorem k452 : Cond.selects RX7 yX7_rowBits yX7_rowBits ∈ gtbl := gm 452 (by decide +kernel)
theorem k638 : Cond.code yX7_drawAlongRow cX7_drawAlongRow 3 none ∈ gtbl := gm 638 (by decide +kernel)
theorem ck_w_drawAlongRow : (Cond.initialized Mw_drawAlongRow.1.cls ∈ gtbl) ∧ (Cond.code Mw_drawAlongRow.1 Mw_drawAlongRow.2.1 Mw_drawAlongRow.2.2.1 Mw_drawAlongRow.2.2.2.1 ∈ gtbl) ∧ (Mw_drawAlongRow.1.cls ≠ "java/lang/invoke/MethodHandle" ∧ Mw_drawAlongRow.1.cls ≠ "java/lang/invoke/VarHandle" ∧ (parseMethodDescriptor Mw_drawAlongRow.1.desc).map (fun d => d.parameters.length) = some 1) := ⟨k77, k638, by decide +kernel, by decide +kernel, by decide +kernel⟩
theorem k636 : Cond.instanceMethod yX7_drawAlongRow ∈ gtbl := gm 636 (by decide +kernel)
theorem k637 : Cond.selects RX7 yX7_drawAlongRow yX7_drawAlongRow ∈ gtbl := gm 637 (by decide +kernel)
theorem k626 : Cond.code yX7_drawAll cX7_drawAll 6 (some .int) ∈ gtbl := gm 626 (by decide +kernel)
theorem ck_w_drawAll : (Cond.initialized Mw_drawAll.1.cls ∈ gtbl) ∧ (Cond.code Mw_drawAll.1 Mw_drawAll.2.1 Mw_drawAll.2.2.1 Mw_drawAll.2.2.2.1 ∈ gtbl) ∧ (Mw_drawAll.1.cls ≠ "java/lang/invoke/MethodHandle" ∧ Mw_drawAll.1.cls ≠ "java/lang/invoke/VarHandle" ∧ (parseMethodDescriptor Mw_drawAll.1.desc).map (fun d => d.parameters.length) = some 2) := ⟨k77, k626, by decide +kernel, by decide +kernel, by decide +kernel⟩
theorem k624 : Cond.instanceMethod yX7_drawAll ∈ gtbl := gm 624 (by decide +kernel)
theorem k625 : Cond.selects RX7 yX7_drawAll yX7_drawAll ∈ gtbl := gm 625 (by decide +kernel)
theorem k631 : Cond.code yX7_roomInRow cX7_roomInRow 3 (some .int) ∈ gtbl := gm 631 (by decide +kernel)
theorem ck_w_roomInRow : (Cond.initialized Mw_roomInRow.1.cls ∈ gtbl) ∧ (Cond.code Mw_roomInRow.1 Mw_roomInRow.2.1 Mw_roomInRow.2.2.1 Mw_roomInRow.2.2.2.1 ∈ gtbl) ∧ (Mw_roomInRow.1.cls ≠ "java/lang/invoke/MethodHandle" ∧ Mw_roomInRow.1.cls ≠ "java/lang/invoke/VarHandle" ∧ (parseMethodDescriptor Mw_roomInRow.1.desc).map (fun d => d.parameters.length) = some 0) := ⟨k77, k631, by decide +kernel, by decide +kernel, by decide +kernel⟩
theorem k630 : Cond.instanceMethod yX7_roomInRow ∈ gtbl := gm 630 (by decide +kernel)
theorem k15 : Cond.selects RX7 yX7_roomInRow yX7_roomInRow ∈ gtbl := gm 15 (by decide +kernel)
theorem k728 : Cond.code yX7_reachedFrom cX7_reachedFrom 7 (some .int) ∈ gtbl := gm 728 (by decide +kernel)
theorem ck_w_reachedFrom : (Cond.initialized Mw_reachedFrom.1.cls ∈ gtbl) ∧ (Cond.code Mw_reachedFrom.1 Mw_reachedFrom.2.1 Mw_reachedFrom.2.2.1 Mw_reachedFrom.2.2.2.1 ∈ gtbl) ∧ (Mw_reachedFrom.1.cls ≠ "java/lang/invoke/MethodHandle" ∧ Mw_reachedFrom.1.cls ≠ "java/lang/invoke/VarHandle" ∧ (parseMethodDescriptor Mw_reachedFrom.1.desc).map (fun d => d.parameters.length) = some 1) := ⟨k77, k728, by decide +kernel, by decide +kernel, by decide +kernel⟩
theorem k726 : Cond.instanceMethod yX7_reachedFrom ∈ gtbl := gm 726 (by decide +kernel)
theorem k727 : Cond.selects RX7 yX7_reachedFrom yX7_reachedFrom ∈ gtbl := gm 727 (by decide +kernel)
theorem k75 : Cond.initialized RX8 ∈ gtbl := gm 75 (by decide +kernel)
theorem k373 : Cond.code yX8_type cX8_type 2 (some .int) ∈ gtbl := gm 373 (by decide +kernel)
theorem ck_x_type : (Cond.initialized Mx_type.1.cls ∈ gtbl) ∧ (Cond.code Mx_type.1 Mx_type.2.1 Mx_type.2.2.1 Mx_type.2.2.2.1 ∈ gtbl) ∧ (Mx_type.1.cls ≠ "java/lang/invoke/MethodHandle" ∧ Mx_type.1.cls ≠ "java/lang/invoke/VarHandle" ∧ (parseMethodDescriptor Mx_type.1.desc).map (fun d => d.parameters.length) = some 1) := ⟨k75, k373, by decide +kernel, by decide +kernel, by decide +kernel⟩
theorem k371 : Cond.instanceMethod yX8_type ∈ gtbl := gm 371 (by decide +kernel)
theorem k372 : Cond.selects RX8 yX8_type yX8_type ∈ gtbl := gm 372 (by decide +kernel)
theorem k458 : Cond.code yX8_wipe cX8_wipe 2 (some .int) ∈ gtbl := gm 458 (by decide +kernel)
theorem ck_x_wipe : (Cond.initialized Mx_wipe.1.cls ∈ gtbl) ∧ (Cond.code Mx_wipe.1 Mx_wipe.2.1 Mx_wipe.2.2.1 Mx_wipe.2.2.2.1 ∈ gtbl) ∧ (Mx_wipe.1.cls ≠ "java/lang/invoke/MethodHandle" ∧ Mx_wipe.1.cls ≠ "java/lang/invoke/VarHandle" ∧ (parseMethodDescriptor Mx_wipe.1.desc).map (fun d => d.parameters.length) = some 0) := ⟨k75, k458, by decide +kernel, by decide +kernel, by decide +kernel⟩
theorem k456 : Cond.instanceMethod yX8_wipe ∈ gtbl := gm 456 (by decide +kernel)
theorem k457 : Cond.selects RX8 yX8_wipe yX8_wipe ∈ gtbl := gm 457 (by decide +kernel)
theorem k466 : Cond.code yX8_undo cX8_undo 1 (some .int) ∈ gtbl := gm 466 (by decide +kernel)
theorem ck_x_undo : (Cond.initialized Mx_undo.1.cls ∈ gtbl) ∧ (Cond.code Mx_undo.1 Mx_undo.2.1 Mx_undo.2.2.1 Mx_undo.2.2.2.1 ∈ gtbl) ∧ (Mx_undo.1.cls ≠ "java/lang/invoke/MethodHandle" ∧ Mx_undo.1.cls ≠ "java/lang/invoke/VarHandle" ∧ (parseMethodDescriptor Mx_undo.1.desc).map (fun d => d.parameters.length) = some 0) := ⟨k75, k466, by decide +kernel, by decide +kernel, by decide +kernel⟩
theorem k464 : Cond.instanceMethod yX8_undo ∈ gtbl := gm 464 (by decide +kernel)
theorem k465 : Cond.selects RX8 yX8_undo yX8_undo ∈ gtbl := gm 465 (by decide +kernel)
theorem k477 : Cond.code yX8_fault cX8_fault 1 (some .int) ∈ gtbl := gm 477 (by decide +kernel)
theorem ck_x_fault : (Cond.initialized Mx_fault.1.cls ∈ gtbl) ∧ (Cond.code Mx_fault.1 Mx_fault.2.1 Mx_fault.2.2.1 Mx_fault.2.2.2.1 ∈ gtbl) ∧ (Mx_fault.1.cls ≠ "java/lang/invoke/MethodHandle" ∧ Mx_fault.1.cls ≠ "java/lang/invoke/VarHandle" ∧ (parseMethodDescriptor Mx_fault.1.desc).map (fun d => d.parameters.length) = some 0) := ⟨k75, k477, by decide +kernel, by decide +kernel, by decide +kernel⟩
theorem k475 : Cond.instanceMethod yX8_fault ∈ gtbl := gm 475 (by decide +kernel)
theorem k476 : Cond.selects RX8 yX8_fault yX8_fault ∈ gtbl := gm 476 (by decide +kernel)
theorem k481 : Cond.code yX8_pipe cX8_pipe 3 (some .int) ∈ gtbl := gm 481 (by decide +kernel)
theorem ck_x_pipe : (Cond.initialized Mx_pipe.1.cls ∈ gtbl) ∧ (Cond.code Mx_pipe.1 Mx_pipe.2.1 Mx_pipe.2.2.1 Mx_pipe.2.2.2.1 ∈ gtbl) ∧ (Mx_pipe.1.cls ≠ "java/lang/invoke/MethodHandle" ∧ Mx_pipe.1.cls ≠ "java/lang/invoke/VarHandle" ∧ (parseMethodDescriptor Mx_pipe.1.desc).map (fun d => d.parameters.length) = some 2) := ⟨k75, k481, by decide +kernel, by decide +kernel, by decide +kernel⟩
theorem k479 : Cond.instanceMethod yX8_pipe ∈ gtbl := gm 479 (by decide +kernel)
theorem k480 : Cond.selects RX8 yX8_pipe yX8_pipe ∈ gtbl := gm 480 (by decide +kernel)
theorem k497 : Cond.code yX8_set cX8_set 3 (some .int) ∈ gtbl := gm 497 (by decide +kernel)
theorem ck_x_set : (Cond.initialized Mx_set.1.cls ∈ gtbl) ∧ (Cond.code Mx_set.1 Mx_set.2.1 Mx_set.2.2.1 Mx_set.2.2.2.1 ∈ gtbl) ∧ (Mx_set.1.cls ≠ "java/lang/invoke/MethodHandle" ∧ Mx_set.1.cls ≠ "java/lang/invoke/VarHandle" ∧ (parseMethodDescriptor Mx_set.1.desc).map (fun d => d.parameters.length) = some 2) := ⟨k75, k497, by decide +kernel, by decide +kernel, by decide +kernel⟩
theorem k495 : Cond.instanceMethod yX8_set ∈ gtbl := gm 495 (by decide +kernel)
theorem k496 : Cond.selects RX8 yX8_set yX8_set ∈ gtbl := gm 496 (by decide +kernel)
theorem k502 : Cond.code yX8_setShut cX8_setShut 3 (some .int) ∈ gtbl := gm 502 (by decide +kernel)
theorem ck_x_setShut : (Cond.initialized Mx_setShut.1.cls ∈ gtbl) ∧ (Cond.code Mx_setShut.1 Mx_setShut.2.1 Mx_setShut.2.2.1 Mx_setShut.2.2.2.1 ∈ gtbl) ∧ (Mx_setShut.1.cls ≠ "java/lang/invoke/MethodHandle" ∧ Mx_setShut.1.cls ≠ "java/lang/invoke/VarHandle" ∧ (parseMethodDescriptor Mx_setShut.1.desc).map (fun d => d.parameters.length) = some 1) := ⟨k75, k502, by decide +kernel, by decide +kernel, by decide +kernel⟩
theorem k501 : Cond.instanceMethod yX8_setShut ∈ gtbl := gm 501 (by decide +kernel)
theorem k9 : Cond.selects RX8 yX8_setShut yX8_setShut ∈ gtbl := gm 9 (by decide +kernel)
theorem k506 : Cond.code yX8_setTakes cX8_setTakes 3 (some .int) ∈ gtbl := gm 506 (by decide +kernel)
theorem ck_x_setTakes : (Cond.initialized Mx_setTakes.1.cls ∈ gtbl) ∧ (Cond.code Mx_setTakes.1 Mx_setTakes.2.1 Mx_setTakes.2.2.1 Mx_setTakes.2.2.2.1 ∈ gtbl) ∧ (Mx_setTakes.1.cls ≠ "java/lang/invoke/MethodHandle" ∧ Mx_setTakes.1.cls ≠ "java/lang/invoke/VarHandle" ∧ (parseMethodDescriptor Mx_setTakes.1.desc).map (fun d => d.parameters.length) = some 1) := ⟨k75, k506, by decide +kernel, by decide +kernel, by decide +kernel⟩
theorem k505 : Cond.instanceMethod yX8_setTakes ∈ gtbl := gm 505 (by decide +kernel)
theorem k10 : Cond.selects RX8 yX8_setTakes yX8_setTakes ∈ gtbl := gm 10 (by decide +kernel)
theorem k510 : Cond.code yX8_setHard cX8_setHard 3 (some .int) ∈ gtbl := gm 510 (by decide +kernel)
theorem ck_x_setHard : (Cond.initialized Mx_setHard.1.cls ∈ gtbl) ∧ (Cond.code Mx_setHard.1 Mx_setHard.2.1 Mx_setHard.2.2.1 Mx_setHard.2.2.2.1 ∈ gtbl) ∧ (Mx_setHard.1.cls ≠ "java/lang/invoke/MethodHandle" ∧ Mx_setHard.1.cls ≠ "java/lang/invoke/VarHandle" ∧ (parseMethodDescriptor Mx_setHard.1.desc).map (fun d => d.parameters.length) = some 1) := ⟨k75, k510, by decide +kernel, by decide +kernel, by decide +kernel⟩
theorem k509 : Cond.instanceMethod yX8_setHard ∈ gtbl := gm 509 (by decide +kernel)
theorem k11 : Cond.selects RX8 yX8_setHard yX8_setHard ∈ gtbl := gm 11 (by decide +kernel)
theorem k514 : Cond.code yX8_letIn cX8_letIn 3 (some .int) ∈ gtbl := gm 514 (by decide +kernel)
theorem ck_x_letIn : (Cond.initialized Mx_letIn.1.cls ∈ gtbl) ∧ (Cond.code Mx_letIn.1 Mx_letIn.2.1 Mx_letIn.2.2.1 Mx_letIn.2.2.2.1 ∈ gtbl) ∧ (Mx_letIn.1.cls ≠ "java/lang/invoke/MethodHandle" ∧ Mx_letIn.1.cls ≠ "java/lang/invoke/VarHandle" ∧ (parseMethodDescriptor Mx_letIn.1.desc).map (fun d => d.parameters.length) = some 2) := ⟨k75, k514, by decide +kernel, by decide +kernel, by decide +kernel⟩
theorem k512 : Cond.instanceMethod yX8_letIn ∈ gtbl := gm 512 (by decide +kernel)
theorem k513 : Cond.selects RX8 yX8_letIn yX8_letIn ∈ gtbl := gm 513 (by decide +kernel)
theorem k529 : Cond.code yX8_pull cX8_pull 2 (some .int) ∈ gtbl := gm 529 (by decide +kernel)
theorem ck_x_pull : (Cond.initialized Mx_pull.1.cls ∈ gtbl) ∧ (Cond.code Mx_pull.1 Mx_pull.2.1 Mx_pull.2.2.1 Mx_pull.2.2.2.1 ∈ gtbl) ∧ (Mx_pull.1.cls ≠ "java/lang/invoke/MethodHandle" ∧ Mx_pull.1.cls ≠ "java/lang/invoke/VarHandle" ∧ (parseMethodDescriptor Mx_pull.1.desc).map (fun d => d.parameters.length) = some 1) := ⟨k75, k529, by decide +kernel, by decide +kernel, by decide +kernel⟩
theorem k527 : Cond.instanceMethod yX8_pull ∈ gtbl := gm 527 (by decide +kernel)
theorem k528 : Cond.selects RX8 yX8_pull yX8_pull ∈ gtbl := gm 528 (by decide +kernel)
theorem k536 : Cond.code yX8_back cX8_back 1 (some .int) ∈ gtbl := gm 536 (by decide +kernel)
theorem ck_x_back : (Cond.initialized Mx_back.1.cls ∈ gtbl) ∧ (Cond.code Mx_back.1 Mx_back.2.1 Mx_back.2.2.1 Mx_back.2.2.2.1 ∈ gtbl) ∧ (Mx_back.1.cls ≠ "java/lang/invoke/MethodHandle" ∧ Mx_back.1.cls ≠ "java/lang/invoke/VarHandle" ∧ (parseMethodDescriptor Mx_back.1.desc).map (fun d => d.parameters.length) = some 0) := ⟨k75, k536, by decide +kernel, by decide +kernel, by decide +kernel⟩
theorem k534 : Cond.instanceMethod yX8_back ∈ gtbl := gm 534 (by decide +kernel)
theorem k535 : Cond.selects RX8 yX8_back yX8_back ∈ gtbl := gm 535 (by decide +kernel)
theorem k544 : Cond.code yX8_read cX8_read 6 (some .int) ∈ gtbl := gm 544 (by decide +kernel)
theorem ck_x_read : (Cond.initialized Mx_read.1.cls ∈ gtbl) ∧ (Cond.code Mx_read.1 Mx_read.2.1 Mx_read.2.2.1 Mx_read.2.2.2.1 ∈ gtbl) ∧ (Mx_read.1.cls ≠ "java/lang/invoke/MethodHandle" ∧ Mx_read.1.cls ≠ "java/lang/invoke/VarHandle" ∧ (parseMethodDescriptor Mx_read.1.desc).map (fun d => d.parameters.length) = some 1) := ⟨k75, k544, by decide +kernel, by decide +kernel, by decide +kernel⟩
theorem k542 : Cond.instanceMethod yX8_read ∈ gtbl := gm 542 (by decide +kernel)
theorem k543 : Cond.selects RX8 yX8_read yX8_read ∈ gtbl := gm 543 (by decide +kernel)
theorem k565 : Cond.code yX8_judged cX8_judged 1 (some .int) ∈ gtbl := gm 565 (by decide +kernel)
theorem ck_x_judged : (Cond.initialized Mx_judged.1.cls ∈ gtbl) ∧ (Cond.code Mx_judged.1 Mx_judged.2.1 Mx_judged.2.2.1 Mx_judged.2.2.2.1 ∈ gtbl) ∧ (Mx_judged.1.cls ≠ "java/lang/invoke/MethodHandle" ∧ Mx_judged.1.cls ≠ "java/lang/invoke/VarHandle" ∧ (parseMethodDescriptor Mx_judged.1.desc).map (fun d => d.parameters.length) = some 0) := ⟨k75, k565, by decide +kernel, by decide +kernel, by decide +kernel⟩
theorem k563 : Cond.instanceMethod yX8_judged ∈ gtbl := gm 563 (by decide +kernel)
theorem k564 : Cond.selects RX8 yX8_judged yX8_judged ∈ gtbl := gm 564 (by decide +kernel)
theorem k577 : Cond.code yX8_state cX8_state 3 (some .int) ∈ gtbl := gm 577 (by decide +kernel)
theorem ck_x_state : (Cond.initialized Mx_state.1.cls ∈ gtbl) ∧ (Cond.code Mx_state.1 Mx_state.2.1 Mx_state.2.2.1 Mx_state.2.2.2.1 ∈ gtbl) ∧ (Mx_state.1.cls ≠ "java/lang/invoke/MethodHandle" ∧ Mx_state.1.cls ≠ "java/lang/invoke/VarHandle" ∧ (parseMethodDescriptor Mx_state.1.desc).map (fun d => d.parameters.length) = some 2) := ⟨k75, k577, by decide +kernel, by decide +kernel, by decide +kernel⟩
theorem k575 : Cond.instanceMethod yX8_state ∈ gtbl := gm 575 (by decide +kernel)
theorem k576 : Cond.selects RX8 yX8_state yX8_state ∈ gtbl := gm 576 (by decide +kernel)
theorem k590 : Cond.code yX8_wire cX8_wire 3 (some .int) ∈ gtbl := gm 590 (by decide +kernel)
theorem ck_x_wire : (Cond.initialized Mx_wire.1.cls ∈ gtbl) ∧ (Cond.code Mx_wire.1 Mx_wire.2.1 Mx_wire.2.2.1 Mx_wire.2.2.2.1 ∈ gtbl) ∧ (Mx_wire.1.cls ≠ "java/lang/invoke/MethodHandle" ∧ Mx_wire.1.cls ≠ "java/lang/invoke/VarHandle" ∧ (parseMethodDescriptor Mx_wire.1.desc).map (fun d => d.parameters.length) = some 2) := ⟨k75, k590, by decide +kernel, by decide +kernel, by decide +kernel⟩
theorem k588 : Cond.instanceMethod yX8_wire ∈ gtbl := gm 588 (by decide +kernel)
theorem k589 : Cond.selects RX8 yX8_wire yX8_wire ∈ gtbl := gm 589 (by decide +kernel)
theorem k595 : Cond.code yX8_out cX8_out 2 (some .int) ∈ gtbl := gm 595 (by decide +kernel)
theorem ck_x_out : (Cond.initialized Mx_out.1.cls ∈ gtbl) ∧ (Cond.code Mx_out.1 Mx_out.2.1 Mx_out.2.2.1 Mx_out.2.2.2.1 ∈ gtbl) ∧ (Mx_out.1.cls ≠ "java/lang/invoke/MethodHandle" ∧ Mx_out.1.cls ≠ "java/lang/invoke/VarHandle" ∧ (parseMethodDescriptor Mx_out.1.desc).map (fun d => d.parameters.length) = some 1) := ⟨k75, k595, by decide +kernel, by decide +kernel, by decide +kernel⟩
theorem k593 : Cond.instanceMethod yX8_out ∈ gtbl := gm 593 (by decide +kernel)
theorem k594 : Cond.selects RX8 yX8_out yX8_out ∈ gtbl := gm 594 (by decide +kernel)
theorem k605 : Cond.code yX8_shortest cX8_shortest 4 (some .int) ∈ gtbl := gm 605 (by decide +kernel)
theorem ck_x_shortest : (Cond.initialized Mx_shortest.1.cls ∈ gtbl) ∧ (Cond.code Mx_shortest.1 Mx_shortest.2.1 Mx_shortest.2.2.1 Mx_shortest.2.2.2.1 ∈ gtbl) ∧ (Mx_shortest.1.cls ≠ "java/lang/invoke/MethodHandle" ∧ Mx_shortest.1.cls ≠ "java/lang/invoke/VarHandle" ∧ (parseMethodDescriptor Mx_shortest.1.desc).map (fun d => d.parameters.length) = some 3) := ⟨k75, k605, by decide +kernel, by decide +kernel, by decide +kernel⟩
theorem k603 : Cond.instanceMethod yX8_shortest ∈ gtbl := gm 603 (by decide +kernel)
theorem k604 : Cond.selects RX8 yX8_shortest yX8_shortest ∈ gtbl := gm 604 (by decide +kernel)
theorem k622 : Cond.code yX8_most cX8_most 4 (some .int) ∈ gtbl := gm 622 (by decide +kernel)
theorem ck_x_most : (Cond.initialized Mx_most.1.cls ∈ gtbl) ∧ (Cond.code Mx_most.1 Mx_most.2.1 Mx_most.2.2.1 Mx_most.2.2.2.1 ∈ gtbl) ∧ (Mx_most.1.cls ≠ "java/lang/invoke/MethodHandle" ∧ Mx_most.1.cls ≠ "java/lang/invoke/VarHandle" ∧ (parseMethodDescriptor Mx_most.1.desc).map (fun d => d.parameters.length) = some 3) := ⟨k75, k622, by decide +kernel, by decide +kernel, by decide +kernel⟩
theorem k620 : Cond.instanceMethod yX8_most ∈ gtbl := gm 620 (by decide +kernel)
theorem k621 : Cond.selects RX8 yX8_most yX8_most ∈ gtbl := gm 621 (by decide +kernel)
theorem k667 : Cond.code yX8_fails cX8_fails 2 (some .int) ∈ gtbl := gm 667 (by decide +kernel)
theorem ck_x_fails : (Cond.initialized Mx_fails.1.cls ∈ gtbl) ∧ (Cond.code Mx_fails.1 Mx_fails.2.1 Mx_fails.2.2.1 Mx_fails.2.2.2.1 ∈ gtbl) ∧ (Mx_fails.1.cls ≠ "java/lang/invoke/MethodHandle" ∧ Mx_fails.1.cls ≠ "java/lang/invoke/VarHandle" ∧ (parseMethodDescriptor Mx_fails.1.desc).map (fun d => d.parameters.length) = some 1) := ⟨k75, k667, by decide +kernel, by decide +kernel, by decide +kernel⟩
theorem k665 : Cond.instanceMethod yX8_fails ∈ gtbl := gm 665 (by decide +kernel)
theorem k666 : Cond.selects RX8 yX8_fails yX8_fails ∈ gtbl := gm 666 (by decide +kernel)
theorem k680 : Cond.code yX8_soonest cX8_soonest 6 (some .int) ∈ gtbl := gm 680 (by decide +kernel)
theorem ck_x_soonest : (Cond.initialized Mx_soonest.1.cls ∈ gtbl) ∧ (Cond.code Mx_soonest.1 Mx_soonest.2.1 Mx_soonest.2.2.1 Mx_soonest.2.2.2.1 ∈ gtbl) ∧ (Mx_soonest.1.cls ≠ "java/lang/invoke/MethodHandle" ∧ Mx_soonest.1.cls ≠ "java/lang/invoke/VarHandle" ∧ (parseMethodDescriptor Mx_soonest.1.desc).map (fun d => d.parameters.length) = some 0) := ⟨k75, k680, by decide +kernel, by decide +kernel, by decide +kernel⟩
theorem k678 : Cond.instanceMethod yX8_soonest ∈ gtbl := gm 678 (by decide +kernel)
theorem k679 : Cond.selects RX8 yX8_soonest yX8_soonest ∈ gtbl := gm 679 (by decide +kernel)
theorem k684 : Cond.code yX8_left cX8_left 6 (some .int) ∈ gtbl := gm 684 (by decide +kernel)
theorem ck_x_left : (Cond.initialized Mx_left.1.cls ∈ gtbl) ∧ (Cond.code Mx_left.1 Mx_left.2.1 Mx_left.2.2.1 Mx_left.2.2.2.1 ∈ gtbl) ∧ (Mx_left.1.cls ≠ "java/lang/invoke/MethodHandle" ∧ Mx_left.1.cls ≠ "java/lang/invoke/VarHandle" ∧ (parseMethodDescriptor Mx_left.1.desc).map (fun d => d.parameters.length) = some 1) := ⟨k75, k684, by decide +kernel, by decide +kernel, by decide +kernel⟩
theorem k682 : Cond.instanceMethod yX8_left ∈ gtbl := gm 682 (by decide +kernel)
theorem k683 : Cond.selects RX8 yX8_left yX8_left ∈ gtbl := gm 683 (by decide +kernel)
theorem k688 : Cond.code yX8_burns cX8_burns 2 (some .int) ∈ gtbl := gm 688 (by decide +kernel)
theorem ck_x_burns : (Cond.initialized Mx_burns.1.cls ∈ gtbl) ∧ (Cond.code Mx_burns.1 Mx_burns.2.1 Mx_burns.2.2.1 Mx_burns.2.2.2.1 ∈ gtbl) ∧ (Mx_burns.1.cls ≠ "java/lang/invoke/MethodHandle" ∧ Mx_burns.1.cls ≠ "java/lang/invoke/VarHandle" ∧ (parseMethodDescriptor Mx_burns.1.desc).map (fun d => d.parameters.length) = some 1) := ⟨k75, k688, by decide +kernel, by decide +kernel, by decide +kernel⟩
theorem k686 : Cond.instanceMethod yX8_burns ∈ gtbl := gm 686 (by decide +kernel)
theorem k687 : Cond.selects RX8 yX8_burns yX8_burns ∈ gtbl := gm 687 (by decide +kernel)
theorem k700 : Cond.code yX8_lit cX8_lit 3 (some .int) ∈ gtbl := gm 700 (by decide +kernel)
theorem ck_x_lit : (Cond.initialized Mx_lit.1.cls ∈ gtbl) ∧ (Cond.code Mx_lit.1 Mx_lit.2.1 Mx_lit.2.2.1 Mx_lit.2.2.2.1 ∈ gtbl) ∧ (Mx_lit.1.cls ≠ "java/lang/invoke/MethodHandle" ∧ Mx_lit.1.cls ≠ "java/lang/invoke/VarHandle" ∧ (parseMethodDescriptor Mx_lit.1.desc).map (fun d => d.parameters.length) = some 2) := ⟨k75, k700, by decide +kernel, by decide +kernel, by decide +kernel⟩
theorem k698 : Cond.instanceMethod yX8_lit ∈ gtbl := gm 698 (by decide +kernel)
theorem k699 : Cond.selects RX8 yX8_lit yX8_lit ∈ gtbl := gm 699 (by decide +kernel)
theorem k738 : Cond.code yX8_heard cX8_heard 4 (some .int) ∈ gtbl := gm 738 (by decide +kernel)
theorem ck_x_heard : (Cond.initialized Mx_heard.1.cls ∈ gtbl) ∧ (Cond.code Mx_heard.1 Mx_heard.2.1 Mx_heard.2.2.1 Mx_heard.2.2.2.1 ∈ gtbl) ∧ (Mx_heard.1.cls ≠ "java/lang/invoke/MethodHandle" ∧ Mx_heard.1.cls ≠ "java/lang/invoke/VarHandle" ∧ (parseMethodDescriptor Mx_heard.1.desc).map (fun d => d.parameters.length) = some 3) := ⟨k75, k738, by decide +kernel, by decide +kernel, by decide +kernel⟩
theorem k736 : Cond.instanceMethod yX8_heard ∈ gtbl := gm 736 (by decide +kernel)
theorem k737 : Cond.selects RX8 yX8_heard yX8_heard ∈ gtbl := gm 737 (by decide +kernel)
theorem k757 : Cond.code yX8_meet cX8_meet 6 (some .int) ∈ gtbl := gm 757 (by decide +kernel)
theorem ck_x_meet : (Cond.initialized Mx_meet.1.cls ∈ gtbl) ∧ (Cond.code Mx_meet.1 Mx_meet.2.1 Mx_meet.2.2.1 Mx_meet.2.2.2.1 ∈ gtbl) ∧ (Mx_meet.1.cls ≠ "java/lang/invoke/MethodHandle" ∧ Mx_meet.1.cls ≠ "java/lang/invoke/VarHandle" ∧ (parseMethodDescriptor Mx_meet.1.desc).map (fun d => d.parameters.length) = some 4) := ⟨k75, k757, by decide +kernel, by decide +kernel, by decide +kernel⟩
theorem k755 : Cond.instanceMethod yX8_meet ∈ gtbl := gm 755 (by decide +kernel)
theorem k756 : Cond.selects RX8 yX8_meet yX8_meet ∈ gtbl := gm 756 (by decide +kernel)
theorem k764 : Cond.code yX8_drowsy cX8_drowsy 4 (some .int) ∈ gtbl := gm 764 (by decide +kernel)
theorem ck_x_drowsy : (Cond.initialized Mx_drowsy.1.cls ∈ gtbl) ∧ (Cond.code Mx_drowsy.1 Mx_drowsy.2.1 Mx_drowsy.2.2.1 Mx_drowsy.2.2.2.1 ∈ gtbl) ∧ (Mx_drowsy.1.cls ≠ "java/lang/invoke/MethodHandle" ∧ Mx_drowsy.1.cls ≠ "java/lang/invoke/VarHandle" ∧ (parseMethodDescriptor Mx_drowsy.1.desc).map (fun d => d.parameters.length) = some 3) := ⟨k75, k764, by decide +kernel, by decide +kernel, by decide +kernel⟩
theorem k762 : Cond.instanceMethod yX8_drowsy ∈ gtbl := gm 762 (by decide +kernel)
theorem k763 : Cond.selects RX8 yX8_drowsy yX8_drowsy ∈ gtbl := gm 763 (by decide +kernel)
theorem k787 : Cond.code yX8_chalk cX8_chalk 4 (some .int) ∈ gtbl := gm 787 (by decide +kernel)
theorem ck_x_chalk : (Cond.initialized Mx_chalk.1.cls ∈ gtbl) ∧ (Cond.code Mx_chalk.1 Mx_chalk.2.1 Mx_chalk.2.2.1 Mx_chalk.2.2.2.1 ∈ gtbl) ∧ (Mx_chalk.1.cls ≠ "java/lang/invoke/MethodHandle" ∧ Mx_chalk.1.cls ≠ "java/lang/invoke/VarHandle" ∧ (parseMethodDescriptor Mx_chalk.1.desc).map (fun d => d.parameters.length) = some 3) := ⟨k75, k787, by decide +kernel, by decide +kernel, by decide +kernel⟩
theorem k785 : Cond.instanceMethod yX8_chalk ∈ gtbl := gm 785 (by decide +kernel)
theorem k786 : Cond.selects RX8 yX8_chalk yX8_chalk ∈ gtbl := gm 786 (by decide +kernel)
theorem k796 : Cond.code yX8_lies cX8_lies 5 (some .int) ∈ gtbl := gm 796 (by decide +kernel)
theorem ck_x_lies : (Cond.initialized Mx_lies.1.cls ∈ gtbl) ∧ (Cond.code Mx_lies.1 Mx_lies.2.1 Mx_lies.2.2.1 Mx_lies.2.2.2.1 ∈ gtbl) ∧ (Mx_lies.1.cls ≠ "java/lang/invoke/MethodHandle" ∧ Mx_lies.1.cls ≠ "java/lang/invoke/VarHandle" ∧ (parseMethodDescriptor Mx_lies.1.desc).map (fun d => d.parameters.length) = some 0) := ⟨k75, k796, by decide +kernel, by decide +kernel, by decide +kernel⟩
theorem k794 : Cond.instanceMethod yX8_lies ∈ gtbl := gm 794 (by decide +kernel)
theorem k795 : Cond.selects RX8 yX8_lies yX8_lies ∈ gtbl := gm 795 (by decide +kernel)
theorem k801 : Cond.code yX8_scene cX8_scene 2 (some .int) ∈ gtbl := gm 801 (by decide +kernel)
theorem ck_x_scene : (Cond.initialized Mx_scene.1.cls ∈ gtbl) ∧ (Cond.code Mx_scene.1 Mx_scene.2.1 Mx_scene.2.2.1 Mx_scene.2.2.2.1 ∈ gtbl) ∧ (Mx_scene.1.cls ≠ "java/lang/invoke/MethodHandle" ∧ Mx_scene.1.cls ≠ "java/lang/invoke/VarHandle" ∧ (parseMethodDescriptor Mx_scene.1.desc).map (fun d => d.parameters.length) = some 1) := ⟨k75, k801, by decide +kernel, by decide +kernel, by decide +kernel⟩
theorem k799 : Cond.instanceMethod yX8_scene ∈ gtbl := gm 799 (by decide +kernel)
theorem k800 : Cond.selects RX8 yX8_scene yX8_scene ∈ gtbl := gm 800 (by decide +kernel)
theorem k809 : Cond.code yX8_scenes cX8_scenes 5 (some .int) ∈ gtbl := gm 809 (by decide +kernel)
theorem ck_x_scenes : (Cond.initialized Mx_scenes.1.cls ∈ gtbl) ∧ (Cond.code Mx_scenes.1 Mx_scenes.2.1 Mx_scenes.2.2.1 Mx_scenes.2.2.2.1 ∈ gtbl) ∧ (Mx_scenes.1.cls ≠ "java/lang/invoke/MethodHandle" ∧ Mx_scenes.1.cls ≠ "java/lang/invoke/VarHandle" ∧ (parseMethodDescriptor Mx_scenes.1.desc).map (fun d => d.parameters.length) = some 1) := ⟨k75, k809, by decide +kernel, by decide +kernel, by decide +kernel⟩
theorem k807 : Cond.instanceMethod yX8_scenes ∈ gtbl := gm 807 (by decide +kernel)
theorem k808 : Cond.selects RX8 yX8_scenes yX8_scenes ∈ gtbl := gm 808 (by decide +kernel)
theorem k817 : Cond.code yX8_cue cX8_cue 3 (some .int) ∈ gtbl := gm 817 (by decide +kernel)
theorem ck_x_cue : (Cond.initialized Mx_cue.1.cls ∈ gtbl) ∧ (Cond.code Mx_cue.1 Mx_cue.2.1 Mx_cue.2.2.1 Mx_cue.2.2.2.1 ∈ gtbl) ∧ (Mx_cue.1.cls ≠ "java/lang/invoke/MethodHandle" ∧ Mx_cue.1.cls ≠ "java/lang/invoke/VarHandle" ∧ (parseMethodDescriptor Mx_cue.1.desc).map (fun d => d.parameters.length) = some 1) := ⟨k75, k817, by decide +kernel, by decide +kernel, by decide +kernel⟩
theorem k815 : Cond.instanceMethod yX8_cue ∈ gtbl := gm 815 (by decide +kernel)
theorem k816 : Cond.selects RX8 yX8_cue yX8_cue ∈ gtbl := gm 816 (by decide +kernel)
theorem k821 : Cond.code yX8_forget cX8_forget 2 (some .int) ∈ gtbl := gm 821 (by decide +kernel)
theorem ck_x_forget : (Cond.initialized Mx_forget.1.cls ∈ gtbl) ∧ (Cond.code Mx_forget.1 Mx_forget.2.1 Mx_forget.2.2.1 Mx_forget.2.2.2.1 ∈ gtbl) ∧ (Mx_forget.1.cls ≠ "java/lang/invoke/MethodHandle" ∧ Mx_forget.1.cls ≠ "java/lang/invoke/VarHandle" ∧ (parseMethodDescriptor Mx_forget.1.desc).map (fun d => d.parameters.length) = some 1) := ⟨k75, k821, by decide +kernel, by decide +kernel, by decide +kernel⟩
theorem k819 : Cond.instanceMethod yX8_forget ∈ gtbl := gm 819 (by decide +kernel)
theorem k820 : Cond.selects RX8 yX8_forget yX8_forget ∈ gtbl := gm 820 (by decide +kernel)
theorem k833 : Cond.code yX8_sheet cX8_sheet 4 (some .int) ∈ gtbl := gm 833 (by decide +kernel)
theorem ck_x_sheet : (Cond.initialized Mx_sheet.1.cls ∈ gtbl) ∧ (Cond.code Mx_sheet.1 Mx_sheet.2.1 Mx_sheet.2.2.1 Mx_sheet.2.2.2.1 ∈ gtbl) ∧ (Mx_sheet.1.cls ≠ "java/lang/invoke/MethodHandle" ∧ Mx_sheet.1.cls ≠ "java/lang/invoke/VarHandle" ∧ (parseMethodDescriptor Mx_sheet.1.desc).map (fun d => d.parameters.length) = some 3) := ⟨k75, k833, by decide +kernel, by decide +kernel, by decide +kernel⟩
theorem k831 : Cond.instanceMethod yX8_sheet ∈ gtbl := gm 831 (by decide +kernel)
theorem k832 : Cond.selects RX8 yX8_sheet yX8_sheet ∈ gtbl := gm 832 (by decide +kernel)
theorem k845 : Cond.code yX8_lose cX8_lose 3 (some .int) ∈ gtbl := gm 845 (by decide +kernel)
theorem ck_x_lose : (Cond.initialized Mx_lose.1.cls ∈ gtbl) ∧ (Cond.code Mx_lose.1 Mx_lose.2.1 Mx_lose.2.2.1 Mx_lose.2.2.2.1 ∈ gtbl) ∧ (Mx_lose.1.cls ≠ "java/lang/invoke/MethodHandle" ∧ Mx_lose.1.cls ≠ "java/lang/invoke/VarHandle" ∧ (parseMethodDescriptor Mx_lose.1.desc).map (fun d => d.parameters.length) = some 1) := ⟨k75, k845, by decide +kernel, by decide +kernel, by decide +kernel⟩
theorem k843 : Cond.instanceMethod yX8_lose ∈ gtbl := gm 843 (by decide +kernel)
theorem k844 : Cond.selects RX8 yX8_lose yX8_lose ∈ gtbl := gm 844 (by decide +kernel)
theorem k853 : Cond.code yX8_lay cX8_lay 6 (some .int) ∈ gtbl := gm 853 (by decide +kernel)
theorem ck_x_lay : (Cond.initialized Mx_lay.1.cls ∈ gtbl) ∧ (Cond.code Mx_lay.1 Mx_lay.2.1 Mx_lay.2.2.1 Mx_lay.2.2.2.1 ∈ gtbl) ∧ (Mx_lay.1.cls ≠ "java/lang/invoke/MethodHandle" ∧ Mx_lay.1.cls ≠ "java/lang/invoke/VarHandle" ∧ (parseMethodDescriptor Mx_lay.1.desc).map (fun d => d.parameters.length) = some 4) := ⟨k75, k853, by decide +kernel, by decide +kernel, by decide +kernel⟩
theorem k851 : Cond.instanceMethod yX8_lay ∈ gtbl := gm 851 (by decide +kernel)
theorem k852 : Cond.selects RX8 yX8_lay yX8_lay ∈ gtbl := gm 852 (by decide +kernel)
theorem k869 : Cond.code yX8_get cX8_get 5 (some .int) ∈ gtbl := gm 869 (by decide +kernel)
theorem ck_x_get : (Cond.initialized Mx_get.1.cls ∈ gtbl) ∧ (Cond.code Mx_get.1 Mx_get.2.1 Mx_get.2.2.1 Mx_get.2.2.2.1 ∈ gtbl) ∧ (Mx_get.1.cls ≠ "java/lang/invoke/MethodHandle" ∧ Mx_get.1.cls ≠ "java/lang/invoke/VarHandle" ∧ (parseMethodDescriptor Mx_get.1.desc).map (fun d => d.parameters.length) = some 3) := ⟨k75, k869, by decide +kernel, by decide +kernel, by decide +kernel⟩
theorem k867 : Cond.instanceMethod yX8_get ∈ gtbl := gm 867 (by decide +kernel)
theorem k868 : Cond.selects RX8 yX8_get yX8_get ∈ gtbl := gm 868 (by decide +kernel)
theorem k874 : Cond.code yX8_copy cX8_copy 6 (some .int) ∈ gtbl := gm 874 (by decide +kernel)
theorem ck_x_copy : (Cond.initialized Mx_copy.1.cls ∈ gtbl) ∧ (Cond.code Mx_copy.1 Mx_copy.2.1 Mx_copy.2.2.1 Mx_copy.2.2.2.1 ∈ gtbl) ∧ (Mx_copy.1.cls ≠ "java/lang/invoke/MethodHandle" ∧ Mx_copy.1.cls ≠ "java/lang/invoke/VarHandle" ∧ (parseMethodDescriptor Mx_copy.1.desc).map (fun d => d.parameters.length) = some 5) := ⟨k75, k874, by decide +kernel, by decide +kernel, by decide +kernel⟩
theorem k872 : Cond.instanceMethod yX8_copy ∈ gtbl := gm 872 (by decide +kernel)
theorem k873 : Cond.selects RX8 yX8_copy yX8_copy ∈ gtbl := gm 873 (by decide +kernel)
theorem k889 : Cond.code yX8_write cX8_write 6 (some .int) ∈ gtbl := gm 889 (by decide +kernel)
theorem ck_x_write : (Cond.initialized Mx_write.1.cls ∈ gtbl) ∧ (Cond.code Mx_write.1 Mx_write.2.1 Mx_write.2.2.1 Mx_write.2.2.2.1 ∈ gtbl) ∧ (Mx_write.1.cls ≠ "java/lang/invoke/MethodHandle" ∧ Mx_write.1.cls ≠ "java/lang/invoke/VarHandle" ∧ (parseMethodDescriptor Mx_write.1.desc).map (fun d => d.parameters.length) = some 3) := ⟨k75, k889, by decide +kernel, by decide +kernel, by decide +kernel⟩
theorem k887 : Cond.instanceMethod yX8_write ∈ gtbl := gm 887 (by decide +kernel)
theorem k888 : Cond.selects RX8 yX8_write yX8_write ∈ gtbl := gm 888 (by decide +kernel)
theorem k894 : Cond.code yX8_count cX8_count 2 (some .int) ∈ gtbl := gm 894 (by decide +kernel)
theorem ck_x_count : (Cond.initialized Mx_count.1.cls ∈ gtbl) ∧ (Cond.code Mx_count.1 Mx_count.2.1 Mx_count.2.2.1 Mx_count.2.2.2.1 ∈ gtbl) ∧ (Mx_count.1.cls ≠ "java/lang/invoke/MethodHandle" ∧ Mx_count.1.cls ≠ "java/lang/invoke/VarHandle" ∧ (parseMethodDescriptor Mx_count.1.desc).map (fun d => d.parameters.length) = some 1) := ⟨k75, k894, by decide +kernel, by decide +kernel, by decide +kernel⟩
theorem k892 : Cond.instanceMethod yX8_count ∈ gtbl := gm 892 (by decide +kernel)
theorem k893 : Cond.selects RX8 yX8_count yX8_count ∈ gtbl := gm 893 (by decide +kernel)
theorem k912 : Cond.code yX8_digest cX8_digest 4 (some .long) ∈ gtbl := gm 912 (by decide +kernel)
theorem ck_x_digest : (Cond.initialized Mx_digest.1.cls ∈ gtbl) ∧ (Cond.code Mx_digest.1 Mx_digest.2.1 Mx_digest.2.2.1 Mx_digest.2.2.2.1 ∈ gtbl) ∧ (Mx_digest.1.cls ≠ "java/lang/invoke/MethodHandle" ∧ Mx_digest.1.cls ≠ "java/lang/invoke/VarHandle" ∧ (parseMethodDescriptor Mx_digest.1.desc).map (fun d => d.parameters.length) = some 0) := ⟨k75, k912, by decide +kernel, by decide +kernel, by decide +kernel⟩
theorem k910 : Cond.instanceMethod yX8_digest ∈ gtbl := gm 910 (by decide +kernel)
theorem k911 : Cond.selects RX8 yX8_digest yX8_digest ∈ gtbl := gm 911 (by decide +kernel)
theorem k924 : Cond.code yX8_mixPipes cX8_mixPipes 7 (some .long) ∈ gtbl := gm 924 (by decide +kernel)
theorem ck_x_mixPipes : (Cond.initialized Mx_mixPipes.1.cls ∈ gtbl) ∧ (Cond.code Mx_mixPipes.1 Mx_mixPipes.2.1 Mx_mixPipes.2.2.1 Mx_mixPipes.2.2.2.1 ∈ gtbl) ∧ (Mx_mixPipes.1.cls ≠ "java/lang/invoke/MethodHandle" ∧ Mx_mixPipes.1.cls ≠ "java/lang/invoke/VarHandle" ∧ (parseMethodDescriptor Mx_mixPipes.1.desc).map (fun d => d.parameters.length) = some 1) := ⟨k75, k924, by decide +kernel, by decide +kernel, by decide +kernel⟩
theorem k923 : Cond.instanceMethod yX8_mixPipes ∈ gtbl := gm 923 (by decide +kernel)
theorem k29 : Cond.selects RX8 yX8_mixPipes yX8_mixPipes ∈ gtbl := gm 29 (by decide +kernel)
theorem k929 : Cond.code yX8_mixWires cX8_mixWires 6 (some .long) ∈ gtbl := gm 929 (by decide +kernel)
theorem ck_x_mixWires : (Cond.initialized Mx_mixWires.1.cls ∈ gtbl) ∧ (Cond.code Mx_mixWires.1 Mx_mixWires.2.1 Mx_mixWires.2.2.1 Mx_mixWires.2.2.2.1 ∈ gtbl) ∧ (Mx_mixWires.1.cls ≠ "java/lang/invoke/MethodHandle" ∧ Mx_mixWires.1.cls ≠ "java/lang/invoke/VarHandle" ∧ (parseMethodDescriptor Mx_mixWires.1.desc).map (fun d => d.parameters.length) = some 1) := ⟨k75, k929, by decide +kernel, by decide +kernel, by decide +kernel⟩
theorem k928 : Cond.instanceMethod yX8_mixWires ∈ gtbl := gm 928 (by decide +kernel)
theorem k30 : Cond.selects RX8 yX8_mixWires yX8_mixWires ∈ gtbl := gm 30 (by decide +kernel)
theorem k940 : Cond.code yX8_mixEnds cX8_mixEnds 6 (some .long) ∈ gtbl := gm 940 (by decide +kernel)
theorem ck_x_mixEnds : (Cond.initialized Mx_mixEnds.1.cls ∈ gtbl) ∧ (Cond.code Mx_mixEnds.1 Mx_mixEnds.2.1 Mx_mixEnds.2.2.1 Mx_mixEnds.2.2.2.1 ∈ gtbl) ∧ (Mx_mixEnds.1.cls ≠ "java/lang/invoke/MethodHandle" ∧ Mx_mixEnds.1.cls ≠ "java/lang/invoke/VarHandle" ∧ (parseMethodDescriptor Mx_mixEnds.1.desc).map (fun d => d.parameters.length) = some 1) := ⟨k75, k940, by decide +kernel, by decide +kernel, by decide +kernel⟩
theorem k939 : Cond.instanceMethod yX8_mixEnds ∈ gtbl := gm 939 (by decide +kernel)
theorem k31 : Cond.selects RX8 yX8_mixEnds yX8_mixEnds ∈ gtbl := gm 31 (by decide +kernel)
theorem k917 : Cond.code yX8_mix cX8_mix 3 (some .long) ∈ gtbl := gm 917 (by decide +kernel)
theorem ck_x_mix : (Cond.initialized Mx_mix.1.cls ∈ gtbl) ∧ (Cond.code Mx_mix.1 Mx_mix.2.1 Mx_mix.2.2.1 Mx_mix.2.2.2.1 ∈ gtbl) ∧ (Mx_mix.1.cls ≠ "java/lang/invoke/MethodHandle" ∧ Mx_mix.1.cls ≠ "java/lang/invoke/VarHandle" ∧ (parseMethodDescriptor Mx_mix.1.desc).map (fun d => d.parameters.length) = some 2) := ⟨k75, k917, by decide +kernel, by decide +kernel, by decide +kernel⟩
theorem k916 : Cond.static yX8_mix ∈ gtbl := gm 916 (by decide +kernel)
theorem k376 : Cond.code yX8_within cX8_within 3 (some .boolean) ∈ gtbl := gm 376 (by decide +kernel)
theorem ck_x_within : (Cond.initialized Mx_within.1.cls ∈ gtbl) ∧ (Cond.code Mx_within.1 Mx_within.2.1 Mx_within.2.2.1 Mx_within.2.2.2.1 ∈ gtbl) ∧ (Mx_within.1.cls ≠ "java/lang/invoke/MethodHandle" ∧ Mx_within.1.cls ≠ "java/lang/invoke/VarHandle" ∧ (parseMethodDescriptor Mx_within.1.desc).map (fun d => d.parameters.length) = some 3) := ⟨k75, k376, by decide +kernel, by decide +kernel, by decide +kernel⟩
theorem k375 : Cond.static yX8_within ∈ gtbl := gm 375 (by decide +kernel)
theorem k520 : Cond.code yX8_isEnd cX8_isEnd 1 (some .boolean) ∈ gtbl := gm 520 (by decide +kernel)
theorem ck_x_isEnd : (Cond.initialized Mx_isEnd.1.cls ∈ gtbl) ∧ (Cond.code Mx_isEnd.1 Mx_isEnd.2.1 Mx_isEnd.2.2.1 Mx_isEnd.2.2.2.1 ∈ gtbl) ∧ (Mx_isEnd.1.cls ≠ "java/lang/invoke/MethodHandle" ∧ Mx_isEnd.1.cls ≠ "java/lang/invoke/VarHandle" ∧ (parseMethodDescriptor Mx_isEnd.1.desc).map (fun d => d.parameters.length) = some 1) := ⟨k75, k520, by decide +kernel, by decide +kernel, by decide +kernel⟩
theorem k519 : Cond.static yX8_isEnd ∈ gtbl := gm 519 (by decide +kernel)
theorem k517 : Cond.code yX8_areTwoEnds cX8_areTwoEnds 2 (some .boolean) ∈ gtbl := gm 517 (by decide +kernel)
theorem ck_x_areTwoEnds : (Cond.initialized Mx_areTwoEnds.1.cls ∈ gtbl) ∧ (Cond.code Mx_areTwoEnds.1 Mx_areTwoEnds.2.1 Mx_areTwoEnds.2.2.1 Mx_areTwoEnds.2.2.2.1 ∈ gtbl) ∧ (Mx_areTwoEnds.1.cls ≠ "java/lang/invoke/MethodHandle" ∧ Mx_areTwoEnds.1.cls ≠ "java/lang/invoke/VarHandle" ∧ (parseMethodDescriptor Mx_areTwoEnds.1.desc).map (fun d => d.parameters.length) = some 2) := ⟨k75, k517, by decide +kernel, by decide +kernel, by decide +kernel⟩
theorem k516 : Cond.static yX8_areTwoEnds ∈ gtbl := gm 516 (by decide +kernel)
theorem k532 : Cond.code yX8_isWire cX8_isWire 1 (some .boolean) ∈ gtbl := gm 532 (by decide +kernel)
theorem ck_x_isWire : (Cond.initialized Mx_isWire.1.cls ∈ gtbl) ∧ (Cond.code Mx_isWire.1 Mx_isWire.2.1 Mx_isWire.2.2.1 Mx_isWire.2.2.2.1 ∈ gtbl) ∧ (Mx_isWire.1.cls ≠ "java/lang/invoke/MethodHandle" ∧ Mx_isWire.1.cls ≠ "java/lang/invoke/VarHandle" ∧ (parseMethodDescriptor Mx_isWire.1.desc).map (fun d => d.parameters.length) = some 1) := ⟨k75, k532, by decide +kernel, by decide +kernel, by decide +kernel⟩
theorem k531 : Cond.static yX8_isWire ∈ gtbl := gm 531 (by decide +kernel)
theorem k581 : Cond.code yX8_isBehind cX8_isBehind 2 (some .boolean) ∈ gtbl := gm 581 (by decide +kernel)
theorem ck_x_isBehind : (Cond.initialized Mx_isBehind.1.cls ∈ gtbl) ∧ (Cond.code Mx_isBehind.1 Mx_isBehind.2.1 Mx_isBehind.2.2.1 Mx_isBehind.2.2.2.1 ∈ gtbl) ∧ (Mx_isBehind.1.cls ≠ "java/lang/invoke/MethodHandle" ∧ Mx_isBehind.1.cls ≠ "java/lang/invoke/VarHandle" ∧ (parseMethodDescriptor Mx_isBehind.1.desc).map (fun d => d.parameters.length) = some 1) := ⟨k75, k581, by decide +kernel, by decide +kernel, by decide +kernel⟩
theorem k580 : Cond.instanceMethod yX8_isBehind ∈ gtbl := gm 580 (by decide +kernel)
theorem k13 : Cond.selects RX8 yX8_isBehind yX8_isBehind ∈ gtbl := gm 13 (by decide +kernel)
theorem k407 : Cond.code yX8_bit cX8_bit 1 (some .int) ∈ gtbl := gm 407 (by decide +kernel)
theorem ck_x_bit : (Cond.initialized Mx_bit.1.cls ∈ gtbl) ∧ (Cond.code Mx_bit.1 Mx_bit.2.1 Mx_bit.2.2.1 Mx_bit.2.2.2.1 ∈ gtbl) ∧ (Mx_bit.1.cls ≠ "java/lang/invoke/MethodHandle" ∧ Mx_bit.1.cls ≠ "java/lang/invoke/VarHandle" ∧ (parseMethodDescriptor Mx_bit.1.desc).map (fun d => d.parameters.length) = some 1) := ⟨k75, k407, by decide +kernel, by decide +kernel, by decide +kernel⟩
theorem k406 : Cond.static yX8_bit ∈ gtbl := gm 406 (by decide +kernel)
theorem k404 : Cond.code yX8_hasBit cX8_hasBit 2 (some .boolean) ∈ gtbl := gm 404 (by decide +kernel)
theorem ck_x_hasBit : (Cond.initialized Mx_hasBit.1.cls ∈ gtbl) ∧ (Cond.code Mx_hasBit.1 Mx_hasBit.2.1 Mx_hasBit.2.2.1 Mx_hasBit.2.2.2.1 ∈ gtbl) ∧ (Mx_hasBit.1.cls ≠ "java/lang/invoke/MethodHandle" ∧ Mx_hasBit.1.cls ≠ "java/lang/invoke/VarHandle" ∧ (parseMethodDescriptor Mx_hasBit.1.desc).map (fun d => d.parameters.length) = some 2) := ⟨k75, k404, by decide +kernel, by decide +kernel, by decide +kernel⟩
theorem k403 : Cond.static yX8_hasBit ∈ gtbl := gm 403 (by decide +kernel)
theorem k609 : Cond.code yX8_findWay cX8_findWay 3 (some .boolean) ∈ gtbl := gm 609 (by decide +kernel)
theorem ck_x_findWay : (Cond.initialized Mx_findWay.1.cls ∈ gtbl) ∧ (Cond.code Mx_findWay.1 Mx_findWay.2.1 Mx_findWay.2.2.1 Mx_findWay.2.2.2.1 ∈ gtbl) ∧ (Mx_findWay.1.cls ≠ "java/lang/invoke/MethodHandle" ∧ Mx_findWay.1.cls ≠ "java/lang/invoke/VarHandle" ∧ (parseMethodDescriptor Mx_findWay.1.desc).map (fun d => d.parameters.length) = some 2) := ⟨k75, k609, by decide +kernel, by decide +kernel, by decide +kernel⟩
theorem k608 : Cond.instanceMethod yX8_findWay ∈ gtbl := gm 608 (by decide +kernel)
theorem k14 : Cond.selects RX8 yX8_findWay yX8_findWay ∈ gtbl := gm 14 (by decide +kernel)
theorem k813 : Cond.code yX8_burningBehind cX8_burningBehind 2 (some .int) ∈ gtbl := gm 813 (by decide +kernel)
theorem ck_x_burningBehind : (Cond.initialized Mx_burningBehind.1.cls ∈ gtbl) ∧ (Cond.code Mx_burningBehind.1 Mx_burningBehind.2.1 Mx_burningBehind.2.2.1 Mx_burningBehind.2.2.2.1 ∈ gtbl) ∧ (Mx_burningBehind.1.cls ≠ "java/lang/invoke/MethodHandle" ∧ Mx_burningBehind.1.cls ≠ "java/lang/invoke/VarHandle" ∧ (parseMethodDescriptor Mx_burningBehind.1.desc).map (fun d => d.parameters.length) = some 1) := ⟨k75, k813, by decide +kernel, by decide +kernel, by decide +kernel⟩
theorem k812 : Cond.instanceMethod yX8_burningBehind ∈ gtbl := gm 812 (by decide +kernel)
theorem k28 : Cond.selects RX8 yX8_burningBehind yX8_burningBehind ∈ gtbl := gm 28 (by decide +kernel)
theorem k671 : Cond.code yX8_failingDay cX8_failingDay 4 (some .int) ∈ gtbl := gm 671 (by decide +kernel)
theorem ck_x_failingDay : (Cond.initialized Mx_failingDay.1.cls ∈ gtbl) ∧ (Cond.code Mx_failingDay.1 Mx_failingDay.2.1 Mx_failingDay.2.2.1 Mx_failingDay.2.2.2.1 ∈ gtbl) ∧ (Mx_failingDay.1.cls ≠ "java/lang/invoke/MethodHandle" ∧ Mx_failingDay.1.cls ≠ "java/lang/invoke/VarHandle" ∧ (parseMethodDescriptor Mx_failingDay.1.desc).map (fun d => d.parameters.length) = some 2) := ⟨k75, k671, by decide +kernel, by decide +kernel, by decide +kernel⟩
theorem k670 : Cond.instanceMethod yX8_failingDay ∈ gtbl := gm 670 (by decide +kernel)
theorem k19 : Cond.selects RX8 yX8_failingDay yX8_failingDay ∈ gtbl := gm 19 (by decide +kernel)
theorem k85 : Cond.initialized RX9 ∈ gtbl := gm 85 (by decide +kernel)
theorem k1055 : Cond.code yX9_in cX9_in 6 (some .boolean) ∈ gtbl := gm 1055 (by decide +kernel)
theorem ck_m_in : (Cond.initialized Mm_in.1.cls ∈ gtbl) ∧ (Cond.code Mm_in.1 Mm_in.2.1 Mm_in.2.2.1 Mm_in.2.2.2.1 ∈ gtbl) ∧ (Mm_in.1.cls ≠ "java/lang/invoke/MethodHandle" ∧ Mm_in.1.cls ≠ "java/lang/invoke/VarHandle" ∧ (parseMethodDescriptor Mm_in.1.desc).map (fun d => d.parameters.length) = some 3) := ⟨k85, k1055, by decide +kernel, by decide +kernel, by decide +kernel⟩
theorem k1054 : Cond.static yX9_in ∈ gtbl := gm 1054 (by decide +kernel)
theorem k1203 : Cond.code yX9_isTwo cX9_isTwo 1 (some .boolean) ∈ gtbl := gm 1203 (by decide +kernel)
theorem ck_m_isTwo : (Cond.initialized Mm_isTwo.1.cls ∈ gtbl) ∧ (Cond.code Mm_isTwo.1 Mm_isTwo.2.1 Mm_isTwo.2.2.1 Mm_isTwo.2.2.2.1 ∈ gtbl) ∧ (Mm_isTwo.1.cls ≠ "java/lang/invoke/MethodHandle" ∧ Mm_isTwo.1.cls ≠ "java/lang/invoke/VarHandle" ∧ (parseMethodDescriptor Mm_isTwo.1.desc).map (fun d => d.parameters.length) = some 1) := ⟨k85, k1203, by decide +kernel, by decide +kernel, by decide +kernel⟩
theorem k1202 : Cond.static yX9_isTwo ∈ gtbl := gm 1202 (by decide +kernel)
theorem k1180 : Cond.code yX9_isIn cX9_isIn 2 (some .boolean) ∈ gtbl := gm 1180 (by decide +kernel)
theorem ck_m_isIn : (Cond.initialized Mm_isIn.1.cls ∈ gtbl) ∧ (Cond.code Mm_isIn.1 Mm_isIn.2.1 Mm_isIn.2.2.1 Mm_isIn.2.2.2.1 ∈ gtbl) ∧ (Mm_isIn.1.cls ≠ "java/lang/invoke/MethodHandle" ∧ Mm_isIn.1.cls ≠ "java/lang/invoke/VarHandle" ∧ (parseMethodDescriptor Mm_isIn.1.desc).map (fun d => d.parameters.length) = some 2) := ⟨k85, k1180, by decide +kernel, by decide +kernel, by decide +kernel⟩
theorem k1179 : Cond.static yX9_isIn ∈ gtbl := gm 1179 (by decide +kernel)
theorem k1405 : Cond.code yX9_ones cX9_ones 3 (some .int) ∈ gtbl := gm 1405 (by decide +kernel)
theorem ck_m_ones : (Cond.initialized Mm_ones.1.cls ∈ gtbl) ∧ (Cond.code Mm_ones.1 Mm_ones.2.1 Mm_ones.2.2.1 Mm_ones.2.2.2.1 ∈ gtbl) ∧ (Mm_ones.1.cls ≠ "java/lang/invoke/MethodHandle" ∧ Mm_ones.1.cls ≠ "java/lang/invoke/VarHandle" ∧ (parseMethodDescriptor Mm_ones.1.desc).map (fun d => d.parameters.length) = some 1) := ⟨k85, k1405, by decide +kernel, by decide +kernel, by decide +kernel⟩
theorem k1404 : Cond.static yX9_ones ∈ gtbl := gm 1404 (by decide +kernel)
theorem k1060 : Cond.code yX9_finds cX9_finds 2 (some .int) ∈ gtbl := gm 1060 (by decide +kernel)
theorem ck_m_finds : (Cond.initialized Mm_finds.1.cls ∈ gtbl) ∧ (Cond.code Mm_finds.1 Mm_finds.2.1 Mm_finds.2.2.1 Mm_finds.2.2.2.1 ∈ gtbl) ∧ (Mm_finds.1.cls ≠ "java/lang/invoke/MethodHandle" ∧ Mm_finds.1.cls ≠ "java/lang/invoke/VarHandle" ∧ (parseMethodDescriptor Mm_finds.1.desc).map (fun d => d.parameters.length) = some 1) := ⟨k85, k1060, by decide +kernel, by decide +kernel, by decide +kernel⟩
theorem k1059 : Cond.instanceMethod yX9_finds ∈ gtbl := gm 1059 (by decide +kernel)
theorem k32 : Cond.selects RX9 yX9_finds yX9_finds ∈ gtbl := gm 32 (by decide +kernel)
theorem k1051 : Cond.code yX9_isSheet cX9_isSheet 1 (some .boolean) ∈ gtbl := gm 1051 (by decide +kernel)
theorem ck_m_isSheet : (Cond.initialized Mm_isSheet.1.cls ∈ gtbl) ∧ (Cond.code Mm_isSheet.1 Mm_isSheet.2.1 Mm_isSheet.2.2.1 Mm_isSheet.2.2.2.1 ∈ gtbl) ∧ (Mm_isSheet.1.cls ≠ "java/lang/invoke/MethodHandle" ∧ Mm_isSheet.1.cls ≠ "java/lang/invoke/VarHandle" ∧ (parseMethodDescriptor Mm_isSheet.1.desc).map (fun d => d.parameters.length) = some 1) := ⟨k85, k1051, by decide +kernel, by decide +kernel, by decide +kernel⟩
theorem k1050 : Cond.static yX9_isSheet ∈ gtbl := gm 1050 (by decide +kernel)
theorem k1048 : Cond.code yX9_sheet cX9_sheet 5 (some .int) ∈ gtbl := gm 1048 (by decide +kernel)
theorem ck_m_sheet : (Cond.initialized Mm_sheet.1.cls ∈ gtbl) ∧ (Cond.code Mm_sheet.1 Mm_sheet.2.1 Mm_sheet.2.2.1 Mm_sheet.2.2.2.1 ∈ gtbl) ∧ (Mm_sheet.1.cls ≠ "java/lang/invoke/MethodHandle" ∧ Mm_sheet.1.cls ≠ "java/lang/invoke/VarHandle" ∧ (parseMethodDescriptor Mm_sheet.1.desc).map (fun d => d.parameters.length) = some 3) := ⟨k85, k1048, by decide +kernel, by decide +kernel, by decide +kernel⟩
theorem k1046 : Cond.instanceMethod yX9_sheet ∈ gtbl := gm 1046 (by decide +kernel)
theorem k1047 : Cond.selects RX9 yX9_sheet yX9_sheet ∈ gtbl := gm 1047 (by decide +kernel)
theorem k1064 : Cond.code yX9_lose cX9_lose 2 (some .int) ∈ gtbl := gm 1064 (by decide +kernel)
theorem ck_m_lose : (Cond.initialized Mm_lose.1.cls ∈ gtbl) ∧ (Cond.code Mm_lose.1 Mm_lose.2.1 Mm_lose.2.2.1 Mm_lose.2.2.2.1 ∈ gtbl) ∧ (Mm_lose.1.cls ≠ "java/lang/invoke/MethodHandle" ∧ Mm_lose.1.cls ≠ "java/lang/invoke/VarHandle" ∧ (parseMethodDescriptor Mm_lose.1.desc).map (fun d => d.parameters.length) = some 1) := ⟨k85, k1064, by decide +kernel, by decide +kernel, by decide +kernel⟩
theorem k1062 : Cond.instanceMethod yX9_lose ∈ gtbl := gm 1062 (by decide +kernel)
theorem k1063 : Cond.selects RX9 yX9_lose yX9_lose ∈ gtbl := gm 1063 (by decide +kernel)
theorem k1072 : Cond.code yX9_lacks cX9_lacks 4 (some .int) ∈ gtbl := gm 1072 (by decide +kernel)
theorem ck_m_lacks : (Cond.initialized Mm_lacks.1.cls ∈ gtbl) ∧ (Cond.code Mm_lacks.1 Mm_lacks.2.1 Mm_lacks.2.2.1 Mm_lacks.2.2.2.1 ∈ gtbl) ∧ (Mm_lacks.1.cls ≠ "java/lang/invoke/MethodHandle" ∧ Mm_lacks.1.cls ≠ "java/lang/invoke/VarHandle" ∧ (parseMethodDescriptor Mm_lacks.1.desc).map (fun d => d.parameters.length) = some 3) := ⟨k85, k1072, by decide +kernel, by decide +kernel, by decide +kernel⟩
theorem k1071 : Cond.instanceMethod yX9_lacks ∈ gtbl := gm 1071 (by decide +kernel)
theorem k33 : Cond.selects RX9 yX9_lacks yX9_lacks ∈ gtbl := gm 33 (by decide +kernel)
theorem k1075 : Cond.code yX9_cut cX9_cut 2 (some .int) ∈ gtbl := gm 1075 (by decide +kernel)
theorem ck_m_cut : (Cond.initialized Mm_cut.1.cls ∈ gtbl) ∧ (Cond.code Mm_cut.1 Mm_cut.2.1 Mm_cut.2.2.1 Mm_cut.2.2.2.1 ∈ gtbl) ∧ (Mm_cut.1.cls ≠ "java/lang/invoke/MethodHandle" ∧ Mm_cut.1.cls ≠ "java/lang/invoke/VarHandle" ∧ (parseMethodDescriptor Mm_cut.1.desc).map (fun d => d.parameters.length) = some 2) := ⟨k85, k1075, by decide +kernel, by decide +kernel, by decide +kernel⟩
theorem k1074 : Cond.static yX9_cut ∈ gtbl := gm 1074 (by decide +kernel)
theorem k1068 : Cond.code yX9_lay cX9_lay 6 (some .int) ∈ gtbl := gm 1068 (by decide +kernel)
theorem ck_m_lay : (Cond.initialized Mm_lay.1.cls ∈ gtbl) ∧ (Cond.code Mm_lay.1 Mm_lay.2.1 Mm_lay.2.2.1 Mm_lay.2.2.2.1 ∈ gtbl) ∧ (Mm_lay.1.cls ≠ "java/lang/invoke/MethodHandle" ∧ Mm_lay.1.cls ≠ "java/lang/invoke/VarHandle" ∧ (parseMethodDescriptor Mm_lay.1.desc).map (fun d => d.parameters.length) = some 4) := ⟨k85, k1068, by decide +kernel, by decide +kernel, by decide +kernel⟩
theorem k1066 : Cond.instanceMethod yX9_lay ∈ gtbl := gm 1066 (by decide +kernel)
theorem k1067 : Cond.selects RX9 yX9_lay yX9_lay ∈ gtbl := gm 1067 (by decide +kernel)
theorem k1079 : Cond.code yX9_get cX9_get 4 (some .int) ∈ gtbl := gm 1079 (by decide +kernel)
theorem ck_m_get : (Cond.initialized Mm_get.1.cls ∈ gtbl) ∧ (Cond.code Mm_get.1 Mm_get.2.1 Mm_get.2.2.1 Mm_get.2.2.2.1 ∈ gtbl) ∧ (Mm_get.1.cls ≠ "java/lang/invoke/MethodHandle" ∧ Mm_get.1.cls ≠ "java/lang/invoke/VarHandle" ∧ (parseMethodDescriptor Mm_get.1.desc).map (fun d => d.parameters.length) = some 3) := ⟨k85, k1079, by decide +kernel, by decide +kernel, by decide +kernel⟩
theorem k1077 : Cond.instanceMethod yX9_get ∈ gtbl := gm 1077 (by decide +kernel)
theorem k1078 : Cond.selects RX9 yX9_get yX9_get ∈ gtbl := gm 1078 (by decide +kernel)
theorem k1084 : Cond.code yX9_copy cX9_copy 7 (some .int) ∈ gtbl := gm 1084 (by decide +kernel)
theorem ck_m_copy : (Cond.initialized Mm_copy.1.cls ∈ gtbl) ∧ (Cond.code Mm_copy.1 Mm_copy.2.1 Mm_copy.2.2.1 Mm_copy.2.2.2.1 ∈ gtbl) ∧ (Mm_copy.1.cls ≠ "java/lang/invoke/MethodHandle" ∧ Mm_copy.1.cls ≠ "java/lang/invoke/VarHandle" ∧ (parseMethodDescriptor Mm_copy.1.desc).map (fun d => d.parameters.length) = some 5) := ⟨k85, k1084, by decide +kernel, by decide +kernel, by decide +kernel⟩
theorem k1082 : Cond.instanceMethod yX9_copy ∈ gtbl := gm 1082 (by decide +kernel)
theorem k1083 : Cond.selects RX9 yX9_copy yX9_copy ∈ gtbl := gm 1083 (by decide +kernel)
theorem k1088 : Cond.code yX9_type cX9_type 2 (some .int) ∈ gtbl := gm 1088 (by decide +kernel)
theorem ck_m_type : (Cond.initialized Mm_type.1.cls ∈ gtbl) ∧ (Cond.code Mm_type.1 Mm_type.2.1 Mm_type.2.2.1 Mm_type.2.2.2.1 ∈ gtbl) ∧ (Mm_type.1.cls ≠ "java/lang/invoke/MethodHandle" ∧ Mm_type.1.cls ≠ "java/lang/invoke/VarHandle" ∧ (parseMethodDescriptor Mm_type.1.desc).map (fun d => d.parameters.length) = some 1) := ⟨k85, k1088, by decide +kernel, by decide +kernel, by decide +kernel⟩
theorem k1086 : Cond.instanceMethod yX9_type ∈ gtbl := gm 1086 (by decide +kernel)
theorem k1087 : Cond.selects RX9 yX9_type yX9_type ∈ gtbl := gm 1087 (by decide +kernel)
theorem k1093 : Cond.code yX9_wipe cX9_wipe 2 (some .int) ∈ gtbl := gm 1093 (by decide +kernel)
theorem ck_m_wipe : (Cond.initialized Mm_wipe.1.cls ∈ gtbl) ∧ (Cond.code Mm_wipe.1 Mm_wipe.2.1 Mm_wipe.2.2.1 Mm_wipe.2.2.2.1 ∈ gtbl) ∧ (Mm_wipe.1.cls ≠ "java/lang/invoke/MethodHandle" ∧ Mm_wipe.1.cls ≠ "java/lang/invoke/VarHandle" ∧ (parseMethodDescriptor Mm_wipe.1.desc).map (fun d => d.parameters.length) = some 0) := ⟨k85, k1093, by decide +kernel, by decide +kernel, by decide +kernel⟩
theorem k1091 : Cond.instanceMethod yX9_wipe ∈ gtbl := gm 1091 (by decide +kernel)
theorem k1092 : Cond.selects RX9 yX9_wipe yX9_wipe ∈ gtbl := gm 1092 (by decide +kernel)
theorem k1105 : Cond.code yX9_readsPipe cX9_readsPipe 4 (some .boolean) ∈ gtbl := gm 1105 (by decide +kernel)
theorem ck_m_readsPipe : (Cond.initialized Mm_readsPipe.1.cls ∈ gtbl) ∧ (Cond.code Mm_readsPipe.1 Mm_readsPipe.2.1 Mm_readsPipe.2.2.1 Mm_readsPipe.2.2.2.1 ∈ gtbl) ∧ (Mm_readsPipe.1.cls ≠ "java/lang/invoke/MethodHandle" ∧ Mm_readsPipe.1.cls ≠ "java/lang/invoke/VarHandle" ∧ (parseMethodDescriptor Mm_readsPipe.1.desc).map (fun d => d.parameters.length) = some 0) := ⟨k85, k1105, by decide +kernel, by decide +kernel, by decide +kernel⟩
theorem k1104 : Cond.instanceMethod yX9_readsPipe ∈ gtbl := gm 1104 (by decide +kernel)
theorem k35 : Cond.selects RX9 yX9_readsPipe yX9_readsPipe ∈ gtbl := gm 35 (by decide +kernel)
theorem k1101 : Cond.code yX9_reads cX9_reads 3 (some .int) ∈ gtbl := gm 1101 (by decide +kernel)
theorem ck_m_reads : (Cond.initialized Mm_reads.1.cls ∈ gtbl) ∧ (Cond.code Mm_reads.1 Mm_reads.2.1 Mm_reads.2.2.1 Mm_reads.2.2.2.1 ∈ gtbl) ∧ (Mm_reads.1.cls ≠ "java/lang/invoke/MethodHandle" ∧ Mm_reads.1.cls ≠ "java/lang/invoke/VarHandle" ∧ (parseMethodDescriptor Mm_reads.1.desc).map (fun d => d.parameters.length) = some 0) := ⟨k85, k1101, by decide +kernel, by decide +kernel, by decide +kernel⟩
theorem k1100 : Cond.instanceMethod yX9_reads ∈ gtbl := gm 1100 (by decide +kernel)
theorem k34 : Cond.selects RX9 yX9_reads yX9_reads ∈ gtbl := gm 34 (by decide +kernel)
theorem k1097 : Cond.code yX9_fault cX9_fault 1 (some .int) ∈ gtbl := gm 1097 (by decide +kernel)
theorem ck_m_fault : (Cond.initialized Mm_fault.1.cls ∈ gtbl) ∧ (Cond.code Mm_fault.1 Mm_fault.2.1 Mm_fault.2.2.1 Mm_fault.2.2.2.1 ∈ gtbl) ∧ (Mm_fault.1.cls ≠ "java/lang/invoke/MethodHandle" ∧ Mm_fault.1.cls ≠ "java/lang/invoke/VarHandle" ∧ (parseMethodDescriptor Mm_fault.1.desc).map (fun d => d.parameters.length) = some 0) := ⟨k85, k1097, by decide +kernel, by decide +kernel, by decide +kernel⟩
theorem k1095 : Cond.instanceMethod yX9_fault ∈ gtbl := gm 1095 (by decide +kernel)
theorem k1096 : Cond.selects RX9 yX9_fault yX9_fault ∈ gtbl := gm 1096 (by decide +kernel)
theorem k1111 : Cond.code yX9_undo cX9_undo 1 (some .int) ∈ gtbl := gm 1111 (by decide +kernel)
theorem ck_m_undo : (Cond.initialized Mm_undo.1.cls ∈ gtbl) ∧ (Cond.code Mm_undo.1 Mm_undo.2.1 Mm_undo.2.2.1 Mm_undo.2.2.2.1 ∈ gtbl) ∧ (Mm_undo.1.cls ≠ "java/lang/invoke/MethodHandle" ∧ Mm_undo.1.cls ≠ "java/lang/invoke/VarHandle" ∧ (parseMethodDescriptor Mm_undo.1.desc).map (fun d => d.parameters.length) = some 0) := ⟨k85, k1111, by decide +kernel, by decide +kernel, by decide +kernel⟩
theorem k1109 : Cond.instanceMethod yX9_undo ∈ gtbl := gm 1109 (by decide +kernel)
theorem k1110 : Cond.selects RX9 yX9_undo yX9_undo ∈ gtbl := gm 1110 (by decide +kernel)
theorem k1115 : Cond.code yX9_set cX9_set 4 (some .int) ∈ gtbl := gm 1115 (by decide +kernel)
theorem ck_m_set : (Cond.initialized Mm_set.1.cls ∈ gtbl) ∧ (Cond.code Mm_set.1 Mm_set.2.1 Mm_set.2.2.1 Mm_set.2.2.2.1 ∈ gtbl) ∧ (Mm_set.1.cls ≠ "java/lang/invoke/MethodHandle" ∧ Mm_set.1.cls ≠ "java/lang/invoke/VarHandle" ∧ (parseMethodDescriptor Mm_set.1.desc).map (fun d => d.parameters.length) = some 2) := ⟨k85, k1115, by decide +kernel, by decide +kernel, by decide +kernel⟩
theorem k1113 : Cond.instanceMethod yX9_set ∈ gtbl := gm 1113 (by decide +kernel)
theorem k1114 : Cond.selects RX9 yX9_set yX9_set ∈ gtbl := gm 1114 (by decide +kernel)
theorem k1128 : Cond.code yX9_isEnd cX9_isEnd 1 (some .boolean) ∈ gtbl := gm 1128 (by decide +kernel)
theorem ck_m_isEnd : (Cond.initialized Mm_isEnd.1.cls ∈ gtbl) ∧ (Cond.code Mm_isEnd.1 Mm_isEnd.2.1 Mm_isEnd.2.2.1 Mm_isEnd.2.2.2.1 ∈ gtbl) ∧ (Mm_isEnd.1.cls ≠ "java/lang/invoke/MethodHandle" ∧ Mm_isEnd.1.cls ≠ "java/lang/invoke/VarHandle" ∧ (parseMethodDescriptor Mm_isEnd.1.desc).map (fun d => d.parameters.length) = some 1) := ⟨k85, k1128, by decide +kernel, by decide +kernel, by decide +kernel⟩
theorem k1127 : Cond.static yX9_isEnd ∈ gtbl := gm 1127 (by decide +kernel)
theorem k1139 : Cond.code yX9_isWire cX9_isWire 1 (some .boolean) ∈ gtbl := gm 1139 (by decide +kernel)
theorem ck_m_isWire : (Cond.initialized Mm_isWire.1.cls ∈ gtbl) ∧ (Cond.code Mm_isWire.1 Mm_isWire.2.1 Mm_isWire.2.2.1 Mm_isWire.2.2.2.1 ∈ gtbl) ∧ (Mm_isWire.1.cls ≠ "java/lang/invoke/MethodHandle" ∧ Mm_isWire.1.cls ≠ "java/lang/invoke/VarHandle" ∧ (parseMethodDescriptor Mm_isWire.1.desc).map (fun d => d.parameters.length) = some 1) := ⟨k85, k1139, by decide +kernel, by decide +kernel, by decide +kernel⟩
theorem k1138 : Cond.static yX9_isWire ∈ gtbl := gm 1138 (by decide +kernel)
theorem k1125 : Cond.code yX9_areEnds cX9_areEnds 2 (some .boolean) ∈ gtbl := gm 1125 (by decide +kernel)
theorem ck_m_areEnds : (Cond.initialized Mm_areEnds.1.cls ∈ gtbl) ∧ (Cond.code Mm_areEnds.1 Mm_areEnds.2.1 Mm_areEnds.2.2.1 Mm_areEnds.2.2.2.1 ∈ gtbl) ∧ (Mm_areEnds.1.cls ≠ "java/lang/invoke/MethodHandle" ∧ Mm_areEnds.1.cls ≠ "java/lang/invoke/VarHandle" ∧ (parseMethodDescriptor Mm_areEnds.1.desc).map (fun d => d.parameters.length) = some 2) := ⟨k85, k1125, by decide +kernel, by decide +kernel, by decide +kernel⟩
theorem k1124 : Cond.static yX9_areEnds ∈ gtbl := gm 1124 (by decide +kernel)
theorem k1132 : Cond.code yX9_more cX9_more 3 (some .int) ∈ gtbl := gm 1132 (by decide +kernel)
theorem ck_m_more : (Cond.initialized Mm_more.1.cls ∈ gtbl) ∧ (Cond.code Mm_more.1 Mm_more.2.1 Mm_more.2.2.1 Mm_more.2.2.2.1 ∈ gtbl) ∧ (Mm_more.1.cls ≠ "java/lang/invoke/MethodHandle" ∧ Mm_more.1.cls ≠ "java/lang/invoke/VarHandle" ∧ (parseMethodDescriptor Mm_more.1.desc).map (fun d => d.parameters.length) = some 2) := ⟨k85, k1132, by decide +kernel, by decide +kernel, by decide +kernel⟩
theorem k1131 : Cond.instanceMethod yX9_more ∈ gtbl := gm 1131 (by decide +kernel)
theorem k36 : Cond.selects RX9 yX9_more yX9_more ∈ gtbl := gm 36 (by decide +kernel)
theorem k1122 : Cond.code yX9_letIn cX9_letIn 3 (some .int) ∈ gtbl := gm 1122 (by decide +kernel)
theorem ck_m_letIn : (Cond.initialized Mm_letIn.1.cls ∈ gtbl) ∧ (Cond.code Mm_letIn.1 Mm_letIn.2.1 Mm_letIn.2.2.1 Mm_letIn.2.2.2.1 ∈ gtbl) ∧ (Mm_letIn.1.cls ≠ "java/lang/invoke/MethodHandle" ∧ Mm_letIn.1.cls ≠ "java/lang/invoke/VarHandle" ∧ (parseMethodDescriptor Mm_letIn.1.desc).map (fun d => d.parameters.length) = some 2) := ⟨k85, k1122, by decide +kernel, by decide +kernel, by decide +kernel⟩
theorem k1120 : Cond.instanceMethod yX9_letIn ∈ gtbl := gm 1120 (by decide +kernel)
theorem k1121 : Cond.selects RX9 yX9_letIn yX9_letIn ∈ gtbl := gm 1121 (by decide +kernel)
theorem k1136 : Cond.code yX9_pull cX9_pull 2 (some .int) ∈ gtbl := gm 1136 (by decide +kernel)
theorem ck_m_pull : (Cond.initialized Mm_pull.1.cls ∈ gtbl) ∧ (Cond.code Mm_pull.1 Mm_pull.2.1 Mm_pull.2.2.1 Mm_pull.2.2.2.1 ∈ gtbl) ∧ (Mm_pull.1.cls ≠ "java/lang/invoke/MethodHandle" ∧ Mm_pull.1.cls ≠ "java/lang/invoke/VarHandle" ∧ (parseMethodDescriptor Mm_pull.1.desc).map (fun d => d.parameters.length) = some 1) := ⟨k85, k1136, by decide +kernel, by decide +kernel, by decide +kernel⟩
theorem k1134 : Cond.instanceMethod yX9_pull ∈ gtbl := gm 1134 (by decide +kernel)
theorem k1135 : Cond.selects RX9 yX9_pull yX9_pull ∈ gtbl := gm 1135 (by decide +kernel)
theorem k1144 : Cond.code yX9_back cX9_back 1 (some .int) ∈ gtbl := gm 1144 (by decide +kernel)
theorem ck_m_back : (Cond.initialized Mm_back.1.cls ∈ gtbl) ∧ (Cond.code Mm_back.1 Mm_back.2.1 Mm_back.2.2.1 Mm_back.2.2.2.1 ∈ gtbl) ∧ (Mm_back.1.cls ≠ "java/lang/invoke/MethodHandle" ∧ Mm_back.1.cls ≠ "java/lang/invoke/VarHandle" ∧ (parseMethodDescriptor Mm_back.1.desc).map (fun d => d.parameters.length) = some 0) := ⟨k85, k1144, by decide +kernel, by decide +kernel, by decide +kernel⟩
theorem k1142 : Cond.instanceMethod yX9_back ∈ gtbl := gm 1142 (by decide +kernel)
theorem k1143 : Cond.selects RX9 yX9_back yX9_back ∈ gtbl := gm 1143 (by decide +kernel)
theorem k1148 : Cond.code yX9_read cX9_read 4 (some .int) ∈ gtbl := gm 1148 (by decide +kernel)
theorem ck_m_read : (Cond.initialized Mm_read.1.cls ∈ gtbl) ∧ (Cond.code Mm_read.1 Mm_read.2.1 Mm_read.2.2.1 Mm_read.2.2.2.1 ∈ gtbl) ∧ (Mm_read.1.cls ≠ "java/lang/invoke/MethodHandle" ∧ Mm_read.1.cls ≠ "java/lang/invoke/VarHandle" ∧ (parseMethodDescriptor Mm_read.1.desc).map (fun d => d.parameters.length) = some 1) := ⟨k85, k1148, by decide +kernel, by decide +kernel, by decide +kernel⟩
theorem k1146 : Cond.instanceMethod yX9_read ∈ gtbl := gm 1146 (by decide +kernel)
theorem k1147 : Cond.selects RX9 yX9_read yX9_read ∈ gtbl := gm 1147 (by decide +kernel)
theorem k1184 : Cond.code yX9_other cX9_other 3 (some .int) ∈ gtbl := gm 1184 (by decide +kernel)
theorem ck_m_other : (Cond.initialized Mm_other.1.cls ∈ gtbl) ∧ (Cond.code Mm_other.1 Mm_other.2.1 Mm_other.2.2.1 Mm_other.2.2.2.1 ∈ gtbl) ∧ (Mm_other.1.cls ≠ "java/lang/invoke/MethodHandle" ∧ Mm_other.1.cls ≠ "java/lang/invoke/VarHandle" ∧ (parseMethodDescriptor Mm_other.1.desc).map (fun d => d.parameters.length) = some 2) := ⟨k85, k1184, by decide +kernel, by decide +kernel, by decide +kernel⟩
theorem k1183 : Cond.instanceMethod yX9_other ∈ gtbl := gm 1183 (by decide +kernel)
theorem k43 : Cond.selects RX9 yX9_other yX9_other ∈ gtbl := gm 43 (by decide +kernel)
theorem k1177 : Cond.code yX9_isOpen cX9_isOpen 2 (some .boolean) ∈ gtbl := gm 1177 (by decide +kernel)
theorem ck_m_isOpen : (Cond.initialized Mm_isOpen.1.cls ∈ gtbl) ∧ (Cond.code Mm_isOpen.1 Mm_isOpen.2.1 Mm_isOpen.2.2.1 Mm_isOpen.2.2.2.1 ∈ gtbl) ∧ (Mm_isOpen.1.cls ≠ "java/lang/invoke/MethodHandle" ∧ Mm_isOpen.1.cls ≠ "java/lang/invoke/VarHandle" ∧ (parseMethodDescriptor Mm_isOpen.1.desc).map (fun d => d.parameters.length) = some 1) := ⟨k85, k1177, by decide +kernel, by decide +kernel, by decide +kernel⟩
theorem k1176 : Cond.instanceMethod yX9_isOpen ∈ gtbl := gm 1176 (by decide +kernel)
theorem k42 : Cond.selects RX9 yX9_isOpen yX9_isOpen ∈ gtbl := gm 42 (by decide +kernel)
theorem k1173 : Cond.code yX9_findFar cX9_findFar 7 none ∈ gtbl := gm 1173 (by decide +kernel)
theorem ck_m_findFar : (Cond.initialized Mm_findFar.1.cls ∈ gtbl) ∧ (Cond.code Mm_findFar.1 Mm_findFar.2.1 Mm_findFar.2.2.1 Mm_findFar.2.2.2.1 ∈ gtbl) ∧ (Mm_findFar.1.cls ≠ "java/lang/invoke/MethodHandle" ∧ Mm_findFar.1.cls ≠ "java/lang/invoke/VarHandle" ∧ (parseMethodDescriptor Mm_findFar.1.desc).map (fun d => d.parameters.length) = some 1) := ⟨k85, k1173, by decide +kernel, by decide +kernel, by decide +kernel⟩
theorem k1172 : Cond.instanceMethod yX9_findFar ∈ gtbl := gm 1172 (by decide +kernel)
theorem k41 : Cond.selects RX9 yX9_findFar yX9_findFar ∈ gtbl := gm 41 (by decide +kernel)
theorem k1169 : Cond.code yX9_findWay cX9_findWay 8 (some .int) ∈ gtbl := gm 1169 (by decide +kernel)
theorem ck_m_findWay : (Cond.initialized Mm_findWay.1.cls ∈ gtbl) ∧ (Cond.code Mm_findWay.1 Mm_findWay.2.1 Mm_findWay.2.2.1 Mm_findWay.2.2.2.1 ∈ gtbl) ∧ (Mm_findWay.1.cls ≠ "java/lang/invoke/MethodHandle" ∧ Mm_findWay.1.cls ≠ "java/lang/invoke/VarHandle" ∧ (parseMethodDescriptor Mm_findWay.1.desc).map (fun d => d.parameters.length) = some 2) := ⟨k85, k1169, by decide +kernel, by decide +kernel, by decide +kernel⟩
theorem k1168 : Cond.instanceMethod yX9_findWay ∈ gtbl := gm 1168 (by decide +kernel)
theorem k40 : Cond.selects RX9 yX9_findWay yX9_findWay ∈ gtbl := gm 40 (by decide +kernel)
theorem k1165 : Cond.code yX9_draws cX9_draws 6 (some .int) ∈ gtbl := gm 1165 (by decide +kernel)
theorem ck_m_draws : (Cond.initialized Mm_draws.1.cls ∈ gtbl) ∧ (Cond.code Mm_draws.1 Mm_draws.2.1 Mm_draws.2.2.1 Mm_draws.2.2.2.1 ∈ gtbl) ∧ (Mm_draws.1.cls ≠ "java/lang/invoke/MethodHandle" ∧ Mm_draws.1.cls ≠ "java/lang/invoke/VarHandle" ∧ (parseMethodDescriptor Mm_draws.1.desc).map (fun d => d.parameters.length) = some 2) := ⟨k85, k1165, by decide +kernel, by decide +kernel, by decide +kernel⟩
theorem k1164 : Cond.instanceMethod yX9_draws ∈ gtbl := gm 1164 (by decide +kernel)
theorem k39 : Cond.selects RX9 yX9_draws yX9_draws ∈ gtbl := gm 39 (by decide +kernel)
theorem k1188 : Cond.code yX9_canPull cX9_canPull 4 (some .boolean) ∈ gtbl := gm 1188 (by decide +kernel)
theorem ck_m_canPull : (Cond.initialized Mm_canPull.1.cls ∈ gtbl) ∧ (Cond.code Mm_canPull.1 Mm_canPull.2.1 Mm_canPull.2.2.1 Mm_canPull.2.2.2.1 ∈ gtbl) ∧ (Mm_canPull.1.cls ≠ "java/lang/invoke/MethodHandle" ∧ Mm_canPull.1.cls ≠ "java/lang/invoke/VarHandle" ∧ (parseMethodDescriptor Mm_canPull.1.desc).map (fun d => d.parameters.length) = some 1) := ⟨k85, k1188, by decide +kernel, by decide +kernel, by decide +kernel⟩
theorem k1187 : Cond.instanceMethod yX9_canPull ∈ gtbl := gm 1187 (by decide +kernel)
theorem k44 : Cond.selects RX9 yX9_canPull yX9_canPull ∈ gtbl := gm 44 (by decide +kernel)
theorem k1192 : Cond.code yX9_pulls cX9_pulls 3 none ∈ gtbl := gm 1192 (by decide +kernel)
theorem ck_m_pulls : (Cond.initialized Mm_pulls.1.cls ∈ gtbl) ∧ (Cond.code Mm_pulls.1 Mm_pulls.2.1 Mm_pulls.2.2.1 Mm_pulls.2.2.2.1 ∈ gtbl) ∧ (Mm_pulls.1.cls ≠ "java/lang/invoke/MethodHandle" ∧ Mm_pulls.1.cls ≠ "java/lang/invoke/VarHandle" ∧ (parseMethodDescriptor Mm_pulls.1.desc).map (fun d => d.parameters.length) = some 1) := ⟨k85, k1192, by decide +kernel, by decide +kernel, by decide +kernel⟩
theorem k1191 : Cond.instanceMethod yX9_pulls ∈ gtbl := gm 1191 (by decide +kernel)
theorem k45 : Cond.selects RX9 yX9_pulls yX9_pulls ∈ gtbl := gm 45 (by decide +kernel)
theorem k1161 : Cond.code yX9_goes cX9_goes 4 none ∈ gtbl := gm 1161 (by decide +kernel)
theorem ck_m_goes : (Cond.initialized Mm_goes.1.cls ∈ gtbl) ∧ (Cond.code Mm_goes.1 Mm_goes.2.1 Mm_goes.2.2.1 Mm_goes.2.2.2.1 ∈ gtbl) ∧ (Mm_goes.1.cls ≠ "java/lang/invoke/MethodHandle" ∧ Mm_goes.1.cls ≠ "java/lang/invoke/VarHandle" ∧ (parseMethodDescriptor Mm_goes.1.desc).map (fun d => d.parameters.length) = some 1) := ⟨k85, k1161, by decide +kernel, by decide +kernel, by decide +kernel⟩
theorem k1160 : Cond.instanceMethod yX9_goes ∈ gtbl := gm 1160 (by decide +kernel)
theorem k38 : Cond.selects RX9 yX9_goes yX9_goes ∈ gtbl := gm 38 (by decide +kernel)
theorem k1157 : Cond.code yX9_goesAll cX9_goesAll 1 none ∈ gtbl := gm 1157 (by decide +kernel)
theorem ck_m_goesAll : (Cond.initialized Mm_goesAll.1.cls ∈ gtbl) ∧ (Cond.code Mm_goesAll.1 Mm_goesAll.2.1 Mm_goesAll.2.2.1 Mm_goesAll.2.2.2.1 ∈ gtbl) ∧ (Mm_goesAll.1.cls ≠ "java/lang/invoke/MethodHandle" ∧ Mm_goesAll.1.cls ≠ "java/lang/invoke/VarHandle" ∧ (parseMethodDescriptor Mm_goesAll.1.desc).map (fun d => d.parameters.length) = some 0) := ⟨k85, k1157, by decide +kernel, by decide +kernel, by decide +kernel⟩
theorem k1156 : Cond.instanceMethod yX9_goesAll ∈ gtbl := gm 1156 (by decide +kernel)
theorem k37 : Cond.selects RX9 yX9_goesAll yX9_goesAll ∈ gtbl := gm 37 (by decide +kernel)
theorem k1153 : Cond.code yX9_pipe cX9_pipe 3 (some .int) ∈ gtbl := gm 1153 (by decide +kernel)
theorem ck_m_pipe : (Cond.initialized Mm_pipe.1.cls ∈ gtbl) ∧ (Cond.code Mm_pipe.1 Mm_pipe.2.1 Mm_pipe.2.2.1 Mm_pipe.2.2.2.1 ∈ gtbl) ∧ (Mm_pipe.1.cls ≠ "java/lang/invoke/MethodHandle" ∧ Mm_pipe.1.cls ≠ "java/lang/invoke/VarHandle" ∧ (parseMethodDescriptor Mm_pipe.1.desc).map (fun d => d.parameters.length) = some 2) := ⟨k85, k1153, by decide +kernel, by decide +kernel, by decide +kernel⟩
theorem k1151 : Cond.instanceMethod yX9_pipe ∈ gtbl := gm 1151 (by decide +kernel)
theorem k1152 : Cond.selects RX9 yX9_pipe yX9_pipe ∈ gtbl := gm 1152 (by decide +kernel)
theorem k1196 : Cond.code yX9_judged cX9_judged 1 (some .int) ∈ gtbl := gm 1196 (by decide +kernel)
theorem ck_m_judged : (Cond.initialized Mm_judged.1.cls ∈ gtbl) ∧ (Cond.code Mm_judged.1 Mm_judged.2.1 Mm_judged.2.2.1 Mm_judged.2.2.2.1 ∈ gtbl) ∧ (Mm_judged.1.cls ≠ "java/lang/invoke/MethodHandle" ∧ Mm_judged.1.cls ≠ "java/lang/invoke/VarHandle" ∧ (parseMethodDescriptor Mm_judged.1.desc).map (fun d => d.parameters.length) = some 0) := ⟨k85, k1196, by decide +kernel, by decide +kernel, by decide +kernel⟩
theorem k1194 : Cond.instanceMethod yX9_judged ∈ gtbl := gm 1194 (by decide +kernel)
theorem k1195 : Cond.selects RX9 yX9_judged yX9_judged ∈ gtbl := gm 1195 (by decide +kernel)
theorem k1211 : Cond.code yX9_fullNow cX9_fullNow 3 (some .int) ∈ gtbl := gm 1211 (by decide +kernel)
theorem ck_m_fullNow : (Cond.initialized Mm_fullNow.1.cls ∈ gtbl) ∧ (Cond.code Mm_fullNow.1 Mm_fullNow.2.1 Mm_fullNow.2.2.1 Mm_fullNow.2.2.2.1 ∈ gtbl) ∧ (Mm_fullNow.1.cls ≠ "java/lang/invoke/MethodHandle" ∧ Mm_fullNow.1.cls ≠ "java/lang/invoke/VarHandle" ∧ (parseMethodDescriptor Mm_fullNow.1.desc).map (fun d => d.parameters.length) = some 0) := ⟨k85, k1211, by decide +kernel, by decide +kernel, by decide +kernel⟩
theorem k1210 : Cond.instanceMethod yX9_fullNow ∈ gtbl := gm 1210 (by decide +kernel)
theorem k47 : Cond.selects RX9 yX9_fullNow yX9_fullNow ∈ gtbl := gm 47 (by decide +kernel)
theorem k1207 : Cond.code yX9_stateOf cX9_stateOf 3 (some .int) ∈ gtbl := gm 1207 (by decide +kernel)
theorem ck_m_stateOf : (Cond.initialized Mm_stateOf.1.cls ∈ gtbl) ∧ (Cond.code Mm_stateOf.1 Mm_stateOf.2.1 Mm_stateOf.2.2.1 Mm_stateOf.2.2.2.1 ∈ gtbl) ∧ (Mm_stateOf.1.cls ≠ "java/lang/invoke/MethodHandle" ∧ Mm_stateOf.1.cls ≠ "java/lang/invoke/VarHandle" ∧ (parseMethodDescriptor Mm_stateOf.1.desc).map (fun d => d.parameters.length) = some 2) := ⟨k85, k1207, by decide +kernel, by decide +kernel, by decide +kernel⟩
theorem k1206 : Cond.instanceMethod yX9_stateOf ∈ gtbl := gm 1206 (by decide +kernel)
theorem k46 : Cond.selects RX9 yX9_stateOf yX9_stateOf ∈ gtbl := gm 46 (by decide +kernel)
theorem k1200 : Cond.code yX9_state cX9_state 3 (some .int) ∈ gtbl := gm 1200 (by decide +kernel)
theorem ck_m_state : (Cond.initialized Mm_state.1.cls ∈ gtbl) ∧ (Cond.code Mm_state.1 Mm_state.2.1 Mm_state.2.2.1 Mm_state.2.2.2.1 ∈ gtbl) ∧ (Mm_state.1.cls ≠ "java/lang/invoke/MethodHandle" ∧ Mm_state.1.cls ≠ "java/lang/invoke/VarHandle" ∧ (parseMethodDescriptor Mm_state.1.desc).map (fun d => d.parameters.length) = some 2) := ⟨k85, k1200, by decide +kernel, by decide +kernel, by decide +kernel⟩
theorem k1198 : Cond.instanceMethod yX9_state ∈ gtbl := gm 1198 (by decide +kernel)
theorem k1199 : Cond.selects RX9 yX9_state yX9_state ∈ gtbl := gm 1199 (by decide +kernel)
theorem k1219 : Cond.code yX9_pipesOf cX9_pipesOf 2 (some .int) ∈ gtbl := gm 1219 (by decide +kernel)
theorem ck_m_pipesOf : (Cond.initialized Mm_pipesOf.1.cls ∈ gtbl) ∧ (Cond.code Mm_pipesOf.1 Mm_pipesOf.2.1 Mm_pipesOf.2.2.1 Mm_pipesOf.2.2.2.1 ∈ gtbl) ∧ (Mm_pipesOf.1.cls ≠ "java/lang/invoke/MethodHandle" ∧ Mm_pipesOf.1.cls ≠ "java/lang/invoke/VarHandle" ∧ (parseMethodDescriptor Mm_pipesOf.1.desc).map (fun d => d.parameters.length) = some 1) := ⟨k85, k1219, by decide +kernel, by decide +kernel, by decide +kernel⟩
theorem k1218 : Cond.instanceMethod yX9_pipesOf ∈ gtbl := gm 1218 (by decide +kernel)
theorem k48 : Cond.selects RX9 yX9_pipesOf yX9_pipesOf ∈ gtbl := gm 48 (by decide +kernel)
theorem k1215 : Cond.code yX9_wire cX9_wire 3 (some .int) ∈ gtbl := gm 1215 (by decide +kernel)
theorem ck_m_wire : (Cond.initialized Mm_wire.1.cls ∈ gtbl) ∧ (Cond.code Mm_wire.1 Mm_wire.2.1 Mm_wire.2.2.1 Mm_wire.2.2.2.1 ∈ gtbl) ∧ (Mm_wire.1.cls ≠ "java/lang/invoke/MethodHandle" ∧ Mm_wire.1.cls ≠ "java/lang/invoke/VarHandle" ∧ (parseMethodDescriptor Mm_wire.1.desc).map (fun d => d.parameters.length) = some 2) := ⟨k85, k1215, by decide +kernel, by decide +kernel, by decide +kernel⟩
theorem k1213 : Cond.instanceMethod yX9_wire ∈ gtbl := gm 1213 (by decide +kernel)
theorem k1214 : Cond.selects RX9 yX9_wire yX9_wire ∈ gtbl := gm 1214 (by decide +kernel)
theorem k1227 : Cond.code yX9_outOf cX9_outOf 5 (some .int) ∈ gtbl := gm 1227 (by decide +kernel)
theorem ck_m_outOf : (Cond.initialized Mm_outOf.1.cls ∈ gtbl) ∧ (Cond.code Mm_outOf.1 Mm_outOf.2.1 Mm_outOf.2.2.1 Mm_outOf.2.2.2.1 ∈ gtbl) ∧ (Mm_outOf.1.cls ≠ "java/lang/invoke/MethodHandle" ∧ Mm_outOf.1.cls ≠ "java/lang/invoke/VarHandle" ∧ (parseMethodDescriptor Mm_outOf.1.desc).map (fun d => d.parameters.length) = some 1) := ⟨k85, k1227, by decide +kernel, by decide +kernel, by decide +kernel⟩
theorem k1226 : Cond.instanceMethod yX9_outOf ∈ gtbl := gm 1226 (by decide +kernel)
theorem k49 : Cond.selects RX9 yX9_outOf yX9_outOf ∈ gtbl := gm 49 (by decide +kernel)
theorem k1223 : Cond.code yX9_out cX9_out 2 (some .int) ∈ gtbl := gm 1223 (by decide +kernel)
theorem ck_m_out : (Cond.initialized Mm_out.1.cls ∈ gtbl) ∧ (Cond.code Mm_out.1 Mm_out.2.1 Mm_out.2.2.1 Mm_out.2.2.2.1 ∈ gtbl) ∧ (Mm_out.1.cls ≠ "java/lang/invoke/MethodHandle" ∧ Mm_out.1.cls ≠ "java/lang/invoke/VarHandle" ∧ (parseMethodDescriptor Mm_out.1.desc).map (fun d => d.parameters.length) = some 1) := ⟨k85, k1223, by decide +kernel, by decide +kernel, by decide +kernel⟩
theorem k1221 : Cond.instanceMethod yX9_out ∈ gtbl := gm 1221 (by decide +kernel)
theorem k1222 : Cond.selects RX9 yX9_out yX9_out ∈ gtbl := gm 1222 (by decide +kernel)
theorem k1235 : Cond.code yX9_shortestOf cX9_shortestOf 5 (some .int) ∈ gtbl := gm 1235 (by decide +kernel)
theorem ck_m_shortestOf : (Cond.initialized Mm_shortestOf.1.cls ∈ gtbl) ∧ (Cond.code Mm_shortestOf.1 Mm_shortestOf.2.1 Mm_shortestOf.2.2.1 Mm_shortestOf.2.2.2.1 ∈ gtbl) ∧ (Mm_shortestOf.1.cls ≠ "java/lang/invoke/MethodHandle" ∧ Mm_shortestOf.1.cls ≠ "java/lang/invoke/VarHandle" ∧ (parseMethodDescriptor Mm_shortestOf.1.desc).map (fun d => d.parameters.length) = some 3) := ⟨k85, k1235, by decide +kernel, by decide +kernel, by decide +kernel⟩
theorem k1234 : Cond.instanceMethod yX9_shortestOf ∈ gtbl := gm 1234 (by decide +kernel)
theorem k50 : Cond.selects RX9 yX9_shortestOf yX9_shortestOf ∈ gtbl := gm 50 (by decide +kernel)
theorem k1231 : Cond.code yX9_shortest cX9_shortest 4 (some .int) ∈ gtbl := gm 1231 (by decide +kernel)
theorem ck_m_shortest : (Cond.initialized Mm_shortest.1.cls ∈ gtbl) ∧ (Cond.code Mm_shortest.1 Mm_shortest.2.1 Mm_shortest.2.2.1 Mm_shortest.2.2.2.1 ∈ gtbl) ∧ (Mm_shortest.1.cls ≠ "java/lang/invoke/MethodHandle" ∧ Mm_shortest.1.cls ≠ "java/lang/invoke/VarHandle" ∧ (parseMethodDescriptor Mm_shortest.1.desc).map (fun d => d.parameters.length) = some 3) := ⟨k85, k1231, by decide +kernel, by decide +kernel, by decide +kernel⟩
theorem k1229 : Cond.instanceMethod yX9_shortest ∈ gtbl := gm 1229 (by decide +kernel)
theorem k1230 : Cond.selects RX9 yX9_shortest yX9_shortest ∈ gtbl := gm 1230 (by decide +kernel)
theorem k1247 : Cond.code yX9_keeps cX9_keeps 2 none ∈ gtbl := gm 1247 (by decide +kernel)
theorem ck_m_keeps : (Cond.initialized Mm_keeps.1.cls ∈ gtbl) ∧ (Cond.code Mm_keeps.1 Mm_keeps.2.1 Mm_keeps.2.2.1 Mm_keeps.2.2.2.1 ∈ gtbl) ∧ (Mm_keeps.1.cls ≠ "java/lang/invoke/MethodHandle" ∧ Mm_keeps.1.cls ≠ "java/lang/invoke/VarHandle" ∧ (parseMethodDescriptor Mm_keeps.1.desc).map (fun d => d.parameters.length) = some 0) := ⟨k85, k1247, by decide +kernel, by decide +kernel, by decide +kernel⟩
theorem k1246 : Cond.instanceMethod yX9_keeps ∈ gtbl := gm 1246 (by decide +kernel)
theorem k52 : Cond.selects RX9 yX9_keeps yX9_keeps ∈ gtbl := gm 52 (by decide +kernel)
theorem k1251 : Cond.code yX9_putsBack cX9_putsBack 2 none ∈ gtbl := gm 1251 (by decide +kernel)
theorem ck_m_putsBack : (Cond.initialized Mm_putsBack.1.cls ∈ gtbl) ∧ (Cond.code Mm_putsBack.1 Mm_putsBack.2.1 Mm_putsBack.2.2.1 Mm_putsBack.2.2.2.1 ∈ gtbl) ∧ (Mm_putsBack.1.cls ≠ "java/lang/invoke/MethodHandle" ∧ Mm_putsBack.1.cls ≠ "java/lang/invoke/VarHandle" ∧ (parseMethodDescriptor Mm_putsBack.1.desc).map (fun d => d.parameters.length) = some 0) := ⟨k85, k1251, by decide +kernel, by decide +kernel, by decide +kernel⟩
theorem k1250 : Cond.instanceMethod yX9_putsBack ∈ gtbl := gm 1250 (by decide +kernel)
theorem k53 : Cond.selects RX9 yX9_putsBack yX9_putsBack ∈ gtbl := gm 53 (by decide +kernel)
theorem k1243 : Cond.code yX9_drawnOf cX9_drawnOf 4 (some .int) ∈ gtbl := gm 1243 (by decide +kernel)
theorem ck_m_drawnOf : (Cond.initialized Mm_drawnOf.1.cls ∈ gtbl) ∧ (Cond.code Mm_drawnOf.1 Mm_drawnOf.2.1 Mm_drawnOf.2.2.1 Mm_drawnOf.2.2.2.1 ∈ gtbl) ∧ (Mm_drawnOf.1.cls ≠ "java/lang/invoke/MethodHandle" ∧ Mm_drawnOf.1.cls ≠ "java/lang/invoke/VarHandle" ∧ (parseMethodDescriptor Mm_drawnOf.1.desc).map (fun d => d.parameters.length) = some 2) := ⟨k85, k1243, by decide +kernel, by decide +kernel, by decide +kernel⟩
theorem k1242 : Cond.instanceMethod yX9_drawnOf ∈ gtbl := gm 1242 (by decide +kernel)
theorem k51 : Cond.selects RX9 yX9_drawnOf yX9_drawnOf ∈ gtbl := gm 51 (by decide +kernel)
theorem k1259 : Cond.code yX9_flows cX9_flows 9 (some .boolean) ∈ gtbl := gm 1259 (by decide +kernel)
theorem ck_m_flows : (Cond.initialized Mm_flows.1.cls ∈ gtbl) ∧ (Cond.code Mm_flows.1 Mm_flows.2.1 Mm_flows.2.2.1 Mm_flows.2.2.2.1 ∈ gtbl) ∧ (Mm_flows.1.cls ≠ "java/lang/invoke/MethodHandle" ∧ Mm_flows.1.cls ≠ "java/lang/invoke/VarHandle" ∧ (parseMethodDescriptor Mm_flows.1.desc).map (fun d => d.parameters.length) = some 2) := ⟨k85, k1259, by decide +kernel, by decide +kernel, by decide +kernel⟩
theorem k1258 : Cond.instanceMethod yX9_flows ∈ gtbl := gm 1258 (by decide +kernel)
theorem k55 : Cond.selects RX9 yX9_flows yX9_flows ∈ gtbl := gm 55 (by decide +kernel)
theorem k1255 : Cond.code yX9_mostOf cX9_mostOf 4 (some .int) ∈ gtbl := gm 1255 (by decide +kernel)
theorem ck_m_mostOf : (Cond.initialized Mm_mostOf.1.cls ∈ gtbl) ∧ (Cond.code Mm_mostOf.1 Mm_mostOf.2.1 Mm_mostOf.2.2.1 Mm_mostOf.2.2.2.1 ∈ gtbl) ∧ (Mm_mostOf.1.cls ≠ "java/lang/invoke/MethodHandle" ∧ Mm_mostOf.1.cls ≠ "java/lang/invoke/VarHandle" ∧ (parseMethodDescriptor Mm_mostOf.1.desc).map (fun d => d.parameters.length) = some 2) := ⟨k85, k1255, by decide +kernel, by decide +kernel, by decide +kernel⟩
theorem k1254 : Cond.instanceMethod yX9_mostOf ∈ gtbl := gm 1254 (by decide +kernel)
theorem k54 : Cond.selects RX9 yX9_mostOf yX9_mostOf ∈ gtbl := gm 54 (by decide +kernel)
theorem k1239 : Cond.code yX9_most cX9_most 4 (some .int) ∈ gtbl := gm 1239 (by decide +kernel)
theorem ck_m_most : (Cond.initialized Mm_most.1.cls ∈ gtbl) ∧ (Cond.code Mm_most.1 Mm_most.2.1 Mm_most.2.2.1 Mm_most.2.2.2.1 ∈ gtbl) ∧ (Mm_most.1.cls ≠ "java/lang/invoke/MethodHandle" ∧ Mm_most.1.cls ≠ "java/lang/invoke/VarHandle" ∧ (parseMethodDescriptor Mm_most.1.desc).map (fun d => d.parameters.length) = some 3) := ⟨k85, k1239, by decide +kernel, by decide +kernel, by decide +kernel⟩
theorem k1237 : Cond.instanceMethod yX9_most ∈ gtbl := gm 1237 (by decide +kernel)
theorem k1238 : Cond.selects RX9 yX9_most yX9_most ∈ gtbl := gm 1238 (by decide +kernel)
theorem k1267 : Cond.code yX9_failsOf cX9_failsOf 4 (some .int) ∈ gtbl := gm 1267 (by decide +kernel)
theorem ck_m_failsOf : (Cond.initialized Mm_failsOf.1.cls ∈ gtbl) ∧ (Cond.code Mm_failsOf.1 Mm_failsOf.2.1 Mm_failsOf.2.2.1 Mm_failsOf.2.2.2.1 ∈ gtbl) ∧ (Mm_failsOf.1.cls ≠ "java/lang/invoke/MethodHandle" ∧ Mm_failsOf.1.cls ≠ "java/lang/invoke/VarHandle" ∧ (parseMethodDescriptor Mm_failsOf.1.desc).map (fun d => d.parameters.length) = some 1) := ⟨k85, k1267, by decide +kernel, by decide +kernel, by decide +kernel⟩
theorem k1266 : Cond.instanceMethod yX9_failsOf ∈ gtbl := gm 1266 (by decide +kernel)
theorem k56 : Cond.selects RX9 yX9_failsOf yX9_failsOf ∈ gtbl := gm 56 (by decide +kernel)
theorem k1263 : Cond.code yX9_fails cX9_fails 2 (some .int) ∈ gtbl := gm 1263 (by decide +kernel)
theorem ck_m_fails : (Cond.initialized Mm_fails.1.cls ∈ gtbl) ∧ (Cond.code Mm_fails.1 Mm_fails.2.1 Mm_fails.2.2.1 Mm_fails.2.2.2.1 ∈ gtbl) ∧ (Mm_fails.1.cls ≠ "java/lang/invoke/MethodHandle" ∧ Mm_fails.1.cls ≠ "java/lang/invoke/VarHandle" ∧ (parseMethodDescriptor Mm_fails.1.desc).map (fun d => d.parameters.length) = some 1) := ⟨k85, k1263, by decide +kernel, by decide +kernel, by decide +kernel⟩
theorem k1261 : Cond.instanceMethod yX9_fails ∈ gtbl := gm 1261 (by decide +kernel)
theorem k1262 : Cond.selects RX9 yX9_fails yX9_fails ∈ gtbl := gm 1262 (by decide +kernel)
theorem k1275 : Cond.code yX9_soonestNow cX9_soonestNow 4 (some .int) ∈ gtbl := gm 1275 (by decide +kernel)
theorem ck_m_soonestNow : (Cond.initialized Mm_soonestNow.1.cls ∈ gtbl) ∧ (Cond.code Mm_soonestNow.1 Mm_soonestNow.2.1 Mm_soonestNow.2.2.1 Mm_soonestNow.2.2.2.1 ∈ gtbl) ∧ (Mm_soonestNow.1.cls ≠ "java/lang/invoke/MethodHandle" ∧ Mm_soonestNow.1.cls ≠ "java/lang/invoke/VarHandle" ∧ (parseMethodDescriptor Mm_soonestNow.1.desc).map (fun d => d.parameters.length) = some 0) := ⟨k85, k1275, by decide +kernel, by decide +kernel, by decide +kernel⟩
theorem k1274 : Cond.instanceMethod yX9_soonestNow ∈ gtbl := gm 1274 (by decide +kernel)
theorem k57 : Cond.selects RX9 yX9_soonestNow yX9_soonestNow ∈ gtbl := gm 57 (by decide +kernel)
theorem k1271 : Cond.code yX9_soonest cX9_soonest 1 (some .int) ∈ gtbl := gm 1271 (by decide +kernel)
theorem ck_m_soonest : (Cond.initialized Mm_soonest.1.cls ∈ gtbl) ∧ (Cond.code Mm_soonest.1 Mm_soonest.2.1 Mm_soonest.2.2.1 Mm_soonest.2.2.2.1 ∈ gtbl) ∧ (Mm_soonest.1.cls ≠ "java/lang/invoke/MethodHandle" ∧ Mm_soonest.1.cls ≠ "java/lang/invoke/VarHandle" ∧ (parseMethodDescriptor Mm_soonest.1.desc).map (fun d => d.parameters.length) = some 0) := ⟨k85, k1271, by decide +kernel, by decide +kernel, by decide +kernel⟩
theorem k1269 : Cond.instanceMethod yX9_soonest ∈ gtbl := gm 1269 (by decide +kernel)
theorem k1270 : Cond.selects RX9 yX9_soonest yX9_soonest ∈ gtbl := gm 1270 (by decide +kernel)
theorem k1283 : Cond.code yX9_leftOn cX9_leftOn 5 (some .int) ∈ gtbl := gm 1283 (by decide +kernel)
theorem ck_m_leftOn : (Cond.initialized Mm_leftOn.1.cls ∈ gtbl) ∧ (Cond.code Mm_leftOn.1 Mm_leftOn.2.1 Mm_leftOn.2.2.1 Mm_leftOn.2.2.2.1 ∈ gtbl) ∧ (Mm_leftOn.1.cls ≠ "java/lang/invoke/MethodHandle" ∧ Mm_leftOn.1.cls ≠ "java/lang/invoke/VarHandle" ∧ (parseMethodDescriptor Mm_leftOn.1.desc).map (fun d => d.parameters.length) = some 1) := ⟨k85, k1283, by decide +kernel, by decide +kernel, by decide +kernel⟩
theorem k1282 : Cond.instanceMethod yX9_leftOn ∈ gtbl := gm 1282 (by decide +kernel)
theorem k58 : Cond.selects RX9 yX9_leftOn yX9_leftOn ∈ gtbl := gm 58 (by decide +kernel)
theorem k1279 : Cond.code yX9_left cX9_left 2 (some .int) ∈ gtbl := gm 1279 (by decide +kernel)
theorem ck_m_left : (Cond.initialized Mm_left.1.cls ∈ gtbl) ∧ (Cond.code Mm_left.1 Mm_left.2.1 Mm_left.2.2.1 Mm_left.2.2.2.1 ∈ gtbl) ∧ (Mm_left.1.cls ≠ "java/lang/invoke/MethodHandle" ∧ Mm_left.1.cls ≠ "java/lang/invoke/VarHandle" ∧ (parseMethodDescriptor Mm_left.1.desc).map (fun d => d.parameters.length) = some 1) := ⟨k85, k1279, by decide +kernel, by decide +kernel, by decide +kernel⟩
theorem k1277 : Cond.instanceMethod yX9_left ∈ gtbl := gm 1277 (by decide +kernel)
theorem k1278 : Cond.selects RX9 yX9_left yX9_left ∈ gtbl := gm 1278 (by decide +kernel)
theorem k1295 : Cond.code yX9_burnsBy cX9_burnsBy 9 (some .int) ∈ gtbl := gm 1295 (by decide +kernel)
theorem ck_m_burnsBy : (Cond.initialized Mm_burnsBy.1.cls ∈ gtbl) ∧ (Cond.code Mm_burnsBy.1 Mm_burnsBy.2.1 Mm_burnsBy.2.2.1 Mm_burnsBy.2.2.2.1 ∈ gtbl) ∧ (Mm_burnsBy.1.cls ≠ "java/lang/invoke/MethodHandle" ∧ Mm_burnsBy.1.cls ≠ "java/lang/invoke/VarHandle" ∧ (parseMethodDescriptor Mm_burnsBy.1.desc).map (fun d => d.parameters.length) = some 5) := ⟨k85, k1295, by decide +kernel, by decide +kernel, by decide +kernel⟩
theorem k1294 : Cond.instanceMethod yX9_burnsBy ∈ gtbl := gm 1294 (by decide +kernel)
theorem k60 : Cond.selects RX9 yX9_burnsBy yX9_burnsBy ∈ gtbl := gm 60 (by decide +kernel)
theorem k1298 : Cond.code yX9_joined cX9_joined 3 (some .int) ∈ gtbl := gm 1298 (by decide +kernel)
theorem ck_m_joined : (Cond.initialized Mm_joined.1.cls ∈ gtbl) ∧ (Cond.code Mm_joined.1 Mm_joined.2.1 Mm_joined.2.2.1 Mm_joined.2.2.2.1 ∈ gtbl) ∧ (Mm_joined.1.cls ≠ "java/lang/invoke/MethodHandle" ∧ Mm_joined.1.cls ≠ "java/lang/invoke/VarHandle" ∧ (parseMethodDescriptor Mm_joined.1.desc).map (fun d => d.parameters.length) = some 3) := ⟨k85, k1298, by decide +kernel, by decide +kernel, by decide +kernel⟩
theorem k1297 : Cond.static yX9_joined ∈ gtbl := gm 1297 (by decide +kernel)
theorem k1291 : Cond.code yX9_burnsNow cX9_burnsNow 2 (some .int) ∈ gtbl := gm 1291 (by decide +kernel)
theorem ck_m_burnsNow : (Cond.initialized Mm_burnsNow.1.cls ∈ gtbl) ∧ (Cond.code Mm_burnsNow.1 Mm_burnsNow.2.1 Mm_burnsNow.2.2.1 Mm_burnsNow.2.2.2.1 ∈ gtbl) ∧ (Mm_burnsNow.1.cls ≠ "java/lang/invoke/MethodHandle" ∧ Mm_burnsNow.1.cls ≠ "java/lang/invoke/VarHandle" ∧ (parseMethodDescriptor Mm_burnsNow.1.desc).map (fun d => d.parameters.length) = some 1) := ⟨k85, k1291, by decide +kernel, by decide +kernel, by decide +kernel⟩
theorem k1290 : Cond.instanceMethod yX9_burnsNow ∈ gtbl := gm 1290 (by decide +kernel)
theorem k59 : Cond.selects RX9 yX9_burnsNow yX9_burnsNow ∈ gtbl := gm 59 (by decide +kernel)
theorem k1287 : Cond.code yX9_burns cX9_burns 2 (some .int) ∈ gtbl := gm 1287 (by decide +kernel)
theorem ck_m_burns : (Cond.initialized Mm_burns.1.cls ∈ gtbl) ∧ (Cond.code Mm_burns.1 Mm_burns.2.1 Mm_burns.2.2.1 Mm_burns.2.2.2.1 ∈ gtbl) ∧ (Mm_burns.1.cls ≠ "java/lang/invoke/MethodHandle" ∧ Mm_burns.1.cls ≠ "java/lang/invoke/VarHandle" ∧ (parseMethodDescriptor Mm_burns.1.desc).map (fun d => d.parameters.length) = some 1) := ⟨k85, k1287, by decide +kernel, by decide +kernel, by decide +kernel⟩
theorem k1285 : Cond.instanceMethod yX9_burns ∈ gtbl := gm 1285 (by decide +kernel)
theorem k1286 : Cond.selects RX9 yX9_burns yX9_burns ∈ gtbl := gm 1286 (by decide +kernel)
theorem k1310 : Cond.code yX9_lights cX9_lights 7 (some .boolean) ∈ gtbl := gm 1310 (by decide +kernel)
theorem ck_m_lights : (Cond.initialized Mm_lights.1.cls ∈ gtbl) ∧ (Cond.code Mm_lights.1 Mm_lights.2.1 Mm_lights.2.2.1 Mm_lights.2.2.2.1 ∈ gtbl) ∧ (Mm_lights.1.cls ≠ "java/lang/invoke/MethodHandle" ∧ Mm_lights.1.cls ≠ "java/lang/invoke/VarHandle" ∧ (parseMethodDescriptor Mm_lights.1.desc).map (fun d => d.parameters.length) = some 3) := ⟨k85, k1310, by decide +kernel, by decide +kernel, by decide +kernel⟩
theorem k1309 : Cond.instanceMethod yX9_lights ∈ gtbl := gm 1309 (by decide +kernel)
theorem k62 : Cond.selects RX9 yX9_lights yX9_lights ∈ gtbl := gm 62 (by decide +kernel)
theorem k1306 : Cond.code yX9_findLit cX9_findLit 5 none ∈ gtbl := gm 1306 (by decide +kernel)
theorem ck_m_findLit : (Cond.initialized Mm_findLit.1.cls ∈ gtbl) ∧ (Cond.code Mm_findLit.1 Mm_findLit.2.1 Mm_findLit.2.2.1 Mm_findLit.2.2.2.1 ∈ gtbl) ∧ (Mm_findLit.1.cls ≠ "java/lang/invoke/MethodHandle" ∧ Mm_findLit.1.cls ≠ "java/lang/invoke/VarHandle" ∧ (parseMethodDescriptor Mm_findLit.1.desc).map (fun d => d.parameters.length) = some 1) := ⟨k85, k1306, by decide +kernel, by decide +kernel, by decide +kernel⟩
theorem k1305 : Cond.instanceMethod yX9_findLit ∈ gtbl := gm 1305 (by decide +kernel)
theorem k61 : Cond.selects RX9 yX9_findLit yX9_findLit ∈ gtbl := gm 61 (by decide +kernel)
theorem k1302 : Cond.code yX9_lit cX9_lit 3 (some .int) ∈ gtbl := gm 1302 (by decide +kernel)
theorem ck_m_lit : (Cond.initialized Mm_lit.1.cls ∈ gtbl) ∧ (Cond.code Mm_lit.1 Mm_lit.2.1 Mm_lit.2.2.1 Mm_lit.2.2.2.1 ∈ gtbl) ∧ (Mm_lit.1.cls ≠ "java/lang/invoke/MethodHandle" ∧ Mm_lit.1.cls ≠ "java/lang/invoke/VarHandle" ∧ (parseMethodDescriptor Mm_lit.1.desc).map (fun d => d.parameters.length) = some 2) := ⟨k85, k1302, by decide +kernel, by decide +kernel, by decide +kernel⟩
theorem k1300 : Cond.instanceMethod yX9_lit ∈ gtbl := gm 1300 (by decide +kernel)
theorem k1301 : Cond.selects RX9 yX9_lit yX9_lit ∈ gtbl := gm 1301 (by decide +kernel)
theorem k1336 : Cond.code yX9_outAt cX9_outAt 2 (some .int) ∈ gtbl := gm 1336 (by decide +kernel)
theorem ck_m_outAt : (Cond.initialized Mm_outAt.1.cls ∈ gtbl) ∧ (Cond.code Mm_outAt.1 Mm_outAt.2.1 Mm_outAt.2.2.1 Mm_outAt.2.2.2.1 ∈ gtbl) ∧ (Mm_outAt.1.cls ≠ "java/lang/invoke/MethodHandle" ∧ Mm_outAt.1.cls ≠ "java/lang/invoke/VarHandle" ∧ (parseMethodDescriptor Mm_outAt.1.desc).map (fun d => d.parameters.length) = some 1) := ⟨k85, k1336, by decide +kernel, by decide +kernel, by decide +kernel⟩
theorem k1335 : Cond.instanceMethod yX9_outAt ∈ gtbl := gm 1335 (by decide +kernel)
theorem k67 : Cond.selects RX9 yX9_outAt yX9_outAt ∈ gtbl := gm 67 (by decide +kernel)
theorem k1332 : Cond.code yX9_inAt cX9_inAt 2 (some .int) ∈ gtbl := gm 1332 (by decide +kernel)
theorem ck_m_inAt : (Cond.initialized Mm_inAt.1.cls ∈ gtbl) ∧ (Cond.code Mm_inAt.1 Mm_inAt.2.1 Mm_inAt.2.2.1 Mm_inAt.2.2.2.1 ∈ gtbl) ∧ (Mm_inAt.1.cls ≠ "java/lang/invoke/MethodHandle" ∧ Mm_inAt.1.cls ≠ "java/lang/invoke/VarHandle" ∧ (parseMethodDescriptor Mm_inAt.1.desc).map (fun d => d.parameters.length) = some 1) := ⟨k85, k1332, by decide +kernel, by decide +kernel, by decide +kernel⟩
theorem k1331 : Cond.instanceMethod yX9_inAt ∈ gtbl := gm 1331 (by decide +kernel)
theorem k66 : Cond.selects RX9 yX9_inAt yX9_inAt ∈ gtbl := gm 66 (by decide +kernel)
theorem k1328 : Cond.code yX9_goesThrough cX9_goesThrough 2 (some .boolean) ∈ gtbl := gm 1328 (by decide +kernel)
theorem ck_m_goesThrough : (Cond.initialized Mm_goesThrough.1.cls ∈ gtbl) ∧ (Cond.code Mm_goesThrough.1 Mm_goesThrough.2.1 Mm_goesThrough.2.2.1 Mm_goesThrough.2.2.2.1 ∈ gtbl) ∧ (Mm_goesThrough.1.cls ≠ "java/lang/invoke/MethodHandle" ∧ Mm_goesThrough.1.cls ≠ "java/lang/invoke/VarHandle" ∧ (parseMethodDescriptor Mm_goesThrough.1.desc).map (fun d => d.parameters.length) = some 1) := ⟨k85, k1328, by decide +kernel, by decide +kernel, by decide +kernel⟩
theorem k1327 : Cond.instanceMethod yX9_goesThrough ∈ gtbl := gm 1327 (by decide +kernel)
theorem k65 : Cond.selects RX9 yX9_goesThrough yX9_goesThrough ∈ gtbl := gm 65 (by decide +kernel)
theorem k1324 : Cond.code yX9_walks cX9_walks 6 none ∈ gtbl := gm 1324 (by decide +kernel)
theorem ck_m_walks : (Cond.initialized Mm_walks.1.cls ∈ gtbl) ∧ (Cond.code Mm_walks.1 Mm_walks.2.1 Mm_walks.2.2.1 Mm_walks.2.2.2.1 ∈ gtbl) ∧ (Mm_walks.1.cls ≠ "java/lang/invoke/MethodHandle" ∧ Mm_walks.1.cls ≠ "java/lang/invoke/VarHandle" ∧ (parseMethodDescriptor Mm_walks.1.desc).map (fun d => d.parameters.length) = some 2) := ⟨k85, k1324, by decide +kernel, by decide +kernel, by decide +kernel⟩
theorem k1323 : Cond.instanceMethod yX9_walks ∈ gtbl := gm 1323 (by decide +kernel)
theorem k64 : Cond.selects RX9 yX9_walks yX9_walks ∈ gtbl := gm 64 (by decide +kernel)
theorem k1340 : Cond.code yX9_waysTo cX9_waysTo 6 (some .int) ∈ gtbl := gm 1340 (by decide +kernel)
theorem ck_m_waysTo : (Cond.initialized Mm_waysTo.1.cls ∈ gtbl) ∧ (Cond.code Mm_waysTo.1 Mm_waysTo.2.1 Mm_waysTo.2.2.1 Mm_waysTo.2.2.2.1 ∈ gtbl) ∧ (Mm_waysTo.1.cls ≠ "java/lang/invoke/MethodHandle" ∧ Mm_waysTo.1.cls ≠ "java/lang/invoke/VarHandle" ∧ (parseMethodDescriptor Mm_waysTo.1.desc).map (fun d => d.parameters.length) = some 3) := ⟨k85, k1340, by decide +kernel, by decide +kernel, by decide +kernel⟩
theorem k1339 : Cond.instanceMethod yX9_waysTo ∈ gtbl := gm 1339 (by decide +kernel)
theorem k68 : Cond.selects RX9 yX9_waysTo yX9_waysTo ∈ gtbl := gm 68 (by decide +kernel)
theorem k1320 : Cond.code yX9_heardOf cX9_heardOf 6 (some .int) ∈ gtbl := gm 1320 (by decide +kernel)
theorem ck_m_heardOf : (Cond.initialized Mm_heardOf.1.cls ∈ gtbl) ∧ (Cond.code Mm_heardOf.1 Mm_heardOf.2.1 Mm_heardOf.2.2.1 Mm_heardOf.2.2.2.1 ∈ gtbl) ∧ (Mm_heardOf.1.cls ≠ "java/lang/invoke/MethodHandle" ∧ Mm_heardOf.1.cls ≠ "java/lang/invoke/VarHandle" ∧ (parseMethodDescriptor Mm_heardOf.1.desc).map (fun d => d.parameters.length) = some 3) := ⟨k85, k1320, by decide +kernel, by decide +kernel, by decide +kernel⟩
theorem k1319 : Cond.instanceMethod yX9_heardOf ∈ gtbl := gm 1319 (by decide +kernel)
theorem k63 : Cond.selects RX9 yX9_heardOf yX9_heardOf ∈ gtbl := gm 63 (by decide +kernel)
theorem k1314 : Cond.code yX9_heard cX9_heard 4 (some .int) ∈ gtbl := gm 1314 (by decide +kernel)
theorem ck_m_heard : (Cond.initialized Mm_heard.1.cls ∈ gtbl) ∧ (Cond.code Mm_heard.1 Mm_heard.2.1 Mm_heard.2.2.1 Mm_heard.2.2.2.1 ∈ gtbl) ∧ (Mm_heard.1.cls ≠ "java/lang/invoke/MethodHandle" ∧ Mm_heard.1.cls ≠ "java/lang/invoke/VarHandle" ∧ (parseMethodDescriptor Mm_heard.1.desc).map (fun d => d.parameters.length) = some 3) := ⟨k85, k1314, by decide +kernel, by decide +kernel, by decide +kernel⟩
theorem k1312 : Cond.instanceMethod yX9_heard ∈ gtbl := gm 1312 (by decide +kernel)
theorem k1313 : Cond.selects RX9 yX9_heard yX9_heard ∈ gtbl := gm 1313 (by decide +kernel)
theorem k1348 : Cond.code yX9_meetOf cX9_meetOf 7 (some .int) ∈ gtbl := gm 1348 (by decide +kernel)
theorem ck_m_meetOf : (Cond.initialized Mm_meetOf.1.cls ∈ gtbl) ∧ (Cond.code Mm_meetOf.1 Mm_meetOf.2.1 Mm_meetOf.2.2.1 Mm_meetOf.2.2.2.1 ∈ gtbl) ∧ (Mm_meetOf.1.cls ≠ "java/lang/invoke/MethodHandle" ∧ Mm_meetOf.1.cls ≠ "java/lang/invoke/VarHandle" ∧ (parseMethodDescriptor Mm_meetOf.1.desc).map (fun d => d.parameters.length) = some 4) := ⟨k85, k1348, by decide +kernel, by decide +kernel, by decide +kernel⟩
theorem k1347 : Cond.instanceMethod yX9_meetOf ∈ gtbl := gm 1347 (by decide +kernel)
theorem k69 : Cond.selects RX9 yX9_meetOf yX9_meetOf ∈ gtbl := gm 69 (by decide +kernel)
theorem k1344 : Cond.code yX9_meet cX9_meet 6 (some .int) ∈ gtbl := gm 1344 (by decide +kernel)
theorem ck_m_meet : (Cond.initialized Mm_meet.1.cls ∈ gtbl) ∧ (Cond.code Mm_meet.1 Mm_meet.2.1 Mm_meet.2.2.1 Mm_meet.2.2.2.1 ∈ gtbl) ∧ (Mm_meet.1.cls ≠ "java/lang/invoke/MethodHandle" ∧ Mm_meet.1.cls ≠ "java/lang/invoke/VarHandle" ∧ (parseMethodDescriptor Mm_meet.1.desc).map (fun d => d.parameters.length) = some 4) := ⟨k85, k1344, by decide +kernel, by decide +kernel, by decide +kernel⟩
theorem k1342 : Cond.instanceMethod yX9_meet ∈ gtbl := gm 1342 (by decide +kernel)
theorem k1343 : Cond.selects RX9 yX9_meet yX9_meet ∈ gtbl := gm 1343 (by decide +kernel)
theorem k1357 : Cond.code yX9_drowsyOf cX9_drowsyOf 10 (some .int) ∈ gtbl := gm 1357 (by decide +kernel)
theorem ck_m_drowsyOf : (Cond.initialized Mm_drowsyOf.1.cls ∈ gtbl) ∧ (Cond.code Mm_drowsyOf.1 Mm_drowsyOf.2.1 Mm_drowsyOf.2.2.1 Mm_drowsyOf.2.2.2.1 ∈ gtbl) ∧ (Mm_drowsyOf.1.cls ≠ "java/lang/invoke/MethodHandle" ∧ Mm_drowsyOf.1.cls ≠ "java/lang/invoke/VarHandle" ∧ (parseMethodDescriptor Mm_drowsyOf.1.desc).map (fun d => d.parameters.length) = some 3) := ⟨k85, k1357, by decide +kernel, by decide +kernel, by decide +kernel⟩
theorem k1356 : Cond.instanceMethod yX9_drowsyOf ∈ gtbl := gm 1356 (by decide +kernel)
theorem k70 : Cond.selects RX9 yX9_drowsyOf yX9_drowsyOf ∈ gtbl := gm 70 (by decide +kernel)
theorem k1352 : Cond.code yX9_drowsy cX9_drowsy 4 (some .int) ∈ gtbl := gm 1352 (by decide +kernel)
theorem ck_m_drowsy : (Cond.initialized Mm_drowsy.1.cls ∈ gtbl) ∧ (Cond.code Mm_drowsy.1 Mm_drowsy.2.1 Mm_drowsy.2.2.1 Mm_drowsy.2.2.2.1 ∈ gtbl) ∧ (Mm_drowsy.1.cls ≠ "java/lang/invoke/MethodHandle" ∧ Mm_drowsy.1.cls ≠ "java/lang/invoke/VarHandle" ∧ (parseMethodDescriptor Mm_drowsy.1.desc).map (fun d => d.parameters.length) = some 3) := ⟨k85, k1352, by decide +kernel, by decide +kernel, by decide +kernel⟩
theorem k1350 : Cond.instanceMethod yX9_drowsy ∈ gtbl := gm 1350 (by decide +kernel)
theorem k1351 : Cond.selects RX9 yX9_drowsy yX9_drowsy ∈ gtbl := gm 1351 (by decide +kernel)
theorem k1362 : Cond.code yX9_chalk cX9_chalk 4 (some .int) ∈ gtbl := gm 1362 (by decide +kernel)
theorem ck_m_chalk : (Cond.initialized Mm_chalk.1.cls ∈ gtbl) ∧ (Cond.code Mm_chalk.1 Mm_chalk.2.1 Mm_chalk.2.2.1 Mm_chalk.2.2.2.1 ∈ gtbl) ∧ (Mm_chalk.1.cls ≠ "java/lang/invoke/MethodHandle" ∧ Mm_chalk.1.cls ≠ "java/lang/invoke/VarHandle" ∧ (parseMethodDescriptor Mm_chalk.1.desc).map (fun d => d.parameters.length) = some 3) := ⟨k85, k1362, by decide +kernel, by decide +kernel, by decide +kernel⟩
theorem k1360 : Cond.instanceMethod yX9_chalk ∈ gtbl := gm 1360 (by decide +kernel)
theorem k1361 : Cond.selects RX9 yX9_chalk yX9_chalk ∈ gtbl := gm 1361 (by decide +kernel)
theorem k1370 : Cond.code yX9_liesNow cX9_liesNow 7 (some .int) ∈ gtbl := gm 1370 (by decide +kernel)
theorem ck_m_liesNow : (Cond.initialized Mm_liesNow.1.cls ∈ gtbl) ∧ (Cond.code Mm_liesNow.1 Mm_liesNow.2.1 Mm_liesNow.2.2.1 Mm_liesNow.2.2.2.1 ∈ gtbl) ∧ (Mm_liesNow.1.cls ≠ "java/lang/invoke/MethodHandle" ∧ Mm_liesNow.1.cls ≠ "java/lang/invoke/VarHandle" ∧ (parseMethodDescriptor Mm_liesNow.1.desc).map (fun d => d.parameters.length) = some 0) := ⟨k85, k1370, by decide +kernel, by decide +kernel, by decide +kernel⟩
theorem k1369 : Cond.instanceMethod yX9_liesNow ∈ gtbl := gm 1369 (by decide +kernel)
theorem k71 : Cond.selects RX9 yX9_liesNow yX9_liesNow ∈ gtbl := gm 71 (by decide +kernel)
theorem k1366 : Cond.code yX9_lies cX9_lies 1 (some .int) ∈ gtbl := gm 1366 (by decide +kernel)
theorem ck_m_lies : (Cond.initialized Mm_lies.1.cls ∈ gtbl) ∧ (Cond.code Mm_lies.1 Mm_lies.2.1 Mm_lies.2.2.1 Mm_lies.2.2.2.1 ∈ gtbl) ∧ (Mm_lies.1.cls ≠ "java/lang/invoke/MethodHandle" ∧ Mm_lies.1.cls ≠ "java/lang/invoke/VarHandle" ∧ (parseMethodDescriptor Mm_lies.1.desc).map (fun d => d.parameters.length) = some 0) := ⟨k85, k1366, by decide +kernel, by decide +kernel, by decide +kernel⟩
theorem k1364 : Cond.instanceMethod yX9_lies ∈ gtbl := gm 1364 (by decide +kernel)
theorem k1365 : Cond.selects RX9 yX9_lies yX9_lies ∈ gtbl := gm 1365 (by decide +kernel)
theorem k1374 : Cond.code yX9_scene cX9_scene 2 (some .int) ∈ gtbl := gm 1374 (by decide +kernel)
theorem ck_m_scene : (Cond.initialized Mm_scene.1.cls ∈ gtbl) ∧ (Cond.code Mm_scene.1 Mm_scene.2.1 Mm_scene.2.2.1 Mm_scene.2.2.2.1 ∈ gtbl) ∧ (Mm_scene.1.cls ≠ "java/lang/invoke/MethodHandle" ∧ Mm_scene.1.cls ≠ "java/lang/invoke/VarHandle" ∧ (parseMethodDescriptor Mm_scene.1.desc).map (fun d => d.parameters.length) = some 1) := ⟨k85, k1374, by decide +kernel, by decide +kernel, by decide +kernel⟩
theorem k1372 : Cond.instanceMethod yX9_scene ∈ gtbl := gm 1372 (by decide +kernel)
theorem k1373 : Cond.selects RX9 yX9_scene yX9_scene ∈ gtbl := gm 1373 (by decide +kernel)
theorem k1382 : Cond.code yX9_scenesOf cX9_scenesOf 5 (some .int) ∈ gtbl := gm 1382 (by decide +kernel)
theorem ck_m_scenesOf : (Cond.initialized Mm_scenesOf.1.cls ∈ gtbl) ∧ (Cond.code Mm_scenesOf.1 Mm_scenesOf.2.1 Mm_scenesOf.2.2.1 Mm_scenesOf.2.2.2.1 ∈ gtbl) ∧ (Mm_scenesOf.1.cls ≠ "java/lang/invoke/MethodHandle" ∧ Mm_scenesOf.1.cls ≠ "java/lang/invoke/VarHandle" ∧ (parseMethodDescriptor Mm_scenesOf.1.desc).map (fun d => d.parameters.length) = some 1) := ⟨k85, k1382, by decide +kernel, by decide +kernel, by decide +kernel⟩
theorem k1381 : Cond.instanceMethod yX9_scenesOf ∈ gtbl := gm 1381 (by decide +kernel)
theorem k72 : Cond.selects RX9 yX9_scenesOf yX9_scenesOf ∈ gtbl := gm 72 (by decide +kernel)
theorem k1378 : Cond.code yX9_scenes cX9_scenes 2 (some .int) ∈ gtbl := gm 1378 (by decide +kernel)
theorem ck_m_scenes : (Cond.initialized Mm_scenes.1.cls ∈ gtbl) ∧ (Cond.code Mm_scenes.1 Mm_scenes.2.1 Mm_scenes.2.2.1 Mm_scenes.2.2.2.1 ∈ gtbl) ∧ (Mm_scenes.1.cls ≠ "java/lang/invoke/MethodHandle" ∧ Mm_scenes.1.cls ≠ "java/lang/invoke/VarHandle" ∧ (parseMethodDescriptor Mm_scenes.1.desc).map (fun d => d.parameters.length) = some 1) := ⟨k85, k1378, by decide +kernel, by decide +kernel, by decide +kernel⟩
theorem k1376 : Cond.instanceMethod yX9_scenes ∈ gtbl := gm 1376 (by decide +kernel)
theorem k1377 : Cond.selects RX9 yX9_scenes yX9_scenes ∈ gtbl := gm 1377 (by decide +kernel)
theorem k1390 : Cond.code yX9_cueOf cX9_cueOf 3 (some .int) ∈ gtbl := gm 1390 (by decide +kernel)
theorem ck_m_cueOf : (Cond.initialized Mm_cueOf.1.cls ∈ gtbl) ∧ (Cond.code Mm_cueOf.1 Mm_cueOf.2.1 Mm_cueOf.2.2.1 Mm_cueOf.2.2.2.1 ∈ gtbl) ∧ (Mm_cueOf.1.cls ≠ "java/lang/invoke/MethodHandle" ∧ Mm_cueOf.1.cls ≠ "java/lang/invoke/VarHandle" ∧ (parseMethodDescriptor Mm_cueOf.1.desc).map (fun d => d.parameters.length) = some 1) := ⟨k85, k1390, by decide +kernel, by decide +kernel, by decide +kernel⟩
theorem k1389 : Cond.instanceMethod yX9_cueOf ∈ gtbl := gm 1389 (by decide +kernel)
theorem k73 : Cond.selects RX9 yX9_cueOf yX9_cueOf ∈ gtbl := gm 73 (by decide +kernel)
theorem k1386 : Cond.code yX9_cue cX9_cue 2 (some .int) ∈ gtbl := gm 1386 (by decide +kernel)
theorem ck_m_cue : (Cond.initialized Mm_cue.1.cls ∈ gtbl) ∧ (Cond.code Mm_cue.1 Mm_cue.2.1 Mm_cue.2.2.1 Mm_cue.2.2.2.1 ∈ gtbl) ∧ (Mm_cue.1.cls ≠ "java/lang/invoke/MethodHandle" ∧ Mm_cue.1.cls ≠ "java/lang/invoke/VarHandle" ∧ (parseMethodDescriptor Mm_cue.1.desc).map (fun d => d.parameters.length) = some 1) := ⟨k85, k1386, by decide +kernel, by decide +kernel, by decide +kernel⟩
theorem k1384 : Cond.instanceMethod yX9_cue ∈ gtbl := gm 1384 (by decide +kernel)
theorem k1385 : Cond.selects RX9 yX9_cue yX9_cue ∈ gtbl := gm 1385 (by decide +kernel)
theorem k1394 : Cond.code yX9_forget cX9_forget 3 (some .int) ∈ gtbl := gm 1394 (by decide +kernel)
theorem ck_m_forget : (Cond.initialized Mm_forget.1.cls ∈ gtbl) ∧ (Cond.code Mm_forget.1 Mm_forget.2.1 Mm_forget.2.2.1 Mm_forget.2.2.2.1 ∈ gtbl) ∧ (Mm_forget.1.cls ≠ "java/lang/invoke/MethodHandle" ∧ Mm_forget.1.cls ≠ "java/lang/invoke/VarHandle" ∧ (parseMethodDescriptor Mm_forget.1.desc).map (fun d => d.parameters.length) = some 1) := ⟨k85, k1394, by decide +kernel, by decide +kernel, by decide +kernel⟩
theorem k1392 : Cond.instanceMethod yX9_forget ∈ gtbl := gm 1392 (by decide +kernel)
theorem k1393 : Cond.selects RX9 yX9_forget yX9_forget ∈ gtbl := gm 1393 (by decide +kernel)
theorem k1398 : Cond.code yX9_write cX9_write 7 (some .int) ∈ gtbl := gm 1398 (by decide +kernel)
theorem ck_m_write : (Cond.initialized Mm_write.1.cls ∈ gtbl) ∧ (Cond.code Mm_write.1 Mm_write.2.1 Mm_write.2.2.1 Mm_write.2.2.2.1 ∈ gtbl) ∧ (Mm_write.1.cls ≠ "java/lang/invoke/MethodHandle" ∧ Mm_write.1.cls ≠ "java/lang/invoke/VarHandle" ∧ (parseMethodDescriptor Mm_write.1.desc).map (fun d => d.parameters.length) = some 3) := ⟨k85, k1398, by decide +kernel, by decide +kernel, by decide +kernel⟩
theorem k1396 : Cond.instanceMethod yX9_write ∈ gtbl := gm 1396 (by decide +kernel)
theorem k1397 : Cond.selects RX9 yX9_write yX9_write ∈ gtbl := gm 1397 (by decide +kernel)
theorem k1402 : Cond.code yX9_count cX9_count 4 (some .int) ∈ gtbl := gm 1402 (by decide +kernel)
theorem ck_m_count : (Cond.initialized Mm_count.1.cls ∈ gtbl) ∧ (Cond.code Mm_count.1 Mm_count.2.1 Mm_count.2.2.1 Mm_count.2.2.2.1 ∈ gtbl) ∧ (Mm_count.1.cls ≠ "java/lang/invoke/MethodHandle" ∧ Mm_count.1.cls ≠ "java/lang/invoke/VarHandle" ∧ (parseMethodDescriptor Mm_count.1.desc).map (fun d => d.parameters.length) = some 1) := ⟨k85, k1402, by decide +kernel, by decide +kernel, by decide +kernel⟩
theorem k1400 : Cond.instanceMethod yX9_count ∈ gtbl := gm 1400 (by decide +kernel)
theorem k1401 : Cond.selects RX9 yX9_count yX9_count ∈ gtbl := gm 1401 (by decide +kernel)
theorem k1409 : Cond.code yX9_digest cX9_digest 5 (some .long) ∈ gtbl := gm 1409 (by decide +kernel)
theorem ck_m_digest : (Cond.initialized Mm_digest.1.cls ∈ gtbl) ∧ (Cond.code Mm_digest.1 Mm_digest.2.1 Mm_digest.2.2.1 Mm_digest.2.2.2.1 ∈ gtbl) ∧ (Mm_digest.1.cls ≠ "java/lang/invoke/MethodHandle" ∧ Mm_digest.1.cls ≠ "java/lang/invoke/VarHandle" ∧ (parseMethodDescriptor Mm_digest.1.desc).map (fun d => d.parameters.length) = some 0) := ⟨k85, k1409, by decide +kernel, by decide +kernel, by decide +kernel⟩
theorem k1407 : Cond.instanceMethod yX9_digest ∈ gtbl := gm 1407 (by decide +kernel)
theorem k1408 : Cond.selects RX9 yX9_digest yX9_digest ∈ gtbl := gm 1408 (by decide +kernel)
theorem k88 : Cond.initialized RJ6 ∈ gtbl := gm 88 (by decide +kernel)
theorem k901 : Cond.code yJ6_bitCount_0f7a4 cJ6_bitCount_0f7a4 1 (some .int) ∈ gtbl := gm 901 (by decide +kernel)
theorem ck_k_bitCount : (Cond.initialized Mk_bitCount.1.cls ∈ gtbl) ∧ (Cond.code Mk_bitCount.1 Mk_bitCount.2.1 Mk_bitCount.2.2.1 Mk_bitCount.2.2.2.1 ∈ gtbl) ∧ (Mk_bitCount.1.cls ≠ "java/lang/invoke/MethodHandle" ∧ Mk_bitCount.1.cls ≠ "java/lang/invoke/VarHandle" ∧ (parseMethodDescriptor Mk_bitCount.1.desc).map (fun d => d.parameters.length) = some 1) := ⟨k88, k901, by decide +kernel, by decide +kernel, by decide +kernel⟩
theorem k900 : Cond.static yJ6_bitCount_0f7a4 ∈ gtbl := gm 900 (by decide +kernel)
theorem k86 : Cond.initialized RJ9 ∈ gtbl := gm 86 (by decide +kernel)
theorem k760 : Cond.code yJ9_abs_0f7a4 cJ9_abs_0f7a4 1 (some .int) ∈ gtbl := gm 760 (by decide +kernel)
theorem ck_k_abs : (Cond.initialized Mk_abs.1.cls ∈ gtbl) ∧ (Cond.code Mk_abs.1 Mk_abs.2.1 Mk_abs.2.2.1 Mk_abs.2.2.2.1 ∈ gtbl) ∧ (Mk_abs.1.cls ≠ "java/lang/invoke/MethodHandle" ∧ Mk_abs.1.cls ≠ "java/lang/invoke/VarHandle" ∧ (parseMethodDescriptor Mk_abs.1.desc).map (fun d => d.parameters.length) = some 1) := ⟨k86, k760, by decide +kernel, by decide +kernel, by decide +kernel⟩
theorem k759 : Cond.static yJ9_abs_0f7a4 ∈ gtbl := gm 759 (by decide +kernel)
theorem k473 : Cond.code yJ9_max_7cf53 cJ9_max_7cf53 2 (some .int) ∈ gtbl := gm 473 (by decide +kernel)
theorem ck_k_max : (Cond.initialized Mk_max.1.cls ∈ gtbl) ∧ (Cond.code Mk_max.1 Mk_max.2.1 Mk_max.2.2.1 Mk_max.2.2.2.1 ∈ gtbl) ∧ (Mk_max.1.cls ≠ "java/lang/invoke/MethodHandle" ∧ Mk_max.1.cls ≠ "java/lang/invoke/VarHandle" ∧ (parseMethodDescriptor Mk_max.1.desc).map (fun d => d.parameters.length) = some 2) := ⟨k86, k473, by decide +kernel, by decide +kernel, by decide +kernel⟩
theorem k472 : Cond.static yJ9_max_7cf53 ∈ gtbl := gm 472 (by decide +kernel)
theorem k634 : Cond.code yJ9_min_7cf53 cJ9_min_7cf53 2 (some .int) ∈ gtbl := gm 634 (by decide +kernel)
theorem ck_k_min : (Cond.initialized Mk_min.1.cls ∈ gtbl) ∧ (Cond.code Mk_min.1 Mk_min.2.1 Mk_min.2.2.1 Mk_min.2.2.2.1 ∈ gtbl) ∧ (Mk_min.1.cls ≠ "java/lang/invoke/MethodHandle" ∧ Mk_min.1.cls ≠ "java/lang/invoke/VarHandle" ∧ (parseMethodDescriptor Mk_min.1.desc).map (fun d => d.parameters.length) = some 2) := ⟨k86, k634, by decide +kernel, by decide +kernel, by decide +kernel⟩
theorem k633 : Cond.static yJ9_min_7cf53 ∈ gtbl := gm 633 (by decide +kernel)
theorem k84 : Cond.initialized RJ7 ∈ gtbl := gm 84 (by decide +kernel)
theorem k325 : Cond.code yJ7_fill_53178 cJ7_fill_53178 4 none ∈ gtbl := gm 325 (by decide +kernel)
theorem ck_k_fill : (Cond.initialized Mk_fill.1.cls ∈ gtbl) ∧ (Cond.code Mk_fill.1 Mk_fill.2.1 Mk_fill.2.2.1 Mk_fill.2.2.2.1 ∈ gtbl) ∧ (Mk_fill.1.cls ≠ "java/lang/invoke/MethodHandle" ∧ Mk_fill.1.cls ≠ "java/lang/invoke/VarHandle" ∧ (parseMethodDescriptor Mk_fill.1.desc).map (fun d => d.parameters.length) = some 2) := ⟨k84, k325, by decide +kernel, by decide +kernel, by decide +kernel⟩
theorem k324 : Cond.static yJ7_fill_53178 ∈ gtbl := gm 324 (by decide +kernel)
theorem k525 : Cond.methodLink RX0 39 yX0_playFrom ∈ gtbl := gm 525 (by decide +kernel)
theorem ln_b_add_39 : VL Mb_add Mb_playFrom 39 1 0 := ⟨k525, k395, k396, ⟨_, _, rfl⟩, ⟨ck_b_playFrom.1, ck_b_playFrom.2.1, ck_b_playFrom.2.2, by decide, by decide⟩⟩
theorem k398 : Cond.methodLink RX0 43 yX0_afterPull ∈ gtbl := gm 398 (by decide +kernel)
theorem ln_b_playFrom_43 : VL Mb_playFrom Mb_afterPull 43 2 0 := ⟨k398, k400, k3, ⟨_, _, rfl⟩, ⟨ck_b_afterPull.1, ck_b_afterPull.2.1, ck_b_afterPull.2.2, by decide, by decide⟩⟩
theorem k408 : Cond.methodLink RX0 47 yX0_afterLetIn ∈ gtbl := gm 408 (by decide +kernel)
theorem ln_b_playFrom_47 : VL Mb_playFrom Mb_afterLetIn 47 1 0 := ⟨k408, k410, k4, ⟨_, _, rfl⟩, ⟨ck_b_afterLetIn.1, ck_b_afterLetIn.2.1, ck_b_afterLetIn.2.2, by decide, by decide⟩⟩
theorem k412 : Cond.methodLink RX0 51 yX0_fillLoad ∈ gtbl := gm 412 (by decide +kernel)
theorem ln_b_afterLetIn_51 : VL Mb_afterLetIn Mb_fillLoad 51 1 0 := ⟨k412, k414, k5, ⟨_, _, rfl⟩, ⟨ck_b_fillLoad.1, ck_b_fillLoad.2.1, ck_b_fillLoad.2.2, by decide, by decide⟩⟩
theorem k421 : Cond.methodLink RX0 54 yX7_find ∈ gtbl := gm 421 (by decide +kernel)
theorem ln_b_afterLetIn_54 : VL Mb_afterLetIn Mw_find 54 2 7 := ⟨k421, k422, k423, ⟨_, _, rfl⟩, ⟨ck_w_find.1, ck_w_find.2.1, ck_w_find.2.2, by decide, by decide⟩⟩
theorem k450 : Cond.methodLink RX0 58 yX7_rowBits ∈ gtbl := gm 450 (by decide +kernel)
theorem ln_b_afterLetIn_58 : VL Mb_afterLetIn Mw_rowBits 58 0 7 := ⟨k450, k451, k452, ⟨_, _, rfl⟩, ⟨ck_w_rowBits.1, ck_w_rowBits.2.1, ck_w_rowBits.2.2, by decide, by decide⟩⟩
theorem kn405 : Cond.methodLinkNest RX0 62 yX8_bit "FerretCables" ∈ lw_tbl := List.mem_of_getElem? (i := 405) (by decide +kernel)
theorem ln_b_afterLetIn_62 : SN Mb_afterLetIn Mx_bit 62 1 := ⟨⟨_, kn405⟩, k406, ⟨ck_x_bit.1, ck_x_bit.2.1, ck_x_bit.2.2, by decide, by decide⟩⟩
theorem kn402 : Cond.methodLinkNest RX0 65 yX8_hasBit "FerretCables" ∈ lw_tbl := List.mem_of_getElem? (i := 402) (by decide +kernel)
theorem ln_b_afterPull_65 : SN Mb_afterPull Mx_hasBit 65 2 := ⟨⟨_, kn402⟩, k403, ⟨ck_x_hasBit.1, ck_x_hasBit.2.1, ck_x_hasBit.2.2, by decide, by decide⟩⟩
theorem ln_b_afterPull_62 : SN Mb_afterPull Mx_bit 62 1 := ⟨⟨_, kn405⟩, k406, ⟨ck_x_bit.1, ck_x_bit.2.1, ck_x_bit.2.2, by decide, by decide⟩⟩
theorem k570 : Cond.methodLink RX0 68 yX0_isDone ∈ gtbl := gm 570 (by decide +kernel)
theorem ln_b_firstNotDone_68 : VL Mb_firstNotDone Mb_isDone 68 1 0 := ⟨k570, k572, k12, ⟨_, _, rfl⟩, ⟨ck_b_isDone.1, ck_b_isDone.2.1, ck_b_isDone.2.2, by decide, by decide⟩⟩
theorem ln_b_howManyDone_68 : VL Mb_howManyDone Mb_isDone 68 1 0 := ⟨k570, k572, k12, ⟨_, _, rfl⟩, ⟨ck_b_isDone.1, ck_b_isDone.2.1, ck_b_isDone.2.2, by decide, by decide⟩⟩
theorem ln_b_endsOf_62 : SN Mb_endsOf Mx_bit 62 1 := ⟨⟨_, kn405⟩, k406, ⟨ck_x_bit.1, ck_x_bit.2.1, ck_x_bit.2.2, by decide, by decide⟩⟩
theorem k417 : Cond.methodLink RX0 72 yX0_pipesOf ∈ gtbl := gm 417 (by decide +kernel)
theorem ln_b_wiresIn_72 : VL Mb_wiresIn Mb_pipesOf 72 2 0 := ⟨k417, k418, k419, ⟨_, _, rfl⟩, ⟨ck_b_pipesOf.1, ck_b_pipesOf.2.1, ck_b_pipesOf.2.2, by decide, by decide⟩⟩
theorem ln_b_wiresIn_65 : SN Mb_wiresIn Mx_hasBit 65 2 := ⟨⟨_, kn402⟩, k403, ⟨ck_x_hasBit.1, ck_x_hasBit.2.1, ck_x_hasBit.2.2, by decide, by decide⟩⟩
theorem k586 : Cond.methodLink RX0 78 yX0_wiresIn ∈ gtbl := gm 586 (by decide +kernel)
theorem ln_b_fullPipes_78 : VL Mb_fullPipes Mb_wiresIn 78 2 0 := ⟨k586, k491, k492, ⟨_, _, rfl⟩, ⟨ck_b_wiresIn.1, ck_b_wiresIn.2.1, ck_b_wiresIn.2.2, by decide, by decide⟩⟩
theorem ln_b_fullPipes_62 : SN Mb_fullPipes Mx_bit 62 1 := ⟨⟨_, kn405⟩, k406, ⟨ck_x_bit.1, ck_x_bit.2.1, ck_x_bit.2.2, by decide, by decide⟩⟩
theorem k601 : Cond.methodLink RX0 84 yX0_lyingNow ∈ gtbl := gm 601 (by decide +kernel)
theorem ln_b_loadNow_84 : VL Mb_loadNow Mb_lyingNow 84 0 0 := ⟨k601, k487, k488, ⟨_, _, rfl⟩, ⟨ck_b_lyingNow.1, ck_b_lyingNow.2.1, ck_b_lyingNow.2.2, by decide, by decide⟩⟩
theorem ln_b_loadNow_51 : VL Mb_loadNow Mb_fillLoad 51 1 0 := ⟨k412, k414, k5, ⟨_, _, rfl⟩, ⟨ck_b_fillLoad.1, ck_b_fillLoad.2.1, ck_b_fillLoad.2.2, by decide, by decide⟩⟩
theorem k416 : Cond.methodLink RX0 90 yJ7_fill_53178 ∈ gtbl := gm 416 (by decide +kernel)
theorem ln_b_fillLoad_90 : SL Mb_fillLoad Mk_fill 90 2 := ⟨k416, k324, ⟨ck_k_fill.1, ck_k_fill.2.1, ck_k_fill.2.2, by decide, by decide⟩⟩
theorem ln_b_fillLoad_72 : VL Mb_fillLoad Mb_pipesOf 72 2 0 := ⟨k417, k418, k419, ⟨_, _, rfl⟩, ⟨ck_b_pipesOf.1, ck_b_pipesOf.2.1, ck_b_pipesOf.2.2, by decide, by decide⟩⟩
theorem ln_b_drawnOutWith_84 : VL Mb_drawnOutWith Mb_lyingNow 84 0 0 := ⟨k601, k487, k488, ⟨_, _, rfl⟩, ⟨ck_b_lyingNow.1, ck_b_lyingNow.2.1, ck_b_lyingNow.2.2, by decide, by decide⟩⟩
theorem ln_b_drawnOutWith_62 : SN Mb_drawnOutWith Mx_bit 62 1 := ⟨⟨_, kn405⟩, k406, ⟨ck_x_bit.1, ck_x_bit.2.1, ck_x_bit.2.2, by decide, by decide⟩⟩
theorem ln_b_drawnOutWith_72 : VL Mb_drawnOutWith Mb_pipesOf 72 2 0 := ⟨k417, k418, k419, ⟨_, _, rfl⟩, ⟨ck_b_pipesOf.1, ck_b_pipesOf.2.1, ck_b_pipesOf.2.2, by decide, by decide⟩⟩
theorem ln_b_joinedTo_62 : SN Mb_joinedTo Mx_bit 62 1 := ⟨⟨_, kn405⟩, k406, ⟨ck_x_bit.1, ck_x_bit.2.1, ck_x_bit.2.2, by decide, by decide⟩⟩
theorem ln_b_joinedTo_65 : SN Mb_joinedTo Mx_hasBit 65 2 := ⟨⟨_, kn402⟩, k403, ⟨ck_x_hasBit.1, ck_x_hasBit.2.1, ck_x_hasBit.2.2, by decide, by decide⟩⟩
theorem k693 : Cond.methodLink RX0 96 yX0_endsOf ∈ gtbl := gm 693 (by decide +kernel)
theorem ln_b_joinedTo_96 : VL Mb_joinedTo Mb_endsOf 96 1 0 := ⟨k693, k694, k695, ⟨_, _, rfl⟩, ⟨ck_b_endsOf.1, ck_b_endsOf.2.1, ck_b_endsOf.2.2, by decide, by decide⟩⟩
theorem k643 : Cond.methodLink RX1 32 yJ7_fill_53178 ∈ gtbl := gm 643 (by decide +kernel)
theorem ln_f_greatest_32 : SL Mf_greatest Mk_fill 32 2 := ⟨k643, k324, ⟨ck_k_fill.1, ck_k_fill.2.1, ck_k_fill.2.2, by decide, by decide⟩⟩
theorem k644 : Cond.methodLink RX1 38 yX1_seekRoom ∈ gtbl := gm 644 (by decide +kernel)
theorem ln_f_greatest_38 : VL Mf_greatest Mf_seekRoom 38 2 1 := ⟨k644, k646, k16, ⟨_, _, rfl⟩, ⟨ck_f_seekRoom.1, ck_f_seekRoom.2.1, ck_f_seekRoom.2.2, by decide, by decide⟩⟩
theorem k660 : Cond.methodLink RX1 42 yX1_push ∈ gtbl := gm 660 (by decide +kernel)
theorem ln_f_greatest_42 : VL Mf_greatest Mf_push 42 2 1 := ⟨k660, k662, k18, ⟨_, _, rfl⟩, ⟨ck_f_push.1, ck_f_push.2.1, ck_f_push.2.2, by decide, by decide⟩⟩
theorem ln_f_seekRoom_32 : SL Mf_seekRoom Mk_fill 32 2 := ⟨k643, k324, ⟨ck_k_fill.1, ck_k_fill.2.1, ck_k_fill.2.2, by decide, by decide⟩⟩
theorem kn648 : Cond.methodLinkNest RX1 46 yX8_bit "FerretCables" ∈ lw_tbl := List.mem_of_getElem? (i := 648) (by decide +kernel)
theorem ln_f_seekRoom_46 : SN Mf_seekRoom Mx_bit 46 1 := ⟨⟨_, kn648⟩, k406, ⟨ck_x_bit.1, ck_x_bit.2.1, ck_x_bit.2.2, by decide, by decide⟩⟩
theorem kn649 : Cond.methodLinkNest RX1 50 yX8_hasBit "FerretCables" ∈ lw_tbl := List.mem_of_getElem? (i := 649) (by decide +kernel)
theorem ln_f_seekRoom_50 : SN Mf_seekRoom Mx_hasBit 50 2 := ⟨⟨_, kn649⟩, k403, ⟨ck_x_hasBit.1, ck_x_hasBit.2.1, ck_x_hasBit.2.2, by decide, by decide⟩⟩
theorem k650 : Cond.methodLink RX1 59 yX4_touches ∈ gtbl := gm 650 (by decide +kernel)
theorem ln_f_seekRoom_59 : VL Mf_seekRoom Mp_touches 59 2 4 := ⟨k650, k443, k444, ⟨_, _, rfl⟩, ⟨ck_p_touches.1, ck_p_touches.2.1, ck_p_touches.2.2, by decide, by decide⟩⟩
theorem k651 : Cond.methodLink RX1 62 yX1_hasRoom ∈ gtbl := gm 651 (by decide +kernel)
theorem ln_f_seekRoom_62 : VL Mf_seekRoom Mf_hasRoom 62 2 1 := ⟨k651, k653, k17, ⟨_, _, rfl⟩, ⟨ck_f_hasRoom.1, ck_f_hasRoom.2.1, ck_f_hasRoom.2.2, by decide, by decide⟩⟩
theorem k659 : Cond.methodLink RX1 65 yX4_opposite ∈ gtbl := gm 659 (by decide +kernel)
theorem ln_f_seekRoom_65 : VL Mf_seekRoom Mp_opposite 65 2 4 := ⟨k659, k447, k448, ⟨_, _, rfl⟩, ⟨ck_p_opposite.1, ck_p_opposite.2.1, ck_p_opposite.2.2, by decide, by decide⟩⟩
theorem k655 : Cond.methodLink RX1 69 yX4_isShut ∈ gtbl := gm 655 (by decide +kernel)
theorem ln_f_hasRoom_69 : VL Mf_hasRoom Mp_isShut 69 1 4 := ⟨k655, k656, k657, ⟨_, _, rfl⟩, ⟨ck_p_isShut.1, ck_p_isShut.2.1, ck_p_isShut.2.2, by decide, by decide⟩⟩
theorem ln_f_push_65 : VL Mf_push Mp_opposite 65 2 4 := ⟨k659, k447, k448, ⟨_, _, rfl⟩, ⟨ck_p_opposite.1, ck_p_opposite.2.1, ck_p_opposite.2.2, by decide, by decide⟩⟩
theorem k705 : Cond.methodLink RX3 33 yX0_lyingNow ∈ gtbl := gm 705 (by decide +kernel)
theorem ln_l_seek_33 : VL Ml_seek Mb_lyingNow 33 0 0 := ⟨k705, k487, k488, ⟨_, _, rfl⟩, ⟨ck_b_lyingNow.1, ck_b_lyingNow.2.1, ck_b_lyingNow.2.2, by decide, by decide⟩⟩
theorem k706 : Cond.methodLink RX3 39 yX0_joinedTo ∈ gtbl := gm 706 (by decide +kernel)
theorem ln_l_seek_39 : VL Ml_seek Mb_joinedTo 39 2 0 := ⟨k706, k690, k691, ⟨_, _, rfl⟩, ⟨ck_b_joinedTo.1, ck_b_joinedTo.2.1, ck_b_joinedTo.2.2, by decide, by decide⟩⟩
theorem k707 : Cond.methodLink RX3 43 yX3_holdsAll ∈ gtbl := gm 707 (by decide +kernel)
theorem ln_l_seek_43 : SL Ml_seek Ml_holdsAll 43 2 := ⟨k707, k708, ⟨ck_l_holdsAll.1, ck_l_holdsAll.2.1, ck_l_holdsAll.2.2, by decide, by decide⟩⟩
theorem k710 : Cond.methodLink RX3 47 yX0_loadNow ∈ gtbl := gm 710 (by decide +kernel)
theorem ln_l_seek_47 : VL Ml_seek Mb_loadNow 47 0 0 := ⟨k710, k611, k612, ⟨_, _, rfl⟩, ⟨ck_b_loadNow.1, ck_b_loadNow.2.1, ck_b_loadNow.2.2, by decide, by decide⟩⟩
theorem k711 : Cond.methodLink RX3 50 yX3_lastLetIn ∈ gtbl := gm 711 (by decide +kernel)
theorem ln_l_seek_50 : VL Ml_seek Ml_lastLetIn 50 2 3 := ⟨k711, k713, k20, ⟨_, _, rfl⟩, ⟨ck_l_lastLetIn.1, ck_l_lastLetIn.2.1, ck_l_lastLetIn.2.2, by decide, by decide⟩⟩
theorem k729 : Cond.methodLink RX3 53 yX3_seekTwo ∈ gtbl := gm 729 (by decide +kernel)
theorem ln_l_seek_53 : VL Ml_seek Ml_seekTwo 53 1 3 := ⟨k729, k731, k23, ⟨_, _, rfl⟩, ⟨ck_l_seekTwo.1, ck_l_seekTwo.2.1, ck_l_seekTwo.2.2, by decide, by decide⟩⟩
theorem k733 : Cond.methodLink RX3 57 yX7_find ∈ gtbl := gm 733 (by decide +kernel)
theorem ln_l_seekTwo_57 : VL Ml_seekTwo Mw_find 57 2 7 := ⟨k733, k422, k423, ⟨_, _, rfl⟩, ⟨ck_w_find.1, ck_w_find.2.1, ck_w_find.2.2, by decide, by decide⟩⟩
theorem k734 : Cond.methodLink RX3 62 yX7_drawAlongRow ∈ gtbl := gm 734 (by decide +kernel)
theorem ln_l_seekTwo_62 : VL Ml_seekTwo Mw_drawAlongRow 62 1 7 := ⟨k734, k636, k637, ⟨_, _, rfl⟩, ⟨ck_w_drawAlongRow.1, ck_w_drawAlongRow.2.1, ck_w_drawAlongRow.2.2, by decide, by decide⟩⟩
theorem ln_l_seekTwo_50 : VL Ml_seekTwo Ml_lastLetIn 50 2 3 := ⟨k711, k713, k20, ⟨_, _, rfl⟩, ⟨ck_l_lastLetIn.1, ck_l_lastLetIn.2.1, ck_l_lastLetIn.2.2, by decide, by decide⟩⟩
theorem k715 : Cond.methodLink RX3 65 yX3_burningWith ∈ gtbl := gm 715 (by decide +kernel)
theorem ln_l_lastLetIn_65 : VL Ml_lastLetIn Ml_burningWith 65 2 3 := ⟨k715, k717, k21, ⟨_, _, rfl⟩, ⟨ck_l_burningWith.1, ck_l_burningWith.2.1, ck_l_burningWith.2.2, by decide, by decide⟩⟩
theorem ln_l_lastLetIn_43 : SL Ml_lastLetIn Ml_holdsAll 43 2 := ⟨k707, k708, ⟨ck_l_holdsAll.1, ck_l_holdsAll.2.1, ck_l_holdsAll.2.2, by decide, by decide⟩⟩
theorem k725 : Cond.methodLink RX3 68 yX7_reachedFrom ∈ gtbl := gm 725 (by decide +kernel)
theorem ln_l_lastLetIn_68 : VL Ml_lastLetIn Mw_reachedFrom 68 1 7 := ⟨k725, k726, k727, ⟨_, _, rfl⟩, ⟨ck_w_reachedFrom.1, ck_w_reachedFrom.2.1, ck_w_reachedFrom.2.2, by decide, by decide⟩⟩
theorem kn724 : Cond.methodLinkNest RX3 72 yX8_hasBit "FerretCables" ∈ lw_tbl := List.mem_of_getElem? (i := 724) (by decide +kernel)
theorem ln_l_lastLetIn_72 : SN Ml_lastLetIn Mx_hasBit 72 2 := ⟨⟨_, kn724⟩, k403, ⟨ck_x_hasBit.1, ck_x_hasBit.2.1, ck_x_hasBit.2.2, by decide, by decide⟩⟩
theorem k719 : Cond.methodLink RX3 75 yX3_spread ∈ gtbl := gm 719 (by decide +kernel)
theorem ln_l_burningWith_75 : VL Ml_burningWith Ml_spread 75 2 3 := ⟨k719, k721, k22, ⟨_, _, rfl⟩, ⟨ck_l_spread.1, ck_l_spread.2.1, ck_l_spread.2.2, by decide, by decide⟩⟩
theorem kn723 : Cond.methodLinkNest RX3 78 yX8_within "FerretCables" ∈ lw_tbl := List.mem_of_getElem? (i := 723) (by decide +kernel)
theorem ln_l_spread_78 : SN Ml_spread Mx_within 78 3 := ⟨⟨_, kn723⟩, k375, ⟨ck_x_within.1, ck_x_within.2.1, ck_x_within.2.2, by decide, by decide⟩⟩
theorem ln_l_spread_72 : SN Ml_spread Mx_hasBit 72 2 := ⟨⟨_, kn724⟩, k403, ⟨ck_x_hasBit.1, ck_x_hasBit.2.1, ck_x_hasBit.2.2, by decide, by decide⟩⟩
theorem k381 : Cond.methodLink RX4 40 yX4_fits ∈ gtbl := gm 381 (by decide +kernel)
theorem ln_p_append_40 : VL Mp_append Mp_fits 40 1 4 := ⟨k381, k383, k0, ⟨_, _, rfl⟩, ⟨ck_p_fits.1, ck_p_fits.2.1, ck_p_fits.2.2, by decide, by decide⟩⟩
theorem k386 : Cond.methodLink RX4 44 yX4_takeUp ∈ gtbl := gm 386 (by decide +kernel)
theorem ln_p_append_44 : VL Mp_append Mp_takeUp 44 1 4 := ⟨k386, k388, k1, ⟨_, _, rfl⟩, ⟨ck_p_takeUp.1, ck_p_takeUp.2.1, ck_p_takeUp.2.2, by decide, by decide⟩⟩
theorem k390 : Cond.methodLink RX4 48 yX4_settle ∈ gtbl := gm 390 (by decide +kernel)
theorem ln_p_append_48 : VL Mp_append Mp_settle 48 0 4 := ⟨k390, k392, k2, ⟨_, _, rfl⟩, ⟨ck_p_settle.1, ck_p_settle.2.1, ck_p_settle.2.2, by decide, by decide⟩⟩
theorem ln_p_clear_48 : VL Mp_clear Mp_settle 48 0 4 := ⟨k390, k392, k2, ⟨_, _, rfl⟩, ⟨ck_p_settle.1, ck_p_settle.2.1, ck_p_settle.2.2, by decide, by decide⟩⟩
theorem k471 : Cond.methodLink RX4 51 yJ9_max_7cf53 ∈ gtbl := gm 471 (by decide +kernel)
theorem ln_p_dropPipe_51 : SL Mp_dropPipe Mk_max 51 2 := ⟨k471, k472, ⟨ck_k_max.1, ck_k_max.2.1, ck_k_max.2.2, by decide, by decide⟩⟩
theorem ln_p_dropPipe_48 : VL Mp_dropPipe Mp_settle 48 0 4 := ⟨k390, k392, k2, ⟨_, _, rfl⟩, ⟨ck_p_settle.1, ck_p_settle.2.1, ck_p_settle.2.2, by decide, by decide⟩⟩
theorem kn385 : Cond.methodLinkNest RX4 57 yX8_within "FerretCables" ∈ lw_tbl := List.mem_of_getElem? (i := 385) (by decide +kernel)
theorem ln_p_fits_57 : SN Mp_fits Mx_within 57 3 := ⟨⟨_, kn385⟩, k375, ⟨ck_x_within.1, ck_x_within.2.1, ck_x_within.2.2, by decide, by decide⟩⟩
theorem ln_p_takeUp_57 : SN Mp_takeUp Mx_within 57 3 := ⟨⟨_, kn385⟩, k375, ⟨ck_x_within.1, ck_x_within.2.1, ck_x_within.2.2, by decide, by decide⟩⟩
theorem ln_p_hasPipe_57 : SN Mp_hasPipe Mx_within 57 3 := ⟨⟨_, kn385⟩, k375, ⟨ck_x_within.1, ck_x_within.2.1, ck_x_within.2.2, by decide, by decide⟩⟩
theorem kn676 : Cond.methodLinkNest RX4 67 yX8_hasBit "FerretCables" ∈ lw_tbl := List.mem_of_getElem? (i := 676) (by decide +kernel)
theorem ln_p_dampIn_67 : SN Mp_dampIn Mx_hasBit 67 2 := ⟨⟨_, kn676⟩, k403, ⟨ck_x_hasBit.1, ck_x_hasBit.2.1, ck_x_hasBit.2.2, by decide, by decide⟩⟩
theorem k743 : Cond.methodLink RX5 25 yJ7_fill_53178 ∈ gtbl := gm 743 (by decide +kernel)
theorem ln_r_follow_25 : SL Mr_follow Mk_fill 25 2 := ⟨k743, k324, ⟨ck_k_fill.1, ck_k_fill.2.1, ck_k_fill.2.2, by decide, by decide⟩⟩
theorem k744 : Cond.methodLink RX5 31 yX5_ring ∈ gtbl := gm 744 (by decide +kernel)
theorem ln_r_follow_31 : VL Mr_follow Mr_ring 31 0 5 := ⟨k744, k746, k24, ⟨_, _, rfl⟩, ⟨ck_r_ring.1, ck_r_ring.2.1, ck_r_ring.2.2, by decide, by decide⟩⟩
theorem k748 : Cond.methodLink RX5 40 yX4_isShut ∈ gtbl := gm 748 (by decide +kernel)
theorem ln_r_ring_40 : VL Mr_ring Mp_isShut 40 1 4 := ⟨k748, k656, k657, ⟨_, _, rfl⟩, ⟨ck_p_isShut.1, ck_p_isShut.2.1, ck_p_isShut.2.2, by decide, by decide⟩⟩
theorem ln_r_ring_25 : SL Mr_ring Mk_fill 25 2 := ⟨k743, k324, ⟨ck_k_fill.1, ck_k_fill.2.1, ck_k_fill.2.2, by decide, by decide⟩⟩
theorem kn753 : Cond.methodLinkNest RX5 50 yX8_bit "FerretCables" ∈ lw_tbl := List.mem_of_getElem? (i := 753) (by decide +kernel)
theorem ln_r_possibleEnds_50 : SN Mr_possibleEnds Mx_bit 50 1 := ⟨⟨_, kn753⟩, k406, ⟨ck_x_bit.1, ck_x_bit.2.1, ck_x_bit.2.2, by decide, by decide⟩⟩
theorem k769 : Cond.methodLink RX5 54 yX5_choicesAt ∈ gtbl := gm 769 (by decide +kernel)
theorem ln_r_stroll_54 : VL Mr_stroll Mr_choicesAt 54 1 5 := ⟨k769, k771, k25, ⟨_, _, rfl⟩, ⟨ck_r_choicesAt.1, ck_r_choicesAt.2.1, ck_r_choicesAt.2.2, by decide, by decide⟩⟩
theorem k779 : Cond.methodLink RX5 58 yX5_behindChoice ∈ gtbl := gm 779 (by decide +kernel)
theorem ln_r_stroll_58 : VL Mr_stroll Mr_behindChoice 58 2 5 := ⟨k779, k781, k27, ⟨_, _, rfl⟩, ⟨ck_r_behindChoice.1, ck_r_behindChoice.2.1, ck_r_behindChoice.2.2, by decide, by decide⟩⟩
theorem k773 : Cond.methodLink RX5 62 yX5_isChoice ∈ gtbl := gm 773 (by decide +kernel)
theorem ln_r_choicesAt_62 : VL Mr_choicesAt Mr_isChoice 62 2 5 := ⟨k773, k775, k26, ⟨_, _, rfl⟩, ⟨ck_r_isChoice.1, ck_r_isChoice.2.1, ck_r_isChoice.2.2, by decide, by decide⟩⟩
theorem ln_r_behindChoice_62 : VL Mr_behindChoice Mr_isChoice 62 2 5 := ⟨k773, k775, k26, ⟨_, _, rfl⟩, ⟨ck_r_isChoice.1, ck_r_isChoice.2.1, ck_r_isChoice.2.2, by decide, by decide⟩⟩
theorem k783 : Cond.methodLink RX5 66 yX4_opposite ∈ gtbl := gm 783 (by decide +kernel)
theorem ln_r_behindChoice_66 : VL Mr_behindChoice Mp_opposite 66 2 4 := ⟨k783, k447, k448, ⟨_, _, rfl⟩, ⟨ck_p_opposite.1, ck_p_opposite.2.1, ck_p_opposite.2.2, by decide, by decide⟩⟩
theorem ln_r_isChoice_40 : VL Mr_isChoice Mp_isShut 40 1 4 := ⟨k748, k656, k657, ⟨_, _, rfl⟩, ⟨ck_p_isShut.1, ck_p_isShut.2.1, ck_p_isShut.2.2, by decide, by decide⟩⟩
theorem k777 : Cond.methodLink RX5 69 yX4_touches ∈ gtbl := gm 777 (by decide +kernel)
theorem ln_r_isChoice_69 : VL Mr_isChoice Mp_touches 69 2 4 := ⟨k777, k443, k444, ⟨_, _, rfl⟩, ⟨ck_p_touches.1, ck_p_touches.2.1, ck_p_touches.2.2, by decide, by decide⟩⟩
theorem kn549 : Cond.methodLinkNest RX6 31 yX8_within "FerretCables" ∈ lw_tbl := List.mem_of_getElem? (i := 549) (by decide +kernel)
theorem ln_s_hasSheet_31 : SN Ms_hasSheet Mx_within 31 3 := ⟨⟨_, kn549⟩, k375, ⟨ck_x_within.1, ck_x_within.2.1, ck_x_within.2.2, by decide, by decide⟩⟩
theorem ln_s_isForm_31 : SN Ms_isForm Mx_within 31 3 := ⟨⟨_, kn549⟩, k375, ⟨ck_x_within.1, ck_x_within.2.1, ck_x_within.2.2, by decide, by decide⟩⟩
theorem k858 : Cond.methodLink RX6 35 yX6_isLost ∈ gtbl := gm 858 (by decide +kernel)
theorem ln_s_findingAt_35 : VL Ms_findingAt Ms_isLost 35 1 6 := ⟨k858, k551, k552, ⟨_, _, rfl⟩, ⟨ck_s_isLost.1, ck_s_isLost.2.1, ck_s_isLost.2.2, by decide, by decide⟩⟩
theorem ln_s_findingAt_31 : SN Ms_findingAt Mx_within 31 3 := ⟨⟨_, kn549⟩, k375, ⟨ck_x_within.1, ck_x_within.2.1, ck_x_within.2.2, by decide, by decide⟩⟩
theorem k863 : Cond.methodLink RX6 39 yX6_narrowed ∈ gtbl := gm 863 (by decide +kernel)
theorem ln_s_store_39 : SL Ms_store Ms_narrowed 39 2 := ⟨k863, k864, ⟨ck_s_narrowed.1, ck_s_narrowed.2.1, ck_s_narrowed.2.2, by decide, by decide⟩⟩
theorem k425 : Cond.methodLink RX7 34 yX7_measure ∈ gtbl := gm 425 (by decide +kernel)
theorem ln_w_find_34 : VL Mw_find Mw_measure 34 1 7 := ⟨k425, k427, k6, ⟨_, _, rfl⟩, ⟨ck_w_measure.1, ck_w_measure.2.1, ck_w_measure.2.2, by decide, by decide⟩⟩
theorem k438 : Cond.methodLink RX7 41 yX7_leastOnward ∈ gtbl := gm 438 (by decide +kernel)
theorem ln_w_find_41 : VL Mw_find Mw_leastOnward 41 1 7 := ⟨k438, k440, k8, ⟨_, _, rfl⟩, ⟨ck_w_leastOnward.1, ck_w_leastOnward.2.1, ck_w_leastOnward.2.2, by decide, by decide⟩⟩
theorem k446 : Cond.methodLink RX7 45 yX4_opposite ∈ gtbl := gm 446 (by decide +kernel)
theorem ln_w_find_45 : VL Mw_find Mp_opposite 45 2 4 := ⟨k446, k447, k448, ⟨_, _, rfl⟩, ⟨ck_p_opposite.1, ck_p_opposite.2.1, ck_p_opposite.2.2, by decide, by decide⟩⟩
theorem k429 : Cond.methodLink RX7 49 yJ7_fill_53178 ∈ gtbl := gm 429 (by decide +kernel)
theorem ln_w_measure_49 : SL Mw_measure Mk_fill 49 2 := ⟨k429, k324, ⟨ck_k_fill.1, ck_k_fill.2.1, ck_k_fill.2.2, by decide, by decide⟩⟩
theorem k430 : Cond.methodLink RX7 58 yX7_isOpen ∈ gtbl := gm 430 (by decide +kernel)
theorem ln_w_measure_58 : VL Mw_measure Mw_isOpen 58 1 7 := ⟨k430, k431, k432, ⟨_, _, rfl⟩, ⟨ck_w_isOpen.1, ck_w_isOpen.2.1, ck_w_isOpen.2.2, by decide, by decide⟩⟩
theorem k434 : Cond.methodLink RX7 62 yX7_shorten ∈ gtbl := gm 434 (by decide +kernel)
theorem ln_w_measure_62 : VL Mw_measure Mw_shorten 62 1 7 := ⟨k434, k436, k7, ⟨_, _, rfl⟩, ⟨ck_w_shorten.1, ck_w_shorten.2.1, ck_w_shorten.2.2, by decide, by decide⟩⟩
theorem ln_w_leastOnward_58 : VL Mw_leastOnward Mw_isOpen 58 1 7 := ⟨k430, k431, k432, ⟨_, _, rfl⟩, ⟨ck_w_isOpen.1, ck_w_isOpen.2.1, ck_w_isOpen.2.2, by decide, by decide⟩⟩
theorem k442 : Cond.methodLink RX7 74 yX4_touches ∈ gtbl := gm 442 (by decide +kernel)
theorem ln_w_leastOnward_74 : VL Mw_leastOnward Mp_touches 74 2 4 := ⟨k442, k443, k444, ⟨_, _, rfl⟩, ⟨ck_p_touches.1, ck_p_touches.2.1, ck_p_touches.2.2, by decide, by decide⟩⟩
theorem ln_w_leastOnward_45 : VL Mw_leastOnward Mp_opposite 45 2 4 := ⟨k446, k447, k448, ⟨_, _, rfl⟩, ⟨ck_p_opposite.1, ck_p_opposite.2.1, ck_p_opposite.2.2, by decide, by decide⟩⟩
theorem kn454 : Cond.methodLinkNest RX7 78 yX8_bit "FerretCables" ∈ lw_tbl := List.mem_of_getElem? (i := 454) (by decide +kernel)
theorem ln_w_rowBits_78 : SN Mw_rowBits Mx_bit 78 1 := ⟨⟨_, kn454⟩, k406, ⟨ck_x_bit.1, ck_x_bit.2.1, ck_x_bit.2.2, by decide, by decide⟩⟩
theorem k627 : Cond.methodLink RX7 81 yX7_find ∈ gtbl := gm 627 (by decide +kernel)
theorem ln_w_drawAll_81 : VL Mw_drawAll Mw_find 81 2 7 := ⟨k627, k422, k423, ⟨_, _, rfl⟩, ⟨ck_w_find.1, ck_w_find.2.1, ck_w_find.2.2, by decide, by decide⟩⟩
theorem k628 : Cond.methodLink RX7 84 yX7_roomInRow ∈ gtbl := gm 628 (by decide +kernel)
theorem ln_w_drawAll_84 : VL Mw_drawAll Mw_roomInRow 84 0 7 := ⟨k628, k630, k15, ⟨_, _, rfl⟩, ⟨ck_w_roomInRow.1, ck_w_roomInRow.2.1, ck_w_roomInRow.2.2, by decide, by decide⟩⟩
theorem k635 : Cond.methodLink RX7 88 yX7_drawAlongRow ∈ gtbl := gm 635 (by decide +kernel)
theorem ln_w_drawAll_88 : VL Mw_drawAll Mw_drawAlongRow 88 1 7 := ⟨k635, k636, k637, ⟨_, _, rfl⟩, ⟨ck_w_drawAlongRow.1, ck_w_drawAlongRow.2.1, ck_w_drawAlongRow.2.2, by decide, by decide⟩⟩
theorem k632 : Cond.methodLink RX7 91 yJ9_min_7cf53 ∈ gtbl := gm 632 (by decide +kernel)
theorem ln_w_roomInRow_91 : SL Mw_roomInRow Mk_min 91 2 := ⟨k632, k633, ⟨ck_k_min.1, ck_k_min.2.1, ck_k_min.2.2, by decide, by decide⟩⟩
theorem ln_w_reachedFrom_78 : SN Mw_reachedFrom Mx_bit 78 1 := ⟨⟨_, kn454⟩, k406, ⟨ck_x_bit.1, ck_x_bit.2.1, ck_x_bit.2.2, by decide, by decide⟩⟩
theorem ln_w_reachedFrom_58 : VL Mw_reachedFrom Mw_isOpen 58 1 7 := ⟨k430, k431, k432, ⟨_, _, rfl⟩, ⟨ck_w_isOpen.1, ck_w_isOpen.2.1, ck_w_isOpen.2.2, by decide, by decide⟩⟩
theorem k374 : Cond.methodLink RX8 75 yX8_within ∈ gtbl := gm 374 (by decide +kernel)
theorem ln_x_type_75 : SL Mx_type Mx_within 75 3 := ⟨k374, k375, ⟨ck_x_within.1, ck_x_within.2.1, ck_x_within.2.2, by decide, by decide⟩⟩
theorem k377 : Cond.methodLink RX8 82 yX4_append ∈ gtbl := gm 377 (by decide +kernel)
theorem ln_x_type_82 : VL Mx_type Mp_append 82 1 4 := ⟨k377, k378, k379, ⟨_, _, rfl⟩, ⟨ck_p_append.1, ck_p_append.2.1, ck_p_append.2.2, by decide, by decide⟩⟩
theorem k394 : Cond.methodLink RX8 86 yX0_playFrom ∈ gtbl := gm 394 (by decide +kernel)
theorem ln_x_type_86 : VL Mx_type Mb_playFrom 86 1 0 := ⟨k394, k395, k396, ⟨_, _, rfl⟩, ⟨ck_b_playFrom.1, ck_b_playFrom.2.1, ck_b_playFrom.2.2, by decide, by decide⟩⟩
theorem k459 : Cond.methodLink RX8 89 yX4_clear ∈ gtbl := gm 459 (by decide +kernel)
theorem ln_x_wipe_89 : VL Mx_wipe Mp_clear 89 0 4 := ⟨k459, k460, k461, ⟨_, _, rfl⟩, ⟨ck_p_clear.1, ck_p_clear.2.1, ck_p_clear.2.2, by decide, by decide⟩⟩
theorem ln_x_wipe_86 : VL Mx_wipe Mb_playFrom 86 1 0 := ⟨k394, k395, k396, ⟨_, _, rfl⟩, ⟨ck_b_playFrom.1, ck_b_playFrom.2.1, ck_b_playFrom.2.2, by decide, by decide⟩⟩
theorem k467 : Cond.methodLink RX8 95 yX4_dropPipe ∈ gtbl := gm 467 (by decide +kernel)
theorem ln_x_undo_95 : VL Mx_undo Mp_dropPipe 95 0 4 := ⟨k467, k468, k469, ⟨_, _, rfl⟩, ⟨ck_p_dropPipe.1, ck_p_dropPipe.2.1, ck_p_dropPipe.2.2, by decide, by decide⟩⟩
theorem ln_x_undo_86 : VL Mx_undo Mb_playFrom 86 1 0 := ⟨k394, k395, k396, ⟨_, _, rfl⟩, ⟨ck_b_playFrom.1, ck_b_playFrom.2.1, ck_b_playFrom.2.2, by decide, by decide⟩⟩
theorem k482 : Cond.methodLink RX8 101 yX4_hasPipe ∈ gtbl := gm 482 (by decide +kernel)
theorem ln_x_pipe_101 : VL Mx_pipe Mp_hasPipe 101 1 4 := ⟨k482, k483, k484, ⟨_, _, rfl⟩, ⟨ck_p_hasPipe.1, ck_p_hasPipe.2.1, ck_p_hasPipe.2.2, by decide, by decide⟩⟩
theorem k486 : Cond.methodLink RX8 118 yX0_lyingNow ∈ gtbl := gm 486 (by decide +kernel)
theorem ln_x_pipe_118 : VL Mx_pipe Mb_lyingNow 118 0 0 := ⟨k486, k487, k488, ⟨_, _, rfl⟩, ⟨ck_b_lyingNow.1, ck_b_lyingNow.2.1, ck_b_lyingNow.2.2, by decide, by decide⟩⟩
theorem k490 : Cond.methodLink RX8 122 yX0_wiresIn ∈ gtbl := gm 490 (by decide +kernel)
theorem ln_x_pipe_122 : VL Mx_pipe Mb_wiresIn 122 2 0 := ⟨k490, k491, k492, ⟨_, _, rfl⟩, ⟨ck_b_wiresIn.1, ck_b_wiresIn.2.1, ck_b_wiresIn.2.2, by decide, by decide⟩⟩
theorem ln_x_set_75 : SL Mx_set Mx_within 75 3 := ⟨k374, k375, ⟨ck_x_within.1, ck_x_within.2.1, ck_x_within.2.2, by decide, by decide⟩⟩
theorem k499 : Cond.methodLink RX8 127 yX8_setShut ∈ gtbl := gm 499 (by decide +kernel)
theorem ln_x_set_127 : VL Mx_set Mx_setShut 127 1 8 := ⟨k499, k501, k9, ⟨_, _, rfl⟩, ⟨ck_x_setShut.1, ck_x_setShut.2.1, ck_x_setShut.2.2, by decide, by decide⟩⟩
theorem k503 : Cond.methodLink RX8 131 yX8_setTakes ∈ gtbl := gm 503 (by decide +kernel)
theorem ln_x_set_131 : VL Mx_set Mx_setTakes 131 1 8 := ⟨k503, k505, k10, ⟨_, _, rfl⟩, ⟨ck_x_setTakes.1, ck_x_setTakes.2.1, ck_x_setTakes.2.2, by decide, by decide⟩⟩
theorem k507 : Cond.methodLink RX8 134 yX8_setHard ∈ gtbl := gm 507 (by decide +kernel)
theorem ln_x_set_134 : VL Mx_set Mx_setHard 134 1 8 := ⟨k507, k509, k11, ⟨_, _, rfl⟩, ⟨ck_x_setHard.1, ck_x_setHard.2.1, ck_x_setHard.2.2, by decide, by decide⟩⟩
theorem ln_x_setShut_86 : VL Mx_setShut Mb_playFrom 86 1 0 := ⟨k394, k395, k396, ⟨_, _, rfl⟩, ⟨ck_b_playFrom.1, ck_b_playFrom.2.1, ck_b_playFrom.2.2, by decide, by decide⟩⟩
theorem ln_x_setTakes_86 : VL Mx_setTakes Mb_playFrom 86 1 0 := ⟨k394, k395, k396, ⟨_, _, rfl⟩, ⟨ck_b_playFrom.1, ck_b_playFrom.2.1, ck_b_playFrom.2.2, by decide, by decide⟩⟩
theorem k515 : Cond.methodLink RX8 143 yX8_areTwoEnds ∈ gtbl := gm 515 (by decide +kernel)
theorem ln_x_letIn_143 : SL Mx_letIn Mx_areTwoEnds 143 2 := ⟨k515, k516, ⟨ck_x_areTwoEnds.1, ck_x_areTwoEnds.2.1, ck_x_areTwoEnds.2.2, by decide, by decide⟩⟩
theorem k521 : Cond.methodLink RX8 147 yX0_add ∈ gtbl := gm 521 (by decide +kernel)
theorem ln_x_letIn_147 : VL Mx_letIn Mb_add 147 2 0 := ⟨k521, k522, k523, ⟨_, _, rfl⟩, ⟨ck_b_add.1, ck_b_add.2.1, ck_b_add.2.2, by decide, by decide⟩⟩
theorem k530 : Cond.methodLink RX8 150 yX8_isWire ∈ gtbl := gm 530 (by decide +kernel)
theorem ln_x_pull_150 : SL Mx_pull Mx_isWire 150 1 := ⟨k530, k531, ⟨ck_x_isWire.1, ck_x_isWire.2.1, ck_x_isWire.2.2, by decide, by decide⟩⟩
theorem ln_x_pull_147 : VL Mx_pull Mb_add 147 2 0 := ⟨k521, k522, k523, ⟨_, _, rfl⟩, ⟨ck_b_add.1, ck_b_add.2.1, ck_b_add.2.2, by decide, by decide⟩⟩
theorem k537 : Cond.methodLink RX8 154 yX0_dropStep ∈ gtbl := gm 537 (by decide +kernel)
theorem ln_x_back_154 : VL Mx_back Mb_dropStep 154 0 0 := ⟨k537, k538, k539, ⟨_, _, rfl⟩, ⟨ck_b_dropStep.1, ck_b_dropStep.2.1, ck_b_dropStep.2.2, by decide, by decide⟩⟩
theorem k545 : Cond.methodLink RX8 157 yX6_hasSheet ∈ gtbl := gm 545 (by decide +kernel)
theorem ln_x_read_157 : VL Mx_read Ms_hasSheet 157 1 6 := ⟨k545, k546, k547, ⟨_, _, rfl⟩, ⟨ck_s_hasSheet.1, ck_s_hasSheet.2.1, ck_s_hasSheet.2.2, by decide, by decide⟩⟩
theorem k550 : Cond.methodLink RX8 160 yX6_isLost ∈ gtbl := gm 550 (by decide +kernel)
theorem ln_x_read_160 : VL Mx_read Ms_isLost 160 1 6 := ⟨k550, k551, k552, ⟨_, _, rfl⟩, ⟨ck_s_isLost.1, ck_s_isLost.2.1, ck_s_isLost.2.2, by decide, by decide⟩⟩
theorem k554 : Cond.methodLink RX8 163 yX6_found ∈ gtbl := gm 554 (by decide +kernel)
theorem ln_x_read_163 : VL Mx_read Ms_found 163 1 6 := ⟨k554, k555, k556, ⟨_, _, rfl⟩, ⟨ck_s_found.1, ck_s_found.2.1, ck_s_found.2.2, by decide, by decide⟩⟩
theorem k558 : Cond.methodLink RX8 169 yX6_item ∈ gtbl := gm 558 (by decide +kernel)
theorem ln_x_read_169 : VL Mx_read Ms_item 169 2 6 := ⟨k558, k559, k560, ⟨_, _, rfl⟩, ⟨ck_s_item.1, ck_s_item.2.1, ck_s_item.2.2, by decide, by decide⟩⟩
theorem ln_x_read_143 : SL Mx_read Mx_areTwoEnds 143 2 := ⟨k515, k516, ⟨ck_x_areTwoEnds.1, ck_x_areTwoEnds.2.1, ck_x_areTwoEnds.2.2, by decide, by decide⟩⟩
theorem ln_x_read_147 : VL Mx_read Mb_add 147 2 0 := ⟨k521, k522, k523, ⟨_, _, rfl⟩, ⟨ck_b_add.1, ck_b_add.2.1, ck_b_add.2.2, by decide, by decide⟩⟩
theorem k566 : Cond.methodLink RX8 172 yX0_firstNotDone ∈ gtbl := gm 566 (by decide +kernel)
theorem ln_x_judged_172 : VL Mx_judged Mb_firstNotDone 172 0 0 := ⟨k566, k567, k568, ⟨_, _, rfl⟩, ⟨ck_b_firstNotDone.1, ck_b_firstNotDone.2.1, ck_b_firstNotDone.2.2, by decide, by decide⟩⟩
theorem k578 : Cond.methodLink RX8 175 yX8_isBehind ∈ gtbl := gm 578 (by decide +kernel)
theorem ln_x_state_175 : VL Mx_state Mx_isBehind 175 1 8 := ⟨k578, k580, k13, ⟨_, _, rfl⟩, ⟨ck_x_isBehind.1, ck_x_isBehind.2.1, ck_x_isBehind.2.2, by decide, by decide⟩⟩
theorem k582 : Cond.methodLink RX8 181 yX0_fullPipes ∈ gtbl := gm 582 (by decide +kernel)
theorem ln_x_state_181 : VL Mx_state Mb_fullPipes 181 1 0 := ⟨k582, k583, k584, ⟨_, _, rfl⟩, ⟨ck_b_fullPipes.1, ck_b_fullPipes.2.1, ck_b_fullPipes.2.2, by decide, by decide⟩⟩
theorem ln_x_wire_175 : VL Mx_wire Mx_isBehind 175 1 8 := ⟨k578, k580, k13, ⟨_, _, rfl⟩, ⟨ck_x_isBehind.1, ck_x_isBehind.2.1, ck_x_isBehind.2.2, by decide, by decide⟩⟩
theorem ln_x_wire_150 : SL Mx_wire Mx_isWire 150 1 := ⟨k530, k531, ⟨ck_x_isWire.1, ck_x_isWire.2.1, ck_x_isWire.2.2, by decide, by decide⟩⟩
theorem k591 : Cond.methodLink RX8 184 yX0_pipesOf ∈ gtbl := gm 591 (by decide +kernel)
theorem ln_x_wire_184 : VL Mx_wire Mb_pipesOf 184 2 0 := ⟨k591, k418, k419, ⟨_, _, rfl⟩, ⟨ck_b_pipesOf.1, ck_b_pipesOf.2.1, ck_b_pipesOf.2.2, by decide, by decide⟩⟩
theorem ln_x_out_150 : SL Mx_out Mx_isWire 150 1 := ⟨k530, k531, ⟨ck_x_isWire.1, ck_x_isWire.2.1, ck_x_isWire.2.2, by decide, by decide⟩⟩
theorem ln_x_out_118 : VL Mx_out Mb_lyingNow 118 0 0 := ⟨k486, k487, k488, ⟨_, _, rfl⟩, ⟨ck_b_lyingNow.1, ck_b_lyingNow.2.1, ck_b_lyingNow.2.2, by decide, by decide⟩⟩
theorem k596 : Cond.methodLink RX8 187 yX8_hasBit ∈ gtbl := gm 596 (by decide +kernel)
theorem ln_x_out_187 : SL Mx_out Mx_hasBit 187 2 := ⟨k596, k403, ⟨ck_x_hasBit.1, ck_x_hasBit.2.1, ck_x_hasBit.2.2, by decide, by decide⟩⟩
theorem k597 : Cond.methodLink RX8 190 yX0_drawnOutWith ∈ gtbl := gm 597 (by decide +kernel)
theorem ln_x_out_190 : VL Mx_out Mb_drawnOutWith 190 1 0 := ⟨k597, k598, k599, ⟨_, _, rfl⟩, ⟨ck_b_drawnOutWith.1, ck_b_drawnOutWith.2.1, ck_b_drawnOutWith.2.2, by decide, by decide⟩⟩
theorem ln_x_shortest_143 : SL Mx_shortest Mx_areTwoEnds 143 2 := ⟨k515, k516, ⟨ck_x_areTwoEnds.1, ck_x_areTwoEnds.2.1, ck_x_areTwoEnds.2.2, by decide, by decide⟩⟩
theorem k606 : Cond.methodLink RX8 193 yX8_findWay ∈ gtbl := gm 606 (by decide +kernel)
theorem ln_x_shortest_193 : VL Mx_shortest Mx_findWay 193 2 8 := ⟨k606, k608, k14, ⟨_, _, rfl⟩, ⟨ck_x_findWay.1, ck_x_findWay.2.1, ck_x_findWay.2.2, by decide, by decide⟩⟩
theorem k615 : Cond.methodLink RX8 196 yX7_rowLength ∈ gtbl := gm 615 (by decide +kernel)
theorem ln_x_shortest_196 : VL Mx_shortest Mw_rowLength 196 0 7 := ⟨k615, k616, k617, ⟨_, _, rfl⟩, ⟨ck_w_rowLength.1, ck_w_rowLength.2.1, ck_w_rowLength.2.2, by decide, by decide⟩⟩
theorem ln_x_most_143 : SL Mx_most Mx_areTwoEnds 143 2 := ⟨k515, k516, ⟨ck_x_areTwoEnds.1, ck_x_areTwoEnds.2.1, ck_x_areTwoEnds.2.2, by decide, by decide⟩⟩
theorem ln_x_most_75 : SL Mx_most Mx_within 75 3 := ⟨k374, k375, ⟨ck_x_within.1, ck_x_within.2.1, ck_x_within.2.2, by decide, by decide⟩⟩
theorem k610 : Cond.methodLink RX8 205 yX0_loadNow ∈ gtbl := gm 610 (by decide +kernel)
theorem ln_x_most_205 : VL Mx_most Mb_loadNow 205 0 0 := ⟨k610, k611, k612, ⟨_, _, rfl⟩, ⟨ck_b_loadNow.1, ck_b_loadNow.2.1, ck_b_loadNow.2.2, by decide, by decide⟩⟩
theorem k623 : Cond.methodLink RX8 208 yX7_drawAll ∈ gtbl := gm 623 (by decide +kernel)
theorem ln_x_most_208 : VL Mx_most Mw_drawAll 208 2 7 := ⟨k623, k624, k625, ⟨_, _, rfl⟩, ⟨ck_w_drawAll.1, ck_w_drawAll.2.1, ck_w_drawAll.2.2, by decide, by decide⟩⟩
theorem k639 : Cond.methodLink RX8 211 yX1_greatest ∈ gtbl := gm 639 (by decide +kernel)
theorem ln_x_most_211 : VL Mx_most Mf_greatest 211 2 1 := ⟨k639, k640, k641, ⟨_, _, rfl⟩, ⟨ck_f_greatest.1, ck_f_greatest.2.1, ck_f_greatest.2.2, by decide, by decide⟩⟩
theorem ln_x_fails_150 : SL Mx_fails Mx_isWire 150 1 := ⟨k530, k531, ⟨ck_x_isWire.1, ck_x_isWire.2.1, ck_x_isWire.2.2, by decide, by decide⟩⟩
theorem ln_x_fails_118 : VL Mx_fails Mb_lyingNow 118 0 0 := ⟨k486, k487, k488, ⟨_, _, rfl⟩, ⟨ck_b_lyingNow.1, ck_b_lyingNow.2.1, ck_b_lyingNow.2.2, by decide, by decide⟩⟩
theorem k668 : Cond.methodLink RX8 214 yX8_failingDay ∈ gtbl := gm 668 (by decide +kernel)
theorem ln_x_fails_214 : VL Mx_fails Mx_failingDay 214 2 8 := ⟨k668, k670, k19, ⟨_, _, rfl⟩, ⟨ck_x_failingDay.1, ck_x_failingDay.2.1, ck_x_failingDay.2.2, by decide, by decide⟩⟩
theorem ln_x_soonest_118 : VL Mx_soonest Mb_lyingNow 118 0 0 := ⟨k486, k487, k488, ⟨_, _, rfl⟩, ⟨ck_b_lyingNow.1, ck_b_lyingNow.2.1, ck_b_lyingNow.2.2, by decide, by decide⟩⟩
theorem ln_x_soonest_214 : VL Mx_soonest Mx_failingDay 214 2 8 := ⟨k668, k670, k19, ⟨_, _, rfl⟩, ⟨ck_x_failingDay.1, ck_x_failingDay.2.1, ck_x_failingDay.2.2, by decide, by decide⟩⟩
theorem ln_x_left_75 : SL Mx_left Mx_within 75 3 := ⟨k374, k375, ⟨ck_x_within.1, ck_x_within.2.1, ck_x_within.2.2, by decide, by decide⟩⟩
theorem ln_x_left_118 : VL Mx_left Mb_lyingNow 118 0 0 := ⟨k486, k487, k488, ⟨_, _, rfl⟩, ⟨ck_b_lyingNow.1, ck_b_lyingNow.2.1, ck_b_lyingNow.2.2, by decide, by decide⟩⟩
theorem ln_x_left_214 : VL Mx_left Mx_failingDay 214 2 8 := ⟨k668, k670, k19, ⟨_, _, rfl⟩, ⟨ck_x_failingDay.1, ck_x_failingDay.2.1, ck_x_failingDay.2.2, by decide, by decide⟩⟩
theorem ln_x_burns_75 : SL Mx_burns Mx_within 75 3 := ⟨k374, k375, ⟨ck_x_within.1, ck_x_within.2.1, ck_x_within.2.2, by decide, by decide⟩⟩
theorem ln_x_burns_118 : VL Mx_burns Mb_lyingNow 118 0 0 := ⟨k486, k487, k488, ⟨_, _, rfl⟩, ⟨ck_b_lyingNow.1, ck_b_lyingNow.2.1, ck_b_lyingNow.2.2, by decide, by decide⟩⟩
theorem k689 : Cond.methodLink RX8 217 yX0_joinedTo ∈ gtbl := gm 689 (by decide +kernel)
theorem ln_x_burns_217 : VL Mx_burns Mb_joinedTo 217 2 0 := ⟨k689, k690, k691, ⟨_, _, rfl⟩, ⟨ck_b_joinedTo.1, ck_b_joinedTo.2.1, ck_b_joinedTo.2.2, by decide, by decide⟩⟩
theorem ln_x_lit_75 : SL Mx_lit Mx_within 75 3 := ⟨k374, k375, ⟨ck_x_within.1, ck_x_within.2.1, ck_x_within.2.2, by decide, by decide⟩⟩
theorem k701 : Cond.methodLink RX8 220 yX3_seek ∈ gtbl := gm 701 (by decide +kernel)
theorem ln_x_lit_220 : VL Mx_lit Ml_seek 220 1 3 := ⟨k701, k702, k703, ⟨_, _, rfl⟩, ⟨ck_l_seek.1, ck_l_seek.2.1, ck_l_seek.2.2, by decide, by decide⟩⟩
theorem k518 : Cond.methodLink RX8 232 yX8_isEnd ∈ gtbl := gm 518 (by decide +kernel)
theorem ln_x_heard_232 : SL Mx_heard Mx_isEnd 232 1 := ⟨k518, k519, ⟨ck_x_isEnd.1, ck_x_isEnd.2.1, ck_x_isEnd.2.2, by decide, by decide⟩⟩
theorem ln_x_heard_75 : SL Mx_heard Mx_within 75 3 := ⟨k374, k375, ⟨ck_x_within.1, ck_x_within.2.1, ck_x_within.2.2, by decide, by decide⟩⟩
theorem k739 : Cond.methodLink RX8 235 yX5_follow ∈ gtbl := gm 739 (by decide +kernel)
theorem ln_x_heard_235 : VL Mx_heard Mr_follow 235 2 5 := ⟨k739, k740, k741, ⟨_, _, rfl⟩, ⟨ck_r_follow.1, ck_r_follow.2.1, ck_r_follow.2.2, by decide, by decide⟩⟩
theorem k749 : Cond.methodLink RX8 239 yX5_possibleEnds ∈ gtbl := gm 749 (by decide +kernel)
theorem ln_x_heard_239 : VL Mx_heard Mr_possibleEnds 239 0 5 := ⟨k749, k750, k751, ⟨_, _, rfl⟩, ⟨ck_r_possibleEnds.1, ck_r_possibleEnds.2.1, ck_r_possibleEnds.2.2, by decide, by decide⟩⟩
theorem ln_x_meet_101 : VL Mx_meet Mp_hasPipe 101 1 4 := ⟨k482, k483, k484, ⟨_, _, rfl⟩, ⟨ck_p_hasPipe.1, ck_p_hasPipe.2.1, ck_p_hasPipe.2.2, by decide, by decide⟩⟩
theorem ln_x_meet_75 : SL Mx_meet Mx_within 75 3 := ⟨k374, k375, ⟨ck_x_within.1, ck_x_within.2.1, ck_x_within.2.2, by decide, by decide⟩⟩
theorem k758 : Cond.methodLink RX8 245 yJ9_abs_0f7a4 ∈ gtbl := gm 758 (by decide +kernel)
theorem ln_x_meet_245 : SL Mx_meet Mk_abs 245 1 := ⟨k758, k759, ⟨ck_k_abs.1, ck_k_abs.2.1, ck_k_abs.2.2, by decide, by decide⟩⟩
theorem ln_x_drowsy_232 : SL Mx_drowsy Mx_isEnd 232 1 := ⟨k518, k519, ⟨ck_x_isEnd.1, ck_x_isEnd.2.1, ck_x_isEnd.2.2, by decide, by decide⟩⟩
theorem ln_x_drowsy_75 : SL Mx_drowsy Mx_within 75 3 := ⟨k374, k375, ⟨ck_x_within.1, ck_x_within.2.1, ck_x_within.2.2, by decide, by decide⟩⟩
theorem k765 : Cond.methodLink RX8 250 yX5_stroll ∈ gtbl := gm 765 (by decide +kernel)
theorem ln_x_drowsy_250 : VL Mx_drowsy Mr_stroll 250 3 5 := ⟨k765, k766, k767, ⟨_, _, rfl⟩, ⟨ck_r_stroll.1, ck_r_stroll.2.1, ck_r_stroll.2.2, by decide, by decide⟩⟩
theorem ln_x_chalk_150 : SL Mx_chalk Mx_isWire 150 1 := ⟨k530, k531, ⟨ck_x_isWire.1, ck_x_isWire.2.1, ck_x_isWire.2.2, by decide, by decide⟩⟩
theorem ln_x_chalk_143 : SL Mx_chalk Mx_areTwoEnds 143 2 := ⟨k515, k516, ⟨ck_x_areTwoEnds.1, ck_x_areTwoEnds.2.1, ck_x_areTwoEnds.2.2, by decide, by decide⟩⟩
theorem k788 : Cond.methodLink RX8 254 yX8_bit ∈ gtbl := gm 788 (by decide +kernel)
theorem ln_x_chalk_254 : SL Mx_chalk Mx_bit 254 1 := ⟨k788, k406, ⟨ck_x_bit.1, ck_x_bit.2.1, ck_x_bit.2.2, by decide, by decide⟩⟩
theorem k789 : Cond.methodLink RX8 257 yX2_addMark ∈ gtbl := gm 789 (by decide +kernel)
theorem ln_x_chalk_257 : VL Mx_chalk Mj_addMark 257 2 2 := ⟨k789, k790, k791, ⟨_, _, rfl⟩, ⟨ck_j_addMark.1, ck_j_addMark.2.1, ck_j_addMark.2.2, by decide, by decide⟩⟩
theorem ln_x_lies_118 : VL Mx_lies Mb_lyingNow 118 0 0 := ⟨k486, k487, k488, ⟨_, _, rfl⟩, ⟨ck_b_lyingNow.1, ck_b_lyingNow.2.1, ck_b_lyingNow.2.2, by decide, by decide⟩⟩
theorem ln_x_lies_187 : SL Mx_lies Mx_hasBit 187 2 := ⟨k596, k403, ⟨ck_x_hasBit.1, ck_x_hasBit.2.1, ck_x_hasBit.2.2, by decide, by decide⟩⟩
theorem k797 : Cond.methodLink RX8 266 yX0_endsOf ∈ gtbl := gm 797 (by decide +kernel)
theorem ln_x_lies_266 : VL Mx_lies Mb_endsOf 266 1 0 := ⟨k797, k694, k695, ⟨_, _, rfl⟩, ⟨ck_b_endsOf.1, ck_b_endsOf.2.1, ck_b_endsOf.2.2, by decide, by decide⟩⟩
theorem ln_x_lies_254 : SL Mx_lies Mx_bit 254 1 := ⟨k788, k406, ⟨ck_x_bit.1, ck_x_bit.2.1, ck_x_bit.2.2, by decide, by decide⟩⟩
theorem ln_x_scene_75 : SL Mx_scene Mx_within 75 3 := ⟨k374, k375, ⟨ck_x_within.1, ck_x_within.2.1, ck_x_within.2.2, by decide, by decide⟩⟩
theorem k802 : Cond.methodLink RX8 272 yX2_addScene ∈ gtbl := gm 802 (by decide +kernel)
theorem ln_x_scene_272 : VL Mx_scene Mj_addScene 272 1 2 := ⟨k802, k803, k804, ⟨_, _, rfl⟩, ⟨ck_j_addScene.1, ck_j_addScene.2.1, ck_j_addScene.2.2, by decide, by decide⟩⟩
theorem ln_x_scenes_175 : VL Mx_scenes Mx_isBehind 175 1 8 := ⟨k578, k580, k13, ⟨_, _, rfl⟩, ⟨ck_x_isBehind.1, ck_x_isBehind.2.1, ck_x_isBehind.2.2, by decide, by decide⟩⟩
theorem k810 : Cond.methodLink RX8 275 yX8_burningBehind ∈ gtbl := gm 810 (by decide +kernel)
theorem ln_x_scenes_275 : VL Mx_scenes Mx_burningBehind 275 1 8 := ⟨k810, k812, k28, ⟨_, _, rfl⟩, ⟨ck_x_burningBehind.1, ck_x_burningBehind.2.1, ck_x_burningBehind.2.2, by decide, by decide⟩⟩
theorem ln_x_scenes_254 : SL Mx_scenes Mx_bit 254 1 := ⟨k788, k406, ⟨ck_x_bit.1, ck_x_bit.2.1, ck_x_bit.2.2, by decide, by decide⟩⟩
theorem ln_x_cue_75 : SL Mx_cue Mx_within 75 3 := ⟨k374, k375, ⟨ck_x_within.1, ck_x_within.2.1, ck_x_within.2.2, by decide, by decide⟩⟩
theorem ln_x_cue_275 : VL Mx_cue Mx_burningBehind 275 1 8 := ⟨k810, k812, k28, ⟨_, _, rfl⟩, ⟨ck_x_burningBehind.1, ck_x_burningBehind.2.1, ck_x_burningBehind.2.2, by decide, by decide⟩⟩
theorem k822 : Cond.methodLink RX8 284 yX2_dropMarks ∈ gtbl := gm 822 (by decide +kernel)
theorem ln_x_forget_284 : VL Mx_forget Mj_dropMarks 284 0 2 := ⟨k822, k823, k824, ⟨_, _, rfl⟩, ⟨ck_j_dropMarks.1, ck_j_dropMarks.2.1, ck_j_dropMarks.2.2, by decide, by decide⟩⟩
theorem k826 : Cond.methodLink RX8 287 yX2_dropScenes ∈ gtbl := gm 826 (by decide +kernel)
theorem ln_x_forget_287 : VL Mx_forget Mj_dropScenes 287 0 2 := ⟨k826, k827, k828, ⟨_, _, rfl⟩, ⟨ck_j_dropScenes.1, ck_j_dropScenes.2.1, ck_j_dropScenes.2.2, by decide, by decide⟩⟩
theorem ln_x_sheet_157 : VL Mx_sheet Ms_hasSheet 157 1 6 := ⟨k545, k546, k547, ⟨_, _, rfl⟩, ⟨ck_s_hasSheet.1, ck_s_hasSheet.2.1, ck_s_hasSheet.2.2, by decide, by decide⟩⟩
theorem k834 : Cond.methodLink RX8 290 yX6_isForm ∈ gtbl := gm 834 (by decide +kernel)
theorem ln_x_sheet_290 : VL Mx_sheet Ms_isForm 290 1 6 := ⟨k834, k835, k836, ⟨_, _, rfl⟩, ⟨ck_s_isForm.1, ck_s_isForm.2.1, ck_s_isForm.2.2, by decide, by decide⟩⟩
theorem ln_x_sheet_163 : VL Mx_sheet Ms_found 163 1 6 := ⟨k554, k555, k556, ⟨_, _, rfl⟩, ⟨ck_s_found.1, ck_s_found.2.1, ck_s_found.2.2, by decide, by decide⟩⟩
theorem k838 : Cond.methodLink RX8 293 yX6_renew ∈ gtbl := gm 838 (by decide +kernel)
theorem ln_x_sheet_293 : VL Mx_sheet Ms_renew 293 3 6 := ⟨k838, k839, k840, ⟨_, _, rfl⟩, ⟨ck_s_renew.1, ck_s_renew.2.1, ck_s_renew.2.2, by decide, by decide⟩⟩
theorem ln_x_lose_157 : VL Mx_lose Ms_hasSheet 157 1 6 := ⟨k545, k546, k547, ⟨_, _, rfl⟩, ⟨ck_s_hasSheet.1, ck_s_hasSheet.2.1, ck_s_hasSheet.2.2, by decide, by decide⟩⟩
theorem ln_x_lose_160 : VL Mx_lose Ms_isLost 160 1 6 := ⟨k550, k551, k552, ⟨_, _, rfl⟩, ⟨ck_s_isLost.1, ck_s_isLost.2.1, ck_s_isLost.2.2, by decide, by decide⟩⟩
theorem ln_x_lose_163 : VL Mx_lose Ms_found 163 1 6 := ⟨k554, k555, k556, ⟨_, _, rfl⟩, ⟨ck_s_found.1, ck_s_found.2.1, ck_s_found.2.2, by decide, by decide⟩⟩
theorem k846 : Cond.methodLink RX8 297 yX6_drop ∈ gtbl := gm 846 (by decide +kernel)
theorem ln_x_lose_297 : VL Mx_lose Ms_drop 297 1 6 := ⟨k846, k847, k848, ⟨_, _, rfl⟩, ⟨ck_s_drop.1, ck_s_drop.2.1, ck_s_drop.2.2, by decide, by decide⟩⟩
theorem ln_x_lay_157 : VL Mx_lay Ms_hasSheet 157 1 6 := ⟨k545, k546, k547, ⟨_, _, rfl⟩, ⟨ck_s_hasSheet.1, ck_s_hasSheet.2.1, ck_s_hasSheet.2.2, by decide, by decide⟩⟩
theorem ln_x_lay_290 : VL Mx_lay Ms_isForm 290 1 6 := ⟨k834, k835, k836, ⟨_, _, rfl⟩, ⟨ck_s_isForm.1, ck_s_isForm.2.1, ck_s_isForm.2.2, by decide, by decide⟩⟩
theorem k854 : Cond.methodLink RX8 300 yX6_findingAt ∈ gtbl := gm 854 (by decide +kernel)
theorem ln_x_lay_300 : VL Mx_lay Ms_findingAt 300 3 6 := ⟨k854, k855, k856, ⟨_, _, rfl⟩, ⟨ck_s_findingAt.1, ck_s_findingAt.2.1, ck_s_findingAt.2.2, by decide, by decide⟩⟩
theorem ln_x_lay_163 : VL Mx_lay Ms_found 163 1 6 := ⟨k554, k555, k556, ⟨_, _, rfl⟩, ⟨ck_s_found.1, ck_s_found.2.1, ck_s_found.2.2, by decide, by decide⟩⟩
theorem k859 : Cond.methodLink RX8 303 yX6_store ∈ gtbl := gm 859 (by decide +kernel)
theorem ln_x_lay_303 : VL Mx_lay Ms_store 303 3 6 := ⟨k859, k860, k861, ⟨_, _, rfl⟩, ⟨ck_s_store.1, ck_s_store.2.1, ck_s_store.2.2, by decide, by decide⟩⟩
theorem ln_x_get_157 : VL Mx_get Ms_hasSheet 157 1 6 := ⟨k545, k546, k547, ⟨_, _, rfl⟩, ⟨ck_s_hasSheet.1, ck_s_hasSheet.2.1, ck_s_hasSheet.2.2, by decide, by decide⟩⟩
theorem ln_x_get_290 : VL Mx_get Ms_isForm 290 1 6 := ⟨k834, k835, k836, ⟨_, _, rfl⟩, ⟨ck_s_isForm.1, ck_s_isForm.2.1, ck_s_isForm.2.2, by decide, by decide⟩⟩
theorem ln_x_get_300 : VL Mx_get Ms_findingAt 300 3 6 := ⟨k854, k855, k856, ⟨_, _, rfl⟩, ⟨ck_s_findingAt.1, ck_s_findingAt.2.1, ck_s_findingAt.2.2, by decide, by decide⟩⟩
theorem ln_x_get_163 : VL Mx_get Ms_found 163 1 6 := ⟨k554, k555, k556, ⟨_, _, rfl⟩, ⟨ck_s_found.1, ck_s_found.2.1, ck_s_found.2.2, by decide, by decide⟩⟩
theorem ln_x_get_169 : VL Mx_get Ms_item 169 2 6 := ⟨k558, k559, k560, ⟨_, _, rfl⟩, ⟨ck_s_item.1, ck_s_item.2.1, ck_s_item.2.2, by decide, by decide⟩⟩
theorem ln_x_copy_157 : VL Mx_copy Ms_hasSheet 157 1 6 := ⟨k545, k546, k547, ⟨_, _, rfl⟩, ⟨ck_s_hasSheet.1, ck_s_hasSheet.2.1, ck_s_hasSheet.2.2, by decide, by decide⟩⟩
theorem ln_x_copy_160 : VL Mx_copy Ms_isLost 160 1 6 := ⟨k550, k551, k552, ⟨_, _, rfl⟩, ⟨ck_s_isLost.1, ck_s_isLost.2.1, ck_s_isLost.2.2, by decide, by decide⟩⟩
theorem ln_x_copy_163 : VL Mx_copy Ms_found 163 1 6 := ⟨k554, k555, k556, ⟨_, _, rfl⟩, ⟨ck_s_found.1, ck_s_found.2.1, ck_s_found.2.2, by decide, by decide⟩⟩
theorem k875 : Cond.methodLink RX8 310 yX6_hasSpan ∈ gtbl := gm 875 (by decide +kernel)
theorem ln_x_copy_310 : VL Mx_copy Ms_hasSpan 310 3 6 := ⟨k875, k876, k877, ⟨_, _, rfl⟩, ⟨ck_s_hasSpan.1, ck_s_hasSpan.2.1, ck_s_hasSpan.2.2, by decide, by decide⟩⟩
theorem k879 : Cond.methodLink RX8 313 yX6_move ∈ gtbl := gm 879 (by decide +kernel)
theorem ln_x_copy_313 : VL Mx_copy Ms_move 313 5 6 := ⟨k879, k880, k881, ⟨_, _, rfl⟩, ⟨ck_s_move.1, ck_s_move.2.1, ck_s_move.2.2, by decide, by decide⟩⟩
theorem ln_x_write_143 : SL Mx_write Mx_areTwoEnds 143 2 := ⟨k515, k516, ⟨ck_x_areTwoEnds.1, ck_x_areTwoEnds.2.1, ck_x_areTwoEnds.2.2, by decide, by decide⟩⟩
theorem ln_x_write_157 : VL Mx_write Ms_hasSheet 157 1 6 := ⟨k545, k546, k547, ⟨_, _, rfl⟩, ⟨ck_s_hasSheet.1, ck_s_hasSheet.2.1, ck_s_hasSheet.2.2, by decide, by decide⟩⟩
theorem ln_x_write_160 : VL Mx_write Ms_isLost 160 1 6 := ⟨k550, k551, k552, ⟨_, _, rfl⟩, ⟨ck_s_isLost.1, ck_s_isLost.2.1, ck_s_isLost.2.2, by decide, by decide⟩⟩
theorem ln_x_write_163 : VL Mx_write Ms_found 163 1 6 := ⟨k554, k555, k556, ⟨_, _, rfl⟩, ⟨ck_s_found.1, ck_s_found.2.1, ck_s_found.2.2, by decide, by decide⟩⟩
theorem ln_x_write_193 : VL Mx_write Mx_findWay 193 2 8 := ⟨k606, k608, k14, ⟨_, _, rfl⟩, ⟨ck_x_findWay.1, ck_x_findWay.2.1, ck_x_findWay.2.2, by decide, by decide⟩⟩
theorem k890 : Cond.methodLink RX8 317 yJ9_min_7cf53 ∈ gtbl := gm 890 (by decide +kernel)
theorem ln_x_write_317 : SL Mx_write Mk_min 317 2 := ⟨k890, k633, ⟨ck_k_min.1, ck_k_min.2.1, ck_k_min.2.2, by decide, by decide⟩⟩
theorem ln_x_write_303 : VL Mx_write Ms_store 303 3 6 := ⟨k859, k860, k861, ⟨_, _, rfl⟩, ⟨ck_s_store.1, ck_s_store.2.1, ck_s_store.2.2, by decide, by decide⟩⟩
theorem k895 : Cond.methodLink RX8 320 yX0_howManyDone ∈ gtbl := gm 895 (by decide +kernel)
theorem ln_x_count_320 : VL Mx_count Mb_howManyDone 320 0 0 := ⟨k895, k896, k897, ⟨_, _, rfl⟩, ⟨ck_b_howManyDone.1, ck_b_howManyDone.2.1, ck_b_howManyDone.2.2, by decide, by decide⟩⟩
theorem ln_x_count_118 : VL Mx_count Mb_lyingNow 118 0 0 := ⟨k486, k487, k488, ⟨_, _, rfl⟩, ⟨ck_b_lyingNow.1, ck_b_lyingNow.2.1, ck_b_lyingNow.2.2, by decide, by decide⟩⟩
theorem k899 : Cond.methodLink RX8 323 yJ6_bitCount_0f7a4 ∈ gtbl := gm 899 (by decide +kernel)
theorem ln_x_count_323 : SL Mx_count Mk_bitCount 323 1 := ⟨k899, k900, ⟨ck_k_bitCount.1, ck_k_bitCount.2.1, ck_k_bitCount.2.2, by decide, by decide⟩⟩
theorem k905 : Cond.methodLink RX8 328 yX4_wholeLength ∈ gtbl := gm 905 (by decide +kernel)
theorem ln_x_count_328 : VL Mx_count Mp_wholeLength 328 0 4 := ⟨k905, k906, k907, ⟨_, _, rfl⟩, ⟨ck_p_wholeLength.1, ck_p_wholeLength.2.1, ck_p_wholeLength.2.2, by decide, by decide⟩⟩
theorem k914 : Cond.methodLink RX8 336 yX8_count ∈ gtbl := gm 914 (by decide +kernel)
theorem ln_x_digest_336 : VL Mx_digest Mx_count 336 1 8 := ⟨k914, k892, k893, ⟨_, _, rfl⟩, ⟨ck_x_count.1, ck_x_count.2.1, ck_x_count.2.2, by decide, by decide⟩⟩
theorem k915 : Cond.methodLink RX8 339 yX8_mix ∈ gtbl := gm 915 (by decide +kernel)
theorem ln_x_digest_339 : SL Mx_digest Mx_mix 339 2 := ⟨k915, k916, ⟨ck_x_mix.1, ck_x_mix.2.1, ck_x_mix.2.2, by decide, by decide⟩⟩
theorem k919 : Cond.methodLink RX8 343 yX8_fault ∈ gtbl := gm 919 (by decide +kernel)
theorem ln_x_digest_343 : VL Mx_digest Mx_fault 343 0 8 := ⟨k919, k475, k476, ⟨_, _, rfl⟩, ⟨ck_x_fault.1, ck_x_fault.2.1, ck_x_fault.2.2, by decide, by decide⟩⟩
theorem k920 : Cond.methodLink RX8 346 yX8_judged ∈ gtbl := gm 920 (by decide +kernel)
theorem ln_x_digest_346 : VL Mx_digest Mx_judged 346 0 8 := ⟨k920, k563, k564, ⟨_, _, rfl⟩, ⟨ck_x_judged.1, ck_x_judged.2.1, ck_x_judged.2.2, by decide, by decide⟩⟩
theorem k921 : Cond.methodLink RX8 349 yX8_mixPipes ∈ gtbl := gm 921 (by decide +kernel)
theorem ln_x_digest_349 : VL Mx_digest Mx_mixPipes 349 1 8 := ⟨k921, k923, k29, ⟨_, _, rfl⟩, ⟨ck_x_mixPipes.1, ck_x_mixPipes.2.1, ck_x_mixPipes.2.2, by decide, by decide⟩⟩
theorem k926 : Cond.methodLink RX8 353 yX8_mixWires ∈ gtbl := gm 926 (by decide +kernel)
theorem ln_x_digest_353 : VL Mx_digest Mx_mixWires 353 1 8 := ⟨k926, k928, k30, ⟨_, _, rfl⟩, ⟨ck_x_mixWires.1, ck_x_mixWires.2.1, ck_x_mixWires.2.2, by decide, by decide⟩⟩
theorem k933 : Cond.methodLink RX8 356 yX8_state ∈ gtbl := gm 933 (by decide +kernel)
theorem ln_x_digest_356 : VL Mx_digest Mx_state 356 2 8 := ⟨k933, k575, k576, ⟨_, _, rfl⟩, ⟨ck_x_state.1, ck_x_state.2.1, ck_x_state.2.2, by decide, by decide⟩⟩
theorem k934 : Cond.methodLink RX8 359 yX8_soonest ∈ gtbl := gm 934 (by decide +kernel)
theorem ln_x_digest_359 : VL Mx_digest Mx_soonest 359 0 8 := ⟨k934, k678, k679, ⟨_, _, rfl⟩, ⟨ck_x_soonest.1, ck_x_soonest.2.1, ck_x_soonest.2.2, by decide, by decide⟩⟩
theorem k935 : Cond.methodLink RX8 362 yX8_left ∈ gtbl := gm 935 (by decide +kernel)
theorem ln_x_digest_362 : VL Mx_digest Mx_left 362 1 8 := ⟨k935, k682, k683, ⟨_, _, rfl⟩, ⟨ck_x_left.1, ck_x_left.2.1, ck_x_left.2.2, by decide, by decide⟩⟩
theorem k936 : Cond.methodLink RX8 365 yX8_burns ∈ gtbl := gm 936 (by decide +kernel)
theorem ln_x_digest_365 : VL Mx_digest Mx_burns 365 1 8 := ⟨k936, k686, k687, ⟨_, _, rfl⟩, ⟨ck_x_burns.1, ck_x_burns.2.1, ck_x_burns.2.2, by decide, by decide⟩⟩
theorem k937 : Cond.methodLink RX8 368 yX8_mixEnds ∈ gtbl := gm 937 (by decide +kernel)
theorem ln_x_digest_368 : VL Mx_digest Mx_mixEnds 368 1 8 := ⟨k937, k939, k31, ⟨_, _, rfl⟩, ⟨ck_x_mixEnds.1, ck_x_mixEnds.2.1, ck_x_mixEnds.2.2, by decide, by decide⟩⟩
theorem ln_x_digest_220 : VL Mx_digest Ml_seek 220 1 3 := ⟨k701, k702, k703, ⟨_, _, rfl⟩, ⟨ck_l_seek.1, ck_l_seek.2.1, ck_l_seek.2.2, by decide, by decide⟩⟩
theorem k943 : Cond.methodLink RX8 371 yX8_heard ∈ gtbl := gm 943 (by decide +kernel)
theorem ln_x_digest_371 : VL Mx_digest Mx_heard 371 3 8 := ⟨k943, k736, k737, ⟨_, _, rfl⟩, ⟨ck_x_heard.1, ck_x_heard.2.1, ck_x_heard.2.2, by decide, by decide⟩⟩
theorem k944 : Cond.methodLink RX8 374 yX8_drowsy ∈ gtbl := gm 944 (by decide +kernel)
theorem ln_x_digest_374 : VL Mx_digest Mx_drowsy 374 3 8 := ⟨k944, k762, k763, ⟨_, _, rfl⟩, ⟨ck_x_drowsy.1, ck_x_drowsy.2.1, ck_x_drowsy.2.2, by decide, by decide⟩⟩
theorem k945 : Cond.methodLink RX8 377 yX8_lies ∈ gtbl := gm 945 (by decide +kernel)
theorem ln_x_digest_377 : VL Mx_digest Mx_lies 377 0 8 := ⟨k945, k794, k795, ⟨_, _, rfl⟩, ⟨ck_x_lies.1, ck_x_lies.2.1, ck_x_lies.2.2, by decide, by decide⟩⟩
theorem k946 : Cond.methodLink RX8 380 yX8_scenes ∈ gtbl := gm 946 (by decide +kernel)
theorem ln_x_digest_380 : VL Mx_digest Mx_scenes 380 1 8 := ⟨k946, k807, k808, ⟨_, _, rfl⟩, ⟨ck_x_scenes.1, ck_x_scenes.2.1, ck_x_scenes.2.2, by decide, by decide⟩⟩
theorem k947 : Cond.methodLink RX8 383 yX8_cue ∈ gtbl := gm 947 (by decide +kernel)
theorem ln_x_digest_383 : VL Mx_digest Mx_cue 383 1 8 := ⟨k947, k815, k816, ⟨_, _, rfl⟩, ⟨ck_x_cue.1, ck_x_cue.2.1, ck_x_cue.2.2, by decide, by decide⟩⟩
theorem k925 : Cond.methodLink RX8 386 yX8_pipe ∈ gtbl := gm 925 (by decide +kernel)
theorem ln_x_mixPipes_386 : VL Mx_mixPipes Mx_pipe 386 2 8 := ⟨k925, k479, k480, ⟨_, _, rfl⟩, ⟨ck_x_pipe.1, ck_x_pipe.2.1, ck_x_pipe.2.2, by decide, by decide⟩⟩
theorem ln_x_mixPipes_339 : SL Mx_mixPipes Mx_mix 339 2 := ⟨k915, k916, ⟨ck_x_mix.1, ck_x_mix.2.1, ck_x_mix.2.2, by decide, by decide⟩⟩
theorem k930 : Cond.methodLink RX8 389 yX8_wire ∈ gtbl := gm 930 (by decide +kernel)
theorem ln_x_mixWires_389 : VL Mx_mixWires Mx_wire 389 2 8 := ⟨k930, k588, k589, ⟨_, _, rfl⟩, ⟨ck_x_wire.1, ck_x_wire.2.1, ck_x_wire.2.2, by decide, by decide⟩⟩
theorem ln_x_mixWires_339 : SL Mx_mixWires Mx_mix 339 2 := ⟨k915, k916, ⟨ck_x_mix.1, ck_x_mix.2.1, ck_x_mix.2.2, by decide, by decide⟩⟩
theorem k931 : Cond.methodLink RX8 392 yX8_out ∈ gtbl := gm 931 (by decide +kernel)
theorem ln_x_mixWires_392 : VL Mx_mixWires Mx_out 392 1 8 := ⟨k931, k593, k594, ⟨_, _, rfl⟩, ⟨ck_x_out.1, ck_x_out.2.1, ck_x_out.2.2, by decide, by decide⟩⟩
theorem k932 : Cond.methodLink RX8 395 yX8_fails ∈ gtbl := gm 932 (by decide +kernel)
theorem ln_x_mixWires_395 : VL Mx_mixWires Mx_fails 395 1 8 := ⟨k932, k665, k666, ⟨_, _, rfl⟩, ⟨ck_x_fails.1, ck_x_fails.2.1, ck_x_fails.2.2, by decide, by decide⟩⟩
theorem k941 : Cond.methodLink RX8 398 yX8_shortest ∈ gtbl := gm 941 (by decide +kernel)
theorem ln_x_mixEnds_398 : VL Mx_mixEnds Mx_shortest 398 3 8 := ⟨k941, k603, k604, ⟨_, _, rfl⟩, ⟨ck_x_shortest.1, ck_x_shortest.2.1, ck_x_shortest.2.2, by decide, by decide⟩⟩
theorem ln_x_mixEnds_339 : SL Mx_mixEnds Mx_mix 339 2 := ⟨k915, k916, ⟨ck_x_mix.1, ck_x_mix.2.1, ck_x_mix.2.2, by decide, by decide⟩⟩
theorem k942 : Cond.methodLink RX8 401 yX8_most ∈ gtbl := gm 942 (by decide +kernel)
theorem ln_x_mixEnds_401 : VL Mx_mixEnds Mx_most 401 3 8 := ⟨k942, k620, k621, ⟨_, _, rfl⟩, ⟨ck_x_most.1, ck_x_most.2.1, ck_x_most.2.2, by decide, by decide⟩⟩
theorem ln_x_mixEnds_371 : VL Mx_mixEnds Mx_heard 371 3 8 := ⟨k943, k736, k737, ⟨_, _, rfl⟩, ⟨ck_x_heard.1, ck_x_heard.2.1, ck_x_heard.2.2, by decide, by decide⟩⟩
theorem ln_x_isEnd_75 : SL Mx_isEnd Mx_within 75 3 := ⟨k374, k375, ⟨ck_x_within.1, ck_x_within.2.1, ck_x_within.2.2, by decide, by decide⟩⟩
theorem ln_x_areTwoEnds_232 : SL Mx_areTwoEnds Mx_isEnd 232 1 := ⟨k518, k519, ⟨ck_x_isEnd.1, ck_x_isEnd.2.1, ck_x_isEnd.2.2, by decide, by decide⟩⟩
theorem ln_x_isWire_75 : SL Mx_isWire Mx_within 75 3 := ⟨k374, k375, ⟨ck_x_within.1, ck_x_within.2.1, ck_x_within.2.2, by decide, by decide⟩⟩
theorem ln_x_isBehind_75 : SL Mx_isBehind Mx_within 75 3 := ⟨k374, k375, ⟨ck_x_within.1, ck_x_within.2.1, ck_x_within.2.2, by decide, by decide⟩⟩
theorem ln_x_findWay_205 : VL Mx_findWay Mb_loadNow 205 0 0 := ⟨k610, k611, k612, ⟨_, _, rfl⟩, ⟨ck_b_loadNow.1, ck_b_loadNow.2.1, ck_b_loadNow.2.2, by decide, by decide⟩⟩
theorem k614 : Cond.methodLink RX8 406 yX7_find ∈ gtbl := gm 614 (by decide +kernel)
theorem ln_x_findWay_406 : VL Mx_findWay Mw_find 406 2 7 := ⟨k614, k422, k423, ⟨_, _, rfl⟩, ⟨ck_w_find.1, ck_w_find.2.1, ck_w_find.2.2, by decide, by decide⟩⟩
theorem ln_x_burningBehind_217 : VL Mx_burningBehind Mb_joinedTo 217 2 0 := ⟨k689, k690, k691, ⟨_, _, rfl⟩, ⟨ck_b_joinedTo.1, ck_b_joinedTo.2.1, ck_b_joinedTo.2.2, by decide, by decide⟩⟩
theorem ln_x_failingDay_184 : VL Mx_failingDay Mb_pipesOf 184 2 0 := ⟨k591, k418, k419, ⟨_, _, rfl⟩, ⟨ck_b_pipesOf.1, ck_b_pipesOf.2.1, ck_b_pipesOf.2.2, by decide, by decide⟩⟩
theorem k672 : Cond.methodLink RX8 409 yX4_dampIn ∈ gtbl := gm 672 (by decide +kernel)
theorem ln_x_failingDay_409 : VL Mx_failingDay Mp_dampIn 409 1 4 := ⟨k672, k673, k674, ⟨_, _, rfl⟩, ⟨ck_p_dampIn.1, ck_p_dampIn.2.1, ck_p_dampIn.2.2, by decide, by decide⟩⟩
theorem k1053 : Cond.methodLink RX9 70 yX9_in ∈ gtbl := gm 1053 (by decide +kernel)
theorem ln_m_isTwo_70 : SL Mm_isTwo Mm_in 70 3 := ⟨k1053, k1054, ⟨ck_m_in.1, ck_m_in.2.1, ck_m_in.2.2, by decide, by decide⟩⟩
theorem ln_m_isSheet_70 : SL Mm_isSheet Mm_in 70 3 := ⟨k1053, k1054, ⟨ck_m_in.1, ck_m_in.2.1, ck_m_in.2.2, by decide, by decide⟩⟩
theorem k1049 : Cond.methodLink RX9 80 yX9_isSheet ∈ gtbl := gm 1049 (by decide +kernel)
theorem ln_m_sheet_80 : SL Mm_sheet Mm_isSheet 80 1 := ⟨k1049, k1050, ⟨ck_m_isSheet.1, ck_m_isSheet.2.1, ck_m_isSheet.2.2, by decide, by decide⟩⟩
theorem ln_m_sheet_70 : SL Mm_sheet Mm_in 70 3 := ⟨k1053, k1054, ⟨ck_m_in.1, ck_m_in.2.1, ck_m_in.2.2, by decide, by decide⟩⟩
theorem k1057 : Cond.methodLink RX9 86 yX9_finds ∈ gtbl := gm 1057 (by decide +kernel)
theorem ln_m_sheet_86 : VL Mm_sheet Mm_finds 86 1 9 := ⟨k1057, k1059, k32, ⟨_, _, rfl⟩, ⟨ck_m_finds.1, ck_m_finds.2.1, ck_m_finds.2.2, by decide, by decide⟩⟩
theorem ln_m_lose_80 : SL Mm_lose Mm_isSheet 80 1 := ⟨k1049, k1050, ⟨ck_m_isSheet.1, ck_m_isSheet.2.1, ck_m_isSheet.2.2, by decide, by decide⟩⟩
theorem ln_m_lose_86 : VL Mm_lose Mm_finds 86 1 9 := ⟨k1057, k1059, k32, ⟨_, _, rfl⟩, ⟨ck_m_finds.1, ck_m_finds.2.1, ck_m_finds.2.2, by decide, by decide⟩⟩
theorem ln_m_lacks_86 : VL Mm_lacks Mm_finds 86 1 9 := ⟨k1057, k1059, k32, ⟨_, _, rfl⟩, ⟨ck_m_finds.1, ck_m_finds.2.1, ck_m_finds.2.2, by decide, by decide⟩⟩
theorem ln_m_lacks_70 : SL Mm_lacks Mm_in 70 3 := ⟨k1053, k1054, ⟨ck_m_in.1, ck_m_in.2.1, ck_m_in.2.2, by decide, by decide⟩⟩
theorem ln_m_lay_80 : SL Mm_lay Mm_isSheet 80 1 := ⟨k1049, k1050, ⟨ck_m_isSheet.1, ck_m_isSheet.2.1, ck_m_isSheet.2.2, by decide, by decide⟩⟩
theorem ln_m_lay_70 : SL Mm_lay Mm_in 70 3 := ⟨k1053, k1054, ⟨ck_m_in.1, ck_m_in.2.1, ck_m_in.2.2, by decide, by decide⟩⟩
theorem k1069 : Cond.methodLink RX9 90 yX9_lacks ∈ gtbl := gm 1069 (by decide +kernel)
theorem ln_m_lay_90 : VL Mm_lay Mm_lacks 90 3 9 := ⟨k1069, k1071, k33, ⟨_, _, rfl⟩, ⟨ck_m_lacks.1, ck_m_lacks.2.1, ck_m_lacks.2.2, by decide, by decide⟩⟩
theorem k1073 : Cond.methodLink RX9 94 yX9_cut ∈ gtbl := gm 1073 (by decide +kernel)
theorem ln_m_lay_94 : SL Mm_lay Mm_cut 94 2 := ⟨k1073, k1074, ⟨ck_m_cut.1, ck_m_cut.2.1, ck_m_cut.2.2, by decide, by decide⟩⟩
theorem ln_m_get_80 : SL Mm_get Mm_isSheet 80 1 := ⟨k1049, k1050, ⟨ck_m_isSheet.1, ck_m_isSheet.2.1, ck_m_isSheet.2.2, by decide, by decide⟩⟩
theorem ln_m_get_70 : SL Mm_get Mm_in 70 3 := ⟨k1053, k1054, ⟨ck_m_in.1, ck_m_in.2.1, ck_m_in.2.2, by decide, by decide⟩⟩
theorem ln_m_get_90 : VL Mm_get Mm_lacks 90 3 9 := ⟨k1069, k1071, k33, ⟨_, _, rfl⟩, ⟨ck_m_lacks.1, ck_m_lacks.2.1, ck_m_lacks.2.2, by decide, by decide⟩⟩
theorem ln_m_copy_80 : SL Mm_copy Mm_isSheet 80 1 := ⟨k1049, k1050, ⟨ck_m_isSheet.1, ck_m_isSheet.2.1, ck_m_isSheet.2.2, by decide, by decide⟩⟩
theorem ln_m_copy_86 : VL Mm_copy Mm_finds 86 1 9 := ⟨k1057, k1059, k32, ⟨_, _, rfl⟩, ⟨ck_m_finds.1, ck_m_finds.2.1, ck_m_finds.2.2, by decide, by decide⟩⟩
theorem ln_m_type_70 : SL Mm_type Mm_in 70 3 := ⟨k1053, k1054, ⟨ck_m_in.1, ck_m_in.2.1, ck_m_in.2.2, by decide, by decide⟩⟩
theorem ln_m_readsPipe_70 : SL Mm_readsPipe Mm_in 70 3 := ⟨k1053, k1054, ⟨ck_m_in.1, ck_m_in.2.1, ck_m_in.2.2, by decide, by decide⟩⟩
theorem k1102 : Cond.methodLink RX9 114 yX9_readsPipe ∈ gtbl := gm 1102 (by decide +kernel)
theorem ln_m_reads_114 : VL Mm_reads Mm_readsPipe 114 0 9 := ⟨k1102, k1104, k35, ⟨_, _, rfl⟩, ⟨ck_m_readsPipe.1, ck_m_readsPipe.2.1, ck_m_readsPipe.2.2, by decide, by decide⟩⟩
theorem k1098 : Cond.methodLink RX9 118 yX9_reads ∈ gtbl := gm 1098 (by decide +kernel)
theorem ln_m_fault_118 : VL Mm_fault Mm_reads 118 0 9 := ⟨k1098, k1100, k34, ⟨_, _, rfl⟩, ⟨ck_m_reads.1, ck_m_reads.2.1, ck_m_reads.2.2, by decide, by decide⟩⟩
theorem ln_m_undo_118 : VL Mm_undo Mm_reads 118 0 9 := ⟨k1098, k1100, k34, ⟨_, _, rfl⟩, ⟨ck_m_reads.1, ck_m_reads.2.1, ck_m_reads.2.2, by decide, by decide⟩⟩
theorem ln_m_set_70 : SL Mm_set Mm_in 70 3 := ⟨k1053, k1054, ⟨ck_m_in.1, ck_m_in.2.1, ck_m_in.2.2, by decide, by decide⟩⟩
theorem ln_m_isEnd_70 : SL Mm_isEnd Mm_in 70 3 := ⟨k1053, k1054, ⟨ck_m_in.1, ck_m_in.2.1, ck_m_in.2.2, by decide, by decide⟩⟩
theorem ln_m_isWire_70 : SL Mm_isWire Mm_in 70 3 := ⟨k1053, k1054, ⟨ck_m_in.1, ck_m_in.2.1, ck_m_in.2.2, by decide, by decide⟩⟩
theorem k1126 : Cond.methodLink RX9 130 yX9_isEnd ∈ gtbl := gm 1126 (by decide +kernel)
theorem ln_m_areEnds_130 : SL Mm_areEnds Mm_isEnd 130 1 := ⟨k1126, k1127, ⟨ck_m_isEnd.1, ck_m_isEnd.2.1, ck_m_isEnd.2.2, by decide, by decide⟩⟩
theorem k1123 : Cond.methodLink RX9 136 yX9_areEnds ∈ gtbl := gm 1123 (by decide +kernel)
theorem ln_m_letIn_136 : SL Mm_letIn Mm_areEnds 136 2 := ⟨k1123, k1124, ⟨ck_m_areEnds.1, ck_m_areEnds.2.1, ck_m_areEnds.2.2, by decide, by decide⟩⟩
theorem k1129 : Cond.methodLink RX9 140 yX9_more ∈ gtbl := gm 1129 (by decide +kernel)
theorem ln_m_letIn_140 : VL Mm_letIn Mm_more 140 2 9 := ⟨k1129, k1131, k36, ⟨_, _, rfl⟩, ⟨ck_m_more.1, ck_m_more.2.1, ck_m_more.2.2, by decide, by decide⟩⟩
theorem k1137 : Cond.methodLink RX9 143 yX9_isWire ∈ gtbl := gm 1137 (by decide +kernel)
theorem ln_m_pull_143 : SL Mm_pull Mm_isWire 143 1 := ⟨k1137, k1138, ⟨ck_m_isWire.1, ck_m_isWire.2.1, ck_m_isWire.2.2, by decide, by decide⟩⟩
theorem ln_m_pull_140 : VL Mm_pull Mm_more 140 2 9 := ⟨k1129, k1131, k36, ⟨_, _, rfl⟩, ⟨ck_m_more.1, ck_m_more.2.1, ck_m_more.2.2, by decide, by decide⟩⟩
theorem ln_m_read_80 : SL Mm_read Mm_isSheet 80 1 := ⟨k1049, k1050, ⟨ck_m_isSheet.1, ck_m_isSheet.2.1, ck_m_isSheet.2.2, by decide, by decide⟩⟩
theorem ln_m_read_86 : VL Mm_read Mm_finds 86 1 9 := ⟨k1057, k1059, k32, ⟨_, _, rfl⟩, ⟨ck_m_finds.1, ck_m_finds.2.1, ck_m_finds.2.2, by decide, by decide⟩⟩
theorem k1149 : Cond.methodLink RX9 146 yX9_letIn ∈ gtbl := gm 1149 (by decide +kernel)
theorem ln_m_read_146 : VL Mm_read Mm_letIn 146 2 9 := ⟨k1149, k1120, k1121, ⟨_, _, rfl⟩, ⟨ck_m_letIn.1, ck_m_letIn.2.1, ck_m_letIn.2.2, by decide, by decide⟩⟩
theorem k1178 : Cond.methodLink RX9 149 yX9_isIn ∈ gtbl := gm 1178 (by decide +kernel)
theorem ln_m_isOpen_149 : SL Mm_isOpen Mm_isIn 149 2 := ⟨k1178, k1179, ⟨ck_m_isIn.1, ck_m_isIn.2.1, ck_m_isIn.2.2, by decide, by decide⟩⟩
theorem k1174 : Cond.methodLink RX9 152 yX9_isOpen ∈ gtbl := gm 1174 (by decide +kernel)
theorem ln_m_findFar_152 : VL Mm_findFar Mm_isOpen 152 1 9 := ⟨k1174, k1176, k42, ⟨_, _, rfl⟩, ⟨ck_m_isOpen.1, ck_m_isOpen.2.1, ck_m_isOpen.2.2, by decide, by decide⟩⟩
theorem k1170 : Cond.methodLink RX9 155 yX9_findFar ∈ gtbl := gm 1170 (by decide +kernel)
theorem ln_m_findWay_155 : VL Mm_findWay Mm_findFar 155 1 9 := ⟨k1170, k1172, k41, ⟨_, _, rfl⟩, ⟨ck_m_findFar.1, ck_m_findFar.2.1, ck_m_findFar.2.2, by decide, by decide⟩⟩
theorem k1181 : Cond.methodLink RX9 159 yX9_other ∈ gtbl := gm 1181 (by decide +kernel)
theorem ln_m_findWay_159 : VL Mm_findWay Mm_other 159 2 9 := ⟨k1181, k1183, k43, ⟨_, _, rfl⟩, ⟨ck_m_other.1, ck_m_other.2.1, ck_m_other.2.2, by decide, by decide⟩⟩
theorem ln_m_findWay_152 : VL Mm_findWay Mm_isOpen 152 1 9 := ⟨k1174, k1176, k42, ⟨_, _, rfl⟩, ⟨ck_m_isOpen.1, ck_m_isOpen.2.1, ck_m_isOpen.2.2, by decide, by decide⟩⟩
theorem k1166 : Cond.methodLink RX9 162 yX9_findWay ∈ gtbl := gm 1166 (by decide +kernel)
theorem ln_m_draws_162 : VL Mm_draws Mm_findWay 162 2 9 := ⟨k1166, k1168, k40, ⟨_, _, rfl⟩, ⟨ck_m_findWay.1, ck_m_findWay.2.1, ck_m_findWay.2.2, by decide, by decide⟩⟩
theorem ln_m_canPull_149 : SL Mm_canPull Mm_isIn 149 2 := ⟨k1178, k1179, ⟨ck_m_isIn.1, ck_m_isIn.2.1, ck_m_isIn.2.2, by decide, by decide⟩⟩
theorem ln_m_pulls_149 : SL Mm_pulls Mm_isIn 149 2 := ⟨k1178, k1179, ⟨ck_m_isIn.1, ck_m_isIn.2.1, ck_m_isIn.2.2, by decide, by decide⟩⟩
theorem ln_m_goes_118 : VL Mm_goes Mm_reads 118 0 9 := ⟨k1098, k1100, k34, ⟨_, _, rfl⟩, ⟨ck_m_reads.1, ck_m_reads.2.1, ck_m_reads.2.2, by decide, by decide⟩⟩
theorem k1162 : Cond.methodLink RX9 174 yX9_draws ∈ gtbl := gm 1162 (by decide +kernel)
theorem ln_m_goes_174 : VL Mm_goes Mm_draws 174 2 9 := ⟨k1162, k1164, k39, ⟨_, _, rfl⟩, ⟨ck_m_draws.1, ck_m_draws.2.1, ck_m_draws.2.2, by decide, by decide⟩⟩
theorem k1185 : Cond.methodLink RX9 177 yX9_canPull ∈ gtbl := gm 1185 (by decide +kernel)
theorem ln_m_goes_177 : VL Mm_goes Mm_canPull 177 1 9 := ⟨k1185, k1187, k44, ⟨_, _, rfl⟩, ⟨ck_m_canPull.1, ck_m_canPull.2.1, ck_m_canPull.2.2, by decide, by decide⟩⟩
theorem k1189 : Cond.methodLink RX9 180 yX9_pulls ∈ gtbl := gm 1189 (by decide +kernel)
theorem ln_m_goes_180 : VL Mm_goes Mm_pulls 180 1 9 := ⟨k1189, k1191, k45, ⟨_, _, rfl⟩, ⟨ck_m_pulls.1, ck_m_pulls.2.1, ck_m_pulls.2.2, by decide, by decide⟩⟩
theorem k1158 : Cond.methodLink RX9 183 yX9_goes ∈ gtbl := gm 1158 (by decide +kernel)
theorem ln_m_goesAll_183 : VL Mm_goesAll Mm_goes 183 1 9 := ⟨k1158, k1160, k38, ⟨_, _, rfl⟩, ⟨ck_m_goes.1, ck_m_goes.2.1, ck_m_goes.2.2, by decide, by decide⟩⟩
theorem k1154 : Cond.methodLink RX9 186 yX9_goesAll ∈ gtbl := gm 1154 (by decide +kernel)
theorem ln_m_pipe_186 : VL Mm_pipe Mm_goesAll 186 0 9 := ⟨k1154, k1156, k37, ⟨_, _, rfl⟩, ⟨ck_m_goesAll.1, ck_m_goesAll.2.1, ck_m_goesAll.2.2, by decide, by decide⟩⟩
theorem ln_m_pipe_70 : SL Mm_pipe Mm_in 70 3 := ⟨k1053, k1054, ⟨ck_m_in.1, ck_m_in.2.1, ck_m_in.2.2, by decide, by decide⟩⟩
theorem ln_m_judged_186 : VL Mm_judged Mm_goesAll 186 0 9 := ⟨k1154, k1156, k37, ⟨_, _, rfl⟩, ⟨ck_m_goesAll.1, ck_m_goesAll.2.1, ck_m_goesAll.2.2, by decide, by decide⟩⟩
theorem ln_m_stateOf_183 : VL Mm_stateOf Mm_goes 183 1 9 := ⟨k1158, k1160, k38, ⟨_, _, rfl⟩, ⟨ck_m_goes.1, ck_m_goes.2.1, ck_m_goes.2.2, by decide, by decide⟩⟩
theorem k1208 : Cond.methodLink RX9 189 yX9_fullNow ∈ gtbl := gm 1208 (by decide +kernel)
theorem ln_m_stateOf_189 : VL Mm_stateOf Mm_fullNow 189 0 9 := ⟨k1208, k1210, k47, ⟨_, _, rfl⟩, ⟨ck_m_fullNow.1, ck_m_fullNow.2.1, ck_m_fullNow.2.2, by decide, by decide⟩⟩
theorem ln_m_state_70 : SL Mm_state Mm_in 70 3 := ⟨k1053, k1054, ⟨ck_m_in.1, ck_m_in.2.1, ck_m_in.2.2, by decide, by decide⟩⟩
theorem k1201 : Cond.methodLink RX9 192 yX9_isTwo ∈ gtbl := gm 1201 (by decide +kernel)
theorem ln_m_state_192 : SL Mm_state Mm_isTwo 192 1 := ⟨k1201, k1202, ⟨ck_m_isTwo.1, ck_m_isTwo.2.1, ck_m_isTwo.2.2, by decide, by decide⟩⟩
theorem k1204 : Cond.methodLink RX9 195 yX9_stateOf ∈ gtbl := gm 1204 (by decide +kernel)
theorem ln_m_state_195 : VL Mm_state Mm_stateOf 195 2 9 := ⟨k1204, k1206, k46, ⟨_, _, rfl⟩, ⟨ck_m_stateOf.1, ck_m_stateOf.2.1, ck_m_stateOf.2.2, by decide, by decide⟩⟩
theorem ln_m_pipesOf_149 : SL Mm_pipesOf Mm_isIn 149 2 := ⟨k1178, k1179, ⟨ck_m_isIn.1, ck_m_isIn.2.1, ck_m_isIn.2.2, by decide, by decide⟩⟩
theorem ln_m_wire_70 : SL Mm_wire Mm_in 70 3 := ⟨k1053, k1054, ⟨ck_m_in.1, ck_m_in.2.1, ck_m_in.2.2, by decide, by decide⟩⟩
theorem ln_m_wire_143 : SL Mm_wire Mm_isWire 143 1 := ⟨k1137, k1138, ⟨ck_m_isWire.1, ck_m_isWire.2.1, ck_m_isWire.2.2, by decide, by decide⟩⟩
theorem ln_m_wire_183 : VL Mm_wire Mm_goes 183 1 9 := ⟨k1158, k1160, k38, ⟨_, _, rfl⟩, ⟨ck_m_goes.1, ck_m_goes.2.1, ck_m_goes.2.2, by decide, by decide⟩⟩
theorem k1216 : Cond.methodLink RX9 198 yX9_pipesOf ∈ gtbl := gm 1216 (by decide +kernel)
theorem ln_m_wire_198 : VL Mm_wire Mm_pipesOf 198 1 9 := ⟨k1216, k1218, k48, ⟨_, _, rfl⟩, ⟨ck_m_pipesOf.1, ck_m_pipesOf.2.1, ck_m_pipesOf.2.2, by decide, by decide⟩⟩
theorem ln_m_outOf_149 : SL Mm_outOf Mm_isIn 149 2 := ⟨k1178, k1179, ⟨ck_m_isIn.1, ck_m_isIn.2.1, ck_m_isIn.2.2, by decide, by decide⟩⟩
theorem ln_m_outOf_198 : VL Mm_outOf Mm_pipesOf 198 1 9 := ⟨k1216, k1218, k48, ⟨_, _, rfl⟩, ⟨ck_m_pipesOf.1, ck_m_pipesOf.2.1, ck_m_pipesOf.2.2, by decide, by decide⟩⟩
theorem ln_m_out_186 : VL Mm_out Mm_goesAll 186 0 9 := ⟨k1154, k1156, k37, ⟨_, _, rfl⟩, ⟨ck_m_goesAll.1, ck_m_goesAll.2.1, ck_m_goesAll.2.2, by decide, by decide⟩⟩
theorem ln_m_out_143 : SL Mm_out Mm_isWire 143 1 := ⟨k1137, k1138, ⟨ck_m_isWire.1, ck_m_isWire.2.1, ck_m_isWire.2.2, by decide, by decide⟩⟩
theorem k1224 : Cond.methodLink RX9 201 yX9_outOf ∈ gtbl := gm 1224 (by decide +kernel)
theorem ln_m_out_201 : VL Mm_out Mm_outOf 201 1 9 := ⟨k1224, k1226, k49, ⟨_, _, rfl⟩, ⟨ck_m_outOf.1, ck_m_outOf.2.1, ck_m_outOf.2.2, by decide, by decide⟩⟩
theorem ln_m_shortestOf_162 : VL Mm_shortestOf Mm_findWay 162 2 9 := ⟨k1166, k1168, k40, ⟨_, _, rfl⟩, ⟨ck_m_findWay.1, ck_m_findWay.2.1, ck_m_findWay.2.2, by decide, by decide⟩⟩
theorem ln_m_shortest_186 : VL Mm_shortest Mm_goesAll 186 0 9 := ⟨k1154, k1156, k37, ⟨_, _, rfl⟩, ⟨ck_m_goesAll.1, ck_m_goesAll.2.1, ck_m_goesAll.2.2, by decide, by decide⟩⟩
theorem ln_m_shortest_136 : SL Mm_shortest Mm_areEnds 136 2 := ⟨k1123, k1124, ⟨ck_m_areEnds.1, ck_m_areEnds.2.1, ck_m_areEnds.2.2, by decide, by decide⟩⟩
theorem k1232 : Cond.methodLink RX9 204 yX9_shortestOf ∈ gtbl := gm 1232 (by decide +kernel)
theorem ln_m_shortest_204 : VL Mm_shortest Mm_shortestOf 204 3 9 := ⟨k1232, k1234, k50, ⟨_, _, rfl⟩, ⟨ck_m_shortestOf.1, ck_m_shortestOf.2.1, ck_m_shortestOf.2.2, by decide, by decide⟩⟩
theorem k1244 : Cond.methodLink RX9 207 yX9_keeps ∈ gtbl := gm 1244 (by decide +kernel)
theorem ln_m_drawnOf_207 : VL Mm_drawnOf Mm_keeps 207 0 9 := ⟨k1244, k1246, k52, ⟨_, _, rfl⟩, ⟨ck_m_keeps.1, ck_m_keeps.2.1, ck_m_keeps.2.2, by decide, by decide⟩⟩
theorem ln_m_drawnOf_174 : VL Mm_drawnOf Mm_draws 174 2 9 := ⟨k1162, k1164, k39, ⟨_, _, rfl⟩, ⟨ck_m_draws.1, ck_m_draws.2.1, ck_m_draws.2.2, by decide, by decide⟩⟩
theorem k1248 : Cond.methodLink RX9 210 yX9_putsBack ∈ gtbl := gm 1248 (by decide +kernel)
theorem ln_m_drawnOf_210 : VL Mm_drawnOf Mm_putsBack 210 0 9 := ⟨k1248, k1250, k53, ⟨_, _, rfl⟩, ⟨ck_m_putsBack.1, ck_m_putsBack.2.1, ck_m_putsBack.2.2, by decide, by decide⟩⟩
theorem ln_m_flows_149 : SL Mm_flows Mm_isIn 149 2 := ⟨k1178, k1179, ⟨ck_m_isIn.1, ck_m_isIn.2.1, ck_m_isIn.2.2, by decide, by decide⟩⟩
theorem ln_m_flows_159 : VL Mm_flows Mm_other 159 2 9 := ⟨k1181, k1183, k43, ⟨_, _, rfl⟩, ⟨ck_m_other.1, ck_m_other.2.1, ck_m_other.2.2, by decide, by decide⟩⟩
theorem k1256 : Cond.methodLink RX9 213 yX9_flows ∈ gtbl := gm 1256 (by decide +kernel)
theorem ln_m_mostOf_213 : VL Mm_mostOf Mm_flows 213 2 9 := ⟨k1256, k1258, k55, ⟨_, _, rfl⟩, ⟨ck_m_flows.1, ck_m_flows.2.1, ck_m_flows.2.2, by decide, by decide⟩⟩
theorem ln_m_most_186 : VL Mm_most Mm_goesAll 186 0 9 := ⟨k1154, k1156, k37, ⟨_, _, rfl⟩, ⟨ck_m_goesAll.1, ck_m_goesAll.2.1, ck_m_goesAll.2.2, by decide, by decide⟩⟩
theorem ln_m_most_136 : SL Mm_most Mm_areEnds 136 2 := ⟨k1123, k1124, ⟨ck_m_areEnds.1, ck_m_areEnds.2.1, ck_m_areEnds.2.2, by decide, by decide⟩⟩
theorem ln_m_most_192 : SL Mm_most Mm_isTwo 192 1 := ⟨k1201, k1202, ⟨ck_m_isTwo.1, ck_m_isTwo.2.1, ck_m_isTwo.2.2, by decide, by decide⟩⟩
theorem k1240 : Cond.methodLink RX9 216 yX9_drawnOf ∈ gtbl := gm 1240 (by decide +kernel)
theorem ln_m_most_216 : VL Mm_most Mm_drawnOf 216 2 9 := ⟨k1240, k1242, k51, ⟨_, _, rfl⟩, ⟨ck_m_drawnOf.1, ck_m_drawnOf.2.1, ck_m_drawnOf.2.2, by decide, by decide⟩⟩
theorem k1252 : Cond.methodLink RX9 219 yX9_mostOf ∈ gtbl := gm 1252 (by decide +kernel)
theorem ln_m_most_219 : VL Mm_most Mm_mostOf 219 2 9 := ⟨k1252, k1254, k54, ⟨_, _, rfl⟩, ⟨ck_m_mostOf.1, ck_m_mostOf.2.1, ck_m_mostOf.2.2, by decide, by decide⟩⟩
theorem ln_m_failsOf_198 : VL Mm_failsOf Mm_pipesOf 198 1 9 := ⟨k1216, k1218, k48, ⟨_, _, rfl⟩, ⟨ck_m_pipesOf.1, ck_m_pipesOf.2.1, ck_m_pipesOf.2.2, by decide, by decide⟩⟩
theorem ln_m_failsOf_149 : SL Mm_failsOf Mm_isIn 149 2 := ⟨k1178, k1179, ⟨ck_m_isIn.1, ck_m_isIn.2.1, ck_m_isIn.2.2, by decide, by decide⟩⟩
theorem ln_m_fails_186 : VL Mm_fails Mm_goesAll 186 0 9 := ⟨k1154, k1156, k37, ⟨_, _, rfl⟩, ⟨ck_m_goesAll.1, ck_m_goesAll.2.1, ck_m_goesAll.2.2, by decide, by decide⟩⟩
theorem ln_m_fails_143 : SL Mm_fails Mm_isWire 143 1 := ⟨k1137, k1138, ⟨ck_m_isWire.1, ck_m_isWire.2.1, ck_m_isWire.2.2, by decide, by decide⟩⟩
theorem k1264 : Cond.methodLink RX9 222 yX9_failsOf ∈ gtbl := gm 1264 (by decide +kernel)
theorem ln_m_fails_222 : VL Mm_fails Mm_failsOf 222 1 9 := ⟨k1264, k1266, k56, ⟨_, _, rfl⟩, ⟨ck_m_failsOf.1, ck_m_failsOf.2.1, ck_m_failsOf.2.2, by decide, by decide⟩⟩
theorem ln_m_soonestNow_222 : VL Mm_soonestNow Mm_failsOf 222 1 9 := ⟨k1264, k1266, k56, ⟨_, _, rfl⟩, ⟨ck_m_failsOf.1, ck_m_failsOf.2.1, ck_m_failsOf.2.2, by decide, by decide⟩⟩
theorem ln_m_soonest_186 : VL Mm_soonest Mm_goesAll 186 0 9 := ⟨k1154, k1156, k37, ⟨_, _, rfl⟩, ⟨ck_m_goesAll.1, ck_m_goesAll.2.1, ck_m_goesAll.2.2, by decide, by decide⟩⟩
theorem k1272 : Cond.methodLink RX9 225 yX9_soonestNow ∈ gtbl := gm 1272 (by decide +kernel)
theorem ln_m_soonest_225 : VL Mm_soonest Mm_soonestNow 225 0 9 := ⟨k1272, k1274, k57, ⟨_, _, rfl⟩, ⟨ck_m_soonestNow.1, ck_m_soonestNow.2.1, ck_m_soonestNow.2.2, by decide, by decide⟩⟩
theorem ln_m_leftOn_222 : VL Mm_leftOn Mm_failsOf 222 1 9 := ⟨k1264, k1266, k56, ⟨_, _, rfl⟩, ⟨ck_m_failsOf.1, ck_m_failsOf.2.1, ck_m_failsOf.2.2, by decide, by decide⟩⟩
theorem ln_m_leftOn_149 : SL Mm_leftOn Mm_isIn 149 2 := ⟨k1178, k1179, ⟨ck_m_isIn.1, ck_m_isIn.2.1, ck_m_isIn.2.2, by decide, by decide⟩⟩
theorem ln_m_left_186 : VL Mm_left Mm_goesAll 186 0 9 := ⟨k1154, k1156, k37, ⟨_, _, rfl⟩, ⟨ck_m_goesAll.1, ck_m_goesAll.2.1, ck_m_goesAll.2.2, by decide, by decide⟩⟩
theorem ln_m_left_70 : SL Mm_left Mm_in 70 3 := ⟨k1053, k1054, ⟨ck_m_in.1, ck_m_in.2.1, ck_m_in.2.2, by decide, by decide⟩⟩
theorem k1280 : Cond.methodLink RX9 228 yX9_leftOn ∈ gtbl := gm 1280 (by decide +kernel)
theorem ln_m_left_228 : VL Mm_left Mm_leftOn 228 1 9 := ⟨k1280, k1282, k58, ⟨_, _, rfl⟩, ⟨ck_m_leftOn.1, ck_m_leftOn.2.1, ck_m_leftOn.2.2, by decide, by decide⟩⟩
theorem ln_m_burnsBy_149 : SL Mm_burnsBy Mm_isIn 149 2 := ⟨k1178, k1179, ⟨ck_m_isIn.1, ck_m_isIn.2.1, ck_m_isIn.2.2, by decide, by decide⟩⟩
theorem k1296 : Cond.methodLink RX9 231 yX9_joined ∈ gtbl := gm 1296 (by decide +kernel)
theorem ln_m_burnsBy_231 : SL Mm_burnsBy Mm_joined 231 3 := ⟨k1296, k1297, ⟨ck_m_joined.1, ck_m_joined.2.1, ck_m_joined.2.2, by decide, by decide⟩⟩
theorem ln_m_joined_149 : SL Mm_joined Mm_isIn 149 2 := ⟨k1178, k1179, ⟨ck_m_isIn.1, ck_m_isIn.2.1, ck_m_isIn.2.2, by decide, by decide⟩⟩
theorem k1292 : Cond.methodLink RX9 234 yX9_burnsBy ∈ gtbl := gm 1292 (by decide +kernel)
theorem ln_m_burnsNow_234 : VL Mm_burnsNow Mm_burnsBy 234 5 9 := ⟨k1292, k1294, k60, ⟨_, _, rfl⟩, ⟨ck_m_burnsBy.1, ck_m_burnsBy.2.1, ck_m_burnsBy.2.2, by decide, by decide⟩⟩
theorem ln_m_burns_186 : VL Mm_burns Mm_goesAll 186 0 9 := ⟨k1154, k1156, k37, ⟨_, _, rfl⟩, ⟨ck_m_goesAll.1, ck_m_goesAll.2.1, ck_m_goesAll.2.2, by decide, by decide⟩⟩
theorem ln_m_burns_70 : SL Mm_burns Mm_in 70 3 := ⟨k1053, k1054, ⟨ck_m_in.1, ck_m_in.2.1, ck_m_in.2.2, by decide, by decide⟩⟩
theorem k1288 : Cond.methodLink RX9 238 yX9_burnsNow ∈ gtbl := gm 1288 (by decide +kernel)
theorem ln_m_burns_238 : VL Mm_burns Mm_burnsNow 238 1 9 := ⟨k1288, k1290, k59, ⟨_, _, rfl⟩, ⟨ck_m_burnsNow.1, ck_m_burnsNow.2.1, ck_m_burnsNow.2.2, by decide, by decide⟩⟩
theorem ln_m_lights_207 : VL Mm_lights Mm_keeps 207 0 9 := ⟨k1244, k1246, k52, ⟨_, _, rfl⟩, ⟨ck_m_keeps.1, ck_m_keeps.2.1, ck_m_keeps.2.2, by decide, by decide⟩⟩
theorem ln_m_lights_174 : VL Mm_lights Mm_draws 174 2 9 := ⟨k1162, k1164, k39, ⟨_, _, rfl⟩, ⟨ck_m_draws.1, ck_m_draws.2.1, ck_m_draws.2.2, by decide, by decide⟩⟩
theorem ln_m_lights_210 : VL Mm_lights Mm_putsBack 210 0 9 := ⟨k1248, k1250, k53, ⟨_, _, rfl⟩, ⟨ck_m_putsBack.1, ck_m_putsBack.2.1, ck_m_putsBack.2.2, by decide, by decide⟩⟩
theorem ln_m_lights_234 : VL Mm_lights Mm_burnsBy 234 5 9 := ⟨k1292, k1294, k60, ⟨_, _, rfl⟩, ⟨ck_m_burnsBy.1, ck_m_burnsBy.2.1, ck_m_burnsBy.2.2, by decide, by decide⟩⟩
theorem ln_m_findLit_238 : VL Mm_findLit Mm_burnsNow 238 1 9 := ⟨k1288, k1290, k59, ⟨_, _, rfl⟩, ⟨ck_m_burnsNow.1, ck_m_burnsNow.2.1, ck_m_burnsNow.2.2, by decide, by decide⟩⟩
theorem k1307 : Cond.methodLink RX9 241 yX9_lights ∈ gtbl := gm 1307 (by decide +kernel)
theorem ln_m_findLit_241 : VL Mm_findLit Mm_lights 241 3 9 := ⟨k1307, k1309, k62, ⟨_, _, rfl⟩, ⟨ck_m_lights.1, ck_m_lights.2.1, ck_m_lights.2.2, by decide, by decide⟩⟩
theorem ln_m_lit_70 : SL Mm_lit Mm_in 70 3 := ⟨k1053, k1054, ⟨ck_m_in.1, ck_m_in.2.1, ck_m_in.2.2, by decide, by decide⟩⟩
theorem ln_m_lit_186 : VL Mm_lit Mm_goesAll 186 0 9 := ⟨k1154, k1156, k37, ⟨_, _, rfl⟩, ⟨ck_m_goesAll.1, ck_m_goesAll.2.1, ck_m_goesAll.2.2, by decide, by decide⟩⟩
theorem k1303 : Cond.methodLink RX9 245 yX9_findLit ∈ gtbl := gm 1303 (by decide +kernel)
theorem ln_m_lit_245 : VL Mm_lit Mm_findLit 245 1 9 := ⟨k1303, k1305, k61, ⟨_, _, rfl⟩, ⟨ck_m_findLit.1, ck_m_findLit.2.1, ck_m_findLit.2.2, by decide, by decide⟩⟩
theorem ln_m_goesThrough_149 : SL Mm_goesThrough Mm_isIn 149 2 := ⟨k1178, k1179, ⟨ck_m_isIn.1, ck_m_isIn.2.1, ck_m_isIn.2.2, by decide, by decide⟩⟩
theorem k1325 : Cond.methodLink RX9 248 yX9_goesThrough ∈ gtbl := gm 1325 (by decide +kernel)
theorem ln_m_walks_248 : VL Mm_walks Mm_goesThrough 248 1 9 := ⟨k1325, k1327, k65, ⟨_, _, rfl⟩, ⟨ck_m_goesThrough.1, ck_m_goesThrough.2.1, ck_m_goesThrough.2.2, by decide, by decide⟩⟩
theorem k1329 : Cond.methodLink RX9 251 yX9_inAt ∈ gtbl := gm 1329 (by decide +kernel)
theorem ln_m_walks_251 : VL Mm_walks Mm_inAt 251 1 9 := ⟨k1329, k1331, k66, ⟨_, _, rfl⟩, ⟨ck_m_inAt.1, ck_m_inAt.2.1, ck_m_inAt.2.2, by decide, by decide⟩⟩
theorem k1333 : Cond.methodLink RX9 254 yX9_outAt ∈ gtbl := gm 1333 (by decide +kernel)
theorem ln_m_walks_254 : VL Mm_walks Mm_outAt 254 1 9 := ⟨k1333, k1335, k67, ⟨_, _, rfl⟩, ⟨ck_m_outAt.1, ck_m_outAt.2.1, ck_m_outAt.2.2, by decide, by decide⟩⟩
theorem ln_m_waysTo_254 : VL Mm_waysTo Mm_outAt 254 1 9 := ⟨k1333, k1335, k67, ⟨_, _, rfl⟩, ⟨ck_m_outAt.1, ck_m_outAt.2.1, ck_m_outAt.2.2, by decide, by decide⟩⟩
theorem k1321 : Cond.methodLink RX9 257 yX9_walks ∈ gtbl := gm 1321 (by decide +kernel)
theorem ln_m_heardOf_257 : VL Mm_heardOf Mm_walks 257 2 9 := ⟨k1321, k1323, k64, ⟨_, _, rfl⟩, ⟨ck_m_walks.1, ck_m_walks.2.1, ck_m_walks.2.2, by decide, by decide⟩⟩
theorem k1337 : Cond.methodLink RX9 261 yX9_waysTo ∈ gtbl := gm 1337 (by decide +kernel)
theorem ln_m_heardOf_261 : VL Mm_heardOf Mm_waysTo 261 3 9 := ⟨k1337, k1339, k68, ⟨_, _, rfl⟩, ⟨ck_m_waysTo.1, ck_m_waysTo.2.1, ck_m_waysTo.2.2, by decide, by decide⟩⟩
theorem ln_m_heard_118 : VL Mm_heard Mm_reads 118 0 9 := ⟨k1098, k1100, k34, ⟨_, _, rfl⟩, ⟨ck_m_reads.1, ck_m_reads.2.1, ck_m_reads.2.2, by decide, by decide⟩⟩
theorem ln_m_heard_130 : SL Mm_heard Mm_isEnd 130 1 := ⟨k1126, k1127, ⟨ck_m_isEnd.1, ck_m_isEnd.2.1, ck_m_isEnd.2.2, by decide, by decide⟩⟩
theorem ln_m_heard_70 : SL Mm_heard Mm_in 70 3 := ⟨k1053, k1054, ⟨ck_m_in.1, ck_m_in.2.1, ck_m_in.2.2, by decide, by decide⟩⟩
theorem k1317 : Cond.methodLink RX9 268 yX9_heardOf ∈ gtbl := gm 1317 (by decide +kernel)
theorem ln_m_heard_268 : VL Mm_heard Mm_heardOf 268 3 9 := ⟨k1317, k1319, k63, ⟨_, _, rfl⟩, ⟨ck_m_heardOf.1, ck_m_heardOf.2.1, ck_m_heardOf.2.2, by decide, by decide⟩⟩
theorem ln_m_meet_118 : VL Mm_meet Mm_reads 118 0 9 := ⟨k1098, k1100, k34, ⟨_, _, rfl⟩, ⟨ck_m_reads.1, ck_m_reads.2.1, ck_m_reads.2.2, by decide, by decide⟩⟩
theorem ln_m_meet_70 : SL Mm_meet Mm_in 70 3 := ⟨k1053, k1054, ⟨ck_m_in.1, ck_m_in.2.1, ck_m_in.2.2, by decide, by decide⟩⟩
theorem ln_m_meet_192 : SL Mm_meet Mm_isTwo 192 1 := ⟨k1201, k1202, ⟨ck_m_isTwo.1, ck_m_isTwo.2.1, ck_m_isTwo.2.2, by decide, by decide⟩⟩
theorem k1345 : Cond.methodLink RX9 271 yX9_meetOf ∈ gtbl := gm 1345 (by decide +kernel)
theorem ln_m_meet_271 : VL Mm_meet Mm_meetOf 271 4 9 := ⟨k1345, k1347, k69, ⟨_, _, rfl⟩, ⟨ck_m_meetOf.1, ck_m_meetOf.2.1, ck_m_meetOf.2.2, by decide, by decide⟩⟩
theorem ln_m_drowsyOf_149 : SL Mm_drowsyOf Mm_isIn 149 2 := ⟨k1178, k1179, ⟨ck_m_isIn.1, ck_m_isIn.2.1, ck_m_isIn.2.2, by decide, by decide⟩⟩
theorem ln_m_drowsyOf_159 : VL Mm_drowsyOf Mm_other 159 2 9 := ⟨k1181, k1183, k43, ⟨_, _, rfl⟩, ⟨ck_m_other.1, ck_m_other.2.1, ck_m_other.2.2, by decide, by decide⟩⟩
theorem ln_m_drowsy_118 : VL Mm_drowsy Mm_reads 118 0 9 := ⟨k1098, k1100, k34, ⟨_, _, rfl⟩, ⟨ck_m_reads.1, ck_m_reads.2.1, ck_m_reads.2.2, by decide, by decide⟩⟩
theorem ln_m_drowsy_130 : SL Mm_drowsy Mm_isEnd 130 1 := ⟨k1126, k1127, ⟨ck_m_isEnd.1, ck_m_isEnd.2.1, ck_m_isEnd.2.2, by decide, by decide⟩⟩
theorem ln_m_drowsy_70 : SL Mm_drowsy Mm_in 70 3 := ⟨k1053, k1054, ⟨ck_m_in.1, ck_m_in.2.1, ck_m_in.2.2, by decide, by decide⟩⟩
theorem k1354 : Cond.methodLink RX9 278 yX9_drowsyOf ∈ gtbl := gm 1354 (by decide +kernel)
theorem ln_m_drowsy_278 : VL Mm_drowsy Mm_drowsyOf 278 3 9 := ⟨k1354, k1356, k70, ⟨_, _, rfl⟩, ⟨ck_m_drowsyOf.1, ck_m_drowsyOf.2.1, ck_m_drowsyOf.2.2, by decide, by decide⟩⟩
theorem ln_m_chalk_143 : SL Mm_chalk Mm_isWire 143 1 := ⟨k1137, k1138, ⟨ck_m_isWire.1, ck_m_isWire.2.1, ck_m_isWire.2.2, by decide, by decide⟩⟩
theorem ln_m_chalk_136 : SL Mm_chalk Mm_areEnds 136 2 := ⟨k1123, k1124, ⟨ck_m_areEnds.1, ck_m_areEnds.2.1, ck_m_areEnds.2.2, by decide, by decide⟩⟩
theorem ln_m_liesNow_149 : SL Mm_liesNow Mm_isIn 149 2 := ⟨k1178, k1179, ⟨ck_m_isIn.1, ck_m_isIn.2.1, ck_m_isIn.2.2, by decide, by decide⟩⟩
theorem ln_m_lies_186 : VL Mm_lies Mm_goesAll 186 0 9 := ⟨k1154, k1156, k37, ⟨_, _, rfl⟩, ⟨ck_m_goesAll.1, ck_m_goesAll.2.1, ck_m_goesAll.2.2, by decide, by decide⟩⟩
theorem k1367 : Cond.methodLink RX9 284 yX9_liesNow ∈ gtbl := gm 1367 (by decide +kernel)
theorem ln_m_lies_284 : VL Mm_lies Mm_liesNow 284 0 9 := ⟨k1367, k1369, k71, ⟨_, _, rfl⟩, ⟨ck_m_liesNow.1, ck_m_liesNow.2.1, ck_m_liesNow.2.2, by decide, by decide⟩⟩
theorem ln_m_scene_70 : SL Mm_scene Mm_in 70 3 := ⟨k1053, k1054, ⟨ck_m_in.1, ck_m_in.2.1, ck_m_in.2.2, by decide, by decide⟩⟩
theorem ln_m_scenesOf_183 : VL Mm_scenesOf Mm_goes 183 1 9 := ⟨k1158, k1160, k38, ⟨_, _, rfl⟩, ⟨ck_m_goes.1, ck_m_goes.2.1, ck_m_goes.2.2, by decide, by decide⟩⟩
theorem ln_m_scenesOf_238 : VL Mm_scenesOf Mm_burnsNow 238 1 9 := ⟨k1288, k1290, k59, ⟨_, _, rfl⟩, ⟨ck_m_burnsNow.1, ck_m_burnsNow.2.1, ck_m_burnsNow.2.2, by decide, by decide⟩⟩
theorem ln_m_scenes_70 : SL Mm_scenes Mm_in 70 3 := ⟨k1053, k1054, ⟨ck_m_in.1, ck_m_in.2.1, ck_m_in.2.2, by decide, by decide⟩⟩
theorem k1379 : Cond.methodLink RX9 290 yX9_scenesOf ∈ gtbl := gm 1379 (by decide +kernel)
theorem ln_m_scenes_290 : VL Mm_scenes Mm_scenesOf 290 1 9 := ⟨k1379, k1381, k72, ⟨_, _, rfl⟩, ⟨ck_m_scenesOf.1, ck_m_scenesOf.2.1, ck_m_scenesOf.2.2, by decide, by decide⟩⟩
theorem ln_m_cueOf_290 : VL Mm_cueOf Mm_scenesOf 290 1 9 := ⟨k1379, k1381, k72, ⟨_, _, rfl⟩, ⟨ck_m_scenesOf.1, ck_m_scenesOf.2.1, ck_m_scenesOf.2.2, by decide, by decide⟩⟩
theorem ln_m_cueOf_149 : SL Mm_cueOf Mm_isIn 149 2 := ⟨k1178, k1179, ⟨ck_m_isIn.1, ck_m_isIn.2.1, ck_m_isIn.2.2, by decide, by decide⟩⟩
theorem ln_m_cue_70 : SL Mm_cue Mm_in 70 3 := ⟨k1053, k1054, ⟨ck_m_in.1, ck_m_in.2.1, ck_m_in.2.2, by decide, by decide⟩⟩
theorem k1387 : Cond.methodLink RX9 293 yX9_cueOf ∈ gtbl := gm 1387 (by decide +kernel)
theorem ln_m_cue_293 : VL Mm_cue Mm_cueOf 293 1 9 := ⟨k1387, k1389, k73, ⟨_, _, rfl⟩, ⟨ck_m_cueOf.1, ck_m_cueOf.2.1, ck_m_cueOf.2.2, by decide, by decide⟩⟩
theorem ln_m_forget_192 : SL Mm_forget Mm_isTwo 192 1 := ⟨k1201, k1202, ⟨ck_m_isTwo.1, ck_m_isTwo.2.1, ck_m_isTwo.2.2, by decide, by decide⟩⟩
theorem ln_m_write_136 : SL Mm_write Mm_areEnds 136 2 := ⟨k1123, k1124, ⟨ck_m_areEnds.1, ck_m_areEnds.2.1, ck_m_areEnds.2.2, by decide, by decide⟩⟩
theorem ln_m_write_80 : SL Mm_write Mm_isSheet 80 1 := ⟨k1049, k1050, ⟨ck_m_isSheet.1, ck_m_isSheet.2.1, ck_m_isSheet.2.2, by decide, by decide⟩⟩
theorem ln_m_write_86 : VL Mm_write Mm_finds 86 1 9 := ⟨k1057, k1059, k32, ⟨_, _, rfl⟩, ⟨ck_m_finds.1, ck_m_finds.2.1, ck_m_finds.2.2, by decide, by decide⟩⟩
theorem ln_m_write_186 : VL Mm_write Mm_goesAll 186 0 9 := ⟨k1154, k1156, k37, ⟨_, _, rfl⟩, ⟨ck_m_goesAll.1, ck_m_goesAll.2.1, ck_m_goesAll.2.2, by decide, by decide⟩⟩
theorem ln_m_write_162 : VL Mm_write Mm_findWay 162 2 9 := ⟨k1166, k1168, k40, ⟨_, _, rfl⟩, ⟨ck_m_findWay.1, ck_m_findWay.2.1, ck_m_findWay.2.2, by decide, by decide⟩⟩
theorem ln_m_write_94 : SL Mm_write Mm_cut 94 2 := ⟨k1073, k1074, ⟨ck_m_cut.1, ck_m_cut.2.1, ck_m_cut.2.2, by decide, by decide⟩⟩
theorem ln_m_count_186 : VL Mm_count Mm_goesAll 186 0 9 := ⟨k1154, k1156, k37, ⟨_, _, rfl⟩, ⟨ck_m_goesAll.1, ck_m_goesAll.2.1, ck_m_goesAll.2.2, by decide, by decide⟩⟩
theorem k1403 : Cond.methodLink RX9 296 yX9_ones ∈ gtbl := gm 1403 (by decide +kernel)
theorem ln_m_count_296 : SL Mm_count Mm_ones 296 1 := ⟨k1403, k1404, ⟨ck_m_ones.1, ck_m_ones.2.1, ck_m_ones.2.2, by decide, by decide⟩⟩
theorem k1412 : Cond.methodLink RX9 303 yX9_count ∈ gtbl := gm 1412 (by decide +kernel)
theorem ln_m_digest_303 : VL Mm_digest Mm_count 303 1 9 := ⟨k1412, k1400, k1401, ⟨_, _, rfl⟩, ⟨ck_m_count.1, ck_m_count.2.1, ck_m_count.2.2, by decide, by decide⟩⟩
theorem ln_m_digest_118 : VL Mm_digest Mm_reads 118 0 9 := ⟨k1098, k1100, k34, ⟨_, _, rfl⟩, ⟨ck_m_reads.1, ck_m_reads.2.1, ck_m_reads.2.2, by decide, by decide⟩⟩
theorem k1413 : Cond.methodLink RX9 306 yX9_judged ∈ gtbl := gm 1413 (by decide +kernel)
theorem ln_m_digest_306 : VL Mm_digest Mm_judged 306 0 9 := ⟨k1413, k1194, k1195, ⟨_, _, rfl⟩, ⟨ck_m_judged.1, ck_m_judged.2.1, ck_m_judged.2.2, by decide, by decide⟩⟩
theorem ln_m_digest_198 : VL Mm_digest Mm_pipesOf 198 1 9 := ⟨k1216, k1218, k48, ⟨_, _, rfl⟩, ⟨ck_m_pipesOf.1, ck_m_pipesOf.2.1, ck_m_pipesOf.2.2, by decide, by decide⟩⟩
theorem ln_m_digest_201 : VL Mm_digest Mm_outOf 201 1 9 := ⟨k1224, k1226, k49, ⟨_, _, rfl⟩, ⟨ck_m_outOf.1, ck_m_outOf.2.1, ck_m_outOf.2.2, by decide, by decide⟩⟩
theorem ln_m_digest_222 : VL Mm_digest Mm_failsOf 222 1 9 := ⟨k1264, k1266, k56, ⟨_, _, rfl⟩, ⟨ck_m_failsOf.1, ck_m_failsOf.2.1, ck_m_failsOf.2.2, by decide, by decide⟩⟩
theorem ln_m_digest_189 : VL Mm_digest Mm_fullNow 189 0 9 := ⟨k1208, k1210, k47, ⟨_, _, rfl⟩, ⟨ck_m_fullNow.1, ck_m_fullNow.2.1, ck_m_fullNow.2.2, by decide, by decide⟩⟩
theorem ln_m_digest_225 : VL Mm_digest Mm_soonestNow 225 0 9 := ⟨k1272, k1274, k57, ⟨_, _, rfl⟩, ⟨ck_m_soonestNow.1, ck_m_soonestNow.2.1, ck_m_soonestNow.2.2, by decide, by decide⟩⟩
theorem ln_m_digest_228 : VL Mm_digest Mm_leftOn 228 1 9 := ⟨k1280, k1282, k58, ⟨_, _, rfl⟩, ⟨ck_m_leftOn.1, ck_m_leftOn.2.1, ck_m_leftOn.2.2, by decide, by decide⟩⟩
theorem ln_m_digest_238 : VL Mm_digest Mm_burnsNow 238 1 9 := ⟨k1288, k1290, k59, ⟨_, _, rfl⟩, ⟨ck_m_burnsNow.1, ck_m_burnsNow.2.1, ck_m_burnsNow.2.2, by decide, by decide⟩⟩
theorem ln_m_digest_204 : VL Mm_digest Mm_shortestOf 204 3 9 := ⟨k1232, k1234, k50, ⟨_, _, rfl⟩, ⟨ck_m_shortestOf.1, ck_m_shortestOf.2.1, ck_m_shortestOf.2.2, by decide, by decide⟩⟩
theorem ln_m_digest_216 : VL Mm_digest Mm_drawnOf 216 2 9 := ⟨k1240, k1242, k51, ⟨_, _, rfl⟩, ⟨ck_m_drawnOf.1, ck_m_drawnOf.2.1, ck_m_drawnOf.2.2, by decide, by decide⟩⟩
theorem ln_m_digest_219 : VL Mm_digest Mm_mostOf 219 2 9 := ⟨k1252, k1254, k54, ⟨_, _, rfl⟩, ⟨ck_m_mostOf.1, ck_m_mostOf.2.1, ck_m_mostOf.2.2, by decide, by decide⟩⟩
theorem ln_m_digest_268 : VL Mm_digest Mm_heardOf 268 3 9 := ⟨k1317, k1319, k63, ⟨_, _, rfl⟩, ⟨ck_m_heardOf.1, ck_m_heardOf.2.1, ck_m_heardOf.2.2, by decide, by decide⟩⟩
theorem ln_m_digest_245 : VL Mm_digest Mm_findLit 245 1 9 := ⟨k1303, k1305, k61, ⟨_, _, rfl⟩, ⟨ck_m_findLit.1, ck_m_findLit.2.1, ck_m_findLit.2.2, by decide, by decide⟩⟩
theorem ln_m_digest_278 : VL Mm_digest Mm_drowsyOf 278 3 9 := ⟨k1354, k1356, k70, ⟨_, _, rfl⟩, ⟨ck_m_drowsyOf.1, ck_m_drowsyOf.2.1, ck_m_drowsyOf.2.2, by decide, by decide⟩⟩
theorem ln_m_digest_284 : VL Mm_digest Mm_liesNow 284 0 9 := ⟨k1367, k1369, k71, ⟨_, _, rfl⟩, ⟨ck_m_liesNow.1, ck_m_liesNow.2.1, ck_m_liesNow.2.2, by decide, by decide⟩⟩
theorem ln_m_digest_290 : VL Mm_digest Mm_scenesOf 290 1 9 := ⟨k1379, k1381, k72, ⟨_, _, rfl⟩, ⟨ck_m_scenesOf.1, ck_m_scenesOf.2.1, ck_m_scenesOf.2.2, by decide, by decide⟩⟩
theorem k1414 : Cond.methodLink RX9 309 yX9_cue ∈ gtbl := gm 1414 (by decide +kernel)
theorem ln_m_digest_309 : VL Mm_digest Mm_cue 309 1 9 := ⟨k1414, k1384, k1385, ⟨_, _, rfl⟩, ⟨ck_m_cue.1, ck_m_cue.2.1, ck_m_cue.2.2, by decide, by decide⟩⟩
theorem k370 : Cond.methodLink RL 13 yX8_type ∈ gtbl := gm 370 (by decide +kernel)
theorem ln_law_law_13 : VL Mlaw_law Mx_type 13 1 8 := ⟨k370, k371, k372, ⟨_, _, rfl⟩, ⟨ck_x_type.1, ck_x_type.2.1, ck_x_type.2.2, by decide, by decide⟩⟩
theorem k1085 : Cond.methodLink RL 17 yX9_type ∈ gtbl := gm 1085 (by decide +kernel)
theorem ln_law_law_17 : VL Mlaw_law Mm_type 17 1 9 := ⟨k1085, k1086, k1087, ⟨_, _, rfl⟩, ⟨ck_m_type.1, ck_m_type.2.1, ck_m_type.2.2, by decide, by decide⟩⟩
theorem k455 : Cond.methodLink RL 18 yX8_wipe ∈ gtbl := gm 455 (by decide +kernel)
theorem ln_law_law_18 : VL Mlaw_law Mx_wipe 18 0 8 := ⟨k455, k456, k457, ⟨_, _, rfl⟩, ⟨ck_x_wipe.1, ck_x_wipe.2.1, ck_x_wipe.2.2, by decide, by decide⟩⟩
theorem k1090 : Cond.methodLink RL 22 yX9_wipe ∈ gtbl := gm 1090 (by decide +kernel)
theorem ln_law_law_22 : VL Mlaw_law Mm_wipe 22 0 9 := ⟨k1090, k1091, k1092, ⟨_, _, rfl⟩, ⟨ck_m_wipe.1, ck_m_wipe.2.1, ck_m_wipe.2.2, by decide, by decide⟩⟩
theorem k463 : Cond.methodLink RL 23 yX8_undo ∈ gtbl := gm 463 (by decide +kernel)
theorem ln_law_law_23 : VL Mlaw_law Mx_undo 23 0 8 := ⟨k463, k464, k465, ⟨_, _, rfl⟩, ⟨ck_x_undo.1, ck_x_undo.2.1, ck_x_undo.2.2, by decide, by decide⟩⟩
theorem k1108 : Cond.methodLink RL 26 yX9_undo ∈ gtbl := gm 1108 (by decide +kernel)
theorem ln_law_law_26 : VL Mlaw_law Mm_undo 26 0 9 := ⟨k1108, k1109, k1110, ⟨_, _, rfl⟩, ⟨ck_m_undo.1, ck_m_undo.2.1, ck_m_undo.2.2, by decide, by decide⟩⟩
theorem k474 : Cond.methodLink RL 27 yX8_fault ∈ gtbl := gm 474 (by decide +kernel)
theorem ln_law_law_27 : VL Mlaw_law Mx_fault 27 0 8 := ⟨k474, k475, k476, ⟨_, _, rfl⟩, ⟨ck_x_fault.1, ck_x_fault.2.1, ck_x_fault.2.2, by decide, by decide⟩⟩
theorem k1094 : Cond.methodLink RL 30 yX9_fault ∈ gtbl := gm 1094 (by decide +kernel)
theorem ln_law_law_30 : VL Mlaw_law Mm_fault 30 0 9 := ⟨k1094, k1095, k1096, ⟨_, _, rfl⟩, ⟨ck_m_fault.1, ck_m_fault.2.1, ck_m_fault.2.2, by decide, by decide⟩⟩
theorem k478 : Cond.methodLink RL 31 yX8_pipe ∈ gtbl := gm 478 (by decide +kernel)
theorem ln_law_law_31 : VL Mlaw_law Mx_pipe 31 2 8 := ⟨k478, k479, k480, ⟨_, _, rfl⟩, ⟨ck_x_pipe.1, ck_x_pipe.2.1, ck_x_pipe.2.2, by decide, by decide⟩⟩
theorem k1150 : Cond.methodLink RL 35 yX9_pipe ∈ gtbl := gm 1150 (by decide +kernel)
theorem ln_law_law_35 : VL Mlaw_law Mm_pipe 35 2 9 := ⟨k1150, k1151, k1152, ⟨_, _, rfl⟩, ⟨ck_m_pipe.1, ck_m_pipe.2.1, ck_m_pipe.2.2, by decide, by decide⟩⟩
theorem k494 : Cond.methodLink RL 36 yX8_set ∈ gtbl := gm 494 (by decide +kernel)
theorem ln_law_law_36 : VL Mlaw_law Mx_set 36 2 8 := ⟨k494, k495, k496, ⟨_, _, rfl⟩, ⟨ck_x_set.1, ck_x_set.2.1, ck_x_set.2.2, by decide, by decide⟩⟩
theorem k1112 : Cond.methodLink RL 39 yX9_set ∈ gtbl := gm 1112 (by decide +kernel)
theorem ln_law_law_39 : VL Mlaw_law Mm_set 39 2 9 := ⟨k1112, k1113, k1114, ⟨_, _, rfl⟩, ⟨ck_m_set.1, ck_m_set.2.1, ck_m_set.2.2, by decide, by decide⟩⟩
theorem k511 : Cond.methodLink RL 40 yX8_letIn ∈ gtbl := gm 511 (by decide +kernel)
theorem ln_law_law_40 : VL Mlaw_law Mx_letIn 40 2 8 := ⟨k511, k512, k513, ⟨_, _, rfl⟩, ⟨ck_x_letIn.1, ck_x_letIn.2.1, ck_x_letIn.2.2, by decide, by decide⟩⟩
theorem k1119 : Cond.methodLink RL 43 yX9_letIn ∈ gtbl := gm 1119 (by decide +kernel)
theorem ln_law_law_43 : VL Mlaw_law Mm_letIn 43 2 9 := ⟨k1119, k1120, k1121, ⟨_, _, rfl⟩, ⟨ck_m_letIn.1, ck_m_letIn.2.1, ck_m_letIn.2.2, by decide, by decide⟩⟩
theorem k526 : Cond.methodLink RL 44 yX8_pull ∈ gtbl := gm 526 (by decide +kernel)
theorem ln_law_law_44 : VL Mlaw_law Mx_pull 44 1 8 := ⟨k526, k527, k528, ⟨_, _, rfl⟩, ⟨ck_x_pull.1, ck_x_pull.2.1, ck_x_pull.2.2, by decide, by decide⟩⟩
theorem k1133 : Cond.methodLink RL 47 yX9_pull ∈ gtbl := gm 1133 (by decide +kernel)
theorem ln_law_law_47 : VL Mlaw_law Mm_pull 47 1 9 := ⟨k1133, k1134, k1135, ⟨_, _, rfl⟩, ⟨ck_m_pull.1, ck_m_pull.2.1, ck_m_pull.2.2, by decide, by decide⟩⟩
theorem k533 : Cond.methodLink RL 48 yX8_back ∈ gtbl := gm 533 (by decide +kernel)
theorem ln_law_law_48 : VL Mlaw_law Mx_back 48 0 8 := ⟨k533, k534, k535, ⟨_, _, rfl⟩, ⟨ck_x_back.1, ck_x_back.2.1, ck_x_back.2.2, by decide, by decide⟩⟩
theorem k1141 : Cond.methodLink RL 51 yX9_back ∈ gtbl := gm 1141 (by decide +kernel)
theorem ln_law_law_51 : VL Mlaw_law Mm_back 51 0 9 := ⟨k1141, k1142, k1143, ⟨_, _, rfl⟩, ⟨ck_m_back.1, ck_m_back.2.1, ck_m_back.2.2, by decide, by decide⟩⟩
theorem k541 : Cond.methodLink RL 52 yX8_read ∈ gtbl := gm 541 (by decide +kernel)
theorem ln_law_law_52 : VL Mlaw_law Mx_read 52 1 8 := ⟨k541, k542, k543, ⟨_, _, rfl⟩, ⟨ck_x_read.1, ck_x_read.2.1, ck_x_read.2.2, by decide, by decide⟩⟩
theorem k1145 : Cond.methodLink RL 55 yX9_read ∈ gtbl := gm 1145 (by decide +kernel)
theorem ln_law_law_55 : VL Mlaw_law Mm_read 55 1 9 := ⟨k1145, k1146, k1147, ⟨_, _, rfl⟩, ⟨ck_m_read.1, ck_m_read.2.1, ck_m_read.2.2, by decide, by decide⟩⟩
theorem k562 : Cond.methodLink RL 56 yX8_judged ∈ gtbl := gm 562 (by decide +kernel)
theorem ln_law_law_56 : VL Mlaw_law Mx_judged 56 0 8 := ⟨k562, k563, k564, ⟨_, _, rfl⟩, ⟨ck_x_judged.1, ck_x_judged.2.1, ck_x_judged.2.2, by decide, by decide⟩⟩
theorem k1193 : Cond.methodLink RL 59 yX9_judged ∈ gtbl := gm 1193 (by decide +kernel)
theorem ln_law_law_59 : VL Mlaw_law Mm_judged 59 0 9 := ⟨k1193, k1194, k1195, ⟨_, _, rfl⟩, ⟨ck_m_judged.1, ck_m_judged.2.1, ck_m_judged.2.2, by decide, by decide⟩⟩
theorem k574 : Cond.methodLink RL 60 yX8_state ∈ gtbl := gm 574 (by decide +kernel)
theorem ln_law_law_60 : VL Mlaw_law Mx_state 60 2 8 := ⟨k574, k575, k576, ⟨_, _, rfl⟩, ⟨ck_x_state.1, ck_x_state.2.1, ck_x_state.2.2, by decide, by decide⟩⟩
theorem k1197 : Cond.methodLink RL 63 yX9_state ∈ gtbl := gm 1197 (by decide +kernel)
theorem ln_law_law_63 : VL Mlaw_law Mm_state 63 2 9 := ⟨k1197, k1198, k1199, ⟨_, _, rfl⟩, ⟨ck_m_state.1, ck_m_state.2.1, ck_m_state.2.2, by decide, by decide⟩⟩
theorem k587 : Cond.methodLink RL 64 yX8_wire ∈ gtbl := gm 587 (by decide +kernel)
theorem ln_law_law_64 : VL Mlaw_law Mx_wire 64 2 8 := ⟨k587, k588, k589, ⟨_, _, rfl⟩, ⟨ck_x_wire.1, ck_x_wire.2.1, ck_x_wire.2.2, by decide, by decide⟩⟩
theorem k1212 : Cond.methodLink RL 67 yX9_wire ∈ gtbl := gm 1212 (by decide +kernel)
theorem ln_law_law_67 : VL Mlaw_law Mm_wire 67 2 9 := ⟨k1212, k1213, k1214, ⟨_, _, rfl⟩, ⟨ck_m_wire.1, ck_m_wire.2.1, ck_m_wire.2.2, by decide, by decide⟩⟩
theorem k592 : Cond.methodLink RL 68 yX8_out ∈ gtbl := gm 592 (by decide +kernel)
theorem ln_law_law_68 : VL Mlaw_law Mx_out 68 1 8 := ⟨k592, k593, k594, ⟨_, _, rfl⟩, ⟨ck_x_out.1, ck_x_out.2.1, ck_x_out.2.2, by decide, by decide⟩⟩
theorem k1220 : Cond.methodLink RL 71 yX9_out ∈ gtbl := gm 1220 (by decide +kernel)
theorem ln_law_law_71 : VL Mlaw_law Mm_out 71 1 9 := ⟨k1220, k1221, k1222, ⟨_, _, rfl⟩, ⟨ck_m_out.1, ck_m_out.2.1, ck_m_out.2.2, by decide, by decide⟩⟩
theorem k602 : Cond.methodLink RL 72 yX8_shortest ∈ gtbl := gm 602 (by decide +kernel)
theorem ln_law_law_72 : VL Mlaw_law Mx_shortest 72 3 8 := ⟨k602, k603, k604, ⟨_, _, rfl⟩, ⟨ck_x_shortest.1, ck_x_shortest.2.1, ck_x_shortest.2.2, by decide, by decide⟩⟩
theorem k1228 : Cond.methodLink RL 76 yX9_shortest ∈ gtbl := gm 1228 (by decide +kernel)
theorem ln_law_law_76 : VL Mlaw_law Mm_shortest 76 3 9 := ⟨k1228, k1229, k1230, ⟨_, _, rfl⟩, ⟨ck_m_shortest.1, ck_m_shortest.2.1, ck_m_shortest.2.2, by decide, by decide⟩⟩
theorem k619 : Cond.methodLink RL 77 yX8_most ∈ gtbl := gm 619 (by decide +kernel)
theorem ln_law_law_77 : VL Mlaw_law Mx_most 77 3 8 := ⟨k619, k620, k621, ⟨_, _, rfl⟩, ⟨ck_x_most.1, ck_x_most.2.1, ck_x_most.2.2, by decide, by decide⟩⟩
theorem k1236 : Cond.methodLink RL 80 yX9_most ∈ gtbl := gm 1236 (by decide +kernel)
theorem ln_law_law_80 : VL Mlaw_law Mm_most 80 3 9 := ⟨k1236, k1237, k1238, ⟨_, _, rfl⟩, ⟨ck_m_most.1, ck_m_most.2.1, ck_m_most.2.2, by decide, by decide⟩⟩
theorem k664 : Cond.methodLink RL 81 yX8_fails ∈ gtbl := gm 664 (by decide +kernel)
theorem ln_law_law_81 : VL Mlaw_law Mx_fails 81 1 8 := ⟨k664, k665, k666, ⟨_, _, rfl⟩, ⟨ck_x_fails.1, ck_x_fails.2.1, ck_x_fails.2.2, by decide, by decide⟩⟩
theorem k1260 : Cond.methodLink RL 84 yX9_fails ∈ gtbl := gm 1260 (by decide +kernel)
theorem ln_law_law_84 : VL Mlaw_law Mm_fails 84 1 9 := ⟨k1260, k1261, k1262, ⟨_, _, rfl⟩, ⟨ck_m_fails.1, ck_m_fails.2.1, ck_m_fails.2.2, by decide, by decide⟩⟩
theorem k677 : Cond.methodLink RL 85 yX8_soonest ∈ gtbl := gm 677 (by decide +kernel)
theorem ln_law_law_85 : VL Mlaw_law Mx_soonest 85 0 8 := ⟨k677, k678, k679, ⟨_, _, rfl⟩, ⟨ck_x_soonest.1, ck_x_soonest.2.1, ck_x_soonest.2.2, by decide, by decide⟩⟩
theorem k1268 : Cond.methodLink RL 88 yX9_soonest ∈ gtbl := gm 1268 (by decide +kernel)
theorem ln_law_law_88 : VL Mlaw_law Mm_soonest 88 0 9 := ⟨k1268, k1269, k1270, ⟨_, _, rfl⟩, ⟨ck_m_soonest.1, ck_m_soonest.2.1, ck_m_soonest.2.2, by decide, by decide⟩⟩
theorem k681 : Cond.methodLink RL 89 yX8_left ∈ gtbl := gm 681 (by decide +kernel)
theorem ln_law_law_89 : VL Mlaw_law Mx_left 89 1 8 := ⟨k681, k682, k683, ⟨_, _, rfl⟩, ⟨ck_x_left.1, ck_x_left.2.1, ck_x_left.2.2, by decide, by decide⟩⟩
theorem k1276 : Cond.methodLink RL 92 yX9_left ∈ gtbl := gm 1276 (by decide +kernel)
theorem ln_law_law_92 : VL Mlaw_law Mm_left 92 1 9 := ⟨k1276, k1277, k1278, ⟨_, _, rfl⟩, ⟨ck_m_left.1, ck_m_left.2.1, ck_m_left.2.2, by decide, by decide⟩⟩
theorem k685 : Cond.methodLink RL 93 yX8_burns ∈ gtbl := gm 685 (by decide +kernel)
theorem ln_law_law_93 : VL Mlaw_law Mx_burns 93 1 8 := ⟨k685, k686, k687, ⟨_, _, rfl⟩, ⟨ck_x_burns.1, ck_x_burns.2.1, ck_x_burns.2.2, by decide, by decide⟩⟩
theorem k1284 : Cond.methodLink RL 96 yX9_burns ∈ gtbl := gm 1284 (by decide +kernel)
theorem ln_law_law_96 : VL Mlaw_law Mm_burns 96 1 9 := ⟨k1284, k1285, k1286, ⟨_, _, rfl⟩, ⟨ck_m_burns.1, ck_m_burns.2.1, ck_m_burns.2.2, by decide, by decide⟩⟩
theorem k697 : Cond.methodLink RL 97 yX8_lit ∈ gtbl := gm 697 (by decide +kernel)
theorem ln_law_law_97 : VL Mlaw_law Mx_lit 97 2 8 := ⟨k697, k698, k699, ⟨_, _, rfl⟩, ⟨ck_x_lit.1, ck_x_lit.2.1, ck_x_lit.2.2, by decide, by decide⟩⟩
theorem k1299 : Cond.methodLink RL 100 yX9_lit ∈ gtbl := gm 1299 (by decide +kernel)
theorem ln_law_law_100 : VL Mlaw_law Mm_lit 100 2 9 := ⟨k1299, k1300, k1301, ⟨_, _, rfl⟩, ⟨ck_m_lit.1, ck_m_lit.2.1, ck_m_lit.2.2, by decide, by decide⟩⟩
theorem k735 : Cond.methodLink RL 101 yX8_heard ∈ gtbl := gm 735 (by decide +kernel)
theorem ln_law_law_101 : VL Mlaw_law Mx_heard 101 3 8 := ⟨k735, k736, k737, ⟨_, _, rfl⟩, ⟨ck_x_heard.1, ck_x_heard.2.1, ck_x_heard.2.2, by decide, by decide⟩⟩
theorem k1311 : Cond.methodLink RL 104 yX9_heard ∈ gtbl := gm 1311 (by decide +kernel)
theorem ln_law_law_104 : VL Mlaw_law Mm_heard 104 3 9 := ⟨k1311, k1312, k1313, ⟨_, _, rfl⟩, ⟨ck_m_heard.1, ck_m_heard.2.1, ck_m_heard.2.2, by decide, by decide⟩⟩
theorem k754 : Cond.methodLink RL 105 yX8_meet ∈ gtbl := gm 754 (by decide +kernel)
theorem ln_law_law_105 : VL Mlaw_law Mx_meet 105 4 8 := ⟨k754, k755, k756, ⟨_, _, rfl⟩, ⟨ck_x_meet.1, ck_x_meet.2.1, ck_x_meet.2.2, by decide, by decide⟩⟩
theorem k1341 : Cond.methodLink RL 109 yX9_meet ∈ gtbl := gm 1341 (by decide +kernel)
theorem ln_law_law_109 : VL Mlaw_law Mm_meet 109 4 9 := ⟨k1341, k1342, k1343, ⟨_, _, rfl⟩, ⟨ck_m_meet.1, ck_m_meet.2.1, ck_m_meet.2.2, by decide, by decide⟩⟩
theorem k761 : Cond.methodLink RL 110 yX8_drowsy ∈ gtbl := gm 761 (by decide +kernel)
theorem ln_law_law_110 : VL Mlaw_law Mx_drowsy 110 3 8 := ⟨k761, k762, k763, ⟨_, _, rfl⟩, ⟨ck_x_drowsy.1, ck_x_drowsy.2.1, ck_x_drowsy.2.2, by decide, by decide⟩⟩
theorem k1349 : Cond.methodLink RL 113 yX9_drowsy ∈ gtbl := gm 1349 (by decide +kernel)
theorem ln_law_law_113 : VL Mlaw_law Mm_drowsy 113 3 9 := ⟨k1349, k1350, k1351, ⟨_, _, rfl⟩, ⟨ck_m_drowsy.1, ck_m_drowsy.2.1, ck_m_drowsy.2.2, by decide, by decide⟩⟩
theorem k784 : Cond.methodLink RL 114 yX8_chalk ∈ gtbl := gm 784 (by decide +kernel)
theorem ln_law_law_114 : VL Mlaw_law Mx_chalk 114 3 8 := ⟨k784, k785, k786, ⟨_, _, rfl⟩, ⟨ck_x_chalk.1, ck_x_chalk.2.1, ck_x_chalk.2.2, by decide, by decide⟩⟩
theorem k1359 : Cond.methodLink RL 117 yX9_chalk ∈ gtbl := gm 1359 (by decide +kernel)
theorem ln_law_law_117 : VL Mlaw_law Mm_chalk 117 3 9 := ⟨k1359, k1360, k1361, ⟨_, _, rfl⟩, ⟨ck_m_chalk.1, ck_m_chalk.2.1, ck_m_chalk.2.2, by decide, by decide⟩⟩
theorem k793 : Cond.methodLink RL 118 yX8_lies ∈ gtbl := gm 793 (by decide +kernel)
theorem ln_law_law_118 : VL Mlaw_law Mx_lies 118 0 8 := ⟨k793, k794, k795, ⟨_, _, rfl⟩, ⟨ck_x_lies.1, ck_x_lies.2.1, ck_x_lies.2.2, by decide, by decide⟩⟩
theorem k1363 : Cond.methodLink RL 121 yX9_lies ∈ gtbl := gm 1363 (by decide +kernel)
theorem ln_law_law_121 : VL Mlaw_law Mm_lies 121 0 9 := ⟨k1363, k1364, k1365, ⟨_, _, rfl⟩, ⟨ck_m_lies.1, ck_m_lies.2.1, ck_m_lies.2.2, by decide, by decide⟩⟩
theorem k798 : Cond.methodLink RL 122 yX8_scene ∈ gtbl := gm 798 (by decide +kernel)
theorem ln_law_law_122 : VL Mlaw_law Mx_scene 122 1 8 := ⟨k798, k799, k800, ⟨_, _, rfl⟩, ⟨ck_x_scene.1, ck_x_scene.2.1, ck_x_scene.2.2, by decide, by decide⟩⟩
theorem k1371 : Cond.methodLink RL 125 yX9_scene ∈ gtbl := gm 1371 (by decide +kernel)
theorem ln_law_law_125 : VL Mlaw_law Mm_scene 125 1 9 := ⟨k1371, k1372, k1373, ⟨_, _, rfl⟩, ⟨ck_m_scene.1, ck_m_scene.2.1, ck_m_scene.2.2, by decide, by decide⟩⟩
theorem k806 : Cond.methodLink RL 126 yX8_scenes ∈ gtbl := gm 806 (by decide +kernel)
theorem ln_law_law_126 : VL Mlaw_law Mx_scenes 126 1 8 := ⟨k806, k807, k808, ⟨_, _, rfl⟩, ⟨ck_x_scenes.1, ck_x_scenes.2.1, ck_x_scenes.2.2, by decide, by decide⟩⟩
theorem k1375 : Cond.methodLink RL 129 yX9_scenes ∈ gtbl := gm 1375 (by decide +kernel)
theorem ln_law_law_129 : VL Mlaw_law Mm_scenes 129 1 9 := ⟨k1375, k1376, k1377, ⟨_, _, rfl⟩, ⟨ck_m_scenes.1, ck_m_scenes.2.1, ck_m_scenes.2.2, by decide, by decide⟩⟩
theorem k814 : Cond.methodLink RL 130 yX8_cue ∈ gtbl := gm 814 (by decide +kernel)
theorem ln_law_law_130 : VL Mlaw_law Mx_cue 130 1 8 := ⟨k814, k815, k816, ⟨_, _, rfl⟩, ⟨ck_x_cue.1, ck_x_cue.2.1, ck_x_cue.2.2, by decide, by decide⟩⟩
theorem k1383 : Cond.methodLink RL 133 yX9_cue ∈ gtbl := gm 1383 (by decide +kernel)
theorem ln_law_law_133 : VL Mlaw_law Mm_cue 133 1 9 := ⟨k1383, k1384, k1385, ⟨_, _, rfl⟩, ⟨ck_m_cue.1, ck_m_cue.2.1, ck_m_cue.2.2, by decide, by decide⟩⟩
theorem k818 : Cond.methodLink RL 134 yX8_forget ∈ gtbl := gm 818 (by decide +kernel)
theorem ln_law_law_134 : VL Mlaw_law Mx_forget 134 1 8 := ⟨k818, k819, k820, ⟨_, _, rfl⟩, ⟨ck_x_forget.1, ck_x_forget.2.1, ck_x_forget.2.2, by decide, by decide⟩⟩
theorem k1391 : Cond.methodLink RL 137 yX9_forget ∈ gtbl := gm 1391 (by decide +kernel)
theorem ln_law_law_137 : VL Mlaw_law Mm_forget 137 1 9 := ⟨k1391, k1392, k1393, ⟨_, _, rfl⟩, ⟨ck_m_forget.1, ck_m_forget.2.1, ck_m_forget.2.2, by decide, by decide⟩⟩
theorem k830 : Cond.methodLink RL 138 yX8_sheet ∈ gtbl := gm 830 (by decide +kernel)
theorem ln_law_law_138 : VL Mlaw_law Mx_sheet 138 3 8 := ⟨k830, k831, k832, ⟨_, _, rfl⟩, ⟨ck_x_sheet.1, ck_x_sheet.2.1, ck_x_sheet.2.2, by decide, by decide⟩⟩
theorem k1045 : Cond.methodLink RL 141 yX9_sheet ∈ gtbl := gm 1045 (by decide +kernel)
theorem ln_law_law_141 : VL Mlaw_law Mm_sheet 141 3 9 := ⟨k1045, k1046, k1047, ⟨_, _, rfl⟩, ⟨ck_m_sheet.1, ck_m_sheet.2.1, ck_m_sheet.2.2, by decide, by decide⟩⟩
theorem k842 : Cond.methodLink RL 142 yX8_lose ∈ gtbl := gm 842 (by decide +kernel)
theorem ln_law_law_142 : VL Mlaw_law Mx_lose 142 1 8 := ⟨k842, k843, k844, ⟨_, _, rfl⟩, ⟨ck_x_lose.1, ck_x_lose.2.1, ck_x_lose.2.2, by decide, by decide⟩⟩
theorem k1061 : Cond.methodLink RL 145 yX9_lose ∈ gtbl := gm 1061 (by decide +kernel)
theorem ln_law_law_145 : VL Mlaw_law Mm_lose 145 1 9 := ⟨k1061, k1062, k1063, ⟨_, _, rfl⟩, ⟨ck_m_lose.1, ck_m_lose.2.1, ck_m_lose.2.2, by decide, by decide⟩⟩
theorem k850 : Cond.methodLink RL 146 yX8_lay ∈ gtbl := gm 850 (by decide +kernel)
theorem ln_law_law_146 : VL Mlaw_law Mx_lay 146 4 8 := ⟨k850, k851, k852, ⟨_, _, rfl⟩, ⟨ck_x_lay.1, ck_x_lay.2.1, ck_x_lay.2.2, by decide, by decide⟩⟩
theorem k1065 : Cond.methodLink RL 149 yX9_lay ∈ gtbl := gm 1065 (by decide +kernel)
theorem ln_law_law_149 : VL Mlaw_law Mm_lay 149 4 9 := ⟨k1065, k1066, k1067, ⟨_, _, rfl⟩, ⟨ck_m_lay.1, ck_m_lay.2.1, ck_m_lay.2.2, by decide, by decide⟩⟩
theorem k866 : Cond.methodLink RL 150 yX8_get ∈ gtbl := gm 866 (by decide +kernel)
theorem ln_law_law_150 : VL Mlaw_law Mx_get 150 3 8 := ⟨k866, k867, k868, ⟨_, _, rfl⟩, ⟨ck_x_get.1, ck_x_get.2.1, ck_x_get.2.2, by decide, by decide⟩⟩
theorem k1076 : Cond.methodLink RL 153 yX9_get ∈ gtbl := gm 1076 (by decide +kernel)
theorem ln_law_law_153 : VL Mlaw_law Mm_get 153 3 9 := ⟨k1076, k1077, k1078, ⟨_, _, rfl⟩, ⟨ck_m_get.1, ck_m_get.2.1, ck_m_get.2.2, by decide, by decide⟩⟩
theorem k871 : Cond.methodLink RL 154 yX8_copy ∈ gtbl := gm 871 (by decide +kernel)
theorem ln_law_law_154 : VL Mlaw_law Mx_copy 154 5 8 := ⟨k871, k872, k873, ⟨_, _, rfl⟩, ⟨ck_x_copy.1, ck_x_copy.2.1, ck_x_copy.2.2, by decide, by decide⟩⟩
theorem k1081 : Cond.methodLink RL 158 yX9_copy ∈ gtbl := gm 1081 (by decide +kernel)
theorem ln_law_law_158 : VL Mlaw_law Mm_copy 158 5 9 := ⟨k1081, k1082, k1083, ⟨_, _, rfl⟩, ⟨ck_m_copy.1, ck_m_copy.2.1, ck_m_copy.2.2, by decide, by decide⟩⟩
theorem k886 : Cond.methodLink RL 159 yX8_write ∈ gtbl := gm 886 (by decide +kernel)
theorem ln_law_law_159 : VL Mlaw_law Mx_write 159 3 8 := ⟨k886, k887, k888, ⟨_, _, rfl⟩, ⟨ck_x_write.1, ck_x_write.2.1, ck_x_write.2.2, by decide, by decide⟩⟩
theorem k1395 : Cond.methodLink RL 162 yX9_write ∈ gtbl := gm 1395 (by decide +kernel)
theorem ln_law_law_162 : VL Mlaw_law Mm_write 162 3 9 := ⟨k1395, k1396, k1397, ⟨_, _, rfl⟩, ⟨ck_m_write.1, ck_m_write.2.1, ck_m_write.2.2, by decide, by decide⟩⟩
theorem k891 : Cond.methodLink RL 163 yX8_count ∈ gtbl := gm 891 (by decide +kernel)
theorem ln_law_law_163 : VL Mlaw_law Mx_count 163 1 8 := ⟨k891, k892, k893, ⟨_, _, rfl⟩, ⟨ck_x_count.1, ck_x_count.2.1, ck_x_count.2.2, by decide, by decide⟩⟩
theorem k1399 : Cond.methodLink RL 166 yX9_count ∈ gtbl := gm 1399 (by decide +kernel)
theorem ln_law_law_166 : VL Mlaw_law Mm_count 166 1 9 := ⟨k1399, k1400, k1401, ⟨_, _, rfl⟩, ⟨ck_m_count.1, ck_m_count.2.1, ck_m_count.2.2, by decide, by decide⟩⟩
theorem k909 : Cond.methodLink RL 167 yX8_digest ∈ gtbl := gm 909 (by decide +kernel)
theorem ln_law_law_167 : VL Mlaw_law Mx_digest 167 0 8 := ⟨k909, k910, k911, ⟨_, _, rfl⟩, ⟨ck_x_digest.1, ck_x_digest.2.1, ck_x_digest.2.2, by decide, by decide⟩⟩
theorem k1406 : Cond.methodLink RL 171 yX9_digest ∈ gtbl := gm 1406 (by decide +kernel)
theorem ln_law_law_171 : VL Mlaw_law Mm_digest 171 0 9 := ⟨k1406, k1407, k1408, ⟨_, _, rfl⟩, ⟨ck_m_digest.1, ck_m_digest.2.1, ck_m_digest.2.2, by decide, by decide⟩⟩
