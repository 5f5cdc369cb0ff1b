/-! the rows are the bytecode's -/
set_option maxRecDepth 100000 in
theorem ok_X0_init : am_ok am_tab mi_X0_init := am_chk_ok (own := 0) (init := true) (n := 177) rfl (fun _ => rfl) (by decide +kernel) (by decide +kernel)
set_option maxRecDepth 100000 in
theorem ok_X0_become : am_ok am_tab mi_X0_become := am_chk_ok (own := 0) (init := false) (n := 319) rfl (fun h => by cases h) (by decide +kernel) (by decide +kernel)
set_option maxRecDepth 100000 in
theorem ok_X0_has : am_ok am_tab mi_X0_has := am_chk_ok (own := 0) (init := false) (n := 20) rfl (fun h => by cases h) (by decide +kernel) (by decide +kernel)
set_option maxRecDepth 100000 in
theorem ok_X0_hasStep : am_ok am_tab mi_X0_hasStep := am_chk_ok (own := 0) (init := false) (n := 29) rfl (fun h => by cases h) (by decide +kernel) (by decide +kernel)
set_option maxRecDepth 100000 in
theorem ok_X0_isTrue : am_ok am_tab mi_X0_isTrue := am_chk_ok (own := 0) (init := false) (n := 26) rfl (fun h => by cases h) (by decide +kernel) (by decide +kernel)
set_option maxRecDepth 100000 in
theorem ok_X0_changeOn : am_ok am_tab mi_X0_changeOn := am_chk_ok (own := 0) (init := false) (n := 81) rfl (fun h => by cases h) (by decide +kernel) (by decide +kernel)
set_option maxRecDepth 100000 in
theorem ok_X0_textOn : am_ok am_tab mi_X0_textOn := am_chk_ok (own := 0) (init := false) (n := 30) rfl (fun h => by cases h) (by decide +kernel) (by decide +kernel)
set_option maxRecDepth 100000 in
theorem ok_X0_rowOf : am_ok am_tab mi_X0_rowOf := am_chk_ok (own := 0) (init := false) (n := 10) rfl (fun h => by cases h) (by decide +kernel) (by decide +kernel)
set_option maxRecDepth 100000 in
theorem ok_X0_takesHoles : am_ok am_tab mi_X0_takesHoles := am_chk_ok (own := 0) (init := false) (n := 26) rfl (fun h => by cases h) (by decide +kernel) (by decide +kernel)
set_option maxRecDepth 100000 in
theorem ok_X0_takesEnds : am_ok am_tab mi_X0_takesEnds := am_chk_ok (own := 0) (init := false) (n := 26) rfl (fun h => by cases h) (by decide +kernel) (by decide +kernel)
set_option maxRecDepth 100000 in
theorem ok_X0_endIn : am_ok am_tab mi_X0_endIn := am_chk_ok (own := 0) (init := false) (n := 44) rfl (fun h => by cases h) (by decide +kernel) (by decide +kernel)
set_option maxRecDepth 100000 in
theorem ok_X0_isTitled : am_ok am_tab mi_X0_isTitled := am_chk_ok (own := 0) (init := false) (n := 32) rfl (fun h => by cases h) (by decide +kernel) (by decide +kernel)
set_option maxRecDepth 100000 in
theorem ok_X0_isTitleOf : am_ok am_tab mi_X0_isTitleOf := am_chk_ok (own := 0) (init := false) (n := 32) rfl (fun h => by cases h) (by decide +kernel) (by decide +kernel)
set_option maxRecDepth 100000 in
theorem ok_X0_isUsed : am_ok am_tab mi_X0_isUsed := am_chk_ok (own := 0) (init := false) (n := 45) rfl (fun h => by cases h) (by decide +kernel) (by decide +kernel)
set_option maxRecDepth 100000 in
theorem ok_X0_holesOf : am_ok am_tab mi_X0_holesOf := am_chk_ok (own := 0) (init := false) (n := 21) rfl (fun h => by cases h) (by decide +kernel) (by decide +kernel)
set_option maxRecDepth 100000 in
theorem ok_X0_countSources : am_ok am_tab mi_X0_countSources := am_chk_ok (own := 0) (init := false) (n := 80) rfl (fun h => by cases h) (by decide +kernel) (by decide +kernel)
set_option maxRecDepth 100000 in
theorem ok_X0_placeOfHole : am_ok am_tab mi_X0_placeOfHole := am_chk_ok (own := 0) (init := false) (n := 122) rfl (fun h => by cases h) (by decide +kernel) (by decide +kernel)
set_option maxRecDepth 100000 in
theorem ok_X1_init : am_ok am_tab mi_X1_init := am_chk_ok (own := 1) (init := true) (n := 5) rfl (fun _ => rfl) (by decide +kernel) (by decide +kernel)
set_option maxRecDepth 100000 in
theorem ok_X1_actEnds : am_ok am_tab mi_X1_actEnds := am_chk_ok (own := 1) (init := false) (n := 9) rfl (fun h => by cases h) (by decide +kernel) (by decide +kernel)
set_option maxRecDepth 100000 in
theorem ok_X2_init : am_ok am_tab mi_X2_init := am_chk_ok (own := 2) (init := true) (n := 56) rfl (fun _ => rfl) (by decide +kernel) (by decide +kernel)
set_option maxRecDepth 100000 in
theorem ok_X2_weigh : am_ok am_tab mi_X2_weigh := am_chk_ok (own := 2) (init := false) (n := 168) rfl (fun h => by cases h) (by decide +kernel) (by decide +kernel)
set_option maxRecDepth 100000 in
theorem ok_X2_lackOf : am_ok am_tab mi_X2_lackOf := am_chk_ok (own := 2) (init := false) (n := 155) rfl (fun h => by cases h) (by decide +kernel) (by decide +kernel)
set_option maxRecDepth 100000 in
theorem ok_X2_gives : am_ok am_tab mi_X2_gives := am_chk_ok (own := 2) (init := false) (n := 180) rfl (fun h => by cases h) (by decide +kernel) (by decide +kernel)
set_option maxRecDepth 100000 in
theorem ok_X2_factOfStep : am_ok am_tab mi_X2_factOfStep := am_chk_ok (own := 2) (init := false) (n := 59) rfl (fun h => by cases h) (by decide +kernel) (by decide +kernel)
set_option maxRecDepth 100000 in
theorem ok_X2_factOfTerm : am_ok am_tab mi_X2_factOfTerm := am_chk_ok (own := 2) (init := false) (n := 86) rfl (fun h => by cases h) (by decide +kernel) (by decide +kernel)
set_option maxRecDepth 100000 in
theorem ok_X2_saidBy : am_ok am_tab mi_X2_saidBy := am_chk_ok (own := 2) (init := false) (n := 56) rfl (fun h => by cases h) (by decide +kernel) (by decide +kernel)
set_option maxRecDepth 100000 in
theorem ok_X2_papersUnder : am_ok am_tab mi_X2_papersUnder := am_chk_ok (own := 2) (init := false) (n := 71) rfl (fun h => by cases h) (by decide +kernel) (by decide +kernel)
set_option maxRecDepth 100000 in
theorem ok_X2_papersUnderStep : am_ok am_tab mi_X2_papersUnderStep := am_chk_ok (own := 2) (init := false) (n := 95) rfl (fun h => by cases h) (by decide +kernel) (by decide +kernel)
set_option maxRecDepth 100000 in
theorem ok_X3_init : am_ok am_tab mi_X3_init := am_chk_ok (own := 3) (init := true) (n := 5) rfl (fun _ => rfl) (by decide +kernel) (by decide +kernel)
set_option maxRecDepth 100000 in
theorem ok_X3_actLeans : am_ok am_tab mi_X3_actLeans := am_chk_ok (own := 3) (init := false) (n := 4) rfl (fun h => by cases h) (by decide +kernel) (by decide +kernel)
set_option maxRecDepth 100000 in
theorem ok_X3_actShows : am_ok am_tab mi_X3_actShows := am_chk_ok (own := 3) (init := false) (n := 10) rfl (fun h => by cases h) (by decide +kernel) (by decide +kernel)
set_option maxRecDepth 100000 in
theorem ok_X3_actEnds : am_ok am_tab mi_X3_actEnds := am_chk_ok (own := 3) (init := false) (n := 10) rfl (fun h => by cases h) (by decide +kernel) (by decide +kernel)
set_option maxRecDepth 100000 in
theorem ok_X4_init : am_ok am_tab mi_X4_init := am_chk_ok (own := 4) (init := true) (n := 5) rfl (fun _ => rfl) (by decide +kernel) (by decide +kernel)
set_option maxRecDepth 100000 in
theorem ok_X4_actShows : am_ok am_tab mi_X4_actShows := am_chk_ok (own := 4) (init := false) (n := 10) rfl (fun h => by cases h) (by decide +kernel) (by decide +kernel)
set_option maxRecDepth 100000 in
theorem ok_X4_actEnds : am_ok am_tab mi_X4_actEnds := am_chk_ok (own := 4) (init := false) (n := 16) rfl (fun h => by cases h) (by decide +kernel) (by decide +kernel)
set_option maxRecDepth 100000 in
theorem ok_X5_init : am_ok am_tab mi_X5_init := am_chk_ok (own := 5) (init := true) (n := 5) rfl (fun _ => rfl) (by decide +kernel) (by decide +kernel)
set_option maxRecDepth 100000 in
theorem ok_X5_actLeans : am_ok am_tab mi_X5_actLeans := am_chk_ok (own := 5) (init := false) (n := 10) rfl (fun h => by cases h) (by decide +kernel) (by decide +kernel)
set_option maxRecDepth 100000 in
theorem ok_X6_init : am_ok am_tab mi_X6_init := am_chk_ok (own := 6) (init := true) (n := 71) rfl (fun _ => rfl) (by decide +kernel) (by decide +kernel)
set_option maxRecDepth 100000 in
theorem ok_X6_has : am_ok am_tab mi_X6_has := am_chk_ok (own := 6) (init := false) (n := 15) rfl (fun h => by cases h) (by decide +kernel) (by decide +kernel)
set_option maxRecDepth 100000 in
theorem ok_X6_begin : am_ok am_tab mi_X6_begin := am_chk_ok (own := 6) (init := false) (n := 102) rfl (fun h => by cases h) (by decide +kernel) (by decide +kernel)
set_option maxRecDepth 100000 in
theorem ok_X6_spread : am_ok am_tab mi_X6_spread := am_chk_ok (own := 6) (init := false) (n := 137) rfl (fun h => by cases h) (by decide +kernel) (by decide +kernel)
set_option maxRecDepth 100000 in
theorem ok_X6_bringLeast : am_ok am_tab mi_X6_bringLeast := am_chk_ok (own := 6) (init := false) (n := 74) rfl (fun h => by cases h) (by decide +kernel) (by decide +kernel)
set_option maxRecDepth 100000 in
theorem ok_X6_useIn : am_ok am_tab mi_X6_useIn := am_chk_ok (own := 6) (init := false) (n := 33) rfl (fun h => by cases h) (by decide +kernel) (by decide +kernel)
set_option maxRecDepth 100000 in
theorem ok_X6_useOnce : am_ok am_tab mi_X6_useOnce := am_chk_ok (own := 6) (init := false) (n := 45) rfl (fun h => by cases h) (by decide +kernel) (by decide +kernel)
set_option maxRecDepth 100000 in
theorem ok_X6_settleFrom : am_ok am_tab mi_X6_settleFrom := am_chk_ok (own := 6) (init := false) (n := 29) rfl (fun h => by cases h) (by decide +kernel) (by decide +kernel)
set_option maxRecDepth 100000 in
theorem ok_X6_bind : am_ok am_tab mi_X6_bind := am_chk_ok (own := 6) (init := false) (n := 112) rfl (fun h => by cases h) (by decide +kernel) (by decide +kernel)
set_option maxRecDepth 100000 in
theorem ok_X6_bindArg : am_ok am_tab mi_X6_bindArg := am_chk_ok (own := 6) (init := false) (n := 33) rfl (fun h => by cases h) (by decide +kernel) (by decide +kernel)
set_option maxRecDepth 100000 in
theorem ok_X6_complete : am_ok am_tab mi_X6_complete := am_chk_ok (own := 6) (init := false) (n := 83) rfl (fun h => by cases h) (by decide +kernel) (by decide +kernel)
set_option maxRecDepth 100000 in
theorem ok_X6_conclude : am_ok am_tab mi_X6_conclude := am_chk_ok (own := 6) (init := false) (n := 114) rfl (fun h => by cases h) (by decide +kernel) (by decide +kernel)
set_option maxRecDepth 100000 in
theorem ok_X6_arrive : am_ok am_tab mi_X6_arrive := am_chk_ok (own := 6) (init := false) (n := 67) rfl (fun h => by cases h) (by decide +kernel) (by decide +kernel)
set_option maxRecDepth 100000 in
theorem ok_X7_init : am_ok am_tab mi_X7_init := am_chk_ok (own := 7) (init := true) (n := 36) rfl (fun _ => rfl) (by decide +kernel) (by decide +kernel)
set_option maxRecDepth 100000 in
theorem ok_X7_read : am_ok am_tab mi_X7_read := am_chk_ok (own := 7) (init := false) (n := 119) rfl (fun h => by cases h) (by decide +kernel) (by decide +kernel)
set_option maxRecDepth 100000 in
theorem ok_X7_readParts : am_ok am_tab mi_X7_readParts := am_chk_ok (own := 7) (init := false) (n := 89) rfl (fun h => by cases h) (by decide +kernel) (by decide +kernel)
set_option maxRecDepth 100000 in
theorem ok_X7_readPart : am_ok am_tab mi_X7_readPart := am_chk_ok (own := 7) (init := false) (n := 97) rfl (fun h => by cases h) (by decide +kernel) (by decide +kernel)
set_option maxRecDepth 100000 in
theorem ok_X7_readTerm : am_ok am_tab mi_X7_readTerm := am_chk_ok (own := 7) (init := false) (n := 114) rfl (fun h => by cases h) (by decide +kernel) (by decide +kernel)
set_option maxRecDepth 100000 in
theorem ok_X7_readTest : am_ok am_tab mi_X7_readTest := am_chk_ok (own := 7) (init := false) (n := 90) rfl (fun h => by cases h) (by decide +kernel) (by decide +kernel)
set_option maxRecDepth 100000 in
theorem ok_X7_readArg : am_ok am_tab mi_X7_readArg := am_chk_ok (own := 7) (init := false) (n := 69) rfl (fun h => by cases h) (by decide +kernel) (by decide +kernel)
set_option maxRecDepth 100000 in
theorem ok_X7_placeIn : am_ok am_tab mi_X7_placeIn := am_chk_ok (own := 7) (init := false) (n := 53) rfl (fun h => by cases h) (by decide +kernel) (by decide +kernel)
set_option maxRecDepth 100000 in
theorem ok_X7_skip : am_ok am_tab mi_X7_skip := am_chk_ok (own := 7) (init := false) (n := 41) rfl (fun h => by cases h) (by decide +kernel) (by decide +kernel)
set_option maxRecDepth 100000 in
theorem ok_X8_init : am_ok am_tab mi_X8_init := am_chk_ok (own := 8) (init := true) (n := 5) rfl (fun _ => rfl) (by decide +kernel) (by decide +kernel)
set_option maxRecDepth 100000 in
theorem ok_X8_actShows : am_ok am_tab mi_X8_actShows := am_chk_ok (own := 8) (init := false) (n := 10) rfl (fun h => by cases h) (by decide +kernel) (by decide +kernel)
set_option maxRecDepth 100000 in
theorem ok_X9_init : am_ok am_tab mi_X9_init := am_chk_ok (own := 9) (init := true) (n := 35) rfl (fun _ => rfl) (by decide +kernel) (by decide +kernel)
set_option maxRecDepth 100000 in
theorem ok_X9_faultOf : am_ok am_tab mi_X9_faultOf := am_chk_ok (own := 9) (init := false) (n := 170) rfl (fun h => by cases h) (by decide +kernel) (by decide +kernel)
set_option maxRecDepth 100000 in
theorem ok_X9_play : am_ok am_tab mi_X9_play := am_chk_ok (own := 9) (init := false) (n := 61) rfl (fun h => by cases h) (by decide +kernel) (by decide +kernel)
set_option maxRecDepth 100000 in
theorem ok_X9_signAt : am_ok am_tab mi_X9_signAt := am_chk_ok (own := 9) (init := false) (n := 31) rfl (fun h => by cases h) (by decide +kernel) (by decide +kernel)
set_option maxRecDepth 100000 in
theorem ok_X9_playPieces : am_ok am_tab mi_X9_playPieces := am_chk_ok (own := 9) (init := false) (n := 86) rfl (fun h => by cases h) (by decide +kernel) (by decide +kernel)
set_option maxRecDepth 100000 in
theorem ok_X9_playTry : am_ok am_tab mi_X9_playTry := am_chk_ok (own := 9) (init := false) (n := 190) rfl (fun h => by cases h) (by decide +kernel) (by decide +kernel)
set_option maxRecDepth 100000 in
theorem ok_X9_endOfTry : am_ok am_tab mi_X9_endOfTry := am_chk_ok (own := 9) (init := false) (n := 72) rfl (fun h => by cases h) (by decide +kernel) (by decide +kernel)
set_option maxRecDepth 100000 in
theorem ok_X10_init : am_ok am_tab mi_X10_init := am_chk_ok (own := 10) (init := true) (n := 36) rfl (fun _ => rfl) (by decide +kernel) (by decide +kernel)
set_option maxRecDepth 100000 in
theorem ok_X10_newValues : am_ok am_tab mi_X10_newValues := am_chk_ok (own := 10) (init := false) (n := 24) rfl (fun h => by cases h) (by decide +kernel) (by decide +kernel)
set_option maxRecDepth 100000 in
theorem ok_X10_putLetters : am_ok am_tab mi_X10_putLetters := am_chk_ok (own := 10) (init := false) (n := 36) rfl (fun h => by cases h) (by decide +kernel) (by decide +kernel)
