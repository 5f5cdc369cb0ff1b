/-! the rows are the bytecode's -/
set_option maxRecDepth 100000 in
theorem ok_X12_rule : am_ok am_tab mi_X12_rule := am_chk_ok (own := 12) (init := false) (n := 88) rfl (fun h => by cases h) (by decide +kernel) (by decide +kernel)
set_option maxRecDepth 100000 in
theorem ok_X12_isRule : am_ok am_tab mi_X12_isRule := am_chk_ok (own := 12) (init := false) (n := 14) rfl (fun h => by cases h) (by decide +kernel) (by decide +kernel)
set_option maxRecDepth 100000 in
theorem ok_X12_change : am_ok am_tab mi_X12_change := am_chk_ok (own := 12) (init := false) (n := 145) rfl (fun h => by cases h) (by decide +kernel) (by decide +kernel)
set_option maxRecDepth 100000 in
theorem ok_X12_changeOn : am_ok am_tab mi_X12_changeOn := am_chk_ok (own := 12) (init := false) (n := 98) rfl (fun h => by cases h) (by decide +kernel) (by decide +kernel)
set_option maxRecDepth 100000 in
theorem ok_X12_textOn : am_ok am_tab mi_X12_textOn := am_chk_ok (own := 12) (init := false) (n := 40) rfl (fun h => by cases h) (by decide +kernel) (by decide +kernel)
set_option maxRecDepth 100000 in
theorem ok_X12_told : am_ok am_tab mi_X12_told := am_chk_ok (own := 12) (init := false) (n := 57) rfl (fun h => by cases h) (by decide +kernel) (by decide +kernel)
set_option maxRecDepth 100000 in
theorem ok_X12_paper : am_ok am_tab mi_X12_paper := am_chk_ok (own := 12) (init := false) (n := 99) rfl (fun h => by cases h) (by decide +kernel) (by decide +kernel)
set_option maxRecDepth 100000 in
theorem ok_X12_isPaper : am_ok am_tab mi_X12_isPaper := am_chk_ok (own := 12) (init := false) (n := 14) rfl (fun h => by cases h) (by decide +kernel) (by decide +kernel)
set_option maxRecDepth 100000 in
theorem ok_X12_shown : am_ok am_tab mi_X12_shown := am_chk_ok (own := 12) (init := false) (n := 40) rfl (fun h => by cases h) (by decide +kernel) (by decide +kernel)
set_option maxRecDepth 100000 in
theorem ok_X12_of : am_ok am_tab mi_X12_of := am_chk_ok (own := 12) (init := false) (n := 36) rfl (fun h => by cases h) (by decide +kernel) (by decide +kernel)
set_option maxRecDepth 100000 in
theorem ok_X12_sets : am_ok am_tab mi_X12_sets := am_chk_ok (own := 12) (init := false) (n := 43) rfl (fun h => by cases h) (by decide +kernel) (by decide +kernel)
set_option maxRecDepth 100000 in
theorem ok_X12_value : am_ok am_tab mi_X12_value := am_chk_ok (own := 12) (init := false) (n := 20) rfl (fun h => by cases h) (by decide +kernel) (by decide +kernel)
set_option maxRecDepth 100000 in
theorem ok_X12_factAt : am_ok am_tab mi_X12_factAt := am_chk_ok (own := 12) (init := false) (n := 54) rfl (fun h => by cases h) (by decide +kernel) (by decide +kernel)
set_option maxRecDepth 100000 in
theorem ok_X12_testsHold : am_ok am_tab mi_X12_testsHold := am_chk_ok (own := 12) (init := false) (n := 114) rfl (fun h => by cases h) (by decide +kernel) (by decide +kernel)
set_option maxRecDepth 100000 in
theorem ok_X12_isPlain : am_ok am_tab mi_X12_isPlain := am_chk_ok (own := 12) (init := false) (n := 34) rfl (fun h => by cases h) (by decide +kernel) (by decide +kernel)
set_option maxRecDepth 100000 in
theorem ok_X12_areBelow : am_ok am_tab mi_X12_areBelow := am_chk_ok (own := 12) (init := false) (n := 51) rfl (fun h => by cases h) (by decide +kernel) (by decide +kernel)
set_option maxRecDepth 100000 in
theorem ok_X12_begins : am_ok am_tab mi_X12_begins := am_chk_ok (own := 12) (init := false) (n := 91) rfl (fun h => by cases h) (by decide +kernel) (by decide +kernel)
set_option maxRecDepth 100000 in
theorem ok_X12_works : am_ok am_tab mi_X12_works := am_chk_ok (own := 12) (init := false) (n := 143) rfl (fun h => by cases h) (by decide +kernel) (by decide +kernel)
set_option maxRecDepth 100000 in
theorem ok_X12_sizes : am_ok am_tab mi_X12_sizes := am_chk_ok (own := 12) (init := false) (n := 179) rfl (fun h => by cases h) (by decide +kernel) (by decide +kernel)
set_option maxRecDepth 100000 in
theorem ok_X12_followsOn : am_ok am_tab mi_X12_followsOn := am_chk_ok (own := 12) (init := false) (n := 20) rfl (fun h => by cases h) (by decide +kernel) (by decide +kernel)
set_option maxRecDepth 100000 in
theorem ok_X12_follows : am_ok am_tab mi_X12_follows := am_chk_ok (own := 12) (init := false) (n := 94) rfl (fun h => by cases h) (by decide +kernel) (by decide +kernel)
set_option maxRecDepth 100000 in
theorem ok_X12_many : am_ok am_tab mi_X12_many := am_chk_ok (own := 12) (init := false) (n := 51) rfl (fun h => by cases h) (by decide +kernel) (by decide +kernel)
set_option maxRecDepth 100000 in
theorem ok_X12_isProof : am_ok am_tab mi_X12_isProof := am_chk_ok (own := 12) (init := false) (n := 14) rfl (fun h => by cases h) (by decide +kernel) (by decide +kernel)
set_option maxRecDepth 100000 in
theorem ok_X12_stepAt : am_ok am_tab mi_X12_stepAt := am_chk_ok (own := 12) (init := false) (n := 14) rfl (fun h => by cases h) (by decide +kernel) (by decide +kernel)
set_option maxRecDepth 100000 in
theorem ok_X12_proof : am_ok am_tab mi_X12_proof := am_chk_ok (own := 12) (init := false) (n := 74) rfl (fun h => by cases h) (by decide +kernel) (by decide +kernel)
set_option maxRecDepth 100000 in
theorem ok_X12_isUsed : am_ok am_tab mi_X12_isUsed := am_chk_ok (own := 12) (init := false) (n := 136) rfl (fun h => by cases h) (by decide +kernel) (by decide +kernel)
set_option maxRecDepth 100000 in
theorem ok_X12_step : am_ok am_tab mi_X12_step := am_chk_ok (own := 12) (init := false) (n := 172) rfl (fun h => by cases h) (by decide +kernel) (by decide +kernel)
set_option maxRecDepth 100000 in
theorem ok_X12_saysOn : am_ok am_tab mi_X12_saysOn := am_chk_ok (own := 12) (init := false) (n := 40) rfl (fun h => by cases h) (by decide +kernel) (by decide +kernel)
set_option maxRecDepth 100000 in
theorem ok_X12_termOn : am_ok am_tab mi_X12_termOn := am_chk_ok (own := 12) (init := false) (n := 44) rfl (fun h => by cases h) (by decide +kernel) (by decide +kernel)
set_option maxRecDepth 100000 in
theorem ok_X12_isFrom : am_ok am_tab mi_X12_isFrom := am_chk_ok (own := 12) (init := false) (n := 250) rfl (fun h => by cases h) (by decide +kernel) (by decide +kernel)
set_option maxRecDepth 100000 in
theorem ok_X12_lacksOn : am_ok am_tab mi_X12_lacksOn := am_chk_ok (own := 12) (init := false) (n := 109) rfl (fun h => by cases h) (by decide +kernel) (by decide +kernel)
set_option maxRecDepth 100000 in
theorem ok_X12_holesOf : am_ok am_tab mi_X12_holesOf := am_chk_ok (own := 12) (init := false) (n := 141) rfl (fun h => by cases h) (by decide +kernel) (by decide +kernel)
set_option maxRecDepth 100000 in
theorem ok_X12_isTaken : am_ok am_tab mi_X12_isTaken := am_chk_ok (own := 12) (init := false) (n := 71) rfl (fun h => by cases h) (by decide +kernel) (by decide +kernel)
set_option maxRecDepth 100000 in
theorem ok_X12_isStep : am_ok am_tab mi_X12_isStep := am_chk_ok (own := 12) (init := false) (n := 33) rfl (fun h => by cases h) (by decide +kernel) (by decide +kernel)
set_option maxRecDepth 100000 in
theorem ok_X12_lacks : am_ok am_tab mi_X12_lacks := am_chk_ok (own := 12) (init := false) (n := 33) rfl (fun h => by cases h) (by decide +kernel) (by decide +kernel)
set_option maxRecDepth 100000 in
theorem ok_X12_says : am_ok am_tab mi_X12_says := am_chk_ok (own := 12) (init := false) (n := 75) rfl (fun h => by cases h) (by decide +kernel) (by decide +kernel)
set_option maxRecDepth 100000 in
theorem ok_X12_check : am_ok am_tab mi_X12_check := am_chk_ok (own := 12) (init := false) (n := 39) rfl (fun h => by cases h) (by decide +kernel) (by decide +kernel)
set_option maxRecDepth 100000 in
theorem ok_X12_usesEnds : am_ok am_tab mi_X12_usesEnds := am_chk_ok (own := 12) (init := false) (n := 32) rfl (fun h => by cases h) (by decide +kernel) (by decide +kernel)
set_option maxRecDepth 100000 in
theorem ok_X12_leansOf : am_ok am_tab mi_X12_leansOf := am_chk_ok (own := 12) (init := false) (n := 127) rfl (fun h => by cases h) (by decide +kernel) (by decide +kernel)
set_option maxRecDepth 100000 in
theorem ok_X12_leans : am_ok am_tab mi_X12_leans := am_chk_ok (own := 12) (init := false) (n := 18) rfl (fun h => by cases h) (by decide +kernel) (by decide +kernel)
set_option maxRecDepth 100000 in
theorem ok_X12_hole : am_ok am_tab mi_X12_hole := am_chk_ok (own := 12) (init := false) (n := 19) rfl (fun h => by cases h) (by decide +kernel) (by decide +kernel)
set_option maxRecDepth 100000 in
theorem ok_X12_fill : am_ok am_tab mi_X12_fill := am_chk_ok (own := 12) (init := false) (n := 253) rfl (fun h => by cases h) (by decide +kernel) (by decide +kernel)
set_option maxRecDepth 100000 in
theorem ok_X12_aboveOf : am_ok am_tab mi_X12_aboveOf := am_chk_ok (own := 12) (init := false) (n := 11) rfl (fun h => by cases h) (by decide +kernel) (by decide +kernel)
set_option maxRecDepth 100000 in
theorem ok_X12_leansFrom : am_ok am_tab mi_X12_leansFrom := am_chk_ok (own := 12) (init := false) (n := 61) rfl (fun h => by cases h) (by decide +kernel) (by decide +kernel)
set_option maxRecDepth 100000 in
theorem ok_X12_showsFrom : am_ok am_tab mi_X12_showsFrom := am_chk_ok (own := 12) (init := false) (n := 85) rfl (fun h => by cases h) (by decide +kernel) (by decide +kernel)
set_option maxRecDepth 100000 in
theorem ok_X12_endsFrom : am_ok am_tab mi_X12_endsFrom := am_chk_ok (own := 12) (init := false) (n := 98) rfl (fun h => by cases h) (by decide +kernel) (by decide +kernel)
set_option maxRecDepth 100000 in
theorem ok_X12_act : am_ok am_tab mi_X12_act := am_chk_ok (own := 12) (init := false) (n := 70) rfl (fun h => by cases h) (by decide +kernel) (by decide +kernel)
set_option maxRecDepth 100000 in
theorem ok_X12_as : am_ok am_tab mi_X12_as := am_chk_ok (own := 12) (init := false) (n := 63) rfl (fun h => by cases h) (by decide +kernel) (by decide +kernel)
set_option maxRecDepth 100000 in
theorem ok_X12_isTitle : am_ok am_tab mi_X12_isTitle := am_chk_ok (own := 12) (init := false) (n := 14) rfl (fun h => by cases h) (by decide +kernel) (by decide +kernel)
set_option maxRecDepth 100000 in
theorem ok_X12_title : am_ok am_tab mi_X12_title := am_chk_ok (own := 12) (init := false) (n := 171) rfl (fun h => by cases h) (by decide +kernel) (by decide +kernel)
set_option maxRecDepth 100000 in
theorem ok_X12_standsOn : am_ok am_tab mi_X12_standsOn := am_chk_ok (own := 12) (init := false) (n := 53) rfl (fun h => by cases h) (by decide +kernel) (by decide +kernel)
set_option maxRecDepth 100000 in
theorem ok_X12_stand : am_ok am_tab mi_X12_stand := am_chk_ok (own := 12) (init := false) (n := 56) rfl (fun h => by cases h) (by decide +kernel) (by decide +kernel)
set_option maxRecDepth 100000 in
theorem ok_X12_fall : am_ok am_tab mi_X12_fall := am_chk_ok (own := 12) (init := false) (n := 110) rfl (fun h => by cases h) (by decide +kernel) (by decide +kernel)
set_option maxRecDepth 100000 in
theorem ok_X12_carry : am_ok am_tab mi_X12_carry := am_chk_ok (own := 12) (init := false) (n := 71) rfl (fun h => by cases h) (by decide +kernel) (by decide +kernel)
set_option maxRecDepth 100000 in
theorem ok_X12_clash : am_ok am_tab mi_X12_clash := am_chk_ok (own := 12) (init := false) (n := 135) rfl (fun h => by cases h) (by decide +kernel) (by decide +kernel)
set_option maxRecDepth 100000 in
theorem ok_X12_every : am_ok am_tab mi_X12_every := am_chk_ok (own := 12) (init := false) (n := 105) rfl (fun h => by cases h) (by decide +kernel) (by decide +kernel)
set_option maxRecDepth 100000 in
theorem ok_X12_many0 : am_ok am_tab mi_X12_many0 := am_chk_ok (own := 12) (init := false) (n := 26) rfl (fun h => by cases h) (by decide +kernel) (by decide +kernel)
set_option maxRecDepth 100000 in
theorem ok_X12_fewest : am_ok am_tab mi_X12_fewest := am_chk_ok (own := 12) (init := false) (n := 228) rfl (fun h => by cases h) (by decide +kernel) (by decide +kernel)
