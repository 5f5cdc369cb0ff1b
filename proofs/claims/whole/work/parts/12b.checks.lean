/-! the rows are the bytecode's -/
set_option maxRecDepth 100000 in
theorem ok_X10_hasInTerms : am_ok am_tab mi_X10_hasInTerms := am_chk_ok (own := 10) (init := false) (n := 17) rfl (fun h => by cases h) (by decide +kernel) (by decide +kernel)
set_option maxRecDepth 100000 in
theorem ok_X10_factOf : am_ok am_tab mi_X10_factOf := am_chk_ok (own := 10) (init := false) (n := 52) rfl (fun h => by cases h) (by decide +kernel) (by decide +kernel)
set_option maxRecDepth 100000 in
theorem ok_X10_testsHold : am_ok am_tab mi_X10_testsHold := am_chk_ok (own := 10) (init := false) (n := 113) rfl (fun h => by cases h) (by decide +kernel) (by decide +kernel)
set_option maxRecDepth 100000 in
theorem ok_X10_become : am_ok am_tab mi_X10_become := am_chk_ok (own := 10) (init := false) (n := 61) rfl (fun h => by cases h) (by decide +kernel) (by decide +kernel)
set_option maxRecDepth 100000 in
theorem ok_X11_init : am_ok am_tab mi_X11_init := am_chk_ok (own := 11) (init := true) (n := 143) rfl (fun _ => rfl) (by decide +kernel) (by decide +kernel)
set_option maxRecDepth 100000 in
theorem ok_X11_day : am_ok am_tab mi_X11_day := am_chk_ok (own := 11) (init := false) (n := 49) rfl (fun h => by cases h) (by decide +kernel) (by decide +kernel)
set_option maxRecDepth 100000 in
theorem ok_X11_feed : am_ok am_tab mi_X11_feed := am_chk_ok (own := 11) (init := false) (n := 98) rfl (fun h => by cases h) (by decide +kernel) (by decide +kernel)
set_option maxRecDepth 100000 in
theorem ok_X11_rule : am_ok am_tab mi_X11_rule := am_chk_ok (own := 11) (init := false) (n := 59) rfl (fun h => by cases h) (by decide +kernel) (by decide +kernel)
set_option maxRecDepth 100000 in
theorem ok_X11_change : am_ok am_tab mi_X11_change := am_chk_ok (own := 11) (init := false) (n := 124) rfl (fun h => by cases h) (by decide +kernel) (by decide +kernel)
set_option maxRecDepth 100000 in
theorem ok_X11_told : am_ok am_tab mi_X11_told := am_chk_ok (own := 11) (init := false) (n := 91) rfl (fun h => by cases h) (by decide +kernel) (by decide +kernel)
set_option maxRecDepth 100000 in
theorem ok_X11_paper : am_ok am_tab mi_X11_paper := am_chk_ok (own := 11) (init := false) (n := 87) rfl (fun h => by cases h) (by decide +kernel) (by decide +kernel)
set_option maxRecDepth 100000 in
theorem ok_X11_shown : am_ok am_tab mi_X11_shown := am_chk_ok (own := 11) (init := false) (n := 74) rfl (fun h => by cases h) (by decide +kernel) (by decide +kernel)
set_option maxRecDepth 100000 in
theorem ok_X11_of : am_ok am_tab mi_X11_of := am_chk_ok (own := 11) (init := false) (n := 69) rfl (fun h => by cases h) (by decide +kernel) (by decide +kernel)
set_option maxRecDepth 100000 in
theorem ok_X11_follows : am_ok am_tab mi_X11_follows := am_chk_ok (own := 11) (init := false) (n := 100) rfl (fun h => by cases h) (by decide +kernel) (by decide +kernel)
set_option maxRecDepth 100000 in
theorem ok_X11_many : am_ok am_tab mi_X11_many := am_chk_ok (own := 11) (init := false) (n := 34) rfl (fun h => by cases h) (by decide +kernel) (by decide +kernel)
set_option maxRecDepth 100000 in
theorem ok_X11_proof : am_ok am_tab mi_X11_proof := am_chk_ok (own := 11) (init := false) (n := 62) rfl (fun h => by cases h) (by decide +kernel) (by decide +kernel)
set_option maxRecDepth 100000 in
theorem ok_X11_step : am_ok am_tab mi_X11_step := am_chk_ok (own := 11) (init := false) (n := 212) rfl (fun h => by cases h) (by decide +kernel) (by decide +kernel)
set_option maxRecDepth 100000 in
theorem ok_X11_lacks : am_ok am_tab mi_X11_lacks := am_chk_ok (own := 11) (init := false) (n := 55) rfl (fun h => by cases h) (by decide +kernel) (by decide +kernel)
set_option maxRecDepth 100000 in
theorem ok_X11_says : am_ok am_tab mi_X11_says := am_chk_ok (own := 11) (init := false) (n := 85) rfl (fun h => by cases h) (by decide +kernel) (by decide +kernel)
set_option maxRecDepth 100000 in
theorem ok_X11_check : am_ok am_tab mi_X11_check := am_chk_ok (own := 11) (init := false) (n := 58) rfl (fun h => by cases h) (by decide +kernel) (by decide +kernel)
set_option maxRecDepth 100000 in
theorem ok_X11_leans : am_ok am_tab mi_X11_leans := am_chk_ok (own := 11) (init := false) (n := 25) rfl (fun h => by cases h) (by decide +kernel) (by decide +kernel)
set_option maxRecDepth 100000 in
theorem ok_X11_hole : am_ok am_tab mi_X11_hole := am_chk_ok (own := 11) (init := false) (n := 53) rfl (fun h => by cases h) (by decide +kernel) (by decide +kernel)
set_option maxRecDepth 100000 in
theorem ok_X11_fill : am_ok am_tab mi_X11_fill := am_chk_ok (own := 11) (init := false) (n := 114) rfl (fun h => by cases h) (by decide +kernel) (by decide +kernel)
set_option maxRecDepth 100000 in
theorem ok_X11_act : am_ok am_tab mi_X11_act := am_chk_ok (own := 11) (init := false) (n := 91) rfl (fun h => by cases h) (by decide +kernel) (by decide +kernel)
set_option maxRecDepth 100000 in
theorem ok_X11_as : am_ok am_tab mi_X11_as := am_chk_ok (own := 11) (init := false) (n := 85) rfl (fun h => by cases h) (by decide +kernel) (by decide +kernel)
set_option maxRecDepth 100000 in
theorem ok_X11_title : am_ok am_tab mi_X11_title := am_chk_ok (own := 11) (init := false) (n := 160) rfl (fun h => by cases h) (by decide +kernel) (by decide +kernel)
set_option maxRecDepth 100000 in
theorem ok_X11_stand : am_ok am_tab mi_X11_stand := am_chk_ok (own := 11) (init := false) (n := 95) rfl (fun h => by cases h) (by decide +kernel) (by decide +kernel)
set_option maxRecDepth 100000 in
theorem ok_X11_fall : am_ok am_tab mi_X11_fall := am_chk_ok (own := 11) (init := false) (n := 60) rfl (fun h => by cases h) (by decide +kernel) (by decide +kernel)
set_option maxRecDepth 100000 in
theorem ok_X11_carry : am_ok am_tab mi_X11_carry := am_chk_ok (own := 11) (init := false) (n := 97) rfl (fun h => by cases h) (by decide +kernel) (by decide +kernel)
set_option maxRecDepth 100000 in
theorem ok_X11_clash : am_ok am_tab mi_X11_clash := am_chk_ok (own := 11) (init := false) (n := 143) rfl (fun h => by cases h) (by decide +kernel) (by decide +kernel)
set_option maxRecDepth 100000 in
theorem ok_X11_every : am_ok am_tab mi_X11_every := am_chk_ok (own := 11) (init := false) (n := 92) rfl (fun h => by cases h) (by decide +kernel) (by decide +kernel)
set_option maxRecDepth 100000 in
theorem ok_X11_enough : am_ok am_tab mi_X11_enough := am_chk_ok (own := 11) (init := false) (n := 41) rfl (fun h => by cases h) (by decide +kernel) (by decide +kernel)
set_option maxRecDepth 100000 in
theorem ok_X11_could : am_ok am_tab mi_X11_could := am_chk_ok (own := 11) (init := false) (n := 123) rfl (fun h => by cases h) (by decide +kernel) (by decide +kernel)
set_option maxRecDepth 100000 in
theorem ok_X11_tactic : am_ok am_tab mi_X11_tactic := am_chk_ok (own := 11) (init := false) (n := 111) rfl (fun h => by cases h) (by decide +kernel) (by decide +kernel)
set_option maxRecDepth 100000 in
theorem ok_X11_run : am_ok am_tab mi_X11_run := am_chk_ok (own := 11) (init := false) (n := 114) rfl (fun h => by cases h) (by decide +kernel) (by decide +kernel)
set_option maxRecDepth 100000 in
theorem ok_X11_found : am_ok am_tab mi_X11_found := am_chk_ok (own := 11) (init := false) (n := 41) rfl (fun h => by cases h) (by decide +kernel) (by decide +kernel)
set_option maxRecDepth 100000 in
theorem ok_X11_image : am_ok am_tab mi_X11_image := am_chk_ok (own := 11) (init := false) (n := 39) rfl (fun h => by cases h) (by decide +kernel) (by decide +kernel)
set_option maxRecDepth 100000 in
theorem ok_X11_undo : am_ok am_tab mi_X11_undo := am_chk_ok (own := 11) (init := false) (n := 31) rfl (fun h => by cases h) (by decide +kernel) (by decide +kernel)
set_option maxRecDepth 100000 in
theorem ok_X11_count : am_ok am_tab mi_X11_count := am_chk_ok (own := 11) (init := false) (n := 24) rfl (fun h => by cases h) (by decide +kernel) (by decide +kernel)
set_option maxRecDepth 100000 in
theorem ok_X11_isDay : am_ok am_tab mi_X11_isDay := am_chk_ok (own := 11) (init := false) (n := 17) rfl (fun h => by cases h) (by decide +kernel) (by decide +kernel)
set_option maxRecDepth 100000 in
theorem ok_X11_isFact : am_ok am_tab mi_X11_isFact := am_chk_ok (own := 11) (init := false) (n := 17) rfl (fun h => by cases h) (by decide +kernel) (by decide +kernel)
set_option maxRecDepth 100000 in
theorem ok_X11_isPerson : am_ok am_tab mi_X11_isPerson := am_chk_ok (own := 11) (init := false) (n := 15) rfl (fun h => by cases h) (by decide +kernel) (by decide +kernel)
set_option maxRecDepth 100000 in
theorem ok_X11_isKind : am_ok am_tab mi_X11_isKind := am_chk_ok (own := 11) (init := false) (n := 15) rfl (fun h => by cases h) (by decide +kernel) (by decide +kernel)
set_option maxRecDepth 100000 in
theorem ok_X11_followsToday : am_ok am_tab mi_X11_followsToday := am_chk_ok (own := 11) (init := false) (n := 27) rfl (fun h => by cases h) (by decide +kernel) (by decide +kernel)
set_option maxRecDepth 100000 in
theorem ok_X11_standsByProof : am_ok am_tab mi_X11_standsByProof := am_chk_ok (own := 11) (init := false) (n := 38) rfl (fun h => by cases h) (by decide +kernel) (by decide +kernel)
set_option maxRecDepth 100000 in
theorem ok_X11_standingToday : am_ok am_tab mi_X11_standingToday := am_chk_ok (own := 11) (init := false) (n := 77) rfl (fun h => by cases h) (by decide +kernel) (by decide +kernel)
set_option maxRecDepth 100000 in
theorem ok_X11_fewest : am_ok am_tab mi_X11_fewest := am_chk_ok (own := 11) (init := false) (n := 81) rfl (fun h => by cases h) (by decide +kernel) (by decide +kernel)
set_option maxRecDepth 100000 in
theorem ok_X12_init : am_ok am_tab mi_X12_init := am_chk_ok (own := 12) (init := true) (n := 73) rfl (fun _ => rfl) (by decide +kernel) (by decide +kernel)
set_option maxRecDepth 100000 in
theorem ok_X12_in : am_ok am_tab mi_X12_in := am_chk_ok (own := 12) (init := false) (n := 16) rfl (fun h => by cases h) (by decide +kernel) (by decide +kernel)
set_option maxRecDepth 100000 in
theorem ok_X12_isDay : am_ok am_tab mi_X12_isDay := am_chk_ok (own := 12) (init := false) (n := 9) rfl (fun h => by cases h) (by decide +kernel) (by decide +kernel)
set_option maxRecDepth 100000 in
theorem ok_X12_isFact : am_ok am_tab mi_X12_isFact := am_chk_ok (own := 12) (init := false) (n := 9) rfl (fun h => by cases h) (by decide +kernel) (by decide +kernel)
set_option maxRecDepth 100000 in
theorem ok_X12_day : am_ok am_tab mi_X12_day := am_chk_ok (own := 12) (init := false) (n := 44) rfl (fun h => by cases h) (by decide +kernel) (by decide +kernel)
set_option maxRecDepth 100000 in
theorem ok_X12_feed : am_ok am_tab mi_X12_feed := am_chk_ok (own := 12) (init := false) (n := 93) rfl (fun h => by cases h) (by decide +kernel) (by decide +kernel)
set_option maxRecDepth 100000 in
theorem ok_X12_here : am_ok am_tab mi_X12_here := am_chk_ok (own := 12) (init := false) (n := 32) rfl (fun h => by cases h) (by decide +kernel) (by decide +kernel)
set_option maxRecDepth 100000 in
theorem ok_X12_eats : am_ok am_tab mi_X12_eats := am_chk_ok (own := 12) (init := false) (n := 34) rfl (fun h => by cases h) (by decide +kernel) (by decide +kernel)
set_option maxRecDepth 100000 in
theorem ok_X12_shapeOf : am_ok am_tab mi_X12_shapeOf := am_chk_ok (own := 12) (init := false) (n := 62) rfl (fun h => by cases h) (by decide +kernel) (by decide +kernel)
set_option maxRecDepth 100000 in
theorem ok_X12_argument : am_ok am_tab mi_X12_argument := am_chk_ok (own := 12) (init := false) (n := 72) rfl (fun h => by cases h) (by decide +kernel) (by decide +kernel)
set_option maxRecDepth 100000 in
theorem ok_X12_term : am_ok am_tab mi_X12_term := am_chk_ok (own := 12) (init := false) (n := 103) rfl (fun h => by cases h) (by decide +kernel) (by decide +kernel)
set_option maxRecDepth 100000 in
theorem ok_X12_test : am_ok am_tab mi_X12_test := am_chk_ok (own := 12) (init := false) (n := 78) rfl (fun h => by cases h) (by decide +kernel) (by decide +kernel)
set_option maxRecDepth 100000 in
theorem ok_X12_part : am_ok am_tab mi_X12_part := am_chk_ok (own := 12) (init := false) (n := 115) rfl (fun h => by cases h) (by decide +kernel) (by decide +kernel)
set_option maxRecDepth 100000 in
theorem ok_X12_lettersIn : am_ok am_tab mi_X12_lettersIn := am_chk_ok (own := 12) (init := false) (n := 54) rfl (fun h => by cases h) (by decide +kernel) (by decide +kernel)
set_option maxRecDepth 100000 in
theorem ok_X12_termLetters : am_ok am_tab mi_X12_termLetters := am_chk_ok (own := 12) (init := false) (n := 37) rfl (fun h => by cases h) (by decide +kernel) (by decide +kernel)
set_option maxRecDepth 100000 in
theorem ok_X12_reads : am_ok am_tab mi_X12_reads := am_chk_ok (own := 12) (init := false) (n := 248) rfl (fun h => by cases h) (by decide +kernel) (by decide +kernel)
