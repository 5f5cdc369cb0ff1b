/-! the rows are the bytecode's -/
set_option maxRecDepth 100000 in
theorem ok_X12_enough : am_ok am_tab mi_X12_enough := am_chk_ok (own := 12) (init := false) (n := 103) rfl (fun h => by cases h) (by decide +kernel) (by decide +kernel)
set_option maxRecDepth 100000 in
theorem ok_X12_could : am_ok am_tab mi_X12_could := am_chk_ok (own := 12) (init := false) (n := 124) rfl (fun h => by cases h) (by decide +kernel) (by decide +kernel)
set_option maxRecDepth 100000 in
theorem ok_X12_readsTactic : am_ok am_tab mi_X12_readsTactic := am_chk_ok (own := 12) (init := false) (n := 38) rfl (fun h => by cases h) (by decide +kernel) (by decide +kernel)
set_option maxRecDepth 100000 in
theorem ok_X12_readsPiece : am_ok am_tab mi_X12_readsPiece := am_chk_ok (own := 12) (init := false) (n := 38) rfl (fun h => by cases h) (by decide +kernel) (by decide +kernel)
set_option maxRecDepth 100000 in
theorem ok_X12_readsTry : am_ok am_tab mi_X12_readsTry := am_chk_ok (own := 12) (init := false) (n := 127) rfl (fun h => by cases h) (by decide +kernel) (by decide +kernel)
set_option maxRecDepth 100000 in
theorem ok_X12_tactic : am_ok am_tab mi_X12_tactic := am_chk_ok (own := 12) (init := false) (n := 171) rfl (fun h => by cases h) (by decide +kernel) (by decide +kernel)
set_option maxRecDepth 100000 in
theorem ok_X12_byteAt : am_ok am_tab mi_X12_byteAt := am_chk_ok (own := 12) (init := false) (n := 40) rfl (fun h => by cases h) (by decide +kernel) (by decide +kernel)
set_option maxRecDepth 100000 in
theorem ok_X12_runs : am_ok am_tab mi_X12_runs := am_chk_ok (own := 12) (init := false) (n := 284) rfl (fun h => by cases h) (by decide +kernel) (by decide +kernel)
set_option maxRecDepth 100000 in
theorem ok_X12_behindTry : am_ok am_tab mi_X12_behindTry := am_chk_ok (own := 12) (init := false) (n := 69) rfl (fun h => by cases h) (by decide +kernel) (by decide +kernel)
set_option maxRecDepth 100000 in
theorem ok_X12_runsTry : am_ok am_tab mi_X12_runsTry := am_chk_ok (own := 12) (init := false) (n := 60) rfl (fun h => by cases h) (by decide +kernel) (by decide +kernel)
set_option maxRecDepth 100000 in
theorem ok_X12_runsOnce : am_ok am_tab mi_X12_runsOnce := am_chk_ok (own := 12) (init := false) (n := 33) rfl (fun h => by cases h) (by decide +kernel) (by decide +kernel)
set_option maxRecDepth 100000 in
theorem ok_X12_runsTactic : am_ok am_tab mi_X12_runsTactic := am_chk_ok (own := 12) (init := false) (n := 110) rfl (fun h => by cases h) (by decide +kernel) (by decide +kernel)
set_option maxRecDepth 100000 in
theorem ok_X12_run : am_ok am_tab mi_X12_run := am_chk_ok (own := 12) (init := false) (n := 204) rfl (fun h => by cases h) (by decide +kernel) (by decide +kernel)
set_option maxRecDepth 100000 in
theorem ok_X12_found : am_ok am_tab mi_X12_found := am_chk_ok (own := 12) (init := false) (n := 38) rfl (fun h => by cases h) (by decide +kernel) (by decide +kernel)
set_option maxRecDepth 100000 in
theorem ok_X12_image : am_ok am_tab mi_X12_image := am_chk_ok (own := 12) (init := false) (n := 39) rfl (fun h => by cases h) (by decide +kernel) (by decide +kernel)
set_option maxRecDepth 100000 in
theorem ok_X12_undo : am_ok am_tab mi_X12_undo := am_chk_ok (own := 12) (init := false) (n := 44) rfl (fun h => by cases h) (by decide +kernel) (by decide +kernel)
set_option maxRecDepth 100000 in
theorem ok_X12_count : am_ok am_tab mi_X12_count := am_chk_ok (own := 12) (init := false) (n := 37) rfl (fun h => by cases h) (by decide +kernel) (by decide +kernel)
set_option maxRecDepth 100000 in
theorem ok_J6_bitCount_0f7a4 : am_ok am_tab mi_J6_bitCount_0f7a4 := am_chk_ok (own := 13) (init := false) (n := 53) rfl (fun h => by cases h) (by decide +kernel) (by decide +kernel)
set_option maxRecDepth 100000 in
theorem ok_J9_max_7cf53 : am_ok am_tab mi_J9_max_7cf53 := am_chk_ok (own := 14) (init := false) (n := 11) rfl (fun h => by cases h) (by decide +kernel) (by decide +kernel)
set_option maxRecDepth 100000 in
theorem ok_J9_min_7cf53 : am_ok am_tab mi_J9_min_7cf53 := am_chk_ok (own := 14) (init := false) (n := 11) rfl (fun h => by cases h) (by decide +kernel) (by decide +kernel)
set_option maxRecDepth 100000 in
theorem ok_J7_fill_53178 : am_ok am_tab mi_J7_fill_53178 := am_chk_ok (own := 15) (init := false) (n := 21) rfl (fun h => by cases h) (by decide +kernel) (by decide +kernel)
