/-! the class's act: the five kinds -/
theorem a_l0_0 {h : am_H} {o d : Nat} {fs : List Value} (hd : 0 ≤ d) (hn : am_nth h o = some (.inr (.inr (3, fs)))) (x q st : Int32) : am_Met mi_X3_actLeans d 0 0 [.ref o, .int x, .int q, .int st] h (fun r h' => r = some (.int (x + st)) ∧ h' = h) := by
  refine am_Met.of rfl (Nat.le_of_ble_eq_true rfl) ?_
  refine am_go ok_X3_actLeans [] 63 ?_
  refine ⟨trivial, ?_⟩
  exact ⟨rfl, rfl⟩
theorem a_l_0 {h : am_H} {o d : Nat} {fs : List Value} (hd : 1 ≤ d) (hn : am_nth h o = some (.inr (.inr (3, fs)))) (x q st : Int32) : am_Met mi_X3_actLeans d 0 0 [.ref o, .int x, .int q, .int st] h (fun r h' => r = some (.int (acL 0 st x)) ∧ h' = h) := a_l0_0 (by omega) hn x q st
theorem a_s0_0 {h : am_H} {o d : Nat} {fs : List Value} (hd : 2 ≤ d) (hn : am_nth h o = some (.inr (.inr (3, fs)))) (x q st : Int32) : am_Met mi_X3_actShows d 0 0 [.ref o, .int x, .int q, .int st] h (fun r h' => r = some (.int (acO 0 st q x)) ∧ h' = h) := by
  refine am_Met.of rfl (Nat.le_of_ble_eq_true rfl) ?_
  refine am_go ok_X3_actShows [] 67 ?_
  refine ⟨_, _, hn, by decide, d - 1, 0, 0, _, by omega, Nat.le_of_ble_eq_true rfl, Nat.le_of_ble_eq_true rfl, Nat.le_of_ble_eq_true rfl, a_l_0 (by omega) hn x q st, ?_⟩
  rintro _ _ ⟨rfl, rfl⟩
  refine ⟨Or.inl rfl, ?_⟩
  refine ⟨trivial, ?_⟩
  exact ⟨rfl, rfl⟩
theorem a_s_0 {h : am_H} {o d : Nat} {fs : List Value} (hd : 3 ≤ d) (hn : am_nth h o = some (.inr (.inr (3, fs)))) (x q st : Int32) : am_Met mi_X3_actShows d 0 0 [.ref o, .int x, .int q, .int st] h (fun r h' => r = some (.int (acS 0 0 st q x)) ∧ h' = h) := a_s0_0 (by omega) hn x q st
theorem a_e0_0 {h : am_H} {o d : Nat} {fs : List Value} (hd : 4 ≤ d) (hn : am_nth h o = some (.inr (.inr (3, fs)))) (x q st : Int32) : am_Met mi_X3_actEnds d 0 0 [.ref o, .int x, .int q, .int st] h (fun r h' => r = some (.int (acS 0 0 st q x * 2)) ∧ h' = h) := by
  refine am_Met.of rfl (Nat.le_of_ble_eq_true rfl) ?_
  refine am_go ok_X3_actEnds [] 67 ?_
  refine ⟨_, _, hn, by decide, d - 1, 0, 0, _, by omega, Nat.le_of_ble_eq_true rfl, Nat.le_of_ble_eq_true rfl, Nat.le_of_ble_eq_true rfl, a_s_0 (by omega) hn x q st, ?_⟩
  rintro _ _ ⟨rfl, rfl⟩
  refine ⟨Or.inl rfl, ?_⟩
  refine ⟨trivial, ?_⟩
  exact ⟨rfl, rfl⟩
theorem a_e_0 {h : am_H} {o d : Nat} {fs : List Value} (hd : 5 ≤ d) (hn : am_nth h o = some (.inr (.inr (3, fs)))) (x q st : Int32) : am_Met mi_X3_actEnds d 0 0 [.ref o, .int x, .int q, .int st] h (fun r h' => r = some (.int (acE 0 0 st q x)) ∧ h' = h) := a_e0_0 (by omega) hn x q st
theorem a_l0_1 {h : am_H} {o d : Nat} {fs : List Value} (hd : 0 ≤ d) (hn : am_nth h o = some (.inr (.inr (5, fs)))) (x q st : Int32) : am_Met mi_X3_actLeans d 0 0 [.ref o, .int x, .int q, .int st] h (fun r h' => r = some (.int (x + st)) ∧ h' = h) := by
  refine am_Met.of rfl (Nat.le_of_ble_eq_true rfl) ?_
  refine am_go ok_X3_actLeans [] 63 ?_
  refine ⟨trivial, ?_⟩
  exact ⟨rfl, rfl⟩
theorem a_l_1 {h : am_H} {o d : Nat} {fs : List Value} (hd : 1 ≤ d) (hn : am_nth h o = some (.inr (.inr (5, fs)))) (x q st : Int32) : am_Met mi_X5_actLeans d 0 0 [.ref o, .int x, .int q, .int st] h (fun r h' => r = some (.int (acL 1 st x)) ∧ h' = h) := by
  refine am_Met.of rfl (Nat.le_of_ble_eq_true rfl) ?_
  refine am_go ok_X5_actLeans [] 67 ?_
  refine ⟨_, _, _, rfl, hn, d - 1, 0, 0, _, by omega, Nat.le_of_ble_eq_true rfl, Nat.le_of_ble_eq_true rfl, Nat.le_of_ble_eq_true rfl, a_l0_1 (by omega) hn _ q st, ?_⟩
  rintro _ _ ⟨rfl, rfl⟩
  refine ⟨Or.inl rfl, ?_⟩
  refine ⟨trivial, ?_⟩
  exact ⟨rfl, rfl⟩
theorem a_s0_1 {h : am_H} {o d : Nat} {fs : List Value} (hd : 2 ≤ d) (hn : am_nth h o = some (.inr (.inr (5, fs)))) (x q st : Int32) : am_Met mi_X3_actShows d 0 0 [.ref o, .int x, .int q, .int st] h (fun r h' => r = some (.int (acO 1 st q x)) ∧ h' = h) := by
  refine am_Met.of rfl (Nat.le_of_ble_eq_true rfl) ?_
  refine am_go ok_X3_actShows [] 67 ?_
  refine ⟨_, _, hn, by decide, d - 1, 0, 0, _, by omega, Nat.le_of_ble_eq_true rfl, Nat.le_of_ble_eq_true rfl, Nat.le_of_ble_eq_true rfl, a_l_1 (by omega) hn x q st, ?_⟩
  rintro _ _ ⟨rfl, rfl⟩
  refine ⟨Or.inl rfl, ?_⟩
  refine ⟨trivial, ?_⟩
  exact ⟨rfl, rfl⟩
theorem a_s_1 {h : am_H} {o d : Nat} {fs : List Value} (hd : 3 ≤ d) (hn : am_nth h o = some (.inr (.inr (5, fs)))) (x q st : Int32) : am_Met mi_X3_actShows d 0 0 [.ref o, .int x, .int q, .int st] h (fun r h' => r = some (.int (acS 1 1 st q x)) ∧ h' = h) := a_s0_1 (by omega) hn x q st
theorem a_e0_1 {h : am_H} {o d : Nat} {fs : List Value} (hd : 4 ≤ d) (hn : am_nth h o = some (.inr (.inr (5, fs)))) (x q st : Int32) : am_Met mi_X3_actEnds d 0 0 [.ref o, .int x, .int q, .int st] h (fun r h' => r = some (.int (acS 1 1 st q x * 2)) ∧ h' = h) := by
  refine am_Met.of rfl (Nat.le_of_ble_eq_true rfl) ?_
  refine am_go ok_X3_actEnds [] 67 ?_
  refine ⟨_, _, hn, by decide, d - 1, 0, 0, _, by omega, Nat.le_of_ble_eq_true rfl, Nat.le_of_ble_eq_true rfl, Nat.le_of_ble_eq_true rfl, a_s_1 (by omega) hn x q st, ?_⟩
  rintro _ _ ⟨rfl, rfl⟩
  refine ⟨Or.inl rfl, ?_⟩
  refine ⟨trivial, ?_⟩
  exact ⟨rfl, rfl⟩
theorem a_e_1 {h : am_H} {o d : Nat} {fs : List Value} (hd : 5 ≤ d) (hn : am_nth h o = some (.inr (.inr (5, fs)))) (x q st : Int32) : am_Met mi_X3_actEnds d 0 0 [.ref o, .int x, .int q, .int st] h (fun r h' => r = some (.int (acE 1 1 st q x)) ∧ h' = h) := a_e0_1 (by omega) hn x q st
theorem a_l0_2 {h : am_H} {o d : Nat} {fs : List Value} (hd : 0 ≤ d) (hn : am_nth h o = some (.inr (.inr (8, fs)))) (x q st : Int32) : am_Met mi_X3_actLeans d 0 0 [.ref o, .int x, .int q, .int st] h (fun r h' => r = some (.int (x + st)) ∧ h' = h) := by
  refine am_Met.of rfl (Nat.le_of_ble_eq_true rfl) ?_
  refine am_go ok_X3_actLeans [] 63 ?_
  refine ⟨trivial, ?_⟩
  exact ⟨rfl, rfl⟩
theorem a_l_2 {h : am_H} {o d : Nat} {fs : List Value} (hd : 1 ≤ d) (hn : am_nth h o = some (.inr (.inr (8, fs)))) (x q st : Int32) : am_Met mi_X3_actLeans d 0 0 [.ref o, .int x, .int q, .int st] h (fun r h' => r = some (.int (acL 2 st x)) ∧ h' = h) := a_l0_2 (by omega) hn x q st
theorem a_s0_2 {h : am_H} {o d : Nat} {fs : List Value} (hd : 2 ≤ d) (hn : am_nth h o = some (.inr (.inr (8, fs)))) (x q st : Int32) : am_Met mi_X3_actShows d 0 0 [.ref o, .int x, .int q, .int st] h (fun r h' => r = some (.int (acO 2 st q x)) ∧ h' = h) := by
  refine am_Met.of rfl (Nat.le_of_ble_eq_true rfl) ?_
  refine am_go ok_X3_actShows [] 67 ?_
  refine ⟨_, _, hn, by decide, d - 1, 0, 0, _, by omega, Nat.le_of_ble_eq_true rfl, Nat.le_of_ble_eq_true rfl, Nat.le_of_ble_eq_true rfl, a_l_2 (by omega) hn x q st, ?_⟩
  rintro _ _ ⟨rfl, rfl⟩
  refine ⟨Or.inl rfl, ?_⟩
  refine ⟨trivial, ?_⟩
  exact ⟨rfl, rfl⟩
theorem a_s_2 {h : am_H} {o d : Nat} {fs : List Value} (hd : 3 ≤ d) (hn : am_nth h o = some (.inr (.inr (8, fs)))) (x q st : Int32) : am_Met mi_X8_actShows d 0 0 [.ref o, .int x, .int q, .int st] h (fun r h' => r = some (.int (acS 2 2 st q x)) ∧ h' = h) := by
  refine am_Met.of rfl (Nat.le_of_ble_eq_true rfl) ?_
  refine am_go ok_X8_actShows [] 67 ?_
  refine ⟨_, _, _, rfl, hn, d - 1, 0, 0, _, by omega, Nat.le_of_ble_eq_true rfl, Nat.le_of_ble_eq_true rfl, Nat.le_of_ble_eq_true rfl, a_s0_2 (by omega) hn x q st, ?_⟩
  rintro _ _ ⟨rfl, rfl⟩
  refine ⟨Or.inl rfl, ?_⟩
  refine ⟨trivial, ?_⟩
  exact ⟨rfl, rfl⟩
theorem a_e0_2 {h : am_H} {o d : Nat} {fs : List Value} (hd : 4 ≤ d) (hn : am_nth h o = some (.inr (.inr (8, fs)))) (x q st : Int32) : am_Met mi_X3_actEnds d 0 0 [.ref o, .int x, .int q, .int st] h (fun r h' => r = some (.int (acS 2 2 st q x * 2)) ∧ h' = h) := by
  refine am_Met.of rfl (Nat.le_of_ble_eq_true rfl) ?_
  refine am_go ok_X3_actEnds [] 67 ?_
  refine ⟨_, _, hn, by decide, d - 1, 0, 0, _, by omega, Nat.le_of_ble_eq_true rfl, Nat.le_of_ble_eq_true rfl, Nat.le_of_ble_eq_true rfl, a_s_2 (by omega) hn x q st, ?_⟩
  rintro _ _ ⟨rfl, rfl⟩
  refine ⟨Or.inl rfl, ?_⟩
  refine ⟨trivial, ?_⟩
  exact ⟨rfl, rfl⟩
theorem a_e_2 {h : am_H} {o d : Nat} {fs : List Value} (hd : 5 ≤ d) (hn : am_nth h o = some (.inr (.inr (8, fs)))) (x q st : Int32) : am_Met mi_X3_actEnds d 0 0 [.ref o, .int x, .int q, .int st] h (fun r h' => r = some (.int (acE 2 2 st q x)) ∧ h' = h) := a_e0_2 (by omega) hn x q st
theorem a_l0_3 {h : am_H} {o d : Nat} {fs : List Value} (hd : 0 ≤ d) (hn : am_nth h o = some (.inr (.inr (1, fs)))) (x q st : Int32) : am_Met mi_X3_actLeans d 0 0 [.ref o, .int x, .int q, .int st] h (fun r h' => r = some (.int (x + st)) ∧ h' = h) := by
  refine am_Met.of rfl (Nat.le_of_ble_eq_true rfl) ?_
  refine am_go ok_X3_actLeans [] 63 ?_
  refine ⟨trivial, ?_⟩
  exact ⟨rfl, rfl⟩
theorem a_l_3 {h : am_H} {o d : Nat} {fs : List Value} (hd : 1 ≤ d) (hn : am_nth h o = some (.inr (.inr (1, fs)))) (x q st : Int32) : am_Met mi_X3_actLeans d 0 0 [.ref o, .int x, .int q, .int st] h (fun r h' => r = some (.int (acL 3 st x)) ∧ h' = h) := a_l0_3 (by omega) hn x q st
theorem a_s0_3 {h : am_H} {o d : Nat} {fs : List Value} (hd : 2 ≤ d) (hn : am_nth h o = some (.inr (.inr (1, fs)))) (x q st : Int32) : am_Met mi_X3_actShows d 0 0 [.ref o, .int x, .int q, .int st] h (fun r h' => r = some (.int (acO 3 st q x)) ∧ h' = h) := by
  refine am_Met.of rfl (Nat.le_of_ble_eq_true rfl) ?_
  refine am_go ok_X3_actShows [] 67 ?_
  refine ⟨_, _, hn, by decide, d - 1, 0, 0, _, by omega, Nat.le_of_ble_eq_true rfl, Nat.le_of_ble_eq_true rfl, Nat.le_of_ble_eq_true rfl, a_l_3 (by omega) hn x q st, ?_⟩
  rintro _ _ ⟨rfl, rfl⟩
  refine ⟨Or.inl rfl, ?_⟩
  refine ⟨trivial, ?_⟩
  exact ⟨rfl, rfl⟩
theorem a_s_3 {h : am_H} {o d : Nat} {fs : List Value} (hd : 3 ≤ d) (hn : am_nth h o = some (.inr (.inr (1, fs)))) (x q st : Int32) : am_Met mi_X3_actShows d 0 0 [.ref o, .int x, .int q, .int st] h (fun r h' => r = some (.int (acS 3 3 st q x)) ∧ h' = h) := a_s0_3 (by omega) hn x q st
theorem a_e0_3 {h : am_H} {o d : Nat} {fs : List Value} (hd : 4 ≤ d) (hn : am_nth h o = some (.inr (.inr (1, fs)))) (x q st : Int32) : am_Met mi_X3_actEnds d 0 0 [.ref o, .int x, .int q, .int st] h (fun r h' => r = some (.int (acS 3 3 st q x * 2)) ∧ h' = h) := by
  refine am_Met.of rfl (Nat.le_of_ble_eq_true rfl) ?_
  refine am_go ok_X3_actEnds [] 67 ?_
  refine ⟨_, _, hn, by decide, d - 1, 0, 0, _, by omega, Nat.le_of_ble_eq_true rfl, Nat.le_of_ble_eq_true rfl, Nat.le_of_ble_eq_true rfl, a_s_3 (by omega) hn x q st, ?_⟩
  rintro _ _ ⟨rfl, rfl⟩
  refine ⟨Or.inl rfl, ?_⟩
  refine ⟨trivial, ?_⟩
  exact ⟨rfl, rfl⟩
theorem a_e_3 {h : am_H} {o d : Nat} {fs : List Value} (hd : 5 ≤ d) (hn : am_nth h o = some (.inr (.inr (1, fs)))) (x q st : Int32) : am_Met mi_X1_actEnds d 0 0 [.ref o, .int x, .int q, .int st] h (fun r h' => r = some (.int (acE 3 3 st q x)) ∧ h' = h) := by
  refine am_Met.of rfl (Nat.le_of_ble_eq_true rfl) ?_
  refine am_go ok_X1_actEnds [] 66 ?_
  refine ⟨_, _, _, rfl, hn, d - 1, 0, 0, _, by omega, Nat.le_of_ble_eq_true rfl, Nat.le_of_ble_eq_true rfl, Nat.le_of_ble_eq_true rfl, a_e0_3 (by omega) hn x q st, ?_⟩
  rintro _ _ ⟨rfl, rfl⟩
  refine ⟨Or.inl rfl, ?_⟩
  refine ⟨trivial, ?_⟩
  exact ⟨rfl, rfl⟩
theorem a_l0_4 {h : am_H} {o d : Nat} {fs : List Value} (hd : 0 ≤ d) (hn : am_nth h o = some (.inr (.inr (4, fs)))) (x q st : Int32) : am_Met mi_X3_actLeans d 0 0 [.ref o, .int x, .int q, .int st] h (fun r h' => r = some (.int (x + st)) ∧ h' = h) := by
  refine am_Met.of rfl (Nat.le_of_ble_eq_true rfl) ?_
  refine am_go ok_X3_actLeans [] 63 ?_
  refine ⟨trivial, ?_⟩
  exact ⟨rfl, rfl⟩
theorem a_l_4 {h : am_H} {o d : Nat} {fs : List Value} (hd : 1 ≤ d) (hn : am_nth h o = some (.inr (.inr (4, fs)))) (x q st : Int32) : am_Met mi_X5_actLeans d 0 0 [.ref o, .int x, .int q, .int st] h (fun r h' => r = some (.int (acL 4 st x)) ∧ h' = h) := by
  refine am_Met.of rfl (Nat.le_of_ble_eq_true rfl) ?_
  refine am_go ok_X5_actLeans [] 67 ?_
  refine ⟨_, _, _, rfl, hn, d - 1, 0, 0, _, by omega, Nat.le_of_ble_eq_true rfl, Nat.le_of_ble_eq_true rfl, Nat.le_of_ble_eq_true rfl, a_l0_4 (by omega) hn _ q st, ?_⟩
  rintro _ _ ⟨rfl, rfl⟩
  refine ⟨Or.inl rfl, ?_⟩
  refine ⟨trivial, ?_⟩
  exact ⟨rfl, rfl⟩
theorem a_s0_4 {h : am_H} {o d : Nat} {fs : List Value} (hd : 2 ≤ d) (hn : am_nth h o = some (.inr (.inr (4, fs)))) (x q st : Int32) : am_Met mi_X3_actShows d 0 0 [.ref o, .int x, .int q, .int st] h (fun r h' => r = some (.int (acO 4 st q x)) ∧ h' = h) := by
  refine am_Met.of rfl (Nat.le_of_ble_eq_true rfl) ?_
  refine am_go ok_X3_actShows [] 67 ?_
  refine ⟨_, _, hn, by decide, d - 1, 0, 0, _, by omega, Nat.le_of_ble_eq_true rfl, Nat.le_of_ble_eq_true rfl, Nat.le_of_ble_eq_true rfl, a_l_4 (by omega) hn x q st, ?_⟩
  rintro _ _ ⟨rfl, rfl⟩
  refine ⟨Or.inl rfl, ?_⟩
  refine ⟨trivial, ?_⟩
  exact ⟨rfl, rfl⟩
theorem a_s_4 {h : am_H} {o d : Nat} {fs : List Value} (hd : 3 ≤ d) (hn : am_nth h o = some (.inr (.inr (4, fs)))) (x q st : Int32) : am_Met mi_X4_actShows d 0 0 [.ref o, .int x, .int q, .int st] h (fun r h' => r = some (.int (acS 4 4 st q x)) ∧ h' = h) := by
  refine am_Met.of rfl (Nat.le_of_ble_eq_true rfl) ?_
  refine am_go ok_X4_actShows [] 67 ?_
  refine ⟨_, _, _, rfl, hn, d - 1, 0, 0, _, by omega, Nat.le_of_ble_eq_true rfl, Nat.le_of_ble_eq_true rfl, Nat.le_of_ble_eq_true rfl, a_s0_4 (by omega) hn (x + 1) q st, ?_⟩
  rintro _ _ ⟨rfl, rfl⟩
  refine ⟨Or.inl rfl, ?_⟩
  refine ⟨trivial, ?_⟩
  exact ⟨rfl, rfl⟩
theorem a_e0_4 {h : am_H} {o d : Nat} {fs : List Value} (hd : 4 ≤ d) (hn : am_nth h o = some (.inr (.inr (4, fs)))) (x q st : Int32) : am_Met mi_X3_actEnds d 0 0 [.ref o, .int x, .int q, .int st] h (fun r h' => r = some (.int (acS 4 4 st q x * 2)) ∧ h' = h) := by
  refine am_Met.of rfl (Nat.le_of_ble_eq_true rfl) ?_
  refine am_go ok_X3_actEnds [] 67 ?_
  refine ⟨_, _, hn, by decide, d - 1, 0, 0, _, by omega, Nat.le_of_ble_eq_true rfl, Nat.le_of_ble_eq_true rfl, Nat.le_of_ble_eq_true rfl, a_s_4 (by omega) hn x q st, ?_⟩
  rintro _ _ ⟨rfl, rfl⟩
  refine ⟨Or.inl rfl, ?_⟩
  refine ⟨trivial, ?_⟩
  exact ⟨rfl, rfl⟩
theorem a_e_4 {h : am_H} {o d : Nat} {fs : List Value} (hd : 5 ≤ d) (hn : am_nth h o = some (.inr (.inr (4, fs)))) (x q st : Int32) : am_Met mi_X4_actEnds d 0 0 [.ref o, .int x, .int q, .int st] h (fun r h' => r = some (.int (acE 4 4 st q x)) ∧ h' = h) := by
  refine am_Met.of rfl (Nat.le_of_ble_eq_true rfl) ?_
  refine am_go ok_X4_actEnds [] 71 ?_
  refine ⟨_, _, _, rfl, hn, d - 1, 0, 0, _, by omega, Nat.le_of_ble_eq_true rfl, Nat.le_of_ble_eq_true rfl, Nat.le_of_ble_eq_true rfl, a_e0_4 (by omega) hn x q st, ?_⟩
  rintro _ _ ⟨rfl, rfl⟩
  refine ⟨Or.inl rfl, ?_⟩
  refine ⟨_, hn, d - 1, 0, 0, _, by omega, Nat.le_of_ble_eq_true rfl, Nat.le_of_ble_eq_true rfl, Nat.le_of_ble_eq_true rfl, a_l_4 (by omega) hn 1 q st, ?_⟩
  rintro _ _ ⟨rfl, rfl⟩
  refine ⟨Or.inl rfl, ?_⟩
  refine ⟨trivial, ?_⟩
  exact ⟨rfl, rfl⟩
theorem c_act {cg : sg_T} {fn : Nat → Option Nat} {cx : cx_T} {P : Nat → Int32} {R C n Q T U d : Nat} (hd : 460 ≤ d) (hC : clR cg P) (hO : okP P R C n Q T U) (q w x : Int32) : am_Met mi_X11_act d 0 0 [.ref 0, .int q, .int w, .int x] (hc cg fn cx) (cS cx (sp_act P q w x) P) := by
  refine am_Met.of rfl (Nat.le_of_ble_eq_true rfl) ?_
  refine am_go ok_X11_act [] 95 ?_
  refine ⟨_, _, rfl, rfl, ?_⟩
  refine ⟨_, rfl, d - 1, 0, 0, _, by omega, Nat.le_of_ble_eq_true rfl, Nat.le_of_ble_eq_true rfl, Nat.le_of_ble_eq_true rfl, c_has (w := 4) (n := Q) (d - 1) q rfl (by omega) ((hC.1.c 4 (by omega)).trans hO.q4.1) (by have := hO.q4.2; omega), ?_⟩
  rintro _ _ ⟨rfl, rfl⟩
  refine ⟨Or.inl rfl, ?_⟩
  refine ⟨fun c9 => ?_, fun c9 => ?_⟩
  · have qa : ¬ (inI q 0 (P 4 - 1) ∧ inI w 0 2) := fun z => (fun z => bI_f c9 (by rw [← hO.q4.1]; exact z)) z.1
    refine ⟨trivial, ?_⟩
    exact ⟨cg, fn, cx, by unfold sp_act; rw [if_pos qa], rfl, rfl, hC⟩
  · have q1 := (show inI q 0 (P 4 - 1) by rw [hO.q4.1]; exact bI_t c9)
    have Q12 := hO.q4.2
    obtain ⟨j, ej, cj, hj⟩ := ix_at hO.q4.1 (by omega) q1
    obtain ⟨q12, ⟨kk, k5, ek, pk⟩, st, s12, es, ps, hRw⟩ := pf_q hO.A hj
    refine ⟨fun c13 => ?_, fun c13 => ?_⟩
    · have qa : ¬ (inI q 0 (P 4 - 1) ∧ inI w 0 2) := fun z => i_len z.2.1 c13
      refine ⟨trivial, ?_⟩
      exact ⟨cg, fn, cx, by unfold sp_act; rw [if_pos qa], rfl, rfl, hC⟩
    · refine ⟨fun c18 => ?_, fun c18 => ?_⟩
      · have qw : inI w 0 2 := ⟨i_nlt c13, c18⟩
        refine ⟨_, _, rfl, rfl, ?_⟩
        refine ⟨_, _, rfl, rfl, ?_⟩
        refine ⟨_, _, rfl, rfl, ?_⟩
        refine ⟨_, _, j, rfl, ej, by omega, Nat.le_of_ble_eq_true rfl, ?_⟩
        rw [hC.1.k j (by omega), ek]
        refine ⟨_, _, kk, _, rfl, rfl, by omega, Nat.le_of_ble_eq_true rfl, if_pos k5, ?_⟩
        refine ⟨_, _, rfl, rfl, ?_⟩
        refine ⟨_, _, rfl, rfl, ?_⟩
        refine ⟨_, _, j, rfl, ej, by omega, Nat.le_of_ble_eq_true rfl, ?_⟩
        rw [hC.1.s j (by omega)]
        refine ⟨fun c51 => ?_, fun c51 => ?_⟩
        · refine ⟨fun c66 => ?_, fun c66 => ?_⟩
          · rcases (show kk = 0 ∨ kk = 1 ∨ kk = 2 ∨ kk = 3 ∨ kk = 4 by omega) with zk | zk | zk | zk | zk
            · subst zk
              refine ⟨_, _, (rfl : am_nth (hc cg fn cx) 96 = some (.inr (.inr (3, [])))), by decide, d - 1, 0, 0, _, by omega, Nat.le_of_ble_eq_true rfl, Nat.le_of_ble_eq_true rfl, Nat.le_of_ble_eq_true rfl, a_e_0 (by omega) rfl x q (P (126 + j)), ?_⟩
              rintro _ _ ⟨rfl, rfl⟩
              refine ⟨Or.inl rfl, ?_⟩
              refine ⟨trivial, ?_⟩
              exact ⟨cg, fn, cx, by unfold sp_act; rw [cj, pk, if_neg (fun z => z ⟨q1, qw⟩), if_neg c51, if_neg c66], rfl, rfl, hC⟩
            · subst zk
              refine ⟨_, _, (rfl : am_nth (hc cg fn cx) 97 = some (.inr (.inr (5, [])))), by decide, d - 1, 0, 0, _, by omega, Nat.le_of_ble_eq_true rfl, Nat.le_of_ble_eq_true rfl, Nat.le_of_ble_eq_true rfl, a_e_1 (by omega) rfl x q (P (126 + j)), ?_⟩
              rintro _ _ ⟨rfl, rfl⟩
              refine ⟨Or.inl rfl, ?_⟩
              refine ⟨trivial, ?_⟩
              exact ⟨cg, fn, cx, by unfold sp_act; rw [cj, pk, if_neg (fun z => z ⟨q1, qw⟩), if_neg c51, if_neg c66], rfl, rfl, hC⟩
            · subst zk
              refine ⟨_, _, (rfl : am_nth (hc cg fn cx) 98 = some (.inr (.inr (8, [])))), by decide, d - 1, 0, 0, _, by omega, Nat.le_of_ble_eq_true rfl, Nat.le_of_ble_eq_true rfl, Nat.le_of_ble_eq_true rfl, a_e_2 (by omega) rfl x q (P (126 + j)), ?_⟩
              rintro _ _ ⟨rfl, rfl⟩
              refine ⟨Or.inl rfl, ?_⟩
              refine ⟨trivial, ?_⟩
              exact ⟨cg, fn, cx, by unfold sp_act; rw [cj, pk, if_neg (fun z => z ⟨q1, qw⟩), if_neg c51, if_neg c66], rfl, rfl, hC⟩
            · subst zk
              refine ⟨_, _, (rfl : am_nth (hc cg fn cx) 99 = some (.inr (.inr (1, [])))), by decide, d - 1, 0, 0, _, by omega, Nat.le_of_ble_eq_true rfl, Nat.le_of_ble_eq_true rfl, Nat.le_of_ble_eq_true rfl, a_e_3 (by omega) rfl x q (P (126 + j)), ?_⟩
              rintro _ _ ⟨rfl, rfl⟩
              refine ⟨Or.inl rfl, ?_⟩
              refine ⟨trivial, ?_⟩
              exact ⟨cg, fn, cx, by unfold sp_act; rw [cj, pk, if_neg (fun z => z ⟨q1, qw⟩), if_neg c51, if_neg c66], rfl, rfl, hC⟩
            · subst zk
              refine ⟨_, _, (rfl : am_nth (hc cg fn cx) 100 = some (.inr (.inr (4, [])))), by decide, d - 1, 0, 0, _, by omega, Nat.le_of_ble_eq_true rfl, Nat.le_of_ble_eq_true rfl, Nat.le_of_ble_eq_true rfl, a_e_4 (by omega) rfl x q (P (126 + j)), ?_⟩
              rintro _ _ ⟨rfl, rfl⟩
              refine ⟨Or.inl rfl, ?_⟩
              refine ⟨trivial, ?_⟩
              exact ⟨cg, fn, cx, by unfold sp_act; rw [cj, pk, if_neg (fun z => z ⟨q1, qw⟩), if_neg c51, if_neg c66], rfl, rfl, hC⟩
          · rcases (show kk = 0 ∨ kk = 1 ∨ kk = 2 ∨ kk = 3 ∨ kk = 4 by omega) with zk | zk | zk | zk | zk
            · subst zk
              refine ⟨_, _, (rfl : am_nth (hc cg fn cx) 96 = some (.inr (.inr (3, [])))), by decide, d - 1, 0, 0, _, by omega, Nat.le_of_ble_eq_true rfl, Nat.le_of_ble_eq_true rfl, Nat.le_of_ble_eq_true rfl, a_s_0 (by omega) rfl x q (P (126 + j)), ?_⟩
              rintro _ _ ⟨rfl, rfl⟩
              refine ⟨Or.inl rfl, ?_⟩
              refine ⟨trivial, ?_⟩
              exact ⟨cg, fn, cx, by unfold sp_act; rw [cj, pk, if_neg (fun z => z ⟨q1, qw⟩), if_neg c51, if_pos c66], rfl, rfl, hC⟩
            · subst zk
              refine ⟨_, _, (rfl : am_nth (hc cg fn cx) 97 = some (.inr (.inr (5, [])))), by decide, d - 1, 0, 0, _, by omega, Nat.le_of_ble_eq_true rfl, Nat.le_of_ble_eq_true rfl, Nat.le_of_ble_eq_true rfl, a_s_1 (by omega) rfl x q (P (126 + j)), ?_⟩
              rintro _ _ ⟨rfl, rfl⟩
              refine ⟨Or.inl rfl, ?_⟩
              refine ⟨trivial, ?_⟩
              exact ⟨cg, fn, cx, by unfold sp_act; rw [cj, pk, if_neg (fun z => z ⟨q1, qw⟩), if_neg c51, if_pos c66], rfl, rfl, hC⟩
            · subst zk
              refine ⟨_, _, (rfl : am_nth (hc cg fn cx) 98 = some (.inr (.inr (8, [])))), by decide, d - 1, 0, 0, _, by omega, Nat.le_of_ble_eq_true rfl, Nat.le_of_ble_eq_true rfl, Nat.le_of_ble_eq_true rfl, a_s_2 (by omega) rfl x q (P (126 + j)), ?_⟩
              rintro _ _ ⟨rfl, rfl⟩
              refine ⟨Or.inl rfl, ?_⟩
              refine ⟨trivial, ?_⟩
              exact ⟨cg, fn, cx, by unfold sp_act; rw [cj, pk, if_neg (fun z => z ⟨q1, qw⟩), if_neg c51, if_pos c66], rfl, rfl, hC⟩
            · subst zk
              refine ⟨_, _, (rfl : am_nth (hc cg fn cx) 99 = some (.inr (.inr (1, [])))), by decide, d - 1, 0, 0, _, by omega, Nat.le_of_ble_eq_true rfl, Nat.le_of_ble_eq_true rfl, Nat.le_of_ble_eq_true rfl, a_s_3 (by omega) rfl x q (P (126 + j)), ?_⟩
              rintro _ _ ⟨rfl, rfl⟩
              refine ⟨Or.inl rfl, ?_⟩
              refine ⟨trivial, ?_⟩
              exact ⟨cg, fn, cx, by unfold sp_act; rw [cj, pk, if_neg (fun z => z ⟨q1, qw⟩), if_neg c51, if_pos c66], rfl, rfl, hC⟩
            · subst zk
              refine ⟨_, _, (rfl : am_nth (hc cg fn cx) 100 = some (.inr (.inr (4, [])))), by decide, d - 1, 0, 0, _, by omega, Nat.le_of_ble_eq_true rfl, Nat.le_of_ble_eq_true rfl, Nat.le_of_ble_eq_true rfl, a_s_4 (by omega) rfl x q (P (126 + j)), ?_⟩
              rintro _ _ ⟨rfl, rfl⟩
              refine ⟨Or.inl rfl, ?_⟩
              refine ⟨trivial, ?_⟩
              exact ⟨cg, fn, cx, by unfold sp_act; rw [cj, pk, if_neg (fun z => z ⟨q1, qw⟩), if_neg c51, if_pos c66], rfl, rfl, hC⟩
        · rcases (show kk = 0 ∨ kk = 1 ∨ kk = 2 ∨ kk = 3 ∨ kk = 4 by omega) with zk | zk | zk | zk | zk
          · subst zk
            refine ⟨_, _, (rfl : am_nth (hc cg fn cx) 96 = some (.inr (.inr (3, [])))), by decide, d - 1, 0, 0, _, by omega, Nat.le_of_ble_eq_true rfl, Nat.le_of_ble_eq_true rfl, Nat.le_of_ble_eq_true rfl, a_l_0 (by omega) rfl x q (P (126 + j)), ?_⟩
            rintro _ _ ⟨rfl, rfl⟩
            refine ⟨Or.inl rfl, ?_⟩
            refine ⟨trivial, ?_⟩
            exact ⟨cg, fn, cx, by unfold sp_act; rw [cj, pk, if_neg (fun z => z ⟨q1, qw⟩), if_pos c51], rfl, rfl, hC⟩
          · subst zk
            refine ⟨_, _, (rfl : am_nth (hc cg fn cx) 97 = some (.inr (.inr (5, [])))), by decide, d - 1, 0, 0, _, by omega, Nat.le_of_ble_eq_true rfl, Nat.le_of_ble_eq_true rfl, Nat.le_of_ble_eq_true rfl, a_l_1 (by omega) rfl x q (P (126 + j)), ?_⟩
            rintro _ _ ⟨rfl, rfl⟩
            refine ⟨Or.inl rfl, ?_⟩
            refine ⟨trivial, ?_⟩
            exact ⟨cg, fn, cx, by unfold sp_act; rw [cj, pk, if_neg (fun z => z ⟨q1, qw⟩), if_pos c51], rfl, rfl, hC⟩
          · subst zk
            refine ⟨_, _, (rfl : am_nth (hc cg fn cx) 98 = some (.inr (.inr (8, [])))), by decide, d - 1, 0, 0, _, by omega, Nat.le_of_ble_eq_true rfl, Nat.le_of_ble_eq_true rfl, Nat.le_of_ble_eq_true rfl, a_l_2 (by omega) rfl x q (P (126 + j)), ?_⟩
            rintro _ _ ⟨rfl, rfl⟩
            refine ⟨Or.inl rfl, ?_⟩
            refine ⟨trivial, ?_⟩
            exact ⟨cg, fn, cx, by unfold sp_act; rw [cj, pk, if_neg (fun z => z ⟨q1, qw⟩), if_pos c51], rfl, rfl, hC⟩
          · subst zk
            refine ⟨_, _, (rfl : am_nth (hc cg fn cx) 99 = some (.inr (.inr (1, [])))), by decide, d - 1, 0, 0, _, by omega, Nat.le_of_ble_eq_true rfl, Nat.le_of_ble_eq_true rfl, Nat.le_of_ble_eq_true rfl, a_l_3 (by omega) rfl x q (P (126 + j)), ?_⟩
            rintro _ _ ⟨rfl, rfl⟩
            refine ⟨Or.inl rfl, ?_⟩
            refine ⟨trivial, ?_⟩
            exact ⟨cg, fn, cx, by unfold sp_act; rw [cj, pk, if_neg (fun z => z ⟨q1, qw⟩), if_pos c51], rfl, rfl, hC⟩
          · subst zk
            refine ⟨_, _, (rfl : am_nth (hc cg fn cx) 100 = some (.inr (.inr (4, [])))), by decide, d - 1, 0, 0, _, by omega, Nat.le_of_ble_eq_true rfl, Nat.le_of_ble_eq_true rfl, Nat.le_of_ble_eq_true rfl, a_l_4 (by omega) rfl x q (P (126 + j)), ?_⟩
            rintro _ _ ⟨rfl, rfl⟩
            refine ⟨Or.inl rfl, ?_⟩
            refine ⟨trivial, ?_⟩
            exact ⟨cg, fn, cx, by unfold sp_act; rw [cj, pk, if_neg (fun z => z ⟨q1, qw⟩), if_pos c51], rfl, rfl, hC⟩
      · have qa : ¬ (inI q 0 (P 4 - 1) ∧ inI w 0 2) := fun z => c18 z.2.2
        refine ⟨trivial, ?_⟩
        exact ⟨cg, fn, cx, by unfold sp_act; rw [if_pos qa], rfl, rfl, hC⟩
