/-! the RuleReader's constructor -/
theorem i_rd_1 {h : am_H} {b bk d : Nat} (hb : h.length = b) (hw : wfL b h) (b1 : b + 100 < 100000) (hk : bk < b) (hd : 2 ≤ d) : am_W mi_X7_init d (fun r h' => r = none ∧ h' = h ++ ([.inr (.inr (7, [.ref bk, .int 0, .int 0, .ref (b + 1), .int 0]))] ++ txL (b + 1))) 3 33 14 [some (.ref b), some (.ref bk)] [] (h ++ [(.inr (.inr (7, [.null, .int 0, .int 0, .null, .int 0])) : am_C)]) := by
  refine am_go ok_X7_init [] 61 ?_
  have hl : (h ++ [(.inr (.inr (7, [.null, .int 0, .int 0, .null, .int 0])) : am_C)]).length = b + 1 := ap_l hb
  have hwf : wfL (b + 1) (h ++ [(.inr (.inr (7, [.null, .int 0, .int 0, .null, .int 0])) : am_C)]) := wfL_a (wfL_m (by omega) hw) (by show wfL (b + 1) [(.inr (.inr (7, [.null, .int 0, .int 0, .null, .int 0])) : am_C)]; simp only [wfL, wfC, wfF, wfS, rfV_r, rfV_z, rfV_k, reduceCtorEq, false_implies, implies_true, and_true, true_and] <;> omega)
  refine ⟨Nat.le_of_ble_eq_true rfl, (show 5 ≤ 33 by decide), (by rw [hl]; omega), (by rw [hl]; exact ⟨wfS_n (Nat.le_refl _) (by show wfS (b + 1) [some (.ref b), some (.ref bk)]; simp only [wfL, wfC, wfF, wfS, rfV_r, rfV_z, rfV_k, reduceCtorEq, false_implies, implies_true, and_true, true_and] <;> omega), wfF_n (Nat.le_refl _) (by show wfF (b + 1) [.ref b]; simp only [wfL, wfC, wfF, wfS, rfV_r, rfV_z, rfV_k, reduceCtorEq, false_implies, implies_true, and_true, true_and] <;> omega), wfL_n (Nat.le_refl _) hwf⟩), ?_⟩
  rw [hl]
  refine ⟨d - 1, 2, 28, _, by omega, Nat.le_of_ble_eq_true rfl, Nat.le_of_ble_eq_true rfl, Nat.le_of_ble_eq_true rfl, i_text (by omega) hl hwf (by omega), ?_⟩
  rintro _ _ ⟨rfl, rfl⟩
  refine ⟨Or.inr (ns_of (N := b + 2) (by rw [List.length_append, hl]; exact Nat.le_refl _) (by show wfS (b + 2) [some (.ref b), some (.ref bk)]; simp only [wfL, wfC, wfF, wfS, rfV_r, rfV_z, rfV_k, reduceCtorEq, false_implies, implies_true, and_true, true_and] <;> omega) (by show wfF (b + 2) [.ref (b + 1), .ref b]; simp only [wfL, wfC, wfF, wfS, rfV_r, rfV_z, rfV_k, reduceCtorEq, false_implies, implies_true, and_true, true_and] <;> omega)), ?_⟩
  rw [List.append_assoc]
  refine ⟨_, ap_n0 hb, Nat.le_of_ble_eq_true rfl, trivial, ?_⟩
  rw [ap_p0 hb]
  refine ⟨_, ap_n0 hb, Nat.le_of_ble_eq_true rfl, trivial, ?_⟩
  rw [ap_p0 hb]
  refine ⟨_, ap_n0 hb, Nat.le_of_ble_eq_true rfl, trivial, ?_⟩
  rw [ap_p0 hb]
  exact ⟨rfl, rfl⟩
theorem i_reader {h : am_H} {b bk d : Nat} (hb : h.length = b) (hw : wfL b h) (b1 : b + 100 < 100000) (hk : bk < b) (hd : 2 ≤ d) : am_Met mi_X7_init d 3 33 [.ref b, .ref bk] (h ++ [.inr (.inr (7, am_new 7))]) (fun r h' => r = none ∧ h' = h ++ ([.inr (.inr (7, [.ref bk, .int 0, .int 0, .ref (b + 1), .int 0]))] ++ txL (b + 1))) := by
  refine am_Met.of rfl (Nat.le_of_ble_eq_true rfl) ?_
  refine am_go ok_X7_init [14] 68 ?_
  refine ⟨by omega, Nat.le_of_ble_eq_true rfl, ?_⟩
  refine ⟨_, ap_n0 hb, Nat.le_of_ble_eq_true rfl, trivial, ?_⟩
  rw [ap_p0 hb]
  refine ⟨_, ap_n0 hb, Nat.le_of_ble_eq_true rfl, trivial, ?_⟩
  rw [ap_p0 hb]
  exact i_rd_1 hb hw b1 hk hd
