/-! the class's constructor: its objects, one after another -/
theorem i_s0 {Q : Option Value → am_H → Prop} {L : am_H} {d kc ks : Nat} (hL : L.length = 0) (hW : wfL 1 L) (hd : 5 ≤ d) (hkc : 77 ≤ kc) (hks : 3284 ≤ ks) (K : am_W mi_X11_init d Q (kc - 1 - 76) (ks - 18 - 3266) 15 [some (.ref 0)] [] ((.inr (.inr (11, [.ref 1, .null, .null, .null, .null, .null, .null])) : am_C) :: (L ++ (bkH 1 20 ++ bkT 1 20)))) : am_W mi_X11_init d Q kc ks 4 [some (.ref 0)] [] ((.inr (.inr (11, [.null, .null, .null, .null, .null, .null, .null])) : am_C) :: L) := by
  refine am_go ok_X11_init [15] 61 ?_
  have hl : ((.inr (.inr (11, [.null, .null, .null, .null, .null, .null, .null])) : am_C) :: L).length = 1 := by show L.length + 1 = 1; rw [hL]
  have hwf : wfL 1 ((.inr (.inr (11, [.null, .null, .null, .null, .null, .null, .null])) : am_C) :: L) := ⟨(by show wfC 1 (.inr (.inr (11, [.null, .null, .null, .null, .null, .null, .null])) : am_C); simp only [wfL, wfC, wfF, wfS, rfV_r, rfV_z, rfV_k, reduceCtorEq, false_implies, implies_true, and_true, true_and] <;> omega), hW⟩
  refine ⟨by omega, (show 18 ≤ ks by omega), (by rw [hl]; decide), (by rw [hl]; exact ⟨wfS_n (N := 1) (Nat.le_refl _) (by show wfS 1 [some (.ref 0)]; simp only [wfL, wfC, wfF, wfS, rfV_r, rfV_z, rfV_k, reduceCtorEq, false_implies, implies_true, and_true, true_and] <;> omega), wfF_n (N := 1) (Nat.le_refl _) (by show wfF 1 [.ref 0]; simp only [wfL, wfC, wfF, wfS, rfV_r, rfV_z, rfV_k, reduceCtorEq, false_implies, implies_true, and_true, true_and] <;> omega), wfL_n (Nat.le_refl _) hwf⟩), ?_⟩
  rw [hl]
  refine ⟨d - 1, 76, 3266, _, by omega, by omega, (show 3266 ≤ ks - 18 by omega), Nat.le_of_ble_eq_true rfl, i_book (b := 1) (by omega) hl hwf (by omega), ?_⟩
  rintro _ _ ⟨rfl, rfl⟩
  refine ⟨Or.inr (ns_of (N := 2) (by rw [List.length_append, hl]; exact Nat.le_refl _) (by show wfS 2 [some (.ref 0)]; simp only [wfL, wfC, wfF, wfS, rfV_r, rfV_z, rfV_k, reduceCtorEq, false_implies, implies_true, and_true, true_and] <;> omega) (by show wfF 2 [.ref 1, .ref 0]; simp only [wfL, wfC, wfF, wfS, rfV_r, rfV_z, rfV_k, reduceCtorEq, false_implies, implies_true, and_true, true_and] <;> omega)), ?_⟩
  refine ⟨_, rfl, Nat.le_of_ble_eq_true rfl, trivial, ?_⟩
  exact K
theorem i_s1 {Q : Option Value → am_H → Prop} {L : am_H} {d kc ks : Nat} (hL : L.length = 77) (hW : wfL 78 L) (hd : 5 ≤ d) (hkc : 6 ≤ kc) (hks : 328 ≤ ks) (K : ∀ F : Nat → Int32, (∀ i, i < 5 → F i = nI i) → (∀ i, 5 ≤ i → F i = 0) → am_W mi_X11_init d Q (kc - 1 - 5) (ks - 7 - 321) 30 [some (.ref 0)] [] ((.inr (.inr (11, [.ref 1, .ref 78, .null, .null, .null, .null, .null])) : am_C) :: (L ++ [(.inr (.inr (2, [.ref 1, .ref (78 + 1), .ref (78 + 2), .ref (78 + 3), .ref (78 + 4), .ref (78 + 5), .int 0])) : am_C), .inl (0, 144, fun _ => 0), .inl (0, 144, fun _ => 0), .inl (2, 12, fun _ => 0), .inl (0, 12, fun _ => 0), .inl (0, 9, F)]))) : am_W mi_X11_init d Q kc ks 15 [some (.ref 0)] [] ((.inr (.inr (11, [.ref 1, .null, .null, .null, .null, .null, .null])) : am_C) :: L) := by
  refine am_go ok_X11_init [30] 61 ?_
  have hl : ((.inr (.inr (11, [.ref 1, .null, .null, .null, .null, .null, .null])) : am_C) :: L).length = 78 := by show L.length + 1 = 78; rw [hL]
  have hwf : wfL 78 ((.inr (.inr (11, [.ref 1, .null, .null, .null, .null, .null, .null])) : am_C) :: L) := ⟨(by show wfC 78 (.inr (.inr (11, [.ref 1, .null, .null, .null, .null, .null, .null])) : am_C); simp only [wfL, wfC, wfF, wfS, rfV_r, rfV_z, rfV_k, reduceCtorEq, false_implies, implies_true, and_true, true_and] <;> omega), hW⟩
  refine ⟨by omega, (show 7 ≤ ks by omega), (by rw [hl]; decide), (by rw [hl]; exact ⟨wfS_n (N := 78) (Nat.le_refl _) (by show wfS 78 [some (.ref 0)]; simp only [wfL, wfC, wfF, wfS, rfV_r, rfV_z, rfV_k, reduceCtorEq, false_implies, implies_true, and_true, true_and] <;> omega), wfF_n (N := 78) (Nat.le_refl _) (by show wfF 78 [.ref 0]; simp only [wfL, wfC, wfF, wfS, rfV_r, rfV_z, rfV_k, reduceCtorEq, false_implies, implies_true, and_true, true_and] <;> omega), wfL_n (Nat.le_refl _) hwf⟩), ?_⟩
  rw [hl]
  refine ⟨_, _, rfl, rfl, ?_⟩
  refine ⟨d - 1, 5, 321, _, by omega, by omega, (show 321 ≤ ks - 7 by omega), Nat.le_of_ble_eq_true rfl, i_judge (b := 78) (bk := 1) hl hwf (by omega) (by omega) (by omega), ?_⟩
  rintro _ _ ⟨rfl, F, rfl, hA, hB⟩
  refine ⟨Or.inr (ns_of (N := 79) (by rw [List.length_append, hl]; exact Nat.le_refl _) (by show wfS 79 [some (.ref 0)]; simp only [wfL, wfC, wfF, wfS, rfV_r, rfV_z, rfV_k, reduceCtorEq, false_implies, implies_true, and_true, true_and] <;> omega) (by show wfF 79 [.ref 78, .ref 0]; simp only [wfL, wfC, wfF, wfS, rfV_r, rfV_z, rfV_k, reduceCtorEq, false_implies, implies_true, and_true, true_and] <;> omega)), ?_⟩
  refine ⟨_, rfl, Nat.le_of_ble_eq_true rfl, trivial, ?_⟩
  exact K F hA hB
theorem i_s2 {Q : Option Value → am_H → Prop} {L : am_H} {d kc ks : Nat} (hL : L.length = 83) (hW : wfL 84 L) (hd : 5 ≤ d) (hkc : 6 ≤ kc) (hks : 2275 ≤ ks) (K : ∀ G F : Nat → Int32, (∀ i, i < 750 → G i = -1) → (∀ i, i < 5 → F i = nI i) → (∀ i, 5 ≤ i → F i = 0) → am_W mi_X11_init d Q (kc - 1 - 5) (ks - 8 - 2267) 45 [some (.ref 0)] [] ((.inr (.inr (11, [.ref 1, .ref 78, .ref 84, .null, .null, .null, .null])) : am_C) :: (L ++ [(.inr (.inr (6, [.ref 1, .ref (84 + 1), .ref (84 + 2), .int 0, .ref (84 + 3), .int 0, .ref (84 + 4), .ref (84 + 5)])) : am_C), .inl (0, 750, G), .inl (0, 750, fun _ => 0), .inl (2, 750, fun _ => 0), .inr (.inl (3, 8, fun _ => none)), .inl (0, 9, F)]))) : am_W mi_X11_init d Q kc ks 30 [some (.ref 0)] [] ((.inr (.inr (11, [.ref 1, .ref 78, .null, .null, .null, .null, .null])) : am_C) :: L) := by
  refine am_go ok_X11_init [45] 61 ?_
  have hl : ((.inr (.inr (11, [.ref 1, .ref 78, .null, .null, .null, .null, .null])) : am_C) :: L).length = 84 := by show L.length + 1 = 84; rw [hL]
  have hwf : wfL 84 ((.inr (.inr (11, [.ref 1, .ref 78, .null, .null, .null, .null, .null])) : am_C) :: L) := ⟨(by show wfC 84 (.inr (.inr (11, [.ref 1, .ref 78, .null, .null, .null, .null, .null])) : am_C); simp only [wfL, wfC, wfF, wfS, rfV_r, rfV_z, rfV_k, reduceCtorEq, false_implies, implies_true, and_true, true_and] <;> omega), hW⟩
  refine ⟨by omega, (show 8 ≤ ks by omega), (by rw [hl]; decide), (by rw [hl]; exact ⟨wfS_n (N := 84) (Nat.le_refl _) (by show wfS 84 [some (.ref 0)]; simp only [wfL, wfC, wfF, wfS, rfV_r, rfV_z, rfV_k, reduceCtorEq, false_implies, implies_true, and_true, true_and] <;> omega), wfF_n (N := 84) (Nat.le_refl _) (by show wfF 84 [.ref 0]; simp only [wfL, wfC, wfF, wfS, rfV_r, rfV_z, rfV_k, reduceCtorEq, false_implies, implies_true, and_true, true_and] <;> omega), wfL_n (Nat.le_refl _) hwf⟩), ?_⟩
  rw [hl]
  refine ⟨_, _, rfl, rfl, ?_⟩
  refine ⟨d - 1, 5, 2267, _, by omega, by omega, (show 2267 ≤ ks - 8 by omega), Nat.le_of_ble_eq_true rfl, i_reach (b := 84) (bk := 1) hl hwf (by omega) (by omega) (by omega), ?_⟩
  rintro _ _ ⟨rfl, G, F, rfl, hG, hA, hB⟩
  refine ⟨Or.inr (ns_of (N := 85) (by rw [List.length_append, hl]; exact Nat.le_refl _) (by show wfS 85 [some (.ref 0)]; simp only [wfL, wfC, wfF, wfS, rfV_r, rfV_z, rfV_k, reduceCtorEq, false_implies, implies_true, and_true, true_and] <;> omega) (by show wfF 85 [.ref 84, .ref 0]; simp only [wfL, wfC, wfF, wfS, rfV_r, rfV_z, rfV_k, reduceCtorEq, false_implies, implies_true, and_true, true_and] <;> omega)), ?_⟩
  refine ⟨_, rfl, Nat.le_of_ble_eq_true rfl, trivial, ?_⟩
  exact K G F hG hA hB
theorem i_s3 {Q : Option Value → am_H → Prop} {L : am_H} {d kc ks : Nat} (hL : L.length = 89) (hW : wfL 90 L) (hd : 5 ≤ d) (hkc : 1 ≤ kc) (hks : 6 ≤ ks) (K : am_W mi_X11_init d Q (kc - 1 - 0) (ks - 6 - 0) 64 [some (.ref 0)] [] ((.inr (.inr (11, [.ref 1, .ref 78, .ref 84, .ref 90, .null, .null, .null])) : am_C) :: (L ++ [.inr (.inr (9, [.ref 1, .ref 84, .int 0, .int 0, .int 0, .int 0]))]))) : am_W mi_X11_init d Q kc ks 45 [some (.ref 0)] [] ((.inr (.inr (11, [.ref 1, .ref 78, .ref 84, .null, .null, .null, .null])) : am_C) :: L) := by
  refine am_go ok_X11_init [64] 61 ?_
  have hl : ((.inr (.inr (11, [.ref 1, .ref 78, .ref 84, .null, .null, .null, .null])) : am_C) :: L).length = 90 := by show L.length + 1 = 90; rw [hL]
  have hwf : wfL 90 ((.inr (.inr (11, [.ref 1, .ref 78, .ref 84, .null, .null, .null, .null])) : am_C) :: L) := ⟨(by show wfC 90 (.inr (.inr (11, [.ref 1, .ref 78, .ref 84, .null, .null, .null, .null])) : am_C); simp only [wfL, wfC, wfF, wfS, rfV_r, rfV_z, rfV_k, reduceCtorEq, false_implies, implies_true, and_true, true_and] <;> omega), hW⟩
  refine ⟨by omega, (show 6 ≤ ks by omega), (by rw [hl]; decide), (by rw [hl]; exact ⟨wfS_n (N := 90) (Nat.le_refl _) (by show wfS 90 [some (.ref 0)]; simp only [wfL, wfC, wfF, wfS, rfV_r, rfV_z, rfV_k, reduceCtorEq, false_implies, implies_true, and_true, true_and] <;> omega), wfF_n (N := 90) (Nat.le_refl _) (by show wfF 90 [.ref 0]; simp only [wfL, wfC, wfF, wfS, rfV_r, rfV_z, rfV_k, reduceCtorEq, false_implies, implies_true, and_true, true_and] <;> omega), wfL_n (Nat.le_refl _) hwf⟩), ?_⟩
  rw [hl]
  refine ⟨_, _, rfl, rfl, ?_⟩
  refine ⟨_, _, rfl, rfl, ?_⟩
  refine ⟨d - 1, 0, 0, _, by omega, by omega, (show 0 ≤ ks - 6 by omega), Nat.le_of_ble_eq_true rfl, i_tac (b := 90) (bk := 1) (rk := 84) hl (by omega), ?_⟩
  rintro _ _ ⟨rfl, rfl⟩
  refine ⟨Or.inr (ns_of (N := 91) (by rw [List.length_append, hl]; exact Nat.le_refl _) (by show wfS 91 [some (.ref 0)]; simp only [wfL, wfC, wfF, wfS, rfV_r, rfV_z, rfV_k, reduceCtorEq, false_implies, implies_true, and_true, true_and] <;> omega) (by show wfF 91 [.ref 90, .ref 0]; simp only [wfL, wfC, wfF, wfS, rfV_r, rfV_z, rfV_k, reduceCtorEq, false_implies, implies_true, and_true, true_and] <;> omega)), ?_⟩
  refine ⟨_, rfl, Nat.le_of_ble_eq_true rfl, trivial, ?_⟩
  exact K
theorem i_s4 {Q : Option Value → am_H → Prop} {L : am_H} {d kc ks : Nat} (hL : L.length = 90) (hW : wfL 91 L) (hd : 5 ≤ d) (hkc : 4 ≤ kc) (hks : 38 ≤ ks) (K : am_W mi_X11_init d Q (kc - 1 - 3) (ks - 5 - 33) 79 [some (.ref 0)] [] ((.inr (.inr (11, [.ref 1, .ref 78, .ref 84, .ref 90, .ref 91, .null, .null])) : am_C) :: (L ++ ([.inr (.inr (7, [.ref 1, .int 0, .int 0, .ref (91 + 1), .int 0]))] ++ txL (91 + 1))))) : am_W mi_X11_init d Q kc ks 64 [some (.ref 0)] [] ((.inr (.inr (11, [.ref 1, .ref 78, .ref 84, .ref 90, .null, .null, .null])) : am_C) :: L) := by
  refine am_go ok_X11_init [79] 61 ?_
  have hl : ((.inr (.inr (11, [.ref 1, .ref 78, .ref 84, .ref 90, .null, .null, .null])) : am_C) :: L).length = 91 := by show L.length + 1 = 91; rw [hL]
  have hwf : wfL 91 ((.inr (.inr (11, [.ref 1, .ref 78, .ref 84, .ref 90, .null, .null, .null])) : am_C) :: L) := ⟨(by show wfC 91 (.inr (.inr (11, [.ref 1, .ref 78, .ref 84, .ref 90, .null, .null, .null])) : am_C); simp only [wfL, wfC, wfF, wfS, rfV_r, rfV_z, rfV_k, reduceCtorEq, false_implies, implies_true, and_true, true_and] <;> omega), hW⟩
  refine ⟨by omega, (show 5 ≤ ks by omega), (by rw [hl]; decide), (by rw [hl]; exact ⟨wfS_n (N := 91) (Nat.le_refl _) (by show wfS 91 [some (.ref 0)]; simp only [wfL, wfC, wfF, wfS, rfV_r, rfV_z, rfV_k, reduceCtorEq, false_implies, implies_true, and_true, true_and] <;> omega), wfF_n (N := 91) (Nat.le_refl _) (by show wfF 91 [.ref 0]; simp only [wfL, wfC, wfF, wfS, rfV_r, rfV_z, rfV_k, reduceCtorEq, false_implies, implies_true, and_true, true_and] <;> omega), wfL_n (Nat.le_refl _) hwf⟩), ?_⟩
  rw [hl]
  refine ⟨_, _, rfl, rfl, ?_⟩
  refine ⟨d - 1, 3, 33, _, by omega, by omega, (show 33 ≤ ks - 5 by omega), Nat.le_of_ble_eq_true rfl, i_reader (b := 91) (bk := 1) hl hwf (by omega) (by omega) (by omega), ?_⟩
  rintro _ _ ⟨rfl, rfl⟩
  refine ⟨Or.inr (ns_of (N := 92) (by rw [List.length_append, hl]; exact Nat.le_refl _) (by show wfS 92 [some (.ref 0)]; simp only [wfL, wfC, wfF, wfS, rfV_r, rfV_z, rfV_k, reduceCtorEq, false_implies, implies_true, and_true, true_and] <;> omega) (by show wfF 92 [.ref 91, .ref 0]; simp only [wfL, wfC, wfF, wfS, rfV_r, rfV_z, rfV_k, reduceCtorEq, false_implies, implies_true, and_true, true_and] <;> omega)), ?_⟩
  refine ⟨_, rfl, Nat.le_of_ble_eq_true rfl, trivial, ?_⟩
  exact K
