/-! the constructors of Reach, Tactician, RuleReader -/
theorem i_r_0 {h : am_H} {b bk d kc ks : Nat} (hb : h.length = b) (hw : wfL b h) (b1 : b + 100 < 100000) (hk : bk < b) (hkc : 1 ≤ kc) (hks : 750 ≤ ks) (K : am_W mi_X6_init d (fun r h' => r = none ∧ ∃ G F, h' = h ++ [(.inr (.inr (6, [.ref bk, .ref (b + 1), .ref (b + 2), .int 0, .ref (b + 3), .int 0, .ref (b + 4), .ref (b + 5)])) : am_C), .inl (0, 750, G), .inl (0, 750, fun _ => 0), .inl (2, 750, fun _ => 0), .inr (.inl (3, 8, fun _ => none)), .inl (0, 9, F)] ∧ (∀ i, i < 750 → G i = -1) ∧ (∀ i, i < 5 → F i = nI i) ∧ ∀ i, 5 ≤ i → F i = 0) (kc - 1) (ks - 750) 13 [some (.ref b), some (.ref bk)] [] (h ++ [(.inr (.inr (6, [.null, .ref (b + 1), .null, .int 0, .null, .int 0, .null, .null])) : am_C), .inl (0, 750, fun _ => 0)])) : am_W mi_X6_init d (fun r h' => r = none ∧ ∃ G F, h' = h ++ [(.inr (.inr (6, [.ref bk, .ref (b + 1), .ref (b + 2), .int 0, .ref (b + 3), .int 0, .ref (b + 4), .ref (b + 5)])) : am_C), .inl (0, 750, G), .inl (0, 750, fun _ => 0), .inl (2, 750, fun _ => 0), .inr (.inl (3, 8, fun _ => none)), .inl (0, 9, F)] ∧ (∀ i, i < 750 → G i = -1) ∧ (∀ i, i < 5 → F i = nI i) ∧ ∀ i, 5 ≤ i → F i = 0) kc ks 4 [some (.ref b), some (.ref bk)] [] (h ++ [(.inr (.inr (6, [.null, .null, .null, .int 0, .null, .int 0, .null, .null])) : am_C)]) := by
  refine am_go ok_X6_init [13] 64 ?_
  refine ⟨hkc, hks, by decide, by decide, (by rw [ap_l hb]; show b + 1 + 1 < 100000; omega), nr_ap hb hw (by show wfL (b + 1) [(.inr (.inr (6, [.null, .null, .null, .int 0, .null, .int 0, .null, .null])) : am_C)]; simp only [wfL, wfC, wfF, wfS, rfV_r, rfV_z, rfV_k, reduceCtorEq, false_implies, implies_true, and_true, true_and] <;> omega) (by show wfS (b + 1) [some (.ref b), some (.ref bk)]; simp only [wfL, wfC, wfF, wfS, rfV_r, rfV_z, rfV_k, reduceCtorEq, false_implies, implies_true, and_true, true_and] <;> omega) (by show wfF (b + 1) [.ref b]; simp only [wfL, wfC, wfF, wfS, rfV_r, rfV_z, rfV_k, reduceCtorEq, false_implies, implies_true, and_true, true_and] <;> omega), ?_⟩
  rw [List.append_assoc, ap_l hb]
  refine ⟨_, ap_n0 hb, Nat.le_of_ble_eq_true rfl, trivial, ?_⟩
  rw [ap_p0 hb]
  exact K
theorem i_r_1 {h : am_H} {b bk d kc ks : Nat} (hb : h.length = b) (hw : wfL b h) (b1 : b + 100 < 100000) (hk : bk < b) (hkc : 1 ≤ kc) (hks : 750 ≤ ks) (K : am_W mi_X6_init d (fun r h' => r = none ∧ ∃ G F, h' = h ++ [(.inr (.inr (6, [.ref bk, .ref (b + 1), .ref (b + 2), .int 0, .ref (b + 3), .int 0, .ref (b + 4), .ref (b + 5)])) : am_C), .inl (0, 750, G), .inl (0, 750, fun _ => 0), .inl (2, 750, fun _ => 0), .inr (.inl (3, 8, fun _ => none)), .inl (0, 9, F)] ∧ (∀ i, i < 750 → G i = -1) ∧ (∀ i, i < 5 → F i = nI i) ∧ ∀ i, 5 ≤ i → F i = 0) (kc - 1) (ks - 750) 27 [some (.ref b), some (.ref bk)] [] (h ++ [(.inr (.inr (6, [.null, .ref (b + 1), .ref (b + 2), .int 0, .null, .int 0, .null, .null])) : am_C), .inl (0, 750, fun _ => 0), .inl (0, 750, fun _ => 0)])) : am_W mi_X6_init d (fun r h' => r = none ∧ ∃ G F, h' = h ++ [(.inr (.inr (6, [.ref bk, .ref (b + 1), .ref (b + 2), .int 0, .ref (b + 3), .int 0, .ref (b + 4), .ref (b + 5)])) : am_C), .inl (0, 750, G), .inl (0, 750, fun _ => 0), .inl (2, 750, fun _ => 0), .inr (.inl (3, 8, fun _ => none)), .inl (0, 9, F)] ∧ (∀ i, i < 750 → G i = -1) ∧ (∀ i, i < 5 → F i = nI i) ∧ ∀ i, 5 ≤ i → F i = 0) kc ks 13 [some (.ref b), some (.ref bk)] [] (h ++ [(.inr (.inr (6, [.null, .ref (b + 1), .null, .int 0, .null, .int 0, .null, .null])) : am_C), .inl (0, 750, fun _ => 0)]) := by
  refine am_go ok_X6_init [27] 67 ?_
  refine ⟨hkc, hks, by decide, by decide, (by rw [ap_l hb]; show b + 2 + 1 < 100000; omega), nr_ap hb hw (by show wfL (b + 2) [(.inr (.inr (6, [.null, .ref (b + 1), .null, .int 0, .null, .int 0, .null, .null])) : am_C), .inl (0, 750, fun _ => 0)]; simp only [wfL, wfC, wfF, wfS, rfV_r, rfV_z, rfV_k, reduceCtorEq, false_implies, implies_true, and_true, true_and] <;> omega) (by show wfS (b + 2) [some (.ref b), some (.ref bk)]; simp only [wfL, wfC, wfF, wfS, rfV_r, rfV_z, rfV_k, reduceCtorEq, false_implies, implies_true, and_true, true_and] <;> omega) (by show wfF (b + 2) [.ref b]; simp only [wfL, wfC, wfF, wfS, rfV_r, rfV_z, rfV_k, reduceCtorEq, false_implies, implies_true, and_true, true_and] <;> omega), ?_⟩
  rw [List.append_assoc, ap_l hb]
  refine ⟨_, ap_n0 hb, Nat.le_of_ble_eq_true rfl, trivial, ?_⟩
  rw [ap_p0 hb]
  refine ⟨_, ap_n0 hb, Nat.le_of_ble_eq_true rfl, trivial, ?_⟩
  rw [ap_p0 hb]
  exact K
theorem i_r_2 {h : am_H} {b bk d kc ks : Nat} (hb : h.length = b) (hw : wfL b h) (b1 : b + 100 < 100000) (hk : bk < b) (hkc : 1 ≤ kc) (hks : 750 ≤ ks) (K : am_W mi_X6_init d (fun r h' => r = none ∧ ∃ G F, h' = h ++ [(.inr (.inr (6, [.ref bk, .ref (b + 1), .ref (b + 2), .int 0, .ref (b + 3), .int 0, .ref (b + 4), .ref (b + 5)])) : am_C), .inl (0, 750, G), .inl (0, 750, fun _ => 0), .inl (2, 750, fun _ => 0), .inr (.inl (3, 8, fun _ => none)), .inl (0, 9, F)] ∧ (∀ i, i < 750 → G i = -1) ∧ (∀ i, i < 5 → F i = nI i) ∧ ∀ i, 5 ≤ i → F i = 0) (kc - 1) (ks - 750) 41 [some (.ref b), some (.ref bk)] [] (h ++ [(.inr (.inr (6, [.null, .ref (b + 1), .ref (b + 2), .int 0, .ref (b + 3), .int 0, .null, .null])) : am_C), .inl (0, 750, fun _ => 0), .inl (0, 750, fun _ => 0), .inl (2, 750, fun _ => 0)])) : am_W mi_X6_init d (fun r h' => r = none ∧ ∃ G F, h' = h ++ [(.inr (.inr (6, [.ref bk, .ref (b + 1), .ref (b + 2), .int 0, .ref (b + 3), .int 0, .ref (b + 4), .ref (b + 5)])) : am_C), .inl (0, 750, G), .inl (0, 750, fun _ => 0), .inl (2, 750, fun _ => 0), .inr (.inl (3, 8, fun _ => none)), .inl (0, 9, F)] ∧ (∀ i, i < 750 → G i = -1) ∧ (∀ i, i < 5 → F i = nI i) ∧ ∀ i, 5 ≤ i → F i = 0) kc ks 27 [some (.ref b), some (.ref bk)] [] (h ++ [(.inr (.inr (6, [.null, .ref (b + 1), .ref (b + 2), .int 0, .null, .int 0, .null, .null])) : am_C), .inl (0, 750, fun _ => 0), .inl (0, 750, fun _ => 0)]) := by
  refine am_go ok_X6_init [41] 67 ?_
  refine ⟨hkc, hks, by decide, by decide, (by rw [ap_l hb]; show b + 3 + 1 < 100000; omega), nr_ap hb hw (by show wfL (b + 3) [(.inr (.inr (6, [.null, .ref (b + 1), .ref (b + 2), .int 0, .null, .int 0, .null, .null])) : am_C), .inl (0, 750, fun _ => 0), .inl (0, 750, fun _ => 0)]; simp only [wfL, wfC, wfF, wfS, rfV_r, rfV_z, rfV_k, reduceCtorEq, false_implies, implies_true, and_true, true_and] <;> omega) (by show wfS (b + 3) [some (.ref b), some (.ref bk)]; simp only [wfL, wfC, wfF, wfS, rfV_r, rfV_z, rfV_k, reduceCtorEq, false_implies, implies_true, and_true, true_and] <;> omega) (by show wfF (b + 3) [.ref b]; simp only [wfL, wfC, wfF, wfS, rfV_r, rfV_z, rfV_k, reduceCtorEq, false_implies, implies_true, and_true, true_and] <;> omega), ?_⟩
  rw [List.append_assoc, ap_l hb]
  refine ⟨_, ap_n0 hb, Nat.le_of_ble_eq_true rfl, trivial, ?_⟩
  rw [ap_p0 hb]
  refine ⟨_, ap_n0 hb, Nat.le_of_ble_eq_true rfl, ⟨rfl, rfl⟩, ?_⟩
  rw [ap_p0 hb]
  exact K
theorem i_r_3 {h : am_H} {b bk d kc ks : Nat} (hb : h.length = b) (hw : wfL b h) (b1 : b + 100 < 100000) (hk : bk < b) (hkc : 1 ≤ kc) (hks : 8 ≤ ks) (K : am_W mi_X6_init d (fun r h' => r = none ∧ ∃ G F, h' = h ++ [(.inr (.inr (6, [.ref bk, .ref (b + 1), .ref (b + 2), .int 0, .ref (b + 3), .int 0, .ref (b + 4), .ref (b + 5)])) : am_C), .inl (0, 750, G), .inl (0, 750, fun _ => 0), .inl (2, 750, fun _ => 0), .inr (.inl (3, 8, fun _ => none)), .inl (0, 9, F)] ∧ (∀ i, i < 750 → G i = -1) ∧ (∀ i, i < 5 → F i = nI i) ∧ ∀ i, 5 ≤ i → F i = 0) (kc - 1) (ks - 8) 50 [some (.ref b), some (.ref bk)] [] (h ++ [(.inr (.inr (6, [.null, .ref (b + 1), .ref (b + 2), .int 0, .ref (b + 3), .int 0, .ref (b + 4), .null])) : am_C), .inl (0, 750, fun _ => 0), .inl (0, 750, fun _ => 0), .inl (2, 750, fun _ => 0), .inr (.inl (3, 8, fun _ => none))])) : am_W mi_X6_init d (fun r h' => r = none ∧ ∃ G F, h' = h ++ [(.inr (.inr (6, [.ref bk, .ref (b + 1), .ref (b + 2), .int 0, .ref (b + 3), .int 0, .ref (b + 4), .ref (b + 5)])) : am_C), .inl (0, 750, G), .inl (0, 750, fun _ => 0), .inl (2, 750, fun _ => 0), .inr (.inl (3, 8, fun _ => none)), .inl (0, 9, F)] ∧ (∀ i, i < 750 → G i = -1) ∧ (∀ i, i < 5 → F i = nI i) ∧ ∀ i, 5 ≤ i → F i = 0) kc ks 41 [some (.ref b), some (.ref bk)] [] (h ++ [(.inr (.inr (6, [.null, .ref (b + 1), .ref (b + 2), .int 0, .ref (b + 3), .int 0, .null, .null])) : am_C), .inl (0, 750, fun _ => 0), .inl (0, 750, fun _ => 0), .inl (2, 750, fun _ => 0)]) := by
  refine am_go ok_X6_init [50] 64 ?_
  refine ⟨hkc, hks, by decide, by decide, (by rw [ap_l hb]; show b + 4 + 1 < 100000; omega), nr_ap hb hw (by show wfL (b + 4) [(.inr (.inr (6, [.null, .ref (b + 1), .ref (b + 2), .int 0, .ref (b + 3), .int 0, .null, .null])) : am_C), .inl (0, 750, fun _ => 0), .inl (0, 750, fun _ => 0), .inl (2, 750, fun _ => 0)]; simp only [wfL, wfC, wfF, wfS, rfV_r, rfV_z, rfV_k, reduceCtorEq, false_implies, implies_true, and_true, true_and] <;> omega) (by show wfS (b + 4) [some (.ref b), some (.ref bk)]; simp only [wfL, wfC, wfF, wfS, rfV_r, rfV_z, rfV_k, reduceCtorEq, false_implies, implies_true, and_true, true_and] <;> omega) (by show wfF (b + 4) [.ref b]; simp only [wfL, wfC, wfF, wfS, rfV_r, rfV_z, rfV_k, reduceCtorEq, false_implies, implies_true, and_true, true_and] <;> omega), ?_⟩
  rw [List.append_assoc, ap_l hb]
  refine ⟨_, ap_n0 hb, Nat.le_of_ble_eq_true rfl, trivial, ?_⟩
  rw [ap_p0 hb]
  exact K
theorem i_r_4 {h : am_H} {b bk d kc ks : Nat} (hb : h.length = b) (hw : wfL b h) (b1 : b + 100 < 100000) (hk : bk < b) (hd : 1 ≤ d) (hkc : 1 ≤ kc) (hks : 9 ≤ ks) : am_W mi_X6_init d (fun r h' => r = none ∧ ∃ G F, h' = h ++ [(.inr (.inr (6, [.ref bk, .ref (b + 1), .ref (b + 2), .int 0, .ref (b + 3), .int 0, .ref (b + 4), .ref (b + 5)])) : am_C), .inl (0, 750, G), .inl (0, 750, fun _ => 0), .inl (2, 750, fun _ => 0), .inr (.inl (3, 8, fun _ => none)), .inl (0, 9, F)] ∧ (∀ i, i < 750 → G i = -1) ∧ (∀ i, i < 5 → F i = nI i) ∧ ∀ i, 5 ≤ i → F i = 0) kc ks 50 [some (.ref b), some (.ref bk)] [] (h ++ [(.inr (.inr (6, [.null, .ref (b + 1), .ref (b + 2), .int 0, .ref (b + 3), .int 0, .ref (b + 4), .null])) : am_C), .inl (0, 750, fun _ => 0), .inl (0, 750, fun _ => 0), .inl (2, 750, fun _ => 0), .inr (.inl (3, 8, fun _ => none))]) := by
  refine am_go ok_X6_init [] 61 ?_
  have hl : (h ++ [(.inr (.inr (6, [.null, .ref (b + 1), .ref (b + 2), .int 0, .ref (b + 3), .int 0, .ref (b + 4), .null])) : am_C), .inl (0, 750, fun _ => 0), .inl (0, 750, fun _ => 0), .inl (2, 750, fun _ => 0), .inr (.inl (3, 8, fun _ => none))]).length = b + 5 := ap_l hb
  have hwf : wfL (b + 5) (h ++ [(.inr (.inr (6, [.null, .ref (b + 1), .ref (b + 2), .int 0, .ref (b + 3), .int 0, .ref (b + 4), .null])) : am_C), .inl (0, 750, fun _ => 0), .inl (0, 750, fun _ => 0), .inl (2, 750, fun _ => 0), .inr (.inl (3, 8, fun _ => none))]) := wfL_a (wfL_m (by omega) hw) (by show wfL (b + 5) [(.inr (.inr (6, [.null, .ref (b + 1), .ref (b + 2), .int 0, .ref (b + 3), .int 0, .ref (b + 4), .null])) : am_C), .inl (0, 750, fun _ => 0), .inl (0, 750, fun _ => 0), .inl (2, 750, fun _ => 0), .inr (.inl (3, 8, fun _ => none))]; simp only [wfL, wfC, wfF, wfS, rfV_r, rfV_z, rfV_k, reduceCtorEq, false_implies, implies_true, and_true, true_and] <;> omega)
  refine ⟨d - 1, 1, 9, _, by omega, hkc, hks, Nat.le_of_ble_eq_true rfl, i_vals hl hwf (by omega), ?_⟩
  rintro _ _ ⟨rfl, F, rfl, hA, hB⟩
  refine ⟨Or.inr (ns_of (N := b + 5) (by rw [hl]; exact Nat.le_refl _) (by show wfS (b + 5) [some (.ref b), some (.ref bk)]; simp only [wfL, wfC, wfF, wfS, rfV_r, rfV_z, rfV_k, reduceCtorEq, false_implies, implies_true, and_true, true_and] <;> omega) (by show wfF (b + 5) [.ref b]; simp only [wfL, wfC, wfF, wfS, rfV_r, rfV_z, rfV_k, reduceCtorEq, false_implies, implies_true, and_true, true_and] <;> omega)), ?_⟩
  rw [List.append_assoc]
  refine ⟨_, ap_n0 hb, Nat.le_of_ble_eq_true rfl, trivial, ?_⟩
  rw [ap_p0 hb]
  refine ⟨_, ap_n0 hb, Nat.le_of_ble_eq_true rfl, trivial, ?_⟩
  rw [ap_p0 hb]
  refine ⟨_, _, ap_n0 hb, rfl, ?_⟩
  refine ⟨d - 1, 0, 0, _, by omega, Nat.zero_le _, Nat.zero_le _, Nat.le_of_ble_eq_true rfl, j_fill (n := 750) (F := fun _ => 0) (ap_n (k := 1) hb) (by decide), ?_⟩
  rintro _ _ ⟨rfl, G, rfl, hG⟩
  refine ⟨Or.inl put_len, ?_⟩
  rw [ap_p (k := 1) hb]
  exact ⟨rfl, G, F, rfl, hG, hA, hB⟩
theorem i_reach {h : am_H} {b bk d : Nat} (hb : h.length = b) (hw : wfL b h) (b1 : b + 100 < 100000) (hk : bk < b) (hd : 2 ≤ d) : am_Met mi_X6_init d 5 2267 [.ref b, .ref bk] (h ++ [.inr (.inr (6, am_new 6))]) (fun r h' => r = none ∧ ∃ G F, h' = h ++ [(.inr (.inr (6, [.ref bk, .ref (b + 1), .ref (b + 2), .int 0, .ref (b + 3), .int 0, .ref (b + 4), .ref (b + 5)])) : am_C), .inl (0, 750, G), .inl (0, 750, fun _ => 0), .inl (2, 750, fun _ => 0), .inr (.inl (3, 8, fun _ => none)), .inl (0, 9, F)] ∧ (∀ i, i < 750 → G i = -1) ∧ (∀ i, i < 5 → F i = nI i) ∧ ∀ i, 5 ≤ i → F i = 0) := by
  refine am_Met.of rfl (Nat.le_of_ble_eq_true rfl) ?_
  refine am_go ok_X6_init [4] 62 ?_
  refine ⟨by omega, Nat.le_of_ble_eq_true rfl, ?_⟩
  exact i_r_0 hb hw b1 hk (by decide) (by decide) (i_r_1 hb hw b1 hk (by decide) (by decide) (i_r_2 hb hw b1 hk (by decide) (by decide) (i_r_3 hb hw b1 hk (by decide) (by decide) (i_r_4 hb hw b1 hk (by omega) (by decide) (by decide)))))
theorem i_tac {h : am_H} {b bk rk d : Nat} (hb : h.length = b) (hd : 1 ≤ d) : am_Met mi_X9_init d 0 0 [.ref b, .ref bk, .ref rk] (h ++ [.inr (.inr (9, am_new 9))]) (fun r h' => r = none ∧ h' = h ++ [.inr (.inr (9, [.ref bk, .ref rk, .int 0, .int 0, .int 0, .int 0]))]) := by
  refine am_Met.of rfl (Nat.le_of_ble_eq_true rfl) ?_
  refine am_go ok_X9_init [] 80 ?_
  refine ⟨by omega, Nat.le_of_ble_eq_true rfl, ?_⟩
  refine ⟨_, ap_n0 hb, Nat.le_of_ble_eq_true rfl, trivial, ?_⟩
  rw [ap_p0 hb]
  refine ⟨_, ap_n0 hb, Nat.le_of_ble_eq_true rfl, trivial, ?_⟩
  rw [ap_p0 hb]
  refine ⟨_, ap_n0 hb, Nat.le_of_ble_eq_true rfl, trivial, ?_⟩
  rw [ap_p0 hb]
  refine ⟨_, ap_n0 hb, Nat.le_of_ble_eq_true rfl, trivial, ?_⟩
  rw [ap_p0 hb]
  refine ⟨_, ap_n0 hb, Nat.le_of_ble_eq_true rfl, trivial, ?_⟩
  rw [ap_p0 hb]
  refine ⟨_, ap_n0 hb, Nat.le_of_ble_eq_true rfl, trivial, ?_⟩
  rw [ap_p0 hb]
  exact ⟨rfl, rfl⟩
