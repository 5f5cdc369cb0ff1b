/-! the class's constructor: the kinds -/
theorem vu_lt {f : Nat → Option Nat} {N k v : Nat} (h : ∀ j o, f j = some o → o < N) (hv : v < N) : ∀ j o, va_up f k (some v) j = some o → o < N := fun j o hj => by
  unfold va_up at hj
  by_cases z : j = k
  · rw [if_pos z] at hj; injection hj with e; omega
  · rw [if_neg z] at hj; exact h j o hj
theorem no_lt {N : Nat} : ∀ j o, (fun _ : Nat => (none : Option Nat)) j = some o → o < N := fun j o hj => absurd hj (by simp)
theorem i_q0 {Q : Option Value → am_H → Prop} {h : am_H} {d kc ks : Nat} (hb : h.length = 95) (hw : wfL 95 h) (hd : 5 ≤ d) (hkc : 1 ≤ kc) (K : am_W mi_X11_init d Q (kc - 1 - 0) (ks - 0 - 0) 94 [some (.ref 0)] [.ref 95, .ref 0] (h ++ [(.inr (.inl (4, 5, (va_up (fun _ => none) 0 (some 96)))) : am_C), .inr (.inr (3, []))])) : am_W mi_X11_init d Q kc ks 84 [some (.ref 0)] [.ref 95, .ref 0] (h ++ [(.inr (.inl (4, 5, (fun _ => none))) : am_C)]) := by
  refine am_go ok_X11_init [94] 60 ?_
  refine ⟨hkc, Nat.zero_le _, (by rw [ap_l hb]; show 95 + 1 + 1 < 100000; decide), nr_ap hb hw (by show wfL (95 + 1) [(.inr (.inl (4, 5, (fun _ => none))) : am_C)]; exact ⟨no_lt, trivial⟩) (by show wfS (95 + 1) [some (.ref 0)]; simp only [wfL, wfC, wfF, wfS, rfV_r, rfV_z, rfV_k, reduceCtorEq, false_implies, implies_true, and_true, true_and] <;> omega) (by show wfF (95 + 1) [.int 0, .ref 95, .ref 95, .ref 0]; simp only [wfL, wfC, wfF, wfS, rfV_r, rfV_z, rfV_k, reduceCtorEq, false_implies, implies_true, and_true, true_and] <;> omega), ?_⟩
  rw [List.append_assoc, ap_l hb]
  refine ⟨d - 1, 0, 0, _, by omega, Nat.zero_le _, Nat.zero_le _, Nat.le_of_ble_eq_true rfl, i_k3 (by omega), ?_⟩
  rintro _ _ ⟨rfl, rfl⟩
  refine ⟨Or.inl rfl, ?_⟩
  refine ⟨_, _, 0, 3, [], ap_n0 hb, ap_n (k := 1) hb, Or.inr ⟨rfl, by decide⟩, rfl, (show 0 < 5 by decide), Nat.le_of_ble_eq_true rfl, ?_⟩
  rw [ap_p0 hb]
  exact K
theorem i_q1 {Q : Option Value → am_H → Prop} {h : am_H} {d kc ks : Nat} (hb : h.length = 95) (hw : wfL 95 h) (hd : 5 ≤ d) (hkc : 1 ≤ kc) (K : am_W mi_X11_init d Q (kc - 1 - 0) (ks - 0 - 0) 104 [some (.ref 0)] [.ref 95, .ref 0] (h ++ [(.inr (.inl (4, 5, (va_up (va_up (fun _ => none) 0 (some 96)) 1 (some 97)))) : am_C), .inr (.inr (3, [])), .inr (.inr (5, []))])) : am_W mi_X11_init d Q kc ks 94 [some (.ref 0)] [.ref 95, .ref 0] (h ++ [(.inr (.inl (4, 5, (va_up (fun _ => none) 0 (some 96)))) : am_C), .inr (.inr (3, []))]) := by
  refine am_go ok_X11_init [104] 60 ?_
  refine ⟨hkc, Nat.zero_le _, (by rw [ap_l hb]; show 95 + 2 + 1 < 100000; decide), nr_ap hb hw (by show wfL (95 + 2) [(.inr (.inl (4, 5, (va_up (fun _ => none) 0 (some 96)))) : am_C), .inr (.inr (3, []))]; exact ⟨(vu_lt no_lt (by decide)), trivial, trivial⟩) (by show wfS (95 + 2) [some (.ref 0)]; simp only [wfL, wfC, wfF, wfS, rfV_r, rfV_z, rfV_k, reduceCtorEq, false_implies, implies_true, and_true, true_and] <;> omega) (by show wfF (95 + 2) [.int 1, .ref 95, .ref 95, .ref 0]; simp only [wfL, wfC, wfF, wfS, rfV_r, rfV_z, rfV_k, reduceCtorEq, false_implies, implies_true, and_true, true_and] <;> omega), ?_⟩
  rw [List.append_assoc, ap_l hb]
  refine ⟨d - 1, 0, 0, _, by omega, Nat.zero_le _, Nat.zero_le _, Nat.le_of_ble_eq_true rfl, i_k5 (by omega), ?_⟩
  rintro _ _ ⟨rfl, rfl⟩
  refine ⟨Or.inl rfl, ?_⟩
  refine ⟨_, _, 1, 5, [], ap_n0 hb, ap_n (k := 2) hb, Or.inr ⟨rfl, by decide⟩, rfl, (show 1 < 5 by decide), Nat.le_of_ble_eq_true rfl, ?_⟩
  rw [ap_p0 hb]
  exact K
theorem i_q2 {Q : Option Value → am_H → Prop} {h : am_H} {d kc ks : Nat} (hb : h.length = 95) (hw : wfL 95 h) (hd : 5 ≤ d) (hkc : 1 ≤ kc) (K : am_W mi_X11_init d Q (kc - 1 - 0) (ks - 0 - 0) 114 [some (.ref 0)] [.ref 95, .ref 0] (h ++ [(.inr (.inl (4, 5, (va_up (va_up (va_up (fun _ => none) 0 (some 96)) 1 (some 97)) 2 (some 98)))) : am_C), .inr (.inr (3, [])), .inr (.inr (5, [])), .inr (.inr (8, []))])) : am_W mi_X11_init d Q kc ks 104 [some (.ref 0)] [.ref 95, .ref 0] (h ++ [(.inr (.inl (4, 5, (va_up (va_up (fun _ => none) 0 (some 96)) 1 (some 97)))) : am_C), .inr (.inr (3, [])), .inr (.inr (5, []))]) := by
  refine am_go ok_X11_init [114] 60 ?_
  refine ⟨hkc, Nat.zero_le _, (by rw [ap_l hb]; show 95 + 3 + 1 < 100000; decide), nr_ap hb hw (by show wfL (95 + 3) [(.inr (.inl (4, 5, (va_up (va_up (fun _ => none) 0 (some 96)) 1 (some 97)))) : am_C), .inr (.inr (3, [])), .inr (.inr (5, []))]; exact ⟨(vu_lt (vu_lt no_lt (by decide)) (by decide)), trivial, trivial, trivial⟩) (by show wfS (95 + 3) [some (.ref 0)]; simp only [wfL, wfC, wfF, wfS, rfV_r, rfV_z, rfV_k, reduceCtorEq, false_implies, implies_true, and_true, true_and] <;> omega) (by show wfF (95 + 3) [.int 2, .ref 95, .ref 95, .ref 0]; simp only [wfL, wfC, wfF, wfS, rfV_r, rfV_z, rfV_k, reduceCtorEq, false_implies, implies_true, and_true, true_and] <;> omega), ?_⟩
  rw [List.append_assoc, ap_l hb]
  refine ⟨d - 1, 0, 0, _, by omega, Nat.zero_le _, Nat.zero_le _, Nat.le_of_ble_eq_true rfl, i_k8 (by omega), ?_⟩
  rintro _ _ ⟨rfl, rfl⟩
  refine ⟨Or.inl rfl, ?_⟩
  refine ⟨_, _, 2, 8, [], ap_n0 hb, ap_n (k := 3) hb, Or.inr ⟨rfl, by decide⟩, rfl, (show 2 < 5 by decide), Nat.le_of_ble_eq_true rfl, ?_⟩
  rw [ap_p0 hb]
  exact K
theorem i_q3 {Q : Option Value → am_H → Prop} {h : am_H} {d kc ks : Nat} (hb : h.length = 95) (hw : wfL 95 h) (hd : 5 ≤ d) (hkc : 1 ≤ kc) (K : am_W mi_X11_init d Q (kc - 1 - 0) (ks - 0 - 0) 124 [some (.ref 0)] [.ref 95, .ref 0] (h ++ [(.inr (.inl (4, 5, (va_up (va_up (va_up (va_up (fun _ => none) 0 (some 96)) 1 (some 97)) 2 (some 98)) 3 (some 99)))) : am_C), .inr (.inr (3, [])), .inr (.inr (5, [])), .inr (.inr (8, [])), .inr (.inr (1, []))])) : am_W mi_X11_init d Q kc ks 114 [some (.ref 0)] [.ref 95, .ref 0] (h ++ [(.inr (.inl (4, 5, (va_up (va_up (va_up (fun _ => none) 0 (some 96)) 1 (some 97)) 2 (some 98)))) : am_C), .inr (.inr (3, [])), .inr (.inr (5, [])), .inr (.inr (8, []))]) := by
  refine am_go ok_X11_init [124] 60 ?_
  refine ⟨hkc, Nat.zero_le _, (by rw [ap_l hb]; show 95 + 4 + 1 < 100000; decide), nr_ap hb hw (by show wfL (95 + 4) [(.inr (.inl (4, 5, (va_up (va_up (va_up (fun _ => none) 0 (some 96)) 1 (some 97)) 2 (some 98)))) : am_C), .inr (.inr (3, [])), .inr (.inr (5, [])), .inr (.inr (8, []))]; exact ⟨(vu_lt (vu_lt (vu_lt no_lt (by decide)) (by decide)) (by decide)), trivial, trivial, trivial, trivial⟩) (by show wfS (95 + 4) [some (.ref 0)]; simp only [wfL, wfC, wfF, wfS, rfV_r, rfV_z, rfV_k, reduceCtorEq, false_implies, implies_true, and_true, true_and] <;> omega) (by show wfF (95 + 4) [.int 3, .ref 95, .ref 95, .ref 0]; simp only [wfL, wfC, wfF, wfS, rfV_r, rfV_z, rfV_k, reduceCtorEq, false_implies, implies_true, and_true, true_and] <;> omega), ?_⟩
  rw [List.append_assoc, ap_l hb]
  refine ⟨d - 1, 0, 0, _, by omega, Nat.zero_le _, Nat.zero_le _, Nat.le_of_ble_eq_true rfl, i_k1 (by omega), ?_⟩
  rintro _ _ ⟨rfl, rfl⟩
  refine ⟨Or.inl rfl, ?_⟩
  refine ⟨_, _, 3, 1, [], ap_n0 hb, ap_n (k := 4) hb, Or.inr ⟨rfl, by decide⟩, rfl, (show 3 < 5 by decide), Nat.le_of_ble_eq_true rfl, ?_⟩
  rw [ap_p0 hb]
  exact K
theorem i_q4 {Q : Option Value → am_H → Prop} {h : am_H} {d kc ks : Nat} (hb : h.length = 95) (hw : wfL 95 h) (hd : 5 ≤ d) (hkc : 1 ≤ kc) (K : am_W mi_X11_init d Q (kc - 1 - 0) (ks - 0 - 0) 134 [some (.ref 0)] [.ref 95, .ref 0] (h ++ [(.inr (.inl (4, 5, (va_up (va_up (va_up (va_up (va_up (fun _ => none) 0 (some 96)) 1 (some 97)) 2 (some 98)) 3 (some 99)) 4 (some 100)))) : am_C), .inr (.inr (3, [])), .inr (.inr (5, [])), .inr (.inr (8, [])), .inr (.inr (1, [])), .inr (.inr (4, []))])) : am_W mi_X11_init d Q kc ks 124 [some (.ref 0)] [.ref 95, .ref 0] (h ++ [(.inr (.inl (4, 5, (va_up (va_up (va_up (va_up (fun _ => none) 0 (some 96)) 1 (some 97)) 2 (some 98)) 3 (some 99)))) : am_C), .inr (.inr (3, [])), .inr (.inr (5, [])), .inr (.inr (8, [])), .inr (.inr (1, []))]) := by
  refine am_go ok_X11_init [134] 60 ?_
  refine ⟨hkc, Nat.zero_le _, (by rw [ap_l hb]; show 95 + 5 + 1 < 100000; decide), nr_ap hb hw (by show wfL (95 + 5) [(.inr (.inl (4, 5, (va_up (va_up (va_up (va_up (fun _ => none) 0 (some 96)) 1 (some 97)) 2 (some 98)) 3 (some 99)))) : am_C), .inr (.inr (3, [])), .inr (.inr (5, [])), .inr (.inr (8, [])), .inr (.inr (1, []))]; exact ⟨(vu_lt (vu_lt (vu_lt (vu_lt no_lt (by decide)) (by decide)) (by decide)) (by decide)), trivial, trivial, trivial, trivial, trivial⟩) (by show wfS (95 + 5) [some (.ref 0)]; simp only [wfL, wfC, wfF, wfS, rfV_r, rfV_z, rfV_k, reduceCtorEq, false_implies, implies_true, and_true, true_and] <;> omega) (by show wfF (95 + 5) [.int 4, .ref 95, .ref 95, .ref 0]; simp only [wfL, wfC, wfF, wfS, rfV_r, rfV_z, rfV_k, reduceCtorEq, false_implies, implies_true, and_true, true_and] <;> omega), ?_⟩
  rw [List.append_assoc, ap_l hb]
  refine ⟨d - 1, 0, 0, _, by omega, Nat.zero_le _, Nat.zero_le _, Nat.le_of_ble_eq_true rfl, i_k4 (by omega), ?_⟩
  rintro _ _ ⟨rfl, rfl⟩
  refine ⟨Or.inl rfl, ?_⟩
  refine ⟨_, _, 4, 4, [], ap_n0 hb, ap_n (k := 5) hb, Or.inr ⟨rfl, by decide⟩, rfl, (show 4 < 5 by decide), Nat.le_of_ble_eq_true rfl, ?_⟩
  rw [ap_p0 hb]
  exact K
