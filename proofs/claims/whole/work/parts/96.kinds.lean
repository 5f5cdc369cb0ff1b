/-! the class's constructor: the kinds -/
theorem vu_lt {f : Nat → Option Nat} {N k v : Nat} (h : ∀ j o, f j = some o → o < N) (hv : v < N) : ∀ j o, va_up f k (some v) j = some o → o < N := fun j o hj => by
  unfold va_up at hj
  by_cases z : j = k
  · rw [if_pos z] at hj; injection hj with e; omega
  · rw [if_neg z] at hj; exact h j o hj
theorem no_lt {N : Nat} : ∀ j o, (fun _ : Nat => (none : Option Nat)) j = some o → o < N := fun j o hj => absurd hj (by simp)
theorem i_q0 {Q : Option Value → am_H → Prop} {h : am_H} {d kc ks : Nat} (hb : h.length = 96) (hw : wfL 96 h) (hd : 5 ≤ d) (hkc : 1 ≤ kc) (K : am_W mi_X11_init d Q (kc - 1 - 0) (ks - 0 - 0) 90 [some (.ref 0)] [.ref 96, .ref 0] (h ++ [(.inr (.inl (4, 5, (va_up (fun _ => none) 0 (some 97)))) : am_C), .inr (.inr (3, []))])) : am_W mi_X11_init d Q kc ks 80 [some (.ref 0)] [.ref 96, .ref 0] (h ++ [(.inr (.inl (4, 5, (fun _ => none))) : am_C)]) := by
  refine am_go ok_X11_init [90] 60 ?_
  refine ⟨hkc, Nat.zero_le _, (by rw [ap_l hb]; show 96 + 1 + 1 < 100000; decide), nr_ap hb hw (by show wfL (96 + 1) [(.inr (.inl (4, 5, (fun _ => none))) : am_C)]; exact ⟨no_lt, trivial⟩) (by show wfS (96 + 1) [some (.ref 0)]; simp only [wfL, wfC, wfF, wfS, rfV_r, rfV_z, rfV_k, reduceCtorEq, false_implies, implies_true, and_true, true_and] <;> omega) (by show wfF (96 + 1) [.int 0, .ref 96, .ref 96, .ref 0]; simp only [wfL, wfC, wfF, wfS, rfV_r, rfV_z, rfV_k, reduceCtorEq, false_implies, implies_true, and_true, true_and] <;> omega), ?_⟩
  rw [List.append_assoc, ap_l hb]
  refine ⟨d - 1, 0, 0, _, by omega, Nat.zero_le _, Nat.zero_le _, Nat.le_of_ble_eq_true rfl, i_k3 (by omega), ?_⟩
  rintro _ _ ⟨rfl, rfl⟩
  refine ⟨Or.inl rfl, ?_⟩
  refine ⟨_, _, 0, 3, [], ap_n0 hb, ap_n (k := 1) hb, Or.inr ⟨rfl, by decide⟩, rfl, (show 0 < 5 by decide), Nat.le_of_ble_eq_true rfl, ?_⟩
  rw [ap_p0 hb]
  exact K
theorem i_q1 {Q : Option Value → am_H → Prop} {h : am_H} {d kc ks : Nat} (hb : h.length = 96) (hw : wfL 96 h) (hd : 5 ≤ d) (hkc : 1 ≤ kc) (K : am_W mi_X11_init d Q (kc - 1 - 0) (ks - 0 - 0) 100 [some (.ref 0)] [.ref 96, .ref 0] (h ++ [(.inr (.inl (4, 5, (va_up (va_up (fun _ => none) 0 (some 97)) 1 (some 98)))) : am_C), .inr (.inr (3, [])), .inr (.inr (5, []))])) : am_W mi_X11_init d Q kc ks 90 [some (.ref 0)] [.ref 96, .ref 0] (h ++ [(.inr (.inl (4, 5, (va_up (fun _ => none) 0 (some 97)))) : am_C), .inr (.inr (3, []))]) := by
  refine am_go ok_X11_init [100] 60 ?_
  refine ⟨hkc, Nat.zero_le _, (by rw [ap_l hb]; show 96 + 2 + 1 < 100000; decide), nr_ap hb hw (by show wfL (96 + 2) [(.inr (.inl (4, 5, (va_up (fun _ => none) 0 (some 97)))) : am_C), .inr (.inr (3, []))]; exact ⟨(vu_lt no_lt (by decide)), trivial, trivial⟩) (by show wfS (96 + 2) [some (.ref 0)]; simp only [wfL, wfC, wfF, wfS, rfV_r, rfV_z, rfV_k, reduceCtorEq, false_implies, implies_true, and_true, true_and] <;> omega) (by show wfF (96 + 2) [.int 1, .ref 96, .ref 96, .ref 0]; simp only [wfL, wfC, wfF, wfS, rfV_r, rfV_z, rfV_k, reduceCtorEq, false_implies, implies_true, and_true, true_and] <;> omega), ?_⟩
  rw [List.append_assoc, ap_l hb]
  refine ⟨d - 1, 0, 0, _, by omega, Nat.zero_le _, Nat.zero_le _, Nat.le_of_ble_eq_true rfl, i_k5 (by omega), ?_⟩
  rintro _ _ ⟨rfl, rfl⟩
  refine ⟨Or.inl rfl, ?_⟩
  refine ⟨_, _, 1, 5, [], ap_n0 hb, ap_n (k := 2) hb, Or.inr ⟨rfl, by decide⟩, rfl, (show 1 < 5 by decide), Nat.le_of_ble_eq_true rfl, ?_⟩
  rw [ap_p0 hb]
  exact K
theorem i_q2 {Q : Option Value → am_H → Prop} {h : am_H} {d kc ks : Nat} (hb : h.length = 96) (hw : wfL 96 h) (hd : 5 ≤ d) (hkc : 1 ≤ kc) (K : am_W mi_X11_init d Q (kc - 1 - 0) (ks - 0 - 0) 110 [some (.ref 0)] [.ref 96, .ref 0] (h ++ [(.inr (.inl (4, 5, (va_up (va_up (va_up (fun _ => none) 0 (some 97)) 1 (some 98)) 2 (some 99)))) : am_C), .inr (.inr (3, [])), .inr (.inr (5, [])), .inr (.inr (8, []))])) : am_W mi_X11_init d Q kc ks 100 [some (.ref 0)] [.ref 96, .ref 0] (h ++ [(.inr (.inl (4, 5, (va_up (va_up (fun _ => none) 0 (some 97)) 1 (some 98)))) : am_C), .inr (.inr (3, [])), .inr (.inr (5, []))]) := by
  refine am_go ok_X11_init [110] 60 ?_
  refine ⟨hkc, Nat.zero_le _, (by rw [ap_l hb]; show 96 + 3 + 1 < 100000; decide), nr_ap hb hw (by show wfL (96 + 3) [(.inr (.inl (4, 5, (va_up (va_up (fun _ => none) 0 (some 97)) 1 (some 98)))) : am_C), .inr (.inr (3, [])), .inr (.inr (5, []))]; exact ⟨(vu_lt (vu_lt no_lt (by decide)) (by decide)), trivial, trivial, trivial⟩) (by show wfS (96 + 3) [some (.ref 0)]; simp only [wfL, wfC, wfF, wfS, rfV_r, rfV_z, rfV_k, reduceCtorEq, false_implies, implies_true, and_true, true_and] <;> omega) (by show wfF (96 + 3) [.int 2, .ref 96, .ref 96, .ref 0]; simp only [wfL, wfC, wfF, wfS, rfV_r, rfV_z, rfV_k, reduceCtorEq, false_implies, implies_true, and_true, true_and] <;> omega), ?_⟩
  rw [List.append_assoc, ap_l hb]
  refine ⟨d - 1, 0, 0, _, by omega, Nat.zero_le _, Nat.zero_le _, Nat.le_of_ble_eq_true rfl, i_k8 (by omega), ?_⟩
  rintro _ _ ⟨rfl, rfl⟩
  refine ⟨Or.inl rfl, ?_⟩
  refine ⟨_, _, 2, 8, [], ap_n0 hb, ap_n (k := 3) hb, Or.inr ⟨rfl, by decide⟩, rfl, (show 2 < 5 by decide), Nat.le_of_ble_eq_true rfl, ?_⟩
  rw [ap_p0 hb]
  exact K
theorem i_q3 {Q : Option Value → am_H → Prop} {h : am_H} {d kc ks : Nat} (hb : h.length = 96) (hw : wfL 96 h) (hd : 5 ≤ d) (hkc : 1 ≤ kc) (K : am_W mi_X11_init d Q (kc - 1 - 0) (ks - 0 - 0) 120 [some (.ref 0)] [.ref 96, .ref 0] (h ++ [(.inr (.inl (4, 5, (va_up (va_up (va_up (va_up (fun _ => none) 0 (some 97)) 1 (some 98)) 2 (some 99)) 3 (some 100)))) : am_C), .inr (.inr (3, [])), .inr (.inr (5, [])), .inr (.inr (8, [])), .inr (.inr (1, []))])) : am_W mi_X11_init d Q kc ks 110 [some (.ref 0)] [.ref 96, .ref 0] (h ++ [(.inr (.inl (4, 5, (va_up (va_up (va_up (fun _ => none) 0 (some 97)) 1 (some 98)) 2 (some 99)))) : am_C), .inr (.inr (3, [])), .inr (.inr (5, [])), .inr (.inr (8, []))]) := by
  refine am_go ok_X11_init [120] 60 ?_
  refine ⟨hkc, Nat.zero_le _, (by rw [ap_l hb]; show 96 + 4 + 1 < 100000; decide), nr_ap hb hw (by show wfL (96 + 4) [(.inr (.inl (4, 5, (va_up (va_up (va_up (fun _ => none) 0 (some 97)) 1 (some 98)) 2 (some 99)))) : am_C), .inr (.inr (3, [])), .inr (.inr (5, [])), .inr (.inr (8, []))]; exact ⟨(vu_lt (vu_lt (vu_lt no_lt (by decide)) (by decide)) (by decide)), trivial, trivial, trivial, trivial⟩) (by show wfS (96 + 4) [some (.ref 0)]; simp only [wfL, wfC, wfF, wfS, rfV_r, rfV_z, rfV_k, reduceCtorEq, false_implies, implies_true, and_true, true_and] <;> omega) (by show wfF (96 + 4) [.int 3, .ref 96, .ref 96, .ref 0]; simp only [wfL, wfC, wfF, wfS, rfV_r, rfV_z, rfV_k, reduceCtorEq, false_implies, implies_true, and_true, true_and] <;> omega), ?_⟩
  rw [List.append_assoc, ap_l hb]
  refine ⟨d - 1, 0, 0, _, by omega, Nat.zero_le _, Nat.zero_le _, Nat.le_of_ble_eq_true rfl, i_k1 (by omega), ?_⟩
  rintro _ _ ⟨rfl, rfl⟩
  refine ⟨Or.inl rfl, ?_⟩
  refine ⟨_, _, 3, 1, [], ap_n0 hb, ap_n (k := 4) hb, Or.inr ⟨rfl, by decide⟩, rfl, (show 3 < 5 by decide), Nat.le_of_ble_eq_true rfl, ?_⟩
  rw [ap_p0 hb]
  exact K
theorem i_q4 {Q : Option Value → am_H → Prop} {h : am_H} {d kc ks : Nat} (hb : h.length = 96) (hw : wfL 96 h) (hd : 5 ≤ d) (hkc : 1 ≤ kc) (K : am_W mi_X11_init d Q (kc - 1 - 0) (ks - 0 - 0) 130 [some (.ref 0)] [.ref 96, .ref 0] (h ++ [(.inr (.inl (4, 5, (va_up (va_up (va_up (va_up (va_up (fun _ => none) 0 (some 97)) 1 (some 98)) 2 (some 99)) 3 (some 100)) 4 (some 101)))) : am_C), .inr (.inr (3, [])), .inr (.inr (5, [])), .inr (.inr (8, [])), .inr (.inr (1, [])), .inr (.inr (4, []))])) : am_W mi_X11_init d Q kc ks 120 [some (.ref 0)] [.ref 96, .ref 0] (h ++ [(.inr (.inl (4, 5, (va_up (va_up (va_up (va_up (fun _ => none) 0 (some 97)) 1 (some 98)) 2 (some 99)) 3 (some 100)))) : am_C), .inr (.inr (3, [])), .inr (.inr (5, [])), .inr (.inr (8, [])), .inr (.inr (1, []))]) := by
  refine am_go ok_X11_init [130] 60 ?_
  refine ⟨hkc, Nat.zero_le _, (by rw [ap_l hb]; show 96 + 5 + 1 < 100000; decide), nr_ap hb hw (by show wfL (96 + 5) [(.inr (.inl (4, 5, (va_up (va_up (va_up (va_up (fun _ => none) 0 (some 97)) 1 (some 98)) 2 (some 99)) 3 (some 100)))) : am_C), .inr (.inr (3, [])), .inr (.inr (5, [])), .inr (.inr (8, [])), .inr (.inr (1, []))]; exact ⟨(vu_lt (vu_lt (vu_lt (vu_lt no_lt (by decide)) (by decide)) (by decide)) (by decide)), trivial, trivial, trivial, trivial, trivial⟩) (by show wfS (96 + 5) [some (.ref 0)]; simp only [wfL, wfC, wfF, wfS, rfV_r, rfV_z, rfV_k, reduceCtorEq, false_implies, implies_true, and_true, true_and] <;> omega) (by show wfF (96 + 5) [.int 4, .ref 96, .ref 96, .ref 0]; simp only [wfL, wfC, wfF, wfS, rfV_r, rfV_z, rfV_k, reduceCtorEq, false_implies, implies_true, and_true, true_and] <;> omega), ?_⟩
  rw [List.append_assoc, ap_l hb]
  refine ⟨d - 1, 0, 0, _, by omega, Nat.zero_le _, Nat.zero_le _, Nat.le_of_ble_eq_true rfl, i_k4 (by omega), ?_⟩
  rintro _ _ ⟨rfl, rfl⟩
  refine ⟨Or.inl rfl, ?_⟩
  refine ⟨_, _, 4, 4, [], ap_n0 hb, ap_n (k := 5) hb, Or.inr ⟨rfl, by decide⟩, rfl, (show 4 < 5 by decide), Nat.le_of_ble_eq_true rfl, ?_⟩
  rw [ap_p0 hb]
  exact K
