/-! THE REFERENCE's HEAP: 'sg a b' is what stands in the cell a at b (its int fields, its rows) -/
abbrev sg_T : Type := Nat → Nat → Int32
def sg_u (sg : sg_T) (i j : Nat) (x : Int32) : sg_T := fun a => if a = i then upd (sg i) j x else sg a
theorem sg_s {sg : sg_T} {i j : Nat} {x : Int32} : sg_u sg i j x i j = x := by simp [sg_u, upd]
theorem sg_j {sg : sg_T} {i j b : Nat} {x : Int32} (h : b ≠ j) : sg_u sg i j x i b = sg i b := by simp [sg_u, upd, h]
theorem sg_i {sg : sg_T} {i j a : Nat} {x : Int32} (h : a ≠ i) : sg_u sg i j x a = sg a := by simp [sg_u, h]
theorem sg_ii {sg : sg_T} {i j : Nat} {x : Int32} : sg_u sg i j x i = upd (sg i) j x := by simp [sg_u]
def hm (sg : sg_T) : am_H := [.inr (.inr (12, [.ref 1, .ref 2, .int (sg 0 2), .int (sg 0 3), .int (sg 0 4), .ref 3, .ref 4, .ref 5, .ref 6, .ref 7, .int (sg 0 10), .int (sg 0 11), .int (sg 0 12), .int (sg 0 13), .ref 8])), .inl (0, 3228, sg 1), .inl (0, 3228, sg 2), .inl (0, 750, sg 3), .inl (0, 750, sg 4), .inl (0, 4, sg 5), .inl (0, 20, sg 6), .inl (0, 6, sg 7), .inl (0, 750, sg 8)]
theorem hm_a1 {sg : sg_T} {j : Nat} {x : Int32} : am_put (hm sg) 1 (.inl (0, 3228, upd (sg 1) j x)) = hm (sg_u sg 1 j x) := rfl
theorem hm_a2 {sg : sg_T} {j : Nat} {x : Int32} : am_put (hm sg) 2 (.inl (0, 3228, upd (sg 2) j x)) = hm (sg_u sg 2 j x) := rfl
theorem hm_a3 {sg : sg_T} {j : Nat} {x : Int32} : am_put (hm sg) 3 (.inl (0, 750, upd (sg 3) j x)) = hm (sg_u sg 3 j x) := rfl
theorem hm_a4 {sg : sg_T} {j : Nat} {x : Int32} : am_put (hm sg) 4 (.inl (0, 750, upd (sg 4) j x)) = hm (sg_u sg 4 j x) := rfl
theorem hm_a5 {sg : sg_T} {j : Nat} {x : Int32} : am_put (hm sg) 5 (.inl (0, 4, upd (sg 5) j x)) = hm (sg_u sg 5 j x) := rfl
theorem hm_a6 {sg : sg_T} {j : Nat} {x : Int32} : am_put (hm sg) 6 (.inl (0, 20, upd (sg 6) j x)) = hm (sg_u sg 6 j x) := rfl
theorem hm_a7 {sg : sg_T} {j : Nat} {x : Int32} : am_put (hm sg) 7 (.inl (0, 6, upd (sg 7) j x)) = hm (sg_u sg 7 j x) := rfl
theorem hm_a8 {sg : sg_T} {j : Nat} {x : Int32} : am_put (hm sg) 8 (.inl (0, 750, upd (sg 8) j x)) = hm (sg_u sg 8 j x) := rfl
theorem hm_f0_2 {sg : sg_T} {x : Int32} : am_put (hm sg) 0 (.inr (.inr (12, am_put [.ref 1, .ref 2, .int (sg 0 2), .int (sg 0 3), .int (sg 0 4), .ref 3, .ref 4, .ref 5, .ref 6, .ref 7, .int (sg 0 10), .int (sg 0 11), .int (sg 0 12), .int (sg 0 13), .ref 8] 2 (.int x)))) = hm (sg_u sg 0 2 x) := rfl
theorem hm_f0_3 {sg : sg_T} {x : Int32} : am_put (hm sg) 0 (.inr (.inr (12, am_put [.ref 1, .ref 2, .int (sg 0 2), .int (sg 0 3), .int (sg 0 4), .ref 3, .ref 4, .ref 5, .ref 6, .ref 7, .int (sg 0 10), .int (sg 0 11), .int (sg 0 12), .int (sg 0 13), .ref 8] 3 (.int x)))) = hm (sg_u sg 0 3 x) := rfl
theorem hm_f0_4 {sg : sg_T} {x : Int32} : am_put (hm sg) 0 (.inr (.inr (12, am_put [.ref 1, .ref 2, .int (sg 0 2), .int (sg 0 3), .int (sg 0 4), .ref 3, .ref 4, .ref 5, .ref 6, .ref 7, .int (sg 0 10), .int (sg 0 11), .int (sg 0 12), .int (sg 0 13), .ref 8] 4 (.int x)))) = hm (sg_u sg 0 4 x) := rfl
theorem hm_f0_10 {sg : sg_T} {x : Int32} : am_put (hm sg) 0 (.inr (.inr (12, am_put [.ref 1, .ref 2, .int (sg 0 2), .int (sg 0 3), .int (sg 0 4), .ref 3, .ref 4, .ref 5, .ref 6, .ref 7, .int (sg 0 10), .int (sg 0 11), .int (sg 0 12), .int (sg 0 13), .ref 8] 10 (.int x)))) = hm (sg_u sg 0 10 x) := rfl
theorem hm_f0_11 {sg : sg_T} {x : Int32} : am_put (hm sg) 0 (.inr (.inr (12, am_put [.ref 1, .ref 2, .int (sg 0 2), .int (sg 0 3), .int (sg 0 4), .ref 3, .ref 4, .ref 5, .ref 6, .ref 7, .int (sg 0 10), .int (sg 0 11), .int (sg 0 12), .int (sg 0 13), .ref 8] 11 (.int x)))) = hm (sg_u sg 0 11 x) := rfl
theorem hm_f0_12 {sg : sg_T} {x : Int32} : am_put (hm sg) 0 (.inr (.inr (12, am_put [.ref 1, .ref 2, .int (sg 0 2), .int (sg 0 3), .int (sg 0 4), .ref 3, .ref 4, .ref 5, .ref 6, .ref 7, .int (sg 0 10), .int (sg 0 11), .int (sg 0 12), .int (sg 0 13), .ref 8] 12 (.int x)))) = hm (sg_u sg 0 12 x) := rfl
theorem hm_f0_13 {sg : sg_T} {x : Int32} : am_put (hm sg) 0 (.inr (.inr (12, am_put [.ref 1, .ref 2, .int (sg 0 2), .int (sg 0 3), .int (sg 0 4), .ref 3, .ref 4, .ref 5, .ref 6, .ref 7, .int (sg 0 10), .int (sg 0 11), .int (sg 0 12), .int (sg 0 13), .ref 8] 13 (.int x)))) = hm (sg_u sg 0 13 x) := rfl
/-! booleans as ints -/
def bI : Bool → Int32
  | true => 1
  | false => 0
theorem bI_nar (b : Bool) : narrow .boolean (.int (bI b)) = .int (bI b) := by cases b <;> rfl
theorem bI_fit (b : Bool) : narrow .boolean (.int (bI b)) = .int (bI b) ∧ fits .boolean (.int (bI b)) = true := by cases b <;> exact ⟨rfl, rfl⟩
theorem bI_0 {b : Bool} : bI b = 0 ↔ b = false := by cases b <;> decide
theorem bI_1 {b : Bool} : bI b = 1 ↔ b = true := by cases b <;> decide
theorem bI_f {P : Prop} [Decidable P] (h : bI (decide P) = 0) : ¬ P := of_decide_eq_false (bI_0.mp h)
theorem bI_t {P : Prop} [Decidable P] (h : ¬ bI (decide P) = 0) : P := by
  by_cases hP : P
  · exact hP
  · exact absurd (bI_0.mpr (decide_eq_false hP)) h
theorem bI_dt {P : Prop} [Decidable P] (h : P) : bI (decide P) = 1 := bI_1.mpr (decide_eq_true h)
theorem bI_df {P : Prop} [Decidable P] (h : ¬ P) : bI (decide P) = 0 := bI_0.mpr (decide_eq_false h)
theorem i_nlt {x y : Int32} (h : ¬ x < y) : y ≤ x := Int32.not_lt.mp h
theorem i_nle {x y : Int32} (h : ¬ x ≤ y) : y < x := Int32.not_le.mp h
theorem i_ltn {x y : Int32} (h : x < y) : ¬ y ≤ x := Int32.not_le.mpr h
theorem i_len {x y : Int32} (h : x ≤ y) : ¬ y < x := Int32.not_lt.mpr h
theorem m_in {h : am_H} (d : Nat) (v lo hi : Int32) : am_Met mi_X12_in d 0 0 [.int v, .int lo, .int hi] h (fun r h' => r = some (.int (bI (decide (lo ≤ v ∧ v ≤ hi)))) ∧ h' = h) := by
  refine am_Met.of rfl (Nat.le_of_ble_eq_true rfl) ?_
  refine am_go ok_X12_in [] 68 ?_
  refine ⟨fun c2 => ?_, fun c2 => ?_⟩
  · refine ⟨rfl, ?_⟩
    rw [bI_df (fun z => i_ltn c2 z.1)]
    exact ⟨rfl, rfl⟩
  · refine ⟨fun c7 => ?_, fun c7 => ?_⟩
    · refine ⟨rfl, ?_⟩
      rw [bI_df (fun z => i_ltn c7 z.2)]
      exact ⟨rfl, rfl⟩
    · refine ⟨rfl, ?_⟩
      rw [bI_dt ⟨i_nlt c2, i_nlt c7⟩]
      exact ⟨rfl, rfl⟩
theorem m_isDay {h : am_H} {d : Nat} (hd : 1 ≤ d) (v : Int32) : am_Met mi_X12_isDay d 0 0 [.int v] h (fun r h' => r = some (.int (bI (decide (0 ≤ v ∧ v ≤ 999)))) ∧ h' = h) := by
  refine am_Met.of rfl (Nat.le_of_ble_eq_true rfl) ?_
  refine am_go ok_X12_isDay [] 64 ?_
  refine ⟨d - 1, 0, 0, _, by omega, Nat.le_of_ble_eq_true rfl, Nat.le_of_ble_eq_true rfl, Nat.le_of_ble_eq_true rfl, m_in (d - 1) v 0 999, ?_⟩
  rintro _ _ ⟨rfl, rfl⟩
  refine ⟨Or.inl rfl, ?_⟩
  refine ⟨bI_nar _, ?_⟩
  exact ⟨rfl, rfl⟩
theorem m_isFact {h : am_H} {d : Nat} (hd : 1 ≤ d) (v : Int32) : am_Met mi_X12_isFact d 0 0 [.int v] h (fun r h' => r = some (.int (bI (decide (0 ≤ v ∧ v ≤ 749)))) ∧ h' = h) := by
  refine am_Met.of rfl (Nat.le_of_ble_eq_true rfl) ?_
  refine am_go ok_X12_isFact [] 64 ?_
  refine ⟨d - 1, 0, 0, _, by omega, Nat.le_of_ble_eq_true rfl, Nat.le_of_ble_eq_true rfl, Nat.le_of_ble_eq_true rfl, m_in (d - 1) v 0 749, ?_⟩
  rintro _ _ ⟨rfl, rfl⟩
  refine ⟨Or.inl rfl, ?_⟩
  refine ⟨bI_nar _, ?_⟩
  exact ⟨rfl, rfl⟩
theorem m_isRule {sg : sg_T} {d : Nat} (hd : 1 ≤ d) (v : Int32) : am_Met mi_X12_isRule d 0 0 [.ref 0, .int v] (hm sg) (fun r h' => r = some (.int (bI (decide (0 ≤ v ∧ v ≤ sg 1 1 - 1)))) ∧ h' = hm sg) := by
  refine am_Met.of rfl (Nat.le_of_ble_eq_true rfl) ?_
  refine am_go ok_X12_isRule [] 69 ?_
  refine ⟨_, _, rfl, rfl, ?_⟩
  refine ⟨_, _, 1, rfl, rfl, Nat.le_of_ble_eq_true rfl, Nat.le_of_ble_eq_true rfl, ?_⟩
  refine ⟨d - 1, 0, 0, _, by omega, Nat.le_of_ble_eq_true rfl, Nat.le_of_ble_eq_true rfl, Nat.le_of_ble_eq_true rfl, m_in (d - 1) v 0 _, ?_⟩
  rintro _ _ ⟨rfl, rfl⟩
  refine ⟨Or.inl rfl, ?_⟩
  refine ⟨bI_nar _, ?_⟩
  exact ⟨rfl, rfl⟩
theorem m_isPaper {sg : sg_T} {d : Nat} (hd : 1 ≤ d) (v : Int32) : am_Met mi_X12_isPaper d 0 0 [.ref 0, .int v] (hm sg) (fun r h' => r = some (.int (bI (decide (0 ≤ v ∧ v ≤ sg 1 3 - 1)))) ∧ h' = hm sg) := by
  refine am_Met.of rfl (Nat.le_of_ble_eq_true rfl) ?_
  refine am_go ok_X12_isPaper [] 69 ?_
  refine ⟨_, _, rfl, rfl, ?_⟩
  refine ⟨_, _, 3, rfl, rfl, Nat.le_of_ble_eq_true rfl, Nat.le_of_ble_eq_true rfl, ?_⟩
  refine ⟨d - 1, 0, 0, _, by omega, Nat.le_of_ble_eq_true rfl, Nat.le_of_ble_eq_true rfl, Nat.le_of_ble_eq_true rfl, m_in (d - 1) v 0 _, ?_⟩
  rintro _ _ ⟨rfl, rfl⟩
  refine ⟨Or.inl rfl, ?_⟩
  refine ⟨bI_nar _, ?_⟩
  exact ⟨rfl, rfl⟩
theorem m_isProof {sg : sg_T} {d : Nat} (hd : 1 ≤ d) (v : Int32) : am_Met mi_X12_isProof d 0 0 [.ref 0, .int v] (hm sg) (fun r h' => r = some (.int (bI (decide (0 ≤ v ∧ v ≤ sg 1 4 - 1)))) ∧ h' = hm sg) := by
  refine am_Met.of rfl (Nat.le_of_ble_eq_true rfl) ?_
  refine am_go ok_X12_isProof [] 69 ?_
  refine ⟨_, _, rfl, rfl, ?_⟩
  refine ⟨_, _, 4, rfl, rfl, Nat.le_of_ble_eq_true rfl, Nat.le_of_ble_eq_true rfl, ?_⟩
  refine ⟨d - 1, 0, 0, _, by omega, Nat.le_of_ble_eq_true rfl, Nat.le_of_ble_eq_true rfl, Nat.le_of_ble_eq_true rfl, m_in (d - 1) v 0 _, ?_⟩
  rintro _ _ ⟨rfl, rfl⟩
  refine ⟨Or.inl rfl, ?_⟩
  refine ⟨bI_nar _, ?_⟩
  exact ⟨rfl, rfl⟩
theorem m_isTitle {sg : sg_T} {d : Nat} (hd : 1 ≤ d) (v : Int32) : am_Met mi_X12_isTitle d 0 0 [.ref 0, .int v] (hm sg) (fun r h' => r = some (.int (bI (decide (0 ≤ v ∧ v ≤ sg 1 5 - 1)))) ∧ h' = hm sg) := by
  refine am_Met.of rfl (Nat.le_of_ble_eq_true rfl) ?_
  refine am_go ok_X12_isTitle [] 69 ?_
  refine ⟨_, _, rfl, rfl, ?_⟩
  refine ⟨_, _, 5, rfl, rfl, Nat.le_of_ble_eq_true rfl, Nat.le_of_ble_eq_true rfl, ?_⟩
  refine ⟨d - 1, 0, 0, _, by omega, Nat.le_of_ble_eq_true rfl, Nat.le_of_ble_eq_true rfl, Nat.le_of_ble_eq_true rfl, m_in (d - 1) v 0 _, ?_⟩
  rintro _ _ ⟨rfl, rfl⟩
  refine ⟨Or.inl rfl, ?_⟩
  refine ⟨bI_nar _, ?_⟩
  exact ⟨rfl, rfl⟩
theorem m_stepAt {h : am_H} (d : Nat) (q s : Int32) : am_Met mi_X12_stepAt d 0 0 [.int q, .int s] h (fun r h' => r = some (.int (138 + 72 * q + 6 * s)) ∧ h' = h) := by
  refine am_Met.of rfl (Nat.le_of_ble_eq_true rfl) ?_
  refine am_go ok_X12_stepAt [] 69 ?_
  refine ⟨trivial, ?_⟩
  exact ⟨rfl, rfl⟩
theorem m_value {sg : sg_T} (d : Nat) {v : Int32} {c : Nat} (hv : v = nI c) (hc : c < 14) : am_Met mi_X12_value d 0 0 [.ref 0, .int v] (hm sg) (fun r h' => r = some (.int (if 10 ≤ c then sg 5 (c - 10) else nI c)) ∧ h' = hm sg) := by
  refine am_Met.of rfl (Nat.le_of_ble_eq_true rfl) ?_
  refine am_go ok_X12_value [] 70 ?_
  refine ⟨fun c3 => ?_, fun c3 => ?_⟩
  · rw [hv] at c3
    have k1 : c < 10 := (nI_ltI (by omega) (by omega)).mp c3
    rw [if_neg (by omega)]
    refine ⟨trivial, ?_⟩
    exact ⟨by first | rfl | rw [hv], rfl⟩
  · rw [hv] at c3
    have k1 : 10 ≤ c := by
      rcases Nat.lt_or_ge c 10 with z | z
      · exact absurd ((nI_ltI (by omega) (by omega)).mpr z) c3
      · exact z
    rw [if_pos k1]
    refine ⟨_, _, rfl, rfl, ?_⟩
    refine ⟨_, _, (c - 10), rfl, by rw [hv]; exact pk_sub k1, by omega, Nat.le_of_ble_eq_true rfl, ?_⟩
    refine ⟨trivial, ?_⟩
    exact ⟨by first | rfl | rw [hv], rfl⟩
