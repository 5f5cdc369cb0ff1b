/-! the reference's reading: each method as a function of its cells -/
def hV (sg : sg_T) : Int32 := if sg 0 3 < sg 1 8 then sg 1 (2358 + (sg 0 3).toNatClampNeg) else -1
def eaF (c : Int32) (sg : sg_T) : sg_T := if sg 0 4 = 0 ∧ hV sg = c then sg_u sg 0 3 (sg 0 3 + 1) else sg_u sg 0 4 1
def shF (c : Int32) : Int32 := if c = 111 then 0 else if c = 115 then 1 else if c = 104 then 2 else if c = 109 then 3 else if c = 108 then 4 else if c = 119 then 5 else -1
def arF (sg : sg_T) : sg_T := if sg 0 4 = 0 ∧ ((97 ≤ hV sg ∧ hV sg ≤ 100) ∨ (48 ≤ hV sg ∧ hV sg ≤ 52)) then sg_u sg 0 3 (sg 0 3 + 1) else sg_u sg 0 4 1
def arV (sg : sg_T) : Int32 := if sg 0 4 = 0 ∧ ((97 ≤ hV sg ∧ hV sg ≤ 100) ∨ (48 ≤ hV sg ∧ hV sg ≤ 52)) then (if 97 ≤ hV sg then 10 + hV sg - 97 else hV sg - 48) else 0
/-- the place read is one of the tape's -/
def atP (sg : sg_T) : Prop := ∃ a : Nat, a < 870 ∧ sg 0 3 = nI a
theorem m_here {sg : sg_T} (d : Nat) (hp : atP sg) : am_Met mi_X12_here d 0 0 [.ref 0] (hm sg) (fun r h' => r = some (.int (hV sg)) ∧ h' = hm sg) := by
  obtain ⟨a, hal, ha⟩ := hp
  refine am_Met.of rfl (Nat.le_of_ble_eq_true rfl) ?_
  refine am_go ok_X12_here [] 75 ?_
  refine ⟨_, _, rfl, rfl, ?_⟩
  refine ⟨_, _, rfl, rfl, ?_⟩
  refine ⟨_, _, 8, rfl, rfl, Nat.le_of_ble_eq_true rfl, Nat.le_of_ble_eq_true rfl, ?_⟩
  refine ⟨fun c11 => ?_, fun c11 => ?_⟩
  · refine ⟨trivial, ?_⟩
    rw [hV, if_neg (i_len c11)]
    exact ⟨rfl, rfl⟩
  · refine ⟨_, _, rfl, rfl, ?_⟩
    refine ⟨_, _, rfl, rfl, ?_⟩
    refine ⟨_, _, (2358 + (sg 0 3).toNatClampNeg), rfl, (by rw [ha, nI_clamp (by omega)]; exact nI_add 2358 a), (by rw [ha, nI_clamp (by omega)]; omega), Nat.le_of_ble_eq_true rfl, ?_⟩
    refine ⟨trivial, ?_⟩
    rw [hV, if_pos (i_nle c11)]
    exact ⟨rfl, rfl⟩
theorem m_eats {sg : sg_T} {d : Nat} (hd : 1 ≤ d) (hp : atP sg) (c : Int32) : am_Met mi_X12_eats d 0 0 [.ref 0, .int c] (hm sg) (fun r h' => r = none ∧ h' = hm (eaF c sg)) := by
  refine am_Met.of rfl (Nat.le_of_ble_eq_true rfl) ?_
  refine am_go ok_X12_eats [] 74 ?_
  refine ⟨_, _, rfl, rfl, ?_⟩
  refine ⟨fun c4 => ?_, fun c4 => ?_⟩
  · rw [eaF, if_neg (fun z => c4 z.1)]
    refine ⟨_, rfl, Nat.le_of_ble_eq_true rfl, ⟨rfl, rfl⟩, ?_⟩
    rw [hm_f0_4]
    exact ⟨rfl, rfl⟩
  · refine ⟨_, rfl, d - 1, 0, 0, _, by omega, Nat.le_of_ble_eq_true rfl, Nat.le_of_ble_eq_true rfl, Nat.le_of_ble_eq_true rfl, m_here (d - 1) hp, ?_⟩
    rintro _ _ ⟨rfl, rfl⟩
    refine ⟨Or.inl rfl, ?_⟩
    refine ⟨fun c12 => ?_, fun c12 => ?_⟩
    · rw [eaF, if_neg (fun z => c12 z.2)]
      refine ⟨_, rfl, Nat.le_of_ble_eq_true rfl, ⟨rfl, rfl⟩, ?_⟩
      rw [hm_f0_4]
      exact ⟨rfl, rfl⟩
    · rw [eaF, if_pos ⟨c4, c12⟩]
      refine ⟨_, _, rfl, rfl, ?_⟩
      refine ⟨_, rfl, Nat.le_of_ble_eq_true rfl, trivial, ?_⟩
      rw [hm_f0_3]
      exact ⟨rfl, rfl⟩
theorem m_shapeOf {h : am_H} (d : Nat) (c : Int32) : am_Met mi_X12_shapeOf d 0 0 [.int c] h (fun r h' => r = some (.int (shF c)) ∧ h' = h) := by
  refine am_Met.of rfl (Nat.le_of_ble_eq_true rfl) ?_
  refine am_go ok_X12_shapeOf [] 80 ?_
  refine ⟨fun c3 => ?_, fun c3 => ?_⟩
  · refine ⟨fun c13 => ?_, fun c13 => ?_⟩
    · refine ⟨fun c23 => ?_, fun c23 => ?_⟩
      · refine ⟨fun c33 => ?_, fun c33 => ?_⟩
        · refine ⟨fun c43 => ?_, fun c43 => ?_⟩
          · refine ⟨fun c53 => ?_, fun c53 => ?_⟩
            · refine ⟨trivial, ?_⟩
              exact ⟨by simp [shF, *], rfl⟩
            · refine ⟨trivial, ?_⟩
              exact ⟨by simp [shF, *], rfl⟩
          · refine ⟨trivial, ?_⟩
            exact ⟨by simp [shF, *], rfl⟩
        · refine ⟨trivial, ?_⟩
          exact ⟨by simp [shF, *], rfl⟩
      · refine ⟨trivial, ?_⟩
        exact ⟨by simp [shF, *], rfl⟩
    · refine ⟨trivial, ?_⟩
      exact ⟨by simp [shF, *], rfl⟩
  · refine ⟨trivial, ?_⟩
    exact ⟨by simp [shF, *], rfl⟩
theorem m_argument {sg : sg_T} {d : Nat} (hd : 1 ≤ d) (hp : atP sg) : am_Met mi_X12_argument d 0 0 [.ref 0] (hm sg) (fun r h' => r = some (.int (arV sg)) ∧ h' = hm (arF sg)) := by
  refine am_Met.of rfl (Nat.le_of_ble_eq_true rfl) ?_
  refine am_go ok_X12_argument [] 91 ?_
  refine ⟨_, rfl, d - 1, 0, 0, _, by omega, Nat.le_of_ble_eq_true rfl, Nat.le_of_ble_eq_true rfl, Nat.le_of_ble_eq_true rfl, m_here (d - 1) hp, ?_⟩
  rintro _ _ ⟨rfl, rfl⟩
  refine ⟨Or.inl rfl, ?_⟩
  refine ⟨_, _, rfl, rfl, ?_⟩
  refine ⟨fun c9 => ?_, fun c9 => ?_⟩
  · rw [arF, arV, if_neg (fun z => c9 z.1), if_neg (fun z => c9 z.1)]
    refine ⟨_, rfl, Nat.le_of_ble_eq_true rfl, ⟨rfl, rfl⟩, ?_⟩
    rw [hm_f0_4]
    refine ⟨trivial, ?_⟩
    exact ⟨rfl, rfl⟩
  · refine ⟨d - 1, 0, 0, _, by omega, Nat.le_of_ble_eq_true rfl, Nat.le_of_ble_eq_true rfl, Nat.le_of_ble_eq_true rfl, m_in (d - 1) _ 97 100, ?_⟩
    rintro _ _ ⟨rfl, rfl⟩
    refine ⟨Or.inl rfl, ?_⟩
    refine ⟨fun c20 => ?_, fun c20 => ?_⟩
    · have k1 : sg 0 4 = 0 ∧ ((97 ≤ hV sg ∧ hV sg ≤ 100) ∨ (48 ≤ hV sg ∧ hV sg ≤ 52)) := ⟨c9, Or.inl (bI_t c20)⟩
      rw [arF, arV, if_pos k1, if_pos k1]
      refine ⟨_, _, rfl, rfl, ?_⟩
      refine ⟨_, rfl, Nat.le_of_ble_eq_true rfl, trivial, ?_⟩
      rw [hm_f0_3]
      refine ⟨fun c54 => ?_, fun c54 => ?_⟩
      · rw [if_neg (i_ltn c54)]
        refine ⟨trivial, ?_⟩
        exact ⟨rfl, rfl⟩
      · rw [if_pos (i_nlt c54)]
        refine ⟨trivial, ?_⟩
        exact ⟨rfl, rfl⟩
    · refine ⟨d - 1, 0, 0, _, by omega, Nat.le_of_ble_eq_true rfl, Nat.le_of_ble_eq_true rfl, Nat.le_of_ble_eq_true rfl, m_in (d - 1) _ 48 52, ?_⟩
      rintro _ _ ⟨rfl, rfl⟩
      refine ⟨Or.inl rfl, ?_⟩
      refine ⟨fun c31 => ?_, fun c31 => ?_⟩
      · have k1 : sg 0 4 = 0 ∧ ((97 ≤ hV sg ∧ hV sg ≤ 100) ∨ (48 ≤ hV sg ∧ hV sg ≤ 52)) := ⟨c9, Or.inr (bI_t c31)⟩
        rw [arF, arV, if_pos k1, if_pos k1]
        refine ⟨_, _, rfl, rfl, ?_⟩
        refine ⟨_, rfl, Nat.le_of_ble_eq_true rfl, trivial, ?_⟩
        rw [hm_f0_3]
        refine ⟨fun c54 => ?_, fun c54 => ?_⟩
        · rw [if_neg (i_ltn c54)]
          refine ⟨trivial, ?_⟩
          exact ⟨rfl, rfl⟩
        · rw [if_pos (i_nlt c54)]
          refine ⟨trivial, ?_⟩
          exact ⟨rfl, rfl⟩
      · have k1 : ¬ (sg 0 4 = 0 ∧ ((97 ≤ hV sg ∧ hV sg ≤ 100) ∨ (48 ≤ hV sg ∧ hV sg ≤ 52))) := fun z => z.2.elim (bI_f c20) (bI_f c31)
        rw [arF, arV, if_neg k1, if_neg k1]
        refine ⟨_, rfl, Nat.le_of_ble_eq_true rfl, ⟨rfl, rfl⟩, ?_⟩
        rw [hm_f0_4]
        refine ⟨trivial, ?_⟩
        exact ⟨rfl, rfl⟩
def ltB (x : Int32) : Int32 := if 10 ≤ x then 1 <<< ((x - 10) &&& 31) else 0
def ltF (P : Nat → Int32) (fr : Nat) : Nat → Int32
  | 0 => 0
  | k + 1 => ltF P fr k ||| ltB (P (fr + k))
def tlF (P : Nat → Int32) (x : Nat) : Nat → Int32
  | 0 => 0
  | k + 1 => tlF P x k ||| ltF P (x + 3 + 4 * k) 3
theorem m_lettersIn_l {sg : sg_T} {d kc ks : Nat} {f m : Int32} {fr n : Nat} (hf : f = nI fr) (hm' : m = nI n) (hb : fr + n ≤ 3228) : ∀ (u k : Nat) (z w : Int32), z = nI k → w = ltF (sg 1) fr k → k ≤ n → n < k + u → am_W mi_X12_lettersIn d (fun r h' => r = some (.int (ltF (sg 1) fr n)) ∧ h' = hm sg) kc ks 5 [some (.ref 0), some (.int f), some (.int m), some (.int w), some (.int z)] [] (hm sg) := by
  intro u
  induction u with
  | zero => intro k z w hz hw h1 h2; exact absurd h2 (by omega)
  | succ u ih =>
    intro k z w hz hw h1 h2
    refine am_go ok_X12_lettersIn [5] 87 ?_
    refine ⟨fun c8 => ?_, fun c8 => ?_⟩
    · rw [hz, hm'] at c8
      have k1 : k = n := by have := (nI_leI (by omega) (by omega)).mp c8; omega
      subst k1
      refine ⟨trivial, ?_⟩
      exact ⟨by rw [hw], rfl⟩
    · have k1 : k < n := by
        rcases Nat.lt_or_ge k n with q | q
        · exact q
        · exact absurd (by rw [hz, hm']; exact (nI_leI (by omega) (by omega)).mpr q) c8
      refine ⟨_, _, rfl, rfl, ?_⟩
      refine ⟨_, _, (fr + k), rfl, (by rw [hf, hz]; exact nI_add fr k), by omega, Nat.le_of_ble_eq_true rfl, ?_⟩
      refine ⟨fun c23 => ?_, fun c23 => ?_⟩
      · exact ih (k + 1) _ _ (by rw [hz]; exact nI_1 k) (by rw [hw, ltF, ltB, if_neg (i_ltn c23)]) (by omega) (by omega)
      · refine ⟨_, _, rfl, rfl, ?_⟩
        refine ⟨_, _, (fr + k), rfl, (by rw [hf, hz]; exact nI_add fr k), by omega, Nat.le_of_ble_eq_true rfl, ?_⟩
        exact ih (k + 1) _ _ (by rw [hz]; exact nI_1 k) (by rw [hw, ltF, ltB, if_pos (i_nlt c23)]) (by omega) (by omega)
theorem m_lettersIn {sg : sg_T} (d : Nat) {f m : Int32} {fr n : Nat} (hf : f = nI fr) (hm' : m = nI n) (hb : fr + n ≤ 3228) : am_Met mi_X12_lettersIn d 0 0 [.ref 0, .int f, .int m] (hm sg) (fun r h' => r = some (.int (ltF (sg 1) fr n)) ∧ h' = hm sg) := by
  refine am_Met.of rfl (Nat.le_of_ble_eq_true rfl) ?_
  refine am_go ok_X12_lettersIn [5] 64 ?_
  exact m_lettersIn_l hf hm' hb (n + 1) 0 0 0 rfl rfl (by omega) (by omega)
theorem m_termLetters_l {sg : sg_T} {d kc ks : Nat} (hd : 1 ≤ d) {f : Int32} {x n : Nat} (hf : f = nI x) (hn : sg 1 x = nI n) (hb : x + 3 + 4 * n ≤ 3228) : ∀ (u k : Nat) (z w : Int32), z = nI k → w = tlF (sg 1) x k → k ≤ n → n < k + u → am_W mi_X12_termLetters d (fun r h' => r = some (.int (tlF (sg 1) x n)) ∧ h' = hm sg) kc ks 4 [some (.ref 0), some (.int f), some (.int w), some (.int z)] [] (hm sg) := by
  intro u
  induction u with
  | zero => intro k z w hz hw h1 h2; exact absurd h2 (by omega)
  | succ u ih =>
    intro k z w hz hw h1 h2
    refine am_go ok_X12_termLetters [4] 81 ?_
    refine ⟨_, _, rfl, rfl, ?_⟩
    refine ⟨_, _, x, rfl, hf, (by omega), Nat.le_of_ble_eq_true rfl, ?_⟩
    refine ⟨fun c11 => ?_, fun c11 => ?_⟩
    · rw [hz, hn] at c11
      have k1 : k = n := by have := (nI_leI (by omega) (by omega)).mp c11; omega
      subst k1
      refine ⟨trivial, ?_⟩
      exact ⟨by rw [hw], rfl⟩
    · have k1 : k < n := by
        rcases Nat.lt_or_ge k n with q | q
        · exact q
        · exact absurd (by rw [hz, hn]; exact (nI_leI (by omega) (by omega)).mpr q) c11
      refine ⟨_, rfl, d - 1, 0, 0, _, by omega, Nat.le_of_ble_eq_true rfl, Nat.le_of_ble_eq_true rfl, Nat.le_of_ble_eq_true rfl, m_lettersIn (fr := x + 3 + 4 * k) (n := 3) (d - 1) (by rw [hf, hz]; show nI x + nI 3 + nI 4 * nI k = _; rw [nI_add, pk_mul, nI_add]) rfl (by omega), ?_⟩
      rintro _ _ ⟨rfl, rfl⟩
      refine ⟨Or.inl rfl, ?_⟩
      exact ih (k + 1) _ _ (by rw [hz]; exact nI_1 k) (by rw [hw, tlF]) (by omega) (by omega)
theorem m_termLetters {sg : sg_T} {d : Nat} (hd : 1 ≤ d) {f : Int32} {x n : Nat} (hf : f = nI x) (hn : sg 1 x = nI n) (hb : x + 3 + 4 * n ≤ 3228) : am_Met mi_X12_termLetters d 0 0 [.ref 0, .int f] (hm sg) (fun r h' => r = some (.int (tlF (sg 1) x n)) ∧ h' = hm sg) := by
  refine am_Met.of rfl (Nat.le_of_ble_eq_true rfl) ?_
  refine am_go ok_X12_termLetters [4] 64 ?_
  exact m_termLetters_l hd hf hn hb (n + 1) 0 0 0 rfl rfl (by omega) (by omega)
