/-! rule, change -/
abbrev tx7 (P : Nat → Int32) : Nat := 1758 + 30 * pn P 7
/-- cells of the text to come alone may differ -/
def exT (P X : Nat → Int32) : Prop := ∀ j, ¬ (tx7 P ≤ j ∧ j < tx7 P + 30) → X j = P j
def ruN (P X : Nat → Int32) : Nat → Int32 := upd (upd (upd (upd X 8 0) (10 + pn P 1) (P 7)) 7 (P 7 + 1)) 1 (P 1 + 1)
def sp_rule (P : Nat → Int32) (v : Int32) (P' : Nat → Int32) : Prop := (P 1 = 8 ∧ v = -4 ∧ P' = P) ∨ (¬ P 1 = 8 ∧ ∃ X w, exT P X ∧ rdO (hr P) X (tx7 P) w (rdA (hr P) (pn P 8)) ∧ ((¬ w = -1 ∧ v = -10 - w ∧ P' = upd X 8 0) ∨ (w = -1 ∧ v = P 1 ∧ P' = ruN P X)))
def chN (P X : Nat → Int32) (r dy : Int32) : Nat → Int32 := upd (upd (upd (upd (upd (upd X 8 0) (18 + pn P 2) r) (30 + pn P 2) dy) (42 + pn P 2) (P 7)) 7 (P 7 + 1)) 2 (P 2 + 1)
def sp_change (P : Nat → Int32) (r dy v : Int32) (P' : Nat → Int32) : Prop := (¬ inI r 0 (P 1 - 1) ∧ v = -1 ∧ P' = P) ∨ (inI r 0 (P 1 - 1) ∧ ¬ inI dy (P 0) 999 ∧ v = -2 ∧ P' = P) ∨ (inI r 0 (P 1 - 1) ∧ inI dy (P 0) 999 ∧ P 2 = 12 ∧ v = -4 ∧ P' = P) ∨ (inI r 0 (P 1 - 1) ∧ inI dy (P 0) 999 ∧ ¬ P 2 = 12 ∧ ∃ X w, exT P X ∧ rdO (hr P) X (tx7 P) w (rdA (hr P) (pn P 8)) ∧ ((¬ w = -1 ∧ v = -10 - w ∧ P' = upd X 8 0) ∨ (w = -1 ∧ v = P 2 + 1 ∧ P' = chN P X r dy)))
theorem m_rule {sg : sg_T} {d : Nat} (hd : 460 ≤ d) {R C n0 : Nat} (hW : wkA (sg 1) R C n0) (h7 : sg 1 7 = nI (R + C)) (ht : tpO (sg 1)) : am_Met mi_X12_rule d 0 0 [.ref 0] (hm sg) (fun r h' => ∃ v P', sp_rule (sg 1) v P' ∧ mOut sg v P' r h') := by
  refine am_Met.of rfl (Nat.le_of_ble_eq_true rfl) ?_
  refine am_go ok_X12_rule [] 112 ?_
  have w1 := hW.1; have R8 := hW.2.1; have C12 := hW.2.2.2.1
  have p1 := pn_of w1 (by omega); have p7 := pn_of h7 (by omega)
  refine ⟨_, _, rfl, rfl, ?_⟩
  refine ⟨_, _, 1, rfl, rfl, Nat.le_of_ble_eq_true rfl, Nat.le_of_ble_eq_true rfl, ?_⟩
  refine ⟨fun c8 => ?_, fun c8 => ?_⟩
  · have R7 : R < 8 := by
      rcases Nat.lt_or_ge R 8 with q | q
      · exact q
      · exact absurd (by rw [w1, show R = 8 by omega]; rfl) c8
    refine ⟨_, rfl, d - 1, 0, 0, _, by omega, Nat.le_of_ble_eq_true rfl, Nat.le_of_ble_eq_true rfl, Nat.le_of_ble_eq_true rfl, m_reads (by omega) h7 (by omega) ht, ?_⟩
    rintro _ _ ⟨s1, w, rfl, rfl, hF, hO⟩
    refine ⟨Or.inl rfl, ?_⟩
    have ex : exT (sg 1) (s1 1) := by unfold exT tx7; rw [p7]; exact hF.2.2
    have hO' : rdO (hr (sg 1)) (s1 1) (tx7 (sg 1)) w (rdA (hr (sg 1)) (pn (sg 1) 8)) := by unfold tx7; rw [p7]; exact hO
    have k : ∀ j, j < 1700 → s1 1 j = sg 1 j := fun j hj => hF.2.2 j (by omega)
    have k2 : s1 2 = sg 2 := hF.1 2 (by decide)
    have k0 : s1 0 2 = sg 0 2 := hF.2.1 2 (by decide) (by decide)
    refine ⟨_, _, rfl, rfl, ?_⟩
    refine ⟨_, _, 8, rfl, rfl, Nat.le_of_ble_eq_true rfl, Nat.le_of_ble_eq_true rfl, ?_⟩
    rw [hm_a1]
    refine ⟨fun c29 => ?_, fun c29 => ?_⟩
    · skip
      refine ⟨_, _, rfl, rfl, ?_⟩
      refine ⟨_, _, rfl, rfl, ?_⟩
      refine ⟨_, _, 1, rfl, rfl, Nat.le_of_ble_eq_true rfl, Nat.le_of_ble_eq_true rfl, ?_⟩
      rw [sg_j (by decide), k 1 (by omega), w1]
      refine ⟨_, _, rfl, rfl, ?_⟩
      refine ⟨_, _, 7, rfl, rfl, Nat.le_of_ble_eq_true rfl, Nat.le_of_ble_eq_true rfl, ?_⟩
      rw [sg_j (by decide), k 7 (by omega)]
      refine ⟨_, _, (10 + R), rfl, (nI_add 10 R), by omega, Nat.le_of_ble_eq_true rfl, ?_⟩
      rw [hm_a1]
      refine ⟨_, _, rfl, rfl, ?_⟩
      refine ⟨_, _, 7, rfl, rfl, Nat.le_of_ble_eq_true rfl, Nat.le_of_ble_eq_true rfl, ?_⟩
      rw [sg_j (by omega), sg_j (by decide), k 7 (by omega)]
      refine ⟨_, _, 7, rfl, rfl, Nat.le_of_ble_eq_true rfl, Nat.le_of_ble_eq_true rfl, ?_⟩
      rw [hm_a1]
      refine ⟨_, _, rfl, rfl, ?_⟩
      refine ⟨_, _, 1, rfl, rfl, Nat.le_of_ble_eq_true rfl, Nat.le_of_ble_eq_true rfl, ?_⟩
      rw [sg_j (by decide), sg_j (by omega), sg_j (by decide), k 1 (by omega)]
      refine ⟨_, _, 1, rfl, rfl, Nat.le_of_ble_eq_true rfl, Nat.le_of_ble_eq_true rfl, ?_⟩
      rw [hm_a1]
      refine ⟨_, _, rfl, rfl, ?_⟩
      refine ⟨_, _, 1, rfl, rfl, Nat.le_of_ble_eq_true rfl, Nat.le_of_ble_eq_true rfl, ?_⟩
      rw [sg_s]
      refine ⟨trivial, ?_⟩
      refine ⟨_, _, Or.inr ⟨c8, s1 1, w, ex, hO', Or.inr ⟨c29, rfl, rfl⟩⟩, _, (by rw [Int32.add_sub_cancel]), rfl, ?_, ?_, ?_⟩
      · rw [sg_ii, sg_ii, sg_ii, sg_ii]; unfold ruN; rw [p1]
      · rw [sg_i (by decide), sg_i (by decide), sg_i (by decide), sg_i (by decide)]; exact k2
      · rw [sg_i (by decide), sg_i (by decide), sg_i (by decide), sg_i (by decide)]; exact k0
    · refine ⟨trivial, _, _, Or.inr ⟨c8, s1 1, w, ex, hO', Or.inl ⟨c29, rfl, rfl⟩⟩, sg_u s1 1 8 0, rfl, rfl, sg_ii, (sg_i (by decide)).trans k2, by rw [sg_i (by decide)]; exact k0⟩
  · exact ⟨trivial, _, _, Or.inl ⟨c8, rfl, rfl⟩, mOut_s rfl⟩
theorem m_change {sg : sg_T} {d : Nat} (hd : 460 ≤ d) {R C n0 : Nat} (hW : wkA (sg 1) R C n0) (h7 : sg 1 7 = nI (R + C)) (ht : tpO (sg 1)) (q dy : Int32) : am_Met mi_X12_change d 0 0 [.ref 0, .int q, .int dy] (hm sg) (fun r h' => ∃ v P', sp_change (sg 1) q dy v P' ∧ mOut sg v P' r h') := by
  refine am_Met.of rfl (Nat.le_of_ble_eq_true rfl) ?_
  refine am_go ok_X12_change [] 142 ?_
  have w1 := hW.1; have R8 := hW.2.1; have w2 := hW.2.2.1; have C12 := hW.2.2.2.1
  have p1 := pn_of w1 (by omega); have p2 := pn_of w2 (by omega); have p7 := pn_of h7 (by omega)
  refine ⟨_, rfl, d - 1, 0, 0, _, by omega, Nat.le_of_ble_eq_true rfl, Nat.le_of_ble_eq_true rfl, Nat.le_of_ble_eq_true rfl, m_isRule (by omega) q, ?_⟩
  rintro _ _ ⟨rfl, rfl⟩
  refine ⟨Or.inl rfl, ?_⟩
  refine ⟨fun c5 => ?_, fun c5 => ?_⟩
  · refine ⟨_, _, rfl, rfl, ?_⟩
    refine ⟨_, _, 0, rfl, rfl, Nat.le_of_ble_eq_true rfl, Nat.le_of_ble_eq_true rfl, ?_⟩
    refine ⟨d - 1, 0, 0, _, by omega, Nat.le_of_ble_eq_true rfl, Nat.le_of_ble_eq_true rfl, Nat.le_of_ble_eq_true rfl, m_in (d - 1) dy _ 999, ?_⟩
    rintro _ _ ⟨rfl, rfl⟩
    refine ⟨Or.inl rfl, ?_⟩
    refine ⟨fun c23 => ?_, fun c23 => ?_⟩
    · refine ⟨_, _, rfl, rfl, ?_⟩
      refine ⟨_, _, 2, rfl, rfl, Nat.le_of_ble_eq_true rfl, Nat.le_of_ble_eq_true rfl, ?_⟩
      refine ⟨fun c37 => ?_, fun c37 => ?_⟩
      · have C11 : C < 12 := by
          rcases Nat.lt_or_ge C 12 with z | z
          · exact z
          · exact absurd (by rw [w2, show C = 12 by omega]; rfl) c37
        refine ⟨_, rfl, d - 1, 0, 0, _, by omega, Nat.le_of_ble_eq_true rfl, Nat.le_of_ble_eq_true rfl, Nat.le_of_ble_eq_true rfl, m_reads (by omega) h7 (by omega) ht, ?_⟩
        rintro _ _ ⟨s1, w, rfl, rfl, hF, hO⟩
        refine ⟨Or.inl rfl, ?_⟩
        have ex : exT (sg 1) (s1 1) := by unfold exT tx7; rw [p7]; exact hF.2.2
        have hO' : rdO (hr (sg 1)) (s1 1) (tx7 (sg 1)) w (rdA (hr (sg 1)) (pn (sg 1) 8)) := by unfold tx7; rw [p7]; exact hO
        have k : ∀ j, j < 1700 → s1 1 j = sg 1 j := fun j hj => hF.2.2 j (by omega)
        have k2 : s1 2 = sg 2 := hF.1 2 (by decide)
        have k0 : s1 0 2 = sg 0 2 := hF.2.1 2 (by decide) (by decide)
        refine ⟨_, _, rfl, rfl, ?_⟩
        refine ⟨_, _, 8, rfl, rfl, Nat.le_of_ble_eq_true rfl, Nat.le_of_ble_eq_true rfl, ?_⟩
        rw [hm_a1]
        refine ⟨fun c58 => ?_, fun c58 => ?_⟩
        · refine ⟨_, _, rfl, rfl, ?_⟩
          refine ⟨_, _, rfl, rfl, ?_⟩
          refine ⟨_, _, 2, rfl, rfl, Nat.le_of_ble_eq_true rfl, Nat.le_of_ble_eq_true rfl, ?_⟩
          rw [sg_j (by decide), k 2 (by omega), w2]
          refine ⟨_, _, (18 + C), rfl, (nI_add 18 C), by omega, Nat.le_of_ble_eq_true rfl, ?_⟩
          rw [hm_a1]
          refine ⟨_, _, rfl, rfl, ?_⟩
          refine ⟨_, _, rfl, rfl, ?_⟩
          refine ⟨_, _, 2, rfl, rfl, Nat.le_of_ble_eq_true rfl, Nat.le_of_ble_eq_true rfl, ?_⟩
          rw [sg_j (by omega), sg_j (by decide), k 2 (by omega), w2]
          refine ⟨_, _, (30 + C), rfl, (nI_add 30 C), by omega, Nat.le_of_ble_eq_true rfl, ?_⟩
          rw [hm_a1]
          refine ⟨_, _, rfl, rfl, ?_⟩
          refine ⟨_, _, rfl, rfl, ?_⟩
          refine ⟨_, _, 2, rfl, rfl, Nat.le_of_ble_eq_true rfl, Nat.le_of_ble_eq_true rfl, ?_⟩
          rw [sg_j (by omega), sg_j (by omega), sg_j (by decide), k 2 (by omega), w2]
          refine ⟨_, _, rfl, rfl, ?_⟩
          refine ⟨_, _, 7, rfl, rfl, Nat.le_of_ble_eq_true rfl, Nat.le_of_ble_eq_true rfl, ?_⟩
          rw [sg_j (by omega), sg_j (by omega), sg_j (by decide), k 7 (by omega)]
          refine ⟨_, _, (42 + C), rfl, (nI_add 42 C), by omega, Nat.le_of_ble_eq_true rfl, ?_⟩
          rw [hm_a1]
          refine ⟨_, _, rfl, rfl, ?_⟩
          refine ⟨_, _, 7, rfl, rfl, Nat.le_of_ble_eq_true rfl, Nat.le_of_ble_eq_true rfl, ?_⟩
          rw [sg_j (by omega), sg_j (by omega), sg_j (by omega), sg_j (by decide), k 7 (by omega)]
          refine ⟨_, _, 7, rfl, rfl, Nat.le_of_ble_eq_true rfl, Nat.le_of_ble_eq_true rfl, ?_⟩
          rw [hm_a1]
          refine ⟨_, _, rfl, rfl, ?_⟩
          refine ⟨_, _, 2, rfl, rfl, Nat.le_of_ble_eq_true rfl, Nat.le_of_ble_eq_true rfl, ?_⟩
          rw [sg_j (by decide), sg_j (by omega), sg_j (by omega), sg_j (by omega), sg_j (by decide), k 2 (by omega)]
          refine ⟨_, _, 2, rfl, rfl, Nat.le_of_ble_eq_true rfl, Nat.le_of_ble_eq_true rfl, ?_⟩
          rw [hm_a1]
          refine ⟨_, _, rfl, rfl, ?_⟩
          refine ⟨_, _, 2, rfl, rfl, Nat.le_of_ble_eq_true rfl, Nat.le_of_ble_eq_true rfl, ?_⟩
          rw [sg_s]
          refine ⟨trivial, ?_⟩
          refine ⟨_, _, Or.inr (Or.inr (Or.inr ⟨bI_t c5, bI_t c23, c37, s1 1, w, ex, hO', Or.inr ⟨c58, rfl, rfl⟩⟩)), _, rfl, rfl, ?_, ?_, ?_⟩
          · rw [sg_ii, sg_ii, sg_ii, sg_ii, sg_ii, sg_ii]; unfold chN; rw [p2]
          · rw [sg_i (by decide), sg_i (by decide), sg_i (by decide), sg_i (by decide), sg_i (by decide), sg_i (by decide)]; exact k2
          · rw [sg_i (by decide), sg_i (by decide), sg_i (by decide), sg_i (by decide), sg_i (by decide), sg_i (by decide)]; exact k0
        · refine ⟨trivial, _, _, Or.inr (Or.inr (Or.inr ⟨bI_t c5, bI_t c23, c37, s1 1, w, ex, hO', Or.inl ⟨c58, rfl, rfl⟩⟩)), sg_u s1 1 8 0, rfl, rfl, sg_ii, (sg_i (by decide)).trans k2, by rw [sg_i (by decide)]; exact k0⟩
      · exact ⟨trivial, _, _, Or.inr (Or.inr (Or.inl ⟨bI_t c5, bI_t c23, c37, rfl, rfl⟩)), mOut_s rfl⟩
    · exact ⟨trivial, _, _, Or.inr (Or.inl ⟨bI_t c5, bI_f c23, rfl, rfl⟩), mOut_s rfl⟩
  · exact ⟨trivial, _, _, Or.inl ⟨bI_f c5, rfl, rfl⟩, mOut_s rfl⟩
