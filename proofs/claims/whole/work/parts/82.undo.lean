/-! undo, and image where a Book is kept already -/
theorem tx_cp {s g : sg_T} {a x : Nat} {P : Nat → Int32} (hX : okX P x) (h : txR s a P x) (e0 : ∀ i, i < 3 → g a i = s a i) (e1 : ∀ i, i < 16 → g (a + 1) i = s (a + 1) i) (e2 : ∀ i, i < 12 → g (a + 2) i = s (a + 2) i) : txR g a P x := by
  obtain ⟨h0, h1, h2, h3, h4⟩ := h
  have n3 := (okX_n hX).1
  have n4 := (okX_n hX).2
  refine ⟨by rw [e0 0 (by omega)]; exact h0, by rw [e0 1 (by omega)]; exact h1, fun l hl => by rw [e0 2 (by omega)]; exact h2 l hl, fun q hq => ?_, fun k hk => ?_⟩
  · obtain ⟨a1, a2⟩ := h3 q hq
    exact ⟨by rw [e1 _ (by omega)]; exact a1, fun i i1 i2 => by rw [e1 _ (by omega)]; exact a2 i i1 i2⟩
  · obtain ⟨a1, a2, a3⟩ := h4 k hk
    exact ⟨by rw [e2 _ (by omega)]; exact a1, by rw [e2 _ (by omega)]; exact a2, by rw [e2 _ (by omega)]; exact a3⟩
theorem BR_cp {s g : sg_T} {P : Nat → Int32} {R C n : Nat} (hW : wkA P R C n) (h : BR 1 s P) (hc : cpB s g) : BR 1 g P := by
  obtain ⟨e2, e3, e5, e6, e7, e8, e9, e10, e11, e12, e13, e14, e15, e16, e17, f7, f17, ft⟩ := hc
  have R8 := hW.2.1
  have C12 := hW.2.2.2.1
  have p1 : pn P 1 = R := pn_of hW.1 (by omega)
  have p2 : pn P 2 = C := pn_of hW.2.2.1 (by omega)
  refine ⟨fun i hi => by rw [e2 i (by omega)]; exact h.c i hi, by rw [e2 7 (by omega)]; exact h.c7, fun i hi => by rw [e3 i (by omega)]; exact h.t i hi, fun i hi => by rw [e5 i (by omega)]; exact h.cr i hi, fun i hi => by rw [e6 i (by omega)]; exact h.cd i hi, fun i hi => by rw [e7 i (by omega)]; exact h.pf i hi, fun i hi => by rw [e8 i (by omega)]; exact h.pp i hi, by rw [f7]; exact h.tp, fun i hi => by rw [e9 i (by omega)]; exact h.k i hi, fun i hi => by rw [e10 i (by omega)]; exact h.s i hi, fun i hi => by rw [e11 i (by omega)]; exact h.r i hi, fun i hi => by rw [e12 i (by omega)]; exact h.tq i hi, fun i hi => by rw [e13 i (by omega)]; exact h.tf i hi, fun i hi => by rw [e14 i (by omega)]; exact h.td i hi, fun i hi => by rw [e15 i (by omega)]; exact h.az i hi, fun i hi => by rw [e16 i (by omega)]; exact h.ab i hi, fun i hi => by rw [e17 i (by omega)]; exact h.fo i hi, by rw [f17]; exact h.hr, fun r hr => ?_, fun c hc => ?_⟩
  · rw [p1] at hr
    obtain ⟨a0, a1, a2⟩ := ft r (by omega)
    exact tx_cp (hW.2.2.2.2.2.2.2.2.2.1 r hr) (h.xr r (by omega)) a0 (fun i hi => by rw [show 1 + 17 + 3 * r + 1 = 19 + 3 * r by omega]; exact a1 i hi) (fun i hi => by rw [show 1 + 17 + 3 * r + 2 = 20 + 3 * r by omega]; exact a2 i hi)
  · rw [p2] at hc
    obtain ⟨a0, a1, a2⟩ := ft (8 + c) (by omega)
    exact tx_cp (hW.2.2.2.2.2.2.2.2.2.2 c hc) (h.xc c (by omega)) a0 (fun i hi => by rw [show 1 + 17 + 3 * (8 + c) + 1 = 19 + 3 * (8 + c) by omega]; exact a1 i hi) (fun i hi => by rw [show 1 + 17 + 3 * (8 + c) + 2 = 20 + 3 * (8 + c) by omega]; exact a2 i hi)
theorem BR_fit {s : sg_T} {P : Nat → Int32} (h : BR 1 s P) (ho : ∀ j, (j = 9 ∨ 2478 ≤ j ∧ j < 3228) → P j = 0 ∨ P j = 1) : (∀ i, i < 120 → fits (am_aty 1) (.int (s 3 i)) = true) ∧ (∀ i, i < 720 → fits (am_aty 1) (.int (s 16 i)) = true) ∧ (∀ i, i < 750 → fits (am_aty 2) (.int (s 17 i)) = true) ∧ am_fit .boolean (.int (s 1 17)) := by
  refine ⟨fun i hi => by rw [h.t i hi]; exact fit_B _, fun i hi => by rw [h.ab i hi]; exact fit_B _, fun i hi => ?_, ?_⟩
  · rw [h.fo i hi]
    rcases ho (2478 + i) (by omega) with z | z
    · rw [z]; rfl
    · rw [z]; rfl
  · rw [h.hr]
    rcases ho 9 (by omega) with z | z
    · rw [z]; exact ⟨rfl, rfl⟩
    · rw [z]; exact ⟨rfl, rfl⟩
theorem c_undo_1 {cg kg : sg_T} {fn : Nat → Option Nat} {x y : Nat} {P P2 : Nat → Int32} {R C n Q T U d : Nat} (hd : 10 ≤ d) (hC : clR cg P) (hK : BR 1 kg P2) (hO : okP P2 R C n Q T U) : am_Met mi_X11_undo d 0 0 [.ref 0] (hc cg fn (x, y, .ref 101, hk kg)) (fun r h' => r = some (.int (P2 0)) ∧ ∃ cg', h' = hc cg' fn (x, y, .ref 101, hk kg) ∧ clR cg' P2) := by
  refine am_Met.of rfl (Nat.le_of_ble_eq_true rfl) ?_
  refine am_go ok_X11_undo [] 73 ?_
  obtain ⟨g3, g16, g17, gf⟩ := BR_fit hK hO.o
  refine ⟨_, _, rfl, rfl, ?_⟩
  refine ⟨_, _, rfl, rfl, ?_⟩
  refine ⟨_, _, rfl, rfl, ?_⟩
  refine ⟨_, rfl, d - 1, 0, 0, _, by omega, Nat.le_of_ble_eq_true rfl, Nat.le_of_ble_eq_true rfl, Nat.le_of_ble_eq_true rfl, bb_u (d := d - 1) (by omega) g3 g16 g17 gf, ?_⟩
  rintro _ _ ⟨rfl, g, rfl, Fr, Cp⟩
  refine ⟨Or.inl rfl, ?_⟩
  have hB := BR_cp hO.W hK Cp
  refine ⟨_, _, rfl, rfl, ?_⟩
  refine ⟨_, _, rfl, rfl, ?_⟩
  refine ⟨_, _, 0, rfl, rfl, Nat.le_of_ble_eq_true rfl, Nat.le_of_ble_eq_true rfl, ?_⟩
  rw [hB.c 0 (by omega)]
  refine ⟨trivial, ?_⟩
  exact ⟨rfl, g, rfl, hB, rI_fr hC.2.1 (Fr 84 (by omega)) (Fr 85 (by omega)) (Fr 86 (by omega)) (Fr 87 (by omega)), by rw [Fr 89 (by omega)]; exact hC.2.2.1, by rw [Fr 83 (by omega)]; exact hC.2.2.2⟩
theorem c_image_1 {cg kg : sg_T} {fn : Nat → Option Nat} {x y : Nat} {P : Nat → Int32} {R C n Q T U d : Nat} (hd : 10 ≤ d) (hC : clR cg P) (hO : okP P R C n Q T U) : am_Met mi_X11_image d 0 0 [.ref 0] (hc cg fn (x, y, .ref 101, hk kg)) (fun r h' => r = some (.int (P 0)) ∧ ∃ kg', h' = hc cg fn (x, y, .ref 101, hk kg') ∧ BR 1 kg' P) := by
  refine am_Met.of rfl (Nat.le_of_ble_eq_true rfl) ?_
  refine am_go ok_X11_image [] 73 ?_
  obtain ⟨g3, g16, g17, gf⟩ := BR_fit hC.1 hO.o
  refine ⟨_, _, rfl, rfl, ?_⟩
  refine ⟨_, _, rfl, rfl, ?_⟩
  refine ⟨_, _, rfl, rfl, ?_⟩
  refine ⟨_, rfl, d - 1, 0, 0, _, by omega, Nat.le_of_ble_eq_true rfl, Nat.le_of_ble_eq_true rfl, Nat.le_of_ble_eq_true rfl, bb_i (d := d - 1) (by omega) g3 g16 g17 gf, ?_⟩
  rintro _ _ ⟨rfl, g, rfl, Fr, Cp⟩
  refine ⟨Or.inl rfl, ?_⟩
  refine ⟨_, _, rfl, rfl, ?_⟩
  refine ⟨_, _, rfl, rfl, ?_⟩
  refine ⟨_, _, 0, rfl, rfl, Nat.le_of_ble_eq_true rfl, Nat.le_of_ble_eq_true rfl, ?_⟩
  rw [hC.1.c 0 (by omega)]
  refine ⟨trivial, ?_⟩
  exact ⟨rfl, g, rfl, BR_cp hO.W hC.1 Cp⟩
theorem c_undo_0 {cg : sg_T} {fn : Nat → Option Nat} {x y d : Nat} : am_Met mi_X11_undo d 0 0 [.ref 0] (hc cg fn (x, y, .null, [])) (fun r h' => r = some (.int (-3)) ∧ h' = hc cg fn (x, y, .null, [])) := by
  refine am_Met.of rfl (Nat.le_of_ble_eq_true rfl) ?_
  refine am_go ok_X11_undo [] 70 ?_
  refine ⟨_, _, rfl, rfl, ?_⟩
  exact ⟨trivial, rfl, rfl⟩
