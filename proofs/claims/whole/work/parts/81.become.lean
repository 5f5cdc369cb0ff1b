/-! become: a Text, a Book -/
theorem hc_c2 {cg : sg_T} {fn : Nat → Option Nat} {cx : cx_T} {F : Nat → Int32} : am_put (hc cg fn cx) 2 (.inl (0, 8, F)) = hc (sg_c cg 2 F) fn cx := rfl
theorem hc_c102 {cg kg : sg_T} {fn : Nat → Option Nat} {x y : Nat} {v : Value} {F : Nat → Int32} : am_put (hc cg fn (x, y, v, hk kg)) 102 (.inl (0, 8, F)) = hc cg fn (x, y, v, hk (sg_c kg 2 F)) := (hk_put (k := 1)).trans (congrArg (fun l => hc cg fn (x, y, v, l)) (show am_put (hk kg) 1 (.inl (0, 8, F)) = hk (sg_c kg 2 F) from rfl))
theorem hc_c3 {cg : sg_T} {fn : Nat → Option Nat} {cx : cx_T} {F : Nat → Int32} : am_put (hc cg fn cx) 3 (.inl (1, 120, F)) = hc (sg_c cg 3 F) fn cx := rfl
theorem hc_c103 {cg kg : sg_T} {fn : Nat → Option Nat} {x y : Nat} {v : Value} {F : Nat → Int32} : am_put (hc cg fn (x, y, v, hk kg)) 103 (.inl (1, 120, F)) = hc cg fn (x, y, v, hk (sg_c kg 3 F)) := (hk_put (k := 2)).trans (congrArg (fun l => hc cg fn (x, y, v, l)) (show am_put (hk kg) 2 (.inl (1, 120, F)) = hk (sg_c kg 3 F) from rfl))
theorem hc_c5 {cg : sg_T} {fn : Nat → Option Nat} {cx : cx_T} {F : Nat → Int32} : am_put (hc cg fn cx) 5 (.inl (0, 12, F)) = hc (sg_c cg 5 F) fn cx := rfl
theorem hc_c105 {cg kg : sg_T} {fn : Nat → Option Nat} {x y : Nat} {v : Value} {F : Nat → Int32} : am_put (hc cg fn (x, y, v, hk kg)) 105 (.inl (0, 12, F)) = hc cg fn (x, y, v, hk (sg_c kg 5 F)) := (hk_put (k := 4)).trans (congrArg (fun l => hc cg fn (x, y, v, l)) (show am_put (hk kg) 4 (.inl (0, 12, F)) = hk (sg_c kg 5 F) from rfl))
theorem hc_c6 {cg : sg_T} {fn : Nat → Option Nat} {cx : cx_T} {F : Nat → Int32} : am_put (hc cg fn cx) 6 (.inl (0, 12, F)) = hc (sg_c cg 6 F) fn cx := rfl
theorem hc_c106 {cg kg : sg_T} {fn : Nat → Option Nat} {x y : Nat} {v : Value} {F : Nat → Int32} : am_put (hc cg fn (x, y, v, hk kg)) 106 (.inl (0, 12, F)) = hc cg fn (x, y, v, hk (sg_c kg 6 F)) := (hk_put (k := 5)).trans (congrArg (fun l => hc cg fn (x, y, v, l)) (show am_put (hk kg) 5 (.inl (0, 12, F)) = hk (sg_c kg 6 F) from rfl))
theorem hc_c7 {cg : sg_T} {fn : Nat → Option Nat} {cx : cx_T} {F : Nat → Int32} : am_put (hc cg fn cx) 7 (.inl (0, 20, F)) = hc (sg_c cg 7 F) fn cx := rfl
theorem hc_c107 {cg kg : sg_T} {fn : Nat → Option Nat} {x y : Nat} {v : Value} {F : Nat → Int32} : am_put (hc cg fn (x, y, v, hk kg)) 107 (.inl (0, 20, F)) = hc cg fn (x, y, v, hk (sg_c kg 7 F)) := (hk_put (k := 6)).trans (congrArg (fun l => hc cg fn (x, y, v, l)) (show am_put (hk kg) 6 (.inl (0, 20, F)) = hk (sg_c kg 7 F) from rfl))
theorem hc_c8 {cg : sg_T} {fn : Nat → Option Nat} {cx : cx_T} {F : Nat → Int32} : am_put (hc cg fn cx) 8 (.inl (0, 20, F)) = hc (sg_c cg 8 F) fn cx := rfl
theorem hc_c108 {cg kg : sg_T} {fn : Nat → Option Nat} {x y : Nat} {v : Value} {F : Nat → Int32} : am_put (hc cg fn (x, y, v, hk kg)) 108 (.inl (0, 20, F)) = hc cg fn (x, y, v, hk (sg_c kg 8 F)) := (hk_put (k := 7)).trans (congrArg (fun l => hc cg fn (x, y, v, l)) (show am_put (hk kg) 7 (.inl (0, 20, F)) = hk (sg_c kg 8 F) from rfl))
theorem hc_c9 {cg : sg_T} {fn : Nat → Option Nat} {cx : cx_T} {F : Nat → Int32} : am_put (hc cg fn cx) 9 (.inl (0, 12, F)) = hc (sg_c cg 9 F) fn cx := rfl
theorem hc_c109 {cg kg : sg_T} {fn : Nat → Option Nat} {x y : Nat} {v : Value} {F : Nat → Int32} : am_put (hc cg fn (x, y, v, hk kg)) 109 (.inl (0, 12, F)) = hc cg fn (x, y, v, hk (sg_c kg 9 F)) := (hk_put (k := 8)).trans (congrArg (fun l => hc cg fn (x, y, v, l)) (show am_put (hk kg) 8 (.inl (0, 12, F)) = hk (sg_c kg 9 F) from rfl))
theorem hc_c10 {cg : sg_T} {fn : Nat → Option Nat} {cx : cx_T} {F : Nat → Int32} : am_put (hc cg fn cx) 10 (.inl (0, 12, F)) = hc (sg_c cg 10 F) fn cx := rfl
theorem hc_c110 {cg kg : sg_T} {fn : Nat → Option Nat} {x y : Nat} {v : Value} {F : Nat → Int32} : am_put (hc cg fn (x, y, v, hk kg)) 110 (.inl (0, 12, F)) = hc cg fn (x, y, v, hk (sg_c kg 10 F)) := (hk_put (k := 9)).trans (congrArg (fun l => hc cg fn (x, y, v, l)) (show am_put (hk kg) 9 (.inl (0, 12, F)) = hk (sg_c kg 10 F) from rfl))
theorem hc_c11 {cg : sg_T} {fn : Nat → Option Nat} {cx : cx_T} {F : Nat → Int32} : am_put (hc cg fn cx) 11 (.inl (0, 864, F)) = hc (sg_c cg 11 F) fn cx := rfl
theorem hc_c111 {cg kg : sg_T} {fn : Nat → Option Nat} {x y : Nat} {v : Value} {F : Nat → Int32} : am_put (hc cg fn (x, y, v, hk kg)) 111 (.inl (0, 864, F)) = hc cg fn (x, y, v, hk (sg_c kg 11 F)) := (hk_put (k := 10)).trans (congrArg (fun l => hc cg fn (x, y, v, l)) (show am_put (hk kg) 10 (.inl (0, 864, F)) = hk (sg_c kg 11 F) from rfl))
theorem hc_c12 {cg : sg_T} {fn : Nat → Option Nat} {cx : cx_T} {F : Nat → Int32} : am_put (hc cg fn cx) 12 (.inl (0, 10, F)) = hc (sg_c cg 12 F) fn cx := rfl
theorem hc_c112 {cg kg : sg_T} {fn : Nat → Option Nat} {x y : Nat} {v : Value} {F : Nat → Int32} : am_put (hc cg fn (x, y, v, hk kg)) 112 (.inl (0, 10, F)) = hc cg fn (x, y, v, hk (sg_c kg 12 F)) := (hk_put (k := 11)).trans (congrArg (fun l => hc cg fn (x, y, v, l)) (show am_put (hk kg) 11 (.inl (0, 10, F)) = hk (sg_c kg 12 F) from rfl))
theorem hc_c13 {cg : sg_T} {fn : Nat → Option Nat} {cx : cx_T} {F : Nat → Int32} : am_put (hc cg fn cx) 13 (.inl (0, 10, F)) = hc (sg_c cg 13 F) fn cx := rfl
theorem hc_c113 {cg kg : sg_T} {fn : Nat → Option Nat} {x y : Nat} {v : Value} {F : Nat → Int32} : am_put (hc cg fn (x, y, v, hk kg)) 113 (.inl (0, 10, F)) = hc cg fn (x, y, v, hk (sg_c kg 13 F)) := (hk_put (k := 12)).trans (congrArg (fun l => hc cg fn (x, y, v, l)) (show am_put (hk kg) 12 (.inl (0, 10, F)) = hk (sg_c kg 13 F) from rfl))
theorem hc_c14 {cg : sg_T} {fn : Nat → Option Nat} {cx : cx_T} {F : Nat → Int32} : am_put (hc cg fn cx) 14 (.inl (0, 10, F)) = hc (sg_c cg 14 F) fn cx := rfl
theorem hc_c114 {cg kg : sg_T} {fn : Nat → Option Nat} {x y : Nat} {v : Value} {F : Nat → Int32} : am_put (hc cg fn (x, y, v, hk kg)) 114 (.inl (0, 10, F)) = hc cg fn (x, y, v, hk (sg_c kg 14 F)) := (hk_put (k := 13)).trans (congrArg (fun l => hc cg fn (x, y, v, l)) (show am_put (hk kg) 13 (.inl (0, 10, F)) = hk (sg_c kg 14 F) from rfl))
theorem hc_c15 {cg : sg_T} {fn : Nat → Option Nat} {cx : cx_T} {F : Nat → Int32} : am_put (hc cg fn cx) 15 (.inl (0, 6, F)) = hc (sg_c cg 15 F) fn cx := rfl
theorem hc_c115 {cg kg : sg_T} {fn : Nat → Option Nat} {x y : Nat} {v : Value} {F : Nat → Int32} : am_put (hc cg fn (x, y, v, hk kg)) 115 (.inl (0, 6, F)) = hc cg fn (x, y, v, hk (sg_c kg 15 F)) := (hk_put (k := 14)).trans (congrArg (fun l => hc cg fn (x, y, v, l)) (show am_put (hk kg) 14 (.inl (0, 6, F)) = hk (sg_c kg 15 F) from rfl))
theorem hc_c116 {cg kg : sg_T} {fn : Nat → Option Nat} {x y : Nat} {v : Value} {F : Nat → Int32} : am_put (hc cg fn (x, y, v, hk kg)) 116 (.inl (1, 720, F)) = hc cg fn (x, y, v, hk (sg_c kg 16 F)) := (hk_put (k := 15)).trans (congrArg (fun l => hc cg fn (x, y, v, l)) (show am_put (hk kg) 15 (.inl (1, 720, F)) = hk (sg_c kg 16 F) from rfl))
theorem hc_c17 {cg : sg_T} {fn : Nat → Option Nat} {cx : cx_T} {F : Nat → Int32} : am_put (hc cg fn cx) 17 (.inl (2, 750, F)) = hc (sg_c cg 17 F) fn cx := rfl
theorem hc_c117 {cg kg : sg_T} {fn : Nat → Option Nat} {x y : Nat} {v : Value} {F : Nat → Int32} : am_put (hc cg fn (x, y, v, hk kg)) 117 (.inl (2, 750, F)) = hc cg fn (x, y, v, hk (sg_c kg 17 F)) := (hk_put (k := 16)).trans (congrArg (fun l => hc cg fn (x, y, v, l)) (show am_put (hk kg) 16 (.inl (2, 750, F)) = hk (sg_c kg 17 F) from rfl))
theorem hc_f101_7 {cg kg : sg_T} {fn : Nat → Option Nat} {x y : Nat} {v : Value} {a : Int32} : am_put (hc cg fn (x, y, v, hk kg)) 101 (.inr (.inr (0, am_put [.ref 102, .ref 103, .ref 104, .ref 105, .ref 106, .ref 107, .ref 108, .int (kg 1 7), .ref 109, .ref 110, .ref 111, .ref 112, .ref 113, .ref 114, .ref 115, .ref 116, .ref 117, .int (kg 1 17)] 7 (.int a)))) = hc cg fn (x, y, v, hk (sg_u kg 1 7 a)) := (hk_put (k := 0)).trans (congrArg (fun l => hc cg fn (x, y, v, l)) (show am_put (hk kg) 0 (.inr (.inr (0, am_put [.ref 102, .ref 103, .ref 104, .ref 105, .ref 106, .ref 107, .ref 108, .int (kg 1 7), .ref 109, .ref 110, .ref 111, .ref 112, .ref 113, .ref 114, .ref 115, .ref 116, .ref 117, .int (kg 1 17)] 7 (.int a)))) = hk (sg_u kg 1 7 a) from rfl))
theorem hc_f101_17 {cg kg : sg_T} {fn : Nat → Option Nat} {x y : Nat} {v : Value} {a : Int32} : am_put (hc cg fn (x, y, v, hk kg)) 101 (.inr (.inr (0, am_put [.ref 102, .ref 103, .ref 104, .ref 105, .ref 106, .ref 107, .ref 108, .int (kg 1 7), .ref 109, .ref 110, .ref 111, .ref 112, .ref 113, .ref 114, .ref 115, .ref 116, .ref 117, .int (kg 1 17)] 17 (.int a)))) = hc cg fn (x, y, v, hk (sg_u kg 1 17 a)) := (hk_put (k := 0)).trans (congrArg (fun l => hc cg fn (x, y, v, l)) (show am_put (hk kg) 0 (.inr (.inr (0, am_put [.ref 102, .ref 103, .ref 104, .ref 105, .ref 106, .ref 107, .ref 108, .int (kg 1 7), .ref 109, .ref 110, .ref 111, .ref 112, .ref 113, .ref 114, .ref 115, .ref 116, .ref 117, .int (kg 1 17)] 17 (.int a)))) = hk (sg_u kg 1 17 a) from rfl))
def cpT (s g : sg_T) (t : Nat) : Prop := (∀ i, i < 3 → g (18 + 3 * t) i = s (18 + 3 * t) i) ∧ (∀ i, i < 16 → g (19 + 3 * t) i = s (19 + 3 * t) i) ∧ ∀ i, i < 12 → g (20 + 3 * t) i = s (20 + 3 * t) i
def cpB (s g : sg_T) : Prop := (∀ i, i < 8 → g 2 i = s 2 i) ∧ (∀ i, i < 120 → g 3 i = s 3 i) ∧ (∀ i, i < 12 → g 5 i = s 5 i) ∧ (∀ i, i < 12 → g 6 i = s 6 i) ∧ (∀ i, i < 20 → g 7 i = s 7 i) ∧ (∀ i, i < 20 → g 8 i = s 8 i) ∧ (∀ i, i < 12 → g 9 i = s 9 i) ∧ (∀ i, i < 12 → g 10 i = s 10 i) ∧ (∀ i, i < 864 → g 11 i = s 11 i) ∧ (∀ i, i < 10 → g 12 i = s 12 i) ∧ (∀ i, i < 10 → g 13 i = s 13 i) ∧ (∀ i, i < 10 → g 14 i = s 14 i) ∧ (∀ i, i < 6 → g 15 i = s 15 i) ∧ (∀ i, i < 720 → g 16 i = s 16 i) ∧ (∀ i, i < 750 → g 17 i = s 17 i) ∧ g 1 7 = s 1 7 ∧ g 1 17 = s 1 17 ∧ ∀ t, t < 20 → cpT s g t
theorem tb_i {cg kg : sg_T} {fn : Nat → Option Nat} {x y : Nat} {v : Value} {d t : Nat} (hd : 1 ≤ d) (ht : t < 20) : am_Met mi_X10_become d 0 0 [.ref (118 + 3 * t), .ref (18 + 3 * t)] (hc cg fn (x, y, v, hk kg)) (fun r h' => r = none ∧ ∃ g, h' = hc cg fn (x, y, v, hk g) ∧ (∀ c, c ≠ 18 + 3 * t → c ≠ 19 + 3 * t → c ≠ 20 + 3 * t → g c = kg c) ∧ cpT cg g t) := by
  refine am_Met.of rfl (Nat.le_of_ble_eq_true rfl) ?_
  refine am_go ok_X10_become [] 92 ?_
  refine ⟨_, _, hc_nT ht, rfl, ?_⟩
  refine ⟨_, hk_nT ht, Nat.le_of_ble_eq_true rfl, trivial, ?_⟩
  rw [hk_fT0 ht]
  refine ⟨_, _, hc_nT ht, rfl, ?_⟩
  refine ⟨_, hk_nT ht, Nat.le_of_ble_eq_true rfl, trivial, ?_⟩
  rw [hk_fT1 ht]
  refine ⟨_, _, hc_nT ht, rfl, ?_⟩
  refine ⟨_, hk_nT ht, Nat.le_of_ble_eq_true rfl, trivial, ?_⟩
  rw [hk_fT2 ht]
  refine ⟨_, _, hc_nT ht, rfl, ?_⟩
  refine ⟨_, _, hk_nT ht, rfl, ?_⟩
  refine ⟨_, _, hk_nT ht, rfl, ?_⟩
  refine ⟨_, _, hk_nP ht, ?_⟩
  refine ⟨_, _, _, _, hc_nP ht, hk_nP ht, by decide, by decide, by decide, by decide, by decide, fun _ _ => rfl, by omega, Nat.le_of_ble_eq_true rfl, ?_⟩
  rw [hk_cP ht]
  refine ⟨_, _, hc_nT ht, rfl, ?_⟩
  refine ⟨_, _, hk_nT ht, rfl, ?_⟩
  refine ⟨_, _, hk_nT ht, rfl, ?_⟩
  refine ⟨_, _, hk_nC ht, ?_⟩
  refine ⟨_, _, _, _, hc_nC ht, hk_nC ht, by decide, by decide, by decide, by decide, by decide, fun _ _ => rfl, by omega, Nat.le_of_ble_eq_true rfl, ?_⟩
  rw [hk_cC ht]
  refine ⟨rfl, _, rfl, fun c h1 h2 h3 => by rw [sc_i h3, sc_i h2, sg_i h1, sg_i h1, sg_i h1], fun i hi => ?_, fun i hi => ?_, fun i hi => ?_⟩
  · rw [sc_i (by omega), sc_i (by omega)]
    rcases (show i = 0 ∨ i = 1 ∨ i = 2 by omega) with q | q | q
    · subst q; rw [sg_j (by decide), sg_j (by decide), sg_s]
    · subst q; rw [sg_j (by decide), sg_s]
    · subst q; rw [sg_s]
  · rw [sc_i (by omega), sc_s, cp0 (by decide) hi]
  · rw [sc_s, cp0 (by decide) hi]
theorem tb_u {cg kg : sg_T} {fn : Nat → Option Nat} {x y : Nat} {v : Value} {d t : Nat} (hd : 1 ≤ d) (ht : t < 20) : am_Met mi_X10_become d 0 0 [.ref (18 + 3 * t), .ref (118 + 3 * t)] (hc cg fn (x, y, v, hk kg)) (fun r h' => r = none ∧ ∃ g, h' = hc g fn (x, y, v, hk kg) ∧ (∀ c, c ≠ 18 + 3 * t → c ≠ 19 + 3 * t → c ≠ 20 + 3 * t → g c = cg c) ∧ cpT kg g t) := by
  refine am_Met.of rfl (Nat.le_of_ble_eq_true rfl) ?_
  refine am_go ok_X10_become [] 92 ?_
  refine ⟨_, _, hk_nT ht, rfl, ?_⟩
  refine ⟨_, hc_nT ht, Nat.le_of_ble_eq_true rfl, trivial, ?_⟩
  rw [hc_fT0 ht]
  refine ⟨_, _, hk_nT ht, rfl, ?_⟩
  refine ⟨_, hc_nT ht, Nat.le_of_ble_eq_true rfl, trivial, ?_⟩
  rw [hc_fT1 ht]
  refine ⟨_, _, hk_nT ht, rfl, ?_⟩
  refine ⟨_, hc_nT ht, Nat.le_of_ble_eq_true rfl, trivial, ?_⟩
  rw [hc_fT2 ht]
  refine ⟨_, _, hk_nT ht, rfl, ?_⟩
  refine ⟨_, _, hc_nT ht, rfl, ?_⟩
  refine ⟨_, _, hc_nT ht, rfl, ?_⟩
  refine ⟨_, _, hc_nP ht, ?_⟩
  refine ⟨_, _, _, _, hk_nP ht, hc_nP ht, by decide, by decide, by decide, by decide, by decide, fun _ _ => rfl, by omega, Nat.le_of_ble_eq_true rfl, ?_⟩
  rw [hc_cP ht]
  refine ⟨_, _, hk_nT ht, rfl, ?_⟩
  refine ⟨_, _, hc_nT ht, rfl, ?_⟩
  refine ⟨_, _, hc_nT ht, rfl, ?_⟩
  refine ⟨_, _, hc_nC ht, ?_⟩
  refine ⟨_, _, _, _, hk_nC ht, hc_nC ht, by decide, by decide, by decide, by decide, by decide, fun _ _ => rfl, by omega, Nat.le_of_ble_eq_true rfl, ?_⟩
  rw [hc_cC ht]
  refine ⟨rfl, _, rfl, fun c h1 h2 h3 => by rw [sc_i h3, sc_i h2, sg_i h1, sg_i h1, sg_i h1], fun i hi => ?_, fun i hi => ?_, fun i hi => ?_⟩
  · rw [sc_i (by omega), sc_i (by omega)]
    rcases (show i = 0 ∨ i = 1 ∨ i = 2 by omega) with q | q | q
    · subst q; rw [sg_j (by decide), sg_j (by decide), sg_s]
    · subst q; rw [sg_j (by decide), sg_s]
    · subst q; rw [sg_s]
  · rw [sc_i (by omega), sc_s, cp0 (by decide) hi]
  · rw [sc_s, cp0 (by decide) hi]
theorem bb_i_l {cg kg0 : sg_T} {fn : Nat → Option Nat} {x y : Nat} {v : Value} {d kc ks : Nat} (hd : 3 ≤ d) (h3 : ∀ i, i < 120 → fits (am_aty 1) (.int (cg 3 i)) = true) (h16 : ∀ i, i < 720 → fits (am_aty 1) (.int (cg 16 i)) = true) (h17 : ∀ i, i < 750 → fits (am_aty 2) (.int (cg 17 i)) = true) (hf : am_fit .boolean (.int (cg 1 17))) : ∀ (u k : Nat) (z : Int32) (kg : sg_T), z = nI k → (∀ c, 78 ≤ c → kg c = kg0 c) → (∀ i, i < 8 → kg 2 i = cg 2 i) → (∀ i, i < 120 → kg 3 i = cg 3 i) → (∀ t, t < k → cpT cg kg t) → k ≤ 20 → 20 < k + u → am_W mi_X0_become d (fun r h' => r = none ∧ ∃ g, h' = hc cg fn (x, y, v, hk g) ∧ (∀ c, 78 ≤ c → g c = kg0 c) ∧ cpB cg g) kc ks 38 [some (.ref 101), some (.ref 1), some (.int z)] [] (hc cg fn (x, y, v, hk kg)) := by
  intro u
  induction u with
  | zero => intro k z kg hz Fr H2 H3 HT h1 h2; exact absurd h2 (by omega)
  | succ u ih =>
    intro k z kg hz Fr H2 H3 HT h1 h2
    refine am_go ok_X0_become [38] 203 ?_
    refine ⟨_, _, rfl, rfl, ?_⟩
    refine ⟨_, _, rfl, ?_⟩
    refine ⟨fun c44 => ?_, fun c44 => ?_⟩
    · have k1 : k = 20 := by rw [hz] at c44; have := (nI_leI (a := 20) (by omega) (by omega)).mp c44; omega
      subst k1
      refine ⟨_, _, rfl, rfl, ?_⟩
      refine ⟨_, _, rfl, rfl, ?_⟩
      refine ⟨_, _, rfl, rfl, ?_⟩
      refine ⟨_, _, rfl, ?_⟩
      refine ⟨_, _, _, _, rfl, rfl, by decide, by decide, by decide, by decide, by decide, fun _ _ => rfl, by omega, Nat.le_of_ble_eq_true rfl, ?_⟩
      rw [hc_c105]
      refine ⟨_, _, rfl, rfl, ?_⟩
      refine ⟨_, _, rfl, rfl, ?_⟩
      refine ⟨_, _, rfl, rfl, ?_⟩
      refine ⟨_, _, rfl, ?_⟩
      refine ⟨_, _, _, _, rfl, rfl, by decide, by decide, by decide, by decide, by decide, fun _ _ => rfl, by omega, Nat.le_of_ble_eq_true rfl, ?_⟩
      rw [hc_c106]
      refine ⟨_, _, rfl, rfl, ?_⟩
      refine ⟨_, _, rfl, rfl, ?_⟩
      refine ⟨_, _, rfl, rfl, ?_⟩
      refine ⟨_, _, rfl, ?_⟩
      refine ⟨_, _, _, _, rfl, rfl, by decide, by decide, by decide, by decide, by decide, fun _ _ => rfl, by omega, Nat.le_of_ble_eq_true rfl, ?_⟩
      rw [hc_c107]
      refine ⟨_, _, rfl, rfl, ?_⟩
      refine ⟨_, _, rfl, rfl, ?_⟩
      refine ⟨_, _, rfl, rfl, ?_⟩
      refine ⟨_, _, rfl, ?_⟩
      refine ⟨_, _, _, _, rfl, rfl, by decide, by decide, by decide, by decide, by decide, fun _ _ => rfl, by omega, Nat.le_of_ble_eq_true rfl, ?_⟩
      rw [hc_c108]
      refine ⟨_, _, rfl, rfl, ?_⟩
      refine ⟨_, rfl, Nat.le_of_ble_eq_true rfl, trivial, ?_⟩
      rw [hc_f101_7]
      refine ⟨_, _, rfl, rfl, ?_⟩
      refine ⟨_, _, rfl, rfl, ?_⟩
      refine ⟨_, _, rfl, rfl, ?_⟩
      refine ⟨_, _, rfl, ?_⟩
      refine ⟨_, _, _, _, rfl, rfl, by decide, by decide, by decide, by decide, by decide, fun _ _ => rfl, by omega, Nat.le_of_ble_eq_true rfl, ?_⟩
      rw [hc_c109]
      refine ⟨_, _, rfl, rfl, ?_⟩
      refine ⟨_, _, rfl, rfl, ?_⟩
      refine ⟨_, _, rfl, rfl, ?_⟩
      refine ⟨_, _, rfl, ?_⟩
      refine ⟨_, _, _, _, rfl, rfl, by decide, by decide, by decide, by decide, by decide, fun _ _ => rfl, by omega, Nat.le_of_ble_eq_true rfl, ?_⟩
      rw [hc_c110]
      refine ⟨_, _, rfl, rfl, ?_⟩
      refine ⟨_, _, rfl, rfl, ?_⟩
      refine ⟨_, _, rfl, rfl, ?_⟩
      refine ⟨_, _, rfl, ?_⟩
      refine ⟨_, _, _, _, rfl, rfl, by decide, by decide, by decide, by decide, by decide, fun _ _ => rfl, by omega, Nat.le_of_ble_eq_true rfl, ?_⟩
      rw [hc_c111]
      refine ⟨_, _, rfl, rfl, ?_⟩
      refine ⟨_, _, rfl, rfl, ?_⟩
      refine ⟨_, _, rfl, rfl, ?_⟩
      refine ⟨_, _, rfl, ?_⟩
      refine ⟨_, _, _, _, rfl, rfl, by decide, by decide, by decide, by decide, by decide, fun _ _ => rfl, by omega, Nat.le_of_ble_eq_true rfl, ?_⟩
      rw [hc_c112]
      refine ⟨_, _, rfl, rfl, ?_⟩
      refine ⟨_, _, rfl, rfl, ?_⟩
      refine ⟨_, _, rfl, rfl, ?_⟩
      refine ⟨_, _, rfl, ?_⟩
      refine ⟨_, _, _, _, rfl, rfl, by decide, by decide, by decide, by decide, by decide, fun _ _ => rfl, by omega, Nat.le_of_ble_eq_true rfl, ?_⟩
      rw [hc_c113]
      refine ⟨_, _, rfl, rfl, ?_⟩
      refine ⟨_, _, rfl, rfl, ?_⟩
      refine ⟨_, _, rfl, rfl, ?_⟩
      refine ⟨_, _, rfl, ?_⟩
      refine ⟨_, _, _, _, rfl, rfl, by decide, by decide, by decide, by decide, by decide, fun _ _ => rfl, by omega, Nat.le_of_ble_eq_true rfl, ?_⟩
      rw [hc_c114]
      refine ⟨_, _, rfl, rfl, ?_⟩
      refine ⟨_, _, rfl, rfl, ?_⟩
      refine ⟨_, _, rfl, rfl, ?_⟩
      refine ⟨_, _, rfl, ?_⟩
      refine ⟨_, _, _, _, rfl, rfl, by decide, by decide, by decide, by decide, by decide, fun _ _ => rfl, by omega, Nat.le_of_ble_eq_true rfl, ?_⟩
      rw [hc_c115]
      refine ⟨_, _, rfl, rfl, ?_⟩
      refine ⟨_, _, rfl, rfl, ?_⟩
      refine ⟨_, _, rfl, rfl, ?_⟩
      refine ⟨_, _, rfl, ?_⟩
      refine ⟨_, _, _, _, rfl, rfl, by decide, by decide, by decide, by decide, by decide, fun i hi => by rw [show (Int32.ofNat 720).toNatClampNeg = 720 by decide] at hi; rw [show (0 : Int32).toNatClampNeg + i = i from Nat.zero_add i]; exact h16 i hi, by omega, Nat.le_of_ble_eq_true rfl, ?_⟩
      rw [hc_c116]
      refine ⟨_, _, rfl, rfl, ?_⟩
      refine ⟨_, _, rfl, rfl, ?_⟩
      refine ⟨_, _, rfl, rfl, ?_⟩
      refine ⟨_, _, rfl, ?_⟩
      refine ⟨_, _, _, _, rfl, rfl, by decide, by decide, by decide, by decide, by decide, fun i hi => by rw [show (Int32.ofNat 750).toNatClampNeg = 750 by decide] at hi; rw [show (0 : Int32).toNatClampNeg + i = i from Nat.zero_add i]; exact h17 i hi, by omega, Nat.le_of_ble_eq_true rfl, ?_⟩
      rw [hc_c117]
      refine ⟨_, _, rfl, rfl, ?_⟩
      refine ⟨_, rfl, Nat.le_of_ble_eq_true rfl, hf, ?_⟩
      rw [hc_f101_17]
      refine ⟨rfl, _, rfl, fun c hc => by rw [sg_i (by omega), sc_i (by omega), sc_i (by omega), sc_i (by omega), sc_i (by omega), sc_i (by omega), sc_i (by omega), sc_i (by omega), sc_i (by omega), sc_i (by omega), sg_i (by omega), sc_i (by omega), sc_i (by omega), sc_i (by omega), sc_i (by omega)]; exact Fr c hc, fun i hi => by rw [sg_i (by decide), sc_i (by decide), sc_i (by decide), sc_i (by decide), sc_i (by decide), sc_i (by decide), sc_i (by decide), sc_i (by decide), sc_i (by decide), sc_i (by decide), sg_i (by decide), sc_i (by decide), sc_i (by decide), sc_i (by decide), sc_i (by decide)]; exact H2 i hi, fun i hi => by rw [sg_i (by decide), sc_i (by decide), sc_i (by decide), sc_i (by decide), sc_i (by decide), sc_i (by decide), sc_i (by decide), sc_i (by decide), sc_i (by decide), sc_i (by decide), sg_i (by decide), sc_i (by decide), sc_i (by decide), sc_i (by decide), sc_i (by decide)]; exact H3 i hi, fun i hi => by rw [sg_i (by decide), sc_i (by decide), sc_i (by decide), sc_i (by decide), sc_i (by decide), sc_i (by decide), sc_i (by decide), sc_i (by decide), sc_i (by decide), sc_i (by decide), sg_i (by decide), sc_i (by decide), sc_i (by decide), sc_i (by decide), sc_s, cp0 (by decide) hi], fun i hi => by rw [sg_i (by decide), sc_i (by decide), sc_i (by decide), sc_i (by decide), sc_i (by decide), sc_i (by decide), sc_i (by decide), sc_i (by decide), sc_i (by decide), sc_i (by decide), sg_i (by decide), sc_i (by decide), sc_i (by decide), sc_s, cp0 (by decide) hi], fun i hi => by rw [sg_i (by decide), sc_i (by decide), sc_i (by decide), sc_i (by decide), sc_i (by decide), sc_i (by decide), sc_i (by decide), sc_i (by decide), sc_i (by decide), sc_i (by decide), sg_i (by decide), sc_i (by decide), sc_s, cp0 (by decide) hi], fun i hi => by rw [sg_i (by decide), sc_i (by decide), sc_i (by decide), sc_i (by decide), sc_i (by decide), sc_i (by decide), sc_i (by decide), sc_i (by decide), sc_i (by decide), sc_i (by decide), sg_i (by decide), sc_s, cp0 (by decide) hi], fun i hi => by rw [sg_i (by decide), sc_i (by decide), sc_i (by decide), sc_i (by decide), sc_i (by decide), sc_i (by decide), sc_i (by decide), sc_i (by decide), sc_i (by decide), sc_s, cp0 (by decide) hi], fun i hi => by rw [sg_i (by decide), sc_i (by decide), sc_i (by decide), sc_i (by decide), sc_i (by decide), sc_i (by decide), sc_i (by decide), sc_i (by decide), sc_s, cp0 (by decide) hi], fun i hi => by rw [sg_i (by decide), sc_i (by decide), sc_i (by decide), sc_i (by decide), sc_i (by decide), sc_i (by decide), sc_i (by decide), sc_s, cp0 (by decide) hi], fun i hi => by rw [sg_i (by decide), sc_i (by decide), sc_i (by decide), sc_i (by decide), sc_i (by decide), sc_i (by decide), sc_s, cp0 (by decide) hi], fun i hi => by rw [sg_i (by decide), sc_i (by decide), sc_i (by decide), sc_i (by decide), sc_i (by decide), sc_s, cp0 (by decide) hi], fun i hi => by rw [sg_i (by decide), sc_i (by decide), sc_i (by decide), sc_i (by decide), sc_s, cp0 (by decide) hi], fun i hi => by rw [sg_i (by decide), sc_i (by decide), sc_i (by decide), sc_s, cp0 (by decide) hi], fun i hi => by rw [sg_i (by decide), sc_i (by decide), sc_s, cp0 (by decide) hi], fun i hi => by rw [sg_i (by decide), sc_s, cp0 (by decide) hi], by rw [sg_j (by decide), sc_i (by decide), sc_i (by decide), sc_i (by decide), sc_i (by decide), sc_i (by decide), sc_i (by decide), sc_i (by decide), sc_i (by decide), sc_i (by decide), sg_s], sg_s, fun t ht => ⟨fun i hi => by rw [sg_i (by omega), sc_i (by omega), sc_i (by omega), sc_i (by omega), sc_i (by omega), sc_i (by omega), sc_i (by omega), sc_i (by omega), sc_i (by omega), sc_i (by omega), sg_i (by omega), sc_i (by omega), sc_i (by omega), sc_i (by omega), sc_i (by omega)]; exact (HT t ht).1 i hi, fun i hi => by rw [sg_i (by omega), sc_i (by omega), sc_i (by omega), sc_i (by omega), sc_i (by omega), sc_i (by omega), sc_i (by omega), sc_i (by omega), sc_i (by omega), sc_i (by omega), sg_i (by omega), sc_i (by omega), sc_i (by omega), sc_i (by omega), sc_i (by omega)]; exact (HT t ht).2.1 i hi, fun i hi => by rw [sg_i (by omega), sc_i (by omega), sc_i (by omega), sc_i (by omega), sc_i (by omega), sc_i (by omega), sc_i (by omega), sc_i (by omega), sc_i (by omega), sc_i (by omega), sg_i (by omega), sc_i (by omega), sc_i (by omega), sc_i (by omega), sc_i (by omega)]; exact (HT t ht).2.2 i hi⟩⟩
    · have k1 : k < 20 := by
        rcases Nat.lt_or_ge k 20 with q1 | q1
        · exact q1
        · exact absurd (by rw [hz]; exact (nI_leI (a := 20) (by omega) (by omega)).mpr q1) c44
      refine ⟨_, _, rfl, rfl, ?_⟩
      refine ⟨_, _, k, _, rfl, hz, by omega, Nat.le_of_ble_eq_true rfl, tk_at k1, ?_⟩
      refine ⟨_, _, rfl, rfl, ?_⟩
      refine ⟨_, _, k, _, rfl, hz, by omega, Nat.le_of_ble_eq_true rfl, tf_at k1, ?_⟩
      refine ⟨_, hk_nT k1, d - 1, 0, 0, _, by omega, Nat.le_of_ble_eq_true rfl, Nat.le_of_ble_eq_true rfl, Nat.le_of_ble_eq_true rfl, tb_i (d := d - 1) (by omega) k1, ?_⟩
      rintro _ _ ⟨rfl, g1, rfl, F1, C1⟩
      refine ⟨Or.inl rfl, ?_⟩
      exact ih (k + 1) _ g1 (by rw [hz, nI_1]) (fun c hc => (F1 c (by omega) (by omega) (by omega)).trans (Fr c hc)) (fun i hi => by rw [F1 2 (by omega) (by omega) (by omega)]; exact H2 i hi) (fun i hi => by rw [F1 3 (by omega) (by omega) (by omega)]; exact H3 i hi) (fun t ht => by
        by_cases q : t = k
        · rw [q]; exact C1
        · obtain ⟨a1, a2, a3⟩ := HT t (by omega)
          exact ⟨fun i hi => by rw [F1 _ (by omega) (by omega) (by omega)]; exact a1 i hi, fun i hi => by rw [F1 _ (by omega) (by omega) (by omega)]; exact a2 i hi, fun i hi => by rw [F1 _ (by omega) (by omega) (by omega)]; exact a3 i hi⟩) (by omega) (by omega)
theorem bb_i {cg kg0 : sg_T} {fn : Nat → Option Nat} {x y : Nat} {v : Value} {d : Nat} (hd : 3 ≤ d) (h3 : ∀ i, i < 120 → fits (am_aty 1) (.int (cg 3 i)) = true) (h16 : ∀ i, i < 720 → fits (am_aty 1) (.int (cg 16 i)) = true) (h17 : ∀ i, i < 750 → fits (am_aty 2) (.int (cg 17 i)) = true) (hf : am_fit .boolean (.int (cg 1 17))) : am_Met mi_X0_become d 0 0 [.ref 101, .ref 1] (hc cg fn (x, y, v, hk kg0)) (fun r h' => r = none ∧ ∃ g, h' = hc cg fn (x, y, v, hk g) ∧ (∀ c, 78 ≤ c → g c = kg0 c) ∧ cpB cg g) := by
  refine am_Met.of rfl (Nat.le_of_ble_eq_true rfl) ?_
  refine am_go ok_X0_become [38] 82 ?_
  refine ⟨_, _, rfl, rfl, ?_⟩
  refine ⟨_, _, rfl, rfl, ?_⟩
  refine ⟨_, _, rfl, rfl, ?_⟩
  refine ⟨_, _, rfl, ?_⟩
  refine ⟨_, _, _, _, rfl, rfl, by decide, by decide, by decide, by decide, by decide, fun _ _ => rfl, by omega, Nat.le_of_ble_eq_true rfl, ?_⟩
  rw [hc_c102]
  refine ⟨_, _, rfl, rfl, ?_⟩
  refine ⟨_, _, rfl, rfl, ?_⟩
  refine ⟨_, _, rfl, rfl, ?_⟩
  refine ⟨_, _, rfl, ?_⟩
  refine ⟨_, _, _, _, rfl, rfl, by decide, by decide, by decide, by decide, by decide, fun i hi => by rw [show (Int32.ofNat 120).toNatClampNeg = 120 by decide] at hi; rw [show (0 : Int32).toNatClampNeg + i = i from Nat.zero_add i]; exact h3 i hi, by omega, Nat.le_of_ble_eq_true rfl, ?_⟩
  rw [hc_c103]
  exact bb_i_l hd h3 h16 h17 hf 21 0 0 _ rfl (fun c hc => by rw [sc_i (by omega), sc_i (by omega)]) (fun i hi => by rw [sc_i (by decide), sc_s, cp0 (by decide) hi]) (fun i hi => by rw [sc_s, cp0 (by decide) hi]) (fun t ht => absurd ht (by omega)) (by omega) (by omega)
theorem bb_u_l {kg cg0 : sg_T} {fn : Nat → Option Nat} {x y : Nat} {v : Value} {d kc ks : Nat} (hd : 3 ≤ d) (h3 : ∀ i, i < 120 → fits (am_aty 1) (.int (kg 3 i)) = true) (h16 : ∀ i, i < 720 → fits (am_aty 1) (.int (kg 16 i)) = true) (h17 : ∀ i, i < 750 → fits (am_aty 2) (.int (kg 17 i)) = true) (hf : am_fit .boolean (.int (kg 1 17))) : ∀ (u k : Nat) (z : Int32) (cg : sg_T), z = nI k → (∀ c, 78 ≤ c → cg c = cg0 c) → (∀ i, i < 8 → cg 2 i = kg 2 i) → (∀ i, i < 120 → cg 3 i = kg 3 i) → (∀ t, t < k → cpT kg cg t) → k ≤ 20 → 20 < k + u → am_W mi_X0_become d (fun r h' => r = none ∧ ∃ g, h' = hc g fn (x, y, v, hk kg) ∧ (∀ c, 78 ≤ c → g c = cg0 c) ∧ cpB kg g) kc ks 38 [some (.ref 1), some (.ref 101), some (.int z)] [] (hc cg fn (x, y, v, hk kg)) := by
  intro u
  induction u with
  | zero => intro k z cg hz Fr H2 H3 HT h1 h2; exact absurd h2 (by omega)
  | succ u ih =>
    intro k z cg hz Fr H2 H3 HT h1 h2
    refine am_go ok_X0_become [38] 203 ?_
    refine ⟨_, _, rfl, rfl, ?_⟩
    refine ⟨_, _, rfl, ?_⟩
    refine ⟨fun c44 => ?_, fun c44 => ?_⟩
    · have k1 : k = 20 := by rw [hz] at c44; have := (nI_leI (a := 20) (by omega) (by omega)).mp c44; omega
      subst k1
      refine ⟨_, _, rfl, rfl, ?_⟩
      refine ⟨_, _, rfl, rfl, ?_⟩
      refine ⟨_, _, rfl, rfl, ?_⟩
      refine ⟨_, _, rfl, ?_⟩
      refine ⟨_, _, _, _, rfl, rfl, by decide, by decide, by decide, by decide, by decide, fun _ _ => rfl, by omega, Nat.le_of_ble_eq_true rfl, ?_⟩
      rw [hc_c5]
      refine ⟨_, _, rfl, rfl, ?_⟩
      refine ⟨_, _, rfl, rfl, ?_⟩
      refine ⟨_, _, rfl, rfl, ?_⟩
      refine ⟨_, _, rfl, ?_⟩
      refine ⟨_, _, _, _, rfl, rfl, by decide, by decide, by decide, by decide, by decide, fun _ _ => rfl, by omega, Nat.le_of_ble_eq_true rfl, ?_⟩
      rw [hc_c6]
      refine ⟨_, _, rfl, rfl, ?_⟩
      refine ⟨_, _, rfl, rfl, ?_⟩
      refine ⟨_, _, rfl, rfl, ?_⟩
      refine ⟨_, _, rfl, ?_⟩
      refine ⟨_, _, _, _, rfl, rfl, by decide, by decide, by decide, by decide, by decide, fun _ _ => rfl, by omega, Nat.le_of_ble_eq_true rfl, ?_⟩
      rw [hc_c7]
      refine ⟨_, _, rfl, rfl, ?_⟩
      refine ⟨_, _, rfl, rfl, ?_⟩
      refine ⟨_, _, rfl, rfl, ?_⟩
      refine ⟨_, _, rfl, ?_⟩
      refine ⟨_, _, _, _, rfl, rfl, by decide, by decide, by decide, by decide, by decide, fun _ _ => rfl, by omega, Nat.le_of_ble_eq_true rfl, ?_⟩
      rw [hc_c8]
      refine ⟨_, _, rfl, rfl, ?_⟩
      refine ⟨_, rfl, Nat.le_of_ble_eq_true rfl, trivial, ?_⟩
      rw [hc_f1_7]
      refine ⟨_, _, rfl, rfl, ?_⟩
      refine ⟨_, _, rfl, rfl, ?_⟩
      refine ⟨_, _, rfl, rfl, ?_⟩
      refine ⟨_, _, rfl, ?_⟩
      refine ⟨_, _, _, _, rfl, rfl, by decide, by decide, by decide, by decide, by decide, fun _ _ => rfl, by omega, Nat.le_of_ble_eq_true rfl, ?_⟩
      rw [hc_c9]
      refine ⟨_, _, rfl, rfl, ?_⟩
      refine ⟨_, _, rfl, rfl, ?_⟩
      refine ⟨_, _, rfl, rfl, ?_⟩
      refine ⟨_, _, rfl, ?_⟩
      refine ⟨_, _, _, _, rfl, rfl, by decide, by decide, by decide, by decide, by decide, fun _ _ => rfl, by omega, Nat.le_of_ble_eq_true rfl, ?_⟩
      rw [hc_c10]
      refine ⟨_, _, rfl, rfl, ?_⟩
      refine ⟨_, _, rfl, rfl, ?_⟩
      refine ⟨_, _, rfl, rfl, ?_⟩
      refine ⟨_, _, rfl, ?_⟩
      refine ⟨_, _, _, _, rfl, rfl, by decide, by decide, by decide, by decide, by decide, fun _ _ => rfl, by omega, Nat.le_of_ble_eq_true rfl, ?_⟩
      rw [hc_c11]
      refine ⟨_, _, rfl, rfl, ?_⟩
      refine ⟨_, _, rfl, rfl, ?_⟩
      refine ⟨_, _, rfl, rfl, ?_⟩
      refine ⟨_, _, rfl, ?_⟩
      refine ⟨_, _, _, _, rfl, rfl, by decide, by decide, by decide, by decide, by decide, fun _ _ => rfl, by omega, Nat.le_of_ble_eq_true rfl, ?_⟩
      rw [hc_c12]
      refine ⟨_, _, rfl, rfl, ?_⟩
      refine ⟨_, _, rfl, rfl, ?_⟩
      refine ⟨_, _, rfl, rfl, ?_⟩
      refine ⟨_, _, rfl, ?_⟩
      refine ⟨_, _, _, _, rfl, rfl, by decide, by decide, by decide, by decide, by decide, fun _ _ => rfl, by omega, Nat.le_of_ble_eq_true rfl, ?_⟩
      rw [hc_c13]
      refine ⟨_, _, rfl, rfl, ?_⟩
      refine ⟨_, _, rfl, rfl, ?_⟩
      refine ⟨_, _, rfl, rfl, ?_⟩
      refine ⟨_, _, rfl, ?_⟩
      refine ⟨_, _, _, _, rfl, rfl, by decide, by decide, by decide, by decide, by decide, fun _ _ => rfl, by omega, Nat.le_of_ble_eq_true rfl, ?_⟩
      rw [hc_c14]
      refine ⟨_, _, rfl, rfl, ?_⟩
      refine ⟨_, _, rfl, rfl, ?_⟩
      refine ⟨_, _, rfl, rfl, ?_⟩
      refine ⟨_, _, rfl, ?_⟩
      refine ⟨_, _, _, _, rfl, rfl, by decide, by decide, by decide, by decide, by decide, fun _ _ => rfl, by omega, Nat.le_of_ble_eq_true rfl, ?_⟩
      rw [hc_c15]
      refine ⟨_, _, rfl, rfl, ?_⟩
      refine ⟨_, _, rfl, rfl, ?_⟩
      refine ⟨_, _, rfl, rfl, ?_⟩
      refine ⟨_, _, rfl, ?_⟩
      refine ⟨_, _, _, _, rfl, rfl, by decide, by decide, by decide, by decide, by decide, fun i hi => by rw [show (Int32.ofNat 720).toNatClampNeg = 720 by decide] at hi; rw [show (0 : Int32).toNatClampNeg + i = i from Nat.zero_add i]; exact h16 i hi, by omega, Nat.le_of_ble_eq_true rfl, ?_⟩
      rw [hc_c16]
      refine ⟨_, _, rfl, rfl, ?_⟩
      refine ⟨_, _, rfl, rfl, ?_⟩
      refine ⟨_, _, rfl, rfl, ?_⟩
      refine ⟨_, _, rfl, ?_⟩
      refine ⟨_, _, _, _, rfl, rfl, by decide, by decide, by decide, by decide, by decide, fun i hi => by rw [show (Int32.ofNat 750).toNatClampNeg = 750 by decide] at hi; rw [show (0 : Int32).toNatClampNeg + i = i from Nat.zero_add i]; exact h17 i hi, by omega, Nat.le_of_ble_eq_true rfl, ?_⟩
      rw [hc_c17]
      refine ⟨_, _, rfl, rfl, ?_⟩
      refine ⟨_, rfl, Nat.le_of_ble_eq_true rfl, hf, ?_⟩
      rw [hc_f1_17]
      refine ⟨rfl, _, rfl, fun c hc => by rw [sg_i (by omega), sc_i (by omega), sc_i (by omega), sc_i (by omega), sc_i (by omega), sc_i (by omega), sc_i (by omega), sc_i (by omega), sc_i (by omega), sc_i (by omega), sg_i (by omega), sc_i (by omega), sc_i (by omega), sc_i (by omega), sc_i (by omega)]; exact Fr c hc, fun i hi => by rw [sg_i (by decide), sc_i (by decide), sc_i (by decide), sc_i (by decide), sc_i (by decide), sc_i (by decide), sc_i (by decide), sc_i (by decide), sc_i (by decide), sc_i (by decide), sg_i (by decide), sc_i (by decide), sc_i (by decide), sc_i (by decide), sc_i (by decide)]; exact H2 i hi, fun i hi => by rw [sg_i (by decide), sc_i (by decide), sc_i (by decide), sc_i (by decide), sc_i (by decide), sc_i (by decide), sc_i (by decide), sc_i (by decide), sc_i (by decide), sc_i (by decide), sg_i (by decide), sc_i (by decide), sc_i (by decide), sc_i (by decide), sc_i (by decide)]; exact H3 i hi, fun i hi => by rw [sg_i (by decide), sc_i (by decide), sc_i (by decide), sc_i (by decide), sc_i (by decide), sc_i (by decide), sc_i (by decide), sc_i (by decide), sc_i (by decide), sc_i (by decide), sg_i (by decide), sc_i (by decide), sc_i (by decide), sc_i (by decide), sc_s, cp0 (by decide) hi], fun i hi => by rw [sg_i (by decide), sc_i (by decide), sc_i (by decide), sc_i (by decide), sc_i (by decide), sc_i (by decide), sc_i (by decide), sc_i (by decide), sc_i (by decide), sc_i (by decide), sg_i (by decide), sc_i (by decide), sc_i (by decide), sc_s, cp0 (by decide) hi], fun i hi => by rw [sg_i (by decide), sc_i (by decide), sc_i (by decide), sc_i (by decide), sc_i (by decide), sc_i (by decide), sc_i (by decide), sc_i (by decide), sc_i (by decide), sc_i (by decide), sg_i (by decide), sc_i (by decide), sc_s, cp0 (by decide) hi], fun i hi => by rw [sg_i (by decide), sc_i (by decide), sc_i (by decide), sc_i (by decide), sc_i (by decide), sc_i (by decide), sc_i (by decide), sc_i (by decide), sc_i (by decide), sc_i (by decide), sg_i (by decide), sc_s, cp0 (by decide) hi], fun i hi => by rw [sg_i (by decide), sc_i (by decide), sc_i (by decide), sc_i (by decide), sc_i (by decide), sc_i (by decide), sc_i (by decide), sc_i (by decide), sc_i (by decide), sc_s, cp0 (by decide) hi], fun i hi => by rw [sg_i (by decide), sc_i (by decide), sc_i (by decide), sc_i (by decide), sc_i (by decide), sc_i (by decide), sc_i (by decide), sc_i (by decide), sc_s, cp0 (by decide) hi], fun i hi => by rw [sg_i (by decide), sc_i (by decide), sc_i (by decide), sc_i (by decide), sc_i (by decide), sc_i (by decide), sc_i (by decide), sc_s, cp0 (by decide) hi], fun i hi => by rw [sg_i (by decide), sc_i (by decide), sc_i (by decide), sc_i (by decide), sc_i (by decide), sc_i (by decide), sc_s, cp0 (by decide) hi], fun i hi => by rw [sg_i (by decide), sc_i (by decide), sc_i (by decide), sc_i (by decide), sc_i (by decide), sc_s, cp0 (by decide) hi], fun i hi => by rw [sg_i (by decide), sc_i (by decide), sc_i (by decide), sc_i (by decide), sc_s, cp0 (by decide) hi], fun i hi => by rw [sg_i (by decide), sc_i (by decide), sc_i (by decide), sc_s, cp0 (by decide) hi], fun i hi => by rw [sg_i (by decide), sc_i (by decide), sc_s, cp0 (by decide) hi], fun i hi => by rw [sg_i (by decide), sc_s, cp0 (by decide) hi], by rw [sg_j (by decide), sc_i (by decide), sc_i (by decide), sc_i (by decide), sc_i (by decide), sc_i (by decide), sc_i (by decide), sc_i (by decide), sc_i (by decide), sc_i (by decide), sg_s], sg_s, fun t ht => ⟨fun i hi => by rw [sg_i (by omega), sc_i (by omega), sc_i (by omega), sc_i (by omega), sc_i (by omega), sc_i (by omega), sc_i (by omega), sc_i (by omega), sc_i (by omega), sc_i (by omega), sg_i (by omega), sc_i (by omega), sc_i (by omega), sc_i (by omega), sc_i (by omega)]; exact (HT t ht).1 i hi, fun i hi => by rw [sg_i (by omega), sc_i (by omega), sc_i (by omega), sc_i (by omega), sc_i (by omega), sc_i (by omega), sc_i (by omega), sc_i (by omega), sc_i (by omega), sc_i (by omega), sg_i (by omega), sc_i (by omega), sc_i (by omega), sc_i (by omega), sc_i (by omega)]; exact (HT t ht).2.1 i hi, fun i hi => by rw [sg_i (by omega), sc_i (by omega), sc_i (by omega), sc_i (by omega), sc_i (by omega), sc_i (by omega), sc_i (by omega), sc_i (by omega), sc_i (by omega), sc_i (by omega), sg_i (by omega), sc_i (by omega), sc_i (by omega), sc_i (by omega), sc_i (by omega)]; exact (HT t ht).2.2 i hi⟩⟩
    · have k1 : k < 20 := by
        rcases Nat.lt_or_ge k 20 with q1 | q1
        · exact q1
        · exact absurd (by rw [hz]; exact (nI_leI (a := 20) (by omega) (by omega)).mpr q1) c44
      refine ⟨_, _, rfl, rfl, ?_⟩
      refine ⟨_, _, k, _, rfl, hz, by omega, Nat.le_of_ble_eq_true rfl, tf_at k1, ?_⟩
      refine ⟨_, _, rfl, rfl, ?_⟩
      refine ⟨_, _, k, _, rfl, hz, by omega, Nat.le_of_ble_eq_true rfl, tk_at k1, ?_⟩
      refine ⟨_, hc_nT k1, d - 1, 0, 0, _, by omega, Nat.le_of_ble_eq_true rfl, Nat.le_of_ble_eq_true rfl, Nat.le_of_ble_eq_true rfl, tb_u (d := d - 1) (by omega) k1, ?_⟩
      rintro _ _ ⟨rfl, g1, rfl, F1, C1⟩
      refine ⟨Or.inl rfl, ?_⟩
      exact ih (k + 1) _ g1 (by rw [hz, nI_1]) (fun c hc => (F1 c (by omega) (by omega) (by omega)).trans (Fr c hc)) (fun i hi => by rw [F1 2 (by omega) (by omega) (by omega)]; exact H2 i hi) (fun i hi => by rw [F1 3 (by omega) (by omega) (by omega)]; exact H3 i hi) (fun t ht => by
        by_cases q : t = k
        · rw [q]; exact C1
        · obtain ⟨a1, a2, a3⟩ := HT t (by omega)
          exact ⟨fun i hi => by rw [F1 _ (by omega) (by omega) (by omega)]; exact a1 i hi, fun i hi => by rw [F1 _ (by omega) (by omega) (by omega)]; exact a2 i hi, fun i hi => by rw [F1 _ (by omega) (by omega) (by omega)]; exact a3 i hi⟩) (by omega) (by omega)
theorem bb_u {cg0 kg : sg_T} {fn : Nat → Option Nat} {x y : Nat} {v : Value} {d : Nat} (hd : 3 ≤ d) (h3 : ∀ i, i < 120 → fits (am_aty 1) (.int (kg 3 i)) = true) (h16 : ∀ i, i < 720 → fits (am_aty 1) (.int (kg 16 i)) = true) (h17 : ∀ i, i < 750 → fits (am_aty 2) (.int (kg 17 i)) = true) (hf : am_fit .boolean (.int (kg 1 17))) : am_Met mi_X0_become d 0 0 [.ref 1, .ref 101] (hc cg0 fn (x, y, v, hk kg)) (fun r h' => r = none ∧ ∃ g, h' = hc g fn (x, y, v, hk kg) ∧ (∀ c, 78 ≤ c → g c = cg0 c) ∧ cpB kg g) := by
  refine am_Met.of rfl (Nat.le_of_ble_eq_true rfl) ?_
  refine am_go ok_X0_become [38] 82 ?_
  refine ⟨_, _, rfl, rfl, ?_⟩
  refine ⟨_, _, rfl, rfl, ?_⟩
  refine ⟨_, _, rfl, rfl, ?_⟩
  refine ⟨_, _, rfl, ?_⟩
  refine ⟨_, _, _, _, rfl, rfl, by decide, by decide, by decide, by decide, by decide, fun _ _ => rfl, by omega, Nat.le_of_ble_eq_true rfl, ?_⟩
  rw [hc_c2]
  refine ⟨_, _, rfl, rfl, ?_⟩
  refine ⟨_, _, rfl, rfl, ?_⟩
  refine ⟨_, _, rfl, rfl, ?_⟩
  refine ⟨_, _, rfl, ?_⟩
  refine ⟨_, _, _, _, rfl, rfl, by decide, by decide, by decide, by decide, by decide, fun i hi => by rw [show (Int32.ofNat 120).toNatClampNeg = 120 by decide] at hi; rw [show (0 : Int32).toNatClampNeg + i = i from Nat.zero_add i]; exact h3 i hi, by omega, Nat.le_of_ble_eq_true rfl, ?_⟩
  rw [hc_c3]
  exact bb_u_l hd h3 h16 h17 hf 21 0 0 _ rfl (fun c hc => by rw [sc_i (by omega), sc_i (by omega)]) (fun i hi => by rw [sc_i (by decide), sc_s, cp0 (by decide) hi]) (fun i hi => by rw [sc_s, cp0 (by decide) hi]) (fun t ht => absurd ht (by omega)) (by omega) (by omega)
