/-! image where nothing is kept -/
theorem tf_lt : ∀ j o, tfX j = some o → o < 101 := fun j o h => by
  unfold tfX at h
  by_cases z : j < 20
  · rw [if_pos z] at h; injection h with e; omega
  · rw [if_neg z] at h; exact absurd h (by simp)
theorem kd_lt : ∀ j o, kdX j = some o → o < 101 := fun j o h => by
  unfold kdX at h
  by_cases z : j < 5
  · rw [if_pos z] at h; injection h with e; omega
  · rw [if_neg z] at h; exact absurd h (by simp)
theorem hc_wf {cg : sg_T} {fn : Nat → Option Nat} {x y : Nat} (hx : x < 101) (hy : y < 101) : wfL 101 (hc cg fn (x, y, .null, [])) := by
  unfold hc
  simp only [wfL, wfC, wfF, rfV_r, rfV_z, rfV_k, and_true, true_and, Nat.reduceLT]
  repeat' apply And.intro
  all_goals first | exact hx | exact hy | exact tf_lt | exact fun j o h => nfO_n h | exact kd_lt | decide
theorem hk_0 : bkH 101 20 ++ bkT 101 20 = hk (fun _ _ => 0) := by
  have e : rwK 101 20 = tfK := (rwK_e 20).trans rfl
  unfold bkH
  rw [e]; rfl
theorem hc_ap {cg : sg_T} {fn : Nat → Option Nat} {x y : Nat} {v : Value} {l : am_H} : hc cg fn (x, y, v, []) ++ l = hc cg fn (x, y, v, l) := rfl
theorem hc_0_6 {cg : sg_T} {fn : Nat → Option Nat} {x y : Nat} {v w : Value} {l : am_H} : am_put (hc cg fn (x, y, v, l)) 0 (.inr (.inr (11, am_put [.ref 1, .ref 78, .ref 84, .ref 90, .ref 91, .ref 95, v] 6 w))) = hc cg fn (x, y, w, l) := rfl
theorem c_image_0 {cg : sg_T} {fn : Nat → Option Nat} {x y : Nat} {P : Nat → Int32} {R C n Q T U d : Nat} (hd : 10 ≤ d) (hx : x < 101) (hy : y < 101) (hC : clR cg P) (hO : okP P R C n Q T U) : am_Met mi_X11_image d 77 3284 [.ref 0] (hc cg fn (x, y, .null, [])) (fun r h' => r = some (.int (P 0)) ∧ ∃ kg', h' = hc cg fn (x, y, .ref 101, hk kg') ∧ BR 1 kg' P) := by
  refine am_Met.of rfl (Nat.le_of_ble_eq_true rfl) ?_
  refine am_go ok_X11_image [] 62 ?_
  obtain ⟨g3, g16, g17, gf⟩ := BR_fit hC.1 hO.o
  refine ⟨_, _, rfl, rfl, ?_⟩
  refine ⟨Nat.le_of_ble_eq_true rfl, (show 18 ≤ 3284 by omega), Nat.le_of_ble_eq_true rfl, ⟨wfS_n (N := 101) (Nat.le_refl _) (by show wfS _ [some (.ref 0)]; simp only [wfL, wfC, wfF, wfS, rfV_r, rfV_z, rfV_k, and_true, true_and] <;> omega), wfF_n (N := 101) (Nat.le_refl _) (by show wfF _ [.ref 0]; simp only [wfL, wfC, wfF, wfS, rfV_r, rfV_z, rfV_k, and_true, true_and] <;> omega), wfL_n (N := 101) (Nat.le_refl _) (hc_wf hx hy)⟩, ?_⟩
  refine ⟨d - 1, 76, 3266, _, by omega, Nat.le_of_ble_eq_true rfl, Nat.le_of_ble_eq_true rfl, Nat.le_of_ble_eq_true rfl, i_book (h := hc cg fn (x, y, .null, [])) (b := 101) (by omega) rfl (hc_wf hx hy) (by omega), ?_⟩
  rintro _ _ ⟨rfl, rfl⟩
  refine ⟨Or.inr (ns_of (N := 102) (by rw [hc_ap]; exact Nat.le_refl _) (by show wfS _ [some (.ref 0)]; simp only [wfL, wfC, wfF, wfS, rfV_r, rfV_z, rfV_k, and_true, true_and] <;> omega) (by show wfF _ [.ref 101, .ref 0]; simp only [wfL, wfC, wfF, wfS, rfV_r, rfV_z, rfV_k, and_true, true_and] <;> omega)), ?_⟩
  rw [hk_0, hc_ap]
  refine ⟨_, rfl, Nat.le_of_ble_eq_true rfl, trivial, ?_⟩
  rw [hc_0_6]
  refine ⟨_, _, rfl, rfl, ?_⟩
  refine ⟨_, _, rfl, rfl, ?_⟩
  refine ⟨_, rfl, d - 1, 0, 0, _, by omega, Nat.le_of_ble_eq_true rfl, Nat.le_of_ble_eq_true rfl, Nat.le_of_ble_eq_true rfl, bb_i (d := d - 1) (by omega) g3 g16 g17 gf, ?_⟩
  rintro _ _ ⟨rfl, g, rfl, Fr, Cp⟩
  refine ⟨Or.inl rfl, ?_⟩
  refine ⟨_, _, rfl, rfl, ?_⟩
  refine ⟨_, _, rfl, rfl, ?_⟩
  refine ⟨_, _, 0, rfl, rfl, Nat.le_of_ble_eq_true rfl, Nat.le_of_ble_eq_true rfl, ?_⟩
  rw [hC.1.c 0 (by omega)]
  refine ⟨trivial, ?_⟩
  exact ⟨rfl, g, rfl, BR_cp hO.W hC.1 Cp⟩
/-- image, paired: the room depends on whether a Book is kept -/
theorem p_image {cg : sg_T} {fn : Nat → Option Nat} {cx : cx_T} {sg : sg_T} {d : Nat} (hd : 460 ≤ d) (hR : REL cg cx sg) : ∃ kc ks Qc Qm, (kc = 0 ∧ ks = 0 ∨ kc = 77 ∧ ks = 3284 ∧ sg 0 2 = 0) ∧ am_Met mi_X11_image d kc ks [.ref 0] (hc cg fn cx) Qc ∧ am_Met mi_X12_image d 0 0 [.ref 0] (hm sg) Qm ∧ ∀ r h r' h', Qc r h → Qm r' h' → ∃ v cg' fn' cx' sg', r = some (.int v) ∧ r' = some (.int v) ∧ h = hc cg' fn' cx' ∧ h' = hm sg' ∧ REL cg' cx' sg' ∧ ¬ sg' 0 2 = 0 := by
  obtain ⟨x, y, kx⟩ := cx
  obtain ⟨R, C, n, Q, T, U, hO⟩ := hR.2.1
  obtain ⟨k1, k2, k3, k4⟩ := id hR.2.2
  have fin : ∀ (kg : sg_T) (sg' : sg_T), BR 1 kg (sg 1) → sg' 1 = sg 1 → sg' 2 = sg 1 → sg' 0 2 = 1 → REL cg (x, y, .ref 101, hk kg) sg' ∧ ¬ sg' 0 2 = 0 := fun kg sg' hB e1 e2 e3 => by
    have n0 : ¬ sg' 0 2 = 0 := by rw [e3]; decide
    refine ⟨⟨by rw [e1]; exact hR.1, by rw [e1]; exact hR.2.1, k1, k2, by rw [e2]; exact hO.z, Or.inr ⟨n0, kg, rfl, by rw [e2]; exact hB, by rw [e2]; exact hR.2.1⟩⟩, n0⟩
  rcases k4 with ⟨e, e0⟩ | ⟨e0, kg, e, hB, hE⟩
  · have e' : kx = (.null, []) := e
    subst e'
    refine ⟨77, 3284, _, _, Or.inr ⟨rfl, rfl, e0⟩, c_image_0 (by omega) k1 k2 hR.1 hO, m_image hO.z k3, fun r1 h1 r2 h2 q1 q2 => ?_⟩
    obtain ⟨rfl, kg', rfl, hB'⟩ := q1
    obtain ⟨rfl, sg', rfl, e1, e2, e3⟩ := q2
    obtain ⟨f1, f2⟩ := fin kg' sg' hB' e1 e2 e3
    exact ⟨_, cg, fn, _, sg', rfl, rfl, rfl, rfl, f1, f2⟩
  · have e' : kx = (.ref 101, hk kg) := e
    subst e'
    refine ⟨0, 0, _, _, Or.inl ⟨rfl, rfl⟩, c_image_1 (by omega) hR.1 hO, m_image hO.z k3, fun r1 h1 r2 h2 q1 q2 => ?_⟩
    obtain ⟨rfl, kg', rfl, hB'⟩ := q1
    obtain ⟨rfl, sg', rfl, e1, e2, e3⟩ := q2
    obtain ⟨f1, f2⟩ := fin kg' sg' hB' e1 e2 e3
    exact ⟨_, cg, fn, _, sg', rfl, rfl, rfl, rfl, f1, f2⟩
