/-! the class's calls that change the Book -/
theorem lt_1000 {x : Int32} : x < 1000 ↔ x ≤ 999 := by
  rw [Int32.lt_iff_toInt_lt, Int32.le_iff_toInt_le]
  have e1 : (1000 : Int32).toInt = 1000 := by decide
  have e2 : (999 : Int32).toInt = 999 := by decide
  omega
theorem ltF_w {P P' : Nat → Int32} {x : Nat} : ∀ k, (∀ j, x ≤ j → j < x + k → P' j = P j) → ltF P' x k = ltF P x k
  | 0, _ => rfl
  | k + 1, h => by rw [ltF, ltF, ltF_w k (fun j h1 h2 => h j h1 (by omega)), h (x + k) (by omega) (by omega)]
theorem tlF_w {P P' : Nat → Int32} {x : Nat} (h : ∀ j, x ≤ j → j < x + 30 → P' j = P j) : ∀ k, k ≤ 3 → tlF P' x k = tlF P x k
  | 0, _ => rfl
  | k + 1, hk => by rw [tlF, tlF, tlF_w h k (by omega), ltF_w 3 (fun j h1 h2 => h j (by omega) (by omega))]
theorem pn_w {P P' : Nat → Int32} {j : Nat} (h : P' j = P j) : pn P' j = pn P j := by unfold pn; rw [h]
theorem txR_w {cg : sg_T} {a x : Nat} {P P' : Nat → Int32} (hX : okX P x) (h : txR cg a P x) (e : ∀ j, x ≤ j → j < x + 30 → P' j = P j) : txR cg a P' x := by
  obtain ⟨h0, h1, h2, h3, h4⟩ := h
  have n3 := (okX_n hX).1
  have n4 := (okX_n hX).2
  have p0 := pn_w (e x (by omega) (by omega))
  have p1 := pn_w (e (x + 1) (by omega) (by omega))
  refine ⟨by rw [e x (by omega) (by omega)]; exact h0, by rw [e (x + 1) (by omega) (by omega)]; exact h1, ?_, ?_, ?_⟩
  · rw [p0, tlF_w e _ n3]; exact h2
  · rw [p0]
    intro s hs
    have y1 : x ≤ ySl x s ∧ ySl x s + 4 ≤ x + 30 := by unfold ySl; split <;> omega
    obtain ⟨a1, a2⟩ := h3 s hs
    refine ⟨by rw [e _ (by omega) (by omega)]; exact a1, fun i i1 i2 => ?_⟩
    rw [pn_w (e (ySl x s + i) (by omega) (by omega))]; exact a2 i i1 i2
  · rw [p1]
    intro k hk
    rw [pn_w (e (x + 14 + 3 * k) (by omega) (by omega)), e (x + 15 + 3 * k) (by omega) (by omega), pn_w (e (x + 16 + 3 * k) (by omega) (by omega))]
    exact h4 k hk
theorem BR_g {cg cg' : sg_T} {P P' : Nat → Int32} {R C n : Nat} (hW : wkA P R C n) (h : BR 1 cg P) (EC : ∀ a, 18 ≤ a → a < 78 → cg' a = cg a) (EX : ∀ j, (j = 1 ∨ j = 2 ∨ 10 ≤ j ∧ j < 18 ∨ 42 ≤ j ∧ j < 54 ∨ 1758 ≤ j ∧ j < 2358) → P' j = P j) (h_c : ∀ i, i < 7 → cg' 2 i = P' i) (h_c7 : cg' 2 7 = P' 8) (h_t : ∀ i, i < 120 → cg' 3 i = bY (P' (2358 + i))) (h_cr : ∀ c, c < 12 → cg' 5 c = P' (18 + c)) (h_cd : ∀ c, c < 12 → cg' 6 c = P' (30 + c)) (h_pf : ∀ k, k < 20 → cg' 7 k = P' (54 + k)) (h_pp : ∀ k, k < 20 → cg' 8 k = P' (74 + k)) (h_tp : cg' 1 7 = tpX P') (h_k : ∀ q, q < 12 → cg' 9 q = P' (114 + q)) (h_s : ∀ q, q < 12 → cg' 10 q = P' (126 + q)) (h_r : ∀ i, i < 864 → cg' 11 i = P' (138 + i)) (h_tq : ∀ t, t < 10 → cg' 12 t = P' (1002 + t)) (h_tf : ∀ t, t < 10 → cg' 13 t = P' (1022 + t)) (h_td : ∀ t, t < 10 → cg' 14 t = P' (1012 + t)) (h_az : ∀ t, t < 6 → cg' 15 t = P' (1032 + t)) (h_ab : ∀ j, j < 720 → cg' 16 j = bY (P' (1038 + j))) (h_fo : ∀ f, f < 750 → cg' 17 f = P' (2478 + f)) (h_hr : cg' 1 17 = P' 9) : BR 1 cg' P' := by
  have R8 := hW.2.1
  have C12 := hW.2.2.2.1
  have p1 : pn P 1 = R := pn_of hW.1 (by omega)
  have p2 : pn P 2 = C := pn_of hW.2.2.1 (by omega)
  refine ⟨h_c, h_c7, h_t, h_cr, h_cd, h_pf, h_pp, h_tp, h_k, h_s, h_r, h_tq, h_tf, h_td, h_az, h_ab, h_fo, h_hr, fun r hr => ?_, fun c hc => ?_⟩
  · rw [pn_w (EX 1 (by omega)), p1] at hr
    obtain ⟨t, t20, et⟩ := hW.2.2.2.2.1 r (by omega)
    have pt := pn_of et (by omega)
    rw [pn_w (EX (10 + r) (by omega))]
    have b := h.xr r (by omega)
    exact txR_fr (txR_w (hW.2.2.2.2.2.2.2.2.2.1 r hr) b (fun j j1 j2 => EX j (by omega))) (EC _ (by omega) (by omega)) (EC _ (by omega) (by omega)) (EC _ (by omega) (by omega))
  · rw [pn_w (EX 2 (by omega)), p2] at hc
    obtain ⟨t, t20, et⟩ := hW.2.2.2.2.2.1 c hc
    have pt := pn_of et (by omega)
    rw [pn_w (EX (42 + c) (by omega))]
    have b := h.xc c (by omega)
    exact txR_fr (txR_w (hW.2.2.2.2.2.2.2.2.2.2 c hc) b (fun j j1 j2 => EX j (by omega))) (EC _ (by omega) (by omega)) (EC _ (by omega) (by omega)) (EC _ (by omega) (by omega))
theorem tp_w {P P' : Nat → Int32} {n : Nat} (h3 : P 3 = nI n) (n20 : n ≤ 20) (e3 : P' 3 = P 3) (e : ∀ k, k < 20 → P' (94 + k) = P (94 + k)) : tpX P' = tpX P := by
  unfold tpX
  rw [pn_w e3, pn_of h3 (by omega)]
  exact orB_cg (fun k hk => by unfold trP; rw [e k (by omega)])
def sp_day (P : Nat → Int32) (n v : Int32) (P' : Nat → Int32) : Prop := ((1 ≤ n ∧ n ≤ 99) ∧ P 0 + n ≤ 999 ∧ v = P 0 + n ∧ P' = upd P 0 (P 0 + n)) ∨ (¬ ((1 ≤ n ∧ n ≤ 99) ∧ P 0 + n ≤ 999) ∧ v = -2 ∧ P' = P)
theorem c_day {cg : sg_T} {fn : Nat → Option Nat} {cx : cx_T} {P : Nat → Int32} {R C n Q T U d : Nat} (hd : 460 ≤ d) (hC : clR cg P) (hO : okP P R C n Q T U) (w : Int32) : am_Met mi_X11_day d 0 0 [.ref 0, .int w] (hc cg fn cx) (cX cx (sp_day P w)) := by
  refine am_Met.of rfl (Nat.le_of_ble_eq_true rfl) ?_
  refine am_go ok_X11_day [] 88 ?_
  have fin0 : ∀ rv, (∀ v P', sp_day P w v P' → v = rv ∧ P' = P) → cX cx (sp_day P w) (some (.int rv)) (hc cg fn cx) := fun rv h => ⟨rv, cg, fn, cx, rfl, rfl, rfl, fun v P' hv => ⟨(h v P' hv).1, by rw [(h v P' hv).2]; exact hC⟩⟩
  refine ⟨_, _, rfl, rfl, ?_⟩
  refine ⟨_, _, rfl, rfl, ?_⟩
  refine ⟨_, _, 0, rfl, rfl, Nat.le_of_ble_eq_true rfl, Nat.le_of_ble_eq_true rfl, ?_⟩
  rw [hC.1.c 0 (by omega)]
  refine ⟨fun c12 => ?_, fun c12 => ?_⟩
  · have nq : ¬ ((1 ≤ w ∧ w ≤ 99) ∧ P 0 + w ≤ 999) := fun z => i_len z.1.1 c12
    refine ⟨trivial, ?_⟩
    exact fin0 _ (fun v P' hv => hv.elim (fun z => absurd ⟨z.1, z.2.1⟩ nq) (fun z => z.2))
  · refine ⟨fun c18 => ?_, fun c18 => ?_⟩
    · have nq : ¬ ((1 ≤ w ∧ w ≤ 99) ∧ P 0 + w ≤ 999) := fun z => i_len z.1.2 c18
      refine ⟨trivial, ?_⟩
      exact fin0 _ (fun v P' hv => hv.elim (fun z => absurd ⟨z.1, z.2.1⟩ nq) (fun z => z.2))
    · refine ⟨fun c27 => ?_, fun c27 => ?_⟩
      · have q : (1 ≤ w ∧ w ≤ 99) ∧ P 0 + w ≤ 999 := ⟨⟨i_nlt c12, i_nlt c18⟩, lt_1000.mp c27⟩
        refine ⟨_, _, rfl, rfl, ?_⟩
        refine ⟨_, _, rfl, rfl, ?_⟩
        refine ⟨_, _, 0, rfl, rfl, Nat.le_of_ble_eq_true rfl, Nat.le_of_ble_eq_true rfl, ?_⟩
        rw [hc_a2]
        refine ⟨trivial, ?_⟩
        refine ⟨_, _, fn, cx, rfl, rfl, rfl, fun v P' hv => ?_⟩
        rcases hv with z | z
        · refine ⟨z.2.2.1, ?_⟩
          rw [z.2.2.2]
          have EC : ∀ aa, ¬ (aa = 2) → sg_u cg 2 0 (P 0 + w) aa = cg aa := fun aa ha => by rw [sg_i (by omega)]
          have EP : ∀ jj, ¬ (jj = 0) → upd P 0 (P 0 + w) jj = P jj := fun jj hj => by rw [pk_un (by omega)]
          exact ⟨BR_g hO.W hC.1 (fun a h1 h2 => EC a (by omega)) (fun j hj => EP j (by omega)) (fun i hi => by
              by_cases z : i = 0
              · rw [z, sg_s, pk_us]
              · rw [sg_j z, hC.1.c i hi, pk_un z]) (by rw [sg_j (by decide), hC.1.c7]; exact (EP 8 (by omega)).symm) (fun i hi => by rw [EC 3 (by omega), hC.1.t i hi, EP _ (by omega)]) (fun i hi => by rw [EC 5 (by omega), hC.1.cr i hi]; exact (EP _ (by omega)).symm) (fun i hi => by rw [EC 6 (by omega), hC.1.cd i hi]; exact (EP _ (by omega)).symm) (fun i hi => by rw [EC 7 (by omega), hC.1.pf i hi]; exact (EP _ (by omega)).symm) (fun i hi => by rw [EC 8 (by omega), hC.1.pp i hi]; exact (EP _ (by omega)).symm) (by rw [EC 1 (by omega), hC.1.tp]; exact (tp_w hO.n3.1 hO.n3.2 (EP 3 (by omega)) (fun k hk => EP _ (by omega))).symm) (fun i hi => by rw [EC 9 (by omega), hC.1.k i hi]; exact (EP _ (by omega)).symm) (fun i hi => by rw [EC 10 (by omega), hC.1.s i hi]; exact (EP _ (by omega)).symm) (fun i hi => by rw [EC 11 (by omega), hC.1.r i hi]; exact (EP _ (by omega)).symm) (fun i hi => by rw [EC 12 (by omega), hC.1.tq i hi]; exact (EP _ (by omega)).symm) (fun i hi => by rw [EC 13 (by omega), hC.1.tf i hi]; exact (EP _ (by omega)).symm) (fun i hi => by rw [EC 14 (by omega), hC.1.td i hi]; exact (EP _ (by omega)).symm) (fun i hi => by rw [EC 15 (by omega), hC.1.az i hi]; exact (EP _ (by omega)).symm) (fun i hi => by rw [EC 16 (by omega), hC.1.ab i hi, EP _ (by omega)]) (fun i hi => by rw [EC 17 (by omega), hC.1.fo i hi]; exact (EP _ (by omega)).symm) (by rw [EC 1 (by omega), hC.1.hr]; exact (EP 9 (by omega)).symm), rI_fr hC.2.1 (EC 84 (by omega)) (EC 85 (by omega)) (EC 86 (by omega)) (EC 87 (by omega)), by rw [EC 89 (by omega)]; exact hC.2.2.1, by rw [EC 83 (by omega)]; exact hC.2.2.2⟩
        · exact absurd q z.1
      · have nq : ¬ ((1 ≤ w ∧ w ≤ 99) ∧ P 0 + w ≤ 999) := fun z => c27 (lt_1000.mpr z.2)
        refine ⟨trivial, ?_⟩
        exact fin0 _ (fun v P' hv => hv.elim (fun z => absurd ⟨z.1, z.2.1⟩ nq) (fun z => z.2))
def sp_proof (P : Nat → Int32) (k v : Int32) (P' : Nat → Int32) : Prop := (¬ inI k 0 4 ∧ v = -1 ∧ P' = P) ∨ (inI k 0 4 ∧ P 4 = 12 ∧ v = -4 ∧ P' = P) ∨ (inI k 0 4 ∧ ¬ P 4 = 12 ∧ v = P 4 ∧ P' = upd (upd (upd P (114 + pn P 4) k) (126 + pn P 4) 0) 4 (nI (pn P 4 + 1)))
theorem c_proof {cg : sg_T} {fn : Nat → Option Nat} {cx : cx_T} {P : Nat → Int32} {R C n Q T U d : Nat} (hd : 460 ≤ d) (hC : clR cg P) (hO : okP P R C n Q T U) (k : Int32) : am_Met mi_X11_proof d 0 0 [.ref 0, .int k] (hc cg fn cx) (cX cx (sp_proof P k)) := by
  refine am_Met.of rfl (Nat.le_of_ble_eq_true rfl) ?_
  refine am_go ok_X11_proof [] 93 ?_
  have fin0 : ∀ rv, (∀ v P', sp_proof P k v P' → v = rv ∧ P' = P) → cX cx (sp_proof P k) (some (.int rv)) (hc cg fn cx) := fun rv h => ⟨rv, cg, fn, cx, rfl, rfl, rfl, fun v P' hv => ⟨(h v P' hv).1, by rw [(h v P' hv).2]; exact hC⟩⟩
  have Q12 := hO.q4.2
  have pQ : pn P 4 = Q := pn_of hO.q4.1 (by omega)
  refine ⟨d - 1, 0, 0, _, by omega, Nat.le_of_ble_eq_true rfl, Nat.le_of_ble_eq_true rfl, Nat.le_of_ble_eq_true rfl, c_isKind (d - 1) k, ?_⟩
  rintro _ _ ⟨rfl, rfl⟩
  refine ⟨Or.inl rfl, ?_⟩
  refine ⟨fun c4 => ?_, fun c4 => ?_⟩
  · have qb := bI_t c4
    refine ⟨_, _, rfl, rfl, ?_⟩
    refine ⟨_, _, rfl, rfl, ?_⟩
    refine ⟨_, _, 4, rfl, rfl, Nat.le_of_ble_eq_true rfl, Nat.le_of_ble_eq_true rfl, ?_⟩
    rw [hC.1.c 4 (by omega), hO.q4.1]
    refine ⟨fun c22 => ?_, fun c22 => ?_⟩
    · have ql : Q < 12 := (nI_ltI (b := 12) (by omega) (by omega)).mp c22
      have nq : ¬ P 4 = 12 := fun z => by have := (nI_eq (b := 12) (by omega) (by omega)).mp (hO.q4.1.symm.trans z); omega
      refine ⟨_, _, rfl, rfl, ?_⟩
      refine ⟨_, _, rfl, rfl, ?_⟩
      refine ⟨_, _, Q, rfl, rfl, by omega, Nat.le_of_ble_eq_true rfl, ?_⟩
      rw [hc_a9]
      refine ⟨_, _, rfl, rfl, ?_⟩
      refine ⟨_, _, rfl, rfl, ?_⟩
      refine ⟨_, _, Q, rfl, rfl, by omega, Nat.le_of_ble_eq_true rfl, ?_⟩
      rw [hc_a10]
      refine ⟨_, _, rfl, rfl, ?_⟩
      refine ⟨_, _, rfl, rfl, ?_⟩
      refine ⟨_, _, 4, rfl, rfl, Nat.le_of_ble_eq_true rfl, Nat.le_of_ble_eq_true rfl, ?_⟩
      rw [hc_a2]
      refine ⟨trivial, ?_⟩
      refine ⟨_, _, fn, cx, rfl, rfl, rfl, fun v P' hv => ?_⟩
      rcases hv with z | z | z
      · exact absurd qb z.1
      · exact absurd z.2.1 nq
      · refine ⟨z.2.2.1.trans hO.q4.1, ?_⟩
        rw [z.2.2.2, pQ, nI_1]
        have EC : ∀ aa, ¬ (aa = 2 ∨ aa = 9 ∨ aa = 10) → sg_u (sg_u (sg_u cg 9 Q k) 10 Q 0) 2 4 (nI (Q + 1)) aa = cg aa := fun aa ha => by rw [sg_i (by omega), sg_i (by omega), sg_i (by omega)]
        have EP : ∀ jj, ¬ (jj = 4 ∨ jj = 114 + Q ∨ jj = 126 + Q) → upd (upd (upd P (114 + Q) k) (126 + Q) 0) 4 (nI (Q + 1)) jj = P jj := fun jj hj => by rw [pk_un (by omega), pk_un (by omega), pk_un (by omega)]
        exact ⟨BR_g hO.W hC.1 (fun a h1 h2 => EC a (by omega)) (fun j hj => EP j (by omega)) (fun i hi => by
            by_cases z : i = 4
            · rw [z, sg_s, pk_us]
            · rw [sg_j z, sg_i (by omega), sg_i (by omega), hC.1.c i hi, EP _ (by omega)]) (by rw [sg_j (by decide), sg_i (by omega), sg_i (by omega), hC.1.c7]; exact (EP 8 (by omega)).symm) (fun i hi => by rw [EC 3 (by omega), hC.1.t i hi, EP _ (by omega)]) (fun i hi => by rw [EC 5 (by omega), hC.1.cr i hi]; exact (EP _ (by omega)).symm) (fun i hi => by rw [EC 6 (by omega), hC.1.cd i hi]; exact (EP _ (by omega)).symm) (fun i hi => by rw [EC 7 (by omega), hC.1.pf i hi]; exact (EP _ (by omega)).symm) (fun i hi => by rw [EC 8 (by omega), hC.1.pp i hi]; exact (EP _ (by omega)).symm) (by rw [EC 1 (by omega), hC.1.tp]; exact (tp_w hO.n3.1 hO.n3.2 (EP 3 (by omega)) (fun k hk => EP _ (by omega))).symm) (fun i hi => by
            rw [sg_i (by omega), sg_i (by omega), pk_un (show 114 + i ≠ 4 by omega), pk_un (show 114 + i ≠ 126 + Q by omega)]
            by_cases z : i = Q
            · rw [z, sg_s, pk_us]
            · rw [sg_j z, hC.1.k i hi, pk_un (by omega)]) (fun i hi => by
            rw [sg_i (by omega), pk_un (show 126 + i ≠ 4 by omega)]
            by_cases z : i = Q
            · rw [z, sg_s, pk_us]
            · rw [sg_j z, sg_i (by omega), hC.1.s i hi, pk_un (by omega), pk_un (by omega)]) (fun i hi => by rw [EC 11 (by omega), hC.1.r i hi]; exact (EP _ (by omega)).symm) (fun i hi => by rw [EC 12 (by omega), hC.1.tq i hi]; exact (EP _ (by omega)).symm) (fun i hi => by rw [EC 13 (by omega), hC.1.tf i hi]; exact (EP _ (by omega)).symm) (fun i hi => by rw [EC 14 (by omega), hC.1.td i hi]; exact (EP _ (by omega)).symm) (fun i hi => by rw [EC 15 (by omega), hC.1.az i hi]; exact (EP _ (by omega)).symm) (fun i hi => by rw [EC 16 (by omega), hC.1.ab i hi, EP _ (by omega)]) (fun i hi => by rw [EC 17 (by omega), hC.1.fo i hi]; exact (EP _ (by omega)).symm) (by rw [EC 1 (by omega), hC.1.hr]; exact (EP 9 (by omega)).symm), rI_fr hC.2.1 (EC 84 (by omega)) (EC 85 (by omega)) (EC 86 (by omega)) (EC 87 (by omega)), by rw [EC 89 (by omega)]; exact hC.2.2.1, by rw [EC 83 (by omega)]; exact hC.2.2.2⟩
    · have q12 : P 4 = 12 := by
        have e : Q = 12 := by
          rcases Nat.lt_or_ge Q 12 with z | z
          · exact absurd ((nI_ltI (b := 12) (by omega) (by omega)).mpr z) c22
          · omega
        rw [hO.q4.1, e]; rfl
      refine ⟨trivial, ?_⟩
      exact fin0 _ (fun v P' hv => hv.elim (fun z => absurd qb z.1) (fun z => z.elim (fun z => z.2.2) (fun z => absurd q12 z.2.1)))
  · have qa := bI_f c4
    refine ⟨trivial, ?_⟩
    exact fin0 _ (fun v P' hv => hv.elim (fun z => z.2) (fun z => z.elim (fun z => absurd z.1 qa) (fun z => absurd z.1 qa)))
def sp_paper (P : Nat → Int32) (f pr v : Int32) (P' : Nat → Int32) : Prop := (¬ inI pr 0 4 ∧ v = -1 ∧ P' = P) ∨ (inI pr 0 4 ∧ ¬ inI f 0 749 ∧ v = -2 ∧ P' = P) ∨ (inI pr 0 4 ∧ inI f 0 749 ∧ P 3 = 20 ∧ v = -4 ∧ P' = P) ∨ (inI pr 0 4 ∧ inI f 0 749 ∧ ¬ P 3 = 20 ∧ v = P 3 ∧ P' = upd (upd (upd (upd P (54 + pn P 3) f) (74 + pn P 3) pr) (94 + pn P 3) 0) 3 (nI (pn P 3 + 1)))
theorem tp_new {P P' : Nat → Int32} {n : Nat} (h3 : P 3 = nI n) (n20 : n < 20) (e3 : P' 3 = nI (n + 1)) (e : ∀ k, k < n → P' (94 + k) = P (94 + k)) (e0 : P' (94 + n) = 0) : tpX P' = tpX P ||| 1 <<< (nI n &&& 31) := by
  unfold tpX
  rw [pn_of e3 (by omega), pn_of h3 (by omega), orB_s, if_pos (show trP P' n = true from decide_eq_true e0)]
  rw [show orB (trP P') n = orB (trP P) n from orB_cg (fun k hk => by unfold trP; rw [e k hk])]
theorem c_paper {cg : sg_T} {fn : Nat → Option Nat} {cx : cx_T} {P : Nat → Int32} {R C n Q T U d : Nat} (hd : 460 ≤ d) (hC : clR cg P) (hO : okP P R C n Q T U) (f pr : Int32) : am_Met mi_X11_paper d 0 0 [.ref 0, .int f, .int pr] (hc cg fn cx) (cX cx (sp_paper P f pr)) := by
  refine am_Met.of rfl (Nat.le_of_ble_eq_true rfl) ?_
  refine am_go ok_X11_paper [] 105 ?_
  have fin0 : ∀ rv, (∀ v P', sp_paper P f pr v P' → v = rv ∧ P' = P) → cX cx (sp_paper P f pr) (some (.int rv)) (hc cg fn cx) := fun rv h => ⟨rv, cg, fn, cx, rfl, rfl, rfl, fun v P' hv => ⟨(h v P' hv).1, by rw [(h v P' hv).2]; exact hC⟩⟩
  have n20 := hO.n3.2
  have pN : pn P 3 = n := pn_of hO.n3.1 (by omega)
  refine ⟨d - 1, 0, 0, _, by omega, Nat.le_of_ble_eq_true rfl, Nat.le_of_ble_eq_true rfl, Nat.le_of_ble_eq_true rfl, c_isPerson (d - 1) pr, ?_⟩
  rintro _ _ ⟨rfl, rfl⟩
  refine ⟨Or.inl rfl, ?_⟩
  refine ⟨fun c4 => ?_, fun c4 => ?_⟩
  · have qp := bI_t c4
    refine ⟨d - 1, 0, 0, _, by omega, Nat.le_of_ble_eq_true rfl, Nat.le_of_ble_eq_true rfl, Nat.le_of_ble_eq_true rfl, c_isFact (d - 1) f, ?_⟩
    rintro _ _ ⟨rfl, rfl⟩
    refine ⟨Or.inl rfl, ?_⟩
    refine ⟨fun c13 => ?_, fun c13 => ?_⟩
    · have qf := bI_t c13
      refine ⟨_, _, rfl, rfl, ?_⟩
      refine ⟨_, _, rfl, rfl, ?_⟩
      refine ⟨_, _, 3, rfl, rfl, Nat.le_of_ble_eq_true rfl, Nat.le_of_ble_eq_true rfl, ?_⟩
      rw [hC.1.c 3 (by omega), hO.n3.1]
      refine ⟨fun c32 => ?_, fun c32 => ?_⟩
      · have nl : n < 20 := (nI_ltI (b := 20) (by omega) (by omega)).mp c32
        have nq : ¬ P 3 = 20 := fun z => by have := (nI_eq (b := 20) (by omega) (by omega)).mp (hO.n3.1.symm.trans z); omega
        refine ⟨_, _, rfl, rfl, ?_⟩
        refine ⟨_, _, rfl, rfl, ?_⟩
        refine ⟨_, _, n, rfl, rfl, by omega, Nat.le_of_ble_eq_true rfl, ?_⟩
        rw [hc_a7]
        refine ⟨_, _, rfl, rfl, ?_⟩
        refine ⟨_, _, rfl, rfl, ?_⟩
        refine ⟨_, _, n, rfl, rfl, by omega, Nat.le_of_ble_eq_true rfl, ?_⟩
        rw [hc_a8]
        refine ⟨_, _, rfl, rfl, ?_⟩
        refine ⟨_, _, rfl, rfl, ?_⟩
        rw [sg_i (by omega), sg_i (by omega), hC.1.tp]
        refine ⟨_, rfl, Nat.le_of_ble_eq_true rfl, trivial, ?_⟩
        rw [hc_f1_7]
        refine ⟨_, _, rfl, rfl, ?_⟩
        refine ⟨_, _, rfl, rfl, ?_⟩
        refine ⟨_, _, 3, rfl, rfl, Nat.le_of_ble_eq_true rfl, Nat.le_of_ble_eq_true rfl, ?_⟩
        rw [hc_a2]
        refine ⟨trivial, ?_⟩
        refine ⟨_, _, fn, cx, rfl, rfl, rfl, fun v P' hv => ?_⟩
        rcases hv with z | z | z | z
        · exact absurd qp z.1
        · exact absurd qf z.2.1
        · exact absurd z.2.2.1 nq
        · refine ⟨z.2.2.2.1.trans hO.n3.1, ?_⟩
          rw [z.2.2.2.2, pN, nI_1]
          have EC : ∀ aa, ¬ (aa = 1 ∨ aa = 2 ∨ aa = 7 ∨ aa = 8) → sg_u (sg_u (sg_u (sg_u cg 7 n f) 8 n pr) 1 7 (tpX P ||| 1 <<< (nI n &&& 31))) 2 3 (nI (n + 1)) aa = cg aa := fun aa ha => by rw [sg_i (by omega), sg_i (by omega), sg_i (by omega), sg_i (by omega)]
          have EP : ∀ jj, ¬ (jj = 3 ∨ jj = 54 + n ∨ jj = 74 + n ∨ jj = 94 + n) → upd (upd (upd (upd P (54 + n) f) (74 + n) pr) (94 + n) 0) 3 (nI (n + 1)) jj = P jj := fun jj hj => by rw [pk_un (by omega), pk_un (by omega), pk_un (by omega), pk_un (by omega)]
          exact ⟨BR_g hO.W hC.1 (fun a h1 h2 => EC a (by omega)) (fun j hj => EP j (by omega)) (fun i hi => by
              by_cases z : i = 3
              · rw [z, sg_s, pk_us]
              · rw [sg_j z, sg_i (by omega), sg_i (by omega), sg_i (by omega), hC.1.c i hi, EP _ (by omega)]) (by rw [sg_j (by decide), sg_i (by omega), sg_i (by omega), sg_i (by omega), hC.1.c7]; exact (EP 8 (by omega)).symm) (fun i hi => by rw [EC 3 (by omega), hC.1.t i hi, EP _ (by omega)]) (fun i hi => by rw [EC 5 (by omega), hC.1.cr i hi]; exact (EP _ (by omega)).symm) (fun i hi => by rw [EC 6 (by omega), hC.1.cd i hi]; exact (EP _ (by omega)).symm) (fun i hi => by
              rw [sg_i (by omega), sg_i (by omega), sg_i (by omega), pk_un (show 54 + i ≠ 3 by omega), pk_un (show 54 + i ≠ 94 + n by omega), pk_un (show 54 + i ≠ 74 + n by omega)]
              by_cases z : i = n
              · rw [z, sg_s, pk_us]
              · rw [sg_j z, hC.1.pf i hi, pk_un (by omega)]) (fun i hi => by
              rw [sg_i (by omega), sg_i (by omega), pk_un (show 74 + i ≠ 3 by omega), pk_un (show 74 + i ≠ 94 + n by omega)]
              by_cases z : i = n
              · rw [z, sg_s, pk_us]
              · rw [sg_j z, sg_i (by omega), hC.1.pp i hi, pk_un (by omega), pk_un (by omega)]) (by rw [sg_i (by omega), sg_s]; exact (tp_new hO.n3.1 nl (by rw [pk_us]) (fun k hk => EP _ (by omega)) (by rw [pk_un (by omega), pk_us])).symm) (fun i hi => by rw [EC 9 (by omega), hC.1.k i hi]; exact (EP _ (by omega)).symm) (fun i hi => by rw [EC 10 (by omega), hC.1.s i hi]; exact (EP _ (by omega)).symm) (fun i hi => by rw [EC 11 (by omega), hC.1.r i hi]; exact (EP _ (by omega)).symm) (fun i hi => by rw [EC 12 (by omega), hC.1.tq i hi]; exact (EP _ (by omega)).symm) (fun i hi => by rw [EC 13 (by omega), hC.1.tf i hi]; exact (EP _ (by omega)).symm) (fun i hi => by rw [EC 14 (by omega), hC.1.td i hi]; exact (EP _ (by omega)).symm) (fun i hi => by rw [EC 15 (by omega), hC.1.az i hi]; exact (EP _ (by omega)).symm) (fun i hi => by rw [EC 16 (by omega), hC.1.ab i hi, EP _ (by omega)]) (fun i hi => by rw [EC 17 (by omega), hC.1.fo i hi]; exact (EP _ (by omega)).symm) (by rw [sg_i (by omega), sg_j (by decide), sg_i (by omega), sg_i (by omega), hC.1.hr]; exact (EP 9 (by omega)).symm), rI_fr hC.2.1 (EC 84 (by omega)) (EC 85 (by omega)) (EC 86 (by omega)) (EC 87 (by omega)), by rw [EC 89 (by omega)]; exact hC.2.2.1, by rw [EC 83 (by omega)]; exact hC.2.2.2⟩
      · have q20 : P 3 = 20 := by
          have e : n = 20 := by
            rcases Nat.lt_or_ge n 20 with z | z
            · exact absurd ((nI_ltI (b := 20) (by omega) (by omega)).mpr z) c32
            · omega
          rw [hO.n3.1, e]; rfl
        refine ⟨trivial, ?_⟩
        refine fin0 _ (fun v P' hv => ?_)
        rcases hv with z | z | z | z
        · exact absurd qp z.1
        · exact absurd qf z.2.1
        · exact z.2.2.2
        · exact absurd q20 z.2.2.1
    · have qa := bI_f c13
      refine ⟨trivial, ?_⟩
      refine fin0 _ (fun v P' hv => ?_)
      rcases hv with z | z | z | z
      · exact absurd qp z.1
      · exact z.2.2
      · exact absurd z.2.1 qa
      · exact absurd z.2.1 qa
  · have qa := bI_f c4
    refine ⟨trivial, ?_⟩
    refine fin0 _ (fun v P' hv => ?_)
    rcases hv with z | z | z | z
    · exact z.2
    · exact absurd z.1 qa
    · exact absurd z.1 qa
    · exact absurd z.1 qa
theorem tp_set {P P' : Nat → Int32} {n k : Nat} (h3 : P 3 = nI n) (n20 : n ≤ 20) (hk : k < n) (e3 : P' 3 = P 3) (e : ∀ i, i < n → i ≠ k → P' (94 + i) = P (94 + i)) : (P' (94 + k) = 0 → tpX P' = tpX P ||| 1 <<< (nI k &&& 31)) ∧ (¬ P' (94 + k) = 0 → tpX P' = tpX P &&& ((1 <<< (nI k &&& 31)) ^^^ -1)) := by
  have h3' : P' 3 = nI n := e3.trans h3
  have hb : ∀ i, i < 32 → i ≠ k → bq (tpX P') i = bq (tpX P) i := fun i hi ne => by
    rw [tp_bit h3' n20 hi, tp_bit h3 n20 hi]
    by_cases z : i < n
    · rw [e i z ne]
    · rw [decide_eq_false z, Bool.false_and, Bool.false_and]
  constructor
  · intro h0
    refine bq_ext (fun i hi => ?_)
    rw [bq_or, bq_one (by omega) hi]
    by_cases z : i = k
    · rw [z, tp_bit h3' n20 (by omega), decide_eq_true hk, decide_eq_true h0, decide_eq_true rfl, Bool.or_true]; rfl
    · rw [decide_eq_false z, Bool.or_false]; exact hb i hi z
  · intro h0
    refine bq_ext (fun i hi => ?_)
    rw [bq_and, bq_xor, bq_one (by omega) hi, bq_m1 i hi]
    by_cases z : i = k
    · rw [z, tp_bit h3' n20 (by omega), decide_eq_false h0, decide_eq_true rfl]; simp
    · rw [decide_eq_false z]; rw [hb i hi z]; simp
theorem c_shown {cg : sg_T} {fn : Nat → Option Nat} {cx : cx_T} {P : Nat → Int32} {R C n Q T U d : Nat} (hd : 460 ≤ d) (hC : clR cg P) (hO : okP P R C n Q T U) (k : Int32) (b : Bool) : am_Met mi_X11_shown d 0 0 [.ref 0, .int k, .int (bI b)] (hc cg fn cx) (cX cx (fun v P' => v = sp_shown P k ∧ P' = sp_shownP P k (bI b))) := by
  refine am_Met.of rfl (Nat.le_of_ble_eq_true rfl) ?_
  refine am_go ok_X11_shown [] 92 ?_
  refine ⟨_, _, rfl, rfl, ?_⟩
  refine ⟨_, rfl, d - 1, 0, 0, _, by omega, Nat.le_of_ble_eq_true rfl, Nat.le_of_ble_eq_true rfl, Nat.le_of_ble_eq_true rfl, c_has (w := 3) (n := n) (d - 1) k rfl (by omega) ((hC.1.c 3 (by omega)).trans hO.n3.1) (by have := hO.n3.2; omega), ?_⟩
  rintro _ _ ⟨rfl, rfl⟩
  refine ⟨Or.inl rfl, ?_⟩
  refine ⟨fun c9 => ?_, fun c9 => ?_⟩
  · have qb := (show inI k 0 (P 3 - 1) by rw [hO.n3.1]; exact bI_t c9)
    have n20 := hO.n3.2
    obtain ⟨j, ej, cj, jn⟩ := ix_at hO.n3.1 (by omega) qb
    have fl := hO.f j (by omega)
    have ev : sp_shown P k = P (94 + j) := by unfold sp_shown; rw [if_pos qb, cj]
    have eP : sp_shownP P k (bI b) = upd P (94 + j) (if bI b = 0 then 0 else 1) := by unfold sp_shownP; rw [if_pos qb, cj]
    have TS := tp_set (P' := upd P (94 + j) (if bI b = 0 then 0 else 1)) hO.n3.1 n20 jn (pk_un (by omega)) (fun i hi ne => pk_un (by omega))
    rw [pk_us] at TS
    have fin : ∀ rv x, rv = P (94 + j) → x = tpX (upd P (94 + j) (if bI b = 0 then 0 else 1)) → cX cx (fun v P' => v = sp_shown P k ∧ P' = sp_shownP P k (bI b)) (some (.int rv)) (hc (sg_u cg 1 7 x) fn cx) := fun rv x e1 e2 => by
      refine ⟨rv, _, fn, cx, rfl, rfl, rfl, fun v P' hv => ⟨by rw [hv.1, ev, e1], ?_⟩⟩
      rw [hv.2, eP]
      have EC : ∀ aa, ¬ (aa = 1) → sg_u cg 1 7 x aa = cg aa := fun aa ha => by rw [sg_i (by omega)]
      have EP : ∀ jj, ¬ (jj = 94 + j) → upd P (94 + j) (if bI b = 0 then 0 else 1) jj = P jj := fun jj hj => by rw [pk_un (by omega)]
      exact ⟨BR_g hO.W hC.1 (fun a h1 h2 => EC a (by omega)) (fun j hj => EP j (by omega)) (fun i hi => by rw [EC 2 (by omega), hC.1.c i hi]; exact (EP _ (by omega)).symm) (by rw [EC 2 (by omega), hC.1.c7]; exact (EP 8 (by omega)).symm) (fun i hi => by rw [EC 3 (by omega), hC.1.t i hi, EP _ (by omega)]) (fun i hi => by rw [EC 5 (by omega), hC.1.cr i hi]; exact (EP _ (by omega)).symm) (fun i hi => by rw [EC 6 (by omega), hC.1.cd i hi]; exact (EP _ (by omega)).symm) (fun i hi => by rw [EC 7 (by omega), hC.1.pf i hi]; exact (EP _ (by omega)).symm) (fun i hi => by rw [EC 8 (by omega), hC.1.pp i hi]; exact (EP _ (by omega)).symm) (by rw [sg_s]; exact e2) (fun i hi => by rw [EC 9 (by omega), hC.1.k i hi]; exact (EP _ (by omega)).symm) (fun i hi => by rw [EC 10 (by omega), hC.1.s i hi]; exact (EP _ (by omega)).symm) (fun i hi => by rw [EC 11 (by omega), hC.1.r i hi]; exact (EP _ (by omega)).symm) (fun i hi => by rw [EC 12 (by omega), hC.1.tq i hi]; exact (EP _ (by omega)).symm) (fun i hi => by rw [EC 13 (by omega), hC.1.tf i hi]; exact (EP _ (by omega)).symm) (fun i hi => by rw [EC 14 (by omega), hC.1.td i hi]; exact (EP _ (by omega)).symm) (fun i hi => by rw [EC 15 (by omega), hC.1.az i hi]; exact (EP _ (by omega)).symm) (fun i hi => by rw [EC 16 (by omega), hC.1.ab i hi, EP _ (by omega)]) (fun i hi => by rw [EC 17 (by omega), hC.1.fo i hi]; exact (EP _ (by omega)).symm) (by rw [sg_j (by decide), hC.1.hr]; exact (EP 9 (by omega)).symm), rI_fr hC.2.1 (EC 84 (by omega)) (EC 85 (by omega)) (EC 86 (by omega)) (EC 87 (by omega)), by rw [EC 89 (by omega)]; exact hC.2.2.1, by rw [EC 83 (by omega)]; exact hC.2.2.2⟩
    refine ⟨_, _, rfl, rfl, ?_⟩
    refine ⟨_, rfl, d - 1, 0, 0, _, by omega, Nat.le_of_ble_eq_true rfl, Nat.le_of_ble_eq_true rfl, Nat.le_of_ble_eq_true rfl, c_isTrue hC.1 (d := d - 1) (by omega) hO.n3.1 n20 k, ?_⟩
    rintro _ _ ⟨rfl, rfl⟩
    refine ⟨Or.inl rfl, ?_⟩
    refine ⟨fun c22 => ?_, fun c22 => ?_⟩
    · have e1 : (1 : Int32) = P (94 + j) := by
        rcases fl with z | z
        · exact absurd ⟨qb, by rw [cj]; exact z⟩ (bI_f c22)
        · exact z.symm
      refine ⟨_, _, rfl, rfl, ?_⟩
      refine ⟨fun c41 => ?_, fun c41 => ?_⟩
      · have e2 := (TS.1 (by rw [if_pos c41])).symm
        rw [← ej] at e2
        refine ⟨_, _, rfl, rfl, ?_⟩
        refine ⟨_, _, rfl, rfl, ?_⟩
        rw [hC.1.tp]
        refine ⟨_, rfl, Nat.le_of_ble_eq_true rfl, trivial, ?_⟩
        rw [hc_f1_7]
        refine ⟨trivial, ?_⟩
        exact fin _ _ e1 e2
      · have e2 := (TS.2 (by rw [if_neg c41]; decide)).symm
        rw [← ej] at e2
        refine ⟨_, _, rfl, rfl, ?_⟩
        refine ⟨_, _, rfl, rfl, ?_⟩
        rw [hC.1.tp]
        refine ⟨_, rfl, Nat.le_of_ble_eq_true rfl, trivial, ?_⟩
        rw [hc_f1_7]
        refine ⟨trivial, ?_⟩
        exact fin _ _ e1 e2
    · have e1 : (0 : Int32) = P (94 + j) := by have := (bI_t c22).2; rw [cj] at this; exact this.symm
      refine ⟨_, _, rfl, rfl, ?_⟩
      refine ⟨fun c41 => ?_, fun c41 => ?_⟩
      · have e2 := (TS.1 (by rw [if_pos c41])).symm
        rw [← ej] at e2
        refine ⟨_, _, rfl, rfl, ?_⟩
        refine ⟨_, _, rfl, rfl, ?_⟩
        rw [hC.1.tp]
        refine ⟨_, rfl, Nat.le_of_ble_eq_true rfl, trivial, ?_⟩
        rw [hc_f1_7]
        refine ⟨trivial, ?_⟩
        exact fin _ _ e1 e2
      · have e2 := (TS.2 (by rw [if_neg c41]; decide)).symm
        rw [← ej] at e2
        refine ⟨_, _, rfl, rfl, ?_⟩
        refine ⟨_, _, rfl, rfl, ?_⟩
        rw [hC.1.tp]
        refine ⟨_, rfl, Nat.le_of_ble_eq_true rfl, trivial, ?_⟩
        rw [hc_f1_7]
        refine ⟨trivial, ?_⟩
        exact fin _ _ e1 e2
  · have qa : ¬ inI k 0 (P 3 - 1) := (fun z => bI_f c9 (by rw [← hO.n3.1]; exact z))
    refine ⟨trivial, ?_⟩
    refine ⟨-1, cg, fn, cx, rfl, rfl, rfl, fun v P' hv => ⟨hv.1.trans (by unfold sp_shown; rw [if_neg qa]), ?_⟩⟩
    rw [hv.2]
    unfold sp_shownP
    rw [if_neg qa]
    exact hC
