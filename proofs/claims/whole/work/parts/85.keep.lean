/-! .. and by rule, change -/
theorem rd_new {P X : Nat → Int32} {x : Nat} {res : rdT} {w : Int32} (hW : rdO (hr P) X x w res) (e : w = -1) (lt : ∀ c, res = .inl c → c ≤ 120) : ∀ P' : Nat → Int32, (∀ j, x ≤ j → j < x + 30 → P' j = X j) → okX P' x ∧ ltP P' x := by
  intro P' hX
  cases hr' : res with
  | inl c =>
    rw [hr'] at hW
    have hw : w = nI c := hW
    have := lt c hr'
    exact absurd (show nI c < 0 by rw [← hw, e]; decide) (nI_pos (by omega))
  | inr y =>
    obtain ⟨nt, ns, tp, sp, ee⟩ := y
    rw [hr'] at hW
    obtain ⟨hK, n1, hE, hb⟩ := (show txK (hr P) X x nt ns tp sp ∧ 1 ≤ nt ∧ txE (hr P) X x ee ∧ ((bdL X x nt ns ∧ w = 200) ∨ (¬ bdL X x nt ns ∧ w = -1)) from hW)
    have nb : ¬ bdL X x nt ns := hb.elim (fun z => absurd (e.symm.trans z.2) (by decide)) (fun z => z.1)
    have key := tx_new (t := 0) (cg := fun c i => if c = 18 then (if i = 0 then nI nt else if i = 1 then nI ns else tlC (hr P) tp nt) else if c = 19 then (if i / 4 = 3 then (if i % 4 = 0 then shF (hr P ee) else acI (hr P (ee + 2 * (i % 4)))) else (if i % 4 = 0 then shF (hr P (tp (i / 4))) else acI (hr P (tp (i / 4) + 2 * (i % 4))))) else (if i % 3 = 0 then acI (hr P (sp (i / 3))) else if i % 3 = 1 then sgX (hr P (sp (i / 3) + 1)) else acI (hr P (sp (i / 3) + 2)))) hX hK hE n1 rfl rfl
      (fun k hk => ⟨by
        have := hK.2.2.1
        show (if (4 * k) / 4 = 3 then _ else _) = _
        rw [if_neg (by omega), if_pos (by omega), show 4 * k / 4 = k by omega], fun j j1 j3 => by
        have := hK.2.2.1
        show (if (4 * k + j) / 4 = 3 then _ else _) = _
        rw [if_neg (by omega), if_neg (by omega), show (4 * k + j) / 4 = k by omega, show (4 * k + j) % 4 = j by omega]⟩)
      (fun k hk => ⟨by
        show (if (3 * k) % 3 = 0 then _ else _) = _
        rw [if_pos (by omega), show 3 * k / 3 = k by omega], by
        show (if (3 * k + 1) % 3 = 0 then _ else _) = _
        rw [if_neg (by omega), if_pos (by omega), show (3 * k + 1) / 3 = k by omega], by
        show (if (3 * k + 2) % 3 = 0 then _ else _) = _
        rw [if_neg (by omega), if_neg (by omega), show (3 * k + 2) / 3 = k by omega]⟩)
      rfl
      ⟨rfl, fun j j1 j3 => by
        show (if (4 * 3 + j) / 4 = 3 then _ else _) = _
        rw [if_pos (by omega), if_neg (by omega), show (4 * 3 + j) % 4 = j by omega]⟩
    exact ⟨key.2.1, key.2.2.2 nb⟩
theorem old_x {P P' : Nat → Int32} {R C n Q T U : Nat} (hO : okP P R C n Q T U) (EX : ∀ j, 1758 ≤ j → j < 1758 + 30 * (R + C) → P' j = P j) : (∀ r, r < R → P' (10 + r) = P (10 + r) → okX P' (1758 + 30 * pn P' (10 + r)) ∧ ltP P' (1758 + 30 * pn P' (10 + r))) ∧ ∀ c, c < C → P' (42 + c) = P (42 + c) → okX P' (1758 + 30 * pn P' (42 + c)) ∧ ltP P' (1758 + 30 * pn P' (42 + c)) := by
  have R8 := hO.r1.2
  have C12 := hO.c2.2
  constructor
  · intro r hr e
    obtain ⟨t, t1, et⟩ := hO.nu.1 r hr
    have pt := pn_of et (by omega)
    rw [pn_w e]
    have kx := hO.W.2.2.2.2.2.2.2.2.2.1 r hr
    exact ⟨fr_okX (fun j h1 h2 => EX j (by omega) (by omega)) kx, fr_ltP (fun j h1 h2 => EX j (by omega) (by omega)) kx (hO.l.1 r hr)⟩
  · intro c hc e
    obtain ⟨t, t1, et⟩ := hO.nu.2 c hc
    have pt := pn_of et (by omega)
    rw [pn_w e]
    have kx := hO.W.2.2.2.2.2.2.2.2.2.2 c hc
    exact ⟨fr_okX (fun j h1 h2 => EX j (by omega) (by omega)) kx, fr_ltP (fun j h1 h2 => EX j (by omega) (by omega)) kx (hO.l.2 c hc)⟩
theorem k_ru_no {X : Nat → Int32} {P P' : Nat → Int32} {R C n Q T U : Nat} (hO : okP P R C n Q T U) (hX : exT P X) (rc : R + C < 20) (e : P' = upd X 8 0) : okE P' := by
  have R8 := hO.r1.2
  have C12 := hO.c2.2
  have p1 : pn P 1 = R := pn_of hO.r1.1 (by omega)
  have p2 : pn P 2 = C := pn_of hO.c2.1 (by omega)
  have p7 : pn P 7 = R + C := pn_of hO.h7 (by omega)
  have t7 : tx7 P = 1758 + 30 * (R + C) := by unfold tx7; rw [p7]
  have hX' : ∀ j, ¬ (1758 + 30 * (R + C) ≤ j ∧ j < 1758 + 30 * (R + C) + 30) → X j = P j := fun j hj => hX j (by rw [t7]; exact hj)
  have EP : ∀ j, ¬ (j = 8 ∨ 1758 + 30 * (R + C) ≤ j ∧ j < 1758 + 30 * (R + C) + 30) → P' j = P j := fun j hj => by rw [e, pk_un (by omega)]; exact hX' j (by omega)
  have OX := old_x (P' := P') hO (fun j h1 h2 => EP j (by omega))
  exact ⟨R, C, n, Q, T, U, ⟨⟨(EP 1 (by omega)).trans hO.r1.1, R8, (EP 2 (by omega)).trans hO.c2.1, C12, fun r hr => by rw [EP _ (by omega)]; exact hO.W.2.2.2.2.1 r hr, fun c hc => by rw [EP _ (by omega)]; exact hO.W.2.2.2.2.2.1 c hc, (EP 3 (by omega)).trans hO.n3.1, hO.n3.2, pap_w hO.W (fun j h1 h2 => EP j (by omega)), fun r hr => (OX.1 r hr (EP _ (by omega))).1, fun c hc => (OX.2 c hc (EP _ (by omega))).1⟩, ⟨fun r hr => (OX.1 r hr (EP _ (by omega))).2, fun c hc => (OX.2 c hc (EP _ (by omega))).2⟩, (EP 7 (by omega)).trans hO.h7, ⟨0, by omega, by rw [e, pk_us]; rfl⟩, fr_tb (fun j h1 h2 => EP j (by omega)) hO.b, fr_pf (fun j hj => EP j (by omega)) (Nat.le_refl _) hO.A, fr_tt (fun j hj => EP j (by omega)) (Nat.le_refl _) hO.q4.2 hO.tt, fr_fl (fun j h1 h2 => EP j (by omega)) hO.f, ⟨(EP 6 (by omega)).trans hO.u.1, hO.u.2.1, fr_tc (fun j hj => EP j (by omega)) hO.u.2.1 hO.u.2.2⟩, fun j hj => (EP j (by omega)).trans (hO.z j hj), by rw [EP 0 (by omega)]; exact hO.d, fun j hj => by rw [EP j (by omega)]; exact hO.o j hj, ⟨fun r hr => by rw [EP _ (by omega)]; exact hO.nu.1 r hr, fun c hc => by rw [EP _ (by omega)]; exact hO.nu.2 c hc⟩⟩⟩
theorem k_ru_ok {X : Nat → Int32} {P P' : Nat → Int32} {R C n Q T U : Nat} (hO : okP P R C n Q T U) (hX : exT P X) (rc : R + C < 20) (r8 : R < 8) (hT : ∀ P' : Nat → Int32, (∀ j, tx7 P ≤ j → j < tx7 P + 30 → P' j = X j) → okX P' (tx7 P) ∧ ltP P' (tx7 P)) (e : P' = ruN P X) : okE P' := by
  have R8 := hO.r1.2
  have C12 := hO.c2.2
  have p1 : pn P 1 = R := pn_of hO.r1.1 (by omega)
  have p2 : pn P 2 = C := pn_of hO.c2.1 (by omega)
  have p7 : pn P 7 = R + C := pn_of hO.h7 (by omega)
  have t7 : tx7 P = 1758 + 30 * (R + C) := by unfold tx7; rw [p7]
  have hX' : ∀ j, ¬ (1758 + 30 * (R + C) ≤ j ∧ j < 1758 + 30 * (R + C) + 30) → X j = P j := fun j hj => hX j (by rw [t7]; exact hj)
  have hN : ruN P X = upd (upd (upd (upd X 8 0) (10 + R) (nI (R + C))) 7 (nI (R + C + 1))) 1 (nI (R + 1)) := by unfold ruN; rw [p1, hO.h7, hO.r1.1, nI_1, nI_1]
  rw [hN] at e
  have EP : ∀ j, ¬ (j = 8 ∨ j = 7 ∨ j = 1 ∨ j = 10 + R ∨ 1758 + 30 * (R + C) ≤ j ∧ j < 1758 + 30 * (R + C) + 30) → P' j = P j := fun j hj => by rw [e, pk_un (by omega), pk_un (by omega), pk_un (by omega), pk_un (by omega)]; exact hX' j (by omega)
  have OX := old_x (P' := P') hO (fun j h1 h2 => EP j (by omega))
  have eN : P' (10 + R) = nI (R + C) := by rw [e, pk_un (by omega), pk_un (by omega), pk_us]
  have pNw := pn_of eN (by omega)
  have TN := hT P' (fun j j1 j2 => by rw [t7] at j1 j2; rw [e, pk_un (by omega), pk_un (by omega), pk_un (by omega), pk_un (by omega)])
  rw [t7] at TN
  exact ⟨R + 1, C, n, Q, T, U, ⟨⟨by rw [e, pk_us], by omega, (EP 2 (by omega)).trans hO.c2.1, C12, fun r hr => by
      by_cases y : r = R
      · exact ⟨R + C, by omega, by rw [y]; exact eN⟩
      · rw [EP _ (by omega)]; exact hO.W.2.2.2.2.1 r hr, fun c hc => by rw [EP _ (by omega)]; exact hO.W.2.2.2.2.2.1 c hc, (EP 3 (by omega)).trans hO.n3.1, hO.n3.2, pap_w hO.W (fun j h1 h2 => EP j (by omega)), fun r hr => by
      by_cases y : r = R
      · rw [y, pNw]; exact TN.1
      · exact (OX.1 r (by omega) (EP _ (by omega))).1, fun c hc => (OX.2 c hc (EP _ (by omega))).1⟩, ⟨fun r hr => by
      by_cases y : r = R
      · rw [y, pNw]; exact TN.2
      · exact (OX.1 r (by omega) (EP _ (by omega))).2, fun c hc => (OX.2 c hc (EP _ (by omega))).2⟩, by rw [show R + 1 + C = R + C + 1 by omega, e, pk_un (by omega), pk_us], ⟨0, by omega, by rw [e, pk_un (by omega), pk_un (by omega), pk_un (by omega), pk_us]; rfl⟩, fr_tb (fun j h1 h2 => EP j (by omega)) hO.b, fr_pf (fun j hj => EP j (by omega)) (by omega) hO.A, fr_tt (fun j hj => EP j (by omega)) (Nat.le_refl _) hO.q4.2 hO.tt, fr_fl (fun j h1 h2 => EP j (by omega)) hO.f, ⟨(EP 6 (by omega)).trans hO.u.1, hO.u.2.1, fr_tc (fun j hj => EP j (by omega)) hO.u.2.1 hO.u.2.2⟩, fun j hj => (EP j (by omega)).trans (hO.z j hj), by rw [EP 0 (by omega)]; exact hO.d, fun j hj => by rw [EP j (by omega)]; exact hO.o j hj, ⟨fun r hr => by
      by_cases y : r = R
      · exact ⟨R + C, by omega, by rw [y]; exact eN⟩
      · rw [EP _ (by omega)]; obtain ⟨t, t1, et⟩ := hO.nu.1 r (by omega); exact ⟨t, by omega, et⟩, fun c hc => by rw [EP _ (by omega)]; obtain ⟨t, t1, et⟩ := hO.nu.2 c hc; exact ⟨t, by omega, et⟩⟩⟩⟩
theorem k_ch_ok {X : Nat → Int32} {P P' : Nat → Int32} {R C n Q T U : Nat} (hO : okP P R C n Q T U) (hX : exT P X) (rc : R + C < 20) (c12 : C < 12) {r dy : Int32} (hT : ∀ P' : Nat → Int32, (∀ j, tx7 P ≤ j → j < tx7 P + 30 → P' j = X j) → okX P' (tx7 P) ∧ ltP P' (tx7 P)) (e : P' = chN P X r dy) : okE P' := by
  have R8 := hO.r1.2
  have C12 := hO.c2.2
  have p1 : pn P 1 = R := pn_of hO.r1.1 (by omega)
  have p2 : pn P 2 = C := pn_of hO.c2.1 (by omega)
  have p7 : pn P 7 = R + C := pn_of hO.h7 (by omega)
  have t7 : tx7 P = 1758 + 30 * (R + C) := by unfold tx7; rw [p7]
  have hX' : ∀ j, ¬ (1758 + 30 * (R + C) ≤ j ∧ j < 1758 + 30 * (R + C) + 30) → X j = P j := fun j hj => hX j (by rw [t7]; exact hj)
  have hN : chN P X r dy = upd (upd (upd (upd (upd (upd X 8 0) (18 + C) r) (30 + C) dy) (42 + C) (nI (R + C))) 7 (nI (R + C + 1))) 2 (nI (C + 1)) := by unfold chN; rw [p2, hO.h7, hO.c2.1, nI_1, nI_1]
  rw [hN] at e
  have EP : ∀ j, ¬ (j = 8 ∨ j = 7 ∨ j = 2 ∨ j = 18 + C ∨ j = 30 + C ∨ j = 42 + C ∨ 1758 + 30 * (R + C) ≤ j ∧ j < 1758 + 30 * (R + C) + 30) → P' j = P j := fun j hj => by rw [e, pk_un (by omega), pk_un (by omega), pk_un (by omega), pk_un (by omega), pk_un (by omega), pk_un (by omega)]; exact hX' j (by omega)
  have OX := old_x (P' := P') hO (fun j h1 h2 => EP j (by omega))
  have eN : P' (42 + C) = nI (R + C) := by rw [e, pk_un (by omega), pk_un (by omega), pk_us]
  have pNw := pn_of eN (by omega)
  have TN := hT P' (fun j j1 j2 => by rw [t7] at j1 j2; rw [e, pk_un (by omega), pk_un (by omega), pk_un (by omega), pk_un (by omega), pk_un (by omega), pk_un (by omega)])
  rw [t7] at TN
  exact ⟨R, C + 1, n, Q, T, U, ⟨⟨(EP 1 (by omega)).trans hO.r1.1, R8, by rw [e, pk_us], by omega, fun r hr => by rw [EP _ (by omega)]; exact hO.W.2.2.2.2.1 r hr, fun c hc => by
      by_cases y : c = C
      · exact ⟨R + C, by omega, by rw [y]; exact eN⟩
      · rw [EP _ (by omega)]; exact hO.W.2.2.2.2.2.1 c (by omega), (EP 3 (by omega)).trans hO.n3.1, hO.n3.2, pap_w hO.W (fun j h1 h2 => EP j (by omega)), fun r hr => (OX.1 r hr (EP _ (by omega))).1, fun c hc => by
      by_cases y : c = C
      · rw [y, pNw]; exact TN.1
      · exact (OX.2 c (by omega) (EP _ (by omega))).1⟩, ⟨fun r hr => (OX.1 r hr (EP _ (by omega))).2, fun c hc => by
      by_cases y : c = C
      · rw [y, pNw]; exact TN.2
      · exact (OX.2 c (by omega) (EP _ (by omega))).2⟩, by rw [show R + (C + 1) = R + C + 1 by omega, e, pk_un (by omega), pk_us], ⟨0, by omega, by rw [e, pk_un (by omega), pk_un (by omega), pk_un (by omega), pk_un (by omega), pk_un (by omega), pk_us]; rfl⟩, fr_tb (fun j h1 h2 => EP j (by omega)) hO.b, fr_pf (fun j hj => EP j (by omega)) (Nat.le_refl _) hO.A, fr_tt (fun j hj => EP j (by omega)) (Nat.le_refl _) hO.q4.2 hO.tt, fr_fl (fun j h1 h2 => EP j (by omega)) hO.f, ⟨(EP 6 (by omega)).trans hO.u.1, hO.u.2.1, fr_tc (fun j hj => EP j (by omega)) hO.u.2.1 hO.u.2.2⟩, fun j hj => (EP j (by omega)).trans (hO.z j hj), by rw [EP 0 (by omega)]; exact hO.d, fun j hj => by rw [EP j (by omega)]; exact hO.o j hj, ⟨fun r hr => by rw [EP _ (by omega)]; obtain ⟨t, t1, et⟩ := hO.nu.1 r hr; exact ⟨t, by omega, et⟩, fun c hc => by
      by_cases y : c = C
      · exact ⟨R + C, by omega, by rw [y]; exact eN⟩
      · rw [EP _ (by omega)]; obtain ⟨t, t1, et⟩ := hO.nu.2 c (by omega); exact ⟨t, by omega, et⟩⟩⟩⟩
theorem rl_lt {P P' : Nat → Int32} {R C n Q T U : Nat} (hO : okP P R C n Q T U) {c : Nat} (h : rdA (hr P) (pn P 8) = .inl c) : c ≤ 120 := by
  obtain ⟨e8, n8⟩ := tp_n hO.t
  exact rd_le e8 n8 h
theorem k_rule {P P' : Nat → Int32} {R C n Q T U : Nat} (hO : okP P R C n Q T U) {v : Int32} (h : sp_rule P v P') : okE P' := by
  have R8 := hO.r1.2
  have C12 := hO.c2.2
  rcases h with ⟨-, -, e⟩ | ⟨a1, X, w, hX, hW, h⟩
  · rw [e]; exact ⟨_, _, _, _, _, _, hO⟩
  · have rl : R < 8 := by
      rcases Nat.lt_or_ge R 8 with y | y
      · exact y
      · exact absurd (by rw [hO.r1.1, show R = 8 by omega]; rfl) a1
    rcases h with ⟨-, -, e⟩ | ⟨ew, -, e⟩
    · exact k_ru_no hO hX (by omega) e
    · exact k_ru_ok hO hX (by omega) rl (rd_new hW ew (fun c hc => rl_lt (P' := P) hO hc)) e
theorem k_change {P P' : Nat → Int32} {R C n Q T U : Nat} (hO : okP P R C n Q T U) {r dy v : Int32} (h : sp_change P r dy v P') : okE P' := by
  have R8 := hO.r1.2
  have C12 := hO.c2.2
  rcases h with ⟨-, -, e⟩ | ⟨-, -, -, e⟩ | ⟨-, -, -, -, e⟩ | ⟨-, -, a1, X, w, hX, hW, h⟩
  · rw [e]; exact ⟨_, _, _, _, _, _, hO⟩
  · rw [e]; exact ⟨_, _, _, _, _, _, hO⟩
  · rw [e]; exact ⟨_, _, _, _, _, _, hO⟩
  · have cl : C < 12 := by
      rcases Nat.lt_or_ge C 12 with y | y
      · exact y
      · exact absurd (by rw [hO.c2.1, show C = 12 by omega]; rfl) a1
    rcases h with ⟨-, -, e⟩ | ⟨ew, -, e⟩
    · exact k_ru_no hO hX (by omega) e
    · exact k_ch_ok hO hX (by omega) cl (rd_new hW ew (fun c hc => rl_lt (P' := P) hO hc)) e
