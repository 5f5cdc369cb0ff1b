/-! the class's rule and change -/
theorem rd_eq {P X : Nat → Int32} {cg : sg_T} {t x : Nat} {res : rdT} {v w : Int32} (hR : rdR P t res v cg) (hW : rdO (hr P) X x w res) : v = w ∧ (v = -1 ∨ ¬ v < 0) ∧ (v = -1 → ∀ P' : Nat → Int32, (∀ j, x ≤ j → j < x + 30 → P' j = X j) → txR cg (18 + 3 * t) P' x ∧ okX P' x ∧ ltP P' x) := by
  rcases hR with ⟨c, ev, c1, er⟩ | ⟨nt, ns, tp, sp, e, n1, er, r0, r1, r2, r3, r4, r5, r6, r7, r8⟩
  · rw [er] at hW
    have hw : w = nI c := hW
    refine ⟨by rw [ev, hw], Or.inr (by rw [ev]; exact nI_pos (by omega)), fun z => absurd (ev.symm.trans z) (fun y => ?_)⟩
    exact absurd (show nI c < 0 by rw [y]; decide) (nI_pos (by omega))
  · rw [er] at hW
    obtain ⟨hK, -, hE, hb⟩ := (show txK (hr P) X x nt ns tp sp ∧ 1 ≤ nt ∧ txE (hr P) X x e ∧ ((bdL X x nt ns ∧ w = 200) ∨ (¬ bdL X x nt ns ∧ w = -1)) from hW)
    have key := fun (P' : Nat → Int32) (hX : ∀ j, x ≤ j → j < x + 30 → P' j = X j) => tx_new hX hK hE n1 r0 r1 r4 r5 r6 r7
    have k0 := (key X (fun _ _ _ => rfl)).2.2.1
    rcases r8 with ⟨ez, ev⟩ | ⟨ez, ev⟩
    · have nb := k0.mp ez
      have ew : w = -1 := hb.elim (fun z => absurd z.1 nb) (fun z => z.2)
      refine ⟨by rw [ev, ew], Or.inl ev, fun _ P' hX => ?_⟩
      obtain ⟨a1, a2, -, a4⟩ := key P' hX
      exact ⟨a1, a2, a4 nb⟩
    · have nb : bdL X x nt ns := Classical.byContradiction (fun z => ez (k0.mpr z))
      have ew : w = 200 := hb.elim (fun z => z.2) (fun z => absurd nb z.1)
      exact ⟨by rw [ev, ew], Or.inr (by rw [ev]; decide), fun z => absurd (ev.symm.trans z) (by decide)⟩
theorem tx_old {cg cg' : sg_T} {P P' : Nat → Int32} {R C n Q T U t : Nat} (hC : clR cg P) (hO : okP P R C n Q T U) (EC : ∀ a, 18 ≤ a → a < 78 → a ≠ 18 + 3 * t → a ≠ 19 + 3 * t → a ≠ 20 + 3 * t → cg' a = cg a) (EX : ∀ j, 1758 ≤ j → j < 1758 + 30 * (R + C) → P' j = P j) : (∀ r, r < R → r ≠ t → P' (10 + r) = P (10 + r) → txR cg' (18 + 3 * r) P' (1758 + 30 * pn P' (10 + r))) ∧ ∀ c, c < C → 8 + c ≠ t → P' (42 + c) = P (42 + c) → txR cg' (18 + 3 * (8 + c)) P' (1758 + 30 * pn P' (42 + c)) := by
  have R8 := hO.r1.2
  have C12 := hO.c2.2
  have p1 : pn P 1 = R := pn_of hO.r1.1 (by omega)
  have p2 : pn P 2 = C := pn_of hO.c2.1 (by omega)
  constructor
  · intro r hr ht e
    obtain ⟨tt, t20, et⟩ := hO.nu.1 r hr
    have pt := pn_of et (by omega)
    rw [pn_w e]
    exact txR_fr (txR_w (hO.W.2.2.2.2.2.2.2.2.2.1 r hr) (hC.1.xr r (by omega)) (fun j j1 j2 => EX j (by omega) (by omega))) (EC _ (by omega) (by omega) (by omega) (by omega) (by omega)) (EC _ (by omega) (by omega) (by omega) (by omega) (by omega)) (EC _ (by omega) (by omega) (by omega) (by omega) (by omega))
  · intro c hc ht e
    obtain ⟨tt, t20, et⟩ := hO.nu.2 c hc
    have pt := pn_of et (by omega)
    rw [pn_w e]
    exact txR_fr (txR_w (hO.W.2.2.2.2.2.2.2.2.2.2 c hc) (hC.1.xc c (by omega)) (fun j j1 j2 => EX j (by omega) (by omega))) (EC _ (by omega) (by omega) (by omega) (by omega) (by omega)) (EC _ (by omega) (by omega) (by omega) (by omega) (by omega)) (EC _ (by omega) (by omega) (by omega) (by omega) (by omega))
theorem rd_back {cg c2 : sg_T} {P : Nat → Int32} {t : Nat} {res : rdT} {v : Int32} (t20 : t < 20) (F : ∀ c, c ≠ 91 → c ≠ 18 + 3 * t → c ≠ 19 + 3 * t → c ≠ 20 + 3 * t → c2 c = sg_u cg 2 7 0 c) (hR : rdR P t res v c2) : ∃ c1, c2 = sg_u c1 2 7 0 ∧ (∀ c, c ≠ 91 → c ≠ 18 + 3 * t → c ≠ 19 + 3 * t → c ≠ 20 + 3 * t → c1 c = cg c) ∧ rdR P t res v c1 := by
  have key : ∀ c1 : sg_T, c1 (18 + 3 * t) = c2 (18 + 3 * t) → c1 (19 + 3 * t) = c2 (19 + 3 * t) → c1 (20 + 3 * t) = c2 (20 + 3 * t) → rdR P t res v c1 := fun c1 e1 e2 e3 => by
    unfold rdR at hR ⊢
    rw [e1, e2, e3]; exact hR
  refine ⟨fun c => if c = 2 then cg 2 else c2 c, ?_, fun c h1 h2 h3 h4 => ?_, key _ (if_neg (by omega)) (if_neg (by omega)) (if_neg (by omega))⟩
  · funext c
    by_cases z : c = 2
    · subst z
      rw [F 2 (by omega) (by omega) (by omega) (by omega)]
      funext i
      by_cases y : i = 7
      · rw [y, sg_s, sg_s]
      · rw [sg_j y, sg_j y]
        show cg 2 i = (if 2 = 2 then cg 2 else c2 2) i
        rw [if_pos rfl]
    · rw [sg_i z]
      show c2 c = if c = 2 then cg 2 else c2 c
      rw [if_neg z]
  · show (if c = 2 then cg 2 else c2 c) = cg c
    by_cases z : c = 2
    · rw [if_pos z, z]
    · rw [if_neg z, F c h1 h2 h3 h4, sg_i z]
theorem ru_no {cg c1 : sg_T} {P X : Nat → Int32} {R C n Q T U t : Nat} (hC : clR cg P) (hO : okP P R C n Q T U) (hF : ∀ c, c ≠ 91 → c ≠ 18 + 3 * t → c ≠ 19 + 3 * t → c ≠ 20 + 3 * t → c1 c = cg c) (hX : exT P X) (rc : R + C < 20) (ht : (t = R ∧ R < 8) ∨ (t = 8 + C ∧ C < 12)) : clR (sg_u c1 2 7 0) (upd X 8 0) := by
  have R8 := hO.r1.2
  have C12 := hO.c2.2
  have p1 : pn P 1 = R := pn_of hO.r1.1 (by omega)
  have p2 : pn P 2 = C := pn_of hO.c2.1 (by omega)
  have p7 : pn P 7 = R + C := pn_of hO.h7 (by omega)
  have hX' : ∀ j, ¬ (1758 + 30 * (R + C) ≤ j ∧ j < 1758 + 30 * (R + C) + 30) → X j = P j := fun j hj => hX j (by unfold tx7; rw [p7]; exact hj)
  have EC : ∀ aa, ¬ (aa = 2 ∨ aa = 91 ∨ aa = 18 + 3 * t ∨ aa = 19 + 3 * t ∨ aa = 20 + 3 * t) → sg_u c1 2 7 0 aa = cg aa := fun aa ha => by rw [sg_i (by omega)]; exact hF aa (by omega) (by omega) (by omega) (by omega)
  have EP : ∀ jj, ¬ (jj = 8 ∨ 1758 + 30 * (R + C) ≤ jj ∧ jj < 1758 + 30 * (R + C) + 30) → upd X 8 0 jj = P jj := fun jj hj => by rw [pk_un (by omega)]; exact hX' jj (by omega)
  have TO := tx_old (t := t) (cg' := sg_u c1 2 7 0) (P' := upd X 8 0) hC hO (fun a h1 h2 h3 h4 h5 => EC a (by omega)) (fun j h1 h2 => EP j (by omega))
  exact ⟨⟨(fun i hi => by rw [sg_j (by omega), hF 2 (by omega) (by omega) (by omega) (by omega), hC.1.c i hi]; exact (EP _ (by omega)).symm), (by rw [sg_s, pk_us]), (fun i hi => by rw [EC 3 (by omega), hC.1.t i hi, EP _ (by omega)]), (fun i hi => by rw [EC 5 (by omega), hC.1.cr i hi]; exact (EP _ (by omega)).symm), (fun i hi => by rw [EC 6 (by omega), hC.1.cd i hi]; exact (EP _ (by omega)).symm), (fun i hi => by rw [EC 7 (by omega), hC.1.pf i hi]; exact (EP _ (by omega)).symm), (fun i hi => by rw [EC 8 (by omega), hC.1.pp i hi]; exact (EP _ (by omega)).symm), (by rw [EC 1 (by omega), hC.1.tp]; exact (tp_w hO.n3.1 hO.n3.2 (EP 3 (by omega)) (fun k hk => EP _ (by omega))).symm), (fun i hi => by rw [EC 9 (by omega), hC.1.k i hi]; exact (EP _ (by omega)).symm), (fun i hi => by rw [EC 10 (by omega), hC.1.s i hi]; exact (EP _ (by omega)).symm), (fun i hi => by rw [EC 11 (by omega), hC.1.r i hi]; exact (EP _ (by omega)).symm), (fun i hi => by rw [EC 12 (by omega), hC.1.tq i hi]; exact (EP _ (by omega)).symm), (fun i hi => by rw [EC 13 (by omega), hC.1.tf i hi]; exact (EP _ (by omega)).symm), (fun i hi => by rw [EC 14 (by omega), hC.1.td i hi]; exact (EP _ (by omega)).symm), (fun i hi => by rw [EC 15 (by omega), hC.1.az i hi]; exact (EP _ (by omega)).symm), (fun i hi => by rw [EC 16 (by omega), hC.1.ab i hi, EP _ (by omega)]), (fun i hi => by rw [EC 17 (by omega), hC.1.fo i hi]; exact (EP _ (by omega)).symm), (by rw [EC 1 (by omega), hC.1.hr]; exact (EP 9 (by omega)).symm), fun r hr => by rw [pn_w (EP 1 (by omega)), p1] at hr; exact TO.1 r hr (by omega) (EP _ (by omega)), fun c hc => by rw [pn_w (EP 2 (by omega)), p2] at hc; exact TO.2 c hc (by omega) (EP _ (by omega))⟩, rI_fr hC.2.1 (EC 84 (by omega)) (EC 85 (by omega)) (EC 86 (by omega)) (EC 87 (by omega)), by rw [EC 89 (by omega)]; exact hC.2.2.1, by rw [EC 83 (by omega)]; exact hC.2.2.2⟩
theorem ru_ok {cg c1 : sg_T} {P X : Nat → Int32} {R C n Q T U t : Nat} (hC : clR cg P) (hO : okP P R C n Q T U) (hF : ∀ c, c ≠ 91 → c ≠ 18 + 3 * t → c ≠ 19 + 3 * t → c ≠ 20 + 3 * t → c1 c = cg c) (hX : exT P X) (rc : R + C < 20) (ht : t = R) (r8 : R < 8) (hT : ∀ P' : Nat → Int32, (∀ j, tx7 P ≤ j → j < tx7 P + 30 → P' j = X j) → txR c1 (18 + 3 * t) P' (tx7 P) ∧ okX P' (tx7 P) ∧ ltP P' (tx7 P)) : clR (sg_u (sg_u c1 2 7 0) 2 1 (nI (R + 1))) (ruN P X) := by
  have R8 := hO.r1.2
  have C12 := hO.c2.2
  have p1 : pn P 1 = R := pn_of hO.r1.1 (by omega)
  have p2 : pn P 2 = C := pn_of hO.c2.1 (by omega)
  have p7 : pn P 7 = R + C := pn_of hO.h7 (by omega)
  have hX' : ∀ j, ¬ (1758 + 30 * (R + C) ≤ j ∧ j < 1758 + 30 * (R + C) + 30) → X j = P j := fun j hj => hX j (by unfold tx7; rw [p7]; exact hj)
  have hN : ruN P X = upd (upd (upd (upd X 8 0) (10 + R) (nI (R + C))) 7 (nI (R + C + 1))) 1 (nI (R + 1)) := by unfold ruN; rw [p1, hO.h7, hO.r1.1, nI_1, nI_1]
  rw [hN]
  have EC : ∀ aa, ¬ (aa = 2 ∨ aa = 91 ∨ aa = 18 + 3 * t ∨ aa = 19 + 3 * t ∨ aa = 20 + 3 * t) → sg_u (sg_u c1 2 7 0) 2 1 (nI (R + 1)) aa = cg aa := fun aa ha => by rw [sg_i (by omega), sg_i (by omega)]; exact hF aa (by omega) (by omega) (by omega) (by omega)
  have EP : ∀ jj, ¬ (jj = 8 ∨ jj = 7 ∨ jj = 1 ∨ jj = 10 + R ∨ 1758 + 30 * (R + C) ≤ jj ∧ jj < 1758 + 30 * (R + C) + 30) → upd (upd (upd (upd X 8 0) (10 + R) (nI (R + C))) 7 (nI (R + C + 1))) 1 (nI (R + 1)) jj = P jj := fun jj hj => by rw [pk_un (by omega), pk_un (by omega), pk_un (by omega), pk_un (by omega)]; exact hX' jj (by omega)
  have TO := tx_old (t := t) (cg' := sg_u (sg_u c1 2 7 0) 2 1 (nI (R + 1))) (P' := upd (upd (upd (upd X 8 0) (10 + R) (nI (R + C))) 7 (nI (R + C + 1))) 1 (nI (R + 1))) hC hO (fun a h1 h2 h3 h4 h5 => EC a (by omega)) (fun j h1 h2 => EP j (by omega))
  have TN := (hT (upd (upd (upd (upd X 8 0) (10 + R) (nI (R + C))) 7 (nI (R + C + 1))) 1 (nI (R + 1))) (fun j j1 j2 => by unfold tx7 at j1 j2; rw [pk_un (by omega), pk_un (by omega), pk_un (by omega), pk_un (by omega)])).1
  exact ⟨⟨(fun i hi => by
      by_cases y : i = 1
      · rw [y, sg_s, pk_us]
      · rw [sg_j y, sg_j (by omega), hF 2 (by omega) (by omega) (by omega) (by omega), hC.1.c i hi]; exact (EP _ (by omega)).symm), (by rw [sg_j (by decide), sg_s, pk_un (by omega), pk_un (by omega), pk_un (by omega), pk_us]), (fun i hi => by rw [EC 3 (by omega), hC.1.t i hi, EP _ (by omega)]), (fun i hi => by rw [EC 5 (by omega), hC.1.cr i hi]; exact (EP _ (by omega)).symm), (fun i hi => by rw [EC 6 (by omega), hC.1.cd i hi]; exact (EP _ (by omega)).symm), (fun i hi => by rw [EC 7 (by omega), hC.1.pf i hi]; exact (EP _ (by omega)).symm), (fun i hi => by rw [EC 8 (by omega), hC.1.pp i hi]; exact (EP _ (by omega)).symm), (by rw [EC 1 (by omega), hC.1.tp]; exact (tp_w hO.n3.1 hO.n3.2 (EP 3 (by omega)) (fun k hk => EP _ (by omega))).symm), (fun i hi => by rw [EC 9 (by omega), hC.1.k i hi]; exact (EP _ (by omega)).symm), (fun i hi => by rw [EC 10 (by omega), hC.1.s i hi]; exact (EP _ (by omega)).symm), (fun i hi => by rw [EC 11 (by omega), hC.1.r i hi]; exact (EP _ (by omega)).symm), (fun i hi => by rw [EC 12 (by omega), hC.1.tq i hi]; exact (EP _ (by omega)).symm), (fun i hi => by rw [EC 13 (by omega), hC.1.tf i hi]; exact (EP _ (by omega)).symm), (fun i hi => by rw [EC 14 (by omega), hC.1.td i hi]; exact (EP _ (by omega)).symm), (fun i hi => by rw [EC 15 (by omega), hC.1.az i hi]; exact (EP _ (by omega)).symm), (fun i hi => by rw [EC 16 (by omega), hC.1.ab i hi, EP _ (by omega)]), (fun i hi => by rw [EC 17 (by omega), hC.1.fo i hi]; exact (EP _ (by omega)).symm), (by rw [EC 1 (by omega), hC.1.hr]; exact (EP 9 (by omega)).symm), fun r hr => by
      rw [pn_of (k := R + 1) (by rw [pk_us]) (by omega)] at hr
      by_cases y : r = R
      · rw [y, pn_of (k := R + C) (by rw [pk_un (by omega), pk_un (by omega), pk_us]) (by omega)]
        rw [show tx7 P = 1758 + 30 * (R + C) by unfold tx7; rw [p7], ht] at TN
        exact txR_fr TN (by rw [sg_i (by omega), sg_i (by omega)]) (by rw [sg_i (by omega), sg_i (by omega)]) (by rw [sg_i (by omega), sg_i (by omega)])
      · exact TO.1 r (by omega) (by omega) (EP _ (by omega)), fun c hc => by rw [pn_w (EP 2 (by omega)), p2] at hc; exact TO.2 c hc (by omega) (EP _ (by omega))⟩, rI_fr hC.2.1 (EC 84 (by omega)) (EC 85 (by omega)) (EC 86 (by omega)) (EC 87 (by omega)), by rw [EC 89 (by omega)]; exact hC.2.2.1, by rw [EC 83 (by omega)]; exact hC.2.2.2⟩
theorem ch_ok {cg c1 : sg_T} {P X : Nat → Int32} {R C n Q T U t : Nat} (hC : clR cg P) (hO : okP P R C n Q T U) (hF : ∀ c, c ≠ 91 → c ≠ 18 + 3 * t → c ≠ 19 + 3 * t → c ≠ 20 + 3 * t → c1 c = cg c) (hX : exT P X) (rc : R + C < 20) (ht : t = 8 + C) (c12 : C < 12) (r dy : Int32) (hT : ∀ P' : Nat → Int32, (∀ j, tx7 P ≤ j → j < tx7 P + 30 → P' j = X j) → txR c1 (18 + 3 * t) P' (tx7 P) ∧ okX P' (tx7 P) ∧ ltP P' (tx7 P)) : clR (sg_u (sg_u (sg_u (sg_u c1 2 7 0) 5 C r) 6 C dy) 2 2 (nI (C + 1))) (chN P X r dy) := by
  have R8 := hO.r1.2
  have C12 := hO.c2.2
  have p1 : pn P 1 = R := pn_of hO.r1.1 (by omega)
  have p2 : pn P 2 = C := pn_of hO.c2.1 (by omega)
  have p7 : pn P 7 = R + C := pn_of hO.h7 (by omega)
  have hX' : ∀ j, ¬ (1758 + 30 * (R + C) ≤ j ∧ j < 1758 + 30 * (R + C) + 30) → X j = P j := fun j hj => hX j (by unfold tx7; rw [p7]; exact hj)
  have hN : chN P X r dy = upd (upd (upd (upd (upd (upd X 8 0) (18 + C) r) (30 + C) dy) (42 + C) (nI (R + C))) 7 (nI (R + C + 1))) 2 (nI (C + 1)) := by unfold chN; rw [p2, hO.h7, hO.c2.1, nI_1, nI_1]
  rw [hN]
  have EC : ∀ aa, ¬ (aa = 2 ∨ aa = 5 ∨ aa = 6 ∨ aa = 91 ∨ aa = 18 + 3 * t ∨ aa = 19 + 3 * t ∨ aa = 20 + 3 * t) → sg_u (sg_u (sg_u (sg_u c1 2 7 0) 5 C r) 6 C dy) 2 2 (nI (C + 1)) aa = cg aa := fun aa ha => by rw [sg_i (by omega), sg_i (by omega), sg_i (by omega), sg_i (by omega)]; exact hF aa (by omega) (by omega) (by omega) (by omega)
  have EP : ∀ jj, ¬ (jj = 8 ∨ jj = 7 ∨ jj = 2 ∨ jj = 18 + C ∨ jj = 30 + C ∨ jj = 42 + C ∨ 1758 + 30 * (R + C) ≤ jj ∧ jj < 1758 + 30 * (R + C) + 30) → upd (upd (upd (upd (upd (upd X 8 0) (18 + C) r) (30 + C) dy) (42 + C) (nI (R + C))) 7 (nI (R + C + 1))) 2 (nI (C + 1)) jj = P jj := fun jj hj => by rw [pk_un (by omega), pk_un (by omega), pk_un (by omega), pk_un (by omega), pk_un (by omega), pk_un (by omega)]; exact hX' jj (by omega)
  have TO := tx_old (t := t) (cg' := sg_u (sg_u (sg_u (sg_u c1 2 7 0) 5 C r) 6 C dy) 2 2 (nI (C + 1))) (P' := upd (upd (upd (upd (upd (upd X 8 0) (18 + C) r) (30 + C) dy) (42 + C) (nI (R + C))) 7 (nI (R + C + 1))) 2 (nI (C + 1))) hC hO (fun a h1 h2 h3 h4 h5 => EC a (by omega)) (fun j h1 h2 => EP j (by omega))
  have TN := (hT (upd (upd (upd (upd (upd (upd X 8 0) (18 + C) r) (30 + C) dy) (42 + C) (nI (R + C))) 7 (nI (R + C + 1))) 2 (nI (C + 1))) (fun j j1 j2 => by unfold tx7 at j1 j2; rw [pk_un (by omega), pk_un (by omega), pk_un (by omega), pk_un (by omega), pk_un (by omega), pk_un (by omega)])).1
  exact ⟨⟨(fun i hi => by
      by_cases y : i = 2
      · rw [y, sg_s, pk_us]
      · rw [sg_j y, sg_i (by omega), sg_i (by omega), sg_j (by omega), hF 2 (by omega) (by omega) (by omega) (by omega), hC.1.c i hi]; exact (EP _ (by omega)).symm), (by rw [sg_j (by decide), sg_i (by omega), sg_i (by omega), sg_s, pk_un (by omega), pk_un (by omega), pk_un (by omega), pk_un (by omega), pk_un (by omega), pk_us]), (fun i hi => by rw [EC 3 (by omega), hC.1.t i hi, EP _ (by omega)]), (fun i hi => by
      rw [sg_i (by omega), sg_i (by omega), pk_un (show 18 + i ≠ 2 by omega), pk_un (show 18 + i ≠ 7 by omega), pk_un (show 18 + i ≠ 42 + C by omega), pk_un (show 18 + i ≠ 30 + C by omega)]
      by_cases y : i = C
      · rw [y, sg_s, pk_us]
      · rw [sg_j y, sg_i (by omega), hF 5 (by omega) (by omega) (by omega) (by omega), hC.1.cr i hi, pk_un (by omega), pk_un (by omega)]; exact (hX' _ (by omega)).symm), (fun i hi => by
      rw [sg_i (by omega), pk_un (show 30 + i ≠ 2 by omega), pk_un (show 30 + i ≠ 7 by omega), pk_un (show 30 + i ≠ 42 + C by omega)]
      by_cases y : i = C
      · rw [y, sg_s, pk_us]
      · rw [sg_j y, sg_i (by omega), sg_i (by omega), hF 6 (by omega) (by omega) (by omega) (by omega), hC.1.cd i hi, pk_un (by omega), pk_un (by omega), pk_un (by omega)]; exact (hX' _ (by omega)).symm), (fun i hi => by rw [EC 7 (by omega), hC.1.pf i hi]; exact (EP _ (by omega)).symm), (fun i hi => by rw [EC 8 (by omega), hC.1.pp i hi]; exact (EP _ (by omega)).symm), (by rw [EC 1 (by omega), hC.1.tp]; exact (tp_w hO.n3.1 hO.n3.2 (EP 3 (by omega)) (fun k hk => EP _ (by omega))).symm), (fun i hi => by rw [EC 9 (by omega), hC.1.k i hi]; exact (EP _ (by omega)).symm), (fun i hi => by rw [EC 10 (by omega), hC.1.s i hi]; exact (EP _ (by omega)).symm), (fun i hi => by rw [EC 11 (by omega), hC.1.r i hi]; exact (EP _ (by omega)).symm), (fun i hi => by rw [EC 12 (by omega), hC.1.tq i hi]; exact (EP _ (by omega)).symm), (fun i hi => by rw [EC 13 (by omega), hC.1.tf i hi]; exact (EP _ (by omega)).symm), (fun i hi => by rw [EC 14 (by omega), hC.1.td i hi]; exact (EP _ (by omega)).symm), (fun i hi => by rw [EC 15 (by omega), hC.1.az i hi]; exact (EP _ (by omega)).symm), (fun i hi => by rw [EC 16 (by omega), hC.1.ab i hi, EP _ (by omega)]), (fun i hi => by rw [EC 17 (by omega), hC.1.fo i hi]; exact (EP _ (by omega)).symm), (by rw [EC 1 (by omega), hC.1.hr]; exact (EP 9 (by omega)).symm), fun r hr => by rw [pn_w (EP 1 (by omega)), p1] at hr; exact TO.1 r hr (by omega) (EP _ (by omega)), fun c hc => by
      rw [pn_of (k := C + 1) (by rw [pk_us]) (by omega)] at hc
      by_cases y : c = C
      · rw [y, pn_of (k := R + C) (by rw [pk_un (by omega), pk_un (by omega), pk_us]) (by omega)]
        rw [show tx7 P = 1758 + 30 * (R + C) by unfold tx7; rw [p7], ht] at TN
        exact txR_fr TN (by rw [sg_i (by omega), sg_i (by omega), sg_i (by omega), sg_i (by omega)]) (by rw [sg_i (by omega), sg_i (by omega), sg_i (by omega), sg_i (by omega)]) (by rw [sg_i (by omega), sg_i (by omega), sg_i (by omega), sg_i (by omega)])
      · exact TO.2 c (by omega) (by omega) (EP _ (by omega))⟩, rI_fr hC.2.1 (EC 84 (by omega)) (EC 85 (by omega)) (EC 86 (by omega)) (EC 87 (by omega)), by rw [EC 89 (by omega)]; exact hC.2.2.1, by rw [EC 83 (by omega)]; exact hC.2.2.2⟩
theorem c_rule {cg : sg_T} {fn : Nat → Option Nat} {cx : cx_T} {P : Nat → Int32} {R C n Q T U d : Nat} (hd : 460 ≤ d) (hC : clR cg P) (hO : okP P R C n Q T U) : am_Met mi_X11_rule d 0 0 [.ref 0] (hc cg fn cx) (cY cx (sp_rule P)) := by
  refine am_Met.of rfl (Nat.le_of_ble_eq_true rfl) ?_
  refine am_go ok_X11_rule [] 89 ?_
  have fin0 : ∀ rv, (∀ v P', sp_rule P v P' → v = rv ∧ P' = P) → cY cx (sp_rule P) (some (.int rv)) (hc cg fn cx) := fun rv h => ⟨rv, cg, fn, cx, rfl, rfl, Or.inl rfl, fun v P' hv => ⟨(h v P' hv).1, by rw [(h v P' hv).2]; exact hC⟩⟩
  have R8 := hO.r1.2
  have C12 := hO.c2.2
  refine ⟨_, _, rfl, rfl, ?_⟩
  refine ⟨_, _, rfl, rfl, ?_⟩
  refine ⟨_, _, 1, rfl, rfl, Nat.le_of_ble_eq_true rfl, Nat.le_of_ble_eq_true rfl, ?_⟩
  rw [hC.1.c 1 (by omega), hO.r1.1]
  refine ⟨fun c13 => ?_, fun c13 => ?_⟩
  · have rl : R < 8 := (nI_ltI (b := 8) (by omega) (by omega)).mp c13
    have nq : ¬ P 1 = 8 := fun z => by have := (nI_eq (b := 8) (by omega) (by omega)).mp (hO.r1.1.symm.trans z); omega
    refine ⟨_, _, rfl, rfl, ?_⟩
    refine ⟨_, _, rfl, rfl, ?_⟩
    refine ⟨_, _, rfl, rfl, ?_⟩
    refine ⟨_, _, R, _, rfl, rfl, by omega, Nat.le_of_ble_eq_true rfl, tf_at (by omega), ?_⟩
    refine ⟨_, rfl, d - 1, 0, 0, _, by omega, Nat.le_of_ble_eq_true rfl, Nat.le_of_ble_eq_true rfl, Nat.le_of_ble_eq_true rfl, c_read (t := R) (n := pn P 8) (d := d - 1) (by omega) hC.1.t hO.b (tp_n hO.t).1 (tp_n hO.t).2 (by omega) (hC.1.c7.trans (tp_n hO.t).1), ?_⟩
    rintro _ _ ⟨v0, c2, rfl, rfl, F2, hR2⟩
    obtain ⟨c1, ec, F1, hR⟩ := rd_back (t := R) (by omega) F2 hR2
    subst ec
    refine ⟨Or.inl rfl, ?_⟩
    refine ⟨fun c37 => ?_, fun c37 => ?_⟩
    · refine ⟨_, _, rfl, rfl, ?_⟩
      refine ⟨_, _, rfl, rfl, ?_⟩
      refine ⟨_, _, 1, rfl, rfl, Nat.le_of_ble_eq_true rfl, Nat.le_of_ble_eq_true rfl, ?_⟩
      rw [hc_a2]
      refine ⟨trivial, ?_⟩
      refine ⟨_, _, fn, (3, 18 + 3 * R, cx.2.2), rfl, rfl, Or.inr ⟨R, by omega, rfl⟩, fun v P' hv => ?_⟩
      rcases hv with z | ⟨-, X, w, hX, hW, z⟩
      · exact absurd z.1 nq
      · obtain ⟨e1, e2, e3⟩ := rd_eq hR hW
        have v1 := e2.resolve_right (fun y => y c37)
        rcases z with z | z
        · exact absurd (e1.symm.trans v1) z.1
        · refine ⟨z.2.1.trans hO.r1.1, ?_⟩
          rw [z.2.2, nI_1]
          exact ru_ok hC hO F1 hX (by omega) rfl rl (e3 v1)
    · refine ⟨trivial, ?_⟩
      refine ⟨_, _, fn, (3, 18 + 3 * R, cx.2.2), rfl, rfl, Or.inr ⟨R, by omega, rfl⟩, fun v P' hv => ?_⟩
      rcases hv with z | ⟨-, X, w, hX, hW, z⟩
      · exact absurd z.1 nq
      · obtain ⟨e1, e2, -⟩ := rd_eq hR hW
        rcases z with z | z
        · refine ⟨by rw [z.2.1, ← e1], ?_⟩
          rw [z.2.2]
          exact ru_no hC hO F1 hX (by omega) (Or.inl ⟨rfl, rl⟩)
        · exact absurd (show v0 < 0 by rw [e1, z.1]; decide) c37
  · have q8 : P 1 = 8 := by
      have e : R = 8 := by
        rcases Nat.lt_or_ge R 8 with y | y
        · exact absurd ((nI_ltI (b := 8) (by omega) (by omega)).mpr y) c13
        · omega
      rw [hO.r1.1, e]; rfl
    refine ⟨trivial, ?_⟩
    exact fin0 _ (fun v P' hv => hv.elim (fun z => z.2) (fun z => absurd q8 z.1))
theorem c_change {cg : sg_T} {fn : Nat → Option Nat} {cx : cx_T} {P : Nat → Int32} {R C n Q T U d : Nat} (hd : 460 ≤ d) (hC : clR cg P) (hO : okP P R C n Q T U) (r dy : Int32) : am_Met mi_X11_change d 0 0 [.ref 0, .int r, .int dy] (hc cg fn cx) (cY cx (sp_change P r dy)) := by
  refine am_Met.of rfl (Nat.le_of_ble_eq_true rfl) ?_
  refine am_go ok_X11_change [] 121 ?_
  have fin0 : ∀ rv, (∀ v P', sp_change P r dy v P' → v = rv ∧ P' = P) → cY cx (sp_change P r dy) (some (.int rv)) (hc cg fn cx) := fun rv h => ⟨rv, cg, fn, cx, rfl, rfl, Or.inl rfl, fun v P' hv => ⟨(h v P' hv).1, by rw [(h v P' hv).2]; exact hC⟩⟩
  have R8 := hO.r1.2
  have C12 := hO.c2.2
  refine ⟨_, _, rfl, rfl, ?_⟩
  refine ⟨_, rfl, d - 1, 0, 0, _, by omega, Nat.le_of_ble_eq_true rfl, Nat.le_of_ble_eq_true rfl, Nat.le_of_ble_eq_true rfl, c_has (w := 1) (n := R) (d - 1) r rfl (by omega) ((hC.1.c 1 (by omega)).trans hO.r1.1) (by have := hO.r1.2; omega), ?_⟩
  rintro _ _ ⟨rfl, rfl⟩
  refine ⟨Or.inl rfl, ?_⟩
  refine ⟨fun c9 => ?_, fun c9 => ?_⟩
  · have qr := (show inI r 0 (P 1 - 1) by rw [hO.r1.1]; exact bI_t c9)
    refine ⟨_, _, rfl, rfl, ?_⟩
    refine ⟨_, _, rfl, rfl, ?_⟩
    refine ⟨_, _, 0, rfl, rfl, Nat.le_of_ble_eq_true rfl, Nat.le_of_ble_eq_true rfl, ?_⟩
    rw [hC.1.c 0 (by omega)]
    refine ⟨fun c24 => ?_, fun c24 => ?_⟩
    · have qd : ¬ inI dy (P 0) 999 := fun z => i_len z.1 c24
      refine ⟨trivial, ?_⟩
      refine fin0 _ (fun v P' hv => ?_)
      rcases hv with z | z | z | z
      · exact absurd qr z.1
      · exact z.2.2
      · exact absurd z.2.1 qd
      · exact absurd z.2.1 qd
    · refine ⟨fun c31 => ?_, fun c31 => ?_⟩
      · have qy : inI dy (P 0) 999 := ⟨i_nlt c24, lt_1000.mp c31⟩
        refine ⟨_, _, rfl, rfl, ?_⟩
        refine ⟨_, _, rfl, rfl, ?_⟩
        refine ⟨_, _, 2, rfl, rfl, Nat.le_of_ble_eq_true rfl, Nat.le_of_ble_eq_true rfl, ?_⟩
        rw [hC.1.c 2 (by omega), hO.c2.1]
        refine ⟨fun c50 => ?_, fun c50 => ?_⟩
        · have cl : C < 12 := (nI_ltI (b := 12) (by omega) (by omega)).mp c50
          have nq : ¬ P 2 = 12 := fun z => by have := (nI_eq (b := 12) (by omega) (by omega)).mp (hO.c2.1.symm.trans z); omega
          refine ⟨_, _, rfl, rfl, ?_⟩
          refine ⟨_, _, rfl, rfl, ?_⟩
          refine ⟨_, _, rfl, rfl, ?_⟩
          refine ⟨_, _, 8 + C, _, rfl, nI_add 8 C, by omega, Nat.le_of_ble_eq_true rfl, tf_at (by omega), ?_⟩
          refine ⟨_, rfl, d - 1, 0, 0, _, by omega, Nat.le_of_ble_eq_true rfl, Nat.le_of_ble_eq_true rfl, Nat.le_of_ble_eq_true rfl, c_read (t := 8 + C) (n := pn P 8) (d := d - 1) (by omega) hC.1.t hO.b (tp_n hO.t).1 (tp_n hO.t).2 (by omega) (hC.1.c7.trans (tp_n hO.t).1), ?_⟩
          rintro _ _ ⟨v0, c2, rfl, rfl, F2, hR2⟩
          obtain ⟨c1, ec, F1, hR⟩ := rd_back (t := 8 + C) (by omega) F2 hR2
          subst ec
          refine ⟨Or.inl rfl, ?_⟩
          refine ⟨fun c79 => ?_, fun c79 => ?_⟩
          · refine ⟨_, _, rfl, rfl, ?_⟩
            refine ⟨_, _, rfl, rfl, ?_⟩
            refine ⟨_, _, C, rfl, rfl, by omega, Nat.le_of_ble_eq_true rfl, ?_⟩
            rw [hc_a5]
            refine ⟨_, _, rfl, rfl, ?_⟩
            refine ⟨_, _, rfl, rfl, ?_⟩
            refine ⟨_, _, C, rfl, rfl, by omega, Nat.le_of_ble_eq_true rfl, ?_⟩
            rw [hc_a6]
            refine ⟨_, _, rfl, rfl, ?_⟩
            refine ⟨_, _, rfl, rfl, ?_⟩
            refine ⟨_, _, 2, rfl, rfl, Nat.le_of_ble_eq_true rfl, Nat.le_of_ble_eq_true rfl, ?_⟩
            rw [hc_a2]
            refine ⟨trivial, ?_⟩
            refine ⟨_, _, fn, (3, 18 + 3 * (8 + C), cx.2.2), rfl, rfl, Or.inr ⟨8 + C, by omega, rfl⟩, fun v P' hv => ?_⟩
            rcases hv with z | z | z | ⟨-, -, -, X, w, hX, hW, z⟩
            · exact absurd qr z.1
            · exact absurd qy z.2.1
            · exact absurd z.2.2.1 nq
            · obtain ⟨e1, e2, e3⟩ := rd_eq hR hW
              have v1 := e2.resolve_right (fun y => y c79)
              rcases z with z | z
              · exact absurd (e1.symm.trans v1) z.1
              · refine ⟨by rw [z.2.1, hO.c2.1], ?_⟩
                rw [z.2.2, nI_1]
                exact ch_ok hC hO F1 hX (by omega) rfl cl r dy (e3 v1)
          · refine ⟨trivial, ?_⟩
            refine ⟨_, _, fn, (3, 18 + 3 * (8 + C), cx.2.2), rfl, rfl, Or.inr ⟨8 + C, by omega, rfl⟩, fun v P' hv => ?_⟩
            rcases hv with z | z | z | ⟨-, -, -, X, w, hX, hW, z⟩
            · exact absurd qr z.1
            · exact absurd qy z.2.1
            · exact absurd z.2.2.1 nq
            · obtain ⟨e1, e2, -⟩ := rd_eq hR hW
              rcases z with z | z
              · refine ⟨by rw [z.2.1, ← e1], ?_⟩
                rw [z.2.2]
                exact ru_no hC hO F1 hX (by omega) (Or.inr ⟨rfl, cl⟩)
              · exact absurd (show v0 < 0 by rw [e1, z.1]; decide) c79
        · have q12 : P 2 = 12 := by
            have e : C = 12 := by
              rcases Nat.lt_or_ge C 12 with y | y
              · exact absurd ((nI_ltI (b := 12) (by omega) (by omega)).mpr y) c50
              · omega
            rw [hO.c2.1, e]; rfl
          refine ⟨trivial, ?_⟩
          refine fin0 _ (fun v P' hv => ?_)
          rcases hv with z | z | z | z
          · exact absurd qr z.1
          · exact absurd qy z.2.1
          · exact z.2.2.2
          · exact absurd q12 z.2.2.1
      · have qd : ¬ inI dy (P 0) 999 := fun z => c31 (lt_1000.mpr z.2)
        refine ⟨trivial, ?_⟩
        refine fin0 _ (fun v P' hv => ?_)
        rcases hv with z | z | z | z
        · exact absurd qr z.1
        · exact z.2.2
        · exact absurd z.2.1 qd
        · exact absurd z.2.1 qd
  · have qa : ¬ inI r 0 (P 1 - 1) := (fun z => bI_f c9 (by rw [← hO.r1.1]; exact z))
    refine ⟨trivial, ?_⟩
    refine fin0 _ (fun v P' hv => ?_)
    rcases hv with z | z | z | z
    · exact z.2
    · exact absurd z.1 qa
    · exact absurd z.1 qa
    · exact absurd z.1 qa
