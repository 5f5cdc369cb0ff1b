/-! what a STEP lacks, whether a PROOF is taken: the reference's recursion closed -/
theorem m_lacksOn_l {P : Nat → Int32} {dy : Int32} {R C n0 Q m : Nat} (hW : wkA P R C n0) (hA : pfA P R Q) (hL : LKs P dy Q m) {sg0 : sg_T} {d kc ks q s t : Nat} {vq vs x4 x5 : Int32} (hd : 3 * m + 8 ≤ d) (hq : vq = nI q) (hs : vs = nI s) (hqQ : q < Q) (hsS : s < pn P (126 + q)) (hm' : 12 * q + s ≤ m) (et : P (rwX q s + 2) = nI t) (t3 : t ≤ 3) (htx : P (txX P (pn P (rwX q s)) dy) = P (rwX q s + 2)) (h4 : x4 = nI (rwX q s)) : ∀ (u k : Nat) (z : Int32) (sg : sg_T), z = nI k → sg 1 = P → frL sg0 sg → (∀ j, j < k → (fun k => fmB P (trP P) dy (lkN P (trP P) dy m) q s k) j = true) → k ≤ t → t < k + u → am_W mi_X12_lacksOn d (fun r h' => ∃ sg', r = some (.int (nI (fsN (fun k => fmB P (trP P) dy (lkN P (trP P) dy m) q s k) t))) ∧ h' = hm sg' ∧ frL sg0 sg') kc ks 69 [some (.ref 0), some (.int vq), some (.int vs), some (.int dy), some (.int x4), some (.int x5), some (.int z)] [] (hm sg) := by
  intro u
  induction u with
  | zero => intro k z sg hz e1 hF ha h1 h2; exact absurd h2 (by omega)
  | succ u ih =>
    intro k z sg hz e1 hF ha h1 h2
    refine am_go ok_X12_lacksOn [69] 78 ?_
    obtain ⟨q12, -, st, s12, es, ps, hRw⟩ := pf_q hA hqQ
    have rb : rwX q s + 6 ≤ 1002 := by rw [ps] at hsS; unfold rwX; omega
    refine ⟨_, _, rfl, rfl, ?_⟩
    refine ⟨_, _, (rwX q s + 2), rfl, (by rw [h4]; exact nI_add _ 2), by omega, Nat.le_of_ble_eq_true rfl, ?_⟩
    rw [e1, et]
    refine ⟨fun c80 => ?_, fun c80 => ?_⟩
    · rw [hz] at c80
      have k1 : k = t := by have := (nI_leI (by omega) (by omega)).mp c80; omega
      subst k1
      refine ⟨trivial, ?_⟩
      exact ⟨sg, by rw [fsN_0 ha]; rfl, rfl, hF⟩
    · have k1 : k < t := by
        rcases Nat.lt_or_ge k t with q1 | q1
        · exact q1
        · exact absurd (by rw [hz]; exact (nI_leI (by omega) (by omega)).mpr q1) c80
      refine ⟨_, rfl, d - 1, 0, 0, _, by omega, Nat.le_of_ble_eq_true rfl, Nat.le_of_ble_eq_true rfl, Nat.le_of_ble_eq_true rfl, m_isFrom_of (t := t) (k := k) hW hA hL (by omega) e1 hq hs hz hqQ hsS hm' et t3 k1 htx, ?_⟩
      rintro _ _ ⟨sg', rfl, rfl, hF'⟩
      refine ⟨Or.inl rfl, ?_⟩
      refine ⟨fun c92 => ?_, fun c92 => ?_⟩
      · exact ih (k + 1) _ sg' (by rw [hz]; exact nI_1 k) ((hF' 1 (by decide)).trans e1) (fun a ha => (hF' a ha).trans (hF a ha)) (fun j hj => by
          rcases (show j < k ∨ j = k by omega) with q1 | rfl
          · exact ha j q1
          · cases e : fmB P (trP P) dy (lkN P (trP P) dy m) q s j with
            | true => exact e
            | false => exact absurd (by rw [e]; rfl) c92) (by omega) (by omega)
      · refine ⟨trivial, ?_⟩
        refine ⟨sg', ?_, rfl, fun a ha => (hF' a ha).trans (hF a ha)⟩
        rw [fsN_k (k := k) ha (bI_0.mp c92) t k1, hz]
        show some (Value.int (nI 10 + nI k)) = _
        rw [nI_add]
theorem m_lacksOn_s {P : Nat → Int32} {dy : Int32} {R C n0 Q m : Nat} (hW : wkA P R C n0) (hA : pfA P R Q) (hL : LKs P dy Q m) : LKs P dy Q (m + 1) := by
  intro q s d vq vs sg e1 hq hs hqQ hsS hm' hd
  obtain ⟨q12, -, st, s12, es, ps, hRw⟩ := pf_q hA hqQ
  have hsS' := hsS
  rw [ps] at hsS'
  obtain ⟨⟨r, hr, er⟩, ⟨n, n6, en⟩, ⟨t, t1, t3, et⟩⟩ := hRw s hsS'
  have rb : rwX q s + 6 ≤ 1002 := by unfold rwX; omega
  obtain ⟨w1, w2, w3, w4, w5, w6, w7, w8, w9, w10, w11⟩ := id hW
  have x20 : txN P r dy < 20 := txN_lt (by omega) w3 w4 w5 w6
  have xb : txX P r dy + 30 ≤ 2358 := by unfold txX; omega
  obtain ⟨⟨nt, n1, n3, ent⟩, ⟨ne, ne4, ene⟩, a3, a4, a5⟩ := wkA_x (dy := dy) hW hr
  have pr := pn_of er (show r < 2 ^ 31 by omega)
  have pn6 := pn_of en (show n < 2 ^ 31 by omega)
  have eP : sgL sg n 1 = P := (sgL_a (by decide)).trans e1
  refine am_Met.of rfl (Nat.le_of_ble_eq_true rfl) ?_
  refine am_go ok_X12_lacksOn [69] 97 ?_
  refine ⟨d - 1, 0, 0, _, by omega, Nat.le_of_ble_eq_true rfl, Nat.le_of_ble_eq_true rfl, Nat.le_of_ble_eq_true rfl, m_stepAt (d - 1) vq vs, ?_⟩
  rintro _ _ ⟨rfl, rfl⟩
  refine ⟨Or.inl rfl, ?_⟩
  rw [hq, hs, rwX_e]
  refine ⟨_, _, rfl, rfl, ?_⟩
  refine ⟨_, _, (rwX q s), rfl, rfl, by omega, Nat.le_of_ble_eq_true rfl, ?_⟩
  rw [e1, er]
  refine ⟨_, rfl, d - 1, 0, 0, _, by omega, Nat.le_of_ble_eq_true rfl, Nat.le_of_ble_eq_true rfl, Nat.le_of_ble_eq_true rfl, m_textOn (q := r) (n := C) (by omega) dy rfl (by omega) (by rw [e1]; exact w3) w4 (by rw [e1]; exact w5) (by rw [e1]; exact w6), ?_⟩
  rintro _ _ ⟨rfl, rfl⟩
  refine ⟨Or.inl rfl, ?_⟩
  rw [e1]
  refine ⟨_, _, rfl, rfl, ?_⟩
  refine ⟨_, _, (txX P r dy), rfl, rfl, by omega, Nat.le_of_ble_eq_true rfl, ?_⟩
  rw [e1, ent]
  refine ⟨_, _, rfl, rfl, ?_⟩
  refine ⟨_, _, (rwX q s + 2), rfl, (nI_add _ 2), by omega, Nat.le_of_ble_eq_true rfl, ?_⟩
  rw [e1, et]
  refine ⟨fun c37 => ?_, fun c37 => ?_⟩
  · have htx : P (txX P (pn P (rwX q s)) dy) = P (rwX q s + 2) := by rw [pr, ent, et, c37]
    refine ⟨_, _, rfl, rfl, ?_⟩
    refine ⟨_, _, (rwX q s + 1), rfl, (nI_add _ 1), by omega, Nat.le_of_ble_eq_true rfl, ?_⟩
    rw [e1, en]
    refine ⟨_, rfl, d - 1, 0, 0, _, by omega, Nat.le_of_ble_eq_true rfl, Nat.le_of_ble_eq_true rfl, Nat.le_of_ble_eq_true rfl, m_sets (n := n) (d - 1) rfl (by omega), ?_⟩
    rintro _ _ ⟨rfl, rfl⟩
    refine ⟨Or.inl rfl, ?_⟩
    refine ⟨_, rfl, d - 1, 0, 0, _, by omega, Nat.le_of_ble_eq_true rfl, Nat.le_of_ble_eq_true rfl, Nat.le_of_ble_eq_true rfl, m_testsHold (x := txX P r dy) (n := ne) (L := Lm n) (by omega) rfl (by omega) (by rw [eP]; exact ene) ne4 (by rw [eP]; intro k hk; exact a5 k (by rw [pn_of ene (by omega)]; exact hk)) (okL_Lm n6) (sgL_L _ _), ?_⟩
    rintro _ _ ⟨rfl, rfl⟩
    refine ⟨Or.inl rfl, ?_⟩
    rw [eP]
    refine ⟨fun c61 => ?_, fun c61 => ?_⟩
    · have th : thN P (Lm n) (txX P r dy) ne = true := by
        cases e : thN P (Lm n) (txX P r dy) ne with
        | true => rfl
        | false => exact absurd (by rw [e]; rfl) c61
      refine am_W.mono ?_ (m_lacksOn_l (sg0 := sg) hW hA hL (by omega) rfl rfl hqQ hsS (by omega) et t3 htx rfl (t + 1) 0 0 (sgL sg n) rfl eP (frL_L sg n) (fun j hj => absurd hj (by omega)) (by omega) (by omega))
      rintro r' h' ⟨sg', rfl, rfl, hF⟩
      refine ⟨sg', ?_, rfl, hF⟩
      rw [lkN, if_neg (fun z => z htx), pr, pn6, pn_of ene (by omega), th, pn_of et (by omega)]
      rfl
    · refine ⟨trivial, sgL sg n, ?_, rfl, frL_L sg n⟩
      rw [lkN, if_neg (fun z => z htx), pr, pn6, pn_of ene (by omega), if_pos (bI_0.mp c61)]
      rfl
  · refine ⟨trivial, sg, ?_, rfl, fun _ _ => rfl⟩
    rw [lkN, pr, if_pos (by rw [ent, et]; exact c37)]
    rfl
theorem m_LK {P : Nat → Int32} {dy : Int32} {R C n0 Q : Nat} (hW : wkA P R C n0) (hA : pfA P R Q) : ∀ m, LKs P dy Q m
  | 0 => fun q s d vq vs sg e1 hq hs hqQ hsS hm' hd => absurd hm' (by omega)
  | m + 1 => m_lacksOn_s hW hA (m_LK hW hA m)
/-- with all that there may be to go -/
abbrev lkV (P : Nat → Int32) (tr : Nat → Bool) (dy : Int32) : Nat → Nat → Nat := lkN P tr dy 145
theorem m_lacksOn {sg : sg_T} {dy : Int32} {R C n0 Q q s d : Nat} {vq vs : Int32} (hW : wkA (sg 1) R C n0) (hA : pfA (sg 1) R Q) (hq : vq = nI q) (hs : vs = nI s) (hqQ : q < Q) (hsS : s < pn (sg 1) (126 + q)) (hd : 450 ≤ d) : am_Met mi_X12_lacksOn d 0 0 [.ref 0, .int vq, .int vs, .int dy] (hm sg) (fun r h' => ∃ sg', r = some (.int (nI (lkV (sg 1) (trP (sg 1)) dy q s))) ∧ h' = hm sg' ∧ frL sg sg') := by
  obtain ⟨q12, -, st, s12, es, ps, -⟩ := pf_q hA hqQ
  exact m_LK hW hA 145 q s d vq vs sg rfl hq hs hqQ hsS (by rw [ps] at hsS; omega) (by omega)
theorem m_isTaken {sg : sg_T} {dy : Int32} {R C n0 Q q d : Nat} {vq : Int32} (hW : wkA (sg 1) R C n0) (hA : pfA (sg 1) R Q) (hq : vq = nI q) (hqQ : q < Q) (hd : 450 ≤ d) : am_Met mi_X12_isTaken d 0 0 [.ref 0, .int vq, .int dy] (hm sg) (fun r h' => ∃ sg', r = some (.int (bI (tkB (sg 1) (lkV (sg 1) (trP (sg 1)) dy) q))) ∧ h' = hm sg' ∧ frL sg sg') := by
  obtain ⟨q12, -⟩ := pf_q hA hqQ
  exact m_isTaken_of hW hA (m_LK hW hA 145) (by omega) rfl hq hqQ (by omega)
