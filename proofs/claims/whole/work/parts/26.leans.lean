/-! PAPERS on which a PROOF leans; and calls that ask of PROOFS -/
def orA (w : Int32) (f : Nat → Int32) : Nat → Int32
  | 0 => w
  | k + 1 => orA w f k ||| f k
def lnT (P : Nat → Int32) (ln : Nat → Int32) (q x k : Nat) : Int32 := if 0 ≤ P (x + 3 + k) ∧ P (x + 3 + k) ≤ P 3 - 1 then 1 <<< (P (x + 3 + k) &&& 31) else if (200 ≤ P (x + 3 + k) ∧ P (x + 3 + k) ≤ 200 + nI q - 1) ∧ (pn P (114 + q) = 2 ∨ pn P (114 + q) = 3) then ln (pn P (x + 3 + k) - 200) else 0
def lnS (P : Nat → Int32) (ln : Nat → Int32) (q : Nat) : Nat → Int32
  | 0 => 0
  | s + 1 => orA (lnS P ln q s) (lnT P ln q (rwX q s)) (pn P (rwX q s + 2))
def lnN (P : Nat → Int32) : Nat → Nat → Int32
  | 0, _ => 0
  | F + 1, q => lnS P (lnN P F) q (pn P (126 + q))
def LNs (P : Nat → Int32) (Q m : Nat) : Prop := ∀ (q d : Nat) (vq : Int32) (sg : sg_T), sg 1 = P → vq = nI q → q < Q → q < m → m + 2 ≤ d → am_Met mi_X12_leansOf d 0 0 [.ref 0, .int vq] (hm sg) (fun r h' => r = some (.int (lnN P m q)) ∧ h' = hm sg)
theorem m_leansOf_k {P : Nat → Int32} {R C n0 Q m : Nat} (hW : wkA P R C n0) (hA : pfA P R Q) (hL : LNs P Q m) {sg : sg_T} {d kc ks q st : Nat} {vq : Int32} (hd : m + 3 ≤ d) (e1 : sg 1 = P) (hq : vq = nI q) (hqQ : q < Q) (hm' : q ≤ m) (es : P (126 + q) = nI st) (s12 : st ≤ 12) {s t : Nat} {z3 : Int32} (h3 : z3 = nI s) (hs : s < st) (et : P (rwX q s + 2) = nI t) (t3 : t ≤ 3) (K : ∀ (w z4 : Int32) (t5 : Option Value), w = orA (lnS P (lnN P m) q s) (lnT P (lnN P m) q (rwX q s)) t → am_W mi_X12_leansOf d (fun r h' => r = some (.int (lnS P (lnN P m) q st)) ∧ h' = hm sg) kc ks 4 [some (.ref 0), some (.int vq), some (.int w), some (.int (z3 + 1)), some (.int z4), t5] [] (hm sg)) : ∀ (u k : Nat) (w z4 : Int32) (t5 : Option Value), z4 = nI k → w = orA (lnS P (lnN P m) q s) (lnT P (lnN P m) q (rwX q s)) k → k ≤ t → t < k + u → am_W mi_X12_leansOf d (fun r h' => r = some (.int (lnS P (lnN P m) q st)) ∧ h' = hm sg) kc ks 20 [some (.ref 0), some (.int vq), some (.int w), some (.int z3), some (.int z4), t5] [] (hm sg) := by
  intro u
  induction u with
  | zero => intro k w z4 t5 h4 hw h1 h2; exact absurd h2 (by omega)
  | succ u ih =>
    intro k w z4 t5 h4 hw h1 h2
    refine am_go ok_X12_leansOf [4, 20] 109 ?_
    obtain ⟨q12, ⟨kk, k5, ek, pk⟩, -⟩ := pf_q hA hqQ
    have rb : rwX q s + 6 ≤ 1002 := by unfold rwX; omega
    have w7 := hW.2.2.2.2.2.2.1
    have w8 := hW.2.2.2.2.2.2.2.1
    refine ⟨_, _, rfl, rfl, ?_⟩
    refine ⟨d - 1, 0, 0, _, by omega, Nat.le_of_ble_eq_true rfl, Nat.le_of_ble_eq_true rfl, Nat.le_of_ble_eq_true rfl, m_stepAt (d - 1) vq z3, ?_⟩
    rintro _ _ ⟨rfl, rfl⟩
    refine ⟨Or.inl rfl, ?_⟩
    rw [hq, h3, rwX_e]
    refine ⟨_, _, (rwX q s + 2), rfl, (nI_add _ 2), by omega, Nat.le_of_ble_eq_true rfl, ?_⟩
    rw [e1, et]
    refine ⟨fun c34 => ?_, fun c34 => ?_⟩
    · rw [h4] at c34
      have k1 : k = t := by have := (nI_leI (by omega) (by omega)).mp c34; omega
      subst k1
      rw [← h3, ← hq]
      exact K w z4 t5 hw
    · have k1 : k < t := by
        rcases Nat.lt_or_ge k t with q1 | q1
        · exact q1
        · exact absurd (by rw [h4]; exact (nI_leI (by omega) (by omega)).mpr q1) c34
      refine ⟨_, _, rfl, rfl, ?_⟩
      refine ⟨d - 1, 0, 0, _, by omega, Nat.le_of_ble_eq_true rfl, Nat.le_of_ble_eq_true rfl, Nat.le_of_ble_eq_true rfl, m_stepAt (d - 1) (nI q) (nI s), ?_⟩
      rintro _ _ ⟨rfl, rfl⟩
      refine ⟨Or.inl rfl, ?_⟩
      rw [rwX_e]
      refine ⟨_, _, (rwX q s + 3 + k), rfl, (by rw [h4]; show nI _ + nI 3 + nI k = _; rw [nI_add, nI_add]), by omega, Nat.le_of_ble_eq_true rfl, ?_⟩
      rw [e1]
      generalize ev : P (rwX q s + 3 + k) = v
      refine ⟨_, rfl, d - 1, 0, 0, _, by omega, Nat.le_of_ble_eq_true rfl, Nat.le_of_ble_eq_true rfl, Nat.le_of_ble_eq_true rfl, m_isPaper (by omega) v, ?_⟩
      rintro _ _ ⟨rfl, rfl⟩
      refine ⟨Or.inl rfl, ?_⟩
      rw [e1]
      refine ⟨fun c61 => ?_, fun c61 => ?_⟩
      · have pap := bI_f c61
        refine ⟨d - 1, 0, 0, _, by omega, Nat.le_of_ble_eq_true rfl, Nat.le_of_ble_eq_true rfl, Nat.le_of_ble_eq_true rfl, m_in (d - 1) v 200 _, ?_⟩
        rintro _ _ ⟨rfl, rfl⟩
        refine ⟨Or.inl rfl, ?_⟩
        refine ⟨fun c86 => ?_, fun c86 => ?_⟩
        · have f0 : lnT P (lnN P m) q (rwX q s) k = 0 := by unfold lnT; rw [ev, if_neg pap, if_neg (fun z => bI_f c86 z.1)]
          rw [← h3, ← hq]
          exact ih (k + 1) _ _ _ (by rw [h4]; exact nI_1 k) (by rw [orA, hw, f0]) (by omega) (by omega)
        · have edp := bI_t c86
          obtain ⟨j, ej, jl, jn⟩ := rg_of (lo := 200) (n := q) (by omega) edp.1 edp.2
          have pj : pn P (rwX q s + 3 + k) - 200 = j - 200 := by rw [pn_of (ev.trans ej) (by omega)]
          have ej' : v - 200 = nI (j - 200) := by rw [ej]; exact pk_sub jl
          refine ⟨_, rfl, d - 1, 0, 0, _, by omega, Nat.le_of_ble_eq_true rfl, Nat.le_of_ble_eq_true rfl, Nat.le_of_ble_eq_true rfl, m_usesEnds (q := q) (k := kk) (d - 1) rfl q12 (by rw [e1]; exact ek) k5, ?_⟩
          rintro _ _ ⟨rfl, rfl⟩
          refine ⟨Or.inl rfl, ?_⟩
          refine ⟨fun c94 => ?_, fun c94 => ?_⟩
          · have f0 : lnT P (lnN P m) q (rwX q s) k = 0 := by unfold lnT; rw [ev, if_neg pap, if_neg (fun z => bI_f c94 (by rw [pk] at z; exact z.2))]
            rw [← h3, ← hq]
            exact ih (k + 1) _ _ _ (by rw [h4]; exact nI_1 k) (by rw [orA, hw, f0]) (by omega) (by omega)
          · have f0 : lnT P (lnN P m) q (rwX q s) k = lnN P m (j - 200) := by unfold lnT; rw [pj, ev, if_neg pap, if_pos ⟨edp, by rw [pk]; exact bI_t c94⟩]
            refine ⟨_, rfl, d - 1, 0, 0, _, by omega, Nat.le_of_ble_eq_true rfl, Nat.le_of_ble_eq_true rfl, Nat.le_of_ble_eq_true rfl, hL (j - 200) (d - 1) _ sg e1 ej' (by omega) (by omega) (by omega), ?_⟩
            rintro _ _ ⟨rfl, rfl⟩
            refine ⟨Or.inl rfl, ?_⟩
            rw [← h3, ← hq]
            exact ih (k + 1) _ _ _ (by rw [h4]; exact nI_1 k) (by rw [orA, hw, f0]) (by omega) (by omega)
      · have f0 : lnT P (lnN P m) q (rwX q s) k = 1 <<< (v &&& 31) := by unfold lnT; rw [ev, if_pos (bI_t c61)]
        rw [← h3, ← hq]
        exact ih (k + 1) _ _ _ (by rw [h4]; exact nI_1 k) (by rw [orA, hw, f0]) (by omega) (by omega)
theorem m_leansOf_s {P : Nat → Int32} {R C n0 Q m : Nat} (hW : wkA P R C n0) (hA : pfA P R Q) (hL : LNs P Q m) {sg : sg_T} {d kc ks q st : Nat} {vq : Int32} (hd : m + 3 ≤ d) (e1 : sg 1 = P) (hq : vq = nI q) (hqQ : q < Q) (hm' : q ≤ m) (es : P (126 + q) = nI st) (s12 : st ≤ 12) : ∀ (u s : Nat) (w z3 : Int32) (t4 t5 : Option Value), z3 = nI s → w = lnS P (lnN P m) q s → s ≤ st → st < s + u → am_W mi_X12_leansOf d (fun r h' => r = some (.int (lnS P (lnN P m) q st)) ∧ h' = hm sg) kc ks 4 [some (.ref 0), some (.int vq), some (.int w), some (.int z3), t4, t5] [] (hm sg) := by
  intro u
  induction u with
  | zero => intro s w z3 t4 t5 h3 hw h1 h2; exact absurd h2 (by omega)
  | succ u ih =>
    intro s w z3 t4 t5 h3 hw h1 h2
    refine am_go ok_X12_leansOf [4, 20] 70 ?_
    obtain ⟨q12, -, st', s12', es', -, hRw⟩ := pf_q hA hqQ
    have est : st' = st := (nI_eq (by omega) (by omega)).mp (es'.symm.trans es)
    refine ⟨_, _, rfl, rfl, ?_⟩
    refine ⟨_, _, (126 + q), rfl, (by rw [hq]; exact nI_add 126 q), by omega, Nat.le_of_ble_eq_true rfl, ?_⟩
    rw [e1, es]
    refine ⟨fun c14 => ?_, fun c14 => ?_⟩
    · rw [h3] at c14
      have k1 : s = st := by have := (nI_leI (by omega) (by omega)).mp c14; omega
      subst k1
      refine ⟨trivial, ?_⟩
      exact ⟨by rw [hw], rfl⟩
    · have k1 : s < st := by
        rcases Nat.lt_or_ge s st with q1 | q1
        · exact q1
        · exact absurd (by rw [h3]; exact (nI_leI (by omega) (by omega)).mpr q1) c14
      obtain ⟨-, -, t, -, t3, et⟩ := hRw s (by omega)
      have pt := pn_of et (show t < 2 ^ 31 by omega)
      exact m_leansOf_k hW hA hL hd e1 hq hqQ hm' es s12 h3 k1 et t3 (fun w' z4 t5 e => ih (s + 1) w' _ _ _ (by rw [h3]; exact nI_1 s) (by rw [e, lnS, pt]) (by omega) (by omega)) (t + 1) 0 w 0 t5 rfl hw (by omega) (by omega)
theorem m_leansOf_i {P : Nat → Int32} {R C n0 Q m : Nat} (hW : wkA P R C n0) (hA : pfA P R Q) (hL : LNs P Q m) : LNs P Q (m + 1) := by
  intro q d vq sg e1 hq hqQ hm' hd
  obtain ⟨q12, -, st, s12, es, ps, -⟩ := pf_q hA hqQ
  refine am_Met.of rfl (Nat.le_of_ble_eq_true rfl) ?_
  refine am_go ok_X12_leansOf [4] 64 ?_
  rw [lnN, ps]
  exact m_leansOf_s hW hA hL (by omega) e1 hq hqQ (by omega) es s12 (st + 1) 0 0 0 none none rfl rfl (by omega) (by omega)
theorem m_LN {P : Nat → Int32} {R C n0 Q : Nat} (hW : wkA P R C n0) (hA : pfA P R Q) : ∀ m, LNs P Q m
  | 0 => fun q d vq sg e1 hq hqQ hm' hd => absurd hm' (by omega)
  | m + 1 => m_leansOf_i hW hA (m_LN hW hA m)
abbrev lnV (P : Nat → Int32) : Nat → Int32 := lnN P 12
theorem m_leansOf {sg : sg_T} {R C n0 Q q d : Nat} {vq : Int32} (hW : wkA (sg 1) R C n0) (hA : pfA (sg 1) R Q) (hq : vq = nI q) (hqQ : q < Q) (hd : 14 ≤ d) : am_Met mi_X12_leansOf d 0 0 [.ref 0, .int vq] (hm sg) (fun r h' => r = some (.int (lnV (sg 1) q)) ∧ h' = hm sg) := by
  obtain ⟨q12, -⟩ := pf_q hA hqQ
  exact m_LN hW hA 12 q d vq sg rfl hq hqQ q12 hd
/-- a number of one that there is, or none -/
theorem ix_of {v : Int32} {n : Nat} (hn : n < 2 ^ 30) : (∃ j, v = nI j ∧ j < n ∧ (0 ≤ v ∧ v ≤ nI n - 1)) ∨ ¬ (0 ≤ v ∧ v ≤ nI n - 1) := by
  by_cases h : 0 ≤ v ∧ v ≤ nI n - 1
  · obtain ⟨j, e, -, hj⟩ := rg_of (lo := 0) (n := n) (by omega) h.1 (by rw [show nI 0 + nI n = nI n by rw [nI_add, Nat.zero_add]]; exact h.2)
    exact Or.inl ⟨j, e, by omega, h⟩
  · exact Or.inr h
theorem m_leans {sg : sg_T} {R C n0 Q d : Nat} (hW : wkA (sg 1) R C n0) (hA : pfA (sg 1) R Q) (v : Int32) (hd : 15 ≤ d) : am_Met mi_X12_leans d 0 0 [.ref 0, .int v] (hm sg) (fun r h' => ((∃ q, v = nI q ∧ q < Q ∧ r = some (.int (lnV (sg 1) q))) ∨ (¬ (0 ≤ v ∧ v ≤ nI Q - 1) ∧ r = some (.int (-1)))) ∧ h' = hm sg) := by
  refine am_Met.of rfl (Nat.le_of_ble_eq_true rfl) ?_
  refine am_go ok_X12_leans [] 68 ?_
  refine ⟨_, rfl, d - 1, 0, 0, _, by omega, Nat.le_of_ble_eq_true rfl, Nat.le_of_ble_eq_true rfl, Nat.le_of_ble_eq_true rfl, m_isProof (by omega) v, ?_⟩
  rintro _ _ ⟨rfl, rfl⟩
  refine ⟨Or.inl rfl, ?_⟩
  rw [hA.1]
  refine ⟨fun c5 => ?_, fun c5 => ?_⟩
  · exact ⟨trivial, Or.inr ⟨bI_f c5, rfl⟩, rfl⟩
  · have h12 := hA.2.1
    obtain ⟨q, eq, hq, -⟩ | hn := ix_of (v := v) (n := Q) (by omega)
    rotate_left
    · exact absurd (bI_t c5) hn
    refine ⟨_, rfl, d - 1, 0, 0, _, by omega, Nat.le_of_ble_eq_true rfl, Nat.le_of_ble_eq_true rfl, Nat.le_of_ble_eq_true rfl, m_leansOf hW hA eq hq (by omega), ?_⟩
    rintro _ _ ⟨rfl, rfl⟩
    refine ⟨Or.inl rfl, ?_⟩
    refine ⟨trivial, ?_⟩
    exact ⟨Or.inl ⟨q, eq, hq, rfl⟩, rfl⟩
