/-! the reference's calls that change nothing; what each answers, as a function of its numbers -/
abbrev cN (v : Int32) : Nat := v.toNatClampNeg
theorem cN_of {v : Int32} {k : Nat} (h : v = nI k) (hk : k < 2 ^ 31) : cN v = k := by unfold cN; rw [h]; exact nI_clamp hk
/-- how a call of the reference ends: what it answers, and its numbers; THE IMAGE stays -/
def mOut (sg : sg_T) (v : Int32) (P' : Nat → Int32) (r : Option Value) (h' : am_H) : Prop := ∃ sg', r = some (.int v) ∧ h' = hm sg' ∧ sg' 1 = P' ∧ sg' 2 = sg 2 ∧ sg' 0 2 = sg 0 2
theorem mOut_s {sg : sg_T} {v w : Int32} (e : v = w) : mOut sg w (sg 1) (some (.int v)) (hm sg) := ⟨sg, by rw [e], rfl, rfl, rfl, rfl⟩
theorem mOut_L {sg sg' : sg_T} {v w : Int32} (h : frL sg sg') (e : v = w) : mOut sg w (sg 1) (some (.int v)) (hm sg') := ⟨sg', by rw [e], rfl, h 1 (by decide), h 2 (by decide), by rw [h 0 (by decide)]⟩
theorem mOut_M {sg sg' : sg_T} {v w : Int32} (h : frM sg sg') (e : v = w) : mOut sg w (sg 1) (some (.int v)) (hm sg') := ⟨sg', by rw [e], rfl, h 1 (by decide) (by decide) (by decide), h 2 (by decide) (by decide) (by decide), by rw [h 0 (by decide) (by decide) (by decide)]⟩
abbrev inI (v lo hi : Int32) : Prop := lo ≤ v ∧ v ≤ hi
def sp_told (P : Nat → Int32) (r dy w : Int32) : Int32 := if ¬ (inI r 0 (P 1 - 1) ∧ inI w 0 2) then -1 else if ¬ inI dy 0 999 then -2 else if w = 2 then chI (-5) (chF (pRu P) (pDa P) r dy (pn P 2)) else P (txX P (cN r) dy + cN w)
def sp_shownP (P : Nat → Int32) (k b : Int32) : Nat → Int32 := if inI k 0 (P 3 - 1) then upd P (94 + cN k) (if b = 0 then 0 else 1) else P
def sp_shown (P : Nat → Int32) (k : Int32) : Int32 := if inI k 0 (P 3 - 1) then P (94 + cN k) else -1
def sp_of (P : Nat → Int32) (k w : Int32) : Int32 := if inI k 0 (P 3 - 1) ∧ inI w 0 2 then P (54 + 20 * cN w + cN k) else -1
abbrev isSt (P : Nat → Int32) (q s : Int32) : Prop := inI q 0 (P 4 - 1) ∧ inI s 0 (P (126 + cN q) - 1)
def sp_lacks (P : Nat → Int32) (q s dy : Int32) : Int32 := if ¬ isSt P q s then -1 else if inI dy 0 999 then nI (lkV P (trP P) dy (cN q) (cN s)) else -2
def sp_says (P : Nat → Int32) (q s dy : Int32) : Int32 := if ¬ (inI q 0 (P 4 - 1) ∧ (s = -1 ∨ isSt P q s)) then -1 else if ¬ inI dy 0 999 then -2 else if s = -1 then (if pn P (126 + cN q) = 0 then -5 else nI (syN P dy (cN q) (pn P (126 + cN q) - 1))) else nI (syN P dy (cN q) (cN s))
def sp_check (P : Nat → Int32) (q dy : Int32) : Int32 := if ¬ inI q 0 (P 4 - 1) then -1 else if ¬ inI dy 0 999 then -2 else bI (tkB P (lkV P (trP P) dy) (cN q))
def sp_as (P : Nat → Int32) (q k : Int32) : Int32 := if ¬ (inI q 0 (P 4 - 1) ∧ inI k 0 4) then -1 else if k = 0 ∨ k = P (114 + cN q) ∨ k = 1 ∧ P (114 + cN q) = 4 then P (126 + cN q) else -6
def sp_count (P : Nat → Int32) (w : Int32) : Int32 := if inI w 0 6 then P (cN w) else if w = 7 then P 8 else -1
def sp_found (P : Nat → Int32) (f : Int32) : Int32 := if ¬ inI f 0 749 then -2 else if P 9 = 0 then -3 else P (2478 + cN f)
theorem ix_in {v : Int32} {n : Nat} (hn : n < 2 ^ 30) (h : inI v 0 (nI n - 1)) : ∃ j, v = nI j ∧ cN v = j ∧ j < n := by
  obtain ⟨j, e, hj, -⟩ | hx := ix_of (v := v) hn
  · exact ⟨j, e, cN_of e (by omega), hj⟩
  · exact absurd h hx
theorem ix_at {v N : Int32} {n : Nat} (hN : N = nI n) (hn : n ≤ 1000) (h : inI v 0 (N - 1)) : ∃ j, v = nI j ∧ cN v = j ∧ j < n := by
  rw [hN] at h
  exact ix_in (by omega) h
theorem ix_c {v : Int32} {m : Nat} (hm : m < 2 ^ 29) (h : inI v 0 (nI m)) : ∃ j, v = nI j ∧ cN v = j ∧ j ≤ m := by
  have h2 := h.2
  rw [← nI_pred] at h2
  obtain ⟨j, e, c, hj⟩ := ix_in (n := m + 1) (by omega) ⟨h.1, h2⟩
  exact ⟨j, e, c, by omega⟩
theorem m_told {sg : sg_T} {d : Nat} (hd : 460 ≤ d) {R C n0 : Nat} (hW : wkA (sg 1) R C n0) (r dy w : Int32) : am_Met mi_X12_told d 0 0 [.ref 0, .int r, .int dy, .int w] (hm sg) (mOut sg (sp_told (sg 1) r dy w) (sg 1)) := by
  obtain ⟨w1, w2, w3, w4, w5, w6, w7, w8, w9, w10, w11⟩ := id hW
  refine am_Met.of rfl (Nat.le_of_ble_eq_true rfl) ?_
  refine am_go ok_X12_told [] 84 ?_
  refine ⟨_, rfl, d - 1, 0, 0, _, by omega, Nat.le_of_ble_eq_true rfl, Nat.le_of_ble_eq_true rfl, Nat.le_of_ble_eq_true rfl, m_isRule (by omega) r, ?_⟩
  rintro _ _ ⟨rfl, rfl⟩
  refine ⟨Or.inl rfl, ?_⟩
  refine ⟨fun c5 => ?_, fun c5 => ?_⟩
  · exact ⟨trivial, mOut_s (by unfold sp_told; rw [if_pos (fun z => bI_f c5 z.1)])⟩
  · refine ⟨d - 1, 0, 0, _, by omega, Nat.le_of_ble_eq_true rfl, Nat.le_of_ble_eq_true rfl, Nat.le_of_ble_eq_true rfl, m_in (d - 1) w 0 2, ?_⟩
    rintro _ _ ⟨rfl, rfl⟩
    refine ⟨Or.inl rfl, ?_⟩
    refine ⟨fun c14 => ?_, fun c14 => ?_⟩
    · have u1 : inI r 0 (sg 1 1 - 1) ∧ inI w 0 2 := ⟨bI_t c5, bI_t c14⟩
      obtain ⟨j, ej, cj, hj⟩ := ix_at w1 (by omega) u1.1
      obtain ⟨i, ei, ci, hi⟩ := ix_c (m := 2) (by omega) u1.2
      refine ⟨d - 1, 0, 0, _, by omega, Nat.le_of_ble_eq_true rfl, Nat.le_of_ble_eq_true rfl, Nat.le_of_ble_eq_true rfl, m_isDay (by omega) dy, ?_⟩
      rintro _ _ ⟨rfl, rfl⟩
      refine ⟨Or.inl rfl, ?_⟩
      refine ⟨fun c23 => ?_, fun c23 => ?_⟩
      · have u2 : inI dy 0 999 := bI_t c23
        refine ⟨fun c31 => ?_, fun c31 => ?_⟩
        · refine ⟨_, _, rfl, rfl, ?_⟩
          refine ⟨_, rfl, d - 1, 0, 0, _, by omega, Nat.le_of_ble_eq_true rfl, Nat.le_of_ble_eq_true rfl, Nat.le_of_ble_eq_true rfl, m_textOn (q := j) (n := C) (by omega) dy ej (by omega) w3 w4 w5 w6, ?_⟩
          rintro _ _ ⟨rfl, rfl⟩
          refine ⟨Or.inl rfl, ?_⟩
          refine ⟨_, _, (txX (sg 1) j dy + i), rfl, (by rw [ei]; exact nI_add _ _), (by have x20 : txN (sg 1) j dy < 20 := txN_lt (by omega) w3 w4 w5 w6; unfold txX; omega), Nat.le_of_ble_eq_true rfl, ?_⟩
          refine ⟨trivial, ?_⟩
          exact mOut_s (by first | (unfold sp_told; rw [if_neg (fun z => z u1), if_neg (fun z => z u2), if_pos c31, pn_of w3 (by omega)]) | (unfold sp_told; rw [if_neg (fun z => z u1), if_neg (fun z => z u2), if_neg c31, cj, ci]))
        · refine ⟨_, rfl, d - 1, 0, 0, _, by omega, Nat.le_of_ble_eq_true rfl, Nat.le_of_ble_eq_true rfl, Nat.le_of_ble_eq_true rfl, m_changeOn (n := C) (d - 1) w3 w4, ?_⟩
          rintro _ _ ⟨rfl, rfl⟩
          refine ⟨Or.inl rfl, ?_⟩
          refine ⟨trivial, ?_⟩
          exact mOut_s (by first | (unfold sp_told; rw [if_neg (fun z => z u1), if_neg (fun z => z u2), if_pos c31, pn_of w3 (by omega)]) | (unfold sp_told; rw [if_neg (fun z => z u1), if_neg (fun z => z u2), if_neg c31, cj, ci]))
      · exact ⟨trivial, mOut_s (by unfold sp_told; rw [if_neg (fun z => z u1), if_pos (bI_f c23)])⟩
    · exact ⟨trivial, mOut_s (by unfold sp_told; rw [if_pos (fun z => bI_f c14 z.2)])⟩
theorem m_shown {sg : sg_T} {d : Nat} (hd : 460 ≤ d) {n0 : Nat} (hn : sg 1 3 = nI n0) (hn' : n0 ≤ 20) (k b : Int32) : am_Met mi_X12_shown d 0 0 [.ref 0, .int k, .int b] (hm sg) (mOut sg (sp_shown (sg 1) k) (sp_shownP (sg 1) k b)) := by
  refine am_Met.of rfl (Nat.le_of_ble_eq_true rfl) ?_
  refine am_go ok_X12_shown [] 82 ?_
  refine ⟨_, rfl, d - 1, 0, 0, _, by omega, Nat.le_of_ble_eq_true rfl, Nat.le_of_ble_eq_true rfl, Nat.le_of_ble_eq_true rfl, m_isPaper (by omega) k, ?_⟩
  rintro _ _ ⟨rfl, rfl⟩
  refine ⟨Or.inl rfl, ?_⟩
  refine ⟨fun c5 => ?_, fun c5 => ?_⟩
  · have u : inI k 0 (sg 1 3 - 1) := bI_t c5
    obtain ⟨j, ej, cj, hj⟩ := ix_at hn (by omega) u
    refine ⟨_, _, rfl, rfl, ?_⟩
    refine ⟨_, _, (94 + j), rfl, (by rw [ej]; exact nI_add 94 j), by omega, Nat.le_of_ble_eq_true rfl, ?_⟩
    refine ⟨_, _, rfl, rfl, ?_⟩
    refine ⟨fun c29 => ?_, fun c29 => ?_⟩
    · refine ⟨_, _, (94 + j), rfl, (by rw [ej]; exact nI_add 94 j), by omega, Nat.le_of_ble_eq_true rfl, ?_⟩
      rw [hm_a1]
      refine ⟨trivial, ?_⟩
      unfold sp_shown sp_shownP
      rw [if_pos u, if_pos u, cj]
      first | rw [if_pos c29] | rw [if_neg c29]
      exact ⟨_, rfl, rfl, rfl, rfl, rfl⟩
    · refine ⟨_, _, (94 + j), rfl, (by rw [ej]; exact nI_add 94 j), by omega, Nat.le_of_ble_eq_true rfl, ?_⟩
      rw [hm_a1]
      refine ⟨trivial, ?_⟩
      unfold sp_shown sp_shownP
      rw [if_pos u, if_pos u, cj]
      first | rw [if_pos c29] | rw [if_neg c29]
      exact ⟨_, rfl, rfl, rfl, rfl, rfl⟩
  · have u : ¬ inI k 0 (sg 1 3 - 1) := bI_f c5
    refine ⟨trivial, ?_⟩
    unfold sp_shown sp_shownP
    rw [if_neg u, if_neg u]
    exact mOut_s rfl
theorem m_of {sg : sg_T} {d : Nat} (hd : 460 ≤ d) {n0 : Nat} (hn : sg 1 3 = nI n0) (hn' : n0 ≤ 20) (k w : Int32) : am_Met mi_X12_of d 0 0 [.ref 0, .int k, .int w] (hm sg) (mOut sg (sp_of (sg 1) k w) (sg 1)) := by
  refine am_Met.of rfl (Nat.le_of_ble_eq_true rfl) ?_
  refine am_go ok_X12_of [] 80 ?_
  refine ⟨_, rfl, d - 1, 0, 0, _, by omega, Nat.le_of_ble_eq_true rfl, Nat.le_of_ble_eq_true rfl, Nat.le_of_ble_eq_true rfl, m_isPaper (by omega) k, ?_⟩
  rintro _ _ ⟨rfl, rfl⟩
  refine ⟨Or.inl rfl, ?_⟩
  refine ⟨fun c5 => ?_, fun c5 => ?_⟩
  · exact ⟨trivial, mOut_s (by unfold sp_of; rw [if_neg (fun z => bI_f c5 z.1)])⟩
  · refine ⟨d - 1, 0, 0, _, by omega, Nat.le_of_ble_eq_true rfl, Nat.le_of_ble_eq_true rfl, Nat.le_of_ble_eq_true rfl, m_in (d - 1) w 0 2, ?_⟩
    rintro _ _ ⟨rfl, rfl⟩
    refine ⟨Or.inl rfl, ?_⟩
    refine ⟨fun c14 => ?_, fun c14 => ?_⟩
    · exact ⟨trivial, mOut_s (by unfold sp_of; rw [if_neg (fun z => bI_f c14 z.2)])⟩
    · have u1 : inI k 0 (sg 1 3 - 1) ∧ inI w 0 2 := ⟨bI_t c5, bI_t c14⟩
      obtain ⟨j, ej, cj, hj⟩ := ix_at hn (by omega) u1.1
      obtain ⟨i, ei, ci, hi⟩ := ix_c (m := 2) (by omega) u1.2
      refine ⟨_, _, rfl, rfl, ?_⟩
      refine ⟨_, _, (54 + 20 * i + j), rfl, (by rw [ei, ej]; show nI 54 + nI 20 * nI i + nI j = _; rw [pk_mul, nI_add, nI_add]), by omega, Nat.le_of_ble_eq_true rfl, ?_⟩
      refine ⟨trivial, ?_⟩
      exact mOut_s (by unfold sp_of; rw [if_pos u1, cj, ci])
theorem m_isStep {sg : sg_T} {d : Nat} (hd : 2 ≤ d) {R Q : Nat} (hA : pfA (sg 1) R Q) (q s : Int32) : am_Met mi_X12_isStep d 0 0 [.ref 0, .int q, .int s] (hm sg) (fun r h' => r = some (.int (bI (decide (isSt (sg 1) q s)))) ∧ h' = hm sg) := by
  refine am_Met.of rfl (Nat.le_of_ble_eq_true rfl) ?_
  refine am_go ok_X12_isStep [] 75 ?_
  refine ⟨_, rfl, d - 1, 0, 0, _, by omega, Nat.le_of_ble_eq_true rfl, Nat.le_of_ble_eq_true rfl, Nat.le_of_ble_eq_true rfl, m_isProof (by omega) q, ?_⟩
  rintro _ _ ⟨rfl, rfl⟩
  refine ⟨Or.inl rfl, ?_⟩
  refine ⟨fun c5 => ?_, fun c5 => ?_⟩
  · exact ⟨rfl, by rw [bI_df (fun z => bI_f c5 z.1)], rfl⟩
  · have h12 := hA.2.1
    have u1 : inI q 0 (sg 1 4 - 1) := bI_t c5
    obtain ⟨j, ej, cj, hj⟩ := ix_at hA.1 (by omega) u1
    obtain ⟨q12, ⟨kk, k5, ek, pk⟩, st, s12, es, ps, hRw⟩ := pf_q hA hj
    refine ⟨_, _, rfl, rfl, ?_⟩
    refine ⟨_, _, (126 + j), rfl, (by rw [ej]; exact nI_add 126 j), by omega, Nat.le_of_ble_eq_true rfl, ?_⟩
    refine ⟨d - 1, 0, 0, _, by omega, Nat.le_of_ble_eq_true rfl, Nat.le_of_ble_eq_true rfl, Nat.le_of_ble_eq_true rfl, m_in (d - 1) s 0 _, ?_⟩
    rintro _ _ ⟨rfl, rfl⟩
    refine ⟨Or.inl rfl, ?_⟩
    refine ⟨fun c24 => ?_, fun c24 => ?_⟩
    · exact ⟨rfl, by rw [bI_df (fun z => bI_f c24 (by have := z.2; rw [cj] at this; exact this))], rfl⟩
    · exact ⟨rfl, by rw [bI_dt ⟨u1, by rw [cj]; exact bI_t c24⟩], rfl⟩
theorem m_lacks {sg : sg_T} {d : Nat} (hd : 460 ≤ d) {R C n0 Q : Nat} (hW : wkA (sg 1) R C n0) (hA : pfA (sg 1) R Q) (q s dy : Int32) : am_Met mi_X12_lacks d 0 0 [.ref 0, .int q, .int s, .int dy] (hm sg) (mOut sg (sp_lacks (sg 1) q s dy) (sg 1)) := by
  refine am_Met.of rfl (Nat.le_of_ble_eq_true rfl) ?_
  refine am_go ok_X12_lacks [] 74 ?_
  refine ⟨_, rfl, d - 1, 0, 0, _, by omega, Nat.le_of_ble_eq_true rfl, Nat.le_of_ble_eq_true rfl, Nat.le_of_ble_eq_true rfl, m_isStep (by omega) hA q s, ?_⟩
  rintro _ _ ⟨rfl, rfl⟩
  refine ⟨Or.inl rfl, ?_⟩
  refine ⟨fun c6 => ?_, fun c6 => ?_⟩
  · have h12 := hA.2.1
    have u0 : isSt (sg 1) q s := bI_t c6
    have u1 := u0.1
    obtain ⟨j, ej, cj, hj⟩ := ix_at hA.1 (by omega) u1
    obtain ⟨q12, ⟨kk, k5, ek, pk⟩, st, s12, es, ps, hRw⟩ := pf_q hA hj
    obtain ⟨i, ei, ci, hi⟩ := ix_at es (by omega) (by have := u0.2; rw [cj] at this; exact this)
    refine ⟨d - 1, 0, 0, _, by omega, Nat.le_of_ble_eq_true rfl, Nat.le_of_ble_eq_true rfl, Nat.le_of_ble_eq_true rfl, m_isDay (by omega) dy, ?_⟩
    rintro _ _ ⟨rfl, rfl⟩
    refine ⟨Or.inl rfl, ?_⟩
    refine ⟨fun c17 => ?_, fun c17 => ?_⟩
    · have u : ¬ inI dy 0 999 := bI_f c17
      exact ⟨trivial, mOut_s (by unfold sp_lacks; rw [if_neg (fun z => z u0), if_neg u])⟩
    · refine ⟨_, rfl, d - 1, 0, 0, _, by omega, Nat.le_of_ble_eq_true rfl, Nat.le_of_ble_eq_true rfl, Nat.le_of_ble_eq_true rfl, m_lacksOn (q := j) (s := i) hW hA ej ei hj (by rw [ps]; exact hi) (by omega), ?_⟩
      rintro _ _ ⟨sg', rfl, rfl, fr⟩
      refine ⟨Or.inl rfl, ?_⟩
      refine ⟨trivial, ?_⟩
      have u : inI dy 0 999 := bI_t c17
      exact mOut_L fr (by unfold sp_lacks; rw [if_neg (fun z => z u0), if_pos u, cj, ci])
  · exact ⟨trivial, mOut_s (by unfold sp_lacks; rw [if_pos (bI_f c6)])⟩
theorem m_says_1 {sg : sg_T} {d : Nat} (hd : 460 ≤ d) {R C n0 Q : Nat} (hW : wkA (sg 1) R C n0) (hA : pfA (sg 1) R Q) (q dy : Int32) : am_Met mi_X12_says d 0 0 [.ref 0, .int q, .int (-1), .int dy] (hm sg) (mOut sg (sp_says (sg 1) q (-1) dy) (sg 1)) := by
  refine am_Met.of rfl (Nat.le_of_ble_eq_true rfl) ?_
  refine am_go ok_X12_says [] 90 ?_
  refine ⟨_, rfl, d - 1, 0, 0, _, by omega, Nat.le_of_ble_eq_true rfl, Nat.le_of_ble_eq_true rfl, Nat.le_of_ble_eq_true rfl, m_isProof (by omega) q, ?_⟩
  rintro _ _ ⟨rfl, rfl⟩
  refine ⟨Or.inl rfl, ?_⟩
  refine ⟨fun c5 => ?_, fun c5 => ?_⟩
  · exact ⟨trivial, mOut_s (by unfold sp_says; rw [if_pos (fun z => bI_f c5 z.1)])⟩
  · have h12 := hA.2.1
    have u1 : inI q 0 (sg 1 4 - 1) := bI_t c5
    obtain ⟨j, ej, cj, hj⟩ := ix_at hA.1 (by omega) u1
    obtain ⟨q12, ⟨kk, k5, ek, pk⟩, st, s12, es, ps, hRw⟩ := pf_q hA hj
    have u0 : inI q 0 (sg 1 4 - 1) ∧ ((-1 : Int32) = -1 ∨ isSt (sg 1) q (-1)) := ⟨u1, Or.inl rfl⟩
    refine ⟨fun _ => ?_, fun c10 => absurd rfl c10⟩
    refine ⟨d - 1, 0, 0, _, by omega, Nat.le_of_ble_eq_true rfl, Nat.le_of_ble_eq_true rfl, Nat.le_of_ble_eq_true rfl, m_isDay (by omega) dy, ?_⟩
    rintro _ _ ⟨rfl, rfl⟩
    refine ⟨Or.inl rfl, ?_⟩
    refine ⟨fun c28 => ?_, fun c28 => ?_⟩
    · have u2 : inI dy 0 999 := bI_t c28
      refine ⟨fun c36 => absurd c36 (not_not_intro rfl), fun _ => ?_⟩
      refine ⟨_, _, rfl, rfl, ?_⟩
      refine ⟨_, _, (126 + j), rfl, (by rw [ej]; exact nI_add 126 j), by omega, Nat.le_of_ble_eq_true rfl, ?_⟩
      rw [es]
      refine ⟨fun c58 => ?_, fun c58 => ?_⟩
      · have e0 : 0 < st := by
          rcases Nat.eq_zero_or_pos st with z | z
          · rw [z] at c58; exact absurd c58 (by decide)
          · exact z
        refine ⟨_, rfl, d - 1, 0, 0, _, by omega, Nat.le_of_ble_eq_true rfl, Nat.le_of_ble_eq_true rfl, Nat.le_of_ble_eq_true rfl, m_saysOn (q := j) (s := st - 1) (by omega) hW ej (by rw [show st = (st - 1) + 1 by omega, nI_pred]; rfl) ⟨q12, by omega⟩ (hRw _ (by omega)), ?_⟩
        rintro _ _ ⟨sg', rfl, rfl, fr⟩
        refine ⟨Or.inl rfl, ?_⟩
        refine ⟨trivial, ?_⟩
        have e1 : ¬ st = 0 := by omega
        exact mOut_L fr (by unfold sp_says; rw [if_neg (fun z => z u0), if_neg (fun z => z u2), if_pos rfl, cj, ps, if_neg e1])
      · have e0 : st = 0 := by
          rcases Nat.eq_zero_or_pos st with z | z
          · exact z
          · exact absurd (by rw [show st = (st - 1) + 1 by omega, nI_pred]; exact nI_pos' (by omega)) c58
        exact ⟨trivial, mOut_s (by unfold sp_says; rw [if_neg (fun z => z u0), if_neg (fun z => z u2), if_pos rfl, cj, if_pos (by rw [ps]; exact e0)])⟩
    · exact ⟨trivial, mOut_s (by unfold sp_says; rw [if_neg (fun z => z u0), if_pos (bI_f c28)])⟩
theorem m_says_2 {sg : sg_T} {d : Nat} (hd : 460 ≤ d) {R C n0 Q : Nat} (hW : wkA (sg 1) R C n0) (hA : pfA (sg 1) R Q) (q s dy : Int32) (s1 : ¬ s = -1) : am_Met mi_X12_says d 0 0 [.ref 0, .int q, .int s, .int dy] (hm sg) (mOut sg (sp_says (sg 1) q s dy) (sg 1)) := by
  refine am_Met.of rfl (Nat.le_of_ble_eq_true rfl) ?_
  refine am_go ok_X12_says [] 87 ?_
  refine ⟨_, rfl, d - 1, 0, 0, _, by omega, Nat.le_of_ble_eq_true rfl, Nat.le_of_ble_eq_true rfl, Nat.le_of_ble_eq_true rfl, m_isProof (by omega) q, ?_⟩
  rintro _ _ ⟨rfl, rfl⟩
  refine ⟨Or.inl rfl, ?_⟩
  refine ⟨fun c5 => ?_, fun c5 => ?_⟩
  · exact ⟨trivial, mOut_s (by unfold sp_says; rw [if_pos (fun z => bI_f c5 z.1)])⟩
  · have h12 := hA.2.1
    have u1 : inI q 0 (sg 1 4 - 1) := bI_t c5
    obtain ⟨j, ej, cj, hj⟩ := ix_at hA.1 (by omega) u1
    obtain ⟨q12, ⟨kk, k5, ek, pk⟩, st, s12, es, ps, hRw⟩ := pf_q hA hj
    refine ⟨fun c10 => absurd c10 s1, fun _ => ?_⟩
    refine ⟨_, rfl, d - 1, 0, 0, _, by omega, Nat.le_of_ble_eq_true rfl, Nat.le_of_ble_eq_true rfl, Nat.le_of_ble_eq_true rfl, m_isStep (by omega) hA q s, ?_⟩
    rintro _ _ ⟨rfl, rfl⟩
    refine ⟨Or.inl rfl, ?_⟩
    refine ⟨fun c19 => ?_, fun c19 => ?_⟩
    · have u0 : inI q 0 (sg 1 4 - 1) ∧ (s = -1 ∨ isSt (sg 1) q s) := ⟨u1, Or.inr (bI_t c19)⟩
      have u9 := (show isSt (sg 1) q s from bI_t c19).2
      rw [cj] at u9
      obtain ⟨i, ei, ci, hi⟩ := ix_at es (by omega) u9
      refine ⟨d - 1, 0, 0, _, by omega, Nat.le_of_ble_eq_true rfl, Nat.le_of_ble_eq_true rfl, Nat.le_of_ble_eq_true rfl, m_isDay (by omega) dy, ?_⟩
      rintro _ _ ⟨rfl, rfl⟩
      refine ⟨Or.inl rfl, ?_⟩
      refine ⟨fun c28 => ?_, fun c28 => ?_⟩
      · have u2 : inI dy 0 999 := bI_t c28
        refine ⟨fun _ => ?_, fun c36 => absurd c36 s1⟩
        refine ⟨fun _ => ?_, fun c58 => absurd (by rw [ei]; exact nI_pos' (by omega)) c58⟩
        refine ⟨_, rfl, d - 1, 0, 0, _, by omega, Nat.le_of_ble_eq_true rfl, Nat.le_of_ble_eq_true rfl, Nat.le_of_ble_eq_true rfl, m_saysOn (q := j) (s := i) (by omega) hW ej ei ⟨q12, by omega⟩ (hRw _ hi), ?_⟩
        rintro _ _ ⟨sg', rfl, rfl, fr⟩
        refine ⟨Or.inl rfl, ?_⟩
        refine ⟨trivial, ?_⟩
        exact mOut_L fr (by unfold sp_says; rw [if_neg (fun z => z u0), if_neg (fun z => z u2), if_neg s1, cj, ci])
      · exact ⟨trivial, mOut_s (by unfold sp_says; rw [if_neg (fun z => z u0), if_pos (bI_f c28)])⟩
    · exact ⟨trivial, mOut_s (by unfold sp_says; rw [if_pos (fun z => z.2.elim s1 (bI_f c19))])⟩
theorem m_says {sg : sg_T} {d : Nat} (hd : 460 ≤ d) {R C n0 Q : Nat} (hW : wkA (sg 1) R C n0) (hA : pfA (sg 1) R Q) (q s dy : Int32) : am_Met mi_X12_says d 0 0 [.ref 0, .int q, .int s, .int dy] (hm sg) (mOut sg (sp_says (sg 1) q s dy) (sg 1)) := by
  by_cases h : s = -1
  · subst h; exact m_says_1 hd hW hA q dy
  · exact m_says_2 hd hW hA q s dy h
theorem m_check {sg : sg_T} {d : Nat} (hd : 460 ≤ d) {R C n0 Q : Nat} (hW : wkA (sg 1) R C n0) (hA : pfA (sg 1) R Q) (q dy : Int32) : am_Met mi_X12_check d 0 0 [.ref 0, .int q, .int dy] (hm sg) (mOut sg (sp_check (sg 1) q dy) (sg 1)) := by
  refine am_Met.of rfl (Nat.le_of_ble_eq_true rfl) ?_
  refine am_go ok_X12_check [] 71 ?_
  refine ⟨_, rfl, d - 1, 0, 0, _, by omega, Nat.le_of_ble_eq_true rfl, Nat.le_of_ble_eq_true rfl, Nat.le_of_ble_eq_true rfl, m_isProof (by omega) q, ?_⟩
  rintro _ _ ⟨rfl, rfl⟩
  refine ⟨Or.inl rfl, ?_⟩
  refine ⟨fun c5 => ?_, fun c5 => ?_⟩
  · have h12 := hA.2.1
    have u1 : inI q 0 (sg 1 4 - 1) := bI_t c5
    obtain ⟨j, ej, cj, hj⟩ := ix_at hA.1 (by omega) u1
    obtain ⟨q12, ⟨kk, k5, ek, pk⟩, st, s12, es, ps, hRw⟩ := pf_q hA hj
    refine ⟨d - 1, 0, 0, _, by omega, Nat.le_of_ble_eq_true rfl, Nat.le_of_ble_eq_true rfl, Nat.le_of_ble_eq_true rfl, m_isDay (by omega) dy, ?_⟩
    rintro _ _ ⟨rfl, rfl⟩
    refine ⟨Or.inl rfl, ?_⟩
    refine ⟨fun c16 => ?_, fun c16 => ?_⟩
    · have u2 : inI dy 0 999 := bI_t c16
      refine ⟨_, rfl, d - 1, 0, 0, _, by omega, Nat.le_of_ble_eq_true rfl, Nat.le_of_ble_eq_true rfl, Nat.le_of_ble_eq_true rfl, m_isTaken (q := j) hW hA ej hj (by omega), ?_⟩
      rintro _ _ ⟨sg', rfl, rfl, fr⟩
      refine ⟨Or.inl rfl, ?_⟩
      refine ⟨fun c30 => ?_, fun c30 => ?_⟩
      · exact ⟨trivial, mOut_L fr (by unfold sp_check; rw [if_neg (fun z => z u1), if_neg (fun z => z u2), cj]; exact c30.symm)⟩
      · exact ⟨trivial, mOut_L fr (by unfold sp_check; rw [if_neg (fun z => z u1), if_neg (fun z => z u2), cj]; exact (bI_1.mpr (by cases hb : tkB (sg 1) (lkV (sg 1) (trP (sg 1)) dy) j; exact absurd (by rw [hb]; rfl) c30; rfl)).symm)⟩
    · exact ⟨trivial, mOut_s (by unfold sp_check; rw [if_neg (fun z => z u1), if_pos (bI_f c16)])⟩
  · exact ⟨trivial, mOut_s (by unfold sp_check; rw [if_pos (bI_f c5)])⟩
def hoR (P : Nat → Int32) (q : Nat) (i v : Int32) : Prop := (pn P (114 + q) = 1 ∨ pn P (114 + q) = 4) ∧ hoV P q (pn P (126 + q)) i v ∨ ¬ (pn P (114 + q) = 1 ∨ pn P (114 + q) = 4) ∧ v = if i = -1 then 0 else -1
def sp_hole (P : Nat → Int32) (q i v : Int32) : Prop := (¬ inI q 0 (P 4 - 1) ∧ v = -1) ∨ (inI q 0 (P 4 - 1) ∧ hoR P (cN q) i v)
theorem okR_t {P : Nat → Int32} {R x : Nat} (h : okR P R x) : ∃ t, t ≤ 3 ∧ P (x + 2) = nI t := by
  obtain ⟨-, -, t, -, t3, et⟩ := h
  exact ⟨t, t3, et⟩
theorem m_holes {sg : sg_T} {d : Nat} (hd : 1 ≤ d) {R Q q : Nat} {vq i : Int32} (hA : pfA (sg 1) R Q) (hq : vq = nI q) (hqQ : q < Q) : am_Met mi_X12_holesOf d 0 0 [.ref 0, .int vq, .int i] (hm sg) (fun r h' => ∃ v, r = some (.int v) ∧ hoR (sg 1) q i v ∧ h' = hm sg) := by
  obtain ⟨q12, ⟨kk, k5, ek, pk⟩, st, s12, es, ps, hRw⟩ := pf_q hA hqQ
  have h := m_holesOf (i := i) hd hq q12 ek k5 es s12 (fun j hj => okR_t (hRw j hj))
  unfold hoR
  rw [pk, ps]
  exact h
theorem m_hole {sg : sg_T} {d : Nat} (hd : 460 ≤ d) {R C n0 Q : Nat} (hW : wkA (sg 1) R C n0) (hA : pfA (sg 1) R Q) (q i : Int32) : am_Met mi_X12_hole d 0 0 [.ref 0, .int q, .int i] (hm sg) (fun r h' => ∃ v, sp_hole (sg 1) q i v ∧ mOut sg v (sg 1) r h') := by
  refine am_Met.of rfl (Nat.le_of_ble_eq_true rfl) ?_
  refine am_go ok_X12_hole [] 69 ?_
  refine ⟨_, rfl, d - 1, 0, 0, _, by omega, Nat.le_of_ble_eq_true rfl, Nat.le_of_ble_eq_true rfl, Nat.le_of_ble_eq_true rfl, m_isProof (by omega) q, ?_⟩
  rintro _ _ ⟨rfl, rfl⟩
  refine ⟨Or.inl rfl, ?_⟩
  refine ⟨fun c5 => ?_, fun c5 => ?_⟩
  · exact ⟨trivial, -1, Or.inl ⟨bI_f c5, rfl⟩, mOut_s rfl⟩
  · have h12 := hA.2.1
    have u1 : inI q 0 (sg 1 4 - 1) := bI_t c5
    obtain ⟨j, ej, cj, hj⟩ := ix_at hA.1 (by omega) u1
    obtain ⟨q12, ⟨kk, k5, ek, pk⟩, st, s12, es, ps, hRw⟩ := pf_q hA hj
    refine ⟨_, rfl, d - 1, 0, 0, _, by omega, Nat.le_of_ble_eq_true rfl, Nat.le_of_ble_eq_true rfl, Nat.le_of_ble_eq_true rfl, m_holes (q := j) (by omega) hA ej hj, ?_⟩
    rintro _ _ ⟨v, rfl, hv, rfl⟩
    refine ⟨Or.inl rfl, ?_⟩
    refine ⟨trivial, ?_⟩
    exact ⟨v, Or.inr ⟨u1, by rw [cj]; exact hv⟩, mOut_s rfl⟩
theorem m_as {sg : sg_T} {d : Nat} (hd : 460 ≤ d) {R Q : Nat} (hA : pfA (sg 1) R Q) (q k : Int32) : am_Met mi_X12_as d 0 0 [.ref 0, .int q, .int k] (hm sg) (mOut sg (sp_as (sg 1) q k) (sg 1)) := by
  refine am_Met.of rfl (Nat.le_of_ble_eq_true rfl) ?_
  refine am_go ok_X12_as [] 94 ?_
  refine ⟨_, rfl, d - 1, 0, 0, _, by omega, Nat.le_of_ble_eq_true rfl, Nat.le_of_ble_eq_true rfl, Nat.le_of_ble_eq_true rfl, m_isProof (by omega) q, ?_⟩
  rintro _ _ ⟨rfl, rfl⟩
  refine ⟨Or.inl rfl, ?_⟩
  refine ⟨fun c5 => ?_, fun c5 => ?_⟩
  · exact ⟨trivial, mOut_s (by unfold sp_as; rw [if_pos (fun z => bI_f c5 z.1)])⟩
  · have h12 := hA.2.1
    have u1 : inI q 0 (sg 1 4 - 1) := bI_t c5
    obtain ⟨j, ej, cj, hj⟩ := ix_at hA.1 (by omega) u1
    obtain ⟨q12, ⟨kk, k5, ek, pk⟩, st, s12, es, ps, hRw⟩ := pf_q hA hj
    refine ⟨d - 1, 0, 0, _, by omega, Nat.le_of_ble_eq_true rfl, Nat.le_of_ble_eq_true rfl, Nat.le_of_ble_eq_true rfl, m_in (d - 1) k 0 4, ?_⟩
    rintro _ _ ⟨rfl, rfl⟩
    refine ⟨Or.inl rfl, ?_⟩
    refine ⟨fun c14 => ?_, fun c14 => ?_⟩
    · have u0 : inI q 0 (sg 1 4 - 1) ∧ inI k 0 4 := ⟨u1, bI_t c14⟩
      refine ⟨_, _, rfl, rfl, ?_⟩
      refine ⟨_, _, (114 + j), rfl, (by rw [ej]; exact nI_add 114 j), by omega, Nat.le_of_ble_eq_true rfl, ?_⟩
      refine ⟨fun c30 => ?_, fun c30 => ?_⟩
      · have u3 : k = 0 ∨ k = sg 1 (114 + j) ∨ k = 1 ∧ sg 1 (114 + j) = 4 := by first | exact Or.inl c30 | exact Or.inr (Or.inl c35) | exact Or.inr (Or.inr ⟨c40, c45⟩)
        refine ⟨_, _, rfl, rfl, ?_⟩
        refine ⟨_, _, (126 + j), rfl, (by rw [ej]; exact nI_add 126 j), by omega, Nat.le_of_ble_eq_true rfl, ?_⟩
        refine ⟨trivial, ?_⟩
        exact mOut_s (by first | (unfold sp_as; rw [if_neg (fun z => z u0), cj, if_pos u3]) | (unfold sp_as; rw [if_neg (fun z => z u0), cj, if_neg u3]))
      · refine ⟨fun c35 => ?_, fun c35 => ?_⟩
        · have u3 : k = 0 ∨ k = sg 1 (114 + j) ∨ k = 1 ∧ sg 1 (114 + j) = 4 := by first | exact Or.inl c30 | exact Or.inr (Or.inl c35) | exact Or.inr (Or.inr ⟨c40, c45⟩)
          refine ⟨_, _, rfl, rfl, ?_⟩
          refine ⟨_, _, (126 + j), rfl, (by rw [ej]; exact nI_add 126 j), by omega, Nat.le_of_ble_eq_true rfl, ?_⟩
          refine ⟨trivial, ?_⟩
          exact mOut_s (by first | (unfold sp_as; rw [if_neg (fun z => z u0), cj, if_pos u3]) | (unfold sp_as; rw [if_neg (fun z => z u0), cj, if_neg u3]))
        · refine ⟨fun c40 => ?_, fun c40 => ?_⟩
          · have u3 : ¬ (k = 0 ∨ k = sg 1 (114 + j) ∨ k = 1 ∧ sg 1 (114 + j) = 4) := by first | exact fun z => z.elim c30 (fun z => z.elim c35 (fun z => c40 z.1)) | exact fun z => z.elim c30 (fun z => z.elim c35 (fun z => c45 z.2))
            refine ⟨trivial, ?_⟩
            exact mOut_s (by first | (unfold sp_as; rw [if_neg (fun z => z u0), cj, if_pos u3]) | (unfold sp_as; rw [if_neg (fun z => z u0), cj, if_neg u3]))
          · refine ⟨fun c45 => ?_, fun c45 => ?_⟩
            · have u3 : ¬ (k = 0 ∨ k = sg 1 (114 + j) ∨ k = 1 ∧ sg 1 (114 + j) = 4) := by first | exact fun z => z.elim c30 (fun z => z.elim c35 (fun z => c40 z.1)) | exact fun z => z.elim c30 (fun z => z.elim c35 (fun z => c45 z.2))
              refine ⟨trivial, ?_⟩
              exact mOut_s (by first | (unfold sp_as; rw [if_neg (fun z => z u0), cj, if_pos u3]) | (unfold sp_as; rw [if_neg (fun z => z u0), cj, if_neg u3]))
            · have u3 : k = 0 ∨ k = sg 1 (114 + j) ∨ k = 1 ∧ sg 1 (114 + j) = 4 := by first | exact Or.inl c30 | exact Or.inr (Or.inl c35) | exact Or.inr (Or.inr ⟨c40, c45⟩)
              refine ⟨_, _, rfl, rfl, ?_⟩
              refine ⟨_, _, (126 + j), rfl, (by rw [ej]; exact nI_add 126 j), by omega, Nat.le_of_ble_eq_true rfl, ?_⟩
              refine ⟨trivial, ?_⟩
              exact mOut_s (by first | (unfold sp_as; rw [if_neg (fun z => z u0), cj, if_pos u3]) | (unfold sp_as; rw [if_neg (fun z => z u0), cj, if_neg u3]))
    · exact ⟨trivial, mOut_s (by unfold sp_as; rw [if_pos (fun z => bI_f c14 z.2)])⟩
theorem m_count {sg : sg_T} {d : Nat} (hd : 460 ≤ d) (w : Int32) : am_Met mi_X12_count d 0 0 [.ref 0, .int w] (hm sg) (mOut sg (sp_count (sg 1) w) (sg 1)) := by
  refine am_Met.of rfl (Nat.le_of_ble_eq_true rfl) ?_
  refine am_go ok_X12_count [] 73 ?_
  refine ⟨d - 1, 0, 0, _, by omega, Nat.le_of_ble_eq_true rfl, Nat.le_of_ble_eq_true rfl, Nat.le_of_ble_eq_true rfl, m_in (d - 1) w 0 6, ?_⟩
  rintro _ _ ⟨rfl, rfl⟩
  refine ⟨Or.inl rfl, ?_⟩
  refine ⟨fun c7 => ?_, fun c7 => ?_⟩
  · have u : ¬ inI w 0 6 := bI_f c7
    refine ⟨fun c22 => ?_, fun c22 => ?_⟩
    · refine ⟨trivial, ?_⟩
      exact mOut_s (by first | (unfold sp_count; rw [if_pos u, ci]) | (unfold sp_count; rw [if_neg u, if_pos c22]) | (unfold sp_count; rw [if_neg u, if_neg c22]))
    · refine ⟨_, _, rfl, rfl, ?_⟩
      refine ⟨_, _, 8, rfl, rfl, Nat.le_of_ble_eq_true rfl, Nat.le_of_ble_eq_true rfl, ?_⟩
      refine ⟨trivial, ?_⟩
      exact mOut_s (by first | (unfold sp_count; rw [if_pos u, ci]) | (unfold sp_count; rw [if_neg u, if_pos c22]) | (unfold sp_count; rw [if_neg u, if_neg c22]))
  · have u : inI w 0 6 := bI_t c7
    obtain ⟨i, ei, ci, hi⟩ := ix_c (m := 6) (by omega) u
    refine ⟨_, _, rfl, rfl, ?_⟩
    refine ⟨_, _, i, rfl, ei, by omega, Nat.le_of_ble_eq_true rfl, ?_⟩
    refine ⟨trivial, ?_⟩
    exact mOut_s (by first | (unfold sp_count; rw [if_pos u, ci]) | (unfold sp_count; rw [if_neg u, if_pos c22]) | (unfold sp_count; rw [if_neg u, if_neg c22]))
theorem m_found {sg : sg_T} {d : Nat} (hd : 460 ≤ d) (f : Int32) : am_Met mi_X12_found d 0 0 [.ref 0, .int f] (hm sg) (mOut sg (sp_found (sg 1) f) (sg 1)) := by
  refine am_Met.of rfl (Nat.le_of_ble_eq_true rfl) ?_
  refine am_go ok_X12_found [] 74 ?_
  refine ⟨d - 1, 0, 0, _, by omega, Nat.le_of_ble_eq_true rfl, Nat.le_of_ble_eq_true rfl, Nat.le_of_ble_eq_true rfl, m_isFact (by omega) f, ?_⟩
  rintro _ _ ⟨rfl, rfl⟩
  refine ⟨Or.inl rfl, ?_⟩
  refine ⟨fun c4 => ?_, fun c4 => ?_⟩
  · have u : inI f 0 749 := bI_t c4
    obtain ⟨i, ei, ci, hi⟩ := ix_c (m := 749) (by omega) u
    refine ⟨_, _, rfl, rfl, ?_⟩
    refine ⟨_, _, 9, rfl, rfl, Nat.le_of_ble_eq_true rfl, Nat.le_of_ble_eq_true rfl, ?_⟩
    refine ⟨fun c19 => ?_, fun c19 => ?_⟩
    · refine ⟨_, _, rfl, rfl, ?_⟩
      refine ⟨_, _, (2478 + i), rfl, (by rw [ei]; exact nI_add 2478 i), by omega, Nat.le_of_ble_eq_true rfl, ?_⟩
      refine ⟨trivial, ?_⟩
      exact mOut_s (by unfold sp_found; rw [if_neg (fun z => z u), if_neg c19, ci])
    · exact ⟨trivial, mOut_s (by unfold sp_found; rw [if_neg (fun z => z u), if_pos c19])⟩
  · exact ⟨trivial, mOut_s (by unfold sp_found; rw [if_pos (bI_f c4)])⟩
def acL (k : Nat) (st x : Int32) : Int32 := if k = 1 ∨ k = 4 then x * 2 + st else x + st
def acO (k : Nat) (st q x : Int32) : Int32 := acL k st x - q
def acS (k i : Nat) (st q x : Int32) : Int32 := if i = 2 then acO k st q x ^^^ 5 else if i = 4 then acO k st q (x + 1) else acO k st q x
def acE (k i : Nat) (st q x : Int32) : Int32 := if i = 3 then -(acS k k st q x * 2) else if i = 4 then acS k k st q x * 2 + acL k st 1 else acS k k st q x * 2
def sp_act (P : Nat → Int32) (q w x : Int32) : Int32 := if ¬ (inI q 0 (P 4 - 1) ∧ inI w 0 2) then 0 else if w = 0 then acL (pn P (114 + cN q)) (P (126 + cN q)) x else if w = 1 then acS (pn P (114 + cN q)) (pn P (114 + cN q)) (P (126 + cN q)) q x else acE (pn P (114 + cN q)) (pn P (114 + cN q)) (P (126 + cN q)) q x
theorem m_aboveOf {h : am_H} (d : Nat) (k : Int32) : am_Met mi_X12_aboveOf d 0 0 [.int k] h (fun r h' => r = some (.int (if k = 4 then 1 else 0)) ∧ h' = h) := by
  refine am_Met.of rfl (Nat.le_of_ble_eq_true rfl) ?_
  refine am_go ok_X12_aboveOf [] 65 ?_
  refine ⟨fun c2 => ?_, fun c2 => ?_⟩
  · refine ⟨trivial, ?_⟩
    exact ⟨by first | rw [if_pos c2] | rw [if_neg c2], rfl⟩
  · refine ⟨trivial, ?_⟩
    exact ⟨by first | rw [if_pos c2] | rw [if_neg c2], rfl⟩
theorem m_leansFrom_0 {sg : sg_T} {d : Nat} (hd : 1 ≤ d) {q : Nat} {vq : Int32} (hq : vq = nI q) (hq12 : q < 12) (x : Int32) : am_Met mi_X12_leansFrom d 0 0 [.ref 0, .int vq, .int 0, .int x] (hm sg) (fun r h' => r = some (.int (acL 0 (sg 1 (126 + q)) x)) ∧ h' = hm sg) := by
  refine am_Met.of rfl (Nat.le_of_ble_eq_true rfl) ?_
  refine am_go ok_X12_leansFrom [] 70 ?_
  refine ⟨28, by decide, ?_⟩
  refine ⟨_, _, rfl, rfl, ?_⟩
  refine ⟨_, _, (126 + q), rfl, (by rw [hq]; exact nI_add 126 q), by omega, Nat.le_of_ble_eq_true rfl, ?_⟩
  refine ⟨trivial, ?_⟩
  exact ⟨rfl, rfl⟩
theorem m_leansFrom_1 {sg : sg_T} {d : Nat} (hd : 2 ≤ d) {q : Nat} {vq : Int32} (hq : vq = nI q) (hq12 : q < 12) (x : Int32) : am_Met mi_X12_leansFrom d 0 0 [.ref 0, .int vq, .int 1, .int x] (hm sg) (fun r h' => r = some (.int (acL 1 (sg 1 (126 + q)) x)) ∧ h' = hm sg) := by
  refine am_Met.of rfl (Nat.le_of_ble_eq_true rfl) ?_
  refine am_go ok_X12_leansFrom [] 69 ?_
  refine ⟨40, by decide, ?_⟩
  refine ⟨_, rfl, d - 1, 0, 0, _, by omega, Nat.le_of_ble_eq_true rfl, Nat.le_of_ble_eq_true rfl, Nat.le_of_ble_eq_true rfl, m_leansFrom_0 (q := q) (by omega) hq hq12 _, ?_⟩
  rintro _ _ ⟨rfl, rfl⟩
  refine ⟨Or.inl rfl, ?_⟩
  refine ⟨trivial, ?_⟩
  exact ⟨rfl, rfl⟩
theorem m_leansFrom_2 {sg : sg_T} {d : Nat} (hd : 3 ≤ d) {q : Nat} {vq : Int32} (hq : vq = nI q) (hq12 : q < 12) (x : Int32) : am_Met mi_X12_leansFrom d 0 0 [.ref 0, .int vq, .int 2, .int x] (hm sg) (fun r h' => r = some (.int (acL 2 (sg 1 (126 + q)) x)) ∧ h' = hm sg) := by
  refine am_Met.of rfl (Nat.le_of_ble_eq_true rfl) ?_
  refine am_go ok_X12_leansFrom [] 68 ?_
  refine ⟨50, by decide, ?_⟩
  refine ⟨d - 1, 0, 0, _, by omega, Nat.le_of_ble_eq_true rfl, Nat.le_of_ble_eq_true rfl, Nat.le_of_ble_eq_true rfl, m_aboveOf (d - 1) 2, ?_⟩
  rintro _ _ ⟨rfl, rfl⟩
  refine ⟨Or.inl rfl, ?_⟩
  rw [show (if (2 : Int32) = 4 then (1 : Int32) else 0) = 0 by decide]
  refine ⟨_, rfl, d - 1, 0, 0, _, by omega, Nat.le_of_ble_eq_true rfl, Nat.le_of_ble_eq_true rfl, Nat.le_of_ble_eq_true rfl, m_leansFrom_0 (q := q) (by omega) hq hq12 _, ?_⟩
  rintro _ _ ⟨rfl, rfl⟩
  refine ⟨Or.inl rfl, ?_⟩
  refine ⟨trivial, ?_⟩
  exact ⟨rfl, rfl⟩
theorem m_leansFrom_3 {sg : sg_T} {d : Nat} (hd : 3 ≤ d) {q : Nat} {vq : Int32} (hq : vq = nI q) (hq12 : q < 12) (x : Int32) : am_Met mi_X12_leansFrom d 0 0 [.ref 0, .int vq, .int 3, .int x] (hm sg) (fun r h' => r = some (.int (acL 3 (sg 1 (126 + q)) x)) ∧ h' = hm sg) := by
  refine am_Met.of rfl (Nat.le_of_ble_eq_true rfl) ?_
  refine am_go ok_X12_leansFrom [] 68 ?_
  refine ⟨50, by decide, ?_⟩
  refine ⟨d - 1, 0, 0, _, by omega, Nat.le_of_ble_eq_true rfl, Nat.le_of_ble_eq_true rfl, Nat.le_of_ble_eq_true rfl, m_aboveOf (d - 1) 3, ?_⟩
  rintro _ _ ⟨rfl, rfl⟩
  refine ⟨Or.inl rfl, ?_⟩
  rw [show (if (3 : Int32) = 4 then (1 : Int32) else 0) = 0 by decide]
  refine ⟨_, rfl, d - 1, 0, 0, _, by omega, Nat.le_of_ble_eq_true rfl, Nat.le_of_ble_eq_true rfl, Nat.le_of_ble_eq_true rfl, m_leansFrom_0 (q := q) (by omega) hq hq12 _, ?_⟩
  rintro _ _ ⟨rfl, rfl⟩
  refine ⟨Or.inl rfl, ?_⟩
  refine ⟨trivial, ?_⟩
  exact ⟨rfl, rfl⟩
theorem m_leansFrom_4 {sg : sg_T} {d : Nat} (hd : 3 ≤ d) {q : Nat} {vq : Int32} (hq : vq = nI q) (hq12 : q < 12) (x : Int32) : am_Met mi_X12_leansFrom d 0 0 [.ref 0, .int vq, .int 4, .int x] (hm sg) (fun r h' => r = some (.int (acL 4 (sg 1 (126 + q)) x)) ∧ h' = hm sg) := by
  refine am_Met.of rfl (Nat.le_of_ble_eq_true rfl) ?_
  refine am_go ok_X12_leansFrom [] 68 ?_
  refine ⟨50, by decide, ?_⟩
  refine ⟨d - 1, 0, 0, _, by omega, Nat.le_of_ble_eq_true rfl, Nat.le_of_ble_eq_true rfl, Nat.le_of_ble_eq_true rfl, m_aboveOf (d - 1) 4, ?_⟩
  rintro _ _ ⟨rfl, rfl⟩
  refine ⟨Or.inl rfl, ?_⟩
  rw [show (if (4 : Int32) = 4 then (1 : Int32) else 0) = 1 by decide]
  refine ⟨_, rfl, d - 1, 0, 0, _, by omega, Nat.le_of_ble_eq_true rfl, Nat.le_of_ble_eq_true rfl, Nat.le_of_ble_eq_true rfl, m_leansFrom_1 (q := q) (by omega) hq hq12 _, ?_⟩
  rintro _ _ ⟨rfl, rfl⟩
  refine ⟨Or.inl rfl, ?_⟩
  refine ⟨trivial, ?_⟩
  exact ⟨rfl, rfl⟩
theorem m_leansFrom {sg : sg_T} {d : Nat} (hd : 5 ≤ d) {q k : Nat} {vq vk : Int32} (hq : vq = nI q) (hq12 : q < 12) (hk : vk = nI k) (hk5 : k < 5) (x : Int32) : am_Met mi_X12_leansFrom d 0 0 [.ref 0, .int vq, .int vk, .int x] (hm sg) (fun r h' => r = some (.int (acL k (sg 1 (126 + q)) x)) ∧ h' = hm sg) := by
  rcases (show k = 0 ∨ k = 1 ∨ k = 2 ∨ k = 3 ∨ k = 4 by omega) with e | e | e | e | e <;> subst e <;> subst hk
  · exact m_leansFrom_0 (by omega) hq hq12 x
  · exact m_leansFrom_1 (by omega) hq hq12 x
  · exact m_leansFrom_2 (by omega) hq hq12 x
  · exact m_leansFrom_3 (by omega) hq hq12 x
  · exact m_leansFrom_4 (by omega) hq hq12 x
theorem m_showsFrom_0 {sg : sg_T} {d : Nat} (hd : 7 ≤ d) {q k : Nat} {vq : Int32} (hq : vq = nI q) (hq12 : q < 12) (hk : sg 1 (114 + q) = nI k) (hk5 : k < 5) (x : Int32) : am_Met mi_X12_showsFrom d 0 0 [.ref 0, .int vq, .int 0, .int x] (hm sg) (fun r h' => r = some (.int (acS k 0 (sg 1 (126 + q)) vq x)) ∧ h' = hm sg) := by
  refine am_Met.of rfl (Nat.le_of_ble_eq_true rfl) ?_
  refine am_go ok_X12_showsFrom [] 74 ?_
  refine ⟨36, Or.inr ⟨by decide, by decide, _, rfl, rfl⟩, ?_⟩
  refine ⟨_, _, rfl, rfl, ?_⟩
  refine ⟨_, _, (114 + q), rfl, (by rw [hq]; exact nI_add 114 q), by omega, Nat.le_of_ble_eq_true rfl, ?_⟩
  refine ⟨_, rfl, d - 1, 0, 0, _, by omega, Nat.le_of_ble_eq_true rfl, Nat.le_of_ble_eq_true rfl, Nat.le_of_ble_eq_true rfl, m_leansFrom (by omega) hq hq12 hk hk5 _, ?_⟩
  rintro _ _ ⟨rfl, rfl⟩
  refine ⟨Or.inl rfl, ?_⟩
  refine ⟨trivial, ?_⟩
  exact ⟨rfl, rfl⟩
theorem m_showsFrom_1 {sg : sg_T} {d : Nat} (hd : 8 ≤ d) {q k : Nat} {vq : Int32} (hq : vq = nI q) (hq12 : q < 12) (hk : sg 1 (114 + q) = nI k) (hk5 : k < 5) (x : Int32) : am_Met mi_X12_showsFrom d 0 0 [.ref 0, .int vq, .int 1, .int x] (hm sg) (fun r h' => r = some (.int (acS k 1 (sg 1 (126 + q)) vq x)) ∧ h' = hm sg) := by
  refine am_Met.of rfl (Nat.le_of_ble_eq_true rfl) ?_
  refine am_go ok_X12_showsFrom [] 68 ?_
  refine ⟨74, Or.inr ⟨by decide, by decide, _, rfl, rfl⟩, ?_⟩
  refine ⟨d - 1, 0, 0, _, by omega, Nat.le_of_ble_eq_true rfl, Nat.le_of_ble_eq_true rfl, Nat.le_of_ble_eq_true rfl, m_aboveOf (d - 1) 1, ?_⟩
  rintro _ _ ⟨rfl, rfl⟩
  refine ⟨Or.inl rfl, ?_⟩
  rw [show (if (1 : Int32) = 4 then (1 : Int32) else 0) = 0 by decide]
  refine ⟨_, rfl, d - 1, 0, 0, _, by omega, Nat.le_of_ble_eq_true rfl, Nat.le_of_ble_eq_true rfl, Nat.le_of_ble_eq_true rfl, m_showsFrom_0 (q := q) (by omega) hq hq12 hk hk5 _, ?_⟩
  rintro _ _ ⟨rfl, rfl⟩
  refine ⟨Or.inl rfl, ?_⟩
  refine ⟨trivial, ?_⟩
  exact ⟨rfl, rfl⟩
theorem m_showsFrom_2 {sg : sg_T} {d : Nat} (hd : 8 ≤ d) {q k : Nat} {vq : Int32} (hq : vq = nI q) (hq12 : q < 12) (hk : sg 1 (114 + q) = nI k) (hk5 : k < 5) (x : Int32) : am_Met mi_X12_showsFrom d 0 0 [.ref 0, .int vq, .int 2, .int x] (hm sg) (fun r h' => r = some (.int (acS k 2 (sg 1 (126 + q)) vq x)) ∧ h' = hm sg) := by
  refine am_Met.of rfl (Nat.le_of_ble_eq_true rfl) ?_
  refine am_go ok_X12_showsFrom [] 69 ?_
  refine ⟨54, Or.inr ⟨by decide, by decide, _, rfl, rfl⟩, ?_⟩
  refine ⟨_, rfl, d - 1, 0, 0, _, by omega, Nat.le_of_ble_eq_true rfl, Nat.le_of_ble_eq_true rfl, Nat.le_of_ble_eq_true rfl, m_showsFrom_0 (q := q) (by omega) hq hq12 hk hk5 _, ?_⟩
  rintro _ _ ⟨rfl, rfl⟩
  refine ⟨Or.inl rfl, ?_⟩
  refine ⟨trivial, ?_⟩
  exact ⟨rfl, rfl⟩
theorem m_showsFrom_3 {sg : sg_T} {d : Nat} (hd : 8 ≤ d) {q k : Nat} {vq : Int32} (hq : vq = nI q) (hq12 : q < 12) (hk : sg 1 (114 + q) = nI k) (hk5 : k < 5) (x : Int32) : am_Met mi_X12_showsFrom d 0 0 [.ref 0, .int vq, .int 3, .int x] (hm sg) (fun r h' => r = some (.int (acS k 3 (sg 1 (126 + q)) vq x)) ∧ h' = hm sg) := by
  refine am_Met.of rfl (Nat.le_of_ble_eq_true rfl) ?_
  refine am_go ok_X12_showsFrom [] 68 ?_
  refine ⟨74, Or.inr ⟨by decide, by decide, _, rfl, rfl⟩, ?_⟩
  refine ⟨d - 1, 0, 0, _, by omega, Nat.le_of_ble_eq_true rfl, Nat.le_of_ble_eq_true rfl, Nat.le_of_ble_eq_true rfl, m_aboveOf (d - 1) 3, ?_⟩
  rintro _ _ ⟨rfl, rfl⟩
  refine ⟨Or.inl rfl, ?_⟩
  rw [show (if (3 : Int32) = 4 then (1 : Int32) else 0) = 0 by decide]
  refine ⟨_, rfl, d - 1, 0, 0, _, by omega, Nat.le_of_ble_eq_true rfl, Nat.le_of_ble_eq_true rfl, Nat.le_of_ble_eq_true rfl, m_showsFrom_0 (q := q) (by omega) hq hq12 hk hk5 _, ?_⟩
  rintro _ _ ⟨rfl, rfl⟩
  refine ⟨Or.inl rfl, ?_⟩
  refine ⟨trivial, ?_⟩
  exact ⟨rfl, rfl⟩
theorem m_showsFrom_4 {sg : sg_T} {d : Nat} (hd : 9 ≤ d) {q k : Nat} {vq : Int32} (hq : vq = nI q) (hq12 : q < 12) (hk : sg 1 (114 + q) = nI k) (hk5 : k < 5) (x : Int32) : am_Met mi_X12_showsFrom d 0 0 [.ref 0, .int vq, .int 4, .int x] (hm sg) (fun r h' => r = some (.int (acS k 4 (sg 1 (126 + q)) vq x)) ∧ h' = hm sg) := by
  refine am_Met.of rfl (Nat.le_of_ble_eq_true rfl) ?_
  refine am_go ok_X12_showsFrom [] 69 ?_
  refine ⟨64, Or.inr ⟨by decide, by decide, _, rfl, rfl⟩, ?_⟩
  refine ⟨_, rfl, d - 1, 0, 0, _, by omega, Nat.le_of_ble_eq_true rfl, Nat.le_of_ble_eq_true rfl, Nat.le_of_ble_eq_true rfl, m_showsFrom_1 (q := q) (by omega) hq hq12 hk hk5 _, ?_⟩
  rintro _ _ ⟨rfl, rfl⟩
  refine ⟨Or.inl rfl, ?_⟩
  refine ⟨trivial, ?_⟩
  exact ⟨rfl, rfl⟩
theorem m_showsFrom {sg : sg_T} {d : Nat} (hd : 9 ≤ d) {q k : Nat} {vq : Int32} (hq : vq = nI q) (hq12 : q < 12) (hk : sg 1 (114 + q) = nI k) (hk5 : k < 5) {i : Nat} {vk : Int32} (hi : vk = nI i) (hi5 : i < 5) (x : Int32) : am_Met mi_X12_showsFrom d 0 0 [.ref 0, .int vq, .int vk, .int x] (hm sg) (fun r h' => r = some (.int (acS k i (sg 1 (126 + q)) vq x)) ∧ h' = hm sg) := by
  rcases (show i = 0 ∨ i = 1 ∨ i = 2 ∨ i = 3 ∨ i = 4 by omega) with e | e | e | e | e <;> subst e <;> subst hi
  · exact m_showsFrom_0 (by omega) hq hq12 hk hk5 x
  · exact m_showsFrom_1 (by omega) hq hq12 hk hk5 x
  · exact m_showsFrom_2 (by omega) hq hq12 hk hk5 x
  · exact m_showsFrom_3 (by omega) hq hq12 hk hk5 x
  · exact m_showsFrom_4 (by omega) hq hq12 hk hk5 x
theorem m_endsFrom_0 {sg : sg_T} {d : Nat} (hd : 10 ≤ d) {q k : Nat} {vq : Int32} (hq : vq = nI q) (hq12 : q < 12) (hk : sg 1 (114 + q) = nI k) (hk5 : k < 5) (x : Int32) : am_Met mi_X12_endsFrom d 0 0 [.ref 0, .int vq, .int 0, .int x] (hm sg) (fun r h' => r = some (.int (acE k 0 (sg 1 (126 + q)) vq x)) ∧ h' = hm sg) := by
  refine am_Met.of rfl (Nat.le_of_ble_eq_true rfl) ?_
  refine am_go ok_X12_endsFrom [] 74 ?_
  refine ⟨36, Or.inr ⟨by decide, by decide, _, rfl, rfl⟩, ?_⟩
  refine ⟨_, _, rfl, rfl, ?_⟩
  refine ⟨_, _, (114 + q), rfl, (by rw [hq]; exact nI_add 114 q), by omega, Nat.le_of_ble_eq_true rfl, ?_⟩
  refine ⟨_, rfl, d - 1, 0, 0, _, by omega, Nat.le_of_ble_eq_true rfl, Nat.le_of_ble_eq_true rfl, Nat.le_of_ble_eq_true rfl, m_showsFrom (by omega) hq hq12 hk hk5 hk hk5 _, ?_⟩
  rintro _ _ ⟨rfl, rfl⟩
  refine ⟨Or.inl rfl, ?_⟩
  refine ⟨trivial, ?_⟩
  exact ⟨rfl, rfl⟩
theorem m_endsFrom_1 {sg : sg_T} {d : Nat} (hd : 11 ≤ d) {q k : Nat} {vq : Int32} (hq : vq = nI q) (hq12 : q < 12) (hk : sg 1 (114 + q) = nI k) (hk5 : k < 5) (x : Int32) : am_Met mi_X12_endsFrom d 0 0 [.ref 0, .int vq, .int 1, .int x] (hm sg) (fun r h' => r = some (.int (acE k 1 (sg 1 (126 + q)) vq x)) ∧ h' = hm sg) := by
  refine am_Met.of rfl (Nat.le_of_ble_eq_true rfl) ?_
  refine am_go ok_X12_endsFrom [] 68 ?_
  refine ⟨87, Or.inr ⟨by decide, by decide, _, rfl, rfl⟩, ?_⟩
  refine ⟨d - 1, 0, 0, _, by omega, Nat.le_of_ble_eq_true rfl, Nat.le_of_ble_eq_true rfl, Nat.le_of_ble_eq_true rfl, m_aboveOf (d - 1) 1, ?_⟩
  rintro _ _ ⟨rfl, rfl⟩
  refine ⟨Or.inl rfl, ?_⟩
  rw [show (if (1 : Int32) = 4 then (1 : Int32) else 0) = 0 by decide]
  refine ⟨_, rfl, d - 1, 0, 0, _, by omega, Nat.le_of_ble_eq_true rfl, Nat.le_of_ble_eq_true rfl, Nat.le_of_ble_eq_true rfl, m_endsFrom_0 (q := q) (by omega) hq hq12 hk hk5 _, ?_⟩
  rintro _ _ ⟨rfl, rfl⟩
  refine ⟨Or.inl rfl, ?_⟩
  refine ⟨trivial, ?_⟩
  exact ⟨rfl, rfl⟩
theorem m_endsFrom_2 {sg : sg_T} {d : Nat} (hd : 11 ≤ d) {q k : Nat} {vq : Int32} (hq : vq = nI q) (hq12 : q < 12) (hk : sg 1 (114 + q) = nI k) (hk5 : k < 5) (x : Int32) : am_Met mi_X12_endsFrom d 0 0 [.ref 0, .int vq, .int 2, .int x] (hm sg) (fun r h' => r = some (.int (acE k 2 (sg 1 (126 + q)) vq x)) ∧ h' = hm sg) := by
  refine am_Met.of rfl (Nat.le_of_ble_eq_true rfl) ?_
  refine am_go ok_X12_endsFrom [] 68 ?_
  refine ⟨87, Or.inr ⟨by decide, by decide, _, rfl, rfl⟩, ?_⟩
  refine ⟨d - 1, 0, 0, _, by omega, Nat.le_of_ble_eq_true rfl, Nat.le_of_ble_eq_true rfl, Nat.le_of_ble_eq_true rfl, m_aboveOf (d - 1) 2, ?_⟩
  rintro _ _ ⟨rfl, rfl⟩
  refine ⟨Or.inl rfl, ?_⟩
  rw [show (if (2 : Int32) = 4 then (1 : Int32) else 0) = 0 by decide]
  refine ⟨_, rfl, d - 1, 0, 0, _, by omega, Nat.le_of_ble_eq_true rfl, Nat.le_of_ble_eq_true rfl, Nat.le_of_ble_eq_true rfl, m_endsFrom_0 (q := q) (by omega) hq hq12 hk hk5 _, ?_⟩
  rintro _ _ ⟨rfl, rfl⟩
  refine ⟨Or.inl rfl, ?_⟩
  refine ⟨trivial, ?_⟩
  exact ⟨rfl, rfl⟩
theorem m_endsFrom_3 {sg : sg_T} {d : Nat} (hd : 11 ≤ d) {q k : Nat} {vq : Int32} (hq : vq = nI q) (hq12 : q < 12) (hk : sg 1 (114 + q) = nI k) (hk5 : k < 5) (x : Int32) : am_Met mi_X12_endsFrom d 0 0 [.ref 0, .int vq, .int 3, .int x] (hm sg) (fun r h' => r = some (.int (acE k 3 (sg 1 (126 + q)) vq x)) ∧ h' = hm sg) := by
  refine am_Met.of rfl (Nat.le_of_ble_eq_true rfl) ?_
  refine am_go ok_X12_endsFrom [] 68 ?_
  refine ⟨54, Or.inr ⟨by decide, by decide, _, rfl, rfl⟩, ?_⟩
  refine ⟨_, rfl, d - 1, 0, 0, _, by omega, Nat.le_of_ble_eq_true rfl, Nat.le_of_ble_eq_true rfl, Nat.le_of_ble_eq_true rfl, m_endsFrom_0 (q := q) (by omega) hq hq12 hk hk5 _, ?_⟩
  rintro _ _ ⟨rfl, rfl⟩
  refine ⟨Or.inl rfl, ?_⟩
  refine ⟨trivial, ?_⟩
  exact ⟨rfl, rfl⟩
theorem m_endsFrom_4 {sg : sg_T} {d : Nat} (hd : 12 ≤ d) {q k : Nat} {vq : Int32} (hq : vq = nI q) (hq12 : q < 12) (hk : sg 1 (114 + q) = nI k) (hk5 : k < 5) (x : Int32) : am_Met mi_X12_endsFrom d 0 0 [.ref 0, .int vq, .int 4, .int x] (hm sg) (fun r h' => r = some (.int (acE k 4 (sg 1 (126 + q)) vq x)) ∧ h' = hm sg) := by
  refine am_Met.of rfl (Nat.le_of_ble_eq_true rfl) ?_
  refine am_go ok_X12_endsFrom [] 78 ?_
  refine ⟨63, Or.inr ⟨by decide, by decide, _, rfl, rfl⟩, ?_⟩
  refine ⟨_, rfl, d - 1, 0, 0, _, by omega, Nat.le_of_ble_eq_true rfl, Nat.le_of_ble_eq_true rfl, Nat.le_of_ble_eq_true rfl, m_endsFrom_1 (q := q) (by omega) hq hq12 hk hk5 _, ?_⟩
  rintro _ _ ⟨rfl, rfl⟩
  refine ⟨Or.inl rfl, ?_⟩
  refine ⟨_, _, rfl, rfl, ?_⟩
  refine ⟨_, _, (114 + q), rfl, (by rw [hq]; exact nI_add 114 q), by omega, Nat.le_of_ble_eq_true rfl, ?_⟩
  refine ⟨_, rfl, d - 1, 0, 0, _, by omega, Nat.le_of_ble_eq_true rfl, Nat.le_of_ble_eq_true rfl, Nat.le_of_ble_eq_true rfl, m_leansFrom (by omega) hq hq12 hk hk5 _, ?_⟩
  rintro _ _ ⟨rfl, rfl⟩
  refine ⟨Or.inl rfl, ?_⟩
  refine ⟨trivial, ?_⟩
  exact ⟨rfl, rfl⟩
theorem m_endsFrom {sg : sg_T} {d : Nat} (hd : 12 ≤ d) {q k : Nat} {vq : Int32} (hq : vq = nI q) (hq12 : q < 12) (hk : sg 1 (114 + q) = nI k) (hk5 : k < 5) {i : Nat} {vk : Int32} (hi : vk = nI i) (hi5 : i < 5) (x : Int32) : am_Met mi_X12_endsFrom d 0 0 [.ref 0, .int vq, .int vk, .int x] (hm sg) (fun r h' => r = some (.int (acE k i (sg 1 (126 + q)) vq x)) ∧ h' = hm sg) := by
  rcases (show i = 0 ∨ i = 1 ∨ i = 2 ∨ i = 3 ∨ i = 4 by omega) with e | e | e | e | e <;> subst e <;> subst hi
  · exact m_endsFrom_0 (by omega) hq hq12 hk hk5 x
  · exact m_endsFrom_1 (by omega) hq hq12 hk hk5 x
  · exact m_endsFrom_2 (by omega) hq hq12 hk hk5 x
  · exact m_endsFrom_3 (by omega) hq hq12 hk hk5 x
  · exact m_endsFrom_4 (by omega) hq hq12 hk hk5 x
theorem m_act {sg : sg_T} {d : Nat} (hd : 460 ≤ d) {R Q : Nat} (hA : pfA (sg 1) R Q) (q w x : Int32) : am_Met mi_X12_act d 0 0 [.ref 0, .int q, .int w, .int x] (hm sg) (mOut sg (sp_act (sg 1) q w x) (sg 1)) := by
  refine am_Met.of rfl (Nat.le_of_ble_eq_true rfl) ?_
  refine am_go ok_X12_act [] 87 ?_
  refine ⟨_, rfl, d - 1, 0, 0, _, by omega, Nat.le_of_ble_eq_true rfl, Nat.le_of_ble_eq_true rfl, Nat.le_of_ble_eq_true rfl, m_isProof (by omega) q, ?_⟩
  rintro _ _ ⟨rfl, rfl⟩
  refine ⟨Or.inl rfl, ?_⟩
  refine ⟨fun c5 => ?_, fun c5 => ?_⟩
  · exact ⟨trivial, mOut_s (by unfold sp_act; rw [if_pos (fun z => bI_f c5 z.1)])⟩
  · have h12 := hA.2.1
    have u1 : inI q 0 (sg 1 4 - 1) := bI_t c5
    obtain ⟨j, ej, cj, hj⟩ := ix_at hA.1 (by omega) u1
    obtain ⟨q12, ⟨kk, k5, ek, pk⟩, st, s12, es, ps, hRw⟩ := pf_q hA hj
    refine ⟨d - 1, 0, 0, _, by omega, Nat.le_of_ble_eq_true rfl, Nat.le_of_ble_eq_true rfl, Nat.le_of_ble_eq_true rfl, m_in (d - 1) w 0 2, ?_⟩
    rintro _ _ ⟨rfl, rfl⟩
    refine ⟨Or.inl rfl, ?_⟩
    refine ⟨fun c14 => ?_, fun c14 => ?_⟩
    · have u0 : inI q 0 (sg 1 4 - 1) ∧ inI w 0 2 := ⟨u1, bI_t c14⟩
      refine ⟨_, _, rfl, rfl, ?_⟩
      refine ⟨_, _, (114 + j), rfl, (by rw [ej]; exact nI_add 114 j), by omega, Nat.le_of_ble_eq_true rfl, ?_⟩
      refine ⟨fun c31 => ?_, fun c31 => ?_⟩
      · refine ⟨fun c47 => ?_, fun c47 => ?_⟩
        · refine ⟨_, rfl, d - 1, 0, 0, _, by omega, Nat.le_of_ble_eq_true rfl, Nat.le_of_ble_eq_true rfl, Nat.le_of_ble_eq_true rfl, m_endsFrom (by omega) ej q12 ek k5 ek k5 x, ?_⟩
          rintro _ _ ⟨rfl, rfl⟩
          refine ⟨Or.inl rfl, ?_⟩
          refine ⟨trivial, ?_⟩
          exact mOut_s (by first | (unfold sp_act; rw [if_neg (fun z => z u0), if_pos c31, cj, pk]) | (unfold sp_act; rw [if_neg (fun z => z u0), if_neg c31, if_pos c47, cj, pk]) | (unfold sp_act; rw [if_neg (fun z => z u0), if_neg c31, if_neg c47, cj, pk]))
        · refine ⟨_, rfl, d - 1, 0, 0, _, by omega, Nat.le_of_ble_eq_true rfl, Nat.le_of_ble_eq_true rfl, Nat.le_of_ble_eq_true rfl, m_showsFrom (by omega) ej q12 ek k5 ek k5 x, ?_⟩
          rintro _ _ ⟨rfl, rfl⟩
          refine ⟨Or.inl rfl, ?_⟩
          refine ⟨trivial, ?_⟩
          exact mOut_s (by first | (unfold sp_act; rw [if_neg (fun z => z u0), if_pos c31, cj, pk]) | (unfold sp_act; rw [if_neg (fun z => z u0), if_neg c31, if_pos c47, cj, pk]) | (unfold sp_act; rw [if_neg (fun z => z u0), if_neg c31, if_neg c47, cj, pk]))
      · refine ⟨_, rfl, d - 1, 0, 0, _, by omega, Nat.le_of_ble_eq_true rfl, Nat.le_of_ble_eq_true rfl, Nat.le_of_ble_eq_true rfl, m_leansFrom (by omega) ej q12 ek k5 x, ?_⟩
        rintro _ _ ⟨rfl, rfl⟩
        refine ⟨Or.inl rfl, ?_⟩
        refine ⟨trivial, ?_⟩
        exact mOut_s (by first | (unfold sp_act; rw [if_neg (fun z => z u0), if_pos c31, cj, pk]) | (unfold sp_act; rw [if_neg (fun z => z u0), if_neg c31, if_pos c47, cj, pk]) | (unfold sp_act; rw [if_neg (fun z => z u0), if_neg c31, if_neg c47, cj, pk]))
    · exact ⟨trivial, mOut_s (by unfold sp_act; rw [if_pos (fun z => bI_f c14 z.2)])⟩
