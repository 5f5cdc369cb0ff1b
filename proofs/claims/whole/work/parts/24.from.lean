/-! from what a TERM is taken -/
theorem fm_h {P : Nat → Int32} {tr : Nat → Bool} {dy : Int32} {lk : Nat → Nat → Nat} {q s k : Nat} (h : P (rwX q s + 3 + k) = 300) : fmB P tr dy lk q s k = decide (pn P (114 + q) = 1 ∨ pn P (114 + q) = 4) := by unfold fmB; rw [if_pos h]
theorem fm_p {P : Nat → Int32} {tr : Nat → Bool} {dy : Int32} {lk : Nat → Nat → Nat} {q s k j : Nat} (h0 : ¬ P (rwX q s + 3 + k) = 300) (h : 0 ≤ P (rwX q s + 3 + k) ∧ P (rwX q s + 3 + k) ≤ P 3 - 1) (hj : pn P (rwX q s + 3 + k) = j) : fmB P tr dy lk q s k = (tr j && decide (P (54 + j) = nI (trN P dy q s k))) := by unfold fmB; rw [if_neg h0, if_pos h, hj]
theorem fm_s {P : Nat → Int32} {tr : Nat → Bool} {dy : Int32} {lk : Nat → Nat → Nat} {q s k j : Nat} (h0 : ¬ P (rwX q s + 3 + k) = 300) (h1 : ¬ (0 ≤ P (rwX q s + 3 + k) ∧ P (rwX q s + 3 + k) ≤ P 3 - 1)) (h : 100 ≤ P (rwX q s + 3 + k) ∧ P (rwX q s + 3 + k) ≤ 100 + nI s - 1) (hj : pn P (rwX q s + 3 + k) - 100 = j) : fmB P tr dy lk q s k = (decide (syN P dy q j = trN P dy q s k) && decide (lk q j = 0)) := by unfold fmB; rw [if_neg h0, if_neg h1, if_pos h, hj]
theorem fm_e {P : Nat → Int32} {tr : Nat → Bool} {dy : Int32} {lk : Nat → Nat → Nat} {q s k j : Nat} (h0 : ¬ P (rwX q s + 3 + k) = 300) (h1 : ¬ (0 ≤ P (rwX q s + 3 + k) ∧ P (rwX q s + 3 + k) ≤ P 3 - 1)) (h2 : ¬ (100 ≤ P (rwX q s + 3 + k) ∧ P (rwX q s + 3 + k) ≤ 100 + nI s - 1)) (h : (200 ≤ P (rwX q s + 3 + k) ∧ P (rwX q s + 3 + k) ≤ 200 + nI q - 1) ∧ (pn P (114 + q) = 2 ∨ pn P (114 + q) = 3)) (hj : pn P (rwX q s + 3 + k) - 200 = j) : fmB P tr dy lk q s k = (tkB P lk j && decide (syN P dy j (pn P (126 + j) - 1) = trN P dy q s k)) := by unfold fmB; rw [if_neg h0, if_neg h1, if_neg h2, if_pos h, hj]
theorem fm_n {P : Nat → Int32} {tr : Nat → Bool} {dy : Int32} {lk : Nat → Nat → Nat} {q s k : Nat} (h0 : ¬ P (rwX q s + 3 + k) = 300) (h1 : ¬ (0 ≤ P (rwX q s + 3 + k) ∧ P (rwX q s + 3 + k) ≤ P 3 - 1)) (h2 : ¬ (100 ≤ P (rwX q s + 3 + k) ∧ P (rwX q s + 3 + k) ≤ 100 + nI s - 1)) (h3 : ¬ ((200 ≤ P (rwX q s + 3 + k) ∧ P (rwX q s + 3 + k) ≤ 200 + nI q - 1) ∧ (pn P (114 + q) = 2 ∨ pn P (114 + q) = 3))) : fmB P tr dy lk q s k = false := by unfold fmB; rw [if_neg h0, if_neg h1, if_neg h2, if_neg h3]
/-- a number within bounds -/
theorem rg_of {v : Int32} {lo n : Nat} (hb : lo + n < 2 ^ 30) (h1 : nI lo ≤ v) (h2 : v ≤ nI lo + nI n - 1) : ∃ j, v = nI j ∧ lo ≤ j ∧ j < lo + n := by
  have h0 : ¬ v < 0 := fun z => absurd (Int32.lt_of_le_of_lt h1 z) (nI_pos (by omega))
  obtain ⟨j, hj, rfl⟩ := nI_of h0
  have a1 := (nI_leI (by omega) hj).mp h1
  refine ⟨j, rfl, a1, ?_⟩
  cases n with
  | zero =>
    exfalso
    rw [nI_add, Nat.add_zero] at h2
    cases lo with
    | zero => exact absurd (Int32.le_trans (nI_pos' hj) h2) (by decide)
    | succ lo =>
      rw [nI_pred] at h2
      have := (nI_leI hj (by omega)).mp h2
      omega
  | succ n =>
    rw [nI_add, show lo + (n + 1) = (lo + n) + 1 by omega, nI_pred] at h2
    have := (nI_leI hj (by omega)).mp h2
    omega
theorem sy_lt {P : Nat → Int32} {R C n0 q s : Nat} {dy : Int32} (hW : wkA P R C n0) (hR : okR P R (rwX q s)) : syN P dy q s < 750 := by
  have w2 := hW.2.1
  obtain ⟨⟨r, hr, er⟩, ⟨n, n6, en⟩, -⟩ := hR
  obtain ⟨-, -, -, a4, -⟩ := wkA_x (dy := dy) hW hr
  unfold syN
  rw [pn_of er (by omega), pn_of en (by omega)]
  exact faN_lt (okL_Lm n6) a4
theorem tr_lt {P : Nat → Int32} {R C n0 q s k : Nat} {dy : Int32} (hW : wkA P R C n0) (hR : okR P R (rwX q s)) (hk : k < pn P (txX P (pn P (rwX q s)) dy)) : trN P dy q s k < 750 := by
  have w2 := hW.2.1
  obtain ⟨⟨r, hr, er⟩, ⟨n, n6, en⟩, -⟩ := hR
  obtain ⟨-, -, a3, -, -⟩ := wkA_x (dy := dy) hW hr
  unfold trN
  rw [pn_of er (by omega)] at hk
  rw [pn_of er (by omega), pn_of en (by omega)]
  exact faN_lt (okL_Lm n6) (a3 k hk)
theorem m_isFrom_of {P : Nat → Int32} {dy : Int32} {R C n0 Q m : Nat} (hW : wkA P R C n0) (hA : pfA P R Q) (hL : LKs P dy Q m) {sg : sg_T} {d q s k t : Nat} {vq vs vk : Int32} (hd : 3 * m + 7 ≤ d) (e1 : sg 1 = P) (hq : vq = nI q) (hs : vs = nI s) (hk : vk = nI k) (hqQ : q < Q) (hsS : s < pn P (126 + q)) (hm' : 12 * q + s ≤ m) (et : P (rwX q s + 2) = nI t) (t3 : t ≤ 3) (hkt : k < t) (htx : P (txX P (pn P (rwX q s)) dy) = P (rwX q s + 2)) : am_Met mi_X12_isFrom d 0 0 [.ref 0, .int vq, .int vs, .int vk, .int dy] (hm sg) (fun r h' => ∃ sg', r = some (.int (bI (fmB P (trP P) dy (lkN P (trP P) dy m) q s k))) ∧ h' = hm sg' ∧ frL sg sg') := by
  obtain ⟨q12, ⟨kk, k5, ek, pk⟩, st, s12, es, ps, hRw⟩ := pf_q hA hqQ
  rw [ps] at hsS
  have hRs := hRw s hsS
  have rb : rwX q s + 6 ≤ 1002 := by unfold rwX; omega
  have w7 := hW.2.2.2.2.2.2.1
  have w8 := hW.2.2.2.2.2.2.2.1
  have hkx : k < pn P (txX P (pn P (rwX q s)) dy) := by unfold pn at *; rw [htx, et, nI_clamp (by omega)]; exact hkt
  have tl := tr_lt (dy := dy) hW hRs hkx
  refine am_Met.of rfl (Nat.le_of_ble_eq_true rfl) ?_
  refine am_go ok_X12_isFrom [] 138 ?_
  refine ⟨_, _, rfl, rfl, ?_⟩
  refine ⟨d - 1, 0, 0, _, by omega, Nat.le_of_ble_eq_true rfl, Nat.le_of_ble_eq_true rfl, Nat.le_of_ble_eq_true rfl, m_stepAt (d - 1) vq vs, ?_⟩
  rintro _ _ ⟨rfl, rfl⟩
  refine ⟨Or.inl rfl, ?_⟩
  rw [hq, hs, rwX_e]
  refine ⟨_, _, (rwX q s + 3 + k), rfl, (by rw [hk]; show nI _ + nI 3 + nI k = _; rw [nI_add, nI_add]), by omega, Nat.le_of_ble_eq_true rfl, ?_⟩
  rw [e1]
  generalize ev : P (rwX q s + 3 + k) = v
  refine ⟨_, rfl, d - 1, 0, 0, _, by omega, Nat.le_of_ble_eq_true rfl, Nat.le_of_ble_eq_true rfl, Nat.le_of_ble_eq_true rfl, m_termOn (q := q) (s := s) (k := k) (R := R) (C := C) (n0 := n0) (by omega) (by rw [e1]; exact hW) rfl rfl hk ⟨q12, by omega⟩ (by rw [e1]; exact hRs) (by rw [e1]; exact hkx), ?_⟩
  rintro _ _ ⟨sg1, rfl, rfl, hF1⟩
  refine ⟨Or.inl rfl, ?_⟩
  have e2 : sg1 1 = P := (hF1 1 (by decide)).trans e1
  rw [e1]
  refine ⟨_, _, rfl, rfl, ?_⟩
  refine ⟨_, _, (114 + q), rfl, (nI_add 114 q), by omega, Nat.le_of_ble_eq_true rfl, ?_⟩
  rw [e2, ek]
  refine ⟨fun c43 => ?_, fun c43 => ?_⟩
  · have h300 := c43
    refine ⟨_, rfl, d - 1, 0, 0, _, by omega, Nat.le_of_ble_eq_true rfl, Nat.le_of_ble_eq_true rfl, Nat.le_of_ble_eq_true rfl, m_isPaper (by omega) v, ?_⟩
    rintro _ _ ⟨rfl, rfl⟩
    refine ⟨Or.inl rfl, ?_⟩
    rw [e2]
    refine ⟨fun c70 => ?_, fun c70 => ?_⟩
    · have pap := bI_f c70
      refine ⟨d - 1, 0, 0, _, by omega, Nat.le_of_ble_eq_true rfl, Nat.le_of_ble_eq_true rfl, Nat.le_of_ble_eq_true rfl, m_in (d - 1) v 100 _, ?_⟩
      rintro _ _ ⟨rfl, rfl⟩
      refine ⟨Or.inl rfl, ?_⟩
      refine ⟨fun c127 => ?_, fun c127 => ?_⟩
      · have stp := bI_f c127
        refine ⟨d - 1, 0, 0, _, by omega, Nat.le_of_ble_eq_true rfl, Nat.le_of_ble_eq_true rfl, Nat.le_of_ble_eq_true rfl, m_in (d - 1) v 200 _, ?_⟩
        rintro _ _ ⟨rfl, rfl⟩
        refine ⟨Or.inl rfl, ?_⟩
        refine ⟨fun c183 => ?_, fun c183 => ?_⟩
        · refine ⟨rfl, sg1, ?_, rfl, hF1⟩
          rw [fm_n (by rw [ev]; exact h300) (by rw [ev]; exact pap) (by rw [ev]; exact stp) (by rw [ev]; exact fun z => bI_f c183 z.1)]
          rfl
        · have edp := bI_t c183
          obtain ⟨j, ej, jl, jn⟩ := rg_of (lo := 200) (n := q) (by omega) edp.1 edp.2
          have pj : pn P (rwX q s + 3 + k) - 200 = j - 200 := by rw [pn_of (ev.trans ej) (by omega)]
          have ej' : v - 200 = nI (j - 200) := by rw [ej]; exact pk_sub jl
          obtain ⟨j12, -, st', s12', es', ps', hRw'⟩ := pf_q hA (show j - 200 < Q by omega)
          refine ⟨fun c189 => ?_, fun c189 => ?_⟩
          · have kd : kk = 2 ∨ kk = 3 := Or.inl ((nI_eq (b := 2) (by omega) (by omega)).mp c189)
            have f0 := fm_e (tr := trP P) (dy := dy) (lk := lkN P (trP P) dy m) (by rw [ev]; exact h300) (by rw [ev]; exact pap) (by rw [ev]; exact stp) (by rw [ev, pk]; exact ⟨edp, kd⟩) pj
            refine ⟨_, rfl, d - 1, 0, 0, _, by omega, Nat.le_of_ble_eq_true rfl, Nat.le_of_ble_eq_true rfl, Nat.le_of_ble_eq_true rfl, m_isTaken_of (q := j - 200) hW hA hL (by omega) e2 ej' (by omega) (by omega), ?_⟩
            rintro _ _ ⟨sg2, rfl, rfl, hF2⟩
            refine ⟨Or.inl rfl, ?_⟩
            have e3 : sg2 1 = P := (hF2 1 (by decide)).trans e2
            refine ⟨fun c214 => ?_, fun c214 => ?_⟩
            · refine ⟨rfl, sg2, ?_, rfl, fun a ha => (hF2 a ha).trans (hF1 a ha)⟩
              rw [f0, bI_0.mp c214, Bool.false_and]
              rfl
            · have tk : tkB P (lkN P (trP P) dy m) (j - 200) = true := by
                cases e : tkB P (lkN P (trP P) dy m) (j - 200) with
                | true => rfl
                | false => exact absurd (by rw [e]; rfl) c214
              have st0 : 0 < st' := by
                rcases Nat.eq_zero_or_pos st' with z | z
                · unfold tkB at tk
                  rw [ps', z] at tk
                  exact absurd tk (by simp)
                · exact z
              have hRj := hRw' (st' - 1) (by omega)
              have sl := sy_lt (dy := dy) hW hRj
              refine ⟨_, _, rfl, rfl, ?_⟩
              refine ⟨_, _, (126 + (j - 200)), rfl, (by rw [ej']; exact nI_add 126 _), by omega, Nat.le_of_ble_eq_true rfl, ?_⟩
              rw [e3, es']
              refine ⟨_, rfl, d - 1, 0, 0, _, by omega, Nat.le_of_ble_eq_true rfl, Nat.le_of_ble_eq_true rfl, Nat.le_of_ble_eq_true rfl, m_saysOn (q := j - 200) (s := st' - 1) (R := R) (C := C) (n0 := n0) (by omega) (by rw [e3]; exact hW) ej' (pk_sub (b := 1) st0) ⟨j12, by omega⟩ (by rw [e3]; exact hRj), ?_⟩
              rintro _ _ ⟨sg3, rfl, rfl, hF3⟩
              refine ⟨Or.inl rfl, ?_⟩
              rw [e3]
              refine ⟨fun c239 => ?_, fun c239 => ?_⟩
              · refine ⟨rfl, sg3, ?_, rfl, fun a ha => (hF3 a ha).trans ((hF2 a ha).trans (hF1 a ha))⟩
                rw [f0, ps', decide_eq_false (fun e => c239 (by rw [e])), Bool.and_false]
                rfl
              · refine ⟨rfl, sg3, ?_, rfl, fun a ha => (hF3 a ha).trans ((hF2 a ha).trans (hF1 a ha))⟩
                rw [f0, ps', decide_eq_true ((nI_eq (by omega) (by omega)).mp c239), tk]
                rfl
          · refine ⟨fun c195 => ?_, fun c195 => ?_⟩
            · refine ⟨rfl, sg1, ?_, rfl, hF1⟩
              rw [fm_n (by rw [ev]; exact h300) (by rw [ev]; exact pap) (by rw [ev]; exact stp) (by rw [pk]; exact fun z => z.2.elim (fun e => c189 (by rw [e]; rfl)) (fun e => c195 (by rw [e]; rfl)))]
              rfl
            · have kd : kk = 2 ∨ kk = 3 := Or.inr ((nI_eq (b := 3) (by omega) (by omega)).mp c195)
              have f0 := fm_e (tr := trP P) (dy := dy) (lk := lkN P (trP P) dy m) (by rw [ev]; exact h300) (by rw [ev]; exact pap) (by rw [ev]; exact stp) (by rw [ev, pk]; exact ⟨edp, kd⟩) pj
              refine ⟨_, rfl, d - 1, 0, 0, _, by omega, Nat.le_of_ble_eq_true rfl, Nat.le_of_ble_eq_true rfl, Nat.le_of_ble_eq_true rfl, m_isTaken_of (q := j - 200) hW hA hL (by omega) e2 ej' (by omega) (by omega), ?_⟩
              rintro _ _ ⟨sg2, rfl, rfl, hF2⟩
              refine ⟨Or.inl rfl, ?_⟩
              have e3 : sg2 1 = P := (hF2 1 (by decide)).trans e2
              refine ⟨fun c214 => ?_, fun c214 => ?_⟩
              · refine ⟨rfl, sg2, ?_, rfl, fun a ha => (hF2 a ha).trans (hF1 a ha)⟩
                rw [f0, bI_0.mp c214, Bool.false_and]
                rfl
              · have tk : tkB P (lkN P (trP P) dy m) (j - 200) = true := by
                  cases e : tkB P (lkN P (trP P) dy m) (j - 200) with
                  | true => rfl
                  | false => exact absurd (by rw [e]; rfl) c214
                have st0 : 0 < st' := by
                  rcases Nat.eq_zero_or_pos st' with z | z
                  · unfold tkB at tk
                    rw [ps', z] at tk
                    exact absurd tk (by simp)
                  · exact z
                have hRj := hRw' (st' - 1) (by omega)
                have sl := sy_lt (dy := dy) hW hRj
                refine ⟨_, _, rfl, rfl, ?_⟩
                refine ⟨_, _, (126 + (j - 200)), rfl, (by rw [ej']; exact nI_add 126 _), by omega, Nat.le_of_ble_eq_true rfl, ?_⟩
                rw [e3, es']
                refine ⟨_, rfl, d - 1, 0, 0, _, by omega, Nat.le_of_ble_eq_true rfl, Nat.le_of_ble_eq_true rfl, Nat.le_of_ble_eq_true rfl, m_saysOn (q := j - 200) (s := st' - 1) (R := R) (C := C) (n0 := n0) (by omega) (by rw [e3]; exact hW) ej' (pk_sub (b := 1) st0) ⟨j12, by omega⟩ (by rw [e3]; exact hRj), ?_⟩
                rintro _ _ ⟨sg3, rfl, rfl, hF3⟩
                refine ⟨Or.inl rfl, ?_⟩
                rw [e3]
                refine ⟨fun c239 => ?_, fun c239 => ?_⟩
                · refine ⟨rfl, sg3, ?_, rfl, fun a ha => (hF3 a ha).trans ((hF2 a ha).trans (hF1 a ha))⟩
                  rw [f0, ps', decide_eq_false (fun e => c239 (by rw [e])), Bool.and_false]
                  rfl
                · refine ⟨rfl, sg3, ?_, rfl, fun a ha => (hF3 a ha).trans ((hF2 a ha).trans (hF1 a ha))⟩
                  rw [f0, ps', decide_eq_true ((nI_eq (by omega) (by omega)).mp c239), tk]
                  rfl
      · have stp := bI_t c127
        obtain ⟨j, ej, jl, jn⟩ := rg_of (lo := 100) (n := s) (by omega) stp.1 stp.2
        have pj : pn P (rwX q s + 3 + k) - 100 = j - 100 := by rw [pn_of (ev.trans ej) (by omega)]
        have f0 := fm_s (tr := trP P) (dy := dy) (lk := lkN P (trP P) dy m) (by rw [ev]; exact h300) (by rw [ev]; exact pap) (by rw [ev]; exact stp) pj
        have ej' : v - 100 = nI (j - 100) := by rw [ej]; exact pk_sub jl
        have hRj := hRw (j - 100) (by omega)
        have sl := sy_lt (dy := dy) hW hRj
        refine ⟨_, rfl, d - 1, 0, 0, _, by omega, Nat.le_of_ble_eq_true rfl, Nat.le_of_ble_eq_true rfl, Nat.le_of_ble_eq_true rfl, m_saysOn (q := q) (s := j - 100) (R := R) (C := C) (n0 := n0) (by omega) (by rw [e2]; exact hW) rfl ej' ⟨q12, by omega⟩ (by rw [e2]; exact hRj), ?_⟩
        rintro _ _ ⟨sg2, rfl, rfl, hF2⟩
        refine ⟨Or.inl rfl, ?_⟩
        have e3 : sg2 1 = P := (hF2 1 (by decide)).trans e2
        rw [e2]
        refine ⟨fun c144 => ?_, fun c144 => ?_⟩
        · refine ⟨rfl, sg2, ?_, rfl, fun a ha => (hF2 a ha).trans (hF1 a ha)⟩
          rw [f0, decide_eq_false (fun e => c144 (by rw [e])), Bool.false_and]
          rfl
        · have es0 := (nI_eq (by omega) (by omega)).mp c144
          refine ⟨_, rfl, d - 1, 0, 0, _, by omega, Nat.le_of_ble_eq_true rfl, Nat.le_of_ble_eq_true rfl, Nat.le_of_ble_eq_true rfl, hL q (j - 100) (d - 1) (nI q) _ sg2 e3 rfl ej' hqQ (by rw [ps]; omega) (by omega) (by omega), ?_⟩
          rintro _ _ ⟨sg3, rfl, rfl, hF3⟩
          refine ⟨Or.inl rfl, ?_⟩
          have l13 := lkN_le (tr := trP P) (dy := dy) (F := m) (P := P) (q := q) (s := j - 100) (by obtain ⟨-, -, t', -, t3', et'⟩ := hRj; rw [pn_of et' (by omega)]; exact t3')
          refine ⟨fun c159 => ?_, fun c159 => ?_⟩
          · refine ⟨rfl, sg3, ?_, rfl, fun a ha => (hF3 a ha).trans ((hF2 a ha).trans (hF1 a ha))⟩
            have d1 : decide (lkN P (trP P) dy m q (j - 100) = 0) = false := decide_eq_false (fun e => c159 (by rw [e]; rfl))
            rw [f0, d1, Bool.and_false]
            rfl
          · refine ⟨rfl, sg3, ?_, rfl, fun a ha => (hF3 a ha).trans ((hF2 a ha).trans (hF1 a ha))⟩
            rw [f0, decide_eq_true es0, decide_eq_true ((nI_eq (b := 0) (by omega) (by omega)).mp c159)]
            rfl
    · have pap := bI_t c70
      obtain ⟨j, ej, -, jn⟩ := rg_of (lo := 0) (n := n0) (by omega) pap.1 (by have := pap.2; rw [w7] at this; rw [show nI 0 + nI n0 = nI n0 by rw [nI_add, Nat.zero_add]]; exact this)
      have pj : pn P (rwX q s + 3 + k) = j := pn_of (ev.trans ej) (by omega)
      have f0 := fm_p (tr := trP P) (dy := dy) (lk := lkN P (trP P) dy m) (by rw [ev]; exact h300) (by rw [ev]; exact pap) pj
      refine ⟨fun c77 => ?_, fun c77 => ?_⟩
      · exact absurd c77 (by rw [ej]; exact nI_ge (b := 20) (by omega) (by omega))
      · refine ⟨_, _, rfl, rfl, ?_⟩
        refine ⟨_, _, (94 + j), rfl, (by rw [ej]; exact nI_add 94 j), by omega, Nat.le_of_ble_eq_true rfl, ?_⟩
        rw [e2]
        refine ⟨fun c90 => ?_, fun c90 => ?_⟩
        · refine ⟨rfl, sg1, ?_, rfl, hF1⟩
          have d1 : trP P j = false := decide_eq_false c90
          rw [f0, d1, Bool.false_and]
          rfl
        · refine ⟨_, _, rfl, rfl, ?_⟩
          refine ⟨_, _, (54 + j), rfl, (by rw [ej]; exact nI_add 54 j), by omega, Nat.le_of_ble_eq_true rfl, ?_⟩
          rw [e2]
          refine ⟨fun c105 => ?_, fun c105 => ?_⟩
          · refine ⟨rfl, sg1, ?_, rfl, hF1⟩
            rw [f0, decide_eq_false c105, Bool.and_false]
            rfl
          · refine ⟨rfl, sg1, ?_, rfl, hF1⟩
            have d1 : trP P j = true := decide_eq_true c90
            rw [f0, decide_eq_true c105, d1]
            rfl
  · have f0 := fm_h (tr := trP P) (dy := dy) (lk := lkN P (trP P) dy m) (ev.trans c43)
    rw [pk] at f0
    refine ⟨fun c49 => ?_, fun c49 => ?_⟩
    · refine ⟨rfl, sg1, ?_, rfl, hF1⟩
      rw [f0, bI_dt (Or.inl ((nI_eq (b := 1) (by omega) (by omega)).mp c49))]
    · refine ⟨fun c55 => ?_, fun c55 => ?_⟩
      · refine ⟨rfl, sg1, ?_, rfl, hF1⟩
        rw [f0, bI_df (fun z => z.elim (fun e => c49 (by rw [e]; rfl)) (fun e => c55 (by rw [e]; rfl)))]
      · refine ⟨rfl, sg1, ?_, rfl, hF1⟩
        rw [f0, bI_dt (Or.inr ((nI_eq (b := 4) (by omega) (by omega)).mp c55))]
