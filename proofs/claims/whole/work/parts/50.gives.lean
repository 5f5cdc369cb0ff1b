/-! the Judge: weighing -/
theorem tkB_cg {P : Nat → Int32} {lk lk' : Nat → Nat → Nat} {q : Nat} (hl : ∀ s, s < pn P (126 + q) → lk' q s = lk q s) : tkB P lk' q = tkB P lk q := by
  unfold tkB
  rw [alN_cg (fun s hs => by show decide (lk' q s = 0) = decide (lk q s = 0); rw [hl s hs])]
theorem fm_cg {P : Nat → Int32} {tr : Nat → Bool} {dy : Int32} {q s k : Nat} (q12 : q < 12) (s12 : s < 12) {lk lk' : Nat → Nat → Nat} (h1 : ∀ j, j < s → lk' q j = lk q j) (h2 : ∀ p j, p < q → j < pn P (126 + p) → lk' p j = lk p j) : fmB P tr dy lk' q s k = fmB P tr dy lk q s k := by
  unfold fmB
  by_cases c1 : P (rwX q s + 3 + k) = 300
  · rw [if_pos c1, if_pos c1]
  rw [if_neg c1, if_neg c1]
  by_cases c2 : 0 ≤ P (rwX q s + 3 + k) ∧ P (rwX q s + 3 + k) ≤ P 3 - 1
  · rw [if_pos c2, if_pos c2]
  rw [if_neg c2, if_neg c2]
  by_cases c3 : 100 ≤ P (rwX q s + 3 + k) ∧ P (rwX q s + 3 + k) ≤ 100 + nI s - 1
  · rw [if_pos c3, if_pos c3]
    obtain ⟨j, ej, jl, jn⟩ := rg_of (lo := 100) (n := s) (by omega) c3.1 c3.2
    rw [pn_of ej (by omega), h1 (j - 100) (by omega)]
  rw [if_neg c3, if_neg c3]
  by_cases c4 : (200 ≤ P (rwX q s + 3 + k) ∧ P (rwX q s + 3 + k) ≤ 200 + nI q - 1) ∧ (pn P (114 + q) = 2 ∨ pn P (114 + q) = 3)
  · rw [if_pos c4, if_pos c4]
    obtain ⟨j, ej, jl, jn⟩ := rg_of (lo := 200) (n := q) (by omega) c4.1.1 c4.1.2
    rw [pn_of ej (by omega), tkB_cg (fun s hs => h2 (j - 200) s (by omega) hs)]
  rw [if_neg c4, if_neg c4]
theorem lk_fuel {P : Nat → Int32} {tr : Nat → Bool} {dy : Int32} {R Q : Nat} (hA : pfA P R Q) : ∀ (m q s F F' : Nat), q < Q → s < pn P (126 + q) → 12 * q + s < m → m ≤ F → m ≤ F' → lkN P tr dy F q s = lkN P tr dy F' q s
  | 0, q, s, F, F', _, _, h, _, _ => absurd h (by omega)
  | m + 1, q, s, F, F', hq, hs, h, hF, hF' => by
    obtain ⟨f, rfl⟩ : ∃ f, F = f + 1 := ⟨F - 1, by omega⟩
    obtain ⟨f', rfl⟩ : ∃ f, F' = f + 1 := ⟨F' - 1, by omega⟩
    obtain ⟨q12, -, st, st12, -, pst, -⟩ := pf_at hA hq
    have e : ∀ k, fmB P tr dy (lkN P tr dy f) q s k = fmB P tr dy (lkN P tr dy f') q s k := fun k => fm_cg q12 (by omega) (fun j hj => lk_fuel hA m q j f f' hq (by omega) (by omega) (by omega) (by omega)) (fun p j hp hj => by
      obtain ⟨-, -, sp, sp12, -, psp, -⟩ := pf_at hA (show p < Q by omega)
      exact lk_fuel hA m p j f f' (by omega) hj (by omega) (by omega) (by omega))
    rw [lkN, lkN, funext e]
theorem lk_eq {P : Nat → Int32} {tr : Nat → Bool} {dy : Int32} {R Q q s : Nat} (hA : pfA P R Q) (hq : q < Q) (hs : s < pn P (126 + q)) : lkV P tr dy q s = (if ¬ P (txX P (pn P (rwX q s)) dy) = P (rwX q s + 2) then 1 else if thN P (Lm (pn P (rwX q s + 1))) (txX P (pn P (rwX q s)) dy) (pn P (txX P (pn P (rwX q s)) dy + 1)) = false then 2 else fsN (fun k => fmB P tr dy (lkV P tr dy) q s k) (pn P (rwX q s + 2))) := by
  obtain ⟨q12, -, st, st12, -, pst, -⟩ := pf_at hA hq
  rw [show lkV P tr dy q s = lkN P tr dy 146 q s from lk_fuel hA 145 q s 145 146 hq hs (by omega) (by omega) (by omega), lkN]
/-- the rows of earlier STEPS and PROOFS, as they are weighed -/
def jdT (cg : sg_T) (P : Nat → Int32) (tr : Nat → Bool) (dy : Int32) (q s : Nat) : Prop := (∀ j, j < s → cg 79 (12 * q + j) = nI (lkV P tr dy q j) ∧ cg 80 (12 * q + j) = nI (syN P dy q j)) ∧ ∀ p, p < q → cg 81 p = bI (tkB P (lkV P tr dy) p) ∧ ∀ j, j < pn P (126 + p) → cg 79 (12 * p + j) = nI (lkV P tr dy p j) ∧ cg 80 (12 * p + j) = nI (syN P dy p j)
theorem jdT_J {cg cg' : sg_T} {P : Nat → Int32} {tr : Nat → Bool} {dy : Int32} {q s : Nat} (h : jdT cg P tr dy q s) (e79 : cg' 79 = cg 79) (e80 : cg' 80 = cg 80) (e81 : cg' 81 = cg 81) : jdT cg' P tr dy q s := by
  unfold jdT; rw [e79, e80, e81]; exact h
theorem sy_750 {P : Nat → Int32} {R C n Q q s : Nat} {dy : Int32} (hW : wkA P R C n) (hA : pfA P R Q) (hq : q < Q) (hs : s < pn P (126 + q)) : syN P dy q s < 750 := by
  obtain ⟨q12, s12, r, m, rR, r8, er, pr, m625, em, pm, -⟩ := ok_fc hW hA hq hs
  unfold syN; rw [pr, pm]
  exact faN_lt (okL_Lm m625) (wkA_x hW rR).2.2.2.1
theorem c_gives {cg : sg_T} {fn : Nat → Option Nat} {cx : cx_T} {P : Nat → Int32} (hB : BR 1 cg P) {d : Nat} (hd : 3 ≤ d) {R C n Q : Nat} (hW : wkA P R C n) (hA : pfA P R Q) {q s k : Nat} {tr : Nat → Bool} {dy vq vs v w : Int32} (hq : vq = nI q) (hs : vs = nI s) (qQ : q < Q) (sS : s < pn P (126 + q)) (hv : v = P (rwX q s + 3 + k)) (hw : w = nI (trN P dy q s k)) (t750 : trN P dy q s k < 750) (htr : ∀ j, j < n → bq (cg 78 6) j = tr j) (hJ : jdT cg P tr dy q s) : am_Met mi_X2_gives d 0 0 [.ref 78, .int vq, .int vs, .int v, .int w] (hc cg fn cx) (fun r' h' => r' = some (.int (bI (fmB P tr dy (lkV P tr dy) q s k))) ∧ h' = (hc cg fn cx)) := by
  refine am_Met.of rfl (Nat.le_of_ble_eq_true rfl) ?_
  refine am_go ok_X2_gives [] 105 ?_
  have w3 := hW.2.2.2.2.2.2.1
  have n20 := hW.2.2.2.2.2.2.2.1
  obtain ⟨q12, s12, -⟩ := ok_fc hW hA qQ sS
  obtain ⟨-, ⟨kd, kd5, ekd, pkd⟩, st, st12, -, pst, -⟩ := pf_at hA qQ
  refine ⟨_, _, rfl, rfl, ?_⟩
  refine ⟨_, rfl, d - 1, 0, 0, _, by omega, Nat.le_of_ble_eq_true rfl, Nat.le_of_ble_eq_true rfl, Nat.le_of_ble_eq_true rfl, c_has (w := 3) (n := n) (d - 1) v rfl (by omega) ((hB.c 3 (by omega)).trans w3) (by omega), ?_⟩
  rintro _ _ ⟨rfl, rfl⟩
  refine ⟨Or.inl rfl, ?_⟩
  refine ⟨fun c9 => ?_, fun c9 => ?_⟩
  · have c2 : ¬ (0 ≤ P (rwX q s + 3 + k) ∧ P (rwX q s + 3 + k) ≤ P 3 - 1) := by rw [w3, ← hv]; exact bI_f c9
    refine ⟨fun c46 => ?_, fun c46 => ?_⟩
    · have c3 : ¬ (100 ≤ P (rwX q s + 3 + k) ∧ P (rwX q s + 3 + k) ≤ 100 + nI s - 1) := fun z => i_ltn c46 (by rw [hv]; exact z.1)
      refine ⟨_, _, rfl, rfl, ?_⟩
      refine ⟨_, rfl, d - 1, 0, 0, _, by omega, Nat.le_of_ble_eq_true rfl, Nat.le_of_ble_eq_true rfl, Nat.le_of_ble_eq_true rfl, c_endIn hB (by omega) hq q12 ekd kd5, ?_⟩
      rintro _ _ ⟨e, rfl, he, rfl⟩
      refine ⟨Or.inl rfl, ?_⟩
      refine ⟨fun c109 => ?_, fun c109 => ?_⟩
      · have c4 : ¬ ((200 ≤ P (rwX q s + 3 + k) ∧ P (rwX q s + 3 + k) ≤ 200 + nI q - 1) ∧ (pn P (114 + q) = 2 ∨ pn P (114 + q) = 3)) := by
          rcases he with ⟨-, j, jq, -, -, ee⟩ | ⟨z, -⟩
          · exact absurd c109 (by rw [ee]; exact nI_pos (by omega))
          · rw [← hv]; exact z
        refine ⟨fun c160 => ?_, fun c160 => ?_⟩
        · have ef := fm_n (tr := tr) (dy := dy) (lk := lkV P tr dy) (fun z => c160 (hv.trans z)) c2 c3 c4
          refine ⟨rfl, ?_⟩
          rw [ef]; exact ⟨rfl, rfl⟩
        · have ef := fm_h (tr := tr) (dy := dy) (lk := lkV P tr dy) (hv.symm.trans c160)
          refine ⟨_, _, rfl, rfl, ?_⟩
          refine ⟨_, rfl, d - 1, 0, 0, _, by omega, Nat.le_of_ble_eq_true rfl, Nat.le_of_ble_eq_true rfl, Nat.le_of_ble_eq_true rfl, c_takesHoles hB (d - 1) hq q12 ekd kd5, ?_⟩
          rintro _ _ ⟨rfl, rfl⟩
          refine ⟨Or.inl rfl, ?_⟩
          refine ⟨fun c171 => ?_, fun c171 => ?_⟩
          · rw [decide_eq_false (bI_f c171)] at ef
            refine ⟨rfl, ?_⟩
            rw [ef]; exact ⟨rfl, rfl⟩
          · rw [decide_eq_true (bI_t c171)] at ef
            refine ⟨rfl, ?_⟩
            rw [ef]; exact ⟨rfl, rfl⟩
      · obtain ⟨cE, j, jq, ej, -, ee⟩ : enC P q v ∧ ∃ j, j < q ∧ v = nI (200 + j) ∧ pn (fun _ => v) 0 = 200 + j ∧ e = nI j := by
          rcases he with z | ⟨-, z⟩
          · exact z
          · rw [z] at c109; exact absurd (by decide) c109
        have ej' : P (rwX q s + 3 + k) = nI (200 + j) := hv.symm.trans ej
        have c1 : ¬ P (rwX q s + 3 + k) = 300 := fun z => absurd ((nI_eq (b := 300) (by omega) (by omega)).mp (ej'.symm.trans z)) (by omega)
        have ef := fm_e (tr := tr) (dy := dy) (lk := lkV P tr dy) c1 c2 c3 (by rw [← hv]; exact cE) (j := j) (by rw [pn_of ej' (by omega)]; omega)
        obtain ⟨t1, t2⟩ := hJ.2 j jq
        obtain ⟨j12, -, sj, sj12, esj, psj, -⟩ := pf_at hA (show j < Q by omega)
        refine ⟨_, _, rfl, rfl, ?_⟩
        refine ⟨_, _, j, rfl, ee, by omega, Nat.le_of_ble_eq_true rfl, ?_⟩
        rw [t1]
        refine ⟨fun c119 => ?_, fun c119 => ?_⟩
        · rw [bI_0.mp c119, Bool.false_and] at ef
          refine ⟨rfl, ?_⟩
          rw [ef]; exact ⟨rfl, rfl⟩
        · have b0 : tkB P (lkV P tr dy) j = true := by
            cases e : tkB P (lkV P tr dy) j with
            | true => rfl
            | false => rw [e] at c119; exact absurd rfl c119
          rw [b0, Bool.true_and] at ef
          have sj1 : 0 < sj := by
            rcases Nat.eq_zero_or_pos sj with z | z
            · rw [tkB_0 (by rw [psj, z])] at b0; cases b0
            · exact z
          obtain ⟨-, t3⟩ := t2 (sj - 1) (by omega)
          have s750 := sy_750 (dy := dy) (s := sj - 1) hW hA (show j < Q by omega) (by omega)
          refine ⟨_, _, rfl, rfl, ?_⟩
          refine ⟨_, _, rfl, rfl, ?_⟩
          refine ⟨_, _, rfl, rfl, ?_⟩
          refine ⟨_, _, j, rfl, ee, by omega, Nat.le_of_ble_eq_true rfl, ?_⟩
          rw [hB.s j j12, esj]
          refine ⟨_, _, (12 * j + (sj - 1)), rfl, (by rw [ee]; show nI j * nI 12 + nI sj - nI 1 = _; rw [pk_mul, nI_add, pk_sub (by omega)]; congr 1; omega), by omega, Nat.le_of_ble_eq_true rfl, ?_⟩
          rw [t3]
          refine ⟨fun c147 => ?_, fun c147 => ?_⟩
          · rw [decide_eq_false (fun z => c147 (by rw [hw, ← z, psj]))] at ef
            refine ⟨rfl, ?_⟩
            rw [ef]; exact ⟨rfl, rfl⟩
          · rw [decide_eq_true (by rw [psj]; exact (nI_eq (by omega) (by omega)).mp (c147.trans hw))] at ef
            refine ⟨rfl, ?_⟩
            rw [ef]; exact ⟨rfl, rfl⟩
    · refine ⟨fun c54 => ?_, fun c54 => ?_⟩
      · have c3 : ¬ (100 ≤ P (rwX q s + 3 + k) ∧ P (rwX q s + 3 + k) ≤ 100 + nI s - 1) := by
          intro z
          obtain ⟨j, ej, jl, jn⟩ := rg_of (lo := 100) (n := s) (by omega) z.1 z.2
          rw [hs, hv, ej, show (100 : Int32) + nI s = nI (100 + s) from nI_add 100 s] at c54
          have := (nI_leI (by omega) (by omega)).mp c54
          omega
        refine ⟨_, _, rfl, rfl, ?_⟩
        refine ⟨_, rfl, d - 1, 0, 0, _, by omega, Nat.le_of_ble_eq_true rfl, Nat.le_of_ble_eq_true rfl, Nat.le_of_ble_eq_true rfl, c_endIn hB (by omega) hq q12 ekd kd5, ?_⟩
        rintro _ _ ⟨e, rfl, he, rfl⟩
        refine ⟨Or.inl rfl, ?_⟩
        refine ⟨fun c109 => ?_, fun c109 => ?_⟩
        · have c4 : ¬ ((200 ≤ P (rwX q s + 3 + k) ∧ P (rwX q s + 3 + k) ≤ 200 + nI q - 1) ∧ (pn P (114 + q) = 2 ∨ pn P (114 + q) = 3)) := by
            rcases he with ⟨-, j, jq, -, -, ee⟩ | ⟨z, -⟩
            · exact absurd c109 (by rw [ee]; exact nI_pos (by omega))
            · rw [← hv]; exact z
          refine ⟨fun c160 => ?_, fun c160 => ?_⟩
          · have ef := fm_n (tr := tr) (dy := dy) (lk := lkV P tr dy) (fun z => c160 (hv.trans z)) c2 c3 c4
            refine ⟨rfl, ?_⟩
            rw [ef]; exact ⟨rfl, rfl⟩
          · have ef := fm_h (tr := tr) (dy := dy) (lk := lkV P tr dy) (hv.symm.trans c160)
            refine ⟨_, _, rfl, rfl, ?_⟩
            refine ⟨_, rfl, d - 1, 0, 0, _, by omega, Nat.le_of_ble_eq_true rfl, Nat.le_of_ble_eq_true rfl, Nat.le_of_ble_eq_true rfl, c_takesHoles hB (d - 1) hq q12 ekd kd5, ?_⟩
            rintro _ _ ⟨rfl, rfl⟩
            refine ⟨Or.inl rfl, ?_⟩
            refine ⟨fun c171 => ?_, fun c171 => ?_⟩
            · rw [decide_eq_false (bI_f c171)] at ef
              refine ⟨rfl, ?_⟩
              rw [ef]; exact ⟨rfl, rfl⟩
            · rw [decide_eq_true (bI_t c171)] at ef
              refine ⟨rfl, ?_⟩
              rw [ef]; exact ⟨rfl, rfl⟩
        · obtain ⟨cE, j, jq, ej, -, ee⟩ : enC P q v ∧ ∃ j, j < q ∧ v = nI (200 + j) ∧ pn (fun _ => v) 0 = 200 + j ∧ e = nI j := by
            rcases he with z | ⟨-, z⟩
            · exact z
            · rw [z] at c109; exact absurd (by decide) c109
          have ej' : P (rwX q s + 3 + k) = nI (200 + j) := hv.symm.trans ej
          have c1 : ¬ P (rwX q s + 3 + k) = 300 := fun z => absurd ((nI_eq (b := 300) (by omega) (by omega)).mp (ej'.symm.trans z)) (by omega)
          have ef := fm_e (tr := tr) (dy := dy) (lk := lkV P tr dy) c1 c2 c3 (by rw [← hv]; exact cE) (j := j) (by rw [pn_of ej' (by omega)]; omega)
          obtain ⟨t1, t2⟩ := hJ.2 j jq
          obtain ⟨j12, -, sj, sj12, esj, psj, -⟩ := pf_at hA (show j < Q by omega)
          refine ⟨_, _, rfl, rfl, ?_⟩
          refine ⟨_, _, j, rfl, ee, by omega, Nat.le_of_ble_eq_true rfl, ?_⟩
          rw [t1]
          refine ⟨fun c119 => ?_, fun c119 => ?_⟩
          · rw [bI_0.mp c119, Bool.false_and] at ef
            refine ⟨rfl, ?_⟩
            rw [ef]; exact ⟨rfl, rfl⟩
          · have b0 : tkB P (lkV P tr dy) j = true := by
              cases e : tkB P (lkV P tr dy) j with
              | true => rfl
              | false => rw [e] at c119; exact absurd rfl c119
            rw [b0, Bool.true_and] at ef
            have sj1 : 0 < sj := by
              rcases Nat.eq_zero_or_pos sj with z | z
              · rw [tkB_0 (by rw [psj, z])] at b0; cases b0
              · exact z
            obtain ⟨-, t3⟩ := t2 (sj - 1) (by omega)
            have s750 := sy_750 (dy := dy) (s := sj - 1) hW hA (show j < Q by omega) (by omega)
            refine ⟨_, _, rfl, rfl, ?_⟩
            refine ⟨_, _, rfl, rfl, ?_⟩
            refine ⟨_, _, rfl, rfl, ?_⟩
            refine ⟨_, _, j, rfl, ee, by omega, Nat.le_of_ble_eq_true rfl, ?_⟩
            rw [hB.s j j12, esj]
            refine ⟨_, _, (12 * j + (sj - 1)), rfl, (by rw [ee]; show nI j * nI 12 + nI sj - nI 1 = _; rw [pk_mul, nI_add, pk_sub (by omega)]; congr 1; omega), by omega, Nat.le_of_ble_eq_true rfl, ?_⟩
            rw [t3]
            refine ⟨fun c147 => ?_, fun c147 => ?_⟩
            · rw [decide_eq_false (fun z => c147 (by rw [hw, ← z, psj]))] at ef
              refine ⟨rfl, ?_⟩
              rw [ef]; exact ⟨rfl, rfl⟩
            · rw [decide_eq_true (by rw [psj]; exact (nI_eq (by omega) (by omega)).mp (c147.trans hw))] at ef
              refine ⟨rfl, ?_⟩
              rw [ef]; exact ⟨rfl, rfl⟩
      · have l2 := i_nle c54
        rw [hs] at l2
        obtain ⟨j, ej, cj, jl⟩ := ix_c (v := v) (m := 100 + s) (by omega) ⟨Int32.le_trans (by decide) (i_nlt c46), by rw [← nI_add]; exact Int32.le_of_lt l2⟩
        have j2 : j < 100 + s := by rw [ej, show (100 : Int32) + nI s = nI (100 + s) from nI_add 100 s] at l2; exact (nI_ltI (by omega) (by omega)).mp l2
        have j1 : 100 ≤ j := by have := i_nlt c46; rw [ej] at this; exact (nI_leI (a := 100) (by omega) (by omega)).mp this
        have ej' : P (rwX q s + 3 + k) = nI j := hv.symm.trans ej
        have c1 : ¬ P (rwX q s + 3 + k) = 300 := fun z => absurd ((nI_eq (b := 300) (by omega) (by omega)).mp (ej'.symm.trans z)) (by omega)
        have c3 : 100 ≤ P (rwX q s + 3 + k) ∧ P (rwX q s + 3 + k) ≤ 100 + nI s - 1 := by
          rw [ej', show (100 : Int32) + nI s = nI (100 + s) from nI_add 100 s]
          exact ⟨(nI_leI (a := 100) (by omega) (by omega)).mpr j1, (in_of j2 (by omega)).2⟩
        have ef := fm_s (tr := tr) (dy := dy) (lk := lkV P tr dy) c1 c2 c3 (j := j - 100) (by rw [pn_of ej' (by omega)])
        obtain ⟨t1, t2⟩ := hJ.1 (j - 100) (by omega)
        have s750 := sy_750 (dy := dy) (s := j - 100) hW hA qQ (by omega)
        have l13 : lkV P tr dy q (j - 100) ≤ 13 := lkN_le (P := P) (tr := tr) (dy := dy) (F := 145) (q := q) (s := j - 100) (by obtain ⟨-, -, r', m', -, -, -, -, -, -, -, t', -, t3, -, pt⟩ := ok_fc hW hA qQ (show j - 100 < pn P (126 + q) by omega); omega)
        have e5 : vq * 12 + v - 100 = nI (12 * q + (j - 100)) := by
          rw [hq, ej]
          show nI q * nI 12 + nI j - nI 100 = _
          rw [pk_mul, nI_add, pk_sub (by omega)]
          congr 1; omega
        refine ⟨_, _, rfl, rfl, ?_⟩
        refine ⟨_, _, (12 * q + (j - 100)), rfl, e5, by omega, Nat.le_of_ble_eq_true rfl, ?_⟩
        rw [t1]
        refine ⟨fun c75 => ?_, fun c75 => ?_⟩
        · rw [decide_eq_false (p := lkV P tr dy q (j - 100) = 0) (fun z => c75 (by rw [z]; rfl)), Bool.and_false] at ef
          refine ⟨rfl, ?_⟩
          rw [ef]; exact ⟨rfl, rfl⟩
        · rw [decide_eq_true (show lkV P tr dy q (j - 100) = 0 from (nI_eq (b := 0) (by omega) (by omega)).mp c75), Bool.and_true] at ef
          refine ⟨_, _, rfl, rfl, ?_⟩
          refine ⟨_, _, (12 * q + (j - 100)), rfl, e5, by omega, Nat.le_of_ble_eq_true rfl, ?_⟩
          rw [t2]
          refine ⟨fun c87 => ?_, fun c87 => ?_⟩
          · rw [decide_eq_false (fun z => c87 (by rw [hw, z]))] at ef
            refine ⟨rfl, ?_⟩
            rw [ef]; exact ⟨rfl, rfl⟩
          · rw [decide_eq_true ((nI_eq (by omega) (by omega)).mp (c87.trans hw))] at ef
            refine ⟨rfl, ?_⟩
            rw [ef]; exact ⟨rfl, rfl⟩
  · have c2 : inI (P (rwX q s + 3 + k)) 0 (P 3 - 1) := by rw [w3, ← hv]; exact bI_t c9
    obtain ⟨j, ej, cj, jl⟩ := ix_at w3 (by omega) c2
    have c1 : ¬ P (rwX q s + 3 + k) = 300 := fun z => absurd ((nI_eq (b := 300) (by omega) (by omega)).mp (ej.symm.trans z)) (by omega)
    have ef := fm_p (tr := tr) (dy := dy) (lk := lkV P tr dy) c1 c2 cj
    have ev : v = nI j := hv.trans ej
    refine ⟨_, _, rfl, rfl, ?_⟩
    refine ⟨fun c20 => ?_, fun c20 => ?_⟩
    · have b0 : tr j = false := by rw [ev, shr_e0 (by omega), htr j jl] at c20; exact c20
      rw [b0, Bool.false_and] at ef
      refine ⟨rfl, ?_⟩
      rw [ef]; exact ⟨rfl, rfl⟩
    · have b0 : tr j = true := by
        cases e : tr j with
        | true => rfl
        | false => exact absurd ((shr_e0 (by omega) _).mpr ((htr j jl).trans e)) (by rw [ev] at c20; exact c20)
      rw [b0, Bool.true_and] at ef
      refine ⟨_, _, rfl, rfl, ?_⟩
      refine ⟨_, _, rfl, rfl, ?_⟩
      refine ⟨_, _, j, rfl, ev, by omega, Nat.le_of_ble_eq_true rfl, ?_⟩
      rw [hB.pf j (by omega)]
      refine ⟨fun c34 => ?_, fun c34 => ?_⟩
      · rw [decide_eq_false (fun z => c34 (by rw [z, hw]))] at ef
        refine ⟨rfl, ?_⟩
        rw [ef]; exact ⟨rfl, rfl⟩
      · rw [decide_eq_true (by rw [c34, hw])] at ef
        refine ⟨rfl, ?_⟩
        rw [ef]; exact ⟨rfl, rfl⟩
theorem c_lackOf_l {cg : sg_T} {fn : Nat → Option Nat} {cx : cx_T} {cg0 : sg_T} {P : Nat → Int32} {d kc ks : Nat} (hd : 5 ≤ d) {R C n Q : Nat} (hW : wkA P R C n) (hA : pfA P R Q) {q s r m nt : Nat} {tr : Nat → Bool} {dy vq vs v4 v5 : Int32} (hB : BR 1 cg P) (hF : frJ cg0 cg) (hG : dgV (cg 83)) (hq : vq = nI q) (hs : vs = nI s) (qQ : q < Q) (sS : s < pn P (126 + q)) (rR : r < R) (pr : pn P (rwX q s) = r) (m625 : m < 625) (pm : pn P (rwX q s + 1) = m) (g3 : ∀ l, l < 4 → cg 83 (5 + l) = nI (Lm m l)) (h4 : v4 = nI (72 * q + 6 * s)) (h5 : v5 = nI nt) (n3 : nt ≤ 3) (pt : pn P (rwX q s + 2) = nt) (ex : pn P (txX P r dy) = nt) (hth : lkV P tr dy q s = fsN (fun k => fmB P tr dy (lkV P tr dy) q s k) nt) (htr : ∀ j, j < n → bq (cg 78 6) j = tr j) (hJ : jdT cg P tr dy q s) : ∀ (u k : Nat) (z : Int32) (t8 : Option Value), z = nI k → (∀ j, j < k → fmB P tr dy (lkV P tr dy) q s j = true) → k ≤ nt → nt < k + u → am_W mi_X2_lackOf d (fun r' h' => r' = some (.int (nI (lkV P tr dy q s))) ∧ ∃ cg', h' = hc cg' fn cx ∧ frJ cg0 cg') kc ks 95 [some (.ref 78), some (.int vq), some (.int vs), some (.int dy), some (.int v4), some (.int v5), some (.ref (18 + 3 * ctN P r dy)), some (.int z), t8] [] (hc cg fn cx) := by
  intro u
  induction u with
  | zero => intro k z t8 hz hK h1 h2; exact absurd h2 (by omega)
  | succ u ih =>
    intro k z t8 hz hK h1 h2
    refine am_go ok_X2_lackOf [95] 87 ?_
    obtain ⟨q12, s12, -⟩ := ok_fc hW hA qQ sS
    obtain ⟨hR, t20⟩ := ct_rel (dy := dy) hB hW rR
    have hX : okX P (txX P r dy) := wkA_x hW rR
    refine ⟨fun c99 => ?_, fun c99 => ?_⟩
    · rw [h5, hz] at c99
      have k1 : k = nt := by have := (nI_leI (by omega) (by omega)).mp c99; omega
      refine ⟨trivial, ?_⟩
      exact ⟨by rw [hth, fsN_0 (by rw [← k1]; exact hK)]; rfl, cg, rfl, hF⟩
    · have k1 : k < nt := by
        rcases Nat.lt_or_ge k nt with z1 | z1
        · exact z1
        · exact absurd (by rw [h5, hz]; exact (nI_leI (by omega) (by omega)).mpr z1) c99
      have ho : okT P (txX P r dy + 2 + 4 * k) := hX.2.2.1 k (by omega)
      have ey : ySl (txX P r dy) k = txX P r dy + 2 + 4 * k := by unfold ySl; rw [if_neg (by omega)]
      have hsl := tx_sl (s := k) hR (Or.inl (by omega))
      rw [ey] at hsl
      have et : trN P dy q s k = faN P (Lm m) (txX P r dy + 2 + 4 * k) := by unfold trN; rw [pr, pm]
      refine ⟨_, _, rfl, rfl, ?_⟩
      refine ⟨_, _, rfl, rfl, ?_⟩
      refine ⟨_, _, (72 * q + 6 * s + (3 + k)), rfl, (by rw [h4, hz]; show nI _ + nI 3 + nI k = _; rw [nI_add, nI_add, Nat.add_assoc]), by omega, Nat.le_of_ble_eq_true rfl, ?_⟩
      rw [row_c hB q12 s12 (by omega)]
      refine ⟨_, _, rfl, rfl, ?_⟩
      refine ⟨_, hc_nT t20, d - 1, 0, 0, _, by omega, Nat.le_of_ble_eq_true rfl, Nat.le_of_ble_eq_true rfl, Nat.le_of_ble_eq_true rfl, c_factOf (L := Lm m) t20 (s := k) hz (by omega) rfl hsl ho (okL_Lm m625) (fun i h1 h2 => vok_J hG g3 (okT_c ho h1 h2)), ?_⟩
      rintro _ _ ⟨rfl, rfl⟩
      refine ⟨Or.inl rfl, ?_⟩
      refine ⟨_, rfl, d - 1, 0, 0, _, by omega, Nat.le_of_ble_eq_true rfl, Nat.le_of_ble_eq_true rfl, Nat.le_of_ble_eq_true rfl, c_gives (k := k) (tr := tr) (dy := dy) hB (by omega) hW hA hq hs qQ sS (by rw [← Nat.add_assoc (rwX q s) 3 k]) (by rw [et]) (by rw [et]; exact faN_lt (okL_Lm m625) ho) htr hJ, ?_⟩
      rintro _ _ ⟨rfl, rfl⟩
      refine ⟨Or.inl rfl, ?_⟩
      refine ⟨fun c138 => ?_, fun c138 => ?_⟩
      · have fk : fmB P tr dy (lkV P tr dy) q s k = true := by
          cases e : fmB P tr dy (lkV P tr dy) q s k with
          | true => rfl
          | false => rw [e] at c138; exact absurd rfl c138
        exact ih (k + 1) _ _ (by rw [hz, nI_1]) (fun j hj => by rcases (show j = k ∨ j < k by omega) with e | e; (subst e; exact fk); exact hK j e) (by omega) (by omega)
      · have fk : fmB P tr dy (lkV P tr dy) q s k = false := bI_0.mp c138
        refine ⟨trivial, ?_⟩
        exact ⟨by rw [hth, fsN_k (b := fun k => fmB P tr dy (lkV P tr dy) q s k) hK fk nt k1, hz]; show some (Value.int (nI 10 + nI k)) = _; rw [nI_add], cg, rfl, hF⟩
theorem c_lackOf {cg : sg_T} {fn : Nat → Option Nat} {cx : cx_T} {P : Nat → Int32} (hB : BR 1 cg P) {d : Nat} (hd : 5 ≤ d) {R C n Q : Nat} (hW : wkA P R C n) (hA : pfA P R Q) (hG : dgV (cg 83)) {q s : Nat} {tr : Nat → Bool} {dy vq vs : Int32} (hq : vq = nI q) (hs : vs = nI s) (qQ : q < Q) (sS : s < pn P (126 + q)) (htr : ∀ j, j < n → bq (cg 78 6) j = tr j) (hJ : jdT cg P tr dy q s) : am_Met mi_X2_lackOf d 0 0 [.ref 78, .int vq, .int vs, .int dy] (hc cg fn cx) (fun r' h' => r' = some (.int (nI (lkV P tr dy q s))) ∧ ∃ cg', h' = hc cg' fn cx ∧ frJ cg cg') := by
  refine am_Met.of rfl (Nat.le_of_ble_eq_true rfl) ?_
  refine am_go ok_X2_lackOf [95] 107 ?_
  obtain ⟨q12, s12, r, m, rR, r8, er, pr, m625, em, pm, nt, nt1, nt3, ent, pnt⟩ := ok_fc hW hA qQ sS
  have C12 := hW.2.2.2.1
  have le := lk_eq (tr := tr) (dy := dy) hA qQ sS
  rw [pr, pm, ent, pnt] at le
  refine ⟨_, _, rfl, rfl, ?_⟩
  refine ⟨_, rfl, d - 1, 0, 0, _, by omega, Nat.le_of_ble_eq_true rfl, Nat.le_of_ble_eq_true rfl, Nat.le_of_ble_eq_true rfl, c_rowOf (d - 1) hq hs, ?_⟩
  rintro _ _ ⟨rfl, rfl⟩
  refine ⟨Or.inl rfl, ?_⟩
  refine ⟨_, _, rfl, rfl, ?_⟩
  refine ⟨_, _, rfl, rfl, ?_⟩
  refine ⟨_, _, (72 * q + 6 * s + 2), rfl, (nI_add _ 2), by omega, Nat.le_of_ble_eq_true rfl, ?_⟩
  rw [row_c hB q12 s12 (by omega), ent]
  refine ⟨_, _, rfl, rfl, ?_⟩
  refine ⟨_, _, rfl, rfl, ?_⟩
  refine ⟨_, _, rfl, rfl, ?_⟩
  refine ⟨_, _, (72 * q + 6 * s), rfl, (by show nI _ + nI 0 = _; rw [nI_add, Nat.add_zero]), by omega, Nat.le_of_ble_eq_true rfl, ?_⟩
  rw [show cg 11 (72 * q + 6 * s) = P (rwX q s) from row_c (i := 0) hB q12 s12 (by omega), er]
  refine ⟨_, rfl, d - 1, 0, 0, _, by omega, Nat.le_of_ble_eq_true rfl, Nat.le_of_ble_eq_true rfl, Nat.le_of_ble_eq_true rfl, c_textOn hB (by omega) dy rfl r8 hW.2.2.1 C12, ?_⟩
  rintro _ _ ⟨rfl, rfl⟩
  refine ⟨Or.inl rfl, ?_⟩
  obtain ⟨hR, t20⟩ := ct_rel (dy := dy) hB hW rR
  have hX : okX P (txX P r dy) := wkA_x hW rR
  refine ⟨_, _, hc_nT t20, rfl, ?_⟩
  rw [hR.1]
  refine ⟨fun c54 => ?_, fun c54 => ?_⟩
  · rw [if_neg (fun z => z c54)] at le
    refine ⟨_, _, rfl, rfl, ?_⟩
    refine ⟨_, _, rfl, rfl, ?_⟩
    refine ⟨_, _, (72 * q + 6 * s + 1), rfl, (nI_add _ 1), by omega, Nat.le_of_ble_eq_true rfl, ?_⟩
    rw [row_c hB q12 s12 (by omega), em]
    refine ⟨_, _, rfl, rfl, ?_⟩
    refine ⟨d - 1, 0, 0, _, by omega, Nat.le_of_ble_eq_true rfl, Nat.le_of_ble_eq_true rfl, Nat.le_of_ble_eq_true rfl, c_putLetters rfl m625, ?_⟩
    rintro _ _ ⟨rfl, cg2, rfl, g1, g2, g3⟩
    refine ⟨Or.inl rfl, ?_⟩
    have hF : frJ cg cg2 := ⟨g1, g2⟩
    have hB2 : BR 1 cg2 P := BR_fr hW hB (fun a ha => g1 a (by omega))
    have hG2 : dgV (cg2 83) := fun i hi => (g2 i hi).trans (hG i hi)
    obtain ⟨hR2, -⟩ := ct_rel (dy := dy) hB2 hW rR
    refine ⟨_, _, rfl, rfl, ?_⟩
    refine ⟨_, hc_nT t20, d - 1, 0, 0, _, by omega, Nat.le_of_ble_eq_true rfl, Nat.le_of_ble_eq_true rfl, Nat.le_of_ble_eq_true rfl, c_testsHold (ns := 0) (L := Lm m) t20 rfl hR2 hX (okL_Lm m625) (fun k hk => ⟨vok_J hG2 g3 (cv_5 (okL_Lm m625) (hX.2.2.2.2 k hk).1).2, vok_J hG2 g3 (cv_5 (okL_Lm m625) (hX.2.2.2.2 k hk).2).2⟩), ?_⟩
    rintro _ _ ⟨rfl, rfl⟩
    refine ⟨Or.inl rfl, ?_⟩
    refine ⟨fun c87 => ?_, fun c87 => ?_⟩
    · have th : thN P (Lm m) (txX P r dy) (pn P (txX P r dy + 1)) = true := by
        cases e : thN P (Lm m) (txX P r dy) (pn P (txX P r dy + 1)) with
        | true => rfl
        | false => rw [e] at c87; exact absurd rfl c87
      rw [th, if_neg (by decide)] at le
      exact c_lackOf_l (by omega) hW hA hB2 hF hG2 hq hs qQ sS rR pr m625 pm g3 rfl rfl nt3 pnt (pn_of (c54.trans rfl) (by omega)) le (by rw [g1 78 (by decide)]; exact htr) (jdT_J hJ (g1 79 (by decide)) (g1 80 (by decide)) (g1 81 (by decide))) (nt + 1) 0 0 _ rfl (fun j hj => absurd hj (by omega)) (by omega) (by omega)
    · rw [if_pos (bI_0.mp c87)] at le
      refine ⟨trivial, ?_⟩
      exact ⟨by rw [le]; rfl, cg2, rfl, hF⟩
  · rw [if_pos c54] at le
    refine ⟨trivial, ?_⟩
    exact ⟨by rw [le]; rfl, cg, rfl, frJ.rf⟩
