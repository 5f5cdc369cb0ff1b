/-! the class's calls that change the Book, on: step, fill, title -/
theorem upd_e {F G : Nat → Int32} {N a : Nat} {v : Int32} (h : ∀ i, i < N → F i = G i) : ∀ i, i < N → upd F a v i = upd G a v i := fun i hi => by
  unfold upd
  split
  · rfl
  · exact h i hi
theorem upd_sf {F : Nat → Int32} {w a : Nat} {v : Int32} : (fun i => upd F (w + a) v (w + i)) = upd (fun i => F (w + i)) a v := funext fun i => by
  unfold upd
  by_cases z : i = a
  · rw [if_pos z, if_pos (by rw [z])]
  · rw [if_neg z, if_neg (by omega)]
theorem upd_s {F : Nat → Int32} {w a i : Nat} {v : Int32} : upd F (w + a) v (w + i) = upd (fun i => F (w + i)) a v i := congrFun upd_sf i
def sp_stepX (P : Nat → Int32) (q r n t x y z v : Int32) (P' : Nat → Int32) : Prop := ∃ b : Bool, (inI q 0 (P 4 - 1) → (b = true ↔ usP P (cN q))) ∧ v = sp_step P b q r n t ∧ P' = sp_stepP P b q r n t x y z
theorem c_step {cg : sg_T} {fn : Nat → Option Nat} {cx : cx_T} {P : Nat → Int32} {R C n Q T U d : Nat} (hd : 460 ≤ d) (hC : clR cg P) (hO : okP P R C n Q T U) (q r m t x y z : Int32) : am_Met mi_X11_step d 0 0 [.ref 0, .int q, .int r, .int m, .int t, .int x, .int y, .int z] (hc cg fn cx) (cX cx (sp_stepX P q r m t x y z)) := by
  refine am_Met.of rfl (Nat.le_of_ble_eq_true rfl) ?_
  refine am_go ok_X11_step [] 169 ?_
  have fin0 : ∀ rv, (∀ v P', sp_stepX P q r m t x y z v P' → v = rv ∧ P' = P) → cX cx (sp_stepX P q r m t x y z) (some (.int rv)) (hc cg fn cx) := fun rv h => ⟨rv, cg, fn, cx, rfl, rfl, rfl, fun v P' hv => ⟨(h v P' hv).1, by rw [(h v P' hv).2]; exact hC⟩⟩
  have Q12 := hO.q4.2
  have R8 := hO.r1.2
  refine ⟨_, _, rfl, rfl, ?_⟩
  refine ⟨_, rfl, d - 1, 0, 0, _, by omega, Nat.le_of_ble_eq_true rfl, Nat.le_of_ble_eq_true rfl, Nat.le_of_ble_eq_true rfl, c_has (w := 4) (n := Q) (d - 1) q rfl (by omega) ((hC.1.c 4 (by omega)).trans hO.q4.1) (by have := hO.q4.2; omega), ?_⟩
  rintro _ _ ⟨rfl, rfl⟩
  refine ⟨Or.inl rfl, ?_⟩
  refine ⟨fun c9 => ?_, fun c9 => ?_⟩
  · have qa : ¬ (inI q 0 (P 4 - 1) ∧ inI r 0 (P 1 - 1)) := fun z => (fun z => bI_f c9 (by rw [← hO.q4.1]; exact z)) z.1
    refine ⟨trivial, ?_⟩
    exact fin0 _ (fun v P' hv => by obtain ⟨b, -, ev, eP⟩ := hv; exact ⟨by rw [ev]; unfold sp_step; rw [if_pos qa], by rw [eP]; unfold sp_stepP; rw [if_neg (fun w => qa w.1)]⟩)
  · have q1 := (show inI q 0 (P 4 - 1) by rw [hO.q4.1]; exact bI_t c9)
    refine ⟨_, _, rfl, rfl, ?_⟩
    refine ⟨_, rfl, d - 1, 0, 0, _, by omega, Nat.le_of_ble_eq_true rfl, Nat.le_of_ble_eq_true rfl, Nat.le_of_ble_eq_true rfl, c_has (w := 1) (n := R) (d - 1) r rfl (by omega) ((hC.1.c 1 (by omega)).trans hO.r1.1) (by have := hO.r1.2; omega), ?_⟩
    rintro _ _ ⟨rfl, rfl⟩
    refine ⟨Or.inl rfl, ?_⟩
    refine ⟨fun c21 => ?_, fun c21 => ?_⟩
    · have qb : inI q 0 (P 4 - 1) ∧ inI r 0 (P 1 - 1) := ⟨q1, (show inI r 0 (P 1 - 1) by rw [hO.r1.1]; exact bI_t c21)⟩
      refine ⟨fun c27 => ?_, fun c27 => ?_⟩
      · have nq : ¬ (inI m 0 624 ∧ inI t 1 3) := fun w => i_len w.1.1 c27
        refine ⟨trivial, ?_⟩
        exact fin0 _ (fun v P' hv => by obtain ⟨b, -, ev, eP⟩ := hv; exact ⟨by rw [ev]; unfold sp_step; rw [if_neg (fun w => w qb), if_pos nq], by rw [eP]; unfold sp_stepP; rw [if_neg (fun w => nq w.2.1)]⟩)
      · refine ⟨fun c34 => ?_, fun c34 => ?_⟩
        · have nq : ¬ (inI m 0 624 ∧ inI t 1 3) := fun w => absurd (Int32.le_trans c34 w.1.2) (by decide)
          refine ⟨trivial, ?_⟩
          exact fin0 _ (fun v P' hv => by obtain ⟨b, -, ev, eP⟩ := hv; exact ⟨by rw [ev]; unfold sp_step; rw [if_neg (fun w => w qb), if_pos nq], by rw [eP]; unfold sp_stepP; rw [if_neg (fun w => nq w.2.1)]⟩)
        · refine ⟨fun c40 => ?_, fun c40 => ?_⟩
          · have nq : ¬ (inI m 0 624 ∧ inI t 1 3) := fun w => i_len w.2.1 c40
            refine ⟨trivial, ?_⟩
            exact fin0 _ (fun v P' hv => by obtain ⟨b, -, ev, eP⟩ := hv; exact ⟨by rw [ev]; unfold sp_step; rw [if_neg (fun w => w qb), if_pos nq], by rw [eP]; unfold sp_stepP; rw [if_neg (fun w => nq w.2.1)]⟩)
          · refine ⟨fun c46 => ?_, fun c46 => ?_⟩
            · have qn : inI m 0 624 ∧ inI t 1 3 := ⟨(lt_in (N := 625) (n := 625) rfl (by omega)).mp ⟨i_nlt c27, i_nle c34⟩, i_nlt c40, c46⟩
              obtain ⟨j, ej, cj, jQ⟩ := ix_at hO.q4.1 (by omega) q1
              obtain ⟨j12, -, st, s12, est, pst, -⟩ := pf_at hO.A jQ
              have p4 : pn P 4 = Q := pn_of hO.q4.1 (by omega)
              have p5 : pn P 5 = T := pn_of hO.t5.1 (by have := hO.t5.2; omega)
              refine ⟨_, _, rfl, rfl, ?_⟩
              refine ⟨_, rfl, d - 1, 0, 0, _, by omega, Nat.le_of_ble_eq_true rfl, Nat.le_of_ble_eq_true rfl, Nat.le_of_ble_eq_true rfl, c_isTitled hC.1 (d := d - 1) q hO.tt, ?_⟩
              rintro _ _ ⟨b1, rfl, hb1, rfl⟩
              refine ⟨Or.inl rfl, ?_⟩
              refine ⟨fun c60 => ?_, fun c60 => ?_⟩
              · have us : usP P j := Or.inl (by rw [p5, ← ej]; exact hb1.mp (by cases b1; exact absurd rfl c60; rfl))
                refine ⟨trivial, ?_⟩
                exact fin0 _ (fun v P' hv => by
                  obtain ⟨b, hb, ev, eP⟩ := hv
                  have bt : b = true := (hb q1).mpr (by rw [cj]; exact us)
                  exact ⟨by rw [ev]; unfold sp_step; rw [if_neg (fun w => w qb), if_neg (fun w => w qn), if_pos bt], by rw [eP]; unfold sp_stepP; rw [if_neg (fun w => absurd (w.2.2.1.symm.trans bt) (by decide))]⟩)
              · refine ⟨_, _, rfl, rfl, ?_⟩
                refine ⟨_, rfl, d - 1, 0, 0, _, by omega, Nat.le_of_ble_eq_true rfl, Nat.le_of_ble_eq_true rfl, Nat.le_of_ble_eq_true rfl, c_isUsed hC.1 (d := d - 1) (by omega) hO.A jQ ej, ?_⟩
                rintro _ _ ⟨b2, rfl, hb2, rfl⟩
                refine ⟨Or.inl rfl, ?_⟩
                refine ⟨fun c71 => ?_, fun c71 => ?_⟩
                · have nus : ¬ usP P j := fun w => by
                    rcases w with w | w
                    · rw [p5, ← ej] at w; exact absurd ((show b1 = false by cases b1; rfl; exact absurd c60 (by decide)).symm.trans (hb1.mpr w)) (by decide)
                    · rw [p4] at w; exact absurd ((bI_0.mp c71).symm.trans (hb2.mpr w)) (by decide)
                  refine ⟨_, _, rfl, rfl, ?_⟩
                  refine ⟨_, _, rfl, rfl, ?_⟩
                  refine ⟨_, _, j, rfl, ej, by omega, Nat.le_of_ble_eq_true rfl, ?_⟩
                  rw [hC.1.s j (by omega), est]
                  refine ⟨fun c92 => ?_, fun c92 => ?_⟩
                  · have sl : st < 12 := (nI_ltI (b := 12) (by omega) (by omega)).mp c92
                    have n12 : ¬ P (126 + cN q) = 12 := fun w => by rw [cj, est] at w; have := (nI_eq (b := 12) (by omega) (by omega)).mp w; omega
                    refine ⟨_, _, rfl, rfl, ?_⟩
                    refine ⟨_, rfl, d - 1, 0, 0, _, by omega, Nat.le_of_ble_eq_true rfl, Nat.le_of_ble_eq_true rfl, Nat.le_of_ble_eq_true rfl, c_rowOf (d - 1) ej rfl, ?_⟩
                    rintro _ _ ⟨rfl, rfl⟩
                    refine ⟨Or.inl rfl, ?_⟩
                    refine ⟨_, _, rfl, rfl, ?_⟩
                    refine ⟨_, _, rfl, rfl, ?_⟩
                    refine ⟨_, _, (72 * j + 6 * st + 0), rfl, (nI_add _ 0), by omega, Nat.le_of_ble_eq_true rfl, ?_⟩
                    rw [hc_a11]
                    refine ⟨_, _, rfl, rfl, ?_⟩
                    refine ⟨_, _, rfl, rfl, ?_⟩
                    refine ⟨_, _, (72 * j + 6 * st + 1), rfl, (nI_add _ 1), by omega, Nat.le_of_ble_eq_true rfl, ?_⟩
                    rw [hc_a11]
                    refine ⟨_, _, rfl, rfl, ?_⟩
                    refine ⟨_, _, rfl, rfl, ?_⟩
                    refine ⟨_, _, (72 * j + 6 * st + 2), rfl, (nI_add _ 2), by omega, Nat.le_of_ble_eq_true rfl, ?_⟩
                    rw [hc_a11]
                    refine ⟨_, _, rfl, rfl, ?_⟩
                    refine ⟨_, _, rfl, rfl, ?_⟩
                    refine ⟨_, _, (72 * j + 6 * st + 3), rfl, (nI_add _ 3), by omega, Nat.le_of_ble_eq_true rfl, ?_⟩
                    rw [hc_a11]
                    refine ⟨_, _, rfl, rfl, ?_⟩
                    refine ⟨_, _, rfl, rfl, ?_⟩
                    refine ⟨_, _, (72 * j + 6 * st + 4), rfl, (by show nI _ + nI 3 + nI 1 = _; rw [nI_add, nI_add]), by omega, Nat.le_of_ble_eq_true rfl, ?_⟩
                    rw [hc_a11]
                    refine ⟨_, _, rfl, rfl, ?_⟩
                    refine ⟨_, _, rfl, rfl, ?_⟩
                    refine ⟨_, _, (72 * j + 6 * st + 5), rfl, (by show nI _ + nI 3 + nI 2 = _; rw [nI_add, nI_add]), by omega, Nat.le_of_ble_eq_true rfl, ?_⟩
                    rw [hc_a11]
                    refine ⟨_, _, rfl, rfl, ?_⟩
                    refine ⟨_, _, rfl, rfl, ?_⟩
                    refine ⟨_, _, j, rfl, ej, by omega, Nat.le_of_ble_eq_true rfl, ?_⟩
                    rw [hc_a10]
                    refine ⟨trivial, ?_⟩
                    refine ⟨_, _, fn, cx, rfl, rfl, rfl, fun v P' hv => ?_⟩
                    obtain ⟨b, hb, ev, eP⟩ := hv
                    have bf : b = false := by
                      cases b with
                      | false => rfl
                      | true => exact absurd ((hb q1).mp rfl) (by rw [cj]; exact nus)
                    refine ⟨by rw [ev]; unfold sp_step; rw [if_neg (fun w => w qb), if_neg (fun w => w qn), if_neg (by rw [bf]; decide), if_neg n12, cj, est], ?_⟩
                    have eP2 : P' = upd (upd (upd (upd (upd (upd (upd P (138 + (72 * j + 6 * st + 0)) r) (138 + (72 * j + 6 * st + 1)) m) (138 + (72 * j + 6 * st + 2)) t) (138 + (72 * j + 6 * st + 3)) x) (138 + (72 * j + 6 * st + 4)) y) (138 + (72 * j + 6 * st + 5)) z) (126 + j) (nI (st + 1)) := by
                      rw [eP]; unfold sp_stepP stU rwX
                      rw [if_pos ⟨qb, qn, bf, n12⟩, cj, pst, show 138 + 72 * j + 6 * st = 138 + (72 * j + 6 * st + 0) by omega]
                      rfl
                    rw [eP2, nI_1]
                    have EC : ∀ aa, ¬ (aa = 10 ∨ aa = 11) → sg_u (sg_u (sg_u (sg_u (sg_u (sg_u (sg_u cg 11 (72 * j + 6 * st + 0) r) 11 (72 * j + 6 * st + 1) m) 11 (72 * j + 6 * st + 2) t) 11 (72 * j + 6 * st + 3) x) 11 (72 * j + 6 * st + 4) y) 11 (72 * j + 6 * st + 5) z) 10 j (nI (st + 1)) aa = cg aa := fun aa ha => by rw [sg_i (by omega), sg_i (by omega), sg_i (by omega), sg_i (by omega), sg_i (by omega), sg_i (by omega), sg_i (by omega)]
                    have EP : ∀ jj, ¬ (jj = 126 + j ∨ jj = 138 + (72 * j + 6 * st + 0) ∨ jj = 138 + (72 * j + 6 * st + 1) ∨ jj = 138 + (72 * j + 6 * st + 2) ∨ jj = 138 + (72 * j + 6 * st + 3) ∨ jj = 138 + (72 * j + 6 * st + 4) ∨ jj = 138 + (72 * j + 6 * st + 5)) → upd (upd (upd (upd (upd (upd (upd P (138 + (72 * j + 6 * st + 0)) r) (138 + (72 * j + 6 * st + 1)) m) (138 + (72 * j + 6 * st + 2)) t) (138 + (72 * j + 6 * st + 3)) x) (138 + (72 * j + 6 * st + 4)) y) (138 + (72 * j + 6 * st + 5)) z) (126 + j) (nI (st + 1)) jj = P jj := fun jj hj => by rw [pk_un (by omega), pk_un (by omega), pk_un (by omega), pk_un (by omega), pk_un (by omega), pk_un (by omega), pk_un (by omega)]
                    exact ⟨BR_g hO.W hC.1 (fun a h1 h2 => EC a (by omega)) (fun j hj => EP j (by omega)) (fun i hi => by rw [EC 2 (by omega), hC.1.c i hi]; exact (EP _ (by omega)).symm) (by rw [EC 2 (by omega), hC.1.c7]; exact (EP 8 (by omega)).symm) (fun i hi => by rw [EC 3 (by omega), hC.1.t i hi, EP _ (by omega)]) (fun i hi => by rw [EC 5 (by omega), hC.1.cr i hi]; exact (EP _ (by omega)).symm) (fun i hi => by rw [EC 6 (by omega), hC.1.cd i hi]; exact (EP _ (by omega)).symm) (fun i hi => by rw [EC 7 (by omega), hC.1.pf i hi]; exact (EP _ (by omega)).symm) (fun i hi => by rw [EC 8 (by omega), hC.1.pp i hi]; exact (EP _ (by omega)).symm) (by rw [EC 1 (by omega), hC.1.tp]; exact (tp_w hO.n3.1 hO.n3.2 (EP 3 (by omega)) (fun k hk => EP _ (by omega))).symm) (fun i hi => by rw [EC 9 (by omega), hC.1.k i hi]; exact (EP _ (by omega)).symm) (fun i hi => by
                          by_cases w : i = j
                          · rw [w, sg_s, pk_us]
                          · rw [sg_j w, sg_i (by omega), sg_i (by omega), sg_i (by omega), sg_i (by omega), sg_i (by omega), sg_i (by omega), hC.1.s i hi]; exact (EP _ (by omega)).symm) (fun i hi => by
                          rw [sg_i (by omega), sg_ii, sg_ii, sg_ii, sg_ii, sg_ii, sg_ii, pk_un (show 138 + i ≠ 126 + j by omega), upd_s, upd_sf, upd_sf, upd_sf, upd_sf, upd_sf]
                          exact upd_e (upd_e (upd_e (upd_e (upd_e (upd_e hC.1.r))))) i hi) (fun i hi => by rw [EC 12 (by omega), hC.1.tq i hi]; exact (EP _ (by omega)).symm) (fun i hi => by rw [EC 13 (by omega), hC.1.tf i hi]; exact (EP _ (by omega)).symm) (fun i hi => by rw [EC 14 (by omega), hC.1.td i hi]; exact (EP _ (by omega)).symm) (fun i hi => by rw [EC 15 (by omega), hC.1.az i hi]; exact (EP _ (by omega)).symm) (fun i hi => by rw [EC 16 (by omega), hC.1.ab i hi, EP _ (by omega)]) (fun i hi => by rw [EC 17 (by omega), hC.1.fo i hi]; exact (EP _ (by omega)).symm) (by rw [EC 1 (by omega), hC.1.hr]; exact (EP 9 (by omega)).symm), rI_fr hC.2.1 (EC 84 (by omega)) (EC 85 (by omega)) (EC 86 (by omega)) (EC 87 (by omega)), by rw [EC 89 (by omega)]; exact hC.2.2.1, by rw [EC 83 (by omega)]; exact hC.2.2.2⟩
                  · have e12 : P (126 + cN q) = 12 := by
                      have e : st = 12 := by
                        rcases Nat.lt_or_ge st 12 with w | w
                        · exact absurd ((nI_ltI (b := 12) (by omega) (by omega)).mpr w) c92
                        · omega
                      rw [cj, est, e]; rfl
                    refine ⟨trivial, ?_⟩
                    exact fin0 _ (fun v P' hv => by
                      obtain ⟨b, hb, ev, eP⟩ := hv
                      have bf : b = false := by
                        cases b with
                        | false => rfl
                        | true => exact absurd ((hb q1).mp rfl) (by rw [cj]; exact nus)
                      exact ⟨by rw [ev]; unfold sp_step; rw [if_neg (fun w => w qb), if_neg (fun w => w qn), if_neg (by rw [bf]; decide), if_pos e12], by rw [eP]; unfold sp_stepP; rw [if_neg (fun w => w.2.2.2 e12)]⟩)
                · have us : usP P j := Or.inr (by rw [p4]; exact hb2.mp (by cases b2; exact absurd rfl c71; rfl))
                  refine ⟨trivial, ?_⟩
                  exact fin0 _ (fun v P' hv => by
                    obtain ⟨b, hb, ev, eP⟩ := hv
                    have bt : b = true := (hb q1).mpr (by rw [cj]; exact us)
                    exact ⟨by rw [ev]; unfold sp_step; rw [if_neg (fun w => w qb), if_neg (fun w => w qn), if_pos bt], by rw [eP]; unfold sp_stepP; rw [if_neg (fun w => absurd (w.2.2.1.symm.trans bt) (by decide))]⟩)
            · have nq : ¬ (inI m 0 624 ∧ inI t 1 3) := fun w => c46 w.2.2
              refine ⟨trivial, ?_⟩
              exact fin0 _ (fun v P' hv => by obtain ⟨b, -, ev, eP⟩ := hv; exact ⟨by rw [ev]; unfold sp_step; rw [if_neg (fun w => w qb), if_pos nq], by rw [eP]; unfold sp_stepP; rw [if_neg (fun w => nq w.2.1)]⟩)
    · have qa : ¬ (inI q 0 (P 4 - 1) ∧ inI r 0 (P 1 - 1)) := fun z => (fun z => bI_f c21 (by rw [← hO.r1.1]; exact z)) z.2
      refine ⟨trivial, ?_⟩
      exact fin0 _ (fun v P' hv => by obtain ⟨b, -, ev, eP⟩ := hv; exact ⟨by rw [ev]; unfold sp_step; rw [if_pos qa], by rw [eP]; unfold sp_stepP; rw [if_neg (fun w => qa w.1)]⟩)
theorem c_title {cg : sg_T} {fn : Nat → Option Nat} {cx : cx_T} {P : Nat → Int32} {R C n Q T U d : Nat} (hd : 460 ≤ d) (hC : clR cg P) (hO : okP P R C n Q T U) (q : Int32) : am_Met mi_X11_title d 0 0 [.ref 0, .int q] (hc cg fn cx) (cX cx (fun v P' => v = sp_title P q ∧ P' = sp_titleP P q)) := by
  refine am_Met.of rfl (Nat.le_of_ble_eq_true rfl) ?_
  refine am_go ok_X11_title [] 140 ?_
  have fin0 : ∀ rv cg1, clR cg1 P → sp_title P q = rv → sp_titleP P q = P → cX cx (fun v P' => v = sp_title P q ∧ P' = sp_titleP P q) (some (.int rv)) (hc cg1 fn cx) := fun rv cg1 c1 h1 h2 => ⟨rv, cg1, fn, cx, rfl, rfl, rfl, fun v P' hv => ⟨hv.1.trans h1, by rw [hv.2, h2]; exact c1⟩⟩
  have Q12 := hO.q4.2
  have T10 := hO.t5.2
  have p5 : pn P 5 = T := pn_of hO.t5.1 (by omega)
  refine ⟨_, _, rfl, rfl, ?_⟩
  refine ⟨_, rfl, d - 1, 0, 0, _, by omega, Nat.le_of_ble_eq_true rfl, Nat.le_of_ble_eq_true rfl, Nat.le_of_ble_eq_true rfl, c_has (w := 4) (n := Q) (d - 1) q rfl (by omega) ((hC.1.c 4 (by omega)).trans hO.q4.1) (by have := hO.q4.2; omega), ?_⟩
  rintro _ _ ⟨rfl, rfl⟩
  refine ⟨Or.inl rfl, ?_⟩
  refine ⟨fun c9 => ?_, fun c9 => ?_⟩
  · have qb := (show inI q 0 (P 4 - 1) by rw [hO.q4.1]; exact bI_t c9)
    obtain ⟨j, ej, cj, jQ⟩ := ix_at hO.q4.1 (by omega) qb
    obtain ⟨j12, -, st, s12, est, pst, -⟩ := pf_at hO.A jQ
    refine ⟨_, _, rfl, rfl, ?_⟩
    refine ⟨_, _, rfl, rfl, ?_⟩
    refine ⟨_, _, 0, rfl, rfl, Nat.le_of_ble_eq_true rfl, Nat.le_of_ble_eq_true rfl, ?_⟩
    rw [hC.1.c 0 (by omega)]
    refine ⟨_, _, rfl, rfl, ?_⟩
    refine ⟨_, _, rfl, rfl, ?_⟩
    refine ⟨_, _, rfl, rfl, ?_⟩
    rw [hC.1.tp]
    refine ⟨_, rfl, d - 1, 0, 0, _, by omega, Nat.le_of_ble_eq_true rfl, Nat.le_of_ble_eq_true rfl, Nat.le_of_ble_eq_true rfl, c_weigh hC.1 (d := d - 1) (by omega) hO.W hO.A hC.2.2.2 ej jQ (dy := P 0) (tr := trP P) (fun j hj => by rw [bq_tp hO.n3.1 hO.n3.2 hj]), ?_⟩
    rintro _ _ ⟨rfl, cg1, rfl, F1, J1⟩
    refine ⟨Or.inl rfl, ?_⟩
    have C1 := hC.K hO.W F1
    refine ⟨_, _, rfl, rfl, ?_⟩
    refine ⟨_, _, rfl, rfl, ?_⟩
    refine ⟨_, _, j, rfl, ej, by omega, Nat.le_of_ble_eq_true rfl, ?_⟩
    rw [(J1.2 j (by omega)).1]
    refine ⟨fun c49 => ?_, fun c49 => ?_⟩
    · have tk : tkB P (lkV P (trP P) (P 0)) (cN q) = true := by
        rw [cj]
        cases e : tkB P (lkV P (trP P) (P 0)) j with
        | true => rfl
        | false => rw [e] at c49; exact absurd rfl c49
      have s1 : 1 ≤ st := by
        rcases Nat.eq_zero_or_pos st with w | w
        · rw [cj, tkB_0 (by rw [pst]; exact w)] at tk; exact absurd tk (by decide)
        · exact w
      have f7 := sy_750 (dy := P 0) (s := st - 1) hO.W hO.A jQ (by omega)
      have eF : tiF P (cN q) = syN P (P 0) j (st - 1) := by unfold tiF; rw [cj, pst]
      refine ⟨_, _, rfl, rfl, ?_⟩
      refine ⟨_, _, rfl, rfl, ?_⟩
      refine ⟨_, _, rfl, rfl, ?_⟩
      refine ⟨_, _, j, rfl, ej, by omega, Nat.le_of_ble_eq_true rfl, ?_⟩
      rw [C1.1.s j (by omega), est]
      refine ⟨_, rfl, d - 1, 0, 0, _, by omega, Nat.le_of_ble_eq_true rfl, Nat.le_of_ble_eq_true rfl, Nat.le_of_ble_eq_true rfl, c_factOfStep C1.1 (d := d - 1) (by omega) hO.W hO.A C1.2.2.2 ej (show nI st - 1 = nI (st - 1) from pk_sub (b := 1) s1) jQ (by omega), ?_⟩
      rintro _ _ ⟨rfl, cg2, rfl, F2⟩
      refine ⟨Or.inl rfl, ?_⟩
      have C2 := C1.K hO.W F2.k
      refine ⟨_, _, rfl, rfl, ?_⟩
      refine ⟨_, rfl, d - 1, 0, 0, _, by omega, Nat.le_of_ble_eq_true rfl, Nat.le_of_ble_eq_true rfl, Nat.le_of_ble_eq_true rfl, c_isTitleOf C2.1 (d := d - 1) _ hO.tt, ?_⟩
      rintro _ _ ⟨b, rfl, hb, rfl⟩
      refine ⟨Or.inl rfl, ?_⟩
      have ht : tiB P (tiF P (cN q)) = true ↔ b = false := by
        unfold tiB
        rw [alN_i, p5, eF]
        constructor
        · intro w
          cases b with
          | false => rfl
          | true =>
            obtain ⟨t, t1, t2⟩ := hb.mp rfl
            exact absurd t2 (of_decide_eq_true (w t t1))
        · intro w k hk
          exact decide_eq_true (fun y => absurd (w.symm.trans (hb.mpr ⟨k, hk, y⟩)) (by decide))
      refine ⟨fun c84 => ?_, fun c84 => ?_⟩
      · have ti := ht.mpr (bI_0.mp c84)
        refine ⟨_, _, rfl, rfl, ?_⟩
        refine ⟨_, _, rfl, rfl, ?_⟩
        refine ⟨_, _, 5, rfl, rfl, Nat.le_of_ble_eq_true rfl, Nat.le_of_ble_eq_true rfl, ?_⟩
        rw [C2.1.c 5 (by omega), hO.t5.1]
        refine ⟨fun c105 => ?_, fun c105 => ?_⟩
        · have tl : T < 10 := (nI_ltI (b := 10) (by omega) (by omega)).mp c105
          have n10 : ¬ P 5 = 10 := fun w => by have := (nI_eq (b := 10) (by omega) (by omega)).mp (hO.t5.1.symm.trans w); omega
          refine ⟨_, _, rfl, rfl, ?_⟩
          refine ⟨_, _, rfl, rfl, ?_⟩
          refine ⟨_, _, T, rfl, rfl, by omega, Nat.le_of_ble_eq_true rfl, ?_⟩
          rw [hc_a12]
          refine ⟨_, _, rfl, rfl, ?_⟩
          refine ⟨_, _, rfl, rfl, ?_⟩
          refine ⟨_, _, T, rfl, rfl, by omega, Nat.le_of_ble_eq_true rfl, ?_⟩
          rw [hc_a13]
          refine ⟨_, _, rfl, rfl, ?_⟩
          refine ⟨_, _, rfl, rfl, ?_⟩
          refine ⟨_, _, T, rfl, rfl, by omega, Nat.le_of_ble_eq_true rfl, ?_⟩
          rw [hc_a14]
          refine ⟨_, _, rfl, rfl, ?_⟩
          refine ⟨_, _, rfl, rfl, ?_⟩
          refine ⟨_, _, 5, rfl, rfl, Nat.le_of_ble_eq_true rfl, Nat.le_of_ble_eq_true rfl, ?_⟩
          rw [hc_a2]
          refine ⟨trivial, ?_⟩
          refine ⟨_, _, fn, cx, rfl, rfl, rfl, fun v P' hv => ⟨by rw [hv.1]; unfold sp_title; rw [if_neg (fun w => w qb), if_neg (fun w => w tk), if_neg (fun w => w ti), if_neg n10, hO.t5.1], ?_⟩⟩
          have eP : P' = upd (upd (upd (upd P (1002 + T) q) (1012 + T) (P 0)) (1022 + T) (nI (syN P (P 0) j (st - 1)))) 5 (nI (T + 1)) := by
            rw [hv.2]; unfold sp_titleP; rw [if_pos ⟨qb, tk, ti, n10⟩, p5, eF]
          rw [eP, nI_1]
          clear hC
          have hC := C2
          have EC : ∀ aa, ¬ (aa = 2 ∨ aa = 12 ∨ aa = 13 ∨ aa = 14) → sg_u (sg_u (sg_u (sg_u cg2 12 T q) 13 T (nI (syN P (P 0) j (st - 1)))) 14 T (P 0)) 2 5 (nI (T + 1)) aa = cg2 aa := fun aa ha => by rw [sg_i (by omega), sg_i (by omega), sg_i (by omega), sg_i (by omega)]
          have EP : ∀ jj, ¬ (jj = 5 ∨ jj = 1002 + T ∨ jj = 1012 + T ∨ jj = 1022 + T) → upd (upd (upd (upd P (1002 + T) q) (1012 + T) (P 0)) (1022 + T) (nI (syN P (P 0) j (st - 1)))) 5 (nI (T + 1)) jj = P jj := fun jj hj => by rw [pk_un (by omega), pk_un (by omega), pk_un (by omega), pk_un (by omega)]
          exact ⟨BR_g hO.W hC.1 (fun a h1 h2 => EC a (by omega)) (fun j hj => EP j (by omega)) (fun i hi => by
                by_cases w : i = 5
                · rw [w, sg_s, pk_us]
                · rw [sg_j w, sg_i (by omega), sg_i (by omega), sg_i (by omega), hC.1.c i hi, EP _ (by omega)]) (by rw [sg_j (by decide), sg_i (by omega), sg_i (by omega), sg_i (by omega), hC.1.c7]; exact (EP 8 (by omega)).symm) (fun i hi => by rw [EC 3 (by omega), hC.1.t i hi, EP _ (by omega)]) (fun i hi => by rw [EC 5 (by omega), hC.1.cr i hi]; exact (EP _ (by omega)).symm) (fun i hi => by rw [EC 6 (by omega), hC.1.cd i hi]; exact (EP _ (by omega)).symm) (fun i hi => by rw [EC 7 (by omega), hC.1.pf i hi]; exact (EP _ (by omega)).symm) (fun i hi => by rw [EC 8 (by omega), hC.1.pp i hi]; exact (EP _ (by omega)).symm) (by rw [EC 1 (by omega), hC.1.tp]; exact (tp_w hO.n3.1 hO.n3.2 (EP 3 (by omega)) (fun k hk => EP _ (by omega))).symm) (fun i hi => by rw [EC 9 (by omega), hC.1.k i hi]; exact (EP _ (by omega)).symm) (fun i hi => by rw [EC 10 (by omega), hC.1.s i hi]; exact (EP _ (by omega)).symm) (fun i hi => by rw [EC 11 (by omega), hC.1.r i hi]; exact (EP _ (by omega)).symm) (fun i hi => by
                rw [sg_i (by omega), sg_i (by omega), sg_i (by omega), pk_un (show 1002 + i ≠ 5 by omega), pk_un (show 1002 + i ≠ 1022 + T by omega), pk_un (show 1002 + i ≠ 1012 + T by omega)]
                by_cases w : i = T
                · rw [w, sg_s, pk_us]
                · rw [sg_j w, hC.1.tq i hi, pk_un (by omega)]) (fun i hi => by
                rw [sg_i (by omega), sg_i (by omega), pk_un (show 1022 + i ≠ 5 by omega)]
                by_cases w : i = T
                · rw [w, sg_s, pk_us]
                · rw [sg_j w, sg_i (by omega), hC.1.tf i hi, pk_un (by omega), pk_un (by omega), pk_un (by omega)]) (fun i hi => by
                rw [sg_i (by omega), pk_un (show 1012 + i ≠ 5 by omega), pk_un (show 1012 + i ≠ 1022 + T by omega)]
                by_cases w : i = T
                · rw [w, sg_s, pk_us]
                · rw [sg_j w, sg_i (by omega), sg_i (by omega), hC.1.td i hi, pk_un (by omega), pk_un (by omega)]) (fun i hi => by rw [EC 15 (by omega), hC.1.az i hi]; exact (EP _ (by omega)).symm) (fun i hi => by rw [EC 16 (by omega), hC.1.ab i hi, EP _ (by omega)]) (fun i hi => by rw [EC 17 (by omega), hC.1.fo i hi]; exact (EP _ (by omega)).symm) (by rw [EC 1 (by omega), hC.1.hr]; exact (EP 9 (by omega)).symm), rI_fr hC.2.1 (EC 84 (by omega)) (EC 85 (by omega)) (EC 86 (by omega)) (EC 87 (by omega)), by rw [EC 89 (by omega)]; exact hC.2.2.1, by rw [EC 83 (by omega)]; exact hC.2.2.2⟩
        · have e10 : P 5 = 10 := by
            have e : T = 10 := by
              rcases Nat.lt_or_ge T 10 with w | w
              · exact absurd ((nI_ltI (b := 10) (by omega) (by omega)).mpr w) c105
              · omega
            rw [hO.t5.1, e]; rfl
          refine ⟨trivial, ?_⟩
          exact fin0 _ cg2 C2 (by unfold sp_title; rw [if_neg (fun w => w qb), if_neg (fun w => w tk), if_neg (fun w => w ti), if_pos e10]) (by unfold sp_titleP; rw [if_neg (fun w => w.2.2.2 e10)])
      · have nt : ¬ tiB P (tiF P (cN q)) = true := fun w => by rw [ht.mp w] at c84; exact absurd rfl c84
        refine ⟨trivial, ?_⟩
        exact fin0 _ cg2 C2 (by unfold sp_title; rw [if_neg (fun w => w qb), if_neg (fun w => w tk), if_pos nt]) (by unfold sp_titleP; rw [if_neg (fun w => nt w.2.2.1)])
    · have nt : ¬ tkB P (lkV P (trP P) (P 0)) (cN q) = true := fun w => by rw [cj] at w; rw [w] at c49; exact absurd c49 (by decide)
      refine ⟨trivial, ?_⟩
      exact fin0 _ cg1 C1 (by unfold sp_title; rw [if_neg (fun w => w qb), if_pos nt]) (by unfold sp_titleP; rw [if_neg (fun w => nt w.2.1)])
  · have qa : ¬ inI q 0 (P 4 - 1) := (fun z => bI_f c9 (by rw [← hO.q4.1]; exact z))
    refine ⟨trivial, ?_⟩
    exact fin0 _ cg hC (by unfold sp_title; rw [if_pos qa]) (by unfold sp_titleP; rw [if_neg (fun w => qa w.1)])
theorem fl_no {P : Nat → Int32} {R C n Q T U j s k : Nat} {fr : Int32} (hO : okP P R C n Q T U) (jQ : j < Q) (sS : s < pn P (126 + j)) (h : sbI P j s fr < 0 ∨ ¬ sbI P j s fr = ftI P j s (nI k)) : ¬ flB P j s k fr := by
  rintro ⟨w1, w2⟩
  have n20 := hO.n3.2
  obtain ⟨j12, s12, r0, m0, r0R, r08, er0, pr0, -⟩ := ok_fc hO.W hO.A jQ sS
  have hX := wkA_x (dy := P 0) hO.W r0R
  obtain ⟨nt, nt1, nt3, ent⟩ := id hX.1
  rw [← pr0] at ent
  have pnt := pn_of ent (by omega)
  have eft : ftI P j s (nI k) = nI (trN P (P 0) j s k) := by
    unfold ftI
    rw [iF_p ⟨nI_ge0 k (by omega), by rw [ent]; exact (nI_ltI (by omega) (by omega)).mpr (by omega)⟩, cN_of rfl (by omega)]
  have key : sbI P j s fr = nI (trN P (P 0) j s k) := by
    unfold sbI
    rcases w2 with y | y
    · obtain ⟨y1, y2, y3⟩ := of_decide_eq_true y
      rw [iF_p ⟨y1, y2⟩]; exact y3
    · obtain ⟨y1, y2⟩ := of_decide_eq_true y
      obtain ⟨i, ei, i1, i2⟩ := rg_of (lo := 100) (n := s) (by omega) y1.1 y1.2
      have nP : ¬ (inI fr 0 (P 3 - 1) ∧ P (94 + cN fr) = 0) := fun z => by
        obtain ⟨a, ea, -, al⟩ := ix_at hO.n3.1 (by omega) z.1
        rw [ei] at ea
        have := (nI_eq (by omega) (by omega)).mp ea
        omega
      rw [iF_n nP, iF_p ⟨y1.1, by rw [ei]; show nI i < nI 100 + nI s; rw [nI_add]; exact (nI_ltI (by omega) (by omega)).mpr (by omega)⟩, y2]
  have t7 := tr_lt (k := k) (dy := P 0) hO.W (pf_at hO.A jQ |>.2.2 |> fun ⟨st, a, b, c, h⟩ => (h s (by omega)).1) (by rw [pnt] at w1 ⊢; exact w1)
  rcases h with y | y
  · rw [key] at y; exact nI_pos (by omega) y
  · exact y (key.trans eft.symm)
theorem fl_yes {P : Nat → Int32} {R C n Q T U j s k nt : Nat} {fr : Int32} (hO : okP P R C n Q T U) (jQ : j < Q) (sS : s < pn P (126 + j)) (h1 : 0 ≤ sbI P j s fr) (h2 : sbI P j s fr = ftI P j s (nI k)) (k3 : k < 3) (ent : P (txX P (pn P (rwX j s)) (P 0)) = nI nt) (nt3 : nt ≤ 3) : flB P j s k fr := by
  have n20 := hO.n3.2
  obtain ⟨j12, s12, -⟩ := ok_fc hO.W hO.A jQ sS
  have pnt := pn_of ent (by omega)
  have hft : (0 ≤ nI k ∧ nI k < P (txX P (pn P (rwX j s)) (P 0))) := by
    refine Classical.byContradiction (fun w => ?_)
    unfold ftI at h2
    rw [iF_n w] at h2
    rw [h2] at h1; exact absurd h1 (by decide)
  have kl : k < nt := by have := hft.2; rw [ent] at this; exact (nI_ltI (by omega) (by omega)).mp this
  unfold ftI at h2
  rw [iF_p hft, cN_of rfl (by omega)] at h2
  refine ⟨by rw [pnt]; exact kl, ?_⟩
  unfold sbI at h1 h2
  by_cases q : inI fr 0 (P 3 - 1) ∧ P (94 + cN fr) = 0
  · rw [iF_p q] at h2
    exact Or.inl (decide_eq_true ⟨q.1, q.2, h2⟩)
  · rw [iF_n q] at h1 h2
    by_cases q2 : 100 ≤ fr ∧ fr < 100 + nI s
    · rw [iF_p q2] at h2
      have hin : inI fr 100 (100 + nI s - 1) := by
        refine ⟨q2.1, ?_⟩
        rw [show (100 : Int32) + nI s = nI (100 + s) from nI_add 100 s] at q2 ⊢
        exact ((lt_in (n := 100 + s) rfl (by omega)).mp ⟨Int32.le_trans (by decide) q2.1, q2.2⟩).2
      obtain ⟨i, ei, i1, i2⟩ := rg_of (lo := 100) (n := s) (by omega) hin.1 hin.2
      have a7 := sy_750 (dy := P 0) (s := cN fr - 100) hO.W hO.A jQ (by rw [cN_of ei (by omega)]; omega)
      have b7 := tr_lt (k := k) (dy := P 0) hO.W (pf_at hO.A jQ |>.2.2 |> fun ⟨st, a, b, c, h⟩ => (h s (by omega)).1) (by rw [pnt]; exact kl)
      exact Or.inr (decide_eq_true ⟨hin, (nI_eq (by omega) (by omega)).mp h2⟩)
    · rw [iF_n q2] at h1; exact absurd h1 (by decide)
theorem c_fill {cg : sg_T} {fn : Nat → Option Nat} {cx : cx_T} {P : Nat → Int32} {R C n Q T U d : Nat} (hd : 460 ≤ d) (hC : clR cg P) (hO : okP P R C n Q T U) (q fr : Int32) : am_Met mi_X11_fill d 0 0 [.ref 0, .int q, .int fr] (hc cg fn cx) (cX cx (sp_fill P q fr)) := by
  refine am_Met.of rfl (Nat.le_of_ble_eq_true rfl) ?_
  refine am_go ok_X11_fill [] 117 ?_
  have fin0 : ∀ rv cg1, clR cg1 P → (∀ v P', sp_fill P q fr v P' → v = rv ∧ P' = P) → cX cx (sp_fill P q fr) (some (.int rv)) (hc cg1 fn cx) := fun rv cg1 c1 h => ⟨rv, cg1, fn, cx, rfl, rfl, rfl, fun v P' hv => ⟨(h v P' hv).1, by rw [(h v P' hv).2]; exact c1⟩⟩
  have Q12 := hO.q4.2
  refine ⟨_, _, rfl, rfl, ?_⟩
  refine ⟨_, rfl, d - 1, 0, 0, _, by omega, Nat.le_of_ble_eq_true rfl, Nat.le_of_ble_eq_true rfl, Nat.le_of_ble_eq_true rfl, c_has (w := 4) (n := Q) (d - 1) q rfl (by omega) ((hC.1.c 4 (by omega)).trans hO.q4.1) (by have := hO.q4.2; omega), ?_⟩
  rintro _ _ ⟨rfl, rfl⟩
  refine ⟨Or.inl rfl, ?_⟩
  refine ⟨fun c9 => ?_, fun c9 => ?_⟩
  · have qb := (show inI q 0 (P 4 - 1) by rw [hO.q4.1]; exact bI_t c9)
    obtain ⟨j, ej, cj, jQ⟩ := ix_at hO.q4.1 (by omega) qb
    have hoL : hoS P j (pn P (126 + j)) < 2 ^ 31 := by
      obtain ⟨-, -, st, s12, est, pst, hr⟩ := pf_at hO.A jQ
      have := hoS_le (P := P) (q := j) (s := st) (fun i hi => by obtain ⟨-, t, -, t3, -, pt⟩ := hr i hi; omega)
      rw [pst]; omega
    obtain ⟨j12, -, st, s12, est, pst, hrw⟩ := pf_at hO.A jQ
    refine ⟨_, _, rfl, rfl, ?_⟩
    refine ⟨_, rfl, d - 1, 0, 0, _, by omega, Nat.le_of_ble_eq_true rfl, Nat.le_of_ble_eq_true rfl, Nat.le_of_ble_eq_true rfl, c_placeOfHole hC.1 (d := d - 1) (by omega) hO.A jQ ej (by decide), ?_⟩
    rintro _ _ ⟨v0, rfl, hv0, rfl⟩
    refine ⟨Or.inl rfl, ?_⟩
    refine ⟨fun c25 => ?_, fun c25 => ?_⟩
    · obtain ⟨hkd, s, k, hp, ev0⟩ : (pn P (114 + j) = 1 ∨ pn P (114 + j) = 4) ∧ ∃ s k, hoP P j (pn P (126 + j)) 0 s k ∧ v0 = nI (10 * s + k) := by
        rcases hv0 with ⟨y0, y⟩ | y
        · rcases y with y | ⟨-, e⟩
          · exact ⟨y0, y⟩
          · rw [e] at c25; exact absurd c25 (by decide)
        · rw [y.2] at c25; exact absurd c25 (by decide)
      have sS : s < pn P (126 + j) := hp.1
      obtain ⟨hrS, tm, tm1, tm3, etm, ptm⟩ := hrw s (by omega)
      have k3 : k < 3 := by have := hp.2.1; omega
      have e10 : v0 / 10 = nI s := by rw [ev0, show (10 : Int32) = nI 10 from rfl, pk_div (by omega) (by omega) (by omega)]; congr 1; omega
      have e11 : v0 - v0 / 10 * 10 = nI k := by rw [ev0, show (10 : Int32) = nI 10 from rfl, pk_rem (by omega) (by omega) (by omega)]; congr 1; omega
      have main : ∀ v P', sp_fill P q fr v P' → flR P j s k fr v P' := fun v P' hv => by
        rcases hv with z | ⟨-, z | ⟨s', k', hk', hp', hf⟩⟩
        · exact absurd qb z.1
        · have y := z.1
          rw [cj] at y
          rcases y with ⟨-, y⟩ | ⟨y, -⟩
          · rcases y with ⟨s', k', hp', e⟩ | ⟨hn, -⟩
            · obtain ⟨-, t, -, t3, -, pt⟩ := hrw s' (by have := hp'.1; omega)
              exact absurd e.symm (nI_m1 (by have := hp'.1; have := hp'.2.1; omega))
            · exact absurd hp (hn s k)
          · exact absurd hkd y
        · rw [cj] at hp' hf
          obtain ⟨e1, e2⟩ := ho_u hoL hp' hp
          rw [e1, e2] at hf
          exact hf
      obtain ⟨-, -, r0, m0, r0R, r08, er0, pr0, -⟩ := ok_fc hO.W hO.A jQ sS
      have hX := wkA_x (dy := P 0) hO.W r0R
      obtain ⟨nt, nt1, nt3, ent⟩ := id hX.1
      rw [← pr0] at ent
      refine ⟨by decide, ?_⟩
      refine ⟨by decide, ?_⟩
      refine ⟨_, _, rfl, rfl, ?_⟩
      refine ⟨_, rfl, d - 1, 0, 0, _, by omega, Nat.le_of_ble_eq_true rfl, Nat.le_of_ble_eq_true rfl, Nat.le_of_ble_eq_true rfl, c_saidBy hC.1 (d := d - 1) (by omega) hO.W hO.A hC.2.2.2 ej e10 jQ sS, ?_⟩
      rintro _ _ ⟨rfl, cg1, rfl, F1⟩
      refine ⟨Or.inl rfl, ?_⟩
      have C1 := hC.K hO.W F1.k
      refine ⟨fun c58 => ?_, fun c58 => ?_⟩
      · have nf : ¬ flB P j s k fr := fun w => fl_no hO jQ sS (Or.inl c58) w
        refine ⟨trivial, ?_⟩
        first
        | exact fin0 _ cg1 C1 (fun v P' hv => (main v P' hv).elim (fun z => z.2) (fun z => absurd z.1 nf))
        | exact fin0 _ cg2 C2 (fun v P' hv => (main v P' hv).elim (fun z => z.2) (fun z => absurd z.1 nf))
      · refine ⟨_, _, rfl, rfl, ?_⟩
        refine ⟨_, rfl, d - 1, 0, 0, _, by omega, Nat.le_of_ble_eq_true rfl, Nat.le_of_ble_eq_true rfl, Nat.le_of_ble_eq_true rfl, c_factOfTerm C1.1 (d := d - 1) (by omega) hO.W hO.A C1.2.2.2 ej e10 jQ sS, ?_⟩
        rintro _ _ ⟨rfl, cg2, rfl, F2⟩
        refine ⟨Or.inl rfl, ?_⟩
        have C2 := C1.K hO.W F2.k
        rw [e11]
        refine ⟨fun c75 => ?_, fun c75 => ?_⟩
        · have yf : flB P j s k fr := fl_yes hO jQ sS (i_nlt c58) c75 k3 ent nt3
          refine ⟨_, _, rfl, rfl, ?_⟩
          refine ⟨_, _, rfl, rfl, ?_⟩
          refine ⟨_, _, rfl, rfl, ?_⟩
          refine ⟨_, rfl, d - 1, 0, 0, _, by omega, Nat.le_of_ble_eq_true rfl, Nat.le_of_ble_eq_true rfl, Nat.le_of_ble_eq_true rfl, c_rowOf (d - 1) ej e10, ?_⟩
          rintro _ _ ⟨rfl, rfl⟩
          refine ⟨Or.inl rfl, ?_⟩
          refine ⟨_, _, (72 * j + 6 * s + (3 + k)), rfl, (by show nI _ + nI 3 + nI k = _; rw [nI_add, nI_add, Nat.add_assoc]), by omega, Nat.le_of_ble_eq_true rfl, ?_⟩
          rw [hc_a11]
          have eP : upd P (rwX j s + 3 + k) fr = upd P (138 + (72 * j + 6 * s + (3 + k))) fr := by congr 1; unfold rwX; omega
          have CP : clR (sg_u cg2 11 (72 * j + 6 * s + (3 + k)) fr) (upd P (rwX j s + 3 + k) fr) := by
            rw [eP]
            clear hC
            have hC := C2
            have EC : ∀ aa, ¬ (aa = 11) → sg_u cg2 11 (72 * j + 6 * s + (3 + k)) fr aa = cg2 aa := fun aa ha => by rw [sg_i (by omega)]
            have EP : ∀ jj, ¬ (jj = 138 + (72 * j + 6 * s + (3 + k))) → upd P (138 + (72 * j + 6 * s + (3 + k))) fr jj = P jj := fun jj hj => by rw [pk_un (by omega)]
            exact ⟨BR_g hO.W hC.1 (fun a h1 h2 => EC a (by omega)) (fun j hj => EP j (by omega)) (fun i hi => by rw [EC 2 (by omega), hC.1.c i hi]; exact (EP _ (by omega)).symm) (by rw [EC 2 (by omega), hC.1.c7]; exact (EP 8 (by omega)).symm) (fun i hi => by rw [EC 3 (by omega), hC.1.t i hi, EP _ (by omega)]) (fun i hi => by rw [EC 5 (by omega), hC.1.cr i hi]; exact (EP _ (by omega)).symm) (fun i hi => by rw [EC 6 (by omega), hC.1.cd i hi]; exact (EP _ (by omega)).symm) (fun i hi => by rw [EC 7 (by omega), hC.1.pf i hi]; exact (EP _ (by omega)).symm) (fun i hi => by rw [EC 8 (by omega), hC.1.pp i hi]; exact (EP _ (by omega)).symm) (by rw [EC 1 (by omega), hC.1.tp]; exact (tp_w hO.n3.1 hO.n3.2 (EP 3 (by omega)) (fun k hk => EP _ (by omega))).symm) (fun i hi => by rw [EC 9 (by omega), hC.1.k i hi]; exact (EP _ (by omega)).symm) (fun i hi => by rw [EC 10 (by omega), hC.1.s i hi]; exact (EP _ (by omega)).symm) (fun i hi => by
                rw [sg_ii, upd_s]
                exact upd_e hC.1.r i hi) (fun i hi => by rw [EC 12 (by omega), hC.1.tq i hi]; exact (EP _ (by omega)).symm) (fun i hi => by rw [EC 13 (by omega), hC.1.tf i hi]; exact (EP _ (by omega)).symm) (fun i hi => by rw [EC 14 (by omega), hC.1.td i hi]; exact (EP _ (by omega)).symm) (fun i hi => by rw [EC 15 (by omega), hC.1.az i hi]; exact (EP _ (by omega)).symm) (fun i hi => by rw [EC 16 (by omega), hC.1.ab i hi, EP _ (by omega)]) (fun i hi => by rw [EC 17 (by omega), hC.1.fo i hi]; exact (EP _ (by omega)).symm) (by rw [EC 1 (by omega), hC.1.hr]; exact (EP 9 (by omega)).symm), rI_fr hC.2.1 (EC 84 (by omega)) (EC 85 (by omega)) (EC 86 (by omega)) (EC 87 (by omega)), by rw [EC 89 (by omega)]; exact hC.2.2.1, by rw [EC 83 (by omega)]; exact hC.2.2.2⟩
          have hA' : pfA (upd P (rwX j s + 3 + k) fr) R Q := pfA_u hO.A j12 (by omega) k3
          refine ⟨_, _, rfl, rfl, ?_⟩
          refine ⟨_, rfl, d - 1, 0, 0, _, by omega, Nat.le_of_ble_eq_true rfl, Nat.le_of_ble_eq_true rfl, Nat.le_of_ble_eq_true rfl, c_holesOf CP.1 (d := d - 1) (by omega) hA' jQ ej, ?_⟩
          rintro _ _ ⟨rfl, rfl⟩
          refine ⟨Or.inl rfl, ?_⟩
          refine ⟨trivial, ?_⟩
          refine ⟨_, _, fn, cx, rfl, rfl, rfl, fun v P' hv => ?_⟩
          have hf := (main v P' hv).elim (fun z => absurd yf z.1) (fun z => z.2)
          obtain ⟨e1, e2⟩ := hf
          rw [e1] at e2 ⊢
          refine ⟨?_, CP⟩
          have hoL' : hoS (upd P (rwX j s + 3 + k) fr) j (pn (upd P (rwX j s + 3 + k) fr) (126 + j)) < 2 ^ 31 := by
            obtain ⟨-, -, st', s12', est', pst', hr'⟩ := pf_at hA' jQ
            have := hoS_le (P := upd P (rwX j s + 3 + k) fr) (q := j) (s := st') (fun i hi => by obtain ⟨-, t, -, t3, -, pt⟩ := hr' i hi; omega)
            rw [pst']; omega
          rcases e2 with ⟨w, y⟩ | ⟨w, y⟩
          · rw [if_pos w]
            rcases y with ⟨s', k', hp', -⟩ | ⟨-, y⟩
            · exact absurd (by decide) (ho_n hoL' hp')
            · rw [if_pos rfl] at y; exact y
          · rw [if_neg w]; rw [if_pos rfl] at y; exact y
        · have nf : ¬ flB P j s k fr := fun w => fl_no hO jQ sS (Or.inr c75) w
          refine ⟨trivial, ?_⟩
          first
          | exact fin0 _ cg1 C1 (fun v P' hv => (main v P' hv).elim (fun z => z.2) (fun z => absurd z.1 nf))
          | exact fin0 _ cg2 C2 (fun v P' hv => (main v P' hv).elim (fun z => z.2) (fun z => absurd z.1 nf))
    · have ns : ∀ v P', sp_fill P q fr v P' → v = -3 ∧ P' = P := fun v P' hv => by
        rcases hv with z | ⟨-, z | ⟨s, k, hk, hp, -⟩⟩
        · exact absurd qb z.1
        · exact z.2
        · rw [cj] at hk hp
          rcases hv0 with ⟨-, y⟩ | y
          · rcases y with ⟨s', k', hp', ev'⟩ | ⟨hn, -⟩
            · obtain ⟨-, t, -, t3, -, pt⟩ := hrw s' (by have := hp'.1; omega)
              rw [ev'] at c25
              exact absurd (nI_ge0 _ (by have := hp'.1; have := hp'.2.1; omega)) c25
            · exact absurd hp (hn s k)
          · exact absurd hk y.1
      refine ⟨trivial, ?_⟩
      exact fin0 _ cg hC ns
  · have qa : ¬ inI q 0 (P 4 - 1) := (fun z => bI_f c9 (by rw [← hO.q4.1]; exact z))
    refine ⟨trivial, ?_⟩
    exact fin0 _ cg hC (fun v P' hv => hv.elim (fun z => z.2) (fun z => absurd z.1 qa))
