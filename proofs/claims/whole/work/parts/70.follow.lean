/-! the class's calls, on: what follows, what stands, what falls -/
theorem ba_e {P : Nat → Int32} {R C n Q T U : Nat} (hO : okP P R C n Q T U) : baX P n (tpX P) = baP P (pn P 3) := by
  rw [pn_of hO.n3.1 (by have := hO.n3.2; omega)]
  exact funext fun f => propext (baX_P hO.n3.1 hO.n3.2)
theorem spO.sz {md : Bool} {S : sy_T} {ba : Nat → Prop} {cg : sg_T} (h : spO md S ba cg) {b : Nat → Bool} (hb : ∀ f, f < 750 → (b f = true ↔ rcP S ba f)) : cg 84 3 = nI (cnN b 750) := by
  obtain ⟨sz, g, c, hB, -, hr, -⟩ := h
  have e : cnN b 750 = cnN (inB g sz) 750 := cnN_cg 750 (fun f f7 => b_iff (by rw [inB_t, hr f f7]; exact hb f f7))
  rw [e, cn_inj (fun i hi => (hB.2.2.1 i hi).1) hB.2.2.2.1]
  exact hB.1
theorem c_follows {cg : sg_T} {fn : Nat → Option Nat} {cx : cx_T} {P : Nat → Int32} {R C n Q T U d : Nat} (hd : 460 ≤ d) (hC : clR cg P) (hO : okP P R C n Q T U) (f dy w : Int32) : am_Met mi_X11_follows d 0 0 [.ref 0, .int f, .int dy, .int w] (hc cg fn cx) (cX cx (fun v P' => sp_follows P f dy w v ∧ P' = P)) := by
  refine am_Met.of rfl (Nat.le_of_ble_eq_true rfl) ?_
  refine am_go ok_X11_follows [] 96 ?_
  have fin : ∀ rv cg1 fn1, clR cg1 P → (∀ v, sp_follows P f dy w v → v = rv) → cX cx (fun v P' => sp_follows P f dy w v ∧ P' = P) (some (.int rv)) (hc cg1 fn1 cx) := fun rv cg1 fn1 c1 h => ⟨rv, cg1, fn1, cx, rfl, rfl, rfl, fun v P' hv => ⟨h v hv.1, by rw [hv.2]; exact c1⟩⟩
  refine ⟨fun c1 => ?_, fun c1 => ?_⟩
  · have ev : ∀ v, sp_follows P f dy w v → v = -1 := fun v hv => by
      have q : ¬ inI w 0 2 := fun z => i_ltn c1 z.1
      rcases hv with z | z | z
      · exact z.2
      · exact absurd z.1 q
      · exact absurd z.1 q
    refine ⟨trivial, ?_⟩
    exact fin _ cg fn hC ev
  · refine ⟨fun c6 => ?_, fun c6 => ?_⟩
    · have qw : inI w 0 2 := ⟨i_nlt c1, c6⟩
      refine ⟨d - 1, 0, 0, _, by omega, Nat.le_of_ble_eq_true rfl, Nat.le_of_ble_eq_true rfl, Nat.le_of_ble_eq_true rfl, c_isFact (d - 1) f, ?_⟩
      rintro _ _ ⟨rfl, rfl⟩
      refine ⟨Or.inl rfl, ?_⟩
      refine ⟨fun c15 => ?_, fun c15 => ?_⟩
      · have nq : ¬ (inI f 0 749 ∧ inI dy 0 999) := fun z => bI_f c15 z.1
        refine ⟨trivial, ?_⟩
        refine fin _ cg fn hC (fun v hv => ?_)
        rcases hv with z | z | z
        · exact absurd qw z.1
        · exact z.2.2
        · exact absurd z.2.1 nq
      · have qf := bI_t c15
        refine ⟨d - 1, 0, 0, _, by omega, Nat.le_of_ble_eq_true rfl, Nat.le_of_ble_eq_true rfl, Nat.le_of_ble_eq_true rfl, c_isDay (d - 1) dy, ?_⟩
        rintro _ _ ⟨rfl, rfl⟩
        refine ⟨Or.inl rfl, ?_⟩
        refine ⟨fun c22 => ?_, fun c22 => ?_⟩
        · have qb : inI f 0 749 ∧ inI dy 0 999 := ⟨qf, bI_t c22⟩
          obtain ⟨j, ej, cj, jl⟩ := ix_c (m := 749) (by omega) qf
          have main : ∀ v, sp_follows P f dy w v → (w = 0 ∧ ∃ b : Bool, (b = true ↔ rcP (syP P dy) (baX P n (tpX P)) j) ∧ v = bI b) ∨ (¬ w = 0 ∧ ¬ rcP (syP P dy) (baX P n (tpX P)) j ∧ v = -5) ∨ (w = 1 ∧ rcP (syP P dy) (baX P n (tpX P)) j ∧ htIs (syP P dy) (baX P n (tpX P)) j v) ∨ (¬ w = 0 ∧ ¬ w = 1 ∧ rcP (syP P dy) (baX P n (tpX P)) j ∧ ∃ t, szIs (syP P dy) (baX P n (tpX P)) t ∧ v = nI (t j)) := fun v hv => by
            rcases hv with z | z | z
            · exact absurd qw z.1
            · exact absurd qb z.2.1
            · rw [ba_e hO, ← cj]; exact z.2.2
          refine ⟨_, _, rfl, rfl, ?_⟩
          refine ⟨_, _, rfl, rfl, ?_⟩
          refine ⟨_, _, rfl, rfl, ?_⟩
          rw [hC.1.tp]
          refine ⟨fun c42 => ?_, fun c42 => ?_⟩
          · have md0 : ∃ md : Bool, md = false ∧ (w = 2 ↔ md = true) ∧ (0 : Int32) = bI md := ⟨false, rfl, ⟨fun z => absurd z c42, fun z => absurd z (by decide)⟩, rfl⟩
            refine ⟨_, rfl, d - 1, 0, 0, _, by omega, Nat.le_of_ble_eq_true rfl, Nat.le_of_ble_eq_true rfl, Nat.le_of_ble_eq_true rfl, c_spread (md := false) hC.1 (d := d - 1) (by omega) hO.W hO.l hC.2.2.1 hC.2.1, ?_⟩
            rintro _ _ ⟨rfl, cg1, fn1, rfl, F1, w1, hS⟩
            refine ⟨Or.inl rfl, ?_⟩
            have C1 := hC.E hO.W F1 w1 hS.rI
            have hh := hS.has (show j < 750 by omega)
            refine ⟨fun c54 => ?_, fun c54 => ?_⟩
            · refine ⟨_, _, rfl, rfl, ?_⟩
              refine ⟨_, rfl, d - 1, 0, 0, _, by omega, Nat.le_of_ble_eq_true rfl, Nat.le_of_ble_eq_true rfl, Nat.le_of_ble_eq_true rfl, c_rHas (d - 1) ej (by omega), ?_⟩
              rintro _ _ ⟨rfl, rfl⟩
              refine ⟨Or.inl rfl, ?_⟩
              refine ⟨fun c82 => ?_, fun c82 => ?_⟩
              · have hn := bI_f c82
                have e9 : ∀ v, sp_follows P f dy w v → v = -5 := fun v hv => by
                  rcases main v hv with z | z | z | z
                  · exact absurd z.1 c54
                  · exact z.2.2
                  · exact absurd (hh.mpr z.2.1) hn
                  · exact absurd (hh.mpr z.2.2.1) hn
                refine ⟨trivial, ?_⟩
                exact fin _ cg1 fn1 C1 e9
              · have hn := bI_t c82
                have hrc := hh.mp hn
                have e9 : ∀ v, sp_follows P f dy w v → v = cg1 85 j := fun v hv => by
                  obtain ⟨sz, g, c, hB, -, hr, hF, hT⟩ := hS
                  rcases main v hv with z | z | z | z
                  · exact absurd z.1 c54
                  · exact absurd hrc z.2.1
                  · have hm : ¬ w = 2 := fun y => absurd (y.symm.trans z.1) (by decide)
                    have := hF (by first | rfl | exact absurd c42 hm) j (by omega)
                    exact htIs_u z.2.2 this
                  · obtain ⟨k, ek, -, kl⟩ := ix_c (m := 2) (by omega) qw
                    have w2 : w = 2 := by
                      rcases (show k = 0 ∨ k = 1 ∨ k = 2 by omega) with y | y | y
                      · exact absurd (by rw [ek, y]; rfl) z.1
                      · exact absurd (by rw [ek, y]; rfl) z.2.1
                      · rw [ek, y]; rfl
                    obtain ⟨t, ht, ev⟩ := z.2.2.2
                    obtain ⟨t', ht', et'⟩ := hT (by first | rfl | exact absurd w2 c42)
                    rw [ev, et' j (by omega) ((hr j (by omega)).mpr hrc), szIs_u ht ht' j (by omega)]
                refine ⟨_, _, rfl, rfl, ?_⟩
                refine ⟨_, _, rfl, rfl, ?_⟩
                refine ⟨_, _, j, rfl, ej, by omega, Nat.le_of_ble_eq_true rfl, ?_⟩
                refine ⟨trivial, ?_⟩
                exact fin _ cg1 fn1 C1 e9
            · refine ⟨_, _, rfl, rfl, ?_⟩
              refine ⟨_, rfl, d - 1, 0, 0, _, by omega, Nat.le_of_ble_eq_true rfl, Nat.le_of_ble_eq_true rfl, Nat.le_of_ble_eq_true rfl, c_rHas (d - 1) ej (by omega), ?_⟩
              rintro _ _ ⟨rfl, rfl⟩
              refine ⟨Or.inl rfl, ?_⟩
              refine ⟨fun c65 => ?_, fun c65 => ?_⟩
              · have hn := bI_f c65
                have e9 : ∀ v, sp_follows P f dy w v → v = 0 := fun v hv => by
                  rcases main v hv with ⟨-, b, hb, ev⟩ | z | z | z
                  · have : b = false := by
                      cases b with
                      | false => rfl
                      | true => exact absurd (hh.mpr (hb.mp rfl)) hn
                    rw [ev, this]; rfl
                  · exact absurd c54 z.1
                  · exact absurd (c54.symm.trans z.1) (by decide)
                  · exact absurd c54 z.1
                refine ⟨trivial, ?_⟩
                exact fin _ cg1 fn1 C1 e9
              · have hn := bI_t c65
                have e9 : ∀ v, sp_follows P f dy w v → v = 1 := fun v hv => by
                  rcases main v hv with ⟨-, b, hb, ev⟩ | z | z | z
                  · rw [ev, hb.mpr (hh.mp hn)]; rfl
                  · exact absurd c54 z.1
                  · exact absurd (c54.symm.trans z.1) (by decide)
                  · exact absurd c54 z.1
                refine ⟨trivial, ?_⟩
                exact fin _ cg1 fn1 C1 e9
          · have md0 : ∃ md : Bool, md = true ∧ (w = 2 ↔ md = true) ∧ (1 : Int32) = bI md := ⟨true, rfl, ⟨fun _ => rfl, fun _ => c42⟩, rfl⟩
            refine ⟨_, rfl, d - 1, 0, 0, _, by omega, Nat.le_of_ble_eq_true rfl, Nat.le_of_ble_eq_true rfl, Nat.le_of_ble_eq_true rfl, c_spread (md := true) hC.1 (d := d - 1) (by omega) hO.W hO.l hC.2.2.1 hC.2.1, ?_⟩
            rintro _ _ ⟨rfl, cg1, fn1, rfl, F1, w1, hS⟩
            refine ⟨Or.inl rfl, ?_⟩
            have C1 := hC.E hO.W F1 w1 hS.rI
            have hh := hS.has (show j < 750 by omega)
            refine ⟨fun c54 => ?_, fun c54 => ?_⟩
            · refine ⟨_, _, rfl, rfl, ?_⟩
              refine ⟨_, rfl, d - 1, 0, 0, _, by omega, Nat.le_of_ble_eq_true rfl, Nat.le_of_ble_eq_true rfl, Nat.le_of_ble_eq_true rfl, c_rHas (d - 1) ej (by omega), ?_⟩
              rintro _ _ ⟨rfl, rfl⟩
              refine ⟨Or.inl rfl, ?_⟩
              refine ⟨fun c82 => ?_, fun c82 => ?_⟩
              · have hn := bI_f c82
                have e9 : ∀ v, sp_follows P f dy w v → v = -5 := fun v hv => by
                  rcases main v hv with z | z | z | z
                  · exact absurd z.1 c54
                  · exact z.2.2
                  · exact absurd (hh.mpr z.2.1) hn
                  · exact absurd (hh.mpr z.2.2.1) hn
                refine ⟨trivial, ?_⟩
                exact fin _ cg1 fn1 C1 e9
              · have hn := bI_t c82
                have hrc := hh.mp hn
                have e9 : ∀ v, sp_follows P f dy w v → v = cg1 85 j := fun v hv => by
                  obtain ⟨sz, g, c, hB, -, hr, hF, hT⟩ := hS
                  rcases main v hv with z | z | z | z
                  · exact absurd z.1 c54
                  · exact absurd hrc z.2.1
                  · have hm : ¬ w = 2 := fun y => absurd (y.symm.trans z.1) (by decide)
                    have := hF (by first | rfl | exact absurd c42 hm) j (by omega)
                    exact htIs_u z.2.2 this
                  · obtain ⟨k, ek, -, kl⟩ := ix_c (m := 2) (by omega) qw
                    have w2 : w = 2 := by
                      rcases (show k = 0 ∨ k = 1 ∨ k = 2 by omega) with y | y | y
                      · exact absurd (by rw [ek, y]; rfl) z.1
                      · exact absurd (by rw [ek, y]; rfl) z.2.1
                      · rw [ek, y]; rfl
                    obtain ⟨t, ht, ev⟩ := z.2.2.2
                    obtain ⟨t', ht', et'⟩ := hT (by first | rfl | exact absurd w2 c42)
                    rw [ev, et' j (by omega) ((hr j (by omega)).mpr hrc), szIs_u ht ht' j (by omega)]
                refine ⟨_, _, rfl, rfl, ?_⟩
                refine ⟨_, _, rfl, rfl, ?_⟩
                refine ⟨_, _, j, rfl, ej, by omega, Nat.le_of_ble_eq_true rfl, ?_⟩
                refine ⟨trivial, ?_⟩
                exact fin _ cg1 fn1 C1 e9
            · refine ⟨_, _, rfl, rfl, ?_⟩
              refine ⟨_, rfl, d - 1, 0, 0, _, by omega, Nat.le_of_ble_eq_true rfl, Nat.le_of_ble_eq_true rfl, Nat.le_of_ble_eq_true rfl, c_rHas (d - 1) ej (by omega), ?_⟩
              rintro _ _ ⟨rfl, rfl⟩
              refine ⟨Or.inl rfl, ?_⟩
              refine ⟨fun c65 => ?_, fun c65 => ?_⟩
              · have hn := bI_f c65
                have e9 : ∀ v, sp_follows P f dy w v → v = 0 := fun v hv => by
                  rcases main v hv with ⟨-, b, hb, ev⟩ | z | z | z
                  · have : b = false := by
                      cases b with
                      | false => rfl
                      | true => exact absurd (hh.mpr (hb.mp rfl)) hn
                    rw [ev, this]; rfl
                  · exact absurd c54 z.1
                  · exact absurd (c54.symm.trans z.1) (by decide)
                  · exact absurd c54 z.1
                refine ⟨trivial, ?_⟩
                exact fin _ cg1 fn1 C1 e9
              · have hn := bI_t c65
                have e9 : ∀ v, sp_follows P f dy w v → v = 1 := fun v hv => by
                  rcases main v hv with ⟨-, b, hb, ev⟩ | z | z | z
                  · rw [ev, hb.mpr (hh.mp hn)]; rfl
                  · exact absurd c54 z.1
                  · exact absurd (c54.symm.trans z.1) (by decide)
                  · exact absurd c54 z.1
                refine ⟨trivial, ?_⟩
                exact fin _ cg1 fn1 C1 e9
        · have nq : ¬ (inI f 0 749 ∧ inI dy 0 999) := fun z => bI_f c22 z.2
          refine ⟨trivial, ?_⟩
          refine fin _ cg fn hC (fun v hv => ?_)
          rcases hv with z | z | z
          · exact absurd qw z.1
          · exact z.2.2
          · exact absurd z.2.1 nq
    · have ev : ∀ v, sp_follows P f dy w v → v = -1 := fun v hv => by
        have q : ¬ inI w 0 2 := fun z => c6 z.2
        rcases hv with z | z | z
        · exact z.2
        · exact absurd z.1 q
        · exact absurd z.1 q
      refine ⟨trivial, ?_⟩
      exact fin _ cg fn hC ev
theorem c_many {cg : sg_T} {fn : Nat → Option Nat} {cx : cx_T} {P : Nat → Int32} {R C n Q T U d : Nat} (hd : 460 ≤ d) (hC : clR cg P) (hO : okP P R C n Q T U) (dy : Int32) : am_Met mi_X11_many d 0 0 [.ref 0, .int dy] (hc cg fn cx) (cX cx (fun v P' => sp_many P dy v ∧ P' = P)) := by
  refine am_Met.of rfl (Nat.le_of_ble_eq_true rfl) ?_
  refine am_go ok_X11_many [] 74 ?_
  have fin : ∀ rv cg1 fn1, clR cg1 P → (∀ v, sp_many P dy v → v = rv) → cX cx (fun v P' => sp_many P dy v ∧ P' = P) (some (.int rv)) (hc cg1 fn1 cx) := fun rv cg1 fn1 c1 h => ⟨rv, cg1, fn1, cx, rfl, rfl, rfl, fun v P' hv => ⟨h v hv.1, by rw [hv.2]; exact c1⟩⟩
  refine ⟨d - 1, 0, 0, _, by omega, Nat.le_of_ble_eq_true rfl, Nat.le_of_ble_eq_true rfl, Nat.le_of_ble_eq_true rfl, c_isDay (d - 1) dy, ?_⟩
  rintro _ _ ⟨rfl, rfl⟩
  refine ⟨Or.inl rfl, ?_⟩
  refine ⟨fun c4 => ?_, fun c4 => ?_⟩
  · have qb := bI_t c4
    refine ⟨_, _, rfl, rfl, ?_⟩
    refine ⟨_, _, rfl, rfl, ?_⟩
    refine ⟨_, _, rfl, rfl, ?_⟩
    rw [hC.1.tp]
    refine ⟨_, rfl, d - 1, 0, 0, _, by omega, Nat.le_of_ble_eq_true rfl, Nat.le_of_ble_eq_true rfl, Nat.le_of_ble_eq_true rfl, c_spread (md := false) hC.1 (d := d - 1) (by omega) hO.W hO.l hC.2.2.1 hC.2.1, ?_⟩
    rintro _ _ ⟨rfl, cg1, fn1, rfl, F1, w1, hS⟩
    refine ⟨Or.inl rfl, ?_⟩
    have C1 := hC.E hO.W F1 w1 hS.rI
    refine ⟨_, _, rfl, rfl, ?_⟩
    refine ⟨_, _, rfl, rfl, ?_⟩
    refine ⟨trivial, ?_⟩
    refine fin _ cg1 fn1 C1 (fun v hv => ?_)
    rcases hv with z | ⟨-, b, hb, ev⟩
    · exact absurd qb z.1
    · rw [ba_e hO] at hS
      rw [ev, hS.sz hb]
  · have qa := bI_f c4
    refine ⟨trivial, ?_⟩
    refine fin _ cg fn hC (fun v hv => ?_)
    exact hv.elim (fun z => z.2) (fun z => absurd z.1 qa)
theorem c_followsToday {cg : sg_T} {fn : Nat → Option Nat} {cx : cx_T} {P : Nat → Int32} {R C n Q T U d j : Nat} (hd : 400 ≤ d) (hC : clR cg P) (hO : okP P R C n Q T U) {f x : Int32} (ej : f = nI j) (j7 : j < 750) : am_Met mi_X11_followsToday d 0 0 [.ref 0, .int f, .int x] (hc cg fn cx) (fun r' h' => ∃ b cg' fn', r' = some (.int (bI b)) ∧ h' = hc cg' fn' cx ∧ clR cg' P ∧ (b = true ↔ rcP (syP P (P 0)) (baX P n x) j)) := by
  refine am_Met.of rfl (Nat.le_of_ble_eq_true rfl) ?_
  refine am_go ok_X11_followsToday [] 74 ?_
  refine ⟨_, _, rfl, rfl, ?_⟩
  refine ⟨_, _, rfl, rfl, ?_⟩
  refine ⟨_, _, rfl, rfl, ?_⟩
  refine ⟨_, _, 0, rfl, rfl, Nat.le_of_ble_eq_true rfl, Nat.le_of_ble_eq_true rfl, ?_⟩
  rw [hC.1.c 0 (by omega)]
  refine ⟨_, rfl, d - 1, 0, 0, _, by omega, Nat.le_of_ble_eq_true rfl, Nat.le_of_ble_eq_true rfl, Nat.le_of_ble_eq_true rfl, c_spread (md := false) hC.1 (d := d - 1) (by omega) hO.W hO.l hC.2.2.1 hC.2.1, ?_⟩
  rintro _ _ ⟨rfl, cg1, fn1, rfl, F1, w1, hS⟩
  refine ⟨Or.inl rfl, ?_⟩
  have C1 := hC.E hO.W F1 w1 hS.rI
  refine ⟨_, _, rfl, rfl, ?_⟩
  refine ⟨_, rfl, d - 1, 0, 0, _, by omega, Nat.le_of_ble_eq_true rfl, Nat.le_of_ble_eq_true rfl, Nat.le_of_ble_eq_true rfl, c_rHas (d - 1) ej j7, ?_⟩
  rintro _ _ ⟨rfl, rfl⟩
  refine ⟨Or.inl rfl, ?_⟩
  refine ⟨bI_nar _, ?_⟩
  exact ⟨decide (0 ≤ cg1 85 j), cg1, fn1, rfl, rfl, C1, by rw [decide_eq_true_iff]; exact hS.has j7⟩
theorem c_standsByProof {cg : sg_T} {fn : Nat → Option Nat} {cx : cx_T} {P : Nat → Int32} {R C n Q T U d t : Nat} (hd : 400 ≤ d) (hC : clR cg P) (hO : okP P R C n Q T U) {vt x : Int32} (et : vt = nI t) (tT : t < T) : am_Met mi_X11_standsByProof d 0 0 [.ref 0, .int vt, .int x] (hc cg fn cx) (fun r' h' => r' = some (.int (bI (tkD P (bq x) t))) ∧ ∃ cg', h' = hc cg' fn cx ∧ frK cg cg') := by
  refine am_Met.of rfl (Nat.le_of_ble_eq_true rfl) ?_
  refine am_go ok_X11_standsByProof [] 81 ?_
  have T10 := hO.t5.2
  obtain ⟨t10, ⟨j, jQ, ej, pj⟩, -⟩ := tt_t hO.tt tT
  have Q12 := hO.q4.2
  refine ⟨_, _, rfl, rfl, ?_⟩
  refine ⟨_, _, rfl, rfl, ?_⟩
  refine ⟨_, _, t, rfl, et, by omega, Nat.le_of_ble_eq_true rfl, ?_⟩
  rw [hC.1.tq t (by omega), ej]
  refine ⟨_, _, rfl, rfl, ?_⟩
  refine ⟨_, _, rfl, rfl, ?_⟩
  refine ⟨_, _, rfl, rfl, ?_⟩
  refine ⟨_, _, t, rfl, et, by omega, Nat.le_of_ble_eq_true rfl, ?_⟩
  rw [hC.1.td t (by omega)]
  refine ⟨_, rfl, d - 1, 0, 0, _, by omega, Nat.le_of_ble_eq_true rfl, Nat.le_of_ble_eq_true rfl, Nat.le_of_ble_eq_true rfl, c_weigh hC.1 (d := d - 1) (by omega) hO.W hO.A hC.2.2.2 rfl jQ (dy := P (1012 + t)) (tr := bq x) (fun _ _ => rfl), ?_⟩
  rintro _ _ ⟨rfl, cg1, rfl, F1, J1⟩
  refine ⟨Or.inl rfl, ?_⟩
  refine ⟨_, _, rfl, rfl, ?_⟩
  refine ⟨_, _, rfl, rfl, ?_⟩
  refine ⟨_, _, j, rfl, rfl, by omega, Nat.le_of_ble_eq_true rfl, ?_⟩
  rw [(J1.2 j (by omega)).1]
  refine ⟨bI_nar _, ?_⟩
  exact ⟨by unfold tkD; rw [pj], cg1, rfl, F1⟩
theorem c_stand {cg : sg_T} {fn : Nat → Option Nat} {cx : cx_T} {P : Nat → Int32} {R C n Q T U d : Nat} (hd : 460 ≤ d) (hC : clR cg P) (hO : okP P R C n Q T U) (t dy : Int32) : am_Met mi_X11_stand d 0 0 [.ref 0, .int t, .int dy] (hc cg fn cx) (cX cx (fun v P' => sp_stand P t dy v ∧ P' = P)) := by
  refine am_Met.of rfl (Nat.le_of_ble_eq_true rfl) ?_
  refine am_go ok_X11_stand [] 102 ?_
  have fin : ∀ rv cg1 fn1, clR cg1 P → (∀ v, sp_stand P t dy v → v = rv) → cX cx (fun v P' => sp_stand P t dy v ∧ P' = P) (some (.int rv)) (hc cg1 fn1 cx) := fun rv cg1 fn1 c1 h => ⟨rv, cg1, fn1, cx, rfl, rfl, rfl, fun v P' hv => ⟨h v hv.1, by rw [hv.2]; exact c1⟩⟩
  refine ⟨_, _, rfl, rfl, ?_⟩
  refine ⟨_, rfl, d - 1, 0, 0, _, by omega, Nat.le_of_ble_eq_true rfl, Nat.le_of_ble_eq_true rfl, Nat.le_of_ble_eq_true rfl, c_has (w := 5) (n := T) (d - 1) t rfl (by omega) ((hC.1.c 5 (by omega)).trans hO.t5.1) (by have := hO.t5.2; omega), ?_⟩
  rintro _ _ ⟨rfl, rfl⟩
  refine ⟨Or.inl rfl, ?_⟩
  refine ⟨fun c9 => ?_, fun c9 => ?_⟩
  · have qb := (show inI t 0 (P 5 - 1) by rw [hO.t5.1]; exact bI_t c9)
    have T10 := hO.t5.2
    obtain ⟨i, ei, ci, iT⟩ := ix_at hO.t5.1 (by omega) qb
    obtain ⟨i10, -, ⟨y, y1, ey⟩, f, f7, ef, pf⟩ := tt_t hO.tt iT
    refine ⟨d - 1, 0, 0, _, by omega, Nat.le_of_ble_eq_true rfl, Nat.le_of_ble_eq_true rfl, Nat.le_of_ble_eq_true rfl, c_isDay (d - 1) dy, ?_⟩
    rintro _ _ ⟨rfl, rfl⟩
    refine ⟨Or.inl rfl, ?_⟩
    refine ⟨fun c18 => ?_, fun c18 => ?_⟩
    · have nq : ¬ inI dy (P (1012 + cN t)) 999 := fun z => bI_f c18 ⟨Int32.le_trans (by rw [ci, ey]; exact nI_ge0 y (by omega)) z.1, z.2⟩
      refine ⟨trivial, ?_⟩
      refine fin _ cg fn hC (fun v hv => ?_)
      rcases hv with z | z | z
      · exact absurd qb z.1
      · exact z.2.2
      · exact absurd z.2.1 nq
    · refine ⟨_, _, rfl, rfl, ?_⟩
      refine ⟨_, _, rfl, rfl, ?_⟩
      refine ⟨_, _, i, rfl, ei, by omega, Nat.le_of_ble_eq_true rfl, ?_⟩
      rw [hC.1.td i (by omega)]
      refine ⟨fun c31 => ?_, fun c31 => ?_⟩
      · have qd : inI dy (P (1012 + cN t)) 999 := ⟨by rw [ci]; exact c31, (bI_t c18).2⟩
        have et : tkD P (bq (tpX P)) i = tkD P (trP P) i := tkD_F (agF_r P) hO.W hO.A hO.tt iT (fun k hk => bq_tp hO.n3.1 hO.n3.2 hk)
        have main : ∀ v, sp_stand P t dy v → ∃ b : Bool, (b = true ↔ rcP (syP P dy) (baX P n (tpX P)) f) ∧ v = saV (tkD P (bq (tpX P)) i) b := fun v hv => by
          rcases hv with z | z | z
          · exact absurd qb z.1
          · exact absurd qd z.2.1
          · obtain ⟨b, hb, ev⟩ := z.2.2
            rw [ci] at hb ev
            rw [pf] at hb
            rw [ba_e hO, et]; exact ⟨b, hb, ev⟩
        refine ⟨_, _, rfl, rfl, ?_⟩
        refine ⟨_, _, rfl, rfl, ?_⟩
        rw [hC.1.tp]
        refine ⟨_, rfl, d - 1, 0, 0, _, by omega, Nat.le_of_ble_eq_true rfl, Nat.le_of_ble_eq_true rfl, Nat.le_of_ble_eq_true rfl, c_standsByProof (d := d - 1) (by omega) hC hO ei iT, ?_⟩
        rintro _ _ ⟨rfl, cg1, rfl, F1⟩
        refine ⟨Or.inl rfl, ?_⟩
        have C1 := hC.K hO.W F1
        refine ⟨fun c49 => ?_, fun c49 => ?_⟩
        · have ek := bI_0.mp c49
          refine ⟨_, _, rfl, rfl, ?_⟩
          refine ⟨_, _, rfl, rfl, ?_⟩
          refine ⟨_, _, rfl, rfl, ?_⟩
          rw [C1.1.tp]
          refine ⟨_, rfl, d - 1, 0, 0, _, by omega, Nat.le_of_ble_eq_true rfl, Nat.le_of_ble_eq_true rfl, Nat.le_of_ble_eq_true rfl, c_spread (md := false) C1.1 (d := d - 1) (by omega) hO.W hO.l C1.2.2.1 C1.2.1, ?_⟩
          rintro _ _ ⟨rfl, cg2, fn2, rfl, F2, w2, hS⟩
          refine ⟨Or.inl rfl, ?_⟩
          have C2 := C1.E hO.W F2 w2 hS.rI
          have hh := hS.has f7
          refine ⟨_, _, rfl, rfl, ?_⟩
          refine ⟨_, _, rfl, rfl, ?_⟩
          refine ⟨_, _, rfl, rfl, ?_⟩
          refine ⟨_, _, i, rfl, ei, by omega, Nat.le_of_ble_eq_true rfl, ?_⟩
          rw [C2.1.tf i (by omega), ef]
          refine ⟨_, rfl, d - 1, 0, 0, _, by omega, Nat.le_of_ble_eq_true rfl, Nat.le_of_ble_eq_true rfl, Nat.le_of_ble_eq_true rfl, c_rHas (d - 1) rfl f7, ?_⟩
          rintro _ _ ⟨rfl, rfl⟩
          refine ⟨Or.inl rfl, ?_⟩
          refine ⟨fun c86 => ?_, fun c86 => ?_⟩
          · have hn := bI_f c86
            have e9 : ∀ v, sp_stand P t dy v → v = 0 := fun v hv => by
              obtain ⟨b, hb, ev⟩ := main v hv
              have : b = false := by
                cases b with
                | false => rfl
                | true => exact absurd (hh.mpr (hb.mp rfl)) hn
              rw [ev, ek, this]; rfl
            refine ⟨trivial, ?_⟩
            exact fin _ cg2 fn2 C2 e9
          · have hn := bI_t c86
            have e9 : ∀ v, sp_stand P t dy v → v = 2 := fun v hv => by
              obtain ⟨b, hb, ev⟩ := main v hv
              rw [ev, ek, hb.mpr (hh.mp hn)]; rfl
            refine ⟨trivial, ?_⟩
            exact fin _ cg2 fn2 C2 e9
        · have ek : tkD P (bq (tpX P)) i = true := by
            cases e : tkD P (bq (tpX P)) i with
            | true => rfl
            | false => rw [e] at c49; exact absurd rfl c49
          refine ⟨trivial, ?_⟩
          refine fin _ cg1 fn C1 (fun v hv => ?_)
          obtain ⟨b, -, ev⟩ := main v hv
          rw [ev, ek]; rfl
      · have nq : ¬ inI dy (P (1012 + cN t)) 999 := fun z => c31 (by rw [ci] at z; exact z.1)
        refine ⟨trivial, ?_⟩
        refine fin _ cg fn hC (fun v hv => ?_)
        rcases hv with z | z | z
        · exact absurd qb z.1
        · exact z.2.2
        · exact absurd z.2.1 nq
  · have qa : ¬ inI t 0 (P 5 - 1) := (fun z => bI_f c9 (by rw [← hO.t5.1]; exact z))
    refine ⟨trivial, ?_⟩
    refine fin _ cg fn hC (fun v hv => ?_)
    rcases hv with z | z | z
    · exact z.2
    · exact absurd z.1 qa
    · exact absurd z.1 qa
theorem c_st_l {cg0 : sg_T} {fn : Nat → Option Nat} {cx : cx_T} {P : Nat → Int32} {R C n Q T U d kc ks : Nat} (hd : 401 ≤ d) (hC : clR cg0 P) (hO : okP P R C n Q T U) {x : Int32} {g : Nat → Bool} (hS : spO false (syP P (P 0)) (baX P n x) cg0) (hg : ∀ t, t < T → (g t = true ↔ sdX P x (P 0) t)) : ∀ (u k : Nat) (z w : Int32) (cg : sg_T), z = nI k → w = orB g k → frK cg0 cg → k ≤ T → T < k + u → am_W mi_X11_standingToday d (fun r' h' => ∃ g cg' fn', r' = some (.int (orB g T)) ∧ h' = hc cg' fn' cx ∧ clR cg' P ∧ ∀ t, t < T → (g t = true ↔ sdX P x (P 0) t)) kc ks 22 [some (.ref 0), some (.int x), some (.int w), some (.int z)] [] (hc cg fn cx) := by
  intro u
  induction u with
  | zero => intro k z w cg hz hw hF h1 h2; exact absurd h2 (by omega)
  | succ u ih =>
    intro k z w cg hz hw hF h1 h2
    refine am_go ok_X11_standingToday [22] 89 ?_
    have T10 := hO.t5.2
    have Ck := hC.K hO.W hF
    have p3 : pn P 3 = n := pn_of hO.n3.1 (by have := hO.n3.2; omega)
    refine ⟨_, _, rfl, rfl, ?_⟩
    refine ⟨_, _, rfl, rfl, ?_⟩
    refine ⟨_, _, 5, rfl, rfl, Nat.le_of_ble_eq_true rfl, Nat.le_of_ble_eq_true rfl, ?_⟩
    rw [Ck.1.c 5 (by omega), hO.t5.1]
    refine ⟨fun c32 => ?_, fun c32 => ?_⟩
    · rw [hz] at c32
      have k1 : k = T := by have := (nI_leI (by omega) (by omega)).mp c32; omega
      subst k1
      refine ⟨trivial, ?_⟩
      exact ⟨g, cg, fn, by rw [hw], rfl, Ck, hg⟩
    · have k1 : k < T := by
        rcases Nat.lt_or_ge k T with q1 | q1
        · exact q1
        · exact absurd (by rw [hz]; exact (nI_leI (by omega) (by omega)).mpr q1) c32
      obtain ⟨k10, -, -, f, f7, ef, pf⟩ := tt_t hO.tt k1
      have hh := hS.has f7
      rw [← hF.1 85 (by omega)] at hh
      have es := orB_s g k
      have sd : g k = true ↔ tkD P (bq x) k = true ∨ rcP (syP P (P 0)) (baX P n x) f := by
        have := hg k k1; unfold sdX at this; rw [pf, p3] at this; exact this
      refine ⟨_, _, rfl, rfl, ?_⟩
      refine ⟨_, _, rfl, rfl, ?_⟩
      refine ⟨_, _, rfl, rfl, ?_⟩
      refine ⟨_, _, k, rfl, hz, by omega, Nat.le_of_ble_eq_true rfl, ?_⟩
      rw [Ck.1.tf k (by omega), ef]
      refine ⟨_, rfl, d - 1, 0, 0, _, by omega, Nat.le_of_ble_eq_true rfl, Nat.le_of_ble_eq_true rfl, Nat.le_of_ble_eq_true rfl, c_rHas (d - 1) rfl f7, ?_⟩
      rintro _ _ ⟨rfl, rfl⟩
      refine ⟨Or.inl rfl, ?_⟩
      refine ⟨fun c51 => ?_, fun c51 => ?_⟩
      · have gt : g k = true := sd.mpr (Or.inr (hh.mp (bI_t c51)))
        have eo : w ||| 1 <<< (z &&& 31) = orB g (k + 1) := by rw [es, if_pos gt, hw, hz]
        have NX := fun z' w' e1 e2 => ih (k + 1) z' w' cg e1 e2 hF (by omega) (by omega)
        exact NX _ _ (by rw [hz, nI_1]) eo
      · refine ⟨_, rfl, d - 1, 0, 0, _, by omega, Nat.le_of_ble_eq_true rfl, Nat.le_of_ble_eq_true rfl, Nat.le_of_ble_eq_true rfl, c_standsByProof (d := d - 1) (x := x) (by omega) Ck hO hz k1, ?_⟩
        rintro _ _ ⟨rfl, cg1, rfl, F1⟩
        refine ⟨Or.inl rfl, ?_⟩
        refine ⟨fun c60 => ?_, fun c60 => ?_⟩
        · have gf : g k = false := by
            cases e : g k with
            | false => rfl
            | true =>
              rcases sd.mp e with y | y
              · exact absurd ((bI_0.mp c60).symm.trans y) (by decide)
              · exact absurd (hh.mpr y) (bI_f c51)
          have eo : w = orB g (k + 1) := by rw [es, if_neg (by rw [gf]; decide), or_0, hw]
          have NX := fun z' w' e1 e2 => ih (k + 1) z' w' cg1 e1 e2 (hF.tr F1) (by omega) (by omega)
          exact NX _ _ (by rw [hz, nI_1]) eo
        · have gt : g k = true := sd.mpr (Or.inl (by
            cases e : tkD P (bq x) k with
            | true => rfl
            | false => rw [e] at c60; exact absurd rfl c60))
          have eo : w ||| 1 <<< (z &&& 31) = orB g (k + 1) := by rw [es, if_pos gt, hw, hz]
          have NX := fun z' w' e1 e2 => ih (k + 1) z' w' cg1 e1 e2 (hF.tr F1) (by omega) (by omega)
          exact NX _ _ (by rw [hz, nI_1]) eo
theorem c_standingToday {cg : sg_T} {fn : Nat → Option Nat} {cx : cx_T} {P : Nat → Int32} {R C n Q T U d : Nat} (hd : 402 ≤ d) (hC : clR cg P) (hO : okP P R C n Q T U) (x : Int32) : am_Met mi_X11_standingToday d 0 0 [.ref 0, .int x] (hc cg fn cx) (fun r' h' => ∃ g cg' fn', r' = some (.int (orB g T)) ∧ h' = hc cg' fn' cx ∧ clR cg' P ∧ ∀ t, t < T → (g t = true ↔ sdX P x (P 0) t)) := by
  refine am_Met.of rfl (Nat.le_of_ble_eq_true rfl) ?_
  refine am_go ok_X11_standingToday [22] 74 ?_
  refine ⟨_, _, rfl, rfl, ?_⟩
  refine ⟨_, _, rfl, rfl, ?_⟩
  refine ⟨_, _, rfl, rfl, ?_⟩
  refine ⟨_, _, 0, rfl, rfl, Nat.le_of_ble_eq_true rfl, Nat.le_of_ble_eq_true rfl, ?_⟩
  rw [hC.1.c 0 (by omega)]
  refine ⟨_, rfl, d - 1, 0, 0, _, by omega, Nat.le_of_ble_eq_true rfl, Nat.le_of_ble_eq_true rfl, Nat.le_of_ble_eq_true rfl, c_spread (md := false) hC.1 (d := d - 1) (by omega) hO.W hO.l hC.2.2.1 hC.2.1, ?_⟩
  rintro _ _ ⟨rfl, cg1, fn1, rfl, F1, w1, hS⟩
  refine ⟨Or.inl rfl, ?_⟩
  have C1 := hC.E hO.W F1 w1 hS.rI
  obtain ⟨g, hg⟩ := fo_ex (p := fun t => sdX P x (P 0) t)
  exact c_st_l (by omega) C1 hO hS (fun t _ => hg t) (T + 1) 0 0 0 cg1 rfl rfl frK.rf (by omega) (by omega)
theorem c_fall {cg : sg_T} {fn : Nat → Option Nat} {cx : cx_T} {P : Nat → Int32} {R C n Q T U d : Nat} (hd : 460 ≤ d) (hC : clR cg P) (hO : okP P R C n Q T U) (k : Int32) : am_Met mi_X11_fall d 0 0 [.ref 0, .int k] (hc cg fn cx) (cX cx (fun v P' => sp_fall P k v ∧ P' = P)) := by
  refine am_Met.of rfl (Nat.le_of_ble_eq_true rfl) ?_
  refine am_go ok_X11_fall [] 90 ?_
  have fin : ∀ rv cg1 fn1, clR cg1 P → (∀ v, sp_fall P k v → v = rv) → cX cx (fun v P' => sp_fall P k v ∧ P' = P) (some (.int rv)) (hc cg1 fn1 cx) := fun rv cg1 fn1 c1 h => ⟨rv, cg1, fn1, cx, rfl, rfl, rfl, fun v P' hv => ⟨h v hv.1, by rw [hv.2]; exact c1⟩⟩
  refine ⟨_, _, rfl, rfl, ?_⟩
  refine ⟨_, rfl, d - 1, 0, 0, _, by omega, Nat.le_of_ble_eq_true rfl, Nat.le_of_ble_eq_true rfl, Nat.le_of_ble_eq_true rfl, c_has (w := 3) (n := n) (d - 1) k rfl (by omega) ((hC.1.c 3 (by omega)).trans hO.n3.1) (by have := hO.n3.2; omega), ?_⟩
  rintro _ _ ⟨rfl, rfl⟩
  refine ⟨Or.inl rfl, ?_⟩
  refine ⟨fun c9 => ?_, fun c9 => ?_⟩
  · have qb := (show inI k 0 (P 3 - 1) by rw [hO.n3.1]; exact bI_t c9)
    have n20 := hO.n3.2
    obtain ⟨j, ej, cj, jn⟩ := ix_at hO.n3.1 (by omega) qb
    have fl := hO.f j (by omega)
    refine ⟨_, _, rfl, rfl, ?_⟩
    refine ⟨_, rfl, d - 1, 0, 0, _, by omega, Nat.le_of_ble_eq_true rfl, Nat.le_of_ble_eq_true rfl, Nat.le_of_ble_eq_true rfl, c_isTrue hC.1 (d := d - 1) (by omega) hO.n3.1 n20 k, ?_⟩
    rintro _ _ ⟨rfl, rfl⟩
    refine ⟨Or.inl rfl, ?_⟩
    refine ⟨fun c22 => ?_, fun c22 => ?_⟩
    · have f0 : ¬ P (94 + cN k) = 1 := fun z => absurd ((bI_t c22).2.symm.trans z) (by decide)
      refine ⟨_, _, rfl, rfl, ?_⟩
      refine ⟨_, _, rfl, rfl, ?_⟩
      rw [hC.1.tp]
      refine ⟨_, rfl, d - 1, 0, 0, _, by omega, Nat.le_of_ble_eq_true rfl, Nat.le_of_ble_eq_true rfl, Nat.le_of_ble_eq_true rfl, c_standingToday (d := d - 1) (by omega) hC hO (tpX P), ?_⟩
      rintro _ _ ⟨g1, cg1, fn1, rfl, rfl, C1, hg1⟩
      refine ⟨Or.inl rfl, ?_⟩
      refine ⟨_, _, rfl, rfl, ?_⟩
      refine ⟨_, _, rfl, rfl, ?_⟩
      rw [C1.1.tp]
      refine ⟨_, rfl, d - 1, 0, 0, _, by omega, Nat.le_of_ble_eq_true rfl, Nat.le_of_ble_eq_true rfl, Nat.le_of_ble_eq_true rfl, c_standingToday (d := d - 1) (by omega) C1 hO _, ?_⟩
      rintro _ _ ⟨g2, cg2, fn2, rfl, rfl, C2, hg2⟩
      refine ⟨Or.inl rfl, ?_⟩
      refine ⟨trivial, ?_⟩
      refine fin _ cg2 fn2 C2 (fun v hv => ?_)
      rcases hv with z | z | z
      · exact absurd qb z.1
      · exact absurd z.2.1 f0
      · obtain ⟨g, hg, ev⟩ := z.2.2
        have T10 := hO.t5.2
        have p5 : pn P 5 = T := pn_of hO.t5.1 (by omega)
        rw [p5] at hg ev
        rw [cj] at hg
        rw [ev]
        refine bq_ext (fun i hi => ?_)
        rw [bq_orB hi (by omega), bq_and, bq_xor, bq_orB hi (by omega), bq_orB hi (by omega), bq_m1 i hi]
        by_cases q : i < T
        · rw [decide_eq_true q, Bool.true_and, Bool.true_and, Bool.true_and]
          have e1 := hg i q
          have e2 := hg1 i q
          have e3 := hg2 i q
          rw [ej] at e3
          apply b_iff
          rw [e1, Bool.and_eq_true, e2]
          constructor
          · rintro ⟨y1, y2⟩
            refine ⟨y1, ?_⟩
            have : g2 i = false := by
              cases e : g2 i with
              | false => rfl
              | true => exact absurd (e3.mp e) y2
            rw [this]; rfl
          · rintro ⟨y1, y2⟩
            refine ⟨y1, fun y3 => ?_⟩
            rw [e3.mpr y3] at y2; exact absurd y2 (by decide)
        · rw [decide_eq_false q]; simp
    · have f1 : P (94 + cN k) = 1 := by
        rw [cj]
        rcases fl with z | z
        · exact absurd ⟨qb, by rw [cj]; exact z⟩ (bI_f c22)
        · exact z
      refine ⟨trivial, ?_⟩
      refine fin _ cg fn hC (fun v hv => ?_)
      rcases hv with z | z | z
      · exact absurd qb z.1
      · exact z.2.2
      · exact absurd f1 z.2.1
  · have qa : ¬ inI k 0 (P 3 - 1) := (fun z => bI_f c9 (by rw [← hO.n3.1]; exact z))
    refine ⟨trivial, ?_⟩
    refine fin _ cg fn hC (fun v hv => ?_)
    rcases hv with z | z | z
    · exact z.2
    · exact absurd z.1 qa
    · exact absurd z.1 qa
theorem c_every_l  {cx : cx_T} {P : Nat → Int32} {R C n Q T U d kc ks j : Nat} (hd : 460 ≤ d) (hO : okP P R C n Q T U) {f : Int32} {g : Nat → Bool} (ej : f = nI j) (j7 : j < 750) (hg : ∀ k, k < n → (g k = true ↔ P (94 + k) = 0 ∧ ¬ rcP (syP P (P 0)) (baX P n (mnX (tpX P) k)) j)) : ∀ (u k : Nat) (z w : Int32) (cg : sg_T) (fn : Nat → Option Nat), z = nI k → w = orB g k → clR cg P → k ≤ n → n < k + u → am_W mi_X11_every d (fun r' h' => ∃ cg' fn', r' = some (.int (orB g n)) ∧ h' = hc cg' fn' cx ∧ clR cg' P) kc ks 35 [some (.ref 0), some (.int f), some (.int (tpX P)), some (.int w), some (.int z)] [] (hc cg fn cx) := by
  intro u
  induction u with
  | zero => intro k z w cg fn hz hw hC h1 h2; exact absurd h2 (by omega)
  | succ u ih =>
    intro k z w cg fn hz hw hC h1 h2
    refine am_go ok_X11_every [35] 91 ?_
    have n20 := hO.n3.2
    refine ⟨_, _, rfl, rfl, ?_⟩
    refine ⟨_, _, rfl, rfl, ?_⟩
    refine ⟨_, _, 3, rfl, rfl, Nat.le_of_ble_eq_true rfl, Nat.le_of_ble_eq_true rfl, ?_⟩
    rw [hC.1.c 3 (by omega), hO.n3.1]
    refine ⟨fun c46 => ?_, fun c46 => ?_⟩
    · rw [hz] at c46
      have k1 : k = n := by have := (nI_leI (by omega) (by omega)).mp c46; omega
      subst k1
      refine ⟨trivial, ?_⟩
      exact ⟨cg, fn, by rw [hw], rfl, hC⟩
    · have k1 : k < n := by
        rcases Nat.lt_or_ge k n with q1 | q1
        · exact q1
        · exact absurd (by rw [hz]; exact (nI_leI (by omega) (by omega)).mpr q1) c46
      have es := orB_s g k
      have q1 : inI z 0 (P 3 - 1) := by rw [hz, hO.n3.1]; exact in_of k1 (by omega)
      have ck : cN z = k := cN_of hz (by omega)
      refine ⟨_, _, rfl, rfl, ?_⟩
      refine ⟨_, rfl, d - 1, 0, 0, _, by omega, Nat.le_of_ble_eq_true rfl, Nat.le_of_ble_eq_true rfl, Nat.le_of_ble_eq_true rfl, c_isTrue hC.1 (d := d - 1) (by omega) hO.n3.1 n20 z, ?_⟩
      rintro _ _ ⟨rfl, rfl⟩
      refine ⟨Or.inl rfl, ?_⟩
      refine ⟨fun c58 => ?_, fun c58 => ?_⟩
      · have gf : g k = false := by
          cases e : g k with
          | false => rfl
          | true => exact absurd ⟨q1, by rw [ck]; exact ((hg k k1).mp e).1⟩ (bI_f c58)
        have eo : w = orB g (k + 1) := by rw [es, if_neg (by rw [gf]; decide), or_0, hw]
        have NX := fun z' w' e1 e2 => ih (k + 1) z' w' cg fn e1 e2 hC (by omega) (by omega)
        exact NX _ _ (by first | rw [nI_1] | rw [hz, nI_1]) eo
      · have f0 : P (94 + k) = 0 := by have := (bI_t c58).2; rw [ck] at this; exact this
        rw [hz]
        refine ⟨_, rfl, d - 1, 0, 0, _, by omega, Nat.le_of_ble_eq_true rfl, Nat.le_of_ble_eq_true rfl, Nat.le_of_ble_eq_true rfl, c_followsToday (d := d - 1) (x := mnX (tpX P) k) (by omega) hC hO ej j7, ?_⟩
        rintro _ _ ⟨b, cg1, fn1, rfl, rfl, C1, hb⟩
        refine ⟨Or.inl rfl, ?_⟩
        refine ⟨fun c74 => ?_, fun c74 => ?_⟩
        · have gf : g k = false := by
            cases e : g k with
            | false => rfl
            | true => exact absurd (hb.mp (by cases b; exact absurd rfl c74; rfl)) ((hg k k1).mp e).2
          have eo : w = orB g (k + 1) := by rw [es, if_neg (by rw [gf]; decide), or_0, hw]
          have NX := fun z' w' e1 e2 => ih (k + 1) z' w' cg1 fn1 e1 e2 C1 (by omega) (by omega)
          exact NX _ _ (by first | rw [nI_1] | rw [hz, nI_1]) eo
        · have gt : g k = true := (hg k k1).mpr ⟨f0, fun y => absurd ((show b = false by cases b; rfl; exact absurd c74 (by decide)).symm.trans (hb.mpr y)) (by decide)⟩
          have eo : w ||| 1 <<< (nI k &&& 31) = orB g (k + 1) := by rw [es, if_pos gt, hw]
          have NX := fun z' w' e1 e2 => ih (k + 1) z' w' cg1 fn1 e1 e2 C1 (by omega) (by omega)
          exact NX _ _ (by first | rw [nI_1] | rw [hz, nI_1]) eo
theorem c_every {cg : sg_T} {fn : Nat → Option Nat} {cx : cx_T} {P : Nat → Int32} {R C n Q T U d : Nat} (hd : 460 ≤ d) (hC : clR cg P) (hO : okP P R C n Q T U) (f : Int32) : am_Met mi_X11_every d 0 0 [.ref 0, .int f] (hc cg fn cx) (cX cx (fun v P' => sp_every P f v ∧ P' = P)) := by
  refine am_Met.of rfl (Nat.le_of_ble_eq_true rfl) ?_
  refine am_go ok_X11_every [35] 76 ?_
  have fin : ∀ rv cg1 fn1, clR cg1 P → (∀ v, sp_every P f v → v = rv) → cX cx (fun v P' => sp_every P f v ∧ P' = P) (some (.int rv)) (hc cg1 fn1 cx) := fun rv cg1 fn1 c1 h => ⟨rv, cg1, fn1, cx, rfl, rfl, rfl, fun v P' hv => ⟨h v hv.1, by rw [hv.2]; exact c1⟩⟩
  refine ⟨d - 1, 0, 0, _, by omega, Nat.le_of_ble_eq_true rfl, Nat.le_of_ble_eq_true rfl, Nat.le_of_ble_eq_true rfl, c_isFact (d - 1) f, ?_⟩
  rintro _ _ ⟨rfl, rfl⟩
  refine ⟨Or.inl rfl, ?_⟩
  refine ⟨fun c4 => ?_, fun c4 => ?_⟩
  · have qb := bI_t c4
    obtain ⟨j, ej, cj, jl⟩ := ix_c (m := 749) (by omega) qb
    have p3 : pn P 3 = n := pn_of hO.n3.1 (by have := hO.n3.2; omega)
    refine ⟨_, _, rfl, rfl, ?_⟩
    refine ⟨_, _, rfl, rfl, ?_⟩
    rw [hC.1.tp]
    refine ⟨_, rfl, d - 1, 0, 0, _, by omega, Nat.le_of_ble_eq_true rfl, Nat.le_of_ble_eq_true rfl, Nat.le_of_ble_eq_true rfl, c_followsToday (d := d - 1) (by omega) hC hO ej (by omega), ?_⟩
    rintro _ _ ⟨b, cg1, fn1, rfl, rfl, C1, hb⟩
    refine ⟨Or.inl rfl, ?_⟩
    refine ⟨fun c24 => ?_, fun c24 => ?_⟩
    · have yb : rcP (syP P (P 0)) (baX P n (tpX P)) j := hb.mp (by cases b; exact absurd rfl c24; rfl)
      obtain ⟨g, hg⟩ := fo_ex (p := fun k => P (94 + k) = 0 ∧ ¬ rcP (syP P (P 0)) (baX P n (mnX (tpX P) k)) j)
      refine am_W.mono ?_ (c_every_l (cx := cx) hd hO ej (by omega) (fun k _ => hg k) (n + 1) 0 0 0 cg1 fn1 rfl rfl C1 (by omega) (by omega))
      rintro r' h' ⟨cg2, fn2, rfl, rfl, C2⟩
      refine fin _ cg2 fn2 C2 (fun v hv => ?_)
      rcases hv with z | z | z
      · exact absurd qb z.1
      · have := z.2.1; rw [cj, p3] at this; exact absurd yb this
      · obtain ⟨g', hg', ev⟩ := z.2.2
        rw [ev, p3]
        rw [p3, cj] at hg'
        exact orB_cg (fun k hk => b_iff (by rw [hg' k hk]; exact (hg k).symm))
    · have nb : ¬ rcP (syP P (P 0)) (baX P n (tpX P)) j := fun y => absurd ((show b = false by cases b; rfl; exact absurd c24 (by decide)).symm.trans (hb.mpr y)) (by decide)
      refine ⟨trivial, ?_⟩
      refine fin _ cg1 fn1 C1 (fun v hv => ?_)
      rcases hv with z | z | z
      · exact absurd qb z.1
      · exact z.2.2
      · have := z.2.1; rw [cj, p3] at this; exact absurd this nb
  · have qa := bI_f c4
    refine ⟨trivial, ?_⟩
    refine fin _ cg fn hC (fun v hv => ?_)
    rcases hv with z | z | z
    · exact z.2
    · exact absurd z.1 qa
    · exact absurd z.1 qa
