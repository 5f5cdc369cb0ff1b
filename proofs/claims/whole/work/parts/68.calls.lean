/-! THE CLASS'S CALLS: what holds between calls -/
def okP (P : Nat → Int32) (R C n Q T U : Nat) : Prop := wkA P R C n ∧ ltA P R C ∧ P 7 = nI (R + C) ∧ tpO P ∧ tbO P ∧ pfA P R Q ∧ ttA P Q T ∧ flA P ∧ (P 6 = nI U ∧ U ≤ 6 ∧ ∀ t, t < U → tcA P t) ∧ tlZ P ∧ (∃ y, y < 1000 ∧ P 0 = nI y) ∧ (∀ j, (j = 9 ∨ 2478 ≤ j ∧ j < 3228) → P j = 0 ∨ P j = 1) ∧ (∀ r, r < R → ∃ t, t < R + C ∧ P (10 + r) = nI t) ∧ ∀ c, c < C → ∃ t, t < R + C ∧ P (42 + c) = nI t
section OKP
variable {P : Nat → Int32} {R C n Q T U : Nat}
theorem okP.W (h : okP P R C n Q T U) : wkA P R C n := h.1
theorem okP.l (h : okP P R C n Q T U) : ltA P R C := h.2.1
theorem okP.h7 (h : okP P R C n Q T U) : P 7 = nI (R + C) := h.2.2.1
theorem okP.t (h : okP P R C n Q T U) : tpO P := h.2.2.2.1
theorem okP.b (h : okP P R C n Q T U) : tbO P := h.2.2.2.2.1
theorem okP.A (h : okP P R C n Q T U) : pfA P R Q := h.2.2.2.2.2.1
theorem okP.tt (h : okP P R C n Q T U) : ttA P Q T := h.2.2.2.2.2.2.1
theorem okP.f (h : okP P R C n Q T U) : flA P := h.2.2.2.2.2.2.2.1
theorem okP.u (h : okP P R C n Q T U) : P 6 = nI U ∧ U ≤ 6 ∧ ∀ t, t < U → tcA P t := h.2.2.2.2.2.2.2.2.1
theorem okP.z (h : okP P R C n Q T U) : tlZ P := h.2.2.2.2.2.2.2.2.2.1
theorem okP.d (h : okP P R C n Q T U) : ∃ y, y < 1000 ∧ P 0 = nI y := h.2.2.2.2.2.2.2.2.2.2.1
theorem okP.o (h : okP P R C n Q T U) : ∀ j, (j = 9 ∨ 2478 ≤ j ∧ j < 3228) → P j = 0 ∨ P j = 1 := h.2.2.2.2.2.2.2.2.2.2.2.1
theorem okP.nu (h : okP P R C n Q T U) : (∀ r, r < R → ∃ t, t < R + C ∧ P (10 + r) = nI t) ∧ ∀ c, c < C → ∃ t, t < R + C ∧ P (42 + c) = nI t := h.2.2.2.2.2.2.2.2.2.2.2.2
theorem okP.r1 (h : okP P R C n Q T U) : P 1 = nI R ∧ R ≤ 8 := ⟨h.W.1, h.W.2.1⟩
theorem okP.c2 (h : okP P R C n Q T U) : P 2 = nI C ∧ C ≤ 12 := ⟨h.W.2.2.1, h.W.2.2.2.1⟩
theorem okP.n3 (h : okP P R C n Q T U) : P 3 = nI n ∧ n ≤ 20 := ⟨h.W.2.2.2.2.2.2.1, h.W.2.2.2.2.2.2.2.1⟩
theorem okP.q4 (h : okP P R C n Q T U) : P 4 = nI Q ∧ Q ≤ 12 := ⟨h.A.1, h.A.2.1⟩
theorem okP.t5 (h : okP P R C n Q T U) : P 5 = nI T ∧ T ≤ 10 := ⟨h.tt.1, h.tt.2.1⟩
end OKP
/-- class and reference: the cells of the Book, Reach's row, the letters -/
def clR (cg : sg_T) (P : Nat → Int32) : Prop := BR 1 cg P ∧ rI cg ∧ wvP (cg 89) ∧ dgV (cg 83)
theorem rI_fr {cg cg' : sg_T} (h : rI cg) (e4 : cg' 84 = cg 84) (e5 : cg' 85 = cg 85) (e6 : cg' 86 = cg 86) (e7 : cg' 87 = cg 87) : rI cg' := by
  obtain ⟨sz, g, c, hB, h7⟩ := h
  exact ⟨sz, g, c, rb_fr hB e4 e5 e6, fun f f7 hn => by rw [e7]; exact h7 f f7 hn⟩
theorem clR.K {cg cg' : sg_T} {P : Nat → Int32} {R C n : Nat} (h : clR cg P) (hW : wkA P R C n) (k : frK cg cg') : clR cg' P := ⟨BR_fr hW h.1 (fun a ha => k.1 a (by omega)), rI_fr h.2.1 (k.1 84 (by omega)) (k.1 85 (by omega)) (k.1 86 (by omega)) (k.1 87 (by omega)), by rw [k.1 89 (by omega)]; exact h.2.2.1, fun i hi => (k.2 i hi).trans (h.2.2.2 i hi)⟩
theorem clR.E {cg cg' : sg_T} {P : Nat → Int32} {R C n : Nat} (h : clR cg P) (hW : wkA P R C n) (k : frE cg cg') (hw : wvP (cg' 89)) (hr : rI cg') : clR cg' P := ⟨BR_fr hW h.1 (fun a ha => k a (by omega)), hr, hw, by rw [k 83 (by omega)]; exact h.2.2.2⟩
theorem spO.rI {md : Bool} {S : sy_T} {ba : Nat → Prop} {cg : sg_T} (h : spO md S ba cg) : rI cg := by
  obtain ⟨sz, g, c, hB, h7, -⟩ := h
  exact ⟨sz, g, c, hB, h7⟩
theorem spO.has {md : Bool} {S : sy_T} {ba : Nat → Prop} {cg : sg_T} (h : spO md S ba cg) {f : Nat} (f7 : f < 750) : 0 ≤ cg 85 f ↔ rcP S ba f := by
  obtain ⟨sz, g, c, hB, -, hr, -⟩ := h
  rw [← hr f f7]
  by_cases q : inR g sz f
  · exact ⟨fun _ => q, fun _ => by rw [(rb_c hB q).1]; exact nI_ge0 _ (by have := (rb_c hB q).2.1; omega)⟩
  · exact ⟨fun w => absurd ((rb_neg hB f7).mpr q) (i_len w), fun w => absurd w q⟩
/-- how a call that leaves all as it was ends -/
def cS (cx : cx_T) (v : Int32) (P : Nat → Int32) : Option Value → am_H → Prop := fun r h' => ∃ cg' fn' cx', r = some (.int v) ∧ h' = hc cg' fn' cx' ∧ cx' = cx ∧ clR cg' P
/-- how a call ends whose answer the document's relation gives -/
def cX (cx : cx_T) (SP : Int32 → (Nat → Int32) → Prop) : Option Value → am_H → Prop := fun r h' => ∃ rv cg' fn' cx', r = some (.int rv) ∧ h' = hc cg' fn' cx' ∧ cx' = cx ∧ ∀ v P', SP v P' → v = rv ∧ clR cg' P'
/-- the same, of a call that reads the tape -/
def cY (cx : cx_T) (SP : Int32 → (Nat → Int32) → Prop) : Option Value → am_H → Prop := fun r h' => ∃ rv cg' fn' cx', r = some (.int rv) ∧ h' = hc cg' fn' cx' ∧ (cx' = cx ∨ ∃ t, t < 20 ∧ cx' = (3, 18 + 3 * t, cx.2.2)) ∧ ∀ v P', SP v P' → v = rv ∧ clR cg' P'
theorem day_in {v : Int32} : inI v 0 999 ↔ ¬ v < 0 ∧ v < 1000 := ⟨fun z => ⟨i_len z.1, Int32.lt_of_le_of_lt z.2 (by decide)⟩, fun z => (lt_in (N := 1000) (n := 1000) rfl (by omega)).mp ⟨i_nlt z.1, z.2⟩⟩
theorem c_told {cg : sg_T} {fn : Nat → Option Nat} {cx : cx_T} {P : Nat → Int32} {R C n Q T U d : Nat} (hd : 460 ≤ d) (hC : clR cg P) (hO : okP P R C n Q T U) (r dy w : Int32) : am_Met mi_X11_told d 0 0 [.ref 0, .int r, .int dy, .int w] (hc cg fn cx) (cS cx (sp_told P r dy w) P) := by
  refine am_Met.of rfl (Nat.le_of_ble_eq_true rfl) ?_
  refine am_go ok_X11_told [] 88 ?_
  refine ⟨_, _, rfl, rfl, ?_⟩
  refine ⟨_, rfl, d - 1, 0, 0, _, by omega, Nat.le_of_ble_eq_true rfl, Nat.le_of_ble_eq_true rfl, Nat.le_of_ble_eq_true rfl, c_has (w := 1) (n := R) (d - 1) r rfl (by omega) ((hC.1.c 1 (by omega)).trans hO.r1.1) (by have := hO.r1.2; omega), ?_⟩
  rintro _ _ ⟨rfl, rfl⟩
  refine ⟨Or.inl rfl, ?_⟩
  refine ⟨fun c9 => ?_, fun c9 => ?_⟩
  · have qa : ¬ (inI r 0 (P 1 - 1) ∧ inI w 0 2) := fun z => (fun z => bI_f c9 (by rw [← hO.r1.1]; exact z)) z.1
    refine ⟨trivial, ?_⟩
    exact ⟨cg, fn, cx, by unfold sp_told; rw [if_pos qa], rfl, rfl, hC⟩
  · have q1 := (show inI r 0 (P 1 - 1) by rw [hO.r1.1]; exact bI_t c9)
    refine ⟨fun c13 => ?_, fun c13 => ?_⟩
    · have qa : ¬ (inI r 0 (P 1 - 1) ∧ inI w 0 2) := fun z => i_ltn c13 z.2.1
      refine ⟨trivial, ?_⟩
      exact ⟨cg, fn, cx, by unfold sp_told; rw [if_pos qa], rfl, rfl, hC⟩
    · refine ⟨fun c18 => ?_, fun c18 => ?_⟩
      · have qb : inI r 0 (P 1 - 1) ∧ inI w 0 2 := ⟨q1, i_nlt c13, c18⟩
        obtain ⟨j, ej, cj, jR⟩ := ix_at hO.r1.1 (by have := hO.r1.2; omega) q1
        have R8 := hO.r1.2
        have pC : pn P 2 = C := pn_of hO.c2.1 (by have := hO.c2.2; omega)
        refine ⟨d - 1, 0, 0, _, by omega, Nat.le_of_ble_eq_true rfl, Nat.le_of_ble_eq_true rfl, Nat.le_of_ble_eq_true rfl, c_isDay (d - 1) dy, ?_⟩
        rintro _ _ ⟨rfl, rfl⟩
        refine ⟨Or.inl rfl, ?_⟩
        refine ⟨fun c27 => ?_, fun c27 => ?_⟩
        · have qd := bI_t c27
          refine ⟨fun c35 => ?_, fun c35 => ?_⟩
          · refine ⟨_, _, rfl, rfl, ?_⟩
            refine ⟨_, rfl, d - 1, 0, 0, _, by omega, Nat.le_of_ble_eq_true rfl, Nat.le_of_ble_eq_true rfl, Nat.le_of_ble_eq_true rfl, c_textOn hC.1 (d := d - 1) (by omega) dy ej (by omega) hO.c2.1 hO.c2.2, ?_⟩
            rintro _ _ ⟨rfl, rfl⟩
            refine ⟨Or.inl rfl, ?_⟩
            obtain ⟨hR, t20⟩ := ct_rel (dy := dy) hC.1 hO.W jR
            have e0 : sp_told P r dy w = P (txX P j dy + cN w) := by unfold sp_told; rw [if_neg (fun z => z qb), if_neg (fun z => z qd), if_neg c35, cj]
            rw [e0]
            refine ⟨fun c74 => ?_, fun c74 => ?_⟩
            · have ew : cN w = 1 := by
                obtain ⟨k, ek, ck, kl⟩ := ix_c (m := 2) (by omega) qb.2
                rcases (show k = 0 ∨ k = 1 ∨ k = 2 by omega) with z | z | z
                · exact absurd (by rw [ek, z]; rfl) c74
                · omega
                · exact absurd (by rw [ek, z]; rfl) c35
              have ev : cg (18 + 3 * ctN P j dy) 1 = P (txX P j dy + cN w) := by rw [ew]; exact hR.2.1
              refine ⟨_, _, hc_nT t20, rfl, ?_⟩
              refine ⟨trivial, ?_⟩
              exact ⟨cg, fn, cx, by rw [ev], rfl, rfl, hC⟩
            · have ew : cN w = 0 := by rw [c74]; rfl
              have ev : cg (18 + 3 * ctN P j dy) 0 = P (txX P j dy + cN w) := by rw [ew]; exact hR.1
              refine ⟨_, _, hc_nT t20, rfl, ?_⟩
              refine ⟨trivial, ?_⟩
              exact ⟨cg, fn, cx, by rw [ev], rfl, rfl, hC⟩
          · refine ⟨_, _, rfl, rfl, ?_⟩
            refine ⟨_, rfl, d - 1, 0, 0, _, by omega, Nat.le_of_ble_eq_true rfl, Nat.le_of_ble_eq_true rfl, Nat.le_of_ble_eq_true rfl, c_changeOn hC.1 (d - 1) hO.c2.1 hO.c2.2, ?_⟩
            rintro _ _ ⟨rfl, rfl⟩
            refine ⟨Or.inl rfl, ?_⟩
            have e0 : sp_told P r dy w = chI (-5) (chF (pRu P) (pDa P) r dy C) := by unfold sp_told; rw [if_neg (fun z => z qb), if_neg (fun z => z qd), if_pos c35, pC]
            rw [e0]
            cases e : chF (pRu P) (pDa P) r dy C with
            | none =>
              refine ⟨fun c51 => absurd c51 (by decide), fun c51 => ?_⟩
              refine ⟨trivial, ?_⟩
              exact ⟨cg, fn, cx, rfl, rfl, rfl, hC⟩
            | some c =>
              have := chF_lt e
              have := hO.c2.2
              refine ⟨fun c51 => ?_, fun c51 => absurd (nI_ge0 c (by omega)) c51⟩
              refine ⟨trivial, ?_⟩
              exact ⟨cg, fn, cx, rfl, rfl, rfl, hC⟩
        · have qd := bI_f c27
          refine ⟨trivial, ?_⟩
          exact ⟨cg, fn, cx, by unfold sp_told; rw [if_neg (fun z => z qb), if_pos qd], rfl, rfl, hC⟩
      · have qa : ¬ (inI r 0 (P 1 - 1) ∧ inI w 0 2) := fun z => c18 z.2.2
        refine ⟨trivial, ?_⟩
        exact ⟨cg, fn, cx, by unfold sp_told; rw [if_pos qa], rfl, rfl, hC⟩
theorem c_of {cg : sg_T} {fn : Nat → Option Nat} {cx : cx_T} {P : Nat → Int32} {R C n Q T U d : Nat} (hd : 460 ≤ d) (hC : clR cg P) (hO : okP P R C n Q T U) (k w : Int32) : am_Met mi_X11_of d 0 0 [.ref 0, .int k, .int w] (hc cg fn cx) (cS cx (sp_of P k w) P) := by
  refine am_Met.of rfl (Nat.le_of_ble_eq_true rfl) ?_
  refine am_go ok_X11_of [] 83 ?_
  refine ⟨_, _, rfl, rfl, ?_⟩
  refine ⟨_, rfl, d - 1, 0, 0, _, by omega, Nat.le_of_ble_eq_true rfl, Nat.le_of_ble_eq_true rfl, Nat.le_of_ble_eq_true rfl, c_has (w := 3) (n := n) (d - 1) k rfl (by omega) ((hC.1.c 3 (by omega)).trans hO.n3.1) (by have := hO.n3.2; omega), ?_⟩
  rintro _ _ ⟨rfl, rfl⟩
  refine ⟨Or.inl rfl, ?_⟩
  refine ⟨fun c9 => ?_, fun c9 => ?_⟩
  · have qa : ¬ (inI k 0 (P 3 - 1) ∧ inI w 0 2) := fun z => (fun z => bI_f c9 (by rw [← hO.n3.1]; exact z)) z.1
    refine ⟨trivial, ?_⟩
    exact ⟨cg, fn, cx, by unfold sp_of; rw [if_neg qa], rfl, rfl, hC⟩
  · have q1 := (show inI k 0 (P 3 - 1) by rw [hO.n3.1]; exact bI_t c9)
    refine ⟨fun c13 => ?_, fun c13 => ?_⟩
    · have qa : ¬ (inI k 0 (P 3 - 1) ∧ inI w 0 2) := fun z => i_ltn c13 z.2.1
      refine ⟨trivial, ?_⟩
      exact ⟨cg, fn, cx, by unfold sp_of; rw [if_neg qa], rfl, rfl, hC⟩
    · refine ⟨fun c18 => ?_, fun c18 => ?_⟩
      · have qb : inI k 0 (P 3 - 1) ∧ inI w 0 2 := ⟨q1, i_nlt c13, c18⟩
        have n20 := hO.n3.2
        obtain ⟨j, ej, cj, jR⟩ := ix_at hO.n3.1 (by omega) q1
        have e0 : sp_of P k w = P (54 + 20 * cN w + j) := by unfold sp_of; rw [if_pos qb, cj]
        rw [e0]
        refine ⟨fun c24 => ?_, fun c24 => ?_⟩
        · refine ⟨fun c39 => ?_, fun c39 => ?_⟩
          · refine ⟨_, _, rfl, rfl, ?_⟩
            refine ⟨_, rfl, d - 1, 0, 0, _, by omega, Nat.le_of_ble_eq_true rfl, Nat.le_of_ble_eq_true rfl, Nat.le_of_ble_eq_true rfl, c_isTrue hC.1 (d := d - 1) (by omega) hO.n3.1 n20 k, ?_⟩
            rintro _ _ ⟨rfl, rfl⟩
            refine ⟨Or.inl rfl, ?_⟩
            have ew : cN w = 2 := by
              obtain ⟨i, ei, ci, il⟩ := ix_c (m := 2) (by omega) qb.2
              rcases (show i = 0 ∨ i = 1 ∨ i = 2 by omega) with z | z | z
              · exact absurd (by rw [ei, z]; rfl) c24
              · exact absurd (by rw [ei, z]; rfl) c39
              · omega
            have fl := hO.f j (by omega)
            refine ⟨fun c60 => ?_, fun c60 => ?_⟩
            · have ev : P (54 + 20 * cN w + j) = 1 := by
                rw [ew]
                rcases fl with z | z
                · exact absurd ⟨q1, by rw [cj]; exact z⟩ (bI_f c60)
                · exact z
              refine ⟨trivial, ?_⟩
              exact ⟨cg, fn, cx, by rw [ev], rfl, rfl, hC⟩
            · have ev : P (54 + 20 * cN w + j) = 0 := by
                rw [ew]; have := (bI_t c60).2; rw [cj] at this; exact this
              refine ⟨trivial, ?_⟩
              exact ⟨cg, fn, cx, by rw [ev], rfl, rfl, hC⟩
          · refine ⟨_, _, rfl, rfl, ?_⟩
            refine ⟨_, _, rfl, rfl, ?_⟩
            refine ⟨_, _, j, rfl, ej, by omega, Nat.le_of_ble_eq_true rfl, ?_⟩
            rw [hC.1.pp j (by omega)]
            refine ⟨trivial, ?_⟩
            exact ⟨cg, fn, cx, by rw [c39]; rfl, rfl, rfl, hC⟩
        · refine ⟨_, _, rfl, rfl, ?_⟩
          refine ⟨_, _, rfl, rfl, ?_⟩
          refine ⟨_, _, j, rfl, ej, by omega, Nat.le_of_ble_eq_true rfl, ?_⟩
          rw [hC.1.pf j (by omega)]
          refine ⟨trivial, ?_⟩
          exact ⟨cg, fn, cx, by rw [c24]; rfl, rfl, rfl, hC⟩
      · have qa : ¬ (inI k 0 (P 3 - 1) ∧ inI w 0 2) := fun z => c18 z.2.2
        refine ⟨trivial, ?_⟩
        exact ⟨cg, fn, cx, by unfold sp_of; rw [if_neg qa], rfl, rfl, hC⟩
theorem c_lacks {cg : sg_T} {fn : Nat → Option Nat} {cx : cx_T} {P : Nat → Int32} {R C n Q T U d : Nat} (hd : 460 ≤ d) (hC : clR cg P) (hO : okP P R C n Q T U) (q s dy : Int32) : am_Met mi_X11_lacks d 0 0 [.ref 0, .int q, .int s, .int dy] (hc cg fn cx) (cS cx (sp_lacks P q s dy) P) := by
  refine am_Met.of rfl (Nat.le_of_ble_eq_true rfl) ?_
  refine am_go ok_X11_lacks [] 86 ?_
  refine ⟨_, _, rfl, rfl, ?_⟩
  refine ⟨_, rfl, d - 1, 0, 0, _, by omega, Nat.le_of_ble_eq_true rfl, Nat.le_of_ble_eq_true rfl, Nat.le_of_ble_eq_true rfl, c_hasStep hC.1 (d := d - 1) (by omega) hO.A q s, ?_⟩
  rintro _ _ ⟨rfl, rfl⟩
  refine ⟨Or.inl rfl, ?_⟩
  refine ⟨fun c9 => ?_, fun c9 => ?_⟩
  · have qb := bI_t c9
    have Q12 := hO.q4.2
    obtain ⟨j, ej, cj, jQ⟩ := ix_at hO.q4.1 (by omega) qb.1
    obtain ⟨-, -, st, s12, est, pst, -⟩ := pf_at hO.A jQ
    obtain ⟨i, ei, ci, il⟩ := ix_at (n := st) (by rw [cj]; exact est) (by omega) qb.2
    refine ⟨d - 1, 0, 0, _, by omega, Nat.le_of_ble_eq_true rfl, Nat.le_of_ble_eq_true rfl, Nat.le_of_ble_eq_true rfl, c_isDay (d - 1) dy, ?_⟩
    rintro _ _ ⟨rfl, rfl⟩
    refine ⟨Or.inl rfl, ?_⟩
    refine ⟨fun c18 => ?_, fun c18 => ?_⟩
    · have qd := bI_t c18
      refine ⟨_, _, rfl, rfl, ?_⟩
      refine ⟨_, _, rfl, rfl, ?_⟩
      refine ⟨_, _, rfl, rfl, ?_⟩
      rw [hC.1.tp]
      refine ⟨_, rfl, d - 1, 0, 0, _, by omega, Nat.le_of_ble_eq_true rfl, Nat.le_of_ble_eq_true rfl, Nat.le_of_ble_eq_true rfl, c_weigh hC.1 (d := d - 1) (by omega) hO.W hO.A hC.2.2.2 ej jQ (dy := dy) (tr := trP P) (fun j hj => by rw [bq_tp hO.n3.1 hO.n3.2 hj]), ?_⟩
      rintro _ _ ⟨rfl, cg1, rfl, F1, J1⟩
      refine ⟨Or.inl rfl, ?_⟩
      refine ⟨_, _, rfl, rfl, ?_⟩
      refine ⟨_, _, rfl, rfl, ?_⟩
      refine ⟨_, _, (12 * j + i), rfl, (by rw [ej, ei]; show nI j * nI 12 + nI i = _; rw [pk_mul, nI_add, Nat.mul_comm]), by omega, Nat.le_of_ble_eq_true rfl, ?_⟩
      rw [(J1.2 j (by omega)).2 i (by omega) |>.1]
      refine ⟨trivial, ?_⟩
      exact ⟨cg1, fn, cx, by unfold sp_lacks; rw [if_neg (fun z => z qb), if_pos qd, cj, ci], rfl, rfl, hC.K hO.W F1⟩
    · have qd := bI_f c18
      refine ⟨trivial, ?_⟩
      exact ⟨cg, fn, cx, by unfold sp_lacks; rw [if_neg (fun z => z qb), if_neg qd], rfl, rfl, hC⟩
  · have qa := bI_f c9
    refine ⟨trivial, ?_⟩
    exact ⟨cg, fn, cx, by unfold sp_lacks; rw [if_pos qa], rfl, rfl, hC⟩
theorem c_check {cg : sg_T} {fn : Nat → Option Nat} {cx : cx_T} {P : Nat → Int32} {R C n Q T U d : Nat} (hd : 460 ≤ d) (hC : clR cg P) (hO : okP P R C n Q T U) (q dy : Int32) : am_Met mi_X11_check d 0 0 [.ref 0, .int q, .int dy] (hc cg fn cx) (cS cx (sp_check P q dy) P) := by
  refine am_Met.of rfl (Nat.le_of_ble_eq_true rfl) ?_
  refine am_go ok_X11_check [] 85 ?_
  refine ⟨_, _, rfl, rfl, ?_⟩
  refine ⟨_, rfl, d - 1, 0, 0, _, by omega, Nat.le_of_ble_eq_true rfl, Nat.le_of_ble_eq_true rfl, Nat.le_of_ble_eq_true rfl, c_has (w := 4) (n := Q) (d - 1) q rfl (by omega) ((hC.1.c 4 (by omega)).trans hO.q4.1) (by have := hO.q4.2; omega), ?_⟩
  rintro _ _ ⟨rfl, rfl⟩
  refine ⟨Or.inl rfl, ?_⟩
  refine ⟨fun c9 => ?_, fun c9 => ?_⟩
  · have qb := (show inI q 0 (P 4 - 1) by rw [hO.q4.1]; exact bI_t c9)
    have Q12 := hO.q4.2
    obtain ⟨j, ej, cj, jQ⟩ := ix_at hO.q4.1 (by omega) qb
    refine ⟨d - 1, 0, 0, _, by omega, Nat.le_of_ble_eq_true rfl, Nat.le_of_ble_eq_true rfl, Nat.le_of_ble_eq_true rfl, c_isDay (d - 1) dy, ?_⟩
    rintro _ _ ⟨rfl, rfl⟩
    refine ⟨Or.inl rfl, ?_⟩
    refine ⟨fun c18 => ?_, fun c18 => ?_⟩
    · have qd := bI_t c18
      refine ⟨_, _, rfl, rfl, ?_⟩
      refine ⟨_, _, rfl, rfl, ?_⟩
      refine ⟨_, _, rfl, rfl, ?_⟩
      rw [hC.1.tp]
      refine ⟨_, rfl, d - 1, 0, 0, _, by omega, Nat.le_of_ble_eq_true rfl, Nat.le_of_ble_eq_true rfl, Nat.le_of_ble_eq_true rfl, c_weigh hC.1 (d := d - 1) (by omega) hO.W hO.A hC.2.2.2 ej jQ (dy := dy) (tr := trP P) (fun j hj => by rw [bq_tp hO.n3.1 hO.n3.2 hj]), ?_⟩
      rintro _ _ ⟨rfl, cg1, rfl, F1, J1⟩
      refine ⟨Or.inl rfl, ?_⟩
      have e0 : sp_check P q dy = bI (tkB P (lkV P (trP P) dy) j) := by unfold sp_check; rw [if_neg (fun z => z qb), if_neg (fun z => z qd), cj]
      rw [e0]
      refine ⟨_, _, rfl, rfl, ?_⟩
      refine ⟨_, _, rfl, rfl, ?_⟩
      refine ⟨_, _, j, rfl, ej, by omega, Nat.le_of_ble_eq_true rfl, ?_⟩
      rw [(J1.2 j (by omega)).1]
      refine ⟨fun c49 => ?_, fun c49 => ?_⟩
      · have ev := c49
        refine ⟨trivial, ?_⟩
        exact ⟨cg1, fn, cx, by rw [ev], rfl, rfl, hC.K hO.W F1⟩
      · have ev : bI (tkB P (lkV P (trP P) dy) j) = 1 := by
          cases e : tkB P (lkV P (trP P) dy) j with
          | true => rfl
          | false => rw [e] at c49; exact absurd rfl c49
        refine ⟨trivial, ?_⟩
        exact ⟨cg1, fn, cx, by rw [ev], rfl, rfl, hC.K hO.W F1⟩
    · have qd := bI_f c18
      refine ⟨trivial, ?_⟩
      exact ⟨cg, fn, cx, by unfold sp_check; rw [if_neg (fun z => z qb), if_pos qd], rfl, rfl, hC⟩
  · have qa : ¬ inI q 0 (P 4 - 1) := (fun z => bI_f c9 (by rw [← hO.q4.1]; exact z))
    refine ⟨trivial, ?_⟩
    exact ⟨cg, fn, cx, by unfold sp_check; rw [if_pos qa], rfl, rfl, hC⟩
theorem c_says_e {cg : sg_T} {fn : Nat → Option Nat} {cx : cx_T} {P : Nat → Int32} {R C n Q T U d kc ks j st : Nat} (hd : 460 ≤ d) (hC : clR cg P) (hO : okP P R C n Q T U) {q s dy v w : Int32} (ej : q = nI j) (jQ : j < Q) (est : P (126 + j) = nI st) (s12 : st ≤ 12) (hw : w = if st = 0 then -5 else nI (syN P dy j (pn (fun _ => v) 0))) (hv : v = nI st - 1 ∨ ∃ i, i < st ∧ v = nI i) : am_W mi_X11_says d (cS cx w P) kc ks 63 [some (.ref 0), some (.int q), some (.int s), some (.int dy), some (.int v)] [] (hc cg fn cx) := by
  have pst := pn_of est (by omega)
  have sy0 : ¬ 0 ≤ v → (if st = 0 then -5 else nI (syN P dy j (pn (fun _ => v) 0))) = -5 := by
    intro h
    rcases hv with z | ⟨i, il, z⟩
    · rcases Nat.eq_zero_or_pos st with y | y
      · rw [if_pos y]
      · exact absurd (by rw [z, show nI st - 1 = nI (st - 1) from pk_sub (b := 1) y]; exact nI_ge0 _ (by omega)) h
    · exact absurd (by rw [z]; exact nI_ge0 i (by omega)) h
  have sy1 : 0 ≤ v → ∃ i, i < st ∧ v = nI i := by
    intro h
    rcases hv with z | z
    · rcases Nat.eq_zero_or_pos st with y | y
      · rw [z, y] at h; exact absurd h (by decide)
      · exact ⟨st - 1, by omega, by rw [z]; exact pk_sub (b := 1) y⟩
    · exact z
  have sy2 : ∀ i, i < st → v = nI i → (if st = 0 then -5 else nI (syN P dy j (pn (fun _ => v) 0))) = nI (syN P dy j i) := fun i il ei => by
    rw [if_neg (by omega), pn_of (P := fun _ => v) (j := 0) ei (by omega)]
  refine am_go ok_X11_says [] 68 ?_
  refine ⟨fun c65 => ?_, fun c65 => ?_⟩
  · obtain ⟨i, il, ei⟩ := sy1 c65
    refine ⟨_, _, rfl, rfl, ?_⟩
    refine ⟨_, rfl, d - 1, 0, 0, _, by omega, Nat.le_of_ble_eq_true rfl, Nat.le_of_ble_eq_true rfl, Nat.le_of_ble_eq_true rfl, c_factOfStep hC.1 (d := d - 1) (by omega) hO.W hO.A hC.2.2.2 ej ei jQ (by omega), ?_⟩
    rintro _ _ ⟨rfl, cg1, rfl, F1⟩
    refine ⟨Or.inl rfl, ?_⟩
    have ev : w = nI (syN P dy j i) := by rw [hw]; exact sy2 i il ei
    refine ⟨trivial, ?_⟩
    first
    | exact ⟨cg, fn, cx, by rw [ev], rfl, rfl, hC⟩
    | exact ⟨cg1, fn, cx, by rw [ev], rfl, rfl, hC.K hO.W F1.k⟩
  · have ev : w = -5 := by rw [hw]; exact sy0 c65
    refine ⟨trivial, ?_⟩
    first
    | exact ⟨cg, fn, cx, by rw [ev], rfl, rfl, hC⟩
    | exact ⟨cg1, fn, cx, by rw [ev], rfl, rfl, hC.K hO.W F1.k⟩
theorem c_says {cg : sg_T} {fn : Nat → Option Nat} {cx : cx_T} {P : Nat → Int32} {R C n Q T U d : Nat} (hd : 460 ≤ d) (hC : clR cg P) (hO : okP P R C n Q T U) (q s dy : Int32) : am_Met mi_X11_says d 0 0 [.ref 0, .int q, .int s, .int dy] (hc cg fn cx) (cS cx (sp_says P q s dy) P) := by
  refine am_Met.of rfl (Nat.le_of_ble_eq_true rfl) ?_
  refine am_go ok_X11_says [63] 90 ?_
  refine ⟨_, _, rfl, rfl, ?_⟩
  refine ⟨_, rfl, d - 1, 0, 0, _, by omega, Nat.le_of_ble_eq_true rfl, Nat.le_of_ble_eq_true rfl, Nat.le_of_ble_eq_true rfl, c_has (w := 4) (n := Q) (d - 1) q rfl (by omega) ((hC.1.c 4 (by omega)).trans hO.q4.1) (by have := hO.q4.2; omega), ?_⟩
  rintro _ _ ⟨rfl, rfl⟩
  refine ⟨Or.inl rfl, ?_⟩
  refine ⟨fun c9 => ?_, fun c9 => ?_⟩
  · have qa : ¬ (inI q 0 (P 4 - 1) ∧ (s = -1 ∨ isSt P q s)) := fun z => (fun z => bI_f c9 (by rw [← hO.q4.1]; exact z)) z.1
    refine ⟨trivial, ?_⟩
    exact ⟨cg, fn, cx, by unfold sp_says; rw [if_pos qa], rfl, rfl, hC⟩
  · have q1 := (show inI q 0 (P 4 - 1) by rw [hO.q4.1]; exact bI_t c9)
    have Q12 := hO.q4.2
    obtain ⟨j, ej, cj, jQ⟩ := ix_at hO.q4.1 (by omega) q1
    obtain ⟨j12, -, st, s12, est, pst, -⟩ := pf_at hO.A jQ
    refine ⟨fun c14 => ?_, fun c14 => ?_⟩
    · have qb : inI q 0 (P 4 - 1) ∧ (s = -1 ∨ isSt P q s) := ⟨q1, Or.inl c14⟩
      refine ⟨d - 1, 0, 0, _, by omega, Nat.le_of_ble_eq_true rfl, Nat.le_of_ble_eq_true rfl, Nat.le_of_ble_eq_true rfl, c_isDay (d - 1) dy, ?_⟩
      rintro _ _ ⟨rfl, rfl⟩
      refine ⟨Or.inl rfl, ?_⟩
      refine ⟨fun c35 => ?_, fun c35 => ?_⟩
      · have qd := bI_t c35
        refine ⟨fun c43 => ?_, fun c43 => ?_⟩
        · first
          | exact c_says_e hd hC hO ej jQ est s12 (v := nI st - 1) (w := sp_says P q s dy) (by unfold sp_says; rw [if_neg (fun z => z qb), if_neg (fun z => z qd), if_pos c43, cj, pst]; rcases Nat.eq_zero_or_pos st with y | y; (rw [if_pos y, if_pos y]); rw [if_neg (by omega), if_neg (by omega), pn_of (P := fun _ => nI st - 1) (j := 0) (show nI st - 1 = nI (st - 1) from pk_sub (b := 1) y) (by omega)]) (Or.inl rfl)
          | (obtain ⟨i, ei, ci, il⟩ := ix_at (n := st) (by rw [cj]; exact est) (by omega) (qb.2.elim (fun z => absurd z c43) (fun z => z.2))
             exact c_says_e hd hC hO ej jQ est s12 (v := s) (w := sp_says P q s dy) (by unfold sp_says; rw [if_neg (fun z => z qb), if_neg (fun z => z qd), if_neg c43, cj, ci, if_neg (by omega), pn_of (P := fun _ => s) (j := 0) ei (by omega)]) (Or.inr ⟨i, il, ei⟩))
        · refine ⟨_, _, rfl, rfl, ?_⟩
          refine ⟨_, _, rfl, rfl, ?_⟩
          refine ⟨_, _, j, rfl, ej, by omega, Nat.le_of_ble_eq_true rfl, ?_⟩
          rw [hC.1.s j (by omega), est]
          first
          | exact c_says_e hd hC hO ej jQ est s12 (v := nI st - 1) (w := sp_says P q s dy) (by unfold sp_says; rw [if_neg (fun z => z qb), if_neg (fun z => z qd), if_pos c43, cj, pst]; rcases Nat.eq_zero_or_pos st with y | y; (rw [if_pos y, if_pos y]); rw [if_neg (by omega), if_neg (by omega), pn_of (P := fun _ => nI st - 1) (j := 0) (show nI st - 1 = nI (st - 1) from pk_sub (b := 1) y) (by omega)]) (Or.inl rfl)
          | (obtain ⟨i, ei, ci, il⟩ := ix_at (n := st) (by rw [cj]; exact est) (by omega) (qb.2.elim (fun z => absurd z c43) (fun z => z.2))
             exact c_says_e hd hC hO ej jQ est s12 (v := s) (w := sp_says P q s dy) (by unfold sp_says; rw [if_neg (fun z => z qb), if_neg (fun z => z qd), if_neg c43, cj, ci, if_neg (by omega), pn_of (P := fun _ => s) (j := 0) ei (by omega)]) (Or.inr ⟨i, il, ei⟩))
      · have qd := bI_f c35
        refine ⟨trivial, ?_⟩
        exact ⟨cg, fn, cx, by unfold sp_says; rw [if_neg (fun z => z qb), if_pos qd], rfl, rfl, hC⟩
    · refine ⟨_, _, rfl, rfl, ?_⟩
      refine ⟨_, rfl, d - 1, 0, 0, _, by omega, Nat.le_of_ble_eq_true rfl, Nat.le_of_ble_eq_true rfl, Nat.le_of_ble_eq_true rfl, c_hasStep hC.1 (d := d - 1) (by omega) hO.A q s, ?_⟩
      rintro _ _ ⟨rfl, rfl⟩
      refine ⟨Or.inl rfl, ?_⟩
      refine ⟨fun c26 => ?_, fun c26 => ?_⟩
      · have qb : inI q 0 (P 4 - 1) ∧ (s = -1 ∨ isSt P q s) := ⟨q1, Or.inr (bI_t c26)⟩
        refine ⟨d - 1, 0, 0, _, by omega, Nat.le_of_ble_eq_true rfl, Nat.le_of_ble_eq_true rfl, Nat.le_of_ble_eq_true rfl, c_isDay (d - 1) dy, ?_⟩
        rintro _ _ ⟨rfl, rfl⟩
        refine ⟨Or.inl rfl, ?_⟩
        refine ⟨fun c35 => ?_, fun c35 => ?_⟩
        · have qd := bI_t c35
          refine ⟨fun c43 => ?_, fun c43 => ?_⟩
          · first
            | exact c_says_e hd hC hO ej jQ est s12 (v := nI st - 1) (w := sp_says P q s dy) (by unfold sp_says; rw [if_neg (fun z => z qb), if_neg (fun z => z qd), if_pos c43, cj, pst]; rcases Nat.eq_zero_or_pos st with y | y; (rw [if_pos y, if_pos y]); rw [if_neg (by omega), if_neg (by omega), pn_of (P := fun _ => nI st - 1) (j := 0) (show nI st - 1 = nI (st - 1) from pk_sub (b := 1) y) (by omega)]) (Or.inl rfl)
            | (obtain ⟨i, ei, ci, il⟩ := ix_at (n := st) (by rw [cj]; exact est) (by omega) (qb.2.elim (fun z => absurd z c43) (fun z => z.2))
               exact c_says_e hd hC hO ej jQ est s12 (v := s) (w := sp_says P q s dy) (by unfold sp_says; rw [if_neg (fun z => z qb), if_neg (fun z => z qd), if_neg c43, cj, ci, if_neg (by omega), pn_of (P := fun _ => s) (j := 0) ei (by omega)]) (Or.inr ⟨i, il, ei⟩))
          · refine ⟨_, _, rfl, rfl, ?_⟩
            refine ⟨_, _, rfl, rfl, ?_⟩
            refine ⟨_, _, j, rfl, ej, by omega, Nat.le_of_ble_eq_true rfl, ?_⟩
            rw [hC.1.s j (by omega), est]
            first
            | exact c_says_e hd hC hO ej jQ est s12 (v := nI st - 1) (w := sp_says P q s dy) (by unfold sp_says; rw [if_neg (fun z => z qb), if_neg (fun z => z qd), if_pos c43, cj, pst]; rcases Nat.eq_zero_or_pos st with y | y; (rw [if_pos y, if_pos y]); rw [if_neg (by omega), if_neg (by omega), pn_of (P := fun _ => nI st - 1) (j := 0) (show nI st - 1 = nI (st - 1) from pk_sub (b := 1) y) (by omega)]) (Or.inl rfl)
            | (obtain ⟨i, ei, ci, il⟩ := ix_at (n := st) (by rw [cj]; exact est) (by omega) (qb.2.elim (fun z => absurd z c43) (fun z => z.2))
               exact c_says_e hd hC hO ej jQ est s12 (v := s) (w := sp_says P q s dy) (by unfold sp_says; rw [if_neg (fun z => z qb), if_neg (fun z => z qd), if_neg c43, cj, ci, if_neg (by omega), pn_of (P := fun _ => s) (j := 0) ei (by omega)]) (Or.inr ⟨i, il, ei⟩))
        · have qd := bI_f c35
          refine ⟨trivial, ?_⟩
          exact ⟨cg, fn, cx, by unfold sp_says; rw [if_neg (fun z => z qb), if_pos qd], rfl, rfl, hC⟩
      · have qa : ¬ (inI q 0 (P 4 - 1) ∧ (s = -1 ∨ isSt P q s)) := fun z => z.2.elim (fun y => c14 y) (fun y => bI_f c26 y)
        refine ⟨trivial, ?_⟩
        exact ⟨cg, fn, cx, by unfold sp_says; rw [if_pos qa], rfl, rfl, hC⟩
theorem c_leans {cg : sg_T} {fn : Nat → Option Nat} {cx : cx_T} {P : Nat → Int32} {R C n Q T U d : Nat} (hd : 460 ≤ d) (hC : clR cg P) (hO : okP P R C n Q T U) (v : Int32) : am_Met mi_X11_leans d 0 0 [.ref 0, .int v] (hc cg fn cx) (cS cx (if inI v 0 (P 4 - 1) then lnV P (cN v) else -1) P) := by
  refine am_Met.of rfl (Nat.le_of_ble_eq_true rfl) ?_
  refine am_go ok_X11_leans [] 71 ?_
  refine ⟨_, _, rfl, rfl, ?_⟩
  refine ⟨_, rfl, d - 1, 0, 0, _, by omega, Nat.le_of_ble_eq_true rfl, Nat.le_of_ble_eq_true rfl, Nat.le_of_ble_eq_true rfl, c_has (w := 4) (n := Q) (d - 1) v rfl (by omega) ((hC.1.c 4 (by omega)).trans hO.q4.1) (by have := hO.q4.2; omega), ?_⟩
  rintro _ _ ⟨rfl, rfl⟩
  refine ⟨Or.inl rfl, ?_⟩
  refine ⟨fun c9 => ?_, fun c9 => ?_⟩
  · have qa : ¬ inI v 0 (P 4 - 1) := (fun z => bI_f c9 (by rw [← hO.q4.1]; exact z))
    have e0 : (if inI v 0 (P 4 - 1) then lnV P (cN v) else -1) = -1 := if_neg qa
    refine ⟨trivial, ?_⟩
    first
    | exact ⟨cg, fn, cx, by rw [e0], rfl, rfl, hC⟩
    | exact ⟨cg1, fn, cx, by rw [e0], rfl, rfl, hC.K hO.W ⟨fun a ha => F1 a (by omega), fun i _ => by rw [F1 83 (by decide)]⟩⟩
  · have qb := (show inI v 0 (P 4 - 1) by rw [hO.q4.1]; exact bI_t c9)
    have Q12 := hO.q4.2
    obtain ⟨j, ej, cj, jQ⟩ := ix_at hO.q4.1 (by omega) qb
    have e0 : (if inI v 0 (P 4 - 1) then lnV P (cN v) else -1) = lnV P j := by rw [if_pos qb, cj]
    refine ⟨_, _, rfl, rfl, ?_⟩
    refine ⟨_, rfl, d - 1, 0, 0, _, by omega, Nat.le_of_ble_eq_true rfl, Nat.le_of_ble_eq_true rfl, Nat.le_of_ble_eq_true rfl, c_papersUnder hC.1 (d := d - 1) (by omega) hO.W hO.A ej jQ, ?_⟩
    rintro _ _ ⟨rfl, cg1, rfl, F1⟩
    refine ⟨Or.inl rfl, ?_⟩
    refine ⟨trivial, ?_⟩
    first
    | exact ⟨cg, fn, cx, by rw [e0], rfl, rfl, hC⟩
    | exact ⟨cg1, fn, cx, by rw [e0], rfl, rfl, hC.K hO.W ⟨fun a ha => F1 a (by omega), fun i _ => by rw [F1 83 (by decide)]⟩⟩
theorem c_count {cg : sg_T} {fn : Nat → Option Nat} {cx : cx_T} {P : Nat → Int32} {R C n Q T U d : Nat} (hd : 460 ≤ d) (hC : clR cg P) (hO : okP P R C n Q T U) (w : Int32) : am_Met mi_X11_count d 0 0 [.ref 0, .int w] (hc cg fn cx) (cS cx (sp_count P w) P) := by
  refine am_Met.of rfl (Nat.le_of_ble_eq_true rfl) ?_
  refine am_go ok_X11_count [] 70 ?_
  refine ⟨fun c1 => ?_, fun c1 => ?_⟩
  · have e0 : sp_count P w = -1 := by unfold sp_count; rw [if_neg (fun z => i_ltn c1 z.1), if_neg (fun z => by rw [z] at c1; exact absurd c1 (by decide))]
    refine ⟨trivial, ?_⟩
    exact ⟨cg, fn, cx, by rw [e0], rfl, rfl, hC⟩
  · refine ⟨fun c7 => ?_, fun c7 => ?_⟩
    · obtain ⟨j, ej, cj, jl⟩ := ix_at (N := 8) (n := 8) rfl (by omega) ((lt_in (N := 8) (n := 8) rfl (by omega)).mp ⟨i_nlt c1, c7⟩)
      have e0 : sp_count P w = cg 2 j := by
        unfold sp_count
        rcases (show j < 7 ∨ j = 7 by omega) with z | z
        · rw [if_pos ⟨i_nlt c1, by rw [ej]; exact (nI_leI (b := 6) (by omega) (by omega)).mpr (by omega)⟩, cj, hC.1.c j z]
        · rw [if_neg (fun y => absurd y.2 (by rw [ej, z]; decide)), if_pos (by rw [ej, z]; rfl), z, hC.1.c7]
      refine ⟨_, _, rfl, rfl, ?_⟩
      refine ⟨_, _, rfl, rfl, ?_⟩
      refine ⟨_, _, j, rfl, ej, by omega, Nat.le_of_ble_eq_true rfl, ?_⟩
      refine ⟨trivial, ?_⟩
      exact ⟨cg, fn, cx, by rw [e0], rfl, rfl, hC⟩
    · have e0 : sp_count P w = -1 := by unfold sp_count; rw [if_neg (fun z => c7 (Int32.lt_of_le_of_lt z.2 (by decide))), if_neg (fun z => c7 (by rw [z]; decide))]
      refine ⟨trivial, ?_⟩
      exact ⟨cg, fn, cx, by rw [e0], rfl, rfl, hC⟩
theorem c_found {cg : sg_T} {fn : Nat → Option Nat} {cx : cx_T} {P : Nat → Int32} {R C n Q T U d : Nat} (hd : 460 ≤ d) (hC : clR cg P) (hO : okP P R C n Q T U) (f : Int32) : am_Met mi_X11_found d 0 0 [.ref 0, .int f] (hc cg fn cx) (cS cx (sp_found P f) P) := by
  refine am_Met.of rfl (Nat.le_of_ble_eq_true rfl) ?_
  refine am_go ok_X11_found [] 75 ?_
  refine ⟨d - 1, 0, 0, _, by omega, Nat.le_of_ble_eq_true rfl, Nat.le_of_ble_eq_true rfl, Nat.le_of_ble_eq_true rfl, c_isFact (d - 1) f, ?_⟩
  rintro _ _ ⟨rfl, rfl⟩
  refine ⟨Or.inl rfl, ?_⟩
  refine ⟨fun c4 => ?_, fun c4 => ?_⟩
  · have qb := bI_t c4
    obtain ⟨j, ej, cj, jl⟩ := ix_c (m := 749) (by omega) qb
    refine ⟨_, _, rfl, rfl, ?_⟩
    refine ⟨_, _, rfl, rfl, ?_⟩
    rw [hC.1.hr]
    refine ⟨fun c17 => ?_, fun c17 => ?_⟩
    · have e0 : sp_found P f = P (2478 + j) := by unfold sp_found; rw [if_neg (fun z => z qb), if_neg c17, cj]
      have ho := hO.o (2478 + j) (Or.inr ⟨by omega, by omega⟩)
      refine ⟨_, _, rfl, rfl, ?_⟩
      refine ⟨_, _, rfl, rfl, ?_⟩
      refine ⟨_, _, j, rfl, ej, by omega, Nat.le_of_ble_eq_true rfl, ?_⟩
      rw [hC.1.fo j (by omega)]
      refine ⟨fun c32 => ?_, fun c32 => ?_⟩
      · rw [c32] at e0
        refine ⟨trivial, ?_⟩
        exact ⟨cg, fn, cx, by rw [e0], rfl, rfl, hC⟩
      · rw [ho.resolve_left c32] at e0
        refine ⟨trivial, ?_⟩
        exact ⟨cg, fn, cx, by rw [e0], rfl, rfl, hC⟩
    · have e0 : sp_found P f = -3 := by unfold sp_found; rw [if_neg (fun z => z qb), if_pos c17]
      refine ⟨trivial, ?_⟩
      exact ⟨cg, fn, cx, by rw [e0], rfl, rfl, hC⟩
  · have qa := bI_f c4
    refine ⟨trivial, ?_⟩
    exact ⟨cg, fn, cx, by unfold sp_found; rw [if_pos qa], rfl, rfl, hC⟩
