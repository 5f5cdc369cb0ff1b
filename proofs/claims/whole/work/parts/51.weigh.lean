/-! the Judge: weigh, papersUnder -/
/-- the Judge's cells alone differ -/
def frK (cg cg' : sg_T) : Prop := (∀ a, a < 78 ∨ 83 < a → cg' a = cg a) ∧ ∀ i, i < 5 → cg' 83 i = cg 83 i
theorem frK.rf {cg : sg_T} : frK cg cg := ⟨fun _ _ => rfl, fun _ _ => rfl⟩
theorem frK.tr {a b c : sg_T} (h : frK a b) (g : frK b c) : frK a c := ⟨fun i hi => (g.1 i hi).trans (h.1 i hi), fun i hi => (g.2 i hi).trans (h.2 i hi)⟩
theorem frJ.k {a b : sg_T} (h : frJ a b) : frK a b := ⟨fun i hi => h.1 i (by omega), h.2⟩
theorem frK.u {a b : sg_T} {c i : Nat} {x : Int32} (h : frK a b) (h1 : 78 ≤ c) (h2 : c < 83) : frK a (sg_u b c i x) := ⟨fun j hj => (sg_i (by omega)).trans (h.1 j hj), fun j hj => by rw [sg_i (by omega)]; exact h.2 j hj⟩
theorem nar_b (b : Bool) : vp_nar (am_aty 2) (bI b) = bI b := by cases b <;> rfl
theorem lk_13 {P : Nat → Int32} {tr : Nat → Bool} {dy : Int32} {R C n Q q s : Nat} (hW : wkA P R C n) (hA : pfA P R Q) (hq : q < Q) (hs : s < pn P (126 + q)) : lkV P tr dy q s ≤ 13 := by
  obtain ⟨-, -, r, m, -, -, -, -, -, -, -, t, -, t3, -, pt⟩ := ok_fc hW hA hq hs
  exact lkN_le (by omega)
def gdP (P : Nat → Int32) (tr : Nat → Bool) (dy : Int32) (p s : Nat) : Prop := ¬ pn P (126 + p) = 0 ∧ ∀ j, j < s → lkV P tr dy p j = 0
theorem gd_tk {P : Nat → Int32} {tr : Nat → Bool} {dy : Int32} {p : Nat} {b : Bool} (h : b = true ↔ (gdP P tr dy p (pn P (126 + p)) ∧ ¬ (pn P (114 + p) = 1 ∧ 0 < hoS P p (pn P (126 + p))))) : b = tkB P (lkV P tr dy) p := by
  apply b_iff
  rw [h]
  unfold tkB gdP
  rw [Bool.and_eq_true, Bool.and_eq_true, decide_eq_true_iff, decide_eq_true_iff, alN_i]
  constructor
  · rintro ⟨⟨h1, h2⟩, h3⟩; exact ⟨h1, h3, fun k hk => decide_eq_true (h2 k hk)⟩
  · rintro ⟨h1, h3, h2⟩; exact ⟨⟨h1, fun k hk => of_decide_eq_true (h2 k hk)⟩, h3⟩
theorem c_weigh_s {cg0 : sg_T} {fn : Nat → Option Nat} {cx : cx_T} {P : Nat → Int32} {d kc ks : Nat} (hd : 7 ≤ d) {R C n Q : Nat} (hW : wkA P R C n) (hA : pfA P R Q) (hB0 : BR 1 cg0 P) (hG0 : dgV (cg0 83)) {tr : Nat → Bool} {dy vq vp : Int32} {Qp : Option Value → am_H → Prop} {p : Nat} {z4 v5 : Int32} (h4 : z4 = nI p) (pQ : p < Q) (h5 : v5 = nI (pn P (126 + p))) (K : ∀ (cg : sg_T) (g : Bool) (t7 t8 : Option Value), frK cg0 cg → (∀ j, j < n → bq (cg 78 6) j = tr j) → jdT cg P tr dy p (pn P (126 + p)) → (g = true ↔ gdP P tr dy p (pn P (126 + p))) → am_W mi_X2_weigh d Qp kc ks 118 [some (.ref 78), some (.int vq), some (.int dy), some (.int vp), some (.int z4), some (.int v5), some (.int (bI g)), t7, t8] [] (hc cg fn cx)) : ∀ (u s : Nat) (z : Int32) (g : Bool) (t8 : Option Value) (cg : sg_T), z = nI s → frK cg0 cg → (∀ j, j < n → bq (cg 78 6) j = tr j) → jdT cg P tr dy p s → (g = true ↔ gdP P tr dy p s) → s ≤ pn P (126 + p) → pn P (126 + p) < s + u → am_W mi_X2_weigh d Qp kc ks 41 [some (.ref 78), some (.int vq), some (.int dy), some (.int vp), some (.int z4), some (.int v5), some (.int (bI g)), some (.int z), t8] [] (hc cg fn cx) := by
  intro u
  induction u with
  | zero => intro s z g t8 cg hz hF htr hJ hg h1 h2; exact absurd h2 (by omega)
  | succ u ih =>
    intro s z g t8 cg hz hF htr hJ hg h1 h2
    refine am_go ok_X2_weigh [41, 118] 99 ?_
    have hB : BR 1 cg P := BR_fr hW hB0 (fun a ha => hF.1 a (by omega))
    have hG : dgV (cg 83) := fun i hi => (hF.2 i hi).trans (hG0 i hi)
    obtain ⟨p12, -, st, st12, est, pst, -⟩ := pf_at hA pQ
    refine ⟨fun c45 => ?_, fun c45 => ?_⟩
    · have k1 : s = pn P (126 + p) := by rw [h5, hz] at c45; have := (nI_leI (by omega) (by omega)).mp c45; omega
      subst k1
      exact K cg g _ _ hF htr hJ hg
    · have k1 : s < pn P (126 + p) := by
        rcases Nat.lt_or_ge s (pn P (126 + p)) with z1 | z1
        · exact z1
        · exact absurd (by rw [h5, hz]; exact (nI_leI (by omega) (by omega)).mpr z1) c45
      have e8 : z4 * 12 + z = nI (12 * p + s) := by rw [h4, hz]; show nI p * nI 12 + nI s = _; rw [pk_mul, nI_add, Nat.mul_comm]
      refine ⟨_, _, rfl, rfl, ?_⟩
      refine ⟨_, rfl, d - 1, 0, 0, _, by omega, Nat.le_of_ble_eq_true rfl, Nat.le_of_ble_eq_true rfl, Nat.le_of_ble_eq_true rfl, c_factOfStep hB (by omega) hW hA hG h4 hz pQ k1, ?_⟩
      rintro _ _ ⟨rfl, cg2, rfl, hF2⟩
      refine ⟨Or.inl rfl, ?_⟩
      refine ⟨_, _, (12 * p + s), rfl, e8, by omega, Nat.le_of_ble_eq_true rfl, ?_⟩
      rw [hc_a80]
      have hF3 : frK cg0 (sg_u cg2 80 (12 * p + s) (nI (syN P dy p s))) := (hF.tr hF2.k).u (by omega) (by omega)
      have i1 : ∀ a, a ≠ 80 → a ≠ 83 → sg_u cg2 80 (12 * p + s) (nI (syN P dy p s)) a = cg a := fun a a1 a2 => (sg_i a1).trans (hF2.1 a a2)
      have i2 : ∀ j, j ≠ 12 * p + s → sg_u cg2 80 (12 * p + s) (nI (syN P dy p s)) 80 j = cg 80 j := fun j hj => (sg_j hj).trans (by rw [hF2.1 80 (by decide)])
      have i3 : sg_u cg2 80 (12 * p + s) (nI (syN P dy p s)) 80 (12 * p + s) = nI (syN P dy p s) := sg_s
      have hJ3 : jdT (sg_u cg2 80 (12 * p + s) (nI (syN P dy p s))) P tr dy p s := by
        refine ⟨fun j hj => ?_, fun q hq => ⟨?_, fun j hj => ?_⟩⟩
        · rw [i1 79 (by decide) (by decide), i2 _ (by omega)]; exact hJ.1 j hj
        · rw [i1 81 (by decide) (by decide)]; exact (hJ.2 q hq).1
        · obtain ⟨-, -, sq, sq12, -, psq, -⟩ := pf_at hA (show q < Q by omega)
          rw [i1 79 (by decide) (by decide), i2 _ (by omega)]; exact (hJ.2 q hq).2 j hj
      have htr3 : ∀ j, j < n → bq (sg_u cg2 80 (12 * p + s) (nI (syN P dy p s)) 78 6) j = tr j := by rw [i1 78 (by decide) (by decide)]; exact htr
      generalize sg_u cg2 80 (12 * p + s) (nI (syN P dy p s)) = cg3 at hF3 i3 hJ3 htr3 ⊢
      have hB3 : BR 1 cg3 P := BR_fr hW hB0 (fun a ha => hF3.1 a (by omega))
      have hG3 : dgV (cg3 83) := fun i hi => (hF3.2 i hi).trans (hG0 i hi)
      refine ⟨_, _, rfl, rfl, ?_⟩
      refine ⟨_, rfl, d - 1, 0, 0, _, by omega, Nat.le_of_ble_eq_true rfl, Nat.le_of_ble_eq_true rfl, Nat.le_of_ble_eq_true rfl, c_lackOf hB3 (by omega) hW hA hG3 h4 hz pQ k1 htr3 hJ3, ?_⟩
      rintro _ _ ⟨rfl, cg4, rfl, hF4⟩
      refine ⟨Or.inl rfl, ?_⟩
      refine ⟨_, _, (12 * p + s), rfl, e8, by omega, Nat.le_of_ble_eq_true rfl, ?_⟩
      rw [hc_a79]
      have l13 := lk_13 (tr := tr) (dy := dy) hW hA pQ k1
      have hF5 : frK cg0 (sg_u cg4 79 (12 * p + s) (nI (lkV P tr dy p s))) := (hF3.tr hF4.k).u (by omega) (by omega)
      have j1 : ∀ a, a ≠ 79 → a ≠ 83 → sg_u cg4 79 (12 * p + s) (nI (lkV P tr dy p s)) a = cg3 a := fun a a1 a2 => (sg_i a1).trans (hF4.1 a a2)
      have j2 : ∀ j, j ≠ 12 * p + s → sg_u cg4 79 (12 * p + s) (nI (lkV P tr dy p s)) 79 j = cg3 79 j := fun j hj => (sg_j hj).trans (by rw [hF4.1 79 (by decide)])
      have j3 : sg_u cg4 79 (12 * p + s) (nI (lkV P tr dy p s)) 79 (12 * p + s) = nI (lkV P tr dy p s) := sg_s
      have hJ5 : jdT (sg_u cg4 79 (12 * p + s) (nI (lkV P tr dy p s))) P tr dy p (s + 1) := by
        refine ⟨fun j hj => ?_, fun q hq => ⟨?_, fun j hj => ?_⟩⟩
        · rcases (show j = s ∨ j < s by omega) with e | e
          · rw [e, j3, j1 80 (by decide) (by decide), i3]; exact ⟨rfl, rfl⟩
          · rw [j2 _ (by omega), j1 80 (by decide) (by decide)]; exact hJ3.1 j e
        · rw [j1 81 (by decide) (by decide)]; exact (hJ3.2 q hq).1
        · obtain ⟨-, -, sq, sq12, -, psq, -⟩ := pf_at hA (show q < Q by omega)
          rw [j2 _ (by omega), j1 80 (by decide) (by decide)]; exact (hJ3.2 q hq).2 j hj
      have htr5 : ∀ j, j < n → bq (sg_u cg4 79 (12 * p + s) (nI (lkV P tr dy p s)) 78 6) j = tr j := by rw [j1 78 (by decide) (by decide)]; exact htr3
      generalize sg_u cg4 79 (12 * p + s) (nI (lkV P tr dy p s)) = cg5 at hF5 j3 hJ5 htr5 ⊢
      refine ⟨fun c92 => ?_, fun c92 => ?_⟩
      · have ng : ¬ gdP P tr dy p (s + 1) := fun w => absurd ((bI_0.mp c92).symm.trans (hg.mpr ⟨w.1, fun j hj => w.2 j (by omega)⟩)) (by decide)
        first
        | exact ih (s + 1) _ true _ cg5 (by rw [hz, nI_1]) hF5 htr5 hJ5 ⟨fun _ => ng, fun _ => rfl⟩ (by omega) (by omega)
        | exact ih (s + 1) _ false _ cg5 (by rw [hz, nI_1]) hF5 htr5 hJ5 ⟨fun w => absurd w (by decide), fun w => absurd w ng⟩ (by omega) (by omega)
      · have g1 : gdP P tr dy p s := hg.mp (by cases g; exact absurd rfl c92; rfl)
        refine ⟨_, _, rfl, rfl, ?_⟩
        refine ⟨_, _, (12 * p + s), rfl, e8, by omega, Nat.le_of_ble_eq_true rfl, ?_⟩
        rw [j3]
        refine ⟨fun c102 => ?_, fun c102 => ?_⟩
        · have ng : ¬ gdP P tr dy p (s + 1) := fun w => c102 (by rw [w.2 s (by omega)]; rfl)
          first
          | exact ih (s + 1) _ true _ cg5 (by rw [hz, nI_1]) hF5 htr5 hJ5 ⟨fun _ => ng, fun _ => rfl⟩ (by omega) (by omega)
          | exact ih (s + 1) _ false _ cg5 (by rw [hz, nI_1]) hF5 htr5 hJ5 ⟨fun w => absurd w (by decide), fun w => absurd w ng⟩ (by omega) (by omega)
        · have ng : gdP P tr dy p (s + 1) := ⟨g1.1, fun j hj => by
            rcases (show j = s ∨ j < s by omega) with e | e
            · rw [e]; exact (nI_eq (b := 0) (by omega) (by omega)).mp c102
            · exact g1.2 j e⟩
          first
          | exact ih (s + 1) _ true _ cg5 (by rw [hz, nI_1]) hF5 htr5 hJ5 ⟨fun _ => ng, fun _ => rfl⟩ (by omega) (by omega)
          | exact ih (s + 1) _ false _ cg5 (by rw [hz, nI_1]) hF5 htr5 hJ5 ⟨fun w => absurd w (by decide), fun w => absurd w ng⟩ (by omega) (by omega)
theorem c_weigh_e {cg0 : sg_T} {fn : Nat → Option Nat} {cx : cx_T} {P : Nat → Int32} {d kc ks : Nat} (hd : 7 ≤ d) {R C n Q : Nat} (hW : wkA P R C n) (hA : pfA P R Q) (hB0 : BR 1 cg0 P) (hG0 : dgV (cg0 83)) {tr : Nat → Bool} {dy vq vp : Int32} {Qp : Option Value → am_H → Prop} {p : Nat} {z4 v5 : Int32} {cg : sg_T} {g : Bool} {t7 t8 : Option Value} (h4 : z4 = nI p) (pQ : p < Q) (hF : frK cg0 cg) (hg : g = true ↔ gdP P tr dy p (pn P (126 + p))) (K : am_W mi_X2_weigh d Qp kc ks 8 [some (.ref 78), some (.int vq), some (.int dy), some (.int vp), some (.int (z4 + 1)), some (.int v5), some (.int (bI g)), t7, t8] [] (hc (sg_u cg 81 p (bI (tkB P (lkV P tr dy) p))) fn cx)) : am_W mi_X2_weigh d Qp kc ks 118 [some (.ref 78), some (.int vq), some (.int dy), some (.int vp), some (.int z4), some (.int v5), some (.int (bI g)), t7, t8] [] (hc cg fn cx) := by
  refine am_go ok_X2_weigh [8] 82 ?_
  have hB : BR 1 cg P := BR_fr hW hB0 (fun a ha => hF.1 a (by omega))
  have hG : dgV (cg 83) := fun i hi => (hF.2 i hi).trans (hG0 i hi)
  obtain ⟨p12, ⟨kd, kd5, ekd, pkd⟩, st, st12, est, pst, hr⟩ := pf_at hA pQ
  have hl : hoS P p (pn P (126 + p)) ≤ 36 := by
    have := hoS_le (P := P) (q := p) (s := pn P (126 + p)) (fun j hj => by obtain ⟨-, t, -, t3, -, pt⟩ := hr j (by omega); omega)
    omega
  refine ⟨_, _, rfl, rfl, ?_⟩
  refine ⟨fun c126 => ?_, fun c126 => ?_⟩
  · have eb : false = tkB P (lkV P tr dy) p := gd_tk ⟨fun w => absurd w (by decide), fun w => absurd ((bI_0.mp c126).symm.trans (hg.mpr w.1)) (by decide)⟩
    refine ⟨_, _, p, rfl, h4, by omega, Nat.le_of_ble_eq_true rfl, ?_⟩
    rw [hc_a81]
    rw [← eb] at K
    exact K
  · have g1 : gdP P tr dy p (pn P (126 + p)) := hg.mp (by cases g; exact absurd rfl c126; rfl)
    refine ⟨_, _, rfl, rfl, ?_⟩
    refine ⟨_, _, rfl, rfl, ?_⟩
    refine ⟨_, _, p, rfl, h4, by omega, Nat.le_of_ble_eq_true rfl, ?_⟩
    rw [hB.k p p12, ekd]
    refine ⟨fun c140 => ?_, fun c140 => ?_⟩
    · have eb : true = tkB P (lkV P tr dy) p := gd_tk ⟨fun _ => ⟨g1, fun w => by have := (nI_eq (b := 4) (by omega) (by omega)).mp c140; omega⟩, fun _ => rfl⟩
      refine ⟨_, _, p, rfl, h4, by omega, Nat.le_of_ble_eq_true rfl, ?_⟩
      rw [hc_a81]
      rw [← eb] at K
      exact K
    · refine ⟨_, _, rfl, rfl, ?_⟩
      refine ⟨_, rfl, d - 1, 0, 0, _, by omega, Nat.le_of_ble_eq_true rfl, Nat.le_of_ble_eq_true rfl, Nat.le_of_ble_eq_true rfl, c_holesOf hB (by omega) hA pQ h4, ?_⟩
      rintro _ _ ⟨rfl, rfl⟩
      refine ⟨Or.inl rfl, ?_⟩
      refine ⟨fun c152 => ?_, fun c152 => ?_⟩
      · have eb : false = tkB P (lkV P tr dy) p := by
          refine gd_tk ⟨fun w => absurd w (by decide), fun w => absurd ?_ c152⟩
          by_cases q1 : pn P (114 + p) = 1 ∨ pn P (114 + p) = 4
          · rw [if_pos q1]
            have k4 : ¬ kd = 4 := fun e => c140 (by rw [e]; rfl)
            rw [show hoS P p (pn P (126 + p)) = 0 by have := w.2; omega]; rfl
          · rw [if_neg q1]
        refine ⟨_, _, p, rfl, h4, by omega, Nat.le_of_ble_eq_true rfl, ?_⟩
        rw [hc_a81]
        rw [← eb] at K
        exact K
      · have eb : true = tkB P (lkV P tr dy) p := by
          refine gd_tk ⟨fun _ => ⟨g1, fun w => ?_⟩, fun _ => rfl⟩
          rw [if_pos (Or.inl w.1)] at c152
          have := (nI_eq (b := 0) (by omega) (by omega)).mp c152
          omega
        refine ⟨_, _, p, rfl, h4, by omega, Nat.le_of_ble_eq_true rfl, ?_⟩
        rw [hc_a81]
        rw [← eb] at K
        exact K
theorem jd_nx {cg : sg_T} {P : Nat → Int32} {tr : Nat → Bool} {dy : Int32} {R Q p : Nat} (hA : pfA P R Q) (hp : p < Q) (h : jdT cg P tr dy p (pn P (126 + p))) : jdT (sg_u cg 81 p (bI (tkB P (lkV P tr dy) p))) P tr dy (p + 1) 0 := by
  refine ⟨fun j hj => absurd hj (by omega), fun q hq => ⟨?_, fun j hj => ?_⟩⟩
  · rcases (show q = p ∨ q < p by omega) with e | e
    · rw [e]; exact sg_s
    · rw [sg_j (by omega)]; exact (h.2 q e).1
  · rw [sg_i (by decide), sg_i (by decide)]
    rcases (show q = p ∨ q < p by omega) with e | e
    · subst e; exact h.1 j hj
    · exact (h.2 q e).2 j hj
theorem c_weigh_p {cg0 : sg_T} {fn : Nat → Option Nat} {cx : cx_T} {P : Nat → Int32} {d kc ks : Nat} (hd : 7 ≤ d) {R C n Q : Nat} (hW : wkA P R C n) (hA : pfA P R Q) (hB0 : BR 1 cg0 P) (hG0 : dgV (cg0 83)) {tr : Nat → Bool} {dy vq vp : Int32} {q : Nat} (hq : vq = nI q) (qQ : q < Q) : ∀ (u p : Nat) (z4 : Int32) (t5 t6 t7 t8 : Option Value) (cg : sg_T), z4 = nI p → frK cg0 cg → (∀ j, j < n → bq (cg 78 6) j = tr j) → jdT cg P tr dy p 0 → p ≤ q + 1 → q + 1 < p + u → am_W mi_X2_weigh d (fun r' h' => r' = none ∧ ∃ cg', h' = hc cg' fn cx ∧ frK cg0 cg' ∧ jdT cg' P tr dy (q + 1) 0) kc ks 8 [some (.ref 78), some (.int vq), some (.int dy), some (.int vp), some (.int z4), t5, t6, t7, t8] [] (hc cg fn cx) := by
  intro u
  induction u with
  | zero => intro p z4 t5 t6 t7 t8 cg h4 hF htr hJ h1 h2; exact absurd h2 (by omega)
  | succ u ih =>
    intro p z4 t5 t6 t7 t8 cg h4 hF htr hJ h1 h2
    refine am_go ok_X2_weigh [8, 41] 76 ?_
    have hB : BR 1 cg P := BR_fr hW hB0 (fun a ha => hF.1 a (by omega))
    have hG : dgV (cg 83) := fun i hi => (hF.2 i hi).trans (hG0 i hi)
    have q12 := (pf_at hA qQ).1
    refine ⟨fun c11 => ?_, fun c11 => ?_⟩
    · have k1 : p = q + 1 := by rw [h4, hq] at c11; have := (nI_ltI (by omega) (by omega)).mp c11; omega
      subst k1
      exact ⟨rfl, cg, rfl, hF, hJ⟩
    · have k1 : p ≤ q := by
        rcases Nat.lt_or_ge q p with z1 | z1
        · exact absurd (by rw [h4, hq]; exact (nI_ltI (by omega) (by omega)).mpr z1) c11
        · exact z1
      obtain ⟨p12, -, st, st12, est, pst, -⟩ := pf_at hA (show p < Q by omega)
      refine ⟨_, _, rfl, rfl, ?_⟩
      refine ⟨_, _, rfl, rfl, ?_⟩
      refine ⟨_, _, p, rfl, h4, by omega, Nat.le_of_ble_eq_true rfl, ?_⟩
      rw [hB.s p p12, est]
      refine ⟨fun c28 => ?_, fun c28 => ?_⟩
      · have st0 : st = 0 := by have := (nI_leI (b := 0) (by omega) (by omega)).mp c28; omega
        first
        | exact c_weigh_s hd hW hA hB0 hG0 h4 (by omega) (by rw [pst]) (fun cg2 g t7' t8' f1 f2 f3 f4 => c_weigh_e hd hW hA hB0 hG0 h4 (by omega) f1 f4 (ih (p + 1) _ _ _ _ _ _ (by rw [h4, nI_1]) (f1.u (by omega) (by omega)) (by rw [sg_i (by decide)]; exact f2) (jd_nx hA (by omega) f3) (by omega) (by omega))) (pn P (126 + p) + 1) 0 0 true _ cg rfl hF htr hJ ⟨fun _ => ⟨by omega, fun j hj => absurd hj (by omega)⟩, fun _ => rfl⟩ (by omega) (by omega)
        | exact c_weigh_s hd hW hA hB0 hG0 h4 (by omega) (by rw [pst]) (fun cg2 g t7' t8' f1 f2 f3 f4 => c_weigh_e hd hW hA hB0 hG0 h4 (by omega) f1 f4 (ih (p + 1) _ _ _ _ _ _ (by rw [h4, nI_1]) (f1.u (by omega) (by omega)) (by rw [sg_i (by decide)]; exact f2) (jd_nx hA (by omega) f3) (by omega) (by omega))) (pn P (126 + p) + 1) 0 0 false _ cg rfl hF htr hJ ⟨fun w => absurd w (by decide), fun w => absurd (by omega) w.1⟩ (by omega) (by omega)
      · have st0 : ¬ st = 0 := fun e => c28 (by rw [e]; decide)
        first
        | exact c_weigh_s hd hW hA hB0 hG0 h4 (by omega) (by rw [pst]) (fun cg2 g t7' t8' f1 f2 f3 f4 => c_weigh_e hd hW hA hB0 hG0 h4 (by omega) f1 f4 (ih (p + 1) _ _ _ _ _ _ (by rw [h4, nI_1]) (f1.u (by omega) (by omega)) (by rw [sg_i (by decide)]; exact f2) (jd_nx hA (by omega) f3) (by omega) (by omega))) (pn P (126 + p) + 1) 0 0 true _ cg rfl hF htr hJ ⟨fun _ => ⟨by omega, fun j hj => absurd hj (by omega)⟩, fun _ => rfl⟩ (by omega) (by omega)
        | exact c_weigh_s hd hW hA hB0 hG0 h4 (by omega) (by rw [pst]) (fun cg2 g t7' t8' f1 f2 f3 f4 => c_weigh_e hd hW hA hB0 hG0 h4 (by omega) f1 f4 (ih (p + 1) _ _ _ _ _ _ (by rw [h4, nI_1]) (f1.u (by omega) (by omega)) (by rw [sg_i (by decide)]; exact f2) (jd_nx hA (by omega) f3) (by omega) (by omega))) (pn P (126 + p) + 1) 0 0 false _ cg rfl hF htr hJ ⟨fun w => absurd w (by decide), fun w => absurd (by omega) w.1⟩ (by omega) (by omega)
theorem c_weigh {cg : sg_T} {fn : Nat → Option Nat} {cx : cx_T} {P : Nat → Int32} (hB : BR 1 cg P) {d : Nat} (hd : 7 ≤ d) {R C n Q : Nat} (hW : wkA P R C n) (hA : pfA P R Q) (hG : dgV (cg 83)) {q : Nat} {vq dy vp : Int32} (hq : vq = nI q) (qQ : q < Q) {tr : Nat → Bool} (htr : ∀ j, j < n → bq vp j = tr j) : am_Met mi_X2_weigh d 0 0 [.ref 78, .int vq, .int dy, .int vp] (hc cg fn cx) (fun r' h' => r' = none ∧ ∃ cg', h' = hc cg' fn cx ∧ frK cg cg' ∧ jdT cg' P tr dy (q + 1) 0) := by
  refine am_Met.of rfl (Nat.le_of_ble_eq_true rfl) ?_
  refine am_go ok_X2_weigh [8] 65 ?_
  refine ⟨_, rfl, Nat.le_of_ble_eq_true rfl, trivial, ?_⟩
  rw [hc_f78_6]
  exact c_weigh_p hd hW hA hB hG hq qQ (q + 2) 0 0 none none none none _ rfl (frK.rf.u (by omega) (by omega)) (by rw [sg_s]; exact htr) ⟨fun j hj => absurd hj (by omega), fun p hp => absurd hp (by omega)⟩ (by omega) (by omega)
