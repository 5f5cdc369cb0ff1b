/-! RuleReader: TERMS, TESTS -/
def lmF (H : Nat → Int32) (a : Nat) : Nat → Int32
  | 0 => 0
  | m + 1 => lmF H a m ||| lM (H (a + 2 * (m + 1)))
def frT7 (t s : Nat) (cg cg' : sg_T) : Prop := ∀ c i, ¬ (c = 91 ∧ (i = 2 ∨ i = 4)) → ¬ (c = 18 + 3 * t ∧ i = 2) → ¬ (c = 19 + 3 * t ∧ 4 * s ≤ i ∧ i < 4 * s + 4) → cg' c i = cg c i
theorem rdB_f {P : Nat → Int32} {n : Nat} {cg cg' : sg_T} (h : rdB P n cg) (e3 : ∀ i, cg' 3 i = cg 3 i) (e1 : cg' 91 1 = cg 91 1) : rdB P n cg' := ⟨fun i hi => (e3 i).trans (h.1 i hi), h.2.1, h.2.2.1, h.2.2.2.1, e1.trans h.2.2.2.2⟩
theorem frT7.B {P : Nat → Int32} {n t s : Nat} {cg cg' : sg_T} (h : frT7 t s cg cg') (t20 : t < 20) (hB : rdB P n cg) : rdB P n cg' := rdB_f hB (fun i => h 3 i (by omega) (by omega) (by omega)) (h 91 1 (by omega) (by omega) (by omega))
def rtI (P : Nat → Int32) (t s a m : Nat) (cg0 cg : sg_T) : Prop := frT7 t s cg0 cg ∧ cg 91 2 = nI (a + 2 * m + 1) ∧ (∀ i, i < 2 * m + 1 → tmP i (hr P (a + i))) ∧ cg (19 + 3 * t) (4 * s) = shF (hr P a) ∧ (∀ j, 1 ≤ j → j ≤ m → cg (19 + 3 * t) (4 * s + j) = acI (hr P (a + 2 * j))) ∧ cg 91 4 = (if s = 3 then cg0 91 4 ||| lmF (hr P) a m else cg0 91 4) ∧ cg (18 + 3 * t) 2 = (if s = 3 then cg0 (18 + 3 * t) 2 else cg0 (18 + 3 * t) 2 ||| lmF (hr P) a m)
/-- a TERM is read -/
def rtD (P : Nat → Int32) (t s a : Nat) (cg0 cg : sg_T) : Prop := cg 91 2 = nI (a + 8) ∧ (∀ i, i < 8 → tmP i (hr P (a + i))) ∧ cg (19 + 3 * t) (4 * s) = shF (hr P a) ∧ (∀ j, 1 ≤ j → j ≤ 3 → cg (19 + 3 * t) (4 * s + j) = acI (hr P (a + 2 * j))) ∧ cg 91 4 = (if s = 3 then cg0 91 4 ||| lmF (hr P) a 3 else cg0 91 4) ∧ cg (18 + 3 * t) 2 = (if s = 3 then cg0 (18 + 3 * t) 2 else cg0 (18 + 3 * t) 2 ||| lmF (hr P) a 3)
def rtO (P : Nat → Int32) (t s a : Nat) (cg0 : sg_T) (b : Bool) (cg : sg_T) : Prop := frT7 t s cg0 cg ∧ ((b = true ∧ rtD P t s a cg0 cg) ∨ (b = false ∧ ∃ m, m < 8 ∧ cg 91 2 = nI (a + m) ∧ (∀ i, i < m → tmP i (hr P (a + i))) ∧ ¬ tmP m (hr P (a + m))))
theorem tm_o {m : Nat} {c : Int32} (h : m < 3) : tmP (2 * m + 1) c ↔ c = nI (if m = 0 then 40 else 44) := by
  rcases (show m = 0 ∨ m = 1 ∨ m = 2 by omega) with z | z | z <;> subst z <;> exact Iff.rfl
theorem tm_e {m : Nat} {c : Int32} (h : m < 3) : tmP (2 * m + 2) c ↔ arP c := by
  rcases (show m = 0 ∨ m = 1 ∨ m = 2 by omega) with z | z | z <;> subst z <;> exact Iff.rfl
theorem rt_s {P : Nat → Int32} {t s a m : Nat} {cg0 cg cg1 cg2 : sg_T} (t20 : t < 20) (m3 : m < 3) (h : rtI P t s a m cg0 cg) (e1 : cg1 = sg_u cg 91 2 (nI (a + 2 * m + 1 + 1))) (h1 : tmP (2 * m + 1) (hr P (a + (2 * m + 1)))) (h2 : arP (hr P (a + 2 * m + 1 + 1))) (hA : agO t (a + 2 * m + 1 + 1) (decide (s = 3)) (hr P (a + 2 * m + 1 + 1)) cg1 cg2) : rtI P t s a (m + 1) cg0 (sg_u cg2 (19 + 3 * t) (4 * s + (m + 1)) (acI (hr P (a + 2 * m + 1 + 1)))) := by
  obtain ⟨i1, i2, i3, i4, i5, i6, i7⟩ := h
  obtain ⟨a1, a2, a3, a4⟩ := hA
  have f2 : ∀ c i, ¬ (c = 91 ∧ (i = 2 ∨ i = 4)) → ¬ (c = 18 + 3 * t ∧ i = 2) → cg2 c i = cg c i := fun c i h1 h2 => by
    rw [a1 c i h1 h2, e1, sg_2 (fun z => h1 ⟨z.1, Or.inl z.2⟩)]
  have x4 : cg1 91 4 = cg 91 4 := by rw [e1, sg_j (by decide)]
  have x2 : cg1 (18 + 3 * t) 2 = cg (18 + 3 * t) 2 := by rw [e1, sg_i (by omega)]
  have eH : a + 2 * m + 1 + 1 = a + 2 * (m + 1) := by omega
  rw [eH] at h2 a3 a4 ⊢
  refine ⟨fun c i g1 g2 g3 => ?_, ?_, fun i hi => ?_, ?_, fun j j1 j2 => ?_, ?_, ?_⟩
  · rw [sg_2 (fun z => g3 ⟨z.1, by omega, by omega⟩), f2 c i g1 g2]; exact i1 c i g1 g2 g3
  · rw [sg_i (by omega), a2]; congr 1
  · rcases (show i < 2 * m + 1 ∨ i = 2 * m + 1 ∨ i = 2 * m + 2 by omega) with z | z | z
    · exact i3 i z
    · rw [z]; exact h1
    · rw [z, tm_e m3]; exact h2
  · rw [sg_j (by omega), f2 _ _ (by omega) (by omega)]; exact i4
  · rcases (show j = m + 1 ∨ j ≤ m by omega) with z | z
    · rw [z, sg_s]
    · rw [sg_j (by omega), f2 _ _ (by omega) (by omega)]; exact i5 j j1 z
  · rw [sg_i (by omega), a3, x4, i6]
    by_cases q : s = 3
    · rw [if_pos q, if_pos q, if_pos (decide_eq_true q), lmF]
      exact bq_ext (fun i _ => by rw [bq_or, bq_or, bq_or, bq_or, Bool.or_assoc])
    · rw [if_neg q, if_neg q, if_neg (by rw [decide_eq_false q]; decide)]
  · rw [sg_i (by omega), a4, x2, i7]
    by_cases q : s = 3
    · rw [if_pos q, if_pos q, if_pos (decide_eq_true q)]
    · rw [if_neg q, if_neg q, if_neg (by rw [decide_eq_false q]; decide), lmF]
      exact bq_ext (fun i _ => by rw [bq_or, bq_or, bq_or, bq_or, Bool.or_assoc])
theorem c_rt_l {cg0 : sg_T} {fn : Nat → Option Nat} {kx : Value × am_H} {P : Nat → Int32} {n t s a d kc ks : Nat} {vs : Int32} (hB0 : rdB P n cg0) (a1 : a ≤ 700) (t20 : t < 20) (hs : vs = nI s) (s3 : s ≤ 3) (hd : 6 ≤ d) {v2 : Int32} : ∀ (u m : Nat) (z : Int32) (cg : sg_T) (t4 : Option Value), z = nI (m + 1) → rtI P t s a m cg0 cg → m ≤ 3 → 3 < m + u → am_W mi_X7_readTerm d (fun r' h' => ∃ b cg', r' = some (.int (bI b)) ∧ h' = hc cg' fn (3, 18 + 3 * t, kx) ∧ rtO P t s a cg0 b cg') kc ks 37 [some (.ref 91), some (.int vs), some (.int v2), some (.int z), t4] [] (hc cg fn (3, 18 + 3 * t, kx)) := by
  intro u
  induction u with
  | zero => intro m z cg t4 hz hI h1 h2; exact absurd h2 (by omega)
  | succ u ih =>
    intro m z cg t4 hz hI h1 h2
    refine am_go ok_X7_readTerm [37] 93 ?_
    have hB := hI.1.B t20 hB0
    have hat := hI.2.1
    refine ⟨fun c39 => ?_, fun c39 => ?_⟩
    · have k1 : m = 3 := by rw [hz] at c39; have := (nI_ltI (a := 3) (by omega) (by omega)).mp c39; omega
      subst k1
      refine ⟨_, rfl, d - 1, 0, 0, _, by omega, Nat.le_of_ble_eq_true rfl, Nat.le_of_ble_eq_true rfl, Nat.le_of_ble_eq_true rfl, c_skip (k := 41) hB hat (by omega) (d - 1) rfl (by omega), ?_⟩
      rintro _ _ ⟨b, cg1, rfl, hb, ec, rfl⟩
      refine ⟨Or.inl rfl, ?_⟩
      refine ⟨bI_nar b, ?_⟩
      refine ⟨b, cg1, rfl, rfl, ?_⟩
      obtain ⟨i1, i2, i3, i4, i5, i6, i7⟩ := hI
      cases b with
      | true =>
        rw [if_pos rfl] at ec
        subst ec
        refine ⟨fun c i g1 g2 g3 => by rw [sg_2 (fun z => g1 ⟨z.1, Or.inl z.2⟩)]; exact i1 c i g1 g2 g3, Or.inl ⟨rfl, by rw [sg_s], fun i hi => ?_, by rw [sg_i (by omega)]; exact i4, fun j j1 j2 => by rw [sg_i (by omega)]; exact i5 j j1 j2, by rw [sg_j (by decide)]; exact i6, by rw [sg_i (by omega)]; exact i7⟩⟩
        rcases (show i < 7 ∨ i = 7 by omega) with z | z
        · exact i3 i z
        · rw [z]; exact hb.mp rfl
      | false =>
        rw [if_neg (by decide)] at ec
        subst ec
        exact ⟨i1, Or.inr ⟨rfl, 7, by omega, i2, fun i hi => i3 i (by omega), fun w => absurd (hb.mpr w) (by decide)⟩⟩
    · have k1 : m < 3 := by
        rcases Nat.lt_or_ge m 3 with q1 | q1
        · exact q1
        · exact absurd (by rw [hz]; exact (nI_ltI (a := 3) (by omega) (by omega)).mpr (by omega)) c39
      refine ⟨fun c45 => ?_, fun c45 => ?_⟩
      · have m0 : ¬ m = 0 := fun w => c45 (by rw [hz, w]; rfl)
        have ek : (44 : Int32) = nI (if m = 0 then 40 else 44) := by rw [if_neg m0]; rfl
        refine ⟨_, rfl, d - 1, 0, 0, _, by omega, Nat.le_of_ble_eq_true rfl, Nat.le_of_ble_eq_true rfl, Nat.le_of_ble_eq_true rfl, c_skip hB hat (by omega) (d - 1) ek (by split <;> omega), ?_⟩
        rintro _ _ ⟨b, cg1, rfl, hb, ec, rfl⟩
        refine ⟨Or.inl rfl, ?_⟩
        rw [← tm_o k1] at hb
        refine ⟨fun c58 => ?_, fun c58 => ?_⟩
        · have b0 : b = true := by cases b; exact absurd rfl c58; rfl
          rw [b0, if_pos rfl] at ec
          have hB1 : rdB P n cg1 := by rw [ec]; exact rdB_f hB (fun i => by rw [sg_i (by decide)]) (by rw [sg_j (by decide)])
          have at1 : cg1 91 2 = nI (a + 2 * m + 1 + 1) := by rw [ec, sg_s]
          refine ⟨fun c66 => ?_, fun c66 => ?_⟩
          · have ks : (0 : Int32) = bI (decide (s = 3)) := by rw [bI_df (fun w => c66 (by rw [hs, w]; rfl))]
            refine ⟨_, rfl, d - 1, 0, 0, _, by omega, Nat.le_of_ble_eq_true rfl, Nat.le_of_ble_eq_true rfl, Nat.le_of_ble_eq_true rfl, c_readArg hB1 at1 (by omega) (d := d - 1) (by omega) t20 (decide (s = 3)) ks, ?_⟩
            rintro _ _ ⟨cg2, rfl, rfl, hA⟩
            refine ⟨Or.inl rfl, ?_⟩
            have hac := ac_of (a := a + 2 * m + 1 + 1) hB1
            refine ⟨fun c81 => ?_, fun c81 => ?_⟩
            · have hp : arP (hr P (a + 2 * m + 1 + 1)) := by
                rcases hac with w | ⟨_, e⟩
                · exact w.1
                · rw [e] at c81; exact absurd c81 (by decide)
              have hO := hA.elim (fun w => w.2) (fun w => absurd hp w.1)
              have nx := rt_s t20 k1 hI ec (hb.mp b0) hp hO
              refine ⟨_, _, rfl, rfl, ?_⟩
              refine ⟨_, _, hc_nT t20, rfl, ?_⟩
              refine ⟨_, _, 4 * s + (m + 1), hc_nP t20, (by rw [hs, hz]; show nI 4 * nI s + nI (m + 1) = _; rw [pk_mul, nI_add]), by omega, Nat.le_of_ble_eq_true rfl, ?_⟩
              rw [hc_aP t20]
              exact ih (m + 1) _ _ _ (by rw [hz, nI_1]) nx (by omega) (by omega)
            · have np : ¬ arP (hr P (a + 2 * m + 1 + 1)) := by
                rcases hac with ⟨_, j, j9, ej⟩ | ⟨w, _⟩
                · rw [ej] at c81; exact absurd (nI_ge0 j (by omega)) c81
                · exact w
              have ec2 : cg2 = cg1 := hA.elim (fun w => absurd w.1 np) (fun w => w.2)
              subst ec2
              refine ⟨rfl, ?_⟩
              exact ⟨false, cg2, rfl, rfl, fun c i g1 g2 g3 => by rw [ec, sg_2 (fun z => g1 ⟨z.1, Or.inl z.2⟩)]; exact hI.1 c i g1 g2 g3, Or.inr ⟨rfl, 2 * m + 2, by omega, by rw [at1]; rfl, fun i hi => by rcases (show i < 2 * m + 1 ∨ i = 2 * m + 1 by omega) with z | z; exact hI.2.2.1 i z; rw [z]; exact hb.mp b0, fun w => np ((tm_e k1).mp w)⟩⟩
          · have ks : (1 : Int32) = bI (decide (s = 3)) := by rw [bI_dt ((nI_eq (b := 3) (by omega) (by omega)).mp (by rw [← hs]; exact c66))]
            refine ⟨_, rfl, d - 1, 0, 0, _, by omega, Nat.le_of_ble_eq_true rfl, Nat.le_of_ble_eq_true rfl, Nat.le_of_ble_eq_true rfl, c_readArg hB1 at1 (by omega) (d := d - 1) (by omega) t20 (decide (s = 3)) ks, ?_⟩
            rintro _ _ ⟨cg2, rfl, rfl, hA⟩
            refine ⟨Or.inl rfl, ?_⟩
            have hac := ac_of (a := a + 2 * m + 1 + 1) hB1
            refine ⟨fun c81 => ?_, fun c81 => ?_⟩
            · have hp : arP (hr P (a + 2 * m + 1 + 1)) := by
                rcases hac with w | ⟨_, e⟩
                · exact w.1
                · rw [e] at c81; exact absurd c81 (by decide)
              have hO := hA.elim (fun w => w.2) (fun w => absurd hp w.1)
              have nx := rt_s t20 k1 hI ec (hb.mp b0) hp hO
              refine ⟨_, _, rfl, rfl, ?_⟩
              refine ⟨_, _, hc_nT t20, rfl, ?_⟩
              refine ⟨_, _, 4 * s + (m + 1), hc_nP t20, (by rw [hs, hz]; show nI 4 * nI s + nI (m + 1) = _; rw [pk_mul, nI_add]), by omega, Nat.le_of_ble_eq_true rfl, ?_⟩
              rw [hc_aP t20]
              exact ih (m + 1) _ _ _ (by rw [hz, nI_1]) nx (by omega) (by omega)
            · have np : ¬ arP (hr P (a + 2 * m + 1 + 1)) := by
                rcases hac with ⟨_, j, j9, ej⟩ | ⟨w, _⟩
                · rw [ej] at c81; exact absurd (nI_ge0 j (by omega)) c81
                · exact w
              have ec2 : cg2 = cg1 := hA.elim (fun w => absurd w.1 np) (fun w => w.2)
              subst ec2
              refine ⟨rfl, ?_⟩
              exact ⟨false, cg2, rfl, rfl, fun c i g1 g2 g3 => by rw [ec, sg_2 (fun z => g1 ⟨z.1, Or.inl z.2⟩)]; exact hI.1 c i g1 g2 g3, Or.inr ⟨rfl, 2 * m + 2, by omega, by rw [at1]; rfl, fun i hi => by rcases (show i < 2 * m + 1 ∨ i = 2 * m + 1 by omega) with z | z; exact hI.2.2.1 i z; rw [z]; exact hb.mp b0, fun w => np ((tm_e k1).mp w)⟩⟩
        · have b0 : b = false := by cases b; rfl; exact absurd c58 (by decide)
          rw [b0, if_neg (by decide)] at ec
          subst ec
          refine ⟨rfl, ?_⟩
          exact ⟨false, _, rfl, rfl, hI.1, Or.inr ⟨rfl, 2 * m + 1, by omega, by rw [hat]; rfl, hI.2.2.1, fun w => absurd (b0.symm.trans (hb.mpr w)) (by decide)⟩⟩
      · have m0 : m = 0 := by have := (nI_eq (a := m + 1) (b := 1) (by omega) (by omega)).mp (by rw [← hz]; exact c45); omega
        have ek : (40 : Int32) = nI (if m = 0 then 40 else 44) := by rw [if_pos m0]; rfl
        refine ⟨_, rfl, d - 1, 0, 0, _, by omega, Nat.le_of_ble_eq_true rfl, Nat.le_of_ble_eq_true rfl, Nat.le_of_ble_eq_true rfl, c_skip hB hat (by omega) (d - 1) ek (by split <;> omega), ?_⟩
        rintro _ _ ⟨b, cg1, rfl, hb, ec, rfl⟩
        refine ⟨Or.inl rfl, ?_⟩
        rw [← tm_o k1] at hb
        refine ⟨fun c58 => ?_, fun c58 => ?_⟩
        · have b0 : b = true := by cases b; exact absurd rfl c58; rfl
          rw [b0, if_pos rfl] at ec
          have hB1 : rdB P n cg1 := by rw [ec]; exact rdB_f hB (fun i => by rw [sg_i (by decide)]) (by rw [sg_j (by decide)])
          have at1 : cg1 91 2 = nI (a + 2 * m + 1 + 1) := by rw [ec, sg_s]
          refine ⟨fun c66 => ?_, fun c66 => ?_⟩
          · have ks : (0 : Int32) = bI (decide (s = 3)) := by rw [bI_df (fun w => c66 (by rw [hs, w]; rfl))]
            refine ⟨_, rfl, d - 1, 0, 0, _, by omega, Nat.le_of_ble_eq_true rfl, Nat.le_of_ble_eq_true rfl, Nat.le_of_ble_eq_true rfl, c_readArg hB1 at1 (by omega) (d := d - 1) (by omega) t20 (decide (s = 3)) ks, ?_⟩
            rintro _ _ ⟨cg2, rfl, rfl, hA⟩
            refine ⟨Or.inl rfl, ?_⟩
            have hac := ac_of (a := a + 2 * m + 1 + 1) hB1
            refine ⟨fun c81 => ?_, fun c81 => ?_⟩
            · have hp : arP (hr P (a + 2 * m + 1 + 1)) := by
                rcases hac with w | ⟨_, e⟩
                · exact w.1
                · rw [e] at c81; exact absurd c81 (by decide)
              have hO := hA.elim (fun w => w.2) (fun w => absurd hp w.1)
              have nx := rt_s t20 k1 hI ec (hb.mp b0) hp hO
              refine ⟨_, _, rfl, rfl, ?_⟩
              refine ⟨_, _, hc_nT t20, rfl, ?_⟩
              refine ⟨_, _, 4 * s + (m + 1), hc_nP t20, (by rw [hs, hz]; show nI 4 * nI s + nI (m + 1) = _; rw [pk_mul, nI_add]), by omega, Nat.le_of_ble_eq_true rfl, ?_⟩
              rw [hc_aP t20]
              exact ih (m + 1) _ _ _ (by rw [hz, nI_1]) nx (by omega) (by omega)
            · have np : ¬ arP (hr P (a + 2 * m + 1 + 1)) := by
                rcases hac with ⟨_, j, j9, ej⟩ | ⟨w, _⟩
                · rw [ej] at c81; exact absurd (nI_ge0 j (by omega)) c81
                · exact w
              have ec2 : cg2 = cg1 := hA.elim (fun w => absurd w.1 np) (fun w => w.2)
              subst ec2
              refine ⟨rfl, ?_⟩
              exact ⟨false, cg2, rfl, rfl, fun c i g1 g2 g3 => by rw [ec, sg_2 (fun z => g1 ⟨z.1, Or.inl z.2⟩)]; exact hI.1 c i g1 g2 g3, Or.inr ⟨rfl, 2 * m + 2, by omega, by rw [at1]; rfl, fun i hi => by rcases (show i < 2 * m + 1 ∨ i = 2 * m + 1 by omega) with z | z; exact hI.2.2.1 i z; rw [z]; exact hb.mp b0, fun w => np ((tm_e k1).mp w)⟩⟩
          · have ks : (1 : Int32) = bI (decide (s = 3)) := by rw [bI_dt ((nI_eq (b := 3) (by omega) (by omega)).mp (by rw [← hs]; exact c66))]
            refine ⟨_, rfl, d - 1, 0, 0, _, by omega, Nat.le_of_ble_eq_true rfl, Nat.le_of_ble_eq_true rfl, Nat.le_of_ble_eq_true rfl, c_readArg hB1 at1 (by omega) (d := d - 1) (by omega) t20 (decide (s = 3)) ks, ?_⟩
            rintro _ _ ⟨cg2, rfl, rfl, hA⟩
            refine ⟨Or.inl rfl, ?_⟩
            have hac := ac_of (a := a + 2 * m + 1 + 1) hB1
            refine ⟨fun c81 => ?_, fun c81 => ?_⟩
            · have hp : arP (hr P (a + 2 * m + 1 + 1)) := by
                rcases hac with w | ⟨_, e⟩
                · exact w.1
                · rw [e] at c81; exact absurd c81 (by decide)
              have hO := hA.elim (fun w => w.2) (fun w => absurd hp w.1)
              have nx := rt_s t20 k1 hI ec (hb.mp b0) hp hO
              refine ⟨_, _, rfl, rfl, ?_⟩
              refine ⟨_, _, hc_nT t20, rfl, ?_⟩
              refine ⟨_, _, 4 * s + (m + 1), hc_nP t20, (by rw [hs, hz]; show nI 4 * nI s + nI (m + 1) = _; rw [pk_mul, nI_add]), by omega, Nat.le_of_ble_eq_true rfl, ?_⟩
              rw [hc_aP t20]
              exact ih (m + 1) _ _ _ (by rw [hz, nI_1]) nx (by omega) (by omega)
            · have np : ¬ arP (hr P (a + 2 * m + 1 + 1)) := by
                rcases hac with ⟨_, j, j9, ej⟩ | ⟨w, _⟩
                · rw [ej] at c81; exact absurd (nI_ge0 j (by omega)) c81
                · exact w
              have ec2 : cg2 = cg1 := hA.elim (fun w => absurd w.1 np) (fun w => w.2)
              subst ec2
              refine ⟨rfl, ?_⟩
              exact ⟨false, cg2, rfl, rfl, fun c i g1 g2 g3 => by rw [ec, sg_2 (fun z => g1 ⟨z.1, Or.inl z.2⟩)]; exact hI.1 c i g1 g2 g3, Or.inr ⟨rfl, 2 * m + 2, by omega, by rw [at1]; rfl, fun i hi => by rcases (show i < 2 * m + 1 ∨ i = 2 * m + 1 by omega) with z | z; exact hI.2.2.1 i z; rw [z]; exact hb.mp b0, fun w => np ((tm_e k1).mp w)⟩⟩
        · have b0 : b = false := by cases b; rfl; exact absurd c58 (by decide)
          rw [b0, if_neg (by decide)] at ec
          subst ec
          refine ⟨rfl, ?_⟩
          exact ⟨false, _, rfl, rfl, hI.1, Or.inr ⟨rfl, 2 * m + 1, by omega, by rw [hat]; rfl, hI.2.2.1, fun w => absurd (b0.symm.trans (hb.mpr w)) (by decide)⟩⟩
theorem c_readTerm {cg0 : sg_T} {fn : Nat → Option Nat} {kx : Value × am_H} {P : Nat → Int32} {n t s a d : Nat} {vs : Int32} (hB0 : rdB P n cg0) (a1 : a ≤ 700) (t20 : t < 20) (hs : vs = nI s) (s3 : s ≤ 3) (hd : 6 ≤ d) (hat : cg0 91 2 = nI a) : am_Met mi_X7_readTerm d 0 0 [.ref 91, .int vs] (hc cg0 fn (3, 18 + 3 * t, kx)) (fun r' h' => ∃ b cg', r' = some (.int (bI b)) ∧ h' = hc cg' fn (3, 18 + 3 * t, kx) ∧ rtO P t s a cg0 b cg') := by
  refine am_Met.of rfl (Nat.le_of_ble_eq_true rfl) ?_
  refine am_go ok_X7_readTerm [37] 82 ?_
  refine ⟨_, rfl, d - 1, 0, 0, _, by omega, Nat.le_of_ble_eq_true rfl, Nat.le_of_ble_eq_true rfl, Nat.le_of_ble_eq_true rfl, c_placeIn hB0 hat (by omega) (d := d - 1) (si := 0) (by omega) (by omega), ?_⟩
  rintro _ _ ⟨rfl, rfl⟩
  refine ⟨Or.inl rfl, ?_⟩
  rw [show plV 0 (hr P a) = shF (hr P a) from rfl]
  refine ⟨fun c8 => ?_, fun c8 => ?_⟩
  · have hp : tmP 0 (hr P (a + 0)) := c8
    refine ⟨_, _, rfl, rfl, ?_⟩
    rw [hat]
    refine ⟨_, rfl, Nat.le_of_ble_eq_true rfl, trivial, ?_⟩
    rw [hc_f91_2, nI_1]
    refine ⟨_, _, rfl, rfl, ?_⟩
    refine ⟨_, _, hc_nT t20, rfl, ?_⟩
    refine ⟨_, _, 4 * s, hc_nP t20, (by rw [hs]; exact pk_mul 4 s), by omega, Nat.le_of_ble_eq_true rfl, ?_⟩
    rw [hc_aP t20]
    refine c_rt_l hB0 a1 t20 hs s3 hd 4 0 1 _ none rfl ⟨fun c i g1 g2 g3 => ?_, ?_, fun i hi => ?_, ?_, fun j j1 j2 => absurd j2 (by omega), ?_, ?_⟩ (by omega) (by omega)
    · rw [sg_2 (fun z => g3 ⟨z.1, by omega, by omega⟩), sg_2 (fun z => g1 ⟨z.1, Or.inl z.2⟩)]
    · rw [sg_i (by omega), sg_s]
    · rw [show i = 0 by omega]; exact hp
    · rw [sg_s]
    · rw [sg_i (by omega), sg_j (by decide), lmF, or_0]; split <;> rfl
    · rw [sg_i (by omega), sg_i (by omega), lmF, or_0]; split <;> rfl
  · have np : ¬ tmP 0 (hr P (a + 0)) := c8
    refine ⟨rfl, ?_⟩
    exact ⟨false, cg0, rfl, rfl, fun _ _ _ _ _ => rfl, Or.inr ⟨rfl, 0, by omega, hat, fun i hi => absurd hi (by omega), np⟩⟩
theorem sg_all : ∀ w, w < 256 → (gnP (nI w) ∧ ∃ k, k < 3 ∧ sgX (nI w) = nI k) ∨ (¬ gnP (nI w) ∧ sgX (nI w) = -1) := by
  have h : ∀ w, w < 256 → ((nI w = 60 ∨ nI w = 61 ∨ nI w = 35) ∧ ∃ k, k < 3 ∧ sgX (nI w) = nI k) ∨ (¬ (nI w = 60 ∨ nI w = 61 ∨ nI w = 35) ∧ sgX (nI w) = -1) := by decide +kernel
  exact h
theorem sg_of {P : Nat → Int32} {n a : Nat} {cg : sg_T} (h : rdB P n cg) : (gnP (hr P a) ∧ ∃ k, k < 3 ∧ sgX (hr P a) = nI k) ∨ (¬ gnP (hr P a) ∧ sgX (hr P a) = -1) := by
  by_cases q : a < n
  · obtain ⟨w, w2, e1, -⟩ := rd_at h q
    rw [e1]; exact sg_all w w2
  · rw [rd_no h q]
    refine Or.inr ⟨?_, by decide⟩
    rintro (z | z | z) <;> exact absurd z (by decide)
def frC7 (t s : Nat) (cg cg' : sg_T) : Prop := ∀ c i, ¬ (c = 91 ∧ (i = 2 ∨ i = 4)) → ¬ (c = 20 + 3 * t ∧ 3 * s ≤ i ∧ i < 3 * s + 3) → cg' c i = cg c i
/-- a TEST is read -/
def rsD (P : Nat → Int32) (t s a : Nat) (cg0 cg : sg_T) : Prop := cg 91 2 = nI (a + 3) ∧ (∀ i, i < 3 → tsP i (hr P (a + i))) ∧ cg (20 + 3 * t) (3 * s) = acI (hr P a) ∧ cg (20 + 3 * t) (3 * s + 1) = sgX (hr P (a + 1)) ∧ cg (20 + 3 * t) (3 * s + 2) = acI (hr P (a + 2)) ∧ cg 91 4 = (cg0 91 4 ||| lM (hr P a)) ||| lM (hr P (a + 2))
def rsO7 (P : Nat → Int32) (t s a : Nat) (cg0 : sg_T) (b : Bool) (cg : sg_T) : Prop := frC7 t s cg0 cg ∧ ((b = true ∧ rsD P t s a cg0 cg) ∨ (b = false ∧ ∃ m, m < 3 ∧ cg 91 2 = nI (a + m) ∧ (∀ i, i < m → tsP i (hr P (a + i))) ∧ ¬ tsP m (hr P (a + m))))
theorem agO.f {t a : Nat} {c : Int32} {cg cg' : sg_T} (h : agO t a true c cg cg') : ∀ c i, ¬ (c = 91 ∧ (i = 2 ∨ i = 4)) → cg' c i = cg c i := fun c i g1 => by
  by_cases q : c = 18 + 3 * t ∧ i = 2
  · rw [q.1, q.2, h.2.2.2, if_pos rfl]
  · exact h.1 c i g1 q
theorem agO.B {P : Nat → Int32} {n t a : Nat} {c : Int32} {cg cg' : sg_T} (h : agO t a true c cg cg') (hB : rdB P n cg) : rdB P n cg' := rdB_f hB (fun i => h.f 3 i (by omega)) (h.f 91 1 (by omega))
theorem c_readTest {cg0 : sg_T} {fn : Nat → Option Nat} {kx : Value × am_H} {P : Nat → Int32} {n t s a d : Nat} {vs : Int32} (hB0 : rdB P n cg0) (a1 : a ≤ 700) (t20 : t < 20) (hs : vs = nI s) (s3 : s < 4) (hd : 6 ≤ d) (hat : cg0 91 2 = nI a) : am_Met mi_X7_readTest d 0 0 [.ref 91, .int vs] (hc cg0 fn (3, 18 + 3 * t, kx)) (fun r' h' => ∃ b cg', r' = some (.int (bI b)) ∧ h' = hc cg' fn (3, 18 + 3 * t, kx) ∧ rsO7 P t s a cg0 b cg') := by
  refine am_Met.of rfl (Nat.le_of_ble_eq_true rfl) ?_
  refine am_go ok_X7_readTest [] 113 ?_
  refine ⟨_, rfl, d - 1, 0, 0, _, by omega, Nat.le_of_ble_eq_true rfl, Nat.le_of_ble_eq_true rfl, Nat.le_of_ble_eq_true rfl, c_readArg hB0 hat (by omega) (d := d - 1) (by omega) t20 true rfl, ?_⟩
  rintro _ _ ⟨cg1, rfl, rfl, hA⟩
  refine ⟨Or.inl rfl, ?_⟩
  have hac := ac_of (a := a) hB0
  obtain ⟨a2, e2, b2, hB1⟩ : ∃ a2, cg1 91 2 = nI a2 ∧ a2 ≤ a + 1 ∧ rdB P n cg1 := by
    rcases hA with ⟨_, w⟩ | ⟨_, w⟩
    · exact ⟨a + 1, w.2.1, by omega, w.B hB0⟩
    · rw [w]; exact ⟨a, hat, by omega, hB0⟩
  refine ⟨_, rfl, d - 1, 0, 0, _, by omega, Nat.le_of_ble_eq_true rfl, Nat.le_of_ble_eq_true rfl, Nat.le_of_ble_eq_true rfl, c_placeIn hB1 e2 (by omega) (d := d - 1) (si := 2) (by omega) (by omega), ?_⟩
  rintro _ _ ⟨rfl, rfl⟩
  refine ⟨Or.inl rfl, ?_⟩
  rw [show plV 2 (hr P a2) = sgX (hr P a2) from rfl]
  refine ⟨fun c14 => ?_, fun c14 => ?_⟩
  · have np : ¬ arP (hr P a) := by
      rcases hac with ⟨_, j, j9, ej⟩ | ⟨w, _⟩
      · rw [ej] at c14; exact absurd c14 (nI_pos (by omega))
      · exact w
    have ec1 : cg1 = cg0 := hA.elim (fun w => absurd w.1 np) (fun w => w.2)
    have RR : rsO7 P t s a cg0 false cg1 := by
      rw [ec1]; exact ⟨fun _ _ _ _ => rfl, Or.inr ⟨rfl, 0, by omega, hat, fun i hi => absurd hi (by omega), np⟩⟩
    refine ⟨rfl, ?_⟩
    exact ⟨false, cg1, rfl, rfl, RR⟩
  · have hp : arP (hr P a) := by
      rcases hac with w | ⟨_, e⟩
      · exact w.1
      · rw [e] at c14; exact absurd (by decide) c14
    have hO := hA.elim (fun w => w.2) (fun w => absurd hp w.1)
    have ea2 : a2 = a + 1 := (nI_eq (by omega) (by omega)).mp (e2.symm.trans hO.2.1)
    subst ea2
    have hsg := sg_of (a := a + 1) hB1
    refine ⟨fun c18 => ?_, fun c18 => ?_⟩
    · have hg : gnP (hr P (a + 1)) := by
        rcases hsg with w | ⟨_, e⟩
        · exact w.1
        · rw [e] at c18; exact absurd c18 (by decide)
      refine ⟨_, _, rfl, rfl, ?_⟩
      rw [e2]
      refine ⟨_, rfl, Nat.le_of_ble_eq_true rfl, trivial, ?_⟩
      rw [hc_f91_2, nI_1]
      have hB2 : rdB P n (sg_u cg1 91 2 (nI (a + 1 + 1))) := rdB_f hB1 (fun i => by rw [sg_i (by decide)]) (by rw [sg_j (by decide)])
      refine ⟨_, rfl, d - 1, 0, 0, _, by omega, Nat.le_of_ble_eq_true rfl, Nat.le_of_ble_eq_true rfl, Nat.le_of_ble_eq_true rfl, c_readArg hB2 (a := a + 2) sg_s (by omega) (d := d - 1) (by omega) t20 true rfl, ?_⟩
      rintro _ _ ⟨cg2, rfl, rfl, hA2⟩
      refine ⟨Or.inl rfl, ?_⟩
      have hac2 := ac_of (a := a + 2) hB2
      refine ⟨fun c42 => ?_, fun c42 => ?_⟩
      · have hp2 : arP (hr P (a + 2)) := by
          rcases hac2 with w | ⟨_, e⟩
          · exact w.1
          · rw [e] at c42; exact absurd c42 (by decide)
        have hO2 := hA2.elim (fun w => w.2) (fun w => absurd hp2 w.1)
        refine ⟨_, _, rfl, rfl, ?_⟩
        refine ⟨_, _, hc_nT t20, rfl, ?_⟩
        refine ⟨_, _, 3 * s, hc_nC t20, (by rw [hs]; exact pk_mul 3 s), by omega, Nat.le_of_ble_eq_true rfl, ?_⟩
        rw [hc_aC t20]
        refine ⟨_, _, rfl, rfl, ?_⟩
        refine ⟨_, _, hc_nT t20, rfl, ?_⟩
        refine ⟨_, _, 3 * s + 1, hc_nC t20, (by rw [hs]; show nI 3 * nI s + nI 1 = _; rw [pk_mul, nI_add]), by omega, Nat.le_of_ble_eq_true rfl, ?_⟩
        rw [hc_aC t20]
        refine ⟨_, _, rfl, rfl, ?_⟩
        refine ⟨_, _, hc_nT t20, rfl, ?_⟩
        refine ⟨_, _, 3 * s + 2, hc_nC t20, (by rw [hs]; show nI 3 * nI s + nI 2 = _; rw [pk_mul, nI_add]), by omega, Nat.le_of_ble_eq_true rfl, ?_⟩
        rw [hc_aC t20]
        refine ⟨rfl, ?_⟩
        refine ⟨true, _, rfl, rfl, fun c i g1 g2 => ?_, Or.inl ⟨rfl, ?_, fun i hi => ?_, ?_, ?_, ?_, ?_⟩⟩
        · rw [sg_2 (fun z => g2 ⟨z.1, by omega, by omega⟩), sg_2 (fun z => g2 ⟨z.1, by omega, by omega⟩), sg_2 (fun z => g2 ⟨z.1, by omega, by omega⟩), hO2.f c i g1, sg_2 (fun z => g1 ⟨z.1, Or.inl z.2⟩)]; exact hO.f c i g1
        · rw [sg_i (by omega), sg_i (by omega), sg_i (by omega)]; exact hO2.2.1
        · rcases (show i = 0 ∨ i = 1 ∨ i = 2 by omega) with z | z | z
          · rw [z]; exact hp
          · rw [z]; exact hg
          · rw [z]; exact hp2
        · rw [sg_j (by omega), sg_j (by omega), sg_s]
        · rw [sg_j (by omega), sg_s]
        · rw [sg_s]
        · rw [sg_i (by omega), sg_i (by omega), sg_i (by omega), hO2.2.2.1, if_pos rfl, sg_j (by decide), hO.2.2.1, if_pos rfl]
      · have np : ¬ arP (hr P (a + 2)) := by
          rcases hac2 with ⟨_, j, j9, ej⟩ | ⟨w, _⟩
          · rw [ej] at c42; exact absurd (nI_ge0 j (by omega)) c42
          · exact w
        have ec2 : cg2 = sg_u cg1 91 2 (nI (a + 1 + 1)) := hA2.elim (fun w => absurd w.1 np) (fun w => w.2)
        refine ⟨rfl, ?_⟩
        exact ⟨false, cg2, rfl, rfl, fun c i g1 g2 => by rw [ec2, sg_2 (fun z => g1 ⟨z.1, Or.inl z.2⟩)]; exact hO.f c i g1, Or.inr ⟨rfl, 2, by omega, by rw [ec2, sg_s], fun i hi => by rcases (show i = 0 ∨ i = 1 by omega) with z | z; (rw [z]; exact hp); rw [z]; exact hg, np⟩⟩
    · have ng : ¬ gnP (hr P (a + 1)) := by
        rcases hsg with ⟨_, j, j9, ej⟩ | ⟨w, _⟩
        · rw [ej] at c18; exact absurd (nI_ge0 j (by omega)) c18
        · exact w
      have RR : rsO7 P t s a cg0 false cg1 := ⟨fun c i g1 g2 => hO.f c i g1, Or.inr ⟨rfl, 1, by omega, e2, fun i hi => by rw [show i = 0 by omega]; exact hp, ng⟩⟩
      refine ⟨rfl, ?_⟩
      exact ⟨false, cg1, rfl, rfl, RR⟩
