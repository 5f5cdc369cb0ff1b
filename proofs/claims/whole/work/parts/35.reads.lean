/-! reads, rule, change -/
/-- letters that the END and TESTS ask for -/
def tdF (X : Nat → Int32) (x : Nat) : Nat → Int32
  | 0 => ltF X (x + 27) 3
  | k + 1 => tdF X x k ||| (ltF X (x + 14 + 3 * k) 1 ||| ltF X (x + 16 + 3 * k) 1)
def bdL (X : Nat → Int32) (x nt ns : Nat) : Prop := ¬ tdF X x ns &&& (tlF X x nt ^^^ -1) = 0
/-- how 'reads' ends -/
def rdO (H X : Nat → Int32) (x : Nat) (v : Int32) : rdT → Prop
  | .inl c => v = nI c
  | .inr (nt, ns, tp, sp, e) => txK H X x nt ns tp sp ∧ 1 ≤ nt ∧ txE H X x e ∧ ((bdL X x nt ns ∧ v = 200) ∨ (¬ bdL X x nt ns ∧ v = -1))
def rdQ (x : Nat) (sg0 : sg_T) (res : rdT) (r : Option Value) (h' : am_H) : Prop := ∃ sg v, r = some (.int v) ∧ h' = hm sg ∧ frT x 30 sg0 sg ∧ rdO (hr (sg0 1)) (sg 1) x v res
theorem tp_n {P : Nat → Int32} (h : tpO P) : P 8 = nI (pn P 8) ∧ pn P 8 ≤ 120 := by
  obtain ⟨n, n1, hn⟩ := h
  have := pn_of hn (by omega)
  rw [this]; exact ⟨hn, n1⟩
theorem m_reads_l {sg0 sg : sg_T} {d kc ks : Nat} (hd : 20 ≤ d) {x nt ns e : Nat} {tp sp : Nat → Nat} {vx : Int32} (hv : vx = nI x) (hx : txB x (sg0 1)) (hF : frT x 30 sg0 sg) (hK : txK (hr (sg0 1)) (sg 1) x nt ns tp sp) (n1 : 1 ≤ nt) (hE : txE (hr (sg0 1)) (sg 1) x e) : ∀ (u k : Nat) (w z : Int32), z = nI k → w = tdF (sg 1) x k → k ≤ ns → ns < k + u → am_W mi_X12_reads d (rdQ x sg0 (.inr (nt, ns, tp, sp, e))) kc ks 180 [some (.ref 0), some (.int vx), some (.int w), some (.int z)] [] (hm sg) := by
  intro u
  induction u with
  | zero => intro k w z hz hw h1 h2; exact absurd h2 (by omega)
  | succ u ih =>
    intro k w z hz hw h1 h2
    refine am_go ok_X12_reads [180] 94 ?_
    have := hx.1; have := hx.2.1; have n3 := hK.2.2.1; have n4 := hK.2.2.2.1
    refine ⟨_, _, rfl, rfl, ?_⟩
    refine ⟨_, _, (x + 1), rfl, (by rw [hv]; exact nI_add x 1), by omega, Nat.le_of_ble_eq_true rfl, ?_⟩
    rw [hK.2.1]
    refine ⟨fun c189 => ?_, fun c189 => ?_⟩
    · rw [hz] at c189
      have k1 : k = ns := by have := (nI_leI (by omega) (by omega)).mp c189; omega
      subst k1
      refine ⟨_, rfl, d - 1, 0, 0, _, by omega, Nat.le_of_ble_eq_true rfl, Nat.le_of_ble_eq_true rfl, Nat.le_of_ble_eq_true rfl, m_termLetters (x := x) (n := nt) (by omega) hv hK.1 (by omega), ?_⟩
      rintro _ _ ⟨rfl, rfl⟩
      refine ⟨Or.inl rfl, ?_⟩
      refine ⟨fun c237 => ?_, fun c237 => ?_⟩
      · have hb : ¬ bdL (sg 1) x nt k := fun z => z (by rw [← hw]; exact c237)
        refine ⟨trivial, ?_⟩
        exact ⟨sg, _, rfl, rfl, hF, hK, n1, hE, by first | exact Or.inl ⟨hb, rfl⟩ | exact Or.inr ⟨hb, rfl⟩⟩
      · have hb : bdL (sg 1) x nt k := fun z => c237 (by rw [hw]; exact z)
        refine ⟨trivial, ?_⟩
        exact ⟨sg, _, rfl, rfl, hF, hK, n1, hE, by first | exact Or.inl ⟨hb, rfl⟩ | exact Or.inr ⟨hb, rfl⟩⟩
    · have k1 : k < ns := by
        rcases Nat.lt_or_ge k ns with q | q
        · exact q
        · exact absurd (by rw [hz]; exact (nI_leI (by omega) (by omega)).mpr q) c189
      refine ⟨_, rfl, d - 1, 0, 0, _, by omega, Nat.le_of_ble_eq_true rfl, Nat.le_of_ble_eq_true rfl, Nat.le_of_ble_eq_true rfl, m_lettersIn (fr := x + 14 + 3 * k) (n := 1) (d - 1) (by rw [hv, hz]; show nI x + nI 14 + nI 3 * nI k = _; rw [nI_add, pk_mul, nI_add]) rfl (by omega), ?_⟩
      rintro _ _ ⟨rfl, rfl⟩
      refine ⟨Or.inl rfl, ?_⟩
      refine ⟨_, rfl, d - 1, 0, 0, _, by omega, Nat.le_of_ble_eq_true rfl, Nat.le_of_ble_eq_true rfl, Nat.le_of_ble_eq_true rfl, m_lettersIn (fr := x + 16 + 3 * k) (n := 1) (d - 1) (by rw [hv, hz]; show nI x + nI 16 + nI 3 * nI k = _; rw [nI_add, pk_mul, nI_add]) rfl (by omega), ?_⟩
      rintro _ _ ⟨rfl, rfl⟩
      refine ⟨Or.inl rfl, ?_⟩
      exact ih (k + 1) _ _ (by rw [hz, nI_1]) (by rw [hw, tdF]) (by omega) (by omega)
theorem m_reads_f {sg0 sg : sg_T} {d kc ks : Nat} (hd : 20 ≤ d) {x c : Nat} {vx : Int32} {t2 t3 : Option Value} (hF : frT x 30 sg0 sg) (h4 : sg 0 4 = 1) (h3 : sg 0 3 = nI c) (c8 : c < 870) : am_W mi_X12_reads d (rdQ x sg0 (.inl c)) kc ks 121 [some (.ref 0), some (.int vx), t2, t3] [] (hm sg) := by
  refine am_go ok_X12_reads [] 71 ?_
  have e4 : eaF 62 sg = sg_u sg 0 4 1 := by unfold eaF; rw [if_neg (fun z => by rw [h4] at z; exact absurd z.1 (by decide))]
  refine ⟨_, rfl, d - 1, 0, 0, _, by omega, Nat.le_of_ble_eq_true rfl, Nat.le_of_ble_eq_true rfl, Nat.le_of_ble_eq_true rfl, m_eats (by omega) ⟨c, c8, h3⟩ 62, ?_⟩
  rintro _ _ ⟨rfl, rfl⟩
  refine ⟨Or.inl rfl, ?_⟩
  have f4 : eaF 62 sg 0 4 = 1 := by rw [e4, sg_s]
  have f3 : eaF 62 sg 0 3 = nI c := by rw [e4, sg_j (by decide)]; exact h3
  have fF : frT x 30 sg0 (eaF 62 sg) := by rw [e4]; exact hF.at4
  generalize eaF 62 sg = s1 at f4 f3 fF ⊢
  refine ⟨_, _, rfl, rfl, ?_⟩
  refine ⟨fun _ => ?_, fun c131 => absurd c131 (by rw [f4]; decide)⟩
  refine ⟨_, _, rfl, rfl, ?_⟩
  refine ⟨fun _ => ?_, fun c146 => absurd c146 (by rw [f4]; decide)⟩
  refine ⟨_, _, rfl, rfl, ?_⟩
  refine ⟨trivial, ?_⟩
  exact ⟨s1, _, rfl, rfl, fF, f3⟩
theorem m_reads_x {sg0 s1 : sg_T} {d kc ks : Nat} (hd : 20 ≤ d) {x c : Nat} {vx : Int32} {t2 t3 : Option Value} (fF : frT x 30 sg0 s1) (f4 : s1 0 4 = 1) (f3 : s1 0 3 = nI c) : am_W mi_X12_reads d (rdQ x sg0 (.inl c)) kc ks 142 [some (.ref 0), some (.int vx), t2, t3] [] (hm s1) := by
  refine am_go ok_X12_reads [] 65 ?_
  refine ⟨_, _, rfl, rfl, ?_⟩
  refine ⟨fun _ => ?_, fun c146 => absurd c146 (by rw [f4]; decide)⟩
  refine ⟨_, _, rfl, rfl, ?_⟩
  refine ⟨trivial, ?_⟩
  exact ⟨s1, _, rfl, rfl, fF, f3⟩
theorem m_reads_y {sg0 s2 : sg_T} {d kc ks : Nat} (hd : 20 ≤ d) {x a nt ns : Nat} {tp sp : Nat → Nat} {vx : Int32} {t2 t3 : Option Value} (hv : vx = nI x) (hx : txB x (sg0 1)) (g2 : frT x 30 sg0 s2) (hK2 : txK (hr (sg0 1)) (s2 1) x nt ns tp sp) (n0 : ¬ nt = 0) (q : hr (sg0 1) a = 62) (gI : (s2 0 4 = 0 ∧ s2 0 3 = nI (a + 1 + 8) ∧ (∀ i, i < 8 → tmP i (hr (sg0 1) (a + 1 + i))) ∧ ∀ i, i < 8 → tmC (hr (sg0 1)) (a + 1) (x + 26) i (s2 1)) ∨ (s2 0 4 = 1 ∧ ∃ m, m < 8 ∧ s2 0 3 = nI (a + 1 + m) ∧ (∀ i, i < m → tmP i (hr (sg0 1) (a + 1 + i))) ∧ ¬ tmP m (hr (sg0 1) (a + 1 + m)))) (a8 : a < 780) : am_W mi_X12_reads d (rdQ x sg0 (rdE (hr (sg0 1)) (pn (sg0 1) 8) a nt ns tp sp)) kc ks 142 [some (.ref 0), some (.int vx), t2, t3] [] (hm s2) := by
  refine am_go ok_X12_reads [180] 79 ?_
  have := hx.1; have := hx.2.1; have n3 := hK2.2.2.1; have n4 := hK2.2.2.2.1
  have q1 : ¬ (nt = 0 ∨ ¬ hr (sg0 1) a = 62) := fun z => z.elim n0 (fun w => w q)
  refine ⟨_, _, rfl, rfl, ?_⟩
  refine ⟨fun c146 => ?_, fun c146 => ?_⟩
  · obtain ⟨m, m8, z3, zp, zn⟩ : ∃ m, m < 8 ∧ s2 0 3 = nI (a + 1 + m) ∧ (∀ i, i < m → tmP i (hr (sg0 1) (a + 1 + i))) ∧ ¬ tmP m (hr (sg0 1) (a + 1 + m)) := by
      rcases gI with ⟨z, -⟩ | ⟨-, z⟩
      · exact absurd z c146
      · exact z
    have e8 : tmN (hr (sg0 1)) (a + 1) = m := ldN_at zp zn m8
    have er : rdE (hr (sg0 1)) (pn (sg0 1) 8) a nt ns tp sp = .inl (a + 1 + m) := by unfold rdE; rw [iF_n q1, iF_p (by omega), e8]
    rw [er]
    refine ⟨_, _, rfl, rfl, ?_⟩
    refine ⟨trivial, ?_⟩
    exact ⟨s2, _, rfl, rfl, g2, z3⟩
  · obtain ⟨z3, zp, zc⟩ : s2 0 3 = nI (a + 1 + 8) ∧ (∀ i, i < 8 → tmP i (hr (sg0 1) (a + 1 + i))) ∧ ∀ i, i < 8 → tmC (hr (sg0 1)) (a + 1) (x + 26) i (s2 1) := by
      rcases gI with ⟨-, z⟩ | ⟨z, -⟩
      · exact z
      · rw [c146] at z; exact absurd z (by decide)
    have e8 : tmN (hr (sg0 1)) (a + 1) = 8 := ldN_all zp
    have t8 := tp_n hx.2.2
    have e2 : s2 1 8 = nI (pn (sg0 1) 8) := (g2.2.2 8 (by omega)).trans t8.1
    refine ⟨_, _, rfl, rfl, ?_⟩
    refine ⟨_, _, rfl, rfl, ?_⟩
    refine ⟨_, _, 8, rfl, rfl, Nat.le_of_ble_eq_true rfl, Nat.le_of_ble_eq_true rfl, ?_⟩
    rw [e2]
    refine ⟨fun c160 => ?_, fun c160 => ?_⟩
    · have en : a + 9 = pn (sg0 1) 8 := (nI_eq (by omega) (by omega)).mp (by rw [← c160, z3])
      have er : rdE (hr (sg0 1)) (pn (sg0 1) 8) a nt ns tp sp = .inr (nt, ns, tp, sp, a + 1) := by
        unfold rdE; rw [iF_n q1, iF_n (by omega), iF_p en]
      rw [er]
      refine ⟨_, rfl, d - 1, 0, 0, _, by omega, Nat.le_of_ble_eq_true rfl, Nat.le_of_ble_eq_true rfl, Nat.le_of_ble_eq_true rfl, m_lettersIn (fr := x + 27) (n := 3) (d - 1) (by rw [hv]; exact nI_add x 27) rfl (by omega), ?_⟩
      rintro _ _ ⟨rfl, rfl⟩
      refine ⟨Or.inl rfl, ?_⟩
      exact m_reads_l hd hv hx g2 hK2 (by omega) (fun i hi => ⟨zp i hi, zc i hi⟩) (ns + 1) 0 _ 0 rfl rfl (by omega) (by omega)
    · have er : rdE (hr (sg0 1)) (pn (sg0 1) 8) a nt ns tp sp = .inl (a + 9) := by
        unfold rdE; rw [iF_n q1, iF_n (by omega), iF_n (fun z => c160 (by rw [z3, ← z]))]
      rw [er]
      refine ⟨_, _, rfl, rfl, ?_⟩
      refine ⟨trivial, ?_⟩
      exact ⟨s2, _, rfl, rfl, g2, z3⟩
theorem m_reads_t {sg0 sg : sg_T} {d kc ks : Nat} (hd : 20 ≤ d) {x a nt ns : Nat} {tp sp : Nat → Nat} {vx : Int32} {t2 t3 : Option Value} (hv : vx = nI x) (hx : txB x (sg0 1)) (hI : rdI x sg0 sg a nt ns tp sp) (a8 : a < 780) (n0 : ¬ nt = 0) : am_W mi_X12_reads d (rdQ x sg0 (rdE (hr (sg0 1)) (pn (sg0 1) 8) a nt ns tp sp)) kc ks 121 [some (.ref 0), some (.int vx), t2, t3] [] (hm sg) := by
  refine am_go ok_X12_reads [142] 71 ?_
  obtain ⟨hF, h4, h3, hK⟩ := hI
  have := hx.1; have := hx.2.1; have n3 := hK.2.2.1; have n4 := hK.2.2.2.1
  have hT : toP x 30 (sg0 1) := hx.to (Nat.le_refl _) (Nat.le_refl _)
  have hV1 : hV sg = hr (sg0 1) a := by rw [hV_h h3 (by omega) (fr_tp hF hT).2.2, fr_hr hF hT]
  have e4 : (hr (sg0 1) a = 62 ∧ eaF 62 sg = sg_u sg 0 3 (sg 0 3 + 1)) ∨ (¬ hr (sg0 1) a = 62 ∧ eaF 62 sg = sg_u sg 0 4 1) := by
    unfold eaF; rw [hV1]
    by_cases q : hr (sg0 1) a = 62
    · rw [if_pos ⟨h4, q⟩]; exact Or.inl ⟨q, rfl⟩
    · rw [if_neg (fun z => q z.2)]; exact Or.inr ⟨q, rfl⟩
  refine ⟨_, rfl, d - 1, 0, 0, _, by omega, Nat.le_of_ble_eq_true rfl, Nat.le_of_ble_eq_true rfl, Nat.le_of_ble_eq_true rfl, m_eats (by omega) ⟨a, by omega, h3⟩ 62, ?_⟩
  rintro _ _ ⟨rfl, rfl⟩
  refine ⟨Or.inl rfl, ?_⟩
  have f1 : frT x 30 sg0 (eaF 62 sg) ∧ eaF 62 sg 1 = sg 1 ∧ ((hr (sg0 1) a = 62 ∧ eaF 62 sg 0 4 = 0 ∧ eaF 62 sg 0 3 = nI (a + 1)) ∨ (¬ hr (sg0 1) a = 62 ∧ eaF 62 sg 0 4 = 1 ∧ eaF 62 sg 0 3 = nI a)) := by
    rcases e4 with ⟨q, e⟩ | ⟨q, e⟩
    · rw [e]; exact ⟨hF.at3, sg_i (by decide), Or.inl ⟨q, by rw [sg_j (by decide)]; exact h4, by rw [sg_s, h3, nI_1]⟩⟩
    · rw [e]; exact ⟨hF.at4, sg_i (by decide), Or.inr ⟨q, sg_s, by rw [sg_j (by decide)]; exact h3⟩⟩
  generalize eaF 62 sg = s1 at f1 ⊢
  obtain ⟨fF, f11, f2⟩ := f1
  refine ⟨_, _, rfl, rfl, ?_⟩
  refine ⟨fun c131 => ?_, fun c131 => ?_⟩
  · obtain ⟨q, f4, f3⟩ : ¬ hr (sg0 1) a = 62 ∧ s1 0 4 = 1 ∧ s1 0 3 = nI a := by
      rcases f2 with ⟨-, z, -⟩ | z
      · exact absurd z c131
      · exact z
    have er : rdE (hr (sg0 1)) (pn (sg0 1) 8) a nt ns tp sp = .inl a := by unfold rdE; rw [iF_p (Or.inr q)]
    rw [er]
    first
    | exact m_reads_x hd fF f4 f3
    | exact m_reads_y hd hv hx g2 hK2 n0 q gI a8
  · obtain ⟨q, f4, f3⟩ : hr (sg0 1) a = 62 ∧ s1 0 4 = 0 ∧ s1 0 3 = nI (a + 1) := by
      rcases f2 with z | ⟨-, z, -⟩
      · exact z
      · rw [c131] at z; exact absurd z (by decide)
    have q1 : ¬ (nt = 0 ∨ ¬ hr (sg0 1) a = 62) := fun z => z.elim n0 (fun w => w q)
    have eH : hr (s1 1) = hr (sg0 1) := funext (fr_hr fF hT)
    refine ⟨_, rfl, d - 1, 0, 0, _, by omega, Nat.le_of_ble_eq_true rfl, Nat.le_of_ble_eq_true rfl, Nat.le_of_ble_eq_true rfl, m_term (to := x + 26) (a := a + 1) (by omega) (by rw [hv]; exact nI_add x 26) ((show txB x (s1 1) from ⟨hx.1, hx.2.1, (fr_tp fF hT).2.2⟩).to (by omega) (by omega)) f4 f3 (by omega), ?_⟩
    rintro _ _ ⟨rfl, s2, rfl, gF, gI⟩
    refine ⟨Or.inl rfl, ?_⟩
    rw [eH] at gI
    have g2 : frT x 30 sg0 s2 := fF.tr (gF.wd (by omega) (by omega))
    have hK2 : txK (hr (sg0 1)) (s2 1) x nt ns tp sp := by
      have hk : ∀ j, ¬ (x + 26 ≤ j ∧ j < x + 26 + 4) → s2 1 j = sg 1 j := fun j hj => (gF.2.2 j hj).trans (by rw [f11])
      exact ⟨(hk _ (by omega)).trans hK.1, (hk _ (by omega)).trans hK.2.1, n3, n4, fun k hk1 i hi => ⟨(hK.2.2.2.2.1 k hk1 i hi).1, tmC_g (fun l hl => hk _ (by omega)) (hK.2.2.2.2.1 k hk1 i hi).2⟩, fun k hk1 => ⟨(hK.2.2.2.2.2 k hk1).1, fun i hi => ⟨((hK.2.2.2.2.2 k hk1).2 i hi).1, tsC_g (fun l hl => hk _ (by omega)) ((hK.2.2.2.2.2 k hk1).2 i hi).2⟩⟩⟩
    first
    | exact m_reads_x hd fF f4 f3
    | exact m_reads_y hd hv hx g2 hK2 n0 q gI a8
theorem m_reads_e {sg0 sg : sg_T} {d kc ks : Nat} (hd : 20 ≤ d) {x a nt ns : Nat} {tp sp : Nat → Nat} {vx : Int32} {t2 t3 : Option Value} (hv : vx = nI x) (hx : txB x (sg0 1)) (hI : rdI x sg0 sg a nt ns tp sp) (a8 : a < 780) : am_W mi_X12_reads d (rdQ x sg0 (rdE (hr (sg0 1)) (pn (sg0 1) 8) a nt ns tp sp)) kc ks 100 [some (.ref 0), some (.int vx), t2, t3] [] (hm sg) := by
  refine am_go ok_X12_reads [121] 71 ?_
  obtain ⟨hF, h4, h3, hK⟩ := hI
  have := hx.1; have := hx.2.1; have n3 := hK.2.2.1; have n4 := hK.2.2.2.1
  have hT : toP x 30 (sg0 1) := hx.to (Nat.le_refl _) (Nat.le_refl _)
  have hV1 : hV sg = hr (sg0 1) a := by rw [hV_h h3 (by omega) (fr_tp hF hT).2.2, fr_hr hF hT]
  refine ⟨_, _, rfl, rfl, ?_⟩
  refine ⟨fun c104 => absurd c104 (fun z => z h4), fun _ => ?_⟩
  refine ⟨_, _, rfl, rfl, ?_⟩
  refine ⟨_, _, x, rfl, hv, by omega, Nat.le_of_ble_eq_true rfl, ?_⟩
  rw [hK.1]
  refine ⟨fun c113 => ?_, fun c113 => ?_⟩
  · have n0 : ¬ nt = 0 := fun z => c113 (by rw [z]; rfl)
    first
      | exact m_reads_f hd hF.at4 sg_s (by rw [sg_j (by decide)]; exact h3) (by omega)
      | exact m_reads_t hd hv hx ⟨hF, h4, h3, hK⟩ a8 n0
  · have n0 : nt = 0 := (nI_eq (b := 0) (by omega) (by omega)).mp c113
    have er : rdE (hr (sg0 1)) (pn (sg0 1) 8) a nt ns tp sp = .inl a := by unfold rdE; rw [iF_p (Or.inl n0)]
    rw [er]
    refine ⟨_, rfl, Nat.le_of_ble_eq_true rfl, ⟨rfl, rfl⟩, ?_⟩
    rw [hm_f0_4]
    first
      | exact m_reads_f hd hF.at4 sg_s (by rw [sg_j (by decide)]; exact h3) (by omega)
      | exact m_reads_t hd hv hx ⟨hF, h4, h3, hK⟩ a8 n0
theorem m_reads_g {sg0 sg : sg_T} {d kc ks : Nat} (hd : 20 ≤ d) {x c : Nat} {vx : Int32} {t2 t3 : Option Value} (hF : frT x 30 sg0 sg) (h4 : sg 0 4 = 1) (h3 : sg 0 3 = nI c) (c8 : c < 870) : am_W mi_X12_reads d (rdQ x sg0 (.inl c)) kc ks 46 [some (.ref 0), some (.int vx), t2, t3] [] (hm sg) := by
  refine am_go ok_X12_reads [121] 66 ?_
  refine ⟨_, _, rfl, rfl, ?_⟩
  refine ⟨fun _ => ?_, fun c50 => absurd c50 (by rw [h4]; decide)⟩
  refine ⟨_, _, rfl, rfl, ?_⟩
  refine ⟨fun _ => ?_, fun c104 => absurd c104 (by rw [h4]; decide)⟩
  exact m_reads_f hd hF h4 h3 c8
theorem m_reads_p {sg0 : sg_T} {d kc ks : Nat} (hd : 40 ≤ d) {x : Nat} {vx : Int32} {t2 t3 : Option Value} (hv : vx = nI x) (hx : txB x (sg0 1)) : ∀ (u a nt ns : Nat) (tp sp : Nat → Nat) (sg : sg_T), rdI x sg0 sg a nt ns tp sp → a ≤ 9 * (nt + ns) → nt + ns + u = 8 → am_W mi_X12_reads d (rdQ x sg0 (rdF (hr (sg0 1)) (pn (sg0 1) 8) (u - 1) a nt ns tp sp)) kc ks 46 [some (.ref 0), some (.int vx), t2, t3] [] (hm sg) := by
  intro u
  induction u with
  | zero => intro a nt ns tp sp sg hI ha hu; exact absurd hu (by have := hI.2.2.2.2.2.1; have := hI.2.2.2.2.2.2.1; omega)
  | succ u ih =>
    intro a nt ns tp sp sg hI ha hu
    refine am_go ok_X12_reads [46, 100] 90 ?_
    obtain ⟨hF, h4, h3, hK⟩ := hI
    have := hx.1; have := hx.2.1; have n3 := hK.2.2.1; have n4 := hK.2.2.2.1
    have hT : toP x 30 (sg0 1) := hx.to (Nat.le_refl _) (Nat.le_refl _)
    have hV1 : hV sg = hr (sg0 1) a := by rw [hV_h h3 (by omega) (fr_tp hF hT).2.2, fr_hr hF hT]
    have hI : rdI x sg0 sg a nt ns tp sp := ⟨hF, h4, h3, hK⟩
    refine ⟨_, _, rfl, rfl, ?_⟩
    refine ⟨fun c50 => absurd c50 (fun z => z h4), fun _ => ?_⟩
    refine ⟨_, rfl, d - 1, 0, 0, _, by omega, Nat.le_of_ble_eq_true rfl, Nat.le_of_ble_eq_true rfl, Nat.le_of_ble_eq_true rfl, m_here (d - 1) ⟨a, by omega, h3⟩, ?_⟩
    rintro _ _ ⟨rfl, rfl⟩
    refine ⟨Or.inl rfl, ?_⟩
    refine ⟨fun c59 => ?_, fun c59 => ?_⟩
    · have er : rdF (hr (sg0 1)) (pn (sg0 1) 8) (u + 1 - 1) a nt ns tp sp = rdE (hr (sg0 1)) (pn (sg0 1) 8) a nt ns tp sp := by
        cases u with
        | zero => rfl
        | succ u => show iF _ _ _ = _; rw [iF_n (fun z => c59 (by rw [hV1]; exact z.1))]
      rw [er]
      exact m_reads_e (by omega) hv hx hI (by omega)
    · refine ⟨_, _, rfl, rfl, ?_⟩
      refine ⟨_, _, x, rfl, hv, by omega, Nat.le_of_ble_eq_true rfl, ?_⟩
      rw [hK.1]
      refine ⟨_, _, rfl, rfl, ?_⟩
      refine ⟨_, _, (x + 1), rfl, (by rw [hv]; exact nI_add x 1), by omega, Nat.le_of_ble_eq_true rfl, ?_⟩
      rw [hK.2.1]
      refine ⟨fun c79 => ?_, fun c79 => ?_⟩
      · have s7 : 7 ≤ nt + ns := by rw [nI_add] at c79; exact (nI_leI (a := 7) (by omega) (by omega)).mp c79
        have er : rdF (hr (sg0 1)) (pn (sg0 1) 8) (u + 1 - 1) a nt ns tp sp = rdE (hr (sg0 1)) (pn (sg0 1) 8) a nt ns tp sp := by
          cases u with
          | zero => rfl
          | succ u => show iF _ _ _ = _; rw [iF_n (fun z => absurd z.2 (by omega))]
        rw [er]
        exact m_reads_e (by omega) hv hx hI (by omega)
      · have s7 : nt + ns < 7 := by
          rcases Nat.lt_or_ge (nt + ns) 7 with q | q
          · exact q
          · exact absurd (by rw [nI_add]; exact (nI_leI (a := 7) (by omega) (by omega)).mpr q) c79
        obtain ⟨u, rfl⟩ : ∃ w, u = w + 1 := ⟨u - 1, by omega⟩
        have er : rdF (hr (sg0 1)) (pn (sg0 1) 8) (u + 1 + 1 - 1) a nt ns tp sp = rdP (hr (sg0 1)) (rdF (hr (sg0 1)) (pn (sg0 1) 8) u) (a + 1) nt ns tp sp := by
          show iF _ _ _ = _; rw [iF_p ⟨by rw [← hV1]; exact c59, s7⟩]
        rw [er]
        refine ⟨_, _, rfl, rfl, ?_⟩
        refine ⟨_, rfl, Nat.le_of_ble_eq_true rfl, trivial, ?_⟩
        rw [hm_f0_3]
        have hI2 : rdI x sg0 (sg_u sg 0 3 (sg 0 3 + 1)) (a + 1) nt ns tp sp := ⟨hF.at3, by rw [sg_j (by decide)]; exact h4, by rw [sg_s, h3, nI_1], by rw [sg_i (by decide)]; exact hK⟩
        generalize sg_u sg 0 3 (sg 0 3 + 1) = s1 at hI2 ⊢
        refine ⟨_, rfl, d - 1, 0, 0, _, by omega, Nat.le_of_ble_eq_true rfl, Nat.le_of_ble_eq_true rfl, Nat.le_of_ble_eq_true rfl, m_part (nt := nt) (ns := ns) (by omega) hv ⟨hx.1, hx.2.1, (fr_tp hI2.1 hT).2.2⟩ hI2.2.1 hI2.2.2.1 (by omega) hI2.2.2.2.1 hI2.2.2.2.2.1 n3 n4, ?_⟩
        rintro _ _ ⟨rfl, s2, rfl, hp⟩
        refine ⟨Or.inl rfl, ?_⟩
        rcases pt_end hx hI2 (by omega) hp with ⟨c, z4, zF, z3, c8, zr⟩ | ⟨a', nt', ns', tp', sp', zI, zn, za, zr⟩
        · rw [zr]; exact m_reads_g (by omega) zF z4 z3 c8
        · rw [zr]; exact ih a' nt' ns' tp' sp' s2 zI (by omega) (by omega)
theorem m_reads {sg0 : sg_T} {d : Nat} (hd : 50 ≤ d) {t : Nat} (h7 : sg0 1 7 = nI t) (t20 : t < 20) (ht : tpO (sg0 1)) : am_Met mi_X12_reads d 0 0 [.ref 0] (hm sg0) (rdQ (1758 + 30 * t) sg0 (rdA (hr (sg0 1)) (pn (sg0 1) 8))) := by
  refine am_Met.of rfl (Nat.le_of_ble_eq_true rfl) ?_
  refine am_go ok_X12_reads [46] 90 ?_
  have hx : txB (1758 + 30 * t) (sg0 1) := ⟨by omega, by omega, ht⟩
  have hT : toP (1758 + 30 * t) 30 (sg0 1) := hx.to (Nat.le_refl _) (Nat.le_refl _)
  have ex : (1758 : Int32) + 30 * nI t = nI (1758 + 30 * t) := by show nI 1758 + nI 30 * nI t = _; rw [pk_mul, nI_add]
  refine ⟨_, _, rfl, rfl, ?_⟩
  refine ⟨_, _, 7, rfl, rfl, Nat.le_of_ble_eq_true rfl, Nat.le_of_ble_eq_true rfl, ?_⟩
  rw [h7]
  refine ⟨_, rfl, Nat.le_of_ble_eq_true rfl, trivial, ?_⟩
  rw [hm_f0_3]
  refine ⟨_, rfl, Nat.le_of_ble_eq_true rfl, ⟨rfl, rfl⟩, ?_⟩
  rw [hm_f0_4]
  refine ⟨_, _, rfl, rfl, ?_⟩
  refine ⟨_, _, (1758 + 30 * t), rfl, ex, by omega, Nat.le_of_ble_eq_true rfl, ?_⟩
  rw [hm_a1]
  refine ⟨_, _, rfl, rfl, ?_⟩
  refine ⟨_, _, (1758 + 30 * t + 1), rfl, (by rw [ex]; exact nI_add _ 1), by omega, Nat.le_of_ble_eq_true rfl, ?_⟩
  rw [hm_a1]
  have hI : rdI (1758 + 30 * t) sg0 (sg_u (sg_u (sg_u (sg_u sg0 0 3 0) 0 4 0) 1 (1758 + 30 * t) 0) 1 (1758 + 30 * t + 1) 0) 0 0 0 (fun _ => 0) (fun _ => 0) := by
    refine ⟨((frT.rf.at3).at4.at1 (by omega) (by omega)).at1 (by omega) (by omega), by rw [sg_i (by decide), sg_i (by decide), sg_s], by rw [sg_i (by decide), sg_i (by decide), sg_j (by decide), sg_s]; rfl, by rw [sg_j (by omega), sg_s]; rfl, by rw [sg_s]; rfl, by omega, by omega, fun k hk => absurd hk (by omega), fun k hk => absurd hk (by omega)⟩
  generalize sg_u (sg_u (sg_u (sg_u sg0 0 3 0) 0 4 0) 1 (1758 + 30 * t) 0) 1 (1758 + 30 * t + 1) 0 = s1 at hI ⊢
  refine ⟨_, rfl, d - 1, 0, 0, _, by omega, Nat.le_of_ble_eq_true rfl, Nat.le_of_ble_eq_true rfl, Nat.le_of_ble_eq_true rfl, m_part (nt := 0) (ns := 0) (by omega) ex ⟨hx.1, hx.2.1, (fr_tp hI.1 hT).2.2⟩ hI.2.1 hI.2.2.1 (by omega) hI.2.2.2.1 hI.2.2.2.2.1 (by omega) (by omega), ?_⟩
  rintro _ _ ⟨rfl, s2, rfl, hp⟩
  refine ⟨Or.inl rfl, ?_⟩
  unfold rdA
  rcases pt_end hx hI (by omega) hp with ⟨c, z4, zF, z3, c8, zr⟩ | ⟨a', nt', ns', tp', sp', zI, zn, za, zr⟩
  · rw [zr]; exact m_reads_g (by omega) zF z4 z3 c8
  · rw [zr]; exact m_reads_p (by omega) ex hx 7 a' nt' ns' tp' sp' s2 zI (by omega) (by omega)
