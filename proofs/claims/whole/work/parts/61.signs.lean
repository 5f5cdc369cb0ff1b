/-! the Tactician: signs, the end of a TRY -/
theorem bY_lo : ∀ w, w < 128 → bY (nI w) = nI w := by decide +kernel
theorem bY_hi : ∀ w, w < 256 → 128 ≤ w → bY (nI w) < 0 := by decide +kernel
def snC (B : Nat → Int32) (n i : Nat) : Int32 := if i < n then B i else 0
theorem snC_e {B : Nat → Int32} {n i : Nat} (h : tcW B n) {c : Int32} (c0 : ¬ c = 0) (c1 : ¬ c = -1) : snC B n i = c ↔ B i = c := by
  unfold snC
  by_cases q : i < n
  · rw [if_pos q]
  · rw [if_neg q, h.2.2 i (by omega)]
    exact ⟨fun w => absurd w.symm c0, fun w => absurd w.symm c1⟩
theorem tw_b {B : Nat → Int32} {n k : Nat} (h : tcW B n) (hk : k < n) : ∃ v, v < 128 ∧ B k = nI v := by
  obtain ⟨m, -, hg⟩ := h.2.1
  obtain ⟨o', m', o1, m1, -, hd⟩ := gd_dn hg (k + 1) (by omega)
  rcases hd with z | z | z | z | z
  · exact ⟨40, by omega, z.2.1⟩
  · obtain ⟨j, hj, -, hl⟩ := ix_c (v := B k) (m := 55) (by omega) ⟨Int32.le_trans (by decide) z.2.1.1, z.2.1.2⟩
    exact ⟨j, by omega, hj⟩
  · exact ⟨42, by omega, z.2.1⟩
  · exact ⟨41, by omega, z.2.1⟩
  · rcases z.2.1 with w | w
    · exact ⟨59, by omega, w⟩
    · exact ⟨124, by omega, w⟩
/-- a TACTIC that is run, and the office as it was -/
def plT (cg0 : sg_T) (P : Nat → Int32) (t n R C n0 : Nat) : Prop := BR 1 cg0 P ∧ wkA P R C n0 ∧ ltA P R C ∧ t < 6 ∧ P (1032 + t) = nI n ∧ tcW (bA P t) n
/-- while it runs: its FACTS and what is spent -/
def plI (cg0 : sg_T) (t n N : Nat) (cg : sg_T) (st : rs_T) : Prop := (∀ a, (a < 84 ∨ 90 < a) → cg a = cg0 a) ∧ wvP (cg 89) ∧ cg 90 2 = nI st.2 ∧ cg 90 3 = nI N ∧ cg 90 4 = nI (120 * t) ∧ cg 90 5 = nI n ∧ st.2 ≤ N ∧ N ≤ 200 ∧ lwF st.1 ∧ ∃ sz g, tkC st.2 cg sz g ∧ ∀ f, f < 750 → (st.1 f = true ↔ inR g sz f)
theorem plI.sz {cg0 cg : sg_T} {t n N : Nat} {st : rs_T} (h : plI cg0 t n N cg st) : cg 84 3 = nI (cnN st.1 750) ∧ cnN st.1 750 ≤ 750 := by
  obtain ⟨-, -, -, -, -, -, -, -, -, sz, g, ⟨-, -, c, hB, -⟩, hf⟩ := h
  have e : cnN st.1 750 = cnN (inB g sz) 750 := cnN_cg 750 (fun f f7 => b_iff (by rw [inB_t]; exact hf f f7))
  rw [e, cn_inj (fun i hi => (hB.2.2.1 i hi).1) hB.2.2.2.1]
  exact ⟨hB.1, hB.2.1⟩
theorem grw_cn {F F' : Nat → Bool} (h : leF F F') : grw F F' ↔ cnN F 750 < cnN F' 750 := by
  constructor
  · rintro ⟨f, f7, h1, h2⟩; exact cnF_lt h f7 h1 h2
  · intro hl
    by_cases q : grw F F'
    · exact q
    · have := cnN_mono (p := F) (q := F') 750 (fun k k7 hk => by
        cases e : F k with
        | true => rfl
        | false => exact absurd ⟨k, k7, e, hk⟩ q)
      omega
theorem c_signAt {cg0 cg : sg_T} {fn : Nat → Option Nat} {cx : cx_T} {P : Nat → Int32} {t n R C n0 N : Nat} {st : rs_T} (hT : plT cg0 P t n R C n0) (hI : plI cg0 t n N cg st) (d : Nat) {i : Nat} {v : Int32} (hv : v = nI i) (i1 : i ≤ 240) : am_Met mi_X9_signAt d 0 0 [.ref 90, .int v] (hc cg fn cx) (fun r' h' => r' = some (.int (snC (bA P t) n i)) ∧ h' = (hc cg fn cx)) := by
  refine am_Met.of rfl (Nat.le_of_ble_eq_true rfl) ?_
  refine am_go ok_X9_signAt [] 75 ?_
  have n1 := hT.2.2.2.2.2.1
  have t6 := hT.2.2.2.1
  have pnn := pn_of hT.2.2.2.2.1 (by omega)
  refine ⟨fun c1 => absurd c1 (by rw [hv]; exact nI_pos (by omega)), fun _ => ?_⟩
  refine ⟨_, _, rfl, rfl, ?_⟩
  rw [hI.2.2.2.2.2.1]
  refine ⟨fun c9 => ?_, fun c9 => ?_⟩
  · have q : ¬ i < n := fun w => absurd (by rw [hv] at c9; exact (nI_leI (by omega) (by omega)).mp c9) (by omega)
    have e : snC (bA P t) n i = 0 := by unfold snC; rw [if_neg q]
    refine ⟨trivial, ?_⟩
    exact ⟨by rw [e], rfl⟩
  · have q : i < n := by
      rcases Nat.lt_or_ge i n with q1 | q1
      · exact q1
      · exact absurd (by rw [hv]; exact (nI_leI (by omega) (by omega)).mpr q1) c9
    obtain ⟨w, w1, ew⟩ := tw_b hT.2.2.2.2.2 q
    have e : snC (bA P t) n i = nI w := by unfold snC; rw [if_pos q, ew]
    have ep : P (1038 + (120 * t + i)) = nI w := by rw [← ew]; unfold bA; rw [if_pos (by omega)]; congr 1; omega
    have e16 : cg 16 (120 * t + i) = nI w := by rw [hI.1 16 (by omega), hT.1.ab _ (by omega), ep, bY_lo w w1]
    refine ⟨_, _, rfl, rfl, ?_⟩
    refine ⟨_, _, rfl, rfl, ?_⟩
    refine ⟨_, _, rfl, rfl, ?_⟩
    rw [hI.2.2.2.2.1]
    refine ⟨_, _, (120 * t + i), rfl, (by rw [hv]; exact nI_add _ _), by omega, Nat.le_of_ble_eq_true rfl, ?_⟩
    rw [e16]
    refine ⟨trivial, ?_⟩
    exact ⟨by rw [e], rfl⟩
theorem c_et_e {cg0 cg : sg_T} {fn : Nat → Option Nat} {cx : cx_T} {P : Nat → Int32} {t n R C n0 N : Nat} {st : rs_T} (hT : plT cg0 P t n R C n0) (hI : plI cg0 t n N cg st) {d kc ks i : Nat} {vi vo vk : Int32} (hd : 1 ≤ d) (hk : vk = nI (bt0 (bA P t) i)) (hb : bt0 (bA P t) i ≤ n) : am_W mi_X9_endOfTry d (fun r' h' => r' = some (.int (nI (btE (bA P t) i))) ∧ h' = (hc cg fn cx)) kc ks 54 [some (.ref 90), some (.int vi), some (.int vo), some (.int vk)] [] (hc cg fn cx) := by
  refine am_go ok_X9_endOfTry [] 69 ?_
  have n1 := hT.2.2.2.2.2.1
  refine ⟨_, rfl, d - 1, 0, 0, _, by omega, Nat.le_of_ble_eq_true rfl, Nat.le_of_ble_eq_true rfl, Nat.le_of_ble_eq_true rfl, c_signAt hT hI (d - 1) hk (by omega), ?_⟩
  rintro _ _ ⟨rfl, rfl⟩
  refine ⟨Or.inl rfl, ?_⟩
  refine ⟨fun c61 => ?_, fun c61 => ?_⟩
  · have q : ¬ (bA P t) (bt0 (bA P t) i) = 42 := fun w => c61 ((snC_e hT.2.2.2.2.2 (by decide) (by decide)).mpr w)
    have e : btE (bA P t) i = bt0 (bA P t) i := by unfold btE; rw [if_neg q]
    refine ⟨trivial, ?_⟩
    exact ⟨by rw [e, hk]; try rw [nI_1], rfl⟩
  · have q : (bA P t) (bt0 (bA P t) i) = 42 := (snC_e hT.2.2.2.2.2 (by decide) (by decide)).mp c61
    have e : btE (bA P t) i = bt0 (bA P t) i + 1 := by unfold btE; rw [if_pos q]
    refine ⟨trivial, ?_⟩
    exact ⟨by rw [e, hk]; try rw [nI_1], rfl⟩
theorem c_et_l {cg0 cg : sg_T} {fn : Nat → Option Nat} {cx : cx_T} {P : Nat → Int32} {t n R C n0 N : Nat} {st : rs_T} (hT : plT cg0 P t n R C n0) (hI : plI cg0 t n N cg st) {d kc ks i o : Nat} {vi : Int32} (hd : 1 ≤ d) (hb : bt0 (bA P t) i ≤ n) : ∀ (u k e mk : Nat) (vo vk : Int32), vo = nI e → vk = nI k → gd (bA P t) k (o + e) mk → ((e = 0 ∧ mk = 0) ∨ 0 < e) → scN (bA P t) u k e = bt0 (bA P t) i → n < k + u → am_W mi_X9_endOfTry d (fun r' h' => r' = some (.int (nI (btE (bA P t) i))) ∧ h' = (hc cg fn cx)) kc ks 4 [some (.ref 90), some (.int vi), some (.int vo), some (.int vk)] [] (hc cg fn cx) := by
  intro u
  induction u with
  | zero => intro k e mk vo vk hvo hvk hg hc hs h2; exact absurd h2 (by have := (sc_st hT.2.2.2.2.2 hg hc).1; omega)
  | succ u ih =>
    intro k e mk vo vk hvo hvk hg hc hs h2
    refine am_go ok_X9_endOfTry [4, 54] 83 ?_
    have n1 := hT.2.2.2.2.2.1
    obtain ⟨kn, k41, m', gm, hm'⟩ := sc_st hT.2.2.2.2.2 hg hc
    have e6 := (gd_6 hg).1
    rw [scN_s] at hs
    refine ⟨_, _, rfl, rfl, ?_⟩
    rw [hI.2.2.2.2.2.1]
    refine ⟨fun c9 => absurd c9 (by rw [hvk]; exact fun w => absurd ((nI_leI (by omega) (by omega)).mp w) (by omega)), fun _ => ?_⟩
    refine ⟨_, rfl, d - 1, 0, 0, _, by omega, Nat.le_of_ble_eq_true rfl, Nat.le_of_ble_eq_true rfl, Nat.le_of_ble_eq_true rfl, c_signAt hT hI (d - 1) hvk (by omega), ?_⟩
    rintro _ _ ⟨rfl, rfl⟩
    refine ⟨Or.inl rfl, ?_⟩
    refine ⟨fun c20 => ?_, fun c20 => ?_⟩
    · have q : ¬ (bA P t) k = 40 := fun w => c20 ((snC_e hT.2.2.2.2.2 (by decide) (by decide)).mpr w)
      refine ⟨_, rfl, d - 1, 0, 0, _, by omega, Nat.le_of_ble_eq_true rfl, Nat.le_of_ble_eq_true rfl, Nat.le_of_ble_eq_true rfl, c_signAt hT hI (d - 1) hvk (by omega), ?_⟩
      rintro _ _ ⟨rfl, rfl⟩
      refine ⟨Or.inl rfl, ?_⟩
      refine ⟨fun c34 => ?_, fun c34 => ?_⟩
      · have q2 : ¬ (bA P t) k = 41 := fun w => c34 ((snC_e hT.2.2.2.2.2 (by decide) (by decide)).mpr w)
        have ee : scE (bA P t) k e = e := by unfold scE; rw [if_neg q, if_neg q2]
        have ev : vo + 0 = nI e := by rw [hvo]; exact nI_add e 0
        rw [ee] at hs gm hm'
        have e6' := (gd_6 gm).1
        refine ⟨fun c48 => ?_, fun c48 => ?_⟩
        · rw [ev] at c48
          have z := (nI_ltI (a := 0) (by omega) (by omega)).mp c48
          rw [if_neg (by omega)] at hs
          exact ih (k + 1) _ m' _ _ ev (by rw [hvk, nI_1]) gm (Or.inr z) hs (by omega)
        · rw [ev] at c48
          have z := Nat.eq_zero_or_pos _ |>.resolve_right (fun w => c48 ((nI_ltI (a := 0) (by omega) (by omega)).mpr w))
          rw [if_pos z] at hs
          exact c_et_e hT hI hd (by rw [hvk, nI_1, hs]) hb
      · have q2 : (bA P t) k = 41 := (snC_e hT.2.2.2.2.2 (by decide) (by decide)).mp c34
        have ee : scE (bA P t) k e = e - 1 := by unfold scE; rw [if_neg q, if_pos q2]
        have e0 := k41 q2
        have ev : vo + -1 = nI (e - 1) := by rw [hvo]; exact nI_dn e0
        rw [ee] at hs gm hm'
        have e6' := (gd_6 gm).1
        refine ⟨fun c48 => ?_, fun c48 => ?_⟩
        · rw [ev] at c48
          have z := (nI_ltI (a := 0) (by omega) (by omega)).mp c48
          rw [if_neg (by omega)] at hs
          exact ih (k + 1) _ m' _ _ ev (by rw [hvk, nI_1]) gm (Or.inr z) hs (by omega)
        · rw [ev] at c48
          have z := Nat.eq_zero_or_pos _ |>.resolve_right (fun w => c48 ((nI_ltI (a := 0) (by omega) (by omega)).mpr w))
          rw [if_pos z] at hs
          exact c_et_e hT hI hd (by rw [hvk, nI_1, hs]) hb
    · have q : (bA P t) k = 40 := (snC_e hT.2.2.2.2.2 (by decide) (by decide)).mp c20
      have ee : scE (bA P t) k e = e + 1 := by unfold scE; rw [if_pos q]
      have ev : vo + 1 = nI (e + 1) := by rw [hvo, nI_1]
      rw [ee] at hs gm hm'
      have e6' := (gd_6 gm).1
      refine ⟨fun c48 => ?_, fun c48 => ?_⟩
      · rw [ev] at c48
        have z := (nI_ltI (a := 0) (by omega) (by omega)).mp c48
        rw [if_neg (by omega)] at hs
        exact ih (k + 1) _ m' _ _ ev (by rw [hvk, nI_1]) gm (Or.inr z) hs (by omega)
      · rw [ev] at c48
        have z := Nat.eq_zero_or_pos _ |>.resolve_right (fun w => c48 ((nI_ltI (a := 0) (by omega) (by omega)).mpr w))
        rw [if_pos z] at hs
        exact c_et_e hT hI hd (by rw [hvk, nI_1, hs]) hb
theorem c_endOfTry {cg0 cg : sg_T} {fn : Nat → Option Nat} {cx : cx_T} {P : Nat → Int32} {t n R C n0 N : Nat} {st : rs_T} (hT : plT cg0 P t n R C n0) (hI : plI cg0 t n N cg st) {d i o : Nat} {vi : Int32} (hd : 1 ≤ d) (hv : vi = nI i) (hg : gd (bA P t) i o 0) : am_Met mi_X9_endOfTry d 0 0 [.ref 90, .int vi] (hc cg fn cx) (fun r' h' => r' = some (.int (nI (btE (bA P t) i))) ∧ h' = (hc cg fn cx)) := by
  refine am_Met.of rfl (Nat.le_of_ble_eq_true rfl) ?_
  refine am_go ok_X9_endOfTry [4] 64 ?_
  have n1 := hT.2.2.2.2.2.1
  obtain ⟨-, -, b3⟩ := sc_end (u := 121) hT.2.2.2.2.2 (o := o) (e := 0) hg (Or.inl ⟨rfl, rfl⟩) (by omega)
  exact c_et_l hT hI (o := o) hd b3 121 i 0 0 0 vi rfl hv hg (Or.inl ⟨rfl, rfl⟩) rfl (by omega)
