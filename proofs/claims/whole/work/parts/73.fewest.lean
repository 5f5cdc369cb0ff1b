/-! the class's calls, on: enough, could -/
theorem set_nat {x : Int32} {n : Nat} (n20 : n ≤ 20) (h : ∀ i, n ≤ i → i < 32 → bq x i = false) : ∃ m, m < 2 ^ n ∧ x = nI m ∧ ∀ i, m.testBit i = bq x i := by
  have hb : ∀ i, x.toBitVec.toNat.testBit i = bq x i := fun i => BitVec.testBit_toNat x.toBitVec
  refine ⟨x.toBitVec.toNat, ?_, ?_, hb⟩
  · apply Nat.lt_pow_two_of_testBit
    intro i hi
    rw [hb]
    rcases Nat.lt_or_ge i 32 with q | q
    · exact h i hi q
    · exact bq_big q
  · exact bq_ext (fun i hi => by rw [bq_nI _ hi, hb])
theorem c_bc {h : am_H} (d : Nat) {x : Int32} (hx : ∀ i, 20 ≤ i → i < 32 → bq x i = false) : am_Met mi_J6_bitCount_0f7a4 d 0 0 [.int x] h (fun r h' => r = some (.int (nI (ctB x))) ∧ h' = h) := by
  obtain ⟨m, m20, e, hb⟩ := set_nat (Nat.le_refl 20) hx
  have := c_bitCount (h := h) d e m20
  rw [show (fun i => m.testBit i) = bq x from funext hb] at this
  exact this
theorem or_20 {p : Nat → Bool} {n i : Nat} (n20 : n ≤ 20) (h1 : 20 ≤ i) (h2 : i < 32) : bq (orB p n) i = false := by rw [bq_orB h2 (by omega), decide_eq_false (by omega), Bool.false_and]
theorem cl_20 {fo : Int32 → Bool} {had : Int32} {p : Nat → Bool} {n i : Nat} (n20 : n ≤ 20) (h1 : 20 ≤ i) (h2 : i < 32) : ∀ k, bq (clF fo had p n k) i = false
  | 0 => or_20 n20 h1 h2
  | k + 1 => by
    rw [clF]
    split
    · exact or_20 n20 h1 h2
    · exact cl_20 n20 h1 h2 k
theorem ct_or {q : Nat → Bool} {k : Nat} (k20 : k ≤ 20) : ctB (orB q k) = cnN q k := by
  unfold ctB
  have e : ∀ m, m ≤ 20 → cnN (bq (orB q k)) m = cnN q (if m < k then m else k) := by
    intro m
    induction m with
    | zero => intro _; rw [cnN]; split <;> first | rfl | (rw [show k = 0 by omega]; rfl)
    | succ m ih =>
      intro hm
      have hb := bq_orB (g := q) (i := m) (by omega) (show k ≤ 32 by omega)
      by_cases z : m < k
      · rw [decide_eq_true z, Bool.true_and] at hb
        have ih' := ih (by omega)
        rw [if_pos z] at ih'
        have e2 : (if m + 1 < k then m + 1 else k) = m + 1 := by split <;> omega
        rw [e2]
        cases e : q m with
        | true => rw [cnN_t e, cnN_t (hb.trans e), ih']
        | false => rw [cnN_f e, cnN_f (hb.trans e), ih']
      · rw [decide_eq_false z, Bool.false_and] at hb
        rw [cnN_f hb, ih (by omega), if_neg z, if_neg (by omega)]
  rw [e 20 (by omega)]
  split
  · omega
  · rfl
theorem c_fw_l {cx : cx_T} {P : Nat → Int32} {R C n Q T U d kc ks j : Nat} (hd : 440 ≤ d) (hO : okP P R C n Q T U) {f had vs : Int32} {p : Nat → Bool} {fo : Int32 → Bool} (ej : f = nI j) (j7 : j < 750) (hs : vs = orB p n) (m6 : cnN p n ≤ 6) (hfo : ∀ x, fo x = true ↔ rcP (syP P (P 0)) (baX P n x) j) (hy : fo (orB p n ||| had) = true) : ∀ (u k : Nat) (b l s : Int32) (cg : sg_T) (fn : Nat → Option Nat), b = clF fo had p n k → l = nI (64 - k) → s = suI p n k → clR cg P → k ≤ 2 ^ cnN p n - 1 → 2 ^ cnN p n - 1 < k + u → am_W mi_X11_fewest d (fun r' h' => ∃ cg' fn', r' = some (.int (fwB fo had (suI p n) (2 ^ cnN p n))) ∧ h' = hc cg' fn' cx ∧ clR cg' P) kc ks 24 [some (.ref 0), some (.int f), some (.int vs), some (.int had), some (.int b), some (.int l), some (.int s)] [] (hc cg fn cx) := by
  intro u
  induction u with
  | zero => intro k b l s cg fn hb hl hsb hC h1 h2; exact absurd h2 (by omega)
  | succ u ih =>
    intro k b l s cg fn hb hl hsb hC h1 h2
    refine am_go ok_X11_fewest [24] 87 ?_
    have n20 := hO.n3.2
    have K6 : 2 ^ cnN p n ≤ 64 := Nat.pow_le_pow_right (by omega) m6
    refine ⟨fun c27 => ?_, fun c27 => ?_⟩
    · have k1 : k = 2 ^ cnN p n - 1 := by
        rcases (show k = 2 ^ cnN p n - 1 ∨ k < 2 ^ cnN p n - 1 by omega) with z | z
        · exact z
        · exact absurd (by rw [← hsb, ← hs]; exact c27) (su_ct n20 z).2
      refine ⟨trivial, ?_⟩
      exact ⟨cg, fn, by rw [clF_y n20 hy, hb, k1], rfl, hC⟩
    · have k1 : k < 2 ^ cnN p n - 1 := by
        rcases (show k = 2 ^ cnN p n - 1 ∨ k < 2 ^ cnN p n - 1 by omega) with z | z
        · exact absurd (by rw [hsb, hs, z]; exact su_top n20) c27
        · exact z
      have einc : (s - vs) &&& vs = suI p n (k + 1) := by rw [hsb, hs]; exact su_inc n20
      have el : l + -1 = nI (64 - (k + 1)) := by rw [hl, nI_dn (by omega)]; congr 1
      refine ⟨fun c32 => absurd c32 (by rw [hl]; exact fun w => absurd ((nI_leI (b := 0) (by omega) (by omega)).mp w) (by omega)), fun _ => ?_⟩
      refine ⟨d - 1, 0, 0, _, by omega, Nat.le_of_ble_eq_true rfl, Nat.le_of_ble_eq_true rfl, Nat.le_of_ble_eq_true rfl, c_bc (x := s) (d - 1) (fun i i1 i2 => by rw [hsb]; exact or_20 n20 i1 i2), ?_⟩
      rintro _ _ ⟨rfl, rfl⟩
      refine ⟨Or.inl rfl, ?_⟩
      refine ⟨d - 1, 0, 0, _, by omega, Nat.le_of_ble_eq_true rfl, Nat.le_of_ble_eq_true rfl, Nat.le_of_ble_eq_true rfl, c_bc (x := b) (d - 1) (fun i i1 i2 => by rw [hb]; exact cl_20 n20 i1 i2 k), ?_⟩
      rintro _ _ ⟨rfl, rfl⟩
      refine ⟨Or.inl rfl, ?_⟩
      refine ⟨fun c48 => ?_, fun c48 => ?_⟩
      · have eb : b = clF fo had p n (k + 1) := by
          rw [clF, if_neg (fun w => ?_), hb]
          rw [hsb, hb] at c48
          have q1 := ctB_le (suI p n k)
          have q2 := ctB_le (clF fo had p n k)
          have := (nI_leI (by omega) (by omega)).mp c48
          omega
        have NX := fun b' l' s' e1 e2 e3 => ih (k + 1) b' l' s' cg fn e1 e2 e3 hC (by omega) (by omega)
        exact NX _ _ _ eb el einc
      · have lt : ctB (suI p n k) < ctB (clF fo had p n k) := by
          rw [hsb, hb] at c48
          have q1 := ctB_le (suI p n k)
          have q2 := ctB_le (clF fo had p n k)
          rcases Nat.lt_or_ge (ctB (suI p n k)) (ctB (clF fo had p n k)) with z | z
          · exact z
          · exact absurd ((nI_leI (by omega) (by omega)).mpr z) c48
        refine ⟨_, rfl, d - 1, 0, 0, _, by omega, Nat.le_of_ble_eq_true rfl, Nat.le_of_ble_eq_true rfl, Nat.le_of_ble_eq_true rfl, c_followsToday (d := d - 1) (by omega) hC hO ej j7, ?_⟩
        rintro _ _ ⟨b2, cg1, fn1, rfl, rfl, C1, hb2⟩
        refine ⟨Or.inl rfl, ?_⟩
        have hb3 : b2 = true ↔ fo (suI p n k ||| had) = true := by rw [hb2, hfo, hsb]
        have NX := fun b' l' s' e1 e2 e3 => ih (k + 1) b' l' s' cg1 fn1 e1 e2 e3 C1 (by omega) (by omega)
        refine ⟨fun c60 => ?_, fun c60 => ?_⟩
        · have eb : b = clF fo had p n (k + 1) := by
            rw [clF, if_neg (fun w => absurd ((bI_0.mp c60).symm.trans (hb3.mpr w.2)) (by decide)), hb]
          exact NX _ _ _ eb el einc
        · have eb : s = clF fo had p n (k + 1) := by
            rw [clF, if_pos ⟨lt, hb3.mp (by cases b2; exact absurd rfl c60; rfl)⟩, hsb]
          exact NX _ _ _ eb el einc
theorem or_f : ∀ n, orB (fun _ => false) n = 0
  | 0 => rfl
  | n + 1 => by rw [orB_s, if_neg (by decide), or_0]; exact or_f n
theorem fw_u {P : Nat → Int32} {n j : Nat} {had v : Int32} {p : Nat → Bool} {fo : Int32 → Bool} (n20 : n ≤ 20) (p3 : pn P 3 = n) (m6 : cnN p n ≤ 6) (hfo : ∀ x, fo x = true ↔ rcP (syP P (P 0)) (baX P n x) j) (h : fwR P j had p v) : v = fwB fo had (suI p n) (2 ^ cnN p n) := by
  obtain ⟨fo', A, h1, h2, h3⟩ := h
  unfold foR at h1
  rw [p3] at h1 h2 h3
  rw [h3]
  exact fwB_cg (fun x => b_iff (by rw [h1 x, hfo x])) (fun k => eI_sb n20 m6 h2) _
theorem in_set {x : Int32} {n : Nat} (n20 : n ≤ 20) : (∀ i, n ≤ i → i < 32 → bq x i = false) ↔ (¬ x < 0 ∧ ¬ nI (2 ^ n) ≤ x) := by
  have h20 : 2 ^ n ≤ 2 ^ 20 := Nat.pow_le_pow_right (by omega) n20
  constructor
  · intro h
    obtain ⟨m, m1, e, -⟩ := set_nat n20 h
    rw [e]
    exact ⟨nI_pos (by omega), fun w => absurd ((nI_leI (by omega) (by omega)).mp w) (by omega)⟩
  · rintro ⟨h1, h2⟩ i i1 i2
    obtain ⟨m, m1, e⟩ := nI_of h1
    have m2 : m < 2 ^ n := by
      rcases Nat.lt_or_ge m (2 ^ n) with z | z
      · exact z
      · exact absurd (by rw [e]; exact (nI_leI (by omega) (by omega)).mpr z) h2
    rw [e, bq_nI _ i2]
    exact Nat.testBit_lt_two_pow (Nat.lt_of_lt_of_le m2 (Nat.pow_le_pow_right (by omega) i1))
theorem sub_tp {P : Nat → Int32} {R C n Q T U : Nat} {x : Int32} (hO : okP P R C n Q T U) : x &&& (tpX P ^^^ -1) = 0 ↔ (¬ x < 0 ∧ ¬ nI (2 ^ n) ≤ x ∧ ¬ ∃ k, k < n ∧ bq x k = true ∧ P (94 + k) = 1) := by
  have n20 := hO.n3.2
  have hb : ∀ i, i < 32 → bq (x &&& (tpX P ^^^ -1)) i = (bq x i && !(decide (i < n) && decide (P (94 + i) = 0))) := fun i hi => by
    rw [bq_and, bq_xor, bq_m1 i hi, tp_bit hO.n3.1 n20 hi]; simp
  constructor
  · intro h
    have h0 : ∀ i, i < 32 → bq x i = true → i < n ∧ P (94 + i) = 0 := fun i hi hx => by
      have := hb i hi
      rw [h, bq_0, hx, Bool.true_and] at this
      by_cases q : i < n
      · rw [decide_eq_true q, Bool.true_and] at this
        by_cases q2 : P (94 + i) = 0
        · exact ⟨q, q2⟩
        · rw [decide_eq_false q2] at this; exact absurd this (by decide)
      · rw [decide_eq_false q, Bool.false_and] at this; exact absurd this (by decide)
    have h1 := (in_set n20).mp (fun i i1 i2 => by
      cases e : bq x i with
      | false => rfl
      | true => exact absurd (h0 i i2 e).1 (by omega))
    exact ⟨h1.1, h1.2, fun ⟨k, k1, k2, k3⟩ => absurd ((h0 k (by omega) k2).2.symm.trans k3) (by decide)⟩
  · rintro ⟨h1, h2, h3⟩
    have h4 := (in_set n20).mpr ⟨h1, h2⟩
    refine bq_ext (fun i hi => ?_)
    rw [hb i hi, bq_0]
    cases e : bq x i with
    | false => rfl
    | true =>
      have q : i < n := by
        rcases Nat.lt_or_ge i n with z | z
        · exact z
        · rw [h4 i z hi] at e; exact absurd e (by decide)
      have q2 : P (94 + i) = 0 := (hO.f i (by omega)).resolve_right (fun z => h3 ⟨i, q, e, z⟩)
      rw [decide_eq_true q, decide_eq_true q2]; rfl
theorem c_fewest {cx : cx_T} {P : Nat → Int32} {R C n Q T U d j : Nat} (hd : 440 ≤ d) (hO : okP P R C n Q T U) {f had vs : Int32} {p : Nat → Bool} {fo : Int32 → Bool} (ej : f = nI j) (j7 : j < 750) (hs : vs = orB p n) (m6 : cnN p n ≤ 6) (hfo : ∀ x, fo x = true ↔ rcP (syP P (P 0)) (baX P n x) j) {cg : sg_T} {fn : Nat → Option Nat} (hC : clR cg P) : am_Met mi_X11_fewest d 0 0 [.ref 0, .int f, .int vs, .int had] (hc cg fn cx) (fun r' h' => ∃ cg' fn', r' = some (.int (fwB fo had (suI p n) (2 ^ cnN p n))) ∧ h' = hc cg' fn' cx ∧ clR cg' P) := by
  refine am_Met.of rfl (Nat.le_of_ble_eq_true rfl) ?_
  refine am_go ok_X11_fewest [24] 73 ?_
  have n20 := hO.n3.2
  refine ⟨_, rfl, d - 1, 0, 0, _, by omega, Nat.le_of_ble_eq_true rfl, Nat.le_of_ble_eq_true rfl, Nat.le_of_ble_eq_true rfl, c_followsToday (d := d - 1) (by omega) hC hO ej j7, ?_⟩
  rintro _ _ ⟨b2, cg1, fn1, rfl, rfl, C1, hb2⟩
  refine ⟨Or.inl rfl, ?_⟩
  have hb3 : b2 = true ↔ fo (orB p n ||| had) = true := by rw [hb2, hfo, hs]
  refine ⟨fun c8 => ?_, fun c8 => ?_⟩
  · have hy := hb3.mp (show b2 = true by cases b2; exact absurd rfl c8; rfl)
    exact c_fw_l hd hO ej j7 hs m6 hfo hy (2 ^ cnN p n + 1) 0 _ _ _ cg1 fn1 hs rfl (by unfold suI; rw [show orB (xsB p 0) n = orB (fun _ => false) n from orB_cg (fun i _ => by show (p i && (0 : Nat).testBit (cnN p i)) = false; rw [Nat.zero_testBit, Bool.and_false])]; exact (or_f n).symm) C1 (Nat.zero_le _) (by have : 0 < 2 ^ cnN p n := Nat.pow_pos (by omega); omega)
  · have ny : ¬ fo (orB p n ||| had) = true := fun w => absurd ((show b2 = false by cases b2; rfl; exact absurd c8 (by decide)).symm.trans (hb3.mpr w)) (by decide)
    refine ⟨trivial, ?_⟩
    refine ⟨cg1, fn1, ?_, rfl, C1⟩
    rw [fwB_0 (fun k => ?_)]
    cases e : fo (had ||| suI p n k) with
    | false => rfl
    | true =>
      refine absurd ((hfo _).mpr (rc_mono (fun g hg => ?_) ((hfo _).mp e))) ny
      refine baX_m (fun i hi h => ?_) hg
      rw [bq_or, Bool.or_eq_true] at h ⊢
      exact h.elim Or.inr (fun z => Or.inl (su_le n20 (by omega) z))
theorem c_enough {cg : sg_T} {fn : Nat → Option Nat} {cx : cx_T} {P : Nat → Int32} {R C n Q T U d : Nat} (hd : 460 ≤ d) (hC : clR cg P) (hO : okP P R C n Q T U) (f x : Int32) : am_Met mi_X11_enough d 0 0 [.ref 0, .int f, .int x] (hc cg fn cx) (cX cx (fun v P' => sp_enough P f x v ∧ P' = P)) := by
  refine am_Met.of rfl (Nat.le_of_ble_eq_true rfl) ?_
  refine am_go ok_X11_enough [] 80 ?_
  have fin : ∀ rv cg1 fn1, clR cg1 P → (∀ v, sp_enough P f x v → v = rv) → cX cx (fun v P' => sp_enough P f x v ∧ P' = P) (some (.int rv)) (hc cg1 fn1 cx) := fun rv cg1 fn1 c1 h => ⟨rv, cg1, fn1, cx, rfl, rfl, rfl, fun v P' hv => ⟨h v hv.1, by rw [hv.2]; exact c1⟩⟩
  have n20 := hO.n3.2
  have p3 : pn P 3 = n := pn_of hO.n3.1 (by omega)
  refine ⟨d - 1, 0, 0, _, by omega, Nat.le_of_ble_eq_true rfl, Nat.le_of_ble_eq_true rfl, Nat.le_of_ble_eq_true rfl, c_isFact (d - 1) f, ?_⟩
  rintro _ _ ⟨rfl, rfl⟩
  refine ⟨Or.inl rfl, ?_⟩
  refine ⟨fun c4 => ?_, fun c4 => ?_⟩
  · have en : enB P f x := Or.inl (bI_f c4)
    refine ⟨trivial, ?_⟩
    refine fin _ cg fn hC (fun v hv => ?_)
    exact hv.elim (fun z => z.2) (fun z => absurd en z.1)
  · have qf := bI_t c4
    refine ⟨_, _, rfl, rfl, ?_⟩
    refine ⟨_, _, rfl, rfl, ?_⟩
    rw [hC.1.tp]
    refine ⟨fun c18 => ?_, fun c18 => ?_⟩
    · have en : enB P f x := by
        refine Classical.byContradiction (fun w => c18 ((sub_tp hO).mpr ?_))
        unfold enB at w
        rw [p3] at w
        exact ⟨fun z => w (Or.inr (Or.inl z)), fun z => w (Or.inr (Or.inr (Or.inl z))), fun z => w (Or.inr (Or.inr (Or.inr (Or.inr z))))⟩
      refine ⟨trivial, ?_⟩
      refine fin _ cg fn hC (fun v hv => ?_)
      exact hv.elim (fun z => z.2) (fun z => absurd en z.1)
    · have hsb := (sub_tp hO).mp c18
      have hin := (in_set n20).mpr ⟨hsb.1, hsb.2.1⟩
      refine ⟨d - 1, 0, 0, _, by omega, Nat.le_of_ble_eq_true rfl, Nat.le_of_ble_eq_true rfl, Nat.le_of_ble_eq_true rfl, c_bc (x := x) (d - 1) (fun i i1 i2 => hin i (by omega) i2), ?_⟩
      rintro _ _ ⟨rfl, rfl⟩
      refine ⟨Or.inl rfl, ?_⟩
      refine ⟨fun c27 => ?_, fun c27 => ?_⟩
      · have c6 : ctB x ≤ 6 := by have := ctB_le x; exact (nI_leI (b := 6) (by omega) (by omega)).mp c27
        have nen : ¬ enB P f x := by
          unfold enB
          rw [p3]
          rintro (z | z | z | z | z)
          · exact z qf
          · exact hsb.1 z
          · exact hsb.2.1 z
          · omega
          · exact hsb.2.2 z
        obtain ⟨j, ej, cj, jl⟩ := ix_c (m := 749) (by omega) qf
        obtain ⟨fo, hfo⟩ := fo_ex (p := fun x => rcP (syP P (P 0)) (baX P n x) j)
        have es : x = orB (bq x) n := bq_ext (fun i hi => by
          rw [bq_orB hi (by omega)]
          by_cases z : i < n
          · rw [decide_eq_true z, Bool.true_and]
          · rw [decide_eq_false z, Bool.false_and]; exact hin i (by omega) hi)
        have m6 : cnN (bq x) n ≤ 6 := Nat.le_trans (cnN_n n20) c6
        refine ⟨_, rfl, d - 1, 0, 0, _, by omega, Nat.le_of_ble_eq_true rfl, Nat.le_of_ble_eq_true rfl, Nat.le_of_ble_eq_true rfl, c_fewest (d := d - 1) (had := 0) (by omega) hO ej (by omega) es m6 hfo hC, ?_⟩
        rintro _ _ ⟨cg1, fn1, rfl, rfl, C1⟩
        refine ⟨Or.inl rfl, ?_⟩
        refine ⟨trivial, ?_⟩
        refine fin _ cg1 fn1 C1 (fun v hv => ?_)
        rcases hv with z | z
        · exact absurd z.1 nen
        · have := z.2; rw [cj] at this; exact fw_u n20 p3 m6 hfo this
      · have en : enB P f x := by
          have := ctB_le x
          exact Or.inr (Or.inr (Or.inr (Or.inl (by
            rcases Nat.lt_or_ge 6 (ctB x) with z | z
            · exact z
            · exact absurd ((nI_leI (b := 6) (by omega) (by omega)).mpr z) c27))))
        refine ⟨trivial, ?_⟩
        refine fin _ cg fn hC (fun v hv => ?_)
        exact hv.elim (fun z => z.2) (fun z => absurd en z.1)
theorem c_co_l {fn : Nat → Option Nat} {cg : sg_T} {cx : cx_T} {P : Nat → Int32} {R C n Q T U d kc ks j : Nat} (hd : 460 ≤ d) (hO : okP P R C n Q T U) (hC : clR cg P) {f pr : Int32} {fo : Int32 → Bool} (ej : f = nI j) (j7 : j < 750) (hfo : ∀ x, fo x = true ↔ rcP (syP P (P 0)) (baX P n x) j) : ∀ (u k : Nat) (w b z : Int32), z = nI k → w = orB (cOw P pr) k → b = orB (co6 (cOt P pr)) k → k ≤ n → n < k + u → am_W mi_X11_could d (fun r' h' => ∃ cg' fn', r' = some (.int (fwB fo (orB (cOw P pr) n) (suI (co6 (cOt P pr)) n) (2 ^ cnN (co6 (cOt P pr)) n))) ∧ h' = hc cg' fn' cx ∧ clR cg' P) kc ks 27 [some (.ref 0), some (.int pr), some (.int f), some (.int w), some (.int b), some (.int z)] [] (hc cg fn cx) := by
  intro u
  induction u with
  | zero => intro k w b z hz hw hb h1 h2; exact absurd h2 (by omega)
  | succ u ih =>
    intro k w b z hz hw hb h1 h2
    refine am_go ok_X11_could [27] 96 ?_
    have n20 := hO.n3.2
    refine ⟨_, _, rfl, rfl, ?_⟩
    refine ⟨_, _, rfl, rfl, ?_⟩
    refine ⟨_, _, 3, rfl, rfl, Nat.le_of_ble_eq_true rfl, Nat.le_of_ble_eq_true rfl, ?_⟩
    rw [hC.1.c 3 (by omega), hO.n3.1]
    refine ⟨fun c38 => ?_, fun c38 => ?_⟩
    · rw [hz] at c38
      have k1 : k = n := by have := (nI_leI (by omega) (by omega)).mp c38; omega
      subst k1
      refine ⟨_, rfl, d - 1, 0, 0, _, by omega, Nat.le_of_ble_eq_true rfl, Nat.le_of_ble_eq_true rfl, Nat.le_of_ble_eq_true rfl, c_fewest (d := d - 1) (had := w) (by omega) hO ej j7 hb (by rw [coC_c]; exact coC_6 _ _) hfo hC, ?_⟩
      rintro _ _ ⟨cg1, fn1, rfl, rfl, C1⟩
      refine ⟨Or.inl rfl, ?_⟩
      refine ⟨trivial, ?_⟩
      exact ⟨cg1, fn1, by rw [hw], rfl, C1⟩
    · have k1 : k < n := by
        rcases Nat.lt_or_ge k n with q1 | q1
        · exact q1
        · exact absurd (by rw [hz]; exact (nI_leI (by omega) (by omega)).mpr q1) c38
      have q1 : inI z 0 (P 3 - 1) := by rw [hz, hO.n3.1]; exact in_of k1 (by omega)
      have ck : cN z = k := cN_of hz (by omega)
      have ew := orB_s (cOw P pr) k
      have eb := orB_s (co6 (cOt P pr)) k
      have ct : ctB b = coC (cOt P pr) k := by rw [hb, ct_or (by omega), coC_c]
      refine ⟨_, _, rfl, rfl, ?_⟩
      refine ⟨_, rfl, d - 1, 0, 0, _, by omega, Nat.le_of_ble_eq_true rfl, Nat.le_of_ble_eq_true rfl, Nat.le_of_ble_eq_true rfl, c_isTrue hC.1 (d := d - 1) (by omega) hO.n3.1 n20 z, ?_⟩
      rintro _ _ ⟨rfl, rfl⟩
      refine ⟨Or.inl rfl, ?_⟩
      refine ⟨fun c50 => ?_, fun c50 => ?_⟩
      · have nt : ¬ P (94 + k) = 0 := fun y => bI_f c50 ⟨q1, by rw [ck]; exact y⟩
        have o1 : ¬ cOw P pr k = true := fun y => nt (of_decide_eq_true y).1
        refine ⟨_, _, rfl, rfl, ?_⟩
        refine ⟨_, rfl, d - 1, 0, 0, _, by omega, Nat.le_of_ble_eq_true rfl, Nat.le_of_ble_eq_true rfl, Nat.le_of_ble_eq_true rfl, c_isTrue hC.1 (d := d - 1) (by omega) hO.n3.1 n20 z, ?_⟩
        rintro _ _ ⟨rfl, rfl⟩
        refine ⟨Or.inl rfl, ?_⟩
        refine ⟨fun c86 => ?_, fun c86 => ?_⟩
        · have o3 : ¬ co6 (cOt P pr) k = true := fun y => by
            unfold co6 at y; rw [Bool.and_eq_true] at y; exact bI_f c86 ⟨q1, by rw [ck]; exact (of_decide_eq_true y.1).1⟩
          have e1 : w = orB (cOw P pr) (k + 1) := by rw [ew, if_neg o1, or_0, hw]
          have e2 : b = orB (co6 (cOt P pr)) (k + 1) := by rw [eb, if_neg o3, or_0, hb]
          exact ih (k + 1) _ _ _ (by rw [hz, nI_1]) e1 e2 (by omega) (by omega)
        · have ht2 : P (94 + k) = 0 := by have := (bI_t c86).2; rw [ck] at this; exact this
          have o4' : cOt P pr k = true := by
            refine decide_eq_true ⟨ht2, fun y => ?_⟩
            exact o1 (decide_eq_true ⟨ht2, y⟩)
          refine ⟨d - 1, 0, 0, _, by omega, Nat.le_of_ble_eq_true rfl, Nat.le_of_ble_eq_true rfl, Nat.le_of_ble_eq_true rfl, c_bc (x := b) (d - 1) (fun i i1 i2 => by rw [hb]; exact or_20 (by omega) i1 i2), ?_⟩
          rintro _ _ ⟨rfl, rfl⟩
          refine ⟨Or.inl rfl, ?_⟩
          refine ⟨fun c96 => ?_, fun c96 => ?_⟩
          · have o3 : ¬ co6 (cOt P pr) k = true := fun y => by
              unfold co6 at y; rw [Bool.and_eq_true] at y
              have q6 := of_decide_eq_true y.2
              have := coC_6 (cOt P pr) k
              rw [ct] at c96
              have := (nI_leI (a := 6) (by omega) (by omega)).mp c96
              omega
            have e1 : w = orB (cOw P pr) (k + 1) := by rw [ew, if_neg o1, or_0, hw]
            have e2 : b = orB (co6 (cOt P pr)) (k + 1) := by rw [eb, if_neg o3, or_0, hb]
            exact ih (k + 1) _ _ _ (by rw [hz, nI_1]) e1 e2 (by omega) (by omega)
          · have o3 : co6 (cOt P pr) k = true := by
              unfold co6; rw [o4', Bool.true_and]
              refine decide_eq_true ?_
              have := coC_6 (cOt P pr) k
              rw [ct] at c96
              rcases Nat.lt_or_ge (coC (cOt P pr) k) 6 with y | y
              · exact y
              · exact absurd ((nI_leI (a := 6) (by omega) (by omega)).mpr y) c96
            have e1 : w = orB (cOw P pr) (k + 1) := by rw [ew, if_neg o1, or_0, hw]
            have e2 : b ||| 1 <<< (z &&& 31) = orB (co6 (cOt P pr)) (k + 1) := by rw [eb, if_pos o3, hb, hz]
            exact ih (k + 1) _ _ _ (by rw [hz, nI_1]) e1 e2 (by omega) (by omega)
      · have ht : P (94 + k) = 0 := by have := (bI_t c50).2; rw [ck] at this; exact this
        refine ⟨_, _, rfl, rfl, ?_⟩
        refine ⟨_, _, rfl, rfl, ?_⟩
        refine ⟨_, _, k, rfl, hz, by omega, Nat.le_of_ble_eq_true rfl, ?_⟩
        rw [hC.1.pp k (by omega)]
        refine ⟨fun c64 => ?_, fun c64 => ?_⟩
        · have o1 : ¬ cOw P pr k = true := fun y => c64 (of_decide_eq_true y).2
          have o4 : cOt P pr k = true := decide_eq_true ⟨ht, c64⟩
          refine ⟨_, _, rfl, rfl, ?_⟩
          refine ⟨_, rfl, d - 1, 0, 0, _, by omega, Nat.le_of_ble_eq_true rfl, Nat.le_of_ble_eq_true rfl, Nat.le_of_ble_eq_true rfl, c_isTrue hC.1 (d := d - 1) (by omega) hO.n3.1 n20 z, ?_⟩
          rintro _ _ ⟨rfl, rfl⟩
          refine ⟨Or.inl rfl, ?_⟩
          refine ⟨fun c86 => ?_, fun c86 => ?_⟩
          · have o3 : ¬ co6 (cOt P pr) k = true := fun y => by
              unfold co6 at y; rw [Bool.and_eq_true] at y; exact bI_f c86 ⟨q1, by rw [ck]; exact (of_decide_eq_true y.1).1⟩
            have e1 : w = orB (cOw P pr) (k + 1) := by rw [ew, if_neg o1, or_0, hw]
            have e2 : b = orB (co6 (cOt P pr)) (k + 1) := by rw [eb, if_neg o3, or_0, hb]
            exact ih (k + 1) _ _ _ (by rw [hz, nI_1]) e1 e2 (by omega) (by omega)
          · have ht2 : P (94 + k) = 0 := by have := (bI_t c86).2; rw [ck] at this; exact this
            have o4' : cOt P pr k = true := by
              refine decide_eq_true ⟨ht2, fun y => ?_⟩
              exact o1 (decide_eq_true ⟨ht2, y⟩)
            refine ⟨d - 1, 0, 0, _, by omega, Nat.le_of_ble_eq_true rfl, Nat.le_of_ble_eq_true rfl, Nat.le_of_ble_eq_true rfl, c_bc (x := b) (d - 1) (fun i i1 i2 => by rw [hb]; exact or_20 (by omega) i1 i2), ?_⟩
            rintro _ _ ⟨rfl, rfl⟩
            refine ⟨Or.inl rfl, ?_⟩
            refine ⟨fun c96 => ?_, fun c96 => ?_⟩
            · have o3 : ¬ co6 (cOt P pr) k = true := fun y => by
                unfold co6 at y; rw [Bool.and_eq_true] at y
                have q6 := of_decide_eq_true y.2
                have := coC_6 (cOt P pr) k
                rw [ct] at c96
                have := (nI_leI (a := 6) (by omega) (by omega)).mp c96
                omega
              have e1 : w = orB (cOw P pr) (k + 1) := by rw [ew, if_neg o1, or_0, hw]
              have e2 : b = orB (co6 (cOt P pr)) (k + 1) := by rw [eb, if_neg o3, or_0, hb]
              exact ih (k + 1) _ _ _ (by rw [hz, nI_1]) e1 e2 (by omega) (by omega)
            · have o3 : co6 (cOt P pr) k = true := by
                unfold co6; rw [o4', Bool.true_and]
                refine decide_eq_true ?_
                have := coC_6 (cOt P pr) k
                rw [ct] at c96
                rcases Nat.lt_or_ge (coC (cOt P pr) k) 6 with y | y
                · exact y
                · exact absurd ((nI_leI (a := 6) (by omega) (by omega)).mpr y) c96
              have e1 : w = orB (cOw P pr) (k + 1) := by rw [ew, if_neg o1, or_0, hw]
              have e2 : b ||| 1 <<< (z &&& 31) = orB (co6 (cOt P pr)) (k + 1) := by rw [eb, if_pos o3, hb, hz]
              exact ih (k + 1) _ _ _ (by rw [hz, nI_1]) e1 e2 (by omega) (by omega)
        · have o2 : cOw P pr k = true := decide_eq_true ⟨ht, c64⟩
          have o3 : ¬ co6 (cOt P pr) k = true := fun y => by
            unfold co6 at y; rw [Bool.and_eq_true] at y; exact (of_decide_eq_true y.1).2 c64
          have e1 : w ||| 1 <<< (z &&& 31) = orB (cOw P pr) (k + 1) := by rw [ew, if_pos o2, hw, hz]
          have e2 : b = orB (co6 (cOt P pr)) (k + 1) := by rw [eb, if_neg o3, or_0, hb]
          exact ih (k + 1) _ _ _ (by rw [hz, nI_1]) e1 e2 (by omega) (by omega)
theorem c_could {cg : sg_T} {fn : Nat → Option Nat} {cx : cx_T} {P : Nat → Int32} {R C n Q T U d : Nat} (hd : 460 ≤ d) (hC : clR cg P) (hO : okP P R C n Q T U) (pr f : Int32) : am_Met mi_X11_could d 0 0 [.ref 0, .int pr, .int f] (hc cg fn cx) (cX cx (fun v P' => sp_could P pr f v ∧ P' = P)) := by
  refine am_Met.of rfl (Nat.le_of_ble_eq_true rfl) ?_
  refine am_go ok_X11_could [27] 72 ?_
  have fin : ∀ rv cg1 fn1, clR cg1 P → (∀ v, sp_could P pr f v → v = rv) → cX cx (fun v P' => sp_could P pr f v ∧ P' = P) (some (.int rv)) (hc cg1 fn1 cx) := fun rv cg1 fn1 c1 h => ⟨rv, cg1, fn1, cx, rfl, rfl, rfl, fun v P' hv => ⟨h v hv.1, by rw [hv.2]; exact c1⟩⟩
  have n20 := hO.n3.2
  have p3 : pn P 3 = n := pn_of hO.n3.1 (by omega)
  refine ⟨d - 1, 0, 0, _, by omega, Nat.le_of_ble_eq_true rfl, Nat.le_of_ble_eq_true rfl, Nat.le_of_ble_eq_true rfl, c_isPerson (d - 1) pr, ?_⟩
  rintro _ _ ⟨rfl, rfl⟩
  refine ⟨Or.inl rfl, ?_⟩
  refine ⟨fun c4 => ?_, fun c4 => ?_⟩
  · have qp := bI_t c4
    refine ⟨d - 1, 0, 0, _, by omega, Nat.le_of_ble_eq_true rfl, Nat.le_of_ble_eq_true rfl, Nat.le_of_ble_eq_true rfl, c_isFact (d - 1) f, ?_⟩
    rintro _ _ ⟨rfl, rfl⟩
    refine ⟨Or.inl rfl, ?_⟩
    refine ⟨fun c13 => ?_, fun c13 => ?_⟩
    · have qf := bI_t c13
      obtain ⟨j, ej, cj, jl⟩ := ix_c (m := 749) (by omega) qf
      obtain ⟨fo, hfo⟩ := fo_ex (p := fun x => rcP (syP P (P 0)) (baX P n x) j)
      refine am_W.mono ?_ (c_co_l (cx := cx) (pr := pr) hd hO hC ej (by omega) hfo (n + 1) 0 0 0 0 rfl rfl rfl (by omega) (by omega))
      rintro r' h' ⟨cg2, fn2, rfl, rfl, C2⟩
      refine fin _ cg2 fn2 C2 (fun v hv => ?_)
      rcases hv with z | z | z
      · exact absurd qp z.1
      · exact absurd qf z.2.1
      · have := z.2.2
        rw [cj, p3] at this
        exact fw_u n20 p3 (by rw [coC_c]; exact coC_6 _ _) hfo this
    · have qa := bI_f c13
      refine ⟨trivial, ?_⟩
      refine fin _ cg fn hC (fun v hv => ?_)
      rcases hv with z | z | z
      · exact absurd qp z.1
      · exact z.2.2
      · exact absurd z.2.1 qa
  · have qa := bI_f c4
    refine ⟨trivial, ?_⟩
    refine fin _ cg fn hC (fun v hv => ?_)
    rcases hv with z | z | z
    · exact z.2
    · exact absurd z.1 qa
    · exact absurd z.1 qa
