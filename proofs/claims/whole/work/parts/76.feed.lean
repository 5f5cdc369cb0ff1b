/-! the class's calls that change the Book, on: feed, tactic, run -/
theorem nar_B (x : Int32) : vp_nar (am_aty 1) x = bY x := rfl
theorem bY_bY (x : Int32) : bY (bY x) = bY x := by
  unfold bY
  rw [Int8.toInt8_toInt32]
theorem bY_x {x y : Int32} (h : ∀ i, i < 8 → bq x i = bq y i) : bY x = bY y := by
  unfold bY
  congr 1
  apply Int8.toBitVec_inj.mp
  apply BitVec.eq_of_getLsbD_eq
  intro i hi
  rw [Int32.toBitVec_toInt8, Int32.toBitVec_toInt8, BitVec.getLsbD_signExtend, BitVec.getLsbD_signExtend, if_pos (by omega), if_pos (by omega)]
  have := h i hi
  unfold bq at this
  rw [this]
theorem fd_sh : ∀ z, z < 8 → ((8 * nI z).toInt64 &&& 63) = Int64.ofNat (8 * z) ∧ ((8 * nI z).toInt64.toUInt64 &&& Int64.toUInt64 63) = UInt64.ofNat (8 * z) ∧ ((Int64.ofNat (8 * z)).toBitVec.smod 64).toNat = 8 * z ∧ ((UInt64.ofNat (8 * z)).toBitVec % 64).toNat = 8 * z := by decide
theorem bq_64 {x : Int64} {i : Nat} (hi : i < 32) : bq x.toInt32 i = x.toBitVec.getLsbD i := by
  unfold bq
  rw [Int64.toBitVec_toInt32, BitVec.getLsbD_signExtend, if_pos (by omega), decide_eq_true hi, Bool.true_and]
theorem fby_e {w : Int64} {z : Nat} (hz : z < 8) : bY ((w.toUInt64 >>> ((8 * nI z).toInt64.toUInt64 &&& Int64.toUInt64 63)).toInt64).toInt32 = bY (fdB w (nI z)) := by
  obtain ⟨e1, e2, e3, e4⟩ := fd_sh z hz
  unfold fdB
  rw [e1, e2]
  refine bY_x (fun i hi => ?_)
  rw [bq_64 (by omega), bq_64 (by omega)]
  show (w.toUInt64 >>> UInt64.ofNat (8 * z)).toBitVec.getLsbD i = (w >>> Int64.ofNat (8 * z) &&& 255).toBitVec.getLsbD i
  rw [UInt64.toBitVec_shiftRight, Int64.toBitVec_and, Int64.toBitVec_shiftRight, BitVec.getLsbD_and, BitVec.ushiftRight_eq', BitVec.getLsbD_ushiftRight, BitVec.sshiftRight_eq', BitVec.getLsbD_sshiftRight, e3, e4, if_pos (by omega), decide_eq_false (by omega)]
  have h255 : ∀ i, i < 8 → (255 : Int64).toBitVec.getLsbD i = true := by decide
  rw [h255 i hi, Bool.and_true]; rfl
theorem fd_o {P : Nat → Int32} {w : Int64} {n t j : Nat} : ∀ {i : Nat}, j ≠ 8 → ¬ (2358 + t ≤ j ∧ j < 2358 + t + i) → fdF P w n t i j = P j
  | 0, _, _ => rfl
  | i + 1, h1, h2 => by rw [fdF, pk_un h1, pk_un (by omega)]; exact fd_o h1 (by omega)
def sp_feed (P : Nat → Int32) (w : Int64) (v rv : Int32) (P' : Nat → Int32) : Prop := (¬ (1 ≤ v ∧ v ≤ 8) ∧ rv = -2 ∧ P' = P) ∨ ∃ n t, 1 ≤ n ∧ n ≤ 8 ∧ v = nI n ∧ P 8 = nI t ∧ t ≤ 120 ∧ ((120 < t + n ∧ rv = -4 ∧ P' = P) ∨ (t + n ≤ 120 ∧ rv = nI (t + n) ∧ P' = fdF P w n t n))
theorem c_feed_l {cg0 : sg_T} {fn : Nat → Option Nat} {cx : cx_T} {P : Nat → Int32} {w : Int64} {v : Int32} {d kc ks m t : Nat} (hm : v = nI m) (m1 : 1 ≤ m) (m8 : m ≤ 8) (tm : t + m ≤ 120) : ∀ (u k : Nat) (z : Int32) (cg : sg_T), z = nI k → (∀ a, a ≠ 3 → cg a = cg0 a) → (∀ j, j < 120 → cg 3 j = bY (fdF P w m t k (2358 + j))) → k ≤ m → m < k + u → am_W mi_X11_feed d (fun r' h' => ∃ cg', r' = some (.int (nI (t + m))) ∧ h' = hc (sg_u cg' 2 7 (nI (t + m))) fn cx ∧ (∀ a, a ≠ 3 → cg' a = cg0 a) ∧ ∀ j, j < 120 → cg' 3 j = bY (fdF P w m t m (2358 + j))) kc ks 41 [some (.ref 0), some (.long w), none, some (.int v), some (.int (nI t)), some (.int z)] [] (hc cg fn cx) := by
  intro u
  induction u with
  | zero => intro k z cg hz hF hA h1 h2; exact absurd h2 (by omega)
  | succ u ih =>
    intro k z cg hz hF hA h1 h2
    refine am_go ok_X11_feed [41] 83 ?_
    refine ⟨fun c44 => ?_, fun c44 => ?_⟩
    · rw [hm, hz] at c44
      have k1 : k = m := by have := (nI_leI (by omega) (by omega)).mp c44; omega
      subst k1
      refine ⟨_, _, rfl, rfl, ?_⟩
      refine ⟨_, _, rfl, rfl, ?_⟩
      refine ⟨_, _, 7, rfl, rfl, Nat.le_of_ble_eq_true rfl, Nat.le_of_ble_eq_true rfl, ?_⟩
      rw [hc_a2]
      refine ⟨trivial, ?_⟩
      rw [hm, nI_add]
      exact ⟨cg, rfl, rfl, hF, hA⟩
    · have k1 : k < m := by
        rcases Nat.lt_or_ge k m with q1 | q1
        · exact q1
        · exact absurd (by rw [hm, hz]; exact (nI_leI (by omega) (by omega)).mpr q1) c44
      have es : 8 * (v - 1 - z) = 8 * nI (m - (k + 1)) := by rw [hm, hz, show nI m - 1 = nI (m - 1) from pk_sub (b := 1) m1, pk_sub (by omega)]; congr 2; omega
      refine ⟨_, _, rfl, rfl, ?_⟩
      refine ⟨_, _, rfl, rfl, ?_⟩
      refine ⟨_, _, (t + k), rfl, (by rw [hz, nI_add]), by omega, Nat.le_of_ble_eq_true rfl, ?_⟩
      rw [hc_a3]
      rw [nar_B, es]
      refine ih (k + 1) _ _ (by rw [hz, nI_1]) (fun a ha => (sg_i ha).trans (hF a ha)) (fun j hj => ?_) (by omega) (by omega)
      rw [fdF, pk_un (by omega)]
      by_cases q : j = t + k
      · rw [q, sg_s, pk_us]
        show bY (bY _) = _
        rw [bY_bY]; exact fby_e (by omega)
      · rw [sg_j q, pk_un (by omega)]; exact hA j hj
theorem c_feed {cg : sg_T} {fn : Nat → Option Nat} {cx : cx_T} {P : Nat → Int32} {R C n Q T U d : Nat} (hd : 460 ≤ d) (hC : clR cg P) (hO : okP P R C n Q T U) (w : Int64) (v : Int32) : am_Met mi_X11_feed d 0 0 [.ref 0, .long w, .int v] (hc cg fn cx) (cX cx (sp_feed P w v)) := by
  refine am_Met.of rfl (Nat.le_of_ble_eq_true rfl) ?_
  refine am_go ok_X11_feed [41] 79 ?_
  have fin0 : ∀ rv, (∀ vv P', sp_feed P w v vv P' → vv = rv ∧ P' = P) → cX cx (sp_feed P w v) (some (.int rv)) (hc cg fn cx) := fun rv h => ⟨rv, cg, fn, cx, rfl, rfl, rfl, fun vv P' hv => ⟨(h vv P' hv).1, by rw [(h vv P' hv).2]; exact hC⟩⟩
  obtain ⟨t, t1, et⟩ := hO.t
  refine ⟨fun c2 => ?_, fun c2 => ?_⟩
  · have nq : ¬ (1 ≤ v ∧ v ≤ 8) := fun z => i_len z.1 c2
    refine ⟨trivial, ?_⟩
    exact fin0 _ (fun rv P' hv => hv.elim (fun z => z.2) (fun ⟨m, t, m1, m8, em, _⟩ => absurd ⟨by rw [em]; exact (nI_leI (a := 1) (by omega) (by omega)).mpr m1, by rw [em]; exact (nI_leI (b := 8) (by omega) (by omega)).mpr m8⟩ nq))
  · refine ⟨fun c8 => ?_, fun c8 => ?_⟩
    · have q : 1 ≤ v ∧ v ≤ 8 := ⟨i_nlt c2, c8⟩
      obtain ⟨m, em, -, m8⟩ := ix_c (m := 8) (by omega) ⟨Int32.le_trans (by decide) q.1, q.2⟩
      have m1 : 1 ≤ m := by have := q.1; rw [em] at this; exact (nI_leI (a := 1) (by omega) (by omega)).mp this
      have main : ∀ rv P', sp_feed P w v rv P' → (120 < t + m ∧ rv = -4 ∧ P' = P) ∨ (t + m ≤ 120 ∧ rv = nI (t + m) ∧ P' = fdF P w m t m) := fun rv P' hv => by
        rcases hv with z | ⟨m', t', a1, a2, a3, a4, a5, a6⟩
        · exact absurd q z.1
        · have e1 : m' = m := (nI_eq (by omega) (by omega)).mp (a3.symm.trans em)
          have e2 : t' = t := (nI_eq (by omega) (by omega)).mp (a4.symm.trans et)
          rw [e1, e2] at a6; exact a6
      refine ⟨_, _, rfl, rfl, ?_⟩
      refine ⟨_, _, rfl, rfl, ?_⟩
      refine ⟨_, _, 7, rfl, rfl, Nat.le_of_ble_eq_true rfl, Nat.le_of_ble_eq_true rfl, ?_⟩
      rw [hC.1.c7, et]
      refine ⟨fun c32 => ?_, fun c32 => ?_⟩
      · have un : t + m ≤ 120 := by rw [em, nI_add] at c32; exact (nI_leI (b := 120) (by omega) (by omega)).mp c32
        refine am_W.mono ?_ (c_feed_l (cg0 := cg) (P := P) em m1 m8 un (m + 1) 0 0 cg rfl (fun _ _ => rfl) hC.1.t (by omega) (by omega))
        rintro r' h' ⟨cg1, rfl, rfl, F1, A1⟩
        refine ⟨_, _, fn, cx, rfl, rfl, rfl, fun rv P' hv => ?_⟩
        rcases main rv P' hv with z | z
        · exact absurd z.1 (by omega)
        · refine ⟨z.2.1, ?_⟩
          rw [z.2.2]
          have EC : ∀ aa, ¬ (aa = 2 ∨ aa = 3) → sg_u cg1 2 7 (nI (t + m)) aa = cg aa := fun aa ha => by rw [sg_i (by omega)]; exact F1 aa (by omega)
          have EP : ∀ jj, ¬ (jj = 8 ∨ 2358 + t ≤ jj ∧ jj < 2358 + t + m) → fdF P w m t m jj = P jj := fun jj hj => fd_o (by omega) (by omega)
          exact ⟨BR_g hO.W hC.1 (fun a h1 h2 => EC a (by omega)) (fun j hj => EP j (by omega)) (fun i hi => by rw [sg_j (by omega), F1 2 (by decide), hC.1.c i hi]; exact (EP _ (by omega)).symm) (by rw [sg_s, fdF_8 et]) (fun i hi => by rw [sg_i (by decide)]; exact A1 i hi) (fun i hi => by rw [EC 5 (by omega), hC.1.cr i hi]; exact (EP _ (by omega)).symm) (fun i hi => by rw [EC 6 (by omega), hC.1.cd i hi]; exact (EP _ (by omega)).symm) (fun i hi => by rw [EC 7 (by omega), hC.1.pf i hi]; exact (EP _ (by omega)).symm) (fun i hi => by rw [EC 8 (by omega), hC.1.pp i hi]; exact (EP _ (by omega)).symm) (by rw [EC 1 (by omega), hC.1.tp]; exact (tp_w hO.n3.1 hO.n3.2 (EP 3 (by omega)) (fun k hk => EP _ (by omega))).symm) (fun i hi => by rw [EC 9 (by omega), hC.1.k i hi]; exact (EP _ (by omega)).symm) (fun i hi => by rw [EC 10 (by omega), hC.1.s i hi]; exact (EP _ (by omega)).symm) (fun i hi => by rw [EC 11 (by omega), hC.1.r i hi]; exact (EP _ (by omega)).symm) (fun i hi => by rw [EC 12 (by omega), hC.1.tq i hi]; exact (EP _ (by omega)).symm) (fun i hi => by rw [EC 13 (by omega), hC.1.tf i hi]; exact (EP _ (by omega)).symm) (fun i hi => by rw [EC 14 (by omega), hC.1.td i hi]; exact (EP _ (by omega)).symm) (fun i hi => by rw [EC 15 (by omega), hC.1.az i hi]; exact (EP _ (by omega)).symm) (fun i hi => by rw [EC 16 (by omega), hC.1.ab i hi, EP _ (by omega)]) (fun i hi => by rw [EC 17 (by omega), hC.1.fo i hi]; exact (EP _ (by omega)).symm) (by rw [EC 1 (by omega), hC.1.hr]; exact (EP 9 (by omega)).symm), rI_fr hC.2.1 (EC 84 (by omega)) (EC 85 (by omega)) (EC 86 (by omega)) (EC 87 (by omega)), by rw [EC 89 (by omega)]; exact hC.2.2.1, by rw [EC 83 (by omega)]; exact hC.2.2.2⟩
      · have ov : 120 < t + m := by
          rcases Nat.lt_or_ge 120 (t + m) with y | y
          · exact y
          · exact absurd (by rw [em, nI_add]; exact (nI_leI (b := 120) (by omega) (by omega)).mpr y) c32
        refine ⟨trivial, ?_⟩
        exact fin0 _ (fun rv P' hv => (main rv P' hv).elim (fun z => z.2) (fun z => absurd z.1 (by omega)))
    · have nq : ¬ (1 ≤ v ∧ v ≤ 8) := fun z => c8 z.2
      refine ⟨trivial, ?_⟩
      exact fin0 _ (fun rv P' hv => hv.elim (fun z => z.2) (fun ⟨m, t, m1, m8, em, _⟩ => absurd ⟨by rw [em]; exact (nI_leI (a := 1) (by omega) (by omega)).mpr m1, by rw [em]; exact (nI_leI (b := 8) (by omega) (by omega)).mpr m8⟩ nq))
theorem gs_u {H : Nat → Int32} {b o m b' o' m' : Nat} (h : gd H b o m) (s : stk H b o m) (h' : gd H b' o' m') (s' : stk H b' o' m') : b = b' ∧ o = o' ∧ m = m' := by
  have key : ∀ {b o m b' o' m' : Nat}, gd H b o m → stk H b o m → gd H b' o' m' → b < b' → False := by
    intro b o m b' o' m' h s h' hl
    obtain ⟨o1, m1, o0, m0, g0, g1⟩ := gd_dn h' (b + 1) (by omega)
    obtain ⟨e1, e2⟩ := gd_u h g0
    subst e1; subst e2
    exact s o1 m1 g1
  rcases Nat.lt_trichotomy b b' with z | z | z
  · exact absurd z (fun w => key h s h' w)
  · subst z; exact ⟨rfl, gd_u h h'⟩
  · exact absurd z (fun w => key h' s' h w)
/-- a whole row's cells anew -/
def sg_c (cg : sg_T) (a : Nat) (F : Nat → Int32) : sg_T := fun b => if b = a then F else cg b
theorem sc_s {cg : sg_T} {a : Nat} {F : Nat → Int32} : sg_c cg a F a = F := if_pos rfl
theorem sc_i {cg : sg_T} {a b : Nat} {F : Nat → Int32} (h : b ≠ a) : sg_c cg a F b = cg b := if_neg h
theorem hc_c16 {cg : sg_T} {fn : Nat → Option Nat} {cx : cx_T} {F : Nat → Int32} : am_put (hc cg fn cx) 16 (.inl (1, 720, F)) = hc (sg_c cg 16 F) fn cx := rfl
theorem fit_B (x : Int32) : fits (am_aty 1) (.int (bY x)) = true := by
  unfold bY
  have h1 := Int8.le_toInt x.toInt8
  have h2 := Int8.toInt_lt x.toInt8
  show ((-128 : Int32) ≤ x.toInt8.toInt32 && x.toInt8.toInt32 ≤ (127 : Int32)) = true
  rw [Bool.and_eq_true, decide_eq_true_iff, decide_eq_true_iff, Int32.le_iff_toInt_le, Int32.le_iff_toInt_le, Int8.toInt_toInt32]
  have e1 : (-128 : Int32).toInt = -128 := by decide
  have e2 : (127 : Int32).toInt = 127 := by decide
  rw [e1, e2]
  constructor <;> omega
theorem c_tactic {cg : sg_T} {fn : Nat → Option Nat} {cx : cx_T} {P : Nat → Int32} {R C n Q T U d : Nat} (hd : 460 ≤ d) (hC : clR cg P) (hO : okP P R C n Q T U) : am_Met mi_X11_tactic d 0 0 [.ref 0] (hc cg fn cx) (cX cx (sp_tactic P)) := by
  refine am_Met.of rfl (Nat.le_of_ble_eq_true rfl) ?_
  refine am_go ok_X11_tactic [] 116 ?_
  have fin0 : ∀ rv, (∀ v P', sp_tactic P v P' → v = rv ∧ P' = P) → cX cx (sp_tactic P) (some (.int rv)) (hc cg fn cx) := fun rv h => ⟨rv, cg, fn, cx, rfl, rfl, rfl, fun v P' hv => ⟨(h v P' hv).1, by rw [(h v P' hv).2]; exact hC⟩⟩
  obtain ⟨t, t1, et⟩ := hO.t
  have U6 := hO.u.2.1
  have pU : pn P 6 = U := pn_of hO.u.1 (by omega)
  have p8 : pn P 8 = t := pn_of et (by omega)
  refine ⟨_, _, rfl, rfl, ?_⟩
  refine ⟨_, _, rfl, rfl, ?_⟩
  refine ⟨_, _, 6, rfl, rfl, Nat.le_of_ble_eq_true rfl, Nat.le_of_ble_eq_true rfl, ?_⟩
  rw [hC.1.c 6 (by omega), hO.u.1]
  refine ⟨fun c14 => ?_, fun c14 => ?_⟩
  · have ul : U < 6 := (nI_ltI (b := 6) (by omega) (by omega)).mp c14
    have nq : ¬ P 6 = 6 := fun z => by have := (nI_eq (b := 6) (by omega) (by omega)).mp (hO.u.1.symm.trans z); omega
    refine ⟨_, _, rfl, rfl, ?_⟩
    refine ⟨_, _, rfl, rfl, ?_⟩
    refine ⟨_, _, 7, rfl, rfl, Nat.le_of_ble_eq_true rfl, Nat.le_of_ble_eq_true rfl, ?_⟩
    rw [hC.1.c7, et]
    refine ⟨_, _, rfl, rfl, ?_⟩
    refine ⟨_, _, rfl, rfl, ?_⟩
    refine ⟨d - 1, 0, 0, _, by omega, Nat.le_of_ble_eq_true rfl, Nat.le_of_ble_eq_true rfl, Nat.le_of_ble_eq_true rfl, c_faultOf hC.1 hO.b (d := d - 1) et t1 rfl, ?_⟩
    rintro _ _ ⟨v0, rfl, hv0, rfl⟩
    refine ⟨Or.inl rfl, ?_⟩
    obtain ⟨b, o, m, hg, hst, hv0⟩ := hv0
    have main : ∀ v P', sp_tactic P v P' → (¬ tcG P b o m ∧ v = -10 - nI b ∧ P' = upd P 8 0) ∨ (tcG P b o m ∧ v = P 6 ∧ P' = tcN P) := fun v P' hv => by
      rcases hv with z | ⟨-, b', o', m', hg', hst', z⟩
      · exact absurd z.1 nq
      · obtain ⟨e1, e2, e3⟩ := gs_u hg' hst' hg hst
        rw [e1, e2, e3] at z; exact z
    have bt : b ≤ 120 := by have := gd_le hg; omega
    refine ⟨_, _, rfl, rfl, ?_⟩
    refine ⟨_, _, rfl, rfl, ?_⟩
    refine ⟨_, _, 7, rfl, rfl, Nat.le_of_ble_eq_true rfl, Nat.le_of_ble_eq_true rfl, ?_⟩
    rw [hc_a2]
    refine ⟨fun c55 => ?_, fun c55 => ?_⟩
    · have hv1 := hv0.elim (fun z => absurd c55 (by rw [z.2]; exact nI_pos (by omega))) (fun z => z)
      refine ⟨_, _, rfl, rfl, ?_⟩
      refine ⟨_, _, rfl, rfl, ?_⟩
      refine ⟨_, _, rfl, rfl, ?_⟩
      refine ⟨_, _, rfl, rfl, ?_⟩
      refine ⟨_, _, _, _, rfl, rfl, (by decide), (by show ¬ nI U * nI 120 < 0; rw [pk_mul]; exact nI_pos (by omega)), nI_pos (by omega), (by rw [nI_clamp (by omega)]; show (0 : Int32).toNatClampNeg + t ≤ 120; rw [show (0 : Int32).toNatClampNeg = 0 from rfl]; omega), (by show (nI U * nI 120).toNatClampNeg + (nI t).toNatClampNeg ≤ 720; rw [pk_mul, nI_clamp (by omega), nI_clamp (by omega)]; omega), (fun i hi => by rw [nI_clamp (by omega)] at hi; rw [sg_i (by decide), show (0 : Int32).toNatClampNeg = 0 from rfl, Nat.zero_add, hC.1.t i (by omega)]; exact fit_B _), by omega, Nat.le_of_ble_eq_true rfl, ?_⟩
      rw [hc_c16, show nI U * 120 = nI (120 * U) by rw [show (120 : Int32) = nI 120 from rfl, pk_mul, Nat.mul_comm], nI_clamp (show 120 * U < 2 ^ 31 by omega), nI_clamp (show t < 2 ^ 31 by omega), show (0 : Int32).toNatClampNeg = 0 from rfl]
      refine ⟨_, _, rfl, rfl, ?_⟩
      refine ⟨_, _, rfl, rfl, ?_⟩
      refine ⟨_, _, U, rfl, rfl, by omega, Nat.le_of_ble_eq_true rfl, ?_⟩
      rw [hc_a15]
      refine ⟨_, _, rfl, rfl, ?_⟩
      refine ⟨_, _, rfl, rfl, ?_⟩
      refine ⟨_, _, 6, rfl, rfl, Nat.le_of_ble_eq_true rfl, Nat.le_of_ble_eq_true rfl, ?_⟩
      rw [hc_a2]
      refine ⟨trivial, ?_⟩
      refine ⟨_, _, fn, cx, rfl, rfl, rfl, fun v P' hv => ?_⟩
      rcases main v P' hv with z | z
      · exact absurd hv1.1 z.1
      · refine ⟨z.2.1.trans hO.u.1, ?_⟩
        have hN : tcN P = upd (upd (tcP P t) (1032 + U) (nI t)) 6 (nI (U + 1)) := by unfold tcN; rw [p8, pU, et, hO.u.1, nI_1]
        rw [z.2.2, hN, nI_1]
        have EC : ∀ aa, ¬ (aa = 2 ∨ aa = 15 ∨ aa = 16) → sg_u (sg_u (sg_c (sg_u cg 2 7 0) 16 (va_cpy (sg_u cg 2 7 0 3) (sg_u cg 2 7 0 16) 0 (120 * U) t)) 15 U (nI t)) 2 6 (nI (U + 1)) aa = cg aa := fun aa ha => by rw [sg_i (by omega), sg_i (by omega), sc_i (by omega), sg_i (by omega)]
        have EP : ∀ jj, ¬ (jj = 6 ∨ jj = 8 ∨ jj = 1032 + U ∨ 1038 + 120 * U ≤ jj ∧ jj < 1038 + 120 * U + t) → upd (upd (tcP P t) (1032 + U) (nI t)) 6 (nI (U + 1)) jj = P jj := fun jj hj => by rw [pk_un (by omega), pk_un (by omega), tcP_o (by rw [pU]; omega) (by omega)]
        exact ⟨BR_g hO.W hC.1 (fun a h1 h2 => EC a (by omega)) (fun j hj => EP j (by omega)) (fun i hi => by
            by_cases y : i = 6
            · rw [y, sg_s, pk_us]
            · rw [sg_j y, sg_i (by omega), sc_i (by omega), sg_j (by omega), hC.1.c i hi]; exact (EP _ (by omega)).symm) (by rw [sg_j (by decide), sg_i (by omega), sc_i (by omega), sg_s, pk_un (by omega), pk_un (by omega)]; unfold tcP; rw [if_neg (by omega), pk_us]) (fun i hi => by rw [EC 3 (by omega), hC.1.t i hi, EP _ (by omega)]) (fun i hi => by rw [EC 5 (by omega), hC.1.cr i hi]; exact (EP _ (by omega)).symm) (fun i hi => by rw [EC 6 (by omega), hC.1.cd i hi]; exact (EP _ (by omega)).symm) (fun i hi => by rw [EC 7 (by omega), hC.1.pf i hi]; exact (EP _ (by omega)).symm) (fun i hi => by rw [EC 8 (by omega), hC.1.pp i hi]; exact (EP _ (by omega)).symm) (by rw [EC 1 (by omega), hC.1.tp]; exact (tp_w hO.n3.1 hO.n3.2 (EP 3 (by omega)) (fun k hk => EP _ (by omega))).symm) (fun i hi => by rw [EC 9 (by omega), hC.1.k i hi]; exact (EP _ (by omega)).symm) (fun i hi => by rw [EC 10 (by omega), hC.1.s i hi]; exact (EP _ (by omega)).symm) (fun i hi => by rw [EC 11 (by omega), hC.1.r i hi]; exact (EP _ (by omega)).symm) (fun i hi => by rw [EC 12 (by omega), hC.1.tq i hi]; exact (EP _ (by omega)).symm) (fun i hi => by rw [EC 13 (by omega), hC.1.tf i hi]; exact (EP _ (by omega)).symm) (fun i hi => by rw [EC 14 (by omega), hC.1.td i hi]; exact (EP _ (by omega)).symm) (fun i hi => by
            rw [sg_i (by omega), pk_un (show 1032 + i ≠ 6 by omega)]
            by_cases y : i = U
            · rw [y, sg_s, pk_us]
            · rw [sg_j y, sc_i (by omega), sg_i (by omega), hC.1.az i hi, pk_un (by omega), tcP_o (by rw [pU]; omega) (by omega)]) (fun i hi => by
            rw [sg_i (by omega), sg_i (by omega), sc_s, sg_i (by decide), sg_i (by decide)]
            by_cases y : 120 * U ≤ i ∧ i < 120 * U + t
            · rw [pk_cpy_in y.1 y.2, Nat.zero_add, hC.1.t _ (by omega), pk_un (by omega), pk_un (by omega)]
              unfold tcP
              rw [pU, if_pos ⟨by omega, by omega⟩]
              congr 2; omega
            · rw [pk_cpy_out (by omega), hC.1.ab i hi, EP _ (by omega)]) (fun i hi => by rw [EC 17 (by omega), hC.1.fo i hi]; exact (EP _ (by omega)).symm) (by rw [EC 1 (by omega), hC.1.hr]; exact (EP 9 (by omega)).symm), rI_fr hC.2.1 (EC 84 (by omega)) (EC 85 (by omega)) (EC 86 (by omega)) (EC 87 (by omega)), by rw [EC 89 (by omega)]; exact hC.2.2.1, by rw [EC 83 (by omega)]; exact hC.2.2.2⟩
    · have hv1 := hv0.elim (fun z => z) (fun z => absurd (by rw [z.2]; decide) c55)
      refine ⟨trivial, ?_⟩
      refine ⟨_, _, fn, cx, rfl, rfl, rfl, fun v P' hv => ?_⟩
      rcases main v P' hv with z | z
      · refine ⟨by rw [z.2.1, hv1.2], ?_⟩
        rw [z.2.2]
        have EC : ∀ aa, ¬ (aa = 2) → sg_u cg 2 7 0 aa = cg aa := fun aa ha => by rw [sg_i (by omega)]
        have EP : ∀ jj, ¬ (jj = 8) → upd P 8 0 jj = P jj := fun jj hj => by rw [pk_un (by omega)]
        exact ⟨BR_g hO.W hC.1 (fun a h1 h2 => EC a (by omega)) (fun j hj => EP j (by omega)) (fun i hi => by rw [sg_j (by omega), hC.1.c i hi]; exact (EP _ (by omega)).symm) (by rw [sg_s, pk_us]) (fun i hi => by rw [EC 3 (by omega), hC.1.t i hi, EP _ (by omega)]) (fun i hi => by rw [EC 5 (by omega), hC.1.cr i hi]; exact (EP _ (by omega)).symm) (fun i hi => by rw [EC 6 (by omega), hC.1.cd i hi]; exact (EP _ (by omega)).symm) (fun i hi => by rw [EC 7 (by omega), hC.1.pf i hi]; exact (EP _ (by omega)).symm) (fun i hi => by rw [EC 8 (by omega), hC.1.pp i hi]; exact (EP _ (by omega)).symm) (by rw [EC 1 (by omega), hC.1.tp]; exact (tp_w hO.n3.1 hO.n3.2 (EP 3 (by omega)) (fun k hk => EP _ (by omega))).symm) (fun i hi => by rw [EC 9 (by omega), hC.1.k i hi]; exact (EP _ (by omega)).symm) (fun i hi => by rw [EC 10 (by omega), hC.1.s i hi]; exact (EP _ (by omega)).symm) (fun i hi => by rw [EC 11 (by omega), hC.1.r i hi]; exact (EP _ (by omega)).symm) (fun i hi => by rw [EC 12 (by omega), hC.1.tq i hi]; exact (EP _ (by omega)).symm) (fun i hi => by rw [EC 13 (by omega), hC.1.tf i hi]; exact (EP _ (by omega)).symm) (fun i hi => by rw [EC 14 (by omega), hC.1.td i hi]; exact (EP _ (by omega)).symm) (fun i hi => by rw [EC 15 (by omega), hC.1.az i hi]; exact (EP _ (by omega)).symm) (fun i hi => by rw [EC 16 (by omega), hC.1.ab i hi, EP _ (by omega)]) (fun i hi => by rw [EC 17 (by omega), hC.1.fo i hi]; exact (EP _ (by omega)).symm) (by rw [EC 1 (by omega), hC.1.hr]; exact (EP 9 (by omega)).symm), rI_fr hC.2.1 (EC 84 (by omega)) (EC 85 (by omega)) (EC 86 (by omega)) (EC 87 (by omega)), by rw [EC 89 (by omega)]; exact hC.2.2.1, by rw [EC 83 (by omega)]; exact hC.2.2.2⟩
      · exact absurd z.1 hv1.1
  · have q6 : P 6 = 6 := by
      have e : U = 6 := by
        rcases Nat.lt_or_ge U 6 with y | y
        · exact absurd ((nI_ltI (b := 6) (by omega) (by omega)).mpr y) c14
        · omega
      rw [hO.u.1, e]; rfl
    refine ⟨trivial, ?_⟩
    exact fin0 _ (fun v P' hv => hv.elim (fun z => z.2) (fun z => absurd q6 z.1))
theorem c_run_l {cg0 : sg_T} {fn : Nat → Option Nat} {cx : cx_T} {vt vn vw : Int32} {F : Nat → Bool} {d kc ks : Nat} (hd : 1 ≤ d) (hF0 : ∀ f, f < 750 → (F f = true ↔ 0 ≤ cg0 85 f)) : ∀ (u k : Nat) (z : Int32) (cg : sg_T), z = nI k → (∀ a, a ≠ 17 → cg a = cg0 a) → (∀ f, f < k → cg 17 f = bI (F f)) → k ≤ 750 → 750 < k + u → am_W mi_X11_run d (fun r' h' => ∃ cg', r' = some (.int (if vw = 0 then cg0 84 3 else cg0 90 2)) ∧ h' = hc (sg_u cg' 1 17 1) fn cx ∧ (∀ a, a ≠ 17 → cg' a = cg0 a) ∧ ∀ f, f < 750 → cg' 17 f = bI (F f)) kc ks 51 [some (.ref 0), some (.int vt), some (.int vn), some (.int vw), some (.int z)] [] (hc cg fn cx) := by
  intro u
  induction u with
  | zero => intro k z cg hz hF hA h1 h2; exact absurd h2 (by omega)
  | succ u ih =>
    intro k z cg hz hF hA h1 h2
    refine am_go ok_X11_run [51] 74 ?_
    refine ⟨fun c56 => ?_, fun c56 => ?_⟩
    · rw [hz] at c56
      have k1 : k = 750 := by have := (nI_leI (a := 750) (by omega) (by omega)).mp c56; omega
      subst k1
      refine ⟨_, _, rfl, rfl, ?_⟩
      refine ⟨_, rfl, Nat.le_of_ble_eq_true rfl, ⟨rfl, rfl⟩, ?_⟩
      rw [hc_f1_17]
      refine ⟨fun c93 => ?_, fun c93 => ?_⟩
      · rw [if_neg c93]
        refine ⟨_, _, rfl, rfl, ?_⟩
        refine ⟨_, _, rfl, rfl, ?_⟩
        rw [sg_i (by decide), hF 90 (by decide)]
        refine ⟨trivial, ?_⟩
        exact ⟨cg, rfl, rfl, hF, hA⟩
      · rw [if_pos c93]
        refine ⟨_, _, rfl, rfl, ?_⟩
        refine ⟨_, _, rfl, rfl, ?_⟩
        rw [sg_i (by decide), hF 84 (by decide)]
        refine ⟨trivial, ?_⟩
        exact ⟨cg, rfl, rfl, hF, hA⟩
    · have k1 : k < 750 := by
        rcases Nat.lt_or_ge k 750 with q1 | q1
        · exact q1
        · exact absurd (by rw [hz]; exact (nI_leI (a := 750) (by omega) (by omega)).mpr q1) c56
      refine ⟨_, _, rfl, rfl, ?_⟩
      refine ⟨_, _, rfl, rfl, ?_⟩
      refine ⟨_, _, rfl, rfl, ?_⟩
      refine ⟨_, rfl, d - 1, 0, 0, _, by omega, Nat.le_of_ble_eq_true rfl, Nat.le_of_ble_eq_true rfl, Nat.le_of_ble_eq_true rfl, c_rHas (d - 1) hz k1, ?_⟩
      rintro _ _ ⟨rfl, rfl⟩
      refine ⟨Or.inl rfl, ?_⟩
      refine ⟨_, _, k, rfl, hz, by omega, Nat.le_of_ble_eq_true rfl, ?_⟩
      rw [hc_a17]
      rw [nar_b]
      refine ih (k + 1) _ _ (by rw [hz, nI_1]) (fun a ha => (sg_i ha).trans (hF a ha)) (fun f hf => ?_) (by omega) (by omega)
      by_cases q : f = k
      · rw [q, sg_s, hF 85 (by decide)]; congr 1; exact (b_iff (by rw [decide_eq_true_iff]; exact hF0 k k1)).symm
      · rw [sg_j q]; exact hA f (by omega)
theorem c_run {cg : sg_T} {fn : Nat → Option Nat} {cx : cx_T} {P : Nat → Int32} {R C n Q T U d : Nat} (hd : 460 ≤ d) (hC : clR cg P) (hO : okP P R C n Q T U) (t m w : Int32) : am_Met mi_X11_run d 0 0 [.ref 0, .int t, .int m, .int w] (hc cg fn cx) (cX cx (sp_run P t m w)) := by
  refine am_Met.of rfl (Nat.le_of_ble_eq_true rfl) ?_
  refine am_go ok_X11_run [51] 84 ?_
  have fin0 : ∀ rv, (∀ v P', sp_run P t m w v P' → v = rv ∧ P' = P) → cX cx (sp_run P t m w) (some (.int rv)) (hc cg fn cx) := fun rv h => ⟨rv, cg, fn, cx, rfl, rfl, rfl, fun v P' hv => ⟨(h v P' hv).1, by rw [(h v P' hv).2]; exact hC⟩⟩
  have U6 := hO.u.2.1
  refine ⟨_, _, rfl, rfl, ?_⟩
  refine ⟨_, rfl, d - 1, 0, 0, _, by omega, Nat.le_of_ble_eq_true rfl, Nat.le_of_ble_eq_true rfl, Nat.le_of_ble_eq_true rfl, c_has (w := 6) (n := U) (d - 1) t rfl (by omega) ((hC.1.c 6 (by omega)).trans hO.u.1) (by have := hO.u.2.1; omega), ?_⟩
  rintro _ _ ⟨rfl, rfl⟩
  refine ⟨Or.inl rfl, ?_⟩
  refine ⟨fun c10 => ?_, fun c10 => ?_⟩
  · have nq : ¬ rnA P t w := fun z => (fun z => bI_f c10 (by rw [← hO.u.1]; exact z)) z.1
    refine ⟨trivial, ?_⟩
    refine fin0 _ (fun v P' hv => ?_)
    rcases hv with z | z | z
    · exact z.2
    · exact absurd z.1 nq
    · exact absurd z.1 nq
  · have q1 := (show inI t 0 (P 6 - 1) by rw [hO.u.1]; exact bI_t c10)
    refine ⟨fun c14 => ?_, fun c14 => ?_⟩
    · have nq : ¬ rnA P t w := fun z => i_len z.2.1 c14
      refine ⟨trivial, ?_⟩
      refine fin0 _ (fun v P' hv => ?_)
      rcases hv with z | z | z
      · exact z.2
      · exact absurd z.1 nq
      · exact absurd z.1 nq
    · refine ⟨fun c19 => ?_, fun c19 => ?_⟩
      · have qa : rnA P t w := ⟨q1, i_nlt c14, c19⟩
        refine ⟨fun c26 => ?_, fun c26 => ?_⟩
        · have nn : ¬ inI m 1 200 := fun z => i_len z.1 c26
          refine ⟨trivial, ?_⟩
          refine fin0 _ (fun v P' hv => ?_)
          rcases hv with z | z | z
          · exact absurd qa z.1
          · exact z.2.2
          · exact absurd z.2.1 nn
        · refine ⟨fun c33 => ?_, fun c33 => ?_⟩
          · have qn : inI m 1 200 := ⟨i_nlt c26, c33⟩
            obtain ⟨j, ej, cj, jU⟩ := ix_at hO.u.1 (by omega) q1
            obtain ⟨N, eN, cNN, N2⟩ := ix_c (m := 200) (by omega) ⟨Int32.le_trans (by decide) qn.1, qn.2⟩
            obtain ⟨n', m', n1', en', m1', hg'⟩ := hO.u.2.2 j jU
            have hT : plT cg P j n' R C n := ⟨hC.1, hO.W, hO.l, by omega, en', tcA_W n1' en' m1' hg'⟩
            refine ⟨_, _, rfl, rfl, ?_⟩
            refine ⟨_, rfl, d - 1, 0, 0, _, by omega, Nat.le_of_ble_eq_true rfl, Nat.le_of_ble_eq_true rfl, Nat.le_of_ble_eq_true rfl, c_play hT (d := d - 1) (by omega) hC.2.2.1 hC.2.1 ej eN N2, ?_⟩
            rintro _ _ ⟨rfl, cg1, rfl, hI⟩
            refine ⟨Or.inl rfl, ?_⟩
            obtain ⟨es, s7⟩ := hI.sz
            obtain ⟨i1, i2, i3, i4, i5, i6, i7, i8, i9, sz, g, ⟨t5, tst, c, tB, tc⟩, hf⟩ := id hI
            refine am_W.mono ?_ (c_run_l (cx := cx) (F := (rnE P j N).1) (vt := t) (vn := m) (vw := w) (by omega) (fun f f7 => ?_) 751 0 0 cg1 rfl (fun _ _ => rfl) (fun f hf => absurd hf (by omega)) (by omega) (by omega))
            · rintro r' h' ⟨cg2, rfl, rfl, F2, A2⟩
              refine ⟨_, _, fn, cx, rfl, rfl, rfl, fun v P' hv => ?_⟩
              rcases hv with z | z | z
              · exact absurd qa z.1
              · exact absurd qn z.2.1
              · obtain ⟨-, -, z1, z2⟩ := z
                rw [cj, cNN] at z1 z2
                refine ⟨?_, ?_⟩
                · rcases z2 with y | y
                  · rw [if_pos y.1, y.2, es]
                  · rw [if_neg y.1, y.2, i3]
                · rw [z1]
                  have EC : ∀ aa, (aa < 84 ∨ 90 < aa) → ¬ (aa = 1 ∨ aa = 17) → sg_u cg2 1 17 1 aa = cg aa := fun aa h1 h2 => by rw [sg_i (by omega), F2 aa (by omega)]; exact i1 aa h1
                  have EP : ∀ jj, ¬ (jj = 9 ∨ 2478 ≤ jj ∧ jj < 3228) → rnP P (rnE P j N).1 jj = P jj := fun jj hj => by unfold rnP; rw [if_neg (by omega), pk_un (by omega)]
                  have hr : rI (sg_u cg2 1 17 1) := ⟨sz, g, c, rb_fr tB (by rw [sg_i (by decide)]; exact F2 84 (by decide)) (by rw [sg_i (by decide)]; exact F2 85 (by decide)) (by rw [sg_i (by decide)]; exact F2 86 (by decide)), fun f f7 hn => by rw [sg_i (by decide), F2 87 (by decide)]; exact (tst f f7).2 hn⟩
                  exact ⟨BR_g hO.W hC.1 (fun a h1 h2 => EC a (by omega) (by omega)) (fun j hj => EP j (by omega)) (fun i hi => by rw [EC 2 (by omega) (by omega), hC.1.c i hi]; exact (EP _ (by omega)).symm) (by rw [EC 2 (by omega) (by omega), hC.1.c7]; exact (EP 8 (by omega)).symm) (fun i hi => by rw [EC 3 (by omega) (by omega), hC.1.t i hi, EP _ (by omega)]) (fun i hi => by rw [EC 5 (by omega) (by omega), hC.1.cr i hi]; exact (EP _ (by omega)).symm) (fun i hi => by rw [EC 6 (by omega) (by omega), hC.1.cd i hi]; exact (EP _ (by omega)).symm) (fun i hi => by rw [EC 7 (by omega) (by omega), hC.1.pf i hi]; exact (EP _ (by omega)).symm) (fun i hi => by rw [EC 8 (by omega) (by omega), hC.1.pp i hi]; exact (EP _ (by omega)).symm) (by rw [sg_j (by decide), F2 1 (by decide), i1 1 (by omega), hC.1.tp]; exact (tp_w hO.n3.1 hO.n3.2 (EP 3 (by omega)) (fun k hk => EP _ (by omega))).symm) (fun i hi => by rw [EC 9 (by omega) (by omega), hC.1.k i hi]; exact (EP _ (by omega)).symm) (fun i hi => by rw [EC 10 (by omega) (by omega), hC.1.s i hi]; exact (EP _ (by omega)).symm) (fun i hi => by rw [EC 11 (by omega) (by omega), hC.1.r i hi]; exact (EP _ (by omega)).symm) (fun i hi => by rw [EC 12 (by omega) (by omega), hC.1.tq i hi]; exact (EP _ (by omega)).symm) (fun i hi => by rw [EC 13 (by omega) (by omega), hC.1.tf i hi]; exact (EP _ (by omega)).symm) (fun i hi => by rw [EC 14 (by omega) (by omega), hC.1.td i hi]; exact (EP _ (by omega)).symm) (fun i hi => by rw [EC 15 (by omega) (by omega), hC.1.az i hi]; exact (EP _ (by omega)).symm) (fun i hi => by rw [EC 16 (by omega) (by omega), hC.1.ab i hi, EP _ (by omega)]) (fun f hf => by rw [sg_i (by decide), A2 f hf]; unfold rnP; rw [if_pos ⟨by omega, by omega⟩, show 2478 + f - 2478 = f by omega]) (by rw [sg_s]; unfold rnP; rw [if_neg (by omega), pk_us]), hr, by rw [sg_i (by decide), F2 89 (by decide)]; exact i2, by rw [EC 83 (by omega) (by omega)]; exact hC.2.2.2⟩
            · rw [hf f f7]
              exact ⟨fun y => by rw [(rb_c tB y).1]; exact nI_ge0 _ (by have := (rb_c tB y).2.1; omega), fun y => Classical.byContradiction (fun w => absurd ((rb_neg tB f7).mpr w) (i_len y))⟩
          · have nn : ¬ inI m 1 200 := fun z => c33 z.2
            refine ⟨trivial, ?_⟩
            refine fin0 _ (fun v P' hv => ?_)
            rcases hv with z | z | z
            · exact absurd qa z.1
            · exact z.2.2
            · exact absurd z.2.1 nn
      · have nq : ¬ rnA P t w := fun z => c19 z.2.2
        refine ⟨trivial, ?_⟩
        refine fin0 _ (fun v P' hv => ?_)
        rcases hv with z | z | z
        · exact z.2
        · exact absurd z.1 nq
        · exact absurd z.1 nq
