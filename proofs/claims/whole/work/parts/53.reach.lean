/-! Reach: arrive, conclude -/
/-- f arrives by 'by' -/
def avR (cg : sg_T) (e : Nat) (b : Int32) : sg_T := if cg 85 e < 0 ∧ cg 84 3 < 750 then sg_u (sg_u (sg_u cg 86 (pn (cg 84) 3) (nI e)) 84 3 (cg 84 3 + 1)) 85 e b else if b < cg 85 e then sg_u cg 85 e b else cg
/-- only these cells differ: Reach's size, costs, row -/
def frR3 (cg cg' : sg_T) : Prop := ∀ a, a ≠ 84 → a ≠ 85 → a ≠ 86 → cg' a = cg a
theorem avR_fr {cg : sg_T} {e : Nat} {b : Int32} : frR3 cg (avR cg e b) := by
  intro a h1 h2 h3
  unfold avR
  split
  · rw [sg_i h2, sg_i h1, sg_i h3]
  · split
    · exact sg_i h2
    · rfl
theorem avR_5 {cg : sg_T} {e : Nat} {b : Int32} : avR cg e b 84 5 = cg 84 5 := by
  unfold avR
  split
  · rw [sg_i (by decide), sg_j (by decide), sg_i (by decide)]
  · split
    · rw [sg_i (by decide)]
    · rfl
def mxI (x y : Int32) : Int32 := if x < y then y else x
def mnI (x y : Int32) : Int32 := if y < x then y else x
def smI (c : Nat → Int32) (tm : Nat → Nat) : Nat → Int32
  | 0 => 0
  | k + 1 => smI c tm k + c (tm k)
def gtI (c : Nat → Int32) (tm : Nat → Nat) : Nat → Int32
  | 0 => 0
  | k + 1 => mxI (gtI c tm k) (c (tm k))
def byI (cg : sg_T) (tm : Nat → Nat) (nt : Nat) : Int32 := if cg 84 5 = 0 then 1 + gtI (cg 85) tm nt else mnI 100000 (1 + smI (cg 85) tm nt)
/-- the FACTS of the TERMS of the text at x -/
abbrev tmX (P : Nat → Int32) (x : Nat) (L : Nat → Nat) : Nat → Nat := fun k => faN P L (x + 2 + 4 * k)
def cdC (cg : sg_T) (P : Nat → Int32) (x : Nat) (L : Nat → Nat) : Prop := thN P L x (pn P (x + 1)) = true ∧ ∀ k, k < pn P x → ¬ cg 87 (tmX P x L k) = 0
/-- an instance is tried -/
noncomputable def stp (P : Nat → Int32) (x : Nat) (cg : sg_T) (L : Nat → Nat) : sg_T := iF (cdC cg P x L) (avR cg (faN P L (x + 26)) (byI cg (tmX P x L) (pn P x))) cg
theorem stp_fr {P : Nat → Int32} {x : Nat} {cg : sg_T} {L : Nat → Nat} : frR3 cg (stp P x cg L) := by
  unfold stp
  by_cases h : cdC cg P x L
  · rw [iF_p h]; exact avR_fr
  · rw [iF_n h]; exact fun _ _ _ _ => rfl
theorem mm_max_c : prog_16_method_65_code = Lib.Math.max.code := by decide +kernel
theorem am_s_max {d kc ks : Nat} {Q : Option Value → am_H → Prop} {ls : am_L} {h : am_H} {x y : Int32} {st : List Value} (hc8 : am_cat st ≤ 8) (hd1 : 1 ≤ d) (hk : am_W mi_X6_conclude d Q kc ks 72 ls (.int (mxI x y) :: st) h) : am_W mi_X6_conclude d Q kc ks 69 ls (.int y :: .int x :: st) h := by
  intro p l e R s m args below meth c D tc ad ad0 h0 A H locs cells slots mc ms lsC hX hE hA hG hag hP hD hS hl
  have hT := hX.2.2.2.2.2.2.2.1
  obtain ⟨g1, g2, g3, g4, g5, g6⟩ := id hG
  have w1 : Cond.methodLink (am_y mi_X6_conclude).cls 117 Lib.Math.max.name ∈ am_gt := am_m 536 (by decide +kernel) rfl
  have w2 : Cond.static Lib.Math.max.name ∈ am_gt := am_m 537 (by decide +kernel) rfl
  have w3 : Cond.initialized "java/lang/Math" ∈ am_gt := am_m 15 (by decide +kernel) rfl
  have w4 : Cond.code Lib.Math.max.name Lib.Math.max.code 2 (some .int) ∈ am_gt := by rw [← mm_max_c]; exact am_m 538 (by decide +kernel) rfl
  exact va_mmax hX.1 hX.2.1 (hX.2.2.2.1.trans hl.1.symm) hX.2.2.2.2.1 (hT _ w1 args) (hT _ w2 args) (hT _ w3 args) (hT _ w4 args) (by omega) (by rw [am_cat_v]; omega) (by omega) (by omega) ((ok_X6_conclude 69 3 _ _ _ _ _ rfl).1) (hk p l e R s m args below meth c D tc ad ad0 h0 A H locs cells slots mc ms lsC hX hE hA hG hag hP hD hS hl)
theorem mm_min_c : prog_16_method_69_code = Lib.Math.min.code := by decide +kernel
theorem am_s_min {d kc ks : Nat} {Q : Option Value → am_H → Prop} {ls : am_L} {h : am_H} {x y : Int32} {st : List Value} (hc8 : am_cat st ≤ 8) (hd1 : 1 ≤ d) (hk : am_W mi_X6_conclude d Q kc ks 104 ls (.int (mnI x y) :: st) h) : am_W mi_X6_conclude d Q kc ks 101 ls (.int y :: .int x :: st) h := by
  intro p l e R s m args below meth c D tc ad ad0 h0 A H locs cells slots mc ms lsC hX hE hA hG hag hP hD hS hl
  have hT := hX.2.2.2.2.2.2.2.1
  obtain ⟨g1, g2, g3, g4, g5, g6⟩ := id hG
  have w1 : Cond.methodLink (am_y mi_X6_conclude).cls 124 Lib.Math.min.name ∈ am_gt := am_m 540 (by decide +kernel) rfl
  have w2 : Cond.static Lib.Math.min.name ∈ am_gt := am_m 355 (by decide +kernel) rfl
  have w3 : Cond.initialized "java/lang/Math" ∈ am_gt := am_m 15 (by decide +kernel) rfl
  have w4 : Cond.code Lib.Math.min.name Lib.Math.min.code 2 (some .int) ∈ am_gt := by rw [← mm_min_c]; exact am_m 356 (by decide +kernel) rfl
  exact va_mmin hX.1 hX.2.1 (hX.2.2.2.1.trans hl.1.symm) hX.2.2.2.2.1 (hT _ w1 args) (hT _ w2 args) (hT _ w3 args) (hT _ w4 args) (by omega) (by rw [am_cat_v]; omega) (by omega) (by omega) ((ok_X6_conclude 101 3 _ _ _ _ _ rfl).1) (hk p l e R s m args below meth c D tc ad ad0 h0 A H locs cells slots mc ms lsC hX hE hA hG hag hP hD hS hl)
theorem c_arrive {cg : sg_T} {fn : Nat → Option Nat} {cx : cx_T} (d : Nat) {e sz : Nat} {ve b : Int32} (he : ve = nI e) (e7 : e < 750) (hz : cg 84 3 = nI sz) (z7 : sz ≤ 750) : am_Met mi_X6_arrive d 0 0 [.ref 84, .int ve, .int b] (hc cg fn cx) (fun r' h' => r' = none ∧ h' = hc (avR cg e b) fn cx) := by
  refine am_Met.of rfl (Nat.le_of_ble_eq_true rfl) ?_
  refine am_go ok_X6_arrive [] 87 ?_
  refine ⟨_, _, rfl, rfl, ?_⟩
  refine ⟨_, _, e, rfl, he, by omega, Nat.le_of_ble_eq_true rfl, ?_⟩
  refine ⟨fun c6 => ?_, fun c6 => ?_⟩
  · have a1 : ¬ (cg 85 e < 0 ∧ cg 84 3 < 750) := fun z => i_ltn z.1 c6
    refine ⟨_, _, rfl, rfl, ?_⟩
    refine ⟨_, _, e, rfl, he, by omega, Nat.le_of_ble_eq_true rfl, ?_⟩
    refine ⟨fun c56 => ?_, fun c56 => ?_⟩
    · have a2 : ¬ b < cg 85 e := i_len c56
      refine ⟨rfl, ?_⟩
      unfold avR
      first
      | rw [if_pos a1, pn_of hz (by omega), ← he]; rfl
      | rw [if_neg a1, if_neg a2]
      | rw [if_neg a1, if_pos a2]
    · have a2 : b < cg 85 e := i_nle c56
      refine ⟨_, _, rfl, rfl, ?_⟩
      refine ⟨_, _, e, rfl, he, by omega, Nat.le_of_ble_eq_true rfl, ?_⟩
      rw [hc_a85]
      refine ⟨rfl, ?_⟩
      unfold avR
      first
      | rw [if_pos a1, pn_of hz (by omega), ← he]; rfl
      | rw [if_neg a1, if_neg a2]
      | rw [if_neg a1, if_pos a2]
  · refine ⟨_, _, rfl, rfl, ?_⟩
    refine ⟨fun c16 => ?_, fun c16 => ?_⟩
    · have a1 : ¬ (cg 85 e < 0 ∧ cg 84 3 < 750) := fun z => i_ltn z.2 c16
      refine ⟨_, _, rfl, rfl, ?_⟩
      refine ⟨_, _, e, rfl, he, by omega, Nat.le_of_ble_eq_true rfl, ?_⟩
      refine ⟨fun c56 => ?_, fun c56 => ?_⟩
      · have a2 : ¬ b < cg 85 e := i_len c56
        refine ⟨rfl, ?_⟩
        unfold avR
        first
        | rw [if_pos a1, pn_of hz (by omega), ← he]; rfl
        | rw [if_neg a1, if_neg a2]
        | rw [if_neg a1, if_pos a2]
      · have a2 : b < cg 85 e := i_nle c56
        refine ⟨_, _, rfl, rfl, ?_⟩
        refine ⟨_, _, e, rfl, he, by omega, Nat.le_of_ble_eq_true rfl, ?_⟩
        rw [hc_a85]
        refine ⟨rfl, ?_⟩
        unfold avR
        first
        | rw [if_pos a1, pn_of hz (by omega), ← he]; rfl
        | rw [if_neg a1, if_neg a2]
        | rw [if_neg a1, if_pos a2]
    · have a1 : cg 85 e < 0 ∧ cg 84 3 < 750 := ⟨i_nle c6, i_nle c16⟩
      have z8 : sz < 750 := by have := a1.2; rw [hz] at this; exact (nI_ltI (b := 750) (by omega) (by omega)).mp this
      refine ⟨_, _, rfl, rfl, ?_⟩
      refine ⟨_, _, rfl, rfl, ?_⟩
      refine ⟨_, _, sz, rfl, hz, by omega, Nat.le_of_ble_eq_true rfl, ?_⟩
      rw [hc_a86]
      refine ⟨_, _, rfl, rfl, ?_⟩
      refine ⟨_, rfl, Nat.le_of_ble_eq_true rfl, trivial, ?_⟩
      rw [hc_f84_3]
      refine ⟨_, _, rfl, rfl, ?_⟩
      refine ⟨_, _, e, rfl, he, by omega, Nat.le_of_ble_eq_true rfl, ?_⟩
      rw [hc_a85]
      refine ⟨rfl, ?_⟩
      unfold avR
      first
      | rw [if_pos a1, pn_of hz (by omega), ← he]; rfl
      | rw [if_neg a1, if_neg a2]
      | rw [if_neg a1, if_pos a2]
/-- the values say what the letters are, wherever this text asks -/
def vlT (W : Nat → Int32) (L : Nat → Nat) (P : Nat → Int32) (x : Nat) : Prop := (∀ k, k < pn P x → ∀ i, 1 ≤ i → i < 4 → vOK W L (pn P (x + 2 + 4 * k + i))) ∧ (∀ i, 1 ≤ i → i < 4 → vOK W L (pn P (x + 26 + i))) ∧ ∀ k, k < pn P (x + 1) → vOK W L (pn P (x + 14 + 3 * k)) ∧ vOK W L (pn P (x + 16 + 3 * k))
theorem c_conc_v {cg : sg_T} {fn : Nat → Option Nat} {cx : cx_T} {d kc ks e sz : Nat} {b : Int32} {ls : am_L} {cg' : sg_T} (hd : 1 ≤ d) (hz : cg 84 3 = nI sz) (z7 : sz ≤ 750) (e7 : e < 750) (es : cg' = avR cg e b) : am_W mi_X6_conclude d (fun r' h' => r' = none ∧ h' = hc cg' fn cx) kc ks 110 ls [.int b, .int (nI e), .ref 84] (hc cg fn cx) := by
  refine am_go ok_X6_conclude [] 60 ?_
  refine ⟨_, rfl, d - 1, 0, 0, _, by omega, Nat.le_of_ble_eq_true rfl, Nat.le_of_ble_eq_true rfl, Nat.le_of_ble_eq_true rfl, c_arrive (e := e) (d - 1) rfl e7 hz z7, ?_⟩
  rintro _ _ ⟨rfl, rfl⟩
  refine ⟨Or.inl rfl, ?_⟩
  exact ⟨rfl, by rw [es]⟩
theorem c_conc_e {cg : sg_T} {fn : Nat → Option Nat} {cx : cx_T} {P : Nat → Int32} {d kc ks t x sz : Nat} {L : Nat → Nat} (hd : 3 ≤ d) (t20 : t < 20) (hR : txR cg (18 + 3 * t) P x) (hX : okX P x) (hL : okL L) (hV : vlT (cg 89) L P x) (hz : cg 84 3 = nI sz) (z7 : sz ≤ 750) {w2 w3 z : Int32} {t5 : Option Value} (h2 : w2 = smI (cg 85) (tmX P x L) (pn P x)) (h3 : w3 = gtI (cg 85) (tmX P x L) (pn P x)) (hC : cdC cg P x L) : am_W mi_X6_conclude d (fun r' h' => r' = none ∧ h' = hc (stp P x cg L) fn cx) kc ks 79 [some (.ref 84), some (.ref (18 + 3 * t)), some (.int w2), some (.int w3), some (.int z), t5] [] (hc cg fn cx) := by
  refine am_go ok_X6_conclude [101] 73 ?_
  have hsl := tx_sl (s := 3) hR (Or.inr rfl)
  have e7 := faN_lt hL hX.2.2.2.1
  have es : stp P x cg L = avR cg (faN P L (x + 26)) (byI cg (tmX P x L) (pn P x)) := by unfold stp; rw [iF_p hC]
  refine ⟨_, _, rfl, rfl, ?_⟩
  refine ⟨_, hc_nT t20, d - 1, 0, 0, _, by omega, Nat.le_of_ble_eq_true rfl, Nat.le_of_ble_eq_true rfl, Nat.le_of_ble_eq_true rfl, c_factOf (L := L) t20 (s := 3) rfl (by omega) rfl hsl hX.2.2.2.1 hL (fun i h1 h2 => hV.2.1 i h1 h2), ?_⟩
  rintro _ _ ⟨rfl, rfl⟩
  refine ⟨Or.inl rfl, ?_⟩
  refine ⟨_, _, rfl, rfl, ?_⟩
  refine ⟨fun c93 => ?_, fun c93 => ?_⟩
  · have eb : byI cg (tmX P x L) (pn P x) = 1 + gtI (cg 85) (tmX P x L) (pn P x) := by unfold byI; rw [if_pos c93]
    refine ⟨_, rfl, d - 1, 0, 0, _, by omega, Nat.le_of_ble_eq_true rfl, Nat.le_of_ble_eq_true rfl, Nat.le_of_ble_eq_true rfl, c_arrive (e := faN P L (x + 26)) (d - 1) rfl e7 hz z7, ?_⟩
    rintro _ _ ⟨rfl, rfl⟩
    refine ⟨Or.inl rfl, ?_⟩
    refine ⟨rfl, ?_⟩
    rw [es, eb, h3]
  · have cb : ¬ cg 84 5 = 0 := c93
    refine am_s_min (st := [.int _, .ref 84]) (Nat.le_of_ble_eq_true rfl) (by omega) ?_
    refine am_go ok_X6_conclude [110] 60 ?_
    have eb : byI cg (tmX P x L) (pn P x) = mnI 100000 (1 + w2) := by unfold byI; rw [if_neg cb, h2]
    exact c_conc_v (by omega) hz z7 e7 (es.trans (by rw [eb]; rfl))
theorem c_conc_l {cg : sg_T} {fn : Nat → Option Nat} {cx : cx_T} {P : Nat → Int32} {d kc ks t x sz : Nat} {L : Nat → Nat} (hd : 3 ≤ d) (t20 : t < 20) (hR : txR cg (18 + 3 * t) P x) (hX : okX P x) (hL : okL L) (hV : vlT (cg 89) L P x) (hz : cg 84 3 = nI sz) (z7 : sz ≤ 750) (hth : thN P L x (pn P (x + 1)) = true) : ∀ (u k : Nat) (w2 w3 z : Int32) (t5 : Option Value), z = nI k → w2 = smI (cg 85) (tmX P x L) k → w3 = gtI (cg 85) (tmX P x L) k → (∀ j, j < k → ¬ cg 87 ((tmX P x L) j) = 0) → k ≤ pn P x → pn P x < k + u → am_W mi_X6_conclude d (fun r' h' => r' = none ∧ h' = hc (stp P x cg L) fn cx) kc ks 19 [some (.ref 84), some (.ref (18 + 3 * t)), some (.int w2), some (.int w3), some (.int z), t5] [] (hc cg fn cx) := by
  intro u
  induction u with
  | zero => intro k w2 w3 z t5 hk h2 h3 hs hl1 hl2; exact absurd hl2 (by omega)
  | succ u ih =>
    intro k w2 w3 z t5 hk h2 h3 hs hl1 hl2
    refine am_go ok_X6_conclude [19, 69, 79] 87 ?_
    obtain ⟨nt, nt1, nt3, ent⟩ := id hX.1
    have pnt := pn_of ent (by omega)
    rw [pnt] at hl1 hl2
    refine ⟨_, _, hc_nT t20, rfl, ?_⟩
    rw [hR.1, ent]
    refine ⟨fun c25 => ?_, fun c25 => ?_⟩
    · rw [hk] at c25
      have k1 : k = pn P x := by rw [pnt]; have := (nI_leI (by omega) (by omega)).mp c25; omega
      exact c_conc_e hd t20 hR hX hL hV hz z7 (by rw [h2, k1]) (by rw [h3, k1]) ⟨hth, by rw [← k1]; exact hs⟩
    · have k1 : k < nt := by
        rcases Nat.lt_or_ge k nt with q1 | q1
        · exact q1
        · exact absurd (by rw [hk]; exact (nI_leI (by omega) (by omega)).mpr q1) c25
      have ho : okT P (x + 2 + 4 * k) := hX.2.2.1 k (by omega)
      have ey : ySl x k = x + 2 + 4 * k := by unfold ySl; rw [if_neg (by omega)]
      have hsl := tx_sl (s := k) hR (Or.inl (by omega))
      rw [ey] at hsl
      have e7 := faN_lt hL ho
      refine ⟨_, _, rfl, rfl, ?_⟩
      refine ⟨_, hc_nT t20, d - 1, 0, 0, _, by omega, Nat.le_of_ble_eq_true rfl, Nat.le_of_ble_eq_true rfl, Nat.le_of_ble_eq_true rfl, c_factOf (L := L) t20 (s := k) hk (by omega) rfl hsl ho hL (fun i h1 h2 => hV.1 k (by omega) i h1 h2), ?_⟩
      rintro _ _ ⟨rfl, rfl⟩
      refine ⟨Or.inl rfl, ?_⟩
      refine ⟨_, _, rfl, rfl, ?_⟩
      refine ⟨_, _, (faN P L (x + 2 + 4 * k)), rfl, rfl, by omega, Nat.le_of_ble_eq_true rfl, ?_⟩
      refine ⟨fun c47 => ?_, fun c47 => ?_⟩
      · refine ⟨_, _, rfl, rfl, ?_⟩
        refine ⟨_, _, (faN P L (x + 2 + 4 * k)), rfl, rfl, by omega, Nat.le_of_ble_eq_true rfl, ?_⟩
        refine ⟨_, _, rfl, rfl, ?_⟩
        refine ⟨_, _, (faN P L (x + 2 + 4 * k)), rfl, rfl, by omega, Nat.le_of_ble_eq_true rfl, ?_⟩
        refine am_s_max (st := []) (Nat.le_of_ble_eq_true rfl) (by omega) ?_
        refine am_go ok_X6_conclude [19] 60 ?_
        exact ih (k + 1) _ _ _ _ (by rw [hk, nI_1]) (by rw [smI, h2]) (by rw [gtI, h3]) (fun j hj => by rcases (show j = k ∨ j < k by omega) with e | e; (subst e; exact c47); exact hs j e) (by omega) (by omega)
      · have hn : ¬ cdC cg P x L := fun w => w.2 k (by omega) c47
        exact ⟨rfl, by unfold stp; rw [iF_n hn]⟩
theorem c_conclude {cg : sg_T} {fn : Nat → Option Nat} {cx : cx_T} {P : Nat → Int32} {d t x sz : Nat} {L : Nat → Nat} (hd : 3 ≤ d) (t20 : t < 20) (hR : txR cg (18 + 3 * t) P x) (hX : okX P x) (hL : okL L) (hV : vlT (cg 89) L P x) (hz : cg 84 3 = nI sz) (z7 : sz ≤ 750) : am_Met mi_X6_conclude d 0 0 [.ref 84, .ref (18 + 3 * t)] (hc cg fn cx) (fun r' h' => r' = none ∧ h' = hc (stp P x cg L) fn cx) := by
  refine am_Met.of rfl (Nat.le_of_ble_eq_true rfl) ?_
  refine am_go ok_X6_conclude [19] 71 ?_
  refine ⟨_, _, rfl, rfl, ?_⟩
  refine ⟨_, hc_nT t20, d - 1, 0, 0, _, by omega, Nat.le_of_ble_eq_true rfl, Nat.le_of_ble_eq_true rfl, Nat.le_of_ble_eq_true rfl, c_testsHold (ns := 0) (L := L) t20 rfl hR hX hL hV.2.2, ?_⟩
  rintro _ _ ⟨rfl, rfl⟩
  refine ⟨Or.inl rfl, ?_⟩
  refine ⟨fun c8 => ?_, fun c8 => ?_⟩
  · have hth : thN P L x (pn P (x + 1)) = true := by
      cases e : thN P L x (pn P (x + 1)) with
      | true => rfl
      | false => rw [e] at c8; exact absurd rfl c8
    exact c_conc_l hd t20 hR hX hL hV hz z7 hth (pn P x + 1) 0 0 0 0 none rfl rfl rfl (fun j hj => absurd hj (by omega)) (by omega) (by omega)
  · have hn : ¬ cdC cg P x L := fun w => absurd ((bI_0.mp c8).symm.trans w.1) (by decide)
    exact ⟨rfl, by unfold stp; rw [iF_n hn]⟩
