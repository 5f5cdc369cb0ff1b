/-! the Judge: facts of steps; what is lacking, without machine -/
theorem txR_fr {cg cg' : sg_T} {a x : Nat} {P : Nat → Int32} (h : txR cg a P x) (e0 : cg' a = cg a) (e1 : cg' (a + 1) = cg (a + 1)) (e2 : cg' (a + 2) = cg (a + 2)) : txR cg' a P x := by
  unfold txR; rw [e0, e1, e2]; exact h
theorem BR_fr {cg cg' : sg_T} {P : Nat → Int32} {R C n : Nat} (hW : wkA P R C n) (h : BR 1 cg P) (e : ∀ a, a < 78 → cg' a = cg a) : BR 1 cg' P := by
  have p1 := pn_of hW.1 (by have := hW.2.1; omega)
  have p2 := pn_of hW.2.2.1 (by have := hW.2.2.2.1; omega)
  have R8 := hW.2.1; have C12 := hW.2.2.2.1
  have hr : ∀ r, r < pn P 1 → txR cg' (1 + 17 + 3 * r) P (1758 + 30 * pn P (10 + r)) := fun r hr => txR_fr (h.xr r hr) (e _ (by omega)) (e _ (by omega)) (e _ (by omega))
  have hc : ∀ c, c < pn P 2 → txR cg' (1 + 17 + 3 * (8 + c)) P (1758 + 30 * pn P (42 + c)) := fun c hc => txR_fr (h.xc c hc) (e _ (by omega)) (e _ (by omega)) (e _ (by omega))
  unfold BR at h ⊢
  simp only [e 1 (by omega), e (1 + 1) (by omega), e (1 + 2) (by omega), e (1 + 4) (by omega), e (1 + 5) (by omega), e (1 + 6) (by omega), e (1 + 7) (by omega), e (1 + 8) (by omega), e (1 + 9) (by omega), e (1 + 10) (by omega), e (1 + 11) (by omega), e (1 + 12) (by omega), e (1 + 13) (by omega), e (1 + 14) (by omega), e (1 + 15) (by omega), e (1 + 16) (by omega)]
  obtain ⟨a1, a2, a3, a4, a5, a6, a7, a8, a9, a10, a11, a12, a13, a14, a15, a16, a17, a18, -, -⟩ := h
  exact ⟨a1, a2, a3, a4, a5, a6, a7, a8, a9, a10, a11, a12, a13, a14, a15, a16, a17, a18, hr, hc⟩
def dgV (W : Nat → Int32) : Prop := ∀ i, i < 5 → W i = nI i
/-- the Judge's values alone differ -/
def frJ (cg cg' : sg_T) : Prop := (∀ a, a ≠ 83 → cg' a = cg a) ∧ ∀ i, i < 5 → cg' 83 i = cg 83 i
theorem frJ.rf {cg : sg_T} : frJ cg cg := ⟨fun _ _ => rfl, fun _ _ => rfl⟩
theorem frJ.tr {a b c : sg_T} (h : frJ a b) (g : frJ b c) : frJ a c := ⟨fun i hi => (g.1 i hi).trans (h.1 i hi), fun i hi => (g.2 i hi).trans (h.2 i hi)⟩
theorem vok_J {W : Nat → Int32} {L : Nat → Nat} (hd : dgV W) (hl : ∀ l, l < 4 → W (5 + l) = nI (L l)) {c : Nat} (hc : c < 5 ∨ 10 ≤ c ∧ c < 14) : vOK W L c := by
  unfold vOK cdN cvN
  by_cases h : 10 ≤ c
  · rw [if_pos h, if_pos h, show c - 5 = 5 + (c - 10) by omega]; exact hl _ (by omega)
  · rw [if_neg h, if_neg h]; exact hd _ (by omega)
theorem row_c {P : Nat → Int32} {cg : sg_T} (hB : BR 1 cg P) {q s i : Nat} (hq : q < 12) (hs : s < 12) (hi : i < 6) : cg 11 (72 * q + 6 * s + i) = P (rwX q s + i) := by
  rw [hB.r _ (by omega)]
  exact (show P (138 + (72 * q + 6 * s + i)) = P (rwX q s + i) by congr 1; unfold rwX; omega)
theorem ok_fc {P : Nat → Int32} {R C n Q q s : Nat} (hW : wkA P R C n) (hA : pfA P R Q) (hq : q < Q) (hs : s < pn P (126 + q)) : q < 12 ∧ s < 12 ∧ ∃ r m, r < R ∧ r < 8 ∧ P (rwX q s) = nI r ∧ pn P (rwX q s) = r ∧ m < 625 ∧ P (rwX q s + 1) = nI m ∧ pn P (rwX q s + 1) = m ∧ ∃ t, 1 ≤ t ∧ t ≤ 3 ∧ P (rwX q s + 2) = nI t ∧ pn P (rwX q s + 2) = t := by
  obtain ⟨q12, -, st, st12, -, pst, hr⟩ := pf_at hA hq
  obtain ⟨⟨⟨r, hr1, er⟩, ⟨m, hm, em⟩, -⟩, t, t1, t3, et, pt⟩ := hr s (by omega)
  have := hW.2.1
  exact ⟨q12, by omega, r, m, hr1, by omega, er, pn_of er (by omega), hm, em, pn_of em (by omega), t, t1, t3, et, pt⟩
theorem c_factOfStep {cg : sg_T} {fn : Nat → Option Nat} {cx : cx_T} {P : Nat → Int32} (hB : BR 1 cg P) {d : Nat} (hd : 3 ≤ d) {R C n Q : Nat} (hW : wkA P R C n) (hA : pfA P R Q) (hG : dgV (cg 83)) {q s : Nat} {vq vs dy : Int32} (hq : vq = nI q) (hs : vs = nI s) (qQ : q < Q) (sS : s < pn P (126 + q)) : am_Met mi_X2_factOfStep d 0 0 [.ref 78, .int vq, .int vs, .int dy] (hc cg fn cx) (fun r' h' => r' = some (.int (nI (syN P dy q s))) ∧ ∃ cg', h' = hc cg' fn cx ∧ frJ cg cg') := by
  refine am_Met.of rfl (Nat.le_of_ble_eq_true rfl) ?_
  refine am_go ok_X2_factOfStep [] 91 ?_
  obtain ⟨q12, s12, r, m, rR, r8, er, pr, m625, em, pm, -⟩ := ok_fc hW hA qQ sS
  have C12 := hW.2.2.2.1
  refine ⟨_, _, rfl, rfl, ?_⟩
  refine ⟨_, rfl, d - 1, 0, 0, _, by omega, Nat.le_of_ble_eq_true rfl, Nat.le_of_ble_eq_true rfl, Nat.le_of_ble_eq_true rfl, c_rowOf (d - 1) hq hs, ?_⟩
  rintro _ _ ⟨rfl, rfl⟩
  refine ⟨Or.inl rfl, ?_⟩
  refine ⟨_, _, rfl, rfl, ?_⟩
  refine ⟨_, _, rfl, rfl, ?_⟩
  refine ⟨_, _, (72 * q + 6 * s + 1), rfl, (nI_add _ 1), by omega, Nat.le_of_ble_eq_true rfl, ?_⟩
  rw [row_c hB q12 s12 (by omega), em]
  refine ⟨_, _, rfl, rfl, ?_⟩
  refine ⟨d - 1, 0, 0, _, by omega, Nat.le_of_ble_eq_true rfl, Nat.le_of_ble_eq_true rfl, Nat.le_of_ble_eq_true rfl, c_putLetters rfl m625, ?_⟩
  rintro _ _ ⟨rfl, cg2, rfl, g1, g2, g3⟩
  refine ⟨Or.inl rfl, ?_⟩
  have hF : frJ cg cg2 := ⟨g1, g2⟩
  have hB2 : BR 1 cg2 P := BR_fr hW hB (fun a ha => g1 a (by omega))
  have hG2 : dgV (cg2 83) := fun i hi => (g2 i hi).trans (hG i hi)
  refine ⟨_, _, rfl, rfl, ?_⟩
  refine ⟨_, _, rfl, rfl, ?_⟩
  refine ⟨_, _, rfl, rfl, ?_⟩
  refine ⟨_, _, (72 * q + 6 * s), rfl, (by show nI _ + nI 0 = _; rw [nI_add, Nat.add_zero]), by omega, Nat.le_of_ble_eq_true rfl, ?_⟩
  rw [show cg2 11 (72 * q + 6 * s) = P (rwX q s) from row_c (i := 0) hB2 q12 s12 (by omega), er]
  refine ⟨_, rfl, d - 1, 0, 0, _, by omega, Nat.le_of_ble_eq_true rfl, Nat.le_of_ble_eq_true rfl, Nat.le_of_ble_eq_true rfl, c_textOn hB2 (by omega) dy rfl r8 hW.2.2.1 C12, ?_⟩
  rintro _ _ ⟨rfl, rfl⟩
  refine ⟨Or.inl rfl, ?_⟩
  obtain ⟨hR, t20⟩ := ct_rel (dy := dy) hB2 hW rR
  have hX : okX P (txX P r dy) := wkA_x hW rR
  refine ⟨_, _, rfl, rfl, ?_⟩
  refine ⟨_, hc_nT t20, d - 1, 0, 0, _, by omega, Nat.le_of_ble_eq_true rfl, Nat.le_of_ble_eq_true rfl, Nat.le_of_ble_eq_true rfl, c_factOf (L := Lm m) t20 (s := 3) rfl (by omega) rfl (tx_sl hR (Or.inr rfl)) hX.2.2.2.1 (okL_Lm m625) (fun i h1 h2 => vok_J hG2 g3 (okT_c hX.2.2.2.1 h1 h2)), ?_⟩
  rintro _ _ ⟨rfl, rfl⟩
  refine ⟨Or.inl rfl, ?_⟩
  refine ⟨trivial, ?_⟩
  exact ⟨by unfold syN; rw [pr, pm]; rfl, cg2, rfl, hF⟩
/-- the FACT of a STEP's TERM today; -1 if the text has no such -/
noncomputable def ftI (P : Nat → Int32) (q s : Nat) (k : Int32) : Int32 := iF (0 ≤ k ∧ k < P (txX P (pn P (rwX q s)) (P 0))) (nI (trN P (P 0) q s (cN k))) (-1)
theorem c_factOfTerm {cg : sg_T} {fn : Nat → Option Nat} {cx : cx_T} {P : Nat → Int32} (hB : BR 1 cg P) {d : Nat} (hd : 3 ≤ d) {R C n Q : Nat} (hW : wkA P R C n) (hA : pfA P R Q) (hG : dgV (cg 83)) {q s : Nat} {vq vs vk : Int32} (hq : vq = nI q) (hs : vs = nI s) (qQ : q < Q) (sS : s < pn P (126 + q)) : am_Met mi_X2_factOfTerm d 0 0 [.ref 78, .int vq, .int vs, .int vk] (hc cg fn cx) (fun r' h' => r' = some (.int (ftI P q s vk)) ∧ ∃ cg', h' = hc cg' fn cx ∧ frJ cg cg') := by
  refine am_Met.of rfl (Nat.le_of_ble_eq_true rfl) ?_
  refine am_go ok_X2_factOfTerm [] 103 ?_
  obtain ⟨q12, s12, r, m, rR, r8, er, pr, m625, em, pm, -⟩ := ok_fc hW hA qQ sS
  have C12 := hW.2.2.2.1
  refine ⟨_, _, rfl, rfl, ?_⟩
  refine ⟨_, rfl, d - 1, 0, 0, _, by omega, Nat.le_of_ble_eq_true rfl, Nat.le_of_ble_eq_true rfl, Nat.le_of_ble_eq_true rfl, c_rowOf (d - 1) hq hs, ?_⟩
  rintro _ _ ⟨rfl, rfl⟩
  refine ⟨Or.inl rfl, ?_⟩
  refine ⟨_, _, rfl, rfl, ?_⟩
  refine ⟨_, _, rfl, rfl, ?_⟩
  refine ⟨_, _, rfl, rfl, ?_⟩
  refine ⟨_, _, (72 * q + 6 * s), rfl, (by show nI _ + nI 0 = _; rw [nI_add, Nat.add_zero]), by omega, Nat.le_of_ble_eq_true rfl, ?_⟩
  rw [show cg 11 (72 * q + 6 * s) = P (rwX q s) from row_c (i := 0) hB q12 s12 (by omega), er]
  refine ⟨_, _, rfl, rfl, ?_⟩
  refine ⟨_, _, rfl, rfl, ?_⟩
  refine ⟨_, _, 0, rfl, rfl, Nat.le_of_ble_eq_true rfl, Nat.le_of_ble_eq_true rfl, ?_⟩
  rw [hB.c 0 (by omega)]
  refine ⟨_, rfl, d - 1, 0, 0, _, by omega, Nat.le_of_ble_eq_true rfl, Nat.le_of_ble_eq_true rfl, Nat.le_of_ble_eq_true rfl, c_textOn hB (by omega) (P 0) rfl r8 hW.2.2.1 C12, ?_⟩
  rintro _ _ ⟨rfl, rfl⟩
  refine ⟨Or.inl rfl, ?_⟩
  obtain ⟨hR, t20⟩ := ct_rel (dy := P 0) hB hW rR
  have hX : okX P (txX P r (P 0)) := wkA_x hW rR
  obtain ⟨nt, nt1, nt3, ent⟩ := id hX.1
  have pnt := pn_of ent (by omega)
  refine ⟨fun c42 => ?_, fun c42 => ?_⟩
  · have ee : ftI P q s vk = -1 := by unfold ftI; rw [iF_n (fun z => i_ltn c42 z.1)]
    refine ⟨trivial, ?_⟩
    rw [ee]; exact ⟨rfl, cg, rfl, frJ.rf⟩
  · refine ⟨_, _, hc_nT t20, rfl, ?_⟩
    rw [hR.1]
    refine ⟨fun c51 => ?_, fun c51 => ?_⟩
    · rw [ent] at c51
      obtain ⟨k, ek, ck, kl⟩ := ix_c (v := vk) (m := nt) (by omega) ⟨i_nlt c42, Int32.le_of_lt c51⟩
      have kn : k < nt := by rw [ek] at c51; exact (nI_ltI (by omega) (by omega)).mp c51
      have ee : ftI P q s vk = nI (trN P (P 0) q s k) := by unfold ftI; rw [pr, iF_p ⟨i_nlt c42, by rw [ent]; exact c51⟩, ck]
      refine ⟨_, _, rfl, rfl, ?_⟩
      refine ⟨_, _, rfl, rfl, ?_⟩
      refine ⟨_, _, (72 * q + 6 * s + 1), rfl, (nI_add _ 1), by omega, Nat.le_of_ble_eq_true rfl, ?_⟩
      rw [row_c hB q12 s12 (by omega), em]
      refine ⟨_, _, rfl, rfl, ?_⟩
      refine ⟨d - 1, 0, 0, _, by omega, Nat.le_of_ble_eq_true rfl, Nat.le_of_ble_eq_true rfl, Nat.le_of_ble_eq_true rfl, c_putLetters rfl m625, ?_⟩
      rintro _ _ ⟨rfl, cg2, rfl, g1, g2, g3⟩
      refine ⟨Or.inl rfl, ?_⟩
      have hF : frJ cg cg2 := ⟨g1, g2⟩
      have hB2 : BR 1 cg2 P := BR_fr hW hB (fun a ha => g1 a (by omega))
      have hG2 : dgV (cg2 83) := fun i hi => (g2 i hi).trans (hG i hi)
      obtain ⟨hR2, -⟩ := ct_rel (dy := P 0) hB2 hW rR
      have ho : okT P (txX P r (P 0) + 2 + 4 * k) := hX.2.2.1 k (by omega)
      have ey : ySl (txX P r (P 0)) k = txX P r (P 0) + 2 + 4 * k := by unfold ySl; rw [if_neg (by omega)]
      have hsl := tx_sl (s := k) hR2 (Or.inl (by omega))
      rw [ey] at hsl
      refine ⟨_, _, rfl, rfl, ?_⟩
      refine ⟨_, hc_nT t20, d - 1, 0, 0, _, by omega, Nat.le_of_ble_eq_true rfl, Nat.le_of_ble_eq_true rfl, Nat.le_of_ble_eq_true rfl, c_factOf (L := Lm m) t20 (s := k) ek (by omega) rfl hsl ho (okL_Lm m625) (fun i h1 h2 => vok_J hG2 g3 (okT_c ho h1 h2)), ?_⟩
      rintro _ _ ⟨rfl, rfl⟩
      refine ⟨Or.inl rfl, ?_⟩
      refine ⟨trivial, ?_⟩
      rw [ee]; exact ⟨by unfold trN; rw [pr, pm], cg2, rfl, hF⟩
    · have ee : ftI P q s vk = -1 := by unfold ftI; rw [pr, iF_n (fun z => c51 z.2)]
      refine ⟨trivial, ?_⟩
      rw [ee]; exact ⟨rfl, cg, rfl, frJ.rf⟩
noncomputable def sbI (P : Nat → Int32) (q s : Nat) (v : Int32) : Int32 := iF (inI v 0 (P 3 - 1) ∧ P (94 + cN v) = 0) (P (54 + cN v)) (iF (100 ≤ v ∧ v < 100 + nI s) (nI (syN P (P 0) q (cN v - 100))) (-1))
theorem c_saidBy {cg : sg_T} {fn : Nat → Option Nat} {cx : cx_T} {P : Nat → Int32} (hB : BR 1 cg P) {d : Nat} (hd : 5 ≤ d) {R C n Q : Nat} (hW : wkA P R C n) (hA : pfA P R Q) (hG : dgV (cg 83)) {q s : Nat} {vq vs v : Int32} (hq : vq = nI q) (hs : vs = nI s) (qQ : q < Q) (sS : s < pn P (126 + q)) : am_Met mi_X2_saidBy d 0 0 [.ref 78, .int vq, .int vs, .int v] (hc cg fn cx) (fun r' h' => r' = some (.int (sbI P q s v)) ∧ ∃ cg', h' = hc cg' fn cx ∧ frJ cg cg') := by
  refine am_Met.of rfl (Nat.le_of_ble_eq_true rfl) ?_
  refine am_go ok_X2_saidBy [] 84 ?_
  have w3 := hW.2.2.2.2.2.2.1
  have n20 := hW.2.2.2.2.2.2.2.1
  obtain ⟨q12, s12, -⟩ := ok_fc hW hA qQ sS
  refine ⟨_, _, rfl, rfl, ?_⟩
  refine ⟨_, rfl, d - 1, 0, 0, _, by omega, Nat.le_of_ble_eq_true rfl, Nat.le_of_ble_eq_true rfl, Nat.le_of_ble_eq_true rfl, c_isTrue hB (by omega) w3 n20 v, ?_⟩
  rintro _ _ ⟨rfl, rfl⟩
  refine ⟨Or.inl rfl, ?_⟩
  refine ⟨fun c8 => ?_, fun c8 => ?_⟩
  · have h1 : ¬ (inI v 0 (P 3 - 1) ∧ P (94 + cN v) = 0) := bI_f c8
    refine ⟨fun c24 => ?_, fun c24 => ?_⟩
    · have ee : sbI P q s v = -1 := by unfold sbI; rw [iF_n h1, iF_n (fun z => i_ltn c24 z.1)]
      refine ⟨trivial, ?_⟩
      rw [ee]; exact ⟨rfl, cg, rfl, frJ.rf⟩
    · refine ⟨fun c32 => ?_, fun c32 => ?_⟩
      · rw [hs] at c32
        have ee : sbI P q s v = -1 := by unfold sbI; rw [iF_n h1, iF_n (fun z => i_len c32 z.2)]
        refine ⟨trivial, ?_⟩
        rw [ee]; exact ⟨rfl, cg, rfl, frJ.rf⟩
      · rw [hs] at c32
        have l2 := i_nle c32
        obtain ⟨j, ej, cj, jl⟩ := ix_c (v := v) (m := 100 + s) (by omega) ⟨Int32.le_trans (by decide) (i_nlt c24), by rw [← nI_add]; exact Int32.le_of_lt l2⟩
        have j2 : j < 100 + s := by rw [ej, show (100 : Int32) + nI s = nI (100 + s) from nI_add 100 s] at l2; exact (nI_ltI (by omega) (by omega)).mp l2
        have j1 : 100 ≤ j := by have := i_nlt c24; rw [ej] at this; exact (nI_leI (a := 100) (by omega) (by omega)).mp this
        have ee : sbI P q s v = nI (syN P (P 0) q (j - 100)) := by unfold sbI; rw [iF_n h1, iF_p ⟨i_nlt c24, l2⟩, cj]
        refine ⟨_, _, rfl, rfl, ?_⟩
        refine ⟨_, _, rfl, rfl, ?_⟩
        refine ⟨_, _, 0, rfl, rfl, Nat.le_of_ble_eq_true rfl, Nat.le_of_ble_eq_true rfl, ?_⟩
        rw [hB.c 0 (by omega)]
        refine ⟨_, rfl, d - 1, 0, 0, _, by omega, Nat.le_of_ble_eq_true rfl, Nat.le_of_ble_eq_true rfl, Nat.le_of_ble_eq_true rfl, c_factOfStep hB (by omega) hW hA hG hq (s := j - 100) (by rw [ej]; exact pk_sub j1) qQ (by omega), ?_⟩
        rintro _ _ ⟨rfl, cg2, rfl, hF⟩
        refine ⟨Or.inl rfl, ?_⟩
        refine ⟨trivial, ?_⟩
        rw [ee]; exact ⟨rfl, cg2, rfl, hF⟩
  · have h1 : inI v 0 (P 3 - 1) ∧ P (94 + cN v) = 0 := bI_t c8
    obtain ⟨j, ej, cj, jl⟩ := ix_at w3 (by omega) h1.1
    have ee : sbI P q s v = P (54 + j) := by unfold sbI; rw [iF_p h1, cj]
    refine ⟨_, _, rfl, rfl, ?_⟩
    refine ⟨_, _, rfl, rfl, ?_⟩
    refine ⟨_, _, j, rfl, ej, by omega, Nat.le_of_ble_eq_true rfl, ?_⟩
    rw [hB.pf j (by omega)]
    refine ⟨trivial, ?_⟩
    rw [ee]; exact ⟨rfl, cg, rfl, frJ.rf⟩
