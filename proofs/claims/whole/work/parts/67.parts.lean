/-! RuleReader: PARTS, a whole text -/
def frD (t : Nat) (cg cg' : sg_T) : Prop := ∀ c i, ¬ (c = 91 ∧ (i = 2 ∨ i = 4)) → c ≠ 18 + 3 * t → c ≠ 19 + 3 * t → c ≠ 20 + 3 * t → cg' c i = cg c i
theorem frD.rf {t : Nat} {cg : sg_T} : frD t cg cg := fun _ _ _ _ _ _ => rfl
theorem frD.tr {t : Nat} {a b c : sg_T} (h : frD t a b) (g : frD t b c) : frD t a c := fun x i h1 h2 h3 h4 => (g x i h1 h2 h3 h4).trans (h x i h1 h2 h3 h4)
theorem frD.B {P : Nat → Int32} {n t : Nat} {cg cg' : sg_T} (h : frD t cg cg') (t20 : t < 20) (hB : rdB P n cg) : rdB P n cg' := rdB_f hB (fun i => h 3 i (by omega) (by omega) (by omega) (by omega)) (h 91 1 (by omega) (by omega) (by omega) (by omega))
theorem frT7.D {t s : Nat} {cg cg' : sg_T} (h : frT7 t s cg cg') : frD t cg cg' := fun c i h1 h2 h3 _ => h c i h1 (fun z => h2 z.1) (fun z => h3 z.1)
theorem frC7.D {t s : Nat} {cg cg' : sg_T} (h : frC7 t s cg cg') : frD t cg cg' := fun c i h1 _ _ h4 => h c i h1 (fun z => h4 z.1)
theorem frD.u {t c i : Nat} {x : Int32} {cg cg' : sg_T} (h : frD t cg cg') (hc : (c = 91 ∧ (i = 2 ∨ i = 4)) ∨ c = 18 + 3 * t) : frD t cg (sg_u cg' c i x) := fun a b h1 h2 h3 h4 => by
  rw [sg_2 (fun z => by rcases hc with w | w; (exact h1 ⟨z.1.trans w.1, by rw [z.2]; exact w.2⟩); exact h2 (z.1.trans w))]
  exact h a b h1 h2 h3 h4
/-- how a PART is read -/
def rpO (P : Nat → Int32) (t a nt ns : Nat) (cg0 : sg_T) (b : Bool) (cg : sg_T) : Prop :=
  (ptA (hr P) a nt ∧ rtO P t nt a (sg_u cg0 (18 + 3 * t) 0 (nI (nt + 1))) b cg) ∨ (¬ ptA (hr P) a nt ∧ ptB (hr P) a ns ∧ rsO7 P t ns a (sg_u cg0 (18 + 3 * t) 1 (nI (ns + 1))) b cg) ∨ (¬ ptA (hr P) a nt ∧ ¬ ptB (hr P) a ns ∧ b = false ∧ cg = cg0)
theorem ac_5 : ∀ w, w < 256 → (acI (nI w) < 5 ↔ ¬ (97 ≤ nI w ∧ nI w ≤ 100)) := by decide +kernel
theorem ac_l {P : Nat → Int32} {n a : Nat} {cg : sg_T} (h : rdB P n cg) : acI (hr P a) < 5 ↔ ¬ (97 ≤ hr P a ∧ hr P a ≤ 100) := by
  by_cases q : a < n
  · obtain ⟨w, w2, e1, -⟩ := rd_at h q
    rw [e1]; exact ac_5 w w2
  · rw [rd_no h q]; exact ⟨fun _ z => absurd z.1 (by decide), fun _ => by decide⟩
theorem c_rp_2 {cg0 : sg_T} {fn : Nat → Option Nat} {kx : Value × am_H} {P : Nat → Int32} {n t a nt ns d kc ks : Nat} (hB0 : rdB P n cg0) (a1 : a ≤ 700) (t20 : t < 20) (hd : 7 ≤ d) (hat : cg0 91 2 = nI a) (ent : cg0 (18 + 3 * t) 0 = nI nt) (ens : cg0 (18 + 3 * t) 1 = nI ns) (n3 : nt ≤ 3) (n4 : ns ≤ 4) (nA : ¬ ptA (hr P) a nt) : am_W mi_X7_readPart d (fun r' h' => ∃ b cg', r' = some (.int (bI b)) ∧ h' = hc cg' fn (3, 18 + 3 * t, kx) ∧ rpO P t a nt ns cg0 b cg') kc ks 47 [some (.ref 91)] [] (hc cg0 fn (3, 18 + 3 * t, kx)) := by
  refine am_go ok_X7_readPart [] 84 ?_
  refine ⟨_, _, rfl, rfl, ?_⟩
  refine ⟨_, _, hc_nT t20, rfl, ?_⟩
  rw [ens]
  refine ⟨fun c55 => ?_, fun c55 => ?_⟩
  · have nB : ¬ ptB (hr P) a ns := fun w => absurd ((nI_leI (a := 4) (by omega) (by omega)).mp c55) (by have := w.2; omega)
    refine ⟨rfl, ?_⟩
    exact ⟨false, cg0, rfl, rfl, Or.inr (Or.inr ⟨nA, nB, rfl, rfl⟩)⟩
  · have s4 : ns < 4 := by
      rcases Nat.lt_or_ge ns 4 with q | q
      · exact q
      · exact absurd ((nI_leI (a := 4) (by omega) (by omega)).mpr q) c55
    refine ⟨_, rfl, d - 1, 0, 0, _, by omega, Nat.le_of_ble_eq_true rfl, Nat.le_of_ble_eq_true rfl, Nat.le_of_ble_eq_true rfl, c_placeIn hB0 hat (by omega) (d := d - 1) (si := 1) (by omega) (by omega), ?_⟩
    rintro _ _ ⟨rfl, rfl⟩
    refine ⟨Or.inl rfl, ?_⟩
    rw [show plV 1 (hr P a) = acI (hr P a) from rfl]
    refine ⟨fun c65 => ?_, fun c65 => ?_⟩
    · have nB : ¬ ptB (hr P) a ns := fun w => (ac_l hB0).mp c65 w.1
      refine ⟨rfl, ?_⟩
      exact ⟨false, cg0, rfl, rfl, Or.inr (Or.inr ⟨nA, nB, rfl, rfl⟩)⟩
    · have hPB : ptB (hr P) a ns := ⟨Classical.byContradiction (fun w => c65 ((ac_l hB0).mpr w)), s4⟩
      refine ⟨_, _, rfl, rfl, ?_⟩
      refine ⟨_, _, hc_nT t20, rfl, ?_⟩
      rw [ens]
      refine ⟨_, hc_nT t20, Nat.le_of_ble_eq_true rfl, trivial, ?_⟩
      rw [hc_fT1 t20, nI_1]
      refine ⟨_, _, rfl, rfl, ?_⟩
      refine ⟨_, _, hc_nT t20, rfl, ?_⟩
      rw [sg_s]
      refine ⟨_, rfl, d - 1, 0, 0, _, by omega, Nat.le_of_ble_eq_true rfl, Nat.le_of_ble_eq_true rfl, Nat.le_of_ble_eq_true rfl, c_readTest (s := ns) (rdB_f hB0 (fun i => by rw [sg_i (by omega)]) (by rw [sg_i (by omega)])) a1 t20 (nI_pm ns) s4 (d := d - 1) (by omega) (by rw [sg_i (by omega)]; exact hat), ?_⟩
      rintro _ _ ⟨b, cg1, rfl, rfl, hO⟩
      refine ⟨Or.inl rfl, ?_⟩
      refine ⟨bI_nar b, ?_⟩
      exact ⟨b, cg1, rfl, rfl, Or.inr (Or.inl ⟨nA, hPB, hO⟩)⟩
theorem c_readPart {cg0 : sg_T} {fn : Nat → Option Nat} {kx : Value × am_H} {P : Nat → Int32} {n t a nt ns d : Nat} (hB0 : rdB P n cg0) (a1 : a ≤ 700) (t20 : t < 20) (hd : 7 ≤ d) (hat : cg0 91 2 = nI a) (ent : cg0 (18 + 3 * t) 0 = nI nt) (ens : cg0 (18 + 3 * t) 1 = nI ns) (n3 : nt ≤ 3) (n4 : ns ≤ 4) : am_Met mi_X7_readPart d 0 0 [.ref 91] (hc cg0 fn (3, 18 + 3 * t, kx)) (fun r' h' => ∃ b cg', r' = some (.int (bI b)) ∧ h' = hc cg' fn (3, 18 + 3 * t, kx) ∧ rpO P t a nt ns cg0 b cg') := by
  refine am_Met.of rfl (Nat.le_of_ble_eq_true rfl) ?_
  refine am_go ok_X7_readPart [47] 83 ?_
  refine ⟨_, _, rfl, rfl, ?_⟩
  refine ⟨_, _, hc_nT t20, rfl, ?_⟩
  rw [ent]
  refine ⟨fun c8 => ?_, fun c8 => ?_⟩
  · have nA : ¬ ptA (hr P) a nt := fun w => absurd ((nI_leI (a := 3) (by omega) (by omega)).mp c8) (by have := w.2; omega)
    exact c_rp_2 hB0 a1 t20 hd hat ent ens n3 n4 nA
  · have s3 : nt < 3 := by
      rcases Nat.lt_or_ge nt 3 with q | q
      · exact q
      · exact absurd ((nI_leI (a := 3) (by omega) (by omega)).mpr q) c8
    refine ⟨_, rfl, d - 1, 0, 0, _, by omega, Nat.le_of_ble_eq_true rfl, Nat.le_of_ble_eq_true rfl, Nat.le_of_ble_eq_true rfl, c_placeIn hB0 hat (by omega) (d := d - 1) (si := 0) (by omega) (by omega), ?_⟩
    rintro _ _ ⟨rfl, rfl⟩
    refine ⟨Or.inl rfl, ?_⟩
    rw [show plV 0 (hr P a) = shF (hr P a) from rfl]
    refine ⟨fun c17 => ?_, fun c17 => ?_⟩
    · have nA : ¬ ptA (hr P) a nt := fun w => i_len w.1 c17
      exact c_rp_2 hB0 a1 t20 hd hat ent ens n3 n4 nA
    · have hA : ptA (hr P) a nt := ⟨i_nlt c17, s3⟩
      refine ⟨_, _, rfl, rfl, ?_⟩
      refine ⟨_, _, hc_nT t20, rfl, ?_⟩
      rw [ent]
      refine ⟨_, hc_nT t20, Nat.le_of_ble_eq_true rfl, trivial, ?_⟩
      rw [hc_fT0 t20, nI_1]
      refine ⟨_, _, rfl, rfl, ?_⟩
      refine ⟨_, _, hc_nT t20, rfl, ?_⟩
      rw [sg_s]
      refine ⟨_, rfl, d - 1, 0, 0, _, by omega, Nat.le_of_ble_eq_true rfl, Nat.le_of_ble_eq_true rfl, Nat.le_of_ble_eq_true rfl, c_readTerm (s := nt) (rdB_f hB0 (fun i => by rw [sg_i (by omega)]) (by rw [sg_i (by omega)])) a1 t20 (nI_pm nt) (by omega) (d := d - 1) (by omega) (by rw [sg_i (by omega)]; exact hat), ?_⟩
      rintro _ _ ⟨b, cg1, rfl, rfl, hO⟩
      refine ⟨Or.inl rfl, ?_⟩
      refine ⟨bI_nar b, ?_⟩
      exact ⟨b, cg1, rfl, rfl, Or.inl ⟨hA, hO⟩⟩
def tlC (H : Nat → Int32) (tp : Nat → Nat) : Nat → Int32
  | 0 => 0
  | k + 1 => tlC H tp k ||| lmF H (tp k) 3
def asC (H : Nat → Int32) (sp : Nat → Nat) : Nat → Int32
  | 0 => 0
  | k + 1 => (asC H sp k ||| lM (H (sp k))) ||| lM (H (sp k + 2))
theorem tlC_u {H : Nat → Int32} {tp : Nat → Nat} {m a : Nat} : ∀ {k : Nat}, k ≤ m → tlC H (updM tp m a) k = tlC H tp k
  | 0, _ => rfl
  | k + 1, h => by rw [tlC, tlC, tlC_u (by omega), updM_n (by omega)]
theorem asC_u {H : Nat → Int32} {sp : Nat → Nat} {m a : Nat} : ∀ {k : Nat}, k ≤ m → asC H (updM sp m a) k = asC H sp k
  | 0, _ => rfl
  | k + 1, h => by rw [asC, asC, asC_u (by omega), updM_n (by omega)]
/-- the text as far as it is read -/
def ctK (H : Nat → Int32) (t nt ns : Nat) (tp sp : Nat → Nat) (cg : sg_T) : Prop := cg (18 + 3 * t) 0 = nI nt ∧ cg (18 + 3 * t) 1 = nI ns ∧ nt ≤ 3 ∧ ns ≤ 4 ∧ (∀ k, k < nt → cg (19 + 3 * t) (4 * k) = shF (H (tp k)) ∧ ∀ j, 1 ≤ j → j ≤ 3 → cg (19 + 3 * t) (4 * k + j) = acI (H (tp k + 2 * j))) ∧ (∀ k, k < ns → cg (20 + 3 * t) (3 * k) = acI (H (sp k)) ∧ cg (20 + 3 * t) (3 * k + 1) = sgX (H (sp k + 1)) ∧ cg (20 + 3 * t) (3 * k + 2) = acI (H (sp k + 2))) ∧ cg (18 + 3 * t) 2 = tlC H tp nt ∧ cg 91 4 = asC H sp ns
theorem ld_8 {H : Nat → Int32} {a : Nat} (h : ∀ i, i < 8 → tmP i (H (a + i))) : ¬ tmN H a < 8 := by unfold tmN; rw [ldN_all h]; omega
theorem ld_m {H : Nat → Int32} {a m : Nat} (h : ∀ i, i < m → tmP i (H (a + i))) (hm : ¬ tmP m (H (a + m))) (m8 : m < 8) : tmN H a = m := by unfold tmN; exact ldN_at h hm m8
theorem ls_3 {H : Nat → Int32} {a : Nat} (h : ∀ i, i < 3 → tsP i (H (a + i))) : ¬ tsN H a < 3 := by unfold tsN; rw [ldN_all h]; omega
theorem ls_m {H : Nat → Int32} {a m : Nat} (h : ∀ i, i < m → tsP i (H (a + i))) (hm : ¬ tsP m (H (a + m))) (m3 : m < 3) : tsN H a = m := by unfold tsN; exact ldN_at h hm m3
/-- a PART is read: what the whole comes to -/
theorem pt_go {P : Nat → Int32} {t a nt ns : Nat} {tp sp : Nat → Nat} {cg cg2 : sg_T} {b : Bool} {K : Nat → Nat → Nat → (Nat → Nat) → (Nat → Nat) → rdT} {res : rdT} (t20 : t < 20) (hK : ctK (hr P) t nt ns tp sp cg) (hat : cg 91 2 = nI a) (hO : rpO P t a nt ns cg b cg2) (hR : rdP (hr P) K a nt ns tp sp = res) :
    frD t cg cg2 ∧ ((b = false ∧ ∃ c, cg2 91 2 = nI c ∧ res = .inl c) ∨ (b = true ∧ ∃ a' nt' ns' tp' sp', a' ≤ a + 8 ∧ cg2 91 2 = nI a' ∧ ctK (hr P) t nt' ns' tp' sp' cg2 ∧ nt' + ns' = nt + ns + 1 ∧ K a' nt' ns' tp' sp' = res)) := by
  obtain ⟨k0, k1, k3, k4, kt, ks, kl, ka⟩ := hK
  rcases hO with ⟨hA, hf, ho⟩ | ⟨nA, hB, hf, ho⟩ | ⟨nA, nB, e1, e2⟩
  · have F : ∀ c i, ¬ (c = 91 ∧ (i = 2 ∨ i = 4)) → ¬ (c = 18 + 3 * t ∧ i = 2) → ¬ (c = 18 + 3 * t ∧ i = 0) → ¬ (c = 19 + 3 * t ∧ 4 * nt ≤ i ∧ i < 4 * nt + 4) → cg2 c i = cg c i := fun c i g1 g2 g3 g4 => by rw [hf c i g1 g2 g4, sg_2 g3]
    refine ⟨fun c i g1 g2 g3 g4 => F c i g1 (fun z => g2 z.1) (fun z => g2 z.1) (fun z => g3 z.1), ?_⟩
    unfold rdP at hR
    rw [iF_p hA] at hR
    rcases ho with ⟨e, d1, d2, d3, d4, d5, d6⟩ | ⟨e, m, m8, e1, e2, e3⟩
    · rw [iF_n (ld_8 d2)] at hR
      have n3 := hA.2
      refine Or.inr ⟨e, a + 8, nt + 1, ns, updM tp nt a, sp, by omega, d1, ⟨by rw [hf _ _ (by omega) (by omega) (by omega), sg_s], by rw [F _ _ (by omega) (by omega) (by omega) (by omega)]; exact k1, by omega, k4, fun k hk => ?_, fun k hk => ?_, ?_, ?_⟩, by omega, hR⟩
      · rcases (show k = nt ∨ k < nt by omega) with z | z
        · rw [z, updM_s]; exact ⟨d3, d4⟩
        · rw [updM_n (by omega), F _ _ (by omega) (by omega) (by omega) (by omega)]
          refine ⟨(kt k z).1, fun j j1 j2 => ?_⟩
          rw [F _ _ (by omega) (by omega) (by omega) (by omega)]; exact (kt k z).2 j j1 j2
      · rw [F _ _ (by omega) (by omega) (by omega) (by omega), F _ _ (by omega) (by omega) (by omega) (by omega), F _ _ (by omega) (by omega) (by omega) (by omega)]; exact ks k hk
      · rw [d6, if_neg (by omega), sg_j (by decide), kl, tlC, tlC_u (Nat.le_refl _), updM_s]
      · rw [d5, if_neg (by omega), sg_i (by omega)]; exact ka
    · rw [iF_p (by rw [ld_m e2 e3 m8]; exact m8), ld_m e2 e3 m8] at hR
      exact Or.inl ⟨e, a + m, e1, hR.symm⟩
  · have F : ∀ c i, ¬ (c = 91 ∧ (i = 2 ∨ i = 4)) → ¬ (c = 18 + 3 * t ∧ i = 1) → ¬ (c = 20 + 3 * t ∧ 3 * ns ≤ i ∧ i < 3 * ns + 3) → cg2 c i = cg c i := fun c i g1 g2 g3 => by rw [hf c i g1 g3, sg_2 g2]
    refine ⟨fun c i g1 g2 g3 g4 => F c i g1 (fun z => g2 z.1) (fun z => g4 z.1), ?_⟩
    unfold rdP at hR
    rw [iF_n nA, iF_p hB] at hR
    rcases ho with ⟨e, d1, d2, d3, d4, d5, d6⟩ | ⟨e, m, m8, e1, e2, e3⟩
    · rw [iF_n (ls_3 d2)] at hR
      have n4 := hB.2
      refine Or.inr ⟨e, a + 3, nt, ns + 1, tp, updM sp ns a, by omega, d1, ⟨by rw [F _ _ (by omega) (by omega) (by omega)]; exact k0, by rw [hf _ _ (by omega) (by omega), sg_s], k3, by omega, fun k hk => ?_, fun k hk => ?_, ?_, ?_⟩, by omega, hR⟩
      · rw [F _ _ (by omega) (by omega) (by omega)]
        refine ⟨(kt k hk).1, fun j j1 j2 => ?_⟩
        rw [F _ _ (by omega) (by omega) (by omega)]; exact (kt k hk).2 j j1 j2
      · rcases (show k = ns ∨ k < ns by omega) with z | z
        · rw [z, updM_s]; exact ⟨d3, d4, d5⟩
        · rw [updM_n (by omega), F _ _ (by omega) (by omega) (by omega), F _ _ (by omega) (by omega) (by omega), F _ _ (by omega) (by omega) (by omega)]; exact ks k z
      · rw [F _ _ (by omega) (by omega) (by omega)]; exact kl
      · rw [d6, sg_i (by omega), ka, asC, asC_u (Nat.le_refl _), updM_s]
    · rw [iF_p (by rw [ls_m e2 e3 m8]; exact m8), ls_m e2 e3 m8] at hR
      exact Or.inl ⟨e, a + m, e1, hR.symm⟩
  · subst e2
    refine ⟨frD.rf, Or.inl ⟨e1, a, hat, ?_⟩⟩
    unfold rdP at hR
    rw [iF_n nA, iF_n nB] at hR
    exact hR.symm
theorem ctK_f {H : Nat → Int32} {t nt ns : Nat} {tp sp : Nat → Nat} {cg : sg_T} {x : Int32} (t20 : t < 20) (h : ctK H t nt ns tp sp cg) : ctK H t nt ns tp sp (sg_u cg 91 2 x) := by
  obtain ⟨k0, k1, k3, k4, kt, ks, kl, ka⟩ := h
  refine ⟨by rw [sg_i (by omega)]; exact k0, by rw [sg_i (by omega)]; exact k1, k3, k4, fun k hk => ⟨by rw [sg_i (by omega)]; exact (kt k hk).1, fun j j1 j2 => by rw [sg_i (by omega)]; exact (kt k hk).2 j j1 j2⟩, fun k hk => by rw [sg_i (by omega)]; exact ks k hk, by rw [sg_i (by omega)]; exact kl, by rw [sg_j (by decide)]; exact ka⟩
theorem rdF_e {H : Nat → Int32} {n u a nt ns : Nat} {tp sp : Nat → Nat} (h : u = 0 ∨ ¬ (H a = 38 ∧ nt + ns < 7)) : rdF H n u a nt ns tp sp = rdE H n a nt ns tp sp := by
  cases u with
  | zero => rfl
  | succ u => rw [rdF, iF_n (h.elim (fun z => absurd z (by omega)) id)]
theorem rdF_s {H : Nat → Int32} {n u a nt ns : Nat} {tp sp : Nat → Nat} (h : H a = 38 ∧ nt + ns < 7) : rdF H n (u + 1) a nt ns tp sp = rdP H (rdF H n u) (a + 1) nt ns tp sp := by
  rw [rdF, iF_p h]
theorem rdE_l {H : Nat → Int32} {n a nt ns : Nat} {tp sp : Nat → Nat} (h : nt = 0 ∨ ¬ H a = 62) : rdE H n a nt ns tp sp = .inl a := by unfold rdE; rw [iF_p h]
theorem c_rs_n {cg0 : sg_T} {fn : Nat → Option Nat} {kx : Value × am_H} {P : Nat → Int32} {n t d kc ks p a nt ns : Nat} {res : rdT} (hB0 : rdB P n cg0) (t20 : t < 20) (hd : 8 ≤ d) {tp sp : Nat → Nat} {z : Int32} {cg : sg_T} (hF : frD t cg0 cg) (hat : cg 91 2 = nI a) (ha : a + 1 ≤ 9 * (p + 1)) (hK : ctK (hr P) t nt ns tp sp cg) (hnp : nt + ns = p + 1) (hR : rdF (hr P) n (6 - p) a nt ns tp sp = res) (nq : nt = 0 ∨ ¬ hr P a = 62) (p6 : p ≤ 6) (hz : z = nI p) {v2 : Int32} (mr : nt + ns < 7) (hv : ¬ v2 = 0) (KN : ∀ (z : Int32) (cg : sg_T) (t2 : Option Value), z = nI (p + 1) → frD t cg0 cg → cg 91 2 = nI (a + 1) → a + 1 ≤ 9 * (p + 1) → ctK (hr P) t nt ns tp sp cg → rdP (hr P) (rdF (hr P) n (6 - (p + 1))) (a + 1) nt ns tp sp = res → am_W mi_X7_readParts d (fun r' h' => ∃ b cg', r' = some (.int (bI b)) ∧ h' = hc cg' fn (3, 18 + 3 * t, kx) ∧ frD t cg0 cg' ∧ ((b = true ∧ ∃ a nt ns tp sp, 1 ≤ nt ∧ a ≤ 100 ∧ hr P a = 62 ∧ cg' 91 2 = nI (a + 1) ∧ ctK (hr P) t nt ns tp sp cg' ∧ rdE (hr P) n a nt ns tp sp = res) ∨ (b = false ∧ ∃ c, cg' 91 2 = nI c ∧ res = .inl c))) kc ks 2 [some (.ref 91), some (.int z), t2] [] (hc cg fn (3, 18 + 3 * t, kx))) : am_W mi_X7_readParts d (fun r' h' => ∃ b cg', r' = some (.int (bI b)) ∧ h' = hc cg' fn (3, 18 + 3 * t, kx) ∧ frD t cg0 cg' ∧ ((b = true ∧ ∃ a nt ns tp sp, 1 ≤ nt ∧ a ≤ 100 ∧ hr P a = 62 ∧ cg' 91 2 = nI (a + 1) ∧ ctK (hr P) t nt ns tp sp cg' ∧ rdE (hr P) n a nt ns tp sp = res) ∨ (b = false ∧ ∃ c, cg' 91 2 = nI c ∧ res = .inl c))) kc ks 66 [some (.ref 91), some (.int z), some (.int v2)] [] (hc cg fn (3, 18 + 3 * t, kx)) := by
  refine am_go ok_X7_readParts [2] 68 ?_
  have hB := hF.B t20 hB0
  refine ⟨fun c67 => absurd c67 hv, fun _ => ?_⟩
  refine ⟨_, rfl, d - 1, 0, 0, _, by omega, Nat.le_of_ble_eq_true rfl, Nat.le_of_ble_eq_true rfl, Nat.le_of_ble_eq_true rfl, c_skip (k := 38) hB hat (by omega) (d - 1) rfl (by omega), ?_⟩
  rintro _ _ ⟨b3, cg4, rfl, hb3, ec3, rfl⟩
  refine ⟨Or.inl rfl, ?_⟩
  refine ⟨fun c76 => ?_, fun c76 => ?_⟩
  · have b30 : b3 = true := by cases b3; exact absurd rfl c76; rfl
    have h38 := hb3.mp b30
    rw [b30, if_pos rfl] at ec3
    subst ec3
    exact KN _ _ _ (by rw [hz, nI_1]) (hF.u (Or.inl ⟨rfl, Or.inl rfl⟩)) (by rw [sg_s]) ha (ctK_f t20 hK) (by rw [← hR, show 6 - p = (6 - (p + 1)) + 1 by omega, rdF_s ⟨h38, mr⟩])
  · have b30 : b3 = false := by cases b3; rfl; exact absurd c76 (by decide)
    have n38 : ¬ (hr P a = 38 ∧ nt + ns < 7) := fun w => absurd (b30.symm.trans (hb3.mpr w.1)) (by decide)
    rw [b30, if_neg (by decide)] at ec3
    subst ec3
    refine ⟨rfl, ?_⟩
    exact ⟨false, _, rfl, rfl, hF, Or.inr ⟨rfl, a, hat, by rw [← hR, rdF_e (Or.inr n38), rdE_l nq]⟩⟩
theorem c_rs_o {cg0 : sg_T} {fn : Nat → Option Nat} {kx : Value × am_H} {P : Nat → Int32} {n t d kc ks p a nt ns : Nat} {res : rdT} (hB0 : rdB P n cg0) (t20 : t < 20) (hd : 8 ≤ d) {tp sp : Nat → Nat} {z : Int32} {cg : sg_T} (hF : frD t cg0 cg) (hat : cg 91 2 = nI a) (ha : a + 1 ≤ 9 * (p + 1)) (hK : ctK (hr P) t nt ns tp sp cg) (hnp : nt + ns = p + 1) (hR : rdF (hr P) n (6 - p) a nt ns tp sp = res) (nq : nt = 0 ∨ ¬ hr P a = 62) (p6 : p ≤ 6) (hz : z = nI p) (mr : ¬ nt + ns < 7) : am_W mi_X7_readParts d (fun r' h' => ∃ b cg', r' = some (.int (bI b)) ∧ h' = hc cg' fn (3, 18 + 3 * t, kx) ∧ frD t cg0 cg' ∧ ((b = true ∧ ∃ a nt ns tp sp, 1 ≤ nt ∧ a ≤ 100 ∧ hr P a = 62 ∧ cg' 91 2 = nI (a + 1) ∧ ctK (hr P) t nt ns tp sp cg' ∧ rdE (hr P) n a nt ns tp sp = res) ∨ (b = false ∧ ∃ c, cg' 91 2 = nI c ∧ res = .inl c))) kc ks 66 [some (.ref 91), some (.int z), some (.int 0)] [] (hc cg fn (3, 18 + 3 * t, kx)) := by
  refine am_go ok_X7_readParts [] 63 ?_
  refine ⟨fun _ => ?_, fun c67 => absurd rfl c67⟩
  refine ⟨rfl, ?_⟩
  exact ⟨false, _, rfl, rfl, hF, Or.inr ⟨rfl, a, hat, by rw [← hR, rdF_e (Or.inr (fun w => mr w.2)), rdE_l nq]⟩⟩
theorem c_rs_m {cg0 : sg_T} {fn : Nat → Option Nat} {kx : Value × am_H} {P : Nat → Int32} {n t d kc ks p a nt ns : Nat} {res : rdT} (hB0 : rdB P n cg0) (t20 : t < 20) (hd : 8 ≤ d) {tp sp : Nat → Nat} {z : Int32} {cg : sg_T} (hF : frD t cg0 cg) (hat : cg 91 2 = nI a) (ha : a + 1 ≤ 9 * (p + 1)) (hK : ctK (hr P) t nt ns tp sp cg) (hnp : nt + ns = p + 1) (hR : rdF (hr P) n (6 - p) a nt ns tp sp = res) (nq : nt = 0 ∨ ¬ hr P a = 62) (p6 : p ≤ 6) (hz : z = nI p) {t2 : Option Value} (KN : ∀ (z : Int32) (cg : sg_T) (t2 : Option Value), z = nI (p + 1) → frD t cg0 cg → cg 91 2 = nI (a + 1) → a + 1 ≤ 9 * (p + 1) → ctK (hr P) t nt ns tp sp cg → rdP (hr P) (rdF (hr P) n (6 - (p + 1))) (a + 1) nt ns tp sp = res → p + 1 ≤ 6 → am_W mi_X7_readParts d (fun r' h' => ∃ b cg', r' = some (.int (bI b)) ∧ h' = hc cg' fn (3, 18 + 3 * t, kx) ∧ frD t cg0 cg' ∧ ((b = true ∧ ∃ a nt ns tp sp, 1 ≤ nt ∧ a ≤ 100 ∧ hr P a = 62 ∧ cg' 91 2 = nI (a + 1) ∧ ctK (hr P) t nt ns tp sp cg' ∧ rdE (hr P) n a nt ns tp sp = res) ∨ (b = false ∧ ∃ c, cg' 91 2 = nI c ∧ res = .inl c))) kc ks 2 [some (.ref 91), some (.int z), t2] [] (hc cg fn (3, 18 + 3 * t, kx))) : am_W mi_X7_readParts d (fun r' h' => ∃ b cg', r' = some (.int (bI b)) ∧ h' = hc cg' fn (3, 18 + 3 * t, kx) ∧ frD t cg0 cg' ∧ ((b = true ∧ ∃ a nt ns tp sp, 1 ≤ nt ∧ a ≤ 100 ∧ hr P a = 62 ∧ cg' 91 2 = nI (a + 1) ∧ ctK (hr P) t nt ns tp sp cg' ∧ rdE (hr P) n a nt ns tp sp = res) ∨ (b = false ∧ ∃ c, cg' 91 2 = nI c ∧ res = .inl c))) kc ks 38 [some (.ref 91), some (.int z), t2] [] (hc cg fn (3, 18 + 3 * t, kx)) := by
  refine am_go ok_X7_readParts [66] 73 ?_
  obtain ⟨j0, j1, j3, j4, -⟩ := id hK
  refine ⟨_, _, rfl, rfl, ?_⟩
  refine ⟨_, _, hc_nT t20, rfl, ?_⟩
  rw [j0]
  refine ⟨fun c46 => ?_, fun c46 => ?_⟩
  · have mr : nt + ns < 7 := by have := (nI_ltI (b := 3) (by omega) (by omega)).mp c46; omega
    first
    | exact c_rs_n hB0 t20 hd hF hat ha hK hnp hR nq p6 hz mr (by decide) (fun z' cg' t2' b1 b2 b3 b4 b5 b6 => KN z' cg' t2' b1 b2 b3 b4 b5 b6 (by omega))
    | exact c_rs_o hB0 t20 hd hF hat ha hK hnp hR nq p6 hz mr
  · refine ⟨_, _, rfl, rfl, ?_⟩
    refine ⟨_, _, hc_nT t20, rfl, ?_⟩
    rw [j1]
    refine ⟨fun c57 => ?_, fun c57 => ?_⟩
    · have mr : ¬ nt + ns < 7 := by
        have q1 := (nI_leI (a := 4) (by omega) (by omega)).mp c57
        have q2 := (nI_leI (a := 3) (by omega) (by omega)).mp (i_nlt c46)
        omega
      first
      | exact c_rs_n hB0 t20 hd hF hat ha hK hnp hR nq p6 hz mr (by decide) (fun z' cg' t2' b1 b2 b3 b4 b5 b6 => KN z' cg' t2' b1 b2 b3 b4 b5 b6 (by omega))
      | exact c_rs_o hB0 t20 hd hF hat ha hK hnp hR nq p6 hz mr
    · have mr : nt + ns < 7 := by
        rcases Nat.lt_or_ge ns 4 with q | q
        · omega
        · exact absurd ((nI_leI (a := 4) (by omega) (by omega)).mpr q) c57
      first
      | exact c_rs_n hB0 t20 hd hF hat ha hK hnp hR nq p6 hz mr (by decide) (fun z' cg' t2' b1 b2 b3 b4 b5 b6 => KN z' cg' t2' b1 b2 b3 b4 b5 b6 (by omega))
      | exact c_rs_o hB0 t20 hd hF hat ha hK hnp hR nq p6 hz mr
theorem c_rs_l {cg0 : sg_T} {fn : Nat → Option Nat} {kx : Value × am_H} {P : Nat → Int32} {n t d kc ks : Nat} {res : rdT} (hB0 : rdB P n cg0) (t20 : t < 20) (hd : 8 ≤ d) : ∀ (u p a nt ns : Nat) (tp sp : Nat → Nat) (z : Int32) (cg : sg_T) (t2 : Option Value), z = nI p → frD t cg0 cg → cg 91 2 = nI a → a ≤ 9 * p → ctK (hr P) t nt ns tp sp cg → nt + ns = p → rdP (hr P) (rdF (hr P) n (6 - p)) a nt ns tp sp = res → p ≤ 6 → 6 < p + u → am_W mi_X7_readParts d (fun r' h' => ∃ b cg', r' = some (.int (bI b)) ∧ h' = hc cg' fn (3, 18 + 3 * t, kx) ∧ frD t cg0 cg' ∧ ((b = true ∧ ∃ a nt ns tp sp, 1 ≤ nt ∧ a ≤ 100 ∧ hr P a = 62 ∧ cg' 91 2 = nI (a + 1) ∧ ctK (hr P) t nt ns tp sp cg' ∧ rdE (hr P) n a nt ns tp sp = res) ∨ (b = false ∧ ∃ c, cg' 91 2 = nI c ∧ res = .inl c))) kc ks 2 [some (.ref 91), some (.int z), t2] [] (hc cg fn (3, 18 + 3 * t, kx)) := by
  intro u
  induction u with
  | zero => intro p a nt ns tp sp z cg t2 hz hF hat ha hK hnp hR h1 h2; exact absurd h2 (by omega)
  | succ u ih =>
    intro p a nt ns tp sp z cg t2 hz hF hat ha hK hnp hR h1 h2
    refine am_go ok_X7_readParts [2, 38] 75 ?_
    have hB := hF.B t20 hB0
    obtain ⟨k0, k1, k3, k4, -⟩ := id hK
    refine ⟨fun c5 => absurd c5 (by rw [hz]; exact fun w => absurd ((nI_leI (a := 7) (by omega) (by omega)).mp w) (by omega)), fun _ => ?_⟩
    refine ⟨_, rfl, d - 1, 0, 0, _, by omega, Nat.le_of_ble_eq_true rfl, Nat.le_of_ble_eq_true rfl, Nat.le_of_ble_eq_true rfl, c_readPart hB (by omega) t20 (d := d - 1) (by omega) hat k0 k1 k3 k4, ?_⟩
    rintro _ _ ⟨b, cg2, rfl, rfl, hO⟩
    refine ⟨Or.inl rfl, ?_⟩
    obtain ⟨F2, hC⟩ := pt_go t20 hK hat hO hR
    refine ⟨fun c12 => ?_, fun c12 => ?_⟩
    · have b0 : b = true := by cases b; exact absurd rfl c12; rfl
      obtain ⟨a', nt', ns', tp', sp', ha', at', hK', hs', hR'⟩ := hC.elim (fun w => absurd (b0.symm.trans w.1) (by decide)) (fun w => w.2)
      have hB2 := F2.B t20 hB
      obtain ⟨j0, j1, j3, j4, -⟩ := id hK'
      refine ⟨_, _, rfl, rfl, ?_⟩
      refine ⟨_, _, hc_nT t20, rfl, ?_⟩
      rw [j0]
      refine ⟨fun c24 => ?_, fun c24 => ?_⟩
      · have nt0 : nt' = 0 := by have := (nI_leI (b := 0) (by omega) (by omega)).mp c24; omega
        have nq : nt' = 0 ∨ ¬ hr P a' = 62 := Or.inl nt0
        exact c_rs_m hB0 t20 hd (hF.tr F2) at' (by omega) hK' (by omega) hR' nq h1 hz (fun z' cg' t2' b1 b2 b3 b4 b5 b6 b7 => ih (p + 1) (a' + 1) nt' ns' tp' sp' z' cg' t2' b1 b2 b3 b4 b5 (by omega) b6 b7 (by omega))
      · have nt1 : 1 ≤ nt' := by
          rcases Nat.eq_zero_or_pos nt' with q | q
          · rw [q] at c24; exact absurd (Int32.le_refl _) c24
          · exact q
        refine ⟨_, rfl, d - 1, 0, 0, _, by omega, Nat.le_of_ble_eq_true rfl, Nat.le_of_ble_eq_true rfl, Nat.le_of_ble_eq_true rfl, c_skip (k := 62) hB2 at' (by omega) (d - 1) rfl (by omega), ?_⟩
        rintro _ _ ⟨b2, cg3, rfl, hb2, ec, rfl⟩
        refine ⟨Or.inl rfl, ?_⟩
        refine ⟨fun c33 => ?_, fun c33 => ?_⟩
        · have b20 : b2 = false := bI_0.mp c33
          have nq : nt' = 0 ∨ ¬ hr P a' = 62 := Or.inr (fun w => absurd (b20.symm.trans (hb2.mpr w)) (by decide))
          rw [b20, if_neg (by decide)] at ec
          subst ec
          exact c_rs_m hB0 t20 hd (hF.tr F2) at' (by omega) hK' (by omega) hR' nq h1 hz (fun z' cg' t2' b1 b2 b3 b4 b5 b6 b7 => ih (p + 1) (a' + 1) nt' ns' tp' sp' z' cg' t2' b1 b2 b3 b4 b5 (by omega) b6 b7 (by omega))
        · have b20 : b2 = true := by cases b2; exact absurd rfl c33; rfl
          have h62 := hb2.mp b20
          rw [b20, if_pos rfl] at ec
          subst ec
          refine ⟨rfl, ?_⟩
          refine ⟨true, _, rfl, rfl, (hF.tr F2).u (Or.inl ⟨rfl, Or.inl rfl⟩), Or.inl ⟨rfl, a', nt', ns', tp', sp', nt1, by omega, h62, by rw [sg_s], ctK_f t20 hK', ?_⟩⟩
          rw [← rdF_e (u := 6 - p) (Or.inr (fun w => absurd (h62.symm.trans w.1) (by decide)))]; exact hR'
    · have b0 : b = false := by cases b; rfl; exact absurd c12 (by decide)
      have hc2 := hC.elim (fun w => w.2) (fun w => absurd (b0.symm.trans w.1) (by decide))
      refine ⟨rfl, ?_⟩
      exact ⟨false, cg2, rfl, rfl, hF.tr F2, Or.inr ⟨rfl, hc2⟩⟩
theorem c_readParts {cg0 : sg_T} {fn : Nat → Option Nat} {kx : Value × am_H} {P : Nat → Int32} {n t d : Nat} {res : rdT} (hB0 : rdB P n cg0) (t20 : t < 20) (hd : 8 ≤ d) (hat : cg0 91 2 = nI 0) (hK : ctK (hr P) t 0 0 (fun _ => 0) (fun _ => 0) cg0) (hR : rdA (hr P) n = res) : am_Met mi_X7_readParts d 0 0 [.ref 91] (hc cg0 fn (3, 18 + 3 * t, kx)) (fun r' h' => ∃ b cg', r' = some (.int (bI b)) ∧ h' = hc cg' fn (3, 18 + 3 * t, kx) ∧ frD t cg0 cg' ∧ ((b = true ∧ ∃ a nt ns tp sp, 1 ≤ nt ∧ a ≤ 100 ∧ hr P a = 62 ∧ cg' 91 2 = nI (a + 1) ∧ ctK (hr P) t nt ns tp sp cg' ∧ rdE (hr P) n a nt ns tp sp = res) ∨ (b = false ∧ ∃ c, cg' 91 2 = nI c ∧ res = .inl c))) := by
  refine am_Met.of rfl (Nat.le_of_ble_eq_true rfl) ?_
  refine am_go ok_X7_readParts [2] 62 ?_
  exact c_rs_l hB0 t20 hd 7 0 0 0 0 (fun _ => 0) (fun _ => 0) 0 cg0 none rfl frD.rf hat (by omega) hK rfl hR (by omega) (by omega)
theorem hc_91_3 {cg : sg_T} {fn : Nat → Option Nat} {cx : cx_T} {v : Nat} : am_put (hc cg fn cx) 91 (.inr (.inr (7, am_put [.ref 1, .int (cg 91 1), .int (cg 91 2), .ref cx.2.1, .int (cg 91 4)] 3 (.ref v)))) = hc cg fn (3, v, cx.2.2) := rfl
/-- how 'read' ends -/
def rdR (P : Nat → Int32) (t : Nat) (res : rdT) (v : Int32) (cg : sg_T) : Prop := (∃ c, v = nI c ∧ c ≤ 120 ∧ res = .inl c) ∨ ∃ nt ns tp sp e, 1 ≤ nt ∧ res = .inr (nt, ns, tp, sp, e) ∧ cg (18 + 3 * t) 0 = nI nt ∧ cg (18 + 3 * t) 1 = nI ns ∧ nt ≤ 3 ∧ ns ≤ 4 ∧ (∀ k, k < nt → cg (19 + 3 * t) (4 * k) = shF (hr P (tp k)) ∧ ∀ j, 1 ≤ j → j ≤ 3 → cg (19 + 3 * t) (4 * k + j) = acI (hr P (tp k + 2 * j))) ∧ (∀ k, k < ns → cg (20 + 3 * t) (3 * k) = acI (hr P (sp k)) ∧ cg (20 + 3 * t) (3 * k + 1) = sgX (hr P (sp k + 1)) ∧ cg (20 + 3 * t) (3 * k + 2) = acI (hr P (sp k + 2))) ∧ cg (18 + 3 * t) 2 = tlC (hr P) tp nt ∧ (cg (19 + 3 * t) (4 * 3) = shF (hr P e) ∧ ∀ j, 1 ≤ j → j ≤ 3 → cg (19 + 3 * t) (4 * 3 + j) = acI (hr P (e + 2 * j))) ∧ (((asC (hr P) sp ns ||| lmF (hr P) e 3) &&& (tlC (hr P) tp nt ^^^ -1) = 0 ∧ v = -1) ∨ (¬ (asC (hr P) sp ns ||| lmF (hr P) e 3) &&& (tlC (hr P) tp nt ^^^ -1) = 0 ∧ v = 200))
theorem c_rd_e {cg cg0 cgB : sg_T} {fn : Nat → Option Nat} {cx : cx_T} {P : Nat → Int32} {n t d kc ks a nt ns : Nat} {tp sp : Nat → Nat} (t20 : t < 20) (hB : rdB P n cg0) (FB : ∀ c, c ≠ 91 → c ≠ 18 + 3 * t → c ≠ 19 + 3 * t → c ≠ 20 + 3 * t → cg0 c = cgB c) (F1 : frD t cg0 cg) (nt1 : 1 ≤ nt) (a1 : a ≤ 100) (hK : ctK (hr P) t nt ns tp sp cg) (hR : rdE (hr P) n a nt ns tp sp = rdA (hr P) n) (h62 : hr P a = 62) {cg2 : sg_T} (hD : rtD P t 3 (a + 1) cg cg2) (F2 : frT7 t 3 cg cg2) : am_W mi_X7_read d (fun r' h' => ∃ v cg', r' = some (.int v) ∧ h' = hc cg' fn (3, 18 + 3 * t, cx.2.2) ∧ (∀ c, c ≠ 91 → c ≠ 18 + 3 * t → c ≠ 19 + 3 * t → c ≠ 20 + 3 * t → cg' c = cgB c) ∧ rdR P t (rdA (hr P) n) v cg') kc ks 81 [some (.ref 91), some (.ref (18 + 3 * t))] [] (hc cg2 fn (3, 18 + 3 * t, cx.2.2)) := by
  refine am_go ok_X7_read [] 75 ?_
  obtain ⟨d1, d2, d3, d4, d5, d6⟩ := hD
  have n1 := hB.2.2.2.1
  have hB1 := F1.B t20 hB
  have hB2 := F2.B t20 hB1
  have f8 : a + 9 ≤ n := by
    rcases Nat.lt_or_ge (a + 8) n with q | q
    · omega
    · have := d2 7 (by omega)
      rw [rd_no hB (show ¬ a + 1 + 7 < n by omega)] at this
      exact absurd this (by show ¬ ((-1 : Int32) = 41); decide)
  have FF : ∀ c, c ≠ 91 → c ≠ 18 + 3 * t → c ≠ 19 + 3 * t → c ≠ 20 + 3 * t → cg2 c = cgB c := fun c h1 h2 h3 h4 => by
    rw [← FB c h1 h2 h3 h4]; exact funext fun i => (F2.D c i (fun z => h1 z.1) h2 h3 h4).trans (F1 c i (fun z => h1 z.1) h2 h3 h4)
  unfold rdE at hR
  rw [iF_n (fun w => w.elim (fun z => absurd z (by omega)) (fun z => z h62)), iF_n (ld_8 d2)] at hR
  obtain ⟨k0, k1, k3, k4, kt, ks', kl, ka⟩ := hK
  rw [if_pos rfl] at d5 d6
  refine ⟨_, _, rfl, rfl, ?_⟩
  rw [d1]
  refine ⟨_, _, rfl, rfl, ?_⟩
  rw [hB2.2.2.2.2]
  refine ⟨fun c89 => ?_, fun c89 => ?_⟩
  · have e9 : a + 9 = n := by have := (nI_leI (by omega) (by omega)).mp c89; omega
    rw [iF_p e9] at hR
    have FIN : ∀ v, (((asC (hr P) sp ns ||| lmF (hr P) (a + 1) 3) &&& (tlC (hr P) tp nt ^^^ -1) = 0 ∧ v = -1) ∨ (¬ (asC (hr P) sp ns ||| lmF (hr P) (a + 1) 3) &&& (tlC (hr P) tp nt ^^^ -1) = 0 ∧ v = 200)) → rdR P t (rdA (hr P) n) v cg2 := fun v hv => by
      refine Or.inr ⟨nt, ns, tp, sp, a + 1, nt1, hR.symm, ?_, ?_, k3, k4, fun k hk => ⟨?_, fun j j1 j2 => ?_⟩, fun k hk => ?_, ?_, ⟨d3, d4⟩, hv⟩
      · rw [F2 _ _ (by omega) (by omega) (by omega)]; exact k0
      · rw [F2 _ _ (by omega) (by omega) (by omega)]; exact k1
      · rw [F2 _ _ (by omega) (by omega) (by omega)]; exact (kt k hk).1
      · rw [F2 _ _ (by omega) (by omega) (by omega)]; exact (kt k hk).2 j j1 j2
      · rw [F2 _ _ (by omega) (by omega) (by omega), F2 _ _ (by omega) (by omega) (by omega), F2 _ _ (by omega) (by omega) (by omega)]; exact ks' k hk
      · rw [d6]; exact kl
    refine ⟨_, _, rfl, rfl, ?_⟩
    rw [d5, ka]
    refine ⟨_, _, hc_nT t20, rfl, ?_⟩
    rw [d6, kl]
    refine ⟨fun c108 => ?_, fun c108 => ?_⟩
    · refine ⟨trivial, ?_⟩
      first
      | exact ⟨_, cg2, rfl, rfl, FF, FIN _ (Or.inl ⟨c108, rfl⟩)⟩
      | exact ⟨_, cg2, rfl, rfl, FF, FIN _ (Or.inr ⟨c108, rfl⟩)⟩
    · refine ⟨trivial, ?_⟩
      first
      | exact ⟨_, cg2, rfl, rfl, FF, FIN _ (Or.inl ⟨c108, rfl⟩)⟩
      | exact ⟨_, cg2, rfl, rfl, FF, FIN _ (Or.inr ⟨c108, rfl⟩)⟩
  · have ne : ¬ a + 9 = n := fun w => c89 ((nI_leI (by omega) (by omega)).mpr (by omega))
    rw [iF_n ne] at hR
    refine ⟨_, _, rfl, rfl, ?_⟩
    rw [d1]
    refine ⟨trivial, ?_⟩
    exact ⟨_, cg2, rfl, rfl, FF, Or.inl ⟨a + 9, rfl, by omega, hR.symm⟩⟩
theorem am_s_min7 {d kc ks : Nat} {Q : Option Value → am_H → Prop} {ls : am_L} {h : am_H} {x y : Int32} {st : List Value} (hc8 : am_cat st ≤ 8) (hd1 : 1 ≤ d) (hk : am_W mi_X7_read d Q kc ks 22 ls (.int (mnI x y) :: st) h) : am_W mi_X7_read d Q kc ks 19 ls (.int y :: .int x :: st) h := by
  intro p l e R s m args below meth c D tc ad ad0 h0 A H locs cells slots mc ms lsC hX hE hA hG hag hP hD hS hl
  have hT := hX.2.2.2.2.2.2.2.1
  obtain ⟨g1, g2, g3, g4, g5, g6⟩ := id hG
  have w1 : Cond.methodLink (am_y mi_X7_read).cls 42 Lib.Math.min.name ∈ am_gt := am_m 354 (by decide +kernel) rfl
  have w2 : Cond.static Lib.Math.min.name ∈ am_gt := am_m 355 (by decide +kernel) rfl
  have w3 : Cond.initialized "java/lang/Math" ∈ am_gt := am_m 15 (by decide +kernel) rfl
  have w4 : Cond.code Lib.Math.min.name Lib.Math.min.code 2 (some .int) ∈ am_gt := by rw [← mm_min_c]; exact am_m 356 (by decide +kernel) rfl
  exact va_mmin hX.1 hX.2.1 (hX.2.2.2.1.trans hl.1.symm) hX.2.2.2.2.1 (hT _ w1 args) (hT _ w2 args) (hT _ w3 args) (hT _ w4 args) (by omega) (by rw [am_cat_v]; omega) (by omega) (by omega) ((ok_X7_read 19 3 _ _ _ _ _ rfl).1) (hk p l e R s m args below meth c D tc ad ad0 h0 A H locs cells slots mc ms lsC hX hE hA hG hag hP hD hS hl)
theorem rdP_le {H : Nat → Int32} {K : Nat → Nat → Nat → (Nat → Nat) → (Nat → Nat) → rdT} {a nt ns c m : Nat} {tp sp : Nat → Nat} (hK : ∀ a nt ns tp sp, K a nt ns tp sp = .inl c → c ≤ a + m) (h : rdP H K a nt ns tp sp = .inl c) : c ≤ a + 8 + m := by
  unfold rdP at h
  have t8 := ldN_le (fun i => tmP i (H (a + i))) 8
  have t3 := ldN_le (fun i => tsP i (H (a + i))) 3
  by_cases q1 : ptA H a nt
  · rw [iF_p q1] at h
    by_cases q2 : tmN H a < 8
    · rw [iF_p q2] at h; cases h; omega
    · rw [iF_n q2] at h; have := hK _ _ _ _ _ h; omega
  · rw [iF_n q1] at h
    by_cases q2 : ptB H a ns
    · rw [iF_p q2] at h
      by_cases q3 : tsN H a < 3
      · rw [iF_p q3] at h; cases h; omega
      · rw [iF_n q3] at h; have := hK _ _ _ _ _ h; omega
    · rw [iF_n q2] at h; cases h; omega
theorem rdE_le {H : Nat → Int32} {n a nt ns c : Nat} {tp sp : Nat → Nat} (h : rdE H n a nt ns tp sp = .inl c) : c ≤ a + 9 := by
  unfold rdE at h
  by_cases q1 : nt = 0 ∨ ¬ H a = 62
  · rw [iF_p q1] at h; cases h; omega
  · rw [iF_n q1] at h
    by_cases q2 : tmN H (a + 1) < 8
    · rw [iF_p q2] at h; cases h; omega
    · rw [iF_n q2] at h
      by_cases q3 : a + 9 = n
      · rw [iF_p q3] at h; cases h
      · rw [iF_n q3] at h; cases h; omega
theorem rdF_le {H : Nat → Int32} {n c : Nat} : ∀ (u a nt ns : Nat) (tp sp : Nat → Nat), rdF H n u a nt ns tp sp = .inl c → c ≤ a + 9 * u + 9
  | 0, a, nt, ns, tp, sp, h => by have := rdE_le h; omega
  | u + 1, a, nt, ns, tp, sp, h => by
    rw [rdF] at h
    by_cases q : H a = 38 ∧ nt + ns < 7
    · rw [iF_p q] at h
      have := rdP_le (m := 9 * u + 9) (fun a nt ns tp sp h => by have := rdF_le u a nt ns tp sp h; omega) h
      omega
    · rw [iF_n q] at h; have := rdE_le h; omega
theorem rd_le {P : Nat → Int32} {n c : Nat} (h8 : P 8 = nI n) (n1 : n ≤ 120) (h : rdA (hr P) n = .inl c) : c ≤ 120 := by
  unfold rdA at h
  have := rdP_le (m := 9 * 6 + 9) (fun a nt ns tp sp h => by have := rdF_le 6 a nt ns tp sp h; omega) h
  omega
theorem c_rd_2 {cg : sg_T} {fn : Nat → Option Nat} {cx : cx_T} {P : Nat → Int32} {n t d kc ks : Nat} (hd : 9 ≤ d) (h3 : ∀ i, i < 120 → cg 3 i = bY (P (2358 + i))) (hb : tbO P) (h8 : P 8 = nI n) (n1 : n ≤ 120) (t20 : t < 20) : am_W mi_X7_read d (fun r' h' => ∃ v cg', r' = some (.int v) ∧ h' = hc cg' fn (3, 18 + 3 * t, cx.2.2) ∧ (∀ c, c ≠ 91 → c ≠ 18 + 3 * t → c ≠ 19 + 3 * t → c ≠ 20 + 3 * t → cg' c = sg_u cg 2 7 0 c) ∧ rdR P t (rdA (hr P) n) v cg') kc ks 22 [some (.ref 91), some (.ref (18 + 3 * t))] [.int (nI n), .ref 91] (hc cg fn cx) := by
  refine am_go ok_X7_read [81] 94 ?_
  refine ⟨_, rfl, Nat.le_of_ble_eq_true rfl, trivial, ?_⟩
  rw [hc_f91_1]
  refine ⟨_, _, rfl, rfl, ?_⟩
  refine ⟨_, _, rfl, rfl, ?_⟩
  refine ⟨_, _, 7, rfl, rfl, Nat.le_of_ble_eq_true rfl, Nat.le_of_ble_eq_true rfl, ?_⟩
  rw [hc_a2]
  refine ⟨_, rfl, Nat.le_of_ble_eq_true rfl, trivial, ?_⟩
  rw [hc_f91_2]
  refine ⟨_, rfl, Nat.le_of_ble_eq_true rfl, trivial, ?_⟩
  rw [hc_91_3]
  refine ⟨_, rfl, Nat.le_of_ble_eq_true rfl, trivial, ?_⟩
  rw [hc_f91_4]
  refine ⟨_, hc_nT t20, Nat.le_of_ble_eq_true rfl, trivial, ?_⟩
  rw [hc_fT0 t20]
  refine ⟨_, hc_nT t20, Nat.le_of_ble_eq_true rfl, trivial, ?_⟩
  rw [hc_fT1 t20]
  refine ⟨_, hc_nT t20, Nat.le_of_ble_eq_true rfl, trivial, ?_⟩
  rw [hc_fT2 t20]
  have FB : ∀ c, c ≠ 91 → c ≠ 18 + 3 * t → c ≠ 19 + 3 * t → c ≠ 20 + 3 * t → sg_u (sg_u (sg_u (sg_u (sg_u (sg_u (sg_u cg 91 1 (nI n)) 2 7 0) 91 2 0) 91 4 0) (18 + 3 * t) 0 0) (18 + 3 * t) 1 0) (18 + 3 * t) 2 0 c = sg_u cg 2 7 0 c := fun c h1 h2 h3 h4 => by
    rw [sg_i h2, sg_i h2, sg_i h2, sg_i h1, sg_i h1]
    by_cases z : c = 2
    · subst z
      funext i
      by_cases y : i = 7
      · rw [y, sg_s, sg_s]
      · rw [sg_j y, sg_j y, sg_i (by decide)]
    · rw [sg_i z, sg_i z, sg_i h1]
  have z1 : sg_u (sg_u (sg_u (sg_u (sg_u (sg_u (sg_u cg 91 1 (nI n)) 2 7 0) 91 2 0) 91 4 0) (18 + 3 * t) 0 0) (18 + 3 * t) 1 0) (18 + 3 * t) 2 0 91 1 = nI n := by rw [sg_i (by omega), sg_i (by omega), sg_i (by omega), sg_j (by decide), sg_j (by decide), sg_i (by decide), sg_s]
  have z2 : sg_u (sg_u (sg_u (sg_u (sg_u (sg_u (sg_u cg 91 1 (nI n)) 2 7 0) 91 2 0) 91 4 0) (18 + 3 * t) 0 0) (18 + 3 * t) 1 0) (18 + 3 * t) 2 0 91 2 = nI 0 := by rw [sg_i (by omega), sg_i (by omega), sg_i (by omega), sg_j (by decide), sg_s]; rfl
  have z4 : sg_u (sg_u (sg_u (sg_u (sg_u (sg_u (sg_u cg 91 1 (nI n)) 2 7 0) 91 2 0) 91 4 0) (18 + 3 * t) 0 0) (18 + 3 * t) 1 0) (18 + 3 * t) 2 0 91 4 = 0 := by rw [sg_i (by omega), sg_i (by omega), sg_i (by omega), sg_s]
  have y0 : sg_u (sg_u (sg_u (sg_u (sg_u (sg_u (sg_u cg 91 1 (nI n)) 2 7 0) 91 2 0) 91 4 0) (18 + 3 * t) 0 0) (18 + 3 * t) 1 0) (18 + 3 * t) 2 0 (18 + 3 * t) 0 = nI 0 := by rw [sg_j (by decide), sg_j (by decide), sg_s]; rfl
  have y1 : sg_u (sg_u (sg_u (sg_u (sg_u (sg_u (sg_u cg 91 1 (nI n)) 2 7 0) 91 2 0) 91 4 0) (18 + 3 * t) 0 0) (18 + 3 * t) 1 0) (18 + 3 * t) 2 0 (18 + 3 * t) 1 = nI 0 := by rw [sg_j (by decide), sg_s]; rfl
  have y2 : sg_u (sg_u (sg_u (sg_u (sg_u (sg_u (sg_u cg 91 1 (nI n)) 2 7 0) 91 2 0) 91 4 0) (18 + 3 * t) 0 0) (18 + 3 * t) 1 0) (18 + 3 * t) 2 0 (18 + 3 * t) 2 = 0 := by rw [sg_s]
  generalize sg_u (sg_u (sg_u (sg_u (sg_u (sg_u (sg_u cg 91 1 (nI n)) 2 7 0) 91 2 0) 91 4 0) (18 + 3 * t) 0 0) (18 + 3 * t) 1 0) (18 + 3 * t) 2 0 = cg0 at FB z1 z2 z4 y0 y1 y2 ⊢
  have hB : rdB P n cg0 := ⟨fun i hi => by rw [FB 3 (by omega) (by omega) (by omega) (by omega), sg_i (by decide)]; exact h3 i hi, hb, h8, n1, z1⟩
  have hK0 : ctK (hr P) t 0 0 (fun _ => 0) (fun _ => 0) cg0 := ⟨y0, y1, by omega, by omega, fun k hk => absurd hk (by omega), fun k hk => absurd hk (by omega), y2, z4⟩
  refine ⟨_, rfl, d - 1, 0, 0, _, by omega, Nat.le_of_ble_eq_true rfl, Nat.le_of_ble_eq_true rfl, Nat.le_of_ble_eq_true rfl, c_readParts hB t20 (d := d - 1) (by omega) z2 hK0 rfl, ?_⟩
  rintro _ _ ⟨b, cg1, rfl, rfl, F1, hO⟩
  refine ⟨Or.inl rfl, ?_⟩
  refine ⟨fun c70 => ?_, fun c70 => ?_⟩
  · have b0 : b = false := bI_0.mp c70
    obtain ⟨c, ec, er⟩ := hO.elim (fun w => absurd (b0.symm.trans w.1) (by decide)) (fun w => w.2)
    have RR : rdR P t (rdA (hr P) n) (cg1 91 2) cg1 := Or.inl ⟨c, ec, rd_le h8 n1 er, er⟩
    have FF : ∀ c, c ≠ 91 → c ≠ 18 + 3 * t → c ≠ 19 + 3 * t → c ≠ 20 + 3 * t → cg1 c = sg_u cg 2 7 0 c := fun c h1 h2 h3 h4 => by
      rw [← FB c h1 h2 h3 h4]; exact funext fun i => F1 c i (fun z => h1 z.1) h2 h3 h4
    refine ⟨_, _, rfl, rfl, ?_⟩
    refine ⟨trivial, ?_⟩
    first
    | exact ⟨_, cg1, rfl, rfl, FF, RR⟩
    | exact ⟨_, cg2, rfl, rfl, FF, RR⟩
  · have b0 : b = true := by cases b; exact absurd rfl c70; rfl
    obtain ⟨a, nt, ns, tp, sp, nt1, a1, h62, at1, hK, er⟩ := hO.elim (fun w => w.2) (fun w => absurd (b0.symm.trans w.1) (by decide))
    have hB1 := F1.B t20 hB
    refine ⟨_, rfl, d - 1, 0, 0, _, by omega, Nat.le_of_ble_eq_true rfl, Nat.le_of_ble_eq_true rfl, Nat.le_of_ble_eq_true rfl, c_readTerm (s := 3) hB1 (a := a + 1) (by omega) t20 rfl (by omega) (d := d - 1) (by omega) at1, ?_⟩
    rintro _ _ ⟨b2, cg2, rfl, rfl, F2, hO2⟩
    refine ⟨Or.inl rfl, ?_⟩
    refine ⟨fun c78 => ?_, fun c78 => ?_⟩
    · have b20 : b2 = false := bI_0.mp c78
      obtain ⟨m, m8, e1, e2, e3⟩ := hO2.elim (fun w => absurd (b20.symm.trans w.1) (by decide)) (fun w => w.2)
      unfold rdE at er
      rw [iF_n (fun w => w.elim (fun z => absurd z (by omega)) (fun z => z h62)), iF_p (by rw [ld_m e2 e3 m8]; exact m8), ld_m e2 e3 m8] at er
      have RR : rdR P t (rdA (hr P) n) (cg2 91 2) cg2 := Or.inl ⟨a + 1 + m, e1, by omega, er.symm⟩
      have FF : ∀ c, c ≠ 91 → c ≠ 18 + 3 * t → c ≠ 19 + 3 * t → c ≠ 20 + 3 * t → cg2 c = sg_u cg 2 7 0 c := fun c h1 h2 h3 h4 => by
        rw [← FB c h1 h2 h3 h4]; exact funext fun i => (F2.D c i (fun z => h1 z.1) h2 h3 h4).trans (F1 c i (fun z => h1 z.1) h2 h3 h4)
      refine ⟨_, _, rfl, rfl, ?_⟩
      refine ⟨trivial, ?_⟩
      first
      | exact ⟨_, cg1, rfl, rfl, FF, RR⟩
      | exact ⟨_, cg2, rfl, rfl, FF, RR⟩
    · have b20 : b2 = true := by cases b2; exact absurd rfl c78; rfl
      have hD := hO2.elim (fun w => w.2) (fun w => absurd (b20.symm.trans w.1) (by decide))
      exact c_rd_e t20 hB FB F1 nt1 a1 hK er h62 hD F2
theorem c_read {cg : sg_T} {fn : Nat → Option Nat} {cx : cx_T} {P : Nat → Int32} {n t d : Nat} (hd : 9 ≤ d) (h3 : ∀ i, i < 120 → cg 3 i = bY (P (2358 + i))) (hb : tbO P) (h8 : P 8 = nI n) (n1 : n ≤ 120) (t20 : t < 20) (h27 : cg 2 7 = nI n) : am_Met mi_X7_read d 0 0 [.ref 91, .ref (18 + 3 * t)] (hc cg fn cx) (fun r' h' => ∃ v cg', r' = some (.int v) ∧ h' = hc cg' fn (3, 18 + 3 * t, cx.2.2) ∧ (∀ c, c ≠ 91 → c ≠ 18 + 3 * t → c ≠ 19 + 3 * t → c ≠ 20 + 3 * t → cg' c = sg_u cg 2 7 0 c) ∧ rdR P t (rdA (hr P) n) v cg') := by
  refine am_Met.of rfl (Nat.le_of_ble_eq_true rfl) ?_
  refine am_go ok_X7_read [19] 70 ?_
  refine ⟨_, _, rfl, rfl, ?_⟩
  refine ⟨_, _, rfl, rfl, ?_⟩
  refine ⟨_, _, 7, rfl, rfl, Nat.le_of_ble_eq_true rfl, Nat.le_of_ble_eq_true rfl, ?_⟩
  rw [h27]
  refine ⟨_, _, rfl, rfl, ?_⟩
  refine ⟨_, _, rfl, rfl, ?_⟩
  refine ⟨_, _, rfl, ?_⟩
  have em : mnI (nI n) (Int32.ofNat 120) = nI n := by show mnI (nI n) (nI 120) = nI n; unfold mnI; rw [if_neg (fun z => absurd ((nI_ltI (by omega) (by omega)).mp z) (by omega))]
  refine am_s_min7 (st := [.ref 91]) (Nat.le_of_ble_eq_true rfl) (by omega) ?_
  rw [em]
  exact c_rd_2 hd h3 hb h8 n1 t20
