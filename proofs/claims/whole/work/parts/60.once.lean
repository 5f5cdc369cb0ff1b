/-! Reach: useOnce -/
/-- while one RULE is used on what is settled: the first sz0 of the row -/
def uoC (S : sy_T) (r M sz0 : Nat) (g0 : Nat → Nat) (cg : sg_T) : Prop := cg 84 5 = bI false ∧ stR cg (inR g0 sz0) ∧ ∃ sz g c, RB cg sz g c ∧ sz0 ≤ sz ∧ (∀ j, j < sz0 → g j = g0 j ∧ c (g0 j) ≤ M) ∧ (∀ a, a < sz → c (g a) ≤ M + 1) ∧ ∀ a, a < sz → inR g0 sz0 (g a) ∨ ∃ n, sy_by S (inR g0 sz0) r n (g a)
theorem uo_fr {S : sy_T} {r M sz0 : Nat} {g0 : Nat → Nat} {cg cg' : sg_T} (h : uoC S r M sz0 g0 cg) (e4 : cg' 84 = cg 84) (e5 : cg' 85 = cg 85) (e6 : cg' 86 = cg 86) (e7 : cg' 87 = cg 87) : uoC S r M sz0 g0 cg' := by
  unfold uoC stR RB at h ⊢
  rw [e4, e5, e6, e7]; exact h
theorem uo_stp {P : Nat → Int32} {dy : Int32} {r n M sz0 : Nat} {g0 : Nat → Nat} {cg : sg_T} (hS : sy_ok (syP P dy)) (hM : M + 1 ≤ 100000) (hr : r < pn P 1) (n6 : n < 625) (hi : plN (tlF P (txX P r dy) (pn P (txX P r dy))) (Lm n) 4 = true) (n3 : pn P (txX P r dy) ≤ 3) (h : uoC (syP P dy) r M sz0 g0 cg) :
    uoC (syP P dy) r M sz0 g0 (stp P (txX P r dy) cg (Lm n)) ∧ le85 cg (stp P (txX P r dy) cg (Lm n)) ∧ (sy_i (syP P dy) r n = true → (∀ k, k < sy_k (syP P dy) r → inR g0 sz0 (sy_t (syP P dy) r n k)) → 0 ≤ stp P (txX P r dy) cg (Lm n) 85 (sy_e (syP P dy) r n)) := by
  obtain ⟨h5, hst, sz, g, c, hB, zz, hpre, hcM, hso⟩ := id h
  have hsi : sy_i (syP P dy) r n = true ↔ thN P (Lm n) (txX P r dy) (pn P (txX P r dy + 1)) = true := by
    show (plN (tlF P (txX P r dy) (pn P (txX P r dy))) (Lm n) 4 && thN P (Lm n) (txX P r dy) (pn P (txX P r dy + 1))) = true ↔ _
    rw [hi, Bool.true_and]
  by_cases hC : cdC cg P (txX P r dy) (Lm n)
  · have es : stp P (txX P r dy) cg (Lm n) = avR cg (sy_e (syP P dy) r n) (byI cg (sy_t (syP P dy) r n) (sy_k (syP P dy) r)) := by unfold stp; rw [iF_p hC]; rfl
    have hin := hsi.mpr hC.1
    obtain ⟨e7, t7⟩ := hS r n hr n6 hin
    have ht : ∀ k, k < sy_k (syP P dy) r → inR g0 sz0 (sy_t (syP P dy) r n k) := fun k hk => (stR_n hst (t7 k hk)).mp (hC.2 k hk)
    have hts : ∀ k, k < sy_k (syP P dy) r → inR g sz (sy_t (syP P dy) r n k) ∧ c (sy_t (syP P dy) r n k) ≤ M := fun k hk => by
      obtain ⟨j, j1, j2⟩ := ht k hk
      exact ⟨⟨j, by omega, (hpre j j1).1.trans j2⟩, by rw [← j2]; exact (hpre j j1).2⟩
    obtain ⟨eb, -⟩ := byI_n (md := false) (c := c) (tm := sy_t (syP P dy) r n) (n := sy_k (syP P dy) r) h5 n3 (fun k hk => ⟨(rb_c hB (hts k hk).1).1, (rb_c hB (hts k hk).1).2.1⟩)
    have bM : byN false c (sy_t (syP P dy) r n) (sy_k (syP P dy) r) ≤ M + 1 := by
      unfold byN; rw [if_neg (by decide)]
      have := gtN_le (c := c) (tm := sy_t (syP P dy) r n) (m := M) (n := sy_k (syP P dy) r) (fun k hk => (hts k hk).2)
      omega
    rw [es, eb]
    generalize byN false c (sy_t (syP P dy) r n) (sy_k (syP P dy) r) = b at bM
    have b1 : b ≤ 100000 := by omega
    have hbr : ∃ n', sy_by (syP P dy) (inR g0 sz0) r n' (sy_e (syP P dy) r n) := ⟨n, hr, n6, hin, rfl, ht⟩
    generalize sy_e (syP P dy) r n = e at e7 hbr ⊢
    obtain ⟨hup, hle⟩ := av_85 hB e7 b1
    have g1 : stR (avR cg e (nI b)) (inR g0 sz0) := by
      intro f f7; rw [avR_fr 87 (by decide) (by decide) (by decide)]; exact hst f f7
    refine ⟨⟨avR_5.trans h5, g1, ?_⟩, hle, fun _ _ => hup.1⟩
    rcases av_rb hB e7 b1 with ⟨q1, q2, q3⟩ | ⟨q1, q2, q3⟩ | ⟨q1, q2, q3⟩
    · have k0 : ∀ a, a < sz → updN g sz e a = g a := fun a ha => updN_n (by omega)
      have k1 : ∀ a, a < sz → updN c e b (updN g sz e a) = c (g a) := fun a ha => by rw [k0 a ha, updN_n (fun w => q1 ⟨a, ha, w⟩)]
      refine ⟨sz + 1, _, _, q3, by omega, fun j hj => ?_, fun a ha => ?_, fun a ha => ?_⟩
      · have ne : g0 j ≠ e := fun w => q1 ⟨j, by omega, (hpre j hj).1.trans w⟩
        rw [k0 j (by omega), updN_n ne]; exact hpre j hj
      · rcases (show a = sz ∨ a < sz by omega) with z | z
        · rw [z, updN_s, updN_s]; exact bM
        · rw [k1 a z]; exact hcM a z
      · rcases (show a = sz ∨ a < sz by omega) with z | z
        · rw [z, updN_s]; exact Or.inr hbr
        · rw [k0 a z]; exact hso a z
    · refine ⟨sz, _, _, q3, zz, fun j hj => ?_, fun a ha => ?_, hso⟩
      · by_cases w : g0 j = e
        · have := (hpre j hj).2
          rw [w] at this
          rw [w, updN_s]; exact ⟨(hpre j hj).1.trans w, by omega⟩
        · rw [updN_n w]; exact hpre j hj
      · by_cases w : g a = e
        · rw [w, updN_s]; exact bM
        · rw [updN_n w]; exact hcM a ha
    · rw [q3]; exact ⟨sz, g, c, hB, zz, hpre, hcM, hso⟩
  · have es : stp P (txX P r dy) cg (Lm n) = cg := by unfold stp; rw [iF_n hC]
    rw [es]
    refine ⟨h, le85.rf, fun w ht => absurd ⟨hsi.mp w, fun k hk => ?_⟩ hC⟩
    exact (stR_n hst ((hS r n hr n6 w).2 k hk)).mpr (ht k hk)
theorem cp_uo {P : Nat → Int32} {dy : Int32} {r M sz0 : Nat} {g0 : Nat → Nat} (hS : sy_ok (syP P dy)) (hM : M + 1 ≤ 100000) (hr : r < pn P 1) (n3 : pn P (txX P r dy) ≤ 3) : cpH P (txX P r dy) (uoC (syP P dy) r M sz0 g0) (fun n cg => n < 625 → sy_i (syP P dy) r n = true → (∀ k, k < sy_k (syP P dy) r → inR g0 sz0 (sy_t (syP P dy) r n k)) → 0 ≤ cg 85 (sy_e (syP P dy) r n)) := by
  refine ⟨fun cg n n6 hp hJ => ?_, fun cg cg' e hJ => uo_fr hJ (e 84 (by decide)) (e 85 (by decide)) (e 86 (by decide)) (e 87 (by decide)), fun cg cg' n e hD n6 hi ht => ?_, fun cg hJ => ?_⟩
  · obtain ⟨s1, s2, s3⟩ := uo_stp hS hM hr n6 (pl_N.mpr hp) n3 hJ
    exact ⟨s1, fun _ => s3, fun m hD m6 hi ht => (s2 _ (hS r m hr m6 hi).1 (hD m6 hi ht)).1⟩
  · rw [e 85 (by decide)]; exact hD n6 hi ht
  · obtain ⟨-, -, sz, g, c, hB, -⟩ := hJ
    exact ⟨sz, hB.2.1, hB.1⟩
/-- a tactic's FACTS: all that has come is settled, and costs M at most -/
def tkC (M : Nat) (cg : sg_T) (sz : Nat) (g : Nat → Nat) : Prop := cg 84 5 = bI false ∧ stR cg (inR g sz) ∧ ∃ c, RB cg sz g c ∧ ∀ a, a < sz → c (g a) ≤ M
theorem uo_0 {S : sy_T} {r M sz : Nat} {g : Nat → Nat} {cg : sg_T} (h : tkC M cg sz g) : uoC S r M sz g cg := by
  obtain ⟨h5, hst, c, hB, hc⟩ := h
  exact ⟨h5, hst, sz, g, c, hB, Nat.le_refl _, fun j hj => ⟨rfl, hc j hj⟩, fun a ha => Nat.le_trans (hc a ha) (by omega), fun a ha => Or.inl ⟨a, ha, rfl⟩⟩
/-- how 'useOnce' ends -/
def uoO (S : sy_T) (r M sz0 : Nat) (g0 : Nat → Nat) (cg' : sg_T) : Prop := ∃ sz g, tkC (M + 1) cg' sz g ∧ ∀ f, f < 750 → (inR g sz f ↔ (inR g0 sz0 f ∨ ∃ n, sy_by S (inR g0 sz0) r n f))
def frX9 (cg cg' : sg_T) : Prop := ∀ a, (a < 84 ∨ 89 < a) → cg' a = cg a
theorem sy_pl {P : Nat → Int32} {dy : Int32} {r n : Nat} (hi : sy_i (syP P dy) r n = true) : plN (tlF P (txX P r dy) (pn P (txX P r dy))) (Lm n) 4 = true := by
  have hi' : (plN (tlF P (txX P r dy) (pn P (txX P r dy))) (Lm n) 4 && thN P (Lm n) (txX P r dy) (pn P (txX P r dy + 1))) = true := hi
  rw [Bool.and_eq_true] at hi'; exact hi'.1
theorem uo_end {S : sy_T} {r M sz0 sz : Nat} {g0 g c : Nat → Nat} {cg cg2 : sg_T} (hS : sy_ok S) (hr : r < sy_R S) (hk : 1 ≤ sy_k S r) (hI : uoC S r M sz0 g0 cg) (hB : RB cg sz g c) (zz : sz0 ≤ sz) (hpre : ∀ j, j < sz0 → g j = g0 j ∧ c (g0 j) ≤ M) (hD : ∀ n, n < 625 → sy_i S r n = true → (∀ k, k < sy_k S r → inR g0 sz0 (sy_t S r n k)) → (∃ j, j < sz0 ∧ g0 j = sy_t S r n 0) → 0 ≤ cg 85 (sy_e S r n)) (F2 : ∀ a, a ≠ 87 → cg2 a = cg a) (S2 : ∀ f, ((∃ j, sz0 ≤ j ∧ j < sz ∧ g j = f) → cg2 87 f = 1) ∧ ((¬ ∃ j, sz0 ≤ j ∧ j < sz ∧ g j = f) → cg2 87 f = cg 87 f)) : uoO S r M sz0 g0 cg2 := by
  obtain ⟨h5, hst, sz', g', c', hB', zz', hpre', hcM, hso⟩ := hI
  have ez : sz' = sz := by
    have := hB'.1.symm.trans hB.1
    exact (nI_eq (by have := hB'.2.1; omega) (by have := hB.2.1; omega)).mp this
  subst ez
  have eg : ∀ a, a < sz' → g' a = g a := fun a ha => (nI_eq (by have := (hB'.2.2.1 a ha).1; omega) (by have := (hB.2.2.1 a ha).1; omega)).mp ((hB'.2.2.1 a ha).2.1.symm.trans (hB.2.2.1 a ha).2.1)
  have ec : ∀ a, a < sz' → c (g a) = c' (g' a) := fun a ha => by
    have x1 := hB.2.2.1 a ha
    have x2 := hB'.2.2.1 a ha
    have := x1.2.2.1
    rw [← eg a ha] at this ⊢
    rw [eg a ha] at x2
    exact (nI_eq (by have := x1.2.2.2; rw [← eg a ha] at this; omega) (by have := x2.2.2.2; rw [eg a ha]; omega)).mp (this.symm.trans (by rw [eg a ha]; exact x2.2.2.1))
  refine ⟨sz', g, ⟨by rw [F2 84 (by decide)]; exact h5, fun f f7 => ?_, c, rb_fr hB (F2 84 (by decide)) (F2 85 (by decide)) (F2 86 (by decide)), fun a ha => by rw [ec a ha]; exact hcM a ha⟩, fun f f7 => ?_⟩
  · by_cases q : ∃ j, sz0 ≤ j ∧ j < sz' ∧ g j = f
    · rw [(S2 f).1 q]
      obtain ⟨j, j1, j2, j3⟩ := q
      exact ⟨fun _ => rfl, fun w => absurd ⟨j, j2, j3⟩ w⟩
    · rw [(S2 f).2 q]
      have e : inR g sz' f ↔ inR g0 sz0 f := ⟨fun ⟨j, j1, j2⟩ => ⟨j, by rcases Nat.lt_or_ge j sz0 with z | z; exact z; exact absurd ⟨j, z, j1, j2⟩ q, by rw [← (hpre j (by rcases Nat.lt_or_ge j sz0 with z | z; exact z; exact absurd ⟨j, z, j1, j2⟩ q)).1]; exact j2⟩, fun ⟨j, j1, j2⟩ => ⟨j, by omega, by rw [(hpre j j1).1]; exact j2⟩⟩
      rw [e]; exact hst f f7
  · constructor
    · rintro ⟨a, a1, a2⟩
      have := hso a a1
      rw [eg a a1, a2] at this; exact this
    · rintro (⟨j, j1, j2⟩ | ⟨n, hr', n6, hi, he, ht⟩)
      · exact ⟨j, by omega, by rw [(hpre j j1).1]; exact j2⟩
      · have h0 := hD n n6 hi ht (ht 0 hk)
        rw [he] at h0
        by_cases q : inR g sz' f
        · exact q
        · exact absurd ((rb_neg hB f7).mpr q) (i_len h0)
theorem c_uo_l {cg0 : sg_T} {P : Nat → Int32} {dy : Int32} {r M sz0 R C n0 t d kc ks : Nat} {g0 : Nat → Nat} {fn : Nat → Option Nat} {cx : cx_T} (hd : 14 ≤ d) (hW : wkA P R C n0) (hlt : ltA P R C) (hr : r < R) (hM : M + 1 ≤ 100000) (t20 : t < 20) (hR0 : txR cg0 (18 + 3 * t) P (txX P r dy)) {vb : Int32} (hb : vb = nI sz0) : ∀ (u i : Nat) (z : Int32) (cg : sg_T), z = nI i → frE cg0 cg → cg 88 = cg0 88 → wvP (cg 89) → uoC (syP P dy) r M sz0 g0 cg → (∀ n, n < 625 → sy_i (syP P dy) r n = true → (∀ k, k < sy_k (syP P dy) r → inR g0 sz0 (sy_t (syP P dy) r n k)) → (∃ j, j < i ∧ g0 j = sy_t (syP P dy) r n 0) → 0 ≤ cg 85 (sy_e (syP P dy) r n)) → i ≤ sz0 → sz0 < i + u → am_W mi_X6_useOnce d (fun r' h' => r' = none ∧ ∃ cg', h' = hc cg' fn cx ∧ frE cg0 cg' ∧ wvP (cg' 89) ∧ uoO (syP P dy) r M sz0 g0 cg') kc ks 7 [some (.ref 84), some (.ref (18 + 3 * t)), some (.int vb), some (.int z)] [] (hc cg fn cx) := by
  intro u
  induction u with
  | zero => intro i z cg hz hF h88 hw hI hD h1 h2; exact absurd h2 (by omega)
  | succ u ih =>
    intro i z cg hz hF h88 hw hI hD h1 h2
    refine am_go ok_X6_useOnce [7] 78 ?_
    have R8 := hW.2.1
    have eR : sy_R (syP P dy) = R := pn_of hW.1 (by omega)
    have hS := syP_ok (wkA_w (dy := dy) hW)
    have hX := wkA_x (dy := dy) hW hr
    obtain ⟨nt, nt1, nt3, ent⟩ := id hX.1
    have pnt := pn_of ent (by omega)
    obtain ⟨-, -, sz, g, c, hB, zz, hpre, -, -⟩ := id hI
    have z7 := hB.2.1
    refine ⟨fun c9 => ?_, fun c9 => ?_⟩
    · rw [hb, hz] at c9
      have k1 : i = sz0 := by have := (nI_leI (by omega) (by omega)).mp c9; omega
      subst k1
      refine ⟨_, rfl, d - 1, 0, 0, _, by omega, Nat.le_of_ble_eq_true rfl, Nat.le_of_ble_eq_true rfl, Nat.le_of_ble_eq_true rfl, c_settleFrom (d - 1) hB hb zz, ?_⟩
      rintro _ _ ⟨rfl, cg2, rfl, F2, S2⟩
      refine ⟨Or.inl rfl, ?_⟩
      exact ⟨rfl, cg2, rfl, hF.tr (fun a ha => F2 a (by omega)), by rw [F2 89 (by decide)]; exact hw, uo_end hS (by rw [eR]; exact hr) (by rw [show sy_k (syP P dy) r = nt from pnt]; exact nt1) hI hB zz hpre hD F2 S2⟩
    · have k1 : i < sz0 := by
        rcases Nat.lt_or_ge i sz0 with q1 | q1
        · exact q1
        · exact absurd (by rw [hb, hz]; exact (nI_leI (by omega) (by omega)).mpr q1) c9
      obtain ⟨b1, b2, -, -⟩ := hB.2.2.1 i (by omega)
      rw [(hpre i k1).1] at b1 b2
      have hR : txR cg (18 + 3 * t) P (txX P r dy) := txR_fr hR0 (hF _ (by omega)) (hF _ (by omega)) (hF _ (by omega))
      have hH := cp_uo (M := M) (sz0 := sz0) (g0 := g0) (r := r) hS hM (by rw [show pn P 1 = R from eR]; exact hr) (by omega)
      have ho : okT P (txX P r dy + 2 + 4 * 0) := hX.2.2.1 0 (by omega)
      have hsl := tx_sl (s := 0) hR (Or.inl (by omega))
      rw [show ySl (txX P r dy) 0 = txX P r dy + 2 + 4 * 0 by unfold ySl; rw [if_neg (by omega)]] at hsl
      refine ⟨_, _, rfl, rfl, ?_⟩
      refine ⟨_, _, i, rfl, hz, by omega, Nat.le_of_ble_eq_true rfl, ?_⟩
      rw [b2]
      refine ⟨_, rfl, d - 1, 0, 0, _, by omega, Nat.le_of_ble_eq_true rfl, Nat.le_of_ble_eq_true rfl, Nat.le_of_ble_eq_true rfl, c_bind (y := txX P r dy + 2 + 4 * 0) (f := g0 i) (by omega) t20 (k := 0) rfl (by omega) rfl b1 hsl ho hw, ?_⟩
      rintro _ _ ⟨b, cg2, rfl, rfl, F2, w2, B1, B2⟩
      refine ⟨Or.inl rfl, ?_⟩
      have J2 := hH.2.1 _ _ F2 hI
      refine ⟨fun c24 => ?_, fun c24 => ?_⟩
      · have b0 : b = false := bI_0.mp c24
        first
        | exact ih (i + 1) _ cg3 (by rw [hz, nI_1]) (hF.tr (fun a ha => (F4 a (by omega) (by omega) (by omega) (by omega)).trans (F2 a (by omega)))) ((F4 88 (by decide) (by decide) (by decide) (by decide)).trans ((F2 88 (by decide)).trans h88)) w3 J3 (fun n n6 hi ht ⟨j, j1, j2⟩ => by
            rcases (show j = i ∨ j < i by omega) with e | e
            · refine E3 n n6 (pl_N.mp (sy_pl hi)) (ag_ex (B1 b0 n n6 (by rw [← e, j2]; rfl))) n6 hi ht
            · exact D3 n (fun _ _ _ => by rw [F2 85 (by decide)]; exact hD n n6 hi ht ⟨j, e, j2⟩) n6 hi ht) (by omega) (by omega)
        | exact ih (i + 1) _ cg2 (by rw [hz, nI_1]) (hF.tr (fun a ha => F2 a (by omega))) ((F2 88 (by decide)).trans h88) w2 J2 (fun n n6 hi ht ⟨j, j1, j2⟩ => by
            rcases (show j = i ∨ j < i by omega) with e | e
            · exact absurd (by rw [← e, j2]; rfl) (B2 b0 n n6)
            · rw [F2 85 (by decide)]; exact hD n n6 hi ht ⟨j, e, j2⟩) (by omega) (by omega)
      · have b0 : b = true := by cases b; exact absurd rfl c24; rfl
        refine ⟨_, rfl, d - 1, 0, 0, _, by omega, Nat.le_of_ble_eq_true rfl, Nat.le_of_ble_eq_true rfl, Nat.le_of_ble_eq_true rfl, c_complete hH hX (ltA_x hW hlt hr) t20 4 cg2 (d - 1) 0 5 (by omega) (by omega) (by omega) rfl (txR_fr hR (F2 _ (by omega)) (F2 _ (by omega)) (F2 _ (by omega))) w2 J2 (fun l hl => absurd hl (by omega)), ?_⟩
        rintro _ _ ⟨rfl, cg3, rfl, J3, F4, W4, D3, E3⟩
        refine ⟨Or.inl rfl, ?_⟩
        have w3 : wvP (cg3 89) := by rw [funext W4]; exact w2
        first
        | exact ih (i + 1) _ cg3 (by rw [hz, nI_1]) (hF.tr (fun a ha => (F4 a (by omega) (by omega) (by omega) (by omega)).trans (F2 a (by omega)))) ((F4 88 (by decide) (by decide) (by decide) (by decide)).trans ((F2 88 (by decide)).trans h88)) w3 J3 (fun n n6 hi ht ⟨j, j1, j2⟩ => by
            rcases (show j = i ∨ j < i by omega) with e | e
            · refine E3 n n6 (pl_N.mp (sy_pl hi)) (ag_ex (B1 b0 n n6 (by rw [← e, j2]; rfl))) n6 hi ht
            · exact D3 n (fun _ _ _ => by rw [F2 85 (by decide)]; exact hD n n6 hi ht ⟨j, e, j2⟩) n6 hi ht) (by omega) (by omega)
        | exact ih (i + 1) _ cg2 (by rw [hz, nI_1]) (hF.tr (fun a ha => F2 a (by omega))) ((F2 88 (by decide)).trans h88) w2 J2 (fun n n6 hi ht ⟨j, j1, j2⟩ => by
            rcases (show j = i ∨ j < i by omega) with e | e
            · exact absurd (by rw [← e, j2]; rfl) (B2 b0 n n6)
            · rw [F2 85 (by decide)]; exact hD n n6 hi ht ⟨j, e, j2⟩) (by omega) (by omega)
theorem c_useOnce {cg0 : sg_T} {P : Nat → Int32} {dy : Int32} {r M sz0 R C n0 t d : Nat} {g0 : Nat → Nat} {fn : Nat → Option Nat} {cx : cx_T} (hd : 14 ≤ d) (hW : wkA P R C n0) (hlt : ltA P R C) (hr : r < R) (hM : M + 1 ≤ 100000) (t20 : t < 20) (hR0 : txR cg0 (18 + 3 * t) P (txX P r dy)) (hw : wvP (cg0 89)) (hI : tkC M cg0 sz0 g0) : am_Met mi_X6_useOnce d 0 0 [.ref 84, .ref (18 + 3 * t)] (hc cg0 fn cx) (fun r' h' => r' = none ∧ ∃ cg', h' = hc cg' fn cx ∧ frE cg0 cg' ∧ wvP (cg' 89) ∧ uoO (syP P dy) r M sz0 g0 cg') := by
  refine am_Met.of rfl (Nat.le_of_ble_eq_true rfl) ?_
  refine am_go ok_X6_useOnce [7] 65 ?_
  refine ⟨_, _, rfl, rfl, ?_⟩
  obtain ⟨-, -, c, hB, -⟩ := id hI
  exact c_uo_l hd hW hlt hr hM t20 hR0 hB.1 (sz0 + 1) 0 0 cg0 rfl frE.rf rfl hw (uo_0 hI) (fun n _ _ _ ⟨j, hj, _⟩ => absurd hj (by omega)) (by omega) (by omega)
