/-! the Tactician: TRIES, PIECES, a run -/
theorem pl_ru {cg0 cg cg1 cg2 : sg_T} {P : Nat → Int32} {t n R C n0 N q sz0 : Nat} {g0 : Nat → Nat} {st : rs_T} (hW : wkA P R C n0) (hI : plI cg0 t n N cg st) (hq : q < R) (hN : ¬ st.2 = N) (hg : ∀ f, f < 750 → (st.1 f = true ↔ inR g0 sz0 f)) (e1 : cg1 = sg_u cg 90 2 (nI (st.2 + 1))) (F2 : frE cg1 cg2) (w2 : wvP (cg2 89)) (hO : uoO (syP P (P 0)) q st.2 sz0 g0 cg2) : plI cg0 t n N cg2 (ruS (syP P (P 0)) N q st) := by
  have eR : sy_R (syP P (P 0)) = R := pn_of hW.1 (by have := hW.2.1; omega)
  have hS := syP_ok (wkA_w (dy := P 0) hW)
  obtain ⟨h1, h2, h3, h4, h5, h6, h7, h8, h9, -⟩ := hI
  have er : ruS (syP P (P 0)) N q st = (rnF (syP P (P 0)) st.1 q, st.2 + 1) := by unfold ruS; rw [iF_p ⟨by omega, hN⟩]
  rw [er]
  obtain ⟨sz, g, hk, hf⟩ := hO
  refine ⟨fun a ha => by rw [F2 a (by omega), e1, sg_i (by omega)]; exact h1 a ha, w2, by rw [F2 90 (by omega), e1, sg_s], by rw [F2 90 (by omega), e1, sg_j (by decide)]; exact h4, by rw [F2 90 (by omega), e1, sg_j (by decide)]; exact h5, by rw [F2 90 (by omega), e1, sg_j (by decide)]; exact h6, by show st.2 + 1 ≤ N; omega, h8, fun f hf => rnF_hi hf, sz, g, hk, fun f f7 => ?_⟩
  rw [hf f f7]
  have hb : ∀ m, sy_by (syP P (P 0)) (fun g => st.1 g = true) q m f ↔ sy_by (syP P (P 0)) (inR g0 sz0) q m f := fun m => by
    constructor
    · rintro ⟨a1, a2, a3, a4, a5⟩
      exact ⟨a1, a2, a3, a4, fun k hk => (hg _ ((hS q m a1 a2 a3).2 k hk)).mp (a5 k hk)⟩
    · rintro ⟨a1, a2, a3, a4, a5⟩
      exact ⟨a1, a2, a3, a4, fun k hk => (hg _ ((hS q m a1 a2 a3).2 k hk)).mpr (a5 k hk)⟩
  show rnF (syP P (P 0)) st.1 q f = true ↔ _
  unfold rnF
  by_cases z : f < 750 ∧ (st.1 f = true ∨ ∃ n, sy_by (syP P (P 0)) (fun g => st.1 g = true) q n f)
  · rw [iF_p z]
    refine ⟨fun _ => z.2.elim (fun w => Or.inl ((hg f f7).mp w)) (fun ⟨m, w⟩ => Or.inr ⟨m, (hb m).mp w⟩), fun _ => rfl⟩
  · rw [iF_n z]
    refine ⟨fun w => absurd w (by decide), fun w => absurd ⟨f7, w.elim (fun w => Or.inl ((hg f f7).mpr w)) (fun ⟨m, w⟩ => Or.inr ⟨m, (hb m).mpr w⟩)⟩ z⟩
abbrev ppX (cg0 : sg_T) (P : Nat → Int32) (t n N : Nat) (fn : Nat → Option Nat) (cx : cx_T) (e : Nat) : Prop := ∀ (cg : sg_T) (st : rs_T) (d i o : Nat) (vi vo : Int32), 30 + 4 * e ≤ d → o + e = 7 → vi = nI i → vo = nI o → gd (bA P t) i o 0 → plI cg0 t n N cg st → am_Met mi_X9_playPieces d 0 0 [.ref 90, .int vi, .int vo] (hc cg fn cx) (fun r' h' => r' = none ∧ ∃ cg', h' = hc cg' fn cx ∧ plI cg0 t n N cg' (taS (syP P (P 0)) N (bA P t) e i st))
theorem c_pt_n {cg0 : sg_T} {fn : Nat → Option Nat} {cx : cx_T} {P : Nat → Int32} {t n R C n0 N : Nat} (hT : plT cg0 P t n R C n0) {d kc ks i o : Nat} {vi ve vo v4 v5 v6 z v8 : Int32} {cg : sg_T} {st2 : rs_T} {m : Nat} {Qp : Option Value → am_H → Prop} (hd : 2 ≤ d) (hve : ve = nI (btE (bA P t) i)) (hg : gd (bA P t) i o 0) (hI : plI cg0 t n N cg st2) (h8 : v8 = nI m) (m7 : m ≤ 750) (K : ∀ (b : Bool) (vb : Int32), vb = bI b → (b = true ↔ ((bA P t) ((btE (bA P t) i) - 1) = 42 ∧ m < cnN st2.1 750)) → am_W mi_X9_playTry d Qp kc ks 25 [some (.ref 90), some (.int vi), some (.int ve), some (.int vo), some (.int v4), some (.int v5), some (.int vb), some (.int (z + 1)), some (.int v8)] [] (hc cg fn cx)) : am_W mi_X9_playTry d Qp kc ks 135 [some (.ref 90), some (.int vi), some (.int ve), some (.int vo), some (.int v4), some (.int v5), some (.int v6), some (.int z), some (.int v8)] [] (hc cg fn cx) := by
  refine am_go ok_X9_playTry [25] 77 ?_
  have n1 := hT.2.2.2.2.2.1
  obtain ⟨-, -, ib, bn⟩ := bt_ok hT.2.2.2.2.2 hg
  obtain ⟨es, s7⟩ := hI.sz
  refine ⟨_, rfl, d - 1, 0, 0, _, by omega, Nat.le_of_ble_eq_true rfl, Nat.le_of_ble_eq_true rfl, Nat.le_of_ble_eq_true rfl, c_signAt (i := (btE (bA P t) i) - 1) hT hI (d - 1) (by rw [hve]; exact pk_sub (b := 1) (by omega)) (by omega), ?_⟩
  rintro _ _ ⟨rfl, rfl⟩
  refine ⟨Or.inl rfl, ?_⟩
  refine ⟨fun c144 => ?_, fun c144 => ?_⟩
  · have q : ¬ bA P t (btE (bA P t) i - 1) = 42 := fun w => c144 ((snC_e hT.2.2.2.2.2 (by decide) (by decide)).mpr w)
    first
    | exact K true 1 rfl ⟨fun _ => ⟨q, q2⟩, fun _ => rfl⟩
    | exact K false 0 rfl ⟨fun w => absurd w (by decide), fun w => absurd w.2 q2⟩
    | exact K false 0 rfl ⟨fun w => absurd w (by decide), fun w => absurd w.1 q⟩
  · have q : bA P t (btE (bA P t) i - 1) = 42 := (snC_e hT.2.2.2.2.2 (by decide) (by decide)).mp c144
    refine ⟨_, _, rfl, rfl, ?_⟩
    refine ⟨_, _, rfl, rfl, ?_⟩
    rw [es]
    refine ⟨fun c156 => ?_, fun c156 => ?_⟩
    · have q2 : ¬ m < cnN st2.1 750 := fun w => absurd (by rw [h8] at c156; exact (nI_leI (by omega) (by omega)).mp c156) (by omega)
      first
      | exact K true 1 rfl ⟨fun _ => ⟨q, q2⟩, fun _ => rfl⟩
      | exact K false 0 rfl ⟨fun w => absurd w (by decide), fun w => absurd w.2 q2⟩
      | exact K false 0 rfl ⟨fun w => absurd w (by decide), fun w => absurd w.1 q⟩
    · have q2 : m < cnN st2.1 750 := by
        rcases Nat.lt_or_ge m (cnN st2.1 750) with w | w
        · exact w
        · exact absurd (by rw [h8]; exact (nI_leI (by omega) (by omega)).mpr w) c156
      first
      | exact K true 1 rfl ⟨fun _ => ⟨q, q2⟩, fun _ => rfl⟩
      | exact K false 0 rfl ⟨fun w => absurd w (by decide), fun w => absurd w.2 q2⟩
      | exact K false 0 rfl ⟨fun w => absurd w (by decide), fun w => absurd w.1 q⟩
theorem c_pt_x {cg0 cg : sg_T} {fn : Nat → Option Nat} {cx : cx_T} {t n N d kc ks : Nat} {st0 fin : rs_T} {vi ve vo v4 v5 v6 z : Int32} {t8 : Option Value} (hI : plI cg0 t n N cg fin) (hL : leF st0.1 fin.1) (h4 : v4 = nI (cnN st0.1 750)) : am_W mi_X9_playTry d (fun r' h' => ∃ b, r' = some (.int (bI b)) ∧ (b = true ↔ grw st0.1 fin.1) ∧ ∃ cg', h' = hc cg' fn cx ∧ plI cg0 t n N cg' fin) kc ks 172 [some (.ref 90), some (.int vi), some (.int ve), some (.int vo), some (.int v4), some (.int v5), some (.int v6), some (.int z), t8] [] (hc cg fn cx) := by
  refine am_go ok_X9_playTry [] 67 ?_
  obtain ⟨es, s7⟩ := hI.sz
  have s0 := cnN_le st0.1 750
  refine ⟨_, _, rfl, rfl, ?_⟩
  refine ⟨_, _, rfl, rfl, ?_⟩
  rw [es]
  refine ⟨fun c181 => ?_, fun c181 => ?_⟩
  · have q : ¬ grw st0.1 fin.1 := fun w => absurd (by rw [h4] at c181; exact (nI_leI (by omega) (by omega)).mp c181) (by have := (grw_cn hL).mp w; omega)
    refine ⟨rfl, ?_⟩
    first
    | exact ⟨true, rfl, ⟨fun _ => q, fun _ => rfl⟩, cg, rfl, hI⟩
    | exact ⟨false, rfl, ⟨fun w => absurd w (by decide), fun w => absurd w q⟩, cg, rfl, hI⟩
  · have q : grw st0.1 fin.1 := (grw_cn hL).mpr (by
      rcases Nat.lt_or_ge (cnN st0.1 750) (cnN fin.1 750) with w | w
      · exact w
      · exact absurd (by rw [h4]; exact (nI_leI (by omega) (by omega)).mpr w) c181)
    refine ⟨rfl, ?_⟩
    first
    | exact ⟨true, rfl, ⟨fun _ => q, fun _ => rfl⟩, cg, rfl, hI⟩
    | exact ⟨false, rfl, ⟨fun w => absurd w (by decide), fun w => absurd w q⟩, cg, rfl, hI⟩
theorem c_pt_l {cg0 : sg_T} {fn : Nat → Option Nat} {cx : cx_T} {P : Nat → Int32} {t n R C n0 N e : Nat} (hT : plT cg0 P t n R C n0) (ih : ppX cg0 P t n N fn cx e) {d kc ks i o : Nat} {vi ve vo : Int32} (hd : 32 + 4 * e ≤ d) (ho : o + e = 6) (hv : vi = nI i) (hve : ve = nI (btE (bA P t) i)) (hvo : vo = nI o) (hg : gd (bA P t) i o 0) {v4 v5 : Int32} {st0 fin : rs_T} (h4 : v4 = nI (cnN st0.1 750)) (h5 : v5 = snC (bA P t) n i - 48) : ∀ (u k : Nat) (z vb : Int32) (b : Bool) (cg : sg_T) (st : rs_T) (t8 : Option Value), vb = bI b → z = nI k → plI cg0 t n N cg st → leF st0.1 st.1 → ((b = true ∧ srS (syP P (P 0)) N (bA P t) (taS (syP P (P 0)) N (bA P t) e) i (751 - k) st = fin) ∨ (b = false ∧ st = fin)) → k ≤ 751 → 751 < k + u → am_W mi_X9_playTry d (fun r' h' => ∃ b, r' = some (.int (bI b)) ∧ (b = true ↔ grw st0.1 fin.1) ∧ ∃ cg', h' = hc cg' fn cx ∧ plI cg0 t n N cg' fin) kc ks 25 [some (.ref 90), some (.int vi), some (.int ve), some (.int vo), some (.int v4), some (.int v5), some (.int vb), some (.int z), t8] [] (hc cg fn cx) := by
  intro u
  induction u with
  | zero => intro k z vb b cg st t8 hb hz hI hL hS h1 h2; exact absurd h2 (by omega)
  | succ u ih' =>
    intro k z vb b cg st t8 hb hz hI hL hS h1 h2
    refine am_go ok_X9_playTry [25, 135, 172] 103 ?_
    have n1 := hT.2.2.2.2.2.1
    obtain ⟨es, s7⟩ := hI.sz
    obtain ⟨hi, o', m', hdl, hg'⟩ := hT.2.2.2.2.2.nx hg (Or.inl rfl)
    have R8 := hT.2.1.2.1
    refine ⟨fun c30 => ?_, fun c30 => ?_⟩
    · have k1 : k = 751 := by rw [hz] at c30; have := (nI_ltI (a := 750) (by omega) (by omega)).mp c30; omega
      subst k1
      have ef : st = fin := hS.elim (fun w => w.2) (fun w => w.2)
      subst ef
      exact c_pt_x hI hL h4
    · have k1 : k ≤ 750 := by
        rcases Nat.lt_or_ge 750 k with w | w
        · exact absurd (by rw [hz]; exact (nI_ltI (a := 750) (by omega) (by omega)).mpr w) c30
        · exact w
      refine ⟨fun c35 => ?_, fun c35 => ?_⟩
      · have b0 : b = false := by rw [hb] at c35; exact bI_0.mp c35
        have ef : st = fin := hS.elim (fun w => absurd (b0.symm.trans w.1) (by decide)) (fun w => w.2)
        subst ef
        exact c_pt_x hI hL h4
      · have b0 : b = true := by rw [hb] at c35; cases b; exact absurd rfl c35; rfl
        have hF := hS.elim (fun w => w.2) (fun w => absurd (b0.symm.trans w.1) (by decide))
        have lw : lwF st.1 := hI.2.2.2.2.2.2.2.2.1
        obtain ⟨l1, -⟩ := onS_le (S := (syP P (P 0))) (N := N) (B := (bA P t)) (i := i) (taS_le (S := (syP P (P 0))) (N := N) (B := (bA P t)) e) lw
        refine ⟨_, _, rfl, rfl, ?_⟩
        refine ⟨_, _, rfl, rfl, ?_⟩
        rw [es]
        refine ⟨_, rfl, d - 1, 0, 0, _, by omega, Nat.le_of_ble_eq_true rfl, Nat.le_of_ble_eq_true rfl, Nat.le_of_ble_eq_true rfl, c_signAt hT hI (d - 1) hv (by omega), ?_⟩
        rintro _ _ ⟨rfl, rfl⟩
        refine ⟨Or.inl rfl, ?_⟩
        refine ⟨fun c54 => ?_, fun c54 => ?_⟩
        · have q : ¬ (bA P t) i = 40 := fun w => c54 ((snC_e hT.2.2.2.2.2 (by decide) (by decide)).mpr w)
          obtain ⟨c8, c9⟩ : 48 ≤ (bA P t) i ∧ (bA P t) i ≤ 55 := by
            rcases hdl with z | z | z | z | z
            · exact absurd z.2.1 q
            · exact z.2.1
            · omega
            · omega
            · omega
          obtain ⟨j, hj, j8⟩ := dg_of c8 c9
          have ej : v5 = nI j := by rw [h5, ← hj]; unfold snC; rw [if_pos hi]
          have eo : (onS (syP P (P 0)) N (bA P t) (taS (syP P (P 0)) N (bA P t) e) i st) = ruS (syP P (P 0)) N j st := by unfold onS; rw [iF_n q, cN_of hj (by omega)]
          obtain ⟨hF1, hw1, p2, p3, p4, p5, p6, p7, p8, sz0, g0, hk0, hf0⟩ := id hI
          have hBk := BR_fr hT.2.1 hT.1 (fun a ha => hF1 a (by omega))
          refine ⟨_, _, rfl, rfl, ?_⟩
          rw [p2]
          refine ⟨_, _, rfl, rfl, ?_⟩
          rw [p3]
          refine ⟨fun c84 => ?_, fun c84 => ?_⟩
          · have eN : st.2 = N := by have := (nI_leI (by omega) (by omega)).mp c84; omega
            have er : (onS (syP P (P 0)) N (bA P t) (taS (syP P (P 0)) N (bA P t) e) i st) = st := by rw [eo]; unfold ruS; rw [iF_n (fun w => w.2 eN)]
            have g := hI
            rw [← er] at g
            first
            | (refine c_pt_n hT (by omega) hve hg g rfl s7 (fun b' vb eb hb' => ?_)
               refine ih' (k + 1) _ vb b' cg2 _ _ eb (by rw [hz, nI_1]) g (hL.tr l1) ?_ (by omega) (by omega)
               rw [show 751 - (k + 1) = 750 - k by omega]
               rw [show 751 - k = 750 - k + 1 by omega, srS] at hF
               by_cases w : b' = true
               · obtain ⟨w1, w2⟩ := hb'.mp w
                 rw [iF_p ⟨w1, (grw_cn l1).mpr w2⟩] at hF
                 exact Or.inl ⟨w, hF⟩
               · rw [iF_n (fun y => w (hb'.mpr ⟨y.1, (grw_cn l1).mp y.2⟩))] at hF
                 exact Or.inr ⟨by cases b'; rfl; exact absurd rfl w, hF⟩)
            | (refine c_pt_n hT (by omega) hve hg g rfl s7 (fun b' vb eb hb' => ?_)
               refine ih' (k + 1) _ vb b' cg _ _ eb (by rw [hz, nI_1]) g (hL.tr l1) ?_ (by omega) (by omega)
               rw [show 751 - (k + 1) = 750 - k by omega]
               rw [show 751 - k = 750 - k + 1 by omega, srS] at hF
               by_cases w : b' = true
               · obtain ⟨w1, w2⟩ := hb'.mp w
                 rw [iF_p ⟨w1, (grw_cn l1).mpr w2⟩] at hF
                 exact Or.inl ⟨w, hF⟩
               · rw [iF_n (fun y => w (hb'.mpr ⟨y.1, (grw_cn l1).mp y.2⟩))] at hF
                 exact Or.inr ⟨by cases b'; rfl; exact absurd rfl w, hF⟩)
          · have eN : ¬ st.2 = N := fun w => c84 (by rw [w]; exact Int32.le_refl _)
            refine ⟨_, _, rfl, rfl, ?_⟩
            refine ⟨_, rfl, d - 1, 0, 0, _, by omega, Nat.le_of_ble_eq_true rfl, Nat.le_of_ble_eq_true rfl, Nat.le_of_ble_eq_true rfl, c_has (w := 1) (n := R) (d - 1) v5 rfl (by omega) ((hBk.c 1 (by omega)).trans hT.2.1.1) (by omega), ?_⟩
            rintro _ _ ⟨rfl, rfl⟩
            refine ⟨Or.inl rfl, ?_⟩
            refine ⟨fun c97 => ?_, fun c97 => ?_⟩
            · have nr : ¬ j < R := fun w => bI_f c97 (by rw [ej]; exact in_of w (by omega))
              have er : (onS (syP P (P 0)) N (bA P t) (taS (syP P (P 0)) N (bA P t) e) i st) = st := by rw [eo]; unfold ruS; rw [iF_n (fun w => nr (Nat.lt_of_lt_of_le w.1 (Nat.le_of_eq (pn_of hT.2.1.1 (by omega)))))]
              have g := hI
              rw [← er] at g
              first
              | (refine c_pt_n hT (by omega) hve hg g rfl s7 (fun b' vb eb hb' => ?_)
                 refine ih' (k + 1) _ vb b' cg2 _ _ eb (by rw [hz, nI_1]) g (hL.tr l1) ?_ (by omega) (by omega)
                 rw [show 751 - (k + 1) = 750 - k by omega]
                 rw [show 751 - k = 750 - k + 1 by omega, srS] at hF
                 by_cases w : b' = true
                 · obtain ⟨w1, w2⟩ := hb'.mp w
                   rw [iF_p ⟨w1, (grw_cn l1).mpr w2⟩] at hF
                   exact Or.inl ⟨w, hF⟩
                 · rw [iF_n (fun y => w (hb'.mpr ⟨y.1, (grw_cn l1).mp y.2⟩))] at hF
                   exact Or.inr ⟨by cases b'; rfl; exact absurd rfl w, hF⟩)
              | (refine c_pt_n hT (by omega) hve hg g rfl s7 (fun b' vb eb hb' => ?_)
                 refine ih' (k + 1) _ vb b' cg _ _ eb (by rw [hz, nI_1]) g (hL.tr l1) ?_ (by omega) (by omega)
                 rw [show 751 - (k + 1) = 750 - k by omega]
                 rw [show 751 - k = 750 - k + 1 by omega, srS] at hF
                 by_cases w : b' = true
                 · obtain ⟨w1, w2⟩ := hb'.mp w
                   rw [iF_p ⟨w1, (grw_cn l1).mpr w2⟩] at hF
                   exact Or.inl ⟨w, hF⟩
                 · rw [iF_n (fun y => w (hb'.mpr ⟨y.1, (grw_cn l1).mp y.2⟩))] at hF
                   exact Or.inr ⟨by cases b'; rfl; exact absurd rfl w, hF⟩)
            · have jr : j < R := by
                obtain ⟨j', e1, -, e3⟩ := ix_in (n := R) (by omega) (bI_t c97)
                rw [ej] at e1
                have := (nI_eq (by omega) (by omega)).mp e1
                omega
              refine ⟨_, _, rfl, rfl, ?_⟩
              rw [p2]
              refine ⟨_, rfl, Nat.le_of_ble_eq_true rfl, trivial, ?_⟩
              rw [hc_f90_2, nI_1]
              have hB1 : BR 1 (sg_u cg 90 2 (nI (st.2 + 1))) P := BR_fr hT.2.1 hBk (fun a ha => sg_i (by omega))
              have hk1 : tkC st.2 (sg_u cg 90 2 (nI (st.2 + 1))) sz0 g0 := by
                obtain ⟨u1, u2, c, u3, u4⟩ := hk0
                exact ⟨by rw [sg_i (by decide)]; exact u1, fun f f7 => by rw [sg_i (by decide)]; exact u2 f f7, c, rb_fr u3 (sg_i (by decide)) (sg_i (by decide)) (sg_i (by decide)), u4⟩
              refine ⟨_, _, rfl, rfl, ?_⟩
              refine ⟨_, _, rfl, rfl, ?_⟩
              refine ⟨_, _, rfl, rfl, ?_⟩
              refine ⟨_, _, rfl, rfl, ?_⟩
              refine ⟨_, _, 0, rfl, rfl, Nat.le_of_ble_eq_true rfl, Nat.le_of_ble_eq_true rfl, ?_⟩
              rw [hB1.c 0 (by omega)]
              refine ⟨_, rfl, d - 1, 0, 0, _, by omega, Nat.le_of_ble_eq_true rfl, Nat.le_of_ble_eq_true rfl, Nat.le_of_ble_eq_true rfl, c_textOn hB1 (d := d - 1) (by omega) (P 0) ej j8 hT.2.1.2.2.1 hT.2.1.2.2.2.1, ?_⟩
              rintro _ _ ⟨rfl, rfl⟩
              refine ⟨Or.inl rfl, ?_⟩
              refine ⟨_, rfl, d - 1, 0, 0, _, by omega, Nat.le_of_ble_eq_true rfl, Nat.le_of_ble_eq_true rfl, Nat.le_of_ble_eq_true rfl, c_useOnce (r := j) (dy := P 0) (M := st.2) (by omega) hT.2.1 hT.2.2.1 jr (by omega) (ct_rel (dy := P 0) hB1 hT.2.1 jr).2 (ct_rel (dy := P 0) hB1 hT.2.1 jr).1 (by rw [sg_i (by decide)]; exact hw1) hk1, ?_⟩
              rintro _ _ ⟨rfl, cg2, rfl, F2, w2, hO⟩
              refine ⟨Or.inl rfl, ?_⟩
              have g := pl_ru hT.2.1 hI jr eN hf0 rfl F2 w2 hO
              rw [← eo] at g
              first
              | (refine c_pt_n hT (by omega) hve hg g rfl s7 (fun b' vb eb hb' => ?_)
                 refine ih' (k + 1) _ vb b' cg2 _ _ eb (by rw [hz, nI_1]) g (hL.tr l1) ?_ (by omega) (by omega)
                 rw [show 751 - (k + 1) = 750 - k by omega]
                 rw [show 751 - k = 750 - k + 1 by omega, srS] at hF
                 by_cases w : b' = true
                 · obtain ⟨w1, w2⟩ := hb'.mp w
                   rw [iF_p ⟨w1, (grw_cn l1).mpr w2⟩] at hF
                   exact Or.inl ⟨w, hF⟩
                 · rw [iF_n (fun y => w (hb'.mpr ⟨y.1, (grw_cn l1).mp y.2⟩))] at hF
                   exact Or.inr ⟨by cases b'; rfl; exact absurd rfl w, hF⟩)
              | (refine c_pt_n hT (by omega) hve hg g rfl s7 (fun b' vb eb hb' => ?_)
                 refine ih' (k + 1) _ vb b' cg _ _ eb (by rw [hz, nI_1]) g (hL.tr l1) ?_ (by omega) (by omega)
                 rw [show 751 - (k + 1) = 750 - k by omega]
                 rw [show 751 - k = 750 - k + 1 by omega, srS] at hF
                 by_cases w : b' = true
                 · obtain ⟨w1, w2⟩ := hb'.mp w
                   rw [iF_p ⟨w1, (grw_cn l1).mpr w2⟩] at hF
                   exact Or.inl ⟨w, hF⟩
                 · rw [iF_n (fun y => w (hb'.mpr ⟨y.1, (grw_cn l1).mp y.2⟩))] at hF
                   exact Or.inr ⟨by cases b'; rfl; exact absurd rfl w, hF⟩)
        · have q : (bA P t) i = 40 := (snC_e hT.2.2.2.2.2 (by decide) (by decide)).mp c54
          have eo : (onS (syP P (P 0)) N (bA P t) (taS (syP P (P 0)) N (bA P t) e) i st) = (taS (syP P (P 0)) N (bA P t) e) (i + 1) st := by unfold onS; rw [iF_p q]
          obtain ⟨o6, e1, e2⟩ : o < 6 ∧ o' = o + 1 ∧ m' = 0 := by
            rcases hdl with z | z | z | z | z
            · omega
            · exact absurd z.2.1 (by rw [q]; decide)
            · omega
            · omega
            · omega
          subst e1; subst e2
          refine ⟨fun c60 => absurd c60 (by rw [hvo]; exact fun w => absurd ((nI_leI (a := 6) (by omega) (by omega)).mp w) (by omega)), fun _ => ?_⟩
          refine ⟨_, rfl, d - 1, 0, 0, _, by omega, Nat.le_of_ble_eq_true rfl, Nat.le_of_ble_eq_true rfl, Nat.le_of_ble_eq_true rfl, ih cg st (d - 1) (i + 1) (o + 1) _ _ (by omega) (by omega) (by rw [hv, nI_1]) (by rw [hvo, nI_1]) hg' hI, ?_⟩
          rintro _ _ ⟨rfl, cg2, rfl, g⟩
          refine ⟨Or.inl rfl, ?_⟩
          rw [← eo] at g
          first
          | (refine c_pt_n hT (by omega) hve hg g rfl s7 (fun b' vb eb hb' => ?_)
             refine ih' (k + 1) _ vb b' cg2 _ _ eb (by rw [hz, nI_1]) g (hL.tr l1) ?_ (by omega) (by omega)
             rw [show 751 - (k + 1) = 750 - k by omega]
             rw [show 751 - k = 750 - k + 1 by omega, srS] at hF
             by_cases w : b' = true
             · obtain ⟨w1, w2⟩ := hb'.mp w
               rw [iF_p ⟨w1, (grw_cn l1).mpr w2⟩] at hF
               exact Or.inl ⟨w, hF⟩
             · rw [iF_n (fun y => w (hb'.mpr ⟨y.1, (grw_cn l1).mp y.2⟩))] at hF
               exact Or.inr ⟨by cases b'; rfl; exact absurd rfl w, hF⟩)
          | (refine c_pt_n hT (by omega) hve hg g rfl s7 (fun b' vb eb hb' => ?_)
             refine ih' (k + 1) _ vb b' cg _ _ eb (by rw [hz, nI_1]) g (hL.tr l1) ?_ (by omega) (by omega)
             rw [show 751 - (k + 1) = 750 - k by omega]
             rw [show 751 - k = 750 - k + 1 by omega, srS] at hF
             by_cases w : b' = true
             · obtain ⟨w1, w2⟩ := hb'.mp w
               rw [iF_p ⟨w1, (grw_cn l1).mpr w2⟩] at hF
               exact Or.inl ⟨w, hF⟩
             · rw [iF_n (fun y => w (hb'.mpr ⟨y.1, (grw_cn l1).mp y.2⟩))] at hF
               exact Or.inr ⟨by cases b'; rfl; exact absurd rfl w, hF⟩)
theorem c_playTry {cg0 : sg_T} {fn : Nat → Option Nat} {cx : cx_T} {P : Nat → Int32} {t n R C n0 N e : Nat} (hT : plT cg0 P t n R C n0) (ih : ppX cg0 P t n N fn cx e) {d i o : Nat} {vi ve vo : Int32} (hd : 32 + 4 * e ≤ d) (ho : o + e = 6) (hv : vi = nI i) (hve : ve = nI (btE (bA P t) i)) (hvo : vo = nI o) (hg : gd (bA P t) i o 0) {cg : sg_T} {st0 : rs_T} (hI : plI cg0 t n N cg st0) : am_Met mi_X9_playTry d 0 0 [.ref 90, .int vi, .int ve, .int vo] (hc cg fn cx) (fun r' h' => ∃ b, r' = some (.int (bI b)) ∧ (b = true ↔ grw st0.1 (trS (syP P (P 0)) N (bA P t) (taS (syP P (P 0)) N (bA P t) e) i st0).1) ∧ ∃ cg', h' = hc cg' fn cx ∧ plI cg0 t n N cg' (trS (syP P (P 0)) N (bA P t) (taS (syP P (P 0)) N (bA P t) e) i st0)) := by
  refine am_Met.of rfl (Nat.le_of_ble_eq_true rfl) ?_
  refine am_go ok_X9_playTry [25] 74 ?_
  have n1 := hT.2.2.2.2.2.1
  obtain ⟨es, s7⟩ := hI.sz
  obtain ⟨hi, -⟩ := bt_ok hT.2.2.2.2.2 hg
  refine ⟨_, _, rfl, rfl, ?_⟩
  refine ⟨_, _, rfl, rfl, ?_⟩
  rw [es]
  refine ⟨_, rfl, d - 1, 0, 0, _, by omega, Nat.le_of_ble_eq_true rfl, Nat.le_of_ble_eq_true rfl, Nat.le_of_ble_eq_true rfl, c_signAt hT hI (d - 1) hv (by omega), ?_⟩
  rintro _ _ ⟨rfl, rfl⟩
  refine ⟨Or.inl rfl, ?_⟩
  exact c_pt_l hT ih hd ho hv hve hvo hg rfl rfl 752 0 0 1 true cg st0 none rfl rfl hI leF.rf (Or.inl ⟨rfl, rfl⟩) (by omega) (by omega)
theorem c_pp_n {cg0 : sg_T} {fn : Nat → Option Nat} {cx : cx_T} {P : Nat → Int32} {t n R C n0 N e : Nat} (hT : plT cg0 P t n R C n0) {d kc ks o : Nat} {vi vo : Int32} {fin : rs_T} (hd : 33 + 4 * e ≤ d) (ho : o + e = 6) (hvo : vo = nI o) {u k : Nat} (ihu : ∀ (k : Nat) (vk vh vt : Int32) (h : Bool) (cg : sg_T) (st : rs_T) (t6 : Option Value), vk = nI k → vh = bI h → vt = nI (120 - u) → plI cg0 t n N cg st → gd (bA P t) k o 0 → pcS (syP P (P 0)) N (bA P t) (taS (syP P (P 0)) N (bA P t) e) u k h st = fin → u ≤ 120 → k < n → n ≤ k + u → am_W mi_X9_playPieces d (fun r' h' => r' = none ∧ ∃ cg', h' = hc cg' fn cx ∧ plI cg0 t n N cg' fin) kc ks 8 [some (.ref 90), some (.int vi), some (.int vo), some (.int vk), some (.int vh), some (.int vt), t6] [] (hc cg fn cx)) {vk vh vt ve : Int32} {h : Bool} {cg : sg_T} {st : rs_T} (hve : ve = nI (btE (bA P t) k)) (hh : vh = bI h) (hvt : vt = nI (120 - (u + 1))) (u1 : u < 120) (hI : plI cg0 t n N cg st) (hg : gd (bA P t) k o 0) (hF1 : (bA P t) (btE (bA P t) k) = 124 → pcS (syP P (P 0)) N (bA P t) (taS (syP P (P 0)) N (bA P t) e) u ((btE (bA P t) k) + 1) h st = fin) (hF2 : (bA P t) (btE (bA P t) k) = 59 → pcS (syP P (P 0)) N (bA P t) (taS (syP P (P 0)) N (bA P t) e) u ((btE (bA P t) k) + 1) false st = fin) (hF3 : ¬ (bA P t) (btE (bA P t) k) = 124 → ¬ (bA P t) (btE (bA P t) k) = 59 → st = fin) (hu : n ≤ k + (u + 1)) : am_W mi_X9_playPieces d (fun r' h' => r' = none ∧ ∃ cg', h' = hc cg' fn cx ∧ plI cg0 t n N cg' fin) kc ks 45 [some (.ref 90), some (.int vi), some (.int vo), some (.int vk), some (.int vh), some (.int vt), some (.int ve)] [] (hc cg fn cx) := by
  refine am_go ok_X9_playPieces [8] 76 ?_
  have n1 := hT.2.2.2.2.2.1
  obtain ⟨hi, ⟨m, m1, gm, -⟩, ib, bn⟩ := bt_ok hT.2.2.2.2.2 hg
  have et : vt + 1 = nI (120 - u) := by rw [hvt, nI_1]; congr 1; omega
  refine ⟨_, rfl, d - 1, 0, 0, _, by omega, Nat.le_of_ble_eq_true rfl, Nat.le_of_ble_eq_true rfl, Nat.le_of_ble_eq_true rfl, c_signAt hT hI (d - 1) hve (by omega), ?_⟩
  rintro _ _ ⟨rfl, rfl⟩
  refine ⟨Or.inl rfl, ?_⟩
  refine ⟨fun c53 => ?_, fun c53 => ?_⟩
  · have q2 : ¬ (bA P t) (btE (bA P t) k) = 59 := fun w => c53 ((snC_e hT.2.2.2.2.2 (by decide) (by decide)).mpr w)
    refine ⟨_, rfl, d - 1, 0, 0, _, by omega, Nat.le_of_ble_eq_true rfl, Nat.le_of_ble_eq_true rfl, Nat.le_of_ble_eq_true rfl, c_signAt hT hI (d - 1) hve (by omega), ?_⟩
    rintro _ _ ⟨rfl, rfl⟩
    refine ⟨Or.inl rfl, ?_⟩
    refine ⟨fun c70 => ?_, fun c70 => ?_⟩
    · have q : (bA P t) (btE (bA P t) k) = 124 := (snC_e hT.2.2.2.2.2 (by decide) (by decide)).mp c70
      have gn : gd (bA P t) ((btE (bA P t) k) + 1) o 0 := ⟨o, m, gm, Or.inr (Or.inr (Or.inr (Or.inr ⟨m1, Or.inr q, rfl, rfl⟩)))⟩
      first
      | exact ihu ((btE (bA P t) k) + 1) _ _ _ false cg st _ (by rw [hve, nI_1]) rfl et hI gn (hF2 q) (by omega) (bt_ok hT.2.2.2.2.2 gn).1 (by omega)
      | exact ihu ((btE (bA P t) k) + 1) _ _ _ h cg st _ (by rw [hve, nI_1]) hh et hI gn (hF1 q) (by omega) (bt_ok hT.2.2.2.2.2 gn).1 (by omega)
    · have q1 : ¬ (bA P t) (btE (bA P t) k) = 124 := fun w => c70 ((snC_e hT.2.2.2.2.2 (by decide) (by decide)).mpr w)
      rw [← hF3 q1 q2]
      exact ⟨rfl, cg, rfl, hI⟩
  · have q : (bA P t) (btE (bA P t) k) = 59 := (snC_e hT.2.2.2.2.2 (by decide) (by decide)).mp c53
    have gn : gd (bA P t) ((btE (bA P t) k) + 1) o 0 := ⟨o, m, gm, Or.inr (Or.inr (Or.inr (Or.inr ⟨m1, Or.inl q, rfl, rfl⟩)))⟩
    first
    | exact ihu ((btE (bA P t) k) + 1) _ _ _ false cg st _ (by rw [hve, nI_1]) rfl et hI gn (hF2 q) (by omega) (bt_ok hT.2.2.2.2.2 gn).1 (by omega)
    | exact ihu ((btE (bA P t) k) + 1) _ _ _ h cg st _ (by rw [hve, nI_1]) hh et hI gn (hF1 q) (by omega) (bt_ok hT.2.2.2.2.2 gn).1 (by omega)
theorem c_pp_l {cg0 : sg_T} {fn : Nat → Option Nat} {cx : cx_T} {P : Nat → Int32} {t n R C n0 N e : Nat} (hT : plT cg0 P t n R C n0) (ih : ppX cg0 P t n N fn cx e) {d kc ks o : Nat} {vi vo : Int32} {fin : rs_T} (hd : 33 + 4 * e ≤ d) (ho : o + e = 6) (hvo : vo = nI o) : ∀ (u : Nat), ∀ (k : Nat) (vk vh vt : Int32) (h : Bool) (cg : sg_T) (st : rs_T) (t6 : Option Value), vk = nI k → vh = bI h → vt = nI (120 - u) → plI cg0 t n N cg st → gd (bA P t) k o 0 → pcS (syP P (P 0)) N (bA P t) (taS (syP P (P 0)) N (bA P t) e) u k h st = fin → u ≤ 120 → k < n → n ≤ k + u → am_W mi_X9_playPieces d (fun r' h' => r' = none ∧ ∃ cg', h' = hc cg' fn cx ∧ plI cg0 t n N cg' fin) kc ks 8 [some (.ref 90), some (.int vi), some (.int vo), some (.int vk), some (.int vh), some (.int vt), t6] [] (hc cg fn cx) := by
  intro u
  induction u with
  | zero => intro k vk vh vt h cg st t6 hvk hh hvt hI hg hF u1 hk hu; exact absurd hu (by omega)
  | succ u ih' =>
    intro k vk vh vt h cg st t6 hvk hh hvt hI hg hF u1 hk hu
    refine am_go ok_X9_playPieces [8, 45] 79 ?_
    have n1 := hT.2.2.2.2.2.1
    refine ⟨fun c12 => absurd c12 (by rw [hvt]; exact fun w => absurd ((nI_leI (a := 120) (by omega) (by omega)).mp w) (by omega)), fun _ => ?_⟩
    refine ⟨_, _, rfl, rfl, ?_⟩
    rw [hI.2.2.2.2.2.1]
    refine ⟨fun c20 => absurd c20 (by rw [hvk]; exact fun w => absurd ((nI_leI (by omega) (by omega)).mp w) (by omega)), fun _ => ?_⟩
    refine ⟨_, rfl, d - 1, 0, 0, _, by omega, Nat.le_of_ble_eq_true rfl, Nat.le_of_ble_eq_true rfl, Nat.le_of_ble_eq_true rfl, c_endOfTry hT hI (d := d - 1) (by omega) hvk hg, ?_⟩
    rintro _ _ ⟨rfl, rfl⟩
    refine ⟨Or.inl rfl, ?_⟩
    refine ⟨fun c32 => ?_, fun c32 => ?_⟩
    · have h0 : h = true := by rw [hh] at c32; cases h; exact absurd rfl c32; rfl
      subst h0
      obtain ⟨f1, f2, f3⟩ := pc_1 (st' := st) (iF_p rfl) hF
      first
      | exact c_pp_n hT hd ho hvo ih' rfl hh hvt (by omega) hI hg (fun q => f1 q) f2 f3 hu
      | exact c_pp_n hT hd ho hvo ih' rfl rfl hvt (by omega) g hg (fun q => f1 q) f2 f3 hu
    · have h0 : h = false := by rw [hh] at c32; cases h; rfl; exact absurd c32 (by decide)
      subst h0
      refine ⟨_, rfl, d - 1, 0, 0, _, by omega, Nat.le_of_ble_eq_true rfl, Nat.le_of_ble_eq_true rfl, Nat.le_of_ble_eq_true rfl, c_playTry hT ih (d := d - 1) (by omega) ho hvk rfl hvo hg hI, ?_⟩
      rintro _ _ ⟨b, rfl, hb, cg2, rfl, g⟩
      refine ⟨Or.inl rfl, ?_⟩
      obtain ⟨f1, f2, f3⟩ := pc_1 (st' := (trS (syP P (P 0)) N (bA P t) (taS (syP P (P 0)) N (bA P t) e) k st)) (iF_n (by decide)) hF
      rw [show (false || gwB st.1 (trS (syP P (P 0)) N (bA P t) (taS (syP P (P 0)) N (bA P t) e) k st).1) = b by rw [← gw_e hb]; rfl] at f1
      first
      | exact c_pp_n hT hd ho hvo ih' rfl hh hvt (by omega) hI hg (fun q => f1 q) f2 f3 hu
      | exact c_pp_n hT hd ho hvo ih' rfl rfl hvt (by omega) g hg (fun q => f1 q) f2 f3 hu
theorem c_pp_s {cg0 : sg_T} {fn : Nat → Option Nat} {cx : cx_T} {P : Nat → Int32} {t n R C n0 N e : Nat} (hT : plT cg0 P t n R C n0) (ih : ppX cg0 P t n N fn cx e) : ppX cg0 P t n N fn cx (e + 1) := by
  intro cg st d i o vi vo hd ho hv hvo hg hI
  refine am_Met.of rfl (Nat.le_of_ble_eq_true rfl) ?_
  refine am_go ok_X9_playPieces [8] 66 ?_
  have n1 := hT.2.2.2.2.2.1
  exact c_pp_l hT ih (by omega) (by omega) hvo 120 i vi _ _ false cg st none hv rfl rfl hI hg rfl (by omega) (bt_ok hT.2.2.2.2.2 hg).1 (by omega)
theorem c_pp {cg0 : sg_T} {fn : Nat → Option Nat} {cx : cx_T} {P : Nat → Int32} {t n R C n0 N : Nat} (hT : plT cg0 P t n R C n0) : ∀ e, ppX cg0 P t n N fn cx e
  | 0 => fun cg st d i o vi vo hd ho hv hvo hg hI => absurd (gd_6 hg).1 (by omega)
  | e + 1 => c_pp_s hT (c_pp hT e)
theorem baX_P {P : Nat → Int32} {n f : Nat} (h3 : P 3 = nI n) (n20 : n ≤ 20) : baX P n (tpX P) f ↔ baP P n f := by
  constructor
  · rintro ⟨k, k1, k2, k3⟩; exact ⟨k, k1, (tp_x h3 n20 k k1).mpr k2, k3⟩
  · rintro ⟨k, k1, k2, k3⟩; exact ⟨k, k1, (tp_x h3 n20 k k1).mp k2, k3⟩
theorem c_play {cg0 : sg_T} {fn : Nat → Option Nat} {cx : cx_T} {P : Nat → Int32} {t n R C n0 N d : Nat} {vt vn : Int32} (hT : plT cg0 P t n R C n0) (hd : 70 ≤ d) (hw : wvP (cg0 89)) (hr : rI cg0) (hvt : vt = nI t) (hvn : vn = nI N) (N2 : N ≤ 200) : am_Met mi_X9_play d 0 0 [.ref 90, .int vt, .int vn] (hc cg0 fn cx) (fun r' h' => r' = none ∧ ∃ cg', h' = hc cg' fn cx ∧ plI cg0 t n N cg' (rnE P t N)) := by
  refine am_Met.of rfl (Nat.le_of_ble_eq_true rfl) ?_
  refine am_go ok_X9_play [] 93 ?_
  have t6 := hT.2.2.2.1
  have hW := hT.2.1
  have w3 := hW.2.2.2.2.2.2.1
  have n20 := hW.2.2.2.2.2.2.2.1
  have p3 := pn_of w3 (by omega)
  refine ⟨_, _, rfl, rfl, ?_⟩
  refine ⟨_, _, rfl, rfl, ?_⟩
  refine ⟨_, _, rfl, rfl, ?_⟩
  rw [hT.1.tp]
  refine ⟨_, rfl, d - 1, 0, 0, _, by omega, Nat.le_of_ble_eq_true rfl, Nat.le_of_ble_eq_true rfl, Nat.le_of_ble_eq_true rfl, c_begin (md := false) hT.1 (d := d - 1) w3 n20 hW.2.2.2.2.2.2.2.2.1 (by omega) hr, ?_⟩
  rintro _ _ ⟨rfl, cg1, rfl, F1, I1⟩
  refine ⟨Or.inl rfl, ?_⟩
  obtain ⟨i5, i7, sz, g, c, hB, hi, hcc⟩ := I1
  refine ⟨_, _, rfl, rfl, ?_⟩
  refine ⟨_, rfl, d - 1, 0, 0, _, by omega, Nat.le_of_ble_eq_true rfl, Nat.le_of_ble_eq_true rfl, Nat.le_of_ble_eq_true rfl, c_settleFrom (pl := 0) (d - 1) hB rfl (by omega), ?_⟩
  rintro _ _ ⟨rfl, cg2, rfl, F2, S2⟩
  refine ⟨Or.inl rfl, ?_⟩
  refine ⟨_, rfl, Nat.le_of_ble_eq_true rfl, trivial, ?_⟩
  rw [hc_f90_2]
  refine ⟨_, rfl, Nat.le_of_ble_eq_true rfl, trivial, ?_⟩
  rw [hc_f90_3]
  refine ⟨_, rfl, Nat.le_of_ble_eq_true rfl, trivial, ?_⟩
  rw [hc_f90_4]
  refine ⟨_, _, rfl, rfl, ?_⟩
  refine ⟨_, _, rfl, rfl, ?_⟩
  refine ⟨_, _, t, rfl, hvt, by omega, Nat.le_of_ble_eq_true rfl, ?_⟩
  rw [sg_i (by decide), sg_i (by decide), sg_i (by decide), F2 15 (by decide), F1 15 (by decide) (by decide) (by decide) (by decide), hT.1.az t t6, hT.2.2.2.2.1]
  refine ⟨_, rfl, Nat.le_of_ble_eq_true rfl, trivial, ?_⟩
  rw [hc_f90_5]
  have et : vt * 120 = nI (120 * t) := by rw [hvt, Nat.mul_comm]; exact pk_mul t 120
  rw [et, hvn]
  have hst : plI cg0 t n N (sg_u (sg_u (sg_u (sg_u cg2 90 2 0) 90 3 (nI N)) 90 4 (nI (120 * t))) 90 5 (nI n)) (baF P n0, 0) := by
    refine ⟨fun a ha => by rw [sg_i (by omega), sg_i (by omega), sg_i (by omega), sg_i (by omega), F2 a (by omega), F1 a (by omega) (by omega) (by omega) (by omega)], by rw [sg_i (by decide), sg_i (by decide), sg_i (by decide), sg_i (by decide), F2 89 (by decide), F1 89 (by decide) (by decide) (by decide) (by decide)]; exact hw, by rw [sg_j (by decide), sg_j (by decide), sg_j (by decide), sg_s]; rfl, by rw [sg_j (by decide), sg_j (by decide), sg_s], by rw [sg_j (by decide), sg_s], by rw [sg_s], Nat.zero_le _, N2, fun f hf => ?_, sz, g, ⟨by rw [sg_i (by decide), sg_i (by decide), sg_i (by decide), sg_i (by decide), F2 84 (by decide)]; exact i5, fun f f7 => ?_, c, rb_fr hB ?_ ?_ ?_, fun a ha => by rw [hcc a ha]; exact Nat.le_refl _⟩, fun f f7 => ?_⟩
    · cases e : baF P n0 f with
      | false => exact e
      | true => exact absurd (baF_t.mp e).1 (by omega)
    · rw [sg_i (by decide), sg_i (by decide), sg_i (by decide), sg_i (by decide)]
      constructor
      · rintro ⟨j, j1, j2⟩; exact (S2 f).1 ⟨j, by omega, j1, j2⟩
      · intro hn
        rw [(S2 f).2 (fun ⟨j, _, j1, j2⟩ => hn ⟨j, j1, j2⟩)]; exact i7 f f7
    · rw [sg_i (by decide), sg_i (by decide), sg_i (by decide), sg_i (by decide), F2 84 (by decide)]
    · rw [sg_i (by decide), sg_i (by decide), sg_i (by decide), sg_i (by decide), F2 85 (by decide)]
    · rw [sg_i (by decide), sg_i (by decide), sg_i (by decide), sg_i (by decide), F2 86 (by decide)]
    · show baF P n0 f = true ↔ _
      rw [baF_t, hi f f7, baX_P w3 n20]; exact ⟨fun w => w.2, fun w => ⟨f7, w⟩⟩
  refine ⟨_, rfl, d - 1, 0, 0, _, by omega, Nat.le_of_ble_eq_true rfl, Nat.le_of_ble_eq_true rfl, Nat.le_of_ble_eq_true rfl, c_pp hT 7 _ (baF P n0, 0) (d - 1) 0 0 _ _ (by omega) (by omega) rfl rfl ⟨rfl, rfl⟩ hst, ?_⟩
  rintro _ _ ⟨rfl, cg3, rfl, g3⟩
  refine ⟨Or.inl rfl, ?_⟩
  refine ⟨rfl, cg3, rfl, ?_⟩
  unfold rnE
  rw [p3]
  exact g3
