/-! the system that is in force on a DAY, out of the reference's numbers -/
def okX (P : Nat → Int32) (x : Nat) : Prop := (∃ n, 1 ≤ n ∧ n ≤ 3 ∧ P x = nI n) ∧ (∃ m, m ≤ 4 ∧ P (x + 1) = nI m) ∧ (∀ k, k < pn P x → okT P (x + 2 + 4 * k)) ∧ okT P (x + 26) ∧ ∀ k, k < pn P (x + 1) → okA (P (x + 14 + 3 * k)) ∧ okA (P (x + 16 + 3 * k))
def syP (P : Nat → Int32) (dy : Int32) : sy_T := (pn P 1, fun r n => plN (tlF P (txX P r dy) (pn P (txX P r dy))) (Lm n) 4 && thN P (Lm n) (txX P r dy) (pn P (txX P r dy + 1)), fun r => pn P (txX P r dy), fun r n k => faN P (Lm n) (txX P r dy + 2 + 4 * k), fun r n => faN P (Lm n) (txX P r dy + 26))
/-- what the numbers must be for that -/
def wkP (P : Nat → Int32) (dy : Int32) (R C n : Nat) : Prop := P 1 = nI R ∧ R ≤ 8 ∧ P 2 = nI C ∧ C ≤ 12 ∧ (∀ r, r < 8 → ∃ t, t < 20 ∧ P (10 + r) = nI t) ∧ (∀ c, c < C → ∃ t, t < 20 ∧ P (42 + c) = nI t) ∧ P 3 = nI n ∧ n ≤ 20 ∧ (∀ k, k < n → ∃ f, f < 750 ∧ P (54 + k) = nI f) ∧ ∀ r, r < R → okX P (txX P r dy)
theorem txN_lt {P : Nat → Int32} {C r : Nat} {dy : Int32} (hr : r < 8) (hC : P 2 = nI C) (hC12 : C ≤ 12) (ht : ∀ r, r < 8 → ∃ t, t < 20 ∧ P (10 + r) = nI t) (hc : ∀ c, c < C → ∃ t, t < 20 ∧ P (42 + c) = nI t) : txN P r dy < 20 := by
  unfold txN
  split
  · obtain ⟨t, h1, h2⟩ := ht r hr
    rw [h2, nI_clamp (by omega)]; exact h1
  · rename_i c e
    have := chF_lt e
    rw [hC, nI_clamp (by omega)] at this
    obtain ⟨t, h1, h2⟩ := hc c this
    rw [h2, nI_clamp (by omega)]; exact h1
theorem syP_ok {P : Nat → Int32} {dy : Int32} {R C n : Nat} (h : wkP P dy R C n) : sy_ok (syP P dy) := by
  obtain ⟨h1, h2, -, -, -, -, -, -, -, hX⟩ := h
  intro r n hr hn hi
  have hr' : r < R := by
    have : pn P 1 = R := pn_of h1 (by omega)
    rw [← this]; exact hr
  obtain ⟨-, -, a3, a4, -⟩ := hX r hr'
  exact ⟨faN_lt (okL_Lm hn) a4, fun k hk => faN_lt (okL_Lm hn) (a3 k hk)⟩
def frW (sg sg' : sg_T) : Prop := ∀ a, a ≠ 3 → a ≠ 5 → sg' a = sg a
def mns (g : Nat → Int32) (f : Nat) : Bool := decide (g f = -1)
theorem cnt_dec {S : sy_T} {ba : Nat → Prop} {m : Nat} {g g' : Nat → Int32} (hm : m ≤ 750) (h : lvP S ba m g) (h' : mdP S ba m (sy_R S) 0 g') (he : ∃ f, f < 750 ∧ g' f = nI (m + 1)) : cnN (mns g') 750 < cnN (mns g) 750 := by
  obtain ⟨f, hf, e⟩ := he
  have old : ∀ k, k < 750 → ¬ hs S ba m k → g k = -1 := by
    intro k hk hn
    rcases h k hk with ⟨j, h1, h2, h3, -⟩ | ⟨h1, -⟩
    · exact absurd (hs_mono h1 h3) hn
    · exact h1
  refine cnN_lt (j := f) 750 (fun k hk hq => ?_) hf ?_ ?_
  · refine decide_eq_true (old k hk ?_)
    have hq := of_decide_eq_true hq
    rcases h' k hk with ⟨j, h1, h2, h3, -⟩ | ⟨h1, -⟩ | ⟨h1, -⟩
    · exact absurd (h2.symm.trans hq) (nI_m1 (by omega))
    · exact h1
    · exact h1
  · refine decide_eq_true (old f hf ?_)
    rcases h' f hf with ⟨j, h1, h2, h3, -⟩ | ⟨h1, -⟩ | ⟨h1, -⟩
    · exact absurd ((nI_eq (by omega) (by omega)).mp (h2.symm.trans e)) (by omega)
    · exact h1
    · exact h1
  · exact decide_eq_false (fun q => nI_m1 (m := m + 1) (by omega) (e.symm.trans q))
/-- grew, or didn't -/
def grP (m : Nat) (gr : Bool) (g : Nat → Int32) : Prop := (gr = false → ∀ f, f < 750 → ¬ g f = nI (m + 1)) ∧ (gr = true → ∃ f, f < 750 ∧ g f = nI (m + 1))
set_option maxHeartbeats 4000000 in
theorem m_works_i {sg0 : sg_T} {d kc ks : Nat} {Q : Option Value → am_H → Prop} (hd : 3 ≤ d) {dy : Int32} {R C n0 m : Nat} (hW : wkP (sg0 1) dy R C n0) (hm' : m ≤ 750) {z3 : Int32} (hz3 : z3 = nI (m + 1)) {r x : Nat} (hr : r < R) (hx : x = txX (sg0 1) r dy) {r4 v5 v6 : Int32} (h5 : v5 = nI x) (h6 : v6 = tlF (sg0 1) x (pn (sg0 1) x)) (K : ∀ (sg : sg_T) (gr : Bool) (z : Int32), frW sg0 sg → mdP (syP (sg0 1) dy) (baP (sg0 1) n0) m r 625 (sg 3) → grP m gr (sg 3) → am_W mi_X12_works d Q kc ks 17 [some (.ref 0), some (.int dy), some (.int (bI gr)), some (.int z3), some (.int (r4 + 1)), some (.int v5), some (.int v6), some (.int z)] [] (hm sg)) : ∀ (u n : Nat) (z : Int32) (gr : Bool) (sg : sg_T), z = nI n → frW sg0 sg → mdP (syP (sg0 1) dy) (baP (sg0 1) n0) m r n (sg 3) → grP m gr (sg 3) → n ≤ 625 → 625 < n + u → am_W mi_X12_works d Q kc ks 48 [some (.ref 0), some (.int dy), some (.int (bI gr)), some (.int z3), some (.int r4), some (.int v5), some (.int v6), some (.int z)] [] (hm sg) := by
  intro u
  induction u with
  | zero => intro n z gr sg hz hF hg hgr h1 h2; exact absurd h2 (by omega)
  | succ u ih =>
    intro n z gr sg hz hF hg hgr h1 h2
    refine am_go ok_X12_works [17, 48] 101 ?_
    refine ⟨fun c53 => ?_, fun c53 => ?_⟩
    · rw [hz] at c53
      have k1 : n = 625 := by have := (nI_leI (a := 625) (by omega) (by omega)).mp c53; omega
      subst k1
      exact K sg gr z hF hg hgr
    · have k1 : n < 625 := by
        rcases Nat.lt_or_ge n 625 with q | q
        · exact q
        · exact absurd (by rw [hz]; exact (nI_leI (a := 625) (by omega) (by omega)).mpr q) c53
      obtain ⟨w1, w2, w3, w4, w5, w6, w7, w8, w9, w10⟩ := id hW
      obtain ⟨⟨nt, n1, n3, ent⟩, ⟨ne, ne4, ene⟩, a3, a4, a5⟩ := w10 r hr
      rw [← hx] at ent ene a3 a4 a5
      have x20 : txN (sg0 1) r dy < 20 := txN_lt (by omega) w3 w4 w5 w6
      have xb : x + 30 ≤ 3228 := by rw [hx]; unfold txX; omega
      have p1 := pn_of ent (by omega)
      have p2 := pn_of ene (by omega)
      have eR : pn (sg0 1) 1 = R := pn_of w1 (by omega)
      have eP : sgL sg n 1 = sg0 1 := by rw [sgL_a (by decide)]; exact hF 1 (by decide) (by decide)
      have e3 : sgL sg n 3 = sg 3 := sgL_a (by decide)
      have hLm := okL_Lm k1
      have hS := syP_ok hW
      have ei : sy_i (syP (sg0 1) dy) r n = (plN v6 (Lm n) 4 && thN (sg0 1) (Lm n) x ne) := by
        show (plN (tlF (sg0 1) (txX (sg0 1) r dy) (pn (sg0 1) (txX (sg0 1) r dy))) (Lm n) 4 && thN (sg0 1) (Lm n) (txX (sg0 1) r dy) (pn (sg0 1) (txX (sg0 1) r dy + 1))) = _
        rw [← hx, ← h6, p2]
      have ebl : blB (sg 3) (sg0 1) (Lm n) x z3 nt = true ↔ ∀ k, k < sy_k (syP (sg0 1) dy) r → hs (syP (sg0 1) dy) (baP (sg0 1) n0) m (sy_t (syP (sg0 1) dy) r n k) := by
        rw [blB_iff]
        have ek : sy_k (syP (sg0 1) dy) r = nt := by show pn (sg0 1) (txX (sg0 1) r dy) = nt; rw [← hx, p1]
        rw [ek]
        have et : ∀ k, sy_t (syP (sg0 1) dy) r n k = faN (sg0 1) (Lm n) (x + 2 + 4 * k) := by intro k; rw [hx]; rfl
        constructor
        · intro h k hk
          rw [et]
          exact (mdP_b hg hm' (faN_lt hLm (a3 k (by omega)))).mp (by rw [← hz3]; exact h k hk)
        · intro h k hk
          have := (mdP_b hg hm' (faN_lt hLm (a3 k (by omega)))).mpr (by rw [← et]; exact h k hk)
          rw [← hz3] at this
          exact this
      have ee : sy_e (syP (sg0 1) dy) r n = faN (sg0 1) (Lm n) (x + 26) := by rw [hx]; rfl
      have le := faN_lt hLm a4
      refine ⟨_, rfl, d - 1, 0, 0, _, by omega, Nat.le_of_ble_eq_true rfl, Nat.le_of_ble_eq_true rfl, Nat.le_of_ble_eq_true rfl, m_sets (n := n) (d - 1) hz (by omega), ?_⟩
      rintro _ _ ⟨rfl, rfl⟩
      refine ⟨Or.inl rfl, ?_⟩
      refine ⟨_, rfl, d - 1, 0, 0, _, by omega, Nat.le_of_ble_eq_true rfl, Nat.le_of_ble_eq_true rfl, Nat.le_of_ble_eq_true rfl, m_isPlain (d - 1) hLm (sgL_L _ _), ?_⟩
      rintro _ _ ⟨rfl, rfl⟩
      refine ⟨Or.inl rfl, ?_⟩
      refine ⟨fun c68 => ?_, fun c68 => ?_⟩
      · have q1 := bI_0.mp c68
        exact ih (n + 1) _ gr _ (by rw [hz]; exact nI_1 n) (fun a a3 a5 => by rw [sgL_a a5]; exact hF a a3 a5) (by rw [sgL_a (show (3 : Nat) ≠ 5 by decide)]; exact mdP_n hg (fun f hf hby => absurd hby.2.2.1 (by rw [ei, q1]; exact Bool.false_ne_true))) (by rw [sgL_a (show (3 : Nat) ≠ 5 by decide)]; exact hgr) (by omega) (by omega)
      · refine ⟨_, rfl, d - 1, 0, 0, _, by omega, Nat.le_of_ble_eq_true rfl, Nat.le_of_ble_eq_true rfl, Nat.le_of_ble_eq_true rfl, m_areBelow (x := x) (n := nt) (L := Lm n) (by omega) h5 xb (by rw [eP]; exact ent) n3 (by rw [eP]; intro k hk; exact a3 k (by omega)) hLm (sgL_L _ _), ?_⟩
        rintro _ _ ⟨rfl, rfl⟩
        refine ⟨Or.inl rfl, ?_⟩
        rw [eP, e3]
        refine ⟨fun c78 => ?_, fun c78 => ?_⟩
        · have q1 := bI_0.mp c78
          exact ih (n + 1) _ gr _ (by rw [hz]; exact nI_1 n) (fun a a3 a5 => by rw [sgL_a a5]; exact hF a a3 a5) (by rw [sgL_a (show (3 : Nat) ≠ 5 by decide)]; exact mdP_n hg (fun f hf hby => absurd (ebl.mpr hby.2.2.2.2) (by rw [q1]; exact Bool.false_ne_true))) (by rw [sgL_a (show (3 : Nat) ≠ 5 by decide)]; exact hgr) (by omega) (by omega)
        · refine ⟨_, rfl, d - 1, 0, 0, _, by omega, Nat.le_of_ble_eq_true rfl, Nat.le_of_ble_eq_true rfl, Nat.le_of_ble_eq_true rfl, m_testsHold (x := x) (n := ne) (L := Lm n) (by omega) h5 xb (by rw [eP]; exact ene) ne4 (by rw [eP]; intro k hk; exact a5 k (by omega)) hLm (sgL_L _ _), ?_⟩
          rintro _ _ ⟨rfl, rfl⟩
          refine ⟨Or.inl rfl, ?_⟩
          rw [eP]
          refine ⟨fun c87 => ?_, fun c87 => ?_⟩
          · have q1 := bI_0.mp c87
            exact ih (n + 1) _ gr _ (by rw [hz]; exact nI_1 n) (fun a a3 a5 => by rw [sgL_a a5]; exact hF a a3 a5) (by rw [sgL_a (show (3 : Nat) ≠ 5 by decide)]; exact mdP_n hg (fun f hf hby => absurd hby.2.2.1 (by rw [ei, q1, Bool.and_false]; exact Bool.false_ne_true))) (by rw [sgL_a (show (3 : Nat) ≠ 5 by decide)]; exact hgr) (by omega) (by omega)
          · refine ⟨_, _, rfl, rfl, ?_⟩
            refine ⟨_, rfl, d - 1, 0, 0, _, by omega, Nat.le_of_ble_eq_true rfl, Nat.le_of_ble_eq_true rfl, Nat.le_of_ble_eq_true rfl, m_factAt (x := x + 26) (L := Lm n) (by omega) (by rw [h5]; exact nI_add x 26) (by omega) (by rw [eP]; exact a4) hLm (sgL_L _ _), ?_⟩
            rintro _ _ ⟨rfl, rfl⟩
            refine ⟨Or.inl rfl, ?_⟩
            rw [eP]
            refine ⟨_, _, (faN (sg0 1) (Lm n) (x + 26)), rfl, rfl, le, Nat.le_of_ble_eq_true rfl, ?_⟩
            rw [e3]
            refine ⟨fun c104 => ?_, fun c104 => ?_⟩
            · exact ih (n + 1) _ gr _ (by rw [hz]; exact nI_1 n) (fun a a3 a5 => by rw [sgL_a a5]; exact hF a a3 a5) (by rw [sgL_a (show (3 : Nat) ≠ 5 by decide)]; exact mdP_n hg (fun f hf hby => by rw [← hby.2.2.2.1, ee]; exact c104)) (by rw [sgL_a (show (3 : Nat) ≠ 5 by decide)]; exact hgr) (by omega) (by omega)
            · have cneg := i_nle c104
              refine ⟨_, _, rfl, rfl, ?_⟩
              refine ⟨_, rfl, d - 1, 0, 0, _, by omega, Nat.le_of_ble_eq_true rfl, Nat.le_of_ble_eq_true rfl, Nat.le_of_ble_eq_true rfl, m_factAt (x := x + 26) (L := Lm n) (by omega) (by rw [h5]; exact nI_add x 26) (by omega) (by rw [eP]; exact a4) hLm (sgL_L _ _), ?_⟩
              rintro _ _ ⟨rfl, rfl⟩
              refine ⟨Or.inl rfl, ?_⟩
              rw [eP]
              refine ⟨_, _, (faN (sg0 1) (Lm n) (x + 26)), rfl, rfl, le, Nat.le_of_ble_eq_true rfl, ?_⟩
              rw [hm_a3]
              have t1 : plN v6 (Lm n) 4 = true := by cases q : plN v6 (Lm n) 4 with
                | true => rfl
                | false => exact absurd (by rw [q]; rfl) c68
              have t2 : blB (sg 3) (sg0 1) (Lm n) x z3 nt = true := by cases q : blB (sg 3) (sg0 1) (Lm n) x z3 nt with
                | true => rfl
                | false => exact absurd (by rw [q]; rfl) c78
              have t3 : thN (sg0 1) (Lm n) x ne = true := by cases q : thN (sg0 1) (Lm n) x ne with
                | true => rfl
                | false => exact absurd (by rw [q]; rfl) c87
              have hby : sy_by (syP (sg0 1) dy) (hs (syP (sg0 1) dy) (baP (sg0 1) n0) m) r n (faN (sg0 1) (Lm n) (x + 26)) := ⟨by show r < pn (sg0 1) 1; rw [eR]; exact hr, k1, by rw [ei, t1, t3]; rfl, ee, ebl.mp t2⟩
              refine ih (n + 1) _ true _ (by rw [hz]; exact nI_1 n) (fun a b3 b5 => by rw [sg_i b3, sgL_a b5]; exact hF a b3 b5) ?_ ?_ (by omega) (by omega)
              · rw [sg_ii, e3, hz3]
                exact mdP_y hg hm' le hby cneg
              · rw [sg_ii, e3]
                exact ⟨fun q => (by cases q), fun _ => ⟨_, le, by rw [pk_us]; exact hz3⟩⟩
set_option maxHeartbeats 4000000 in
theorem m_works_m {sg0 : sg_T} {d kc ks : Nat} {Q : Option Value → am_H → Prop} (hd : 3 ≤ d) {dy : Int32} {R C n0 m : Nat} (hW : wkP (sg0 1) dy R C n0) (hm' : m ≤ 750) {z3 : Int32} (hz3 : z3 = nI (m + 1)) (K : ∀ (sg : sg_T) (gr : Bool) (t4 t5 t6 t7 : Option Value), frW sg0 sg → mdP (syP (sg0 1) dy) (baP (sg0 1) n0) m R 0 (sg 3) → grP m gr (sg 3) → am_W mi_X12_works d Q kc ks 8 [some (.ref 0), some (.int dy), some (.int (bI gr)), some (.int (z3 + 1)), t4, t5, t6, t7] [] (hm sg)) : ∀ (u r : Nat) (r4 : Int32) (gr : Bool) (sg : sg_T) (t5 t6 t7 : Option Value), r4 = nI r → frW sg0 sg → mdP (syP (sg0 1) dy) (baP (sg0 1) n0) m r 0 (sg 3) → grP m gr (sg 3) → r ≤ R → R < r + u → am_W mi_X12_works d Q kc ks 17 [some (.ref 0), some (.int dy), some (.int (bI gr)), some (.int z3), some (.int r4), t5, t6, t7] [] (hm sg) := by
  intro u
  induction u with
  | zero => intro r r4 gr sg t5 t6 t7 hz hF hg hgr h1 h2; exact absurd h2 (by omega)
  | succ u ih =>
    intro r r4 gr sg t5 t6 t7 hz hF hg hgr h1 h2
    refine am_go ok_X12_works [8, 48] 77 ?_
    obtain ⟨w1, w2, w3, w4, w5, w6, w7, w8, w9, w10⟩ := id hW
    have e1 : sg 1 = sg0 1 := hF 1 (by decide) (by decide)
    refine ⟨_, _, rfl, rfl, ?_⟩
    refine ⟨_, _, 1, rfl, rfl, Nat.le_of_ble_eq_true rfl, Nat.le_of_ble_eq_true rfl, ?_⟩
    rw [e1, w1]
    refine ⟨fun c25 => ?_, fun c25 => ?_⟩
    · rw [hz] at c25
      have k1 : r = R := by have := (nI_leI (by omega) (by omega)).mp c25; omega
      subst k1
      exact K sg gr (some (.int r4)) t5 t6 t7 hF hg hgr
    · have k1 : r < R := by
        rcases Nat.lt_or_ge r R with q | q
        · exact q
        · exact absurd (by rw [hz]; exact (nI_leI (by omega) (by omega)).mpr q) c25
      obtain ⟨⟨nt, n1, n3, ent⟩, -⟩ := w10 r k1
      have x20 : txN (sg0 1) r dy < 20 := txN_lt (by omega) w3 w4 w5 w6
      have xb : txX (sg0 1) r dy + 30 ≤ 3228 := by unfold txX; omega
      have p1 := pn_of ent (by omega)
      refine ⟨_, rfl, d - 1, 0, 0, _, by omega, Nat.le_of_ble_eq_true rfl, Nat.le_of_ble_eq_true rfl, Nat.le_of_ble_eq_true rfl, m_textOn (q := r) (n := C) (by omega) dy hz (by omega) (by rw [e1]; exact w3) w4 (by rw [e1]; exact w5) (by rw [e1]; exact w6), ?_⟩
      rintro _ _ ⟨rfl, rfl⟩
      refine ⟨Or.inl rfl, ?_⟩
      rw [e1]
      refine ⟨_, rfl, d - 1, 0, 0, _, by omega, Nat.le_of_ble_eq_true rfl, Nat.le_of_ble_eq_true rfl, Nat.le_of_ble_eq_true rfl, m_termLetters (x := txX (sg0 1) r dy) (n := nt) (by omega) rfl (by rw [e1]; exact ent) (by omega), ?_⟩
      rintro _ _ ⟨rfl, rfl⟩
      refine ⟨Or.inl rfl, ?_⟩
      rw [e1]
      exact m_works_i hd hW hm' hz3 k1 rfl rfl (by rw [p1]) (fun sg gr z hF hg hgr => ih (r + 1) _ gr sg _ _ _ (by rw [hz]; exact nI_1 r) hF (mdP_r hg) hgr (by omega) (by omega)) 626 0 0 gr sg rfl hF hg hgr (by omega) (by omega)
theorem m_works_x {sg0 : sg_T} {d kc ks : Nat} {dy : Int32} {n0 : Nat} {z : Int32} {t4 t5 t6 t7 : Option Value} {sg : sg_T} (hF : frW sg0 sg) (h : ∀ f, f < 750 → htIs (syP (sg0 1) dy) (baP (sg0 1) n0) f (sg 3 f)) : am_W mi_X12_works d (fun r h' => r = none ∧ ∃ sg, h' = hm sg ∧ frW sg0 sg ∧ ∀ f, f < 750 → htIs (syP (sg0 1) dy) (baP (sg0 1) n0) f (sg 3 f)) kc ks 8 [some (.ref 0), some (.int dy), some (.int 0), some (.int z), t4, t5, t6, t7] [] (hm sg) := by
  refine am_go ok_X12_works [8] 62 ?_
  refine ⟨fun _ => ?_, fun c9 => absurd rfl c9⟩
  exact ⟨rfl, sg, rfl, hF, h⟩
theorem m_works_o {sg0 : sg_T} {d kc ks : Nat} (hd : 3 ≤ d) {dy : Int32} {R C n0 : Nat} (hW : wkP (sg0 1) dy R C n0) : ∀ (u m : Nat) (z : Int32) (sg : sg_T) (t4 t5 t6 t7 : Option Value), z = nI (m + 1) → frW sg0 sg → lvP (syP (sg0 1) dy) (baP (sg0 1) n0) m (sg 3) → cnN (mns (sg 3)) 750 + m ≤ 750 → cnN (mns (sg 3)) 750 < u → am_W mi_X12_works d (fun r h' => r = none ∧ ∃ sg, h' = hm sg ∧ frW sg0 sg ∧ ∀ f, f < 750 → htIs (syP (sg0 1) dy) (baP (sg0 1) n0) f (sg 3 f)) kc ks 8 [some (.ref 0), some (.int dy), some (.int 1), some (.int z), t4, t5, t6, t7] [] (hm sg) := by
  intro u
  induction u with
  | zero => intro m z sg t4 t5 t6 t7 hz hF hl h1 h2; exact absurd h2 (by omega)
  | succ u ih =>
    intro m z sg t4 t5 t6 t7 hz hF hl h1 h2
    refine am_go ok_X12_works [17] 66 ?_
    refine ⟨fun c9 => absurd c9 (by decide), fun _ => ?_⟩
    have eR : sy_R (syP (sg0 1) dy) = R := by obtain ⟨w1, w2, -⟩ := id hW; exact pn_of w1 (by omega)
    refine m_works_m hd hW (by omega) hz (fun sg' gr t4 t5 t6 t7 hF' hg hgr => ?_) (R + 1) 0 0 false sg _ _ _ rfl hF (mdP_0 hl) ⟨fun _ f hf e => ?_, fun q => (by cases q)⟩ (by omega) (by omega)
    · rw [← eR] at hg
      cases gr with
      | false => exact m_works_x hF' (mdP_z (syP_ok hW) (by omega) hg (hgr.1 rfl))
      | true =>
        have := cnt_dec (by omega) hl hg (hgr.2 rfl)
        exact ih (m + 1) _ sg' _ _ _ _ (by rw [hz]; exact nI_1 (m + 1)) hF' (mdP_e hg) (by omega) (by omega)
    · rcases hl f hf with ⟨j, a1, a2, -⟩ | ⟨a1, -⟩
      · exact absurd ((nI_eq (by omega) (by omega)).mp (a2.symm.trans e)) (by omega)
      · exact nI_m1 (m := m + 1) (by omega) (e.symm.trans a1)
theorem am_W.mono {mi : am_MI} {d : Nat} {Q Q' : Option Value → am_H → Prop} {kc ks pc : Nat} {ls : am_L} {st : List Value} {h : am_H} (hQ : ∀ r h, Q r h → Q' r h) (hw : am_W mi d Q kc ks pc ls st h) : am_W mi d Q' kc ks pc ls st h := by
  intro p l e R s m args below meth c D tc ad ad0 h0 A H locs cells slots mc ms lsC hX hE hA hG hag hP hD hS hl T hT X
  obtain ⟨t, a1, o, b1, b2, ⟨⟨r, h', ad', c1, c2, c3⟩, c4⟩, b4⟩ := hw p l e R s m args below meth c D tc ad ad0 h0 A H locs cells slots mc ms lsC hX hE hA hG hag hP hD hS hl T hT X
  exact ⟨t, a1, o, b1, b2, ⟨⟨r, h', ad', c1, hQ _ _ c2, c3⟩, c4⟩, b4⟩
/-- sizes as they stand ahead of 'sizes' -/
def b4P (P : Nat → Int32) (n : Nat) (s : Nat → Int32) : Prop := ∀ f, f < 750 → (baP P n f ∧ s f = 1) ∨ (¬ baP P n f ∧ s f = 100000)
theorem m_works {sg0 : sg_T} {d : Nat} (hd : 4 ≤ d) {dy : Int32} {R C n0 : Nat} (hW : wkP (sg0 1) dy R C n0) : am_Met mi_X12_works d 0 0 [.ref 0, .int dy] (hm sg0) (fun r h' => r = none ∧ ∃ sg, h' = hm sg ∧ frM sg0 sg ∧ b4P (sg0 1) n0 (sg 4) ∧ ∀ f, f < 750 → htIs (syP (sg0 1) dy) (baP (sg0 1) n0) f (sg 3 f)) := by
  refine am_Met.of rfl (Nat.le_of_ble_eq_true rfl) ?_
  refine am_go ok_X12_works [8] 66 ?_
  refine ⟨_, rfl, d - 1, 0, 0, _, by omega, Nat.le_of_ble_eq_true rfl, Nat.le_of_ble_eq_true rfl, Nat.le_of_ble_eq_true rfl, m_begins (n := n0) (d - 1) hW.2.2.2.2.2.2.1 hW.2.2.2.2.2.2.2.1 hW.2.2.2.2.2.2.2.2.1, ?_⟩
  rintro _ _ ⟨rfl, sg, rfl, hF, hB⟩
  refine ⟨Or.inl rfl, ?_⟩
  have e1 : sg 1 = sg0 1 := hF 1 (by decide) (by decide) (by decide)
  have hl : lvP (syP (sg 1) dy) (baP (sg 1) n0) 0 (sg 3) := by
    rw [e1]
    intro f hf
    rcases hB f hf with ⟨b1, b2, -⟩ | ⟨b1, b2, -⟩
    · exact Or.inl ⟨0, Nat.le_refl _, b2, b1, fun i hi => absurd hi (by omega)⟩
    · exact Or.inr ⟨b2, b1⟩
  have := cnN_le (mns (sg 3)) 750
  refine am_W.mono ?_ (m_works_o (by omega) (by rw [e1]; exact hW) 751 0 1 sg _ _ _ _ rfl (fun _ _ _ => rfl) hl (by omega) (by omega))
  rintro _ _ ⟨rfl, sg', rfl, hF', hH⟩
  refine ⟨rfl, sg', rfl, fun a a3 a4 a5 => (hF' a a3 a5).trans (hF a a3 a4 a5), ?_, by rw [e1] at hH; exact hH⟩
  rw [hF' 4 (by decide) (by decide)]
  intro f hf
  rcases hB f hf with ⟨b1, -, b2⟩ | ⟨b1, -, b2⟩
  · exact Or.inl ⟨b1, b2⟩
  · exact Or.inr ⟨b1, b2⟩
theorem m_followsOn {sg0 : sg_T} {d : Nat} (hd : 5 ≤ d) {dy v : Int32} {R C n0 f : Nat} (hW : wkP (sg0 1) dy R C n0) (hv : v = nI f) (hf : f < 750) : am_Met mi_X12_followsOn d 0 0 [.ref 0, .int v, .int dy] (hm sg0) (fun r h' => ∃ sg b, r = some (.int (bI b)) ∧ h' = hm sg ∧ frM sg0 sg ∧ (b = true ↔ ∃ m, hs (syP (sg0 1) dy) (baP (sg0 1) n0) m f)) := by
  refine am_Met.of rfl (Nat.le_of_ble_eq_true rfl) ?_
  refine am_go ok_X12_followsOn [] 67 ?_
  refine ⟨_, rfl, d - 1, 0, 0, _, by omega, Nat.le_of_ble_eq_true rfl, Nat.le_of_ble_eq_true rfl, Nat.le_of_ble_eq_true rfl, m_works (n0 := n0) (by omega) hW, ?_⟩
  rintro _ _ ⟨rfl, sg, rfl, hF, -, hH⟩
  refine ⟨Or.inl rfl, ?_⟩
  have hh := hH f hf
  refine ⟨_, _, rfl, rfl, ?_⟩
  refine ⟨_, _, f, rfl, hv, hf, Nat.le_of_ble_eq_true rfl, ?_⟩
  refine ⟨fun c11 => ?_, fun c11 => ?_⟩
  · refine ⟨rfl, sg, false, rfl, rfl, hF, ⟨fun q => (by cases q), fun ⟨m, q⟩ => ?_⟩⟩
    rcases hh with ⟨j, j7, e, -⟩ | ⟨-, q2⟩
    · rw [e] at c11; exact absurd c11 (nI_pos (by omega))
    · exact absurd q (q2 m)
  · refine ⟨rfl, sg, true, rfl, rfl, hF, ⟨fun _ => ?_, fun _ => rfl⟩⟩
    rcases hh with ⟨j, -, -, e, -⟩ | ⟨e, -⟩
    · exact ⟨j, e⟩
    · rw [e] at c11; exact absurd (by decide) c11
