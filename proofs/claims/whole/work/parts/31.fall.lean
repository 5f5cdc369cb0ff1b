/-! what FALLS, what EVERY proof needs, the FEWEST -/
def flA (P : Nat → Int32) : Prop := ∀ k, k < 20 → P (94 + k) = 0 ∨ P (94 + k) = 1
def tpX (P : Nat → Int32) : Int32 := orB (trP P) (pn P 3)
def mnX (x : Int32) (k : Nat) : Int32 := x &&& ((1 <<< (nI k &&& 31)) ^^^ (-1))
theorem bq_mn {x : Int32} {k i : Nat} (hk : k < 32) (hi : i < 32) : bq (mnX x k) i = (bq x i && decide (¬ i = k)) := by
  unfold mnX
  rw [bq_and, bq_xor, bq_one hk hi, bq_m1 i hi]
  by_cases h : i = k <;> simp [h]
theorem bq_tp {P : Nat → Int32} {n i : Nat} (h : P 3 = nI n) (n20 : n ≤ 20) (hi : i < n) : bq (tpX P) i = trP P i := by
  unfold tpX
  rw [pn_of h (by omega), bq_orB (by omega) (by omega)]
  simp [hi]
def sdX (P : Nat → Int32) (x dy : Int32) (t : Nat) : Prop := tkD P (bq x) t = true ∨ rcP (syP P dy) (baX P (pn P 3) x) (pn P (1022 + t))
theorem sd_X {P P' : Nat → Int32} {R C n Q T t : Nat} {x dy v : Int32} (h : agF P P') (hW : wkA P R C n) (hA : pfA P R Q) (hT : ttA P Q T) (ht : t < T) (hx : ∀ k, k < n → (P' (94 + k) = 0 ↔ bq x k = true)) (hv : sdR P' dy t v) : (v = 0 ∧ ¬ sdX P x dy t) ∨ (0 < v ∧ sdX P x dy t) := by
  obtain ⟨b, hb, ev⟩ := hv
  have n20 := hW.2.2.2.2.2.2.2.1
  have e3 := pn_of hW.2.2.2.2.2.2.1 (by omega)
  have t10 := (tt_t hT ht).1
  rw [pn_F h (by omega), pn_F h (by omega), e3] at hb
  have hb2 : b = true ↔ rcP (syP P dy) (baX P (pn P 3) x) (pn P (1022 + t)) := by
    rw [e3]
    exact hb.trans (rc_eq (sy_eq_s (syP_F h hW)) (fun f => baX_F h n20 hx f))
  have hk : tkD P' (trP P') t = tkD P (bq x) t := tkD_F h hW hA hT ht (fun k hk => (by
    have := hx k hk
    cases e : bq x k
    · exact decide_eq_false (fun z => (by rw [this.mp z] at e; cases e))
    · exact decide_eq_true (this.mpr e)))
  rw [hk] at ev
  unfold sdX
  rw [← hb2]
  cases e1 : tkD P (bq x) t <;> cases e2 : b <;> rw [e1, e2] at ev <;> subst ev
  · exact Or.inl ⟨rfl, fun z => z.elim (fun z => (by cases z)) (fun z => (by cases z))⟩
  · exact Or.inr ⟨by decide, Or.inr rfl⟩
  · exact Or.inr ⟨by decide, Or.inl rfl⟩
  · exact Or.inr ⟨by decide, Or.inl rfl⟩
theorem fo_ex {α : Type} {p : α → Prop} : ∃ fo : α → Bool, ∀ x, fo x = true ↔ p x := ⟨fun x => @decide (p x) (Classical.propDecidable _), fun x => @decide_eq_true_iff _ (Classical.propDecidable _)⟩
theorem agF_r (P : Nat → Int32) : agF P P := fun _ _ => rfl
theorem agF_u {P : Nat → Int32} {k : Nat} {v : Int32} (hk : k < 20) : agF P (upd P (94 + k) v) := fun j hj => pk_un (by omega)
theorem up_b {P : Nat → Int32} {j : Nat} {v : Int32} (h : P j = 0) : upd (upd P j v) j 0 = P := by
  funext i
  unfold upd
  by_cases e : i = j
  · subst e; simp [h]
  · simp [e]
/-- one more is FALSE -/
theorem mn_x {P : Nat → Int32} {n k : Nat} (h3 : P 3 = nI n) (n20 : n ≤ 20) (hk : k < n) : ∀ i, i < n → (upd P (94 + k) 1 (94 + i) = 0 ↔ bq (mnX (tpX P) k) i = true) := by
  intro i hi
  rw [bq_mn (by omega) (by omega), bq_tp h3 n20 hi]
  by_cases e : i = k
  · subst e; rw [pk_us]; simp
  · rw [pk_un (by omega)]; simp [e]
theorem tp_x {P : Nat → Int32} {n : Nat} (h3 : P 3 = nI n) (n20 : n ≤ 20) : ∀ i, i < n → (P (94 + i) = 0 ↔ bq (tpX P) i = true) := by
  intro i hi
  rw [bq_tp h3 n20 hi]; simp
def sp_fall (P : Nat → Int32) (k v : Int32) : Prop := (¬ inI k 0 (P 3 - 1) ∧ v = -1) ∨ (inI k 0 (P 3 - 1) ∧ P (94 + cN k) = 1 ∧ v = -3) ∨ (inI k 0 (P 3 - 1) ∧ ¬ P (94 + cN k) = 1 ∧ ∃ g : Nat → Bool, (∀ t, t < pn P 5 → (g t = true ↔ sdX P (tpX P) (P 0) t ∧ ¬ sdX P (mnX (tpX P) (cN k)) (P 0) t)) ∧ v = orB g (pn P 5))
def sp_every (P : Nat → Int32) (f v : Int32) : Prop := (¬ inI f 0 749 ∧ v = -2) ∨ (inI f 0 749 ∧ ¬ rcP (syP P (P 0)) (baX P (pn P 3) (tpX P)) (cN f) ∧ v = -5) ∨ (inI f 0 749 ∧ rcP (syP P (P 0)) (baX P (pn P 3) (tpX P)) (cN f) ∧ ∃ g : Nat → Bool, (∀ k, k < pn P 3 → (g k = true ↔ P (94 + k) = 0 ∧ ¬ rcP (syP P (P 0)) (baX P (pn P 3) (mnX (tpX P) k)) (cN f))) ∧ v = orB g (pn P 3))
theorem m_fall_l {sg0 : sg_T} {d kc ks : Nat} (hd : 460 ≤ d) {R C n0 Q T k : Nat} {vk : Int32} (hW : wkA (sg0 1) R C n0) (hA : pfA (sg0 1) R Q) (hT : ttA (sg0 1) Q T) (hk : vk = nI k) (hkn : k < n0) (hk0 : sg0 1 (94 + k) = 0) {g : Nat → Bool} (hg : ∀ t, t < T → (g t = true ↔ sdX (sg0 1) (tpX (sg0 1)) (sg0 1 0) t ∧ ¬ sdX (sg0 1) (mnX (tpX (sg0 1)) k) (sg0 1 0) t)) : ∀ (u t : Nat) (w z : Int32) (t4 : Option Value) (sg : sg_T), z = nI t → frM sg0 sg → w = orB g t → t ≤ T → T < t + u → am_W mi_X12_fall d (mOut sg0 (orB g T) (sg0 1)) kc ks 30 [some (.ref 0), some (.int vk), some (.int w), some (.int z), t4] [] (hm sg) := by
  intro u
  induction u with
  | zero => intro t w z t4 sg ht fr hw h1 h2; exact absurd h2 (by omega)
  | succ u ih =>
    intro t w z t4 sg ht fr hw h1 h2
    refine am_go ok_X12_fall [30] 107 ?_
    have t10 := hT.2.1
    have e1 : sg 1 = sg0 1 := fr 1 (by decide) (by decide) (by decide)
    have n20 := hW.2.2.2.2.2.2.2.1
    have w3 := hW.2.2.2.2.2.2.1
    refine ⟨_, _, rfl, rfl, ?_⟩
    refine ⟨_, _, 5, rfl, rfl, Nat.le_of_ble_eq_true rfl, Nat.le_of_ble_eq_true rfl, ?_⟩
    rw [e1, hT.1]
    refine ⟨fun c37 => ?_, fun c37 => ?_⟩
    · rw [ht] at c37
      have k1 : t = T := by have := (nI_leI (by omega) (by omega)).mp c37; omega
      subst k1
      refine ⟨trivial, ?_⟩
      exact mOut_M fr hw
    · have k1 : t < T := by
        rcases Nat.lt_or_ge t T with q1 | q1
        · exact q1
        · exact absurd (by rw [ht]; exact (nI_leI (by omega) (by omega)).mpr q1) c37
      refine ⟨_, _, rfl, rfl, ?_⟩
      refine ⟨_, _, 0, rfl, rfl, Nat.le_of_ble_eq_true rfl, Nat.le_of_ble_eq_true rfl, ?_⟩
      refine ⟨_, rfl, d - 1, 0, 0, _, by omega, Nat.le_of_ble_eq_true rfl, Nat.le_of_ble_eq_true rfl, Nat.le_of_ble_eq_true rfl, m_standsOn (t := t) (Q := Q) (by omega) (by rw [e1]; exact hW) (by rw [e1]; exact hA) (by rw [e1]; exact hT) _ ht k1, ?_⟩
      rintro _ _ ⟨v1, s1, rfl, hv1, rfl, fs1⟩
      refine ⟨Or.inl rfl, ?_⟩
      rw [e1] at hv1
      have x1 := sd_X (agF_r _) hW hA hT k1 (tp_x w3 n20) hv1
      have f1 : frM sg0 s1 := frM_t fr fs1
      have g1 : s1 1 = sg0 1 := f1 1 (by decide) (by decide) (by decide)
      refine ⟨_, _, rfl, rfl, ?_⟩
      refine ⟨_, _, (94 + k), rfl, (by rw [hk]; exact nI_add 94 k), by omega, Nat.le_of_ble_eq_true rfl, ?_⟩
      rw [hm_a1]
      rw [sgP_u0, g1]
      have f2 : ∀ s2, frM (sgP s1 (upd (sg0 1) (94 + k) 1)) s2 → frM sg0 (sgP s2 (upd (s2 1) (94 + k) 0)) := fun s2 z a h3 h4 h5 => (by
        by_cases ea : a = 1
        · subst ea; rw [sgP_1, z 1 (by decide) (by decide) (by decide), sgP_1]; exact up_b hk0
        · rw [sgP_a ea, z a h3 h4 h5, sgP_a ea]; exact f1 a h3 h4 h5)
      refine ⟨fun c66 => ?_, fun c66 => ?_⟩
      · have x2 : ¬ sdX (sg0 1) (tpX (sg0 1)) (sg0 1 0) t := by
          rcases x1 with x1 | x1
          · exact x1.2
          · exact absurd x1.1 (i_len c66)
        have gt : g t = false := by cases e : g t; rfl; exact absurd ((hg t k1).mp e).1 x2
        refine ⟨_, _, rfl, rfl, ?_⟩
        refine ⟨_, _, (94 + k), rfl, (by rw [hk]; exact nI_add 94 k), by omega, Nat.le_of_ble_eq_true rfl, ?_⟩
        rw [hm_a1]
        rw [sgP_u0]
        first
          | exact ih (t + 1) _ _ _ _ (by rw [ht]; exact nI_1 t) (f2 _ fs2) (by first | (rw [hw, orB_s, gt, ht]; rfl) | (rw [hw, orB_s, gt]; rfl)) (by omega) (by omega)
          | exact ih (t + 1) _ _ _ _ (by rw [ht]; exact nI_1 t) (f2 _ (fun _ _ _ _ => rfl)) (by rw [hw, orB_s, gt]; rfl) (by omega) (by omega)
      · have x2 : sdX (sg0 1) (tpX (sg0 1)) (sg0 1 0) t := by
          rcases x1 with x1 | x1
          · exact absurd (by rw [x1.1]; decide) c66
          · exact x1.2
        refine ⟨_, _, rfl, rfl, ?_⟩
        refine ⟨_, _, 0, rfl, rfl, Nat.le_of_ble_eq_true rfl, Nat.le_of_ble_eq_true rfl, ?_⟩
        refine ⟨_, rfl, d - 1, 0, 0, _, by omega, Nat.le_of_ble_eq_true rfl, Nat.le_of_ble_eq_true rfl, Nat.le_of_ble_eq_true rfl, m_standsOn (t := t) (Q := Q) (by omega) (by rw [sgP_1]; exact wkA_F (agF_u (by omega)) hW) (by rw [sgP_1]; exact pfA_F (agF_u (by omega)) hA) (by rw [sgP_1]; exact ttA_F (agF_u (by omega)) hT) _ ht k1, ?_⟩
        rintro _ _ ⟨v2, s2, rfl, hv2, rfl, fs2⟩
        refine ⟨Or.inl rfl, ?_⟩
        rw [sgP_1, pk_un (by omega)] at hv2
        have x3 := sd_X (agF_u (by omega)) hW hA hT k1 (mn_x w3 n20 hkn) hv2
        refine ⟨fun c80 => ?_, fun c80 => ?_⟩
        · have gt : g t = false := by
            cases e : g t
            · rfl
            · rcases x3 with x3 | x3
              · exact absurd x3.1 c80
              · exact absurd x3.2 ((hg t k1).mp e).2
          refine ⟨_, _, rfl, rfl, ?_⟩
          refine ⟨_, _, (94 + k), rfl, (by rw [hk]; exact nI_add 94 k), by omega, Nat.le_of_ble_eq_true rfl, ?_⟩
          rw [hm_a1]
          rw [sgP_u0]
          first
            | exact ih (t + 1) _ _ _ _ (by rw [ht]; exact nI_1 t) (f2 _ fs2) (by first | (rw [hw, orB_s, gt, ht]; rfl) | (rw [hw, orB_s, gt]; rfl)) (by omega) (by omega)
            | exact ih (t + 1) _ _ _ _ (by rw [ht]; exact nI_1 t) (f2 _ (fun _ _ _ _ => rfl)) (by rw [hw, orB_s, gt]; rfl) (by omega) (by omega)
        · have gt : g t = true := by
            rcases x3 with x3 | x3
            · exact (hg t k1).mpr ⟨x2, x3.2⟩
            · rw [c80] at x3; exact absurd x3.1 (by decide)
          refine ⟨_, _, rfl, rfl, ?_⟩
          refine ⟨_, _, (94 + k), rfl, (by rw [hk]; exact nI_add 94 k), by omega, Nat.le_of_ble_eq_true rfl, ?_⟩
          rw [hm_a1]
          rw [sgP_u0]
          first
            | exact ih (t + 1) _ _ _ _ (by rw [ht]; exact nI_1 t) (f2 _ fs2) (by first | (rw [hw, orB_s, gt, ht]; rfl) | (rw [hw, orB_s, gt]; rfl)) (by omega) (by omega)
            | exact ih (t + 1) _ _ _ _ (by rw [ht]; exact nI_1 t) (f2 _ (fun _ _ _ _ => rfl)) (by rw [hw, orB_s, gt]; rfl) (by omega) (by omega)
theorem m_fall {sg : sg_T} {d : Nat} (hd : 460 ≤ d) {R C n0 Q : Nat} (hW : wkA (sg 1) R C n0) (hA : pfA (sg 1) R Q) {T : Nat} (hT : ttA (sg 1) Q T) (hf : flA (sg 1)) (k : Int32) : am_Met mi_X12_fall d 0 0 [.ref 0, .int k] (hm sg) (fun r h' => ∃ v, sp_fall (sg 1) k v ∧ mOut sg v (sg 1) r h') := by
  refine am_Met.of rfl (Nat.le_of_ble_eq_true rfl) ?_
  refine am_go ok_X12_fall [30] 76 ?_
  refine ⟨_, rfl, d - 1, 0, 0, _, by omega, Nat.le_of_ble_eq_true rfl, Nat.le_of_ble_eq_true rfl, Nat.le_of_ble_eq_true rfl, m_isPaper (by omega) k, ?_⟩
  rintro _ _ ⟨rfl, rfl⟩
  refine ⟨Or.inl rfl, ?_⟩
  refine ⟨fun c5 => ?_, fun c5 => ?_⟩
  · have u1 : inI k 0 (sg 1 3 - 1) := bI_t c5
    have n20 := hW.2.2.2.2.2.2.2.1
    obtain ⟨j, ej, cj, hj⟩ := ix_at hW.2.2.2.2.2.2.1 (by omega) u1
    refine ⟨_, _, rfl, rfl, ?_⟩
    refine ⟨_, _, (94 + j), rfl, (by rw [ej]; exact nI_add 94 j), by omega, Nat.le_of_ble_eq_true rfl, ?_⟩
    refine ⟨fun c20 => ?_, fun c20 => ?_⟩
    · obtain ⟨g, hg⟩ := fo_ex (p := fun t => sdX (sg 1) (tpX (sg 1)) (sg 1 0) t ∧ ¬ sdX (sg 1) (mnX (tpX (sg 1)) j) (sg 1 0) t)
      have p5 : pn (sg 1) 5 = T := pn_of hT.1 (by have := hT.2.1; omega)
      refine am_W.mono (fun r h' z => ⟨_, Or.inr (Or.inr ⟨u1, by rw [cj]; exact c20, g, fun t _ => by rw [cj]; exact hg t, by rw [p5]⟩), z⟩) (m_fall_l hd hW hA hT ej hj ((hf j (by omega)).resolve_right c20) (fun t _ => hg t) (T + 1) 0 0 0 none sg rfl (fun _ _ _ _ => rfl) rfl (by omega) (by omega))
    · exact ⟨trivial, -3, Or.inr (Or.inl ⟨u1, by rw [cj]; exact c20, rfl⟩), mOut_s rfl⟩
  · exact ⟨trivial, -1, Or.inl ⟨bI_f c5, rfl⟩, mOut_s rfl⟩
theorem m_every_l {sg0 : sg_T} {d kc ks : Nat} (hd : 460 ≤ d) {R C n0 f : Nat} {vf : Int32} (hW : wkA (sg0 1) R C n0) (hf : vf = nI f) (f750 : f < 750) {g : Nat → Bool} (hg : ∀ k, k < n0 → (g k = true ↔ sg0 1 (94 + k) = 0 ∧ ¬ rcP (syP (sg0 1) (sg0 1 0)) (baX (sg0 1) n0 (mnX (tpX (sg0 1)) k)) f)) : ∀ (u k : Nat) (w z : Int32) (sg : sg_T), z = nI k → frM sg0 sg → w = orB g k → k ≤ n0 → n0 < k + u → am_W mi_X12_every d (mOut sg0 (orB g n0) (sg0 1)) kc ks 31 [some (.ref 0), some (.int vf), some (.int w), some (.int z)] [] (hm sg) := by
  intro u
  induction u with
  | zero => intro k w z sg hz fr hw h1 h2; exact absurd h2 (by omega)
  | succ u ih =>
    intro k w z sg hz fr hw h1 h2
    refine am_go ok_X12_every [31] 103 ?_
    have e1 : sg 1 = sg0 1 := fr 1 (by decide) (by decide) (by decide)
    have n20 := hW.2.2.2.2.2.2.2.1
    have w3 := hW.2.2.2.2.2.2.1
    refine ⟨_, _, rfl, rfl, ?_⟩
    refine ⟨_, _, 3, rfl, rfl, Nat.le_of_ble_eq_true rfl, Nat.le_of_ble_eq_true rfl, ?_⟩
    rw [e1, w3]
    refine ⟨fun c38 => ?_, fun c38 => ?_⟩
    · rw [hz] at c38
      have k1 : k = n0 := by have := (nI_leI (by omega) (by omega)).mp c38; omega
      subst k1
      refine ⟨trivial, ?_⟩
      exact mOut_M fr hw
    · have k1 : k < n0 := by
        rcases Nat.lt_or_ge k n0 with q1 | q1
        · exact q1
        · exact absurd (by rw [hz]; exact (nI_leI (by omega) (by omega)).mpr q1) c38
      refine ⟨_, _, rfl, rfl, ?_⟩
      refine ⟨_, _, (94 + k), rfl, (by rw [hz]; exact nI_add 94 k), by omega, Nat.le_of_ble_eq_true rfl, ?_⟩
      rw [e1]
      refine ⟨fun c50 => ?_, fun c50 => ?_⟩
      · have gk : g k = false := by cases e : g k; rfl; exact absurd ((hg k k1).mp e).1 c50
        first
          | exact ih (k + 1) _ _ _ (by rw [hz]; exact nI_1 k) (f2 _ fs2) (by first | (rw [hw, orB_s, gk, hz]; rfl) | (rw [hw, orB_s, gk]; rfl)) (by omega) (by omega)
          | exact ih (k + 1) _ _ _ (by rw [hz]; exact nI_1 k) fr (by rw [hw, orB_s, gk]; exact (Int32.or_zero).symm) (by omega) (by omega)
      · refine ⟨_, _, rfl, rfl, ?_⟩
        refine ⟨_, _, (94 + k), rfl, (by rw [hz]; exact nI_add 94 k), by omega, Nat.le_of_ble_eq_true rfl, ?_⟩
        rw [hm_a1]
        rw [sgP_u0, e1]
        have f2 : ∀ s2, frM (sgP sg (upd (sg0 1) (94 + k) 1)) s2 → frM sg0 (sgP s2 (upd (s2 1) (94 + k) 0)) := fun s2 z a h3 h4 h5 => (by
          by_cases ea : a = 1
          · subst ea; rw [sgP_1, z 1 (by decide) (by decide) (by decide), sgP_1]; exact up_b c50
          · rw [sgP_a ea, z a h3 h4 h5, sgP_a ea]; exact fr a h3 h4 h5)
        refine ⟨_, _, rfl, rfl, ?_⟩
        refine ⟨_, _, 0, rfl, rfl, Nat.le_of_ble_eq_true rfl, Nat.le_of_ble_eq_true rfl, ?_⟩
        refine ⟨_, rfl, d - 1, 0, 0, _, by omega, Nat.le_of_ble_eq_true rfl, Nat.le_of_ble_eq_true rfl, Nat.le_of_ble_eq_true rfl, m_followsOn (f := f) (R := R) (C := C) (n0 := n0) (by omega) (by rw [sgP_1]; exact wkA_w (wkA_F (agF_u (by omega)) hW)) hf f750, ?_⟩
        rintro _ _ ⟨s2, b, rfl, rfl, fs2, hb⟩
        refine ⟨Or.inl rfl, ?_⟩
        rw [sgP_1, pk_un (by omega)] at hb
        have hb2 : b = true ↔ rcP (syP (sg0 1) (sg0 1 0)) (baX (sg0 1) n0 (mnX (tpX (sg0 1)) k)) f := Iff.trans hb (rc_eq (sy_eq_s (syP_F (agF_u (by omega)) hW)) (fun f => baX_F (agF_u (by omega)) n20 (mn_x w3 n20 k1) f))
        refine ⟨fun c75 => ?_, fun c75 => ?_⟩
        · have gk : g k = true := (hg k k1).mpr ⟨c50, fun z => (by have := hb2.mpr z; rw [bI_0.mp c75] at this; cases this)⟩
          refine ⟨_, _, rfl, rfl, ?_⟩
          refine ⟨_, _, (94 + k), rfl, (by rw [hz]; exact nI_add 94 k), by omega, Nat.le_of_ble_eq_true rfl, ?_⟩
          rw [hm_a1]
          rw [sgP_u0]
          first
            | exact ih (k + 1) _ _ _ (by rw [hz]; exact nI_1 k) (f2 _ fs2) (by first | (rw [hw, orB_s, gk, hz]; rfl) | (rw [hw, orB_s, gk]; rfl)) (by omega) (by omega)
            | exact ih (k + 1) _ _ _ (by rw [hz]; exact nI_1 k) fr (by rw [hw, orB_s, gk]; exact (Int32.or_zero).symm) (by omega) (by omega)
        · have gk : g k = false := by
            cases e : g k
            · rfl
            · exact absurd (hb2.mp (by cases b; exact absurd rfl c75; rfl)) ((hg k k1).mp e).2
          refine ⟨_, _, rfl, rfl, ?_⟩
          refine ⟨_, _, (94 + k), rfl, (by rw [hz]; exact nI_add 94 k), by omega, Nat.le_of_ble_eq_true rfl, ?_⟩
          rw [hm_a1]
          rw [sgP_u0]
          first
            | exact ih (k + 1) _ _ _ (by rw [hz]; exact nI_1 k) (f2 _ fs2) (by first | (rw [hw, orB_s, gk, hz]; rfl) | (rw [hw, orB_s, gk]; rfl)) (by omega) (by omega)
            | exact ih (k + 1) _ _ _ (by rw [hz]; exact nI_1 k) fr (by rw [hw, orB_s, gk]; exact (Int32.or_zero).symm) (by omega) (by omega)
theorem m_every {sg : sg_T} {d : Nat} (hd : 460 ≤ d) {R C n0 : Nat} (hW : wkA (sg 1) R C n0) (f : Int32) : am_Met mi_X12_every d 0 0 [.ref 0, .int f] (hm sg) (fun r h' => ∃ v, sp_every (sg 1) f v ∧ mOut sg v (sg 1) r h') := by
  refine am_Met.of rfl (Nat.le_of_ble_eq_true rfl) ?_
  refine am_go ok_X12_every [31] 75 ?_
  refine ⟨d - 1, 0, 0, _, by omega, Nat.le_of_ble_eq_true rfl, Nat.le_of_ble_eq_true rfl, Nat.le_of_ble_eq_true rfl, m_isFact (by omega) f, ?_⟩
  rintro _ _ ⟨rfl, rfl⟩
  refine ⟨Or.inl rfl, ?_⟩
  refine ⟨fun c4 => ?_, fun c4 => ?_⟩
  · have u1 : inI f 0 749 := bI_t c4
    obtain ⟨i, ei, ci, hi⟩ := ix_c (m := 749) (by omega) u1
    have n20 := hW.2.2.2.2.2.2.2.1
    have w3 := hW.2.2.2.2.2.2.1
    have p3 := pn_of w3 (by omega)
    refine ⟨_, _, rfl, rfl, ?_⟩
    refine ⟨_, _, 0, rfl, rfl, Nat.le_of_ble_eq_true rfl, Nat.le_of_ble_eq_true rfl, ?_⟩
    refine ⟨_, rfl, d - 1, 0, 0, _, by omega, Nat.le_of_ble_eq_true rfl, Nat.le_of_ble_eq_true rfl, Nat.le_of_ble_eq_true rfl, m_followsOn (f := i) (by omega) (wkA_w hW) ei (by omega), ?_⟩
    rintro _ _ ⟨s1, b, rfl, rfl, fs1, hb⟩
    refine ⟨Or.inl rfl, ?_⟩
    have hb2 : b = true ↔ rcP (syP (sg 1) (sg 1 0)) (baX (sg 1) (pn (sg 1) 3) (tpX (sg 1))) (cN f) := by
      rw [p3, ci]
      exact Iff.trans hb (rc_eq (sy_eq_r _) (fun f => baX_F (agF_r _) n20 (tp_x w3 n20) f))
    refine ⟨fun c21 => ?_, fun c21 => ?_⟩
    · have hr := hb2.mp (by cases b; exact absurd rfl c21; rfl)
      obtain ⟨g, hg⟩ := fo_ex (p := fun k => sg 1 (94 + k) = 0 ∧ ¬ rcP (syP (sg 1) (sg 1 0)) (baX (sg 1) n0 (mnX (tpX (sg 1)) k)) i)
      refine am_W.mono (fun r h' z => ⟨_, Or.inr (Or.inr ⟨u1, hr, g, fun k _ => by rw [p3, ci]; exact hg k, by rw [p3]⟩), z⟩) (m_every_l hd hW ei (by omega) (fun k _ => hg k) (n0 + 1) 0 0 0 s1 rfl fs1 rfl (by omega) (by omega))
    · exact ⟨trivial, -5, Or.inr (Or.inl ⟨u1, fun z => (by have := hb2.mpr z; rw [bI_0.mp c21] at this; cases this), rfl⟩), mOut_M fs1 rfl⟩
  · exact ⟨trivial, -2, Or.inl ⟨bI_f c4, rfl⟩, mOut_s rfl⟩
def ctB (x : Int32) : Nat := cnN (bq x) 20
def eI (A : Nat → Int32) (j m : Nat) : Int32 := orA 0 (fun i => if bq (nI j) i = true then 1 <<< (A i &&& 31) else 0) m
def fwB (fo : Int32 → Bool) (base : Int32) (e : Nat → Int32) : Nat → Int32
  | 0 => -5
  | j + 1 => if (fwB fo base e j = -5 ∨ ctB (e j) < ctB (fwB fo base e j)) ∧ fo (base ||| e j) = true then e j else fwB fo base e j
theorem fwB_y {fo : Int32 → Bool} {base : Int32} {e : Nat → Int32} {j : Nat} (h : fwB fo base e j = -5 ∨ ctB (e j) < ctB (fwB fo base e j)) (k : fo (base ||| e j) = true) : fwB fo base e (j + 1) = e j := by rw [fwB, if_pos ⟨h, k⟩]
theorem fwB_n {fo : Int32 → Bool} {base : Int32} {e : Nat → Int32} {j : Nat} (h : ¬ ((fwB fo base e j = -5 ∨ ctB (e j) < ctB (fwB fo base e j)) ∧ fo (base ||| e j) = true)) : fwB fo base e (j + 1) = fwB fo base e j := by rw [fwB, if_neg h]
theorem sh_2m : ∀ m, m < 31 → (1 <<< (nI m &&& 31) : Int32) = nI (2 ^ m) := by decide
theorem ctB_le (x : Int32) : ctB x ≤ 20 := cnN_le _ _
theorem m_many0_l {h : am_H} {d kc ks : Nat} {x : Int32} : ∀ (u k : Nat) (w z : Int32), z = nI k → w = nI (cnN (bq x) k) → k ≤ 20 → 20 < k + u → am_W mi_X12_many0 d (fun r h' => r = some (.int (nI (ctB x))) ∧ h' = h) kc ks 4 [some (.int x), some (.int w), some (.int z)] [] h := by
  intro u
  induction u with
  | zero => intro k w z hz hw h1 h2; exact absurd h2 (by omega)
  | succ u ih =>
    intro k w z hz hw h1 h2
    refine am_go ok_X12_many0 [4] 73 ?_
    refine ⟨fun c7 => ?_, fun c7 => ?_⟩
    · rw [hz] at c7
      have k1 : k = 20 := by have := (nI_leI (a := 20) (by omega) (by omega)).mp c7; omega
      subst k1
      refine ⟨trivial, ?_⟩
      exact ⟨by rw [hw]; rfl, rfl⟩
    · have k1 : k < 20 := by
        rcases Nat.lt_or_ge k 20 with q1 | q1
        · exact q1
        · exact absurd (by rw [hz]; exact (nI_leI (a := 20) (by omega) (by omega)).mpr q1) c7
      refine ih (k + 1) _ _ (by rw [hz]; exact nI_1 k) ?_ (by omega) (by omega)
      rw [hz, shr_1 (by omega), hw, cnN]
      cases e : bq x k
      · exact nI_add _ 0
      · exact nI_add _ 1
theorem m_many0 {h : am_H} (d : Nat) (x : Int32) : am_Met mi_X12_many0 d 0 0 [.int x] h (fun r h' => r = some (.int (nI (ctB x))) ∧ h' = h) := by
  refine am_Met.of rfl (Nat.le_of_ble_eq_true rfl) ?_
  refine am_go ok_X12_many0 [4] 64 ?_
  exact m_many0_l 21 0 0 0 rfl rfl (by omega) (by omega)
/-- in 'fewest': what stays -/
def frX (sg0 sg : sg_T) : Prop := (sg 0 = sg0 0 ∧ sg 2 = sg0 2 ∧ sg 7 = sg0 7) ∧ agF (sg0 1) (sg 1) ∧ ∀ k, k < 20 → sg 6 k = sg0 1 (94 + k)
theorem frX_M {a b c : sg_T} (h : frX a b) (k : frM b c) : frX a c := by
  obtain ⟨⟨h1, h2, h3⟩, h4, h5⟩ := h
  exact ⟨⟨(k 0 (by decide) (by decide) (by decide)).trans h1, (k 2 (by decide) (by decide) (by decide)).trans h2, (k 7 (by decide) (by decide) (by decide)).trans h3⟩, by rw [k 1 (by decide) (by decide) (by decide)]; exact h4, by rw [k 6 (by decide) (by decide) (by decide)]; exact h5⟩
theorem frX_u {a b : sg_T} {k : Nat} {v : Int32} (h : frX a b) (hk : k < 20) : frX a (sg_u b 1 (94 + k) v) := by
  obtain ⟨⟨h1, h2, h3⟩, h4, h5⟩ := h
  refine ⟨⟨by rw [sg_i (by decide)]; exact h1, by rw [sg_i (by decide)]; exact h2, by rw [sg_i (by decide)]; exact h3⟩, ?_, by rw [sg_i (by decide)]; exact h5⟩
  rw [sg_ii]
  exact fun j hj => (pk_un (by omega)).trans (h4 j hj)
theorem m_fewest_c {sg0 : sg_T} {d kc ks : Nat} {vf base vm w v : Int32} {t6 t7 : Option Value} (hw : w = v) : ∀ (u k : Nat) (z : Int32) (sg : sg_T), z = nI k → frX sg0 sg → (∀ i, i < k → sg 1 (94 + i) = sg0 1 (94 + i)) → k ≤ 20 → 20 < k + u → am_W mi_X12_fewest d (mOut sg0 v (sg0 1)) kc ks 195 [some (.ref 0), some (.int vf), some (.int base), some (.int vm), some (.int w), some (.int z), t6, t7] [] (hm sg) := by
  intro u
  induction u with
  | zero => intro k z sg hz fr hb h1 h2; exact absurd h2 (by omega)
  | succ u ih =>
    intro k z sg hz fr hb h1 h2
    refine am_go ok_X12_fewest [195] 75 ?_
    refine ⟨fun c199 => ?_, fun c199 => ?_⟩
    · rw [hz] at c199
      have k1 : k = 20 := by have := (nI_leI (a := 20) (by omega) (by omega)).mp c199; omega
      subst k1
      refine ⟨trivial, ?_⟩
      refine ⟨sg, by rw [hw], rfl, ?_, fr.1.2.1, by rw [fr.1.1]⟩
      funext j
      rcases (show (j < 94 ∨ 114 ≤ j) ∨ (94 ≤ j ∧ j < 114) by omega) with q | q
      · exact fr.2.1 j q
      · have := hb (j - 94) (by omega)
        rw [show 94 + (j - 94) = j by omega] at this
        exact this
    · have k1 : k < 20 := by
        rcases Nat.lt_or_ge k 20 with q1 | q1
        · exact q1
        · exact absurd (by rw [hz]; exact (nI_leI (a := 20) (by omega) (by omega)).mpr q1) c199
      refine ⟨_, _, rfl, rfl, ?_⟩
      refine ⟨_, _, rfl, rfl, ?_⟩
      refine ⟨_, _, k, rfl, hz, by omega, Nat.le_of_ble_eq_true rfl, ?_⟩
      rw [fr.2.2 k k1]
      refine ⟨_, _, (94 + k), rfl, (by rw [hz]; exact nI_add 94 k), by omega, Nat.le_of_ble_eq_true rfl, ?_⟩
      rw [hm_a1]
      refine ih (k + 1) _ _ (by rw [hz]; exact nI_1 k) (frX_u fr k1) (fun i hi => ?_) (by omega) (by omega)
      rw [sg_ii]
      rcases (show i = k ∨ i < k by omega) with e | e
      · subst e; exact pk_us
      · rw [pk_un (by omega)]; exact hb i e
theorem m_fewest_f {sg0 : sg_T} {d kc ks : Nat} {Qp : Option Value → am_H → Prop} {n0 : Nat} {vf base vm w z5 bits : Int32} (h3 : sg0 1 3 = nI n0) (n20 : n0 ≤ 20) (K : ∀ (sg : sg_T) (z7 : Int32), frX sg0 sg → (∀ i, i < n0 → (sg 1 (94 + i) = 0 ↔ bq (base ||| bits) i = true)) → am_W mi_X12_fewest d Qp kc ks 163 [some (.ref 0), some (.int vf), some (.int base), some (.int vm), some (.int w), some (.int z5), some (.int bits), some (.int z7)] [] (hm sg)) : ∀ (u k : Nat) (z : Int32) (sg : sg_T), z = nI k → frX sg0 sg → (∀ i, i < k → (sg 1 (94 + i) = 0 ↔ bq (base ||| bits) i = true)) → k ≤ n0 → n0 < k + u → am_W mi_X12_fewest d Qp kc ks 118 [some (.ref 0), some (.int vf), some (.int base), some (.int vm), some (.int w), some (.int z5), some (.int bits), some (.int z)] [] (hm sg) := by
  intro u
  induction u with
  | zero => intro k z sg hz fr hb h1 h2; exact absurd h2 (by omega)
  | succ u ih =>
    intro k z sg hz fr hb h1 h2
    refine am_go ok_X12_fewest [118, 163] 85 ?_
    refine ⟨_, _, rfl, rfl, ?_⟩
    refine ⟨_, _, 3, rfl, rfl, Nat.le_of_ble_eq_true rfl, Nat.le_of_ble_eq_true rfl, ?_⟩
    rw [fr.2.1 3 (by omega), h3]
    refine ⟨fun c126 => ?_, fun c126 => ?_⟩
    · rw [hz] at c126
      have k1 : k = n0 := by have := (nI_leI (by omega) (by omega)).mp c126; omega
      subst k1
      exact K sg _ fr hb
    · have k1 : k < n0 := by
        rcases Nat.lt_or_ge k n0 with q1 | q1
        · exact q1
        · exact absurd (by rw [hz]; exact (nI_leI (by omega) (by omega)).mpr q1) c126
      refine ⟨_, _, rfl, rfl, ?_⟩
      refine ⟨fun c148 => ?_, fun c148 => ?_⟩
      · have hq : ¬ bq (base ||| bits) k = true := fun q => c148 (by rw [hz]; exact (shr_e1 (by omega) _).mpr q)
        have hv : ((1 : Int32) = 0 ↔ bq (base ||| bits) k = true) := ⟨fun q => absurd q (by decide), fun q => absurd q hq⟩
        refine ⟨_, _, (94 + k), rfl, (by rw [hz]; exact nI_add 94 k), by omega, Nat.le_of_ble_eq_true rfl, ?_⟩
        rw [hm_a1]
        refine ih (k + 1) _ _ (by rw [hz]; exact nI_1 k) (frX_u fr (by omega)) (fun i hi => ?_) (by omega) (by omega)
        rw [sg_ii]
        rcases (show i = k ∨ i < k by omega) with e | e
        · subst e; rw [pk_us]; exact hv
        · rw [pk_un (by omega)]; exact hb i e
      · have hq : bq (base ||| bits) k = true := (shr_e1 (by omega) _).mp (by rw [hz] at c148; exact c148)
        have hv : ((0 : Int32) = 0 ↔ bq (base ||| bits) k = true) := ⟨fun _ => hq, fun _ => rfl⟩
        refine ⟨_, _, (94 + k), rfl, (by rw [hz]; exact nI_add 94 k), by omega, Nat.le_of_ble_eq_true rfl, ?_⟩
        rw [hm_a1]
        refine ih (k + 1) _ _ (by rw [hz]; exact nI_1 k) (frX_u fr (by omega)) (fun i hi => ?_) (by omega) (by omega)
        rw [sg_ii]
        rcases (show i = k ∨ i < k by omega) with e | e
        · subst e; rw [pk_us]; exact hv
        · rw [pk_un (by omega)]; exact hb i e
theorem m_fewest_e {sg0 sg : sg_T} {d kc ks : Nat} {Qp : Option Value → am_H → Prop} {m j : Nat} {vf base vm w z5 : Int32} (e7 : sg 7 = sg0 7) (hm' : vm = nI m) (m6 : m ≤ 6) (hA : ∀ i, i < m → ∃ a, a < 20 ∧ sg0 7 i = nI a) (h5 : z5 = nI j) (K : ∀ (z7 : Int32), am_W mi_X12_fewest d Qp kc ks 95 [some (.ref 0), some (.int vf), some (.int base), some (.int vm), some (.int w), some (.int z5), some (.int (eI (sg0 7) j m)), some (.int z7)] [] (hm sg)) : ∀ (u k : Nat) (b z : Int32), z = nI k → b = eI (sg0 7) j k → k ≤ m → m < k + u → am_W mi_X12_fewest d Qp kc ks 54 [some (.ref 0), some (.int vf), some (.int base), some (.int vm), some (.int w), some (.int z5), some (.int b), some (.int z)] [] (hm sg) := by
  intro u
  induction u with
  | zero => intro k b z hz hb h1 h2; exact absurd h2 (by omega)
  | succ u ih =>
    intro k b z hz hb h1 h2
    refine am_go ok_X12_fewest [54, 95] 82 ?_
    refine ⟨fun c57 => ?_, fun c57 => ?_⟩
    · rw [hz, hm'] at c57
      have k1 : k = m := by have := (nI_leI (by omega) (by omega)).mp c57; omega
      subst k1
      rw [hb]
      exact K _
    · have k1 : k < m := by
        rcases Nat.lt_or_ge k m with q1 | q1
        · exact q1
        · exact absurd (by rw [hz, hm']; exact (nI_leI (by omega) (by omega)).mpr q1) c57
      refine ⟨fun c70 => ?_, fun c70 => ?_⟩
      · have hq : ¬ bq (nI j) k = true := fun q => c70 (by rw [hz, h5]; exact (shr_e1 (by omega) _).mpr q)
        refine ih (k + 1) _ _ (by rw [hz]; exact nI_1 k) ?_ (by omega) (by omega)
        rw [hb]
        show _ = eI (sg0 7) j k ||| (if bq (nI j) k = true then 1 <<< (sg0 7 k &&& 31) else 0)
        first | rw [if_pos hq] | rw [if_neg hq]
      · have hq : bq (nI j) k = true := (shr_e1 (by omega) _).mp (by rw [hz, h5] at c70; exact c70)
        refine ⟨_, _, rfl, rfl, ?_⟩
        refine ⟨_, _, k, rfl, hz, by omega, Nat.le_of_ble_eq_true rfl, ?_⟩
        rw [e7]
        refine ih (k + 1) _ _ (by rw [hz]; exact nI_1 k) ?_ (by omega) (by omega)
        rw [hb]
        show _ = eI (sg0 7) j k ||| (if bq (nI j) k = true then 1 <<< (sg0 7 k &&& 31) else 0)
        first | rw [if_pos hq] | rw [if_neg hq]
theorem m_fewest_x {sg0 : sg_T} {d kc ks : Nat} (hd : 20 ≤ d) {R C n0 f m : Nat} {vf base vm : Int32} (hW : wkA (sg0 1) R C n0) (hf : vf = nI f) (f750 : f < 750) (hm' : vm = nI m) (m6 : m ≤ 6) (hA : ∀ i, i < m → ∃ a, a < 20 ∧ sg0 7 i = nI a) {fo : Int32 → Bool} (hfo : ∀ x, fo x = true ↔ rcP (syP (sg0 1) (sg0 1 0)) (baX (sg0 1) n0 x) f) {j : Nat} {w z z7 : Int32} {sg : sg_T} (hz : z = nI j) (fr : frX sg0 sg) (hw : w = fwB fo base (fun j => eI (sg0 7) j m) j) (hc : fwB fo base (fun j => eI (sg0 7) j m) j = -5 ∨ ctB (eI (sg0 7) j m) < ctB (fwB fo base (fun j => eI (sg0 7) j m) j)) (hb : ∀ i, i < n0 → (sg 1 (94 + i) = 0 ↔ bq (base ||| eI (sg0 7) j m) i = true)) (K : ∀ (w' : Int32) (sg' : sg_T) (t6 t7 : Option Value), frX sg0 sg' → w' = fwB fo base (fun j => eI (sg0 7) j m) (j + 1) → am_W mi_X12_fewest d (mOut sg0 (fwB fo base (fun j => eI (sg0 7) j m) (2 ^ m)) (sg0 1)) kc ks 40 [some (.ref 0), some (.int vf), some (.int base), some (.int vm), some (.int w'), some (.int (z + 1)), t6, t7] [] (hm sg')) : am_W mi_X12_fewest d (mOut sg0 (fwB fo base (fun j => eI (sg0 7) j m) (2 ^ m)) (sg0 1)) kc ks 163 [some (.ref 0), some (.int vf), some (.int base), some (.int vm), some (.int w), some (.int z), some (.int (eI (sg0 7) j m)), some (.int z7)] [] (hm sg) := by
  refine am_go ok_X12_fewest [40] 73 ?_
  have n20 := hW.2.2.2.2.2.2.2.1
  have w3 := hW.2.2.2.2.2.2.1
  refine ⟨_, _, rfl, rfl, ?_⟩
  refine ⟨_, _, 0, rfl, rfl, Nat.le_of_ble_eq_true rfl, Nat.le_of_ble_eq_true rfl, ?_⟩
  rw [fr.2.1 0 (by omega)]
  refine ⟨_, rfl, d - 1, 0, 0, _, by omega, Nat.le_of_ble_eq_true rfl, Nat.le_of_ble_eq_true rfl, Nat.le_of_ble_eq_true rfl, m_followsOn (f := f) (R := R) (C := C) (n0 := n0) (by omega) (wkA_w (wkA_F fr.2.1 hW)) hf f750, ?_⟩
  rintro _ _ ⟨s2, b, rfl, rfl, fs2, hb1⟩
  refine ⟨Or.inl rfl, ?_⟩
  have hb2 : b = true ↔ fo (base ||| eI (sg0 7) j m) = true := (Iff.trans hb1 (rc_eq (sy_eq_s (syP_F fr.2.1 hW)) (fun f => baX_F fr.2.1 n20 hb f))).trans (hfo _).symm
  refine ⟨fun c174 => ?_, fun c174 => ?_⟩
  · first
      | exact K _ s2 _ _ (frX_M fr fs2) (fwB_y hc (hb2.mp (by cases b; exact absurd rfl c174; rfl))).symm
      | exact K _ s2 _ _ (frX_M fr fs2) (by rw [fwB_n (fun q => (by have := hb2.mpr q.2; rw [bI_0.mp c174] at this; cases this))]; exact hw)
  · first
      | exact K _ s2 _ _ (frX_M fr fs2) (fwB_y hc (hb2.mp (by cases b; exact absurd rfl c174; rfl))).symm
      | exact K _ s2 _ _ (frX_M fr fs2) (by rw [fwB_n (fun q => (by have := hb2.mpr q.2; rw [bI_0.mp c174] at this; cases this))]; exact hw)
theorem m_fewest_n {sg0 : sg_T} {d kc ks : Nat} (hd : 20 ≤ d) {R C n0 f m : Nat} {vf base vm : Int32} (hW : wkA (sg0 1) R C n0) (hf : vf = nI f) (f750 : f < 750) (hm' : vm = nI m) (m6 : m ≤ 6) (hA : ∀ i, i < m → ∃ a, a < 20 ∧ sg0 7 i = nI a) {fo : Int32 → Bool} (hfo : ∀ x, fo x = true ↔ rcP (syP (sg0 1) (sg0 1 0)) (baX (sg0 1) n0 x) f) {j : Nat} {w z z7 : Int32} {sg : sg_T} (hz : z = nI j) (fr : frX sg0 sg) (hw : w = fwB fo base (fun j => eI (sg0 7) j m) j) (K : ∀ (w' : Int32) (sg' : sg_T) (t6 t7 : Option Value), frX sg0 sg' → w' = fwB fo base (fun j => eI (sg0 7) j m) (j + 1) → am_W mi_X12_fewest d (mOut sg0 (fwB fo base (fun j => eI (sg0 7) j m) (2 ^ m)) (sg0 1)) kc ks 40 [some (.ref 0), some (.int vf), some (.int base), some (.int vm), some (.int w'), some (.int (z + 1)), t6, t7] [] (hm sg')) : am_W mi_X12_fewest d (mOut sg0 (fwB fo base (fun j => eI (sg0 7) j m) (2 ^ m)) (sg0 1)) kc ks 95 [some (.ref 0), some (.int vf), some (.int base), some (.int vm), some (.int w), some (.int z), some (.int (eI (sg0 7) j m)), some (.int z7)] [] (hm sg) := by
  refine am_go ok_X12_fewest [40, 118] 70 ?_
  have n20 := hW.2.2.2.2.2.2.2.1
  have w3 := hW.2.2.2.2.2.2.1
  refine ⟨fun c99 => ?_, fun c99 => ?_⟩
  · have hc : fwB fo base (fun j => eI (sg0 7) j m) j = -5 ∨ ctB (eI (sg0 7) j m) < ctB (fwB fo base (fun j => eI (sg0 7) j m) j) := Or.inl (by rw [← hw]; exact c99)
    exact m_fewest_f w3 n20 (fun sg1 z7 fr1 hb => m_fewest_x hd hW hf f750 hm' m6 hA hfo hz fr1 hw hc hb K) (n0 + 1) 0 0 sg rfl fr (fun _ q => absurd q (by omega)) (by omega) (by omega)
  · refine ⟨d - 1, 0, 0, _, by omega, Nat.le_of_ble_eq_true rfl, Nat.le_of_ble_eq_true rfl, Nat.le_of_ble_eq_true rfl, m_many0 (d - 1) _, ?_⟩
    rintro _ _ ⟨rfl, rfl⟩
    refine ⟨Or.inl rfl, ?_⟩
    refine ⟨d - 1, 0, 0, _, by omega, Nat.le_of_ble_eq_true rfl, Nat.le_of_ble_eq_true rfl, Nat.le_of_ble_eq_true rfl, m_many0 (d - 1) _, ?_⟩
    rintro _ _ ⟨rfl, rfl⟩
    refine ⟨Or.inl rfl, ?_⟩
    refine ⟨fun c112 => ?_, fun c112 => ?_⟩
    · have hn : ¬ ((fwB fo base (fun j => eI (sg0 7) j m) j = -5 ∨ ctB (eI (sg0 7) j m) < ctB (fwB fo base (fun j => eI (sg0 7) j m) j)) ∧ fo (base ||| eI (sg0 7) j m) = true) := by
        rw [← hw]
        rintro ⟨q | q, -⟩
        · exact c99 q
        · have l1 := ctB_le (eI (sg0 7) j m)
          have l2 := ctB_le w
          exact absurd ((nI_leI (by omega) (by omega)).mp c112) (by omega)
      exact K w sg _ _ fr (by rw [fwB_n hn]; exact hw)
    · have hc : fwB fo base (fun j => eI (sg0 7) j m) j = -5 ∨ ctB (eI (sg0 7) j m) < ctB (fwB fo base (fun j => eI (sg0 7) j m) j) := by
        refine Or.inr ?_
        rw [← hw]
        have l1 := ctB_le (eI (sg0 7) j m)
        have l2 := ctB_le w
        rcases Nat.lt_or_ge (ctB (eI (sg0 7) j m)) (ctB w) with q1 | q1
        · exact q1
        · exact absurd ((nI_leI (by omega) (by omega)).mpr q1) c112
      exact m_fewest_f w3 n20 (fun sg1 z7 fr1 hb => m_fewest_x hd hW hf f750 hm' m6 hA hfo hz fr1 hw hc hb K) (n0 + 1) 0 0 sg rfl fr (fun _ q => absurd q (by omega)) (by omega) (by omega)
theorem m_fewest_b {sg0 : sg_T} {d kc ks : Nat} (hd : 20 ≤ d) {R C n0 f m : Nat} {vf base vm : Int32} (hW : wkA (sg0 1) R C n0) (hf : vf = nI f) (f750 : f < 750) (hm' : vm = nI m) (m6 : m ≤ 6) (hA : ∀ i, i < m → ∃ a, a < 20 ∧ sg0 7 i = nI a) {fo : Int32 → Bool} (hfo : ∀ x, fo x = true ↔ rcP (syP (sg0 1) (sg0 1 0)) (baX (sg0 1) n0 x) f) : ∀ (u j : Nat) (w z : Int32) (t6 t7 : Option Value) (sg : sg_T), z = nI j → frX sg0 sg → w = fwB fo base (fun j => eI (sg0 7) j m) j → j ≤ 2 ^ m → 2 ^ m < j + u → am_W mi_X12_fewest d (mOut sg0 (fwB fo base (fun j => eI (sg0 7) j m) (2 ^ m)) (sg0 1)) kc ks 40 [some (.ref 0), some (.int vf), some (.int base), some (.int vm), some (.int w), some (.int z), t6, t7] [] (hm sg) := by
  intro u
  induction u with
  | zero => intro j w z t6 t7 sg hz fr hw h1 h2; exact absurd h2 (by omega)
  | succ u ih =>
    intro j w z t6 t7 sg hz fr hw h1 h2
    refine am_go ok_X12_fewest [40, 54, 195] 69 ?_
    have p2 : 2 ^ m ≤ 64 := Nat.pow_le_pow_right (by omega) m6 (n := 2)
    have n20 := hW.2.2.2.2.2.2.2.1
    have w3 := hW.2.2.2.2.2.2.1
    have es : (1 <<< (vm &&& 31) : Int32) = nI (2 ^ m) := by rw [hm']; exact sh_2m m (by omega)
    refine ⟨fun c45 => ?_, fun c45 => ?_⟩
    · rw [hz, es] at c45
      have k1 : j = 2 ^ m := by have := (nI_leI (by omega) (by omega)).mp c45; omega
      exact m_fewest_c (by rw [hw, k1]) 21 0 0 sg rfl fr (fun _ q => absurd q (by omega)) (by omega) (by omega)
    · have k1 : j < 2 ^ m := by
        rcases Nat.lt_or_ge j (2 ^ m) with q1 | q1
        · exact q1
        · exact absurd (by rw [hz, es]; exact (nI_leI (by omega) (by omega)).mpr q1) c45
      exact m_fewest_e fr.1.2.2 hm' m6 hA hz (fun z7 => m_fewest_n hd hW hf f750 hm' m6 hA hfo hz fr hw (fun w' sg' t6 t7 fr' hw' => ih (j + 1) w' _ t6 t7 sg' (by rw [hz]; exact nI_1 j) fr' hw' (by omega) (by omega))) (m + 1) 0 0 0 rfl rfl (by omega) (by omega)
theorem m_fewest_a {sg0 : sg_T} {d kc ks : Nat} (hd : 20 ≤ d) {R C n0 f m : Nat} {vf base vm : Int32} (hW : wkA (sg0 1) R C n0) (hf : vf = nI f) (f750 : f < 750) (hm' : vm = nI m) (m6 : m ≤ 6) (hA : ∀ i, i < m → ∃ a, a < 20 ∧ sg0 7 i = nI a) {fo : Int32 → Bool} (hfo : ∀ x, fo x = true ↔ rcP (syP (sg0 1) (sg0 1 0)) (baX (sg0 1) n0 x) f) : ∀ (u k : Nat) (z : Int32) (sg : sg_T), z = nI k → (∀ a, a ≠ 6 → sg a = sg0 a) → (∀ i, i < k → sg 6 i = sg0 1 (94 + i)) → k ≤ 20 → 20 < k + u → am_W mi_X12_fewest d (mOut sg0 (fwB fo base (fun j => eI (sg0 7) j m) (2 ^ m)) (sg0 1)) kc ks 3 [some (.ref 0), some (.int vf), some (.int base), some (.int vm), some (.int z), none, none, none] [] (hm sg) := by
  intro u
  induction u with
  | zero => intro k z sg hz fr hb h1 h2; exact absurd h2 (by omega)
  | succ u ih =>
    intro k z sg hz fr hb h1 h2
    refine am_go ok_X12_fewest [3, 40] 75 ?_
    have e1 : sg 1 = sg0 1 := fr 1 (by decide)
    refine ⟨fun c7 => ?_, fun c7 => ?_⟩
    · rw [hz] at c7
      have k1 : k = 20 := by have := (nI_leI (a := 20) (by omega) (by omega)).mp c7; omega
      subst k1
      exact m_fewest_b hd hW hf f750 hm' m6 hA hfo (2 ^ m + 1) 0 (-5) 0 none none sg rfl ⟨⟨fr 0 (by decide), fr 2 (by decide), fr 7 (by decide)⟩, by rw [e1]; exact agF_r _, hb⟩ rfl (Nat.zero_le _) (by omega)
    · have k1 : k < 20 := by
        rcases Nat.lt_or_ge k 20 with q1 | q1
        · exact q1
        · exact absurd (by rw [hz]; exact (nI_leI (a := 20) (by omega) (by omega)).mpr q1) c7
      refine ⟨_, _, rfl, rfl, ?_⟩
      refine ⟨_, _, rfl, rfl, ?_⟩
      refine ⟨_, _, (94 + k), rfl, (by rw [hz]; exact nI_add 94 k), by omega, Nat.le_of_ble_eq_true rfl, ?_⟩
      rw [e1]
      refine ⟨_, _, k, rfl, hz, by omega, Nat.le_of_ble_eq_true rfl, ?_⟩
      rw [hm_a6]
      refine ih (k + 1) _ _ (by rw [hz]; exact nI_1 k) (fun a ha => (sg_i ha).trans (fr a ha)) (fun i hi => ?_) (by omega) (by omega)
      rw [sg_ii]
      rcases (show i = k ∨ i < k by omega) with e | e
      · subst e; exact pk_us
      · rw [pk_un (by omega)]; exact hb i e
theorem m_fewest {sg0 : sg_T} {d : Nat} (hd : 20 ≤ d) {R C n0 f m : Nat} {vf base vm : Int32} (hW : wkA (sg0 1) R C n0) (hf : vf = nI f) (f750 : f < 750) (hm' : vm = nI m) (m6 : m ≤ 6) (hA : ∀ i, i < m → ∃ a, a < 20 ∧ sg0 7 i = nI a) {fo : Int32 → Bool} (hfo : ∀ x, fo x = true ↔ rcP (syP (sg0 1) (sg0 1 0)) (baX (sg0 1) n0 x) f) : am_Met mi_X12_fewest d 0 0 [.ref 0, .int vf, .int base, .int vm] (hm sg0) (mOut sg0 (fwB fo base (fun j => eI (sg0 7) j m) (2 ^ m)) (sg0 1)) := by
  refine am_Met.of rfl (Nat.le_of_ble_eq_true rfl) ?_
  refine am_go ok_X12_fewest [3] 62 ?_
  exact m_fewest_a hd hW hf f750 hm' m6 hA hfo 21 0 0 sg0 rfl (fun _ _ => rfl) (fun _ q => absurd q (by omega)) (by omega) (by omega)
