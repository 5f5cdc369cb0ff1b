/-! the Book's methods: sources, holes, titles -/
def csK (P : Nat → Int32) (x : Nat) (v : Int32) : Nat → Nat
  | 0 => 0
  | k + 1 => csK P x v k + (if P (x + 3 + k) = v then 1 else 0)
def csS (P : Nat → Int32) (q : Nat) (v : Int32) : Nat → Nat
  | 0 => 0
  | s + 1 => csS P q v s + csK P (rwX q s) v (pn P (rwX q s + 2))
theorem csK_h (P : Nat → Int32) (x : Nat) : ∀ k, csK P x 300 k = hoK P x k
  | 0 => rfl
  | k + 1 => by rw [csK, hoK, csK_h P x k]
theorem csS_h (P : Nat → Int32) (q : Nat) : ∀ s, csS P q 300 s = hoS P q s
  | 0 => rfl
  | s + 1 => by rw [csS, hoS, csS_h P q s, csK_h]
theorem csK_le (P : Nat → Int32) (x : Nat) (v : Int32) : ∀ k, csK P x v k ≤ k
  | 0 => Nat.le_refl _
  | k + 1 => by rw [csK]; have := csK_le P x v k; split <;> omega
theorem csS_le {P : Nat → Int32} {q : Nat} {v : Int32} : ∀ {s : Nat}, (∀ j, j < s → pn P (rwX q j + 2) ≤ 3) → csS P q v s ≤ 3 * s
  | 0, _ => Nat.le_refl _
  | s + 1, h => by
    rw [csS]
    have h1 := csS_le (v := v) (fun j hj => h j (Nat.lt_succ_of_lt hj))
    have h2 := csK_le P (rwX q s) v (pn P (rwX q s + 2))
    have h3 := h s (Nat.lt_succ_self s)
    omega
theorem csK_0 {P : Nat → Int32} {x : Nat} {v : Int32} : ∀ {n : Nat}, 0 < csK P x v n ↔ ∃ k, k < n ∧ P (x + 3 + k) = v
  | 0 => ⟨fun h => absurd h (by rw [csK]; omega), fun ⟨k, hk, _⟩ => absurd hk (by omega)⟩
  | n + 1 => by
    rw [csK]
    have ih := csK_0 (P := P) (x := x) (v := v) (n := n)
    constructor
    · intro h
      by_cases q : P (x + 3 + n) = v
      · exact ⟨n, by omega, q⟩
      · rw [if_neg q] at h
        obtain ⟨k, hk, e⟩ := ih.mp (by omega)
        exact ⟨k, by omega, e⟩
    · rintro ⟨k, hk, e⟩
      rcases (show k = n ∨ k < n by omega) with z | z
      · subst z; rw [if_pos e]; omega
      · have := ih.mpr ⟨k, z, e⟩; omega
theorem csS_0 {P : Nat → Int32} {q : Nat} {v : Int32} : ∀ {n : Nat}, 0 < csS P q v n ↔ ∃ s k, s < n ∧ k < pn P (rwX q s + 2) ∧ P (rwX q s + 3 + k) = v
  | 0 => ⟨fun h => absurd h (by rw [csS]; omega), fun ⟨s, k, hk, _⟩ => absurd hk (by omega)⟩
  | n + 1 => by
    rw [csS]
    have ih := csS_0 (P := P) (q := q) (v := v) (n := n)
    constructor
    · intro h
      by_cases z : 0 < csK P (rwX q n) v (pn P (rwX q n + 2))
      · obtain ⟨k, hk, e⟩ := csK_0.mp z
        exact ⟨n, k, by omega, hk, e⟩
      · obtain ⟨s, k, hs, e⟩ := ih.mp (by omega)
        exact ⟨s, k, by omega, e⟩
    · rintro ⟨s, k, hs, hk, e⟩
      rcases (show s = n ∨ s < n by omega) with z | z
      · subst z; have := csK_0.mpr ⟨k, hk, e⟩; omega
      · have := ih.mpr ⟨s, k, z, hk, e⟩; omega
/-- the proof q, its steps -/
theorem pf_at {P : Nat → Int32} {R Q q : Nat} (hA : pfA P R Q) (hq : q < Q) : q < 12 ∧ (∃ k, k < 5 ∧ P (114 + q) = nI k ∧ pn P (114 + q) = k) ∧ ∃ s, s ≤ 12 ∧ P (126 + q) = nI s ∧ pn P (126 + q) = s ∧ ∀ j, j < s → okR P R (rwX q j) ∧ ∃ t, 1 ≤ t ∧ t ≤ 3 ∧ P (rwX q j + 2) = nI t ∧ pn P (rwX q j + 2) = t := by
  obtain ⟨⟨k, k5, ek⟩, s, s12, es, hr⟩ := hA.2.2 q hq
  refine ⟨by have := hA.2.1; omega, ⟨k, k5, ek, pn_of ek (by omega)⟩, s, s12, es, pn_of es (by omega), fun j hj => ⟨hr j hj, ?_⟩⟩
  obtain ⟨t, t1, t3, et⟩ := (hr j hj).2.2
  exact ⟨t, t1, t3, et, pn_of et (by omega)⟩
def enC (P : Nat → Int32) (q : Nat) (v : Int32) : Prop := (200 ≤ v ∧ v ≤ 200 + nI q - 1) ∧ (pn P (114 + q) = 2 ∨ pn P (114 + q) = 3)
def enO (P : Nat → Int32) (q : Nat) (v e : Int32) : Prop := (enC P q v ∧ ∃ j, j < q ∧ v = nI (200 + j) ∧ pn (fun _ => v) 0 = 200 + j ∧ e = nI j) ∨ (¬ enC P q v ∧ e = -1)
theorem c_endIn {cg : sg_T} {fn : Nat → Option Nat} {cx : cx_T} {P : Nat → Int32} (hB : BR 1 cg P) {d : Nat} (hd : 1 ≤ d) {q : Nat} {vq v : Int32} (hq : vq = nI q) (q12 : q < 12) {k : Nat} (hk : P (114 + q) = nI k) (k5 : k < 5) : am_Met mi_X0_endIn d 0 0 [.ref 1, .int vq, .int v] (hc cg fn cx) (fun r h' => ∃ e, r = some (.int e) ∧ enO P q v e ∧ h' = (hc cg fn cx)) := by
  refine am_Met.of rfl (Nat.le_of_ble_eq_true rfl) ?_
  refine am_go ok_X0_endIn [] 81 ?_
  have e2 : (200 : Int32) + vq = nI (200 + q) := by rw [hq]; exact nI_add 200 q
  refine ⟨fun c4 => ?_, fun c4 => ?_⟩
  · refine ⟨fun _ => ?_, fun e => absurd rfl e⟩
    exact ⟨trivial, -1, rfl, Or.inr ⟨fun z => i_ltn c4 z.1.1, rfl⟩, rfl⟩
  · refine ⟨fun c13 => ?_, fun c13 => ?_⟩
    · refine ⟨fun _ => ?_, fun e => absurd rfl e⟩
      rw [e2] at c13
      refine ⟨trivial, -1, rfl, Or.inr ⟨fun z => ?_, rfl⟩, rfl⟩
      obtain ⟨j, ej, j1, j2⟩ := rg_of (lo := 200) (n := q) (by omega) z.1.1 z.1.2
      rw [ej] at c13
      have := (nI_leI (by omega) (by omega)).mp c13
      omega
    · rw [e2] at c13
      obtain ⟨j, ej, -, jl⟩ := ix_c (v := v) (m := 200 + q) (by omega) ⟨Int32.le_trans (by decide) (i_nlt c4), Int32.le_of_lt (i_nle c13)⟩
      have j2 : j < 200 + q := by have := i_nle c13; rw [ej] at this; exact (nI_ltI (by omega) (by omega)).mp this
      have j1 : 200 ≤ j := by have := i_nlt c4; rw [ej] at this; exact (nI_leI (a := 200) (by omega) (by omega)).mp this
      have cc : 200 ≤ v ∧ v ≤ 200 + nI q - 1 := by
        refine ⟨i_nlt c4, ?_⟩
        rw [← hq, e2, ej]
        exact (in_of (q := j) (R := 200 + q) j2 (by omega)).2
      refine ⟨fun c23 => absurd c23 (by decide), fun _ => ?_⟩
      refine ⟨_, rfl, d - 1, 0, 0, _, by omega, Nat.le_of_ble_eq_true rfl, Nat.le_of_ble_eq_true rfl, Nat.le_of_ble_eq_true rfl, c_takesEnds hB (d - 1) hq q12 hk k5, ?_⟩
      rintro _ _ ⟨rfl, rfl⟩
      refine ⟨Or.inl rfl, ?_⟩
      refine ⟨fun c31 => ?_, fun c31 => ?_⟩
      · exact ⟨trivial, -1, rfl, Or.inr ⟨fun z => bI_f c31 z.2, rfl⟩, rfl⟩
      · refine ⟨trivial, ?_⟩
        exact ⟨v - 200, rfl, Or.inl ⟨⟨cc, bI_t c31⟩, j - 200, by omega, by rw [ej, show 200 + (j - 200) = j by omega], by rw [pn_of (P := fun _ => v) (j := 0) ej (by omega)]; omega, by rw [ej]; exact pk_sub j1⟩, rfl⟩
theorem c_cs_k {cg : sg_T} {fn : Nat → Option Nat} {cx : cx_T} {P : Nat → Int32} (hB : BR 1 cg P) {d kc ks R Q q s : Nat} {Qp : Option Value → am_H → Prop} {vq v z v5 : Int32} (hA : pfA P R Q) (hqQ : q < Q) (hs : s < pn P (126 + q)) (h5 : v5 = nI (72 * q + 6 * s)) (K : ∀ (w : Int32) (t6 : Option Value), w = nI (csS P q v (s + 1)) → am_W mi_X0_countSources d Qp kc ks 72 [some (.ref 1), some (.int vq), some (.int v), some (.int w), some (.int z), some (.int v5), t6] [] (hc cg fn cx)) : ∀ (u k : Nat) (w z6 : Int32), z6 = nI k → w = nI (csS P q v s + csK P (rwX q s) v k) → k ≤ pn P (rwX q s + 2) → pn P (rwX q s + 2) < k + u → am_W mi_X0_countSources d Qp kc ks 28 [some (.ref 1), some (.int vq), some (.int v), some (.int w), some (.int z), some (.int v5), some (.int z6)] [] (hc cg fn cx) := by
  intro u
  induction u with
  | zero => intro k w z6 hz hw h1 h2; exact absurd h2 (by omega)
  | succ u ih =>
    intro k w z6 hz hw h1 h2
    refine am_go ok_X0_countSources [28, 72] 85 ?_
    obtain ⟨q12, -, st', st12, est, pst, hr⟩ := pf_at hA hqQ
    obtain ⟨hok, t, t1, t3, et, pt⟩ := hr s (by omega)
    have el : cg 11 (72 * q + 6 * s + 2) = nI t := by rw [hB.r _ (by omega)]; exact (show P (138 + (72 * q + 6 * s + 2)) = P (rwX q s + 2) by congr 1; unfold rwX; omega).trans et
    rw [pt] at h1 h2
    refine ⟨_, _, rfl, rfl, ?_⟩
    refine ⟨_, _, (72 * q + 6 * s + 2), rfl, (by rw [h5]; exact nI_add _ 2), by omega, Nat.le_of_ble_eq_true rfl, ?_⟩
    rw [el]
    refine ⟨fun c39 => ?_, fun c39 => ?_⟩
    · rw [hz] at c39
      have k1 : k = t := by have := (nI_leI (by omega) (by omega)).mp c39; omega
      subst k1
      exact K w _ (by rw [hw, csS, pt])
    · have k1 : k < t := by
        rcases Nat.lt_or_ge k t with q1 | q1
        · exact q1
        · exact absurd (by rw [hz]; exact (nI_leI (by omega) (by omega)).mpr q1) c39
      refine ⟨_, _, rfl, rfl, ?_⟩
      refine ⟨_, _, (72 * q + 6 * s + 3 + k), rfl, (by rw [h5, hz]; show nI _ + nI 3 + nI k = _; rw [nI_add, nI_add]), by omega, Nat.le_of_ble_eq_true rfl, ?_⟩
      rw [hB.r _ (by omega), show P (138 + (72 * q + 6 * s + 3 + k)) = P (rwX q s + 3 + k) by congr 1; unfold rwX; omega]
      refine ⟨fun c56 => ?_, fun c56 => ?_⟩
      · first
        | exact ih (k + 1) _ _ (by rw [hz, nI_1]) (by rw [hw, csK, if_neg c56]; exact Int32.add_zero _) (by omega) (by omega)
        | exact ih (k + 1) _ _ (by rw [hz, nI_1]) (by rw [hw, csK, if_pos c56]; exact nI_1 _) (by omega) (by omega)
      · first
        | exact ih (k + 1) _ _ (by rw [hz, nI_1]) (by rw [hw, csK, if_neg c56]; exact Int32.add_zero _) (by omega) (by omega)
        | exact ih (k + 1) _ _ (by rw [hz, nI_1]) (by rw [hw, csK, if_pos c56]; exact nI_1 _) (by omega) (by omega)
theorem c_cs_s {cg : sg_T} {fn : Nat → Option Nat} {cx : cx_T} {P : Nat → Int32} (hB : BR 1 cg P) {d kc ks R Q q : Nat} (hd : 1 ≤ d) {vq v : Int32} (hA : pfA P R Q) (hqQ : q < Q) (hv : vq = nI q) : ∀ (u s : Nat) (w z : Int32) (t5 t6 : Option Value), z = nI s → w = nI (csS P q v s) → s ≤ pn P (126 + q) → pn P (126 + q) < s + u → am_W mi_X0_countSources d (fun r' h' => r' = some (.int (nI (csS P q v (pn P (126 + q))))) ∧ h' = (hc cg fn cx)) kc ks 5 [some (.ref 1), some (.int vq), some (.int v), some (.int w), some (.int z), t5, t6] [] (hc cg fn cx) := by
  intro u
  induction u with
  | zero => intro s w z t5 t6 hz hw h1 h2; exact absurd h2 (by omega)
  | succ u ih =>
    intro s w z t5 t6 hz hw h1 h2
    refine am_go ok_X0_countSources [5, 28] 73 ?_
    obtain ⟨q12, -, st, st12, est, pst, hr⟩ := pf_at hA hqQ
    have pst' := pst
    rw [pst] at h1 h2
    refine ⟨_, _, rfl, rfl, ?_⟩
    refine ⟨_, _, q, rfl, hv, by omega, Nat.le_of_ble_eq_true rfl, ?_⟩
    rw [hB.s q q12, est]
    refine ⟨fun c13 => ?_, fun c13 => ?_⟩
    · rw [hz] at c13
      have k1 : s = st := by have := (nI_leI (by omega) (by omega)).mp c13; omega
      subst k1
      refine ⟨trivial, ?_⟩
      exact ⟨by rw [hw, pst], rfl⟩
    · have k1 : s < st := by
        rcases Nat.lt_or_ge s st with q1 | q1
        · exact q1
        · exact absurd (by rw [hz]; exact (nI_leI (by omega) (by omega)).mpr q1) c13
      refine ⟨_, rfl, d - 1, 0, 0, _, by omega, Nat.le_of_ble_eq_true rfl, Nat.le_of_ble_eq_true rfl, Nat.le_of_ble_eq_true rfl, c_rowOf (d - 1) hv hz, ?_⟩
      rintro _ _ ⟨rfl, rfl⟩
      refine ⟨Or.inl rfl, ?_⟩
      exact c_cs_k hB hA hqQ (by omega) rfl (fun w' t6' hw' => am_go ok_X0_countSources [5] 60 (ih (s + 1) w' _ _ _ (by rw [hz, nI_1]) hw' (by omega) (by omega))) (pn P (rwX q s + 2) + 1) 0 w 0 rfl (by rw [hw]; rfl) (by omega) (by omega)
theorem c_countSources {cg : sg_T} {fn : Nat → Option Nat} {cx : cx_T} {P : Nat → Int32} (hB : BR 1 cg P) {d R Q q : Nat} (hd : 1 ≤ d) {vq : Int32} (v : Int32) (hA : pfA P R Q) (hqQ : q < Q) (hv : vq = nI q) : am_Met mi_X0_countSources d 0 0 [.ref 1, .int vq, .int v] (hc cg fn cx) (fun r' h' => r' = some (.int (nI (csS P q v (pn P (126 + q))))) ∧ h' = (hc cg fn cx)) := by
  refine am_Met.of rfl (Nat.le_of_ble_eq_true rfl) ?_
  refine am_go ok_X0_countSources [5] 64 ?_
  exact c_cs_s hB hd hA hqQ hv (pn P (126 + q) + 1) 0 0 0 none none rfl rfl (by omega) (by omega)
theorem c_holesOf {cg : sg_T} {fn : Nat → Option Nat} {cx : cx_T} {P : Nat → Int32} (hB : BR 1 cg P) {d R Q q : Nat} (hd : 2 ≤ d) {vq : Int32} (hA : pfA P R Q) (hqQ : q < Q) (hv : vq = nI q) : am_Met mi_X0_holesOf d 0 0 [.ref 1, .int vq] (hc cg fn cx) (fun r' h' => r' = some (.int (if pn P (114 + q) = 1 ∨ pn P (114 + q) = 4 then nI (hoS P q (pn P (126 + q))) else 0)) ∧ h' = (hc cg fn cx)) := by
  refine am_Met.of rfl (Nat.le_of_ble_eq_true rfl) ?_
  refine am_go ok_X0_holesOf [] 69 ?_
  obtain ⟨q12, ⟨k, k5, ek, pk⟩, -⟩ := pf_at hA hqQ
  refine ⟨_, rfl, d - 1, 0, 0, _, by omega, Nat.le_of_ble_eq_true rfl, Nat.le_of_ble_eq_true rfl, Nat.le_of_ble_eq_true rfl, c_takesHoles hB (d - 1) hv q12 ek k5, ?_⟩
  rintro _ _ ⟨rfl, rfl⟩
  refine ⟨Or.inl rfl, ?_⟩
  refine ⟨fun c5 => ?_, fun c5 => ?_⟩
  · refine ⟨trivial, ?_⟩
    first
    | rw [if_pos (bI_t c5), csS_h]; exact ⟨rfl, rfl⟩
    | rw [if_neg (bI_f c5)]; exact ⟨rfl, rfl⟩
  · refine ⟨_, rfl, d - 1, 0, 0, _, by omega, Nat.le_of_ble_eq_true rfl, Nat.le_of_ble_eq_true rfl, Nat.le_of_ble_eq_true rfl, c_countSources hB (by omega) 300 hA hqQ hv, ?_⟩
    rintro _ _ ⟨rfl, rfl⟩
    refine ⟨Or.inl rfl, ?_⟩
    refine ⟨trivial, ?_⟩
    first
    | rw [if_pos (bI_t c5), csS_h]; exact ⟨rfl, rfl⟩
    | rw [if_neg (bI_f c5)]; exact ⟨rfl, rfl⟩
theorem c_isTitled_l {cg : sg_T} {fn : Nat → Option Nat} {cx : cx_T} {P : Nat → Int32} (hB : BR 1 cg P) {d kc ks Q T : Nat} {v : Int32} (hT : ttA P Q T) : ∀ (u t : Nat) (z : Int32), z = nI t → (∀ i, i < t → ¬ P (1002 + i) = v) → t ≤ T → T < t + u → am_W mi_X0_isTitled d (fun r h' => ∃ b, r = some (.int (bI b)) ∧ (b = true ↔ ∃ t, t < T ∧ P (1002 + t) = v) ∧ h' = (hc cg fn cx)) kc ks 2 [some (.ref 1), some (.int v), some (.int z)] [] (hc cg fn cx) := by
  intro u
  induction u with
  | zero => intro t z hz hA h1 h2; exact absurd h2 (by omega)
  | succ u ih =>
    intro t z hz hA h1 h2
    refine am_go ok_X0_isTitled [2] 74 ?_
    have T10 := hT.2.1
    refine ⟨_, _, rfl, rfl, ?_⟩
    refine ⟨_, _, 5, rfl, rfl, Nat.le_of_ble_eq_true rfl, Nat.le_of_ble_eq_true rfl, ?_⟩
    rw [hB.c 5 (by omega), hT.1]
    refine ⟨fun c9 => ?_, fun c9 => ?_⟩
    · rw [hz] at c9
      have k1 : t = T := by have := (nI_leI (by omega) (by omega)).mp c9; omega
      subst k1
      refine ⟨rfl, ?_⟩
      exact ⟨false, rfl, ⟨fun w => absurd w (by decide), fun ⟨i, hi, e⟩ => absurd e (hA i hi)⟩, rfl⟩
    · have k1 : t < T := by
        rcases Nat.lt_or_ge t T with q1 | q1
        · exact q1
        · exact absurd (by rw [hz]; exact (nI_leI (by omega) (by omega)).mpr q1) c9
      refine ⟨_, _, rfl, rfl, ?_⟩
      refine ⟨_, _, t, rfl, hz, by omega, Nat.le_of_ble_eq_true rfl, ?_⟩
      rw [hB.tq t (by omega)]
      refine ⟨fun c19 => ?_, fun c19 => ?_⟩
      · exact ih (t + 1) _ (by rw [hz, nI_1]) (fun i hi => by rcases (show i = t ∨ i < t by omega) with e | e; (subst e; exact c19); exact hA i e) (by omega) (by omega)
      · refine ⟨rfl, ?_⟩
        exact ⟨true, rfl, ⟨fun _ => ⟨t, k1, c19⟩, fun _ => rfl⟩, rfl⟩
theorem c_isTitled {cg : sg_T} {fn : Nat → Option Nat} {cx : cx_T} {P : Nat → Int32} (hB : BR 1 cg P) {d Q T : Nat} (v : Int32) (hT : ttA P Q T) : am_Met mi_X0_isTitled d 0 0 [.ref 1, .int v] (hc cg fn cx) (fun r h' => ∃ b, r = some (.int (bI b)) ∧ (b = true ↔ ∃ t, t < T ∧ P (1002 + t) = v) ∧ h' = (hc cg fn cx)) := by
  refine am_Met.of rfl (Nat.le_of_ble_eq_true rfl) ?_
  refine am_go ok_X0_isTitled [2] 62 ?_
  exact c_isTitled_l hB hT (T + 1) 0 0 rfl (fun i hi => absurd hi (by omega)) (by omega) (by omega)
theorem c_isTitleOf_l {cg : sg_T} {fn : Nat → Option Nat} {cx : cx_T} {P : Nat → Int32} (hB : BR 1 cg P) {d kc ks Q T : Nat} {v : Int32} (hT : ttA P Q T) : ∀ (u t : Nat) (z : Int32), z = nI t → (∀ i, i < t → ¬ P (1022 + i) = v) → t ≤ T → T < t + u → am_W mi_X0_isTitleOf d (fun r h' => ∃ b, r = some (.int (bI b)) ∧ (b = true ↔ ∃ t, t < T ∧ P (1022 + t) = v) ∧ h' = (hc cg fn cx)) kc ks 2 [some (.ref 1), some (.int v), some (.int z)] [] (hc cg fn cx) := by
  intro u
  induction u with
  | zero => intro t z hz hA h1 h2; exact absurd h2 (by omega)
  | succ u ih =>
    intro t z hz hA h1 h2
    refine am_go ok_X0_isTitleOf [2] 74 ?_
    have T10 := hT.2.1
    refine ⟨_, _, rfl, rfl, ?_⟩
    refine ⟨_, _, 5, rfl, rfl, Nat.le_of_ble_eq_true rfl, Nat.le_of_ble_eq_true rfl, ?_⟩
    rw [hB.c 5 (by omega), hT.1]
    refine ⟨fun c9 => ?_, fun c9 => ?_⟩
    · rw [hz] at c9
      have k1 : t = T := by have := (nI_leI (by omega) (by omega)).mp c9; omega
      subst k1
      refine ⟨rfl, ?_⟩
      exact ⟨false, rfl, ⟨fun w => absurd w (by decide), fun ⟨i, hi, e⟩ => absurd e (hA i hi)⟩, rfl⟩
    · have k1 : t < T := by
        rcases Nat.lt_or_ge t T with q1 | q1
        · exact q1
        · exact absurd (by rw [hz]; exact (nI_leI (by omega) (by omega)).mpr q1) c9
      refine ⟨_, _, rfl, rfl, ?_⟩
      refine ⟨_, _, t, rfl, hz, by omega, Nat.le_of_ble_eq_true rfl, ?_⟩
      rw [hB.tf t (by omega)]
      refine ⟨fun c19 => ?_, fun c19 => ?_⟩
      · exact ih (t + 1) _ (by rw [hz, nI_1]) (fun i hi => by rcases (show i = t ∨ i < t by omega) with e | e; (subst e; exact c19); exact hA i e) (by omega) (by omega)
      · refine ⟨rfl, ?_⟩
        exact ⟨true, rfl, ⟨fun _ => ⟨t, k1, c19⟩, fun _ => rfl⟩, rfl⟩
theorem c_isTitleOf {cg : sg_T} {fn : Nat → Option Nat} {cx : cx_T} {P : Nat → Int32} (hB : BR 1 cg P) {d Q T : Nat} (v : Int32) (hT : ttA P Q T) : am_Met mi_X0_isTitleOf d 0 0 [.ref 1, .int v] (hc cg fn cx) (fun r h' => ∃ b, r = some (.int (bI b)) ∧ (b = true ↔ ∃ t, t < T ∧ P (1022 + t) = v) ∧ h' = (hc cg fn cx)) := by
  refine am_Met.of rfl (Nat.le_of_ble_eq_true rfl) ?_
  refine am_go ok_X0_isTitleOf [2] 62 ?_
  exact c_isTitleOf_l hB hT (T + 1) 0 0 rfl (fun i hi => absurd hi (by omega)) (by omega) (by omega)
theorem c_isUsed_l {cg : sg_T} {fn : Nat → Option Nat} {cx : cx_T} {P : Nat → Int32} (hB : BR 1 cg P) {d kc ks R Q q : Nat} (hd : 3 ≤ d) {vq : Int32} (hA : pfA P R Q) (hqQ : q < Q) (hv : vq = nI q) : ∀ (u p : Nat) (z : Int32), z = nI p → q < p → (∀ o s k, q < o → o < p → ¬ usO P q o s k) → p ≤ Q → Q < p + u → am_W mi_X0_isUsed d (fun r h' => ∃ b, r = some (.int (bI b)) ∧ (b = true ↔ ∃ o s k, q < o ∧ o < Q ∧ usO P q o s k) ∧ h' = (hc cg fn cx)) kc ks 4 [some (.ref 1), some (.int vq), some (.int z)] [] (hc cg fn cx) := by
  intro u
  induction u with
  | zero => intro p z hz qp hN h1 h2; exact absurd h2 (by omega)
  | succ u ih =>
    intro p z hz qp hN h1 h2
    refine am_go ok_X0_isUsed [4] 79 ?_
    have Q12 := hA.2.1
    refine ⟨_, _, rfl, rfl, ?_⟩
    refine ⟨_, _, 4, rfl, rfl, Nat.le_of_ble_eq_true rfl, Nat.le_of_ble_eq_true rfl, ?_⟩
    rw [hB.c 4 (by omega), hA.1]
    refine ⟨fun c11 => ?_, fun c11 => ?_⟩
    · rw [hz] at c11
      have k1 : p = Q := by have := (nI_leI (by omega) (by omega)).mp c11; omega
      subst k1
      refine ⟨rfl, ?_⟩
      exact ⟨false, rfl, ⟨fun w => absurd w (by decide), fun ⟨o, s, k, h3, h4, h5⟩ => absurd h5 (hN o s k h3 h4)⟩, rfl⟩
    · have k1 : p < Q := by
        rcases Nat.lt_or_ge p Q with q1 | q1
        · exact q1
        · exact absurd (by rw [hz]; exact (nI_leI (by omega) (by omega)).mpr q1) c11
      obtain ⟨p12, ⟨k, k5, ek, pk⟩, -⟩ := pf_at hA k1
      refine ⟨_, rfl, d - 1, 0, 0, _, by omega, Nat.le_of_ble_eq_true rfl, Nat.le_of_ble_eq_true rfl, Nat.le_of_ble_eq_true rfl, c_takesEnds hB (d - 1) hz p12 ek k5, ?_⟩
      rintro _ _ ⟨rfl, rfl⟩
      refine ⟨Or.inl rfl, ?_⟩
      refine ⟨fun c19 => ?_, fun c19 => ?_⟩
      · have hn' : ∀ s k, ¬ usO P q p s k := fun s k w => bI_f c19 w.1
        exact ih (p + 1) _ (by rw [hz, nI_1]) (by omega) (fun o s k h3 h4 => by rcases (show o = p ∨ o < p by omega) with e | e; (subst e; exact hn' s k); exact hN o s k h3 e) (by omega) (by omega)
      · refine ⟨_, rfl, d - 1, 0, 0, _, by omega, Nat.le_of_ble_eq_true rfl, Nat.le_of_ble_eq_true rfl, Nat.le_of_ble_eq_true rfl, c_countSources hB (by omega) _ hA k1 hz, ?_⟩
        rintro _ _ ⟨rfl, rfl⟩
        refine ⟨Or.inl rfl, ?_⟩
        refine ⟨fun c32 => ?_, fun c32 => ?_⟩
        · have hn' : ∀ s k, ¬ usO P q p s k := by
            intro s k w
            have := csS_0.mpr ⟨s, k, w.2.1, w.2.2.1, w.2.2.2⟩
            rw [hv] at c32
            obtain ⟨-, -, st, st12, -, pst, hr⟩ := pf_at hA k1
            have l := csS_le (P := P) (q := p) (v := 200 + nI q) (s := pn P (126 + p)) (fun j hj => by obtain ⟨-, t, t1, t3, -, pt⟩ := hr j (by omega); omega)
            have := (nI_leI (b := 0) (by omega) (by omega)).mp c32
            omega
          exact ih (p + 1) _ (by rw [hz, nI_1]) (by omega) (fun o s k h3 h4 => by rcases (show o = p ∨ o < p by omega) with e | e; (subst e; exact hn' s k); exact hN o s k h3 e) (by omega) (by omega)
        · have l0 : 0 < csS P p (200 + nI q) (pn P (126 + p)) := by
            rcases Nat.eq_zero_or_pos (csS P p (200 + nI q) (pn P (126 + p))) with z | z
            · rw [hv, z] at c32; exact absurd (by decide) c32
            · exact z
          obtain ⟨s, k', hs, hk', e'⟩ := csS_0.mp l0
          refine ⟨rfl, ?_⟩
          exact ⟨true, rfl, ⟨fun _ => ⟨p, s, k', qp, k1, bI_t c19, hs, hk', e'⟩, fun _ => rfl⟩, rfl⟩
theorem c_isUsed {cg : sg_T} {fn : Nat → Option Nat} {cx : cx_T} {P : Nat → Int32} (hB : BR 1 cg P) {d R Q q : Nat} (hd : 3 ≤ d) {vq : Int32} (hA : pfA P R Q) (hqQ : q < Q) (hv : vq = nI q) : am_Met mi_X0_isUsed d 0 0 [.ref 1, .int vq] (hc cg fn cx) (fun r h' => ∃ b, r = some (.int (bI b)) ∧ (b = true ↔ ∃ o s k, q < o ∧ o < Q ∧ usO P q o s k) ∧ h' = (hc cg fn cx)) := by
  refine am_Met.of rfl (Nat.le_of_ble_eq_true rfl) ?_
  refine am_go ok_X0_isUsed [4] 64 ?_
  exact c_isUsed_l hB hd hA hqQ hv (Q + 1) (q + 1) _ (by rw [hv, nI_1]) (by omega) (fun o s k h3 h4 => absurd h4 (by omega)) (by omega) (by omega)
