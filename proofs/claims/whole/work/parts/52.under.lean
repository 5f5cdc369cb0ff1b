/-! papersUnder -/
theorem orA_w (f : Nat → Int32) (w : Int32) : ∀ k, orA w f k = w ||| orA 0 f k
  | 0 => by rw [orA, orA]; exact Int32.or_zero.symm
  | k + 1 => by rw [orA, orA, orA_w f w k, Int32.or_assoc]
theorem orA_cg {f g : Nat → Int32} {w : Int32} : ∀ {n : Nat}, (∀ k, k < n → f k = g k) → orA w f n = orA w g n
  | 0, _ => rfl
  | n + 1, h => by rw [orA, orA, orA_cg (fun k hk => h k (by omega)), h n (by omega)]
theorem lnT_cg {P : Nat → Int32} {ln ln' : Nat → Int32} {q x k : Nat} (q12 : q < 12) (h : ∀ p, p < q → ln' p = ln p) : lnT P ln' q x k = lnT P ln q x k := by
  unfold lnT
  by_cases c1 : 0 ≤ P (x + 3 + k) ∧ P (x + 3 + k) ≤ P 3 - 1
  · rw [if_pos c1, if_pos c1]
  rw [if_neg c1, if_neg c1]
  by_cases c2 : (200 ≤ P (x + 3 + k) ∧ P (x + 3 + k) ≤ 200 + nI q - 1) ∧ (pn P (114 + q) = 2 ∨ pn P (114 + q) = 3)
  · rw [if_pos c2, if_pos c2]
    obtain ⟨j, ej, jl, jn⟩ := rg_of (lo := 200) (n := q) (by omega) c2.1.1 c2.1.2
    rw [pn_of ej (by omega), h _ (by omega)]
  rw [if_neg c2, if_neg c2]
theorem lnS_cg {P : Nat → Int32} {ln ln' : Nat → Int32} {q : Nat} (q12 : q < 12) (h : ∀ p, p < q → ln' p = ln p) : ∀ s, lnS P ln' q s = lnS P ln q s
  | 0 => rfl
  | s + 1 => by rw [lnS, lnS, lnS_cg q12 h s, orA_cg (fun k _ => lnT_cg q12 h)]
theorem ln_fuel {P : Nat → Int32} : ∀ (m q F F' : Nat), q < 12 → q < m → m ≤ F → m ≤ F' → lnN P F q = lnN P F' q
  | 0, q, F, F', _, h, _, _ => absurd h (by omega)
  | m + 1, q, F, F', q12, h, hF, hF' => by
    obtain ⟨f, rfl⟩ : ∃ f, F = f + 1 := ⟨F - 1, by omega⟩
    obtain ⟨f', rfl⟩ : ∃ f, F' = f + 1 := ⟨F' - 1, by omega⟩
    rw [lnN, lnN]
    exact lnS_cg q12 (fun p hp => ln_fuel m p f f' (by omega) (by omega) (by omega) (by omega)) _
theorem ln_eq {P : Nat → Int32} {q : Nat} (q12 : q < 12) : lnV P q = lnS P (lnV P) q (pn P (126 + q)) := by
  rw [show lnV P q = lnN P 13 q from ln_fuel 12 q 12 13 q12 q12 (by omega) (by omega), lnN]
theorem c_us_l {cg : sg_T} {fn : Nat → Option Nat} {cx : cx_T} {P : Nat → Int32} (hB : BR 1 cg P) {d kc ks : Nat} (hd : 2 ≤ d) {R C n Q : Nat} (hW : wkA P R C n) (hA : pfA P R Q) {q s : Nat} {vq vx : Int32} (hq : vq = nI q) (qQ : q < Q) (sS : s < pn P (126 + q)) (hx : vx = nI (72 * q + 6 * s)) (hu : ∀ p, p < q → cg 82 p = lnV P p) : ∀ (u k : Nat) (w z : Int32) (t5 t6 : Option Value), z = nI k → w = orA 0 (lnT P (lnV P) q (rwX q s)) k → k ≤ pn P (rwX q s + 2) → pn P (rwX q s + 2) < k + u → am_W mi_X2_papersUnderStep d (fun r' h' => r' = some (.int (orA 0 (lnT P (lnV P) q (rwX q s)) (pn P (rwX q s + 2)))) ∧ h' = (hc cg fn cx)) kc ks 5 [some (.ref 78), some (.int vq), some (.int vx), some (.int w), some (.int z), t5, t6] [] (hc cg fn cx) := by
  intro u
  induction u with
  | zero => intro k w z t5 t6 hz hw h1 h2; exact absurd h2 (by omega)
  | succ u ih =>
    intro k w z t5 t6 hz hw h1 h2
    refine am_go ok_X2_papersUnderStep [5] 102 ?_
    have w3 := hW.2.2.2.2.2.2.1
    have n20 := hW.2.2.2.2.2.2.2.1
    obtain ⟨q12, s12, -, -, -, -, -, -, -, -, -, t, t1, t3, et, pt⟩ := ok_fc hW hA qQ sS
    obtain ⟨-, ⟨kd, kd5, ekd, pkd⟩, -⟩ := pf_at hA qQ
    refine ⟨_, _, rfl, rfl, ?_⟩
    refine ⟨_, _, rfl, rfl, ?_⟩
    refine ⟨_, _, (72 * q + 6 * s + 2), rfl, (by rw [hx]; exact nI_add _ 2), by omega, Nat.le_of_ble_eq_true rfl, ?_⟩
    rw [row_c hB q12 s12 (by omega), et]
    refine ⟨fun c18 => ?_, fun c18 => ?_⟩
    · rw [hz] at c18
      have k1 : k = pn P (rwX q s + 2) := by rw [pt]; have := (nI_leI (by omega) (by omega)).mp c18; omega
      refine ⟨trivial, ?_⟩
      exact ⟨by rw [hw, k1], rfl⟩
    · rw [pt] at h1 h2
      have k1 : k < t := by
        rcases Nat.lt_or_ge k t with q1 | q1
        · exact q1
        · exact absurd (by rw [hz]; exact (nI_leI (by omega) (by omega)).mpr q1) c18
      have er : ∀ e, (0 ≤ P (rwX q s + 3 + k) ∧ P (rwX q s + 3 + k) ≤ P 3 - 1 → e = 1 <<< (P (rwX q s + 3 + k) &&& 31)) → (¬ (0 ≤ P (rwX q s + 3 + k) ∧ P (rwX q s + 3 + k) ≤ P 3 - 1) → ∀ j, enC P q (P (rwX q s + 3 + k)) → P (rwX q s + 3 + k) = nI (200 + j) → j < q → e = lnV P j) → (¬ (0 ≤ P (rwX q s + 3 + k) ∧ P (rwX q s + 3 + k) ≤ P 3 - 1) → ¬ enC P q (P (rwX q s + 3 + k)) → e = 0) → e = lnT P (lnV P) q (rwX q s) k := by
        intro e e1 e2 e3
        unfold lnT
        by_cases c1 : 0 ≤ P (rwX q s + 3 + k) ∧ P (rwX q s + 3 + k) ≤ P 3 - 1
        · rw [if_pos c1]; exact e1 c1
        rw [if_neg c1]
        by_cases c2 : (200 ≤ P (rwX q s + 3 + k) ∧ P (rwX q s + 3 + k) ≤ 200 + nI q - 1) ∧ (pn P (114 + q) = 2 ∨ pn P (114 + q) = 3)
        · rw [if_pos c2]
          obtain ⟨j, ej, jl, jn⟩ := rg_of (lo := 200) (n := q) (by omega) c2.1.1 c2.1.2
          rw [pn_of ej (by omega)]
          exact e2 c1 (j - 200) c2 (by rw [ej, show 200 + (j - 200) = j by omega]) (by omega)
        · rw [if_neg c2]; exact e3 c1 c2
      refine ⟨_, _, rfl, rfl, ?_⟩
      refine ⟨_, _, rfl, rfl, ?_⟩
      refine ⟨_, _, (72 * q + 6 * s + (3 + k)), rfl, (by rw [hx, hz]; show nI _ + nI 3 + nI k = _; rw [nI_add, nI_add, Nat.add_assoc]), by omega, Nat.le_of_ble_eq_true rfl, ?_⟩
      rw [row_c hB q12 s12 (by omega), ← Nat.add_assoc (rwX q s) 3 k]
      refine ⟨_, _, rfl, rfl, ?_⟩
      refine ⟨_, rfl, d - 1, 0, 0, _, by omega, Nat.le_of_ble_eq_true rfl, Nat.le_of_ble_eq_true rfl, Nat.le_of_ble_eq_true rfl, c_endIn hB (by omega) hq q12 ekd kd5, ?_⟩
      rintro _ _ ⟨e, rfl, he, rfl⟩
      refine ⟨Or.inl rfl, ?_⟩
      refine ⟨_, _, rfl, rfl, ?_⟩
      refine ⟨_, rfl, d - 1, 0, 0, _, by omega, Nat.le_of_ble_eq_true rfl, Nat.le_of_ble_eq_true rfl, Nat.le_of_ble_eq_true rfl, c_has (w := 3) (n := n) (d - 1) _ rfl (by omega) ((hB.c 3 (by omega)).trans w3) (by omega), ?_⟩
      rintro _ _ ⟨rfl, rfl⟩
      refine ⟨Or.inl rfl, ?_⟩
      refine ⟨fun c59 => ?_, fun c59 => ?_⟩
      · have c1 : ¬ (0 ≤ P (rwX q s + 3 + k) ∧ P (rwX q s + 3 + k) ≤ P 3 - 1) := by rw [w3]; exact bI_f c59
        refine ⟨fun c74 => ?_, fun c74 => ?_⟩
        · have ev := er 0 (fun z => absurd z c1) (fun _ j hc _ _ => by
            rcases he with ⟨-, j', j'q, -, -, ee⟩ | ⟨z, -⟩
            · exact absurd c74 (by rw [ee]; exact nI_pos (by omega))
            · exact absurd hc z) (fun _ _ => rfl)
          first
          | exact ih (k + 1) _ _ _ _ (by rw [hz, nI_1]) (by rw [orA, hw, ← ev]; exact Int32.or_zero.symm) (by omega) (by omega)
          | exact ih (k + 1) _ _ _ _ (by rw [hz, nI_1]) (by rw [orA, hw, ← ev]) (by omega) (by omega)
        · obtain ⟨cE, j, jq, ej, -, ee⟩ : enC P q (P (rwX q s + 3 + k)) ∧ ∃ j, j < q ∧ P (rwX q s + 3 + k) = nI (200 + j) ∧ pn (fun _ => P (rwX q s + 3 + k)) 0 = 200 + j ∧ e = nI j := by
            rcases he with z | ⟨-, z⟩
            · exact z
            · rw [z] at c74; exact absurd (by decide) c74
          have ev := er (lnV P j) (fun z => absurd z c1) (fun _ j' _ ej' _ => by have := (nI_eq (by omega) (by omega)).mp (ej.symm.trans ej'); rw [show j = j' by omega]) (fun _ z => absurd cE z)
          refine ⟨_, _, rfl, rfl, ?_⟩
          refine ⟨_, _, j, rfl, ee, by omega, Nat.le_of_ble_eq_true rfl, ?_⟩
          rw [hu j jq]
          first
          | exact ih (k + 1) _ _ _ _ (by rw [hz, nI_1]) (by rw [orA, hw, ← ev]; exact Int32.or_zero.symm) (by omega) (by omega)
          | exact ih (k + 1) _ _ _ _ (by rw [hz, nI_1]) (by rw [orA, hw, ← ev]) (by omega) (by omega)
      · have c1 : 0 ≤ P (rwX q s + 3 + k) ∧ P (rwX q s + 3 + k) ≤ P 3 - 1 := by rw [w3]; exact bI_t c59
        have ev := er (1 <<< (P (rwX q s + 3 + k) &&& 31)) (fun _ => rfl) (fun z => absurd c1 z) (fun z => absurd c1 z)
        first
        | exact ih (k + 1) _ _ _ _ (by rw [hz, nI_1]) (by rw [orA, hw, ← ev]; exact Int32.or_zero.symm) (by omega) (by omega)
        | exact ih (k + 1) _ _ _ _ (by rw [hz, nI_1]) (by rw [orA, hw, ← ev]) (by omega) (by omega)
theorem c_papersUnderStep {cg : sg_T} {fn : Nat → Option Nat} {cx : cx_T} {P : Nat → Int32} (hB : BR 1 cg P) {d : Nat} (hd : 2 ≤ d) {R C n Q : Nat} (hW : wkA P R C n) (hA : pfA P R Q) {q s : Nat} {vq vx : Int32} (hq : vq = nI q) (qQ : q < Q) (sS : s < pn P (126 + q)) (hx : vx = nI (72 * q + 6 * s)) (hu : ∀ p, p < q → cg 82 p = lnV P p) : am_Met mi_X2_papersUnderStep d 0 0 [.ref 78, .int vq, .int vx] (hc cg fn cx) (fun r' h' => r' = some (.int (orA 0 (lnT P (lnV P) q (rwX q s)) (pn P (rwX q s + 2)))) ∧ h' = (hc cg fn cx)) := by
  refine am_Met.of rfl (Nat.le_of_ble_eq_true rfl) ?_
  refine am_go ok_X2_papersUnderStep [5] 64 ?_
  exact c_us_l hB hd hW hA hq qQ sS hx hu (pn P (rwX q s + 2) + 1) 0 0 0 none none rfl rfl (by omega) (by omega)
theorem c_pu_s {cg0 : sg_T} {fn : Nat → Option Nat} {cx : cx_T} {P : Nat → Int32} {d kc ks : Nat} (hd : 4 ≤ d) {R C n Q : Nat} (hW : wkA P R C n) (hA : pfA P R Q) (hB0 : BR 1 cg0 P) {vq : Int32} {Qp : Option Value → am_H → Prop} {p : Nat} {vp : Int32} (hp : vp = nI p) (pQ : p < Q) (K : ∀ (cg : sg_T) (t3 : Option Value), (∀ a, a ≠ 82 → cg a = cg0 a) → (∀ j, j < p + 1 → cg 82 j = lnV P j) → am_W mi_X2_papersUnder d Qp kc ks 58 [some (.ref 78), some (.int vq), some (.int vp), t3] [] (hc cg fn cx)) : ∀ (u s : Nat) (z : Int32) (cg : sg_T), z = nI s → (∀ a, a ≠ 82 → cg a = cg0 a) → (∀ j, j < p → cg 82 j = lnV P j) → cg 82 p = lnS P (lnV P) p s → s ≤ pn P (126 + p) → pn P (126 + p) < s + u → am_W mi_X2_papersUnder d Qp kc ks 16 [some (.ref 78), some (.int vq), some (.int vp), some (.int z)] [] (hc cg fn cx) := by
  intro u
  induction u with
  | zero => intro s z cg hz hF hu hp2 h1 h2; exact absurd h2 (by omega)
  | succ u ih =>
    intro s z cg hz hF hu hp2 h1 h2
    refine am_go ok_X2_papersUnder [16, 58] 84 ?_
    have hB : BR 1 cg P := BR_fr hW hB0 (fun a ha => hF a (by omega))
    obtain ⟨p12, -, st, st12, est, pst, -⟩ := pf_at hA pQ
    rw [pst] at h1 h2
    refine ⟨_, _, rfl, rfl, ?_⟩
    refine ⟨_, _, rfl, rfl, ?_⟩
    refine ⟨_, _, p, rfl, hp, by omega, Nat.le_of_ble_eq_true rfl, ?_⟩
    rw [hB.s p p12, est]
    refine ⟨fun c26 => ?_, fun c26 => ?_⟩
    · rw [hz] at c26
      have k1 : s = st := by have := (nI_leI (by omega) (by omega)).mp c26; omega
      exact K cg _ hF (fun j hj => by
        rcases (show j = p ∨ j < p by omega) with e | e
        · rw [e, hp2, ln_eq p12, pst, k1]
        · exact hu j e)
    · have k1 : s < st := by
        rcases Nat.lt_or_ge s st with q1 | q1
        · exact q1
        · exact absurd (by rw [hz]; exact (nI_leI (by omega) (by omega)).mpr q1) c26
      refine ⟨_, _, rfl, rfl, ?_⟩
      refine ⟨_, _, p, rfl, hp, by omega, Nat.le_of_ble_eq_true rfl, ?_⟩
      rw [hp2]
      refine ⟨_, _, rfl, rfl, ?_⟩
      refine ⟨_, rfl, d - 1, 0, 0, _, by omega, Nat.le_of_ble_eq_true rfl, Nat.le_of_ble_eq_true rfl, Nat.le_of_ble_eq_true rfl, c_rowOf (d - 1) hp hz, ?_⟩
      rintro _ _ ⟨rfl, rfl⟩
      refine ⟨Or.inl rfl, ?_⟩
      refine ⟨_, rfl, d - 1, 0, 0, _, by omega, Nat.le_of_ble_eq_true rfl, Nat.le_of_ble_eq_true rfl, Nat.le_of_ble_eq_true rfl, c_papersUnderStep hB (by omega) hW hA hp pQ (by omega) rfl hu, ?_⟩
      rintro _ _ ⟨rfl, rfl⟩
      refine ⟨Or.inl rfl, ?_⟩
      refine ⟨_, _, p, rfl, hp, by omega, Nat.le_of_ble_eq_true rfl, ?_⟩
      rw [hc_a82]
      exact ih (s + 1) _ _ (by rw [hz, nI_1]) (fun a ha => (sg_i ha).trans (hF a ha)) (fun j hj => (sg_j (by omega)).trans (hu j hj)) (by rw [sg_s, lnS]; exact (orA_w _ _ _).symm) (by omega) (by omega)
theorem c_pu_p {cg0 : sg_T} {fn : Nat → Option Nat} {cx : cx_T} {P : Nat → Int32} {d kc ks : Nat} (hd : 4 ≤ d) {R C n Q : Nat} (hW : wkA P R C n) (hA : pfA P R Q) (hB0 : BR 1 cg0 P) {vq : Int32} {q : Nat} (hq : vq = nI q) (qQ : q < Q) : ∀ (u p : Nat) (z : Int32) (t3 : Option Value) (cg : sg_T), z = nI p → (∀ a, a ≠ 82 → cg a = cg0 a) → (∀ j, j < p → cg 82 j = lnV P j) → p ≤ q + 1 → q + 1 < p + u → am_W mi_X2_papersUnder d (fun r' h' => r' = some (.int (lnV P q)) ∧ ∃ cg', h' = hc cg' fn cx ∧ (∀ a, a ≠ 82 → cg' a = cg0 a)) kc ks 2 [some (.ref 78), some (.int vq), some (.int z), t3] [] (hc cg fn cx) := by
  intro u
  induction u with
  | zero => intro p z t3 cg hz hF hu h1 h2; exact absurd h2 (by omega)
  | succ u ih =>
    intro p z t3 cg hz hF hu h1 h2
    refine am_go ok_X2_papersUnder [2, 16] 70 ?_
    have q12 := (pf_at hA qQ).1
    refine ⟨fun c4 => ?_, fun c4 => ?_⟩
    · have k1 : p = q + 1 := by rw [hz, hq] at c4; have := (nI_ltI (by omega) (by omega)).mp c4; omega
      refine ⟨_, _, rfl, rfl, ?_⟩
      refine ⟨_, _, q, rfl, hq, by omega, Nat.le_of_ble_eq_true rfl, ?_⟩
      rw [hu q (by omega)]
      refine ⟨trivial, ?_⟩
      exact ⟨rfl, cg, rfl, hF⟩
    · have k1 : p ≤ q := by
        rcases Nat.lt_or_ge q p with z1 | z1
        · exact absurd (by rw [hz, hq]; exact (nI_ltI (by omega) (by omega)).mpr z1) c4
        · exact z1
      obtain ⟨p12, -⟩ := pf_at hA (show p < Q by omega)
      refine ⟨_, _, rfl, rfl, ?_⟩
      refine ⟨_, _, p, rfl, hz, by omega, Nat.le_of_ble_eq_true rfl, ?_⟩
      rw [hc_a82]
      exact c_pu_s hd hW hA hB0 hz (by omega) (fun cg2 t3' f1 f2 => am_go ok_X2_papersUnder [2] 60 (ih (p + 1) _ _ cg2 (by rw [hz, nI_1]) f1 f2 (by omega) (by omega))) (pn P (126 + p) + 1) 0 0 _ rfl (fun a ha => (sg_i ha).trans (hF a ha)) (fun j hj => (sg_j (by omega)).trans (hu j hj)) sg_s (by omega) (by omega)
theorem c_papersUnder {cg : sg_T} {fn : Nat → Option Nat} {cx : cx_T} {P : Nat → Int32} (hB : BR 1 cg P) {d : Nat} (hd : 4 ≤ d) {R C n Q : Nat} (hW : wkA P R C n) (hA : pfA P R Q) {q : Nat} {vq : Int32} (hq : vq = nI q) (qQ : q < Q) : am_Met mi_X2_papersUnder d 0 0 [.ref 78, .int vq] (hc cg fn cx) (fun r' h' => r' = some (.int (lnV P q)) ∧ ∃ cg', h' = hc cg' fn cx ∧ (∀ a, a ≠ 82 → cg' a = cg a)) := by
  refine am_Met.of rfl (Nat.le_of_ble_eq_true rfl) ?_
  refine am_go ok_X2_papersUnder [2] 62 ?_
  exact c_pu_p hd hW hA hB hq qQ (q + 2) 0 0 none cg rfl (fun _ _ => rfl) (fun j hj => absurd hj (by omega)) (by omega) (by omega)
