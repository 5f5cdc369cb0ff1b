/-! placeOfHole; the Text's methods -/
/-- what placeOfHole answers for the i-th -/
def phO (P : Nat → Int32) (q st : Nat) (i v : Int32) : Prop := (∃ s k, hoP P q st i s k ∧ v = nI (10 * s + k)) ∨ ((∀ s k, ¬ hoP P q st i s k) ∧ v = -1)
theorem ho_m {P : Nat → Int32} {x : Nat} : ∀ {a b : Nat}, a ≤ b → hoK P x a ≤ hoK P x b
  | a, 0, h => by rw [show a = 0 by omega]; exact Nat.le_refl _
  | a, b + 1, h => by
    rcases (show a = b + 1 ∨ a ≤ b by omega) with e | e
    · rw [e]; exact Nat.le_refl _
    · have := ho_m (P := P) (x := x) e; rw [hoK]; omega
theorem c_ph_0 {cg : sg_T} {fn : Nat → Option Nat} {cx : cx_T} {P : Nat → Int32} {d kc ks : Nat} {Qp : Option Value → am_H → Prop} {vq vi w z v5 z6 : Int32} (K : am_W mi_X0_placeOfHole d Qp kc ks 38 [some (.ref 1), some (.int vq), some (.int vi), some (.int (w - 0)), some (.int z), some (.int v5), some (.int (z6 + 1)), some (.int 0)] [] (hc cg fn cx)) : am_W mi_X0_placeOfHole d Qp kc ks 77 [some (.ref 1), some (.int vq), some (.int vi), some (.int w), some (.int z), some (.int v5), some (.int z6), some (.int 0)] [] (hc cg fn cx) := by
  refine am_go ok_X0_placeOfHole [38] 70 ?_
  refine ⟨fun _ => ?_, fun c79 => absurd rfl c79⟩
  refine ⟨fun _ => ?_, fun c98 => absurd rfl c98⟩
  exact K
theorem c_ph_1 {cg : sg_T} {fn : Nat → Option Nat} {cx : cx_T} {P : Nat → Int32} {d kc ks q s k i : Nat} {vq vi w z v5 z6 : Int32} (hi : vi = nI i) (i1 : i < 2 ^ 31) (hz4 : z = nI s) (hz : z6 = nI k) (hle : hoS P q s + hoK P (rwX q s) k ≤ i) (hw : w = nI (i - (hoS P q s + hoK P (rwX q s) k))) (c67 : P (rwX q s + 3 + k) = 300) (hs : s < pn P (126 + q)) (hk : k < pn P (rwX q s + 2)) (s1 : s < 100) (k1 : k < 100) (K : (¬ i - (hoS P q s + hoK P (rwX q s) k) = 0) → am_W mi_X0_placeOfHole d (fun r h' => ∃ v, r = some (.int v) ∧ phO P q (pn P (126 + q)) vi v ∧ h' = (hc cg fn cx)) kc ks 38 [some (.ref 1), some (.int vq), some (.int vi), some (.int (w - 1)), some (.int z), some (.int v5), some (.int (z6 + 1)), some (.int 1)] [] (hc cg fn cx)) : am_W mi_X0_placeOfHole d (fun r h' => ∃ v, r = some (.int v) ∧ phO P q (pn P (126 + q)) vi v ∧ h' = (hc cg fn cx)) kc ks 77 [some (.ref 1), some (.int vq), some (.int vi), some (.int w), some (.int z), some (.int v5), some (.int z6), some (.int 1)] [] (hc cg fn cx) := by
  refine am_go ok_X0_placeOfHole [38] 73 ?_
  refine ⟨fun c79 => absurd c79 (by decide), fun _ => ?_⟩
  refine ⟨fun c83 => ?_, fun c83 => ?_⟩
  · have e0 : ¬ i - (hoS P q s + hoK P (rwX q s) k) = 0 := fun e => c83 (by rw [hw, e]; rfl)
    refine ⟨fun c98 => absurd c98 (by decide), fun _ => ?_⟩
    exact K e0
  · have e0 : i - (hoS P q s + hoK P (rwX q s) k) = 0 := (nI_eq (b := 0) (by omega) (by omega)).mp (hw.symm.trans c83)
    refine ⟨trivial, ?_⟩
    exact ⟨nI (10 * s + k), by rw [hz4, hz, show (10 : Int32) * nI s + nI k = nI (10 * s + k) from by show nI 10 * nI s + nI k = _; rw [pk_mul, nI_add]], Or.inl ⟨s, k, ⟨hs, hk, c67, by rw [hi]; congr 1; omega⟩, rfl⟩, rfl⟩
theorem c_ph_k {cg : sg_T} {fn : Nat → Option Nat} {cx : cx_T} {P : Nat → Int32} (hB : BR 1 cg P) {d kc ks R Q q s i : Nat} {vq vi z v5 : Int32} (hA : pfA P R Q) (hqQ : q < Q) (hi : vi = nI i) (i1 : i < 2 ^ 31) (hz4 : z = nI s) (hs : s < pn P (126 + q)) (h5 : v5 = nI (72 * q + 6 * s)) (hN : ∀ s' k, s' < s → ¬ hoP P q (pn P (126 + q)) vi s' k) (K : ∀ (w : Int32) (t6 t7 : Option Value), hoS P q (s + 1) ≤ i → w = nI (i - hoS P q (s + 1)) → (∀ s' k, s' < s + 1 → ¬ hoP P q (pn P (126 + q)) vi s' k) → am_W mi_X0_placeOfHole d (fun r h' => ∃ v, r = some (.int v) ∧ phO P q (pn P (126 + q)) vi v ∧ h' = (hc cg fn cx)) kc ks 114 [some (.ref 1), some (.int vq), some (.int vi), some (.int w), some (.int z), some (.int v5), t6, t7] [] (hc cg fn cx)) : ∀ (u k : Nat) (w z6 : Int32) (t7 : Option Value), z6 = nI k → hoS P q s + hoK P (rwX q s) k ≤ i → w = nI (i - (hoS P q s + hoK P (rwX q s) k)) → (∀ k', k' < k → ¬ hoP P q (pn P (126 + q)) vi s k') → k ≤ pn P (rwX q s + 2) → pn P (rwX q s + 2) < k + u → am_W mi_X0_placeOfHole d (fun r h' => ∃ v, r = some (.int v) ∧ phO P q (pn P (126 + q)) vi v ∧ h' = (hc cg fn cx)) kc ks 38 [some (.ref 1), some (.int vq), some (.int vi), some (.int w), some (.int z), some (.int v5), some (.int z6), t7] [] (hc cg fn cx) := by
  intro u
  induction u with
  | zero => intro k w z6 t7 hz hle hw hM h1 h2; exact absurd h2 (by omega)
  | succ u ih =>
    intro k w z6 t7 hz hle hw hM h1 h2
    refine am_go ok_X0_placeOfHole [38, 77, 114] 81 ?_
    obtain ⟨q12, -, st', st12, est, pst, hr⟩ := pf_at hA hqQ
    obtain ⟨hok, t, t1, t3, et, pt⟩ := hr s (by omega)
    have el : cg 11 (72 * q + 6 * s + 2) = nI t := by rw [hB.r _ (by omega)]; exact (show P (138 + (72 * q + 6 * s + 2)) = P (rwX q s + 2) by congr 1; unfold rwX; omega).trans et
    rw [pt] at h1 h2
    refine ⟨_, _, rfl, rfl, ?_⟩
    refine ⟨_, _, (72 * q + 6 * s + 2), rfl, (by rw [h5]; exact nI_add _ 2), by omega, Nat.le_of_ble_eq_true rfl, ?_⟩
    rw [el]
    refine ⟨fun c49 => ?_, fun c49 => ?_⟩
    · rw [hz] at c49
      have k1 : k = t := by have := (nI_leI (by omega) (by omega)).mp c49; omega
      subst k1
      exact K w _ _ (by rw [hoS, pt]; omega) (by rw [hw, hoS, pt]) (fun s' k' hs' w' => by
        rcases (show s' = s ∨ s' < s by omega) with e | e
        · subst e; exact hM k' (by have := w'.2.1; omega) w'
        · exact hN s' k' e w')
    · have k1 : k < t := by
        rcases Nat.lt_or_ge k t with q1 | q1
        · exact q1
        · exact absurd (by rw [hz]; exact (nI_leI (by omega) (by omega)).mpr q1) c49
      refine ⟨_, _, rfl, rfl, ?_⟩
      refine ⟨_, _, (72 * q + 6 * s + 3 + k), rfl, (by rw [h5, hz]; show nI _ + nI 3 + nI k = _; rw [nI_add, nI_add]), by omega, Nat.le_of_ble_eq_true rfl, ?_⟩
      rw [hB.r _ (by omega), show P (138 + (72 * q + 6 * s + 3 + k)) = P (rwX q s + 3 + k) by congr 1; unfold rwX; omega]
      refine ⟨fun c67 => ?_, fun c67 => ?_⟩
      · first
        | exact c_ph_0 (P := P) (ih (k + 1) _ _ _ (by rw [hz, nI_1]) (by rw [hoK, if_neg c67]; exact hle) (by rw [hw, hoK, if_neg c67]; exact Int32.sub_zero _) (fun k' hk' w' => by
            rcases (show k' = k ∨ k' < k by omega) with e | e
            · subst e; exact c67 w'.2.2.1
            · exact hM k' e w') (by omega) (by omega))
        | exact c_ph_1 hi i1 hz4 hz hle hw c67 hs (by omega) (by omega) (by omega) (fun ne => ih (k + 1) _ _ _ (by rw [hz, nI_1]) (by rw [hoK, if_pos c67]; omega) (by rw [hw]; exact (pk_sub (b := 1) (by omega)).trans (by rw [hoK, if_pos c67, Nat.sub_sub, Nat.add_assoc])) (fun k' hk' w' => by
            rcases (show k' = k ∨ k' < k by omega) with e | e
            · subst e
              exact ne (by have := (nI_eq (by omega) (by have := hoS_le (P := P) (q := q) (s := s) (fun j hj => by obtain ⟨-, t', -, t'3, -, pt'⟩ := hr j (by omega); omega); have := hoK_le P (rwX q s) k'; omega)).mp (hi.symm.trans w'.2.2.2); omega)
            · exact hM k' e w') (by omega) (by omega))
      · first
        | exact c_ph_0 (P := P) (ih (k + 1) _ _ _ (by rw [hz, nI_1]) (by rw [hoK, if_neg c67]; exact hle) (by rw [hw, hoK, if_neg c67]; exact Int32.sub_zero _) (fun k' hk' w' => by
            rcases (show k' = k ∨ k' < k by omega) with e | e
            · subst e; exact c67 w'.2.2.1
            · exact hM k' e w') (by omega) (by omega))
        | exact c_ph_1 hi i1 hz4 hz hle hw c67 hs (by omega) (by omega) (by omega) (fun ne => ih (k + 1) _ _ _ (by rw [hz, nI_1]) (by rw [hoK, if_pos c67]; omega) (by rw [hw]; exact (pk_sub (b := 1) (by omega)).trans (by rw [hoK, if_pos c67, Nat.sub_sub, Nat.add_assoc])) (fun k' hk' w' => by
            rcases (show k' = k ∨ k' < k by omega) with e | e
            · subst e
              exact ne (by have := (nI_eq (by omega) (by have := hoS_le (P := P) (q := q) (s := s) (fun j hj => by obtain ⟨-, t', -, t'3, -, pt'⟩ := hr j (by omega); omega); have := hoK_le P (rwX q s) k'; omega)).mp (hi.symm.trans w'.2.2.2); omega)
            · exact hM k' e w') (by omega) (by omega))
theorem c_ph_s {cg : sg_T} {fn : Nat → Option Nat} {cx : cx_T} {P : Nat → Int32} (hB : BR 1 cg P) {d kc ks R Q q i : Nat} (hd : 1 ≤ d) {vq vi : Int32} (hA : pfA P R Q) (hqQ : q < Q) (hv : vq = nI q) (hi : vi = nI i) (i1 : i < 2 ^ 31) : ∀ (u s : Nat) (w z : Int32) (t5 t6 t7 : Option Value), z = nI s → hoS P q s ≤ i → w = nI (i - hoS P q s) → (∀ s' k, s' < s → ¬ hoP P q (pn P (126 + q)) vi s' k) → s ≤ pn P (126 + q) → pn P (126 + q) < s + u → am_W mi_X0_placeOfHole d (fun r h' => ∃ v, r = some (.int v) ∧ phO P q (pn P (126 + q)) vi v ∧ h' = (hc cg fn cx)) kc ks 15 [some (.ref 1), some (.int vq), some (.int vi), some (.int w), some (.int z), t5, t6, t7] [] (hc cg fn cx) := by
  intro u
  induction u with
  | zero => intro s w z t5 t6 t7 hz hle hw hN h1 h2; exact absurd h2 (by omega)
  | succ u ih =>
    intro s w z t5 t6 t7 hz hle hw hN h1 h2
    refine am_go ok_X0_placeOfHole [15, 38] 73 ?_
    obtain ⟨q12, -, st, st12, est, pst, hr⟩ := pf_at hA hqQ
    refine ⟨_, _, rfl, rfl, ?_⟩
    refine ⟨_, _, q, rfl, hv, by omega, Nat.le_of_ble_eq_true rfl, ?_⟩
    rw [hB.s q q12, est]
    refine ⟨fun c23 => ?_, fun c23 => ?_⟩
    · rw [hz] at c23
      have k1 : s = st := by have := (nI_leI (by omega) (by omega)).mp c23; omega
      refine ⟨trivial, ?_⟩
      exact ⟨-1, rfl, Or.inr ⟨fun s' k' w' => hN s' k' (by have := w'.1; omega) w', rfl⟩, rfl⟩
    · have k1 : s < st := by
        rcases Nat.lt_or_ge s st with q1 | q1
        · exact q1
        · exact absurd (by rw [hz]; exact (nI_leI (by omega) (by omega)).mpr q1) c23
      refine ⟨_, rfl, d - 1, 0, 0, _, by omega, Nat.le_of_ble_eq_true rfl, Nat.le_of_ble_eq_true rfl, Nat.le_of_ble_eq_true rfl, c_rowOf (d - 1) hv hz, ?_⟩
      rintro _ _ ⟨rfl, rfl⟩
      refine ⟨Or.inl rfl, ?_⟩
      exact c_ph_k hB hA hqQ hi i1 hz (by omega) rfl hN (fun w' t6' t7' g1 g2 g3 => am_go ok_X0_placeOfHole [15] 60 (ih (s + 1) w' _ _ _ _ (by rw [hz, nI_1]) g1 g2 g3 (by omega) (by omega))) (pn P (rwX q s + 2) + 1) 0 w 0 _ rfl hle (by rw [hw]; rfl) (fun k' h => absurd h (by omega)) (by omega) (by omega)
theorem c_placeOfHole {cg : sg_T} {fn : Nat → Option Nat} {cx : cx_T} {P : Nat → Int32} (hB : BR 1 cg P) {d R Q q : Nat} (hd : 1 ≤ d) {vq vi : Int32} (hA : pfA P R Q) (hqQ : q < Q) (hv : vq = nI q) (hi : ¬ vi < 0) : am_Met mi_X0_placeOfHole d 0 0 [.ref 1, .int vq, .int vi] (hc cg fn cx) (fun r h' => ∃ v, r = some (.int v) ∧ (((pn P (114 + q) = 1 ∨ pn P (114 + q) = 4) ∧ phO P q (pn P (126 + q)) vi v) ∨ (¬ (pn P (114 + q) = 1 ∨ pn P (114 + q) = 4) ∧ v = -1)) ∧ h' = (hc cg fn cx)) := by
  refine am_Met.of rfl (Nat.le_of_ble_eq_true rfl) ?_
  refine am_go ok_X0_placeOfHole [15] 68 ?_
  obtain ⟨q12, ⟨k, k5, ek, pk⟩, -⟩ := pf_at hA hqQ
  obtain ⟨i, i1, ei⟩ := nI_of hi
  refine ⟨_, rfl, d - 1, 0, 0, _, by omega, Nat.le_of_ble_eq_true rfl, Nat.le_of_ble_eq_true rfl, Nat.le_of_ble_eq_true rfl, c_takesHoles hB (d - 1) hv q12 ek k5, ?_⟩
  rintro _ _ ⟨rfl, rfl⟩
  refine ⟨Or.inl rfl, ?_⟩
  refine ⟨fun c5 => ?_, fun c5 => ?_⟩
  · refine am_W.mono ?_ (c_ph_s hB hd hA hqQ hv ei i1 (pn P (126 + q) + 1) 0 vi 0 none none none rfl (Nat.zero_le _) (by rw [ei]; rfl) (fun s' k' h => absurd h (by omega)) (by omega) (by omega))
    rintro r h' ⟨v, z1, z2, z3⟩
    exact ⟨v, z1, Or.inl ⟨bI_t c5, z2⟩, z3⟩
  · exact ⟨trivial, -1, rfl, Or.inr ⟨bI_f c5, rfl⟩, rfl⟩
