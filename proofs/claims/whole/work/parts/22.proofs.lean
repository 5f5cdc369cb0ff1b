/-! PROOFS in the reference's numbers -/
def wkA (P : Nat → Int32) (R C n : Nat) : Prop := P 1 = nI R ∧ R ≤ 8 ∧ P 2 = nI C ∧ C ≤ 12 ∧ (∀ r, r < 8 → ∃ t, t < 20 ∧ P (10 + r) = nI t) ∧ (∀ c, c < C → ∃ t, t < 20 ∧ P (42 + c) = nI t) ∧ P 3 = nI n ∧ n ≤ 20 ∧ (∀ k, k < n → ∃ f, f < 750 ∧ P (54 + k) = nI f) ∧ (∀ r, r < R → okX P (1758 + 30 * pn P (10 + r))) ∧ ∀ c, c < C → okX P (1758 + 30 * pn P (42 + c))
theorem wkA_x {P : Nat → Int32} {R C n r : Nat} {dy : Int32} (h : wkA P R C n) (hr : r < R) : okX P (txX P r dy) := by
  obtain ⟨h1, h2, h3, h4, h5, h6, h7, h8, h9, h10, h11⟩ := h
  unfold txX txN
  split
  · exact h10 r hr
  · rename_i c e
    have := chF_lt e
    rw [h3, nI_clamp (by omega)] at this
    exact h11 c this
theorem wkA_w {P : Nat → Int32} {R C n : Nat} {dy : Int32} (h : wkA P R C n) : wkP P dy R C n := by
  obtain ⟨h1, h2, h3, h4, h5, h6, h7, h8, h9, h10, h11⟩ := id h
  exact ⟨h1, h2, h3, h4, h5, h6, h7, h8, h9, fun r hr => wkA_x h hr⟩
abbrev rwX (q s : Nat) : Nat := 138 + 72 * q + 6 * s
/-- a STEP's row -/
def okR (P : Nat → Int32) (R x : Nat) : Prop := (∃ r, r < R ∧ P x = nI r) ∧ (∃ n, n < 625 ∧ P (x + 1) = nI n) ∧ ∃ t, 1 ≤ t ∧ t ≤ 3 ∧ P (x + 2) = nI t
def pfA (P : Nat → Int32) (R Q : Nat) : Prop := P 4 = nI Q ∧ Q ≤ 12 ∧ ∀ q, q < Q → (∃ k, k < 5 ∧ P (114 + q) = nI k) ∧ ∃ s, s ≤ 12 ∧ P (126 + q) = nI s ∧ ∀ j, j < s → okR P R (rwX q j)
def syN (P : Nat → Int32) (dy : Int32) (q s : Nat) : Nat := faN P (Lm (pn P (rwX q s + 1))) (txX P (pn P (rwX q s)) dy + 26)
def trN (P : Nat → Int32) (dy : Int32) (q s k : Nat) : Nat := faN P (Lm (pn P (rwX q s + 1))) (txX P (pn P (rwX q s)) dy + 2 + 4 * k)
def frL (sg sg' : sg_T) : Prop := ∀ a, a ≠ 5 → sg' a = sg a
theorem frL_L (sg : sg_T) (n : Nat) : frL sg (sgL sg n) := fun _ h => sgL_a h
theorem rwX_e (q s : Nat) : (138 : Int32) + 72 * nI q + 6 * nI s = nI (rwX q s) := by
  show nI 138 + nI 72 * nI q + nI 6 * nI s = _
  rw [pk_mul, pk_mul, nI_add, nI_add]
theorem m_usesEnds {sg : sg_T} (d : Nat) {v : Int32} {q k : Nat} (hv : v = nI q) (hq : q < 12) (hk : sg 1 (114 + q) = nI k) (hk5 : k < 5) : am_Met mi_X12_usesEnds d 0 0 [.ref 0, .int v] (hm sg) (fun r h' => r = some (.int (bI (decide (k = 2 ∨ k = 3)))) ∧ h' = hm sg) := by
  refine am_Met.of rfl (Nat.le_of_ble_eq_true rfl) ?_
  refine am_go ok_X12_usesEnds [] 78 ?_
  refine ⟨_, _, rfl, rfl, ?_⟩
  refine ⟨_, _, (114 + q), rfl, (by rw [hv]; exact nI_add 114 q), by omega, Nat.le_of_ble_eq_true rfl, ?_⟩
  rw [hk]
  refine ⟨fun c10 => ?_, fun c10 => ?_⟩
  · have e : k = 2 := (nI_eq (b := 2) (by omega) (by omega)).mp c10
    refine ⟨rfl, ?_⟩
    exact ⟨by first | rw [bI_dt (show k = 2 ∨ k = 3 by omega)] | rw [bI_df (show ¬ (k = 2 ∨ k = 3) by omega)], rfl⟩
  · have e2 : ¬ k = 2 := fun e => c10 (by rw [e]; rfl)
    refine ⟨_, _, rfl, rfl, ?_⟩
    refine ⟨_, _, (114 + q), rfl, (by rw [hv]; exact nI_add 114 q), by omega, Nat.le_of_ble_eq_true rfl, ?_⟩
    rw [hk]
    refine ⟨fun c23 => ?_, fun c23 => ?_⟩
    · have e3 : ¬ k = 3 := fun e => c23 (by rw [e]; rfl)
      refine ⟨rfl, ?_⟩
      exact ⟨by first | rw [bI_dt (show k = 2 ∨ k = 3 by omega)] | rw [bI_df (show ¬ (k = 2 ∨ k = 3) by omega)], rfl⟩
    · have e : k = 3 := (nI_eq (b := 3) (by omega) (by omega)).mp c23
      refine ⟨rfl, ?_⟩
      exact ⟨by first | rw [bI_dt (show k = 2 ∨ k = 3 by omega)] | rw [bI_df (show ¬ (k = 2 ∨ k = 3) by omega)], rfl⟩
theorem m_saysOn {sg : sg_T} {d : Nat} (hd : 2 ≤ d) {vq vs dy : Int32} {q s R C n0 : Nat} (hW : wkA (sg 1) R C n0) (hq : vq = nI q) (hs : vs = nI s) (hqs : q < 12 ∧ s < 12) (hR : okR (sg 1) R (rwX q s)) : am_Met mi_X12_saysOn d 0 0 [.ref 0, .int vq, .int vs, .int dy] (hm sg) (fun r h' => ∃ sg', r = some (.int (nI (syN (sg 1) dy q s))) ∧ h' = hm sg' ∧ frL sg sg') := by
  obtain ⟨hq12, hs12⟩ := hqs
  obtain ⟨⟨r, hr, er⟩, ⟨n, hn, en⟩, ⟨t, t1, t3, et⟩⟩ := id hR
  obtain ⟨w1, w2, w3, w4, w5, w6, w7, w8, w9, w10, w11⟩ := id hW
  have x20 : txN (sg 1) r dy < 20 := txN_lt (by omega) w3 w4 w5 w6
  have rb : rwX q s + 6 ≤ 1002 := by unfold rwX; omega
  have xb : txX (sg 1) r dy + 30 ≤ 2358 := by unfold txX; omega
  have eP : sgL sg n 1 = sg 1 := sgL_a (by decide)
  obtain ⟨⟨nt, n1, n3, ent⟩, -, a3, a4, -⟩ := wkA_x (dy := dy) hW hr
  refine am_Met.of rfl (Nat.le_of_ble_eq_true rfl) ?_
  refine am_go ok_X12_saysOn [] 83 ?_
  refine ⟨d - 1, 0, 0, _, by omega, Nat.le_of_ble_eq_true rfl, Nat.le_of_ble_eq_true rfl, Nat.le_of_ble_eq_true rfl, m_stepAt (d - 1) vq vs, ?_⟩
  rintro _ _ ⟨rfl, rfl⟩
  refine ⟨Or.inl rfl, ?_⟩
  rw [hq, hs, rwX_e]
  refine ⟨_, _, rfl, rfl, ?_⟩
  refine ⟨_, _, (rwX q s + 1), rfl, (nI_add _ 1), by omega, Nat.le_of_ble_eq_true rfl, ?_⟩
  rw [en]
  refine ⟨_, rfl, d - 1, 0, 0, _, by omega, Nat.le_of_ble_eq_true rfl, Nat.le_of_ble_eq_true rfl, Nat.le_of_ble_eq_true rfl, m_sets (n := n) (d - 1) rfl (by omega), ?_⟩
  rintro _ _ ⟨rfl, rfl⟩
  refine ⟨Or.inl rfl, ?_⟩
  refine ⟨_, _, rfl, rfl, ?_⟩
  refine ⟨_, _, (rwX q s), rfl, rfl, by omega, Nat.le_of_ble_eq_true rfl, ?_⟩
  rw [eP, er]
  refine ⟨_, rfl, d - 1, 0, 0, _, by omega, Nat.le_of_ble_eq_true rfl, Nat.le_of_ble_eq_true rfl, Nat.le_of_ble_eq_true rfl, m_textOn (q := r) (n := C) (by omega) dy rfl (by omega) (by rw [eP]; exact w3) w4 (by rw [eP]; exact w5) (by rw [eP]; exact w6), ?_⟩
  rintro _ _ ⟨rfl, rfl⟩
  refine ⟨Or.inl rfl, ?_⟩
  rw [eP]
  refine ⟨_, rfl, d - 1, 0, 0, _, by omega, Nat.le_of_ble_eq_true rfl, Nat.le_of_ble_eq_true rfl, Nat.le_of_ble_eq_true rfl, m_factAt (x := txX (sg 1) r dy + 26) (L := Lm n) (by omega) (nI_add _ 26) (by omega) (by rw [eP]; exact a4) (okL_Lm hn) (sgL_L _ _), ?_⟩
  rintro _ _ ⟨rfl, rfl⟩
  refine ⟨Or.inl rfl, ?_⟩
  rw [eP]
  refine ⟨trivial, ?_⟩
  refine ⟨sgL sg n, ?_, rfl, frL_L sg n⟩
  unfold syN
  rw [pn_of er (by omega), pn_of en (by omega)]
theorem m_termOn {sg : sg_T} {d : Nat} (hd : 2 ≤ d) {vq vs dy vk : Int32} {q s k R C n0 : Nat} (hW : wkA (sg 1) R C n0) (hq : vq = nI q) (hs : vs = nI s) (hk : vk = nI k) (hqs : q < 12 ∧ s < 12) (hR : okR (sg 1) R (rwX q s)) (hkt : k < pn (sg 1) (txX (sg 1) (pn (sg 1) (rwX q s)) dy)) : am_Met mi_X12_termOn d 0 0 [.ref 0, .int vq, .int vs, .int vk, .int dy] (hm sg) (fun r h' => ∃ sg', r = some (.int (nI (trN (sg 1) dy q s k))) ∧ h' = hm sg' ∧ frL sg sg') := by
  obtain ⟨hq12, hs12⟩ := hqs
  obtain ⟨⟨r, hr, er⟩, ⟨n, hn, en⟩, ⟨t, t1, t3, et⟩⟩ := id hR
  obtain ⟨w1, w2, w3, w4, w5, w6, w7, w8, w9, w10, w11⟩ := id hW
  have x20 : txN (sg 1) r dy < 20 := txN_lt (by omega) w3 w4 w5 w6
  have rb : rwX q s + 6 ≤ 1002 := by unfold rwX; omega
  have xb : txX (sg 1) r dy + 30 ≤ 2358 := by unfold txX; omega
  have eP : sgL sg n 1 = sg 1 := sgL_a (by decide)
  obtain ⟨⟨nt, n1, n3, ent⟩, -, a3, a4, -⟩ := wkA_x (dy := dy) hW hr
  have er' := pn_of er (show r < 2 ^ 31 by omega)
  rw [er', pn_of ent (by omega)] at hkt
  refine am_Met.of rfl (Nat.le_of_ble_eq_true rfl) ?_
  refine am_go ok_X12_termOn [] 87 ?_
  refine ⟨d - 1, 0, 0, _, by omega, Nat.le_of_ble_eq_true rfl, Nat.le_of_ble_eq_true rfl, Nat.le_of_ble_eq_true rfl, m_stepAt (d - 1) vq vs, ?_⟩
  rintro _ _ ⟨rfl, rfl⟩
  refine ⟨Or.inl rfl, ?_⟩
  rw [hq, hs, rwX_e]
  refine ⟨_, _, rfl, rfl, ?_⟩
  refine ⟨_, _, (rwX q s + 1), rfl, (nI_add _ 1), by omega, Nat.le_of_ble_eq_true rfl, ?_⟩
  rw [en]
  refine ⟨_, rfl, d - 1, 0, 0, _, by omega, Nat.le_of_ble_eq_true rfl, Nat.le_of_ble_eq_true rfl, Nat.le_of_ble_eq_true rfl, m_sets (n := n) (d - 1) rfl (by omega), ?_⟩
  rintro _ _ ⟨rfl, rfl⟩
  refine ⟨Or.inl rfl, ?_⟩
  refine ⟨_, _, rfl, rfl, ?_⟩
  refine ⟨_, _, (rwX q s), rfl, rfl, by omega, Nat.le_of_ble_eq_true rfl, ?_⟩
  rw [eP, er]
  refine ⟨_, rfl, d - 1, 0, 0, _, by omega, Nat.le_of_ble_eq_true rfl, Nat.le_of_ble_eq_true rfl, Nat.le_of_ble_eq_true rfl, m_textOn (q := r) (n := C) (by omega) dy rfl (by omega) (by rw [eP]; exact w3) w4 (by rw [eP]; exact w5) (by rw [eP]; exact w6), ?_⟩
  rintro _ _ ⟨rfl, rfl⟩
  refine ⟨Or.inl rfl, ?_⟩
  rw [eP]
  refine ⟨_, rfl, d - 1, 0, 0, _, by omega, Nat.le_of_ble_eq_true rfl, Nat.le_of_ble_eq_true rfl, Nat.le_of_ble_eq_true rfl, m_factAt (x := txX (sg 1) r dy + 2 + 4 * k) (L := Lm n) (by omega) (by rw [hk]; show nI _ + nI 2 + nI 4 * nI k = _; rw [nI_add, pk_mul, nI_add]) (by omega) (by rw [eP]; exact a3 k (by rw [pn_of ent (by omega)]; exact hkt)) (okL_Lm hn) (sgL_L _ _), ?_⟩
  rintro _ _ ⟨rfl, rfl⟩
  refine ⟨Or.inl rfl, ?_⟩
  rw [eP]
  refine ⟨trivial, ?_⟩
  refine ⟨sgL sg n, ?_, rfl, frL_L sg n⟩
  unfold trN
  rw [pn_of er (by omega), pn_of en (by omega)]
/-- HOLES: in the first k TERMS of a row, in the first s STEPS -/
def hoK (P : Nat → Int32) (x : Nat) : Nat → Nat
  | 0 => 0
  | k + 1 => hoK P x k + (if P (x + 3 + k) = 300 then 1 else 0)
def hoS (P : Nat → Int32) (q : Nat) : Nat → Nat
  | 0 => 0
  | s + 1 => hoS P q s + hoK P (rwX q s) (pn P (rwX q s + 2))
theorem hoK_le (P : Nat → Int32) (x : Nat) : ∀ k, hoK P x k ≤ k
  | 0 => Nat.le_refl _
  | k + 1 => by rw [hoK]; have := hoK_le P x k; split <;> omega
theorem hoS_le {P : Nat → Int32} {q : Nat} : ∀ {s : Nat}, (∀ j, j < s → pn P (rwX q j + 2) ≤ 3) → hoS P q s ≤ 3 * s
  | 0, _ => Nat.le_refl _
  | s + 1, h => by
    rw [hoS]
    have h1 := hoS_le (fun j hj => h j (Nat.lt_succ_of_lt hj))
    have h2 := hoK_le P (rwX q s) (pn P (rwX q s + 2))
    have h3 := h s (Nat.lt_succ_self s)
    omega
/-- the i-th HOLE is the TERM k of the STEP s -/
def hoP (P : Nat → Int32) (q st : Nat) (i : Int32) (s k : Nat) : Prop := s < st ∧ k < pn P (rwX q s + 2) ∧ P (rwX q s + 3 + k) = 300 ∧ i = nI (hoS P q s + hoK P (rwX q s) k)
/-- what 'holesOf' answers, may it have HOLES -/
def hoV (P : Nat → Int32) (q st : Nat) (i v : Int32) : Prop := (∃ s k, hoP P q st i s k ∧ v = nI (10 * s + k)) ∨ ((∀ s k, ¬ hoP P q st i s k) ∧ v = if i = -1 then nI (hoS P q st) else -1)
theorem m_holesOf_k {sg : sg_T} {d kc ks : Nat} {q st : Nat} {vq i : Int32} (hq : vq = nI q) (hq12 : q < 12) (es : sg 1 (126 + q) = nI st) (s12 : st ≤ 12) (hT : ∀ j, j < st → ∃ t, t ≤ 3 ∧ sg 1 (rwX q j + 2) = nI t) {s t : Nat} {z5 : Int32} (h5 : z5 = nI s) (hs : s < st) (et : sg 1 (rwX q s + 2) = nI t) (t3 : t ≤ 3) (hno : ∀ a b, a < s → ¬ hoP (sg 1) q st i a b) (K : ∀ (z4 z6 : Int32), z4 = nI (hoS (sg 1) q (s + 1)) → (∀ a b, a < s + 1 → ¬ hoP (sg 1) q st i a b) → am_W mi_X12_holesOf d (fun r h' => ∃ v, r = some (.int v) ∧ hoV (sg 1) q st i v ∧ h' = hm sg) kc ks 38 [some (.ref 0), some (.int vq), some (.int i), some (.int 1), some (.int z4), some (.int (z5 + 1)), some (.int z6)] [] (hm sg)) (hd : 1 ≤ d) : ∀ (u k : Nat) (z4 z6 : Int32), z6 = nI k → z4 = nI (hoS (sg 1) q s + hoK (sg 1) (rwX q s) k) → (∀ b, b < k → ¬ hoP (sg 1) q st i s b) → k ≤ t → t < k + u → am_W mi_X12_holesOf d (fun r h' => ∃ v, r = some (.int v) ∧ hoV (sg 1) q st i v ∧ h' = hm sg) kc ks 59 [some (.ref 0), some (.int vq), some (.int i), some (.int 1), some (.int z4), some (.int z5), some (.int z6)] [] (hm sg) := by
  intro u
  induction u with
  | zero => intro k z4 z6 h6 h4 hb h1 h2; exact absurd h2 (by omega)
  | succ u ih =>
    intro k z4 z6 h6 h4 hb h1 h2
    refine am_go ok_X12_holesOf [38, 59] 84 ?_
    have rb : rwX q s + 6 ≤ 1002 := by unfold rwX; omega
    have pt := pn_of et (show t < 2 ^ 31 by omega)
    have hS3 := hoS_le (P := sg 1) (q := q) (s := s) (fun j hj => by obtain ⟨t', a, b⟩ := hT j (by omega); rw [pn_of b (by omega)]; exact a)
    have hK3 := hoK_le (sg 1) (rwX q s) k
    refine ⟨_, _, rfl, rfl, ?_⟩
    refine ⟨d - 1, 0, 0, _, by omega, Nat.le_of_ble_eq_true rfl, Nat.le_of_ble_eq_true rfl, Nat.le_of_ble_eq_true rfl, m_stepAt (d - 1) vq z5, ?_⟩
    rintro _ _ ⟨rfl, rfl⟩
    refine ⟨Or.inl rfl, ?_⟩
    rw [hq, h5, rwX_e]
    refine ⟨_, _, (rwX q s + 2), rfl, (nI_add _ 2), by omega, Nat.le_of_ble_eq_true rfl, ?_⟩
    rw [et]
    refine ⟨fun c74 => ?_, fun c74 => ?_⟩
    · rw [h6] at c74
      have k1 : k = t := by have := (nI_leI (by omega) (by omega)).mp c74; omega
      subst k1
      rw [← h5, ← hq]
      exact K z4 z6 (by rw [h4, hoS, pt]) (fun a b ha => by
        rcases (show a < s ∨ a = s by omega) with q1 | rfl
        · exact hno a b q1
        · intro hp
          exact hb b (by rw [← pt]; exact hp.2.1) hp)
    · have k1 : k < t := by
        rcases Nat.lt_or_ge k t with q1 | q1
        · exact q1
        · exact absurd (by rw [h6]; exact (nI_leI (by omega) (by omega)).mpr q1) c74
      refine ⟨_, _, rfl, rfl, ?_⟩
      refine ⟨d - 1, 0, 0, _, by omega, Nat.le_of_ble_eq_true rfl, Nat.le_of_ble_eq_true rfl, Nat.le_of_ble_eq_true rfl, m_stepAt (d - 1) (nI q) (nI s), ?_⟩
      rintro _ _ ⟨rfl, rfl⟩
      refine ⟨Or.inl rfl, ?_⟩
      rw [rwX_e]
      refine ⟨_, _, (rwX q s + 3 + k), rfl, (by rw [h6]; show nI _ + nI 3 + nI k = _; rw [nI_add, nI_add]), by omega, Nat.le_of_ble_eq_true rfl, ?_⟩
      refine ⟨fun c96 => ?_, fun c96 => ?_⟩
      · rw [← h5, ← hq]
        exact ih (k + 1) _ _ (by rw [h6]; exact nI_1 k) (by rw [h4, hoK, if_neg c96]; rfl) (fun b hb' => by
          rcases (show b < k ∨ b = k by omega) with q1 | rfl
          · exact hb b q1
          · exact fun hp => c96 hp.2.2.1) (by omega) (by omega)
      · refine ⟨fun c102 => ?_, fun c102 => ?_⟩
        · rw [← h5, ← hq]
          exact ih (k + 1) _ _ (by rw [h6]; exact nI_1 k) (by rw [h4, hoK, if_pos c96, nI_1]; rfl) (fun b hb' => by
            rcases (show b < k ∨ b = k by omega) with q1 | rfl
            · exact hb b q1
            · exact fun hp => c102 (by rw [h4]; exact hp.2.2.2.symm)) (by omega) (by omega)
        · refine ⟨trivial, _, rfl, Or.inl ⟨s, k, ⟨hs, by rw [pt]; exact k1, c96, by rw [← c102, h4]⟩, ?_⟩, rfl⟩
          rw [h6]
          show nI 10 * nI s + nI k = _
          rw [pk_mul, nI_add]
theorem m_holesOf_s {sg : sg_T} {d kc ks : Nat} {q st : Nat} {vq i : Int32} (hq : vq = nI q) (hq12 : q < 12) (es : sg 1 (126 + q) = nI st) (s12 : st ≤ 12) (hT : ∀ j, j < st → ∃ t, t ≤ 3 ∧ sg 1 (rwX q j + 2) = nI t) (hd : 1 ≤ d) : ∀ (u s : Nat) (z4 z5 : Int32) (t6 : Option Value), z5 = nI s → z4 = nI (hoS (sg 1) q s) → (∀ a b, a < s → ¬ hoP (sg 1) q st i a b) → s ≤ st → st < s + u → am_W mi_X12_holesOf d (fun r h' => ∃ v, r = some (.int v) ∧ hoV (sg 1) q st i v ∧ h' = hm sg) kc ks 38 [some (.ref 0), some (.int vq), some (.int i), some (.int 1), some (.int z4), some (.int z5), t6] [] (hm sg) := by
  intro u
  induction u with
  | zero => intro s z4 z5 t6 h5 h4 hno h1 h2; exact absurd h2 (by omega)
  | succ u ih =>
    intro s z4 z5 t6 h5 h4 hno h1 h2
    refine am_go ok_X12_holesOf [38, 59] 72 ?_
    refine ⟨_, _, rfl, rfl, ?_⟩
    refine ⟨_, _, (126 + q), rfl, (by rw [hq]; exact nI_add 126 q), by omega, Nat.le_of_ble_eq_true rfl, ?_⟩
    rw [es]
    refine ⟨fun c49 => ?_, fun c49 => ?_⟩
    · rw [h5] at c49
      have k1 : s = st := by have := (nI_leI (by omega) (by omega)).mp c49; omega
      subst k1
      refine ⟨fun c131 => ?_, fun c131 => ?_⟩
      · refine ⟨trivial, _, rfl, Or.inr ⟨fun a b hp => hno a b hp.1 hp, by rw [if_neg c131]⟩, rfl⟩
      · refine ⟨trivial, _, rfl, Or.inr ⟨fun a b hp => hno a b hp.1 hp, by rw [if_pos c131]; exact h4⟩, rfl⟩
    · have k1 : s < st := by
        rcases Nat.lt_or_ge s st with q1 | q1
        · exact q1
        · exact absurd (by rw [h5]; exact (nI_leI (by omega) (by omega)).mpr q1) c49
      obtain ⟨t, t3, et⟩ := hT s k1
      refine ⟨fun c53 => absurd c53 (by decide), fun _ => ?_⟩
      exact m_holesOf_k hq hq12 es s12 hT h5 k1 et t3 hno (fun z4' z6 e4 hn => ih (s + 1) z4' _ _ (by rw [h5]; exact nI_1 s) e4 hn (by omega) (by omega)) hd (t + 1) 0 _ 0 rfl (by rw [h4, hoK]; rfl) (fun b hb => absurd hb (by omega)) (by omega) (by omega)
theorem m_holesOf {sg : sg_T} {d : Nat} (hd : 1 ≤ d) {q st k : Nat} {vq i : Int32} (hq : vq = nI q) (hq12 : q < 12) (ek : sg 1 (114 + q) = nI k) (hk5 : k < 5) (es : sg 1 (126 + q) = nI st) (s12 : st ≤ 12) (hT : ∀ j, j < st → ∃ t, t ≤ 3 ∧ sg 1 (rwX q j + 2) = nI t) : am_Met mi_X12_holesOf d 0 0 [.ref 0, .int vq, .int i] (hm sg) (fun r h' => ∃ v, r = some (.int v) ∧ ((k = 1 ∨ k = 4) ∧ hoV (sg 1) q st i v ∨ ¬ (k = 1 ∨ k = 4) ∧ v = if i = -1 then 0 else -1) ∧ h' = hm sg) := by
  refine am_Met.of rfl (Nat.le_of_ble_eq_true rfl) ?_
  refine am_go ok_X12_holesOf [38] 75 ?_
  refine ⟨_, _, rfl, rfl, ?_⟩
  refine ⟨_, _, (114 + q), rfl, (by rw [hq]; exact nI_add 114 q), by omega, Nat.le_of_ble_eq_true rfl, ?_⟩
  rw [ek]
  refine ⟨fun c10 => ?_, fun c10 => ?_⟩
  · have e : k = 1 := (nI_eq (b := 1) (by omega) (by omega)).mp c10
    refine am_W.mono ?_ (m_holesOf_s hq hq12 es s12 hT hd (st + 1) 0 0 0 none rfl rfl (fun a b h => absurd h (by omega)) (by omega) (by omega))
    rintro r h' ⟨v, e1, e2, e3⟩
    exact ⟨v, e1, Or.inl ⟨Or.inl e, e2⟩, e3⟩
  · refine ⟨_, _, rfl, rfl, ?_⟩
    refine ⟨_, _, (114 + q), rfl, (by rw [hq]; exact nI_add 114 q), by omega, Nat.le_of_ble_eq_true rfl, ?_⟩
    rw [ek]
    refine ⟨fun c23 => ?_, fun c23 => ?_⟩
    · have e1 : ¬ (k = 1 ∨ k = 4) := by
        rintro (e | e)
        · exact c10 (by rw [e]; rfl)
        · exact c23 (by rw [e]; rfl)
      refine am_go ok_X12_holesOf [] 60 ?_
      refine ⟨_, _, rfl, rfl, ?_⟩
      refine ⟨_, _, (126 + q), rfl, (by rw [hq]; exact nI_add 126 q), by omega, Nat.le_of_ble_eq_true rfl, ?_⟩
      refine ⟨fun c49 => ?_, fun c49 => ?_⟩
      · refine ⟨fun c131 => ?_, fun c131 => ?_⟩
        · exact ⟨trivial, _, rfl, Or.inr ⟨e1, by rw [if_neg c131]⟩, rfl⟩
        · exact ⟨trivial, _, rfl, Or.inr ⟨e1, by rw [if_pos c131]⟩, rfl⟩
      · refine ⟨fun _ => ?_, fun c53 => absurd rfl c53⟩
        refine ⟨fun c131 => ?_, fun c131 => ?_⟩
        · exact ⟨trivial, _, rfl, Or.inr ⟨e1, by rw [if_neg c131]⟩, rfl⟩
        · exact ⟨trivial, _, rfl, Or.inr ⟨e1, by rw [if_pos c131]⟩, rfl⟩
    · have e : k = 4 := (nI_eq (b := 4) (by omega) (by omega)).mp c23
      refine am_W.mono ?_ (m_holesOf_s hq hq12 es s12 hT hd (st + 1) 0 0 0 none rfl rfl (fun a b h => absurd h (by omega)) (by omega) (by omega))
      rintro r h' ⟨v, e1, e2, e3⟩
      exact ⟨v, e1, Or.inl ⟨Or.inr e, e2⟩, e3⟩
