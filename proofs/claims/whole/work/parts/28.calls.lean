/-! the reference's calls: STEPS, TITLES, what follows, THE IMAGE -/
def usO (P : Nat → Int32) (q o s k : Nat) : Prop := (pn P (114 + o) = 2 ∨ pn P (114 + o) = 3) ∧ s < pn P (126 + o) ∧ k < pn P (rwX o s + 2) ∧ P (rwX o s + 3 + k) = 200 + nI q
def usP (P : Nat → Int32) (q : Nat) : Prop := (∃ t, t < pn P 5 ∧ P (1002 + t) = nI q) ∨ ∃ o s k, q < o ∧ o < pn P 4 ∧ usO P q o s k
def ttA (P : Nat → Int32) (Q T : Nat) : Prop := P 5 = nI T ∧ T ≤ 10 ∧ Q ≤ 12 ∧ ∀ t, t < T → (∃ q, q < Q ∧ P (1002 + t) = nI q) ∧ (∃ y, y < 1000 ∧ P (1012 + t) = nI y) ∧ ∃ f, f < 750 ∧ P (1022 + t) = nI f
theorem tt_t {P : Nat → Int32} {Q T t : Nat} (h : ttA P Q T) (ht : t < T) : t < 10 ∧ (∃ q, q < Q ∧ P (1002 + t) = nI q ∧ pn P (1002 + t) = q) ∧ (∃ y, y < 1000 ∧ P (1012 + t) = nI y) ∧ ∃ f, f < 750 ∧ P (1022 + t) = nI f ∧ pn P (1022 + t) = f := by
  obtain ⟨h1, h2, h0, h3⟩ := h
  obtain ⟨⟨q, hq, eq⟩, hy, ⟨f, hf, ef⟩⟩ := h3 t ht
  exact ⟨by omega, ⟨q, hq, eq, pn_of eq (by omega)⟩, hy, f, hf, ef, pn_of ef (by omega)⟩
theorem m_isUsed_k {sg : sg_T} {d kc ks : Nat} {R Q T q : Nat} {vq : Int32} (hA : pfA (sg 1) R Q) (hT : ttA (sg 1) Q T) (hd : 1 ≤ d) (hq : vq = nI q) (hqQ : q < Q) {a s t st ki : Nat} {z2 z3 : Int32} (h2 : z2 = nI a) (h3 : z3 = nI s) (hqa : q < a) (ha : a < Q) (ek : sg 1 (114 + a) = nI ki) (k5 : ki < 5) (huse : ki = 2 ∨ ki = 3) (es : sg 1 (126 + a) = nI st) (s12 : st ≤ 12) (hs : s < st) (et : sg 1 (rwX a s + 2) = nI t) (t3 : t ≤ 3) (K : ∀ z4 : Int32, (∀ k, ¬ usO (sg 1) q a s k) → am_W mi_X12_isUsed d (fun r h' => ∃ b, r = some (.int (bI b)) ∧ (b = true ↔ usP (sg 1) q) ∧ h' = hm sg) kc ks 50 [some (.ref 0), some (.int vq), some (.int z2), some (.int (z3 + 1)), some (.int z4)] [] (hm sg)) : ∀ (u k : Nat) (z4 : Int32), z4 = nI k → (∀ j, j < k → ¬ usO (sg 1) q a s j) → k ≤ t → t < k + u → am_W mi_X12_isUsed d (fun r h' => ∃ b, r = some (.int (bI b)) ∧ (b = true ↔ usP (sg 1) q) ∧ h' = hm sg) kc ks 74 [some (.ref 0), some (.int vq), some (.int z2), some (.int z3), some (.int z4)] [] (hm sg) := by
  intro u
  induction u with
  | zero => intro k z4 h4 hn h1 h5; exact absurd h5 (by omega)
  | succ u ih =>
    intro k z4 h4 hn h1 h5
    refine am_go ok_X12_isUsed [50, 74] 86 ?_
    have q12 := hA.2.1
    have rb : rwX a s + 6 ≤ 1002 := by unfold rwX; omega
    refine ⟨_, _, rfl, rfl, ?_⟩
    refine ⟨d - 1, 0, 0, _, by omega, Nat.le_of_ble_eq_true rfl, Nat.le_of_ble_eq_true rfl, Nat.le_of_ble_eq_true rfl, m_stepAt (d - 1) z2 z3, ?_⟩
    rintro _ _ ⟨rfl, rfl⟩
    refine ⟨Or.inl rfl, ?_⟩
    rw [h2, h3, rwX_e]
    refine ⟨_, _, (rwX a s + 2), rfl, (nI_add _ 2), by omega, Nat.le_of_ble_eq_true rfl, ?_⟩
    rw [et]
    refine ⟨fun c88 => ?_, fun c88 => ?_⟩
    · rw [h4] at c88
      have k1 : k = t := by have := (nI_leI (by omega) (by omega)).mp c88; omega
      subst k1
      rw [← h2, ← h3]
      refine K z4 (fun i hi => ?_)
      have := hi.2.2.1
      rw [pn_of et (by omega)] at this
      exact hn i this hi
    · have k1 : k < t := by
        rcases Nat.lt_or_ge k t with q1 | q1
        · exact q1
        · exact absurd (by rw [h4]; exact (nI_leI (by omega) (by omega)).mpr q1) c88
      refine ⟨_, _, rfl, rfl, ?_⟩
      refine ⟨d - 1, 0, 0, _, by omega, Nat.le_of_ble_eq_true rfl, Nat.le_of_ble_eq_true rfl, Nat.le_of_ble_eq_true rfl, m_stepAt (d - 1) (nI a) (nI s), ?_⟩
      rintro _ _ ⟨rfl, rfl⟩
      refine ⟨Or.inl rfl, ?_⟩
      rw [rwX_e]
      refine ⟨_, _, (rwX a s + 3 + k), rfl, (by rw [h4]; show nI _ + nI 3 + nI k = _; rw [nI_add, nI_add]), by omega, Nat.le_of_ble_eq_true rfl, ?_⟩
      refine ⟨fun c111 => ?_, fun c111 => ?_⟩
      · rw [← h2, ← h3]
        refine ih (k + 1) _ (by rw [h4]; exact nI_1 k) (fun j hj hu => ?_) (by omega) (by omega)
        rcases (show j = k ∨ j < k by omega) with e | e
        · subst e; exact c111 (by rw [hq]; exact hu.2.2.2)
        · exact hn j e hu
      · have hu : usO (sg 1) q a s k := ⟨by rw [pn_of ek (by omega)]; exact huse, by rw [pn_of es (by omega)]; exact hs, by rw [pn_of et (by omega)]; exact k1, by rw [← hq]; exact c111⟩
        exact ⟨rfl, true, rfl, ⟨fun _ => Or.inr ⟨a, s, k, hqa, by rw [pn_of hA.1 (by omega)]; exact ha, hu⟩, fun _ => rfl⟩, rfl⟩
theorem m_isUsed_s {sg : sg_T} {d kc ks : Nat} {R Q T q : Nat} {vq : Int32} (hA : pfA (sg 1) R Q) (hT : ttA (sg 1) Q T) (hd : 1 ≤ d) (hq : vq = nI q) (hqQ : q < Q) {a st ki : Nat} {z2 : Int32} (h2 : z2 = nI a) (hqa : q < a) (ha : a < Q) (ek : sg 1 (114 + a) = nI ki) (k5 : ki < 5) (es : sg 1 (126 + a) = nI st) (s12 : st ≤ 12) (hRw : ∀ j, j < st → okR (sg 1) R (rwX a j)) (K : ∀ (t3 t4 : Option Value), (∀ s k, ¬ usO (sg 1) q a s k) → am_W mi_X12_isUsed d (fun r h' => ∃ b, r = some (.int (bI b)) ∧ (b = true ↔ usP (sg 1) q) ∧ h' = hm sg) kc ks 38 [some (.ref 0), some (.int vq), some (.int (z2 + 1)), t3, t4] [] (hm sg)) : ∀ (u s : Nat) (z3 : Int32) (t4 : Option Value), z3 = nI s → (∀ j k, j < s → ¬ usO (sg 1) q a j k) → s ≤ st → st < s + u → am_W mi_X12_isUsed d (fun r h' => ∃ b, r = some (.int (bI b)) ∧ (b = true ↔ usP (sg 1) q) ∧ h' = hm sg) kc ks 50 [some (.ref 0), some (.int vq), some (.int z2), some (.int z3), t4] [] (hm sg) := by
  intro u
  induction u with
  | zero => intro s z3 t4 h3 hn h1 h5; exact absurd h5 (by omega)
  | succ u ih =>
    intro s z3 t4 h3 hn h1 h5
    refine am_go ok_X12_isUsed [38, 50, 74] 74 ?_
    have q12 := hA.2.1
    refine ⟨_, _, rfl, rfl, ?_⟩
    refine ⟨_, _, (126 + a), rfl, (by rw [h2]; exact nI_add 126 a), by omega, Nat.le_of_ble_eq_true rfl, ?_⟩
    rw [es]
    refine ⟨fun c60 => ?_, fun c60 => ?_⟩
    · rw [h3] at c60
      have k1 : s = st := by have := (nI_leI (by omega) (by omega)).mp c60; omega
      subst k1
      refine K _ _ (fun i k hi => ?_)
      first
        | exact hn i k (by have := hi.2.1; rw [pn_of es (by omega)] at this; exact this) hi
        | exact bI_f c68 (by have := hi.1; rw [pn_of ek (by omega)] at this; exact this)
    · have k1 : s < st := by
        rcases Nat.lt_or_ge s st with q1 | q1
        · exact q1
        · exact absurd (by rw [h3]; exact (nI_leI (by omega) (by omega)).mpr q1) c60
      refine ⟨_, rfl, d - 1, 0, 0, _, by omega, Nat.le_of_ble_eq_true rfl, Nat.le_of_ble_eq_true rfl, Nat.le_of_ble_eq_true rfl, m_usesEnds (q := a) (d - 1) h2 (by omega) ek k5, ?_⟩
      rintro _ _ ⟨rfl, rfl⟩
      refine ⟨Or.inl rfl, ?_⟩
      refine ⟨fun c68 => ?_, fun c68 => ?_⟩
      · refine K _ _ (fun i k hi => ?_)
        first
          | exact hn i k (by have := hi.2.1; rw [pn_of es (by omega)] at this; exact this) hi
          | exact bI_f c68 (by have := hi.1; rw [pn_of ek (by omega)] at this; exact this)
      · obtain ⟨t, t3, et⟩ := okR_t (hRw s k1)
        exact m_isUsed_k hA hT hd hq hqQ h2 h3 hqa ha ek k5 (bI_t c68) es s12 k1 et t3 (fun z4 hk => ih (s + 1) _ _ (by rw [h3]; exact nI_1 s) (fun j k hj => (by rcases (show j = s ∨ j < s by omega) with e | e; (subst e; exact hk k); exact hn j k e)) (by omega) (by omega)) (t + 1) 0 0 rfl (fun _ z => absurd z (by omega)) (by omega) (by omega)
theorem m_isUsed_o {sg : sg_T} {d kc ks : Nat} {R Q T q : Nat} {vq : Int32} (hA : pfA (sg 1) R Q) (hT : ttA (sg 1) Q T) (hd : 1 ≤ d) (hq : vq = nI q) (hqQ : q < Q) (hno : ∀ t, t < pn (sg 1) 5 → ¬ sg 1 (1002 + t) = nI q) : ∀ (u a : Nat) (z2 : Int32) (t3 t4 : Option Value), z2 = nI a → q < a → (∀ b s k, q < b → b < a → ¬ usO (sg 1) q b s k) → a ≤ Q → Q < a + u → am_W mi_X12_isUsed d (fun r h' => ∃ b, r = some (.int (bI b)) ∧ (b = true ↔ usP (sg 1) q) ∧ h' = hm sg) kc ks 38 [some (.ref 0), some (.int vq), some (.int z2), t3, t4] [] (hm sg) := by
  intro u
  induction u with
  | zero => intro a z2 t3 t4 h2 hqa hn h1 h5; exact absurd h5 (by omega)
  | succ u ih =>
    intro a z2 t3 t4 h2 hqa hn h1 h5
    refine am_go ok_X12_isUsed [38, 50] 68 ?_
    have q12 := hA.2.1
    refine ⟨_, _, rfl, rfl, ?_⟩
    refine ⟨_, _, 4, rfl, rfl, Nat.le_of_ble_eq_true rfl, Nat.le_of_ble_eq_true rfl, ?_⟩
    rw [hA.1]
    refine ⟨fun c45 => ?_, fun c45 => ?_⟩
    · rw [h2] at c45
      have k1 : a = Q := by have := (nI_leI (by omega) (by omega)).mp c45; omega
      subst k1
      refine ⟨rfl, ?_⟩
      refine ⟨false, rfl, ⟨fun z => (by cases z), fun z => ?_⟩, rfl⟩
      rcases z with ⟨t, ht, e⟩ | ⟨b, s, k, hb, hbQ, hu⟩
      · exact absurd e (hno t ht)
      · exact absurd hu (hn b s k hb (by rw [pn_of hA.1 (by omega)] at hbQ; exact hbQ))
    · have k1 : a < Q := by
        rcases Nat.lt_or_ge a Q with q1 | q1
        · exact q1
        · exact absurd (by rw [h2]; exact (nI_leI (by omega) (by omega)).mpr q1) c45
      obtain ⟨a12, ⟨ki, k5, ek, pk⟩, st, s12, es, ps, hRw⟩ := pf_q hA k1
      exact m_isUsed_s hA hT hd hq hqQ h2 hqa k1 ek k5 es s12 hRw (fun z3 z4 hk => ih (a + 1) _ _ _ (by rw [h2]; exact nI_1 a) (by omega) (fun b s k hb hba => (by rcases (show b = a ∨ b < a by omega) with e | e; (subst e; exact hk s k); exact hn b s k hb e)) (by omega) (by omega)) (st + 1) 0 0 t4 rfl (fun _ _ z => absurd z (by omega)) (by omega) (by omega)
theorem m_isUsed_t {sg : sg_T} {d kc ks : Nat} {R Q T q : Nat} {vq : Int32} (hA : pfA (sg 1) R Q) (hT : ttA (sg 1) Q T) (hd : 1 ≤ d) (hq : vq = nI q) (hqQ : q < Q) : ∀ (u t : Nat) (z2 : Int32) (t3 t4 : Option Value), z2 = nI t → (∀ j, j < t → ¬ sg 1 (1002 + j) = nI q) → t ≤ T → T < t + u → am_W mi_X12_isUsed d (fun r h' => ∃ b, r = some (.int (bI b)) ∧ (b = true ↔ usP (sg 1) q) ∧ h' = hm sg) kc ks 2 [some (.ref 0), some (.int vq), some (.int z2), t3, t4] [] (hm sg) := by
  intro u
  induction u with
  | zero => intro t z2 t3 t4 h2 hn h1 h5; exact absurd h5 (by omega)
  | succ u ih =>
    intro t z2 t3 t4 h2 hn h1 h5
    refine am_go ok_X12_isUsed [2, 38] 76 ?_
    have t10 := hT.2.1
    have q12 := hA.2.1
    have p5 : pn (sg 1) 5 = T := pn_of hT.1 (by omega)
    refine ⟨_, _, rfl, rfl, ?_⟩
    refine ⟨_, _, 5, rfl, rfl, Nat.le_of_ble_eq_true rfl, Nat.le_of_ble_eq_true rfl, ?_⟩
    rw [hT.1]
    refine ⟨fun c9 => ?_, fun c9 => ?_⟩
    · rw [h2] at c9
      have k1 : t = T := by have := (nI_leI (by omega) (by omega)).mp c9; omega
      subst k1
      exact m_isUsed_o hA hT hd hq hqQ (fun i hi => hn i (by rw [p5] at hi; exact hi)) (Q + 1) (q + 1) _ _ _ (by rw [hq]; exact nI_1 q) (by omega) (fun b s k z z' => absurd z (by omega)) (by omega) (by omega)
    · have k1 : t < T := by
        rcases Nat.lt_or_ge t T with q1 | q1
        · exact q1
        · exact absurd (by rw [h2]; exact (nI_leI (by omega) (by omega)).mpr q1) c9
      refine ⟨_, _, rfl, rfl, ?_⟩
      refine ⟨_, _, (1002 + t), rfl, (by rw [h2]; exact nI_add 1002 t), by omega, Nat.le_of_ble_eq_true rfl, ?_⟩
      refine ⟨fun c23 => ?_, fun c23 => ?_⟩
      · refine ih (t + 1) _ _ _ (by rw [h2]; exact nI_1 t) (fun j hj => ?_) (by omega) (by omega)
        rcases (show j = t ∨ j < t by omega) with e | e
        · subst e; rw [← hq]; exact c23
        · exact hn j e
      · exact ⟨rfl, true, rfl, ⟨fun _ => Or.inl ⟨t, by rw [p5]; exact k1, by rw [← hq]; exact c23⟩, fun _ => rfl⟩, rfl⟩
theorem m_isUsed {sg : sg_T} {d : Nat} {R Q T q : Nat} {vq : Int32} (hA : pfA (sg 1) R Q) (hT : ttA (sg 1) Q T) (hd : 1 ≤ d) (hq : vq = nI q) (hqQ : q < Q) : am_Met mi_X12_isUsed d 0 0 [.ref 0, .int vq] (hm sg) (fun r h' => ∃ b, r = some (.int (bI b)) ∧ (b = true ↔ usP (sg 1) q) ∧ h' = hm sg) := by
  refine am_Met.of rfl (Nat.le_of_ble_eq_true rfl) ?_
  refine am_go ok_X12_isUsed [2] 62 ?_
  exact m_isUsed_t hA hT hd hq hqQ (T + 1) 0 0 none none rfl (fun _ z => absurd z (by omega)) (by omega) (by omega)
/-- what STEP answers, and the numbers then; b: whether the PROOF is used -/
def sp_step (P : Nat → Int32) (b : Bool) (q r n t : Int32) : Int32 := if ¬ (inI q 0 (P 4 - 1) ∧ inI r 0 (P 1 - 1)) then -1 else if ¬ (inI n 0 624 ∧ inI t 1 3) then -2 else if b = true then -3 else if P (126 + cN q) = 12 then -4 else P (126 + cN q)
def stU (P : Nat → Int32) (q s : Nat) (r n t a b c : Int32) : Nat → Int32 := upd (upd (upd (upd (upd (upd (upd P (rwX q s) r) (rwX q s + 1) n) (rwX q s + 2) t) (rwX q s + 3) a) (rwX q s + 4) b) (rwX q s + 5) c) (126 + q) (nI (s + 1))
def sp_stepP (P : Nat → Int32) (b : Bool) (q r n t x y z : Int32) : Nat → Int32 := if (inI q 0 (P 4 - 1) ∧ inI r 0 (P 1 - 1)) ∧ (inI n 0 624 ∧ inI t 1 3) ∧ b = false ∧ ¬ P (126 + cN q) = 12 then stU P (cN q) (pn P (126 + cN q)) r n t x y z else P
theorem m_step {sg : sg_T} {d : Nat} (hd : 460 ≤ d) {R C n0 Q : Nat} (hW : wkA (sg 1) R C n0) (hA : pfA (sg 1) R Q) {T : Nat} (hT : ttA (sg 1) Q T) (q r n t x y z : Int32) : am_Met mi_X12_step d 0 0 [.ref 0, .int q, .int r, .int n, .int t, .int x, .int y, .int z] (hm sg) (fun v h' => ∃ b, (inI q 0 (sg 1 4 - 1) → (b = true ↔ usP (sg 1) (cN q))) ∧ mOut sg (sp_step (sg 1) b q r n t) (sp_stepP (sg 1) b q r n t x y z) v h') := by
  refine am_Met.of rfl (Nat.le_of_ble_eq_true rfl) ?_
  refine am_go ok_X12_step [] 157 ?_
  refine ⟨_, rfl, d - 1, 0, 0, _, by omega, Nat.le_of_ble_eq_true rfl, Nat.le_of_ble_eq_true rfl, Nat.le_of_ble_eq_true rfl, m_isProof (by omega) q, ?_⟩
  rintro _ _ ⟨rfl, rfl⟩
  refine ⟨Or.inl rfl, ?_⟩
  refine ⟨fun c5 => ?_, fun c5 => ?_⟩
  · have u : ¬ inI q 0 (sg 1 4 - 1) := bI_f c5
    exact ⟨trivial, true, fun z => absurd z u, by unfold sp_step sp_stepP; rw [if_pos (fun z => u z.1), if_neg (fun z => u z.1.1)]; exact mOut_s rfl⟩
  · have h12 := hA.2.1
    have u1 : inI q 0 (sg 1 4 - 1) := bI_t c5
    obtain ⟨j, ej, cj, hj⟩ := ix_at hA.1 (by omega) u1
    obtain ⟨q12, ⟨kk, k5, ek, pk⟩, st, s12, es, ps, hRw⟩ := pf_q hA hj
    have hx : ∃ b0 : Bool, (b0 = true ↔ usP (sg 1) (cN q)) := by
      by_cases h : usP (sg 1) (cN q)
      · exact ⟨true, fun _ => h, fun _ => rfl⟩
      · exact ⟨false, fun z => (by cases z), fun z => absurd z h⟩
    obtain ⟨b0, hb0⟩ := hx
    have hb : inI q 0 (sg 1 4 - 1) → (b0 = true ↔ usP (sg 1) (cN q)) := fun _ => hb0
    refine ⟨_, rfl, d - 1, 0, 0, _, by omega, Nat.le_of_ble_eq_true rfl, Nat.le_of_ble_eq_true rfl, Nat.le_of_ble_eq_true rfl, m_isRule (by omega) r, ?_⟩
    rintro _ _ ⟨rfl, rfl⟩
    refine ⟨Or.inl rfl, ?_⟩
    refine ⟨fun c13 => ?_, fun c13 => ?_⟩
    · have ur : inI q 0 (sg 1 4 - 1) ∧ inI r 0 (sg 1 1 - 1) := ⟨u1, bI_t c13⟩
      refine ⟨d - 1, 0, 0, _, by omega, Nat.le_of_ble_eq_true rfl, Nat.le_of_ble_eq_true rfl, Nat.le_of_ble_eq_true rfl, m_in (d - 1) n 0 624, ?_⟩
      rintro _ _ ⟨rfl, rfl⟩
      refine ⟨Or.inl rfl, ?_⟩
      refine ⟨fun c26 => ?_, fun c26 => ?_⟩
      · exact ⟨trivial, b0, hb, by unfold sp_step sp_stepP; rw [if_neg (fun z => z ur), if_pos (fun z => bI_f c26 z.1), if_neg (fun z => bI_f c26 z.2.1.1)]; exact mOut_s rfl⟩
      · refine ⟨d - 1, 0, 0, _, by omega, Nat.le_of_ble_eq_true rfl, Nat.le_of_ble_eq_true rfl, Nat.le_of_ble_eq_true rfl, m_in (d - 1) t 1 3, ?_⟩
        rintro _ _ ⟨rfl, rfl⟩
        refine ⟨Or.inl rfl, ?_⟩
        refine ⟨fun c36 => ?_, fun c36 => ?_⟩
        · have un : inI n 0 624 ∧ inI t 1 3 := ⟨bI_t c26, bI_t c36⟩
          refine ⟨_, rfl, d - 1, 0, 0, _, by omega, Nat.le_of_ble_eq_true rfl, Nat.le_of_ble_eq_true rfl, Nat.le_of_ble_eq_true rfl, m_isUsed (q := j) hA hT (by omega) ej hj, ?_⟩
          rintro _ _ ⟨b, rfl, hb1, rfl⟩
          refine ⟨Or.inl rfl, ?_⟩
          have eb : b = b0 := by
            have hb2 := hb0
            rw [cj] at hb2
            exact Bool.eq_iff_iff.mpr (hb1.trans hb2.symm)
          subst eb
          refine ⟨fun c47 => ?_, fun c47 => ?_⟩
          · have ub : b = false := bI_0.mp c47
            have ub' : ¬ b = true := by rw [ub]; decide
            refine ⟨_, _, rfl, rfl, ?_⟩
            refine ⟨_, _, (126 + j), rfl, (by rw [ej]; exact nI_add 126 j), by omega, Nat.le_of_ble_eq_true rfl, ?_⟩
            refine ⟨fun c64 => ?_, fun c64 => ?_⟩
            · have u12 : ¬ sg 1 (126 + cN q) = 12 := by rw [cj]; exact c64
              have st12 : st < 12 := by
                rcases (show st = 12 ∨ st < 12 by omega) with e | e
                · exact absurd (by rw [es, e]; rfl) c64
                · exact e
              have rb : rwX j st + 6 ≤ 1002 := by unfold rwX; omega
              have rl : 138 ≤ rwX j st := by unfold rwX; omega
              refine ⟨_, _, rfl, rfl, ?_⟩
              refine ⟨_, _, (126 + j), rfl, (by rw [ej]; exact nI_add 126 j), by omega, Nat.le_of_ble_eq_true rfl, ?_⟩
              rw [es]
              refine ⟨d - 1, 0, 0, _, by omega, Nat.le_of_ble_eq_true rfl, Nat.le_of_ble_eq_true rfl, Nat.le_of_ble_eq_true rfl, m_stepAt (d - 1) q (nI st), ?_⟩
              rintro _ _ ⟨rfl, rfl⟩
              refine ⟨Or.inl rfl, ?_⟩
              rw [ej, rwX_e]
              refine ⟨_, _, rfl, rfl, ?_⟩
              refine ⟨_, _, (rwX j st), rfl, rfl, by omega, Nat.le_of_ble_eq_true rfl, ?_⟩
              rw [hm_a1]
              rw [sgP_u0]
              refine ⟨_, _, rfl, rfl, ?_⟩
              refine ⟨_, _, (rwX j st + 1), rfl, (nI_add _ 1), by omega, Nat.le_of_ble_eq_true rfl, ?_⟩
              rw [hm_a1]
              rw [sgP_u]
              refine ⟨_, _, rfl, rfl, ?_⟩
              refine ⟨_, _, (rwX j st + 2), rfl, (nI_add _ 2), by omega, Nat.le_of_ble_eq_true rfl, ?_⟩
              rw [hm_a1]
              rw [sgP_u]
              refine ⟨_, _, rfl, rfl, ?_⟩
              refine ⟨_, _, (rwX j st + 3), rfl, (nI_add _ 3), by omega, Nat.le_of_ble_eq_true rfl, ?_⟩
              rw [hm_a1]
              rw [sgP_u]
              refine ⟨_, _, rfl, rfl, ?_⟩
              refine ⟨_, _, (rwX j st + 4), rfl, (nI_add _ 4), by omega, Nat.le_of_ble_eq_true rfl, ?_⟩
              rw [hm_a1]
              rw [sgP_u]
              refine ⟨_, _, rfl, rfl, ?_⟩
              refine ⟨_, _, (rwX j st + 5), rfl, (nI_add _ 5), by omega, Nat.le_of_ble_eq_true rfl, ?_⟩
              rw [hm_a1]
              rw [sgP_u]
              refine ⟨_, _, rfl, rfl, ?_⟩
              refine ⟨_, _, (126 + j), rfl, (nI_add 126 j), by omega, Nat.le_of_ble_eq_true rfl, ?_⟩
              rw [sgP_1, pk_un (by omega), pk_un (by omega), pk_un (by omega), pk_un (by omega), pk_un (by omega), pk_un (by omega), es]
              refine ⟨_, _, (126 + j), rfl, (nI_add 126 j), by omega, Nat.le_of_ble_eq_true rfl, ?_⟩
              rw [hm_a1]
              rw [nI_1, sgP_u]
              refine ⟨_, _, rfl, rfl, ?_⟩
              refine ⟨_, _, (126 + j), rfl, (nI_add 126 j), by omega, Nat.le_of_ble_eq_true rfl, ?_⟩
              rw [sgP_1, pk_us]
              refine ⟨trivial, ?_⟩
              rw [← ej, nI_pred]
              refine ⟨b, hb, ?_⟩
              unfold sp_step sp_stepP
              rw [if_neg (fun z => z ur), if_neg (fun z => z un), if_neg ub', if_neg u12, if_pos ⟨ur, un, ub, u12⟩, cj, ps, es]
              exact ⟨_, rfl, rfl, rfl, rfl, rfl⟩
            · have u12 : sg 1 (126 + cN q) = 12 := by rw [cj]; exact c64
              exact ⟨trivial, b, hb, by unfold sp_step sp_stepP; rw [if_neg (fun z => z ur), if_neg (fun z => z un), if_neg ub', if_pos u12, if_neg (fun z => z.2.2.2 u12)]; exact mOut_s rfl⟩
          · have ub : b = true := by cases b; exact absurd rfl c47; rfl
            exact ⟨trivial, b, hb, by unfold sp_step sp_stepP; rw [if_neg (fun z => z ur), if_neg (fun z => z un), if_pos ub, if_neg (fun z => (by rw [ub] at z; cases z.2.2.1))]; exact mOut_s rfl⟩
        · exact ⟨trivial, b0, hb, by unfold sp_step sp_stepP; rw [if_neg (fun z => z ur), if_pos (fun z => bI_f c36 z.2), if_neg (fun z => bI_f c36 z.2.1.2)]; exact mOut_s rfl⟩
    · exact ⟨trivial, b0, hb, by unfold sp_step sp_stepP; rw [if_pos (fun z => bI_f c13 z.2), if_neg (fun z => bI_f c13 z.1.2)]; exact mOut_s rfl⟩
def clB (f g : Nat) : Bool := decide (f < 125 ∧ g < 125 ∧ f / 5 % 5 = g / 5 % 5 ∧ ¬ f / 25 = g / 25)
def sp_clash (P : Nat → Int32) (a b : Int32) : Int32 := if ¬ (inI a 0 (P 5 - 1) ∧ inI b 0 (P 5 - 1)) then -1 else if a = b then -2 else if clB (pn P (1022 + cN a)) (pn P (1022 + cN b)) = true then lnV P (pn P (1002 + cN a)) ^^^ lnV P (pn P (1002 + cN b)) else -5
theorem m_clash {sg : sg_T} {d : Nat} (hd : 460 ≤ d) {R C n0 Q : Nat} (hW : wkA (sg 1) R C n0) (hA : pfA (sg 1) R Q) {T : Nat} (hT : ttA (sg 1) Q T) (a b : Int32) : am_Met mi_X12_clash d 0 0 [.ref 0, .int a, .int b] (hm sg) (mOut sg (sp_clash (sg 1) a b) (sg 1)) := by
  refine am_Met.of rfl (Nat.le_of_ble_eq_true rfl) ?_
  refine am_go ok_X12_clash [] 132 ?_
  refine ⟨_, rfl, d - 1, 0, 0, _, by omega, Nat.le_of_ble_eq_true rfl, Nat.le_of_ble_eq_true rfl, Nat.le_of_ble_eq_true rfl, m_isTitle (by omega) a, ?_⟩
  rintro _ _ ⟨rfl, rfl⟩
  refine ⟨Or.inl rfl, ?_⟩
  refine ⟨fun c5 => ?_, fun c5 => ?_⟩
  · exact ⟨trivial, mOut_s (by unfold sp_clash; rw [if_pos (fun z => bI_f c5 z.1)])⟩
  · refine ⟨_, rfl, d - 1, 0, 0, _, by omega, Nat.le_of_ble_eq_true rfl, Nat.le_of_ble_eq_true rfl, Nat.le_of_ble_eq_true rfl, m_isTitle (by omega) b, ?_⟩
    rintro _ _ ⟨rfl, rfl⟩
    refine ⟨Or.inl rfl, ?_⟩
    refine ⟨fun c13 => ?_, fun c13 => ?_⟩
    · have ut : inI a 0 (sg 1 5 - 1) ∧ inI b 0 (sg 1 5 - 1) := ⟨bI_t c5, bI_t c13⟩
      have T10 := hT.2.1
      obtain ⟨i, ei, ci, hi⟩ := ix_at hT.1 (by omega) ut.1
      obtain ⟨t10i, ⟨qi, hqi, eqi, pqi⟩, ⟨yi, hyi, eyi⟩, fi, hfi, efi, pfi⟩ := tt_t hT hi
      obtain ⟨j, ej, cj, hj⟩ := ix_at hT.1 (by omega) ut.2
      obtain ⟨t10j, ⟨qj, hqj, eqj, pqj⟩, ⟨yj, hyj, eyj⟩, fj, hfj, efj, pfj⟩ := tt_t hT hj
      have di : nI fi / 5 = nI (fi / 5) := pk_div (d := 5) (by omega) (by omega) (by omega)
      have dj : nI fj / 5 = nI (fj / 5) := pk_div (d := 5) (by omega) (by omega) (by omega)
      have gi : nI fi / 25 = nI (fi / 25) := pk_div (d := 25) (by omega) (by omega) (by omega)
      have gj : nI fj / 25 = nI (fj / 25) := pk_div (d := 25) (by omega) (by omega) (by omega)
      refine ⟨fun c20 => ?_, fun c20 => ?_⟩
      · refine ⟨_, _, rfl, rfl, ?_⟩
        refine ⟨_, _, (1022 + i), rfl, (by rw [ei]; exact nI_add 1022 i), by omega, Nat.le_of_ble_eq_true rfl, ?_⟩
        rw [efi]
        refine ⟨_, _, rfl, rfl, ?_⟩
        refine ⟨_, _, (1022 + j), rfl, (by rw [ej]; exact nI_add 1022 j), by omega, Nat.le_of_ble_eq_true rfl, ?_⟩
        rw [efj]
        refine ⟨fun c52 => ?_, fun c52 => ?_⟩
        · have uc : ¬ clB fi fj = true := by
            unfold clB; rw [decide_eq_true_iff]; intro z
            exact absurd ((nI_leI (a := 125) (by omega) (by omega)).mp c52) (by omega)
          exact ⟨fun _ => ⟨trivial, mOut_s (by unfold sp_clash; rw [if_neg (fun z => z ut), if_neg c20, ci, cj, pfi, pfj, if_neg uc])⟩, fun c => absurd rfl c⟩
        · have v1 : fi < 125 := by
            rcases Nat.lt_or_ge fi 125 with z | z
            · exact z
            · exact absurd ((nI_leI (a := 125) (by omega) (by omega)).mpr z) c52
          refine ⟨fun c59 => ?_, fun c59 => ?_⟩
          · have uc : ¬ clB fi fj = true := by
              unfold clB; rw [decide_eq_true_iff]; intro z
              exact absurd ((nI_leI (a := 125) (by omega) (by omega)).mp c59) (by omega)
            exact ⟨fun _ => ⟨trivial, mOut_s (by unfold sp_clash; rw [if_neg (fun z => z ut), if_neg c20, ci, cj, pfi, pfj, if_neg uc])⟩, fun c => absurd rfl c⟩
          · have v2 : fj < 125 := by
              rcases Nat.lt_or_ge fj 125 with z | z
              · exact z
              · exact absurd ((nI_leI (a := 125) (by omega) (by omega)).mpr z) c59
            refine ⟨by decide, ?_⟩
            refine ⟨by decide, ?_⟩
            refine ⟨by decide, ?_⟩
            refine ⟨by decide, ?_⟩
            refine ⟨fun c73 => ?_, fun c73 => ?_⟩
            · have uc : ¬ clB fi fj = true := by
                unfold clB; rw [decide_eq_true_iff]; intro z
                exact c73 (by rw [di, dj, rm5 (by omega), rm5 (by omega), z.2.2.1])
              exact ⟨fun _ => ⟨trivial, mOut_s (by unfold sp_clash; rw [if_neg (fun z => z ut), if_neg c20, ci, cj, pfi, pfj, if_neg uc])⟩, fun c => absurd rfl c⟩
            · have v3 : fi / 5 % 5 = fj / 5 % 5 := by
                rw [di, dj, rm5 (by omega), rm5 (by omega)] at c73
                exact (nI_eq (by omega) (by omega)).mp c73
              refine ⟨by decide, ?_⟩
              refine ⟨by decide, ?_⟩
              refine ⟨fun c85 => ?_, fun c85 => ?_⟩
              · have uc : ¬ clB fi fj = true := by
                  unfold clB; rw [decide_eq_true_iff]; intro z
                  rw [gi, gj] at c85
                  exact z.2.2.2 ((nI_eq (by omega) (by omega)).mp c85)
                exact ⟨fun _ => ⟨trivial, mOut_s (by unfold sp_clash; rw [if_neg (fun z => z ut), if_neg c20, ci, cj, pfi, pfj, if_neg uc])⟩, fun c => absurd rfl c⟩
              · have uc : clB fi fj = true := by
                  unfold clB; rw [decide_eq_true_iff]
                  refine ⟨v1, v2, v3, fun z => c85 ?_⟩
                  rw [gi, gj, z]
                refine ⟨fun c97 => absurd c97 (by decide), fun _ => ?_⟩
                refine ⟨_, _, rfl, rfl, ?_⟩
                refine ⟨_, _, (1002 + i), rfl, (by rw [ei]; exact nI_add 1002 i), by omega, Nat.le_of_ble_eq_true rfl, ?_⟩
                rw [eqi]
                refine ⟨_, rfl, d - 1, 0, 0, _, by omega, Nat.le_of_ble_eq_true rfl, Nat.le_of_ble_eq_true rfl, Nat.le_of_ble_eq_true rfl, m_leansOf hW hA rfl hqi (by omega), ?_⟩
                rintro _ _ ⟨rfl, rfl⟩
                refine ⟨Or.inl rfl, ?_⟩
                refine ⟨_, _, rfl, rfl, ?_⟩
                refine ⟨_, _, (1002 + j), rfl, (by rw [ej]; exact nI_add 1002 j), by omega, Nat.le_of_ble_eq_true rfl, ?_⟩
                rw [eqj]
                refine ⟨_, rfl, d - 1, 0, 0, _, by omega, Nat.le_of_ble_eq_true rfl, Nat.le_of_ble_eq_true rfl, Nat.le_of_ble_eq_true rfl, m_leansOf hW hA rfl hqj (by omega), ?_⟩
                rintro _ _ ⟨rfl, rfl⟩
                refine ⟨Or.inl rfl, ?_⟩
                refine ⟨trivial, ?_⟩
                exact mOut_s (by unfold sp_clash; rw [if_neg (fun z => z ut), if_neg c20, ci, cj, pfi, pfj, if_pos uc, pqi, pqj])
      · exact ⟨trivial, mOut_s (by unfold sp_clash; rw [if_neg (fun z => z ut), if_pos c20])⟩
    · exact ⟨trivial, mOut_s (by unfold sp_clash; rw [if_pos (fun z => bI_f c13 z.2)])⟩
/-- the first place where p; n: none -/
def fsF (p : Nat → Bool) : Nat → Option Nat
  | 0 => none
  | n + 1 => match fsF p n with
    | some j => some j
    | none => if p n = true then some n else none
theorem fsF_n {p : Nat → Bool} : ∀ {n : Nat}, (∀ k, k < n → p k = false) → fsF p n = none
  | 0, _ => rfl
  | n + 1, h => by rw [fsF, fsF_n (fun k hk => h k (by omega))]; exact if_neg (by rw [h n (by omega)]; decide)
theorem fsF_s {p : Nat → Bool} {k : Nat} (h1 : ∀ j, j < k → p j = false) (h2 : p k = true) : ∀ n, k < n → fsF p n = some k
  | 0, h => absurd h (by omega)
  | n + 1, h => by
    rcases (show k = n ∨ k < n by omega) with e | e
    · subst e; rw [fsF, fsF_n h1]; exact if_pos h2
    · rw [fsF, fsF_s h1 h2 n e]
def sp_carry (P : Nat → Int32) (t dy : Int32) : Int32 := if ¬ inI t 0 (P 5 - 1) then -1 else if ¬ inI dy 0 999 then -2 else chI (-5) (fsF (fun s => decide (¬ lkV P (trP P) dy (pn P (1002 + cN t)) s = 0)) (pn P (126 + pn P (1002 + cN t))))
theorem m_carry_l {sg0 : sg_T} {d kc ks : Nat} (hd : 460 ≤ d) {R C n0 Q q st : Nat} {dy vq t1 : Int32} (hW : wkA (sg0 1) R C n0) (hA : pfA (sg0 1) R Q) (hq : vq = nI q) (hqQ : q < Q) (es : sg0 1 (126 + q) = nI st) (s12 : st ≤ 12) : ∀ (u s : Nat) (z : Int32) (sg : sg_T), z = nI s → frL sg0 sg → (∀ j, j < s → decide (¬ lkV (sg0 1) (trP (sg0 1)) dy q j = 0) = false) → s ≤ st → st < s + u → am_W mi_X12_carry d (mOut sg0 (chI (-5) (fsF (fun s => decide (¬ lkV (sg0 1) (trP (sg0 1)) dy q s = 0)) st)) (sg0 1)) kc ks 34 [some (.ref 0), some (.int t1), some (.int dy), some (.int vq), some (.int z)] [] (hm sg) := by
  intro u
  induction u with
  | zero => intro s z sg hz fr hn h1 h2; exact absurd h2 (by omega)
  | succ u ih =>
    intro s z sg hz fr hn h1 h2
    refine am_go ok_X12_carry [34] 76 ?_
    have q12 := hA.2.1
    have e1 : sg 1 = sg0 1 := fr 1 (by decide)
    refine ⟨_, _, rfl, rfl, ?_⟩
    refine ⟨_, _, (126 + q), rfl, (by rw [hq]; exact nI_add 126 q), by omega, Nat.le_of_ble_eq_true rfl, ?_⟩
    rw [e1, es]
    refine ⟨fun c45 => ?_, fun c45 => ?_⟩
    · rw [hz] at c45
      have k1 : s = st := by have := (nI_leI (by omega) (by omega)).mp c45; omega
      subst k1
      refine ⟨trivial, ?_⟩
      exact mOut_L fr (by rw [fsF_n hn]; rfl)
    · have k1 : s < st := by
        rcases Nat.lt_or_ge s st with q1 | q1
        · exact q1
        · exact absurd (by rw [hz]; exact (nI_leI (by omega) (by omega)).mpr q1) c45
      refine ⟨_, rfl, d - 1, 0, 0, _, by omega, Nat.le_of_ble_eq_true rfl, Nat.le_of_ble_eq_true rfl, Nat.le_of_ble_eq_true rfl, m_lacksOn (q := q) (s := s) (by rw [e1]; exact hW) (by rw [e1]; exact hA) hq hz hqQ (by rw [e1, pn_of es (by omega)]; exact k1) (by omega), ?_⟩
      rintro _ _ ⟨sg', rfl, rfl, fr'⟩
      refine ⟨Or.inl rfl, ?_⟩
      rw [e1]
      have fr2 : frL sg0 sg' := fun a ha => (fr' a ha).trans (fr a ha)
      have lb : lkV (sg0 1) (trP (sg0 1)) dy q s ≤ 13 := lkN_le (by obtain ⟨t, t3, et⟩ := okR_t ((pf_q hA hqQ).2.2.choose_spec.2.2.2 s (by have := (pf_q hA hqQ).2.2.choose_spec; rw [← this.2.2.1, pn_of es (by omega)]; exact k1)); rw [pn_of et (by omega)]; exact t3)
      refine ⟨fun c56 => ?_, fun c56 => ?_⟩
      · refine ih (s + 1) _ _ (by rw [hz]; exact nI_1 s) fr2 (fun j hj => ?_) (by omega) (by omega)
        rcases (show j = s ∨ j < s by omega) with e | e
        · subst e; exact decide_eq_false (fun z => z ((nI_eq (b := 0) (by omega) (by omega)).mp c56))
        · exact hn j e
      · have d1 : decide (¬ lkV (sg0 1) (trP (sg0 1)) dy q s = 0) = true := decide_eq_true (fun z => c56 (by rw [z]; rfl))
        exact ⟨trivial, mOut_L fr2 (by rw [hz, fsF_s hn d1 st k1]; rfl)⟩
theorem m_carry {sg : sg_T} {d : Nat} (hd : 460 ≤ d) {R C n0 Q : Nat} (hW : wkA (sg 1) R C n0) (hA : pfA (sg 1) R Q) {T : Nat} (hT : ttA (sg 1) Q T) (t dy : Int32) : am_Met mi_X12_carry d 0 0 [.ref 0, .int t, .int dy] (hm sg) (mOut sg (sp_carry (sg 1) t dy) (sg 1)) := by
  refine am_Met.of rfl (Nat.le_of_ble_eq_true rfl) ?_
  refine am_go ok_X12_carry [34] 76 ?_
  refine ⟨_, rfl, d - 1, 0, 0, _, by omega, Nat.le_of_ble_eq_true rfl, Nat.le_of_ble_eq_true rfl, Nat.le_of_ble_eq_true rfl, m_isTitle (by omega) t, ?_⟩
  rintro _ _ ⟨rfl, rfl⟩
  refine ⟨Or.inl rfl, ?_⟩
  refine ⟨fun c5 => ?_, fun c5 => ?_⟩
  · have u1 : inI t 0 (sg 1 5 - 1) := bI_t c5
    have T10 := hT.2.1
    obtain ⟨i, ei, ci, hi⟩ := ix_at hT.1 (by omega) u1
    obtain ⟨t10i, ⟨qi, hqi, eqi, pqi⟩, ⟨yi, hyi, eyi⟩, fi, hfi, efi, pfi⟩ := tt_t hT hi
    refine ⟨d - 1, 0, 0, _, by omega, Nat.le_of_ble_eq_true rfl, Nat.le_of_ble_eq_true rfl, Nat.le_of_ble_eq_true rfl, m_isDay (by omega) dy, ?_⟩
    rintro _ _ ⟨rfl, rfl⟩
    refine ⟨Or.inl rfl, ?_⟩
    refine ⟨fun c14 => ?_, fun c14 => ?_⟩
    · have u2 : inI dy 0 999 := bI_t c14
      refine ⟨_, _, rfl, rfl, ?_⟩
      refine ⟨_, _, (1002 + i), rfl, (by rw [ei]; exact nI_add 1002 i), by omega, Nat.le_of_ble_eq_true rfl, ?_⟩
      rw [eqi]
      unfold sp_carry
      rw [if_neg (fun z => z u1), if_neg (fun z => z u2), ci, pqi]
      obtain ⟨q12, -, st, s12, es, ps, hRw⟩ := pf_q hA hqi
      rw [ps]
      exact m_carry_l hd hW hA rfl hqi es s12 (st + 1) 0 0 sg rfl (fun _ _ => rfl) (fun _ z => absurd z (by omega)) (by omega) (by omega)
    · exact ⟨trivial, mOut_s (by unfold sp_carry; rw [if_neg (fun z => z u1), if_pos (bI_f c14)])⟩
  · exact ⟨trivial, mOut_s (by unfold sp_carry; rw [if_pos (bI_f c5)])⟩
def tkD (P : Nat → Int32) (tr : Nat → Bool) (t : Nat) : Bool := tkB P (lkV P tr (P (1012 + t))) (pn P (1002 + t))
/-- a TITLE stands on a DAY: 1 by its PROOF, 2 by another way, 0 not -/
def saV (k b : Bool) : Int32 := if k = true then 1 else if b = true then 2 else 0
def sdR (P : Nat → Int32) (dy : Int32) (t : Nat) (v : Int32) : Prop := ∃ b : Bool, (b = true ↔ rcP (syP P dy) (baP P (pn P 3)) (pn P (1022 + t))) ∧ v = saV (tkD P (trP P) t) b
def sp_stand (P : Nat → Int32) (t dy v : Int32) : Prop := (¬ inI t 0 (P 5 - 1) ∧ v = -1) ∨ (inI t 0 (P 5 - 1) ∧ ¬ inI dy (P (1012 + cN t)) 999 ∧ v = -2) ∨ (inI t 0 (P 5 - 1) ∧ inI dy (P (1012 + cN t)) 999 ∧ sdR P dy (cN t) v)
theorem frM_L {a b c : sg_T} (h : frL a b) (h' : frM b c) : frM a c := fun i h3 h4 h5 => (h' i h3 h4 h5).trans (h i h5)
theorem frM_of {a b : sg_T} (h : frL a b) : frM a b := fun i _ _ h5 => h i h5
theorem frM_t {a b c : sg_T} (h : frM a b) (h' : frM b c) : frM a c := fun i h3 h4 h5 => (h' i h3 h4 h5).trans (h i h3 h4 h5)
theorem b_dec {p : Prop} : ∃ b : Bool, (b = true ↔ p) := by
  by_cases h : p
  · exact ⟨true, fun _ => h, fun _ => rfl⟩
  · exact ⟨false, fun z => (by cases z), fun z => absurd z h⟩
theorem m_standsOn {sg : sg_T} {d : Nat} (hd : 459 ≤ d) {R C n0 Q : Nat} (hW : wkA (sg 1) R C n0) (hA : pfA (sg 1) R Q) {T : Nat} (hT : ttA (sg 1) Q T) {vt : Int32} {t : Nat} (dy : Int32) (ht : vt = nI t) (htT : t < T) : am_Met mi_X12_standsOn d 0 0 [.ref 0, .int vt, .int dy] (hm sg) (fun r h' => ∃ v sg', r = some (.int v) ∧ sdR (sg 1) dy t v ∧ h' = hm sg' ∧ frM sg sg') := by
  obtain ⟨t10, ⟨q, hq, eq, pq⟩, ⟨y, hy, ey⟩, f, hf, ef, pf⟩ := tt_t hT htT
  refine am_Met.of rfl (Nat.le_of_ble_eq_true rfl) ?_
  refine am_go ok_X12_standsOn [] 87 ?_
  refine ⟨_, _, rfl, rfl, ?_⟩
  refine ⟨_, _, (1002 + t), rfl, (by rw [ht]; exact nI_add 1002 t), by omega, Nat.le_of_ble_eq_true rfl, ?_⟩
  refine ⟨_, _, rfl, rfl, ?_⟩
  refine ⟨_, _, (1012 + t), rfl, (by rw [ht]; exact nI_add 1012 t), by omega, Nat.le_of_ble_eq_true rfl, ?_⟩
  refine ⟨_, rfl, d - 1, 0, 0, _, by omega, Nat.le_of_ble_eq_true rfl, Nat.le_of_ble_eq_true rfl, Nat.le_of_ble_eq_true rfl, m_isTaken (q := q) hW hA eq hq (by omega), ?_⟩
  rintro _ _ ⟨sg', rfl, rfl, fr⟩
  refine ⟨Or.inl rfl, ?_⟩
  have e1 : sg' 1 = sg 1 := fr 1 (by decide)
  have ek : tkB (sg 1) (lkV (sg 1) (trP (sg 1)) (sg 1 (1012 + t))) q = tkD (sg 1) (trP (sg 1)) t := by unfold tkD; rw [pq]
  rw [ek]
  refine ⟨fun c24 => ?_, fun c24 => ?_⟩
  · have k1 : tkD (sg 1) (trP (sg 1)) t = false := bI_0.mp c24
    refine ⟨_, _, rfl, rfl, ?_⟩
    refine ⟨_, _, (1022 + t), rfl, (by rw [ht]; exact nI_add 1022 t), by omega, Nat.le_of_ble_eq_true rfl, ?_⟩
    rw [e1, ef]
    refine ⟨_, rfl, d - 1, 0, 0, _, by omega, Nat.le_of_ble_eq_true rfl, Nat.le_of_ble_eq_true rfl, Nat.le_of_ble_eq_true rfl, m_followsOn (f := f) (by omega) (by rw [e1]; exact wkA_w hW) rfl hf, ?_⟩
    rintro _ _ ⟨sg2, b, rfl, rfl, fr2, hb⟩
    refine ⟨Or.inl rfl, ?_⟩
    rw [e1] at hb
    have hb' : (b = true ↔ rcP (syP (sg 1) dy) (baP (sg 1) (pn (sg 1) 3)) (pn (sg 1) (1022 + t))) := by rw [pf, pn_of hW.2.2.2.2.2.2.1 (by have := hW.2.2.2.2.2.2.2.1; omega)]; exact hb
    refine ⟨fun c44 => ?_, fun c44 => ?_⟩
    · refine ⟨trivial, ?_⟩
      refine ⟨_, sg2, rfl, ⟨b, hb', ?_⟩, rfl, frM_L fr fr2⟩
      rw [k1]
      cases b <;> first | rfl | exact absurd rfl c44 | exact absurd c44 (by decide)
    · refine ⟨trivial, ?_⟩
      refine ⟨_, sg2, rfl, ⟨b, hb', ?_⟩, rfl, frM_L fr fr2⟩
      rw [k1]
      cases b <;> first | rfl | exact absurd rfl c44 | exact absurd c44 (by decide)
  · obtain ⟨b, hb⟩ := b_dec (p := rcP (syP (sg 1) dy) (baP (sg 1) (pn (sg 1) 3)) (pn (sg 1) (1022 + t)))
    have k1 : tkD (sg 1) (trP (sg 1)) t = true := by cases h : tkD (sg 1) (trP (sg 1)) t; (rw [h] at c24; exact absurd rfl c24); rfl
    exact ⟨trivial, 1, sg', rfl, ⟨b, hb, by rw [k1]; rfl⟩, rfl, frM_of fr⟩
theorem m_stand {sg : sg_T} {d : Nat} (hd : 460 ≤ d) {R C n0 Q : Nat} (hW : wkA (sg 1) R C n0) (hA : pfA (sg 1) R Q) {T : Nat} (hT : ttA (sg 1) Q T) (t dy : Int32) : am_Met mi_X12_stand d 0 0 [.ref 0, .int t, .int dy] (hm sg) (fun r h' => ∃ v, sp_stand (sg 1) t dy v ∧ mOut sg v (sg 1) r h') := by
  refine am_Met.of rfl (Nat.le_of_ble_eq_true rfl) ?_
  refine am_go ok_X12_stand [] 84 ?_
  refine ⟨_, rfl, d - 1, 0, 0, _, by omega, Nat.le_of_ble_eq_true rfl, Nat.le_of_ble_eq_true rfl, Nat.le_of_ble_eq_true rfl, m_isTitle (by omega) t, ?_⟩
  rintro _ _ ⟨rfl, rfl⟩
  refine ⟨Or.inl rfl, ?_⟩
  refine ⟨fun c5 => ?_, fun c5 => ?_⟩
  · have u1 : inI t 0 (sg 1 5 - 1) := bI_t c5
    have T10 := hT.2.1
    obtain ⟨i, ei, ci, hi⟩ := ix_at hT.1 (by omega) u1
    obtain ⟨t10i, ⟨qi, hqi, eqi, pqi⟩, ⟨yi, hyi, eyi⟩, fi, hfi, efi, pfi⟩ := tt_t hT hi
    refine ⟨_, _, rfl, rfl, ?_⟩
    refine ⟨_, rfl, d - 1, 0, 0, _, by omega, Nat.le_of_ble_eq_true rfl, Nat.le_of_ble_eq_true rfl, Nat.le_of_ble_eq_true rfl, m_isTitle (by omega) t, ?_⟩
    rintro _ _ ⟨rfl, rfl⟩
    refine ⟨Or.inl rfl, ?_⟩
    refine ⟨fun c25 => absurd c25 c5, fun _ => ?_⟩
    refine ⟨_, _, (1012 + i), rfl, (by rw [ei]; exact nI_add 1012 i), by omega, Nat.le_of_ble_eq_true rfl, ?_⟩
    refine ⟨d - 1, 0, 0, _, by omega, Nat.le_of_ble_eq_true rfl, Nat.le_of_ble_eq_true rfl, Nat.le_of_ble_eq_true rfl, m_in (d - 1) dy _ 999, ?_⟩
    rintro _ _ ⟨rfl, rfl⟩
    refine ⟨Or.inl rfl, ?_⟩
    refine ⟨fun c41 => ?_, fun c41 => ?_⟩
    · exact ⟨trivial, -2, Or.inr (Or.inl ⟨u1, by rw [ci]; exact bI_f c41, rfl⟩), mOut_s rfl⟩
    · refine ⟨_, rfl, d - 1, 0, 0, _, by omega, Nat.le_of_ble_eq_true rfl, Nat.le_of_ble_eq_true rfl, Nat.le_of_ble_eq_true rfl, m_standsOn (t := i) (by omega) hW hA hT dy ei hi, ?_⟩
      rintro _ _ ⟨v, sg', rfl, hv, rfl, fr⟩
      refine ⟨Or.inl rfl, ?_⟩
      refine ⟨trivial, ?_⟩
      exact ⟨v, Or.inr (Or.inr ⟨u1, by rw [ci]; exact bI_t c41, by rw [ci]; exact hv⟩), mOut_M fr rfl⟩
  · exact ⟨trivial, -1, Or.inl ⟨bI_f c5, rfl⟩, mOut_s rfl⟩
def sp_follows (P : Nat → Int32) (f dy w v : Int32) : Prop := (¬ inI w 0 2 ∧ v = -1) ∨ (inI w 0 2 ∧ ¬ (inI f 0 749 ∧ inI dy 0 999) ∧ v = -2) ∨ (inI w 0 2 ∧ (inI f 0 749 ∧ inI dy 0 999) ∧ ((w = 0 ∧ ∃ b : Bool, (b = true ↔ rcP (syP P dy) (baP P (pn P 3)) (cN f)) ∧ v = bI b) ∨ (¬ w = 0 ∧ ¬ rcP (syP P dy) (baP P (pn P 3)) (cN f) ∧ v = -5) ∨ (w = 1 ∧ rcP (syP P dy) (baP P (pn P 3)) (cN f) ∧ htIs (syP P dy) (baP P (pn P 3)) (cN f) v) ∨ (¬ w = 0 ∧ ¬ w = 1 ∧ rcP (syP P dy) (baP P (pn P 3)) (cN f) ∧ ∃ t, szIs (syP P dy) (baP P (pn P 3)) t ∧ v = nI (t (cN f)))))
def sp_many (P : Nat → Int32) (dy v : Int32) : Prop := (¬ inI dy 0 999 ∧ v = -2) ∨ (inI dy 0 999 ∧ ∃ b : Nat → Bool, (∀ f, f < 750 → (b f = true ↔ rcP (syP P dy) (baP P (pn P 3)) f)) ∧ v = nI (cnN b 750))
theorem m_follows {sg : sg_T} {d : Nat} (hd : 460 ≤ d) {R C n0 : Nat} (hW : wkA (sg 1) R C n0) (f dy w : Int32) : am_Met mi_X12_follows d 0 0 [.ref 0, .int f, .int dy, .int w] (hm sg) (fun r h' => ∃ v, sp_follows (sg 1) f dy w v ∧ mOut sg v (sg 1) r h') := by
  refine am_Met.of rfl (Nat.le_of_ble_eq_true rfl) ?_
  refine am_go ok_X12_follows [] 91 ?_
  refine ⟨d - 1, 0, 0, _, by omega, Nat.le_of_ble_eq_true rfl, Nat.le_of_ble_eq_true rfl, Nat.le_of_ble_eq_true rfl, m_in (d - 1) w 0 2, ?_⟩
  rintro _ _ ⟨rfl, rfl⟩
  refine ⟨Or.inl rfl, ?_⟩
  refine ⟨fun c6 => ?_, fun c6 => ?_⟩
  · refine ⟨d - 1, 0, 0, _, by omega, Nat.le_of_ble_eq_true rfl, Nat.le_of_ble_eq_true rfl, Nat.le_of_ble_eq_true rfl, m_isFact (by omega) f, ?_⟩
    rintro _ _ ⟨rfl, rfl⟩
    refine ⟨Or.inl rfl, ?_⟩
    refine ⟨fun c15 => ?_, fun c15 => ?_⟩
    · exact ⟨trivial, -2, Or.inr (Or.inl ⟨bI_t c6, fun z => bI_f c15 z.1, rfl⟩), mOut_s rfl⟩
    · refine ⟨d - 1, 0, 0, _, by omega, Nat.le_of_ble_eq_true rfl, Nat.le_of_ble_eq_true rfl, Nat.le_of_ble_eq_true rfl, m_isDay (by omega) dy, ?_⟩
      rintro _ _ ⟨rfl, rfl⟩
      refine ⟨Or.inl rfl, ?_⟩
      refine ⟨fun c22 => ?_, fun c22 => ?_⟩
      · have u1 : inI w 0 2 := bI_t c6
        have u2 : inI f 0 749 ∧ inI dy 0 999 := ⟨bI_t c15, bI_t c22⟩
        obtain ⟨i, ei, ci, hi⟩ := ix_c (m := 749) (by omega) u2.1
        have n3 := pn_of hW.2.2.2.2.2.2.1 (by have := hW.2.2.2.2.2.2.2.1; omega)
        refine ⟨_, rfl, d - 1, 0, 0, _, by omega, Nat.le_of_ble_eq_true rfl, Nat.le_of_ble_eq_true rfl, Nat.le_of_ble_eq_true rfl, m_works (by omega) (wkA_w hW), ?_⟩
        rintro _ _ ⟨rfl, sg1, rfl, fr, hb4, hH⟩
        refine ⟨Or.inl rfl, ?_⟩
        have r0 := rc_0 (hH i (by omega))
        have e1 : sg1 1 = sg 1 := fr 1 (by decide) (by decide) (by decide)
        refine ⟨fun c34 => ?_, fun c34 => ?_⟩
        · skip
          refine ⟨fun c47 => ?_, fun c47 => ?_⟩
          · exact ⟨trivial, -5, Or.inr (Or.inr ⟨u1, u2, Or.inr (Or.inl ⟨c47, by rw [ci, n3]; exact fun z => (by first | exact absurd c34 c47 | exact c43 (r0.mpr z)), rfl⟩)⟩), mOut_M fr rfl⟩
          · refine ⟨_, _, rfl, rfl, ?_⟩
            refine ⟨_, _, i, rfl, ei, by omega, Nat.le_of_ble_eq_true rfl, ?_⟩
            refine ⟨fun c56 => ?_, fun c56 => ?_⟩
            · exact ⟨trivial, 0, Or.inr (Or.inr ⟨u1, u2, Or.inl ⟨c47, false, ⟨fun z => (by cases z), fun z => absurd (r0.mpr (by rw [ci, n3] at z; exact z)) (i_ltn c56)⟩, rfl⟩⟩), mOut_M fr rfl⟩
            · exact ⟨trivial, 1, Or.inr (Or.inr ⟨u1, u2, Or.inl ⟨c47, true, ⟨fun _ => (by rw [ci, n3]; exact r0.mp (i_nlt c56)), fun _ => rfl⟩, rfl⟩⟩), mOut_M fr rfl⟩
        · refine ⟨_, _, rfl, rfl, ?_⟩
          refine ⟨_, _, i, rfl, ei, by omega, Nat.le_of_ble_eq_true rfl, ?_⟩
          refine ⟨fun c43 => ?_, fun c43 => ?_⟩
          · refine ⟨fun c72 => ?_, fun c72 => ?_⟩
            · refine ⟨_, rfl, d - 1, 0, 0, _, by omega, Nat.le_of_ble_eq_true rfl, Nat.le_of_ble_eq_true rfl, Nat.le_of_ble_eq_true rfl, m_sizes (sg0 := sg1) (by omega) (by rw [e1]; exact wkA_w hW) (by rw [e1]; exact hH) (by rw [e1]; exact hb4), ?_⟩
              rintro _ _ ⟨rfl, sg2, t, rfl, fr2, h4, hz⟩
              refine ⟨Or.inl rfl, ?_⟩
              rw [e1] at hz
              refine ⟨_, _, rfl, rfl, ?_⟩
              refine ⟨_, _, i, rfl, ei, by omega, Nat.le_of_ble_eq_true rfl, ?_⟩
              rw [h4 i (by omega)]
              refine ⟨trivial, ?_⟩
              have fr3 : frM sg sg2 := fun a h3 h4 h5 => (fr2 a h4 h5).trans (fr a h3 h4 h5)
              exact ⟨_, Or.inr (Or.inr ⟨u1, u2, Or.inr (Or.inr (Or.inr ⟨c34, c72, by rw [ci, n3]; exact r0.mp c43, t, by rw [n3]; exact hz, by rw [ci]⟩))⟩), mOut_M fr3 rfl⟩
            · have c72' := c72
              refine ⟨_, _, rfl, rfl, ?_⟩
              refine ⟨_, _, i, rfl, ei, by omega, Nat.le_of_ble_eq_true rfl, ?_⟩
              refine ⟨trivial, ?_⟩
              exact ⟨_, Or.inr (Or.inr ⟨u1, u2, Or.inr (Or.inr (Or.inl ⟨c72, by rw [ci, n3]; exact r0.mp c43, by rw [ci, n3]; exact hH i (by omega)⟩))⟩), mOut_M fr rfl⟩
          · skip
            refine ⟨fun c47 => ?_, fun c47 => ?_⟩
            · exact ⟨trivial, -5, Or.inr (Or.inr ⟨u1, u2, Or.inr (Or.inl ⟨c47, by rw [ci, n3]; exact fun z => (by first | exact absurd c34 c47 | exact c43 (r0.mpr z)), rfl⟩)⟩), mOut_M fr rfl⟩
            · refine ⟨_, _, rfl, rfl, ?_⟩
              refine ⟨_, _, i, rfl, ei, by omega, Nat.le_of_ble_eq_true rfl, ?_⟩
              refine ⟨fun c56 => ?_, fun c56 => ?_⟩
              · exact ⟨trivial, 0, Or.inr (Or.inr ⟨u1, u2, Or.inl ⟨c47, false, ⟨fun z => (by cases z), fun z => absurd (r0.mpr (by rw [ci, n3] at z; exact z)) (i_ltn c56)⟩, rfl⟩⟩), mOut_M fr rfl⟩
              · exact ⟨trivial, 1, Or.inr (Or.inr ⟨u1, u2, Or.inl ⟨c47, true, ⟨fun _ => (by rw [ci, n3]; exact r0.mp (i_nlt c56)), fun _ => rfl⟩, rfl⟩⟩), mOut_M fr rfl⟩
      · exact ⟨trivial, -2, Or.inr (Or.inl ⟨bI_t c6, fun z => bI_f c22 z.2, rfl⟩), mOut_s rfl⟩
  · exact ⟨trivial, -1, Or.inl ⟨bI_f c6, rfl⟩, mOut_s rfl⟩
theorem m_many_l {sg0 sg : sg_T} {d kc ks : Nat} {t1 : Int32} {P : Nat → Int32} (fr : frM sg0 sg) {b : Nat → Bool} (hb : ∀ f, f < 750 → (b f = true ↔ 0 ≤ sg 3 f)) : ∀ (u k : Nat) (w z : Int32), z = nI k → w = nI (cnN b k) → k ≤ 750 → 750 < k + u → am_W mi_X12_many d (mOut sg0 (nI (cnN b 750)) (sg0 1)) kc ks 19 [some (.ref 0), some (.int t1), some (.int w), some (.int z)] [] (hm sg) := by
  intro u
  induction u with
  | zero => intro k w z hz hw h1 h2; exact absurd h2 (by omega)
  | succ u ih =>
    intro k w z hz hw h1 h2
    refine am_go ok_X12_many [19] 75 ?_
    refine ⟨fun c23 => ?_, fun c23 => ?_⟩
    · rw [hz] at c23
      have k1 : k = 750 := by have := (nI_leI (a := 750) (by omega) (by omega)).mp c23; omega
      subst k1
      refine ⟨trivial, ?_⟩
      exact mOut_M fr hw
    · have k1 : k < 750 := by
        rcases Nat.lt_or_ge k 750 with q1 | q1
        · exact q1
        · exact absurd (by rw [hz]; exact (nI_leI (a := 750) (by omega) (by omega)).mpr q1) c23
      refine ⟨_, _, rfl, rfl, ?_⟩
      refine ⟨_, _, k, rfl, hz, by omega, Nat.le_of_ble_eq_true rfl, ?_⟩
      refine ⟨fun c33 => ?_, fun c33 => ?_⟩
      · have e : b k = false := by cases h : b k; rfl; exact absurd ((hb k k1).mp h) (i_ltn c33)
        refine ih (k + 1) _ _ (by rw [hz]; exact nI_1 k) ?_ (by omega) (by omega)
        rw [hw, cnN, e]
        first | exact nI_add _ 1 | exact nI_add _ 0
      · have e : b k = true := (hb k k1).mpr (i_nlt c33)
        refine ih (k + 1) _ _ (by rw [hz]; exact nI_1 k) ?_ (by omega) (by omega)
        rw [hw, cnN, e]
        first | exact nI_add _ 1 | exact nI_add _ 0
theorem m_many {sg : sg_T} {d : Nat} (hd : 460 ≤ d) {R C n0 : Nat} (hW : wkA (sg 1) R C n0) (dy : Int32) : am_Met mi_X12_many d 0 0 [.ref 0, .int dy] (hm sg) (fun r h' => ∃ v, sp_many (sg 1) dy v ∧ mOut sg v (sg 1) r h') := by
  refine am_Met.of rfl (Nat.le_of_ble_eq_true rfl) ?_
  refine am_go ok_X12_many [19] 70 ?_
  refine ⟨d - 1, 0, 0, _, by omega, Nat.le_of_ble_eq_true rfl, Nat.le_of_ble_eq_true rfl, Nat.le_of_ble_eq_true rfl, m_isDay (by omega) dy, ?_⟩
  rintro _ _ ⟨rfl, rfl⟩
  refine ⟨Or.inl rfl, ?_⟩
  refine ⟨fun c4 => ?_, fun c4 => ?_⟩
  · refine ⟨_, rfl, d - 1, 0, 0, _, by omega, Nat.le_of_ble_eq_true rfl, Nat.le_of_ble_eq_true rfl, Nat.le_of_ble_eq_true rfl, m_works (by omega) (wkA_w hW), ?_⟩
    rintro _ _ ⟨rfl, sg1, rfl, fr, hb4, hH⟩
    refine ⟨Or.inl rfl, ?_⟩
    have n3 := pn_of hW.2.2.2.2.2.2.1 (by have := hW.2.2.2.2.2.2.2.1; omega)
    refine am_W.mono (fun r h' z => ⟨_, Or.inr ⟨bI_t c4, fun f => decide (0 ≤ sg1 3 f), fun f hf => ?_, rfl⟩, z⟩) (m_many_l (P := sg 1) fr (b := fun f => decide (0 ≤ sg1 3 f)) (fun f hf => decide_eq_true_iff) 751 0 0 0 rfl rfl (by omega) (by omega))
    rw [decide_eq_true_iff, n3]
    exact rc_0 (hH f hf)
  · exact ⟨trivial, -2, Or.inl ⟨bI_f c4, rfl⟩, mOut_s rfl⟩
