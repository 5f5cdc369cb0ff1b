/-! letters, FACTS, TESTS: as numbers -/
abbrev pn (P : Nat → Int32) (j : Nat) : Nat := (P j).toNatClampNeg
theorem pn_of {P : Nat → Int32} {j k : Nat} (h : P j = nI k) (hk : k < 2 ^ 31) : pn P j = k := by unfold pn; rw [h]; exact nI_clamp hk
def cvN (L : Nat → Nat) (c : Nat) : Nat := if 10 ≤ c then L (c - 10) else c
def faN (P : Nat → Int32) (L : Nat → Nat) (x : Nat) : Nat := 125 * pn P x + 25 * cvN L (pn P (x + 1)) + 5 * cvN L (pn P (x + 2)) + cvN L (pn P (x + 3))
def okA (v : Int32) : Prop := ∃ c : Nat, v = nI c ∧ (c < 5 ∨ 10 ≤ c ∧ c < 14)
def okT (P : Nat → Int32) (x : Nat) : Prop := (∃ s : Nat, s < 6 ∧ P x = nI s) ∧ okA (P (x + 1)) ∧ okA (P (x + 2)) ∧ okA (P (x + 3))
def okL (L : Nat → Nat) : Prop := ∀ j, j < 4 → L j < 5
def Lm (n : Nat) (j : Nat) : Nat := match j with
  | 0 => n / 125
  | 1 => n / 25 % 5
  | 2 => n / 5 % 5
  | _ => n % 5
theorem okL_Lm {n : Nat} (h : n < 625) : okL (Lm n) := by
  intro j hj
  rcases (show j = 0 ∨ j = 1 ∨ j = 2 ∨ j = 3 by omega) with rfl | rfl | rfl | rfl <;> simp only [Lm] <;> omega
theorem cvN_lt {L : Nat → Nat} {c : Nat} (hL : okL L) (hc : c < 5 ∨ 10 ≤ c ∧ c < 14) : cvN L c < 5 := by
  unfold cvN
  split
  · exact hL _ (by omega)
  · omega
theorem faN_lt {P : Nat → Int32} {L : Nat → Nat} {x : Nat} (hL : okL L) (hT : okT P x) : faN P L x < 750 := by
  obtain ⟨⟨s, hs, e0⟩, ⟨c1, e1, h1⟩, ⟨c2, e2, h2⟩, ⟨c3, e3, h3⟩⟩ := hT
  have a1 := cvN_lt hL h1
  have a2 := cvN_lt hL h2
  have a3 := cvN_lt hL h3
  unfold faN
  rw [pn_of e0 (by omega), pn_of e1 (by omega), pn_of e2 (by omega), pn_of e3 (by omega)]
  omega
/-- the letters stand in their row -/
def LMs (sg : sg_T) (L : Nat → Nat) : Prop := ∀ j, j < 4 → sg 5 j = nI (L j)
def sgL (sg : sg_T) (n : Nat) : sg_T := sg_u (sg_u (sg_u (sg_u sg 5 0 (nI (n / 125))) 5 1 (nI (n / 25 % 5))) 5 2 (nI (n / 5 % 5))) 5 3 (nI (n % 5))
theorem sgL_a {sg : sg_T} {n a : Nat} (h : a ≠ 5) : sgL sg n a = sg a := by simp [sgL, sg_u, h]
theorem sgL_L (sg : sg_T) (n : Nat) : LMs (sgL sg n) (Lm n) := by
  intro j hj
  rcases (show j = 0 ∨ j = 1 ∨ j = 2 ∨ j = 3 by omega) with rfl | rfl | rfl | rfl <;> simp [sgL, sg_u, upd, Lm]
theorem rm5 {a : Nat} (h : a < 2 ^ 31) : nI a - nI a / 5 * 5 = nI (a % 5) := pk_rem (d := 5) h (by omega) (by omega)
theorem m_sets {sg : sg_T} (d : Nat) {v : Int32} {n : Nat} (hv : v = nI n) (hn : n < 2 ^ 31) : am_Met mi_X12_sets d 0 0 [.ref 0, .int v] (hm sg) (fun r h' => r = none ∧ h' = hm (sgL sg n)) := by
  refine am_Met.of rfl (Nat.le_of_ble_eq_true rfl) ?_
  refine am_go ok_X12_sets [] 92 ?_
  refine ⟨_, _, rfl, rfl, ?_⟩
  refine ⟨by decide, ?_⟩
  refine ⟨_, _, 0, rfl, rfl, Nat.le_of_ble_eq_true rfl, Nat.le_of_ble_eq_true rfl, ?_⟩
  rw [hm_a5]
  refine ⟨_, _, rfl, rfl, ?_⟩
  refine ⟨by decide, ?_⟩
  refine ⟨by decide, ?_⟩
  refine ⟨_, _, 1, rfl, rfl, Nat.le_of_ble_eq_true rfl, Nat.le_of_ble_eq_true rfl, ?_⟩
  rw [hm_a5]
  refine ⟨_, _, rfl, rfl, ?_⟩
  refine ⟨by decide, ?_⟩
  refine ⟨by decide, ?_⟩
  refine ⟨_, _, 2, rfl, rfl, Nat.le_of_ble_eq_true rfl, Nat.le_of_ble_eq_true rfl, ?_⟩
  rw [hm_a5]
  refine ⟨_, _, rfl, rfl, ?_⟩
  refine ⟨by decide, ?_⟩
  refine ⟨_, _, 3, rfl, rfl, Nat.le_of_ble_eq_true rfl, Nat.le_of_ble_eq_true rfl, ?_⟩
  rw [hm_a5]
  refine ⟨rfl, ?_⟩
  have e1 : nI n / 125 = nI (n / 125) := pk_div (d := 125) hn (by omega) (by omega)
  have e2 : nI n / 25 = nI (n / 25) := pk_div (d := 25) hn (by omega) (by omega)
  have e3 : nI n / 5 = nI (n / 5) := pk_div (d := 5) hn (by omega) (by omega)
  have e4 := rm5 (a := n / 25) (by omega)
  have e5 := rm5 (a := n / 5) (by omega)
  have e6 := rm5 (a := n) hn
  rw [hv, e1, e2, e4, e6, e3, e5]
  rfl
theorem m_factAt {sg : sg_T} {d : Nat} (hd : 1 ≤ d) {v : Int32} {x : Nat} {L : Nat → Nat} (hv : v = nI x) (hx : x + 3 < 3228) (hT : okT (sg 1) x) (hL : okL L) (hM : LMs sg L) : am_Met mi_X12_factAt d 0 0 [.ref 0, .int v] (hm sg) (fun r h' => r = some (.int (nI (faN (sg 1) L x))) ∧ h' = hm sg) := by
  obtain ⟨⟨s, hs, e0⟩, ⟨c1, e1, h1⟩, ⟨c2, e2, h2⟩, ⟨c3, e3, h3⟩⟩ := id hT
  have vv : ∀ c : Nat, (c < 5 ∨ 10 ≤ c ∧ c < 14) → (if 10 ≤ c then sg 5 (c - 10) else nI c) = nI (cvN L c) := by
    intro c hc
    unfold cvN
    split
    · exact hM _ (by omega)
    · rfl
  have v1 := vv c1 h1
  have v2 := vv c2 h2
  have v3 := vv c3 h3
  refine am_Met.of rfl (Nat.le_of_ble_eq_true rfl) ?_
  refine am_go ok_X12_factAt [] 97 ?_
  refine ⟨_, _, rfl, rfl, ?_⟩
  refine ⟨_, _, x, rfl, hv, (by omega), Nat.le_of_ble_eq_true rfl, ?_⟩
  refine ⟨_, _, rfl, rfl, ?_⟩
  refine ⟨_, _, (x + 1), rfl, (by rw [hv]; exact nI_add x 1), by omega, Nat.le_of_ble_eq_true rfl, ?_⟩
  refine ⟨_, rfl, d - 1, 0, 0, _, by omega, Nat.le_of_ble_eq_true rfl, Nat.le_of_ble_eq_true rfl, Nat.le_of_ble_eq_true rfl, m_value (d - 1) (c := c1) e1 (by omega), ?_⟩
  rintro _ _ ⟨rfl, rfl⟩
  refine ⟨Or.inl rfl, ?_⟩
  rw [v1]
  refine ⟨_, _, rfl, rfl, ?_⟩
  refine ⟨_, _, (x + 2), rfl, (by rw [hv]; exact nI_add x 2), by omega, Nat.le_of_ble_eq_true rfl, ?_⟩
  refine ⟨_, rfl, d - 1, 0, 0, _, by omega, Nat.le_of_ble_eq_true rfl, Nat.le_of_ble_eq_true rfl, Nat.le_of_ble_eq_true rfl, m_value (d - 1) (c := c2) e2 (by omega), ?_⟩
  rintro _ _ ⟨rfl, rfl⟩
  refine ⟨Or.inl rfl, ?_⟩
  rw [v2]
  refine ⟨_, _, rfl, rfl, ?_⟩
  refine ⟨_, _, (x + 3), rfl, (by rw [hv]; exact nI_add x 3), by omega, Nat.le_of_ble_eq_true rfl, ?_⟩
  refine ⟨_, rfl, d - 1, 0, 0, _, by omega, Nat.le_of_ble_eq_true rfl, Nat.le_of_ble_eq_true rfl, Nat.le_of_ble_eq_true rfl, m_value (d - 1) (c := c3) e3 (by omega), ?_⟩
  rintro _ _ ⟨rfl, rfl⟩
  refine ⟨Or.inl rfl, ?_⟩
  rw [v3]
  refine ⟨trivial, ?_⟩
  refine ⟨?_, rfl⟩
  rw [e0, faN, pn_of e0 (by omega), pn_of e1 (by omega), pn_of e2 (by omega), pn_of e3 (by omega)]
  show some (Value.int (nI 125 * nI s + nI 25 * nI _ + nI 5 * nI _ + nI _)) = _
  rw [pk_mul, pk_mul, pk_mul, nI_add, nI_add, nI_add]
/-- a TEST holds -/
def tsB (P : Nat → Int32) (L : Nat → Nat) (x k : Nat) : Bool := if P (x + 15 + 3 * k) = 60 then decide (cvN L (pn P (x + 14 + 3 * k)) < cvN L (pn P (x + 16 + 3 * k))) else if P (x + 15 + 3 * k) = 61 then decide (cvN L (pn P (x + 14 + 3 * k)) = cvN L (pn P (x + 16 + 3 * k))) else decide (¬ cvN L (pn P (x + 14 + 3 * k)) = cvN L (pn P (x + 16 + 3 * k)))
def thN (P : Nat → Int32) (L : Nat → Nat) (x : Nat) : Nat → Bool
  | 0 => true
  | k + 1 => thN P L x k && tsB P L x k
theorem thN_f {P : Nat → Int32} {L : Nat → Nat} {x k : Nat} (h : tsB P L x k = false) : ∀ n, k < n → thN P L x n = false
  | 0, h0 => absurd h0 (by omega)
  | n + 1, h1 => by
    rw [thN]
    by_cases e : k = n
    · subst e; rw [h, Bool.and_false]
    · rw [thN_f h n (by omega), Bool.false_and]
theorem m_testsHold_l {sg : sg_T} {d kc ks : Nat} (hd : 1 ≤ d) {v : Int32} {x n : Nat} {L : Nat → Nat} (hv : v = nI x) (hx : x + 30 ≤ 3228) (hn : sg 1 (x + 1) = nI n) (hn4 : n ≤ 4) (hA : ∀ k, k < n → okA (sg 1 (x + 14 + 3 * k)) ∧ okA (sg 1 (x + 16 + 3 * k))) (hL : okL L) (hM : LMs sg L) : ∀ (u k : Nat) (z : Int32) (t1 t2 t3 : Option Value), z = nI k → thN (sg 1) L x k = true → k ≤ n → n < k + u → am_W mi_X12_testsHold d (fun r h' => r = some (.int (bI (thN (sg 1) L x n))) ∧ h' = hm sg) kc ks 2 [some (.ref 0), some (.int v), some (.int z), t1, t2, t3] [] (hm sg) := by
  intro u
  induction u with
  | zero => intro k z t1 t2 t3 hz ht h1 h2; exact absurd h2 (by omega)
  | succ u ih =>
    intro k z t1 t2 t3 hz ht h1 h2
    refine am_go ok_X12_testsHold [2] 116 ?_
    refine ⟨_, _, rfl, rfl, ?_⟩
    refine ⟨_, _, (x + 1), rfl, (by rw [hv]; exact nI_add x 1), by omega, Nat.le_of_ble_eq_true rfl, ?_⟩
    refine ⟨fun c11 => ?_, fun c11 => ?_⟩
    · rw [hz, hn] at c11
      have k1 : k = n := by have := (nI_leI (by omega) (by omega)).mp c11; omega
      subst k1
      refine ⟨rfl, ?_⟩
      rw [ht]
      exact ⟨rfl, rfl⟩
    · have k1 : k < n := by
        rcases Nat.lt_or_ge k n with q | q
        · exact q
        · exact absurd (by rw [hz, hn]; exact (nI_leI (by omega) (by omega)).mpr q) c11
      have hc1 := hA k k1
      obtain ⟨⟨a, e1, h3⟩, ⟨b, e2, h4⟩⟩ := hc1
      have vv : ∀ c : Nat, (c < 5 ∨ 10 ≤ c ∧ c < 14) → (if 10 ≤ c then sg 5 (c - 10) else nI c) = nI (cvN L c) := by
        intro c hc
        unfold cvN
        split
        · exact hM _ (by omega)
        · rfl
      have v1 := vv a h3
      have v2 := vv b h4
      have l1 := cvN_lt hL h3
      have l2 := cvN_lt hL h4
      have p1 := pn_of e1 (by omega)
      have p2 := pn_of e2 (by omega)
      refine ⟨_, _, rfl, rfl, ?_⟩
      refine ⟨_, _, (x + 14 + 3 * k), rfl, (by rw [hv, hz]; show nI x + nI 14 + nI 3 * nI k = _; rw [nI_add, pk_mul, nI_add]), by omega, Nat.le_of_ble_eq_true rfl, ?_⟩
      refine ⟨_, rfl, d - 1, 0, 0, _, by omega, Nat.le_of_ble_eq_true rfl, Nat.le_of_ble_eq_true rfl, Nat.le_of_ble_eq_true rfl, m_value (d - 1) (c := a) e1 (by omega), ?_⟩
      rintro _ _ ⟨rfl, rfl⟩
      refine ⟨Or.inl rfl, ?_⟩
      rw [v1]
      refine ⟨_, _, rfl, rfl, ?_⟩
      refine ⟨_, _, (x + 16 + 3 * k), rfl, (by rw [hv, hz]; show nI x + nI 16 + nI 3 * nI k = _; rw [nI_add, pk_mul, nI_add]), by omega, Nat.le_of_ble_eq_true rfl, ?_⟩
      refine ⟨_, rfl, d - 1, 0, 0, _, by omega, Nat.le_of_ble_eq_true rfl, Nat.le_of_ble_eq_true rfl, Nat.le_of_ble_eq_true rfl, m_value (d - 1) (c := b) e2 (by omega), ?_⟩
      rintro _ _ ⟨rfl, rfl⟩
      refine ⟨Or.inl rfl, ?_⟩
      rw [v2]
      refine ⟨_, _, rfl, rfl, ?_⟩
      refine ⟨_, _, (x + 15 + 3 * k), rfl, (by rw [hv, hz]; show nI x + nI 15 + nI 3 * nI k = _; rw [nI_add, pk_mul, nI_add]), by omega, Nat.le_of_ble_eq_true rfl, ?_⟩
      refine ⟨fun c70 => ?_, fun c70 => ?_⟩
      · refine ⟨fun c86 => ?_, fun c86 => ?_⟩
        · refine ⟨fun c101 => ?_, fun c101 => ?_⟩
          · have q1 : tsB (sg 1) L x k = true := by unfold tsB; rw [if_neg c70, if_neg c86, p1, p2]; exact decide_eq_true (fun q => c101 ((nI_eq (by omega) (by omega)).mpr q))
            exact ih (k + 1) _ (some (.int _)) (some (.int _)) (some (.int _)) (by rw [hz]; exact nI_1 k) (by rw [thN, ht, q1]; rfl) (by omega) (by omega)
          · have q1 : tsB (sg 1) L x k = false := by unfold tsB; rw [if_neg c70, if_neg c86, p1, p2]; exact decide_eq_false (fun q => q ((nI_eq (by omega) (by omega)).mp c101))
            refine ⟨rfl, ?_⟩
            rw [thN_f (k := k) q1 n k1]
            exact ⟨rfl, rfl⟩
        · refine ⟨fun c92 => ?_, fun c92 => ?_⟩
          · have q1 : tsB (sg 1) L x k = true := by unfold tsB; rw [if_neg c70, if_pos c86, p1, p2]; exact decide_eq_true ((nI_eq (by omega) (by omega)).mp c92)
            exact ih (k + 1) _ (some (.int _)) (some (.int _)) (some (.int _)) (by rw [hz]; exact nI_1 k) (by rw [thN, ht, q1]; rfl) (by omega) (by omega)
          · have q1 : tsB (sg 1) L x k = false := by unfold tsB; rw [if_neg c70, if_pos c86, p1, p2]; exact decide_eq_false (fun q => c92 ((nI_eq (by omega) (by omega)).mpr q))
            refine ⟨rfl, ?_⟩
            rw [thN_f (k := k) q1 n k1]
            exact ⟨rfl, rfl⟩
      · refine ⟨fun c76 => ?_, fun c76 => ?_⟩
        · have q1 : tsB (sg 1) L x k = true := by unfold tsB; rw [if_pos c70, p1, p2]; exact decide_eq_true ((nI_ltI (by omega) (by omega)).mp c76)
          exact ih (k + 1) _ (some (.int _)) (some (.int _)) (some (.int _)) (by rw [hz]; exact nI_1 k) (by rw [thN, ht, q1]; rfl) (by omega) (by omega)
        · have q1 : tsB (sg 1) L x k = false := by unfold tsB; rw [if_pos c70, p1, p2]; exact decide_eq_false (fun q => c76 ((nI_ltI (by omega) (by omega)).mpr q))
          refine ⟨rfl, ?_⟩
          rw [thN_f (k := k) q1 n k1]
          exact ⟨rfl, rfl⟩
theorem m_testsHold {sg : sg_T} {d : Nat} (hd : 1 ≤ d) {v : Int32} {x n : Nat} {L : Nat → Nat} (hv : v = nI x) (hx : x + 30 ≤ 3228) (hn : sg 1 (x + 1) = nI n) (hn4 : n ≤ 4) (hA : ∀ k, k < n → okA (sg 1 (x + 14 + 3 * k)) ∧ okA (sg 1 (x + 16 + 3 * k))) (hL : okL L) (hM : LMs sg L) : am_Met mi_X12_testsHold d 0 0 [.ref 0, .int v] (hm sg) (fun r h' => r = some (.int (bI (thN (sg 1) L x n))) ∧ h' = hm sg) := by
  refine am_Met.of rfl (Nat.le_of_ble_eq_true rfl) ?_
  refine am_go ok_X12_testsHold [2] 62 ?_
  exact m_testsHold_l hd hv hx hn hn4 hA hL hM (n + 1) 0 0 none none none rfl rfl (by omega) (by omega)
/-- a bit -/
def btI (s : Int32) (k : Nat) : Bool := decide (¬ (s >>> (nI k &&& 31)) &&& 1 = 0)
def plN (s : Int32) (L : Nat → Nat) : Nat → Bool
  | 0 => true
  | k + 1 => plN s L k && (btI s k || decide (L k = 0))
theorem plN_f {s : Int32} {L : Nat → Nat} {k : Nat} (h : (btI s k || decide (L k = 0)) = false) : ∀ n, k < n → plN s L n = false
  | 0, h0 => absurd h0 (by omega)
  | n + 1, h1 => by
    rw [plN]
    by_cases e : k = n
    · subst e; rw [h, Bool.and_false]
    · rw [plN_f h n (by omega), Bool.false_and]
theorem m_isPlain_l {sg : sg_T} {d kc ks : Nat} {s : Int32} {L : Nat → Nat} (hL : okL L) (hM : LMs sg L) : ∀ (u k : Nat) (z : Int32), z = nI k → plN s L k = true → k ≤ 4 → 4 < k + u → am_W mi_X12_isPlain d (fun r h' => r = some (.int (bI (plN s L 4))) ∧ h' = hm sg) kc ks 2 [some (.ref 0), some (.int s), some (.int z)] [] (hm sg) := by
  intro u
  induction u with
  | zero => intro k z hz ht h1 h2; exact absurd h2 (by omega)
  | succ u ih =>
    intro k z hz ht h1 h2
    refine am_go ok_X12_isPlain [2] 75 ?_
    refine ⟨fun c4 => ?_, fun c4 => ?_⟩
    · rw [hz] at c4
      have k1 : k = 4 := by have := (nI_leI (a := 4) (by omega) (by omega)).mp c4; omega
      subst k1
      refine ⟨rfl, ?_⟩
      rw [ht]
      exact ⟨rfl, rfl⟩
    · have k1 : k < 4 := by
        rcases Nat.lt_or_ge k 4 with q | q
        · exact q
        · exact absurd (by rw [hz]; exact (nI_leI (a := 4) (by omega) (by omega)).mpr q) c4
      have l1 := hL k k1
      refine ⟨fun c12 => ?_, fun c12 => ?_⟩
      · have q1 : (btI s k || decide (L k = 0)) = true := by rw [hz] at c12; rw [btI, decide_eq_true c12]; rfl
        exact ih (k + 1) _ (by rw [hz]; exact nI_1 k) (by rw [plN, ht, q1]; rfl) (by omega) (by omega)
      · refine ⟨_, _, rfl, rfl, ?_⟩
        refine ⟨_, _, k, rfl, hz, by omega, Nat.le_of_ble_eq_true rfl, ?_⟩
        rw [hM k k1]
        refine ⟨fun c21 => ?_, fun c21 => ?_⟩
        · have q1 : (btI s k || decide (L k = 0)) = true := by rw [decide_eq_true ((nI_eq (b := 0) (by omega) (by omega)).mp c21), Bool.or_true]
          exact ih (k + 1) _ (by rw [hz]; exact nI_1 k) (by rw [plN, ht, q1]; rfl) (by omega) (by omega)
        · have q1 : (btI s k || decide (L k = 0)) = false := by rw [hz] at c12; rw [btI, decide_eq_false (fun q => q c12), decide_eq_false (fun q => c21 ((nI_eq (b := 0) (by omega) (by omega)).mpr q))]; rfl
          refine ⟨rfl, ?_⟩
          rw [plN_f (k := k) q1 4 k1]
          exact ⟨rfl, rfl⟩
theorem m_isPlain {sg : sg_T} (d : Nat) {s : Int32} {L : Nat → Nat} (hL : okL L) (hM : LMs sg L) : am_Met mi_X12_isPlain d 0 0 [.ref 0, .int s] (hm sg) (fun r h' => r = some (.int (bI (plN s L 4))) ∧ h' = hm sg) := by
  refine am_Met.of rfl (Nat.le_of_ble_eq_true rfl) ?_
  refine am_go ok_X12_isPlain [2] 62 ?_
  exact m_isPlain_l hL hM 5 0 0 rfl rfl (by omega) (by omega)
