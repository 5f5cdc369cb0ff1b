/-! WHAT A STEP LACKS: by recursion on its number and its PROOF's -/
def fsN (b : Nat → Bool) : Nat → Nat
  | 0 => 0
  | k + 1 => if fsN b k = 0 then (if b k = true then 0 else 10 + k) else fsN b k
theorem fsN_le (b : Nat → Bool) : ∀ n, fsN b n ≤ 10 + n
  | 0 => by rw [fsN]; omega
  | n + 1 => by rw [fsN]; have := fsN_le b n; split <;> (try split) <;> omega
theorem fsN_0 {b : Nat → Bool} : ∀ {n : Nat}, (∀ k, k < n → b k = true) → fsN b n = 0
  | 0, _ => rfl
  | n + 1, h => by rw [fsN, if_pos (fsN_0 (fun k hk => h k (Nat.lt_succ_of_lt hk))), if_pos (h n (Nat.lt_succ_self n))]
theorem fsN_k {b : Nat → Bool} {k : Nat} (h1 : ∀ j, j < k → b j = true) (h2 : b k = false) : ∀ n, k < n → fsN b n = 10 + k
  | 0, h => absurd h (by omega)
  | n + 1, h => by
    rw [fsN]
    rcases (show k < n ∨ k = n by omega) with q | rfl
    · rw [fsN_k h1 h2 n q, if_neg (by omega)]
    · rw [if_pos (fsN_0 h1), h2]; rfl
def alN (b : Nat → Bool) : Nat → Bool
  | 0 => true
  | k + 1 => alN b k && b k
theorem alN_f {b : Nat → Bool} {k : Nat} (h : b k = false) : ∀ n, k < n → alN b n = false
  | 0, h0 => absurd h0 (by omega)
  | n + 1, h1 => by
    rw [alN]
    rcases (show k < n ∨ k = n by omega) with q | rfl
    · rw [alN_f h n q, Bool.false_and]
    · rw [h, Bool.and_false]
def tkB (P : Nat → Int32) (lk : Nat → Nat → Nat) (q : Nat) : Bool := decide (¬ pn P (126 + q) = 0) && (decide (¬ (pn P (114 + q) = 1 ∧ 0 < hoS P q (pn P (126 + q)))) && alN (fun s => decide (lk q s = 0)) (pn P (126 + q)))
def fmB (P : Nat → Int32) (tr : Nat → Bool) (dy : Int32) (lk : Nat → Nat → Nat) (q s k : Nat) : Bool :=
  if P (rwX q s + 3 + k) = 300 then decide (pn P (114 + q) = 1 ∨ pn P (114 + q) = 4)
  else if 0 ≤ P (rwX q s + 3 + k) ∧ P (rwX q s + 3 + k) ≤ P 3 - 1 then tr (pn P (rwX q s + 3 + k)) && decide (P (54 + pn P (rwX q s + 3 + k)) = nI (trN P dy q s k))
  else if 100 ≤ P (rwX q s + 3 + k) ∧ P (rwX q s + 3 + k) ≤ 100 + nI s - 1 then decide (syN P dy q (pn P (rwX q s + 3 + k) - 100) = trN P dy q s k) && decide (lk q (pn P (rwX q s + 3 + k) - 100) = 0)
  else if (200 ≤ P (rwX q s + 3 + k) ∧ P (rwX q s + 3 + k) ≤ 200 + nI q - 1) ∧ (pn P (114 + q) = 2 ∨ pn P (114 + q) = 3) then tkB P lk (pn P (rwX q s + 3 + k) - 200) && decide (syN P dy (pn P (rwX q s + 3 + k) - 200) (pn P (126 + (pn P (rwX q s + 3 + k) - 200)) - 1) = trN P dy q s k)
  else false
def lkN (P : Nat → Int32) (tr : Nat → Bool) (dy : Int32) : Nat → Nat → Nat → Nat
  | 0, _, _ => 0
  | F + 1, q, s => if ¬ P (txX P (pn P (rwX q s)) dy) = P (rwX q s + 2) then 1 else if thN P (Lm (pn P (rwX q s + 1))) (txX P (pn P (rwX q s)) dy) (pn P (txX P (pn P (rwX q s)) dy + 1)) = false then 2 else fsN (fun k => fmB P tr dy (lkN P tr dy F) q s k) (pn P (rwX q s + 2))
theorem lkN_le {P : Nat → Int32} {tr : Nat → Bool} {dy : Int32} {F q s : Nat} (h : pn P (rwX q s + 2) ≤ 3) : lkN P tr dy F q s ≤ 13 := by
  cases F with
  | zero => rw [lkN]; omega
  | succ F =>
    rw [lkN]
    split
    · omega
    · split
      · omega
      · have := fsN_le (fun k => fmB P tr dy (lkN P tr dy F) q s k) (pn P (rwX q s + 2)); omega
abbrev trP (P : Nat → Int32) : Nat → Bool := fun k => decide (P (94 + k) = 0)
/-- the contract of 'lacksOn' with so much to go -/
def LKs (P : Nat → Int32) (dy : Int32) (Q m : Nat) : Prop := ∀ (q s d : Nat) (vq vs : Int32) (sg : sg_T), sg 1 = P → vq = nI q → vs = nI s → q < Q → s < pn P (126 + q) → 12 * q + s < m → 3 * m + 5 ≤ d → am_Met mi_X12_lacksOn d 0 0 [.ref 0, .int vq, .int vs, .int dy] (hm sg) (fun r h' => ∃ sg', r = some (.int (nI (lkN P (trP P) dy m q s))) ∧ h' = hm sg' ∧ frL sg sg')
theorem pf_q {P : Nat → Int32} {R Q q : Nat} (h : pfA P R Q) (hq : q < Q) : q < 12 ∧ (∃ k, k < 5 ∧ P (114 + q) = nI k ∧ pn P (114 + q) = k) ∧ ∃ st, st ≤ 12 ∧ P (126 + q) = nI st ∧ pn P (126 + q) = st ∧ ∀ j, j < st → okR P R (rwX q j) := by
  obtain ⟨h1, h2, h3⟩ := h
  obtain ⟨⟨k, a1, a2⟩, st, b1, b2, b3⟩ := h3 q hq
  exact ⟨by omega, ⟨k, a1, a2, pn_of a2 (by omega)⟩, st, b1, b2, pn_of b2 (by omega), b3⟩
theorem m_isTaken_l {P : Nat → Int32} {dy : Int32} {R C n0 Q m : Nat} (hW : wkA P R C n0) (hA : pfA P R Q) (hL : LKs P dy Q m) {sg0 : sg_T} {d kc ks q st : Nat} {vq : Int32} (hd : 3 * m + 6 ≤ d) (hq : vq = nI q) (hqQ : q < Q) (es : P (126 + q) = nI st) (s12 : st ≤ 12) (hm12 : 12 * q + 12 ≤ m) : ∀ (u s : Nat) (z : Int32) (sg : sg_T), z = nI s → sg 1 = P → frL sg0 sg → alN (fun s => decide (lkN P (trP P) dy m q s = 0)) s = true → s ≤ st → st < s + u → am_W mi_X12_isTaken d (fun r h' => ∃ sg', r = some (.int (bI (alN (fun s => decide (lkN P (trP P) dy m q s = 0)) st))) ∧ h' = hm sg' ∧ frL sg0 sg') kc ks 38 [some (.ref 0), some (.int vq), some (.int dy), some (.int z)] [] (hm sg) := by
  intro u
  induction u with
  | zero => intro s z sg hz e1 hF ha h1 h2; exact absurd h2 (by omega)
  | succ u ih =>
    intro s z sg hz e1 hF ha h1 h2
    refine am_go ok_X12_isTaken [38] 75 ?_
    refine ⟨_, _, rfl, rfl, ?_⟩
    refine ⟨_, _, (126 + q), rfl, (by rw [hq]; exact nI_add 126 q), (by obtain ⟨q12, -⟩ := pf_q hA hqQ; omega), Nat.le_of_ble_eq_true rfl, ?_⟩
    rw [e1, es]
    refine ⟨fun c48 => ?_, fun c48 => ?_⟩
    · rw [hz] at c48
      have k1 : s = st := by have := (nI_leI (by omega) (by omega)).mp c48; omega
      subst k1
      refine ⟨rfl, ?_⟩
      exact ⟨sg, by rw [ha]; rfl, rfl, hF⟩
    · have k1 : s < st := by
        rcases Nat.lt_or_ge s st with q1 | q1
        · exact q1
        · exact absurd (by rw [hz]; exact (nI_leI (by omega) (by omega)).mpr q1) c48
      have ps := pn_of es (show st < 2 ^ 31 by omega)
      have t3 : pn P (rwX q s + 2) ≤ 3 := by
        obtain ⟨-, -, st', -, b1, b2, b3⟩ := pf_q hA hqQ
        obtain ⟨-, -, t, -, t3, et⟩ := b3 s (by omega)
        rw [pn_of et (by omega)]; exact t3
      refine ⟨_, rfl, d - 1, 0, 0, _, by omega, Nat.le_of_ble_eq_true rfl, Nat.le_of_ble_eq_true rfl, Nat.le_of_ble_eq_true rfl, hL q s (d - 1) vq z sg e1 hq hz hqQ (by rw [ps]; exact k1) (by omega) (by omega), ?_⟩
      rintro _ _ ⟨sg', rfl, rfl, hF'⟩
      refine ⟨Or.inl rfl, ?_⟩
      have l13 := lkN_le (tr := trP P) (dy := dy) (F := m) t3
      refine ⟨fun c58 => ?_, fun c58 => ?_⟩
      · exact ih (s + 1) _ sg' (by rw [hz]; exact nI_1 s) ((hF' 1 (by decide)).trans e1) (fun a ha => (hF' a ha).trans (hF a ha)) (by rw [alN, ha, decide_eq_true ((nI_eq (b := 0) (by omega) (by omega)).mp c58)]; rfl) (by omega) (by omega)
      · refine ⟨rfl, ?_⟩
        exact ⟨sg', by rw [alN_f (k := s) (decide_eq_false (fun e => c58 (by rw [e]; rfl))) st k1]; rfl, rfl, fun a ha => (hF' a ha).trans (hF a ha)⟩
theorem m_isTaken_of {P : Nat → Int32} {dy : Int32} {R C n0 Q m : Nat} (hW : wkA P R C n0) (hA : pfA P R Q) (hL : LKs P dy Q m) {sg : sg_T} {d q : Nat} {vq : Int32} (hd : 3 * m + 6 ≤ d) (e1 : sg 1 = P) (hq : vq = nI q) (hqQ : q < Q) (hm12 : 12 * q + 12 ≤ m) : am_Met mi_X12_isTaken d 0 0 [.ref 0, .int vq, .int dy] (hm sg) (fun r h' => ∃ sg', r = some (.int (bI (tkB P (lkN P (trP P) dy m) q))) ∧ h' = hm sg' ∧ frL sg sg') := by
  obtain ⟨q12, ⟨k, k5, ek, pk⟩, st, s12, es, ps, hRw⟩ := pf_q hA hqQ
  refine am_Met.of rfl (Nat.le_of_ble_eq_true rfl) ?_
  refine am_go ok_X12_isTaken [38] 82 ?_
  refine ⟨_, _, rfl, rfl, ?_⟩
  refine ⟨_, _, (126 + q), rfl, (by rw [hq]; exact nI_add 126 q), by omega, Nat.le_of_ble_eq_true rfl, ?_⟩
  rw [e1, es]
  refine ⟨fun c9 => ?_, fun c9 => ?_⟩
  · have z0 : st = 0 := (nI_eq (b := 0) (by omega) (by omega)).mp c9
    refine ⟨rfl, sg, ?_, rfl, fun _ _ => rfl⟩
    unfold tkB
    rw [ps, decide_eq_false (fun q1 => q1 z0)]
    rfl
  · have z0 : ¬ st = 0 := fun e => c9 (by rw [e]; rfl)
    refine ⟨_, _, rfl, rfl, ?_⟩
    refine ⟨_, _, (114 + q), rfl, (by rw [hq]; exact nI_add 114 q), by omega, Nat.le_of_ble_eq_true rfl, ?_⟩
    rw [e1, ek]
    refine ⟨fun c22 => ?_, fun c22 => ?_⟩
    · have k4 : k = 4 := (nI_eq (b := 4) (by omega) (by omega)).mp c22
      have nh : ¬ (k = 1 ∧ 0 < hoS P q st) := by omega
      refine am_W.mono ?_ (m_isTaken_l hW hA hL hd hq hqQ es s12 hm12 (st + 1) 0 0 sg rfl e1 (fun _ _ => rfl) rfl (by omega) (by omega))
      rintro r h' ⟨sg', rfl, rfl, hF⟩
      refine ⟨sg', ?_, rfl, hF⟩
      unfold tkB
      have d1 : decide (¬ (k = 1 ∧ 0 < hoS P q st)) = true := decide_eq_true nh
      have d2 : decide (¬ st = 0) = true := decide_eq_true z0
      rw [ps, pk, d1, d2]
      rfl
    · refine ⟨_, rfl, d - 1, 0, 0, _, by omega, Nat.le_of_ble_eq_true rfl, Nat.le_of_ble_eq_true rfl, Nat.le_of_ble_eq_true rfl, m_holesOf (q := q) (st := st) (k := k) (by omega) hq q12 (by rw [e1]; exact ek) k5 (by rw [e1]; exact es) s12 (by rw [e1]; intro j hj; obtain ⟨-, -, t, -, t3, et⟩ := hRw j hj; exact ⟨t, t3, et⟩), ?_⟩
      rintro _ _ ⟨v, rfl, hv, rfl⟩
      refine ⟨Or.inl rfl, ?_⟩
      rw [e1] at hv
      have hh3 := hoS_le (P := P) (q := q) (s := st) (fun j hj => by obtain ⟨-, -, t, -, t3, et⟩ := hRw j hj; rw [pn_of et (by omega)]; exact t3)
      have hv' : (k = 1 ∨ k = 4) ∧ v = nI (hoS P q st) ∨ ¬ (k = 1 ∨ k = 4) ∧ v = 0 := by
        rcases hv with ⟨a1, ⟨s, k', ⟨hs', hk', -, e⟩, -⟩ | ⟨-, e⟩⟩ | ⟨a1, e⟩
        · have b1 := hoS_le (P := P) (q := q) (s := s) (fun j hj => by obtain ⟨-, -, t, -, t3, et⟩ := hRw j (by omega); rw [pn_of et (by omega)]; exact t3)
          have b2 := hoK_le P (rwX q s) k'
          obtain ⟨-, -, t, -, t3, et⟩ := hRw s hs'
          rw [pn_of et (by omega)] at hk'
          exact absurd e.symm (nI_m1 (by omega))
        · exact Or.inl ⟨a1, by rw [e, if_pos rfl]⟩
        · exact Or.inr ⟨a1, by rw [e, if_pos rfl]⟩
      refine ⟨fun c31 => ?_, fun c31 => ?_⟩
      · have nh : ¬ (k = 1 ∧ 0 < hoS P q st) := by
          rintro ⟨k1, h0⟩
          rcases hv' with ⟨-, e⟩ | ⟨a1, -⟩
          · rw [e] at c31
            exact absurd ((nI_leI (b := 0) (by omega) (by omega)).mp c31) (by omega)
          · exact a1 (Or.inl k1)
        refine am_W.mono ?_ (m_isTaken_l hW hA hL hd hq hqQ es s12 hm12 (st + 1) 0 0 sg rfl e1 (fun _ _ => rfl) rfl (by omega) (by omega))
        rintro r h' ⟨sg', rfl, rfl, hF⟩
        refine ⟨sg', ?_, rfl, hF⟩
        unfold tkB
        have d1 : decide (¬ (k = 1 ∧ 0 < hoS P q st)) = true := decide_eq_true nh
        have d2 : decide (¬ st = 0) = true := decide_eq_true z0
        rw [ps, pk, d1, d2]
        rfl
      · have nh : k = 1 ∧ 0 < hoS P q st := by
          rcases hv' with ⟨a1, e⟩ | ⟨a1, e⟩
          · refine ⟨?_, ?_⟩
            · rcases a1 with a1 | a1
              · exact a1
              · exact absurd (by rw [a1]; rfl) c22
            · rcases Nat.eq_zero_or_pos (hoS P q st) with z | z
              · exact absurd (by rw [e, z]; decide) c31
              · exact z
          · exact absurd (by rw [e]; decide) c31
        refine ⟨rfl, sg, ?_, rfl, fun _ _ => rfl⟩
        unfold tkB
        have d1 : decide (¬ (k = 1 ∧ 0 < hoS P q st)) = false := decide_eq_false (fun q1 => q1 nh)
        rw [ps, pk, d1, Bool.false_and, Bool.and_false]
        rfl
