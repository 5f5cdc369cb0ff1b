/-! which change a RULE's text has on a DAY: the last of the latest; as a number, 'none' if there is none -/
def chK (da : Nat → Int32) (n : Nat) : Option Nat → Bool
  | none => true
  | some j => decide (da j ≤ da n)
def chF (ru da : Nat → Int32) (r dy : Int32) : Nat → Option Nat
  | 0 => none
  | n + 1 => if ru n = r ∧ da n ≤ dy ∧ chK da n (chF ru da r dy n) = true then some n else chF ru da r dy n
theorem chF_lt {ru da : Nat → Int32} {r dy : Int32} : ∀ {n j : Nat}, chF ru da r dy n = some j → j < n
  | 0, j, h => by cases h
  | n + 1, j, h => by
    unfold chF at h
    split at h
    · cases h; exact Nat.lt_succ_self _
    · have := chF_lt h; omega
def chI (z : Int32) : Option Nat → Int32
  | none => z
  | some j => nI j
theorem chF_y {ru da : Nat → Int32} {r dy : Int32} {n : Nat} (h1 : ru n = r) (h2 : da n ≤ dy) (h3 : ∀ j, chF ru da r dy n = some j → da j ≤ da n) : chF ru da r dy (n + 1) = some n := by
  rw [chF, if_pos]
  refine ⟨h1, h2, ?_⟩
  cases e : chF ru da r dy n with
  | none => rfl
  | some j => exact decide_eq_true (h3 j e)
theorem chF_n {ru da : Nat → Int32} {r dy : Int32} {n : Nat} (h : ¬ (ru n = r ∧ da n ≤ dy)) : chF ru da r dy (n + 1) = chF ru da r dy n := by
  rw [chF, if_neg]
  exact fun z => h ⟨z.1, z.2.1⟩
theorem chF_o {ru da : Nat → Int32} {r dy : Int32} {n j : Nat} (e : chF ru da r dy n = some j) (h : ¬ da j ≤ da n) : chF ru da r dy (n + 1) = chF ru da r dy n := by
  rw [chF, if_neg]
  rw [e]
  exact fun z => h (of_decide_eq_true z.2.2)
abbrev pRu (P : Nat → Int32) : Nat → Int32 := fun c => P (18 + c)
abbrev pDa (P : Nat → Int32) : Nat → Int32 := fun c => P (30 + c)
theorem pRu_at (P : Nat → Int32) (k : Nat) : pRu P k = P (18 + k) := rfl
theorem pDa_at (P : Nat → Int32) (k : Nat) : pDa P k = P (30 + k) := rfl
theorem m_changeOn_l {sg : sg_T} {d kc ks : Nat} {r dy : Int32} {n : Nat} (hn : sg 1 2 = nI n) (hb : n ≤ 12) : ∀ (u k : Nat) (z w : Int32) (b : Option Nat) (t : Option Value), z = nI k → chF (pRu (sg 1)) (pDa (sg 1)) r dy k = b → w = chI (-5) b → k ≤ n → n < k + u → am_W mi_X12_changeOn d (fun r' h' => r' = some (.int (chI (-5) (chF (pRu (sg 1)) (pDa (sg 1)) r dy n))) ∧ h' = hm sg) kc ks 6 [some (.ref 0), some (.int r), some (.int dy), some (.int w), some (.int z), t] [] (hm sg) := by
  intro u
  induction u with
  | zero => intro k z w b t hz hbb hw h1 h2; exact absurd h2 (by omega)
  | succ u ih =>
    intro k z w b t hz hbb hw h1 h2
    refine am_go ok_X12_changeOn [6] 88 ?_
    refine ⟨_, _, rfl, rfl, ?_⟩
    refine ⟨_, _, 2, rfl, rfl, Nat.le_of_ble_eq_true rfl, Nat.le_of_ble_eq_true rfl, ?_⟩
    refine ⟨fun c14 => ?_, fun c14 => ?_⟩
    · rw [hz, hn] at c14
      have k1 : k = n := by have := (nI_leI (by omega) (by omega)).mp c14; omega
      subst k1
      refine ⟨trivial, ?_⟩
      exact ⟨by rw [hw, hbb], rfl⟩
    · have k1 : k < n := by
        rcases Nat.lt_or_ge k n with q | q
        · exact q
        · exact absurd (by rw [hz, hn]; exact (nI_leI (by omega) (by omega)).mpr q) c14
      refine ⟨_, _, rfl, rfl, ?_⟩
      refine ⟨_, _, (18 + k), rfl, (by rw [hz]; exact nI_add 18 k), by omega, Nat.le_of_ble_eq_true rfl, ?_⟩
      refine ⟨fun c28 => ?_, fun c28 => ?_⟩
      · refine ⟨fun _ => ?_, fun e => absurd rfl e⟩
        exact ih (k + 1) _ _ _ _ (by rw [hz]; exact nI_1 k) (chF_n (fun q => c28 q.1)) (by rw [hbb, hw]) (by omega) (by omega)
      · refine ⟨_, _, rfl, rfl, ?_⟩
        refine ⟨_, _, (30 + k), rfl, (by rw [hz]; exact nI_add 30 k), by omega, Nat.le_of_ble_eq_true rfl, ?_⟩
        refine ⟨fun c42 => ?_, fun c42 => ?_⟩
        · refine ⟨fun _ => ?_, fun e => absurd rfl e⟩
          exact ih (k + 1) _ _ _ _ (by rw [hz]; exact nI_1 k) (chF_n (fun q => i_ltn c42 q.2)) (by rw [hbb, hw]) (by omega) (by omega)
        · refine ⟨fun c54 => absurd c54 (by decide), fun _ => ?_⟩
          refine ⟨fun c58 => ?_, fun c58 => ?_⟩
          · cases b with
            | some j => exact absurd (by rw [hw] at c58; exact c58) (nI_pos (by have := chF_lt hbb; omega))
            | none => exact ih (k + 1) _ _ _ _ (by rw [hz]; exact nI_1 k) (chF_y c28 (i_nlt c42) (fun j e => by rw [hbb] at e; cases e)) (by rw [hz]; rfl) (by omega) (by omega)
          · cases b with
            | none => exact absurd (by rw [hw]; decide) c58
            | some j =>
              have hj := chF_lt hbb
              refine ⟨_, _, rfl, rfl, ?_⟩
              refine ⟨_, _, (30 + k), rfl, (by rw [hz]; exact nI_add 30 k), by omega, Nat.le_of_ble_eq_true rfl, ?_⟩
              refine ⟨_, _, rfl, rfl, ?_⟩
              refine ⟨_, _, (30 + j), rfl, (by rw [hw]; exact nI_add 30 j), by omega, Nat.le_of_ble_eq_true rfl, ?_⟩
              refine ⟨fun c80 => ?_, fun c80 => ?_⟩
              · exact ih (k + 1) _ _ _ _ (by rw [hz]; exact nI_1 k) (chF_o hbb (i_ltn c80)) (by rw [hbb, hw]) (by omega) (by omega)
              · exact ih (k + 1) _ _ _ _ (by rw [hz]; exact nI_1 k) (chF_y c28 (i_nlt c42) (fun i e => by rw [hbb] at e; cases e; exact i_nlt c80)) (by rw [hz]; rfl) (by omega) (by omega)
theorem m_changeOn {sg : sg_T} (d : Nat) {r dy : Int32} {n : Nat} (hn : sg 1 2 = nI n) (hb : n ≤ 12) : am_Met mi_X12_changeOn d 0 0 [.ref 0, .int r, .int dy] (hm sg) (fun r' h' => r' = some (.int (chI (-5) (chF (pRu (sg 1)) (pDa (sg 1)) r dy n))) ∧ h' = hm sg) := by
  refine am_Met.of rfl (Nat.le_of_ble_eq_true rfl) ?_
  refine am_go ok_X12_changeOn [6] 64 ?_
  exact m_changeOn_l hn hb (n + 1) 0 0 (-5) none none rfl rfl rfl (by omega) (by omega)
/-- the place of a RULE's text on a DAY -/
def txN (P : Nat → Int32) (r : Nat) (dy : Int32) : Nat := match chF (pRu P) (pDa P) (nI r) dy (P 2).toNatClampNeg with
  | none => (P (10 + r)).toNatClampNeg
  | some c => (P (42 + c)).toNatClampNeg
abbrev txX (P : Nat → Int32) (r : Nat) (dy : Int32) : Nat := 1758 + 30 * txN P r dy
theorem m_textOn {sg : sg_T} {d : Nat} (hd : 1 ≤ d) {r : Int32} (dy : Int32) {n q : Nat} (hr : r = nI q) (hq : q < 8) (hn : sg 1 2 = nI n) (hb : n ≤ 12) (ht : ∀ r, r < 8 → ∃ t, t < 20 ∧ sg 1 (10 + r) = nI t) (hc : ∀ c, c < n → ∃ t, t < 20 ∧ sg 1 (42 + c) = nI t) : am_Met mi_X12_textOn d 0 0 [.ref 0, .int r, .int dy] (hm sg) (fun r' h' => r' = some (.int (nI (txX (sg 1) q dy))) ∧ h' = hm sg) := by
  refine am_Met.of rfl (Nat.le_of_ble_eq_true rfl) ?_
  refine am_go ok_X12_textOn [] 64 ?_
  refine ⟨_, rfl, d - 1, 0, 0, _, by omega, Nat.le_of_ble_eq_true rfl, Nat.le_of_ble_eq_true rfl, Nat.le_of_ble_eq_true rfl, m_changeOn (d - 1) hn hb, ?_⟩
  rintro _ _ ⟨rfl, rfl⟩
  refine ⟨Or.inl rfl, ?_⟩
  have e0 : (sg 1 2).toNatClampNeg = n := by rw [hn]; exact nI_clamp (by omega)
  cases e : chF (pRu (sg 1)) (pDa (sg 1)) r dy n with
  | none =>
    obtain ⟨t, ht1, ht2⟩ := ht q hq
    have e1 : txN (sg 1) q dy = t := by unfold txN; rw [e0, ← hr, e, ht2]; exact nI_clamp (by omega)
    refine ⟨fun c13 => absurd c13 (by decide), fun c13 => ?_⟩
    refine ⟨_, _, rfl, rfl, ?_⟩
    refine ⟨_, _, (10 + q), rfl, (by rw [hr]; exact nI_add 10 q), by omega, Nat.le_of_ble_eq_true rfl, ?_⟩
    refine ⟨trivial, ?_, rfl⟩
    rw [ht2, txX, e1]
    show some (Value.int (nI 1758 + nI 30 * nI t)) = _
    rw [pk_mul, nI_add]
  | some c =>
    have hcn := chF_lt e
    obtain ⟨t, ht1, ht2⟩ := hc c hcn
    have e1 : txN (sg 1) q dy = t := by unfold txN; rw [e0, ← hr, e]; show (sg 1 (42 + c)).toNatClampNeg = t; rw [ht2]; exact nI_clamp (by omega)
    refine ⟨fun c13 => ?_, fun c13 => absurd (nI_pos' (by omega)) c13⟩
    refine ⟨_, _, rfl, rfl, ?_⟩
    refine ⟨_, _, (42 + c), rfl, nI_add 42 c, by omega, Nat.le_of_ble_eq_true rfl, ?_⟩
    refine ⟨trivial, ?_, rfl⟩
    rw [ht2, txX, e1]
    show some (Value.int (nI 1758 + nI 30 * nI t)) = _
    rw [pk_mul, nI_add]
