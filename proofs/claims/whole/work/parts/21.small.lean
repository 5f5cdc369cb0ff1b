/-! the reference's small calls -/
def fdB (w : Int64) (z : Int32) : Int32 := ((w >>> ((8 * z).toInt64 &&& 63)) &&& 255).toInt32
/-- the tape behind i of n bytes -/
def fdF (P : Nat → Int32) (w : Int64) (n t : Nat) : Nat → Nat → Int32
  | 0 => P
  | i + 1 => upd (upd (fdF P w n t i) (2358 + (t + i)) (fdB w (nI (n - (i + 1))))) 8 (nI (t + i) + 1)
theorem fdF_8 {P : Nat → Int32} {w : Int64} {n t : Nat} (h : P 8 = nI t) : ∀ i, fdF P w n t i 8 = nI (t + i)
  | 0 => h
  | i + 1 => by rw [fdF, pk_us]; exact nI_1 (t + i)
def sgP (sg : sg_T) (P : Nat → Int32) : sg_T := fun a => if a = 1 then P else sg a
theorem sgP_1 (sg : sg_T) (P : Nat → Int32) : sgP sg P 1 = P := rfl
theorem sgP_a {sg : sg_T} {P : Nat → Int32} {a : Nat} (h : a ≠ 1) : sgP sg P a = sg a := if_neg h
theorem sgP_s (sg : sg_T) : sgP sg (sg 1) = sg := by funext a; unfold sgP; split; (rename_i h; rw [h]); rfl
theorem sgP_u {sg : sg_T} {P : Nat → Int32} {j : Nat} {x : Int32} : sg_u (sgP sg P) 1 j x = sgP sg (upd P j x) := by
  funext a; unfold sg_u sgP; split <;> simp_all
theorem sgP_u0 {sg : sg_T} {j : Nat} {x : Int32} : sg_u sg 1 j x = sgP sg (upd (sg 1) j x) := rfl
theorem m_day {sg : sg_T} {d : Nat} (hd : 1 ≤ d) (n : Int32) : am_Met mi_X12_day d 0 0 [.ref 0, .int n] (hm sg) (fun r h' => ((1 ≤ n ∧ n ≤ 99) ∧ sg 1 0 + n ≤ 999 ∧ r = some (.int (sg 1 0 + n)) ∧ h' = hm (sgP sg (upd (sg 1) 0 (sg 1 0 + n)))) ∨ (¬ ((1 ≤ n ∧ n ≤ 99) ∧ sg 1 0 + n ≤ 999) ∧ r = some (.int (-2)) ∧ h' = hm sg)) := by
  refine am_Met.of rfl (Nat.le_of_ble_eq_true rfl) ?_
  refine am_go ok_X12_day [] 85 ?_
  refine ⟨d - 1, 0, 0, _, by omega, Nat.le_of_ble_eq_true rfl, Nat.le_of_ble_eq_true rfl, Nat.le_of_ble_eq_true rfl, m_in (d - 1) n 1 99, ?_⟩
  rintro _ _ ⟨rfl, rfl⟩
  refine ⟨Or.inl rfl, ?_⟩
  refine ⟨fun c7 => ?_, fun c7 => ?_⟩
  · refine ⟨trivial, Or.inr ⟨fun q => bI_f c7 q.1, rfl, rfl⟩⟩
  · refine ⟨_, _, rfl, rfl, ?_⟩
    refine ⟨_, _, 0, rfl, rfl, Nat.le_of_ble_eq_true rfl, Nat.le_of_ble_eq_true rfl, ?_⟩
    refine ⟨fun c21 => ?_, fun c21 => ?_⟩
    · refine ⟨_, _, rfl, rfl, ?_⟩
      refine ⟨_, _, 0, rfl, rfl, Nat.le_of_ble_eq_true rfl, Nat.le_of_ble_eq_true rfl, ?_⟩
      refine ⟨_, _, 0, rfl, rfl, Nat.le_of_ble_eq_true rfl, Nat.le_of_ble_eq_true rfl, ?_⟩
      rw [hm_a1]
      refine ⟨_, _, rfl, rfl, ?_⟩
      refine ⟨_, _, 0, rfl, rfl, Nat.le_of_ble_eq_true rfl, Nat.le_of_ble_eq_true rfl, ?_⟩
      refine ⟨trivial, ?_⟩
      exact Or.inl ⟨bI_t c7, c21, by rw [sg_s], rfl⟩
    · refine ⟨trivial, Or.inr ⟨fun q => c21 q.2, rfl, rfl⟩⟩
theorem m_feed_l {sg : sg_T} {d kc ks : Nat} {w : Int64} {v : Int32} {n t : Nat} (ht : sg 1 8 = nI t) (hb : t + n ≤ 120) : ∀ (u i : Nat) (z : Int32), z = nI (n - i) - 1 → i ≤ n → n < i + u → am_W mi_X12_feed d (fun r h' => r = some (.int (nI (t + n))) ∧ h' = hm (sgP sg (fdF (sg 1) w n t n))) kc ks 35 [some (.ref 0), some (.long w), none, some (.int v), some (.int z)] [] (hm (sgP sg (fdF (sg 1) w n t i))) := by
  intro u
  induction u with
  | zero => intro i z hz h1 h2; exact absurd h2 (by omega)
  | succ u ih =>
    intro i z hz h1 h2
    refine am_go ok_X12_feed [35] 89 ?_
    refine ⟨fun c37 => ?_, fun c37 => ?_⟩
    · have k1 : i = n := by
        rcases (show i = n ∨ i < n by omega) with q | q
        · exact q
        · rw [hz, show n - i = (n - (i + 1)) + 1 by omega, nI_pred] at c37
          exact absurd c37 (nI_pos (by omega))
      subst k1
      refine ⟨_, _, rfl, rfl, ?_⟩
      refine ⟨_, _, 8, rfl, rfl, Nat.le_of_ble_eq_true rfl, Nat.le_of_ble_eq_true rfl, ?_⟩
      rw [sgP_1, fdF_8 ht]
      refine ⟨trivial, ?_⟩
      exact ⟨rfl, rfl⟩
    · have k1 : i < n := by
        rcases (show i = n ∨ i < n by omega) with q | q
        · exact absurd (by rw [hz, q, Nat.sub_self]; decide) c37
        · exact q
      have hz' : z = nI (n - (i + 1)) := by rw [hz, show n - i = (n - (i + 1)) + 1 by omega, nI_pred]
      refine ⟨_, _, rfl, rfl, ?_⟩
      refine ⟨_, _, rfl, rfl, ?_⟩
      refine ⟨_, _, 8, rfl, rfl, Nat.le_of_ble_eq_true rfl, Nat.le_of_ble_eq_true rfl, ?_⟩
      rw [sgP_1, fdF_8 ht]
      refine ⟨_, _, (2358 + (t + i)), rfl, (nI_add 2358 (t + i)), by omega, Nat.le_of_ble_eq_true rfl, ?_⟩
      rw [hm_a1]
      rw [sgP_u]
      refine ⟨_, _, rfl, rfl, ?_⟩
      refine ⟨_, _, 8, rfl, rfl, Nat.le_of_ble_eq_true rfl, Nat.le_of_ble_eq_true rfl, ?_⟩
      rw [sgP_1, pk_un (show 8 ≠ 2358 + (t + i) by omega), fdF_8 ht]
      refine ⟨_, _, 8, rfl, rfl, Nat.le_of_ble_eq_true rfl, Nat.le_of_ble_eq_true rfl, ?_⟩
      rw [hm_a1]
      rw [sgP_u]
      rw [hz']
      exact ih (i + 1) _ (by rw [Int32.sub_eq_add_neg]) (by omega) (by omega)
theorem m_feed {sg : sg_T} {d : Nat} (hd : 1 ≤ d) (w : Int64) (v : Int32) {t : Nat} (ht : sg 1 8 = nI t) (htb : t ≤ 120) : am_Met mi_X12_feed d 0 0 [.ref 0, .long w, .int v] (hm sg) (fun r h' => (¬ (1 ≤ v ∧ v ≤ 8) ∧ r = some (.int (-2)) ∧ h' = hm sg) ∨ ∃ n, 1 ≤ n ∧ n ≤ 8 ∧ v = nI n ∧ ((120 < t + n ∧ r = some (.int (-4)) ∧ h' = hm sg) ∨ (t + n ≤ 120 ∧ r = some (.int (nI (t + n))) ∧ h' = hm (sgP sg (fdF (sg 1) w n t n))))) := by
  refine am_Met.of rfl (Nat.le_of_ble_eq_true rfl) ?_
  refine am_go ok_X12_feed [35] 77 ?_
  refine ⟨d - 1, 0, 0, _, by omega, Nat.le_of_ble_eq_true rfl, Nat.le_of_ble_eq_true rfl, Nat.le_of_ble_eq_true rfl, m_in (d - 1) v 1 8, ?_⟩
  rintro _ _ ⟨rfl, rfl⟩
  refine ⟨Or.inl rfl, ?_⟩
  refine ⟨fun c7 => ?_, fun c7 => ?_⟩
  · have c8 := bI_t c7
    obtain ⟨n, hn, en⟩ := nI_of2 (M := 8) (n := 8) (by decide) (fun q => absurd (Int32.lt_of_lt_of_le q (by decide : (0 : Int32) ≤ 1)) (i_len c8.1)) c8.2
    have n1 : 1 ≤ n := (nI_leI (a := 1) (by omega) (by omega)).mp (by rw [← en]; exact c8.1)
    subst en
    refine ⟨_, _, rfl, rfl, ?_⟩
    refine ⟨_, _, 8, rfl, rfl, Nat.le_of_ble_eq_true rfl, Nat.le_of_ble_eq_true rfl, ?_⟩
    rw [ht]
    refine ⟨fun c24 => ?_, fun c24 => ?_⟩
    · have q1 : t + n ≤ 120 := (nI_leI (b := 120) (by omega) (by omega)).mp (by rw [← nI_add]; exact c24)
      refine am_W.mono (fun r h' q => Or.inr ⟨n, n1, hn, rfl, Or.inr ⟨q1, q⟩⟩) ?_
      have h9 := m_feed_l (sg := sg) (d := d) (kc := 0) (ks := 0) (w := w) (v := nI n) ht q1 (n + 1) 0 _ rfl (by omega) (by omega)
      rw [show fdF (sg 1) w n t 0 = sg 1 from rfl, sgP_s] at h9
      exact h9
    · refine ⟨trivial, Or.inr ⟨n, n1, hn, rfl, Or.inl ⟨?_, rfl, rfl⟩⟩⟩
      rcases Nat.lt_or_ge 120 (t + n) with q | q
      · exact q
      · exact absurd (by rw [nI_add]; exact (nI_leI (b := 120) (by omega) (by omega)).mpr q) c24
  · refine ⟨trivial, Or.inl ⟨bI_f c7, rfl, rfl⟩⟩
theorem m_paper {sg : sg_T} {d : Nat} (hd : 2 ≤ d) (f pr : Int32) {n : Nat} (hn : sg 1 3 = nI n) (hb : n ≤ 20) : am_Met mi_X12_paper d 0 0 [.ref 0, .int f, .int pr] (hm sg) (fun r h' => (¬ (0 ≤ pr ∧ pr ≤ 4) ∧ r = some (.int (-1)) ∧ h' = hm sg) ∨ ((0 ≤ pr ∧ pr ≤ 4) ∧ ¬ (0 ≤ f ∧ f ≤ 749) ∧ r = some (.int (-2)) ∧ h' = hm sg) ∨ ((0 ≤ pr ∧ pr ≤ 4) ∧ (0 ≤ f ∧ f ≤ 749) ∧ n = 20 ∧ r = some (.int (-4)) ∧ h' = hm sg) ∨ ((0 ≤ pr ∧ pr ≤ 4) ∧ (0 ≤ f ∧ f ≤ 749) ∧ n < 20 ∧ r = some (.int (nI n)) ∧ h' = hm (sgP sg (upd (upd (upd (upd (sg 1) (54 + n) f) (74 + n) pr) (94 + n) 0) 3 (nI (n + 1)))))) := by
  refine am_Met.of rfl (Nat.le_of_ble_eq_true rfl) ?_
  refine am_go ok_X12_paper [] 118 ?_
  refine ⟨d - 1, 0, 0, _, by omega, Nat.le_of_ble_eq_true rfl, Nat.le_of_ble_eq_true rfl, Nat.le_of_ble_eq_true rfl, m_in (d - 1) pr 0 4, ?_⟩
  rintro _ _ ⟨rfl, rfl⟩
  refine ⟨Or.inl rfl, ?_⟩
  refine ⟨fun c6 => ?_, fun c6 => ?_⟩
  · refine ⟨d - 1, 0, 0, _, by omega, Nat.le_of_ble_eq_true rfl, Nat.le_of_ble_eq_true rfl, Nat.le_of_ble_eq_true rfl, m_isFact (by omega) f, ?_⟩
    rintro _ _ ⟨rfl, rfl⟩
    refine ⟨Or.inl rfl, ?_⟩
    refine ⟨fun c15 => ?_, fun c15 => ?_⟩
    · refine ⟨_, _, rfl, rfl, ?_⟩
      refine ⟨_, _, 3, rfl, rfl, Nat.le_of_ble_eq_true rfl, Nat.le_of_ble_eq_true rfl, ?_⟩
      rw [hn]
      refine ⟨fun c29 => ?_, fun c29 => ?_⟩
      · have n20 : n < 20 := by
          rcases (show n = 20 ∨ n < 20 by omega) with q | q
          · exact absurd (by rw [q]; rfl) c29
          · exact q
        refine ⟨_, _, rfl, rfl, ?_⟩
        refine ⟨_, _, rfl, rfl, ?_⟩
        refine ⟨_, _, 3, rfl, rfl, Nat.le_of_ble_eq_true rfl, Nat.le_of_ble_eq_true rfl, ?_⟩
        rw [hn]
        refine ⟨_, _, (54 + n), rfl, (nI_add 54 n), by omega, Nat.le_of_ble_eq_true rfl, ?_⟩
        rw [hm_a1]
        rw [sgP_u0]
        refine ⟨_, _, rfl, rfl, ?_⟩
        refine ⟨_, _, rfl, rfl, ?_⟩
        refine ⟨_, _, 3, rfl, rfl, Nat.le_of_ble_eq_true rfl, Nat.le_of_ble_eq_true rfl, ?_⟩
        rw [sgP_1, pk_un (by omega), hn]
        refine ⟨_, _, (74 + n), rfl, (nI_add 74 n), by omega, Nat.le_of_ble_eq_true rfl, ?_⟩
        rw [hm_a1]
        rw [sgP_u]
        refine ⟨_, _, rfl, rfl, ?_⟩
        refine ⟨_, _, rfl, rfl, ?_⟩
        refine ⟨_, _, 3, rfl, rfl, Nat.le_of_ble_eq_true rfl, Nat.le_of_ble_eq_true rfl, ?_⟩
        rw [sgP_1, pk_un (by omega), pk_un (by omega), hn]
        refine ⟨_, _, (94 + n), rfl, (nI_add 94 n), by omega, Nat.le_of_ble_eq_true rfl, ?_⟩
        rw [hm_a1]
        rw [sgP_u]
        refine ⟨_, _, rfl, rfl, ?_⟩
        refine ⟨_, _, 3, rfl, rfl, Nat.le_of_ble_eq_true rfl, Nat.le_of_ble_eq_true rfl, ?_⟩
        rw [sgP_1, pk_un (by omega), pk_un (by omega), pk_un (by omega), hn]
        refine ⟨_, _, 3, rfl, rfl, Nat.le_of_ble_eq_true rfl, Nat.le_of_ble_eq_true rfl, ?_⟩
        rw [hm_a1]
        rw [sgP_u]
        refine ⟨_, _, rfl, rfl, ?_⟩
        refine ⟨_, _, 3, rfl, rfl, Nat.le_of_ble_eq_true rfl, Nat.le_of_ble_eq_true rfl, ?_⟩
        rw [sgP_1, pk_us]
        refine ⟨trivial, ?_⟩
        refine Or.inr (Or.inr (Or.inr ⟨bI_t c6, bI_t c15, n20, ?_, ?_⟩))
        · rw [nI_1, nI_pred]
        · rw [nI_1]
      · exact ⟨trivial, Or.inr (Or.inr (Or.inl ⟨bI_t c6, bI_t c15, (nI_eq (b := 20) (by omega) (by omega)).mp c29, rfl, rfl⟩))⟩
    · exact ⟨trivial, Or.inr (Or.inl ⟨bI_t c6, bI_f c15, rfl, rfl⟩)⟩
  · exact ⟨trivial, Or.inl ⟨bI_f c6, rfl, rfl⟩⟩
theorem m_proof {sg : sg_T} {d : Nat} (hd : 1 ≤ d) (k : Int32) {n : Nat} (hn : sg 1 4 = nI n) (hb : n ≤ 12) : am_Met mi_X12_proof d 0 0 [.ref 0, .int k] (hm sg) (fun r h' => (¬ (0 ≤ k ∧ k ≤ 4) ∧ r = some (.int (-1)) ∧ h' = hm sg) ∨ ((0 ≤ k ∧ k ≤ 4) ∧ n = 12 ∧ r = some (.int (-4)) ∧ h' = hm sg) ∨ ((0 ≤ k ∧ k ≤ 4) ∧ n < 12 ∧ r = some (.int (nI n)) ∧ h' = hm (sgP sg (upd (upd (upd (sg 1) (114 + n) k) (126 + n) 0) 4 (nI (n + 1)))))) := by
  refine am_Met.of rfl (Nat.le_of_ble_eq_true rfl) ?_
  refine am_go ok_X12_proof [] 105 ?_
  refine ⟨d - 1, 0, 0, _, by omega, Nat.le_of_ble_eq_true rfl, Nat.le_of_ble_eq_true rfl, Nat.le_of_ble_eq_true rfl, m_in (d - 1) k 0 4, ?_⟩
  rintro _ _ ⟨rfl, rfl⟩
  refine ⟨Or.inl rfl, ?_⟩
  refine ⟨fun c6 => ?_, fun c6 => ?_⟩
  · refine ⟨_, _, rfl, rfl, ?_⟩
    refine ⟨_, _, 4, rfl, rfl, Nat.le_of_ble_eq_true rfl, Nat.le_of_ble_eq_true rfl, ?_⟩
    rw [hn]
    refine ⟨fun c19 => ?_, fun c19 => ?_⟩
    · have n12 : n < 12 := by
        rcases (show n = 12 ∨ n < 12 by omega) with q | q
        · exact absurd (by rw [q]; rfl) c19
        · exact q
      refine ⟨_, _, rfl, rfl, ?_⟩
      refine ⟨_, _, rfl, rfl, ?_⟩
      refine ⟨_, _, 4, rfl, rfl, Nat.le_of_ble_eq_true rfl, Nat.le_of_ble_eq_true rfl, ?_⟩
      rw [hn]
      refine ⟨_, _, (114 + n), rfl, (nI_add 114 n), by omega, Nat.le_of_ble_eq_true rfl, ?_⟩
      rw [hm_a1]
      rw [sgP_u0]
      refine ⟨_, _, rfl, rfl, ?_⟩
      refine ⟨_, _, rfl, rfl, ?_⟩
      refine ⟨_, _, 4, rfl, rfl, Nat.le_of_ble_eq_true rfl, Nat.le_of_ble_eq_true rfl, ?_⟩
      rw [sgP_1, pk_un (by omega), hn]
      refine ⟨_, _, (126 + n), rfl, (nI_add 126 n), by omega, Nat.le_of_ble_eq_true rfl, ?_⟩
      rw [hm_a1]
      rw [sgP_u]
      refine ⟨_, _, rfl, rfl, ?_⟩
      refine ⟨_, _, 4, rfl, rfl, Nat.le_of_ble_eq_true rfl, Nat.le_of_ble_eq_true rfl, ?_⟩
      rw [sgP_1, pk_un (by omega), pk_un (by omega), hn]
      refine ⟨_, _, 4, rfl, rfl, Nat.le_of_ble_eq_true rfl, Nat.le_of_ble_eq_true rfl, ?_⟩
      rw [hm_a1]
      rw [sgP_u]
      refine ⟨_, _, rfl, rfl, ?_⟩
      refine ⟨_, _, 4, rfl, rfl, Nat.le_of_ble_eq_true rfl, Nat.le_of_ble_eq_true rfl, ?_⟩
      rw [sgP_1, pk_us]
      refine ⟨trivial, ?_⟩
      refine Or.inr (Or.inr ⟨bI_t c6, n12, ?_, ?_⟩)
      · rw [nI_1, nI_pred]
      · rw [nI_1]
    · exact ⟨trivial, Or.inr (Or.inl ⟨bI_t c6, (nI_eq (b := 12) (by omega) (by omega)).mp c19, rfl, rfl⟩)⟩
  · exact ⟨trivial, Or.inl ⟨bI_f c6, rfl, rfl⟩⟩
