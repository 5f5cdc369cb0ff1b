/-! behindTry, runs -/
def scE (B : Nat → Int32) (k e : Nat) : Nat := if B k = 40 then e + 1 else if B k = 41 then e - 1 else e
theorem scN_s {B : Nat → Int32} {u k e : Nat} : scN B (u + 1) k e = if scE B k e = 0 then k + 1 else scN B u (k + 1) (scE B k e) := rfl
theorem sc_st {B : Nat → Int32} {n k o e mk : Nat} (h : tcW B n) (hg : gd B k (o + e) mk) (hc : (e = 0 ∧ mk = 0) ∨ 0 < e) : k < n ∧ (B k = 41 → 0 < e) ∧ ∃ m', gd B (k + 1) (o + scE B k e) m' ∧ (scE B k e = 0 → m' = 1) := by
  obtain ⟨kn, o', m', hd, hg'⟩ := h.nx hg (by omega)
  refine ⟨kn, fun q => ?_, ?_⟩
  · rcases hd with z | z | z | z | z
    · exact absurd (q.symm.trans z.2.1) (by decide)
    · exact absurd z.2.1 (by rw [q]; decide)
    · omega
    · omega
    · omega
  · unfold scE
    rcases hd with z | z | z | z | z
    · rw [if_pos z.2.1]
      exact ⟨m', by rw [show o + (e + 1) = o' by omega]; exact hg', fun w => by omega⟩
    · have c1 : ¬ B k = 40 := fun w => absurd z.2.1 (by rw [w]; decide)
      have c2 : ¬ B k = 41 := fun w => absurd z.2.1 (by rw [w]; decide)
      rw [if_neg c1, if_neg c2]
      exact ⟨m', by rw [show o + e = o' by omega]; exact hg', fun w => by omega⟩
    · have c1 : ¬ B k = 40 := fun w => absurd (w.symm.trans z.2.1) (by decide)
      have c2 : ¬ B k = 41 := fun w => absurd (w.symm.trans z.2.1) (by decide)
      rw [if_neg c1, if_neg c2]
      exact ⟨m', by rw [show o + e = o' by omega]; exact hg', fun w => by omega⟩
    · have c1 : ¬ B k = 40 := fun w => absurd (w.symm.trans z.2.1) (by decide)
      rw [if_neg c1, if_pos z.2.1]
      exact ⟨m', by rw [show o + (e - 1) = o' by omega]; exact hg', fun w => by omega⟩
    · have c1 : ¬ B k = 40 := fun w => z.2.1.elim (fun y => absurd (w.symm.trans y) (by decide)) (fun y => absurd (w.symm.trans y) (by decide))
      have c2 : ¬ B k = 41 := fun w => z.2.1.elim (fun y => absurd (w.symm.trans y) (by decide)) (fun y => absurd (w.symm.trans y) (by decide))
      rw [if_neg c1, if_neg c2]
      exact ⟨m', by rw [show o + e = o' by omega]; exact hg', fun w => by omega⟩
theorem sc_end {B : Nat → Int32} {n o : Nat} (h : tcW B n) : ∀ {u k e mk : Nat}, gd B k (o + e) mk → ((e = 0 ∧ mk = 0) ∨ 0 < e) → n < k + u → gd B (scN B u k e) o 1 ∧ k < scN B u k e ∧ scN B u k e ≤ n
  | 0, k, e, mm, hg, hc, hu => by have := (sc_st h hg hc).1; omega
  | u + 1, k, e, mm, hg, hc, hu => by
    obtain ⟨kn, -, m', hg', h0⟩ := sc_st h hg hc
    rw [scN_s]
    by_cases q : scE B k e = 0
    · rw [if_pos q]
      rw [q, h0 q] at hg'
      exact ⟨hg', by omega, by omega⟩
    · rw [if_neg q]
      obtain ⟨a1, a2, a3⟩ := sc_end h hg' (Or.inr (by omega)) (by omega : n < k + 1 + u)
      exact ⟨a1, by omega, a3⟩
theorem bt_ok {B : Nat → Int32} {n o i : Nat} (h : tcW B n) (hg : gd B i o 0) : i < n ∧ (∃ m, 1 ≤ m ∧ gd B (btE B i) o m ∧ (m = 2 ∨ ¬ B (btE B i) = 42)) ∧ i < btE B i ∧ btE B i ≤ n := by
  obtain ⟨a1, a2, a3⟩ := sc_end (o := o) (e := 0) (u := 121) h hg (Or.inl ⟨rfl, rfl⟩) (by have := h.1; omega)
  have hi := (h.nx hg (Or.inl rfl)).1
  refine ⟨hi, ?_⟩
  unfold btE bt0
  by_cases q : B (scN B 121 i 0) = 42
  · rw [if_pos q]
    have g2 : gd B (scN B 121 i 0 + 1) o 2 := ⟨o, 1, a1, Or.inr (Or.inr (Or.inl ⟨rfl, q, rfl, rfl⟩))⟩
    refine ⟨⟨2, by omega, g2, Or.inl rfl⟩, by omega, ?_⟩
    rcases Nat.lt_or_ge (scN B 121 i 0) n with z | z
    · omega
    · rw [h.2.2 _ z] at q; exact absurd q (by decide)
  · rw [if_neg q]
    exact ⟨⟨1, by omega, a1, Or.inr q⟩, a2, a3⟩
theorem tcA_W {P : Nat → Int32} {t n m : Nat} (n1 : n ≤ 120) (hn : P (1032 + t) = nI n) (m1 : 1 ≤ m) (hg : gd (bA P t) n 0 m) : tcW (bA P t) n := by
  refine ⟨n1, ⟨m, m1, hg⟩, fun k hk => ?_⟩
  unfold bA
  rw [pn_of hn (by omega), if_neg (by omega)]
theorem nI_dn {e : Nat} (h : 0 < e) : nI e + -1 = nI (e - 1) := by
  obtain ⟨k, rfl⟩ : ∃ k, e = k + 1 := ⟨e - 1, by omega⟩
  rw [show k + 1 - 1 = k by omega, ← nI_pm k, Int32.sub_eq_add_neg]
theorem m_bt_l {sg : sg_T} {d kc ks t n i o : Nat} {vi : Int32} (hd : 1 ≤ d) (hv : vi = nI i) (t6 : t < 6) (h11 : sg 0 11 = nI t) (hn : sg 1 (1032 + t) = nI n) (hW : tcW (bA (sg 1) t) n) (hg0 : gd (bA (sg 1) t) i o 0) : ∀ (u : Nat) (vk w : Int32) (k e mk : Nat), vk = nI k → w = nI e → i < k → gd (bA (sg 1) t) k (o + e) mk → (e = 0 → mk = 1) → bt0 (bA (sg 1) t) i = (if e = 0 then k else scN (bA (sg 1) t) u k e) → k ≤ n → n < k + u → am_W mi_X12_behindTry d (fun r h' => r = some (.int (nI (btE (bA (sg 1) t) i))) ∧ h' = hm sg) kc ks 4 [some (.ref 0), some (.int vi), some (.int vk), some (.int w)] [] (hm sg) := by
  intro u
  induction u with
  | zero => intro vk w k e mk hk hw ik hg h0 hS kl hu; exact absurd hu (by omega)
  | succ u ih =>
    intro vk w k e mk hk hw ik hg h0 hS kl hu
    refine am_go ok_X12_behindTry [4] 82 ?_
    have n1 := hW.1
    have e6 : e ≤ 6 := by have := (gd_6 hg).1; omega
    refine ⟨fun c6 => absurd c6 (fun z => absurd ((nI_eq (by omega) (by have := (bt_ok hW hg0).1; omega)).mp (hk.symm.trans (z.trans hv))) (by omega)), fun _ => ?_⟩
    refine ⟨fun c10 => ?_, fun c10 => ?_⟩
    · have e0 : e = 0 := by
        rw [hw] at c10
        have := (nI_leI (b := 0) (by omega) (by omega)).mp c10
        omega
      rw [if_pos e0] at hS
      refine ⟨_, rfl, d - 1, 0, 0, _, by omega, Nat.le_of_ble_eq_true rfl, Nat.le_of_ble_eq_true rfl, Nat.le_of_ble_eq_true rfl, m_byteAt (d - 1) hk (by omega) t6 h11 hn n1, ?_⟩
      rintro _ _ ⟨rfl, rfl⟩
      refine ⟨Or.inl rfl, ?_⟩
      refine ⟨fun c58 => ?_, fun c58 => ?_⟩
      · have eb : vk = nI (btE (bA (sg 1) t) i) := by unfold btE; rw [hS, if_neg c58]; exact hk
        refine ⟨trivial, ?_⟩
        exact ⟨by rw [eb], rfl⟩
      · have eb : vk + 1 = nI (btE (bA (sg 1) t) i) := by unfold btE; rw [hS, if_pos c58, hk, nI_1]
        refine ⟨trivial, ?_⟩
        exact ⟨by rw [eb], rfl⟩
    · have e0 : 0 < e := by
        rcases Nat.eq_zero_or_pos e with q | q
        · exact absurd (by rw [hw, q]; decide) c10
        · exact q
      rw [if_neg (by omega)] at hS
      obtain ⟨kn, hp, m', hg', h0'⟩ := sc_st hW hg (Or.inr e0)
      have S2 : bt0 (bA (sg 1) t) i = if scE (bA (sg 1) t) k e = 0 then k + 1 else scN (bA (sg 1) t) u (k + 1) (scE (bA (sg 1) t) k e) := by rw [hS, scN_s]
      refine ⟨_, rfl, d - 1, 0, 0, _, by omega, Nat.le_of_ble_eq_true rfl, Nat.le_of_ble_eq_true rfl, Nat.le_of_ble_eq_true rfl, m_byteAt (d - 1) hk (by omega) t6 h11 hn n1, ?_⟩
      rintro _ _ ⟨rfl, rfl⟩
      refine ⟨Or.inl rfl, ?_⟩
      refine ⟨fun c21 => ?_, fun c21 => ?_⟩
      · refine ⟨_, rfl, d - 1, 0, 0, _, by omega, Nat.le_of_ble_eq_true rfl, Nat.le_of_ble_eq_true rfl, Nat.le_of_ble_eq_true rfl, m_byteAt (d - 1) hk (by omega) t6 h11 hn n1, ?_⟩
        rintro _ _ ⟨rfl, rfl⟩
        refine ⟨Or.inl rfl, ?_⟩
        refine ⟨fun c35 => ?_, fun c35 => ?_⟩
        · first
          | exact ih _ _ (k + 1) (scE (bA (sg 1) t) k e) m' (by rw [hk, nI_1]) (by unfold scE; rw [if_pos c21, hw, nI_1]) (by omega) hg' h0' S2 (by omega) (by omega)
          | exact ih _ _ (k + 1) (scE (bA (sg 1) t) k e) m' (by rw [hk, nI_1]) (by have := hp c35; unfold scE; rw [if_neg c21, if_pos c35, hw]; exact nI_dn this) (by omega) hg' h0' S2 (by omega) (by omega)
          | exact ih _ _ (k + 1) (scE (bA (sg 1) t) k e) m' (by rw [hk, nI_1]) (by unfold scE; rw [if_neg c21, if_neg c35, hw]; exact Int32.add_zero _) (by omega) hg' h0' S2 (by omega) (by omega)
        · first
          | exact ih _ _ (k + 1) (scE (bA (sg 1) t) k e) m' (by rw [hk, nI_1]) (by unfold scE; rw [if_pos c21, hw, nI_1]) (by omega) hg' h0' S2 (by omega) (by omega)
          | exact ih _ _ (k + 1) (scE (bA (sg 1) t) k e) m' (by rw [hk, nI_1]) (by have := hp c35; unfold scE; rw [if_neg c21, if_pos c35, hw]; exact nI_dn this) (by omega) hg' h0' S2 (by omega) (by omega)
          | exact ih _ _ (k + 1) (scE (bA (sg 1) t) k e) m' (by rw [hk, nI_1]) (by unfold scE; rw [if_neg c21, if_neg c35, hw]; exact Int32.add_zero _) (by omega) hg' h0' S2 (by omega) (by omega)
      · first
        | exact ih _ _ (k + 1) (scE (bA (sg 1) t) k e) m' (by rw [hk, nI_1]) (by unfold scE; rw [if_pos c21, hw, nI_1]) (by omega) hg' h0' S2 (by omega) (by omega)
        | exact ih _ _ (k + 1) (scE (bA (sg 1) t) k e) m' (by rw [hk, nI_1]) (by have := hp c35; unfold scE; rw [if_neg c21, if_pos c35, hw]; exact nI_dn this) (by omega) hg' h0' S2 (by omega) (by omega)
        | exact ih _ _ (k + 1) (scE (bA (sg 1) t) k e) m' (by rw [hk, nI_1]) (by unfold scE; rw [if_neg c21, if_neg c35, hw]; exact Int32.add_zero _) (by omega) hg' h0' S2 (by omega) (by omega)
theorem m_bt_0 {sg : sg_T} {d kc ks t n i o : Nat} {vi : Int32} (hd : 1 ≤ d) (hv : vi = nI i) (t6 : t < 6) (h11 : sg 0 11 = nI t) (hn : sg 1 (1032 + t) = nI n) (hW : tcW (bA (sg 1) t) n) (hg0 : gd (bA (sg 1) t) i o 0) : am_W mi_X12_behindTry d (fun r h' => r = some (.int (nI (btE (bA (sg 1) t) i))) ∧ h' = hm sg) kc ks 4 [some (.ref 0), some (.int vi), some (.int vi), some (.int 0)] [] (hm sg) := by
  refine am_go ok_X12_behindTry [4] 80 ?_
  have n1 := hW.1
  have hi := (bt_ok hW hg0).1
  have hk : vi = nI i := hv
  obtain ⟨kn, hp, m', hg', h0'⟩ := sc_st (o := o) (e := 0) hW hg0 (Or.inl ⟨rfl, rfl⟩)
  have S2 : bt0 (bA (sg 1) t) i = if scE (bA (sg 1) t) i 0 = 0 then i + 1 else scN (bA (sg 1) t) 120 (i + 1) (scE (bA (sg 1) t) i 0) := by unfold bt0; rw [scN_s]
  refine ⟨fun _ => ?_, fun c6 => absurd rfl c6⟩
  refine ⟨_, rfl, d - 1, 0, 0, _, by omega, Nat.le_of_ble_eq_true rfl, Nat.le_of_ble_eq_true rfl, Nat.le_of_ble_eq_true rfl, m_byteAt (d - 1) hk (by omega) t6 h11 hn n1, ?_⟩
  rintro _ _ ⟨rfl, rfl⟩
  refine ⟨Or.inl rfl, ?_⟩
  refine ⟨fun c21 => ?_, fun c21 => ?_⟩
  · refine ⟨_, rfl, d - 1, 0, 0, _, by omega, Nat.le_of_ble_eq_true rfl, Nat.le_of_ble_eq_true rfl, Nat.le_of_ble_eq_true rfl, m_byteAt (d - 1) hk (by omega) t6 h11 hn n1, ?_⟩
    rintro _ _ ⟨rfl, rfl⟩
    refine ⟨Or.inl rfl, ?_⟩
    refine ⟨fun c35 => ?_, fun c35 => ?_⟩
    · first
      | exact m_bt_l hd hv t6 h11 hn hW hg0 120 _ _ (i + 1) (scE (bA (sg 1) t) i 0) m' (by rw [hk, nI_1]) (by unfold scE; rw [if_pos c21]; rfl) (by omega) hg' h0' S2 (by omega) (by omega)
      | exact m_bt_l hd hv t6 h11 hn hW hg0 120 _ _ (i + 1) (scE (bA (sg 1) t) i 0) m' (by rw [hk, nI_1]) (by exact absurd (hp c35) (by omega)) (by omega) hg' h0' S2 (by omega) (by omega)
      | exact m_bt_l hd hv t6 h11 hn hW hg0 120 _ _ (i + 1) (scE (bA (sg 1) t) i 0) m' (by rw [hk, nI_1]) (by unfold scE; rw [if_neg c21, if_neg c35]; rfl) (by omega) hg' h0' S2 (by omega) (by omega)
    · first
      | exact m_bt_l hd hv t6 h11 hn hW hg0 120 _ _ (i + 1) (scE (bA (sg 1) t) i 0) m' (by rw [hk, nI_1]) (by unfold scE; rw [if_pos c21]; rfl) (by omega) hg' h0' S2 (by omega) (by omega)
      | exact m_bt_l hd hv t6 h11 hn hW hg0 120 _ _ (i + 1) (scE (bA (sg 1) t) i 0) m' (by rw [hk, nI_1]) (by exact absurd (hp c35) (by omega)) (by omega) hg' h0' S2 (by omega) (by omega)
      | exact m_bt_l hd hv t6 h11 hn hW hg0 120 _ _ (i + 1) (scE (bA (sg 1) t) i 0) m' (by rw [hk, nI_1]) (by unfold scE; rw [if_neg c21, if_neg c35]; rfl) (by omega) hg' h0' S2 (by omega) (by omega)
  · first
    | exact m_bt_l hd hv t6 h11 hn hW hg0 120 _ _ (i + 1) (scE (bA (sg 1) t) i 0) m' (by rw [hk, nI_1]) (by unfold scE; rw [if_pos c21]; rfl) (by omega) hg' h0' S2 (by omega) (by omega)
    | exact m_bt_l hd hv t6 h11 hn hW hg0 120 _ _ (i + 1) (scE (bA (sg 1) t) i 0) m' (by rw [hk, nI_1]) (by exact absurd (hp c35) (by omega)) (by omega) hg' h0' S2 (by omega) (by omega)
    | exact m_bt_l hd hv t6 h11 hn hW hg0 120 _ _ (i + 1) (scE (bA (sg 1) t) i 0) m' (by rw [hk, nI_1]) (by unfold scE; rw [if_neg c21, if_neg c35]; rfl) (by omega) hg' h0' S2 (by omega) (by omega)
theorem m_behindTry {sg : sg_T} {d t n i o : Nat} {vi : Int32} (hd : 1 ≤ d) (hv : vi = nI i) (t6 : t < 6) (h11 : sg 0 11 = nI t) (hn : sg 1 (1032 + t) = nI n) (hW : tcW (bA (sg 1) t) n) (hg0 : gd (bA (sg 1) t) i o 0) : am_Met mi_X12_behindTry d 0 0 [.ref 0, .int vi] (hm sg) (fun r h' => r = some (.int (nI (btE (bA (sg 1) t) i))) ∧ h' = hm sg) := by
  refine am_Met.of rfl (Nat.le_of_ble_eq_true rfl) ?_
  refine am_go ok_X12_behindTry [4] 64 ?_
  exact m_bt_0 hd hv t6 h11 hn hW hg0
