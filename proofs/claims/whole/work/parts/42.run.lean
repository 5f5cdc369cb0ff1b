/-! runsTactic, run -/
theorem m_rT_1 {sg0 : sg_T} {t n R C n0 N : Nat} (hT : rcT sg0 t n R C n0) {sg : sg_T} {st : rs_T} {d kc ks k o : Nat} {Q : Option Value → am_H → Prop} {vi vk : Int32} {b h : Bool} {t5 : Option Value} (hd : 5 ≤ d) (hI : rsI sg0 t N sg st) (hv : vk = nI k) (hg : gd (bA (sg0 1) t) k o 0) (hB : (bA (sg0 1) t) (btE (bA (sg0 1) t) k) = 124) (K : am_W mi_X12_runsTactic d Q kc ks 10 [some (.ref 0), some (.int vi), some (.int (bI b)), some (.int (bI h)), some (.int (nI (btE (bA (sg0 1) t) k) + 1)), some (.int 1)] [] (hm sg)) : am_W mi_X12_runsTactic d Q kc ks 38 [some (.ref 0), some (.int vi), some (.int (bI b)), some (.int (bI h)), some (.int vk), t5] [] (hm sg) := by
  refine am_go ok_X12_runsTactic [10] 79 ?_
  have n1 := hT.2.2.2.1
  obtain ⟨hi, -, ib, bn⟩ := bt_ok hT.2.2.2 hg
  refine ⟨_, rfl, d - 1, 0, 0, _, by omega, Nat.le_of_ble_eq_true rfl, Nat.le_of_ble_eq_true rfl, Nat.le_of_ble_eq_true rfl, m_btR hT hI (by omega) hv hg, ?_⟩
  rintro _ _ ⟨rfl, rfl⟩
  refine ⟨Or.inl rfl, ?_⟩
  refine ⟨_, rfl, d - 1, 0, 0, _, by omega, Nat.le_of_ble_eq_true rfl, Nat.le_of_ble_eq_true rfl, Nat.le_of_ble_eq_true rfl, m_byR (i := (btE (bA (sg0 1) t) k)) hT hI (d - 1) rfl (by omega), ?_⟩
  rintro _ _ ⟨rfl, rfl⟩
  refine ⟨Or.inl rfl, ?_⟩
  refine ⟨fun _ => ?_, fun c54 => absurd hB c54⟩
  refine ⟨_, rfl, d - 1, 0, 0, _, by omega, Nat.le_of_ble_eq_true rfl, Nat.le_of_ble_eq_true rfl, Nat.le_of_ble_eq_true rfl, m_byR (i := (btE (bA (sg0 1) t) k)) hT hI (d - 1) rfl (by omega), ?_⟩
  rintro _ _ ⟨rfl, rfl⟩
  refine ⟨Or.inl rfl, ?_⟩
  refine ⟨fun _ => ?_, fun c81 => absurd hB c81⟩
  exact K
theorem m_rT_2 {sg0 : sg_T} {t n R C n0 N : Nat} (hT : rcT sg0 t n R C n0) {sg : sg_T} {st : rs_T} {d kc ks k o : Nat} {Q : Option Value → am_H → Prop} {vi vk : Int32} {b h : Bool} {t5 : Option Value} (hd : 5 ≤ d) (hI : rsI sg0 t N sg st) (hv : vk = nI k) (hg : gd (bA (sg0 1) t) k o 0) (hB : (bA (sg0 1) t) (btE (bA (sg0 1) t) k) = 59) (K : am_W mi_X12_runsTactic d Q kc ks 10 [some (.ref 0), some (.int vi), some (.int (bI (b || h))), some (.int 0), some (.int (nI (btE (bA (sg0 1) t) k) + 1)), some (.int 1)] [] (hm sg)) : am_W mi_X12_runsTactic d Q kc ks 38 [some (.ref 0), some (.int vi), some (.int (bI b)), some (.int (bI h)), some (.int vk), t5] [] (hm sg) := by
  refine am_go ok_X12_runsTactic [10] 93 ?_
  have n1 := hT.2.2.2.1
  obtain ⟨hi, -, ib, bn⟩ := bt_ok hT.2.2.2 hg
  refine ⟨_, rfl, d - 1, 0, 0, _, by omega, Nat.le_of_ble_eq_true rfl, Nat.le_of_ble_eq_true rfl, Nat.le_of_ble_eq_true rfl, m_btR hT hI (by omega) hv hg, ?_⟩
  rintro _ _ ⟨rfl, rfl⟩
  refine ⟨Or.inl rfl, ?_⟩
  refine ⟨_, rfl, d - 1, 0, 0, _, by omega, Nat.le_of_ble_eq_true rfl, Nat.le_of_ble_eq_true rfl, Nat.le_of_ble_eq_true rfl, m_byR (i := (btE (bA (sg0 1) t) k)) hT hI (d - 1) rfl (by omega), ?_⟩
  rintro _ _ ⟨rfl, rfl⟩
  refine ⟨Or.inl rfl, ?_⟩
  refine ⟨fun c54 => absurd c54 (by rw [hB]; decide), fun _ => ?_⟩
  refine ⟨fun c58 => ?_, fun c58 => ?_⟩
  · have eb : (b || h) = true := by cases b; exact absurd rfl c58; rfl
    rw [eb] at K
    refine ⟨_, rfl, d - 1, 0, 0, _, by omega, Nat.le_of_ble_eq_true rfl, Nat.le_of_ble_eq_true rfl, Nat.le_of_ble_eq_true rfl, m_byR (i := (btE (bA (sg0 1) t) k)) hT hI (d - 1) rfl (by omega), ?_⟩
    rintro _ _ ⟨rfl, rfl⟩
    refine ⟨Or.inl rfl, ?_⟩
    refine ⟨fun c81 => absurd c81 (by rw [hB]; decide), fun _ => ?_⟩
    refine ⟨_, rfl, d - 1, 0, 0, _, by omega, Nat.le_of_ble_eq_true rfl, Nat.le_of_ble_eq_true rfl, Nat.le_of_ble_eq_true rfl, m_byR (i := (btE (bA (sg0 1) t) k)) hT hI (d - 1) rfl (by omega), ?_⟩
    rintro _ _ ⟨rfl, rfl⟩
    refine ⟨Or.inl rfl, ?_⟩
    refine ⟨fun c92 => absurd c92 (fun z => z hB), fun _ => ?_⟩
    exact K
  · have b0 : b = false := bI_0.mp c58
    refine ⟨fun c62 => ?_, fun c62 => ?_⟩
    · have eb : (b || h) = false := by rw [b0, bI_0.mp c62]; rfl
      rw [eb] at K
      refine ⟨_, rfl, d - 1, 0, 0, _, by omega, Nat.le_of_ble_eq_true rfl, Nat.le_of_ble_eq_true rfl, Nat.le_of_ble_eq_true rfl, m_byR (i := (btE (bA (sg0 1) t) k)) hT hI (d - 1) rfl (by omega), ?_⟩
      rintro _ _ ⟨rfl, rfl⟩
      refine ⟨Or.inl rfl, ?_⟩
      refine ⟨fun c81 => absurd c81 (by rw [hB]; decide), fun _ => ?_⟩
      refine ⟨_, rfl, d - 1, 0, 0, _, by omega, Nat.le_of_ble_eq_true rfl, Nat.le_of_ble_eq_true rfl, Nat.le_of_ble_eq_true rfl, m_byR (i := (btE (bA (sg0 1) t) k)) hT hI (d - 1) rfl (by omega), ?_⟩
      rintro _ _ ⟨rfl, rfl⟩
      refine ⟨Or.inl rfl, ?_⟩
      refine ⟨fun c92 => absurd c92 (fun z => z hB), fun _ => ?_⟩
      exact K
    · have eb : (b || h) = true := by rw [b0]; cases h; exact absurd rfl c62; rfl
      rw [eb] at K
      refine ⟨_, rfl, d - 1, 0, 0, _, by omega, Nat.le_of_ble_eq_true rfl, Nat.le_of_ble_eq_true rfl, Nat.le_of_ble_eq_true rfl, m_byR (i := (btE (bA (sg0 1) t) k)) hT hI (d - 1) rfl (by omega), ?_⟩
      rintro _ _ ⟨rfl, rfl⟩
      refine ⟨Or.inl rfl, ?_⟩
      refine ⟨fun c81 => absurd c81 (by rw [hB]; decide), fun _ => ?_⟩
      refine ⟨_, rfl, d - 1, 0, 0, _, by omega, Nat.le_of_ble_eq_true rfl, Nat.le_of_ble_eq_true rfl, Nat.le_of_ble_eq_true rfl, m_byR (i := (btE (bA (sg0 1) t) k)) hT hI (d - 1) rfl (by omega), ?_⟩
      rintro _ _ ⟨rfl, rfl⟩
      refine ⟨Or.inl rfl, ?_⟩
      refine ⟨fun c92 => absurd c92 (fun z => z hB), fun _ => ?_⟩
      exact K
theorem m_rT_3 {sg0 : sg_T} {t n R C n0 N : Nat} (hT : rcT sg0 t n R C n0) {sg : sg_T} {st : rs_T} {d kc ks k o : Nat} {Q : Option Value → am_H → Prop} {vi vk : Int32} {b h : Bool} {t5 : Option Value} (hd : 5 ≤ d) (hI : rsI sg0 t N sg st) (hv : vk = nI k) (hg : gd (bA (sg0 1) t) k o 0) (hB : ¬ (bA (sg0 1) t) (btE (bA (sg0 1) t) k) = 124) (hB2 : ¬ (bA (sg0 1) t) (btE (bA (sg0 1) t) k) = 59) (K : am_W mi_X12_runsTactic d Q kc ks 10 [some (.ref 0), some (.int vi), some (.int (bI (b || h))), some (.int 0), some (.int (nI (btE (bA (sg0 1) t) k) + 1)), some (.int 0)] [] (hm sg)) : am_W mi_X12_runsTactic d Q kc ks 38 [some (.ref 0), some (.int vi), some (.int (bI b)), some (.int (bI h)), some (.int vk), t5] [] (hm sg) := by
  refine am_go ok_X12_runsTactic [10] 92 ?_
  have n1 := hT.2.2.2.1
  obtain ⟨hi, -, ib, bn⟩ := bt_ok hT.2.2.2 hg
  refine ⟨_, rfl, d - 1, 0, 0, _, by omega, Nat.le_of_ble_eq_true rfl, Nat.le_of_ble_eq_true rfl, Nat.le_of_ble_eq_true rfl, m_btR hT hI (by omega) hv hg, ?_⟩
  rintro _ _ ⟨rfl, rfl⟩
  refine ⟨Or.inl rfl, ?_⟩
  refine ⟨_, rfl, d - 1, 0, 0, _, by omega, Nat.le_of_ble_eq_true rfl, Nat.le_of_ble_eq_true rfl, Nat.le_of_ble_eq_true rfl, m_byR (i := (btE (bA (sg0 1) t) k)) hT hI (d - 1) rfl (by omega), ?_⟩
  rintro _ _ ⟨rfl, rfl⟩
  refine ⟨Or.inl rfl, ?_⟩
  refine ⟨fun c54 => absurd c54 hB, fun _ => ?_⟩
  refine ⟨fun c58 => ?_, fun c58 => ?_⟩
  · have eb : (b || h) = true := by cases b; exact absurd rfl c58; rfl
    rw [eb] at K
    refine ⟨_, rfl, d - 1, 0, 0, _, by omega, Nat.le_of_ble_eq_true rfl, Nat.le_of_ble_eq_true rfl, Nat.le_of_ble_eq_true rfl, m_byR (i := (btE (bA (sg0 1) t) k)) hT hI (d - 1) rfl (by omega), ?_⟩
    rintro _ _ ⟨rfl, rfl⟩
    refine ⟨Or.inl rfl, ?_⟩
    refine ⟨fun c81 => absurd c81 hB, fun _ => ?_⟩
    refine ⟨_, rfl, d - 1, 0, 0, _, by omega, Nat.le_of_ble_eq_true rfl, Nat.le_of_ble_eq_true rfl, Nat.le_of_ble_eq_true rfl, m_byR (i := (btE (bA (sg0 1) t) k)) hT hI (d - 1) rfl (by omega), ?_⟩
    rintro _ _ ⟨rfl, rfl⟩
    refine ⟨Or.inl rfl, ?_⟩
    refine ⟨fun _ => ?_, fun c92 => absurd c92 hB2⟩
    exact K
  · have b0 : b = false := bI_0.mp c58
    refine ⟨fun c62 => ?_, fun c62 => ?_⟩
    · have eb : (b || h) = false := by rw [b0, bI_0.mp c62]; rfl
      rw [eb] at K
      refine ⟨_, rfl, d - 1, 0, 0, _, by omega, Nat.le_of_ble_eq_true rfl, Nat.le_of_ble_eq_true rfl, Nat.le_of_ble_eq_true rfl, m_byR (i := (btE (bA (sg0 1) t) k)) hT hI (d - 1) rfl (by omega), ?_⟩
      rintro _ _ ⟨rfl, rfl⟩
      refine ⟨Or.inl rfl, ?_⟩
      refine ⟨fun c81 => absurd c81 hB, fun _ => ?_⟩
      refine ⟨_, rfl, d - 1, 0, 0, _, by omega, Nat.le_of_ble_eq_true rfl, Nat.le_of_ble_eq_true rfl, Nat.le_of_ble_eq_true rfl, m_byR (i := (btE (bA (sg0 1) t) k)) hT hI (d - 1) rfl (by omega), ?_⟩
      rintro _ _ ⟨rfl, rfl⟩
      refine ⟨Or.inl rfl, ?_⟩
      refine ⟨fun _ => ?_, fun c92 => absurd c92 hB2⟩
      exact K
    · have eb : (b || h) = true := by rw [b0]; cases h; exact absurd rfl c62; rfl
      rw [eb] at K
      refine ⟨_, rfl, d - 1, 0, 0, _, by omega, Nat.le_of_ble_eq_true rfl, Nat.le_of_ble_eq_true rfl, Nat.le_of_ble_eq_true rfl, m_byR (i := (btE (bA (sg0 1) t) k)) hT hI (d - 1) rfl (by omega), ?_⟩
      rintro _ _ ⟨rfl, rfl⟩
      refine ⟨Or.inl rfl, ?_⟩
      refine ⟨fun c81 => absurd c81 hB, fun _ => ?_⟩
      refine ⟨_, rfl, d - 1, 0, 0, _, by omega, Nat.le_of_ble_eq_true rfl, Nat.le_of_ble_eq_true rfl, Nat.le_of_ble_eq_true rfl, m_byR (i := (btE (bA (sg0 1) t) k)) hT hI (d - 1) rfl (by omega), ?_⟩
      rintro _ _ ⟨rfl, rfl⟩
      refine ⟨Or.inl rfl, ?_⟩
      refine ⟨fun _ => ?_, fun c92 => absurd c92 hB2⟩
      exact K
theorem m_rT_x {sg0 s2 : sg_T} {t N d kc ks : Nat} {st st' : rs_T} {vi v3 v4 : Int32} (g : rsI sg0 t N s2 st') : am_W mi_X12_runsTactic d (rsO sg0 t N st st') kc ks 10 [some (.ref 0), some (.int vi), some (.int (bI (gwB st.1 st'.1))), some (.int v3), some (.int v4), some (.int 0)] [] (hm s2) := by
  refine am_go ok_X12_runsTactic [] 63 ?_
  refine ⟨fun _ => ?_, fun c12 => absurd rfl c12⟩
  refine ⟨bI_nar _, ?_⟩
  exact ⟨rfl, s2, rfl, g⟩
/-- the loop over TRIES, with so many rounds left -/
abbrev rtL (sg0 : sg_T) (t n N e : Nat) (st0 : rs_T) (d kc ks o : Nat) (vi : Int32) (fin : rs_T) (u : Nat) : Prop := ∀ (k : Nat) (vk : Int32) (b h : Bool) (sg : sg_T) (st : rs_T), rsI sg0 t N sg st → vk = nI k → gd (bA (sg0 1) t) k o 0 → leF st0.1 st.1 → pcS (syP (sg0 1) (sg0 1 0)) N (bA (sg0 1) t) (taS (syP (sg0 1) (sg0 1 0)) N (bA (sg0 1) t) e) u k h st = fin → ((b = true ∨ h = true) ↔ grw st0.1 st.1) → k < n → n ≤ k + u → am_W mi_X12_runsTactic d (rsO sg0 t N st0 fin) kc ks 10 [some (.ref 0), some (.int vi), some (.int (bI b)), some (.int (bI h)), some (.int vk), some (.int 1)] [] (hm sg)
theorem m_rT_z {sg0 : sg_T} {t n R C n0 N e : Nat} (hT : rcT sg0 t n R C n0) {st0 : rs_T} {d kc ks o : Nat} {vi : Int32} {fin : rs_T} (hd : 5 ≤ d) {u : Nat} (ihu : rtL sg0 t n N e st0 d kc ks o vi fin u) {k : Nat} {vk : Int32} {b h : Bool} {sg : sg_T} {st : rs_T} {t5 : Option Value} (hI : rsI sg0 t N sg st) (hv : vk = nI k) (hg : gd (bA (sg0 1) t) k o 0) (hL : leF st0.1 st.1) (hF1 : (bA (sg0 1) t) (btE (bA (sg0 1) t) k) = 124 → pcS (syP (sg0 1) (sg0 1 0)) N (bA (sg0 1) t) (taS (syP (sg0 1) (sg0 1 0)) N (bA (sg0 1) t) e) u ((btE (bA (sg0 1) t) k) + 1) h st = fin) (hF2 : (bA (sg0 1) t) (btE (bA (sg0 1) t) k) = 59 → pcS (syP (sg0 1) (sg0 1 0)) N (bA (sg0 1) t) (taS (syP (sg0 1) (sg0 1 0)) N (bA (sg0 1) t) e) u ((btE (bA (sg0 1) t) k) + 1) false st = fin) (hF3 : ¬ (bA (sg0 1) t) (btE (bA (sg0 1) t) k) = 124 → ¬ (bA (sg0 1) t) (btE (bA (sg0 1) t) k) = 59 → st = fin) (hB : (b = true ∨ h = true) ↔ grw st0.1 st.1) (hu : n ≤ k + (u + 1)) : am_W mi_X12_runsTactic d (rsO sg0 t N st0 fin) kc ks 38 [some (.ref 0), some (.int vi), some (.int (bI b)), some (.int (bI h)), some (.int vk), t5] [] (hm sg) := by
  have n1 := hT.2.2.2.1
  obtain ⟨hi, ⟨m, m1, gm, -⟩, ib, bn⟩ := bt_ok hT.2.2.2 hg
  by_cases q1 : (bA (sg0 1) t) (btE (bA (sg0 1) t) k) = 124
  · have gn : gd (bA (sg0 1) t) ((btE (bA (sg0 1) t) k) + 1) o 0 := ⟨o, m, gm, Or.inr (Or.inr (Or.inr (Or.inr ⟨m1, Or.inr q1, rfl, rfl⟩)))⟩
    exact m_rT_1 hT hd hI hv hg q1 (ihu ((btE (bA (sg0 1) t) k) + 1) _ b h sg st hI (by rw [nI_1]) gn hL (hF1 q1) hB (bt_ok hT.2.2.2 gn).1 (by omega))
  · by_cases q2 : (bA (sg0 1) t) (btE (bA (sg0 1) t) k) = 59
    · have gn : gd (bA (sg0 1) t) ((btE (bA (sg0 1) t) k) + 1) o 0 := ⟨o, m, gm, Or.inr (Or.inr (Or.inr (Or.inr ⟨m1, Or.inl q2, rfl, rfl⟩)))⟩
      exact m_rT_2 hT hd hI hv hg q2 (ihu ((btE (bA (sg0 1) t) k) + 1) _ (b || h) false sg st hI (by rw [nI_1]) gn hL (hF2 q2) (by rw [← hB, Bool.or_eq_true]; exact ⟨fun z => z.elim id (fun w => absurd w (by decide)), Or.inl⟩) (bt_ok hT.2.2.2 gn).1 (by omega))
    · refine m_rT_3 hT hd hI hv hg q1 q2 ?_
      rw [← hF3 q1 q2, gw_e (b := b || h) (by rw [← hB, Bool.or_eq_true])]
      exact m_rT_x hI
theorem m_rT_t {d kc ks : Nat} {Q : Option Value → am_H → Prop} {vi vb vk v5 : Int32} {hp : am_H} {h : Bool} (hh : h = true) (K : am_W mi_X12_runsTactic d Q kc ks 38 [some (.ref 0), some (.int vi), some (.int vb), some (.int 1), some (.int vk), some (.int v5)] [] hp) : am_W mi_X12_runsTactic d Q kc ks 28 [some (.ref 0), some (.int vi), some (.int vb), some (.int (bI h)), some (.int vk), some (.int v5)] [] hp := by
  refine am_go ok_X12_runsTactic [38] 65 ?_
  refine ⟨fun c29 => absurd c29 (by rw [hh]; decide), fun _ => ?_⟩
  exact K
theorem m_rT_f {d kc ks : Nat} {Q : Option Value → am_H → Prop} {vi vb vk v5 : Int32} {hp : am_H} {h : Bool} (hh : h = false) (K : am_W mi_X12_runsTactic d Q kc ks 38 [some (.ref 0), some (.int vi), some (.int vb), some (.int 0), some (.int vk), some (.int v5)] [] hp) : am_W mi_X12_runsTactic d Q kc ks 28 [some (.ref 0), some (.int vi), some (.int vb), some (.int (bI h)), some (.int vk), some (.int v5)] [] hp := by
  refine am_go ok_X12_runsTactic [38] 64 ?_
  refine ⟨fun _ => ?_, fun c29 => absurd (by rw [hh]; rfl) c29⟩
  exact K
theorem pc_1 {S : sy_T} {N u k : Nat} {B : Nat → Int32} {K : Nat → rs_T → rs_T} {h : Bool} {st st' fin : rs_T} (hs : iF (h = true) st (trS S N B K k st) = st') (hF : pcS S N B K (u + 1) k h st = fin) : (B (btE B k) = 124 → pcS S N B K u (btE B k + 1) (h || gwB st.1 (trS S N B K k st).1) st' = fin) ∧ (B (btE B k) = 59 → pcS S N B K u (btE B k + 1) false st' = fin) ∧ (¬ B (btE B k) = 124 → ¬ B (btE B k) = 59 → st' = fin) := by
  rw [pcS, hs] at hF
  refine ⟨fun q => ?_, fun q => ?_, fun q1 q2 => ?_⟩
  · rw [iF_p q] at hF; exact hF
  · rw [iF_n (by rw [q]; decide), iF_p q] at hF; exact hF
  · rw [iF_n q1, iF_n q2] at hF; exact hF
theorem m_rT_l {sg0 : sg_T} {t n R C n0 N e : Nat} (hT : rcT sg0 t n R C n0) (ih : rtX sg0 t N e) {st0 : rs_T} {d kc ks o : Nat} {vi : Int32} {fin : rs_T} (hd : 34 + 4 * e ≤ d) (ho : o + e = 6) : ∀ (u : Nat), rtL sg0 t n N e st0 d kc ks o vi fin u := by
  intro u
  induction u with
  | zero => intro k vk b h sg st hI hv hg hL hF hB hk hu; exact absurd hu (by omega)
  | succ u ih' =>
    intro k vk b h sg st hI hv hg hL hF hB hk hu
    refine am_go ok_X12_runsTactic [10, 28, 38] 71 ?_
    refine ⟨fun c12 => absurd c12 (by decide), fun _ => ?_⟩
    refine ⟨fun c16 => ?_, fun c16 => ?_⟩
    · have h0 : h = true := by cases h; exact absurd rfl c16; rfl
      subst h0
      obtain ⟨f1, f2, f3⟩ := pc_1 (st' := st) (iF_p rfl) hF
      first
      | exact m_rT_f rfl (m_rT_z hT (h := false) (by omega) ih' g hv hg (hL.tr l1) (fun q => by have := f1 q; rw [qb] at this; exact this) f2 f3 (by rw [grw_tr hL l1, ← hB]; exact ⟨Or.inl, fun z => z.elim id (fun w => absurd (qb.symm.trans (gw_t.mpr w)) (by decide))⟩) hu)
      | exact m_rT_t rfl (m_rT_z hT (h := true) (by omega) ih' hI hv hg hL (fun q => f1 q) f2 f3 hB hu)
    · have h0 : h = false := bI_0.mp c16
      subst h0
      refine ⟨_, rfl, d - 1, 0, 0, _, by omega, Nat.le_of_ble_eq_true rfl, Nat.le_of_ble_eq_true rfl, Nat.le_of_ble_eq_true rfl, m_runsTry hT ih (by omega) ho hv hg hI, ?_⟩
      rintro _ _ ⟨rfl, s2, rfl, g⟩
      refine ⟨Or.inl rfl, ?_⟩
      have l1 : leF st.1 (trS (syP (sg0 1) (sg0 1 0)) N (bA (sg0 1) t) (taS (syP (sg0 1) (sg0 1 0)) N (bA (sg0 1) t) e) k st).1 := (srS_le (taS_le e) 751 st hI.2.2.1).1
      obtain ⟨f1, f2, f3⟩ := pc_1 (st' := (trS (syP (sg0 1) (sg0 1 0)) N (bA (sg0 1) t) (taS (syP (sg0 1) (sg0 1 0)) N (bA (sg0 1) t) e) k st)) (iF_n (by decide)) hF
      refine ⟨fun c25 => ?_, fun c25 => ?_⟩
      · have qb : gwB st.1 (trS (syP (sg0 1) (sg0 1 0)) N (bA (sg0 1) t) (taS (syP (sg0 1) (sg0 1 0)) N (bA (sg0 1) t) e) k st).1 = true := by
          cases e9 : gwB st.1 (trS (syP (sg0 1) (sg0 1 0)) N (bA (sg0 1) t) (taS (syP (sg0 1) (sg0 1 0)) N (bA (sg0 1) t) e) k st).1 with
          | true => rfl
          | false => rw [e9] at c25; exact absurd rfl c25
        exact m_rT_z hT (h := true) (by omega) ih' g hv hg (hL.tr l1) (fun q => by have := f1 q; rw [qb] at this; exact this) f2 f3 (by rw [grw_tr hL l1]; exact ⟨fun _ => Or.inr (gw_t.mp qb), fun _ => Or.inr rfl⟩) hu
      · have qb : gwB st.1 (trS (syP (sg0 1) (sg0 1 0)) N (bA (sg0 1) t) (taS (syP (sg0 1) (sg0 1 0)) N (bA (sg0 1) t) e) k st).1 = false := bI_0.mp c25
        first
        | exact m_rT_f rfl (m_rT_z hT (h := false) (by omega) ih' g hv hg (hL.tr l1) (fun q => by have := f1 q; rw [qb] at this; exact this) f2 f3 (by rw [grw_tr hL l1, ← hB]; exact ⟨Or.inl, fun z => z.elim id (fun w => absurd (qb.symm.trans (gw_t.mpr w)) (by decide))⟩) hu)
        | exact m_rT_t rfl (m_rT_z hT (h := true) (by omega) ih' hI hv hg hL (fun q => f1 q) f2 f3 hB hu)
theorem m_runsTactic {sg0 : sg_T} {t n R C n0 N e : Nat} (hT : rcT sg0 t n R C n0) (ih : rtX sg0 t N e) : rtX sg0 t N (e + 1) := by
  intro sg st d i o vi hd ho hv hg hI
  refine am_Met.of rfl (Nat.le_of_ble_eq_true rfl) ?_
  refine am_go ok_X12_runsTactic [10] 68 ?_
  have n1 := hT.2.2.2.1
  exact m_rT_l hT ih (by omega) (by omega) 120 i vi false false sg st hI hv hg leF.rf rfl ⟨fun z => z.elim (fun w => absurd w (by decide)) (fun w => absurd w (by decide)), fun ⟨f, _, z1, z2⟩ => absurd (z1.symm.trans z2) (by decide)⟩ (bt_ok hT.2.2.2 hg).1 (by omega)
theorem m_runsT {sg0 : sg_T} {t n R C n0 N : Nat} (hT : rcT sg0 t n R C n0) : ∀ e, rtX sg0 t N e
  | 0 => fun sg st d i o vi hd ho hv hg hI => absurd (gd_6 hg).1 (by omega)
  | e + 1 => m_runsTactic hT (m_runsT hT e)
/-- what is found at first: the FACTS of PAPERS that aren't FALSE -/
noncomputable def baF (P : Nat → Int32) (n : Nat) : Nat → Bool := fun f => iF (f < 750 ∧ baP P n f) true false
theorem baF_t {P : Nat → Int32} {n f : Nat} : baF P n f = true ↔ (f < 750 ∧ baP P n f) := by
  unfold baF
  by_cases q : f < 750 ∧ baP P n f
  · rw [iF_p q]; exact ⟨fun _ => q, fun _ => rfl⟩
  · rw [iF_n q]; exact ⟨fun w => absurd w (by decide), fun w => absurd w q⟩
theorem b_iff {a b : Bool} (h : a = true ↔ b = true) : a = b := by
  cases a <;> cases b
  · rfl
  · exact absurd (h.mpr rfl) (by decide)
  · exact absurd (h.mp rfl) (by decide)
  · rfl
theorem baF_s {P : Nat → Int32} {n f0 f : Nat} (h0 : P (54 + n) = nI f0) (hf0 : f0 < 750) (hf : f < 750) : baF P (n + 1) f = (baF P n f || (decide (f = f0) && decide (P (94 + n) = 0))) := by
  apply b_iff
  rw [Bool.or_eq_true, Bool.and_eq_true, decide_eq_true_iff, decide_eq_true_iff, baF_t, baF_t]
  constructor
  · rintro ⟨_, k, k1, k2, k3⟩
    rcases (show k = n ∨ k < n by omega) with e | e
    · subst e
      exact Or.inr ⟨(nI_eq (by omega) (by omega)).mp (k3.symm.trans h0), k2⟩
    · exact Or.inl ⟨hf, k, e, k2, k3⟩
  · rintro (⟨_, k, k1, k2, k3⟩ | ⟨z1, z2⟩)
    · exact ⟨hf, k, by omega, k2, k3⟩
    · exact ⟨hf, n, by omega, z2, by rw [z1]; exact h0⟩
/-- the cells behind a run -/
def rnP (P : Nat → Int32) (F : Nat → Bool) : Nat → Int32 := fun j => if 2478 ≤ j ∧ j < 3228 then bI (F (j - 2478)) else upd P 9 1 j
noncomputable def rnE (P : Nat → Int32) (t n : Nat) : rs_T := taS (syP P (P 0)) n (bA P t) 7 0 (baF P (pn P 3), 0)
def rnA (P : Nat → Int32) (t w : Int32) : Prop := inI t 0 (P 6 - 1) ∧ inI w 0 1
def sp_run (P : Nat → Int32) (t n w v : Int32) (P' : Nat → Int32) : Prop := (¬ rnA P t w ∧ v = -1 ∧ P' = P) ∨ (rnA P t w ∧ ¬ inI n 1 200 ∧ v = -2 ∧ P' = P) ∨ (rnA P t w ∧ inI n 1 200 ∧ P' = rnP P (rnE P (cN t) (cN n)).1 ∧ ((w = 0 ∧ v = nI (cnN (rnE P (cN t) (cN n)).1 750)) ∨ (¬ w = 0 ∧ v = nI (rnE P (cN t) (cN n)).2)))
/-- found cells alone differ -/
def frR (sg sg' : sg_T) : Prop := (∀ a, a ≠ 1 → sg' a = sg a) ∧ ∀ j, ¬ (2478 ≤ j ∧ j < 3228) → sg' 1 j = sg 1 j
theorem frR.u {sg sg' : sg_T} {k : Nat} {x : Int32} (h : frR sg sg') (hk : k < 750) : frR sg (sg_u sg' 1 (2478 + k) x) := ⟨fun a ha => (sg_i ha).trans (h.1 a ha), fun j hj => (sg_j (by omega)).trans (h.2 j hj)⟩
theorem m_run_1 {sg0 : sg_T} {d kc ks : Nat} {Q : Option Value → am_H → Prop} {vt vn vw : Int32} {t5 : Option Value} (K : ∀ (sg : sg_T) (z : Int32), frR sg0 sg → (∀ f, f < 750 → sg 1 (2478 + f) = 0) → am_W mi_X12_run d Q kc ks 71 [some (.ref 0), some (.int vt), some (.int vn), some (.int vw), some (.int z), t5] [] (hm sg)) : ∀ (u k : Nat) (z : Int32) (sg : sg_T), z = nI k → frR sg0 sg → (∀ f, f < k → sg 1 (2478 + f) = 0) → k ≤ 750 → 750 < k + u → am_W mi_X12_run d Q kc ks 45 [some (.ref 0), some (.int vt), some (.int vn), some (.int vw), some (.int z), t5] [] (hm sg) := by
  intro u
  induction u with
  | zero => intro k z sg hz hF hA h1 h2; exact absurd h2 (by omega)
  | succ u ih =>
    intro k z sg hz hF hA h1 h2
    refine am_go ok_X12_run [45, 71] 72 ?_
    refine ⟨fun c50 => ?_, fun c50 => ?_⟩
    · rw [hz] at c50
      have k1 : k = 750 := by have := (nI_leI (a := 750) (by omega) (by omega)).mp c50; omega
      subst k1
      exact K sg _ hF hA
    · have k1 : k < 750 := by
        rcases Nat.lt_or_ge k 750 with q1 | q1
        · exact q1
        · exact absurd (by rw [hz]; exact (nI_leI (a := 750) (by omega) (by omega)).mpr q1) c50
      refine ⟨_, _, rfl, rfl, ?_⟩
      refine ⟨_, _, (2478 + k), rfl, (by rw [hz]; exact nI_add 2478 k), by omega, Nat.le_of_ble_eq_true rfl, ?_⟩
      rw [hm_a1]
      refine ih (k + 1) _ _ (by rw [hz, nI_1]) (hF.u k1) (fun f hf => ?_) (by omega) (by omega)
      rw [sg_ii]
      by_cases q : f = k
      · subst q; exact pk_us
      · rw [pk_un (by omega)]; exact hA f (by omega)
theorem m_run_2 {sg0 : sg_T} {d kc ks R C n0 : Nat} {Q : Option Value → am_H → Prop} {vt vn vw : Int32} {t5 : Option Value} (hW : wkA (sg0 1) R C n0) (hfl : flA (sg0 1)) (K : ∀ (sg : sg_T) (z : Int32), frR sg0 sg → (∀ f, f < 750 → sg 1 (2478 + f) = bI (baF (sg0 1) n0 f)) → am_W mi_X12_run d Q kc ks 125 [some (.ref 0), some (.int vt), some (.int vn), some (.int vw), some (.int z), t5] [] (hm sg)) : ∀ (u k : Nat) (z : Int32) (sg : sg_T), z = nI k → frR sg0 sg → (∀ f, f < 750 → sg 1 (2478 + f) = bI (baF (sg0 1) k f)) → k ≤ n0 → n0 < k + u → am_W mi_X12_run d Q kc ks 74 [some (.ref 0), some (.int vt), some (.int vn), some (.int vw), some (.int z), t5] [] (hm sg) := by
  intro u
  induction u with
  | zero => intro k z sg hz hF hA h1 h2; exact absurd h2 (by omega)
  | succ u ih =>
    intro k z sg hz hF hA h1 h2
    refine am_go ok_X12_run [74, 125] 90 ?_
    have n20 := hW.2.2.2.2.2.2.2.1
    have w3 := hW.2.2.2.2.2.2.1
    refine ⟨_, _, rfl, rfl, ?_⟩
    refine ⟨_, _, 3, rfl, rfl, Nat.le_of_ble_eq_true rfl, Nat.le_of_ble_eq_true rfl, ?_⟩
    rw [hF.2 3 (by omega), w3]
    refine ⟨fun c82 => ?_, fun c82 => ?_⟩
    · rw [hz] at c82
      have k1 : k = n0 := by have := (nI_leI (by omega) (by omega)).mp c82; omega
      subst k1
      exact K sg _ hF hA
    · have k1 : k < n0 := by
        rcases Nat.lt_or_ge k n0 with q1 | q1
        · exact q1
        · exact absurd (by rw [hz]; exact (nI_leI (by omega) (by omega)).mpr q1) c82
      obtain ⟨f0, hf0, ef⟩ := hW.2.2.2.2.2.2.2.2.1 k k1
      refine ⟨_, _, rfl, rfl, ?_⟩
      refine ⟨_, _, rfl, rfl, ?_⟩
      refine ⟨_, _, (54 + k), rfl, (by rw [hz]; exact nI_add 54 k), by omega, Nat.le_of_ble_eq_true rfl, ?_⟩
      rw [hF.2 _ (by omega), ef]
      refine ⟨_, _, (2478 + f0), rfl, (nI_add 2478 f0), by omega, Nat.le_of_ble_eq_true rfl, ?_⟩
      rw [hA f0 hf0]
      refine ⟨_, _, rfl, rfl, ?_⟩
      refine ⟨_, _, (94 + k), rfl, (by rw [hz]; exact nI_add 94 k), by omega, Nat.le_of_ble_eq_true rfl, ?_⟩
      rw [hF.2 _ (by omega)]
      refine ⟨_, _, (2478 + f0), rfl, (nI_add 2478 f0), by omega, Nat.le_of_ble_eq_true rfl, ?_⟩
      rw [hm_a1]
      refine ih (k + 1) _ _ (by rw [hz, nI_1]) (hF.u hf0) (fun f hf => ?_) (by omega) (by omega)
      rw [sg_ii, baF_s ef hf0 hf]
      by_cases q : f = f0
      · subst q
        rw [pk_us]
        rcases hfl k (by omega) with w | w
        · rw [w, decide_eq_true (rfl : f = f), decide_eq_true (rfl : (0 : Int32) = 0)]; cases baF (sg0 1) k f <;> decide
        · rw [w, decide_eq_true (rfl : f = f), decide_eq_false (by decide : ¬ (1 : Int32) = 0)]; cases baF (sg0 1) k f <;> decide
      · rw [pk_un (by omega), hA f hf, decide_eq_false q, Bool.false_and, Bool.or_false]
theorem m_run_3 {sg : sg_T} {d kc ks : Nat} {Q : Option Value → am_H → Prop} {vt vn vw : Int32} {F : Nat → Bool} (hF : ∀ f, f < 750 → sg 1 (2478 + f) = bI (F f)) (K : ∀ (z : Int32), am_W mi_X12_run d Q kc ks 190 [some (.ref 0), some (.int vt), some (.int vn), some (.int vw), some (.int (nI (cnN F 750))), some (.int z)] [] (hm sg)) : ∀ (u k : Nat) (w z : Int32), z = nI k → w = nI (cnN F k) → k ≤ 750 → 750 < k + u → am_W mi_X12_run d Q kc ks 160 [some (.ref 0), some (.int vt), some (.int vn), some (.int vw), some (.int w), some (.int z)] [] (hm sg) := by
  intro u
  induction u with
  | zero => intro k w z hz hw h1 h2; exact absurd h2 (by omega)
  | succ u ih =>
    intro k w z hz hw h1 h2
    refine am_go ok_X12_run [160, 190] 74 ?_
    refine ⟨fun c165 => ?_, fun c165 => ?_⟩
    · rw [hz] at c165
      have k1 : k = 750 := by have := (nI_leI (a := 750) (by omega) (by omega)).mp c165; omega
      subst k1
      rw [hw]; exact K _
    · have k1 : k < 750 := by
        rcases Nat.lt_or_ge k 750 with q1 | q1
        · exact q1
        · exact absurd (by rw [hz]; exact (nI_leI (a := 750) (by omega) (by omega)).mpr q1) c165
      refine ⟨_, _, rfl, rfl, ?_⟩
      refine ⟨_, _, (2478 + k), rfl, (by rw [hz]; exact nI_add 2478 k), by omega, Nat.le_of_ble_eq_true rfl, ?_⟩
      rw [hF k k1]
      refine ih (k + 1) _ _ (by rw [hz, nI_1]) ?_ (by omega) (by omega)
      rw [hw]
      cases e : F k with
      | true => rw [cnN_t e]; exact nI_1 _
      | false => rw [cnN_f e]; exact Int32.add_zero _
theorem m_run_f {sg0 s2 : sg_T} {d kc ks t N : Nat} {vt vn vw z : Int32} (hA1 : rnA (sg0 1) vt vw) (hN : inI vn 1 200) (g : rsI sg0 t N s2 (rnE (sg0 1) (cN vt) (cN vn))) (eP : sg_u s2 1 9 1 1 = rnP (sg0 1) (rnE (sg0 1) (cN vt) (cN vn)).1) : am_W mi_X12_run d (fun r h' => ∃ v P', sp_run (sg0 1) vt vn vw v P' ∧ mOut sg0 v P' r h') kc ks 190 [some (.ref 0), some (.int vt), some (.int vn), some (.int vw), some (.int (nI (cnN (rnE (sg0 1) (cN vt) (cN vn)).1 750))), some (.int z)] [] (hm (sg_u s2 1 9 1)) := by
  refine am_go ok_X12_run [] 64 ?_
  have e2 : sg_u s2 1 9 1 2 = sg0 2 := (sg_i (by decide)).trans g.2.2.2.2.2.2.2.2.1
  have e0 : sg_u s2 1 9 1 0 2 = sg0 0 2 := by rw [sg_i (by decide)]; exact g.2.2.2.2.2.2.2.2.2
  refine ⟨fun c191 => ?_, fun c191 => ?_⟩
  · refine ⟨_, _, rfl, rfl, ?_⟩
    rw [sg_i (by decide), g.2.2.2.2.2.1]
    refine ⟨trivial, ?_⟩
    first
    | exact ⟨_, _, Or.inr (Or.inr ⟨hA1, hN, rfl, Or.inl ⟨c191, rfl⟩⟩), _, rfl, rfl, eP, e2, e0⟩
    | exact ⟨_, _, Or.inr (Or.inr ⟨hA1, hN, rfl, Or.inr ⟨c191, rfl⟩⟩), _, rfl, rfl, eP, e2, e0⟩
  · refine ⟨trivial, ?_⟩
    first
    | exact ⟨_, _, Or.inr (Or.inr ⟨hA1, hN, rfl, Or.inl ⟨c191, rfl⟩⟩), _, rfl, rfl, eP, e2, e0⟩
    | exact ⟨_, _, Or.inr (Or.inr ⟨hA1, hN, rfl, Or.inr ⟨c191, rfl⟩⟩), _, rfl, rfl, eP, e2, e0⟩
theorem m_run_e {sg0 sg : sg_T} {d kc ks t N n0 : Nat} {vt vn vw : Int32} {t4 t5 : Option Value} (hd : 100 ≤ d) {R C n : Nat} (hT : rcT sg0 t n R C n0) (et : vt = nI t) (eN : vn = nI N) (N2 : N ≤ 200) (hA1 : rnA (sg0 1) vt vw) (hN : inI vn 1 200) (hF : frR sg0 sg) (hA : ∀ f, f < 750 → sg 1 (2478 + f) = bI (baF (sg0 1) n0 f)) : am_W mi_X12_run d (fun r h' => ∃ v P', sp_run (sg0 1) vt vn vw v P' ∧ mOut sg0 v P' r h') kc ks 125 [some (.ref 0), some (.int vt), some (.int vn), some (.int vw), t4, t5] [] (hm sg) := by
  refine am_go ok_X12_run [160] 82 ?_
  have n20 := hT.1.2.2.2.2.2.2.2.1
  have w3 := hT.1.2.2.2.2.2.2.1
  have p3 := pn_of w3 (by omega)
  have t6 := hT.2.1
  refine ⟨_, rfl, Nat.le_of_ble_eq_true rfl, trivial, ?_⟩
  rw [hm_f0_11]
  refine ⟨_, rfl, Nat.le_of_ble_eq_true rfl, trivial, ?_⟩
  rw [hm_f0_12]
  refine ⟨_, rfl, Nat.le_of_ble_eq_true rfl, trivial, ?_⟩
  rw [hm_f0_13]
  have hI : rsI sg0 t N (sg_u (sg_u (sg_u sg 0 11 vt) 0 12 vn) 0 13 0) (baF (sg0 1) n0, 0) := by
    refine ⟨fun j hj => ?_, fun f hf => ?_, fun f hf => ?_, ?_, ?_, sg_s, by omega, N2, ?_, ?_⟩
    · rw [sg_i (by decide), sg_i (by decide), sg_i (by decide)]; exact hF.2 j hj
    · rw [sg_i (by decide), sg_i (by decide), sg_i (by decide)]; exact hA f hf
    · show baF (sg0 1) n0 f = false; unfold baF; rw [iF_n (fun z => by omega)]
    · rw [sg_j (by decide), sg_j (by decide), sg_s]; exact et
    · rw [sg_j (by decide), sg_s]; exact eN
    · rw [sg_i (by decide), sg_i (by decide), sg_i (by decide)]; exact hF.1 2 (by decide)
    · rw [sg_j (by decide), sg_j (by decide), sg_j (by decide), hF.1 0 (by decide)]
  generalize sg_u (sg_u (sg_u sg 0 11 vt) 0 12 vn) 0 13 0 = s1 at hI ⊢
  refine ⟨_, rfl, d - 1, 0, 0, _, by omega, Nat.le_of_ble_eq_true rfl, Nat.le_of_ble_eq_true rfl, Nat.le_of_ble_eq_true rfl, m_runsT hT 7 s1 _ (d - 1) 0 0 0 (by omega) rfl rfl ⟨rfl, rfl⟩ hI, ?_⟩
  rintro _ _ ⟨rfl, s2, rfl, g⟩
  refine ⟨Or.inl rfl, ?_⟩
  have ee : rnE (sg0 1) (cN vt) (cN vn) = taS (syP (sg0 1) (sg0 1 0)) N (bA (sg0 1) t) 7 0 (baF (sg0 1) n0, 0) := by unfold rnE; rw [p3, cN_of et (by omega), cN_of eN (by omega)]
  rw [← ee] at g
  refine ⟨_, _, rfl, rfl, ?_⟩
  refine ⟨_, _, 9, rfl, rfl, Nat.le_of_ble_eq_true rfl, Nat.le_of_ble_eq_true rfl, ?_⟩
  rw [hm_a1]
  have g2 : ∀ f, f < 750 → sg_u s2 1 9 1 1 (2478 + f) = bI ((rnE (sg0 1) (cN vt) (cN vn)).1 f) := fun f hf => (sg_j (by omega)).trans (g.2.1 f hf)
  refine m_run_3 g2 (fun z => ?_) 751 0 0 0 rfl rfl (by omega) (by omega)
  have eP : sg_u s2 1 9 1 1 = rnP (sg0 1) (rnE (sg0 1) (cN vt) (cN vn)).1 := by
    funext j
    unfold rnP
    by_cases q : 2478 ≤ j ∧ j < 3228
    · rw [if_pos q]
      have := g2 (j - 2478) (by omega)
      rw [show 2478 + (j - 2478) = j by omega] at this
      exact this
    · rw [if_neg q, sg_ii]
      by_cases q2 : j = 9
      · rw [q2, pk_us, pk_us]
      · rw [pk_un q2, pk_un q2]; exact g.1 j q
  exact m_run_f hA1 hN g eP
theorem m_run {sg : sg_T} {d : Nat} (hd : 460 ≤ d) {R C n0 T : Nat} (hW : wkA (sg 1) R C n0) (hfl : flA (sg 1)) (h6 : sg 1 6 = nI T) (T6 : T ≤ 6) (hA : ∀ t, t < T → tcA (sg 1) t) (t n w : Int32) : am_Met mi_X12_run d 0 0 [.ref 0, .int t, .int n, .int w] (hm sg) (fun r h' => ∃ v P', sp_run (sg 1) t n w v P' ∧ mOut sg v P' r h') := by
  refine am_Met.of rfl (Nat.le_of_ble_eq_true rfl) ?_
  refine am_go ok_X12_run [45] 82 ?_
  refine ⟨_, _, rfl, rfl, ?_⟩
  refine ⟨_, _, 6, rfl, rfl, Nat.le_of_ble_eq_true rfl, Nat.le_of_ble_eq_true rfl, ?_⟩
  refine ⟨d - 1, 0, 0, _, by omega, Nat.le_of_ble_eq_true rfl, Nat.le_of_ble_eq_true rfl, Nat.le_of_ble_eq_true rfl, m_in (d - 1) t 0 _, ?_⟩
  rintro _ _ ⟨rfl, rfl⟩
  refine ⟨Or.inl rfl, ?_⟩
  refine ⟨fun c14 => ?_, fun c14 => ?_⟩
  · exact ⟨trivial, _, _, Or.inl ⟨fun z => bI_f c14 z.1, rfl, rfl⟩, mOut_s rfl⟩
  · refine ⟨d - 1, 0, 0, _, by omega, Nat.le_of_ble_eq_true rfl, Nat.le_of_ble_eq_true rfl, Nat.le_of_ble_eq_true rfl, m_in (d - 1) w 0 1, ?_⟩
    rintro _ _ ⟨rfl, rfl⟩
    refine ⟨Or.inl rfl, ?_⟩
    refine ⟨fun c23 => ?_, fun c23 => ?_⟩
    · refine ⟨d - 1, 0, 0, _, by omega, Nat.le_of_ble_eq_true rfl, Nat.le_of_ble_eq_true rfl, Nat.le_of_ble_eq_true rfl, m_in (d - 1) n 1 200, ?_⟩
      rintro _ _ ⟨rfl, rfl⟩
      refine ⟨Or.inl rfl, ?_⟩
      refine ⟨fun c36 => ?_, fun c36 => ?_⟩
      · obtain ⟨tt, et, -, tl⟩ := ix_at h6 (by omega) (show inI t 0 (sg 1 6 - 1) from bI_t c14)
        have hN : inI n 1 200 := bI_t c36
        obtain ⟨N, eN, -, N2⟩ := ix_c (v := n) (m := 200) (by omega) ⟨Int32.le_trans (by decide) hN.1, hN.2⟩
        obtain ⟨k, m, k1, kn, m1, kg⟩ := hA tt tl
        refine m_run_1 (sg0 := sg) (fun s1 z1 hF1 hA1 => ?_) 751 0 0 sg rfl ⟨fun _ _ => rfl, fun _ _ => rfl⟩ (fun f hf => absurd hf (by omega)) (by omega) (by omega)
        refine am_go ok_X12_run [74] 70 ?_
        refine m_run_2 (sg0 := sg) hW hfl (fun s2 z2 hF2 hA2 => ?_) (n0 + 1) 0 0 s1 rfl hF1 (fun f hf => ?_) (by omega) (by omega)
        · exact m_run_e (by omega) ⟨hW, by omega, kn, tcA_W k1 kn m1 kg⟩ et eN N2 ⟨bI_t c14, bI_t c23⟩ hN hF2 hA2
        · rw [hA1 f hf]; unfold baF; rw [iF_n (fun ⟨_, k, hk, _⟩ => absurd hk (by omega))]; rfl
      · exact ⟨trivial, _, _, Or.inr (Or.inl ⟨⟨bI_t c14, bI_t c23⟩, bI_f c36, rfl, rfl⟩), mOut_s rfl⟩
    · exact ⟨trivial, _, _, Or.inl ⟨fun z => bI_f c23 z.2, rfl, rfl⟩, mOut_s rfl⟩
