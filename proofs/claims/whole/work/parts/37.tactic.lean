/-! TACTICS: reading. (o, m): how many are open; 0 a TRY is wanted, 1 behind a TRY, 2 behind its star -/
def dlR (o m : Nat) (c : Int32) (o' m' : Nat) : Prop := (m = 0 ∧ c = 40 ∧ o < 6 ∧ o' = o + 1 ∧ m' = 0) ∨ (m = 0 ∧ (48 ≤ c ∧ c ≤ 55) ∧ o' = o ∧ m' = 1) ∨ (m = 1 ∧ c = 42 ∧ o' = o ∧ m' = 2) ∨ (1 ≤ m ∧ c = 41 ∧ 0 < o ∧ o' + 1 = o ∧ m' = 1) ∨ (1 ≤ m ∧ (c = 59 ∨ c = 124) ∧ o' = o ∧ m' = 0)
/-- a place is reached so -/
def gd (H : Nat → Int32) : Nat → Nat → Nat → Prop
  | 0, o, m => o = 0 ∧ m = 0
  | k + 1, o, m => ∃ o1 m1, gd H k o1 m1 ∧ dlR o1 m1 (H k) o m
theorem dlR_6 {o m o' m' : Nat} {c : Int32} (h : dlR o m c o' m') (h6 : o ≤ 6 ∧ m ≤ 2) : o' ≤ 6 ∧ m' ≤ 2 := by
  rcases h with h | h | h | h | h <;> omega
theorem gd_6 {H : Nat → Int32} : ∀ {k o m : Nat}, gd H k o m → o ≤ 6 ∧ m ≤ 2
  | 0, _, _, h => by rw [gd] at h; omega
  | k + 1, _, _, h => by obtain ⟨o1, m1, h1, h2⟩ := h; exact dlR_6 h2 (gd_6 h1)
def stk (H : Nat → Int32) (b o m : Nat) : Prop := ∀ o' m', ¬ dlR o m (H b) o' m'
theorem dlR_c {o m o' m' : Nat} {c : Int32} (h : dlR o m c o' m') : ¬ c = -1 := by
  rintro rfl
  rcases h with h | h | h | h | h
  · exact absurd h.2.1 (by decide)
  · exact absurd h.2.1 (by decide)
  · exact absurd h.2.1 (by decide)
  · exact absurd h.2.1 (by decide)
  · exact absurd h.2.1 (by decide)
theorem hr_m1 {P : Nat → Int32} {a : Nat} (h : ¬ hr P a = -1) : a < pn P 8 := by
  unfold hr at h
  rcases Nat.lt_or_ge a (pn P 8) with q | q
  · exact q
  · rw [if_neg (by omega)] at h; exact absurd rfl h
theorem gd_le {P : Nat → Int32} : ∀ {k o m : Nat}, gd (hr P) k o m → k ≤ pn P 8
  | 0, _, _, _ => Nat.zero_le _
  | k + 1, _, _, h => by obtain ⟨o1, m1, -, h2⟩ := h; exact hr_m1 (dlR_c h2)
theorem nI_pm (k : Nat) : nI (k + 1) - 1 = nI k := by
  have e : nI (k + 1) = nI k + 1 := (nI_1 k).symm
  rw [e]; exact Int32.add_sub_cancel _ _
def frA (sg sg' : sg_T) : Prop := (∀ a, 1 ≤ a → sg' a = sg a) ∧ ∀ i, i ≠ 3 → i ≠ 4 → i ≠ 10 → sg' 0 i = sg 0 i
theorem frA.rf {sg : sg_T} : frA sg sg := ⟨fun _ _ => rfl, fun _ _ _ _ => rfl⟩
theorem frA.tr {a b c : sg_T} (h : frA a b) (g : frA b c) : frA a c := ⟨fun i hi => (g.1 i hi).trans (h.1 i hi), fun i x y z => (g.2 i x y z).trans (h.2 i x y z)⟩
theorem frA.u {sg sg' : sg_T} {i : Nat} {x : Int32} (h : frA sg sg') (hi : i = 3 ∨ i = 4 ∨ i = 10) : frA sg (sg_u sg' 0 i x) :=
  ⟨fun a ha => (sg_i (by omega)).trans (h.1 a ha), fun j x y z => (sg_j (by omega)).trans (h.2 j x y z)⟩
/-- how a reading of a tactic's piece ends -/
def tcQ (ex : Int32 → Prop) (a o : Nat) (sg0 sg : sg_T) : Prop := frA sg0 sg ∧ ∃ b, a ≤ b ∧ sg 0 3 = nI b ∧ sg 0 10 = nI o ∧ ((sg 0 4 = 0 ∧ ∃ m, 1 ≤ m ∧ gd (hr (sg0 1)) b o m ∧ (m = 2 ∨ ¬ hr (sg0 1) b = 42) ∧ ex (hr (sg0 1) b)) ∨ (sg 0 4 = 1 ∧ ∃ o' m', gd (hr (sg0 1)) b o' m' ∧ stk (hr (sg0 1)) b o' m' ∧ (m' = 0 ∨ 0 < o')))
def tcI (a o : Nat) (sg : sg_T) : Prop := tpO (sg 1) ∧ sg 0 3 = nI a ∧ sg 0 4 = 0 ∧ sg 0 10 = nI o ∧ gd (hr (sg 1)) a o 0
theorem tcI.le {a o : Nat} {sg : sg_T} (h : tcI a o sg) : a ≤ 120 := Nat.le_trans (gd_le h.2.2.2.2) (tp_n h.1).2
abbrev tcX (mi : am_MI) (c j : Nat) (ex : Int32 → Prop) : Prop := ∀ (sg0 : sg_T) (d a o : Nat), c + 3 * j ≤ d → 6 ≤ o + j → tcI a o sg0 → am_Met mi d 0 0 [.ref 0] (hm sg0) (fun r h' => r = none ∧ ∃ sg, h' = hm sg ∧ tcQ ex a o sg0 sg)
theorem fA_hr {sg sg' : sg_T} (h : frA sg sg') : hr (sg' 1) = hr (sg 1) := by rw [h.1 1 (by omega)]
theorem m_readsTry_e {sg0 sg : sg_T} {d kc ks : Nat} (hd : 1 ≤ d) {a b o : Nat} {t1 : Option Value} (ht : tpO (sg0 1)) (hF : frA sg0 sg) (ab : a ≤ b) (h3 : sg 0 3 = nI b) (h10 : sg 0 10 = nI o) (hz : (sg 0 4 = 0 ∧ gd (hr (sg0 1)) b o 1) ∨ (sg 0 4 = 1 ∧ ∃ o' m', gd (hr (sg0 1)) b o' m' ∧ stk (hr (sg0 1)) b o' m' ∧ (m' = 0 ∨ 0 < o'))) : am_W mi_X12_readsTry d (fun r h' => r = none ∧ ∃ sg, h' = hm sg ∧ tcQ (fun _ => True) a o sg0 sg) kc ks 100 [some (.ref 0), t1] [] (hm sg) := by
  refine am_go ok_X12_readsTry [] 73 ?_
  have b1 : b ≤ 120 := by
    rcases hz with ⟨-, z⟩ | ⟨-, o', m', z, -⟩
    · exact Nat.le_trans (gd_le z) (tp_n ht).2
    · exact Nat.le_trans (gd_le z) (tp_n ht).2
  have ht' : tpO (sg 1) := by rw [hF.1 1 (by omega)]; exact ht
  have e : hV sg = hr (sg0 1) b := by rw [hV_h h3 (by omega) ht', fA_hr hF]
  refine ⟨_, _, rfl, rfl, ?_⟩
  refine ⟨fun c104 => ?_, fun c104 => ?_⟩
  · refine ⟨rfl, sg, rfl, hF, b, ab, h3, h10, Or.inr ?_⟩
    rcases hz with ⟨z, -⟩ | z
    · exact absurd z c104
    · exact z
  · have hg : gd (hr (sg0 1)) b o 1 := by
      rcases hz with ⟨-, z⟩ | ⟨z, -⟩
      · exact z
      · rw [c104] at z; exact absurd z (by decide)
    refine ⟨_, rfl, d - 1, 0, 0, _, by omega, Nat.le_of_ble_eq_true rfl, Nat.le_of_ble_eq_true rfl, Nat.le_of_ble_eq_true rfl, m_here (d - 1) ⟨b, by omega, h3⟩, ?_⟩
    rintro _ _ ⟨rfl, rfl⟩
    refine ⟨Or.inl rfl, ?_⟩
    refine ⟨fun c113 => ?_, fun c113 => ?_⟩
    · exact ⟨rfl, sg, rfl, hF, b, ab, h3, h10, Or.inl ⟨c104, 1, by omega, hg, Or.inr (by rw [← e]; exact c113), trivial⟩⟩
    · refine ⟨_, _, rfl, rfl, ?_⟩
      refine ⟨_, rfl, Nat.le_of_ble_eq_true rfl, trivial, ?_⟩
      rw [hm_f0_3]
      exact ⟨rfl, _, rfl, hF.u (Or.inl rfl), b + 1, by omega, by rw [sg_s, h3, nI_1], by rw [sg_j (by decide)]; exact h10, Or.inl ⟨by rw [sg_j (by decide)]; exact c104, 2, by omega, ⟨o, 1, hg, Or.inr (Or.inr (Or.inl ⟨rfl, by rw [← e]; exact c113, rfl, rfl⟩))⟩, Or.inl rfl, trivial⟩⟩
theorem m_readsTry {j : Nat} (ih : ∀ i, j = i + 1 → tcX mi_X12_readsTactic 5 i (fun c => ¬ c = 124 ∧ ¬ c = 59)) : tcX mi_X12_readsTry 3 j (fun _ => True) := by
  intro sg0 d a o hd hj hI
  have a1 := hI.le
  refine am_Met.of rfl (Nat.le_of_ble_eq_true rfl) ?_
  refine am_go ok_X12_readsTry [100] 102 ?_
  have h3 := hI.2.1; have h4 := hI.2.2.1; have h10 := hI.2.2.2.1; have hg := hI.2.2.2.2
  have e : hV sg0 = hr (sg0 1) a := hV_h h3 (by omega) hI.1
  have o6 := (gd_6 hg).1
  refine ⟨_, rfl, d - 1, 0, 0, _, by omega, Nat.le_of_ble_eq_true rfl, Nat.le_of_ble_eq_true rfl, Nat.le_of_ble_eq_true rfl, m_here (d - 1) ⟨a, by omega, h3⟩, ?_⟩
  rintro _ _ ⟨rfl, rfl⟩
  refine ⟨Or.inl rfl, ?_⟩
  refine ⟨_, _, rfl, rfl, ?_⟩
  refine ⟨fun _ => ?_, fun c9 => absurd h4 c9⟩
  refine ⟨d - 1, 0, 0, _, by omega, Nat.le_of_ble_eq_true rfl, Nat.le_of_ble_eq_true rfl, Nat.le_of_ble_eq_true rfl, m_in (d - 1) _ 48 55, ?_⟩
  rintro _ _ ⟨rfl, rfl⟩
  refine ⟨Or.inl rfl, ?_⟩
  refine ⟨fun c21 => ?_, fun c21 => ?_⟩
  · have hc : ¬ (48 ≤ hr (sg0 1) a ∧ hr (sg0 1) a ≤ 55) := by rw [← e]; exact bI_f c21
    refine ⟨fun c40 => ?_, fun c40 => ?_⟩
    · have hs : stk (hr (sg0 1)) a o 0 := by
        rintro o' m' (z | z | z | z | z)
        · exact c40 (by rw [e]; exact z.2.1)
        · exact hc z.2.1
        · exact absurd z.1 (by decide)
        · exact absurd z.1 (by decide)
        · exact absurd z.1 (by decide)
      refine ⟨_, rfl, Nat.le_of_ble_eq_true rfl, ⟨rfl, rfl⟩, ?_⟩
      rw [hm_f0_4]
      first
      | exact m_readsTry_e (b := a) (by omega) hI.1 (frA.rf.u (Or.inr (Or.inl rfl))) (Nat.le_refl _) (by rw [sg_j (by decide)]; exact h3) (by rw [sg_j (by decide)]; exact h10) (Or.inr ⟨sg_s, o, 0, hg, hs, Or.inl rfl⟩)
      | exact m_readsTry_e (b := a + 1) (by omega) hI.1 (frA.rf.u (Or.inl rfl)) (by omega) (by rw [sg_s, h3, nI_1]) (by rw [sg_j (by decide)]; exact h10) (Or.inl ⟨by rw [sg_j (by decide)]; exact h4, o, 0, hg, Or.inr (Or.inl ⟨rfl, hc, rfl, rfl⟩)⟩)
      | exact m_readsTry_e (b := b') (by omega) hI.1 (qF.u (Or.inr (Or.inr rfl))) ab' (by rw [sg_j (by decide)]; exact q3) (by rw [sg_s]; exact nI_pm o) (by rw [sg_j (by decide)]; exact qz)
    · refine ⟨_, _, rfl, rfl, ?_⟩
      rw [h10]
      refine ⟨fun c49 => ?_, fun c49 => ?_⟩
      · have o7 : 6 ≤ o := (nI_leI (a := 6) (by omega) (by omega)).mp c49
        have hs : stk (hr (sg0 1)) a o 0 := by
          rintro o' m' (z | z | z | z | z)
          · have := z.2.2.1; omega
          · exact hc z.2.1
          · exact absurd z.1 (by decide)
          · exact absurd z.1 (by decide)
          · exact absurd z.1 (by decide)
        refine ⟨_, rfl, Nat.le_of_ble_eq_true rfl, ⟨rfl, rfl⟩, ?_⟩
        rw [hm_f0_4]
        first
        | exact m_readsTry_e (b := a) (by omega) hI.1 (frA.rf.u (Or.inr (Or.inl rfl))) (Nat.le_refl _) (by rw [sg_j (by decide)]; exact h3) (by rw [sg_j (by decide)]; exact h10) (Or.inr ⟨sg_s, o, 0, hg, hs, Or.inl rfl⟩)
        | exact m_readsTry_e (b := a + 1) (by omega) hI.1 (frA.rf.u (Or.inl rfl)) (by omega) (by rw [sg_s, h3, nI_1]) (by rw [sg_j (by decide)]; exact h10) (Or.inl ⟨by rw [sg_j (by decide)]; exact h4, o, 0, hg, Or.inr (Or.inl ⟨rfl, hc, rfl, rfl⟩)⟩)
        | exact m_readsTry_e (b := b') (by omega) hI.1 (qF.u (Or.inr (Or.inr rfl))) ab' (by rw [sg_j (by decide)]; exact q3) (by rw [sg_s]; exact nI_pm o) (by rw [sg_j (by decide)]; exact qz)
      · have o7 : o < 6 := by
          rcases Nat.lt_or_ge o 6 with q | q
          · exact q
          · exact absurd ((nI_leI (a := 6) (by omega) (by omega)).mpr q) c49
        obtain ⟨i, hi⟩ : ∃ i, j = i + 1 := ⟨j - 1, by omega⟩
        refine ⟨_, _, rfl, rfl, ?_⟩
        rw [h10]
        refine ⟨_, rfl, Nat.le_of_ble_eq_true rfl, trivial, ?_⟩
        rw [hm_f0_10]
        refine ⟨_, _, rfl, rfl, ?_⟩
        refine ⟨_, rfl, Nat.le_of_ble_eq_true rfl, trivial, ?_⟩
        rw [hm_f0_3]
        have hI2 : tcI (a + 1) (o + 1) (sg_u (sg_u sg0 0 10 (nI o + 1)) 0 3 (sg_u sg0 0 10 (nI o + 1) 0 3 + 1)) := ⟨by rw [sg_i (by decide), sg_i (by decide)]; exact hI.1, by rw [sg_s, sg_j (by decide), h3, nI_1], by rw [sg_j (by decide), sg_j (by decide)]; exact h4, by rw [sg_j (by decide), sg_s, nI_1], by rw [sg_i (by decide), sg_i (by decide)]; exact ⟨o, 0, hg, Or.inl ⟨rfl, by rw [← e]; exact c40, o7, rfl, rfl⟩⟩⟩
        have hF1 : frA sg0 (sg_u (sg_u sg0 0 10 (nI o + 1)) 0 3 (sg_u sg0 0 10 (nI o + 1) 0 3 + 1)) := (frA.rf.u (Or.inr (Or.inr rfl))).u (Or.inl rfl)
        generalize sg_u (sg_u sg0 0 10 (nI o + 1)) 0 3 (sg_u sg0 0 10 (nI o + 1) 0 3 + 1) = s1 at hI2 hF1 ⊢
        refine ⟨_, rfl, d - 1, 0, 0, _, by omega, Nat.le_of_ble_eq_true rfl, Nat.le_of_ble_eq_true rfl, Nat.le_of_ble_eq_true rfl, ih i hi s1 (d - 1) (a + 1) (o + 1) (by omega) (by omega) hI2, ?_⟩
        rintro _ _ ⟨rfl, s2, rfl, gF, b, ab, g3, g10, gz⟩
        refine ⟨Or.inl rfl, ?_⟩
        rw [fA_hr hF1] at gz
        have hF2 := hF1.tr gF
        have b1 : b ≤ 120 := by
          rcases gz with ⟨-, m, -, z, -⟩ | ⟨-, o', m', z, -⟩
          · exact Nat.le_trans (gd_le z) (tp_n hI.1).2
          · exact Nat.le_trans (gd_le z) (tp_n hI.1).2
        have e2 : hV s2 = hr (sg0 1) b := by rw [hV_h g3 (by omega) (by rw [hF2.1 1 (by omega)]; exact hI.1), fA_hr hF2]
        refine ⟨_, rfl, d - 1, 0, 0, _, by omega, Nat.le_of_ble_eq_true rfl, Nat.le_of_ble_eq_true rfl, Nat.le_of_ble_eq_true rfl, m_eats (by omega) ⟨b, by omega, g3⟩ 41, ?_⟩
        rintro _ _ ⟨rfl, rfl⟩
        refine ⟨Or.inl rfl, ?_⟩
        have hq : frA sg0 (eaF 41 s2) ∧ eaF 41 s2 0 10 = nI (o + 1) ∧ ∃ b', a ≤ b' ∧ eaF 41 s2 0 3 = nI b' ∧ ((eaF 41 s2 0 4 = 0 ∧ gd (hr (sg0 1)) b' o 1) ∨ (eaF 41 s2 0 4 = 1 ∧ ∃ o' m', gd (hr (sg0 1)) b' o' m' ∧ stk (hr (sg0 1)) b' o' m' ∧ (m' = 0 ∨ 0 < o'))) := by
          unfold eaF
          rw [e2]
          rcases gz with ⟨z4, m, m1, zg, zs, zx⟩ | ⟨z4, z⟩
          · by_cases q : hr (sg0 1) b = 41
            · rw [if_pos ⟨z4, q⟩]
              exact ⟨hF2.u (Or.inl rfl), by rw [sg_j (by decide)]; exact g10, b + 1, by omega, by rw [sg_s, g3, nI_1], Or.inl ⟨by rw [sg_j (by decide)]; exact z4, o + 1, m, zg, Or.inr (Or.inr (Or.inr (Or.inl ⟨m1, q, by omega, rfl, rfl⟩)))⟩⟩
            · rw [if_neg (fun z => q z.2)]
              refine ⟨hF2.u (Or.inr (Or.inl rfl)), by rw [sg_j (by decide)]; exact g10, b, by omega, by rw [sg_j (by decide)]; exact g3, Or.inr ⟨sg_s, o + 1, m, zg, ?_, Or.inr (by omega)⟩⟩
              rintro o' m' (z | z | z | z | z)
              · omega
              · omega
              · rcases zs with zs | zs
                · omega
                · exact zs z.2.1
              · exact q z.2.1
              · rcases z.2.1 with w | w
                · exact zx.2 w
                · exact zx.1 w
          · rw [if_neg (fun w => by rw [z4] at w; exact absurd w.1 (by decide))]
            exact ⟨hF2.u (Or.inr (Or.inl rfl)), by rw [sg_j (by decide)]; exact g10, b, by omega, by rw [sg_j (by decide)]; exact g3, Or.inr ⟨sg_s, z⟩⟩
        generalize eaF 41 s2 = s3 at hq ⊢
        obtain ⟨qF, q10, b', ab', q3, qz⟩ := hq
        refine ⟨_, _, rfl, rfl, ?_⟩
        rw [q10]
        refine ⟨_, rfl, Nat.le_of_ble_eq_true rfl, trivial, ?_⟩
        rw [hm_f0_10]
        first
        | exact m_readsTry_e (b := a) (by omega) hI.1 (frA.rf.u (Or.inr (Or.inl rfl))) (Nat.le_refl _) (by rw [sg_j (by decide)]; exact h3) (by rw [sg_j (by decide)]; exact h10) (Or.inr ⟨sg_s, o, 0, hg, hs, Or.inl rfl⟩)
        | exact m_readsTry_e (b := a + 1) (by omega) hI.1 (frA.rf.u (Or.inl rfl)) (by omega) (by rw [sg_s, h3, nI_1]) (by rw [sg_j (by decide)]; exact h10) (Or.inl ⟨by rw [sg_j (by decide)]; exact h4, o, 0, hg, Or.inr (Or.inl ⟨rfl, hc, rfl, rfl⟩)⟩)
        | exact m_readsTry_e (b := b') (by omega) hI.1 (qF.u (Or.inr (Or.inr rfl))) ab' (by rw [sg_j (by decide)]; exact q3) (by rw [sg_s]; exact nI_pm o) (by rw [sg_j (by decide)]; exact qz)
  · have hc : 48 ≤ hr (sg0 1) a ∧ hr (sg0 1) a ≤ 55 := by rw [← e]; exact bI_t c21
    refine ⟨_, _, rfl, rfl, ?_⟩
    refine ⟨_, rfl, Nat.le_of_ble_eq_true rfl, trivial, ?_⟩
    rw [hm_f0_3]
    first
    | exact m_readsTry_e (b := a) (by omega) hI.1 (frA.rf.u (Or.inr (Or.inl rfl))) (Nat.le_refl _) (by rw [sg_j (by decide)]; exact h3) (by rw [sg_j (by decide)]; exact h10) (Or.inr ⟨sg_s, o, 0, hg, hs, Or.inl rfl⟩)
    | exact m_readsTry_e (b := a + 1) (by omega) hI.1 (frA.rf.u (Or.inl rfl)) (by omega) (by rw [sg_s, h3, nI_1]) (by rw [sg_j (by decide)]; exact h10) (Or.inl ⟨by rw [sg_j (by decide)]; exact h4, o, 0, hg, Or.inr (Or.inl ⟨rfl, hc, rfl, rfl⟩)⟩)
    | exact m_readsTry_e (b := b') (by omega) hI.1 (qF.u (Or.inr (Or.inr rfl))) ab' (by rw [sg_j (by decide)]; exact q3) (by rw [sg_s]; exact nI_pm o) (by rw [sg_j (by decide)]; exact qz)
theorem m_readsPiece_l {sg0 : sg_T} {d kc ks j a o : Nat} (ih : tcX mi_X12_readsTry 3 j (fun _ => True)) (hd : 3 + 1 + 3 * j ≤ d) (hj : 6 ≤ o + j) (ht : tpO (sg0 1)) : ∀ (u b : Nat) (sg : sg_T), tcQ (fun _ => True) a o sg0 sg → sg 0 3 = nI b → a ≤ b → b ≤ 120 → 120 < b + u → am_W mi_X12_readsPiece d (fun r h' => r = none ∧ ∃ sg, h' = hm sg ∧ tcQ (fun c => ¬ c = 124) a o sg0 sg) kc ks 4 [some (.ref 0)] [] (hm sg) := by
  intro u
  induction u with
  | zero => intro b sg hQ h3 ab b1 h2; exact absurd h2 (by omega)
  | succ u ih' =>
    intro b sg hQ h3 ab b1 h2
    refine am_go ok_X12_readsPiece [4] 76 ?_
    obtain ⟨hF, b', ab', z3, h10, hz⟩ := hQ
    have ht' : tpO (sg 1) := by rw [hF.1 1 (by omega)]; exact ht
    have b1' : b' ≤ 120 := by
      rcases hz with ⟨-, m, -, z, -⟩ | ⟨-, o', m', z, -⟩
      · exact Nat.le_trans (gd_le z) (tp_n ht).2
      · exact Nat.le_trans (gd_le z) (tp_n ht).2
    have eb : b' = b := (nI_eq (by omega) (by omega)).mp (z3.symm.trans h3)
    subst eb
    have e : hV sg = hr (sg0 1) b' := by rw [hV_h h3 (by omega) ht', fA_hr hF]
    refine ⟨_, _, rfl, rfl, ?_⟩
    refine ⟨fun c8 => ?_, fun c8 => ?_⟩
    · refine ⟨rfl, sg, rfl, hF, b', ab, h3, h10, Or.inr ?_⟩
      rcases hz with ⟨z, -⟩ | z
      · exact absurd z c8
      · exact z
    · obtain ⟨m, m1, hg, hs, hx⟩ : ∃ m, 1 ≤ m ∧ gd (hr (sg0 1)) b' o m ∧ (m = 2 ∨ ¬ hr (sg0 1) b' = 42) ∧ (fun _ => True) (hr (sg0 1) b') := by
        rcases hz with ⟨-, z⟩ | ⟨z, -⟩
        · exact z
        · rw [c8] at z; exact absurd z (by decide)
      refine ⟨_, rfl, d - 1, 0, 0, _, by omega, Nat.le_of_ble_eq_true rfl, Nat.le_of_ble_eq_true rfl, Nat.le_of_ble_eq_true rfl, m_here (d - 1) ⟨b', by omega, h3⟩, ?_⟩
      rintro _ _ ⟨rfl, rfl⟩
      refine ⟨Or.inl rfl, ?_⟩
      refine ⟨fun c17 => ?_, fun c17 => ?_⟩
      · exact ⟨rfl, sg, rfl, hF, b', ab, h3, h10, Or.inl ⟨c8, m, m1, hg, hs, (by rw [← e]; exact c17)⟩⟩
      · refine ⟨_, _, rfl, rfl, ?_⟩
        refine ⟨_, rfl, Nat.le_of_ble_eq_true rfl, trivial, ?_⟩
        rw [hm_f0_3]
        have hI2 : tcI (b' + 1) o (sg_u sg 0 3 (sg 0 3 + 1)) := ⟨by rw [sg_i (by decide)]; exact ht', by rw [sg_s, h3, nI_1], by rw [sg_j (by decide)]; exact c8, by rw [sg_j (by decide)]; exact h10, by rw [sg_i (by decide), hF.1 1 (by omega)]; exact ⟨o, m, hg, Or.inr (Or.inr (Or.inr (Or.inr ⟨m1, Or.inr (by rw [← e]; exact c17), rfl, rfl⟩)))⟩⟩
        have hF1 : frA sg0 (sg_u sg 0 3 (sg 0 3 + 1)) := hF.u (Or.inl rfl)
        have l1 := hI2.le
        generalize sg_u sg 0 3 (sg 0 3 + 1) = s1 at hI2 hF1 ⊢
        refine ⟨_, rfl, d - 1, 0, 0, _, by omega, Nat.le_of_ble_eq_true rfl, Nat.le_of_ble_eq_true rfl, Nat.le_of_ble_eq_true rfl, ih s1 (d - 1) (b' + 1) o (by omega) hj hI2, ?_⟩
        rintro _ _ ⟨rfl, s2, rfl, gQ⟩
        refine ⟨Or.inl rfl, ?_⟩
        obtain ⟨gF, b2, ab2, g3, g10, gz⟩ := gQ
        rw [fA_hr hF1] at gz
        have b3 : b2 ≤ 120 := by
          rcases gz with ⟨-, m, -, z, -⟩ | ⟨-, o', m', z, -⟩
          · exact Nat.le_trans (gd_le z) (tp_n ht).2
          · exact Nat.le_trans (gd_le z) (tp_n ht).2
        exact ih' b2 s2 ⟨hF1.tr gF, b2, by omega, g3, g10, gz⟩ g3 (by omega) b3 (by omega)
theorem m_readsPiece {j : Nat} (ih : tcX mi_X12_readsTry 3 j (fun _ => True)) : tcX mi_X12_readsPiece 4 j (fun c => ¬ c = 124) := by
  intro sg0 d a o hd hj hI
  have a1 := hI.le
  refine am_Met.of rfl (Nat.le_of_ble_eq_true rfl) ?_
  refine am_go ok_X12_readsPiece [4] 62 ?_
  refine ⟨_, rfl, d - 1, 0, 0, _, by omega, Nat.le_of_ble_eq_true rfl, Nat.le_of_ble_eq_true rfl, Nat.le_of_ble_eq_true rfl, ih sg0 (d - 1) a o (by omega) hj hI, ?_⟩
  rintro _ _ ⟨rfl, s2, rfl, gQ⟩
  refine ⟨Or.inl rfl, ?_⟩
  obtain ⟨gF, b2, ab2, g3, g10, gz⟩ := gQ
  have b3 : b2 ≤ 120 := by
    rcases gz with ⟨-, m, -, z, -⟩ | ⟨-, o', m', z, -⟩
    · exact Nat.le_trans (gd_le z) (tp_n hI.1).2
    · exact Nat.le_trans (gd_le z) (tp_n hI.1).2
  exact m_readsPiece_l ih (by omega) hj hI.1 121 b2 s2 ⟨gF, b2, ab2, g3, g10, gz⟩ g3 ab2 b3 (by omega)
theorem m_readsTactic_l {sg0 : sg_T} {d kc ks j a o : Nat} (ih : tcX mi_X12_readsPiece 4 j (fun c => ¬ c = 124)) (hd : 4 + 1 + 3 * j ≤ d) (hj : 6 ≤ o + j) (ht : tpO (sg0 1)) : ∀ (u b : Nat) (sg : sg_T), tcQ (fun c => ¬ c = 124) a o sg0 sg → sg 0 3 = nI b → a ≤ b → b ≤ 120 → 120 < b + u → am_W mi_X12_readsTactic d (fun r h' => r = none ∧ ∃ sg, h' = hm sg ∧ tcQ (fun c => ¬ c = 124 ∧ ¬ c = 59) a o sg0 sg) kc ks 4 [some (.ref 0)] [] (hm sg) := by
  intro u
  induction u with
  | zero => intro b sg hQ h3 ab b1 h2; exact absurd h2 (by omega)
  | succ u ih' =>
    intro b sg hQ h3 ab b1 h2
    refine am_go ok_X12_readsTactic [4] 76 ?_
    obtain ⟨hF, b', ab', z3, h10, hz⟩ := hQ
    have ht' : tpO (sg 1) := by rw [hF.1 1 (by omega)]; exact ht
    have b1' : b' ≤ 120 := by
      rcases hz with ⟨-, m, -, z, -⟩ | ⟨-, o', m', z, -⟩
      · exact Nat.le_trans (gd_le z) (tp_n ht).2
      · exact Nat.le_trans (gd_le z) (tp_n ht).2
    have eb : b' = b := (nI_eq (by omega) (by omega)).mp (z3.symm.trans h3)
    subst eb
    have e : hV sg = hr (sg0 1) b' := by rw [hV_h h3 (by omega) ht', fA_hr hF]
    refine ⟨_, _, rfl, rfl, ?_⟩
    refine ⟨fun c8 => ?_, fun c8 => ?_⟩
    · refine ⟨rfl, sg, rfl, hF, b', ab, h3, h10, Or.inr ?_⟩
      rcases hz with ⟨z, -⟩ | z
      · exact absurd z c8
      · exact z
    · obtain ⟨m, m1, hg, hs, hx⟩ : ∃ m, 1 ≤ m ∧ gd (hr (sg0 1)) b' o m ∧ (m = 2 ∨ ¬ hr (sg0 1) b' = 42) ∧ (fun c => ¬ c = 124) (hr (sg0 1) b') := by
        rcases hz with ⟨-, z⟩ | ⟨z, -⟩
        · exact z
        · rw [c8] at z; exact absurd z (by decide)
      refine ⟨_, rfl, d - 1, 0, 0, _, by omega, Nat.le_of_ble_eq_true rfl, Nat.le_of_ble_eq_true rfl, Nat.le_of_ble_eq_true rfl, m_here (d - 1) ⟨b', by omega, h3⟩, ?_⟩
      rintro _ _ ⟨rfl, rfl⟩
      refine ⟨Or.inl rfl, ?_⟩
      refine ⟨fun c17 => ?_, fun c17 => ?_⟩
      · exact ⟨rfl, sg, rfl, hF, b', ab, h3, h10, Or.inl ⟨c8, m, m1, hg, hs, ⟨hx, by rw [← e]; exact c17⟩⟩⟩
      · refine ⟨_, _, rfl, rfl, ?_⟩
        refine ⟨_, rfl, Nat.le_of_ble_eq_true rfl, trivial, ?_⟩
        rw [hm_f0_3]
        have hI2 : tcI (b' + 1) o (sg_u sg 0 3 (sg 0 3 + 1)) := ⟨by rw [sg_i (by decide)]; exact ht', by rw [sg_s, h3, nI_1], by rw [sg_j (by decide)]; exact c8, by rw [sg_j (by decide)]; exact h10, by rw [sg_i (by decide), hF.1 1 (by omega)]; exact ⟨o, m, hg, Or.inr (Or.inr (Or.inr (Or.inr ⟨m1, Or.inl (by rw [← e]; exact c17), rfl, rfl⟩)))⟩⟩
        have hF1 : frA sg0 (sg_u sg 0 3 (sg 0 3 + 1)) := hF.u (Or.inl rfl)
        have l1 := hI2.le
        generalize sg_u sg 0 3 (sg 0 3 + 1) = s1 at hI2 hF1 ⊢
        refine ⟨_, rfl, d - 1, 0, 0, _, by omega, Nat.le_of_ble_eq_true rfl, Nat.le_of_ble_eq_true rfl, Nat.le_of_ble_eq_true rfl, ih s1 (d - 1) (b' + 1) o (by omega) hj hI2, ?_⟩
        rintro _ _ ⟨rfl, s2, rfl, gQ⟩
        refine ⟨Or.inl rfl, ?_⟩
        obtain ⟨gF, b2, ab2, g3, g10, gz⟩ := gQ
        rw [fA_hr hF1] at gz
        have b3 : b2 ≤ 120 := by
          rcases gz with ⟨-, m, -, z, -⟩ | ⟨-, o', m', z, -⟩
          · exact Nat.le_trans (gd_le z) (tp_n ht).2
          · exact Nat.le_trans (gd_le z) (tp_n ht).2
        exact ih' b2 s2 ⟨hF1.tr gF, b2, by omega, g3, g10, gz⟩ g3 (by omega) b3 (by omega)
theorem m_readsTactic {j : Nat} (ih : tcX mi_X12_readsPiece 4 j (fun c => ¬ c = 124)) : tcX mi_X12_readsTactic 5 j (fun c => ¬ c = 124 ∧ ¬ c = 59) := by
  intro sg0 d a o hd hj hI
  have a1 := hI.le
  refine am_Met.of rfl (Nat.le_of_ble_eq_true rfl) ?_
  refine am_go ok_X12_readsTactic [4] 62 ?_
  refine ⟨_, rfl, d - 1, 0, 0, _, by omega, Nat.le_of_ble_eq_true rfl, Nat.le_of_ble_eq_true rfl, Nat.le_of_ble_eq_true rfl, ih sg0 (d - 1) a o (by omega) hj hI, ?_⟩
  rintro _ _ ⟨rfl, s2, rfl, gQ⟩
  refine ⟨Or.inl rfl, ?_⟩
  obtain ⟨gF, b2, ab2, g3, g10, gz⟩ := gQ
  have b3 : b2 ≤ 120 := by
    rcases gz with ⟨-, m, -, z, -⟩ | ⟨-, o', m', z, -⟩
    · exact Nat.le_trans (gd_le z) (tp_n hI.1).2
    · exact Nat.le_trans (gd_le z) (tp_n hI.1).2
  exact m_readsTactic_l ih (by omega) hj hI.1 121 b2 s2 ⟨gF, b2, ab2, g3, g10, gz⟩ g3 ab2 b3 (by omega)
theorem m_readsT : ∀ j, tcX mi_X12_readsTactic 5 j (fun c => ¬ c = 124 ∧ ¬ c = 59)
  | 0 => m_readsTactic (m_readsPiece (m_readsTry (fun i h => absurd h (by omega))))
  | j + 1 => m_readsTactic (m_readsPiece (m_readsTry (fun i h => by rw [show i = j by omega]; exact m_readsT j)))
/-- accepted -/
def tcG (P : Nat → Int32) (b o m : Nat) : Prop := b = pn P 8 ∧ 1 ≤ m ∧ o = 0
/-- the tape, put by as a tactic -/
def tcP (P : Nat → Int32) (k : Nat) : Nat → Int32 := fun j => if 1038 + 120 * pn P 6 ≤ j ∧ j < 1038 + 120 * pn P 6 + k then P (2358 + (j - (1038 + 120 * pn P 6))) else upd P 8 0 j
def tcN (P : Nat → Int32) : Nat → Int32 := upd (upd (tcP P (pn P 8)) (1032 + pn P 6) (P 8)) 6 (P 6 + 1)
def sp_tactic (P : Nat → Int32) (v : Int32) (P' : Nat → Int32) : Prop := (P 6 = 6 ∧ v = -4 ∧ P' = P) ∨ (¬ P 6 = 6 ∧ ∃ b o m, gd (hr P) b o m ∧ stk (hr P) b o m ∧ ((¬ tcG P b o m ∧ v = -10 - nI b ∧ P' = upd P 8 0) ∨ (tcG P b o m ∧ v = P 6 ∧ P' = tcN P)))
theorem tcP_0 {P : Nat → Int32} : tcP P 0 = upd P 8 0 := by funext j; unfold tcP; rw [if_neg (by omega)]
theorem tcP_1 {P : Nat → Int32} {k : Nat} : upd (tcP P k) (1038 + 120 * pn P 6 + k) (P (2358 + k)) = tcP P (k + 1) := by
  funext j
  by_cases h : j = 1038 + 120 * pn P 6 + k
  · rw [h, pk_us]; unfold tcP; rw [if_pos (by omega), show 1038 + 120 * pn P 6 + k - (1038 + 120 * pn P 6) = k by omega]
  · rw [pk_un h]; unfold tcP
    by_cases q : 1038 + 120 * pn P 6 ≤ j ∧ j < 1038 + 120 * pn P 6 + k
    · rw [if_pos q, if_pos (by omega)]
    · rw [if_neg q, if_neg (by omega)]
theorem tcP_o {P : Nat → Int32} {k j : Nat} (h : ¬ (1038 + 120 * pn P 6 ≤ j ∧ j < 1038 + 120 * pn P 6 + k)) (h8 : j ≠ 8) : tcP P k j = P j := by unfold tcP; rw [if_neg h, pk_un h8]
theorem stk_t {H : Nat → Int32} {b m : Nat} (hs : m = 2 ∨ ¬ H b = 42) (hx : ¬ H b = 124 ∧ ¬ H b = 59) (m1 : 1 ≤ m) : stk H b 0 m := by
  rintro o' m' (z | z | z | z | z)
  · omega
  · omega
  · rcases hs with hs | hs
    · omega
    · exact hs z.2.1
  · omega
  · rcases z.2.1 with w | w
    · exact hx.2 w
    · exact hx.1 w
theorem m_tactic_l {sg0 : sg_T} {d kc ks t n : Nat} {vn : Int32} {t1 : Option Value} (h6 : sg0 1 6 = nI t) (t6 : t < 6) (h8 : sg0 1 8 = nI n) (n1 : n ≤ 120) (hn : vn = nI n) {b o m : Nat} (hg : gd (hr (sg0 1)) b o m) (hs : stk (hr (sg0 1)) b o m) (hG : tcG (sg0 1) b o m) : ∀ (u k : Nat) (z : Int32) (sg : sg_T), z = nI k → sg 1 = tcP (sg0 1) k → sg 2 = sg0 2 → sg 0 2 = sg0 0 2 → k ≤ n → n < k + u → am_W mi_X12_tactic d (fun r h' => ∃ v P', sp_tactic (sg0 1) v P' ∧ mOut sg0 v P' r h') kc ks 91 [some (.ref 0), t1, some (.int vn), some (.int z)] [] (hm sg) := by
  intro u
  induction u with
  | zero => intro k z sg hz hP k2 k0 h1 h2; exact absurd h2 (by omega)
  | succ u ih =>
    intro k z sg hz hP k2 k0 h1 h2
    refine am_go ok_X12_tactic [91] 87 ?_
    have p6 := pn_of h6 (by omega); have p8 := pn_of h8 (by omega)
    have e6 : sg 1 6 = nI t := by rw [hP, tcP_o (by omega) (by decide)]; exact h6
    refine ⟨fun c93 => ?_, fun c93 => ?_⟩
    · rw [hz, hn] at c93
      have k1 : k = n := by have := (nI_leI (by omega) (by omega)).mp c93; omega
      subst k1
      refine ⟨_, _, rfl, rfl, ?_⟩
      refine ⟨_, _, rfl, rfl, ?_⟩
      refine ⟨_, _, 6, rfl, rfl, Nat.le_of_ble_eq_true rfl, Nat.le_of_ble_eq_true rfl, ?_⟩
      rw [e6]
      refine ⟨_, _, (1032 + t), rfl, (nI_add 1032 t), by omega, Nat.le_of_ble_eq_true rfl, ?_⟩
      rw [hm_a1]
      refine ⟨_, _, rfl, rfl, ?_⟩
      refine ⟨_, _, 6, rfl, rfl, Nat.le_of_ble_eq_true rfl, Nat.le_of_ble_eq_true rfl, ?_⟩
      rw [sg_j (by omega), e6]
      refine ⟨_, _, 6, rfl, rfl, Nat.le_of_ble_eq_true rfl, Nat.le_of_ble_eq_true rfl, ?_⟩
      rw [hm_a1]
      refine ⟨_, _, rfl, rfl, ?_⟩
      refine ⟨_, _, 6, rfl, rfl, Nat.le_of_ble_eq_true rfl, Nat.le_of_ble_eq_true rfl, ?_⟩
      rw [sg_s]
      refine ⟨trivial, ?_⟩
      refine ⟨sg0 1 6, tcN (sg0 1), Or.inr ⟨fun z => absurd ((nI_eq (b := 6) (by omega) (by omega)).mp (h6.symm.trans z)) (by omega), b, o, m, hg, hs, Or.inr ⟨hG, rfl, rfl⟩⟩, _, (by rw [Int32.add_sub_cancel, h6]), rfl, ?_, ?_, ?_⟩
      · rw [sg_ii, sg_ii, hP]; unfold tcN; rw [p6, p8, h6, h8, hn]
      · rw [sg_i (by decide), sg_i (by decide)]; exact k2
      · rw [sg_i (by decide), sg_i (by decide)]; exact k0
    · have k1 : k < n := by
        rcases Nat.lt_or_ge k n with q | q
        · exact q
        · exact absurd (by rw [hz, hn]; exact (nI_leI (by omega) (by omega)).mpr q) c93
      refine ⟨_, _, rfl, rfl, ?_⟩
      refine ⟨_, _, rfl, rfl, ?_⟩
      refine ⟨_, _, 6, rfl, rfl, Nat.le_of_ble_eq_true rfl, Nat.le_of_ble_eq_true rfl, ?_⟩
      rw [e6]
      refine ⟨_, _, rfl, rfl, ?_⟩
      refine ⟨_, _, (2358 + k), rfl, (by rw [hz]; exact nI_add 2358 k), by omega, Nat.le_of_ble_eq_true rfl, ?_⟩
      refine ⟨_, _, (1038 + 120 * t + k), rfl, (by rw [hz]; show nI 1038 + nI 120 * nI t + nI k = _; rw [pk_mul, nI_add, nI_add]), by omega, Nat.le_of_ble_eq_true rfl, ?_⟩
      rw [hm_a1]
      exact ih (k + 1) _ _ (by rw [hz, nI_1]) (by rw [sg_ii, hP, tcP_o (by omega) (by omega), ← p6, tcP_1]) ((sg_i (by decide)).trans k2) (by rw [sg_i (by decide)]; exact k0) (by omega) (by omega)
theorem m_tactic_b {sg0 s2 : sg_T} {d kc ks : Nat} {t2 t3 : Option Value} (e1 : s2 1 = sg0 1) (e2 : s2 2 = sg0 2) (e0 : s2 0 2 = sg0 0 2) {b o m : Nat} (g3 : s2 0 3 = nI b) (c9 : ¬ sg0 1 6 = 6) (hg : gd (hr (sg0 1)) b o m) (hs : stk (hr (sg0 1)) b o m) (hG : ¬ tcG (sg0 1) b o m) : am_W mi_X12_tactic d (fun r h' => ∃ v P', sp_tactic (sg0 1) v P' ∧ mOut sg0 v P' r h') kc ks 61 [some (.ref 0), some (.int 0), t2, t3] [] (hm s2) := by
  refine am_go ok_X12_tactic [] 76 ?_
  refine ⟨_, _, rfl, rfl, ?_⟩
  refine ⟨_, _, 8, rfl, rfl, Nat.le_of_ble_eq_true rfl, Nat.le_of_ble_eq_true rfl, ?_⟩
  refine ⟨_, _, rfl, rfl, ?_⟩
  refine ⟨_, _, 8, rfl, rfl, Nat.le_of_ble_eq_true rfl, Nat.le_of_ble_eq_true rfl, ?_⟩
  rw [hm_a1]
  refine ⟨fun c78 => absurd c78 (fun z => z rfl), fun _ => ?_⟩
  refine ⟨_, _, rfl, rfl, ?_⟩
  rw [sg_i (by decide), g3]
  refine ⟨trivial, ?_⟩
  refine ⟨_, _, Or.inr ⟨c9, b, o, m, hg, hs, Or.inl ⟨hG, rfl, rfl⟩⟩, _, rfl, rfl, ?_, ?_, ?_⟩
  · rw [sg_ii, e1]
  · rw [sg_i (by decide)]; exact e2
  · rw [sg_i (by decide)]; exact e0
theorem m_tactic_g {sg0 s2 : sg_T} {d kc ks t n : Nat} {t2 t3 : Option Value} (h6 : sg0 1 6 = nI t) (t6 : t < 6) (h8 : sg0 1 8 = nI n) (n1 : n ≤ 120) (e1 : s2 1 = sg0 1) (e2 : s2 2 = sg0 2) (e0 : s2 0 2 = sg0 0 2) {b o m : Nat} (hg : gd (hr (sg0 1)) b o m) (hs : stk (hr (sg0 1)) b o m) (hG : tcG (sg0 1) b o m) : am_W mi_X12_tactic d (fun r h' => ∃ v P', sp_tactic (sg0 1) v P' ∧ mOut sg0 v P' r h') kc ks 61 [some (.ref 0), some (.int 1), t2, t3] [] (hm s2) := by
  refine am_go ok_X12_tactic [91] 74 ?_
  refine ⟨_, _, rfl, rfl, ?_⟩
  refine ⟨_, _, 8, rfl, rfl, Nat.le_of_ble_eq_true rfl, Nat.le_of_ble_eq_true rfl, ?_⟩
  rw [e1, h8]
  refine ⟨_, _, rfl, rfl, ?_⟩
  refine ⟨_, _, 8, rfl, rfl, Nat.le_of_ble_eq_true rfl, Nat.le_of_ble_eq_true rfl, ?_⟩
  rw [hm_a1]
  refine ⟨fun _ => ?_, fun c78 => absurd c78 (by decide)⟩
  exact m_tactic_l h6 t6 h8 n1 rfl hg hs hG (n + 1) 0 0 _ rfl (by rw [sg_ii, e1, tcP_0]) ((sg_i (by decide)).trans e2) (by rw [sg_i (by decide)]; exact e0) (by omega) (by omega)
theorem m_tactic {sg : sg_T} {d : Nat} (hd : 460 ≤ d) {t : Nat} (h6 : sg 1 6 = nI t) (t6 : t ≤ 6) (ht : tpO (sg 1)) : am_Met mi_X12_tactic d 0 0 [.ref 0] (hm sg) (fun r h' => ∃ v P', sp_tactic (sg 1) v P' ∧ mOut sg v P' r h') := by
  refine am_Met.of rfl (Nat.le_of_ble_eq_true rfl) ?_
  refine am_go ok_X12_tactic [61] 90 ?_
  refine ⟨_, _, rfl, rfl, ?_⟩
  refine ⟨_, _, 6, rfl, rfl, Nat.le_of_ble_eq_true rfl, Nat.le_of_ble_eq_true rfl, ?_⟩
  refine ⟨fun c9 => ?_, fun c9 => ?_⟩
  · have t5 : t < 6 := by
      rcases Nat.lt_or_ge t 6 with q | q
      · exact q
      · exact absurd (by rw [h6, show t = 6 by omega]; rfl) c9
    obtain ⟨n, n1, h8⟩ := ht
    have p8 := pn_of h8 (by omega)
    refine ⟨_, rfl, Nat.le_of_ble_eq_true rfl, trivial, ?_⟩
    rw [hm_f0_3]
    refine ⟨_, rfl, Nat.le_of_ble_eq_true rfl, trivial, ?_⟩
    rw [hm_f0_10]
    refine ⟨_, rfl, Nat.le_of_ble_eq_true rfl, ⟨rfl, rfl⟩, ?_⟩
    rw [hm_f0_4]
    have hI : tcI 0 0 (sg_u (sg_u (sg_u sg 0 3 0) 0 10 0) 0 4 0) := ⟨by rw [sg_i (by decide), sg_i (by decide), sg_i (by decide)]; exact ⟨n, n1, h8⟩, by rw [sg_j (by decide), sg_j (by decide), sg_s]; rfl, sg_s, by rw [sg_j (by decide), sg_s]; rfl, rfl, rfl⟩
    have hF : frA sg (sg_u (sg_u (sg_u sg 0 3 0) 0 10 0) 0 4 0) := ((frA.rf.u (Or.inl rfl)).u (Or.inr (Or.inr rfl))).u (Or.inr (Or.inl rfl))
    generalize sg_u (sg_u (sg_u sg 0 3 0) 0 10 0) 0 4 0 = s1 at hI hF ⊢
    refine ⟨_, rfl, d - 1, 0, 0, _, by omega, Nat.le_of_ble_eq_true rfl, Nat.le_of_ble_eq_true rfl, Nat.le_of_ble_eq_true rfl, m_readsT 6 s1 (d - 1) 0 0 (by omega) (by omega) hI, ?_⟩
    rintro _ _ ⟨rfl, s2, rfl, gF, b, ab, g3, g10, gz⟩
    refine ⟨Or.inl rfl, ?_⟩
    rw [fA_hr hF] at gz
    have hF2 := hF.tr gF
    have e1 : s2 1 = sg 1 := hF2.1 1 (by omega)
    have e2 : s2 2 = sg 2 := hF2.1 2 (by omega)
    have e0 : s2 0 2 = sg 0 2 := hF2.2 2 (by decide) (by decide) (by decide)
    have bl : b ≤ 120 := by
      rcases gz with ⟨-, m, -, z, -⟩ | ⟨-, o', m', z, -⟩
      · exact Nat.le_trans (gd_le z) (by omega)
      · exact Nat.le_trans (gd_le z) (by omega)
    refine ⟨_, _, rfl, rfl, ?_⟩
    refine ⟨fun c38 => ?_, fun c38 => ?_⟩
    · obtain ⟨o', m', zg, zs, zn⟩ : ∃ o' m', gd (hr (sg 1)) b o' m' ∧ stk (hr (sg 1)) b o' m' ∧ ¬ tcG (sg 1) b o' m' := by
        rcases gz with ⟨z, -⟩ | ⟨-, o', m', z1, z2, z3⟩
        · exact absurd z c38
        · exact ⟨o', m', z1, z2, fun w => by have := w.2; omega⟩
      first
      | exact m_tactic_b e1 e2 e0 g3 c9 zg zs zn
      | exact m_tactic_g h6 t5 h8 n1 e1 e2 e0 zg zs zG
    · obtain ⟨m', m1, zg, zs⟩ : ∃ m', 1 ≤ m' ∧ gd (hr (sg 1)) b 0 m' ∧ stk (hr (sg 1)) b 0 m' := by
        rcases gz with ⟨-, m', m1, z1, z2, z3⟩ | ⟨z, -⟩
        · exact ⟨m', m1, z1, stk_t z2 z3 m1⟩
        · rw [c38] at z; exact absurd z (by decide)
      refine ⟨_, _, rfl, rfl, ?_⟩
      refine ⟨_, _, rfl, rfl, ?_⟩
      refine ⟨_, _, 8, rfl, rfl, Nat.le_of_ble_eq_true rfl, Nat.le_of_ble_eq_true rfl, ?_⟩
      rw [e1, h8]
      refine ⟨fun c52 => ?_, fun c52 => ?_⟩
      · have zn : ¬ tcG (sg 1) b 0 m' := fun w => c52 (by rw [g3, w.1, p8])
        first
        | exact m_tactic_b e1 e2 e0 g3 c9 zg zs zn
        | exact m_tactic_g h6 t5 h8 n1 e1 e2 e0 zg zs zG
      · have zG : tcG (sg 1) b 0 m' := ⟨by rw [p8]; exact (nI_eq (by omega) (by omega)).mp (g3.symm.trans c52), m1, rfl⟩
        first
        | exact m_tactic_b e1 e2 e0 g3 c9 zg zs zn
        | exact m_tactic_g h6 t5 h8 n1 e1 e2 e0 zg zs zG
  · exact ⟨trivial, _, _, Or.inl ⟨c9, rfl, rfl⟩, mOut_s rfl⟩
