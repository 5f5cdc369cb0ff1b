/-! the Tactician: reading a TACTIC -/
/-- bytes on THE TAPE -/
def tbO (P : Nat → Int32) : Prop := ∀ i, i < 120 → ∃ w, w < 256 ∧ P (2358 + i) = nI w
theorem by_e {w c : Nat} (hw : w < 256) (hc : c < 128) : bY (nI w) = nI c ↔ nI w = nI c := by
  rcases Nat.lt_or_ge w 128 with q | q
  · rw [bY_lo w q]
  · have h := bY_hi w hw q
    refine ⟨fun e => ?_, fun e => ?_⟩
    · rw [e] at h; exact absurd h (nI_pos (by omega))
    · have := (nI_eq (by omega) (by omega)).mp e; omega
theorem by_d {w a b : Nat} (hw : w < 256) (ha : a < 128) (hb : b < 128) (ab : 0 < a) : (nI a ≤ bY (nI w) ∧ bY (nI w) < nI (b + 1)) ↔ (nI a ≤ nI w ∧ nI w ≤ nI b) := by
  rcases Nat.lt_or_ge w 128 with q | q
  · rw [bY_lo w q, nI_leI (by omega) (by omega), nI_leI (by omega) (by omega), nI_ltI (by omega) (by omega)]
    omega
  · have h := bY_hi w hw q
    refine ⟨fun e => ?_, fun e => ?_⟩
    · exact absurd (Int32.lt_of_le_of_lt e.1 h) (nI_pos (by omega))
    · have := (nI_leI (by omega) (by omega)).mp e.2; omega
def foO (P : Nat → Int32) (v : Int32) : Prop := ∃ b o m, gd (hr P) b o m ∧ stk (hr P) b o m ∧ ((¬ tcG P b o m ∧ v = nI b) ∨ (tcG P b o m ∧ v = -1))
theorem c_fo_w {cg : sg_T} {fn : Nat → Option Nat} {cx : cx_T} {P : Nat → Int32} (hB : BR 1 cg P) (hb : tbO P) {d kc ks n : Nat} {vn : Int32} (hn : P 8 = nI n) (n1 : n ≤ 120) (hvn : vn = nI n) {k o : Nat} {vo vs va : Int32} {t6 : Option Value} (kn : k < n) (ihu : ∀ (o m : Nat) (vo vw vs va : Int32) (t6 : Option Value), vo = nI o → va = nI (k + 1) → ((m = 0 → vw = 1) ∧ (¬ m = 0 → vw = 0)) → ((m = 1 → vs = 0) ∧ (m = 2 → vs = 1)) → gd (hr P) (k + 1) o m → am_W mi_X9_faultOf d (fun r' h' => ∃ v, r' = some (.int v) ∧ foO P v ∧ h' = (hc cg fn cx)) kc ks 10 [some (.ref 3), some (.int vn), some (.int vo), some (.int vw), some (.int vs), some (.int va), t6] [] (hc cg fn cx)) (hvo : vo = nI o) (hva : va = nI k) (hg : gd (hr P) k o 0) : am_W mi_X9_faultOf d (fun r' h' => ∃ v, r' = some (.int v) ∧ foO P v ∧ h' = (hc cg fn cx)) kc ks 10 [some (.ref 3), some (.int vn), some (.int vo), some (.int 1), some (.int vs), some (.int va), t6] [] (hc cg fn cx) := by
  refine am_go ok_X9_faultOf [10] 94 ?_
  have pn8 := pn_of hn (by omega)
  obtain ⟨w, w2, ew⟩ := hb k (by omega)
  have eH : hr P k = nI w := by unfold hr; rw [if_pos (by omega), ew]
  have e3 : cg 3 k = bY (nI w) := by rw [hB.t k (by omega), ew]
  have s40 : bY (nI w) = 40 ↔ hr P k = 40 := by rw [eH]; exact by_e (c := 40) w2 (by omega)
  have s41 : bY (nI w) = 41 ↔ hr P k = 41 := by rw [eH]; exact by_e (c := 41) w2 (by omega)
  have s42 : bY (nI w) = 42 ↔ hr P k = 42 := by rw [eH]; exact by_e (c := 42) w2 (by omega)
  have s59 : bY (nI w) = 59 ↔ hr P k = 59 := by rw [eH]; exact by_e (c := 59) w2 (by omega)
  have s124 : bY (nI w) = 124 ↔ hr P k = 124 := by rw [eH]; exact by_e (c := 124) w2 (by omega)
  have s48 : (48 ≤ bY (nI w) ∧ bY (nI w) < 56) ↔ (48 ≤ hr P k ∧ hr P k ≤ 55) := by rw [eH]; exact by_d (a := 48) (b := 55) w2 (by omega) (by omega) (by omega)
  have o6 := (gd_6 hg).1
  have ea : va + 1 = nI (k + 1) := by rw [hva, nI_1]
  refine ⟨fun c13 => absurd c13 (by rw [hva, hvn]; exact fun w => absurd ((nI_leI (by omega) (by omega)).mp w) (by omega)), fun _ => ?_⟩
  refine ⟨_, _, rfl, ?_⟩
  refine ⟨fun c20 => absurd c20 (by rw [hva]; exact fun w => absurd ((nI_leI (a := 120) (by omega) (by omega)).mp w) (by omega)), fun _ => ?_⟩
  refine ⟨_, _, k, rfl, hva, by omega, Nat.le_of_ble_eq_true rfl, ?_⟩
  rw [e3]
  refine ⟨fun c30 => absurd c30 (by decide), fun _ => ?_⟩
  refine ⟨fun c37 => ?_, fun c37 => ?_⟩
  · have nq1 : ¬ (hr P k = 40 ∧ o < 6) := fun z => c37 (s40.mpr z.1)
    refine ⟨fun c53 => absurd c53 (by decide), fun _ => ?_⟩
    refine ⟨fun c60 => ?_, fun c60 => ?_⟩
    · have nq2 : ¬ (48 ≤ hr P k ∧ hr P k ≤ 55) := fun z => i_len (s48.mpr z).1 c60
      refine ⟨fun _ => ?_, fun c79 => absurd c79 (by decide)⟩
      refine ⟨fun _ => ?_, fun c101 => absurd c101 (by decide)⟩
      refine ⟨fun _ => ?_, fun c125 => absurd c125 (by decide)⟩
      refine ⟨trivial, ?_⟩
      refine ⟨_, rfl, ⟨k, o, 0, hg, fun o' m' h => ?_, Or.inl ⟨fun z => absurd z.1 (by omega), hva⟩⟩, rfl⟩
      rcases h with z | z | z | z | z
      · exact nq1 ⟨z.2.1, z.2.2.1⟩
      · exact nq2 z.2.1
      · exact absurd z.1 (by decide)
      · exact absurd z.1 (by decide)
      · exact absurd z.1 (by decide)
    · refine ⟨fun c67 => ?_, fun c67 => ?_⟩
      · have nq2 : ¬ (48 ≤ hr P k ∧ hr P k ≤ 55) := fun z => i_len c67 (s48.mpr z).2
        refine ⟨fun _ => ?_, fun c79 => absurd c79 (by decide)⟩
        refine ⟨fun _ => ?_, fun c101 => absurd c101 (by decide)⟩
        refine ⟨fun _ => ?_, fun c125 => absurd c125 (by decide)⟩
        refine ⟨trivial, ?_⟩
        refine ⟨_, rfl, ⟨k, o, 0, hg, fun o' m' h => ?_, Or.inl ⟨fun z => absurd z.1 (by omega), hva⟩⟩, rfl⟩
        rcases h with z | z | z | z | z
        · exact nq1 ⟨z.2.1, z.2.2.1⟩
        · exact nq2 z.2.1
        · exact absurd z.1 (by decide)
        · exact absurd z.1 (by decide)
        · exact absurd z.1 (by decide)
      · have q := s48.mp ⟨i_nlt c60, i_nle c67⟩
        first
        | exact ihu (o + 1) 0 _ _ _ _ _ (by rw [hvo, nI_1]) ea ⟨fun _ => rfl, fun z => absurd rfl z⟩ ⟨fun z => absurd z (by decide), fun z => absurd z (by decide)⟩ ⟨o, 0, hg, Or.inl ⟨rfl, q, o5, rfl, rfl⟩⟩
        | exact ihu o 1 _ _ _ _ _ hvo ea ⟨fun z => absurd z (by decide), fun _ => rfl⟩ ⟨fun _ => rfl, fun z => absurd z (by decide)⟩ ⟨o, 0, hg, Or.inr (Or.inl ⟨rfl, q, rfl, rfl⟩)⟩
  · have q := s40.mp c37
    refine ⟨fun c43 => ?_, fun c43 => ?_⟩
    · have nq1 : ¬ (hr P k = 40 ∧ o < 6) := fun z => absurd (by rw [hvo] at c43; exact (nI_leI (a := 6) (by omega) (by omega)).mp c43) (by omega)
      refine ⟨fun c53 => absurd c53 (by decide), fun _ => ?_⟩
      refine ⟨fun c60 => ?_, fun c60 => ?_⟩
      · have nq2 : ¬ (48 ≤ hr P k ∧ hr P k ≤ 55) := fun z => i_len (s48.mpr z).1 c60
        refine ⟨fun _ => ?_, fun c79 => absurd c79 (by decide)⟩
        refine ⟨fun _ => ?_, fun c101 => absurd c101 (by decide)⟩
        refine ⟨fun _ => ?_, fun c125 => absurd c125 (by decide)⟩
        refine ⟨trivial, ?_⟩
        refine ⟨_, rfl, ⟨k, o, 0, hg, fun o' m' h => ?_, Or.inl ⟨fun z => absurd z.1 (by omega), hva⟩⟩, rfl⟩
        rcases h with z | z | z | z | z
        · exact nq1 ⟨z.2.1, z.2.2.1⟩
        · exact nq2 z.2.1
        · exact absurd z.1 (by decide)
        · exact absurd z.1 (by decide)
        · exact absurd z.1 (by decide)
      · refine ⟨fun c67 => ?_, fun c67 => ?_⟩
        · have nq2 : ¬ (48 ≤ hr P k ∧ hr P k ≤ 55) := fun z => i_len c67 (s48.mpr z).2
          refine ⟨fun _ => ?_, fun c79 => absurd c79 (by decide)⟩
          refine ⟨fun _ => ?_, fun c101 => absurd c101 (by decide)⟩
          refine ⟨fun _ => ?_, fun c125 => absurd c125 (by decide)⟩
          refine ⟨trivial, ?_⟩
          refine ⟨_, rfl, ⟨k, o, 0, hg, fun o' m' h => ?_, Or.inl ⟨fun z => absurd z.1 (by omega), hva⟩⟩, rfl⟩
          rcases h with z | z | z | z | z
          · exact nq1 ⟨z.2.1, z.2.2.1⟩
          · exact nq2 z.2.1
          · exact absurd z.1 (by decide)
          · exact absurd z.1 (by decide)
          · exact absurd z.1 (by decide)
        · have q := s48.mp ⟨i_nlt c60, i_nle c67⟩
          first
          | exact ihu (o + 1) 0 _ _ _ _ _ (by rw [hvo, nI_1]) ea ⟨fun _ => rfl, fun z => absurd rfl z⟩ ⟨fun z => absurd z (by decide), fun z => absurd z (by decide)⟩ ⟨o, 0, hg, Or.inl ⟨rfl, q, o5, rfl, rfl⟩⟩
          | exact ihu o 1 _ _ _ _ _ hvo ea ⟨fun z => absurd z (by decide), fun _ => rfl⟩ ⟨fun _ => rfl, fun z => absurd z (by decide)⟩ ⟨o, 0, hg, Or.inr (Or.inl ⟨rfl, q, rfl, rfl⟩)⟩
    · have o5 : o < 6 := by
        rcases Nat.lt_or_ge o 6 with z | z
        · exact z
        · exact absurd (by rw [hvo]; exact (nI_leI (a := 6) (by omega) (by omega)).mpr z) c43
      first
      | exact ihu (o + 1) 0 _ _ _ _ _ (by rw [hvo, nI_1]) ea ⟨fun _ => rfl, fun z => absurd rfl z⟩ ⟨fun z => absurd z (by decide), fun z => absurd z (by decide)⟩ ⟨o, 0, hg, Or.inl ⟨rfl, q, o5, rfl, rfl⟩⟩
      | exact ihu o 1 _ _ _ _ _ hvo ea ⟨fun z => absurd z (by decide), fun _ => rfl⟩ ⟨fun _ => rfl, fun z => absurd z (by decide)⟩ ⟨o, 0, hg, Or.inr (Or.inl ⟨rfl, q, rfl, rfl⟩)⟩
theorem c_fo_n {cg : sg_T} {fn : Nat → Option Nat} {cx : cx_T} {P : Nat → Int32} (hB : BR 1 cg P) (hb : tbO P) {d kc ks n : Nat} {vn : Int32} (hn : P 8 = nI n) (n1 : n ≤ 120) (hvn : vn = nI n) {k o m : Nat} {vo vs va : Int32} {t6 : Option Value} (kn : k < n) (ihu : ∀ (o m : Nat) (vo vw vs va : Int32) (t6 : Option Value), vo = nI o → va = nI (k + 1) → ((m = 0 → vw = 1) ∧ (¬ m = 0 → vw = 0)) → ((m = 1 → vs = 0) ∧ (m = 2 → vs = 1)) → gd (hr P) (k + 1) o m → am_W mi_X9_faultOf d (fun r' h' => ∃ v, r' = some (.int v) ∧ foO P v ∧ h' = (hc cg fn cx)) kc ks 10 [some (.ref 3), some (.int vn), some (.int vo), some (.int vw), some (.int vs), some (.int va), t6] [] (hc cg fn cx)) (hvo : vo = nI o) (hva : va = nI k) (hm : 1 ≤ m) (hs : (m = 1 → vs = 0) ∧ (m = 2 → vs = 1)) (hg : gd (hr P) k o m) : am_W mi_X9_faultOf d (fun r' h' => ∃ v, r' = some (.int v) ∧ foO P v ∧ h' = (hc cg fn cx)) kc ks 10 [some (.ref 3), some (.int vn), some (.int vo), some (.int 0), some (.int vs), some (.int va), t6] [] (hc cg fn cx) := by
  refine am_go ok_X9_faultOf [10] 102 ?_
  have pn8 := pn_of hn (by omega)
  obtain ⟨w, w2, ew⟩ := hb k (by omega)
  have eH : hr P k = nI w := by unfold hr; rw [if_pos (by omega), ew]
  have e3 : cg 3 k = bY (nI w) := by rw [hB.t k (by omega), ew]
  have s40 : bY (nI w) = 40 ↔ hr P k = 40 := by rw [eH]; exact by_e (c := 40) w2 (by omega)
  have s41 : bY (nI w) = 41 ↔ hr P k = 41 := by rw [eH]; exact by_e (c := 41) w2 (by omega)
  have s42 : bY (nI w) = 42 ↔ hr P k = 42 := by rw [eH]; exact by_e (c := 42) w2 (by omega)
  have s59 : bY (nI w) = 59 ↔ hr P k = 59 := by rw [eH]; exact by_e (c := 59) w2 (by omega)
  have s124 : bY (nI w) = 124 ↔ hr P k = 124 := by rw [eH]; exact by_e (c := 124) w2 (by omega)
  have s48 : (48 ≤ bY (nI w) ∧ bY (nI w) < 56) ↔ (48 ≤ hr P k ∧ hr P k ≤ 55) := by rw [eH]; exact by_d (a := 48) (b := 55) w2 (by omega) (by omega) (by omega)
  have o6 := (gd_6 hg).1
  have ea : va + 1 = nI (k + 1) := by rw [hva, nI_1]
  have m2 := (gd_6 hg).2
  refine ⟨fun c13 => absurd c13 (by rw [hva, hvn]; exact fun w => absurd ((nI_leI (by omega) (by omega)).mp w) (by omega)), fun _ => ?_⟩
  refine ⟨_, _, rfl, ?_⟩
  refine ⟨fun c20 => absurd c20 (by rw [hva]; exact fun w => absurd ((nI_leI (a := 120) (by omega) (by omega)).mp w) (by omega)), fun _ => ?_⟩
  refine ⟨_, _, k, rfl, hva, by omega, Nat.le_of_ble_eq_true rfl, ?_⟩
  rw [e3]
  refine ⟨fun _ => ?_, fun c30 => absurd rfl c30⟩
  refine ⟨fun _ => ?_, fun c53 => absurd rfl c53⟩
  refine ⟨fun c79 => absurd c79 (fun w => w rfl), fun _ => ?_⟩
  refine ⟨fun c86 => ?_, fun c86 => ?_⟩
  · have nq1 : ¬ (m = 1 ∧ hr P k = 42) := fun z => c86 (s42.mpr z.2)
    refine ⟨fun c101 => absurd c101 (fun w => w rfl), fun _ => ?_⟩
    refine ⟨fun c108 => ?_, fun c108 => ?_⟩
    · have nq2 : ¬ (hr P k = 41 ∧ 0 < o) := fun z => c108 (s41.mpr z.1)
      refine ⟨fun c125 => absurd c125 (fun w => w rfl), fun _ => ?_⟩
      refine ⟨fun c132 => ?_, fun c132 => ?_⟩
      · have q := Or.inl (b := hr P k = 124) (s59.mp c132)
        have NX := fun t6 => ihu o 0 vo 1 vs (va + 1) t6 hvo ea ⟨fun _ => rfl, fun z => absurd rfl z⟩ ⟨fun z => absurd z (by decide), fun z => absurd z (by decide)⟩ ⟨o, m, hg, Or.inr (Or.inr (Or.inr (Or.inr ⟨hm, q, rfl, rfl⟩)))⟩
        exact NX _
      · refine ⟨fun c139 => ?_, fun c139 => ?_⟩
        · have nq3 : ¬ (hr P k = 59 ∨ hr P k = 124) := fun z => z.elim (fun z => c132 (s59.mpr z)) (fun z => c139 (s124.mpr z))
          refine ⟨trivial, ?_⟩
          refine ⟨_, rfl, ⟨k, o, m, hg, fun o' m' h => ?_, Or.inl ⟨fun z => absurd z.1 (by omega), hva⟩⟩, rfl⟩
          rcases h with z | z | z | z | z
          · exact absurd z.1 (by omega)
          · exact absurd z.1 (by omega)
          · exact nq1 ⟨z.1, z.2.1⟩
          · exact nq2 ⟨z.2.1, z.2.2.1⟩
          · exact nq3 z.2.1
        · have q := Or.inr (a := hr P k = 59) (s124.mp c139)
          have NX := fun t6 => ihu o 0 vo 1 vs (va + 1) t6 hvo ea ⟨fun _ => rfl, fun z => absurd rfl z⟩ ⟨fun z => absurd z (by decide), fun z => absurd z (by decide)⟩ ⟨o, m, hg, Or.inr (Or.inr (Or.inr (Or.inr ⟨hm, q, rfl, rfl⟩)))⟩
          exact NX _
    · have q := s41.mp c108
      refine ⟨fun c112 => ?_, fun c112 => ?_⟩
      · have nq2 : ¬ (hr P k = 41 ∧ 0 < o) := fun z => absurd (by rw [hvo] at c112; exact (nI_leI (b := 0) (by omega) (by omega)).mp c112) (by omega)
        refine ⟨fun c125 => absurd c125 (fun w => w rfl), fun _ => ?_⟩
        refine ⟨fun c132 => ?_, fun c132 => ?_⟩
        · have q := Or.inl (b := hr P k = 124) (s59.mp c132)
          have NX := fun t6 => ihu o 0 vo 1 vs (va + 1) t6 hvo ea ⟨fun _ => rfl, fun z => absurd rfl z⟩ ⟨fun z => absurd z (by decide), fun z => absurd z (by decide)⟩ ⟨o, m, hg, Or.inr (Or.inr (Or.inr (Or.inr ⟨hm, q, rfl, rfl⟩)))⟩
          exact NX _
        · refine ⟨fun c139 => ?_, fun c139 => ?_⟩
          · have nq3 : ¬ (hr P k = 59 ∨ hr P k = 124) := fun z => z.elim (fun z => c132 (s59.mpr z)) (fun z => c139 (s124.mpr z))
            refine ⟨trivial, ?_⟩
            refine ⟨_, rfl, ⟨k, o, m, hg, fun o' m' h => ?_, Or.inl ⟨fun z => absurd z.1 (by omega), hva⟩⟩, rfl⟩
            rcases h with z | z | z | z | z
            · exact absurd z.1 (by omega)
            · exact absurd z.1 (by omega)
            · exact nq1 ⟨z.1, z.2.1⟩
            · exact nq2 ⟨z.2.1, z.2.2.1⟩
            · exact nq3 z.2.1
          · have q := Or.inr (a := hr P k = 59) (s124.mp c139)
            have NX := fun t6 => ihu o 0 vo 1 vs (va + 1) t6 hvo ea ⟨fun _ => rfl, fun z => absurd rfl z⟩ ⟨fun z => absurd z (by decide), fun z => absurd z (by decide)⟩ ⟨o, m, hg, Or.inr (Or.inr (Or.inr (Or.inr ⟨hm, q, rfl, rfl⟩)))⟩
            exact NX _
      · have o0 : 0 < o := by
          rcases Nat.eq_zero_or_pos o with z | z
          · rw [hvo, z] at c112; exact absurd (Int32.le_refl _) c112
          · exact z
        have NX := fun t6 => ihu (o - 1) 1 (vo + -1) 0 0 (va + 1) t6 (by rw [hvo]; exact nI_dn o0) ea ⟨fun z => absurd z (by decide), fun _ => rfl⟩ ⟨fun _ => rfl, fun z => absurd z (by decide)⟩ ⟨o, m, hg, Or.inr (Or.inr (Or.inr (Or.inl ⟨hm, q, o0, by omega, rfl⟩)))⟩
        exact NX _
  · have q := s42.mp c86
    refine ⟨fun c91 => ?_, fun c91 => ?_⟩
    · have nq1 : ¬ (m = 1 ∧ hr P k = 42) := fun z => c91 (hs.1 z.1)
      refine ⟨fun c101 => absurd c101 (fun w => w rfl), fun _ => ?_⟩
      refine ⟨fun c108 => ?_, fun c108 => ?_⟩
      · have nq2 : ¬ (hr P k = 41 ∧ 0 < o) := fun z => c108 (s41.mpr z.1)
        refine ⟨fun c125 => absurd c125 (fun w => w rfl), fun _ => ?_⟩
        refine ⟨fun c132 => ?_, fun c132 => ?_⟩
        · have q := Or.inl (b := hr P k = 124) (s59.mp c132)
          have NX := fun t6 => ihu o 0 vo 1 vs (va + 1) t6 hvo ea ⟨fun _ => rfl, fun z => absurd rfl z⟩ ⟨fun z => absurd z (by decide), fun z => absurd z (by decide)⟩ ⟨o, m, hg, Or.inr (Or.inr (Or.inr (Or.inr ⟨hm, q, rfl, rfl⟩)))⟩
          exact NX _
        · refine ⟨fun c139 => ?_, fun c139 => ?_⟩
          · have nq3 : ¬ (hr P k = 59 ∨ hr P k = 124) := fun z => z.elim (fun z => c132 (s59.mpr z)) (fun z => c139 (s124.mpr z))
            refine ⟨trivial, ?_⟩
            refine ⟨_, rfl, ⟨k, o, m, hg, fun o' m' h => ?_, Or.inl ⟨fun z => absurd z.1 (by omega), hva⟩⟩, rfl⟩
            rcases h with z | z | z | z | z
            · exact absurd z.1 (by omega)
            · exact absurd z.1 (by omega)
            · exact nq1 ⟨z.1, z.2.1⟩
            · exact nq2 ⟨z.2.1, z.2.2.1⟩
            · exact nq3 z.2.1
          · have q := Or.inr (a := hr P k = 59) (s124.mp c139)
            have NX := fun t6 => ihu o 0 vo 1 vs (va + 1) t6 hvo ea ⟨fun _ => rfl, fun z => absurd rfl z⟩ ⟨fun z => absurd z (by decide), fun z => absurd z (by decide)⟩ ⟨o, m, hg, Or.inr (Or.inr (Or.inr (Or.inr ⟨hm, q, rfl, rfl⟩)))⟩
            exact NX _
      · have q := s41.mp c108
        refine ⟨fun c112 => ?_, fun c112 => ?_⟩
        · have nq2 : ¬ (hr P k = 41 ∧ 0 < o) := fun z => absurd (by rw [hvo] at c112; exact (nI_leI (b := 0) (by omega) (by omega)).mp c112) (by omega)
          refine ⟨fun c125 => absurd c125 (fun w => w rfl), fun _ => ?_⟩
          refine ⟨fun c132 => ?_, fun c132 => ?_⟩
          · have q := Or.inl (b := hr P k = 124) (s59.mp c132)
            have NX := fun t6 => ihu o 0 vo 1 vs (va + 1) t6 hvo ea ⟨fun _ => rfl, fun z => absurd rfl z⟩ ⟨fun z => absurd z (by decide), fun z => absurd z (by decide)⟩ ⟨o, m, hg, Or.inr (Or.inr (Or.inr (Or.inr ⟨hm, q, rfl, rfl⟩)))⟩
            exact NX _
          · refine ⟨fun c139 => ?_, fun c139 => ?_⟩
            · have nq3 : ¬ (hr P k = 59 ∨ hr P k = 124) := fun z => z.elim (fun z => c132 (s59.mpr z)) (fun z => c139 (s124.mpr z))
              refine ⟨trivial, ?_⟩
              refine ⟨_, rfl, ⟨k, o, m, hg, fun o' m' h => ?_, Or.inl ⟨fun z => absurd z.1 (by omega), hva⟩⟩, rfl⟩
              rcases h with z | z | z | z | z
              · exact absurd z.1 (by omega)
              · exact absurd z.1 (by omega)
              · exact nq1 ⟨z.1, z.2.1⟩
              · exact nq2 ⟨z.2.1, z.2.2.1⟩
              · exact nq3 z.2.1
            · have q := Or.inr (a := hr P k = 59) (s124.mp c139)
              have NX := fun t6 => ihu o 0 vo 1 vs (va + 1) t6 hvo ea ⟨fun _ => rfl, fun z => absurd rfl z⟩ ⟨fun z => absurd z (by decide), fun z => absurd z (by decide)⟩ ⟨o, m, hg, Or.inr (Or.inr (Or.inr (Or.inr ⟨hm, q, rfl, rfl⟩)))⟩
              exact NX _
        · have o0 : 0 < o := by
            rcases Nat.eq_zero_or_pos o with z | z
            · rw [hvo, z] at c112; exact absurd (Int32.le_refl _) c112
            · exact z
          have NX := fun t6 => ihu (o - 1) 1 (vo + -1) 0 0 (va + 1) t6 (by rw [hvo]; exact nI_dn o0) ea ⟨fun z => absurd z (by decide), fun _ => rfl⟩ ⟨fun _ => rfl, fun z => absurd z (by decide)⟩ ⟨o, m, hg, Or.inr (Or.inr (Or.inr (Or.inl ⟨hm, q, o0, by omega, rfl⟩)))⟩
          exact NX _
    · have e1 : m = 1 := by
        rcases (show m = 1 ∨ m = 2 by omega) with z | z
        · exact z
        · rw [hs.2 z] at c91; exact absurd c91 (by decide)
      have NX := fun t6 => ihu o 2 vo 0 1 (va + 1) t6 hvo ea ⟨fun z => absurd z (by decide), fun _ => rfl⟩ ⟨fun z => absurd z (by decide), fun _ => rfl⟩ ⟨o, m, hg, Or.inr (Or.inr (Or.inl ⟨e1, q, rfl, rfl⟩))⟩
      exact NX _
theorem c_fo_e {cg : sg_T} {fn : Nat → Option Nat} {cx : cx_T} {P : Nat → Int32} (hB : BR 1 cg P) (hb : tbO P) {d kc ks n : Nat} {vn : Int32} (hn : P 8 = nI n) (n1 : n ≤ 120) (hvn : vn = nI n) {o m : Nat} {vo vw vs va : Int32} {t6 : Option Value} (hvo : vo = nI o) (hva : va = nI n) (hw : (m = 0 → vw = 1) ∧ (¬ m = 0 → vw = 0)) (hg : gd (hr P) n o m) : am_W mi_X9_faultOf d (fun r' h' => ∃ v, r' = some (.int v) ∧ foO P v ∧ h' = (hc cg fn cx)) kc ks 10 [some (.ref 3), some (.int vn), some (.int vo), some (.int vw), some (.int vs), some (.int va), t6] [] (hc cg fn cx) := by
  refine am_go ok_X9_faultOf [] 69 ?_
  have pn8 := pn_of hn (by omega)
  have o6 := (gd_6 hg).1
  have hst : stk (hr P) n o m := fun o' m' h => dlR_c h (by unfold hr; rw [if_neg (by omega)])
  refine ⟨fun _ => ?_, fun c13 => absurd (by rw [hva, hvn]; exact Int32.le_refl _) c13⟩
  refine ⟨fun c157 => ?_, fun c157 => ?_⟩
  · have ng : ¬ tcG P n o m := fun z => c157 (hw.2 (by have := z.2.1; omega))
    refine ⟨trivial, ?_⟩
    first
    | exact ⟨_, rfl, ⟨n, o, m, hg, hst, Or.inl ⟨ng, hvn⟩⟩, rfl⟩
    | exact ⟨_, rfl, ⟨n, o, m, hg, hst, Or.inr ⟨g, rfl⟩⟩, rfl⟩
  · have m0 : ¬ m = 0 := fun z => absurd ((hw.1 z).symm.trans c157) (by decide)
    refine ⟨fun c161 => ?_, fun c161 => ?_⟩
    · have g : tcG P n o m := ⟨pn8.symm, by omega, by have : o ≤ 0 := (nI_leI (b := 0) (by omega) (by omega)).mp (by rw [← hvo]; exact c161); omega⟩
      refine ⟨trivial, ?_⟩
      first
      | exact ⟨_, rfl, ⟨n, o, m, hg, hst, Or.inl ⟨ng, hvn⟩⟩, rfl⟩
      | exact ⟨_, rfl, ⟨n, o, m, hg, hst, Or.inr ⟨g, rfl⟩⟩, rfl⟩
    · have ng : ¬ tcG P n o m := fun z => c161 (by rw [hvo, z.2.2]; exact Int32.le_refl _)
      refine ⟨trivial, ?_⟩
      first
      | exact ⟨_, rfl, ⟨n, o, m, hg, hst, Or.inl ⟨ng, hvn⟩⟩, rfl⟩
      | exact ⟨_, rfl, ⟨n, o, m, hg, hst, Or.inr ⟨g, rfl⟩⟩, rfl⟩
theorem c_fo_l {cg : sg_T} {fn : Nat → Option Nat} {cx : cx_T} {P : Nat → Int32} (hB : BR 1 cg P) (hb : tbO P) {d kc ks n : Nat} {vn : Int32} (hn : P 8 = nI n) (n1 : n ≤ 120) (hvn : vn = nI n) : ∀ (u k o m : Nat) (vo vw vs va : Int32) (t6 : Option Value), vo = nI o → va = nI k → ((m = 0 → vw = 1) ∧ (¬ m = 0 → vw = 0)) → ((m = 1 → vs = 0) ∧ (m = 2 → vs = 1)) → gd (hr P) k o m → k ≤ n → n < k + u → am_W mi_X9_faultOf d (fun r' h' => ∃ v, r' = some (.int v) ∧ foO P v ∧ h' = (hc cg fn cx)) kc ks 10 [some (.ref 3), some (.int vn), some (.int vo), some (.int vw), some (.int vs), some (.int va), t6] [] (hc cg fn cx) := by
  intro u
  induction u with
  | zero => intro k o m vo vw vs va t6 _ _ _ _ _ h1 h2; exact absurd h2 (by omega)
  | succ u ih =>
    intro k o m vo vw vs va t6 hvo hva hw hs hg h1 h2
    rcases (show k = n ∨ k < n by omega) with e | e
    · subst e; exact c_fo_e hB hb hn n1 hvn hvo hva hw hg
    · have ihu := fun (o m : Nat) (vo vw vs va : Int32) (t6 : Option Value) a b c d f => ih (k + 1) o m vo vw vs va t6 a b c d f (by omega) (by omega)
      by_cases m0 : m = 0
      · subst m0
        rw [hw.1 rfl]
        exact c_fo_w hB hb hn n1 hvn e ihu hvo hva hg
      · rw [hw.2 m0]
        exact c_fo_n hB hb hn n1 hvn e ihu hvo hva (by omega) hs hg
theorem c_faultOf {cg : sg_T} {fn : Nat → Option Nat} {cx : cx_T} {P : Nat → Int32} (hB : BR 1 cg P) (hb : tbO P) {d n : Nat} {vn : Int32} (hn : P 8 = nI n) (n1 : n ≤ 120) (hvn : vn = nI n) : am_Met mi_X9_faultOf d 0 0 [.ref 3, .int vn] (hc cg fn cx) (fun r' h' => ∃ v, r' = some (.int v) ∧ foO P v ∧ h' = (hc cg fn cx)) := by
  refine am_Met.of rfl (Nat.le_of_ble_eq_true rfl) ?_
  refine am_go ok_X9_faultOf [10] 68 ?_
  exact c_fo_l hB hb hn n1 hvn (n + 1) 0 0 0 0 1 0 0 none rfl rfl ⟨fun _ => rfl, fun z => absurd rfl z⟩ ⟨fun z => absurd z (by decide), fun z => absurd z (by decide)⟩ ⟨rfl, rfl⟩ (by omega) (by omega)
