/-! TITLES, THE IMAGE, HOLES that are filled -/
def tiB (P : Nat → Int32) (f : Nat) : Bool := alN (fun t => decide (¬ P (1022 + t) = nI f)) (pn P 5)
def tiF (P : Nat → Int32) (q : Nat) : Nat := syN P (P 0) q (pn P (126 + q) - 1)
def sp_title (P : Nat → Int32) (q : Int32) : Int32 := if ¬ inI q 0 (P 4 - 1) then -1 else if ¬ tkB P (lkV P (trP P) (P 0)) (cN q) = true then -3 else if ¬ tiB P (tiF P (cN q)) = true then -3 else if P 5 = 10 then -4 else P 5
def sp_titleP (P : Nat → Int32) (q : Int32) : Nat → Int32 := if inI q 0 (P 4 - 1) ∧ tkB P (lkV P (trP P) (P 0)) (cN q) = true ∧ tiB P (tiF P (cN q)) = true ∧ ¬ P 5 = 10 then upd (upd (upd (upd P (1002 + pn P 5) q) (1012 + pn P 5) (P 0)) (1022 + pn P 5) (nI (tiF P (cN q)))) 5 (nI (pn P 5 + 1)) else P
theorem alN_t {b : Nat → Bool} : ∀ {n : Nat}, (∀ k, k < n → b k = true) → alN b n = true
  | 0, _ => rfl
  | n + 1, h => by rw [alN, alN_t (fun k hk => h k (by omega)), h n (by omega)]; rfl
theorem alN_i {b : Nat → Bool} : ∀ {n : Nat}, alN b n = true ↔ ∀ k, k < n → b k = true
  | n => ⟨fun h k hk => by cases e : b k; (rw [alN_f e n hk] at h; cases h); rfl, alN_t⟩
theorem m_title_l {sg0 sg : sg_T} {d kc ks : Nat} {Q T j f : Nat} {q w : Int32} (fr : frL sg0 sg) (hT : ttA (sg0 1) Q T) (hq : q = nI j) (cj : cN q = j) (u1 : inI q 0 (sg0 1 4 - 1)) (uk : tkB (sg0 1) (lkV (sg0 1) (trP (sg0 1)) (sg0 1 0)) (cN q) = true) (hw : w = nI f) (hf : f = tiF (sg0 1) (cN q)) (f750 : f < 750) : ∀ (u t : Nat) (z : Int32), z = nI t → (∀ i, i < t → ¬ sg0 1 (1022 + i) = nI f) → t ≤ T → T < t + u → am_W mi_X12_title d (mOut sg0 (sp_title (sg0 1) q) (sp_titleP (sg0 1) q)) kc ks 52 [some (.ref 0), some (.int q), some (.int w), some (.int z)] [] (hm sg) := by
  intro u
  induction u with
  | zero => intro t z hz hn h1 h2; exact absurd h2 (by omega)
  | succ u ih =>
    intro t z hz hn h1 h2
    refine am_go ok_X12_title [52] 119 ?_
    have t10 := hT.2.1
    have e1 : sg 1 = sg0 1 := fr 1 (by decide)
    have p5 : pn (sg0 1) 5 = T := pn_of hT.1 (by omega)
    refine ⟨_, _, rfl, rfl, ?_⟩
    refine ⟨_, _, 5, rfl, rfl, Nat.le_of_ble_eq_true rfl, Nat.le_of_ble_eq_true rfl, ?_⟩
    rw [e1, hT.1]
    refine ⟨fun c59 => ?_, fun c59 => ?_⟩
    · rw [hz] at c59
      have k1 : t = T := by have := (nI_leI (by omega) (by omega)).mp c59; omega
      subst k1
      have ut : tiB (sg0 1) (tiF (sg0 1) (cN q)) = true := by
        unfold tiB; rw [p5, ← hf]; exact alN_t (fun i hi => decide_eq_true (hn i hi))
      refine ⟨_, _, rfl, rfl, ?_⟩
      refine ⟨_, _, 5, rfl, rfl, Nat.le_of_ble_eq_true rfl, Nat.le_of_ble_eq_true rfl, ?_⟩
      rw [e1, hT.1]
      refine ⟨fun c93 => ?_, fun c93 => ?_⟩
      · have u10 : ¬ sg0 1 5 = 10 := by rw [hT.1]; exact c93
        have l10 : t < 10 := by
          rcases (show t = 10 ∨ t < 10 by omega) with e | e
          · exact absurd (by rw [e]; rfl) c93
          · exact e
        refine ⟨_, _, rfl, rfl, ?_⟩
        refine ⟨_, _, rfl, rfl, ?_⟩
        refine ⟨_, _, 5, rfl, rfl, Nat.le_of_ble_eq_true rfl, Nat.le_of_ble_eq_true rfl, ?_⟩
        rw [e1, hT.1]
        refine ⟨_, _, (1002 + t), rfl, (nI_add 1002 t), by omega, Nat.le_of_ble_eq_true rfl, ?_⟩
        rw [hm_a1]
        rw [sgP_u0, e1]
        refine ⟨_, _, rfl, rfl, ?_⟩
        refine ⟨_, _, rfl, rfl, ?_⟩
        refine ⟨_, _, 5, rfl, rfl, Nat.le_of_ble_eq_true rfl, Nat.le_of_ble_eq_true rfl, ?_⟩
        rw [sgP_1, pk_un (by omega), hT.1]
        refine ⟨_, _, rfl, rfl, ?_⟩
        refine ⟨_, _, 0, rfl, rfl, Nat.le_of_ble_eq_true rfl, Nat.le_of_ble_eq_true rfl, ?_⟩
        rw [sgP_1, pk_un (by omega)]
        refine ⟨_, _, (1012 + t), rfl, (nI_add 1012 t), by omega, Nat.le_of_ble_eq_true rfl, ?_⟩
        rw [hm_a1]
        rw [sgP_u]
        refine ⟨_, _, rfl, rfl, ?_⟩
        refine ⟨_, _, rfl, rfl, ?_⟩
        refine ⟨_, _, 5, rfl, rfl, Nat.le_of_ble_eq_true rfl, Nat.le_of_ble_eq_true rfl, ?_⟩
        rw [sgP_1, pk_un (by omega), pk_un (by omega), hT.1]
        refine ⟨_, _, (1022 + t), rfl, (nI_add 1022 t), by omega, Nat.le_of_ble_eq_true rfl, ?_⟩
        rw [hm_a1]
        rw [sgP_u]
        refine ⟨_, _, rfl, rfl, ?_⟩
        refine ⟨_, _, 5, rfl, rfl, Nat.le_of_ble_eq_true rfl, Nat.le_of_ble_eq_true rfl, ?_⟩
        rw [sgP_1, pk_un (by omega), pk_un (by omega), pk_un (by omega), hT.1]
        refine ⟨_, _, 5, rfl, rfl, Nat.le_of_ble_eq_true rfl, Nat.le_of_ble_eq_true rfl, ?_⟩
        rw [hm_a1]
        rw [nI_1, sgP_u]
        refine ⟨_, _, rfl, rfl, ?_⟩
        refine ⟨_, _, 5, rfl, rfl, Nat.le_of_ble_eq_true rfl, Nat.le_of_ble_eq_true rfl, ?_⟩
        rw [sgP_1, pk_us]
        refine ⟨trivial, ?_⟩
        rw [nI_pred]
        unfold sp_title sp_titleP
        rw [if_neg (fun z => z u1), if_neg (fun z => z uk), if_neg (fun z => z ut), if_neg u10, if_pos ⟨u1, uk, ut, u10⟩, p5, hT.1, ← hf, hw]
        exact ⟨_, rfl, rfl, rfl, by rw [sgP_a (by decide)]; exact fr 2 (by decide), by rw [sgP_a (by decide), fr 0 (by decide)]⟩
      · have u10 : sg0 1 5 = 10 := by rw [hT.1]; exact c93
        refine ⟨trivial, ?_⟩
        unfold sp_title sp_titleP
        rw [if_neg (fun z => z u1), if_neg (fun z => z uk), if_neg (fun z => z ut), if_pos u10, if_neg (fun z => z.2.2.2 u10)]
        exact mOut_L fr rfl
    · have k1 : t < T := by
        rcases Nat.lt_or_ge t T with q1 | q1
        · exact q1
        · exact absurd (by rw [hz]; exact (nI_leI (by omega) (by omega)).mpr q1) c59
      refine ⟨_, _, rfl, rfl, ?_⟩
      refine ⟨_, _, (1022 + t), rfl, (by rw [hz]; exact nI_add 1022 t), by omega, Nat.le_of_ble_eq_true rfl, ?_⟩
      rw [e1]
      refine ⟨fun c73 => ?_, fun c73 => ?_⟩
      · refine ih (t + 1) _ (by rw [hz]; exact nI_1 t) (fun i hi => ?_) (by omega) (by omega)
        rcases (show i = t ∨ i < t by omega) with e | e
        · subst e; rw [← hw]; exact c73
        · exact hn i e
      · have ut : ¬ tiB (sg0 1) (tiF (sg0 1) (cN q)) = true := by
          unfold tiB; rw [p5, ← hf]
          intro z
          exact of_decide_eq_true (alN_i.mp z t k1) (by rw [c73, hw])
        refine ⟨trivial, ?_⟩
        unfold sp_title sp_titleP
        rw [if_neg (fun z => z u1), if_neg (fun z => z uk), if_pos ut, if_neg (fun z => ut z.2.2.1)]
        exact mOut_L fr rfl
theorem m_title {sg : sg_T} {d : Nat} (hd : 460 ≤ d) {R C n0 Q : Nat} (hW : wkA (sg 1) R C n0) (hA : pfA (sg 1) R Q) {T : Nat} (hT : ttA (sg 1) Q T) (q : Int32) : am_Met mi_X12_title d 0 0 [.ref 0, .int q] (hm sg) (mOut sg (sp_title (sg 1) q) (sp_titleP (sg 1) q)) := by
  refine am_Met.of rfl (Nat.le_of_ble_eq_true rfl) ?_
  refine am_go ok_X12_title [52] 90 ?_
  refine ⟨_, rfl, d - 1, 0, 0, _, by omega, Nat.le_of_ble_eq_true rfl, Nat.le_of_ble_eq_true rfl, Nat.le_of_ble_eq_true rfl, m_isProof (by omega) q, ?_⟩
  rintro _ _ ⟨rfl, rfl⟩
  refine ⟨Or.inl rfl, ?_⟩
  refine ⟨fun c5 => ?_, fun c5 => ?_⟩
  · have h12 := hA.2.1
    have u1 : inI q 0 (sg 1 4 - 1) := bI_t c5
    obtain ⟨j, ej, cj, hj⟩ := ix_at hA.1 (by omega) u1
    obtain ⟨q12, ⟨kk, k5, ek, pk⟩, st, s12, es, ps, hRw⟩ := pf_q hA hj
    refine ⟨_, _, rfl, rfl, ?_⟩
    refine ⟨_, _, 0, rfl, rfl, Nat.le_of_ble_eq_true rfl, Nat.le_of_ble_eq_true rfl, ?_⟩
    refine ⟨_, rfl, d - 1, 0, 0, _, by omega, Nat.le_of_ble_eq_true rfl, Nat.le_of_ble_eq_true rfl, Nat.le_of_ble_eq_true rfl, m_isTaken (q := j) hW hA ej hj (by omega), ?_⟩
    rintro _ _ ⟨sg', rfl, rfl, fr⟩
    refine ⟨Or.inl rfl, ?_⟩
    have e1 : sg' 1 = sg 1 := fr 1 (by decide)
    refine ⟨fun c21 => ?_, fun c21 => ?_⟩
    · have uk : tkB (sg 1) (lkV (sg 1) (trP (sg 1)) (sg 1 0)) (cN q) = true := by
        rw [cj]
        cases h : tkB (sg 1) (lkV (sg 1) (trP (sg 1)) (sg 1 0)) j
        · rw [h] at c21; exact absurd rfl c21
        · rfl
      have s0 : 0 < st := by
        rcases Nat.eq_zero_or_pos st with z | z
        · have uk' := uk
          unfold tkB at uk'
          rw [cj, ps, decide_eq_false (fun w => w z)] at uk'
          cases uk'
        · exact z
      refine ⟨_, _, rfl, rfl, ?_⟩
      refine ⟨_, _, (126 + j), rfl, (by rw [ej]; exact nI_add 126 j), by omega, Nat.le_of_ble_eq_true rfl, ?_⟩
      rw [e1, es]
      refine ⟨_, _, rfl, rfl, ?_⟩
      refine ⟨_, _, 0, rfl, rfl, Nat.le_of_ble_eq_true rfl, Nat.le_of_ble_eq_true rfl, ?_⟩
      rw [e1]
      refine ⟨_, rfl, d - 1, 0, 0, _, by omega, Nat.le_of_ble_eq_true rfl, Nat.le_of_ble_eq_true rfl, Nat.le_of_ble_eq_true rfl, m_saysOn (q := j) (s := st - 1) (by omega) (by rw [e1]; exact hW) ej (by rw [show st = (st - 1) + 1 by omega, nI_pred]; rfl) ⟨q12, by omega⟩ (by rw [e1]; exact hRw _ (by omega)), ?_⟩
      rintro _ _ ⟨sg2, rfl, rfl, fr2⟩
      refine ⟨Or.inl rfl, ?_⟩
      rw [e1]
      have hf : syN (sg 1) (sg 1 0) j (st - 1) = tiF (sg 1) (cN q) := by unfold tiF; rw [cj, ps]
      exact m_title_l (fun a ha => (fr2 a ha).trans (fr a ha)) hT ej cj u1 uk rfl hf (sy_lt hW (hRw _ (by omega))) (T + 1) 0 0 rfl (fun _ z => absurd z (by omega)) (by omega) (by omega)
    · have uk : ¬ tkB (sg 1) (lkV (sg 1) (trP (sg 1)) (sg 1 0)) (cN q) = true := by rw [cj, bI_0.mp c21]; decide
      refine ⟨trivial, ?_⟩
      unfold sp_title sp_titleP
      rw [if_neg (fun z => z u1), if_pos uk, if_neg (fun z => uk z.2.1)]
      exact mOut_L fr rfl
  · have u1 : ¬ inI q 0 (sg 1 4 - 1) := bI_f c5
    refine ⟨trivial, ?_⟩
    unfold sp_title sp_titleP
    rw [if_pos u1, if_neg (fun z => u1 z.1)]
    exact mOut_s rfl
def cpU (f g : Nat → Int32) (k : Nat) : Nat → Int32 := fun j => if j < k then f j else g j
theorem cpU_s (f g : Nat → Int32) (k : Nat) : upd (cpU f g k) k (f k) = cpU f g (k + 1) := by
  funext j
  unfold cpU upd
  by_cases h : j = k
  · subst h; simp
  · by_cases h2 : j < k
    · simp [h, h2, show j < k + 1 by omega]
    · simp [h, h2, show ¬ j < k + 1 by omega]
theorem cpU_0 (f g : Nat → Int32) : cpU f g 0 = g := by funext j; simp [cpU]
theorem cpU_e {f g : Nat → Int32} {n : Nat} (h : ∀ j, n ≤ j → f j = g j) : cpU f g n = f := by
  funext j
  unfold cpU
  by_cases h2 : j < n
  · simp [h2]
  · simp [h2, h j (by omega)]
def sgI (sg : sg_T) (F : Nat → Int32) : sg_T := fun a => if a = 2 then F else sg a
theorem sgI_2 (sg : sg_T) (F : Nat → Int32) : sgI sg F 2 = F := rfl
theorem sgI_a {sg : sg_T} {F : Nat → Int32} {a : Nat} (h : a ≠ 2) : sgI sg F a = sg a := if_neg h
theorem sgI_s (sg : sg_T) : sgI sg (sg 2) = sg := by funext a; unfold sgI; split; (rename_i h; rw [h]); rfl
theorem sgI_u {sg : sg_T} {F : Nat → Int32} {j : Nat} {x : Int32} : sg_u (sgI sg F) 2 j x = sgI sg (upd F j x) := by
  funext a; unfold sg_u sgI; split <;> simp_all
/-- behind their ends the rows are 0 -/
def tlZ (P : Nat → Int32) : Prop := ∀ j, 3228 ≤ j → P j = 0
theorem tlZ_u {P : Nat → Int32} {j : Nat} {x : Int32} (h : tlZ P) (hj : j < 3228) : tlZ (upd P j x) := fun i hi => by rw [pk_un (by omega)]; exact h i hi
theorem m_image_l {sg : sg_T} {d kc ks : Nat} (h1z : tlZ (sg 1)) (h2z : tlZ (sg 2)) : ∀ (u k : Nat) (z : Int32), z = nI k → k ≤ 3228 → 3228 < k + u → am_W mi_X12_image d (fun r h' => r = some (.int (sg 1 0)) ∧ ∃ sg', h' = hm sg' ∧ sg' 1 = sg 1 ∧ sg' 2 = sg 1 ∧ sg' 0 2 = 1) kc ks 2 [some (.ref 0), some (.int z)] [] (hm (sgI sg (cpU (sg 1) (sg 2) k))) := by
  intro u
  induction u with
  | zero => intro k z hz h1 h2; exact absurd h2 (by omega)
  | succ u ih =>
    intro k z hz h1 h2
    refine am_go ok_X12_image [2] 73 ?_
    refine ⟨fun c6 => ?_, fun c6 => ?_⟩
    · rw [hz] at c6
      have k1 : k = 3228 := by have := (nI_leI (a := 3228) (by omega) (by omega)).mp c6; omega
      subst k1
      refine ⟨_, rfl, Nat.le_of_ble_eq_true rfl, (bI_fit true), ?_⟩
      rw [hm_f0_2]
      refine ⟨_, _, rfl, rfl, ?_⟩
      refine ⟨_, _, 0, rfl, rfl, Nat.le_of_ble_eq_true rfl, Nat.le_of_ble_eq_true rfl, ?_⟩
      refine ⟨trivial, ?_⟩
      refine ⟨by rw [sg_i (by decide), sgI_a (by decide)], _, rfl, by rw [sg_i (by decide), sgI_a (by decide)], ?_, sg_s⟩
      rw [sg_i (by decide), sgI_2]
      exact cpU_e (fun j hj => (h1z j hj).trans (h2z j hj).symm)
    · have k1 : k < 3228 := by
        rcases Nat.lt_or_ge k 3228 with q1 | q1
        · exact q1
        · exact absurd (by rw [hz]; exact (nI_leI (a := 3228) (by omega) (by omega)).mpr q1) c6
      refine ⟨_, _, rfl, rfl, ?_⟩
      refine ⟨_, _, rfl, rfl, ?_⟩
      refine ⟨_, _, k, rfl, hz, by omega, Nat.le_of_ble_eq_true rfl, ?_⟩
      refine ⟨_, _, k, rfl, hz, by omega, Nat.le_of_ble_eq_true rfl, ?_⟩
      rw [hm_a2]
      rw [sgI_u, sgI_a (by decide), cpU_s]
      exact ih (k + 1) _ (by rw [hz]; exact nI_1 k) (by omega) (by omega)
theorem m_image {sg : sg_T} {d : Nat} (h1z : tlZ (sg 1)) (h2z : tlZ (sg 2)) : am_Met mi_X12_image d 0 0 [.ref 0] (hm sg) (fun r h' => r = some (.int (sg 1 0)) ∧ ∃ sg', h' = hm sg' ∧ sg' 1 = sg 1 ∧ sg' 2 = sg 1 ∧ sg' 0 2 = 1) := by
  refine am_Met.of rfl (Nat.le_of_ble_eq_true rfl) ?_
  refine am_go ok_X12_image [2] 62 ?_
  have h9 := m_image_l (sg := sg) (d := d) (kc := 0) (ks := 0) h1z h2z 3229 0 0 rfl (by omega) (by omega)
  rw [cpU_0, sgI_s] at h9
  exact h9
theorem m_undo_l {sg : sg_T} {d kc ks : Nat} (h1z : tlZ (sg 1)) (h2z : tlZ (sg 2)) : ∀ (u k : Nat) (z : Int32), z = nI k → k ≤ 3228 → 3228 < k + u → am_W mi_X12_undo d (mOut sg (sg 2 0) (sg 2)) kc ks 12 [some (.ref 0), some (.int z)] [] (hm (sgP sg (cpU (sg 2) (sg 1) k))) := by
  intro u
  induction u with
  | zero => intro k z hz h1 h2; exact absurd h2 (by omega)
  | succ u ih =>
    intro k z hz h1 h2
    refine am_go ok_X12_undo [12] 73 ?_
    refine ⟨fun c16 => ?_, fun c16 => ?_⟩
    · rw [hz] at c16
      have k1 : k = 3228 := by have := (nI_leI (a := 3228) (by omega) (by omega)).mp c16; omega
      subst k1
      rw [cpU_e (fun j hj => (h2z j hj).trans (h1z j hj).symm)]
      refine ⟨_, _, rfl, rfl, ?_⟩
      refine ⟨_, _, 0, rfl, rfl, Nat.le_of_ble_eq_true rfl, Nat.le_of_ble_eq_true rfl, ?_⟩
      refine ⟨trivial, ?_⟩
      exact ⟨_, rfl, rfl, rfl, rfl, rfl⟩
    · have k1 : k < 3228 := by
        rcases Nat.lt_or_ge k 3228 with q1 | q1
        · exact q1
        · exact absurd (by rw [hz]; exact (nI_leI (a := 3228) (by omega) (by omega)).mpr q1) c16
      refine ⟨_, _, rfl, rfl, ?_⟩
      refine ⟨_, _, rfl, rfl, ?_⟩
      refine ⟨_, _, k, rfl, hz, by omega, Nat.le_of_ble_eq_true rfl, ?_⟩
      refine ⟨_, _, k, rfl, hz, by omega, Nat.le_of_ble_eq_true rfl, ?_⟩
      rw [hm_a1]
      rw [sgP_u, sgP_a (by decide), cpU_s]
      exact ih (k + 1) _ (by rw [hz]; exact nI_1 k) (by omega) (by omega)
theorem m_undo_0 {sg : sg_T} {d : Nat} (h0 : sg 0 2 = 0) : am_Met mi_X12_undo d 0 0 [.ref 0] (hm sg) (mOut sg (-3) (sg 1)) := by
  refine am_Met.of rfl (Nat.le_of_ble_eq_true rfl) ?_
  refine am_go ok_X12_undo [] 64 ?_
  refine ⟨_, _, rfl, rfl, ?_⟩
  refine ⟨fun c4 => absurd c4 (fun z => z h0), fun _ => ?_⟩
  refine ⟨trivial, ?_⟩
  exact mOut_s rfl
theorem m_undo_1 {sg : sg_T} {d : Nat} (h0 : ¬ sg 0 2 = 0) (h1z : tlZ (sg 1)) (h2z : tlZ (sg 2)) : am_Met mi_X12_undo d 0 0 [.ref 0] (hm sg) (mOut sg (sg 2 0) (sg 2)) := by
  refine am_Met.of rfl (Nat.le_of_ble_eq_true rfl) ?_
  refine am_go ok_X12_undo [12] 65 ?_
  refine ⟨_, _, rfl, rfl, ?_⟩
  refine ⟨fun _ => ?_, fun c4 => absurd c4 h0⟩
  have h9 := m_undo_l (sg := sg) (d := d) (kc := 0) (ks := 0) h1z h2z 3229 0 0 rfl (by omega) (by omega)
  rw [cpU_0, sgP_s] at h9
  exact h9
def flP (P : Nat → Int32) (q s k : Nat) (fr : Int32) : Bool := decide (inI fr 0 (P 3 - 1) ∧ P (94 + cN fr) = 0 ∧ P (54 + cN fr) = nI (trN P (P 0) q s k))
def flS (P : Nat → Int32) (q s k : Nat) (fr : Int32) : Bool := decide (inI fr 100 (100 + nI s - 1) ∧ syN P (P 0) q (cN fr - 100) = trN P (P 0) q s k)
def flB (P : Nat → Int32) (q s k : Nat) (fr : Int32) : Prop := k < pn P (txX P (pn P (rwX q s)) (P 0)) ∧ (flP P q s k fr = true ∨ flS P q s k fr = true)
def flR (P : Nat → Int32) (q s k : Nat) (fr v : Int32) (P' : Nat → Int32) : Prop := (¬ flB P q s k fr ∧ v = -3 ∧ P' = P) ∨ (flB P q s k fr ∧ P' = upd P (rwX q s + 3 + k) fr ∧ hoR P' q (-1) v)
def sp_fill (P : Nat → Int32) (q fr v : Int32) (P' : Nat → Int32) : Prop := (¬ inI q 0 (P 4 - 1) ∧ v = -1 ∧ P' = P) ∨ (inI q 0 (P 4 - 1) ∧ ((hoR P (cN q) 0 (-1) ∧ v = -3 ∧ P' = P) ∨ ∃ s k, (pn P (114 + cN q) = 1 ∨ pn P (114 + cN q) = 4) ∧ hoP P (cN q) (pn P (126 + cN q)) 0 s k ∧ flR P (cN q) s k fr v P'))
theorem pfA_u {P : Nat → Int32} {R Q q s k : Nat} {x : Int32} (h : pfA P R Q) (hq : q < 12) (hs : s < 12) (hk : k < 3) : pfA (upd P (rwX q s + 3 + k) x) R Q := by
  obtain ⟨h1, h2, h3⟩ := h
  refine ⟨by rw [pk_un (by unfold rwX; omega)]; exact h1, h2, fun a ha => ?_⟩
  obtain ⟨⟨kk, k5, ek⟩, st, s12, es, hr⟩ := h3 a ha
  refine ⟨⟨kk, k5, by rw [pk_un (by unfold rwX; omega)]; exact ek⟩, st, s12, by rw [pk_un (by unfold rwX; omega)]; exact es, fun j hj => ?_⟩
  obtain ⟨⟨r, hr1, er⟩, ⟨n, hn, en⟩, t, t1, t3, et⟩ := hr j hj
  exact ⟨⟨r, hr1, by rw [pk_un (by unfold rwX; omega)]; exact er⟩, ⟨n, hn, by rw [pk_un (by unfold rwX; omega)]; exact en⟩, t, t1, t3, by rw [pk_un (by unfold rwX; omega)]; exact et⟩
theorem m_fill_c {sg0 sg : sg_T} {d kc ks : Nat} (hd : 460 ≤ d) {R C n0 Q j s k st : Nat} (hW : wkA (sg0 1) R C n0) (hA : pfA (sg0 1) R Q) (fr : frL sg0 sg) {q from' : Int32} {z3 z4 z5 z6 z7 : Int32} (ej : q = nI j) (hj : j < Q) (ps : pn (sg0 1) (126 + j) = st) (s12 : st ≤ 12) (hRw : ∀ i, i < st → okR (sg0 1) R (rwX j i)) (hs : s < st) (hk : k < 3) (e4 : z4 = nI s) (e5 : z5 = nI k) (e6 : z6 = nI (rwX j s)) (e7 : z7 = nI (trN (sg0 1) (sg0 1 0) j s k)) (kt : k < pn (sg0 1) (txX (sg0 1) (pn (sg0 1) (rwX j s)) (sg0 1 0))) {b1 b2 : Bool} (h1 : b1 = flP (sg0 1) j s k from') (h2 : b2 = flS (sg0 1) j s k from') : am_W mi_X12_fill d (fun r h' => ∃ v P', flR (sg0 1) j s k from' v P' ∧ mOut sg0 v P' r h') kc ks 220 [some (.ref 0), some (.int q), some (.int from'), some (.int z3), some (.int z4), some (.int z5), some (.int z6), some (.int z7), some (.int (bI b1)), some (.int (bI b2))] [] (hm sg) := by
  refine am_go ok_X12_fill [] 77 ?_
  have q12 := hA.2.1
  have e1 : sg 1 = sg0 1 := fr 1 (by decide)
  have rb : rwX j s + 6 ≤ 1002 := by unfold rwX; omega
  refine ⟨fun c222 => ?_, fun c222 => ?_⟩
  · have hB : flB (sg0 1) j s k from' := by
      first
        | exact ⟨kt, Or.inl (by rw [← h1]; cases b1; exact absurd rfl c222; rfl)⟩
        | exact ⟨kt, Or.inr (by rw [← h2]; cases b2; exact absurd rfl c227; rfl)⟩
    refine ⟨_, _, rfl, rfl, ?_⟩
    refine ⟨_, _, (rwX j s + 3 + k), rfl, (by rw [e6, e5]; show nI _ + nI 3 + nI k = _; rw [nI_add, nI_add]), by omega, Nat.le_of_ble_eq_true rfl, ?_⟩
    rw [hm_a1]
    rw [sgP_u0, e1]
    refine ⟨_, rfl, d - 1, 0, 0, _, by omega, Nat.le_of_ble_eq_true rfl, Nat.le_of_ble_eq_true rfl, Nat.le_of_ble_eq_true rfl, m_holes (q := j) (by omega) (R := R) (Q := Q) (by rw [sgP_1]; exact pfA_u hA (by omega) (by omega) hk) ej hj, ?_⟩
    rintro _ _ ⟨v, rfl, hv, rfl⟩
    refine ⟨Or.inl rfl, ?_⟩
    refine ⟨trivial, ?_⟩
    exact ⟨v, _, Or.inr ⟨hB, rfl, hv⟩, _, rfl, rfl, rfl, by rw [sgP_a (by decide)]; exact fr 2 (by decide), by rw [sgP_a (by decide), fr 0 (by decide)]⟩
  · refine ⟨fun c227 => ?_, fun c227 => ?_⟩
    · have hB : flB (sg0 1) j s k from' := by
        first
          | exact ⟨kt, Or.inl (by rw [← h1]; cases b1; exact absurd rfl c222; rfl)⟩
          | exact ⟨kt, Or.inr (by rw [← h2]; cases b2; exact absurd rfl c227; rfl)⟩
      refine ⟨_, _, rfl, rfl, ?_⟩
      refine ⟨_, _, (rwX j s + 3 + k), rfl, (by rw [e6, e5]; show nI _ + nI 3 + nI k = _; rw [nI_add, nI_add]), by omega, Nat.le_of_ble_eq_true rfl, ?_⟩
      rw [hm_a1]
      rw [sgP_u0, e1]
      refine ⟨_, rfl, d - 1, 0, 0, _, by omega, Nat.le_of_ble_eq_true rfl, Nat.le_of_ble_eq_true rfl, Nat.le_of_ble_eq_true rfl, m_holes (q := j) (by omega) (R := R) (Q := Q) (by rw [sgP_1]; exact pfA_u hA (by omega) (by omega) hk) ej hj, ?_⟩
      rintro _ _ ⟨v, rfl, hv, rfl⟩
      refine ⟨Or.inl rfl, ?_⟩
      refine ⟨trivial, ?_⟩
      exact ⟨v, _, Or.inr ⟨hB, rfl, hv⟩, _, rfl, rfl, rfl, by rw [sgP_a (by decide)]; exact fr 2 (by decide), by rw [sgP_a (by decide), fr 0 (by decide)]⟩
    · have hB : ¬ flB (sg0 1) j s k from' := by
        rintro ⟨-, z | z⟩
        · rw [← h1, bI_0.mp c222] at z; cases z
        · rw [← h2, bI_0.mp c227] at z; cases z
      exact ⟨trivial, -3, _, Or.inl ⟨hB, rfl, rfl⟩, mOut_L fr rfl⟩
theorem m_fill_b {sg0 sg : sg_T} {d kc ks : Nat} (hd : 460 ≤ d) {R C n0 Q j s k st : Nat} (hW : wkA (sg0 1) R C n0) (hA : pfA (sg0 1) R Q) (fr : frL sg0 sg) {q from' : Int32} {z3 z4 z5 z6 z7 : Int32} (ej : q = nI j) (hj : j < Q) (ps : pn (sg0 1) (126 + j) = st) (s12 : st ≤ 12) (hRw : ∀ i, i < st → okR (sg0 1) R (rwX j i)) (hs : s < st) (hk : k < 3) (e4 : z4 = nI s) (e5 : z5 = nI k) (e6 : z6 = nI (rwX j s)) (e7 : z7 = nI (trN (sg0 1) (sg0 1 0) j s k)) (kt : k < pn (sg0 1) (txX (sg0 1) (pn (sg0 1) (rwX j s)) (sg0 1 0))) {b1 : Bool} (h1 : b1 = flP (sg0 1) j s k from') : am_W mi_X12_fill d (fun r h' => ∃ v P', flR (sg0 1) j s k from' v P' ∧ mOut sg0 v P' r h') kc ks 157 [some (.ref 0), some (.int q), some (.int from'), some (.int z3), some (.int z4), some (.int z5), some (.int z6), some (.int z7), some (.int (bI b1)), none] [] (hm sg) := by
  refine am_go ok_X12_fill [157, 220] 94 ?_
  have q12 := hA.2.1
  have e1 : sg 1 = sg0 1 := fr 1 (by decide)
  have trl : trN (sg0 1) (sg0 1 0) j s k < 750 := tr_lt hW (hRw s hs) kt
  refine ⟨d - 1, 0, 0, _, by omega, Nat.le_of_ble_eq_true rfl, Nat.le_of_ble_eq_true rfl, Nat.le_of_ble_eq_true rfl, m_in (d - 1) from' 100 _, ?_⟩
  rintro _ _ ⟨rfl, rfl⟩
  refine ⟨Or.inl rfl, ?_⟩
  rw [e4]
  refine ⟨fun c170 => ?_, fun c170 => ?_⟩
  · have h2 : false = flS (sg0 1) j s k from' := (decide_eq_false (fun z => bI_f c170 z.1)).symm
    first
      | exact m_fill_c hd hW hA fr ej hj ps s12 hRw hs hk rfl e5 e6 e7 kt h1 h2
      | exact m_fill_c hd hW hA (fun a ha => (fr' a ha).trans (fr a ha)) ej hj ps s12 hRw hs hk rfl e5 e6 rfl kt h1 h2
  · have u1 := bI_t c170
    obtain ⟨i, ei, il, iu⟩ := rg_of (lo := 100) (n := s) (by omega) u1.1 u1.2
    have ci : cN from' - 100 = i - 100 := by rw [cN_of ei (by omega)]
    refine ⟨d - 1, 0, 0, _, by omega, Nat.le_of_ble_eq_true rfl, Nat.le_of_ble_eq_true rfl, Nat.le_of_ble_eq_true rfl, m_in (d - 1) from' 100 _, ?_⟩
    rintro _ _ ⟨rfl, rfl⟩
    refine ⟨Or.inl rfl, ?_⟩
    refine ⟨fun c188 => absurd c188 c170, fun _ => ?_⟩
    refine ⟨_, _, rfl, rfl, ?_⟩
    refine ⟨_, _, 0, rfl, rfl, Nat.le_of_ble_eq_true rfl, Nat.le_of_ble_eq_true rfl, ?_⟩
    refine ⟨_, rfl, d - 1, 0, 0, _, by omega, Nat.le_of_ble_eq_true rfl, Nat.le_of_ble_eq_true rfl, Nat.le_of_ble_eq_true rfl, m_saysOn (q := j) (s := i - 100) (by omega) (by rw [e1]; exact hW) ej (by rw [ei]; exact pk_sub il) ⟨by omega, by omega⟩ (by rw [e1]; exact hRw _ (by omega)), ?_⟩
    rintro _ _ ⟨sg', rfl, rfl, fr'⟩
    refine ⟨Or.inl rfl, ?_⟩
    rw [e1, e7]
    have sl : syN (sg0 1) (sg0 1 0) j (i - 100) < 750 := sy_lt hW (hRw _ (by omega))
    refine ⟨fun c210 => ?_, fun c210 => ?_⟩
    · have h2 : false = flS (sg0 1) j s k from' := (decide_eq_false (fun z => c210 (by rw [ci] at z; rw [z.2]))).symm
      first
        | exact m_fill_c hd hW hA fr ej hj ps s12 hRw hs hk rfl e5 e6 e7 kt h1 h2
        | exact m_fill_c hd hW hA (fun a ha => (fr' a ha).trans (fr a ha)) ej hj ps s12 hRw hs hk rfl e5 e6 rfl kt h1 h2
    · have h2 : true = flS (sg0 1) j s k from' := (decide_eq_true ⟨u1, by rw [ci]; exact (nI_eq (by omega) (by omega)).mp c210⟩).symm
      first
        | exact m_fill_c hd hW hA fr ej hj ps s12 hRw hs hk rfl e5 e6 e7 kt h1 h2
        | exact m_fill_c hd hW hA (fun a ha => (fr' a ha).trans (fr a ha)) ej hj ps s12 hRw hs hk rfl e5 e6 rfl kt h1 h2
theorem m_fill {sg : sg_T} {d : Nat} (hd : 460 ≤ d) {R C n0 Q : Nat} (hW : wkA (sg 1) R C n0) (hA : pfA (sg 1) R Q) (q from' : Int32) : am_Met mi_X12_fill d 0 0 [.ref 0, .int q, .int from'] (hm sg) (fun r h' => ∃ v P', sp_fill (sg 1) q from' v P' ∧ mOut sg v P' r h') := by
  refine am_Met.of rfl (Nat.le_of_ble_eq_true rfl) ?_
  refine am_go ok_X12_fill [157] 141 ?_
  refine ⟨_, rfl, d - 1, 0, 0, _, by omega, Nat.le_of_ble_eq_true rfl, Nat.le_of_ble_eq_true rfl, Nat.le_of_ble_eq_true rfl, m_isProof (by omega) q, ?_⟩
  rintro _ _ ⟨rfl, rfl⟩
  refine ⟨Or.inl rfl, ?_⟩
  refine ⟨fun c5 => ?_, fun c5 => ?_⟩
  · have h12 := hA.2.1
    have u1 : inI q 0 (sg 1 4 - 1) := bI_t c5
    obtain ⟨j, ej, cj, hj⟩ := ix_at hA.1 (by omega) u1
    obtain ⟨q12, ⟨kk, k5, ek, pk⟩, st, s12, es, ps, hRw⟩ := pf_q hA hj
    obtain ⟨w1, w2, w3, w4, w5, w6, w7, w8, w9, w10, w11⟩ := id hW
    refine ⟨_, rfl, d - 1, 0, 0, _, by omega, Nat.le_of_ble_eq_true rfl, Nat.le_of_ble_eq_true rfl, Nat.le_of_ble_eq_true rfl, m_holes (q := j) (by omega) hA ej hj, ?_⟩
    rintro _ _ ⟨v, rfl, hv, rfl⟩
    refine ⟨Or.inl rfl, ?_⟩
    refine ⟨fun c19 => ?_, fun c19 => ?_⟩
    · have hx : (pn (sg 1) (114 + j) = 1 ∨ pn (sg 1) (114 + j) = 4) ∧ ∃ s k, hoP (sg 1) j (pn (sg 1) (126 + j)) 0 s k ∧ v = nI (10 * s + k) := by
        rcases hv with ⟨h1, h2 | ⟨-, h2⟩⟩ | ⟨h1, h2⟩
        · exact ⟨h1, h2⟩
        · exact absurd (by rw [h2]; exact if_neg (by decide)) c19
        · exact absurd (by rw [h2]; exact if_neg (by decide)) c19
      obtain ⟨hk1, s, k, hp, ev⟩ := hx
      have hs : s < st := by have := hp.1; rw [ps] at this; exact this
      obtain ⟨t, t3, et⟩ := okR_t (hRw s hs)
      have hk : k < 3 := by have := hp.2.1; rw [pn_of et (by omega)] at this; omega
      obtain ⟨⟨r, hr, er⟩, -, -⟩ := hRw s hs
      have d1 : v / 10 = nI s := by rw [ev]; exact (pk_div (d := 10) (by omega) (by omega) (by omega)).trans (by rw [show (10 * s + k) / 10 = s by omega])
      have d2 : v - v / 10 * 10 = nI k := by rw [ev]; exact (pk_rem (d := 10) (by omega) (by omega) (by omega)).trans (by rw [show (10 * s + k) % 10 = k by omega])
      have rb : rwX j s + 6 ≤ 1002 := by unfold rwX; omega
      have x20 : txN (sg 1) r (sg 1 0) < 20 := txN_lt (by omega) w3 w4 w5 w6
      have xb : txX (sg 1) r (sg 1 0) + 30 ≤ 2358 := by unfold txX; omega
      have pr := pn_of er (show r < 2 ^ 31 by omega)
      obtain ⟨⟨nt, n1, n3, ent⟩, -, -, -, -⟩ := wkA_x (dy := sg 1 0) hW hr
      refine ⟨by decide, ?_⟩
      refine ⟨by decide, ?_⟩
      refine ⟨d - 1, 0, 0, _, by omega, Nat.le_of_ble_eq_true rfl, Nat.le_of_ble_eq_true rfl, Nat.le_of_ble_eq_true rfl, m_stepAt (d - 1) q (v / 10), ?_⟩
      rintro _ _ ⟨rfl, rfl⟩
      refine ⟨Or.inl rfl, ?_⟩
      rw [d2, d1, ej, rwX_e]
      refine ⟨_, _, rfl, rfl, ?_⟩
      refine ⟨_, _, rfl, rfl, ?_⟩
      refine ⟨_, _, (rwX j s), rfl, rfl, by omega, Nat.le_of_ble_eq_true rfl, ?_⟩
      rw [er]
      refine ⟨_, _, rfl, rfl, ?_⟩
      refine ⟨_, _, 0, rfl, rfl, Nat.le_of_ble_eq_true rfl, Nat.le_of_ble_eq_true rfl, ?_⟩
      refine ⟨_, rfl, d - 1, 0, 0, _, by omega, Nat.le_of_ble_eq_true rfl, Nat.le_of_ble_eq_true rfl, Nat.le_of_ble_eq_true rfl, m_textOn (q := r) (n := C) (by omega) _ rfl (by omega) w3 w4 w5 w6, ?_⟩
      rintro _ _ ⟨rfl, rfl⟩
      refine ⟨Or.inl rfl, ?_⟩
      refine ⟨_, _, (txX (sg 1) r (sg 1 0)), rfl, rfl, by omega, Nat.le_of_ble_eq_true rfl, ?_⟩
      rw [ent]
      refine ⟨fun c69 => ?_, fun c69 => ?_⟩
      · have kt : k < pn (sg 1) (txX (sg 1) (pn (sg 1) (rwX j s)) (sg 1 0)) := by rw [pr, pn_of ent (by omega)]; exact (nI_ltI (by omega) (by omega)).mp c69
        refine ⟨_, _, rfl, rfl, ?_⟩
        refine ⟨_, _, 0, rfl, rfl, Nat.le_of_ble_eq_true rfl, Nat.le_of_ble_eq_true rfl, ?_⟩
        refine ⟨_, rfl, d - 1, 0, 0, _, by omega, Nat.le_of_ble_eq_true rfl, Nat.le_of_ble_eq_true rfl, Nat.le_of_ble_eq_true rfl, m_termOn (q := j) (s := s) (k := k) (by omega) hW rfl rfl rfl ⟨q12, by omega⟩ (hRw s hs) kt, ?_⟩
        rintro _ _ ⟨sg', rfl, rfl, fr⟩
        refine ⟨Or.inl rfl, ?_⟩
        have e1 : sg' 1 = sg 1 := fr 1 (by decide)
        have tl : trN (sg 1) (sg 1 0) j s k < 750 := tr_lt hW (hRw s hs) kt
        refine ⟨_, rfl, d - 1, 0, 0, _, by omega, Nat.le_of_ble_eq_true rfl, Nat.le_of_ble_eq_true rfl, Nat.le_of_ble_eq_true rfl, m_isPaper (by omega) from', ?_⟩
        rintro _ _ ⟨rfl, rfl⟩
        refine ⟨Or.inl rfl, ?_⟩
        rw [e1]
        refine ⟨fun c97 => ?_, fun c97 => ?_⟩
        · have h1 : false = flP (sg 1) j s k from' := (decide_eq_false (fun z => bI_f c97 z.1)).symm
          refine am_W.mono (fun r h' z => ?_) (m_fill_b hd hW hA fr rfl hj ps s12 hRw hs hk rfl rfl rfl rfl kt h1)
          obtain ⟨v', P', hz, ho⟩ := z
          exact ⟨v', P', Or.inr ⟨by rw [← ej]; exact u1, Or.inr ⟨s, k, by rw [← ej, cj]; exact hk1, by rw [← ej, cj]; exact hp, by rw [← ej, cj]; exact hz⟩⟩, ho⟩
        · have u3 : inI from' 0 (sg 1 3 - 1) := bI_t c97
          obtain ⟨i, ei, ci, hi⟩ := ix_at w7 (by omega) u3
          obtain ⟨f, hf, ef⟩ := w9 i hi
          refine ⟨_, _, rfl, rfl, ?_⟩
          refine ⟨_, rfl, d - 1, 0, 0, _, by omega, Nat.le_of_ble_eq_true rfl, Nat.le_of_ble_eq_true rfl, Nat.le_of_ble_eq_true rfl, m_isPaper (by omega) from', ?_⟩
          rintro _ _ ⟨rfl, rfl⟩
          refine ⟨Or.inl rfl, ?_⟩
          rw [e1]
          refine ⟨fun c111 => absurd c111 c97, fun _ => ?_⟩
          refine ⟨_, _, (94 + i), rfl, (by rw [ei]; exact nI_add 94 i), by omega, Nat.le_of_ble_eq_true rfl, ?_⟩
          rw [e1]
          refine ⟨fun c121 => ?_, fun c121 => ?_⟩
          · have h1 : false = flP (sg 1) j s k from' := (decide_eq_false (fun z => c121 (by rw [ci] at z; exact z.2.1))).symm
            refine am_W.mono (fun r h' z => ?_) (m_fill_b hd hW hA fr rfl hj ps s12 hRw hs hk rfl rfl rfl rfl kt h1)
            obtain ⟨v', P', hz, ho⟩ := z
            exact ⟨v', P', Or.inr ⟨by rw [← ej]; exact u1, Or.inr ⟨s, k, by rw [← ej, cj]; exact hk1, by rw [← ej, cj]; exact hp, by rw [← ej, cj]; exact hz⟩⟩, ho⟩
          · refine ⟨_, _, rfl, rfl, ?_⟩
            refine ⟨_, rfl, d - 1, 0, 0, _, by omega, Nat.le_of_ble_eq_true rfl, Nat.le_of_ble_eq_true rfl, Nat.le_of_ble_eq_true rfl, m_isPaper (by omega) from', ?_⟩
            rintro _ _ ⟨rfl, rfl⟩
            refine ⟨Or.inl rfl, ?_⟩
            rw [e1]
            refine ⟨fun c135 => absurd c135 c97, fun _ => ?_⟩
            refine ⟨_, _, (54 + i), rfl, (by rw [ei]; exact nI_add 54 i), by omega, Nat.le_of_ble_eq_true rfl, ?_⟩
            rw [e1]
            refine ⟨fun c147 => ?_, fun c147 => ?_⟩
            · have h1 : false = flP (sg 1) j s k from' := (decide_eq_false (fun z => c147 (by rw [ci] at z; exact z.2.2))).symm
              refine am_W.mono (fun r h' z => ?_) (m_fill_b hd hW hA fr rfl hj ps s12 hRw hs hk rfl rfl rfl rfl kt h1)
              obtain ⟨v', P', hz, ho⟩ := z
              exact ⟨v', P', Or.inr ⟨by rw [← ej]; exact u1, Or.inr ⟨s, k, by rw [← ej, cj]; exact hk1, by rw [← ej, cj]; exact hp, by rw [← ej, cj]; exact hz⟩⟩, ho⟩
            · have h1 : true = flP (sg 1) j s k from' := (decide_eq_true ⟨u3, by rw [ci]; exact c121, by rw [ci]; exact c147⟩).symm
              refine am_W.mono (fun r h' z => ?_) (m_fill_b hd hW hA fr rfl hj ps s12 hRw hs hk rfl rfl rfl rfl kt h1)
              obtain ⟨v', P', hz, ho⟩ := z
              exact ⟨v', P', Or.inr ⟨by rw [← ej]; exact u1, Or.inr ⟨s, k, by rw [← ej, cj]; exact hk1, by rw [← ej, cj]; exact hp, by rw [← ej, cj]; exact hz⟩⟩, ho⟩
      · have hB : ¬ flB (sg 1) j s k from' := by
          rintro ⟨z, -⟩
          rw [pr, pn_of ent (by omega)] at z
          exact c69 ((nI_ltI (by omega) (by omega)).mpr z)
        exact ⟨trivial, -3, _, Or.inr ⟨by rw [← ej]; exact u1, Or.inr ⟨s, k, by rw [← ej, cj]; exact hk1, by rw [← ej, cj]; exact hp, by rw [← ej, cj]; exact Or.inl ⟨hB, rfl, rfl⟩⟩⟩, mOut_s rfl⟩
    · rw [c19] at hv
      exact ⟨trivial, -3, _, Or.inr ⟨u1, Or.inl ⟨by rw [cj]; exact hv, rfl, rfl⟩⟩, mOut_s rfl⟩
  · exact ⟨trivial, -1, _, Or.inl ⟨bI_f c5, rfl, rfl⟩, mOut_s rfl⟩
