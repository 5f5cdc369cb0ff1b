/-! READING: part, reads -/
/-- one or the other -/
noncomputable def iF {α : Type} (c : Prop) (a b : α) : α := @ite α c (Classical.propDecidable c) a b
theorem iF_p {α : Type} {c : Prop} {a b : α} (h : c) : iF c a b = a := if_pos h
theorem iF_n {α : Type} {c : Prop} {a b : α} (h : ¬ c) : iF c a b = b := if_neg h
/-- how many of the first n hold, one behind the other -/
noncomputable def ldN (q : Nat → Prop) : Nat → Nat
  | 0 => 0
  | n + 1 => iF (ldN q n = n ∧ q n) (n + 1) (ldN q n)
theorem ldN_le (q : Nat → Prop) : ∀ n, ldN q n ≤ n
  | 0 => Nat.le_refl _
  | n + 1 => by
    have := ldN_le q n; rw [ldN]
    by_cases h : ldN q n = n ∧ q n
    · rw [iF_p h]; exact Nat.le_refl _
    · rw [iF_n h]; omega
theorem ldN_all {q : Nat → Prop} : ∀ {n : Nat}, (∀ i, i < n → q i) → ldN q n = n
  | 0, _ => rfl
  | n + 1, h => by rw [ldN, iF_p ⟨ldN_all (fun i hi => h i (by omega)), h n (by omega)⟩]
theorem ldN_at {q : Nat → Prop} {m : Nat} (h : ∀ i, i < m → q i) (hm : ¬ q m) : ∀ {n : Nat}, m < n → ldN q n = m
  | 0, z => absurd z (by omega)
  | n + 1, z => by
    rcases (show m = n ∨ m < n by omega) with e | e
    · subst e; rw [ldN, iF_n (fun w => hm w.2)]; exact ldN_all h
    · have := ldN_at h hm e
      rw [ldN, iF_n (fun w => by omega)]; exact this
/-- how many signs of a TERM stand from a place on; of a TEST -/
noncomputable def tmN (H : Nat → Int32) (a : Nat) : Nat := ldN (fun i => tmP i (H (a + i))) 8
noncomputable def tsN (H : Nat → Int32) (a : Nat) : Nat := ldN (fun i => tsP i (H (a + i))) 3
/-- the answer of reading: a fault at a place; or a text, by the places of its TERMS, its TESTS and its END -/
abbrev rdT := Sum Nat (Nat × Nat × (Nat → Nat) × (Nat → Nat) × Nat)
def updM (t : Nat → Nat) (e v : Nat) : Nat → Nat := fun f => if f = e then v else t f
theorem updM_s {t : Nat → Nat} {e v : Nat} : updM t e v e = v := by unfold updM; rw [if_pos rfl]
theorem updM_n {t : Nat → Nat} {e v f : Nat} (h : f ≠ e) : updM t e v f = t f := by unfold updM; rw [if_neg h]
/-- the END -/
noncomputable def rdE (H : Nat → Int32) (n a nt ns : Nat) (tp sp : Nat → Nat) : rdT :=
  iF (nt = 0 ∨ ¬ H a = 62) (.inl a) (iF (tmN H (a + 1) < 8) (.inl (a + 1 + tmN H (a + 1))) (iF (a + 9 = n) (.inr (nt, ns, tp, sp, a + 1)) (.inl (a + 9))))
def ptA (H : Nat → Int32) (a nt : Nat) : Prop := 0 ≤ shF (H a) ∧ nt < 3
def ptB (H : Nat → Int32) (a ns : Nat) : Prop := (97 ≤ H a ∧ H a ≤ 100) ∧ ns < 4
/-- a part, and how it goes on -/
noncomputable def rdP (H : Nat → Int32) (K : Nat → Nat → Nat → (Nat → Nat) → (Nat → Nat) → rdT) (a nt ns : Nat) (tp sp : Nat → Nat) : rdT :=
  iF (ptA H a nt) (iF (tmN H a < 8) (.inl (a + tmN H a)) (K (a + 8) (nt + 1) ns (updM tp nt a) sp))
  (iF (ptB H a ns) (iF (tsN H a < 3) (.inl (a + tsN H a)) (K (a + 3) nt (ns + 1) tp (updM sp ns a))) (.inl a))
/-- behind a part; u more may come -/
noncomputable def rdF (H : Nat → Int32) (n : Nat) : Nat → Nat → Nat → Nat → (Nat → Nat) → (Nat → Nat) → rdT
  | 0, a, nt, ns, tp, sp => rdE H n a nt ns tp sp
  | u + 1, a, nt, ns, tp, sp => iF (H a = 38 ∧ nt + ns < 7) (rdP H (rdF H n u) (a + 1) nt ns tp sp) (rdE H n a nt ns tp sp)
/-- all of it -/
noncomputable def rdA (H : Nat → Int32) (n : Nat) : rdT := rdP H (rdF H n 6) 0 0 0 (fun _ => 0) (fun _ => 0)
/-- the text so far, as it stands in the cells -/
def txK (H X : Nat → Int32) (x nt ns : Nat) (tp sp : Nat → Nat) : Prop := X x = nI nt ∧ X (x + 1) = nI ns ∧ nt ≤ 3 ∧ ns ≤ 4 ∧ (∀ k, k < nt → ∀ i, i < 8 → tmP i (H (tp k + i)) ∧ tmC H (tp k) (x + 2 + 4 * k) i X) ∧ ∀ k, k < ns → (97 ≤ H (sp k) ∧ H (sp k) ≤ 100) ∧ ∀ i, i < 3 → tsP i (H (sp k + i)) ∧ tsC H (sp k) (x + 14 + 3 * k) i X
def txE (H X : Nat → Int32) (x e : Nat) : Prop := ∀ i, i < 8 → tmP i (H (e + i)) ∧ tmC H e (x + 26) i X
theorem tmC_g {H : Nat → Int32} {a to i : Nat} {P Q : Nat → Int32} (h : ∀ l, l < 4 → Q (to + l) = P (to + l)) (z : tmC H a to i P) : tmC H a to i Q := by
  unfold tmC at z ⊢
  split <;> rename_i e
  · exact (h 0 (by omega)).trans z
  · rw [h 1 (by omega)]; exact z
  · rw [h 2 (by omega)]; exact z
  · rw [h 3 (by omega)]; exact z
  · trivial
theorem tsC_g {H : Nat → Int32} {a to i : Nat} {P Q : Nat → Int32} (h : ∀ l, l < 3 → Q (to + l) = P (to + l)) (z : tsC H a to i P) : tsC H a to i Q := by
  unfold tsC at z ⊢
  split <;> rename_i e
  · exact (h 0 (by omega)).trans z
  · rw [h 1 (by omega)]; exact z
  · rw [h 2 (by omega)]; exact z
  · trivial
/-- the base of a text's cells -/
def txB (x : Nat) (P : Nat → Int32) : Prop := 1758 ≤ x ∧ x + 30 ≤ 2358 ∧ tpO P
theorem txB.to {x to w : Nat} {P : Nat → Int32} (h : txB x P) (h1 : x ≤ to) (h2 : to + w ≤ x + 30) : toP to w P := ⟨by have := h.1; omega, by have := h.2.1; omega, h.2.2⟩
def rdI (x : Nat) (sg0 sg : sg_T) (a nt ns : Nat) (tp sp : Nat → Nat) : Prop := frT x 30 sg0 sg ∧ sg 0 4 = 0 ∧ sg 0 3 = nI a ∧ txK (hr (sg0 1)) (sg 1) x nt ns tp sp
def ptO (x a nt ns : Nat) (sg0 sg : sg_T) : Prop :=
  (ptA (hr (sg0 1)) a nt ∧ ∃ s, pI tmP (tmC (hr (sg0 1)) a (x + 2 + 4 * nt)) (x + 2 + 4 * nt) 4 a 8 sg0 s ∧ sg = sg_u s 1 x (nI (nt + 1))) ∨
  (¬ ptA (hr (sg0 1)) a nt ∧ ptB (hr (sg0 1)) a ns ∧ ∃ s, pI tsP (tsC (hr (sg0 1)) a (x + 14 + 3 * ns)) (x + 14 + 3 * ns) 3 a 3 sg0 s ∧ sg = sg_u s 1 (x + 1) (nI (ns + 1))) ∨
  (¬ ptA (hr (sg0 1)) a nt ∧ ¬ ptB (hr (sg0 1)) a ns ∧ sg = sg_u sg0 0 4 1)
theorem pt_end {x b nt ns : Nat} {tp sp : Nat → Nat} {sg0 sg sg2 : sg_T} (hx : txB x (sg0 1)) (h : rdI x sg0 sg b nt ns tp sp) (b8 : b < 800) (hp : ptO x b nt ns sg sg2) :
  (∃ c, sg2 0 4 = 1 ∧ frT x 30 sg0 sg2 ∧ sg2 0 3 = nI c ∧ c < 870 ∧ ∀ K, rdP (hr (sg0 1)) K b nt ns tp sp = .inl c) ∨ (∃ a' nt' ns' tp' sp', rdI x sg0 sg2 a' nt' ns' tp' sp' ∧ nt' + ns' = nt + ns + 1 ∧ a' ≤ b + 8 ∧ ∀ K, rdP (hr (sg0 1)) K b nt ns tp sp = K a' nt' ns' tp' sp') := by
  obtain ⟨hF, h4, h3, hx0, hx1, n3, n4, hK, hS⟩ := h
  have eH : hr (sg 1) = hr (sg0 1) := funext (fr_hr hF (hx.to (Nat.le_refl _) (Nat.le_refl _)))
  unfold ptO at hp
  rw [eH] at hp
  rcases hp with ⟨hA, s, ⟨hf, hz⟩, rfl⟩ | ⟨hA, hB, s, ⟨hf, hz⟩, rfl⟩ | ⟨hA, hB, rfl⟩
  · have a3 := hA.2
    have hf' : frT x 30 sg0 (sg_u s 1 x (nI (nt + 1))) := (hF.tr (hf.wd (by omega) (by omega))).at1 (by omega) (by omega)
    rw [eH] at hz
    rcases hz with ⟨z4, z3, zp, zc⟩ | ⟨z4, m, m8, z3, zp, zn⟩
    · refine Or.inr ⟨b + 8, nt + 1, ns, updM tp nt b, sp, ⟨hf', by rw [sg_i (by decide)]; exact z4, by rw [sg_i (by decide)]; exact z3, ?_⟩, by omega, by omega, fun K => ?_⟩
      · have hk : ∀ j, ¬ (x + 2 + 4 * nt ≤ j ∧ j < x + 2 + 4 * nt + 4) → j ≠ x → sg_u s 1 x (nI (nt + 1)) 1 j = sg 1 j := fun j hj hj2 => (sg_j hj2).trans (hf.2.2 j hj)
        refine ⟨sg_s, (hk _ (by omega) (by omega)).trans hx1, by omega, n4, fun k hk1 i hi => ?_, fun k hk1 => ⟨(hS k hk1).1, fun i hi => ⟨((hS k hk1).2 i hi).1, tsC_g (fun l hl => hk _ (by omega) (by omega)) ((hS k hk1).2 i hi).2⟩⟩⟩
        rcases (show k = nt ∨ k < nt by omega) with e | e
        · subst e; rw [updM_s]
          exact ⟨zp i hi, tmC_g (fun l hl => sg_j (by omega)) (zc i hi)⟩
        · rw [updM_n (by omega)]
          exact ⟨(hK k e i hi).1, tmC_g (fun l hl => hk _ (by omega) (by omega)) (hK k e i hi).2⟩
      · have e8 : tmN (hr (sg0 1)) b = 8 := ldN_all zp
        unfold rdP; rw [iF_p hA, iF_n (by omega)]
    · refine Or.inl ⟨b + m, by rw [sg_i (by decide)]; exact z4, hf', by rw [sg_i (by decide)]; exact z3, by omega, fun K => ?_⟩
      have e8 : tmN (hr (sg0 1)) b = m := ldN_at zp zn m8
      unfold rdP; rw [iF_p hA, iF_p (by omega), e8]
  · have a3 := hB.2
    have hf' : frT x 30 sg0 (sg_u s 1 (x + 1) (nI (ns + 1))) := (hF.tr (hf.wd (by omega) (by omega))).at1 (by omega) (by omega)
    rw [eH] at hz
    rcases hz with ⟨z4, z3, zp, zc⟩ | ⟨z4, m, m8, z3, zp, zn⟩
    · refine Or.inr ⟨b + 3, nt, ns + 1, tp, updM sp ns b, ⟨hf', by rw [sg_i (by decide)]; exact z4, by rw [sg_i (by decide)]; exact z3, ?_⟩, by omega, by omega, fun K => ?_⟩
      · have hk : ∀ j, ¬ (x + 14 + 3 * ns ≤ j ∧ j < x + 14 + 3 * ns + 3) → j ≠ x + 1 → sg_u s 1 (x + 1) (nI (ns + 1)) 1 j = sg 1 j := fun j hj hj2 => (sg_j hj2).trans (hf.2.2 j hj)
        refine ⟨(hk _ (by omega) (by omega)).trans hx0, sg_s, n3, by omega, fun k hk1 i hi => ⟨(hK k hk1 i hi).1, tmC_g (fun l hl => hk _ (by omega) (by omega)) (hK k hk1 i hi).2⟩, fun k hk1 => ?_⟩
        rcases (show k = ns ∨ k < ns by omega) with e | e
        · subst e; rw [updM_s]
          exact ⟨hB.1, fun i hi => ⟨zp i hi, tsC_g (fun l hl => sg_j (by omega)) (zc i hi)⟩⟩
        · rw [updM_n (by omega)]
          exact ⟨(hS k e).1, fun i hi => ⟨((hS k e).2 i hi).1, tsC_g (fun l hl => hk _ (by omega) (by omega)) ((hS k e).2 i hi).2⟩⟩
      · have e8 : tsN (hr (sg0 1)) b = 3 := ldN_all zp
        unfold rdP; rw [iF_n hA, iF_p hB, iF_n (by omega)]
    · refine Or.inl ⟨b + m, by rw [sg_i (by decide)]; exact z4, hf', by rw [sg_i (by decide)]; exact z3, by omega, fun K => ?_⟩
      have e8 : tsN (hr (sg0 1)) b = m := ldN_at zp zn m8
      unfold rdP; rw [iF_n hA, iF_p hB, iF_p (by omega), e8]
  · refine Or.inl ⟨b, sg_s, hF.at4, by rw [sg_j (by decide)]; exact h3, by omega, fun K => ?_⟩
    unfold rdP; rw [iF_n hA, iF_n hB]
theorem m_part {sg0 : sg_T} {d : Nat} (hd : 20 ≤ d) {x a nt ns : Nat} {vx : Int32} (hv : vx = nI x) (hx : txB x (sg0 1)) (h4 : sg0 0 4 = 0) (h3 : sg0 0 3 = nI a) (a8 : a < 800) (hx0 : sg0 1 x = nI nt) (hx1 : sg0 1 (x + 1) = nI ns) (n3 : nt ≤ 3) (n4 : ns ≤ 4) : am_Met mi_X12_part d 0 0 [.ref 0, .int vx] (hm sg0) (fun r h' => r = none ∧ ∃ sg, h' = hm sg ∧ ptO x a nt ns sg0 sg) := by
  refine am_Met.of rfl (Nat.le_of_ble_eq_true rfl) ?_
  refine am_go ok_X12_part [] 109 ?_
  have := hx.1; have := hx.2.1
  have e0 : hV sg0 = hr (sg0 1) a := hV_h h3 (by omega) hx.2.2
  refine ⟨_, rfl, d - 1, 0, 0, _, by omega, Nat.le_of_ble_eq_true rfl, Nat.le_of_ble_eq_true rfl, Nat.le_of_ble_eq_true rfl, m_here (d - 1) ⟨a, by omega, h3⟩, ?_⟩
  rintro _ _ ⟨rfl, rfl⟩
  refine ⟨Or.inl rfl, ?_⟩
  refine ⟨d - 1, 0, 0, _, by omega, Nat.le_of_ble_eq_true rfl, Nat.le_of_ble_eq_true rfl, Nat.le_of_ble_eq_true rfl, m_shapeOf (d - 1) _, ?_⟩
  rintro _ _ ⟨rfl, rfl⟩
  refine ⟨Or.inl rfl, ?_⟩
  refine ⟨fun c7 => ?_, fun c7 => ?_⟩
  · have hA : ¬ ptA (hr (sg0 1)) a nt := fun z => i_ltn c7 (by rw [e0]; exact z.1)
    refine ⟨_, rfl, d - 1, 0, 0, _, by omega, Nat.le_of_ble_eq_true rfl, Nat.le_of_ble_eq_true rfl, Nat.le_of_ble_eq_true rfl, m_here (d - 1) ⟨a, by omega, h3⟩, ?_⟩
    rintro _ _ ⟨rfl, rfl⟩
    refine ⟨Or.inl rfl, ?_⟩
    refine ⟨d - 1, 0, 0, _, by omega, Nat.le_of_ble_eq_true rfl, Nat.le_of_ble_eq_true rfl, Nat.le_of_ble_eq_true rfl, m_in (d - 1) _ 97 100, ?_⟩
    rintro _ _ ⟨rfl, rfl⟩
    refine ⟨Or.inl rfl, ?_⟩
    refine ⟨fun c60 => ?_, fun c60 => ?_⟩
    · have hB : ¬ ptB (hr (sg0 1)) a ns := fun z => bI_f c60 (by rw [e0]; exact z.1)
      refine ⟨_, rfl, Nat.le_of_ble_eq_true rfl, ⟨rfl, rfl⟩, ?_⟩
      rw [hm_f0_4]
      exact ⟨rfl, _, rfl, by first | exact Or.inl ⟨hA, s, hs, by rw [nI_1]⟩ | exact Or.inr (Or.inl ⟨hA, hB, s, hs, by rw [nI_1]⟩) | exact Or.inr (Or.inr ⟨hA, hB, rfl⟩)⟩
    · refine ⟨_, _, rfl, rfl, ?_⟩
      refine ⟨_, _, (x + 1), rfl, (by rw [hv]; exact nI_add x 1), by omega, Nat.le_of_ble_eq_true rfl, ?_⟩
      rw [hx1]
      refine ⟨fun c72 => ?_, fun c72 => ?_⟩
      · have hB : ¬ ptB (hr (sg0 1)) a ns := fun z => absurd ((nI_leI (a := 4) (by omega) (by omega)).mp c72) (by have := z.2; omega)
        refine ⟨_, rfl, Nat.le_of_ble_eq_true rfl, ⟨rfl, rfl⟩, ?_⟩
        rw [hm_f0_4]
        exact ⟨rfl, _, rfl, by first | exact Or.inl ⟨hA, s, hs, by rw [nI_1]⟩ | exact Or.inr (Or.inl ⟨hA, hB, s, hs, by rw [nI_1]⟩) | exact Or.inr (Or.inr ⟨hA, hB, rfl⟩)⟩
      · have hB : ptB (hr (sg0 1)) a ns := ⟨by rw [← e0]; exact bI_t c60, by
          rcases Nat.lt_or_ge ns 4 with q | q
          · exact q
          · exact absurd ((nI_leI (a := 4) (by omega) (by omega)).mpr q) c72⟩
        have n4' := hB.2
        refine ⟨_, _, rfl, rfl, ?_⟩
        refine ⟨_, _, (x + 1), rfl, (by rw [hv]; exact nI_add x 1), by omega, Nat.le_of_ble_eq_true rfl, ?_⟩
        rw [hx1]
        refine ⟨_, rfl, d - 1, 0, 0, _, by omega, Nat.le_of_ble_eq_true rfl, Nat.le_of_ble_eq_true rfl, Nat.le_of_ble_eq_true rfl, m_test (to := x + 14 + 3 * ns) (by omega) (by rw [hv]; show nI x + nI 14 + nI 3 * nI ns = _; rw [nI_add, pk_mul, nI_add]) (hx.to (by omega) (by omega)) h4 h3 a8, ?_⟩
        rintro _ _ ⟨rfl, s, rfl, hs⟩
        refine ⟨Or.inl rfl, ?_⟩
        have es : s 1 (x + 1) = nI ns := (hs.1.2.2 (x + 1) (by omega)).trans hx1
        refine ⟨_, _, rfl, rfl, ?_⟩
        refine ⟨_, _, (x + 1), rfl, (by rw [hv]; exact nI_add x 1), by omega, Nat.le_of_ble_eq_true rfl, ?_⟩
        rw [es]
        refine ⟨_, _, (x + 1), rfl, (by rw [hv]; exact nI_add x 1), by omega, Nat.le_of_ble_eq_true rfl, ?_⟩
        rw [hm_a1]
        exact ⟨rfl, _, rfl, by first | exact Or.inl ⟨hA, s, hs, by rw [nI_1]⟩ | exact Or.inr (Or.inl ⟨hA, hB, s, hs, by rw [nI_1]⟩) | exact Or.inr (Or.inr ⟨hA, hB, rfl⟩)⟩
  · refine ⟨_, _, rfl, rfl, ?_⟩
    refine ⟨_, _, x, rfl, hv, by omega, Nat.le_of_ble_eq_true rfl, ?_⟩
    rw [hx0]
    refine ⟨fun c17 => ?_, fun c17 => ?_⟩
    · have hA : ¬ ptA (hr (sg0 1)) a nt := fun z => absurd ((nI_leI (a := 3) (by omega) (by omega)).mp c17) (by have := z.2; omega)
      refine ⟨_, rfl, d - 1, 0, 0, _, by omega, Nat.le_of_ble_eq_true rfl, Nat.le_of_ble_eq_true rfl, Nat.le_of_ble_eq_true rfl, m_here (d - 1) ⟨a, by omega, h3⟩, ?_⟩
      rintro _ _ ⟨rfl, rfl⟩
      refine ⟨Or.inl rfl, ?_⟩
      refine ⟨d - 1, 0, 0, _, by omega, Nat.le_of_ble_eq_true rfl, Nat.le_of_ble_eq_true rfl, Nat.le_of_ble_eq_true rfl, m_in (d - 1) _ 97 100, ?_⟩
      rintro _ _ ⟨rfl, rfl⟩
      refine ⟨Or.inl rfl, ?_⟩
      refine ⟨fun c60 => ?_, fun c60 => ?_⟩
      · have hB : ¬ ptB (hr (sg0 1)) a ns := fun z => bI_f c60 (by rw [e0]; exact z.1)
        refine ⟨_, rfl, Nat.le_of_ble_eq_true rfl, ⟨rfl, rfl⟩, ?_⟩
        rw [hm_f0_4]
        exact ⟨rfl, _, rfl, by first | exact Or.inl ⟨hA, s, hs, by rw [nI_1]⟩ | exact Or.inr (Or.inl ⟨hA, hB, s, hs, by rw [nI_1]⟩) | exact Or.inr (Or.inr ⟨hA, hB, rfl⟩)⟩
      · refine ⟨_, _, rfl, rfl, ?_⟩
        refine ⟨_, _, (x + 1), rfl, (by rw [hv]; exact nI_add x 1), by omega, Nat.le_of_ble_eq_true rfl, ?_⟩
        rw [hx1]
        refine ⟨fun c72 => ?_, fun c72 => ?_⟩
        · have hB : ¬ ptB (hr (sg0 1)) a ns := fun z => absurd ((nI_leI (a := 4) (by omega) (by omega)).mp c72) (by have := z.2; omega)
          refine ⟨_, rfl, Nat.le_of_ble_eq_true rfl, ⟨rfl, rfl⟩, ?_⟩
          rw [hm_f0_4]
          exact ⟨rfl, _, rfl, by first | exact Or.inl ⟨hA, s, hs, by rw [nI_1]⟩ | exact Or.inr (Or.inl ⟨hA, hB, s, hs, by rw [nI_1]⟩) | exact Or.inr (Or.inr ⟨hA, hB, rfl⟩)⟩
        · have hB : ptB (hr (sg0 1)) a ns := ⟨by rw [← e0]; exact bI_t c60, by
            rcases Nat.lt_or_ge ns 4 with q | q
            · exact q
            · exact absurd ((nI_leI (a := 4) (by omega) (by omega)).mpr q) c72⟩
          have n4' := hB.2
          refine ⟨_, _, rfl, rfl, ?_⟩
          refine ⟨_, _, (x + 1), rfl, (by rw [hv]; exact nI_add x 1), by omega, Nat.le_of_ble_eq_true rfl, ?_⟩
          rw [hx1]
          refine ⟨_, rfl, d - 1, 0, 0, _, by omega, Nat.le_of_ble_eq_true rfl, Nat.le_of_ble_eq_true rfl, Nat.le_of_ble_eq_true rfl, m_test (to := x + 14 + 3 * ns) (by omega) (by rw [hv]; show nI x + nI 14 + nI 3 * nI ns = _; rw [nI_add, pk_mul, nI_add]) (hx.to (by omega) (by omega)) h4 h3 a8, ?_⟩
          rintro _ _ ⟨rfl, s, rfl, hs⟩
          refine ⟨Or.inl rfl, ?_⟩
          have es : s 1 (x + 1) = nI ns := (hs.1.2.2 (x + 1) (by omega)).trans hx1
          refine ⟨_, _, rfl, rfl, ?_⟩
          refine ⟨_, _, (x + 1), rfl, (by rw [hv]; exact nI_add x 1), by omega, Nat.le_of_ble_eq_true rfl, ?_⟩
          rw [es]
          refine ⟨_, _, (x + 1), rfl, (by rw [hv]; exact nI_add x 1), by omega, Nat.le_of_ble_eq_true rfl, ?_⟩
          rw [hm_a1]
          exact ⟨rfl, _, rfl, by first | exact Or.inl ⟨hA, s, hs, by rw [nI_1]⟩ | exact Or.inr (Or.inl ⟨hA, hB, s, hs, by rw [nI_1]⟩) | exact Or.inr (Or.inr ⟨hA, hB, rfl⟩)⟩
    · have hA : ptA (hr (sg0 1)) a nt := ⟨by rw [← e0]; exact i_nlt c7, by
        rcases Nat.lt_or_ge nt 3 with q | q
        · exact q
        · exact absurd ((nI_leI (a := 3) (by omega) (by omega)).mpr q) c17⟩
      have n3' := hA.2
      refine ⟨_, _, rfl, rfl, ?_⟩
      refine ⟨_, _, x, rfl, hv, by omega, Nat.le_of_ble_eq_true rfl, ?_⟩
      rw [hx0]
      refine ⟨_, rfl, d - 1, 0, 0, _, by omega, Nat.le_of_ble_eq_true rfl, Nat.le_of_ble_eq_true rfl, Nat.le_of_ble_eq_true rfl, m_term (to := x + 2 + 4 * nt) (by omega) (by rw [hv]; show nI x + nI 2 + nI 4 * nI nt = _; rw [nI_add, pk_mul, nI_add]) (hx.to (by omega) (by omega)) h4 h3 a8, ?_⟩
      rintro _ _ ⟨rfl, s, rfl, hs⟩
      refine ⟨Or.inl rfl, ?_⟩
      have es : s 1 x = nI nt := (hs.1.2.2 x (by omega)).trans hx0
      refine ⟨_, _, rfl, rfl, ?_⟩
      refine ⟨_, _, x, rfl, hv, by omega, Nat.le_of_ble_eq_true rfl, ?_⟩
      rw [es]
      refine ⟨_, _, x, rfl, hv, by omega, Nat.le_of_ble_eq_true rfl, ?_⟩
      rw [hm_a1]
      exact ⟨rfl, _, rfl, by first | exact Or.inl ⟨hA, s, hs, by rw [nI_1]⟩ | exact Or.inr (Or.inl ⟨hA, hB, s, hs, by rw [nI_1]⟩) | exact Or.inr (Or.inr ⟨hA, hB, rfl⟩)⟩
