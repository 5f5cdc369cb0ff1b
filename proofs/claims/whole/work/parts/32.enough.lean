/-! ENOUGH, COULD -/
theorem cnN_n {p : Nat → Bool} {k : Nat} : ∀ {n : Nat}, k ≤ n → cnN p k ≤ cnN p n
  | 0, h => by rw [show k = 0 by omega]; exact Nat.le_refl _
  | n + 1, h => by
    rcases (show k = n + 1 ∨ k ≤ n by omega) with e | e
    · rw [e]; exact Nat.le_refl _
    · rw [cnN]; exact Nat.le_trans (cnN_n e) (Nat.le_add_right _ _)
theorem cnN_t {p : Nat → Bool} {k : Nat} (h : p k = true) : cnN p (k + 1) = cnN p k + 1 := by rw [cnN, h]; rfl
theorem cnN_f {p : Nat → Bool} {k : Nat} (h : p k = false) : cnN p (k + 1) = cnN p k := by rw [cnN, h]; rfl
/-- the row of those that p, in their order -/
def asK (p : Nat → Bool) (A : Nat → Int32) (n : Nat) : Prop := (∀ k, k < n → p k = true → A (cnN p k) = nI k) ∧ ∀ i, i < cnN p n → ∃ a, a < n ∧ A i = nI a
theorem asK_0 (p : Nat → Bool) (A : Nat → Int32) : asK p A 0 := ⟨fun _ h => absurd h (by omega), fun _ h => absurd h (by rw [cnN]; omega)⟩
theorem asK_f {p : Nat → Bool} {A : Nat → Int32} {n : Nat} (h : asK p A n) (e : p n = false) : asK p A (n + 1) := by
  refine ⟨fun k hk pk => ?_, fun i hi => ?_⟩
  · rcases (show k = n ∨ k < n by omega) with z | z
    · subst z; rw [e] at pk; cases pk
    · exact h.1 k z pk
  · rw [cnN_f e] at hi
    obtain ⟨a, ha, ea⟩ := h.2 i hi
    exact ⟨a, by omega, ea⟩
theorem asK_t {p : Nat → Bool} {A : Nat → Int32} {n : Nat} (h : asK p A n) (e : p n = true) : asK p (upd A (cnN p n) (nI n)) (n + 1) := by
  refine ⟨fun k hk pk => ?_, fun i hi => ?_⟩
  · rcases (show k = n ∨ k < n by omega) with z | z
    · subst z; exact pk_us
    · have := cnN_n (p := p) (show k + 1 ≤ n by omega)
      rw [cnN_t pk] at this
      rw [pk_un (by omega)]; exact h.1 k z pk
  · rw [cnN_t e] at hi
    rcases (show i = cnN p n ∨ i < cnN p n by omega) with z | z
    · exact ⟨n, by omega, by rw [z]; exact pk_us⟩
    · obtain ⟨a, ha, ea⟩ := h.2 i z
      exact ⟨a, by omega, by rw [pk_un (by omega)]; exact ea⟩
def foR (P : Nat → Int32) (f : Nat) (fo : Int32 → Bool) : Prop := ∀ x, fo x = true ↔ rcP (syP P (P 0)) (baX P (pn P 3) x) f
/-- what 'fewest' answers: of those that p, and of others that are had anyway -/
def fwR (P : Nat → Int32) (f : Nat) (base : Int32) (p : Nat → Bool) (v : Int32) : Prop := ∃ fo A, foR P f fo ∧ asK p A (pn P 3) ∧ v = fwB fo base (fun j => eI A j (cnN p (pn P 3))) (2 ^ cnN p (pn P 3))
def enB (P : Nat → Int32) (f x : Int32) : Prop := ¬ inI f 0 749 ∨ x < 0 ∨ nI (2 ^ pn P 3) ≤ x ∨ 6 < ctB x ∨ ∃ k, k < pn P 3 ∧ bq x k = true ∧ P (94 + k) = 1
def sp_enough (P : Nat → Int32) (f x v : Int32) : Prop := (enB P f x ∧ v = -2) ∨ (¬ enB P f x ∧ fwR P (cN f) 0 (bq x) v)
theorem fwR_of {P : Nat → Int32} {f n0 : Nat} {base : Int32} {p : Nat → Bool} {fo : Int32 → Bool} {A : Nat → Int32} (p3 : pn P 3 = n0) (hfo : ∀ x, fo x = true ↔ rcP (syP P (P 0)) (baX P n0 x) f) (hA : asK p A n0) : fwR P f base p (fwB fo base (fun j => eI A j (cnN p n0)) (2 ^ cnN p n0)) :=
  ⟨fo, A, by unfold foR; rw [p3]; exact hfo, by rw [p3]; exact hA, by rw [p3]⟩
theorem m_enough_l {sg0 : sg_T} {d kc ks : Nat} (hd : 460 ≤ d) {R C n0 f : Nat} {vf x : Int32} (hW : wkA (sg0 1) R C n0) (hf : vf = nI f) (f750 : f < 750) (ub : inI vf 0 749) (u2 : ¬ x < 0) (u3 : ¬ nI (2 ^ n0) ≤ x) (u4 : ctB x ≤ 6) (hfl : flA (sg0 1)) : ∀ (u k : Nat) (w z : Int32) (sg : sg_T), z = nI k → w = nI (cnN (bq x) k) → (∀ a, a ≠ 7 → sg a = sg0 a) → asK (bq x) (sg 7) k → (∀ i, i < k → bq x i = true → ¬ sg0 1 (94 + i) = 1) → k ≤ n0 → n0 < k + u → am_W mi_X12_enough d (fun r h' => ∃ v, sp_enough (sg0 1) vf x v ∧ mOut sg0 v (sg0 1) r h') kc ks 40 [some (.ref 0), some (.int vf), some (.int x), some (.int w), some (.int z)] [] (hm sg) := by
  intro u
  induction u with
  | zero => intro k w z sg hz hw fr hA hn h1 h2; exact absurd h2 (by omega)
  | succ u ih =>
    intro k w z sg hz hw fr hA hn h1 h2
    refine am_go ok_X12_enough [40] 89 ?_
    have e1 : sg 1 = sg0 1 := fr 1 (by decide)
    have n20 := hW.2.2.2.2.2.2.2.1
    have w3 := hW.2.2.2.2.2.2.1
    have p3 := pn_of w3 (by omega)
    obtain ⟨fo, hfo⟩ := fo_ex (p := fun x => rcP (syP (sg0 1) (sg0 1 0)) (baX (sg0 1) n0 x) f)
    refine ⟨_, _, rfl, rfl, ?_⟩
    refine ⟨_, _, 3, rfl, rfl, Nat.le_of_ble_eq_true rfl, Nat.le_of_ble_eq_true rfl, ?_⟩
    rw [e1, w3]
    refine ⟨fun c48 => ?_, fun c48 => ?_⟩
    · rw [hz] at c48
      have k1 : k = n0 := by have := (nI_leI (by omega) (by omega)).mp c48; omega
      subst k1
      refine ⟨_, rfl, d - 1, 0, 0, _, by omega, Nat.le_of_ble_eq_true rfl, Nat.le_of_ble_eq_true rfl, Nat.le_of_ble_eq_true rfl, m_fewest (sg0 := sg) (base := 0) (by omega) (by rw [e1]; exact hW) hf f750 hw (Nat.le_trans (cnN_n n20) u4) (fun i hi => (by obtain ⟨a, ha, ea⟩ := hA.2 i hi; exact ⟨a, by omega, ea⟩)) (fo := fo) (by rw [e1]; exact hfo), ?_⟩
      rintro _ _ ⟨sg', rfl, rfl, a3, a4, a5⟩
      refine ⟨Or.inl rfl, ?_⟩
      refine ⟨trivial, ?_⟩
      refine ⟨_, Or.inr ⟨?_, by rw [cN_of hf (by omega)]; exact fwR_of p3 hfo hA⟩, sg', rfl, rfl, a3.trans e1, a4.trans (fr 2 (by decide)), by rw [a5, fr 0 (by decide)]⟩
      rintro (q | q | q | q | ⟨i, hi, q, q2⟩)
      · exact q ub
      · exact u2 q
      · rw [p3] at q; exact u3 q
      · omega
      · rw [p3] at hi; exact hn i hi q q2
    · have k1 : k < n0 := by
        rcases Nat.lt_or_ge k n0 with q1 | q1
        · exact q1
        · exact absurd (by rw [hz]; exact (nI_leI (by omega) (by omega)).mpr q1) c48
      refine ⟨fun c58 => ?_, fun c58 => ?_⟩
      · have hq : bq x k = false := by cases e : bq x k; rfl; exact absurd ((shr_e1 (by omega) x).mpr e) (by rw [hz] at c58; exact c58)
        first
          | exact ih (k + 1) _ _ _ (by rw [nI_1]) (by rw [hw, nI_1, cnN_t hq]) (fun a ha => (sg_i ha).trans (fr a ha)) (by rw [sg_ii]; exact asK_t hA hq) (fun i hi q => (by rcases (show i = k ∨ i < k by omega) with e | e; (subst e; exact c72); exact hn i e q)) (by omega) (by omega)
          | exact ih (k + 1) _ _ _ (by rw [hz, nI_1]) (by rw [hw, cnN_f hq]) fr (asK_f hA hq) (fun i hi q => (by rcases (show i = k ∨ i < k by omega) with e | e; (subst e; rw [hq] at q; cases q); exact hn i e q)) (by omega) (by omega)
      · have hq : bq x k = true := (shr_e1 (by omega) x).mp (by rw [hz] at c58; exact c58)
        have hl : cnN (bq x) k < 6 := by
          have := cnN_n (p := bq x) (show k + 1 ≤ 20 by omega)
          rw [cnN_t hq] at this
          have u4' : cnN (bq x) 20 ≤ 6 := u4
          omega
        refine ⟨_, _, rfl, rfl, ?_⟩
        refine ⟨_, _, (94 + k), rfl, (by rw [hz]; exact nI_add 94 k), by omega, Nat.le_of_ble_eq_true rfl, ?_⟩
        rw [e1]
        refine ⟨fun c72 => ?_, fun c72 => ?_⟩
        · refine ⟨_, _, rfl, rfl, ?_⟩
          refine ⟨_, _, (cnN (bq x) k), rfl, hw, by omega, Nat.le_of_ble_eq_true rfl, ?_⟩
          rw [hm_a7]
          rw [hz]
          first
            | exact ih (k + 1) _ _ _ (by rw [nI_1]) (by rw [hw, nI_1, cnN_t hq]) (fun a ha => (sg_i ha).trans (fr a ha)) (by rw [sg_ii]; exact asK_t hA hq) (fun i hi q => (by rcases (show i = k ∨ i < k by omega) with e | e; (subst e; exact c72); exact hn i e q)) (by omega) (by omega)
            | exact ih (k + 1) _ _ _ (by rw [hz, nI_1]) (by rw [hw, cnN_f hq]) fr (asK_f hA hq) (fun i hi q => (by rcases (show i = k ∨ i < k by omega) with e | e; (subst e; rw [hq] at q; cases q); exact hn i e q)) (by omega) (by omega)
        · exact ⟨trivial, -2, Or.inl ⟨Or.inr (Or.inr (Or.inr (Or.inr ⟨k, by rw [p3]; exact k1, hq, c72⟩))), rfl⟩, sg, rfl, rfl, e1, fr 2 (by decide), by rw [fr 0 (by decide)]⟩
theorem m_enough {sg : sg_T} {d : Nat} (hd : 460 ≤ d) {R C n0 : Nat} (hW : wkA (sg 1) R C n0) (hfl : flA (sg 1)) (f x : Int32) : am_Met mi_X12_enough d 0 0 [.ref 0, .int f, .int x] (hm sg) (fun r h' => ∃ v, sp_enough (sg 1) f x v ∧ mOut sg v (sg 1) r h') := by
  refine am_Met.of rfl (Nat.le_of_ble_eq_true rfl) ?_
  refine am_go ok_X12_enough [40] 81 ?_
  refine ⟨d - 1, 0, 0, _, by omega, Nat.le_of_ble_eq_true rfl, Nat.le_of_ble_eq_true rfl, Nat.le_of_ble_eq_true rfl, m_isFact (by omega) f, ?_⟩
  rintro _ _ ⟨rfl, rfl⟩
  refine ⟨Or.inl rfl, ?_⟩
  refine ⟨fun c4 => ?_, fun c4 => ?_⟩
  · exact ⟨trivial, -2, Or.inl ⟨Or.inl (bI_f c4), rfl⟩, mOut_s rfl⟩
  · have u1 : inI f 0 749 := bI_t c4
    obtain ⟨i, ei, ci, hi⟩ := ix_c (m := 749) (by omega) u1
    have n20 := hW.2.2.2.2.2.2.2.1
    have w3 := hW.2.2.2.2.2.2.1
    have p3 := pn_of w3 (by omega)
    refine ⟨fun c8 => ?_, fun c8 => ?_⟩
    · exact ⟨trivial, -2, Or.inl ⟨Or.inr (Or.inl c8), rfl⟩, mOut_s rfl⟩
    · refine ⟨_, _, rfl, rfl, ?_⟩
      refine ⟨_, _, 3, rfl, rfl, Nat.le_of_ble_eq_true rfl, Nat.le_of_ble_eq_true rfl, ?_⟩
      rw [w3]
      refine ⟨fun c20 => ?_, fun c20 => ?_⟩
      · exact ⟨trivial, -2, Or.inl ⟨Or.inr (Or.inr (Or.inl (by rw [p3, ← sh_2m n0 (by omega)]; exact c20))), rfl⟩, mOut_s rfl⟩
      · refine ⟨d - 1, 0, 0, _, by omega, Nat.le_of_ble_eq_true rfl, Nat.le_of_ble_eq_true rfl, Nat.le_of_ble_eq_true rfl, m_many0 (d - 1) x, ?_⟩
        rintro _ _ ⟨rfl, rfl⟩
        refine ⟨Or.inl rfl, ?_⟩
        refine ⟨fun c29 => ?_, fun c29 => ?_⟩
        · exact m_enough_l hd hW ei (by omega) u1 c8 (by rw [← sh_2m n0 (by omega)]; exact c20) (by have := ctB_le x; exact (nI_leI (b := 6) (by omega) (by omega)).mp c29) hfl (n0 + 1) 0 0 0 sg rfl rfl (fun _ _ => rfl) (asK_0 _ _) (fun _ q => absurd q (by omega)) (by omega) (by omega)
        · refine ⟨trivial, -2, Or.inl ⟨Or.inr (Or.inr (Or.inr (Or.inl ?_))), rfl⟩, mOut_s rfl⟩
          have := ctB_le x
          rcases Nat.lt_or_ge 6 (ctB x) with q | q
          · exact q
          · exact absurd ((nI_leI (b := 6) (by omega) (by omega)).mpr q) c29
def cOw (P : Nat → Int32) (pr : Int32) (k : Nat) : Bool := decide (P (94 + k) = 0 ∧ P (74 + k) = pr)
def cOt (P : Nat → Int32) (pr : Int32) (k : Nat) : Bool := decide (P (94 + k) = 0 ∧ ¬ P (74 + k) = pr)
/-- the first six -/
def coC (p : Nat → Bool) : Nat → Nat
  | 0 => 0
  | k + 1 => if p k = true ∧ coC p k < 6 then coC p k + 1 else coC p k
def co6 (p : Nat → Bool) (k : Nat) : Bool := p k && decide (coC p k < 6)
theorem coC_c (p : Nat → Bool) : ∀ k, cnN (co6 p) k = coC p k
  | 0 => rfl
  | k + 1 => by
    rw [coC]
    by_cases h : p k = true ∧ coC p k < 6
    · rw [if_pos h, cnN_t (by unfold co6; rw [h.1, decide_eq_true h.2]; rfl), coC_c p k]
    · rw [if_neg h, cnN_f, coC_c p k]
      unfold co6
      by_cases h1 : p k = true
      · rw [h1, decide_eq_false (fun z => h ⟨h1, z⟩)]; rfl
      · have h2 : p k = false := by cases e : p k; rfl; exact absurd e h1
        rw [h2]; rfl
theorem coC_6 (p : Nat → Bool) : ∀ k, coC p k ≤ 6
  | 0 => by rw [coC]; omega
  | k + 1 => by have := coC_6 p k; rw [coC]; split <;> omega
def sp_could (P : Nat → Int32) (pr f v : Int32) : Prop := (¬ inI pr 0 4 ∧ v = -1) ∨ (inI pr 0 4 ∧ ¬ inI f 0 749 ∧ v = -2) ∨ (inI pr 0 4 ∧ inI f 0 749 ∧ fwR P (cN f) (orB (cOw P pr) (pn P 3)) (co6 (cOt P pr)) v)
theorem m_could_l {sg0 : sg_T} {d kc ks : Nat} (hd : 460 ≤ d) {R C n0 f : Nat} {vf pr : Int32} (hW : wkA (sg0 1) R C n0) (hf : vf = nI f) (f750 : f < 750) (up : inI pr 0 4) (uf : inI vf 0 749) : ∀ (u k : Nat) (b w z : Int32) (sg : sg_T), z = nI k → b = orB (cOw (sg0 1) pr) k → w = nI (coC (cOt (sg0 1) pr) k) → (∀ a, a ≠ 7 → sg a = sg0 a) → asK (co6 (cOt (sg0 1) pr)) (sg 7) k → k ≤ n0 → n0 < k + u → am_W mi_X12_could d (fun r h' => ∃ v, sp_could (sg0 1) pr vf v ∧ mOut sg0 v (sg0 1) r h') kc ks 29 [some (.ref 0), some (.int pr), some (.int vf), some (.int b), some (.int w), some (.int z)] [] (hm sg) := by
  intro u
  induction u with
  | zero => intro k b w z sg hz hb hw fr hA h1 h2; exact absurd h2 (by omega)
  | succ u ih =>
    intro k b w z sg hz hb hw fr hA h1 h2
    refine am_go ok_X12_could [29] 99 ?_
    have e1 : sg 1 = sg0 1 := fr 1 (by decide)
    have n20 := hW.2.2.2.2.2.2.2.1
    have w3 := hW.2.2.2.2.2.2.1
    have p3 := pn_of w3 (by omega)
    have l6 := coC_6 (cOt (sg0 1) pr) k
    obtain ⟨fo, hfo⟩ := fo_ex (p := fun x => rcP (syP (sg0 1) (sg0 1 0)) (baX (sg0 1) n0 x) f)
    refine ⟨_, _, rfl, rfl, ?_⟩
    refine ⟨_, _, 3, rfl, rfl, Nat.le_of_ble_eq_true rfl, Nat.le_of_ble_eq_true rfl, ?_⟩
    rw [e1, w3]
    refine ⟨fun c37 => ?_, fun c37 => ?_⟩
    · rw [hz] at c37
      have k1 : k = n0 := by have := (nI_leI (by omega) (by omega)).mp c37; omega
      subst k1
      refine ⟨_, rfl, d - 1, 0, 0, _, by omega, Nat.le_of_ble_eq_true rfl, Nat.le_of_ble_eq_true rfl, Nat.le_of_ble_eq_true rfl, m_fewest (sg0 := sg) (m := cnN (co6 (cOt (sg0 1) pr)) k) (by omega) (by rw [e1]; exact hW) hf f750 (by rw [coC_c]; exact hw) (by rw [coC_c]; exact l6) (fun i hi => (by obtain ⟨a, ha, ea⟩ := hA.2 i hi; exact ⟨a, by omega, ea⟩)) (fo := fo) (by rw [e1]; exact hfo), ?_⟩
      rintro _ _ ⟨sg', rfl, rfl, a3, a4, a5⟩
      refine ⟨Or.inl rfl, ?_⟩
      refine ⟨trivial, ?_⟩
      exact ⟨_, Or.inr (Or.inr ⟨up, uf, by rw [cN_of hf (by omega), p3, ← hb]; exact fwR_of p3 hfo hA⟩), sg', rfl, rfl, a3.trans e1, a4.trans (fr 2 (by decide)), by rw [a5, fr 0 (by decide)]⟩
    · have k1 : k < n0 := by
        rcases Nat.lt_or_ge k n0 with q1 | q1
        · exact q1
        · exact absurd (by rw [hz]; exact (nI_leI (by omega) (by omega)).mpr q1) c37
      refine ⟨_, _, rfl, rfl, ?_⟩
      refine ⟨_, _, (94 + k), rfl, (by rw [hz]; exact nI_add 94 k), by omega, Nat.le_of_ble_eq_true rfl, ?_⟩
      rw [e1]
      refine ⟨fun c50 => ?_, fun c50 => ?_⟩
      · have ow : cOw (sg0 1) pr k = false := decide_eq_false (fun q => c50 q.1)
        have ot : cOt (sg0 1) pr k = false := decide_eq_false (fun q => c50 q.1)
        refine ⟨_, _, rfl, rfl, ?_⟩
        refine ⟨_, _, (94 + k), rfl, (by rw [hz]; exact nI_add 94 k), by omega, Nat.le_of_ble_eq_true rfl, ?_⟩
        rw [e1]
        refine ⟨fun c87 => ?_, fun c87 => ?_⟩
        · first
            | exact absurd c87 c50
            | exact absurd c50 c87
            | exact ih (k + 1) _ _ _ _ (by rw [nI_1]) (by rw [hb, orB_s, ow]; exact Int32.or_zero.symm) (by rw [hw, nI_1, coC, if_pos ⟨ot, l5⟩]) (fun a ha => (sg_i ha).trans (fr a ha)) (by rw [sg_ii, ← coC_c]; exact asK_t hA (by unfold co6; rw [ot, decide_eq_true l5]; rfl)) (by omega) (by omega)
            | exact ih (k + 1) _ _ _ _ (by rw [hz, nI_1]) (by rw [hb, orB_s, ow]; exact Int32.or_zero.symm) (by rw [hw, coC, if_neg (fun q => l5 q.2)]) fr (asK_f hA (by unfold co6; rw [ot, decide_eq_false l5]; rfl)) (by omega) (by omega)
            | exact ih (k + 1) _ _ _ _ (by rw [hz, nI_1]) (by rw [hb, orB_s, ow]; exact Int32.or_zero.symm) (by rw [hw, coC, if_neg (fun q => (by rw [ot] at q; cases q.1))]) fr (asK_f hA (by unfold co6; rw [ot]; rfl)) (by omega) (by omega)
            | exact ih (k + 1) _ _ _ _ (by rw [hz, nI_1]) (by rw [hb, orB_s, ow, hz]; rfl) (by rw [hw, coC, if_neg (fun q => (by rw [ot] at q; cases q.1))]) fr (asK_f hA (by unfold co6; rw [ot]; rfl)) (by omega) (by omega)
        · refine ⟨fun c94 => ?_, fun c94 => ?_⟩
          · have l5 : ¬ coC (cOt (sg0 1) pr) k < 6 := by
              rw [hw] at c94
              have := (nI_leI (a := 6) (by omega) (by omega)).mp c94
              omega
            first
              | exact absurd c87 c50
              | exact absurd c50 c87
              | exact ih (k + 1) _ _ _ _ (by rw [nI_1]) (by rw [hb, orB_s, ow]; exact Int32.or_zero.symm) (by rw [hw, nI_1, coC, if_pos ⟨ot, l5⟩]) (fun a ha => (sg_i ha).trans (fr a ha)) (by rw [sg_ii, ← coC_c]; exact asK_t hA (by unfold co6; rw [ot, decide_eq_true l5]; rfl)) (by omega) (by omega)
              | exact ih (k + 1) _ _ _ _ (by rw [hz, nI_1]) (by rw [hb, orB_s, ow]; exact Int32.or_zero.symm) (by rw [hw, coC, if_neg (fun q => l5 q.2)]) fr (asK_f hA (by unfold co6; rw [ot, decide_eq_false l5]; rfl)) (by omega) (by omega)
              | exact ih (k + 1) _ _ _ _ (by rw [hz, nI_1]) (by rw [hb, orB_s, ow]; exact Int32.or_zero.symm) (by rw [hw, coC, if_neg (fun q => (by rw [ot] at q; cases q.1))]) fr (asK_f hA (by unfold co6; rw [ot]; rfl)) (by omega) (by omega)
              | exact ih (k + 1) _ _ _ _ (by rw [hz, nI_1]) (by rw [hb, orB_s, ow, hz]; rfl) (by rw [hw, coC, if_neg (fun q => (by rw [ot] at q; cases q.1))]) fr (asK_f hA (by unfold co6; rw [ot]; rfl)) (by omega) (by omega)
          · have l5 : coC (cOt (sg0 1) pr) k < 6 := by
              rcases Nat.lt_or_ge (coC (cOt (sg0 1) pr) k) 6 with q | q
              · exact q
              · exact absurd (by rw [hw]; exact (nI_leI (a := 6) (by omega) (by omega)).mpr q) c94
            refine ⟨_, _, rfl, rfl, ?_⟩
            refine ⟨_, _, (coC (cOt (sg0 1) pr) k), rfl, hw, by omega, Nat.le_of_ble_eq_true rfl, ?_⟩
            rw [hm_a7]
            rw [hz]
            first
              | exact absurd c87 c50
              | exact absurd c50 c87
              | exact ih (k + 1) _ _ _ _ (by rw [nI_1]) (by rw [hb, orB_s, ow]; exact Int32.or_zero.symm) (by rw [hw, nI_1, coC, if_pos ⟨ot, l5⟩]) (fun a ha => (sg_i ha).trans (fr a ha)) (by rw [sg_ii, ← coC_c]; exact asK_t hA (by unfold co6; rw [ot, decide_eq_true l5]; rfl)) (by omega) (by omega)
              | exact ih (k + 1) _ _ _ _ (by rw [hz, nI_1]) (by rw [hb, orB_s, ow]; exact Int32.or_zero.symm) (by rw [hw, coC, if_neg (fun q => l5 q.2)]) fr (asK_f hA (by unfold co6; rw [ot, decide_eq_false l5]; rfl)) (by omega) (by omega)
              | exact ih (k + 1) _ _ _ _ (by rw [hz, nI_1]) (by rw [hb, orB_s, ow]; exact Int32.or_zero.symm) (by rw [hw, coC, if_neg (fun q => (by rw [ot] at q; cases q.1))]) fr (asK_f hA (by unfold co6; rw [ot]; rfl)) (by omega) (by omega)
              | exact ih (k + 1) _ _ _ _ (by rw [hz, nI_1]) (by rw [hb, orB_s, ow, hz]; rfl) (by rw [hw, coC, if_neg (fun q => (by rw [ot] at q; cases q.1))]) fr (asK_f hA (by unfold co6; rw [ot]; rfl)) (by omega) (by omega)
      · refine ⟨_, _, rfl, rfl, ?_⟩
        refine ⟨_, _, (74 + k), rfl, (by rw [hz]; exact nI_add 74 k), by omega, Nat.le_of_ble_eq_true rfl, ?_⟩
        rw [e1]
        refine ⟨fun c64 => ?_, fun c64 => ?_⟩
        · have ow : cOw (sg0 1) pr k = false := decide_eq_false (fun q => c64 q.2)
          have ot : cOt (sg0 1) pr k = true := decide_eq_true ⟨c50, c64⟩
          refine ⟨_, _, rfl, rfl, ?_⟩
          refine ⟨_, _, (94 + k), rfl, (by rw [hz]; exact nI_add 94 k), by omega, Nat.le_of_ble_eq_true rfl, ?_⟩
          rw [e1]
          refine ⟨fun c87 => ?_, fun c87 => ?_⟩
          · first
              | exact absurd c87 c50
              | exact absurd c50 c87
              | exact ih (k + 1) _ _ _ _ (by rw [nI_1]) (by rw [hb, orB_s, ow]; exact Int32.or_zero.symm) (by rw [hw, nI_1, coC, if_pos ⟨ot, l5⟩]) (fun a ha => (sg_i ha).trans (fr a ha)) (by rw [sg_ii, ← coC_c]; exact asK_t hA (by unfold co6; rw [ot, decide_eq_true l5]; rfl)) (by omega) (by omega)
              | exact ih (k + 1) _ _ _ _ (by rw [hz, nI_1]) (by rw [hb, orB_s, ow]; exact Int32.or_zero.symm) (by rw [hw, coC, if_neg (fun q => l5 q.2)]) fr (asK_f hA (by unfold co6; rw [ot, decide_eq_false l5]; rfl)) (by omega) (by omega)
              | exact ih (k + 1) _ _ _ _ (by rw [hz, nI_1]) (by rw [hb, orB_s, ow]; exact Int32.or_zero.symm) (by rw [hw, coC, if_neg (fun q => (by rw [ot] at q; cases q.1))]) fr (asK_f hA (by unfold co6; rw [ot]; rfl)) (by omega) (by omega)
              | exact ih (k + 1) _ _ _ _ (by rw [hz, nI_1]) (by rw [hb, orB_s, ow, hz]; rfl) (by rw [hw, coC, if_neg (fun q => (by rw [ot] at q; cases q.1))]) fr (asK_f hA (by unfold co6; rw [ot]; rfl)) (by omega) (by omega)
          · refine ⟨fun c94 => ?_, fun c94 => ?_⟩
            · have l5 : ¬ coC (cOt (sg0 1) pr) k < 6 := by
                rw [hw] at c94
                have := (nI_leI (a := 6) (by omega) (by omega)).mp c94
                omega
              first
                | exact absurd c87 c50
                | exact absurd c50 c87
                | exact ih (k + 1) _ _ _ _ (by rw [nI_1]) (by rw [hb, orB_s, ow]; exact Int32.or_zero.symm) (by rw [hw, nI_1, coC, if_pos ⟨ot, l5⟩]) (fun a ha => (sg_i ha).trans (fr a ha)) (by rw [sg_ii, ← coC_c]; exact asK_t hA (by unfold co6; rw [ot, decide_eq_true l5]; rfl)) (by omega) (by omega)
                | exact ih (k + 1) _ _ _ _ (by rw [hz, nI_1]) (by rw [hb, orB_s, ow]; exact Int32.or_zero.symm) (by rw [hw, coC, if_neg (fun q => l5 q.2)]) fr (asK_f hA (by unfold co6; rw [ot, decide_eq_false l5]; rfl)) (by omega) (by omega)
                | exact ih (k + 1) _ _ _ _ (by rw [hz, nI_1]) (by rw [hb, orB_s, ow]; exact Int32.or_zero.symm) (by rw [hw, coC, if_neg (fun q => (by rw [ot] at q; cases q.1))]) fr (asK_f hA (by unfold co6; rw [ot]; rfl)) (by omega) (by omega)
                | exact ih (k + 1) _ _ _ _ (by rw [hz, nI_1]) (by rw [hb, orB_s, ow, hz]; rfl) (by rw [hw, coC, if_neg (fun q => (by rw [ot] at q; cases q.1))]) fr (asK_f hA (by unfold co6; rw [ot]; rfl)) (by omega) (by omega)
            · have l5 : coC (cOt (sg0 1) pr) k < 6 := by
                rcases Nat.lt_or_ge (coC (cOt (sg0 1) pr) k) 6 with q | q
                · exact q
                · exact absurd (by rw [hw]; exact (nI_leI (a := 6) (by omega) (by omega)).mpr q) c94
              refine ⟨_, _, rfl, rfl, ?_⟩
              refine ⟨_, _, (coC (cOt (sg0 1) pr) k), rfl, hw, by omega, Nat.le_of_ble_eq_true rfl, ?_⟩
              rw [hm_a7]
              rw [hz]
              first
                | exact absurd c87 c50
                | exact absurd c50 c87
                | exact ih (k + 1) _ _ _ _ (by rw [nI_1]) (by rw [hb, orB_s, ow]; exact Int32.or_zero.symm) (by rw [hw, nI_1, coC, if_pos ⟨ot, l5⟩]) (fun a ha => (sg_i ha).trans (fr a ha)) (by rw [sg_ii, ← coC_c]; exact asK_t hA (by unfold co6; rw [ot, decide_eq_true l5]; rfl)) (by omega) (by omega)
                | exact ih (k + 1) _ _ _ _ (by rw [hz, nI_1]) (by rw [hb, orB_s, ow]; exact Int32.or_zero.symm) (by rw [hw, coC, if_neg (fun q => l5 q.2)]) fr (asK_f hA (by unfold co6; rw [ot, decide_eq_false l5]; rfl)) (by omega) (by omega)
                | exact ih (k + 1) _ _ _ _ (by rw [hz, nI_1]) (by rw [hb, orB_s, ow]; exact Int32.or_zero.symm) (by rw [hw, coC, if_neg (fun q => (by rw [ot] at q; cases q.1))]) fr (asK_f hA (by unfold co6; rw [ot]; rfl)) (by omega) (by omega)
                | exact ih (k + 1) _ _ _ _ (by rw [hz, nI_1]) (by rw [hb, orB_s, ow, hz]; rfl) (by rw [hw, coC, if_neg (fun q => (by rw [ot] at q; cases q.1))]) fr (asK_f hA (by unfold co6; rw [ot]; rfl)) (by omega) (by omega)
        · have ow : cOw (sg0 1) pr k = true := decide_eq_true ⟨c50, c64⟩
          have ot : cOt (sg0 1) pr k = false := decide_eq_false (fun q => q.2 c64)
          first
            | exact absurd c87 c50
            | exact absurd c50 c87
            | exact ih (k + 1) _ _ _ _ (by rw [nI_1]) (by rw [hb, orB_s, ow]; exact Int32.or_zero.symm) (by rw [hw, nI_1, coC, if_pos ⟨ot, l5⟩]) (fun a ha => (sg_i ha).trans (fr a ha)) (by rw [sg_ii, ← coC_c]; exact asK_t hA (by unfold co6; rw [ot, decide_eq_true l5]; rfl)) (by omega) (by omega)
            | exact ih (k + 1) _ _ _ _ (by rw [hz, nI_1]) (by rw [hb, orB_s, ow]; exact Int32.or_zero.symm) (by rw [hw, coC, if_neg (fun q => l5 q.2)]) fr (asK_f hA (by unfold co6; rw [ot, decide_eq_false l5]; rfl)) (by omega) (by omega)
            | exact ih (k + 1) _ _ _ _ (by rw [hz, nI_1]) (by rw [hb, orB_s, ow]; exact Int32.or_zero.symm) (by rw [hw, coC, if_neg (fun q => (by rw [ot] at q; cases q.1))]) fr (asK_f hA (by unfold co6; rw [ot]; rfl)) (by omega) (by omega)
            | exact ih (k + 1) _ _ _ _ (by rw [hz, nI_1]) (by rw [hb, orB_s, ow, hz]; rfl) (by rw [hw, coC, if_neg (fun q => (by rw [ot] at q; cases q.1))]) fr (asK_f hA (by unfold co6; rw [ot]; rfl)) (by omega) (by omega)
theorem m_could {sg : sg_T} {d : Nat} (hd : 460 ≤ d) {R C n0 : Nat} (hW : wkA (sg 1) R C n0) (pr f : Int32) : am_Met mi_X12_could d 0 0 [.ref 0, .int pr, .int f] (hm sg) (fun r h' => ∃ v, sp_could (sg 1) pr f v ∧ mOut sg v (sg 1) r h') := by
  refine am_Met.of rfl (Nat.le_of_ble_eq_true rfl) ?_
  refine am_go ok_X12_could [29] 74 ?_
  refine ⟨d - 1, 0, 0, _, by omega, Nat.le_of_ble_eq_true rfl, Nat.le_of_ble_eq_true rfl, Nat.le_of_ble_eq_true rfl, m_in (d - 1) pr 0 4, ?_⟩
  rintro _ _ ⟨rfl, rfl⟩
  refine ⟨Or.inl rfl, ?_⟩
  refine ⟨fun c6 => ?_, fun c6 => ?_⟩
  · refine ⟨d - 1, 0, 0, _, by omega, Nat.le_of_ble_eq_true rfl, Nat.le_of_ble_eq_true rfl, Nat.le_of_ble_eq_true rfl, m_isFact (by omega) f, ?_⟩
    rintro _ _ ⟨rfl, rfl⟩
    refine ⟨Or.inl rfl, ?_⟩
    refine ⟨fun c15 => ?_, fun c15 => ?_⟩
    · have u1 : inI f 0 749 := bI_t c15
      obtain ⟨i, ei, ci, hi⟩ := ix_c (m := 749) (by omega) u1
      exact m_could_l hd hW ei (by omega) (bI_t c6) u1 (n0 + 1) 0 0 0 0 sg rfl rfl rfl (fun _ _ => rfl) (asK_0 _ _) (by omega) (by omega)
    · exact ⟨trivial, -2, Or.inr (Or.inl ⟨bI_t c6, bI_f c15, rfl⟩), mOut_s rfl⟩
  · exact ⟨trivial, -1, Or.inl ⟨bI_f c6, rfl⟩, mOut_s rfl⟩
