/-! the reference's 'works': heights, round by round -/
def blB (g : Nat → Int32) (P : Nat → Int32) (L : Nat → Nat) (x : Nat) (rd : Int32) : Nat → Bool
  | 0 => true
  | k + 1 => blB g P L x rd k && decide (0 ≤ g (faN P L (x + 2 + 4 * k)) ∧ g (faN P L (x + 2 + 4 * k)) < rd)
theorem blB_iff {g P : Nat → Int32} {L : Nat → Nat} {x : Nat} {rd : Int32} : ∀ n, blB g P L x rd n = true ↔ ∀ k, k < n → 0 ≤ g (faN P L (x + 2 + 4 * k)) ∧ g (faN P L (x + 2 + 4 * k)) < rd
  | 0 => ⟨fun _ k hk => absurd hk (by omega), fun _ => rfl⟩
  | n + 1 => by
    rw [blB, Bool.and_eq_true, blB_iff n, decide_eq_true_iff]
    constructor
    · rintro ⟨h1, h2⟩ k hk
      rcases (show k < n ∨ k = n by omega) with q | rfl
      · exact h1 k q
      · exact h2
    · intro h
      exact ⟨fun k hk => h k (by omega), h n (by omega)⟩
theorem blB_f {g P : Nat → Int32} {L : Nat → Nat} {x k n : Nat} {rd : Int32} (hk : k < n) (h : ¬ (0 ≤ g (faN P L (x + 2 + 4 * k)) ∧ g (faN P L (x + 2 + 4 * k)) < rd)) : blB g P L x rd n = false := by
  cases e : blB g P L x rd n with
  | false => rfl
  | true => exact absurd ((blB_iff n).mp e k hk) h
theorem m_areBelow_l {sg : sg_T} {d kc ks : Nat} (hd : 2 ≤ d) {v rd : Int32} {x n : Nat} {L : Nat → Nat} (hv : v = nI x) (hx : x + 30 ≤ 3228) (hn : sg 1 x = nI n) (hn3 : n ≤ 3) (hT : ∀ k, k < n → okT (sg 1) (x + 2 + 4 * k)) (hL : okL L) (hM : LMs sg L) : ∀ (u k : Nat) (z : Int32) (t : Option Value), z = nI k → blB (sg 3) (sg 1) L x rd k = true → k ≤ n → n < k + u → am_W mi_X12_areBelow d (fun r h' => r = some (.int (bI (blB (sg 3) (sg 1) L x rd n))) ∧ h' = hm sg) kc ks 2 [some (.ref 0), some (.int v), some (.int rd), some (.int z), t] [] (hm sg) := by
  intro u
  induction u with
  | zero => intro k z t hz hb h1 h2; exact absurd h2 (by omega)
  | succ u ih =>
    intro k z t hz hb h1 h2
    refine am_go ok_X12_areBelow [2] 85 ?_
    refine ⟨_, _, rfl, rfl, ?_⟩
    refine ⟨_, _, x, rfl, hv, (by omega), Nat.le_of_ble_eq_true rfl, ?_⟩
    refine ⟨fun c9 => ?_, fun c9 => ?_⟩
    · rw [hz, hn] at c9
      have k1 : k = n := by have := (nI_leI (by omega) (by omega)).mp c9; omega
      subst k1
      refine ⟨rfl, ?_⟩
      rw [hb]
      exact ⟨rfl, rfl⟩
    · have k1 : k < n := by
        rcases Nat.lt_or_ge k n with q | q
        · exact q
        · exact absurd (by rw [hz, hn]; exact (nI_leI (by omega) (by omega)).mpr q) c9
      have hl := faN_lt hL (hT k k1)
      refine ⟨_, _, rfl, rfl, ?_⟩
      refine ⟨_, rfl, d - 1, 0, 0, _, by omega, Nat.le_of_ble_eq_true rfl, Nat.le_of_ble_eq_true rfl, Nat.le_of_ble_eq_true rfl, m_factAt (x := x + 2 + 4 * k) (L := L) (by omega) (by rw [hv, hz]; show nI x + nI 2 + nI 4 * nI k = _; rw [nI_add, pk_mul, nI_add]) (by omega) (hT k k1) hL hM, ?_⟩
      rintro _ _ ⟨rfl, rfl⟩
      refine ⟨Or.inl rfl, ?_⟩
      refine ⟨_, _, (faN (sg 1) L (x + 2 + 4 * k)), rfl, rfl, by omega, Nat.le_of_ble_eq_true rfl, ?_⟩
      refine ⟨fun c32 => ?_, fun c32 => ?_⟩
      · have q1 := blB_f (rd := rd) k1 (fun q => i_len q.1 c32)
        refine ⟨rfl, ?_⟩
        rw [q1]
        exact ⟨rfl, rfl⟩
      · refine ⟨fun c38 => ?_, fun c38 => ?_⟩
        · exact ih (k + 1) _ (some (.int _)) (by rw [hz]; exact nI_1 k) (by rw [blB, hb, decide_eq_true ⟨i_nlt c32, c38⟩]; rfl) (by omega) (by omega)
        · have q1 := blB_f (rd := rd) k1 (fun q => c38 q.2)
          refine ⟨rfl, ?_⟩
          rw [q1]
          exact ⟨rfl, rfl⟩
theorem m_areBelow {sg : sg_T} {d : Nat} (hd : 2 ≤ d) {v rd : Int32} {x n : Nat} {L : Nat → Nat} (hv : v = nI x) (hx : x + 30 ≤ 3228) (hn : sg 1 x = nI n) (hn3 : n ≤ 3) (hT : ∀ k, k < n → okT (sg 1) (x + 2 + 4 * k)) (hL : okL L) (hM : LMs sg L) : am_Met mi_X12_areBelow d 0 0 [.ref 0, .int v, .int rd] (hm sg) (fun r h' => r = some (.int (bI (blB (sg 3) (sg 1) L x rd n))) ∧ h' = hm sg) := by
  refine am_Met.of rfl (Nat.le_of_ble_eq_true rfl) ?_
  refine am_go ok_X12_areBelow [2] 62 ?_
  exact m_areBelow_l hd hv hx hn hn3 hT hL hM (n + 1) 0 0 none rfl rfl (by omega) (by omega)
def baP (P : Nat → Int32) (n f : Nat) : Prop := ∃ k, k < n ∧ P (94 + k) = 0 ∧ P (54 + k) = nI f
def frM (sg sg' : sg_T) : Prop := ∀ a, a ≠ 3 → a ≠ 4 → a ≠ 5 → sg' a = sg a
/-- heights and sizes at the beginning -/
def bgP (P : Nat → Int32) (n : Nat) (g s : Nat → Int32) : Prop := ∀ f, f < 750 → (baP P n f ∧ g f = 0 ∧ s f = 1) ∨ (¬ baP P n f ∧ g f = -1 ∧ s f = 100000)
theorem m_begins_1 {sg0 : sg_T} {d kc ks : Nat} {Q : Option Value → am_H → Prop} (K : ∀ (sg : sg_T), frM sg0 sg → (∀ f, f < 750 → sg 3 f = -1 ∧ sg 4 f = 100000) → am_W mi_X12_begins d Q kc ks 32 [some (.ref 0), some (.int 0)] [] (hm sg)) : ∀ (u k : Nat) (z : Int32) (sg : sg_T), z = nI k → frM sg0 sg → (∀ f, f < k → sg 3 f = -1 ∧ sg 4 f = 100000) → k ≤ 750 → 750 < k + u → am_W mi_X12_begins d Q kc ks 2 [some (.ref 0), some (.int z)] [] (hm sg) := by
  intro u
  induction u with
  | zero => intro k z sg hz hF hA h1 h2; exact absurd h2 (by omega)
  | succ u ih =>
    intro k z sg hz hF hA h1 h2
    refine am_go ok_X12_begins [2, 32] 75 ?_
    refine ⟨fun c6 => ?_, fun c6 => ?_⟩
    · rw [hz] at c6
      have k1 : k = 750 := by have := (nI_leI (a := 750) (by omega) (by omega)).mp c6; omega
      subst k1
      exact K sg hF hA
    · have k1 : k < 750 := by
        rcases Nat.lt_or_ge k 750 with q | q
        · exact q
        · exact absurd (by rw [hz]; exact (nI_leI (a := 750) (by omega) (by omega)).mpr q) c6
      refine ⟨_, _, rfl, rfl, ?_⟩
      refine ⟨_, _, k, rfl, hz, by omega, Nat.le_of_ble_eq_true rfl, ?_⟩
      rw [hm_a3]
      refine ⟨_, _, rfl, rfl, ?_⟩
      refine ⟨_, _, k, rfl, hz, by omega, Nat.le_of_ble_eq_true rfl, ?_⟩
      rw [hm_a4]
      refine ih (k + 1) _ _ (by rw [hz]; exact nI_1 k) (fun a a3 a4 a5 => by rw [sg_i a4, sg_i a3]; exact hF a a3 a4 a5) (fun f hf => ?_) (by omega) (by omega)
      rw [sg_i (show (3 : Nat) ≠ 4 by decide), sg_ii, sg_ii, sg_i (show (4 : Nat) ≠ 3 by decide)]
      by_cases q : f = k
      · subst q; rw [pk_us, pk_us]; exact ⟨rfl, rfl⟩
      · rw [pk_un q, pk_un q]; exact hA f (by omega)
theorem m_begins_2 {sg0 : sg_T} {d kc ks : Nat} {n : Nat} (hn : sg0 1 3 = nI n) (hn20 : n ≤ 20) (hf : ∀ k, k < n → ∃ f, f < 750 ∧ sg0 1 (54 + k) = nI f) : ∀ (u k : Nat) (z : Int32) (sg : sg_T), z = nI k → frM sg0 sg → bgP (sg0 1) k (sg 3) (sg 4) → k ≤ n → n < k + u → am_W mi_X12_begins d (fun r h' => r = none ∧ ∃ sg, h' = hm sg ∧ frM sg0 sg ∧ bgP (sg0 1) n (sg 3) (sg 4)) kc ks 32 [some (.ref 0), some (.int z)] [] (hm sg) := by
  intro u
  induction u with
  | zero => intro k z sg hz hF hA h1 h2; exact absurd h2 (by omega)
  | succ u ih =>
    intro k z sg hz hF hA h1 h2
    refine am_go ok_X12_begins [32] 95 ?_
    have e1 : sg 1 = sg0 1 := hF 1 (by decide) (by decide) (by decide)
    refine ⟨_, _, rfl, rfl, ?_⟩
    refine ⟨_, _, 3, rfl, rfl, Nat.le_of_ble_eq_true rfl, Nat.le_of_ble_eq_true rfl, ?_⟩
    rw [e1, hn]
    refine ⟨fun c39 => ?_, fun c39 => ?_⟩
    · rw [hz] at c39
      have k1 : k = n := by have := (nI_leI (by omega) (by omega)).mp c39; omega
      subst k1
      exact ⟨rfl, sg, rfl, hF, hA⟩
    · have k1 : k < n := by
        rcases Nat.lt_or_ge k n with q | q
        · exact q
        · exact absurd (by rw [hz]; exact (nI_leI (by omega) (by omega)).mpr q) c39
      obtain ⟨f0, hf0, ef⟩ := hf k k1
      refine ⟨_, _, rfl, rfl, ?_⟩
      refine ⟨_, _, (94 + k), rfl, (by rw [hz]; exact nI_add 94 k), by omega, Nat.le_of_ble_eq_true rfl, ?_⟩
      rw [e1]
      refine ⟨fun c51 => ?_, fun c51 => ?_⟩
      · refine ih (k + 1) _ _ (by rw [hz]; exact nI_1 k) hF (fun f hfl => ?_) (by omega) (by omega)
        have e9 : baP (sg0 1) (k + 1) f ↔ baP (sg0 1) k f := by
          constructor
          · rintro ⟨j, j1, j2, j3⟩
            rcases (show j < k ∨ j = k by omega) with q | rfl
            · exact ⟨j, q, j2, j3⟩
            · exact absurd j2 c51
          · rintro ⟨j, j1, j2⟩
            exact ⟨j, by omega, j2⟩
        rw [e9]
        exact hA f hfl
      · refine ⟨_, _, rfl, rfl, ?_⟩
        refine ⟨_, _, rfl, rfl, ?_⟩
        refine ⟨_, _, (54 + k), rfl, (by rw [hz]; exact nI_add 54 k), by omega, Nat.le_of_ble_eq_true rfl, ?_⟩
        rw [e1, ef]
        refine ⟨_, _, f0, rfl, rfl, hf0, Nat.le_of_ble_eq_true rfl, ?_⟩
        rw [hm_a3]
        refine ⟨_, _, rfl, rfl, ?_⟩
        refine ⟨_, _, rfl, rfl, ?_⟩
        refine ⟨_, _, (54 + k), rfl, (by rw [hz]; exact nI_add 54 k), by omega, Nat.le_of_ble_eq_true rfl, ?_⟩
        rw [sg_i (show (1 : Nat) ≠ 3 by decide), e1, ef]
        refine ⟨_, _, f0, rfl, rfl, hf0, Nat.le_of_ble_eq_true rfl, ?_⟩
        rw [hm_a4]
        refine ih (k + 1) _ _ (by rw [hz]; exact nI_1 k) (fun a a3 a4 a5 => by rw [sg_i a4, sg_i a3]; exact hF a a3 a4 a5) (fun f hfl => ?_) (by omega) (by omega)
        rw [sg_i (show (3 : Nat) ≠ 4 by decide), sg_ii, sg_ii, sg_i (show (4 : Nat) ≠ 3 by decide)]
        by_cases q : f = f0
        · subst q; rw [pk_us, pk_us]; exact Or.inl ⟨⟨k, by omega, c51, ef⟩, rfl, rfl⟩
        · rw [pk_un q, pk_un q]
          have e9 : baP (sg0 1) (k + 1) f ↔ baP (sg0 1) k f := by
            constructor
            · rintro ⟨j, j1, j2, j3⟩
              rcases (show j < k ∨ j = k by omega) with q | rfl
              · exact ⟨j, q, j2, j3⟩
              · exact absurd ((nI_eq (by omega) (by omega)).mp (ef.symm.trans j3)).symm q
            · rintro ⟨j, j1, j2⟩
              exact ⟨j, by omega, j2⟩
          rw [e9]
          exact hA f hfl
theorem m_begins {sg0 : sg_T} (d : Nat) {n : Nat} (hn : sg0 1 3 = nI n) (hn20 : n ≤ 20) (hf : ∀ k, k < n → ∃ f, f < 750 ∧ sg0 1 (54 + k) = nI f) : am_Met mi_X12_begins d 0 0 [.ref 0] (hm sg0) (fun r h' => r = none ∧ ∃ sg, h' = hm sg ∧ frM sg0 sg ∧ bgP (sg0 1) n (sg 3) (sg 4)) := by
  refine am_Met.of rfl (Nat.le_of_ble_eq_true rfl) ?_
  refine am_go ok_X12_begins [2] 62 ?_
  exact m_begins_1 (fun sg hF hA => m_begins_2 hn hn20 hf (n + 1) 0 0 sg rfl hF (fun f hfl => Or.inr ⟨fun ⟨_, q, _⟩ => absurd q (by omega), hA f hfl⟩) (by omega) (by omega)) 751 0 0 sg0 rfl (fun _ _ _ _ => rfl) (fun f hf => absurd hf (by omega)) (by omega) (by omega)
