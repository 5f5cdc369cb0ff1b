/-! SIZES: the greatest numbers that no instance is below -/
def tmS (t : Nat → Nat) (tm : Nat → Nat) : Nat → Nat
  | 0 => 0
  | k + 1 => tmS t tm k + t (tm k)
theorem tmS_le {t s : Nat → Nat} {tm : Nat → Nat} : ∀ (n : Nat), (∀ k, k < n → t (tm k) ≤ s (tm k)) → tmS t tm n ≤ tmS s tm n
  | 0, _ => Nat.le_refl _
  | n + 1, h => by
    rw [tmS, tmS]
    have h1 := tmS_le n (fun k hk => h k (by omega))
    have h2 := h n (by omega)
    omega
theorem tmS_c {t : Nat → Nat} {tm : Nat → Nat} {c : Nat} : ∀ (n : Nat), (∀ k, k < n → t (tm k) ≤ c) → tmS t tm n ≤ n * c
  | 0, _ => by rw [tmS]; omega
  | n + 1, h => by
    rw [tmS]
    have h1 := tmS_c n (fun k hk => h k (by omega))
    have h2 := h n (by omega)
    have : (n + 1) * c = n * c + c := Nat.succ_mul n c
    omega
theorem tmS_cg {t s : Nat → Nat} {tm : Nat → Nat} (n : Nat) (h : ∀ k, k < n → t (tm k) = s (tm k)) : tmS t tm n = tmS s tm n :=
  Nat.le_antisymm (tmS_le n (fun k hk => by rw [h k hk]; exact Nat.le_refl _)) (tmS_le n (fun k hk => by rw [h k hk]; exact Nat.le_refl _))
def rcP (S : sy_T) (ba : Nat → Prop) (f : Nat) : Prop := ∃ m, hs S ba m f
/-- no instance is below, no base is above 1, none above 100000 -/
def szA (S : sy_T) (ba : Nat → Prop) (t : Nat → Nat) : Prop := (∀ f, f < 750 → ba f → t f ≤ 1) ∧ (∀ r n f, sy_by S (rcP S ba) r n f → t f ≤ 1 + tmS t (sy_t S r n) (sy_k S r)) ∧ ∀ f, f < 750 → t f ≤ 100000
def szIs (S : sy_T) (ba : Nat → Prop) (t : Nat → Nat) : Prop := szA S ba t ∧ ∀ s, szA S ba s → ∀ f, f < 750 → s f ≤ t f
theorem szIs_u {S : sy_T} {ba : Nat → Prop} {t s : Nat → Nat} (h1 : szIs S ba t) (h2 : szIs S ba s) : ∀ f, f < 750 → t f = s f := fun f hf => Nat.le_antisymm (h2.2 t h1.1 f hf) (h1.2 s h2.1 f hf)
/-- on the way: above all such, with these instances done -/
def szM (S : sy_T) (ba : Nat → Prop) (t : Nat → Nat) : Prop := (∀ f, f < 750 → ba f → t f ≤ 1) ∧ (∀ f, f < 750 → t f ≤ 100000) ∧ ∀ s, szA S ba s → ∀ f, f < 750 → s f ≤ t f
def updN (t : Nat → Nat) (e v : Nat) : Nat → Nat := fun f => if f = e then v else t f
theorem szM_u {S : sy_T} {ba : Nat → Prop} {t : Nat → Nat} {r n e : Nat} (hS : sy_ok S) (h : szM S ba t) (hby : sy_by S (rcP S ba) r n e) (hl : 1 + tmS t (sy_t S r n) (sy_k S r) < t e) (he : e < 750) : szM S ba (updN t e (1 + tmS t (sy_t S r n) (sy_k S r))) := by
  obtain ⟨h1, h2, h3⟩ := h
  refine ⟨fun f hf hb => ?_, fun f hf => ?_, fun s hs f hf => ?_⟩
  · unfold updN; split
    · rename_i q; subst q; have := h1 f hf hb; omega
    · exact h1 f hf hb
  · unfold updN; split
    · have := h2 e he; omega
    · exact h2 f hf
  · unfold updN; split
    · rename_i q; subst q
      refine Nat.le_trans (hs.2.1 r n f hby) ?_
      have := tmS_le (t := s) (s := t) (tm := sy_t S r n) (sy_k S r) (fun k hk => h3 s hs _ ((hS r n hby.1 hby.2.1 hby.2.2.1).2 k hk))
      omega
    · exact h3 s hs f hf
def smN (t : Nat → Nat) : Nat → Nat
  | 0 => 0
  | n + 1 => smN t n + t n
theorem smN_le {t s : Nat → Nat} : ∀ n, (∀ k, k < n → t k ≤ s k) → smN t n ≤ smN s n
  | 0, _ => Nat.le_refl _
  | n + 1, h => by
    rw [smN, smN]
    have h1 := smN_le n (fun k hk => h k (by omega))
    have h2 := h n (by omega)
    omega
theorem smN_lt {t s : Nat → Nat} {j : Nat} : ∀ n, (∀ k, k < n → t k ≤ s k) → j < n → t j < s j → smN t n < smN s n
  | 0, _, h, _ => absurd h (by omega)
  | n + 1, h, h1, h2 => by
    rw [smN, smN]
    by_cases e : j = n
    · subst e
      have := smN_le j (fun k hk => h k (by omega))
      omega
    · have h3 := smN_lt n (fun k hk => h k (by omega)) (show j < n by omega) h2
      have h4 := h n (by omega)
      omega
theorem smN_c {t : Nat → Nat} {c : Nat} : ∀ n, (∀ k, k < n → t k ≤ c) → smN t n ≤ n * c
  | 0, _ => by rw [smN]; omega
  | n + 1, h => by
    rw [smN]
    have h1 := smN_c n (fun k hk => h k (by omega))
    have h2 := h n (by omega)
    have : (n + 1) * c = n * c + c := Nat.succ_mul n c
    omega
theorem rc_ht {S : sy_T} {ba : Nat → Prop} {f : Nat} {v : Int32} (h : htIs S ba f v) : (0 ≤ v ∧ v < 100000) ↔ rcP S ba f := by
  rcases h with ⟨m, h1, h2, h3, -⟩ | ⟨h1, h2⟩
  · rw [h2]
    exact ⟨fun _ => ⟨m, h3⟩, fun _ => ⟨nI_pos' (by omega), nI_lt (b := 100000) (by omega) (by omega)⟩⟩
  · rw [h1]
    exact ⟨fun q => absurd q.1 (by decide), fun ⟨m, q⟩ => absurd q (h2 m)⟩
theorem rc_0 {S : sy_T} {ba : Nat → Prop} {f : Nat} {v : Int32} (h : htIs S ba f v) : 0 ≤ v ↔ rcP S ba f := by
  constructor
  · intro q
    rcases h with ⟨m, h1, h2, h3, -⟩ | ⟨h1, h2⟩
    · exact ⟨m, h3⟩
    · rw [h1] at q; exact absurd q (by decide)
  · intro q
    exact ((rc_ht h).mpr q).1
/-- all instances up to here are satisfied -/
def szD (S : sy_T) (ba : Nat → Prop) (t : Nat → Nat) (r n : Nat) : Prop := ∀ a b f, dnP r n a b → sy_by S (rcP S ba) a b f → t f ≤ 1 + tmS t (sy_t S a b) (sy_k S a)
/-- cells 4 and 5 alone change -/
def frS (sg sg' : sg_T) : Prop := ∀ a, a ≠ 4 → a ≠ 5 → sg' a = sg a
def s4P (sg : sg_T) (t : Nat → Nat) : Prop := ∀ f, f < 750 → sg 4 f = nI (t f)
theorem m_sizes_s {sg : sg_T} {d kc ks : Nat} {Q : Option Value → am_H → Prop} (hd : 2 ≤ d) {x nt : Nat} {L : Nat → Nat} {t : Nat → Nat} {l1 l2 l3 : Option Value} {v5 l5 l6 : Int32} (h5 : v5 = nI x) (hx : x + 30 ≤ 3228) (ent : sg 1 x = nI nt) (n3 : nt ≤ 3) (hT : ∀ k, k < nt → okT (sg 1) (x + 2 + 4 * k)) (hL : okL L) (hM : LMs sg L) (h4 : s4P sg t) (htc : ∀ f, f < 750 → t f ≤ 100000) (K : ∀ z : Int32, am_W mi_X12_sizes d Q kc ks 129 [some (.ref 0), l1, l2, l3, some (.int v5), some (.int l5), some (.int l6), some (.int (nI (1 + tmS t (fun k => faN (sg 1) L (x + 2 + 4 * k)) nt))), some (.int z)] [] (hm sg)) : ∀ (u k : Nat) (z w : Int32), z = nI k → w = nI (1 + tmS t (fun k => faN (sg 1) L (x + 2 + 4 * k)) k) → k ≤ nt → nt < k + u → am_W mi_X12_sizes d Q kc ks 88 [some (.ref 0), l1, l2, l3, some (.int v5), some (.int l5), some (.int l6), some (.int w), some (.int z)] [] (hm sg) := by
  intro u
  induction u with
  | zero => intro k z w hz hw h1 h2; exact absurd h2 (by omega)
  | succ u ih =>
    intro k z w hz hw h1 h2
    refine am_go ok_X12_sizes [88, 129] 83 ?_
    refine ⟨_, _, rfl, rfl, ?_⟩
    refine ⟨_, _, x, rfl, h5, (by omega), Nat.le_of_ble_eq_true rfl, ?_⟩
    rw [ent]
    refine ⟨fun c97 => ?_, fun c97 => ?_⟩
    · rw [hz] at c97
      have k1 : k = nt := by have := (nI_leI (by omega) (by omega)).mp c97; omega
      subst k1
      rw [hw]
      exact K z
    · have k1 : k < nt := by
        rcases Nat.lt_or_ge k nt with q | q
        · exact q
        · exact absurd (by rw [hz]; exact (nI_leI (by omega) (by omega)).mpr q) c97
      have le := faN_lt hL (hT k k1)
      refine ⟨_, _, rfl, rfl, ?_⟩
      refine ⟨_, rfl, d - 1, 0, 0, _, by omega, Nat.le_of_ble_eq_true rfl, Nat.le_of_ble_eq_true rfl, Nat.le_of_ble_eq_true rfl, m_factAt (x := x + 2 + 4 * k) (L := L) (by omega) (by rw [h5, hz]; show nI x + nI 2 + nI 4 * nI k = _; rw [nI_add, pk_mul, nI_add]) (by omega) (hT k k1) hL hM, ?_⟩
      rintro _ _ ⟨rfl, rfl⟩
      refine ⟨Or.inl rfl, ?_⟩
      refine ⟨_, _, (faN (sg 1) L (x + 2 + 4 * k)), rfl, rfl, le, Nat.le_of_ble_eq_true rfl, ?_⟩
      rw [h4 _ le]
      exact ih (k + 1) _ _ (by rw [hz]; exact nI_1 k) (by rw [hw, nI_add, tmS, Nat.add_assoc]) (by omega) (by omega)
set_option maxHeartbeats 4000000 in
theorem m_sizes_i {sg0 : sg_T} {d kc ks : Nat} {Q : Option Value → am_H → Prop} (hd : 3 ≤ d) {dy : Int32} {R C n0 : Nat} (hW : wkP (sg0 1) dy R C n0) (hH : ∀ f, f < 750 → htIs (syP (sg0 1) dy) (baP (sg0 1) n0) f (sg0 3 f)) {r x m0 : Nat} (hr : r < R) (hx : x = txX (sg0 1) r dy) {r4 v5 v6 : Int32} (h5 : v5 = nI x) (h6 : v6 = tlF (sg0 1) x (pn (sg0 1) x)) (K : ∀ (sg : sg_T) (w : Int32) (t : Nat → Nat) (z : Int32) (t7 t8 : Option Value), frS sg0 sg → s4P sg t → szM (syP (sg0 1) dy) (baP (sg0 1) n0) t → (w = 0 ∧ smN t 750 = m0 ∨ w = 1 ∧ smN t 750 < m0) → (w = 0 → szD (syP (sg0 1) dy) (baP (sg0 1) n0) t r 625) → am_W mi_X12_sizes d Q kc ks 10 [some (.ref 0), some (.int dy), some (.int w), some (.int (r4 + 1)), some (.int v5), some (.int v6), some (.int z), t7, t8] [] (hm sg)) : ∀ (u n : Nat) (z w : Int32) (sg : sg_T) (t : Nat → Nat) (t7 t8 : Option Value), z = nI n → frS sg0 sg → s4P sg t → szM (syP (sg0 1) dy) (baP (sg0 1) n0) t → (w = 0 ∧ smN t 750 = m0 ∨ w = 1 ∧ smN t 750 < m0) → (w = 0 → szD (syP (sg0 1) dy) (baP (sg0 1) n0) t r n) → n ≤ 625 → 625 < n + u → am_W mi_X12_sizes d Q kc ks 39 [some (.ref 0), some (.int dy), some (.int w), some (.int r4), some (.int v5), some (.int v6), some (.int z), t7, t8] [] (hm sg) := by
  intro u
  induction u with
  | zero => intro n z w sg t t7 t8 hz hF h4 hM hw hD h1 h2; exact absurd h2 (by omega)
  | succ u ih =>
    intro n z w sg t t7 t8 hz hF h4 hM hw hD h1 h2
    refine am_go ok_X12_sizes [10, 39, 88] 83 ?_
    refine ⟨fun c44 => ?_, fun c44 => ?_⟩
    · rw [hz] at c44
      have k1 : n = 625 := by have := (nI_leI (a := 625) (by omega) (by omega)).mp c44; omega
      subst k1
      exact K sg w t z t7 t8 hF h4 hM hw hD
    · have k1 : n < 625 := by
        rcases Nat.lt_or_ge n 625 with q | q
        · exact q
        · exact absurd (by rw [hz]; exact (nI_leI (a := 625) (by omega) (by omega)).mpr q) c44
      obtain ⟨w1, w2, w3, w4, w5, w6, w7, w8, w9, w10⟩ := id hW
      obtain ⟨⟨nt, n1, n3, ent⟩, ⟨ne, ne4, ene⟩, a3, a4, a5⟩ := w10 r hr
      rw [← hx] at ent ene a3 a4 a5
      have x20 : txN (sg0 1) r dy < 20 := txN_lt (by omega) w3 w4 w5 w6
      have xb : x + 30 ≤ 3228 := by rw [hx]; unfold txX; omega
      have p1 := pn_of ent (by omega)
      have p2 := pn_of ene (by omega)
      have eR : pn (sg0 1) 1 = R := pn_of w1 (by omega)
      have eP : sgL sg n 1 = sg0 1 := by rw [sgL_a (by decide)]; exact hF 1 (by decide) (by decide)
      have e3 : sgL sg n 3 = sg0 3 := by rw [sgL_a (by decide)]; exact hF 3 (by decide) (by decide)
      have e4 : sgL sg n 4 = sg 4 := sgL_a (by decide)
      have hLm := okL_Lm k1
      have hS := syP_ok hW
      have ei : sy_i (syP (sg0 1) dy) r n = (plN v6 (Lm n) 4 && thN (sg0 1) (Lm n) x ne) := by
        show (plN (tlF (sg0 1) (txX (sg0 1) r dy) (pn (sg0 1) (txX (sg0 1) r dy))) (Lm n) 4 && thN (sg0 1) (Lm n) (txX (sg0 1) r dy) (pn (sg0 1) (txX (sg0 1) r dy + 1))) = _
        rw [← hx, ← h6, p2]
      have ek : sy_k (syP (sg0 1) dy) r = nt := by show pn (sg0 1) (txX (sg0 1) r dy) = nt; rw [← hx, p1]
      have et : sy_t (syP (sg0 1) dy) r n = fun k => faN (sg0 1) (Lm n) (x + 2 + 4 * k) := by rw [hx]; rfl
      have ebl : blB (sg0 3) (sg0 1) (Lm n) x 100000 nt = true ↔ ∀ k, k < sy_k (syP (sg0 1) dy) r → rcP (syP (sg0 1) dy) (baP (sg0 1) n0) (sy_t (syP (sg0 1) dy) r n k) := by
        rw [blB_iff, ek, et]
        constructor
        · intro h k hk
          exact (rc_ht (hH _ (faN_lt hLm (a3 k (by omega))))).mp (h k hk)
        · intro h k hk
          exact (rc_ht (hH _ (faN_lt hLm (a3 k (by omega))))).mpr (h k hk)
      have ee : sy_e (syP (sg0 1) dy) r n = faN (sg0 1) (Lm n) (x + 26) := by rw [hx]; rfl
      have le := faN_lt hLm a4
      refine ⟨_, rfl, d - 1, 0, 0, _, by omega, Nat.le_of_ble_eq_true rfl, Nat.le_of_ble_eq_true rfl, Nat.le_of_ble_eq_true rfl, m_sets (n := n) (d - 1) hz (by omega), ?_⟩
      rintro _ _ ⟨rfl, rfl⟩
      refine ⟨Or.inl rfl, ?_⟩
      refine ⟨_, rfl, d - 1, 0, 0, _, by omega, Nat.le_of_ble_eq_true rfl, Nat.le_of_ble_eq_true rfl, Nat.le_of_ble_eq_true rfl, m_isPlain (d - 1) hLm (sgL_L _ _), ?_⟩
      rintro _ _ ⟨rfl, rfl⟩
      refine ⟨Or.inl rfl, ?_⟩
      refine ⟨fun c59 => ?_, fun c59 => ?_⟩
      · have q1 := bI_0.mp c59
        exact ih (n + 1) _ w _ t _ _ (by rw [hz]; exact nI_1 n) (fun a b4 b5 => by rw [sgL_a b5]; exact hF a b4 b5) (by unfold s4P; rw [sgL_a (show (4 : Nat) ≠ 5 by decide)]; exact h4) hM hw (fun q a b f hdn hbi => by
          rcases dnP_s.mp hdn with hdn | ⟨rfl, rfl⟩
          · exact hD q a b f hdn hbi
          · exact absurd hbi.2.2.1 (by rw [ei, q1]; exact Bool.false_ne_true)) (by omega) (by omega)
      · refine ⟨_, rfl, d - 1, 0, 0, _, by omega, Nat.le_of_ble_eq_true rfl, Nat.le_of_ble_eq_true rfl, Nat.le_of_ble_eq_true rfl, m_areBelow (x := x) (n := nt) (L := Lm n) (by omega) h5 xb (by rw [eP]; exact ent) n3 (by rw [eP]; intro k hk; exact a3 k (by omega)) hLm (sgL_L _ _), ?_⟩
        rintro _ _ ⟨rfl, rfl⟩
        refine ⟨Or.inl rfl, ?_⟩
        rw [eP, e3]
        refine ⟨fun c70 => ?_, fun c70 => ?_⟩
        · have q1 := bI_0.mp c70
          exact ih (n + 1) _ w _ t _ _ (by rw [hz]; exact nI_1 n) (fun a b4 b5 => by rw [sgL_a b5]; exact hF a b4 b5) (by unfold s4P; rw [sgL_a (show (4 : Nat) ≠ 5 by decide)]; exact h4) hM hw (fun q a b f hdn hbi => by
            rcases dnP_s.mp hdn with hdn | ⟨rfl, rfl⟩
            · exact hD q a b f hdn hbi
            · exact absurd (ebl.mpr hbi.2.2.2.2) (by rw [q1]; exact Bool.false_ne_true)) (by omega) (by omega)
        · refine ⟨_, rfl, d - 1, 0, 0, _, by omega, Nat.le_of_ble_eq_true rfl, Nat.le_of_ble_eq_true rfl, Nat.le_of_ble_eq_true rfl, m_testsHold (x := x) (n := ne) (L := Lm n) (by omega) h5 xb (by rw [eP]; exact ene) ne4 (by rw [eP]; intro k hk; exact a5 k (by omega)) hLm (sgL_L _ _), ?_⟩
          rintro _ _ ⟨rfl, rfl⟩
          refine ⟨Or.inl rfl, ?_⟩
          rw [eP]
          refine ⟨fun c79 => ?_, fun c79 => ?_⟩
          · have q1 := bI_0.mp c79
            exact ih (n + 1) _ w _ t _ _ (by rw [hz]; exact nI_1 n) (fun a b4 b5 => by rw [sgL_a b5]; exact hF a b4 b5) (by unfold s4P; rw [sgL_a (show (4 : Nat) ≠ 5 by decide)]; exact h4) hM hw (fun q a b f hdn hbi => by
              rcases dnP_s.mp hdn with hdn | ⟨rfl, rfl⟩
              · exact hD q a b f hdn hbi
              · exact absurd hbi.2.2.1 (by rw [ei, q1, Bool.and_false]; exact Bool.false_ne_true)) (by omega) (by omega)
          · refine m_sizes_s (x := x) (nt := nt) (L := Lm n) (t := t) (by omega) h5 xb (by rw [eP]; exact ent) n3 (by rw [eP]; intro k hk; exact a3 k (by omega)) hLm (sgL_L _ _) (by unfold s4P; rw [e4]; exact h4) hM.2.1 (fun z8 => ?_) (nt + 1) 0 0 1 rfl rfl (by omega) (by omega)
            rw [eP]
            have t1 : plN v6 (Lm n) 4 = true := by cases q : plN v6 (Lm n) 4 with
              | true => rfl
              | false => exact absurd (by rw [q]; rfl) c59
            have t2 : blB (sg0 3) (sg0 1) (Lm n) x 100000 nt = true := by cases q : blB (sg0 3) (sg0 1) (Lm n) x 100000 nt with
              | true => rfl
              | false => exact absurd (by rw [q]; rfl) c70
            have t3 : thN (sg0 1) (Lm n) x ne = true := by cases q : thN (sg0 1) (Lm n) x ne with
              | true => rfl
              | false => exact absurd (by rw [q]; rfl) c79
            have hby : sy_by (syP (sg0 1) dy) (rcP (syP (sg0 1) dy) (baP (sg0 1) n0)) r n (faN (sg0 1) (Lm n) (x + 26)) := ⟨by show r < pn (sg0 1) 1; rw [eR]; exact hr, k1, by rw [ei, t1, t3]; rfl, ee, ebl.mp t2⟩
            have sb : tmS t (fun k => faN (sg0 1) (Lm n) (x + 2 + 4 * k)) nt ≤ 3 * 100000 := Nat.le_trans (tmS_c nt (fun k hk => hM.2.1 _ (faN_lt hLm (a3 k (by omega))))) (Nat.mul_le_mul_right _ n3)
            have tb := hM.2.1 _ le
            refine am_go ok_X12_sizes [39] 60 ?_
            refine ⟨_, rfl, d - 1, 0, 0, _, by omega, Nat.le_of_ble_eq_true rfl, Nat.le_of_ble_eq_true rfl, Nat.le_of_ble_eq_true rfl, m_factAt (x := x + 26) (L := Lm n) (by omega) (by rw [h5]; exact nI_add x 26) (by omega) (by rw [eP]; exact a4) hLm (sgL_L _ _), ?_⟩
            rintro _ _ ⟨rfl, rfl⟩
            refine ⟨Or.inl rfl, ?_⟩
            rw [eP]
            refine ⟨_, _, rfl, rfl, ?_⟩
            refine ⟨_, _, (faN (sg0 1) (Lm n) (x + 26)), rfl, rfl, le, Nat.le_of_ble_eq_true rfl, ?_⟩
            rw [e4, h4 _ le]
            refine ⟨fun c149 => ?_, fun c149 => ?_⟩
            · have q1 := (nI_leI (by omega) (by omega)).mp c149
              exact ih (n + 1) _ w _ t _ _ (by rw [hz]; exact nI_1 n) (fun a b4 b5 => by rw [sgL_a b5]; exact hF a b4 b5) (by unfold s4P; rw [sgL_a (show (4 : Nat) ≠ 5 by decide)]; exact h4) hM hw (fun q a b f hdn hbi => by
                rcases dnP_s.mp hdn with hdn | ⟨rfl, rfl⟩
                · exact hD q a b f hdn hbi
                · exact by rw [← hbi.2.2.2.1, ee, ek, et]; exact q1) (by omega) (by omega)
            · have q1 : 1 + tmS t (fun k => faN (sg0 1) (Lm n) (x + 2 + 4 * k)) nt < t (faN (sg0 1) (Lm n) (x + 26)) := (nI_ltI (by omega) (by omega)).mp (i_nle c149)
              have hMu := szM_u hS hM hby (by rw [ek, et]; exact q1) le
              rw [ek, et] at hMu
              refine ⟨_, _, rfl, rfl, ?_⟩
              refine ⟨_, _, (faN (sg0 1) (Lm n) (x + 26)), rfl, rfl, le, Nat.le_of_ble_eq_true rfl, ?_⟩
              rw [hm_a4]
              refine ih (n + 1) _ 1 _ _ _ _ (by rw [hz]; exact nI_1 n) (fun a b4 b5 => by rw [sg_i b4, sgL_a b5]; exact hF a b4 b5) ?_ hMu (Or.inr ⟨rfl, ?_⟩) (fun q => absurd q (by decide)) (by omega) (by omega)
              · intro f hf
                rw [sg_ii, e4]
                unfold updN
                split
                · rename_i q; subst q; rw [pk_us]
                · rename_i q; rw [pk_un q]; exact h4 f hf
              · have hle : ∀ k, k < 750 → updN t (faN (sg0 1) (Lm n) (x + 26)) (1 + tmS t (fun k => faN (sg0 1) (Lm n) (x + 2 + 4 * k)) nt) k ≤ t k := by
                  intro k _
                  unfold updN
                  split
                  · rename_i q; subst q; omega
                  · exact Nat.le_refl _
                have h9 := smN_lt (j := faN (sg0 1) (Lm n) (x + 26)) 750 hle le (by unfold updN; rw [if_pos rfl]; exact q1)
                rcases hw with ⟨-, e9⟩ | ⟨-, e9⟩ <;> omega
set_option maxHeartbeats 4000000 in
theorem m_sizes_m {sg0 : sg_T} {d kc ks : Nat} {Q : Option Value → am_H → Prop} (hd : 3 ≤ d) {dy : Int32} {R C n0 : Nat} (hW : wkP (sg0 1) dy R C n0) (hH : ∀ f, f < 750 → htIs (syP (sg0 1) dy) (baP (sg0 1) n0) f (sg0 3 f)) {m0 : Nat} (K : ∀ (sg : sg_T) (w : Int32) (t : Nat → Nat) (t3 t4 t5 t6 t7 t8 : Option Value), frS sg0 sg → s4P sg t → szM (syP (sg0 1) dy) (baP (sg0 1) n0) t → (w = 0 ∧ smN t 750 = m0 ∨ w = 1 ∧ smN t 750 < m0) → (w = 0 → szD (syP (sg0 1) dy) (baP (sg0 1) n0) t R 0) → am_W mi_X12_sizes d Q kc ks 2 [some (.ref 0), some (.int dy), some (.int w), t3, t4, t5, t6, t7, t8] [] (hm sg)) : ∀ (u r : Nat) (r4 w : Int32) (sg : sg_T) (t : Nat → Nat) (t4 t5 t6 t7 t8 : Option Value), r4 = nI r → frS sg0 sg → s4P sg t → szM (syP (sg0 1) dy) (baP (sg0 1) n0) t → (w = 0 ∧ smN t 750 = m0 ∨ w = 1 ∧ smN t 750 < m0) → (w = 0 → szD (syP (sg0 1) dy) (baP (sg0 1) n0) t r 0) → r ≤ R → R < r + u → am_W mi_X12_sizes d Q kc ks 10 [some (.ref 0), some (.int dy), some (.int w), some (.int r4), t4, t5, t6, t7, t8] [] (hm sg) := by
  intro u
  induction u with
  | zero => intro r r4 w sg t t4 t5 t6 t7 t8 hz hF h4 hM hw hD h1 h2; exact absurd h2 (by omega)
  | succ u ih =>
    intro r r4 w sg t t4 t5 t6 t7 t8 hz hF h4 hM hw hD h1 h2
    refine am_go ok_X12_sizes [2, 39] 77 ?_
    obtain ⟨w1, w2, w3, w4, w5, w6, w7, w8, w9, w10⟩ := id hW
    have e1 : sg 1 = sg0 1 := hF 1 (by decide) (by decide)
    refine ⟨_, _, rfl, rfl, ?_⟩
    refine ⟨_, _, 1, rfl, rfl, Nat.le_of_ble_eq_true rfl, Nat.le_of_ble_eq_true rfl, ?_⟩
    rw [e1, w1]
    refine ⟨fun c17 => ?_, fun c17 => ?_⟩
    · rw [hz] at c17
      have k1 : r = R := by have := (nI_leI (by omega) (by omega)).mp c17; omega
      subst k1
      exact K sg w t _ t4 t5 t6 t7 t8 hF h4 hM hw hD
    · have k1 : r < R := by
        rcases Nat.lt_or_ge r R with q | q
        · exact q
        · exact absurd (by rw [hz]; exact (nI_leI (by omega) (by omega)).mpr q) c17
      obtain ⟨⟨nt, n1, n3, ent⟩, -⟩ := w10 r k1
      have x20 : txN (sg0 1) r dy < 20 := txN_lt (by omega) w3 w4 w5 w6
      have xb : txX (sg0 1) r dy + 30 ≤ 3228 := by unfold txX; omega
      have p1 := pn_of ent (by omega)
      refine ⟨_, rfl, d - 1, 0, 0, _, by omega, Nat.le_of_ble_eq_true rfl, Nat.le_of_ble_eq_true rfl, Nat.le_of_ble_eq_true rfl, m_textOn (q := r) (n := C) (by omega) dy hz (by omega) (by rw [e1]; exact w3) w4 (by rw [e1]; exact w5) (by rw [e1]; exact w6), ?_⟩
      rintro _ _ ⟨rfl, rfl⟩
      refine ⟨Or.inl rfl, ?_⟩
      rw [e1]
      refine ⟨_, rfl, d - 1, 0, 0, _, by omega, Nat.le_of_ble_eq_true rfl, Nat.le_of_ble_eq_true rfl, Nat.le_of_ble_eq_true rfl, m_termLetters (x := txX (sg0 1) r dy) (n := nt) (by omega) rfl (by rw [e1]; exact ent) (by omega), ?_⟩
      rintro _ _ ⟨rfl, rfl⟩
      refine ⟨Or.inl rfl, ?_⟩
      rw [e1]
      exact m_sizes_i hd hW hH (m0 := m0) k1 rfl rfl (by rw [p1]) (fun sg w t z t7 t8 hF h4 hM hw hD => ih (r + 1) _ w sg t _ _ _ _ _ (by rw [hz]; exact nI_1 r) hF h4 hM hw (fun q a b f hdn hby => hD q a b f (by
        rcases hdn with q1 | ⟨q1, q2⟩
        · rcases (show a < r ∨ a = r by omega) with q3 | q3
          · exact Or.inl q3
          · exact Or.inr ⟨q3, hby.2.1⟩
        · omega) hby) (by omega) (by omega)) 626 0 0 w sg t t7 t8 rfl hF h4 hM hw (fun q a b f hdn hby => hD q a b f hdn hby) (by omega) (by omega)
theorem m_sizes_x {sg0 : sg_T} {d kc ks : Nat} {dy : Int32} {n0 : Nat} {t3 t4 t5 t6 t7 t8 : Option Value} {sg : sg_T} {t : Nat → Nat} (hF : frS sg0 sg) (h4 : s4P sg t) (h : szIs (syP (sg0 1) dy) (baP (sg0 1) n0) t) : am_W mi_X12_sizes d (fun r h' => r = none ∧ ∃ sg t, h' = hm sg ∧ frS sg0 sg ∧ s4P sg t ∧ szIs (syP (sg0 1) dy) (baP (sg0 1) n0) t) kc ks 2 [some (.ref 0), some (.int dy), some (.int 0), t3, t4, t5, t6, t7, t8] [] (hm sg) := by
  refine am_go ok_X12_sizes [2] 62 ?_
  refine ⟨fun _ => ?_, fun c3 => absurd rfl c3⟩
  exact ⟨rfl, sg, t, rfl, hF, h4, h⟩
theorem m_sizes_o {sg0 : sg_T} {d kc ks : Nat} (hd : 3 ≤ d) {dy : Int32} {R C n0 : Nat} (hW : wkP (sg0 1) dy R C n0) (hH : ∀ f, f < 750 → htIs (syP (sg0 1) dy) (baP (sg0 1) n0) f (sg0 3 f)) : ∀ (u : Nat) (sg : sg_T) (t : Nat → Nat) (t3 t4 t5 t6 t7 t8 : Option Value), frS sg0 sg → s4P sg t → szM (syP (sg0 1) dy) (baP (sg0 1) n0) t → smN t 750 < u → am_W mi_X12_sizes d (fun r h' => r = none ∧ ∃ sg t, h' = hm sg ∧ frS sg0 sg ∧ s4P sg t ∧ szIs (syP (sg0 1) dy) (baP (sg0 1) n0) t) kc ks 2 [some (.ref 0), some (.int dy), some (.int 1), t3, t4, t5, t6, t7, t8] [] (hm sg) := by
  intro u
  induction u with
  | zero => intro sg t t3 t4 t5 t6 t7 t8 hF h4 hM h2; exact absurd h2 (by omega)
  | succ u ih =>
    intro sg t t3 t4 t5 t6 t7 t8 hF h4 hM h2
    refine am_go ok_X12_sizes [10] 66 ?_
    refine ⟨fun c3 => absurd c3 (by decide), fun _ => ?_⟩
    have eR : sy_R (syP (sg0 1) dy) = R := by obtain ⟨w1, w2, -⟩ := id hW; exact pn_of w1 (by omega)
    refine m_sizes_m hd hW hH (m0 := smN t 750) (fun sg' w t' t3 t4 t5 t6 t7 t8 hF' h4' hM' hw hD => ?_) (R + 1) 0 0 0 sg t _ _ _ _ _ rfl hF h4 hM (Or.inl ⟨rfl, rfl⟩) (fun _ a b f hdn _ => ?_) (by omega) (by omega)
    · rcases hw with ⟨rfl, e⟩ | ⟨rfl, e⟩
      · refine m_sizes_x hF' h4' ⟨⟨hM'.1, fun r n f hby => hD rfl r n f (Or.inl ?_) hby, hM'.2.1⟩, hM'.2.2⟩
        have := hby.1
        rw [eR] at this
        exact this
      · exact ih sg' t' _ _ _ _ _ _ hF' h4' hM' (by omega)
    · rcases hdn with q | ⟨_, q⟩ <;> omega
theorem m_sizes {sg0 : sg_T} {d : Nat} (hd : 3 ≤ d) {dy : Int32} {R C n0 : Nat} (hW : wkP (sg0 1) dy R C n0) (hH : ∀ f, f < 750 → htIs (syP (sg0 1) dy) (baP (sg0 1) n0) f (sg0 3 f)) (hB : b4P (sg0 1) n0 (sg0 4)) : am_Met mi_X12_sizes d 0 0 [.ref 0, .int dy] (hm sg0) (fun r h' => r = none ∧ ∃ sg t, h' = hm sg ∧ frS sg0 sg ∧ s4P sg t ∧ szIs (syP (sg0 1) dy) (baP (sg0 1) n0) t) := by
  refine am_Met.of rfl (Nat.le_of_ble_eq_true rfl) ?_
  refine am_go ok_X12_sizes [2] 62 ?_
  have hp : ∀ f, pn (sg0 4) f = 1 ∨ pn (sg0 4) f = 100000 ∨ 750 ≤ f := by
    intro f
    rcases Nat.lt_or_ge f 750 with q | q
    · rcases hB f q with ⟨_, e⟩ | ⟨_, e⟩
      · exact Or.inl (pn_of (k := 1) e (by omega))
      · exact Or.inr (Or.inl (pn_of (k := 100000) e (by omega)))
    · exact Or.inr (Or.inr q)
  refine m_sizes_o hd hW hH (smN (pn (sg0 4)) 750 + 1) sg0 (pn (sg0 4)) _ _ _ _ _ _ (fun _ _ _ => rfl) (fun f hf => ?_) ⟨fun f hf hb => ?_, fun f hf => ?_, fun s hs f hf => ?_⟩ (by omega)
  · rcases hB f hf with ⟨_, e⟩ | ⟨_, e⟩
    · rw [pn_of (k := 1) e (by omega), e]; rfl
    · rw [pn_of (k := 100000) e (by omega), e]; rfl
  · rcases hB f hf with ⟨_, e⟩ | ⟨z, _⟩
    · rw [pn_of (k := 1) e (by omega)]; omega
    · exact absurd hb z
  · rcases hp f with e | e | e <;> omega
  · rcases hB f hf with ⟨z, e⟩ | ⟨_, e⟩
    · rw [pn_of (k := 1) e (by omega)]; exact hs.1 f hf z
    · rw [pn_of (k := 100000) e (by omega)]; exact hs.2.2 f hf
