/-! runs: one RULE once -/
def fr58 (sg sg' : sg_T) : Prop := ∀ a, a ≠ 5 → a ≠ 8 → sg' a = sg a
/-- what the rule q brings by its letterings below n -/
def rwP (S : sy_T) (F : Nat → Bool) (q n f : Nat) : Prop := ∃ b, b < n ∧ sy_by S (fun g => F g = true) q b f
def nwI (S : sy_T) (F : Nat → Bool) (q n : Nat) (g : Nat → Int32) : Prop := ∀ f, f < 750 → (g f = 1 ∧ rwP S F q n f) ∨ (g f = 0 ∧ ¬ rwP S F q n f)
/-- the rule's text, and what is found, as the cells have them -/
def rnX (P0 P : Nat → Int32) (F : Nat → Bool) (q x : Nat) : Prop := agT P0 P ∧ (∀ f, f < 750 → P (2478 + f) = bI (F f)) ∧ q < 8 ∧ q < pn P0 1 ∧ x = txX P0 q (P0 0) ∧ okX P0 x ∧ 1758 ≤ x ∧ x + 30 ≤ 2358
theorem or_bI {v : Int32} {b : Bool} {p : Prop} (h : (v = 1 ∧ p) ∨ (v = 0 ∧ ¬ p)) : (v ||| bI b = 1 ∧ (p ∨ b = true)) ∨ (v ||| bI b = 0 ∧ ¬ (p ∨ b = true)) := by
  cases b with
  | true =>
    rcases h with ⟨h, h'⟩ | ⟨h, h'⟩
    · rw [h]; exact Or.inl ⟨by decide, Or.inl h'⟩
    · rw [h]; exact Or.inl ⟨by decide, Or.inr rfl⟩
  | false =>
    rcases h with ⟨h, h'⟩ | ⟨h, h'⟩
    · rw [h]; exact Or.inl ⟨by decide, Or.inl h'⟩
    · rw [h]; exact Or.inr ⟨by decide, fun z => z.elim h' (fun w => absurd w (by decide))⟩
theorem nw_st {S : sy_T} {F : Nat → Bool} {q n e : Nat} {g : Nat → Int32} {b : Bool} (h : nwI S F q n g) (he : e = sy_e S q n) (hq : q < sy_R S) (n6 : n < 625) (hb : b = true ↔ (sy_i S q n = true ∧ ∀ j, j < sy_k S q → F (sy_t S q n j) = true)) : nwI S F q (n + 1) (upd g e (g e ||| bI b)) := by
  have key : ∀ f, rwP S F q (n + 1) f ↔ (rwP S F q n f ∨ (f = e ∧ b = true)) := by
    intro f
    constructor
    · rintro ⟨c, hc, hy⟩
      rcases (show c = n ∨ c < n by omega) with z | z
      · subst z
        exact Or.inr ⟨by rw [he]; exact hy.2.2.2.1.symm, hb.mpr ⟨hy.2.2.1, hy.2.2.2.2⟩⟩
      · exact Or.inl ⟨c, z, hy⟩
    · rintro (⟨c, hc, hy⟩ | ⟨z, w⟩)
      · exact ⟨c, by omega, hy⟩
      · obtain ⟨b1, b2⟩ := hb.mp w
        exact ⟨n, by omega, hq, n6, b1, by rw [z, he], b2⟩
  intro f hf
  by_cases z : f = e
  · subst z
    rw [pk_us]
    rcases or_bI (b := b) (h f hf) with ⟨k1, k2⟩ | ⟨k1, k2⟩
    · exact Or.inl ⟨k1, (key f).mpr (k2.elim Or.inl (fun w => Or.inr ⟨rfl, w⟩))⟩
    · exact Or.inr ⟨k1, fun w => k2 (((key f).mp w).elim Or.inl (fun y => Or.inr y.2))⟩
  · rw [pk_un z]
    rcases h f hf with ⟨k1, k2⟩ | ⟨k1, k2⟩
    · exact Or.inl ⟨k1, (key f).mpr (Or.inl k2)⟩
    · exact Or.inr ⟨k1, fun w => ((key f).mp w).elim k2 (fun y => z y.1)⟩
theorem m_runs_1 {s1 : sg_T} {d kc ks : Nat} {Q : Option Value → am_H → Prop} {vr vx vs : Int32} {t5 t6 : Option Value} (K : ∀ (sg : sg_T) (z : Int32), fr58 s1 sg → (∀ f, f < 750 → sg 8 f = 0) → am_W mi_X12_runs d Q kc ks 74 [some (.ref 0), some (.int vr), some (.int vx), some (.int vs), some (.int z), t5, t6] [] (hm sg)) : ∀ (u k : Nat) (z : Int32) (sg : sg_T), z = nI k → fr58 s1 sg → (∀ f, f < k → sg 8 f = 0) → k ≤ 750 → 750 < k + u → am_W mi_X12_runs d Q kc ks 52 [some (.ref 0), some (.int vr), some (.int vx), some (.int vs), some (.int z), t5, t6] [] (hm sg) := by
  intro u
  induction u with
  | zero => intro k z sg hz hF hA h1 h2; exact absurd h2 (by omega)
  | succ u ih =>
    intro k z sg hz hF hA h1 h2
    refine am_go ok_X12_runs [52, 74] 70 ?_
    refine ⟨fun c57 => ?_, fun c57 => ?_⟩
    · rw [hz] at c57
      have k1 : k = 750 := by have := (nI_leI (a := 750) (by omega) (by omega)).mp c57; omega
      subst k1
      exact K sg _ hF hA
    · have k1 : k < 750 := by
        rcases Nat.lt_or_ge k 750 with q1 | q1
        · exact q1
        · exact absurd (by rw [hz]; exact (nI_leI (a := 750) (by omega) (by omega)).mpr q1) c57
      refine ⟨_, _, rfl, rfl, ?_⟩
      refine ⟨_, _, k, rfl, hz, by omega, Nat.le_of_ble_eq_true rfl, ?_⟩
      rw [hm_a8]
      refine ih (k + 1) _ _ (by rw [hz, nI_1]) (fun a a5 a8 => (sg_i a8).trans (hF a a5 a8)) (fun f hf => ?_) (by omega) (by omega)
      rw [sg_ii]
      by_cases q : f = k
      · subst q; exact pk_us
      · rw [pk_un q]; exact hA f (by omega)
theorem m_runs_k {P0 : Nat → Int32} {d kc ks : Nat} {Q : Option Value → am_H → Prop} (hd : 10 ≤ d) {F : Nat → Bool} {q x : Nat} {vr vx vs : Int32} (hv : vx = nI x) {sg : sg_T} {n nt : Nat} {z4 : Int32} (hX : rnX P0 (sg 1) F q x) (hn : pn P0 x = nt) (n6 : n < 625) (hM : LMs sg (Lm n)) (K : ∀ (b : Bool) (t6 : Option Value), (b = true ↔ (sy_i (syP P0 (P0 0)) q n = true ∧ ∀ j, j < nt → F (sy_t (syP P0 (P0 0)) q n j) = true)) → am_W mi_X12_runs d Q kc ks 171 [some (.ref 0), some (.int vr), some (.int vx), some (.int vs), some (.int z4), some (.int (bI b)), t6] [] (hm sg)) : ∀ (u k : Nat) (z : Int32) (b : Bool), z = nI k → (b = true ↔ (sy_i (syP P0 (P0 0)) q n = true ∧ ∀ j, j < k → F (sy_t (syP P0 (P0 0)) q n j) = true)) → k ≤ nt → nt < k + u → am_W mi_X12_runs d Q kc ks 117 [some (.ref 0), some (.int vr), some (.int vx), some (.int vs), some (.int z4), some (.int (bI b)), some (.int z)] [] (hm sg) := by
  intro u
  induction u with
  | zero => intro k z b hz hb h1 h2; exact absurd h2 (by omega)
  | succ u ih =>
    intro k z b hz hb h1 h2
    refine am_go ok_X12_runs [117, 171] 89 ?_
    obtain ⟨hag, hF, q8, qR, hx, hok, x1, x2⟩ := hX
    have nt3 : nt ≤ 3 := by rw [← hn]; exact (okX_n hok).1
    obtain ⟨n', n'1, n'3, en⟩ := hok.1
    have en' : n' = nt := by rw [← hn, pn_of en (by omega)]
    subst en'
    have e1 : sg 1 x = nI n' := by rw [hag _ (by omega)]; exact en
    refine ⟨_, _, rfl, rfl, ?_⟩
    refine ⟨_, _, x, rfl, hv, by omega, Nat.le_of_ble_eq_true rfl, ?_⟩
    rw [e1]
    refine ⟨fun c125 => ?_, fun c125 => ?_⟩
    · rw [hz] at c125
      have k1 : k = n' := by have := (nI_leI (by omega) (by omega)).mp c125; omega
      subst k1
      first
      | exact K b _ hb
      | exact K b _ ⟨fun w => absurd (b0.symm.trans w) (by decide), fun w => hb.mpr ⟨w.1, fun j hj => w.2 j (by omega)⟩⟩
    · have k1 : k < n' := by
        rcases Nat.lt_or_ge k n' with q1 | q1
        · exact q1
        · exact absurd (by rw [hz]; exact (nI_leI (by omega) (by omega)).mpr q1) c125
      refine ⟨fun c130 => ?_, fun c130 => ?_⟩
      · have b0 : b = false := bI_0.mp c130
        first
        | exact K b _ hb
        | exact K b _ ⟨fun w => absurd (b0.symm.trans w) (by decide), fun w => hb.mpr ⟨w.1, fun j hj => w.2 j (by omega)⟩⟩
      · have b0 : b = true := by
          cases b with
          | true => rfl
          | false => exact absurd rfl c130
        have ok1 : okT P0 (x + 2 + 4 * k) := hok.2.2.1 k (by rw [hn]; exact k1)
        have ok2 : okT (sg 1) (x + 2 + 4 * k) := okT_T hag (by omega) ok1
        have fe : faN (sg 1) (Lm n) (x + 2 + 4 * k) = faN P0 (Lm n) (x + 2 + 4 * k) := faN_T hag (by omega)
        have fl : faN P0 (Lm n) (x + 2 + 4 * k) < 750 := faN_lt (okL_Lm n6) ok1
        have st : sy_t (syP P0 (P0 0)) q n k = faN P0 (Lm n) (x + 2 + 4 * k) := by rw [hx]; rfl
        refine ⟨_, _, rfl, rfl, ?_⟩
        refine ⟨_, rfl, d - 1, 0, 0, _, by omega, Nat.le_of_ble_eq_true rfl, Nat.le_of_ble_eq_true rfl, Nat.le_of_ble_eq_true rfl, m_factAt (x := x + 2 + 4 * k) (L := Lm n) (by omega) (by rw [hv, hz]; show nI x + nI 2 + nI 4 * nI k = _; rw [nI_add, pk_mul, nI_add]) (by omega) ok2 (okL_Lm n6) hM, ?_⟩
        rintro _ _ ⟨rfl, rfl⟩
        refine ⟨Or.inl rfl, ?_⟩
        rw [fe]
        refine ⟨_, _, (2478 + faN P0 (Lm n) (x + 2 + 4 * k)), rfl, (nI_add 2478 _), by omega, Nat.le_of_ble_eq_true rfl, ?_⟩
        rw [hF _ fl]
        refine ⟨fun c155 => ?_, fun c155 => ?_⟩
        · have f0 : ¬ F (faN P0 (Lm n) (x + 2 + 4 * k)) = true := fun w => c155 (bI_1.mpr w)
          first
          | exact ih (k + 1) _ true (by rw [hz, nI_1]) ⟨fun _ => ⟨(hb.mp b0).1, fun j hj => by
              rcases (show j = k ∨ j < k by omega) with e | e
              · rw [e, st]; exact f0
              · exact (hb.mp b0).2 j e⟩, fun _ => rfl⟩ (by omega) (by omega)
          | exact ih (k + 1) _ false (by rw [hz, nI_1]) ⟨fun w => absurd w (by decide), fun w => absurd (by rw [← st]; exact w.2 k (by omega)) f0⟩ (by omega) (by omega)
        · have f0 : F (faN P0 (Lm n) (x + 2 + 4 * k)) = true := bI_1.mp c155
          first
          | exact ih (k + 1) _ true (by rw [hz, nI_1]) ⟨fun _ => ⟨(hb.mp b0).1, fun j hj => by
              rcases (show j = k ∨ j < k by omega) with e | e
              · rw [e, st]; exact f0
              · exact (hb.mp b0).2 j e⟩, fun _ => rfl⟩ (by omega) (by omega)
          | exact ih (k + 1) _ false (by rw [hz, nI_1]) ⟨fun w => absurd w (by decide), fun w => absurd (by rw [← st]; exact w.2 k (by omega)) f0⟩ (by omega) (by omega)
theorem m_runs_e {P0 : Nat → Int32} {d kc ks : Nat} {Q : Option Value → am_H → Prop} (hd : 10 ≤ d) {F : Nat → Bool} {q x : Nat} {vr vx vs : Int32} (hv : vx = nI x) {s1 sg : sg_T} {n : Nat} {z4 : Int32} {t6 : Option Value} {b : Bool} (hX : rnX P0 (sg 1) F q x) (n6 : n < 625) (hM : LMs sg (Lm n)) (hF : fr58 s1 sg) (hW : nwI (syP P0 (P0 0)) F q n (sg 8)) (hb : b = true ↔ (sy_i (syP P0 (P0 0)) q n = true ∧ ∀ j, j < pn P0 x → F (sy_t (syP P0 (P0 0)) q n j) = true)) (K : ∀ (s3 : sg_T), fr58 s1 s3 → nwI (syP P0 (P0 0)) F q (n + 1) (s3 8) → am_W mi_X12_runs d Q kc ks 77 [some (.ref 0), some (.int vr), some (.int vx), some (.int vs), some (.int (z4 + 1)), some (.int (bI b)), t6] [] (hm s3)) : am_W mi_X12_runs d Q kc ks 171 [some (.ref 0), some (.int vr), some (.int vx), some (.int vs), some (.int z4), some (.int (bI b)), t6] [] (hm sg) := by
  refine am_go ok_X12_runs [77] 77 ?_
  obtain ⟨hag, hFo, q8, qR, hx, hok, x1, x2⟩ := hX
  have fe : faN (sg 1) (Lm n) (x + 26) = faN P0 (Lm n) (x + 26) := faN_T hag (by omega)
  have fl : faN P0 (Lm n) (x + 26) < 750 := faN_lt (okL_Lm n6) hok.2.2.2.1
  have se : faN P0 (Lm n) (x + 26) = sy_e (syP P0 (P0 0)) q n := by rw [hx]; rfl
  have sk : sy_k (syP P0 (P0 0)) q = pn P0 x := by rw [hx]; rfl
  have st := nw_st (e := faN P0 (Lm n) (x + 26)) hW se qR n6 (b := b) (by rw [sk]; exact hb)
  refine ⟨_, _, rfl, rfl, ?_⟩
  refine ⟨_, rfl, d - 1, 0, 0, _, by omega, Nat.le_of_ble_eq_true rfl, Nat.le_of_ble_eq_true rfl, Nat.le_of_ble_eq_true rfl, m_factAt (x := x + 26) (L := Lm n) (by omega) (by rw [hv]; exact nI_add x 26) (by omega) (okT_T hag (by omega) hok.2.2.2.1) (okL_Lm n6) hM, ?_⟩
  rintro _ _ ⟨rfl, rfl⟩
  refine ⟨Or.inl rfl, ?_⟩
  rw [fe]
  refine ⟨_, _, (faN P0 (Lm n) (x + 26)), rfl, rfl, by omega, Nat.le_of_ble_eq_true rfl, ?_⟩
  refine ⟨fun c187 => ?_, fun c187 => ?_⟩
  · have b0 : b = false := bI_0.mp c187
    subst b0
    refine ⟨_, _, (faN P0 (Lm n) (x + 26)), rfl, rfl, by omega, Nat.le_of_ble_eq_true rfl, ?_⟩
    rw [hm_a8]
    exact K _ (fun a a5 a8 => (sg_i a8).trans (hF a a5 a8)) (by rw [sg_ii]; exact st)
  · have b0 : b = true := by
      cases b with
      | true => rfl
      | false => exact absurd rfl c187
    subst b0
    refine ⟨_, _, (faN P0 (Lm n) (x + 26)), rfl, rfl, by omega, Nat.le_of_ble_eq_true rfl, ?_⟩
    rw [hm_a8]
    exact K _ (fun a a5 a8 => (sg_i a8).trans (hF a a5 a8)) (by rw [sg_ii]; exact st)
theorem m_runs_n {P0 : Nat → Int32} {d kc ks : Nat} {Q : Option Value → am_H → Prop} (hd : 10 ≤ d) {F : Nat → Bool} {q x : Nat} {vr vx vs : Int32} (hv : vx = nI x) {s1 : sg_T} {t5 t6 : Option Value} (hX : rnX P0 (s1 1) F q x) (hs : vs = tlF P0 x (pn P0 x)) (K : ∀ (sg : sg_T) (z : Int32) (t5 t6 : Option Value), fr58 s1 sg → nwI (syP P0 (P0 0)) F q 625 (sg 8) → am_W mi_X12_runs d Q kc ks 203 [some (.ref 0), some (.int vr), some (.int vx), some (.int vs), some (.int z), t5, t6] [] (hm sg)) : ∀ (u n : Nat) (z : Int32) (t5 t6 : Option Value) (sg : sg_T), z = nI n → fr58 s1 sg → nwI (syP P0 (P0 0)) F q n (sg 8) → n ≤ 625 → 625 < n + u → am_W mi_X12_runs d Q kc ks 77 [some (.ref 0), some (.int vr), some (.int vx), some (.int vs), some (.int z), t5, t6] [] (hm sg) := by
  intro u
  induction u with
  | zero => intro n z t5 t6 sg hz hF hW h1 h2; exact absurd h2 (by omega)
  | succ u ih =>
    intro n z t5 t6 sg hz hF hW h1 h2
    refine am_go ok_X12_runs [77, 117, 203] 79 ?_
    have hX' := hX
    obtain ⟨hag, hFo, q8, qR, hx, hok, x1, x2⟩ := hX'
    have e1 : sg 1 = s1 1 := hF 1 (by decide) (by decide)
    have hN := okX_n hok
    refine ⟨fun c82 => ?_, fun c82 => ?_⟩
    · rw [hz] at c82
      have k1 : n = 625 := by have := (nI_leI (a := 625) (by omega) (by omega)).mp c82; omega
      subst k1
      exact K sg _ _ _ hF hW
    · have k1 : n < 625 := by
        rcases Nat.lt_or_ge n 625 with q1 | q1
        · exact q1
        · exact absurd (by rw [hz]; exact (nI_leI (a := 625) (by omega) (by omega)).mpr q1) c82
      refine ⟨_, rfl, d - 1, 0, 0, _, by omega, Nat.le_of_ble_eq_true rfl, Nat.le_of_ble_eq_true rfl, Nat.le_of_ble_eq_true rfl, m_sets (d - 1) hz (by omega), ?_⟩
      rintro _ _ ⟨rfl, rfl⟩
      refine ⟨Or.inl rfl, ?_⟩
      have hF2 : fr58 s1 (sgL sg n) := fun a a5 a8 => (sgL_a a5).trans (hF a a5 a8)
      have hW2 : nwI (syP P0 (P0 0)) F q n (sgL sg n 8) := by rw [sgL_a (by decide)]; exact hW
      have hM := sgL_L sg n
      have e2 : sgL sg n 1 = s1 1 := (sgL_a (by decide)).trans e1
      generalize sgL sg n = s2 at hF2 hW2 hM e2 ⊢
      have hX2 : rnX P0 (s2 1) F q x := by rw [e2]; exact hX
      obtain ⟨m', m'4, em⟩ := hok.2.1
      have em' : s2 1 (x + 1) = nI m' := by rw [e2, hag _ (by omega)]; exact em
      have si : sy_i (syP P0 (P0 0)) q n = (plN vs (Lm n) 4 && thN P0 (Lm n) x m') := by rw [hs, ← pn_of em (by omega), hx]; rfl
      refine ⟨_, rfl, d - 1, 0, 0, _, by omega, Nat.le_of_ble_eq_true rfl, Nat.le_of_ble_eq_true rfl, Nat.le_of_ble_eq_true rfl, m_isPlain (d - 1) (okL_Lm k1) hM, ?_⟩
      rintro _ _ ⟨rfl, rfl⟩
      refine ⟨Or.inl rfl, ?_⟩
      refine ⟨fun c96 => ?_, fun c96 => ?_⟩
      · have s0 : ¬ sy_i (syP P0 (P0 0)) q n = true := by rw [si, bI_0.mp c96, Bool.false_and]; decide
        first
        | exact m_runs_k hd hv hX2 rfl k1 hM (fun b t6 hb => m_runs_e hd hv hX2 k1 hM hF2 hW2 hb (fun s3 g1 g2 => ih (n + 1) _ _ _ s3 (by rw [hz, nI_1]) g1 g2 (by omega) (by omega))) (pn P0 x + 1) 0 0 true rfl ⟨fun _ => ⟨s1', fun j hj => absurd hj (by omega)⟩, fun _ => rfl⟩ (by omega) (by omega)
        | exact m_runs_k hd hv hX2 rfl k1 hM (fun b t6 hb => m_runs_e hd hv hX2 k1 hM hF2 hW2 hb (fun s3 g1 g2 => ih (n + 1) _ _ _ s3 (by rw [hz, nI_1]) g1 g2 (by omega) (by omega))) (pn P0 x + 1) 0 0 false rfl ⟨fun w => absurd w (by decide), fun w => absurd w.1 s1'⟩ (by omega) (by omega)
        | exact m_runs_k hd hv hX2 rfl k1 hM (fun b t6 hb => m_runs_e hd hv hX2 k1 hM hF2 hW2 hb (fun s3 g1 g2 => ih (n + 1) _ _ _ s3 (by rw [hz, nI_1]) g1 g2 (by omega) (by omega))) (pn P0 x + 1) 0 0 false rfl ⟨fun w => absurd w (by decide), fun w => absurd w.1 s0⟩ (by omega) (by omega)
      · have s0 : plN vs (Lm n) 4 = true := by
          cases e : plN vs (Lm n) 4 with
          | true => rfl
          | false => rw [e] at c96; exact absurd rfl c96
        refine ⟨_, rfl, d - 1, 0, 0, _, by omega, Nat.le_of_ble_eq_true rfl, Nat.le_of_ble_eq_true rfl, Nat.le_of_ble_eq_true rfl, m_testsHold (n := m') (L := Lm n) (by omega) hv (by omega) em' m'4 (fun k hk => by rw [e2, hag _ (by omega), hag _ (by omega)]; exact hok.2.2.2.2 k (by rw [pn_of em (by omega)]; exact hk)) (okL_Lm k1) hM, ?_⟩
        rintro _ _ ⟨rfl, rfl⟩
        refine ⟨Or.inl rfl, ?_⟩
        have th : thN (s2 1) (Lm n) x m' = thN P0 (Lm n) x m' := thN_T (by rw [e2]; exact hag) x2 _ m'4
        rw [th]
        refine ⟨fun c104 => ?_, fun c104 => ?_⟩
        · have s1' : ¬ sy_i (syP P0 (P0 0)) q n = true := by rw [si, bI_0.mp c104, Bool.and_false]; decide
          first
          | exact m_runs_k hd hv hX2 rfl k1 hM (fun b t6 hb => m_runs_e hd hv hX2 k1 hM hF2 hW2 hb (fun s3 g1 g2 => ih (n + 1) _ _ _ s3 (by rw [hz, nI_1]) g1 g2 (by omega) (by omega))) (pn P0 x + 1) 0 0 true rfl ⟨fun _ => ⟨s1', fun j hj => absurd hj (by omega)⟩, fun _ => rfl⟩ (by omega) (by omega)
          | exact m_runs_k hd hv hX2 rfl k1 hM (fun b t6 hb => m_runs_e hd hv hX2 k1 hM hF2 hW2 hb (fun s3 g1 g2 => ih (n + 1) _ _ _ s3 (by rw [hz, nI_1]) g1 g2 (by omega) (by omega))) (pn P0 x + 1) 0 0 false rfl ⟨fun w => absurd w (by decide), fun w => absurd w.1 s1'⟩ (by omega) (by omega)
          | exact m_runs_k hd hv hX2 rfl k1 hM (fun b t6 hb => m_runs_e hd hv hX2 k1 hM hF2 hW2 hb (fun s3 g1 g2 => ih (n + 1) _ _ _ s3 (by rw [hz, nI_1]) g1 g2 (by omega) (by omega))) (pn P0 x + 1) 0 0 false rfl ⟨fun w => absurd w (by decide), fun w => absurd w.1 s0⟩ (by omega) (by omega)
        · have s1' : sy_i (syP P0 (P0 0)) q n = true := by
            rw [si, s0]
            cases e : thN P0 (Lm n) x m' with
            | true => rfl
            | false => rw [e] at c104; exact absurd rfl c104
          first
          | exact m_runs_k hd hv hX2 rfl k1 hM (fun b t6 hb => m_runs_e hd hv hX2 k1 hM hF2 hW2 hb (fun s3 g1 g2 => ih (n + 1) _ _ _ s3 (by rw [hz, nI_1]) g1 g2 (by omega) (by omega))) (pn P0 x + 1) 0 0 true rfl ⟨fun _ => ⟨s1', fun j hj => absurd hj (by omega)⟩, fun _ => rfl⟩ (by omega) (by omega)
          | exact m_runs_k hd hv hX2 rfl k1 hM (fun b t6 hb => m_runs_e hd hv hX2 k1 hM hF2 hW2 hb (fun s3 g1 g2 => ih (n + 1) _ _ _ s3 (by rw [hz, nI_1]) g1 g2 (by omega) (by omega))) (pn P0 x + 1) 0 0 false rfl ⟨fun w => absurd w (by decide), fun w => absurd w.1 s1'⟩ (by omega) (by omega)
          | exact m_runs_k hd hv hX2 rfl k1 hM (fun b t6 hb => m_runs_e hd hv hX2 k1 hM hF2 hW2 hb (fun s3 g1 g2 => ih (n + 1) _ _ _ s3 (by rw [hz, nI_1]) g1 g2 (by omega) (by omega))) (pn P0 x + 1) 0 0 false rfl ⟨fun w => absurd w (by decide), fun w => absurd w.1 s0⟩ (by omega) (by omega)
theorem rnF_0 {S : sy_T} {F : Nat → Bool} {q : Nat} {g : Nat → Int32} (h : nwI S F q 625 g) {f : Nat} (hf : f < 750) : bI (F f) ||| g f = bI (rnF S F q f) ∧ (g f = 1 ↔ rwP S F q 625 f) ∧ (rnF S F q f = true ↔ (F f = true ∨ rwP S F q 625 f)) := by
  have key : rnF S F q f = true ↔ (F f = true ∨ rwP S F q 625 f) := by
    unfold rnF
    by_cases z : F f = true ∨ ∃ n, sy_by S (fun g => F g = true) q n f
    · rw [iF_p ⟨hf, z⟩]
      exact ⟨fun _ => z.elim Or.inl (fun ⟨n, w⟩ => Or.inr ⟨n, w.2.1, w⟩), fun _ => rfl⟩
    · rw [iF_n (fun w => z w.2)]
      exact ⟨fun w => absurd w (by decide), fun w => absurd (w.elim Or.inl (fun ⟨n, _, y⟩ => Or.inr ⟨n, y⟩)) z⟩
  refine ⟨?_, ?_, key⟩
  · rcases h f hf with ⟨h1, h2⟩ | ⟨h1, h2⟩
    · rw [h1, key.mpr (Or.inr h2)]
      cases F f <;> decide
    · rw [h1]
      cases e : F f with
      | true => rw [key.mpr (Or.inl e)]; decide
      | false =>
        cases e2 : rnF S F q f with
        | true => rcases key.mp e2 with w | w
                  · rw [e] at w; cases w
                  · exact absurd w h2
        | false => decide
  · rcases h f hf with ⟨h1, h2⟩ | ⟨h1, h2⟩
    · exact ⟨fun _ => h2, fun _ => h1⟩
    · exact ⟨fun w => absurd (h1.symm.trans w) (by decide), fun w => absurd w h2⟩
def bkP (S : sy_T) (F : Nat → Bool) (q k : Nat) : Prop := ∃ f, f < k ∧ F f = false ∧ rnF S F q f = true
theorem bk_st {S : sy_T} {F : Nat → Bool} {q k : Nat} : bkP S F q (k + 1) ↔ (bkP S F q k ∨ (F k = false ∧ rnF S F q k = true)) := by
  constructor
  · rintro ⟨f, hf, h⟩
    rcases (show f = k ∨ f < k by omega) with e | e
    · subst e; exact Or.inr h
    · exact Or.inl ⟨f, e, h⟩
  · rintro (⟨f, hf, h⟩ | h)
    · exact ⟨f, by omega, h⟩
    · exact ⟨k, by omega, h⟩
theorem gwB_bk {S : sy_T} {F : Nat → Bool} {q : Nat} {b : Bool} (h : b = true ↔ bkP S F q 750) : b = gwB F (rnF S F q) := by
  unfold gwB
  by_cases z : grw F (rnF S F q)
  · rw [iF_p z]; exact h.mpr z
  · rw [iF_n z]
    cases b with
    | false => rfl
    | true => exact absurd (h.mp rfl) z
theorem m_runs_3 {S : sy_T} {d kc ks : Nat} {Q : Option Value → am_H → Prop} {F : Nat → Bool} {q : Nat} {vr vx vs : Int32} {t6 : Option Value} {s1 : sg_T} (hN : nwI S F q 625 (s1 8)) (hF0 : ∀ f, f < 750 → s1 1 (2478 + f) = bI (F f)) (K : ∀ (sg : sg_T) (z : Int32), (∀ a, a ≠ 1 → sg a = s1 a) → (∀ j, ¬ (2478 ≤ j ∧ j < 3228) → sg 1 j = s1 1 j) → (∀ f, f < 750 → sg 1 (2478 + f) = bI (rnF S F q f)) → Q (some (.int (bI (gwB F (rnF S F q))))) (hm sg)) : ∀ (u k : Nat) (z : Int32) (b : Bool) (sg : sg_T), z = nI k → (b = true ↔ bkP S F q k) → (∀ a, a ≠ 1 → sg a = s1 a) → (∀ j, ¬ (2478 ≤ j ∧ j < 3228) → sg 1 j = s1 1 j) → (∀ f, f < k → sg 1 (2478 + f) = bI (rnF S F q f)) → (∀ f, k ≤ f → f < 750 → sg 1 (2478 + f) = bI (F f)) → k ≤ 750 → 750 < k + u → am_W mi_X12_runs d Q kc ks 209 [some (.ref 0), some (.int vr), some (.int vx), some (.int vs), some (.int (bI b)), some (.int z), t6] [] (hm sg) := by
  intro u
  induction u with
  | zero => intro k z b sg hz hb fr hj hA hB h1 h2; exact absurd h2 (by omega)
  | succ u ih =>
    intro k z b sg hz hb fr hj hA hB h1 h2
    refine am_go ok_X12_runs [209] 96 ?_
    have e8 : sg 8 = s1 8 := fr 8 (by decide)
    refine ⟨fun c214 => ?_, fun c214 => ?_⟩
    · rw [hz] at c214
      have k1 : k = 750 := by have := (nI_leI (a := 750) (by omega) (by omega)).mp c214; omega
      subst k1
      refine ⟨bI_nar _, ?_⟩
      rw [gwB_bk hb]
      exact K sg z fr hj hA
    · have k1 : k < 750 := by
        rcases Nat.lt_or_ge k 750 with q1 | q1
        · exact q1
        · exact absurd (by rw [hz]; exact (nI_leI (a := 750) (by omega) (by omega)).mpr q1) c214
      obtain ⟨r1, r2, r3⟩ := rnF_0 hN k1
      have ek : sg 1 (2478 + k) = bI (F k) := hB k (Nat.le_refl _) k1
      refine ⟨fun c219 => ?_, fun c219 => ?_⟩
      · have nb : bkP S F q (k + 1) := bk_st.mpr (Or.inl (hb.mp (by cases b; exact absurd rfl c219; rfl)))
        refine ⟨_, _, rfl, rfl, ?_⟩
        refine ⟨_, _, (2478 + k), rfl, (by rw [hz]; exact nI_add 2478 k), by omega, Nat.le_of_ble_eq_true rfl, ?_⟩
        rw [ek]
        refine ⟨_, _, rfl, rfl, ?_⟩
        refine ⟨_, _, k, rfl, hz, by omega, Nat.le_of_ble_eq_true rfl, ?_⟩
        rw [e8]
        refine ⟨_, _, (2478 + k), rfl, (by rw [hz]; exact nI_add 2478 k), by omega, Nat.le_of_ble_eq_true rfl, ?_⟩
        rw [hm_a1]
        first
        | exact ih (k + 1) _ true _ (by rw [hz, nI_1]) ⟨fun _ => nb, fun _ => rfl⟩ (fun a ha => (sg_i ha).trans (fr a ha)) (fun j hjj => (sg_j (by omega)).trans (hj j hjj)) (fun f hf => by
            rcases (show f = k ∨ f < k by omega) with e | e
            · subst e; exact sg_s.trans r1
            · exact (sg_j (by omega)).trans (hA f e)) (fun f hf hf2 => (sg_j (by omega)).trans (hB f (by omega) hf2)) (by omega) (by omega)
        | exact ih (k + 1) _ false _ (by rw [hz, nI_1]) ⟨fun w => absurd w (by decide), fun w => absurd w nb⟩ (fun a ha => (sg_i ha).trans (fr a ha)) (fun j hjj => (sg_j (by omega)).trans (hj j hjj)) (fun f hf => by
            rcases (show f = k ∨ f < k by omega) with e | e
            · subst e; exact sg_s.trans r1
            · exact (sg_j (by omega)).trans (hA f e)) (fun f hf hf2 => (sg_j (by omega)).trans (hB f (by omega) hf2)) (by omega) (by omega)
      · have b0 : b = false := bI_0.mp c219
        have nb' : ¬ bkP S F q k := fun w => absurd (b0.symm.trans (hb.mpr w)) (by decide)
        refine ⟨_, _, rfl, rfl, ?_⟩
        refine ⟨_, _, k, rfl, hz, by omega, Nat.le_of_ble_eq_true rfl, ?_⟩
        rw [e8]
        refine ⟨fun c230 => ?_, fun c230 => ?_⟩
        · have nb : ¬ bkP S F q (k + 1) := fun w => (bk_st.mp w).elim nb' (fun y => (r3.mp y.2).elim (fun v => absurd (y.1.symm.trans v) (by decide)) (fun v => c230 (r2.mpr v)))
          refine ⟨_, _, rfl, rfl, ?_⟩
          refine ⟨_, _, (2478 + k), rfl, (by rw [hz]; exact nI_add 2478 k), by omega, Nat.le_of_ble_eq_true rfl, ?_⟩
          rw [ek]
          refine ⟨_, _, rfl, rfl, ?_⟩
          refine ⟨_, _, k, rfl, hz, by omega, Nat.le_of_ble_eq_true rfl, ?_⟩
          rw [e8]
          refine ⟨_, _, (2478 + k), rfl, (by rw [hz]; exact nI_add 2478 k), by omega, Nat.le_of_ble_eq_true rfl, ?_⟩
          rw [hm_a1]
          first
          | exact ih (k + 1) _ true _ (by rw [hz, nI_1]) ⟨fun _ => nb, fun _ => rfl⟩ (fun a ha => (sg_i ha).trans (fr a ha)) (fun j hjj => (sg_j (by omega)).trans (hj j hjj)) (fun f hf => by
              rcases (show f = k ∨ f < k by omega) with e | e
              · subst e; exact sg_s.trans r1
              · exact (sg_j (by omega)).trans (hA f e)) (fun f hf hf2 => (sg_j (by omega)).trans (hB f (by omega) hf2)) (by omega) (by omega)
          | exact ih (k + 1) _ false _ (by rw [hz, nI_1]) ⟨fun w => absurd w (by decide), fun w => absurd w nb⟩ (fun a ha => (sg_i ha).trans (fr a ha)) (fun j hjj => (sg_j (by omega)).trans (hj j hjj)) (fun f hf => by
              rcases (show f = k ∨ f < k by omega) with e | e
              · subst e; exact sg_s.trans r1
              · exact (sg_j (by omega)).trans (hA f e)) (fun f hf hf2 => (sg_j (by omega)).trans (hB f (by omega) hf2)) (by omega) (by omega)
        · refine ⟨_, _, rfl, rfl, ?_⟩
          refine ⟨_, _, (2478 + k), rfl, (by rw [hz]; exact nI_add 2478 k), by omega, Nat.le_of_ble_eq_true rfl, ?_⟩
          rw [ek]
          refine ⟨fun c244 => ?_, fun c244 => ?_⟩
          · have nb : ¬ bkP S F q (k + 1) := fun w => (bk_st.mp w).elim nb' (fun y => c244 (by rw [y.1]; rfl))
            refine ⟨_, _, rfl, rfl, ?_⟩
            refine ⟨_, _, (2478 + k), rfl, (by rw [hz]; exact nI_add 2478 k), by omega, Nat.le_of_ble_eq_true rfl, ?_⟩
            rw [ek]
            refine ⟨_, _, rfl, rfl, ?_⟩
            refine ⟨_, _, k, rfl, hz, by omega, Nat.le_of_ble_eq_true rfl, ?_⟩
            rw [e8]
            refine ⟨_, _, (2478 + k), rfl, (by rw [hz]; exact nI_add 2478 k), by omega, Nat.le_of_ble_eq_true rfl, ?_⟩
            rw [hm_a1]
            first
            | exact ih (k + 1) _ true _ (by rw [hz, nI_1]) ⟨fun _ => nb, fun _ => rfl⟩ (fun a ha => (sg_i ha).trans (fr a ha)) (fun j hjj => (sg_j (by omega)).trans (hj j hjj)) (fun f hf => by
                rcases (show f = k ∨ f < k by omega) with e | e
                · subst e; exact sg_s.trans r1
                · exact (sg_j (by omega)).trans (hA f e)) (fun f hf hf2 => (sg_j (by omega)).trans (hB f (by omega) hf2)) (by omega) (by omega)
            | exact ih (k + 1) _ false _ (by rw [hz, nI_1]) ⟨fun w => absurd w (by decide), fun w => absurd w nb⟩ (fun a ha => (sg_i ha).trans (fr a ha)) (fun j hjj => (sg_j (by omega)).trans (hj j hjj)) (fun f hf => by
                rcases (show f = k ∨ f < k by omega) with e | e
                · subst e; exact sg_s.trans r1
                · exact (sg_j (by omega)).trans (hA f e)) (fun f hf hf2 => (sg_j (by omega)).trans (hB f (by omega) hf2)) (by omega) (by omega)
          · have nb : bkP S F q (k + 1) := bk_st.mpr (Or.inr ⟨bI_0.mp c244, r3.mpr (Or.inr (r2.mp c230))⟩)
            refine ⟨_, _, rfl, rfl, ?_⟩
            refine ⟨_, _, (2478 + k), rfl, (by rw [hz]; exact nI_add 2478 k), by omega, Nat.le_of_ble_eq_true rfl, ?_⟩
            rw [ek]
            refine ⟨_, _, rfl, rfl, ?_⟩
            refine ⟨_, _, k, rfl, hz, by omega, Nat.le_of_ble_eq_true rfl, ?_⟩
            rw [e8]
            refine ⟨_, _, (2478 + k), rfl, (by rw [hz]; exact nI_add 2478 k), by omega, Nat.le_of_ble_eq_true rfl, ?_⟩
            rw [hm_a1]
            first
            | exact ih (k + 1) _ true _ (by rw [hz, nI_1]) ⟨fun _ => nb, fun _ => rfl⟩ (fun a ha => (sg_i ha).trans (fr a ha)) (fun j hjj => (sg_j (by omega)).trans (hj j hjj)) (fun f hf => by
                rcases (show f = k ∨ f < k by omega) with e | e
                · subst e; exact sg_s.trans r1
                · exact (sg_j (by omega)).trans (hA f e)) (fun f hf hf2 => (sg_j (by omega)).trans (hB f (by omega) hf2)) (by omega) (by omega)
            | exact ih (k + 1) _ false _ (by rw [hz, nI_1]) ⟨fun w => absurd w (by decide), fun w => absurd w nb⟩ (fun a ha => (sg_i ha).trans (fr a ha)) (fun j hjj => (sg_j (by omega)).trans (hj j hjj)) (fun f hf => by
                rcases (show f = k ∨ f < k by omega) with e | e
                · subst e; exact sg_s.trans r1
                · exact (sg_j (by omega)).trans (hA f e)) (fun f hf hf2 => (sg_j (by omega)).trans (hB f (by omega) hf2)) (by omega) (by omega)
theorem in_of {q R : Nat} (h : q < R) (hR : R ≤ 1000) : 0 ≤ nI q ∧ nI q ≤ nI R - 1 := by
  obtain ⟨k, rfl⟩ : ∃ k, R = k + 1 := ⟨R - 1, by omega⟩
  rw [nI_pm]
  exact ⟨(nI_leI (a := 0) (by omega) (by omega)).mpr (by omega), (nI_leI (by omega) (by omega)).mpr (by omega)⟩
theorem gwB_rf (F : Nat → Bool) : gwB F F = false := by
  unfold gwB
  exact iF_n (fun ⟨f, _, h1, h2⟩ => absurd (h1.symm.trans h2) (by decide))
/-- how a run's method ends -/
def rsO (sg0 : sg_T) (t N : Nat) (st st' : rs_T) (r : Option Value) (h' : am_H) : Prop := r = some (.int (bI (gwB st.1 st'.1))) ∧ ∃ sg, h' = hm sg ∧ rsI sg0 t N sg st'
theorem rnF_hi {S : sy_T} {F : Nat → Bool} {q f : Nat} (h : 750 ≤ f) : rnF S F q f = false := by unfold rnF; rw [iF_n (fun z => by omega)]
theorem m_runs_b {sg0 sg s1 : sg_T} {d kc ks t N q R C n0 : Nat} (hd : 20 ≤ d) {vr : Int32} {t2 t3 t4 t5 t6 : Option Value} {st : rs_T} (hW : wkA (sg0 1) R C n0) (hI : rsI sg0 t N sg st) (e1 : s1 1 = sg 1) (e2 : s1 2 = sg 2) (e0 : ∀ i, i ≠ 13 → s1 0 i = sg 0 i) (e13 : s1 0 13 = nI (st.2 + 1)) (hr : vr = nI q) (qR : q < R) (sN : st.2 < N) : am_W mi_X12_runs d (rsO sg0 t N st (ruS (syP (sg0 1) (sg0 1 0)) N q st)) kc ks 31 [some (.ref 0), some (.int vr), t2, t3, t4, t5, t6] [] (hm s1) := by
  refine am_go ok_X12_runs [52] 74 ?_
  obtain ⟨w1, R8, w2, C12, w5, w6, w7, n20, w9, w10, w11⟩ := hW
  have hag := hI.ag
  have p1 := pn_of w1 (by omega)
  have x20 : txN (sg0 1) q (sg0 1 0) < 20 := txN_lt (by omega) w2 C12 w5 w6
  have ex : txX (sg 1) q (sg0 1 0) = txX (sg0 1) q (sg0 1 0) := by unfold txX; rw [txN_T hag w2 C12 (by omega)]
  have x2 : txX (sg0 1) q (sg0 1 0) + 30 ≤ 2358 := by unfold txX; omega
  have x1 : 1758 ≤ txX (sg0 1) q (sg0 1 0) := by unfold txX; omega
  have hW' : wkA (sg0 1) R C n0 := ⟨w1, R8, w2, C12, w5, w6, w7, n20, w9, w10, w11⟩
  have hok : okX (sg0 1) (txX (sg0 1) q (sg0 1 0)) := wkA_x hW' qR
  have eru : ruS (syP (sg0 1) (sg0 1 0)) N q st = (rnF (syP (sg0 1) (sg0 1 0)) st.1 q, st.2 + 1) := by unfold ruS; rw [iF_p ⟨by show q < pn (sg0 1) 1; omega, by omega⟩]
  obtain ⟨nt, nt1, nt3, ent⟩ := hok.1
  refine ⟨_, _, rfl, rfl, ?_⟩
  refine ⟨_, _, 0, rfl, rfl, Nat.le_of_ble_eq_true rfl, Nat.le_of_ble_eq_true rfl, ?_⟩
  rw [e1, hag 0 (by omega)]
  refine ⟨_, rfl, d - 1, 0, 0, _, by omega, Nat.le_of_ble_eq_true rfl, Nat.le_of_ble_eq_true rfl, Nat.le_of_ble_eq_true rfl, m_textOn (n := C) (q := q) (by omega) (sg0 1 0) hr (by omega) (by rw [e1, hag 2 (by omega)]; exact w2) C12 (fun r h => by rw [e1, hag _ (by omega)]; exact w5 r h) (fun c h => by rw [e1, hag _ (by omega)]; exact w6 c h), ?_⟩
  rintro _ _ ⟨rfl, rfl⟩
  refine ⟨Or.inl rfl, ?_⟩
  rw [e1, ex]
  refine ⟨_, rfl, d - 1, 0, 0, _, by omega, Nat.le_of_ble_eq_true rfl, Nat.le_of_ble_eq_true rfl, Nat.le_of_ble_eq_true rfl, m_termLetters (x := txX (sg0 1) q (sg0 1 0)) (n := nt) (by omega) rfl (by rw [e1, hag _ (by omega)]; exact ent) (by omega), ?_⟩
  rintro _ _ ⟨rfl, rfl⟩
  refine ⟨Or.inl rfl, ?_⟩
  have hX : rnX (sg0 1) (s1 1) st.1 q (txX (sg0 1) q (sg0 1 0)) := ⟨by rw [e1]; exact hag, by rw [e1]; exact hI.2.1, by omega, by omega, rfl, hok, x1, x2⟩
  have hs : tlF (s1 1) (txX (sg0 1) q (sg0 1 0)) nt = tlF (sg0 1) (txX (sg0 1) q (sg0 1 0)) (pn (sg0 1) (txX (sg0 1) q (sg0 1 0))) := by rw [pn_of ent (by omega), e1]; exact tlF_T hag _ (by omega)
  refine m_runs_1 (s1 := s1) (fun s2 z2 hF2 hA2 => ?_) 751 0 0 s1 rfl (fun _ _ _ => rfl) (fun f hf => absurd hf (by omega)) (by omega) (by omega)
  refine am_go ok_X12_runs [77] 70 ?_
  refine m_runs_n (s1 := s1) (q := q) (F := st.1) (P0 := sg0 1) (by omega) rfl hX hs (t5 := none) (t6 := none) (fun s3 z3 t5' t6' hF3 hN3 => ?_) 626 0 0 _ _ s2 rfl hF2 (fun f hf => Or.inr ⟨hA2 f hf, fun ⟨b, hb, _⟩ => absurd hb (by omega)⟩) (by omega) (by omega)
  refine am_go ok_X12_runs [209] 70 ?_
  have f1 : s3 1 = sg 1 := (hF3 1 (by decide) (by decide)).trans e1
  refine m_runs_3 (s1 := s3) (F := st.1) hN3 (by rw [f1]; exact hI.2.1) (fun s4 z4 g1 g2 g3 => ?_) 751 0 0 false s3 rfl ⟨fun w => absurd w (by decide), fun ⟨f, hf, _⟩ => absurd hf (by omega)⟩ (fun _ _ => rfl) (fun _ _ => rfl) (fun f hf => absurd hf (by omega)) (by rw [f1]; exact fun f _ hf => hI.2.1 f hf) (by omega) (by omega)
  rw [eru]
  have q0 : s4 0 = s1 0 := (g1 0 (by decide)).trans (hF3 0 (by decide) (by decide))
  refine ⟨rfl, s4, rfl, fun j hj => (g2 j hj).trans (by rw [f1]; exact hI.1 j hj), g3, fun f hf => rnF_hi hf, ?_, ?_, ?_, by omega, hI.2.2.2.2.2.2.2.1, ?_, ?_⟩
  · rw [q0, e0 11 (by decide)]; exact hI.2.2.2.1
  · rw [q0, e0 12 (by decide)]; exact hI.2.2.2.2.1
  · rw [q0]; exact e13
  · exact (g1 2 (by decide)).trans ((hF3 2 (by decide) (by decide)).trans (e2.trans hI.2.2.2.2.2.2.2.2.1))
  · rw [q0, e0 2 (by decide)]; exact hI.2.2.2.2.2.2.2.2.2
theorem m_runs {sg0 sg : sg_T} {d t N q R C n0 : Nat} (hd : 20 ≤ d) {vr : Int32} {st : rs_T} (hW : wkA (sg0 1) R C n0) (hI : rsI sg0 t N sg st) (hr : vr = nI q) (q8 : q < 8) : am_Met mi_X12_runs d 0 0 [.ref 0, .int vr] (hm sg) (rsO sg0 t N st (ruS (syP (sg0 1) (sg0 1 0)) N q st)) := by
  refine am_Met.of rfl (Nat.le_of_ble_eq_true rfl) ?_
  refine am_go ok_X12_runs [31] 75 ?_
  have w1 := hW.1; have R8 := hW.2.1
  have p1 := pn_of w1 (by omega)
  have hag := hI.ag
  have h12 := hI.2.2.2.2.1
  have h13 := hI.2.2.2.2.2.1
  have sN := hI.2.2.2.2.2.2.1
  have N2 := hI.2.2.2.2.2.2.2.1
  have e11 : sg 1 1 = nI R := by rw [hag 1 (by omega)]; exact w1
  refine ⟨_, rfl, d - 1, 0, 0, _, by omega, Nat.le_of_ble_eq_true rfl, Nat.le_of_ble_eq_true rfl, Nat.le_of_ble_eq_true rfl, m_isRule (by omega) vr, ?_⟩
  rintro _ _ ⟨rfl, rfl⟩
  refine ⟨Or.inl rfl, ?_⟩
  refine ⟨fun c5 => ?_, fun c5 => ?_⟩
  · have eru : ruS (syP (sg0 1) (sg0 1 0)) N q st = st := by
      unfold ruS; rw [iF_n (fun z => bI_f c5 ?_)]
      have z1 : q < pn (sg0 1) 1 := z.1
      rw [e11, hr]
      exact in_of (by omega) (by omega)
    refine ⟨rfl, ?_⟩
    rw [eru]
    exact ⟨by rw [gwB_rf]; rfl, sg, rfl, hI⟩
  · have qR : q < R := by
      obtain ⟨j, hj, hc, hl⟩ := ix_at (n := R) e11 (by omega) (show inI vr 0 (sg 1 1 - 1) from bI_t c5)
      have := (nI_eq (by omega) (by omega)).mp (hr.symm.trans hj)
      omega
    refine ⟨_, _, rfl, rfl, ?_⟩
    rw [h13]
    refine ⟨_, _, rfl, rfl, ?_⟩
    rw [h12]
    refine ⟨fun c16 => ?_, fun c16 => ?_⟩
    · have sN' : st.2 < N := by
        rcases Nat.lt_or_ge st.2 N with z | z
        · exact z
        · exact absurd (by rw [show st.2 = N by omega]) c16
      refine ⟨_, _, rfl, rfl, ?_⟩
      rw [h13]
      refine ⟨_, rfl, Nat.le_of_ble_eq_true rfl, trivial, ?_⟩
      rw [hm_f0_13]
      exact m_runs_b hd hW hI (sg_i (by decide)) (sg_i (by decide)) (fun i hi => sg_j hi) (by rw [sg_s, nI_1]) hr qR sN'
    · have eru : ruS (syP (sg0 1) (sg0 1 0)) N q st = st := by
        unfold ruS; rw [iF_n (fun z => z.2 ((nI_eq (by omega) (by omega)).mp c16))]
      refine ⟨rfl, ?_⟩
      rw [eru]
      exact ⟨by rw [gwB_rf]; rfl, sg, rfl, hI⟩
