/-! the Text's methods -/
theorem cd_9 {c : Nat} (h : c < 5 ∨ 10 ≤ c ∧ c < 14) : cdN c < 9 := by unfold cdN; split <;> omega
theorem ok_c {v : Int32} (h : okA v) : ∃ c, v = nI c ∧ (c < 5 ∨ 10 ≤ c ∧ c < 14) := h
theorem okT_c {P : Nat → Int32} {y i : Nat} (h : okT P y) (h1 : 1 ≤ i) (h2 : i < 4) : (pn P (y + i) < 5 ∨ 10 ≤ pn P (y + i) ∧ pn P (y + i) < 14) := by
  have k : ∀ j, okA (P j) → (pn P j < 5 ∨ 10 ≤ pn P j ∧ pn P j < 14) := by
    rintro j ⟨c, e, hc⟩
    rw [pn_of e (by omega)]; exact hc
  rcases (show i = 1 ∨ i = 2 ∨ i = 3 by omega) with e | e | e
  · subst e; exact k _ h.2.1
  · subst e; exact k _ h.2.2.1
  · subst e; exact k _ h.2.2.2
/-- the values say what the letters are, for this ARG -/
def vOK (W : Nat → Int32) (L : Nat → Nat) (c : Nat) : Prop := W (cdN c) = nI (cvN L c)
/-- a slot of the class's Text says what the TERM at y says -/
def slR (G : Nat → Int32) (s : Nat) (P : Nat → Int32) (y : Nat) : Prop := G (4 * s) = P y ∧ ∀ i, 1 ≤ i → i < 4 → G (4 * s + i) = nI (cdN (pn P (y + i)))
theorem c_factOf {cg : sg_T} {fn : Nat → Option Nat} {cx : cx_T} {P : Nat → Int32} {d t s y va : Nat} {L : Nat → Nat} {vs : Int32} (ht : t < 20) (hv : vs = nI s) (s3 : s ≤ 3) (hva : am_nth (hc cg fn cx) va = some (.inl (0, 9, cg va))) (hS : slR (cg (19 + 3 * t)) s P y) (hT : okT P y) (hL : okL L) (hW : ∀ i, 1 ≤ i → i < 4 → vOK (cg va) L (pn P (y + i))) : am_Met mi_X10_factOf d 0 0 [.ref (18 + 3 * t), .int vs, .ref va] (hc cg fn cx) (fun r' h' => r' = some (.int (nI (faN P L y))) ∧ h' = (hc cg fn cx)) := by
  refine am_Met.of rfl (Nat.le_of_ble_eq_true rfl) ?_
  refine am_go ok_X10_factOf [] 101 ?_
  have k1 := okT_c hT (i := 1) (by omega) (by omega)
  have k2 := okT_c hT (i := 2) (by omega) (by omega)
  have k3 := okT_c hT (i := 3) (by omega) (by omega)
  obtain ⟨sh, sh6, esh⟩ := hT.1
  have psh := pn_of esh (by omega)
  refine ⟨_, _, hc_nT ht, rfl, ?_⟩
  refine ⟨_, _, 4 * s, hc_nP ht, (by rw [hv]; show nI 4 * nI s = _; rw [pk_mul]), by omega, Nat.le_of_ble_eq_true rfl, ?_⟩
  rw [hS.1, esh]
  refine ⟨_, _, hc_nT ht, rfl, ?_⟩
  refine ⟨_, _, 4 * s + 1, hc_nP ht, (by rw [hv]; show nI 4 * nI s + nI 1 = _; rw [pk_mul, nI_add]), by omega, Nat.le_of_ble_eq_true rfl, ?_⟩
  rw [hS.2 1 (by omega) (by omega)]
  refine ⟨_, _, cdN (pn P (y + 1)), hva, rfl, cd_9 k1, Nat.le_of_ble_eq_true rfl, ?_⟩
  rw [show cg va (cdN (pn P (y + 1))) = _ from hW 1 (by omega) (by omega)]
  refine ⟨_, _, hc_nT ht, rfl, ?_⟩
  refine ⟨_, _, 4 * s + 2, hc_nP ht, (by rw [hv]; show nI 4 * nI s + nI 2 = _; rw [pk_mul, nI_add]), by omega, Nat.le_of_ble_eq_true rfl, ?_⟩
  rw [hS.2 2 (by omega) (by omega)]
  refine ⟨_, _, cdN (pn P (y + 2)), hva, rfl, cd_9 k2, Nat.le_of_ble_eq_true rfl, ?_⟩
  rw [show cg va (cdN (pn P (y + 2))) = _ from hW 2 (by omega) (by omega)]
  refine ⟨_, _, hc_nT ht, rfl, ?_⟩
  refine ⟨_, _, 4 * s + 3, hc_nP ht, (by rw [hv]; show nI 4 * nI s + nI 3 = _; rw [pk_mul, nI_add]), by omega, Nat.le_of_ble_eq_true rfl, ?_⟩
  rw [hS.2 3 (by omega) (by omega)]
  refine ⟨_, _, cdN (pn P (y + 3)), hva, rfl, cd_9 k3, Nat.le_of_ble_eq_true rfl, ?_⟩
  rw [show cg va (cdN (pn P (y + 3))) = _ from hW 3 (by omega) (by omega)]
  refine ⟨trivial, ?_⟩
  refine ⟨?_, rfl⟩
  unfold faN; rw [psh]
  show some (Value.int (nI 125 * nI sh + nI 25 * nI (cvN L (pn P (y + 1))) + nI 5 * nI (cvN L (pn P (y + 2))) + nI (cvN L (pn P (y + 3))))) = _
  rw [pk_mul, pk_mul, pk_mul, nI_add, nI_add, nI_add]
theorem tx_sl {cg : sg_T} {P : Nat → Int32} {t x s : Nat} (h : txR cg (18 + 3 * t) P x) (hs : s < pn P x ∨ s = 3) : slR (cg (19 + 3 * t)) s P (ySl x s) := by
  rw [show 19 + 3 * t = 18 + 3 * t + 1 by omega]
  exact h.2.2.2.1 s hs
theorem sn_0 {v : Int32} : nI (snN v) = 0 ↔ v = 60 := by
  unfold snN
  by_cases h : v = 60
  · rw [if_pos h]; exact ⟨fun _ => h, fun _ => rfl⟩
  · rw [if_neg h]
    by_cases h2 : v = 61
    · rw [if_pos h2]; exact ⟨fun z => absurd z (by decide), fun z => absurd z h⟩
    · rw [if_neg h2]; exact ⟨fun z => absurd z (by decide), fun z => absurd z h⟩
theorem sn_1 {v : Int32} (h : ¬ nI (snN v) = 0) : nI (snN v) = 1 ↔ v = 61 := by
  have h0 : ¬ v = 60 := fun z => h (sn_0.mpr z)
  unfold snN
  rw [if_neg h0]
  by_cases h2 : v = 61
  · rw [if_pos h2]; exact ⟨fun _ => h2, fun _ => rfl⟩
  · rw [if_neg h2]; exact ⟨fun z => absurd z (by decide), fun z => absurd z h2⟩
section
variable {P : Nat → Int32} {L : Nat → Nat} {x k : Nat}
theorem ts_less (h : nI (snN (P (x + 15 + 3 * k))) = 0) : tsB P L x k = decide (cvN L (pn P (x + 14 + 3 * k)) < cvN L (pn P (x + 16 + 3 * k))) := by
  unfold tsB; rw [if_pos (sn_0.mp h)]
theorem ts_same (h : ¬ nI (snN (P (x + 15 + 3 * k))) = 0) (h1 : nI (snN (P (x + 15 + 3 * k))) = 1) : tsB P L x k = decide (cvN L (pn P (x + 14 + 3 * k)) = cvN L (pn P (x + 16 + 3 * k))) := by
  unfold tsB; rw [if_neg (fun z => h (sn_0.mpr z)), if_pos ((sn_1 h).mp h1)]
theorem ts_diff (h : ¬ nI (snN (P (x + 15 + 3 * k))) = 0) (h1 : ¬ nI (snN (P (x + 15 + 3 * k))) = 1) : tsB P L x k = decide (¬ cvN L (pn P (x + 14 + 3 * k)) = cvN L (pn P (x + 16 + 3 * k))) := by
  unfold tsB; rw [if_neg (fun z => h (sn_0.mpr z)), if_neg (fun z => h1 ((sn_1 h).mpr z))]
end
theorem cv_5 {L : Nat → Nat} {P : Nat → Int32} {j : Nat} (hL : okL L) (h : okA (P j)) : cvN L (pn P j) < 5 ∧ (pn P j < 5 ∨ 10 ≤ pn P j ∧ pn P j < 14) := by
  obtain ⟨c, e, hc⟩ := h
  rw [pn_of e (by omega)]
  exact ⟨cvN_lt hL hc, hc⟩
theorem c_th_t {cg : sg_T} {fn : Nat → Option Nat} {cx : cx_T} {P : Nat → Int32} {d kc ks t va x ns : Nat} {L : Nat → Nat} {k : Nat} {z v3 v4 v5 : Int32} (K : am_W mi_X10_testsHold d (fun r' h' => r' = some (.int (bI (thN P L x ns))) ∧ h' = (hc cg fn cx)) kc ks 2 [some (.ref (18 + 3 * t)), some (.ref va), some (.int (z + 1)), some (.int v3), some (.int v4), some (.int v5), some (.int 1)] [] (hc cg fn cx)) : am_W mi_X10_testsHold d (fun r' h' => r' = some (.int (bI (thN P L x ns))) ∧ h' = (hc cg fn cx)) kc ks 98 [some (.ref (18 + 3 * t)), some (.ref va), some (.int z), some (.int v3), some (.int v4), some (.int v5), some (.int 1)] [] (hc cg fn cx) := by
  refine am_go ok_X10_testsHold [2] 64 ?_
  refine ⟨fun _ => ?_, fun c100 => absurd c100 (by decide)⟩
  exact K
theorem c_th_f {cg : sg_T} {fn : Nat → Option Nat} {cx : cx_T} {P : Nat → Int32} {d kc ks t va x ns : Nat} {L : Nat → Nat} {k : Nat} {z v3 v4 v5 : Int32} (hk : k < ns) (h : tsB P L x k = false) : am_W mi_X10_testsHold d (fun r' h' => r' = some (.int (bI (thN P L x ns))) ∧ h' = (hc cg fn cx)) kc ks 98 [some (.ref (18 + 3 * t)), some (.ref va), some (.int z), some (.int v3), some (.int v4), some (.int v5), some (.int 0)] [] (hc cg fn cx) := by
  refine am_go ok_X10_testsHold [] 63 ?_
  refine ⟨fun c100 => absurd c100 (fun z => z rfl), fun _ => ?_⟩
  refine ⟨rfl, ?_⟩
  rw [thN_f h ns hk]; exact ⟨rfl, rfl⟩
theorem c_testsHold_l {cg : sg_T} {fn : Nat → Option Nat} {cx : cx_T} {P : Nat → Int32} {d kc ks t va x ns : Nat} {L : Nat → Nat} (ht : t < 20) (hva : am_nth (hc cg fn cx) va = some (.inl (0, 9, cg va))) (hn : cg (18 + 3 * t) 1 = nI ns) (n4 : ns ≤ 4) (hC : ∀ k, k < ns → cg (20 + 3 * t) (3 * k) = nI (cdN (pn P (x + 14 + 3 * k))) ∧ cg (20 + 3 * t) (3 * k + 1) = nI (snN (P (x + 15 + 3 * k))) ∧ cg (20 + 3 * t) (3 * k + 2) = nI (cdN (pn P (x + 16 + 3 * k)))) (hO : ∀ k, k < ns → okA (P (x + 14 + 3 * k)) ∧ okA (P (x + 16 + 3 * k))) (hL : okL L) (hW : ∀ k, k < ns → vOK (cg va) L (pn P (x + 14 + 3 * k)) ∧ vOK (cg va) L (pn P (x + 16 + 3 * k))) : ∀ (u k : Nat) (z : Int32) (t3 t4 t5 t6 : Option Value), z = nI k → thN P L x k = true → k ≤ ns → ns < k + u → am_W mi_X10_testsHold d (fun r' h' => r' = some (.int (bI (thN P L x ns))) ∧ h' = (hc cg fn cx)) kc ks 2 [some (.ref (18 + 3 * t)), some (.ref va), some (.int z), t3, t4, t5, t6] [] (hc cg fn cx) := by
  intro u
  induction u with
  | zero => intro k z t3 t4 t5 t6 hz hb h1 h2; exact absurd h2 (by omega)
  | succ u ih =>
    intro k z t3 t4 t5 t6 hz hb h1 h2
    refine am_go ok_X10_testsHold [2, 98] 109 ?_
    refine ⟨_, _, hc_nT ht, rfl, ?_⟩
    rw [hn]
    refine ⟨fun c7 => ?_, fun c7 => ?_⟩
    · rw [hz] at c7
      have k1 : k = ns := by have := (nI_leI (by omega) (by omega)).mp c7; omega
      subst k1
      refine ⟨rfl, ?_⟩
      rw [hb]; exact ⟨rfl, rfl⟩
    · have k1 : k < ns := by
        rcases Nat.lt_or_ge k ns with q1 | q1
        · exact q1
        · exact absurd (by rw [hz]; exact (nI_leI (by omega) (by omega)).mpr q1) c7
      obtain ⟨g0, g1, g2⟩ := hC k k1
      obtain ⟨o0, o2⟩ := hO k k1
      obtain ⟨l5, lc⟩ := cv_5 hL o0
      obtain ⟨r5, rc⟩ := cv_5 hL o2
      obtain ⟨w0, w2⟩ := hW k k1
      refine ⟨_, _, hc_nT ht, rfl, ?_⟩
      refine ⟨_, _, 3 * k, hc_nC ht, (by rw [hz]; exact pk_mul 3 k), by omega, Nat.le_of_ble_eq_true rfl, ?_⟩
      rw [g0]
      refine ⟨_, _, cdN (pn P (x + 14 + 3 * k)), hva, rfl, cd_9 lc, Nat.le_of_ble_eq_true rfl, ?_⟩
      rw [show cg va (cdN (pn P (x + 14 + 3 * k))) = _ from w0]
      refine ⟨_, _, hc_nT ht, rfl, ?_⟩
      refine ⟨_, _, 3 * k + 2, hc_nC ht, (by rw [hz]; show nI 3 * nI k + nI 2 = _; rw [pk_mul, nI_add]), by omega, Nat.le_of_ble_eq_true rfl, ?_⟩
      rw [g2]
      refine ⟨_, _, cdN (pn P (x + 16 + 3 * k)), hva, rfl, cd_9 rc, Nat.le_of_ble_eq_true rfl, ?_⟩
      rw [show cg va (cdN (pn P (x + 16 + 3 * k))) = _ from w2]
      refine ⟨_, _, hc_nT ht, rfl, ?_⟩
      refine ⟨_, _, 3 * k + 1, hc_nC ht, (by rw [hz]; show nI 3 * nI k + nI 1 = _; rw [pk_mul, nI_add]), by omega, Nat.le_of_ble_eq_true rfl, ?_⟩
      rw [g1]
      refine ⟨fun c49 => ?_, fun c49 => ?_⟩
      · refine ⟨fun c69 => ?_, fun c69 => ?_⟩
        · refine ⟨fun c80 => ?_, fun c80 => ?_⟩
          · refine ⟨fun c88 => ?_, fun c88 => ?_⟩
            · first
              | exact absurd rfl c88
              | exact absurd c88 (by decide)
              | exact c_th_f k1 (by rw [ts_less c49]; exact decide_eq_false (fun w => by have := (nI_leI (by omega) (by omega)).mp c55; omega))
              | exact c_th_t (k := k) (ih (k + 1) _ _ _ _ _ (by rw [hz, nI_1]) (by rw [thN, hb, ts_less c49, decide_eq_true (show cvN L (pn P (x + 14 + 3 * k)) < cvN L (pn P (x + 16 + 3 * k)) from Nat.lt_of_not_le (fun w => c55 ((nI_leI (by omega) (by omega)).mpr w)))]; rfl) (by omega) (by omega))
              | exact c_th_f k1 (by rw [ts_same c49 c80]; exact decide_eq_false (fun w => c69 (by rw [w])))
              | exact c_th_t (k := k) (ih (k + 1) _ _ _ _ _ (by rw [hz, nI_1]) (by rw [thN, hb, ts_same c49 c80, decide_eq_true ((nI_eq (by omega) (by omega)).mp c69)]; rfl) (by omega) (by omega))
              | exact c_th_t (k := k) (ih (k + 1) _ _ _ _ _ (by rw [hz, nI_1]) (by rw [thN, hb, ts_diff c49 c80, decide_eq_true (show ¬ cvN L (pn P (x + 14 + 3 * k)) = cvN L (pn P (x + 16 + 3 * k)) from fun w => c69 (by rw [w]))]; rfl) (by omega) (by omega))
              | exact c_th_f k1 (by rw [ts_diff c49 c80]; exact decide_eq_false (fun w => w ((nI_eq (by omega) (by omega)).mp c69)))
            · first
              | exact absurd rfl c88
              | exact absurd c88 (by decide)
              | exact c_th_f k1 (by rw [ts_less c49]; exact decide_eq_false (fun w => by have := (nI_leI (by omega) (by omega)).mp c55; omega))
              | exact c_th_t (k := k) (ih (k + 1) _ _ _ _ _ (by rw [hz, nI_1]) (by rw [thN, hb, ts_less c49, decide_eq_true (show cvN L (pn P (x + 14 + 3 * k)) < cvN L (pn P (x + 16 + 3 * k)) from Nat.lt_of_not_le (fun w => c55 ((nI_leI (by omega) (by omega)).mpr w)))]; rfl) (by omega) (by omega))
              | exact c_th_f k1 (by rw [ts_same c49 c80]; exact decide_eq_false (fun w => c69 (by rw [w])))
              | exact c_th_t (k := k) (ih (k + 1) _ _ _ _ _ (by rw [hz, nI_1]) (by rw [thN, hb, ts_same c49 c80, decide_eq_true ((nI_eq (by omega) (by omega)).mp c69)]; rfl) (by omega) (by omega))
              | exact c_th_t (k := k) (ih (k + 1) _ _ _ _ _ (by rw [hz, nI_1]) (by rw [thN, hb, ts_diff c49 c80, decide_eq_true (show ¬ cvN L (pn P (x + 14 + 3 * k)) = cvN L (pn P (x + 16 + 3 * k)) from fun w => c69 (by rw [w]))]; rfl) (by omega) (by omega))
              | exact c_th_f k1 (by rw [ts_diff c49 c80]; exact decide_eq_false (fun w => w ((nI_eq (by omega) (by omega)).mp c69)))
          · refine ⟨fun c88 => ?_, fun c88 => ?_⟩
            · first
              | exact absurd rfl c88
              | exact absurd c88 (by decide)
              | exact c_th_f k1 (by rw [ts_less c49]; exact decide_eq_false (fun w => by have := (nI_leI (by omega) (by omega)).mp c55; omega))
              | exact c_th_t (k := k) (ih (k + 1) _ _ _ _ _ (by rw [hz, nI_1]) (by rw [thN, hb, ts_less c49, decide_eq_true (show cvN L (pn P (x + 14 + 3 * k)) < cvN L (pn P (x + 16 + 3 * k)) from Nat.lt_of_not_le (fun w => c55 ((nI_leI (by omega) (by omega)).mpr w)))]; rfl) (by omega) (by omega))
              | exact c_th_f k1 (by rw [ts_same c49 c80]; exact decide_eq_false (fun w => c69 (by rw [w])))
              | exact c_th_t (k := k) (ih (k + 1) _ _ _ _ _ (by rw [hz, nI_1]) (by rw [thN, hb, ts_same c49 c80, decide_eq_true ((nI_eq (by omega) (by omega)).mp c69)]; rfl) (by omega) (by omega))
              | exact c_th_t (k := k) (ih (k + 1) _ _ _ _ _ (by rw [hz, nI_1]) (by rw [thN, hb, ts_diff c49 c80, decide_eq_true (show ¬ cvN L (pn P (x + 14 + 3 * k)) = cvN L (pn P (x + 16 + 3 * k)) from fun w => c69 (by rw [w]))]; rfl) (by omega) (by omega))
              | exact c_th_f k1 (by rw [ts_diff c49 c80]; exact decide_eq_false (fun w => w ((nI_eq (by omega) (by omega)).mp c69)))
            · first
              | exact absurd rfl c88
              | exact absurd c88 (by decide)
              | exact c_th_f k1 (by rw [ts_less c49]; exact decide_eq_false (fun w => by have := (nI_leI (by omega) (by omega)).mp c55; omega))
              | exact c_th_t (k := k) (ih (k + 1) _ _ _ _ _ (by rw [hz, nI_1]) (by rw [thN, hb, ts_less c49, decide_eq_true (show cvN L (pn P (x + 14 + 3 * k)) < cvN L (pn P (x + 16 + 3 * k)) from Nat.lt_of_not_le (fun w => c55 ((nI_leI (by omega) (by omega)).mpr w)))]; rfl) (by omega) (by omega))
              | exact c_th_f k1 (by rw [ts_same c49 c80]; exact decide_eq_false (fun w => c69 (by rw [w])))
              | exact c_th_t (k := k) (ih (k + 1) _ _ _ _ _ (by rw [hz, nI_1]) (by rw [thN, hb, ts_same c49 c80, decide_eq_true ((nI_eq (by omega) (by omega)).mp c69)]; rfl) (by omega) (by omega))
              | exact c_th_t (k := k) (ih (k + 1) _ _ _ _ _ (by rw [hz, nI_1]) (by rw [thN, hb, ts_diff c49 c80, decide_eq_true (show ¬ cvN L (pn P (x + 14 + 3 * k)) = cvN L (pn P (x + 16 + 3 * k)) from fun w => c69 (by rw [w]))]; rfl) (by omega) (by omega))
              | exact c_th_f k1 (by rw [ts_diff c49 c80]; exact decide_eq_false (fun w => w ((nI_eq (by omega) (by omega)).mp c69)))
        · refine ⟨fun c80 => ?_, fun c80 => ?_⟩
          · refine ⟨fun c88 => ?_, fun c88 => ?_⟩
            · first
              | exact absurd rfl c88
              | exact absurd c88 (by decide)
              | exact c_th_f k1 (by rw [ts_less c49]; exact decide_eq_false (fun w => by have := (nI_leI (by omega) (by omega)).mp c55; omega))
              | exact c_th_t (k := k) (ih (k + 1) _ _ _ _ _ (by rw [hz, nI_1]) (by rw [thN, hb, ts_less c49, decide_eq_true (show cvN L (pn P (x + 14 + 3 * k)) < cvN L (pn P (x + 16 + 3 * k)) from Nat.lt_of_not_le (fun w => c55 ((nI_leI (by omega) (by omega)).mpr w)))]; rfl) (by omega) (by omega))
              | exact c_th_f k1 (by rw [ts_same c49 c80]; exact decide_eq_false (fun w => c69 (by rw [w])))
              | exact c_th_t (k := k) (ih (k + 1) _ _ _ _ _ (by rw [hz, nI_1]) (by rw [thN, hb, ts_same c49 c80, decide_eq_true ((nI_eq (by omega) (by omega)).mp c69)]; rfl) (by omega) (by omega))
              | exact c_th_t (k := k) (ih (k + 1) _ _ _ _ _ (by rw [hz, nI_1]) (by rw [thN, hb, ts_diff c49 c80, decide_eq_true (show ¬ cvN L (pn P (x + 14 + 3 * k)) = cvN L (pn P (x + 16 + 3 * k)) from fun w => c69 (by rw [w]))]; rfl) (by omega) (by omega))
              | exact c_th_f k1 (by rw [ts_diff c49 c80]; exact decide_eq_false (fun w => w ((nI_eq (by omega) (by omega)).mp c69)))
            · first
              | exact absurd rfl c88
              | exact absurd c88 (by decide)
              | exact c_th_f k1 (by rw [ts_less c49]; exact decide_eq_false (fun w => by have := (nI_leI (by omega) (by omega)).mp c55; omega))
              | exact c_th_t (k := k) (ih (k + 1) _ _ _ _ _ (by rw [hz, nI_1]) (by rw [thN, hb, ts_less c49, decide_eq_true (show cvN L (pn P (x + 14 + 3 * k)) < cvN L (pn P (x + 16 + 3 * k)) from Nat.lt_of_not_le (fun w => c55 ((nI_leI (by omega) (by omega)).mpr w)))]; rfl) (by omega) (by omega))
              | exact c_th_f k1 (by rw [ts_same c49 c80]; exact decide_eq_false (fun w => c69 (by rw [w])))
              | exact c_th_t (k := k) (ih (k + 1) _ _ _ _ _ (by rw [hz, nI_1]) (by rw [thN, hb, ts_same c49 c80, decide_eq_true ((nI_eq (by omega) (by omega)).mp c69)]; rfl) (by omega) (by omega))
              | exact c_th_t (k := k) (ih (k + 1) _ _ _ _ _ (by rw [hz, nI_1]) (by rw [thN, hb, ts_diff c49 c80, decide_eq_true (show ¬ cvN L (pn P (x + 14 + 3 * k)) = cvN L (pn P (x + 16 + 3 * k)) from fun w => c69 (by rw [w]))]; rfl) (by omega) (by omega))
              | exact c_th_f k1 (by rw [ts_diff c49 c80]; exact decide_eq_false (fun w => w ((nI_eq (by omega) (by omega)).mp c69)))
          · refine ⟨fun c88 => ?_, fun c88 => ?_⟩
            · first
              | exact absurd rfl c88
              | exact absurd c88 (by decide)
              | exact c_th_f k1 (by rw [ts_less c49]; exact decide_eq_false (fun w => by have := (nI_leI (by omega) (by omega)).mp c55; omega))
              | exact c_th_t (k := k) (ih (k + 1) _ _ _ _ _ (by rw [hz, nI_1]) (by rw [thN, hb, ts_less c49, decide_eq_true (show cvN L (pn P (x + 14 + 3 * k)) < cvN L (pn P (x + 16 + 3 * k)) from Nat.lt_of_not_le (fun w => c55 ((nI_leI (by omega) (by omega)).mpr w)))]; rfl) (by omega) (by omega))
              | exact c_th_f k1 (by rw [ts_same c49 c80]; exact decide_eq_false (fun w => c69 (by rw [w])))
              | exact c_th_t (k := k) (ih (k + 1) _ _ _ _ _ (by rw [hz, nI_1]) (by rw [thN, hb, ts_same c49 c80, decide_eq_true ((nI_eq (by omega) (by omega)).mp c69)]; rfl) (by omega) (by omega))
              | exact c_th_t (k := k) (ih (k + 1) _ _ _ _ _ (by rw [hz, nI_1]) (by rw [thN, hb, ts_diff c49 c80, decide_eq_true (show ¬ cvN L (pn P (x + 14 + 3 * k)) = cvN L (pn P (x + 16 + 3 * k)) from fun w => c69 (by rw [w]))]; rfl) (by omega) (by omega))
              | exact c_th_f k1 (by rw [ts_diff c49 c80]; exact decide_eq_false (fun w => w ((nI_eq (by omega) (by omega)).mp c69)))
            · first
              | exact absurd rfl c88
              | exact absurd c88 (by decide)
              | exact c_th_f k1 (by rw [ts_less c49]; exact decide_eq_false (fun w => by have := (nI_leI (by omega) (by omega)).mp c55; omega))
              | exact c_th_t (k := k) (ih (k + 1) _ _ _ _ _ (by rw [hz, nI_1]) (by rw [thN, hb, ts_less c49, decide_eq_true (show cvN L (pn P (x + 14 + 3 * k)) < cvN L (pn P (x + 16 + 3 * k)) from Nat.lt_of_not_le (fun w => c55 ((nI_leI (by omega) (by omega)).mpr w)))]; rfl) (by omega) (by omega))
              | exact c_th_f k1 (by rw [ts_same c49 c80]; exact decide_eq_false (fun w => c69 (by rw [w])))
              | exact c_th_t (k := k) (ih (k + 1) _ _ _ _ _ (by rw [hz, nI_1]) (by rw [thN, hb, ts_same c49 c80, decide_eq_true ((nI_eq (by omega) (by omega)).mp c69)]; rfl) (by omega) (by omega))
              | exact c_th_t (k := k) (ih (k + 1) _ _ _ _ _ (by rw [hz, nI_1]) (by rw [thN, hb, ts_diff c49 c80, decide_eq_true (show ¬ cvN L (pn P (x + 14 + 3 * k)) = cvN L (pn P (x + 16 + 3 * k)) from fun w => c69 (by rw [w]))]; rfl) (by omega) (by omega))
              | exact c_th_f k1 (by rw [ts_diff c49 c80]; exact decide_eq_false (fun w => w ((nI_eq (by omega) (by omega)).mp c69)))
      · refine ⟨fun c55 => ?_, fun c55 => ?_⟩
        · first
          | exact absurd rfl c88
          | exact absurd c88 (by decide)
          | exact c_th_f k1 (by rw [ts_less c49]; exact decide_eq_false (fun w => by have := (nI_leI (by omega) (by omega)).mp c55; omega))
          | exact c_th_t (k := k) (ih (k + 1) _ _ _ _ _ (by rw [hz, nI_1]) (by rw [thN, hb, ts_less c49, decide_eq_true (show cvN L (pn P (x + 14 + 3 * k)) < cvN L (pn P (x + 16 + 3 * k)) from Nat.lt_of_not_le (fun w => c55 ((nI_leI (by omega) (by omega)).mpr w)))]; rfl) (by omega) (by omega))
          | exact c_th_f k1 (by rw [ts_same c49 c80]; exact decide_eq_false (fun w => c69 (by rw [w])))
          | exact c_th_t (k := k) (ih (k + 1) _ _ _ _ _ (by rw [hz, nI_1]) (by rw [thN, hb, ts_same c49 c80, decide_eq_true ((nI_eq (by omega) (by omega)).mp c69)]; rfl) (by omega) (by omega))
          | exact c_th_t (k := k) (ih (k + 1) _ _ _ _ _ (by rw [hz, nI_1]) (by rw [thN, hb, ts_diff c49 c80, decide_eq_true (show ¬ cvN L (pn P (x + 14 + 3 * k)) = cvN L (pn P (x + 16 + 3 * k)) from fun w => c69 (by rw [w]))]; rfl) (by omega) (by omega))
          | exact c_th_f k1 (by rw [ts_diff c49 c80]; exact decide_eq_false (fun w => w ((nI_eq (by omega) (by omega)).mp c69)))
        · first
          | exact absurd rfl c88
          | exact absurd c88 (by decide)
          | exact c_th_f k1 (by rw [ts_less c49]; exact decide_eq_false (fun w => by have := (nI_leI (by omega) (by omega)).mp c55; omega))
          | exact c_th_t (k := k) (ih (k + 1) _ _ _ _ _ (by rw [hz, nI_1]) (by rw [thN, hb, ts_less c49, decide_eq_true (show cvN L (pn P (x + 14 + 3 * k)) < cvN L (pn P (x + 16 + 3 * k)) from Nat.lt_of_not_le (fun w => c55 ((nI_leI (by omega) (by omega)).mpr w)))]; rfl) (by omega) (by omega))
          | exact c_th_f k1 (by rw [ts_same c49 c80]; exact decide_eq_false (fun w => c69 (by rw [w])))
          | exact c_th_t (k := k) (ih (k + 1) _ _ _ _ _ (by rw [hz, nI_1]) (by rw [thN, hb, ts_same c49 c80, decide_eq_true ((nI_eq (by omega) (by omega)).mp c69)]; rfl) (by omega) (by omega))
          | exact c_th_t (k := k) (ih (k + 1) _ _ _ _ _ (by rw [hz, nI_1]) (by rw [thN, hb, ts_diff c49 c80, decide_eq_true (show ¬ cvN L (pn P (x + 14 + 3 * k)) = cvN L (pn P (x + 16 + 3 * k)) from fun w => c69 (by rw [w]))]; rfl) (by omega) (by omega))
          | exact c_th_f k1 (by rw [ts_diff c49 c80]; exact decide_eq_false (fun w => w ((nI_eq (by omega) (by omega)).mp c69)))
theorem c_testsHold {cg : sg_T} {fn : Nat → Option Nat} {cx : cx_T} {P : Nat → Int32} {d t va x ns : Nat} {L : Nat → Nat} (ht : t < 20) (hva : am_nth (hc cg fn cx) va = some (.inl (0, 9, cg va))) (hR : txR cg (18 + 3 * t) P x) (hX : okX P x) (hL : okL L) (hW : ∀ k, k < pn P (x + 1) → vOK (cg va) L (pn P (x + 14 + 3 * k)) ∧ vOK (cg va) L (pn P (x + 16 + 3 * k))) : am_Met mi_X10_testsHold d 0 0 [.ref (18 + 3 * t), .ref va] (hc cg fn cx) (fun r' h' => r' = some (.int (bI (thN P L x (pn P (x + 1))))) ∧ h' = (hc cg fn cx)) := by
  refine am_Met.of rfl (Nat.le_of_ble_eq_true rfl) ?_
  refine am_go ok_X10_testsHold [2] 62 ?_
  obtain ⟨-, ⟨m, m4, em⟩, -⟩ := id hX
  have pm := pn_of em (by omega)
  exact c_testsHold_l ht hva (by rw [pm]; exact hR.2.1.trans em) (by omega) (by rw [show 20 + 3 * t = 18 + 3 * t + 2 by omega]; exact hR.2.2.2.2) hX.2.2.2.2 hL hW (pn P (x + 1) + 1) 0 0 none none none none rfl rfl (by omega) (by omega)
theorem c_hasInTerms {cg : sg_T} {fn : Nat → Option Nat} {cx : cx_T} {d t l : Nat} {v : Int32} (ht : t < 20) (hv : v = nI l) (l32 : l < 32) : am_Met mi_X10_hasInTerms d 0 0 [.ref (18 + 3 * t), .int v] (hc cg fn cx) (fun r' h' => r' = some (.int (bI (bq (cg (18 + 3 * t) 2) l))) ∧ h' = (hc cg fn cx)) := by
  refine am_Met.of rfl (Nat.le_of_ble_eq_true rfl) ?_
  refine am_go ok_X10_hasInTerms [] 69 ?_
  refine ⟨_, _, hc_nT ht, rfl, ?_⟩
  refine ⟨fun c8 => ?_, fun c8 => ?_⟩
  · have q : bq (cg (18 + 3 * t) 2) l = false := (shr_e0 l32 _).mp (by rw [hv] at c8; exact c8)
    refine ⟨rfl, ?_⟩
    rw [q]; exact ⟨rfl, rfl⟩
  · have q : bq (cg (18 + 3 * t) 2) l = true := by
      cases e : bq (cg (18 + 3 * t) 2) l with
      | true => rfl
      | false => exact absurd ((shr_e0 l32 _).mpr e) (by rw [hv] at c8; exact c8)
    refine ⟨rfl, ?_⟩
    rw [q]; exact ⟨rfl, rfl⟩
theorem c_putLetters {cg : sg_T} {fn : Nat → Option Nat} {cx : cx_T} {d n : Nat} {v : Int32} (hv : v = nI n) (hn : n < 625) : am_Met mi_X10_putLetters d 0 0 [.int v, .ref 83] (hc cg fn cx) (fun r h' => r = none ∧ ∃ cg', h' = hc cg' fn cx ∧ (∀ a, a ≠ 83 → cg' a = cg a) ∧ (∀ i, i < 5 → cg' 83 i = cg 83 i) ∧ ∀ l, l < 4 → cg' 83 (5 + l) = nI (Lm n l)) := by
  refine am_Met.of rfl (Nat.le_of_ble_eq_true rfl) ?_
  refine am_go ok_X10_putLetters [] 90 ?_
  refine ⟨by decide, ?_⟩
  refine ⟨by decide, ?_⟩
  refine ⟨_, _, 5, rfl, rfl, Nat.le_of_ble_eq_true rfl, Nat.le_of_ble_eq_true rfl, ?_⟩
  rw [hc_a83]
  refine ⟨by decide, ?_⟩
  refine ⟨by decide, ?_⟩
  refine ⟨_, _, 6, rfl, rfl, Nat.le_of_ble_eq_true rfl, Nat.le_of_ble_eq_true rfl, ?_⟩
  rw [hc_a83]
  refine ⟨by decide, ?_⟩
  refine ⟨by decide, ?_⟩
  refine ⟨_, _, 7, rfl, rfl, Nat.le_of_ble_eq_true rfl, Nat.le_of_ble_eq_true rfl, ?_⟩
  rw [hc_a83]
  refine ⟨by decide, ?_⟩
  refine ⟨_, _, 8, rfl, rfl, Nat.le_of_ble_eq_true rfl, Nat.le_of_ble_eq_true rfl, ?_⟩
  rw [hc_a83]
  refine ⟨rfl, _, rfl, fun a ha => ?_, fun i hi => ?_, fun l hl => ?_⟩
  · rw [sg_i ha, sg_i ha, sg_i ha, sg_i ha]
  · rw [sg_j (by omega), sg_j (by omega), sg_j (by omega), sg_j (by omega)]
  · have e1 : nI n / 125 = nI (n / 125) := pk_div (d := 125) (by omega) (by omega) (by omega)
    have e2 : nI n / 25 = nI (n / 25) := pk_div (d := 25) (by omega) (by omega) (by omega)
    have e3 : nI n / 5 = nI (n / 5) := pk_div (d := 5) (by omega) (by omega) (by omega)
    rcases (show l = 0 ∨ l = 1 ∨ l = 2 ∨ l = 3 by omega) with e | e | e | e
    · subst e
      rw [sg_j (by decide), sg_j (by decide), sg_j (by decide), sg_s, hv, e1, rm5 (by omega)]
      congr 1
      show n / 125 % 5 = n / 125
      omega
    · subst e
      rw [sg_j (by decide), sg_j (by decide), sg_s, hv, e2, rm5 (by omega)]; rfl
    · subst e
      rw [sg_j (by decide), sg_s, hv, e3, rm5 (by omega)]; rfl
    · subst e
      rw [sg_s, hv, rm5 (by omega)]; rfl
