/-! smaller constructors: the kinds, the values, Arrays.fill -/
theorem nth_put {α : Type} {c d : α} : ∀ {H : List α} {i : Nat}, am_nth H i = some d → am_nth (am_put H i c) i = some c
  | [], _, h => absurd h (by intro z; exact absurd z (by simp [am_nth]))
  | _ :: _, 0, _ => rfl
  | _ :: l, i + 1, h => nth_put (H := l) (i := i) h
theorem put_put {α : Type} {c d : α} : ∀ {H : List α} {i : Nat}, am_put (am_put H i c) i d = am_put H i d
  | [], _ => rfl
  | _ :: _, 0 => rfl
  | a :: l, i + 1 => congrArg (a :: ·) (put_put (H := l) (i := i))
theorem put_len {α : Type} {c : α} : ∀ {H : List α} {i : Nat}, (am_put H i c).length = H.length
  | [], _ => rfl
  | _ :: _, 0 => rfl
  | a :: l, i + 1 => congrArg (· + 1) (put_len (H := l) (i := i))
theorem put_id {α : Type} {c : α} : ∀ {H : List α} {i : Nat}, am_nth H i = some c → am_put H i c = H
  | [], _, _ => rfl
  | a :: _, 0, h => by have : some a = some c := h; injection this with e; rw [e]; rfl
  | a :: l, i + 1, h => congrArg (a :: ·) (put_id (H := l) (i := i) h)
theorem i_k3 {h : am_H} {o d : Nat} (hd : 1 ≤ d) : am_Met mi_X3_init d 0 0 [.ref o] h (fun r h' => r = none ∧ h' = h) := by
  refine am_Met.of rfl (Nat.le_of_ble_eq_true rfl) ?_
  refine am_go ok_X3_init [] 62 ?_
  refine ⟨by omega, Nat.le_of_ble_eq_true rfl, ?_⟩
  exact ⟨rfl, rfl⟩
theorem i_k5 {h : am_H} {o d : Nat} (hd : 2 ≤ d) : am_Met mi_X5_init d 0 0 [.ref o] h (fun r h' => r = none ∧ h' = h) := by
  refine am_Met.of rfl (Nat.le_of_ble_eq_true rfl) ?_
  refine am_go ok_X5_init [] 62 ?_
  refine ⟨d - 1, 0, 0, _, by omega, Nat.le_of_ble_eq_true rfl, Nat.le_of_ble_eq_true rfl, Nat.le_of_ble_eq_true rfl, i_k3 (by omega), ?_⟩
  rintro _ _ ⟨rfl, rfl⟩
  refine ⟨Or.inl rfl, ?_⟩
  exact ⟨rfl, rfl⟩
theorem i_k8 {h : am_H} {o d : Nat} (hd : 2 ≤ d) : am_Met mi_X8_init d 0 0 [.ref o] h (fun r h' => r = none ∧ h' = h) := by
  refine am_Met.of rfl (Nat.le_of_ble_eq_true rfl) ?_
  refine am_go ok_X8_init [] 62 ?_
  refine ⟨d - 1, 0, 0, _, by omega, Nat.le_of_ble_eq_true rfl, Nat.le_of_ble_eq_true rfl, Nat.le_of_ble_eq_true rfl, i_k3 (by omega), ?_⟩
  rintro _ _ ⟨rfl, rfl⟩
  refine ⟨Or.inl rfl, ?_⟩
  exact ⟨rfl, rfl⟩
theorem i_k1 {h : am_H} {o d : Nat} (hd : 2 ≤ d) : am_Met mi_X1_init d 0 0 [.ref o] h (fun r h' => r = none ∧ h' = h) := by
  refine am_Met.of rfl (Nat.le_of_ble_eq_true rfl) ?_
  refine am_go ok_X1_init [] 62 ?_
  refine ⟨d - 1, 0, 0, _, by omega, Nat.le_of_ble_eq_true rfl, Nat.le_of_ble_eq_true rfl, Nat.le_of_ble_eq_true rfl, i_k3 (by omega), ?_⟩
  rintro _ _ ⟨rfl, rfl⟩
  refine ⟨Or.inl rfl, ?_⟩
  exact ⟨rfl, rfl⟩
theorem i_k4 {h : am_H} {o d : Nat} (hd : 3 ≤ d) : am_Met mi_X4_init d 0 0 [.ref o] h (fun r h' => r = none ∧ h' = h) := by
  refine am_Met.of rfl (Nat.le_of_ble_eq_true rfl) ?_
  refine am_go ok_X4_init [] 62 ?_
  refine ⟨d - 1, 0, 0, _, by omega, Nat.le_of_ble_eq_true rfl, Nat.le_of_ble_eq_true rfl, Nat.le_of_ble_eq_true rfl, i_k5 (by omega), ?_⟩
  rintro _ _ ⟨rfl, rfl⟩
  refine ⟨Or.inl rfl, ?_⟩
  exact ⟨rfl, rfl⟩
theorem i_vals_l {h : am_H} {b d kc ks : Nat} (hb : h.length = b) : ∀ (u k : Nat) (z : Int32) (F : Nat → Int32), z = nI k → (∀ i, i < k → F i = nI i) → (∀ i, k ≤ i → F i = 0) → k ≤ 5 → 5 < k + u → am_W mi_X10_newValues d (fun r h' => r = some (.ref b) ∧ ∃ F, h' = h ++ [.inl (0, 9, F)] ∧ (∀ i, i < 5 → F i = nI i) ∧ ∀ i, 5 ≤ i → F i = 0) kc ks 7 [some (.ref b), some (.int z)] [] (h ++ [.inl (0, 9, F)]) := by
  intro u
  induction u with
  | zero => intro k z F hz hA hB h1 h2; exact absurd h2 (by omega)
  | succ u ih =>
    intro k z F hz hA hB h1 h2
    refine am_go ok_X10_newValues [7] 69 ?_
    refine ⟨fun c9 => ?_, fun c9 => ?_⟩
    · have e : k = 5 := by rw [hz] at c9; have := (nI_leI (a := 5) (by omega) (by omega)).mp c9; omega
      subst e
      exact ⟨rfl, F, rfl, hA, hB⟩
    · have kl : k < 5 := by
        rcases Nat.lt_or_ge k 5 with q1 | q1
        · exact q1
        · exact absurd (by rw [hz]; exact (nI_leI (a := 5) (by omega) (by omega)).mpr q1) c9
      refine ⟨_, _, k, ap_n0 hb, hz, (show k < 9 by omega), Nat.le_of_ble_eq_true rfl, ?_⟩
      rw [ap_p0 hb]
      exact ih (k + 1) _ (upd F k z) (by rw [hz, nI_1]) (fun i hi => by
        by_cases q : i = k
        · rw [q, pk_us, hz]
        · rw [pk_un q]; exact hA i (by omega)) (fun i hi => by rw [pk_un (by omega)]; exact hB i (by omega)) (by omega) (by omega)
theorem i_vals {h : am_H} {b d : Nat} (hb : h.length = b) (hw : wfL b h) (b1 : b + 10 < 100000) : am_Met mi_X10_newValues d 1 9 [] h (fun r h' => r = some (.ref b) ∧ ∃ F, h' = h ++ [.inl (0, 9, F)] ∧ (∀ i, i < 5 → F i = nI i) ∧ ∀ i, 5 ≤ i → F i = 0) := by
  refine am_Met.of rfl (Nat.le_of_ble_eq_true rfl) ?_
  refine am_go ok_X10_newValues [7] 65 ?_
  refine ⟨Nat.le_of_ble_eq_true rfl, Nat.le_of_ble_eq_true rfl, by decide, by decide, (by rw [hb]; omega), (by rw [hb]; exact ⟨wfS_n (N := b) (Nat.le_refl _) (by show wfS b [none, none]; trivial), wfF_n (N := b) (Nat.le_refl _) (by show wfF b []; trivial), wfL_n (Nat.le_refl _) hw⟩), ?_⟩
  rw [hb]
  exact i_vals_l hb 6 0 0 (fun _ => 0) rfl (fun i hi => absurd hi (by omega)) (fun _ _ => rfl) (by omega) (by omega)
theorem j_fill_l {H : am_H} {o n d kc ks : Nat} {v : Int32} {c0 : am_C} (ho : am_nth H o = some c0) (n1 : n ≤ 1000) : ∀ (u k : Nat) (z : Int32) (F : Nat → Int32), z = nI k → (∀ i, i < k → F i = v) → k ≤ n → n < k + u → am_W mi_J7_fill_53178 d (fun r h' => r = none ∧ ∃ F', h' = am_put H o (.inl (0, n, F')) ∧ ∀ i, i < n → F' i = v) kc ks 5 [some (.ref o), some (.int v), some (.int z), some (.int (nI n))] [] (am_put H o (.inl (0, n, F))) := by
  intro u
  induction u with
  | zero => intro k z F hz hA h1 h2; exact absurd h2 (by omega)
  | succ u ih =>
    intro k z F hz hA h1 h2
    refine am_go ok_J7_fill_53178 [5] 69 ?_
    refine ⟨fun c7 => ?_, fun c7 => ?_⟩
    · have e : k = n := by rw [hz] at c7; have := (nI_leI (by omega) (by omega)).mp c7; omega
      subst e
      exact ⟨rfl, F, rfl, hA⟩
    · have kl : k < n := by
        rcases Nat.lt_or_ge k n with q1 | q1
        · exact q1
        · exact absurd (by rw [hz]; exact (nI_leI (by omega) (by omega)).mpr q1) c7
      refine ⟨n, F, k, nth_put ho, hz, kl, by omega, ?_⟩
      rw [put_put]
      exact ih (k + 1) _ (upd F k v) (by rw [hz, nI_1]) (fun i hi => by
        by_cases q : i = k
        · rw [q, pk_us]
        · rw [pk_un q]; exact hA i (by omega)) (by omega) (by omega)
theorem j_fill {H : am_H} {o n d : Nat} {v : Int32} {F : Nat → Int32} (ho : am_nth H o = some (.inl (0, n, F))) (n1 : n ≤ 1000) : am_Met mi_J7_fill_53178 d 0 0 [.ref o, .int v] H (fun r h' => r = none ∧ ∃ F', h' = am_put H o (.inl (0, n, F')) ∧ ∀ i, i < n → F' i = v) := by
  refine am_Met.of (by decide) (Nat.le_of_ble_eq_true rfl) ?_
  refine am_go ok_J7_fill_53178 [5] 65 ?_
  refine ⟨_, _, ho, ?_⟩
  have NX := fun kc ks => j_fill_l (d := d) (kc := kc) (ks := ks) (v := v) ho n1 (n + 1) 0 0 F rfl (fun i hi => absurd hi (by omega)) (by omega) (by omega)
  rw [put_id ho] at NX
  exact NX _ _
