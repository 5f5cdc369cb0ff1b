/-! THE LAW'S START: the tables' words, the classes, what lies outside the worlds -/
theorem lw_m {w : Cond} (i : Nat) (h : tables_1[i]? = some w) : w ∈ lw_tbl := List.mem_append_right _ (List.mem_of_getElem? h)
theorem lw_T {args : Array Value} {s : State} (h : ∀ w ∈ lw_tbl, w.before args s = true) : am_T s := by
  intro w hw a
  have hg := (List.mem_filter.mp hw).2
  have h0 := h w (List.mem_filter.mp hw).1
  cases w <;> first
    | exact word_at (State.WarmedH.refl s) (good_of_word hg) h0
    | exact va_Nw.use rfl (va_Nw.of rfl h0)
theorem lw_i0 : Cond.instantiable RX0 18 ∈ am_gt := (am_m 31 (by decide +kernel) rfl)
theorem lw_i1 : Cond.instantiable RX1 0 ∈ am_gt := (am_m 303 (by decide +kernel) rfl)
theorem lw_i2 : Cond.instantiable RX2 7 ∈ am_gt := (am_m 159 (by decide +kernel) rfl)
theorem lw_i3 : Cond.instantiable RX3 0 ∈ am_gt := (am_m 282 (by decide +kernel) rfl)
theorem lw_i4 : Cond.instantiable RX4 0 ∈ am_gt := (am_m 310 (by decide +kernel) rfl)
theorem lw_i5 : Cond.instantiable RX5 0 ∈ am_gt := (am_m 289 (by decide +kernel) rfl)
theorem lw_i6 : Cond.instantiable RX6 8 ∈ am_gt := (am_m 192 (by decide +kernel) rfl)
theorem lw_i7 : Cond.instantiable RX7 5 ∈ am_gt := (am_m 257 (by decide +kernel) rfl)
theorem lw_i8 : Cond.instantiable RX8 0 ∈ am_gt := (am_m 296 (by decide +kernel) rfl)
theorem lw_i9 : Cond.instantiable RX9 6 ∈ am_gt := (am_m 231 (by decide +kernel) rfl)
theorem lw_i10 : Cond.instantiable RX10 5 ∈ am_gt := (am_m 38 (by decide +kernel) rfl)
theorem lw_i11 : Cond.instantiable RX11 7 ∈ am_gt := (am_m 23 (by decide +kernel) rfl)
theorem lw_i12 : Cond.instantiable RX12 15 ∈ am_gt := (am_m 862 (by decide +kernel) rfl)
theorem lw_Kc {s : State} (hT : am_T s) : ∃ D : va_G, ∀ (k : Nat) (q : vw_C), am_cls[k]? = some q → u_Kn s q.1 q.2.1 q.2.2 (D.1 k) (D.2 k) := by
  have h0 : ∀ k : Nat, ∃ x : ClassId × (Nat → Nat), ∀ q : vw_C, am_cls[k]? = some q → u_Kn s q.1 q.2.1 q.2.2 x.1 x.2 := by
    intro k
    match k with
    | 0 => obtain ⟨c, i, h⟩ := u_known (C := RX0) (T := TX0) (N := 18) (n := 18) (hT.use #[]) am_in0 (hT _ lw_i0 _); exact ⟨(c, i), fun q hq => by cases hq; exact h⟩
    | 1 => obtain ⟨c, i, h⟩ := u_known (C := RX1) (T := TX1) (N := 0) (n := 0) (hT.use #[]) am_in1 (hT _ lw_i1 _); exact ⟨(c, i), fun q hq => by cases hq; exact h⟩
    | 2 => obtain ⟨c, i, h⟩ := u_known (C := RX2) (T := TX2) (N := 7) (n := 7) (hT.use #[]) am_in2 (hT _ lw_i2 _); exact ⟨(c, i), fun q hq => by cases hq; exact h⟩
    | 3 => obtain ⟨c, i, h⟩ := u_known (C := RX3) (T := TX3) (N := 0) (n := 0) (hT.use #[]) am_in3 (hT _ lw_i3 _); exact ⟨(c, i), fun q hq => by cases hq; exact h⟩
    | 4 => obtain ⟨c, i, h⟩ := u_known (C := RX4) (T := TX4) (N := 0) (n := 0) (hT.use #[]) am_in4 (hT _ lw_i4 _); exact ⟨(c, i), fun q hq => by cases hq; exact h⟩
    | 5 => obtain ⟨c, i, h⟩ := u_known (C := RX5) (T := TX5) (N := 0) (n := 0) (hT.use #[]) am_in5 (hT _ lw_i5 _); exact ⟨(c, i), fun q hq => by cases hq; exact h⟩
    | 6 => obtain ⟨c, i, h⟩ := u_known (C := RX6) (T := TX6) (N := 8) (n := 8) (hT.use #[]) am_in6 (hT _ lw_i6 _); exact ⟨(c, i), fun q hq => by cases hq; exact h⟩
    | 7 => obtain ⟨c, i, h⟩ := u_known (C := RX7) (T := TX7) (N := 5) (n := 5) (hT.use #[]) am_in7 (hT _ lw_i7 _); exact ⟨(c, i), fun q hq => by cases hq; exact h⟩
    | 8 => obtain ⟨c, i, h⟩ := u_known (C := RX8) (T := TX8) (N := 0) (n := 0) (hT.use #[]) am_in8 (hT _ lw_i8 _); exact ⟨(c, i), fun q hq => by cases hq; exact h⟩
    | 9 => obtain ⟨c, i, h⟩ := u_known (C := RX9) (T := TX9) (N := 6) (n := 6) (hT.use #[]) am_in9 (hT _ lw_i9 _); exact ⟨(c, i), fun q hq => by cases hq; exact h⟩
    | 10 => obtain ⟨c, i, h⟩ := u_known (C := RX10) (T := TX10) (N := 5) (n := 5) (hT.use #[]) am_in10 (hT _ lw_i10 _); exact ⟨(c, i), fun q hq => by cases hq; exact h⟩
    | 11 => obtain ⟨c, i, h⟩ := u_known (C := RX11) (T := TX11) (N := 7) (n := 7) (hT.use #[]) am_in11 (hT _ lw_i11 _); exact ⟨(c, i), fun q hq => by cases hq; exact h⟩
    | 12 => obtain ⟨c, i, h⟩ := u_known (C := RX12) (T := TX12) (N := 15) (n := 15) (hT.use #[]) am_in12 (hT _ lw_i12 _); exact ⟨(c, i), fun q hq => by cases hq; exact h⟩
    | k + 13 => exact ⟨(0, fun _ => 0), fun q hq => by simp [am_cls] at hq⟩
  obtain ⟨f, hf⟩ := Classical.axiomOfChoice h0
  exact ⟨(fun k => (f k).1, fun k => (f k).2), fun k q hq => hf k q hq⟩
theorem lw_ar {s : State} {ty : FieldType} (hty : ∀ C, ty ≠ .object C) (h : (Cond.arrayClass ty).before #[] s = true) : ∃ cA : ClassId, ArrOfT s cA ty ∧ va_RA s cA ty := by
  obtain ⟨cA, k, comp, f1, f2, f3⟩ := Cond.arrayClass_spec (args := #[]) (first := s) (o := none) (s := s) (idx := []) h
  refine ⟨cA, fun n z => ⟨(fun k h => by cases h), k, f2, comp, f3⟩, ?_⟩
  cases ty with
  | object C => exact absurd rfl (hty C)
  | _ => exact f1
theorem lw_ao {s : State} {C : String} (h : va_AO C s) : ∃ cA : ClassId, ArrOfT s cA (.object C) ∧ va_RA s cA (.object C) := by
  obtain ⟨comp, cA, k, f1, -, f2, f3, f4⟩ := Cond.arrayOver_spec (args := #[]) (first := s) (o := none) (s := s) (idx := []) h
  exact ⟨cA, fun n z => ⟨(fun k h => by cases h), k, f2, comp, f3⟩, k, comp, f2, f3, f1, f4⟩
theorem lw_K {s : State} (hT : am_T s) (h3 : va_AO "DeedProofs$Text" s) (h4 : va_AO "DeedProofs$Line" s) : ∃ (D : va_G) (tc : Nat → ClassId), va_K D am_cls (am_tys tc) s := by
  obtain ⟨D, hD⟩ := lw_Kc hT
  obtain ⟨c0, q0⟩ := lw_ar (fun _ z => by cases z) (hT _ am_ac_int #[])
  obtain ⟨c1, q1⟩ := lw_ar (fun _ z => by cases z) (hT _ am_ac_byte #[])
  obtain ⟨c2, q2⟩ := lw_ar (fun _ z => by cases z) (hT _ am_ac_boolean #[])
  obtain ⟨c3, q3⟩ := lw_ao h3
  obtain ⟨c4, q4⟩ := lw_ao h4
  refine ⟨D, fun k => match k with | 0 => c0 | 1 => c1 | 2 => c2 | 3 => c3 | _ => c4, hD, fun k q hk => ?_⟩
  match k, hk with
  | 0, hk => cases hk; exact q0
  | 1, hk => cases hk; exact q1
  | 2, hk => cases hk; exact q2
  | 3, hk => cases hk; exact q3
  | 4, hk => cases hk; exact q4
  | k + 5, hk => simp [am_tys] at hk
def lw_g : Cond := Jvm.Cond.and given_1 narrow_1
def lw_tm (i : Nat) : Term := .string "DeedProofs$RuleReader" ([72, 78, 90].getD i 0)
theorem lw_f0 : ∀ i, i < 3 → Cond.exactly (lw_tm i) "java/lang/String" ∈ flatC lw_g := by decide +kernel
theorem lw_f1 : ∀ i, i < 3 → Cond.eq (.field (lw_tm i) "java/lang/String" "coder" "B") (.int 0) ∈ flatC lw_g := by decide +kernel
theorem lw_f2 : ∀ i, i < 3 → Cond.arrayOf (.field (lw_tm i) "java/lang/String" "value" "[B") .byte ∈ flatC lw_g := by decide +kernel
theorem lw_f3 : ∀ i, i < 3 → Cond.eq (.length (.field (lw_tm i) "java/lang/String" "value" "[B")) (.int (Int32.ofNat (am_len.getD i 0))) ∈ flatC lw_g := by decide +kernel
theorem lw_f4 : ∀ i, i < 3 → ∀ j, j < am_len.getD i 0 → Cond.eq (.elem (.field (lw_tm i) "java/lang/String" "value" "[B") (.int (Int32.ofNat j))) (.int ((am_byt.getD i []).getD j 0)) ∈ flatC lw_g := by decide +kernel
theorem lw_f5 : ∀ i, i < 3 → ∀ j, j < 3 → i ≠ j → Cond.not (Cond.eq (lw_tm i) (lw_tm j)) ∈ flatC lw_g ∨ Cond.not (Cond.eq (lw_tm j) (lw_tm i)) ∈ flatC lw_g := by decide +kernel
theorem lw_f6 : ∀ j, j < 5 → Cond.eq (.elem (.static "DeedProofs" "ABOVE" "[I") (.int (Int32.ofNat j))) (.int (am_abv j)) ∈ flatC lw_g := by decide +kernel
theorem lw_l3 : ∀ i, i < 3 → am_len.getD i 0 < 2 ^ 31 := by decide
theorem lw_Ss {N : Nat} {len : List Nat} {byt : List (List Int32)} {aK aV bK bV : Nat → Nat} {A : Nat → Prop} {U : State} {H : Heap} (h : vk_S N len byt aK aV A U H) (e1 : ∀ i, i < N → bK i = aK i) (e2 : ∀ i, i < N → bV i = aV i) : vk_S N len byt bK bV A U H :=
  ⟨fun i hi => by rw [e1 i hi, e2 i hi]; exact h.1 i hi, fun i j hi hj z => h.2 i j hi hj (by rw [← e1 i hi, ← e1 j hj]; exact z)⟩
def lw_ad (aK aV : Nat → Nat) (t u : Nat) (i : Nat) : Nat := if i < 100003 then aK (i - 100000) else if i = 100003 then t else if i < 100007 then aV (i - 100004) else u
theorem lw_adK {aK aV : Nat → Nat} {t u i : Nat} (h : i < 3) : lw_ad aK aV t u (100000 + i) = aK i := by
  unfold lw_ad; rw [if_pos (by omega), show 100000 + i - 100000 = i by omega]
theorem lw_adV {aK aV : Nat → Nat} {t u i : Nat} (h : i < 3) : lw_ad aK aV t u (100004 + i) = aV i := by
  unfold lw_ad; rw [if_neg (by omega), if_neg (by omega), if_pos (by omega), show 100004 + i - 100004 = i by omega]
theorem lw_adT {aK aV : Nat → Nat} {t u : Nat} : lw_ad aK aV t u 100003 = t := by
  unfold lw_ad; rw [if_neg (by omega), if_pos rfl]
theorem lw_adU {aK aV : Nat → Nat} {t u : Nat} : lw_ad aK aV t u 100007 = u := by
  unfold lw_ad; rw [if_neg (by omega), if_neg (by omega), if_neg (by omega)]
theorem lw_E {b : Nat} {s : State} (hts : ∀ w ∈ lw_tbl, w.before #[Value.ref b] s = true) (hgv : lw_g.before #[Value.ref b] s = true) : ∃ ad0 : Nat → Nat, am_Ev ad0 (lw_A s) s s.heap := by
  have hs := flat_of_before _ hgv
  have hA : ∀ a : Nat, a < s.heap.size → ¬ lw_A s a := fun a h z => absurd h (Nat.not_lt.mpr z)
  obtain ⟨aK, aV, hS, hK⟩ := vk_Sof (tm := lw_tm) (len := am_len) (byt := am_byt) (N := 3) (A := lw_A s) lw_l3 (fun i hi => hs _ (lw_f0 i hi)) (fun i hi => hs _ (lw_f1 i hi)) (fun i hi => hs _ (lw_f2 i hi)) (fun i hi => hs _ (lw_f3 i hi)) (fun i hi j hj => hs _ (lw_f4 i hi j hj)) (fun i j hi hj hij => (lw_f5 i hi j hj hij).imp (fun z => hs _ z) (fun z => hs _ z)) hA
  obtain ⟨t, ht, hT⟩ := va_Tof (tm := .static "DeedProofs" "ABOVE" "[I") (ty := .int) (N := 5) (f := fun j => .int (am_abv j)) (A := lw_A s) (by decide) (hs _ (by decide +kernel)) (va_eqt (hs _ (by decide +kernel))) (fun j hj => va_eqt (hs _ (lw_f6 j hj))) hA
  have hZ := va_Zof (hts _ (lw_m 730 (by decide +kernel))) (hts _ (lw_m 1 (by decide +kernel))) ht hA
  have hC := va_Zof (C := "java/lang/String") (n := "COMPACT_STRINGS") (d := "Z") (v := .int 1) (A := lw_A s) (hts _ (lw_m 379 (by decide +kernel))) (hts _ (lw_m 16 (by decide +kernel))) (va_eqi (z := 1) (hs _ (by decide +kernel))) hA
  have hF : ∃ u : Nat, va_Z "jdk/internal/util/Preconditions" "SIOOBE_FORMATTER" "Ljava/util/function/BiFunction;" .null (lw_A s) s s.heap ∨ va_Z "jdk/internal/util/Preconditions" "SIOOBE_FORMATTER" "Ljava/util/function/BiFunction;" (.ref u) (lw_A s) s s.heap := by
    obtain ⟨v, hv, hr⟩ := Cond.isRef_spec (args := #[Value.ref b]) (first := s) (o := none) (s := s) (idx := []) (t := .static "jdk/internal/util/Preconditions" "SIOOBE_FORMATTER" "Ljava/util/function/BiFunction;") (hs (.isRef (.static "jdk/internal/util/Preconditions" "SIOOBE_FORMATTER" "Ljava/util/function/BiFunction;")) (by decide +kernel))
    have hz := va_Zof (A := lw_A s) (hts _ (lw_m 395 (by decide +kernel))) (hts _ (lw_m 18 (by decide +kernel))) hv hA
    cases v with
    | null => exact ⟨0, Or.inl hz⟩
    | ref u => exact ⟨u, Or.inr hz⟩
    | _ => cases hr
  obtain ⟨u, hF⟩ := hF
  refine ⟨lw_ad aK aV t u, ⟨va_AO.of (hts _ (lw_m 37 (by decide +kernel))), va_AO.of (hts _ (lw_m 281 (by decide +kernel)))⟩, ⟨?_, ?_, ?_⟩, lw_Ss hS (fun i hi => lw_adK hi) (fun i hi => lw_adV hi), ⟨hC, by rw [lw_adU]; exact hF⟩, by rw [lw_adT]; exact hZ, by rw [lw_adT]; exact hT⟩
  · exact vk_R.of (hts _ (lw_m 365 (by decide +kernel))) (by rw [lw_adK (i := 0) (by decide)]; exact hK 0 (by decide))
  · exact vk_R.of (hts _ (lw_m 430 (by decide +kernel))) (by rw [lw_adK (i := 1) (by decide)]; exact hK 1 (by decide))
  · exact vk_R.of (hts _ (lw_m 435 (by decide +kernel))) (by rw [lw_adK (i := 2) (by decide)]; exact hK 2 (by decide))
