/-! TEXTS: length and charAt, by the JDK's own code -/
def mi_S_cod : am_MI := (⟨"java/lang/String", "coder", "()B"⟩, prog_17_method_152_code, 1, some .byte, [])
def mi_S_lat : am_MI := (⟨"java/lang/String", "isLatin1", "()Z"⟩, prog_17_method_154_code, 1, some .boolean, [])
def mi_L_chr : am_MI := (⟨"java/lang/StringLatin1", "charAt", "([BI)C"⟩, prog_18_method_2_code, 2, some .char, [])
def mi_S_chk : am_MI := (⟨"java/lang/String", "checkIndex", "(II)V"⟩, prog_17_method_155_code, 2, none, [])
def mi_P_chk : am_MI := (⟨"jdk/internal/util/Preconditions", "checkIndex", "(IILjava/util/function/BiFunction;)I"⟩, prog_22_method_11_code, 3, some .int, [])
theorem ml_S_cod : am_ML mi_S_cod 0 := ⟨(am_m 377 (by decide +kernel) rfl), (am_m 16 (by decide +kernel) rfl), ⟨by decide +kernel, by decide +kernel⟩, by decide +kernel, by decide⟩
theorem ml_S_lat : am_ML mi_S_lat 0 := ⟨(am_m 387 (by decide +kernel) rfl), (am_m 16 (by decide +kernel) rfl), ⟨by decide +kernel, by decide +kernel⟩, by decide +kernel, by decide⟩
theorem ml_L_chr : am_ML mi_L_chr 2 := ⟨(am_m 390 (by decide +kernel) rfl), (am_m 17 (by decide +kernel) rfl), ⟨by decide +kernel, by decide +kernel⟩, by decide +kernel, by decide⟩
theorem ml_S_chk : am_ML mi_S_chk 2 := ⟨(am_m 393 (by decide +kernel) rfl), (am_m 16 (by decide +kernel) rfl), ⟨by decide +kernel, by decide +kernel⟩, by decide +kernel, by decide⟩
theorem ml_P_chk : am_ML mi_P_chk 3 := ⟨(am_m 398 (by decide +kernel) rfl), (am_m 18 (by decide +kernel) rfl), ⟨by decide +kernel, by decide +kernel⟩, by decide +kernel, by decide⟩
section AMT
variable {mi : am_MI} {d : Nat} {Q : Option Value → am_H → Prop} {kc ks pc : Nat} {ls : am_L} {st : List Value} {h : am_H}
theorem am_s_cs (ho : (am_y mi).cls = "java/lang/String") (hd : decode (am_code mi) pc = .ok (.getstatic 38, 3)) (hk : am_W mi d Q kc ks (pc + 3) ls (.int 1 :: st) h) : am_W mi d Q kc ks pc ls st h := by
  intro p l e R s m args below meth c D tc ad ad0 h0 A H locs cells slots mc ms lsC hX hE hA hG hag hP hD hS hl
  have hE' := hE.ads (fun i hi => hag.2.2 i (Or.inr (by have := hag.2.1; omega)))
  exact va_gets hX.1 hX.2.1 hE'.2.2.2.1.1 hS (ho ▸ hX.2.2.2.2.1) (hX.2.2.2.2.2.2.2.1 _ (am_m 378 (by decide +kernel) rfl) args) (fun _ z => z) hd (hk p l e R s m args below meth c D tc ad ad0 h0 A H locs cells slots mc ms lsC hX hE hA hG hag hP hD hS hl)
theorem am_s_sf (ho : (am_y mi).cls = "java/lang/String") (hd : decode (am_code mi) pc = .ok (.getstatic 1053, 3)) (hk : am_W mi d Q kc ks (pc + 3) ls (.ref 100007 :: st) h) (hn : am_W mi d Q kc ks (pc + 3) ls (.null :: st) h) : am_W mi d Q kc ks pc ls st h := by
  intro p l e R s m args below meth c D tc ad ad0 h0 A H locs cells slots mc ms lsC hX hE hA hG hag hP hD hS hl
  have hE' := hE.ads (fun i hi => hag.2.2 i (Or.inr (by have := hag.2.1; omega)))
  rcases hE'.2.2.2.1.2 with z | z
  · exact va_gets hX.1 hX.2.1 z hS (ho ▸ hX.2.2.2.2.1) (hX.2.2.2.2.2.2.2.1 _ (am_m 394 (by decide +kernel) rfl) args) (fun _ z => z) hd (hn p l e R s m args below meth c D tc ad ad0 h0 A H locs cells slots mc ms lsC hX hE hA hG hag hP hD hS hl)
  · exact va_gets hX.1 hX.2.1 z hS (ho ▸ hX.2.2.2.2.1) (hX.2.2.2.2.2.2.2.1 _ (am_m 394 (by decide +kernel) rfl) args) (fun _ z => z) hd (hk p l e R s m args below meth c D tc ad ad0 h0 A H locs cells slots mc ms lsC hX hE hA hG hag hP hD hS hl)
theorem am_s_cod {i : Nat} (hi : i < 3) (ho : (am_y mi).cls = "java/lang/String") (hd : decode (am_code mi) pc = .ok (.getfield 15, 3)) (hk : am_W mi d Q kc ks (pc + 3) ls (.int 0 :: st) h) : am_W mi d Q kc ks pc ls (.ref (100000 + i) :: st) h := by
  intro p l e R s m args below meth c D tc ad ad0 h0 A H locs cells slots mc ms lsC hX hE hA hG hag hP hD hS hl
  have hE' := hE.ads (fun i hi => hag.2.2 i (Or.inr (by have := hag.2.1; omega)))
  exact vk_getf hX.1 hX.2.1 (hE'.2.2.1.1 i hi).2.1 hS (ho ▸ hX.2.2.2.2.1) (hX.2.2.2.2.2.2.2.1 _ (am_m 1274 (by decide +kernel) rfl) args) (fun _ z => z) hd (hk p l e R s m args below meth c D tc ad ad0 h0 A H locs cells slots mc ms lsC hX hE hA hG hag hP hD hS hl)
theorem am_s_val {i : Nat} (hi : i < 3) (ho : (am_y mi).cls = "java/lang/String") (hd : decode (am_code mi) pc = .ok (.getfield 9, 3)) (hk : am_W mi d Q kc ks (pc + 3) ls (.ref (100004 + i) :: st) h) : am_W mi d Q kc ks pc ls (.ref (100000 + i) :: st) h := by
  intro p l e R s m args below meth c D tc ad ad0 h0 A H locs cells slots mc ms lsC hX hE hA hG hag hP hD hS hl
  have hE' := hE.ads (fun i hi => hag.2.2 i (Or.inr (by have := hag.2.1; omega)))
  exact vk_getf hX.1 hX.2.1 (hE'.2.2.1.1 i hi).2.2.1 hS (ho ▸ hX.2.2.2.2.1) (hX.2.2.2.2.2.2.2.1 _ (am_m 1273 (by decide +kernel) rfl) args) (fun _ z => z) hd (hk p l e R s m args below meth c D tc ad ad0 h0 A H locs cells slots mc ms lsC hX hE hA hG hag hP hD hS hl)
theorem am_s_tln {i : Nat} (hi : i < 3) (hd : decode (am_code mi) pc = .ok (.arraylength, 1)) (hk : am_W mi d Q kc ks (pc + 1) ls (.int (nI (am_len.getD i 0)) :: st) h) : am_W mi d Q kc ks pc ls (.ref (100004 + i) :: st) h := by
  intro p l e R s m args below meth c D tc ad ad0 h0 A H locs cells slots mc ms lsC hX hE hA hG hag hP hD hS hl
  have hE' := hE.ads (fun i hi => hag.2.2 i (Or.inr (by have := hag.2.1; omega)))
  exact va_tlen hX.1 hX.2.1 (hE'.2.2.1.1 i hi).2.2.2 hS rfl hd (hk p l e R s m args below meth c D tc ad ad0 h0 A H locs cells slots mc ms lsC hX hE hA hG hag hP hD hS hl)
theorem am_s_tbl {i j : Nat} (hi : i < 3) (hj : j < am_len.getD i 0) (hd : decode (am_code mi) pc = .ok (.baload, 1)) (hk : am_W mi d Q kc ks (pc + 1) ls (.int ((am_byt.getD i []).getD j 0) :: st) h) : am_W mi d Q kc ks pc ls (.int (nI j) :: .ref (100004 + i) :: st) h := by
  intro p l e R s m args below meth c D tc ad ad0 h0 A H locs cells slots mc ms lsC hX hE hA hG hag hP hD hS hl
  have hE' := hE.ads (fun i hi => hag.2.2 i (Or.inr (by have := hag.2.1; omega)))
  have hl9 : am_len.getD i 0 < 2 ^ 31 := by
    rcases (show i = 0 ∨ i = 1 ∨ i = 2 by omega) with z | z | z <;> subst z <;> decide
  exact va_tb hX.1 hX.2.1 (hE'.2.2.1.1 i hi).2.2.2 hS (nI_in hj hl9) (by show Value.int ((am_byt.getD i []).getD (nI j).toNatClampNeg 0) = _; rw [nI_clamp (by omega)]; rfl) hd (hk p l e R s m args below meth c D tc ad ad0 h0 A H locs cells slots mc ms lsC hX hE hA hG hag hP hD hS hl)
end AMT
theorem s_P_chk {h : am_H} (d : Nat) {a b : Nat} (hab : a < b) (hb : b < 2 ^ 31) : am_Met mi_P_chk d 0 0 [.int (nI a), .int (nI b), .ref 100007] h (fun r h' => r = some (.int (nI a)) ∧ h' = h) := by
  refine am_Met.of (by decide) (Nat.le_of_ble_eq_true rfl) ?_
  refine am_s_iload_n (a := 0) (x := nI a) (j := 0) rfl (by decide +kernel) rfl ?_
  refine am_s_if (a := 9) (co := .lt) (off := 8) (by decide) (by decide +kernel) ⟨fun z => absurd z (nI_pos (by omega)), fun _ => ?_⟩
  refine am_s_iload_n (a := 0) (x := nI a) (j := 0) rfl (by decide +kernel) rfl ?_
  refine am_s_iload_n (a := 1) (x := nI b) (j := 1) rfl (by decide +kernel) rfl ?_
  refine am_s_icmp (a := 16) (co := .lt) (off := 10) (by decide) (by decide +kernel) ⟨fun _ => ?_, fun z => absurd (nI_lt hab hb) z⟩
  refine am_s_iload_n (a := 0) (x := nI a) (j := 0) rfl (by decide +kernel) rfl ?_
  exact am_s_iret (ty := .int) rfl rfl (by decide +kernel) ⟨rfl, rfl⟩
theorem s_P_chkN {h : am_H} (d : Nat) {a b : Nat} (hab : a < b) (hb : b < 2 ^ 31) : am_Met mi_P_chk d 0 0 [.int (nI a), .int (nI b), .null] h (fun r h' => r = some (.int (nI a)) ∧ h' = h) := by
  refine am_Met.of (by decide) (Nat.le_of_ble_eq_true rfl) ?_
  refine am_s_iload_n (a := 0) (x := nI a) (j := 0) rfl (by decide +kernel) rfl ?_
  refine am_s_if (a := 9) (co := .lt) (off := 8) (by decide) (by decide +kernel) ⟨fun z => absurd z (nI_pos (by omega)), fun _ => ?_⟩
  refine am_s_iload_n (a := 0) (x := nI a) (j := 0) rfl (by decide +kernel) rfl ?_
  refine am_s_iload_n (a := 1) (x := nI b) (j := 1) rfl (by decide +kernel) rfl ?_
  refine am_s_icmp (a := 16) (co := .lt) (off := 10) (by decide) (by decide +kernel) ⟨fun _ => ?_, fun z => absurd (nI_lt hab hb) z⟩
  refine am_s_iload_n (a := 0) (x := nI a) (j := 0) rfl (by decide +kernel) rfl ?_
  exact am_s_iret (ty := .int) rfl rfl (by decide +kernel) ⟨rfl, rfl⟩
theorem s_S_chk {h : am_H} {d : Nat} (hd : 1 ≤ d) {a b : Nat} (hab : a < b) (hb : b < 2 ^ 31) : am_Met mi_S_chk d 0 0 [.int (nI a), .int (nI b)] h (fun r h' => r = none ∧ h' = h) := by
  refine am_Met.of (by decide) (Nat.le_of_ble_eq_true rfl) ?_
  refine am_s_iload_n (a := 0) (x := nI a) (j := 0) rfl (by decide +kernel) rfl ?_
  refine am_s_iload_n (a := 1) (x := nI b) (j := 1) rfl (by decide +kernel) rfl ?_
  refine am_s_sf rfl (by decide +kernel) ?_ ?_
  · refine am_s_callS (ix := 1059) (mi' := mi_P_chk) ml_P_chk (am_m 396 (by decide +kernel) rfl) (am_m 397 (by decide +kernel) rfl) rfl (by decide +kernel) ⟨d - 1, 0, 0, _, by omega, Nat.le_of_ble_eq_true rfl, Nat.le_of_ble_eq_true rfl, Nat.le_of_ble_eq_true rfl, s_P_chk (d - 1) hab hb, ?_⟩
    rintro _ _ ⟨rfl, rfl⟩
    refine ⟨Or.inl rfl, ?_⟩
    refine am_s_popi (by decide +kernel) ?_
    exact am_s_vret rfl (by decide +kernel) ⟨rfl, rfl⟩
  · refine am_s_callS (ix := 1059) (mi' := mi_P_chk) ml_P_chk (am_m 396 (by decide +kernel) rfl) (am_m 397 (by decide +kernel) rfl) rfl (by decide +kernel) ⟨d - 1, 0, 0, _, by omega, Nat.le_of_ble_eq_true rfl, Nat.le_of_ble_eq_true rfl, Nat.le_of_ble_eq_true rfl, s_P_chkN (d - 1) hab hb, ?_⟩
    rintro _ _ ⟨rfl, rfl⟩
    refine ⟨Or.inl rfl, ?_⟩
    refine am_s_popi (by decide +kernel) ?_
    exact am_s_vret rfl (by decide +kernel) ⟨rfl, rfl⟩
def chX (i j : Nat) : Int32 := ((am_byt.getD i []).getD j 0 &&& 255).toUInt32 % 65536 |>.toInt32
theorem chX_e : ∀ i, i < 3 → ∀ j, j < 9 → chX i j = (am_byt.getD i []).getD j 0 := by decide +kernel
theorem chX_n : ∀ i, i < 3 → ∀ j, j < 9 → narrow .char (.int (chX i j)) = .int (chX i j) := by decide +kernel
theorem am_l9 : ∀ i, i < 3 → am_len.getD i 0 ≤ 9 := by decide
theorem s_L_chr {h : am_H} {d : Nat} (hd : 2 ≤ d) {i j : Nat} (hi : i < 3) (hj : j < am_len.getD i 0) : am_Met mi_L_chr d 0 0 [.ref (100004 + i), .int (nI j)] h (fun r h' => r = some (.int ((am_byt.getD i []).getD j 0)) ∧ h' = h) := by
  have l9 := am_l9 i hi
  refine am_Met.of (by decide) (Nat.le_of_ble_eq_true rfl) ?_
  refine am_s_iload_n (a := 1) (x := nI j) (j := 1) rfl (by decide +kernel) rfl ?_
  refine am_s_aload_n (a := 0) (x := 100004 + i) (j := 0) rfl (by decide +kernel) rfl ?_
  refine am_s_tln hi (by decide +kernel) ?_
  refine am_s_callS (ix := 9) (mi' := mi_S_chk) ml_S_chk (am_m 391 (by decide +kernel) rfl) (am_m 392 (by decide +kernel) rfl) rfl (by decide +kernel) ⟨d - 1, 0, 0, _, by omega, Nat.le_of_ble_eq_true rfl, Nat.le_of_ble_eq_true rfl, Nat.le_of_ble_eq_true rfl, s_S_chk (d := d - 1) (by omega) hj (by omega), ?_⟩
  rintro _ _ ⟨rfl, rfl⟩
  refine ⟨Or.inl rfl, ?_⟩
  refine am_s_aload_n (a := 0) (x := 100004 + i) (j := 0) rfl (by decide +kernel) rfl ?_
  refine am_s_iload_n (a := 1) (x := nI j) (j := 1) rfl (by decide +kernel) rfl ?_
  refine am_s_tbl hi hj (by decide +kernel) ?_
  refine am_s_sipush (n := 255) (k := 255) (by decide) (by decide +kernel) ?_
  refine am_s_iand (by decide +kernel) ?_
  refine am_s_i2c (by decide +kernel) ?_
  have e := chX_e i hi j (by omega)
  have hn := chX_n i hi j (by omega)
  rw [e] at hn
  have e' : (((am_byt.getD i []).getD j 0 &&& 255).toUInt32 % 65536).toInt32 = (am_byt.getD i []).getD j 0 := e
  rw [e']
  exact am_s_iret (ty := .char) rfl hn (by decide +kernel) ⟨rfl, rfl⟩
theorem s_cod {h : am_H} (d : Nat) {i : Nat} (hi : i < 3) : am_Met mi_S_cod d 0 0 [.ref (100000 + i)] h (fun r h' => r = some (.int 0) ∧ h' = h) := by
  refine am_Met.of (by decide) (Nat.le_of_ble_eq_true rfl) ?_
  refine am_s_cs rfl (by decide +kernel) ?_
  refine am_s_if (a := 13) (co := .eq) (off := 10) (by decide) (by decide +kernel) ⟨fun z => absurd z (by decide), fun _ => ?_⟩
  refine am_s_aload_n (a := 0) (x := 100000 + i) (j := 0) rfl (by decide +kernel) rfl ?_
  refine am_s_cod hi rfl (by decide +kernel) ?_
  refine am_s_goto (a := 14) (off := 4) (by decide) (by decide +kernel) ?_
  exact am_s_iret (ty := .byte) rfl (by decide) (by decide +kernel) ⟨rfl, rfl⟩
theorem s_lat {h : am_H} (d : Nat) {i : Nat} (hi : i < 3) : am_Met mi_S_lat d 0 0 [.ref (100000 + i)] h (fun r h' => r = some (.int 1) ∧ h' = h) := by
  refine am_Met.of (by decide) (Nat.le_of_ble_eq_true rfl) ?_
  refine am_s_cs rfl (by decide +kernel) ?_
  refine am_s_if (a := 17) (co := .eq) (off := 14) (by decide) (by decide +kernel) ⟨fun z => absurd z (by decide), fun _ => ?_⟩
  refine am_s_aload_n (a := 0) (x := 100000 + i) (j := 0) rfl (by decide +kernel) rfl ?_
  refine am_s_cod hi rfl (by decide +kernel) ?_
  refine am_s_if (a := 17) (co := .ne) (off := 7) (by decide) (by decide +kernel) ⟨fun z => absurd rfl z, fun _ => ?_⟩
  refine am_s_iconst (n := 1) (k := 1) (by decide) (by decide +kernel) ?_
  refine am_s_goto (a := 18) (off := 4) (by decide) (by decide +kernel) ?_
  exact am_s_iret (ty := .boolean) rfl (by decide) (by decide +kernel) ⟨rfl, rfl⟩
theorem am_shr0 : ∀ i, i < 3 → nI (am_len.getD i 0) >>> ((0 : Int32) &&& 31) = nI (am_len.getD i 0) := by decide +kernel
theorem s_length {h : am_H} {d : Nat} (hd : 1 ≤ d) {i : Nat} (hi : i < 3) : am_Met mi_J0_length_8abf5 d 0 0 [.ref (100000 + i)] h (fun r h' => r = some (.int (nI (am_len.getD i 0))) ∧ h' = h) := by
  refine am_Met.of (by decide) (Nat.le_of_ble_eq_true rfl) ?_
  refine am_s_aload_n (a := 0) (x := 100000 + i) (j := 0) rfl (by decide +kernel) rfl ?_
  refine am_s_val hi rfl (by decide +kernel) ?_
  refine am_s_tln hi (by decide +kernel) ?_
  refine am_s_aload_n (a := 0) (x := 100000 + i) (j := 0) rfl (by decide +kernel) rfl ?_
  refine am_s_callT (ix := 335) (mi' := mi_S_cod) ml_S_cod (am_m 374 (by decide +kernel) rfl) (am_m 375 (by decide +kernel) rfl) (am_m 376 (by decide +kernel) rfl) rfl (by omega) (by omega) (by decide +kernel) ⟨d - 1, 0, 0, _, by omega, Nat.le_of_ble_eq_true rfl, Nat.le_of_ble_eq_true rfl, Nat.le_of_ble_eq_true rfl, s_cod (d - 1) hi, ?_⟩
  rintro _ _ ⟨rfl, rfl⟩
  refine ⟨Or.inl rfl, ?_⟩
  refine am_s_ishr (by decide +kernel) ?_
  rw [am_shr0 i hi]
  exact am_s_iret (ty := .int) rfl rfl (by decide +kernel) ⟨rfl, rfl⟩
theorem s_charAt {h : am_H} {d : Nat} (hd : 3 ≤ d) {i j : Nat} (hi : i < 3) (hj : j < am_len.getD i 0) : am_Met mi_J0_charAt_5068e d 0 0 [.ref (100000 + i), .int (nI j)] h (fun r h' => r = some (.int ((am_byt.getD i []).getD j 0)) ∧ h' = h) := by
  have l9 := am_l9 i hi
  have hn := chX_n i hi j (by omega)
  rw [chX_e i hi j (by omega)] at hn
  refine am_Met.of (by decide) (Nat.le_of_ble_eq_true rfl) ?_
  refine am_s_aload_n (a := 0) (x := 100000 + i) (j := 0) rfl (by decide +kernel) rfl ?_
  refine am_s_callT (ix := 492) (mi' := mi_S_lat) ml_S_lat (am_m 384 (by decide +kernel) rfl) (am_m 385 (by decide +kernel) rfl) (am_m 386 (by decide +kernel) rfl) rfl (by omega) (by omega) (by decide +kernel) ⟨d - 1, 0, 0, _, by omega, Nat.le_of_ble_eq_true rfl, Nat.le_of_ble_eq_true rfl, Nat.le_of_ble_eq_true rfl, s_lat (d - 1) hi, ?_⟩
  rintro _ _ ⟨rfl, rfl⟩
  refine ⟨Or.inl rfl, ?_⟩
  refine am_s_if (a := 16) (co := .eq) (off := 12) (by decide) (by decide +kernel) ⟨fun z => absurd z (by decide), fun _ => ?_⟩
  refine am_s_aload_n (a := 0) (x := 100000 + i) (j := 0) rfl (by decide +kernel) rfl ?_
  refine am_s_val hi rfl (by decide +kernel) ?_
  refine am_s_iload_n (a := 1) (x := nI j) (j := 1) rfl (by decide +kernel) rfl ?_
  refine am_s_callS (ix := 495) (mi' := mi_L_chr) ml_L_chr (am_m 388 (by decide +kernel) rfl) (am_m 389 (by decide +kernel) rfl) rfl (by decide +kernel) ⟨d - 1, 0, 0, _, by omega, Nat.le_of_ble_eq_true rfl, Nat.le_of_ble_eq_true rfl, Nat.le_of_ble_eq_true rfl, s_L_chr (d := d - 1) (by omega) hi hj, ?_⟩
  rintro _ _ ⟨rfl, rfl⟩
  refine ⟨Or.inl rfl, ?_⟩
  exact am_s_iret (ty := .char) rfl hn (by decide +kernel) ⟨rfl, rfl⟩
