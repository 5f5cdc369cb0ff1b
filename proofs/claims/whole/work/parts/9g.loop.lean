/-! THE LAW: its loop, its start -/
theorem lw_cmp {i L : Nat} (hL : L ≤ 4096) (hi : i ≤ L) (h : ¬ Int32.ofNat L - 8 < nI i) : i + 8 ≤ L := by
  rcases Nat.lt_or_ge L (i + 8) with z | z
  · exfalso
    apply h
    by_cases h8 : 8 ≤ L
    · have e : Int32.ofNat L - 8 = nI (L - 8) := by
        have e1 : nI (L - 8) + nI 8 = Int32.ofNat L := by rw [nI_add, show L - 8 + 8 = L by omega]; rfl
        rw [← e1]
        exact Int32.add_sub_cancel _ _
      rw [e]
      exact nI_lt (by omega) (by omega)
    · have h0 : ∀ L, L < 8 → Int32.ofNat L - 8 < 0 := by decide
      exact Int32.lt_of_lt_of_le (h0 L (by omega)) (nI_pos' (by omega))
  · exact z
def lw_tg : List Nat := [184, 207, 270, 283, 316, 359, 392, 441, 474, 517, 540, 563, 650, 693, 736, 769, 792, 825, 858, 901, 934, 957, 990, 1013, 1046, 1079, 1102, 1135, 1168, 1181, 1224, 1247, 1260, 1273]
def lw_of : Array Int := #[151, 174, 237, 250, 283, 326, 359, 408, 441, 484, 507, 530, 617, 660, 703, 736, 759, 792, 825, 868, 901, 924, 957, 980, 1013, 1046, 1069, 1102, 1135, 1148, 1191, 1214, 1227, 1240]
theorem lw_d33 : decode code 33 = .ok (.tableswitch 1263 0 33 lw_of, 151) := by decide +kernel
theorem lw_tgo : ∀ k, k < 34 → lw_of[k]? = some ((lw_tg.getD k 0 : Int) - 33) := by decide +kernel
section LWL
variable {p : Program} {l : Launch} {e : Env} {s : State} {m : MethodId} {below : List Frame} {meth : Method} {c : Code} {b L : Nat} {xs : Nat → Int32} {D : va_G} {tc : Nat → ClassId} {ad0 : Nat → Nat} {q1 q2 : Nat}
theorem lw_any {ls : Array Slot} {Z : State → Prop} {i : Nat} (C0 : lw_C p s m c b L xs D tc ad0) (hl : lv_has ls 4 (lw_lv b q1 q2 i)) (hi : i + 8 ≤ L) (next : lw_G p l e s m below meth c b D tc ad0 Z q1 q2 ls 1296) : ∀ k, k < 34 → lw_G p l e s m below meth c b D tc ad0 Z q1 q2 ls (lw_tg.getD k 0) := by
  intro k hk
  match k, hk with
  | 0, _ => exact lw_k0 C0 hl hi next
  | 1, _ => exact lw_k1 C0 hl hi next
  | 2, _ => exact lw_k2 C0 hl hi next
  | 3, _ => exact lw_k3 C0 hl hi next
  | 4, _ => exact lw_k4 C0 hl hi next
  | 5, _ => exact lw_k5 C0 hl hi next
  | 6, _ => exact lw_k6 C0 hl hi next
  | 7, _ => exact lw_k7 C0 hl hi next
  | 8, _ => exact lw_k8 C0 hl hi next
  | 9, _ => exact lw_k9 C0 hl hi next
  | 10, _ => exact lw_k10 C0 hl hi next
  | 11, _ => exact lw_k11 C0 hl hi next
  | 12, _ => exact lw_k12 C0 hl hi next
  | 13, _ => exact lw_k13 C0 hl hi next
  | 14, _ => exact lw_k14 C0 hl hi next
  | 15, _ => exact lw_k15 C0 hl hi next
  | 16, _ => exact lw_k16 C0 hl hi next
  | 17, _ => exact lw_k17 C0 hl hi next
  | 18, _ => exact lw_k18 C0 hl hi next
  | 19, _ => exact lw_k19 C0 hl hi next
  | 20, _ => exact lw_k20 C0 hl hi next
  | 21, _ => exact lw_k21 C0 hl hi next
  | 22, _ => exact lw_k22 C0 hl hi next
  | 23, _ => exact lw_k23 C0 hl hi next
  | 24, _ => exact lw_k24 C0 hl hi next
  | 25, _ => exact lw_k25 C0 hl hi next
  | 26, _ => exact lw_k26 C0 hl hi next
  | 27, _ => exact lw_k27 C0 hl hi next
  | 28, _ => exact lw_k28 C0 hl hi next
  | 29, _ => exact lw_k29 C0 hl hi next
  | 30, _ => exact lw_k30 C0 hl hi next
  | 31, _ => exact lw_k31 C0 hl hi next
  | 32, _ => exact lw_k32 C0 hl hi next
  | 33, _ => exact lw_k33 C0 hl hi next
  | k + 34, hk => exact absurd hk (by omega)
set_option maxHeartbeats 4000000 in
set_option maxRecDepth 100000 in
theorem lw_loop (C0 : lw_C p s m c b L xs D tc ad0) (hr : meth.sig.returnType = ret) (hlocks : meth.locks = false) : ∀ (n i : Nat), i ≤ L → L + 1 ≤ i + n → ∀ ls : Array Slot, lv_has ls 4 (lw_lv b q1 q2 i) → lw_G p l e s m below meth c b D tc ad0 (lw_Z below #[Value.ref b] s) q1 q2 ls 18 := by
  have hx := C0.1
  have hb := C0.2.1
  have hX := C0.2.2.2.2.2.2.2.1
  have hbl := C0.2.2.2.2.2.2.2.2.1
  have hL := C0.2.2.2.2.2.2.2.2.2
  have hbA : ¬ lw_A s b := Nat.not_le.mpr hbl
  intro n
  induction n with
  | zero => intro i h1 h2; exact absurd h2 (by omega)
  | succ n ih =>
    intro i h1 h2 ls hl cg fn cx sg H locs cells slots hR hI hkc hks
    have hS : va_S (lw_A s) s.heap H locs := by obtain ⟨adc, adm, -, -, -, -, -, -, -, -, -, hS⟩ := hI; exact hS
    refine lv_iload_n (k := 3) (x := nI i) hx hb (by decide +kernel) rfl (lv_at hl 3 rfl) ?_
    refine lv_aload_n (k := 0) (x := b) hx hb (by decide +kernel) rfl (lv_at hl 0 rfl) ?_
    refine va_slen hx hb hX hbl hbA hS (by decide +kernel) ?_
    refine lv_bipush (n := 8) (v := 8) hx hb (by decide +kernel) (by decide) ?_
    refine lv_isub hx hb (by decide +kernel) ?_
    refine lv_icmp_gt (off := 1278) (tgt := 1302) hx hb (by decide +kernel) (by decide) (fun _ => ?_) (fun cge => ?_)
    · refine lv_iconst (n := 1) (v := 1) hx hb (by decide +kernel) (by decide) ?_
      refine va_forget (fun q hq => hS.2.2 q hq) ?_
      refine W.widen (k := 600000) (n := 7302249) (by omega) (by omega) ?_
      exact lw_ret hx hb hr hlocks (by decide +kernel)
    · have hi8 : i + 8 ≤ L := lw_cmp hL h1 cge
      refine lv_aload_n (k := 0) (x := b) hx hb (by decide +kernel) rfl (lv_at hl 0 rfl) ?_
      refine lv_iload_n (k := 3) (x := nI i) hx hb (by decide +kernel) rfl (lv_at hl 3 rfl) ?_
      refine va_sld hx hb hX hbl hbA hS (vp_in_nI (show i < L by omega) (by omega)) (by decide +kernel) ?_
      refine lv_bipush (n := 63) (v := 63) hx hb (by decide +kernel) (by decide) ?_
      refine lv_iand hx hb (by decide +kernel) ?_
      have next : lw_G p l e s m below meth c b D tc ad0 (lw_Z below #[Value.ref b] s) q1 q2 ls 1296 := by
        intro cg fn cx sg H locs cells slots hR hI hkc hks
        refine lv_iinc (i := 3) (n := 8) (v := nI (i + 8)) (lv' := [(3, .int (nI (i + 8))), (0, .ref b), (1, .ref q1), (2, .ref q2)]) hx hb (by decide +kernel) hl (k := 3) rfl (by rw [← nI_add]; rfl) (by decide) rfl (fun ls hl => ?_)
        refine lv_goto (off := -1281) (tgt := 18) hx hb (by decide +kernel) (by decide) ?_
        exact ih (i + 8) (by omega) (by omega) ls (lv_sub hl [1, 2, 3, 0] rfl) cg fn cx sg H locs cells slots hR hI hkc hks
      generalize xs (nI i).toNatClampNeg &&& 63 = x
      by_cases hout : x.toInt < 0 ∨ 33 < x.toInt
      · exact lv_tableOut (tgt := 1296) hx hb lw_d33 hout (by decide) (next cg fn cx sg H locs cells slots hR hI hkc hks)
      · obtain ⟨k, hk, ek⟩ : ∃ k : Nat, k < 34 ∧ x.toInt = (k : Int) := ⟨x.toInt.toNat, by omega, by omega⟩
        refine lv_tableIn (off := (lw_tg.getD k 0 : Int) - 33) (tgt := lw_tg.getD k 0) hx hb lw_d33 (by omega) (by omega) ?_ ?_ ?_
        · rw [ek, show ((k : Int) - 0).toNat = k by omega]; exact lw_tgo k hk
        · show (33 : Int) + _ = _; omega
        · exact lw_any C0 hl hi8 next k hk cg fn cx sg H locs cells slots hR hI hkc hks
end LWL
theorem lw_app {D : va_G} {cl : List vw_C} {w1 w2 : va_W} {H : Heap} (h : va_P D cl (w1 ++ w2) H) : va_P D cl w1 H ∧ va_P D cl w2 H :=
  ⟨fun k q hk => h k q (by rw [List.getElem?_append_left (List.getElem?_eq_some_iff.mp hk).1]; exact hk), fun k q hk => h (w1.length + k) q (by rw [List.getElem?_append_right (by omega), show w1.length + k - w1.length = k by omega]; exact hk)⟩
theorem lw_dpp {A : Nat → Prop} {w1 w2 : va_W} (h : va_D A (w1 ++ w2)) : va_D A w1 ∧ va_D A w2 ∧ lw_ap w2 w1 := by
  have f1 : ∀ (k : Nat) (q : Nat × va_E), w1[k]? = some q → (w1 ++ w2)[k]? = some q := fun k q hk => by rw [List.getElem?_append_left (List.getElem?_eq_some_iff.mp hk).1]; exact hk
  have f2 : ∀ (k : Nat) (q : Nat × va_E), w2[k]? = some q → (w1 ++ w2)[w1.length + k]? = some q := fun k q hk => by rw [List.getElem?_append_right (by omega), show w1.length + k - w1.length = k by omega]; exact hk
  refine ⟨⟨fun i j p q hp hq z => h.1 i j p q (f1 i p hp) (f1 j q hq) z, fun k q hk => h.2 k q (f1 k q hk)⟩, ⟨fun i j p q hp hq z => ?_, fun k q hk => h.2 _ q (f2 k q hk)⟩, fun i j p q hp hq z => ?_⟩
  · have := h.1 _ _ p q (f2 i p hp) (f2 j q hq) z; omega
  · have := h.1 _ _ p q (f2 i p hp) (f1 j q hq) z
    have := (List.getElem?_eq_some_iff.mp hq).1
    omega
/-- a world of one new object -/
theorem lw_w1 {ad0 : Nat → Nat} {tc : Nat → ClassId} {q a : Nat} : am_w (am_ad ad0 0 q) tc [.inr (.inr (a, am_new a))] = [(q, .inr (a, am_new a))] := by
  show [(am_ad ad0 0 q 0, Sum.inr (a, (am_new a).map (am_v _)))] = _
  rw [am_new_v, am_ad_at]
theorem lw_ag1 {ad0 : Nat → Nat} {q a : Nat} : am_ag [] ad0 (am_ad ad0 0 q) [.inr (.inr (a, am_new a))] := ⟨Nat.zero_le _, by show 1 < 100000; decide, fun i hi => by
    have h1 : ¬ i = 0 := by
      rcases hi with z | z
      · exact absurd z (Nat.not_lt_zero _)
      · intro z0; rw [z0] at z; exact absurd z (by show ¬ 1 ≤ 0; decide)
    unfold am_ad; rw [if_neg h1]⟩
theorem lw_ad0 {ad0 : Nat → Nat} {q : Nat} : am_ad ad0 0 q 0 = q := am_ad_at _ _ _
set_option maxHeartbeats 4000000 in
set_option maxRecDepth 100000 in
/-- from the entry, for every script of at most 4096 ints, the law comes to its end with true -/
theorem whole_start {p : Program} {e : Env} {s : State} {m : MethodId} {below : List Frame} {meth : Method} {c : Code} (l : Launch) {b L : Nat} {xs : Nat → Int32} (hL : L ≤ 4096) (C0 : lw_At p s m meth c b L xs) : W p l e room_1 s m #[Value.ref b] below meth c s.heap [] 0 0 (lw_Z below #[Value.ref b] s) (entryFrame m ([Value.ref b] : List Value).toArray 4) := by
  obtain ⟨hx, hb, hr, hml, hown, hts, hX, hbl, hlocks, hgv⟩ := C0
  have hT := lw_T hts
  obtain ⟨ad0, hE⟩ := lw_E hts hgv
  obtain ⟨D, tc, hK⟩ := lw_K hT hE.1.1 hE.1.2
  have C1 : lw_C p s m c b L xs D tc ad0 := ⟨hx, hb, hml, hown, hT, hK, hE, hX, hbl, hL⟩
  have hS : va_S (lw_A s) s.heap s.heap [] := va_S.rf
  have hP : va_P D am_cls [] s.heap := fun k q h => by simp at h
  have hD : va_D (lw_A s) [] := ⟨fun i j p q h => by simp at h, fun k q h => by simp at h⟩
  have hl := lv_entry ([.ref b]) (n := 4) (Nat.le_of_ble_eq_true rfl)
  rw [lg_entry_eq]
  generalize (lg_sl ([.ref b]) ++ List.replicate (4 - (lg_sl ([.ref b])).length) Slot.unset).toArray = ls at hl ⊢
  have hl : lv_has ls 4 [(0, .ref b)] := hl
  obtain ⟨hin, hty, hnm, how, hdf, hdl0⟩ := am_cls_ok 11 (RX11, TX11, 7) rfl
  refine va_new (index := 7) (Ts := am_gt) (ci := 11) (C := RX11) (T := TX11) (N := 7) (fs := am_new 11) hx hb (hT.use _) hin (am_fty 11) hty hown (hT _ lw_cl11 _) (hT _ lw_i11 _) (hT _ lw_in11 _) hK hP hD hS (lw_A0 s) rfl hdf (by decide) (by decide) (by decide +kernel) (fun q1 H hP hD hS => ?_)
  refine W.widen (k := 1) (n := 7) (by decide) (by decide) ?_
  refine lv_dup hx hb (by decide +kernel) rfl ?_
  have hP1 : va_P D am_cls (am_w (am_ad ad0 0 q1) tc [.inr (.inr (11, am_new 11))]) H := by rw [lw_w1]; exact hP
  have hD1 : va_D (lw_A s) (am_w (am_ad ad0 0 q1) tc [.inr (.inr (11, am_new 11))]) := by rw [lw_w1]; exact hD
  suffices hh : W p l e room_1 s m #[Value.ref b] below meth c H [] 1 7 (lw_Z below #[Value.ref b] s) (F0 m 4 ls (.ref (am_ad ad0 0 q1 0) :: [.ref q1])) by
    rw [lw_ad0] at hh; exact hh
  refine lw_cI (mi := mi_X11_init) (ix := 9) (h := [.inr (.inr (11, am_new 11))]) (ad := am_ad ad0 0 q1) (wr := []) C1 li_X11_init.1 rfl rfl li_X11_init.2.1 li_X11_init.2.2 (by decide +kernel) (i_class (by decide)) (Nat.le_of_ble_eq_true rfl) hl.1 (by decide) (by decide) lw_ag1 hP1 hD1 (fun k q h => by simp at h) (fun i j p q _ h => by simp at h) hS (fun r h' ad1 H1 locs1 hq hag1 hP1 hD1 _ _ hS => ?_)
  obtain ⟨rfl, cg, rfl, hC⟩ := hq
  have e1 : ad1 0 = q1 := (hag1.2.2 0 (Or.inl (Nat.zero_lt_succ _))).trans lw_ad0
  have g1 := lw_tr lw_ag1 hag1
  refine lv_astore_n (k := 1) (lv' := [(1, .ref q1), (0, .ref b)]) hx hb (by decide +kernel) rfl hl (by decide) rfl (fun ls hl => ?_)
  obtain ⟨hin, hty, hnm, how, hdf, hdl0⟩ := am_cls_ok 12 (RX12, TX12, 15) rfl
  refine va_new (index := 10) (Ts := am_gt) (ci := 12) (C := RX12) (T := TX12) (N := 15) (fs := am_new 12) hx hb (hT.use _) hin (am_fty 12) hty hown (hT _ lw_cl12 _) (hT _ lw_i12 _) (hT _ lw_in12 _) hK hP1 hD1 hS (lw_A0 s) rfl hdf (by decide) (by decide) (by decide +kernel) (fun q2 H2 hP2 hD2 hS2 => ?_)
  refine W.widen (k := 103) (n := 5958) (by decide) (by decide) ?_
  refine lv_dup hx hb (by decide +kernel) rfl ?_
  obtain ⟨P1, P2⟩ := lw_app hP2
  obtain ⟨D1, D2, ap⟩ := lw_dpp hD2
  rw [← lw_w1 (ad0 := ad0) (tc := tc)] at P2 D2 ap
  suffices hh : W p l e room_1 s m #[Value.ref b] below meth c H2 locs1 103 5958 (lw_Z below #[Value.ref b] s) (F0 m 12 ls (.ref (am_ad ad0 0 q2 0) :: [.ref q2])) by
    rw [lw_ad0] at hh; exact hh
  refine lw_cI (mi := mi_X12_init) (ix := 12) (h := [.inr (.inr (12, am_new 12))]) (ad := am_ad ad0 0 q2) C1 li_X12_init.1 rfl rfl li_X12_init.2.1 li_X12_init.2.2 (by decide +kernel) (i_model (by decide)) (Nat.le_of_ble_eq_true rfl) hl.1 (by decide) (by decide) lw_ag1 P2 D2 P1 ap hS2 (fun r h' ad2 H3 locs3 hq hag2 P2 D2 P1 ap hS => ?_)
  obtain ⟨rfl, rfl⟩ := hq
  have e2 : ad2 0 = q2 := (hag2.2.2 0 (Or.inl (Nat.zero_lt_succ _))).trans lw_ad0
  have g2 := lw_tr lw_ag1 hag2
  refine lv_astore_n (k := 2) (lv' := [(2, .ref q2), (1, .ref q1), (0, .ref b)]) hx hb (by decide +kernel) rfl hl (by decide) rfl (fun ls hl => ?_)
  refine lv_iconst (n := 0) (v := 0) hx hb (by decide +kernel) (by decide) ?_
  refine lv_istore_n (k := 3) (lv' := [(3, .int 0), (2, .ref q2), (1, .ref q1), (0, .ref b)]) hx hb (by decide +kernel) rfl hl (by decide) rfl (fun ls hl => ?_)
  have r1 : rC (fun _ _ => 0) = 77 := if_pos rfl
  have r2 : rS (fun _ _ => 0) = 3284 := if_pos rfl
  exact lw_loop C1 hr hlocks (L + 1) 0 (Nat.zero_le _) (by omega) ls (lv_sub hl [3, 2, 1, 0] (by rw [lw_lv, nI_0]; rfl)) cg _ _ _ H3 locs3 _ _ (REL_0 hC) ⟨ad1, ad2, e1, e2, g1, g2, P1, D1, P2, D2, ap.symm, hS⟩ (by rw [r1]; decide) (by rw [r2]; decide)

