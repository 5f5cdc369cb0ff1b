/-! fields, new cells, a method's end, a method's beginning -/
def am_FL (own : String) (ix a b : Nat) : Prop := ∃ q : vw_C, am_cls[a]? = some q ∧ b < q.2.2 ∧ (Cond.fieldLink own ix q.1 (q.2.1 b).2.1 (q.2.1 b).2.2.1 ∈ am_gt ∨ ∃ host : String, Cond.fieldLinkNest own ix q.1 (q.2.1 b).2.1 (q.2.1 b).2.2.1 host ∈ am_gt)
def am_FP (own name : String) (ix a b : Nat) : Prop := ∃ q : vw_C, am_cls[a]? = some q ∧ b < q.2.2 ∧ ((q.2.1 b).2.2.2 = false ∧ (Cond.fieldLink own ix q.1 (q.2.1 b).2.1 (q.2.1 b).2.2.1 ∈ am_gt ∨ ∃ host : String, Cond.fieldLinkNest own ix q.1 (q.2.1 b).2.1 (q.2.1 b).2.2.1 host ∈ am_gt) ∨ (q.2.1 b).2.2.2 = true ∧ Cond.fieldLink own ix q.1 (q.2.1 b).2.1 (q.2.1 b).2.2.1 ∈ am_gt ∧ name = "<init>" ∧ q.1 = own)
theorem am_fit_ok {ad : Nat → Nat} {ty : FieldType} {v : Value} (h : am_fit ty v) : narrow ty (am_v ad v) = am_v ad v ∧ fits ty (am_v ad v) = true := by
  cases ty <;> cases v <;> first | exact h.elim | exact h | exact ⟨rfl, rfl⟩
def am_ad (ad : Nat → Nat) (n q : Nat) : Nat → Nat := fun i => if i = n then q else ad i
theorem am_ad_at (ad : Nat → Nat) (n q : Nat) : am_ad ad n q n = q := if_pos rfl
theorem am_ad_ne {ad : Nat → Nat} {n q i : Nat} (h : i ≠ n) : am_ad ad n q i = ad i := if_neg h
theorem am_v_nr {ad : Nat → Nat} {n q : Nat} {v : Value} (h : am_nrV n v) : am_v (am_ad ad n q) v = am_v ad v := by
  cases v <;> first | rfl | exact congrArg Value.ref (am_ad_ne h)
theorem am_e_nr {ad : Nat → Nat} {tc : Nat → ClassId} {n q : Nat} {c : am_C} (h : am_nrC n c) : am_e (am_ad ad n q) tc c = am_e ad tc c := by
  match c, h with
  | .inl _, _ => rfl
  | .inr (.inl (t, k, f)), h =>
    have e : (fun j => (f j).map (am_ad ad n q)) = (fun j => (f j).map ad) := by
      funext j
      have hj := h j
      cases hf : f j with
      | none => rfl
      | some i => exact congrArg some (am_ad_ne (fun z => hj (by rw [hf, z])))
    show Sum.inl (_, _, Sum.inr (Sum.inr (Sum.inr (Sum.inr (fun j => (f j).map (am_ad ad n q)))))) = Sum.inl (_, _, Sum.inr (Sum.inr (Sum.inr (Sum.inr (fun j => (f j).map ad)))))
    rw [e]
  | .inr (.inr (ci, fs)), h =>
    show Sum.inr (_, fs.map (am_v (am_ad ad n q))) = Sum.inr (_, fs.map (am_v ad))
    rw [List.map_congr_left (fun v hv => am_v_nr (h v hv))]
theorem am_w_nr {ad : Nat → Nat} {tc : Nat → ClassId} {q : Nat} {h : am_H} {c : am_C} (hr : ∀ c ∈ h, am_nrC h.length c) : am_w (am_ad ad h.length q) tc (h ++ [c]) = am_w ad tc h ++ [(q, am_e (am_ad ad h.length q) tc c)] := by
  apply List.ext_getElem?
  intro j
  by_cases hj : j < h.length
  · rw [List.getElem?_append_left (by rw [am_w_len]; exact hj)]
    simp only [am_w, List.getElem?_mapIdx, List.getElem?_append_left hj, List.getElem?_eq_getElem hj, Option.map_some]
    rw [am_ad_ne (by omega), am_e_nr (hr _ (List.getElem_mem hj))]
  · rw [List.getElem?_append_right (by rw [am_w_len]; omega), am_w_len]
    simp only [am_w, List.getElem?_mapIdx]
    rw [List.getElem?_append_right (by omega)]
    by_cases hz : j = h.length
    · subst hz
      simp [am_ad_at]
    · have h1 : ¬ j - h.length = 0 := by omega
      rw [List.getElem?_eq_none (by simp; omega), List.getElem?_eq_none (by simp; omega)]
      rfl
theorem am_al_nr {ad : Nat → Nat} {n q : Nat} : ∀ (ls : am_L) (i : Nat), (∀ v, some v ∈ ls → am_nrV n v) → am_al (am_ad ad n q) i ls = am_al ad i ls
  | [], _, _ => rfl
  | none :: l, i, h => am_al_nr l (i + 1) (fun v hv => h v (List.mem_cons_of_mem _ hv))
  | some v :: l, i, h => by
    rw [am_al, am_al, am_v_nr (h v List.mem_cons_self), am_al_nr l (i + 1) (fun v hv => h v (List.mem_cons_of_mem _ hv))]
theorem am_ac_int : Cond.arrayClass .int ∈ am_gt := by decide +kernel
theorem am_ac_byte : Cond.arrayClass .byte ∈ am_gt := by decide +kernel
theorem am_ac_boolean : Cond.arrayClass .boolean ∈ am_gt := by decide +kernel
theorem am_new_v (ad : Nat → Nat) (a : Nat) : (am_new a).map (am_v ad) = am_new a := by unfold am_new; split <;> rfl
section AMM
variable {mi : am_MI} {d : Nat} {Q : Option Value → am_H → Prop} {kc ks pc : Nat} {ls : am_L} {st : List Value} {h : am_H}
theorem am_s_get {ix a b o : Nat} {fs : List Value} {v : Value} (hF : am_FL (am_y mi).cls ix a b) (hc : am_nth h o = some (.inr (.inr (a, fs)))) (hv : am_nth fs b = some v) (hd : decode (am_code mi) pc = .ok (.getfield ix, 3)) (hk : am_W mi d Q kc ks (pc + 3) ls (v :: st) h) : am_W mi d Q kc ks pc ls (.ref o :: st) h := by
  intro p l e R s m args below meth c D tc ad ad0 h0 A H locs cells slots mc ms lsC hX hE hA hG hag hP hD hS hl
  obtain ⟨⟨C, T, N⟩, hq, hb, hlk⟩ := hF
  obtain ⟨hin, hty, hnm, how, -, -⟩ := am_cls_ok a _ hq
  have hT := hX.2.2.2.2.2.2.2.1
  have hv' : (fs.map (am_v ad))[b]? = some (am_v ad v) := by rw [am_nth_eq] at hv; simp [hv]
  have hsame : ∀ x, s.fieldFound? (T b).1 (T b).2.1 (T b).2.2.1 = some x → s.fieldFound? C (T b).2.1 (T b).2.2.1 = some x := by rw [how b hb]; exact fun _ z => z
  rcases hlk with hlk | ⟨host, hlk⟩
  · exact va_get (Ts := am_gt) hX.1 hX.2.1 (hT.use args) hin hX.2.2.2.2.1 hX.2.2.2.2.2.2.2.2 hP o (am_w_at hc) hq b hb (hT _ hlk args) hsame hv' hd (hk p l e R s m args below meth c D tc ad ad0 h0 A H locs cells slots mc ms lsC hX hE hA hG hag hP hD hS hl)
  · exact va_getN (Ts := am_gt) hX.1 hX.2.1 (hT.use args) hin hX.2.2.2.2.1 hX.2.2.2.2.2.2.2.2 hP o (am_w_at hc) hq b hb (hT _ hlk args) hsame hv' hd (hk p l e R s m args below meth c D tc ad ad0 h0 A H locs cells slots mc ms lsC hX hE hA hG hag hP hD hS hl)
theorem am_fs_put {ad : Nat → Nat} {fs : List Value} {b : Nat} {v : Value} : (am_put fs b v).map (am_v ad) = (fs.map (am_v ad)).set b (am_v ad v) := by
  rw [am_put_eq, List.map_set]
theorem am_s_put {ix a b o : Nat} {fs : List Value} {v : Value} (hF : am_FP (am_y mi).cls (am_y mi).name ix a b) (hc : am_nth h o = some (.inr (.inr (a, fs)))) (hbl : b < fs.length) (hfit : am_fit (am_fty a b) v) (hd : decode (am_code mi) pc = .ok (.putfield ix, 3)) (hk : am_W mi d Q kc ks (pc + 3) ls st (am_put h o (.inr (.inr (a, am_put fs b v))))) : am_W mi d Q kc ks pc ls (v :: .ref o :: st) h := by
  intro p l e R s m args below meth c D tc ad ad0 h0 A H locs cells slots mc ms lsC hX hE hA hG hag hP hD hS hl
  obtain ⟨⟨C, T, N⟩, hq, hb, hlk⟩ := hF
  obtain ⟨hin, hty, hnm, how, -, -⟩ := am_cls_ok a _ hq
  have hT := hX.2.2.2.2.2.2.2.1
  obtain ⟨hf1, hf2⟩ := am_fit_ok (ad := ad) hfit
  have hsame : ∀ x, s.fieldFound? (T b).1 (T b).2.1 (T b).2.2.1 = some x → s.fieldFound? C (T b).2.1 (T b).2.2.1 = some x := by rw [how b hb]; exact fun _ z => z
  have key : ∀ (H1 : Heap) (locs1 : List Loc), va_P D am_cls ((am_w ad tc h).set o (ad o, .inr (a, (fs.map (am_v ad)).set b (am_v ad v)))) H1 → va_D A ((am_w ad tc h).set o (ad o, .inr (a, (fs.map (am_v ad)).set b (am_v ad v)))) → va_S A s.heap H1 locs1 → W p l e R s m args below meth c H1 locs1 cells slots (MQ below (am_Q D tc A h0 ad0 Q) args s mc ms A) (F0 m (pc + 3) lsC (st.map (am_v ad))) := by
    intro H1 locs1 hP1 hD1 hS1
    rw [← am_fs_put] at hP1 hD1
    exact hk p l e R s m args below meth c D tc ad ad0 h0 A H1 locs1 cells slots mc ms lsC hX hE hA hG ⟨by rw [am_put_len]; exact hag.1, by rw [am_put_len]; exact hag.2.1, by rw [am_put_len]; exact hag.2.2⟩ (by rw [am_w_put]; exact hP1) (by rw [am_w_put]; exact hD1) hS1 hl
  have hbl' : b < (fs.map (am_v ad)).length := by rw [List.length_map]; exact hbl
  rcases hlk with ⟨hfin, hlk | ⟨host, hlk⟩⟩ | ⟨hfin, hlk, hnam, hcc⟩
  · exact va_put (Ts := am_gt) hX.1 hX.2.1 (hT.use args) hin (am_fty a) hty hnm hX.2.2.2.2.1 hX.2.2.2.2.2.2.2.2 hP hD hS o (am_w_at hc) hq b hb (hT _ hlk args) hsame hfin (hty b hb) hf1 hf2 hbl' hd key
  · exact va_putN (Ts := am_gt) hX.1 hX.2.1 (hT.use args) hin (am_fty a) hty hnm hX.2.2.2.2.1 hX.2.2.2.2.2.2.2.2 hP hD hS o (am_w_at hc) hq b hb (hT _ hlk args) hsame hfin (hty b hb) hf1 hf2 hbl' hd key
  · exact va_putF (Ts := am_gt) hX.1 hX.2.1 (hT.use args) hin (am_fty a) hty hnm hX.2.2.2.2.1 hX.2.2.2.2.2.2.2.2 hP hD hS o (am_w_at hc) hq b hb (hT _ hlk args) hsame hfin (hX.2.2.2.2.2.2.1.trans hnam) ((how b hb).trans hcc) (hty b hb) hf1 hf2 hbl' hd key
theorem am_ag_new {h0 : am_H} {ad0 ad : Nat → Nat} {q : Nat} {c : am_C} (hag : am_ag h0 ad0 ad h) (hl : h.length + 1 < 100000) : am_ag h0 ad0 (am_ad ad h.length q) (h ++ [c]) := by
  obtain ⟨h1, h2, h3⟩ := hag
  refine ⟨by simp; omega, by simp; omega, fun i hi => ?_⟩
  simp at hi
  rw [am_ad_ne (by omega)]
  exact h3 i (by omega)
theorem am_s_new {ix a : Nat} (hN : ∃ q : vw_C, am_cls[a]? = some q ∧ Cond.classLink (am_y mi).cls ix q.1 ∈ am_gt ∧ Cond.instantiable q.1 q.2.2 ∈ am_gt ∧ Cond.initialized q.1 ∈ am_gt) (hkc : 1 ≤ kc) (hks : (am_new a).length ≤ ks) (hlen : h.length + 1 < 100000) (hnr : am_nr h.length ls st h) (hd : decode (am_code mi) pc = .ok (.new ix, 3)) (hk : am_W mi d Q (kc - 1) (ks - (am_new a).length) (pc + 3) ls (.ref h.length :: st) (h ++ [.inr (.inr (a, am_new a))])) : am_W mi d Q kc ks pc ls st h := by
  intro p l e R s m args below meth c D tc ad ad0 h0 A H locs cells slots mc ms lsC hX hE hA hG hag hP hD hS hl
  obtain ⟨⟨C, T, N⟩, hq, hw1, hw2, hw3⟩ := hN
  obtain ⟨hin, hty, hnm, how, hdf, hdl0⟩ := am_cls_ok a _ hq
  have hdl : (am_new a).length = N := hdl0
  have hT := hX.2.2.2.2.2.2.2.1
  obtain ⟨g1, g2, g3, g4, g5, g6⟩ := hG
  refine va_new (Ts := am_gt) (fs := am_new a) hX.1 hX.2.1 (hT.use args) hin (am_fty a) hty hX.2.2.2.2.1 (hT _ hw1 args) (hT _ hw2 args) (hT _ hw3 args) hX.2.2.2.2.2.2.2.2 hP hD hS hA hq hdf (by omega) (by show slots + N ≤ R.slots; omega) hd (fun q H1 hP1 hD1 hS1 => ?_)
  have e1 : am_w (am_ad ad h.length q) tc (h ++ [.inr (.inr (a, am_new a))]) = am_w ad tc h ++ [(q, .inr (a, am_new a))] := by
    rw [am_w_nr hnr.2.2]
    show _ ++ [(q, Sum.inr (a, (am_new a).map (am_v _)))] = _
    rw [am_new_v]
  have e2 : (Value.ref h.length :: st).map (am_v (am_ad ad h.length q)) = .ref q :: st.map (am_v ad) := by
    rw [List.map_cons, List.map_congr_left (fun v hv => am_v_nr (hnr.2.1 v hv))]
    show Value.ref (am_ad ad h.length q h.length) :: _ = _
    rw [am_ad_at]
  rw [← e1] at hP1 hD1
  rw [← e2]
  exact hk p l e R s m args below meth c D tc (am_ad ad h.length q) ad0 h0 A H1 locs (cells + 1) (slots + N) mc ms lsC hX hE hA ⟨g1, g2, by omega, by omega, g5, g6⟩ (am_ag_new hag hlen) hP1 hD1 hS1 (by unfold am_lv; rw [am_al_nr ls 0 hnr.1]; exact hl)
theorem am_arr_eq {s : State} {D : va_G} {cl : List vw_C} {tc : Nat → ClassId} {cA : ClassId} {a : Nat} {ty : FieldType} (hK : va_K D cl (am_tys tc) s) (hK1 : va_K D cl (am_tys tc ++ [(cA, ty)]) s) (ha : (am_tys tc)[a]? = some (tc a, ty)) : cA = tc a := by
  have h1 := (hK1.2 5 (cA, ty) rfl).2
  have h2 := (hK.2 a (tc a, ty) ha).2
  cases ty with
  | object C =>
    obtain ⟨_, _, _, _, _, q1⟩ := h1
    obtain ⟨_, _, _, _, _, q2⟩ := h2
    exact Option.some.inj (q1.symm.trans q2)
  | _ => exact Option.some.inj (h1.symm.trans h2)
theorem am_s_newa {a : Nat} {at' : ArrayType} {n : Int32} (ha : a = 0 ∧ at' = .int ∨ a = 1 ∧ at' = .byte ∨ a = 2 ∧ at' = .boolean) (hkc : 1 ≤ kc) (hks : n.toNatClampNeg ≤ ks) (hn : ¬ n < 0) (hb : n.toNatClampNeg < 100000) (hlen : h.length + 1 < 100000) (hnr : am_nr h.length ls st h) (hd : decode (am_code mi) pc = .ok (.newarray at', 2)) (hk : am_W mi d Q (kc - 1) (ks - n.toNatClampNeg) (pc + 2) ls (.ref h.length :: st) (h ++ [.inl (a, n.toNatClampNeg, fun _ => 0)])) : am_W mi d Q kc ks pc ls (.int n :: st) h := by
  intro p l e R s m args below meth c D tc ad ad0 h0 A H locs cells slots mc ms lsC hX hE hA hG hag hP hD hS hl
  have hT := hX.2.2.2.2.2.2.2.1
  have hK := hX.2.2.2.2.2.2.2.2
  obtain ⟨g1, g2, g3, g4, g5, g6⟩ := hG
  have fin : ∀ (q : Nat) (H1 : Heap), va_P D am_cls (am_w ad tc h ++ [(q, .inl (tc a, n.toNatClampNeg, .inl (fun _ => 0)))]) H1 → va_D A (am_w ad tc h ++ [(q, .inl (tc a, n.toNatClampNeg, .inl (fun _ => 0)))]) → va_S A s.heap H1 locs → W p l e R s m args below meth c H1 locs (cells + 1) (slots + n.toNatClampNeg) (MQ below (am_Q D tc A h0 ad0 Q) args s mc ms A) (F0 m (pc + 2) lsC (.ref q :: st.map (am_v ad))) := by
    intro q H1 hP1 hD1 hS1
    have e1 : am_w (am_ad ad h.length q) tc (h ++ [.inl (a, n.toNatClampNeg, fun _ => 0)]) = am_w ad tc h ++ [(q, .inl (tc a, n.toNatClampNeg, .inl (fun _ => 0)))] := am_w_nr hnr.2.2
    have e2 : (Value.ref h.length :: st).map (am_v (am_ad ad h.length q)) = .ref q :: st.map (am_v ad) := by
      rw [List.map_cons, List.map_congr_left (fun v hv => am_v_nr (hnr.2.1 v hv))]
      show Value.ref (am_ad ad h.length q h.length) :: _ = _
      rw [am_ad_at]
    rw [← e1] at hP1 hD1
    rw [← e2]
    exact hk p l e R s m args below meth c D tc (am_ad ad h.length q) ad0 h0 A H1 locs (cells + 1) (slots + n.toNatClampNeg) mc ms lsC hX hE hA ⟨g1, g2, by omega, by omega, g5, g6⟩ (am_ag_new hag hlen) hP1 hD1 hS1 (by unfold am_lv; rw [am_al_nr ls 0 hnr.1]; exact hl)
  rcases ha with ⟨rfl, rfl⟩ | ⟨rfl, rfl⟩ | ⟨rfl, rfl⟩
  · exact va_newa (atype := .int) (ty := .int) hX.1 hX.2.1 (hT (.arrayClass .int) am_ac_int args) rfl hK hP hD hS hA (a0 := (n.toNatClampNeg, .inl (fun _ => 0))) (fun _ => rfl) hn rfl (show n.toNatClampNeg * 4 ≤ 536870912 by omega) (by omega) (by omega) hd (fun q cA H1 hK1 hP1 hD1 hS1 => by rw [am_arr_eq hK hK1 (a := 0) rfl] at hP1 hD1; exact fin q H1 hP1 hD1 hS1)
  · exact va_newa (atype := .byte) (ty := .byte) hX.1 hX.2.1 (hT (.arrayClass .byte) am_ac_byte args) rfl hK hP hD hS hA (a0 := (n.toNatClampNeg, .inl (fun _ => 0))) (fun _ => rfl) hn rfl (show n.toNatClampNeg * 1 ≤ 536870912 by omega) (by omega) (by omega) hd (fun q cA H1 hK1 hP1 hD1 hS1 => by rw [am_arr_eq hK hK1 (a := 1) rfl] at hP1 hD1; exact fin q H1 hP1 hD1 hS1)
  · exact va_newa (atype := .boolean) (ty := .boolean) hX.1 hX.2.1 (hT (.arrayClass .boolean) am_ac_boolean args) rfl hK hP hD hS hA (a0 := (n.toNatClampNeg, .inl (fun _ => 0))) (fun _ => rfl) hn rfl (show n.toNatClampNeg * 1 ≤ 536870912 by omega) (by omega) (by omega) hd (fun q cA H1 hK1 hP1 hD1 hS1 => by rw [am_arr_eq hK hK1 (a := 2) rfl] at hP1 hD1; exact fin q H1 hP1 hD1 hS1)
theorem am_s_newq {a ix : Nat} {n : Int32} (ha : a = 3 ∧ Cond.classLink (am_y mi).cls ix "DeedProofs$Text" ∈ am_gt ∨ a = 4 ∧ Cond.classLink (am_y mi).cls ix "DeedProofs$Line" ∈ am_gt) (hkc : 1 ≤ kc) (hks : n.toNatClampNeg ≤ ks) (hn : ¬ n < 0) (hb : n.toNatClampNeg < 100000) (hlen : h.length + 1 < 100000) (hnr : am_nr h.length ls st h) (hd : decode (am_code mi) pc = .ok (.anewarray ix, 3)) (hk : am_W mi d Q (kc - 1) (ks - n.toNatClampNeg) (pc + 3) ls (.ref h.length :: st) (h ++ [.inr (.inl (a, n.toNatClampNeg, fun _ => none))])) : am_W mi d Q kc ks pc ls (.int n :: st) h := by
  intro p l e R s m args below meth c D tc ad ad0 h0 A H locs cells slots mc ms lsC hX hE hA hG hag hP hD hS hl
  have hT := hX.2.2.2.2.2.2.2.1
  have hK := hX.2.2.2.2.2.2.2.2
  obtain ⟨g1, g2, g3, g4, g5, g6⟩ := hG
  have fin : ∀ (q : Nat) (H1 : Heap), va_P D am_cls (am_w ad tc h ++ [(q, .inl (tc a, n.toNatClampNeg, .inr (.inr (.inr (.inr (fun _ => none))))))]) H1 → va_D A (am_w ad tc h ++ [(q, .inl (tc a, n.toNatClampNeg, .inr (.inr (.inr (.inr (fun _ => none))))))]) → va_S A s.heap H1 locs → W p l e R s m args below meth c H1 locs (cells + 1) (slots + n.toNatClampNeg) (MQ below (am_Q D tc A h0 ad0 Q) args s mc ms A) (F0 m (pc + 3) lsC (.ref q :: st.map (am_v ad))) := by
    intro q H1 hP1 hD1 hS1
    have e1 : am_w (am_ad ad h.length q) tc (h ++ [.inr (.inl (a, n.toNatClampNeg, fun _ => none))]) = am_w ad tc h ++ [(q, .inl (tc a, n.toNatClampNeg, .inr (.inr (.inr (.inr (fun _ => none))))))] := am_w_nr hnr.2.2
    have e2 : (Value.ref h.length :: st).map (am_v (am_ad ad h.length q)) = .ref q :: st.map (am_v ad) := by
      rw [List.map_cons, List.map_congr_left (fun v hv => am_v_nr (hnr.2.1 v hv))]
      show Value.ref (am_ad ad h.length q h.length) :: _ = _
      rw [am_ad_at]
    rw [← e1] at hP1 hD1
    rw [← e2]
    exact hk p l e R s m args below meth c D tc (am_ad ad h.length q) ad0 h0 A H1 locs (cells + 1) (slots + n.toNatClampNeg) mc ms lsC hX hE hA ⟨g1, g2, by omega, by omega, g5, g6⟩ (am_ag_new hag hlen) hP1 hD1 hS1 (by unfold am_lv; rw [am_al_nr ls 0 hnr.1]; exact hl)
  rcases ha with ⟨rfl, hw⟩ | ⟨rfl, hw⟩
  · exact va_newq hX.1 hX.2.1 hX.2.2.2.2.1 (hT _ hw args) hE.1.1 hK hP hD hS hA hn rfl (by omega) (by omega) (by omega) hd (fun q cA H1 hK1 hP1 hD1 hS1 => by rw [am_arr_eq hK hK1 (a := 3) rfl] at hP1 hD1; exact fin q H1 hP1 hD1 hS1)
  · exact va_newq hX.1 hX.2.1 hX.2.2.2.2.1 (hT _ hw args) hE.1.2 hK hP hD hS hA hn rfl (by omega) (by omega) (by omega) hd (fun q cA H1 hK1 hP1 hD1 hS1 => by rw [am_arr_eq hK hK1 (a := 4) rfl] at hP1 hD1; exact fin q H1 hP1 hD1 hS1)
theorem am_s_iret {v : Int32} {ty : FieldType} (hr : am_ret mi = some ty) (hn : narrow ty (.int v) = .int v) (hd : decode (am_code mi) pc = .ok (.ireturn, 1)) (hQ : Q (some (.int v)) h) : am_W mi d Q kc ks pc ls [.int v] h := by
  intro p l e R s m args below meth c D tc ad ad0 h0 A H locs cells slots mc ms lsC hX hE hA hG hag hP hD hS hl
  obtain ⟨g1, g2, g3, g4, g5, g6⟩ := hG
  have hlocks : meth.locks = false := hX.2.2.2.2.2.1
  refine W.widen (k := mc) (n := ms) (by omega) (by omega) ?_
  exact W.zret hX.1 hX.2.1 (hX.2.2.1.trans hr) hn (fun t ht hW => ⟨⟨some (.int v), h, ad, rfl, hQ, hag, by rw [ht]; exact hP, va_K.moved hW.alike hX.2.2.2.2.2.2.2.2, hD⟩, hS.F ht⟩) hS.2.2 hd
theorem am_s_aret {o : Nat} {rt : FieldType} (hr : am_ret mi = some rt) (hrt : (∃ n, rt = .object n) ∨ ∃ t, rt = .array t) (hd : decode (am_code mi) pc = .ok (.areturn, 1)) (hQ : Q (some (.ref o)) h) : am_W mi d Q kc ks pc ls [.ref o] h := by
  intro p l e R s m args below meth c D tc ad ad0 h0 A H locs cells slots mc ms lsC hX hE hA hG hag hP hD hS hl
  obtain ⟨g1, g2, g3, g4, g5, g6⟩ := hG
  have hlocks : meth.locks = false := hX.2.2.2.2.2.1
  refine W.widen (k := mc) (n := ms) (by omega) (by omega) ?_
  exact W.aret hX.1 hX.2.1 (hX.2.2.1.trans hr) hrt (Or.inr ⟨_, rfl⟩) (fun t ht hW => ⟨⟨some (.ref o), h, ad, rfl, hQ, hag, by rw [ht]; exact hP, va_K.moved hW.alike hX.2.2.2.2.2.2.2.2, hD⟩, hS.F ht⟩) hS.2.2 hd
theorem am_s_vret (hr : am_ret mi = none) (hd : decode (am_code mi) pc = .ok (.return_, 1)) (hQ : Q none h) : am_W mi d Q kc ks pc ls [] h := by
  intro p l e R s m args below meth c D tc ad ad0 h0 A H locs cells slots mc ms lsC hX hE hA hG hag hP hD hS hl
  obtain ⟨g1, g2, g3, g4, g5, g6⟩ := hG
  have hlocks : meth.locks = false := hX.2.2.2.2.2.1
  refine W.widen (k := mc) (n := ms) (by omega) (by omega) ?_
  exact W.vret hX.1 hX.2.1 (hX.2.2.1.trans hr) (fun t ht hW => ⟨⟨none, h, ad, rfl, hQ, hag, by rw [ht]; exact hP, va_K.moved hW.alike hX.2.2.2.2.2.2.2.2, hD⟩, hS.F ht⟩) hS.2.2 hd
end AMM
theorem am_al_nones {ad : Nat → Nat} : ∀ (k i : Nat), am_al ad i (am_nones k) = []
  | 0, _ => rfl
  | k + 1, i => am_al_nones k (i + 1)
theorem am_al_in {ad : Nat → Nat} (k : Nat) : ∀ (args : List Value) (i : Nat), am_al ad i (am_in args ++ am_nones k) = lv_args i (args.map (am_v ad))
  | [], i => am_al_nones k i
  | v :: l, i => by
    cases v <;> simp [am_in, am_al, lv_args, am_v, Value.category, am_al_in k l]
theorem am_in_len {ad : Nat → Nat} : ∀ (args : List Value), (lg_sl (args.map (am_v ad))).length = (am_in args).length
  | [] => rfl
  | v :: l => by
    have h := am_in_len (ad := ad) l
    have e : ∀ (w : Value) (ws : List Value), lg_sl (w :: ws) = (if w.category = 2 then [.val w, .second] else [.val w]) ++ lg_sl ws := fun w ws => by simp [lg_sl]
    rw [List.map_cons, e, List.length_append, h]
    cases v <;> simp [am_in, am_v, Value.category] <;> omega
/-- a method's beginning -/
theorem am_Met.of {mi : am_MI} {d kc ks : Nat} {args : List Value} {h : am_H} {Q : Option Value → am_H → Prop} (hy : plainName (am_y mi).cls = true) (hl : (am_in args).length ≤ am_mL mi) (hw : am_W mi d Q kc ks 0 (am_ent (am_mL mi) args) [] h) : am_Met mi d kc ks args h Q := by
  intro l D tc ad sz
  refine Met.ofW (cc := am_code mi) (maxL := am_mL mi) (ret := am_ret mi) hy rfl ?_
  intro p e s m args' below meth c s₁ B hml hv
  obtain ⟨rfl, hsz, hT, hE, hP, hK, hD0, hlen⟩ := hv
  subst hsz
  have hlv := lv_entry (args.map (am_v ad)) (n := am_mL mi) (by rw [am_in_len]; exact hl)
  rw [lg_entry_eq]
  refine hw p l e _ s m _ below meth c D tc ad ad h (va_A (am_w ad tc h) s.heap.size) s.heap [] 0 0 kc ks _ ⟨B.exec, B.bytes, B.returns, hml, findClass_of_methodNamed B.named, B.notSynchronized, (name_of_methodNamed B.named B.method).1, hT, hK⟩ hE (fun q hq => Or.inr hq) ⟨Nat.le_refl _, Nat.le_refl _, by omega, by omega, Nat.le_refl _, Nat.le_refl _⟩ ⟨Nat.le_refl _, hlen, fun _ _ => rfl⟩ hP hD0.self va_S.rf ?_
  unfold am_lv am_ent
  rw [am_al_in]
  exact hlv
