/-! CALLS: any of them runs by the callee's contract; the whole world goes along -/
theorem am_blind {D : va_G} {tc ad : Nat → Nat} {h : am_H} {sz : Nat} {av : List Value} : FrameBlind (va_Pc av (am_Pre D tc ad h sz)) := by
  intro a U g mk q
  obtain ⟨q0, q1, q2, q3, q4, q5, q6, q7⟩ := q
  exact ⟨q0, q1, am_T.warm (U := U.calling g mk a) (State.WarmedH.refl U) q2, am_Ev.warm (U := U.calling g mk a) (State.WarmedH.refl U) q3, q4, va_K.moved (u := U) (U := U.calling g mk a) (Vm.Alike.refl U.vm) q5, q6, q7⟩
theorem am_wA {D : va_G} {tc ad : Nat → Nat} {h : am_H} {A : Nat → Prop} {s : State} {H : Heap} {locs : List Loc} (hA : ∀ q, s.heap.size ≤ q → A q) (hD : va_D A (am_w ad tc h)) (hS : va_S A s.heap H locs) : ∀ q, va_A (am_w ad tc h) H.size q → A q := by
  rintro q (⟨k, e, hk⟩ | hq)
  · exact hD.2 k _ hk
  · exact hA q (Nat.le_trans hS.1 hq)
theorem am_pre_ok {D : va_G} {tc ad ad0 : Nat → Nat} {h h0 : am_H} {A : Nat → Prop} {s U : State} {H : Heap} {locs : List Loc} (hT : am_T s) (hK : va_K D am_cls (am_tys tc) s) (hE : am_Ev ad0 A s s.heap) (hA : ∀ q, s.heap.size ≤ q → A q) (hag : am_ag h0 ad0 ad h) (hP : va_P D am_cls (am_w ad tc h) H) (hD : va_D A (am_w ad tc h)) (hS : va_S A s.heap H locs) (hU : U.heap = H) (hW : s.WarmedH U.vm) : am_Pre D tc ad h H.size U := by
  have hF := am_wA (D := D) hA hD hS
  refine ⟨by rw [hU], hT.warm hW, ?_, by rw [hU]; exact hP, va_K.moved hW.alike hK, hD.weaken (fun _ _ _ _ => trivial), hag.2.1⟩
  rw [hU]
  exact ((hE.kept hS.2.1).narrow hF).warm hW |>.ads (fun i hi => hag.2.2 i (Or.inr (by have := hag.2.1; omega)))
theorem am_al_ns {ad ad' : Nat → Nat} {lo hi : Nat} (e : ∀ i, (i < lo ∨ hi ≤ i) → ad' i = ad i) : ∀ (ls : am_L) (i : Nat), (∀ v, some v ∈ ls → am_nsV lo hi v) → am_al ad' i ls = am_al ad i ls
  | [], _, _ => rfl
  | none :: l, i, h => am_al_ns e l (i + 1) (fun v hv => h v (List.mem_cons_of_mem _ hv))
  | some v :: l, i, h => by
    have hv := h v List.mem_cons_self
    have e1 : am_v ad' v = am_v ad v := by
      cases v <;> first | rfl | exact congrArg Value.ref (e _ hv)
    rw [am_al, am_al, e1, am_al_ns e l (i + 1) (fun v hv => h v (List.mem_cons_of_mem _ hv))]
theorem am_run_go {mi : am_MI} {d : Nat} {Q P : Option Value → am_H → Prop} {kc ks kc' ks' pc : Nat} {ls : am_L} {rest : List Value} {h h0 : am_H} {p : Program} {l : Launch} {e : Env} {R : Room} {s : State} {m : MethodId} {args : Array Value} {below : List Frame} {meth : Method} {c : Code} {D : va_G} {tc : Nat → ClassId} {ad ad0 : Nat → Nat} {A : Nat → Prop} {H : Heap} {locs : List Loc} {cells slots mc ms : Nat} {lsC : Array Slot} {st0 : List Value} {av : Array Value}
    (hX : am_X p s m meth c mi D tc) (hE : am_Ev ad0 A s s.heap) (hA : ∀ q, s.heap.size ≤ q → A q) (hG : am_G d kc ks cells slots mc ms R) (hag : am_ag h0 ad0 ad h) (hD : va_D A (am_w ad tc h)) (hS : va_S A s.heap H locs) (hl : am_lv ad ls (am_mL mi) lsC) (hkc : kc' ≤ kc) (hks : ks' ≤ ks)
    (hr : va_Run p l e R s m args below meth c H locs cells slots kc' ks' (F0 m pc lsC st0) (rest.map (am_v ad)) (am_Q D tc (va_A (am_w ad tc h) H.size) h ad P av) (va_A (am_w ad tc h) H.size))
    (hgo : ∀ (r : Option Value) (h' : am_H), P r h' → (h'.length = h.length ∨ am_ns h.length h'.length ls rest) ∧ am_W mi d Q (kc - kc') (ks - ks') (pc + 3) ls (r.toList ++ rest) h') :
    W p l e R s m args below meth c H locs cells slots (MQ below (am_Q D tc A h0 ad0 Q) args s mc ms A) (F0 m pc lsC st0) := by
  intro T hT X
  obtain ⟨v, st₀, t, T', L, h0', X', hL, e1, e2, ⟨⟨r, h', ad', hv, hp, hag', hP', hK', hD'⟩, hz, hk⟩, stp⟩ := hr T hT X
  cases hv
  rw [h0'] at hz hk
  have hF := am_wA (D := D) hA hD hS
  have hS' : va_S A s.heap T'.heap (locs ++ L) := ⟨Nat.le_trans hS.1 (by rw [e1]; exact hz), fun q h1 h2 => by rw [e1, hk q (Nat.lt_of_lt_of_le h1 hS.1) (fun z => h2 (hF q z))]; exact hS.2.1 q h1 h2, fun q hq => by
      rcases List.mem_append.mp hq with h | h
      · exact hS.2.2 q h
      · exact hF _ (hL q h)⟩
  obtain ⟨hns, hw⟩ := hgo r h' hp
  have hsame : am_al ad' 0 ls = am_al ad 0 ls ∧ rest.map (am_v ad') = rest.map (am_v ad) := by
    rcases hns with hns | hns
    · have e3 : ad' = ad := funext fun i => hag'.2.2 i (by omega)
      rw [e3]; exact ⟨rfl, rfl⟩
    · refine ⟨am_al_ns hag'.2.2 ls 0 hns.1, List.map_congr_left fun v hv => ?_⟩
      have h1 := hns.2 v hv
      cases v <;> first | rfl | exact congrArg Value.ref (hag'.2.2 _ h1)
  have hlv' : am_lv ad' ls (am_mL mi) lsC := by unfold am_lv; rw [hsame.1]; exact hl
  have hst : (r.toList ++ rest).map (am_v ad') = (r.map (am_v ad')).toList ++ rest.map (am_v ad) := by
    rw [List.map_append, hsame.2]; cases r <;> rfl
  obtain ⟨g1, g2, g3, g4, g5, g6⟩ := hG
  have hag2 : am_ag h0 ad0 ad' h' := ⟨Nat.le_trans hag.1 hag'.1, hag'.2.1, fun i hi => by
    have a1 := hag.1
    have a2 := hag'.1
    rw [hag'.2.2 i (by omega), hag.2.2 i (by omega)]⟩
  obtain ⟨t2, a1, b1⟩ := hw p l e R s m args below meth c D tc ad' ad0 h0 A T'.heap (locs ++ L) (cells + kc') (slots + ks') mc ms lsC hX hE hA ⟨g1, g2, by omega, by omega, g5, g6⟩ hag2 (by rw [e1]; exact hP') (hD'.weaken (fun _ _ _ z => hF _ z)) hS' hlv' T' rfl X'
  rw [hst] at a1
  exact ⟨t2, stp t2 a1, b1⟩
/-- what the tables say of a callee -/
def am_ML (mi : am_MI) (b : Nat) : Prop := Cond.code (am_y mi) (am_code mi) (am_mL mi) (am_ret mi) ∈ am_gt ∧ Cond.initialized (am_y mi).cls ∈ am_gt ∧ ((am_y mi).cls ≠ "java/lang/invoke/MethodHandle" ∧ (am_y mi).cls ≠ "java/lang/invoke/VarHandle") ∧ (parseMethodDescriptor (am_y mi).desc).map (fun d => d.parameters.length) = some b ∧ am_mL mi ≤ 45
theorem am_pars {desc : String} {b : Nat} (h : (parseMethodDescriptor desc).map (fun d => d.parameters.length) = some b) : ∀ sig, parseMethodDescriptor desc = some sig → b = sig.parameters.length := by
  intro sig hs
  rw [hs] at h
  exact (Option.some.inj h).symm
theorem am_cb {mi : am_MI} {b d d' kc' ks' : Nat} {R : Room} {s : State} {args : Array Value} {own : String} {ix : Nat} (hM : am_ML mi b) (hT : am_T s) (hd : d' + 1 ≤ d) (h1 : d ≤ R.frames) (h2 : 64 * d ≤ R.locals) (hlk : (Cond.methodLink own ix (am_y mi)).before args s = true) :
    CallB R s args own ix (am_y mi) (am_code mi) (am_mL mi) (am_ret mi) (am_ws mi) (am_R d' kc' ks') kc' ks' b := by
  obtain ⟨m1, m2, m3, m4, m5⟩ := hM
  refine ⟨rfl, rfl, ?_, ?_, ?_, List.mem_cons_self, hT _ m1 args, hT _ m2 args, m3, am_pars m4, hlk⟩
  · show d' + 1 ≤ R.frames; omega
  · show 8 + (am_mL mi + 11) + 64 * d' ≤ R.locals; omega
  · intro w hw a' U hW
    cases List.mem_singleton.mp hw
    exact hT.warm hW _ m1 a'
theorem am_cn {mi : am_MI} {b d d' kc' ks' : Nat} {R : Room} {s : State} {args : Array Value} {own host : String} {ix : Nat} (hM : am_ML mi b) (hT : am_T s) (hd : d' + 1 ≤ d) (h1 : d ≤ R.frames) (h2 : 64 * d ≤ R.locals) (hlk : (Cond.methodLinkNest own ix (am_y mi) host).before args s = true) :
    va_CN R s args own ix (am_y mi) host (am_code mi) (am_mL mi) (am_ret mi) (am_ws mi) (am_R d' kc' ks') kc' ks' b := by
  obtain ⟨m1, m2, m3, m4, m5⟩ := hM
  refine ⟨⟨rfl, rfl, ?_, ?_, ?_, List.mem_cons_self⟩, hT _ m1 args, hT _ m2 args, m3, am_pars m4, hlk⟩
  · show d' + 1 ≤ R.frames; omega
  · show 8 + (am_mL mi + 11) + 64 * d' ≤ R.locals; omega
  · intro w hw a' U hW
    cases List.mem_singleton.mp hw
    exact hT.warm hW _ m1 a'
theorem am_bk {mi : am_MI} {b d d' kc' ks' : Nat} {R : Room} {s : State} (hM : am_ML mi b) (hT : am_T s) (hd : d' + 1 ≤ d) (h1 : d ≤ R.frames) (h2 : 64 * d ≤ R.locals) :
    (am_R d' kc' ks').cells = kc' ∧ (am_R d' kc' ks').slots = ks' ∧ (am_R d' kc' ks').frames + 1 ≤ R.frames ∧ 8 + (am_mL mi + 11) + (am_R d' kc' ks').locals ≤ R.locals ∧ (∀ w ∈ am_ws mi, ∀ (a' : Array Value) (U : State), s.WarmedH U.vm → w.before a' U = true) ∧ Cond.code (am_y mi) (am_code mi) (am_mL mi) (am_ret mi) ∈ am_ws mi := by
  obtain ⟨m1, m2, m3, m4, m5⟩ := hM
  refine ⟨rfl, rfl, ?_, ?_, ?_, List.mem_cons_self⟩
  · show d' + 1 ≤ R.frames; omega
  · show 8 + (am_mL mi + 11) + 64 * d' ≤ R.locals; omega
  · intro w hw a' U hW
    cases List.mem_singleton.mp hw
    exact hT.warm hW _ m1 a'
theorem am_stk {ad : Nat → Nat} {b o : Nat} {st As rest : List Value} (h : am_pop b st [] = some (As, .ref o :: rest)) : st.map (am_v ad) = (As.map (am_v ad)).reverse ++ .ref (ad o) :: rest.map (am_v ad) := by
  obtain ⟨h1, -⟩ := am_pop_eq b st [] As _ h
  rw [List.reverse_nil, List.nil_append] at h1
  rw [h1, List.map_append, List.map_reverse]
  rfl
theorem am_stk0 {ad : Nat → Nat} {b : Nat} {st As rest : List Value} (h : am_pop b st [] = some (As, rest)) : st.map (am_v ad) = (As.map (am_v ad)).reverse ++ rest.map (am_v ad) := by
  obtain ⟨h1, -⟩ := am_pop_eq b st [] As _ h
  rw [List.reverse_nil, List.nil_append] at h1
  rw [h1, List.map_append, List.map_reverse]
theorem am_popl {ad : Nat → Nat} {b : Nat} {st As rest : List Value} (h : am_pop b st [] = some (As, rest)) : (As.map (am_v ad)).length = b := by
  rw [List.length_map, (am_pop_eq b st [] As _ h).2]; simp
theorem am_cat_v {ad : Nat → Nat} {rest : List Value} : ((rest.map (am_v ad)).map fun v => v.category).sum = am_cat rest := by
  unfold am_cat
  rw [List.map_map]
  congr 1
  refine List.map_congr_left fun v _ => ?_
  cases v <;> rfl
section AMC
variable {mi mi' : am_MI} {d : Nat} {Q : Option Value → am_H → Prop} {kc ks pc : Nat} {ls : am_L} {st As rest : List Value} {h : am_H}
/-- invokevirtual of a method that the receiver's class has of its own -/
theorem am_s_callV {ix b o ci : Nat} {fs : List Value} {q : vw_C} (hq : am_cls[ci]? = some q) (hM : am_ML mi' b) (hlk : Cond.methodLink (am_y mi).cls ix (am_y mi') ∈ am_gt) (hin : Cond.instanceMethod (am_y mi') ∈ am_gt) (hse : Cond.selects q.1 (am_y mi') (am_y mi') ∈ am_gt) (hpop : am_pop b st [] = some (As, .ref o :: rest)) (hc : am_nth h o = some (.inr (.inr (ci, fs)))) (hd : decode (am_code mi) pc = .ok (.invokevirtual ix, 3))
    (hk : am_call mi' d kc ks (.ref o :: As) rest ls h (fun kc ks r h => am_W mi d Q kc ks (pc + 3) ls (r.toList ++ rest) h)) : am_W mi d Q kc ks pc ls st h := by
  intro p l e R s m args below meth c D tc ad ad0 h0 A H locs cells slots mc ms lsC hX hE hA hG hag hP hD hS hl
  obtain ⟨d', kc', ks', P, k1, k2, k3, k4, k5, k6⟩ := hk
  have hT := hX.2.2.2.2.2.2.2.1
  have hK := hX.2.2.2.2.2.2.2.2
  obtain ⟨g1, g2, g3, g4, g5, g6⟩ := id hG
  rw [am_stk hpop]
  refine am_run_go (P := P) (av := (Value.ref (ad o) :: As.map (am_v ad)).toArray) hX hE hA hG hag hD hS hl k2 k3 ?_ k6
  exact va_runV (C := q.1) (Ts := am_gt) ⟨hX.1, hX.2.1, hX.2.2.2.1, hX.2.2.2.2.1, hT.use args⟩ (k5 l D tc ad H.size) ⟨am_cb hM hT k1 g1 g2 (hT _ hlk args), hT _ hin args, hT _ hse args⟩ ⟨am_blind, va_recv hK hP hq (am_w_at hc), fun U hU hW => ⟨rfl, am_pre_ok hT hK hE hA hag hP hD hS hU hW⟩⟩ rfl (am_popl hpop) hl.1 rfl (lv_room (by rw [am_cat_v]; exact k4)) hd ⟨by omega, by omega⟩
/-- the same, by a nest mate -/
theorem am_s_callVN {ix b o ci : Nat} {host : String} {fs : List Value} {q : vw_C} (hq : am_cls[ci]? = some q) (hM : am_ML mi' b) (hlk : Cond.methodLinkNest (am_y mi).cls ix (am_y mi') host ∈ am_gt) (hin : Cond.instanceMethod (am_y mi') ∈ am_gt) (hse : Cond.selects q.1 (am_y mi') (am_y mi') ∈ am_gt) (hpop : am_pop b st [] = some (As, .ref o :: rest)) (hc : am_nth h o = some (.inr (.inr (ci, fs)))) (hd : decode (am_code mi) pc = .ok (.invokevirtual ix, 3))
    (hk : am_call mi' d kc ks (.ref o :: As) rest ls h (fun kc ks r h => am_W mi d Q kc ks (pc + 3) ls (r.toList ++ rest) h)) : am_W mi d Q kc ks pc ls st h := by
  intro p l e R s m args below meth c D tc ad ad0 h0 A H locs cells slots mc ms lsC hX hE hA hG hag hP hD hS hl
  obtain ⟨d', kc', ks', P, k1, k2, k3, k4, k5, k6⟩ := hk
  have hT := hX.2.2.2.2.2.2.2.1
  have hK := hX.2.2.2.2.2.2.2.2
  obtain ⟨g1, g2, g3, g4, g5, g6⟩ := id hG
  rw [am_stk hpop]
  refine am_run_go (P := P) (av := (Value.ref (ad o) :: As.map (am_v ad)).toArray) hX hE hA hG hag hD hS hl k2 k3 ?_ k6
  exact va_runVN (C := q.1) (Ts := am_gt) ⟨hX.1, hX.2.1, hX.2.2.2.1, hX.2.2.2.2.1, hT.use args⟩ (k5 l D tc ad H.size) ⟨am_cn hM hT k1 g1 g2 (hT _ hlk args), hT _ hin args, hT _ hse args⟩ ⟨am_blind, va_recv hK hP hq (am_w_at hc), fun U hU hW => ⟨rfl, am_pre_ok hT hK hE hA hag hP hD hS hU hW⟩⟩ rfl (am_popl hpop) hl.1 rfl (lv_room (by rw [am_cat_v]; exact k4)) hd ⟨by omega, by omega⟩
/-- of a text -/
theorem am_s_callT {ix b o : Nat} (hM : am_ML mi' b) (hlk : Cond.methodLink (am_y mi).cls ix (am_y mi') ∈ am_gt) (hin : Cond.instanceMethod (am_y mi') ∈ am_gt) (hse : Cond.selects "java/lang/String" (am_y mi') (am_y mi') ∈ am_gt) (hpop : am_pop b st [] = some (As, .ref o :: rest)) (ho1 : o < 100003) (ho2 : 100000 ≤ o) (hd : decode (am_code mi) pc = .ok (.invokevirtual ix, 3))
    (hk : am_call mi' d kc ks (.ref o :: As) rest ls h (fun kc ks r h => am_W mi d Q kc ks (pc + 3) ls (r.toList ++ rest) h)) : am_W mi d Q kc ks pc ls st h := by
  intro p l e R s m args below meth c D tc ad ad0 h0 A H locs cells slots mc ms lsC hX hE hA hG hag hP hD hS hl
  obtain ⟨d', kc', ks', P, k1, k2, k3, k4, k5, k6⟩ := hk
  have hT := hX.2.2.2.2.2.2.2.1
  have hK := hX.2.2.2.2.2.2.2.2
  obtain ⟨g1, g2, g3, g4, g5, g6⟩ := id hG
  rw [am_stk hpop]
  have hV := (hE.ads (fun i hi => hag.2.2 i (Or.inr (by have := hag.2.1; omega)))).2.2.1
  have hrec := vk_recv hV (i := o - 100000) (by omega) hS
  rw [show 100000 + (o - 100000) = o by omega] at hrec
  refine am_run_go (P := P) (av := (Value.ref (ad o) :: As.map (am_v ad)).toArray) hX hE hA hG hag hD hS hl k2 k3 ?_ k6
  exact va_runV (C := "java/lang/String") (Ts := am_gt) ⟨hX.1, hX.2.1, hX.2.2.2.1, hX.2.2.2.2.1, hT.use args⟩ (k5 l D tc ad H.size) ⟨am_cb hM hT k1 g1 g2 (hT _ hlk args), hT _ hin args, hT _ hse args⟩ ⟨am_blind, hrec, fun U hU hW => ⟨rfl, am_pre_ok hT hK hE hA hag hP hD hS hU hW⟩⟩ rfl (am_popl hpop) hl.1 rfl (lv_room (by rw [am_cat_v]; exact k4)) hd ⟨by omega, by omega⟩
/-- of a method that a class above names -/
theorem am_s_callU {ix b o ci : Nat} {owner : String} {xn : MethodName} {fs : List Value} {q : vw_C} (hq : am_cls[ci]? = some q) (hM : am_ML mi' b) (hpx : (parseMethodDescriptor xn.desc).map (fun d => d.parameters.length) = some b) (how : owner ≠ "java/lang/invoke/MethodHandle" ∧ owner ≠ "java/lang/invoke/VarHandle") (hlk : Cond.methodLink (am_y mi).cls ix xn ∈ am_gt) (hsm : Cond.sameMethod xn.cls owner xn.name xn.desc ∈ am_gt) (hdc : Cond.declares ⟨owner, xn.name, xn.desc⟩ ∈ am_gt ∨ ∃ (bs : ByteArray) (n : Nat) (rt : Option FieldType), Cond.instanceMethod ⟨owner, xn.name, xn.desc⟩ ∈ am_gt ∧ Cond.code ⟨owner, xn.name, xn.desc⟩ bs n rt ∈ am_gt) (hin : Cond.instanceMethod (am_y mi') ∈ am_gt) (hse : Cond.selects q.1 xn (am_y mi') ∈ am_gt) (hpop : am_pop b st [] = some (As, .ref o :: rest)) (hc : am_nth h o = some (.inr (.inr (ci, fs)))) (hd : decode (am_code mi) pc = .ok (.invokevirtual ix, 3))
    (hk : am_call mi' d kc ks (.ref o :: As) rest ls h (fun kc ks r h => am_W mi d Q kc ks (pc + 3) ls (r.toList ++ rest) h)) : am_W mi d Q kc ks pc ls st h := by
  intro p l e R s m args below meth c D tc ad ad0 h0 A H locs cells slots mc ms lsC hX hE hA hG hag hP hD hS hl
  obtain ⟨d', kc', ks', P, k1, k2, k3, k4, k5, k6⟩ := hk
  have hT := hX.2.2.2.2.2.2.2.1
  have hK := hX.2.2.2.2.2.2.2.2
  obtain ⟨g1, g2, g3, g4, g5, g6⟩ := id hG
  rw [am_stk hpop]
  have hdec : va_Decl s ⟨owner, xn.name, xn.desc⟩ := by
    rcases hdc with z | ⟨bs, n, rt, z1, z2⟩
    · exact va_Decl.abs (hT _ z #[])
    · exact va_Decl.of (hT _ z1 #[]) (hT _ z2 #[])
  have bk := am_bk (kc' := kc') (ks' := ks') hM hT k1 g1 g2
  refine am_run_go (P := P) (av := (Value.ref (ad o) :: As.map (am_v ad)).toArray) hX hE hA hG hag hD hS hl k2 k3 ?_ k6
  exact va_runU (C := q.1) (Ts := am_gt) (owner := owner) (x := xn) ⟨hX.1, hX.2.1, hX.2.2.2.1, hX.2.2.2.2.1, hT.use args⟩ (k5 l D tc ad H.size) ⟨bk, hT _ hM.1 args, hT _ hM.2.1 args, how, am_pars hpx, hT _ hlk args, hT _ hsm args, hdec, hT _ hse args, hT _ hin args⟩ ⟨am_blind, va_recv hK hP hq (am_w_at hc), fun U hU hW => ⟨rfl, am_pre_ok hT hK hE hA hag hP hD hS hU hW⟩⟩ rfl (am_popl hpop) hl.1 rfl (lv_room (by rw [am_cat_v]; exact k4)) hd ⟨by omega, by omega⟩
/-- invokestatic -/
theorem am_s_callS {ix b : Nat} (hM : am_ML mi' b) (hlk : Cond.methodLink (am_y mi).cls ix (am_y mi') ∈ am_gt) (hst : Cond.static (am_y mi') ∈ am_gt) (hpop : am_pop b st [] = some (As, rest)) (hd : decode (am_code mi) pc = .ok (.invokestatic ix, 3))
    (hk : am_call mi' d kc ks As rest ls h (fun kc ks r h => am_W mi d Q kc ks (pc + 3) ls (r.toList ++ rest) h)) : am_W mi d Q kc ks pc ls st h := by
  intro p l e R s m args below meth c D tc ad ad0 h0 A H locs cells slots mc ms lsC hX hE hA hG hag hP hD hS hl
  obtain ⟨d', kc', ks', P, k1, k2, k3, k4, k5, k6⟩ := hk
  have hT := hX.2.2.2.2.2.2.2.1
  have hK := hX.2.2.2.2.2.2.2.2
  obtain ⟨g1, g2, g3, g4, g5, g6⟩ := id hG
  rw [am_stk0 hpop]
  refine am_run_go (P := P) (av := (As.map (am_v ad)).toArray) hX hE hA hG hag hD hS hl k2 k3 ?_ k6
  exact va_runS (Ts := am_gt) ⟨hX.1, hX.2.1, hX.2.2.2.1, hX.2.2.2.2.1, hT.use args⟩ (k5 l D tc ad H.size) ⟨am_cb hM hT k1 g1 g2 (hT _ hlk args), hT _ hst args⟩ ⟨am_blind, fun U hU hW => ⟨rfl, am_pre_ok hT hK hE hA hag hP hD hS hU hW⟩⟩ rfl (am_popl hpop) hl.1 rfl (lv_room (by rw [am_cat_v]; exact k4)) hd ⟨by omega, by omega⟩
theorem am_s_callSN {ix b : Nat} {host : String} (hM : am_ML mi' b) (hlk : Cond.methodLinkNest (am_y mi).cls ix (am_y mi') host ∈ am_gt) (hst : Cond.static (am_y mi') ∈ am_gt) (hpop : am_pop b st [] = some (As, rest)) (hd : decode (am_code mi) pc = .ok (.invokestatic ix, 3))
    (hk : am_call mi' d kc ks As rest ls h (fun kc ks r h => am_W mi d Q kc ks (pc + 3) ls (r.toList ++ rest) h)) : am_W mi d Q kc ks pc ls st h := by
  intro p l e R s m args below meth c D tc ad ad0 h0 A H locs cells slots mc ms lsC hX hE hA hG hag hP hD hS hl
  obtain ⟨d', kc', ks', P, k1, k2, k3, k4, k5, k6⟩ := hk
  have hT := hX.2.2.2.2.2.2.2.1
  have hK := hX.2.2.2.2.2.2.2.2
  obtain ⟨g1, g2, g3, g4, g5, g6⟩ := id hG
  rw [am_stk0 hpop]
  refine am_run_go (P := P) (av := (As.map (am_v ad)).toArray) hX hE hA hG hag hD hS hl k2 k3 ?_ k6
  exact va_runSN (Ts := am_gt) ⟨hX.1, hX.2.1, hX.2.2.2.1, hX.2.2.2.2.1, hT.use args⟩ (k5 l D tc ad H.size) ⟨am_cn hM hT k1 g1 g2 (hT _ hlk args), hT _ hst args, trivial⟩ ⟨am_blind, fun U hU hW => ⟨rfl, am_pre_ok hT hK hE hA hag hP hD hS hU hW⟩⟩ rfl (am_popl hpop) hl.1 rfl (lv_room (by rw [am_cat_v]; exact k4)) hd ⟨by omega, by omega⟩
/-- constructors -/
theorem am_s_callI {ix b o : Nat} (hM : am_ML mi' b) (hr0 : am_ret mi' = none) (hnm : (am_y mi').name = "<init>") (hlk : Cond.methodLink (am_y mi).cls ix (am_y mi') ∈ am_gt) (hin : Cond.instanceMethod (am_y mi') ∈ am_gt) (hpop : am_pop b st [] = some (As, .ref o :: rest)) (hd : decode (am_code mi) pc = .ok (.invokespecial ix, 3))
    (hk : am_call mi' d kc ks (.ref o :: As) rest ls h (fun kc ks r h => am_W mi d Q kc ks (pc + 3) ls (r.toList ++ rest) h)) : am_W mi d Q kc ks pc ls st h := by
  intro p l e R s m args below meth c D tc ad ad0 h0 A H locs cells slots mc ms lsC hX hE hA hG hag hP hD hS hl
  obtain ⟨d', kc', ks', P, k1, k2, k3, k4, k5, k6⟩ := hk
  have hT := hX.2.2.2.2.2.2.2.1
  have hK := hX.2.2.2.2.2.2.2.2
  obtain ⟨g1, g2, g3, g4, g5, g6⟩ := id hG
  rw [am_stk hpop]
  refine am_run_go (P := P) (av := (Value.ref (ad o) :: As.map (am_v ad)).toArray) hX hE hA hG hag hD hS hl k2 k3 ?_ k6
  have cb := am_cb (kc' := kc') (ks' := ks') hM hT k1 g1 g2 (hT _ hlk args)
  rw [hr0] at cb
  exact va_runI (Ts := am_gt) ⟨hX.1, hX.2.1, hX.2.2.2.1, hX.2.2.2.2.1, hT.use args⟩ (k5 l D tc ad H.size) ⟨cb, hnm, hT _ hin args⟩ ⟨am_blind, fun U hU hW => ⟨rfl, am_pre_ok hT hK hE hA hag hP hD hS hU hW⟩⟩ rfl (am_popl hpop) hl.1 rfl (lv_room (by rw [am_cat_v]; exact k4)) hd ⟨by omega, by omega⟩
theorem am_s_callIN {ix b o : Nat} {host : String} (hM : am_ML mi' b) (hr0 : am_ret mi' = none) (hnm : (am_y mi').name = "<init>") (hlk : Cond.methodLinkNest (am_y mi).cls ix (am_y mi') host ∈ am_gt) (hin : Cond.instanceMethod (am_y mi') ∈ am_gt) (hpop : am_pop b st [] = some (As, .ref o :: rest)) (hd : decode (am_code mi) pc = .ok (.invokespecial ix, 3))
    (hk : am_call mi' d kc ks (.ref o :: As) rest ls h (fun kc ks r h => am_W mi d Q kc ks (pc + 3) ls (r.toList ++ rest) h)) : am_W mi d Q kc ks pc ls st h := by
  intro p l e R s m args below meth c D tc ad ad0 h0 A H locs cells slots mc ms lsC hX hE hA hG hag hP hD hS hl
  obtain ⟨d', kc', ks', P, k1, k2, k3, k4, k5, k6⟩ := hk
  have hT := hX.2.2.2.2.2.2.2.1
  have hK := hX.2.2.2.2.2.2.2.2
  obtain ⟨g1, g2, g3, g4, g5, g6⟩ := id hG
  rw [am_stk hpop]
  refine am_run_go (P := P) (av := (Value.ref (ad o) :: As.map (am_v ad)).toArray) hX hE hA hG hag hD hS hl k2 k3 ?_ k6
  have cb := am_cn (kc' := kc') (ks' := ks') hM hT k1 g1 g2 (hT _ hlk args)
  rw [hr0] at cb
  exact va_runIN (Ts := am_gt) ⟨hX.1, hX.2.1, hX.2.2.2.1, hX.2.2.2.2.1, hT.use args⟩ (k5 l D tc ad H.size) ⟨cb, hnm, hT _ hin args⟩ ⟨am_blind, fun U hU hW => ⟨rfl, am_pre_ok hT hK hE hA hag hP hD hS hU hW⟩⟩ rfl (am_popl hpop) hl.1 rfl (lv_room (by rw [am_cat_v]; exact k4)) hd ⟨by omega, by omega⟩
theorem am_obj_in : Cond.instanceMethod objectInit ∈ am_gt ∧ Cond.code objectInit ⟨#[0xb1]⟩ 1 none ∈ am_gt := ⟨by decide +kernel, by decide +kernel⟩
theorem am_s_objInit {ix o : Nat} (hlk : Cond.methodLink (am_y mi).cls ix objectInit ∈ am_gt) (hd1 : 1 ≤ d) (hcat : am_cat st ≤ 8) (hd : decode (am_code mi) pc = .ok (.invokespecial ix, 3)) (hk : am_W mi d Q kc ks (pc + 3) ls st h) : am_W mi d Q kc ks pc ls (.ref o :: st) h := by
  intro p l e R s m args below meth c D tc ad ad0 h0 A H locs cells slots mc ms lsC hX hE hA hG hag hP hD hS hl
  have hT := hX.2.2.2.2.2.2.2.1
  obtain ⟨g1, g2, g3, g4, g5, g6⟩ := id hG
  have hc8 := lv_room (m := m) (pc := pc) (ls := lsC) (rest := (Value.ref o :: st).map (am_v ad)) (st := st.map (am_v ad)) (by rw [am_cat_v]; exact hcat)
  exact W.objInit hX.1 hX.2.1 hX.2.2.2.2.1 (hT _ hlk args) (hT _ am_obj_in.1 args) (hT _ am_obj_in.2 args) rfl (by rw [hX.2.2.2.1]; exact hl.1) rfl hd (by omega) (by omega) (hk p l e R s m args below meth c D tc ad ad0 h0 A H locs cells slots mc ms lsC hX hE hA hG hag hP hD hS hl)
theorem am_cp_in : Cond.native arraycopyName ∈ am_gt ∧ Cond.static arraycopyName ∈ am_gt ∧ Cond.initialized "java/lang/System" ∈ am_gt := ⟨by decide +kernel, by decide +kernel, by decide +kernel⟩
/-- System.arraycopy of two rows of one type -/
theorem am_s_copy {ix a o0 o1 n0 n1 : Nat} {f g : Nat → Int32} {sp dp n : Int32} (ha : a < 3) (hlk : Cond.methodLink (am_y mi).cls ix arraycopyName ∈ am_gt) (h0' : am_nth h o0 = some (.inl (a, n0, f))) (h1' : am_nth h o1 = some (.inl (a, n1, g))) (c1 : ¬ sp < 0) (c2 : ¬ dp < 0) (c3 : ¬ n < 0) (c4 : sp.toNatClampNeg + n.toNatClampNeg ≤ n0) (c5 : dp.toNatClampNeg + n.toNatClampNeg ≤ n1) (c6 : ∀ i, i < n.toNatClampNeg → fits (am_aty a) (.int (f (sp.toNatClampNeg + i))) = true) (hd1 : 1 ≤ d) (hcat : am_cat rest ≤ 8) (hd : decode (am_code mi) pc = .ok (.invokestatic ix, 3))
    (hk : am_W mi d Q kc ks (pc + 3) ls rest (am_put h o1 (.inl (a, n1, va_cpy f g sp.toNatClampNeg dp.toNatClampNeg n.toNatClampNeg)))) : am_W mi d Q kc ks pc ls (.int n :: .int dp :: .ref o1 :: .int sp :: .ref o0 :: rest) h := by
  intro p l e R s m args below meth c D tc ad ad0 h0 A H locs cells slots mc ms lsC hX hE hA hG hag hP hD hS hl
  have hT := hX.2.2.2.2.2.2.2.1
  have hK := hX.2.2.2.2.2.2.2.2
  obtain ⟨g1, g2, g3, g4, g5, g6⟩ := id hG
  have hrm : ((rest.map (am_v ad)).map fun v => v.category).sum + (nativeFrameWords "java/lang/System" "arraycopy" 5 + 11) ≤ R.locals := by
    rw [am_cat_v]
    have : nativeFrameWords "java/lang/System" "arraycopy" 5 = 7 := by decide +kernel
    omega
  rcases (show a = 0 ∨ a = 1 ∨ a = 2 by omega) with rfl | rfl | rfl
  · exact va_copyi hX.1 hX.2.1 (hX.2.2.2.1.trans hl.1.symm) hX.2.2.2.2.1 (hT _ hlk args) (hT _ am_cp_in.1 args) (hT _ am_cp_in.2.1 args) (hT _ am_cp_in.2.2 args) hK hP hD hS o0 o1 0 0 (am_w_at h0') (am_w_at h1') rfl rfl rfl c1 c2 c3 c4 c5 c6 (by omega) hrm hd (fun H1 locs1 hP1 hD1 hS1 => hk p l e R s m args below meth c D tc ad ad0 h0 A H1 locs1 cells slots mc ms lsC hX hE hA hG ⟨by rw [am_put_len]; exact hag.1, by rw [am_put_len]; exact hag.2.1, by rw [am_put_len]; exact hag.2.2⟩ (by rw [am_w_put]; exact hP1) (by rw [am_w_put]; exact hD1) hS1 hl)
  · exact va_copyi hX.1 hX.2.1 (hX.2.2.2.1.trans hl.1.symm) hX.2.2.2.2.1 (hT _ hlk args) (hT _ am_cp_in.1 args) (hT _ am_cp_in.2.1 args) (hT _ am_cp_in.2.2 args) hK hP hD hS o0 o1 1 1 (am_w_at h0') (am_w_at h1') rfl rfl rfl c1 c2 c3 c4 c5 c6 (by omega) hrm hd (fun H1 locs1 hP1 hD1 hS1 => hk p l e R s m args below meth c D tc ad ad0 h0 A H1 locs1 cells slots mc ms lsC hX hE hA hG ⟨by rw [am_put_len]; exact hag.1, by rw [am_put_len]; exact hag.2.1, by rw [am_put_len]; exact hag.2.2⟩ (by rw [am_w_put]; exact hP1) (by rw [am_w_put]; exact hD1) hS1 hl)
  · exact va_copyi hX.1 hX.2.1 (hX.2.2.2.1.trans hl.1.symm) hX.2.2.2.2.1 (hT _ hlk args) (hT _ am_cp_in.1 args) (hT _ am_cp_in.2.1 args) (hT _ am_cp_in.2.2 args) hK hP hD hS o0 o1 2 2 (am_w_at h0') (am_w_at h1') rfl rfl rfl c1 c2 c3 c4 c5 c6 (by omega) hrm hd (fun H1 locs1 hP1 hD1 hS1 => hk p l e R s m args below meth c D tc ad ad0 h0 A H1 locs1 cells slots mc ms lsC hX hE hA hG ⟨by rw [am_put_len]; exact hag.1, by rw [am_put_len]; exact hag.2.1, by rw [am_put_len]; exact hag.2.2⟩ (by rw [am_w_put]; exact hP1) (by rw [am_w_put]; exact hD1) hS1 hl)
/-- super.m(..) -/
theorem am_sub2 {vm : Vm} {a b : ClassId} {k : Class} (h : vm.classes[a]? = some k) (hs : k.super = some b) : vm.isSubclass a b = true := by
  have hl : a < vm.classes.size := (Array.getElem?_eq_some_iff.mp h).1
  obtain ⟨n, hn⟩ : ∃ n, vm.classes.size = n + 1 := ⟨vm.classes.size - 1, by have h9 : 0 < vm.classes.size := Nat.lt_of_le_of_lt (Nat.zero_le a) hl; omega⟩
  simp [Vm.isSubclass, hn, Vm.isSubclassAux, h, hs]
theorem am_s_callSU {ix b o ci : Nat} {xn : MethodName} {fs : List Value} {q : vw_C} (hq : am_cls[ci]? = some q) (hM : am_ML mi' b) (hno : xn.name ≠ "<init>") (hyn : (am_y mi').name = xn.name) (hyd : (am_y mi').desc = xn.desc) (hlk : Cond.methodLink (am_y mi).cls ix xn ∈ am_gt) (hsm : Cond.sameMethod xn.cls (am_y mi').cls xn.name xn.desc ∈ am_gt) (hsp : Cond.superclass (am_y mi).cls xn.cls ∈ am_gt) (hsp2 : xn.cls = (am_y mi').cls ∨ Cond.superclass xn.cls (am_y mi').cls ∈ am_gt) (hin : Cond.instanceMethod (am_y mi') ∈ am_gt) (hpop : am_pop b st [] = some (As, .ref o :: rest)) (hc : am_nth h o = some (.inr (.inr (ci, fs)))) (hd : decode (am_code mi) pc = .ok (.invokespecial ix, 3))
    (hk : am_call mi' d kc ks (.ref o :: As) rest ls h (fun kc ks r h => am_W mi d Q kc ks (pc + 3) ls (r.toList ++ rest) h)) : am_W mi d Q kc ks pc ls st h := by
  intro p l e R s m args below meth c D tc ad ad0 h0 A H locs cells slots mc ms lsC hX hE hA hG hag hP hD hS hl
  obtain ⟨d', kc', ks', P, k1, k2, k3, k4, k5, k6⟩ := hk
  have hT := hX.2.2.2.2.2.2.2.1
  have hK := hX.2.2.2.2.2.2.2.2
  obtain ⟨g1, g2, g3, g4, g5, g6⟩ := id hG
  rw [am_stk hpop]
  refine am_run_go (P := P) (av := (Value.ref (ad o) :: As.map (am_v ad)).toArray) hX hE hA hG hag hD hS hl k2 k3 ?_ k6
  obtain ⟨z1, z2, z3, z4, z5, z6⟩ := am_bk (kc' := kc') (ks' := ks') hM hT k1 g1 g2
  have hB : Back l R p e below s args (am_y mi') 3 8 (PreOf R kc' ks' (va_Pc ((Value.ref o :: As).map (am_v ad)) (am_Pre D tc ad h H.size))) (PostOf (am_Q D tc (va_A (am_w ad tc h) H.size) h ad P) kc' ks' (va_A (am_w ad tc h) H.size)) :=
    back_of (bytes := am_code mi') (maxL := am_mL mi') (ret := am_ret mi') (k5 l D tc ad H.size) am_blind z1 z2 z3 z4 z5 z6 (fun a' U hW => hT.warm hW _ hM.2.1 a')
  obtain ⟨cellB, hcB, hoB, hclB⟩ := va_recv hK hP hq (am_w_at hc)
  obtain ⟨-, hfc, kB, hkB, -⟩ := hK.1 ci _ hq
  have hcc : D.1 ci = cellB.cls := Option.some.inj (hfc.symm.trans hclB)
  rw [hcc] at hkB
  intro T hTh X
  obtain ⟨mk, methM, hnamed, hmethM, hstM, habM⟩ := Cond.instanceMethod_spec (hT _ hin args)
  obtain ⟨methM', cM, hmethM', -, -, -, -, -, -, hsigM⟩ := Cond.code_spec hnamed (hT _ hM.1 args)
  cases hmethM.symm.trans hmethM'
  obtain ⟨ps, dk, kp, hps, hdk, hkp, hsuper, -, -, hnid⟩ := Cond.superclass_spec hX.2.2.2.2.1 (hT _ hsp args)
  have hn : s.methodNamed? ⟨(am_y mi').cls, xn.name, xn.desc⟩ = some mk := by rw [← hyn, ← hyd]; exact hnamed
  have hmc : s.vm.findClass (am_y mi').cls = some mk.cls := findClass_of_methodNamed hnamed
  have hsub : s.vm.isSubclass ps mk.cls = true := by
    rcases hsp2 with e1 | e1
    · rw [e1] at hps
      have hpm : ps = mk.cls := Option.some.inj (hps.symm.trans hmc)
      rw [hpm]; simp [Vm.isSubclass, Vm.isSubclassAux]
    · obtain ⟨ps2, dk2, kp2, hps2, hdk2, hkp2, hsuper2, -, -, -⟩ := Cond.superclass_spec hps (hT _ e1 args)
      cases hps2.symm.trans hmc
      exact am_sub2 hdk2 hsuper2
  have hlen : (As.map (am_v ad)).length = methM.sig.parameters.length := by rw [am_popl hpop]; exact am_pars hM.2.2.2.1 _ hsigM
  obtain ⟨vm₁, X₁, hstep₁⟩ := X.invokespecialUp hX.1 hX.2.2.2.2.1 (hT _ hlk args) (hT _ hsm args) hn hmethM hstM habM hno hdk hnid hps hsuper hsub (a := ad o) (cell := cellB) (by rw [hTh]; exact hcB)
    (fun z hz => by rw [hz] at hoB; cases hoB) hkB (g := F0 m pc lsC ((As.map (am_v ad)).reverse ++ .ref (ad o) :: rest.map (am_v ad))) rfl (argsL := As.map (am_v ad)) (rest := rest.map (am_v ad)) hlen rfl (by rw [hX.2.1]; exact hd)
  obtain ⟨v, ⟨U', l2, c2, s2⟩, X', ⟨g', mk', t, L, e1, e2, hq', h1, hL, h2, h3⟩, hsteps⟩ := hB m meth c ⟨T.setVm vm₁, locs, cells, slots⟩ { F0 m pc lsC ((As.map (am_v ad)).reverse ++ .ref (ad o) :: rest.map (am_v ad)) with stack := rest.map (am_v ad) } (.invokespecial ix) mk (Value.ref (ad o) :: As.map (am_v ad)).toArray X₁ rfl (by show lsC.size = _; rw [hX.2.2.2.1]; exact hl.1) (by rw [hX.2.1]; exact hd) (lv_room (by rw [am_cat_v]; exact k4)) (X₁.named hnamed) ⟨by show cells + kc' ≤ R.cells; omega, by show slots + ks' ≤ R.slots; omega, rfl, am_pre_ok hT hK hE hA hag hP hD hS (by exact hTh) X₁.warmed⟩
  dsimp only [Pt.U, Pt.locs, Pt.cells, Pt.slots] at X' e1 e2 h1 h2 h3 hsteps
  subst h1; subst h2; subst h3
  exact ⟨v, (T.setVm vm₁).calling g' mk' (Value.ref (ad o) :: As.map (am_v ad)).toArray, t, U', L, hTh, X', hL, e1, e2, hq', fun target hh => hstep₁ _ (by rw [doInvoke_state]; exact hsteps.trans hh)⟩
end AMC
