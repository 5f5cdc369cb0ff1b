/-! THE LAW: its words (out of the skeleton), two worlds side by side, a call in one of them -/
def R_law : String := "DeedProofsLaw"
def lw_P (b : Addr) (xs : List Int32) (args : Array Value) (s : State) : Prop := args = #[.ref b] ∧ s.IntsAt b xs ∧ xs.length ≤ 4096 ∧ (Jvm.Cond.and given_1 narrow_1).before args s = true
def lw_Q (_ : Array Value) (s : State) (o : Outcome) (t : State) : Prop := o = .returned (some (.int 1)) ∧ Framed s o t [] 600000 7302249
def lw_Z (below : List Frame) (a : Array Value) (s : State) : State → Prop := fun t => ∃ o, t.status = .running ∧ Ended t below o ∧ lw_Q a s o t
/-- the law's own end, with 1 on the stack, nothing written that was there before, its room as the claim has it -/
theorem lw_ret {p : Program} {l : Launch} {e : Env} {s : State} {m : MethodId} {below : List Frame} {meth : Method} {c : Code} {b : Nat} (hx : p.tables.exec = Jvm.exec) (hb : c.code = code) (hr : meth.sig.returnType = ret) (hlocks : meth.locks = false) {pc : Nat} {H : Heap} {ls : Array Slot} (hdg : decode code pc = .ok (.ireturn, 1)) : W p l e room_1 s m #[Value.ref b] below meth c H [] 600000 7302249 (lw_Z below #[Value.ref b] s) (F0 m pc ls [.int 1]) := by
  intro T hT X
  obtain ⟨fs, hret, hrun, hended, hW, hframe⟩ := X.leave (v := some (.int 1)) (hlocks := hlocks) (fun h => by rw [hr] at h; cases h)
  have hmeth' : T.vm.method? m = some meth := X.method'
  refine ⟨T.setFrames fs, ?_, .returned (some (.int 1)), hrun, hended, rfl, ⟨_, rfl⟩, hW, hframe⟩
  jvm_step X.here [X.here.top, hx, hb, hdg, hmeth', hr, ret, narrow_b1]
  (try refine ⟨rfl, ?_⟩); (try refine ⟨rfl, ?_⟩)
  first | (intro acts; rw [hret _ acts rfl rfl rfl]) | rw [hret _ _ rfl rfl rfl]
  exact Steps.refl _
/-- what holds at the law's entry: the machine, the code, the tables' words (any of lw_tbl by 'hts w (by decide +kernel)'), the script of L ints xs at the cell b, what the Statement gives of the start (any of its parts by flat_of_before) -/
def lw_At (p : Program) (s : State) (m : MethodId) (meth : Method) (c : Code) (b L : Nat) (xs : Nat → Int32) : Prop :=
  p.tables.exec = Jvm.exec ∧ c.code = code ∧ meth.sig.returnType = ret ∧ c.maxLocals = 4 ∧ s.vm.findClass R_law = some m.cls ∧ (∀ w ∈ lw_tbl, w.before #[Value.ref b] s = true) ∧ va_X b L xs s s.heap ∧ b < s.heap.size ∧ meth.locks = false ∧ (Jvm.Cond.and given_1 narrow_1).before #[Value.ref b] s = true

def lw_A (s : State) : Nat → Prop := fun q => s.heap.size ≤ q
theorem lw_A0 (s : State) : ∀ q, s.heap.size ≤ q → lw_A s q := fun _ h => h
def lw_ap (w1 w2 : va_W) : Prop := ∀ (i j : Nat) (p q : Nat × va_E), w1[i]? = some p → w2[j]? = some q → p.1 ≠ q.1
theorem lw_ap.symm {w1 w2 : va_W} (h : lw_ap w1 w2) : lw_ap w2 w1 := fun i j p q hp hq e => h j i q p hq hp e.symm
/-- what holds from the entry on -/
def lw_C (p : Program) (s : State) (m : MethodId) (c : Code) (b L : Nat) (xs : Nat → Int32) (D : va_G) (tc : Nat → ClassId) (ad0 : Nat → Nat) : Prop :=
  p.tables.exec = Jvm.exec ∧ c.code = code ∧ c.maxLocals = 4 ∧ s.vm.findClass R_law = some m.cls ∧ am_T s ∧ va_K D am_cls (am_tys tc) s ∧ am_Ev ad0 (lw_A s) s s.heap ∧ va_X b L xs s s.heap ∧ b < s.heap.size ∧ L ≤ 4096
/-- behind a call in one world: the other stands as it stood -/
theorem lw_go {P : Option Value → am_H → Prop} {kc ks pc : Nat} {h : am_H} {p : Program} {l : Launch} {e : Env} {R : Room} {s : State} {m : MethodId} {args : Array Value} {below : List Frame} {meth : Method} {c : Code} {D : va_G} {tc : Nat → ClassId} {ad : Nat → Nat} {A : Nat → Prop} {H : Heap} {locs : List Loc} {cells slots : Nat} {ls : Array Slot} {st0 rest : List Value} {av : Array Value} {Z : State → Prop} {wr : va_W}
    (hA : ∀ q, s.heap.size ≤ q → A q) (hD : va_D A (am_w ad tc h)) (hPr : va_P D am_cls wr H) (hx : lw_ap (am_w ad tc h) wr) (hS : va_S A s.heap H locs)
    (hr : va_Run p l e R s m args below meth c H locs cells slots kc ks (F0 m pc ls st0) rest (am_Q D tc (va_A (am_w ad tc h) H.size) h ad P av) (va_A (am_w ad tc h) H.size))
    (hgo : ∀ (r : Option Value) (h' : am_H) (ad' : Nat → Nat) (H' : Heap) (locs' : List Loc), P r h' → am_ag h ad ad' h' → va_P D am_cls (am_w ad' tc h') H' → va_D A (am_w ad' tc h') → va_P D am_cls wr H' → lw_ap (am_w ad' tc h') wr → va_S A s.heap H' locs' → W p l e R s m args below meth c H' locs' (cells + kc) (slots + ks) Z (F0 m (pc + 3) ls ((r.map (am_v ad')).toList ++ rest))) :
    W p l e R s m args below meth c H locs cells slots Z (F0 m pc ls st0) := by
  intro T hT X
  obtain ⟨v, st₀, t, T', L, h0', X', hL, e1, e2, ⟨⟨r, h', ad', hv, hp, hag', hP', hK', hD'⟩, hz, hk⟩, stp⟩ := hr T hT X
  cases hv
  rw [h0'] at hz hk
  have hF := am_wA (D := D) hA hD hS
  have hS' : va_S A s.heap T'.heap (locs ++ L) := ⟨Nat.le_trans hS.1 (by rw [e1]; exact hz), fun q h1 h2 => by rw [e1, hk q (Nat.lt_of_lt_of_le h1 hS.1) (fun z => h2 (hF q z))]; exact hS.2.1 q h1 h2, fun q hq => by
      rcases List.mem_append.mp hq with h | h
      · exact hS.2.2 q h
      · exact hF _ (hL q h)⟩
  have hlt : ∀ (j : Nat) (q : Nat × va_E), wr[j]? = some q → q.1 < H.size ∧ ¬ va_A (am_w ad tc h) H.size q.1 := fun j q hq => ⟨(hPr j q hq).lt, fun z => by
      rcases z with ⟨k, e, hk⟩ | z
      · exact hx k j _ _ hk hq rfl
      · exact absurd (hPr j q hq).lt (Nat.not_lt.mpr z)⟩
  have hPr' : va_P D am_cls wr T'.heap := hPr.kept (fun k q hq => by rw [e1]; exact hk q.1 (hlt k q hq).1 (hlt k q hq).2)
  have hx' : lw_ap (am_w ad' tc h') wr := fun i j p q hp hq e => (hlt j q hq).2 (by rw [← e]; exact hD'.2 i p hp)
  obtain ⟨t2, a1, b1⟩ := hgo r h' ad' T'.heap (locs ++ L) hp hag' (by rw [e1]; exact hP') (hD'.weaken (fun _ _ _ z => hF _ z)) hPr' hx' hS' T' rfl X'
  exact ⟨t2, stp t2 a1, b1⟩
/-- what the tables say of a method that the law calls -/
def lw_L (mi : am_MI) (ix n : Nat) (C : String) : Prop := am_ML mi n ∧ Cond.methodLink R_law ix (am_y mi) ∈ am_gt ∧ Cond.instanceMethod (am_y mi) ∈ am_gt ∧ Cond.selects C (am_y mi) (am_y mi) ∈ am_gt
section LWC
variable {p : Program} {l : Launch} {e : Env} {s : State} {m : MethodId} {below : List Frame} {meth : Method} {c : Code} {b L : Nat} {xs : Nat → Int32} {D : va_G} {tc : Nat → ClassId} {ad0 ad : Nat → Nat} {h : am_H} {P : Option Value → am_H → Prop} {kc ks pc : Nat} {H : Heap} {locs : List Loc} {cells slots : Nat} {ls : Array Slot} {As rest : List Value} {Z : State → Prop} {wr : va_W}
/-- invokevirtual of the law -/
theorem lw_cV {mi : am_MI} {n ix ci : Nat} {fs : List Value} {q : vw_C} (C0 : lw_C p s m c b L xs D tc ad0) (hq : am_cls[ci]? = some q) (hM : lw_L mi ix n q.1) (hc : am_nth h 0 = some (.inr (.inr (ci, fs)))) (hd : decode code pc = .ok (.invokevirtual ix, 3)) (hMet : am_Met mi 460 kc ks (.ref 0 :: As) h P) (hAs : ∀ ad : Nat → Nat, As.map (am_v ad) = As) (hn : As.length = n) (hcat : (rest.map fun v => v.category).sum ≤ 8) (hls : ls.size = 4) (hkc : cells + kc ≤ 600000) (hks : slots + ks ≤ 7302249)
    (hag : am_ag [] ad0 ad h) (hP : va_P D am_cls (am_w ad tc h) H) (hD : va_D (lw_A s) (am_w ad tc h)) (hPr : va_P D am_cls wr H) (hx : lw_ap (am_w ad tc h) wr) (hS : va_S (lw_A s) s.heap H locs)
    (hgo : ∀ (r : Option Value) (h' : am_H) (ad' : Nat → Nat) (H' : Heap) (locs' : List Loc), P r h' → am_ag h ad ad' h' → va_P D am_cls (am_w ad' tc h') H' → va_D (lw_A s) (am_w ad' tc h') → va_P D am_cls wr H' → lw_ap (am_w ad' tc h') wr → va_S (lw_A s) s.heap H' locs' → W p l e room_1 s m #[Value.ref b] below meth c H' locs' (cells + kc) (slots + ks) Z (F0 m (pc + 3) ls ((r.map (am_v ad')).toList ++ rest))) :
    W p l e room_1 s m #[Value.ref b] below meth c H locs cells slots Z (F0 m pc ls (As.reverse ++ .ref (ad 0) :: rest)) := by
  obtain ⟨c1, c2, c3, c4, hT, hK, hE, -, -, -⟩ := C0
  obtain ⟨m1, m2, m3, m4⟩ := hM
  refine lw_go (P := P) (av := (Value.ref (ad 0) :: As.map (am_v ad)).toArray) (lw_A0 s) hD hPr hx hS ?_ hgo
  exact va_runV (C := q.1) (Ts := am_gt) ⟨c1, c2, c3, c4, hT.use _⟩ (hMet l D tc ad H.size) ⟨am_cb (d := 461) m1 hT (by decide) (by decide) (by decide) (hT _ m2 _), hT _ m3 _, hT _ m4 _⟩ ⟨am_blind, va_recv hK hP hq (am_w_at hc), fun U hU hW => ⟨rfl, am_pre_ok hT hK hE (lw_A0 s) hag hP hD hS hU hW⟩⟩ rfl (by rw [List.length_map]; exact hn) hls (by rw [hAs]; first | done | rfl) (lv_room hcat) hd ⟨hkc, hks⟩
/-- invokespecial of the law: a constructor -/
theorem lw_cI {mi : am_MI} {ix : Nat} (C0 : lw_C p s m c b L xs D tc ad0) (m1 : am_ML mi 0) (hr0 : am_ret mi = none) (hnm : (am_y mi).name = "<init>") (m2 : Cond.methodLink R_law ix (am_y mi) ∈ am_gt) (m3 : Cond.instanceMethod (am_y mi) ∈ am_gt) (hd : decode code pc = .ok (.invokespecial ix, 3)) (hMet : am_Met mi 460 kc ks [.ref 0] h P) (hcat : (rest.map fun v => v.category).sum ≤ 8) (hls : ls.size = 4) (hkc : cells + kc ≤ 600000) (hks : slots + ks ≤ 7302249)
    (hag : am_ag [] ad0 ad h) (hP : va_P D am_cls (am_w ad tc h) H) (hD : va_D (lw_A s) (am_w ad tc h)) (hPr : va_P D am_cls wr H) (hx : lw_ap (am_w ad tc h) wr) (hS : va_S (lw_A s) s.heap H locs)
    (hgo : ∀ (r : Option Value) (h' : am_H) (ad' : Nat → Nat) (H' : Heap) (locs' : List Loc), P r h' → am_ag h ad ad' h' → va_P D am_cls (am_w ad' tc h') H' → va_D (lw_A s) (am_w ad' tc h') → va_P D am_cls wr H' → lw_ap (am_w ad' tc h') wr → va_S (lw_A s) s.heap H' locs' → W p l e room_1 s m #[Value.ref b] below meth c H' locs' (cells + kc) (slots + ks) Z (F0 m (pc + 3) ls ((r.map (am_v ad')).toList ++ rest))) :
    W p l e room_1 s m #[Value.ref b] below meth c H locs cells slots Z (F0 m pc ls (.ref (ad 0) :: rest)) := by
  obtain ⟨c1, c2, c3, c4, hT, hK, hE, -, -, -⟩ := C0
  refine lw_go (P := P) (av := (Value.ref (ad 0) :: ([] : List Value)).toArray) (lw_A0 s) hD hPr hx hS ?_ hgo
  have cb := am_cb (s := s) (R := room_1) (args := #[Value.ref b]) (own := R_law) (ix := ix) (kc' := kc) (ks' := ks) (d := 461) (d' := 460) m1 hT (by decide) (by decide) (by decide) (hT _ m2 _)
  rw [hr0] at cb
  exact va_runI (As := []) (Ts := am_gt) ⟨c1, c2, c3, c4, hT.use _⟩ (hMet l D tc ad H.size) ⟨cb, hnm, hT _ m3 _⟩ ⟨am_blind, fun U hU hW => ⟨rfl, am_pre_ok hT hK hE (lw_A0 s) hag hP hD hS hU hW⟩⟩ rfl rfl hls rfl (lv_room hcat) hd ⟨hkc, hks⟩
end LWC
