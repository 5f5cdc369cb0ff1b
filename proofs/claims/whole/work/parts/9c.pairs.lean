/-! THE LAW'S WALK: arguments out of the script, a call of the class and the same of the reference -/
def lw_dc (pc : Nat) (i : Instr) (n : Nat) : Bool := decide (decode code pc = .ok (i, n))
theorem lw_dcu {pc : Nat} {i : Instr} {n : Nat} (h : lw_dc pc i n = true) : decode code pc = .ok (i, n) := of_decide_eq_true h
def lw_a1B (pc k : Nat) : Bool := lw_dc pc (.aload_n 0) 1 && (lw_dc (pc + 1) (.iload_n 3) 1 && (lw_dc (pc + 1 + 1) (.iconst (k : Int)) 1 && (lw_dc (pc + 1 + 1 + 1) .iadd 1 && lw_dc (pc + 1 + 1 + 1 + 1) .iaload 1)))
def lw_a2B (pc k : Nat) : Bool := lw_dc pc (.aload_n 0) 1 && (lw_dc (pc + 1) (.iload_n 3) 1 && (lw_dc (pc + 1 + 1) (.bipush (k : Int)) 2 && (lw_dc (pc + 1 + 1 + 2) .iadd 1 && lw_dc (pc + 1 + 1 + 2 + 1) .iaload 1)))
def lw_argsB : Nat → List Nat → Nat → Bool
  | pc, [], pc' => Nat.beq pc pc'
  | pc, k :: ks, pc' => match Nat.blt k 6 with
    | true => lw_a1B pc k && lw_argsB (pc + 5) ks pc'
    | false => lw_a2B pc k && lw_argsB (pc + 6) ks pc'
theorem lw_kc : ∀ k : Nat, k < 8 → Int32.ofInt (k : Int) = nI k := by decide
theorem lw_kb : ∀ k : Nat, k < 8 → (Int8.ofInt (k : Int)).toInt32 = nI k := by decide
section LWP
variable {p : Program} {l : Launch} {e : Env} {s : State} {m : MethodId} {below : List Frame} {meth : Method} {c : Code} {b L : Nat} {xs : Nat → Int32} {D : va_G} {tc : Nat → ClassId} {ad0 : Nat → Nat} {H : Heap} {locs : List Loc} {cells slots : Nat} {ls : Array Slot} {rest : List Value} {Z : State → Prop} {i pc k : Nat}
theorem lw_a1 (C0 : lw_C p s m c b L xs D tc ad0) (hS : va_S (lw_A s) s.heap H locs) (h0 : ls[0]? = some (.val (.ref b))) (h3 : ls[3]? = some (.val (.int (nI i)))) (hB : lw_a1B pc k = true) (hk : k < 8) (hi : i + k < L) (hw : W p l e room_1 s m #[Value.ref b] below meth c H locs cells slots Z (F0 m (pc + 5) ls (.int (xs (i + k)) :: rest))) : W p l e room_1 s m #[Value.ref b] below meth c H locs cells slots Z (F0 m pc ls rest) := by
  obtain ⟨c1, c2, c3, c4, -, -, -, hX, hbl, hL⟩ := C0
  have hbA : ¬ lw_A s b := Nat.not_le.mpr hbl
  simp only [lw_a1B, Bool.and_eq_true] at hB
  obtain ⟨d0, d1, d2, d3, d4⟩ := hB
  refine lv_aload_n c1 c2 (lw_dcu d0) rfl h0 ?_
  refine lv_iload_n c1 c2 (lw_dcu d1) rfl h3 ?_
  refine lv_iconst (v := nI k) c1 c2 (lw_dcu d2) (lw_kc k hk) ?_
  refine lv_iadd c1 c2 (lw_dcu d3) ?_
  rw [nI_add]
  refine va_sld c1 c2 hX hbl hbA hS (vp_in_nI hi (by omega)) (lw_dcu d4) ?_
  rw [nI_clamp (by omega)]
  exact hw
theorem lw_a2 (C0 : lw_C p s m c b L xs D tc ad0) (hS : va_S (lw_A s) s.heap H locs) (h0 : ls[0]? = some (.val (.ref b))) (h3 : ls[3]? = some (.val (.int (nI i)))) (hB : lw_a2B pc k = true) (hk : k < 8) (hi : i + k < L) (hw : W p l e room_1 s m #[Value.ref b] below meth c H locs cells slots Z (F0 m (pc + 6) ls (.int (xs (i + k)) :: rest))) : W p l e room_1 s m #[Value.ref b] below meth c H locs cells slots Z (F0 m pc ls rest) := by
  obtain ⟨c1, c2, c3, c4, -, -, -, hX, hbl, hL⟩ := C0
  have hbA : ¬ lw_A s b := Nat.not_le.mpr hbl
  simp only [lw_a2B, Bool.and_eq_true] at hB
  obtain ⟨d0, d1, d2, d3, d4⟩ := hB
  refine lv_aload_n c1 c2 (lw_dcu d0) rfl h0 ?_
  refine lv_iload_n c1 c2 (lw_dcu d1) rfl h3 ?_
  refine lv_bipush (v := nI k) c1 c2 (lw_dcu d2) (lw_kb k hk) ?_
  refine lv_iadd c1 c2 (lw_dcu d3) ?_
  rw [nI_add]
  refine va_sld c1 c2 hX hbl hbA hS (vp_in_nI hi (by omega)) (lw_dcu d4) ?_
  rw [nI_clamp (by omega)]
  exact hw
end LWP
/-- from pc to pc' the values As come onto the stack, and nothing else happens -/
def lw_push (p : Program) (l : Launch) (e : Env) (s : State) (m : MethodId) (below : List Frame) (meth : Method) (c : Code) (b : Nat) (Z : State → Prop) (ls : Array Slot) (pc pc' : Nat) (As : List Value) : Prop :=
  ∀ (H : Heap) (locs : List Loc) (cells slots : Nat) (rest : List Value), va_S (lw_A s) s.heap H locs → W p l e room_1 s m #[Value.ref b] below meth c H locs cells slots Z (F0 m pc' ls (As.reverse ++ rest)) → W p l e room_1 s m #[Value.ref b] below meth c H locs cells slots Z (F0 m pc ls rest)
section LWQ
variable {p : Program} {l : Launch} {e : Env} {s : State} {m : MethodId} {below : List Frame} {meth : Method} {c : Code} {b L : Nat} {xs : Nat → Int32} {D : va_G} {tc : Nat → ClassId} {ad0 : Nat → Nat} {ls : Array Slot} {Z : State → Prop} {i : Nat}
theorem lw_args (C0 : lw_C p s m c b L xs D tc ad0) (h0 : ls[0]? = some (.val (.ref b))) (h3 : ls[3]? = some (.val (.int (nI i)))) (hi : i + 8 ≤ L) (pc' : Nat) : ∀ (ks : List Nat) (pc : Nat), lw_argsB pc ks pc' = true → (∀ k ∈ ks, k < 8) → lw_push p l e s m below meth c b Z ls pc pc' (ks.map fun k => Value.int (xs (i + k))) := by
  intro ks
  induction ks with
  | nil =>
    intro pc hB _ H locs cells slots rest hS hw
    have ep : pc = pc' := Nat.eq_of_beq_eq_true hB
    subst ep
    exact hw
  | cons k ks ih =>
    intro pc hB hk H locs cells slots rest hS hw
    have k8 := hk k List.mem_cons_self
    have hw' : W p l e room_1 s m #[Value.ref b] below meth c H locs cells slots Z (F0 m pc' ls ((ks.map fun k => Value.int (xs (i + k))).reverse ++ (Value.int (xs (i + k)) :: rest))) := by
      rw [List.map_cons, List.reverse_cons, List.append_assoc] at hw
      exact hw
    have IH : ∀ pc, lw_argsB pc ks pc' = true → W p l e room_1 s m #[Value.ref b] below meth c H locs cells slots Z (F0 m pc ls (Value.int (xs (i + k)) :: rest)) := fun pc hB => ih pc hB (fun k hk' => hk k (List.mem_cons_of_mem _ hk')) H locs cells slots _ hS hw'
    rw [lw_argsB] at hB
    split at hB
    · obtain ⟨b1, b2⟩ := Bool.and_eq_true_iff.mp hB
      exact lw_a1 C0 hS h0 h3 b1 k8 (by omega) (IH _ b2)
    · obtain ⟨b1, b2⟩ := Bool.and_eq_true_iff.mp hB
      exact lw_a2 C0 hS h0 h3 b1 k8 (by omega) (IH _ b2)
end LWQ
/-- the room that the kept Book may still take -/
def rC (sg : sg_T) : Nat := if sg 0 2 = 0 then 77 else 0
def rS (sg : sg_T) : Nat := if sg 0 2 = 0 then 3284 else 0
def lw_LP (mc mm : am_MI) (As : List Value) : Prop := ∀ (cg : sg_T) (fn : Nat → Option Nat) (cx : cx_T) (sg : sg_T), REL cg cx sg → ∃ (kc ks : Nat) (Qc Qm : Option Value → am_H → Prop), kc ≤ rC sg ∧ ks ≤ rS sg ∧ am_Met mc 460 kc ks (.ref 0 :: As) (hc cg fn cx) Qc ∧ am_Met mm 460 0 0 (.ref 0 :: As) (hm sg) Qm ∧ ∀ r h r' h', Qc r h → Qm r' h' → ∃ v cg' fn' cx' sg', r = some (.int v) ∧ r' = some (.int v) ∧ h = hc cg' fn' cx' ∧ h' = hm sg' ∧ REL cg' cx' sg' ∧ kc + rC sg' ≤ rC sg ∧ ks + rS sg' ≤ rS sg
theorem lw_LPof {mc mm : am_MI} {As : List Value} (h : PAIR mc mm 0 0 As) : lw_LP mc mm As := by
  intro cg fn cx sg hR
  obtain ⟨Qc, Qm, h1, h2, h3⟩ := h cg fn cx sg 460 (Nat.le_refl _) hR
  refine ⟨0, 0, Qc, Qm, Nat.zero_le _, Nat.zero_le _, h1, h2, fun r h r' h' q1 q2 => ?_⟩
  obtain ⟨v, cg', fn', cx', sg', a1, a2, a3, a4, a5, a6⟩ := h3 r h r' h' q1 q2
  exact ⟨v, cg', fn', cx', sg', a1, a2, a3, a4, a5, by unfold rC; rw [a6]; exact Nat.le_of_eq (Nat.zero_add _), by unfold rS; rw [a6]; exact Nat.le_of_eq (Nat.zero_add _)⟩
theorem lw_LPi : lw_LP mi_X11_image mi_X12_image [] := by
  intro cg fn cx sg hR
  obtain ⟨kc, ks, Qc, Qm, hk, h1, h2, h3⟩ := p_image (fn := fn) (Nat.le_refl 460) hR
  have hk1 : kc ≤ rC sg ∧ ks ≤ rS sg := by
    rcases hk with ⟨rfl, rfl⟩ | ⟨rfl, rfl, e⟩
    · exact ⟨Nat.zero_le _, Nat.zero_le _⟩
    · unfold rC rS; rw [if_pos e, if_pos e]; exact ⟨Nat.le_refl _, Nat.le_refl _⟩
  refine ⟨kc, ks, Qc, Qm, hk1.1, hk1.2, h1, h2, fun r h r' h' q1 q2 => ?_⟩
  obtain ⟨v, cg', fn', cx', sg', a1, a2, a3, a4, a5, a6⟩ := h3 r h r' h' q1 q2
  have z1 : rC sg' = 0 := if_neg a6
  have z2 : rS sg' = 0 := if_neg a6
  exact ⟨v, cg', fn', cx', sg', a1, a2, a3, a4, a5, by rw [z1]; exact hk1.1, by rw [z2]; exact hk1.2⟩
/-- the two worlds, the class's and the reference's, in the heap H -/
def lw_I (s : State) (D : va_G) (tc : Nat → ClassId) (ad0 : Nat → Nat) (q1 q2 : Nat) (cg : sg_T) (fn : Nat → Option Nat) (cx : cx_T) (sg : sg_T) (H : Heap) (locs : List Loc) : Prop :=
  ∃ adc adm : Nat → Nat, adc 0 = q1 ∧ adm 0 = q2 ∧ am_ag [] ad0 adc (hc cg fn cx) ∧ am_ag [] ad0 adm (hm sg) ∧ va_P D am_cls (am_w adc tc (hc cg fn cx)) H ∧ va_D (lw_A s) (am_w adc tc (hc cg fn cx)) ∧ va_P D am_cls (am_w adm tc (hm sg)) H ∧ va_D (lw_A s) (am_w adm tc (hm sg)) ∧ lw_ap (am_w adc tc (hc cg fn cx)) (am_w adm tc (hm sg)) ∧ va_S (lw_A s) s.heap H locs
/-- with class and reference alike, from the place pc on the law comes to its end -/
def lw_G (p : Program) (l : Launch) (e : Env) (s : State) (m : MethodId) (below : List Frame) (meth : Method) (c : Code) (b : Nat) (D : va_G) (tc : Nat → ClassId) (ad0 : Nat → Nat) (Z : State → Prop) (q1 q2 : Nat) (ls : Array Slot) (pc : Nat) : Prop :=
  ∀ (cg : sg_T) (fn : Nat → Option Nat) (cx : cx_T) (sg : sg_T) (H : Heap) (locs : List Loc) (cells slots : Nat), REL cg cx sg → lw_I s D tc ad0 q1 q2 cg fn cx sg H locs → cells + rC sg ≤ 600000 → slots + rS sg ≤ 7302249 → W p l e room_1 s m #[Value.ref b] below meth c H locs cells slots Z (F0 m pc ls [])
theorem lw_tr {h0 h h' : am_H} {ad0 ad ad' : Nat → Nat} (a : am_ag h0 ad0 ad h) (b : am_ag h ad ad' h') : am_ag h0 ad0 ad' h' := ⟨Nat.le_trans a.1 b.1, b.2.1, fun i hi => by
    have a1 := a.1
    have a2 := b.1
    rw [b.2.2 i (by omega), a.2.2 i (by omega)]⟩
theorem lw_cat (r : Option Value) : ((r.toList ++ []).map fun v : Value => v.category).sum ≤ 8 := by
  cases r with
  | none => exact Nat.zero_le _
  | some v => cases v <;> exact Nat.le_of_ble_eq_true rfl
def lw_lv (b q1 q2 i : Nat) : List (Nat × Value) := [(0, .ref b), (1, .ref q1), (2, .ref q2), (3, .int (nI i))]
section LWO
variable {p : Program} {l : Launch} {e : Env} {s : State} {m : MethodId} {below : List Frame} {meth : Method} {c : Code} {b L : Nat} {xs : Nat → Int32} {D : va_G} {tc : Nat → ClassId} {ad0 : Nat → Nat} {ls : Array Slot} {Z : State → Prop} {i q1 q2 : Nat}
/-- a call of the class, the same of the reference, and their answers are one -/
theorem lw_one {mc mm : am_MI} {As : List Value} {n ix1 ix2 pc0 pc1 pc2 : Nat} {off : Int} (C0 : lw_C p s m c b L xs D tc ad0) (hl : lv_has ls 4 (lw_lv b q1 q2 i)) (hp : lw_LP mc mm As) (l1 : lw_L mc ix1 n RX11) (l2 : lw_L mm ix2 n RX12) (hAs : ∀ ad : Nat → Nat, As.map (am_v ad) = As) (hn : As.length = n)
    (d0 : decode code pc0 = .ok (.aload_n 1, 1)) (u1 : lw_push p l e s m below meth c b Z ls (pc0 + 1) pc1 As) (d1 : decode code pc1 = .ok (.invokevirtual ix1, 3)) (d2 : decode code (pc1 + 3) = .ok (.aload_n 2, 1)) (u2 : lw_push p l e s m below meth c b Z ls (pc1 + 3 + 1) pc2 As) (d3 : decode code pc2 = .ok (.invokevirtual ix2, 3)) (d4 : decode code (pc2 + 3) = .ok (.if_icmp .eq off, 3)) (ho : ((pc2 + 3 : Nat) : Int) + off = ((1296 : Nat) : Int))
    (next : lw_G p l e s m below meth c b D tc ad0 Z q1 q2 ls 1296) : lw_G p l e s m below meth c b D tc ad0 Z q1 q2 ls pc0 := by
  intro cg fn cx sg H locs cells slots hR hI hkc hks
  obtain ⟨kc, ks, Qc, Qm, k1, k2, M1, M2, hO⟩ := hp cg fn cx sg hR
  obtain ⟨adc, adm, e1, e2, g1, g2, P1, D1, P2, D2, ap, hS⟩ := hI
  have hx := C0.1
  have hb := C0.2.1
  refine lv_aload_n (x := q1) hx hb d0 rfl (lv_at hl 1 rfl) ?_
  refine u1 H locs cells slots _ hS ?_
  rw [← e1]
  refine lw_cV (h := hc cg fn cx) (ci := 11) (q := (RX11, TX11, 7)) (wr := am_w adm tc (hm sg)) C0 rfl l1 rfl d1 M1 hAs hn (Nat.le_of_ble_eq_true rfl) hl.1 (by omega) (by omega) g1 P1 D1 P2 ap hS (fun r h' ad' H' locs' hq hag P1' D1' P2' ap' hS' => ?_)
  have hcat := lw_cat (r.map (am_v ad'))
  generalize hst : (r.map (am_v ad')).toList ++ [] = st at hcat ⊢
  refine lv_aload_n (x := q2) hx hb d2 rfl (lv_at hl 2 rfl) ?_
  refine u2 H' locs' _ _ _ hS' ?_
  rw [← e2]
  refine lw_cV (h := hm sg) (ci := 12) (q := (RX12, TX12, 15)) (wr := am_w ad' tc h') (rest := st) C0 rfl l2 rfl d3 M2 hAs hn hcat hl.1 (by omega) (by omega) g2 P2' D2 P1' ap'.symm hS' (fun r2 h2 ad2 H2 locs2 hq2 hag2 P2b D2b P1b apb hSb => ?_)
  obtain ⟨v, cg', fn', cx', sg', rfl, rfl, rfl, rfl, hR', k3, k4⟩ := hO r h' r2 h2 hq hq2
  subst hst
  refine lv_icmp_eq (x := v) (y := v) (rest := []) (tgt := 1296) hx hb d4 ho (fun _ => ?_) (fun z => absurd rfl z)
  refine next cg' fn' cx' sg' H2 locs2 _ _ hR' ⟨ad', ad2, ?_, ?_, lw_tr g1 hag, lw_tr g2 hag2, P1b, D1', P2b, D2b, apb.symm, hSb⟩ (by omega) (by omega)
  · rw [hag.2.2 0 (Or.inl (Nat.zero_lt_succ _))]; exact e1
  · rw [hag2.2.2 0 (Or.inl (Nat.zero_lt_succ _))]; exact e2
end LWO
