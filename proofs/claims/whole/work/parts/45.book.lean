/-! the Book's methods -/
theorem tf_at {j : Nat} (h : j < 20) : tfX j = some (18 + 3 * j) := if_pos h
theorem tp_bit {P : Nat → Int32} {n k : Nat} (hn : P 3 = nI n) (n20 : n ≤ 20) (hk : k < 32) : bq (tpX P) k = (decide (k < n) && decide (P (94 + k) = 0)) := by
  unfold tpX
  rw [pn_of hn (by omega), bq_orB hk (by omega)]
theorem c_hasStep {cg : sg_T} {fn : Nat → Option Nat} {cx : cx_T} {P : Nat → Int32} (hB : BR 1 cg P) {d : Nat} (hd : 1 ≤ d) {R Q : Nat} (hA : pfA P R Q) (v s : Int32) : am_Met mi_X0_hasStep d 0 0 [.ref 1, .int v, .int s] (hc cg fn cx) (fun r' h' => r' = some (.int (bI (decide (isSt P v s)))) ∧ h' = (hc cg fn cx)) := by
  refine am_Met.of rfl (Nat.le_of_ble_eq_true rfl) ?_
  refine am_go ok_X0_hasStep [] 75 ?_
  have h4 : cg 2 4 = nI Q := (hB.c 4 (by omega)).trans hA.1
  have Q12 := hA.2.1
  refine ⟨_, rfl, d - 1, 0, 0, _, by omega, Nat.le_of_ble_eq_true rfl, Nat.le_of_ble_eq_true rfl, Nat.le_of_ble_eq_true rfl, c_has (w := 4) (n := Q) (d - 1) v rfl (by omega) h4 (by omega), ?_⟩
  rintro _ _ ⟨rfl, rfl⟩
  refine ⟨Or.inl rfl, ?_⟩
  refine ⟨fun c6 => ?_, fun c6 => ?_⟩
  · have q : ¬ isSt P v s := fun z => bI_f c6 (by rw [← hA.1]; exact z.1)
    refine ⟨rfl, ?_⟩
    first
    | rw [bI_dt q]; exact ⟨rfl, rfl⟩
    | rw [bI_df q]; exact ⟨rfl, rfl⟩
  · obtain ⟨j, ej, cj, jl⟩ := ix_at hA.1 (by omega) (show inI v 0 (P 4 - 1) by rw [hA.1]; exact bI_t c6)
    obtain ⟨-, st, st12, est, -⟩ := hA.2.2 j jl
    refine ⟨fun c10 => ?_, fun c10 => ?_⟩
    · have q : ¬ isSt P v s := fun z => i_ltn c10 z.2.1
      refine ⟨rfl, ?_⟩
      first
      | rw [bI_dt q]; exact ⟨rfl, rfl⟩
      | rw [bI_df q]; exact ⟨rfl, rfl⟩
    · refine ⟨_, _, rfl, rfl, ?_⟩
      refine ⟨_, _, j, rfl, ej, by omega, Nat.le_of_ble_eq_true rfl, ?_⟩
      rw [hB.s j (by omega), est]
      refine ⟨fun c20 => ?_, fun c20 => ?_⟩
      · have q : ¬ isSt P v s := fun z => absurd ((lt_in (n := st) est (by omega)).mpr (by have := z.2; rw [cj] at this; exact this)).2 (by rw [est]; exact i_len c20)
        refine ⟨rfl, ?_⟩
        first
        | rw [bI_dt q]; exact ⟨rfl, rfl⟩
        | rw [bI_df q]; exact ⟨rfl, rfl⟩
      · have q : isSt P v s := ⟨by rw [hA.1]; exact bI_t c6, by rw [cj]; exact (lt_in est (by omega)).mp ⟨i_nlt c10, by rw [est]; exact i_nle c20⟩⟩
        refine ⟨rfl, ?_⟩
        first
        | rw [bI_dt q]; exact ⟨rfl, rfl⟩
        | rw [bI_df q]; exact ⟨rfl, rfl⟩
theorem c_isTrue {cg : sg_T} {fn : Nat → Option Nat} {cx : cx_T} {P : Nat → Int32} (hB : BR 1 cg P) {d : Nat} (hd : 1 ≤ d) {n : Nat} (hn : P 3 = nI n) (n20 : n ≤ 20) (v : Int32) : am_Met mi_X0_isTrue d 0 0 [.ref 1, .int v] (hc cg fn cx) (fun r' h' => r' = some (.int (bI (decide (inI v 0 (P 3 - 1) ∧ P (94 + cN v) = 0)))) ∧ h' = (hc cg fn cx)) := by
  refine am_Met.of rfl (Nat.le_of_ble_eq_true rfl) ?_
  refine am_go ok_X0_isTrue [] 74 ?_
  refine ⟨_, rfl, d - 1, 0, 0, _, by omega, Nat.le_of_ble_eq_true rfl, Nat.le_of_ble_eq_true rfl, Nat.le_of_ble_eq_true rfl, c_has (w := 3) (n := n) (d - 1) v rfl (by omega) ((hB.c 3 (by omega)).trans hn) (by omega), ?_⟩
  rintro _ _ ⟨rfl, rfl⟩
  refine ⟨Or.inl rfl, ?_⟩
  refine ⟨fun c6 => ?_, fun c6 => ?_⟩
  · have q : ¬ (inI v 0 (P 3 - 1) ∧ P (94 + cN v) = 0) := fun z => bI_f c6 (by rw [← hn]; exact z.1)
    refine ⟨rfl, ?_⟩
    first
    | rw [bI_dt q]; exact ⟨rfl, rfl⟩
    | rw [bI_df q]; exact ⟨rfl, rfl⟩
  · obtain ⟨j, ej, cj, jl⟩ := ix_at hn (by omega) (show inI v 0 (P 3 - 1) by rw [hn]; exact bI_t c6)
    have bt := tp_bit (k := j) hn n20 (by omega)
    rw [decide_eq_true jl, Bool.true_and] at bt
    refine ⟨_, _, rfl, rfl, ?_⟩
    rw [hB.tp]
    refine ⟨fun c17 => ?_, fun c17 => ?_⟩
    · have q : ¬ (inI v 0 (P 3 - 1) ∧ P (94 + cN v) = 0) := by
        rw [cj]; intro z
        rw [ej, shr_e0 (by omega), bt] at c17
        exact of_decide_eq_false c17 z.2
      refine ⟨rfl, ?_⟩
      first
      | rw [bI_dt q]; exact ⟨rfl, rfl⟩
      | rw [bI_df q]; exact ⟨rfl, rfl⟩
    · have q : inI v 0 (P 3 - 1) ∧ P (94 + cN v) = 0 := by
        refine ⟨by rw [hn]; exact bI_t c6, ?_⟩
        rw [cj]
        rw [ej, shr_e0 (by omega), bt] at c17
        by_cases z : P (94 + j) = 0
        · exact z
        · exact absurd (decide_eq_false z) c17
      refine ⟨rfl, ?_⟩
      first
      | rw [bI_dt q]; exact ⟨rfl, rfl⟩
      | rw [bI_df q]; exact ⟨rfl, rfl⟩
theorem c_changeOn_l {cg : sg_T} {fn : Nat → Option Nat} {cx : cx_T} {P : Nat → Int32} (hB : BR 1 cg P) {d kc ks : Nat} {r dy : Int32} {n : Nat} (hn : P 2 = nI n) (hb : n ≤ 12) : ∀ (u k : Nat) (z w : Int32) (b : Option Nat) (t : Option Value), z = nI k → chF (pRu P) (pDa P) r dy k = b → w = chI (-1) b → k ≤ n → n < k + u → am_W mi_X0_changeOn d (fun r' h' => r' = some (.int (chI (-1) (chF (pRu P) (pDa P) r dy n))) ∧ h' = (hc cg fn cx)) kc ks 5 [some (.ref 1), some (.int r), some (.int dy), some (.int w), some (.int z), t] [] (hc cg fn cx) := by
  intro u
  induction u with
  | zero => intro k z w b t hz hbb hw h1 h2; exact absurd h2 (by omega)
  | succ u ih =>
    intro k z w b t hz hbb hw h1 h2
    refine am_go ok_X0_changeOn [5] 84 ?_
    refine ⟨_, _, rfl, rfl, ?_⟩
    refine ⟨_, _, 2, rfl, rfl, Nat.le_of_ble_eq_true rfl, Nat.le_of_ble_eq_true rfl, ?_⟩
    rw [hB.c 2 (by omega), hn]
    refine ⟨fun c13 => ?_, fun c13 => ?_⟩
    · rw [hz] at c13
      have k1 : k = n := by have := (nI_leI (by omega) (by omega)).mp c13; omega
      subst k1
      refine ⟨trivial, ?_⟩
      exact ⟨by rw [hw, hbb], rfl⟩
    · have k1 : k < n := by
        rcases Nat.lt_or_ge k n with q1 | q1
        · exact q1
        · exact absurd (by rw [hz]; exact (nI_leI (by omega) (by omega)).mpr q1) c13
      refine ⟨_, _, rfl, rfl, ?_⟩
      refine ⟨_, _, k, rfl, hz, by omega, Nat.le_of_ble_eq_true rfl, ?_⟩
      rw [hB.cr k (by omega)]
      refine ⟨fun c24 => ?_, fun c24 => ?_⟩
      · refine ⟨fun _ => ?_, fun e => absurd rfl e⟩
        exact ih (k + 1) _ _ _ _ (by rw [hz]; exact nI_1 k) (chF_n (fun q => c24 q.1)) (by rw [hbb, hw]) (by omega) (by omega)
      · refine ⟨_, _, rfl, rfl, ?_⟩
        refine ⟨_, _, k, rfl, hz, by omega, Nat.le_of_ble_eq_true rfl, ?_⟩
        rw [hB.cd k (by omega)]
        refine ⟨fun c35 => ?_, fun c35 => ?_⟩
        · refine ⟨fun _ => ?_, fun e => absurd rfl e⟩
          exact ih (k + 1) _ _ _ _ (by rw [hz]; exact nI_1 k) (chF_n (fun q => i_ltn c35 q.2)) (by rw [hbb, hw]) (by omega) (by omega)
        · refine ⟨fun c47 => absurd c47 (by decide), fun _ => ?_⟩
          refine ⟨fun c51 => ?_, fun c51 => ?_⟩
          · cases b with
            | some j => exact absurd (by rw [hw] at c51; exact c51) (nI_pos (by have := chF_lt hbb; omega))
            | none => exact ih (k + 1) _ _ _ _ (by rw [hz]; exact nI_1 k) (chF_y c24 (i_nlt c35) (fun j e => by rw [hbb] at e; cases e)) (by rw [hz]; rfl) (by omega) (by omega)
          · cases b with
            | none => exact absurd (by rw [hw]; decide) c51
            | some j =>
              have hj := chF_lt hbb
              refine ⟨_, _, rfl, rfl, ?_⟩
              refine ⟨_, _, k, rfl, hz, by omega, Nat.le_of_ble_eq_true rfl, ?_⟩
              rw [hB.cd k (by omega)]
              refine ⟨_, _, rfl, rfl, ?_⟩
              refine ⟨_, _, j, rfl, hw, by omega, Nat.le_of_ble_eq_true rfl, ?_⟩
              rw [hB.cd j (by omega)]
              refine ⟨fun c67 => ?_, fun c67 => ?_⟩
              · exact ih (k + 1) _ _ _ _ (by rw [hz]; exact nI_1 k) (chF_o hbb (i_ltn c67)) (by rw [hbb, hw]) (by omega) (by omega)
              · exact ih (k + 1) _ _ _ _ (by rw [hz]; exact nI_1 k) (chF_y c24 (i_nlt c35) (fun i e => by rw [hbb] at e; cases e; exact i_nlt c67)) (by rw [hz]; rfl) (by omega) (by omega)
theorem c_changeOn {cg : sg_T} {fn : Nat → Option Nat} {cx : cx_T} {P : Nat → Int32} (hB : BR 1 cg P) (d : Nat) {r dy : Int32} {n : Nat} (hn : P 2 = nI n) (hb : n ≤ 12) : am_Met mi_X0_changeOn d 0 0 [.ref 1, .int r, .int dy] (hc cg fn cx) (fun r' h' => r' = some (.int (chI (-1) (chF (pRu P) (pDa P) r dy n))) ∧ h' = (hc cg fn cx)) := by
  refine am_Met.of rfl (Nat.le_of_ble_eq_true rfl) ?_
  refine am_go ok_X0_changeOn [5] 64 ?_
  exact c_changeOn_l hB hn hb (n + 1) 0 0 (-1) none none rfl rfl rfl (by omega) (by omega)
/-- the number of the class's Text that a RULE has on a DAY -/
def ctN (P : Nat → Int32) (r : Nat) (dy : Int32) : Nat := match chF (pRu P) (pDa P) (nI r) dy (pn P 2) with
  | none => r
  | some c => 8 + c
theorem ct_rel {cg : sg_T} {P : Nat → Int32} (hB : BR 1 cg P) {R C n r : Nat} {dy : Int32} (hW : wkA P R C n) (hr : r < R) : txR cg (18 + 3 * ctN P r dy) P (txX P r dy) ∧ ctN P r dy < 20 := by
  have p1 := pn_of hW.1 (by have := hW.2.1; omega)
  have p2 := pn_of hW.2.2.1 (by have := hW.2.2.2.1; omega)
  have R8 := hW.2.1; have C12 := hW.2.2.2.1
  unfold ctN txX txN
  rw [show (P 2).toNatClampNeg = pn P 2 from rfl]
  cases e : chF (pRu P) (pDa P) (nI r) dy (pn P 2) with
  | none => exact ⟨hB.xr r (by omega), by show r < 20; omega⟩
  | some c =>
    have := chF_lt e
    exact ⟨hB.xc c (by omega), by show 8 + c < 20; omega⟩
theorem nI_ge0 (c : Nat) (h : c < 2 ^ 31) : 0 ≤ nI c := (nI_leI (a := 0) (by omega) h).mpr (by omega)
theorem c_textOn {cg : sg_T} {fn : Nat → Option Nat} {cx : cx_T} {P : Nat → Int32} (hB : BR 1 cg P) {d : Nat} (hd : 1 ≤ d) {r : Int32} (dy : Int32) {n q : Nat} (hr : r = nI q) (hq : q < 8) (hn : P 2 = nI n) (hb : n ≤ 12) : am_Met mi_X0_textOn d 0 0 [.ref 1, .int r, .int dy] (hc cg fn cx) (fun r h' => r = some (.ref (18 + 3 * ctN P q dy)) ∧ h' = (hc cg fn cx)) := by
  refine am_Met.of rfl (Nat.le_of_ble_eq_true rfl) ?_
  refine am_go ok_X0_textOn [] 64 ?_
  refine ⟨_, rfl, d - 1, 0, 0, _, by omega, Nat.le_of_ble_eq_true rfl, Nat.le_of_ble_eq_true rfl, Nat.le_of_ble_eq_true rfl, c_changeOn hB (d - 1) hn hb, ?_⟩
  rintro _ _ ⟨rfl, rfl⟩
  refine ⟨Or.inl rfl, ?_⟩
  have e0 : pn P 2 = n := pn_of hn (by omega)
  cases e : chF (pRu P) (pDa P) r dy n with
  | none =>
    have e1 : ctN P q dy = q := by unfold ctN; rw [e0, ← hr, e]
    refine ⟨fun c13 => absurd c13 (by decide), fun c13 => ?_⟩
    refine ⟨_, _, rfl, rfl, ?_⟩
    refine ⟨_, _, q, _, rfl, hr, by omega, Nat.le_of_ble_eq_true rfl, tf_at (by omega), ?_⟩
    exact ⟨by rw [e1], rfl⟩
  | some c =>
    have hc := chF_lt e
    have e1 : ctN P q dy = 8 + c := by unfold ctN; rw [e0, ← hr, e]
    refine ⟨fun c13 => ?_, fun c13 => absurd (nI_ge0 c (by omega)) c13⟩
    refine ⟨_, _, rfl, rfl, ?_⟩
    refine ⟨_, _, 8 + c, _, rfl, nI_add 8 c, by omega, Nat.le_of_ble_eq_true rfl, tf_at (by omega), ?_⟩
    exact ⟨by rw [e1], rfl⟩
theorem c_rowOf {h : am_H} (d : Nat) {q s : Nat} {vq vs : Int32} (hq : vq = nI q) (hs : vs = nI s) : am_Met mi_X0_rowOf d 0 0 [.ref 1, .int vq, .int vs] h (fun r h' => r = some (.int (nI (72 * q + 6 * s))) ∧ h' = h) := by
  refine am_Met.of rfl (Nat.le_of_ble_eq_true rfl) ?_
  refine am_go ok_X0_rowOf [] 67 ?_
  refine ⟨trivial, ?_⟩
  exact ⟨by rw [hq, hs, show (nI q * 12 + nI s) * 6 = nI (72 * q + 6 * s) from by show (nI q * nI 12 + nI s) * nI 6 = _; rw [pk_mul, nI_add, pk_mul]; congr 1; omega], rfl⟩
theorem c_takesEnds {cg : sg_T} {fn : Nat → Option Nat} {cx : cx_T} {P : Nat → Int32} (hB : BR 1 cg P) (d : Nat) {q : Nat} {vq : Int32} (hq : vq = nI q) (q12 : q < 12) {k : Nat} (hk : P (114 + q) = nI k) (k5 : k < 5) : am_Met mi_X0_takesEnds d 0 0 [.ref 1, .int vq] (hc cg fn cx) (fun r' h' => r' = some (.int (bI (decide (pn P (114 + q) = 2 ∨ pn P (114 + q) = 3)))) ∧ h' = (hc cg fn cx)) := by
  refine am_Met.of rfl (Nat.le_of_ble_eq_true rfl) ?_
  refine am_go ok_X0_takesEnds [] 74 ?_
  have pk := pn_of hk (by omega)
  refine ⟨_, _, rfl, rfl, ?_⟩
  refine ⟨_, _, q, rfl, hq, by omega, Nat.le_of_ble_eq_true rfl, ?_⟩
  rw [hB.k q (by omega), hk]
  refine ⟨fun c7 => ?_, fun c7 => ?_⟩
  · have q : pn P (114 + q) = 2 ∨ pn P (114 + q) = 3 := Or.inl (pk.trans ((nI_eq (b := 2) (by omega) (by omega)).mp c7))
    refine ⟨rfl, ?_⟩
    first
    | rw [bI_dt q]; exact ⟨rfl, rfl⟩
    | rw [bI_df q]; exact ⟨rfl, rfl⟩
  · refine ⟨_, _, rfl, rfl, ?_⟩
    refine ⟨_, _, q, rfl, hq, by omega, Nat.le_of_ble_eq_true rfl, ?_⟩
    rw [hB.k q (by omega), hk]
    refine ⟨fun c17 => ?_, fun c17 => ?_⟩
    · have q : ¬ (pn P (114 + q) = 2 ∨ pn P (114 + q) = 3) := by
        rw [pk]
        rintro (z | z)
        · exact c7 (by rw [z]; rfl)
        · exact c17 (by rw [z]; rfl)
      refine ⟨rfl, ?_⟩
      first
      | rw [bI_dt q]; exact ⟨rfl, rfl⟩
      | rw [bI_df q]; exact ⟨rfl, rfl⟩
    · have q : pn P (114 + q) = 2 ∨ pn P (114 + q) = 3 := Or.inr (pk.trans ((nI_eq (b := 3) (by omega) (by omega)).mp c17))
      refine ⟨rfl, ?_⟩
      first
      | rw [bI_dt q]; exact ⟨rfl, rfl⟩
      | rw [bI_df q]; exact ⟨rfl, rfl⟩
theorem c_takesHoles {cg : sg_T} {fn : Nat → Option Nat} {cx : cx_T} {P : Nat → Int32} (hB : BR 1 cg P) (d : Nat) {q : Nat} {vq : Int32} (hq : vq = nI q) (q12 : q < 12) {k : Nat} (hk : P (114 + q) = nI k) (k5 : k < 5) : am_Met mi_X0_takesHoles d 0 0 [.ref 1, .int vq] (hc cg fn cx) (fun r' h' => r' = some (.int (bI (decide (pn P (114 + q) = 1 ∨ pn P (114 + q) = 4)))) ∧ h' = (hc cg fn cx)) := by
  refine am_Met.of rfl (Nat.le_of_ble_eq_true rfl) ?_
  refine am_go ok_X0_takesHoles [] 74 ?_
  have pk := pn_of hk (by omega)
  refine ⟨_, _, rfl, rfl, ?_⟩
  refine ⟨_, _, q, rfl, hq, by omega, Nat.le_of_ble_eq_true rfl, ?_⟩
  rw [hB.k q (by omega), hk]
  refine ⟨fun c7 => ?_, fun c7 => ?_⟩
  · have q : pn P (114 + q) = 1 ∨ pn P (114 + q) = 4 := Or.inl (pk.trans ((nI_eq (b := 1) (by omega) (by omega)).mp c7))
    refine ⟨rfl, ?_⟩
    first
    | rw [bI_dt q]; exact ⟨rfl, rfl⟩
    | rw [bI_df q]; exact ⟨rfl, rfl⟩
  · refine ⟨_, _, rfl, rfl, ?_⟩
    refine ⟨_, _, q, rfl, hq, by omega, Nat.le_of_ble_eq_true rfl, ?_⟩
    rw [hB.k q (by omega), hk]
    refine ⟨fun c17 => ?_, fun c17 => ?_⟩
    · have q : ¬ (pn P (114 + q) = 1 ∨ pn P (114 + q) = 4) := by
        rw [pk]
        rintro (z | z)
        · exact c7 (by rw [z]; rfl)
        · exact c17 (by rw [z]; rfl)
      refine ⟨rfl, ?_⟩
      first
      | rw [bI_dt q]; exact ⟨rfl, rfl⟩
      | rw [bI_df q]; exact ⟨rfl, rfl⟩
    · have q : pn P (114 + q) = 1 ∨ pn P (114 + q) = 4 := Or.inr (pk.trans ((nI_eq (b := 4) (by omega) (by omega)).mp c17))
      refine ⟨rfl, ?_⟩
      first
      | rw [bI_dt q]; exact ⟨rfl, rfl⟩
      | rw [bI_df q]; exact ⟨rfl, rfl⟩
