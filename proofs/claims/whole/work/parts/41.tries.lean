/-! runsOnce, runsTry, runsTactic -/
def leF (F F' : Nat → Bool) : Prop := ∀ f, F f = true → F' f = true
theorem leF.rf {F : Nat → Bool} : leF F F := fun _ h => h
theorem leF.tr {F G H : Nat → Bool} (h : leF F G) (g : leF G H) : leF F H := fun f k => g f (h f k)
def lwF (F : Nat → Bool) : Prop := ∀ f, 750 ≤ f → F f = false
theorem ruS_le {S : sy_T} {N r : Nat} {st : rs_T} (h : lwF st.1) : leF st.1 (ruS S N r st).1 ∧ lwF (ruS S N r st).1 := by
  unfold ruS
  by_cases q : r < sy_R S ∧ ¬ st.2 = N
  · rw [iF_p q]
    refine ⟨fun f hf => ?_, fun f hf => rnF_hi hf⟩
    show rnF S st.1 r f = true
    unfold rnF
    have f7 : f < 750 := by
      rcases Nat.lt_or_ge f 750 with z | z
      · exact z
      · rw [h f z] at hf; cases hf
    rw [iF_p ⟨f7, Or.inl hf⟩]
  · rw [iF_n q]; exact ⟨leF.rf, h⟩
abbrev leK (K : Nat → rs_T → rs_T) : Prop := ∀ i st, lwF st.1 → leF st.1 (K i st).1 ∧ lwF (K i st).1
theorem onS_le {S : sy_T} {N : Nat} {B : Nat → Int32} {K : Nat → rs_T → rs_T} (hK : leK K) {i : Nat} {st : rs_T} (h : lwF st.1) : leF st.1 (onS S N B K i st).1 ∧ lwF (onS S N B K i st).1 := by
  unfold onS
  by_cases q : B i = 40
  · rw [iF_p q]; exact hK _ _ h
  · rw [iF_n q]; exact ruS_le h
theorem srS_le {S : sy_T} {N : Nat} {B : Nat → Int32} {K : Nat → rs_T → rs_T} (hK : leK K) {i : Nat} : ∀ (u : Nat) (st : rs_T), lwF st.1 → leF st.1 (srS S N B K i u st).1 ∧ lwF (srS S N B K i u st).1
  | 0, st, h => ⟨leF.rf, h⟩
  | u + 1, st, h => by
    obtain ⟨a, b⟩ := onS_le (S := S) (N := N) (B := B) (i := i) hK h
    rw [srS]
    by_cases q : B (btE B i - 1) = 42 ∧ grw st.1 (onS S N B K i st).1
    · rw [iF_p q]
      obtain ⟨c, e⟩ := srS_le (S := S) (N := N) (B := B) (i := i) hK u _ b
      exact ⟨a.tr c, e⟩
    · rw [iF_n q]; exact ⟨a, b⟩
theorem hst_le {S : sy_T} {N : Nat} {B : Nat → Int32} {K : Nat → rs_T → rs_T} (hK : leK K) {i : Nat} {had : Bool} {st : rs_T} (h : lwF st.1) : leF st.1 (iF (had = true) st (trS S N B K i st)).1 ∧ lwF (iF (had = true) st (trS S N B K i st)).1 := by
  by_cases q : had = true
  · rw [iF_p q]; exact ⟨leF.rf, h⟩
  · rw [iF_n q]; exact srS_le hK 751 st h
theorem pcS_le {S : sy_T} {N : Nat} {B : Nat → Int32} {K : Nat → rs_T → rs_T} (hK : leK K) : ∀ (u i : Nat) (had : Bool) (st : rs_T), lwF st.1 → leF st.1 (pcS S N B K u i had st).1 ∧ lwF (pcS S N B K u i had st).1
  | 0, i, had, st, h => ⟨leF.rf, h⟩
  | u + 1, i, had, st, h => by
    obtain ⟨a, b⟩ := hst_le (S := S) (N := N) (B := B) (i := i) (had := had) hK h
    rw [pcS]
    by_cases q : B (btE B i) = 124
    · rw [iF_p q]
      obtain ⟨c, e⟩ := pcS_le (S := S) (N := N) (B := B) hK u (btE B i + 1) (had || gwB st.1 (trS S N B K i st).1) _ b
      exact ⟨a.tr c, e⟩
    · rw [iF_n q]
      by_cases q2 : B (btE B i) = 59
      · rw [iF_p q2]
        obtain ⟨c, e⟩ := pcS_le (S := S) (N := N) (B := B) hK u (btE B i + 1) false _ b
        exact ⟨a.tr c, e⟩
      · rw [iF_n q2]; exact ⟨a, b⟩
theorem taS_le {S : sy_T} {N : Nat} {B : Nat → Int32} : ∀ e, leK (taS S N B e)
  | 0 => fun _ _ h => ⟨leF.rf, h⟩
  | e + 1 => fun i st h => pcS_le (taS_le e) 120 i false st h
theorem gw_t {F F' : Nat → Bool} : gwB F F' = true ↔ grw F F' := by
  unfold gwB
  by_cases q : grw F F'
  · rw [iF_p q]; exact ⟨fun _ => q, fun _ => rfl⟩
  · rw [iF_n q]; exact ⟨fun w => absurd w (by decide), fun w => absurd w q⟩
theorem gw_e {F F' : Nat → Bool} {b : Bool} (h : b = true ↔ grw F F') : b = gwB F F' := by
  cases b with
  | true => exact (gw_t.mpr (h.mp rfl)).symm
  | false =>
    cases e : gwB F F' with
    | false => rfl
    | true => exact absurd (h.mpr (gw_t.mp e)) (by decide)
theorem grw_tr {F G H : Nat → Bool} (h : leF F G) (g : leF G H) : grw F H ↔ (grw F G ∨ grw G H) := by
  constructor
  · rintro ⟨f, hf, h1, h2⟩
    cases e : G f with
    | true => exact Or.inl ⟨f, hf, h1, e⟩
    | false => exact Or.inr ⟨f, hf, e, h2⟩
  · rintro (⟨f, hf, h1, h2⟩ | ⟨f, hf, h1, h2⟩)
    · exact ⟨f, hf, h1, g f h2⟩
    · refine ⟨f, hf, ?_, h2⟩
      cases e : F f with
      | false => rfl
      | true => exact absurd (h1.symm.trans (h f e)) (by decide)
theorem cnF_lt {p q : Nat → Bool} (h : leF p q) {n k : Nat} (hk : k < n) (h1 : p k = false) (h2 : q k = true) : cnN p n < cnN q n := cnN_lt n (fun k _ => h k) hk h2 h1
theorem iF_or {had b : Bool} {st st' : rs_T} (hb : b = true ↔ grw st.1 st'.1) : (had || gwB st.1 st'.1) = (had || b) := by rw [← gw_e hb]
/-- a tactic t runs; it is whole -/
def rcT (sg0 : sg_T) (t n R C n0 : Nat) : Prop := wkA (sg0 1) R C n0 ∧ t < 6 ∧ sg0 1 (1032 + t) = nI n ∧ tcW (bA (sg0 1) t) n
section
variable {sg0 sg : sg_T} {t n R C n0 N : Nat} {st : rs_T}
theorem rc_11 (hI : rsI sg0 t N sg st) : sg 0 11 = nI t := hI.2.2.2.1
theorem rc_n (hT : rcT sg0 t n R C n0) (hI : rsI sg0 t N sg st) : sg 1 (1032 + t) = nI n := by have := hT.2.1; rw [hI.ag _ (by omega)]; exact hT.2.2.1
theorem rc_B (hT : rcT sg0 t n R C n0) (hI : rsI sg0 t N sg st) : bA (sg 1) t = bA (sg0 1) t := hI.bA hT.2.1 hT.2.2.1 hT.2.2.2.1
theorem rc_W (hT : rcT sg0 t n R C n0) (hI : rsI sg0 t N sg st) : tcW (bA (sg 1) t) n := by rw [rc_B hT hI]; exact hT.2.2.2
theorem m_byR (hT : rcT sg0 t n R C n0) (hI : rsI sg0 t N sg st) (d : Nat) {i : Nat} {v : Int32} (hv : v = nI i) (i1 : i ≤ 240) : am_Met mi_X12_byteAt d 0 0 [.ref 0, .int v] (hm sg) (fun r h' => r = some (.int (bA (sg0 1) t i)) ∧ h' = hm sg) := by
  have := m_byteAt d hv i1 hT.2.1 (rc_11 hI) (rc_n hT hI) hT.2.2.2.1
  rw [rc_B hT hI] at this
  exact this
theorem m_btR (hT : rcT sg0 t n R C n0) (hI : rsI sg0 t N sg st) {d : Nat} (hd : 1 ≤ d) {i o : Nat} {v : Int32} (hv : v = nI i) (hg : gd (bA (sg0 1) t) i o 0) : am_Met mi_X12_behindTry d 0 0 [.ref 0, .int v] (hm sg) (fun r h' => r = some (.int (nI (btE (bA (sg0 1) t) i))) ∧ h' = hm sg) := by
  have := m_behindTry hd hv hT.2.1 (rc_11 hI) (rc_n hT hI) (rc_W hT hI) (by rw [rc_B hT hI]; exact hg)
  rw [rc_B hT hI] at this
  exact this
end
/-- from a place on, with so many levels left -/
abbrev rtX (sg0 : sg_T) (t N e : Nat) : Prop := ∀ (sg : sg_T) (st : rs_T) (d i o : Nat) (vi : Int32), 30 + 4 * e ≤ d → o + e = 7 → vi = nI i → gd (bA (sg0 1) t) i o 0 → rsI sg0 t N sg st → am_Met mi_X12_runsTactic d 0 0 [.ref 0, .int vi] (hm sg) (rsO sg0 t N st (taS (syP (sg0 1) (sg0 1 0)) N (bA (sg0 1) t) e i st))
theorem dg_of {v : Int32} (h1 : 48 ≤ v) (h2 : v ≤ 55) : ∃ q, v - 48 = nI q ∧ q < 8 := by
  obtain ⟨j, hj, hc, hl⟩ := ix_c (v := v) (m := 55) (by omega) ⟨Int32.le_trans (by decide) h1, h2⟩
  have j48 : 48 ≤ j := by rw [hj] at h1; exact (nI_leI (a := 48) (by omega) (by omega)).mp h1
  exact ⟨j - 48, by rw [hj]; exact pk_sub j48, by omega⟩
theorem m_runsOnce {sg0 : sg_T} {t n R C n0 N e : Nat} (hT : rcT sg0 t n R C n0) (ih : rtX sg0 t N e) {sg : sg_T} {st : rs_T} {d i o : Nat} {vi : Int32} (hd : 32 + 4 * e ≤ d) (ho : o + e = 6) (hv : vi = nI i) (hg : gd (bA (sg0 1) t) i o 0) (hI : rsI sg0 t N sg st) : am_Met mi_X12_runsOnce d 0 0 [.ref 0, .int vi] (hm sg) (rsO sg0 t N st (onS (syP (sg0 1) (sg0 1 0)) N (bA (sg0 1) t) (taS (syP (sg0 1) (sg0 1 0)) N (bA (sg0 1) t) e) i st)) := by
  refine am_Met.of rfl (Nat.le_of_ble_eq_true rfl) ?_
  refine am_go ok_X12_runsOnce [] 72 ?_
  obtain ⟨hi, o', m', hdl, hg'⟩ := hT.2.2.2.nx hg (Or.inl rfl)
  have n1 := hT.2.2.2.1
  refine ⟨_, rfl, d - 1, 0, 0, _, by omega, Nat.le_of_ble_eq_true rfl, Nat.le_of_ble_eq_true rfl, Nat.le_of_ble_eq_true rfl, m_byR hT hI (d - 1) hv (by omega), ?_⟩
  rintro _ _ ⟨rfl, rfl⟩
  refine ⟨Or.inl rfl, ?_⟩
  refine ⟨fun c7 => ?_, fun c7 => ?_⟩
  · obtain ⟨c8, c9⟩ : 48 ≤ (bA (sg0 1) t) i ∧ (bA (sg0 1) t) i ≤ 55 := by
      rcases hdl with z | z | z | z | z
      · exact absurd z.2.1 c7
      · exact z.2.1
      · omega
      · omega
      · omega
    obtain ⟨q, hq, q8⟩ := dg_of c8 c9
    have eo : onS (syP (sg0 1) (sg0 1 0)) N (bA (sg0 1) t) (taS (syP (sg0 1) (sg0 1 0)) N (bA (sg0 1) t) e) i st = ruS (syP (sg0 1) (sg0 1 0)) N q st := by unfold onS; rw [iF_n c7, cN_of hq (by omega)]
    rw [eo]
    refine ⟨_, rfl, d - 1, 0, 0, _, by omega, Nat.le_of_ble_eq_true rfl, Nat.le_of_ble_eq_true rfl, Nat.le_of_ble_eq_true rfl, m_byR hT hI (d - 1) hv (by omega), ?_⟩
    rintro _ _ ⟨rfl, rfl⟩
    refine ⟨Or.inl rfl, ?_⟩
    refine ⟨_, rfl, d - 1, 0, 0, _, by omega, Nat.le_of_ble_eq_true rfl, Nat.le_of_ble_eq_true rfl, Nat.le_of_ble_eq_true rfl, m_runs (q := q) (by omega) hT.1 hI hq q8, ?_⟩
    rintro _ _ ⟨rfl, s2, rfl, g⟩
    refine ⟨Or.inl rfl, ?_⟩
    refine ⟨bI_nar _, ?_⟩
    exact ⟨rfl, s2, rfl, g⟩
  · have eo : onS (syP (sg0 1) (sg0 1 0)) N (bA (sg0 1) t) (taS (syP (sg0 1) (sg0 1 0)) N (bA (sg0 1) t) e) i st = (taS (syP (sg0 1) (sg0 1 0)) N (bA (sg0 1) t) e) (i + 1) st := by unfold onS; rw [iF_p c7]
    rw [eo]
    obtain ⟨e1, e2⟩ : o' = o + 1 ∧ m' = 0 := by
      rcases hdl with z | z | z | z | z
      · omega
      · exact absurd z.2.1 (by rw [c7]; decide)
      · omega
      · omega
      · omega
    subst e1; subst e2
    refine ⟨_, rfl, d - 1, 0, 0, _, by omega, Nat.le_of_ble_eq_true rfl, Nat.le_of_ble_eq_true rfl, Nat.le_of_ble_eq_true rfl, ih sg st (d - 1) (i + 1) (o + 1) _ (by omega) (by omega) (by rw [hv, nI_1]) hg' hI, ?_⟩
    rintro _ _ ⟨rfl, s2, rfl, g⟩
    refine ⟨Or.inl rfl, ?_⟩
    refine ⟨bI_nar _, ?_⟩
    exact ⟨rfl, s2, rfl, g⟩
theorem m_runsTry_l {sg0 : sg_T} {t n R C n0 N e : Nat} (hT : rcT sg0 t n R C n0) (ih : rtX sg0 t N e) {st0 : rs_T} {d kc ks i o : Nat} {vi : Int32} (hd : 33 + 4 * e ≤ d) (ho : o + e = 6) (hv : vi = nI i) (hg : gd (bA (sg0 1) t) i o 0) {v2 : Int32} {b : Bool} {fin : rs_T} (hst : (bA (sg0 1) t) (btE (bA (sg0 1) t) i - 1) = 42) (hb : b = true) (hf : grw st0.1 fin.1) : ∀ (u : Nat) (sg : sg_T) (st : rs_T), rsI sg0 t N sg st → srS (syP (sg0 1) (sg0 1 0)) N (bA (sg0 1) t) (taS (syP (sg0 1) (sg0 1 0)) N (bA (sg0 1) t) e) i u st = fin → 751 ≤ cnN st.1 750 + u → am_W mi_X12_runsTry d (rsO sg0 t N st0 fin) kc ks 43 [some (.ref 0), some (.int vi), some (.int v2), some (.int (bI b)), some (.int 1)] [] (hm sg) := by
  intro u
  induction u with
  | zero => intro sg st hI hF hu; exact absurd hu (by have := cnN_le st.1 750; omega)
  | succ u ih' =>
    intro sg st hI hF hu
    refine am_go ok_X12_runsTry [43] 67 ?_
    refine ⟨fun c45 => absurd c45 (by decide), fun _ => ?_⟩
    refine ⟨_, rfl, d - 1, 0, 0, _, by omega, Nat.le_of_ble_eq_true rfl, Nat.le_of_ble_eq_true rfl, Nat.le_of_ble_eq_true rfl, m_runsOnce hT ih (by omega) ho hv hg hI, ?_⟩
    rintro _ _ ⟨rfl, s2, rfl, g⟩
    refine ⟨Or.inl rfl, ?_⟩
    have lw : lwF st.1 := hI.2.2.1
    obtain ⟨l1, l2⟩ := onS_le (S := (syP (sg0 1) (sg0 1 0))) (N := N) (B := (bA (sg0 1) t)) (i := i) (taS_le (S := (syP (sg0 1) (sg0 1 0))) (N := N) (B := (bA (sg0 1) t)) e) lw
    rw [srS] at hF
    by_cases q : grw st.1 (onS (syP (sg0 1) (sg0 1 0)) N (bA (sg0 1) t) (taS (syP (sg0 1) (sg0 1 0)) N (bA (sg0 1) t) e) i st).1
    · rw [iF_p ⟨hst, q⟩] at hF
      rw [gw_t.mpr q]
      refine ih' s2 _ g hF ?_
      obtain ⟨f, f7, f1, f2⟩ := q
      have := cnF_lt (n := 750) l1 f7 f1 f2
      omega
    · rw [iF_n (fun z => q z.2)] at hF
      rw [show gwB st.1 (onS (syP (sg0 1) (sg0 1 0)) N (bA (sg0 1) t) (taS (syP (sg0 1) (sg0 1 0)) N (bA (sg0 1) t) e) i st).1 = false by rw [← gw_e (b := false) ⟨fun w => absurd w (by decide), fun w => absurd w q⟩]]
      refine am_go ok_X12_runsTry [] 60 ?_
      refine ⟨fun _ => ?_, fun c45 => absurd rfl c45⟩
      refine ⟨bI_nar _, ?_⟩
      rw [hb, ← hF]
      rw [← hF] at hf
      exact ⟨by rw [gw_t.mpr hf], s2, rfl, g⟩
theorem m_runsTry_a {sg0 : sg_T} {t n R C n0 N e : Nat} (hT : rcT sg0 t n R C n0) (ih : rtX sg0 t N e) {st : rs_T} {d kc ks i o : Nat} {vi : Int32} (hd : 33 + 4 * e ≤ d) (ho : o + e = 6) (hv : vi = nI i) (hg : gd (bA (sg0 1) t) i o 0) {s2 : sg_T} (lw : lwF st.1) (l1 : leF st.1 (onS (syP (sg0 1) (sg0 1 0)) N (bA (sg0 1) t) (taS (syP (sg0 1) (sg0 1 0)) N (bA (sg0 1) t) e) i st).1) (g : rsI sg0 t N s2 (onS (syP (sg0 1) (sg0 1 0)) N (bA (sg0 1) t) (taS (syP (sg0 1) (sg0 1 0)) N (bA (sg0 1) t) e) i st)) {t4 : Option Value} (c13 : ¬ (bA (sg0 1) t) (btE (bA (sg0 1) t) i - 1) = 42) : am_W mi_X12_runsTry d (rsO sg0 t N st (trS (syP (sg0 1) (sg0 1 0)) N (bA (sg0 1) t) (taS (syP (sg0 1) (sg0 1 0)) N (bA (sg0 1) t) e) i st)) kc ks 28 [some (.ref 0), some (.int vi), some (.int 0), some (.int (bI (gwB st.1 (onS (syP (sg0 1) (sg0 1 0)) N (bA (sg0 1) t) (taS (syP (sg0 1) (sg0 1 0)) N (bA (sg0 1) t) e) i st).1))), t4] [] (hm s2) := by
  refine am_go ok_X12_runsTry [] 69 ?_
  have et : trS (syP (sg0 1) (sg0 1 0)) N (bA (sg0 1) t) (taS (syP (sg0 1) (sg0 1 0)) N (bA (sg0 1) t) e) i st = onS (syP (sg0 1) (sg0 1 0)) N (bA (sg0 1) t) (taS (syP (sg0 1) (sg0 1 0)) N (bA (sg0 1) t) e) i st := by unfold trS; rw [srS, iF_n (fun z => c13 z.1)]
  rw [et]
  refine ⟨fun c29 => ?_, fun c29 => ?_⟩
  · skip
    refine ⟨fun _ => ?_, fun c45 => absurd rfl c45⟩
    refine ⟨bI_nar _, ?_⟩
    exact ⟨rfl, s2, rfl, g⟩
  · skip
    refine ⟨fun _ => ?_, fun c33 => absurd rfl c33⟩
    refine ⟨fun _ => ?_, fun c45 => absurd rfl c45⟩
    refine ⟨bI_nar _, ?_⟩
    exact ⟨rfl, s2, rfl, g⟩
theorem m_runsTry_x {sg0 s2 : sg_T} {t N d kc ks : Nat} {st st' : rs_T} {vi v2 : Int32} (g : rsI sg0 t N s2 st') : am_W mi_X12_runsTry d (rsO sg0 t N st st') kc ks 43 [some (.ref 0), some (.int vi), some (.int v2), some (.int (bI (gwB st.1 st'.1))), some (.int 0)] [] (hm s2) := by
  refine am_go ok_X12_runsTry [] 63 ?_
  refine ⟨fun _ => ?_, fun c45 => absurd rfl c45⟩
  refine ⟨bI_nar _, ?_⟩
  exact ⟨rfl, s2, rfl, g⟩
theorem m_runsTry_b {sg0 : sg_T} {t n R C n0 N e : Nat} (hT : rcT sg0 t n R C n0) (ih : rtX sg0 t N e) {st : rs_T} {d kc ks i o : Nat} {vi : Int32} (hd : 33 + 4 * e ≤ d) (ho : o + e = 6) (hv : vi = nI i) (hg : gd (bA (sg0 1) t) i o 0) {s2 : sg_T} (lw : lwF st.1) (l1 : leF st.1 (onS (syP (sg0 1) (sg0 1 0)) N (bA (sg0 1) t) (taS (syP (sg0 1) (sg0 1 0)) N (bA (sg0 1) t) e) i st).1) (g : rsI sg0 t N s2 (onS (syP (sg0 1) (sg0 1 0)) N (bA (sg0 1) t) (taS (syP (sg0 1) (sg0 1 0)) N (bA (sg0 1) t) e) i st)) {t4 : Option Value} (c13 : (bA (sg0 1) t) (btE (bA (sg0 1) t) i - 1) = 42) : am_W mi_X12_runsTry d (rsO sg0 t N st (trS (syP (sg0 1) (sg0 1 0)) N (bA (sg0 1) t) (taS (syP (sg0 1) (sg0 1 0)) N (bA (sg0 1) t) e) i st)) kc ks 28 [some (.ref 0), some (.int vi), some (.int 1), some (.int (bI (gwB st.1 (onS (syP (sg0 1) (sg0 1 0)) N (bA (sg0 1) t) (taS (syP (sg0 1) (sg0 1 0)) N (bA (sg0 1) t) e) i st).1))), t4] [] (hm s2) := by
  refine am_go ok_X12_runsTry [43] 67 ?_
  refine ⟨fun c29 => ?_, fun c29 => ?_⟩
  · have q : ¬ grw st.1 (onS (syP (sg0 1) (sg0 1 0)) N (bA (sg0 1) t) (taS (syP (sg0 1) (sg0 1 0)) N (bA (sg0 1) t) e) i st).1 := fun w => absurd ((bI_0.mp c29).symm.trans (gw_t.mpr w)) (by decide)
    have et : trS (syP (sg0 1) (sg0 1 0)) N (bA (sg0 1) t) (taS (syP (sg0 1) (sg0 1 0)) N (bA (sg0 1) t) e) i st = onS (syP (sg0 1) (sg0 1 0)) N (bA (sg0 1) t) (taS (syP (sg0 1) (sg0 1 0)) N (bA (sg0 1) t) e) i st := by unfold trS; rw [srS, iF_n (fun z => q z.2)]
    rw [et]
    first
    | exact m_runsTry_x g
    | exact m_runsTry_l hT ih hd ho hv hg c13 qb (by rw [et]; exact (grw_tr l1 (srS_le (taS_le e) 750 _ g.2.2.1).1).mpr (Or.inl q)) 750 s2 _ g et.symm (by obtain ⟨f, f7, f1, f2⟩ := q; have := cnF_lt (n := 750) l1 f7 f1 f2; omega)
  · have qb : gwB st.1 (onS (syP (sg0 1) (sg0 1 0)) N (bA (sg0 1) t) (taS (syP (sg0 1) (sg0 1 0)) N (bA (sg0 1) t) e) i st).1 = true := by
      cases e9 : gwB st.1 (onS (syP (sg0 1) (sg0 1 0)) N (bA (sg0 1) t) (taS (syP (sg0 1) (sg0 1 0)) N (bA (sg0 1) t) e) i st).1 with
      | true => rfl
      | false => rw [e9] at c29; exact absurd rfl c29
    have q := gw_t.mp qb
    have et : trS (syP (sg0 1) (sg0 1 0)) N (bA (sg0 1) t) (taS (syP (sg0 1) (sg0 1 0)) N (bA (sg0 1) t) e) i st = srS (syP (sg0 1) (sg0 1 0)) N (bA (sg0 1) t) (taS (syP (sg0 1) (sg0 1 0)) N (bA (sg0 1) t) e) i 750 (onS (syP (sg0 1) (sg0 1 0)) N (bA (sg0 1) t) (taS (syP (sg0 1) (sg0 1 0)) N (bA (sg0 1) t) e) i st) := by unfold trS; rw [srS, iF_p ⟨c13, q⟩]
    refine ⟨fun c33 => absurd c33 (by decide), fun _ => ?_⟩
    first
    | exact m_runsTry_x g
    | exact m_runsTry_l hT ih hd ho hv hg c13 qb (by rw [et]; exact (grw_tr l1 (srS_le (taS_le e) 750 _ g.2.2.1).1).mpr (Or.inl q)) 750 s2 _ g et.symm (by obtain ⟨f, f7, f1, f2⟩ := q; have := cnF_lt (n := 750) l1 f7 f1 f2; omega)
theorem m_runsTry {sg0 : sg_T} {t n R C n0 N e : Nat} (hT : rcT sg0 t n R C n0) (ih : rtX sg0 t N e) {st : rs_T} {d i o : Nat} {vi : Int32} (hd : 33 + 4 * e ≤ d) (ho : o + e = 6) (hv : vi = nI i) (hg : gd (bA (sg0 1) t) i o 0) {sg : sg_T} (hI : rsI sg0 t N sg st) : am_Met mi_X12_runsTry d 0 0 [.ref 0, .int vi] (hm sg) (rsO sg0 t N st (trS (syP (sg0 1) (sg0 1 0)) N (bA (sg0 1) t) (taS (syP (sg0 1) (sg0 1 0)) N (bA (sg0 1) t) e) i st)) := by
  refine am_Met.of rfl (Nat.le_of_ble_eq_true rfl) ?_
  refine am_go ok_X12_runsTry [28] 76 ?_
  have n1 := hT.2.2.2.1
  obtain ⟨hi, -, ib, bn⟩ := bt_ok hT.2.2.2 hg
  refine ⟨_, rfl, d - 1, 0, 0, _, by omega, Nat.le_of_ble_eq_true rfl, Nat.le_of_ble_eq_true rfl, Nat.le_of_ble_eq_true rfl, m_btR hT hI (by omega) hv hg, ?_⟩
  rintro _ _ ⟨rfl, rfl⟩
  refine ⟨Or.inl rfl, ?_⟩
  refine ⟨_, rfl, d - 1, 0, 0, _, by omega, Nat.le_of_ble_eq_true rfl, Nat.le_of_ble_eq_true rfl, Nat.le_of_ble_eq_true rfl, m_byR (i := btE (bA (sg0 1) t) i - 1) hT hI (d - 1) (pk_sub (a := btE (bA (sg0 1) t) i) (b := 1) (by omega)) (by omega), ?_⟩
  rintro _ _ ⟨rfl, rfl⟩
  refine ⟨Or.inl rfl, ?_⟩
  refine ⟨fun c13 => ?_, fun c13 => ?_⟩
  · refine ⟨_, rfl, d - 1, 0, 0, _, by omega, Nat.le_of_ble_eq_true rfl, Nat.le_of_ble_eq_true rfl, Nat.le_of_ble_eq_true rfl, m_runsOnce hT ih (by omega) ho hv hg hI, ?_⟩
    rintro _ _ ⟨rfl, s2, rfl, g⟩
    refine ⟨Or.inl rfl, ?_⟩
    have lw : lwF st.1 := hI.2.2.1
    obtain ⟨l1, l2⟩ := onS_le (S := (syP (sg0 1) (sg0 1 0))) (N := N) (B := (bA (sg0 1) t)) (i := i) (taS_le (S := (syP (sg0 1) (sg0 1 0))) (N := N) (B := (bA (sg0 1) t)) e) lw
    first
    | exact m_runsTry_a hT ih hd ho hv hg lw l1 g c13
    | exact m_runsTry_b hT ih hd ho hv hg lw l1 g c13
  · refine ⟨_, rfl, d - 1, 0, 0, _, by omega, Nat.le_of_ble_eq_true rfl, Nat.le_of_ble_eq_true rfl, Nat.le_of_ble_eq_true rfl, m_runsOnce hT ih (by omega) ho hv hg hI, ?_⟩
    rintro _ _ ⟨rfl, s2, rfl, g⟩
    refine ⟨Or.inl rfl, ?_⟩
    have lw : lwF st.1 := hI.2.2.1
    obtain ⟨l1, l2⟩ := onS_le (S := (syP (sg0 1) (sg0 1 0))) (N := N) (B := (bA (sg0 1) t)) (i := i) (taS_le (S := (syP (sg0 1) (sg0 1 0))) (N := N) (B := (bA (sg0 1) t)) e) lw
    first
    | exact m_runsTry_a hT ih hd ho hv hg lw l1 g c13
    | exact m_runsTry_b hT ih hd ho hv hg lw l1 g c13
