/-! RUNNING tactics; cells from the tape on don't matter to rules -/
def agT (P P' : Nat → Int32) : Prop := ∀ j, j < 2358 → P' j = P j
theorem pn_T {P P' : Nat → Int32} (h : agT P P') {j : Nat} (hj : j < 2358) : pn P' j = pn P j := by unfold pn; rw [h j hj]
theorem txN_T {P P' : Nat → Int32} (h : agT P P') {C r : Nat} {dy : Int32} (hC : P 2 = nI C) (c12 : C ≤ 12) (hr : r < 8) : txN P' r dy = txN P r dy := by
  have e : chF (pRu P') (pDa P') (nI r) dy (P' 2).toNatClampNeg = chF (pRu P) (pDa P) (nI r) dy (P 2).toNatClampNeg := by
    rw [h 2 (by omega), hC, nI_clamp (by omega)]
    exact chF_cg (fun c hc => ⟨h _ (by omega), h _ (by omega)⟩)
  unfold txN
  rw [e]
  cases e2 : chF (pRu P) (pDa P) (nI r) dy (P 2).toNatClampNeg with
  | none => show (P' (10 + r)).toNatClampNeg = _; rw [h _ (by omega)]
  | some c =>
    have := chF_lt e2
    rw [hC, nI_clamp (by omega)] at this
    show (P' (42 + c)).toNatClampNeg = _; rw [h _ (by omega)]
theorem faN_T {P P' : Nat → Int32} (h : agT P P') {L : Nat → Nat} {x : Nat} (hx : x + 4 ≤ 2358) : faN P' L x = faN P L x := by
  unfold faN
  rw [pn_T h (by omega), pn_T h (by omega), pn_T h (by omega), pn_T h (by omega)]
theorem tsB_T {P P' : Nat → Int32} (h : agT P P') {L : Nat → Nat} {x k : Nat} (hx : x + 30 ≤ 2358) (hk : k < 4) : tsB P' L x k = tsB P L x k := by
  unfold tsB
  rw [h (x + 15 + 3 * k) (by omega), pn_T h (j := x + 14 + 3 * k) (by omega), pn_T h (j := x + 16 + 3 * k) (by omega)]
theorem thN_T {P P' : Nat → Int32} (h : agT P P') {L : Nat → Nat} {x : Nat} (hx : x + 30 ≤ 2358) : ∀ k, k ≤ 4 → thN P' L x k = thN P L x k
  | 0, _ => rfl
  | k + 1, hk => by rw [thN, thN, thN_T h hx k (by omega), tsB_T h hx (by omega)]
theorem ltF_T {P P' : Nat → Int32} (h : agT P P') {x : Nat} : ∀ k, x + k ≤ 2358 → ltF P' x k = ltF P x k
  | 0, _ => rfl
  | k + 1, hk => by rw [ltF, ltF, ltF_T h k (by omega), h (x + k) (by omega)]
theorem tlF_T {P P' : Nat → Int32} (h : agT P P') {x : Nat} : ∀ k, x + 3 + 4 * k ≤ 2358 → tlF P' x k = tlF P x k
  | 0, _ => rfl
  | k + 1, hk => by rw [tlF, tlF, tlF_T h k (by omega), ltF_T h 3 (by omega)]
theorem okT_T {P P' : Nat → Int32} (h : agT P P') {x : Nat} (hx : x + 4 ≤ 2358) (k : okT P x) : okT P' x := by
  unfold okT at k ⊢
  rw [h x (by omega), h (x + 1) (by omega), h (x + 2) (by omega), h (x + 3) (by omega)]
  exact k
theorem okX_n {P : Nat → Int32} {x : Nat} (k : okX P x) : pn P x ≤ 3 ∧ pn P (x + 1) ≤ 4 := by
  obtain ⟨⟨n, -, n3, en⟩, ⟨m, m4, em⟩, -⟩ := k
  rw [pn_of en (by omega), pn_of em (by omega)]
  exact ⟨n3, m4⟩
theorem okX_T {P P' : Nat → Int32} (h : agT P P') {x : Nat} (hx : x + 30 ≤ 2358) (k : okX P x) : okX P' x := by
  have hn := okX_n k
  obtain ⟨k1, k2, k3, k4, k5⟩ := k
  refine ⟨by rw [h x (by omega)]; exact k1, by rw [h (x + 1) (by omega)]; exact k2, fun i hi => ?_, okT_T h (by omega) k4, fun i hi => ?_⟩
  · rw [pn_T h (by omega)] at hi; exact okT_T h (by omega) (k3 i hi)
  · rw [pn_T h (by omega)] at hi
    rw [h (x + 14 + 3 * i) (by omega), h (x + 16 + 3 * i) (by omega)]
    exact k5 i hi
theorem wkA_T {P P' : Nat → Int32} {R C n : Nat} (h : agT P P') (k : wkA P R C n) : wkA P' R C n := by
  obtain ⟨a1, a2, a3, a4, a5, a6, a7, a8, a9, a10, a11⟩ := k
  have b : ∀ j t, t < 20 → P j = nI t → pn P j = t := fun j t ht e => pn_of e (by omega)
  refine ⟨by rw [h 1 (by omega)]; exact a1, a2, by rw [h 2 (by omega)]; exact a3, a4, fun r hr => by rw [h _ (by omega)]; exact a5 r hr, fun c hc => by rw [h _ (by omega)]; exact a6 c hc, by rw [h 3 (by omega)]; exact a7, a8, fun j hj => by rw [h _ (by omega)]; exact a9 j hj, fun r hr => ?_, fun c hc => ?_⟩
  · obtain ⟨t, t1, t2⟩ := a5 r (by omega)
    rw [pn_T h (by omega)]
    exact okX_T h (by rw [b _ t t1 t2]; omega) (a10 r hr)
  · obtain ⟨t, t1, t2⟩ := a6 c hc
    rw [pn_T h (by omega)]
    exact okX_T h (by rw [b _ t t1 t2]; omega) (a11 c hc)
/-- a byte of the tactic t; -1 behind its end -/
def bA (P : Nat → Int32) (t i : Nat) : Int32 := if i < pn P (1032 + t) then P (1038 + 120 * t + i) else -1
/-- the tactic t is one: its size, and that it is read to its end -/
def tcA (P : Nat → Int32) (t : Nat) : Prop := ∃ n m, n ≤ 120 ∧ P (1032 + t) = nI n ∧ 1 ≤ m ∧ gd (bA P t) n 0 m
/-- the place behind a TRY's ( or digit; from a place on, with so many open -/
def scN (B : Nat → Int32) : Nat → Nat → Nat → Nat
  | 0, k, _ => k
  | u + 1, k, e => if (if B k = 40 then e + 1 else if B k = 41 then e - 1 else e) = 0 then k + 1 else scN B u (k + 1) (if B k = 40 then e + 1 else if B k = 41 then e - 1 else e)
def bt0 (B : Nat → Int32) (i : Nat) : Nat := scN B 121 i 0
def btE (B : Nat → Int32) (i : Nat) : Nat := if B (bt0 B i) = 42 then bt0 B i + 1 else bt0 B i
abbrev rs_T := (Nat → Bool) × Nat
def grw (F F' : Nat → Bool) : Prop := ∃ f, f < 750 ∧ F f = false ∧ F' f = true
noncomputable def gwB (F F' : Nat → Bool) : Bool := iF (grw F F') true false
/-- a RULE's ENDS by what is there -/
noncomputable def rnF (S : sy_T) (F : Nat → Bool) (r : Nat) : Nat → Bool := fun f => iF (f < 750 ∧ (F f = true ∨ ∃ n, sy_by S (fun g => F g = true) r n f)) true false
noncomputable def ruS (S : sy_T) (N r : Nat) (st : rs_T) : rs_T := iF (r < sy_R S ∧ ¬ st.2 = N) (rnF S st.1 r, st.2 + 1) st
noncomputable def onS (S : sy_T) (N : Nat) (B : Nat → Int32) (K : Nat → rs_T → rs_T) (i : Nat) (st : rs_T) : rs_T := iF (B i = 40) (K (i + 1) st) (ruS S N (cN (B i - 48)) st)
noncomputable def srS (S : sy_T) (N : Nat) (B : Nat → Int32) (K : Nat → rs_T → rs_T) (i : Nat) : Nat → rs_T → rs_T
  | 0, st => st
  | u + 1, st => iF (B (btE B i - 1) = 42 ∧ grw st.1 (onS S N B K i st).1) (srS S N B K i u (onS S N B K i st)) (onS S N B K i st)
noncomputable def trS (S : sy_T) (N : Nat) (B : Nat → Int32) (K : Nat → rs_T → rs_T) (i : Nat) (st : rs_T) : rs_T := srS S N B K i 751 st
/-- PIECES; had: a TRY of this one has brought something -/
noncomputable def pcS (S : sy_T) (N : Nat) (B : Nat → Int32) (K : Nat → rs_T → rs_T) : Nat → Nat → Bool → rs_T → rs_T
  | 0, _, _, st => st
  | u + 1, i, had, st => iF (B (btE B i) = 124) (pcS S N B K u (btE B i + 1) (had || gwB st.1 (trS S N B K i st).1) (iF (had = true) st (trS S N B K i st))) (iF (B (btE B i) = 59) (pcS S N B K u (btE B i + 1) false (iF (had = true) st (trS S N B K i st))) (iF (had = true) st (trS S N B K i st)))
/-- a TACTIC from a place on; so many ( may be inside -/
noncomputable def taS (S : sy_T) (N : Nat) (B : Nat → Int32) : Nat → Nat → rs_T → rs_T
  | 0, _, st => st
  | e + 1, i, st => pcS S N B (taS S N B e) 120 i false st
/-- the cells while a tactic runs -/
def rsI (sg0 : sg_T) (t N : Nat) (sg : sg_T) (st : rs_T) : Prop := (∀ j, ¬ (2478 ≤ j ∧ j < 3228) → sg 1 j = sg0 1 j) ∧ (∀ f, f < 750 → sg 1 (2478 + f) = bI (st.1 f)) ∧ (∀ f, 750 ≤ f → st.1 f = false) ∧ sg 0 11 = nI t ∧ sg 0 12 = nI N ∧ sg 0 13 = nI st.2 ∧ st.2 ≤ N ∧ N ≤ 200 ∧ sg 2 = sg0 2 ∧ sg 0 2 = sg0 0 2
theorem rsI.ag {sg0 sg : sg_T} {t N : Nat} {st : rs_T} (h : rsI sg0 t N sg st) : agT (sg0 1) (sg 1) := fun j hj => h.1 j (by omega)
theorem rsI.bA {sg0 sg : sg_T} {t N : Nat} {st : rs_T} (h : rsI sg0 t N sg st) (t6 : t < 6) {n : Nat} (hn : sg0 1 (1032 + t) = nI n) (n1 : n ≤ 120) : bA (sg 1) t = bA (sg0 1) t := by
  funext i
  have e : pn (sg 1) (1032 + t) = n := pn_of (by rw [h.ag _ (by omega)]; exact hn) (by omega)
  have e0 : pn (sg0 1) (1032 + t) = n := pn_of hn (by omega)
  show (if i < pn (sg 1) (1032 + t) then sg 1 (1038 + 120 * t + i) else -1) = if i < pn (sg0 1) (1032 + t) then sg0 1 (1038 + 120 * t + i) else -1
  rw [e, e0]
  split
  · exact h.ag _ (by omega)
  · rfl
theorem m_byteAt {sg : sg_T} (d : Nat) {t n i : Nat} {v : Int32} (hv : v = nI i) (i1 : i ≤ 240) (t6 : t < 6) (h11 : sg 0 11 = nI t) (hn : sg 1 (1032 + t) = nI n) (n1 : n ≤ 120) : am_Met mi_X12_byteAt d 0 0 [.ref 0, .int v] (hm sg) (fun r h' => r = some (.int (bA (sg 1) t i)) ∧ h' = hm sg) := by
  refine am_Met.of rfl (Nat.le_of_ble_eq_true rfl) ?_
  refine am_go ok_X12_byteAt [] 81 ?_
  have e0 : pn (sg 1) (1032 + t) = n := pn_of hn (by omega)
  refine ⟨_, _, rfl, rfl, ?_⟩
  refine ⟨_, _, rfl, rfl, ?_⟩
  rw [h11]
  refine ⟨_, _, (1032 + t), rfl, (nI_add 1032 t), by omega, Nat.le_of_ble_eq_true rfl, ?_⟩
  rw [hn]
  refine ⟨fun c14 => ?_, fun c14 => ?_⟩
  · have q : ¬ i < n := by rw [hv] at c14; have := (nI_leI (by omega) (by omega)).mp c14; omega
    refine ⟨trivial, ?_⟩
    unfold bA; rw [e0]
    first
    | rw [if_pos q]; exact ⟨rfl, rfl⟩
    | rw [if_neg q]; exact ⟨rfl, rfl⟩
  · have q : i < n := by
      rcases Nat.lt_or_ge i n with q | q
      · exact q
      · exact absurd (by rw [hv]; exact (nI_leI (by omega) (by omega)).mpr q) c14
    refine ⟨_, _, rfl, rfl, ?_⟩
    refine ⟨_, _, rfl, rfl, ?_⟩
    rw [h11]
    refine ⟨_, _, (1038 + 120 * t + i), rfl, (by rw [hv]; show nI 1038 + nI 120 * nI t + nI i = _; rw [pk_mul, nI_add, nI_add]), by omega, Nat.le_of_ble_eq_true rfl, ?_⟩
    refine ⟨trivial, ?_⟩
    unfold bA; rw [e0]
    first
    | rw [if_pos q]; exact ⟨rfl, rfl⟩
    | rw [if_neg q]; exact ⟨rfl, rfl⟩
theorem gd_u {H : Nat → Int32} : ∀ {k o m o' m' : Nat}, gd H k o m → gd H k o' m' → o = o' ∧ m = m'
  | 0, _, _, _, _, h, h' => by rw [gd] at h h'; omega
  | k + 1, o, m, o', m', h, h' => by
    obtain ⟨o1, m1, h1, h2⟩ := h
    obtain ⟨o2, m2, h3, h4⟩ := h'
    obtain ⟨e1, e2⟩ := gd_u h1 h3
    subst e1; subst e2
    rcases h2 with h2 | h2 | h2 | h2 | h2 <;> rcases h4 with h4 | h4 | h4 | h4 | h4
    · omega
    · exact absurd h4.2.1 (by rw [h2.2.1]; decide)
    · omega
    · omega
    · omega
    · exact absurd h2.2.1 (by rw [h4.2.1]; decide)
    · omega
    · omega
    · omega
    · omega
    · omega
    · omega
    · omega
    · exact absurd (h2.2.1.symm.trans h4.2.1) (by decide)
    · exact h4.2.1.elim (fun z => absurd (h2.2.1.symm.trans z) (by decide)) (fun z => absurd (h2.2.1.symm.trans z) (by decide))
    · omega
    · omega
    · exact absurd (h2.2.1.symm.trans h4.2.1) (by decide)
    · omega
    · exact h4.2.1.elim (fun z => absurd (h2.2.1.symm.trans z) (by decide)) (fun z => absurd (h2.2.1.symm.trans z) (by decide))
    · omega
    · omega
    · exact h2.2.1.elim (fun z => absurd (h4.2.1.symm.trans z) (by decide)) (fun z => absurd (h4.2.1.symm.trans z) (by decide))
    · exact h2.2.1.elim (fun z => absurd (h4.2.1.symm.trans z) (by decide)) (fun z => absurd (h4.2.1.symm.trans z) (by decide))
    · omega
theorem gd_dn {H : Nat → Int32} : ∀ {n o m : Nat}, gd H n o m → ∀ k, k ≤ n → ∃ o' m', gd H k o' m'
  | 0, o, m, h, k, hk => ⟨o, m, by rw [show k = 0 by omega]; exact h⟩
  | n + 1, o, m, h, k, hk => by
    rcases (show k = n + 1 ∨ k ≤ n by omega) with e | e
    · exact ⟨o, m, by rw [e]; exact h⟩
    · obtain ⟨o1, m1, h1, -⟩ := h
      exact gd_dn h1 k e
/-- a whole tactic: of n signs, no more -/
def tcW (B : Nat → Int32) (n : Nat) : Prop := n ≤ 120 ∧ (∃ m, 1 ≤ m ∧ gd B n 0 m) ∧ ∀ k, n ≤ k → B k = -1
/-- the next sign, at a place that isn't the end -/
theorem tcW.nx {B : Nat → Int32} {n k o m : Nat} (h : tcW B n) (hg : gd B k o m) (hk : m = 0 ∨ 0 < o) : k < n ∧ ∃ o' m', dlR o m (B k) o' m' ∧ gd B (k + 1) o' m' := by
  obtain ⟨n1, ⟨mn, m1, gn⟩, hB⟩ := h
  have hl : k ≤ n := by
    rcases Nat.lt_or_ge n k with q | q
    · obtain ⟨o1, m2, h1⟩ := gd_dn hg (n + 1) (by omega)
      obtain ⟨o2, m3, h2, h3⟩ := h1
      exact absurd (hB n (Nat.le_refl _)) (dlR_c h3)
    · exact q
  have hn : k ≠ n := by
    intro e; subst e
    have := gd_u hg gn
    omega
  refine ⟨by omega, ?_⟩
  obtain ⟨o1, m2, h1⟩ := gd_dn gn (k + 1) (by omega)
  obtain ⟨o2, m3, h2, h3⟩ := h1
  obtain ⟨e1, e2⟩ := gd_u hg h2
  subst e1; subst e2
  exact ⟨o1, m2, h3, _, _, hg, h3⟩
