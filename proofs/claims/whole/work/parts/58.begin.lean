/-! Reach: has, settleFrom, bringLeast, begin -/
theorem nar_1 : vp_nar (am_aty 2) 1 = 1 := nar_b true
theorem nar_0 : vp_nar (am_aty 2) 0 = 0 := nar_b false
theorem c_rHas {cg : sg_T} {fn : Nat → Option Nat} {cx : cx_T} (d : Nat) {f : Nat} {vf : Int32} (hf : vf = nI f) (f7 : f < 750) : am_Met mi_X6_has d 0 0 [.ref 84, .int vf] (hc cg fn cx) (fun r' h' => r' = some (.int (bI (decide (0 ≤ cg 85 f)))) ∧ h' = (hc cg fn cx)) := by
  refine am_Met.of rfl (Nat.le_of_ble_eq_true rfl) ?_
  refine am_go ok_X6_has [] 67 ?_
  refine ⟨_, _, rfl, rfl, ?_⟩
  refine ⟨_, _, f, rfl, hf, by omega, Nat.le_of_ble_eq_true rfl, ?_⟩
  refine ⟨fun c6 => ?_, fun c6 => ?_⟩
  · have q : ¬ 0 ≤ cg 85 f := i_ltn c6
    refine ⟨rfl, ?_⟩
    first
    | rw [bI_dt q]; exact ⟨rfl, rfl⟩
    | rw [bI_df q]; exact ⟨rfl, rfl⟩
  · have q : 0 ≤ cg 85 f := i_nlt c6
    refine ⟨rfl, ?_⟩
    first
    | rw [bI_dt q]; exact ⟨rfl, rfl⟩
    | rw [bI_df q]; exact ⟨rfl, rfl⟩
theorem c_sf_l {cg0 : sg_T} {fn : Nat → Option Nat} {cx : cx_T} {d kc ks sz pl : Nat} {vp : Int32} {g c : Nat → Nat} (hB : RB cg0 sz g c) : ∀ (u k : Nat) (z : Int32) (cg : sg_T), z = nI k → (∀ a, a ≠ 87 → cg a = cg0 a) → (∀ f, ((∃ j, pl ≤ j ∧ j < k ∧ g j = f) → cg 87 f = 1) ∧ ((¬ ∃ j, pl ≤ j ∧ j < k ∧ g j = f) → cg 87 f = cg0 87 f)) → pl ≤ k → k ≤ sz → sz < k + u → am_W mi_X6_settleFrom d (fun r' h' => r' = none ∧ ∃ cg', h' = hc cg' fn cx ∧ (∀ a, a ≠ 87 → cg' a = cg0 a) ∧ ∀ f, ((∃ j, pl ≤ j ∧ j < sz ∧ g j = f) → cg' 87 f = 1) ∧ ((¬ ∃ j, pl ≤ j ∧ j < sz ∧ g j = f) → cg' 87 f = cg0 87 f)) kc ks 2 [some (.ref 84), some (.int vp), some (.int z)] [] (hc cg fn cx) := by
  intro u
  induction u with
  | zero => intro k z cg hz hF hA hp h1 h2; exact absurd h2 (by omega)
  | succ u ih =>
    intro k z cg hz hF hA hp h1 h2
    refine am_go ok_X6_settleFrom [2] 74 ?_
    have z7 := hB.2.1
    refine ⟨_, _, rfl, rfl, ?_⟩
    rw [hF 84 (by decide), hB.1]
    refine ⟨fun c7 => ?_, fun c7 => ?_⟩
    · rw [hz] at c7
      have k1 : k = sz := by have := (nI_leI (by omega) (by omega)).mp c7; omega
      subst k1
      exact ⟨rfl, cg, rfl, hF, hA⟩
    · have k1 : k < sz := by
        rcases Nat.lt_or_ge k sz with q1 | q1
        · exact q1
        · exact absurd (by rw [hz]; exact (nI_leI (by omega) (by omega)).mpr q1) c7
      obtain ⟨b1, b2, -, -⟩ := hB.2.2.1 k k1
      refine ⟨_, _, rfl, rfl, ?_⟩
      refine ⟨_, _, rfl, rfl, ?_⟩
      refine ⟨_, _, k, rfl, hz, by omega, Nat.le_of_ble_eq_true rfl, ?_⟩
      rw [hF 86 (by decide), b2]
      refine ⟨_, _, (g k), rfl, rfl, by omega, Nat.le_of_ble_eq_true rfl, ?_⟩
      rw [hc_a87]
      rw [nar_1]
      refine ih (k + 1) _ _ (by rw [hz, nI_1]) (fun a ha => (sg_i ha).trans (hF a ha)) (fun f => ⟨fun ⟨j, j1, j2, j3⟩ => ?_, fun hn => ?_⟩) (by omega) (by omega) (by omega)
      · by_cases q : f = g k
        · rw [q, sg_s]
        · rw [sg_j q]; exact (hA f).1 ⟨j, j1, by rcases (show j = k ∨ j < k by omega) with e | e; (subst e; exact absurd j3.symm q); exact e, j3⟩
      · have q : f ≠ g k := fun w => hn ⟨k, by omega, by omega, w.symm⟩
        rw [sg_j q]; exact (hA f).2 (fun ⟨j, j1, j2, j3⟩ => hn ⟨j, j1, by omega, j3⟩)
theorem c_settleFrom {cg0 : sg_T} {fn : Nat → Option Nat} {cx : cx_T} (d : Nat) {sz pl : Nat} {vp : Int32} {g c : Nat → Nat} (hB : RB cg0 sz g c) (hp : vp = nI pl) (pz : pl ≤ sz) : am_Met mi_X6_settleFrom d 0 0 [.ref 84, .int vp] (hc cg0 fn cx) (fun r' h' => r' = none ∧ ∃ cg', h' = hc cg' fn cx ∧ (∀ a, a ≠ 87 → cg' a = cg0 a) ∧ ∀ f, ((∃ j, pl ≤ j ∧ j < sz ∧ g j = f) → cg' 87 f = 1) ∧ ((¬ ∃ j, pl ≤ j ∧ j < sz ∧ g j = f) → cg' 87 f = cg0 87 f)) := by
  refine am_Met.of rfl (Nat.le_of_ble_eq_true rfl) ?_
  refine am_go ok_X6_settleFrom [2] 62 ?_
  exact c_sf_l hB (sz + 1) pl _ cg0 hp (fun _ _ => rfl) (fun f => ⟨fun ⟨j, j1, j2, _⟩ => absurd j1 (by omega), fun _ => rfl⟩) (by omega) pz (by omega)
def swN (g : Nat → Nat) (a b : Nat) : Nat → Nat := fun j => if j = a then g b else if j = b then g a else g j
theorem sw_1 {g : Nat → Nat} {a b : Nat} : swN g a b a = g b := if_pos rfl
theorem sw_2 {g : Nat → Nat} {a b : Nat} : swN g a b b = g a := by
  unfold swN
  by_cases h : b = a
  · rw [if_pos h, h]
  · rw [if_neg h, if_pos rfl]
theorem sw_n {g : Nat → Nat} {a b j : Nat} (h1 : j ≠ a) (h2 : j ≠ b) : swN g a b j = g j := by unfold swN; rw [if_neg h1, if_neg h2]
theorem sw_c {g : Nat → Nat} {a b j n : Nat} (ha : a < n) (hb : b < n) (hj : j < n) : ∃ l, l < n ∧ swN g a b j = g l ∧ swN g a b l = g j := by
  by_cases h1 : j = a
  · subst h1; exact ⟨b, hb, sw_1, sw_2⟩
  · by_cases h2 : j = b
    · subst h2; exact ⟨a, ha, sw_2, sw_1⟩
    · exact ⟨j, hj, sw_n h1 h2, sw_n h1 h2⟩
theorem rb_sw {cg : sg_T} {sz a b : Nat} {g c : Nat → Nat} (h : RB cg sz g c) (ha : a < sz) (hb : b < sz) : RB (sg_u (sg_u cg 86 b (nI (g a))) 86 a (nI (g b))) sz (swN g a b) c ∧ ∀ f, inR (swN g a b) sz f ↔ inR g sz f := by
  have hr : ∀ f, inR (swN g a b) sz f ↔ inR g sz f := fun f => by
    constructor
    · rintro ⟨j, hj, e⟩
      obtain ⟨l, hl, e1, e2⟩ := sw_c (g := g) ha hb hj
      exact ⟨l, hl, e1.symm.trans e⟩
    · rintro ⟨j, hj, e⟩
      obtain ⟨l, hl, e1, e2⟩ := sw_c (g := g) ha hb hj
      exact ⟨l, hl, e2.trans e⟩
  obtain ⟨h1, h2, h3, h4, h5⟩ := h
  refine ⟨⟨by rw [sg_i (by decide), sg_i (by decide)]; exact h1, h2, fun i hi => ?_, fun i j hi hj hg => ?_, fun f hf hn => ?_⟩, hr⟩
  · have e : sg_u (sg_u cg 86 b (nI (g a))) 86 a (nI (g b)) 86 i = nI (swN g a b i) := by
      by_cases q1 : i = a
      · rw [q1, sg_s, sw_1]
      · rw [sg_j q1]
        by_cases q2 : i = b
        · rw [q2, sg_s, sw_2]
        · rw [sg_j q2, sw_n q1 q2]; exact (h3 i hi).2.1
    obtain ⟨l, hl, e1, -⟩ := sw_c (g := g) ha hb hi
    rw [e, sg_i (by decide), sg_i (by decide), e1]
    obtain ⟨x1, x2, x3⟩ := h3 l hl
    exact ⟨x1, rfl, x3⟩
  · unfold swN at hg
    by_cases q1 : i = a <;> by_cases q2 : j = a
    · omega
    · rw [if_pos q1, if_neg q2] at hg
      by_cases q3 : j = b
      · rw [if_pos q3] at hg; have := h4 b a hb ha hg; omega
      · rw [if_neg q3] at hg; have := h4 b j hb hj hg; omega
    · rw [if_neg q1, if_pos q2] at hg
      by_cases q3 : i = b
      · rw [if_pos q3] at hg; have := h4 a b ha hb hg; omega
      · rw [if_neg q3] at hg; have := h4 i b hi hb hg; omega
    · rw [if_neg q1, if_neg q2] at hg
      by_cases q3 : i = b <;> by_cases q4 : j = b
      · omega
      · rw [if_pos q3, if_neg q4] at hg; have := h4 a j ha hj hg; omega
      · rw [if_neg q3, if_pos q4] at hg; have := h4 i a hi ha hg; omega
      · rw [if_neg q3, if_neg q4] at hg; exact h4 i j hi hj hg
  · rw [sg_i (by decide), sg_i (by decide)]
    exact h5 f hf (fun w => hn ((hr f).mpr w))
theorem c_bl_e {cg : sg_T} {fn : Nat → Option Nat} {cx : cx_T} {d kc ks sz pl : Nat} {vp : Int32} {g c : Nat → Nat} (hB : RB cg sz g c) (hp : vp = nI pl) (pz : pl < sz) {l : Nat} {vl z : Int32} (hl : vl = nI l) (l1 : pl ≤ l) (l2 : l < sz) (hm : ∀ j, pl ≤ j → j < sz → c (g l) ≤ c (g j)) : am_W mi_X6_bringLeast d (fun r' h' => r' = none ∧ ∃ l, pl ≤ l ∧ l < sz ∧ (∀ j, pl ≤ j → j < sz → c (g l) ≤ c (g j)) ∧ h' = hc (sg_u (sg_u cg 86 l (nI (g pl))) 86 pl (nI (g l))) fn cx) kc ks 47 [some (.ref 84), some (.int vp), some (.int vl), some (.int z)] [] (hc cg fn cx) := by
  refine am_go ok_X6_bringLeast [] 78 ?_
  have z7 := hB.2.1
  obtain ⟨-, b2, -, -⟩ := hB.2.2.1 l l2
  obtain ⟨-, a2, -, -⟩ := hB.2.2.1 pl pz
  refine ⟨_, _, rfl, rfl, ?_⟩
  refine ⟨_, _, l, rfl, hl, by omega, Nat.le_of_ble_eq_true rfl, ?_⟩
  rw [b2]
  refine ⟨_, _, rfl, rfl, ?_⟩
  refine ⟨_, _, rfl, rfl, ?_⟩
  refine ⟨_, _, pl, rfl, hp, by omega, Nat.le_of_ble_eq_true rfl, ?_⟩
  rw [a2]
  refine ⟨_, _, l, rfl, hl, by omega, Nat.le_of_ble_eq_true rfl, ?_⟩
  rw [hc_a86]
  refine ⟨_, _, rfl, rfl, ?_⟩
  refine ⟨_, _, pl, rfl, hp, by omega, Nat.le_of_ble_eq_true rfl, ?_⟩
  rw [hc_a86]
  exact ⟨rfl, l, l1, l2, hm, rfl⟩
theorem c_bl_l {cg : sg_T} {fn : Nat → Option Nat} {cx : cx_T} {d kc ks sz pl : Nat} {vp : Int32} {g c : Nat → Nat} (hB : RB cg sz g c) (hp : vp = nI pl) (pz : pl < sz) : ∀ (u k l : Nat) (vl z : Int32), z = nI k → vl = nI l → pl ≤ l → l < k → (∀ j, pl ≤ j → j < k → c (g l) ≤ c (g j)) → k ≤ sz → sz < k + u → am_W mi_X6_bringLeast d (fun r' h' => r' = none ∧ ∃ l, pl ≤ l ∧ l < sz ∧ (∀ j, pl ≤ j → j < sz → c (g l) ≤ c (g j)) ∧ h' = hc (sg_u (sg_u cg 86 l (nI (g pl))) 86 pl (nI (g l))) fn cx) kc ks 6 [some (.ref 84), some (.int vp), some (.int vl), some (.int z)] [] (hc cg fn cx) := by
  intro u
  induction u with
  | zero => intro k l vl z hz hl l1 l2 hm h1 h2; exact absurd h2 (by omega)
  | succ u ih =>
    intro k l vl z hz hl l1 l2 hm h1 h2
    refine am_go ok_X6_bringLeast [6, 47] 83 ?_
    have z7 := hB.2.1
    refine ⟨_, _, rfl, rfl, ?_⟩
    rw [hB.1]
    refine ⟨fun c11 => ?_, fun c11 => ?_⟩
    · rw [hz] at c11
      have k1 : k = sz := by have := (nI_leI (by omega) (by omega)).mp c11; omega
      subst k1
      exact c_bl_e hB hp pz hl l1 l2 hm
    · have k1 : k < sz := by
        rcases Nat.lt_or_ge k sz with q1 | q1
        · exact q1
        · exact absurd (by rw [hz]; exact (nI_leI (by omega) (by omega)).mpr q1) c11
      obtain ⟨x1, x2, x3, x4⟩ := hB.2.2.1 k k1
      obtain ⟨y1, y2, y3, y4⟩ := hB.2.2.1 l (by omega)
      refine ⟨_, _, rfl, rfl, ?_⟩
      refine ⟨_, _, rfl, rfl, ?_⟩
      refine ⟨_, _, k, rfl, hz, by omega, Nat.le_of_ble_eq_true rfl, ?_⟩
      rw [x2]
      refine ⟨_, _, (g k), rfl, rfl, by omega, Nat.le_of_ble_eq_true rfl, ?_⟩
      rw [x3]
      refine ⟨_, _, rfl, rfl, ?_⟩
      refine ⟨_, _, rfl, rfl, ?_⟩
      refine ⟨_, _, l, rfl, hl, by omega, Nat.le_of_ble_eq_true rfl, ?_⟩
      rw [y2]
      refine ⟨_, _, (g l), rfl, rfl, by omega, Nat.le_of_ble_eq_true rfl, ?_⟩
      rw [y3]
      refine ⟨fun c36 => ?_, fun c36 => ?_⟩
      · have c36' := (nI_leI (by omega) (by omega)).mp c36
        first
        | exact ih (k + 1) l _ _ (by rw [hz, nI_1]) hl l1 (by omega) (fun j j1 j2 => by rcases (show j = k ∨ j < k by omega) with e | e; (subst e; exact c36'); exact hm j j1 e) (by omega) (by omega)
        | exact ih (k + 1) k _ _ (by rw [hz, nI_1]) hz (by omega) (by omega) (fun j j1 j2 => by rcases (show j = k ∨ j < k by omega) with e | e; (subst e; exact Nat.le_refl _); have := hm j j1 e; omega) (by omega) (by omega)
      · have c36' : c (g k) < c (g l) := by
          rcases Nat.lt_or_ge (c (g k)) (c (g l)) with q | q
          · exact q
          · exact absurd ((nI_leI (by omega) (by omega)).mpr q) c36
        first
        | exact ih (k + 1) l _ _ (by rw [hz, nI_1]) hl l1 (by omega) (fun j j1 j2 => by rcases (show j = k ∨ j < k by omega) with e | e; (subst e; exact c36'); exact hm j j1 e) (by omega) (by omega)
        | exact ih (k + 1) k _ _ (by rw [hz, nI_1]) hz (by omega) (by omega) (fun j j1 j2 => by rcases (show j = k ∨ j < k by omega) with e | e; (subst e; exact Nat.le_refl _); have := hm j j1 e; omega) (by omega) (by omega)
theorem c_bringLeast {cg : sg_T} {fn : Nat → Option Nat} {cx : cx_T} {d sz pl : Nat} {vp : Int32} {g c : Nat → Nat} (hB : RB cg sz g c) (hp : vp = nI pl) (pz : pl < sz) : am_Met mi_X6_bringLeast d 0 0 [.ref 84, .int vp] (hc cg fn cx) (fun r' h' => r' = none ∧ ∃ l, pl ≤ l ∧ l < sz ∧ (∀ j, pl ≤ j → j < sz → c (g l) ≤ c (g j)) ∧ h' = hc (sg_u (sg_u cg 86 l (nI (g pl))) 86 pl (nI (g l))) fn cx) := by
  refine am_Met.of rfl (Nat.le_of_ble_eq_true rfl) ?_
  refine am_go ok_X6_bringLeast [6] 66 ?_
  exact c_bl_l hB hp pz (sz + 1) (pl + 1) pl _ _ (by rw [hp, nI_1]) hp (by omega) (by omega) (fun j j1 j2 => by rw [show j = pl by omega]; exact Nat.le_refl _) (by omega) (by omega)
def mdN (md : Bool) : Nat := if md = true then 1 else 0
theorem mdN_b (md : Bool) : bI md = nI (mdN md) := by cases md <;> rfl
/-- what holds of Reach between calls: its row, and nothing else is settled -/
def rI (cg : sg_T) : Prop := ∃ sz g c, RB cg sz g c ∧ ∀ f, f < 750 → ¬ inR g sz f → cg 87 f = 0
def frB (cg cg' : sg_T) : Prop := ∀ a, a ≠ 84 → a ≠ 85 → a ≠ 86 → a ≠ 87 → cg' a = cg a
/-- the first k PAPERS of x -/
def bgI (md : Bool) (P : Nat → Int32) (x : Int32) (k : Nat) (cg : sg_T) : Prop := cg 84 5 = bI md ∧ (∀ f, f < 750 → cg 87 f = 0) ∧ ∃ sz g c, RB cg sz g c ∧ (∀ f, f < 750 → (inR g sz f ↔ baX P k x f)) ∧ ∀ a, a < sz → c (g a) = mdN md
theorem baX_s {P : Nat → Int32} {x : Int32} {k f0 f : Nat} (hk : P (54 + k) = nI f0) (f07 : f0 < 750) (f7 : f < 750) : baX P (k + 1) x f ↔ (baX P k x f ∨ (bq x k = true ∧ f = f0)) := by
  constructor
  · rintro ⟨j, hj, b, e⟩
    rcases (show j = k ∨ j < k by omega) with z | z
    · subst z; rw [hk] at e; exact Or.inr ⟨b, ((nI_eq (by omega) (by omega)).mp e).symm⟩
    · exact Or.inl ⟨j, z, b, e⟩
  · rintro (⟨j, hj, b, e⟩ | ⟨b, e⟩)
    · exact ⟨j, by omega, b, e⟩
    · exact ⟨k, by omega, b, by rw [hk, e]⟩
theorem bg_st {md : Bool} {P : Nat → Int32} {x : Int32} {k f0 : Nat} {cg : sg_T} (hk : P (54 + k) = nI f0) (f07 : f0 < 750) (hb : bq x k = true) (h : bgI md P x k cg) : bgI md P x (k + 1) (avR cg f0 (nI (mdN md))) := by
  obtain ⟨h5, h7, sz, g, c, hB, hi, hc⟩ := h
  have m1 : mdN md ≤ 1 := by unfold mdN; split <;> omega
  have g7 : ∀ f, f < 750 → avR cg f0 (nI (mdN md)) 87 f = 0 := fun f hf => by rw [avR_fr 87 (by decide) (by decide) (by decide)]; exact h7 f hf
  have hr : ∀ f, f < 750 → (baX P (k + 1) x f ↔ (inR g sz f ∨ f = f0)) := fun f hf => by
    rw [baX_s hk f07 hf, hi f hf]
    exact ⟨fun w => w.elim Or.inl (fun z => Or.inr z.2), fun w => w.elim Or.inl (fun z => Or.inr ⟨hb, z⟩)⟩
  refine ⟨avR_5.trans h5, g7, ?_⟩
  rcases av_rb (b := mdN md) hB f07 (by omega) with ⟨q1, q2, q3⟩ | ⟨q1, q2, q3⟩ | ⟨q1, q2, q3⟩
  · refine ⟨sz + 1, _, _, q3, fun f hf => ?_, fun a ha => ?_⟩
    · rw [inR_a, hr f hf]
    · rcases (show a = sz ∨ a < sz by omega) with z | z
      · rw [z, updN_s, updN_s]
      · rw [show updN g sz f0 a = g a from updN_n (by omega), updN_n (fun w => q1 ⟨a, z, w⟩)]; exact hc a z
  · obtain ⟨a, a1, a2⟩ := q1
    have := hc a a1
    rw [a2] at this; omega
  · rw [q3]
    refine ⟨sz, g, c, hB, fun f hf => ?_, hc⟩
    rw [hr f hf]
    exact ⟨Or.inl, fun w => w.elim id (fun z => by rw [z]; exact q1)⟩
theorem bg_no {md : Bool} {P : Nat → Int32} {x : Int32} {k f0 : Nat} {cg : sg_T} (hk : P (54 + k) = nI f0) (f07 : f0 < 750) (hb : bq x k = false) (h : bgI md P x k cg) : bgI md P x (k + 1) cg := by
  obtain ⟨h5, h7, sz, g, c, hB, hi, hc⟩ := h
  refine ⟨h5, h7, sz, g, c, hB, fun f hf => ?_, hc⟩
  rw [baX_s hk f07 hf, hi f hf, hb]
  exact ⟨Or.inl, fun w => w.elim id (fun z => absurd z.1 (by decide))⟩
theorem bgI.sz {md : Bool} {P : Nat → Int32} {x : Int32} {k : Nat} {cg : sg_T} (h : bgI md P x k cg) : ∃ sz, sz ≤ 750 ∧ cg 84 3 = nI sz := by
  obtain ⟨-, -, sz, g, c, hB, -, -⟩ := h
  exact ⟨sz, hB.2.1, hB.1⟩
theorem c_bg_2 {cg0 : sg_T} {fn : Nat → Option Nat} {cx : cx_T} {P : Nat → Int32} (hB0 : BR 1 cg0 P) {md : Bool} {d kc ks n : Nat} {x : Int32} (h3 : P 3 = nI n) (n20 : n ≤ 20) (hf : ∀ k, k < n → ∃ f, f < 750 ∧ P (54 + k) = nI f) (hd : 1 ≤ d) : ∀ (u k : Nat) (z : Int32) (cg : sg_T), z = nI k → frB cg0 cg → bgI md P x k cg → k ≤ n → n < k + u → am_W mi_X6_begin d (fun r' h' => r' = none ∧ ∃ cg', h' = hc cg' fn cx ∧ frB cg0 cg' ∧ bgI md P x n cg') kc ks 52 [some (.ref 84), some (.int x), some (.int (bI md)), some (.int z)] [] (hc cg fn cx) := by
  intro u
  induction u with
  | zero => intro k z cg hz hF hI h1 h2; exact absurd h2 (by omega)
  | succ u ih =>
    intro k z cg hz hF hI h1 h2
    refine am_go ok_X6_begin [52] 86 ?_
    refine ⟨_, _, rfl, rfl, ?_⟩
    refine ⟨_, _, rfl, rfl, ?_⟩
    refine ⟨_, _, 3, rfl, rfl, Nat.le_of_ble_eq_true rfl, Nat.le_of_ble_eq_true rfl, ?_⟩
    rw [hF 2 (by decide) (by decide) (by decide) (by decide), hB0.c 3 (by omega), h3]
    refine ⟨fun c62 => ?_, fun c62 => ?_⟩
    · rw [hz] at c62
      have k1 : k = n := by have := (nI_leI (by omega) (by omega)).mp c62; omega
      subst k1
      exact ⟨rfl, cg, rfl, hF, hI⟩
    · have k1 : k < n := by
        rcases Nat.lt_or_ge k n with q1 | q1
        · exact q1
        · exact absurd (by rw [hz]; exact (nI_leI (by omega) (by omega)).mpr q1) c62
      obtain ⟨f0, f07, ef⟩ := hf k k1
      obtain ⟨sz, z7, esz⟩ := hI.sz
      rw [hz]
      refine ⟨fun c70 => ?_, fun c70 => ?_⟩
      · have bk : bq x k = false := (shr_e0 (by omega) x).mp c70
        first
        | exact ih (k + 1) _ _ (by rw [nI_1]) hF (bg_no ef f07 bk hI) (by omega) (by omega)
        | exact ih (k + 1) _ _ (by rw [nI_1]) (fun a a1 a2 a3 a4 => (avR_fr a a1 a2 a3).trans (hF a a1 a2 a3 a4)) (bg_st ef f07 bk hI) (by omega) (by omega)
      · have bk : bq x k = true := by
          cases e : bq x k with
          | true => rfl
          | false => exact absurd ((shr_e0 (by omega) x).mpr e) c70
        refine ⟨_, _, rfl, rfl, ?_⟩
        refine ⟨_, _, rfl, rfl, ?_⟩
        refine ⟨_, _, k, rfl, rfl, by omega, Nat.le_of_ble_eq_true rfl, ?_⟩
        rw [hF 7 (by decide) (by decide) (by decide) (by decide), hB0.pf k (by omega), ef]
        refine ⟨fun c84 => ?_, fun c84 => ?_⟩
        · have eb : (0 : Int32) = nI (mdN md) := by rw [← mdN_b, c84]
          refine ⟨_, rfl, d - 1, 0, 0, _, by omega, Nat.le_of_ble_eq_true rfl, Nat.le_of_ble_eq_true rfl, Nat.le_of_ble_eq_true rfl, c_arrive (e := f0) (d - 1) rfl f07 esz z7, ?_⟩
          rintro _ _ ⟨rfl, rfl⟩
          refine ⟨Or.inl rfl, ?_⟩
          rw [eb]
          first
          | exact ih (k + 1) _ _ (by rw [nI_1]) hF (bg_no ef f07 bk hI) (by omega) (by omega)
          | exact ih (k + 1) _ _ (by rw [nI_1]) (fun a a1 a2 a3 a4 => (avR_fr a a1 a2 a3).trans (hF a a1 a2 a3 a4)) (bg_st ef f07 bk hI) (by omega) (by omega)
        · have eb : (1 : Int32) = nI (mdN md) := by rw [← mdN_b]; cases md; exact absurd rfl c84; rfl
          refine ⟨_, rfl, d - 1, 0, 0, _, by omega, Nat.le_of_ble_eq_true rfl, Nat.le_of_ble_eq_true rfl, Nat.le_of_ble_eq_true rfl, c_arrive (e := f0) (d - 1) rfl f07 esz z7, ?_⟩
          rintro _ _ ⟨rfl, rfl⟩
          refine ⟨Or.inl rfl, ?_⟩
          rw [eb]
          first
          | exact ih (k + 1) _ _ (by rw [nI_1]) hF (bg_no ef f07 bk hI) (by omega) (by omega)
          | exact ih (k + 1) _ _ (by rw [nI_1]) (fun a a1 a2 a3 a4 => (avR_fr a a1 a2 a3).trans (hF a a1 a2 a3 a4)) (bg_st ef f07 bk hI) (by omega) (by omega)
theorem c_bg_1 {cg0 : sg_T} {fn : Nat → Option Nat} {cx : cx_T} {P : Nat → Int32} (hB0 : BR 1 cg0 P) {md : Bool} {d kc ks n : Nat} {x : Int32} (h3 : P 3 = nI n) (n20 : n ≤ 20) (hf : ∀ k, k < n → ∃ f, f < 750 ∧ P (54 + k) = nI f) (hd : 1 ≤ d) {sz : Nat} {g c : Nat → Nat} (hB : RB cg0 sz g c) (h87 : ∀ f, f < 750 → ¬ inR g sz f → cg0 87 f = 0) : ∀ (u k : Nat) (z : Int32) (cg : sg_T), z = nI k → (∀ a, a ≠ 85 → a ≠ 87 → cg a = cg0 a) → (∀ f, f < 750 → ((∃ j, j < k ∧ g j = f) → cg 85 f = -1 ∧ cg 87 f = 0) ∧ ((¬ ∃ j, j < k ∧ g j = f) → cg 85 f = cg0 85 f ∧ cg 87 f = cg0 87 f)) → k ≤ sz → sz < k + u → am_W mi_X6_begin d (fun r' h' => r' = none ∧ ∃ cg', h' = hc cg' fn cx ∧ frB cg0 cg' ∧ bgI md P x n cg') kc ks 2 [some (.ref 84), some (.int x), some (.int (bI md)), some (.int z)] [] (hc cg fn cx) := by
  intro u
  induction u with
  | zero => intro k z cg hz hF hA h1 h2; exact absurd h2 (by omega)
  | succ u ih =>
    intro k z cg hz hF hA h1 h2
    refine am_go ok_X6_begin [2, 52] 82 ?_
    have z7 := hB.2.1
    refine ⟨_, _, rfl, rfl, ?_⟩
    rw [hF 84 (by decide) (by decide), hB.1]
    refine ⟨fun c7 => ?_, fun c7 => ?_⟩
    · rw [hz] at c7
      have k1 : k = sz := by have := (nI_leI (by omega) (by omega)).mp c7; omega
      subst k1
      refine ⟨_, rfl, Nat.le_of_ble_eq_true rfl, trivial, ?_⟩
      rw [hc_f84_3]
      refine ⟨_, rfl, Nat.le_of_ble_eq_true rfl, bI_fit _, ?_⟩
      rw [hc_f84_5]
      have F1 : ∀ f, f < 750 → cg 85 f = -1 ∧ cg 87 f = 0 := fun f f7 => by
        by_cases q : ∃ j, j < k ∧ g j = f
        · exact (hA f f7).1 q
        · rw [((hA f f7).2 q).1, ((hA f f7).2 q).2]; exact ⟨hB.2.2.2.2 f f7 q, h87 f f7 q⟩
      exact c_bg_2 hB0 h3 n20 hf hd (n + 1) 0 0 _ rfl (fun a a1 a2 a3 a4 => by rw [sg_i a1, sg_i a1]; exact hF a a2 a4) ⟨by rw [sg_s], fun f f7 => by rw [sg_i (by decide), sg_i (by decide)]; exact (F1 f f7).2, 0, fun _ => 0, fun _ => 0, ⟨by rw [sg_j (by decide), sg_s]; rfl, by omega, fun i hi => absurd hi (by omega), fun i j hi => absurd hi (by omega), fun f f7 _ => by rw [sg_i (by decide), sg_i (by decide)]; exact (F1 f f7).1⟩, fun f f7 => ⟨fun ⟨i, hi, _⟩ => absurd hi (by omega), fun ⟨i, hi, _⟩ => absurd hi (by omega)⟩, fun a ha => absurd ha (by omega)⟩ (by omega) (by omega)
    · have k1 : k < sz := by
        rcases Nat.lt_or_ge k sz with q1 | q1
        · exact q1
        · exact absurd (by rw [hz]; exact (nI_leI (by omega) (by omega)).mpr q1) c7
      obtain ⟨x1, x2, -, -⟩ := hB.2.2.1 k k1
      refine ⟨_, _, rfl, rfl, ?_⟩
      refine ⟨_, _, rfl, rfl, ?_⟩
      refine ⟨_, _, k, rfl, hz, by omega, Nat.le_of_ble_eq_true rfl, ?_⟩
      rw [hF 86 (by decide) (by decide), x2]
      refine ⟨_, _, (g k), rfl, rfl, by omega, Nat.le_of_ble_eq_true rfl, ?_⟩
      rw [hc_a85]
      refine ⟨_, _, rfl, rfl, ?_⟩
      refine ⟨_, _, rfl, rfl, ?_⟩
      refine ⟨_, _, k, rfl, hz, by omega, Nat.le_of_ble_eq_true rfl, ?_⟩
      rw [sg_i (by decide), hF 86 (by decide) (by decide), x2]
      refine ⟨_, _, (g k), rfl, rfl, by omega, Nat.le_of_ble_eq_true rfl, ?_⟩
      rw [hc_a87]
      rw [nar_0]
      refine ih (k + 1) _ _ (by rw [hz, nI_1]) (fun a a1 a2 => by rw [sg_i a2, sg_i a1]; exact hF a a1 a2) (fun f f7 => ⟨fun ⟨j, j1, j2⟩ => ?_, fun hn => ?_⟩) (by omega) (by omega)
      · by_cases q : f = g k
        · rw [q, sg_s, sg_i (by decide), sg_s]; exact ⟨rfl, rfl⟩
        · rw [show sg_u (sg_u cg 85 (g k) (-1)) 87 (g k) 0 85 f = cg 85 f by rw [sg_i (by decide), sg_j q], show sg_u (sg_u cg 85 (g k) (-1)) 87 (g k) 0 87 f = cg 87 f by rw [sg_j q, sg_i (by decide)]]; exact (hA f f7).1 ⟨j, by rcases (show j = k ∨ j < k by omega) with e | e; (subst e; exact absurd j2.symm q); exact e, j2⟩
      · have q : f ≠ g k := fun w => hn ⟨k, by omega, w.symm⟩
        rw [show sg_u (sg_u cg 85 (g k) (-1)) 87 (g k) 0 85 f = cg 85 f by rw [sg_i (by decide), sg_j q], show sg_u (sg_u cg 85 (g k) (-1)) 87 (g k) 0 87 f = cg 87 f by rw [sg_j q, sg_i (by decide)]]; exact (hA f f7).2 (fun ⟨j, j1, j2⟩ => hn ⟨j, by omega, j2⟩)
theorem c_begin {cg0 : sg_T} {fn : Nat → Option Nat} {cx : cx_T} {P : Nat → Int32} (hB0 : BR 1 cg0 P) {md : Bool} {d n : Nat} {x : Int32} (h3 : P 3 = nI n) (n20 : n ≤ 20) (hf : ∀ k, k < n → ∃ f, f < 750 ∧ P (54 + k) = nI f) (hd : 1 ≤ d) (hI : rI cg0) : am_Met mi_X6_begin d 0 0 [.ref 84, .int x, .int (bI md)] (hc cg0 fn cx) (fun r' h' => r' = none ∧ ∃ cg', h' = hc cg' fn cx ∧ frB cg0 cg' ∧ bgI md P x n cg') := by
  refine am_Met.of rfl (Nat.le_of_ble_eq_true rfl) ?_
  refine am_go ok_X6_begin [2] 62 ?_
  obtain ⟨sz, g, c, hB, h87⟩ := hI
  exact c_bg_1 hB0 h3 n20 hf hd hB h87 (sz + 1) 0 0 cg0 rfl (fun _ _ _ => rfl) (fun f f7 => ⟨fun ⟨j, hj, _⟩ => absurd hj (by omega), fun _ => ⟨rfl, rfl⟩⟩) (by omega) (by omega)
