/-! READING a rule's text -/
/-- the sign at a place; -1 behind the end -/
def hr (P : Nat → Int32) (a : Nat) : Int32 := if a < pn P 8 then P (2358 + a) else -1
def arP (c : Int32) : Prop := (97 ≤ c ∧ c ≤ 100) ∨ (48 ≤ c ∧ c ≤ 52)
def avF (c : Int32) : Int32 := if 97 ≤ c then 10 + c - 97 else c - 48
/-- what a TERM's signs are, one by one -/
def tmP (i : Nat) (c : Int32) : Prop := match i with
  | 0 => 0 ≤ shF c
  | 1 => c = 40
  | 2 => arP c
  | 3 => c = 44
  | 4 => arP c
  | 5 => c = 44
  | 6 => arP c
  | _ => c = 41
def gnP (c : Int32) : Prop := c = 60 ∨ c = 61 ∨ c = 35
def tsP (i : Nat) (c : Int32) : Prop := match i with
  | 1 => gnP c
  | _ => arP c
/-- what stands in the cells once a sign is read -/
def tmC (H : Nat → Int32) (a to i : Nat) (P : Nat → Int32) : Prop := match i with
  | 0 => P to = shF (H a)
  | 2 => P (to + 1) = avF (H (a + 2))
  | 4 => P (to + 2) = avF (H (a + 4))
  | 6 => P (to + 3) = avF (H (a + 6))
  | _ => True
def tsC (H : Nat → Int32) (a to i : Nat) (P : Nat → Int32) : Prop := match i with
  | 0 => P to = avF (H a)
  | 1 => P (to + 1) = H (a + 1)
  | 2 => P (to + 2) = avF (H (a + 2))
  | _ => True
/-- only the place, the fault, and these cells differ -/
def frT (to w : Nat) (sg sg' : sg_T) : Prop := (∀ a, 2 ≤ a → sg' a = sg a) ∧ (∀ i, i ≠ 3 → i ≠ 4 → sg' 0 i = sg 0 i) ∧ ∀ j, ¬ (to ≤ j ∧ j < to + w) → sg' 1 j = sg 1 j
theorem frT.rf {to w : Nat} {sg : sg_T} : frT to w sg sg := ⟨fun _ _ => rfl, fun _ _ _ => rfl, fun _ _ => rfl⟩
theorem frT.at3 {to w : Nat} {sg sg' : sg_T} {x : Int32} (h : frT to w sg sg') : frT to w sg (sg_u sg' 0 3 x) :=
  ⟨fun a ha => (sg_i (by omega)).trans (h.1 a ha), fun i h3 h4 => (sg_j h3).trans (h.2.1 i h3 h4), fun j hj => by rw [sg_i (by decide)]; exact h.2.2 j hj⟩
theorem frT.at4 {to w : Nat} {sg sg' : sg_T} {x : Int32} (h : frT to w sg sg') : frT to w sg (sg_u sg' 0 4 x) :=
  ⟨fun a ha => (sg_i (by omega)).trans (h.1 a ha), fun i h3 h4 => (sg_j h4).trans (h.2.1 i h3 h4), fun j hj => by rw [sg_i (by decide)]; exact h.2.2 j hj⟩
theorem frT.at1 {to w j : Nat} {sg sg' : sg_T} {x : Int32} (h : frT to w sg sg') (h1 : to ≤ j) (h2 : j < to + w) : frT to w sg (sg_u sg' 1 j x) :=
  ⟨fun a ha => (sg_i (by omega)).trans (h.1 a ha), fun i h3 h4 => by rw [sg_i (by decide)]; exact h.2.1 i h3 h4, fun i hi => (sg_j (by omega)).trans (h.2.2 i hi)⟩
theorem frT.tr {to w : Nat} {a b c : sg_T} (h : frT to w a b) (g : frT to w b c) : frT to w a c :=
  ⟨fun i hi => (g.1 i hi).trans (h.1 i hi), fun i h3 h4 => (g.2.1 i h3 h4).trans (h.2.1 i h3 h4), fun j hj => (g.2.2 j hj).trans (h.2.2 j hj)⟩
theorem frT.wd {to w to' w' : Nat} {a b : sg_T} (h : frT to w a b) (h1 : to' ≤ to) (h2 : to + w ≤ to' + w') : frT to' w' a b :=
  ⟨h.1, h.2.1, fun j hj => h.2.2 j (by omega)⟩
theorem hr_cg {P Q : Nat → Int32} (h8 : P 8 = Q 8) (h : ∀ j, j < 120 → P (2358 + j) = Q (2358 + j)) {n : Nat} (hn : Q 8 = nI n) (n1 : n ≤ 120) (a : Nat) : hr P a = hr Q a := by
  unfold hr pn
  rw [h8]
  split
  · rename_i q; rw [hn, nI_clamp (by omega)] at q; exact h a (by omega)
  · rfl
/-- the tape is as it was -/
def tpO (P : Nat → Int32) : Prop := ∃ n, n ≤ 120 ∧ P 8 = nI n
theorem hV_h {sg : sg_T} {a : Nat} (ha : sg 0 3 = nI a) (a8 : a < 870) (ht : tpO (sg 1)) : hV sg = hr (sg 1) a := by
  obtain ⟨n, n1, hn⟩ := ht
  unfold hV hr pn
  rw [ha, hn, nI_clamp (by omega), nI_clamp (by omega)]
  by_cases q : a < n
  · rw [if_pos ((nI_ltI (by omega) (by omega)).mpr q), if_pos q]
  · rw [if_neg (fun z => q ((nI_ltI (by omega) (by omega)).mp z)), if_neg q]
/-- k signs of a pattern are tried, from place a on -/
def pI (pat : Nat → Int32 → Prop) (C : Nat → (Nat → Int32) → Prop) (to w a k : Nat) (sg0 sg : sg_T) : Prop :=
  frT to w sg0 sg ∧ ((sg 0 4 = 0 ∧ sg 0 3 = nI (a + k) ∧ (∀ i, i < k → pat i (hr (sg0 1) (a + i))) ∧ ∀ i, i < k → C i (sg 1)) ∨ (sg 0 4 = 1 ∧ ∃ m, m < k ∧ sg 0 3 = nI (a + m) ∧ (∀ i, i < m → pat i (hr (sg0 1) (a + i))) ∧ ¬ pat m (hr (sg0 1) (a + m))))
/-- the cells' place -/
def toP (to w : Nat) (P : Nat → Int32) : Prop := 1758 ≤ to ∧ to + w ≤ 2358 ∧ tpO P
theorem fr_hr {to w : Nat} {sg sg' : sg_T} (h : frT to w sg sg') (ht : toP to w (sg 1)) (a : Nat) : hr (sg' 1) a = hr (sg 1) a := by
  obtain ⟨n, n1, hn⟩ := ht.2.2
  have := ht.1; have := ht.2.1
  exact hr_cg (h.2.2 8 (by omega)) (fun j hj => h.2.2 _ (by omega)) hn n1 a
theorem fr_tp {to w : Nat} {sg sg' : sg_T} (h : frT to w sg sg') (ht : toP to w (sg 1)) : toP to w (sg' 1) := by
  obtain ⟨t1, t2, n, n1, hn⟩ := ht
  exact ⟨t1, t2, n, n1, (h.2.2 8 (by omega)).trans hn⟩
section
variable {pat : Nat → Int32 → Prop} {C : Nat → (Nat → Int32) → Prop} {to w a k j : Nat} {sg0 sg : sg_T}
theorem pI.atP (h : pI pat C to w a k sg0 sg) (ak : a + k < 870) : atP sg := by
  rcases h.2 with ⟨-, h3, -⟩ | ⟨-, m, hm', h3, -⟩
  · exact ⟨_, ak, h3⟩
  · exact ⟨_, by omega, h3⟩
theorem pI.hV (h : pI pat C to w a k sg0 sg) (ht : toP to w (sg0 1)) (ak : a + k < 870) (h4 : sg 0 4 = 0) : hV sg = hr (sg0 1) (a + k) := by
  rcases h.2 with ⟨-, h3, -⟩ | ⟨q, -⟩
  · rw [hV_h h3 ak (fr_tp h.1 ht).2.2, fr_hr h.1 ht]
  · rw [h4] at q; exact absurd q (by decide)
/-- one sign more -/
theorem pI.go {x : Int32} (h : pI pat C to w a k sg0 sg) (h4 : sg 0 4 = 0) (hp : pat k (hr (sg0 1) (a + k))) (hc : C k (sg 1)) : pI pat C to w a (k + 1) sg0 (sg_u sg 0 3 (sg 0 3 + 1)) := by
  refine ⟨h.1.at3, Or.inl ?_⟩
  rcases h.2 with ⟨-, h3, hq, hC⟩ | ⟨q, -⟩
  · refine ⟨by rw [sg_j (by decide)]; exact h4, by rw [sg_s, h3, nI_1]; rfl, fun i hi => ?_, fun i hi => ?_⟩
    · rcases (show i = k ∨ i < k by omega) with e | e
      · rw [e]; exact hp
      · exact hq i e
    · rw [sg_i (by decide)]
      rcases (show i = k ∨ i < k by omega) with e | e
      · rw [e]; exact hc
      · exact hC i e
  · rw [h4] at q; exact absurd q (by decide)
theorem pI.ft (h : pI pat C to w a k sg0 sg) (hp : sg 0 4 = 0 → ¬ pat k (hr (sg0 1) (a + k))) : pI pat C to w a (k + 1) sg0 (sg_u sg 0 4 1) := by
  refine ⟨h.1.at4, Or.inr ⟨sg_s, ?_⟩⟩
  rcases h.2 with ⟨h4, h3, hq, -⟩ | ⟨q, m, hm', h3, hq, hn⟩
  · exact ⟨k, by omega, by rw [sg_j (by decide)]; exact h3, hq, hp h4⟩
  · exact ⟨m, by omega, by rw [sg_j (by decide)]; exact h3, hq, hn⟩
theorem pI.no (h : pI pat C to w a k sg0 sg) (h4 : ¬ sg 0 4 = 0) (n : Nat) (hn : k ≤ n) : pI pat C to w a n sg0 sg := by
  refine ⟨h.1, Or.inr ?_⟩
  rcases h.2 with ⟨q, -⟩ | ⟨q, m, hm', h3⟩
  · exact absurd q h4
  · exact ⟨q, m, by omega, h3⟩
/-- a cell written behind the sign -/
theorem pI.st {x : Int32} (h : pI pat C to w a (k + 1) sg0 sg) (h1 : to ≤ j) (h2 : j < to + w) (hC : ∀ i, i < k → C i (sg 1) → C i (upd (sg 1) j x)) (hk : sg 0 4 = 0 → C k (upd (sg 1) j x)) : pI pat C to w a (k + 1) sg0 (sg_u sg 1 j x) := by
  refine ⟨h.1.at1 h1 h2, ?_⟩
  rw [sg_i (by decide), sg_ii]
  rcases h.2 with ⟨h4, h3, hq, hc⟩ | q
  · refine Or.inl ⟨h4, h3, hq, fun i hi => ?_⟩
    rcases (show i = k ∨ i < k by omega) with e | e
    · rw [e]; exact hk h4
    · exact hC i e (hc i hi)
  · exact Or.inr q
theorem pI.eats {c : Int32} (h : pI pat C to w a k sg0 sg) (ht : toP to w (sg0 1)) (ak : a + k < 870) (hp : ∀ x, pat k x ↔ x = c) (hc : ∀ P, C k P) : pI pat C to w a (k + 1) sg0 (eaF c sg) := by
  unfold eaF
  split
  · rename_i q
    exact h.go (x := 0) q.1 ((hp _).mpr (by rw [← h.hV ht ak q.1]; exact q.2)) (hc _)
  · rename_i q
    exact h.ft (fun h4 z => q ⟨h4, by rw [h.hV ht ak h4]; exact (hp _).mp z⟩)
/-- an ARG, its cell written -/
theorem pI.arg (h : pI pat C to w a k sg0 sg) (ht : toP to w (sg0 1)) (ak : a + k < 870) (hp : ∀ x, pat k x ↔ arP x) (h1 : to ≤ j) (h2 : j < to + w) (hC : ∀ i x, i < k → C i (sg 1) → C i (upd (sg 1) j x)) (hk : ∀ P, P j = avF (hr (sg0 1) (a + k)) → C k P) (hc0 : ∀ P x, C k P → C k (upd P j x) → True) : pI pat C to w a (k + 1) sg0 (sg_u (arF sg) 1 j (arV sg)) := by
  unfold arF arV
  split
  · rename_i q
    have e := h.hV ht ak q.1
    refine ⟨((h.1.at3).at1 h1 h2), Or.inl ?_⟩
    rcases h.2 with ⟨-, h3, hq, hcc⟩ | ⟨q', -⟩
    · refine ⟨by rw [sg_i (by decide), sg_j (by decide)]; exact q.1, by rw [sg_i (by decide), sg_s, h3, nI_1]; rfl, fun i hi => ?_, fun i hi => ?_⟩
      · rcases (show i = k ∨ i < k by omega) with z | z
        · rw [z]; exact (hp _).mpr (by rw [← e]; exact q.2)
        · exact hq i z
      · rw [sg_ii, sg_i (by decide)]
        rcases (show i = k ∨ i < k by omega) with z | z
        · rw [z]; exact hk _ (by rw [pk_us, e]; rfl)
        · exact hC i _ z (hcc i z)
    · rw [q.1] at q'; exact absurd q' (by decide)
  · rename_i q
    have g := h.ft (fun h4 z => q ⟨h4, by rw [h.hV ht ak h4]; exact (hp _).mp z⟩)
    refine ⟨g.1.at1 h1 h2, ?_⟩
    rw [sg_i (by decide)]
    rcases g.2 with ⟨z, -⟩ | z
    · rw [sg_s] at z; exact absurd z (by decide)
    · exact Or.inr z
end
theorem tmC_u {H : Nat → Int32} {a to i j : Nat} {P : Nat → Int32} {x : Int32} (hj : ∀ l, 2 * l = i → to + l ≠ j) (h : tmC H a to i P) : tmC H a to i (upd P j x) := by
  unfold tmC at h ⊢
  split <;> rename_i e
  · rw [pk_un (show to ≠ j from hj 0 (by omega))]; exact h
  · rw [pk_un (hj 1 (by omega))]; exact h
  · rw [pk_un (hj 2 (by omega))]; exact h
  · rw [pk_un (hj 3 (by omega))]; exact h
  · trivial
theorem tsC_u {H : Nat → Int32} {a to i j : Nat} {P : Nat → Int32} {x : Int32} (hj : to + i ≠ j) (h : tsC H a to i P) : tsC H a to i (upd P j x) := by
  unfold tsC at h ⊢
  split <;> rename_i e
  · rw [pk_un (by omega)]; exact h
  · rw [pk_un (by omega)]; exact h
  · rw [pk_un (by omega)]; exact h
  · trivial
theorem pI_0 {pat : Nat → Int32 → Prop} {C : Nat → (Nat → Int32) → Prop} {to w a : Nat} {sg : sg_T} (h4 : sg 0 4 = 0) (h3 : sg 0 3 = nI a) : pI pat C to w a 0 sg sg := ⟨frT.rf, Or.inl ⟨h4, h3, fun _ h => absurd h (by omega), fun _ h => absurd h (by omega)⟩⟩
theorem m_term {sg0 : sg_T} {d : Nat} (hd : 10 ≤ d) {to a : Nat} {vt : Int32} (ht : vt = nI to) (hT : toP to 4 (sg0 1)) (h4 : sg0 0 4 = 0) (h3 : sg0 0 3 = nI a) (a8 : a < 800) : am_Met mi_X12_term d 0 0 [.ref 0, .int vt] (hm sg0) (fun r h' => r = none ∧ ∃ sg, h' = hm sg ∧ pI tmP (tmC (hr (sg0 1)) a to) to 4 a 8 sg0 sg) := by
  refine am_Met.of rfl (Nat.le_of_ble_eq_true rfl) ?_
  refine am_go ok_X12_term [] 116 ?_
  have := hT.1; have := hT.2.1
  have i0 := pI_0 (pat := tmP) (C := tmC (hr (sg0 1)) a to) (to := to) (w := 4) h4 h3
  have e0 : hV sg0 = hr (sg0 1) a := i0.hV hT (by omega) h4
  refine ⟨_, rfl, d - 1, 0, 0, _, by omega, Nat.le_of_ble_eq_true rfl, Nat.le_of_ble_eq_true rfl, Nat.le_of_ble_eq_true rfl, m_here (d - 1) ⟨a, by omega, h3⟩, ?_⟩
  rintro _ _ ⟨rfl, rfl⟩
  refine ⟨Or.inl rfl, ?_⟩
  refine ⟨d - 1, 0, 0, _, by omega, Nat.le_of_ble_eq_true rfl, Nat.le_of_ble_eq_true rfl, Nat.le_of_ble_eq_true rfl, m_shapeOf (d - 1) _, ?_⟩
  rintro _ _ ⟨rfl, rfl⟩
  refine ⟨Or.inl rfl, ?_⟩
  refine ⟨_, _, rfl, rfl, ?_⟩
  refine ⟨fun c12 => absurd c12 (fun z => z h4), fun _ => ?_⟩
  refine ⟨fun c16 => ?_, fun c16 => ?_⟩
  · refine ⟨_, _, rfl, rfl, ?_⟩
    refine ⟨_, rfl, Nat.le_of_ble_eq_true rfl, trivial, ?_⟩
    rw [hm_f0_3]
    refine ⟨_, _, rfl, rfl, ?_⟩
    refine ⟨_, _, to, rfl, ht, by omega, Nat.le_of_ble_eq_true rfl, ?_⟩
    rw [hm_a1]
    have i1 : pI tmP (tmC (hr (sg0 1)) a to) to 4 a 1 sg0 (sg_u (sg_u sg0 0 3 (sg0 0 3 + 1)) 1 to (shF (hV sg0))) := by
      refine ⟨(frT.rf.at3).at1 (by omega) (by omega), Or.inl ⟨by rw [sg_i (by decide), sg_j (by decide)]; exact h4, by rw [sg_i (by decide), sg_s, h3, nI_1], fun i hi => ?_, fun i hi => ?_⟩⟩
      · rw [show i = 0 by omega]; show 0 ≤ shF (hr (sg0 1) a); rw [← e0]; exact c16
      · rw [show i = 0 by omega]; show sg_u _ 1 to _ 1 to = shF (hr (sg0 1) a); rw [sg_s, e0]
    generalize sg_u (sg_u sg0 0 3 (sg0 0 3 + 1)) 1 to (shF (hV sg0)) = s1 at i1 ⊢
    refine ⟨_, rfl, d - 1, 0, 0, _, by omega, Nat.le_of_ble_eq_true rfl, Nat.le_of_ble_eq_true rfl, Nat.le_of_ble_eq_true rfl, m_eats (by omega) (i1.atP (by omega)) 40, ?_⟩
    rintro _ _ ⟨rfl, rfl⟩
    refine ⟨Or.inl rfl, ?_⟩
    have i2 := pI.eats (c := 40) i1 hT (by omega) (fun x => Iff.rfl) (fun _ => trivial)
    generalize eaF 40 s1 = s2 at i2 ⊢
    refine ⟨_, _, rfl, rfl, ?_⟩
    refine ⟨_, rfl, d - 1, 0, 0, _, by omega, Nat.le_of_ble_eq_true rfl, Nat.le_of_ble_eq_true rfl, Nat.le_of_ble_eq_true rfl, m_argument (by omega) (i2.atP (by omega)), ?_⟩
    rintro _ _ ⟨rfl, rfl⟩
    refine ⟨Or.inl rfl, ?_⟩
    refine ⟨_, _, (to + 1), rfl, (by rw [ht]; exact nI_add to 1), by omega, Nat.le_of_ble_eq_true rfl, ?_⟩
    rw [hm_a1]
    have i3 := pI.arg (j := to + 1) i2 hT (by omega) (fun x => Iff.rfl) (by omega) (by omega) (fun i x hi h => tmC_u (by omega) h) (fun P h => h) (fun _ _ _ _ => trivial)
    generalize sg_u (arF s2) 1 (to + 1) (arV s2) = s3 at i3 ⊢
    refine ⟨_, rfl, d - 1, 0, 0, _, by omega, Nat.le_of_ble_eq_true rfl, Nat.le_of_ble_eq_true rfl, Nat.le_of_ble_eq_true rfl, m_eats (by omega) (i3.atP (by omega)) 44, ?_⟩
    rintro _ _ ⟨rfl, rfl⟩
    refine ⟨Or.inl rfl, ?_⟩
    have i4 := pI.eats (c := 44) i3 hT (by omega) (fun x => Iff.rfl) (fun _ => trivial)
    generalize eaF 44 s3 = s4 at i4 ⊢
    refine ⟨_, _, rfl, rfl, ?_⟩
    refine ⟨_, rfl, d - 1, 0, 0, _, by omega, Nat.le_of_ble_eq_true rfl, Nat.le_of_ble_eq_true rfl, Nat.le_of_ble_eq_true rfl, m_argument (by omega) (i4.atP (by omega)), ?_⟩
    rintro _ _ ⟨rfl, rfl⟩
    refine ⟨Or.inl rfl, ?_⟩
    refine ⟨_, _, (to + 2), rfl, (by rw [ht]; exact nI_add to 2), by omega, Nat.le_of_ble_eq_true rfl, ?_⟩
    rw [hm_a1]
    have i5 := pI.arg (j := to + 2) i4 hT (by omega) (fun x => Iff.rfl) (by omega) (by omega) (fun i x hi h => tmC_u (by omega) h) (fun P h => h) (fun _ _ _ _ => trivial)
    generalize sg_u (arF s4) 1 (to + 2) (arV s4) = s5 at i5 ⊢
    refine ⟨_, rfl, d - 1, 0, 0, _, by omega, Nat.le_of_ble_eq_true rfl, Nat.le_of_ble_eq_true rfl, Nat.le_of_ble_eq_true rfl, m_eats (by omega) (i5.atP (by omega)) 44, ?_⟩
    rintro _ _ ⟨rfl, rfl⟩
    refine ⟨Or.inl rfl, ?_⟩
    have i6 := pI.eats (c := 44) i5 hT (by omega) (fun x => Iff.rfl) (fun _ => trivial)
    generalize eaF 44 s5 = s6 at i6 ⊢
    refine ⟨_, _, rfl, rfl, ?_⟩
    refine ⟨_, rfl, d - 1, 0, 0, _, by omega, Nat.le_of_ble_eq_true rfl, Nat.le_of_ble_eq_true rfl, Nat.le_of_ble_eq_true rfl, m_argument (by omega) (i6.atP (by omega)), ?_⟩
    rintro _ _ ⟨rfl, rfl⟩
    refine ⟨Or.inl rfl, ?_⟩
    refine ⟨_, _, (to + 3), rfl, (by rw [ht]; exact nI_add to 3), by omega, Nat.le_of_ble_eq_true rfl, ?_⟩
    rw [hm_a1]
    have i7 := pI.arg (j := to + 3) i6 hT (by omega) (fun x => Iff.rfl) (by omega) (by omega) (fun i x hi h => tmC_u (by omega) h) (fun P h => h) (fun _ _ _ _ => trivial)
    generalize sg_u (arF s6) 1 (to + 3) (arV s6) = s7 at i7 ⊢
    refine ⟨_, rfl, d - 1, 0, 0, _, by omega, Nat.le_of_ble_eq_true rfl, Nat.le_of_ble_eq_true rfl, Nat.le_of_ble_eq_true rfl, m_eats (by omega) (i7.atP (by omega)) 41, ?_⟩
    rintro _ _ ⟨rfl, rfl⟩
    refine ⟨Or.inl rfl, ?_⟩
    have i8 := pI.eats (c := 41) i7 hT (by omega) (fun x => Iff.rfl) (fun _ => trivial)
    generalize eaF 41 s7 = s8 at i8 ⊢
    exact ⟨rfl, _, rfl, i8⟩
  · have i1 := (pI_0 (pat := tmP) (C := tmC (hr (sg0 1)) a to) (to := to) (w := 4) h4 h3).ft (fun _ z => absurd (show 0 ≤ shF (hr (sg0 1) a) from z) (by rw [← e0]; exact c16))
    refine ⟨_, rfl, Nat.le_of_ble_eq_true rfl, ⟨rfl, rfl⟩, ?_⟩
    rw [hm_f0_4]
    exact ⟨rfl, _, rfl, i1.no (by rw [sg_s]; decide) 8 (by omega)⟩
theorem m_test {sg0 : sg_T} {d : Nat} (hd : 10 ≤ d) {to a : Nat} {vt : Int32} (ht : vt = nI to) (hT : toP to 3 (sg0 1)) (h4 : sg0 0 4 = 0) (h3 : sg0 0 3 = nI a) (a8 : a < 800) : am_Met mi_X12_test d 0 0 [.ref 0, .int vt] (hm sg0) (fun r h' => r = none ∧ ∃ sg, h' = hm sg ∧ pI tsP (tsC (hr (sg0 1)) a to) to 3 a 3 sg0 sg) := by
  refine am_Met.of rfl (Nat.le_of_ble_eq_true rfl) ?_
  refine am_go ok_X12_test [] 102 ?_
  have := hT.1; have := hT.2.1
  have i0 := pI_0 (pat := tsP) (C := tsC (hr (sg0 1)) a to) (to := to) (w := 3) h4 h3
  refine ⟨_, _, rfl, rfl, ?_⟩
  refine ⟨_, rfl, d - 1, 0, 0, _, by omega, Nat.le_of_ble_eq_true rfl, Nat.le_of_ble_eq_true rfl, Nat.le_of_ble_eq_true rfl, m_argument (by omega) (i0.atP (by omega)), ?_⟩
  rintro _ _ ⟨rfl, rfl⟩
  refine ⟨Or.inl rfl, ?_⟩
  refine ⟨_, _, to, rfl, ht, by omega, Nat.le_of_ble_eq_true rfl, ?_⟩
  rw [hm_a1]
  have i1 := pI.arg (j := to + 0) i0 hT (by omega) (fun x => Iff.rfl) (by omega) (by omega) (fun i x hi h => tsC_u (by omega) h) (fun P h => h) (fun _ _ _ _ => trivial)
  generalize sg_u (arF sg0) 1 to (arV sg0) = s1 at i1 ⊢
  refine ⟨_, rfl, d - 1, 0, 0, _, by omega, Nat.le_of_ble_eq_true rfl, Nat.le_of_ble_eq_true rfl, Nat.le_of_ble_eq_true rfl, m_here (d - 1) (i1.atP (by omega)), ?_⟩
  rintro _ _ ⟨rfl, rfl⟩
  refine ⟨Or.inl rfl, ?_⟩
  refine ⟨_, _, rfl, rfl, ?_⟩
  refine ⟨fun c19 => ?_, fun c19 => ?_⟩
  · have i2 := i1.no c19 3 (by omega)
    refine ⟨_, rfl, Nat.le_of_ble_eq_true rfl, ⟨rfl, rfl⟩, ?_⟩
    rw [hm_f0_4]
    exact ⟨rfl, _, rfl, by first | exact i2.no (by rw [sg_s]; decide) 3 (by omega) | exact ⟨i2.1.at4, Or.inr (by
      rcases i2.2 with ⟨q, -⟩ | ⟨q, m, z1, z2, z3⟩
      · exact absurd q c19
      · exact ⟨sg_s, m, z1, by rw [sg_j (by decide)]; exact z2, z3⟩)⟩⟩
  · have e1 := i1.hV hT (by omega) c19
    refine ⟨fun c25 => ?_, fun c25 => ?_⟩
    · have hs : gnP (hV s1) := Or.inl c25
      refine ⟨_, _, rfl, rfl, ?_⟩
      refine ⟨_, rfl, Nat.le_of_ble_eq_true rfl, trivial, ?_⟩
      rw [hm_f0_3]
      refine ⟨_, _, rfl, rfl, ?_⟩
      refine ⟨_, _, (to + 1), rfl, (by rw [ht]; exact nI_add to 1), by omega, Nat.le_of_ble_eq_true rfl, ?_⟩
      rw [hm_a1]
      have i2 : pI tsP (tsC (hr (sg0 1)) a to) to 3 a 2 sg0 (sg_u (sg_u s1 0 3 (s1 0 3 + 1)) 1 (to + 1) (hV s1)) := by
        rcases i1.2 with ⟨-, z3, zq, zc⟩ | ⟨q, -⟩
        · refine ⟨(i1.1.at3).at1 (by omega) (by omega), Or.inl ⟨by rw [sg_i (by decide), sg_j (by decide)]; exact c19, by rw [sg_i (by decide), sg_s, z3, nI_1], fun i hi => ?_, fun i hi => ?_⟩⟩
          · rcases (show i = 1 ∨ i < 1 by omega) with z | z
            · rw [z]; show gnP _; rw [← e1]; exact hs
            · exact zq i z
          · rw [sg_ii, sg_i (by decide)]
            rcases (show i = 1 ∨ i < 1 by omega) with z | z
            · rw [z]; show upd _ _ _ _ = _; rw [pk_us, e1]
            · exact tsC_u (by omega) (zc i z)
        · rw [c19] at q; exact absurd q (by decide)
      generalize sg_u (sg_u s1 0 3 (s1 0 3 + 1)) 1 (to + 1) (hV s1) = s2 at i2 ⊢
      refine ⟨_, _, rfl, rfl, ?_⟩
      refine ⟨_, rfl, d - 1, 0, 0, _, by omega, Nat.le_of_ble_eq_true rfl, Nat.le_of_ble_eq_true rfl, Nat.le_of_ble_eq_true rfl, m_argument (by omega) (i2.atP (by omega)), ?_⟩
      rintro _ _ ⟨rfl, rfl⟩
      refine ⟨Or.inl rfl, ?_⟩
      refine ⟨_, _, (to + 2), rfl, (by rw [ht]; exact nI_add to 2), by omega, Nat.le_of_ble_eq_true rfl, ?_⟩
      rw [hm_a1]
      have i3 := pI.arg (j := to + 2) i2 hT (by omega) (fun x => Iff.rfl) (by omega) (by omega) (fun i x hi h => tsC_u (by omega) h) (fun P h => h) (fun _ _ _ _ => trivial)
      exact ⟨rfl, _, rfl, i3⟩
    · refine ⟨fun c31 => ?_, fun c31 => ?_⟩
      · have hs : gnP (hV s1) := Or.inr (Or.inl c31)
        refine ⟨_, _, rfl, rfl, ?_⟩
        refine ⟨_, rfl, Nat.le_of_ble_eq_true rfl, trivial, ?_⟩
        rw [hm_f0_3]
        refine ⟨_, _, rfl, rfl, ?_⟩
        refine ⟨_, _, (to + 1), rfl, (by rw [ht]; exact nI_add to 1), by omega, Nat.le_of_ble_eq_true rfl, ?_⟩
        rw [hm_a1]
        have i2 : pI tsP (tsC (hr (sg0 1)) a to) to 3 a 2 sg0 (sg_u (sg_u s1 0 3 (s1 0 3 + 1)) 1 (to + 1) (hV s1)) := by
          rcases i1.2 with ⟨-, z3, zq, zc⟩ | ⟨q, -⟩
          · refine ⟨(i1.1.at3).at1 (by omega) (by omega), Or.inl ⟨by rw [sg_i (by decide), sg_j (by decide)]; exact c19, by rw [sg_i (by decide), sg_s, z3, nI_1], fun i hi => ?_, fun i hi => ?_⟩⟩
            · rcases (show i = 1 ∨ i < 1 by omega) with z | z
              · rw [z]; show gnP _; rw [← e1]; exact hs
              · exact zq i z
            · rw [sg_ii, sg_i (by decide)]
              rcases (show i = 1 ∨ i < 1 by omega) with z | z
              · rw [z]; show upd _ _ _ _ = _; rw [pk_us, e1]
              · exact tsC_u (by omega) (zc i z)
          · rw [c19] at q; exact absurd q (by decide)
        generalize sg_u (sg_u s1 0 3 (s1 0 3 + 1)) 1 (to + 1) (hV s1) = s2 at i2 ⊢
        refine ⟨_, _, rfl, rfl, ?_⟩
        refine ⟨_, rfl, d - 1, 0, 0, _, by omega, Nat.le_of_ble_eq_true rfl, Nat.le_of_ble_eq_true rfl, Nat.le_of_ble_eq_true rfl, m_argument (by omega) (i2.atP (by omega)), ?_⟩
        rintro _ _ ⟨rfl, rfl⟩
        refine ⟨Or.inl rfl, ?_⟩
        refine ⟨_, _, (to + 2), rfl, (by rw [ht]; exact nI_add to 2), by omega, Nat.le_of_ble_eq_true rfl, ?_⟩
        rw [hm_a1]
        have i3 := pI.arg (j := to + 2) i2 hT (by omega) (fun x => Iff.rfl) (by omega) (by omega) (fun i x hi h => tsC_u (by omega) h) (fun P h => h) (fun _ _ _ _ => trivial)
        exact ⟨rfl, _, rfl, i3⟩
      · refine ⟨fun c37 => ?_, fun c37 => ?_⟩
        · have hs : gnP (hV s1) := Or.inr (Or.inr c37)
          refine ⟨_, _, rfl, rfl, ?_⟩
          refine ⟨_, rfl, Nat.le_of_ble_eq_true rfl, trivial, ?_⟩
          rw [hm_f0_3]
          refine ⟨_, _, rfl, rfl, ?_⟩
          refine ⟨_, _, (to + 1), rfl, (by rw [ht]; exact nI_add to 1), by omega, Nat.le_of_ble_eq_true rfl, ?_⟩
          rw [hm_a1]
          have i2 : pI tsP (tsC (hr (sg0 1)) a to) to 3 a 2 sg0 (sg_u (sg_u s1 0 3 (s1 0 3 + 1)) 1 (to + 1) (hV s1)) := by
            rcases i1.2 with ⟨-, z3, zq, zc⟩ | ⟨q, -⟩
            · refine ⟨(i1.1.at3).at1 (by omega) (by omega), Or.inl ⟨by rw [sg_i (by decide), sg_j (by decide)]; exact c19, by rw [sg_i (by decide), sg_s, z3, nI_1], fun i hi => ?_, fun i hi => ?_⟩⟩
              · rcases (show i = 1 ∨ i < 1 by omega) with z | z
                · rw [z]; show gnP _; rw [← e1]; exact hs
                · exact zq i z
              · rw [sg_ii, sg_i (by decide)]
                rcases (show i = 1 ∨ i < 1 by omega) with z | z
                · rw [z]; show upd _ _ _ _ = _; rw [pk_us, e1]
                · exact tsC_u (by omega) (zc i z)
            · rw [c19] at q; exact absurd q (by decide)
          generalize sg_u (sg_u s1 0 3 (s1 0 3 + 1)) 1 (to + 1) (hV s1) = s2 at i2 ⊢
          refine ⟨_, _, rfl, rfl, ?_⟩
          refine ⟨_, rfl, d - 1, 0, 0, _, by omega, Nat.le_of_ble_eq_true rfl, Nat.le_of_ble_eq_true rfl, Nat.le_of_ble_eq_true rfl, m_argument (by omega) (i2.atP (by omega)), ?_⟩
          rintro _ _ ⟨rfl, rfl⟩
          refine ⟨Or.inl rfl, ?_⟩
          refine ⟨_, _, (to + 2), rfl, (by rw [ht]; exact nI_add to 2), by omega, Nat.le_of_ble_eq_true rfl, ?_⟩
          rw [hm_a1]
          have i3 := pI.arg (j := to + 2) i2 hT (by omega) (fun x => Iff.rfl) (by omega) (by omega) (fun i x hi h => tsC_u (by omega) h) (fun P h => h) (fun _ _ _ _ => trivial)
          exact ⟨rfl, _, rfl, i3⟩
        · have i2 := i1.ft (fun _ z => (by
            have z' : gnP (hr (sg0 1) (a + 1)) := z
            rw [← e1] at z'
            rcases z' with z' | z' | z'
            · exact c25 z'
            · exact c31 z'
            · exact c37 z'))
          refine ⟨_, rfl, Nat.le_of_ble_eq_true rfl, ⟨rfl, rfl⟩, ?_⟩
          rw [hm_f0_4]
          exact ⟨rfl, _, rfl, by first | exact i2.no (by rw [sg_s]; decide) 3 (by omega) | exact ⟨i2.1.at4, Or.inr (by
            rcases i2.2 with ⟨q, -⟩ | ⟨q, m, z1, z2, z3⟩
            · exact absurd q c19
            · exact ⟨sg_s, m, z1, by rw [sg_j (by decide)]; exact z2, z3⟩)⟩⟩
