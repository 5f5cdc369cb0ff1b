/-! RuleReader: signs, what stands where it reads -/
def fdI : List Int32 → Int32 → Nat → Int32
  | [], _, _ => -1
  | b :: l, s, k => if b = s then nI k else fdI l s (k + 1)
theorem fd_s {l : List Int32} {s : Int32} {k : Nat} (h : k < l.length) : fdI (l.drop k) s k = if l.getD k 0 = s then nI k else fdI (l.drop (k + 1)) s (k + 1) := by
  rw [List.drop_eq_getElem_cons h, fdI]
  simp [List.getD, h]
theorem fd_e {l : List Int32} {s : Int32} : fdI (l.drop l.length) s l.length = -1 := by rw [List.drop_length]; rfl
theorem am_ll : ∀ i, i < 3 → (am_byt.getD i []).length = am_len.getD i 0 := by decide
/-- an ARG's number in the class -/
def acI (c : Int32) : Int32 := if 97 ≤ c ∧ c ≤ 100 then c - 92 else if 48 ≤ c ∧ c ≤ 52 then c - 48 else -1
def sgX (c : Int32) : Int32 := if c = 60 then 0 else if c = 61 then 1 else if c = 35 then 2 else -1
theorem fd_0 : ∀ w, w < 256 → fdI (am_byt.getD 0 []) (bY (nI w)) 0 = shF (nI w) := by decide +kernel
theorem fd_1 : ∀ w, w < 256 → fdI (am_byt.getD 1 []) (bY (nI w)) 0 = acI (nI w) := by decide +kernel
theorem fd_2 : ∀ w, w < 256 → fdI (am_byt.getD 2 []) (bY (nI w)) 0 = sgX (nI w) := by decide +kernel
/-- what the reader reads -/
def rdB (P : Nat → Int32) (n : Nat) (cg : sg_T) : Prop := (∀ i, i < 120 → cg 3 i = bY (P (2358 + i))) ∧ tbO P ∧ P 8 = nI n ∧ n ≤ 120 ∧ cg 91 1 = nI n
theorem rd_at {P : Nat → Int32} {n a : Nat} {cg : sg_T} (h : rdB P n cg) (ha : a < n) : ∃ w, w < 256 ∧ hr P a = nI w ∧ cg 3 a = bY (nI w) := by
  obtain ⟨h1, h2, h3, h4, h5⟩ := h
  obtain ⟨w, w2, ew⟩ := h2 a (by omega)
  exact ⟨w, w2, by unfold hr; rw [if_pos (by rw [pn_of h3 (by omega)]; exact ha), ew], by rw [h1 a (by omega), ew]⟩
theorem rd_no {P : Nat → Int32} {n a : Nat} {cg : sg_T} (h : rdB P n cg) (ha : ¬ a < n) : hr P a = -1 := by
  unfold hr; rw [if_neg (by rw [pn_of h.2.2.1 (by have := h.2.2.2.1; omega)]; exact ha)]
/-- the sign's place among the signs of a text -/
def plV (i : Nat) (c : Int32) : Int32 := if i = 0 then shF c else if i = 1 then acI c else sgX c
theorem pl_at {P : Nat → Int32} {n a i : Nat} {cg : sg_T} (h : rdB P n cg) (ha : a < n) (hi : i < 3) : fdI (am_byt.getD i []) (cg 3 a) 0 = plV i (hr P a) := by
  obtain ⟨w, w2, e1, e2⟩ := rd_at h ha
  rw [e1, e2]
  unfold plV
  rcases (show i = 0 ∨ i = 1 ∨ i = 2 by omega) with z | z | z
  · subst z; rw [if_pos rfl]; exact fd_0 w w2
  · subst z; rw [if_neg (by decide), if_pos rfl]; exact fd_1 w w2
  · subst z; rw [if_neg (by decide), if_neg (by decide)]; exact fd_2 w w2
theorem pl_no : ∀ i, i < 3 → plV i (-1) = -1 := by decide
theorem c_pl_l {cg : sg_T} {fn : Nat → Option Nat} {kx : Value × am_H} {P : Nat → Int32} {n t a : Nat} (hB : rdB P n cg) (ha : cg 91 2 = nI a) (a1 : a ≤ 800) {d kc ks si : Nat} (hd : 4 ≤ d) (hi : si < 3) (an : a < n) : ∀ (u k : Nat) (z : Int32), z = nI k → fdI ((am_byt.getD si []).drop k) (cg 3 a) k = plV si (hr P a) → k ≤ am_len.getD si 0 → am_len.getD si 0 < k + u → am_W mi_X7_placeIn d (fun r' h' => r' = some (.int (plV si (hr P a))) ∧ h' = (hc cg fn (3, 18 + 3 * t, kx))) kc ks 15 [some (.ref 91), some (.ref (100000 + si)), some (.int z)] [] (hc cg fn (3, 18 + 3 * t, kx)) := by
  intro u
  induction u with
  | zero => intro k z hz hf h1 h2; exact absurd h2 (by omega)
  | succ u ih =>
    intro k z hz hf h1 h2
    refine am_go ok_X7_placeIn [15] 76 ?_
    have l9 := am_l9 si hi
    have ll := am_ll si hi
    have n1 := hB.2.2.2.1
    refine ⟨(show 100000 + si < 100003 by omega), (show 100000 ≤ 100000 + si by omega), d - 1, 0, 0, _, by omega, Nat.le_of_ble_eq_true rfl, Nat.le_of_ble_eq_true rfl, Nat.le_of_ble_eq_true rfl, s_length (d := d - 1) (by omega) hi, ?_⟩
    rintro _ _ ⟨rfl, rfl⟩
    refine ⟨Or.inl rfl, ?_⟩
    refine ⟨fun c20 => ?_, fun c20 => ?_⟩
    · rw [hz] at c20
      have k1 : k = am_len.getD si 0 := by have := (nI_leI (by omega) (by omega)).mp c20; omega
      have ef : plV si (hr P a) = -1 := by rw [← hf, k1, ← ll, fd_e]
      refine ⟨trivial, ?_⟩
      exact ⟨by rw [ef], rfl⟩
    · have k1 : k < am_len.getD si 0 := by
        rcases Nat.lt_or_ge k (am_len.getD si 0) with q1 | q1
        · exact q1
        · exact absurd (by rw [hz]; exact (nI_leI (by omega) (by omega)).mpr q1) c20
      rw [fd_s (by omega)] at hf
      rw [hz]
      refine ⟨(show 100000 + si < 100003 by omega), (show 100000 ≤ 100000 + si by omega), d - 1, 0, 0, _, by omega, Nat.le_of_ble_eq_true rfl, Nat.le_of_ble_eq_true rfl, Nat.le_of_ble_eq_true rfl, s_charAt (d := d - 1) (by omega) hi k1, ?_⟩
      rintro _ _ ⟨rfl, rfl⟩
      refine ⟨Or.inl rfl, ?_⟩
      refine ⟨_, _, rfl, rfl, ?_⟩
      refine ⟨_, _, rfl, rfl, ?_⟩
      refine ⟨_, _, rfl, rfl, ?_⟩
      rw [ha]
      refine ⟨_, _, a, rfl, rfl, by omega, Nat.le_of_ble_eq_true rfl, ?_⟩
      refine ⟨fun c40 => ?_, fun c40 => ?_⟩
      · rw [if_neg c40] at hf
        exact ih (k + 1) _ (by rw [nI_1]) hf (by omega) (by omega)
      · rw [if_pos c40] at hf
        refine ⟨trivial, ?_⟩
        exact ⟨by rw [hf], rfl⟩
theorem c_placeIn {cg : sg_T} {fn : Nat → Option Nat} {kx : Value × am_H} {P : Nat → Int32} {n t a : Nat} (hB : rdB P n cg) (ha : cg 91 2 = nI a) (a1 : a ≤ 800) {d si : Nat} (hd : 4 ≤ d) (hi : si < 3) : am_Met mi_X7_placeIn d 0 0 [.ref 91, .ref (100000 + si)] (hc cg fn (3, 18 + 3 * t, kx)) (fun r' h' => r' = some (.int (plV si (hr P a))) ∧ h' = (hc cg fn (3, 18 + 3 * t, kx))) := by
  refine am_Met.of rfl (Nat.le_of_ble_eq_true rfl) ?_
  refine am_go ok_X7_placeIn [15] 67 ?_
  have n1 := hB.2.2.2.1
  refine ⟨_, _, rfl, rfl, ?_⟩
  rw [ha]
  refine ⟨_, _, rfl, rfl, ?_⟩
  rw [hB.2.2.2.2]
  refine ⟨fun c8 => ?_, fun c8 => ?_⟩
  · have an : a < n := (nI_ltI (by omega) (by omega)).mp c8
    exact c_pl_l hB ha a1 hd hi an (am_len.getD si 0 + 1) 0 0 rfl (pl_at hB an hi) (by omega) (by omega)
  · have q : ¬ a < n := fun z => c8 ((nI_ltI (by omega) (by omega)).mpr z)
    have ef : plV si (hr P a) = -1 := by rw [rd_no hB q]; exact pl_no si hi
    refine ⟨trivial, ?_⟩
    exact ⟨by rw [ef], rfl⟩
theorem c_skip {cg : sg_T} {fn : Nat → Option Nat} {kx : Value × am_H} {P : Nat → Int32} {n t a : Nat} (hB : rdB P n cg) (ha : cg 91 2 = nI a) (a1 : a ≤ 800) (d : Nat) {k : Nat} {vk : Int32} (hk : vk = nI k) (k1 : k < 128) : am_Met mi_X7_skip d 0 0 [.ref 91, .int vk] (hc cg fn (3, 18 + 3 * t, kx)) (fun r' h' => ∃ b cg', r' = some (.int (bI b)) ∧ (b = true ↔ hr P a = nI k) ∧ cg' = (if b = true then sg_u cg 91 2 (nI (a + 1)) else cg) ∧ h' = hc cg' fn (3, 18 + 3 * t, kx)) := by
  refine am_Met.of rfl (Nat.le_of_ble_eq_true rfl) ?_
  refine am_go ok_X7_skip [] 80 ?_
  have n1 := hB.2.2.2.1
  have nF : ¬ hr P a = nI k → ∃ b cg', some (Value.int 0) = some (.int (bI b)) ∧ (b = true ↔ hr P a = nI k) ∧ cg' = (if b = true then sg_u cg 91 2 (nI (a + 1)) else cg) ∧ hc cg fn (3, 18 + 3 * t, kx) = hc cg' fn (3, 18 + 3 * t, kx) := fun q => ⟨false, cg, rfl, ⟨fun w => absurd w (by decide), fun w => absurd w q⟩, by rw [if_neg (by decide)], rfl⟩
  refine ⟨_, _, rfl, rfl, ?_⟩
  rw [ha]
  refine ⟨_, _, rfl, rfl, ?_⟩
  rw [hB.2.2.2.2]
  refine ⟨fun c8 => ?_, fun c8 => ?_⟩
  · have q : ¬ a < n := by have := (nI_leI (by omega) (by omega)).mp c8; omega
    have ef : ¬ hr P a = nI k := by rw [rd_no hB q]; exact fun w => nI_m1 (by omega) w.symm
    refine ⟨rfl, ?_⟩
    exact nF ef
  · have an : a < n := by
      rcases Nat.lt_or_ge a n with q1 | q1
      · exact q1
      · exact absurd ((nI_leI (by omega) (by omega)).mpr q1) c8
    obtain ⟨w, w2, e1, e2⟩ := rd_at hB an
    refine ⟨_, _, rfl, rfl, ?_⟩
    refine ⟨_, _, rfl, rfl, ?_⟩
    refine ⟨_, _, rfl, rfl, ?_⟩
    rw [ha]
    refine ⟨_, _, a, rfl, rfl, by omega, Nat.le_of_ble_eq_true rfl, ?_⟩
    rw [e2]
    refine ⟨fun c24 => ?_, fun c24 => ?_⟩
    · have ef : hr P a = nI k := by rw [hk] at c24; rw [e1]; exact (by_e w2 k1).mp c24
      refine ⟨_, _, rfl, rfl, ?_⟩
      rw [ha]
      refine ⟨_, rfl, Nat.le_of_ble_eq_true rfl, trivial, ?_⟩
      rw [hc_f91_2, nI_1]
      refine ⟨rfl, ?_⟩
      exact ⟨true, _, rfl, ⟨fun _ => ef, fun _ => rfl⟩, by rw [if_pos rfl], rfl⟩
    · have ef : ¬ hr P a = nI k := fun z => c24 (by rw [hk]; exact (by_e w2 k1).mpr (by rw [← e1]; exact z))
      refine ⟨rfl, ?_⟩
      exact nF ef
/-- a letter's bit in the class -/
def lM (c : Int32) : Int32 := if 5 ≤ acI c then 1 <<< (acI c &&& 31) else 0
theorem or_0 (x : Int32) : x ||| 0 = x := bq_ext (fun i _ => by rw [bq_or, bq_0, Bool.or_false])
theorem ac_no : acI (-1) = -1 := by decide
theorem ac_all : ∀ w, w < 256 → (arP (nI w) ∧ ∃ k, k < 9 ∧ acI (nI w) = nI k) ∨ (¬ arP (nI w) ∧ acI (nI w) = -1) := by
  have h : ∀ w, w < 256 → ((((97 ≤ nI w ∧ nI w ≤ 100) ∨ (48 ≤ nI w ∧ nI w ≤ 52)) ∧ ∃ k, k < 9 ∧ acI (nI w) = nI k) ∨ (¬ ((97 ≤ nI w ∧ nI w ≤ 100) ∨ (48 ≤ nI w ∧ nI w ≤ 52)) ∧ acI (nI w) = -1)) := by decide +kernel
  exact h
theorem ac_of {P : Nat → Int32} {n a : Nat} {cg : sg_T} (h : rdB P n cg) : (arP (hr P a) ∧ ∃ k, k < 9 ∧ acI (hr P a) = nI k) ∨ (¬ arP (hr P a) ∧ acI (hr P a) = -1) := by
  by_cases q : a < n
  · obtain ⟨w, w2, e1, -⟩ := rd_at h q
    rw [e1]; exact ac_all w w2
  · rw [rd_no h q]
    refine Or.inr ⟨?_, ac_no⟩
    rintro (z | z)
    · exact absurd z.1 (by decide)
    · exact absurd z.1 (by decide)
/-- reading an ARG touches only the place and the letters -/
def frA7 (t : Nat) (cg cg' : sg_T) : Prop := ∀ c i, ¬ (c = 91 ∧ (i = 2 ∨ i = 4)) → ¬ (c = 18 + 3 * t ∧ i = 2) → cg' c i = cg c i
theorem sg_2 {cg : sg_T} {c i a b : Nat} {x : Int32} (h : ¬ (a = c ∧ b = i)) : sg_u cg c i x a b = cg a b := by
  by_cases q : a = c
  · subst q; exact sg_j (fun w => h ⟨rfl, w⟩)
  · rw [sg_i q]
def agO (t a : Nat) (k : Bool) (c : Int32) (cg cg' : sg_T) : Prop := frA7 t cg cg' ∧ cg' 91 2 = nI (a + 1) ∧ cg' 91 4 = (if k = true then cg 91 4 ||| lM c else cg 91 4) ∧ cg' (18 + 3 * t) 2 = (if k = true then cg (18 + 3 * t) 2 else cg (18 + 3 * t) 2 ||| lM c)
theorem c_ra_n {cg : sg_T} {fn : Nat → Option Nat} {kx : Value × am_H} {P : Nat → Int32} {t a d kc ks : Nat} {k : Bool} (hp : ¬ arP (hr P a)) (ej : acI (hr P a) = -1) : am_W mi_X7_readArg d (fun r' h' => ∃ cg', r' = some (.int (acI (hr P a))) ∧ h' = hc cg' fn (3, 18 + 3 * t, kx) ∧ ((arP (hr P a) ∧ agO t a k (hr P a) cg cg') ∨ (¬ arP (hr P a) ∧ cg' = cg))) kc ks 7 [some (.ref 91), some (.int (bI k)), some (.int (-1))] [] (hc cg fn (3, 18 + 3 * t, kx)) := by
  refine am_go ok_X7_readArg [] 63 ?_
  refine ⟨fun c8 => absurd c8 (by decide), fun _ => ?_⟩
  refine ⟨trivial, ?_⟩
  exact ⟨cg, by rw [ej], rfl, Or.inr ⟨hp, rfl⟩⟩
theorem c_ra_y {cg : sg_T} {fn : Nat → Option Nat} {kx : Value × am_H} {P : Nat → Int32} {n t a : Nat} (hB : rdB P n cg) (ha : cg 91 2 = nI a) (a1 : a ≤ 800) {d kc ks j : Nat} (t20 : t < 20) (k : Bool) (hp : arP (hr P a)) (j9 : j < 9) (ej : acI (hr P a) = nI j) (eM5 : 5 ≤ j → lM (hr P a) = 1 <<< (nI j &&& 31)) (eM0 : ¬ 5 ≤ j → lM (hr P a) = 0) : am_W mi_X7_readArg d (fun r' h' => ∃ cg', r' = some (.int (acI (hr P a))) ∧ h' = hc cg' fn (3, 18 + 3 * t, kx) ∧ ((arP (hr P a) ∧ agO t a k (hr P a) cg cg') ∨ (¬ arP (hr P a) ∧ cg' = cg))) kc ks 7 [some (.ref 91), some (.int (bI k)), some (.int (nI j))] [] (hc cg fn (3, 18 + 3 * t, kx)) := by
  refine am_go ok_X7_readArg [] 86 ?_
  refine ⟨fun _ => ?_, fun c8 => absurd (nI_ge0 j (by omega)) c8⟩
  refine ⟨_, _, rfl, rfl, ?_⟩
  rw [ha]
  refine ⟨_, rfl, Nat.le_of_ble_eq_true rfl, trivial, ?_⟩
  rw [hc_f91_2, nI_1]
  refine ⟨fun c25 => ?_, fun c25 => ?_⟩
  · have q : ¬ 5 ≤ j := fun w => absurd c25 (by have := (nI_leI (a := 5) (by omega) (by omega)).mpr w; exact i_len this)
    refine ⟨fun c49 => ?_, fun c49 => ?_⟩
    · have q' : ¬ 5 ≤ j := fun w => absurd c49 (by have := (nI_leI (a := 5) (by omega) (by omega)).mpr w; exact i_len this)
      refine ⟨trivial, ?_⟩
      first
      | exact absurd q' q
      | exact absurd q q'
      | (refine ⟨_, by rw [ej], rfl, Or.inl ⟨hp, fun c i h1 h2 => ?_, ?_, ?_, ?_⟩⟩
         · rw [sg_2 (fun z => h1 ⟨z.1, Or.inr z.2⟩), sg_2 (fun z => h1 ⟨z.1, Or.inl z.2⟩)]
         · rw [sg_j (by decide), sg_s]
         · rw [if_pos hk, sg_s, eM5 q]
         · rw [if_pos hk, sg_i (by omega), sg_i (by omega)])
      | (refine ⟨_, by rw [ej], rfl, Or.inl ⟨hp, fun c i h1 h2 => ?_, ?_, ?_, ?_⟩⟩
         · rw [sg_2 h2, sg_2 (fun z => h1 ⟨z.1, Or.inl z.2⟩)]
         · rw [sg_i (by omega), sg_s]
         · rw [if_neg (by rw [hk]; decide), sg_i (by omega), sg_j (by decide)]
         · rw [if_neg (by rw [hk]; decide), sg_s, eM5 q'])
      | (refine ⟨_, by rw [ej], rfl, Or.inl ⟨hp, fun c i h1 h2 => ?_, ?_, ?_, ?_⟩⟩
         · rw [sg_2 (fun z => h1 ⟨z.1, Or.inl z.2⟩)]
         · rw [sg_s]
         · rw [sg_j (by decide), eM0 q, or_0]; split <;> rfl
         · rw [sg_i (by omega), eM0 q, or_0]; split <;> rfl)
    · have q' : 5 ≤ j := (nI_leI (a := 5) (by omega) (by omega)).mp (i_nlt c49)
      refine ⟨_, _, rfl, rfl, ?_⟩
      refine ⟨_, _, hc_nT t20, rfl, ?_⟩
      refine ⟨_, hc_nT t20, Nat.le_of_ble_eq_true rfl, trivial, ?_⟩
      rw [hc_fT2 t20, sg_i (by omega)]
      refine ⟨trivial, ?_⟩
      first
      | exact absurd q' q
      | exact absurd q q'
      | (refine ⟨_, by rw [ej], rfl, Or.inl ⟨hp, fun c i h1 h2 => ?_, ?_, ?_, ?_⟩⟩
         · rw [sg_2 (fun z => h1 ⟨z.1, Or.inr z.2⟩), sg_2 (fun z => h1 ⟨z.1, Or.inl z.2⟩)]
         · rw [sg_j (by decide), sg_s]
         · rw [if_pos hk, sg_s, eM5 q]
         · rw [if_pos hk, sg_i (by omega), sg_i (by omega)])
      | (refine ⟨_, by rw [ej], rfl, Or.inl ⟨hp, fun c i h1 h2 => ?_, ?_, ?_, ?_⟩⟩
         · rw [sg_2 h2, sg_2 (fun z => h1 ⟨z.1, Or.inl z.2⟩)]
         · rw [sg_i (by omega), sg_s]
         · rw [if_neg (by rw [hk]; decide), sg_i (by omega), sg_j (by decide)]
         · rw [if_neg (by rw [hk]; decide), sg_s, eM5 q'])
      | (refine ⟨_, by rw [ej], rfl, Or.inl ⟨hp, fun c i h1 h2 => ?_, ?_, ?_, ?_⟩⟩
         · rw [sg_2 (fun z => h1 ⟨z.1, Or.inl z.2⟩)]
         · rw [sg_s]
         · rw [sg_j (by decide), eM0 q, or_0]; split <;> rfl
         · rw [sg_i (by omega), eM0 q, or_0]; split <;> rfl)
  · have q : 5 ≤ j := (nI_leI (a := 5) (by omega) (by omega)).mp (i_nlt c25)
    refine ⟨fun c29 => ?_, fun c29 => ?_⟩
    · have hk : k = false := bI_0.mp c29
      refine ⟨fun c49 => ?_, fun c49 => ?_⟩
      · have q' : ¬ 5 ≤ j := fun w => absurd c49 (by have := (nI_leI (a := 5) (by omega) (by omega)).mpr w; exact i_len this)
        refine ⟨trivial, ?_⟩
        first
        | exact absurd q' q
        | exact absurd q q'
        | (refine ⟨_, by rw [ej], rfl, Or.inl ⟨hp, fun c i h1 h2 => ?_, ?_, ?_, ?_⟩⟩
           · rw [sg_2 (fun z => h1 ⟨z.1, Or.inr z.2⟩), sg_2 (fun z => h1 ⟨z.1, Or.inl z.2⟩)]
           · rw [sg_j (by decide), sg_s]
           · rw [if_pos hk, sg_s, eM5 q]
           · rw [if_pos hk, sg_i (by omega), sg_i (by omega)])
        | (refine ⟨_, by rw [ej], rfl, Or.inl ⟨hp, fun c i h1 h2 => ?_, ?_, ?_, ?_⟩⟩
           · rw [sg_2 h2, sg_2 (fun z => h1 ⟨z.1, Or.inl z.2⟩)]
           · rw [sg_i (by omega), sg_s]
           · rw [if_neg (by rw [hk]; decide), sg_i (by omega), sg_j (by decide)]
           · rw [if_neg (by rw [hk]; decide), sg_s, eM5 q'])
        | (refine ⟨_, by rw [ej], rfl, Or.inl ⟨hp, fun c i h1 h2 => ?_, ?_, ?_, ?_⟩⟩
           · rw [sg_2 (fun z => h1 ⟨z.1, Or.inl z.2⟩)]
           · rw [sg_s]
           · rw [sg_j (by decide), eM0 q, or_0]; split <;> rfl
           · rw [sg_i (by omega), eM0 q, or_0]; split <;> rfl)
      · have q' : 5 ≤ j := (nI_leI (a := 5) (by omega) (by omega)).mp (i_nlt c49)
        refine ⟨_, _, rfl, rfl, ?_⟩
        refine ⟨_, _, hc_nT t20, rfl, ?_⟩
        refine ⟨_, hc_nT t20, Nat.le_of_ble_eq_true rfl, trivial, ?_⟩
        rw [hc_fT2 t20, sg_i (by omega)]
        refine ⟨trivial, ?_⟩
        first
        | exact absurd q' q
        | exact absurd q q'
        | (refine ⟨_, by rw [ej], rfl, Or.inl ⟨hp, fun c i h1 h2 => ?_, ?_, ?_, ?_⟩⟩
           · rw [sg_2 (fun z => h1 ⟨z.1, Or.inr z.2⟩), sg_2 (fun z => h1 ⟨z.1, Or.inl z.2⟩)]
           · rw [sg_j (by decide), sg_s]
           · rw [if_pos hk, sg_s, eM5 q]
           · rw [if_pos hk, sg_i (by omega), sg_i (by omega)])
        | (refine ⟨_, by rw [ej], rfl, Or.inl ⟨hp, fun c i h1 h2 => ?_, ?_, ?_, ?_⟩⟩
           · rw [sg_2 h2, sg_2 (fun z => h1 ⟨z.1, Or.inl z.2⟩)]
           · rw [sg_i (by omega), sg_s]
           · rw [if_neg (by rw [hk]; decide), sg_i (by omega), sg_j (by decide)]
           · rw [if_neg (by rw [hk]; decide), sg_s, eM5 q'])
        | (refine ⟨_, by rw [ej], rfl, Or.inl ⟨hp, fun c i h1 h2 => ?_, ?_, ?_, ?_⟩⟩
           · rw [sg_2 (fun z => h1 ⟨z.1, Or.inl z.2⟩)]
           · rw [sg_s]
           · rw [sg_j (by decide), eM0 q, or_0]; split <;> rfl
           · rw [sg_i (by omega), eM0 q, or_0]; split <;> rfl)
    · have hk : k = true := by cases k; exact absurd rfl c29; rfl
      refine ⟨_, _, rfl, rfl, ?_⟩
      rw [sg_j (by decide)]
      refine ⟨_, rfl, Nat.le_of_ble_eq_true rfl, trivial, ?_⟩
      rw [hc_f91_4]
      refine ⟨trivial, ?_⟩
      first
      | exact absurd q' q
      | exact absurd q q'
      | (refine ⟨_, by rw [ej], rfl, Or.inl ⟨hp, fun c i h1 h2 => ?_, ?_, ?_, ?_⟩⟩
         · rw [sg_2 (fun z => h1 ⟨z.1, Or.inr z.2⟩), sg_2 (fun z => h1 ⟨z.1, Or.inl z.2⟩)]
         · rw [sg_j (by decide), sg_s]
         · rw [if_pos hk, sg_s, eM5 q]
         · rw [if_pos hk, sg_i (by omega), sg_i (by omega)])
      | (refine ⟨_, by rw [ej], rfl, Or.inl ⟨hp, fun c i h1 h2 => ?_, ?_, ?_, ?_⟩⟩
         · rw [sg_2 h2, sg_2 (fun z => h1 ⟨z.1, Or.inl z.2⟩)]
         · rw [sg_i (by omega), sg_s]
         · rw [if_neg (by rw [hk]; decide), sg_i (by omega), sg_j (by decide)]
         · rw [if_neg (by rw [hk]; decide), sg_s, eM5 q'])
      | (refine ⟨_, by rw [ej], rfl, Or.inl ⟨hp, fun c i h1 h2 => ?_, ?_, ?_, ?_⟩⟩
         · rw [sg_2 (fun z => h1 ⟨z.1, Or.inl z.2⟩)]
         · rw [sg_s]
         · rw [sg_j (by decide), eM0 q, or_0]; split <;> rfl
         · rw [sg_i (by omega), eM0 q, or_0]; split <;> rfl)
theorem c_readArg {cg : sg_T} {fn : Nat → Option Nat} {kx : Value × am_H} {P : Nat → Int32} {n t a : Nat} (hB : rdB P n cg) (ha : cg 91 2 = nI a) (a1 : a ≤ 800) {d : Nat} (hd : 5 ≤ d) (t20 : t < 20) {vk : Int32} (k : Bool) (hvk : vk = bI k) : am_Met mi_X7_readArg d 0 0 [.ref 91, .int vk] (hc cg fn (3, 18 + 3 * t, kx)) (fun r' h' => ∃ cg', r' = some (.int (acI (hr P a))) ∧ h' = hc cg' fn (3, 18 + 3 * t, kx) ∧ ((arP (hr P a) ∧ agO t a k (hr P a) cg cg') ∨ (¬ arP (hr P a) ∧ cg' = cg))) := by
  subst hvk
  refine am_Met.of rfl (Nat.le_of_ble_eq_true rfl) ?_
  refine am_go ok_X7_readArg [7] 64 ?_
  refine ⟨_, rfl, d - 1, 0, 0, _, by omega, Nat.le_of_ble_eq_true rfl, Nat.le_of_ble_eq_true rfl, Nat.le_of_ble_eq_true rfl, c_placeIn hB ha a1 (d := d - 1) (si := 1) (by omega) (by omega), ?_⟩
  rintro _ _ ⟨rfl, rfl⟩
  refine ⟨Or.inl rfl, ?_⟩
  rw [show plV 1 (hr P a) = acI (hr P a) from rfl]
  rcases ac_of (a := a) hB with ⟨hp, j, j9, ej⟩ | ⟨hp, ej⟩
  · have eM5 : 5 ≤ j → lM (hr P a) = 1 <<< (nI j &&& 31) := fun z => by unfold lM; rw [ej, if_pos (show (5 : Int32) ≤ nI j from (nI_leI (a := 5) (by omega) (by omega)).mpr z)]
    have eM0 : ¬ 5 ≤ j → lM (hr P a) = 0 := fun z => by unfold lM; rw [ej, if_neg (show ¬ (5 : Int32) ≤ nI j from fun w => z ((nI_leI (a := 5) (by omega) (by omega)).mp w))]
    have := c_ra_y (fn := fn) (kx := kx) (d := d) (kc := 0 - 0) (ks := 0 - 0) hB ha a1 t20 k hp j9 ej eM5 eM0
    rw [← ej] at this
    exact this
  · have := c_ra_n (cg := cg) (fn := fn) (kx := kx) (t := t) (d := d) (kc := 0 - 0) (ks := 0 - 0) (k := k) hp ej
    rw [← ej] at this
    exact this
