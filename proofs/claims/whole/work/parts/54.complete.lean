/-! Reach: complete -/
/-- a letter stands in a TERM -/
def inT (P : Nat → Int32) (x l : Nat) : Bool := bq (tlF P x (pn P x)) l
/-- letters that aren't in TERMS are 0 -/
def plP (P : Nat → Int32) (x n : Nat) : Prop := ∀ l, l < 4 → inT P x l = false → Lm n l = 0
/-- what END and TESTS ask for stands in TERMS -/
def ltP (P : Nat → Int32) (x : Nat) : Prop := (∀ i, 1 ≤ i → i < 4 → 10 ≤ pn P (x + 26 + i) → inT P x (pn P (x + 26 + i) - 10) = true) ∧ ∀ k, k < pn P (x + 1) → (10 ≤ pn P (x + 14 + 3 * k) → inT P x (pn P (x + 14 + 3 * k) - 10) = true) ∧ (10 ≤ pn P (x + 16 + 3 * k) → inT P x (pn P (x + 16 + 3 * k) - 10) = true)
theorem ltB_q {c : Nat} (hc : c < 5 ∨ 10 ≤ c ∧ c < 14) {l : Nat} (hl : l < 4) : bq (ltB (nI c)) l = decide (c = 10 + l) := by
  unfold ltB
  by_cases h : 10 ≤ c
  · rw [if_pos (show (10 : Int32) ≤ nI c from (nI_leI (a := 10) (by omega) (by omega)).mpr h), show nI c - 10 = nI (c - 10) from pk_sub h, bq_one (by omega) (by omega)]
    by_cases e : l = c - 10
    · rw [decide_eq_true e, decide_eq_true (by omega)]
    · rw [decide_eq_false e, decide_eq_false (by omega)]
  · rw [if_neg (show ¬ (10 : Int32) ≤ nI c from fun z => h ((nI_leI (a := 10) (by omega) (by omega)).mp z)), decide_eq_false (by omega)]
    unfold bq; exact BitVec.getLsbD_zero
theorem ltF_q {P : Nat → Int32} {fr l : Nat} (hl : l < 4) : ∀ {n : Nat}, (∀ i, i < n → (pn P (fr + i) < 5 ∨ 10 ≤ pn P (fr + i) ∧ pn P (fr + i) < 14) ∧ P (fr + i) = nI (pn P (fr + i))) → (bq (ltF P fr n) l = true ↔ ∃ i, i < n ∧ pn P (fr + i) = 10 + l)
  | 0, _ => ⟨fun h => absurd h (by rw [ltF]; unfold bq; rw [show (0 : Int32).toBitVec = 0#32 from rfl, BitVec.getLsbD_zero]; decide), fun ⟨i, hi, _⟩ => absurd hi (by omega)⟩
  | n + 1, h => by
    rw [ltF, bq_or, Bool.or_eq_true, ltF_q hl (fun i hi => h i (by omega)), (h n (by omega)).2, ltB_q (h n (by omega)).1 hl, decide_eq_true_iff]
    constructor
    · rintro (⟨i, hi, e⟩ | e)
      · exact ⟨i, by omega, e⟩
      · exact ⟨n, by omega, e⟩
    · rintro ⟨i, hi, e⟩
      rcases (show i = n ∨ i < n by omega) with z | z
      · subst z; exact Or.inr e
      · exact Or.inl ⟨i, z, e⟩
theorem okT_v {P : Nat → Int32} {y i : Nat} (h : okT P y) (h1 : 1 ≤ i) (h2 : i < 4) : P (y + i) = nI (pn P (y + i)) := by
  have k : ∀ j, okA (P j) → P j = nI (pn P j) := by
    rintro j ⟨c, e, hc⟩
    rw [pn_of e (by omega)]; exact e
  rcases (show i = 1 ∨ i = 2 ∨ i = 3 by omega) with e | e | e
  · subst e; exact k _ h.2.1
  · subst e; exact k _ h.2.2.1
  · subst e; exact k _ h.2.2.2
theorem tlF_q {P : Nat → Int32} {x l : Nat} (hl : l < 4) : ∀ {n : Nat}, (∀ k, k < n → okT P (x + 2 + 4 * k)) → (bq (tlF P x n) l = true ↔ ∃ k i, k < n ∧ 1 ≤ i ∧ i < 4 ∧ pn P (x + 2 + 4 * k + i) = 10 + l)
  | 0, _ => ⟨fun h => absurd h (by rw [tlF]; unfold bq; rw [show (0 : Int32).toBitVec = 0#32 from rfl, BitVec.getLsbD_zero]; decide), fun ⟨k, i, hk, _⟩ => absurd hk (by omega)⟩
  | n + 1, h => by
    have hn := h n (by omega)
    have e3 : ∀ i, x + 3 + 4 * n + i = x + 2 + 4 * n + (i + 1) := fun i => by omega
    rw [tlF, bq_or, Bool.or_eq_true, tlF_q hl (fun k hk => h k (by omega)), ltF_q hl (fun i hi => by rw [e3]; exact ⟨okT_c hn (by omega) (by omega), okT_v hn (by omega) (by omega)⟩)]
    constructor
    · rintro (⟨k, i, hk, e⟩ | ⟨i, hi, e⟩)
      · exact ⟨k, i, by omega, e⟩
      · exact ⟨n, i + 1, by omega, by omega, by omega, by rw [← e3]; exact e⟩
    · rintro ⟨k, i, hk, h1, h2, e⟩
      rcases (show k = n ∨ k < n by omega) with z | z
      · subst z; exact Or.inr ⟨i - 1, by omega, by rw [e3, show i - 1 + 1 = i by omega]; exact e⟩
      · exact Or.inl ⟨k, i, z, h1, h2, e⟩
theorem inT_t {P : Nat → Int32} {x k i : Nat} (hX : okX P x) (hk : k < pn P x) (h1 : 1 ≤ i) (h2 : i < 4) (hc : 10 ≤ pn P (x + 2 + 4 * k + i)) : inT P x (pn P (x + 2 + 4 * k + i) - 10) = true := by
  have h4 := okT_c (hX.2.2.1 k hk) h1 h2
  exact (tlF_q (by omega) hX.2.2.1).mpr ⟨k, i, hk, h1, h2, by omega⟩
/-- values: digits, and letters or free -/
def wvP (W : Nat → Int32) : Prop := dgV W ∧ ∀ l, l < 4 → W (5 + l) = -1 ∨ ∃ v, v < 5 ∧ W (5 + l) = nI v
def exP (P : Nat → Int32) (x : Nat) (W : Nat → Int32) (n : Nat) : Prop := ∀ l, l < 4 → inT P x l = true → ¬ W (5 + l) = -1 → W (5 + l) = nI (Lm n l)
/-- the lettering with these letters -/
theorem Lm_ex (f : Nat → Nat) (h : ∀ l, l < 4 → f l < 5) : ∃ n, n < 625 ∧ ∀ l, l < 4 → Lm n l = f l := by
  have h0 := h 0 (by omega); have h1 := h 1 (by omega); have h2 := h 2 (by omega); have h3 := h 3 (by omega)
  refine ⟨125 * f 0 + 25 * f 1 + 5 * f 2 + f 3, by omega, fun l hl => ?_⟩
  rcases (show l = 0 ∨ l = 1 ∨ l = 2 ∨ l = 3 by omega) with e | e | e | e
  · subst e; show (125 * f 0 + 25 * f 1 + 5 * f 2 + f 3) / 125 = f 0; omega
  · subst e; show (125 * f 0 + 25 * f 1 + 5 * f 2 + f 3) / 25 % 5 = f 1; omega
  · subst e; show (125 * f 0 + 25 * f 1 + 5 * f 2 + f 3) / 5 % 5 = f 2; omega
  · subst e; show (125 * f 0 + 25 * f 1 + 5 * f 2 + f 3) % 5 = f 3; omega
theorem Lm_u {n m : Nat} (hn : n < 625) (hm : m < 625) (h : ∀ l, l < 4 → Lm n l = Lm m l) : n = m := by
  have h0 : n / 125 = m / 125 := h 0 (by omega)
  have h1 : n / 25 % 5 = m / 25 % 5 := h 1 (by omega)
  have h2 : n / 5 % 5 = m / 5 % 5 := h 2 (by omega)
  have h3 : n % 5 = m % 5 := h 3 (by omega)
  omega
theorem vok_W {P : Nat → Int32} {x n : Nat} {W : Nat → Int32} (hw : wvP W) (hb : ∀ l, l < 4 → inT P x l = true → W (5 + l) = nI (Lm n l)) {c : Nat} (hc : c < 5 ∨ 10 ≤ c ∧ c < 14) (hi : 10 ≤ c → inT P x (c - 10) = true) : vOK W (Lm n) c := by
  unfold vOK cdN cvN
  by_cases h : 10 ≤ c
  · rw [if_pos h, if_pos h, show c - 5 = 5 + (c - 10) by omega]; exact hb _ (by omega) (hi h)
  · rw [if_neg h, if_neg h]; exact hw.1 _ (by omega)
theorem okX_c {P : Nat → Int32} {x k : Nat} (hX : okX P x) (hk : k < pn P (x + 1)) : (pn P (x + 14 + 3 * k) < 5 ∨ 10 ≤ pn P (x + 14 + 3 * k) ∧ pn P (x + 14 + 3 * k) < 14) ∧ (pn P (x + 16 + 3 * k) < 5 ∨ 10 ≤ pn P (x + 16 + 3 * k) ∧ pn P (x + 16 + 3 * k) < 14) := by
  obtain ⟨⟨c, e, hc⟩, ⟨c', e', hc'⟩⟩ := hX.2.2.2.2 k hk
  rw [pn_of e (by omega), pn_of e' (by omega)]
  exact ⟨hc, hc'⟩
theorem vl_W {P : Nat → Int32} {x n : Nat} {W : Nat → Int32} (hX : okX P x) (hlt : ltP P x) (hw : wvP W) (hb : ∀ l, l < 4 → inT P x l = true → W (5 + l) = nI (Lm n l)) : vlT W (Lm n) P x :=
  ⟨fun k hk i h1 h2 => vok_W hw hb (okT_c (hX.2.2.1 k hk) h1 h2) (inT_t hX hk h1 h2), fun i h1 h2 => vok_W hw hb (okT_c hX.2.2.2.1 h1 h2) (hlt.1 i h1 h2), fun k hk => ⟨vok_W hw hb (okX_c hX hk).1 (hlt.2 k hk).1, vok_W hw hb (okX_c hX hk).2 (hlt.2 k hk).2⟩⟩
/-- what holds all along, and what an instance leaves behind -/
abbrev cpH (P : Nat → Int32) (x : Nat) (J : sg_T → Prop) (D : Nat → sg_T → Prop) : Prop := (∀ cg n, n < 625 → plP P x n → J cg → J (stp P x cg (Lm n)) ∧ D n (stp P x cg (Lm n)) ∧ ∀ m, D m cg → D m (stp P x cg (Lm n))) ∧ (∀ cg cg', (∀ a, a ≠ 89 → cg' a = cg a) → J cg → J cg') ∧ (∀ cg cg' n, (∀ a, a ≠ 89 → cg' a = cg a) → D n cg → D n cg') ∧ ∀ cg, J cg → ∃ sz, sz ≤ 750 ∧ cg 84 3 = nI sz
def frC (cg cg' : sg_T) : Prop := frR3 cg cg' ∧ ∀ i, cg' 89 i = cg 89 i
/-- how 'complete' ends -/
def cpO (P : Nat → Int32) (x : Nat) (J : sg_T → Prop) (D : Nat → sg_T → Prop) (cg cg' : sg_T) : Prop := J cg' ∧ (∀ a, a ≠ 84 → a ≠ 85 → a ≠ 86 → a ≠ 89 → cg' a = cg a) ∧ (∀ i, cg' 89 i = cg 89 i) ∧ (∀ n, D n cg → D n cg') ∧ ∀ n, n < 625 → plP P x n → exP P x (cg 89) n → D n cg'
theorem cp_leaf {P : Nat → Int32} {x : Nat} {J : sg_T → Prop} {D : Nat → sg_T → Prop} (hH : cpH P x J D) {cg : sg_T} (hw : wvP (cg 89)) (hJ : J cg) (hb : ∀ l, l < 4 → inT P x l = true → ¬ cg 89 (5 + l) = -1) : ∃ n, n < 625 ∧ (∀ l, l < 4 → inT P x l = true → cg 89 (5 + l) = nI (Lm n l)) ∧ cpO P x J D cg (stp P x cg (Lm n)) := by
  have hv : ∀ l, ∃ v, v < 5 ∧ (l < 4 → (inT P x l = true → cg 89 (5 + l) = nI v) ∧ (inT P x l = false → v = 0)) := by
    intro l
    by_cases hl : l < 4
    · cases e : inT P x l with
      | false => exact ⟨0, by omega, fun _ => ⟨fun z => absurd z (by decide), fun _ => rfl⟩⟩
      | true =>
        rcases hw.2 l hl with z | ⟨v, v5, ev⟩
        · exact absurd z (hb l hl e)
        · exact ⟨v, v5, fun _ => ⟨fun _ => ev, fun z => absurd z (by decide)⟩⟩
    · exact ⟨0, by omega, fun z => absurd z hl⟩
  obtain ⟨n, n6, hn⟩ := Lm_ex (fun l => Classical.choose (hv l)) (fun l _ => (Classical.choose_spec (hv l)).1)
  have h1 : ∀ l, l < 4 → inT P x l = true → cg 89 (5 + l) = nI (Lm n l) := fun l hl ht => by rw [hn l hl]; exact ((Classical.choose_spec (hv l)).2 hl).1 ht
  have h2 : plP P x n := fun l hl ht => by rw [hn l hl]; exact ((Classical.choose_spec (hv l)).2 hl).2 ht
  obtain ⟨j1, j2, j3⟩ := hH.1 cg n n6 h2 hJ
  have f := stp_fr (P := P) (x := x) (cg := cg) (L := Lm n)
  refine ⟨n, n6, h1, j1, fun a a1 a2 a3 _ => f a a1 a2 a3, fun i => by rw [f 89 (by decide) (by decide) (by decide)], j3, fun m m6 hp he => ?_⟩
  have : m = n := Lm_u m6 n6 (fun l hl => by
    cases e : inT P x l with
    | false => rw [hp l hl e, h2 l hl e]
    | true =>
      have q := he l hl e (hb l hl e)
      rw [h1 l hl e] at q
      have b1 : Lm n l < 5 := okL_Lm n6 l hl
      have b2 : Lm m l < 5 := okL_Lm m6 l hl
      exact ((nI_eq (by omega) (by omega)).mp q).symm)
  rw [this]; exact j2
abbrev cpX (P : Nat → Int32) (x : Nat) (J : sg_T → Prop) (D : Nat → sg_T → Prop) (t : Nat) (fn : Nat → Option Nat) (cx : cx_T) (m : Nat) : Prop := ∀ (cg : sg_T) (d j : Nat) (vj : Int32), 5 + m ≤ d → 4 ≤ j + m → j ≤ 4 → vj = nI (5 + j) → txR cg (18 + 3 * t) P x → wvP (cg 89) → J cg → (∀ l, l < j → l < 4 → inT P x l = true → ¬ cg 89 (5 + l) = -1) → am_Met mi_X6_complete d 0 0 [.ref 84, .ref (18 + 3 * t), .int vj] (hc cg fn cx) (fun r' h' => r' = none ∧ ∃ cg', h' = hc cg' fn cx ∧ cpO P x J D cg cg')
theorem c_cp_v {P : Nat → Int32} {x : Nat} {J : sg_T → Prop} {D : Nat → sg_T → Prop} (hH : cpH P x J D) (hX : okX P x) (hlt : ltP P x) {t : Nat} (t20 : t < 20) {fn : Nat → Option Nat} {cx : cx_T} {m d kc ks j : Nat} {cg0 : sg_T} {vl vf : Int32} (ih : cpX P x J D t fn cx m) (hd : 6 + m ≤ d) (hm : 4 ≤ j + 1 + m) (j4 : j < 4) (hvf : vf = nI (5 + j)) (hR : txR cg0 (18 + 3 * t) P x) (hw : wvP (cg0 89)) (hf : cg0 89 (5 + j) = -1) (hj : inT P x j = true) (hb : ∀ l, l < j → l < 4 → inT P x l = true → ¬ cg0 89 (5 + l) = -1) : ∀ (u v : Nat) (z : Int32) (cg : sg_T), z = nI v → J cg → (∀ a, a ≠ 84 → a ≠ 85 → a ≠ 86 → a ≠ 89 → cg a = cg0 a) → (∀ i, i ≠ 5 + j → cg 89 i = cg0 89 i) → (∀ n, D n cg0 → D n cg) → (∀ n, n < 625 → plP P x n → exP P x (cg0 89) n → Lm n j < v → D n cg) → v ≤ 5 → 5 < v + u → am_W mi_X6_complete d (fun r' h' => r' = none ∧ ∃ cg', h' = hc cg' fn cx ∧ cpO P x J D cg0 cg') kc ks 47 [some (.ref 84), some (.ref (18 + 3 * t)), some (.int vl), some (.int vf), some (.int z)] [] (hc cg fn cx) := by
  intro u
  induction u with
  | zero => intro v z cg hz hJ hF hW hD hE h1 h2; exact absurd h2 (by omega)
  | succ u ih' =>
    intro v z cg hz hJ hF hW hD hE h1 h2
    refine am_go ok_X6_complete [47] 76 ?_
    refine ⟨fun c50 => ?_, fun c50 => ?_⟩
    · rw [hz] at c50
      have k1 : v = 5 := by have := (nI_leI (a := 5) (by omega) (by omega)).mp c50; omega
      subst k1
      refine ⟨_, _, rfl, rfl, ?_⟩
      refine ⟨_, _, (5 + j), rfl, hvf, by omega, Nat.le_of_ble_eq_true rfl, ?_⟩
      rw [hc_a89]
      have e9 : ∀ a, a ≠ 89 → sg_u cg 89 (5 + j) (-1) a = cg a := fun a ha => sg_i ha
      refine ⟨rfl, _, rfl, hH.2.1 _ _ e9 hJ, fun a a1 a2 a3 a4 => (sg_i a4).trans (hF a a1 a2 a3 a4), fun i => ?_, fun n hn => hH.2.2.1 _ _ n e9 (hD n hn), fun n n6 hp he => hH.2.2.1 _ _ n e9 (hE n n6 hp he (okL_Lm n6 j (by omega)))⟩
      by_cases q : i = 5 + j
      · rw [q, sg_s, hf]
      · rw [sg_j q]; exact hW i q
    · have k1 : v < 5 := by
        rcases Nat.lt_or_ge v 5 with q1 | q1
        · exact q1
        · exact absurd (by rw [hz]; exact (nI_leI (a := 5) (by omega) (by omega)).mpr q1) c50
      refine ⟨_, _, rfl, rfl, ?_⟩
      refine ⟨_, _, (5 + j), rfl, hvf, by omega, Nat.le_of_ble_eq_true rfl, ?_⟩
      rw [hc_a89]
      rw [hz]
      have e9 : ∀ a, a ≠ 89 → sg_u cg 89 (5 + j) (nI v) a = cg a := fun a ha => sg_i ha
      have J1 := hH.2.1 _ _ e9 hJ
      have D1 : ∀ n, D n cg → D n (sg_u cg 89 (5 + j) (nI v)) := fun n hn => hH.2.2.1 _ _ n e9 hn
      have F1 : ∀ a, a ≠ 84 → a ≠ 85 → a ≠ 86 → a ≠ 89 → sg_u cg 89 (5 + j) (nI v) a = cg0 a := fun a a1 a2 a3 a4 => (sg_i a4).trans (hF a a1 a2 a3 a4)
      have W1 : ∀ i, i ≠ 5 + j → sg_u cg 89 (5 + j) (nI v) 89 i = cg0 89 i := fun i hi => (sg_j hi).trans (hW i hi)
      have W2 : sg_u cg 89 (5 + j) (nI v) 89 (5 + j) = nI v := sg_s
      generalize sg_u cg 89 (5 + j) (nI v) = cg1 at J1 D1 F1 W1 W2 ⊢
      have R1 : txR cg1 (18 + 3 * t) P x := txR_fr hR (F1 _ (by omega) (by omega) (by omega) (by omega)) (F1 _ (by omega) (by omega) (by omega) (by omega)) (F1 _ (by omega) (by omega) (by omega) (by omega))
      have w1 : wvP (cg1 89) := by
        refine ⟨fun i hi => (W1 i (by omega)).trans (hw.1 i hi), fun l hl => ?_⟩
        by_cases q : l = j
        · rw [q]; exact Or.inr ⟨v, k1, W2⟩
        · rw [W1 _ (by omega)]; exact hw.2 l hl
      have b1 : ∀ l, l < j + 1 → l < 4 → inT P x l = true → ¬ cg1 89 (5 + l) = -1 := by
        intro l hl hl4 ht
        by_cases q : l = j
        · rw [q, W2]; exact nI_m1 (by omega)
        · rw [W1 _ (by omega)]; exact hb l (by omega) hl4 ht
      refine ⟨_, rfl, d - 1, 0, 0, _, by omega, Nat.le_of_ble_eq_true rfl, Nat.le_of_ble_eq_true rfl, Nat.le_of_ble_eq_true rfl, ih cg1 (d - 1) (j + 1) _ (by omega) (by omega) (by omega) (by rw [hvf, nI_1]; rfl) R1 w1 J1 b1, ?_⟩
      rintro _ _ ⟨rfl, cg2, rfl, q1, q2, q3, q4, q5⟩
      refine ⟨Or.inl rfl, ?_⟩
      refine ih' (v + 1) _ cg2 (by rw [nI_1]) q1 (fun a a1 a2 a3 a4 => (q2 a a1 a2 a3 a4).trans (F1 a a1 a2 a3 a4)) (fun i hi => (q3 i).trans (W1 i hi)) (fun n hn => q4 n (D1 n (hD n hn))) (fun n n6 hp he hl => ?_) (by omega) (by omega)
      rcases (show Lm n j = v ∨ Lm n j < v by omega) with e | e
      · refine q5 n n6 hp (fun l hl4 ht hn => ?_)
        by_cases q : l = j
        · rw [q, W2, e]
        · rw [W1 _ (by omega)] at hn ⊢; exact he l hl4 ht hn
      · exact q4 n (D1 n (hE n n6 hp he e))
theorem c_cp_g {P : Nat → Int32} {x : Nat} {J : sg_T → Prop} {D : Nat → sg_T → Prop} (hH : cpH P x J D) (hX : okX P x) (hlt : ltP P x) {t : Nat} (t20 : t < 20) {fn : Nat → Option Nat} {cx : cx_T} {m d kc ks j : Nat} {cg : sg_T} {vl vf : Int32} {t4 : Option Value} (ih : cpX P x J D t fn cx m) (hd : 6 + m ≤ d) (hm : 4 ≤ j + 1 + m) (j4 : j < 4) (hvf : vf = nI (5 + j)) (hR : txR cg (18 + 3 * t) P x) (hw : wvP (cg 89)) (hf : cg 89 (5 + j) = -1) (hj : inT P x j = true) (hb : ∀ l, l < j → l < 4 → inT P x l = true → ¬ cg 89 (5 + l) = -1) (hJ : J cg) : am_W mi_X6_complete d (fun r' h' => r' = none ∧ ∃ cg', h' = hc cg' fn cx ∧ cpO P x J D cg cg') kc ks 32 [some (.ref 84), some (.ref (18 + 3 * t)), some (.int vl), some (.int vf), t4] [] (hc cg fn cx) := by
  refine am_go ok_X6_complete [47] 65 ?_
  refine ⟨fun _ => ?_, fun c35 => absurd (by rw [hvf]; exact (nI_ltI (b := 9) (by omega) (by omega)).mpr (by omega)) c35⟩
  exact c_cp_v hH hX hlt t20 ih hd hm j4 hvf hR hw hf hj hb 6 0 0 cg rfl hJ (fun _ _ _ _ _ => rfl) (fun _ _ => rfl) (fun _ h => h) (fun n _ _ _ h => absurd h (by omega)) (by omega) (by omega)
theorem c_cp_h {P : Nat → Int32} {x t n sz d kc ks : Nat} {J : sg_T → Prop} {D : Nat → sg_T → Prop} {fn : Nat → Option Nat} {cx : cx_T} {cg : sg_T} {vl vf : Int32} {t4 : Option Value} (hd : 4 ≤ d) (t20 : t < 20) (hR : txR cg (18 + 3 * t) P x) (hX : okX P x) (n6 : n < 625) (hV : vlT (cg 89) (Lm n) P x) (esz : cg 84 3 = nI sz) (z7 : sz ≤ 750) (hvf : vf = nI (5 + 4)) (hO : cpO P x J D cg (stp P x cg (Lm n))) : am_W mi_X6_complete d (fun r' h' => r' = none ∧ ∃ cg', h' = hc cg' fn cx ∧ cpO P x J D cg cg') kc ks 32 [some (.ref 84), some (.ref (18 + 3 * t)), some (.int vl), some (.int vf), t4] [] (hc cg fn cx) := by
  refine am_go ok_X6_complete [] 66 ?_
  refine ⟨fun c35 => absurd c35 (by rw [hvf]; decide), fun _ => ?_⟩
  refine ⟨_, rfl, d - 1, 0, 0, _, by omega, Nat.le_of_ble_eq_true rfl, Nat.le_of_ble_eq_true rfl, Nat.le_of_ble_eq_true rfl, c_conclude (L := Lm n) (by omega) t20 hR hX (okL_Lm n6) hV esz z7, ?_⟩
  rintro _ _ ⟨rfl, rfl⟩
  refine ⟨Or.inl rfl, ?_⟩
  exact ⟨rfl, _, rfl, hO⟩
theorem c_cp_f {P : Nat → Int32} {x : Nat} {J : sg_T → Prop} {D : Nat → sg_T → Prop} (hH : cpH P x J D) (hX : okX P x) (hlt : ltP P x) {t : Nat} (t20 : t < 20) {fn : Nat → Option Nat} {cx : cx_T} {m d kc ks : Nat} {cg : sg_T} {vl : Int32} {t4 : Option Value} (ih : ∀ i, m = i + 1 → cpX P x J D t fn cx i) (hd : 5 + m ≤ d) (hR : txR cg (18 + 3 * t) P x) (hw : wvP (cg 89)) (hJ : J cg) : ∀ (u j : Nat) (z : Int32), z = nI (5 + j) → 4 ≤ j + m → (∀ l, l < j → l < 4 → inT P x l = true → ¬ cg 89 (5 + l) = -1) → j ≤ 4 → 4 < j + u → am_W mi_X6_complete d (fun r' h' => r' = none ∧ ∃ cg', h' = hc cg' fn cx ∧ cpO P x J D cg cg') kc ks 2 [some (.ref 84), some (.ref (18 + 3 * t)), some (.int vl), some (.int z), t4] [] (hc cg fn cx) := by
  intro u
  induction u with
  | zero => intro j z hz hm hb h1 h2; exact absurd h2 (by omega)
  | succ u ih' =>
    intro j z hz hm hb h1 h2
    refine am_go ok_X6_complete [2, 32] 75 ?_
    refine ⟨fun c5 => ?_, fun c5 => ?_⟩
    · have k1 : j = 4 := by rw [hz] at c5; have := (nI_leI (a := 9) (by omega) (by omega)).mp c5; omega
      subst k1
      obtain ⟨n, n6, hbn, hO⟩ := cp_leaf hH hw hJ (fun l hl => hb l hl hl)
      obtain ⟨sz, z7, esz⟩ := hH.2.2.2 cg hJ
      first
      | exact c_cp_h (by omega) t20 hR hX n6 (vl_W hX hlt hw hbn) esz z7 hz hO
      | exact c_cp_g hH hX hlt t20 (ih i rfl) (by omega) (by omega) k1 hz hR hw c15 tj hb hJ
    · have k1 : j < 4 := by
        rcases Nat.lt_or_ge j 4 with q | q
        · exact q
        · exact absurd (by rw [hz]; exact (nI_leI (a := 9) (by omega) (by omega)).mpr (by omega)) c5
      have qt : bq (cg (18 + 3 * t) 2) (5 + j) = inT P x j := hR.2.2.1 j k1
      refine ⟨_, _, rfl, rfl, ?_⟩
      refine ⟨_, _, (5 + j), rfl, hz, by omega, Nat.le_of_ble_eq_true rfl, ?_⟩
      refine ⟨fun c15 => ?_, fun c15 => ?_⟩
      · have nb : inT P x j = true → ¬ cg 89 (5 + j) = -1 := fun _ => c15
        exact ih' (j + 1) _ (by rw [hz, nI_1]; rfl) (by omega) (fun l hl hl4 ht => by rcases (show l = j ∨ l < j by omega) with e | e; (subst e; exact nb ht); exact hb l e hl4 ht) (by omega) (by omega)
      · refine ⟨_, hc_nT t20, d - 1, 0, 0, _, by omega, Nat.le_of_ble_eq_true rfl, Nat.le_of_ble_eq_true rfl, Nat.le_of_ble_eq_true rfl, c_hasInTerms (l := 5 + j) t20 hz (by omega), ?_⟩
        rintro _ _ ⟨rfl, rfl⟩
        refine ⟨Or.inl rfl, ?_⟩
        rw [qt]
        refine ⟨fun c23 => ?_, fun c23 => ?_⟩
        · have tj : inT P x j = true := by
            cases e : inT P x j with
            | true => rfl
            | false => rw [e] at c23; exact absurd rfl c23
          obtain ⟨i, rfl⟩ : ∃ i, m = i + 1 := ⟨m - 1, by omega⟩
          first
          | exact c_cp_h (by omega) t20 hR hX n6 (vl_W hX hlt hw hbn) esz z7 hz hO
          | exact c_cp_g hH hX hlt t20 (ih i rfl) (by omega) (by omega) k1 hz hR hw c15 tj hb hJ
        · have nb : inT P x j = true → ¬ cg 89 (5 + j) = -1 := fun w => absurd ((bI_0.mp c23).symm.trans w) (by decide)
          exact ih' (j + 1) _ (by rw [hz, nI_1]; rfl) (by omega) (fun l hl hl4 ht => by rcases (show l = j ∨ l < j by omega) with e | e; (subst e; exact nb ht); exact hb l e hl4 ht) (by omega) (by omega)
theorem c_cp_s {P : Nat → Int32} {x : Nat} {J : sg_T → Prop} {D : Nat → sg_T → Prop} (hH : cpH P x J D) (hX : okX P x) (hlt : ltP P x) {t : Nat} (t20 : t < 20) {fn : Nat → Option Nat} {cx : cx_T} {m : Nat} (ih : ∀ i, m = i + 1 → cpX P x J D t fn cx i) : cpX P x J D t fn cx m := by
  intro cg d j vj hd hm hj4 hvj hR hw hJ hb
  refine am_Met.of rfl (Nat.le_of_ble_eq_true rfl) ?_
  refine am_go ok_X6_complete [2] 62 ?_
  exact c_cp_f hH hX hlt t20 ih hd hR hw hJ 5 j vj hvj hm hb hj4 (by omega)
theorem c_complete {P : Nat → Int32} {x : Nat} {J : sg_T → Prop} {D : Nat → sg_T → Prop} (hH : cpH P x J D) (hX : okX P x) (hlt : ltP P x) {t : Nat} (t20 : t < 20) {fn : Nat → Option Nat} {cx : cx_T} : ∀ m, cpX P x J D t fn cx m
  | 0 => c_cp_s hH hX hlt t20 (fun i h => absurd h (by omega))
  | m + 1 => c_cp_s hH hX hlt t20 (fun i h => by rw [show i = m by omega]; exact c_complete hH hX hlt t20 m)
