/-! the class's calls that change the Book, on: rule, change -/
theorem ltF_any {X : Nat → Int32} {fr i : Nat} : ∀ {n : Nat}, bq (ltF X fr n) i = true ↔ ∃ m, m < n ∧ bq (ltB (X (fr + m))) i = true
  | 0 => ⟨fun h => by rw [ltF, bq_0] at h; exact absurd h (by decide), fun ⟨m, hm, _⟩ => absurd hm (by omega)⟩
  | n + 1 => by
    rw [ltF, bq_or, Bool.or_eq_true, ltF_any]
    constructor
    · rintro (⟨m, hm, h⟩ | h)
      · exact ⟨m, by omega, h⟩
      · exact ⟨n, by omega, h⟩
    · rintro ⟨m, hm, h⟩
      rcases (show m = n ∨ m < n by omega) with z | z
      · subst z; exact Or.inr h
      · exact Or.inl ⟨m, z, h⟩
theorem tlF_any {X : Nat → Int32} {x i : Nat} : ∀ {n : Nat}, bq (tlF X x n) i = true ↔ ∃ k j, k < n ∧ 1 ≤ j ∧ j ≤ 3 ∧ bq (ltB (X (x + 2 + 4 * k + j))) i = true
  | 0 => ⟨fun h => by rw [tlF, bq_0] at h; exact absurd h (by decide), fun ⟨k, j, hk, _⟩ => absurd hk (by omega)⟩
  | n + 1 => by
    rw [tlF, bq_or, Bool.or_eq_true, tlF_any, ltF_any]
    constructor
    · rintro (⟨k, j, hk, h⟩ | ⟨m, hm, h⟩)
      · exact ⟨k, j, by omega, h⟩
      · exact ⟨n, m + 1, by omega, by omega, by omega, by rw [show x + 2 + 4 * n + (m + 1) = x + 3 + 4 * n + m by omega]; exact h⟩
    · rintro ⟨k, j, hk, j1, j3, h⟩
      rcases (show k = n ∨ k < n by omega) with z | z
      · subst z; exact Or.inr ⟨j - 1, by omega, by rw [show x + 3 + 4 * k + (j - 1) = x + 2 + 4 * k + j by omega]; exact h⟩
      · exact Or.inl ⟨k, j, z, j1, j3, h⟩
theorem tdF_any {X : Nat → Int32} {x i : Nat} : ∀ {n : Nat}, bq (tdF X x n) i = true ↔ (∃ j, 1 ≤ j ∧ j ≤ 3 ∧ bq (ltB (X (x + 26 + j))) i = true) ∨ ∃ k, k < n ∧ (bq (ltB (X (x + 14 + 3 * k))) i = true ∨ bq (ltB (X (x + 16 + 3 * k))) i = true)
  | 0 => by
    rw [tdF, ltF_any]
    constructor
    · rintro ⟨m, hm, h⟩; exact Or.inl ⟨m + 1, by omega, by omega, by rw [show x + 26 + (m + 1) = x + 27 + m by omega]; exact h⟩
    · rintro (⟨j, j1, j3, h⟩ | ⟨k, hk, _⟩)
      · exact ⟨j - 1, by omega, by rw [show x + 27 + (j - 1) = x + 26 + j by omega]; exact h⟩
      · omega
  | n + 1 => by
    have one : ∀ y, (bq (ltF X y 1) i = true ↔ bq (ltB (X y)) i = true) := fun y => by
      rw [ltF_any]
      exact ⟨fun ⟨m, hm, h⟩ => by rw [show m = 0 by omega] at h; exact h, fun h => ⟨0, by omega, h⟩⟩
    rw [tdF, bq_or, bq_or, Bool.or_eq_true, Bool.or_eq_true, tdF_any, one, one]
    constructor
    · rintro ((h | ⟨k, hk, h⟩) | h)
      · exact Or.inl h
      · exact Or.inr ⟨k, by omega, h⟩
      · exact Or.inr ⟨n, by omega, h⟩
    · rintro (h | ⟨k, hk, h⟩)
      · exact Or.inl (Or.inl h)
      · rcases (show k = n ∨ k < n by omega) with z | z
        · subst z; exact Or.inr h
        · exact Or.inl (Or.inr ⟨k, z, h⟩)
theorem lmF_any {H : Nat → Int32} {a i : Nat} : ∀ {m : Nat}, bq (lmF H a m) i = true ↔ ∃ j, 1 ≤ j ∧ j ≤ m ∧ bq (lM (H (a + 2 * j))) i = true
  | 0 => ⟨fun h => by rw [lmF, bq_0] at h; exact absurd h (by decide), fun ⟨j, j1, j2, _⟩ => absurd j2 (by omega)⟩
  | m + 1 => by
    rw [lmF, bq_or, Bool.or_eq_true, lmF_any]
    constructor
    · rintro (⟨j, j1, j2, h⟩ | h)
      · exact ⟨j, j1, by omega, h⟩
      · exact ⟨m + 1, by omega, by omega, h⟩
    · rintro ⟨j, j1, j2, h⟩
      rcases (show j = m + 1 ∨ j ≤ m by omega) with z | z
      · subst z; exact Or.inr h
      · exact Or.inl ⟨j, j1, z, h⟩
theorem tlC_any {H : Nat → Int32} {tp : Nat → Nat} {i : Nat} : ∀ {n : Nat}, bq (tlC H tp n) i = true ↔ ∃ k j, k < n ∧ 1 ≤ j ∧ j ≤ 3 ∧ bq (lM (H (tp k + 2 * j))) i = true
  | 0 => ⟨fun h => by rw [tlC, bq_0] at h; exact absurd h (by decide), fun ⟨k, j, hk, _⟩ => absurd hk (by omega)⟩
  | n + 1 => by
    rw [tlC, bq_or, Bool.or_eq_true, tlC_any, lmF_any]
    constructor
    · rintro (⟨k, j, hk, h⟩ | ⟨j, j1, j2, h⟩)
      · exact ⟨k, j, by omega, h⟩
      · exact ⟨n, j, by omega, j1, j2, h⟩
    · rintro ⟨k, j, hk, j1, j3, h⟩
      rcases (show k = n ∨ k < n by omega) with z | z
      · subst z; exact Or.inr ⟨j, j1, j3, h⟩
      · exact Or.inl ⟨k, j, z, j1, j3, h⟩
theorem asC_any {H : Nat → Int32} {sp : Nat → Nat} {i : Nat} : ∀ {n : Nat}, bq (asC H sp n) i = true ↔ ∃ k, k < n ∧ (bq (lM (H (sp k))) i = true ∨ bq (lM (H (sp k + 2))) i = true)
  | 0 => ⟨fun h => by rw [asC, bq_0] at h; exact absurd h (by decide), fun ⟨k, hk, _⟩ => absurd hk (by omega)⟩
  | n + 1 => by
    rw [asC, bq_or, bq_or, Bool.or_eq_true, Bool.or_eq_true, asC_any]
    constructor
    · rintro ((⟨k, hk, h⟩ | h) | h)
      · exact ⟨k, by omega, h⟩
      · exact ⟨n, by omega, Or.inl h⟩
      · exact ⟨n, by omega, Or.inr h⟩
    · rintro ⟨k, hk, h⟩
      rcases (show k = n ∨ k < n by omega) with z | z
      · subst z; exact h.elim (fun z => Or.inl (Or.inr z)) Or.inr
      · exact Or.inl (Or.inl ⟨k, z, h⟩)
def caN (w : Nat) : Nat := if 97 ≤ w then w - 87 else w - 48
theorem ca_all : ∀ w, w < 256 → (97 ≤ w ∧ w ≤ 100 ∨ 48 ≤ w ∧ w ≤ 52) → avF (nI w) = nI (caN w) ∧ (caN w < 5 ∨ 10 ≤ caN w ∧ caN w < 14) ∧ acI (nI w) = nI (cdN (caN w)) ∧ ∀ i, i < 28 → bq (lM (nI w)) i = (decide (5 ≤ i) && bq (ltB (nI (caN w))) (i - 5)) := by decide +kernel
theorem lM_hi : ∀ w, w < 256 → ∀ i, i < 32 → 9 ≤ i → bq (lM (nI w)) i = false := by decide +kernel
theorem lt_hi : ∀ c, c < 14 → ∀ i, i < 32 → 4 ≤ i → bq (ltB (nI c)) i = false := by decide +kernel
/-- an ARG's sign: its number in the reference, in the class, its letter's bit -/
theorem ar_of {c : Int32} (h : arP c) : ∃ ca, avF c = nI ca ∧ (ca < 5 ∨ 10 ≤ ca ∧ ca < 14) ∧ acI c = nI (cdN ca) ∧ (∀ i, i < 32 → (bq (lM c) i = true ↔ 5 ≤ i ∧ bq (ltB (avF c)) (i - 5) = true)) ∧ ∀ i, i < 32 → 4 ≤ i → bq (ltB (avF c)) i = false := by
  obtain ⟨w, ew, hw⟩ : ∃ w, c = nI w ∧ (97 ≤ w ∧ w ≤ 100 ∨ 48 ≤ w ∧ w ≤ 52) := by
    rcases h with z | z
    · obtain ⟨j, ej, -, jl⟩ := ix_c (v := c) (m := 100) (by omega) ⟨Int32.le_trans (by decide) z.1, z.2⟩
      exact ⟨j, ej, Or.inl ⟨by have := z.1; rw [ej] at this; exact (nI_leI (a := 97) (by omega) (by omega)).mp this, jl⟩⟩
    · obtain ⟨j, ej, -, jl⟩ := ix_c (v := c) (m := 52) (by omega) ⟨Int32.le_trans (by decide) z.1, z.2⟩
      exact ⟨j, ej, Or.inr ⟨by have := z.1; rw [ej] at this; exact (nI_leI (a := 48) (by omega) (by omega)).mp this, jl⟩⟩
  have w2 : w < 256 := by omega
  obtain ⟨e1, e2, e3, e4⟩ := ca_all w w2 hw
  rw [ew]
  refine ⟨caN w, e1, e2, e3, fun i hi => ?_, fun i hi h4 => by rw [e1]; exact lt_hi _ (by omega) i hi h4⟩
  rw [e1]
  rcases Nat.lt_or_ge i 28 with q | q
  · rw [e4 i q, Bool.and_eq_true, decide_eq_true_iff]
  · rw [lM_hi w w2 i hi (by omega), lt_hi _ (by omega) (i - 5) (by omega) (by omega)]
    exact ⟨fun z => absurd z (by decide), fun z => absurd z.2 (by decide)⟩
theorem sub_0 {A B : Int32} : A &&& (B ^^^ -1) = 0 ↔ ∀ i, i < 32 → bq A i = true → bq B i = true := by
  constructor
  · intro h i hi ha
    have := congrArg (fun z => bq z i) h
    simp only [bq_and, bq_xor, bq_0, bq_m1 i hi, ha, Bool.true_and] at this
    cases e : bq B i with
    | true => rfl
    | false => rw [e] at this; exact absurd this (by decide)
  · intro h
    refine bq_ext (fun i hi => ?_)
    rw [bq_and, bq_xor, bq_m1 i hi, bq_0]
    cases e : bq A i with
    | false => rfl
    | true => rw [h i hi e]; rfl
/-- the text that class and reference have read -/
theorem tx_new {P X P' : Nat → Int32} {cg : sg_T} {t x nt ns e : Nat} {tp sp : Nat → Nat} (hX : ∀ j, x ≤ j → j < x + 30 → P' j = X j) (hK : txK (hr P) X x nt ns tp sp) (hE : txE (hr P) X x e) (nt1 : 1 ≤ nt) (c0 : cg (18 + 3 * t) 0 = nI nt) (c1 : cg (18 + 3 * t) 1 = nI ns) (ct : ∀ k, k < nt → cg (19 + 3 * t) (4 * k) = shF (hr P (tp k)) ∧ ∀ j, 1 ≤ j → j ≤ 3 → cg (19 + 3 * t) (4 * k + j) = acI (hr P (tp k + 2 * j))) (cs : ∀ k, k < ns → cg (20 + 3 * t) (3 * k) = acI (hr P (sp k)) ∧ cg (20 + 3 * t) (3 * k + 1) = sgX (hr P (sp k + 1)) ∧ cg (20 + 3 * t) (3 * k + 2) = acI (hr P (sp k + 2))) (cl : cg (18 + 3 * t) 2 = tlC (hr P) tp nt) (ce : cg (19 + 3 * t) (4 * 3) = shF (hr P e) ∧ ∀ j, 1 ≤ j → j ≤ 3 → cg (19 + 3 * t) (4 * 3 + j) = acI (hr P (e + 2 * j))) :
    txR cg (18 + 3 * t) P' x ∧ okX P' x ∧ ((asC (hr P) sp ns ||| lmF (hr P) e 3) &&& (tlC (hr P) tp nt ^^^ -1) = 0 ↔ ¬ bdL X x nt ns) ∧ (¬ bdL X x nt ns → ltP P' x) := by
  rw [show 19 + 3 * t = 18 + 3 * t + 1 by omega] at ct ce
  rw [show 20 + 3 * t = 18 + 3 * t + 2 by omega] at cs
  obtain ⟨k0, k1, k3, k4, kt, ks⟩ := hK
  have ga : ∀ k, k < nt → ∀ j, 1 ≤ j → j ≤ 3 → arP (hr P (tp k + 2 * j)) ∧ X (x + 2 + 4 * k + j) = avF (hr P (tp k + 2 * j)) := fun k hk j j1 j3 => by
    rcases (show j = 1 ∨ j = 2 ∨ j = 3 by omega) with z | z | z
    · subst z; exact kt k hk 2 (by omega)
    · subst z; exact kt k hk 4 (by omega)
    · subst z; exact kt k hk 6 (by omega)
  have ge : ∀ j, 1 ≤ j → j ≤ 3 → arP (hr P (e + 2 * j)) ∧ X (x + 26 + j) = avF (hr P (e + 2 * j)) := fun j j1 j3 => by
    rcases (show j = 1 ∨ j = 2 ∨ j = 3 by omega) with z | z | z
    · subst z; exact hE 2 (by omega)
    · subst z; exact hE 4 (by omega)
    · subst z; exact hE 6 (by omega)
  have gs : ∀ k, k < ns → (arP (hr P (sp k)) ∧ X (x + 14 + 3 * k) = avF (hr P (sp k))) ∧ (gnP (hr P (sp k + 1)) ∧ X (x + 15 + 3 * k) = hr P (sp k + 1)) ∧ (arP (hr P (sp k + 2)) ∧ X (x + 16 + 3 * k) = avF (hr P (sp k + 2))) := fun k hk => by
    have h0 := (ks k hk).2 0 (by omega)
    have h1 := (ks k hk).2 1 (by omega)
    have h2 := (ks k hk).2 2 (by omega)
    exact ⟨h0, ⟨h1.1, by rw [show x + 15 + 3 * k = x + 14 + 3 * k + 1 by omega]; exact h1.2⟩, ⟨h2.1, by rw [show x + 16 + 3 * k = x + 14 + 3 * k + 2 by omega]; exact h2.2⟩⟩
  have sh6 : ∀ c, 0 ≤ shF c → ∃ s, s < 6 ∧ shF c = nI s := fun c h => by
    unfold shF at h ⊢
    split
    · exact ⟨0, by omega, rfl⟩
    · split
      · exact ⟨1, by omega, rfl⟩
      · split
        · exact ⟨2, by omega, rfl⟩
        · split
          · exact ⟨3, by omega, rfl⟩
          · split
            · exact ⟨4, by omega, rfl⟩
            · split
              · exact ⟨5, by omega, rfl⟩
              · rename_i a b c d e f; rw [if_neg a, if_neg b, if_neg c, if_neg d, if_neg e, if_neg f] at h; exact absurd h (by decide)
  have p0 : pn P' x = nt := by rw [pn_w (hX x (by omega) (by omega))]; exact pn_of k0 (by omega)
  have p1 : pn P' (x + 1) = ns := by rw [pn_w (hX (x + 1) (by omega) (by omega))]; exact pn_of k1 (by omega)
  have oA : ∀ {y : Nat} {c : Int32}, P' y = X y → arP c → X y = avF c → okA (P' y) ∧ acI c = nI (cdN (pn P' y)) := fun {y c} h1 h2 h3 => by
    obtain ⟨ca, e1, e2, e3, -⟩ := ar_of h2
    have ey : P' y = nI ca := by rw [h1, h3, e1]
    exact ⟨⟨ca, ey, e2⟩, by rw [pn_of ey (by omega)]; exact e3⟩
  have etl : ∀ i, i < 32 → (bq (tlC (hr P) tp nt) i = true ↔ 5 ≤ i ∧ bq (tlF X x nt) (i - 5) = true) := fun i hi => by
    rw [tlC_any, tlF_any]
    constructor
    · rintro ⟨k, j, hk, j1, j3, h⟩
      obtain ⟨ca, -, -, -, e4, -⟩ := ar_of (ga k hk j j1 j3).1
      obtain ⟨h5, h6⟩ := (e4 i hi).mp h
      exact ⟨h5, k, j, hk, j1, j3, by rw [(ga k hk j j1 j3).2]; exact h6⟩
    · rintro ⟨h5, k, j, hk, j1, j3, h⟩
      obtain ⟨ca, -, -, -, e4, -⟩ := ar_of (ga k hk j j1 j3).1
      exact ⟨k, j, hk, j1, j3, (e4 i hi).mpr ⟨h5, by rw [← (ga k hk j j1 j3).2]; exact h⟩⟩
  have eas : ∀ i, i < 32 → (bq (asC (hr P) sp ns ||| lmF (hr P) e 3) i = true ↔ 5 ≤ i ∧ bq (tdF X x ns) (i - 5) = true) := fun i hi => by
    rw [bq_or, Bool.or_eq_true, asC_any, lmF_any, tdF_any]
    constructor
    · rintro (⟨k, hk, h⟩ | ⟨j, j1, j3, h⟩)
      · rcases h with h | h
        · obtain ⟨ca, -, -, -, e4, -⟩ := ar_of (gs k hk).1.1
          obtain ⟨h5, h6⟩ := (e4 i hi).mp h
          exact ⟨h5, Or.inr ⟨k, hk, Or.inl (by rw [(gs k hk).1.2]; exact h6)⟩⟩
        · obtain ⟨ca, -, -, -, e4, -⟩ := ar_of (gs k hk).2.2.1
          obtain ⟨h5, h6⟩ := (e4 i hi).mp h
          exact ⟨h5, Or.inr ⟨k, hk, Or.inr (by rw [(gs k hk).2.2.2]; exact h6)⟩⟩
      · obtain ⟨ca, -, -, -, e4, -⟩ := ar_of (ge j j1 j3).1
        obtain ⟨h5, h6⟩ := (e4 i hi).mp h
        exact ⟨h5, Or.inl ⟨j, j1, j3, by rw [(ge j j1 j3).2]; exact h6⟩⟩
    · rintro ⟨h5, ⟨j, j1, j3, h⟩ | ⟨k, hk, h⟩⟩
      · obtain ⟨ca, -, -, -, e4, -⟩ := ar_of (ge j j1 j3).1
        exact Or.inr ⟨j, j1, j3, (e4 i hi).mpr ⟨h5, by rw [← (ge j j1 j3).2]; exact h⟩⟩
      · rcases h with h | h
        · obtain ⟨ca, -, -, -, e4, -⟩ := ar_of (gs k hk).1.1
          exact Or.inl ⟨k, hk, Or.inl ((e4 i hi).mpr ⟨h5, by rw [← (gs k hk).1.2]; exact h⟩)⟩
        · obtain ⟨ca, -, -, -, e4, -⟩ := ar_of (gs k hk).2.2.1
          exact Or.inl ⟨k, hk, Or.inr ((e4 i hi).mpr ⟨h5, by rw [← (gs k hk).2.2.2]; exact h⟩)⟩
  have td4 : ∀ i, i < 32 → 4 ≤ i → ¬ bq (tdF X x ns) i = true := fun i hi h4 h => by
    rw [tdF_any] at h
    rcases h with ⟨j, j1, j3, h⟩ | ⟨k, hk, h⟩
    · obtain ⟨ca, -, -, -, -, e5⟩ := ar_of (ge j j1 j3).1
      rw [(ge j j1 j3).2, e5 i hi h4] at h; exact absurd h (by decide)
    · rcases h with h | h
      · obtain ⟨ca, -, -, -, -, e5⟩ := ar_of (gs k hk).1.1
        rw [(gs k hk).1.2, e5 i hi h4] at h; exact absurd h (by decide)
      · obtain ⟨ca, -, -, -, -, e5⟩ := ar_of (gs k hk).2.2.1
        rw [(gs k hk).2.2.2, e5 i hi h4] at h; exact absurd h (by decide)
  have nbd : ¬ bdL X x nt ns ↔ ∀ l, l < 4 → bq (tdF X x ns) l = true → bq (tlF X x nt) l = true := by
    unfold bdL
    rw [Classical.not_not, sub_0]
    exact ⟨fun h l hl hb => h l (by omega) hb, fun h i hi hb => by
      rcases Nat.lt_or_ge i 4 with q | q
      · exact h i q hb
      · exact absurd hb (td4 i hi q)⟩
  have ok : okX P' x := by
    refine ⟨⟨nt, nt1, k3, by rw [hX x (by omega) (by omega)]; exact k0⟩, ⟨ns, k4, by rw [hX (x + 1) (by omega) (by omega)]; exact k1⟩, fun k hk => ?_, ?_, fun k hk => ?_⟩
    · rw [p0] at hk
      have h0 := kt k hk 0 (by omega)
      obtain ⟨s, s6, es⟩ := sh6 _ h0.1
      exact ⟨⟨s, s6, by rw [hX _ (by omega) (by omega)]; exact h0.2.trans es⟩, (oA (hX _ (by omega) (by omega)) (ga k hk 1 (by omega) (by omega)).1 (ga k hk 1 (by omega) (by omega)).2).1, (oA (hX _ (by omega) (by omega)) (ga k hk 2 (by omega) (by omega)).1 (ga k hk 2 (by omega) (by omega)).2).1, (oA (hX _ (by omega) (by omega)) (ga k hk 3 (by omega) (by omega)).1 (ga k hk 3 (by omega) (by omega)).2).1⟩
    · have h0 := hE 0 (by omega)
      obtain ⟨s, s6, es⟩ := sh6 _ h0.1
      exact ⟨⟨s, s6, by rw [hX _ (by omega) (by omega)]; exact h0.2.trans es⟩, (oA (hX _ (by omega) (by omega)) (ge 1 (by omega) (by omega)).1 (ge 1 (by omega) (by omega)).2).1, (oA (hX _ (by omega) (by omega)) (ge 2 (by omega) (by omega)).1 (ge 2 (by omega) (by omega)).2).1, (oA (hX _ (by omega) (by omega)) (ge 3 (by omega) (by omega)).1 (ge 3 (by omega) (by omega)).2).1⟩
    · rw [p1] at hk
      exact ⟨(oA (hX _ (by omega) (by omega)) (gs k hk).1.1 (gs k hk).1.2).1, (oA (hX _ (by omega) (by omega)) (gs k hk).2.2.1 (gs k hk).2.2.2).1⟩
  have etP : tlF P' x nt = tlF X x nt := tlF_w hX nt k3
  refine ⟨⟨by rw [c0, hX x (by omega) (by omega), k0], by rw [c1, hX (x + 1) (by omega) (by omega), k1], fun l hl => ?_, fun s hs => ?_, fun k hk => ?_⟩, ok, ?_, fun hb => ?_⟩
  · rw [cl, p0, etP]
    apply b_iff
    rw [etl (5 + l) (by omega), show 5 + l - 5 = l by omega]
    exact ⟨fun h => h.2, fun h => ⟨by omega, h⟩⟩
  · rw [p0] at hs
    by_cases q : s = 3
    · subst q
      have ey : ySl x 3 = x + 26 := by unfold ySl; rw [if_pos rfl]
      rw [ey]
      have h0 := hE 0 (by omega)
      refine ⟨by rw [ce.1, hX _ (by omega) (by omega)]; exact h0.2.symm, fun i i1 i2 => ?_⟩
      rw [ce.2 i i1 (by omega)]
      exact (oA (hX _ (by omega) (by omega)) (ge i i1 (by omega)).1 (ge i i1 (by omega)).2).2
    · have hs' := hs.resolve_right q
      have ey : ySl x s = x + 2 + 4 * s := by unfold ySl; rw [if_neg q]
      rw [ey]
      have h0 := kt s hs' 0 (by omega)
      refine ⟨by rw [(ct s hs').1, hX _ (by omega) (by omega)]; exact h0.2.symm, fun i i1 i2 => ?_⟩
      rw [(ct s hs').2 i i1 (by omega)]
      exact (oA (hX _ (by omega) (by omega)) (ga s hs' i i1 (by omega)).1 (ga s hs' i i1 (by omega)).2).2
  · rw [p1] at hk
    obtain ⟨a1, a2, a3⟩ := cs k hk
    refine ⟨by rw [a1]; exact (oA (hX _ (by omega) (by omega)) (gs k hk).1.1 (gs k hk).1.2).2, ?_, by rw [a3]; exact (oA (hX _ (by omega) (by omega)) (gs k hk).2.2.1 (gs k hk).2.2.2).2⟩
    rw [a2, hX _ (by omega) (by omega), (gs k hk).2.1.2]
    rcases (gs k hk).2.1.1 with z | z | z
    · rw [z]; rfl
    · rw [z]; rfl
    · rw [z]; rfl
  · rw [nbd, sub_0]
    constructor
    · intro h l hl hb
      have := h (5 + l) (by omega) ((eas (5 + l) (by omega)).mpr ⟨by omega, by rw [show 5 + l - 5 = l by omega]; exact hb⟩)
      have := ((etl (5 + l) (by omega)).mp this).2
      rw [show 5 + l - 5 = l by omega] at this; exact this
    · intro h i hi hb
      obtain ⟨h5, h6⟩ := (eas i hi).mp hb
      rcases Nat.lt_or_ge (i - 5) 4 with q | q
      · exact (etl i hi).mpr ⟨h5, h _ q h6⟩
      · exact absurd h6 (td4 _ (by omega) q)
  · have hn := nbd.mp hb
    have bit : ∀ {y : Nat} {c : Int32}, P' y = X y → arP c → X y = avF c → 10 ≤ pn P' y → pn P' y - 10 < 4 ∧ bq (ltB (X y)) (pn P' y - 10) = true := fun {y c} h1 h2 h3 h4 => by
      obtain ⟨ca, e1, e2, -⟩ := ar_of h2
      have ey : P' y = nI ca := by rw [h1, h3, e1]
      have pc := pn_of ey (by omega)
      rw [pc] at h4 ⊢
      exact ⟨by omega, by rw [h3, e1, ltB_q e2 (by omega)]; exact decide_eq_true (by omega)⟩
    unfold ltP inT
    rw [p0, p1, etP]
    refine ⟨fun i i1 i2 h10 => ?_, fun k hk => ⟨fun h10 => ?_, fun h10 => ?_⟩⟩
    · obtain ⟨b1, b2⟩ := bit (hX _ (by omega) (by omega)) (ge i i1 (by omega)).1 (ge i i1 (by omega)).2 h10
      exact hn _ b1 (tdF_any.mpr (Or.inl ⟨i, i1, by omega, b2⟩))
    · obtain ⟨b1, b2⟩ := bit (hX _ (by omega) (by omega)) (gs k hk).1.1 (gs k hk).1.2 h10
      exact hn _ b1 (tdF_any.mpr (Or.inr ⟨k, hk, Or.inl b2⟩))
    · obtain ⟨b1, b2⟩ := bit (hX _ (by omega) (by omega)) (gs k hk).2.2.1 (gs k hk).2.2.2 h10
      exact hn _ b1 (tdF_any.mpr (Or.inr ⟨k, hk, Or.inr b2⟩))
