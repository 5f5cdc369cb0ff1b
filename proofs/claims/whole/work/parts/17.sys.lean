/-! WHAT FOLLOWS, AND IN HOW MANY ROUNDS: a system of instances, without machine. S = (rules, is an instance, terms, a term's fact, the end's fact) -/
abbrev sy_T : Type := Nat × (Nat → Nat → Bool) × (Nat → Nat) × (Nat → Nat → Nat → Nat) × (Nat → Nat → Nat)
abbrev sy_R (S : sy_T) : Nat := S.1
abbrev sy_i (S : sy_T) : Nat → Nat → Bool := S.2.1
abbrev sy_k (S : sy_T) : Nat → Nat := S.2.2.1
abbrev sy_t (S : sy_T) : Nat → Nat → Nat → Nat := S.2.2.2.1
abbrev sy_e (S : sy_T) : Nat → Nat → Nat := S.2.2.2.2
/-- by the instance (r, n) the fact f comes, if what has p is there -/
def sy_by (S : sy_T) (p : Nat → Prop) (r n f : Nat) : Prop := r < sy_R S ∧ n < 625 ∧ sy_i S r n = true ∧ sy_e S r n = f ∧ ∀ k, k < sy_k S r → p (sy_t S r n k)
def hs (S : sy_T) (ba : Nat → Prop) : Nat → Nat → Prop
  | 0, f => ba f
  | m + 1, f => hs S ba m f ∨ ∃ r n, sy_by S (hs S ba m) r n f
def sy_ok (S : sy_T) : Prop := ∀ r n, r < sy_R S → n < 625 → sy_i S r n = true → sy_e S r n < 750 ∧ ∀ k, k < sy_k S r → sy_t S r n k < 750
theorem hs_s {S : sy_T} {ba : Nat → Prop} {m f : Nat} (h : hs S ba m f) : hs S ba (m + 1) f := Or.inl h
theorem hs_mono {S : sy_T} {ba : Nat → Prop} {f : Nat} : ∀ {m j : Nat}, m ≤ j → hs S ba m f → hs S ba j f
  | m, 0, h, h1 => by have : m = 0 := by omega
                      subst this; exact h1
  | m, j + 1, h, h1 => by
    by_cases e : m = j + 1
    · subst e; exact h1
    · exact hs_s (hs_mono (by omega) h1)
theorem hs_fix {S : sy_T} {ba : Nat → Prop} {m : Nat} (hS : sy_ok S) (h : ∀ f, f < 750 → hs S ba (m + 1) f → hs S ba m f) : ∀ (j f : Nat), f < 750 → hs S ba j f → hs S ba m f := by
  have key : ∀ (i f : Nat), f < 750 → hs S ba (m + i) f → hs S ba m f := by
    intro i
    induction i with
    | zero => intro f _ h1; exact h1
    | succ i ih =>
      intro f hf h1
      rcases h1 with h1 | ⟨r, n, a1, a2, a3, a4, a5⟩
      · exact ih f hf h1
      · exact h f hf (Or.inr ⟨r, n, a1, a2, a3, a4, fun k hk => ih _ ((hS r n a1 a2 a3).2 k hk) (a5 k hk)⟩)
  intro j f hf h1
  rcases Nat.le_total j m with q | q
  · exact hs_mono q h1
  · exact key (j - m) f hf (by rw [show m + (j - m) = j by omega]; exact h1)
/-- the height of a fact, as an int: -1 if it doesn't follow -/
def htIs (S : sy_T) (ba : Nat → Prop) (f : Nat) (v : Int32) : Prop := (∃ m, m ≤ 750 ∧ v = nI m ∧ hs S ba m f ∧ ∀ i, i < m → ¬ hs S ba i f) ∨ (v = -1 ∧ ∀ m, ¬ hs S ba m f)
theorem htIs_u {S : sy_T} {ba : Nat → Prop} {f : Nat} {v w : Int32} (h1 : htIs S ba f v) (h2 : htIs S ba f w) : v = w := by
  rcases h1 with ⟨m, hm, e1, a1, b1⟩ | ⟨e1, a1⟩ <;> rcases h2 with ⟨j, hj, e2, a2, b2⟩ | ⟨e2, a2⟩
  · have : m = j := by
      rcases Nat.lt_trichotomy m j with q | q | q
      · exact absurd a1 (b2 m q)
      · exact q
      · exact absurd a2 (b1 j q)
    rw [e1, e2, this]
  · exact absurd a1 (a2 m)
  · exact absurd a2 (a1 j)
  · rw [e1, e2]
theorem nI_m1 {m : Nat} (h : m < 2 ^ 31) : ¬ nI m = -1 := by
  intro e
  have h1 := nI_pos h
  rw [e] at h1
  exact h1 (by decide)
/-- heights up to m stand in g -/
def lvP (S : sy_T) (ba : Nat → Prop) (m : Nat) (g : Nat → Int32) : Prop := ∀ f, f < 750 → (∃ j, j ≤ m ∧ g f = nI j ∧ hs S ba j f ∧ ∀ i, i < j → ¬ hs S ba i f) ∨ (g f = -1 ∧ ¬ hs S ba m f)
/-- the instances of the round that are done -/
def dnP (r n a b : Nat) : Prop := a < r ∨ a = r ∧ b < n
def mdP (S : sy_T) (ba : Nat → Prop) (m r n : Nat) (g : Nat → Int32) : Prop := ∀ f, f < 750 → (∃ j, j ≤ m ∧ g f = nI j ∧ hs S ba j f ∧ ∀ i, i < j → ¬ hs S ba i f) ∨ (¬ hs S ba m f ∧ g f = nI (m + 1) ∧ ∃ a b, dnP r n a b ∧ sy_by S (hs S ba m) a b f) ∨ (¬ hs S ba m f ∧ g f = -1 ∧ ¬ ∃ a b, dnP r n a b ∧ sy_by S (hs S ba m) a b f)
theorem mdP_0 {S : sy_T} {ba : Nat → Prop} {m : Nat} {g : Nat → Int32} (h : lvP S ba m g) : mdP S ba m 0 0 g := by
  intro f hf
  rcases h f hf with h | ⟨h1, h2⟩
  · exact Or.inl h
  · refine Or.inr (Or.inr ⟨h2, h1, ?_⟩)
    rintro ⟨a, b, h3 | ⟨h3, h4⟩, -⟩ <;> omega
theorem mdP_r {S : sy_T} {ba : Nat → Prop} {m r : Nat} {g : Nat → Int32} (h : mdP S ba m r 625 g) : mdP S ba m (r + 1) 0 g := by
  have e : ∀ a b f, (dnP (r + 1) 0 a b ∧ sy_by S (hs S ba m) a b f) ↔ (dnP r 625 a b ∧ sy_by S (hs S ba m) a b f) := by
    intro a b f
    constructor
    · rintro ⟨h1, h2⟩
      refine ⟨?_, h2⟩
      have := h2.2.1
      rcases h1 with h1 | h1
      · rcases (show a < r ∨ a = r by omega) with q | q
        · exact Or.inl q
        · exact Or.inr ⟨q, this⟩
      · omega
    · rintro ⟨h1, h2⟩
      refine ⟨?_, h2⟩
      rcases h1 with h1 | h1
      · exact Or.inl (by omega)
      · exact Or.inl (by omega)
  intro f hf
  have h0 := h f hf
  simp only [e]
  exact h0
/-- below the round: what was there ahead of it -/
theorem mdP_b {S : sy_T} {ba : Nat → Prop} {m r n : Nat} {g : Nat → Int32} (h : mdP S ba m r n g) (hm : m ≤ 750) {f : Nat} (hf : f < 750) : (0 ≤ g f ∧ g f < nI (m + 1)) ↔ hs S ba m f := by
  rcases h f hf with ⟨j, h1, h2, h3, -⟩ | ⟨h1, h2, -⟩ | ⟨h1, h2, -⟩
  · rw [h2]
    exact ⟨fun _ => hs_mono h1 h3, fun _ => ⟨nI_pos' (by omega), nI_lt (by omega) (by omega)⟩⟩
  · rw [h2]
    exact ⟨fun q => absurd q.2 (nI_nlt (Nat.le_refl _) (by omega)), fun q => absurd q h1⟩
  · rw [h2]
    exact ⟨fun q => absurd q.1 (by decide), fun q => absurd q h1⟩
theorem dnP_s {r n a b : Nat} : dnP r (n + 1) a b ↔ dnP r n a b ∨ (a = r ∧ b = n) := by
  unfold dnP
  constructor
  · rintro (h | ⟨h1, h2⟩)
    · exact Or.inl (Or.inl h)
    · rcases (show b < n ∨ b = n by omega) with q | q
      · exact Or.inl (Or.inr ⟨h1, q⟩)
      · exact Or.inr ⟨h1, q⟩
  · rintro ((h | ⟨h1, h2⟩) | ⟨h1, h2⟩)
    · exact Or.inl h
    · exact Or.inr ⟨h1, by omega⟩
    · exact Or.inr ⟨h1, by omega⟩
/-- an instance that brings nothing -/
theorem mdP_n {S : sy_T} {ba : Nat → Prop} {m r n : Nat} {g : Nat → Int32} (h : mdP S ba m r n g) (hno : ∀ f, f < 750 → sy_by S (hs S ba m) r n f → 0 ≤ g f) : mdP S ba m r (n + 1) g := by
  intro f hf
  rcases h f hf with h1 | ⟨h1, h2, a, b, h3, h4⟩ | ⟨h1, h2, h3⟩
  · exact Or.inl h1
  · exact Or.inr (Or.inl ⟨h1, h2, a, b, dnP_s.mpr (Or.inl h3), h4⟩)
  · refine Or.inr (Or.inr ⟨h1, h2, ?_⟩)
    rintro ⟨a, b, h4, h5⟩
    rcases dnP_s.mp h4 with h4 | ⟨rfl, rfl⟩
    · exact h3 ⟨a, b, h4, h5⟩
    · have := hno f hf h5
      rw [h2] at this
      exact absurd this (by decide)
/-- an instance that brings its end -/
theorem mdP_y {S : sy_T} {ba : Nat → Prop} {m r n e : Nat} {g : Nat → Int32} (h : mdP S ba m r n g) (hm : m ≤ 750) (he : e < 750) (hby : sy_by S (hs S ba m) r n e) (hneg : g e < 0) : mdP S ba m r (n + 1) (upd g e (nI (m + 1))) := by
  intro f hf
  by_cases q : f = e
  · subst q
    rw [pk_us]
    have hns : ¬ hs S ba m f := fun z => absurd hneg (i_len ((mdP_b h hm hf).mpr z).1)
    exact Or.inr (Or.inl ⟨hns, rfl, r, n, dnP_s.mpr (Or.inr ⟨rfl, rfl⟩), hby⟩)
  · rw [pk_un q]
    rcases h f hf with h1 | ⟨h1, h2, a, b, h3, h4⟩ | ⟨h1, h2, h3⟩
    · exact Or.inl h1
    · exact Or.inr (Or.inl ⟨h1, h2, a, b, dnP_s.mpr (Or.inl h3), h4⟩)
    · refine Or.inr (Or.inr ⟨h1, h2, ?_⟩)
      rintro ⟨a, b, h4, h5⟩
      rcases dnP_s.mp h4 with h4 | ⟨rfl, rfl⟩
      · exact h3 ⟨a, b, h4, h5⟩
      · exact q (h5.2.2.2.1.symm.trans hby.2.2.2.1)
/-- behind a round -/
theorem mdP_e {S : sy_T} {ba : Nat → Prop} {m : Nat} {g : Nat → Int32} (h : mdP S ba m (sy_R S) 0 g) : lvP S ba (m + 1) g := by
  intro f hf
  rcases h f hf with ⟨j, h1, h2, h3, h4⟩ | ⟨h1, h2, a, b, h3, h4⟩ | ⟨h1, h2, h3⟩
  · exact Or.inl ⟨j, by omega, h2, h3, h4⟩
  · refine Or.inl ⟨m + 1, Nat.le_refl _, h2, Or.inr ⟨a, b, h4⟩, fun i hi z => h1 (hs_mono (by omega) z)⟩
  · refine Or.inr ⟨h2, ?_⟩
    rintro (z | ⟨a, b, z⟩)
    · exact h1 z
    · exact h3 ⟨a, b, Or.inl z.1, z⟩
/-- nothing came: all that follows is there -/
theorem mdP_z {S : sy_T} {ba : Nat → Prop} {m : Nat} {g : Nat → Int32} (hS : sy_ok S) (hm : m ≤ 750) (h : mdP S ba m (sy_R S) 0 g) (hno : ∀ f, f < 750 → ¬ g f = nI (m + 1)) : ∀ f, f < 750 → htIs S ba f (g f) := by
  have hfx : ∀ f, f < 750 → hs S ba (m + 1) f → hs S ba m f := by
    intro f hf z
    rcases h f hf with ⟨j, h1, h2, h3, h4⟩ | ⟨h1, h2, a, b, h3, h4⟩ | ⟨h1, h2, h3⟩
    · exact hs_mono h1 h3
    · exact absurd h2 (hno f hf)
    · rcases z with z | ⟨a, b, z⟩
      · exact z
      · exact absurd ⟨a, b, Or.inl z.1, z⟩ h3
  intro f hf
  rcases h f hf with ⟨j, h1, h2, h3, h4⟩ | ⟨h1, h2, a, b, h3, h4⟩ | ⟨h1, h2, h3⟩
  · exact Or.inl ⟨j, by omega, h2, h3, h4⟩
  · exact absurd h2 (hno f hf)
  · exact Or.inr ⟨h2, fun j z => h1 (hs_fix hS hfx j f hf z)⟩
/-- counting -/
def cnN (p : Nat → Bool) : Nat → Nat
  | 0 => 0
  | n + 1 => cnN p n + (if p n then 1 else 0)
theorem cnN_le (p : Nat → Bool) : ∀ n, cnN p n ≤ n
  | 0 => Nat.le_refl _
  | n + 1 => by rw [cnN]; have := cnN_le p n; split <;> omega
theorem cnN_mono {p q : Nat → Bool} : ∀ (n : Nat), (∀ k, k < n → q k = true → p k = true) → cnN q n ≤ cnN p n
  | 0, _ => Nat.le_refl _
  | n + 1, h => by
    rw [cnN, cnN]
    have h1 := cnN_mono n (fun k hk => h k (by omega))
    have h2 := h n (by omega)
    by_cases e : q n = true
    · rw [if_pos e, if_pos (h2 e)]; omega
    · rw [if_neg e]; omega
theorem cnN_lt {p q : Nat → Bool} {j : Nat} : ∀ (n : Nat), (∀ k, k < n → q k = true → p k = true) → j < n → p j = true → q j = false → cnN q n < cnN p n
  | 0, _, h, _, _ => absurd h (by omega)
  | n + 1, h, h1, h2, h3 => by
    rw [cnN, cnN]
    by_cases e : j = n
    · subst e
      have := cnN_mono (p := p) (q := q) j (fun k hk => h k (by omega))
      rw [if_pos h2, h3]; simp; omega
    · have h4 := cnN_lt n (fun k hk => h k (by omega)) (show j < n by omega) h2 h3
      have h5 := h n (by omega)
      by_cases e2 : q n = true
      · rw [if_pos e2, if_pos (h5 e2)]; omega
      · rw [if_neg e2]; omega
theorem cnN_cg {p q : Nat → Bool} (n : Nat) (h : ∀ k, k < n → p k = q k) : cnN p n = cnN q n :=
  Nat.le_antisymm (cnN_mono n (fun k hk e => by rw [← h k hk]; exact e)) (cnN_mono n (fun k hk e => by rw [h k hk]; exact e))
