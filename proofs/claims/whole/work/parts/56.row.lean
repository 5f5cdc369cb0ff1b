/-! Reach: its row of FACTS and their costs, without machine -/
def inR (g : Nat → Nat) (sz f : Nat) : Prop := ∃ i, i < sz ∧ g i = f
def RB (cg : sg_T) (sz : Nat) (g c : Nat → Nat) : Prop := cg 84 3 = nI sz ∧ sz ≤ 750 ∧ (∀ i, i < sz → g i < 750 ∧ cg 86 i = nI (g i) ∧ cg 85 (g i) = nI (c (g i)) ∧ c (g i) ≤ 100000) ∧ (∀ i j, i < sz → j < sz → g i = g j → i = j) ∧ ∀ f, f < 750 → ¬ inR g sz f → cg 85 f = -1
noncomputable def inB (g : Nat → Nat) (sz : Nat) : Nat → Bool := fun f => iF (inR g sz f) true false
theorem inB_t {g : Nat → Nat} {sz f : Nat} : inB g sz f = true ↔ inR g sz f := by
  unfold inB
  by_cases q : inR g sz f
  · rw [iF_p q]; exact ⟨fun _ => q, fun _ => rfl⟩
  · rw [iF_n q]; exact ⟨fun w => absurd w (by decide), fun w => absurd w q⟩
theorem cn_1 {p q : Nat → Bool} {e : Nat} (hp : p e = false) (hq : q e = true) (h : ∀ f, f ≠ e → q f = p f) : ∀ n, cnN q n = cnN p n + (if e < n then 1 else 0)
  | 0 => by rw [cnN, cnN, if_neg (by omega)]
  | n + 1 => by
    have ih := cn_1 hp hq h n
    rcases Nat.lt_trichotomy e n with z | z | z
    · rw [if_pos z] at ih
      rw [if_pos (by omega)]
      cases w : p n with
      | true => rw [cnN_t w, cnN_t (by rw [h n (by omega)]; exact w)]; omega
      | false => rw [cnN_f w, cnN_f (by rw [h n (by omega)]; exact w)]; omega
    · subst z
      rw [if_neg (by omega)] at ih
      rw [if_pos (by omega), cnN_t hq, cnN_f hp]; omega
    · rw [if_neg (by omega)] at ih
      rw [if_neg (by omega)]
      cases w : p n with
      | true => rw [cnN_t w, cnN_t (by rw [h n (by omega)]; exact w)]; omega
      | false => rw [cnN_f w, cnN_f (by rw [h n (by omega)]; exact w)]; omega
theorem cn_0 : ∀ n, cnN (fun _ => false) n = 0
  | 0 => rfl
  | n + 1 => by rw [cnN, cn_0 n]; rfl
theorem cn_inj {g : Nat → Nat} : ∀ {sz : Nat}, (∀ i, i < sz → g i < 750) → (∀ i j, i < sz → j < sz → g i = g j → i = j) → cnN (inB g sz) 750 = sz
  | 0, _, _ => by
    have : cnN (inB g 0) 750 = cnN (fun _ => false) 750 := cnN_cg 750 (fun f _ => by
      cases e : inB g 0 f with
      | false => rfl
      | true => obtain ⟨i, hi, _⟩ := inB_t.mp e; omega)
    rw [this]; exact cn_0 750
  | sz + 1, h1, h2 => by
    have ih := cn_inj (g := g) (sz := sz) (fun i hi => h1 i (by omega)) (fun i j hi hj => h2 i j (by omega) (by omega))
    have e0 : inB g sz (g sz) = false := by
      cases e : inB g sz (g sz) with
      | false => rfl
      | true => obtain ⟨i, hi, ei⟩ := inB_t.mp e; have := h2 i sz (by omega) (by omega) ei; omega
    have := cn_1 (p := inB g sz) (q := inB g (sz + 1)) (e := g sz) e0 (inB_t.mpr ⟨sz, by omega, rfl⟩) (fun f hf => b_iff (by
      rw [inB_t, inB_t]
      constructor
      · rintro ⟨i, hi, ei⟩
        rcases (show i = sz ∨ i < sz by omega) with z | z
        · subst z; exact absurd ei.symm hf
        · exact ⟨i, z, ei⟩
      · rintro ⟨i, hi, ei⟩; exact ⟨i, by omega, ei⟩)) 750
    rw [if_pos (h1 sz (by omega))] at this
    omega
theorem rb_lt {cg : sg_T} {sz e : Nat} {g c : Nat → Nat} (h : RB cg sz g c) (e7 : e < 750) (hn : ¬ inR g sz e) : sz < 750 := by
  have h1 := cn_inj (fun i hi => (h.2.2.1 i hi).1) h.2.2.2.1
  have h2 := cnF_lt (p := inB g sz) (q := fun _ => true) (fun _ _ => rfl) e7 (by
    cases w : inB g sz e with
    | false => rfl
    | true => exact absurd (inB_t.mp w) hn) rfl
  have h3 := cnN_le (fun _ => true) 750
  omega
theorem updN_s {t : Nat → Nat} {e v : Nat} : updN t e v e = v := by unfold updN; rw [if_pos rfl]
theorem updN_n {t : Nat → Nat} {e v f : Nat} (h : f ≠ e) : updN t e v f = t f := by unfold updN; rw [if_neg h]
theorem rb_c {cg : sg_T} {sz f : Nat} {g c : Nat → Nat} (h : RB cg sz g c) (hf : inR g sz f) : cg 85 f = nI (c f) ∧ c f ≤ 100000 ∧ f < 750 := by
  obtain ⟨i, hi, rfl⟩ := hf
  exact ⟨(h.2.2.1 i hi).2.2.1, (h.2.2.1 i hi).2.2.2, (h.2.2.1 i hi).1⟩
theorem rb_neg {cg : sg_T} {sz f : Nat} {g c : Nat → Nat} (h : RB cg sz g c) (f7 : f < 750) : cg 85 f < 0 ↔ ¬ inR g sz f := by
  by_cases q : inR g sz f
  · have := rb_c h q
    rw [this.1]
    exact ⟨fun w => absurd w (nI_pos (by omega)), fun w => absurd q w⟩
  · rw [h.2.2.2.2 f f7 q]; exact ⟨fun _ => q, fun _ => by decide⟩
theorem av_rb {cg : sg_T} {sz e b : Nat} {g c : Nat → Nat} (h : RB cg sz g c) (e7 : e < 750) (hb : b ≤ 100000) : (¬ inR g sz e ∧ sz < 750 ∧ RB (avR cg e (nI b)) (sz + 1) (updN g sz e) (updN c e b)) ∨ (inR g sz e ∧ b < c e ∧ RB (avR cg e (nI b)) sz g (updN c e b)) ∨ (inR g sz e ∧ c e ≤ b ∧ avR cg e (nI b) = cg) := by
  obtain ⟨h1, h2, h3, h4, h5⟩ := id h
  have pz : pn (cg 84) 3 = sz := pn_of h1 (by omega)
  by_cases q : inR g sz e
  · have hc := rb_c h q
    have n1 : ¬ (cg 85 e < 0 ∧ cg 84 3 < 750) := fun w => (rb_neg h e7).mp w.1 q
    by_cases q2 : b < c e
    · refine Or.inr (Or.inl ⟨q, q2, ?_⟩)
      have ev : avR cg e (nI b) = sg_u cg 85 e (nI b) := by
        unfold avR; rw [if_neg n1, if_pos (by rw [hc.1]; exact (nI_ltI (by omega) (by omega)).mpr q2)]
      rw [ev]
      refine ⟨by rw [sg_i (by decide)]; exact h1, h2, fun i hi => ?_, h4, fun f hf hn => ?_⟩
      · obtain ⟨a1, a2, a3, a4⟩ := h3 i hi
        refine ⟨a1, by rw [sg_i (by decide)]; exact a2, ?_⟩
        by_cases z : g i = e
        · rw [z, sg_s, updN_s]; exact ⟨rfl, hb⟩
        · rw [sg_j z, updN_n z]; exact ⟨a3, a4⟩
      · rw [sg_j (fun z => hn (by rw [z]; exact q))]; exact h5 f hf hn
    · refine Or.inr (Or.inr ⟨q, by omega, ?_⟩)
      unfold avR
      rw [if_neg n1, if_neg (by rw [hc.1]; exact fun w => q2 ((nI_ltI (by omega) (by omega)).mp w))]
  · have z7 := rb_lt h e7 q
    refine Or.inl ⟨q, z7, ?_⟩
    have ev : avR cg e (nI b) = sg_u (sg_u (sg_u cg 86 sz (nI e)) 84 3 (cg 84 3 + 1)) 85 e (nI b) := by
      unfold avR
      rw [if_pos ⟨(rb_neg h e7).mpr q, by rw [h1]; exact (nI_ltI (b := 750) (by omega) (by omega)).mpr z7⟩, pz]
    rw [ev]
    refine ⟨by rw [sg_i (by decide), sg_s, h1, nI_1], by omega, fun i hi => ?_, fun i j hi hj hg => ?_, fun f hf hn => ?_⟩
    · rcases (show i = sz ∨ i < sz by omega) with z | z
      · subst z
        rw [updN_s, updN_s, sg_s, sg_i (by decide), sg_i (by decide), sg_s]; exact ⟨e7, rfl, rfl, hb⟩
      · obtain ⟨a1, a2, a3, a4⟩ := h3 i z
        have ge : g i ≠ e := fun w => q ⟨i, z, w⟩
        have e86 : sg_u (sg_u (sg_u cg 86 sz (nI e)) 84 3 (cg 84 3 + 1)) 85 e (nI b) 86 i = cg 86 i := by rw [sg_i (by decide), sg_i (by decide), sg_j (by omega)]
        have e85 : sg_u (sg_u (sg_u cg 86 sz (nI e)) 84 3 (cg 84 3 + 1)) 85 e (nI b) 85 (g i) = cg 85 (g i) := by rw [sg_j ge, sg_i (by decide), sg_i (by decide)]
        rw [updN_n (by omega), updN_n ge, e86, e85]
        exact ⟨a1, a2, a3, a4⟩
    · rcases (show i = sz ∨ i < sz by omega) with z | z <;> rcases (show j = sz ∨ j < sz by omega) with w | w
      · omega
      · rw [z, updN_s, updN_n (by omega)] at hg; exact absurd ⟨j, w, hg.symm⟩ q
      · rw [w, updN_s, updN_n (by omega)] at hg; exact absurd ⟨i, z, hg⟩ q
      · rw [updN_n (by omega), updN_n (by omega)] at hg; exact h4 i j z w hg
    · have fe : f ≠ e := fun w => hn ⟨sz, by omega, by rw [updN_s, w]⟩
      rw [sg_j fe, sg_i (by decide), sg_i (by decide)]
      exact h5 f hf (fun ⟨i, hi, ei⟩ => hn ⟨i, by omega, by rw [updN_n (by omega)]; exact ei⟩)
theorem inR_a {g : Nat → Nat} {sz e f : Nat} : inR (updN g sz e) (sz + 1) f ↔ (inR g sz f ∨ f = e) := by
  constructor
  · rintro ⟨i, hi, ei⟩
    rcases (show i = sz ∨ i < sz by omega) with z | z
    · subst z; rw [updN_s] at ei; exact Or.inr ei.symm
    · rw [updN_n (by omega)] at ei; exact Or.inl ⟨i, z, ei⟩
  · rintro (⟨i, hi, ei⟩ | z)
    · exact ⟨i, by omega, by rw [updN_n (by omega)]; exact ei⟩
    · exact ⟨sz, by omega, by rw [updN_s, z]⟩
/-- the greatest of the TERMS' costs -/
def gtN (c : Nat → Nat) (tm : Nat → Nat) : Nat → Nat
  | 0 => 0
  | k + 1 => if gtN c tm k < c (tm k) then c (tm k) else gtN c tm k
theorem gtN_ge {c tm : Nat → Nat} : ∀ {n k : Nat}, k < n → c (tm k) ≤ gtN c tm n
  | 0, k, h => absurd h (by omega)
  | n + 1, k, h => by
    rw [gtN]
    rcases (show k = n ∨ k < n by omega) with z | z
    · subst z; split <;> omega
    · have := gtN_ge (c := c) (tm := tm) z; split <;> omega
theorem gtN_le {c tm : Nat → Nat} {m : Nat} : ∀ {n : Nat}, (∀ k, k < n → c (tm k) ≤ m) → gtN c tm n ≤ m
  | 0, _ => Nat.zero_le _
  | n + 1, h => by
    rw [gtN]
    have := gtN_le (n := n) (fun k hk => h k (by omega))
    have := h n (by omega)
    split <;> omega
theorem tmS_ge {c tm : Nat → Nat} : ∀ {n k : Nat}, k < n → c (tm k) ≤ tmS c tm n
  | 0, k, h => absurd h (by omega)
  | n + 1, k, h => by
    rw [tmS]
    rcases (show k = n ∨ k < n by omega) with z | z
    · subst z; omega
    · have := tmS_ge (c := c) (tm := tm) z; omega
def byN (md : Bool) (c tm : Nat → Nat) (nt : Nat) : Nat := if md = true then (if 1 + tmS c tm nt < 100000 then 1 + tmS c tm nt else 100000) else 1 + gtN c tm nt
theorem gtI_n {C : Nat → Int32} {c tm : Nat → Nat} : ∀ {n : Nat}, (∀ k, k < n → C (tm k) = nI (c (tm k)) ∧ c (tm k) ≤ 100000) → gtI C tm n = nI (gtN c tm n) ∧ gtN c tm n ≤ 100000
  | 0, _ => ⟨rfl, by rw [gtN]; omega⟩
  | n + 1, h => by
    obtain ⟨e, l⟩ := gtI_n (n := n) (fun k hk => h k (by omega))
    obtain ⟨e2, l2⟩ := h n (by omega)
    rw [gtI, gtN, e, e2]
    unfold mxI
    by_cases q : gtN c tm n < c (tm n)
    · rw [if_pos q, if_pos ((nI_ltI (by omega) (by omega)).mpr q)]; exact ⟨rfl, l2⟩
    · rw [if_neg q, if_neg (fun w => q ((nI_ltI (by omega) (by omega)).mp w))]; exact ⟨rfl, l⟩
theorem smI_n {C : Nat → Int32} {c tm : Nat → Nat} : ∀ {n : Nat}, (∀ k, k < n → C (tm k) = nI (c (tm k)) ∧ c (tm k) ≤ 100000) → smI C tm n = nI (tmS c tm n) ∧ tmS c tm n ≤ n * 100000
  | 0, _ => ⟨rfl, by rw [tmS]; omega⟩
  | n + 1, h => by
    obtain ⟨e, l⟩ := smI_n (n := n) (fun k hk => h k (by omega))
    obtain ⟨e2, l2⟩ := h n (by omega)
    rw [smI, tmS, e, e2, nI_add]
    exact ⟨rfl, by omega⟩
theorem byI_n {cg : sg_T} {c tm : Nat → Nat} {n : Nat} {md : Bool} (hm : cg 84 5 = bI md) (n3 : n ≤ 3) (h : ∀ k, k < n → cg 85 (tm k) = nI (c (tm k)) ∧ c (tm k) ≤ 100000) : byI cg tm n = nI (byN md c tm n) ∧ (md = true → byN md c tm n ≤ 100000) := by
  unfold byI byN
  rw [hm]
  cases md with
  | false =>
    obtain ⟨e, l⟩ := gtI_n h
    rw [if_pos (show bI false = 0 from rfl), if_neg (by decide), e]
    exact ⟨nI_add 1 _, fun w => absurd w (by decide)⟩
  | true =>
    obtain ⟨e, l⟩ := smI_n h
    have l3 : n * 100000 ≤ 300000 := by omega
    rw [if_neg (show ¬ bI true = 0 by decide), if_pos rfl, e, show (1 : Int32) + nI (tmS c tm n) = nI (1 + tmS c tm n) from nI_add 1 _]
    unfold mnI
    by_cases q : 1 + tmS c tm n < 100000
    · rw [if_pos q, if_pos (show nI (1 + tmS c tm n) < 100000 from (nI_ltI (b := 100000) (by omega) (by omega)).mpr q)]; exact ⟨rfl, fun _ => by omega⟩
    · rw [if_neg q, if_neg (show ¬ nI (1 + tmS c tm n) < 100000 from fun w => q ((nI_ltI (b := 100000) (by omega) (by omega)).mp w))]; exact ⟨rfl, fun _ => by omega⟩
