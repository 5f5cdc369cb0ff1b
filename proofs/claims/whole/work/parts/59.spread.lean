/-! Reach: spread -/
theorem bt_bq {s : Int32} {k : Nat} (hk : k < 32) : btI s k = bq s k := by
  unfold btI
  cases e : bq s k with
  | false => exact decide_eq_false (fun w => w ((shr_e0 hk s).mpr e))
  | true => exact decide_eq_true (fun w => absurd ((shr_e0 hk s).mp w) (by rw [e]; decide))
theorem pl_N {P : Nat → Int32} {x n : Nat} : plN (tlF P x (pn P x)) (Lm n) 4 = true ↔ plP P x n := by
  have e : plN (tlF P x (pn P x)) (Lm n) 4 = true ↔ ∀ l, l < 4 → (inT P x l || decide (Lm n l = 0)) = true := by
    have : ∀ m, m ≤ 4 → (plN (tlF P x (pn P x)) (Lm n) m = true ↔ ∀ l, l < m → (inT P x l || decide (Lm n l = 0)) = true) := by
      intro m
      induction m with
      | zero => exact fun _ => ⟨fun _ l hl => absurd hl (by omega), fun _ => rfl⟩
      | succ m ih =>
        intro hm
        rw [plN, Bool.and_eq_true, ih (by omega), bt_bq (by omega)]
        constructor
        · rintro ⟨h1, h2⟩ l hl
          rcases (show l = m ∨ l < m by omega) with z | z
          · subst z; exact h2
          · exact h1 l z
        · exact fun h => ⟨fun l hl => h l (by omega), h m (by omega)⟩
    exact this 4 (by omega)
  rw [e]
  constructor
  · intro h l hl hf
    have := h l hl
    rw [hf, Bool.false_or] at this
    exact of_decide_eq_true this
  · intro h l hl
    cases q : inT P x l with
    | true => rfl
    | false => rw [Bool.false_or]; exact decide_eq_true (h l hl q)
theorem rb_fr {cg cg' : sg_T} {sz : Nat} {g c : Nat → Nat} (h : RB cg sz g c) (e4 : cg' 84 = cg 84) (e5 : cg' 85 = cg 85) (e6 : cg' 86 = cg 86) : RB cg' sz g c := by
  unfold RB at h ⊢
  rw [e4, e5, e6]; exact h
theorem si_fr {md : Bool} {S : sy_T} {ba : Nat → Prop} {i K : Nat} {g0 c0 : Nat → Nat} {cg cg' : sg_T} (h : siC md S ba i K g0 c0 cg) (e4 : cg' 84 = cg 84) (e5 : cg' 85 = cg 85) (e6 : cg' 86 = cg 86) (e7 : cg' 87 = cg 87) : siC md S ba i K g0 c0 cg' := by
  unfold siC stR cmC upB RB at h ⊢
  rw [e4, e5, e6, e7]; exact h
def oiX (md : Bool) (S : sy_T) (ba : Nat → Prop) (i : Nat) (cg : sg_T) (sz : Nat) (g c : Nat → Nat) : Prop := cg 84 5 = bI md ∧ RB cg sz g c ∧ i ≤ sz ∧ stR cg (fun f => ∃ j, j < i ∧ g j = f) ∧ cmC md S i g c cg ∧ (∀ f, f < 750 → ba f → upB cg f (mdN md)) ∧ (∀ a b, a < i → i ≤ b → b < sz → c (g a) ≤ c (g b)) ∧ (md = false → (∀ a b, a ≤ b → b < sz → c (g a) ≤ c (g b)) ∧ (∀ a, a < i → c (g a) ≤ a) ∧ ∃ K', K' ≤ i ∧ (∀ a, a < sz → c (g a) ≤ K') ∧ ∀ a, i ≤ a → a < sz → K' ≤ c (g a) + 1) ∧ ∀ a, a < sz → sndC md S ba (g a) (c (g a))
theorem oi_0 {md : Bool} {P : Nat → Int32} {dy x : Int32} {n : Nat} {cg : sg_T} (hS : ∀ r, r < sy_R (syP P dy) → 1 ≤ sy_k (syP P dy) r) (h : bgI md P x n cg) : ∃ sz g c, oiX md (syP P dy) (baX P n x) 0 cg sz g c := by
  obtain ⟨h5, h7, sz, g, c, hB, hi, hc⟩ := h
  have m1 : mdN md ≤ 1 := by unfold mdN; split <;> omega
  refine ⟨sz, g, c, h5, hB, by omega, fun f f7 => ⟨fun ⟨j, hj, _⟩ => absurd hj (by omega), fun _ => h7 f f7⟩, fun r n' hr n6 _ ht => ?_, fun f f7 hf => ?_, fun a b ha => absurd ha (by omega), fun hm => ?_, fun a ha => ?_⟩
  · obtain ⟨j, hj, _⟩ := ht 0 (hS r hr)
    omega
  · obtain ⟨a, a1, a2⟩ := (hi f f7).mpr hf
    rw [rb_up hB f7 (by omega)]
    exact ⟨⟨a, a1, a2⟩, by rw [← a2, hc a a1]; exact Nat.le_refl _⟩
  · have e0 : mdN md = 0 := by rw [hm]; rfl
    refine ⟨fun a b ab hb => by rw [hc a (by omega), hc b hb]; exact Nat.le_refl _, fun a ha => absurd ha (by omega), 0, by omega, fun a ha => by rw [hc a ha, e0]; exact Nat.le_refl _, fun a _ ha => by omega⟩
  · have hf := (hi (g a) (hB.2.2.1 a ha).1).mp ⟨a, ha, rfl⟩
    rw [hc a ha]
    refine ⟨⟨0, hf⟩, fun hm => by rw [hm]; exact hf, fun hm s hs => ?_⟩
    have := hs.1 _ (hB.2.2.1 a ha).1 hf
    rw [hm]; exact this
theorem oi_sw {md : Bool} {S : sy_T} {ba : Nat → Prop} {i l sz : Nat} {g c : Nat → Nat} {cg : sg_T} (hm : md = true) (h : oiX md S ba i cg sz g c) (l1 : i ≤ l) (l2 : l < sz) (hl : ∀ j, i ≤ j → j < sz → c (g l) ≤ c (g j)) : oiX md S ba i (sg_u (sg_u cg 86 l (nI (g i))) 86 i (nI (g l))) sz (swN g i l) c ∧ ∀ j, i ≤ j → j < sz → c (swN g i l i) ≤ c (swN g i l j) := by
  obtain ⟨h5, hB, isz, hst, hcm, hba, hfr, hso, hsn⟩ := h
  obtain ⟨rB, rr⟩ := rb_sw (a := i) (b := l) hB (by omega) l2
  have pre : ∀ j, j < i → swN g i l j = g j := fun j hj => sw_n (by omega) (by omega)
  have up : ∀ j, i ≤ j → j < sz → ∃ m, i ≤ m ∧ m < sz ∧ swN g i l j = g m := fun j j1 j2 => by
    by_cases q1 : j = i
    · exact ⟨l, l1, l2, by rw [q1, sw_1]⟩
    · by_cases q2 : j = l
      · exact ⟨i, by omega, by omega, by rw [q2, sw_2]⟩
      · exact ⟨j, j1, j2, sw_n q1 q2⟩
  refine ⟨⟨by rw [sg_i (by decide), sg_i (by decide)]; exact h5, rB, isz, fun f f7 => ?_, fun r n hr n6 hi ht => ?_, fun f f7 hf => ?_, fun a b ha hb1 hb2 => ?_, fun w => absurd (hm.symm.trans w) (by decide), fun a ha => ?_⟩, fun j j1 j2 => ?_⟩
  · rw [sg_i (by decide), sg_i (by decide)]
    have e : (∃ j, j < i ∧ swN g i l j = f) ↔ ∃ j, j < i ∧ g j = f := ⟨fun ⟨j, a, b⟩ => ⟨j, a, by rw [← pre j a]; exact b⟩, fun ⟨j, a, b⟩ => ⟨j, a, by rw [pre j a]; exact b⟩⟩
    exact ⟨fun w => (hst f f7).1 (e.mp w), fun w => (hst f f7).2 (fun q => w (e.mpr q))⟩
  · unfold upB
    rw [sg_i (by decide), sg_i (by decide)]
    exact hcm r n hr n6 hi (fun k hk => by obtain ⟨j, a, b⟩ := ht k hk; exact ⟨j, a, by rw [← pre j a]; exact b⟩)
  · unfold upB
    rw [sg_i (by decide), sg_i (by decide)]
    exact hba f f7 hf
  · obtain ⟨m, m1, m2, m3⟩ := up b hb1 hb2
    rw [pre a ha, m3]; exact hfr a m ha m1 m2
  · obtain ⟨m, m1, m2, -⟩ := sw_c (g := g) (show i < sz by omega) l2 ha
    rw [m2]; exact hsn m m1
  · obtain ⟨m, m1, m2, m3⟩ := up j j1 j2
    rw [sw_1, m3]; exact hl m m1 m2
theorem oi_go {md : Bool} {S : sy_T} {ba : Nat → Prop} {i sz : Nat} {g c : Nat → Nat} {cg : sg_T} (h : oiX md S ba i cg sz g c) (hi : i < sz) (hl : ∀ j, i ≤ j → j < sz → c (g i) ≤ c (g j)) : siC md S ba i (c (g i)) g c (sg_u cg 87 (g i) 1) ∧ kC md i (c (g i)) g c ∧ (md = false → (∀ a, a < i → c (g a) ≤ a) ∧ c (g i) ≤ i) := by
  obtain ⟨h5, hB, isz, hst, hcm, hba, hfr, hso, hsn⟩ := h
  have hle : ∀ j, j ≤ i → c (g j) ≤ c (g i) := fun j hj => by
    rcases (show j = i ∨ j < i by omega) with z | z
    · rw [z]; exact Nat.le_refl _
    · exact hfr j i z (Nat.le_refl _) hi
  have k100 := (hB.2.2.1 i hi).2.2.2
  have kK : md = false → (∀ a, a < i → c (g a) ≤ a) ∧ c (g i) ≤ i := fun hm => by
    obtain ⟨s1, s2, K', s3, s4, s5⟩ := hso hm
    exact ⟨s2, Nat.le_trans (s4 i hi) s3⟩
  refine ⟨⟨by rw [sg_i (by decide)]; exact h5, fun f f7 => ?_, fun r n hr n6 hin ht => ?_, sz, g, c, rb_fr hB (sg_i (by decide)) (sg_i (by decide)) (sg_i (by decide)), hi, fun j _ => ⟨rfl, rfl⟩, hl, fun hm => ?_, hsn⟩, ⟨hle, rfl, by omega, fun hm => by have := (kK hm).2; have := hB.2.1; omega⟩, kK⟩
  · by_cases q : f = g i
    · rw [q, sg_s]; exact ⟨fun _ => rfl, fun w => absurd ⟨i, Nat.le_refl _, rfl⟩ w⟩
    · rw [sg_j q]
      have e : (∃ j, j ≤ i ∧ g j = f) ↔ ∃ j, j < i ∧ g j = f := ⟨fun ⟨j, a, b⟩ => ⟨j, by rcases (show j = i ∨ j < i by omega) with z | z; (subst z; exact absurd b.symm q); exact z, b⟩, fun ⟨j, a, b⟩ => ⟨j, by omega, b⟩⟩
      exact ⟨fun w => (hst f f7).1 (e.mp w), fun w => (hst f f7).2 (fun q => w (e.mpr q))⟩
  · unfold upB
    rw [sg_i (by decide)]; exact hcm r n hr n6 hin ht
  · obtain ⟨s1, s2, K', s3, s4, s5⟩ := hso hm
    exact ⟨s1, fun a ha => Nat.le_trans (s4 a ha) (s5 i (Nat.le_refl _) hi)⟩
/-- the instances in which the i-th is used have brought their END -/
def dnC (md : Bool) (S : sy_T) (i : Nat) (g0 c0 : Nat → Nat) (R : Nat) (cg : sg_T) : Prop := ∀ r n, r < R → n < 625 → sy_i S r n = true → (∃ k, k < sy_k S r ∧ sy_t S r n k = g0 i) → (∀ k, k < sy_k S r → ∃ j, j ≤ i ∧ g0 j = sy_t S r n k) → upB cg (sy_e S r n) (byN md c0 (sy_t S r n) (sy_k S r))
theorem si_oi {md : Bool} {S : sy_T} {ba : Nat → Prop} {i K : Nat} {g0 c0 : Nat → Nat} {cg : sg_T} (h : siC md S ba i K g0 c0 cg) (hk : kC md i K g0 c0) (hkK : md = false → (∀ a, a < i → c0 (g0 a) ≤ a) ∧ K ≤ i) (hD : dnC md S i g0 c0 (sy_R S) cg) (hba : ∀ f, f < 750 → ba f → upB cg f (mdN md)) : ∃ sz g c, oiX md S ba (i + 1) cg sz g c := by
  obtain ⟨h5, hst, hcm, sz, g, c, hB, isz, hpre, hfr, hso, hsn⟩ := h
  refine ⟨sz, g, c, h5, hB, by omega, fun f f7 => ?_, fun r n hr n6 hi ht => ?_, hba, fun a b ha hb1 hb2 => ?_, fun hm => ?_, hsn⟩
  · have e : (∃ j, j < i + 1 ∧ g j = f) ↔ ∃ j, j ≤ i ∧ g0 j = f := ⟨fun ⟨j, a, b⟩ => ⟨j, by omega, by rw [← (hpre j (by omega)).1]; exact b⟩, fun ⟨j, a, b⟩ => ⟨j, by omega, by rw [(hpre j a).1]; exact b⟩⟩
    exact ⟨fun w => (hst f f7).1 (e.mp w), fun w => (hst f f7).2 (fun q => w (e.mpr q))⟩
  · have ht0 : ∀ k, k < sy_k S r → ∃ j, j ≤ i ∧ g0 j = sy_t S r n k := fun k hk => by obtain ⟨j, a, b⟩ := ht k hk; exact ⟨j, by omega, by rw [← (hpre j (by omega)).1]; exact b⟩
    have ec := byN_cg (md := md) (tm := sy_t S r n) (n := sy_k S r) (c := c) (c' := c0) (fun k hk => by obtain ⟨j, a, b⟩ := ht0 k hk; rw [← b]; exact (hpre j a).2)
    rw [ec]
    by_cases hA : ∃ k, k < sy_k S r ∧ sy_t S r n k = g0 i
    · exact hD r n hr n6 hi hA ht0
    · exact hcm r n hr n6 hi (fun k hk' => by
        obtain ⟨j, j1, j2⟩ := ht0 k hk'
        rcases (show j = i ∨ j < i by omega) with z | z
        · exact absurd ⟨k, hk', by rw [← z]; exact j2.symm⟩ hA
        · exact ⟨j, z, j2⟩)
  · rw [(hpre a (by omega)).1, (hpre a (by omega)).2]
    exact Nat.le_trans (hk.1 a (by omega)) (hfr b (by omega) hb2)
  · obtain ⟨s1, s2⟩ := hso hm
    obtain ⟨t1, t2⟩ := hkK hm
    refine ⟨s1, fun a ha => ?_, K + 1, by omega, s2, fun a a1 a2 => ?_⟩
    · rw [(hpre a (by omega)).1, (hpre a (by omega)).2]
      rcases (show a = i ∨ a < i by omega) with z | z
      · rw [z, hk.2.1]; exact t2
      · exact t1 a z
    · have := hfr a (by omega) a2; omega
/-- how 'spread' ends -/
def spO (md : Bool) (S : sy_T) (ba : Nat → Prop) (cg : sg_T) : Prop := ∃ sz g c, RB cg sz g c ∧ (∀ f, f < 750 → ¬ inR g sz f → cg 87 f = 0) ∧ (∀ f, f < 750 → (inR g sz f ↔ rcP S ba f)) ∧ (md = false → ∀ f, f < 750 → htIs S ba f (cg 85 f)) ∧ (md = true → ∃ t, szIs S ba t ∧ ∀ f, f < 750 → inR g sz f → cg 85 f = nI (t f))
theorem oi_end {md : Bool} {S : sy_T} {ba : Nat → Prop} {sz : Nat} {g c : Nat → Nat} {cg : sg_T} (hS : sy_ok S) (h : oiX md S ba sz cg sz g c) : spO md S ba cg := by
  obtain ⟨h5, hB, isz, hst, hcm, hba, hfr, hso, hsn⟩ := h
  have z7 := hB.2.1
  have hcI : ∀ f, inR g sz f → sndC md S ba f (c f) := fun f ⟨a, a1, a2⟩ => by rw [← a2]; exact hsn a a1
  have m1 : mdN md ≤ 1 := by unfold mdN; split <;> omega
  have c7 : md = false → ∀ f, inR g sz f → c f ≤ 750 := fun hm f ⟨a, a1, a2⟩ => by have := (hso hm).2.1 a a1; rw [a2] at this; omega
  have b7 : ∀ r n, r < sy_R S → n < 625 → sy_i S r n = true → (∀ k, k < sy_k S r → inR g sz (sy_t S r n k)) → inR g sz (sy_e S r n) ∧ c (sy_e S r n) ≤ byN md c (sy_t S r n) (sy_k S r) := fun r n hr n6 hi ht => by
    have up := hcm r n hr n6 hi ht
    have b1 : byN md c (sy_t S r n) (sy_k S r) ≤ 100000 := by
      cases md with
      | false =>
        unfold byN; rw [if_neg (by decide)]
        have := gtN_le (c := c) (tm := sy_t S r n) (m := 750) (n := sy_k S r) (fun k hk => c7 rfl _ (ht k hk))
        omega
      | true => unfold byN; rw [if_pos rfl]; split <;> omega
    exact (rb_up hB (hS r n hr n6 hi).1 b1).mp up
  have hin : ∀ m f, f < 750 → hs S ba m f → inR g sz f ∧ (md = false → c f ≤ m) := by
    intro m
    induction m with
    | zero =>
      intro f f7 hf
      obtain ⟨r1, r2⟩ := (rb_up hB f7 (by omega)).mp (hba f f7 hf)
      exact ⟨r1, fun hm => by rw [hm] at r2; exact r2⟩
    | succ m ih =>
      intro f f7 hf
      rcases hf with hf | ⟨r, n, hr, n6, hi, he, ht⟩
      · obtain ⟨r1, r2⟩ := ih f f7 hf
        exact ⟨r1, fun hm => by have := r2 hm; omega⟩
      · have t7 := (hS r n hr n6 hi).2
        obtain ⟨r1, r2⟩ := b7 r n hr n6 hi (fun k hk => (ih _ (t7 k hk) (ht k hk)).1)
        rw [he] at r1 r2
        refine ⟨r1, fun hm => ?_⟩
        have := gtN_le (c := c) (tm := sy_t S r n) (m := m) (n := sy_k S r) (fun k hk => (ih _ (t7 k hk) (ht k hk)).2 hm)
        unfold byN at r2
        rw [if_neg (by rw [hm]; decide)] at r2
        omega
  have hrc : ∀ f, f < 750 → (inR g sz f ↔ rcP S ba f) := fun f f7 => ⟨fun w => (hcI f w).1, fun ⟨m, hm⟩ => (hin m f f7 hm).1⟩
  refine ⟨sz, g, c, hB, fun f f7 hn => (hst f f7).2 hn, hrc, fun hm f f7 => ?_, fun hm => ?_⟩
  · by_cases q : inR g sz f
    · left
      refine ⟨c f, c7 hm f q, (rb_c hB q).1, (hcI f q).2.1 hm, fun i hi w => ?_⟩
      have := (hin i f f7 w).2 hm
      omega
    · right
      exact ⟨hB.2.2.2.2 f f7 q, fun m w => q ((hin m f f7 w).1)⟩
  · have h3 : ∀ f, f < 750 → inR g sz f → iF (inR g sz f) (c f) 100000 = c f := fun f _ q => iF_p q
    refine ⟨fun f => iF (inR g sz f) (c f) 100000, ⟨⟨fun f f7 hf => ?_, fun r n f hb => ?_, fun f f7 => ?_⟩, fun s hs f f7 => ?_⟩, fun f f7 q => ?_⟩
    · obtain ⟨r1, r2⟩ := (rb_up hB f7 (by omega)).mp (hba f f7 hf)
      show iF (inR g sz f) (c f) 100000 ≤ 1
      rw [iF_p r1]; omega
    · obtain ⟨hr, n6, hi, he, ht⟩ := hb
      have t7 := (hS r n hr n6 hi).2
      have tq : ∀ k, k < sy_k S r → inR g sz (sy_t S r n k) := fun k hk => (hrc _ (t7 k hk)).mpr (ht k hk)
      obtain ⟨r1, r2⟩ := b7 r n hr n6 hi tq
      rw [he] at r1 r2
      have e : tmS (fun f => iF (inR g sz f) (c f) 100000) (sy_t S r n) (sy_k S r) = tmS c (sy_t S r n) (sy_k S r) := tmS_cg _ (fun k hk => iF_p (tq k hk))
      show iF (inR g sz f) (c f) 100000 ≤ _
      rw [iF_p r1, e]
      unfold byN at r2
      rw [if_pos hm] at r2
      split at r2 <;> omega
    · show iF (inR g sz f) (c f) 100000 ≤ 100000
      by_cases q : inR g sz f
      · rw [iF_p q]; exact (rb_c hB q).2.1
      · rw [iF_n q]; exact Nat.le_refl _
    · show s f ≤ iF (inR g sz f) (c f) 100000
      by_cases q : inR g sz f
      · rw [iF_p q]; exact (hcI f q).2.2 hm s hs
      · rw [iF_n q]; exact hs.2.2 f f7
    · show cg 85 f = nI (iF (inR g sz f) (c f) 100000)
      rw [iF_p q]; exact (rb_c hB q).1
theorem cp_si {md : Bool} {P : Nat → Int32} {dy : Int32} {ba : Nat → Prop} {i K r : Nat} {g0 c0 : Nat → Nat} {cgk : sg_T} (hS : sy_ok (syP P dy)) (hk : kC md i K g0 c0) (hr : r < pn P 1) (n3 : pn P (txX P r dy) ≤ 3) : cpH P (txX P r dy) (fun cg => siC md (syP P dy) ba i K g0 c0 cg ∧ le85 cgk cg) (fun n cg => n < 625 → sy_i (syP P dy) r n = true → (∀ k, k < sy_k (syP P dy) r → ∃ j, j ≤ i ∧ g0 j = sy_t (syP P dy) r n k) → upB cg (sy_e (syP P dy) r n) (byN md c0 (sy_t (syP P dy) r n) (sy_k (syP P dy) r))) := by
  refine ⟨fun cg n n6 hp hJ => ?_, fun cg cg' e hJ => ⟨si_fr hJ.1 (e 84 (by decide)) (e 85 (by decide)) (e 86 (by decide)) (e 87 (by decide)), fun f f7 h0 => by rw [e 85 (by decide)]; exact hJ.2 f f7 h0⟩, fun cg cg' n e hD n6 hi ht => ?_, fun cg hJ => ?_⟩
  · obtain ⟨s1, s2, s3⟩ := si_stp hS hk hr n6 (pl_N.mpr hp) n3 hJ.1
    exact ⟨⟨s1, hJ.2.tr s2⟩, fun _ => s3, fun m hD m6 hi ht => (hD m6 hi ht).le s2 (hS r m hr m6 hi).1⟩
  · unfold upB; rw [e 85 (by decide)]; exact hD n6 hi ht
  · obtain ⟨-, -, -, sz, g, c, hB, -⟩ := hJ.1
    exact ⟨sz, hB.2.1, hB.1⟩
def frE (cg cg' : sg_T) : Prop := ∀ a, (a < 84 ∨ 89 < a) → cg' a = cg a
theorem frE.rf {cg : sg_T} : frE cg cg := fun _ _ => rfl
theorem frE.tr {a b c : sg_T} (h : frE a b) (g : frE b c) : frE a c := fun i hi => (g i hi).trans (h i hi)
theorem frU.E {a b : sg_T} (h : frU a b) : frE a b := fun i hi => h i (by omega) (by omega) (by omega) (by omega)
theorem frB.E {a b : sg_T} (h : frB a b) : frE a b := fun i hi => h i (by omega) (by omega) (by omega) (by omega)
theorem frE.u {a b : sg_T} {c i : Nat} {x : Int32} (h : frE a b) (h1 : 84 ≤ c) (h2 : c ≤ 89) : frE a (sg_u b c i x) := fun j hj => (sg_i (by omega)).trans (h j hj)
/-- what END and TESTS ask for stands in TERMS, in every text -/
def ltA (P : Nat → Int32) (R C : Nat) : Prop := (∀ r, r < R → ltP P (1758 + 30 * pn P (10 + r))) ∧ ∀ c, c < C → ltP P (1758 + 30 * pn P (42 + c))
theorem ltA_x {P : Nat → Int32} {R C n r : Nat} {dy : Int32} (hW : wkA P R C n) (h : ltA P R C) (hr : r < R) : ltP P (txX P r dy) := by
  unfold txX txN
  rw [show (P 2).toNatClampNeg = C from pn_of hW.2.2.1 (by have := hW.2.2.2.1; omega)]
  cases e : chF (pRu P) (pDa P) (nI r) dy C with
  | none => exact h.1 r hr
  | some c => exact h.2 c (chF_lt e)
theorem sy_k1 {P : Nat → Int32} {R C n : Nat} {dy : Int32} (hW : wkA P R C n) : ∀ r, r < sy_R (syP P dy) → 1 ≤ sy_k (syP P dy) r := fun r hr => by
  have eR : sy_R (syP P dy) = R := pn_of hW.1 (by have := hW.2.1; omega)
  obtain ⟨nt, n1, n3, e⟩ := (wkA_x (dy := dy) hW (show r < R by omega)).1
  show 1 ≤ pn P (txX P r dy)
  rw [pn_of e (by omega)]; exact n1
theorem c_sp_c {cg0 : sg_T} {cx : cx_T} {P : Nat → Int32} (hB0 : BR 1 cg0 P) {md : Bool} {d kc ks R C n : Nat} {x dy : Int32} (hd : 14 ≤ d) (hW : wkA P R C n) (hlt : ltA P R C) {fn : Nat → Option Nat} (hfn : ∀ r, r < R → fn r = some (18 + 3 * ctN P r dy)) {vR z : Int32} (hR : vR = nI R) {i K : Nat} {g0 c0 : Nat → Nat} {cgs : sg_T} (hz : z = nI i) (hk : kC md i K g0 c0) (hsF : frE cg0 cgs) (hba : ∀ f, f < 750 → baX P n x f → upB cgs f (mdN md)) (hkK : md = false → (∀ a, a < i → c0 (g0 a) ≤ a) ∧ K ≤ i) (KB : ∀ (cg : sg_T) (sz : Nat) (g c : Nat → Nat) (z : Int32) (t6 : Option Value), z = nI (i + 1) → frE cg0 cg → wvP (cg 89) → oiX md (syP P dy) (baX P n x) (i + 1) cg sz g c → am_W mi_X6_spread d (fun r' h' => r' = none ∧ ∃ cg' fn', h' = hc cg' fn' cx ∧ frE cg0 cg' ∧ wvP (cg' 89) ∧ spO md (syP P dy) (baX P n x) cg') kc ks 53 [some (.ref 84), some (.int dy), some (.int x), some (.int (bI md)), some (.int vR), some (.int z), t6] [] (hc cg fn cx)) : ∀ (u k : Nat) (y : Int32) (cg : sg_T), y = nI k → frE cg0 cg → wvP (cg 89) → siC md (syP P dy) (baX P n x) i K g0 c0 cg → le85 cgs cg → dnC md (syP P dy) i g0 c0 k cg → k ≤ R → R < k + u → am_W mi_X6_spread d (fun r' h' => r' = none ∧ ∃ cg' fn', h' = hc cg' fn' cx ∧ frE cg0 cg' ∧ wvP (cg' 89) ∧ spO md (syP P dy) (baX P n x) cg') kc ks 99 [some (.ref 84), some (.int dy), some (.int x), some (.int (bI md)), some (.int vR), some (.int z), some (.int y)] [] (hc cg fn cx) := by
  intro u
  induction u with
  | zero => intro k y cg hy hF hw hI hle hD h1 h2; exact absurd h2 (by omega)
  | succ u ih =>
    intro k y cg hy hF hw hI hle hD h1 h2
    refine am_go ok_X6_spread [53, 99] 75 ?_
    have R8 := hW.2.1
    have eR : sy_R (syP P dy) = R := pn_of hW.1 (by omega)
    have hS := syP_ok (wkA_w (dy := dy) hW)
    refine ⟨fun c103 => ?_, fun c103 => ?_⟩
    · rw [hR, hy] at c103
      have k1 : k = R := by have := (nI_leI (by omega) (by omega)).mp c103; omega
      subst k1
      obtain ⟨sz, g, c, hO⟩ := si_oi hI hk hkK (by rw [eR]; exact hD) (fun f f7 hf => (hba f f7 hf).le hle f7)
      exact KB cg sz g c _ _ (by rw [hz, nI_1]) hF hw hO
    · have k1 : k < R := by
        rcases Nat.lt_or_ge k R with q1 | q1
        · exact q1
        · exact absurd (by rw [hR, hy]; exact (nI_leI (by omega) (by omega)).mpr q1) c103
      obtain ⟨sz, g, c, hB, isz, hpre, -⟩ := id hI.2.2.2
      have z7 := hB.2.1
      obtain ⟨b1, b2, -, -⟩ := hB.2.2.1 i isz
      rw [(hpre i (Nat.le_refl _)).1] at b1 b2
      have hBk := BR_fr hW hB0 (fun a ha => hF a (by omega))
      obtain ⟨hT, t20⟩ := ct_rel (dy := dy) hBk hW k1
      have hX := wkA_x (dy := dy) hW k1
      obtain ⟨nt, nt1, nt3, ent⟩ := id hX.1
      have pnt := pn_of ent (by omega)
      have hH := cp_si (md := md) (ba := baX P n x) (cgk := cg) (r := k) hS hk (by rw [show pn P 1 = R from eR]; exact k1) (by omega)
      refine ⟨_, _, rfl, rfl, ?_⟩
      refine ⟨_, _, k, _, rfl, hy, by omega, Nat.le_of_ble_eq_true rfl, nfO_s (hfn k k1) (by omega), ?_⟩
      refine ⟨_, _, rfl, rfl, ?_⟩
      refine ⟨_, _, i, rfl, hz, by omega, Nat.le_of_ble_eq_true rfl, ?_⟩
      rw [b2]
      refine ⟨_, rfl, d - 1, 0, 0, _, by omega, Nat.le_of_ble_eq_true rfl, Nat.le_of_ble_eq_true rfl, Nat.le_of_ble_eq_true rfl, c_useIn (f := g0 i) hH hX (ltA_x hW hlt k1) t20 (by omega) rfl b1 hT hw ⟨hI, le85.rf⟩, ?_⟩
      rintro _ _ ⟨rfl, cg2, rfl, ⟨J1, J2⟩, F2, w2, -, E2⟩
      refine ⟨Or.inl rfl, ?_⟩
      refine ih (k + 1) _ cg2 (by rw [hy, nI_1]) (hF.tr F2.E) w2 J1 (hle.tr J2) (fun r m hr m6 hi ha ht => ?_) (by omega) (by omega)
      rcases (show r = k ∨ r < k by omega) with e | e
      · subst e
        obtain ⟨q, q1, q2⟩ := ha
        have hp : plP P (txX P r dy) m := pl_N.mp (by
          have hi' : (plN (tlF P (txX P r dy) (pn P (txX P r dy))) (Lm m) 4 && thN P (Lm m) (txX P r dy) (pn P (txX P r dy + 1))) = true := hi
          rw [Bool.and_eq_true] at hi'; exact hi'.1)
        exact E2 m q m6 hp q1 q2 m6 hi ht
      · exact (hD r m e m6 hi ha ht).le J2 (hS r m (by omega) m6 hi).1
theorem c_sp_b {cg0 : sg_T} {cx : cx_T} {P : Nat → Int32} (hB0 : BR 1 cg0 P) {md : Bool} {d kc ks R C n : Nat} {x dy : Int32} (hd : 14 ≤ d) (hW : wkA P R C n) (hlt : ltA P R C) {fn : Nat → Option Nat} (hfn : ∀ r, r < R → fn r = some (18 + 3 * ctN P r dy)) {vR : Int32} (hR : vR = nI R) : ∀ (u i : Nat) (z : Int32) (cg : sg_T) (sz : Nat) (g c : Nat → Nat) (t6 : Option Value), z = nI i → frE cg0 cg → wvP (cg 89) → oiX md (syP P dy) (baX P n x) i cg sz g c → 750 < i + u → am_W mi_X6_spread d (fun r' h' => r' = none ∧ ∃ cg' fn', h' = hc cg' fn' cx ∧ frE cg0 cg' ∧ wvP (cg' 89) ∧ spO md (syP P dy) (baX P n x) cg') kc ks 53 [some (.ref 84), some (.int dy), some (.int x), some (.int (bI md)), some (.int vR), some (.int z), t6] [] (hc cg fn cx) := by
  intro u
  induction u with
  | zero => intro i z cg sz g c t6 hz hF hw hO h2; exact absurd h2 (by have := hO.2.2.1; have := hO.2.1.2.1; omega)
  | succ u ih =>
    intro i z cg sz g c t6 hz hF hw hO h2
    refine am_go ok_X6_spread [53, 99] 83 ?_
    have hB := hO.2.1
    have z7 := hB.2.1
    have iz := hO.2.2.1
    have R8 := hW.2.1
    have hS := syP_ok (wkA_w (dy := dy) hW)
    refine ⟨_, _, rfl, rfl, ?_⟩
    rw [hB.1]
    refine ⟨fun c59 => ?_, fun c59 => ?_⟩
    · have k1 : i = sz := by rw [hz] at c59; have := (nI_leI (by omega) (by omega)).mp c59; omega
      subst k1
      exact ⟨rfl, cg, fn, rfl, hF, hw, oi_end hS hO⟩
    · have k1 : i < sz := by
        rcases Nat.lt_or_ge i sz with q1 | q1
        · exact q1
        · exact absurd (by rw [hz]; exact (nI_leI (by omega) (by omega)).mpr q1) c59
      refine ⟨fun c67 => absurd c67 (fun w => absurd ((nI_leI (a := 750) (b := i) (by omega) (by omega)).mp (by rw [← hz]; exact w)) (by omega)), fun _ => ?_⟩
      refine ⟨_, _, rfl, rfl, ?_⟩
      rw [hO.1]
      refine ⟨fun c74 => ?_, fun c74 => ?_⟩
      · have hm : md = false := bI_0.mp c74
        have hl : ∀ j, i ≤ j → j < sz → c (g i) ≤ c (g j) := fun j j1 j2 => (hO.2.2.2.2.2.2.2.1 hm).1 i j j1 j2
        refine ⟨_, _, rfl, rfl, ?_⟩
        refine ⟨_, _, rfl, rfl, ?_⟩
        refine ⟨_, _, i, rfl, hz, by omega, Nat.le_of_ble_eq_true rfl, ?_⟩
        rw [(hB.2.2.1 i k1).2.1]
        refine ⟨_, _, (g i), rfl, rfl, (hB.2.2.1 i k1).1, Nat.le_of_ble_eq_true rfl, ?_⟩
        rw [hc_a87]
        rw [nar_1]
        obtain ⟨s1, s2, s3⟩ := oi_go hO k1 hl
        exact c_sp_c hB0 hd hW hlt hfn hR hz s2 (hF.u (by omega) (by omega)) (fun f f7 hf => by unfold upB; rw [sg_i (by decide)]; exact hO.2.2.2.2.2.1 f f7 hf) s3 (fun cg' sz' g' c' z' t6' e' F' w' O' => ih (i + 1) z' cg' sz' g' c' t6' e' F' w' O' (by omega)) (R + 1) 0 0 _ rfl (hF.u (by omega) (by omega)) (by rw [sg_i (by decide)]; exact hw) s1 le85.rf (fun r _ hr => absurd hr (by omega)) (by omega) (by omega)
      · have hm : md = true := by cases md; exact absurd rfl c74; rfl
        refine ⟨_, rfl, d - 1, 0, 0, _, by omega, Nat.le_of_ble_eq_true rfl, Nat.le_of_ble_eq_true rfl, Nat.le_of_ble_eq_true rfl, c_bringLeast (d := d - 1) hB hz k1, ?_⟩
        rintro _ _ ⟨rfl, l, l1, l2, hl0, rfl⟩
        refine ⟨Or.inl rfl, ?_⟩
        obtain ⟨hO', hl⟩ := oi_sw hm hO l1 l2 hl0
        have hF' : frE cg0 (sg_u (sg_u cg 86 l (nI (g i))) 86 i (nI (g l))) := (hF.u (by omega) (by omega)).u (by omega) (by omega)
        have hw' : wvP (sg_u (sg_u cg 86 l (nI (g i))) 86 i (nI (g l)) 89) := by rw [sg_i (by decide), sg_i (by decide)]; exact hw
        generalize sg_u (sg_u cg 86 l (nI (g i))) 86 i (nI (g l)) = cg at hO' hl hF' hw' ⊢
        clear hO hF hw hB
        have hO := hO'
        have hF := hF'
        have hw := hw'
        have hB := hO.2.1
        generalize swN g i l = g at hO hl hB ⊢
        refine ⟨_, _, rfl, rfl, ?_⟩
        refine ⟨_, _, rfl, rfl, ?_⟩
        refine ⟨_, _, i, rfl, hz, by omega, Nat.le_of_ble_eq_true rfl, ?_⟩
        rw [(hB.2.2.1 i k1).2.1]
        refine ⟨_, _, (g i), rfl, rfl, (hB.2.2.1 i k1).1, Nat.le_of_ble_eq_true rfl, ?_⟩
        rw [hc_a87]
        rw [nar_1]
        obtain ⟨s1, s2, s3⟩ := oi_go hO k1 hl
        exact c_sp_c hB0 hd hW hlt hfn hR hz s2 (hF.u (by omega) (by omega)) (fun f f7 hf => by unfold upB; rw [sg_i (by decide)]; exact hO.2.2.2.2.2.1 f f7 hf) s3 (fun cg' sz' g' c' z' t6' e' F' w' O' => ih (i + 1) z' cg' sz' g' c' t6' e' F' w' O' (by omega)) (R + 1) 0 0 _ rfl (hF.u (by omega) (by omega)) (by rw [sg_i (by decide)]; exact hw) s1 le85.rf (fun r _ hr => absurd hr (by omega)) (by omega) (by omega)
theorem hc_88 {cg : sg_T} {fn : Nat → Option Nat} {cx : cx_T} {j : Nat} {o : Nat} (ho : o < 101) : am_put (hc cg fn cx) 88 (.inr (.inl (3, 8, va_up (nfO fn) j (some o)))) = hc cg (va_up fn j (some o)) cx := by
  have e : va_up (nfO fn) j (some o) = nfO (va_up fn j (some o)) := by
    funext i
    unfold nfO va_up
    by_cases z : i = j
    · rw [if_pos z, if_pos z]; exact (if_pos ho).symm
    · rw [if_neg z, if_neg z]
  rw [e]; rfl
theorem c_sp_a {cg0 : sg_T} {cx : cx_T} {P : Nat → Int32} (hB0 : BR 1 cg0 P) {md : Bool} {d kc ks R C n : Nat} {x dy : Int32} (hd : 14 ≤ d) (hW : wkA P R C n) (hlt : ltA P R C) {vR : Int32} {cg : sg_T} (hR : vR = nI R) (hF : frE cg0 cg) (hw : wvP (cg 89)) (hI : bgI md P x n cg) : ∀ (u k : Nat) (z : Int32) (fn : Nat → Option Nat) (t6 : Option Value), z = nI k → (∀ r, r < k → fn r = some (18 + 3 * ctN P r dy)) → k ≤ R → R < k + u → am_W mi_X6_spread d (fun r' h' => r' = none ∧ ∃ cg' fn', h' = hc cg' fn' cx ∧ frE cg0 cg' ∧ wvP (cg' 89) ∧ spO md (syP P dy) (baX P n x) cg') kc ks 20 [some (.ref 84), some (.int dy), some (.int x), some (.int (bI md)), some (.int vR), some (.int z), t6] [] (hc cg fn cx) := by
  intro u
  induction u with
  | zero => intro k z fn t6 hz hfn h1 h2; exact absurd h2 (by omega)
  | succ u ih =>
    intro k z fn t6 hz hfn h1 h2
    refine am_go ok_X6_spread [20, 53] 74 ?_
    have R8 := hW.2.1
    have hB := BR_fr hW hB0 (fun a ha => hF a (by omega))
    refine ⟨fun c24 => ?_, fun c24 => ?_⟩
    · rw [hR, hz] at c24
      have k1 : k = R := by have := (nI_leI (by omega) (by omega)).mp c24; omega
      subst k1
      obtain ⟨sz, g, c, hO⟩ := oi_0 (dy := dy) (sy_k1 hW) hI
      exact c_sp_b hB0 hd hW hlt hfn hR 751 0 0 cg sz g c _ rfl hF hw hO (by omega)
    · have k1 : k < R := by
        rcases Nat.lt_or_ge k R with q1 | q1
        · exact q1
        · exact absurd (by rw [hR, hz]; exact (nI_leI (by omega) (by omega)).mpr q1) c24
      obtain ⟨hT, t20⟩ := ct_rel (dy := dy) hB hW k1
      refine ⟨_, _, rfl, rfl, ?_⟩
      refine ⟨_, _, rfl, rfl, ?_⟩
      refine ⟨_, rfl, d - 1, 0, 0, _, by omega, Nat.le_of_ble_eq_true rfl, Nat.le_of_ble_eq_true rfl, Nat.le_of_ble_eq_true rfl, c_textOn hB (d := d - 1) (by omega) dy hz (by omega) hW.2.2.1 hW.2.2.2.1, ?_⟩
      rintro _ _ ⟨rfl, rfl⟩
      refine ⟨Or.inl rfl, ?_⟩
      refine ⟨_, _, k, _, _, rfl, hc_nT t20, Or.inl ⟨rfl, rfl⟩, hz, by omega, Nat.le_of_ble_eq_true rfl, ?_⟩
      rw [hc_88 (by omega)]
      exact ih (k + 1) _ _ _ (by rw [hz, nI_1]) (fun r hr => by unfold va_up; by_cases q : r = k; (rw [if_pos q, q]); rw [if_neg q]; exact hfn r (by omega)) (by omega) (by omega)
theorem c_spread {cg0 : sg_T} {cx : cx_T} {P : Nat → Int32} (hB0 : BR 1 cg0 P) {md : Bool} {d R C n : Nat} {x dy : Int32} (hd : 14 ≤ d) (hW : wkA P R C n) (hlt : ltA P R C) {fn : Nat → Option Nat} (hw : wvP (cg0 89)) (hI : rI cg0) : am_Met mi_X6_spread d 0 0 [.ref 84, .int dy, .int x, .int (bI md)] (hc cg0 fn cx) (fun r' h' => r' = none ∧ ∃ cg' fn', h' = hc cg' fn' cx ∧ frE cg0 cg' ∧ wvP (cg' 89) ∧ spO md (syP P dy) (baX P n x) cg') := by
  refine am_Met.of rfl (Nat.le_of_ble_eq_true rfl) ?_
  refine am_go ok_X6_spread [20] 72 ?_
  have R8 := hW.2.1
  refine ⟨_, rfl, d - 1, 0, 0, _, by omega, Nat.le_of_ble_eq_true rfl, Nat.le_of_ble_eq_true rfl, Nat.le_of_ble_eq_true rfl, c_begin hB0 (d := d - 1) hW.2.2.2.2.2.2.1 hW.2.2.2.2.2.2.2.1 hW.2.2.2.2.2.2.2.2.1 (by omega) hI, ?_⟩
  rintro _ _ ⟨rfl, cg, rfl, F1, I1⟩
  refine ⟨Or.inl rfl, ?_⟩
  have hB := BR_fr hW hB0 (fun a ha => F1.E a (by omega))
  refine ⟨_, _, rfl, rfl, ?_⟩
  refine ⟨_, _, rfl, rfl, ?_⟩
  refine ⟨_, _, 1, rfl, rfl, Nat.le_of_ble_eq_true rfl, Nat.le_of_ble_eq_true rfl, ?_⟩
  rw [hB.c 1 (by omega), hW.1]
  exact c_sp_a hB0 hd hW hlt rfl F1.E (by rw [F1 89 (by decide) (by decide) (by decide) (by decide)]; exact hw) I1 (R + 1) 0 0 fn none rfl (fun r hr => absurd hr (by omega)) (by omega) (by omega)
