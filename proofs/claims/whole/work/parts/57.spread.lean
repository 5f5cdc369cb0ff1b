/-! Reach: how all that follows is spread, without machine -/
/-- settled are just these -/
def stR (cg : sg_T) (p : Nat → Prop) : Prop := ∀ f, f < 750 → (p f → cg 87 f = 1) ∧ (¬ p f → cg 87 f = 0)
theorem stR_n {cg : sg_T} {p : Nat → Prop} (h : stR cg p) {f : Nat} (f7 : f < 750) : ¬ cg 87 f = 0 ↔ p f := by
  by_cases q : p f
  · rw [(h f f7).1 q]; exact ⟨fun _ => q, fun _ => by decide⟩
  · rw [(h f f7).2 q]; exact ⟨fun w => absurd rfl w, fun w => absurd w q⟩
/-- what a cost says -/
def sndC (md : Bool) (S : sy_T) (ba : Nat → Prop) (f v : Nat) : Prop := rcP S ba f ∧ (md = false → hs S ba v f) ∧ (md = true → ∀ s, szA S ba s → s f ≤ v)
def le85 (cg cg' : sg_T) : Prop := ∀ f, f < 750 → 0 ≤ cg 85 f → 0 ≤ cg' 85 f ∧ cg' 85 f ≤ cg 85 f
theorem le85.rf {cg : sg_T} : le85 cg cg := fun _ _ h => ⟨h, Int32.le_refl _⟩
theorem le85.tr {a b c : sg_T} (h : le85 a b) (g : le85 b c) : le85 a c := fun f f7 h0 => ⟨(g f f7 (h f f7 h0).1).1, Int32.le_trans (g f f7 (h f f7 h0).1).2 (h f f7 h0).2⟩
/-- f has come, by b at most -/
def upB (cg : sg_T) (f b : Nat) : Prop := 0 ≤ cg 85 f ∧ cg 85 f ≤ nI b
theorem upB.le {a b : sg_T} {f v : Nat} (h : upB a f v) (k : le85 a b) (f7 : f < 750) : upB b f v := ⟨(k f f7 h.1).1, Int32.le_trans (k f f7 h.1).2 h.2⟩
/-- instances whose TERMS are all among the first i have brought their END -/
def cmC (md : Bool) (S : sy_T) (i : Nat) (g c : Nat → Nat) (cg : sg_T) : Prop := ∀ r n, r < sy_R S → n < 625 → sy_i S r n = true → (∀ k, k < sy_k S r → ∃ j, j < i ∧ g j = sy_t S r n k) → upB cg (sy_e S r n) (byN md c (sy_t S r n) (sy_k S r))
/-- while the i-th is used -/
def siC (md : Bool) (S : sy_T) (ba : Nat → Prop) (i K : Nat) (g0 c0 : Nat → Nat) (cg : sg_T) : Prop := cg 84 5 = bI md ∧ stR cg (fun f => ∃ j, j ≤ i ∧ g0 j = f) ∧ cmC md S i g0 c0 cg ∧ ∃ sz g c, RB cg sz g c ∧ i < sz ∧ (∀ j, j ≤ i → g j = g0 j ∧ c (g0 j) = c0 (g0 j)) ∧ (∀ j, i ≤ j → j < sz → K ≤ c (g j)) ∧ (md = false → (∀ a b, a ≤ b → b < sz → c (g a) ≤ c (g b)) ∧ ∀ a, a < sz → c (g a) ≤ K + 1) ∧ ∀ a, a < sz → sndC md S ba (g a) (c (g a))
/-- what stays of the i-th while it is used -/
def kC (md : Bool) (i K : Nat) (g0 c0 : Nat → Nat) : Prop := (∀ j, j ≤ i → c0 (g0 j) ≤ K) ∧ c0 (g0 i) = K ∧ K + 1 ≤ 100000 + 1 ∧ (md = false → K + 1 ≤ 100000)
theorem rc_all {S : sy_T} {ba : Nat → Prop} {tm : Nat → Nat} : ∀ {n : Nat}, (∀ k, k < n → rcP S ba (tm k)) → ∃ m, ∀ k, k < n → hs S ba m (tm k)
  | 0, _ => ⟨0, fun k h => absurd h (by omega)⟩
  | n + 1, h => by
    obtain ⟨m, hm⟩ := rc_all (n := n) (fun k hk => h k (by omega))
    obtain ⟨m', hm'⟩ := h n (by omega)
    refine ⟨m + m', fun k hk => ?_⟩
    rcases (show k = n ∨ k < n by omega) with z | z
    · subst z; exact hs_mono (by omega) hm'
    · exact hs_mono (by omega) (hm k z)
theorem rc_by {S : sy_T} {ba : Nat → Prop} {r n f : Nat} (h : sy_by S (rcP S ba) r n f) : rcP S ba f := by
  obtain ⟨h1, h2, h3, h4, h5⟩ := h
  obtain ⟨m, hm⟩ := rc_all h5
  exact ⟨m + 1, Or.inr ⟨r, n, h1, h2, h3, h4, hm⟩⟩
theorem snd_by {md : Bool} {S : sy_T} {ba : Nat → Prop} {c : Nat → Nat} {r n : Nat} (hS : sy_ok S) (h1 : r < sy_R S) (h2 : n < 625) (h3 : sy_i S r n = true) (h : ∀ k, k < sy_k S r → sndC md S ba (sy_t S r n k) (c (sy_t S r n k))) : sndC md S ba (sy_e S r n) (byN md c (sy_t S r n) (sy_k S r)) := by
  have hb : sy_by S (rcP S ba) r n (sy_e S r n) := ⟨h1, h2, h3, rfl, fun k hk => (h k hk).1⟩
  refine ⟨rc_by hb, fun hm => ?_, fun hm s hs => ?_⟩
  · subst hm
    unfold byN
    rw [if_neg (by decide), Nat.add_comm]
    exact Or.inr ⟨r, n, h1, h2, h3, rfl, fun k hk => hs_mono (gtN_ge hk) ((h k hk).2.1 rfl)⟩
  · subst hm
    unfold byN
    rw [if_pos rfl]
    have e1 := hs.2.1 r n _ hb
    have e2 := hs.2.2 _ (hS r n h1 h2 h3).1
    have e3 := tmS_le (tm := sy_t S r n) (sy_k S r) (fun k hk => (h k hk).2.2 rfl s hs)
    split <;> omega
/-- an instance of the i-th's costs K at least, as settled ones cost K at most -/
theorem by_K {md : Bool} {i K n : Nat} {g0 c0 tm : Nat → Nat} (hk : kC md i K g0 c0) (ht : ∀ k, k < n → ∃ j, j ≤ i ∧ g0 j = tm k) (hi : ∃ k, k < n ∧ tm k = g0 i) : K ≤ byN md c0 tm n ∧ byN md c0 tm n ≤ 100000 ∧ (md = false → byN md c0 tm n = K + 1) := by
  obtain ⟨h1, h2, h3, h4⟩ := hk
  obtain ⟨k, k1, k2⟩ := hi
  cases md with
  | false =>
    have a := gtN_ge (c := c0) (tm := tm) k1
    rw [k2, h2] at a
    have b : gtN c0 tm n ≤ K := gtN_le (fun k hk => by obtain ⟨j, j1, j2⟩ := ht k hk; rw [← j2]; exact h1 j j1)
    have e : byN false c0 tm n = 1 + gtN c0 tm n := by unfold byN; rw [if_neg (by decide)]
    have := h4 rfl
    rw [e]; exact ⟨by omega, by omega, fun _ => by omega⟩
  | true =>
    have a := tmS_ge (c := c0) (tm := tm) k1
    rw [k2, h2] at a
    have e : byN true c0 tm n = if 1 + tmS c0 tm n < 100000 then 1 + tmS c0 tm n else 100000 := by unfold byN; rw [if_pos rfl]
    rw [e]
    refine ⟨?_, ?_, fun w => absurd w (by decide)⟩
    · split <;> omega
    · split <;> omega
theorem by_H {md : Bool} {i K n : Nat} {g0 c0 tm : Nat → Nat} (hk : kC md i K g0 c0) (ht : ∀ k, k < n → ∃ j, j ≤ i ∧ g0 j = tm k) : byN md c0 tm n ≤ 100000 := by
  obtain ⟨h1, h2, h3, h4⟩ := hk
  cases md with
  | false =>
    have b : gtN c0 tm n ≤ K := gtN_le (fun k hk => by obtain ⟨j, j1, j2⟩ := ht k hk; rw [← j2]; exact h1 j j1)
    have e : byN false c0 tm n = 1 + gtN c0 tm n := by unfold byN; rw [if_neg (by decide)]
    have := h4 rfl
    rw [e]; omega
  | true =>
    have e : byN true c0 tm n = if 1 + tmS c0 tm n < 100000 then 1 + tmS c0 tm n else 100000 := by unfold byN; rw [if_pos rfl]
    rw [e]; split <;> omega
theorem gtN_cg {c c' tm : Nat → Nat} : ∀ {n : Nat}, (∀ k, k < n → c (tm k) = c' (tm k)) → gtN c tm n = gtN c' tm n
  | 0, _ => rfl
  | n + 1, h => by rw [gtN, gtN, gtN_cg (fun k hk => h k (by omega)), h n (by omega)]
theorem byN_cg {md : Bool} {c c' tm : Nat → Nat} {n : Nat} (h : ∀ k, k < n → c (tm k) = c' (tm k)) : byN md c tm n = byN md c' tm n := by
  unfold byN; rw [tmS_cg n h, gtN_cg h]
theorem av_85 {cg : sg_T} {sz e b : Nat} {g c : Nat → Nat} (h : RB cg sz g c) (e7 : e < 750) (hb : b ≤ 100000) : upB (avR cg e (nI b)) e b ∧ le85 cg (avR cg e (nI b)) := by
  rcases av_rb h e7 hb with ⟨q1, q2, q3⟩ | ⟨q1, q2, q3⟩ | ⟨q1, q2, q3⟩
  · have ev : avR cg e (nI b) = sg_u (sg_u (sg_u cg 86 (pn (cg 84) 3) (nI e)) 84 3 (cg 84 3 + 1)) 85 e (nI b) := by
      unfold avR
      rw [if_pos ⟨(rb_neg h e7).mpr q1, by rw [h.1]; exact (nI_ltI (b := 750) (by omega) (by omega)).mpr q2⟩]
    rw [ev]
    refine ⟨⟨by rw [sg_s]; exact nI_ge0 b (by omega), by rw [sg_s]; exact Int32.le_refl _⟩, fun f f7 h0 => ?_⟩
    have fe : f ≠ e := fun w => by rw [w] at h0; exact i_len h0 ((rb_neg h e7).mpr q1)
    rw [sg_j fe, sg_i (by decide), sg_i (by decide)]; exact ⟨h0, Int32.le_refl _⟩
  · have hc := rb_c h q1
    have ev : avR cg e (nI b) = sg_u cg 85 e (nI b) := by
      unfold avR; rw [if_neg (fun w => (rb_neg h e7).mp w.1 q1), if_pos (by rw [hc.1]; exact (nI_ltI (by omega) (by omega)).mpr q2)]
    rw [ev]
    refine ⟨⟨by rw [sg_s]; exact nI_ge0 b (by omega), by rw [sg_s]; exact Int32.le_refl _⟩, fun f f7 h0 => ?_⟩
    by_cases fe : f = e
    · rw [fe, sg_s, hc.1]; exact ⟨nI_ge0 b (by omega), (nI_leI (by omega) (by omega)).mpr (by omega)⟩
    · rw [sg_j fe]; exact ⟨h0, Int32.le_refl _⟩
  · have hc := rb_c h q1
    rw [q3]
    refine ⟨⟨by rw [hc.1]; exact nI_ge0 _ (by omega), by rw [hc.1]; exact (nI_leI (by omega) (by omega)).mpr q2⟩, le85.rf⟩
theorem rb_up {cg : sg_T} {sz f b : Nat} {g c : Nat → Nat} (h : RB cg sz g c) (f7 : f < 750) (hb : b ≤ 100000) : upB cg f b ↔ (inR g sz f ∧ c f ≤ b) := by
  by_cases q : inR g sz f
  · have hc := rb_c h q
    unfold upB
    rw [hc.1, nI_leI (by omega) (by omega)]
    exact ⟨fun w => ⟨q, w.2⟩, fun w => ⟨nI_ge0 _ (by omega), w.2⟩⟩
  · have := (rb_neg h f7).mpr q
    exact ⟨fun w => absurd this (i_len w.1), fun w => absurd w.1 q⟩
theorem si_av {md : Bool} {S : sy_T} {ba : Nat → Prop} {i K e b : Nat} {g0 c0 : Nat → Nat} {cg : sg_T} (hS : sy_ok S) (hk : kC md i K g0 c0) (e7 : e < 750) (bK : K ≤ b) (b1 : b ≤ 100000) (bH : md = false → b = K + 1) (hsd : sndC md S ba e b) (h : siC md S ba i K g0 c0 cg) : siC md S ba i K g0 c0 (avR cg e (nI b)) ∧ le85 cg (avR cg e (nI b)) ∧ upB (avR cg e (nI b)) e b := by
  obtain ⟨h5, hst, hcm, sz, g, c, hB, isz, hpre, hfr, hso, hsn⟩ := id h
  obtain ⟨hup, hle⟩ := av_85 hB e7 b1
  have g1 : stR (avR cg e (nI b)) (fun f => ∃ j, j ≤ i ∧ g0 j = f) := by
    intro f f7; rw [avR_fr 87 (by decide) (by decide) (by decide)]; exact hst f f7
  have g2 : cmC md S i g0 c0 (avR cg e (nI b)) := fun r n hr n6 hi ht => (hcm r n hr n6 hi ht).le hle (hS r n hr n6 hi).1
  rcases av_rb hB e7 b1 with ⟨q1, q2, q3⟩ | ⟨q1, q2, q3⟩ | ⟨q1, q2, q3⟩
  · have k1 : ∀ a, a < sz → updN c e b (updN g sz e a) = c (g a) := fun a ha => by rw [show updN g sz e a = g a from updN_n (by omega), updN_n (fun w => q1 ⟨a, ha, w⟩)]
    have k0 : ∀ a, a < sz → updN g sz e a = g a := fun a ha => updN_n (by omega)
    refine ⟨⟨avR_5.trans h5, g1, g2, sz + 1, _, _, q3, by omega, fun j hj => ?_, fun j j1 j2 => ?_, fun hm => ?_, fun a ha => ?_⟩, hle, hup⟩
    · have ne : g0 j ≠ e := fun w => q1 ⟨j, by omega, (hpre j hj).1.trans w⟩
      rw [updN_n (by omega), updN_n ne]; exact hpre j hj
    · rcases (show j = sz ∨ j < sz by omega) with z | z
      · rw [z, updN_s, updN_s]; exact bK
      · rw [k1 j z]; exact hfr j j1 z
    · obtain ⟨o1, o2⟩ := hso hm
      have eb := bH hm
      have k2 : updN c e b (updN g sz e sz) = K + 1 := by rw [updN_s, updN_s, eb]
      refine ⟨fun a a' aa ha => ?_, fun a ha => ?_⟩
      · rcases (show a' = sz ∨ a' < sz by omega) with z | z
        · subst z
          rw [k2]
          rcases (show a = a' ∨ a < a' by omega) with y | y
          · subst y; rw [k2]; omega
          · rw [k1 a y]; exact o2 a y
        · rw [k1 a (by omega), k1 a' z]; exact o1 a a' aa z
      · rcases (show a = sz ∨ a < sz by omega) with z | z
        · rw [z, k2]; omega
        · rw [k1 a z]; exact o2 a z
    · rcases (show a = sz ∨ a < sz by omega) with z | z
      · rw [z, updN_s, updN_s]; exact hsd
      · rw [k1 a z, k0 a z]; exact hsn a z
  · have ns : ∀ j, j ≤ i → g0 j ≠ e := fun j hj w => by
      have a1 := hk.1 j hj
      have a2 := (hpre j hj).2
      rw [w] at a1 a2
      omega
    refine ⟨⟨avR_5.trans h5, g1, g2, sz, _, _, q3, isz, fun j hj => ?_, fun j j1 j2 => ?_, fun hm => ?_, fun a ha => ?_⟩, hle, hup⟩
    · rw [updN_n (ns j hj)]; exact hpre j hj
    · by_cases w : g j = e
      · rw [w, updN_s]; exact bK
      · rw [updN_n w]; exact hfr j j1 j2
    · obtain ⟨a, a1, a2⟩ := q1
      have := (hso hm).2 a a1
      have := bH hm
      rw [a2] at *
      omega
    · by_cases w : g a = e
      · rw [w, updN_s]; exact hsd
      · rw [updN_n w]; exact hsn a ha
  · rw [q3] at hup ⊢; exact ⟨h, le85.rf, hup⟩
theorem si_stp {md : Bool} {P : Nat → Int32} {dy : Int32} {ba : Nat → Prop} {i K r n : Nat} {g0 c0 : Nat → Nat} {cg : sg_T} (hS : sy_ok (syP P dy)) (hk : kC md i K g0 c0) (hr : r < pn P 1) (n6 : n < 625) (hi : plN (tlF P (txX P r dy) (pn P (txX P r dy))) (Lm n) 4 = true) (n3 : pn P (txX P r dy) ≤ 3) (h : siC md (syP P dy) ba i K g0 c0 cg) :
    siC md (syP P dy) ba i K g0 c0 (stp P (txX P r dy) cg (Lm n)) ∧ le85 cg (stp P (txX P r dy) cg (Lm n)) ∧ (sy_i (syP P dy) r n = true → (∀ k, k < sy_k (syP P dy) r → ∃ j, j ≤ i ∧ g0 j = sy_t (syP P dy) r n k) → upB (stp P (txX P r dy) cg (Lm n)) (sy_e (syP P dy) r n) (byN md c0 (sy_t (syP P dy) r n) (sy_k (syP P dy) r))) := by
  obtain ⟨h5, hst, hcm, sz, g, c, hB, isz, hpre, hfr, hso, hsn⟩ := id h
  have hsi : sy_i (syP P dy) r n = true ↔ thN P (Lm n) (txX P r dy) (pn P (txX P r dy + 1)) = true := by
    show (plN (tlF P (txX P r dy) (pn P (txX P r dy))) (Lm n) 4 && thN P (Lm n) (txX P r dy) (pn P (txX P r dy + 1))) = true ↔ _
    rw [hi, Bool.true_and]
  by_cases hC : cdC cg P (txX P r dy) (Lm n)
  · have es : stp P (txX P r dy) cg (Lm n) = avR cg (sy_e (syP P dy) r n) (byI cg (sy_t (syP P dy) r n) (sy_k (syP P dy) r)) := by unfold stp; rw [iF_p hC]; rfl
    have hin := hsi.mpr hC.1
    obtain ⟨e7, t7⟩ := hS r n hr n6 hin
    have ht : ∀ k, k < sy_k (syP P dy) r → ∃ j, j ≤ i ∧ g0 j = sy_t (syP P dy) r n k := fun k hk => (stR_n hst (t7 k hk)).mp (hC.2 k hk)
    have hts : ∀ k, k < sy_k (syP P dy) r → inR g sz (sy_t (syP P dy) r n k) ∧ c (sy_t (syP P dy) r n k) = c0 (sy_t (syP P dy) r n k) := fun k hk => by
      obtain ⟨j, j1, j2⟩ := ht k hk
      exact ⟨⟨j, by omega, (hpre j j1).1.trans j2⟩, by rw [← j2]; exact (hpre j j1).2⟩
    obtain ⟨eb, -⟩ := byI_n (md := md) (c := c) (tm := sy_t (syP P dy) r n) (n := sy_k (syP P dy) r) h5 n3 (fun k hk => ⟨(rb_c hB (hts k hk).1).1, (rb_c hB (hts k hk).1).2.1⟩)
    rw [es, eb]
    have ec := byN_cg (md := md) (tm := sy_t (syP P dy) r n) (fun k hk => (hts k hk).2)
    rw [ec]
    have hsd : sndC md (syP P dy) ba (sy_e (syP P dy) r n) (byN md c0 (sy_t (syP P dy) r n) (sy_k (syP P dy) r)) := by
      rw [← ec]
      exact snd_by hS hr n6 hin (fun k hk => by
        obtain ⟨⟨a, a1, a2⟩, -⟩ := hts k hk
        rw [← a2]; exact hsn a a1)
    have b1 := by_H hk ht
    by_cases hA : ∃ k, k < sy_k (syP P dy) r ∧ sy_t (syP P dy) r n k = g0 i
    · obtain ⟨w1, w2, w3⟩ := by_K hk ht hA
      obtain ⟨u1, u2, u3⟩ := si_av hS hk e7 w1 w2 w3 hsd h
      exact ⟨u1, u2, fun _ _ => u3⟩
    · have up := hcm r n hr n6 hin (fun k hk' => by
        obtain ⟨j, j1, j2⟩ := ht k hk'
        rcases (show j = i ∨ j < i by omega) with z | z
        · exact absurd ⟨k, hk', by rw [← z]; exact j2.symm⟩ hA
        · exact ⟨j, z, j2⟩)
      obtain ⟨r1, r2⟩ := (rb_up hB e7 b1).mp up
      rcases av_rb hB e7 b1 with ⟨q1, q2, q3⟩ | ⟨q1, q2, q3⟩ | ⟨q1, q2, q3⟩
      · exact absurd r1 q1
      · omega
      · rw [q3]; exact ⟨h, le85.rf, fun _ _ => up⟩
  · have es : stp P (txX P r dy) cg (Lm n) = cg := by unfold stp; rw [iF_n hC]
    rw [es]
    refine ⟨h, le85.rf, fun w ht => absurd ⟨hsi.mp w, fun k hk => ?_⟩ hC⟩
    exact (stR_n hst ((hS r n hr n6 w).2 k hk)).mpr (ht k hk)
