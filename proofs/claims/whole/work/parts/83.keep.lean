/-! what always holds of P is kept: frames -/
theorem fr_okT {P P' : Nat → Int32} {y : Nat} (e : ∀ j, y ≤ j → j < y + 4 → P' j = P j) (k : okT P y) : okT P' y := by
  unfold okT at k ⊢
  rw [e y (by omega) (by omega), e (y + 1) (by omega) (by omega), e (y + 2) (by omega) (by omega), e (y + 3) (by omega) (by omega)]
  exact k
theorem fr_okX {P P' : Nat → Int32} {x : Nat} (e : ∀ j, x ≤ j → j < x + 30 → P' j = P j) (k : okX P x) : okX P' x := by
  have n3 := (okX_n k).1
  have n4 := (okX_n k).2
  obtain ⟨k1, k2, k3, k4, k5⟩ := k
  refine ⟨by rw [e x (by omega) (by omega)]; exact k1, by rw [e (x + 1) (by omega) (by omega)]; exact k2, fun i hi => ?_, fr_okT (fun j h1 h2 => e j (by omega) (by omega)) k4, fun i hi => ?_⟩
  · rw [pn_w (e x (by omega) (by omega))] at hi
    exact fr_okT (fun j h1 h2 => e j (by omega) (by omega)) (k3 i hi)
  · rw [pn_w (e (x + 1) (by omega) (by omega))] at hi
    rw [e (x + 14 + 3 * i) (by omega) (by omega), e (x + 16 + 3 * i) (by omega) (by omega)]
    exact k5 i hi
theorem fr_ltP {P P' : Nat → Int32} {x : Nat} (e : ∀ j, x ≤ j → j < x + 30 → P' j = P j) (k : okX P x) (h : ltP P x) : ltP P' x := by
  have n3 := (okX_n k).1
  have n4 := (okX_n k).2
  have ei : ∀ l, inT P' x l = inT P x l := fun l => by unfold inT; rw [pn_w (e x (by omega) (by omega)), tlF_w e _ n3]
  obtain ⟨h1, h2⟩ := h
  refine ⟨fun i i1 i2 => ?_, fun i hi => ?_⟩
  · rw [pn_w (e (x + 26 + i) (by omega) (by omega)), ei]; exact h1 i i1 i2
  · rw [pn_w (e (x + 1) (by omega) (by omega))] at hi
    rw [pn_w (e (x + 14 + 3 * i) (by omega) (by omega)), pn_w (e (x + 16 + 3 * i) (by omega) (by omega)), ei, ei]
    exact h2 i hi
/-- the rules' cells but the papers -/
def eR (P P' : Nat → Int32) : Prop := ∀ j, (j = 1 ∨ j = 2 ∨ j = 7 ∨ 10 ≤ j ∧ j < 18 ∨ 42 ≤ j ∧ j < 54 ∨ 1758 ≤ j ∧ j < 2358) → P' j = P j
theorem fr_wk {P P' : Nat → Int32} {R C n n' : Nat} (e : eR P P') (h : wkA P R C n) (h3 : P' 3 = nI n') (n20 : n' ≤ 20) (hp : ∀ k, k < n' → ∃ f, f < 750 ∧ P' (54 + k) = nI f) : wkA P' R C n' := by
  obtain ⟨w1, w2, w3, w4, w5, w6, w7, w8, w9, w10, w11⟩ := h
  refine ⟨by rw [e 1 (by omega)]; exact w1, w2, by rw [e 2 (by omega)]; exact w3, w4, fun r hr => ?_, fun c hc => ?_, h3, n20, hp, fun r hr => ?_, fun c hc => ?_⟩
  · rw [e (10 + r) (by omega)]; exact w5 r hr
  · rw [e (42 + c) (by omega)]; exact w6 c hc
  · rw [pn_w (e (10 + r) (by omega))]
    obtain ⟨t, t20, et⟩ := w5 r (by omega)
    have pt := pn_of et (by omega)
    exact fr_okX (fun j h1 h2 => e j (by omega)) (w10 r hr)
  · rw [pn_w (e (42 + c) (by omega))]
    obtain ⟨t, t20, et⟩ := w6 c hc
    have pt := pn_of et (by omega)
    exact fr_okX (fun j h1 h2 => e j (by omega)) (w11 c hc)
theorem fr_lt {P P' : Nat → Int32} {R C n : Nat} (e : eR P P') (hW : wkA P R C n) (h : ltA P R C) : ltA P' R C := by
  obtain ⟨w1, w2, w3, w4, w5, w6, w7, w8, w9, w10, w11⟩ := hW
  refine ⟨fun r hr => ?_, fun c hc => ?_⟩
  · rw [pn_w (e (10 + r) (by omega))]
    obtain ⟨t, t20, et⟩ := w5 r (by omega)
    have pt := pn_of et (by omega)
    exact fr_ltP (fun j h1 h2 => e j (by omega)) (w10 r hr) (h.1 r hr)
  · rw [pn_w (e (42 + c) (by omega))]
    obtain ⟨t, t20, et⟩ := w6 c hc
    have pt := pn_of et (by omega)
    exact fr_ltP (fun j h1 h2 => e j (by omega)) (w11 c hc) (h.2 c hc)
theorem fr_nu {P P' : Nat → Int32} {R C : Nat} (e : eR P P') (R8 : R ≤ 8) (C12 : C ≤ 12) (h : (∀ r, r < R → ∃ t, t < R + C ∧ P (10 + r) = nI t) ∧ ∀ c, c < C → ∃ t, t < R + C ∧ P (42 + c) = nI t) : (∀ r, r < R → ∃ t, t < R + C ∧ P' (10 + r) = nI t) ∧ ∀ c, c < C → ∃ t, t < R + C ∧ P' (42 + c) = nI t :=
  ⟨fun r hr => by rw [e (10 + r) (by omega)]; exact h.1 r hr, fun c hc => by rw [e (42 + c) (by omega)]; exact h.2 c hc⟩
theorem fr_pf {P P' : Nat → Int32} {R R' Q : Nat} (e : ∀ j, (j = 4 ∨ 114 ≤ j ∧ j < 1002) → P' j = P j) (rr : R ≤ R') (h : pfA P R Q) : pfA P' R' Q := by
  obtain ⟨k1, k2, k3⟩ := h
  refine ⟨by rw [e 4 (by omega)]; exact k1, k2, fun q hq => ?_⟩
  obtain ⟨a, st, b1, b2, b3⟩ := k3 q hq
  refine ⟨by rw [e (114 + q) (by omega)]; exact a, st, b1, by rw [e (126 + q) (by omega)]; exact b2, fun j hj => ?_⟩
  obtain ⟨⟨r, c1, c2⟩, c3, c4⟩ := b3 j hj
  refine ⟨⟨r, by omega, by rw [e (rwX q j) (by unfold rwX; omega)]; exact c2⟩, by rw [e (rwX q j + 1) (by unfold rwX; omega)]; exact c3, by rw [e (rwX q j + 2) (by unfold rwX; omega)]; exact c4⟩
theorem fr_tt {P P' : Nat → Int32} {Q Q' T : Nat} (e : ∀ j, (j = 5 ∨ 1002 ≤ j ∧ j < 1032) → P' j = P j) (qq : Q ≤ Q') (q12 : Q' ≤ 12) (h : ttA P Q T) : ttA P' Q' T := by
  obtain ⟨k1, k2, k3, k4⟩ := h
  refine ⟨by rw [e 5 (by omega)]; exact k1, k2, q12, fun t ht => ?_⟩
  obtain ⟨⟨q, a1, a2⟩, a3, a4⟩ := k4 t ht
  exact ⟨⟨q, by omega, by rw [e (1002 + t) (by omega)]; exact a2⟩, by rw [e (1012 + t) (by omega)]; exact a3, by rw [e (1022 + t) (by omega)]; exact a4⟩
theorem fr_fl {P P' : Nat → Int32} (e : ∀ j, 94 ≤ j → j < 114 → P' j = P j) (h : flA P) : flA P' := fun k hk => by rw [e _ (by omega) (by omega)]; exact h k hk
theorem fr_tc {P P' : Nat → Int32} {U : Nat} (e : ∀ j, (1032 ≤ j ∧ j < 1758) → P' j = P j) (U6 : U ≤ 6) (h : ∀ t, t < U → tcA P t) : ∀ t, t < U → tcA P' t := fun t ht => by
  obtain ⟨n, m, n1, en, m1, hg⟩ := h t ht
  refine ⟨n, m, n1, by rw [e _ (by omega)]; exact en, m1, ?_⟩
  have eb : bA P' t = bA P t := by
    funext i
    unfold bA
    rw [pn_w (e (1032 + t) (by omega)), pn_of en (by omega)]
    by_cases z : i < n
    · rw [if_pos z, if_pos z, e _ (by omega)]
    · rw [if_neg z, if_neg z]
  rw [eb]; exact hg
theorem fr_tb {P P' : Nat → Int32} (e : ∀ j, 2358 ≤ j → j < 2478 → P' j = P j) (h : tbO P) : tbO P' := fun i hi => by rw [e _ (by omega) (by omega)]; exact h i hi
theorem fr_t8 {P P' : Nat → Int32} (e : P' 8 = P 8) (h : tpO P) : tpO P' := by obtain ⟨n, a, b⟩ := h; exact ⟨n, a, e.trans b⟩
theorem pap_w {P P' : Nat → Int32} {R C n : Nat} (hW : wkA P R C n) (e : ∀ j, 54 ≤ j → j < 74 → P' j = P j) : ∀ k, k < n → ∃ f, f < 750 ∧ P' (54 + k) = nI f := fun k hk => by
  have := hW.2.2.2.2.2.2.2.1
  rw [e _ (by omega) (by omega)]; exact hW.2.2.2.2.2.2.2.2.1 k hk
/-- P is as it must be -/
def okE (P : Nat → Int32) : Prop := ∃ R C n Q T U, okP P R C n Q T U
theorem k_day {P P' : Nat → Int32} {R C n Q T U : Nat} (hO : okP P R C n Q T U) {w v : Int32} (h : sp_day P w v P') : okE P' := by
  rcases h with ⟨⟨a1, a2⟩, a3, -, e⟩ | ⟨-, -, e⟩
  · obtain ⟨y, y1, ey⟩ := hO.d
    obtain ⟨k, ek, -, k99⟩ := ix_c (v := w) (m := 99) (by omega) ⟨Int32.le_trans (by decide) a1, a2⟩
    have es : P 0 + w = nI (y + k) := by rw [ey, ek]; exact nI_add y k
    have y9 : y + k ≤ 999 := by rw [es] at a3; exact (nI_leI (b := 999) (by omega) (by omega)).mp a3
    have EP : ∀ j, ¬ j = 0 → P' j = P j := fun j hj => by rw [e, pk_un hj]
    exact ⟨R, C, n, Q, T, U, ⟨fr_wk (fun j hj => EP j (by omega)) hO.W ((EP 3 (by omega)).trans hO.n3.1) hO.n3.2 (pap_w hO.W (fun j h1 h2 => EP j (by omega))), fr_lt (fun j hj => EP j (by omega)) hO.W hO.l, (EP 7 (by omega)).trans hO.h7, fr_t8 (EP 8 (by omega)) hO.t, fr_tb (fun j h1 h2 => EP j (by omega)) hO.b, fr_pf (fun j hj => EP j (by omega)) (Nat.le_refl _) hO.A, fr_tt (fun j hj => EP j (by omega)) (Nat.le_refl _) hO.q4.2 hO.tt, fr_fl (fun j h1 h2 => EP j (by omega)) hO.f, ⟨(EP 6 (by omega)).trans hO.u.1, hO.u.2.1, fr_tc (fun j hj => EP j (by omega)) hO.u.2.1 hO.u.2.2⟩, fun j hj => (EP j (by omega)).trans (hO.z j hj), ⟨y + k, by omega, by rw [e, pk_us]; exact es⟩, fun j hj => by rw [EP j (by omega)]; exact hO.o j hj, fr_nu (fun j hj => EP j (by omega)) hO.r1.2 hO.c2.2 hO.nu⟩⟩
  · rw [e]; exact ⟨_, _, _, _, _, _, hO⟩
theorem k_paper {P P' : Nat → Int32} {R C n Q T U : Nat} (hO : okP P R C n Q T U) {f pr v : Int32} (h : sp_paper P f pr v P') : okE P' := by
  rcases h with ⟨-, -, e⟩ | ⟨-, -, -, e⟩ | ⟨-, -, -, -, e⟩ | ⟨a1, a2, a3, -, e⟩
  · rw [e]; exact ⟨_, _, _, _, _, _, hO⟩
  · rw [e]; exact ⟨_, _, _, _, _, _, hO⟩
  · rw [e]; exact ⟨_, _, _, _, _, _, hO⟩
  · have n20 := hO.n3.2
    have pN : pn P 3 = n := pn_of hO.n3.1 (by omega)
    have nl : n < 20 := by
      rcases Nat.lt_or_ge n 20 with z | z
      · exact z
      · exact absurd (by rw [hO.n3.1, show n = 20 by omega]; rfl) a3
    rw [pN] at e
    obtain ⟨k, ek, -, k7⟩ := ix_c (v := f) (m := 749) (by omega) a2
    have EP : ∀ j, ¬ (j = 3 ∨ j = 54 + n ∨ j = 74 + n ∨ j = 94 + n) → P' j = P j := fun j hj => by rw [e, pk_un (by omega), pk_un (by omega), pk_un (by omega), pk_un (by omega)]
    exact ⟨R, C, n + 1, Q, T, U, ⟨fr_wk (fun j hj => EP j (by omega)) hO.W (by rw [e, pk_us]) (by omega) (fun k' hk => by
      by_cases z : k' = n
      · exact ⟨k, by omega, by rw [e, z, pk_un (by omega), pk_un (by omega), pk_un (by omega), pk_us]; exact ek⟩
      · rw [EP _ (by omega)]; exact hO.W.2.2.2.2.2.2.2.2.1 k' (by omega)), fr_lt (fun j hj => EP j (by omega)) hO.W hO.l, (EP 7 (by omega)).trans hO.h7, fr_t8 (EP 8 (by omega)) hO.t, fr_tb (fun j h1 h2 => EP j (by omega)) hO.b, fr_pf (fun j hj => EP j (by omega)) (Nat.le_refl _) hO.A, fr_tt (fun j hj => EP j (by omega)) (Nat.le_refl _) hO.q4.2 hO.tt, fun k' hk => by
      by_cases z : k' = n
      · left; rw [e, z, pk_un (by omega), pk_us]
      · rw [EP _ (by omega)]; exact hO.f k' hk, ⟨(EP 6 (by omega)).trans hO.u.1, hO.u.2.1, fr_tc (fun j hj => EP j (by omega)) hO.u.2.1 hO.u.2.2⟩, fun j hj => (EP j (by omega)).trans (hO.z j hj), by rw [EP 0 (by omega)]; exact hO.d, fun j hj => by rw [EP j (by omega)]; exact hO.o j hj, fr_nu (fun j hj => EP j (by omega)) hO.r1.2 hO.c2.2 hO.nu⟩⟩
theorem k_shown {P P' : Nat → Int32} {R C n Q T U : Nat} (hO : okP P R C n Q T U) {k : Int32} {b : Bool} (e : P' = sp_shownP P k (bI b)) : okE P' := by
  unfold sp_shownP at e
  by_cases z : inI k 0 (P 3 - 1)
  · rw [if_pos z] at e
    have n20 := hO.n3.2
    obtain ⟨j, ej, cj, jn⟩ := ix_at hO.n3.1 (by omega) z
    rw [cj] at e
    have EP : ∀ i, ¬ i = 94 + j → P' i = P i := fun i hi => by rw [e, pk_un hi]
    exact ⟨R, C, n, Q, T, U, ⟨fr_wk (fun j hj => EP j (by omega)) hO.W ((EP 3 (by omega)).trans hO.n3.1) hO.n3.2 (pap_w hO.W (fun j h1 h2 => EP j (by omega))), fr_lt (fun j hj => EP j (by omega)) hO.W hO.l, (EP 7 (by omega)).trans hO.h7, fr_t8 (EP 8 (by omega)) hO.t, fr_tb (fun j h1 h2 => EP j (by omega)) hO.b, fr_pf (fun j hj => EP j (by omega)) (Nat.le_refl _) hO.A, fr_tt (fun j hj => EP j (by omega)) (Nat.le_refl _) hO.q4.2 hO.tt, fun k' hk => by
      by_cases y : k' = j
      · rw [e, y, pk_us]
        by_cases q : bI b = 0
        · left; rw [if_pos q]
        · right; rw [if_neg q]
      · rw [EP _ (by omega)]; exact hO.f k' hk, ⟨(EP 6 (by omega)).trans hO.u.1, hO.u.2.1, fr_tc (fun j hj => EP j (by omega)) hO.u.2.1 hO.u.2.2⟩, fun j hj => (EP j (by omega)).trans (hO.z j hj), by rw [EP 0 (by omega)]; exact hO.d, fun j hj => by rw [EP j (by omega)]; exact hO.o j hj, fr_nu (fun j hj => EP j (by omega)) hO.r1.2 hO.c2.2 hO.nu⟩⟩
  · rw [if_neg z] at e; rw [e]; exact ⟨_, _, _, _, _, _, hO⟩
theorem k_proof {P P' : Nat → Int32} {R C n Q T U : Nat} (hO : okP P R C n Q T U) {k v : Int32} (h : sp_proof P k v P') : okE P' := by
  rcases h with ⟨-, -, e⟩ | ⟨-, -, -, e⟩ | ⟨a1, a2, -, e⟩
  · rw [e]; exact ⟨_, _, _, _, _, _, hO⟩
  · rw [e]; exact ⟨_, _, _, _, _, _, hO⟩
  · have Q12 := hO.q4.2
    have pQ : pn P 4 = Q := pn_of hO.q4.1 (by omega)
    have ql : Q < 12 := by
      rcases Nat.lt_or_ge Q 12 with z | z
      · exact z
      · exact absurd (by rw [hO.q4.1, show Q = 12 by omega]; rfl) a2
    rw [pQ] at e
    obtain ⟨kk, ek, -, k4⟩ := ix_c (v := k) (m := 4) (by omega) a1
    have EP : ∀ j, ¬ (j = 4 ∨ j = 114 + Q ∨ j = 126 + Q) → P' j = P j := fun j hj => by rw [e, pk_un (by omega), pk_un (by omega), pk_un (by omega)]
    exact ⟨R, C, n, Q + 1, T, U, ⟨fr_wk (fun j hj => EP j (by omega)) hO.W ((EP 3 (by omega)).trans hO.n3.1) hO.n3.2 (pap_w hO.W (fun j h1 h2 => EP j (by omega))), fr_lt (fun j hj => EP j (by omega)) hO.W hO.l, (EP 7 (by omega)).trans hO.h7, fr_t8 (EP 8 (by omega)) hO.t, fr_tb (fun j h1 h2 => EP j (by omega)) hO.b, ⟨by rw [e, pk_us], by omega, fun q hq => by
      by_cases z : q = Q
      · exact ⟨⟨kk, by omega, by rw [e, z, pk_un (by omega), pk_un (by omega), pk_us]; exact ek⟩, 0, by omega, by rw [e, z, pk_un (by omega), pk_us]; rfl, fun j hj => absurd hj (by omega)⟩
      · obtain ⟨a, st, b1, b2, b3⟩ := hO.A.2.2 q (by omega)
        refine ⟨by rw [EP _ (by omega)]; exact a, st, b1, by rw [EP _ (by omega)]; exact b2, fun j hj => ?_⟩
        have := b3 j hj
        unfold okR rwX at this ⊢
        rw [EP (138 + 72 * q + 6 * j) (by omega), EP (138 + 72 * q + 6 * j + 1) (by omega), EP (138 + 72 * q + 6 * j + 2) (by omega)]
        exact this⟩, fr_tt (fun j hj => EP j (by omega)) (by omega) (by omega) hO.tt, fr_fl (fun j h1 h2 => EP j (by omega)) hO.f, ⟨(EP 6 (by omega)).trans hO.u.1, hO.u.2.1, fr_tc (fun j hj => EP j (by omega)) hO.u.2.1 hO.u.2.2⟩, fun j hj => (EP j (by omega)).trans (hO.z j hj), by rw [EP 0 (by omega)]; exact hO.d, fun j hj => by rw [EP j (by omega)]; exact hO.o j hj, fr_nu (fun j hj => EP j (by omega)) hO.r1.2 hO.c2.2 hO.nu⟩⟩
theorem k_run {P P' : Nat → Int32} {R C n Q T U : Nat} (hO : okP P R C n Q T U) {t m w v : Int32} (h : sp_run P t m w v P') : okE P' := by
  rcases h with ⟨-, -, e⟩ | ⟨-, -, -, e⟩ | ⟨-, -, e, -⟩
  · rw [e]; exact ⟨_, _, _, _, _, _, hO⟩
  · rw [e]; exact ⟨_, _, _, _, _, _, hO⟩
  · have EP : ∀ j, ¬ (j = 9 ∨ 2478 ≤ j ∧ j < 3228) → P' j = P j := fun j hj => by rw [e]; unfold rnP; rw [if_neg (by omega), pk_un (by omega)]
    exact ⟨R, C, n, Q, T, U, ⟨fr_wk (fun j hj => EP j (by omega)) hO.W ((EP 3 (by omega)).trans hO.n3.1) hO.n3.2 (pap_w hO.W (fun j h1 h2 => EP j (by omega))), fr_lt (fun j hj => EP j (by omega)) hO.W hO.l, (EP 7 (by omega)).trans hO.h7, fr_t8 (EP 8 (by omega)) hO.t, fr_tb (fun j h1 h2 => EP j (by omega)) hO.b, fr_pf (fun j hj => EP j (by omega)) (Nat.le_refl _) hO.A, fr_tt (fun j hj => EP j (by omega)) (Nat.le_refl _) hO.q4.2 hO.tt, fr_fl (fun j h1 h2 => EP j (by omega)) hO.f, ⟨(EP 6 (by omega)).trans hO.u.1, hO.u.2.1, fr_tc (fun j hj => EP j (by omega)) hO.u.2.1 hO.u.2.2⟩, fun j hj => (EP j (by omega)).trans (hO.z j hj), by rw [EP 0 (by omega)]; exact hO.d, fun j hj => by
      rw [e]; unfold rnP
      by_cases z : 2478 ≤ j ∧ j < 3228
      · rw [if_pos z]
        cases (rnE P (cN t) (cN m)).1 (j - 2478)
        · left; rfl
        · right; rfl
      · rw [if_neg z, show j = 9 by omega, pk_us]; right; rfl, fr_nu (fun j hj => EP j (by omega)) hO.r1.2 hO.c2.2 hO.nu⟩⟩
