/-! .. and by feed, step, fill, title, tactic -/
theorem fdB_w (w : Int64) (z : Int32) : ∃ k, k < 256 ∧ fdB w z = nI k := by
  unfold fdB
  generalize w >>> ((8 * z).toInt64 &&& 63) = x
  have e : (x &&& 255).toInt32 = (x &&& 255).toInt32 &&& 255 := by
    refine bq_ext (fun i hi => ?_)
    rw [bq_and, bq_64 hi, Int64.toBitVec_and, BitVec.getLsbD_and]
    have h2 : ∀ i, i < 32 → (Int64.toBitVec 255).getLsbD i = bq 255 i := by decide
    rw [h2 i hi]
    cases bq 255 i <;> simp
  refine ⟨((x &&& 255).toInt32 &&& 255).toBitVec.toNat, ?_, ?_⟩
  · rw [Int32.toBitVec_and, BitVec.toNat_and]
    exact Nat.lt_of_le_of_lt Nat.and_le_right (by decide)
  · rw [← e]
    apply Int32.toBitVec.inj
    show _ = (Int32.ofNat _).toBitVec
    rw [Int32.toBitVec_ofNat', BitVec.ofNat_toNat, BitVec.setWidth_eq]
theorem fd_tb {P : Nat → Int32} {w : Int64} {n t : Nat} (h : tbO P) : ∀ i, t + i ≤ 120 → tbO (fdF P w n t i)
  | 0, _ => h
  | i + 1, hi => fun j hj => by
    rw [fdF, pk_un (by omega)]
    by_cases z : j = t + i
    · rw [z, pk_us]; exact fdB_w _ _
    · rw [pk_un (by omega)]; exact fd_tb h i (by omega) j hj
theorem k_feed {P P' : Nat → Int32} {R C n Q T U : Nat} (hO : okP P R C n Q T U) {w : Int64} {c v : Int32} (h : sp_feed P w c v P') : okE P' := by
  rcases h with ⟨-, -, e⟩ | ⟨m, t, m1, m8, -, et, t1, h⟩
  · rw [e]; exact ⟨_, _, _, _, _, _, hO⟩
  · rcases h with ⟨-, -, e⟩ | ⟨a1, -, e⟩
    · rw [e]; exact ⟨_, _, _, _, _, _, hO⟩
    · have EP : ∀ j, ¬ (j = 8 ∨ 2358 ≤ j ∧ j < 2478) → P' j = P j := fun j hj => by rw [e]; exact fd_o (by omega) (by omega)
      exact ⟨R, C, n, Q, T, U, ⟨fr_wk (fun j hj => EP j (by omega)) hO.W ((EP 3 (by omega)).trans hO.n3.1) hO.n3.2 (pap_w hO.W (fun j h1 h2 => EP j (by omega))), fr_lt (fun j hj => EP j (by omega)) hO.W hO.l, (EP 7 (by omega)).trans hO.h7, ⟨t + m, a1, by rw [e]; exact fdF_8 et m⟩, by rw [e]; exact fd_tb hO.b m a1, fr_pf (fun j hj => EP j (by omega)) (Nat.le_refl _) hO.A, fr_tt (fun j hj => EP j (by omega)) (Nat.le_refl _) hO.q4.2 hO.tt, fr_fl (fun j h1 h2 => EP j (by omega)) hO.f, ⟨(EP 6 (by omega)).trans hO.u.1, hO.u.2.1, fr_tc (fun j hj => EP j (by omega)) hO.u.2.1 hO.u.2.2⟩, fun j hj => (EP j (by omega)).trans (hO.z j hj), by rw [EP 0 (by omega)]; exact hO.d, fun j hj => by rw [EP j (by omega)]; exact hO.o j hj, fr_nu (fun j hj => EP j (by omega)) hO.r1.2 hO.c2.2 hO.nu⟩⟩
theorem k_step {P P' : Nat → Int32} {R C n Q T U : Nat} (hO : okP P R C n Q T U) {q r a t x y z v : Int32} (h : sp_stepX P q r a t x y z v P') : okE P' := by
  obtain ⟨b, -, -, e⟩ := h
  unfold sp_stepP at e
  by_cases c : (inI q 0 (P 4 - 1) ∧ inI r 0 (P 1 - 1)) ∧ (inI a 0 624 ∧ inI t 1 3) ∧ b = false ∧ ¬ P (126 + cN q) = 12
  · rw [if_pos c] at e
    obtain ⟨⟨c1, c2⟩, ⟨c3, c4⟩, -, c5⟩ := c
    have Q12 := hO.q4.2
    have R8 := hO.r1.2
    obtain ⟨j, ej, cj, jQ⟩ := ix_at hO.q4.1 (by omega) c1
    obtain ⟨rr, er, -, rR⟩ := ix_at hO.r1.1 (by omega) c2
    obtain ⟨aa, ea, -, a6⟩ := ix_c (m := 624) (by omega) c3
    obtain ⟨tt, et, -, t3⟩ := ix_c (v := t) (m := 3) (by omega) ⟨Int32.le_trans (by decide) c4.1, c4.2⟩
    have t1 : 1 ≤ tt := by have := c4.1; rw [et] at this; exact (nI_leI (a := 1) (by omega) (by omega)).mp this
    obtain ⟨q12, -, st, s12, es, ps, hRw⟩ := pf_q hO.A jQ
    rw [cj] at e c5
    rw [ps] at e
    have sl : st < 12 := by
      rcases Nat.lt_or_ge st 12 with y | y
      · exact y
      · exact absurd (by rw [es, show st = 12 by omega]; rfl) c5
    unfold stU rwX at e
    have EP : ∀ i, ¬ (i = 126 + j ∨ 138 + 72 * j + 6 * st ≤ i ∧ i < 138 + 72 * j + 6 * st + 6) → P' i = P i := fun i hi => by rw [e, pk_un (by omega), pk_un (by omega), pk_un (by omega), pk_un (by omega), pk_un (by omega), pk_un (by omega), pk_un (by omega)]
    exact ⟨R, C, n, Q, T, U, ⟨fr_wk (fun j hj => EP j (by omega)) hO.W ((EP 3 (by omega)).trans hO.n3.1) hO.n3.2 (pap_w hO.W (fun j h1 h2 => EP j (by omega))), fr_lt (fun j hj => EP j (by omega)) hO.W hO.l, (EP 7 (by omega)).trans hO.h7, fr_t8 (EP 8 (by omega)) hO.t, fr_tb (fun j h1 h2 => EP j (by omega)) hO.b, ⟨(EP 4 (by omega)).trans hO.A.1, Q12, fun q' hq => by
      obtain ⟨b0, s', b1, b2, b3⟩ := hO.A.2.2 q' hq
      have old : ∀ i, i < s' → okR P' R (rwX q' i) := fun i hi => by
        have hne : ¬ (q' = j ∧ i = st) := fun y => by
          rw [y.1] at b2
          have := (nI_eq (by omega) (by omega)).mp (b2.symm.trans es)
          omega
        have := b3 i hi
        unfold okR rwX at this ⊢
        rw [EP (138 + 72 * q' + 6 * i) (by omega), EP (138 + 72 * q' + 6 * i + 1) (by omega), EP (138 + 72 * q' + 6 * i + 2) (by omega)]
        exact this
      refine ⟨by rw [EP _ (by omega)]; exact b0, ?_⟩
      by_cases y : q' = j
      · rw [y] at b2 old
        have e2 := (nI_eq (by omega) (by omega)).mp (b2.symm.trans es)
        refine ⟨st + 1, by omega, by rw [e, y, pk_us], fun i hi => ?_⟩
        by_cases w : i = st
        · rw [y, w]
          unfold okR rwX
          refine ⟨⟨rr, rR, ?_⟩, ⟨aa, by omega, ?_⟩, tt, t1, t3, ?_⟩
          · rw [e, pk_un (by omega), pk_un (by omega), pk_un (by omega), pk_un (by omega), pk_un (by omega), pk_un (by omega), pk_us]; exact er
          · rw [e, pk_un (by omega), pk_un (by omega), pk_un (by omega), pk_un (by omega), pk_un (by omega), pk_us]; exact ea
          · rw [e, pk_un (by omega), pk_un (by omega), pk_un (by omega), pk_un (by omega), pk_us]; exact et
        · rw [y]; exact old i (by omega)
      · exact ⟨s', b1, by rw [EP _ (by omega)]; exact b2, old⟩⟩, fr_tt (fun j hj => EP j (by omega)) (Nat.le_refl _) hO.q4.2 hO.tt, fr_fl (fun j h1 h2 => EP j (by omega)) hO.f, ⟨(EP 6 (by omega)).trans hO.u.1, hO.u.2.1, fr_tc (fun j hj => EP j (by omega)) hO.u.2.1 hO.u.2.2⟩, fun j hj => (EP j (by omega)).trans (hO.z j hj), by rw [EP 0 (by omega)]; exact hO.d, fun j hj => by rw [EP j (by omega)]; exact hO.o j hj, fr_nu (fun j hj => EP j (by omega)) hO.r1.2 hO.c2.2 hO.nu⟩⟩
  · rw [if_neg c] at e; rw [e]; exact ⟨_, _, _, _, _, _, hO⟩
theorem k_fill {P P' : Nat → Int32} {R C n Q T U : Nat} (hO : okP P R C n Q T U) {q fr v : Int32} (h : sp_fill P q fr v P') : okE P' := by
  rcases h with ⟨-, -, e⟩ | ⟨c1, ⟨-, -, e⟩ | ⟨s, k, -, hh, hf⟩⟩
  · rw [e]; exact ⟨_, _, _, _, _, _, hO⟩
  · rw [e]; exact ⟨_, _, _, _, _, _, hO⟩
  · rcases hf with ⟨-, -, e⟩ | ⟨-, e, -⟩
    · rw [e]; exact ⟨_, _, _, _, _, _, hO⟩
    · have Q12 := hO.q4.2
      obtain ⟨j, ej, cj, jQ⟩ := ix_at hO.q4.1 (by omega) c1
      obtain ⟨q12, -, st, s12, es, ps, hRw⟩ := pf_q hO.A jQ
      rw [cj] at e hh
      obtain ⟨h1, h2, -, -⟩ := hh
      rw [ps] at h1
      obtain ⟨-, -, tt, t1, t3, et⟩ := hRw s h1
      rw [pn_of et (by omega)] at h2
      unfold rwX at e
      have EP : ∀ i, ¬ (i = 138 + 72 * j + 6 * s + 3 + k) → P' i = P i := fun i hi => by rw [e, pk_un hi]
      exact ⟨R, C, n, Q, T, U, ⟨fr_wk (fun j hj => EP j (by omega)) hO.W ((EP 3 (by omega)).trans hO.n3.1) hO.n3.2 (pap_w hO.W (fun j h1 h2 => EP j (by omega))), fr_lt (fun j hj => EP j (by omega)) hO.W hO.l, (EP 7 (by omega)).trans hO.h7, fr_t8 (EP 8 (by omega)) hO.t, fr_tb (fun j h1 h2 => EP j (by omega)) hO.b, ⟨(EP 4 (by omega)).trans hO.A.1, Q12, fun q' hq => by
        obtain ⟨b0, s', b1, b2, b3⟩ := hO.A.2.2 q' hq
        refine ⟨by rw [EP _ (by omega)]; exact b0, s', b1, by rw [EP _ (by omega)]; exact b2, fun i hi => ?_⟩
        have := b3 i hi
        unfold okR rwX at this ⊢
        rw [EP (138 + 72 * q' + 6 * i) (by omega), EP (138 + 72 * q' + 6 * i + 1) (by omega), EP (138 + 72 * q' + 6 * i + 2) (by omega)]
        exact this⟩, fr_tt (fun j hj => EP j (by omega)) (Nat.le_refl _) hO.q4.2 hO.tt, fr_fl (fun j h1 h2 => EP j (by omega)) hO.f, ⟨(EP 6 (by omega)).trans hO.u.1, hO.u.2.1, fr_tc (fun j hj => EP j (by omega)) hO.u.2.1 hO.u.2.2⟩, fun j hj => (EP j (by omega)).trans (hO.z j hj), by rw [EP 0 (by omega)]; exact hO.d, fun j hj => by rw [EP j (by omega)]; exact hO.o j hj, fr_nu (fun j hj => EP j (by omega)) hO.r1.2 hO.c2.2 hO.nu⟩⟩
theorem k_title {P P' : Nat → Int32} {R C n Q T U : Nat} (hO : okP P R C n Q T U) {q : Int32} (e : P' = sp_titleP P q) : okE P' := by
  unfold sp_titleP at e
  by_cases c : inI q 0 (P 4 - 1) ∧ tkB P (lkV P (trP P) (P 0)) (cN q) = true ∧ tiB P (tiF P (cN q)) = true ∧ ¬ P 5 = 10
  · rw [if_pos c] at e
    obtain ⟨c1, c2, -, c4⟩ := c
    have Q12 := hO.q4.2
    have T10 := hO.t5.2
    have pT : pn P 5 = T := pn_of hO.t5.1 (by omega)
    have tl : T < 10 := by
      rcases Nat.lt_or_ge T 10 with y | y
      · exact y
      · exact absurd (by rw [hO.t5.1, show T = 10 by omega]; rfl) c4
    obtain ⟨j, ej, cj, jQ⟩ := ix_at hO.q4.1 (by omega) c1
    obtain ⟨q12, -, st, s12, es, ps, hRw⟩ := pf_q hO.A jQ
    rw [cj] at e c2
    rw [pT] at e
    have s0 : st ≠ 0 := fun y => by rw [tkB_0 (by rw [ps, y])] at c2; exact absurd c2 (by decide)
    have hf : tiF P j < 750 := by
      unfold tiF
      rw [ps]
      exact sy_lt hO.W (hRw (st - 1) (by omega))
    obtain ⟨y, y1, ey⟩ := hO.d
    have EP : ∀ i, ¬ (i = 5 ∨ i = 1002 + T ∨ i = 1012 + T ∨ i = 1022 + T) → P' i = P i := fun i hi => by rw [e, pk_un (by omega), pk_un (by omega), pk_un (by omega), pk_un (by omega)]
    exact ⟨R, C, n, Q, T + 1, U, ⟨fr_wk (fun j hj => EP j (by omega)) hO.W ((EP 3 (by omega)).trans hO.n3.1) hO.n3.2 (pap_w hO.W (fun j h1 h2 => EP j (by omega))), fr_lt (fun j hj => EP j (by omega)) hO.W hO.l, (EP 7 (by omega)).trans hO.h7, fr_t8 (EP 8 (by omega)) hO.t, fr_tb (fun j h1 h2 => EP j (by omega)) hO.b, fr_pf (fun j hj => EP j (by omega)) (Nat.le_refl _) hO.A, ⟨by rw [e, pk_us], by omega, Q12, fun t ht => by
      by_cases z : t = T
      · exact ⟨⟨j, jQ, by rw [e, z, pk_un (by omega), pk_un (by omega), pk_un (by omega), pk_us]; exact ej⟩, ⟨y, y1, by rw [e, z, pk_un (by omega), pk_un (by omega), pk_us]; exact ey⟩, tiF P j, hf, by rw [e, z, pk_un (by omega), pk_us]⟩
      · obtain ⟨a1, a2, a3⟩ := hO.tt.2.2.2 t (by omega)
        rw [EP (1002 + t) (by omega), EP (1012 + t) (by omega), EP (1022 + t) (by omega)]
        exact ⟨a1, a2, a3⟩⟩, fr_fl (fun j h1 h2 => EP j (by omega)) hO.f, ⟨(EP 6 (by omega)).trans hO.u.1, hO.u.2.1, fr_tc (fun j hj => EP j (by omega)) hO.u.2.1 hO.u.2.2⟩, fun j hj => (EP j (by omega)).trans (hO.z j hj), by rw [EP 0 (by omega)]; exact hO.d, fun j hj => by rw [EP j (by omega)]; exact hO.o j hj, fr_nu (fun j hj => EP j (by omega)) hO.r1.2 hO.c2.2 hO.nu⟩⟩
  · rw [if_neg c] at e; rw [e]; exact ⟨_, _, _, _, _, _, hO⟩
theorem k_tape {P P' : Nat → Int32} {R C n Q T U : Nat} (hO : okP P R C n Q T U) (EP : ∀ j, ¬ j = 8 → P' j = P j) (e : P' 8 = 0) : okE P' := ⟨R, C, n, Q, T, U, ⟨fr_wk (fun j hj => EP j (by omega)) hO.W ((EP 3 (by omega)).trans hO.n3.1) hO.n3.2 (pap_w hO.W (fun j h1 h2 => EP j (by omega))), fr_lt (fun j hj => EP j (by omega)) hO.W hO.l, (EP 7 (by omega)).trans hO.h7, ⟨0, by omega, e⟩, fr_tb (fun j h1 h2 => EP j (by omega)) hO.b, fr_pf (fun j hj => EP j (by omega)) (Nat.le_refl _) hO.A, fr_tt (fun j hj => EP j (by omega)) (Nat.le_refl _) hO.q4.2 hO.tt, fr_fl (fun j h1 h2 => EP j (by omega)) hO.f, ⟨(EP 6 (by omega)).trans hO.u.1, hO.u.2.1, fr_tc (fun j hj => EP j (by omega)) hO.u.2.1 hO.u.2.2⟩, fun j hj => (EP j (by omega)).trans (hO.z j hj), by rw [EP 0 (by omega)]; exact hO.d, fun j hj => by rw [EP j (by omega)]; exact hO.o j hj, fr_nu (fun j hj => EP j (by omega)) hO.r1.2 hO.c2.2 hO.nu⟩⟩
theorem k_tactic {P P' : Nat → Int32} {R C n Q T U : Nat} (hO : okP P R C n Q T U) {v : Int32} (h : sp_tactic P v P') : okE P' := by
  rcases h with ⟨-, -, e⟩ | ⟨n6, b, oo, m, hg, -, ⟨-, -, e⟩ | ⟨⟨g1, g2, g3⟩, -, e⟩⟩
  · rw [e]; exact ⟨_, _, _, _, _, _, hO⟩
  · exact k_tape hO (fun j hj => by rw [e, pk_un hj]) (by rw [e, pk_us])
  · have U6 := hO.u.2.1
    have pU : pn P 6 = U := pn_of hO.u.1 (by omega)
    obtain ⟨t, t1, et⟩ := hO.t
    have p8 : pn P 8 = t := pn_of et (by omega)
    have ul : U < 6 := by
      rcases Nat.lt_or_ge U 6 with y | y
      · exact y
      · exact absurd (by rw [hO.u.1, show U = 6 by omega]; rfl) n6
    have hN : tcN P = upd (upd (tcP P t) (1032 + U) (nI t)) 6 (nI (U + 1)) := by unfold tcN; rw [p8, pU, et, hO.u.1, nI_1]
    rw [hN] at e
    have EP : ∀ j, ¬ (j = 6 ∨ j = 8 ∨ j = 1032 + U ∨ 1038 + 120 * U ≤ j ∧ j < 1038 + 120 * U + t) → P' j = P j := fun j hj => by rw [e, pk_un (by omega), pk_un (by omega), tcP_o (by rw [pU]; omega) (by omega)]
    have e8 : P' 8 = 0 := by rw [e, pk_un (by omega), pk_un (by omega)]; unfold tcP; rw [if_neg (by omega), pk_us]
    exact ⟨R, C, n, Q, T, U + 1, ⟨fr_wk (fun j hj => EP j (by omega)) hO.W ((EP 3 (by omega)).trans hO.n3.1) hO.n3.2 (pap_w hO.W (fun j h1 h2 => EP j (by omega))), fr_lt (fun j hj => EP j (by omega)) hO.W hO.l, (EP 7 (by omega)).trans hO.h7, ⟨0, by omega, e8⟩, fr_tb (fun j h1 h2 => EP j (by omega)) hO.b, fr_pf (fun j hj => EP j (by omega)) (Nat.le_refl _) hO.A, fr_tt (fun j hj => EP j (by omega)) (Nat.le_refl _) hO.q4.2 hO.tt, fr_fl (fun j h1 h2 => EP j (by omega)) hO.f, ⟨by rw [e, pk_us], by omega, fun k hk => by
      by_cases z : k = U
      · rw [z]
        have eU : P' (1032 + U) = nI t := by rw [e, pk_un (by omega), pk_us]
        refine ⟨t, m, t1, eU, g2, ?_⟩
        have eb : bA P' U = hr P := by
          funext i
          unfold bA hr
          rw [pn_of eU (by omega), p8]
          by_cases y : i < t
          · rw [if_pos y, if_pos y, e, pk_un (by omega), pk_un (by omega)]
            unfold tcP
            rw [pU, if_pos ⟨by omega, by omega⟩]
            congr 1; omega
          · rw [if_neg y, if_neg y]
        rw [eb, ← g3, ← p8, ← g1]; exact hg
      · obtain ⟨n', m', n1, en, m1, hg'⟩ := hO.u.2.2 k (by omega)
        have en' : P' (1032 + k) = nI n' := by rw [EP _ (by omega)]; exact en
        refine ⟨n', m', n1, en', m1, ?_⟩
        have eb : bA P' k = bA P k := by
          funext i
          unfold bA
          rw [pn_of en' (by omega), pn_of en (by omega)]
          by_cases y : i < n'
          · rw [if_pos y, if_pos y, EP _ (by omega)]
          · rw [if_neg y, if_neg y]
        rw [eb]; exact hg'⟩, fun j hj => (EP j (by omega)).trans (hO.z j hj), by rw [EP 0 (by omega)]; exact hO.d, fun j hj => by rw [EP j (by omega)]; exact hO.o j hj, fr_nu (fun j hj => EP j (by omega)) hO.r1.2 hO.c2.2 hO.nu⟩⟩
