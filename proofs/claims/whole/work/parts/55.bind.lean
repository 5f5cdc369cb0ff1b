/-! Reach: bind, useIn -/
def bnF (W : Nat → Int32) (a : Nat) (v : Int32) : Nat → Int32 := if W a = -1 then upd W a v else W
/-- a lettering agrees with what is bound -/
def agW (W : Nat → Int32) (n : Nat) : Prop := ∀ l, l < 4 → W (5 + l) = -1 ∨ W (5 + l) = nI (Lm n l)
theorem bnF_w {W : Nat → Int32} {c v : Nat} (hw : wvP W) (hc : c < 5 ∨ 10 ≤ c ∧ c < 14) (hv : v < 5) : wvP (bnF W (cdN c) (nI v)) := by
  unfold bnF
  by_cases h : W (cdN c) = -1
  · rw [if_pos h]
    have h5 : 5 ≤ cdN c := by
      rcases Nat.lt_or_ge (cdN c) 5 with q | q
      · rw [hw.1 _ q] at h; exact absurd h (nI_m1 (by omega))
      · exact q
    refine ⟨fun i hi => by rw [pk_un (by omega)]; exact hw.1 i hi, fun l hl => ?_⟩
    by_cases q : 5 + l = cdN c
    · rw [q, pk_us]; exact Or.inr ⟨v, hv, rfl⟩
    · rw [pk_un q]; exact hw.2 l hl
  · rw [if_neg h]; exact hw
theorem bnF_n {W : Nat → Int32} {c v n : Nat} (hw : wvP W) (hv : v < 2 ^ 31) (hc : c < 5 ∨ 10 ≤ c ∧ c < 14) (hn : agW W n) (e : cvN (Lm n) c = v) : agW (bnF W (cdN c) (nI v)) n ∧ bnF W (cdN c) (nI v) (cdN c) = nI v := by
  unfold bnF
  unfold cvN at e
  by_cases h10 : 10 ≤ c
  · rw [if_pos h10] at e
    have ec : cdN c = 5 + (c - 10) := by unfold cdN; rw [if_pos h10]; omega
    rcases hn (c - 10) (by omega) with z | z
    · rw [ec, if_pos z]
      refine ⟨fun l hl => ?_, pk_us⟩
      by_cases q : l = c - 10
      · rw [q, pk_us, e]; exact Or.inr rfl
      · rw [pk_un (by omega)]; exact hn l hl
    · have nz : ¬ W (5 + (c - 10)) = -1 := by
        intro w
        rcases hw.2 (c - 10) (by omega) with _ | ⟨v', v5, ev⟩
        · exact nI_m1 (m := Lm n (c - 10)) (by rw [e]; exact hv) (z.symm.trans w)
        · exact nI_m1 (by omega) (ev.symm.trans w)
      rw [ec, if_neg nz]
      exact ⟨hn, by rw [z, e]⟩
  · rw [if_neg h10] at e
    have ec : cdN c = c := by unfold cdN; rw [if_neg h10]
    have w0 := hw.1 c (by omega)
    rw [ec, if_neg (by rw [w0]; exact nI_m1 (by omega))]
    exact ⟨hn, by rw [w0, e]⟩
theorem c_bindArg {cg : sg_T} {fn : Nat → Option Nat} {cx : cx_T} (d : Nat) {a : Nat} {va v : Int32} (ha : va = nI a) (a9 : a < 9) : am_Met mi_X6_bindArg d 0 0 [.ref 84, .int va, .int v] (hc cg fn cx) (fun r' h' => r' = some (.int (bI (decide (bnF (cg 89) a v a = v)))) ∧ ∃ cg', h' = hc cg' fn cx ∧ (∀ b, b ≠ 89 → cg' b = cg b) ∧ cg' 89 = bnF (cg 89) a v) := by
  refine am_Met.of rfl (Nat.le_of_ble_eq_true rfl) ?_
  refine am_go ok_X6_bindArg [] 79 ?_
  refine ⟨_, _, rfl, rfl, ?_⟩
  refine ⟨_, _, a, rfl, ha, by omega, Nat.le_of_ble_eq_true rfl, ?_⟩
  refine ⟨fun c7 => ?_, fun c7 => ?_⟩
  · have eb : bnF (cg 89) a v = cg 89 := by unfold bnF; rw [if_neg c7]
    have cE : ∃ cg', hc cg fn cx = hc cg' fn cx ∧ (∀ b, b ≠ 89 → cg' b = cg b) ∧ cg' 89 = bnF (cg 89) a v := ⟨cg, rfl, fun _ _ => rfl, eb.symm⟩
    refine ⟨_, _, rfl, rfl, ?_⟩
    refine ⟨_, _, a, rfl, ha, by omega, Nat.le_of_ble_eq_true rfl, ?_⟩
    first
    | rw [show cg 89 a = bnF (cg 89) a v a by rw [eb]]
    | rw [show sg_u cg 89 a v 89 a = bnF (cg 89) a v a by rw [eb, sg_ii]]
    refine ⟨fun c24 => ?_, fun c24 => ?_⟩
    · have q : ¬ bnF (cg 89) a v a = v := c24
      refine ⟨rfl, ?_⟩
      first
      | rw [bI_dt q]; exact ⟨rfl, cE⟩
      | rw [bI_df q]; exact ⟨rfl, cE⟩
    · have q : bnF (cg 89) a v a = v := c24
      refine ⟨rfl, ?_⟩
      first
      | rw [bI_dt q]; exact ⟨rfl, cE⟩
      | rw [bI_df q]; exact ⟨rfl, cE⟩
  · have eb : bnF (cg 89) a v = upd (cg 89) a v := by unfold bnF; rw [if_pos c7]
    have cE : ∃ cg', hc (sg_u cg 89 a v) fn cx = hc cg' fn cx ∧ (∀ b, b ≠ 89 → cg' b = cg b) ∧ cg' 89 = bnF (cg 89) a v := ⟨sg_u cg 89 a v, rfl, fun b hb => sg_i hb, sg_ii.trans eb.symm⟩
    refine ⟨_, _, rfl, rfl, ?_⟩
    refine ⟨_, _, a, rfl, ha, by omega, Nat.le_of_ble_eq_true rfl, ?_⟩
    rw [hc_a89]
    refine ⟨_, _, rfl, rfl, ?_⟩
    refine ⟨_, _, a, rfl, ha, by omega, Nat.le_of_ble_eq_true rfl, ?_⟩
    first
    | rw [show cg 89 a = bnF (cg 89) a v a by rw [eb]]
    | rw [show sg_u cg 89 a v 89 a = bnF (cg 89) a v a by rw [eb, sg_ii]]
    refine ⟨fun c24 => ?_, fun c24 => ?_⟩
    · have q : ¬ bnF (cg 89) a v a = v := c24
      refine ⟨rfl, ?_⟩
      first
      | rw [bI_dt q]; exact ⟨rfl, cE⟩
      | rw [bI_df q]; exact ⟨rfl, cE⟩
    · have q : bnF (cg 89) a v a = v := c24
      refine ⟨rfl, ?_⟩
      first
      | rw [bI_dt q]; exact ⟨rfl, cE⟩
      | rw [bI_df q]; exact ⟨rfl, cE⟩
theorem c_bind_l {cg0 : sg_T} {d kc ks t : Nat} {vk vf : Int32} {fn : Nat → Option Nat} {cx : cx_T} {Qp : Option Value → am_H → Prop} (hg : dgV (cg0 89)) (K : ∀ (cg : sg_T) (z : Int32), (∀ b, b ≠ 89 → cg b = cg0 b) → dgV (cg 89) → (∀ l, l < 4 → cg 89 (5 + l) = -1) → am_W mi_X6_bind d Qp kc ks 41 [some (.ref 84), some (.ref (18 + 3 * t)), some (.int vk), some (.int vf), some (.int z)] [] (hc cg fn cx)) : ∀ (u l : Nat) (z : Int32) (cg : sg_T), z = nI (5 + l) → (∀ b, b ≠ 89 → cg b = cg0 b) → dgV (cg 89) → (∀ i, i < l → cg 89 (5 + i) = -1) → l ≤ 4 → 4 < l + u → am_W mi_X6_bind d Qp kc ks 20 [some (.ref 84), some (.ref (18 + 3 * t)), some (.int vk), some (.int vf), some (.int z)] [] (hc cg fn cx) := by
  intro u
  induction u with
  | zero => intro l z cg hz hF hd hA h1 h2; exact absurd h2 (by omega)
  | succ u ih =>
    intro l z cg hz hF hd hA h1 h2
    refine am_go ok_X6_bind [20, 41] 70 ?_
    refine ⟨fun c24 => ?_, fun c24 => ?_⟩
    · rw [hz] at c24
      have k1 : l = 4 := by have := (nI_leI (a := 9) (by omega) (by omega)).mp c24; omega
      subst k1
      exact K cg _ hF hd hA
    · have k1 : l < 4 := by
        rcases Nat.lt_or_ge l 4 with q | q
        · exact q
        · exact absurd (by rw [hz]; exact (nI_leI (a := 9) (by omega) (by omega)).mpr (by omega)) c24
      refine ⟨_, _, rfl, rfl, ?_⟩
      refine ⟨_, _, (5 + l), rfl, hz, by omega, Nat.le_of_ble_eq_true rfl, ?_⟩
      rw [hc_a89]
      exact ih (l + 1) _ _ (by rw [hz, nI_1]; rfl) (fun b hb => (sg_i hb).trans (hF b hb)) (fun i hi => (sg_j (by omega)).trans (hd i hi)) (fun i hi => by rcases (show i = l ∨ i < l by omega) with e | e; (subst e; exact sg_s); exact (sg_j (by omega)).trans (hA i e)) (by omega) (by omega)
theorem fa_dv {P : Nat → Int32} {y f n : Nat} (hT : okT P y) (n6 : n < 625) (h : faN P (Lm n) y = f) : pn P y = f / 125 ∧ cvN (Lm n) (pn P (y + 1)) = f / 25 % 5 ∧ cvN (Lm n) (pn P (y + 2)) = f / 5 % 5 ∧ cvN (Lm n) (pn P (y + 3)) = f % 5 := by
  have h1 := cvN_lt (okL_Lm n6) (okT_c hT (i := 1) (by omega) (by omega))
  have h2 := cvN_lt (okL_Lm n6) (okT_c hT (i := 2) (by omega) (by omega))
  have h3 := cvN_lt (okL_Lm n6) (okT_c hT (i := 3) (by omega) (by omega))
  unfold faN at h
  omega
theorem c_bind_0 {cg0 cg : sg_T} {P : Nat → Int32} {d kc ks y f : Nat} {fn : Nat → Option Nat} {cx : cx_T} {ls : am_L} (F : ∀ b, b ≠ 89 → cg b = cg0 b) (w : wvP (cg 89)) (hn : ∀ n, n < 625 → ¬ faN P (Lm n) y = f) : am_W mi_X6_bind d (fun r' h' => ∃ b cg', r' = some (.int (bI b)) ∧ h' = hc cg' fn cx ∧ (∀ b, b ≠ 89 → cg' b = cg0 b) ∧ wvP (cg' 89) ∧ (b = true → ∀ n, n < 625 → faN P (Lm n) y = f → agW (cg' 89) n) ∧ (b = false → ∀ n, n < 625 → ¬ faN P (Lm n) y = f)) kc ks 110 ls [] (hc cg fn cx) := by
  refine am_go ok_X6_bind [] 61 ?_
  refine ⟨rfl, ?_⟩
  exact ⟨false, cg, rfl, rfl, F, w, fun z => absurd z (by decide), fun _ => hn⟩
theorem c_bind_m {cg0 : sg_T} {cg : sg_T} {P : Nat → Int32} {d kc ks t k y f : Nat} {vk vf : Int32} {fn : Nat → Option Nat} {cx : cx_T} {z : Int32} (hd : 1 ≤ d) (t20 : t < 20) (hk : vk = nI k) (k3 : k ≤ 3) (hf : vf = nI f) (f7 : f < 750) (hS : slR (cg (19 + 3 * t)) k P y) (hT : okT P y) (F0 : ∀ b, b ≠ 89 → cg b = cg0 b) (g0 : dgV (cg 89)) (e0 : ∀ l, l < 4 → cg 89 (5 + l) = -1) : am_W mi_X6_bind d (fun r' h' => ∃ b cg', r' = some (.int (bI b)) ∧ h' = hc cg' fn cx ∧ (∀ b, b ≠ 89 → cg' b = cg0 b) ∧ wvP (cg' 89) ∧ (b = true → ∀ n, n < 625 → faN P (Lm n) y = f → agW (cg' 89) n) ∧ (b = false → ∀ n, n < 625 → ¬ faN P (Lm n) y = f)) kc ks 41 [some (.ref 84), some (.ref (18 + 3 * t)), some (.int vk), some (.int vf), some (.int z)] [] (hc cg fn cx) := by
  refine am_go ok_X6_bind [110] 108 ?_
  have k1 := okT_c hT (i := 1) (by omega) (by omega)
  have k2 := okT_c hT (i := 2) (by omega) (by omega)
  have k3' := okT_c hT (i := 3) (by omega) (by omega)
  have w0 : wvP (cg 89) := ⟨g0, fun l hl => Or.inl (e0 l hl)⟩
  have d1 : nI f / 25 = nI (f / 25) := pk_div (d := 25) (by omega) (by omega) (by omega)
  have d2 : nI f / 5 = nI (f / 5) := pk_div (d := 5) (by omega) (by omega) (by omega)
  have ev1 : vf / 25 - vf / 25 / 5 * 5 = nI (f / 25 % 5) := by rw [hf, d1, rm5 (by omega)]
  have ev2 : vf / 5 - vf / 5 / 5 * 5 = nI (f / 5 % 5) := by rw [hf, d2, rm5 (by omega)]
  have ev3 : vf - vf / 5 * 5 = nI (f % 5) := by rw [hf, rm5 (by omega)]
  have A0 : ∀ n, agW (cg 89) n := fun n l hl => Or.inl (e0 l hl)
  refine ⟨_, _, hc_nT t20, rfl, ?_⟩
  refine ⟨_, _, 4 * k + 1, hc_nP t20, (by rw [hk]; show nI 4 * nI k + nI 1 = _; rw [pk_mul, nI_add]), by omega, Nat.le_of_ble_eq_true rfl, ?_⟩
  rw [hS.2 1 (by omega) (by omega)]
  refine ⟨by decide, ?_⟩
  refine ⟨by decide, ?_⟩
  refine ⟨_, rfl, d - 1, 0, 0, _, by omega, Nat.le_of_ble_eq_true rfl, Nat.le_of_ble_eq_true rfl, Nat.le_of_ble_eq_true rfl, c_bindArg (a := cdN (pn P (y + 1))) (d - 1) rfl (cd_9 k1), ?_⟩
  rintro _ _ ⟨rfl, cg1, rfl, F1, E1⟩
  refine ⟨Or.inl rfl, ?_⟩
  rw [ev1] at E1 ⊢
  have w1 : wvP (cg1 89) := by rw [E1]; exact bnF_w w0 k1 (by omega)
  have A1 : ∀ n, n < 625 → faN P (Lm n) y = f → agW (cg1 89) n ∧ bnF (cg 89) (cdN (pn P (y + 1))) (nI (f / 25 % 5)) (cdN (pn P (y + 1))) = nI (f / 25 % 5) := fun n n6 hn => by rw [E1]; exact bnF_n w0 (by omega) k1 (A0 n) (fa_dv hT n6 hn).2.1
  have S1 : slR (cg1 (19 + 3 * t)) k P y := by rw [F1 _ (by omega)]; exact hS
  refine ⟨fun c61 => ?_, fun c61 => ?_⟩
  · have q := bI_f c61
    have RR : am_W mi_X6_bind d (fun r' h' => ∃ b cg', r' = some (.int (bI b)) ∧ h' = hc cg' fn cx ∧ (∀ b, b ≠ 89 → cg' b = cg0 b) ∧ wvP (cg' 89) ∧ (b = true → ∀ n, n < 625 → faN P (Lm n) y = f → agW (cg' 89) n) ∧ (b = false → ∀ n, n < 625 → ¬ faN P (Lm n) y = f)) kc ks 110 [some (.ref 84), some (.ref (18 + 3 * t)), some (.int vk), some (.int vf), some (.int z)] [] (hc cg1 fn cx) := c_bind_0 (fun b hb => (F1 b hb).trans (F0 b hb)) w1 (fun n n6 hn => q (A1 n n6 hn).2)
    exact RR
  · refine ⟨_, _, hc_nT t20, rfl, ?_⟩
    refine ⟨_, _, 4 * k + 2, hc_nP t20, (by rw [hk]; show nI 4 * nI k + nI 2 = _; rw [pk_mul, nI_add]), by omega, Nat.le_of_ble_eq_true rfl, ?_⟩
    rw [S1.2 2 (by omega) (by omega)]
    refine ⟨by decide, ?_⟩
    refine ⟨by decide, ?_⟩
    refine ⟨_, rfl, d - 1, 0, 0, _, by omega, Nat.le_of_ble_eq_true rfl, Nat.le_of_ble_eq_true rfl, Nat.le_of_ble_eq_true rfl, c_bindArg (a := cdN (pn P (y + 2))) (d - 1) rfl (cd_9 k2), ?_⟩
    rintro _ _ ⟨rfl, cg2, rfl, F2, E2⟩
    refine ⟨Or.inl rfl, ?_⟩
    rw [ev2] at E2 ⊢
    have w2 : wvP (cg2 89) := by rw [E2]; exact bnF_w w1 k2 (by omega)
    have A2 : ∀ n, n < 625 → faN P (Lm n) y = f → agW (cg2 89) n ∧ bnF (cg1 89) (cdN (pn P (y + 2))) (nI (f / 5 % 5)) (cdN (pn P (y + 2))) = nI (f / 5 % 5) := fun n n6 hn => by rw [E2]; exact bnF_n w1 (by omega) k2 (A1 n n6 hn).1 (fa_dv hT n6 hn).2.2.1
    have S2 : slR (cg2 (19 + 3 * t)) k P y := by rw [F2 _ (by omega)]; exact S1
    refine ⟨fun c83 => ?_, fun c83 => ?_⟩
    · have q := bI_f c83
      have RR : am_W mi_X6_bind d (fun r' h' => ∃ b cg', r' = some (.int (bI b)) ∧ h' = hc cg' fn cx ∧ (∀ b, b ≠ 89 → cg' b = cg0 b) ∧ wvP (cg' 89) ∧ (b = true → ∀ n, n < 625 → faN P (Lm n) y = f → agW (cg' 89) n) ∧ (b = false → ∀ n, n < 625 → ¬ faN P (Lm n) y = f)) kc ks 110 [some (.ref 84), some (.ref (18 + 3 * t)), some (.int vk), some (.int vf), some (.int z)] [] (hc cg2 fn cx) := c_bind_0 (fun b hb => (F2 b hb).trans ((F1 b hb).trans (F0 b hb))) w2 (fun n n6 hn => q (A2 n n6 hn).2)
      exact RR
    · refine ⟨_, _, hc_nT t20, rfl, ?_⟩
      refine ⟨_, _, 4 * k + 3, hc_nP t20, (by rw [hk]; show nI 4 * nI k + nI 3 = _; rw [pk_mul, nI_add]), by omega, Nat.le_of_ble_eq_true rfl, ?_⟩
      rw [S2.2 3 (by omega) (by omega)]
      refine ⟨by decide, ?_⟩
      refine ⟨_, rfl, d - 1, 0, 0, _, by omega, Nat.le_of_ble_eq_true rfl, Nat.le_of_ble_eq_true rfl, Nat.le_of_ble_eq_true rfl, c_bindArg (a := cdN (pn P (y + 3))) (d - 1) rfl (cd_9 k3'), ?_⟩
      rintro _ _ ⟨rfl, cg3, rfl, F3, E3⟩
      refine ⟨Or.inl rfl, ?_⟩
      rw [ev3] at E3 ⊢
      have w3 : wvP (cg3 89) := by rw [E3]; exact bnF_w w2 k3' (by omega)
      have A3 : ∀ n, n < 625 → faN P (Lm n) y = f → agW (cg3 89) n ∧ bnF (cg2 89) (cdN (pn P (y + 3))) (nI (f % 5)) (cdN (pn P (y + 3))) = nI (f % 5) := fun n n6 hn => by rw [E3]; exact bnF_n w2 (by omega) k3' (A2 n n6 hn).1 (fa_dv hT n6 hn).2.2.2
      have F4 : ∀ b, b ≠ 89 → cg3 b = cg0 b := fun b hb => (F3 b hb).trans ((F2 b hb).trans ((F1 b hb).trans (F0 b hb)))
      refine ⟨fun c103 => ?_, fun c103 => ?_⟩
      · have q := bI_f c103
        have RR : am_W mi_X6_bind d (fun r' h' => ∃ b cg', r' = some (.int (bI b)) ∧ h' = hc cg' fn cx ∧ (∀ b, b ≠ 89 → cg' b = cg0 b) ∧ wvP (cg' 89) ∧ (b = true → ∀ n, n < 625 → faN P (Lm n) y = f → agW (cg' 89) n) ∧ (b = false → ∀ n, n < 625 → ¬ faN P (Lm n) y = f)) kc ks 110 [some (.ref 84), some (.ref (18 + 3 * t)), some (.int vk), some (.int vf), some (.int z)] [] (hc cg3 fn cx) := c_bind_0 F4 w3 (fun n n6 hn => q (A3 n n6 hn).2)
        exact RR
      · refine ⟨rfl, ?_⟩
        exact ⟨true, cg3, rfl, rfl, F4, w3, fun _ n n6 hn => (A3 n n6 hn).1, fun w => absurd w (by decide)⟩
theorem c_bind {cg : sg_T} {P : Nat → Int32} {d t k y f : Nat} {vk vf : Int32} {fn : Nat → Option Nat} {cx : cx_T} (hd : 1 ≤ d) (t20 : t < 20) (hk : vk = nI k) (k3 : k ≤ 3) (hf : vf = nI f) (f7 : f < 750) (hS : slR (cg (19 + 3 * t)) k P y) (hT : okT P y) (hw0 : wvP (cg 89)) : am_Met mi_X6_bind d 0 0 [.ref 84, .ref (18 + 3 * t), .int vk, .int vf] (hc cg fn cx) (fun r' h' => ∃ b cg', r' = some (.int (bI b)) ∧ h' = hc cg' fn cx ∧ (∀ b, b ≠ 89 → cg' b = cg b) ∧ wvP (cg' 89) ∧ (b = true → ∀ n, n < 625 → faN P (Lm n) y = f → agW (cg' 89) n) ∧ (b = false → ∀ n, n < 625 → ¬ faN P (Lm n) y = f)) := by
  refine am_Met.of rfl (Nat.le_of_ble_eq_true rfl) ?_
  refine am_go ok_X6_bind [20] 72 ?_
  obtain ⟨sh, sh6, esh⟩ := hT.1
  have psh := pn_of esh (by omega)
  have d1 : nI f / 125 = nI (f / 125) := pk_div (d := 125) (by omega) (by omega) (by omega)
  refine ⟨_, _, hc_nT t20, rfl, ?_⟩
  refine ⟨_, _, 4 * k, hc_nP t20, (by rw [hk]; exact pk_mul 4 k), by omega, Nat.le_of_ble_eq_true rfl, ?_⟩
  rw [hS.1, esh]
  refine ⟨by decide, ?_⟩
  refine ⟨fun c12 => ?_, fun c12 => ?_⟩
  · exact c_bind_l hw0.1 (fun cg1 z1 F0 g0 e0 => c_bind_m (P := P) (y := y) hd t20 hk k3 hf f7 (by rw [F0 _ (by omega)]; exact hS) hT F0 g0 e0) 5 0 5 cg rfl (fun _ _ => rfl) hw0.1 (fun i hi => absurd hi (by omega)) (by omega) (by omega)
  · refine ⟨rfl, ?_⟩
    rw [hf, d1] at c12
    have c12' : ¬ sh = f / 125 := fun w => c12 (by rw [w])
    exact ⟨false, cg, rfl, rfl, fun _ _ => rfl, hw0, fun w => absurd w (by decide), fun _ n n6 hn => c12' (psh.symm.trans (fa_dv hT n6 hn).1)⟩
/-- what stays while Reach works: all but its size, its costs, its row and its letters -/
def frU (cg cg' : sg_T) : Prop := ∀ a, a ≠ 84 → a ≠ 85 → a ≠ 86 → a ≠ 89 → cg' a = cg a
theorem frU.rf {cg : sg_T} : frU cg cg := fun _ _ _ _ _ => rfl
theorem frU.tr {a b c : sg_T} (h : frU a b) (g : frU b c) : frU a c := fun i h1 h2 h3 h4 => (g i h1 h2 h3 h4).trans (h i h1 h2 h3 h4)
theorem frU.x {cg cg' : sg_T} {t x : Nat} {P : Nat → Int32} (h : frU cg cg') (t20 : t < 20) (hR : txR cg (18 + 3 * t) P x) : txR cg' (18 + 3 * t) P x := txR_fr hR (h _ (by omega) (by omega) (by omega) (by omega)) (h _ (by omega) (by omega) (by omega) (by omega)) (h _ (by omega) (by omega) (by omega) (by omega))
/-- all instances of the text at x in which the TERM k is f are tried -/
def uiO (P : Nat → Int32) (x : Nat) (J : sg_T → Prop) (D : Nat → sg_T → Prop) (Tk : Nat → Prop) (f : Nat) (cg cg' : sg_T) : Prop := J cg' ∧ frU cg cg' ∧ wvP (cg' 89) ∧ (∀ n, D n cg → D n cg') ∧ ∀ n k, n < 625 → plP P x n → Tk k → faN P (Lm n) (x + 2 + 4 * k) = f → D n cg'
theorem ag_ex {P : Nat → Int32} {x n : Nat} {W : Nat → Int32} (h : agW W n) : exP P x W n := fun l hl _ hn => (h l hl).elim (fun z => absurd z hn) id
theorem c_useIn_l {P : Nat → Int32} {x : Nat} {J : sg_T → Prop} {D : Nat → sg_T → Prop} (hH : cpH P x J D) (hX : okX P x) (hlt : ltP P x) {t : Nat} (t20 : t < 20) {fn : Nat → Option Nat} {cx : cx_T} {d kc ks f : Nat} {vf : Int32} {cg0 : sg_T} (hd : 12 ≤ d) (hf : vf = nI f) (f7 : f < 750) (hR0 : txR cg0 (18 + 3 * t) P x) : ∀ (u k : Nat) (z : Int32) (cg : sg_T), z = nI k → uiO P x J D (fun i => i < k) f cg0 cg → k ≤ pn P x → pn P x < k + u → am_W mi_X6_useIn d (fun r' h' => r' = none ∧ ∃ cg', h' = hc cg' fn cx ∧ uiO P x J D (fun k => k < pn P x) f cg0 cg') kc ks 2 [some (.ref 84), some (.ref (18 + 3 * t)), some (.int vf), some (.int z)] [] (hc cg fn cx) := by
  intro u
  induction u with
  | zero => intro k z cg hz hO h1 h2; exact absurd h2 (by omega)
  | succ u ih =>
    intro k z cg hz hO h1 h2
    refine am_go ok_X6_useIn [2] 76 ?_
    obtain ⟨J1, F1, w1, D1, E1⟩ := hO
    have hR := F1.x t20 hR0
    obtain ⟨nt, nt1, nt3, ent⟩ := id hX.1
    have pnt := pn_of ent (by omega)
    rw [pnt] at h1 h2
    refine ⟨_, _, hc_nT t20, rfl, ?_⟩
    rw [hR.1, ent]
    refine ⟨fun c7 => ?_, fun c7 => ?_⟩
    · rw [hz] at c7
      have k1 : k = pn P x := by rw [pnt]; have := (nI_leI (by omega) (by omega)).mp c7; omega
      subst k1
      exact ⟨rfl, cg, rfl, J1, F1, w1, D1, E1⟩
    · have k1 : k < nt := by
        rcases Nat.lt_or_ge k nt with q1 | q1
        · exact q1
        · exact absurd (by rw [hz]; exact (nI_leI (by omega) (by omega)).mpr q1) c7
      have ho : okT P (x + 2 + 4 * k) := hX.2.2.1 k (by omega)
      have ey : ySl x k = x + 2 + 4 * k := by unfold ySl; rw [if_neg (by omega)]
      have hsl := tx_sl (s := k) hR (Or.inl (by omega))
      rw [ey] at hsl
      refine ⟨_, rfl, d - 1, 0, 0, _, by omega, Nat.le_of_ble_eq_true rfl, Nat.le_of_ble_eq_true rfl, Nat.le_of_ble_eq_true rfl, c_bind (y := x + 2 + 4 * k) (f := f) (by omega) t20 hz (by omega) hf f7 hsl ho w1, ?_⟩
      rintro _ _ ⟨b, cg2, rfl, rfl, F2, w2, B1, B2⟩
      refine ⟨Or.inl rfl, ?_⟩
      have J2 := hH.2.1 _ _ F2 J1
      have F3 : frU cg0 cg2 := F1.tr (fun a _ _ _ a4 => F2 a a4)
      have D2 : ∀ n, D n cg → D n cg2 := fun n hn => hH.2.2.1 _ _ n F2 hn
      refine ⟨fun c17 => ?_, fun c17 => ?_⟩
      · have b0 : b = false := bI_0.mp c17
        first
        | exact ih (k + 1) _ cg3 (by rw [hz, nI_1]) ⟨J3, F3.tr F4, w3, fun n hn => D3 n (D2 n (D1 n hn)), fun n i n6 hp hi hfn => by
            rcases (show i = k ∨ i < k by omega) with e | e
            · subst e; exact E3 n n6 hp (ag_ex (B1 b0 n n6 hfn))
            · exact D3 n (D2 n (E1 n i n6 hp e hfn))⟩ (by omega) (by omega)
        | exact ih (k + 1) _ cg2 (by rw [hz, nI_1]) ⟨J2, F3, w2, fun n hn => D2 n (D1 n hn), fun n i n6 hp hi hfn => by
            rcases (show i = k ∨ i < k by omega) with e | e
            · subst e; exact absurd hfn (B2 b0 n n6)
            · exact D2 n (E1 n i n6 hp e hfn)⟩ (by omega) (by omega)
      · have b0 : b = true := by cases b; exact absurd rfl c17; rfl
        refine ⟨_, rfl, d - 1, 0, 0, _, by omega, Nat.le_of_ble_eq_true rfl, Nat.le_of_ble_eq_true rfl, Nat.le_of_ble_eq_true rfl, c_complete hH hX hlt t20 4 cg2 (d - 1) 0 5 (by omega) (by omega) (by omega) rfl (F3.x t20 hR0) w2 J2 (fun l hl => absurd hl (by omega)), ?_⟩
        rintro _ _ ⟨rfl, cg3, rfl, J3, F4, W4, D3, E3⟩
        refine ⟨Or.inl rfl, ?_⟩
        have w3 : wvP (cg3 89) := by rw [funext W4]; exact w2
        first
        | exact ih (k + 1) _ cg3 (by rw [hz, nI_1]) ⟨J3, F3.tr F4, w3, fun n hn => D3 n (D2 n (D1 n hn)), fun n i n6 hp hi hfn => by
            rcases (show i = k ∨ i < k by omega) with e | e
            · subst e; exact E3 n n6 hp (ag_ex (B1 b0 n n6 hfn))
            · exact D3 n (D2 n (E1 n i n6 hp e hfn))⟩ (by omega) (by omega)
        | exact ih (k + 1) _ cg2 (by rw [hz, nI_1]) ⟨J2, F3, w2, fun n hn => D2 n (D1 n hn), fun n i n6 hp hi hfn => by
            rcases (show i = k ∨ i < k by omega) with e | e
            · subst e; exact absurd hfn (B2 b0 n n6)
            · exact D2 n (E1 n i n6 hp e hfn)⟩ (by omega) (by omega)
theorem c_useIn {P : Nat → Int32} {x : Nat} {J : sg_T → Prop} {D : Nat → sg_T → Prop} (hH : cpH P x J D) (hX : okX P x) (hlt : ltP P x) {t : Nat} (t20 : t < 20) {fn : Nat → Option Nat} {cx : cx_T} {d f : Nat} {vf : Int32} {cg0 : sg_T} (hd : 12 ≤ d) (hf : vf = nI f) (f7 : f < 750) (hR0 : txR cg0 (18 + 3 * t) P x) (hw : wvP (cg0 89)) (hJ : J cg0) : am_Met mi_X6_useIn d 0 0 [.ref 84, .ref (18 + 3 * t), .int vf] (hc cg0 fn cx) (fun r' h' => r' = none ∧ ∃ cg', h' = hc cg' fn cx ∧ uiO P x J D (fun k => k < pn P x) f cg0 cg') := by
  refine am_Met.of rfl (Nat.le_of_ble_eq_true rfl) ?_
  refine am_go ok_X6_useIn [2] 62 ?_
  exact c_useIn_l hH hX hlt t20 hd hf f7 hR0 (pn P x + 1) 0 0 cg0 rfl ⟨hJ, frU.rf, hw, fun _ h => h, fun n k _ _ hk => absurd hk (by omega)⟩ (by omega) (by omega)
