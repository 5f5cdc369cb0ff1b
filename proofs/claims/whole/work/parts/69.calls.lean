/-! the class's calls, on: holes, kinds, titles, what follows -/
theorem hoS_m {P : Nat → Int32} {q : Nat} : ∀ {a b : Nat}, a ≤ b → hoS P q a ≤ hoS P q b
  | a, 0, h => by rw [show a = 0 by omega]; exact Nat.le_refl _
  | a, b + 1, h => by
    rcases (show a = b + 1 ∨ a ≤ b by omega) with z | z
    · rw [z]; exact Nat.le_refl _
    · have := hoS_m (P := P) (q := q) z; rw [hoS]; omega
theorem ho_u {P : Nat → Int32} {q st s k s' k' : Nat} {i : Int32} (hb : hoS P q st < 2 ^ 31) (h : hoP P q st i s k) (h' : hoP P q st i s' k') : s = s' ∧ k = k' := by
  have key : ∀ {s k s' k' : Nat}, hoP P q st i s k → hoP P q st i s' k' → s < s' ∨ (s = s' ∧ k < k') → False := by
    intro s k s' k' h h' hl
    obtain ⟨a1, a2, a3, a4⟩ := h
    obtain ⟨b1, b2, b3, b4⟩ := h'
    have u1 : hoK P (rwX q s) (k + 1) = hoK P (rwX q s) k + 1 := by rw [hoK, if_pos a3]
    have u2 := ho_m (P := P) (x := rwX q s) (show k + 1 ≤ pn P (rwX q s + 2) by omega)
    have u3 : hoS P q (s + 1) = hoS P q s + hoK P (rwX q s) (pn P (rwX q s + 2)) := rfl
    have u4 := hoS_m (P := P) (q := q) (show s + 1 ≤ st by omega)
    have v2 := ho_m (P := P) (x := rwX q s') (show k' ≤ pn P (rwX q s' + 2) by omega)
    have v3 : hoS P q (s' + 1) = hoS P q s' + hoK P (rwX q s') (pn P (rwX q s' + 2)) := rfl
    have v4 := hoS_m (P := P) (q := q) (show s' + 1 ≤ st by omega)
    have e := (nI_eq (by omega) (by omega)).mp (a4.symm.trans b4)
    rcases hl with z | ⟨z, y⟩
    · have := hoS_m (P := P) (q := q) (show s + 1 ≤ s' by omega); omega
    · subst z
      have := ho_m (P := P) (x := rwX q s) (show k + 1 ≤ k' by omega); omega
  rcases Nat.lt_trichotomy s s' with z | z | z
  · exact absurd (Or.inl z) (fun w => key h h' w)
  · rcases Nat.lt_trichotomy k k' with y | y | y
    · exact absurd (Or.inr ⟨z, y⟩) (fun w => key h h' w)
    · exact ⟨z, y⟩
    · exact absurd (Or.inr ⟨z.symm, y⟩) (fun w => key h' h w)
  · exact absurd (Or.inl z) (fun w => key h' h w)
theorem ho_n {P : Nat → Int32} {q st s k : Nat} {i : Int32} (hb : hoS P q st < 2 ^ 31) (h : hoP P q st i s k) : ¬ i < 0 := by
  obtain ⟨a1, a2, a3, a4⟩ := h
  have v2 := ho_m (P := P) (x := rwX q s) (show k ≤ pn P (rwX q s + 2) by omega)
  have v3 : hoS P q (s + 1) = hoS P q s + hoK P (rwX q s) (pn P (rwX q s + 2)) := rfl
  have v4 := hoS_m (P := P) (q := q) (show s + 1 ≤ st by omega)
  rw [a4]; exact nI_pos (by omega)
theorem c_hole {cg : sg_T} {fn : Nat → Option Nat} {cx : cx_T} {P : Nat → Int32} {R C n Q T U d : Nat} (hd : 460 ≤ d) (hC : clR cg P) (hO : okP P R C n Q T U) (q i : Int32) : am_Met mi_X11_hole d 0 0 [.ref 0, .int q, .int i] (hc cg fn cx) (cX cx (fun v P' => sp_hole P q i v ∧ P' = P)) := by
  refine am_Met.of rfl (Nat.le_of_ble_eq_true rfl) ?_
  refine am_go ok_X11_hole [] 82 ?_
  have fin : ∀ rv, (∀ v, sp_hole P q i v → v = rv) → cX cx (fun v P' => sp_hole P q i v ∧ P' = P) (some (.int rv)) (hc cg fn cx) := fun rv h => ⟨rv, cg, fn, cx, rfl, rfl, rfl, fun v P' hv => ⟨h v hv.1, by rw [hv.2]; exact hC⟩⟩
  refine ⟨_, _, rfl, rfl, ?_⟩
  refine ⟨_, rfl, d - 1, 0, 0, _, by omega, Nat.le_of_ble_eq_true rfl, Nat.le_of_ble_eq_true rfl, Nat.le_of_ble_eq_true rfl, c_has (w := 4) (n := Q) (d - 1) q rfl (by omega) ((hC.1.c 4 (by omega)).trans hO.q4.1) (by have := hO.q4.2; omega), ?_⟩
  rintro _ _ ⟨rfl, rfl⟩
  refine ⟨Or.inl rfl, ?_⟩
  refine ⟨fun c9 => ?_, fun c9 => ?_⟩
  · have qa : ¬ inI q 0 (P 4 - 1) := (fun z => bI_f c9 (by rw [← hO.q4.1]; exact z))
    have ev : ∀ v, sp_hole P q i v → v = -1 := fun v hv => hv.elim (fun z => z.2) (fun z => absurd z.1 qa)
    refine ⟨trivial, ?_⟩
    exact fin _ ev
  · have qb := (show inI q 0 (P 4 - 1) by rw [hO.q4.1]; exact bI_t c9)
    have Q12 := hO.q4.2
    obtain ⟨j, ej, cj, jQ⟩ := ix_at hO.q4.1 (by omega) qb
    have hoL : hoS P j (pn P (126 + j)) < 2 ^ 31 := by
      obtain ⟨-, -, st, s12, est, pst, hr⟩ := pf_at hO.A jQ
      have := hoS_le (P := P) (q := j) (s := st) (fun i hi => by obtain ⟨-, t, -, t3, -, pt⟩ := hr i hi; omega)
      rw [pst]; omega
    refine ⟨fun c14 => ?_, fun c14 => ?_⟩
    · refine ⟨fun c21 => ?_, fun c21 => ?_⟩
      · have i0 : ¬ i < 0 := fun w => by
          have := Int32.lt_iff_toInt_lt.mp w
          have h2 := Int32.le_iff_toInt_le.mp c14
          have : i.toInt = -1 := by
            have e1 : (-1 : Int32).toInt = -1 := by decide
            have e0 : (0 : Int32).toInt = 0 := by decide
            omega
          exact c21 (Int32.toInt_inj.mp (by rw [this]; decide))
        refine ⟨_, _, rfl, rfl, ?_⟩
        refine ⟨_, rfl, d - 1, 0, 0, _, by omega, Nat.le_of_ble_eq_true rfl, Nat.le_of_ble_eq_true rfl, Nat.le_of_ble_eq_true rfl, c_placeOfHole hC.1 (d := d - 1) (by omega) hO.A jQ ej i0, ?_⟩
        rintro _ _ ⟨v0, rfl, hv0, rfl⟩
        refine ⟨Or.inl rfl, ?_⟩
        have e0 : (0 ≤ v0 → ∀ v, sp_hole P q i v → v = v0) ∧ (¬ 0 ≤ v0 → ∀ v, sp_hole P q i v → v = -1) := by
          have main : ∀ v, sp_hole P q i v → (v = v0 ∧ (0 ≤ v0 ∨ v0 = -1)) := fun v hv => by
            rcases hv with z | ⟨-, z⟩
            · exact absurd qb z.1
            · rw [cj] at z
              rcases z with ⟨w, y⟩ | ⟨w, y⟩
              · have p0 := hv0.elim (fun x => x.2) (fun x => absurd w x.1)
                rcases y with ⟨s, k, hp, ev⟩ | ⟨hn, ev⟩
                · rcases p0 with ⟨s', k', hp', ev'⟩ | ⟨hn', -⟩
                  · obtain ⟨es, ek⟩ := ho_u hoL hp hp'
                    refine ⟨by rw [ev, ev', es, ek], Or.inl ?_⟩
                    rw [ev']
                    obtain ⟨-, -, st, s12, est, pst, hr⟩ := pf_at hO.A jQ
                    obtain ⟨-, t, -, t3, -, pt⟩ := hr s' (by have := hp'.1; omega)
                    exact nI_ge0 _ (by have := hp'.1; have := hp'.2.1; omega)
                  · exact absurd hp (hn' s k)
                · rcases p0 with ⟨s', k', hp', -⟩ | ⟨-, ev'⟩
                  · exact absurd hp' (hn s' k')
                  · rw [if_neg c21] at ev; exact ⟨by rw [ev, ev'], Or.inr ev'⟩
              · have p0 := hv0.elim (fun x => absurd x.1 w) (fun x => x.2)
                rw [if_neg c21] at y
                exact ⟨by rw [y, p0], Or.inr p0⟩
          exact ⟨fun _ v hv => (main v hv).1, fun h v hv => (main v hv).1.trans ((main v hv).2.resolve_left h)⟩
        refine ⟨fun c44 => ?_, fun c44 => ?_⟩
        · have e9 := e0.1 c44
          refine ⟨trivial, ?_⟩
          exact fin _ e9
        · have e9 := e0.2 c44
          refine ⟨trivial, ?_⟩
          exact fin _ e9
      · refine ⟨_, _, rfl, rfl, ?_⟩
        refine ⟨_, rfl, d - 1, 0, 0, _, by omega, Nat.le_of_ble_eq_true rfl, Nat.le_of_ble_eq_true rfl, Nat.le_of_ble_eq_true rfl, c_holesOf hC.1 (d := d - 1) (by omega) hO.A jQ ej, ?_⟩
        rintro _ _ ⟨rfl, rfl⟩
        refine ⟨Or.inl rfl, ?_⟩
        refine ⟨trivial, ?_⟩
        refine fin _ (fun v hv => ?_)
        rcases hv with z | ⟨-, z⟩
        · exact absurd qb z.1
        · rw [cj] at z
          rcases z with ⟨w, y⟩ | ⟨w, y⟩
          · rw [if_pos w]
            rcases y with ⟨s, k, hp, -⟩ | ⟨-, y⟩
            · exact absurd (by rw [c21]; decide) (ho_n hoL hp)
            · rw [if_pos c21] at y; exact y
          · rw [if_neg w]; rw [if_pos c21] at y; exact y
    · have ev : ∀ v, sp_hole P q i v → v = -1 := fun v hv => by
        rcases hv with z | ⟨-, z⟩
        · exact z.2
        · have ni : ¬ i = -1 := fun y => c14 (by rw [y]; exact Int32.le_refl _)
          have i0 : i < 0 := Int32.lt_of_lt_of_le (i_nle c14) (by decide)
          rw [cj] at z
          rcases z with ⟨-, y⟩ | ⟨-, y⟩
          · rcases y with ⟨s, k, hp, -⟩ | ⟨-, y⟩
            · exact absurd i0 (ho_n hoL hp)
            · rw [if_neg ni] at y; exact y
          · rw [if_neg ni] at y; exact y
      refine ⟨trivial, ?_⟩
      exact fin _ ev
def asF : Nat → Int32 → Int32 → Bool
  | 0, x, k => decide (x = k)
  | u + 1, x, k => if x = k then true else asF u (if x < 0 then x else am_abv (cN x)) k
theorem as_5 : ∀ a, a < 5 → ∀ b, b < 5 → asF 5 (nI a) (nI b) = decide (nI b = 0 ∨ nI b = nI a ∨ nI b = 1 ∧ nI a = 4) := by decide +kernel
theorem ab_5 : ∀ j, j < 5 → am_abv j = -1 ∨ ∃ i, i < 5 ∧ am_abv j = nI i := by decide
theorem as_t {u : Nat} {x k : Int32} (h : x = k) : asF u x k = true := by
  cases u with
  | zero => exact decide_eq_true h
  | succ u => rw [asF, if_pos h]
theorem as_e {u : Nat} {x k : Int32} (h : u = 0 ∨ x = k) : asF u x k = decide (x = k) := by
  rcases h with z | z
  · rw [z]; rfl
  · rw [as_t z, decide_eq_true z]
theorem c_as_l {cg : sg_T} {fn : Nat → Option Nat} {cx : cx_T} {P : Nat → Int32} {R C n Q T U d kc ks j : Nat} (hd : 460 ≤ d) (hC : clR cg P) (hO : okP P R C n Q T U) {q k : Int32} (ej : q = nI j) (j12 : j < 12) {w : Int32} : ∀ (u p : Nat) (x z : Int32), z = nI p → (x = -1 ∨ ∃ i, i < 5 ∧ x = nI i) → w = (if asF (5 - p) x k = true then P (126 + j) else -6) → p ≤ 5 → 5 < p + u → am_W mi_X11_as d (cS cx w P) kc ks 34 [some (.ref 0), some (.int q), some (.int k), some (.int x), some (.int z)] [] (hc cg fn cx) := by
  intro u
  induction u with
  | zero => intro p x z hz hx hw h1 h2; exact absurd h2 (by omega)
  | succ u ih =>
    intro p x z hz hx hw h1 h2
    refine am_go ok_X11_as [34] 75 ?_
    refine ⟨fun c37 => ?_, fun c37 => ?_⟩
    · have k1 : p = 5 := by rw [hz] at c37; have := (nI_leI (a := 5) (by omega) (by omega)).mp c37; omega
      subst k1
      refine ⟨fun c67 => ?_, fun c67 => ?_⟩
      · have ev : w = -6 := by rw [hw, if_neg (by rw [as_e (by first | exact Or.inl (by omega) | exact Or.inr c42), decide_eq_false c67]; decide)]
        refine ⟨trivial, ?_⟩
        exact ⟨cg, fn, cx, by rw [ev], rfl, rfl, hC⟩
      · have ev : w = P (126 + j) := by rw [hw, if_pos (as_t c67)]
        refine ⟨_, _, rfl, rfl, ?_⟩
        refine ⟨_, _, rfl, rfl, ?_⟩
        refine ⟨_, _, j, rfl, ej, by omega, Nat.le_of_ble_eq_true rfl, ?_⟩
        rw [hC.1.s j (by omega)]
        refine ⟨trivial, ?_⟩
        exact ⟨cg, fn, cx, by rw [ev], rfl, rfl, hC⟩
    · have k1 : p < 5 := by
        rcases Nat.lt_or_ge p 5 with q1 | q1
        · exact q1
        · exact absurd (by rw [hz]; exact (nI_leI (a := 5) (by omega) (by omega)).mpr q1) c37
      refine ⟨fun c42 => ?_, fun c42 => ?_⟩
      · skip
        refine ⟨fun c67 => ?_, fun c67 => ?_⟩
        · have ev : w = -6 := by rw [hw, if_neg (by rw [as_e (by first | exact Or.inl (by omega) | exact Or.inr c42), decide_eq_false c67]; decide)]
          refine ⟨trivial, ?_⟩
          exact ⟨cg, fn, cx, by rw [ev], rfl, rfl, hC⟩
        · have ev : w = P (126 + j) := by rw [hw, if_pos (as_t c67)]
          refine ⟨_, _, rfl, rfl, ?_⟩
          refine ⟨_, _, rfl, rfl, ?_⟩
          refine ⟨_, _, j, rfl, ej, by omega, Nat.le_of_ble_eq_true rfl, ?_⟩
          rw [hC.1.s j (by omega)]
          refine ⟨trivial, ?_⟩
          exact ⟨cg, fn, cx, by rw [ev], rfl, rfl, hC⟩
      · refine ⟨fun c46 => ?_, fun c46 => ?_⟩
        · obtain ⟨i, i5, ei⟩ := hx.resolve_left (fun y => by rw [y] at c46; exact absurd c46 (by decide))
          refine ⟨rfl, i, ei, by omega, ?_⟩
          first
          | exact ih (p + 1) _ _ (by rw [hz, nI_1]) (ab_5 i i5) (by rw [hw, show 5 - p = (5 - (p + 1)) + 1 by omega, asF, if_neg c42, if_neg (i_len c46), cN_of ei (by omega)]) (by omega) (by omega)
          | exact ih (p + 1) _ _ (by rw [hz, nI_1]) hx (by rw [hw, show 5 - p = (5 - (p + 1)) + 1 by omega, asF, if_neg c42, if_pos (i_nle c46)]) (by omega) (by omega)
        · first
          | exact ih (p + 1) _ _ (by rw [hz, nI_1]) (ab_5 i i5) (by rw [hw, show 5 - p = (5 - (p + 1)) + 1 by omega, asF, if_neg c42, if_neg (i_len c46), cN_of ei (by omega)]) (by omega) (by omega)
          | exact ih (p + 1) _ _ (by rw [hz, nI_1]) hx (by rw [hw, show 5 - p = (5 - (p + 1)) + 1 by omega, asF, if_neg c42, if_pos (i_nle c46)]) (by omega) (by omega)
theorem c_as {cg : sg_T} {fn : Nat → Option Nat} {cx : cx_T} {P : Nat → Int32} {R C n Q T U d : Nat} (hd : 460 ≤ d) (hC : clR cg P) (hO : okP P R C n Q T U) (q k : Int32) : am_Met mi_X11_as d 0 0 [.ref 0, .int q, .int k] (hc cg fn cx) (cS cx (sp_as P q k) P) := by
  refine am_Met.of rfl (Nat.le_of_ble_eq_true rfl) ?_
  refine am_go ok_X11_as [34] 77 ?_
  refine ⟨_, _, rfl, rfl, ?_⟩
  refine ⟨_, rfl, d - 1, 0, 0, _, by omega, Nat.le_of_ble_eq_true rfl, Nat.le_of_ble_eq_true rfl, Nat.le_of_ble_eq_true rfl, c_has (w := 4) (n := Q) (d - 1) q rfl (by omega) ((hC.1.c 4 (by omega)).trans hO.q4.1) (by have := hO.q4.2; omega), ?_⟩
  rintro _ _ ⟨rfl, rfl⟩
  refine ⟨Or.inl rfl, ?_⟩
  refine ⟨fun c9 => ?_, fun c9 => ?_⟩
  · have qa : ¬ (inI q 0 (P 4 - 1) ∧ inI k 0 4) := fun z => (fun z => bI_f c9 (by rw [← hO.q4.1]; exact z)) z.1
    refine ⟨trivial, ?_⟩
    exact ⟨cg, fn, cx, by unfold sp_as; rw [if_pos qa], rfl, rfl, hC⟩
  · have q1 := (show inI q 0 (P 4 - 1) by rw [hO.q4.1]; exact bI_t c9)
    refine ⟨d - 1, 0, 0, _, by omega, Nat.le_of_ble_eq_true rfl, Nat.le_of_ble_eq_true rfl, Nat.le_of_ble_eq_true rfl, c_isKind (d - 1) k, ?_⟩
    rintro _ _ ⟨rfl, rfl⟩
    refine ⟨Or.inl rfl, ?_⟩
    refine ⟨fun c16 => ?_, fun c16 => ?_⟩
    · have qb : inI q 0 (P 4 - 1) ∧ inI k 0 4 := ⟨q1, bI_t c16⟩
      have Q12 := hO.q4.2
      obtain ⟨j, ej, cj, jQ⟩ := ix_at hO.q4.1 (by omega) q1
      obtain ⟨j12, ⟨kk, k5, ek, -⟩, -⟩ := pf_at hO.A jQ
      obtain ⟨b, eb, -, bl⟩ := ix_c (m := 4) (by omega) qb.2
      refine ⟨_, _, rfl, rfl, ?_⟩
      refine ⟨_, _, rfl, rfl, ?_⟩
      refine ⟨_, _, j, rfl, ej, by omega, Nat.le_of_ble_eq_true rfl, ?_⟩
      rw [hC.1.k j (by omega), ek]
      refine c_as_l hd hC hO ej (by omega) 6 0 _ 0 rfl (Or.inr ⟨kk, k5, rfl⟩) ?_ (by omega) (by omega)
      unfold sp_as
      rw [if_neg (fun z => z qb), cj, ek, eb, as_5 kk k5 b (by omega)]
      by_cases y : nI b = 0 ∨ nI b = nI kk ∨ nI b = 1 ∧ nI kk = 4
      · rw [if_pos y, if_pos (decide_eq_true y)]
      · rw [if_neg y, if_neg (by rw [decide_eq_false y]; decide)]
    · have qa : ¬ (inI q 0 (P 4 - 1) ∧ inI k 0 4) := fun z => bI_f c16 z.2
      refine ⟨trivial, ?_⟩
      exact ⟨cg, fn, cx, by unfold sp_as; rw [if_pos qa], rfl, rfl, hC⟩
theorem c_clash_0 {cg : sg_T} {fn : Nat → Option Nat} {cx : cx_T} {P : Nat → Int32} {d kc ks f g qi qk : Nat} {a b : Int32} (hC : clR cg P) (ncl : ¬ clB f g = true) : am_W mi_X11_clash d (cS cx (if clB f g = true then lnV P qi ^^^ lnV P qk else -5) P) kc ks 75 [some (.ref 0), some (.int a), some (.int b), some (.int (nI f)), some (.int (nI g)), some (.int 0)] [] (hc cg fn cx) := by
  refine am_go ok_X11_clash [] 63 ?_
  refine ⟨fun _ => ?_, fun c77 => absurd rfl c77⟩
  refine ⟨trivial, ?_⟩
  exact ⟨cg, fn, cx, by rw [if_neg ncl], rfl, rfl, hC⟩
theorem c_clash_1 {cg : sg_T} {fn : Nat → Option Nat} {cx : cx_T} {P : Nat → Int32} {R C n Q T U d kc ks i k f g qi qk : Nat} (hd : 460 ≤ d) (hC : clR cg P) (hO : okP P R C n Q T U) {a b : Int32} (ei : a = nI i) (ek : b = nI k) (iT : i < T) (kT : k < T) (f1 : f < 125) (g1 : g < 125) (f7 : f < 750) (g7 : g < 750) (qiQ : qi < Q) (qkQ : qk < Q) (eqi : P (1002 + i) = nI qi) (eqk : P (1002 + k) = nI qk) (d1 : nI f / 5 = nI (f / 5)) (d2 : nI g / 5 = nI (g / 5)) (d3 : nI f / 25 = nI (f / 25)) (d4 : nI g / 25 = nI (g / 25)) : am_W mi_X11_clash d (cS cx (if clB f g = true then lnV P qi ^^^ lnV P qk else -5) P) kc ks 75 [some (.ref 0), some (.int a), some (.int b), some (.int (nI f)), some (.int (nI g)), some (.int 1)] [] (hc cg fn cx) := by
  refine am_go ok_X11_clash [] 97 ?_
  have T10 := hO.t5.2
  refine ⟨fun c77 => absurd c77 (by decide), fun _ => ?_⟩
  refine ⟨by decide, ?_⟩
  refine ⟨by decide, ?_⟩
  refine ⟨by decide, ?_⟩
  refine ⟨by decide, ?_⟩
  refine ⟨fun c91 => ?_, fun c91 => ?_⟩
  · have ncl : ¬ clB f g = true := fun w => c91 (by rw [d1, d2, rm5 (by omega), rm5 (by omega), (of_decide_eq_true w).2.2.1])
    refine ⟨trivial, ?_⟩
    exact ⟨cg, fn, cx, by rw [if_neg ncl], rfl, rfl, hC⟩
  · have e5 : f / 5 % 5 = g / 5 % 5 := by rw [d1, d2, rm5 (by omega), rm5 (by omega)] at c91; exact (nI_eq (by omega) (by omega)).mp c91
    refine ⟨by decide, ?_⟩
    refine ⟨by decide, ?_⟩
    refine ⟨fun c103 => ?_, fun c103 => ?_⟩
    · have hcl : clB f g = true := decide_eq_true ⟨f1, g1, e5, fun w => c103 (by rw [d3, d4, w])⟩
      refine ⟨_, _, rfl, rfl, ?_⟩
      refine ⟨_, _, rfl, rfl, ?_⟩
      refine ⟨_, _, rfl, rfl, ?_⟩
      refine ⟨_, _, i, rfl, ei, by omega, Nat.le_of_ble_eq_true rfl, ?_⟩
      rw [hC.1.tq i (by omega), eqi]
      refine ⟨_, rfl, d - 1, 0, 0, _, by omega, Nat.le_of_ble_eq_true rfl, Nat.le_of_ble_eq_true rfl, Nat.le_of_ble_eq_true rfl, c_papersUnder hC.1 (d := d - 1) (by omega) hO.W hO.A rfl qiQ, ?_⟩
      rintro _ _ ⟨rfl, cg1, rfl, F1⟩
      refine ⟨Or.inl rfl, ?_⟩
      have C1 : clR cg1 P := hC.K hO.W ⟨fun a ha => F1 a (by omega), fun i _ => by rw [F1 83 (by decide)]⟩
      refine ⟨_, _, rfl, rfl, ?_⟩
      refine ⟨_, _, rfl, rfl, ?_⟩
      refine ⟨_, _, rfl, rfl, ?_⟩
      refine ⟨_, _, k, rfl, ek, by omega, Nat.le_of_ble_eq_true rfl, ?_⟩
      rw [C1.1.tq k (by omega), eqk]
      refine ⟨_, rfl, d - 1, 0, 0, _, by omega, Nat.le_of_ble_eq_true rfl, Nat.le_of_ble_eq_true rfl, Nat.le_of_ble_eq_true rfl, c_papersUnder C1.1 (d := d - 1) (by omega) hO.W hO.A rfl qkQ, ?_⟩
      rintro _ _ ⟨rfl, cg2, rfl, F2⟩
      refine ⟨Or.inl rfl, ?_⟩
      refine ⟨trivial, ?_⟩
      exact ⟨cg2, fn, cx, by rw [if_pos hcl], rfl, rfl, C1.K hO.W ⟨fun a ha => F2 a (by omega), fun i _ => by rw [F2 83 (by decide)]⟩⟩
    · have ncl : ¬ clB f g = true := fun w => (of_decide_eq_true w).2.2.2 (by rw [d3, d4] at c103; exact (nI_eq (by omega) (by omega)).mp c103)
      refine ⟨trivial, ?_⟩
      exact ⟨cg, fn, cx, by rw [if_neg ncl], rfl, rfl, hC⟩
theorem c_clash {cg : sg_T} {fn : Nat → Option Nat} {cx : cx_T} {P : Nat → Int32} {R C n Q T U d : Nat} (hd : 460 ≤ d) (hC : clR cg P) (hO : okP P R C n Q T U) (a b : Int32) : am_Met mi_X11_clash d 0 0 [.ref 0, .int a, .int b] (hc cg fn cx) (cS cx (sp_clash P a b) P) := by
  refine am_Met.of rfl (Nat.le_of_ble_eq_true rfl) ?_
  refine am_go ok_X11_clash [75] 96 ?_
  refine ⟨_, _, rfl, rfl, ?_⟩
  refine ⟨_, rfl, d - 1, 0, 0, _, by omega, Nat.le_of_ble_eq_true rfl, Nat.le_of_ble_eq_true rfl, Nat.le_of_ble_eq_true rfl, c_has (w := 5) (n := T) (d - 1) a rfl (by omega) ((hC.1.c 5 (by omega)).trans hO.t5.1) (by have := hO.t5.2; omega), ?_⟩
  rintro _ _ ⟨rfl, rfl⟩
  refine ⟨Or.inl rfl, ?_⟩
  refine ⟨fun c9 => ?_, fun c9 => ?_⟩
  · have qa : ¬ (inI a 0 (P 5 - 1) ∧ inI b 0 (P 5 - 1)) := fun z => (fun z => bI_f c9 (by rw [← hO.t5.1]; exact z)) z.1
    refine ⟨trivial, ?_⟩
    exact ⟨cg, fn, cx, by unfold sp_clash; rw [if_pos qa], rfl, rfl, hC⟩
  · have q1 := (show inI a 0 (P 5 - 1) by rw [hO.t5.1]; exact bI_t c9)
    refine ⟨_, _, rfl, rfl, ?_⟩
    refine ⟨_, rfl, d - 1, 0, 0, _, by omega, Nat.le_of_ble_eq_true rfl, Nat.le_of_ble_eq_true rfl, Nat.le_of_ble_eq_true rfl, c_has (w := 5) (n := T) (d - 1) b rfl (by omega) ((hC.1.c 5 (by omega)).trans hO.t5.1) (by have := hO.t5.2; omega), ?_⟩
    rintro _ _ ⟨rfl, rfl⟩
    refine ⟨Or.inl rfl, ?_⟩
    refine ⟨fun c21 => ?_, fun c21 => ?_⟩
    · have qb : inI a 0 (P 5 - 1) ∧ inI b 0 (P 5 - 1) := ⟨q1, (show inI b 0 (P 5 - 1) by rw [hO.t5.1]; exact bI_t c21)⟩
      have T10 := hO.t5.2
      obtain ⟨i, ei, ci, iT⟩ := ix_at hO.t5.1 (by omega) q1
      obtain ⟨k, ek, ck, kT⟩ := ix_at hO.t5.1 (by omega) qb.2
      obtain ⟨i10, ⟨qi, qiQ, eqi, pqi⟩, -, f, f7, ef, pf⟩ := tt_t hO.tt iT
      obtain ⟨k10, ⟨qk, qkQ, eqk, pqk⟩, -, g, g7, eg, pg⟩ := tt_t hO.tt kT
      refine ⟨fun c28 => ?_, fun c28 => ?_⟩
      · have e0 : sp_clash P a b = if clB f g = true then lnV P qi ^^^ lnV P qk else -5 := by unfold sp_clash; rw [if_neg (fun z => z qb), if_neg c28, ci, ck, pf, pg, pqi, pqk]
        rw [e0]
        have d1 : nI f / 5 = nI (f / 5) := pk_div (d := 5) (by omega) (by omega) (by omega)
        have d2 : nI g / 5 = nI (g / 5) := pk_div (d := 5) (by omega) (by omega) (by omega)
        have d3 : nI f / 25 = nI (f / 25) := pk_div (d := 25) (by omega) (by omega) (by omega)
        have d4 : nI g / 25 = nI (g / 25) := pk_div (d := 25) (by omega) (by omega) (by omega)
        refine ⟨_, _, rfl, rfl, ?_⟩
        refine ⟨_, _, rfl, rfl, ?_⟩
        refine ⟨_, _, i, rfl, ei, by omega, Nat.le_of_ble_eq_true rfl, ?_⟩
        rw [hC.1.tf i (by omega), ef]
        refine ⟨_, _, rfl, rfl, ?_⟩
        refine ⟨_, _, rfl, rfl, ?_⟩
        refine ⟨_, _, k, rfl, ek, by omega, Nat.le_of_ble_eq_true rfl, ?_⟩
        rw [hC.1.tf k (by omega), eg]
        refine ⟨fun c58 => ?_, fun c58 => ?_⟩
        · have ncl : ¬ clB f g = true := fun w => absurd ((nI_leI (a := 125) (by omega) (by omega)).mp c58) (by have := of_decide_eq_true w; omega)
          first
          | exact c_clash_0 hC ncl
          | exact c_clash_1 hd hC hO ei ek iT kT f1 g1 f7 g7 qiQ qkQ eqi eqk d1 d2 d3 d4
        · have f1 : f < 125 := by
            rcases Nat.lt_or_ge f 125 with q | q
            · exact q
            · exact absurd ((nI_leI (a := 125) (by omega) (by omega)).mpr q) c58
          refine ⟨fun c65 => ?_, fun c65 => ?_⟩
          · have ncl : ¬ clB f g = true := fun w => absurd ((nI_leI (a := 125) (by omega) (by omega)).mp c65) (by have := of_decide_eq_true w; omega)
            first
            | exact c_clash_0 hC ncl
            | exact c_clash_1 hd hC hO ei ek iT kT f1 g1 f7 g7 qiQ qkQ eqi eqk d1 d2 d3 d4
          · have g1 : g < 125 := by
              rcases Nat.lt_or_ge g 125 with q | q
              · exact q
              · exact absurd ((nI_leI (a := 125) (by omega) (by omega)).mpr q) c65
            first
            | exact c_clash_0 hC ncl
            | exact c_clash_1 hd hC hO ei ek iT kT f1 g1 f7 g7 qiQ qkQ eqi eqk d1 d2 d3 d4
      · skip
        refine ⟨trivial, ?_⟩
        exact ⟨cg, fn, cx, by unfold sp_clash; rw [if_neg (fun z => z qb), if_pos c28], rfl, rfl, hC⟩
    · have qa : ¬ (inI a 0 (P 5 - 1) ∧ inI b 0 (P 5 - 1)) := fun z => (fun z => bI_f c21 (by rw [← hO.t5.1]; exact z)) z.2
      refine ⟨trivial, ?_⟩
      exact ⟨cg, fn, cx, by unfold sp_clash; rw [if_pos qa], rfl, rfl, hC⟩
theorem c_carry_l {cg : sg_T} {fn : Nat → Option Nat} {cx : cx_T} {P : Nat → Int32} {R C n Q T U d kc ks j st : Nat} (hd : 460 ≤ d) (hC : clR cg P) (hO : okP P R C n Q T U) {t q dy w : Int32} (ej : q = nI j) (jQ : j < Q) (est : P (126 + j) = nI st) (s12 : st ≤ 12) (hJ : ∀ i, i < st → cg 79 (12 * j + i) = nI (lkV P (trP P) dy j i)) (hw : w = chI (-5) (fsF (fun s => decide (¬ lkV P (trP P) dy j s = 0)) st)) : ∀ (u k : Nat) (z : Int32), z = nI k → (∀ i, i < k → lkV P (trP P) dy j i = 0) → k ≤ st → st < k + u → am_W mi_X11_carry d (cS cx w P) kc ks 53 [some (.ref 0), some (.int t), some (.int dy), some (.int q), some (.int z)] [] (hc cg fn cx) := by
  intro u
  induction u with
  | zero => intro k z hz h0 h1 h2; exact absurd h2 (by omega)
  | succ u ih =>
    intro k z hz h0 h1 h2
    refine am_go ok_X11_carry [53] 79 ?_
    have Q12 := hO.q4.2
    refine ⟨_, _, rfl, rfl, ?_⟩
    refine ⟨_, _, rfl, rfl, ?_⟩
    refine ⟨_, _, j, rfl, ej, by omega, Nat.le_of_ble_eq_true rfl, ?_⟩
    rw [hC.1.s j (by omega), est]
    refine ⟨fun c64 => ?_, fun c64 => ?_⟩
    · rw [hz] at c64
      have k1 : k = st := by have := (nI_leI (by omega) (by omega)).mp c64; omega
      subst k1
      refine ⟨trivial, ?_⟩
      exact ⟨cg, fn, cx, by rw [hw, fsF_n (fun i hi => decide_eq_false (fun y => y (h0 i hi)))]; rfl, rfl, rfl, hC⟩
    · have k1 : k < st := by
        rcases Nat.lt_or_ge k st with q1 | q1
        · exact q1
        · exact absurd (by rw [hz]; exact (nI_leI (by omega) (by omega)).mpr q1) c64
      have l13 := lk_13 (tr := trP P) (dy := dy) (s := k) hO.W hO.A jQ (by rw [pn_of est (by omega)]; exact k1)
      refine ⟨_, _, rfl, rfl, ?_⟩
      refine ⟨_, _, rfl, rfl, ?_⟩
      refine ⟨_, _, (12 * j + k), rfl, (by rw [ej, hz]; show nI j * nI 12 + nI k = _; rw [pk_mul, nI_add, Nat.mul_comm]), by omega, Nat.le_of_ble_eq_true rfl, ?_⟩
      rw [hJ k k1]
      refine ⟨fun c82 => ?_, fun c82 => ?_⟩
      · have lz : lkV P (trP P) dy j k = 0 := (nI_eq (b := 0) (by omega) (by omega)).mp c82
        exact ih (k + 1) _ (by rw [hz, nI_1]) (fun i hi => by rcases (show i = k ∨ i < k by omega) with y | y; (rw [y]; exact lz); exact h0 i y) (by omega) (by omega)
      · have nz : ¬ lkV P (trP P) dy j k = 0 := fun y => c82 (by rw [y]; rfl)
        refine ⟨trivial, ?_⟩
        exact ⟨cg, fn, cx, by rw [hw, fsF_s (p := fun s => decide (¬ lkV P (trP P) dy j s = 0)) (k := k) (fun i hi => decide_eq_false (fun y => y (h0 i hi))) (decide_eq_true nz) st k1, hz]; rfl, rfl, rfl, hC⟩
theorem c_carry {cg : sg_T} {fn : Nat → Option Nat} {cx : cx_T} {P : Nat → Int32} {R C n Q T U d : Nat} (hd : 460 ≤ d) (hC : clR cg P) (hO : okP P R C n Q T U) (t dy : Int32) : am_Met mi_X11_carry d 0 0 [.ref 0, .int t, .int dy] (hc cg fn cx) (cS cx (sp_carry P t dy) P) := by
  refine am_Met.of rfl (Nat.le_of_ble_eq_true rfl) ?_
  refine am_go ok_X11_carry [53] 85 ?_
  refine ⟨_, _, rfl, rfl, ?_⟩
  refine ⟨_, rfl, d - 1, 0, 0, _, by omega, Nat.le_of_ble_eq_true rfl, Nat.le_of_ble_eq_true rfl, Nat.le_of_ble_eq_true rfl, c_has (w := 5) (n := T) (d - 1) t rfl (by omega) ((hC.1.c 5 (by omega)).trans hO.t5.1) (by have := hO.t5.2; omega), ?_⟩
  rintro _ _ ⟨rfl, rfl⟩
  refine ⟨Or.inl rfl, ?_⟩
  refine ⟨fun c9 => ?_, fun c9 => ?_⟩
  · have qb := (show inI t 0 (P 5 - 1) by rw [hO.t5.1]; exact bI_t c9)
    have T10 := hO.t5.2
    obtain ⟨i, ei, ci, iT⟩ := ix_at hO.t5.1 (by omega) qb
    obtain ⟨i10, ⟨j, jQ, ej, pj⟩, -⟩ := tt_t hO.tt iT
    obtain ⟨j12, -, st, s12, est, pst, -⟩ := pf_at hO.A jQ
    refine ⟨d - 1, 0, 0, _, by omega, Nat.le_of_ble_eq_true rfl, Nat.le_of_ble_eq_true rfl, Nat.le_of_ble_eq_true rfl, c_isDay (d - 1) dy, ?_⟩
    rintro _ _ ⟨rfl, rfl⟩
    refine ⟨Or.inl rfl, ?_⟩
    refine ⟨fun c18 => ?_, fun c18 => ?_⟩
    · have qd := bI_t c18
      refine ⟨_, _, rfl, rfl, ?_⟩
      refine ⟨_, _, rfl, rfl, ?_⟩
      refine ⟨_, _, i, rfl, ei, by omega, Nat.le_of_ble_eq_true rfl, ?_⟩
      rw [hC.1.tq i (by omega), ej]
      refine ⟨_, _, rfl, rfl, ?_⟩
      refine ⟨_, _, rfl, rfl, ?_⟩
      refine ⟨_, _, rfl, rfl, ?_⟩
      rw [hC.1.tp]
      refine ⟨_, rfl, d - 1, 0, 0, _, by omega, Nat.le_of_ble_eq_true rfl, Nat.le_of_ble_eq_true rfl, Nat.le_of_ble_eq_true rfl, c_weigh hC.1 (d := d - 1) (by omega) hO.W hO.A hC.2.2.2 rfl jQ (dy := dy) (tr := trP P) (fun j hj => by rw [bq_tp hO.n3.1 hO.n3.2 hj]), ?_⟩
      rintro _ _ ⟨rfl, cg1, rfl, F1, J1⟩
      refine ⟨Or.inl rfl, ?_⟩
      exact c_carry_l (cg := cg1) hd (hC.K hO.W F1) hO rfl jQ est s12 (fun i hi => ((J1.2 j (by omega)).2 i (by omega)).1) (by unfold sp_carry; rw [if_neg (fun z => z qb), if_neg (fun z => z qd), ci, pj, pst]) (st + 1) 0 0 rfl (fun i hi => absurd hi (by omega)) (by omega) (by omega)
    · have qd := bI_f c18
      refine ⟨trivial, ?_⟩
      exact ⟨cg, fn, cx, by unfold sp_carry; rw [if_neg (fun z => z qb), if_pos qd], rfl, rfl, hC⟩
  · have qa : ¬ inI t 0 (P 5 - 1) := (fun z => bI_f c9 (by rw [← hO.t5.1]; exact z))
    refine ⟨trivial, ?_⟩
    exact ⟨cg, fn, cx, by unfold sp_carry; rw [if_pos qa], rfl, rfl, hC⟩
