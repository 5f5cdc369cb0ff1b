/-! the start -/
theorem ok_0 : okE (fun _ => 0) := by
  have p0 : ∀ j, pn (fun _ => (0 : Int32)) j = 0 := fun j => rfl
  refine ⟨0, 0, 0, 0, 0, 0, ⟨rfl, by omega, rfl, by omega, fun r hr => ⟨0, by omega, rfl⟩, fun c hc => absurd hc (by omega), rfl, by omega, fun k hk => absurd hk (by omega), fun r hr => absurd hr (by omega), fun c hc => absurd hc (by omega)⟩, ⟨fun r hr => absurd hr (by omega), fun c hc => absurd hc (by omega)⟩, rfl, ⟨0, by omega, rfl⟩, fun i hi => ⟨0, by omega, rfl⟩, ⟨rfl, by omega, fun q hq => absurd hq (by omega)⟩, ⟨rfl, by omega, by omega, fun t ht => absurd ht (by omega)⟩, fun k hk => Or.inl rfl, ⟨rfl, by omega, fun t ht => absurd ht (by omega)⟩, fun j hj => rfl, ⟨0, by omega, rfl⟩, fun j hj => Or.inl rfl, fun r hr => absurd hr (by omega), fun c hc => absurd hc (by omega)⟩
def cg0 (F G F' : Nat → Int32) : sg_T := fun c => if c = 83 then F else if c = 85 then G else if c = 89 then F' else fun _ => 0
theorem cl_0 {F G F' : Nat → Int32} (hF : ∀ i, i < 5 → F i = nI i) (hG : ∀ i, i < 750 → G i = -1) (hA : ∀ i, i < 5 → F' i = nI i) (hB : ∀ i, 5 ≤ i → F' i = 0) : clR (cg0 F G F') (fun _ => 0) := by
  refine ⟨⟨fun _ _ => rfl, rfl, fun _ _ => rfl, fun _ _ => rfl, fun _ _ => rfl, fun _ _ => rfl, fun _ _ => rfl, rfl, fun _ _ => rfl, fun _ _ => rfl, fun _ _ => rfl, fun _ _ => rfl, fun _ _ => rfl, fun _ _ => rfl, fun _ _ => rfl, fun _ _ => rfl, fun _ _ => rfl, rfl, fun r hr => absurd hr (Nat.not_lt_zero _), fun c hc => absurd hc (Nat.not_lt_zero _)⟩, ⟨0, fun _ => 0, fun _ => 0, ⟨rfl, by omega, fun i hi => absurd hi (by omega), fun i j hi => absurd hi (by omega), fun f f7 _ => hG f f7⟩, fun _ _ _ => rfl⟩, ⟨hA, fun l hl => Or.inr ⟨0, by omega, hB _ (by omega)⟩⟩, hF⟩
theorem i_class {d : Nat} (hd : 8 ≤ d) : am_Met mi_X11_init d 100 5936 [.ref 0] [.inr (.inr (11, am_new 11))] (fun r h' => r = none ∧ ∃ cg, h' = hc cg (fun _ => none) (3, 92, .null, []) ∧ clR cg (fun _ => 0)) := by
  refine am_Met.of rfl (Nat.le_of_ble_eq_true rfl) ?_
  refine am_go ok_X11_init [4] 62 ?_
  refine ⟨by omega, Nat.le_of_ble_eq_true rfl, ?_⟩
  refine i_s0 (L := []) rfl trivial (by omega) (by decide) (by decide) ?_
  have l1 : ([] ++ (bkH 1 20 ++ bkT 1 20) : am_H).length = 77 := bk_l
  have w1 : wfL 78 ([] ++ (bkH 1 20 ++ bkT 1 20) : am_H) := wfB (b := 1) (k := 20) (by omega)
  generalize e1 : ([] ++ (bkH 1 20 ++ bkT 1 20) : am_H) = L1 at l1 w1 ⊢
  refine i_s1 l1 w1 (by omega) (by decide) (by decide) (fun F hF _ => ?_)
  have l2 : (L1 ++ [(.inr (.inr (2, [.ref 1, .ref (78 + 1), .ref (78 + 2), .ref (78 + 3), .ref (78 + 4), .ref (78 + 5), .int 0])) : am_C), .inl (0, 144, fun _ => 0), .inl (0, 144, fun _ => 0), .inl (2, 12, fun _ => 0), .inl (0, 12, fun _ => 0), .inl (0, 9, F)]).length = 83 := by rw [List.length_append, l1]; rfl
  have w2 : wfL 84 (L1 ++ [(.inr (.inr (2, [.ref 1, .ref (78 + 1), .ref (78 + 2), .ref (78 + 3), .ref (78 + 4), .ref (78 + 5), .int 0])) : am_C), .inl (0, 144, fun _ => 0), .inl (0, 144, fun _ => 0), .inl (2, 12, fun _ => 0), .inl (0, 12, fun _ => 0), .inl (0, 9, F)]) := wfL_a (wfL_m (by omega) w1) (by show wfL 84 [(.inr (.inr (2, [.ref 1, .ref (78 + 1), .ref (78 + 2), .ref (78 + 3), .ref (78 + 4), .ref (78 + 5), .int 0])) : am_C), .inl (0, 144, fun _ => 0), .inl (0, 144, fun _ => 0), .inl (2, 12, fun _ => 0), .inl (0, 12, fun _ => 0), .inl (0, 9, F)]; simp only [wfL, wfC, wfF, wfS, rfV_r, rfV_z, rfV_k, reduceCtorEq, false_implies, implies_true, and_true, true_and] <;> omega)
  generalize e2 : L1 ++ [(.inr (.inr (2, [.ref 1, .ref (78 + 1), .ref (78 + 2), .ref (78 + 3), .ref (78 + 4), .ref (78 + 5), .int 0])) : am_C), .inl (0, 144, fun _ => 0), .inl (0, 144, fun _ => 0), .inl (2, 12, fun _ => 0), .inl (0, 12, fun _ => 0), .inl (0, 9, F)] = L2 at l2 w2 ⊢
  refine i_s2 l2 w2 (by omega) (by decide) (by decide) (fun G F2 hG hA hB => ?_)
  have l3 : (L2 ++ [(.inr (.inr (6, [.ref 1, .ref (84 + 1), .ref (84 + 2), .int 0, .ref (84 + 3), .int 0, .ref (84 + 4), .ref (84 + 5)])) : am_C), .inl (0, 750, G), .inl (0, 750, fun _ => 0), .inl (2, 750, fun _ => 0), .inr (.inl (3, 8, fun _ => none)), .inl (0, 9, F2)]).length = 89 := by rw [List.length_append, l2]; rfl
  have w3 : wfL 90 (L2 ++ [(.inr (.inr (6, [.ref 1, .ref (84 + 1), .ref (84 + 2), .int 0, .ref (84 + 3), .int 0, .ref (84 + 4), .ref (84 + 5)])) : am_C), .inl (0, 750, G), .inl (0, 750, fun _ => 0), .inl (2, 750, fun _ => 0), .inr (.inl (3, 8, fun _ => none)), .inl (0, 9, F2)]) := wfL_a (wfL_m (by omega) w2) (by show wfL 90 [(.inr (.inr (6, [.ref 1, .ref (84 + 1), .ref (84 + 2), .int 0, .ref (84 + 3), .int 0, .ref (84 + 4), .ref (84 + 5)])) : am_C), .inl (0, 750, G), .inl (0, 750, fun _ => 0), .inl (2, 750, fun _ => 0), .inr (.inl (3, 8, fun _ => none)), .inl (0, 9, F2)]; simp only [wfL, wfC, wfF, wfS, rfV_r, rfV_z, rfV_k, reduceCtorEq, false_implies, implies_true, and_true, true_and] <;> omega)
  generalize e3 : L2 ++ [(.inr (.inr (6, [.ref 1, .ref (84 + 1), .ref (84 + 2), .int 0, .ref (84 + 3), .int 0, .ref (84 + 4), .ref (84 + 5)])) : am_C), .inl (0, 750, G), .inl (0, 750, fun _ => 0), .inl (2, 750, fun _ => 0), .inr (.inl (3, 8, fun _ => none)), .inl (0, 9, F2)] = L3 at l3 w3 ⊢
  refine i_s3 l3 w3 (by omega) (by decide) (by decide) ?_
  have l4 : (L3 ++ ([.inr (.inr (9, [.ref 1, .ref 84, .int 0, .int 0, .int 0, .int 0]))] : am_H)).length = 90 := by rw [List.length_append, l3]; rfl
  have w4 : wfL 91 (L3 ++ ([.inr (.inr (9, [.ref 1, .ref 84, .int 0, .int 0, .int 0, .int 0]))] : am_H)) := wfL_a (wfL_m (by omega) w3) (by show wfL 91 [.inr (.inr (9, [.ref 1, .ref 84, .int 0, .int 0, .int 0, .int 0]))]; simp only [wfL, wfC, wfF, wfS, rfV_r, rfV_z, rfV_k, reduceCtorEq, false_implies, implies_true, and_true, true_and] <;> omega)
  generalize e4 : L3 ++ ([.inr (.inr (9, [.ref 1, .ref 84, .int 0, .int 0, .int 0, .int 0]))] : am_H) = L4 at l4 w4 ⊢
  refine i_s4 l4 w4 (by omega) (by decide) (by decide) ?_
  have l5 : (L4 ++ ([(.inr (.inr (7, [.ref 1, .int 0, .int 0, .ref (91 + 1), .int 0])) : am_C)] ++ txL (91 + 1))).length = 94 := by rw [List.length_append, l4]; rfl
  have w5 : wfL 95 (L4 ++ ([(.inr (.inr (7, [.ref 1, .int 0, .int 0, .ref (91 + 1), .int 0])) : am_C)] ++ txL (91 + 1))) := wfL_a (wfL_m (by omega) w4) (by show wfL 95 [(.inr (.inr (7, [.ref 1, .int 0, .int 0, .ref 92, .int 0])) : am_C), .inr (.inr (10, [.int 0, .int 0, .int 0, .ref 93, .ref 94])), .inl (0, 16, fun _ => 0), .inl (0, 12, fun _ => 0)]; simp only [wfL, wfC, wfF, wfS, rfV_r, rfV_z, rfV_k, reduceCtorEq, false_implies, implies_true, and_true, true_and] <;> omega)
  refine i_s5 l5 w5 (by omega) (by decide) (by decide) ⟨rfl, cg0 F G F2, ?_, cl_0 hF hG hA hB⟩
  have r1 : rwK 1 20 = tfX := (rwK_e 20).trans (by funext j; show (if j < 20 then some (1 + 17 + 3 * j) else none) = tfX j; rfl)
  have r2 : (va_up (va_up (va_up (va_up (va_up (fun _ => none) 0 (some 96)) 1 (some 97)) 2 (some 98)) 3 (some 99)) 4 (some 100)) = kdX := by
    funext j
    unfold kdX va_up
    rcases (show j = 0 ∨ j = 1 ∨ j = 2 ∨ j = 3 ∨ j = 4 ∨ 5 ≤ j by omega) with z | z | z | z | z | z
    · subst z; rfl
    · subst z; rfl
    · subst z; rfl
    · subst z; rfl
    · subst z; rfl
    · rw [if_neg (by omega), if_neg (by omega), if_neg (by omega), if_neg (by omega), if_neg (by omega), if_neg (by omega)]
  rw [r2, ← e4, ← e3, ← e2, ← e1]
  unfold bkH
  rw [r1]
  rfl
