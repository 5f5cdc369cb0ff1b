/-! the Book's constructor -/
def rwK (b : Nat) : Nat → Nat → Option Nat
  | 0 => fun _ => none
  | k + 1 => va_up (rwK b k) k (some (b + 17 + 3 * k))
theorem rwK_e {b : Nat} : ∀ k, rwK b k = fun j => if j < k then some (b + 17 + 3 * j) else none
  | 0 => by funext j; rw [if_neg (by omega)]; rfl
  | k + 1 => by
    funext j
    rw [rwK, rwK_e k]
    unfold va_up
    by_cases z : j = k
    · rw [if_pos z, if_pos (by omega), z]
    · rw [if_neg z]
      show (if j < k then some (b + 17 + 3 * j) else none) = _
      by_cases y : j < k
      · rw [if_pos y, if_pos (by omega)]
      · rw [if_neg y, if_neg (by omega)]
def bkH (b k : Nat) : am_H := [(.inr (.inr (0, [.ref (b + 1), .ref (b + 2), .ref (b + 3), .ref (b + 4), .ref (b + 5), .ref (b + 6), .ref (b + 7), .int 0, .ref (b + 8), .ref (b + 9), .ref (b + 10), .ref (b + 11), .ref (b + 12), .ref (b + 13), .ref (b + 14), .ref (b + 15), .ref (b + 16), .int 0])) : am_C), .inl (0, 8, fun _ => 0), .inl (1, 120, fun _ => 0), .inr (.inl (3, 20, rwK b k)), .inl (0, 12, fun _ => 0), .inl (0, 12, fun _ => 0), .inl (0, 20, fun _ => 0), .inl (0, 20, fun _ => 0), .inl (0, 12, fun _ => 0), .inl (0, 12, fun _ => 0), .inl (0, 864, fun _ => 0), .inl (0, 10, fun _ => 0), .inl (0, 10, fun _ => 0), .inl (0, 10, fun _ => 0), .inl (0, 6, fun _ => 0), .inl (1, 720, fun _ => 0), .inl (2, 750, fun _ => 0)]
def bkT (b : Nat) : Nat → am_H
  | 0 => []
  | k + 1 => bkT b k ++ txL (b + 17 + 3 * k)
theorem bkT_l {b : Nat} : ∀ k, (bkT b k).length = 3 * k
  | 0 => rfl
  | k + 1 => by rw [bkT, List.length_append, bkT_l k]; show 3 * k + 3 = _; omega
theorem bk_l {b k : Nat} : (bkH b k ++ bkT b k).length = 17 + 3 * k := by rw [List.length_append, bkT_l]; rfl
theorem wfL_a {N : Nat} : ∀ {l m : am_H}, wfL N l → wfL N m → wfL N (l ++ m)
  | [], _, _, h => h
  | _ :: _, _, h, g => ⟨h.1, wfL_a h.2 g⟩
theorem wfT {b N : Nat} : ∀ {k : Nat}, b + 17 + 3 * k ≤ N → wfL N (bkT b k)
  | 0, _ => trivial
  | k + 1, h => wfL_a (wfT (by omega)) (by show wfL N (txL (b + 17 + 3 * k)); unfold txL; simp only [wfL, wfC, wfF, rfV_r, rfV_z, rfV_k, and_true, true_and]; omega)
theorem wfB {b N k : Nat} (h : b + 17 + 3 * k ≤ N) : wfL N (bkH b k ++ bkT b k) := by
  refine wfL_a ?_ (wfT h)
  unfold bkH
  simp only [wfL, wfC, wfF, rfV_r, rfV_z, rfV_k, and_true, true_and]
  refine ⟨by omega, fun j o hj => ?_⟩
  rw [rwK_e] at hj
  by_cases z : j < k
  · have : (if j < k then some (b + 17 + 3 * j) else none) = some o := hj
    rw [if_pos z] at this; injection this with e; omega
  · have : (if j < k then some (b + 17 + 3 * j) else none) = some o := hj
    rw [if_neg z] at this; exact absurd this (by simp)
theorem rfV_ns {N lo hi : Nat} (hn : N ≤ lo) {v : Value} (h : rfV N v) : am_nsV lo hi v := by
  cases v <;> first | trivial | exact Or.inl (Nat.lt_of_lt_of_le (show _ < N from h) hn)
theorem ns_of {N lo hi : Nat} (hn : N ≤ lo) : ∀ {ls : am_L} {st : List Value}, wfS N ls → wfF N st → am_ns lo hi ls st := fun {ls st} h1 h2 => by
  refine ⟨?_, ?_⟩
  · induction ls with
    | nil => intro v hv; exact absurd hv (by simp)
    | cons a l ih =>
      intro v hv
      cases a with
      | none =>
        rcases List.mem_cons.mp hv with z | z
        · exact absurd z (by simp)
        · exact ih (show wfS N l from h1) v z
      | some w =>
        rcases List.mem_cons.mp hv with z | z
        · injection z with z; rw [z]; exact rfV_ns hn h1.1
        · exact ih h1.2 v z
  · induction st with
    | nil => intro v hv; exact absurd hv (by simp)
    | cons a l ih =>
      intro v hv
      rcases List.mem_cons.mp hv with z | z
      · rw [z]; exact rfV_ns hn h2.1
      · exact ih h2.2 v z
theorem wfL_m {N M : Nat} (h : N ≤ M) : ∀ {l : am_H}, wfL N l → wfL M l
  | [], _ => trivial
  | c :: l, g => ⟨by
    match c, g.1 with
    | .inl _, _ => trivial
    | .inr (.inl (_, _, f)), g => exact fun j o hj => Nat.lt_of_lt_of_le (g j o hj) h
    | .inr (.inr (_, fs)), g =>
      have : ∀ fs : List Value, wfF N fs → wfF M fs := fun fs => by
        induction fs with
        | nil => exact fun _ => trivial
        | cons v l ih => exact fun g => ⟨by cases v <;> first | trivial | exact Nat.lt_of_lt_of_le (show _ < N from g.1) h, ih g.2⟩
      exact this fs g, wfL_m h g.2⟩
theorem i_book_l {h : am_H} {b d : Nat} (hd : 2 ≤ d) (hb : h.length = b) (hw : wfL b h) (b1 : b + 100 < 100000) : ∀ (u k kc ks : Nat) (z : Int32), z = nI k → k ≤ 20 → 20 < k + u → 3 * (20 - k) ≤ kc → 33 * (20 - k) ≤ ks → am_W mi_X0_init d (fun r h' => r = none ∧ h' = h ++ (bkH b 20 ++ bkT b 20)) kc ks 148 [some (.ref b), some (.int z)] [] (h ++ (bkH b k ++ bkT b k)) := by
  intro u
  induction u with
  | zero => intro k kc ks z hz h1 k3 k4 h2; exact absurd h2 (by omega)
  | succ u ih =>
    intro k kc ks z hz h1 k3 k4 h2
    refine am_go ok_X0_init [148] 70 ?_
    refine ⟨_, _, ap_n0 hb, rfl, ?_⟩
    refine ⟨_, _, ap_n (k := 3) hb, ?_⟩
    refine ⟨fun c154 => ?_, fun c154 => ?_⟩
    · have e : k = 20 := by rw [hz] at c154; have := (nI_leI (a := 20) (by omega) (by omega)).mp c154; omega
      subst e
      exact ⟨rfl, rfl⟩
    · have kl : k < 20 := by
        rcases Nat.lt_or_ge k 20 with q1 | q1
        · exact q1
        · exact absurd (by rw [hz]; exact (nI_leI (a := 20) (by omega) (by omega)).mpr q1) c154
      have hl : (h ++ (bkH b k ++ bkT b k)).length = b + 17 + 3 * k := by rw [ap_l hb, bk_l]; omega
      have hwf : wfL (b + 17 + 3 * k) (h ++ (bkH b k ++ bkT b k)) := wfL_a (wfL_m (by omega) hw) (wfB (Nat.le_refl _))
      refine ⟨_, _, ap_n0 hb, rfl, ?_⟩
      refine ⟨by omega, (show 5 ≤ ks by omega), (by rw [hl]; omega), (by rw [hl]; exact ⟨wfS_n (Nat.le_refl _) (by show wfS _ [some (.ref b), some (.int z)]; simp only [wfL, wfC, wfF, wfS, rfV_r, rfV_z, rfV_k, and_true, true_and] <;> omega), wfF_n (Nat.le_refl _) (by show wfF _ [.int z, .ref (b + 3)]; simp only [wfL, wfC, wfF, wfS, rfV_r, rfV_z, rfV_k, and_true, true_and] <;> omega), wfL_n (Nat.le_refl _) hwf⟩), ?_⟩
      rw [hl]
      refine ⟨d - 1, 2, 28, _, by omega, by omega, (show 28 ≤ ks - 5 by omega), Nat.le_of_ble_eq_true rfl, i_text (by omega) hl hwf (by omega), ?_⟩
      rintro _ _ ⟨rfl, rfl⟩
      refine ⟨Or.inr (ns_of (N := b + 17 + 3 * k + 1) (by rw [List.length_append, hl]; exact Nat.le_refl _) (by show wfS _ [some (.ref b), some (.int z)]; simp only [wfL, wfC, wfF, wfS, rfV_r, rfV_z, rfV_k, and_true, true_and] <;> omega) (by show wfF _ [.ref (b + 17 + 3 * k), .int z, .ref (b + 3)]; simp only [wfL, wfC, wfF, wfS, rfV_r, rfV_z, rfV_k, and_true, true_and] <;> omega)), ?_⟩
      refine ⟨_, _, k, _, _, (by rw [List.append_assoc]; exact ap_n (k := 3) hb), (ap_n0 hl), Or.inl ⟨rfl, rfl⟩, hz, (show k < 20 from kl), Nat.le_of_ble_eq_true rfl, ?_⟩
      rw [List.append_assoc, ap_p hb]
      have e : am_put (bkH b k ++ bkT b k ++ txL (b + 17 + 3 * k)) 3 (.inr (.inl (3, 20, va_up (rwK b k) k (some (b + 17 + 3 * k))))) = bkH b (k + 1) ++ bkT b (k + 1) := by rw [bkT, ← List.append_assoc]; rfl
      have h5 : (am_new 10).length = 5 := rfl
      have NX := ih (k + 1) (kc - 1 - 2) (ks - (am_new 10).length - 28) (z + 1) (by rw [hz, nI_1]) (by omega) (by omega) (by omega) (by omega)
      rw [← e] at NX
      exact NX
