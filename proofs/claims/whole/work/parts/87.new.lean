/-! new cells: references stay below a bound -/
def rfV (N : Nat) : Value → Prop
  | .ref i => i < N
  | _ => True
def wfF (N : Nat) : List Value → Prop
  | [] => True
  | v :: l => rfV N v ∧ wfF N l
def wfS (N : Nat) : am_L → Prop
  | [] => True
  | none :: l => wfS N l
  | some v :: l => rfV N v ∧ wfS N l
def wfC (N : Nat) : am_C → Prop
  | .inl _ => True
  | .inr (.inl (_, _, f)) => ∀ j o, f j = some o → o < N
  | .inr (.inr (_, fs)) => wfF N fs
def wfL (N : Nat) : am_H → Prop
  | [] => True
  | c :: l => wfC N c ∧ wfL N l
theorem rfV_r {N i : Nat} : rfV N (.ref i) = (i < N) := rfl
theorem rfV_z {N : Nat} : rfV N .null = True := rfl
theorem rfV_k {N : Nat} {x : Int32} : rfV N (.int x) = True := rfl
theorem rfV_n {N n : Nat} (hn : N ≤ n) {v : Value} (h : rfV N v) : am_nrV n v := by
  cases v <;> first | trivial | exact fun z => absurd (Nat.lt_of_lt_of_le (show _ < N from h) hn) (by rw [z]; exact Nat.lt_irrefl _)
theorem wfF_n {N n : Nat} (hn : N ≤ n) : ∀ {l : List Value}, wfF N l → ∀ v ∈ l, am_nrV n v
  | [], _, v, hv => absurd hv (by simp)
  | a :: l, h, v, hv => by
    rcases List.mem_cons.mp hv with z | z
    · rw [z]; exact rfV_n hn h.1
    · exact wfF_n hn h.2 v z
theorem wfS_n {N n : Nat} (hn : N ≤ n) : ∀ {l : am_L}, wfS N l → ∀ v, some v ∈ l → am_nrV n v
  | [], _, v, hv => absurd hv (by simp)
  | none :: l, h, v, hv => by
    rcases List.mem_cons.mp hv with z | z
    · exact absurd z (by simp)
    · exact wfS_n hn (show wfS N l from h) v z
  | some a :: l, h, v, hv => by
    rcases List.mem_cons.mp hv with z | z
    · injection z with z; rw [z]; exact rfV_n hn h.1
    · exact wfS_n hn h.2 v z
theorem wfC_n {N n : Nat} (hn : N ≤ n) {c : am_C} (h : wfC N c) : am_nrC n c := by
  match c, h with
  | .inl _, _ => trivial
  | .inr (.inl (_, _, f)), h => exact fun j z => absurd (h j n z) (by omega)
  | .inr (.inr (_, fs)), h => exact fun v hv => wfF_n hn h v hv
theorem wfL_n {N n : Nat} (hn : N ≤ n) : ∀ {l : am_H}, wfL N l → ∀ c ∈ l, am_nrC n c
  | [], _, c, hc => absurd hc (by simp)
  | a :: l, h, c, hc => by
    rcases List.mem_cons.mp hc with z | z
    · rw [z]; exact wfC_n hn h.1
    · exact wfL_n hn h.2 c z
theorem nr_ap {h l : am_H} {ls : am_L} {st : List Value} {b : Nat} (hb : h.length = b) (hw : wfL b h) (hl : wfL (b + l.length) l) (h1 : wfS (b + l.length) ls) (h2 : wfF (b + l.length) st) : am_nr (h ++ l).length ls st (h ++ l) := by
  have e : (h ++ l).length = b + l.length := by rw [List.length_append, hb]
  refine ⟨wfS_n (by omega) h1, wfF_n (by omega) h2, fun c hc => ?_⟩
  rcases List.mem_append.mp hc with z | z
  · exact wfL_n (by omega) hw c z
  · exact wfL_n (by omega) hl c z
theorem ap_n {h l : am_H} {b k : Nat} (hb : h.length = b) : am_nth (h ++ l) (b + k) = am_nth l k := by
  subst hb
  induction h with
  | nil => rw [show ([] : am_H).length + k = k from Nat.zero_add k]; rfl
  | cons a h ih => rw [show (a :: h).length + k = (h.length + k) + 1 by simp; omega]; exact ih
theorem ap_p {h l : am_H} {b k : Nat} {c : am_C} (hb : h.length = b) : am_put (h ++ l) (b + k) c = h ++ am_put l k c := by
  subst hb
  induction h with
  | nil => rw [show ([] : am_H).length + k = k from Nat.zero_add k]; rfl
  | cons a h ih => rw [show (a :: h).length + k = (h.length + k) + 1 by simp; omega]; show a :: am_put (h ++ l) _ c = _; rw [ih]; rfl
theorem ap_n0 {h l : am_H} {b : Nat} (hb : h.length = b) : am_nth (h ++ l) b = am_nth l 0 := ap_n (k := 0) hb
theorem ap_p0 {h l : am_H} {b : Nat} {c : am_C} (hb : h.length = b) : am_put (h ++ l) b c = h ++ am_put l 0 c := ap_p (k := 0) hb
theorem ap_l {h l : am_H} {b : Nat} (hb : h.length = b) : (h ++ l).length = b + l.length := by rw [List.length_append, hb]
/-- a Text's cells at a place -/
def txL (b : Nat) : am_H := [.inr (.inr (10, [.int 0, .int 0, .int 0, .ref (b + 1), .ref (b + 2)])), .inl (0, 16, fun _ => 0), .inl (0, 12, fun _ => 0)]
theorem i_text {h : am_H} {b d : Nat} (hd : 1 ≤ d) (hb : h.length = b) (hw : wfL b h) (b1 : b + 10 < 100000) : am_Met mi_X10_init d 2 28 [.ref b] (h ++ [.inr (.inr (10, am_new 10))]) (fun r h' => r = none ∧ h' = h ++ txL b) := by
  refine am_Met.of rfl (Nat.le_of_ble_eq_true rfl) ?_
  refine am_go ok_X10_init [] 79 ?_
  refine ⟨by omega, Nat.le_of_ble_eq_true rfl, ?_⟩
  refine ⟨_, ap_n0 hb, Nat.le_of_ble_eq_true rfl, trivial, ?_⟩
  rw [ap_p0 hb]
  refine ⟨_, ap_n0 hb, Nat.le_of_ble_eq_true rfl, trivial, ?_⟩
  rw [ap_p0 hb]
  refine ⟨_, ap_n0 hb, Nat.le_of_ble_eq_true rfl, trivial, ?_⟩
  rw [ap_p0 hb]
  refine ⟨Nat.le_of_ble_eq_true rfl, Nat.le_of_ble_eq_true rfl, by decide, by decide, (by rw [ap_l hb]; show b + 1 + 1 < 100000; omega), nr_ap hb hw (by show wfL (b + 1) [(.inr (.inr (10, [.int 0, .int 0, .int 0, .null, .null])) : am_C)]; simp only [wfL, wfC, wfF, wfS, rfV_r, rfV_z, rfV_k, and_true, true_and] <;> omega) (by show wfS (b + 1) [some (.ref b)]; simp only [wfL, wfC, wfF, wfS, rfV_r, rfV_z, rfV_k, and_true, true_and] <;> omega) (by show wfF (b + 1) [.ref b]; simp only [wfL, wfC, wfF, wfS, rfV_r, rfV_z, rfV_k, and_true, true_and] <;> omega), ?_⟩
  rw [List.append_assoc, ap_l hb]
  refine ⟨_, ap_n0 hb, Nat.le_of_ble_eq_true rfl, trivial, ?_⟩
  rw [ap_p0 hb]
  refine ⟨Nat.le_of_ble_eq_true rfl, Nat.le_of_ble_eq_true rfl, by decide, by decide, (by rw [ap_l hb]; show b + 2 + 1 < 100000; omega), nr_ap hb hw (by show wfL (b + 2) [(.inr (.inr (10, [.int 0, .int 0, .int 0, .ref (b + 1), .null])) : am_C), .inl (0, 16, fun _ => 0)]; simp only [wfL, wfC, wfF, wfS, rfV_r, rfV_z, rfV_k, and_true, true_and] <;> omega) (by show wfS (b + 2) [some (.ref b)]; simp only [wfL, wfC, wfF, wfS, rfV_r, rfV_z, rfV_k, and_true, true_and] <;> omega) (by show wfF (b + 2) [.ref b]; simp only [wfL, wfC, wfF, wfS, rfV_r, rfV_z, rfV_k, and_true, true_and] <;> omega), ?_⟩
  rw [List.append_assoc, ap_l hb]
  refine ⟨_, ap_n0 hb, Nat.le_of_ble_eq_true rfl, trivial, ?_⟩
  rw [ap_p0 hb]
  exact ⟨rfl, rfl⟩
