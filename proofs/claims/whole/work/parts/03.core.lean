/-! THE ABSTRACT MACHINE: cells by their places (numbers from 0 on), what is on stack and in locals as values whose references are places; 'ad' says at which address a place lies. A step of it is a step of the machine (part 04). -/
def am_nth {α : Type} : List α → Nat → Option α
  | [], _ => none
  | a :: _, 0 => some a
  | _ :: l, n + 1 => am_nth l n
def am_put {α : Type} : List α → Nat → α → List α
  | [], _, _ => []
  | _ :: l, 0, v => v :: l
  | a :: l, n + 1, v => a :: am_put l n v
theorem am_nth_eq {α : Type} : ∀ (l : List α) (n : Nat), am_nth l n = l[n]?
  | [], n => by simp [am_nth]
  | a :: l, 0 => by simp [am_nth]
  | a :: l, n + 1 => by rw [am_nth, am_nth_eq l n]; simp
theorem am_put_eq {α : Type} : ∀ (l : List α) (n : Nat) (v : α), am_put l n v = l.set n v
  | [], n, v => by simp [am_put]
  | a :: l, 0, v => by simp [am_put]
  | a :: l, n + 1, v => by rw [am_put, am_put_eq l n v]; simp
/-- instruction, its length, three numbers (a local's place, a target, a field ..), a constant -/
abbrev am_I : Type := Instr × Nat × Nat × Nat × Nat × Int32
/-- a method: its name, its bytes, its locals, what it returns, its instructions by their places -/
abbrev am_MI : Type := MethodName × ByteArray × Nat × Option FieldType × List (Option am_I)
/-- a cell: an array of ints (bytes, booleans), an array of references, an object -/
abbrev am_C : Type := (Nat × Nat × (Nat → Int32)) ⊕ (Nat × Nat × (Nat → Option Nat)) ⊕ (Nat × List Value)
abbrev am_H : Type := List am_C
abbrev am_L : Type := List (Option Value)
def am_v (ad : Nat → Nat) : Value → Value
  | .ref i => .ref (ad i)
  | v => v
def am_e (ad : Nat → Nat) (tc : Nat → ClassId) : am_C → va_E
  | .inl (t, n, f) => .inl (tc t, n, .inl f)
  | .inr (.inl (t, n, f)) => .inl (tc t, n, .inr (.inr (.inr (.inr (fun j => (f j).map ad)))))
  | .inr (.inr (ci, fs)) => .inr (ci, fs.map (am_v ad))
def am_w (ad : Nat → Nat) (tc : Nat → ClassId) (h : am_H) : va_W := h.mapIdx (fun i c => (ad i, am_e ad tc c))
theorem am_w_at {ad : Nat → Nat} {tc : Nat → ClassId} {h : am_H} {i : Nat} {c : am_C} (hi : am_nth h i = some c) : (am_w ad tc h)[i]? = some (ad i, am_e ad tc c) := by
  rw [am_nth_eq] at hi
  simp [am_w, List.getElem?_mapIdx, hi]
theorem am_w_len {ad : Nat → Nat} {tc : Nat → ClassId} {h : am_H} : (am_w ad tc h).length = h.length := by simp [am_w]
theorem am_w_put {ad : Nat → Nat} {tc : Nat → ClassId} {h : am_H} {i : Nat} {c : am_C} : am_w ad tc (am_put h i c) = (am_w ad tc h).set i (ad i, am_e ad tc c) := by
  rw [am_put_eq]
  apply List.ext_getElem?
  intro j
  by_cases hj : i = j
  · subst hj
    by_cases hl : i < h.length
    · simp [am_w, List.getElem?_mapIdx, hl]
    · have h1 : h.length ≤ i := by omega
      simp [am_w, List.getElem?_mapIdx, h1]
  · simp [am_w, List.getElem?_mapIdx, List.getElem?_set_ne hj]
theorem am_put_len {α : Type} (l : List α) (n : Nat) (v : α) : (am_put l n v).length = l.length := by rw [am_put_eq]; simp
/-- the classes whose objects the worlds hold, and the arrays' types -/
abbrev am_cls : List vw_C := [(RX0, TX0, 18), (RX1, TX1, 0), (RX2, TX2, 7), (RX3, TX3, 0), (RX4, TX4, 0), (RX5, TX5, 0), (RX6, TX6, 8), (RX7, TX7, 5), (RX8, TX8, 0), (RX9, TX9, 6), (RX10, TX10, 5), (RX11, TX11, 7), (RX12, TX12, 15)]
abbrev am_tys (tc : Nat → ClassId) : List (ClassId × FieldType) := [(tc 0, .int), (tc 1, .byte), (tc 2, .boolean), (tc 3, .object "DeedProofs$Text"), (tc 4, .object "DeedProofs$Line")]
/-- the words that every state has: those of the tables that a warmed state keeps -/
def am_good : Cond → Bool
  | .fieldLinkNest .. => true
  | .methodLinkNest .. => true
  | .declares _ => true
  | .castable .. => true
  | w => goodWord w
def am_gt : List Cond := lw_tbl.filter am_good
def am_T (U : State) : Prop := ∀ w ∈ am_gt, ∀ a : Array Value, w.before a U = true
theorem am_T.warm {s U : State} (hW : s.WarmedH U.vm) (h : am_T s) : am_T U := by
  intro w hw a
  have hg := (List.mem_filter.mp hw).2
  have h0 := h w hw
  cases w <;> first
    | exact va_Nw.use rfl (va_Nw.warmF hW (h0 #[]))
    | exact va_Nw.use rfl (va_Nw.warmM hW (h0 #[]))
    | exact va_Nw.use rfl (va_Nw.warmD hW (h0 #[]))
    | exact va_Nw.use rfl (va_Nw.warmC hW (h0 #[]))
    | exact word_at hW (good_of_word hg) (h0 #[])
theorem am_T.use {s : State} (h : am_T s) (args : Array Value) : ∀ w ∈ am_gt, w.before args s = true := fun w hw => h w hw args
/-- what lies outside the worlds and stays: the texts (100000 ..), the row ABOVE (100003), the texts' bytes (100004 ..), the JDK's formatter (100007, or null) -/
def am_len : List Nat := [6, 9, 3]
def am_byt : List (List Int32) := [[111, 115, 104, 109, 108, 119], [48, 49, 50, 51, 52, 97, 98, 99, 100], [60, 61, 35]]
def am_abv (j : Nat) : Int32 := [-1, 0, 0, 0, 1].getD j 0
def am_Ev (ad : Nat → Nat) (A : Nat → Prop) (U : State) (H : Heap) : Prop :=
  (va_AO "DeedProofs$Text" U ∧ va_AO "DeedProofs$Line" U) ∧
  (vk_R "DeedProofs$RuleReader" 72 "oshmlw" (ad 100000) U ∧ vk_R "DeedProofs$RuleReader" 78 "01234abcd" (ad 100001) U ∧ vk_R "DeedProofs$RuleReader" 90 "<=#" (ad 100002) U) ∧
  vk_S 3 am_len am_byt (fun i => ad (100000 + i)) (fun i => ad (100004 + i)) A U H ∧
  (va_Z "java/lang/String" "COMPACT_STRINGS" "Z" (.int 1) A U H ∧ (va_Z "jdk/internal/util/Preconditions" "SIOOBE_FORMATTER" "Ljava/util/function/BiFunction;" .null A U H ∨ va_Z "jdk/internal/util/Preconditions" "SIOOBE_FORMATTER" "Ljava/util/function/BiFunction;" (.ref (ad 100007)) A U H)) ∧
  va_Z "DeedProofs" "ABOVE" "[I" (.ref (ad 100003)) A U H ∧ va_T .int (ad 100003) 5 (fun j => .int (am_abv j)) A U H
theorem am_Ev.warm {ad : Nat → Nat} {A : Nat → Prop} {s U : State} {H : Heap} (hW : s.WarmedH U.vm) (h : am_Ev ad A s H) : am_Ev ad A U H := by
  obtain ⟨⟨a1, a2⟩, ⟨b1, b2, b3⟩, c1, ⟨d0, d1⟩, d2, d3⟩ := h
  exact ⟨⟨a1.moved hW.alike, a2.moved hW.alike⟩, ⟨b1.warm hW, b2.warm hW, b3.warm hW⟩, c1.moved hW.alike, ⟨d0.moved hW.alike, Or.imp (fun z => va_Z.moved hW.alike z) (fun z => va_Z.moved hW.alike z) d1⟩, d2.moved hW.alike, d3.moved hW.alike⟩
theorem am_Ev.kept {ad : Nat → Nat} {A : Nat → Prop} {U : State} {H H1 : Heap} (h : am_Ev ad A U H) (hq : ∀ a : Nat, a < H.size → ¬ A a → H1[a]? = H[a]?) : am_Ev ad A U H1 := by
  obtain ⟨a, b, c1, ⟨d0, d1⟩, d2, d3⟩ := h
  exact ⟨a, b, c1.kept hq, ⟨d0.kept hq, Or.imp (fun z => va_Z.kept z hq) (fun z => va_Z.kept z hq) d1⟩, d2.kept hq, d3.kept hq⟩
theorem am_Ev.narrow {ad : Nat → Nat} {A B : Nat → Prop} {U : State} {H : Heap} (h : am_Ev ad A U H) (hAB : ∀ q, B q → A q) : am_Ev ad B U H := by
  obtain ⟨a, b, c1, ⟨d0, d1⟩, d2, d3⟩ := h
  exact ⟨a, b, c1.narrow hAB, ⟨d0.narrow hAB, Or.imp (fun z => va_Z.narrow z hAB) (fun z => va_Z.narrow z hAB) d1⟩, d2.narrow hAB, d3.narrow hAB⟩
theorem am_Ev.ads {ad ad' : Nat → Nat} {A : Nat → Prop} {U : State} {H : Heap} (h : am_Ev ad A U H) (e : ∀ i, 100000 ≤ i → ad' i = ad i) : am_Ev ad' A U H := by
  unfold am_Ev at h ⊢
  have e1 : (fun i => ad' (100000 + i)) = (fun i => ad (100000 + i)) := funext fun i => e _ (by omega)
  have e2 : (fun i => ad' (100004 + i)) = (fun i => ad (100004 + i)) := funext fun i => e _ (by omega)
  rw [e 100000 (by omega), e 100001 (by omega), e 100002 (by omega), e 100003 (by omega), e 100007 (by omega), e1, e2]
  exact h
/-- locals -/
def am_al (ad : Nat → Nat) : Nat → am_L → List (Nat × Value)
  | _, [] => []
  | i, none :: l => am_al ad (i + 1) l
  | i, some v :: l => (i, am_v ad v) :: am_al ad (i + 1) l
theorem am_al_mem {ad : Nat → Nat} : ∀ (ls : am_L) (i : Nat) (q : Nat × Value), q ∈ am_al ad i ls ↔ ∃ (k : Nat) (v : Value), q = (i + k, am_v ad v) ∧ am_nth ls k = some (some v)
  | [], i, q => by simp [am_al, am_nth]
  | none :: l, i, q => by
    rw [am_al, am_al_mem l (i + 1) q]
    constructor
    · rintro ⟨k, v, h1, h2⟩
      exact ⟨k + 1, v, by rw [h1]; congr 1; omega, h2⟩
    · rintro ⟨k, v, h1, h2⟩
      cases k with
      | zero => cases h2
      | succ k => exact ⟨k, v, by rw [h1]; congr 1; omega, h2⟩
  | some w :: l, i, q => by
    rw [am_al, List.mem_cons, am_al_mem l (i + 1) q]
    constructor
    · rintro (h | ⟨k, v, h1, h2⟩)
      · exact ⟨0, w, h, rfl⟩
      · exact ⟨k + 1, v, by rw [h1]; congr 1; omega, h2⟩
    · rintro ⟨k, v, h1, h2⟩
      cases k with
      | zero => cases h2; exact Or.inl h1
      | succ k => exact Or.inr ⟨k, v, by rw [h1]; congr 1; omega, h2⟩
def am_lv (ad : Nat → Nat) (ls : am_L) (n : Nat) (lsC : Array Slot) : Prop := lv_has lsC n (am_al ad 0 ls)
theorem am_lv.get {ad : Nat → Nat} {ls : am_L} {n : Nat} {lsC : Array Slot} (h : am_lv ad ls n lsC) {i : Nat} {v : Value} (hi : am_nth ls i = some (some v)) : lsC[i]? = some (.val (am_v ad v)) :=
  h.2.2 (i, am_v ad v) ((am_al_mem ls 0 _).mpr ⟨i, v, by simp, hi⟩)
/-- no long stands in the place ahead -/
def am_nl (ls : am_L) : Nat → Bool
  | 0 => true
  | i + 1 => match am_nth ls i with
    | some (some (.long _)) => false
    | some (some (.double _)) => false
    | _ => true
theorem am_nth_put {α : Type} : ∀ (l : List α) (i j : Nat) (v : α), am_nth (am_put l i v) j = if j = i then (if i < l.length then some v else none) else am_nth l j := by
  intro l i j v
  rw [am_nth_eq, am_put_eq, am_nth_eq, List.getElem?_set]
  by_cases h : i = j
  · subst h; simp
  · have h' : ¬ j = i := fun e => h e.symm
    simp [h, h']
theorem am_lv.put {ad : Nat → Nat} {ls : am_L} {n : Nat} {lsC : Array Slot} {i : Nat} {v : Value} (hn : am_nl ls i = true)
    (h : lv_has lsC n ((i, am_v ad v) :: (am_al ad 0 ls).filter (fun q => !(q.1 == i) && !(q.1 + 1 == i && q.2.category == 2)))) : am_lv ad (am_put ls i (some v)) n lsC := by
  refine ⟨h.1, h.2.1, fun q hq => ?_⟩
  obtain ⟨k, w, rfl, hk⟩ := (am_al_mem _ 0 q).mp hq
  rw [am_nth_put] at hk
  rw [Nat.zero_add]
  by_cases hki : k = i
  · rw [if_pos hki] at hk
    by_cases hl : i < ls.length
    · rw [if_pos hl] at hk
      cases hk
      subst hki
      exact h.2.2 _ List.mem_cons_self
    · rw [if_neg hl] at hk; cases hk
  · rw [if_neg hki] at hk
    refine h.2.2 (k, am_v ad w) (List.mem_cons_of_mem _ (List.mem_filter.mpr ⟨(am_al_mem ls 0 _).mpr ⟨k, w, by simp, hk⟩, ?_⟩))
    have h2 : ¬ (k + 1 = i ∧ (am_v ad w).category = 2) := by
      rintro ⟨e, hc⟩
      subst e
      simp only [am_nl, hk] at hn
      cases w <;> simp_all [am_v, Value.category]
    simp only [Bool.and_eq_true, Bool.not_eq_true', beq_eq_false_iff_ne, ne_eq, Bool.and_eq_false_iff]
    refine ⟨hki, ?_⟩
    by_cases he : k + 1 = i
    · exact Or.inr fun hc => h2 ⟨he, hc⟩
    · exact Or.inl he
