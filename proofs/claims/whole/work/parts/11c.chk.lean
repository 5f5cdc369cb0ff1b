/-! the check -/
def am_okB (own : Nat) (init : Bool) (mL : Nat) (ret : Option FieldType) (pc len a b c : Nat) (k : Int32) (i : Instr) : Bool :=
  match i with
  | .iconst n => decide (len = 1 ∧ Int32.ofInt n = k)
  | .bipush n => decide (len = 2 ∧ (Int8.ofInt n).toInt32 = k)
  | .sipush n => decide (len = 3 ∧ (Int16.ofInt n).toInt32 = k)
  | .ldc ix => match c with
    | 0 => decide (len = 2 ∧ (own, ix, k) ∈ am_lkK)
    | _ => decide (len = 2 ∧ own = 7 ∧ (a = 0 ∧ ix = 72 ∨ a = 1 ∧ ix = 78 ∨ a = 2 ∧ ix = 90))
  | .ldc_w ix => decide (len = 3 ∧ (own, ix, k) ∈ am_lkK)
  | .ldc2_w ix => decide (len = 3 ∧ own = 12 ∧ ix = 38 ∧ k = 255)
  | .iload j => decide (len = 2 ∧ j = a)
  | .iload_n j => decide (len = 1 ∧ (j : Nat) = a)
  | .lload_n j => decide (len = 1 ∧ (j : Nat) = a)
  | .aload j => decide (len = 2 ∧ j = a)
  | .aload_n j => decide (len = 1 ∧ (j : Nat) = a)
  | .istore j => decide (len = 2 ∧ j = a ∧ a < mL)
  | .istore_n j => decide (len = 1 ∧ (j : Nat) = a ∧ a < mL)
  | .astore j => decide (len = 2 ∧ j = a ∧ a < mL)
  | .astore_n j => decide (len = 1 ∧ (j : Nat) = a ∧ a < mL)
  | .iinc j n => decide (len = 3 ∧ j = a ∧ Int32.ofInt n = k ∧ a < mL)
  | .goto off => decide (len = 3 ∧ (pc : Int) + off = (a : Int))
  | .ifCond _ off => decide (len = 3 ∧ (pc : Int) + off = (a : Int))
  | .if_icmp _ off => decide (len = 3 ∧ (pc : Int) + off = (a : Int))
  | .ifnonnull off => decide (len = 3 ∧ (pc : Int) + off = (a : Int))
  | .lookupswitch _ ps => (ps.toList.zip (ps.toList.drop 1)).all (fun (a, next) => a.1 < next.1)
  | .tableswitch .. => true
  | .getstatic ix => decide (len = 3 ∧ own = 11 ∧ ix = 211)
  | .getfield ix => decide (len = 3 ∧ (own, ix, a, b) ∈ am_lkF)
  | .putfield ix => decide (len = 3 ∧ (own, ix, a, b, init) ∈ am_lkP)
  | .arraylength => match c with
    | 0 => decide (len = 1 ∧ a < 3)
    | _ => decide (len = 1 ∧ (a = 3 ∨ a = 4))
  | .baload => decide (len = 1 ∧ (a = 1 ∨ a = 2))
  | .bastore => decide (len = 1 ∧ (a = 1 ∨ a = 2))
  | .aaload => decide (len = 1 ∧ (a = 3 ∨ a = 4))
  | .new ix => decide (len = 3 ∧ (own, ix, a) ∈ am_lkN)
  | .newarray t => decide (len = 2 ∧ (a = 0 ∧ t = .int ∨ a = 1 ∧ t = .byte ∨ a = 2 ∧ t = .boolean))
  | .anewarray ix => decide (len = 3 ∧ (own, ix, a) ∈ am_lkQ)
  | .areturn => decide (len = 1) && (match ret with
    | some (.object _) => true
    | some (.array _) => true
    | _ => false)
  | .return_ => decide (len = 1 ∧ ret = none)
  | .invokevirtual ix => decide (len = 3 ∧ (own, ix, a, b, c, k) ∈ am_lkV)
  | .invokestatic ix => decide (len = 3 ∧ (own, ix, a, b, c) ∈ am_lkS)
  | .invokespecial ix => decide (len = 3 ∧ (own, ix, a, b, c) ∈ am_lkI)
  | _ => decide (len = 1)
theorem am_k255 : Cond.constantLong (am_nm 12) 38 255 ∈ am_gt := (am_m 924 (by decide +kernel) rfl)
theorem am_above_in : Cond.fieldLink "DeedProofs" 211 "DeedProofs" "ABOVE" "[I" ∈ am_gt := (am_m 729 (by decide +kernel) rfl)
theorem am_okB_ok {mi : am_MI} {own : Nat} {init : Bool} {pc len a b c : Nat} {k : Int32} {i : Instr} (hn : am_nm own = (am_y mi).cls) (hi : init = true → (am_y mi).name = "<init>") (h : am_okB own init (am_mL mi) (am_ret mi) pc len a b c k i = true) : am_okI am_tab mi pc len a b c k i := by
  cases i
  case ldc ix =>
    cases c with
    | zero => obtain ⟨h1, h2⟩ := of_decide_eq_true h; exact ⟨h1, by rw [← hn]; exact am_lkK_ok _ h2⟩
    | succ c => obtain ⟨h1, h2, h3⟩ := of_decide_eq_true h; subst h2; exact ⟨h1, hn.symm, h3⟩
  case ldc_w ix => obtain ⟨h1, h2⟩ := of_decide_eq_true h; exact ⟨h1, by rw [← hn]; exact am_lkK_ok _ h2⟩
  case ldc2_w ix => obtain ⟨h1, h2, h3, h4⟩ := of_decide_eq_true h; subst h2; subst h3; subst h4; exact ⟨h1, by rw [← hn]; exact am_k255⟩
  case lookupswitch => exact h
  case tableswitch => exact trivial
  case getstatic ix => obtain ⟨h1, h2, h3⟩ := of_decide_eq_true h; subst h2; subst h3; exact ⟨h1, hn.symm, am_above_in⟩
  case getfield ix => obtain ⟨h1, h2⟩ := of_decide_eq_true h; exact ⟨h1, by rw [← hn]; exact am_lkF_ok _ h2⟩
  case putfield ix => obtain ⟨h1, h2⟩ := of_decide_eq_true h; exact ⟨h1, by rw [← hn]; exact am_lkP_ok _ h2 _ hi⟩
  case arraylength =>
    cases c with
    | zero => have h1 := of_decide_eq_true h; exact h1
    | succ c => have h1 := of_decide_eq_true h; exact h1
  case new ix => obtain ⟨h1, h2⟩ := of_decide_eq_true h; exact ⟨h1, by rw [← hn]; exact am_lkN_ok _ h2⟩
  case anewarray ix => obtain ⟨h1, h2⟩ := of_decide_eq_true h; exact ⟨h1, by rw [← hn]; exact am_lkQ_ok _ h2⟩
  case areturn =>
    obtain ⟨h1, h2⟩ := Bool.and_eq_true_iff.mp h
    refine ⟨of_decide_eq_true h1, ?_⟩
    split at h2
    · rename_i x hr; exact ⟨_, hr, Or.inl ⟨x, rfl⟩⟩
    · rename_i x hr; exact ⟨_, hr, Or.inr ⟨x, rfl⟩⟩
    · cases h2
  case invokevirtual ix => obtain ⟨h1, h2⟩ := of_decide_eq_true h; exact ⟨h1, by rw [← hn]; exact am_lkV_ok _ h2⟩
  case invokestatic ix => obtain ⟨h1, h2⟩ := of_decide_eq_true h; exact ⟨h1, by rw [← hn]; exact am_lkS_ok _ h2⟩
  case invokespecial ix => obtain ⟨h1, h2⟩ := of_decide_eq_true h; exact ⟨h1, by rw [← hn]; exact am_lkI_ok _ h2⟩
  all_goals (have h1 := of_decide_eq_true h; exact h1)
def am_chk (own : Nat) (init : Bool) (mi : am_MI) (lo hi : Nat) : Bool := (List.range (hi - lo)).all (fun j => match am_nth (am_ins mi) (lo + j) with
  | some (some (i, len, a, b, c, k)) => decide (decode (am_code mi) (lo + j) = .ok (i, len)) && am_okB own init (am_mL mi) (am_ret mi) (lo + j) len a b c k i
  | _ => true)
theorem am_chk_ok {own : Nat} {init : Bool} {mi : am_MI} {n : Nat} (hn : am_nm own = (am_y mi).cls) (hi : init = true → (am_y mi).name = "<init>") (hl : (am_ins mi).length = n) (h : am_chk own init mi 0 n = true) : am_ok am_tab mi := by
  intro pc len a b c k i hpc
  have hlt : pc < n := by
    rw [am_nth_eq] at hpc
    rw [← hl]
    exact (List.getElem?_eq_some_iff.mp hpc).1
  have h1 := List.all_eq_true.mp h pc (List.mem_range.mpr (by omega))
  rw [Nat.zero_add] at h1
  simp only [hpc] at h1
  obtain ⟨h2, h3⟩ := Bool.and_eq_true_iff.mp h1
  exact ⟨of_decide_eq_true h2, am_okB_ok hn hi h3⟩
