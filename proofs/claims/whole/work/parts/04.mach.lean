/-! THE ABSTRACT MACHINE: what a step asks, and what it says of the real machine -/
abbrev am_y (mi : am_MI) : MethodName := mi.1
abbrev am_code (mi : am_MI) : ByteArray := mi.2.1
abbrev am_mL (mi : am_MI) : Nat := mi.2.2.1
abbrev am_ret (mi : am_MI) : Option FieldType := mi.2.2.2.1
abbrev am_ins (mi : am_MI) : List (Option am_I) := mi.2.2.2.2
def am_X (p : Program) (s : State) (m : MethodId) (meth : Method) (c : Code) (mi : am_MI) (D : va_G) (tc : Nat → ClassId) : Prop :=
  p.tables.exec = Jvm.exec ∧ c.code = am_code mi ∧ meth.sig.returnType = am_ret mi ∧ c.maxLocals = am_mL mi ∧ s.vm.findClass (am_y mi).cls = some m.cls ∧ meth.locks = false ∧ meth.name = (am_y mi).name ∧ am_T s ∧ va_K D am_cls (am_tys tc) s
/-- the room: d frames, kc cells and ks slots are left -/
def am_G (d kc ks cells slots mc ms : Nat) (R : Room) : Prop := d ≤ R.frames ∧ 64 * d ≤ R.locals ∧ cells + kc ≤ mc ∧ slots + ks ≤ ms ∧ mc ≤ R.cells ∧ ms ≤ R.slots
/-- the places that the method began with lie where they lay -/
def am_ag (h0 : am_H) (ad0 ad : Nat → Nat) (h : am_H) : Prop := h0.length ≤ h.length ∧ h.length < 100000 ∧ ∀ i, (i < h0.length ∨ h.length ≤ i) → ad i = ad0 i
def am_Q (D : va_G) (tc : Nat → ClassId) (A : Nat → Prop) (h0 : am_H) (ad0 : Nat → Nat) (Q : Option Value → am_H → Prop) : Array Value → State → Outcome → State → Prop := fun _ st oc t =>
  (∃ (r : Option Value) (h : am_H) (ad : Nat → Nat), oc = .returned (r.map (am_v ad)) ∧ Q r h ∧ am_ag h0 ad0 ad h ∧ va_P D am_cls (am_w ad tc h) t.heap ∧ va_K D am_cls (am_tys tc) t ∧ va_D A (am_w ad tc h)) ∧ va_F A st t
/-- from this frame over this heap the method comes to its end, with Q -/
def am_W (mi : am_MI) (d : Nat) (Q : Option Value → am_H → Prop) (kc ks pc : Nat) (ls : am_L) (st : List Value) (h : am_H) : Prop :=
  ∀ (p : Program) (l : Launch) (e : Env) (R : Room) (s : State) (m : MethodId) (args : Array Value) (below : List Frame) (meth : Method) (c : Code) (D : va_G) (tc : Nat → ClassId) (ad ad0 : Nat → Nat) (h0 : am_H) (A : Nat → Prop) (H : Heap) (locs : List Loc) (cells slots mc ms : Nat) (lsC : Array Slot),
    am_X p s m meth c mi D tc → am_Ev ad0 A s s.heap → (∀ q, s.heap.size ≤ q → A q) → am_G d kc ks cells slots mc ms R → am_ag h0 ad0 ad h →
    va_P D am_cls (am_w ad tc h) H → va_D A (am_w ad tc h) → va_S A s.heap H locs → am_lv ad ls (am_mL mi) lsC →
    W p l e R s m args below meth c H locs cells slots (MQ below (am_Q D tc A h0 ad0 Q) args s mc ms A) (F0 m pc lsC (st.map (am_v ad)))
def am_R (d kc ks : Nat) : Room := { frames := d, cells := kc, slots := ks, locals := 64 * d }
def am_ws (mi : am_MI) : List Cond := [Cond.code (am_y mi) (am_code mi) (am_mL mi) (am_ret mi)]
def am_Pre (D : va_G) (tc : Nat → ClassId) (ad : Nat → Nat) (h : am_H) (sz : Nat) (U : State) : Prop :=
  U.heap.size = sz ∧ am_T U ∧ am_Ev ad (va_A (am_w ad tc h) sz) U U.heap ∧ va_P D am_cls (am_w ad tc h) U.heap ∧ va_K D am_cls (am_tys tc) U ∧ va_D (fun _ => True) (am_w ad tc h) ∧ h.length < 100000
/-- a method's contract -/
def am_Met (mi : am_MI) (d kc ks : Nat) (args : List Value) (h : am_H) (Q : Option Value → am_H → Prop) : Prop :=
  ∀ (l : Launch) (D : va_G) (tc : Nat → ClassId) (ad : Nat → Nat) (sz : Nat),
    Met l (am_y mi) (am_ws mi) (am_R d kc ks) (va_Pc (args.map (am_v ad)) (am_Pre D tc ad h sz)) (am_Q D tc (va_A (am_w ad tc h) sz) h ad Q) kc ks (va_A (am_w ad tc h) sz)
/-- locals at a method's entry -/
def am_in : List Value → am_L
  | [] => []
  | .long v :: l => some (.long v) :: none :: am_in l
  | .double v :: l => some (.double v) :: none :: am_in l
  | v :: l => some v :: am_in l
def am_nones : Nat → am_L
  | 0 => []
  | n + 1 => none :: am_nones n
def am_ent (n : Nat) (args : List Value) : am_L := am_in args ++ am_nones (n - (am_in args).length)
/-- the last n of the stack, in their order, and the rest -/
def am_pop : Nat → List Value → List Value → Option (List Value × List Value)
  | 0, st, acc => some (acc, st)
  | n + 1, v :: st, acc => am_pop n st (v :: acc)
  | _ + 1, [], _ => none
theorem am_pop_eq : ∀ (n : Nat) (st acc As rest : List Value), am_pop n st acc = some (As, rest) → acc.reverse ++ st = As.reverse ++ rest ∧ As.length = acc.length + n
  | 0, st, acc, As, rest, h => by cases h; exact ⟨rfl, rfl⟩
  | n + 1, [], acc, As, rest, h => by cases h
  | n + 1, v :: st, acc, As, rest, h => by
    obtain ⟨h1, h2⟩ := am_pop_eq n st (v :: acc) As rest h
    refine ⟨?_, ?_⟩
    · rw [← h1]; simp
    · rw [h2]; simp; omega
def am_cat (st : List Value) : Nat := (st.map fun v => v.category).sum
/-- types of an array's number, of a field -/
def am_aty : Nat → FieldType
  | 0 => .int
  | 1 => .byte
  | _ => .boolean
def am_fty (ci k : Nat) : FieldType := match ci with
  | 0 => tyX0 k
  | 2 => tyX2 k
  | 6 => tyX6 k
  | 7 => tyX7 k
  | 9 => tyX9 k
  | 10 => tyX10 k
  | 11 => tyX11 k
  | 12 => tyX12 k
  | _ => .int
def am_fit : FieldType → Value → Prop
  | .int, .int _ => True
  | .boolean, .int x => narrow .boolean (.int x) = .int x ∧ fits .boolean (.int x) = true
  | .object _, .ref _ => True
  | .object _, .null => True
  | .array _, .ref _ => True
  | .array _, .null => True
  | _, _ => False
/-- a new object's fields -/
def am_new : Nat → List Value
  | 0 => [.null, .null, .null, .null, .null, .null, .null, .int 0, .null, .null, .null, .null, .null, .null, .null, .null, .null, .int 0]
  | 2 => [.null, .null, .null, .null, .null, .null, .int 0]
  | 6 => (List.range 8).map (fun k => defaultValue (tyX6 k))
  | 7 => (List.range 5).map (fun k => defaultValue (tyX7 k))
  | 9 => (List.range 6).map (fun k => defaultValue (tyX9 k))
  | 10 => (List.range 5).map (fun k => defaultValue (tyX10 k))
  | 11 => (List.range 7).map (fun k => defaultValue (tyX11 k))
  | 12 => (List.range 15).map (fun k => defaultValue (tyX12 k))
  | _ => []
/-- the place n is named nowhere -/
def am_nrV (n : Nat) : Value → Prop
  | .ref i => i ≠ n
  | _ => True
def am_nrC (n : Nat) : am_C → Prop
  | .inl _ => True
  | .inr (.inl (_, _, f)) => ∀ j, f j ≠ some n
  | .inr (.inr (_, fs)) => ∀ v ∈ fs, am_nrV n v
def am_nr (n : Nat) (ls : am_L) (st : List Value) (h : am_H) : Prop := (∀ v, some v ∈ ls → am_nrV n v) ∧ (∀ v ∈ st, am_nrV n v) ∧ ∀ c ∈ h, am_nrC n c
abbrev am_K : Type := Nat → Nat → Nat → am_L → List Value → am_H → Prop
/-- no reference to a place from lo on and ahead of hi -/
def am_nsV (lo hi : Nat) : Value → Prop
  | .ref i => i < lo ∨ hi ≤ i
  | _ => True
def am_ns (lo hi : Nat) (ls : am_L) (st : List Value) : Prop := (∀ v, some v ∈ ls → am_nsV lo hi v) ∧ ∀ v ∈ st, am_nsV lo hi v
/-- a call: by a contract of the callee -/
def am_call (mi : am_MI) (d kc ks : Nat) (args rest : List Value) (ls : am_L) (h : am_H) (go : Nat → Nat → Option Value → am_H → Prop) : Prop :=
  ∃ (d' kc' ks' : Nat) (P : Option Value → am_H → Prop), d' + 1 ≤ d ∧ kc' ≤ kc ∧ ks' ≤ ks ∧ am_cat rest ≤ 8 ∧ am_Met mi d' kc' ks' args h P ∧ ∀ (r : Option Value) (h' : am_H), P r h' → (h'.length = h.length ∨ am_ns h.length h'.length ls rest) ∧ go (kc - kc') (ks - ks') r h'
/-- a branch: its two ways -/
def am_br (co : ClassFile.Cond) (x y : Int32) (T F : Prop) : Prop := match co with
  | .eq => (x = y → T) ∧ (¬ x = y → F)
  | .ne => (¬ x = y → T) ∧ (x = y → F)
  | .lt => (x < y → T) ∧ (¬ x < y → F)
  | .ge => (y ≤ x → T) ∧ (¬ y ≤ x → F)
  | .gt => (y < x → T) ∧ (¬ y < x → F)
  | .le => (x ≤ y → T) ∧ (¬ x ≤ y → F)
/-- the method that a receiver of class ci has for an act that Line tells: by the callee's number -/
def am_sel (a ci : Nat) : Nat := a + ci
def am_do (tab : Nat → am_MI) (mi : am_MI) (d : Nat) (Q : Option Value → am_H → Prop) (K : am_K) (kc ks pc : Nat) (ls : am_L) (st : List Value) (h : am_H) (len a b c : Nat) (k : Int32) (i : Instr) : Prop :=
  match i with
  | .iconst _ => K kc ks (pc + len) ls (.int k :: st) h
  | .bipush _ => K kc ks (pc + len) ls (.int k :: st) h
  | .sipush _ => K kc ks (pc + len) ls (.int k :: st) h
  | .ldc _ => match c with
    | 0 => K kc ks (pc + len) ls (.int k :: st) h
    | _ => K kc ks (pc + len) ls (.ref (100000 + a) :: st) h
  | .ldc_w _ => K kc ks (pc + len) ls (.int k :: st) h
  | .ldc2_w _ => K kc ks (pc + len) ls (.long k.toInt64 :: st) h
  | .aconst_null => K kc ks (pc + len) ls (.null :: st) h
  | .iload _ => match am_nth ls a with
    | some (some (.int x)) => K kc ks (pc + len) ls (.int x :: st) h
    | _ => False
  | .iload_n _ => match am_nth ls a with
    | some (some (.int x)) => K kc ks (pc + len) ls (.int x :: st) h
    | _ => False
  | .lload_n _ => match am_nth ls a with
    | some (some (.long x)) => K kc ks (pc + len) ls (.long x :: st) h
    | _ => False
  | .aload _ => match am_nth ls a with
    | some (some (.ref x)) => K kc ks (pc + len) ls (.ref x :: st) h
    | some (some .null) => K kc ks (pc + len) ls (.null :: st) h
    | _ => False
  | .aload_n _ => match am_nth ls a with
    | some (some (.ref x)) => K kc ks (pc + len) ls (.ref x :: st) h
    | some (some .null) => K kc ks (pc + len) ls (.null :: st) h
    | _ => False
  | .istore _ => match am_nl ls a, st with
    | true, .int x :: st => K kc ks (pc + len) (am_put ls a (some (.int x))) st h
    | _, _ => False
  | .istore_n _ => match am_nl ls a, st with
    | true, .int x :: st => K kc ks (pc + len) (am_put ls a (some (.int x))) st h
    | _, _ => False
  | .astore _ => match am_nl ls a, st with
    | true, .ref x :: st => K kc ks (pc + len) (am_put ls a (some (.ref x))) st h
    | _, _ => False
  | .astore_n _ => match am_nl ls a, st with
    | true, .ref x :: st => K kc ks (pc + len) (am_put ls a (some (.ref x))) st h
    | _, _ => False
  | .iinc _ _ => match am_nl ls a, am_nth ls a with
    | true, some (some (.int x)) => K kc ks (pc + len) (am_put ls a (some (.int (x + k)))) st h
    | _, _ => False
  | .iadd => match st with
    | .int y :: .int x :: st => K kc ks (pc + len) ls (.int (x + y) :: st) h
    | _ => False
  | .isub => match st with
    | .int y :: .int x :: st => K kc ks (pc + len) ls (.int (x - y) :: st) h
    | _ => False
  | .imul => match st with
    | .int y :: .int x :: st => K kc ks (pc + len) ls (.int (x * y) :: st) h
    | _ => False
  | .idiv => match st with
    | .int y :: .int x :: st => ¬ y = 0 ∧ K kc ks (pc + len) ls (.int (x / y) :: st) h
    | _ => False
  | .irem => match st with
    | .int y :: .int x :: st => ¬ y = 0 ∧ K kc ks (pc + len) ls (.int (x - x / y * y) :: st) h
    | _ => False
  | .ineg => match st with
    | .int x :: st => K kc ks (pc + len) ls (.int (-x) :: st) h
    | _ => False
  | .iand => match st with
    | .int y :: .int x :: st => K kc ks (pc + len) ls (.int (x &&& y) :: st) h
    | _ => False
  | .ior => match st with
    | .int y :: .int x :: st => K kc ks (pc + len) ls (.int (x ||| y) :: st) h
    | _ => False
  | .ixor => match st with
    | .int y :: .int x :: st => K kc ks (pc + len) ls (.int (x ^^^ y) :: st) h
    | _ => False
  | .ishl => match st with
    | .int y :: .int x :: st => K kc ks (pc + len) ls (.int (x <<< (y &&& 31)) :: st) h
    | _ => False
  | .ishr => match st with
    | .int y :: .int x :: st => K kc ks (pc + len) ls (.int (x >>> (y &&& 31)) :: st) h
    | _ => False
  | .iushr => match st with
    | .int y :: .int x :: st => K kc ks (pc + len) ls (.int (x.toUInt32 >>> (y.toUInt32 &&& Int32.toUInt32 31)).toInt32 :: st) h
    | _ => False
  | .land => match st with
    | .long y :: .long x :: st => K kc ks (pc + len) ls (.long (x &&& y) :: st) h
    | _ => False
  | .lshr => match st with
    | .int y :: .long x :: st => K kc ks (pc + len) ls (.long (x >>> (y.toInt64 &&& 63)) :: st) h
    | _ => False
  | .lushr => match st with
    | .int y :: .long x :: st => K kc ks (pc + len) ls (.long (x.toUInt64 >>> (y.toInt64.toUInt64 &&& Int64.toUInt64 63)).toInt64 :: st) h
    | _ => False
  | .l2i => match st with
    | .long x :: st => K kc ks (pc + len) ls (.int x.toInt32 :: st) h
    | _ => False
  | .i2b => match st with
    | .int x :: st => K kc ks (pc + len) ls (.int x.toInt8.toInt32 :: st) h
    | _ => False
  | .i2c => match st with
    | .int x :: st => K kc ks (pc + len) ls (.int (x.toUInt32 % 65536).toInt32 :: st) h
    | _ => False
  | .dup => match st with
    | .int x :: st => K kc ks (pc + len) ls (.int x :: .int x :: st) h
    | .ref x :: st => K kc ks (pc + len) ls (.ref x :: .ref x :: st) h
    | _ => False
  | .dup2 => match st with
    | .int y :: .ref x :: st => K kc ks (pc + len) ls (.int y :: .ref x :: .int y :: .ref x :: st) h
    | _ => False
  | .pop => match st with
    | .int _ :: st => K kc ks (pc + len) ls st h
    | .ref _ :: st => K kc ks (pc + len) ls st h
    | _ => False
  | .goto _ => K kc ks a ls st h
  | .ifCond co _ => match st with
    | .int x :: st => am_br co x 0 (K kc ks a ls st h) (K kc ks (pc + len) ls st h)
    | _ => False
  | .if_icmp co _ => match st with
    | .int y :: .int x :: st => am_br co x y (K kc ks a ls st h) (K kc ks (pc + len) ls st h)
    | _ => False
  | .ifnonnull _ => match st with
    | .ref _ :: st => K kc ks a ls st h
    | .null :: st => K kc ks (pc + len) ls st h
    | _ => False
  | .tableswitch dflt lo hi offs => match st with
    | .int x :: st => ∃ tgt : Nat, ((x.toInt < lo ∨ hi < x.toInt) ∧ (pc : Int) + dflt = (tgt : Int) ∨ ¬ x.toInt < lo ∧ ¬ hi < x.toInt ∧ ∃ off, offs[(x.toInt - lo).toNat]? = some off ∧ (pc : Int) + off = (tgt : Int)) ∧ K kc ks tgt ls st h
    | _ => False
  | .lookupswitch dflt ps => match st with
    | .int x :: st => ∃ tgt : Nat, (pc : Int) + Op.lookupswitch.offset ps.toList dflt x.toInt = (tgt : Int) ∧ K kc ks tgt ls st h
    | _ => False
  | .getstatic _ => K kc ks (pc + len) ls (.ref 100003 :: st) h
  | .getfield _ => match st with
    | .ref o :: st => ∃ (fs : List Value) (v : Value), am_nth h o = some (.inr (.inr (a, fs))) ∧ am_nth fs b = some v ∧ K kc ks (pc + len) ls (v :: st) h
    | _ => False
  | .putfield _ => match st with
    | v :: .ref o :: st => ∃ (fs : List Value), am_nth h o = some (.inr (.inr (a, fs))) ∧ b < fs.length ∧ am_fit (am_fty a b) v ∧ K kc ks (pc + len) ls st (am_put h o (.inr (.inr (a, am_put fs b v))))
    | _ => False
  | .arraylength => match st with
    | .ref o :: st => match c with
      | 0 => ∃ (n : Nat) (f : Nat → Int32), am_nth h o = some (.inl (a, n, f)) ∧ K kc ks (pc + len) ls (.int (Int32.ofNat n) :: st) h
      | _ => ∃ (n : Nat) (f : Nat → Option Nat), am_nth h o = some (.inr (.inl (a, n, f))) ∧ K kc ks (pc + len) ls (.int (Int32.ofNat n) :: st) h
    | _ => False
  | .iaload => match st with
    | .int i :: .ref o :: st => match c with
      | 0 => ∃ (n : Nat) (f : Nat → Int32) (j : Nat), am_nth h o = some (.inl (0, n, f)) ∧ i = nI j ∧ j < n ∧ n ≤ 1000000 ∧ K kc ks (pc + len) ls (.int (f j) :: st) h
      | _ => o = 100003 ∧ ∃ j : Nat, i = nI j ∧ j < 5 ∧ K kc ks (pc + len) ls (.int (am_abv j) :: st) h
    | _ => False
  | .baload => match st with
    | .int i :: .ref o :: st => ∃ (n : Nat) (f : Nat → Int32) (j : Nat), am_nth h o = some (.inl (a, n, f)) ∧ i = nI j ∧ j < n ∧ n ≤ 1000000 ∧ K kc ks (pc + len) ls (.int (f j) :: st) h
    | _ => False
  | .iastore => match st with
    | .int x :: .int i :: .ref o :: st => ∃ (n : Nat) (f : Nat → Int32) (j : Nat), am_nth h o = some (.inl (0, n, f)) ∧ i = nI j ∧ j < n ∧ n ≤ 1000000 ∧ K kc ks (pc + len) ls st (am_put h o (.inl (0, n, upd f j x)))
    | _ => False
  | .bastore => match st with
    | .int x :: .int i :: .ref o :: st => ∃ (n : Nat) (f : Nat → Int32) (j : Nat), am_nth h o = some (.inl (a, n, f)) ∧ i = nI j ∧ j < n ∧ n ≤ 1000000 ∧ K kc ks (pc + len) ls st (am_put h o (.inl (a, n, upd f j (vp_nar (am_aty a) x))))
    | _ => False
  | .aaload => match st with
    | .int i :: .ref o :: st => ∃ (n : Nat) (f : Nat → Option Nat) (j q : Nat), am_nth h o = some (.inr (.inl (a, n, f))) ∧ i = nI j ∧ j < n ∧ n ≤ 1000000 ∧ f j = some q ∧ K kc ks (pc + len) ls (.ref q :: st) h
    | _ => False
  | .aastore => match st with
    | .ref v :: .int i :: .ref o :: st => ∃ (n : Nat) (f : Nat → Option Nat) (j ci : Nat) (fs : List Value), am_nth h o = some (.inr (.inl (a, n, f))) ∧ am_nth h v = some (.inr (.inr (ci, fs))) ∧ (a = 3 ∧ ci = 10 ∨ a = 4 ∧ (ci = 1 ∨ ci = 3 ∨ ci = 4 ∨ ci = 5 ∨ ci = 8)) ∧ i = nI j ∧ j < n ∧ n ≤ 1000000 ∧ K kc ks (pc + len) ls st (am_put h o (.inr (.inl (a, n, va_up f j (some v)))))
    | _ => False
  | .new _ => 1 ≤ kc ∧ (am_new a).length ≤ ks ∧ h.length + 1 < 100000 ∧ am_nr h.length ls st h ∧ K (kc - 1) (ks - (am_new a).length) (pc + len) ls (.ref h.length :: st) (h ++ [.inr (.inr (a, am_new a))])
  | .newarray _ => match st with
    | .int n :: st => 1 ≤ kc ∧ n.toNatClampNeg ≤ ks ∧ ¬ n < 0 ∧ n.toNatClampNeg < 100000 ∧ h.length + 1 < 100000 ∧ am_nr h.length ls st h ∧ K (kc - 1) (ks - n.toNatClampNeg) (pc + len) ls (.ref h.length :: st) (h ++ [.inl (a, n.toNatClampNeg, fun _ => 0)])
    | _ => False
  | .anewarray _ => match st with
    | .int n :: st => 1 ≤ kc ∧ n.toNatClampNeg ≤ ks ∧ ¬ n < 0 ∧ n.toNatClampNeg < 100000 ∧ h.length + 1 < 100000 ∧ am_nr h.length ls st h ∧ K (kc - 1) (ks - n.toNatClampNeg) (pc + len) ls (.ref h.length :: st) (h ++ [.inr (.inl (a, n.toNatClampNeg, fun _ => none))])
    | _ => False
  | .ireturn => match st with
    | [.int v] => (match am_ret mi with
      | some .int => True
      | some ty => narrow ty (.int v) = .int v
      | none => False) ∧ Q (some (.int v)) h
    | _ => False
  | .areturn => match st with
    | [.ref o] => Q (some (.ref o)) h
    | _ => False
  | .return_ => match st with
    | [] => Q none h
    | _ => False
  | .invokevirtual _ => match am_pop b st [] with
    | some (As, .ref o :: rest) => match c with
      | 0 => ∃ fs : List Value, am_nth h o = some (.inr (.inr (k.toInt.toNat, fs))) ∧ am_call (tab a) d kc ks (.ref o :: As) rest ls h (fun kc ks r h => K kc ks (pc + 3) ls (r.toList ++ rest) h)
      | 1 => ∃ fs : List Value, am_nth h o = some (.inr (.inr (k.toInt.toNat, fs))) ∧ am_call (tab a) d kc ks (.ref o :: As) rest ls h (fun kc ks r h => K kc ks (pc + 3) ls (r.toList ++ rest) h)
      | 2 => o < 100003 ∧ 100000 ≤ o ∧ am_call (tab a) d kc ks (.ref o :: As) rest ls h (fun kc ks r h => K kc ks (pc + 3) ls (r.toList ++ rest) h)
      | 3 => ∃ (ci : Nat) (fs : List Value), am_nth h o = some (.inr (.inr (ci, fs))) ∧ (ci = 1 ∨ ci = 3 ∨ ci = 4 ∨ ci = 5 ∨ ci = 8) ∧ am_call (tab (am_sel a ci)) d kc ks (.ref o :: As) rest ls h (fun kc ks r h => K kc ks (pc + 3) ls (r.toList ++ rest) h)
      | _ => ∃ fs : List Value, am_nth h o = some (.inr (.inr (k.toInt.toNat, fs))) ∧ am_call (tab a) d kc ks (.ref o :: As) rest ls h (fun kc ks r h => K kc ks (pc + 3) ls (r.toList ++ rest) h)
    | _ => False
  | .invokestatic _ => match c with
    | 2 => match st with
      | .int n :: .int dp :: .ref o1 :: .int sp :: .ref o0 :: rest => ∃ (n0 n1 : Nat) (f g : Nat → Int32), am_nth h o0 = some (.inl (a, n0, f)) ∧ am_nth h o1 = some (.inl (a, n1, g)) ∧ ¬ sp < 0 ∧ ¬ dp < 0 ∧ ¬ n < 0 ∧ sp.toNatClampNeg + n.toNatClampNeg ≤ n0 ∧ dp.toNatClampNeg + n.toNatClampNeg ≤ n1 ∧ (∀ i, i < n.toNatClampNeg → fits (am_aty a) (.int (f (sp.toNatClampNeg + i))) = true) ∧ 1 ≤ d ∧ am_cat rest ≤ 8 ∧
          K kc ks (pc + 3) ls rest (am_put h o1 (.inl (a, n1, va_cpy f g sp.toNatClampNeg dp.toNatClampNeg n.toNatClampNeg)))
      | _ => False
    | _ => match am_pop b st [] with
      | some (As, rest) => am_call (tab a) d kc ks As rest ls h (fun kc ks r h => K kc ks (pc + 3) ls (r.toList ++ rest) h)
      | _ => False
  | .invokespecial _ => match am_pop b st [] with
    | some (As, .ref o :: rest) => match c with
      | 0 => am_call (tab a) d kc ks (.ref o :: As) rest ls h (fun kc ks r h => K kc ks (pc + 3) ls (r.toList ++ rest) h)
      | 1 => am_call (tab a) d kc ks (.ref o :: As) rest ls h (fun kc ks r h => K kc ks (pc + 3) ls (r.toList ++ rest) h)
      | 2 => 1 ≤ d ∧ am_cat rest ≤ 8 ∧ K kc ks (pc + 3) ls rest h
      | _ => ∃ (ci : Nat) (fs : List Value) (q : vw_C), am_cls[ci]? = some q ∧ am_nth h o = some (.inr (.inr (ci, fs))) ∧ am_call (tab a) d kc ks (.ref o :: As) rest ls h (fun kc ks r h => K kc ks (pc + 3) ls (r.toList ++ rest) h)
    | _ => False
  | _ => False
def am_mem : List Nat → Nat → Bool
  | [], _ => false
  | a :: l, n => if Nat.beq a n then true else am_mem l n
/-- a step; then K -/
def am_st (tab : Nat → am_MI) (mi : am_MI) (d : Nat) (Q : Option Value → am_H → Prop) (K : am_K) : am_K := fun kc ks pc ls st h => match am_nth (am_ins mi) pc with
  | some (some (i, len, a, b, c, k)) => am_do tab mi d Q K kc ks pc ls st h len a b c k i
  | _ => False
/-- steps up to n, or till a place of S is reached -/
def am_wp (tab : Nat → am_MI) (mi : am_MI) (d : Nat) (Q : Option Value → am_H → Prop) (S : List Nat) : Nat → am_K
  | 0 => am_W mi d Q
  | n + 1 => fun kc ks pc ls st h => match am_mem S pc with
    | true => am_W mi d Q kc ks pc ls st h
    | false => am_st tab mi d Q (am_wp tab mi d Q S n) kc ks pc ls st h
