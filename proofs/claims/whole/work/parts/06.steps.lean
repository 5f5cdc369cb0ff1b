/-! THE STEPS: a row an instruction -/
section AMS
variable {mi : am_MI} {d : Nat} {Q : Option Value → am_H → Prop} {kc ks pc : Nat} {ls : am_L} {st : List Value} {h : am_H}
theorem am_s_iadd {x y : Int32} (hd : decode (am_code mi) pc = .ok (.iadd, 1)) (hk : am_W mi d Q kc ks (pc + 1) ls (.int (x + y) :: st) h) : am_W mi d Q kc ks pc ls (.int y :: .int x :: st) h := by
  intro p l e R s m args below meth c D tc ad ad0 h0 A H locs cells slots mc ms lsC hX hE hA hG hag hP hD hS hl
  exact lv_iadd hX.1 hX.2.1 hd  (hk p l e R s m args below meth c D tc ad ad0 h0 A H locs cells slots mc ms lsC hX hE hA hG hag hP hD hS hl)
theorem am_s_isub {x y : Int32} (hd : decode (am_code mi) pc = .ok (.isub, 1)) (hk : am_W mi d Q kc ks (pc + 1) ls (.int (x - y) :: st) h) : am_W mi d Q kc ks pc ls (.int y :: .int x :: st) h := by
  intro p l e R s m args below meth c D tc ad ad0 h0 A H locs cells slots mc ms lsC hX hE hA hG hag hP hD hS hl
  exact lv_isub hX.1 hX.2.1 hd  (hk p l e R s m args below meth c D tc ad ad0 h0 A H locs cells slots mc ms lsC hX hE hA hG hag hP hD hS hl)
theorem am_s_imul {x y : Int32} (hd : decode (am_code mi) pc = .ok (.imul, 1)) (hk : am_W mi d Q kc ks (pc + 1) ls (.int (x * y) :: st) h) : am_W mi d Q kc ks pc ls (.int y :: .int x :: st) h := by
  intro p l e R s m args below meth c D tc ad ad0 h0 A H locs cells slots mc ms lsC hX hE hA hG hag hP hD hS hl
  exact lv_imul hX.1 hX.2.1 hd  (hk p l e R s m args below meth c D tc ad ad0 h0 A H locs cells slots mc ms lsC hX hE hA hG hag hP hD hS hl)
theorem am_s_iand {x y : Int32} (hd : decode (am_code mi) pc = .ok (.iand, 1)) (hk : am_W mi d Q kc ks (pc + 1) ls (.int (x &&& y) :: st) h) : am_W mi d Q kc ks pc ls (.int y :: .int x :: st) h := by
  intro p l e R s m args below meth c D tc ad ad0 h0 A H locs cells slots mc ms lsC hX hE hA hG hag hP hD hS hl
  exact lv_iand hX.1 hX.2.1 hd  (hk p l e R s m args below meth c D tc ad ad0 h0 A H locs cells slots mc ms lsC hX hE hA hG hag hP hD hS hl)
theorem am_s_ior {x y : Int32} (hd : decode (am_code mi) pc = .ok (.ior, 1)) (hk : am_W mi d Q kc ks (pc + 1) ls (.int (x ||| y) :: st) h) : am_W mi d Q kc ks pc ls (.int y :: .int x :: st) h := by
  intro p l e R s m args below meth c D tc ad ad0 h0 A H locs cells slots mc ms lsC hX hE hA hG hag hP hD hS hl
  exact lv_ior hX.1 hX.2.1 hd  (hk p l e R s m args below meth c D tc ad ad0 h0 A H locs cells slots mc ms lsC hX hE hA hG hag hP hD hS hl)
theorem am_s_ixor {x y : Int32} (hd : decode (am_code mi) pc = .ok (.ixor, 1)) (hk : am_W mi d Q kc ks (pc + 1) ls (.int (x ^^^ y) :: st) h) : am_W mi d Q kc ks pc ls (.int y :: .int x :: st) h := by
  intro p l e R s m args below meth c D tc ad ad0 h0 A H locs cells slots mc ms lsC hX hE hA hG hag hP hD hS hl
  exact lv_ixor hX.1 hX.2.1 hd  (hk p l e R s m args below meth c D tc ad ad0 h0 A H locs cells slots mc ms lsC hX hE hA hG hag hP hD hS hl)
theorem am_s_ishl {x y : Int32} (hd : decode (am_code mi) pc = .ok (.ishl, 1)) (hk : am_W mi d Q kc ks (pc + 1) ls (.int (x <<< (y &&& 31)) :: st) h) : am_W mi d Q kc ks pc ls (.int y :: .int x :: st) h := by
  intro p l e R s m args below meth c D tc ad ad0 h0 A H locs cells slots mc ms lsC hX hE hA hG hag hP hD hS hl
  exact lv_ishl hX.1 hX.2.1 hd  (hk p l e R s m args below meth c D tc ad ad0 h0 A H locs cells slots mc ms lsC hX hE hA hG hag hP hD hS hl)
theorem am_s_ishr {x y : Int32} (hd : decode (am_code mi) pc = .ok (.ishr, 1)) (hk : am_W mi d Q kc ks (pc + 1) ls (.int (x >>> (y &&& 31)) :: st) h) : am_W mi d Q kc ks pc ls (.int y :: .int x :: st) h := by
  intro p l e R s m args below meth c D tc ad ad0 h0 A H locs cells slots mc ms lsC hX hE hA hG hag hP hD hS hl
  exact lv_ishr hX.1 hX.2.1 hd  (hk p l e R s m args below meth c D tc ad ad0 h0 A H locs cells slots mc ms lsC hX hE hA hG hag hP hD hS hl)
theorem am_s_idiv {x y : Int32} (hne : ¬ y = 0) (hd : decode (am_code mi) pc = .ok (.idiv, 1)) (hk : am_W mi d Q kc ks (pc + 1) ls (.int (x / y) :: st) h) : am_W mi d Q kc ks pc ls (.int y :: .int x :: st) h := by
  intro p l e R s m args below meth c D tc ad ad0 h0 A H locs cells slots mc ms lsC hX hE hA hG hag hP hD hS hl
  exact lv_idiv hX.1 hX.2.1 hd hne (hk p l e R s m args below meth c D tc ad ad0 h0 A H locs cells slots mc ms lsC hX hE hA hG hag hP hD hS hl)
theorem am_s_irem {x y : Int32} (hne : ¬ y = 0) (hd : decode (am_code mi) pc = .ok (.irem, 1)) (hk : am_W mi d Q kc ks (pc + 1) ls (.int (x - x / y * y) :: st) h) : am_W mi d Q kc ks pc ls (.int y :: .int x :: st) h := by
  intro p l e R s m args below meth c D tc ad ad0 h0 A H locs cells slots mc ms lsC hX hE hA hG hag hP hD hS hl
  exact lv_irem hX.1 hX.2.1 hd hne (hk p l e R s m args below meth c D tc ad ad0 h0 A H locs cells slots mc ms lsC hX hE hA hG hag hP hD hS hl)
theorem am_s_iushr {x y : Int32} (hd : decode (am_code mi) pc = .ok (.iushr, 1)) (hk : am_W mi d Q kc ks (pc + 1) ls (.int (x.toUInt32 >>> (y.toUInt32 &&& Int32.toUInt32 31)).toInt32 :: st) h) : am_W mi d Q kc ks pc ls (.int y :: .int x :: st) h := by
  intro p l e R s m args below meth c D tc ad ad0 h0 A H locs cells slots mc ms lsC hX hE hA hG hag hP hD hS hl
  exact lv_iushr hX.1 hX.2.1 hd rfl (hk p l e R s m args below meth c D tc ad ad0 h0 A H locs cells slots mc ms lsC hX hE hA hG hag hP hD hS hl)
theorem am_s_ineg {x : Int32} (hd : decode (am_code mi) pc = .ok (.ineg, 1)) (hk : am_W mi d Q kc ks (pc + 1) ls (.int (-x) :: st) h) : am_W mi d Q kc ks pc ls (.int x :: st) h := by
  intro p l e R s m args below meth c D tc ad ad0 h0 A H locs cells slots mc ms lsC hX hE hA hG hag hP hD hS hl
  exact lv_ineg hX.1 hX.2.1 hd  (hk p l e R s m args below meth c D tc ad ad0 h0 A H locs cells slots mc ms lsC hX hE hA hG hag hP hD hS hl)
theorem am_s_land {x y : Int64} (hd : decode (am_code mi) pc = .ok (.land, 1)) (hk : am_W mi d Q kc ks (pc + 1) ls (.long (x &&& y) :: st) h) : am_W mi d Q kc ks pc ls (.long y :: .long x :: st) h := by
  intro p l e R s m args below meth c D tc ad ad0 h0 A H locs cells slots mc ms lsC hX hE hA hG hag hP hD hS hl
  exact lv_land hX.1 hX.2.1 hd  (hk p l e R s m args below meth c D tc ad ad0 h0 A H locs cells slots mc ms lsC hX hE hA hG hag hP hD hS hl)
theorem am_s_lshr {x : Int64} {y : Int32} (hd : decode (am_code mi) pc = .ok (.lshr, 1)) (hk : am_W mi d Q kc ks (pc + 1) ls (.long (x >>> (y.toInt64 &&& 63)) :: st) h) : am_W mi d Q kc ks pc ls (.int y :: .long x :: st) h := by
  intro p l e R s m args below meth c D tc ad ad0 h0 A H locs cells slots mc ms lsC hX hE hA hG hag hP hD hS hl
  exact lv_lshr hX.1 hX.2.1 hd rfl (hk p l e R s m args below meth c D tc ad ad0 h0 A H locs cells slots mc ms lsC hX hE hA hG hag hP hD hS hl)
theorem am_s_lushr {x : Int64} {y : Int32} (hd : decode (am_code mi) pc = .ok (.lushr, 1)) (hk : am_W mi d Q kc ks (pc + 1) ls (.long (x.toUInt64 >>> (y.toInt64.toUInt64 &&& Int64.toUInt64 63)).toInt64 :: st) h) : am_W mi d Q kc ks pc ls (.int y :: .long x :: st) h := by
  intro p l e R s m args below meth c D tc ad ad0 h0 A H locs cells slots mc ms lsC hX hE hA hG hag hP hD hS hl
  exact lv_lushr hX.1 hX.2.1 hd rfl (hk p l e R s m args below meth c D tc ad ad0 h0 A H locs cells slots mc ms lsC hX hE hA hG hag hP hD hS hl)
theorem am_s_l2i {x : Int64} (hd : decode (am_code mi) pc = .ok (.l2i, 1)) (hk : am_W mi d Q kc ks (pc + 1) ls (.int x.toInt32 :: st) h) : am_W mi d Q kc ks pc ls (.long x :: st) h := by
  intro p l e R s m args below meth c D tc ad ad0 h0 A H locs cells slots mc ms lsC hX hE hA hG hag hP hD hS hl
  exact lv_l2i hX.1 hX.2.1 hd rfl (hk p l e R s m args below meth c D tc ad ad0 h0 A H locs cells slots mc ms lsC hX hE hA hG hag hP hD hS hl)
theorem am_s_i2b {x : Int32} (hd : decode (am_code mi) pc = .ok (.i2b, 1)) (hk : am_W mi d Q kc ks (pc + 1) ls (.int x.toInt8.toInt32 :: st) h) : am_W mi d Q kc ks pc ls (.int x :: st) h := by
  intro p l e R s m args below meth c D tc ad ad0 h0 A H locs cells slots mc ms lsC hX hE hA hG hag hP hD hS hl
  exact lv_i2b hX.1 hX.2.1 hd rfl (hk p l e R s m args below meth c D tc ad ad0 h0 A H locs cells slots mc ms lsC hX hE hA hG hag hP hD hS hl)
theorem am_s_i2c {x : Int32} (hd : decode (am_code mi) pc = .ok (.i2c, 1)) (hk : am_W mi d Q kc ks (pc + 1) ls (.int (x.toUInt32 % 65536).toInt32 :: st) h) : am_W mi d Q kc ks pc ls (.int x :: st) h := by
  intro p l e R s m args below meth c D tc ad ad0 h0 A H locs cells slots mc ms lsC hX hE hA hG hag hP hD hS hl
  exact lv_i2c hX.1 hX.2.1 hd rfl (hk p l e R s m args below meth c D tc ad ad0 h0 A H locs cells slots mc ms lsC hX hE hA hG hag hP hD hS hl)
theorem am_s_dupi {x : Int32} (hd : decode (am_code mi) pc = .ok (.dup, 1)) (hk : am_W mi d Q kc ks (pc + 1) ls (.int x :: .int x :: st) h) : am_W mi d Q kc ks pc ls (.int x :: st) h := by
  intro p l e R s m args below meth c D tc ad ad0 h0 A H locs cells slots mc ms lsC hX hE hA hG hag hP hD hS hl
  exact lv_dup hX.1 hX.2.1 hd rfl (hk p l e R s m args below meth c D tc ad ad0 h0 A H locs cells slots mc ms lsC hX hE hA hG hag hP hD hS hl)
theorem am_s_dupr {x : Nat} (hd : decode (am_code mi) pc = .ok (.dup, 1)) (hk : am_W mi d Q kc ks (pc + 1) ls (.ref x :: .ref x :: st) h) : am_W mi d Q kc ks pc ls (.ref x :: st) h := by
  intro p l e R s m args below meth c D tc ad ad0 h0 A H locs cells slots mc ms lsC hX hE hA hG hag hP hD hS hl
  exact lv_dup hX.1 hX.2.1 hd rfl (hk p l e R s m args below meth c D tc ad ad0 h0 A H locs cells slots mc ms lsC hX hE hA hG hag hP hD hS hl)
theorem am_s_dup2 {y : Int32} {x : Nat} (hd : decode (am_code mi) pc = .ok (.dup2, 1)) (hk : am_W mi d Q kc ks (pc + 1) ls (.int y :: .ref x :: .int y :: .ref x :: st) h) : am_W mi d Q kc ks pc ls (.int y :: .ref x :: st) h := by
  intro p l e R s m args below meth c D tc ad ad0 h0 A H locs cells slots mc ms lsC hX hE hA hG hag hP hD hS hl
  exact lv_dup2_11 hX.1 hX.2.1 hd rfl rfl (hk p l e R s m args below meth c D tc ad ad0 h0 A H locs cells slots mc ms lsC hX hE hA hG hag hP hD hS hl)
theorem am_s_popi {x : Int32} (hd : decode (am_code mi) pc = .ok (.pop, 1)) (hk : am_W mi d Q kc ks (pc + 1) ls st h) : am_W mi d Q kc ks pc ls (.int x :: st) h := by
  intro p l e R s m args below meth c D tc ad ad0 h0 A H locs cells slots mc ms lsC hX hE hA hG hag hP hD hS hl
  exact lv_pop (va := .int x) hX.1 hX.2.1 hd rfl (hk p l e R s m args below meth c D tc ad ad0 h0 A H locs cells slots mc ms lsC hX hE hA hG hag hP hD hS hl)
theorem am_s_popr {x : Nat} (hd : decode (am_code mi) pc = .ok (.pop, 1)) (hk : am_W mi d Q kc ks (pc + 1) ls st h) : am_W mi d Q kc ks pc ls (.ref x :: st) h := by
  intro p l e R s m args below meth c D tc ad ad0 h0 A H locs cells slots mc ms lsC hX hE hA hG hag hP hD hS hl
  exact lv_pop (va := .ref (ad x)) hX.1 hX.2.1 hd rfl (hk p l e R s m args below meth c D tc ad ad0 h0 A H locs cells slots mc ms lsC hX hE hA hG hag hP hD hS hl)
theorem am_s_iconst {n : Int} {k : Int32} (hv : Int32.ofInt n = k) (hd : decode (am_code mi) pc = .ok (.iconst n, 1)) (hk : am_W mi d Q kc ks (pc + 1) ls (.int k :: st) h) : am_W mi d Q kc ks pc ls st h := by
  intro p l e R s m args below meth c D tc ad ad0 h0 A H locs cells slots mc ms lsC hX hE hA hG hag hP hD hS hl
  exact lv_iconst hX.1 hX.2.1 hd hv (hk p l e R s m args below meth c D tc ad ad0 h0 A H locs cells slots mc ms lsC hX hE hA hG hag hP hD hS hl)
theorem am_s_bipush {n : Int} {k : Int32} (hv : (Int8.ofInt n).toInt32 = k) (hd : decode (am_code mi) pc = .ok (.bipush n, 2)) (hk : am_W mi d Q kc ks (pc + 2) ls (.int k :: st) h) : am_W mi d Q kc ks pc ls st h := by
  intro p l e R s m args below meth c D tc ad ad0 h0 A H locs cells slots mc ms lsC hX hE hA hG hag hP hD hS hl
  exact lv_bipush hX.1 hX.2.1 hd hv (hk p l e R s m args below meth c D tc ad ad0 h0 A H locs cells slots mc ms lsC hX hE hA hG hag hP hD hS hl)
theorem am_s_sipush {n : Int} {k : Int32} (hv : (Int16.ofInt n).toInt32 = k) (hd : decode (am_code mi) pc = .ok (.sipush n, 3)) (hk : am_W mi d Q kc ks (pc + 3) ls (.int k :: st) h) : am_W mi d Q kc ks pc ls st h := by
  intro p l e R s m args below meth c D tc ad ad0 h0 A H locs cells slots mc ms lsC hX hE hA hG hag hP hD hS hl
  exact lv_sipush hX.1 hX.2.1 hd hv (hk p l e R s m args below meth c D tc ad ad0 h0 A H locs cells slots mc ms lsC hX hE hA hG hag hP hD hS hl)
theorem am_s_ldc {ix : Nat} {k : Int32} (hw : Cond.constant (am_y mi).cls ix k ∈ am_gt) (hd : decode (am_code mi) pc = .ok (.ldc ix, 2)) (hk : am_W mi d Q kc ks (pc + 2) ls (.int k :: st) h) : am_W mi d Q kc ks pc ls st h := by
  intro p l e R s m args below meth c D tc ad ad0 h0 A H locs cells slots mc ms lsC hX hE hA hG hag hP hD hS hl
  exact lv_ldc hX.1 hX.2.1 hX.2.2.2.2.1 (hX.2.2.2.2.2.2.2.1 _ hw args) hd (hk p l e R s m args below meth c D tc ad ad0 h0 A H locs cells slots mc ms lsC hX hE hA hG hag hP hD hS hl)
theorem am_s_ldcw {ix : Nat} {k : Int32} (hw : Cond.constant (am_y mi).cls ix k ∈ am_gt) (hd : decode (am_code mi) pc = .ok (.ldc_w ix, 3)) (hk : am_W mi d Q kc ks (pc + 3) ls (.int k :: st) h) : am_W mi d Q kc ks pc ls st h := by
  intro p l e R s m args below meth c D tc ad ad0 h0 A H locs cells slots mc ms lsC hX hE hA hG hag hP hD hS hl
  exact lv_ldcw hX.1 hX.2.1 hX.2.2.2.2.1 (hX.2.2.2.2.2.2.2.1 _ hw args) hd (hk p l e R s m args below meth c D tc ad ad0 h0 A H locs cells slots mc ms lsC hX hE hA hG hag hP hD hS hl)
theorem am_s_ldc2 {ix : Nat} {k : Int64} (hw : Cond.constantLong (am_y mi).cls ix k ∈ am_gt) (hd : decode (am_code mi) pc = .ok (.ldc2_w ix, 3)) (hk : am_W mi d Q kc ks (pc + 3) ls (.long k :: st) h) : am_W mi d Q kc ks pc ls st h := by
  intro p l e R s m args below meth c D tc ad ad0 h0 A H locs cells slots mc ms lsC hX hE hA hG hag hP hD hS hl
  exact lv_ldc2 hX.1 hX.2.1 hX.2.2.2.2.1 (hX.2.2.2.2.2.2.2.1 _ hw args) hd (hk p l e R s m args below meth c D tc ad ad0 h0 A H locs cells slots mc ms lsC hX hE hA hG hag hP hD hS hl)
theorem am_s_str0 (ho : (am_y mi).cls = "DeedProofs$RuleReader") (hd : decode (am_code mi) pc = .ok (.ldc 72, 2)) (hk : am_W mi d Q kc ks (pc + 2) ls (.ref 100000 :: st) h) : am_W mi d Q kc ks pc ls st h := by
  intro p l e R s m args below meth c D tc ad ad0 h0 A H locs cells slots mc ms lsC hX hE hA hG hag hP hD hS hl
  have hR := hE.2.1.1
  rw [← hag.2.2 100000 (Or.inr (by have := hag.2.1; omega)), ← ho] at hR
  exact va_ldcS hX.1 hX.2.1 hX.2.2.2.2.1 hR hd (hk p l e R s m args below meth c D tc ad ad0 h0 A H locs cells slots mc ms lsC hX hE hA hG hag hP hD hS hl)
theorem am_s_str1 (ho : (am_y mi).cls = "DeedProofs$RuleReader") (hd : decode (am_code mi) pc = .ok (.ldc 78, 2)) (hk : am_W mi d Q kc ks (pc + 2) ls (.ref 100001 :: st) h) : am_W mi d Q kc ks pc ls st h := by
  intro p l e R s m args below meth c D tc ad ad0 h0 A H locs cells slots mc ms lsC hX hE hA hG hag hP hD hS hl
  have hR := hE.2.1.2.1
  rw [← hag.2.2 100001 (Or.inr (by have := hag.2.1; omega)), ← ho] at hR
  exact va_ldcS hX.1 hX.2.1 hX.2.2.2.2.1 hR hd (hk p l e R s m args below meth c D tc ad ad0 h0 A H locs cells slots mc ms lsC hX hE hA hG hag hP hD hS hl)
theorem am_s_str2 (ho : (am_y mi).cls = "DeedProofs$RuleReader") (hd : decode (am_code mi) pc = .ok (.ldc 90, 2)) (hk : am_W mi d Q kc ks (pc + 2) ls (.ref 100002 :: st) h) : am_W mi d Q kc ks pc ls st h := by
  intro p l e R s m args below meth c D tc ad ad0 h0 A H locs cells slots mc ms lsC hX hE hA hG hag hP hD hS hl
  have hR := hE.2.1.2.2
  rw [← hag.2.2 100002 (Or.inr (by have := hag.2.1; omega)), ← ho] at hR
  exact va_ldcS hX.1 hX.2.1 hX.2.2.2.2.1 hR hd (hk p l e R s m args below meth c D tc ad ad0 h0 A H locs cells slots mc ms lsC hX hE hA hG hag hP hD hS hl)
theorem am_s_null  (hd : decode (am_code mi) pc = .ok (.aconst_null, 1)) (hk : am_W mi d Q kc ks (pc + 1) ls (.null :: st) h) : am_W mi d Q kc ks pc ls st h := by
  intro p l e R s m args below meth c D tc ad ad0 h0 A H locs cells slots mc ms lsC hX hE hA hG hag hP hD hS hl
  exact lv_null hX.1 hX.2.1 hd  (hk p l e R s m args below meth c D tc ad ad0 h0 A H locs cells slots mc ms lsC hX hE hA hG hag hP hD hS hl)
theorem am_s_iload {a : Nat} {x : Int32} (hv : am_nth ls a = some (some (.int x))) (hd : decode (am_code mi) pc = .ok (.iload a, 2)) (hk : am_W mi d Q kc ks (pc + 2) ls ((.int x) :: st) h) : am_W mi d Q kc ks pc ls st h := by
  intro p l e R s m args below meth c D tc ad ad0 h0 A H locs cells slots mc ms lsC hX hE hA hG hag hP hD hS hl
  exact lv_iload hX.1 hX.2.1 hd (am_lv.get hl hv) (hk p l e R s m args below meth c D tc ad ad0 h0 A H locs cells slots mc ms lsC hX hE hA hG hag hP hD hS hl)
theorem am_s_iload_n {a : Nat} {x : Int32} {j : Fin 4} (hv : am_nth ls a = some (some (.int x))) (hd : decode (am_code mi) pc = .ok (.iload_n j, 1)) (hi : (j : Nat) = a) (hk : am_W mi d Q kc ks (pc + 1) ls ((.int x) :: st) h) : am_W mi d Q kc ks pc ls st h := by
  intro p l e R s m args below meth c D tc ad ad0 h0 A H locs cells slots mc ms lsC hX hE hA hG hag hP hD hS hl
  exact lv_iload_n hX.1 hX.2.1 hd hi (am_lv.get hl hv) (hk p l e R s m args below meth c D tc ad ad0 h0 A H locs cells slots mc ms lsC hX hE hA hG hag hP hD hS hl)
theorem am_s_lload_n {a : Nat} {x : Int64} {j : Fin 4} (hv : am_nth ls a = some (some (.long x))) (hd : decode (am_code mi) pc = .ok (.lload_n j, 1)) (hi : (j : Nat) = a) (hk : am_W mi d Q kc ks (pc + 1) ls ((.long x) :: st) h) : am_W mi d Q kc ks pc ls st h := by
  intro p l e R s m args below meth c D tc ad ad0 h0 A H locs cells slots mc ms lsC hX hE hA hG hag hP hD hS hl
  exact lv_lload_n hX.1 hX.2.1 hd hi (am_lv.get hl hv) (hk p l e R s m args below meth c D tc ad ad0 h0 A H locs cells slots mc ms lsC hX hE hA hG hag hP hD hS hl)
theorem am_s_aload {a : Nat} {x : Nat} (hv : am_nth ls a = some (some (.ref x))) (hd : decode (am_code mi) pc = .ok (.aload a, 2)) (hk : am_W mi d Q kc ks (pc + 2) ls ((.ref x) :: st) h) : am_W mi d Q kc ks pc ls st h := by
  intro p l e R s m args below meth c D tc ad ad0 h0 A H locs cells slots mc ms lsC hX hE hA hG hag hP hD hS hl
  exact lv_aload hX.1 hX.2.1 hd (am_lv.get hl hv) (hk p l e R s m args below meth c D tc ad ad0 h0 A H locs cells slots mc ms lsC hX hE hA hG hag hP hD hS hl)
theorem am_s_aload_n {a : Nat} {x : Nat} {j : Fin 4} (hv : am_nth ls a = some (some (.ref x))) (hd : decode (am_code mi) pc = .ok (.aload_n j, 1)) (hi : (j : Nat) = a) (hk : am_W mi d Q kc ks (pc + 1) ls ((.ref x) :: st) h) : am_W mi d Q kc ks pc ls st h := by
  intro p l e R s m args below meth c D tc ad ad0 h0 A H locs cells slots mc ms lsC hX hE hA hG hag hP hD hS hl
  exact lv_aload_n hX.1 hX.2.1 hd hi (am_lv.get hl hv) (hk p l e R s m args below meth c D tc ad ad0 h0 A H locs cells slots mc ms lsC hX hE hA hG hag hP hD hS hl)
theorem am_s_aloadN {a : Nat}  (hv : am_nth ls a = some (some .null)) (hd : decode (am_code mi) pc = .ok (.aload a, 2)) (hk : am_W mi d Q kc ks (pc + 2) ls (.null :: st) h) : am_W mi d Q kc ks pc ls st h := by
  intro p l e R s m args below meth c D tc ad ad0 h0 A H locs cells slots mc ms lsC hX hE hA hG hag hP hD hS hl
  exact lv_aloadN hX.1 hX.2.1 hd (am_lv.get hl hv) (hk p l e R s m args below meth c D tc ad ad0 h0 A H locs cells slots mc ms lsC hX hE hA hG hag hP hD hS hl)
theorem am_s_aload_nN {a : Nat} {j : Fin 4} (hv : am_nth ls a = some (some .null)) (hd : decode (am_code mi) pc = .ok (.aload_n j, 1)) (hi : (j : Nat) = a) (hk : am_W mi d Q kc ks (pc + 1) ls (.null :: st) h) : am_W mi d Q kc ks pc ls st h := by
  intro p l e R s m args below meth c D tc ad ad0 h0 A H locs cells slots mc ms lsC hX hE hA hG hag hP hD hS hl
  exact lv_aload_nN hX.1 hX.2.1 hd hi (am_lv.get hl hv) (hk p l e R s m args below meth c D tc ad ad0 h0 A H locs cells slots mc ms lsC hX hE hA hG hag hP hD hS hl)
theorem am_s_istore {a : Nat} {x : Int32} (hn : am_nl ls a = true) (ha : a < am_mL mi) (hd : decode (am_code mi) pc = .ok (.istore a, 2)) (hk : am_W mi d Q kc ks (pc + 2) (am_put ls a (some (.int x))) st h) : am_W mi d Q kc ks pc ls ((.int x) :: st) h := by
  intro p l e R s m args below meth c D tc ad ad0 h0 A H locs cells slots mc ms lsC hX hE hA hG hag hP hD hS hl
  exact lv_istore hX.1 hX.2.1 hd hl ha rfl (fun ls' hl' => (hk p l e R s m args below meth c D tc ad ad0 h0 A H locs cells slots mc ms ls' hX hE hA hG hag hP hD hS (am_lv.put hn hl')))
theorem am_s_istore_n {a : Nat} {x : Int32} {j : Fin 4} (hn : am_nl ls a = true) (ha : a < am_mL mi) (hd : decode (am_code mi) pc = .ok (.istore_n j, 1)) (hi : (j : Nat) = a) (hk : am_W mi d Q kc ks (pc + 1) (am_put ls a (some (.int x))) st h) : am_W mi d Q kc ks pc ls ((.int x) :: st) h := by
  intro p l e R s m args below meth c D tc ad ad0 h0 A H locs cells slots mc ms lsC hX hE hA hG hag hP hD hS hl
  exact lv_istore_n hX.1 hX.2.1 hd hi hl ha rfl (fun ls' hl' => (hk p l e R s m args below meth c D tc ad ad0 h0 A H locs cells slots mc ms ls' hX hE hA hG hag hP hD hS (am_lv.put hn hl')))
theorem am_s_astore {a : Nat} {x : Nat} (hn : am_nl ls a = true) (ha : a < am_mL mi) (hd : decode (am_code mi) pc = .ok (.astore a, 2)) (hk : am_W mi d Q kc ks (pc + 2) (am_put ls a (some (.ref x))) st h) : am_W mi d Q kc ks pc ls ((.ref x) :: st) h := by
  intro p l e R s m args below meth c D tc ad ad0 h0 A H locs cells slots mc ms lsC hX hE hA hG hag hP hD hS hl
  exact lv_astore hX.1 hX.2.1 hd hl ha rfl (fun ls' hl' => (hk p l e R s m args below meth c D tc ad ad0 h0 A H locs cells slots mc ms ls' hX hE hA hG hag hP hD hS (am_lv.put hn hl')))
theorem am_s_astore_n {a : Nat} {x : Nat} {j : Fin 4} (hn : am_nl ls a = true) (ha : a < am_mL mi) (hd : decode (am_code mi) pc = .ok (.astore_n j, 1)) (hi : (j : Nat) = a) (hk : am_W mi d Q kc ks (pc + 1) (am_put ls a (some (.ref x))) st h) : am_W mi d Q kc ks pc ls ((.ref x) :: st) h := by
  intro p l e R s m args below meth c D tc ad ad0 h0 A H locs cells slots mc ms lsC hX hE hA hG hag hP hD hS hl
  exact lv_astore_n hX.1 hX.2.1 hd hi hl ha rfl (fun ls' hl' => (hk p l e R s m args below meth c D tc ad ad0 h0 A H locs cells slots mc ms ls' hX hE hA hG hag hP hD hS (am_lv.put hn hl')))
theorem am_s_iinc {a : Nat} {n : Int} {x k : Int32} (hn : am_nl ls a = true) (ha : a < am_mL mi) (hv : Int32.ofInt n = k) (hx : am_nth ls a = some (some (.int x))) (hd : decode (am_code mi) pc = .ok (.iinc a n, 3)) (hk : am_W mi d Q kc ks (pc + 3) (am_put ls a (some (.int (x + k)))) st h) : am_W mi d Q kc ks pc ls st h := by
  intro p l e R s m args below meth c D tc ad ad0 h0 A H locs cells slots mc ms lsC hX hE hA hG hag hP hD hS hl
  have hm : (a, Value.int x) ∈ am_al ad 0 ls := (am_al_mem ls 0 _).mpr ⟨a, .int x, by simp [am_v], hx⟩
  obtain ⟨j, hj⟩ := List.getElem?_of_mem hm
  exact lv_iinc (v := x + k) hX.1 hX.2.1 hd hl (k := j) hj (by rw [hv]) ha rfl (fun ls' hl' => (hk p l e R s m args below meth c D tc ad ad0 h0 A H locs cells slots mc ms ls' hX hE hA hG hag hP hD hS (am_lv.put (v := .int (x + k)) hn hl')))
theorem am_s_goto {a : Nat} {off : Int} (ht : (pc : Int) + off = (a : Int)) (hd : decode (am_code mi) pc = .ok (.goto off, 3)) (hk : am_W mi d Q kc ks a ls st h) : am_W mi d Q kc ks pc ls st h := by
  intro p l e R s m args below meth c D tc ad ad0 h0 A H locs cells slots mc ms lsC hX hE hA hG hag hP hD hS hl
  exact lv_goto hX.1 hX.2.1 hd ht (hk p l e R s m args below meth c D tc ad ad0 h0 A H locs cells slots mc ms lsC hX hE hA hG hag hP hD hS hl)
theorem am_s_if {co : ClassFile.Cond} {a : Nat} {off : Int} {x : Int32} (ht : (pc : Int) + off = (a : Int)) (hd : decode (am_code mi) pc = .ok (.ifCond co off, 3)) (hk : am_br co x 0 (am_W mi d Q kc ks a ls st h) (am_W mi d Q kc ks (pc + 3) ls st h)) : am_W mi d Q kc ks pc ls (.int x :: st) h := by
  intro p l e R s m args below meth c D tc ad ad0 h0 A H locs cells slots mc ms lsC hX hE hA hG hag hP hD hS hl
  cases co
  · exact lv_if_eq hX.1 hX.2.1 hd ht (fun z => (hk.1 z p l e R s m args below meth c D tc ad ad0 h0 A H locs cells slots mc ms lsC hX hE hA hG hag hP hD hS hl)) (fun z => (hk.2 z p l e R s m args below meth c D tc ad ad0 h0 A H locs cells slots mc ms lsC hX hE hA hG hag hP hD hS hl))
  · exact lv_if_ne hX.1 hX.2.1 hd ht (fun z => (hk.1 z p l e R s m args below meth c D tc ad ad0 h0 A H locs cells slots mc ms lsC hX hE hA hG hag hP hD hS hl)) (fun z => (hk.2 z p l e R s m args below meth c D tc ad ad0 h0 A H locs cells slots mc ms lsC hX hE hA hG hag hP hD hS hl))
  · exact lv_if_lt hX.1 hX.2.1 hd ht (fun z => (hk.1 z p l e R s m args below meth c D tc ad ad0 h0 A H locs cells slots mc ms lsC hX hE hA hG hag hP hD hS hl)) (fun z => (hk.2 z p l e R s m args below meth c D tc ad ad0 h0 A H locs cells slots mc ms lsC hX hE hA hG hag hP hD hS hl))
  · exact lv_if_ge hX.1 hX.2.1 hd ht (fun z => (hk.1 z p l e R s m args below meth c D tc ad ad0 h0 A H locs cells slots mc ms lsC hX hE hA hG hag hP hD hS hl)) (fun z => (hk.2 z p l e R s m args below meth c D tc ad ad0 h0 A H locs cells slots mc ms lsC hX hE hA hG hag hP hD hS hl))
  · exact lv_if_gt hX.1 hX.2.1 hd ht (fun z => (hk.1 z p l e R s m args below meth c D tc ad ad0 h0 A H locs cells slots mc ms lsC hX hE hA hG hag hP hD hS hl)) (fun z => (hk.2 z p l e R s m args below meth c D tc ad ad0 h0 A H locs cells slots mc ms lsC hX hE hA hG hag hP hD hS hl))
  · exact lv_if_le hX.1 hX.2.1 hd ht (fun z => (hk.1 z p l e R s m args below meth c D tc ad ad0 h0 A H locs cells slots mc ms lsC hX hE hA hG hag hP hD hS hl)) (fun z => (hk.2 z p l e R s m args below meth c D tc ad ad0 h0 A H locs cells slots mc ms lsC hX hE hA hG hag hP hD hS hl))
theorem am_s_icmp {co : ClassFile.Cond} {a : Nat} {off : Int} {x y : Int32} (ht : (pc : Int) + off = (a : Int)) (hd : decode (am_code mi) pc = .ok (.if_icmp co off, 3)) (hk : am_br co x y (am_W mi d Q kc ks a ls st h) (am_W mi d Q kc ks (pc + 3) ls st h)) : am_W mi d Q kc ks pc ls (.int y :: .int x :: st) h := by
  intro p l e R s m args below meth c D tc ad ad0 h0 A H locs cells slots mc ms lsC hX hE hA hG hag hP hD hS hl
  cases co
  · exact lv_icmp_eq hX.1 hX.2.1 hd ht (fun z => (hk.1 z p l e R s m args below meth c D tc ad ad0 h0 A H locs cells slots mc ms lsC hX hE hA hG hag hP hD hS hl)) (fun z => (hk.2 z p l e R s m args below meth c D tc ad ad0 h0 A H locs cells slots mc ms lsC hX hE hA hG hag hP hD hS hl))
  · exact lv_icmp_ne hX.1 hX.2.1 hd ht (fun z => (hk.1 z p l e R s m args below meth c D tc ad ad0 h0 A H locs cells slots mc ms lsC hX hE hA hG hag hP hD hS hl)) (fun z => (hk.2 z p l e R s m args below meth c D tc ad ad0 h0 A H locs cells slots mc ms lsC hX hE hA hG hag hP hD hS hl))
  · exact lv_icmp_lt hX.1 hX.2.1 hd ht (fun z => (hk.1 z p l e R s m args below meth c D tc ad ad0 h0 A H locs cells slots mc ms lsC hX hE hA hG hag hP hD hS hl)) (fun z => (hk.2 z p l e R s m args below meth c D tc ad ad0 h0 A H locs cells slots mc ms lsC hX hE hA hG hag hP hD hS hl))
  · exact lv_icmp_ge hX.1 hX.2.1 hd ht (fun z => (hk.1 z p l e R s m args below meth c D tc ad ad0 h0 A H locs cells slots mc ms lsC hX hE hA hG hag hP hD hS hl)) (fun z => (hk.2 z p l e R s m args below meth c D tc ad ad0 h0 A H locs cells slots mc ms lsC hX hE hA hG hag hP hD hS hl))
  · exact lv_icmp_gt hX.1 hX.2.1 hd ht (fun z => (hk.1 z p l e R s m args below meth c D tc ad ad0 h0 A H locs cells slots mc ms lsC hX hE hA hG hag hP hD hS hl)) (fun z => (hk.2 z p l e R s m args below meth c D tc ad ad0 h0 A H locs cells slots mc ms lsC hX hE hA hG hag hP hD hS hl))
  · exact lv_icmp_le hX.1 hX.2.1 hd ht (fun z => (hk.1 z p l e R s m args below meth c D tc ad ad0 h0 A H locs cells slots mc ms lsC hX hE hA hG hag hP hD hS hl)) (fun z => (hk.2 z p l e R s m args below meth c D tc ad ad0 h0 A H locs cells slots mc ms lsC hX hE hA hG hag hP hD hS hl))
theorem am_s_nonnull {a x : Nat} {off : Int} (ht : (pc : Int) + off = (a : Int)) (hd : decode (am_code mi) pc = .ok (.ifnonnull off, 3)) (hk : am_W mi d Q kc ks a ls st h) : am_W mi d Q kc ks pc ls (.ref x :: st) h := by
  intro p l e R s m args below meth c D tc ad ad0 h0 A H locs cells slots mc ms lsC hX hE hA hG hag hP hD hS hl
  exact lv_ifnonnull hX.1 hX.2.1 hd ht (hk p l e R s m args below meth c D tc ad ad0 h0 A H locs cells slots mc ms lsC hX hE hA hG hag hP hD hS hl)
theorem am_s_nonnullN {off : Int} (hd : decode (am_code mi) pc = .ok (.ifnonnull off, 3)) (hk : am_W mi d Q kc ks (pc + 3) ls st h) : am_W mi d Q kc ks pc ls (.null :: st) h := by
  intro p l e R s m args below meth c D tc ad ad0 h0 A H locs cells slots mc ms lsC hX hE hA hG hag hP hD hS hl
  exact lv_ifnonnullN hX.1 hX.2.1 hd (hk p l e R s m args below meth c D tc ad ad0 h0 A H locs cells slots mc ms lsC hX hE hA hG hag hP hD hS hl)
theorem am_s_tabO {dflt lo hi : Int} {offs : Array Int} {ln tgt : Nat} {x : Int32} (hx : x.toInt < lo ∨ hi < x.toInt) (ht : (pc : Int) + dflt = (tgt : Int)) (hd : decode (am_code mi) pc = .ok (.tableswitch dflt lo hi offs, ln)) (hk : am_W mi d Q kc ks tgt ls st h) : am_W mi d Q kc ks pc ls (.int x :: st) h := by
  intro p l e R s m args below meth c D tc ad ad0 h0 A H locs cells slots mc ms lsC hX hE hA hG hag hP hD hS hl
  exact lv_tableOut hX.1 hX.2.1 hd hx ht (hk p l e R s m args below meth c D tc ad ad0 h0 A H locs cells slots mc ms lsC hX hE hA hG hag hP hD hS hl)
theorem am_s_tabI {dflt lo hi off : Int} {offs : Array Int} {ln tgt : Nat} {x : Int32} (h1 : ¬ x.toInt < lo) (h2 : ¬ hi < x.toInt) (ho : offs[(x.toInt - lo).toNat]? = some off) (ht : (pc : Int) + off = (tgt : Int)) (hd : decode (am_code mi) pc = .ok (.tableswitch dflt lo hi offs, ln)) (hk : am_W mi d Q kc ks tgt ls st h) : am_W mi d Q kc ks pc ls (.int x :: st) h := by
  intro p l e R s m args below meth c D tc ad ad0 h0 A H locs cells slots mc ms lsC hX hE hA hG hag hP hD hS hl
  exact lv_tableIn hX.1 hX.2.1 hd h1 h2 ho ht (hk p l e R s m args below meth c D tc ad ad0 h0 A H locs cells slots mc ms lsC hX hE hA hG hag hP hD hS hl)
theorem am_s_look {dflt : Int} {ps : Array (Int × Int)} {ln tgt : Nat} {x : Int32} (hs : (ps.toList.zip (ps.toList.drop 1)).all (fun (a, next) => a.1 < next.1) = true) (ht : (pc : Int) + Op.lookupswitch.offset ps.toList dflt x.toInt = (tgt : Int)) (hd : decode (am_code mi) pc = .ok (.lookupswitch dflt ps, ln)) (hk : am_W mi d Q kc ks tgt ls st h) : am_W mi d Q kc ks pc ls (.int x :: st) h := by
  intro p l e R s m args below meth c D tc ad ad0 h0 A H locs cells slots mc ms lsC hX hE hA hG hag hP hD hS hl
  exact lv_lookup hX.1 hX.2.1 hd hs rfl ht (hk p l e R s m args below meth c D tc ad ad0 h0 A H locs cells slots mc ms lsC hX hE hA hG hag hP hD hS hl)
theorem am_s_iald {o n : Nat} {f : Nat → Int32} {i : Int32} (hc : am_nth h o = some (.inl (0, n, f))) (hin : vp_in i n) (hd : decode (am_code mi) pc = .ok (.iaload, 1)) (hk : am_W mi d Q kc ks (pc + 1) ls (.int (f i.toNatClampNeg) :: st) h) : am_W mi d Q kc ks pc ls (.int i :: .ref o :: st) h := by
  intro p l e R s m args below meth c D tc ad ad0 h0 A H locs cells slots mc ms lsC hX hE hA hG hag hP hD hS hl
  exact va_iald hX.1 hX.2.1 hX.2.2.2.2.2.2.2.2 hP o 0 (am_w_at hc) rfl hin hd (hk p l e R s m args below meth c D tc ad ad0 h0 A H locs cells slots mc ms lsC hX hE hA hG hag hP hD hS hl)
theorem am_s_bald {a o n : Nat} {f : Nat → Int32} {i : Int32} (ha : a = 1 ∨ a = 2) (hc : am_nth h o = some (.inl (a, n, f))) (hin : vp_in i n) (hd : decode (am_code mi) pc = .ok (.baload, 1)) (hk : am_W mi d Q kc ks (pc + 1) ls (.int (f i.toNatClampNeg) :: st) h) : am_W mi d Q kc ks pc ls (.int i :: .ref o :: st) h := by
  intro p l e R s m args below meth c D tc ad ad0 h0 A H locs cells slots mc ms lsC hX hE hA hG hag hP hD hS hl
  rcases ha with rfl | rfl
  · exact va_bald hX.1 hX.2.1 hX.2.2.2.2.2.2.2.2 hP o 1 (am_w_at hc) rfl hin hd (hk p l e R s m args below meth c D tc ad ad0 h0 A H locs cells slots mc ms lsC hX hE hA hG hag hP hD hS hl)
  · exact va_zald hX.1 hX.2.1 hX.2.2.2.2.2.2.2.2 hP o 2 (am_w_at hc) rfl hin hd (hk p l e R s m args below meth c D tc ad ad0 h0 A H locs cells slots mc ms lsC hX hE hA hG hag hP hD hS hl)
theorem am_s_iast {o n : Nat} {f : Nat → Int32} {i x : Int32} (hc : am_nth h o = some (.inl (0, n, f))) (hin : vp_in i n) (hd : decode (am_code mi) pc = .ok (.iastore, 1)) (hk : am_W mi d Q kc ks (pc + 1) ls st (am_put h o (.inl (0, n, upd f i.toNatClampNeg x)))) : am_W mi d Q kc ks pc ls (.int x :: .int i :: .ref o :: st) h := by
  intro p l e R s m args below meth c D tc ad ad0 h0 A H locs cells slots mc ms lsC hX hE hA hG hag hP hD hS hl
  exact va_iast hX.1 hX.2.1 hX.2.2.2.2.2.2.2.2 hP hD hS o 0 (am_w_at hc) rfl hin hd (fun H1 locs1 hP1 hD1 hS1 => (hk p l e R s m args below meth c D tc ad ad0 h0 A H1 locs1 cells slots mc ms lsC hX hE hA hG ⟨by rw [am_put_len]; exact hag.1, by rw [am_put_len]; exact hag.2.1, by rw [am_put_len]; exact hag.2.2⟩ (by rw [am_w_put]; exact hP1) (by rw [am_w_put]; exact hD1) hS1 hl))
theorem am_s_bast {a o n : Nat} {f : Nat → Int32} {i x : Int32} (ha : a = 1 ∨ a = 2) (hc : am_nth h o = some (.inl (a, n, f))) (hin : vp_in i n) (hd : decode (am_code mi) pc = .ok (.bastore, 1)) (hk : am_W mi d Q kc ks (pc + 1) ls st (am_put h o (.inl (a, n, upd f i.toNatClampNeg (vp_nar (am_aty a) x))))) : am_W mi d Q kc ks pc ls (.int x :: .int i :: .ref o :: st) h := by
  intro p l e R s m args below meth c D tc ad ad0 h0 A H locs cells slots mc ms lsC hX hE hA hG hag hP hD hS hl
  rcases ha with rfl | rfl
  · exact va_bast hX.1 hX.2.1 hX.2.2.2.2.2.2.2.2 hP hD hS o 1 (am_w_at hc) rfl hin hd (fun H1 locs1 hP1 hD1 hS1 => (hk p l e R s m args below meth c D tc ad ad0 h0 A H1 locs1 cells slots mc ms lsC hX hE hA hG ⟨by rw [am_put_len]; exact hag.1, by rw [am_put_len]; exact hag.2.1, by rw [am_put_len]; exact hag.2.2⟩ (by rw [am_w_put]; exact hP1) (by rw [am_w_put]; exact hD1) hS1 hl))
  · exact va_zast hX.1 hX.2.1 hX.2.2.2.2.2.2.2.2 hP hD hS o 2 (am_w_at hc) rfl hin hd (fun H1 locs1 hP1 hD1 hS1 => (hk p l e R s m args below meth c D tc ad ad0 h0 A H1 locs1 cells slots mc ms lsC hX hE hA hG ⟨by rw [am_put_len]; exact hag.1, by rw [am_put_len]; exact hag.2.1, by rw [am_put_len]; exact hag.2.2⟩ (by rw [am_w_put]; exact hP1) (by rw [am_w_put]; exact hD1) hS1 hl))
theorem am_s_len {a o n : Nat} {f : Nat → Int32} (ha : a < 3) (hc : am_nth h o = some (.inl (a, n, f))) (hd : decode (am_code mi) pc = .ok (.arraylength, 1)) (hk : am_W mi d Q kc ks (pc + 1) ls (.int (Int32.ofNat n) :: st) h) : am_W mi d Q kc ks pc ls (.ref o :: st) h := by
  intro p l e R s m args below meth c D tc ad ad0 h0 A H locs cells slots mc ms lsC hX hE hA hG hag hP hD hS hl
  rcases (show a = 0 ∨ a = 1 ∨ a = 2 by omega) with rfl | rfl | rfl
  · exact va_alen hX.1 hX.2.1 hX.2.2.2.2.2.2.2.2 hP o 0 (am_w_at hc) rfl rfl hd (hk p l e R s m args below meth c D tc ad ad0 h0 A H locs cells slots mc ms lsC hX hE hA hG hag hP hD hS hl)
  · exact va_alen hX.1 hX.2.1 hX.2.2.2.2.2.2.2.2 hP o 1 (am_w_at hc) rfl rfl hd (hk p l e R s m args below meth c D tc ad ad0 h0 A H locs cells slots mc ms lsC hX hE hA hG hag hP hD hS hl)
  · exact va_alen hX.1 hX.2.1 hX.2.2.2.2.2.2.2.2 hP o 2 (am_w_at hc) rfl rfl hd (hk p l e R s m args below meth c D tc ad ad0 h0 A H locs cells slots mc ms lsC hX hE hA hG hag hP hD hS hl)
theorem am_s_lenq {a o n : Nat} {f : Nat → Option Nat} (ha : a = 3 ∨ a = 4) (hc : am_nth h o = some (.inr (.inl (a, n, f)))) (hd : decode (am_code mi) pc = .ok (.arraylength, 1)) (hk : am_W mi d Q kc ks (pc + 1) ls (.int (Int32.ofNat n) :: st) h) : am_W mi d Q kc ks pc ls (.ref o :: st) h := by
  intro p l e R s m args below meth c D tc ad ad0 h0 A H locs cells slots mc ms lsC hX hE hA hG hag hP hD hS hl
  rcases ha with rfl | rfl
  · exact va_alen hX.1 hX.2.1 hX.2.2.2.2.2.2.2.2 hP o 3 (am_w_at hc) rfl rfl hd (hk p l e R s m args below meth c D tc ad ad0 h0 A H locs cells slots mc ms lsC hX hE hA hG hag hP hD hS hl)
  · exact va_alen hX.1 hX.2.1 hX.2.2.2.2.2.2.2.2 hP o 4 (am_w_at hc) rfl rfl hd (hk p l e R s m args below meth c D tc ad ad0 h0 A H locs cells slots mc ms lsC hX hE hA hG hag hP hD hS hl)
theorem am_s_aald {a o n j : Nat} {f : Nat → Option Nat} {i : Int32} (ha : a = 3 ∨ a = 4) (hc : am_nth h o = some (.inr (.inl (a, n, f)))) (hin : vp_in i n) (hf : f i.toNatClampNeg = some j) (hd : decode (am_code mi) pc = .ok (.aaload, 1)) (hk : am_W mi d Q kc ks (pc + 1) ls (.ref j :: st) h) : am_W mi d Q kc ks pc ls (.int i :: .ref o :: st) h := by
  intro p l e R s m args below meth c D tc ad ad0 h0 A H locs cells slots mc ms lsC hX hE hA hG hag hP hD hS hl
  rcases ha with rfl | rfl
  · refine va_aldq hX.1 hX.2.1 hX.2.2.2.2.2.2.2.2 hP o 3 (am_w_at hc) rfl hin hd ?_
    show W _ _ _ _ _ _ _ _ _ _ _ _ _ _ _ (F0 _ _ _ (va_rf ((f i.toNatClampNeg).map ad) :: _))
    rw [hf]
    exact (hk p l e R s m args below meth c D tc ad ad0 h0 A H locs cells slots mc ms lsC hX hE hA hG hag hP hD hS hl)
  · refine va_aldq hX.1 hX.2.1 hX.2.2.2.2.2.2.2.2 hP o 4 (am_w_at hc) rfl hin hd ?_
    show W _ _ _ _ _ _ _ _ _ _ _ _ _ _ _ (F0 _ _ _ (va_rf ((f i.toNatClampNeg).map ad) :: _))
    rw [hf]
    exact (hk p l e R s m args below meth c D tc ad ad0 h0 A H locs cells slots mc ms lsC hX hE hA hG hag hP hD hS hl)
theorem am_up_map {ad : Nat → Nat} {f : Nat → Option Nat} {k v : Nat} : (fun j => (va_up f k (some v) j).map ad) = va_up (fun j => (f j).map ad) k (some (ad v)) := by
  funext j
  by_cases hj : j = k <;> simp [va_up, hj]
theorem am_s_aast {a o n ci v : Nat} {f : Nat → Option Nat} {fs : List Value} {i : Int32} (ha : a = 3 ∧ ci = 10 ∨ a = 4 ∧ (ci = 1 ∨ ci = 3 ∨ ci = 4 ∨ ci = 5 ∨ ci = 8)) (hc : am_nth h o = some (.inr (.inl (a, n, f)))) (hv : am_nth h v = some (.inr (.inr (ci, fs)))) (hin : vp_in i n) (hd : decode (am_code mi) pc = .ok (.aastore, 1)) (hk : am_W mi d Q kc ks (pc + 1) ls st (am_put h o (.inr (.inl (a, n, va_up f i.toNatClampNeg (some v)))))) : am_W mi d Q kc ks pc ls (.ref v :: .int i :: .ref o :: st) h := by
  intro p l e R s m args below meth c D tc ad ad0 h0 A H locs cells slots mc ms lsC hX hE hA hG hag hP hD hS hl
  rcases ha with ⟨rfl, rfl⟩ | ⟨rfl, rfl | rfl | rfl | rfl | rfl⟩
  · refine va_astq (r := am_cls[10]) (ci := 10) hX.1 hX.2.1 hX.2.2.2.2.2.2.2.2 hP hD hS o 3 v (am_w_at hc) rfl (am_w_at hv) rfl hin hd (fun H1 locs1 hP1 hD1 hS1 => ?_)
    refine (hk p l e R s m args below meth c D tc ad ad0 h0 A H1 locs1 cells slots mc ms lsC hX hE hA hG ⟨by rw [am_put_len]; exact hag.1, by rw [am_put_len]; exact hag.2.1, by rw [am_put_len]; exact hag.2.2⟩ ?_ ?_ hS1 hl)
    · rw [am_w_put]; show va_P _ _ ((am_w ad tc h).set o (_, .inl (_, _, .inr (.inr (.inr (.inr (fun j => (va_up f i.toNatClampNeg (some v) j).map ad))))))) _; rw [am_up_map]; exact hP1
    · rw [am_w_put]; show va_D _ ((am_w ad tc h).set o (_, .inl (_, _, .inr (.inr (.inr (.inr (fun j => (va_up f i.toNatClampNeg (some v) j).map ad))))))); rw [am_up_map]; exact hD1
  · refine va_astqO (r := am_cls[1]) (ci := 1) hX.1 hX.2.1 hX.2.2.2.2.2.2.2.2 hP hD hS o 4 v (am_w_at hc) rfl (va_Nw.of rfl (hX.2.2.2.2.2.2.2.1 (.castable "DeedProofs$Cut" "DeedProofs$Line") (by decide +kernel) args)) (am_w_at hv) rfl hin hd (fun H1 locs1 hP1 hD1 hS1 => ?_)
    refine (hk p l e R s m args below meth c D tc ad ad0 h0 A H1 locs1 cells slots mc ms lsC hX hE hA hG ⟨by rw [am_put_len]; exact hag.1, by rw [am_put_len]; exact hag.2.1, by rw [am_put_len]; exact hag.2.2⟩ ?_ ?_ hS1 hl)
    · rw [am_w_put]; show va_P _ _ ((am_w ad tc h).set o (_, .inl (_, _, .inr (.inr (.inr (.inr (fun j => (va_up f i.toNatClampNeg (some v) j).map ad))))))) _; rw [am_up_map]; exact hP1
    · rw [am_w_put]; show va_D _ ((am_w ad tc h).set o (_, .inl (_, _, .inr (.inr (.inr (.inr (fun j => (va_up f i.toNatClampNeg (some v) j).map ad))))))); rw [am_up_map]; exact hD1
  · refine va_astq (r := am_cls[3]) (ci := 3) hX.1 hX.2.1 hX.2.2.2.2.2.2.2.2 hP hD hS o 4 v (am_w_at hc) rfl (am_w_at hv) rfl hin hd (fun H1 locs1 hP1 hD1 hS1 => ?_)
    refine (hk p l e R s m args below meth c D tc ad ad0 h0 A H1 locs1 cells slots mc ms lsC hX hE hA hG ⟨by rw [am_put_len]; exact hag.1, by rw [am_put_len]; exact hag.2.1, by rw [am_put_len]; exact hag.2.2⟩ ?_ ?_ hS1 hl)
    · rw [am_w_put]; show va_P _ _ ((am_w ad tc h).set o (_, .inl (_, _, .inr (.inr (.inr (.inr (fun j => (va_up f i.toNatClampNeg (some v) j).map ad))))))) _; rw [am_up_map]; exact hP1
    · rw [am_w_put]; show va_D _ ((am_w ad tc h).set o (_, .inl (_, _, .inr (.inr (.inr (.inr (fun j => (va_up f i.toNatClampNeg (some v) j).map ad))))))); rw [am_up_map]; exact hD1
  · refine va_astqO (r := am_cls[4]) (ci := 4) hX.1 hX.2.1 hX.2.2.2.2.2.2.2.2 hP hD hS o 4 v (am_w_at hc) rfl (va_Nw.of rfl (hX.2.2.2.2.2.2.2.1 (.castable "DeedProofs$Open" "DeedProofs$Line") (by decide +kernel) args)) (am_w_at hv) rfl hin hd (fun H1 locs1 hP1 hD1 hS1 => ?_)
    refine (hk p l e R s m args below meth c D tc ad ad0 h0 A H1 locs1 cells slots mc ms lsC hX hE hA hG ⟨by rw [am_put_len]; exact hag.1, by rw [am_put_len]; exact hag.2.1, by rw [am_put_len]; exact hag.2.2⟩ ?_ ?_ hS1 hl)
    · rw [am_w_put]; show va_P _ _ ((am_w ad tc h).set o (_, .inl (_, _, .inr (.inr (.inr (.inr (fun j => (va_up f i.toNatClampNeg (some v) j).map ad))))))) _; rw [am_up_map]; exact hP1
    · rw [am_w_put]; show va_D _ ((am_w ad tc h).set o (_, .inl (_, _, .inr (.inr (.inr (.inr (fun j => (va_up f i.toNatClampNeg (some v) j).map ad))))))); rw [am_up_map]; exact hD1
  · refine va_astqO (r := am_cls[5]) (ci := 5) hX.1 hX.2.1 hX.2.2.2.2.2.2.2.2 hP hD hS o 4 v (am_w_at hc) rfl (va_Nw.of rfl (hX.2.2.2.2.2.2.2.1 (.castable "DeedProofs$Piece" "DeedProofs$Line") (by decide +kernel) args)) (am_w_at hv) rfl hin hd (fun H1 locs1 hP1 hD1 hS1 => ?_)
    refine (hk p l e R s m args below meth c D tc ad ad0 h0 A H1 locs1 cells slots mc ms lsC hX hE hA hG ⟨by rw [am_put_len]; exact hag.1, by rw [am_put_len]; exact hag.2.1, by rw [am_put_len]; exact hag.2.2⟩ ?_ ?_ hS1 hl)
    · rw [am_w_put]; show va_P _ _ ((am_w ad tc h).set o (_, .inl (_, _, .inr (.inr (.inr (.inr (fun j => (va_up f i.toNatClampNeg (some v) j).map ad))))))) _; rw [am_up_map]; exact hP1
    · rw [am_w_put]; show va_D _ ((am_w ad tc h).set o (_, .inl (_, _, .inr (.inr (.inr (.inr (fun j => (va_up f i.toNatClampNeg (some v) j).map ad))))))); rw [am_up_map]; exact hD1
  · refine va_astqO (r := am_cls[8]) (ci := 8) hX.1 hX.2.1 hX.2.2.2.2.2.2.2.2 hP hD hS o 4 v (am_w_at hc) rfl (va_Nw.of rfl (hX.2.2.2.2.2.2.2.1 (.castable "DeedProofs$Shared" "DeedProofs$Line") (by decide +kernel) args)) (am_w_at hv) rfl hin hd (fun H1 locs1 hP1 hD1 hS1 => ?_)
    refine (hk p l e R s m args below meth c D tc ad ad0 h0 A H1 locs1 cells slots mc ms lsC hX hE hA hG ⟨by rw [am_put_len]; exact hag.1, by rw [am_put_len]; exact hag.2.1, by rw [am_put_len]; exact hag.2.2⟩ ?_ ?_ hS1 hl)
    · rw [am_w_put]; show va_P _ _ ((am_w ad tc h).set o (_, .inl (_, _, .inr (.inr (.inr (.inr (fun j => (va_up f i.toNatClampNeg (some v) j).map ad))))))) _; rw [am_up_map]; exact hP1
    · rw [am_w_put]; show va_D _ ((am_w ad tc h).set o (_, .inl (_, _, .inr (.inr (.inr (.inr (fun j => (va_up f i.toNatClampNeg (some v) j).map ad))))))); rw [am_up_map]; exact hD1
theorem am_s_above {ix : Nat} (ho : (am_y mi).cls = "DeedProofs") (hw : Cond.fieldLink "DeedProofs" ix "DeedProofs" "ABOVE" "[I" ∈ am_gt) (hd : decode (am_code mi) pc = .ok (.getstatic ix, 3)) (hk : am_W mi d Q kc ks (pc + 3) ls (.ref 100003 :: st) h) : am_W mi d Q kc ks pc ls st h := by
  intro p l e R s m args below meth c D tc ad ad0 h0 A H locs cells slots mc ms lsC hX hE hA hG hag hP hD hS hl
  have hZ := hE.2.2.2.2.1
  rw [← hag.2.2 100003 (Or.inr (by have := hag.2.1; omega))] at hZ
  exact va_gets hX.1 hX.2.1 hZ hS (ho ▸ hX.2.2.2.2.1) (hX.2.2.2.2.2.2.2.1 _ hw args) (fun _ z => z) hd (hk p l e R s m args below meth c D tc ad ad0 h0 A H locs cells slots mc ms lsC hX hE hA hG hag hP hD hS hl)
theorem am_s_abald {i : Int32} (hin : vp_in i 5) (hd : decode (am_code mi) pc = .ok (.iaload, 1)) (hk : am_W mi d Q kc ks (pc + 1) ls (.int (am_abv i.toNatClampNeg) :: st) h) : am_W mi d Q kc ks pc ls (.int i :: .ref 100003 :: st) h := by
  intro p l e R s m args below meth c D tc ad ad0 h0 A H locs cells slots mc ms lsC hX hE hA hG hag hP hD hS hl
  have hZ := hE.2.2.2.2.2
  rw [← hag.2.2 100003 (Or.inr (by have := hag.2.1; omega))] at hZ
  exact va_ti hX.1 hX.2.1 hZ hS hin rfl hd (hk p l e R s m args below meth c D tc ad ad0 h0 A H locs cells slots mc ms lsC hX hE hA hG hag hP hD hS hl)
end AMS
