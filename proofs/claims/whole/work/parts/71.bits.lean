/-! Integer.bitCount of sets of PAPERS -/
def b1N (M m : Nat) : Nat := m - ((m / 2) &&& M)
def b2N (M a : Nat) : Nat := (a &&& M) + ((a / 4) &&& M)
def b3N (b : Nat) : Nat := ((b + b / 16) &&& 252645135)
def b4N (c : Nat) : Nat := c + c / 256
def b5N (d : Nat) : Nat := (d + d / 65536) &&& 63
def bcN (m : Nat) : Nat := b5N (b4N (b3N (b2N 858993459 (b1N 1431655765 m))))
theorem and_16 (u m : Nat) : u &&& m = ((u % 16) &&& (m % 16)) + 16 * ((u / 16) &&& (m / 16)) := by
  have h1 : (u &&& m) % 16 = (u % 16) &&& (m % 16) := Nat.and_mod_two_pow (n := 4)
  have h2 : (u &&& m) / 16 = (u / 16) &&& (m / 16) := Nat.and_div_two_pow (n := 4)
  rw [← h1, ← h2]; omega
theorem b1_f : ∀ a, a < 16 → ∀ c, c < 2 → ((a / 2 + 8 * c) &&& 5) = ((a / 2) &&& 5) := by decide
theorem b2_f : ∀ a, a < 16 → ∀ c, c < 4 → ((a / 4 + 4 * c) &&& 3) = ((a / 4) &&& 3) := by decide
theorem b1_s {M a b : Nat} (hM : M % 16 = 5) (ha : a < 16) : b1N M (a + 16 * b) = b1N 5 a + 16 * b1N (M / 16) b := by
  unfold b1N
  rw [and_16 ((a + 16 * b) / 2) M, hM, show (a + 16 * b) / 2 % 16 = a / 2 + 8 * (b % 2) by omega, show (a + 16 * b) / 2 / 16 = b / 2 by omega, b1_f a ha (b % 2) (by omega)]
  have h1 : (a / 2) &&& 5 ≤ a / 2 := Nat.and_le_left
  have h2 : (b / 2) &&& (M / 16) ≤ b / 2 := Nat.and_le_left
  omega
theorem b2_s {M a b : Nat} (hM : M % 16 = 3) (ha : a < 16) : b2N M (a + 16 * b) = b2N 3 a + 16 * b2N (M / 16) b := by
  unfold b2N
  rw [and_16 (a + 16 * b) M, and_16 ((a + 16 * b) / 4) M, hM, show (a + 16 * b) % 16 = a by omega, show (a + 16 * b) / 16 = b by omega, show (a + 16 * b) / 4 % 16 = a / 4 + 4 * (b % 4) by omega, show (a + 16 * b) / 4 / 16 = b / 4 by omega, b2_f a ha (b % 4) (by omega)]
  omega
def p4N (a : Nat) : Nat := b2N 3 (b1N 5 a)
theorem b12_s {M M' a b : Nat} (hM : M % 16 = 5) (hM' : M' % 16 = 3) (ha : a < 16) : b2N M' (b1N M (a + 16 * b)) = p4N a + 16 * b2N (M' / 16) (b1N (M / 16) b) := by
  rw [b1_s hM ha, b2_s hM' (show b1N 5 a < 16 from Nat.lt_of_le_of_lt (Nat.sub_le _ _) ha)]; rfl
theorem p4_l : ∀ a, a < 16 → p4N a ≤ 4 ∧ p4N a = cnN (fun i => a.testBit i) 4 := by decide
theorem b12_e : ∀ a, a < 16 → b2N 13107 (b1N 21845 a) = p4N a := by decide
theorem bg_5 : ∀ a, a < 5 → ∀ b, b < 5 → ∀ c, c < 5 → ∀ d, d < 5 → ∀ e, e < 5 → b5N (b4N (b3N (a + 16 * (b + 16 * (c + 16 * (d + 16 * e)))))) = a + b + c + d + e := by decide +kernel
theorem cn_4 {x : Nat} (k : Nat) : cnN (fun i => x.testBit i) (4 + k) = cnN (fun i => (x % 16).testBit i) 4 + cnN (fun i => (x / 16).testBit i) k := by
  induction k with
  | zero => exact cnN_cg 4 (fun i hi => by rw [show x % 16 = x % 2 ^ 4 from rfl, Nat.testBit_mod_two_pow, decide_eq_true hi, Bool.true_and])
  | succ k ih =>
    have e : x.testBit (4 + k) = (x / 16).testBit k := by rw [show x / 16 = x / 2 ^ 4 from rfl, Nat.testBit_div_two_pow, Nat.add_comm]
    show cnN (fun i => x.testBit i) (4 + k) + (if x.testBit (4 + k) = true then 1 else 0) = _ + (cnN (fun i => (x / 16).testBit i) k + (if (x / 16).testBit k = true then 1 else 0))
    rw [ih, e]; omega
theorem bc_20 {m : Nat} (h : m < 2 ^ 20) : bcN m = cnN (fun i => m.testBit i) 20 := by
  have n0 : m % 16 < 16 := by omega
  have n1 : m / 16 % 16 < 16 := by omega
  have n2 : m / 16 / 16 % 16 < 16 := by omega
  have n3 : m / 16 / 16 / 16 % 16 < 16 := by omega
  have n4 : m / 16 / 16 / 16 / 16 < 16 := by omega
  have e : m = m % 16 + 16 * (m / 16 % 16 + 16 * (m / 16 / 16 % 16 + 16 * (m / 16 / 16 / 16 % 16 + 16 * (m / 16 / 16 / 16 / 16)))) := by omega
  have c : cnN (fun i => m.testBit i) 20 = p4N (m % 16) + p4N (m / 16 % 16) + p4N (m / 16 / 16 % 16) + p4N (m / 16 / 16 / 16 % 16) + p4N (m / 16 / 16 / 16 / 16) := by
    rw [(p4_l _ n0).2, (p4_l _ n1).2, (p4_l _ n2).2, (p4_l _ n3).2, (p4_l _ n4).2]
    have u1 : cnN (fun i => (m).testBit i) 20 = cnN (fun i => ((m) % 16).testBit i) 4 + cnN (fun i => ((m) / 16).testBit i) 16 := cn_4 (x := m) 16
    have u2 : cnN (fun i => (m / 16).testBit i) 16 = cnN (fun i => ((m / 16) % 16).testBit i) 4 + cnN (fun i => ((m / 16) / 16).testBit i) 12 := cn_4 (x := m / 16) 12
    have u3 : cnN (fun i => (m / 16 / 16).testBit i) 12 = cnN (fun i => ((m / 16 / 16) % 16).testBit i) 4 + cnN (fun i => ((m / 16 / 16) / 16).testBit i) 8 := cn_4 (x := m / 16 / 16) 8
    have u4 : cnN (fun i => (m / 16 / 16 / 16).testBit i) 8 = cnN (fun i => ((m / 16 / 16 / 16) % 16).testBit i) 4 + cnN (fun i => ((m / 16 / 16 / 16) / 16).testBit i) 4 := cn_4 (x := m / 16 / 16 / 16) 4
    omega
  rw [c]
  unfold bcN
  have e2 : b2N 858993459 (b1N 1431655765 m) = p4N (m % 16) + 16 * (p4N (m / 16 % 16) + 16 * (p4N (m / 16 / 16 % 16) + 16 * (p4N (m / 16 / 16 / 16 % 16) + 16 * p4N (m / 16 / 16 / 16 / 16)))) := by
    have k := congrArg (fun z => b2N 858993459 (b1N 1431655765 z)) e
    refine k.trans ?_
    show b2N 858993459 (b1N 1431655765 (m % 16 + 16 * (m / 16 % 16 + 16 * (m / 16 / 16 % 16 + 16 * (m / 16 / 16 / 16 % 16 + 16 * (m / 16 / 16 / 16 / 16)))))) = _
    rw [b12_s (by decide) (by decide) n0, b12_s (by decide) (by decide) n1, b12_s (by decide) (by decide) n2, b12_s (by decide) (by decide) n3]
    rw [show b2N (858993459 / 16 / 16 / 16 / 16) (b1N (1431655765 / 16 / 16 / 16 / 16) (m / 16 / 16 / 16 / 16)) = p4N (m / 16 / 16 / 16 / 16) from b12_e _ n4]
  rw [e2]
  exact bg_5 _ (by have := (p4_l _ n0).1; omega) _ (by have := (p4_l _ n1).1; omega) _ (by have := (p4_l _ n2).1; omega) _ (by have := (p4_l _ n3).1; omega) _ (by have := (p4_l _ n4).1; omega)
theorem bq_nI (m : Nat) {i : Nat} (hi : i < 32) : bq (nI m) i = m.testBit i := by
  unfold bq nI
  rw [show (Int32.ofNat m).toBitVec = BitVec.ofNat 32 m from rfl, BitVec.getLsbD_ofNat, decide_eq_true hi, Bool.true_and]
theorem nI_and (a b : Nat) : nI a &&& nI b = nI (a &&& b) := bq_ext (fun i hi => by rw [bq_and, bq_nI _ hi, bq_nI _ hi, bq_nI _ hi, Nat.testBit_and])
theorem nI_ush {a k : Nat} (ha : a < 2 ^ 31) (hk : k < 32) : ((nI a).toUInt32 >>> ((nI k).toUInt32 &&& Int32.toUInt32 31)).toInt32 = nI (a >>> k) := by
  have e : ∀ k, k < 32 → ((nI k).toUInt32 &&& Int32.toUInt32 31) = UInt32.ofNat k := by decide
  rw [e k hk]
  have h2 : ∀ k, k < 32 → (UInt32.mod (UInt32.ofNat k) 32).toBitVec.toNat = k := by decide
  apply Int32.toBitVec_inj.mp
  show (BitVec.ofNat 32 a) >>> (UInt32.mod (UInt32.ofNat k) 32).toBitVec = BitVec.ofNat 32 (a >>> k)
  apply BitVec.eq_of_toNat_eq
  have h3 : a >>> k ≤ a := by rw [Nat.shiftRight_eq_div_pow]; exact Nat.div_le_self _ _
  rw [BitVec.ushiftRight_eq', BitVec.toNat_ushiftRight, h2 k hk, BitVec.toNat_ofNat, BitVec.toNat_ofNat, Nat.mod_eq_of_lt (by omega), Nat.mod_eq_of_lt (by omega)]
theorem sr_le (a k : Nat) : a >>> k ≤ a := by rw [Nat.shiftRight_eq_div_pow]; exact Nat.div_le_self _ _
theorem c_bitCount {h : am_H} (d : Nat) {m : Nat} {v : Int32} (hv : v = nI m) (hm : m < 2 ^ 20) : am_Met mi_J6_bitCount_0f7a4 d 0 0 [.int v] h (fun r h' => r = some (.int (nI (cnN (fun i => m.testBit i) 20))) ∧ h' = h) := by
  refine am_Met.of (by decide) (Nat.le_of_ble_eq_true rfl) ?_
  refine am_go ok_J6_bitCount_0f7a4 [] 101 ?_
  refine ⟨trivial, ?_⟩
  refine ⟨?_, rfl⟩
  rw [← bc_20 hm, hv]
  have u : ∀ {a k : Nat}, a < 2 ^ 31 → k < 32 → ((nI a).toUInt32 >>> ((nI k).toUInt32 &&& Int32.toUInt32 31)).toInt32 = nI (a / 2 ^ k) := fun {a k} ha hk => by rw [nI_ush ha hk, Nat.shiftRight_eq_div_pow]
  have a1 : (m / 2) &&& 1431655765 ≤ m / 2 := Nat.and_le_left
  have e1 : nI m - (((nI m).toUInt32 >>> ((1 : Int32).toUInt32 &&& Int32.toUInt32 31)).toInt32 &&& 1431655765) = nI (b1N 1431655765 m) := by
    rw [show (1 : Int32) = nI 1 from rfl, u (by omega) (by omega), show (1431655765 : Int32) = nI 1431655765 from rfl, nI_and, pk_sub (by show (m / 2) &&& 1431655765 ≤ m; omega)]; rfl
  rw [e1]
  unfold bcN
  have a0 : b1N 1431655765 m < 2 ^ 31 := Nat.lt_of_le_of_lt (Nat.sub_le _ _) (by omega)
  generalize b1N 1431655765 m = a at a0 ⊢
  have b1 : a &&& 858993459 ≤ 858993459 := Nat.and_le_right
  have b2 : (a / 4) &&& 858993459 ≤ 858993459 := Nat.and_le_right
  have e2 : (nI a &&& 858993459) + (((nI a).toUInt32 >>> ((2 : Int32).toUInt32 &&& Int32.toUInt32 31)).toInt32 &&& 858993459) = nI (b2N 858993459 a) := by
    rw [show (2 : Int32) = nI 2 from rfl, u a0 (by omega), show (858993459 : Int32) = nI 858993459 from rfl, nI_and, nI_and, nI_add]; rfl
  rw [e2]
  have b0 : b2N 858993459 a < 2 ^ 31 := by unfold b2N; omega
  generalize b2N 858993459 a = b at b0 ⊢
  have e3 : (nI b + ((nI b).toUInt32 >>> ((4 : Int32).toUInt32 &&& Int32.toUInt32 31)).toInt32) &&& 252645135 = nI (b3N b) := by
    rw [show (4 : Int32) = nI 4 from rfl, u b0 (by omega), show (252645135 : Int32) = nI 252645135 from rfl, nI_add, nI_and]; rfl
  rw [e3]
  have c1 : b3N b ≤ 252645135 := Nat.and_le_right
  generalize b3N b = c at c1 ⊢
  have e4 : nI c + ((nI c).toUInt32 >>> ((8 : Int32).toUInt32 &&& Int32.toUInt32 31)).toInt32 = nI (b4N c) := by
    rw [show (8 : Int32) = nI 8 from rfl, u (by omega) (by omega), nI_add]; rfl
  rw [e4]
  have d0 : b4N c < 2 ^ 31 := by unfold b4N; omega
  generalize b4N c = d at d0 ⊢
  have e5 : nI d + ((nI d).toUInt32 >>> ((16 : Int32).toUInt32 &&& Int32.toUInt32 31)).toInt32 = nI (d + d / 65536) := by
    rw [show (16 : Int32) = nI 16 from rfl, u d0 (by omega), nI_add]
  rw [e5, show (63 : Int32) = nI 63 from rfl, nI_and]; rfl
