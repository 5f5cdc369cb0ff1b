/-! subsets of a set, in rising order, by numbers -/
def bsN (q : Nat → Bool) : Nat → Nat
  | 0 => 0
  | n + 1 => bsN q n + (if q n = true then 2 ^ n else 0)
theorem bs_lt (q : Nat → Bool) : ∀ n, bsN q n < 2 ^ n
  | 0 => by show 0 < 1; omega
  | n + 1 => by
    rw [bsN, Nat.pow_succ]
    have := bs_lt q n
    generalize 2 ^ n = w at this ⊢
    split <;> omega
theorem bs_b {q : Nat → Bool} {i : Nat} : ∀ {n : Nat}, i < n → (bsN q n).testBit i = q i
  | 0, h => absurd h (by omega)
  | n + 1, h => by
    rw [bsN]
    have hl := bs_lt q n
    rcases (show i = n ∨ i < n by omega) with z | z
    · subst z
      cases e : q i with
      | false => rw [if_neg (by decide), Nat.add_zero, Nat.testBit_lt_two_pow hl]
      | true => rw [if_pos rfl, Nat.add_comm, Nat.testBit_two_pow_add_eq, Nat.testBit_lt_two_pow hl]; rfl
    · cases e : q n with
      | false => rw [if_neg (by decide), Nat.add_zero]; exact bs_b z
      | true => rw [if_pos rfl, Nat.add_comm, Nat.testBit_two_pow_add_gt z]; exact bs_b z
theorem bs_o {q : Nat → Bool} {n i : Nat} (h : n ≤ i) : (bsN q n).testBit i = false := Nat.testBit_lt_two_pow (Nat.lt_of_lt_of_le (bs_lt q n) (Nat.pow_le_pow_right (by omega) h))
theorem bs_or {q : Nat → Bool} {n : Nat} (hn : n ≤ 32) : nI (bsN q n) = orB q n := bq_ext (fun i hi => by
  rw [bq_nI _ hi, bq_orB hi hn]
  by_cases z : i < n
  · rw [bs_b z, decide_eq_true z, Bool.true_and]
  · rw [bs_o (by omega), decide_eq_false z, Bool.false_and])
theorem suc_dm (k q : Nat) (hq : 0 < q) : ((k + 1) % q = 0 ∧ (k + 1) / q = k / q + 1) ∨ (¬ (k + 1) % q = 0 ∧ (k + 1) / q = k / q) := by
  have e := Nat.div_add_mod k q
  have hr := Nat.mod_lt k hq
  have e1 : k + 1 = q * (k / q) + (k % q + 1) := by omega
  have d := Nat.mul_add_div hq (k / q) (k % q + 1)
  have m := Nat.mul_add_mod q (k / q) (k % q + 1)
  rw [← e1] at d m
  rcases (show k % q + 1 = q ∨ k % q + 1 < q by omega) with z | z
  · left
    rw [d, m, z, Nat.mod_self, Nat.div_self hq]; exact ⟨rfl, rfl⟩
  · right
    rw [d, m, Nat.mod_eq_of_lt z, Nat.div_eq_of_lt z]; exact ⟨by omega, rfl⟩
theorem tb_d (x i : Nat) : x.testBit i = decide (x / 2 ^ i % 2 = 1) := Nat.testBit_eq_decide_div_mod_eq
/-- subset number k of p -/
abbrev xsB (p : Nat → Bool) (k : Nat) : Nat → Bool := fun i => p i && k.testBit (cnN p i)
theorem xs_le {p : Nat → Bool} {k : Nat} : ∀ N, bsN (xsB p k) N ≤ bsN p N
  | 0 => Nat.le_refl _
  | N + 1 => by
    rw [bsN, bsN]
    have := xs_le (p := p) (k := k) N
    cases e : p N with
    | false => rw [if_neg (by show ¬ ((p N && _) = true); rw [e]; simp), if_neg (by decide)]; omega
    | true =>
      rw [if_pos rfl]
      generalize 2 ^ N = w
      split <;> omega
theorem zN {p : Nat → Bool} {k : Nat} : ∀ N, (bsN (xsB p k) N + 2 ^ N - bsN p N = 2 ^ N ∧ (k + 1) % 2 ^ cnN p N = 0) ∨ (bsN (xsB p k) N + 2 ^ N - bsN p N < 2 ^ N ∧ ¬ (k + 1) % 2 ^ cnN p N = 0)
  | 0 => Or.inl ⟨rfl, by show (k + 1) % 1 = 0; omega⟩
  | N + 1 => by
    have ih := zN (p := p) (k := k) N
    have le := xs_le (p := p) (k := k) N
    have h2 : 2 ^ (N + 1) = 2 ^ N * 2 := Nat.pow_succ 2 N
    have lp := bs_lt p N
    have lN : 0 < 2 ^ N := Nat.pow_pos (by omega)
    cases e : p N with
    | false =>
      have ex : xsB p k N = false := by show (p N && _) = false; rw [e]; rfl
      rw [bsN, bsN, ex, e, if_neg (by decide), cnN_f e, h2]
      rcases ih with ⟨a, b⟩ | ⟨a, b⟩
      · exact Or.inl ⟨by omega, b⟩
      · exact Or.inr ⟨by omega, b⟩
    | true =>
      have ex : xsB p k N = k.testBit (cnN p N) := by show (p N && _) = _; rw [e]; rfl
      rw [bsN, bsN, ex, e, if_pos rfl, cnN_t e, h2, Nat.mod_pow_succ, tb_d]
      have hq : 0 < 2 ^ cnN p N := Nat.pow_pos (by omega)
      rcases suc_dm k (2 ^ cnN p N) hq with ⟨s1, s2⟩ | ⟨s1, s2⟩
      · have a := ih.elim (fun z => z.1) (fun z => absurd s1 z.2)
        rw [s1, s2, Nat.zero_add]
        by_cases w : k / 2 ^ cnN p N % 2 = 1
        · rw [decide_eq_true w, if_pos rfl]
          refine Or.inl ⟨by omega, ?_⟩
          rw [show (k / 2 ^ cnN p N + 1) % 2 = 0 by omega, Nat.mul_zero]
        · rw [decide_eq_false w, if_neg (by decide)]
          refine Or.inr ⟨by omega, ?_⟩
          rw [show (k / 2 ^ cnN p N + 1) % 2 = 1 by omega, Nat.mul_one]; omega
      · have a := ih.elim (fun z => absurd z.2 s1) (fun z => z.1)
        refine Or.inr ⟨?_, by omega⟩
        split <;> omega
theorem zB {p : Nat → Bool} {k i : Nat} (hp : p i = true) : ∀ N, i < N → (bsN (xsB p k) N + 2 ^ N - bsN p N).testBit i = (k + 1).testBit (cnN p i)
  | 0, h => absurd h (by omega)
  | N + 1, h => by
    have le := xs_le (p := p) (k := k) N
    have h2 : 2 ^ (N + 1) = 2 ^ N * 2 := Nat.pow_succ 2 N
    have lp := bs_lt p N
    have lN : 0 < 2 ^ N := Nat.pow_pos (by omega)
    rcases (show i = N ∨ i < N by omega) with z | z
    · subst z
      have ex : xsB p k i = k.testBit (cnN p i) := by show (p i && _) = _; rw [hp]; rfl
      have hq : 0 < 2 ^ cnN p i := Nat.pow_pos (by omega)
      have hN : 0 < 2 ^ i := Nat.pow_pos (by omega)
      rw [bsN, bsN, ex, hp, if_pos rfl, h2, tb_d (k + 1), tb_d k]
      rcases suc_dm k (2 ^ cnN p i) hq with ⟨s1, s2⟩ | ⟨s1, s2⟩
      · have a := (zN (p := p) (k := k) i).elim (fun z => z.1) (fun z => absurd s1 z.2)
        rw [s2]
        by_cases w : k / 2 ^ cnN p i % 2 = 1
        · rw [decide_eq_true w, if_pos rfl, show bsN (xsB p k) i + 2 ^ i + 2 ^ i * 2 - (bsN p i + 2 ^ i) = 2 ^ i * 2 by omega, tb_d, Nat.mul_div_cancel_left _ hN]
          exact (decide_eq_false (show ¬ 2 % 2 = 1 by decide)).trans (decide_eq_false (by omega)).symm
        · rw [decide_eq_false w, if_neg (by decide), show bsN (xsB p k) i + 0 + 2 ^ i * 2 - (bsN p i + 2 ^ i) = 2 ^ i * 1 by omega, tb_d, Nat.mul_div_cancel_left _ hN]
          exact (decide_eq_true (show 1 % 2 = 1 by decide)).trans (decide_eq_true (by omega)).symm
      · have a := (zN (p := p) (k := k) i).elim (fun z => absurd z.2 s1) (fun z => z.1)
        rw [s2]
        by_cases w : k / 2 ^ cnN p i % 2 = 1
        · rw [decide_eq_true w, if_pos rfl, show bsN (xsB p k) i + 2 ^ i + 2 ^ i * 2 - (bsN p i + 2 ^ i) = 2 ^ i * 1 + (bsN (xsB p k) i + 2 ^ i - bsN p i) by omega, tb_d, Nat.mul_add_div hN, Nat.div_eq_of_lt a]
          exact decide_eq_true (show (1 + 0) % 2 = 1 by decide)
        · rw [decide_eq_false w, if_neg (by decide), show bsN (xsB p k) i + 0 + 2 ^ i * 2 - (bsN p i + 2 ^ i) = bsN (xsB p k) i + 2 ^ i - bsN p i by omega, tb_d, Nat.div_eq_of_lt a]
          exact decide_eq_false (show ¬ 0 % 2 = 1 by decide)
    · rw [← zB hp N z]
      have key : ∃ s, bsN (xsB p k) (N + 1) + 2 ^ (N + 1) - bsN p (N + 1) = 2 ^ N * s + (bsN (xsB p k) N + 2 ^ N - bsN p N) := by
        rw [bsN, bsN, h2]
        cases e : p N with
        | false =>
          rw [if_neg (by show ¬ ((p N && _) = true); rw [e]; simp), if_neg (by decide)]
          exact ⟨1, by omega⟩
        | true =>
          rw [if_pos rfl]
          split
          · exact ⟨1, by omega⟩
          · exact ⟨0, by omega⟩
      obtain ⟨s, es⟩ := key
      rw [es]
      have m1 : ((2 ^ N * s + (bsN (xsB p k) N + 2 ^ N - bsN p N)) % 2 ^ N).testBit i = ((bsN (xsB p k) N + 2 ^ N - bsN p N) % 2 ^ N).testBit i := by rw [Nat.mul_add_mod]
      rw [Nat.testBit_mod_two_pow, Nat.testBit_mod_two_pow, decide_eq_true z, Bool.true_and, Bool.true_and] at m1
      exact m1
/-- subset number k of p's set -/
def suI (p : Nat → Bool) (n k : Nat) : Int32 := orB (xsB p k) n
theorem su_b {p : Nat → Bool} {n k i : Nat} (n20 : n ≤ 20) (hi : i < 32) : bq (suI p n k) i = (decide (i < n) && (p i && k.testBit (cnN p i))) := bq_orB hi (by omega)
theorem nI_32 (x : Nat) : nI (x + 2 ^ 32) = nI x := bq_ext (fun i hi => by
  rw [bq_nI _ hi, bq_nI _ hi, Nat.add_comm, Nat.testBit_two_pow_add_gt hi])
theorem su_inc {p : Nat → Bool} {n k : Nat} (n20 : n ≤ 20) : (suI p n k - orB p n) &&& orB p n = suI p n (k + 1) := by
  refine bq_ext (fun i hi => ?_)
  rw [bq_and, su_b n20 hi, bq_orB hi (by omega)]
  by_cases z : i < n
  · rw [decide_eq_true z, Bool.true_and, Bool.true_and]
    cases e : p i with
    | false => rw [Bool.and_false, Bool.false_and]
    | true =>
      rw [Bool.and_true, Bool.true_and]
      have l1 := bs_lt (xsB p k) n
      have l2 := bs_lt p n
      have l3 : 2 ^ n ≤ 2 ^ 32 := Nat.pow_le_pow_right (by omega) (by omega)
      have le := xs_le (p := p) (k := k) n
      unfold suI
      rw [← bs_or (q := xsB p k) (n := n) (by omega), ← bs_or (q := p) (n := n) (by omega), ← nI_32, pk_sub (by omega), bq_nI _ hi]
      rw [← zB (k := k) e n z]
      have e1 : bsN (xsB p k) n + 2 ^ 32 - bsN p n = 2 ^ n * (2 ^ (32 - n) - 1) + (bsN (xsB p k) n + 2 ^ n - bsN p n) := by
        have : 2 ^ n * 2 ^ (32 - n) = 2 ^ 32 := by rw [← Nat.pow_add]; congr 1; omega
        rw [Nat.mul_sub, Nat.mul_one, this]; omega
      rw [e1]
      have m1 : ((2 ^ n * (2 ^ (32 - n) - 1) + (bsN (xsB p k) n + 2 ^ n - bsN p n)) % 2 ^ n).testBit i = ((bsN (xsB p k) n + 2 ^ n - bsN p n) % 2 ^ n).testBit i := by rw [Nat.mul_add_mod]
      rw [Nat.testBit_mod_two_pow, Nat.testBit_mod_two_pow, decide_eq_true z, Bool.true_and, Bool.true_and] at m1
      exact m1
  · rw [decide_eq_false z, Bool.false_and, Bool.and_false, Bool.false_and]
theorem cn_surj {p : Nat → Bool} {i : Nat} : ∀ {n : Nat}, i < cnN p n → ∃ b, b < n ∧ p b = true ∧ cnN p b = i
  | 0, h => absurd h (by rw [cnN]; omega)
  | n + 1, h => by
    by_cases q : i < cnN p n
    · obtain ⟨b, b1, b2⟩ := cn_surj q
      exact ⟨b, by omega, b2⟩
    · cases e : p n with
      | false => rw [cnN_f e] at h; omega
      | true => rw [cnN_t e] at h; exact ⟨n, by omega, e, by omega⟩
theorem cn_s {p : Nat → Bool} {a b : Nat} (h : p a = true) (hab : a < b) : cnN p a < cnN p b := by
  have h1 := cnN_t h
  have h2 := cnN_n (p := p) (show a + 1 ≤ b by omega)
  omega
theorem orA_b {f : Nat → Int32} {w : Int32} {i : Nat} : ∀ {m : Nat}, bq (orA w f m) i = true ↔ (bq w i = true ∨ ∃ l, l < m ∧ bq (f l) i = true)
  | 0 => ⟨Or.inl, fun h => h.elim id (fun ⟨l, hl, _⟩ => absurd hl (by omega))⟩
  | m + 1 => by
    rw [orA, bq_or, Bool.or_eq_true, orA_b]
    constructor
    · rintro ((h | ⟨l, hl, h⟩) | h)
      · exact Or.inl h
      · exact Or.inr ⟨l, by omega, h⟩
      · exact Or.inr ⟨m, by omega, h⟩
    · rintro (h | ⟨l, hl, h⟩)
      · exact Or.inl (Or.inl h)
      · rcases (show l = m ∨ l < m by omega) with z | z
        · subst z; exact Or.inr h
        · exact Or.inl (Or.inr ⟨l, z, h⟩)
theorem eI_sb {p : Nat → Bool} {A : Nat → Int32} {n k : Nat} (n20 : n ≤ 20) (m6 : cnN p n ≤ 6) (hA : asK p A n) : eI A k (cnN p n) = suI p n k := by
  refine bq_ext (fun i hi => b_iff ?_)
  unfold eI
  rw [orA_b, su_b n20 hi, Bool.and_eq_true, Bool.and_eq_true, decide_eq_true_iff]
  constructor
  · rintro (h | ⟨l, hl, h⟩)
    · rw [bq_0] at h; exact absurd h (by decide)
    · obtain ⟨b, b1, b2, b3⟩ := cn_surj hl
      have eA := hA.1 b b1 b2
      rw [b3] at eA
      by_cases w : bq (nI k) l = true
      · rw [if_pos w, eA, bq_one (by omega) hi] at h
        have : i = b := of_decide_eq_true h
        subst this
        exact ⟨b1, b2, by rw [b3, ← bq_nI k (show l < 32 by omega)]; exact w⟩
      · rw [if_neg w, bq_0] at h; exact absurd h (by decide)
  · rintro ⟨h1, h2, h3⟩
    refine Or.inr ⟨cnN p i, cn_s h2 h1, ?_⟩
    have l6 := cn_s h2 h1
    rw [if_pos (by rw [bq_nI _ (by omega)]; exact h3), hA.1 i h1 h2, bq_one (by omega) hi]
    exact decide_eq_true rfl
theorem su_top {p : Nat → Bool} {n : Nat} (n20 : n ≤ 20) : suI p n (2 ^ cnN p n - 1) = orB p n := by
  unfold suI
  refine orB_cg (fun i hi => ?_)
  show (p i && (2 ^ cnN p n - 1).testBit (cnN p i)) = p i
  cases e : p i with
  | false => rfl
  | true => rw [Nat.testBit_two_pow_sub_one, decide_eq_true (cn_s e hi)]; rfl
theorem su_ne {p : Nat → Bool} {n k : Nat} (n20 : n ≤ 20) (hk : k < 2 ^ cnN p n - 1) : ∃ i, i < n ∧ p i = true ∧ bq (suI p n k) i = false := by
  have : ∃ l, l < cnN p n ∧ k.testBit l = false := by
    refine Classical.byContradiction (fun w => ?_)
    have h : k = 2 ^ cnN p n - 1 := by
      apply Nat.eq_of_testBit_eq
      intro l
      rw [Nat.testBit_two_pow_sub_one]
      by_cases q : l < cnN p n
      · rw [decide_eq_true q]
        cases e : k.testBit l with
        | true => rfl
        | false => exact absurd ⟨l, q, e⟩ w
      · rw [decide_eq_false q]
        exact Nat.testBit_lt_two_pow (Nat.lt_of_lt_of_le (show k < 2 ^ cnN p n by omega) (Nat.pow_le_pow_right (by omega) (by omega)))
    omega
  obtain ⟨l, l1, l2⟩ := this
  obtain ⟨b, b1, b2, b3⟩ := cn_surj l1
  exact ⟨b, b1, b2, by rw [su_b n20 (by omega), b3, l2, Bool.and_false, Bool.and_false]⟩
theorem su_ct {p : Nat → Bool} {n k : Nat} (n20 : n ≤ 20) (hk : k < 2 ^ cnN p n - 1) : ctB (suI p n k) < ctB (orB p n) ∧ ¬ suI p n k = orB p n := by
  obtain ⟨i, i1, i2, i3⟩ := su_ne n20 hk
  have hb : bq (orB p n) i = true := by rw [bq_orB (by omega) (by omega), decide_eq_true i1, i2]; rfl
  refine ⟨cnN_lt (j := i) 20 (fun b hb20 h => ?_) (by omega) hb i3, fun w => by rw [w, hb] at i3; exact absurd i3 (by decide)⟩
  rw [su_b n20 (by omega), Bool.and_eq_true, Bool.and_eq_true] at h
  rw [bq_orB (by omega) (by omega), h.1, h.2.1]; rfl
theorem su_le {p : Nat → Bool} {n k i : Nat} (n20 : n ≤ 20) (hi : i < 32) (h : bq (suI p n k) i = true) : bq (orB p n) i = true := by
  rw [su_b n20 hi, Bool.and_eq_true, Bool.and_eq_true] at h
  rw [bq_orB hi (by omega), h.1, h.2.1]; rfl
/-- what the class has found best, k subsets on -/
def clF (fo : Int32 → Bool) (had : Int32) (p : Nat → Bool) (n : Nat) : Nat → Int32
  | 0 => orB p n
  | k + 1 => if ctB (suI p n k) < ctB (clF fo had p n k) ∧ fo (suI p n k ||| had) = true then suI p n k else clF fo had p n k
theorem or_c (x y : Int32) : x ||| y = y ||| x := bq_ext (fun i _ => by rw [bq_or, bq_or, Bool.or_comm])
theorem m5_b : bq (-5) 31 = true := by decide
theorem su_5 {p : Nat → Bool} {n k : Nat} (n20 : n ≤ 20) : ¬ suI p n k = -5 := fun w => by
  have h := su_b (p := p) (k := k) n20 (show 31 < 32 by omega)
  rw [w, m5_b, decide_eq_false (by omega)] at h
  exact absurd h (by simp)
theorem clF_e {fo : Int32 → Bool} {had : Int32} {p : Nat → Bool} {n : Nat} (n20 : n ≤ 20) : ∀ {k : Nat}, k ≤ 2 ^ cnN p n - 1 → (fwB fo had (suI p n) k = -5 ∧ clF fo had p n k = orB p n) ∨ (fwB fo had (suI p n) k = clF fo had p n k ∧ ¬ clF fo had p n k = -5 ∧ ctB (clF fo had p n k) ≤ ctB (orB p n))
  | 0, _ => Or.inl ⟨rfl, rfl⟩
  | k + 1, h => by
    have ct := (su_ct (p := p) (n := n) n20 (show k < 2 ^ cnN p n - 1 by omega)).1
    rcases clF_e (fo := fo) (had := had) n20 (show k ≤ 2 ^ cnN p n - 1 by omega) with ⟨a, b⟩ | ⟨a, b, c⟩
    · by_cases q : fo (had ||| suI p n k) = true
      · refine Or.inr ⟨?_, ?_, ?_⟩
        · rw [fwB_y (Or.inl a) q, clF, if_pos ⟨by rw [b]; exact ct, by rw [or_c]; exact q⟩]
        · rw [clF, if_pos ⟨by rw [b]; exact ct, by rw [or_c]; exact q⟩]; exact su_5 n20
        · rw [clF, if_pos ⟨by rw [b]; exact ct, by rw [or_c]; exact q⟩]; omega
      · refine Or.inl ⟨?_, ?_⟩
        · rw [fwB_n (fun w => q w.2)]; exact a
        · rw [clF, if_neg (fun w => q (by rw [or_c]; exact w.2))]; exact b
    · by_cases q : ctB (suI p n k) < ctB (clF fo had p n k) ∧ fo (suI p n k ||| had) = true
      · refine Or.inr ⟨?_, ?_, ?_⟩
        · rw [fwB_y (Or.inr (by rw [a]; exact q.1)) (by rw [or_c]; exact q.2), clF, if_pos q]
        · rw [clF, if_pos q]; exact su_5 n20
        · rw [clF, if_pos q]; omega
      · refine Or.inr ⟨?_, ?_, ?_⟩
        · rw [fwB_n (fun w => q ⟨w.1.elim (fun z => absurd (a.symm.trans z) b) (fun z => by rw [a] at z; exact z), by rw [or_c]; exact w.2⟩), clF, if_neg q]; exact a
        · rw [clF, if_neg q]; exact b
        · rw [clF, if_neg q]; exact c
theorem clF_y {fo : Int32 → Bool} {had : Int32} {p : Nat → Bool} {n : Nat} (n20 : n ≤ 20) (h : fo (orB p n ||| had) = true) : fwB fo had (suI p n) (2 ^ cnN p n) = clF fo had p n (2 ^ cnN p n - 1) := by
  have h1 : 0 < 2 ^ cnN p n := Nat.pow_pos (by omega)
  have e : 2 ^ cnN p n = (2 ^ cnN p n - 1) + 1 := by omega
  have st := su_top (p := p) n20
  have hf : fo (had ||| suI p n (2 ^ cnN p n - 1)) = true := by rw [st, or_c]; exact h
  rcases clF_e (fo := fo) (had := had) (p := p) n20 (Nat.le_refl _) with ⟨a, b⟩ | ⟨a, b, c⟩
  · rw [show fwB fo had (suI p n) (2 ^ cnN p n) = fwB fo had (suI p n) ((2 ^ cnN p n - 1) + 1) by rw [← e], fwB_y (Or.inl a) hf, st, b]
  · rw [show fwB fo had (suI p n) (2 ^ cnN p n) = fwB fo had (suI p n) ((2 ^ cnN p n - 1) + 1) by rw [← e], fwB_n (fun w => w.1.elim (fun z => b (a.symm.trans z)) (fun z => by rw [st, a] at z; omega)), a]
theorem fwB_0 {fo : Int32 → Bool} {had : Int32} {e : Nat → Int32} (h : ∀ k, fo (had ||| e k) = false) : ∀ N, fwB fo had e N = -5
  | 0 => rfl
  | N + 1 => by rw [fwB_n (fun w => by rw [h N] at w; exact absurd w.2 (by decide))]; exact fwB_0 h N
theorem fwB_cg {fo fo' : Int32 → Bool} {had : Int32} {e e' : Nat → Int32} (hf : ∀ x, fo x = fo' x) (he : ∀ k, e k = e' k) : ∀ N, fwB fo had e N = fwB fo' had e' N
  | 0 => rfl
  | N + 1 => by rw [fwB, fwB, fwB_cg hf he N, he N, hf]
