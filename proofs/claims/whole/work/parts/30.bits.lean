/-! BITS, and numbers that are alike but for which PAPERS are FALSE -/
def bq (x : Int32) (i : Nat) : Bool := x.toBitVec.getLsbD i
theorem bq_ext {x y : Int32} (h : ∀ i, i < 32 → bq x i = bq y i) : x = y := Int32.toBitVec_inj.mp (BitVec.eq_of_getLsbD_eq h)
theorem bq_or (x y : Int32) (i : Nat) : bq (x ||| y) i = (bq x i || bq y i) := by unfold bq; rw [Int32.toBitVec_or, BitVec.getLsbD_or]
theorem bq_and (x y : Int32) (i : Nat) : bq (x &&& y) i = (bq x i && bq y i) := by unfold bq; rw [Int32.toBitVec_and, BitVec.getLsbD_and]
theorem bq_xor (x y : Int32) (i : Nat) : bq (x ^^^ y) i = (bq x i ^^ bq y i) := by unfold bq; rw [Int32.toBitVec_xor, BitVec.getLsbD_xor]
theorem bq_0 (i : Nat) : bq 0 i = false := by unfold bq; exact BitVec.getLsbD_zero
theorem bq_m1 : ∀ i, i < 32 → bq (-1) i = true := by decide
theorem bq_big {x : Int32} {i : Nat} (h : 32 ≤ i) : bq x i = false := BitVec.getLsbD_of_ge _ _ h
theorem sh_l : ∀ k, k < 32 → ((nI k &&& 31).toBitVec.smod 32).toNat = k := by decide
theorem bq_shl {k i : Nat} (hk : k < 32) (hi : i < 32) (x : Int32) : bq (x <<< (nI k &&& 31)) i = (decide (k ≤ i) && bq x (i - k)) := by
  unfold bq
  rw [Int32.toBitVec_shiftLeft, BitVec.shiftLeft_eq', sh_l k hk, BitVec.getLsbD_shiftLeft]
  by_cases h : i < k
  · simp [hi, h, show ¬ k ≤ i by omega]
  · simp [hi, h, show k ≤ i by omega]
theorem bq_1 : ∀ i, i < 32 → bq 1 i = decide (i = 0) := by decide
theorem bq_one {k i : Nat} (hk : k < 32) (hi : i < 32) : bq (1 <<< (nI k &&& 31)) i = decide (i = k) := by
  rw [bq_shl hk hi, bq_1 _ (by omega)]
  by_cases h : i = k
  · subst h; simp
  · by_cases h2 : k ≤ i
    · simp [h, h2, show ¬ i - k = 0 by omega]
    · simp [h, h2]
theorem bq_shr {k : Nat} (hk : k < 32) (x : Int32) : bq (x >>> (nI k &&& 31)) 0 = bq x k := by
  unfold bq
  rw [Int32.toBitVec_shiftRight, BitVec.sshiftRight_eq', sh_l k hk, BitVec.getLsbD_sshiftRight]
  simp [hk]
theorem and_1 (x : Int32) : x &&& 1 = if bq x 0 = true then 1 else 0 := by
  refine bq_ext (fun i hi => ?_)
  rw [bq_and, bq_1 i hi]
  by_cases h : i = 0
  · subst h
    cases e : bq x 0 <;> simp [bq_0]
    decide
  · by_cases e : bq x 0 = true
    · rw [if_pos e, bq_1 i hi]; simp [h]
    · rw [if_neg e, bq_0]; simp [h]
theorem shr_1 {k : Nat} (hk : k < 32) (x : Int32) : (x >>> (nI k &&& 31)) &&& 1 = if bq x k = true then 1 else 0 := by rw [and_1, bq_shr hk]
theorem shr_e1 {k : Nat} (hk : k < 32) (x : Int32) : ((x >>> (nI k &&& 31)) &&& 1 = 1) ↔ bq x k = true := by
  rw [shr_1 hk]
  by_cases h : bq x k = true
  · rw [if_pos h]; exact ⟨fun _ => h, fun _ => rfl⟩
  · rw [if_neg h]; exact ⟨fun z => absurd z (by decide), fun z => absurd z h⟩
theorem shr_e0 {k : Nat} (hk : k < 32) (x : Int32) : ((x >>> (nI k &&& 31)) &&& 1 = 0) ↔ bq x k = false := by
  rw [shr_1 hk]
  by_cases h : bq x k = true
  · rw [if_pos h, h]; exact ⟨fun z => absurd z (by decide), fun z => (by cases z)⟩
  · rw [if_neg h]; exact ⟨fun _ => Bool.not_eq_true _ ▸ h, fun _ => rfl⟩
/-- the numbers as bits -/
def orB (g : Nat → Bool) (n : Nat) : Int32 := orA 0 (fun k => if g k = true then 1 <<< (nI k &&& 31) else 0) n
theorem orB_s (g : Nat → Bool) (n : Nat) : orB g (n + 1) = orB g n ||| (if g n = true then 1 <<< (nI n &&& 31) else 0) := rfl
theorem bq_orB {g : Nat → Bool} {i : Nat} (hi : i < 32) : ∀ {n : Nat}, n ≤ 32 → bq (orB g n) i = (decide (i < n) && g i)
  | 0, _ => by rw [show orB g 0 = 0 from rfl, bq_0]; simp
  | n + 1, h => by
    rw [orB_s, bq_or, bq_orB hi (by omega : n ≤ 32)]
    by_cases h1 : g n = true
    · rw [if_pos h1, bq_one (by omega) hi]
      by_cases e : i = n
      · subst e; simp [h1]
      · by_cases h2 : i < n
        · simp [e, h2, show i < n + 1 by omega]
        · simp [e, h2, show ¬ i < n + 1 by omega]
    · rw [if_neg h1, bq_0]
      by_cases e : i = n
      · subst e; simp [Bool.not_eq_true _ ▸ h1]
      · by_cases h2 : i < n
        · simp [h2, show i < n + 1 by omega]
        · simp [h2, show ¬ i < n + 1 by omega]
theorem orB_cg {g h : Nat → Bool} : ∀ {n : Nat}, (∀ k, k < n → g k = h k) → orB g n = orB h n
  | 0, _ => rfl
  | n + 1, e => by rw [orB_s, orB_s, orB_cg (fun k hk => e k (by omega)), e n (by omega)]
def agF (P P' : Nat → Int32) : Prop := ∀ j, (j < 94 ∨ 114 ≤ j) → P' j = P j
theorem pn_F {P P' : Nat → Int32} (h : agF P P') {j : Nat} (hj : j < 94 ∨ 114 ≤ j) : pn P' j = pn P j := by unfold pn; rw [h j hj]
theorem chF_cg {ru da ru' da' : Nat → Int32} {r dy : Int32} : ∀ {n : Nat}, (∀ c, c < n → ru' c = ru c ∧ da' c = da c) → chF ru' da' r dy n = chF ru da r dy n
  | 0, _ => rfl
  | n + 1, h => by
    have e := chF_cg (r := r) (dy := dy) (fun c hc => h c (by omega : c < n + 1)) (n := n)
    have k : chK da' n (chF ru da r dy n) = chK da n (chF ru da r dy n) := by
      cases e2 : chF ru da r dy n with
      | none => rfl
      | some j => show decide _ = decide _; rw [(h j (by have := chF_lt e2; omega)).2, (h n (by omega)).2]
    rw [chF, chF, e, (h n (by omega)).1, (h n (by omega)).2, k]
theorem txN_F {P P' : Nat → Int32} (h : agF P P') {C r : Nat} {dy : Int32} (hC : P 2 = nI C) (c12 : C ≤ 12) (hr : r < 8) : txN P' r dy = txN P r dy := by
  have e : chF (pRu P') (pDa P') (nI r) dy (P' 2).toNatClampNeg = chF (pRu P) (pDa P) (nI r) dy (P 2).toNatClampNeg := by
    rw [h 2 (by omega), hC, nI_clamp (by omega)]
    exact chF_cg (fun c hc => ⟨h _ (by omega), h _ (by omega)⟩)
  unfold txN
  rw [e]
  cases e2 : chF (pRu P) (pDa P) (nI r) dy (P 2).toNatClampNeg with
  | none => show (P' (10 + r)).toNatClampNeg = _; rw [h _ (by omega)]
  | some c =>
    have := chF_lt e2
    rw [hC, nI_clamp (by omega)] at this
    show (P' (42 + c)).toNatClampNeg = _; rw [h _ (by omega)]
theorem faN_F {P P' : Nat → Int32} (h : agF P P') {L : Nat → Nat} {x : Nat} (hx : 114 ≤ x) : faN P' L x = faN P L x := by
  unfold faN
  rw [pn_F h (by omega), pn_F h (by omega), pn_F h (by omega), pn_F h (by omega)]
theorem tsB_F {P P' : Nat → Int32} (h : agF P P') {L : Nat → Nat} {x k : Nat} (hx : 114 ≤ x) : tsB P' L x k = tsB P L x k := by
  unfold tsB
  rw [h (x + 15 + 3 * k) (by omega), pn_F h (j := x + 14 + 3 * k) (by omega), pn_F h (j := x + 16 + 3 * k) (by omega)]
theorem thN_F {P P' : Nat → Int32} (h : agF P P') {L : Nat → Nat} {x : Nat} (hx : 114 ≤ x) : ∀ k, thN P' L x k = thN P L x k
  | 0 => rfl
  | k + 1 => by rw [thN, thN, thN_F h hx k, tsB_F h hx]
theorem ltF_F {P P' : Nat → Int32} (h : agF P P') {x : Nat} (hx : 114 ≤ x) : ∀ k, ltF P' x k = ltF P x k
  | 0 => rfl
  | k + 1 => by rw [ltF, ltF, ltF_F h hx k, h (x + k) (by omega)]
theorem tlF_F {P P' : Nat → Int32} (h : agF P P') {x : Nat} (hx : 114 ≤ x) : ∀ k, tlF P' x k = tlF P x k
  | 0 => rfl
  | k + 1 => by rw [tlF, tlF, tlF_F h hx k, ltF_F h (by omega)]
theorem okT_F {P P' : Nat → Int32} (h : agF P P') {x : Nat} (hx : 114 ≤ x) (k : okT P x) : okT P' x := by
  unfold okT at k ⊢
  rw [h x (by omega), h (x + 1) (by omega), h (x + 2) (by omega), h (x + 3) (by omega)]
  exact k
theorem okX_F {P P' : Nat → Int32} (h : agF P P') {x : Nat} (hx : 114 ≤ x) (k : okX P x) : okX P' x := by
  obtain ⟨k1, k2, k3, k4, k5⟩ := k
  refine ⟨by rw [h x (by omega)]; exact k1, by rw [h (x + 1) (by omega)]; exact k2, fun i hi => okT_F h (by omega) (k3 i (by rw [pn_F h (by omega)] at hi; exact hi)), okT_F h (by omega) k4, fun i hi => ?_⟩
  rw [h (x + 14 + 3 * i) (by omega), h (x + 16 + 3 * i) (by omega)]
  exact k5 i (by rw [pn_F h (by omega)] at hi; exact hi)
theorem wkA_F {P P' : Nat → Int32} {R C n : Nat} (h : agF P P') (k : wkA P R C n) : wkA P' R C n := by
  obtain ⟨w1, w2, w3, w4, w5, w6, w7, w8, w9, w10, w11⟩ := k
  refine ⟨by rw [h 1 (by omega)]; exact w1, w2, by rw [h 2 (by omega)]; exact w3, w4, fun r hr => ?_, fun c hc => ?_, by rw [h 3 (by omega)]; exact w7, w8, fun k hk => ?_, fun r hr => ?_, fun c hc => ?_⟩
  · rw [h (10 + r) (by omega)]; exact w5 r hr
  · rw [h (42 + c) (by omega)]; exact w6 c hc
  · rw [h (54 + k) (by omega)]; exact w9 k hk
  · rw [pn_F h (by omega)]; exact okX_F h (by omega) (w10 r hr)
  · rw [pn_F h (by omega)]; exact okX_F h (by omega) (w11 c hc)
theorem okR_F {P P' : Nat → Int32} {R q s : Nat} (h : agF P P') (k : okR P R (rwX q s)) : okR P' R (rwX q s) := by
  unfold okR at k ⊢
  rw [h (rwX q s) (by unfold rwX; omega), h (rwX q s + 1) (by unfold rwX; omega), h (rwX q s + 2) (by unfold rwX; omega)]
  exact k
theorem pfA_F {P P' : Nat → Int32} {R Q : Nat} (h : agF P P') (k : pfA P R Q) : pfA P' R Q := by
  obtain ⟨k1, k2, k3⟩ := k
  refine ⟨by rw [h 4 (by omega)]; exact k1, k2, fun q hq => ?_⟩
  obtain ⟨a, st, b1, b2, b3⟩ := k3 q hq
  exact ⟨by rw [h (114 + q) (by omega)]; exact a, st, b1, by rw [h (126 + q) (by omega)]; exact b2, fun j hj => okR_F h (b3 j hj)⟩
theorem ttA_F {P P' : Nat → Int32} {Q T : Nat} (h : agF P P') (k : ttA P Q T) : ttA P' Q T := by
  obtain ⟨k1, k2, k3, k4⟩ := k
  refine ⟨by rw [h 5 (by omega)]; exact k1, k2, k3, fun t ht => ?_⟩
  rw [h (1002 + t) (by omega), h (1012 + t) (by omega), h (1022 + t) (by omega)]
  exact k4 t ht
/-- systems that are alike -/
def sy_eq (S S' : sy_T) : Prop := sy_R S' = sy_R S ∧ ∀ r, r < sy_R S → sy_k S' r = sy_k S r ∧ ∀ n, n < 625 → sy_i S' r n = sy_i S r n ∧ sy_e S' r n = sy_e S r n ∧ ∀ k, sy_t S' r n k = sy_t S r n k
theorem sy_by_eq {S S' : sy_T} {p p' : Nat → Prop} {r n f : Nat} (h : sy_eq S S') (hp : ∀ f, p f → p' f) (k : sy_by S p r n f) : sy_by S' p' r n f := by
  obtain ⟨k1, k2, k3, k4, k5⟩ := k
  obtain ⟨e1, e2⟩ := h
  obtain ⟨a1, a2⟩ := e2 r k1
  obtain ⟨b1, b2, b3⟩ := a2 n k2
  exact ⟨by rw [e1]; exact k1, k2, by rw [b1]; exact k3, by rw [b2]; exact k4, fun j hj => by rw [b3]; exact hp _ (k5 j (by rw [a1] at hj; exact hj))⟩
theorem sy_eq_s {S S' : sy_T} (h : sy_eq S S') : sy_eq S' S := by
  obtain ⟨e1, e2⟩ := h
  refine ⟨e1.symm, fun r hr => ?_⟩
  obtain ⟨a1, a2⟩ := e2 r (by rw [← e1]; exact hr)
  exact ⟨a1.symm, fun n hn => ⟨((a2 n hn).1).symm, ((a2 n hn).2.1).symm, fun k => ((a2 n hn).2.2 k).symm⟩⟩
theorem hs_eq {S S' : sy_T} {ba ba' : Nat → Prop} (h : sy_eq S S') (hb : ∀ f, ba f → ba' f) : ∀ (m f : Nat), hs S ba m f → hs S' ba' m f
  | 0, f, k => hb f k
  | m + 1, f, k => k.elim (fun z => Or.inl (hs_eq h hb m f z)) (fun ⟨r, n, z⟩ => Or.inr ⟨r, n, sy_by_eq h (hs_eq h hb m) z⟩)
theorem sy_eq_r (S : sy_T) : sy_eq S S := ⟨rfl, fun _ _ => ⟨rfl, fun _ _ => ⟨rfl, rfl, fun _ => rfl⟩⟩⟩
theorem rc_eq {S S' : sy_T} {ba ba' : Nat → Prop} {f : Nat} (h : sy_eq S S') (hb : ∀ f, ba f ↔ ba' f) : rcP S ba f ↔ rcP S' ba' f :=
  ⟨fun ⟨m, k⟩ => ⟨m, hs_eq h (fun f => (hb f).mp) m f k⟩, fun ⟨m, k⟩ => ⟨m, hs_eq (sy_eq_s h) (fun f => (hb f).mpr) m f k⟩⟩
theorem rc_mono {S : sy_T} {ba ba' : Nat → Prop} {f : Nat} (hb : ∀ f, ba f → ba' f) : rcP S ba f → rcP S ba' f := fun ⟨m, k⟩ => ⟨m, hs_eq (sy_eq_r S) hb m f k⟩
theorem syP_F {P P' : Nat → Int32} {R C n : Nat} {dy : Int32} (h : agF P P') (k : wkA P R C n) : sy_eq (syP P dy) (syP P' dy) := by
  obtain ⟨w1, w2, w3, w4, -⟩ := id k
  refine ⟨pn_F h (by omega), fun r hr => ?_⟩
  have hr' : r < R := by rw [show sy_R (syP P dy) = pn P 1 from rfl, pn_of w1 (by omega)] at hr; exact hr
  have e : txX P' r dy = txX P r dy := by unfold txX; rw [txN_F h w3 w4 (by omega)]
  have e2 : pn P' (txX P r dy) = pn P (txX P r dy) := pn_F h (by unfold txX; omega)
  have e3 : pn P' (txX P r dy + 1) = pn P (txX P r dy + 1) := pn_F h (by unfold txX; omega)
  refine ⟨?_, fun m hm => ⟨?_, ?_, fun j => ?_⟩⟩
  · show pn P' (txX P' r dy) = _; rw [e, e2]; rfl
  · show (plN (tlF P' (txX P' r dy) (pn P' (txX P' r dy))) (Lm m) 4 && thN P' (Lm m) (txX P' r dy) (pn P' (txX P' r dy + 1))) = _
    rw [e, e2, e3, tlF_F h (by unfold txX; omega), thN_F h (by unfold txX; omega)]; rfl
  · show faN P' (Lm m) (txX P' r dy + 26) = _; rw [e, faN_F h (by unfold txX; omega)]; rfl
  · show faN P' (Lm m) (txX P' r dy + 2 + 4 * j) = _; rw [e, faN_F h (by unfold txX; omega)]; rfl
/-- which PAPERS of a set say a FACT -/
def baX (P : Nat → Int32) (n : Nat) (x : Int32) (f : Nat) : Prop := ∃ k, k < n ∧ bq x k = true ∧ P (54 + k) = nI f
theorem baX_F {P P' : Nat → Int32} {n : Nat} {x : Int32} (h : agF P P') (n20 : n ≤ 20) (hx : ∀ k, k < n → (P' (94 + k) = 0 ↔ bq x k = true)) (f : Nat) : baP P' n f ↔ baX P n x f :=
  ⟨fun ⟨k, hk, e1, e2⟩ => ⟨k, hk, (hx k hk).mp e1, by rw [← h (54 + k) (by omega)]; exact e2⟩, fun ⟨k, hk, e1, e2⟩ => ⟨k, hk, (hx k hk).mpr e1, by rw [h (54 + k) (by omega)]; exact e2⟩⟩
theorem baX_m {P : Nat → Int32} {n : Nat} {x y : Int32} (h : ∀ k, k < n → bq x k = true → bq y k = true) {f : Nat} : baX P n x f → baX P n y f := fun ⟨k, hk, e1, e2⟩ => ⟨k, hk, h k hk e1, e2⟩
theorem alN_cg {b c : Nat → Bool} : ∀ {n : Nat}, (∀ k, k < n → b k = c k) → alN b n = alN c n
  | 0, _ => rfl
  | n + 1, h => by rw [alN, alN, alN_cg (fun k hk => h k (by omega)), h n (by omega)]
theorem fsN_cg {b c : Nat → Bool} : ∀ {n : Nat}, (∀ k, k < n → b k = c k) → fsN b n = fsN c n
  | 0, _ => rfl
  | n + 1, h => by rw [fsN, fsN, fsN_cg (fun k hk => h k (by omega)), h n (by omega)]
theorem tx_F {P P' : Nat → Int32} {R C n q s : Nat} {dy : Int32} (h : agF P P') (hW : wkA P R C n) (hR : okR P R (rwX q s)) : txX P' (pn P' (rwX q s)) dy = txX P (pn P (rwX q s)) dy := by
  obtain ⟨w1, w2, w3, w4, -⟩ := id hW
  obtain ⟨⟨r, hr, er⟩, -, -⟩ := id hR
  unfold txX
  rw [pn_F h (by unfold rwX; omega), pn_of er (by omega), txN_F h w3 w4 (by omega)]
theorem syN_F {P P' : Nat → Int32} {R C n q s : Nat} {dy : Int32} (h : agF P P') (hW : wkA P R C n) (hR : okR P R (rwX q s)) : syN P' dy q s = syN P dy q s := by
  unfold syN
  rw [tx_F h hW hR, pn_F h (by unfold rwX; omega), faN_F h (by unfold txX; omega)]
theorem trN_F {P P' : Nat → Int32} {R C n q s k : Nat} {dy : Int32} (h : agF P P') (hW : wkA P R C n) (hR : okR P R (rwX q s)) : trN P' dy q s k = trN P dy q s k := by
  unfold trN
  rw [tx_F h hW hR, pn_F h (by unfold rwX; omega), faN_F h (by unfold txX; omega)]
theorem hoK_F {P P' : Nat → Int32} (h : agF P P') {x : Nat} (hx : 114 ≤ x) : ∀ k, hoK P' x k = hoK P x k
  | 0 => rfl
  | k + 1 => by rw [hoK, hoK, hoK_F h hx k, h (x + 3 + k) (by omega)]
theorem hoS_F {P P' : Nat → Int32} (h : agF P P') {q : Nat} : ∀ s, hoS P' q s = hoS P q s
  | 0 => rfl
  | s + 1 => by rw [hoS, hoS, hoS_F h s, hoK_F h (by unfold rwX; omega), pn_F h (by unfold rwX; omega)]
theorem tkB_F {P P' : Nat → Int32} (h : agF P P') {lk lk' : Nat → Nat → Nat} {q : Nat} (hl : ∀ s, s < pn P (126 + q) → lk' q s = lk q s) : tkB P' lk' q = tkB P lk q := by
  unfold tkB
  rw [pn_F h (by omega), pn_F h (by omega), hoS_F h, alN_cg (fun s hs => by rw [hl s hs])]
theorem tkB_0 {P : Nat → Int32} {lk : Nat → Nat → Nat} {q : Nat} (h : pn P (126 + q) = 0) : tkB P lk q = false := by
  unfold tkB
  rw [decide_eq_false (fun z => z h)]; rfl
theorem fmB_F {P P' : Nat → Int32} {R C n Q q s k : Nat} {dy : Int32} {tr tr' : Nat → Bool} (h : agF P P') (hW : wkA P R C n) (hA : pfA P R Q) (ht : ∀ k, k < n → tr' k = tr k) {lk lk' : Nat → Nat → Nat} (hl : ∀ q s, q < Q → s < pn P (126 + q) → lk' q s = lk q s) (hq : q < Q) (hs : s < pn P (126 + q)) : fmB P' tr' dy lk' q s k = fmB P tr dy lk q s k := by
  obtain ⟨q12, -, st, s12, es, ps, hRw⟩ := pf_q hA hq
  obtain ⟨w1, w2, w3, w4, w5, w6, w7, w8, -⟩ := id hW
  have hR := hRw s (by rw [ps] at hs; exact hs)
  have e0 : P' (rwX q s + 3 + k) = P (rwX q s + 3 + k) := h _ (by unfold rwX; omega)
  have e1 : pn P' (rwX q s + 3 + k) = pn P (rwX q s + 3 + k) := pn_F h (by unfold rwX; omega)
  unfold fmB
  rw [e0, e1, pn_F h (by omega : 114 + q < 94 ∨ 114 ≤ 114 + q), h 3 (by omega), trN_F h hW hR]
  by_cases c1 : P (rwX q s + 3 + k) = 300
  · rw [if_pos c1, if_pos c1]
  rw [if_neg c1, if_neg c1]
  by_cases c2 : 0 ≤ P (rwX q s + 3 + k) ∧ P (rwX q s + 3 + k) ≤ P 3 - 1
  · rw [if_pos c2, if_pos c2]
    obtain ⟨j, ej, cj, hj⟩ := ix_at w7 (by omega) c2
    rw [show pn P (rwX q s + 3 + k) = j from cj, ht j hj, h (54 + j) (by omega)]
  rw [if_neg c2, if_neg c2]
  by_cases c3 : 100 ≤ P (rwX q s + 3 + k) ∧ P (rwX q s + 3 + k) ≤ 100 + nI s - 1
  · rw [if_pos c3, if_pos c3]
    obtain ⟨j, ej, jl, jn⟩ := rg_of (lo := 100) (n := s) (by omega) c3.1 c3.2
    rw [pn_of ej (by omega), syN_F h hW (hRw _ (by omega)), hl q (j - 100) hq (by omega)]
  rw [if_neg c3, if_neg c3]
  by_cases c4 : (200 ≤ P (rwX q s + 3 + k) ∧ P (rwX q s + 3 + k) ≤ 200 + nI q - 1) ∧ (pn P (114 + q) = 2 ∨ pn P (114 + q) = 3)
  · rw [if_pos c4, if_pos c4]
    obtain ⟨j, ej, jl, jn⟩ := rg_of (lo := 200) (n := q) (by omega) c4.1.1 c4.1.2
    rw [pn_of ej (by omega), tkB_F h (fun s hs => hl (j - 200) s (by omega) hs), pn_F h (by omega)]
    by_cases c5 : pn P (126 + (j - 200)) = 0
    · rw [tkB_0 c5, Bool.false_and, Bool.false_and]
    · obtain ⟨-, -, st', s12', es', ps', hRw'⟩ := pf_q hA (show j - 200 < Q by omega)
      rw [syN_F h hW (hRw' _ (by omega))]
  rw [if_neg c4, if_neg c4]
theorem lkN_F {P P' : Nat → Int32} {R C n Q : Nat} {dy : Int32} {tr tr' : Nat → Bool} (h : agF P P') (hW : wkA P R C n) (hA : pfA P R Q) (ht : ∀ k, k < n → tr' k = tr k) : ∀ (F q s : Nat), q < Q → s < pn P (126 + q) → lkN P' tr' dy F q s = lkN P tr dy F q s
  | 0, _, _, _, _ => rfl
  | F + 1, q, s, hq, hs => by
    obtain ⟨q12, -, st, s12, es, ps, hRw⟩ := pf_q hA hq
    have hR := hRw s (by rw [ps] at hs; exact hs)
    rw [lkN, lkN, tx_F h hW hR, h _ (by unfold txX; omega), h (rwX q s + 2) (by unfold rwX; omega), pn_F h (by unfold rwX; omega : rwX q s + 1 < 94 ∨ 114 ≤ rwX q s + 1), pn_F h (by unfold txX; omega : txX P (pn P (rwX q s)) dy + 1 < 94 ∨ 114 ≤ txX P (pn P (rwX q s)) dy + 1), thN_F h (by unfold txX; omega), pn_F h (by unfold rwX; omega : rwX q s + 2 < 94 ∨ 114 ≤ rwX q s + 2)]
    rw [fsN_cg (fun k hk => fmB_F h hW hA ht (lkN_F h hW hA ht F) hq hs)]
theorem tkD_F {P P' : Nat → Int32} {R C n Q T t : Nat} {tr tr' : Nat → Bool} (h : agF P P') (hW : wkA P R C n) (hA : pfA P R Q) (hT : ttA P Q T) (ht : t < T) (hr : ∀ k, k < n → tr' k = tr k) : tkD P' tr' t = tkD P tr t := by
  obtain ⟨t10, ⟨q, hq, eq, pq⟩, -, -⟩ := tt_t hT ht
  unfold tkD
  rw [h (1012 + t) (by omega), pn_F h (by omega), pq]
  exact tkB_F h (fun s hs => lkN_F h hW hA hr 145 q s hq hs)

