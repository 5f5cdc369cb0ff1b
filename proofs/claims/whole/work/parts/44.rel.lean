/-! THE CLASS AND THE REFERENCE: how the cells of a Book (its object at place b) say what P says -/
def bY (v : Int32) : Int32 := v.toInt8.toInt32
def cdN (c : Nat) : Nat := if 10 ≤ c then c - 5 else c
def ySl (x s : Nat) : Nat := if s = 3 then x + 26 else x + 2 + 4 * s
def snN (v : Int32) : Nat := if v = 60 then 0 else if v = 61 then 1 else 2
/-- a Text (its object at place a) and the text at x -/
def txR (cg : sg_T) (a : Nat) (P : Nat → Int32) (x : Nat) : Prop := cg a 0 = P x ∧ cg a 1 = P (x + 1) ∧ (∀ l, l < 4 → bq (cg a 2) (5 + l) = bq (tlF P x (pn P x)) l) ∧ (∀ s, (s < pn P x ∨ s = 3) → cg (a + 1) (4 * s) = P (ySl x s) ∧ ∀ i, 1 ≤ i → i < 4 → cg (a + 1) (4 * s + i) = nI (cdN (pn P (ySl x s + i)))) ∧ ∀ k, k < pn P (x + 1) → cg (a + 2) (3 * k) = nI (cdN (pn P (x + 14 + 3 * k))) ∧ cg (a + 2) (3 * k + 1) = nI (snN (P (x + 15 + 3 * k))) ∧ cg (a + 2) (3 * k + 2) = nI (cdN (pn P (x + 16 + 3 * k)))
def BR (b : Nat) (cg : sg_T) (P : Nat → Int32) : Prop := (∀ i, i < 7 → cg (b + 1) i = P i) ∧ (cg (b + 1) 7 = P 8) ∧ (∀ i, i < 120 → cg (b + 2) i = bY (P (2358 + i))) ∧ (∀ c, c < 12 → cg (b + 4) c = P (18 + c)) ∧ (∀ c, c < 12 → cg (b + 5) c = P (30 + c)) ∧ (∀ k, k < 20 → cg (b + 6) k = P (54 + k)) ∧ (∀ k, k < 20 → cg (b + 7) k = P (74 + k)) ∧ (cg b 7 = tpX P) ∧ (∀ q, q < 12 → cg (b + 8) q = P (114 + q)) ∧ (∀ q, q < 12 → cg (b + 9) q = P (126 + q)) ∧ (∀ i, i < 864 → cg (b + 10) i = P (138 + i)) ∧ (∀ t, t < 10 → cg (b + 11) t = P (1002 + t)) ∧ (∀ t, t < 10 → cg (b + 12) t = P (1022 + t)) ∧ (∀ t, t < 10 → cg (b + 13) t = P (1012 + t)) ∧ (∀ t, t < 6 → cg (b + 14) t = P (1032 + t)) ∧ (∀ j, j < 720 → cg (b + 15) j = bY (P (1038 + j))) ∧ (∀ f, f < 750 → cg (b + 16) f = P (2478 + f)) ∧ (cg b 17 = P 9) ∧ (∀ r, r < pn P 1 → txR cg (b + 17 + 3 * r) P (1758 + 30 * pn P (10 + r))) ∧ ∀ c, c < pn P 2 → txR cg (b + 17 + 3 * (8 + c)) P (1758 + 30 * pn P (42 + c))
theorem BR.c {cg : sg_T} {P : Nat → Int32} (h : BR 1 cg P) : ∀ i, i < 7 → cg 2 i = P i := h.1
theorem BR.c7 {cg : sg_T} {P : Nat → Int32} (h : BR 1 cg P) : cg 2 7 = P 8 := h.2.1
theorem BR.t {cg : sg_T} {P : Nat → Int32} (h : BR 1 cg P) : ∀ i, i < 120 → cg 3 i = bY (P (2358 + i)) := h.2.2.1
theorem BR.cr {cg : sg_T} {P : Nat → Int32} (h : BR 1 cg P) : ∀ c, c < 12 → cg 5 c = P (18 + c) := h.2.2.2.1
theorem BR.cd {cg : sg_T} {P : Nat → Int32} (h : BR 1 cg P) : ∀ c, c < 12 → cg 6 c = P (30 + c) := h.2.2.2.2.1
theorem BR.pf {cg : sg_T} {P : Nat → Int32} (h : BR 1 cg P) : ∀ k, k < 20 → cg 7 k = P (54 + k) := h.2.2.2.2.2.1
theorem BR.pp {cg : sg_T} {P : Nat → Int32} (h : BR 1 cg P) : ∀ k, k < 20 → cg 8 k = P (74 + k) := h.2.2.2.2.2.2.1
theorem BR.tp {cg : sg_T} {P : Nat → Int32} (h : BR 1 cg P) : cg 1 7 = tpX P := h.2.2.2.2.2.2.2.1
theorem BR.k {cg : sg_T} {P : Nat → Int32} (h : BR 1 cg P) : ∀ q, q < 12 → cg 9 q = P (114 + q) := h.2.2.2.2.2.2.2.2.1
theorem BR.s {cg : sg_T} {P : Nat → Int32} (h : BR 1 cg P) : ∀ q, q < 12 → cg 10 q = P (126 + q) := h.2.2.2.2.2.2.2.2.2.1
theorem BR.r {cg : sg_T} {P : Nat → Int32} (h : BR 1 cg P) : ∀ i, i < 864 → cg 11 i = P (138 + i) := h.2.2.2.2.2.2.2.2.2.2.1
theorem BR.tq {cg : sg_T} {P : Nat → Int32} (h : BR 1 cg P) : ∀ t, t < 10 → cg 12 t = P (1002 + t) := h.2.2.2.2.2.2.2.2.2.2.2.1
theorem BR.tf {cg : sg_T} {P : Nat → Int32} (h : BR 1 cg P) : ∀ t, t < 10 → cg 13 t = P (1022 + t) := h.2.2.2.2.2.2.2.2.2.2.2.2.1
theorem BR.td {cg : sg_T} {P : Nat → Int32} (h : BR 1 cg P) : ∀ t, t < 10 → cg 14 t = P (1012 + t) := h.2.2.2.2.2.2.2.2.2.2.2.2.2.1
theorem BR.az {cg : sg_T} {P : Nat → Int32} (h : BR 1 cg P) : ∀ t, t < 6 → cg 15 t = P (1032 + t) := h.2.2.2.2.2.2.2.2.2.2.2.2.2.2.1
theorem BR.ab {cg : sg_T} {P : Nat → Int32} (h : BR 1 cg P) : ∀ j, j < 720 → cg 16 j = bY (P (1038 + j)) := h.2.2.2.2.2.2.2.2.2.2.2.2.2.2.2.1
theorem BR.fo {cg : sg_T} {P : Nat → Int32} (h : BR 1 cg P) : ∀ f, f < 750 → cg 17 f = P (2478 + f) := h.2.2.2.2.2.2.2.2.2.2.2.2.2.2.2.2.1
theorem BR.hr {cg : sg_T} {P : Nat → Int32} (h : BR 1 cg P) : cg 1 17 = P 9 := h.2.2.2.2.2.2.2.2.2.2.2.2.2.2.2.2.2.1
theorem BR.xr {cg : sg_T} {P : Nat → Int32} (h : BR 1 cg P) : ∀ r, r < pn P 1 → txR cg (18 + 3 * r) P (1758 + 30 * pn P (10 + r)) := h.2.2.2.2.2.2.2.2.2.2.2.2.2.2.2.2.2.2.1
theorem BR.xc {cg : sg_T} {P : Nat → Int32} (h : BR 1 cg P) : ∀ c, c < pn P 2 → txR cg (18 + 3 * (8 + c)) P (1758 + 30 * pn P (42 + c)) := h.2.2.2.2.2.2.2.2.2.2.2.2.2.2.2.2.2.2.2
theorem lt_in {v N : Int32} {n : Nat} (hN : N = nI n) (hn : n ≤ 1000) : (0 ≤ v ∧ v < N) ↔ (0 ≤ v ∧ v ≤ N - 1) := by
  rw [hN]
  constructor
  · intro z
    obtain ⟨j, e, -, hj⟩ := ix_c (m := n) (by omega) ⟨z.1, Int32.le_of_lt z.2⟩
    rw [e] at z ⊢
    exact in_of ((nI_ltI (by omega) (by omega)).mp z.2) hn
  · intro z
    obtain ⟨j, e, -, hj⟩ := ix_in (by omega) z
    rw [e] at z ⊢
    exact ⟨z.1, (nI_ltI (by omega) (by omega)).mpr hj⟩
theorem b_cg {p q : Prop} {dp : Decidable p} {dq : Decidable q} (h : p ↔ q) : bI (@decide p dp) = bI (@decide q dq) := by
  cases dp <;> cases dq
  · rfl
  · rename_i a b; exact absurd (h.mpr b) a
  · rename_i a b; exact absurd (h.mp a) b
  · rfl
theorem c_isDay {h : am_H} (d : Nat) (v : Int32) : am_Met mi_X11_isDay d 0 0 [.int v] h (fun r h' => r = some (.int (bI (decide (inI v 0 999)))) ∧ h' = h) := by
  refine am_Met.of rfl (Nat.le_of_ble_eq_true rfl) ?_
  refine am_go ok_X11_isDay [] 67 ?_
  refine ⟨fun c1 => ?_, fun c1 => ?_⟩
  · have q : ¬ inI v 0 999 := fun z => i_ltn c1 z.1
    refine ⟨rfl, ?_⟩
    first
    | rw [bI_dt q]; exact ⟨rfl, rfl⟩
    | rw [bI_df q]; exact ⟨rfl, rfl⟩
  · refine ⟨fun c8 => ?_, fun c8 => ?_⟩
    · have q : ¬ inI v 0 999 := fun z => absurd c8 (i_ltn (Int32.lt_of_le_of_lt z.2 (by decide)))
      refine ⟨rfl, ?_⟩
      first
      | rw [bI_dt q]; exact ⟨rfl, rfl⟩
      | rw [bI_df q]; exact ⟨rfl, rfl⟩
    · have q : inI v 0 999 := (lt_in (N := 1000) (n := 1000) rfl (by omega)).mp ⟨i_nlt c1, i_nle c8⟩
      refine ⟨rfl, ?_⟩
      first
      | rw [bI_dt q]; exact ⟨rfl, rfl⟩
      | rw [bI_df q]; exact ⟨rfl, rfl⟩
theorem c_isFact {h : am_H} (d : Nat) (v : Int32) : am_Met mi_X11_isFact d 0 0 [.int v] h (fun r h' => r = some (.int (bI (decide (inI v 0 749)))) ∧ h' = h) := by
  refine am_Met.of rfl (Nat.le_of_ble_eq_true rfl) ?_
  refine am_go ok_X11_isFact [] 67 ?_
  refine ⟨fun c1 => ?_, fun c1 => ?_⟩
  · have q : ¬ inI v 0 749 := fun z => i_ltn c1 z.1
    refine ⟨rfl, ?_⟩
    first
    | rw [bI_dt q]; exact ⟨rfl, rfl⟩
    | rw [bI_df q]; exact ⟨rfl, rfl⟩
  · refine ⟨fun c8 => ?_, fun c8 => ?_⟩
    · have q : ¬ inI v 0 749 := fun z => absurd c8 (i_ltn (Int32.lt_of_le_of_lt z.2 (by decide)))
      refine ⟨rfl, ?_⟩
      first
      | rw [bI_dt q]; exact ⟨rfl, rfl⟩
      | rw [bI_df q]; exact ⟨rfl, rfl⟩
    · have q : inI v 0 749 := (lt_in (N := 750) (n := 750) rfl (by omega)).mp ⟨i_nlt c1, i_nle c8⟩
      refine ⟨rfl, ?_⟩
      first
      | rw [bI_dt q]; exact ⟨rfl, rfl⟩
      | rw [bI_df q]; exact ⟨rfl, rfl⟩
theorem c_isPerson {h : am_H} (d : Nat) (v : Int32) : am_Met mi_X11_isPerson d 0 0 [.int v] h (fun r h' => r = some (.int (bI (decide (inI v 0 4)))) ∧ h' = h) := by
  refine am_Met.of rfl (Nat.le_of_ble_eq_true rfl) ?_
  refine am_go ok_X11_isPerson [] 67 ?_
  refine ⟨fun c1 => ?_, fun c1 => ?_⟩
  · have q : ¬ inI v 0 4 := fun z => i_ltn c1 z.1
    refine ⟨rfl, ?_⟩
    first
    | rw [bI_dt q]; exact ⟨rfl, rfl⟩
    | rw [bI_df q]; exact ⟨rfl, rfl⟩
  · refine ⟨fun c6 => ?_, fun c6 => ?_⟩
    · have q : ¬ inI v 0 4 := fun z => absurd c6 (i_ltn (Int32.lt_of_le_of_lt z.2 (by decide)))
      refine ⟨rfl, ?_⟩
      first
      | rw [bI_dt q]; exact ⟨rfl, rfl⟩
      | rw [bI_df q]; exact ⟨rfl, rfl⟩
    · have q : inI v 0 4 := (lt_in (N := 5) (n := 5) rfl (by omega)).mp ⟨i_nlt c1, i_nle c6⟩
      refine ⟨rfl, ?_⟩
      first
      | rw [bI_dt q]; exact ⟨rfl, rfl⟩
      | rw [bI_df q]; exact ⟨rfl, rfl⟩
theorem c_isKind {h : am_H} (d : Nat) (v : Int32) : am_Met mi_X11_isKind d 0 0 [.int v] h (fun r h' => r = some (.int (bI (decide (inI v 0 4)))) ∧ h' = h) := by
  refine am_Met.of rfl (Nat.le_of_ble_eq_true rfl) ?_
  refine am_go ok_X11_isKind [] 67 ?_
  refine ⟨fun c1 => ?_, fun c1 => ?_⟩
  · have q : ¬ inI v 0 4 := fun z => i_ltn c1 z.1
    refine ⟨rfl, ?_⟩
    first
    | rw [bI_dt q]; exact ⟨rfl, rfl⟩
    | rw [bI_df q]; exact ⟨rfl, rfl⟩
  · refine ⟨fun c6 => ?_, fun c6 => ?_⟩
    · have q : ¬ inI v 0 4 := fun z => absurd c6 (i_ltn (Int32.lt_of_le_of_lt z.2 (by decide)))
      refine ⟨rfl, ?_⟩
      first
      | rw [bI_dt q]; exact ⟨rfl, rfl⟩
      | rw [bI_df q]; exact ⟨rfl, rfl⟩
    · have q : inI v 0 4 := (lt_in (N := 5) (n := 5) rfl (by omega)).mp ⟨i_nlt c1, i_nle c6⟩
      refine ⟨rfl, ?_⟩
      first
      | rw [bI_dt q]; exact ⟨rfl, rfl⟩
      | rw [bI_df q]; exact ⟨rfl, rfl⟩
theorem c_has {cg : sg_T} {fn : Nat → Option Nat} {cx : cx_T} (d : Nat) {w n : Nat} {vw : Int32} (v : Int32) (hw : vw = nI w) (w8 : w < 8) (hn : cg 2 w = nI n) (n1 : n ≤ 1000) : am_Met mi_X0_has d 0 0 [.ref 1, .int vw, .int v] (hc cg fn cx) (fun r h' => r = some (.int (bI (decide (inI v 0 (nI n - 1))))) ∧ h' = (hc cg fn cx)) := by
  refine am_Met.of rfl (Nat.le_of_ble_eq_true rfl) ?_
  refine am_go ok_X0_has [] 70 ?_
  refine ⟨fun c1 => ?_, fun c1 => ?_⟩
  · have q : ¬ inI v 0 (nI n - 1) := fun z => i_ltn c1 z.1
    refine ⟨rfl, ?_⟩
    first
    | rw [bI_dt q]; exact ⟨rfl, rfl⟩
    | rw [bI_df q]; exact ⟨rfl, rfl⟩
  · refine ⟨_, _, rfl, rfl, ?_⟩
    refine ⟨_, _, w, rfl, hw, by omega, Nat.le_of_ble_eq_true rfl, ?_⟩
    rw [hn]
    refine ⟨fun c11 => ?_, fun c11 => ?_⟩
    · have q : ¬ inI v 0 (nI n - 1) := fun z => absurd ((lt_in rfl n1).mpr z).2 (i_len c11)
      refine ⟨rfl, ?_⟩
      first
      | rw [bI_dt q]; exact ⟨rfl, rfl⟩
      | rw [bI_df q]; exact ⟨rfl, rfl⟩
    · have q : inI v 0 (nI n - 1) := (lt_in rfl n1).mp ⟨i_nlt c1, i_nle c11⟩
      refine ⟨rfl, ?_⟩
      first
      | rw [bI_dt q]; exact ⟨rfl, rfl⟩
      | rw [bI_df q]; exact ⟨rfl, rfl⟩
