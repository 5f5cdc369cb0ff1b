/-! THE CLASS'S CELLS by their places: 0 DeedProofs, 1 Book (2 .. 17 its rows), 18 + 3 t the Text t, 78 Judge, 84 Reach, 90 Tactician, 91 RuleReader, 95 the kinds; behind 100 what 'image' keeps. cx: nothing, the reader's text, kept, and the cells behind -/
def tfX : Nat → Option Nat := fun j => if j < 20 then some (18 + 3 * j) else none
def kdX : Nat → Option Nat := fun j => if j < 5 then some (96 + j) else none
abbrev cx_T : Type := Nat × Nat × Value × am_H
/-- texts in force: only places of the Book and the reader are named -/
def nfO (fn : Nat → Option Nat) : Nat → Option Nat := fun j => (fn j).bind (fun o => if o < 101 then some o else none)
theorem nfO_s {fn : Nat → Option Nat} {j o : Nat} (h : fn j = some o) (h1 : o < 101) : nfO fn j = some o := by unfold nfO; rw [h]; exact if_pos h1
theorem nfO_n {fn : Nat → Option Nat} {j o : Nat} (h : nfO fn j = some o) : o < 101 := by
  unfold nfO at h
  cases e : fn j with
  | none => rw [e] at h; exact absurd h (by simp)
  | some q =>
    rw [e] at h
    by_cases z : q < 101
    · have : (if q < 101 then some q else none) = some o := h
      rw [if_pos z] at this; injection this with e2; omega
    · have : (if q < 101 then some q else none) = some o := h
      rw [if_neg z] at this; exact absurd this (by simp)
def hc (cg : sg_T) (fn : Nat → Option Nat) (cx : cx_T) : am_H := (.inr (.inr (11, [.ref 1, .ref 78, .ref 84, .ref 90, .ref 91, .ref 95, cx.2.2.1])) : am_C) :: (.inr (.inr (0, [.ref 2, .ref 3, .ref 4, .ref 5, .ref 6, .ref 7, .ref 8, .int (cg 1 7), .ref 9, .ref 10, .ref 11, .ref 12, .ref 13, .ref 14, .ref 15, .ref 16, .ref 17, .int (cg 1 17)]))) :: (.inl (0, 8, cg 2)) :: (.inl (1, 120, cg 3)) :: (.inr (.inl (3, 20, tfX))) :: (.inl (0, 12, cg 5)) :: (.inl (0, 12, cg 6)) :: (.inl (0, 20, cg 7)) :: (.inl (0, 20, cg 8)) :: (.inl (0, 12, cg 9)) :: (.inl (0, 12, cg 10)) :: (.inl (0, 864, cg 11)) :: (.inl (0, 10, cg 12)) :: (.inl (0, 10, cg 13)) :: (.inl (0, 10, cg 14)) :: (.inl (0, 6, cg 15)) :: (.inl (1, 720, cg 16)) :: (.inl (2, 750, cg 17)) :: (.inr (.inr (10, [.int (cg 18 0), .int (cg 18 1), .int (cg 18 2), .ref 19, .ref 20]))) :: (.inl (0, 16, cg 19)) :: (.inl (0, 12, cg 20)) :: (.inr (.inr (10, [.int (cg 21 0), .int (cg 21 1), .int (cg 21 2), .ref 22, .ref 23]))) :: (.inl (0, 16, cg 22)) :: (.inl (0, 12, cg 23)) :: (.inr (.inr (10, [.int (cg 24 0), .int (cg 24 1), .int (cg 24 2), .ref 25, .ref 26]))) :: (.inl (0, 16, cg 25)) :: (.inl (0, 12, cg 26)) :: (.inr (.inr (10, [.int (cg 27 0), .int (cg 27 1), .int (cg 27 2), .ref 28, .ref 29]))) :: (.inl (0, 16, cg 28)) :: (.inl (0, 12, cg 29)) :: (.inr (.inr (10, [.int (cg 30 0), .int (cg 30 1), .int (cg 30 2), .ref 31, .ref 32]))) :: (.inl (0, 16, cg 31)) :: (.inl (0, 12, cg 32)) :: (.inr (.inr (10, [.int (cg 33 0), .int (cg 33 1), .int (cg 33 2), .ref 34, .ref 35]))) :: (.inl (0, 16, cg 34)) :: (.inl (0, 12, cg 35)) :: (.inr (.inr (10, [.int (cg 36 0), .int (cg 36 1), .int (cg 36 2), .ref 37, .ref 38]))) :: (.inl (0, 16, cg 37)) :: (.inl (0, 12, cg 38)) :: (.inr (.inr (10, [.int (cg 39 0), .int (cg 39 1), .int (cg 39 2), .ref 40, .ref 41]))) :: (.inl (0, 16, cg 40)) :: (.inl (0, 12, cg 41)) :: (.inr (.inr (10, [.int (cg 42 0), .int (cg 42 1), .int (cg 42 2), .ref 43, .ref 44]))) :: (.inl (0, 16, cg 43)) :: (.inl (0, 12, cg 44)) :: (.inr (.inr (10, [.int (cg 45 0), .int (cg 45 1), .int (cg 45 2), .ref 46, .ref 47]))) :: (.inl (0, 16, cg 46)) :: (.inl (0, 12, cg 47)) :: (.inr (.inr (10, [.int (cg 48 0), .int (cg 48 1), .int (cg 48 2), .ref 49, .ref 50]))) :: (.inl (0, 16, cg 49)) :: (.inl (0, 12, cg 50)) :: (.inr (.inr (10, [.int (cg 51 0), .int (cg 51 1), .int (cg 51 2), .ref 52, .ref 53]))) :: (.inl (0, 16, cg 52)) :: (.inl (0, 12, cg 53)) :: (.inr (.inr (10, [.int (cg 54 0), .int (cg 54 1), .int (cg 54 2), .ref 55, .ref 56]))) :: (.inl (0, 16, cg 55)) :: (.inl (0, 12, cg 56)) :: (.inr (.inr (10, [.int (cg 57 0), .int (cg 57 1), .int (cg 57 2), .ref 58, .ref 59]))) :: (.inl (0, 16, cg 58)) :: (.inl (0, 12, cg 59)) :: (.inr (.inr (10, [.int (cg 60 0), .int (cg 60 1), .int (cg 60 2), .ref 61, .ref 62]))) :: (.inl (0, 16, cg 61)) :: (.inl (0, 12, cg 62)) :: (.inr (.inr (10, [.int (cg 63 0), .int (cg 63 1), .int (cg 63 2), .ref 64, .ref 65]))) :: (.inl (0, 16, cg 64)) :: (.inl (0, 12, cg 65)) :: (.inr (.inr (10, [.int (cg 66 0), .int (cg 66 1), .int (cg 66 2), .ref 67, .ref 68]))) :: (.inl (0, 16, cg 67)) :: (.inl (0, 12, cg 68)) :: (.inr (.inr (10, [.int (cg 69 0), .int (cg 69 1), .int (cg 69 2), .ref 70, .ref 71]))) :: (.inl (0, 16, cg 70)) :: (.inl (0, 12, cg 71)) :: (.inr (.inr (10, [.int (cg 72 0), .int (cg 72 1), .int (cg 72 2), .ref 73, .ref 74]))) :: (.inl (0, 16, cg 73)) :: (.inl (0, 12, cg 74)) :: (.inr (.inr (10, [.int (cg 75 0), .int (cg 75 1), .int (cg 75 2), .ref 76, .ref 77]))) :: (.inl (0, 16, cg 76)) :: (.inl (0, 12, cg 77)) :: (.inr (.inr (2, [.ref 1, .ref 79, .ref 80, .ref 81, .ref 82, .ref 83, .int (cg 78 6)]))) :: (.inl (0, 144, cg 79)) :: (.inl (0, 144, cg 80)) :: (.inl (2, 12, cg 81)) :: (.inl (0, 12, cg 82)) :: (.inl (0, 9, cg 83)) :: (.inr (.inr (6, [.ref 1, .ref 85, .ref 86, .int (cg 84 3), .ref 87, .int (cg 84 5), .ref 88, .ref 89]))) :: (.inl (0, 750, cg 85)) :: (.inl (0, 750, cg 86)) :: (.inl (2, 750, cg 87)) :: (.inr (.inl (3, 8, nfO fn))) :: (.inl (0, 9, cg 89)) :: (.inr (.inr (9, [.ref 1, .ref 84, .int (cg 90 2), .int (cg 90 3), .int (cg 90 4), .int (cg 90 5)]))) :: (.inr (.inr (7, [.ref 1, .int (cg 91 1), .int (cg 91 2), .ref cx.2.1, .int (cg 91 4)]))) :: (.inr (.inr (10, [.int (cg 92 0), .int (cg 92 1), .int (cg 92 2), .ref 93, .ref 94]))) :: (.inl (0, 16, cg 93)) :: (.inl (0, 12, cg 94)) :: (.inr (.inl (4, 5, kdX))) :: (.inr (.inr (3, []))) :: (.inr (.inr (5, []))) :: (.inr (.inr (8, []))) :: (.inr (.inr (1, []))) :: (.inr (.inr (4, []))) :: cx.2.2.2
theorem hc_a2 {cg : sg_T} {fn : Nat → Option Nat} {cx : cx_T} {j : Nat} {x : Int32} : am_put (hc cg fn cx) 2 (.inl (0, 8, upd (cg 2) j x)) = hc (sg_u cg 2 j x) fn cx := rfl
theorem hc_a3 {cg : sg_T} {fn : Nat → Option Nat} {cx : cx_T} {j : Nat} {x : Int32} : am_put (hc cg fn cx) 3 (.inl (1, 120, upd (cg 3) j x)) = hc (sg_u cg 3 j x) fn cx := rfl
theorem hc_a5 {cg : sg_T} {fn : Nat → Option Nat} {cx : cx_T} {j : Nat} {x : Int32} : am_put (hc cg fn cx) 5 (.inl (0, 12, upd (cg 5) j x)) = hc (sg_u cg 5 j x) fn cx := rfl
theorem hc_a6 {cg : sg_T} {fn : Nat → Option Nat} {cx : cx_T} {j : Nat} {x : Int32} : am_put (hc cg fn cx) 6 (.inl (0, 12, upd (cg 6) j x)) = hc (sg_u cg 6 j x) fn cx := rfl
theorem hc_a7 {cg : sg_T} {fn : Nat → Option Nat} {cx : cx_T} {j : Nat} {x : Int32} : am_put (hc cg fn cx) 7 (.inl (0, 20, upd (cg 7) j x)) = hc (sg_u cg 7 j x) fn cx := rfl
theorem hc_a8 {cg : sg_T} {fn : Nat → Option Nat} {cx : cx_T} {j : Nat} {x : Int32} : am_put (hc cg fn cx) 8 (.inl (0, 20, upd (cg 8) j x)) = hc (sg_u cg 8 j x) fn cx := rfl
theorem hc_a9 {cg : sg_T} {fn : Nat → Option Nat} {cx : cx_T} {j : Nat} {x : Int32} : am_put (hc cg fn cx) 9 (.inl (0, 12, upd (cg 9) j x)) = hc (sg_u cg 9 j x) fn cx := rfl
theorem hc_a10 {cg : sg_T} {fn : Nat → Option Nat} {cx : cx_T} {j : Nat} {x : Int32} : am_put (hc cg fn cx) 10 (.inl (0, 12, upd (cg 10) j x)) = hc (sg_u cg 10 j x) fn cx := rfl
theorem hc_a11 {cg : sg_T} {fn : Nat → Option Nat} {cx : cx_T} {j : Nat} {x : Int32} : am_put (hc cg fn cx) 11 (.inl (0, 864, upd (cg 11) j x)) = hc (sg_u cg 11 j x) fn cx := rfl
theorem hc_a12 {cg : sg_T} {fn : Nat → Option Nat} {cx : cx_T} {j : Nat} {x : Int32} : am_put (hc cg fn cx) 12 (.inl (0, 10, upd (cg 12) j x)) = hc (sg_u cg 12 j x) fn cx := rfl
theorem hc_a13 {cg : sg_T} {fn : Nat → Option Nat} {cx : cx_T} {j : Nat} {x : Int32} : am_put (hc cg fn cx) 13 (.inl (0, 10, upd (cg 13) j x)) = hc (sg_u cg 13 j x) fn cx := rfl
theorem hc_a14 {cg : sg_T} {fn : Nat → Option Nat} {cx : cx_T} {j : Nat} {x : Int32} : am_put (hc cg fn cx) 14 (.inl (0, 10, upd (cg 14) j x)) = hc (sg_u cg 14 j x) fn cx := rfl
theorem hc_a15 {cg : sg_T} {fn : Nat → Option Nat} {cx : cx_T} {j : Nat} {x : Int32} : am_put (hc cg fn cx) 15 (.inl (0, 6, upd (cg 15) j x)) = hc (sg_u cg 15 j x) fn cx := rfl
theorem hc_a16 {cg : sg_T} {fn : Nat → Option Nat} {cx : cx_T} {j : Nat} {x : Int32} : am_put (hc cg fn cx) 16 (.inl (1, 720, upd (cg 16) j x)) = hc (sg_u cg 16 j x) fn cx := rfl
theorem hc_a17 {cg : sg_T} {fn : Nat → Option Nat} {cx : cx_T} {j : Nat} {x : Int32} : am_put (hc cg fn cx) 17 (.inl (2, 750, upd (cg 17) j x)) = hc (sg_u cg 17 j x) fn cx := rfl
theorem hc_a79 {cg : sg_T} {fn : Nat → Option Nat} {cx : cx_T} {j : Nat} {x : Int32} : am_put (hc cg fn cx) 79 (.inl (0, 144, upd (cg 79) j x)) = hc (sg_u cg 79 j x) fn cx := rfl
theorem hc_a80 {cg : sg_T} {fn : Nat → Option Nat} {cx : cx_T} {j : Nat} {x : Int32} : am_put (hc cg fn cx) 80 (.inl (0, 144, upd (cg 80) j x)) = hc (sg_u cg 80 j x) fn cx := rfl
theorem hc_a81 {cg : sg_T} {fn : Nat → Option Nat} {cx : cx_T} {j : Nat} {x : Int32} : am_put (hc cg fn cx) 81 (.inl (2, 12, upd (cg 81) j x)) = hc (sg_u cg 81 j x) fn cx := rfl
theorem hc_a82 {cg : sg_T} {fn : Nat → Option Nat} {cx : cx_T} {j : Nat} {x : Int32} : am_put (hc cg fn cx) 82 (.inl (0, 12, upd (cg 82) j x)) = hc (sg_u cg 82 j x) fn cx := rfl
theorem hc_a83 {cg : sg_T} {fn : Nat → Option Nat} {cx : cx_T} {j : Nat} {x : Int32} : am_put (hc cg fn cx) 83 (.inl (0, 9, upd (cg 83) j x)) = hc (sg_u cg 83 j x) fn cx := rfl
theorem hc_a85 {cg : sg_T} {fn : Nat → Option Nat} {cx : cx_T} {j : Nat} {x : Int32} : am_put (hc cg fn cx) 85 (.inl (0, 750, upd (cg 85) j x)) = hc (sg_u cg 85 j x) fn cx := rfl
theorem hc_a86 {cg : sg_T} {fn : Nat → Option Nat} {cx : cx_T} {j : Nat} {x : Int32} : am_put (hc cg fn cx) 86 (.inl (0, 750, upd (cg 86) j x)) = hc (sg_u cg 86 j x) fn cx := rfl
theorem hc_a87 {cg : sg_T} {fn : Nat → Option Nat} {cx : cx_T} {j : Nat} {x : Int32} : am_put (hc cg fn cx) 87 (.inl (2, 750, upd (cg 87) j x)) = hc (sg_u cg 87 j x) fn cx := rfl
theorem hc_a89 {cg : sg_T} {fn : Nat → Option Nat} {cx : cx_T} {j : Nat} {x : Int32} : am_put (hc cg fn cx) 89 (.inl (0, 9, upd (cg 89) j x)) = hc (sg_u cg 89 j x) fn cx := rfl
theorem hc_a93 {cg : sg_T} {fn : Nat → Option Nat} {cx : cx_T} {j : Nat} {x : Int32} : am_put (hc cg fn cx) 93 (.inl (0, 16, upd (cg 93) j x)) = hc (sg_u cg 93 j x) fn cx := rfl
theorem hc_a94 {cg : sg_T} {fn : Nat → Option Nat} {cx : cx_T} {j : Nat} {x : Int32} : am_put (hc cg fn cx) 94 (.inl (0, 12, upd (cg 94) j x)) = hc (sg_u cg 94 j x) fn cx := rfl
theorem hc_f1_7 {cg : sg_T} {fn : Nat → Option Nat} {cx : cx_T} {x : Int32} : am_put (hc cg fn cx) 1 (.inr (.inr (0, am_put [.ref 2, .ref 3, .ref 4, .ref 5, .ref 6, .ref 7, .ref 8, .int (cg 1 7), .ref 9, .ref 10, .ref 11, .ref 12, .ref 13, .ref 14, .ref 15, .ref 16, .ref 17, .int (cg 1 17)] 7 (.int x)))) = hc (sg_u cg 1 7 x) fn cx := rfl
theorem hc_f1_17 {cg : sg_T} {fn : Nat → Option Nat} {cx : cx_T} {x : Int32} : am_put (hc cg fn cx) 1 (.inr (.inr (0, am_put [.ref 2, .ref 3, .ref 4, .ref 5, .ref 6, .ref 7, .ref 8, .int (cg 1 7), .ref 9, .ref 10, .ref 11, .ref 12, .ref 13, .ref 14, .ref 15, .ref 16, .ref 17, .int (cg 1 17)] 17 (.int x)))) = hc (sg_u cg 1 17 x) fn cx := rfl
theorem hc_f78_6 {cg : sg_T} {fn : Nat → Option Nat} {cx : cx_T} {x : Int32} : am_put (hc cg fn cx) 78 (.inr (.inr (2, am_put [.ref 1, .ref 79, .ref 80, .ref 81, .ref 82, .ref 83, .int (cg 78 6)] 6 (.int x)))) = hc (sg_u cg 78 6 x) fn cx := rfl
theorem hc_f84_3 {cg : sg_T} {fn : Nat → Option Nat} {cx : cx_T} {x : Int32} : am_put (hc cg fn cx) 84 (.inr (.inr (6, am_put [.ref 1, .ref 85, .ref 86, .int (cg 84 3), .ref 87, .int (cg 84 5), .ref 88, .ref 89] 3 (.int x)))) = hc (sg_u cg 84 3 x) fn cx := rfl
theorem hc_f84_5 {cg : sg_T} {fn : Nat → Option Nat} {cx : cx_T} {x : Int32} : am_put (hc cg fn cx) 84 (.inr (.inr (6, am_put [.ref 1, .ref 85, .ref 86, .int (cg 84 3), .ref 87, .int (cg 84 5), .ref 88, .ref 89] 5 (.int x)))) = hc (sg_u cg 84 5 x) fn cx := rfl
theorem hc_f90_2 {cg : sg_T} {fn : Nat → Option Nat} {cx : cx_T} {x : Int32} : am_put (hc cg fn cx) 90 (.inr (.inr (9, am_put [.ref 1, .ref 84, .int (cg 90 2), .int (cg 90 3), .int (cg 90 4), .int (cg 90 5)] 2 (.int x)))) = hc (sg_u cg 90 2 x) fn cx := rfl
theorem hc_f90_3 {cg : sg_T} {fn : Nat → Option Nat} {cx : cx_T} {x : Int32} : am_put (hc cg fn cx) 90 (.inr (.inr (9, am_put [.ref 1, .ref 84, .int (cg 90 2), .int (cg 90 3), .int (cg 90 4), .int (cg 90 5)] 3 (.int x)))) = hc (sg_u cg 90 3 x) fn cx := rfl
theorem hc_f90_4 {cg : sg_T} {fn : Nat → Option Nat} {cx : cx_T} {x : Int32} : am_put (hc cg fn cx) 90 (.inr (.inr (9, am_put [.ref 1, .ref 84, .int (cg 90 2), .int (cg 90 3), .int (cg 90 4), .int (cg 90 5)] 4 (.int x)))) = hc (sg_u cg 90 4 x) fn cx := rfl
theorem hc_f90_5 {cg : sg_T} {fn : Nat → Option Nat} {cx : cx_T} {x : Int32} : am_put (hc cg fn cx) 90 (.inr (.inr (9, am_put [.ref 1, .ref 84, .int (cg 90 2), .int (cg 90 3), .int (cg 90 4), .int (cg 90 5)] 5 (.int x)))) = hc (sg_u cg 90 5 x) fn cx := rfl
theorem hc_f91_1 {cg : sg_T} {fn : Nat → Option Nat} {cx : cx_T} {x : Int32} : am_put (hc cg fn cx) 91 (.inr (.inr (7, am_put [.ref 1, .int (cg 91 1), .int (cg 91 2), .ref cx.2.1, .int (cg 91 4)] 1 (.int x)))) = hc (sg_u cg 91 1 x) fn cx := rfl
theorem hc_f91_2 {cg : sg_T} {fn : Nat → Option Nat} {cx : cx_T} {x : Int32} : am_put (hc cg fn cx) 91 (.inr (.inr (7, am_put [.ref 1, .int (cg 91 1), .int (cg 91 2), .ref cx.2.1, .int (cg 91 4)] 2 (.int x)))) = hc (sg_u cg 91 2 x) fn cx := rfl
theorem hc_f91_4 {cg : sg_T} {fn : Nat → Option Nat} {cx : cx_T} {x : Int32} : am_put (hc cg fn cx) 91 (.inr (.inr (7, am_put [.ref 1, .int (cg 91 1), .int (cg 91 2), .ref cx.2.1, .int (cg 91 4)] 4 (.int x)))) = hc (sg_u cg 91 4 x) fn cx := rfl
theorem hc_f92_0 {cg : sg_T} {fn : Nat → Option Nat} {cx : cx_T} {x : Int32} : am_put (hc cg fn cx) 92 (.inr (.inr (10, am_put [.int (cg 92 0), .int (cg 92 1), .int (cg 92 2), .ref 93, .ref 94] 0 (.int x)))) = hc (sg_u cg 92 0 x) fn cx := rfl
theorem hc_f92_1 {cg : sg_T} {fn : Nat → Option Nat} {cx : cx_T} {x : Int32} : am_put (hc cg fn cx) 92 (.inr (.inr (10, am_put [.int (cg 92 0), .int (cg 92 1), .int (cg 92 2), .ref 93, .ref 94] 1 (.int x)))) = hc (sg_u cg 92 1 x) fn cx := rfl
theorem hc_f92_2 {cg : sg_T} {fn : Nat → Option Nat} {cx : cx_T} {x : Int32} : am_put (hc cg fn cx) 92 (.inr (.inr (10, am_put [.int (cg 92 0), .int (cg 92 1), .int (cg 92 2), .ref 93, .ref 94] 2 (.int x)))) = hc (sg_u cg 92 2 x) fn cx := rfl
theorem hc_nT {cg : sg_T} {fn : Nat → Option Nat} {cx : cx_T} : ∀ {t : Nat}, t < 20 → am_nth (hc cg fn cx) (18 + 3 * t) = some (.inr (.inr (10, [.int (cg (18 + 3 * t) 0), .int (cg (18 + 3 * t) 1), .int (cg (18 + 3 * t) 2), .ref (19 + 3 * t), .ref (20 + 3 * t)])))
  | 0, _ => rfl
  | 1, _ => rfl
  | 2, _ => rfl
  | 3, _ => rfl
  | 4, _ => rfl
  | 5, _ => rfl
  | 6, _ => rfl
  | 7, _ => rfl
  | 8, _ => rfl
  | 9, _ => rfl
  | 10, _ => rfl
  | 11, _ => rfl
  | 12, _ => rfl
  | 13, _ => rfl
  | 14, _ => rfl
  | 15, _ => rfl
  | 16, _ => rfl
  | 17, _ => rfl
  | 18, _ => rfl
  | 19, _ => rfl
  | t + 20, h => absurd h (by omega)
theorem hc_nP {cg : sg_T} {fn : Nat → Option Nat} {cx : cx_T} : ∀ {t : Nat}, t < 20 → am_nth (hc cg fn cx) (19 + 3 * t) = some (.inl (0, 16, cg (19 + 3 * t)))
  | 0, _ => rfl
  | 1, _ => rfl
  | 2, _ => rfl
  | 3, _ => rfl
  | 4, _ => rfl
  | 5, _ => rfl
  | 6, _ => rfl
  | 7, _ => rfl
  | 8, _ => rfl
  | 9, _ => rfl
  | 10, _ => rfl
  | 11, _ => rfl
  | 12, _ => rfl
  | 13, _ => rfl
  | 14, _ => rfl
  | 15, _ => rfl
  | 16, _ => rfl
  | 17, _ => rfl
  | 18, _ => rfl
  | 19, _ => rfl
  | t + 20, h => absurd h (by omega)
theorem hc_nC {cg : sg_T} {fn : Nat → Option Nat} {cx : cx_T} : ∀ {t : Nat}, t < 20 → am_nth (hc cg fn cx) (20 + 3 * t) = some (.inl (0, 12, cg (20 + 3 * t)))
  | 0, _ => rfl
  | 1, _ => rfl
  | 2, _ => rfl
  | 3, _ => rfl
  | 4, _ => rfl
  | 5, _ => rfl
  | 6, _ => rfl
  | 7, _ => rfl
  | 8, _ => rfl
  | 9, _ => rfl
  | 10, _ => rfl
  | 11, _ => rfl
  | 12, _ => rfl
  | 13, _ => rfl
  | 14, _ => rfl
  | 15, _ => rfl
  | 16, _ => rfl
  | 17, _ => rfl
  | 18, _ => rfl
  | 19, _ => rfl
  | t + 20, h => absurd h (by omega)
theorem hc_aP {cg : sg_T} {fn : Nat → Option Nat} {cx : cx_T} {j : Nat} {x : Int32} : ∀ {t : Nat}, t < 20 → am_put (hc cg fn cx) (19 + 3 * t) (.inl (0, 16, upd (cg (19 + 3 * t)) j x)) = hc (sg_u cg (19 + 3 * t) j x) fn cx
  | 0, _ => rfl
  | 1, _ => rfl
  | 2, _ => rfl
  | 3, _ => rfl
  | 4, _ => rfl
  | 5, _ => rfl
  | 6, _ => rfl
  | 7, _ => rfl
  | 8, _ => rfl
  | 9, _ => rfl
  | 10, _ => rfl
  | 11, _ => rfl
  | 12, _ => rfl
  | 13, _ => rfl
  | 14, _ => rfl
  | 15, _ => rfl
  | 16, _ => rfl
  | 17, _ => rfl
  | 18, _ => rfl
  | 19, _ => rfl
  | t + 20, h => absurd h (by omega)
theorem hc_aC {cg : sg_T} {fn : Nat → Option Nat} {cx : cx_T} {j : Nat} {x : Int32} : ∀ {t : Nat}, t < 20 → am_put (hc cg fn cx) (20 + 3 * t) (.inl (0, 12, upd (cg (20 + 3 * t)) j x)) = hc (sg_u cg (20 + 3 * t) j x) fn cx
  | 0, _ => rfl
  | 1, _ => rfl
  | 2, _ => rfl
  | 3, _ => rfl
  | 4, _ => rfl
  | 5, _ => rfl
  | 6, _ => rfl
  | 7, _ => rfl
  | 8, _ => rfl
  | 9, _ => rfl
  | 10, _ => rfl
  | 11, _ => rfl
  | 12, _ => rfl
  | 13, _ => rfl
  | 14, _ => rfl
  | 15, _ => rfl
  | 16, _ => rfl
  | 17, _ => rfl
  | 18, _ => rfl
  | 19, _ => rfl
  | t + 20, h => absurd h (by omega)
theorem hc_fT0 {cg : sg_T} {fn : Nat → Option Nat} {cx : cx_T} {x : Int32} : ∀ {t : Nat}, t < 20 → am_put (hc cg fn cx) (18 + 3 * t) (.inr (.inr (10, am_put [.int (cg (18 + 3 * t) 0), .int (cg (18 + 3 * t) 1), .int (cg (18 + 3 * t) 2), .ref (19 + 3 * t), .ref (20 + 3 * t)] 0 (.int x)))) = hc (sg_u cg (18 + 3 * t) 0 x) fn cx
  | 0, _ => rfl
  | 1, _ => rfl
  | 2, _ => rfl
  | 3, _ => rfl
  | 4, _ => rfl
  | 5, _ => rfl
  | 6, _ => rfl
  | 7, _ => rfl
  | 8, _ => rfl
  | 9, _ => rfl
  | 10, _ => rfl
  | 11, _ => rfl
  | 12, _ => rfl
  | 13, _ => rfl
  | 14, _ => rfl
  | 15, _ => rfl
  | 16, _ => rfl
  | 17, _ => rfl
  | 18, _ => rfl
  | 19, _ => rfl
  | t + 20, h => absurd h (by omega)
theorem hc_fT1 {cg : sg_T} {fn : Nat → Option Nat} {cx : cx_T} {x : Int32} : ∀ {t : Nat}, t < 20 → am_put (hc cg fn cx) (18 + 3 * t) (.inr (.inr (10, am_put [.int (cg (18 + 3 * t) 0), .int (cg (18 + 3 * t) 1), .int (cg (18 + 3 * t) 2), .ref (19 + 3 * t), .ref (20 + 3 * t)] 1 (.int x)))) = hc (sg_u cg (18 + 3 * t) 1 x) fn cx
  | 0, _ => rfl
  | 1, _ => rfl
  | 2, _ => rfl
  | 3, _ => rfl
  | 4, _ => rfl
  | 5, _ => rfl
  | 6, _ => rfl
  | 7, _ => rfl
  | 8, _ => rfl
  | 9, _ => rfl
  | 10, _ => rfl
  | 11, _ => rfl
  | 12, _ => rfl
  | 13, _ => rfl
  | 14, _ => rfl
  | 15, _ => rfl
  | 16, _ => rfl
  | 17, _ => rfl
  | 18, _ => rfl
  | 19, _ => rfl
  | t + 20, h => absurd h (by omega)
theorem hc_fT2 {cg : sg_T} {fn : Nat → Option Nat} {cx : cx_T} {x : Int32} : ∀ {t : Nat}, t < 20 → am_put (hc cg fn cx) (18 + 3 * t) (.inr (.inr (10, am_put [.int (cg (18 + 3 * t) 0), .int (cg (18 + 3 * t) 1), .int (cg (18 + 3 * t) 2), .ref (19 + 3 * t), .ref (20 + 3 * t)] 2 (.int x)))) = hc (sg_u cg (18 + 3 * t) 2 x) fn cx
  | 0, _ => rfl
  | 1, _ => rfl
  | 2, _ => rfl
  | 3, _ => rfl
  | 4, _ => rfl
  | 5, _ => rfl
  | 6, _ => rfl
  | 7, _ => rfl
  | 8, _ => rfl
  | 9, _ => rfl
  | 10, _ => rfl
  | 11, _ => rfl
  | 12, _ => rfl
  | 13, _ => rfl
  | 14, _ => rfl
  | 15, _ => rfl
  | 16, _ => rfl
  | 17, _ => rfl
  | 18, _ => rfl
  | 19, _ => rfl
  | t + 20, h => absurd h (by omega)
