/-! THE PAIR: class and reference, call by call -/
def kpX (cx : cx_T) (sg : sg_T) : Prop := cx.1 < 101 ∧ cx.2.1 < 101 ∧ tlZ (sg 2) ∧ ((cx.2.2 = (.null, []) ∧ sg 0 2 = 0) ∨ (¬ sg 0 2 = 0 ∧ ∃ kg, cx.2.2 = (.ref 101, hk kg) ∧ BR 1 kg (sg 2) ∧ okE (sg 2)))
def REL (cg : sg_T) (cx : cx_T) (sg : sg_T) : Prop := clR cg (sg 1) ∧ okE (sg 1) ∧ kpX cx sg
def pOut (sg : sg_T) (Qc Qm : Option Value → am_H → Prop) : Prop := ∀ r h r' h', Qc r h → Qm r' h' → ∃ v cg' fn' cx' sg', r = some (.int v) ∧ r' = some (.int v) ∧ h = hc cg' fn' cx' ∧ h' = hm sg' ∧ REL cg' cx' sg' ∧ sg' 0 2 = sg 0 2
def PAIR (mc mm : am_MI) (kc ks : Nat) (As : List Value) : Prop := ∀ (cg : sg_T) (fn : Nat → Option Nat) (cx : cx_T) (sg : sg_T) (d : Nat), 460 ≤ d → REL cg cx sg → ∃ Qc Qm, am_Met mc d kc ks (.ref 0 :: As) (hc cg fn cx) Qc ∧ am_Met mm d 0 0 (.ref 0 :: As) (hm sg) Qm ∧ pOut sg Qc Qm
theorem kpX_m {cx : cx_T} {sg sg' : sg_T} (h : kpX cx sg) (e2 : sg' 2 = sg 2) (e0 : sg' 0 2 = sg 0 2) : kpX cx sg' := by unfold kpX; rw [e2, e0]; exact h
theorem pS {cg : sg_T} {cx : cx_T} {sg : sg_T} {v : Int32} (hR : REL cg cx sg) : pOut sg (cS cx v (sg 1)) (mOut sg v (sg 1)) := by
  rintro r h r' h' ⟨cg', fn', cx', rfl, rfl, rfl, hC⟩ ⟨sg', rfl, rfl, e1, e2, e0⟩
  exact ⟨v, cg', fn', cx', sg', rfl, rfl, rfl, rfl, ⟨by rw [e1]; exact hC, by rw [e1]; exact hR.2.1, kpX_m hR.2.2 e2 e0⟩, e0⟩
theorem pX {cg : sg_T} {cx : cx_T} {sg : sg_T} {SP : Int32 → (Nat → Int32) → Prop} (hR : REL cg cx sg) (hK : ∀ v P', SP v P' → okE P') : pOut sg (cX cx SP) (fun r h' => ∃ v P', SP v P' ∧ mOut sg v P' r h') := by
  rintro r h r' h' ⟨rv, cg', fn', cx', rfl, rfl, rfl, hC⟩ ⟨v, P', hs, sg', rfl, rfl, e1, e2, e0⟩
  obtain ⟨ev, hc'⟩ := hC v P' hs
  exact ⟨rv, cg', fn', cx', sg', rfl, by rw [ev], rfl, rfl, ⟨by rw [e1]; exact hc', by rw [e1]; exact hK v P' hs, kpX_m hR.2.2 e2 e0⟩, e0⟩
theorem pY {cg : sg_T} {cx : cx_T} {sg : sg_T} {SP : Int32 → (Nat → Int32) → Prop} (hR : REL cg cx sg) (hK : ∀ v P', SP v P' → okE P') : pOut sg (cY cx SP) (fun r h' => ∃ v P', SP v P' ∧ mOut sg v P' r h') := by
  rintro r h r' h' ⟨rv, cg', fn', cx', rfl, rfl, hx, hC⟩ ⟨v, P', hs, sg', rfl, rfl, e1, e2, e0⟩
  obtain ⟨ev, hc'⟩ := hC v P' hs
  refine ⟨rv, cg', fn', cx', sg', rfl, by rw [ev], rfl, rfl, ⟨by rw [e1]; exact hc', by rw [e1]; exact hK v P' hs, ?_⟩, e0⟩
  rcases hx with z | ⟨t, t20, z⟩
  · rw [z]; exact kpX_m hR.2.2 e2 e0
  · rw [z]
    obtain ⟨-, -, k3, k4⟩ := kpX_m hR.2.2 e2 e0
    exact ⟨by show 3 < 101; decide, by show 18 + 3 * t < 101; omega, k3, k4⟩
theorem pE {cg : sg_T} {cx : cx_T} {sg : sg_T} {sp : Int32 → Prop} (hR : REL cg cx sg) : pOut sg (cX cx (fun v P' => sp v ∧ P' = sg 1)) (fun r h' => ∃ v, sp v ∧ mOut sg v (sg 1) r h') := fun r h r' h' hc hm => by
  obtain ⟨v, hs, hm⟩ := hm
  exact pX hR (fun v P' h => by rw [h.2]; exact hR.2.1) r h r' h' hc ⟨v, _, ⟨hs, rfl⟩, hm⟩
theorem pF {cg : sg_T} {cx : cx_T} {sg : sg_T} {v0 : Int32} {P0 : Nat → Int32} (hR : REL cg cx sg) (hK : okE P0) : pOut sg (cX cx (fun v P' => v = v0 ∧ P' = P0)) (mOut sg v0 P0) := fun r h r' h' hc hm => pX hR (fun v P' h => by rw [h.2]; exact hK) r h r' h' hc ⟨v0, P0, ⟨rfl, rfl⟩, hm⟩
theorem mO_P {sg : sg_T} {P : Nat → Int32} {v : Int32} : mOut sg v P (some (.int v)) (hm (sgP sg P)) := ⟨_, rfl, rfl, if_pos rfl, if_neg (by decide), by unfold sgP; rw [if_neg (by decide)]⟩
theorem mO_s {sg : sg_T} {v : Int32} : mOut sg v (sg 1) (some (.int v)) (hm sg) := ⟨_, rfl, rfl, rfl, rfl, rfl⟩
theorem p_told (r dy w : Int32) : PAIR mi_X11_told mi_X12_told 0 0 [.int r, .int dy, .int w] := by
  intro cg fn cx sg d hd hR
  obtain ⟨R, C, n, Q, T, U, hO⟩ := hR.2.1
  have hC := hR.1
  exact ⟨_, _, c_told hd hC hO r dy w, m_told hd hO.W r dy w, pS hR⟩
theorem p_of (k w : Int32) : PAIR mi_X11_of mi_X12_of 0 0 [.int k, .int w] := by
  intro cg fn cx sg d hd hR
  obtain ⟨R, C, n, Q, T, U, hO⟩ := hR.2.1
  have hC := hR.1
  exact ⟨_, _, c_of hd hC hO k w, m_of hd hO.n3.1 hO.n3.2 k w, pS hR⟩
theorem p_lacks (q s dy : Int32) : PAIR mi_X11_lacks mi_X12_lacks 0 0 [.int q, .int s, .int dy] := by
  intro cg fn cx sg d hd hR
  obtain ⟨R, C, n, Q, T, U, hO⟩ := hR.2.1
  have hC := hR.1
  exact ⟨_, _, c_lacks hd hC hO q s dy, m_lacks hd hO.W hO.A q s dy, pS hR⟩
theorem p_check (q dy : Int32) : PAIR mi_X11_check mi_X12_check 0 0 [.int q, .int dy] := by
  intro cg fn cx sg d hd hR
  obtain ⟨R, C, n, Q, T, U, hO⟩ := hR.2.1
  have hC := hR.1
  exact ⟨_, _, c_check hd hC hO q dy, m_check hd hO.W hO.A q dy, pS hR⟩
theorem p_says (q s dy : Int32) : PAIR mi_X11_says mi_X12_says 0 0 [.int q, .int s, .int dy] := by
  intro cg fn cx sg d hd hR
  obtain ⟨R, C, n, Q, T, U, hO⟩ := hR.2.1
  have hC := hR.1
  exact ⟨_, _, c_says hd hC hO q s dy, m_says hd hO.W hO.A q s dy, pS hR⟩
theorem p_count (w : Int32) : PAIR mi_X11_count mi_X12_count 0 0 [.int w] := by
  intro cg fn cx sg d hd hR
  obtain ⟨R, C, n, Q, T, U, hO⟩ := hR.2.1
  have hC := hR.1
  exact ⟨_, _, c_count hd hC hO w, m_count hd  w, pS hR⟩
theorem p_found (f : Int32) : PAIR mi_X11_found mi_X12_found 0 0 [.int f] := by
  intro cg fn cx sg d hd hR
  obtain ⟨R, C, n, Q, T, U, hO⟩ := hR.2.1
  have hC := hR.1
  exact ⟨_, _, c_found hd hC hO f, m_found hd  f, pS hR⟩
theorem p_as (q k : Int32) : PAIR mi_X11_as mi_X12_as 0 0 [.int q, .int k] := by
  intro cg fn cx sg d hd hR
  obtain ⟨R, C, n, Q, T, U, hO⟩ := hR.2.1
  have hC := hR.1
  exact ⟨_, _, c_as hd hC hO q k, m_as hd hO.A q k, pS hR⟩
theorem p_clash (a b : Int32) : PAIR mi_X11_clash mi_X12_clash 0 0 [.int a, .int b] := by
  intro cg fn cx sg d hd hR
  obtain ⟨R, C, n, Q, T, U, hO⟩ := hR.2.1
  have hC := hR.1
  exact ⟨_, _, c_clash hd hC hO a b, m_clash hd hO.W hO.A hO.tt a b, pS hR⟩
theorem p_carry (t dy : Int32) : PAIR mi_X11_carry mi_X12_carry 0 0 [.int t, .int dy] := by
  intro cg fn cx sg d hd hR
  obtain ⟨R, C, n, Q, T, U, hO⟩ := hR.2.1
  have hC := hR.1
  exact ⟨_, _, c_carry hd hC hO t dy, m_carry hd hO.W hO.A hO.tt t dy, pS hR⟩
theorem p_act (q w x : Int32) : PAIR mi_X11_act mi_X12_act 0 0 [.int q, .int w, .int x] := by
  intro cg fn cx sg d hd hR
  obtain ⟨R, C, n, Q, T, U, hO⟩ := hR.2.1
  have hC := hR.1
  exact ⟨_, _, c_act hd hC hO q w x, m_act hd hO.A q w x, pS hR⟩
theorem p_hole (q i : Int32) : PAIR mi_X11_hole mi_X12_hole 0 0 [.int q, .int i] := by
  intro cg fn cx sg d hd hR
  obtain ⟨R, C, n, Q, T, U, hO⟩ := hR.2.1
  have hC := hR.1
  exact ⟨_, _, c_hole hd hC hO q i, m_hole hd hO.W hO.A q i, pE hR⟩
theorem p_follows (f dy w : Int32) : PAIR mi_X11_follows mi_X12_follows 0 0 [.int f, .int dy, .int w] := by
  intro cg fn cx sg d hd hR
  obtain ⟨R, C, n, Q, T, U, hO⟩ := hR.2.1
  have hC := hR.1
  exact ⟨_, _, c_follows hd hC hO f dy w, m_follows hd hO.W f dy w, pE hR⟩
theorem p_many (dy : Int32) : PAIR mi_X11_many mi_X12_many 0 0 [.int dy] := by
  intro cg fn cx sg d hd hR
  obtain ⟨R, C, n, Q, T, U, hO⟩ := hR.2.1
  have hC := hR.1
  exact ⟨_, _, c_many hd hC hO dy, m_many hd hO.W dy, pE hR⟩
theorem p_stand (t dy : Int32) : PAIR mi_X11_stand mi_X12_stand 0 0 [.int t, .int dy] := by
  intro cg fn cx sg d hd hR
  obtain ⟨R, C, n, Q, T, U, hO⟩ := hR.2.1
  have hC := hR.1
  exact ⟨_, _, c_stand hd hC hO t dy, m_stand hd hO.W hO.A hO.tt t dy, pE hR⟩
theorem p_fall (k : Int32) : PAIR mi_X11_fall mi_X12_fall 0 0 [.int k] := by
  intro cg fn cx sg d hd hR
  obtain ⟨R, C, n, Q, T, U, hO⟩ := hR.2.1
  have hC := hR.1
  exact ⟨_, _, c_fall hd hC hO k, m_fall hd hO.W hO.A hO.tt hO.f k, pE hR⟩
theorem p_every (f : Int32) : PAIR mi_X11_every mi_X12_every 0 0 [.int f] := by
  intro cg fn cx sg d hd hR
  obtain ⟨R, C, n, Q, T, U, hO⟩ := hR.2.1
  have hC := hR.1
  exact ⟨_, _, c_every hd hC hO f, m_every hd hO.W f, pE hR⟩
theorem p_enough (f x : Int32) : PAIR mi_X11_enough mi_X12_enough 0 0 [.int f, .int x] := by
  intro cg fn cx sg d hd hR
  obtain ⟨R, C, n, Q, T, U, hO⟩ := hR.2.1
  have hC := hR.1
  exact ⟨_, _, c_enough hd hC hO f x, m_enough hd hO.W hO.f f x, pE hR⟩
theorem p_could (pr f : Int32) : PAIR mi_X11_could mi_X12_could 0 0 [.int pr, .int f] := by
  intro cg fn cx sg d hd hR
  obtain ⟨R, C, n, Q, T, U, hO⟩ := hR.2.1
  have hC := hR.1
  exact ⟨_, _, c_could hd hC hO pr f, m_could hd hO.W pr f, pE hR⟩
theorem p_title (q : Int32) : PAIR mi_X11_title mi_X12_title 0 0 [.int q] := by
  intro cg fn cx sg d hd hR
  obtain ⟨R, C, n, Q, T, U, hO⟩ := hR.2.1
  have hC := hR.1
  exact ⟨_, _, c_title hd hC hO q, m_title hd hO.W hO.A hO.tt q, pF hR (k_title hO rfl)⟩
theorem p_fill (q fr : Int32) : PAIR mi_X11_fill mi_X12_fill 0 0 [.int q, .int fr] := by
  intro cg fn cx sg d hd hR
  obtain ⟨R, C, n, Q, T, U, hO⟩ := hR.2.1
  have hC := hR.1
  exact ⟨_, _, c_fill hd hC hO q fr, m_fill hd hO.W hO.A q fr, pX hR (fun v P' h => k_fill hO h)⟩
theorem p_rule : PAIR mi_X11_rule mi_X12_rule 0 0 [] := by
  intro cg fn cx sg d hd hR
  obtain ⟨R, C, n, Q, T, U, hO⟩ := hR.2.1
  have hC := hR.1
  exact ⟨_, _, c_rule hd hC hO , m_rule hd hO.W hO.h7 hO.t , pY hR (fun v P' h => k_rule hO h)⟩
theorem p_change (r dy : Int32) : PAIR mi_X11_change mi_X12_change 0 0 [.int r, .int dy] := by
  intro cg fn cx sg d hd hR
  obtain ⟨R, C, n, Q, T, U, hO⟩ := hR.2.1
  have hC := hR.1
  exact ⟨_, _, c_change hd hC hO r dy, m_change hd hO.W hO.h7 hO.t r dy, pY hR (fun v P' h => k_change hO h)⟩
theorem p_tactic : PAIR mi_X11_tactic mi_X12_tactic 0 0 [] := by
  intro cg fn cx sg d hd hR
  obtain ⟨R, C, n, Q, T, U, hO⟩ := hR.2.1
  have hC := hR.1
  exact ⟨_, _, c_tactic hd hC hO , m_tactic hd  hO.u.1 hO.u.2.1 hO.t , pX hR (fun v P' h => k_tactic hO h)⟩
theorem p_run (t m w : Int32) : PAIR mi_X11_run mi_X12_run 0 0 [.int t, .int m, .int w] := by
  intro cg fn cx sg d hd hR
  obtain ⟨R, C, n, Q, T, U, hO⟩ := hR.2.1
  have hC := hR.1
  exact ⟨_, _, c_run hd hC hO t m w, m_run hd hO.W hO.f hO.u.1 hO.u.2.1 hO.u.2.2 t m w, pX hR (fun v P' h => k_run hO h)⟩
theorem p_shown (k : Int32) (b : Bool) : PAIR mi_X11_shown mi_X12_shown 0 0 [.int k, .int (bI b)] := by
  intro cg fn cx sg d hd hR
  obtain ⟨R, C, n, Q, T, U, hO⟩ := hR.2.1
  have hC := hR.1
  exact ⟨_, _, c_shown hd hC hO k b, m_shown hd hO.n3.1 hO.n3.2 k (bI b), pF hR (k_shown hO rfl)⟩
theorem p_step (q r a t x y z : Int32) : PAIR mi_X11_step mi_X12_step 0 0 [.int q, .int r, .int a, .int t, .int x, .int y, .int z] := by
  intro cg fn cx sg d hd hR
  obtain ⟨R, C, n, Q, T, U, hO⟩ := hR.2.1
  have hC := hR.1
  refine ⟨_, _, c_step hd hC hO q r a t x y z, m_step hd hO.W hO.A hO.tt q r a t x y z, fun r1 h1 r2 h2 q1 q2 => ?_⟩
  obtain ⟨b, hb, hm⟩ := q2
  exact pX hR (fun v P' h => k_step hO h) r1 h1 r2 h2 q1 ⟨_, _, ⟨b, hb, rfl, rfl⟩, hm⟩
theorem p_leans (v : Int32) : PAIR mi_X11_leans mi_X12_leans 0 0 [.int v] := by
  intro cg fn cx sg d hd hR
  obtain ⟨R, C, n, Q, T, U, hO⟩ := hR.2.1
  have hC := hR.1
  refine ⟨_, _, c_leans hd hC hO v, m_leans hO.W hO.A v (by omega), fun r1 h1 r2 h2 q1 q2 => pS hR r1 h1 r2 h2 q1 ?_⟩
  have Q12 := hO.q4.2
  obtain ⟨hq, rfl⟩ := q2
  rcases hq with ⟨q, ev, qQ, rfl⟩ | ⟨nq, rfl⟩
  · have hi : inI v 0 (sg 1 4 - 1) := by
      rw [hO.q4.1, ev]
      exact in_of qQ (by omega)
    obtain ⟨j, ej, cj, -⟩ := ix_at hO.q4.1 (by omega) hi
    have e2 := (nI_eq (by obtain ⟨j', ej', cj', l'⟩ := ix_at hO.q4.1 (by omega) hi; omega) (by omega)).mp (ej.symm.trans ev)
    rw [if_pos hi, cj, e2]; exact mO_s
  · rw [if_neg (fun z => nq (by rw [hO.q4.1] at z; exact z))]; exact mO_s
theorem p_day (w : Int32) : PAIR mi_X11_day mi_X12_day 0 0 [.int w] := by
  intro cg fn cx sg d hd hR
  obtain ⟨R, C, n, Q, T, U, hO⟩ := hR.2.1
  have hC := hR.1
  refine ⟨_, _, c_day hd hC hO w, m_day (by omega) w, fun r1 h1 r2 h2 q1 q2 => pX hR (fun v P' h => k_day hO h) r1 h1 r2 h2 q1 ?_⟩
  rcases q2 with ⟨a1, a2, rfl, rfl⟩ | ⟨a1, rfl, rfl⟩
  · exact ⟨_, _, Or.inl ⟨a1, a2, rfl, rfl⟩, mO_P⟩
  · exact ⟨_, _, Or.inr ⟨a1, rfl, rfl⟩, mO_s⟩
theorem p_feed (w : Int64) (c : Int32) : PAIR mi_X11_feed mi_X12_feed 0 0 [.long w, .int c] := by
  intro cg fn cx sg d hd hR
  obtain ⟨R, C, n, Q, T, U, hO⟩ := hR.2.1
  have hC := hR.1
  obtain ⟨t, t1, et⟩ := hO.t
  refine ⟨_, _, c_feed hd hC hO w c, m_feed (by omega) w c et t1, fun r1 h1 r2 h2 q1 q2 => pX hR (fun v P' h => k_feed hO h) r1 h1 r2 h2 q1 ?_⟩
  rcases q2 with ⟨a1, rfl, rfl⟩ | ⟨m, m1, m8, em, ⟨a1, rfl, rfl⟩ | ⟨a1, rfl, rfl⟩⟩
  · exact ⟨_, _, Or.inl ⟨a1, rfl, rfl⟩, mO_s⟩
  · exact ⟨_, _, Or.inr ⟨m, t, m1, m8, em, et, t1, Or.inl ⟨a1, rfl, rfl⟩⟩, mO_s⟩
  · exact ⟨_, _, Or.inr ⟨m, t, m1, m8, em, et, t1, Or.inr ⟨a1, rfl, rfl⟩⟩, mO_P⟩
theorem p_paper (f pr : Int32) : PAIR mi_X11_paper mi_X12_paper 0 0 [.int f, .int pr] := by
  intro cg fn cx sg d hd hR
  obtain ⟨R, C, n, Q, T, U, hO⟩ := hR.2.1
  have hC := hR.1
  have pN : pn (sg 1) 3 = n := pn_of hO.n3.1 (by have := hO.n3.2; omega)
  refine ⟨_, _, c_paper hd hC hO f pr, m_paper (by omega) f pr hO.n3.1 hO.n3.2, fun r1 h1 r2 h2 q1 q2 => pX hR (fun v P' h => k_paper hO h) r1 h1 r2 h2 q1 ?_⟩
  have n20 := hO.n3.2
  rcases q2 with ⟨a1, rfl, rfl⟩ | ⟨a1, a2, rfl, rfl⟩ | ⟨a1, a2, a3, rfl, rfl⟩ | ⟨a1, a2, a3, rfl, rfl⟩
  · exact ⟨_, _, Or.inl ⟨a1, rfl, rfl⟩, mO_s⟩
  · exact ⟨_, _, Or.inr (Or.inl ⟨a1, a2, rfl, rfl⟩), mO_s⟩
  · exact ⟨_, _, Or.inr (Or.inr (Or.inl ⟨a1, a2, by rw [hO.n3.1, a3]; rfl, rfl, rfl⟩)), mO_s⟩
  · exact ⟨_, _, Or.inr (Or.inr (Or.inr ⟨a1, a2, fun z => by have := (nI_eq (b := 20) (by omega) (by omega)).mp (hO.n3.1.symm.trans z); omega, hO.n3.1.symm, by rw [pN]⟩)), mO_P⟩
theorem p_proof (k : Int32) : PAIR mi_X11_proof mi_X12_proof 0 0 [.int k] := by
  intro cg fn cx sg d hd hR
  obtain ⟨R, C, n, Q, T, U, hO⟩ := hR.2.1
  have hC := hR.1
  have pQ : pn (sg 1) 4 = Q := pn_of hO.q4.1 (by have := hO.q4.2; omega)
  refine ⟨_, _, c_proof hd hC hO k, m_proof (by omega) k hO.q4.1 hO.q4.2, fun r1 h1 r2 h2 q1 q2 => pX hR (fun v P' h => k_proof hO h) r1 h1 r2 h2 q1 ?_⟩
  have Q12 := hO.q4.2
  rcases q2 with ⟨a1, rfl, rfl⟩ | ⟨a1, a2, rfl, rfl⟩ | ⟨a1, a2, rfl, rfl⟩
  · exact ⟨_, _, Or.inl ⟨a1, rfl, rfl⟩, mO_s⟩
  · exact ⟨_, _, Or.inr (Or.inl ⟨a1, by rw [hO.q4.1, a2]; rfl, rfl, rfl⟩), mO_s⟩
  · exact ⟨_, _, Or.inr (Or.inr ⟨a1, fun z => by have := (nI_eq (b := 12) (by omega) (by omega)).mp (hO.q4.1.symm.trans z); omega, hO.q4.1.symm, by rw [pQ]⟩), mO_P⟩
theorem p_undo : PAIR mi_X11_undo mi_X12_undo 0 0 [] := by
  rintro cg fn ⟨x, y, kx⟩ sg d hd hR
  obtain ⟨R, C, n, Q, T, U, hO⟩ := hR.2.1
  obtain ⟨k1, k2, k3, k4⟩ := id hR.2.2
  rcases k4 with ⟨e, e0⟩ | ⟨e0, kg, e, hB, R2, C2, n2, Q2, T2, U2, hO2⟩
  · have e' : kx = (.null, []) := e
    subst e'
    refine ⟨_, _, c_undo_0, m_undo_0 e0, fun r1 h1 r2 h2 q1 q2 => ?_⟩
    obtain ⟨rfl, rfl⟩ := q1
    obtain ⟨sg', rfl, rfl, e1, e2, e3⟩ := q2
    exact ⟨_, cg, fn, (x, y, .null, []), sg', rfl, rfl, rfl, rfl, ⟨by rw [e1]; exact hR.1, by rw [e1]; exact hR.2.1, kpX_m hR.2.2 e2 e3⟩, e3⟩
  · have e' : kx = (.ref 101, hk kg) := e
    subst e'
    refine ⟨_, _, c_undo_1 (by omega) hR.1 hB hO2, m_undo_1 e0 hO.z k3, fun r1 h1 r2 h2 q1 q2 => ?_⟩
    obtain ⟨rfl, cg', rfl, hC'⟩ := q1
    obtain ⟨sg', rfl, rfl, e1, e2, e3⟩ := q2
    exact ⟨_, cg', fn, (x, y, .ref 101, hk kg), sg', rfl, rfl, rfl, rfl, ⟨by rw [e1]; exact hC', by rw [e1]; exact ⟨_, _, _, _, _, _, hO2⟩, kpX_m hR.2.2 e2 e3⟩, e3⟩
