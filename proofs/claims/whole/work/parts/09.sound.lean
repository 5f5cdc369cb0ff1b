/-! WHAT AN INSTRUCTION's ROW MUST SAY, and then: steps of the abstract machine are steps of the machine -/
def am_VU (tab : Nat → am_MI) (own : String) (ix a b : Nat) (q : vw_C) : Prop := ∃ (xn : MethodName) (owner : String), am_ML (tab a) b ∧ (parseMethodDescriptor xn.desc).map (fun d => d.parameters.length) = some b ∧ (owner ≠ "java/lang/invoke/MethodHandle" ∧ owner ≠ "java/lang/invoke/VarHandle") ∧ Cond.methodLink own ix xn ∈ am_gt ∧ Cond.sameMethod xn.cls owner xn.name xn.desc ∈ am_gt ∧ (Cond.declares ⟨owner, xn.name, xn.desc⟩ ∈ am_gt ∨ ∃ (bs : ByteArray) (n : Nat) (rt : Option FieldType), Cond.instanceMethod ⟨owner, xn.name, xn.desc⟩ ∈ am_gt ∧ Cond.code ⟨owner, xn.name, xn.desc⟩ bs n rt ∈ am_gt) ∧ Cond.instanceMethod (am_y (tab a)) ∈ am_gt ∧ Cond.selects q.1 xn (am_y (tab a)) ∈ am_gt
def am_SU (tab : Nat → am_MI) (own : String) (ix a b : Nat) : Prop := ∃ xn : MethodName, am_ML (tab a) b ∧ xn.name ≠ "<init>" ∧ (am_y (tab a)).name = xn.name ∧ (am_y (tab a)).desc = xn.desc ∧ Cond.methodLink own ix xn ∈ am_gt ∧ Cond.sameMethod xn.cls (am_y (tab a)).cls xn.name xn.desc ∈ am_gt ∧ Cond.superclass own xn.cls ∈ am_gt ∧ (xn.cls = (am_y (tab a)).cls ∨ Cond.superclass xn.cls (am_y (tab a)).cls ∈ am_gt) ∧ Cond.instanceMethod (am_y (tab a)) ∈ am_gt
def am_okI (tab : Nat → am_MI) (mi : am_MI) (pc len a b c : Nat) (k : Int32) (i : Instr) : Prop :=
  match i with
  | .iconst n => len = 1 ∧ Int32.ofInt n = k
  | .bipush n => len = 2 ∧ (Int8.ofInt n).toInt32 = k
  | .sipush n => len = 3 ∧ (Int16.ofInt n).toInt32 = k
  | .ldc ix => len = 2 ∧ match c with
    | 0 => Cond.constant (am_y mi).cls ix k ∈ am_gt
    | _ => (am_y mi).cls = "DeedProofs$RuleReader" ∧ (a = 0 ∧ ix = 72 ∨ a = 1 ∧ ix = 78 ∨ a = 2 ∧ ix = 90)
  | .ldc_w ix => len = 3 ∧ Cond.constant (am_y mi).cls ix k ∈ am_gt
  | .ldc2_w ix => len = 3 ∧ Cond.constantLong (am_y mi).cls ix k.toInt64 ∈ am_gt
  | .iload j => len = 2 ∧ j = a
  | .iload_n j => len = 1 ∧ (j : Nat) = a
  | .lload_n j => len = 1 ∧ (j : Nat) = a
  | .aload j => len = 2 ∧ j = a
  | .aload_n j => len = 1 ∧ (j : Nat) = a
  | .istore j => len = 2 ∧ j = a ∧ a < am_mL mi
  | .istore_n j => len = 1 ∧ (j : Nat) = a ∧ a < am_mL mi
  | .astore j => len = 2 ∧ j = a ∧ a < am_mL mi
  | .astore_n j => len = 1 ∧ (j : Nat) = a ∧ a < am_mL mi
  | .iinc j n => len = 3 ∧ j = a ∧ Int32.ofInt n = k ∧ a < am_mL mi
  | .goto off => len = 3 ∧ (pc : Int) + off = (a : Int)
  | .ifCond _ off => len = 3 ∧ (pc : Int) + off = (a : Int)
  | .if_icmp _ off => len = 3 ∧ (pc : Int) + off = (a : Int)
  | .ifnonnull off => len = 3 ∧ (pc : Int) + off = (a : Int)
  | .lookupswitch _ ps => (ps.toList.zip (ps.toList.drop 1)).all (fun (a, next) => a.1 < next.1) = true
  | .tableswitch .. => True
  | .getstatic ix => len = 3 ∧ (am_y mi).cls = "DeedProofs" ∧ Cond.fieldLink "DeedProofs" ix "DeedProofs" "ABOVE" "[I" ∈ am_gt
  | .getfield ix => len = 3 ∧ am_FL (am_y mi).cls ix a b
  | .putfield ix => len = 3 ∧ am_FP (am_y mi).cls (am_y mi).name ix a b
  | .arraylength => len = 1 ∧ match c with
    | 0 => a < 3
    | _ => a = 3 ∨ a = 4
  | .baload => len = 1 ∧ (a = 1 ∨ a = 2)
  | .bastore => len = 1 ∧ (a = 1 ∨ a = 2)
  | .aaload => len = 1 ∧ (a = 3 ∨ a = 4)
  | .new ix => len = 3 ∧ ∃ q : vw_C, am_cls[a]? = some q ∧ Cond.classLink (am_y mi).cls ix q.1 ∈ am_gt ∧ Cond.instantiable q.1 q.2.2 ∈ am_gt ∧ Cond.initialized q.1 ∈ am_gt
  | .newarray t => len = 2 ∧ (a = 0 ∧ t = .int ∨ a = 1 ∧ t = .byte ∨ a = 2 ∧ t = .boolean)
  | .anewarray ix => len = 3 ∧ (a = 3 ∧ Cond.classLink (am_y mi).cls ix "DeedProofs$Text" ∈ am_gt ∨ a = 4 ∧ Cond.classLink (am_y mi).cls ix "DeedProofs$Line" ∈ am_gt)
  | .areturn => len = 1 ∧ ∃ rt : FieldType, am_ret mi = some rt ∧ ((∃ n, rt = .object n) ∨ ∃ t, rt = .array t)
  | .return_ => len = 1 ∧ am_ret mi = none
  | .invokevirtual ix => len = 3 ∧ match c with
    | 0 => am_ML (tab a) b ∧ ∃ q : vw_C, am_cls[k.toInt.toNat]? = some q ∧ Cond.methodLink (am_y mi).cls ix (am_y (tab a)) ∈ am_gt ∧ Cond.instanceMethod (am_y (tab a)) ∈ am_gt ∧ Cond.selects q.1 (am_y (tab a)) (am_y (tab a)) ∈ am_gt
    | 1 => am_ML (tab a) b ∧ ∃ (q : vw_C) (host : String), am_cls[k.toInt.toNat]? = some q ∧ Cond.methodLinkNest (am_y mi).cls ix (am_y (tab a)) host ∈ am_gt ∧ Cond.instanceMethod (am_y (tab a)) ∈ am_gt ∧ Cond.selects q.1 (am_y (tab a)) (am_y (tab a)) ∈ am_gt
    | 2 => am_ML (tab a) b ∧ Cond.methodLink (am_y mi).cls ix (am_y (tab a)) ∈ am_gt ∧ Cond.instanceMethod (am_y (tab a)) ∈ am_gt ∧ Cond.selects "java/lang/String" (am_y (tab a)) (am_y (tab a)) ∈ am_gt
    | 3 => ∀ ci, (ci = 1 ∨ ci = 3 ∨ ci = 4 ∨ ci = 5 ∨ ci = 8) → ∃ q : vw_C, am_cls[ci]? = some q ∧ am_VU tab (am_y mi).cls ix (am_sel a ci) b q
    | _ => ∃ q : vw_C, am_cls[k.toInt.toNat]? = some q ∧ am_VU tab (am_y mi).cls ix a b q
  | .invokestatic ix => len = 3 ∧ match c with
    | 2 => a < 3 ∧ Cond.methodLink (am_y mi).cls ix arraycopyName ∈ am_gt
    | 1 => am_ML (tab a) b ∧ ∃ host : String, Cond.methodLinkNest (am_y mi).cls ix (am_y (tab a)) host ∈ am_gt ∧ Cond.static (am_y (tab a)) ∈ am_gt
    | _ => am_ML (tab a) b ∧ Cond.methodLink (am_y mi).cls ix (am_y (tab a)) ∈ am_gt ∧ Cond.static (am_y (tab a)) ∈ am_gt
  | .invokespecial ix => len = 3 ∧ match c with
    | 0 => am_ML (tab a) b ∧ am_ret (tab a) = none ∧ (am_y (tab a)).name = "<init>" ∧ Cond.methodLink (am_y mi).cls ix (am_y (tab a)) ∈ am_gt ∧ Cond.instanceMethod (am_y (tab a)) ∈ am_gt
    | 1 => am_ML (tab a) b ∧ am_ret (tab a) = none ∧ (am_y (tab a)).name = "<init>" ∧ ∃ host : String, Cond.methodLinkNest (am_y mi).cls ix (am_y (tab a)) host ∈ am_gt ∧ Cond.instanceMethod (am_y (tab a)) ∈ am_gt
    | 2 => b = 0 ∧ Cond.methodLink (am_y mi).cls ix objectInit ∈ am_gt
    | _ => (∀ (ci : Nat), ∀ c : am_C, (∃ fs, c = .inr (.inr (ci, fs))) → True) ∧ am_SU tab (am_y mi).cls ix a b
  | _ => len = 1
theorem am_call_mono {mi : am_MI} {d kc ks : Nat} {args rest : List Value} {ls : am_L} {h : am_H} {go go' : Nat → Nat → Option Value → am_H → Prop} (hg : ∀ kc ks r h, go kc ks r h → go' kc ks r h) (hc : am_call mi d kc ks args rest ls h go) : am_call mi d kc ks args rest ls h go' := by
  obtain ⟨d', kc', ks', P, k1, k2, k3, k4, k5, k6⟩ := hc
  exact ⟨d', kc', ks', P, k1, k2, k3, k4, k5, fun r h' hp => ⟨(k6 r h' hp).1, hg _ _ _ _ (k6 r h' hp).2⟩⟩
theorem am_br_mono {co : ClassFile.Cond} {x y : Int32} {T F T' F' : Prop} (hT : T → T') (hF : F → F') (hb : am_br co x y T F) : am_br co x y T' F' := by
  cases co <;> exact ⟨fun z => hT (hb.1 z), fun z => hF (hb.2 z)⟩
set_option maxHeartbeats 4000000 in
theorem am_do_ok {tab : Nat → am_MI} {mi : am_MI} {d : Nat} {Q : Option Value → am_H → Prop} {K : am_K} {kc ks pc : Nat} {ls : am_L} {st : List Value} {h : am_H} {len a b c : Nat} {k : Int32} {i : Instr} (hK : ∀ kc ks pc ls st h, K kc ks pc ls st h → am_W mi d Q kc ks pc ls st h)
    (hd : decode (am_code mi) pc = .ok (i, len)) (hok : am_okI tab mi pc len a b c k i) (hw : am_do tab mi d Q K kc ks pc ls st h len a b c k i) : am_W mi d Q kc ks pc ls st h := by
  cases i
  case iconst n =>
    obtain ⟨rfl, hv⟩ := hok
    exact am_s_iconst hv hd (hK _ _ _ _ _ _ hw)
  case bipush n =>
    obtain ⟨rfl, hv⟩ := hok
    exact am_s_bipush hv hd (hK _ _ _ _ _ _ hw)
  case sipush n =>
    obtain ⟨rfl, hv⟩ := hok
    exact am_s_sipush hv hd (hK _ _ _ _ _ _ hw)
  case ldc ix =>
    obtain ⟨rfl, hv⟩ := hok
    dsimp only [am_do] at hw
    cases c with
    | zero => exact am_s_ldc hv hd (hK _ _ _ _ _ _ hw)
    | succ c =>
      obtain ⟨ho, ⟨rfl, rfl⟩ | ⟨rfl, rfl⟩ | ⟨rfl, rfl⟩⟩ := hv
      · exact am_s_str0 ho hd (hK _ _ _ _ _ _ hw)
      · exact am_s_str1 ho hd (hK _ _ _ _ _ _ hw)
      · exact am_s_str2 ho hd (hK _ _ _ _ _ _ hw)
  case ldc_w ix =>
    obtain ⟨rfl, hv⟩ := hok
    exact am_s_ldcw hv hd (hK _ _ _ _ _ _ hw)
  case ldc2_w ix =>
    obtain ⟨rfl, hv⟩ := hok
    exact am_s_ldc2 hv hd (hK _ _ _ _ _ _ hw)
  case aconst_null =>
    cases hok
    exact am_s_null hd (hK _ _ _ _ _ _ hw)
  case iload j =>
    obtain ⟨rfl, rfl⟩ := hok
    dsimp only [am_do] at hw
    split at hw
    · rename_i hx; exact am_s_iload hx hd (hK _ _ _ _ _ _ hw)
    · exact hw.elim
  case iload_n j =>
    obtain ⟨rfl, hv⟩ := hok
    dsimp only [am_do] at hw
    split at hw
    · rename_i hx; exact am_s_iload_n hx hd hv (hK _ _ _ _ _ _ hw)
    · exact hw.elim
  case lload_n j =>
    obtain ⟨rfl, hv⟩ := hok
    dsimp only [am_do] at hw
    split at hw
    · rename_i hx; exact am_s_lload_n hx hd hv (hK _ _ _ _ _ _ hw)
    · exact hw.elim
  case aload j =>
    obtain ⟨rfl, rfl⟩ := hok
    dsimp only [am_do] at hw
    split at hw
    · rename_i hx; exact am_s_aload hx hd (hK _ _ _ _ _ _ hw)
    · rename_i hx; exact am_s_aloadN hx hd (hK _ _ _ _ _ _ hw)
    · exact hw.elim
  case aload_n j =>
    obtain ⟨rfl, hv⟩ := hok
    dsimp only [am_do] at hw
    split at hw
    · rename_i hx; exact am_s_aload_n hx hd hv (hK _ _ _ _ _ _ hw)
    · rename_i hx; exact am_s_aload_nN hx hd hv (hK _ _ _ _ _ _ hw)
    · exact hw.elim
  case istore j =>
    obtain ⟨rfl, rfl, hm⟩ := hok
    dsimp only [am_do] at hw
    split at hw
    · rename_i hx; exact am_s_istore hx hm hd (hK _ _ _ _ _ _ hw)
    · exact hw.elim
  case istore_n j =>
    obtain ⟨rfl, hv, hm⟩ := hok
    dsimp only [am_do] at hw
    split at hw
    · rename_i hx; exact am_s_istore_n hx hm hd hv (hK _ _ _ _ _ _ hw)
    · exact hw.elim
  case astore j =>
    obtain ⟨rfl, rfl, hm⟩ := hok
    dsimp only [am_do] at hw
    split at hw
    · rename_i hx; exact am_s_astore hx hm hd (hK _ _ _ _ _ _ hw)
    · exact hw.elim
  case astore_n j =>
    obtain ⟨rfl, hv, hm⟩ := hok
    dsimp only [am_do] at hw
    split at hw
    · rename_i hx; exact am_s_astore_n hx hm hd hv (hK _ _ _ _ _ _ hw)
    · exact hw.elim
  case iinc j n =>
    obtain ⟨rfl, rfl, hv, hm⟩ := hok
    dsimp only [am_do] at hw
    split at hw
    · rename_i hx1 hx2; exact am_s_iinc hx1 hm hv hx2 hd (hK _ _ _ _ _ _ hw)
    · exact hw.elim
  case iadd =>
    cases hok
    dsimp only [am_do] at hw
    split at hw
    · exact am_s_iadd hd (hK _ _ _ _ _ _ hw)
    · exact hw.elim
  case isub =>
    cases hok
    dsimp only [am_do] at hw
    split at hw
    · exact am_s_isub hd (hK _ _ _ _ _ _ hw)
    · exact hw.elim
  case imul =>
    cases hok
    dsimp only [am_do] at hw
    split at hw
    · exact am_s_imul hd (hK _ _ _ _ _ _ hw)
    · exact hw.elim
  case iand =>
    cases hok
    dsimp only [am_do] at hw
    split at hw
    · exact am_s_iand hd (hK _ _ _ _ _ _ hw)
    · exact hw.elim
  case ior =>
    cases hok
    dsimp only [am_do] at hw
    split at hw
    · exact am_s_ior hd (hK _ _ _ _ _ _ hw)
    · exact hw.elim
  case ixor =>
    cases hok
    dsimp only [am_do] at hw
    split at hw
    · exact am_s_ixor hd (hK _ _ _ _ _ _ hw)
    · exact hw.elim
  case ishl =>
    cases hok
    dsimp only [am_do] at hw
    split at hw
    · exact am_s_ishl hd (hK _ _ _ _ _ _ hw)
    · exact hw.elim
  case ishr =>
    cases hok
    dsimp only [am_do] at hw
    split at hw
    · exact am_s_ishr hd (hK _ _ _ _ _ _ hw)
    · exact hw.elim
  case iushr =>
    cases hok
    dsimp only [am_do] at hw
    split at hw
    · exact am_s_iushr hd (hK _ _ _ _ _ _ hw)
    · exact hw.elim
  case ineg =>
    cases hok
    dsimp only [am_do] at hw
    split at hw
    · exact am_s_ineg hd (hK _ _ _ _ _ _ hw)
    · exact hw.elim
  case land =>
    cases hok
    dsimp only [am_do] at hw
    split at hw
    · exact am_s_land hd (hK _ _ _ _ _ _ hw)
    · exact hw.elim
  case lshr =>
    cases hok
    dsimp only [am_do] at hw
    split at hw
    · exact am_s_lshr hd (hK _ _ _ _ _ _ hw)
    · exact hw.elim
  case lushr =>
    cases hok
    dsimp only [am_do] at hw
    split at hw
    · exact am_s_lushr hd (hK _ _ _ _ _ _ hw)
    · exact hw.elim
  case l2i =>
    cases hok
    dsimp only [am_do] at hw
    split at hw
    · exact am_s_l2i hd (hK _ _ _ _ _ _ hw)
    · exact hw.elim
  case i2b =>
    cases hok
    dsimp only [am_do] at hw
    split at hw
    · exact am_s_i2b hd (hK _ _ _ _ _ _ hw)
    · exact hw.elim
  case i2c =>
    cases hok
    dsimp only [am_do] at hw
    split at hw
    · exact am_s_i2c hd (hK _ _ _ _ _ _ hw)
    · exact hw.elim
  case idiv =>
    cases hok
    dsimp only [am_do] at hw
    split at hw
    · exact am_s_idiv hw.1 hd (hK _ _ _ _ _ _ hw.2)
    · exact hw.elim
  case irem =>
    cases hok
    dsimp only [am_do] at hw
    split at hw
    · exact am_s_irem hw.1 hd (hK _ _ _ _ _ _ hw.2)
    · exact hw.elim
  case dup =>
    cases hok
    dsimp only [am_do] at hw
    split at hw
    · exact am_s_dupi hd (hK _ _ _ _ _ _ hw)
    · exact am_s_dupr hd (hK _ _ _ _ _ _ hw)
    · exact hw.elim
  case dup2 =>
    cases hok
    dsimp only [am_do] at hw
    split at hw
    · exact am_s_dup2 hd (hK _ _ _ _ _ _ hw)
    · exact hw.elim
  case pop =>
    cases hok
    dsimp only [am_do] at hw
    split at hw
    · exact am_s_popi hd (hK _ _ _ _ _ _ hw)
    · exact am_s_popr hd (hK _ _ _ _ _ _ hw)
    · exact hw.elim
  case goto off =>
    obtain ⟨rfl, hv⟩ := hok
    exact am_s_goto hv hd (hK _ _ _ _ _ _ hw)
  case ifCond co off =>
    obtain ⟨rfl, hv⟩ := hok
    dsimp only [am_do] at hw
    split at hw
    · exact am_s_if hv hd (am_br_mono (hK _ _ _ _ _ _) (hK _ _ _ _ _ _) hw)
    · exact hw.elim
  case if_icmp co off =>
    obtain ⟨rfl, hv⟩ := hok
    dsimp only [am_do] at hw
    split at hw
    · exact am_s_icmp hv hd (am_br_mono (hK _ _ _ _ _ _) (hK _ _ _ _ _ _) hw)
    · exact hw.elim
  case ifnonnull off =>
    obtain ⟨rfl, hv⟩ := hok
    dsimp only [am_do] at hw
    split at hw
    · exact am_s_nonnull hv hd (hK _ _ _ _ _ _ hw)
    · exact am_s_nonnullN hd (hK _ _ _ _ _ _ hw)
    · exact hw.elim
  case tableswitch dflt lo hi offs =>
    dsimp only [am_do] at hw
    split at hw
    · obtain ⟨tgt, ⟨h1, h2⟩ | ⟨h1, h2, off, h3, h4⟩, hw⟩ := hw
      · exact am_s_tabO h1 h2 hd (hK _ _ _ _ _ _ hw)
      · exact am_s_tabI h1 h2 h3 h4 hd (hK _ _ _ _ _ _ hw)
    · exact hw.elim
  case lookupswitch dflt ps =>
    dsimp only [am_do] at hw
    split at hw
    · obtain ⟨tgt, h1, hw⟩ := hw
      exact am_s_look hok h1 hd (hK _ _ _ _ _ _ hw)
    · exact hw.elim
  case getstatic ix =>
    obtain ⟨rfl, h1, h2⟩ := hok
    exact am_s_above h1 h2 hd (hK _ _ _ _ _ _ hw)
  case getfield ix =>
    obtain ⟨rfl, h1⟩ := hok
    dsimp only [am_do] at hw
    split at hw
    · obtain ⟨fs, v, h2, h3, hw⟩ := hw
      exact am_s_get h1 h2 h3 hd (hK _ _ _ _ _ _ hw)
    · exact hw.elim
  case putfield ix =>
    obtain ⟨rfl, h1⟩ := hok
    dsimp only [am_do] at hw
    split at hw
    · obtain ⟨fs, h2, h3, h4, hw⟩ := hw
      exact am_s_put h1 h2 h3 h4 hd (hK _ _ _ _ _ _ hw)
    · exact hw.elim
  case arraylength =>
    obtain ⟨rfl, h1⟩ := hok
    dsimp only [am_do] at hw
    split at hw
    · cases c with
      | zero => obtain ⟨n, f, h2, hw⟩ := hw; exact am_s_len h1 h2 hd (hK _ _ _ _ _ _ hw)
      | succ c => obtain ⟨n, f, h2, hw⟩ := hw; exact am_s_lenq h1 h2 hd (hK _ _ _ _ _ _ hw)
    · exact hw.elim
  case iaload =>
    cases hok
    dsimp only [am_do] at hw
    split at hw
    · cases c with
      | zero => obtain ⟨n, f, j, h2, rfl, h4, h5, hw⟩ := hw; have hin := vp_in_nI h4 (show n < 2 ^ 31 by omega); have e9 := nI_clamp (show j < 2 ^ 31 by omega); exact am_s_iald h2 hin hd (by rw [e9]; exact hK _ _ _ _ _ _ hw)
      | succ c => obtain ⟨rfl, j, rfl, h4, hw⟩ := hw; have hin := vp_in_nI h4 (show 5 < 2 ^ 31 by omega); have e9 := nI_clamp (show j < 2 ^ 31 by omega); exact am_s_abald hin hd (by rw [e9]; exact hK _ _ _ _ _ _ hw)
    · exact hw.elim
  case baload =>
    obtain ⟨rfl, h1⟩ := hok
    dsimp only [am_do] at hw
    split at hw
    · obtain ⟨n, f, j, h2, rfl, h4, h5, hw⟩ := hw
      have hin := vp_in_nI h4 (show n < 2 ^ 31 by omega); have e9 := nI_clamp (show j < 2 ^ 31 by omega); exact am_s_bald h1 h2 hin hd (by rw [e9]; exact hK _ _ _ _ _ _ hw)
    · exact hw.elim
  case iastore =>
    cases hok
    dsimp only [am_do] at hw
    split at hw
    · obtain ⟨n, f, j, h2, rfl, h4, h5, hw⟩ := hw
      have hin := vp_in_nI h4 (show n < 2 ^ 31 by omega); have e9 := nI_clamp (show j < 2 ^ 31 by omega); exact am_s_iast h2 hin hd (by rw [e9]; exact hK _ _ _ _ _ _ hw)
    · exact hw.elim
  case bastore =>
    obtain ⟨rfl, h1⟩ := hok
    dsimp only [am_do] at hw
    split at hw
    · obtain ⟨n, f, j, h2, rfl, h4, h5, hw⟩ := hw
      have hin := vp_in_nI h4 (show n < 2 ^ 31 by omega); have e9 := nI_clamp (show j < 2 ^ 31 by omega); exact am_s_bast h1 h2 hin hd (by rw [e9]; exact hK _ _ _ _ _ _ hw)
    · exact hw.elim
  case aaload =>
    obtain ⟨rfl, h1⟩ := hok
    dsimp only [am_do] at hw
    split at hw
    · obtain ⟨n, f, j, q, h2, rfl, h4, h5, h6, hw⟩ := hw
      have hin := vp_in_nI h4 (show n < 2 ^ 31 by omega); have e9 := nI_clamp (show j < 2 ^ 31 by omega); exact am_s_aald h1 h2 hin (by rw [e9]; exact h6) hd (hK _ _ _ _ _ _ hw)
    · exact hw.elim
  case aastore =>
    cases hok
    dsimp only [am_do] at hw
    split at hw
    · obtain ⟨n, f, j, ci, fs, h2, h3, h7, rfl, h4, h5, hw⟩ := hw
      have hin := vp_in_nI h4 (show n < 2 ^ 31 by omega); have e9 := nI_clamp (show j < 2 ^ 31 by omega); exact am_s_aast h7 h2 h3 hin hd (by rw [e9]; exact hK _ _ _ _ _ _ hw)
    · exact hw.elim
  case new ix =>
    obtain ⟨rfl, h1⟩ := hok
    dsimp only [am_do] at hw
    obtain ⟨k1, k2, k3, k4, hw⟩ := hw
    exact am_s_new h1 k1 k2 k3 k4 hd (hK _ _ _ _ _ _ hw)
  case newarray t =>
    obtain ⟨rfl, h1⟩ := hok
    dsimp only [am_do] at hw
    split at hw
    · obtain ⟨k1, k2, k3, k4, k5, k6, hw⟩ := hw
      exact am_s_newa h1 k1 k2 k3 k4 k5 k6 hd (hK _ _ _ _ _ _ hw)
    · exact hw.elim
  case anewarray ix =>
    obtain ⟨rfl, h1⟩ := hok
    dsimp only [am_do] at hw
    split at hw
    · obtain ⟨k1, k2, k3, k4, k5, k6, hw⟩ := hw
      exact am_s_newq h1 k1 k2 k3 k4 k5 k6 hd (hK _ _ _ _ _ _ hw)
    · exact hw.elim
  case ireturn =>
    cases hok
    dsimp only [am_do] at hw
    split at hw
    · obtain ⟨h1, h2⟩ := hw
      split at h1
      · rename_i hr; exact am_s_iret hr rfl hd h2
      · rename_i hr; exact am_s_iret hr h1 hd h2
      · exact h1.elim
    · exact hw.elim
  case areturn =>
    obtain ⟨rfl, rt, h1, h2⟩ := hok
    dsimp only [am_do] at hw
    split at hw
    · exact am_s_aret h1 h2 hd hw
    · exact hw.elim
  case return_ =>
    obtain ⟨rfl, h1⟩ := hok
    dsimp only [am_do] at hw
    split at hw
    · exact am_s_vret h1 hd hw
    · exact hw.elim
  case invokevirtual ix =>
    obtain ⟨rfl, h1⟩ := hok
    dsimp only [am_do] at hw
    split at hw
    · rename_i hp
      split at hw
      · obtain ⟨h1, q, h2, h3, h4, h5⟩ := h1
        obtain ⟨fs, h6, hw⟩ := hw
        exact am_s_callV h2 h1 h3 h4 h5 hp h6 hd (am_call_mono (fun _ _ _ _ z => hK _ _ _ _ _ _ z) hw)
      · obtain ⟨h1, q, host, h2, h3, h4, h5⟩ := h1
        obtain ⟨fs, h6, hw⟩ := hw
        exact am_s_callVN h2 h1 h3 h4 h5 hp h6 hd (am_call_mono (fun _ _ _ _ z => hK _ _ _ _ _ _ z) hw)
      · obtain ⟨h1, h3, h4, h5⟩ := h1
        obtain ⟨h6, h7, hw⟩ := hw
        exact am_s_callT h1 h3 h4 h5 hp h6 h7 hd (am_call_mono (fun _ _ _ _ z => hK _ _ _ _ _ _ z) hw)
      · obtain ⟨ci, fs, h6, h7, hw⟩ := hw
        obtain ⟨q, h2, xn, owner, u1, u2, u3, u4, u5, u6, u7, u8⟩ := h1 ci h7
        exact am_s_callU h2 u1 u2 u3 u4 u5 u6 u7 u8 hp h6 hd (am_call_mono (fun _ _ _ _ z => hK _ _ _ _ _ _ z) hw)
      · rename_i n0 n1 n2 n3
        obtain ⟨fs, h6, hw⟩ := hw
        have h1' : ∃ q : vw_C, am_cls[k.toInt.toNat]? = some q ∧ am_VU tab (am_y mi).cls ix a b q := by
          revert h1; split <;> first | (intro h1; exact h1) | (intro h1; exact absurd rfl (by assumption))
        obtain ⟨q, h2, xn, owner, u1, u2, u3, u4, u5, u6, u7, u8⟩ := h1'
        exact am_s_callU h2 u1 u2 u3 u4 u5 u6 u7 u8 hp h6 hd (am_call_mono (fun _ _ _ _ z => hK _ _ _ _ _ _ z) hw)
    · exact hw.elim
  case invokestatic ix =>
    obtain ⟨rfl, h1⟩ := hok
    dsimp only [am_do] at hw
    split at hw
    · split at hw
      · obtain ⟨n0, n1, f, g, k1, k2, k3, k4, k5, k6, k7, k8, k9, k10, hw⟩ := hw
        exact am_s_copy h1.1 h1.2 k1 k2 k3 k4 k5 k6 k7 k8 k9 k10 hd (hK _ _ _ _ _ _ hw)
      · exact hw.elim
    · rename_i n2
      split at hw
      · rename_i hp
        revert h1; split
        · exact absurd rfl n2
        · rintro ⟨h1, host, h3, h4⟩; exact am_s_callSN h1 h3 h4 hp hd (am_call_mono (fun _ _ _ _ z => hK _ _ _ _ _ _ z) hw)
        · rintro ⟨h1, h3, h4⟩; exact am_s_callS h1 h3 h4 hp hd (am_call_mono (fun _ _ _ _ z => hK _ _ _ _ _ _ z) hw)
      · exact hw.elim
  case invokespecial ix =>
    obtain ⟨rfl, h1⟩ := hok
    dsimp only [am_do] at hw
    split at hw
    · rename_i hp
      split at hw
      · obtain ⟨h1, h2, h3, h4, h5⟩ := h1
        exact am_s_callI h1 h2 h3 h4 h5 hp hd (am_call_mono (fun _ _ _ _ z => hK _ _ _ _ _ _ z) hw)
      · obtain ⟨h1, h2, h3, host, h4, h5⟩ := h1
        exact am_s_callIN h1 h2 h3 h4 h5 hp hd (am_call_mono (fun _ _ _ _ z => hK _ _ _ _ _ _ z) hw)
      · obtain ⟨rfl, h4⟩ := h1
        obtain ⟨h5, h6, hw⟩ := hw
        cases hp
        exact am_s_objInit h4 h5 h6 hd (hK _ _ _ _ _ _ hw)
      · obtain ⟨ci, fs, q, h2, h6, hw⟩ := hw
        have h1' : am_SU tab (am_y mi).cls ix a b := by
          revert h1; split <;> first | (intro h1; exact h1.2) | (intro h1; exact absurd rfl (by assumption))
        obtain ⟨xn, u1, u2, u3, u4, u5, u6, u7, u8, u9⟩ := h1'
        exact am_s_callSU h2 u1 u2 u3 u4 u5 u6 u7 u8 u9 hp h6 hd (am_call_mono (fun _ _ _ _ z => hK _ _ _ _ _ _ z) hw)
    · exact hw.elim
  all_goals exact hw.elim
def am_ok (tab : Nat → am_MI) (mi : am_MI) : Prop := ∀ (pc len a b c : Nat) (k : Int32) (i : Instr), am_nth (am_ins mi) pc = some (some (i, len, a, b, c, k)) → decode (am_code mi) pc = .ok (i, len) ∧ am_okI tab mi pc len a b c k i
theorem am_st_ok {tab : Nat → am_MI} {mi : am_MI} {d : Nat} {Q : Option Value → am_H → Prop} {K : am_K} (hok : am_ok tab mi) (hK : ∀ kc ks pc ls st h, K kc ks pc ls st h → am_W mi d Q kc ks pc ls st h) {kc ks pc : Nat} {ls : am_L} {st : List Value} {h : am_H} (hw : am_st tab mi d Q K kc ks pc ls st h) : am_W mi d Q kc ks pc ls st h := by
  dsimp only [am_st] at hw
  split at hw
  · rename_i i len a b c k hi
    obtain ⟨h1, h2⟩ := hok pc len a b c k i hi
    exact am_do_ok hK h1 h2 hw
  · exact hw.elim
theorem am_wp_ok {tab : Nat → am_MI} {mi : am_MI} {d : Nat} {Q : Option Value → am_H → Prop} {S : List Nat} (hok : am_ok tab mi) : ∀ (n kc ks pc : Nat) (ls : am_L) (st : List Value) (h : am_H), am_wp tab mi d Q S n kc ks pc ls st h → am_W mi d Q kc ks pc ls st h
  | 0, _, _, _, _, _, _, hw => hw
  | n + 1, kc, ks, pc, ls, st, h, hw => by
    dsimp only [am_wp] at hw
    split at hw
    · exact hw
    · exact am_st_ok hok (am_wp_ok hok n) hw
/-- go on from here: a step at least, then till a place of S -/
theorem am_go {tab : Nat → am_MI} {mi : am_MI} {d : Nat} {Q : Option Value → am_H → Prop} (hok : am_ok tab mi) (S : List Nat) (n : Nat) {kc ks pc : Nat} {ls : am_L} {st : List Value} {h : am_H} (hw : am_st tab mi d Q (am_wp tab mi d Q S n) kc ks pc ls st h) : am_W mi d Q kc ks pc ls st h :=
  am_st_ok hok (am_wp_ok hok n) hw
