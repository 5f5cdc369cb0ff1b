/-! facts of the classes, by program -/
theorem am_in0 : ∀ w ∈ u_ws RX0 TX0 18, w ∈ am_gt := by decide +kernel
theorem am_df0 : ∀ j, j < 18 → defaultValue (am_fty 0 j) = vp_V (am_new 0) j := by decide +kernel
theorem am_dl0 : (am_new 0).length = 18 := by decide +kernel
theorem am_ow0 : ∀ k, k < 18 → (TX0 k).1 = RX0 := by decide +kernel
theorem am_ty0 : ∀ k, k < 18 → parseFieldDescriptor (TX0 k).2.2.1 = some (am_fty 0 k) := by decide +kernel
theorem am_in1 : ∀ w ∈ u_ws RX1 TX1 0, w ∈ am_gt := by decide +kernel
theorem am_df1 : ∀ j, j < 0 → defaultValue (am_fty 1 j) = vp_V (am_new 1) j := by decide +kernel
theorem am_dl1 : (am_new 1).length = 0 := by decide +kernel
theorem am_ow1 : ∀ k, k < 0 → (TX1 k).1 = RX1 := by decide +kernel
theorem am_ty1 : ∀ k, k < 0 → parseFieldDescriptor (TX1 k).2.2.1 = some (am_fty 1 k) := by decide +kernel
theorem am_in2 : ∀ w ∈ u_ws RX2 TX2 7, w ∈ am_gt := by decide +kernel
theorem am_df2 : ∀ j, j < 7 → defaultValue (am_fty 2 j) = vp_V (am_new 2) j := by decide +kernel
theorem am_dl2 : (am_new 2).length = 7 := by decide +kernel
theorem am_ow2 : ∀ k, k < 7 → (TX2 k).1 = RX2 := by decide +kernel
theorem am_ty2 : ∀ k, k < 7 → parseFieldDescriptor (TX2 k).2.2.1 = some (am_fty 2 k) := by decide +kernel
theorem am_in3 : ∀ w ∈ u_ws RX3 TX3 0, w ∈ am_gt := by decide +kernel
theorem am_df3 : ∀ j, j < 0 → defaultValue (am_fty 3 j) = vp_V (am_new 3) j := by decide +kernel
theorem am_dl3 : (am_new 3).length = 0 := by decide +kernel
theorem am_ow3 : ∀ k, k < 0 → (TX3 k).1 = RX3 := by decide +kernel
theorem am_ty3 : ∀ k, k < 0 → parseFieldDescriptor (TX3 k).2.2.1 = some (am_fty 3 k) := by decide +kernel
theorem am_in4 : ∀ w ∈ u_ws RX4 TX4 0, w ∈ am_gt := by decide +kernel
theorem am_df4 : ∀ j, j < 0 → defaultValue (am_fty 4 j) = vp_V (am_new 4) j := by decide +kernel
theorem am_dl4 : (am_new 4).length = 0 := by decide +kernel
theorem am_ow4 : ∀ k, k < 0 → (TX4 k).1 = RX4 := by decide +kernel
theorem am_ty4 : ∀ k, k < 0 → parseFieldDescriptor (TX4 k).2.2.1 = some (am_fty 4 k) := by decide +kernel
theorem am_in5 : ∀ w ∈ u_ws RX5 TX5 0, w ∈ am_gt := by decide +kernel
theorem am_df5 : ∀ j, j < 0 → defaultValue (am_fty 5 j) = vp_V (am_new 5) j := by decide +kernel
theorem am_dl5 : (am_new 5).length = 0 := by decide +kernel
theorem am_ow5 : ∀ k, k < 0 → (TX5 k).1 = RX5 := by decide +kernel
theorem am_ty5 : ∀ k, k < 0 → parseFieldDescriptor (TX5 k).2.2.1 = some (am_fty 5 k) := by decide +kernel
theorem am_in6 : ∀ w ∈ u_ws RX6 TX6 8, w ∈ am_gt := by decide +kernel
theorem am_df6 : ∀ j, j < 8 → defaultValue (am_fty 6 j) = vp_V (am_new 6) j := by decide +kernel
theorem am_dl6 : (am_new 6).length = 8 := by decide +kernel
theorem am_ow6 : ∀ k, k < 8 → (TX6 k).1 = RX6 := by decide +kernel
theorem am_ty6 : ∀ k, k < 8 → parseFieldDescriptor (TX6 k).2.2.1 = some (am_fty 6 k) := by decide +kernel
theorem am_in7 : ∀ w ∈ u_ws RX7 TX7 5, w ∈ am_gt := by decide +kernel
theorem am_df7 : ∀ j, j < 5 → defaultValue (am_fty 7 j) = vp_V (am_new 7) j := by decide +kernel
theorem am_dl7 : (am_new 7).length = 5 := by decide +kernel
theorem am_ow7 : ∀ k, k < 5 → (TX7 k).1 = RX7 := by decide +kernel
theorem am_ty7 : ∀ k, k < 5 → parseFieldDescriptor (TX7 k).2.2.1 = some (am_fty 7 k) := by decide +kernel
theorem am_in8 : ∀ w ∈ u_ws RX8 TX8 0, w ∈ am_gt := by decide +kernel
theorem am_df8 : ∀ j, j < 0 → defaultValue (am_fty 8 j) = vp_V (am_new 8) j := by decide +kernel
theorem am_dl8 : (am_new 8).length = 0 := by decide +kernel
theorem am_ow8 : ∀ k, k < 0 → (TX8 k).1 = RX8 := by decide +kernel
theorem am_ty8 : ∀ k, k < 0 → parseFieldDescriptor (TX8 k).2.2.1 = some (am_fty 8 k) := by decide +kernel
theorem am_in9 : ∀ w ∈ u_ws RX9 TX9 6, w ∈ am_gt := by decide +kernel
theorem am_df9 : ∀ j, j < 6 → defaultValue (am_fty 9 j) = vp_V (am_new 9) j := by decide +kernel
theorem am_dl9 : (am_new 9).length = 6 := by decide +kernel
theorem am_ow9 : ∀ k, k < 6 → (TX9 k).1 = RX9 := by decide +kernel
theorem am_ty9 : ∀ k, k < 6 → parseFieldDescriptor (TX9 k).2.2.1 = some (am_fty 9 k) := by decide +kernel
theorem am_in10 : ∀ w ∈ u_ws RX10 TX10 5, w ∈ am_gt := by decide +kernel
theorem am_df10 : ∀ j, j < 5 → defaultValue (am_fty 10 j) = vp_V (am_new 10) j := by decide +kernel
theorem am_dl10 : (am_new 10).length = 5 := by decide +kernel
theorem am_ow10 : ∀ k, k < 5 → (TX10 k).1 = RX10 := by decide +kernel
theorem am_ty10 : ∀ k, k < 5 → parseFieldDescriptor (TX10 k).2.2.1 = some (am_fty 10 k) := by decide +kernel
theorem am_in11 : ∀ w ∈ u_ws RX11 TX11 7, w ∈ am_gt := by decide +kernel
theorem am_df11 : ∀ j, j < 7 → defaultValue (am_fty 11 j) = vp_V (am_new 11) j := by decide +kernel
theorem am_dl11 : (am_new 11).length = 7 := by decide +kernel
theorem am_ow11 : ∀ k, k < 7 → (TX11 k).1 = RX11 := by decide +kernel
theorem am_ty11 : ∀ k, k < 7 → parseFieldDescriptor (TX11 k).2.2.1 = some (am_fty 11 k) := by decide +kernel
theorem am_in12 : ∀ w ∈ u_ws RX12 TX12 15, w ∈ am_gt := by decide +kernel
theorem am_df12 : ∀ j, j < 15 → defaultValue (am_fty 12 j) = vp_V (am_new 12) j := by decide +kernel
theorem am_dl12 : (am_new 12).length = 15 := by decide +kernel
theorem am_ow12 : ∀ k, k < 15 → (TX12 k).1 = RX12 := by decide +kernel
theorem am_ty12 : ∀ k, k < 15 → parseFieldDescriptor (TX12 k).2.2.1 = some (am_fty 12 k) := by decide +kernel
/-- what is known of a class by its number -/
def am_Cok (ci : Nat) (C : String) (T : u_T) (N : Nat) : Prop := (∀ w ∈ u_ws C T N, w ∈ am_gt) ∧ (∀ k, k < N → parseFieldDescriptor (T k).2.2.1 = some (am_fty ci k)) ∧ (∀ a, a < N → ∀ b, b < N → a ≠ b → (T a).2.1 ≠ (T b).2.1) ∧ (∀ k, k < N → (T k).1 = C) ∧ (∀ j, j < N → defaultValue (am_fty ci j) = vp_V (am_new ci) j) ∧ (am_new ci).length = N
theorem am_cls_ok : ∀ (ci : Nat) (q : vw_C), am_cls[ci]? = some q → am_Cok ci q.1 q.2.1 q.2.2 := by
  intro ci q hq
  match ci, hq with
  | 0, hq => cases hq; exact ⟨am_in0, am_ty0, nmX0, am_ow0, am_df0, am_dl0⟩
  | 1, hq => cases hq; exact ⟨am_in1, am_ty1, nmX1, am_ow1, am_df1, am_dl1⟩
  | 2, hq => cases hq; exact ⟨am_in2, am_ty2, nmX2, am_ow2, am_df2, am_dl2⟩
  | 3, hq => cases hq; exact ⟨am_in3, am_ty3, nmX3, am_ow3, am_df3, am_dl3⟩
  | 4, hq => cases hq; exact ⟨am_in4, am_ty4, nmX4, am_ow4, am_df4, am_dl4⟩
  | 5, hq => cases hq; exact ⟨am_in5, am_ty5, nmX5, am_ow5, am_df5, am_dl5⟩
  | 6, hq => cases hq; exact ⟨am_in6, am_ty6, nmX6, am_ow6, am_df6, am_dl6⟩
  | 7, hq => cases hq; exact ⟨am_in7, am_ty7, nmX7, am_ow7, am_df7, am_dl7⟩
  | 8, hq => cases hq; exact ⟨am_in8, am_ty8, nmX8, am_ow8, am_df8, am_dl8⟩
  | 9, hq => cases hq; exact ⟨am_in9, am_ty9, nmX9, am_ow9, am_df9, am_dl9⟩
  | 10, hq => cases hq; exact ⟨am_in10, am_ty10, nmX10, am_ow10, am_df10, am_dl10⟩
  | 11, hq => cases hq; exact ⟨am_in11, am_ty11, nmX11, am_ow11, am_df11, am_dl11⟩
  | 12, hq => cases hq; exact ⟨am_in12, am_ty12, nmX12, am_ow12, am_df12, am_dl12⟩
  | n + 13, hq => simp [am_cls] at hq
