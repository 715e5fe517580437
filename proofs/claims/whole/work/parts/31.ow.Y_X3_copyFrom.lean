theorem dX3_copyFrom_0 : decode cX3_copyFrom 0 = .ok (.aload_n 0, 1) := by decide +kernel
theorem dX3_copyFrom_1 : decode cX3_copyFrom 1 = .ok (.aload_n 1, 1) := by decide +kernel
theorem dX3_copyFrom_2 : decode cX3_copyFrom 2 = .ok (.getfield 21, 3) := by decide +kernel
theorem dX3_copyFrom_5 : decode cX3_copyFrom 5 = .ok (.putfield 21, 3) := by decide +kernel
theorem dX3_copyFrom_8 : decode cX3_copyFrom 8 = .ok (.aload_n 0, 1) := by decide +kernel
theorem dX3_copyFrom_9 : decode cX3_copyFrom 9 = .ok (.aload_n 1, 1) := by decide +kernel
theorem dX3_copyFrom_10 : decode cX3_copyFrom 10 = .ok (.getfield 25, 3) := by decide +kernel
theorem dX3_copyFrom_13 : decode cX3_copyFrom 13 = .ok (.putfield 25, 3) := by decide +kernel
theorem dX3_copyFrom_16 : decode cX3_copyFrom 16 = .ok (.aload_n 1, 1) := by decide +kernel
theorem dX3_copyFrom_17 : decode cX3_copyFrom 17 = .ok (.getfield 9, 3) := by decide +kernel
theorem dX3_copyFrom_20 : decode cX3_copyFrom 20 = .ok (.iconst 0, 1) := by decide +kernel
theorem dX3_copyFrom_21 : decode cX3_copyFrom 21 = .ok (.aload_n 0, 1) := by decide +kernel
theorem dX3_copyFrom_22 : decode cX3_copyFrom 22 = .ok (.getfield 9, 3) := by decide +kernel
theorem dX3_copyFrom_25 : decode cX3_copyFrom 25 = .ok (.iconst 0, 1) := by decide +kernel
theorem dX3_copyFrom_26 : decode cX3_copyFrom 26 = .ok (.sipush 400, 3) := by decide +kernel
theorem dX3_copyFrom_29 : decode cX3_copyFrom 29 = .ok (.invokestatic 32, 3) := by decide +kernel
theorem dX3_copyFrom_32 : decode cX3_copyFrom 32 = .ok (.aload_n 1, 1) := by decide +kernel
theorem dX3_copyFrom_33 : decode cX3_copyFrom 33 = .ok (.getfield 15, 3) := by decide +kernel
theorem dX3_copyFrom_36 : decode cX3_copyFrom 36 = .ok (.iconst 0, 1) := by decide +kernel
theorem dX3_copyFrom_37 : decode cX3_copyFrom 37 = .ok (.aload_n 0, 1) := by decide +kernel
theorem dX3_copyFrom_38 : decode cX3_copyFrom 38 = .ok (.getfield 15, 3) := by decide +kernel
theorem dX3_copyFrom_41 : decode cX3_copyFrom 41 = .ok (.iconst 0, 1) := by decide +kernel
theorem dX3_copyFrom_42 : decode cX3_copyFrom 42 = .ok (.sipush 400, 3) := by decide +kernel
theorem dX3_copyFrom_45 : decode cX3_copyFrom 45 = .ok (.invokestatic 32, 3) := by decide +kernel
theorem dX3_copyFrom_48 : decode cX3_copyFrom 48 = .ok (.aload_n 1, 1) := by decide +kernel
theorem dX3_copyFrom_49 : decode cX3_copyFrom 49 = .ok (.getfield 18, 3) := by decide +kernel
theorem dX3_copyFrom_52 : decode cX3_copyFrom 52 = .ok (.iconst 0, 1) := by decide +kernel
theorem dX3_copyFrom_53 : decode cX3_copyFrom 53 = .ok (.aload_n 0, 1) := by decide +kernel
theorem dX3_copyFrom_54 : decode cX3_copyFrom 54 = .ok (.getfield 18, 3) := by decide +kernel
theorem dX3_copyFrom_57 : decode cX3_copyFrom 57 = .ok (.iconst 0, 1) := by decide +kernel
theorem dX3_copyFrom_58 : decode cX3_copyFrom 58 = .ok (.sipush 400, 3) := by decide +kernel
theorem dX3_copyFrom_61 : decode cX3_copyFrom 61 = .ok (.invokestatic 32, 3) := by decide +kernel
theorem dX3_copyFrom_64 : decode cX3_copyFrom 64 = .ok (.return_, 1) := by decide +kernel
def mY_X3_copyFrom (N : Nat) (σ : ST) : Option (ST) :=
  zLet (σ 118 3) fun v2 =>
  zLet (zUp σ 18 3 v2) fun s5 =>
  zLet (s5 118 4) fun v10 =>
  zLet (zUp s5 18 4 v10) fun s13 =>
  zLet (va_up s13 19 (va_cpy (s13 119) (s13 19) ((0) : Int32).toNatClampNeg ((0) : Int32).toNatClampNeg ((400) : Int32).toNatClampNeg)) fun s29 =>
  zLet (va_up s29 20 (va_cpy (s29 120) (s29 20) ((0) : Int32).toNatClampNeg ((0) : Int32).toNatClampNeg ((400) : Int32).toNatClampNeg)) fun s45 =>
  zLet (va_up s45 21 (va_cpy (s45 121) (s45 21) ((0) : Int32).toNatClampNeg ((0) : Int32).toNatClampNeg ((400) : Int32).toNatClampNeg)) fun s61 =>
  some s61
set_option maxRecDepth 20000 in
set_option maxHeartbeats 2000000 in
theorem cY_X3_copyFrom {adr : Nat → Nat} {cI cZ cS : ClassId} {l : Launch} {D : va_G} {N : Nat} {σ : ST} (q : ST) (hf : mY_X3_copyFrom N σ = some q) : zM l D (wdY adr cI cZ cS) yX3_copyFrom cX3_copyFrom 2 none ({ frames := 1, cells := 0, slots := 0, locals := 18 }) [.ref (adr 18), .ref (adr 118)] σ (zu q) := by
  refine zM_of sfY_ok rfl (Nat.le_of_ble_eq_true rfl) [(0, .ref (adr 18)), (1, .ref (adr 118))] rfl (fun X hX1 hX2 B => ?_)
  have B : zC X 2 (wdY adr cI cZ cS) cX3_copyFrom RX3 none { frames := 1, cells := 0, slots := 0, locals := 18 } := B
  refine z_aload_n B dX3_copyFrom_0 0 rfl rfl ?_
  refine z_aload_n B dX3_copyFrom_1 1 rfl rfl ?_
  refine fY_g_X3_H2_eldest B dX3_copyFrom_2 hf (fun v2 hf => ?_)
  refine fY_p_X3_H_eldest B dX3_copyFrom_5 hf (fun s5 hf => ?_)
  refine z_aload_n B dX3_copyFrom_8 0 rfl rfl ?_
  refine z_aload_n B dX3_copyFrom_9 1 rfl rfl ?_
  refine fY_g_X3_H2_length B dX3_copyFrom_10 hf (fun v10 hf => ?_)
  refine fY_p_X3_H_length B dX3_copyFrom_13 hf (fun s13 hf => ?_)
  refine z_aload_n B dX3_copyFrom_16 1 rfl rfl ?_
  refine fY_g_X3_H2_blocks B dX3_copyFrom_17 ?_
  refine z_iconst B (0) dX3_copyFrom_20 zc_iconst_0 ?_
  refine z_aload_n B dX3_copyFrom_21 0 rfl rfl ?_
  refine fY_g_X3_H_blocks B dX3_copyFrom_22 ?_
  refine z_iconst B (0) dX3_copyFrom_25 zc_iconst_0 ?_
  refine z_sipush B (400) dX3_copyFrom_26 zc_sipush_400 ?_
  refine z_copy B (t0 := 0) (t1 := 0) kw_627 kaN kaS kaI wY_g_H2_blocks wY_g_H_blocks wY_s_H_blocks rfl rfl (by decide) (by decide) (by decide) (by decide) (by decide) (Nat.le_of_ble_eq_true rfl) (Nat.le_of_ble_eq_true rfl) dX3_copyFrom_29 hf (fun s29 hf => ?_)
  refine z_aload_n B dX3_copyFrom_32 1 rfl rfl ?_
  refine fY_g_X3_H2_numbers B dX3_copyFrom_33 ?_
  refine z_iconst B (0) dX3_copyFrom_36 zc_iconst_0 ?_
  refine z_aload_n B dX3_copyFrom_37 0 rfl rfl ?_
  refine fY_g_X3_H_numbers B dX3_copyFrom_38 ?_
  refine z_iconst B (0) dX3_copyFrom_41 zc_iconst_0 ?_
  refine z_sipush B (400) dX3_copyFrom_42 zc_sipush_400 ?_
  refine z_copy B (t0 := 0) (t1 := 0) kw_627 kaN kaS kaI wY_g_H2_numbers wY_g_H_numbers wY_s_H_numbers rfl rfl (by decide) (by decide) (by decide) (by decide) (by decide) (Nat.le_of_ble_eq_true rfl) (Nat.le_of_ble_eq_true rfl) dX3_copyFrom_45 hf (fun s45 hf => ?_)
  refine z_aload_n B dX3_copyFrom_48 1 rfl rfl ?_
  refine fY_g_X3_H2_kinds B dX3_copyFrom_49 ?_
  refine z_iconst B (0) dX3_copyFrom_52 zc_iconst_0 ?_
  refine z_aload_n B dX3_copyFrom_53 0 rfl rfl ?_
  refine fY_g_X3_H_kinds B dX3_copyFrom_54 ?_
  refine z_iconst B (0) dX3_copyFrom_57 zc_iconst_0 ?_
  refine z_sipush B (400) dX3_copyFrom_58 zc_sipush_400 ?_
  refine z_copy B (t0 := 0) (t1 := 0) kw_627 kaN kaS kaI wY_g_H2_kinds wY_g_H_kinds wY_s_H_kinds rfl rfl (by decide) (by decide) (by decide) (by decide) (by decide) (Nat.le_of_ble_eq_true rfl) (Nat.le_of_ble_eq_true rfl) dX3_copyFrom_61 hf (fun s61 hf => ?_)
  exact z_return B dX3_copyFrom_64 hf
theorem dX6_copyFrom_0 : decode cX6_copyFrom 0 = .ok (.aload_n 0, 1) := by decide +kernel
theorem dX6_copyFrom_1 : decode cX6_copyFrom 1 = .ok (.aload_n 1, 1) := by decide +kernel
theorem dX6_copyFrom_2 : decode cX6_copyFrom 2 = .ok (.getfield 15, 3) := by decide +kernel
theorem dX6_copyFrom_5 : decode cX6_copyFrom 5 = .ok (.putfield 15, 3) := by decide +kernel
theorem dX6_copyFrom_8 : decode cX6_copyFrom 8 = .ok (.aload_n 0, 1) := by decide +kernel
theorem dX6_copyFrom_9 : decode cX6_copyFrom 9 = .ok (.aload_n 1, 1) := by decide +kernel
theorem dX6_copyFrom_10 : decode cX6_copyFrom 10 = .ok (.getfield 19, 3) := by decide +kernel
theorem dX6_copyFrom_13 : decode cX6_copyFrom 13 = .ok (.putfield 19, 3) := by decide +kernel
theorem dX6_copyFrom_16 : decode cX6_copyFrom 16 = .ok (.aload_n 1, 1) := by decide +kernel
theorem dX6_copyFrom_17 : decode cX6_copyFrom 17 = .ok (.getfield 9, 3) := by decide +kernel
theorem dX6_copyFrom_20 : decode cX6_copyFrom 20 = .ok (.iconst 0, 1) := by decide +kernel
theorem dX6_copyFrom_21 : decode cX6_copyFrom 21 = .ok (.aload_n 0, 1) := by decide +kernel
theorem dX6_copyFrom_22 : decode cX6_copyFrom 22 = .ok (.getfield 9, 3) := by decide +kernel
theorem dX6_copyFrom_25 : decode cX6_copyFrom 25 = .ok (.iconst 0, 1) := by decide +kernel
theorem dX6_copyFrom_26 : decode cX6_copyFrom 26 = .ok (.aload_n 0, 1) := by decide +kernel
theorem dX6_copyFrom_27 : decode cX6_copyFrom 27 = .ok (.getfield 9, 3) := by decide +kernel
theorem dX6_copyFrom_30 : decode cX6_copyFrom 30 = .ok (.arraylength, 1) := by decide +kernel
theorem dX6_copyFrom_31 : decode cX6_copyFrom 31 = .ok (.invokestatic 22, 3) := by decide +kernel
theorem dX6_copyFrom_34 : decode cX6_copyFrom 34 = .ok (.return_, 1) := by decide +kernel
def mY_X6_copyFrom (N : Nat) (σ : ST) : Option (ST) :=
  zLet (σ 122 1) fun v2 =>
  zLet (zUp σ 22 1 v2) fun s5 =>
  zLet (s5 122 2) fun v10 =>
  zLet (zUp s5 22 2 v10) fun s13 =>
  zLet (va_up s13 23 (va_cpy (s13 123) (s13 23) ((0) : Int32).toNatClampNeg ((0) : Int32).toNatClampNeg ((160) : Int32).toNatClampNeg)) fun s31 =>
  some s31
set_option maxRecDepth 20000 in
set_option maxHeartbeats 2000000 in
theorem cY_X6_copyFrom {adr : Nat → Nat} {cI cZ cS : ClassId} {l : Launch} {D : va_G} {N : Nat} {σ : ST} (q : ST) (hf : mY_X6_copyFrom N σ = some q) : zM l D (wdY adr cI cZ cS) yX6_copyFrom cX6_copyFrom 2 none ({ frames := 1, cells := 0, slots := 0, locals := 18 }) [.ref (adr 22), .ref (adr 122)] σ (zu q) := by
  refine zM_of sfY_ok rfl (Nat.le_of_ble_eq_true rfl) [(0, .ref (adr 22)), (1, .ref (adr 122))] rfl (fun X hX1 hX2 B => ?_)
  have B : zC X 2 (wdY adr cI cZ cS) cX6_copyFrom RX6 none { frames := 1, cells := 0, slots := 0, locals := 18 } := B
  refine z_aload_n B dX6_copyFrom_0 0 rfl rfl ?_
  refine z_aload_n B dX6_copyFrom_1 1 rfl rfl ?_
  refine fY_g_X6_G2_next B dX6_copyFrom_2 hf (fun v2 hf => ?_)
  refine fY_p_X6_G_next B dX6_copyFrom_5 hf (fun s5 hf => ?_)
  refine z_aload_n B dX6_copyFrom_8 0 rfl rfl ?_
  refine z_aload_n B dX6_copyFrom_9 1 rfl rfl ?_
  refine fY_g_X6_G2_length B dX6_copyFrom_10 hf (fun v10 hf => ?_)
  refine fY_p_X6_G_length B dX6_copyFrom_13 hf (fun s13 hf => ?_)
  refine z_aload_n B dX6_copyFrom_16 1 rfl rfl ?_
  refine fY_g_X6_G2_cells B dX6_copyFrom_17 ?_
  refine z_iconst B (0) dX6_copyFrom_20 zc_iconst_0 ?_
  refine z_aload_n B dX6_copyFrom_21 0 rfl rfl ?_
  refine fY_g_X6_G_cells B dX6_copyFrom_22 ?_
  refine z_iconst B (0) dX6_copyFrom_25 zc_iconst_0 ?_
  refine z_aload_n B dX6_copyFrom_26 0 rfl rfl ?_
  refine fY_g_X6_G_cells B dX6_copyFrom_27 ?_
  refine z_alen B (t0 := 0) (160) wY_g_G_cells rfl (show Int32.ofNat 160 = 160 by decide) dX6_copyFrom_30 ?_
  refine z_copy B (t0 := 0) (t1 := 0) kw_632 kaN kaS kaI wY_g_G2_cells wY_g_G_cells wY_s_G_cells rfl rfl (by decide) (by decide) (by decide) (by decide) (by decide) (Nat.le_of_ble_eq_true rfl) (Nat.le_of_ble_eq_true rfl) dX6_copyFrom_31 hf (fun s31 hf => ?_)
  exact z_return B dX6_copyFrom_34 hf
def mY_X4_begin (N : Nat) (σ : ST) (x0 : Fin 6) (x1 : Int32) (x2 : Int32) : Option (ST) :=
  zLet (zUp σ (12 + (x0).val) 0 x1) fun s2 =>
  zLet (zUp s2 (12 + (x0).val) 1 x2) fun s7 =>
  zLet (zUp s7 (12 + (x0).val) 2 (0)) fun s12 =>
  zLet (zUp s12 (12 + (x0).val) 3 (0)) fun s17 =>
  zLet (zUp s17 (12 + (x0).val) 4 (0)) fun s22 =>
  zLet (zUp s22 (12 + (x0).val) 5 x2) fun s27 =>
  zLet (zUp s27 (12 + (x0).val) 6 (-1)) fun s32 =>
  zLet (zUp s32 (12 + (x0).val) 7 (0)) fun s37 =>
  zLet (zUp s37 (12 + (x0).val) 8 (0)) fun s42 =>
  zLet (zUp s42 (12 + (x0).val) 9 (0)) fun s47 =>
  zLet (zUp s47 (12 + (x0).val) 10 (0)) fun s52 =>
  some s52
set_option maxRecDepth 20000 in
set_option maxHeartbeats 2000000 in
theorem cY_X4_begin {adr : Nat → Nat} {cI cZ cS : ClassId} {l : Launch} {D : va_G} {N : Nat} {σ : ST} {x0 : Fin 6} {x1 : Int32} {x2 : Int32} (q : ST) (hf : mY_X4_begin N σ x0 x1 x2 = some q) : zM l D (wdY adr cI cZ cS) yX4_begin cX4_begin 3 none ({ frames := 0, cells := 0, slots := 0, locals := 0 }) [.ref (adr (12 + (x0).val)), .int x1, .int x2] σ (zu q) := by
  refine zM_of sfY_ok rfl (Nat.le_of_ble_eq_true rfl) [(0, .ref (adr (12 + (x0).val))), (1, .int x1), (2, .int x2)] rfl (fun X hX1 hX2 B => ?_)
  have B : zC X 3 (wdY adr cI cZ cS) cX4_begin RX4 none { frames := 0, cells := 0, slots := 0, locals := 0 } := B
  refine z_aload_n B dX4_begin_0 0 rfl rfl ?_
  refine z_iload_n B dX4_begin_1 1 rfl rfl ?_
  refine fY_p_X4_S_number B x0 dX4_begin_2 hf (fun s2 hf => ?_)
  refine z_aload_n B dX4_begin_5 0 rfl rfl ?_
  refine z_iload_n B dX4_begin_6 2 rfl rfl ?_
  refine fY_p_X4_S_last B x0 dX4_begin_7 hf (fun s7 hf => ?_)
  refine z_aload_n B dX4_begin_10 0 rfl rfl ?_
  refine z_iconst B (0) dX4_begin_11 zc_iconst_0 ?_
  refine fY_p_X4_S_stride B x0 dX4_begin_12 hf (fun s12 hf => ?_)
  refine z_aload_n B dX4_begin_15 0 rfl rfl ?_
  refine z_iconst B (0) dX4_begin_16 zc_iconst_0 ?_
  refine fY_p_X4_S_proof B x0 dX4_begin_17 hf (fun s17 hf => ?_)
  refine z_aload_n B dX4_begin_20 0 rfl rfl ?_
  refine z_iconst B (0) dX4_begin_21 zc_iconst_0 ?_
  refine fY_p_X4_S_window B x0 dX4_begin_22 hf (fun s22 hf => ?_)
  refine z_aload_n B dX4_begin_25 0 rfl rfl ?_
  refine z_iload_n B dX4_begin_26 2 rfl rfl ?_
  refine fY_p_X4_S_edge B x0 dX4_begin_27 hf (fun s27 hf => ?_)
  refine z_aload_n B dX4_begin_30 0 rfl rfl ?_
  refine z_iconst B (-1) dX4_begin_31 zc_iconst_m1 ?_
  refine fY_p_X4_S_marker B x0 dX4_begin_32 hf (fun s32 hf => ?_)
  refine z_aload_n B dX4_begin_35 0 rfl rfl ?_
  refine z_iconst B (0) dX4_begin_36 zc_iconst_0 ?_
  refine fY_p_X4_S_used B x0 dX4_begin_37 hf (fun s37 hf => ?_)
  refine z_aload_n B dX4_begin_40 0 rfl rfl ?_
  refine z_iconst B (0) dX4_begin_41 zc_iconst_0 ?_
  refine fY_p_X4_S_fetched B x0 dX4_begin_42 hf (fun s42 hf => ?_)
  refine z_aload_n B dX4_begin_45 0 rfl rfl ?_
  refine z_iconst B (0) dX4_begin_46 zc_iconst_0 ?_
  refine fY_p_X4_S_hits B x0 dX4_begin_47 hf (fun s47 hf => ?_)
  refine z_aload_n B dX4_begin_50 0 rfl rfl ?_
  refine z_iconst B (0) dX4_begin_51 zc_iconst_0 ?_
  refine fY_p_X4_S_wasted B x0 dX4_begin_52 hf (fun s52 hf => ?_)
  exact z_return B dX4_begin_55 hf
theorem dX4_copyFrom_0 : decode cX4_copyFrom 0 = .ok (.aload_n 0, 1) := by decide +kernel
theorem dX4_copyFrom_1 : decode cX4_copyFrom 1 = .ok (.aload_n 1, 1) := by decide +kernel
theorem dX4_copyFrom_2 : decode cX4_copyFrom 2 = .ok (.getfield 9, 3) := by decide +kernel
theorem dX4_copyFrom_5 : decode cX4_copyFrom 5 = .ok (.aload_n 1, 1) := by decide +kernel
theorem dX4_copyFrom_6 : decode cX4_copyFrom 6 = .ok (.getfield 18, 3) := by decide +kernel
theorem dX4_copyFrom_9 : decode cX4_copyFrom 9 = .ok (.invokevirtual 52, 3) := by decide +kernel
theorem dX4_copyFrom_12 : decode cX4_copyFrom 12 = .ok (.aload_n 0, 1) := by decide +kernel
theorem dX4_copyFrom_13 : decode cX4_copyFrom 13 = .ok (.aload_n 1, 1) := by decide +kernel
theorem dX4_copyFrom_14 : decode cX4_copyFrom 14 = .ok (.getfield 21, 3) := by decide +kernel
theorem dX4_copyFrom_17 : decode cX4_copyFrom 17 = .ok (.putfield 21, 3) := by decide +kernel
theorem dX4_copyFrom_20 : decode cX4_copyFrom 20 = .ok (.aload_n 0, 1) := by decide +kernel
theorem dX4_copyFrom_21 : decode cX4_copyFrom 21 = .ok (.aload_n 1, 1) := by decide +kernel
theorem dX4_copyFrom_22 : decode cX4_copyFrom 22 = .ok (.getfield 24, 3) := by decide +kernel
theorem dX4_copyFrom_25 : decode cX4_copyFrom 25 = .ok (.putfield 24, 3) := by decide +kernel
theorem dX4_copyFrom_28 : decode cX4_copyFrom 28 = .ok (.aload_n 0, 1) := by decide +kernel
theorem dX4_copyFrom_29 : decode cX4_copyFrom 29 = .ok (.aload_n 1, 1) := by decide +kernel
theorem dX4_copyFrom_30 : decode cX4_copyFrom 30 = .ok (.getfield 27, 3) := by decide +kernel
theorem dX4_copyFrom_33 : decode cX4_copyFrom 33 = .ok (.putfield 27, 3) := by decide +kernel
theorem dX4_copyFrom_36 : decode cX4_copyFrom 36 = .ok (.aload_n 0, 1) := by decide +kernel
theorem dX4_copyFrom_37 : decode cX4_copyFrom 37 = .ok (.aload_n 1, 1) := by decide +kernel
theorem dX4_copyFrom_38 : decode cX4_copyFrom 38 = .ok (.getfield 30, 3) := by decide +kernel
theorem dX4_copyFrom_41 : decode cX4_copyFrom 41 = .ok (.putfield 30, 3) := by decide +kernel
theorem dX4_copyFrom_44 : decode cX4_copyFrom 44 = .ok (.aload_n 0, 1) := by decide +kernel
theorem dX4_copyFrom_45 : decode cX4_copyFrom 45 = .ok (.aload_n 1, 1) := by decide +kernel
theorem dX4_copyFrom_46 : decode cX4_copyFrom 46 = .ok (.getfield 15, 3) := by decide +kernel
theorem dX4_copyFrom_49 : decode cX4_copyFrom 49 = .ok (.putfield 15, 3) := by decide +kernel
theorem dX4_copyFrom_52 : decode cX4_copyFrom 52 = .ok (.aload_n 0, 1) := by decide +kernel
theorem dX4_copyFrom_53 : decode cX4_copyFrom 53 = .ok (.aload_n 1, 1) := by decide +kernel
theorem dX4_copyFrom_54 : decode cX4_copyFrom 54 = .ok (.getfield 33, 3) := by decide +kernel
theorem dX4_copyFrom_57 : decode cX4_copyFrom 57 = .ok (.putfield 33, 3) := by decide +kernel
theorem dX4_copyFrom_60 : decode cX4_copyFrom 60 = .ok (.aload_n 0, 1) := by decide +kernel
theorem dX4_copyFrom_61 : decode cX4_copyFrom 61 = .ok (.aload_n 1, 1) := by decide +kernel
theorem dX4_copyFrom_62 : decode cX4_copyFrom 62 = .ok (.getfield 36, 3) := by decide +kernel
theorem dX4_copyFrom_65 : decode cX4_copyFrom 65 = .ok (.putfield 36, 3) := by decide +kernel
theorem dX4_copyFrom_68 : decode cX4_copyFrom 68 = .ok (.aload_n 0, 1) := by decide +kernel
theorem dX4_copyFrom_69 : decode cX4_copyFrom 69 = .ok (.aload_n 1, 1) := by decide +kernel
theorem dX4_copyFrom_70 : decode cX4_copyFrom 70 = .ok (.getfield 39, 3) := by decide +kernel
theorem dX4_copyFrom_73 : decode cX4_copyFrom 73 = .ok (.putfield 39, 3) := by decide +kernel
theorem dX4_copyFrom_76 : decode cX4_copyFrom 76 = .ok (.aload_n 0, 1) := by decide +kernel
theorem dX4_copyFrom_77 : decode cX4_copyFrom 77 = .ok (.aload_n 1, 1) := by decide +kernel
theorem dX4_copyFrom_78 : decode cX4_copyFrom 78 = .ok (.getfield 42, 3) := by decide +kernel
theorem dX4_copyFrom_81 : decode cX4_copyFrom 81 = .ok (.putfield 42, 3) := by decide +kernel
theorem dX4_copyFrom_84 : decode cX4_copyFrom 84 = .ok (.return_, 1) := by decide +kernel
def mY_X4_copyFrom (N : Nat) (σ : ST) (x0 : Fin 6) (x1 : Fin 6) : Option (ST) :=
  zLet (σ (112 + (x1).val) 0) fun v2 =>
  zLet (σ (112 + (x1).val) 1) fun v6 =>
  zCallu (mY_X4_begin N σ x0 v2 v6) fun s9 =>
  zLet (s9 (112 + (x1).val) 2) fun v14 =>
  zLet (zUp s9 (12 + (x0).val) 2 v14) fun s17 =>
  zLet (s17 (112 + (x1).val) 3) fun v22 =>
  zLet (zUp s17 (12 + (x0).val) 3 v22) fun s25 =>
  zLet (s25 (112 + (x1).val) 4) fun v30 =>
  zLet (zUp s25 (12 + (x0).val) 4 v30) fun s33 =>
  zLet (s33 (112 + (x1).val) 5) fun v38 =>
  zLet (zUp s33 (12 + (x0).val) 5 v38) fun s41 =>
  zLet (s41 (112 + (x1).val) 6) fun v46 =>
  zLet (zUp s41 (12 + (x0).val) 6 v46) fun s49 =>
  zLet (s49 (112 + (x1).val) 7) fun v54 =>
  zLet (zUp s49 (12 + (x0).val) 7 v54) fun s57 =>
  zLet (s57 (112 + (x1).val) 8) fun v62 =>
  zLet (zUp s57 (12 + (x0).val) 8 v62) fun s65 =>
  zLet (s65 (112 + (x1).val) 9) fun v70 =>
  zLet (zUp s65 (12 + (x0).val) 9 v70) fun s73 =>
  zLet (s73 (112 + (x1).val) 10) fun v78 =>
  zLet (zUp s73 (12 + (x0).val) 10 v78) fun s81 =>
  some s81
set_option maxRecDepth 20000 in
set_option maxHeartbeats 2000000 in
theorem cY_X4_copyFrom {adr : Nat → Nat} {cI cZ cS : ClassId} {l : Launch} {D : va_G} {N : Nat} {σ : ST} {x0 : Fin 6} {x1 : Fin 6} (q : ST) (hf : mY_X4_copyFrom N σ x0 x1 = some q) : zM l D (wdY adr cI cZ cS) yX4_copyFrom cX4_copyFrom 2 none ({ frames := 1, cells := 0, slots := 0, locals := 22 }) [.ref (adr (12 + (x0).val)), .ref (adr (112 + (x1).val))] σ (zu q) := by
  refine zM_of sfY_ok rfl (Nat.le_of_ble_eq_true rfl) [(0, .ref (adr (12 + (x0).val))), (1, .ref (adr (112 + (x1).val)))] rfl (fun X hX1 hX2 B => ?_)
  have B : zC X 2 (wdY adr cI cZ cS) cX4_copyFrom RX4 none { frames := 1, cells := 0, slots := 0, locals := 22 } := B
  refine z_aload_n B dX4_copyFrom_0 0 rfl rfl ?_
  refine z_aload_n B dX4_copyFrom_1 1 rfl rfl ?_
  refine fY_g_X4_S2_number B x1 dX4_copyFrom_2 hf (fun v2 hf => ?_)
  refine z_aload_n B dX4_copyFrom_5 1 rfl rfl ?_
  refine fY_g_X4_S2_last B x1 dX4_copyFrom_6 hf (fun v6 hf => ?_)
  refine z_callVu B (As := [.int v2, .int v6]) kcV_X4_52 dX4_copyFrom_9 hf (fun q hq => cY_X4_begin q hq) (wY_o_S (adr := adr) (cI := cI) (cZ := cZ) (cS := cS) x0) rfl rfl rfl rfl (Nat.le_of_ble_eq_true rfl) rfl rfl ⟨Nat.le_of_ble_eq_true rfl, Nat.le_of_ble_eq_true rfl⟩ (fun s9 hf => ?_)
  refine z_aload_n B dX4_copyFrom_12 0 rfl rfl ?_
  refine z_aload_n B dX4_copyFrom_13 1 rfl rfl ?_
  refine fY_g_X4_S2_stride B x1 dX4_copyFrom_14 hf (fun v14 hf => ?_)
  refine fY_p_X4_S_stride B x0 dX4_copyFrom_17 hf (fun s17 hf => ?_)
  refine z_aload_n B dX4_copyFrom_20 0 rfl rfl ?_
  refine z_aload_n B dX4_copyFrom_21 1 rfl rfl ?_
  refine fY_g_X4_S2_proof B x1 dX4_copyFrom_22 hf (fun v22 hf => ?_)
  refine fY_p_X4_S_proof B x0 dX4_copyFrom_25 hf (fun s25 hf => ?_)
  refine z_aload_n B dX4_copyFrom_28 0 rfl rfl ?_
  refine z_aload_n B dX4_copyFrom_29 1 rfl rfl ?_
  refine fY_g_X4_S2_window B x1 dX4_copyFrom_30 hf (fun v30 hf => ?_)
  refine fY_p_X4_S_window B x0 dX4_copyFrom_33 hf (fun s33 hf => ?_)
  refine z_aload_n B dX4_copyFrom_36 0 rfl rfl ?_
  refine z_aload_n B dX4_copyFrom_37 1 rfl rfl ?_
  refine fY_g_X4_S2_edge B x1 dX4_copyFrom_38 hf (fun v38 hf => ?_)
  refine fY_p_X4_S_edge B x0 dX4_copyFrom_41 hf (fun s41 hf => ?_)
  refine z_aload_n B dX4_copyFrom_44 0 rfl rfl ?_
  refine z_aload_n B dX4_copyFrom_45 1 rfl rfl ?_
  refine fY_g_X4_S2_marker B x1 dX4_copyFrom_46 hf (fun v46 hf => ?_)
  refine fY_p_X4_S_marker B x0 dX4_copyFrom_49 hf (fun s49 hf => ?_)
  refine z_aload_n B dX4_copyFrom_52 0 rfl rfl ?_
  refine z_aload_n B dX4_copyFrom_53 1 rfl rfl ?_
  refine fY_g_X4_S2_used B x1 dX4_copyFrom_54 hf (fun v54 hf => ?_)
  refine fY_p_X4_S_used B x0 dX4_copyFrom_57 hf (fun s57 hf => ?_)
  refine z_aload_n B dX4_copyFrom_60 0 rfl rfl ?_
  refine z_aload_n B dX4_copyFrom_61 1 rfl rfl ?_
  refine fY_g_X4_S2_fetched B x1 dX4_copyFrom_62 hf (fun v62 hf => ?_)
  refine fY_p_X4_S_fetched B x0 dX4_copyFrom_65 hf (fun s65 hf => ?_)
  refine z_aload_n B dX4_copyFrom_68 0 rfl rfl ?_
  refine z_aload_n B dX4_copyFrom_69 1 rfl rfl ?_
  refine fY_g_X4_S2_hits B x1 dX4_copyFrom_70 hf (fun v70 hf => ?_)
  refine fY_p_X4_S_hits B x0 dX4_copyFrom_73 hf (fun s73 hf => ?_)
  refine z_aload_n B dX4_copyFrom_76 0 rfl rfl ?_
  refine z_aload_n B dX4_copyFrom_77 1 rfl rfl ?_
  refine fY_g_X4_S2_wasted B x1 dX4_copyFrom_78 hf (fun v78 hf => ?_)
  refine fY_p_X4_S_wasted B x0 dX4_copyFrom_81 hf (fun s81 hf => ?_)
  exact z_return B dX4_copyFrom_84 hf
theorem dX2_copyTerms_0 : decode cX2_copyTerms 0 = .ok (.aload_n 1, 1) := by decide +kernel
theorem dX2_copyTerms_1 : decode cX2_copyTerms 1 = .ok (.getfield 15, 3) := by decide +kernel
theorem dX2_copyTerms_4 : decode cX2_copyTerms 4 = .ok (.iconst 0, 1) := by decide +kernel
theorem dX2_copyTerms_5 : decode cX2_copyTerms 5 = .ok (.aload_n 0, 1) := by decide +kernel
theorem dX2_copyTerms_6 : decode cX2_copyTerms 6 = .ok (.getfield 15, 3) := by decide +kernel
theorem dX2_copyTerms_9 : decode cX2_copyTerms 9 = .ok (.iconst 0, 1) := by decide +kernel
theorem dX2_copyTerms_10 : decode cX2_copyTerms 10 = .ok (.bipush 10, 2) := by decide +kernel
theorem dX2_copyTerms_12 : decode cX2_copyTerms 12 = .ok (.invokestatic 22, 3) := by decide +kernel
theorem dX2_copyTerms_15 : decode cX2_copyTerms 15 = .ok (.return_, 1) := by decide +kernel
def mY_X2_copyTerms (N : Nat) (σ : ST) : Option (ST) :=
  zLet (va_up σ 1 (va_cpy (σ 101) (σ 1) ((0) : Int32).toNatClampNeg ((0) : Int32).toNatClampNeg ((10) : Int32).toNatClampNeg)) fun s12 =>
  some s12
set_option maxRecDepth 20000 in
set_option maxHeartbeats 2000000 in
theorem cY_X2_copyTerms {adr : Nat → Nat} {cI cZ cS : ClassId} {l : Launch} {D : va_G} {N : Nat} {σ : ST} (q : ST) (hf : mY_X2_copyTerms N σ = some q) : zM l D (wdY adr cI cZ cS) yX2_copyTerms cX2_copyTerms 2 none ({ frames := 1, cells := 0, slots := 0, locals := 18 }) [.ref (adr 0), .ref (adr 100)] σ (zu q) := by
  refine zM_of sfY_ok rfl (Nat.le_of_ble_eq_true rfl) [(0, .ref (adr 0)), (1, .ref (adr 100))] rfl (fun X hX1 hX2 B => ?_)
  have B : zC X 2 (wdY adr cI cZ cS) cX2_copyTerms RX2 none { frames := 1, cells := 0, slots := 0, locals := 18 } := B
  refine z_aload_n B dX2_copyTerms_0 1 rfl rfl ?_
  refine fY_g_X2_E2_terms B dX2_copyTerms_1 ?_
  refine z_iconst B (0) dX2_copyTerms_4 zc_iconst_0 ?_
  refine z_aload_n B dX2_copyTerms_5 0 rfl rfl ?_
  refine fY_g_X2_E_terms B dX2_copyTerms_6 ?_
  refine z_iconst B (0) dX2_copyTerms_9 zc_iconst_0 ?_
  refine z_bipush B (10) dX2_copyTerms_10 zc_bipush_10 ?_
  refine z_copy B (t0 := 0) (t1 := 0) kw_100 kaN kaS kaI wY_g_E2_terms wY_g_E_terms wY_s_E_terms rfl rfl (by decide) (by decide) (by decide) (by decide) (by decide) (Nat.le_of_ble_eq_true rfl) (Nat.le_of_ble_eq_true rfl) dX2_copyTerms_12 hf (fun s12 hf => ?_)
  exact z_return B dX2_copyTerms_15 hf
def mY_X0_mark_18 (N : Nat) (σ : ST) (x1 : Int32) (x2 : Int32) : Option (ST) :=
  some σ
set_option maxRecDepth 20000 in
set_option maxHeartbeats 2000000 in
theorem tY_X0_mark_18 {adr : Nat → Nat} {cI cZ cS : ClassId} {X : zX} {q : ST} (B : zC X 3 (wdY adr cI cZ cS) cX0_mark RX0 none { frames := 0, cells := 0, slots := 0, locals := 0 }) (N : Nat) (σ : ST) (x1 : Int32) (x2 : Int32) (hf : mY_X0_mark_18 N σ x1 x2 = some q) : zJ X 3 (wdY adr cI cZ cS) (zu q) 18 [(0, .ref (adr 3)), (1, .int x1), (2, .int x2)] [] σ := by
  exact z_return B dX0_mark_18 hf
def mY_X0_mark (N : Nat) (σ : ST) (x1 : Int32) (x2 : Int32) : Option (ST) :=
  if (x1 : Int32) < 0 then
    mY_X0_mark_18 N σ x1 x2
  else
    if ((10000) : Int32) ≤ x1 then
      mY_X0_mark_18 N σ x1 x2
    else
      zSet σ 10 10000 x1 x2 fun s17 =>
      mY_X0_mark_18 N s17 x1 x2
set_option maxRecDepth 20000 in
set_option maxHeartbeats 2000000 in
theorem cY_X0_mark {adr : Nat → Nat} {cI cZ cS : ClassId} {l : Launch} {D : va_G} {N : Nat} {σ : ST} {x1 : Int32} {x2 : Int32} (q : ST) (hf : mY_X0_mark N σ x1 x2 = some q) : zM l D (wdY adr cI cZ cS) yX0_mark cX0_mark 3 none ({ frames := 0, cells := 0, slots := 0, locals := 0 }) [.ref (adr 3), .int x1, .int x2] σ (zu q) := by
  refine zM_of sfY_ok rfl (Nat.le_of_ble_eq_true rfl) [(0, .ref (adr 3)), (1, .int x1), (2, .int x2)] rfl (fun X hX1 hX2 B => ?_)
  have B : zC X 3 (wdY adr cI cZ cS) cX0_mark RX0 none { frames := 0, cells := 0, slots := 0, locals := 0 } := B
  refine z_iload_n B dX0_mark_0 1 rfl rfl ?_
  refine z_if_lt B 18 dX0_mark_1 (by decide) hf (fun hf => ?_) (fun hf => ?_)
  · exact tY_X0_mark_18 B N σ x1 x2 hf
  · refine z_iload_n B dX0_mark_4 1 rfl rfl ?_
    refine z_sipush B (10000) dX0_mark_5 zc_sipush_10000 ?_
    refine z_icmp_ge B 18 dX0_mark_8 (by decide) hf (fun hf => ?_) (fun hf => ?_)
    · exact tY_X0_mark_18 B N σ x1 x2 hf
    · refine z_aload_n B dX0_mark_11 0 rfl rfl ?_
      refine fY_g_X0_C_where B dX0_mark_12 ?_
      refine z_iload_n B dX0_mark_15 1 rfl rfl ?_
      refine z_iload_n B dX0_mark_16 2 rfl rfl ?_
      refine fY_s_C_where B dX0_mark_17 hf (fun s17 hf => ?_)
      exact tY_X0_mark_18 B N s17 x1 x2 hf
def mY_X0_clear_B2 (N : Nat) (hd2 : ST → Int32 → Option (ST)) (σ : ST) (x1 : Int32) : Option (ST) :=
  zLet (σ 3 7) fun v4 =>
  if (v4 : Int32) ≤ x1 then
    zLet (zUp σ 3 7 (0)) fun s29 =>
    zLet (zUp s29 3 8 (0)) fun s34 =>
    zLet (zUp s34 3 9 (0)) fun s39 =>
    some s39
  else
    zGet (σ 4) 64 x1 fun v16 =>
    zCallu (mY_X0_mark N σ v16 (0)) fun s18 =>
    zLet (x1 + (1)) fun v21 =>
    hd2 s18 v21
def mY_X0_clear_2 (N : Nat) : ST → Int32 → Option (ST) := zIt (mY_X0_clear_B2 N) (fun _ _ => none) N
set_option maxRecDepth 20000 in
set_option maxHeartbeats 2000000 in
theorem tY_X0_clear_2 {adr : Nat → Nat} {cI cZ cS : ClassId} {X : zX} {q : ST} (B : zC X 2 (wdY adr cI cZ cS) cX0_clear RX0 none { frames := 1, cells := 0, slots := 0, locals := 22 }) (N : Nat) : ∀ (σ : ST) (x1 : Int32), mY_X0_clear_2 N σ x1 = some q → zJ X 2 (wdY adr cI cZ cS) (zu q) 2 [(0, .ref (adr 3)), (1, .int x1)] [] σ := by
  refine zIt_ind (P := fun (hd : ST → Int32 → Option (ST)) => ∀ (σ : ST) (x1 : Int32), hd σ x1 = some q → zJ X 2 (wdY adr cI cZ cS) (zu q) 2 [(0, .ref (adr 3)), (1, .int x1)] [] σ) (fun _ _ hf => by cases hf) (fun hd2 hh2 => ?_) N
  intro σ x1 hf
  refine z_iload_n B dX0_clear_2 1 rfl rfl ?_
  refine z_aload_n B dX0_clear_3 0 rfl rfl ?_
  refine fY_g_X0_C_size B dX0_clear_4 hf (fun v4 hf => ?_)
  refine z_icmp_ge B 27 dX0_clear_7 (by decide) hf (fun hf => ?_) (fun hf => ?_)
  · refine z_aload_n B dX0_clear_27 0 rfl rfl ?_
    refine z_iconst B (0) dX0_clear_28 zc_iconst_0 ?_
    refine fY_p_X0_C_size B dX0_clear_29 hf (fun s29 hf => ?_)
    refine z_aload_n B dX0_clear_32 0 rfl rfl ?_
    refine z_iconst B (0) dX0_clear_33 zc_iconst_0 ?_
    refine fY_p_X0_C_waitingSize B dX0_clear_34 hf (fun s34 hf => ?_)
    refine z_aload_n B dX0_clear_37 0 rfl rfl ?_
    refine z_iconst B (0) dX0_clear_38 zc_iconst_0 ?_
    refine fY_p_X0_C_stamp B dX0_clear_39 hf (fun s39 hf => ?_)
    exact z_return B dX0_clear_42 hf
  · refine z_aload_n B dX0_clear_10 0 rfl rfl ?_
    refine z_aload_n B dX0_clear_11 0 rfl rfl ?_
    refine fY_g_X0_C_blocks B dX0_clear_12 ?_
    refine z_iload_n B dX0_clear_15 1 rfl rfl ?_
    refine fY_l_C_blocks B dX0_clear_16 hf (fun v16 hf => ?_)
    refine z_iconst B (0) dX0_clear_17 zc_iconst_0 ?_
    refine z_callVu B (As := [.int v16, .int (0)]) kcV_X0_44 dX0_clear_18 hf (fun q hq => cY_X0_mark q hq) (wY_o_C (adr := adr) (cI := cI) (cZ := cZ) (cS := cS)) rfl rfl rfl rfl (Nat.le_of_ble_eq_true rfl) rfl rfl ⟨Nat.le_of_ble_eq_true rfl, Nat.le_of_ble_eq_true rfl⟩ (fun s18 hf => ?_)
    refine z_iinc B (1) 1 (fun v21 => [(1, .int v21), (0, .ref (adr 3))]) dX0_clear_21 hf zc_iconst_1 rfl (Nat.le_of_ble_eq_true rfl) (fun _ => rfl) (fun v21 hf => ?_)
    refine z_goto B 2 dX0_clear_24 (by decide) ?_
    exact z_loc [1, 0] _ rfl (hh2 s18 v21 hf)
def mY_X0_clear (N : Nat) (σ : ST) : Option (ST) :=
  mY_X0_clear_2 N σ (0)
set_option maxRecDepth 20000 in
set_option maxHeartbeats 2000000 in
theorem cY_X0_clear {adr : Nat → Nat} {cI cZ cS : ClassId} {l : Launch} {D : va_G} {N : Nat} {σ : ST} (q : ST) (hf : mY_X0_clear N σ = some q) : zM l D (wdY adr cI cZ cS) yX0_clear cX0_clear 2 none ({ frames := 1, cells := 0, slots := 0, locals := 22 }) [.ref (adr 3)] σ (zu q) := by
  refine zM_of sfY_ok rfl (Nat.le_of_ble_eq_true rfl) [(0, .ref (adr 3))] rfl (fun X hX1 hX2 B => ?_)
  have B : zC X 2 (wdY adr cI cZ cS) cX0_clear RX0 none { frames := 1, cells := 0, slots := 0, locals := 22 } := B
  refine z_iconst B (0) dX0_clear_0 zc_iconst_0 ?_
  refine z_istore_n B [(1, .int (0)), (0, .ref (adr 3))] dX0_clear_1 rfl (Nat.le_of_ble_eq_true rfl) rfl ?_
  exact z_loc [1, 0] _ rfl (tY_X0_clear_2 B N σ (0) hf)
theorem dX0_copyFrom_0 : decode cX0_copyFrom 0 = .ok (.aload_n 0, 1) := by decide +kernel
theorem dX0_copyFrom_1 : decode cX0_copyFrom 1 = .ok (.invokevirtual 77, 3) := by decide +kernel
theorem dX0_copyFrom_4 : decode cX0_copyFrom 4 = .ok (.aload_n 0, 1) := by decide +kernel
theorem dX0_copyFrom_5 : decode cX0_copyFrom 5 = .ok (.aload_n 1, 1) := by decide +kernel
theorem dX0_copyFrom_6 : decode cX0_copyFrom 6 = .ok (.getfield 34, 3) := by decide +kernel
theorem dX0_copyFrom_9 : decode cX0_copyFrom 9 = .ok (.putfield 34, 3) := by decide +kernel
theorem dX0_copyFrom_12 : decode cX0_copyFrom 12 = .ok (.aload_n 0, 1) := by decide +kernel
theorem dX0_copyFrom_13 : decode cX0_copyFrom 13 = .ok (.aload_n 1, 1) := by decide +kernel
theorem dX0_copyFrom_14 : decode cX0_copyFrom 14 = .ok (.getfield 41, 3) := by decide +kernel
theorem dX0_copyFrom_17 : decode cX0_copyFrom 17 = .ok (.putfield 41, 3) := by decide +kernel
theorem dX0_copyFrom_20 : decode cX0_copyFrom 20 = .ok (.aload_n 0, 1) := by decide +kernel
theorem dX0_copyFrom_21 : decode cX0_copyFrom 21 = .ok (.aload_n 1, 1) := by decide +kernel
theorem dX0_copyFrom_22 : decode cX0_copyFrom 22 = .ok (.getfield 38, 3) := by decide +kernel
theorem dX0_copyFrom_25 : decode cX0_copyFrom 25 = .ok (.putfield 38, 3) := by decide +kernel
theorem dX0_copyFrom_28 : decode cX0_copyFrom 28 = .ok (.aload_n 1, 1) := by decide +kernel
theorem dX0_copyFrom_29 : decode cX0_copyFrom 29 = .ok (.getfield 9, 3) := by decide +kernel
theorem dX0_copyFrom_32 : decode cX0_copyFrom 32 = .ok (.iconst 0, 1) := by decide +kernel
theorem dX0_copyFrom_33 : decode cX0_copyFrom 33 = .ok (.aload_n 0, 1) := by decide +kernel
theorem dX0_copyFrom_34 : decode cX0_copyFrom 34 = .ok (.getfield 9, 3) := by decide +kernel
theorem dX0_copyFrom_37 : decode cX0_copyFrom 37 = .ok (.iconst 0, 1) := by decide +kernel
theorem dX0_copyFrom_38 : decode cX0_copyFrom 38 = .ok (.bipush 64, 2) := by decide +kernel
theorem dX0_copyFrom_40 : decode cX0_copyFrom 40 = .ok (.invokestatic 80, 3) := by decide +kernel
theorem dX0_copyFrom_43 : decode cX0_copyFrom 43 = .ok (.aload_n 1, 1) := by decide +kernel
theorem dX0_copyFrom_44 : decode cX0_copyFrom 44 = .ok (.getfield 15, 3) := by decide +kernel
theorem dX0_copyFrom_47 : decode cX0_copyFrom 47 = .ok (.iconst 0, 1) := by decide +kernel
theorem dX0_copyFrom_48 : decode cX0_copyFrom 48 = .ok (.aload_n 0, 1) := by decide +kernel
theorem dX0_copyFrom_49 : decode cX0_copyFrom 49 = .ok (.getfield 15, 3) := by decide +kernel
theorem dX0_copyFrom_52 : decode cX0_copyFrom 52 = .ok (.iconst 0, 1) := by decide +kernel
theorem dX0_copyFrom_53 : decode cX0_copyFrom 53 = .ok (.bipush 64, 2) := by decide +kernel
theorem dX0_copyFrom_55 : decode cX0_copyFrom 55 = .ok (.invokestatic 80, 3) := by decide +kernel
theorem dX0_copyFrom_58 : decode cX0_copyFrom 58 = .ok (.aload_n 1, 1) := by decide +kernel
theorem dX0_copyFrom_59 : decode cX0_copyFrom 59 = .ok (.getfield 18, 3) := by decide +kernel
theorem dX0_copyFrom_62 : decode cX0_copyFrom 62 = .ok (.iconst 0, 1) := by decide +kernel
theorem dX0_copyFrom_63 : decode cX0_copyFrom 63 = .ok (.aload_n 0, 1) := by decide +kernel
theorem dX0_copyFrom_64 : decode cX0_copyFrom 64 = .ok (.getfield 18, 3) := by decide +kernel
theorem dX0_copyFrom_67 : decode cX0_copyFrom 67 = .ok (.iconst 0, 1) := by decide +kernel
theorem dX0_copyFrom_68 : decode cX0_copyFrom 68 = .ok (.bipush 64, 2) := by decide +kernel
theorem dX0_copyFrom_70 : decode cX0_copyFrom 70 = .ok (.invokestatic 80, 3) := by decide +kernel
theorem dX0_copyFrom_73 : decode cX0_copyFrom 73 = .ok (.aload_n 1, 1) := by decide +kernel
theorem dX0_copyFrom_74 : decode cX0_copyFrom 74 = .ok (.getfield 21, 3) := by decide +kernel
theorem dX0_copyFrom_77 : decode cX0_copyFrom 77 = .ok (.iconst 0, 1) := by decide +kernel
theorem dX0_copyFrom_78 : decode cX0_copyFrom 78 = .ok (.aload_n 0, 1) := by decide +kernel
theorem dX0_copyFrom_79 : decode cX0_copyFrom 79 = .ok (.getfield 21, 3) := by decide +kernel
theorem dX0_copyFrom_82 : decode cX0_copyFrom 82 = .ok (.iconst 0, 1) := by decide +kernel
theorem dX0_copyFrom_83 : decode cX0_copyFrom 83 = .ok (.bipush 64, 2) := by decide +kernel
theorem dX0_copyFrom_85 : decode cX0_copyFrom 85 = .ok (.invokestatic 80, 3) := by decide +kernel
theorem dX0_copyFrom_88 : decode cX0_copyFrom 88 = .ok (.aload_n 1, 1) := by decide +kernel
theorem dX0_copyFrom_89 : decode cX0_copyFrom 89 = .ok (.getfield 24, 3) := by decide +kernel
theorem dX0_copyFrom_92 : decode cX0_copyFrom 92 = .ok (.iconst 0, 1) := by decide +kernel
theorem dX0_copyFrom_93 : decode cX0_copyFrom 93 = .ok (.aload_n 0, 1) := by decide +kernel
theorem dX0_copyFrom_94 : decode cX0_copyFrom 94 = .ok (.getfield 24, 3) := by decide +kernel
theorem dX0_copyFrom_97 : decode cX0_copyFrom 97 = .ok (.iconst 0, 1) := by decide +kernel
theorem dX0_copyFrom_98 : decode cX0_copyFrom 98 = .ok (.bipush 64, 2) := by decide +kernel
theorem dX0_copyFrom_100 : decode cX0_copyFrom 100 = .ok (.invokestatic 80, 3) := by decide +kernel
theorem dX0_copyFrom_103 : decode cX0_copyFrom 103 = .ok (.iconst 0, 1) := by decide +kernel
theorem dX0_copyFrom_104 : decode cX0_copyFrom 104 = .ok (.istore_n 2, 1) := by decide +kernel
theorem dX0_copyFrom_105 : decode cX0_copyFrom 105 = .ok (.iload_n 2, 1) := by decide +kernel
theorem dX0_copyFrom_106 : decode cX0_copyFrom 106 = .ok (.aload_n 0, 1) := by decide +kernel
theorem dX0_copyFrom_107 : decode cX0_copyFrom 107 = .ok (.getfield 34, 3) := by decide +kernel
theorem dX0_copyFrom_110 : decode cX0_copyFrom 110 = .ok (.if_icmp .ge 40, 3) := by decide +kernel
theorem dX0_copyFrom_113 : decode cX0_copyFrom 113 = .ok (.iload_n 2, 1) := by decide +kernel
theorem dX0_copyFrom_114 : decode cX0_copyFrom 114 = .ok (.bipush 64, 2) := by decide +kernel
theorem dX0_copyFrom_116 : decode cX0_copyFrom 116 = .ok (.if_icmp .ge 34, 3) := by decide +kernel
theorem dX0_copyFrom_119 : decode cX0_copyFrom 119 = .ok (.aload_n 0, 1) := by decide +kernel
theorem dX0_copyFrom_120 : decode cX0_copyFrom 120 = .ok (.getfield 27, 3) := by decide +kernel
theorem dX0_copyFrom_123 : decode cX0_copyFrom 123 = .ok (.iload_n 2, 1) := by decide +kernel
theorem dX0_copyFrom_124 : decode cX0_copyFrom 124 = .ok (.aload_n 1, 1) := by decide +kernel
theorem dX0_copyFrom_125 : decode cX0_copyFrom 125 = .ok (.getfield 27, 3) := by decide +kernel
theorem dX0_copyFrom_128 : decode cX0_copyFrom 128 = .ok (.iload_n 2, 1) := by decide +kernel
theorem dX0_copyFrom_129 : decode cX0_copyFrom 129 = .ok (.baload, 1) := by decide +kernel
theorem dX0_copyFrom_130 : decode cX0_copyFrom 130 = .ok (.bastore, 1) := by decide +kernel
theorem dX0_copyFrom_131 : decode cX0_copyFrom 131 = .ok (.aload_n 0, 1) := by decide +kernel
theorem dX0_copyFrom_132 : decode cX0_copyFrom 132 = .ok (.aload_n 0, 1) := by decide +kernel
theorem dX0_copyFrom_133 : decode cX0_copyFrom 133 = .ok (.getfield 9, 3) := by decide +kernel
theorem dX0_copyFrom_136 : decode cX0_copyFrom 136 = .ok (.iload_n 2, 1) := by decide +kernel
theorem dX0_copyFrom_137 : decode cX0_copyFrom 137 = .ok (.iaload, 1) := by decide +kernel
theorem dX0_copyFrom_138 : decode cX0_copyFrom 138 = .ok (.iload_n 2, 1) := by decide +kernel
theorem dX0_copyFrom_139 : decode cX0_copyFrom 139 = .ok (.iconst 1, 1) := by decide +kernel
theorem dX0_copyFrom_140 : decode cX0_copyFrom 140 = .ok (.iadd, 1) := by decide +kernel
theorem dX0_copyFrom_141 : decode cX0_copyFrom 141 = .ok (.invokevirtual 44, 3) := by decide +kernel
theorem dX0_copyFrom_144 : decode cX0_copyFrom 144 = .ok (.iinc 2 1, 3) := by decide +kernel
theorem dX0_copyFrom_147 : decode cX0_copyFrom 147 = .ok (.goto (-42), 3) := by decide +kernel
theorem dX0_copyFrom_150 : decode cX0_copyFrom 150 = .ok (.return_, 1) := by decide +kernel
def mY_X0_copyFrom_150 (N : Nat) (σ : ST) (x2 : Int32) : Option (ST) :=
  some σ
set_option maxRecDepth 20000 in
set_option maxHeartbeats 2000000 in
theorem tY_X0_copyFrom_150 {adr : Nat → Nat} {cI cZ cS : ClassId} {X : zX} {q : ST} (B : zC X 3 (wdY adr cI cZ cS) cX0_copyFrom RX0 none { frames := 2, cells := 0, slots := 0, locals := 43 }) (N : Nat) (σ : ST) (x2 : Int32) (hf : mY_X0_copyFrom_150 N σ x2 = some q) : zJ X 3 (wdY adr cI cZ cS) (zu q) 150 [(0, .ref (adr 3)), (1, .ref (adr 103)), (2, .int x2)] [] σ := by
  exact z_return B dX0_copyFrom_150 hf
def mY_X0_copyFrom_B105 (N : Nat) (hd105 : ST → Int32 → Option (ST)) (σ : ST) (x2 : Int32) : Option (ST) :=
  zLet (σ 3 7) fun v107 =>
  if (v107 : Int32) ≤ x2 then
    mY_X0_copyFrom_150 N σ x2
  else
    if ((64) : Int32) ≤ x2 then
      mY_X0_copyFrom_150 N σ x2
    else
      zGet (σ 109) 64 x2 fun v129 =>
      zSet σ 9 64 x2 (vp_nar .boolean v129) fun s130 =>
      zGet (s130 4) 64 x2 fun v137 =>
      zLet ((x2 : Int32) + (1)) fun v140 =>
      zCallu (mY_X0_mark N s130 v137 v140) fun s141 =>
      zLet (x2 + (1)) fun v144 =>
      hd105 s141 v144
def mY_X0_copyFrom_105 (N : Nat) : ST → Int32 → Option (ST) := zIt (mY_X0_copyFrom_B105 N) (fun _ _ => none) N
set_option maxRecDepth 20000 in
set_option maxHeartbeats 2000000 in
theorem tY_X0_copyFrom_105 {adr : Nat → Nat} {cI cZ cS : ClassId} {X : zX} {q : ST} (B : zC X 3 (wdY adr cI cZ cS) cX0_copyFrom RX0 none { frames := 2, cells := 0, slots := 0, locals := 43 }) (N : Nat) : ∀ (σ : ST) (x2 : Int32), mY_X0_copyFrom_105 N σ x2 = some q → zJ X 3 (wdY adr cI cZ cS) (zu q) 105 [(0, .ref (adr 3)), (1, .ref (adr 103)), (2, .int x2)] [] σ := by
  refine zIt_ind (P := fun (hd : ST → Int32 → Option (ST)) => ∀ (σ : ST) (x2 : Int32), hd σ x2 = some q → zJ X 3 (wdY adr cI cZ cS) (zu q) 105 [(0, .ref (adr 3)), (1, .ref (adr 103)), (2, .int x2)] [] σ) (fun _ _ hf => by cases hf) (fun hd105 hh105 => ?_) N
  intro σ x2 hf
  refine z_iload_n B dX0_copyFrom_105 2 rfl rfl ?_
  refine z_aload_n B dX0_copyFrom_106 0 rfl rfl ?_
  refine fY_g_X0_C_size B dX0_copyFrom_107 hf (fun v107 hf => ?_)
  refine z_icmp_ge B 150 dX0_copyFrom_110 (by decide) hf (fun hf => ?_) (fun hf => ?_)
  · exact tY_X0_copyFrom_150 B N σ x2 hf
  · refine z_iload_n B dX0_copyFrom_113 2 rfl rfl ?_
    refine z_bipush B (64) dX0_copyFrom_114 zc_bipush_64 ?_
    refine z_icmp_ge B 150 dX0_copyFrom_116 (by decide) hf (fun hf => ?_) (fun hf => ?_)
    · exact tY_X0_copyFrom_150 B N σ x2 hf
    · refine z_aload_n B dX0_copyFrom_119 0 rfl rfl ?_
      refine fY_g_X0_C_waiting B dX0_copyFrom_120 ?_
      refine z_iload_n B dX0_copyFrom_123 2 rfl rfl ?_
      refine z_aload_n B dX0_copyFrom_124 1 rfl rfl ?_
      refine fY_g_X0_C2_waiting B dX0_copyFrom_125 ?_
      refine z_iload_n B dX0_copyFrom_128 2 rfl rfl ?_
      refine fY_l_C2_waiting B dX0_copyFrom_129 hf (fun v129 hf => ?_)
      refine fY_s_C_waiting B dX0_copyFrom_130 hf (fun s130 hf => ?_)
      refine z_aload_n B dX0_copyFrom_131 0 rfl rfl ?_
      refine z_aload_n B dX0_copyFrom_132 0 rfl rfl ?_
      refine fY_g_X0_C_blocks B dX0_copyFrom_133 ?_
      refine z_iload_n B dX0_copyFrom_136 2 rfl rfl ?_
      refine fY_l_C_blocks B dX0_copyFrom_137 hf (fun v137 hf => ?_)
      refine z_iload_n B dX0_copyFrom_138 2 rfl rfl ?_
      refine z_iconst B (1) dX0_copyFrom_139 zc_iconst_1 ?_
      refine z_iadd B dX0_copyFrom_140 hf (fun v140 hf => ?_)
      refine z_callVu B (As := [.int v137, .int v140]) kcV_X0_44 dX0_copyFrom_141 hf (fun q hq => cY_X0_mark q hq) (wY_o_C (adr := adr) (cI := cI) (cZ := cZ) (cS := cS)) rfl rfl rfl rfl (Nat.le_of_ble_eq_true rfl) rfl rfl ⟨Nat.le_of_ble_eq_true rfl, Nat.le_of_ble_eq_true rfl⟩ (fun s141 hf => ?_)
      refine z_iinc B (1) 2 (fun v144 => [(2, .int v144), (0, .ref (adr 3)), (1, .ref (adr 103))]) dX0_copyFrom_144 hf zc_iconst_1 rfl (Nat.le_of_ble_eq_true rfl) (fun _ => rfl) (fun v144 hf => ?_)
      refine z_goto B 105 dX0_copyFrom_147 (by decide) ?_
      exact z_loc [1, 2, 0] _ rfl (hh105 s141 v144 hf)
def mY_X0_copyFrom (N : Nat) (σ : ST) : Option (ST) :=
  zCallu (mY_X0_clear N σ) fun s1 =>
  zLet (s1 103 7) fun v6 =>
  zLet (zUp s1 3 7 v6) fun s9 =>
  zLet (s9 103 8) fun v14 =>
  zLet (zUp s9 3 8 v14) fun s17 =>
  zLet (s17 103 9) fun v22 =>
  zLet (zUp s17 3 9 v22) fun s25 =>
  zLet (va_up s25 4 (va_cpy (s25 104) (s25 4) ((0) : Int32).toNatClampNeg ((0) : Int32).toNatClampNeg ((64) : Int32).toNatClampNeg)) fun s40 =>
  zLet (va_up s40 5 (va_cpy (s40 105) (s40 5) ((0) : Int32).toNatClampNeg ((0) : Int32).toNatClampNeg ((64) : Int32).toNatClampNeg)) fun s55 =>
  zLet (va_up s55 6 (va_cpy (s55 106) (s55 6) ((0) : Int32).toNatClampNeg ((0) : Int32).toNatClampNeg ((64) : Int32).toNatClampNeg)) fun s70 =>
  zLet (va_up s70 7 (va_cpy (s70 107) (s70 7) ((0) : Int32).toNatClampNeg ((0) : Int32).toNatClampNeg ((64) : Int32).toNatClampNeg)) fun s85 =>
  zLet (va_up s85 8 (va_cpy (s85 108) (s85 8) ((0) : Int32).toNatClampNeg ((0) : Int32).toNatClampNeg ((64) : Int32).toNatClampNeg)) fun s100 =>
  mY_X0_copyFrom_105 N s100 (0)
set_option maxRecDepth 20000 in
set_option maxHeartbeats 2000000 in
theorem cY_X0_copyFrom {adr : Nat → Nat} {cI cZ cS : ClassId} {l : Launch} {D : va_G} {N : Nat} {σ : ST} (q : ST) (hf : mY_X0_copyFrom N σ = some q) : zM l D (wdY adr cI cZ cS) yX0_copyFrom cX0_copyFrom 3 none ({ frames := 2, cells := 0, slots := 0, locals := 43 }) [.ref (adr 3), .ref (adr 103)] σ (zu q) := by
  refine zM_of sfY_ok rfl (Nat.le_of_ble_eq_true rfl) [(0, .ref (adr 3)), (1, .ref (adr 103))] rfl (fun X hX1 hX2 B => ?_)
  have B : zC X 3 (wdY adr cI cZ cS) cX0_copyFrom RX0 none { frames := 2, cells := 0, slots := 0, locals := 43 } := B
  refine z_aload_n B dX0_copyFrom_0 0 rfl rfl ?_
  refine z_callVu B (As := []) kcV_X0_77 dX0_copyFrom_1 hf (fun q hq => cY_X0_clear q hq) (wY_o_C (adr := adr) (cI := cI) (cZ := cZ) (cS := cS)) rfl rfl rfl rfl (Nat.le_of_ble_eq_true rfl) rfl rfl ⟨Nat.le_of_ble_eq_true rfl, Nat.le_of_ble_eq_true rfl⟩ (fun s1 hf => ?_)
  refine z_aload_n B dX0_copyFrom_4 0 rfl rfl ?_
  refine z_aload_n B dX0_copyFrom_5 1 rfl rfl ?_
  refine fY_g_X0_C2_size B dX0_copyFrom_6 hf (fun v6 hf => ?_)
  refine fY_p_X0_C_size B dX0_copyFrom_9 hf (fun s9 hf => ?_)
  refine z_aload_n B dX0_copyFrom_12 0 rfl rfl ?_
  refine z_aload_n B dX0_copyFrom_13 1 rfl rfl ?_
  refine fY_g_X0_C2_waitingSize B dX0_copyFrom_14 hf (fun v14 hf => ?_)
  refine fY_p_X0_C_waitingSize B dX0_copyFrom_17 hf (fun s17 hf => ?_)
  refine z_aload_n B dX0_copyFrom_20 0 rfl rfl ?_
  refine z_aload_n B dX0_copyFrom_21 1 rfl rfl ?_
  refine fY_g_X0_C2_stamp B dX0_copyFrom_22 hf (fun v22 hf => ?_)
  refine fY_p_X0_C_stamp B dX0_copyFrom_25 hf (fun s25 hf => ?_)
  refine z_aload_n B dX0_copyFrom_28 1 rfl rfl ?_
  refine fY_g_X0_C2_blocks B dX0_copyFrom_29 ?_
  refine z_iconst B (0) dX0_copyFrom_32 zc_iconst_0 ?_
  refine z_aload_n B dX0_copyFrom_33 0 rfl rfl ?_
  refine fY_g_X0_C_blocks B dX0_copyFrom_34 ?_
  refine z_iconst B (0) dX0_copyFrom_37 zc_iconst_0 ?_
  refine z_bipush B (64) dX0_copyFrom_38 zc_bipush_64 ?_
  refine z_copy B (t0 := 0) (t1 := 0) kw_617 kaN kaS kaI wY_g_C2_blocks wY_g_C_blocks wY_s_C_blocks rfl rfl (by decide) (by decide) (by decide) (by decide) (by decide) (Nat.le_of_ble_eq_true rfl) (Nat.le_of_ble_eq_true rfl) dX0_copyFrom_40 hf (fun s40 hf => ?_)
  refine z_aload_n B dX0_copyFrom_43 1 rfl rfl ?_
  refine fY_g_X0_C2_stamps B dX0_copyFrom_44 ?_
  refine z_iconst B (0) dX0_copyFrom_47 zc_iconst_0 ?_
  refine z_aload_n B dX0_copyFrom_48 0 rfl rfl ?_
  refine fY_g_X0_C_stamps B dX0_copyFrom_49 ?_
  refine z_iconst B (0) dX0_copyFrom_52 zc_iconst_0 ?_
  refine z_bipush B (64) dX0_copyFrom_53 zc_bipush_64 ?_
  refine z_copy B (t0 := 0) (t1 := 0) kw_617 kaN kaS kaI wY_g_C2_stamps wY_g_C_stamps wY_s_C_stamps rfl rfl (by decide) (by decide) (by decide) (by decide) (by decide) (Nat.le_of_ble_eq_true rfl) (Nat.le_of_ble_eq_true rfl) dX0_copyFrom_55 hf (fun s55 hf => ?_)
  refine z_aload_n B dX0_copyFrom_58 1 rfl rfl ?_
  refine fY_g_X0_C2_touched B dX0_copyFrom_59 ?_
  refine z_iconst B (0) dX0_copyFrom_62 zc_iconst_0 ?_
  refine z_aload_n B dX0_copyFrom_63 0 rfl rfl ?_
  refine fY_g_X0_C_touched B dX0_copyFrom_64 ?_
  refine z_iconst B (0) dX0_copyFrom_67 zc_iconst_0 ?_
  refine z_bipush B (64) dX0_copyFrom_68 zc_bipush_64 ?_
  refine z_copy B (t0 := 0) (t1 := 0) kw_617 kaN kaS kaI wY_g_C2_touched wY_g_C_touched wY_s_C_touched rfl rfl (by decide) (by decide) (by decide) (by decide) (by decide) (Nat.le_of_ble_eq_true rfl) (Nat.le_of_ble_eq_true rfl) dX0_copyFrom_70 hf (fun s70 hf => ?_)
  refine z_aload_n B dX0_copyFrom_73 1 rfl rfl ?_
  refine fY_g_X0_C2_owners B dX0_copyFrom_74 ?_
  refine z_iconst B (0) dX0_copyFrom_77 zc_iconst_0 ?_
  refine z_aload_n B dX0_copyFrom_78 0 rfl rfl ?_
  refine fY_g_X0_C_owners B dX0_copyFrom_79 ?_
  refine z_iconst B (0) dX0_copyFrom_82 zc_iconst_0 ?_
  refine z_bipush B (64) dX0_copyFrom_83 zc_bipush_64 ?_
  refine z_copy B (t0 := 0) (t1 := 0) kw_617 kaN kaS kaI wY_g_C2_owners wY_g_C_owners wY_s_C_owners rfl rfl (by decide) (by decide) (by decide) (by decide) (by decide) (Nat.le_of_ble_eq_true rfl) (Nat.le_of_ble_eq_true rfl) dX0_copyFrom_85 hf (fun s85 hf => ?_)
  refine z_aload_n B dX0_copyFrom_88 1 rfl rfl ?_
  refine fY_g_X0_C2_fetchedAt B dX0_copyFrom_89 ?_
  refine z_iconst B (0) dX0_copyFrom_92 zc_iconst_0 ?_
  refine z_aload_n B dX0_copyFrom_93 0 rfl rfl ?_
  refine fY_g_X0_C_fetchedAt B dX0_copyFrom_94 ?_
  refine z_iconst B (0) dX0_copyFrom_97 zc_iconst_0 ?_
  refine z_bipush B (64) dX0_copyFrom_98 zc_bipush_64 ?_
  refine z_copy B (t0 := 0) (t1 := 0) kw_617 kaN kaS kaI wY_g_C2_fetchedAt wY_g_C_fetchedAt wY_s_C_fetchedAt rfl rfl (by decide) (by decide) (by decide) (by decide) (by decide) (Nat.le_of_ble_eq_true rfl) (Nat.le_of_ble_eq_true rfl) dX0_copyFrom_100 hf (fun s100 hf => ?_)
  refine z_iconst B (0) dX0_copyFrom_103 zc_iconst_0 ?_
  refine z_istore_n B [(2, .int (0)), (0, .ref (adr 3)), (1, .ref (adr 103))] dX0_copyFrom_104 rfl (Nat.le_of_ble_eq_true rfl) rfl ?_
  exact z_loc [1, 2, 0] _ rfl (tY_X0_copyFrom_105 B N s100 (0) hf)
theorem dX2_copyFrom_0 : decode cX2_copyFrom 0 = .ok (.aload_n 0, 1) := by decide +kernel
theorem dX2_copyFrom_1 : decode cX2_copyFrom 1 = .ok (.aload_n 1, 1) := by decide +kernel
theorem dX2_copyFrom_2 : decode cX2_copyFrom 2 = .ok (.invokevirtual 90, 3) := by decide +kernel
theorem dX2_copyFrom_5 : decode cX2_copyFrom 5 = .ok (.aload_n 1, 1) := by decide +kernel
theorem dX2_copyFrom_6 : decode cX2_copyFrom 6 = .ok (.getfield 28, 3) := by decide +kernel
theorem dX2_copyFrom_9 : decode cX2_copyFrom 9 = .ok (.iconst 0, 1) := by decide +kernel
theorem dX2_copyFrom_10 : decode cX2_copyFrom 10 = .ok (.aload_n 0, 1) := by decide +kernel
theorem dX2_copyFrom_11 : decode cX2_copyFrom 11 = .ok (.getfield 28, 3) := by decide +kernel
theorem dX2_copyFrom_14 : decode cX2_copyFrom 14 = .ok (.iconst 0, 1) := by decide +kernel
theorem dX2_copyFrom_15 : decode cX2_copyFrom 15 = .ok (.bipush 34, 2) := by decide +kernel
theorem dX2_copyFrom_17 : decode cX2_copyFrom 17 = .ok (.invokestatic 22, 3) := by decide +kernel
theorem dX2_copyFrom_20 : decode cX2_copyFrom 20 = .ok (.aload_n 0, 1) := by decide +kernel
theorem dX2_copyFrom_21 : decode cX2_copyFrom 21 = .ok (.getfield 34, 3) := by decide +kernel
theorem dX2_copyFrom_24 : decode cX2_copyFrom 24 = .ok (.aload_n 1, 1) := by decide +kernel
theorem dX2_copyFrom_25 : decode cX2_copyFrom 25 = .ok (.getfield 34, 3) := by decide +kernel
theorem dX2_copyFrom_28 : decode cX2_copyFrom 28 = .ok (.invokevirtual 94, 3) := by decide +kernel
theorem dX2_copyFrom_31 : decode cX2_copyFrom 31 = .ok (.iconst 0, 1) := by decide +kernel
theorem dX2_copyFrom_32 : decode cX2_copyFrom 32 = .ok (.istore_n 2, 1) := by decide +kernel
theorem dX2_copyFrom_33 : decode cX2_copyFrom 33 = .ok (.iload_n 2, 1) := by decide +kernel
theorem dX2_copyFrom_34 : decode cX2_copyFrom 34 = .ok (.bipush 6, 2) := by decide +kernel
theorem dX2_copyFrom_36 : decode cX2_copyFrom 36 = .ok (.if_icmp .ge 24, 3) := by decide +kernel
theorem dX2_copyFrom_39 : decode cX2_copyFrom 39 = .ok (.aload_n 0, 1) := by decide +kernel
theorem dX2_copyFrom_40 : decode cX2_copyFrom 40 = .ok (.getfield 40, 3) := by decide +kernel
theorem dX2_copyFrom_43 : decode cX2_copyFrom 43 = .ok (.iload_n 2, 1) := by decide +kernel
theorem dX2_copyFrom_44 : decode cX2_copyFrom 44 = .ok (.aaload, 1) := by decide +kernel
theorem dX2_copyFrom_45 : decode cX2_copyFrom 45 = .ok (.aload_n 1, 1) := by decide +kernel
theorem dX2_copyFrom_46 : decode cX2_copyFrom 46 = .ok (.getfield 40, 3) := by decide +kernel
theorem dX2_copyFrom_49 : decode cX2_copyFrom 49 = .ok (.iload_n 2, 1) := by decide +kernel
theorem dX2_copyFrom_50 : decode cX2_copyFrom 50 = .ok (.aaload, 1) := by decide +kernel
theorem dX2_copyFrom_51 : decode cX2_copyFrom 51 = .ok (.invokevirtual 98, 3) := by decide +kernel
theorem dX2_copyFrom_54 : decode cX2_copyFrom 54 = .ok (.iinc 2 1, 3) := by decide +kernel
theorem dX2_copyFrom_57 : decode cX2_copyFrom 57 = .ok (.goto (-24), 3) := by decide +kernel
theorem dX2_copyFrom_60 : decode cX2_copyFrom 60 = .ok (.aload_n 0, 1) := by decide +kernel
theorem dX2_copyFrom_61 : decode cX2_copyFrom 61 = .ok (.getfield 48, 3) := by decide +kernel
theorem dX2_copyFrom_64 : decode cX2_copyFrom 64 = .ok (.aload_n 1, 1) := by decide +kernel
theorem dX2_copyFrom_65 : decode cX2_copyFrom 65 = .ok (.getfield 48, 3) := by decide +kernel
theorem dX2_copyFrom_68 : decode cX2_copyFrom 68 = .ok (.invokevirtual 101, 3) := by decide +kernel
theorem dX2_copyFrom_71 : decode cX2_copyFrom 71 = .ok (.aload_n 0, 1) := by decide +kernel
theorem dX2_copyFrom_72 : decode cX2_copyFrom 72 = .ok (.getfield 55, 3) := by decide +kernel
theorem dX2_copyFrom_75 : decode cX2_copyFrom 75 = .ok (.aload_n 1, 1) := by decide +kernel
theorem dX2_copyFrom_76 : decode cX2_copyFrom 76 = .ok (.getfield 55, 3) := by decide +kernel
theorem dX2_copyFrom_79 : decode cX2_copyFrom 79 = .ok (.invokevirtual 104, 3) := by decide +kernel
theorem dX2_copyFrom_82 : decode cX2_copyFrom 82 = .ok (.aload_n 0, 1) := by decide +kernel
theorem dX2_copyFrom_83 : decode cX2_copyFrom 83 = .ok (.iconst 0, 1) := by decide +kernel
theorem dX2_copyFrom_84 : decode cX2_copyFrom 84 = .ok (.putfield 87, 3) := by decide +kernel
theorem dX2_copyFrom_87 : decode cX2_copyFrom 87 = .ok (.aload_n 0, 1) := by decide +kernel
theorem dX2_copyFrom_88 : decode cX2_copyFrom 88 = .ok (.iconst (-1), 1) := by decide +kernel
theorem dX2_copyFrom_89 : decode cX2_copyFrom 89 = .ok (.putfield 62, 3) := by decide +kernel
theorem dX2_copyFrom_92 : decode cX2_copyFrom 92 = .ok (.return_, 1) := by decide +kernel
def mY_X2_copyFrom_B33 (N : Nat) (hd33 : ST → Int32 → Option (ST)) (σ : ST) (x2 : Int32) : Option (ST) :=
  if ((6) : Int32) ≤ x2 then
    zCallu (mY_X3_copyFrom N σ) fun s68 =>
    zCallu (mY_X6_copyFrom N s68) fun s79 =>
    zLet (zUp s79 0 8 (0)) fun s84 =>
    zLet (zUp s84 0 9 (-1)) fun s89 =>
    some s89
  else
    zGet6 x2 fun v44 =>
    zGet6 x2 fun v50 =>
    zCallu (mY_X4_copyFrom N σ v44 v50) fun s51 =>
    zLet (x2 + (1)) fun v54 =>
    hd33 s51 v54
def mY_X2_copyFrom_33 (N : Nat) : ST → Int32 → Option (ST) := zIt (mY_X2_copyFrom_B33 N) (fun _ _ => none) N
set_option maxRecDepth 20000 in
set_option maxHeartbeats 2000000 in
theorem tY_X2_copyFrom_33 {adr : Nat → Nat} {cI cZ cS : ClassId} {X : zX} {q : ST} (B : zC X 3 (wdY adr cI cZ cS) cX2_copyFrom RX2 none { frames := 3, cells := 0, slots := 0, locals := 65 }) (N : Nat) : ∀ (σ : ST) (x2 : Int32), mY_X2_copyFrom_33 N σ x2 = some q → zJ X 3 (wdY adr cI cZ cS) (zu q) 33 [(0, .ref (adr 0)), (1, .ref (adr 100)), (2, .int x2)] [] σ := by
  refine zIt_ind (P := fun (hd : ST → Int32 → Option (ST)) => ∀ (σ : ST) (x2 : Int32), hd σ x2 = some q → zJ X 3 (wdY adr cI cZ cS) (zu q) 33 [(0, .ref (adr 0)), (1, .ref (adr 100)), (2, .int x2)] [] σ) (fun _ _ hf => by cases hf) (fun hd33 hh33 => ?_) N
  intro σ x2 hf
  refine z_iload_n B dX2_copyFrom_33 2 rfl rfl ?_
  refine z_bipush B (6) dX2_copyFrom_34 zc_bipush_6 ?_
  refine z_icmp_ge B 60 dX2_copyFrom_36 (by decide) hf (fun hf => ?_) (fun hf => ?_)
  · refine z_aload_n B dX2_copyFrom_60 0 rfl rfl ?_
    refine fY_g_X2_E_history B dX2_copyFrom_61 ?_
    refine z_aload_n B dX2_copyFrom_64 1 rfl rfl ?_
    refine fY_g_X2_E2_history B dX2_copyFrom_65 ?_
    refine z_callVu B (As := [.ref (adr 118)]) kcV_X2_101 dX2_copyFrom_68 hf (fun q hq => cY_X3_copyFrom q hq) (wY_o_H (adr := adr) (cI := cI) (cZ := cZ) (cS := cS)) rfl rfl rfl rfl (Nat.le_of_ble_eq_true rfl) rfl rfl ⟨Nat.le_of_ble_eq_true rfl, Nat.le_of_ble_eq_true rfl⟩ (fun s68 hf => ?_)
    refine z_aload_n B dX2_copyFrom_71 0 rfl rfl ?_
    refine fY_g_X2_E_log B dX2_copyFrom_72 ?_
    refine z_aload_n B dX2_copyFrom_75 1 rfl rfl ?_
    refine fY_g_X2_E2_log B dX2_copyFrom_76 ?_
    refine z_callVu B (As := [.ref (adr 122)]) kcV_X2_104 dX2_copyFrom_79 hf (fun q hq => cY_X6_copyFrom q hq) (wY_o_G (adr := adr) (cI := cI) (cZ := cZ) (cS := cS)) rfl rfl rfl rfl (Nat.le_of_ble_eq_true rfl) rfl rfl ⟨Nat.le_of_ble_eq_true rfl, Nat.le_of_ble_eq_true rfl⟩ (fun s79 hf => ?_)
    refine z_aload_n B dX2_copyFrom_82 0 rfl rfl ?_
    refine z_iconst B (0) dX2_copyFrom_83 zc_iconst_0 ?_
    refine fY_p_X2_E_plannedSize B dX2_copyFrom_84 hf (fun s84 hf => ?_)
    refine z_aload_n B dX2_copyFrom_87 0 rfl rfl ?_
    refine z_iconst B (-1) dX2_copyFrom_88 zc_iconst_m1 ?_
    refine fY_p_X2_E_ownPlace B dX2_copyFrom_89 hf (fun s89 hf => ?_)
    exact z_return B dX2_copyFrom_92 hf
  · refine z_aload_n B dX2_copyFrom_39 0 rfl rfl ?_
    refine fY_g_X2_E_streams B dX2_copyFrom_40 ?_
    refine z_iload_n B dX2_copyFrom_43 2 rfl rfl ?_
    refine fY_streams_S B dX2_copyFrom_44 hf (fun v44 hf => ?_)
    refine z_aload_n B dX2_copyFrom_45 1 rfl rfl ?_
    refine fY_g_X2_E2_streams B dX2_copyFrom_46 ?_
    refine z_iload_n B dX2_copyFrom_49 2 rfl rfl ?_
    refine fY_streams_S2 B dX2_copyFrom_50 hf (fun v50 hf => ?_)
    refine z_callVu B (As := [.ref (adr (112 + (v50).val))]) kcV_X2_98 dX2_copyFrom_51 hf (fun q hq => cY_X4_copyFrom q hq) (wY_o_S (adr := adr) (cI := cI) (cZ := cZ) (cS := cS) v44) rfl rfl rfl rfl (Nat.le_of_ble_eq_true rfl) rfl rfl ⟨Nat.le_of_ble_eq_true rfl, Nat.le_of_ble_eq_true rfl⟩ (fun s51 hf => ?_)
    refine z_iinc B (1) 2 (fun v54 => [(2, .int v54), (0, .ref (adr 0)), (1, .ref (adr 100))]) dX2_copyFrom_54 hf zc_iconst_1 rfl (Nat.le_of_ble_eq_true rfl) (fun _ => rfl) (fun v54 hf => ?_)
    refine z_goto B 33 dX2_copyFrom_57 (by decide) ?_
    exact z_loc [1, 2, 0] _ rfl (hh33 s51 v54 hf)
def mY_X2_copyFrom (N : Nat) (σ : ST) : Option (ST) :=
  zCallu (mY_X2_copyTerms N σ) fun s2 =>
  zLet (va_up s2 2 (va_cpy (s2 102) (s2 2) ((0) : Int32).toNatClampNeg ((0) : Int32).toNatClampNeg ((34) : Int32).toNatClampNeg)) fun s17 =>
  zCallu (mY_X0_copyFrom N s17) fun s28 =>
  mY_X2_copyFrom_33 N s28 (0)
set_option maxRecDepth 20000 in
set_option maxHeartbeats 2000000 in
theorem cY_X2_copyFrom {adr : Nat → Nat} {cI cZ cS : ClassId} {l : Launch} {D : va_G} {N : Nat} {σ : ST} (q : ST) (hf : mY_X2_copyFrom N σ = some q) : zM l D (wdY adr cI cZ cS) yX2_copyFrom cX2_copyFrom 3 none ({ frames := 3, cells := 0, slots := 0, locals := 65 }) [.ref (adr 0), .ref (adr 100)] σ (zu q) := by
  refine zM_of sfY_ok rfl (Nat.le_of_ble_eq_true rfl) [(0, .ref (adr 0)), (1, .ref (adr 100))] rfl (fun X hX1 hX2 B => ?_)
  have B : zC X 3 (wdY adr cI cZ cS) cX2_copyFrom RX2 none { frames := 3, cells := 0, slots := 0, locals := 65 } := B
  refine z_aload_n B dX2_copyFrom_0 0 rfl rfl ?_
  refine z_aload_n B dX2_copyFrom_1 1 rfl rfl ?_
  refine z_callVu B (As := [.ref (adr 100)]) kcV_X2_90 dX2_copyFrom_2 hf (fun q hq => cY_X2_copyTerms q hq) (wY_o_E (adr := adr) (cI := cI) (cZ := cZ) (cS := cS)) rfl rfl rfl rfl (Nat.le_of_ble_eq_true rfl) rfl rfl ⟨Nat.le_of_ble_eq_true rfl, Nat.le_of_ble_eq_true rfl⟩ (fun s2 hf => ?_)
  refine z_aload_n B dX2_copyFrom_5 1 rfl rfl ?_
  refine fY_g_X2_E2_counts B dX2_copyFrom_6 ?_
  refine z_iconst B (0) dX2_copyFrom_9 zc_iconst_0 ?_
  refine z_aload_n B dX2_copyFrom_10 0 rfl rfl ?_
  refine fY_g_X2_E_counts B dX2_copyFrom_11 ?_
  refine z_iconst B (0) dX2_copyFrom_14 zc_iconst_0 ?_
  refine z_bipush B (34) dX2_copyFrom_15 zc_bipush_34 ?_
  refine z_copy B (t0 := 0) (t1 := 0) kw_100 kaN kaS kaI wY_g_E2_counts wY_g_E_counts wY_s_E_counts rfl rfl (by decide) (by decide) (by decide) (by decide) (by decide) (Nat.le_of_ble_eq_true rfl) (Nat.le_of_ble_eq_true rfl) dX2_copyFrom_17 hf (fun s17 hf => ?_)
  refine z_aload_n B dX2_copyFrom_20 0 rfl rfl ?_
  refine fY_g_X2_E_cache B dX2_copyFrom_21 ?_
  refine z_aload_n B dX2_copyFrom_24 1 rfl rfl ?_
  refine fY_g_X2_E2_cache B dX2_copyFrom_25 ?_
  refine z_callVu B (As := [.ref (adr 103)]) kcV_X2_94 dX2_copyFrom_28 hf (fun q hq => cY_X0_copyFrom q hq) (wY_o_C (adr := adr) (cI := cI) (cZ := cZ) (cS := cS)) rfl rfl rfl rfl (Nat.le_of_ble_eq_true rfl) rfl rfl ⟨Nat.le_of_ble_eq_true rfl, Nat.le_of_ble_eq_true rfl⟩ (fun s28 hf => ?_)
  refine z_iconst B (0) dX2_copyFrom_31 zc_iconst_0 ?_
  refine z_istore_n B [(2, .int (0)), (0, .ref (adr 0)), (1, .ref (adr 100))] dX2_copyFrom_32 rfl (Nat.le_of_ble_eq_true rfl) rfl ?_
  exact z_loc [1, 2, 0] _ rfl (tY_X2_copyFrom_33 B N s28 (0) hf)
theorem dX1_copyFrom_0 : decode cX1_copyFrom 0 = .ok (.aload_n 1, 1) := by decide +kernel
theorem dX1_copyFrom_1 : decode cX1_copyFrom 1 = .ok (.getfield 9, 3) := by decide +kernel
theorem dX1_copyFrom_4 : decode cX1_copyFrom 4 = .ok (.iconst 0, 1) := by decide +kernel
theorem dX1_copyFrom_5 : decode cX1_copyFrom 5 = .ok (.aload_n 0, 1) := by decide +kernel
theorem dX1_copyFrom_6 : decode cX1_copyFrom 6 = .ok (.getfield 9, 3) := by decide +kernel
theorem dX1_copyFrom_9 : decode cX1_copyFrom 9 = .ok (.iconst 0, 1) := by decide +kernel
theorem dX1_copyFrom_10 : decode cX1_copyFrom 10 = .ok (.sipush 10000, 3) := by decide +kernel
theorem dX1_copyFrom_13 : decode cX1_copyFrom 13 = .ok (.invokestatic 16, 3) := by decide +kernel
theorem dX1_copyFrom_16 : decode cX1_copyFrom 16 = .ok (.return_, 1) := by decide +kernel
def mV_X1_copyFrom (N : Nat) (σ : ST) : Option (ST) :=
  zLet (va_up σ 1 (va_cpy (σ 3) (σ 1) ((0) : Int32).toNatClampNeg ((0) : Int32).toNatClampNeg ((10000) : Int32).toNatClampNeg)) fun s13 =>
  some s13
set_option maxRecDepth 20000 in
set_option maxHeartbeats 2000000 in
theorem cV_X1_copyFrom {adr : Nat → Nat} {cI cZ cS : ClassId} {l : Launch} {D : va_G} {N : Nat} {σ : ST} (q : ST) (hf : mV_X1_copyFrom N σ = some q) : zM l D (wdV adr cI cZ cS) yX1_copyFrom cX1_copyFrom 2 none ({ frames := 1, cells := 0, slots := 0, locals := 18 }) [.ref (adr 0), .ref (adr 2)] σ (zu q) := by
  refine zM_of sfV_ok rfl (Nat.le_of_ble_eq_true rfl) [(0, .ref (adr 0)), (1, .ref (adr 2))] rfl (fun X hX1 hX2 B => ?_)
  have B : zC X 2 (wdV adr cI cZ cS) cX1_copyFrom RX1 none { frames := 1, cells := 0, slots := 0, locals := 18 } := B
  refine z_aload_n B dX1_copyFrom_0 1 rfl rfl ?_
  refine fV_g_X1_D2_cells B dX1_copyFrom_1 ?_
  refine z_iconst B (0) dX1_copyFrom_4 zc_iconst_0 ?_
  refine z_aload_n B dX1_copyFrom_5 0 rfl rfl ?_
  refine fV_g_X1_D_cells B dX1_copyFrom_6 ?_
  refine z_iconst B (0) dX1_copyFrom_9 zc_iconst_0 ?_
  refine z_sipush B (10000) dX1_copyFrom_10 zc_sipush_10000 ?_
  refine z_copy B (t0 := 0) (t1 := 0) kw_603 kaN kaS kaI wV_g_D2_cells wV_g_D_cells wV_s_D_cells rfl rfl (by decide) (by decide) (by decide) (by decide) (by decide) (Nat.le_of_ble_eq_true rfl) (Nat.le_of_ble_eq_true rfl) dX1_copyFrom_13 hf (fun s13 hf => ?_)
  exact z_return B dX1_copyFrom_16 hf
def mU_X3_cellOf_26 (N : Nat) (σ : ST) (x1 : Int32) (k0 : Int32) : Option (Int32 × ST) :=
  some (k0, σ)
set_option maxRecDepth 20000 in
set_option maxHeartbeats 2000000 in
theorem tU_X3_cellOf_26 {adr : Nat → Nat} {cI cZ cS : ClassId} {X : zX} {q : Int32 × ST} (B : zC X 2 (wdU adr cI cZ cS) cX3_cellOf RX3 (some .int) { frames := 0, cells := 0, slots := 0, locals := 0 }) (N : Nat) (σ : ST) (x1 : Int32) (k0 : Int32) (hf : mU_X3_cellOf_26 N σ x1 k0 = some q) : zJ X 2 (wdU adr cI cZ cS) (zi q) 26 [(0, .ref (adr 5)), (1, .int x1)] [.int k0] σ := by
  exact z_ireturn B dX3_cellOf_26 hf
def mU_X3_cellOf_12 (N : Nat) (σ : ST) (x1 : Int32) : Option (Int32 × ST) :=
  mU_X3_cellOf_26 N σ x1 (-1)
set_option maxRecDepth 20000 in
set_option maxHeartbeats 2000000 in
theorem tU_X3_cellOf_12 {adr : Nat → Nat} {cI cZ cS : ClassId} {X : zX} {q : Int32 × ST} (B : zC X 2 (wdU adr cI cZ cS) cX3_cellOf RX3 (some .int) { frames := 0, cells := 0, slots := 0, locals := 0 }) (N : Nat) (σ : ST) (x1 : Int32) (hf : mU_X3_cellOf_12 N σ x1 = some q) : zJ X 2 (wdU adr cI cZ cS) (zi q) 12 [(0, .ref (adr 5)), (1, .int x1)] [] σ := by
  refine z_iconst B (-1) dX3_cellOf_12 zc_iconst_m1 ?_
  refine z_goto B 26 dX3_cellOf_13 (by decide) ?_
  exact tU_X3_cellOf_26 B N σ x1 (-1) hf
def mU_X3_cellOf (N : Nat) (σ : ST) (x1 : Int32) : Option (Int32 × ST) :=
  if (x1 : Int32) < 0 then
    mU_X3_cellOf_12 N σ x1
  else
    zLet (σ 5 4) fun v6 =>
    if (x1 : Int32) < v6 then
      zLet (σ 5 3) fun v17 =>
      zLet ((v17 : Int32) + x1) fun v21 =>
      zRem v21 (400) fun v25 =>
      mU_X3_cellOf_26 N σ x1 v25
    else
      mU_X3_cellOf_12 N σ x1
set_option maxRecDepth 20000 in
set_option maxHeartbeats 2000000 in
theorem cU_X3_cellOf {adr : Nat → Nat} {cI cZ cS : ClassId} {l : Launch} {D : va_G} {N : Nat} {σ : ST} {x1 : Int32} (q : Int32 × ST) (hf : mU_X3_cellOf N σ x1 = some q) : zM l D (wdU adr cI cZ cS) yX3_cellOf cX3_cellOf 2 (some .int) ({ frames := 0, cells := 0, slots := 0, locals := 0 }) [.ref (adr 5), .int x1] σ (zi q) := by
  refine zM_of sfU_ok rfl (Nat.le_of_ble_eq_true rfl) [(0, .ref (adr 5)), (1, .int x1)] rfl (fun X hX1 hX2 B => ?_)
  have B : zC X 2 (wdU adr cI cZ cS) cX3_cellOf RX3 (some .int) { frames := 0, cells := 0, slots := 0, locals := 0 } := B
  refine z_iload_n B dX3_cellOf_0 1 rfl rfl ?_
  refine z_if_lt B 12 dX3_cellOf_1 (by decide) hf (fun hf => ?_) (fun hf => ?_)
  · exact tU_X3_cellOf_12 B N σ x1 hf
  · refine z_iload_n B dX3_cellOf_4 1 rfl rfl ?_
    refine z_aload_n B dX3_cellOf_5 0 rfl rfl ?_
    refine fU_g_X3_H_length B dX3_cellOf_6 hf (fun v6 hf => ?_)
    refine z_icmp_lt B 16 dX3_cellOf_9 (by decide) hf (fun hf => ?_) (fun hf => ?_)
    · refine z_aload_n B dX3_cellOf_16 0 rfl rfl ?_
      refine fU_g_X3_H_eldest B dX3_cellOf_17 hf (fun v17 hf => ?_)
      refine z_iload_n B dX3_cellOf_20 1 rfl rfl ?_
      refine z_iadd B dX3_cellOf_21 hf (fun v21 hf => ?_)
      refine z_sipush B (400) dX3_cellOf_22 zc_sipush_400 ?_
      refine z_irem B dX3_cellOf_25 hf (fun v25 hf => ?_)
      exact tU_X3_cellOf_26 B N σ x1 v25 hf
    · exact tU_X3_cellOf_12 B N σ x1 hf
def mU_X3_blockAt_20 (N : Nat) (σ : ST) (x1 : Int32) (x2 : Int32) (k0 : Int32) : Option (Int32 × ST) :=
  some (k0, σ)
set_option maxRecDepth 20000 in
set_option maxHeartbeats 2000000 in
theorem tU_X3_blockAt_20 {adr : Nat → Nat} {cI cZ cS : ClassId} {X : zX} {q : Int32 × ST} (B : zC X 3 (wdU adr cI cZ cS) cX3_blockAt RX3 (some .int) { frames := 1, cells := 0, slots := 0, locals := 21 }) (N : Nat) (σ : ST) (x1 : Int32) (x2 : Int32) (k0 : Int32) (hf : mU_X3_blockAt_20 N σ x1 x2 k0 = some q) : zJ X 3 (wdU adr cI cZ cS) (zi q) 20 [(0, .ref (adr 5)), (1, .int x1), (2, .int x2)] [.int k0] σ := by
  exact z_ireturn B dX3_blockAt_20 hf
def mU_X3_blockAt (N : Nat) (σ : ST) (x1 : Int32) : Option (Int32 × ST) :=
  zCall (mU_X3_cellOf N σ x1) fun v2 s2 =>
  if (0 : Int32) ≤ v2 then
    zGet (s2 6) 400 v2 fun v19 =>
    mU_X3_blockAt_20 N s2 x1 v2 v19
  else
    mU_X3_blockAt_20 N s2 x1 v2 (-1)
set_option maxRecDepth 20000 in
set_option maxHeartbeats 2000000 in
theorem cU_X3_blockAt {adr : Nat → Nat} {cI cZ cS : ClassId} {l : Launch} {D : va_G} {N : Nat} {σ : ST} {x1 : Int32} (q : Int32 × ST) (hf : mU_X3_blockAt N σ x1 = some q) : zM l D (wdU adr cI cZ cS) yX3_blockAt cX3_blockAt 3 (some .int) ({ frames := 1, cells := 0, slots := 0, locals := 21 }) [.ref (adr 5), .int x1] σ (zi q) := by
  refine zM_of sfU_ok rfl (Nat.le_of_ble_eq_true rfl) [(0, .ref (adr 5)), (1, .int x1)] rfl (fun X hX1 hX2 B => ?_)
  have B : zC X 3 (wdU adr cI cZ cS) cX3_blockAt RX3 (some .int) { frames := 1, cells := 0, slots := 0, locals := 21 } := B
  refine z_aload_n B dX3_blockAt_0 0 rfl rfl ?_
  refine z_iload_n B dX3_blockAt_1 1 rfl rfl ?_
  refine z_callVi B (As := [.int x1]) kcV_X3_28 dX3_blockAt_2 hf (fun q hq => cU_X3_cellOf q hq) (wU_o_H (adr := adr) (cI := cI) (cZ := cZ) (cS := cS)) rfl rfl rfl rfl (Nat.le_of_ble_eq_true rfl) rfl rfl ⟨Nat.le_of_ble_eq_true rfl, Nat.le_of_ble_eq_true rfl⟩ (fun v2 s2 hf => ?_)
  refine z_istore_n B [(2, .int v2), (0, .ref (adr 5)), (1, .int x1)] dX3_blockAt_5 rfl (Nat.le_of_ble_eq_true rfl) rfl ?_
  refine z_iload_n B dX3_blockAt_6 0 rfl rfl ?_
  refine z_if_ge B 14 dX3_blockAt_7 (by decide) hf (fun hf => ?_) (fun hf => ?_)
  · refine z_aload_n B dX3_blockAt_14 1 rfl rfl ?_
    refine fU_g_X3_H_blocks B dX3_blockAt_15 ?_
    refine z_iload_n B dX3_blockAt_18 0 rfl rfl ?_
    refine fU_l_H_blocks B dX3_blockAt_19 hf (fun v19 hf => ?_)
    exact z_loc [1, 2, 0] _ rfl (tU_X3_blockAt_20 B N s2 x1 v2 v19 hf)
  · refine z_iconst B (-1) dX3_blockAt_10 zc_iconst_m1 ?_
    refine z_goto B 20 dX3_blockAt_11 (by decide) ?_
    exact z_loc [1, 2, 0] _ rfl (tU_X3_blockAt_20 B N s2 x1 v2 (-1) hf)
theorem dX5_startsPiece_0 : decode cX5_startsPiece 0 = .ok (.iload_n 1, 1) := by decide +kernel
theorem dX5_startsPiece_1 : decode cX5_startsPiece 1 = .ok (.ifCond .eq 26, 3) := by decide +kernel
theorem dX5_startsPiece_4 : decode cX5_startsPiece 4 = .ok (.aload_n 0, 1) := by decide +kernel
theorem dX5_startsPiece_5 : decode cX5_startsPiece 5 = .ok (.getfield 24, 3) := by decide +kernel
theorem dX5_startsPiece_8 : decode cX5_startsPiece 8 = .ok (.iload_n 1, 1) := by decide +kernel
theorem dX5_startsPiece_9 : decode cX5_startsPiece 9 = .ok (.invokevirtual 34, 3) := by decide +kernel
theorem dX5_startsPiece_12 : decode cX5_startsPiece 12 = .ok (.aload_n 0, 1) := by decide +kernel
theorem dX5_startsPiece_13 : decode cX5_startsPiece 13 = .ok (.getfield 24, 3) := by decide +kernel
theorem dX5_startsPiece_16 : decode cX5_startsPiece 16 = .ok (.iload_n 1, 1) := by decide +kernel
theorem dX5_startsPiece_17 : decode cX5_startsPiece 17 = .ok (.iconst 1, 1) := by decide +kernel
theorem dX5_startsPiece_18 : decode cX5_startsPiece 18 = .ok (.isub, 1) := by decide +kernel
theorem dX5_startsPiece_19 : decode cX5_startsPiece 19 = .ok (.invokevirtual 34, 3) := by decide +kernel
theorem dX5_startsPiece_22 : decode cX5_startsPiece 22 = .ok (.iconst 1, 1) := by decide +kernel
theorem dX5_startsPiece_23 : decode cX5_startsPiece 23 = .ok (.iadd, 1) := by decide +kernel
theorem dX5_startsPiece_24 : decode cX5_startsPiece 24 = .ok (.if_icmp .eq 7, 3) := by decide +kernel
theorem dX5_startsPiece_27 : decode cX5_startsPiece 27 = .ok (.iconst 1, 1) := by decide +kernel
theorem dX5_startsPiece_28 : decode cX5_startsPiece 28 = .ok (.goto 4, 3) := by decide +kernel
theorem dX5_startsPiece_31 : decode cX5_startsPiece 31 = .ok (.iconst 0, 1) := by decide +kernel
theorem dX5_startsPiece_32 : decode cX5_startsPiece 32 = .ok (.ireturn, 1) := by decide +kernel
def mU_X5_startsPiece_32 (N : Nat) (σ : ST) (x1 : Int32) (k0 : Int32) : Option (Int32 × ST) :=
  zBool k0 (some (k0, σ))
set_option maxRecDepth 20000 in
set_option maxHeartbeats 2000000 in
theorem tU_X5_startsPiece_32 {adr : Nat → Nat} {cI cZ cS : ClassId} {X : zX} {q : Int32 × ST} (B : zC X 2 (wdU adr cI cZ cS) cX5_startsPiece RX5 (some .boolean) { frames := 2, cells := 0, slots := 0, locals := 43 }) (N : Nat) (σ : ST) (x1 : Int32) (k0 : Int32) (hf : mU_X5_startsPiece_32 N σ x1 k0 = some q) : zJ X 2 (wdU adr cI cZ cS) (zi q) 32 [(0, .ref (adr 0)), (1, .int x1)] [.int k0] σ := by
  exact z_zreturn B dX5_startsPiece_32 hf
def mU_X5_startsPiece_27 (N : Nat) (σ : ST) (x1 : Int32) : Option (Int32 × ST) :=
  mU_X5_startsPiece_32 N σ x1 (1)
set_option maxRecDepth 20000 in
set_option maxHeartbeats 2000000 in
theorem tU_X5_startsPiece_27 {adr : Nat → Nat} {cI cZ cS : ClassId} {X : zX} {q : Int32 × ST} (B : zC X 2 (wdU adr cI cZ cS) cX5_startsPiece RX5 (some .boolean) { frames := 2, cells := 0, slots := 0, locals := 43 }) (N : Nat) (σ : ST) (x1 : Int32) (hf : mU_X5_startsPiece_27 N σ x1 = some q) : zJ X 2 (wdU adr cI cZ cS) (zi q) 27 [(0, .ref (adr 0)), (1, .int x1)] [] σ := by
  refine z_iconst B (1) dX5_startsPiece_27 zc_iconst_1 ?_
  refine z_goto B 32 dX5_startsPiece_28 (by decide) ?_
  exact tU_X5_startsPiece_32 B N σ x1 (1) hf
def mU_X5_startsPiece (N : Nat) (σ : ST) (x1 : Int32) : Option (Int32 × ST) :=
  if (x1 : Int32) = 0 then
    mU_X5_startsPiece_27 N σ x1
  else
    zCall (mU_X3_blockAt N σ x1) fun v9 s9 =>
    zLet ((x1 : Int32) - (1)) fun v18 =>
    zCall (mU_X3_blockAt N s9 v18) fun v19 s19 =>
    zLet ((v19 : Int32) + (1)) fun v23 =>
    if (v9 : Int32) = v23 then
      mU_X5_startsPiece_32 N s19 x1 (0)
    else
      mU_X5_startsPiece_27 N s19 x1
set_option maxRecDepth 20000 in
set_option maxHeartbeats 2000000 in
theorem cU_X5_startsPiece {adr : Nat → Nat} {cI cZ cS : ClassId} {l : Launch} {D : va_G} {N : Nat} {σ : ST} {x1 : Int32} (q : Int32 × ST) (hf : mU_X5_startsPiece N σ x1 = some q) : zM l D (wdU adr cI cZ cS) yX5_startsPiece cX5_startsPiece 2 (some .boolean) ({ frames := 2, cells := 0, slots := 0, locals := 43 }) [.ref (adr 0), .int x1] σ (zi q) := by
  refine zM_of sfU_ok rfl (Nat.le_of_ble_eq_true rfl) [(0, .ref (adr 0)), (1, .int x1)] rfl (fun X hX1 hX2 B => ?_)
  have B : zC X 2 (wdU adr cI cZ cS) cX5_startsPiece RX5 (some .boolean) { frames := 2, cells := 0, slots := 0, locals := 43 } := B
  refine z_iload_n B dX5_startsPiece_0 1 rfl rfl ?_
  refine z_if_eq B 27 dX5_startsPiece_1 (by decide) hf (fun hf => ?_) (fun hf => ?_)
  · exact tU_X5_startsPiece_27 B N σ x1 hf
  · refine z_aload_n B dX5_startsPiece_4 0 rfl rfl ?_
    refine fU_g_X5_U_history B dX5_startsPiece_5 ?_
    refine z_iload_n B dX5_startsPiece_8 1 rfl rfl ?_
    refine z_callVi B (As := [.int x1]) kcV_X5_34 dX5_startsPiece_9 hf (fun q hq => cU_X3_blockAt q hq) (wU_o_H (adr := adr) (cI := cI) (cZ := cZ) (cS := cS)) rfl rfl rfl rfl (Nat.le_of_ble_eq_true rfl) rfl rfl ⟨Nat.le_of_ble_eq_true rfl, Nat.le_of_ble_eq_true rfl⟩ (fun v9 s9 hf => ?_)
    refine z_aload_n B dX5_startsPiece_12 0 rfl rfl ?_
    refine fU_g_X5_U_history B dX5_startsPiece_13 ?_
    refine z_iload_n B dX5_startsPiece_16 1 rfl rfl ?_
    refine z_iconst B (1) dX5_startsPiece_17 zc_iconst_1 ?_
    refine z_isub B dX5_startsPiece_18 hf (fun v18 hf => ?_)
    refine z_callVi B (As := [.int v18]) kcV_X5_34 dX5_startsPiece_19 hf (fun q hq => cU_X3_blockAt q hq) (wU_o_H (adr := adr) (cI := cI) (cZ := cZ) (cS := cS)) rfl rfl rfl rfl (Nat.le_of_ble_eq_true rfl) rfl rfl ⟨Nat.le_of_ble_eq_true rfl, Nat.le_of_ble_eq_true rfl⟩ (fun v19 s19 hf => ?_)
    refine z_iconst B (1) dX5_startsPiece_22 zc_iconst_1 ?_
    refine z_iadd B dX5_startsPiece_23 hf (fun v23 hf => ?_)
    refine z_icmp_eq B 31 dX5_startsPiece_24 (by decide) hf (fun hf => ?_) (fun hf => ?_)
    · refine z_iconst B (0) dX5_startsPiece_31 zc_iconst_0 ?_
      exact tU_X5_startsPiece_32 B N s19 x1 (0) hf
    · exact tU_X5_startsPiece_27 B N s19 x1 hf
theorem dX5_pieces_0 : decode cX5_pieces 0 = .ok (.iconst 0, 1) := by decide +kernel
theorem dX5_pieces_1 : decode cX5_pieces 1 = .ok (.istore_n 1, 1) := by decide +kernel
theorem dX5_pieces_2 : decode cX5_pieces 2 = .ok (.iconst 0, 1) := by decide +kernel
theorem dX5_pieces_3 : decode cX5_pieces 3 = .ok (.istore_n 2, 1) := by decide +kernel
theorem dX5_pieces_4 : decode cX5_pieces 4 = .ok (.iload_n 2, 1) := by decide +kernel
theorem dX5_pieces_5 : decode cX5_pieces 5 = .ok (.aload_n 0, 1) := by decide +kernel
theorem dX5_pieces_6 : decode cX5_pieces 6 = .ok (.getfield 24, 3) := by decide +kernel
theorem dX5_pieces_9 : decode cX5_pieces 9 = .ok (.getfield 28, 3) := by decide +kernel
theorem dX5_pieces_12 : decode cX5_pieces 12 = .ok (.if_icmp .ge 20, 3) := by decide +kernel
theorem dX5_pieces_15 : decode cX5_pieces 15 = .ok (.aload_n 0, 1) := by decide +kernel
theorem dX5_pieces_16 : decode cX5_pieces 16 = .ok (.iload_n 2, 1) := by decide +kernel
theorem dX5_pieces_17 : decode cX5_pieces 17 = .ok (.invokevirtual 42, 3) := by decide +kernel
theorem dX5_pieces_20 : decode cX5_pieces 20 = .ok (.ifCond .eq 6, 3) := by decide +kernel
theorem dX5_pieces_23 : decode cX5_pieces 23 = .ok (.iinc 1 1, 3) := by decide +kernel
theorem dX5_pieces_26 : decode cX5_pieces 26 = .ok (.iinc 2 1, 3) := by decide +kernel
theorem dX5_pieces_29 : decode cX5_pieces 29 = .ok (.goto (-25), 3) := by decide +kernel
theorem dX5_pieces_32 : decode cX5_pieces 32 = .ok (.iload_n 1, 1) := by decide +kernel
theorem dX5_pieces_33 : decode cX5_pieces 33 = .ok (.ireturn, 1) := by decide +kernel
def mU_X5_pieces_26 (N : Nat) (hd4 : ST → Int32 → Int32 → Option (Int32 × ST)) (σ : ST) (x1 : Int32) (x2 : Int32) : Option (Int32 × ST) :=
  zLet (x2 + (1)) fun v26 =>
  hd4 σ x1 v26
set_option maxRecDepth 20000 in
set_option maxHeartbeats 2000000 in
theorem tU_X5_pieces_26 {adr : Nat → Nat} {cI cZ cS : ClassId} {X : zX} {q : Int32 × ST} (B : zC X 3 (wdU adr cI cZ cS) cX5_pieces RX5 (some .int) { frames := 3, cells := 0, slots := 0, locals := 64 }) (N : Nat) (hd4 : ST → Int32 → Int32 → Option (Int32 × ST)) (hh4 : ∀ (σ : ST) (x1 : Int32) (x2 : Int32), hd4 σ x1 x2 = some q → zJ X 3 (wdU adr cI cZ cS) (zi q) 4 [(0, .ref (adr 0)), (1, .int x1), (2, .int x2)] [] σ) (σ : ST) (x1 : Int32) (x2 : Int32) (hf : mU_X5_pieces_26 N hd4 σ x1 x2 = some q) : zJ X 3 (wdU adr cI cZ cS) (zi q) 26 [(0, .ref (adr 0)), (1, .int x1), (2, .int x2)] [] σ := by
  refine z_iinc B (1) 2 (fun v26 => [(2, .int v26), (0, .ref (adr 0)), (1, .int x1)]) dX5_pieces_26 hf zc_iconst_1 rfl (Nat.le_of_ble_eq_true rfl) (fun _ => rfl) (fun v26 hf => ?_)
  refine z_goto B 4 dX5_pieces_29 (by decide) ?_
  exact z_loc [1, 2, 0] _ rfl (hh4 σ x1 v26 hf)
def mU_X5_pieces_B4 (N : Nat) (hd4 : ST → Int32 → Int32 → Option (Int32 × ST)) (σ : ST) (x1 : Int32) (x2 : Int32) : Option (Int32 × ST) :=
  zLet (σ 5 4) fun v9 =>
  if (v9 : Int32) ≤ x2 then
    some (x1, σ)
  else
    zCall (mU_X5_startsPiece N σ x2) fun v17 s17 =>
    if (v17 : Int32) = 0 then
      mU_X5_pieces_26 N hd4 s17 x1 x2
    else
      zLet (x1 + (1)) fun v23 =>
      mU_X5_pieces_26 N hd4 s17 v23 x2
def mU_X5_pieces_4 (N : Nat) : ST → Int32 → Int32 → Option (Int32 × ST) := zIt (mU_X5_pieces_B4 N) (fun _ _ _ => none) N
set_option maxRecDepth 20000 in
set_option maxHeartbeats 2000000 in
theorem tU_X5_pieces_4 {adr : Nat → Nat} {cI cZ cS : ClassId} {X : zX} {q : Int32 × ST} (B : zC X 3 (wdU adr cI cZ cS) cX5_pieces RX5 (some .int) { frames := 3, cells := 0, slots := 0, locals := 64 }) (N : Nat) : ∀ (σ : ST) (x1 : Int32) (x2 : Int32), mU_X5_pieces_4 N σ x1 x2 = some q → zJ X 3 (wdU adr cI cZ cS) (zi q) 4 [(0, .ref (adr 0)), (1, .int x1), (2, .int x2)] [] σ := by
  refine zIt_ind (P := fun (hd : ST → Int32 → Int32 → Option (Int32 × ST)) => ∀ (σ : ST) (x1 : Int32) (x2 : Int32), hd σ x1 x2 = some q → zJ X 3 (wdU adr cI cZ cS) (zi q) 4 [(0, .ref (adr 0)), (1, .int x1), (2, .int x2)] [] σ) (fun _ _ _ hf => by cases hf) (fun hd4 hh4 => ?_) N
  intro σ x1 x2 hf
  refine z_iload_n B dX5_pieces_4 2 rfl rfl ?_
  refine z_aload_n B dX5_pieces_5 0 rfl rfl ?_
  refine fU_g_X5_U_history B dX5_pieces_6 ?_
  refine fU_g_X5_H_length B dX5_pieces_9 hf (fun v9 hf => ?_)
  refine z_icmp_ge B 32 dX5_pieces_12 (by decide) hf (fun hf => ?_) (fun hf => ?_)
  · refine z_iload_n B dX5_pieces_32 1 rfl rfl ?_
    exact z_ireturn B dX5_pieces_33 hf
  · refine z_aload_n B dX5_pieces_15 0 rfl rfl ?_
    refine z_iload_n B dX5_pieces_16 2 rfl rfl ?_
    refine z_callVi B (As := [.int x2]) kcV_X5_42 dX5_pieces_17 hf (fun q hq => cU_X5_startsPiece q hq) (wU_o_U (adr := adr) (cI := cI) (cZ := cZ) (cS := cS)) rfl rfl rfl rfl (Nat.le_of_ble_eq_true rfl) rfl rfl ⟨Nat.le_of_ble_eq_true rfl, Nat.le_of_ble_eq_true rfl⟩ (fun v17 s17 hf => ?_)
    refine z_if_eq B 26 dX5_pieces_20 (by decide) hf (fun hf => ?_) (fun hf => ?_)
    · exact tU_X5_pieces_26 B N hd4 hh4 s17 x1 x2 hf
    · refine z_iinc B (1) 1 (fun v23 => [(1, .int v23), (0, .ref (adr 0)), (2, .int x2)]) dX5_pieces_23 hf zc_iconst_1 rfl (Nat.le_of_ble_eq_true rfl) (fun _ => rfl) (fun v23 hf => ?_)
      exact z_loc [1, 0, 2] _ rfl (tU_X5_pieces_26 B N hd4 hh4 s17 v23 x2 hf)
def mU_X5_pieces (N : Nat) (σ : ST) : Option (Int32 × ST) :=
  mU_X5_pieces_4 N σ (0) (0)
set_option maxRecDepth 20000 in
set_option maxHeartbeats 2000000 in
theorem cU_X5_pieces {adr : Nat → Nat} {cI cZ cS : ClassId} {l : Launch} {D : va_G} {N : Nat} {σ : ST} (q : Int32 × ST) (hf : mU_X5_pieces N σ = some q) : zM l D (wdU adr cI cZ cS) yX5_pieces cX5_pieces 3 (some .int) ({ frames := 3, cells := 0, slots := 0, locals := 64 }) [.ref (adr 0)] σ (zi q) := by
  refine zM_of sfU_ok rfl (Nat.le_of_ble_eq_true rfl) [(0, .ref (adr 0))] rfl (fun X hX1 hX2 B => ?_)
  have B : zC X 3 (wdU adr cI cZ cS) cX5_pieces RX5 (some .int) { frames := 3, cells := 0, slots := 0, locals := 64 } := B
  refine z_iconst B (0) dX5_pieces_0 zc_iconst_0 ?_
  refine z_istore_n B [(1, .int (0)), (0, .ref (adr 0))] dX5_pieces_1 rfl (Nat.le_of_ble_eq_true rfl) rfl ?_
  refine z_iconst B (0) dX5_pieces_2 zc_iconst_0 ?_
  refine z_istore_n B [(2, .int (0)), (1, .int (0)), (0, .ref (adr 0))] dX5_pieces_3 rfl (Nat.le_of_ble_eq_true rfl) rfl ?_
  exact z_loc [2, 1, 0] _ rfl (tU_X5_pieces_4 B N σ (0) (0) hf)
theorem dX5_pieceStart_0 : decode cX5_pieceStart 0 = .ok (.iconst 0, 1) := by decide +kernel
theorem dX5_pieceStart_1 : decode cX5_pieceStart 1 = .ok (.istore_n 2, 1) := by decide +kernel
theorem dX5_pieceStart_2 : decode cX5_pieceStart 2 = .ok (.iconst 0, 1) := by decide +kernel
theorem dX5_pieceStart_3 : decode cX5_pieceStart 3 = .ok (.istore_n 3, 1) := by decide +kernel
theorem dX5_pieceStart_4 : decode cX5_pieceStart 4 = .ok (.iload_n 3, 1) := by decide +kernel
theorem dX5_pieceStart_5 : decode cX5_pieceStart 5 = .ok (.aload_n 0, 1) := by decide +kernel
theorem dX5_pieceStart_6 : decode cX5_pieceStart 6 = .ok (.getfield 24, 3) := by decide +kernel
theorem dX5_pieceStart_9 : decode cX5_pieceStart 9 = .ok (.getfield 28, 3) := by decide +kernel
theorem dX5_pieceStart_12 : decode cX5_pieceStart 12 = .ok (.if_icmp .ge 27, 3) := by decide +kernel
theorem dX5_pieceStart_15 : decode cX5_pieceStart 15 = .ok (.aload_n 0, 1) := by decide +kernel
theorem dX5_pieceStart_16 : decode cX5_pieceStart 16 = .ok (.iload_n 3, 1) := by decide +kernel
theorem dX5_pieceStart_17 : decode cX5_pieceStart 17 = .ok (.invokevirtual 42, 3) := by decide +kernel
theorem dX5_pieceStart_20 : decode cX5_pieceStart 20 = .ok (.ifCond .eq 13, 3) := by decide +kernel
theorem dX5_pieceStart_23 : decode cX5_pieceStart 23 = .ok (.iload_n 2, 1) := by decide +kernel
theorem dX5_pieceStart_24 : decode cX5_pieceStart 24 = .ok (.iload_n 1, 1) := by decide +kernel
theorem dX5_pieceStart_25 : decode cX5_pieceStart 25 = .ok (.if_icmp .ne 5, 3) := by decide +kernel
theorem dX5_pieceStart_28 : decode cX5_pieceStart 28 = .ok (.iload_n 3, 1) := by decide +kernel
theorem dX5_pieceStart_29 : decode cX5_pieceStart 29 = .ok (.ireturn, 1) := by decide +kernel
theorem dX5_pieceStart_30 : decode cX5_pieceStart 30 = .ok (.iinc 2 1, 3) := by decide +kernel
theorem dX5_pieceStart_33 : decode cX5_pieceStart 33 = .ok (.iinc 3 1, 3) := by decide +kernel
theorem dX5_pieceStart_36 : decode cX5_pieceStart 36 = .ok (.goto (-32), 3) := by decide +kernel
theorem dX5_pieceStart_39 : decode cX5_pieceStart 39 = .ok (.iconst (-1), 1) := by decide +kernel
theorem dX5_pieceStart_40 : decode cX5_pieceStart 40 = .ok (.ireturn, 1) := by decide +kernel
def mU_X5_pieceStart_33 (N : Nat) (hd4 : ST → Int32 → Int32 → Int32 → Option (Int32 × ST)) (σ : ST) (x1 : Int32) (x2 : Int32) (x3 : Int32) : Option (Int32 × ST) :=
  zLet (x3 + (1)) fun v33 =>
  hd4 σ x1 x2 v33
set_option maxRecDepth 20000 in
set_option maxHeartbeats 2000000 in
theorem tU_X5_pieceStart_33 {adr : Nat → Nat} {cI cZ cS : ClassId} {X : zX} {q : Int32 × ST} (B : zC X 4 (wdU adr cI cZ cS) cX5_pieceStart RX5 (some .int) { frames := 3, cells := 0, slots := 0, locals := 64 }) (N : Nat) (hd4 : ST → Int32 → Int32 → Int32 → Option (Int32 × ST)) (hh4 : ∀ (σ : ST) (x1 : Int32) (x2 : Int32) (x3 : Int32), hd4 σ x1 x2 x3 = some q → zJ X 4 (wdU adr cI cZ cS) (zi q) 4 [(0, .ref (adr 0)), (1, .int x1), (2, .int x2), (3, .int x3)] [] σ) (σ : ST) (x1 : Int32) (x2 : Int32) (x3 : Int32) (hf : mU_X5_pieceStart_33 N hd4 σ x1 x2 x3 = some q) : zJ X 4 (wdU adr cI cZ cS) (zi q) 33 [(0, .ref (adr 0)), (1, .int x1), (2, .int x2), (3, .int x3)] [] σ := by
  refine z_iinc B (1) 3 (fun v33 => [(3, .int v33), (0, .ref (adr 0)), (1, .int x1), (2, .int x2)]) dX5_pieceStart_33 hf zc_iconst_1 rfl (Nat.le_of_ble_eq_true rfl) (fun _ => rfl) (fun v33 hf => ?_)
  refine z_goto B 4 dX5_pieceStart_36 (by decide) ?_
  exact z_loc [1, 2, 3, 0] _ rfl (hh4 σ x1 x2 v33 hf)
def mU_X5_pieceStart_B4 (N : Nat) (hd4 : ST → Int32 → Int32 → Int32 → Option (Int32 × ST)) (σ : ST) (x1 : Int32) (x2 : Int32) (x3 : Int32) : Option (Int32 × ST) :=
  zLet (σ 5 4) fun v9 =>
  if (v9 : Int32) ≤ x3 then
    some ((-1), σ)
  else
    zCall (mU_X5_startsPiece N σ x3) fun v17 s17 =>
    if (v17 : Int32) = 0 then
      mU_X5_pieceStart_33 N hd4 s17 x1 x2 x3
    else
      if (x2 : Int32) = x1 then
        some (x3, s17)
      else
        zLet (x2 + (1)) fun v30 =>
        mU_X5_pieceStart_33 N hd4 s17 x1 v30 x3
def mU_X5_pieceStart_4 (N : Nat) : ST → Int32 → Int32 → Int32 → Option (Int32 × ST) := zIt (mU_X5_pieceStart_B4 N) (fun _ _ _ _ => none) N
set_option maxRecDepth 20000 in
set_option maxHeartbeats 2000000 in
theorem tU_X5_pieceStart_4 {adr : Nat → Nat} {cI cZ cS : ClassId} {X : zX} {q : Int32 × ST} (B : zC X 4 (wdU adr cI cZ cS) cX5_pieceStart RX5 (some .int) { frames := 3, cells := 0, slots := 0, locals := 64 }) (N : Nat) : ∀ (σ : ST) (x1 : Int32) (x2 : Int32) (x3 : Int32), mU_X5_pieceStart_4 N σ x1 x2 x3 = some q → zJ X 4 (wdU adr cI cZ cS) (zi q) 4 [(0, .ref (adr 0)), (1, .int x1), (2, .int x2), (3, .int x3)] [] σ := by
  refine zIt_ind (P := fun (hd : ST → Int32 → Int32 → Int32 → Option (Int32 × ST)) => ∀ (σ : ST) (x1 : Int32) (x2 : Int32) (x3 : Int32), hd σ x1 x2 x3 = some q → zJ X 4 (wdU adr cI cZ cS) (zi q) 4 [(0, .ref (adr 0)), (1, .int x1), (2, .int x2), (3, .int x3)] [] σ) (fun _ _ _ _ hf => by cases hf) (fun hd4 hh4 => ?_) N
  intro σ x1 x2 x3 hf
  refine z_iload_n B dX5_pieceStart_4 3 rfl rfl ?_
  refine z_aload_n B dX5_pieceStart_5 0 rfl rfl ?_
  refine fU_g_X5_U_history B dX5_pieceStart_6 ?_
  refine fU_g_X5_H_length B dX5_pieceStart_9 hf (fun v9 hf => ?_)
  refine z_icmp_ge B 39 dX5_pieceStart_12 (by decide) hf (fun hf => ?_) (fun hf => ?_)
  · refine z_iconst B (-1) dX5_pieceStart_39 zc_iconst_m1 ?_
    exact z_ireturn B dX5_pieceStart_40 hf
  · refine z_aload_n B dX5_pieceStart_15 0 rfl rfl ?_
    refine z_iload_n B dX5_pieceStart_16 3 rfl rfl ?_
    refine z_callVi B (As := [.int x3]) kcV_X5_42 dX5_pieceStart_17 hf (fun q hq => cU_X5_startsPiece q hq) (wU_o_U (adr := adr) (cI := cI) (cZ := cZ) (cS := cS)) rfl rfl rfl rfl (Nat.le_of_ble_eq_true rfl) rfl rfl ⟨Nat.le_of_ble_eq_true rfl, Nat.le_of_ble_eq_true rfl⟩ (fun v17 s17 hf => ?_)
    refine z_if_eq B 33 dX5_pieceStart_20 (by decide) hf (fun hf => ?_) (fun hf => ?_)
    · exact tU_X5_pieceStart_33 B N hd4 hh4 s17 x1 x2 x3 hf
    · refine z_iload_n B dX5_pieceStart_23 2 rfl rfl ?_
      refine z_iload_n B dX5_pieceStart_24 1 rfl rfl ?_
      refine z_icmp_ne B 30 dX5_pieceStart_25 (by decide) hf (fun hf => ?_) (fun hf => ?_)
      · refine z_iinc B (1) 2 (fun v30 => [(2, .int v30), (0, .ref (adr 0)), (1, .int x1), (3, .int x3)]) dX5_pieceStart_30 hf zc_iconst_1 rfl (Nat.le_of_ble_eq_true rfl) (fun _ => rfl) (fun v30 hf => ?_)
        exact z_loc [1, 2, 0, 3] _ rfl (tU_X5_pieceStart_33 B N hd4 hh4 s17 x1 v30 x3 hf)
      · refine z_iload_n B dX5_pieceStart_28 3 rfl rfl ?_
        exact z_ireturn B dX5_pieceStart_29 hf
def mU_X5_pieceStart (N : Nat) (σ : ST) (x1 : Int32) : Option (Int32 × ST) :=
  mU_X5_pieceStart_4 N σ x1 (0) (0)
set_option maxRecDepth 20000 in
set_option maxHeartbeats 2000000 in
theorem cU_X5_pieceStart {adr : Nat → Nat} {cI cZ cS : ClassId} {l : Launch} {D : va_G} {N : Nat} {σ : ST} {x1 : Int32} (q : Int32 × ST) (hf : mU_X5_pieceStart N σ x1 = some q) : zM l D (wdU adr cI cZ cS) yX5_pieceStart cX5_pieceStart 4 (some .int) ({ frames := 3, cells := 0, slots := 0, locals := 64 }) [.ref (adr 0), .int x1] σ (zi q) := by
  refine zM_of sfU_ok rfl (Nat.le_of_ble_eq_true rfl) [(0, .ref (adr 0)), (1, .int x1)] rfl (fun X hX1 hX2 B => ?_)
  have B : zC X 4 (wdU adr cI cZ cS) cX5_pieceStart RX5 (some .int) { frames := 3, cells := 0, slots := 0, locals := 64 } := B
  refine z_iconst B (0) dX5_pieceStart_0 zc_iconst_0 ?_
  refine z_istore_n B [(2, .int (0)), (0, .ref (adr 0)), (1, .int x1)] dX5_pieceStart_1 rfl (Nat.le_of_ble_eq_true rfl) rfl ?_
  refine z_iconst B (0) dX5_pieceStart_2 zc_iconst_0 ?_
  refine z_istore_n B [(3, .int (0)), (2, .int (0)), (0, .ref (adr 0)), (1, .int x1)] dX5_pieceStart_3 rfl (Nat.le_of_ble_eq_true rfl) rfl ?_
  exact z_loc [2, 3, 1, 0] _ rfl (tU_X5_pieceStart_4 B N σ x1 (0) (0) hf)
theorem dX5_pieceLength_0 : decode cX5_pieceLength 0 = .ok (.iload_n 1, 1) := by decide +kernel
theorem dX5_pieceLength_1 : decode cX5_pieceLength 1 = .ok (.iconst 1, 1) := by decide +kernel
theorem dX5_pieceLength_2 : decode cX5_pieceLength 2 = .ok (.iadd, 1) := by decide +kernel
theorem dX5_pieceLength_3 : decode cX5_pieceLength 3 = .ok (.istore_n 2, 1) := by decide +kernel
theorem dX5_pieceLength_4 : decode cX5_pieceLength 4 = .ok (.iload_n 2, 1) := by decide +kernel
theorem dX5_pieceLength_5 : decode cX5_pieceLength 5 = .ok (.aload_n 0, 1) := by decide +kernel
theorem dX5_pieceLength_6 : decode cX5_pieceLength 6 = .ok (.getfield 24, 3) := by decide +kernel
theorem dX5_pieceLength_9 : decode cX5_pieceLength 9 = .ok (.getfield 28, 3) := by decide +kernel
theorem dX5_pieceLength_12 : decode cX5_pieceLength 12 = .ok (.if_icmp .ge 17, 3) := by decide +kernel
theorem dX5_pieceLength_15 : decode cX5_pieceLength 15 = .ok (.aload_n 0, 1) := by decide +kernel
theorem dX5_pieceLength_16 : decode cX5_pieceLength 16 = .ok (.iload_n 2, 1) := by decide +kernel
theorem dX5_pieceLength_17 : decode cX5_pieceLength 17 = .ok (.invokevirtual 42, 3) := by decide +kernel
theorem dX5_pieceLength_20 : decode cX5_pieceLength 20 = .ok (.ifCond .ne 9, 3) := by decide +kernel
theorem dX5_pieceLength_23 : decode cX5_pieceLength 23 = .ok (.iinc 2 1, 3) := by decide +kernel
theorem dX5_pieceLength_26 : decode cX5_pieceLength 26 = .ok (.goto (-22), 3) := by decide +kernel
theorem dX5_pieceLength_29 : decode cX5_pieceLength 29 = .ok (.iload_n 2, 1) := by decide +kernel
theorem dX5_pieceLength_30 : decode cX5_pieceLength 30 = .ok (.iload_n 1, 1) := by decide +kernel
theorem dX5_pieceLength_31 : decode cX5_pieceLength 31 = .ok (.isub, 1) := by decide +kernel
theorem dX5_pieceLength_32 : decode cX5_pieceLength 32 = .ok (.ireturn, 1) := by decide +kernel
def mU_X5_pieceLength_29 (N : Nat) (σ : ST) (x1 : Int32) (x2 : Int32) : Option (Int32 × ST) :=
  zLet ((x2 : Int32) - x1) fun v31 =>
  some (v31, σ)
set_option maxRecDepth 20000 in
set_option maxHeartbeats 2000000 in
theorem tU_X5_pieceLength_29 {adr : Nat → Nat} {cI cZ cS : ClassId} {X : zX} {q : Int32 × ST} (B : zC X 3 (wdU adr cI cZ cS) cX5_pieceLength RX5 (some .int) { frames := 3, cells := 0, slots := 0, locals := 64 }) (N : Nat) (σ : ST) (x1 : Int32) (x2 : Int32) (hf : mU_X5_pieceLength_29 N σ x1 x2 = some q) : zJ X 3 (wdU adr cI cZ cS) (zi q) 29 [(0, .ref (adr 0)), (1, .int x1), (2, .int x2)] [] σ := by
  refine z_iload_n B dX5_pieceLength_29 2 rfl rfl ?_
  refine z_iload_n B dX5_pieceLength_30 1 rfl rfl ?_
  refine z_isub B dX5_pieceLength_31 hf (fun v31 hf => ?_)
  exact z_ireturn B dX5_pieceLength_32 hf
def mU_X5_pieceLength_B4 (N : Nat) (hd4 : ST → Int32 → Int32 → Option (Int32 × ST)) (σ : ST) (x1 : Int32) (x2 : Int32) : Option (Int32 × ST) :=
  zLet (σ 5 4) fun v9 =>
  if (v9 : Int32) ≤ x2 then
    mU_X5_pieceLength_29 N σ x1 x2
  else
    zCall (mU_X5_startsPiece N σ x2) fun v17 s17 =>
    if (v17 : Int32) = 0 then
      zLet (x2 + (1)) fun v23 =>
      hd4 s17 x1 v23
    else
      mU_X5_pieceLength_29 N s17 x1 x2
def mU_X5_pieceLength_4 (N : Nat) : ST → Int32 → Int32 → Option (Int32 × ST) := zIt (mU_X5_pieceLength_B4 N) (fun _ _ _ => none) N
set_option maxRecDepth 20000 in
set_option maxHeartbeats 2000000 in
theorem tU_X5_pieceLength_4 {adr : Nat → Nat} {cI cZ cS : ClassId} {X : zX} {q : Int32 × ST} (B : zC X 3 (wdU adr cI cZ cS) cX5_pieceLength RX5 (some .int) { frames := 3, cells := 0, slots := 0, locals := 64 }) (N : Nat) : ∀ (σ : ST) (x1 : Int32) (x2 : Int32), mU_X5_pieceLength_4 N σ x1 x2 = some q → zJ X 3 (wdU adr cI cZ cS) (zi q) 4 [(0, .ref (adr 0)), (1, .int x1), (2, .int x2)] [] σ := by
  refine zIt_ind (P := fun (hd : ST → Int32 → Int32 → Option (Int32 × ST)) => ∀ (σ : ST) (x1 : Int32) (x2 : Int32), hd σ x1 x2 = some q → zJ X 3 (wdU adr cI cZ cS) (zi q) 4 [(0, .ref (adr 0)), (1, .int x1), (2, .int x2)] [] σ) (fun _ _ _ hf => by cases hf) (fun hd4 hh4 => ?_) N
  intro σ x1 x2 hf
  refine z_iload_n B dX5_pieceLength_4 2 rfl rfl ?_
  refine z_aload_n B dX5_pieceLength_5 0 rfl rfl ?_
  refine fU_g_X5_U_history B dX5_pieceLength_6 ?_
  refine fU_g_X5_H_length B dX5_pieceLength_9 hf (fun v9 hf => ?_)
  refine z_icmp_ge B 29 dX5_pieceLength_12 (by decide) hf (fun hf => ?_) (fun hf => ?_)
  · exact tU_X5_pieceLength_29 B N σ x1 x2 hf
  · refine z_aload_n B dX5_pieceLength_15 0 rfl rfl ?_
    refine z_iload_n B dX5_pieceLength_16 2 rfl rfl ?_
    refine z_callVi B (As := [.int x2]) kcV_X5_42 dX5_pieceLength_17 hf (fun q hq => cU_X5_startsPiece q hq) (wU_o_U (adr := adr) (cI := cI) (cZ := cZ) (cS := cS)) rfl rfl rfl rfl (Nat.le_of_ble_eq_true rfl) rfl rfl ⟨Nat.le_of_ble_eq_true rfl, Nat.le_of_ble_eq_true rfl⟩ (fun v17 s17 hf => ?_)
    refine z_if_ne B 29 dX5_pieceLength_20 (by decide) hf (fun hf => ?_) (fun hf => ?_)
    · exact tU_X5_pieceLength_29 B N s17 x1 x2 hf
    · refine z_iinc B (1) 2 (fun v23 => [(2, .int v23), (0, .ref (adr 0)), (1, .int x1)]) dX5_pieceLength_23 hf zc_iconst_1 rfl (Nat.le_of_ble_eq_true rfl) (fun _ => rfl) (fun v23 hf => ?_)
      refine z_goto B 4 dX5_pieceLength_26 (by decide) ?_
      exact z_loc [1, 2, 0] _ rfl (hh4 s17 x1 v23 hf)
def mU_X5_pieceLength (N : Nat) (σ : ST) (x1 : Int32) : Option (Int32 × ST) :=
  zLet ((x1 : Int32) + (1)) fun v2 =>
  mU_X5_pieceLength_4 N σ x1 v2
set_option maxRecDepth 20000 in
set_option maxHeartbeats 2000000 in
theorem cU_X5_pieceLength {adr : Nat → Nat} {cI cZ cS : ClassId} {l : Launch} {D : va_G} {N : Nat} {σ : ST} {x1 : Int32} (q : Int32 × ST) (hf : mU_X5_pieceLength N σ x1 = some q) : zM l D (wdU adr cI cZ cS) yX5_pieceLength cX5_pieceLength 3 (some .int) ({ frames := 3, cells := 0, slots := 0, locals := 64 }) [.ref (adr 0), .int x1] σ (zi q) := by
  refine zM_of sfU_ok rfl (Nat.le_of_ble_eq_true rfl) [(0, .ref (adr 0)), (1, .int x1)] rfl (fun X hX1 hX2 B => ?_)
  have B : zC X 3 (wdU adr cI cZ cS) cX5_pieceLength RX5 (some .int) { frames := 3, cells := 0, slots := 0, locals := 64 } := B
  refine z_iload_n B dX5_pieceLength_0 1 rfl rfl ?_
  refine z_iconst B (1) dX5_pieceLength_1 zc_iconst_1 ?_
  refine z_iadd B dX5_pieceLength_2 hf (fun v2 hf => ?_)
  refine z_istore_n B [(2, .int v2), (0, .ref (adr 0)), (1, .int x1)] dX5_pieceLength_3 rfl (Nat.le_of_ble_eq_true rfl) rfl ?_
  exact z_loc [1, 2, 0] _ rfl (tU_X5_pieceLength_4 B N σ x1 v2 hf)
theorem dX5_longestPiece_0 : decode cX5_longestPiece 0 = .ok (.iconst 0, 1) := by decide +kernel
theorem dX5_longestPiece_1 : decode cX5_longestPiece 1 = .ok (.istore_n 1, 1) := by decide +kernel
theorem dX5_longestPiece_2 : decode cX5_longestPiece 2 = .ok (.iconst 0, 1) := by decide +kernel
theorem dX5_longestPiece_3 : decode cX5_longestPiece 3 = .ok (.istore_n 2, 1) := by decide +kernel
theorem dX5_longestPiece_4 : decode cX5_longestPiece 4 = .ok (.iconst 0, 1) := by decide +kernel
theorem dX5_longestPiece_5 : decode cX5_longestPiece 5 = .ok (.istore_n 3, 1) := by decide +kernel
theorem dX5_longestPiece_6 : decode cX5_longestPiece 6 = .ok (.iload_n 3, 1) := by decide +kernel
theorem dX5_longestPiece_7 : decode cX5_longestPiece 7 = .ok (.aload_n 0, 1) := by decide +kernel
theorem dX5_longestPiece_8 : decode cX5_longestPiece 8 = .ok (.getfield 24, 3) := by decide +kernel
theorem dX5_longestPiece_11 : decode cX5_longestPiece 11 = .ok (.getfield 28, 3) := by decide +kernel
theorem dX5_longestPiece_14 : decode cX5_longestPiece 14 = .ok (.if_icmp .ge 31, 3) := by decide +kernel
theorem dX5_longestPiece_17 : decode cX5_longestPiece 17 = .ok (.aload_n 0, 1) := by decide +kernel
theorem dX5_longestPiece_18 : decode cX5_longestPiece 18 = .ok (.iload_n 3, 1) := by decide +kernel
theorem dX5_longestPiece_19 : decode cX5_longestPiece 19 = .ok (.invokevirtual 42, 3) := by decide +kernel
theorem dX5_longestPiece_22 : decode cX5_longestPiece 22 = .ok (.ifCond .eq 7, 3) := by decide +kernel
theorem dX5_longestPiece_25 : decode cX5_longestPiece 25 = .ok (.iconst 1, 1) := by decide +kernel
theorem dX5_longestPiece_26 : decode cX5_longestPiece 26 = .ok (.goto 6, 3) := by decide +kernel
theorem dX5_longestPiece_29 : decode cX5_longestPiece 29 = .ok (.iload_n 2, 1) := by decide +kernel
theorem dX5_longestPiece_30 : decode cX5_longestPiece 30 = .ok (.iconst 1, 1) := by decide +kernel
theorem dX5_longestPiece_31 : decode cX5_longestPiece 31 = .ok (.iadd, 1) := by decide +kernel
theorem dX5_longestPiece_32 : decode cX5_longestPiece 32 = .ok (.istore_n 2, 1) := by decide +kernel
theorem dX5_longestPiece_33 : decode cX5_longestPiece 33 = .ok (.iload_n 1, 1) := by decide +kernel
theorem dX5_longestPiece_34 : decode cX5_longestPiece 34 = .ok (.iload_n 2, 1) := by decide +kernel
theorem dX5_longestPiece_35 : decode cX5_longestPiece 35 = .ok (.invokestatic 46, 3) := by decide +kernel
theorem dX5_longestPiece_38 : decode cX5_longestPiece 38 = .ok (.istore_n 1, 1) := by decide +kernel
theorem dX5_longestPiece_39 : decode cX5_longestPiece 39 = .ok (.iinc 3 1, 3) := by decide +kernel
theorem dX5_longestPiece_42 : decode cX5_longestPiece 42 = .ok (.goto (-36), 3) := by decide +kernel
theorem dX5_longestPiece_45 : decode cX5_longestPiece 45 = .ok (.iload_n 1, 1) := by decide +kernel
theorem dX5_longestPiece_46 : decode cX5_longestPiece 46 = .ok (.ireturn, 1) := by decide +kernel
def mU_X5_longestPiece_32 (N : Nat) (hd6 : ST → Int32 → Int32 → Int32 → Option (Int32 × ST)) (σ : ST) (x1 : Int32) (x2 : Int32) (x3 : Int32) (k0 : Int32) : Option (Int32 × ST) :=
  zLet (if (x1 : Int32) < k0 then k0 else x1) fun v35 =>
  zLet (x3 + (1)) fun v39 =>
  hd6 σ v35 k0 v39
set_option maxRecDepth 20000 in
set_option maxHeartbeats 2000000 in
theorem tU_X5_longestPiece_32 {adr : Nat → Nat} {cI cZ cS : ClassId} {X : zX} {q : Int32 × ST} (B : zC X 4 (wdU adr cI cZ cS) cX5_longestPiece RX5 (some .int) { frames := 3, cells := 0, slots := 0, locals := 64 }) (N : Nat) (hd6 : ST → Int32 → Int32 → Int32 → Option (Int32 × ST)) (hh6 : ∀ (σ : ST) (x1 : Int32) (x2 : Int32) (x3 : Int32), hd6 σ x1 x2 x3 = some q → zJ X 4 (wdU adr cI cZ cS) (zi q) 6 [(0, .ref (adr 0)), (1, .int x1), (2, .int x2), (3, .int x3)] [] σ) (σ : ST) (x1 : Int32) (x2 : Int32) (x3 : Int32) (k0 : Int32) (hf : mU_X5_longestPiece_32 N hd6 σ x1 x2 x3 k0 = some q) : zJ X 4 (wdU adr cI cZ cS) (zi q) 32 [(0, .ref (adr 0)), (1, .int x1), (2, .int x2), (3, .int x3)] [.int k0] σ := by
  refine z_istore_n B [(2, .int k0), (0, .ref (adr 0)), (1, .int x1), (3, .int x3)] dX5_longestPiece_32 rfl (Nat.le_of_ble_eq_true rfl) rfl ?_
  refine z_iload_n B dX5_longestPiece_33 2 rfl rfl ?_
  refine z_iload_n B dX5_longestPiece_34 0 rfl rfl ?_
  refine z_mmax B kw_736 kmS_max kmI kmC_max (Nat.le_of_ble_eq_true rfl) (Nat.le_of_ble_eq_true rfl) dX5_longestPiece_35 hf (fun v35 hf => ?_)
  refine z_istore_n B [(1, .int v35), (2, .int k0), (0, .ref (adr 0)), (3, .int x3)] dX5_longestPiece_38 rfl (Nat.le_of_ble_eq_true rfl) rfl ?_
  refine z_iinc B (1) 3 (fun v39 => [(3, .int v39), (1, .int v35), (2, .int k0), (0, .ref (adr 0))]) dX5_longestPiece_39 hf zc_iconst_1 rfl (Nat.le_of_ble_eq_true rfl) (fun _ => rfl) (fun v39 hf => ?_)
  refine z_goto B 6 dX5_longestPiece_42 (by decide) ?_
  exact z_loc [3, 1, 2, 0] _ rfl (hh6 σ v35 k0 v39 hf)
def mU_X5_longestPiece_B6 (N : Nat) (hd6 : ST → Int32 → Int32 → Int32 → Option (Int32 × ST)) (σ : ST) (x1 : Int32) (x2 : Int32) (x3 : Int32) : Option (Int32 × ST) :=
  zLet (σ 5 4) fun v11 =>
  if (v11 : Int32) ≤ x3 then
    some (x1, σ)
  else
    zCall (mU_X5_startsPiece N σ x3) fun v19 s19 =>
    if (v19 : Int32) = 0 then
      zLet ((x2 : Int32) + (1)) fun v31 =>
      mU_X5_longestPiece_32 N hd6 s19 x1 x2 x3 v31
    else
      mU_X5_longestPiece_32 N hd6 s19 x1 x2 x3 (1)
def mU_X5_longestPiece_6 (N : Nat) : ST → Int32 → Int32 → Int32 → Option (Int32 × ST) := zIt (mU_X5_longestPiece_B6 N) (fun _ _ _ _ => none) N
set_option maxRecDepth 20000 in
set_option maxHeartbeats 2000000 in
theorem tU_X5_longestPiece_6 {adr : Nat → Nat} {cI cZ cS : ClassId} {X : zX} {q : Int32 × ST} (B : zC X 4 (wdU adr cI cZ cS) cX5_longestPiece RX5 (some .int) { frames := 3, cells := 0, slots := 0, locals := 64 }) (N : Nat) : ∀ (σ : ST) (x1 : Int32) (x2 : Int32) (x3 : Int32), mU_X5_longestPiece_6 N σ x1 x2 x3 = some q → zJ X 4 (wdU adr cI cZ cS) (zi q) 6 [(0, .ref (adr 0)), (1, .int x1), (2, .int x2), (3, .int x3)] [] σ := by
  refine zIt_ind (P := fun (hd : ST → Int32 → Int32 → Int32 → Option (Int32 × ST)) => ∀ (σ : ST) (x1 : Int32) (x2 : Int32) (x3 : Int32), hd σ x1 x2 x3 = some q → zJ X 4 (wdU adr cI cZ cS) (zi q) 6 [(0, .ref (adr 0)), (1, .int x1), (2, .int x2), (3, .int x3)] [] σ) (fun _ _ _ _ hf => by cases hf) (fun hd6 hh6 => ?_) N
  intro σ x1 x2 x3 hf
  refine z_iload_n B dX5_longestPiece_6 3 rfl rfl ?_
  refine z_aload_n B dX5_longestPiece_7 0 rfl rfl ?_
  refine fU_g_X5_U_history B dX5_longestPiece_8 ?_
  refine fU_g_X5_H_length B dX5_longestPiece_11 hf (fun v11 hf => ?_)
  refine z_icmp_ge B 45 dX5_longestPiece_14 (by decide) hf (fun hf => ?_) (fun hf => ?_)
  · refine z_iload_n B dX5_longestPiece_45 1 rfl rfl ?_
    exact z_ireturn B dX5_longestPiece_46 hf
  · refine z_aload_n B dX5_longestPiece_17 0 rfl rfl ?_
    refine z_iload_n B dX5_longestPiece_18 3 rfl rfl ?_
    refine z_callVi B (As := [.int x3]) kcV_X5_42 dX5_longestPiece_19 hf (fun q hq => cU_X5_startsPiece q hq) (wU_o_U (adr := adr) (cI := cI) (cZ := cZ) (cS := cS)) rfl rfl rfl rfl (Nat.le_of_ble_eq_true rfl) rfl rfl ⟨Nat.le_of_ble_eq_true rfl, Nat.le_of_ble_eq_true rfl⟩ (fun v19 s19 hf => ?_)
    refine z_if_eq B 29 dX5_longestPiece_22 (by decide) hf (fun hf => ?_) (fun hf => ?_)
    · refine z_iload_n B dX5_longestPiece_29 2 rfl rfl ?_
      refine z_iconst B (1) dX5_longestPiece_30 zc_iconst_1 ?_
      refine z_iadd B dX5_longestPiece_31 hf (fun v31 hf => ?_)
      exact tU_X5_longestPiece_32 B N hd6 hh6 s19 x1 x2 x3 v31 hf
    · refine z_iconst B (1) dX5_longestPiece_25 zc_iconst_1 ?_
      refine z_goto B 32 dX5_longestPiece_26 (by decide) ?_
      exact tU_X5_longestPiece_32 B N hd6 hh6 s19 x1 x2 x3 (1) hf
def mU_X5_longestPiece (N : Nat) (σ : ST) : Option (Int32 × ST) :=
  mU_X5_longestPiece_6 N σ (0) (0) (0)
set_option maxRecDepth 20000 in
set_option maxHeartbeats 2000000 in
theorem cU_X5_longestPiece {adr : Nat → Nat} {cI cZ cS : ClassId} {l : Launch} {D : va_G} {N : Nat} {σ : ST} (q : Int32 × ST) (hf : mU_X5_longestPiece N σ = some q) : zM l D (wdU adr cI cZ cS) yX5_longestPiece cX5_longestPiece 4 (some .int) ({ frames := 3, cells := 0, slots := 0, locals := 64 }) [.ref (adr 0)] σ (zi q) := by
  refine zM_of sfU_ok rfl (Nat.le_of_ble_eq_true rfl) [(0, .ref (adr 0))] rfl (fun X hX1 hX2 B => ?_)
  have B : zC X 4 (wdU adr cI cZ cS) cX5_longestPiece RX5 (some .int) { frames := 3, cells := 0, slots := 0, locals := 64 } := B
  refine z_iconst B (0) dX5_longestPiece_0 zc_iconst_0 ?_
  refine z_istore_n B [(1, .int (0)), (0, .ref (adr 0))] dX5_longestPiece_1 rfl (Nat.le_of_ble_eq_true rfl) rfl ?_
  refine z_iconst B (0) dX5_longestPiece_2 zc_iconst_0 ?_
  refine z_istore_n B [(2, .int (0)), (1, .int (0)), (0, .ref (adr 0))] dX5_longestPiece_3 rfl (Nat.le_of_ble_eq_true rfl) rfl ?_
  refine z_iconst B (0) dX5_longestPiece_4 zc_iconst_0 ?_
  refine z_istore_n B [(3, .int (0)), (2, .int (0)), (1, .int (0)), (0, .ref (adr 0))] dX5_longestPiece_5 rfl (Nat.le_of_ble_eq_true rfl) rfl ?_
  exact z_loc [3, 2, 1, 0] _ rfl (tU_X5_longestPiece_6 B N σ (0) (0) (0) hf)
def mU_X3_numberAt_20 (N : Nat) (σ : ST) (x1 : Int32) (x2 : Int32) (k0 : Int32) : Option (Int32 × ST) :=
  some (k0, σ)
set_option maxRecDepth 20000 in
set_option maxHeartbeats 2000000 in
theorem tU_X3_numberAt_20 {adr : Nat → Nat} {cI cZ cS : ClassId} {X : zX} {q : Int32 × ST} (B : zC X 3 (wdU adr cI cZ cS) cX3_numberAt RX3 (some .int) { frames := 1, cells := 0, slots := 0, locals := 21 }) (N : Nat) (σ : ST) (x1 : Int32) (x2 : Int32) (k0 : Int32) (hf : mU_X3_numberAt_20 N σ x1 x2 k0 = some q) : zJ X 3 (wdU adr cI cZ cS) (zi q) 20 [(0, .ref (adr 5)), (1, .int x1), (2, .int x2)] [.int k0] σ := by
  exact z_ireturn B dX3_numberAt_20 hf
def mU_X3_numberAt (N : Nat) (σ : ST) (x1 : Int32) : Option (Int32 × ST) :=
  zCall (mU_X3_cellOf N σ x1) fun v2 s2 =>
  if (0 : Int32) ≤ v2 then
    zGet (s2 7) 400 v2 fun v19 =>
    mU_X3_numberAt_20 N s2 x1 v2 v19
  else
    mU_X3_numberAt_20 N s2 x1 v2 (-1)
set_option maxRecDepth 20000 in
set_option maxHeartbeats 2000000 in
theorem cU_X3_numberAt {adr : Nat → Nat} {cI cZ cS : ClassId} {l : Launch} {D : va_G} {N : Nat} {σ : ST} {x1 : Int32} (q : Int32 × ST) (hf : mU_X3_numberAt N σ x1 = some q) : zM l D (wdU adr cI cZ cS) yX3_numberAt cX3_numberAt 3 (some .int) ({ frames := 1, cells := 0, slots := 0, locals := 21 }) [.ref (adr 5), .int x1] σ (zi q) := by
  refine zM_of sfU_ok rfl (Nat.le_of_ble_eq_true rfl) [(0, .ref (adr 5)), (1, .int x1)] rfl (fun X hX1 hX2 B => ?_)
  have B : zC X 3 (wdU adr cI cZ cS) cX3_numberAt RX3 (some .int) { frames := 1, cells := 0, slots := 0, locals := 21 } := B
  refine z_aload_n B dX3_numberAt_0 0 rfl rfl ?_
  refine z_iload_n B dX3_numberAt_1 1 rfl rfl ?_
  refine z_callVi B (As := [.int x1]) kcV_X3_28 dX3_numberAt_2 hf (fun q hq => cU_X3_cellOf q hq) (wU_o_H (adr := adr) (cI := cI) (cZ := cZ) (cS := cS)) rfl rfl rfl rfl (Nat.le_of_ble_eq_true rfl) rfl rfl ⟨Nat.le_of_ble_eq_true rfl, Nat.le_of_ble_eq_true rfl⟩ (fun v2 s2 hf => ?_)
  refine z_istore_n B [(2, .int v2), (0, .ref (adr 5)), (1, .int x1)] dX3_numberAt_5 rfl (Nat.le_of_ble_eq_true rfl) rfl ?_
  refine z_iload_n B dX3_numberAt_6 0 rfl rfl ?_
  refine z_if_ge B 14 dX3_numberAt_7 (by decide) hf (fun hf => ?_) (fun hf => ?_)
  · refine z_aload_n B dX3_numberAt_14 1 rfl rfl ?_
    refine fU_g_X3_H_numbers B dX3_numberAt_15 ?_
    refine z_iload_n B dX3_numberAt_18 0 rfl rfl ?_
    refine fU_l_H_numbers B dX3_numberAt_19 hf (fun v19 hf => ?_)
    exact z_loc [1, 2, 0] _ rfl (tU_X3_numberAt_20 B N s2 x1 v2 v19 hf)
  · refine z_iconst B (-1) dX3_numberAt_10 zc_iconst_m1 ?_
    refine z_goto B 20 dX3_numberAt_11 (by decide) ?_
    exact z_loc [1, 2, 0] _ rfl (tU_X3_numberAt_20 B N s2 x1 v2 (-1) hf)
theorem dX5_changesOfStream_0 : decode cX5_changesOfStream 0 = .ok (.iconst 0, 1) := by decide +kernel
theorem dX5_changesOfStream_1 : decode cX5_changesOfStream 1 = .ok (.istore_n 1, 1) := by decide +kernel
theorem dX5_changesOfStream_2 : decode cX5_changesOfStream 2 = .ok (.iconst 1, 1) := by decide +kernel
theorem dX5_changesOfStream_3 : decode cX5_changesOfStream 3 = .ok (.istore_n 2, 1) := by decide +kernel
theorem dX5_changesOfStream_4 : decode cX5_changesOfStream 4 = .ok (.iload_n 2, 1) := by decide +kernel
theorem dX5_changesOfStream_5 : decode cX5_changesOfStream 5 = .ok (.aload_n 0, 1) := by decide +kernel
theorem dX5_changesOfStream_6 : decode cX5_changesOfStream 6 = .ok (.getfield 24, 3) := by decide +kernel
theorem dX5_changesOfStream_9 : decode cX5_changesOfStream 9 = .ok (.getfield 28, 3) := by decide +kernel
theorem dX5_changesOfStream_12 : decode cX5_changesOfStream 12 = .ok (.if_icmp .ge 33, 3) := by decide +kernel
theorem dX5_changesOfStream_15 : decode cX5_changesOfStream 15 = .ok (.aload_n 0, 1) := by decide +kernel
theorem dX5_changesOfStream_16 : decode cX5_changesOfStream 16 = .ok (.getfield 24, 3) := by decide +kernel
theorem dX5_changesOfStream_19 : decode cX5_changesOfStream 19 = .ok (.iload_n 2, 1) := by decide +kernel
theorem dX5_changesOfStream_20 : decode cX5_changesOfStream 20 = .ok (.invokevirtual 52, 3) := by decide +kernel
theorem dX5_changesOfStream_23 : decode cX5_changesOfStream 23 = .ok (.aload_n 0, 1) := by decide +kernel
theorem dX5_changesOfStream_24 : decode cX5_changesOfStream 24 = .ok (.getfield 24, 3) := by decide +kernel
theorem dX5_changesOfStream_27 : decode cX5_changesOfStream 27 = .ok (.iload_n 2, 1) := by decide +kernel
theorem dX5_changesOfStream_28 : decode cX5_changesOfStream 28 = .ok (.iconst 1, 1) := by decide +kernel
theorem dX5_changesOfStream_29 : decode cX5_changesOfStream 29 = .ok (.isub, 1) := by decide +kernel
theorem dX5_changesOfStream_30 : decode cX5_changesOfStream 30 = .ok (.invokevirtual 52, 3) := by decide +kernel
theorem dX5_changesOfStream_33 : decode cX5_changesOfStream 33 = .ok (.if_icmp .eq 6, 3) := by decide +kernel
theorem dX5_changesOfStream_36 : decode cX5_changesOfStream 36 = .ok (.iinc 1 1, 3) := by decide +kernel
theorem dX5_changesOfStream_39 : decode cX5_changesOfStream 39 = .ok (.iinc 2 1, 3) := by decide +kernel
theorem dX5_changesOfStream_42 : decode cX5_changesOfStream 42 = .ok (.goto (-38), 3) := by decide +kernel
theorem dX5_changesOfStream_45 : decode cX5_changesOfStream 45 = .ok (.iload_n 1, 1) := by decide +kernel
theorem dX5_changesOfStream_46 : decode cX5_changesOfStream 46 = .ok (.ireturn, 1) := by decide +kernel
def mU_X5_changesOfStream_39 (N : Nat) (hd4 : ST → Int32 → Int32 → Option (Int32 × ST)) (σ : ST) (x1 : Int32) (x2 : Int32) : Option (Int32 × ST) :=
  zLet (x2 + (1)) fun v39 =>
  hd4 σ x1 v39
set_option maxRecDepth 20000 in
set_option maxHeartbeats 2000000 in
theorem tU_X5_changesOfStream_39 {adr : Nat → Nat} {cI cZ cS : ClassId} {X : zX} {q : Int32 × ST} (B : zC X 3 (wdU adr cI cZ cS) cX5_changesOfStream RX5 (some .int) { frames := 2, cells := 0, slots := 0, locals := 43 }) (N : Nat) (hd4 : ST → Int32 → Int32 → Option (Int32 × ST)) (hh4 : ∀ (σ : ST) (x1 : Int32) (x2 : Int32), hd4 σ x1 x2 = some q → zJ X 3 (wdU adr cI cZ cS) (zi q) 4 [(0, .ref (adr 0)), (1, .int x1), (2, .int x2)] [] σ) (σ : ST) (x1 : Int32) (x2 : Int32) (hf : mU_X5_changesOfStream_39 N hd4 σ x1 x2 = some q) : zJ X 3 (wdU adr cI cZ cS) (zi q) 39 [(0, .ref (adr 0)), (1, .int x1), (2, .int x2)] [] σ := by
  refine z_iinc B (1) 2 (fun v39 => [(2, .int v39), (0, .ref (adr 0)), (1, .int x1)]) dX5_changesOfStream_39 hf zc_iconst_1 rfl (Nat.le_of_ble_eq_true rfl) (fun _ => rfl) (fun v39 hf => ?_)
  refine z_goto B 4 dX5_changesOfStream_42 (by decide) ?_
  exact z_loc [1, 2, 0] _ rfl (hh4 σ x1 v39 hf)
def mU_X5_changesOfStream_B4 (N : Nat) (hd4 : ST → Int32 → Int32 → Option (Int32 × ST)) (σ : ST) (x1 : Int32) (x2 : Int32) : Option (Int32 × ST) :=
  zLet (σ 5 4) fun v9 =>
  if (v9 : Int32) ≤ x2 then
    some (x1, σ)
  else
    zCall (mU_X3_numberAt N σ x2) fun v20 s20 =>
    zLet ((x2 : Int32) - (1)) fun v29 =>
    zCall (mU_X3_numberAt N s20 v29) fun v30 s30 =>
    if (v20 : Int32) = v30 then
      mU_X5_changesOfStream_39 N hd4 s30 x1 x2
    else
      zLet (x1 + (1)) fun v36 =>
      mU_X5_changesOfStream_39 N hd4 s30 v36 x2
def mU_X5_changesOfStream_4 (N : Nat) : ST → Int32 → Int32 → Option (Int32 × ST) := zIt (mU_X5_changesOfStream_B4 N) (fun _ _ _ => none) N
set_option maxRecDepth 20000 in
set_option maxHeartbeats 2000000 in
theorem tU_X5_changesOfStream_4 {adr : Nat → Nat} {cI cZ cS : ClassId} {X : zX} {q : Int32 × ST} (B : zC X 3 (wdU adr cI cZ cS) cX5_changesOfStream RX5 (some .int) { frames := 2, cells := 0, slots := 0, locals := 43 }) (N : Nat) : ∀ (σ : ST) (x1 : Int32) (x2 : Int32), mU_X5_changesOfStream_4 N σ x1 x2 = some q → zJ X 3 (wdU adr cI cZ cS) (zi q) 4 [(0, .ref (adr 0)), (1, .int x1), (2, .int x2)] [] σ := by
  refine zIt_ind (P := fun (hd : ST → Int32 → Int32 → Option (Int32 × ST)) => ∀ (σ : ST) (x1 : Int32) (x2 : Int32), hd σ x1 x2 = some q → zJ X 3 (wdU adr cI cZ cS) (zi q) 4 [(0, .ref (adr 0)), (1, .int x1), (2, .int x2)] [] σ) (fun _ _ _ hf => by cases hf) (fun hd4 hh4 => ?_) N
  intro σ x1 x2 hf
  refine z_iload_n B dX5_changesOfStream_4 2 rfl rfl ?_
  refine z_aload_n B dX5_changesOfStream_5 0 rfl rfl ?_
  refine fU_g_X5_U_history B dX5_changesOfStream_6 ?_
  refine fU_g_X5_H_length B dX5_changesOfStream_9 hf (fun v9 hf => ?_)
  refine z_icmp_ge B 45 dX5_changesOfStream_12 (by decide) hf (fun hf => ?_) (fun hf => ?_)
  · refine z_iload_n B dX5_changesOfStream_45 1 rfl rfl ?_
    exact z_ireturn B dX5_changesOfStream_46 hf
  · refine z_aload_n B dX5_changesOfStream_15 0 rfl rfl ?_
    refine fU_g_X5_U_history B dX5_changesOfStream_16 ?_
    refine z_iload_n B dX5_changesOfStream_19 2 rfl rfl ?_
    refine z_callVi B (As := [.int x2]) kcV_X5_52 dX5_changesOfStream_20 hf (fun q hq => cU_X3_numberAt q hq) (wU_o_H (adr := adr) (cI := cI) (cZ := cZ) (cS := cS)) rfl rfl rfl rfl (Nat.le_of_ble_eq_true rfl) rfl rfl ⟨Nat.le_of_ble_eq_true rfl, Nat.le_of_ble_eq_true rfl⟩ (fun v20 s20 hf => ?_)
    refine z_aload_n B dX5_changesOfStream_23 0 rfl rfl ?_
    refine fU_g_X5_U_history B dX5_changesOfStream_24 ?_
    refine z_iload_n B dX5_changesOfStream_27 2 rfl rfl ?_
    refine z_iconst B (1) dX5_changesOfStream_28 zc_iconst_1 ?_
    refine z_isub B dX5_changesOfStream_29 hf (fun v29 hf => ?_)
    refine z_callVi B (As := [.int v29]) kcV_X5_52 dX5_changesOfStream_30 hf (fun q hq => cU_X3_numberAt q hq) (wU_o_H (adr := adr) (cI := cI) (cZ := cZ) (cS := cS)) rfl rfl rfl rfl (Nat.le_of_ble_eq_true rfl) rfl rfl ⟨Nat.le_of_ble_eq_true rfl, Nat.le_of_ble_eq_true rfl⟩ (fun v30 s30 hf => ?_)
    refine z_icmp_eq B 39 dX5_changesOfStream_33 (by decide) hf (fun hf => ?_) (fun hf => ?_)
    · exact tU_X5_changesOfStream_39 B N hd4 hh4 s30 x1 x2 hf
    · refine z_iinc B (1) 1 (fun v36 => [(1, .int v36), (0, .ref (adr 0)), (2, .int x2)]) dX5_changesOfStream_36 hf zc_iconst_1 rfl (Nat.le_of_ble_eq_true rfl) (fun _ => rfl) (fun v36 hf => ?_)
      exact z_loc [1, 0, 2] _ rfl (tU_X5_changesOfStream_39 B N hd4 hh4 s30 v36 x2 hf)
def mU_X5_changesOfStream (N : Nat) (σ : ST) : Option (Int32 × ST) :=
  mU_X5_changesOfStream_4 N σ (0) (1)
set_option maxRecDepth 20000 in
set_option maxHeartbeats 2000000 in
theorem cU_X5_changesOfStream {adr : Nat → Nat} {cI cZ cS : ClassId} {l : Launch} {D : va_G} {N : Nat} {σ : ST} (q : Int32 × ST) (hf : mU_X5_changesOfStream N σ = some q) : zM l D (wdU adr cI cZ cS) yX5_changesOfStream cX5_changesOfStream 3 (some .int) ({ frames := 2, cells := 0, slots := 0, locals := 43 }) [.ref (adr 0)] σ (zi q) := by
  refine zM_of sfU_ok rfl (Nat.le_of_ble_eq_true rfl) [(0, .ref (adr 0))] rfl (fun X hX1 hX2 B => ?_)
  have B : zC X 3 (wdU adr cI cZ cS) cX5_changesOfStream RX5 (some .int) { frames := 2, cells := 0, slots := 0, locals := 43 } := B
  refine z_iconst B (0) dX5_changesOfStream_0 zc_iconst_0 ?_
  refine z_istore_n B [(1, .int (0)), (0, .ref (adr 0))] dX5_changesOfStream_1 rfl (Nat.le_of_ble_eq_true rfl) rfl ?_
  refine z_iconst B (1) dX5_changesOfStream_2 zc_iconst_1 ?_
  refine z_istore_n B [(2, .int (1)), (1, .int (0)), (0, .ref (adr 0))] dX5_changesOfStream_3 rfl (Nat.le_of_ble_eq_true rfl) rfl ?_
  exact z_loc [2, 1, 0] _ rfl (tU_X5_changesOfStream_4 B N σ (0) (1) hf)
theorem dX5_readsOfStream_0 : decode cX5_readsOfStream 0 = .ok (.iconst 0, 1) := by decide +kernel
theorem dX5_readsOfStream_1 : decode cX5_readsOfStream 1 = .ok (.istore_n 3, 1) := by decide +kernel
theorem dX5_readsOfStream_2 : decode cX5_readsOfStream 2 = .ok (.iload_n 2, 1) := by decide +kernel
theorem dX5_readsOfStream_3 : decode cX5_readsOfStream 3 = .ok (.istore 4, 2) := by decide +kernel
theorem dX5_readsOfStream_5 : decode cX5_readsOfStream 5 = .ok (.iload 4, 2) := by decide +kernel
theorem dX5_readsOfStream_7 : decode cX5_readsOfStream 7 = .ok (.aload_n 0, 1) := by decide +kernel
theorem dX5_readsOfStream_8 : decode cX5_readsOfStream 8 = .ok (.getfield 24, 3) := by decide +kernel
theorem dX5_readsOfStream_11 : decode cX5_readsOfStream 11 = .ok (.getfield 28, 3) := by decide +kernel
theorem dX5_readsOfStream_14 : decode cX5_readsOfStream 14 = .ok (.if_icmp .ge 25, 3) := by decide +kernel
theorem dX5_readsOfStream_17 : decode cX5_readsOfStream 17 = .ok (.aload_n 0, 1) := by decide +kernel
theorem dX5_readsOfStream_18 : decode cX5_readsOfStream 18 = .ok (.getfield 24, 3) := by decide +kernel
theorem dX5_readsOfStream_21 : decode cX5_readsOfStream 21 = .ok (.iload 4, 2) := by decide +kernel
theorem dX5_readsOfStream_23 : decode cX5_readsOfStream 23 = .ok (.invokevirtual 52, 3) := by decide +kernel
theorem dX5_readsOfStream_26 : decode cX5_readsOfStream 26 = .ok (.iload_n 1, 1) := by decide +kernel
theorem dX5_readsOfStream_27 : decode cX5_readsOfStream 27 = .ok (.if_icmp .ne 6, 3) := by decide +kernel
theorem dX5_readsOfStream_30 : decode cX5_readsOfStream 30 = .ok (.iinc 3 1, 3) := by decide +kernel
theorem dX5_readsOfStream_33 : decode cX5_readsOfStream 33 = .ok (.iinc 4 1, 3) := by decide +kernel
theorem dX5_readsOfStream_36 : decode cX5_readsOfStream 36 = .ok (.goto (-31), 3) := by decide +kernel
theorem dX5_readsOfStream_39 : decode cX5_readsOfStream 39 = .ok (.iload_n 3, 1) := by decide +kernel
theorem dX5_readsOfStream_40 : decode cX5_readsOfStream 40 = .ok (.ireturn, 1) := by decide +kernel
def mU_X5_readsOfStream_33 (N : Nat) (hd5 : ST → Int32 → Int32 → Int32 → Int32 → Option (Int32 × ST)) (σ : ST) (x1 : Int32) (x2 : Int32) (x3 : Int32) (x4 : Int32) : Option (Int32 × ST) :=
  zLet (x4 + (1)) fun v33 =>
  hd5 σ x1 x2 x3 v33
set_option maxRecDepth 20000 in
set_option maxHeartbeats 2000000 in
theorem tU_X5_readsOfStream_33 {adr : Nat → Nat} {cI cZ cS : ClassId} {X : zX} {q : Int32 × ST} (B : zC X 5 (wdU adr cI cZ cS) cX5_readsOfStream RX5 (some .int) { frames := 2, cells := 0, slots := 0, locals := 43 }) (N : Nat) (hd5 : ST → Int32 → Int32 → Int32 → Int32 → Option (Int32 × ST)) (hh5 : ∀ (σ : ST) (x1 : Int32) (x2 : Int32) (x3 : Int32) (x4 : Int32), hd5 σ x1 x2 x3 x4 = some q → zJ X 5 (wdU adr cI cZ cS) (zi q) 5 [(0, .ref (adr 0)), (1, .int x1), (2, .int x2), (3, .int x3), (4, .int x4)] [] σ) (σ : ST) (x1 : Int32) (x2 : Int32) (x3 : Int32) (x4 : Int32) (hf : mU_X5_readsOfStream_33 N hd5 σ x1 x2 x3 x4 = some q) : zJ X 5 (wdU adr cI cZ cS) (zi q) 33 [(0, .ref (adr 0)), (1, .int x1), (2, .int x2), (3, .int x3), (4, .int x4)] [] σ := by
  refine z_iinc B (1) 4 (fun v33 => [(4, .int v33), (0, .ref (adr 0)), (1, .int x1), (2, .int x2), (3, .int x3)]) dX5_readsOfStream_33 hf zc_iconst_1 rfl (Nat.le_of_ble_eq_true rfl) (fun _ => rfl) (fun v33 hf => ?_)
  refine z_goto B 5 dX5_readsOfStream_36 (by decide) ?_
  exact z_loc [1, 2, 3, 4, 0] _ rfl (hh5 σ x1 x2 x3 v33 hf)
def mU_X5_readsOfStream_B5 (N : Nat) (hd5 : ST → Int32 → Int32 → Int32 → Int32 → Option (Int32 × ST)) (σ : ST) (x1 : Int32) (x2 : Int32) (x3 : Int32) (x4 : Int32) : Option (Int32 × ST) :=
  zLet (σ 5 4) fun v11 =>
  if (v11 : Int32) ≤ x4 then
    some (x3, σ)
  else
    zCall (mU_X3_numberAt N σ x4) fun v23 s23 =>
    if (v23 : Int32) = x1 then
      zLet (x3 + (1)) fun v30 =>
      mU_X5_readsOfStream_33 N hd5 s23 x1 x2 v30 x4
    else
      mU_X5_readsOfStream_33 N hd5 s23 x1 x2 x3 x4
def mU_X5_readsOfStream_5 (N : Nat) : ST → Int32 → Int32 → Int32 → Int32 → Option (Int32 × ST) := zIt (mU_X5_readsOfStream_B5 N) (fun _ _ _ _ _ => none) N
set_option maxRecDepth 20000 in
set_option maxHeartbeats 2000000 in
theorem tU_X5_readsOfStream_5 {adr : Nat → Nat} {cI cZ cS : ClassId} {X : zX} {q : Int32 × ST} (B : zC X 5 (wdU adr cI cZ cS) cX5_readsOfStream RX5 (some .int) { frames := 2, cells := 0, slots := 0, locals := 43 }) (N : Nat) : ∀ (σ : ST) (x1 : Int32) (x2 : Int32) (x3 : Int32) (x4 : Int32), mU_X5_readsOfStream_5 N σ x1 x2 x3 x4 = some q → zJ X 5 (wdU adr cI cZ cS) (zi q) 5 [(0, .ref (adr 0)), (1, .int x1), (2, .int x2), (3, .int x3), (4, .int x4)] [] σ := by
  refine zIt_ind (P := fun (hd : ST → Int32 → Int32 → Int32 → Int32 → Option (Int32 × ST)) => ∀ (σ : ST) (x1 : Int32) (x2 : Int32) (x3 : Int32) (x4 : Int32), hd σ x1 x2 x3 x4 = some q → zJ X 5 (wdU adr cI cZ cS) (zi q) 5 [(0, .ref (adr 0)), (1, .int x1), (2, .int x2), (3, .int x3), (4, .int x4)] [] σ) (fun _ _ _ _ _ hf => by cases hf) (fun hd5 hh5 => ?_) N
  intro σ x1 x2 x3 x4 hf
  refine z_iload B dX5_readsOfStream_5 4 rfl ?_
  refine z_aload_n B dX5_readsOfStream_7 0 rfl rfl ?_
  refine fU_g_X5_U_history B dX5_readsOfStream_8 ?_
  refine fU_g_X5_H_length B dX5_readsOfStream_11 hf (fun v11 hf => ?_)
  refine z_icmp_ge B 39 dX5_readsOfStream_14 (by decide) hf (fun hf => ?_) (fun hf => ?_)
  · refine z_iload_n B dX5_readsOfStream_39 3 rfl rfl ?_
    exact z_ireturn B dX5_readsOfStream_40 hf
  · refine z_aload_n B dX5_readsOfStream_17 0 rfl rfl ?_
    refine fU_g_X5_U_history B dX5_readsOfStream_18 ?_
    refine z_iload B dX5_readsOfStream_21 4 rfl ?_
    refine z_callVi B (As := [.int x4]) kcV_X5_52 dX5_readsOfStream_23 hf (fun q hq => cU_X3_numberAt q hq) (wU_o_H (adr := adr) (cI := cI) (cZ := cZ) (cS := cS)) rfl rfl rfl rfl (Nat.le_of_ble_eq_true rfl) rfl rfl ⟨Nat.le_of_ble_eq_true rfl, Nat.le_of_ble_eq_true rfl⟩ (fun v23 s23 hf => ?_)
    refine z_iload_n B dX5_readsOfStream_26 1 rfl rfl ?_
    refine z_icmp_ne B 33 dX5_readsOfStream_27 (by decide) hf (fun hf => ?_) (fun hf => ?_)
    · exact tU_X5_readsOfStream_33 B N hd5 hh5 s23 x1 x2 x3 x4 hf
    · refine z_iinc B (1) 3 (fun v30 => [(3, .int v30), (0, .ref (adr 0)), (1, .int x1), (2, .int x2), (4, .int x4)]) dX5_readsOfStream_30 hf zc_iconst_1 rfl (Nat.le_of_ble_eq_true rfl) (fun _ => rfl) (fun v30 hf => ?_)
      exact z_loc [1, 2, 3, 0, 4] _ rfl (tU_X5_readsOfStream_33 B N hd5 hh5 s23 x1 x2 v30 x4 hf)
def mU_X5_readsOfStream (N : Nat) (σ : ST) (x1 : Int32) (x2 : Int32) : Option (Int32 × ST) :=
  mU_X5_readsOfStream_5 N σ x1 x2 (0) x2
set_option maxRecDepth 20000 in
set_option maxHeartbeats 2000000 in
theorem cU_X5_readsOfStream {adr : Nat → Nat} {cI cZ cS : ClassId} {l : Launch} {D : va_G} {N : Nat} {σ : ST} {x1 : Int32} {x2 : Int32} (q : Int32 × ST) (hf : mU_X5_readsOfStream N σ x1 x2 = some q) : zM l D (wdU adr cI cZ cS) yX5_readsOfStream cX5_readsOfStream 5 (some .int) ({ frames := 2, cells := 0, slots := 0, locals := 43 }) [.ref (adr 0), .int x1, .int x2] σ (zi q) := by
  refine zM_of sfU_ok rfl (Nat.le_of_ble_eq_true rfl) [(0, .ref (adr 0)), (1, .int x1), (2, .int x2)] rfl (fun X hX1 hX2 B => ?_)
  have B : zC X 5 (wdU adr cI cZ cS) cX5_readsOfStream RX5 (some .int) { frames := 2, cells := 0, slots := 0, locals := 43 } := B
  refine z_iconst B (0) dX5_readsOfStream_0 zc_iconst_0 ?_
  refine z_istore_n B [(3, .int (0)), (0, .ref (adr 0)), (1, .int x1), (2, .int x2)] dX5_readsOfStream_1 rfl (Nat.le_of_ble_eq_true rfl) rfl ?_
  refine z_iload_n B dX5_readsOfStream_2 3 rfl rfl ?_
  refine z_istore B [(4, .int x2), (3, .int (0)), (0, .ref (adr 0)), (1, .int x1), (2, .int x2)] dX5_readsOfStream_3 (Nat.le_of_ble_eq_true rfl) rfl ?_
  exact z_loc [2, 3, 4, 1, 0] _ rfl (tU_X5_readsOfStream_5 B N σ x1 x2 (0) x2 hf)
theorem dX5_streamsRead_0 : decode cX5_streamsRead 0 = .ok (.iconst 0, 1) := by decide +kernel
theorem dX5_streamsRead_1 : decode cX5_streamsRead 1 = .ok (.istore_n 1, 1) := by decide +kernel
theorem dX5_streamsRead_2 : decode cX5_streamsRead 2 = .ok (.iconst 0, 1) := by decide +kernel
theorem dX5_streamsRead_3 : decode cX5_streamsRead 3 = .ok (.istore_n 2, 1) := by decide +kernel
theorem dX5_streamsRead_4 : decode cX5_streamsRead 4 = .ok (.iload_n 2, 1) := by decide +kernel
theorem dX5_streamsRead_5 : decode cX5_streamsRead 5 = .ok (.aload_n 0, 1) := by decide +kernel
theorem dX5_streamsRead_6 : decode cX5_streamsRead 6 = .ok (.getfield 24, 3) := by decide +kernel
theorem dX5_streamsRead_9 : decode cX5_streamsRead 9 = .ok (.getfield 28, 3) := by decide +kernel
theorem dX5_streamsRead_12 : decode cX5_streamsRead 12 = .ok (.if_icmp .ge 30, 3) := by decide +kernel
theorem dX5_streamsRead_15 : decode cX5_streamsRead 15 = .ok (.aload_n 0, 1) := by decide +kernel
theorem dX5_streamsRead_16 : decode cX5_streamsRead 16 = .ok (.aload_n 0, 1) := by decide +kernel
theorem dX5_streamsRead_17 : decode cX5_streamsRead 17 = .ok (.getfield 24, 3) := by decide +kernel
theorem dX5_streamsRead_20 : decode cX5_streamsRead 20 = .ok (.iload_n 2, 1) := by decide +kernel
theorem dX5_streamsRead_21 : decode cX5_streamsRead 21 = .ok (.invokevirtual 52, 3) := by decide +kernel
theorem dX5_streamsRead_24 : decode cX5_streamsRead 24 = .ok (.iload_n 2, 1) := by decide +kernel
theorem dX5_streamsRead_25 : decode cX5_streamsRead 25 = .ok (.iconst 1, 1) := by decide +kernel
theorem dX5_streamsRead_26 : decode cX5_streamsRead 26 = .ok (.iadd, 1) := by decide +kernel
theorem dX5_streamsRead_27 : decode cX5_streamsRead 27 = .ok (.invokevirtual 55, 3) := by decide +kernel
theorem dX5_streamsRead_30 : decode cX5_streamsRead 30 = .ok (.ifCond .ne 6, 3) := by decide +kernel
theorem dX5_streamsRead_33 : decode cX5_streamsRead 33 = .ok (.iinc 1 1, 3) := by decide +kernel
theorem dX5_streamsRead_36 : decode cX5_streamsRead 36 = .ok (.iinc 2 1, 3) := by decide +kernel
theorem dX5_streamsRead_39 : decode cX5_streamsRead 39 = .ok (.goto (-35), 3) := by decide +kernel
theorem dX5_streamsRead_42 : decode cX5_streamsRead 42 = .ok (.iload_n 1, 1) := by decide +kernel
theorem dX5_streamsRead_43 : decode cX5_streamsRead 43 = .ok (.ireturn, 1) := by decide +kernel
def mU_X5_streamsRead_36 (N : Nat) (hd4 : ST → Int32 → Int32 → Option (Int32 × ST)) (σ : ST) (x1 : Int32) (x2 : Int32) : Option (Int32 × ST) :=
  zLet (x2 + (1)) fun v36 =>
  hd4 σ x1 v36
set_option maxRecDepth 20000 in
set_option maxHeartbeats 2000000 in
theorem tU_X5_streamsRead_36 {adr : Nat → Nat} {cI cZ cS : ClassId} {X : zX} {q : Int32 × ST} (B : zC X 3 (wdU adr cI cZ cS) cX5_streamsRead RX5 (some .int) { frames := 3, cells := 0, slots := 0, locals := 67 }) (N : Nat) (hd4 : ST → Int32 → Int32 → Option (Int32 × ST)) (hh4 : ∀ (σ : ST) (x1 : Int32) (x2 : Int32), hd4 σ x1 x2 = some q → zJ X 3 (wdU adr cI cZ cS) (zi q) 4 [(0, .ref (adr 0)), (1, .int x1), (2, .int x2)] [] σ) (σ : ST) (x1 : Int32) (x2 : Int32) (hf : mU_X5_streamsRead_36 N hd4 σ x1 x2 = some q) : zJ X 3 (wdU adr cI cZ cS) (zi q) 36 [(0, .ref (adr 0)), (1, .int x1), (2, .int x2)] [] σ := by
  refine z_iinc B (1) 2 (fun v36 => [(2, .int v36), (0, .ref (adr 0)), (1, .int x1)]) dX5_streamsRead_36 hf zc_iconst_1 rfl (Nat.le_of_ble_eq_true rfl) (fun _ => rfl) (fun v36 hf => ?_)
  refine z_goto B 4 dX5_streamsRead_39 (by decide) ?_
  exact z_loc [1, 2, 0] _ rfl (hh4 σ x1 v36 hf)
def mU_X5_streamsRead_B4 (N : Nat) (hd4 : ST → Int32 → Int32 → Option (Int32 × ST)) (σ : ST) (x1 : Int32) (x2 : Int32) : Option (Int32 × ST) :=
  zLet (σ 5 4) fun v9 =>
  if (v9 : Int32) ≤ x2 then
    some (x1, σ)
  else
    zCall (mU_X3_numberAt N σ x2) fun v21 s21 =>
    zLet ((x2 : Int32) + (1)) fun v26 =>
    zCall (mU_X5_readsOfStream N s21 v21 v26) fun v27 s27 =>
    if (v27 : Int32) = 0 then
      zLet (x1 + (1)) fun v33 =>
      mU_X5_streamsRead_36 N hd4 s27 v33 x2
    else
      mU_X5_streamsRead_36 N hd4 s27 x1 x2
def mU_X5_streamsRead_4 (N : Nat) : ST → Int32 → Int32 → Option (Int32 × ST) := zIt (mU_X5_streamsRead_B4 N) (fun _ _ _ => none) N
set_option maxRecDepth 20000 in
set_option maxHeartbeats 2000000 in
theorem tU_X5_streamsRead_4 {adr : Nat → Nat} {cI cZ cS : ClassId} {X : zX} {q : Int32 × ST} (B : zC X 3 (wdU adr cI cZ cS) cX5_streamsRead RX5 (some .int) { frames := 3, cells := 0, slots := 0, locals := 67 }) (N : Nat) : ∀ (σ : ST) (x1 : Int32) (x2 : Int32), mU_X5_streamsRead_4 N σ x1 x2 = some q → zJ X 3 (wdU adr cI cZ cS) (zi q) 4 [(0, .ref (adr 0)), (1, .int x1), (2, .int x2)] [] σ := by
  refine zIt_ind (P := fun (hd : ST → Int32 → Int32 → Option (Int32 × ST)) => ∀ (σ : ST) (x1 : Int32) (x2 : Int32), hd σ x1 x2 = some q → zJ X 3 (wdU adr cI cZ cS) (zi q) 4 [(0, .ref (adr 0)), (1, .int x1), (2, .int x2)] [] σ) (fun _ _ _ hf => by cases hf) (fun hd4 hh4 => ?_) N
  intro σ x1 x2 hf
  refine z_iload_n B dX5_streamsRead_4 2 rfl rfl ?_
  refine z_aload_n B dX5_streamsRead_5 0 rfl rfl ?_
  refine fU_g_X5_U_history B dX5_streamsRead_6 ?_
  refine fU_g_X5_H_length B dX5_streamsRead_9 hf (fun v9 hf => ?_)
  refine z_icmp_ge B 42 dX5_streamsRead_12 (by decide) hf (fun hf => ?_) (fun hf => ?_)
  · refine z_iload_n B dX5_streamsRead_42 1 rfl rfl ?_
    exact z_ireturn B dX5_streamsRead_43 hf
  · refine z_aload_n B dX5_streamsRead_15 0 rfl rfl ?_
    refine z_aload_n B dX5_streamsRead_16 0 rfl rfl ?_
    refine fU_g_X5_U_history B dX5_streamsRead_17 ?_
    refine z_iload_n B dX5_streamsRead_20 2 rfl rfl ?_
    refine z_callVi B (As := [.int x2]) kcV_X5_52 dX5_streamsRead_21 hf (fun q hq => cU_X3_numberAt q hq) (wU_o_H (adr := adr) (cI := cI) (cZ := cZ) (cS := cS)) rfl rfl rfl rfl (Nat.le_of_ble_eq_true rfl) rfl rfl ⟨Nat.le_of_ble_eq_true rfl, Nat.le_of_ble_eq_true rfl⟩ (fun v21 s21 hf => ?_)
    refine z_iload_n B dX5_streamsRead_24 2 rfl rfl ?_
    refine z_iconst B (1) dX5_streamsRead_25 zc_iconst_1 ?_
    refine z_iadd B dX5_streamsRead_26 hf (fun v26 hf => ?_)
    refine z_callVi B (As := [.int v21, .int v26]) kcV_X5_55 dX5_streamsRead_27 hf (fun q hq => cU_X5_readsOfStream q hq) (wU_o_U (adr := adr) (cI := cI) (cZ := cZ) (cS := cS)) rfl rfl rfl rfl (Nat.le_of_ble_eq_true rfl) rfl rfl ⟨Nat.le_of_ble_eq_true rfl, Nat.le_of_ble_eq_true rfl⟩ (fun v27 s27 hf => ?_)
    refine z_if_ne B 36 dX5_streamsRead_30 (by decide) hf (fun hf => ?_) (fun hf => ?_)
    · exact tU_X5_streamsRead_36 B N hd4 hh4 s27 x1 x2 hf
    · refine z_iinc B (1) 1 (fun v33 => [(1, .int v33), (0, .ref (adr 0)), (2, .int x2)]) dX5_streamsRead_33 hf zc_iconst_1 rfl (Nat.le_of_ble_eq_true rfl) (fun _ => rfl) (fun v33 hf => ?_)
      exact z_loc [1, 0, 2] _ rfl (tU_X5_streamsRead_36 B N hd4 hh4 s27 v33 x2 hf)
def mU_X5_streamsRead (N : Nat) (σ : ST) : Option (Int32 × ST) :=
  mU_X5_streamsRead_4 N σ (0) (0)
set_option maxRecDepth 20000 in
set_option maxHeartbeats 2000000 in
theorem cU_X5_streamsRead {adr : Nat → Nat} {cI cZ cS : ClassId} {l : Launch} {D : va_G} {N : Nat} {σ : ST} (q : Int32 × ST) (hf : mU_X5_streamsRead N σ = some q) : zM l D (wdU adr cI cZ cS) yX5_streamsRead cX5_streamsRead 3 (some .int) ({ frames := 3, cells := 0, slots := 0, locals := 67 }) [.ref (adr 0)] σ (zi q) := by
  refine zM_of sfU_ok rfl (Nat.le_of_ble_eq_true rfl) [(0, .ref (adr 0))] rfl (fun X hX1 hX2 B => ?_)
  have B : zC X 3 (wdU adr cI cZ cS) cX5_streamsRead RX5 (some .int) { frames := 3, cells := 0, slots := 0, locals := 67 } := B
  refine z_iconst B (0) dX5_streamsRead_0 zc_iconst_0 ?_
  refine z_istore_n B [(1, .int (0)), (0, .ref (adr 0))] dX5_streamsRead_1 rfl (Nat.le_of_ble_eq_true rfl) rfl ?_
  refine z_iconst B (0) dX5_streamsRead_2 zc_iconst_0 ?_
  refine z_istore_n B [(2, .int (0)), (1, .int (0)), (0, .ref (adr 0))] dX5_streamsRead_3 rfl (Nat.le_of_ble_eq_true rfl) rfl ?_
  exact z_loc [2, 1, 0] _ rfl (tU_X5_streamsRead_4 B N σ (0) (0) hf)
theorem dX5_mostOfOneStream_0 : decode cX5_mostOfOneStream 0 = .ok (.iconst 0, 1) := by decide +kernel
theorem dX5_mostOfOneStream_1 : decode cX5_mostOfOneStream 1 = .ok (.istore_n 1, 1) := by decide +kernel
theorem dX5_mostOfOneStream_2 : decode cX5_mostOfOneStream 2 = .ok (.iconst 0, 1) := by decide +kernel
theorem dX5_mostOfOneStream_3 : decode cX5_mostOfOneStream 3 = .ok (.istore_n 2, 1) := by decide +kernel
theorem dX5_mostOfOneStream_4 : decode cX5_mostOfOneStream 4 = .ok (.iload_n 2, 1) := by decide +kernel
theorem dX5_mostOfOneStream_5 : decode cX5_mostOfOneStream 5 = .ok (.aload_n 0, 1) := by decide +kernel
theorem dX5_mostOfOneStream_6 : decode cX5_mostOfOneStream 6 = .ok (.getfield 24, 3) := by decide +kernel
theorem dX5_mostOfOneStream_9 : decode cX5_mostOfOneStream 9 = .ok (.getfield 28, 3) := by decide +kernel
theorem dX5_mostOfOneStream_12 : decode cX5_mostOfOneStream 12 = .ok (.if_icmp .ge 27, 3) := by decide +kernel
theorem dX5_mostOfOneStream_15 : decode cX5_mostOfOneStream 15 = .ok (.iload_n 1, 1) := by decide +kernel
theorem dX5_mostOfOneStream_16 : decode cX5_mostOfOneStream 16 = .ok (.aload_n 0, 1) := by decide +kernel
theorem dX5_mostOfOneStream_17 : decode cX5_mostOfOneStream 17 = .ok (.aload_n 0, 1) := by decide +kernel
theorem dX5_mostOfOneStream_18 : decode cX5_mostOfOneStream 18 = .ok (.getfield 24, 3) := by decide +kernel
theorem dX5_mostOfOneStream_21 : decode cX5_mostOfOneStream 21 = .ok (.iload_n 2, 1) := by decide +kernel
theorem dX5_mostOfOneStream_22 : decode cX5_mostOfOneStream 22 = .ok (.invokevirtual 52, 3) := by decide +kernel
theorem dX5_mostOfOneStream_25 : decode cX5_mostOfOneStream 25 = .ok (.iload_n 2, 1) := by decide +kernel
theorem dX5_mostOfOneStream_26 : decode cX5_mostOfOneStream 26 = .ok (.invokevirtual 55, 3) := by decide +kernel
theorem dX5_mostOfOneStream_29 : decode cX5_mostOfOneStream 29 = .ok (.invokestatic 46, 3) := by decide +kernel
theorem dX5_mostOfOneStream_32 : decode cX5_mostOfOneStream 32 = .ok (.istore_n 1, 1) := by decide +kernel
theorem dX5_mostOfOneStream_33 : decode cX5_mostOfOneStream 33 = .ok (.iinc 2 1, 3) := by decide +kernel
theorem dX5_mostOfOneStream_36 : decode cX5_mostOfOneStream 36 = .ok (.goto (-32), 3) := by decide +kernel
theorem dX5_mostOfOneStream_39 : decode cX5_mostOfOneStream 39 = .ok (.iload_n 1, 1) := by decide +kernel
theorem dX5_mostOfOneStream_40 : decode cX5_mostOfOneStream 40 = .ok (.ireturn, 1) := by decide +kernel
def mU_X5_mostOfOneStream_B4 (N : Nat) (hd4 : ST → Int32 → Int32 → Option (Int32 × ST)) (σ : ST) (x1 : Int32) (x2 : Int32) : Option (Int32 × ST) :=
  zLet (σ 5 4) fun v9 =>
  if (v9 : Int32) ≤ x2 then
    some (x1, σ)
  else
    zCall (mU_X3_numberAt N σ x2) fun v22 s22 =>
    zCall (mU_X5_readsOfStream N s22 v22 x2) fun v26 s26 =>
    zLet (if (x1 : Int32) < v26 then v26 else x1) fun v29 =>
    zLet (x2 + (1)) fun v33 =>
    hd4 s26 v29 v33
def mU_X5_mostOfOneStream_4 (N : Nat) : ST → Int32 → Int32 → Option (Int32 × ST) := zIt (mU_X5_mostOfOneStream_B4 N) (fun _ _ _ => none) N
set_option maxRecDepth 20000 in
set_option maxHeartbeats 2000000 in
theorem tU_X5_mostOfOneStream_4 {adr : Nat → Nat} {cI cZ cS : ClassId} {X : zX} {q : Int32 × ST} (B : zC X 3 (wdU adr cI cZ cS) cX5_mostOfOneStream RX5 (some .int) { frames := 3, cells := 0, slots := 0, locals := 67 }) (N : Nat) : ∀ (σ : ST) (x1 : Int32) (x2 : Int32), mU_X5_mostOfOneStream_4 N σ x1 x2 = some q → zJ X 3 (wdU adr cI cZ cS) (zi q) 4 [(0, .ref (adr 0)), (1, .int x1), (2, .int x2)] [] σ := by
  refine zIt_ind (P := fun (hd : ST → Int32 → Int32 → Option (Int32 × ST)) => ∀ (σ : ST) (x1 : Int32) (x2 : Int32), hd σ x1 x2 = some q → zJ X 3 (wdU adr cI cZ cS) (zi q) 4 [(0, .ref (adr 0)), (1, .int x1), (2, .int x2)] [] σ) (fun _ _ _ hf => by cases hf) (fun hd4 hh4 => ?_) N
  intro σ x1 x2 hf
  refine z_iload_n B dX5_mostOfOneStream_4 2 rfl rfl ?_
  refine z_aload_n B dX5_mostOfOneStream_5 0 rfl rfl ?_
  refine fU_g_X5_U_history B dX5_mostOfOneStream_6 ?_
  refine fU_g_X5_H_length B dX5_mostOfOneStream_9 hf (fun v9 hf => ?_)
  refine z_icmp_ge B 39 dX5_mostOfOneStream_12 (by decide) hf (fun hf => ?_) (fun hf => ?_)
  · refine z_iload_n B dX5_mostOfOneStream_39 1 rfl rfl ?_
    exact z_ireturn B dX5_mostOfOneStream_40 hf
  · refine z_iload_n B dX5_mostOfOneStream_15 1 rfl rfl ?_
    refine z_aload_n B dX5_mostOfOneStream_16 0 rfl rfl ?_
    refine z_aload_n B dX5_mostOfOneStream_17 0 rfl rfl ?_
    refine fU_g_X5_U_history B dX5_mostOfOneStream_18 ?_
    refine z_iload_n B dX5_mostOfOneStream_21 2 rfl rfl ?_
    refine z_callVi B (As := [.int x2]) kcV_X5_52 dX5_mostOfOneStream_22 hf (fun q hq => cU_X3_numberAt q hq) (wU_o_H (adr := adr) (cI := cI) (cZ := cZ) (cS := cS)) rfl rfl rfl rfl (Nat.le_of_ble_eq_true rfl) rfl rfl ⟨Nat.le_of_ble_eq_true rfl, Nat.le_of_ble_eq_true rfl⟩ (fun v22 s22 hf => ?_)
    refine z_iload_n B dX5_mostOfOneStream_25 2 rfl rfl ?_
    refine z_callVi B (As := [.int v22, .int x2]) kcV_X5_55 dX5_mostOfOneStream_26 hf (fun q hq => cU_X5_readsOfStream q hq) (wU_o_U (adr := adr) (cI := cI) (cZ := cZ) (cS := cS)) rfl rfl rfl rfl (Nat.le_of_ble_eq_true rfl) rfl rfl ⟨Nat.le_of_ble_eq_true rfl, Nat.le_of_ble_eq_true rfl⟩ (fun v26 s26 hf => ?_)
    refine z_mmax B kw_736 kmS_max kmI kmC_max (Nat.le_of_ble_eq_true rfl) (Nat.le_of_ble_eq_true rfl) dX5_mostOfOneStream_29 hf (fun v29 hf => ?_)
    refine z_istore_n B [(1, .int v29), (0, .ref (adr 0)), (2, .int x2)] dX5_mostOfOneStream_32 rfl (Nat.le_of_ble_eq_true rfl) rfl ?_
    refine z_iinc B (1) 2 (fun v33 => [(2, .int v33), (1, .int v29), (0, .ref (adr 0))]) dX5_mostOfOneStream_33 hf zc_iconst_1 rfl (Nat.le_of_ble_eq_true rfl) (fun _ => rfl) (fun v33 hf => ?_)
    refine z_goto B 4 dX5_mostOfOneStream_36 (by decide) ?_
    exact z_loc [2, 1, 0] _ rfl (hh4 s26 v29 v33 hf)
def mU_X5_mostOfOneStream (N : Nat) (σ : ST) : Option (Int32 × ST) :=
  mU_X5_mostOfOneStream_4 N σ (0) (0)
set_option maxRecDepth 20000 in
set_option maxHeartbeats 2000000 in
theorem cU_X5_mostOfOneStream {adr : Nat → Nat} {cI cZ cS : ClassId} {l : Launch} {D : va_G} {N : Nat} {σ : ST} (q : Int32 × ST) (hf : mU_X5_mostOfOneStream N σ = some q) : zM l D (wdU adr cI cZ cS) yX5_mostOfOneStream cX5_mostOfOneStream 3 (some .int) ({ frames := 3, cells := 0, slots := 0, locals := 67 }) [.ref (adr 0)] σ (zi q) := by
  refine zM_of sfU_ok rfl (Nat.le_of_ble_eq_true rfl) [(0, .ref (adr 0))] rfl (fun X hX1 hX2 B => ?_)
  have B : zC X 3 (wdU adr cI cZ cS) cX5_mostOfOneStream RX5 (some .int) { frames := 3, cells := 0, slots := 0, locals := 67 } := B
  refine z_iconst B (0) dX5_mostOfOneStream_0 zc_iconst_0 ?_
  refine z_istore_n B [(1, .int (0)), (0, .ref (adr 0))] dX5_mostOfOneStream_1 rfl (Nat.le_of_ble_eq_true rfl) rfl ?_
  refine z_iconst B (0) dX5_mostOfOneStream_2 zc_iconst_0 ?_
  refine z_istore_n B [(2, .int (0)), (1, .int (0)), (0, .ref (adr 0))] dX5_mostOfOneStream_3 rfl (Nat.le_of_ble_eq_true rfl) rfl ?_
  exact z_loc [2, 1, 0] _ rfl (tU_X5_mostOfOneStream_4 B N σ (0) (0) hf)
