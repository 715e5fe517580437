theorem dX8_advise_0 : decode cX8_advise 0 = .ok (.aload_n 0, 1) := by decide +kernel
theorem dX8_advise_1 : decode cX8_advise 1 = .ok (.iconst 0, 1) := by decide +kernel
theorem dX8_advise_2 : decode cX8_advise 2 = .ok (.putfield 67, 3) := by decide +kernel
theorem dX8_advise_5 : decode cX8_advise 5 = .ok (.aload_n 0, 1) := by decide +kernel
theorem dX8_advise_6 : decode cX8_advise 6 = .ok (.iload_n 1, 1) := by decide +kernel
theorem dX8_advise_7 : decode cX8_advise 7 = .ok (.invokevirtual 132, 3) := by decide +kernel
theorem dX8_advise_10 : decode cX8_advise 10 = .ok (.ifCond .eq 21, 3) := by decide +kernel
theorem dX8_advise_13 : decode cX8_advise 13 = .ok (.iload_n 2, 1) := by decide +kernel
theorem dX8_advise_14 : decode cX8_advise 14 = .ok (.ifCond .eq 17, 3) := by decide +kernel
theorem dX8_advise_17 : decode cX8_advise 17 = .ok (.iload_n 2, 1) := by decide +kernel
theorem dX8_advise_18 : decode cX8_advise 18 = .ok (.i2l, 1) := by decide +kernel
theorem dX8_advise_19 : decode cX8_advise 19 = .ok (.ldc2_w 214, 3) := by decide +kernel
theorem dX8_advise_22 : decode cX8_advise 22 = .ok (.ldc2_w 216, 3) := by decide +kernel
theorem dX8_advise_25 : decode cX8_advise 25 = .ok (.invokestatic 71, 3) := by decide +kernel
theorem dX8_advise_28 : decode cX8_advise 28 = .ok (.ifCond .ne 5, 3) := by decide +kernel
theorem dX8_advise_31 : decode cX8_advise 31 = .ok (.iconst (-1), 1) := by decide +kernel
theorem dX8_advise_32 : decode cX8_advise 32 = .ok (.ireturn, 1) := by decide +kernel
theorem dX8_advise_33 : decode cX8_advise 33 = .ok (.aload_n 0, 1) := by decide +kernel
theorem dX8_advise_34 : decode cX8_advise 34 = .ok (.iload_n 1, 1) := by decide +kernel
theorem dX8_advise_35 : decode cX8_advise 35 = .ok (.invokevirtual 179, 3) := by decide +kernel
theorem dX8_advise_38 : decode cX8_advise 38 = .ok (.istore_n 3, 1) := by decide +kernel
theorem dX8_advise_39 : decode cX8_advise 39 = .ok (.aload_n 0, 1) := by decide +kernel
theorem dX8_advise_40 : decode cX8_advise 40 = .ok (.getfield 9, 3) := by decide +kernel
theorem dX8_advise_43 : decode cX8_advise 43 = .ok (.iload_n 3, 1) := by decide +kernel
theorem dX8_advise_44 : decode cX8_advise 44 = .ok (.iconst 3, 1) := by decide +kernel
theorem dX8_advise_45 : decode cX8_advise 45 = .ok (.iadd, 1) := by decide +kernel
theorem dX8_advise_46 : decode cX8_advise 46 = .ok (.iload_n 2, 1) := by decide +kernel
theorem dX8_advise_47 : decode cX8_advise 47 = .ok (.iastore, 1) := by decide +kernel
theorem dX8_advise_48 : decode cX8_advise 48 = .ok (.aload_n 0, 1) := by decide +kernel
theorem dX8_advise_49 : decode cX8_advise 49 = .ok (.getfield 9, 3) := by decide +kernel
theorem dX8_advise_52 : decode cX8_advise 52 = .ok (.iload_n 3, 1) := by decide +kernel
theorem dX8_advise_53 : decode cX8_advise 53 = .ok (.iconst 4, 1) := by decide +kernel
theorem dX8_advise_54 : decode cX8_advise 54 = .ok (.iadd, 1) := by decide +kernel
theorem dX8_advise_55 : decode cX8_advise 55 = .ok (.bipush 99, 2) := by decide +kernel
theorem dX8_advise_57 : decode cX8_advise 57 = .ok (.iastore, 1) := by decide +kernel
theorem dX8_advise_58 : decode cX8_advise 58 = .ok (.aload_n 0, 1) := by decide +kernel
theorem dX8_advise_59 : decode cX8_advise 59 = .ok (.iconst 0, 1) := by decide +kernel
theorem dX8_advise_60 : decode cX8_advise 60 = .ok (.putfield 127, 3) := by decide +kernel
theorem dX8_advise_63 : decode cX8_advise 63 = .ok (.aload_n 0, 1) := by decide +kernel
theorem dX8_advise_64 : decode cX8_advise 64 = .ok (.iload_n 3, 1) := by decide +kernel
theorem dX8_advise_65 : decode cX8_advise 65 = .ok (.invokevirtual 155, 3) := by decide +kernel
theorem dX8_advise_68 : decode cX8_advise 68 = .ok (.aload_n 0, 1) := by decide +kernel
theorem dX8_advise_69 : decode cX8_advise 69 = .ok (.iload_n 3, 1) := by decide +kernel
theorem dX8_advise_70 : decode cX8_advise 70 = .ok (.iconst (-1), 1) := by decide +kernel
theorem dX8_advise_71 : decode cX8_advise 71 = .ok (.invokevirtual 158, 3) := by decide +kernel
theorem dX8_advise_74 : decode cX8_advise 74 = .ok (.aload_n 0, 1) := by decide +kernel
theorem dX8_advise_75 : decode cX8_advise 75 = .ok (.getfield 9, 3) := by decide +kernel
theorem dX8_advise_78 : decode cX8_advise 78 = .ok (.iload_n 3, 1) := by decide +kernel
theorem dX8_advise_79 : decode cX8_advise 79 = .ok (.bipush 8, 2) := by decide +kernel
theorem dX8_advise_81 : decode cX8_advise 81 = .ok (.iadd, 1) := by decide +kernel
theorem dX8_advise_82 : decode cX8_advise 82 = .ok (.aload_n 0, 1) := by decide +kernel
theorem dX8_advise_83 : decode cX8_advise 83 = .ok (.getfield 9, 3) := by decide +kernel
theorem dX8_advise_86 : decode cX8_advise 86 = .ok (.bipush 21, 2) := by decide +kernel
theorem dX8_advise_88 : decode cX8_advise 88 = .ok (.iaload, 1) := by decide +kernel
theorem dX8_advise_89 : decode cX8_advise 89 = .ok (.iastore, 1) := by decide +kernel
theorem dX8_advise_90 : decode cX8_advise 90 = .ok (.iload_n 3, 1) := by decide +kernel
theorem dX8_advise_91 : decode cX8_advise 91 = .ok (.sipush 542, 3) := by decide +kernel
theorem dX8_advise_94 : decode cX8_advise 94 = .ok (.isub, 1) := by decide +kernel
theorem dX8_advise_95 : decode cX8_advise 95 = .ok (.bipush 12, 2) := by decide +kernel
theorem dX8_advise_97 : decode cX8_advise 97 = .ok (.idiv, 1) := by decide +kernel
theorem dX8_advise_98 : decode cX8_advise 98 = .ok (.ireturn, 1) := by decide +kernel
def mR_advise_31 (N : Nat) (σ : ST) (x1 : Int32) (x2 : Int32) : Option (Int32 × ST) :=
  some ((-1), σ)
set_option maxRecDepth 20000 in
set_option maxHeartbeats 2000000 in
theorem tR_advise_31 {adr : Nat → Nat} {cI cZ : ClassId} {X : zX} {q : Int32 × ST} (B : zC X 4 (wdR adr cI cZ) cX8_advise RX8 (some .int) { frames := 6, cells := 0, slots := 0, locals := 140 }) (N : Nat) (σ : ST) (x1 : Int32) (x2 : Int32) (hf : mR_advise_31 N σ x1 x2 = some q) : zJ X 4 (wdR adr cI cZ) (zi q) 31 [(0, .ref (adr 0)), (1, .int x1), (2, .int x2)] [] σ := by
  refine z_iconst B (-1) dX8_advise_31 zc_iconst_m1 ?_
  exact z_ireturn B dX8_advise_32 hf
def mR_advise (N : Nat) (σ : ST) (x1 : Int32) (x2 : Int32) : Option (Int32 × ST) :=
  zLet (zUp σ 0 0 (0)) fun s2 =>
  zCall (mR_isBlock N s2 x1) fun v7 s7 =>
  if (v7 : Int32) = 0 then
    mR_advise_31 N s7 x1 x2
  else
    if (x2 : Int32) = 0 then
      mR_advise_31 N s7 x1 x2
    else
      zLet ((x2 : Int32).toInt64) fun v18 =>
      zCall (mR_in N s7 v18 (-64) (64)) fun v25 s25 =>
      if (v25 : Int32) = 0 then
        mR_advise_31 N s25 x1 x2
      else
        zCall (mR_comes N s25 x1) fun v35 s35 =>
        zLet ((v35 : Int32) + (3)) fun v45 =>
        zSet s35 1 1974 v45 x2 fun s47 =>
        zLet ((v35 : Int32) + (4)) fun v54 =>
        zSet s47 1 1974 v54 (99) fun s57 =>
        zLet (zUp s57 0 13 (0)) fun s60 =>
        zCallu (mR_proves N s60 v35) fun s65 =>
        zCallu (mR_batch N s65 v35 (-1)) fun s71 =>
        zLet ((v35 : Int32) + (8)) fun v81 =>
        zGet (s71 1) 1974 (21) fun v88 =>
        zSet s71 1 1974 v81 v88 fun s89 =>
        zLet ((v35 : Int32) - (542)) fun v94 =>
        zDiv v94 (12) fun v97 =>
        some (v97, s89)
set_option maxRecDepth 20000 in
set_option maxHeartbeats 2000000 in
theorem cR_advise {adr : Nat → Nat} {cI cZ : ClassId} {l : Launch} {D : va_G} {N : Nat} {σ : ST} {x1 : Int32} {x2 : Int32} (q : Int32 × ST) (hf : mR_advise N σ x1 x2 = some q) : zM l D (wdR adr cI cZ) yX8_advise cX8_advise 4 (some .int) ({ frames := 6, cells := 0, slots := 0, locals := 140 }) [.ref (adr 0), .int x1, .int x2] σ (zi q) := by
  refine zM_of sfR_ok rfl (Nat.le_of_ble_eq_true rfl) [(0, .ref (adr 0)), (1, .int x1), (2, .int x2)] rfl (fun X hX1 hX2 B => ?_)
  have B : zC X 4 (wdR adr cI cZ) cX8_advise RX8 (some .int) { frames := 6, cells := 0, slots := 0, locals := 140 } := B
  refine z_aload_n B dX8_advise_0 0 rfl rfl ?_
  refine z_iconst B (0) dX8_advise_1 zc_iconst_0 ?_
  refine fR_p_thrown B dX8_advise_2 hf (fun s2 hf => ?_)
  refine z_aload_n B dX8_advise_5 0 rfl rfl ?_
  refine z_iload_n B dX8_advise_6 1 rfl rfl ?_
  refine z_callVi B (As := [.int x1]) kcV_X8_132 dX8_advise_7 hf (fun q hq => cR_isBlock q hq) (wR_o (adr := adr) (cI := cI) (cZ := cZ)) rfl rfl rfl rfl (Nat.le_of_ble_eq_true rfl) rfl rfl ⟨Nat.le_of_ble_eq_true rfl, Nat.le_of_ble_eq_true rfl⟩ (fun v7 s7 hf => ?_)
  refine z_if_eq B 31 dX8_advise_10 (by decide) hf (fun hf => ?_) (fun hf => ?_)
  · exact tR_advise_31 B N s7 x1 x2 hf
  · refine z_iload_n B dX8_advise_13 2 rfl rfl ?_
    refine z_if_eq B 31 dX8_advise_14 (by decide) hf (fun hf => ?_) (fun hf => ?_)
    · exact tR_advise_31 B N s7 x1 x2 hf
    · refine z_iload_n B dX8_advise_17 2 rfl rfl ?_
      refine z_i2l B dX8_advise_18 hf (fun v18 hf => ?_)
      refine z_ldc2 B kw_1158 dX8_advise_19 ?_
      refine z_ldc2 B kw_1159 dX8_advise_22 ?_
      refine z_callSi B (As := [.long v18, .long (-64), .long (64)]) kcS_X8_71 dX8_advise_25 hf (fun q hq => cR_in q hq) rfl rfl (Nat.le_of_ble_eq_true rfl) rfl rfl ⟨Nat.le_of_ble_eq_true rfl, Nat.le_of_ble_eq_true rfl⟩ (fun v25 s25 hf => ?_)
      refine z_if_ne B 33 dX8_advise_28 (by decide) hf (fun hf => ?_) (fun hf => ?_)
      · refine z_aload_n B dX8_advise_33 0 rfl rfl ?_
        refine z_iload_n B dX8_advise_34 1 rfl rfl ?_
        refine z_callVi B (As := [.int x1]) kcV_X8_179 dX8_advise_35 hf (fun q hq => cR_comes q hq) (wR_o (adr := adr) (cI := cI) (cZ := cZ)) rfl rfl rfl rfl (Nat.le_of_ble_eq_true rfl) rfl rfl ⟨Nat.le_of_ble_eq_true rfl, Nat.le_of_ble_eq_true rfl⟩ (fun v35 s35 hf => ?_)
        refine z_istore_n B [(3, .int v35), (0, .ref (adr 0)), (1, .int x1), (2, .int x2)] dX8_advise_38 rfl (Nat.le_of_ble_eq_true rfl) rfl ?_
        refine z_aload_n B dX8_advise_39 1 rfl rfl ?_
        refine fR_g_row B dX8_advise_40 ?_
        refine z_iload_n B dX8_advise_43 0 rfl rfl ?_
        refine z_iconst B (3) dX8_advise_44 zc_iconst_3 ?_
        refine z_iadd B dX8_advise_45 hf (fun v45 hf => ?_)
        refine z_iload_n B dX8_advise_46 3 rfl rfl ?_
        refine fR_s_row B dX8_advise_47 hf (fun s47 hf => ?_)
        refine z_aload_n B dX8_advise_48 1 rfl rfl ?_
        refine fR_g_row B dX8_advise_49 ?_
        refine z_iload_n B dX8_advise_52 0 rfl rfl ?_
        refine z_iconst B (4) dX8_advise_53 zc_iconst_4 ?_
        refine z_iadd B dX8_advise_54 hf (fun v54 hf => ?_)
        refine z_bipush B (99) dX8_advise_55 zc_bipush_99 ?_
        refine fR_s_row B dX8_advise_57 hf (fun s57 hf => ?_)
        refine z_aload_n B dX8_advise_58 1 rfl rfl ?_
        refine z_iconst B (0) dX8_advise_59 zc_iconst_0 ?_
        refine fR_p_plannedMany B dX8_advise_60 hf (fun s60 hf => ?_)
        refine z_aload_n B dX8_advise_63 1 rfl rfl ?_
        refine z_iload_n B dX8_advise_64 0 rfl rfl ?_
        refine z_callVu B (As := [.int v35]) kcV_X8_155 dX8_advise_65 hf (fun q hq => cR_proves q hq) (wR_o (adr := adr) (cI := cI) (cZ := cZ)) rfl rfl rfl rfl (Nat.le_of_ble_eq_true rfl) rfl rfl ⟨Nat.le_of_ble_eq_true rfl, Nat.le_of_ble_eq_true rfl⟩ (fun s65 hf => ?_)
        refine z_aload_n B dX8_advise_68 1 rfl rfl ?_
        refine z_iload_n B dX8_advise_69 0 rfl rfl ?_
        refine z_iconst B (-1) dX8_advise_70 zc_iconst_m1 ?_
        refine z_callVu B (As := [.int v35, .int (-1)]) kcV_X8_158 dX8_advise_71 hf (fun q hq => cR_batch q hq) (wR_o (adr := adr) (cI := cI) (cZ := cZ)) rfl rfl rfl rfl (Nat.le_of_ble_eq_true rfl) rfl rfl ⟨Nat.le_of_ble_eq_true rfl, Nat.le_of_ble_eq_true rfl⟩ (fun s71 hf => ?_)
        refine z_aload_n B dX8_advise_74 1 rfl rfl ?_
        refine fR_g_row B dX8_advise_75 ?_
        refine z_iload_n B dX8_advise_78 0 rfl rfl ?_
        refine z_bipush B (8) dX8_advise_79 zc_bipush_8 ?_
        refine z_iadd B dX8_advise_81 hf (fun v81 hf => ?_)
        refine z_aload_n B dX8_advise_82 1 rfl rfl ?_
        refine fR_g_row B dX8_advise_83 ?_
        refine z_bipush B (21) dX8_advise_86 zc_bipush_21 ?_
        refine fR_l_row B dX8_advise_88 hf (fun v88 hf => ?_)
        refine fR_s_row B dX8_advise_89 hf (fun s89 hf => ?_)
        refine z_iload_n B dX8_advise_90 0 rfl rfl ?_
        refine z_sipush B (542) dX8_advise_91 zc_sipush_542 ?_
        refine z_isub B dX8_advise_94 hf (fun v94 hf => ?_)
        refine z_bipush B (12) dX8_advise_95 zc_bipush_12 ?_
        refine z_idiv B dX8_advise_97 hf (fun v97 hf => ?_)
        exact z_ireturn B dX8_advise_98 hf
      · exact tR_advise_31 B N s25 x1 x2 hf
theorem dX8_write_0 : decode cX8_write 0 = .ok (.aload_n 0, 1) := by decide +kernel
theorem dX8_write_1 : decode cX8_write 1 = .ok (.iconst 0, 1) := by decide +kernel
theorem dX8_write_2 : decode cX8_write 2 = .ok (.putfield 67, 3) := by decide +kernel
theorem dX8_write_5 : decode cX8_write 5 = .ok (.aload_n 0, 1) := by decide +kernel
theorem dX8_write_6 : decode cX8_write 6 = .ok (.iload_n 1, 1) := by decide +kernel
theorem dX8_write_7 : decode cX8_write 7 = .ok (.invokevirtual 132, 3) := by decide +kernel
theorem dX8_write_10 : decode cX8_write 10 = .ok (.ifCond .eq 15, 3) := by decide +kernel
theorem dX8_write_13 : decode cX8_write 13 = .ok (.iload_n 2, 1) := by decide +kernel
theorem dX8_write_14 : decode cX8_write 14 = .ok (.i2l, 1) := by decide +kernel
theorem dX8_write_15 : decode cX8_write 15 = .ok (.lconst 0, 1) := by decide +kernel
theorem dX8_write_16 : decode cX8_write 16 = .ok (.ldc2_w 218, 3) := by decide +kernel
theorem dX8_write_19 : decode cX8_write 19 = .ok (.invokestatic 71, 3) := by decide +kernel
theorem dX8_write_22 : decode cX8_write 22 = .ok (.ifCond .ne 5, 3) := by decide +kernel
theorem dX8_write_25 : decode cX8_write 25 = .ok (.iconst (-1), 1) := by decide +kernel
theorem dX8_write_26 : decode cX8_write 26 = .ok (.ireturn, 1) := by decide +kernel
theorem dX8_write_27 : decode cX8_write 27 = .ok (.aload_n 0, 1) := by decide +kernel
theorem dX8_write_28 : decode cX8_write 28 = .ok (.getfield 21, 3) := by decide +kernel
theorem dX8_write_31 : decode cX8_write 31 = .ok (.iload_n 1, 1) := by decide +kernel
theorem dX8_write_32 : decode cX8_write 32 = .ok (.iaload, 1) := by decide +kernel
theorem dX8_write_33 : decode cX8_write 33 = .ok (.istore_n 3, 1) := by decide +kernel
theorem dX8_write_34 : decode cX8_write 34 = .ok (.aload_n 0, 1) := by decide +kernel
theorem dX8_write_35 : decode cX8_write 35 = .ok (.getfield 21, 3) := by decide +kernel
theorem dX8_write_38 : decode cX8_write 38 = .ok (.iload_n 1, 1) := by decide +kernel
theorem dX8_write_39 : decode cX8_write 39 = .ok (.iload_n 2, 1) := by decide +kernel
theorem dX8_write_40 : decode cX8_write 40 = .ok (.iastore, 1) := by decide +kernel
theorem dX8_write_41 : decode cX8_write 41 = .ok (.aload_n 0, 1) := by decide +kernel
theorem dX8_write_42 : decode cX8_write 42 = .ok (.iload_n 1, 1) := by decide +kernel
theorem dX8_write_43 : decode cX8_write 43 = .ok (.invokevirtual 136, 3) := by decide +kernel
theorem dX8_write_46 : decode cX8_write 46 = .ok (.istore 4, 2) := by decide +kernel
theorem dX8_write_48 : decode cX8_write 48 = .ok (.iload 4, 2) := by decide +kernel
theorem dX8_write_50 : decode cX8_write 50 = .ok (.iconst (-1), 1) := by decide +kernel
theorem dX8_write_51 : decode cX8_write 51 = .ok (.if_icmp .eq 13, 3) := by decide +kernel
theorem dX8_write_54 : decode cX8_write 54 = .ok (.aload_n 0, 1) := by decide +kernel
theorem dX8_write_55 : decode cX8_write 55 = .ok (.getfield 9, 3) := by decide +kernel
theorem dX8_write_58 : decode cX8_write 58 = .ok (.iload 4, 2) := by decide +kernel
theorem dX8_write_60 : decode cX8_write 60 = .ok (.iconst 1, 1) := by decide +kernel
theorem dX8_write_61 : decode cX8_write 61 = .ok (.iadd, 1) := by decide +kernel
theorem dX8_write_62 : decode cX8_write 62 = .ok (.iload_n 2, 1) := by decide +kernel
theorem dX8_write_63 : decode cX8_write 63 = .ok (.iastore, 1) := by decide +kernel
theorem dX8_write_64 : decode cX8_write 64 = .ok (.iload_n 3, 1) := by decide +kernel
theorem dX8_write_65 : decode cX8_write 65 = .ok (.ireturn, 1) := by decide +kernel
def mR_write_64 (N : Nat) (σ : ST) (x1 : Int32) (x2 : Int32) (x3 : Int32) (x4 : Int32) : Option (Int32 × ST) :=
  some (x3, σ)
set_option maxRecDepth 20000 in
set_option maxHeartbeats 2000000 in
theorem tR_write_64 {adr : Nat → Nat} {cI cZ : ClassId} {X : zX} {q : Int32 × ST} (B : zC X 5 (wdR adr cI cZ) cX8_write RX8 (some .int) { frames := 2, cells := 0, slots := 0, locals := 46 }) (N : Nat) (σ : ST) (x1 : Int32) (x2 : Int32) (x3 : Int32) (x4 : Int32) (hf : mR_write_64 N σ x1 x2 x3 x4 = some q) : zJ X 5 (wdR adr cI cZ) (zi q) 64 [(0, .ref (adr 0)), (1, .int x1), (2, .int x2), (3, .int x3), (4, .int x4)] [] σ := by
  refine z_iload_n B dX8_write_64 3 rfl rfl ?_
  exact z_ireturn B dX8_write_65 hf
def mR_write_25 (N : Nat) (σ : ST) (x1 : Int32) (x2 : Int32) : Option (Int32 × ST) :=
  some ((-1), σ)
set_option maxRecDepth 20000 in
set_option maxHeartbeats 2000000 in
theorem tR_write_25 {adr : Nat → Nat} {cI cZ : ClassId} {X : zX} {q : Int32 × ST} (B : zC X 5 (wdR adr cI cZ) cX8_write RX8 (some .int) { frames := 2, cells := 0, slots := 0, locals := 46 }) (N : Nat) (σ : ST) (x1 : Int32) (x2 : Int32) (hf : mR_write_25 N σ x1 x2 = some q) : zJ X 5 (wdR adr cI cZ) (zi q) 25 [(0, .ref (adr 0)), (1, .int x1), (2, .int x2)] [] σ := by
  refine z_iconst B (-1) dX8_write_25 zc_iconst_m1 ?_
  exact z_ireturn B dX8_write_26 hf
def mR_write (N : Nat) (σ : ST) (x1 : Int32) (x2 : Int32) : Option (Int32 × ST) :=
  zLet (zUp σ 0 0 (0)) fun s2 =>
  zCall (mR_isBlock N s2 x1) fun v7 s7 =>
  if (v7 : Int32) = 0 then
    mR_write_25 N s7 x1 x2
  else
    zLet ((x2 : Int32).toInt64) fun v14 =>
    zCall (mR_in N s7 v14 (0) (1000002)) fun v19 s19 =>
    if (v19 : Int32) = 0 then
      mR_write_25 N s19 x1 x2
    else
      zGet (s19 4) 10000 x1 fun v32 =>
      zSet s19 4 10000 x1 x2 fun s40 =>
      zCall (mR_place N s40 x1) fun v43 s43 =>
      if (v43 : Int32) = (-1) then
        mR_write_64 N s43 x1 x2 v32 v43
      else
        zLet ((v43 : Int32) + (1)) fun v61 =>
        zSet s43 1 1974 v61 x2 fun s63 =>
        mR_write_64 N s63 x1 x2 v32 v43
set_option maxRecDepth 20000 in
set_option maxHeartbeats 2000000 in
theorem cR_write {adr : Nat → Nat} {cI cZ : ClassId} {l : Launch} {D : va_G} {N : Nat} {σ : ST} {x1 : Int32} {x2 : Int32} (q : Int32 × ST) (hf : mR_write N σ x1 x2 = some q) : zM l D (wdR adr cI cZ) yX8_write cX8_write 5 (some .int) ({ frames := 2, cells := 0, slots := 0, locals := 46 }) [.ref (adr 0), .int x1, .int x2] σ (zi q) := by
  refine zM_of sfR_ok rfl (Nat.le_of_ble_eq_true rfl) [(0, .ref (adr 0)), (1, .int x1), (2, .int x2)] rfl (fun X hX1 hX2 B => ?_)
  have B : zC X 5 (wdR adr cI cZ) cX8_write RX8 (some .int) { frames := 2, cells := 0, slots := 0, locals := 46 } := B
  refine z_aload_n B dX8_write_0 0 rfl rfl ?_
  refine z_iconst B (0) dX8_write_1 zc_iconst_0 ?_
  refine fR_p_thrown B dX8_write_2 hf (fun s2 hf => ?_)
  refine z_aload_n B dX8_write_5 0 rfl rfl ?_
  refine z_iload_n B dX8_write_6 1 rfl rfl ?_
  refine z_callVi B (As := [.int x1]) kcV_X8_132 dX8_write_7 hf (fun q hq => cR_isBlock q hq) (wR_o (adr := adr) (cI := cI) (cZ := cZ)) rfl rfl rfl rfl (Nat.le_of_ble_eq_true rfl) rfl rfl ⟨Nat.le_of_ble_eq_true rfl, Nat.le_of_ble_eq_true rfl⟩ (fun v7 s7 hf => ?_)
  refine z_if_eq B 25 dX8_write_10 (by decide) hf (fun hf => ?_) (fun hf => ?_)
  · exact tR_write_25 B N s7 x1 x2 hf
  · refine z_iload_n B dX8_write_13 2 rfl rfl ?_
    refine z_i2l B dX8_write_14 hf (fun v14 hf => ?_)
    refine z_lconst B (0) dX8_write_15 rfl ?_
    refine z_ldc2 B kw_1164 dX8_write_16 ?_
    refine z_callSi B (As := [.long v14, .long (0), .long (1000002)]) kcS_X8_71 dX8_write_19 hf (fun q hq => cR_in q hq) rfl rfl (Nat.le_of_ble_eq_true rfl) rfl rfl ⟨Nat.le_of_ble_eq_true rfl, Nat.le_of_ble_eq_true rfl⟩ (fun v19 s19 hf => ?_)
    refine z_if_ne B 27 dX8_write_22 (by decide) hf (fun hf => ?_) (fun hf => ?_)
    · refine z_aload_n B dX8_write_27 0 rfl rfl ?_
      refine fR_g_disk B dX8_write_28 ?_
      refine z_iload_n B dX8_write_31 1 rfl rfl ?_
      refine fR_l_disk B dX8_write_32 hf (fun v32 hf => ?_)
      refine z_istore_n B [(3, .int v32), (0, .ref (adr 0)), (1, .int x1), (2, .int x2)] dX8_write_33 rfl (Nat.le_of_ble_eq_true rfl) rfl ?_
      refine z_aload_n B dX8_write_34 1 rfl rfl ?_
      refine fR_g_disk B dX8_write_35 ?_
      refine z_iload_n B dX8_write_38 2 rfl rfl ?_
      refine z_iload_n B dX8_write_39 3 rfl rfl ?_
      refine fR_s_disk B dX8_write_40 hf (fun s40 hf => ?_)
      refine z_aload_n B dX8_write_41 1 rfl rfl ?_
      refine z_iload_n B dX8_write_42 2 rfl rfl ?_
      refine z_callVi B (As := [.int x1]) kcV_X8_136 dX8_write_43 hf (fun q hq => cR_place q hq) (wR_o (adr := adr) (cI := cI) (cZ := cZ)) rfl rfl rfl rfl (Nat.le_of_ble_eq_true rfl) rfl rfl ⟨Nat.le_of_ble_eq_true rfl, Nat.le_of_ble_eq_true rfl⟩ (fun v43 s43 hf => ?_)
      refine z_istore B [(4, .int v43), (3, .int v32), (0, .ref (adr 0)), (1, .int x1), (2, .int x2)] dX8_write_46 (Nat.le_of_ble_eq_true rfl) rfl ?_
      refine z_iload B dX8_write_48 0 rfl ?_
      refine z_iconst B (-1) dX8_write_50 zc_iconst_m1 ?_
      refine z_icmp_eq B 64 dX8_write_51 (by decide) hf (fun hf => ?_) (fun hf => ?_)
      · exact z_loc [2, 3, 4, 1, 0] _ rfl (tR_write_64 B N s43 x1 x2 v32 v43 hf)
      · refine z_aload_n B dX8_write_54 2 rfl rfl ?_
        refine fR_g_row B dX8_write_55 ?_
        refine z_iload B dX8_write_58 0 rfl ?_
        refine z_iconst B (1) dX8_write_60 zc_iconst_1 ?_
        refine z_iadd B dX8_write_61 hf (fun v61 hf => ?_)
        refine z_iload_n B dX8_write_62 4 rfl rfl ?_
        refine fR_s_row B dX8_write_63 hf (fun s63 hf => ?_)
        exact z_loc [2, 3, 4, 1, 0] _ rfl (tR_write_64 B N s63 x1 x2 v32 v43 hf)
    · exact tR_write_25 B N s19 x1 x2 hf
theorem dX8_bad_0 : decode cX8_bad 0 = .ok (.aload_n 0, 1) := by decide +kernel
theorem dX8_bad_1 : decode cX8_bad 1 = .ok (.iconst 0, 1) := by decide +kernel
theorem dX8_bad_2 : decode cX8_bad 2 = .ok (.putfield 67, 3) := by decide +kernel
theorem dX8_bad_5 : decode cX8_bad 5 = .ok (.aload_n 0, 1) := by decide +kernel
theorem dX8_bad_6 : decode cX8_bad 6 = .ok (.iload_n 1, 1) := by decide +kernel
theorem dX8_bad_7 : decode cX8_bad 7 = .ok (.invokevirtual 132, 3) := by decide +kernel
theorem dX8_bad_10 : decode cX8_bad 10 = .ok (.ifCond .eq 13, 3) := by decide +kernel
theorem dX8_bad_13 : decode cX8_bad 13 = .ok (.aload_n 0, 1) := by decide +kernel
theorem dX8_bad_14 : decode cX8_bad 14 = .ok (.getfield 24, 3) := by decide +kernel
theorem dX8_bad_17 : decode cX8_bad 17 = .ok (.iload_n 1, 1) := by decide +kernel
theorem dX8_bad_18 : decode cX8_bad 18 = .ok (.baload, 1) := by decide +kernel
theorem dX8_bad_19 : decode cX8_bad 19 = .ok (.iload_n 2, 1) := by decide +kernel
theorem dX8_bad_20 : decode cX8_bad 20 = .ok (.if_icmp .ne 5, 3) := by decide +kernel
theorem dX8_bad_23 : decode cX8_bad 23 = .ok (.iconst 0, 1) := by decide +kernel
theorem dX8_bad_24 : decode cX8_bad 24 = .ok (.ireturn, 1) := by decide +kernel
theorem dX8_bad_25 : decode cX8_bad 25 = .ok (.aload_n 0, 1) := by decide +kernel
theorem dX8_bad_26 : decode cX8_bad 26 = .ok (.getfield 24, 3) := by decide +kernel
theorem dX8_bad_29 : decode cX8_bad 29 = .ok (.iload_n 1, 1) := by decide +kernel
theorem dX8_bad_30 : decode cX8_bad 30 = .ok (.iload_n 2, 1) := by decide +kernel
theorem dX8_bad_31 : decode cX8_bad 31 = .ok (.bastore, 1) := by decide +kernel
theorem dX8_bad_32 : decode cX8_bad 32 = .ok (.iconst 1, 1) := by decide +kernel
theorem dX8_bad_33 : decode cX8_bad 33 = .ok (.ireturn, 1) := by decide +kernel
def mR_bad_23 (N : Nat) (σ : ST) (x1 : Int32) (x2 : Int32) : Option (Int32 × ST) :=
  zBool (0) (some ((0), σ))
set_option maxRecDepth 20000 in
set_option maxHeartbeats 2000000 in
theorem tR_bad_23 {adr : Nat → Nat} {cI cZ : ClassId} {X : zX} {q : Int32 × ST} (B : zC X 3 (wdR adr cI cZ) cX8_bad RX8 (some .boolean) { frames := 2, cells := 0, slots := 0, locals := 46 }) (N : Nat) (σ : ST) (x1 : Int32) (x2 : Int32) (hf : mR_bad_23 N σ x1 x2 = some q) : zJ X 3 (wdR adr cI cZ) (zi q) 23 [(0, .ref (adr 0)), (1, .int x1), (2, .int x2)] [] σ := by
  refine z_iconst B (0) dX8_bad_23 zc_iconst_0 ?_
  exact z_zreturn B dX8_bad_24 hf
def mR_bad (N : Nat) (σ : ST) (x1 : Int32) (x2 : Int32) : Option (Int32 × ST) :=
  zLet (zUp σ 0 0 (0)) fun s2 =>
  zCall (mR_isBlock N s2 x1) fun v7 s7 =>
  if (v7 : Int32) = 0 then
    mR_bad_23 N s7 x1 x2
  else
    zGet (s7 5) 10000 x1 fun v18 =>
    if (v18 : Int32) = x2 then
      mR_bad_23 N s7 x1 x2
    else
      zSet s7 5 10000 x1 (vp_nar .boolean x2) fun s31 =>
      zBool (1) (some ((1), s31))
set_option maxRecDepth 20000 in
set_option maxHeartbeats 2000000 in
theorem cR_bad {adr : Nat → Nat} {cI cZ : ClassId} {l : Launch} {D : va_G} {N : Nat} {σ : ST} {x1 : Int32} {x2 : Int32} (q : Int32 × ST) (hf : mR_bad N σ x1 x2 = some q) : zM l D (wdR adr cI cZ) yX8_bad cX8_bad 3 (some .boolean) ({ frames := 2, cells := 0, slots := 0, locals := 46 }) [.ref (adr 0), .int x1, .int x2] σ (zi q) := by
  refine zM_of sfR_ok rfl (Nat.le_of_ble_eq_true rfl) [(0, .ref (adr 0)), (1, .int x1), (2, .int x2)] rfl (fun X hX1 hX2 B => ?_)
  have B : zC X 3 (wdR adr cI cZ) cX8_bad RX8 (some .boolean) { frames := 2, cells := 0, slots := 0, locals := 46 } := B
  refine z_aload_n B dX8_bad_0 0 rfl rfl ?_
  refine z_iconst B (0) dX8_bad_1 zc_iconst_0 ?_
  refine fR_p_thrown B dX8_bad_2 hf (fun s2 hf => ?_)
  refine z_aload_n B dX8_bad_5 0 rfl rfl ?_
  refine z_iload_n B dX8_bad_6 1 rfl rfl ?_
  refine z_callVi B (As := [.int x1]) kcV_X8_132 dX8_bad_7 hf (fun q hq => cR_isBlock q hq) (wR_o (adr := adr) (cI := cI) (cZ := cZ)) rfl rfl rfl rfl (Nat.le_of_ble_eq_true rfl) rfl rfl ⟨Nat.le_of_ble_eq_true rfl, Nat.le_of_ble_eq_true rfl⟩ (fun v7 s7 hf => ?_)
  refine z_if_eq B 23 dX8_bad_10 (by decide) hf (fun hf => ?_) (fun hf => ?_)
  · exact tR_bad_23 B N s7 x1 x2 hf
  · refine z_aload_n B dX8_bad_13 0 rfl rfl ?_
    refine fR_g_isBad B dX8_bad_14 ?_
    refine z_iload_n B dX8_bad_17 1 rfl rfl ?_
    refine fR_l_isBad B dX8_bad_18 hf (fun v18 hf => ?_)
    refine z_iload_n B dX8_bad_19 2 rfl rfl ?_
    refine z_icmp_ne B 25 dX8_bad_20 (by decide) hf (fun hf => ?_) (fun hf => ?_)
    · refine z_aload_n B dX8_bad_25 0 rfl rfl ?_
      refine fR_g_isBad B dX8_bad_26 ?_
      refine z_iload_n B dX8_bad_29 1 rfl rfl ?_
      refine z_iload_n B dX8_bad_30 2 rfl rfl ?_
      refine fR_s_isBad B dX8_bad_31 hf (fun s31 hf => ?_)
      refine z_iconst B (1) dX8_bad_32 zc_iconst_1 ?_
      exact z_zreturn B dX8_bad_33 hf
    · exact tR_bad_23 B N s7 x1 x2 hf
theorem dX8_drop_0 : decode cX8_drop 0 = .ok (.aload_n 0, 1) := by decide +kernel
theorem dX8_drop_1 : decode cX8_drop 1 = .ok (.iconst 0, 1) := by decide +kernel
theorem dX8_drop_2 : decode cX8_drop 2 = .ok (.putfield 67, 3) := by decide +kernel
theorem dX8_drop_5 : decode cX8_drop 5 = .ok (.aload_n 0, 1) := by decide +kernel
theorem dX8_drop_6 : decode cX8_drop 6 = .ok (.iload_n 1, 1) := by decide +kernel
theorem dX8_drop_7 : decode cX8_drop 7 = .ok (.invokevirtual 132, 3) := by decide +kernel
theorem dX8_drop_10 : decode cX8_drop 10 = .ok (.ifCond .eq 11, 3) := by decide +kernel
theorem dX8_drop_13 : decode cX8_drop 13 = .ok (.aload_n 0, 1) := by decide +kernel
theorem dX8_drop_14 : decode cX8_drop 14 = .ok (.iload_n 1, 1) := by decide +kernel
theorem dX8_drop_15 : decode cX8_drop 15 = .ok (.invokevirtual 136, 3) := by decide +kernel
theorem dX8_drop_18 : decode cX8_drop 18 = .ok (.goto 4, 3) := by decide +kernel
theorem dX8_drop_21 : decode cX8_drop 21 = .ok (.iconst (-1), 1) := by decide +kernel
theorem dX8_drop_22 : decode cX8_drop 22 = .ok (.istore_n 2, 1) := by decide +kernel
theorem dX8_drop_23 : decode cX8_drop 23 = .ok (.iload_n 2, 1) := by decide +kernel
theorem dX8_drop_24 : decode cX8_drop 24 = .ok (.iconst (-1), 1) := by decide +kernel
theorem dX8_drop_25 : decode cX8_drop 25 = .ok (.if_icmp .ne 5, 3) := by decide +kernel
theorem dX8_drop_28 : decode cX8_drop 28 = .ok (.iconst 0, 1) := by decide +kernel
theorem dX8_drop_29 : decode cX8_drop 29 = .ok (.ireturn, 1) := by decide +kernel
theorem dX8_drop_30 : decode cX8_drop 30 = .ok (.aload_n 0, 1) := by decide +kernel
theorem dX8_drop_31 : decode cX8_drop 31 = .ok (.iload_n 2, 1) := by decide +kernel
theorem dX8_drop_32 : decode cX8_drop 32 = .ok (.invokevirtual 116, 3) := by decide +kernel
theorem dX8_drop_35 : decode cX8_drop 35 = .ok (.iconst 1, 1) := by decide +kernel
theorem dX8_drop_36 : decode cX8_drop 36 = .ok (.ireturn, 1) := by decide +kernel
def mR_drop_22 (N : Nat) (σ : ST) (x1 : Int32) (k0 : Int32) : Option (Int32 × ST) :=
  if (k0 : Int32) = (-1) then
    zBool (0) (some ((0), σ))
  else
    zCallu (mR_goes N σ k0) fun s32 =>
    zBool (1) (some ((1), s32))
set_option maxRecDepth 20000 in
set_option maxHeartbeats 2000000 in
theorem tR_drop_22 {adr : Nat → Nat} {cI cZ : ClassId} {X : zX} {q : Int32 × ST} (B : zC X 3 (wdR adr cI cZ) cX8_drop RX8 (some .boolean) { frames := 3, cells := 0, slots := 0, locals := 64 }) (N : Nat) (σ : ST) (x1 : Int32) (k0 : Int32) (hf : mR_drop_22 N σ x1 k0 = some q) : zJ X 3 (wdR adr cI cZ) (zi q) 22 [(0, .ref (adr 0)), (1, .int x1)] [.int k0] σ := by
  refine z_istore_n B [(2, .int k0), (0, .ref (adr 0)), (1, .int x1)] dX8_drop_22 rfl (Nat.le_of_ble_eq_true rfl) rfl ?_
  refine z_iload_n B dX8_drop_23 0 rfl rfl ?_
  refine z_iconst B (-1) dX8_drop_24 zc_iconst_m1 ?_
  refine z_icmp_ne B 30 dX8_drop_25 (by decide) hf (fun hf => ?_) (fun hf => ?_)
  · refine z_aload_n B dX8_drop_30 1 rfl rfl ?_
    refine z_iload_n B dX8_drop_31 0 rfl rfl ?_
    refine z_callVu B (As := [.int k0]) kcV_X8_116 dX8_drop_32 hf (fun q hq => cR_goes q hq) (wR_o (adr := adr) (cI := cI) (cZ := cZ)) rfl rfl rfl rfl (Nat.le_of_ble_eq_true rfl) rfl rfl ⟨Nat.le_of_ble_eq_true rfl, Nat.le_of_ble_eq_true rfl⟩ (fun s32 hf => ?_)
    refine z_iconst B (1) dX8_drop_35 zc_iconst_1 ?_
    exact z_zreturn B dX8_drop_36 hf
  · refine z_iconst B (0) dX8_drop_28 zc_iconst_0 ?_
    exact z_zreturn B dX8_drop_29 hf
def mR_drop (N : Nat) (σ : ST) (x1 : Int32) : Option (Int32 × ST) :=
  zLet (zUp σ 0 0 (0)) fun s2 =>
  zCall (mR_isBlock N s2 x1) fun v7 s7 =>
  if (v7 : Int32) = 0 then
    mR_drop_22 N s7 x1 (-1)
  else
    zCall (mR_place N s7 x1) fun v15 s15 =>
    mR_drop_22 N s15 x1 v15
set_option maxRecDepth 20000 in
set_option maxHeartbeats 2000000 in
theorem cR_drop {adr : Nat → Nat} {cI cZ : ClassId} {l : Launch} {D : va_G} {N : Nat} {σ : ST} {x1 : Int32} (q : Int32 × ST) (hf : mR_drop N σ x1 = some q) : zM l D (wdR adr cI cZ) yX8_drop cX8_drop 3 (some .boolean) ({ frames := 3, cells := 0, slots := 0, locals := 64 }) [.ref (adr 0), .int x1] σ (zi q) := by
  refine zM_of sfR_ok rfl (Nat.le_of_ble_eq_true rfl) [(0, .ref (adr 0)), (1, .int x1)] rfl (fun X hX1 hX2 B => ?_)
  have B : zC X 3 (wdR adr cI cZ) cX8_drop RX8 (some .boolean) { frames := 3, cells := 0, slots := 0, locals := 64 } := B
  refine z_aload_n B dX8_drop_0 0 rfl rfl ?_
  refine z_iconst B (0) dX8_drop_1 zc_iconst_0 ?_
  refine fR_p_thrown B dX8_drop_2 hf (fun s2 hf => ?_)
  refine z_aload_n B dX8_drop_5 0 rfl rfl ?_
  refine z_iload_n B dX8_drop_6 1 rfl rfl ?_
  refine z_callVi B (As := [.int x1]) kcV_X8_132 dX8_drop_7 hf (fun q hq => cR_isBlock q hq) (wR_o (adr := adr) (cI := cI) (cZ := cZ)) rfl rfl rfl rfl (Nat.le_of_ble_eq_true rfl) rfl rfl ⟨Nat.le_of_ble_eq_true rfl, Nat.le_of_ble_eq_true rfl⟩ (fun v7 s7 hf => ?_)
  refine z_if_eq B 21 dX8_drop_10 (by decide) hf (fun hf => ?_) (fun hf => ?_)
  · refine z_iconst B (-1) dX8_drop_21 zc_iconst_m1 ?_
    exact tR_drop_22 B N s7 x1 (-1) hf
  · refine z_aload_n B dX8_drop_13 0 rfl rfl ?_
    refine z_iload_n B dX8_drop_14 1 rfl rfl ?_
    refine z_callVi B (As := [.int x1]) kcV_X8_136 dX8_drop_15 hf (fun q hq => cR_place q hq) (wR_o (adr := adr) (cI := cI) (cZ := cZ)) rfl rfl rfl rfl (Nat.le_of_ble_eq_true rfl) rfl rfl ⟨Nat.le_of_ble_eq_true rfl, Nat.le_of_ble_eq_true rfl⟩ (fun v15 s15 hf => ?_)
    refine z_goto B 22 dX8_drop_18 (by decide) ?_
    exact tR_drop_22 B N s15 x1 v15 hf
theorem dX8_isStream_0 : decode cX8_isStream 0 = .ok (.iload_n 1, 1) := by decide +kernel
theorem dX8_isStream_1 : decode cX8_isStream 1 = .ok (.i2l, 1) := by decide +kernel
theorem dX8_isStream_2 : decode cX8_isStream 2 = .ok (.lconst 0, 1) := by decide +kernel
theorem dX8_isStream_3 : decode cX8_isStream 3 = .ok (.ldc2_w 220, 3) := by decide +kernel
theorem dX8_isStream_6 : decode cX8_isStream 6 = .ok (.invokestatic 71, 3) := by decide +kernel
theorem dX8_isStream_9 : decode cX8_isStream 9 = .ok (.ifCond .eq 20, 3) := by decide +kernel
theorem dX8_isStream_12 : decode cX8_isStream 12 = .ok (.aload_n 0, 1) := by decide +kernel
theorem dX8_isStream_13 : decode cX8_isStream 13 = .ok (.getfield 9, 3) := by decide +kernel
theorem dX8_isStream_16 : decode cX8_isStream 16 = .ok (.iload_n 1, 1) := by decide +kernel
theorem dX8_isStream_17 : decode cX8_isStream 17 = .ok (.invokestatic 89, 3) := by decide +kernel
theorem dX8_isStream_20 : decode cX8_isStream 20 = .ok (.iaload, 1) := by decide +kernel
theorem dX8_isStream_21 : decode cX8_isStream 21 = .ok (.iconst 1, 1) := by decide +kernel
theorem dX8_isStream_22 : decode cX8_isStream 22 = .ok (.if_icmp .ne 7, 3) := by decide +kernel
theorem dX8_isStream_25 : decode cX8_isStream 25 = .ok (.iconst 1, 1) := by decide +kernel
theorem dX8_isStream_26 : decode cX8_isStream 26 = .ok (.goto 4, 3) := by decide +kernel
theorem dX8_isStream_29 : decode cX8_isStream 29 = .ok (.iconst 0, 1) := by decide +kernel
theorem dX8_isStream_30 : decode cX8_isStream 30 = .ok (.ireturn, 1) := by decide +kernel
def mR_isStream_30 (N : Nat) (σ : ST) (x1 : Int32) (k0 : Int32) : Option (Int32 × ST) :=
  zBool k0 (some (k0, σ))
set_option maxRecDepth 20000 in
set_option maxHeartbeats 2000000 in
theorem tR_isStream_30 {adr : Nat → Nat} {cI cZ : ClassId} {X : zX} {q : Int32 × ST} (B : zC X 2 (wdR adr cI cZ) cX8_isStream RX8 (some .boolean) { frames := 1, cells := 0, slots := 0, locals := 25 }) (N : Nat) (σ : ST) (x1 : Int32) (k0 : Int32) (hf : mR_isStream_30 N σ x1 k0 = some q) : zJ X 2 (wdR adr cI cZ) (zi q) 30 [(0, .ref (adr 0)), (1, .int x1)] [.int k0] σ := by
  exact z_zreturn B dX8_isStream_30 hf
def mR_isStream_29 (N : Nat) (σ : ST) (x1 : Int32) : Option (Int32 × ST) :=
  mR_isStream_30 N σ x1 (0)
set_option maxRecDepth 20000 in
set_option maxHeartbeats 2000000 in
theorem tR_isStream_29 {adr : Nat → Nat} {cI cZ : ClassId} {X : zX} {q : Int32 × ST} (B : zC X 2 (wdR adr cI cZ) cX8_isStream RX8 (some .boolean) { frames := 1, cells := 0, slots := 0, locals := 25 }) (N : Nat) (σ : ST) (x1 : Int32) (hf : mR_isStream_29 N σ x1 = some q) : zJ X 2 (wdR adr cI cZ) (zi q) 29 [(0, .ref (adr 0)), (1, .int x1)] [] σ := by
  refine z_iconst B (0) dX8_isStream_29 zc_iconst_0 ?_
  exact tR_isStream_30 B N σ x1 (0) hf
def mR_isStream (N : Nat) (σ : ST) (x1 : Int32) : Option (Int32 × ST) :=
  zLet ((x1 : Int32).toInt64) fun v1 =>
  zCall (mR_in N σ v1 (0) (5)) fun v6 s6 =>
  if (v6 : Int32) = 0 then
    mR_isStream_29 N s6 x1
  else
    zCall (mR_streamAt N s6 x1) fun v17 s17 =>
    zGet (s17 1) 1974 v17 fun v20 =>
    if (v20 : Int32) = (1) then
      mR_isStream_30 N s17 x1 (1)
    else
      mR_isStream_29 N s17 x1
set_option maxRecDepth 20000 in
set_option maxHeartbeats 2000000 in
theorem cR_isStream {adr : Nat → Nat} {cI cZ : ClassId} {l : Launch} {D : va_G} {N : Nat} {σ : ST} {x1 : Int32} (q : Int32 × ST) (hf : mR_isStream N σ x1 = some q) : zM l D (wdR adr cI cZ) yX8_isStream cX8_isStream 2 (some .boolean) ({ frames := 1, cells := 0, slots := 0, locals := 25 }) [.ref (adr 0), .int x1] σ (zi q) := by
  refine zM_of sfR_ok rfl (Nat.le_of_ble_eq_true rfl) [(0, .ref (adr 0)), (1, .int x1)] rfl (fun X hX1 hX2 B => ?_)
  have B : zC X 2 (wdR adr cI cZ) cX8_isStream RX8 (some .boolean) { frames := 1, cells := 0, slots := 0, locals := 25 } := B
  refine z_iload_n B dX8_isStream_0 1 rfl rfl ?_
  refine z_i2l B dX8_isStream_1 hf (fun v1 hf => ?_)
  refine z_lconst B (0) dX8_isStream_2 rfl ?_
  refine z_ldc2 B kw_1181 dX8_isStream_3 ?_
  refine z_callSi B (As := [.long v1, .long (0), .long (5)]) kcS_X8_71 dX8_isStream_6 hf (fun q hq => cR_in q hq) rfl rfl (Nat.le_of_ble_eq_true rfl) rfl rfl ⟨Nat.le_of_ble_eq_true rfl, Nat.le_of_ble_eq_true rfl⟩ (fun v6 s6 hf => ?_)
  refine z_if_eq B 29 dX8_isStream_9 (by decide) hf (fun hf => ?_) (fun hf => ?_)
  · exact tR_isStream_29 B N s6 x1 hf
  · refine z_aload_n B dX8_isStream_12 0 rfl rfl ?_
    refine fR_g_row B dX8_isStream_13 ?_
    refine z_iload_n B dX8_isStream_16 1 rfl rfl ?_
    refine z_callSi B (As := [.int x1]) kcS_X8_89 dX8_isStream_17 hf (fun q hq => cR_streamAt q hq) rfl rfl (Nat.le_of_ble_eq_true rfl) rfl rfl ⟨Nat.le_of_ble_eq_true rfl, Nat.le_of_ble_eq_true rfl⟩ (fun v17 s17 hf => ?_)
    refine fR_l_row B dX8_isStream_20 hf (fun v20 hf => ?_)
    refine z_iconst B (1) dX8_isStream_21 zc_iconst_1 ?_
    refine z_icmp_ne B 29 dX8_isStream_22 (by decide) hf (fun hf => ?_) (fun hf => ?_)
    · exact tR_isStream_29 B N s17 x1 hf
    · refine z_iconst B (1) dX8_isStream_25 zc_iconst_1 ?_
      refine z_goto B 30 dX8_isStream_26 (by decide) ?_
      exact tR_isStream_30 B N s17 x1 (1) hf
theorem dX8_stop_0 : decode cX8_stop 0 = .ok (.aload_n 0, 1) := by decide +kernel
theorem dX8_stop_1 : decode cX8_stop 1 = .ok (.iconst 0, 1) := by decide +kernel
theorem dX8_stop_2 : decode cX8_stop 2 = .ok (.putfield 67, 3) := by decide +kernel
theorem dX8_stop_5 : decode cX8_stop 5 = .ok (.aload_n 0, 1) := by decide +kernel
theorem dX8_stop_6 : decode cX8_stop 6 = .ok (.iload_n 1, 1) := by decide +kernel
theorem dX8_stop_7 : decode cX8_stop 7 = .ok (.invokevirtual 222, 3) := by decide +kernel
theorem dX8_stop_10 : decode cX8_stop 10 = .ok (.ifCond .ne 5, 3) := by decide +kernel
theorem dX8_stop_13 : decode cX8_stop 13 = .ok (.iconst (-1), 1) := by decide +kernel
theorem dX8_stop_14 : decode cX8_stop 14 = .ok (.ireturn, 1) := by decide +kernel
theorem dX8_stop_15 : decode cX8_stop 15 = .ok (.aload_n 0, 1) := by decide +kernel
theorem dX8_stop_16 : decode cX8_stop 16 = .ok (.getfield 9, 3) := by decide +kernel
theorem dX8_stop_19 : decode cX8_stop 19 = .ok (.iload_n 1, 1) := by decide +kernel
theorem dX8_stop_20 : decode cX8_stop 20 = .ok (.invokestatic 89, 3) := by decide +kernel
theorem dX8_stop_23 : decode cX8_stop 23 = .ok (.iconst 0, 1) := by decide +kernel
theorem dX8_stop_24 : decode cX8_stop 24 = .ok (.iastore, 1) := by decide +kernel
theorem dX8_stop_25 : decode cX8_stop 25 = .ok (.aload_n 0, 1) := by decide +kernel
theorem dX8_stop_26 : decode cX8_stop 26 = .ok (.getfield 9, 3) := by decide +kernel
theorem dX8_stop_29 : decode cX8_stop 29 = .ok (.iload_n 1, 1) := by decide +kernel
theorem dX8_stop_30 : decode cX8_stop 30 = .ok (.invokestatic 89, 3) := by decide +kernel
theorem dX8_stop_33 : decode cX8_stop 33 = .ok (.iconst 1, 1) := by decide +kernel
theorem dX8_stop_34 : decode cX8_stop 34 = .ok (.iadd, 1) := by decide +kernel
theorem dX8_stop_35 : decode cX8_stop 35 = .ok (.iaload, 1) := by decide +kernel
theorem dX8_stop_36 : decode cX8_stop 36 = .ok (.ireturn, 1) := by decide +kernel
def mR_stop (N : Nat) (σ : ST) (x1 : Int32) : Option (Int32 × ST) :=
  zLet (zUp σ 0 0 (0)) fun s2 =>
  zCall (mR_isStream N s2 x1) fun v7 s7 =>
  if (v7 : Int32) = 0 then
    some ((-1), s7)
  else
    zCall (mR_streamAt N s7 x1) fun v20 s20 =>
    zSet s20 1 1974 v20 (0) fun s24 =>
    zCall (mR_streamAt N s24 x1) fun v30 s30 =>
    zLet ((v30 : Int32) + (1)) fun v34 =>
    zGet (s30 1) 1974 v34 fun v35 =>
    some (v35, s30)
set_option maxRecDepth 20000 in
set_option maxHeartbeats 2000000 in
theorem cR_stop {adr : Nat → Nat} {cI cZ : ClassId} {l : Launch} {D : va_G} {N : Nat} {σ : ST} {x1 : Int32} (q : Int32 × ST) (hf : mR_stop N σ x1 = some q) : zM l D (wdR adr cI cZ) yX8_stop cX8_stop 2 (some .int) ({ frames := 2, cells := 0, slots := 0, locals := 46 }) [.ref (adr 0), .int x1] σ (zi q) := by
  refine zM_of sfR_ok rfl (Nat.le_of_ble_eq_true rfl) [(0, .ref (adr 0)), (1, .int x1)] rfl (fun X hX1 hX2 B => ?_)
  have B : zC X 2 (wdR adr cI cZ) cX8_stop RX8 (some .int) { frames := 2, cells := 0, slots := 0, locals := 46 } := B
  refine z_aload_n B dX8_stop_0 0 rfl rfl ?_
  refine z_iconst B (0) dX8_stop_1 zc_iconst_0 ?_
  refine fR_p_thrown B dX8_stop_2 hf (fun s2 hf => ?_)
  refine z_aload_n B dX8_stop_5 0 rfl rfl ?_
  refine z_iload_n B dX8_stop_6 1 rfl rfl ?_
  refine z_callVi B (As := [.int x1]) kcV_X8_222 dX8_stop_7 hf (fun q hq => cR_isStream q hq) (wR_o (adr := adr) (cI := cI) (cZ := cZ)) rfl rfl rfl rfl (Nat.le_of_ble_eq_true rfl) rfl rfl ⟨Nat.le_of_ble_eq_true rfl, Nat.le_of_ble_eq_true rfl⟩ (fun v7 s7 hf => ?_)
  refine z_if_ne B 15 dX8_stop_10 (by decide) hf (fun hf => ?_) (fun hf => ?_)
  · refine z_aload_n B dX8_stop_15 0 rfl rfl ?_
    refine fR_g_row B dX8_stop_16 ?_
    refine z_iload_n B dX8_stop_19 1 rfl rfl ?_
    refine z_callSi B (As := [.int x1]) kcS_X8_89 dX8_stop_20 hf (fun q hq => cR_streamAt q hq) rfl rfl (Nat.le_of_ble_eq_true rfl) rfl rfl ⟨Nat.le_of_ble_eq_true rfl, Nat.le_of_ble_eq_true rfl⟩ (fun v20 s20 hf => ?_)
    refine z_iconst B (0) dX8_stop_23 zc_iconst_0 ?_
    refine fR_s_row B dX8_stop_24 hf (fun s24 hf => ?_)
    refine z_aload_n B dX8_stop_25 0 rfl rfl ?_
    refine fR_g_row B dX8_stop_26 ?_
    refine z_iload_n B dX8_stop_29 1 rfl rfl ?_
    refine z_callSi B (As := [.int x1]) kcS_X8_89 dX8_stop_30 hf (fun q hq => cR_streamAt q hq) rfl rfl (Nat.le_of_ble_eq_true rfl) rfl rfl ⟨Nat.le_of_ble_eq_true rfl, Nat.le_of_ble_eq_true rfl⟩ (fun v30 s30 hf => ?_)
    refine z_iconst B (1) dX8_stop_33 zc_iconst_1 ?_
    refine z_iadd B dX8_stop_34 hf (fun v34 hf => ?_)
    refine fR_l_row B dX8_stop_35 hf (fun v35 hf => ?_)
    exact z_ireturn B dX8_stop_36 hf
  · refine z_iconst B (-1) dX8_stop_13 zc_iconst_m1 ?_
    exact z_ireturn B dX8_stop_14 hf
theorem dX8_copy_0 : decode cX8_copy 0 = .ok (.iconst 0, 1) := by decide +kernel
theorem dX8_copy_1 : decode cX8_copy 1 = .ok (.istore 4, 2) := by decide +kernel
theorem dX8_copy_3 : decode cX8_copy 3 = .ok (.iload 4, 2) := by decide +kernel
theorem dX8_copy_5 : decode cX8_copy 5 = .ok (.sipush 1974, 3) := by decide +kernel
theorem dX8_copy_8 : decode cX8_copy 8 = .ok (.if_icmp .ge 21, 3) := by decide +kernel
theorem dX8_copy_11 : decode cX8_copy 11 = .ok (.aload_n 2, 1) := by decide +kernel
theorem dX8_copy_12 : decode cX8_copy 12 = .ok (.iload_n 3, 1) := by decide +kernel
theorem dX8_copy_13 : decode cX8_copy 13 = .ok (.iload 4, 2) := by decide +kernel
theorem dX8_copy_15 : decode cX8_copy 15 = .ok (.iadd, 1) := by decide +kernel
theorem dX8_copy_16 : decode cX8_copy 16 = .ok (.aload_n 0, 1) := by decide +kernel
theorem dX8_copy_17 : decode cX8_copy 17 = .ok (.iload_n 1, 1) := by decide +kernel
theorem dX8_copy_18 : decode cX8_copy 18 = .ok (.iload 4, 2) := by decide +kernel
theorem dX8_copy_20 : decode cX8_copy 20 = .ok (.iadd, 1) := by decide +kernel
theorem dX8_copy_21 : decode cX8_copy 21 = .ok (.iaload, 1) := by decide +kernel
theorem dX8_copy_22 : decode cX8_copy 22 = .ok (.iastore, 1) := by decide +kernel
theorem dX8_copy_23 : decode cX8_copy 23 = .ok (.iinc 4 1, 3) := by decide +kernel
theorem dX8_copy_26 : decode cX8_copy 26 = .ok (.goto (-23), 3) := by decide +kernel
theorem dX8_copy_29 : decode cX8_copy 29 = .ok (.return_, 1) := by decide +kernel
def mR_copy_row_kept_B3 (N : Nat) (hd3 : ST → Int32 → Int32 → Int32 → Option (ST)) (σ : ST) (x1 : Int32) (x3 : Int32) (x4 : Int32) : Option (ST) :=
  if ((1974) : Int32) ≤ x4 then
    some σ
  else
    zLet ((x3 : Int32) + x4) fun v15 =>
    zLet ((x1 : Int32) + x4) fun v20 =>
    zGet (σ 1) 1974 v20 fun v21 =>
    zSet σ 3 3948 v15 v21 fun s22 =>
    zLet (x4 + (1)) fun v23 =>
    hd3 s22 x1 x3 v23
def mR_copy_row_kept_3 (N : Nat) : ST → Int32 → Int32 → Int32 → Option (ST) := zIt (mR_copy_row_kept_B3 N) (fun _ _ _ _ => none) N
set_option maxRecDepth 20000 in
set_option maxHeartbeats 2000000 in
theorem tR_copy_row_kept_3 {adr : Nat → Nat} {cI cZ : ClassId} {X : zX} {q : ST} (B : zC X 5 (wdR adr cI cZ) cX8_copy RX8 none { frames := 0, cells := 0, slots := 0, locals := 0 }) (N : Nat) : ∀ (σ : ST) (x1 : Int32) (x3 : Int32) (x4 : Int32), mR_copy_row_kept_3 N σ x1 x3 x4 = some q → zJ X 5 (wdR adr cI cZ) (zu q) 3 [(0, .ref (adr 1)), (1, .int x1), (2, .ref (adr 3)), (3, .int x3), (4, .int x4)] [] σ := by
  refine zIt_ind (P := fun (hd : ST → Int32 → Int32 → Int32 → Option (ST)) => ∀ (σ : ST) (x1 : Int32) (x3 : Int32) (x4 : Int32), hd σ x1 x3 x4 = some q → zJ X 5 (wdR adr cI cZ) (zu q) 3 [(0, .ref (adr 1)), (1, .int x1), (2, .ref (adr 3)), (3, .int x3), (4, .int x4)] [] σ) (fun _ _ _ _ hf => by cases hf) (fun hd3 hh3 => ?_) N
  intro σ x1 x3 x4 hf
  refine z_iload B dX8_copy_3 4 rfl ?_
  refine z_sipush B (1974) dX8_copy_5 zc_sipush_1974 ?_
  refine z_icmp_ge B 29 dX8_copy_8 (by decide) hf (fun hf => ?_) (fun hf => ?_)
  · exact z_return B dX8_copy_29 hf
  · refine z_aload_n B dX8_copy_11 2 rfl rfl ?_
    refine z_iload_n B dX8_copy_12 3 rfl rfl ?_
    refine z_iload B dX8_copy_13 4 rfl ?_
    refine z_iadd B dX8_copy_15 hf (fun v15 hf => ?_)
    refine z_aload_n B dX8_copy_16 0 rfl rfl ?_
    refine z_iload_n B dX8_copy_17 1 rfl rfl ?_
    refine z_iload B dX8_copy_18 4 rfl ?_
    refine z_iadd B dX8_copy_20 hf (fun v20 hf => ?_)
    refine fR_l_row B dX8_copy_21 hf (fun v21 hf => ?_)
    refine fR_s_kept B dX8_copy_22 hf (fun s22 hf => ?_)
    refine z_iinc B (1) 4 (fun v23 => [(4, .int v23), (0, .ref (adr 1)), (1, .int x1), (2, .ref (adr 3)), (3, .int x3)]) dX8_copy_23 hf zc_iconst_1 rfl (Nat.le_of_ble_eq_true rfl) (fun _ => rfl) (fun v23 hf => ?_)
    refine z_goto B 3 dX8_copy_26 (by decide) ?_
    exact z_loc [1, 2, 3, 4, 0] _ rfl (hh3 s22 x1 x3 v23 hf)
def mR_copy_row_kept (N : Nat) (σ : ST) (x1 : Int32) (x3 : Int32) : Option (ST) :=
  mR_copy_row_kept_3 N σ x1 x3 (0)
set_option maxRecDepth 20000 in
set_option maxHeartbeats 2000000 in
theorem cR_copy_row_kept {adr : Nat → Nat} {cI cZ : ClassId} {l : Launch} {D : va_G} {N : Nat} {σ : ST} {x1 : Int32} {x3 : Int32} (q : ST) (hf : mR_copy_row_kept N σ x1 x3 = some q) : zM l D (wdR adr cI cZ) yX8_copy cX8_copy 5 none ({ frames := 0, cells := 0, slots := 0, locals := 0 }) [.ref (adr 1), .int x1, .ref (adr 3), .int x3] σ (zu q) := by
  refine zM_of sfR_ok rfl (Nat.le_of_ble_eq_true rfl) [(0, .ref (adr 1)), (1, .int x1), (2, .ref (adr 3)), (3, .int x3)] rfl (fun X hX1 hX2 B => ?_)
  have B : zC X 5 (wdR adr cI cZ) cX8_copy RX8 none { frames := 0, cells := 0, slots := 0, locals := 0 } := B
  refine z_iconst B (0) dX8_copy_0 zc_iconst_0 ?_
  refine z_istore B [(4, .int (0)), (0, .ref (adr 1)), (1, .int x1), (2, .ref (adr 3)), (3, .int x3)] dX8_copy_1 (Nat.le_of_ble_eq_true rfl) rfl ?_
  exact z_loc [1, 2, 3, 4, 0] _ rfl (tR_copy_row_kept_3 B N σ x1 x3 (0) hf)
theorem dX8_keep_0 : decode cX8_keep 0 = .ok (.aload_n 0, 1) := by decide +kernel
theorem dX8_keep_1 : decode cX8_keep 1 = .ok (.iconst 0, 1) := by decide +kernel
theorem dX8_keep_2 : decode cX8_keep 2 = .ok (.putfield 67, 3) := by decide +kernel
theorem dX8_keep_5 : decode cX8_keep 5 = .ok (.iload_n 1, 1) := by decide +kernel
theorem dX8_keep_6 : decode cX8_keep 6 = .ok (.i2l, 1) := by decide +kernel
theorem dX8_keep_7 : decode cX8_keep 7 = .ok (.lconst 0, 1) := by decide +kernel
theorem dX8_keep_8 : decode cX8_keep 8 = .ok (.lconst 1, 1) := by decide +kernel
theorem dX8_keep_9 : decode cX8_keep 9 = .ok (.invokestatic 71, 3) := by decide +kernel
theorem dX8_keep_12 : decode cX8_keep 12 = .ok (.ifCond .ne 5, 3) := by decide +kernel
theorem dX8_keep_15 : decode cX8_keep 15 = .ok (.iconst 0, 1) := by decide +kernel
theorem dX8_keep_16 : decode cX8_keep 16 = .ok (.ireturn, 1) := by decide +kernel
theorem dX8_keep_17 : decode cX8_keep 17 = .ok (.aload_n 0, 1) := by decide +kernel
theorem dX8_keep_18 : decode cX8_keep 18 = .ok (.getfield 9, 3) := by decide +kernel
theorem dX8_keep_21 : decode cX8_keep 21 = .ok (.iconst 0, 1) := by decide +kernel
theorem dX8_keep_22 : decode cX8_keep 22 = .ok (.aload_n 0, 1) := by decide +kernel
theorem dX8_keep_23 : decode cX8_keep 23 = .ok (.getfield 18, 3) := by decide +kernel
theorem dX8_keep_26 : decode cX8_keep 26 = .ok (.sipush 1974, 3) := by decide +kernel
theorem dX8_keep_29 : decode cX8_keep 29 = .ok (.iload_n 1, 1) := by decide +kernel
theorem dX8_keep_30 : decode cX8_keep 30 = .ok (.imul, 1) := by decide +kernel
theorem dX8_keep_31 : decode cX8_keep 31 = .ok (.invokestatic 75, 3) := by decide +kernel
theorem dX8_keep_34 : decode cX8_keep 34 = .ok (.iconst 0, 1) := by decide +kernel
theorem dX8_keep_35 : decode cX8_keep 35 = .ok (.istore_n 2, 1) := by decide +kernel
theorem dX8_keep_36 : decode cX8_keep 36 = .ok (.iload_n 2, 1) := by decide +kernel
theorem dX8_keep_37 : decode cX8_keep 37 = .ok (.sipush 10000, 3) := by decide +kernel
theorem dX8_keep_40 : decode cX8_keep 40 = .ok (.if_icmp .ge 45, 3) := by decide +kernel
theorem dX8_keep_43 : decode cX8_keep 43 = .ok (.aload_n 0, 1) := by decide +kernel
theorem dX8_keep_44 : decode cX8_keep 44 = .ok (.getfield 28, 3) := by decide +kernel
theorem dX8_keep_47 : decode cX8_keep 47 = .ok (.sipush 10000, 3) := by decide +kernel
theorem dX8_keep_50 : decode cX8_keep 50 = .ok (.iload_n 1, 1) := by decide +kernel
theorem dX8_keep_51 : decode cX8_keep 51 = .ok (.imul, 1) := by decide +kernel
theorem dX8_keep_52 : decode cX8_keep 52 = .ok (.iload_n 2, 1) := by decide +kernel
theorem dX8_keep_53 : decode cX8_keep 53 = .ok (.iadd, 1) := by decide +kernel
theorem dX8_keep_54 : decode cX8_keep 54 = .ok (.aload_n 0, 1) := by decide +kernel
theorem dX8_keep_55 : decode cX8_keep 55 = .ok (.getfield 21, 3) := by decide +kernel
theorem dX8_keep_58 : decode cX8_keep 58 = .ok (.iload_n 2, 1) := by decide +kernel
theorem dX8_keep_59 : decode cX8_keep 59 = .ok (.iaload, 1) := by decide +kernel
theorem dX8_keep_60 : decode cX8_keep 60 = .ok (.iastore, 1) := by decide +kernel
theorem dX8_keep_61 : decode cX8_keep 61 = .ok (.aload_n 0, 1) := by decide +kernel
theorem dX8_keep_62 : decode cX8_keep 62 = .ok (.getfield 31, 3) := by decide +kernel
theorem dX8_keep_65 : decode cX8_keep 65 = .ok (.sipush 10000, 3) := by decide +kernel
theorem dX8_keep_68 : decode cX8_keep 68 = .ok (.iload_n 1, 1) := by decide +kernel
theorem dX8_keep_69 : decode cX8_keep 69 = .ok (.imul, 1) := by decide +kernel
theorem dX8_keep_70 : decode cX8_keep 70 = .ok (.iload_n 2, 1) := by decide +kernel
theorem dX8_keep_71 : decode cX8_keep 71 = .ok (.iadd, 1) := by decide +kernel
theorem dX8_keep_72 : decode cX8_keep 72 = .ok (.aload_n 0, 1) := by decide +kernel
theorem dX8_keep_73 : decode cX8_keep 73 = .ok (.getfield 24, 3) := by decide +kernel
theorem dX8_keep_76 : decode cX8_keep 76 = .ok (.iload_n 2, 1) := by decide +kernel
theorem dX8_keep_77 : decode cX8_keep 77 = .ok (.baload, 1) := by decide +kernel
theorem dX8_keep_78 : decode cX8_keep 78 = .ok (.bastore, 1) := by decide +kernel
theorem dX8_keep_79 : decode cX8_keep 79 = .ok (.iinc 2 1, 3) := by decide +kernel
theorem dX8_keep_82 : decode cX8_keep 82 = .ok (.goto (-46), 3) := by decide +kernel
theorem dX8_keep_85 : decode cX8_keep 85 = .ok (.aload_n 0, 1) := by decide +kernel
theorem dX8_keep_86 : decode cX8_keep 86 = .ok (.getfield 34, 3) := by decide +kernel
theorem dX8_keep_89 : decode cX8_keep 89 = .ok (.iload_n 1, 1) := by decide +kernel
theorem dX8_keep_90 : decode cX8_keep 90 = .ok (.iconst 1, 1) := by decide +kernel
theorem dX8_keep_91 : decode cX8_keep 91 = .ok (.bastore, 1) := by decide +kernel
theorem dX8_keep_92 : decode cX8_keep 92 = .ok (.iconst 1, 1) := by decide +kernel
theorem dX8_keep_93 : decode cX8_keep 93 = .ok (.ireturn, 1) := by decide +kernel
def mR_keep_B36 (N : Nat) (hd36 : ST → Int32 → Int32 → Option (Int32 × ST)) (σ : ST) (x1 : Int32) (x2 : Int32) : Option (Int32 × ST) :=
  if ((10000) : Int32) ≤ x2 then
    zSet σ 8 2 x1 (vp_nar .boolean (1)) fun s91 =>
    zBool (1) (some ((1), s91))
  else
    zLet (((10000) : Int32) * x1) fun v51 =>
    zLet ((v51 : Int32) + x2) fun v53 =>
    zGet (σ 4) 10000 x2 fun v59 =>
    zSet σ 6 20000 v53 v59 fun s60 =>
    zLet (((10000) : Int32) * x1) fun v69 =>
    zLet ((v69 : Int32) + x2) fun v71 =>
    zGet (s60 5) 10000 x2 fun v77 =>
    zSet s60 7 20000 v71 (vp_nar .boolean v77) fun s78 =>
    zLet (x2 + (1)) fun v79 =>
    hd36 s78 x1 v79
def mR_keep_36 (N : Nat) : ST → Int32 → Int32 → Option (Int32 × ST) := zIt (mR_keep_B36 N) (fun _ _ _ => none) N
set_option maxRecDepth 20000 in
set_option maxHeartbeats 2000000 in
theorem tR_keep_36 {adr : Nat → Nat} {cI cZ : ClassId} {X : zX} {q : Int32 × ST} (B : zC X 3 (wdR adr cI cZ) cX8_keep RX8 (some .boolean) { frames := 1, cells := 0, slots := 0, locals := 25 }) (N : Nat) : ∀ (σ : ST) (x1 : Int32) (x2 : Int32), mR_keep_36 N σ x1 x2 = some q → zJ X 3 (wdR adr cI cZ) (zi q) 36 [(0, .ref (adr 0)), (1, .int x1), (2, .int x2)] [] σ := by
  refine zIt_ind (P := fun (hd : ST → Int32 → Int32 → Option (Int32 × ST)) => ∀ (σ : ST) (x1 : Int32) (x2 : Int32), hd σ x1 x2 = some q → zJ X 3 (wdR adr cI cZ) (zi q) 36 [(0, .ref (adr 0)), (1, .int x1), (2, .int x2)] [] σ) (fun _ _ _ hf => by cases hf) (fun hd36 hh36 => ?_) N
  intro σ x1 x2 hf
  refine z_iload_n B dX8_keep_36 2 rfl rfl ?_
  refine z_sipush B (10000) dX8_keep_37 zc_sipush_10000 ?_
  refine z_icmp_ge B 85 dX8_keep_40 (by decide) hf (fun hf => ?_) (fun hf => ?_)
  · refine z_aload_n B dX8_keep_85 0 rfl rfl ?_
    refine fR_g_isKept B dX8_keep_86 ?_
    refine z_iload_n B dX8_keep_89 1 rfl rfl ?_
    refine z_iconst B (1) dX8_keep_90 zc_iconst_1 ?_
    refine fR_s_isKept B dX8_keep_91 hf (fun s91 hf => ?_)
    refine z_iconst B (1) dX8_keep_92 zc_iconst_1 ?_
    exact z_zreturn B dX8_keep_93 hf
  · refine z_aload_n B dX8_keep_43 0 rfl rfl ?_
    refine fR_g_keptDisk B dX8_keep_44 ?_
    refine z_sipush B (10000) dX8_keep_47 zc_sipush_10000 ?_
    refine z_iload_n B dX8_keep_50 1 rfl rfl ?_
    refine z_imul B dX8_keep_51 hf (fun v51 hf => ?_)
    refine z_iload_n B dX8_keep_52 2 rfl rfl ?_
    refine z_iadd B dX8_keep_53 hf (fun v53 hf => ?_)
    refine z_aload_n B dX8_keep_54 0 rfl rfl ?_
    refine fR_g_disk B dX8_keep_55 ?_
    refine z_iload_n B dX8_keep_58 2 rfl rfl ?_
    refine fR_l_disk B dX8_keep_59 hf (fun v59 hf => ?_)
    refine fR_s_keptDisk B dX8_keep_60 hf (fun s60 hf => ?_)
    refine z_aload_n B dX8_keep_61 0 rfl rfl ?_
    refine fR_g_keptBad B dX8_keep_62 ?_
    refine z_sipush B (10000) dX8_keep_65 zc_sipush_10000 ?_
    refine z_iload_n B dX8_keep_68 1 rfl rfl ?_
    refine z_imul B dX8_keep_69 hf (fun v69 hf => ?_)
    refine z_iload_n B dX8_keep_70 2 rfl rfl ?_
    refine z_iadd B dX8_keep_71 hf (fun v71 hf => ?_)
    refine z_aload_n B dX8_keep_72 0 rfl rfl ?_
    refine fR_g_isBad B dX8_keep_73 ?_
    refine z_iload_n B dX8_keep_76 2 rfl rfl ?_
    refine fR_l_isBad B dX8_keep_77 hf (fun v77 hf => ?_)
    refine fR_s_keptBad B dX8_keep_78 hf (fun s78 hf => ?_)
    refine z_iinc B (1) 2 (fun v79 => [(2, .int v79), (0, .ref (adr 0)), (1, .int x1)]) dX8_keep_79 hf zc_iconst_1 rfl (Nat.le_of_ble_eq_true rfl) (fun _ => rfl) (fun v79 hf => ?_)
    refine z_goto B 36 dX8_keep_82 (by decide) ?_
    exact z_loc [1, 2, 0] _ rfl (hh36 s78 x1 v79 hf)
def mR_keep (N : Nat) (σ : ST) (x1 : Int32) : Option (Int32 × ST) :=
  zLet (zUp σ 0 0 (0)) fun s2 =>
  zLet ((x1 : Int32).toInt64) fun v6 =>
  zCall (mR_in N s2 v6 (0) (1)) fun v9 s9 =>
  if (v9 : Int32) = 0 then
    zBool (0) (some ((0), s9))
  else
    zLet (((1974) : Int32) * x1) fun v30 =>
    zCallu (mR_copy_row_kept N s9 (0) v30) fun s31 =>
    mR_keep_36 N s31 x1 (0)
set_option maxRecDepth 20000 in
set_option maxHeartbeats 2000000 in
theorem cR_keep {adr : Nat → Nat} {cI cZ : ClassId} {l : Launch} {D : va_G} {N : Nat} {σ : ST} {x1 : Int32} (q : Int32 × ST) (hf : mR_keep N σ x1 = some q) : zM l D (wdR adr cI cZ) yX8_keep cX8_keep 3 (some .boolean) ({ frames := 1, cells := 0, slots := 0, locals := 25 }) [.ref (adr 0), .int x1] σ (zi q) := by
  refine zM_of sfR_ok rfl (Nat.le_of_ble_eq_true rfl) [(0, .ref (adr 0)), (1, .int x1)] rfl (fun X hX1 hX2 B => ?_)
  have B : zC X 3 (wdR adr cI cZ) cX8_keep RX8 (some .boolean) { frames := 1, cells := 0, slots := 0, locals := 25 } := B
  refine z_aload_n B dX8_keep_0 0 rfl rfl ?_
  refine z_iconst B (0) dX8_keep_1 zc_iconst_0 ?_
  refine fR_p_thrown B dX8_keep_2 hf (fun s2 hf => ?_)
  refine z_iload_n B dX8_keep_5 1 rfl rfl ?_
  refine z_i2l B dX8_keep_6 hf (fun v6 hf => ?_)
  refine z_lconst B (0) dX8_keep_7 rfl ?_
  refine z_lconst B (1) dX8_keep_8 rfl ?_
  refine z_callSi B (As := [.long v6, .long (0), .long (1)]) kcS_X8_71 dX8_keep_9 hf (fun q hq => cR_in q hq) rfl rfl (Nat.le_of_ble_eq_true rfl) rfl rfl ⟨Nat.le_of_ble_eq_true rfl, Nat.le_of_ble_eq_true rfl⟩ (fun v9 s9 hf => ?_)
  refine z_if_ne B 17 dX8_keep_12 (by decide) hf (fun hf => ?_) (fun hf => ?_)
  · refine z_aload_n B dX8_keep_17 0 rfl rfl ?_
    refine fR_g_row B dX8_keep_18 ?_
    refine z_iconst B (0) dX8_keep_21 zc_iconst_0 ?_
    refine z_aload_n B dX8_keep_22 0 rfl rfl ?_
    refine fR_g_kept B dX8_keep_23 ?_
    refine z_sipush B (1974) dX8_keep_26 zc_sipush_1974 ?_
    refine z_iload_n B dX8_keep_29 1 rfl rfl ?_
    refine z_imul B dX8_keep_30 hf (fun v30 hf => ?_)
    refine z_callSu B (As := [.ref (adr 1), .int (0), .ref (adr 3), .int v30]) kcS_X8_75 dX8_keep_31 hf (fun q hq => cR_copy_row_kept q hq) rfl rfl (Nat.le_of_ble_eq_true rfl) rfl rfl ⟨Nat.le_of_ble_eq_true rfl, Nat.le_of_ble_eq_true rfl⟩ (fun s31 hf => ?_)
    refine z_iconst B (0) dX8_keep_34 zc_iconst_0 ?_
    refine z_istore_n B [(2, .int (0)), (0, .ref (adr 0)), (1, .int x1)] dX8_keep_35 rfl (Nat.le_of_ble_eq_true rfl) rfl ?_
    exact z_loc [1, 2, 0] _ rfl (tR_keep_36 B N s31 x1 (0) hf)
  · refine z_iconst B (0) dX8_keep_15 zc_iconst_0 ?_
    exact z_zreturn B dX8_keep_16 hf
def mR_copy_kept_row_B3 (N : Nat) (hd3 : ST → Int32 → Int32 → Int32 → Option (ST)) (σ : ST) (x1 : Int32) (x3 : Int32) (x4 : Int32) : Option (ST) :=
  if ((1974) : Int32) ≤ x4 then
    some σ
  else
    zLet ((x3 : Int32) + x4) fun v15 =>
    zLet ((x1 : Int32) + x4) fun v20 =>
    zGet (σ 3) 3948 v20 fun v21 =>
    zSet σ 1 1974 v15 v21 fun s22 =>
    zLet (x4 + (1)) fun v23 =>
    hd3 s22 x1 x3 v23
def mR_copy_kept_row_3 (N : Nat) : ST → Int32 → Int32 → Int32 → Option (ST) := zIt (mR_copy_kept_row_B3 N) (fun _ _ _ _ => none) N
set_option maxRecDepth 20000 in
set_option maxHeartbeats 2000000 in
theorem tR_copy_kept_row_3 {adr : Nat → Nat} {cI cZ : ClassId} {X : zX} {q : ST} (B : zC X 5 (wdR adr cI cZ) cX8_copy RX8 none { frames := 0, cells := 0, slots := 0, locals := 0 }) (N : Nat) : ∀ (σ : ST) (x1 : Int32) (x3 : Int32) (x4 : Int32), mR_copy_kept_row_3 N σ x1 x3 x4 = some q → zJ X 5 (wdR adr cI cZ) (zu q) 3 [(0, .ref (adr 3)), (1, .int x1), (2, .ref (adr 1)), (3, .int x3), (4, .int x4)] [] σ := by
  refine zIt_ind (P := fun (hd : ST → Int32 → Int32 → Int32 → Option (ST)) => ∀ (σ : ST) (x1 : Int32) (x3 : Int32) (x4 : Int32), hd σ x1 x3 x4 = some q → zJ X 5 (wdR adr cI cZ) (zu q) 3 [(0, .ref (adr 3)), (1, .int x1), (2, .ref (adr 1)), (3, .int x3), (4, .int x4)] [] σ) (fun _ _ _ _ hf => by cases hf) (fun hd3 hh3 => ?_) N
  intro σ x1 x3 x4 hf
  refine z_iload B dX8_copy_3 4 rfl ?_
  refine z_sipush B (1974) dX8_copy_5 zc_sipush_1974 ?_
  refine z_icmp_ge B 29 dX8_copy_8 (by decide) hf (fun hf => ?_) (fun hf => ?_)
  · exact z_return B dX8_copy_29 hf
  · refine z_aload_n B dX8_copy_11 2 rfl rfl ?_
    refine z_iload_n B dX8_copy_12 3 rfl rfl ?_
    refine z_iload B dX8_copy_13 4 rfl ?_
    refine z_iadd B dX8_copy_15 hf (fun v15 hf => ?_)
    refine z_aload_n B dX8_copy_16 0 rfl rfl ?_
    refine z_iload_n B dX8_copy_17 1 rfl rfl ?_
    refine z_iload B dX8_copy_18 4 rfl ?_
    refine z_iadd B dX8_copy_20 hf (fun v20 hf => ?_)
    refine fR_l_kept B dX8_copy_21 hf (fun v21 hf => ?_)
    refine fR_s_row B dX8_copy_22 hf (fun s22 hf => ?_)
    refine z_iinc B (1) 4 (fun v23 => [(4, .int v23), (0, .ref (adr 3)), (1, .int x1), (2, .ref (adr 1)), (3, .int x3)]) dX8_copy_23 hf zc_iconst_1 rfl (Nat.le_of_ble_eq_true rfl) (fun _ => rfl) (fun v23 hf => ?_)
    refine z_goto B 3 dX8_copy_26 (by decide) ?_
    exact z_loc [1, 2, 3, 4, 0] _ rfl (hh3 s22 x1 x3 v23 hf)
def mR_copy_kept_row (N : Nat) (σ : ST) (x1 : Int32) (x3 : Int32) : Option (ST) :=
  mR_copy_kept_row_3 N σ x1 x3 (0)
set_option maxRecDepth 20000 in
set_option maxHeartbeats 2000000 in
theorem cR_copy_kept_row {adr : Nat → Nat} {cI cZ : ClassId} {l : Launch} {D : va_G} {N : Nat} {σ : ST} {x1 : Int32} {x3 : Int32} (q : ST) (hf : mR_copy_kept_row N σ x1 x3 = some q) : zM l D (wdR adr cI cZ) yX8_copy cX8_copy 5 none ({ frames := 0, cells := 0, slots := 0, locals := 0 }) [.ref (adr 3), .int x1, .ref (adr 1), .int x3] σ (zu q) := by
  refine zM_of sfR_ok rfl (Nat.le_of_ble_eq_true rfl) [(0, .ref (adr 3)), (1, .int x1), (2, .ref (adr 1)), (3, .int x3)] rfl (fun X hX1 hX2 B => ?_)
  have B : zC X 5 (wdR adr cI cZ) cX8_copy RX8 none { frames := 0, cells := 0, slots := 0, locals := 0 } := B
  refine z_iconst B (0) dX8_copy_0 zc_iconst_0 ?_
  refine z_istore B [(4, .int (0)), (0, .ref (adr 3)), (1, .int x1), (2, .ref (adr 1)), (3, .int x3)] dX8_copy_1 (Nat.le_of_ble_eq_true rfl) rfl ?_
  exact z_loc [1, 2, 3, 4, 0] _ rfl (tR_copy_kept_row_3 B N σ x1 x3 (0) hf)
theorem dX8_again_0 : decode cX8_again 0 = .ok (.aload_n 0, 1) := by decide +kernel
theorem dX8_again_1 : decode cX8_again 1 = .ok (.iconst 0, 1) := by decide +kernel
theorem dX8_again_2 : decode cX8_again 2 = .ok (.putfield 67, 3) := by decide +kernel
theorem dX8_again_5 : decode cX8_again 5 = .ok (.iload_n 1, 1) := by decide +kernel
theorem dX8_again_6 : decode cX8_again 6 = .ok (.i2l, 1) := by decide +kernel
theorem dX8_again_7 : decode cX8_again 7 = .ok (.lconst 0, 1) := by decide +kernel
theorem dX8_again_8 : decode cX8_again 8 = .ok (.lconst 1, 1) := by decide +kernel
theorem dX8_again_9 : decode cX8_again 9 = .ok (.invokestatic 71, 3) := by decide +kernel
theorem dX8_again_12 : decode cX8_again 12 = .ok (.ifCond .eq 12, 3) := by decide +kernel
theorem dX8_again_15 : decode cX8_again 15 = .ok (.aload_n 0, 1) := by decide +kernel
theorem dX8_again_16 : decode cX8_again 16 = .ok (.getfield 34, 3) := by decide +kernel
theorem dX8_again_19 : decode cX8_again 19 = .ok (.iload_n 1, 1) := by decide +kernel
theorem dX8_again_20 : decode cX8_again 20 = .ok (.baload, 1) := by decide +kernel
theorem dX8_again_21 : decode cX8_again 21 = .ok (.ifCond .ne 5, 3) := by decide +kernel
theorem dX8_again_24 : decode cX8_again 24 = .ok (.iconst 0, 1) := by decide +kernel
theorem dX8_again_25 : decode cX8_again 25 = .ok (.ireturn, 1) := by decide +kernel
theorem dX8_again_26 : decode cX8_again 26 = .ok (.aload_n 0, 1) := by decide +kernel
theorem dX8_again_27 : decode cX8_again 27 = .ok (.getfield 18, 3) := by decide +kernel
theorem dX8_again_30 : decode cX8_again 30 = .ok (.sipush 1974, 3) := by decide +kernel
theorem dX8_again_33 : decode cX8_again 33 = .ok (.iload_n 1, 1) := by decide +kernel
theorem dX8_again_34 : decode cX8_again 34 = .ok (.imul, 1) := by decide +kernel
theorem dX8_again_35 : decode cX8_again 35 = .ok (.aload_n 0, 1) := by decide +kernel
theorem dX8_again_36 : decode cX8_again 36 = .ok (.getfield 9, 3) := by decide +kernel
theorem dX8_again_39 : decode cX8_again 39 = .ok (.iconst 0, 1) := by decide +kernel
theorem dX8_again_40 : decode cX8_again 40 = .ok (.invokestatic 75, 3) := by decide +kernel
theorem dX8_again_43 : decode cX8_again 43 = .ok (.iconst 0, 1) := by decide +kernel
theorem dX8_again_44 : decode cX8_again 44 = .ok (.istore_n 2, 1) := by decide +kernel
theorem dX8_again_45 : decode cX8_again 45 = .ok (.iload_n 2, 1) := by decide +kernel
theorem dX8_again_46 : decode cX8_again 46 = .ok (.sipush 10000, 3) := by decide +kernel
theorem dX8_again_49 : decode cX8_again 49 = .ok (.if_icmp .ge 45, 3) := by decide +kernel
theorem dX8_again_52 : decode cX8_again 52 = .ok (.aload_n 0, 1) := by decide +kernel
theorem dX8_again_53 : decode cX8_again 53 = .ok (.getfield 21, 3) := by decide +kernel
theorem dX8_again_56 : decode cX8_again 56 = .ok (.iload_n 2, 1) := by decide +kernel
theorem dX8_again_57 : decode cX8_again 57 = .ok (.aload_n 0, 1) := by decide +kernel
theorem dX8_again_58 : decode cX8_again 58 = .ok (.getfield 28, 3) := by decide +kernel
theorem dX8_again_61 : decode cX8_again 61 = .ok (.sipush 10000, 3) := by decide +kernel
theorem dX8_again_64 : decode cX8_again 64 = .ok (.iload_n 1, 1) := by decide +kernel
theorem dX8_again_65 : decode cX8_again 65 = .ok (.imul, 1) := by decide +kernel
theorem dX8_again_66 : decode cX8_again 66 = .ok (.iload_n 2, 1) := by decide +kernel
theorem dX8_again_67 : decode cX8_again 67 = .ok (.iadd, 1) := by decide +kernel
theorem dX8_again_68 : decode cX8_again 68 = .ok (.iaload, 1) := by decide +kernel
theorem dX8_again_69 : decode cX8_again 69 = .ok (.iastore, 1) := by decide +kernel
theorem dX8_again_70 : decode cX8_again 70 = .ok (.aload_n 0, 1) := by decide +kernel
theorem dX8_again_71 : decode cX8_again 71 = .ok (.getfield 24, 3) := by decide +kernel
theorem dX8_again_74 : decode cX8_again 74 = .ok (.iload_n 2, 1) := by decide +kernel
theorem dX8_again_75 : decode cX8_again 75 = .ok (.aload_n 0, 1) := by decide +kernel
theorem dX8_again_76 : decode cX8_again 76 = .ok (.getfield 31, 3) := by decide +kernel
theorem dX8_again_79 : decode cX8_again 79 = .ok (.sipush 10000, 3) := by decide +kernel
theorem dX8_again_82 : decode cX8_again 82 = .ok (.iload_n 1, 1) := by decide +kernel
theorem dX8_again_83 : decode cX8_again 83 = .ok (.imul, 1) := by decide +kernel
theorem dX8_again_84 : decode cX8_again 84 = .ok (.iload_n 2, 1) := by decide +kernel
theorem dX8_again_85 : decode cX8_again 85 = .ok (.iadd, 1) := by decide +kernel
theorem dX8_again_86 : decode cX8_again 86 = .ok (.baload, 1) := by decide +kernel
theorem dX8_again_87 : decode cX8_again 87 = .ok (.bastore, 1) := by decide +kernel
theorem dX8_again_88 : decode cX8_again 88 = .ok (.iinc 2 1, 3) := by decide +kernel
theorem dX8_again_91 : decode cX8_again 91 = .ok (.goto (-46), 3) := by decide +kernel
theorem dX8_again_94 : decode cX8_again 94 = .ok (.iconst 1, 1) := by decide +kernel
theorem dX8_again_95 : decode cX8_again 95 = .ok (.ireturn, 1) := by decide +kernel
def mR_again_B45 (N : Nat) (hd45 : ST → Int32 → Int32 → Option (Int32 × ST)) (σ : ST) (x1 : Int32) (x2 : Int32) : Option (Int32 × ST) :=
  if ((10000) : Int32) ≤ x2 then
    zBool (1) (some ((1), σ))
  else
    zLet (((10000) : Int32) * x1) fun v65 =>
    zLet ((v65 : Int32) + x2) fun v67 =>
    zGet (σ 6) 20000 v67 fun v68 =>
    zSet σ 4 10000 x2 v68 fun s69 =>
    zLet (((10000) : Int32) * x1) fun v83 =>
    zLet ((v83 : Int32) + x2) fun v85 =>
    zGet (s69 7) 20000 v85 fun v86 =>
    zSet s69 5 10000 x2 (vp_nar .boolean v86) fun s87 =>
    zLet (x2 + (1)) fun v88 =>
    hd45 s87 x1 v88
def mR_again_45 (N : Nat) : ST → Int32 → Int32 → Option (Int32 × ST) := zIt (mR_again_B45 N) (fun _ _ _ => none) N
set_option maxRecDepth 20000 in
set_option maxHeartbeats 2000000 in
theorem tR_again_45 {adr : Nat → Nat} {cI cZ : ClassId} {X : zX} {q : Int32 × ST} (B : zC X 3 (wdR adr cI cZ) cX8_again RX8 (some .boolean) { frames := 1, cells := 0, slots := 0, locals := 25 }) (N : Nat) : ∀ (σ : ST) (x1 : Int32) (x2 : Int32), mR_again_45 N σ x1 x2 = some q → zJ X 3 (wdR adr cI cZ) (zi q) 45 [(0, .ref (adr 0)), (1, .int x1), (2, .int x2)] [] σ := by
  refine zIt_ind (P := fun (hd : ST → Int32 → Int32 → Option (Int32 × ST)) => ∀ (σ : ST) (x1 : Int32) (x2 : Int32), hd σ x1 x2 = some q → zJ X 3 (wdR adr cI cZ) (zi q) 45 [(0, .ref (adr 0)), (1, .int x1), (2, .int x2)] [] σ) (fun _ _ _ hf => by cases hf) (fun hd45 hh45 => ?_) N
  intro σ x1 x2 hf
  refine z_iload_n B dX8_again_45 2 rfl rfl ?_
  refine z_sipush B (10000) dX8_again_46 zc_sipush_10000 ?_
  refine z_icmp_ge B 94 dX8_again_49 (by decide) hf (fun hf => ?_) (fun hf => ?_)
  · refine z_iconst B (1) dX8_again_94 zc_iconst_1 ?_
    exact z_zreturn B dX8_again_95 hf
  · refine z_aload_n B dX8_again_52 0 rfl rfl ?_
    refine fR_g_disk B dX8_again_53 ?_
    refine z_iload_n B dX8_again_56 2 rfl rfl ?_
    refine z_aload_n B dX8_again_57 0 rfl rfl ?_
    refine fR_g_keptDisk B dX8_again_58 ?_
    refine z_sipush B (10000) dX8_again_61 zc_sipush_10000 ?_
    refine z_iload_n B dX8_again_64 1 rfl rfl ?_
    refine z_imul B dX8_again_65 hf (fun v65 hf => ?_)
    refine z_iload_n B dX8_again_66 2 rfl rfl ?_
    refine z_iadd B dX8_again_67 hf (fun v67 hf => ?_)
    refine fR_l_keptDisk B dX8_again_68 hf (fun v68 hf => ?_)
    refine fR_s_disk B dX8_again_69 hf (fun s69 hf => ?_)
    refine z_aload_n B dX8_again_70 0 rfl rfl ?_
    refine fR_g_isBad B dX8_again_71 ?_
    refine z_iload_n B dX8_again_74 2 rfl rfl ?_
    refine z_aload_n B dX8_again_75 0 rfl rfl ?_
    refine fR_g_keptBad B dX8_again_76 ?_
    refine z_sipush B (10000) dX8_again_79 zc_sipush_10000 ?_
    refine z_iload_n B dX8_again_82 1 rfl rfl ?_
    refine z_imul B dX8_again_83 hf (fun v83 hf => ?_)
    refine z_iload_n B dX8_again_84 2 rfl rfl ?_
    refine z_iadd B dX8_again_85 hf (fun v85 hf => ?_)
    refine fR_l_keptBad B dX8_again_86 hf (fun v86 hf => ?_)
    refine fR_s_isBad B dX8_again_87 hf (fun s87 hf => ?_)
    refine z_iinc B (1) 2 (fun v88 => [(2, .int v88), (0, .ref (adr 0)), (1, .int x1)]) dX8_again_88 hf zc_iconst_1 rfl (Nat.le_of_ble_eq_true rfl) (fun _ => rfl) (fun v88 hf => ?_)
    refine z_goto B 45 dX8_again_91 (by decide) ?_
    exact z_loc [1, 2, 0] _ rfl (hh45 s87 x1 v88 hf)
def mR_again_24 (N : Nat) (σ : ST) (x1 : Int32) : Option (Int32 × ST) :=
  zBool (0) (some ((0), σ))
set_option maxRecDepth 20000 in
set_option maxHeartbeats 2000000 in
theorem tR_again_24 {adr : Nat → Nat} {cI cZ : ClassId} {X : zX} {q : Int32 × ST} (B : zC X 3 (wdR adr cI cZ) cX8_again RX8 (some .boolean) { frames := 1, cells := 0, slots := 0, locals := 25 }) (N : Nat) (σ : ST) (x1 : Int32) (hf : mR_again_24 N σ x1 = some q) : zJ X 3 (wdR adr cI cZ) (zi q) 24 [(0, .ref (adr 0)), (1, .int x1)] [] σ := by
  refine z_iconst B (0) dX8_again_24 zc_iconst_0 ?_
  exact z_zreturn B dX8_again_25 hf
def mR_again (N : Nat) (σ : ST) (x1 : Int32) : Option (Int32 × ST) :=
  zLet (zUp σ 0 0 (0)) fun s2 =>
  zLet ((x1 : Int32).toInt64) fun v6 =>
  zCall (mR_in N s2 v6 (0) (1)) fun v9 s9 =>
  if (v9 : Int32) = 0 then
    mR_again_24 N s9 x1
  else
    zGet (s9 8) 2 x1 fun v20 =>
    if (v20 : Int32) = 0 then
      mR_again_24 N s9 x1
    else
      zLet (((1974) : Int32) * x1) fun v34 =>
      zCallu (mR_copy_kept_row N s9 v34 (0)) fun s40 =>
      mR_again_45 N s40 x1 (0)
set_option maxRecDepth 20000 in
set_option maxHeartbeats 2000000 in
theorem cR_again {adr : Nat → Nat} {cI cZ : ClassId} {l : Launch} {D : va_G} {N : Nat} {σ : ST} {x1 : Int32} (q : Int32 × ST) (hf : mR_again N σ x1 = some q) : zM l D (wdR adr cI cZ) yX8_again cX8_again 3 (some .boolean) ({ frames := 1, cells := 0, slots := 0, locals := 25 }) [.ref (adr 0), .int x1] σ (zi q) := by
  refine zM_of sfR_ok rfl (Nat.le_of_ble_eq_true rfl) [(0, .ref (adr 0)), (1, .int x1)] rfl (fun X hX1 hX2 B => ?_)
  have B : zC X 3 (wdR adr cI cZ) cX8_again RX8 (some .boolean) { frames := 1, cells := 0, slots := 0, locals := 25 } := B
  refine z_aload_n B dX8_again_0 0 rfl rfl ?_
  refine z_iconst B (0) dX8_again_1 zc_iconst_0 ?_
  refine fR_p_thrown B dX8_again_2 hf (fun s2 hf => ?_)
  refine z_iload_n B dX8_again_5 1 rfl rfl ?_
  refine z_i2l B dX8_again_6 hf (fun v6 hf => ?_)
  refine z_lconst B (0) dX8_again_7 rfl ?_
  refine z_lconst B (1) dX8_again_8 rfl ?_
  refine z_callSi B (As := [.long v6, .long (0), .long (1)]) kcS_X8_71 dX8_again_9 hf (fun q hq => cR_in q hq) rfl rfl (Nat.le_of_ble_eq_true rfl) rfl rfl ⟨Nat.le_of_ble_eq_true rfl, Nat.le_of_ble_eq_true rfl⟩ (fun v9 s9 hf => ?_)
  refine z_if_eq B 24 dX8_again_12 (by decide) hf (fun hf => ?_) (fun hf => ?_)
  · exact tR_again_24 B N s9 x1 hf
  · refine z_aload_n B dX8_again_15 0 rfl rfl ?_
    refine fR_g_isKept B dX8_again_16 ?_
    refine z_iload_n B dX8_again_19 1 rfl rfl ?_
    refine fR_l_isKept B dX8_again_20 hf (fun v20 hf => ?_)
    refine z_if_ne B 26 dX8_again_21 (by decide) hf (fun hf => ?_) (fun hf => ?_)
    · refine z_aload_n B dX8_again_26 0 rfl rfl ?_
      refine fR_g_kept B dX8_again_27 ?_
      refine z_sipush B (1974) dX8_again_30 zc_sipush_1974 ?_
      refine z_iload_n B dX8_again_33 1 rfl rfl ?_
      refine z_imul B dX8_again_34 hf (fun v34 hf => ?_)
      refine z_aload_n B dX8_again_35 0 rfl rfl ?_
      refine fR_g_row B dX8_again_36 ?_
      refine z_iconst B (0) dX8_again_39 zc_iconst_0 ?_
      refine z_callSu B (As := [.ref (adr 3), .int v34, .ref (adr 1), .int (0)]) kcS_X8_75 dX8_again_40 hf (fun q hq => cR_copy_kept_row q hq) rfl rfl (Nat.le_of_ble_eq_true rfl) rfl rfl ⟨Nat.le_of_ble_eq_true rfl, Nat.le_of_ble_eq_true rfl⟩ (fun s40 hf => ?_)
      refine z_iconst B (0) dX8_again_43 zc_iconst_0 ?_
      refine z_istore_n B [(2, .int (0)), (0, .ref (adr 0)), (1, .int x1)] dX8_again_44 rfl (Nat.le_of_ble_eq_true rfl) rfl ?_
      exact z_loc [1, 2, 0] _ rfl (tR_again_45 B N s40 x1 (0) hf)
    · exact tR_again_24 B N s9 x1 hf
theorem dX8_toCome_0 : decode cX8_toCome 0 = .ok (.aload_n 0, 1) := by decide +kernel
theorem dX8_toCome_1 : decode cX8_toCome 1 = .ok (.getfield 9, 3) := by decide +kernel
theorem dX8_toCome_4 : decode cX8_toCome 4 = .ok (.iload_n 1, 1) := by decide +kernel
theorem dX8_toCome_5 : decode cX8_toCome 5 = .ok (.bipush 7, 2) := by decide +kernel
theorem dX8_toCome_7 : decode cX8_toCome 7 = .ok (.iadd, 1) := by decide +kernel
theorem dX8_toCome_8 : decode cX8_toCome 8 = .ok (.iaload, 1) := by decide +kernel
theorem dX8_toCome_9 : decode cX8_toCome 9 = .ok (.iconst 1, 1) := by decide +kernel
theorem dX8_toCome_10 : decode cX8_toCome 10 = .ok (.if_icmp .ne 31, 3) := by decide +kernel
theorem dX8_toCome_13 : decode cX8_toCome 13 = .ok (.aload_n 0, 1) := by decide +kernel
theorem dX8_toCome_14 : decode cX8_toCome 14 = .ok (.getfield 9, 3) := by decide +kernel
theorem dX8_toCome_17 : decode cX8_toCome 17 = .ok (.bipush 9, 2) := by decide +kernel
theorem dX8_toCome_19 : decode cX8_toCome 19 = .ok (.iaload, 1) := by decide +kernel
theorem dX8_toCome_20 : decode cX8_toCome 20 = .ok (.aload_n 0, 1) := by decide +kernel
theorem dX8_toCome_21 : decode cX8_toCome 21 = .ok (.getfield 9, 3) := by decide +kernel
theorem dX8_toCome_24 : decode cX8_toCome 24 = .ok (.bipush 10, 2) := by decide +kernel
theorem dX8_toCome_26 : decode cX8_toCome 26 = .ok (.iaload, 1) := by decide +kernel
theorem dX8_toCome_27 : decode cX8_toCome 27 = .ok (.aload_n 0, 1) := by decide +kernel
theorem dX8_toCome_28 : decode cX8_toCome 28 = .ok (.getfield 9, 3) := by decide +kernel
theorem dX8_toCome_31 : decode cX8_toCome 31 = .ok (.iload_n 1, 1) := by decide +kernel
theorem dX8_toCome_32 : decode cX8_toCome 32 = .ok (.bipush 6, 2) := by decide +kernel
theorem dX8_toCome_34 : decode cX8_toCome 34 = .ok (.iadd, 1) := by decide +kernel
theorem dX8_toCome_35 : decode cX8_toCome 35 = .ok (.iaload, 1) := by decide +kernel
theorem dX8_toCome_36 : decode cX8_toCome 36 = .ok (.isub, 1) := by decide +kernel
theorem dX8_toCome_37 : decode cX8_toCome 37 = .ok (.isub, 1) := by decide +kernel
theorem dX8_toCome_38 : decode cX8_toCome 38 = .ok (.goto 4, 3) := by decide +kernel
theorem dX8_toCome_41 : decode cX8_toCome 41 = .ok (.iconst 0, 1) := by decide +kernel
theorem dX8_toCome_42 : decode cX8_toCome 42 = .ok (.istore_n 2, 1) := by decide +kernel
theorem dX8_toCome_43 : decode cX8_toCome 43 = .ok (.iload_n 2, 1) := by decide +kernel
theorem dX8_toCome_44 : decode cX8_toCome 44 = .ok (.ifCond .le 7, 3) := by decide +kernel
theorem dX8_toCome_47 : decode cX8_toCome 47 = .ok (.iload_n 2, 1) := by decide +kernel
theorem dX8_toCome_48 : decode cX8_toCome 48 = .ok (.goto 4, 3) := by decide +kernel
theorem dX8_toCome_51 : decode cX8_toCome 51 = .ok (.iconst 0, 1) := by decide +kernel
theorem dX8_toCome_52 : decode cX8_toCome 52 = .ok (.ireturn, 1) := by decide +kernel
def mR_toCome_52 (N : Nat) (σ : ST) (x1 : Int32) (x2 : Int32) (k0 : Int32) : Option (Int32 × ST) :=
  some (k0, σ)
set_option maxRecDepth 20000 in
set_option maxHeartbeats 2000000 in
theorem tR_toCome_52 {adr : Nat → Nat} {cI cZ : ClassId} {X : zX} {q : Int32 × ST} (B : zC X 3 (wdR adr cI cZ) cX8_toCome RX8 (some .int) { frames := 0, cells := 0, slots := 0, locals := 0 }) (N : Nat) (σ : ST) (x1 : Int32) (x2 : Int32) (k0 : Int32) (hf : mR_toCome_52 N σ x1 x2 k0 = some q) : zJ X 3 (wdR adr cI cZ) (zi q) 52 [(0, .ref (adr 0)), (1, .int x1), (2, .int x2)] [.int k0] σ := by
  exact z_ireturn B dX8_toCome_52 hf
def mR_toCome_42 (N : Nat) (σ : ST) (x1 : Int32) (k0 : Int32) : Option (Int32 × ST) :=
  if (k0 : Int32) ≤ 0 then
    mR_toCome_52 N σ x1 k0 (0)
  else
    mR_toCome_52 N σ x1 k0 k0
set_option maxRecDepth 20000 in
set_option maxHeartbeats 2000000 in
theorem tR_toCome_42 {adr : Nat → Nat} {cI cZ : ClassId} {X : zX} {q : Int32 × ST} (B : zC X 3 (wdR adr cI cZ) cX8_toCome RX8 (some .int) { frames := 0, cells := 0, slots := 0, locals := 0 }) (N : Nat) (σ : ST) (x1 : Int32) (k0 : Int32) (hf : mR_toCome_42 N σ x1 k0 = some q) : zJ X 3 (wdR adr cI cZ) (zi q) 42 [(0, .ref (adr 0)), (1, .int x1)] [.int k0] σ := by
  refine z_istore_n B [(2, .int k0), (0, .ref (adr 0)), (1, .int x1)] dX8_toCome_42 rfl (Nat.le_of_ble_eq_true rfl) rfl ?_
  refine z_iload_n B dX8_toCome_43 0 rfl rfl ?_
  refine z_if_le B 51 dX8_toCome_44 (by decide) hf (fun hf => ?_) (fun hf => ?_)
  · refine z_iconst B (0) dX8_toCome_51 zc_iconst_0 ?_
    exact z_loc [1, 2, 0] _ rfl (tR_toCome_52 B N σ x1 k0 (0) hf)
  · refine z_iload_n B dX8_toCome_47 0 rfl rfl ?_
    refine z_goto B 52 dX8_toCome_48 (by decide) ?_
    exact z_loc [1, 2, 0] _ rfl (tR_toCome_52 B N σ x1 k0 k0 hf)
def mR_toCome (N : Nat) (σ : ST) (x1 : Int32) : Option (Int32 × ST) :=
  zLet ((x1 : Int32) + (7)) fun v7 =>
  zGet (σ 1) 1974 v7 fun v8 =>
  if (v8 : Int32) = (1) then
    zGet (σ 1) 1974 (9) fun v19 =>
    zGet (σ 1) 1974 (10) fun v26 =>
    zLet ((x1 : Int32) + (6)) fun v34 =>
    zGet (σ 1) 1974 v34 fun v35 =>
    zLet ((v26 : Int32) - v35) fun v36 =>
    zLet ((v19 : Int32) - v36) fun v37 =>
    mR_toCome_42 N σ x1 v37
  else
    mR_toCome_42 N σ x1 (0)
set_option maxRecDepth 20000 in
set_option maxHeartbeats 2000000 in
theorem cR_toCome {adr : Nat → Nat} {cI cZ : ClassId} {l : Launch} {D : va_G} {N : Nat} {σ : ST} {x1 : Int32} (q : Int32 × ST) (hf : mR_toCome N σ x1 = some q) : zM l D (wdR adr cI cZ) yX8_toCome cX8_toCome 3 (some .int) ({ frames := 0, cells := 0, slots := 0, locals := 0 }) [.ref (adr 0), .int x1] σ (zi q) := by
  refine zM_of sfR_ok rfl (Nat.le_of_ble_eq_true rfl) [(0, .ref (adr 0)), (1, .int x1)] rfl (fun X hX1 hX2 B => ?_)
  have B : zC X 3 (wdR adr cI cZ) cX8_toCome RX8 (some .int) { frames := 0, cells := 0, slots := 0, locals := 0 } := B
  refine z_aload_n B dX8_toCome_0 0 rfl rfl ?_
  refine fR_g_row B dX8_toCome_1 ?_
  refine z_iload_n B dX8_toCome_4 1 rfl rfl ?_
  refine z_bipush B (7) dX8_toCome_5 zc_bipush_7 ?_
  refine z_iadd B dX8_toCome_7 hf (fun v7 hf => ?_)
  refine fR_l_row B dX8_toCome_8 hf (fun v8 hf => ?_)
  refine z_iconst B (1) dX8_toCome_9 zc_iconst_1 ?_
  refine z_icmp_ne B 41 dX8_toCome_10 (by decide) hf (fun hf => ?_) (fun hf => ?_)
  · refine z_iconst B (0) dX8_toCome_41 zc_iconst_0 ?_
    exact tR_toCome_42 B N σ x1 (0) hf
  · refine z_aload_n B dX8_toCome_13 0 rfl rfl ?_
    refine fR_g_row B dX8_toCome_14 ?_
    refine z_bipush B (9) dX8_toCome_17 zc_bipush_9 ?_
    refine fR_l_row B dX8_toCome_19 hf (fun v19 hf => ?_)
    refine z_aload_n B dX8_toCome_20 0 rfl rfl ?_
    refine fR_g_row B dX8_toCome_21 ?_
    refine z_bipush B (10) dX8_toCome_24 zc_bipush_10 ?_
    refine fR_l_row B dX8_toCome_26 hf (fun v26 hf => ?_)
    refine z_aload_n B dX8_toCome_27 0 rfl rfl ?_
    refine fR_g_row B dX8_toCome_28 ?_
    refine z_iload_n B dX8_toCome_31 1 rfl rfl ?_
    refine z_bipush B (6) dX8_toCome_32 zc_bipush_6 ?_
    refine z_iadd B dX8_toCome_34 hf (fun v34 hf => ?_)
    refine fR_l_row B dX8_toCome_35 hf (fun v35 hf => ?_)
    refine z_isub B dX8_toCome_36 hf (fun v36 hf => ?_)
    refine z_isub B dX8_toCome_37 hf (fun v37 hf => ?_)
    refine z_goto B 42 dX8_toCome_38 (by decide) ?_
    exact tR_toCome_42 B N σ x1 v37 hf
theorem dX8_block_0 : decode cX8_block 0 = .ok (.aload_n 0, 1) := by decide +kernel
theorem dX8_block_1 : decode cX8_block 1 = .ok (.iconst 0, 1) := by decide +kernel
theorem dX8_block_2 : decode cX8_block 2 = .ok (.putfield 67, 3) := by decide +kernel
theorem dX8_block_5 : decode cX8_block 5 = .ok (.aload_n 0, 1) := by decide +kernel
theorem dX8_block_6 : decode cX8_block 6 = .ok (.iload_n 1, 1) := by decide +kernel
theorem dX8_block_7 : decode cX8_block 7 = .ok (.invokevirtual 132, 3) := by decide +kernel
theorem dX8_block_10 : decode cX8_block 10 = .ok (.ifCond .eq 15, 3) := by decide +kernel
theorem dX8_block_13 : decode cX8_block 13 = .ok (.iload_n 2, 1) := by decide +kernel
theorem dX8_block_14 : decode cX8_block 14 = .ok (.i2l, 1) := by decide +kernel
theorem dX8_block_15 : decode cX8_block 15 = .ok (.lconst 0, 1) := by decide +kernel
theorem dX8_block_16 : decode cX8_block 16 = .ok (.ldc2_w 225, 3) := by decide +kernel
theorem dX8_block_19 : decode cX8_block 19 = .ok (.invokestatic 71, 3) := by decide +kernel
theorem dX8_block_22 : decode cX8_block 22 = .ok (.ifCond .ne 5, 3) := by decide +kernel
theorem dX8_block_25 : decode cX8_block 25 = .ok (.iconst (-1), 1) := by decide +kernel
theorem dX8_block_26 : decode cX8_block 26 = .ok (.ireturn, 1) := by decide +kernel
theorem dX8_block_27 : decode cX8_block 27 = .ok (.iload_n 2, 1) := by decide +kernel
theorem dX8_block_28 : decode cX8_block 28 = .ok (.ifCond .ne 10, 3) := by decide +kernel
theorem dX8_block_31 : decode cX8_block 31 = .ok (.aload_n 0, 1) := by decide +kernel
theorem dX8_block_32 : decode cX8_block 32 = .ok (.getfield 21, 3) := by decide +kernel
theorem dX8_block_35 : decode cX8_block 35 = .ok (.iload_n 1, 1) := by decide +kernel
theorem dX8_block_36 : decode cX8_block 36 = .ok (.iaload, 1) := by decide +kernel
theorem dX8_block_37 : decode cX8_block 37 = .ok (.ireturn, 1) := by decide +kernel
theorem dX8_block_38 : decode cX8_block 38 = .ok (.iload_n 2, 1) := by decide +kernel
theorem dX8_block_39 : decode cX8_block 39 = .ok (.iconst 5, 1) := by decide +kernel
theorem dX8_block_40 : decode cX8_block 40 = .ok (.if_icmp .ne 18, 3) := by decide +kernel
theorem dX8_block_43 : decode cX8_block 43 = .ok (.aload_n 0, 1) := by decide +kernel
theorem dX8_block_44 : decode cX8_block 44 = .ok (.getfield 24, 3) := by decide +kernel
theorem dX8_block_47 : decode cX8_block 47 = .ok (.iload_n 1, 1) := by decide +kernel
theorem dX8_block_48 : decode cX8_block 48 = .ok (.baload, 1) := by decide +kernel
theorem dX8_block_49 : decode cX8_block 49 = .ok (.ifCond .eq 7, 3) := by decide +kernel
theorem dX8_block_52 : decode cX8_block 52 = .ok (.iconst 1, 1) := by decide +kernel
theorem dX8_block_53 : decode cX8_block 53 = .ok (.goto 4, 3) := by decide +kernel
theorem dX8_block_56 : decode cX8_block 56 = .ok (.iconst 0, 1) := by decide +kernel
theorem dX8_block_57 : decode cX8_block 57 = .ok (.ireturn, 1) := by decide +kernel
theorem dX8_block_58 : decode cX8_block 58 = .ok (.aload_n 0, 1) := by decide +kernel
theorem dX8_block_59 : decode cX8_block 59 = .ok (.iload_n 1, 1) := by decide +kernel
theorem dX8_block_60 : decode cX8_block 60 = .ok (.invokevirtual 136, 3) := by decide +kernel
theorem dX8_block_63 : decode cX8_block 63 = .ok (.istore_n 3, 1) := by decide +kernel
theorem dX8_block_64 : decode cX8_block 64 = .ok (.iload_n 3, 1) := by decide +kernel
theorem dX8_block_65 : decode cX8_block 65 = .ok (.iconst (-1), 1) := by decide +kernel
theorem dX8_block_66 : decode cX8_block 66 = .ok (.if_icmp .ne 5, 3) := by decide +kernel
theorem dX8_block_69 : decode cX8_block 69 = .ok (.iconst (-1), 1) := by decide +kernel
theorem dX8_block_70 : decode cX8_block 70 = .ok (.ireturn, 1) := by decide +kernel
theorem dX8_block_71 : decode cX8_block 71 = .ok (.iload_n 2, 1) := by decide +kernel
theorem dX8_block_72 : decode cX8_block 72 = .ok (.tableswitch 87 1 6 #[40, 49, 58, 67, 87, 78], 40) := by decide +kernel
theorem dX8_block_112 : decode cX8_block 112 = .ok (.aload_n 0, 1) := by decide +kernel
theorem dX8_block_113 : decode cX8_block 113 = .ok (.getfield 9, 3) := by decide +kernel
theorem dX8_block_116 : decode cX8_block 116 = .ok (.iload_n 3, 1) := by decide +kernel
theorem dX8_block_117 : decode cX8_block 117 = .ok (.iconst 1, 1) := by decide +kernel
theorem dX8_block_118 : decode cX8_block 118 = .ok (.iadd, 1) := by decide +kernel
theorem dX8_block_119 : decode cX8_block 119 = .ok (.iaload, 1) := by decide +kernel
theorem dX8_block_120 : decode cX8_block 120 = .ok (.ireturn, 1) := by decide +kernel
theorem dX8_block_121 : decode cX8_block 121 = .ok (.aload_n 0, 1) := by decide +kernel
theorem dX8_block_122 : decode cX8_block 122 = .ok (.getfield 9, 3) := by decide +kernel
theorem dX8_block_125 : decode cX8_block 125 = .ok (.iload_n 3, 1) := by decide +kernel
theorem dX8_block_126 : decode cX8_block 126 = .ok (.iconst 2, 1) := by decide +kernel
theorem dX8_block_127 : decode cX8_block 127 = .ok (.iadd, 1) := by decide +kernel
theorem dX8_block_128 : decode cX8_block 128 = .ok (.iaload, 1) := by decide +kernel
theorem dX8_block_129 : decode cX8_block 129 = .ok (.ireturn, 1) := by decide +kernel
theorem dX8_block_130 : decode cX8_block 130 = .ok (.aload_n 0, 1) := by decide +kernel
theorem dX8_block_131 : decode cX8_block 131 = .ok (.getfield 9, 3) := by decide +kernel
theorem dX8_block_134 : decode cX8_block 134 = .ok (.iload_n 3, 1) := by decide +kernel
theorem dX8_block_135 : decode cX8_block 135 = .ok (.iconst 3, 1) := by decide +kernel
theorem dX8_block_136 : decode cX8_block 136 = .ok (.iadd, 1) := by decide +kernel
theorem dX8_block_137 : decode cX8_block 137 = .ok (.iaload, 1) := by decide +kernel
theorem dX8_block_138 : decode cX8_block 138 = .ok (.ireturn, 1) := by decide +kernel
theorem dX8_block_139 : decode cX8_block 139 = .ok (.aload_n 0, 1) := by decide +kernel
theorem dX8_block_140 : decode cX8_block 140 = .ok (.getfield 9, 3) := by decide +kernel
theorem dX8_block_143 : decode cX8_block 143 = .ok (.iload_n 3, 1) := by decide +kernel
theorem dX8_block_144 : decode cX8_block 144 = .ok (.iconst 4, 1) := by decide +kernel
theorem dX8_block_145 : decode cX8_block 145 = .ok (.iadd, 1) := by decide +kernel
theorem dX8_block_146 : decode cX8_block 146 = .ok (.iaload, 1) := by decide +kernel
theorem dX8_block_147 : decode cX8_block 147 = .ok (.iconst 1, 1) := by decide +kernel
theorem dX8_block_148 : decode cX8_block 148 = .ok (.isub, 1) := by decide +kernel
theorem dX8_block_149 : decode cX8_block 149 = .ok (.ireturn, 1) := by decide +kernel
theorem dX8_block_150 : decode cX8_block 150 = .ok (.aload_n 0, 1) := by decide +kernel
theorem dX8_block_151 : decode cX8_block 151 = .ok (.getfield 9, 3) := by decide +kernel
theorem dX8_block_154 : decode cX8_block 154 = .ok (.iload_n 3, 1) := by decide +kernel
theorem dX8_block_155 : decode cX8_block 155 = .ok (.iconst 5, 1) := by decide +kernel
theorem dX8_block_156 : decode cX8_block 156 = .ok (.iadd, 1) := by decide +kernel
theorem dX8_block_157 : decode cX8_block 157 = .ok (.iaload, 1) := by decide +kernel
theorem dX8_block_158 : decode cX8_block 158 = .ok (.ireturn, 1) := by decide +kernel
theorem dX8_block_159 : decode cX8_block 159 = .ok (.aload_n 0, 1) := by decide +kernel
theorem dX8_block_160 : decode cX8_block 160 = .ok (.iload_n 3, 1) := by decide +kernel
theorem dX8_block_161 : decode cX8_block 161 = .ok (.invokevirtual 227, 3) := by decide +kernel
theorem dX8_block_164 : decode cX8_block 164 = .ok (.ireturn, 1) := by decide +kernel
def mR_block_57 (N : Nat) (σ : ST) (x1 : Int32) (x2 : Int32) (k0 : Int32) : Option (Int32 × ST) :=
  some (k0, σ)
set_option maxRecDepth 20000 in
set_option maxHeartbeats 2000000 in
theorem tR_block_57 {adr : Nat → Nat} {cI cZ : ClassId} {X : zX} {q : Int32 × ST} (B : zC X 4 (wdR adr cI cZ) cX8_block RX8 (some .int) { frames := 2, cells := 0, slots := 0, locals := 46 }) (N : Nat) (σ : ST) (x1 : Int32) (x2 : Int32) (k0 : Int32) (hf : mR_block_57 N σ x1 x2 k0 = some q) : zJ X 4 (wdR adr cI cZ) (zi q) 57 [(0, .ref (adr 0)), (1, .int x1), (2, .int x2)] [.int k0] σ := by
  exact z_ireturn B dX8_block_57 hf
def mR_block_25 (N : Nat) (σ : ST) (x1 : Int32) (x2 : Int32) : Option (Int32 × ST) :=
  some ((-1), σ)
set_option maxRecDepth 20000 in
set_option maxHeartbeats 2000000 in
theorem tR_block_25 {adr : Nat → Nat} {cI cZ : ClassId} {X : zX} {q : Int32 × ST} (B : zC X 4 (wdR adr cI cZ) cX8_block RX8 (some .int) { frames := 2, cells := 0, slots := 0, locals := 46 }) (N : Nat) (σ : ST) (x1 : Int32) (x2 : Int32) (hf : mR_block_25 N σ x1 x2 = some q) : zJ X 4 (wdR adr cI cZ) (zi q) 25 [(0, .ref (adr 0)), (1, .int x1), (2, .int x2)] [] σ := by
  refine z_iconst B (-1) dX8_block_25 zc_iconst_m1 ?_
  exact z_ireturn B dX8_block_26 hf
def mR_block (N : Nat) (σ : ST) (x1 : Int32) (x2 : Int32) : Option (Int32 × ST) :=
  zLet (zUp σ 0 0 (0)) fun s2 =>
  zCall (mR_isBlock N s2 x1) fun v7 s7 =>
  if (v7 : Int32) = 0 then
    mR_block_25 N s7 x1 x2
  else
    zLet ((x2 : Int32).toInt64) fun v14 =>
    zCall (mR_in N s7 v14 (0) (7)) fun v19 s19 =>
    if (v19 : Int32) = 0 then
      mR_block_25 N s19 x1 x2
    else
      if (x2 : Int32) = 0 then
        zGet (s19 4) 10000 x1 fun v36 =>
        some (v36, s19)
      else
        if (x2 : Int32) = (5) then
          zGet (s19 5) 10000 x1 fun v48 =>
          if (v48 : Int32) = 0 then
            mR_block_57 N s19 x1 x2 (0)
          else
            mR_block_57 N s19 x1 x2 (1)
        else
          zCall (mR_place N s19 x1) fun v60 s60 =>
          if (v60 : Int32) = (-1) then
            some ((-1), s60)
          else
            if (x2 : Int32) = (1) then
              zLet ((v60 : Int32) + (1)) fun v118 =>
              zGet (s60 1) 1974 v118 fun v119 =>
              some (v119, s60)
            else
            if (x2 : Int32) = (2) then
              zLet ((v60 : Int32) + (2)) fun v127 =>
              zGet (s60 1) 1974 v127 fun v128 =>
              some (v128, s60)
            else
            if (x2 : Int32) = (3) then
              zLet ((v60 : Int32) + (3)) fun v136 =>
              zGet (s60 1) 1974 v136 fun v137 =>
              some (v137, s60)
            else
            if (x2 : Int32) = (4) then
              zLet ((v60 : Int32) + (4)) fun v145 =>
              zGet (s60 1) 1974 v145 fun v146 =>
              zLet ((v146 : Int32) - (1)) fun v148 =>
              some (v148, s60)
            else
            if (x2 : Int32) = (6) then
              zLet ((v60 : Int32) + (5)) fun v156 =>
              zGet (s60 1) 1974 v156 fun v157 =>
              some (v157, s60)
            else
              zCall (mR_toCome N s60 v60) fun v161 s161 =>
              some (v161, s161)
set_option maxRecDepth 20000 in
set_option maxHeartbeats 2000000 in
theorem cR_block {adr : Nat → Nat} {cI cZ : ClassId} {l : Launch} {D : va_G} {N : Nat} {σ : ST} {x1 : Int32} {x2 : Int32} (q : Int32 × ST) (hf : mR_block N σ x1 x2 = some q) : zM l D (wdR adr cI cZ) yX8_block cX8_block 4 (some .int) ({ frames := 2, cells := 0, slots := 0, locals := 46 }) [.ref (adr 0), .int x1, .int x2] σ (zi q) := by
  refine zM_of sfR_ok rfl (Nat.le_of_ble_eq_true rfl) [(0, .ref (adr 0)), (1, .int x1), (2, .int x2)] rfl (fun X hX1 hX2 B => ?_)
  have B : zC X 4 (wdR adr cI cZ) cX8_block RX8 (some .int) { frames := 2, cells := 0, slots := 0, locals := 46 } := B
  refine z_aload_n B dX8_block_0 0 rfl rfl ?_
  refine z_iconst B (0) dX8_block_1 zc_iconst_0 ?_
  refine fR_p_thrown B dX8_block_2 hf (fun s2 hf => ?_)
  refine z_aload_n B dX8_block_5 0 rfl rfl ?_
  refine z_iload_n B dX8_block_6 1 rfl rfl ?_
  refine z_callVi B (As := [.int x1]) kcV_X8_132 dX8_block_7 hf (fun q hq => cR_isBlock q hq) (wR_o (adr := adr) (cI := cI) (cZ := cZ)) rfl rfl rfl rfl (Nat.le_of_ble_eq_true rfl) rfl rfl ⟨Nat.le_of_ble_eq_true rfl, Nat.le_of_ble_eq_true rfl⟩ (fun v7 s7 hf => ?_)
  refine z_if_eq B 25 dX8_block_10 (by decide) hf (fun hf => ?_) (fun hf => ?_)
  · exact tR_block_25 B N s7 x1 x2 hf
  · refine z_iload_n B dX8_block_13 2 rfl rfl ?_
    refine z_i2l B dX8_block_14 hf (fun v14 hf => ?_)
    refine z_lconst B (0) dX8_block_15 rfl ?_
    refine z_ldc2 B kw_1186 dX8_block_16 ?_
    refine z_callSi B (As := [.long v14, .long (0), .long (7)]) kcS_X8_71 dX8_block_19 hf (fun q hq => cR_in q hq) rfl rfl (Nat.le_of_ble_eq_true rfl) rfl rfl ⟨Nat.le_of_ble_eq_true rfl, Nat.le_of_ble_eq_true rfl⟩ (fun v19 s19 hf => ?_)
    refine z_if_ne B 27 dX8_block_22 (by decide) hf (fun hf => ?_) (fun hf => ?_)
    · refine z_iload_n B dX8_block_27 2 rfl rfl ?_
      refine z_if_ne B 38 dX8_block_28 (by decide) hf (fun hf => ?_) (fun hf => ?_)
      · refine z_iload_n B dX8_block_38 2 rfl rfl ?_
        refine z_iconst B (5) dX8_block_39 zc_iconst_5 ?_
        refine z_icmp_ne B 58 dX8_block_40 (by decide) hf (fun hf => ?_) (fun hf => ?_)
        · refine z_aload_n B dX8_block_58 0 rfl rfl ?_
          refine z_iload_n B dX8_block_59 1 rfl rfl ?_
          refine z_callVi B (As := [.int x1]) kcV_X8_136 dX8_block_60 hf (fun q hq => cR_place q hq) (wR_o (adr := adr) (cI := cI) (cZ := cZ)) rfl rfl rfl rfl (Nat.le_of_ble_eq_true rfl) rfl rfl ⟨Nat.le_of_ble_eq_true rfl, Nat.le_of_ble_eq_true rfl⟩ (fun v60 s60 hf => ?_)
          refine z_istore_n B [(3, .int v60), (0, .ref (adr 0)), (1, .int x1), (2, .int x2)] dX8_block_63 rfl (Nat.le_of_ble_eq_true rfl) rfl ?_
          refine z_iload_n B dX8_block_64 0 rfl rfl ?_
          refine z_iconst B (-1) dX8_block_65 zc_iconst_m1 ?_
          refine z_icmp_ne B 71 dX8_block_66 (by decide) hf (fun hf => ?_) (fun hf => ?_)
          · refine z_iload_n B dX8_block_71 3 rfl rfl ?_
            by_cases h72_1 : x2 = (1)
            · replace hf := zIfp h72_1 hf
              refine z_tabIn B (off := 40) 112 dX8_block_72 (by rw [h72_1]; decide) (by rw [h72_1]; decide) (by rw [h72_1]; decide) (by decide) ?_
              refine z_aload_n B dX8_block_112 1 rfl rfl ?_
              refine fR_g_row B dX8_block_113 ?_
              refine z_iload_n B dX8_block_116 0 rfl rfl ?_
              refine z_iconst B (1) dX8_block_117 zc_iconst_1 ?_
              refine z_iadd B dX8_block_118 hf (fun v118 hf => ?_)
              refine fR_l_row B dX8_block_119 hf (fun v119 hf => ?_)
              exact z_ireturn B dX8_block_120 hf
            replace hf := zIfn h72_1 hf
            by_cases h72_2 : x2 = (2)
            · replace hf := zIfp h72_2 hf
              refine z_tabIn B (off := 49) 121 dX8_block_72 (by rw [h72_2]; decide) (by rw [h72_2]; decide) (by rw [h72_2]; decide) (by decide) ?_
              refine z_aload_n B dX8_block_121 1 rfl rfl ?_
              refine fR_g_row B dX8_block_122 ?_
              refine z_iload_n B dX8_block_125 0 rfl rfl ?_
              refine z_iconst B (2) dX8_block_126 zc_iconst_2 ?_
              refine z_iadd B dX8_block_127 hf (fun v127 hf => ?_)
              refine fR_l_row B dX8_block_128 hf (fun v128 hf => ?_)
              exact z_ireturn B dX8_block_129 hf
            replace hf := zIfn h72_2 hf
            by_cases h72_3 : x2 = (3)
            · replace hf := zIfp h72_3 hf
              refine z_tabIn B (off := 58) 130 dX8_block_72 (by rw [h72_3]; decide) (by rw [h72_3]; decide) (by rw [h72_3]; decide) (by decide) ?_
              refine z_aload_n B dX8_block_130 1 rfl rfl ?_
              refine fR_g_row B dX8_block_131 ?_
              refine z_iload_n B dX8_block_134 0 rfl rfl ?_
              refine z_iconst B (3) dX8_block_135 zc_iconst_3 ?_
              refine z_iadd B dX8_block_136 hf (fun v136 hf => ?_)
              refine fR_l_row B dX8_block_137 hf (fun v137 hf => ?_)
              exact z_ireturn B dX8_block_138 hf
            replace hf := zIfn h72_3 hf
            by_cases h72_4 : x2 = (4)
            · replace hf := zIfp h72_4 hf
              refine z_tabIn B (off := 67) 139 dX8_block_72 (by rw [h72_4]; decide) (by rw [h72_4]; decide) (by rw [h72_4]; decide) (by decide) ?_
              refine z_aload_n B dX8_block_139 1 rfl rfl ?_
              refine fR_g_row B dX8_block_140 ?_
              refine z_iload_n B dX8_block_143 0 rfl rfl ?_
              refine z_iconst B (4) dX8_block_144 zc_iconst_4 ?_
              refine z_iadd B dX8_block_145 hf (fun v145 hf => ?_)
              refine fR_l_row B dX8_block_146 hf (fun v146 hf => ?_)
              refine z_iconst B (1) dX8_block_147 zc_iconst_1 ?_
              refine z_isub B dX8_block_148 hf (fun v148 hf => ?_)
              exact z_ireturn B dX8_block_149 hf
            replace hf := zIfn h72_4 hf
            by_cases h72_6 : x2 = (6)
            · replace hf := zIfp h72_6 hf
              refine z_tabIn B (off := 78) 150 dX8_block_72 (by rw [h72_6]; decide) (by rw [h72_6]; decide) (by rw [h72_6]; decide) (by decide) ?_
              refine z_aload_n B dX8_block_150 1 rfl rfl ?_
              refine fR_g_row B dX8_block_151 ?_
              refine z_iload_n B dX8_block_154 0 rfl rfl ?_
              refine z_iconst B (5) dX8_block_155 zc_iconst_5 ?_
              refine z_iadd B dX8_block_156 hf (fun v156 hf => ?_)
              refine fR_l_row B dX8_block_157 hf (fun v157 hf => ?_)
              exact z_ireturn B dX8_block_158 hf
            replace hf := zIfn h72_6 hf
            have kd72 : zJ X 4 (wdR adr cI cZ) (zi q) 159 [(3, .int v60), (0, .ref (adr 0)), (1, .int x1), (2, .int x2)] [] s60 := by
              refine z_aload_n B dX8_block_159 1 rfl rfl ?_
              refine z_iload_n B dX8_block_160 0 rfl rfl ?_
              refine z_callVi B (As := [.int v60]) kcV_X8_227 dX8_block_161 hf (fun q hq => cR_toCome q hq) (wR_o (adr := adr) (cI := cI) (cZ := cZ)) rfl rfl rfl rfl (Nat.le_of_ble_eq_true rfl) rfl rfl ⟨Nat.le_of_ble_eq_true rfl, Nat.le_of_ble_eq_true rfl⟩ (fun v161 s161 hf => ?_)
              exact z_ireturn B dX8_block_164 hf
            by_cases ho72 : x2.toInt < 1 ∨ 6 < x2.toInt
            · exact z_tabOut B 159 dX8_block_72 ho72 (by decide) kd72
            · have e0 : x2.toInt ≠ 1 := z_ne h72_1 (by decide)
              have e1 : x2.toInt ≠ 2 := z_ne h72_2 (by decide)
              have e2 : x2.toInt ≠ 3 := z_ne h72_3 (by decide)
              have e3 : x2.toInt ≠ 4 := z_ne h72_4 (by decide)
              have e4 : x2.toInt ≠ 6 := z_ne h72_6 (by decide)
              have hx72 : x2.toInt = 5 := by omega
              have e72 := hx72
              exact z_tabIn B (off := 87) 159 dX8_block_72 (by rw [e72]; decide) (by rw [e72]; decide) (by rw [e72]; decide) (by decide) kd72
          · refine z_iconst B (-1) dX8_block_69 zc_iconst_m1 ?_
            exact z_ireturn B dX8_block_70 hf
        · refine z_aload_n B dX8_block_43 0 rfl rfl ?_
          refine fR_g_isBad B dX8_block_44 ?_
          refine z_iload_n B dX8_block_47 1 rfl rfl ?_
          refine fR_l_isBad B dX8_block_48 hf (fun v48 hf => ?_)
          refine z_if_eq B 56 dX8_block_49 (by decide) hf (fun hf => ?_) (fun hf => ?_)
          · refine z_iconst B (0) dX8_block_56 zc_iconst_0 ?_
            exact tR_block_57 B N s19 x1 x2 (0) hf
          · refine z_iconst B (1) dX8_block_52 zc_iconst_1 ?_
            refine z_goto B 57 dX8_block_53 (by decide) ?_
            exact tR_block_57 B N s19 x1 x2 (1) hf
      · refine z_aload_n B dX8_block_31 0 rfl rfl ?_
        refine fR_g_disk B dX8_block_32 ?_
        refine z_iload_n B dX8_block_35 1 rfl rfl ?_
        refine fR_l_disk B dX8_block_36 hf (fun v36 hf => ?_)
        exact z_ireturn B dX8_block_37 hf
    · exact tR_block_25 B N s19 x1 x2 hf
theorem dX8_lessThan_0 : decode cX8_lessThan 0 = .ok (.iconst 0, 1) := by decide +kernel
theorem dX8_lessThan_1 : decode cX8_lessThan 1 = .ok (.istore_n 2, 1) := by decide +kernel
theorem dX8_lessThan_2 : decode cX8_lessThan 2 = .ok (.iconst 0, 1) := by decide +kernel
theorem dX8_lessThan_3 : decode cX8_lessThan 3 = .ok (.istore_n 3, 1) := by decide +kernel
theorem dX8_lessThan_4 : decode cX8_lessThan 4 = .ok (.iload_n 3, 1) := by decide +kernel
theorem dX8_lessThan_5 : decode cX8_lessThan 5 = .ok (.aload_n 0, 1) := by decide +kernel
theorem dX8_lessThan_6 : decode cX8_lessThan 6 = .ok (.getfield 9, 3) := by decide +kernel
theorem dX8_lessThan_9 : decode cX8_lessThan 9 = .ok (.iconst 0, 1) := by decide +kernel
theorem dX8_lessThan_10 : decode cX8_lessThan 10 = .ok (.iaload, 1) := by decide +kernel
theorem dX8_lessThan_11 : decode cX8_lessThan 11 = .ok (.if_icmp .ge 44, 3) := by decide +kernel
theorem dX8_lessThan_14 : decode cX8_lessThan 14 = .ok (.iload_n 2, 1) := by decide +kernel
theorem dX8_lessThan_15 : decode cX8_lessThan 15 = .ok (.aload_n 0, 1) := by decide +kernel
theorem dX8_lessThan_16 : decode cX8_lessThan 16 = .ok (.getfield 9, 3) := by decide +kernel
theorem dX8_lessThan_19 : decode cX8_lessThan 19 = .ok (.iload_n 3, 1) := by decide +kernel
theorem dX8_lessThan_20 : decode cX8_lessThan 20 = .ok (.invokestatic 85, 3) := by decide +kernel
theorem dX8_lessThan_23 : decode cX8_lessThan 23 = .ok (.iaload, 1) := by decide +kernel
theorem dX8_lessThan_24 : decode cX8_lessThan 24 = .ok (.ifCond .le 22, 3) := by decide +kernel
theorem dX8_lessThan_27 : decode cX8_lessThan 27 = .ok (.aload_n 0, 1) := by decide +kernel
theorem dX8_lessThan_28 : decode cX8_lessThan 28 = .ok (.getfield 9, 3) := by decide +kernel
theorem dX8_lessThan_31 : decode cX8_lessThan 31 = .ok (.iload_n 3, 1) := by decide +kernel
theorem dX8_lessThan_32 : decode cX8_lessThan 32 = .ok (.invokestatic 85, 3) := by decide +kernel
theorem dX8_lessThan_35 : decode cX8_lessThan 35 = .ok (.iconst 2, 1) := by decide +kernel
theorem dX8_lessThan_36 : decode cX8_lessThan 36 = .ok (.iadd, 1) := by decide +kernel
theorem dX8_lessThan_37 : decode cX8_lessThan 37 = .ok (.iaload, 1) := by decide +kernel
theorem dX8_lessThan_38 : decode cX8_lessThan 38 = .ok (.iload_n 1, 1) := by decide +kernel
theorem dX8_lessThan_39 : decode cX8_lessThan 39 = .ok (.if_icmp .ge 7, 3) := by decide +kernel
theorem dX8_lessThan_42 : decode cX8_lessThan 42 = .ok (.iconst 1, 1) := by decide +kernel
theorem dX8_lessThan_43 : decode cX8_lessThan 43 = .ok (.goto 4, 3) := by decide +kernel
theorem dX8_lessThan_46 : decode cX8_lessThan 46 = .ok (.iconst 0, 1) := by decide +kernel
theorem dX8_lessThan_47 : decode cX8_lessThan 47 = .ok (.iadd, 1) := by decide +kernel
theorem dX8_lessThan_48 : decode cX8_lessThan 48 = .ok (.istore_n 2, 1) := by decide +kernel
theorem dX8_lessThan_49 : decode cX8_lessThan 49 = .ok (.iinc 3 1, 3) := by decide +kernel
theorem dX8_lessThan_52 : decode cX8_lessThan 52 = .ok (.goto (-48), 3) := by decide +kernel
theorem dX8_lessThan_55 : decode cX8_lessThan 55 = .ok (.iload_n 2, 1) := by decide +kernel
theorem dX8_lessThan_56 : decode cX8_lessThan 56 = .ok (.ireturn, 1) := by decide +kernel
def mR_lessThan_47 (N : Nat) (hd4 : ST → Int32 → Int32 → Int32 → Option (Int32 × ST)) (σ : ST) (x1 : Int32) (x2 : Int32) (x3 : Int32) (k0 : Int32) (k1 : Int32) : Option (Int32 × ST) :=
  zLet ((k0 : Int32) + k1) fun v47 =>
  zLet (x3 + (1)) fun v49 =>
  hd4 σ x1 v47 v49
set_option maxRecDepth 20000 in
set_option maxHeartbeats 2000000 in
theorem tR_lessThan_47 {adr : Nat → Nat} {cI cZ : ClassId} {X : zX} {q : Int32 × ST} (B : zC X 4 (wdR adr cI cZ) cX8_lessThan RX8 (some .int) { frames := 1, cells := 0, slots := 0, locals := 20 }) (N : Nat) (hd4 : ST → Int32 → Int32 → Int32 → Option (Int32 × ST)) (hh4 : ∀ (σ : ST) (x1 : Int32) (x2 : Int32) (x3 : Int32), hd4 σ x1 x2 x3 = some q → zJ X 4 (wdR adr cI cZ) (zi q) 4 [(0, .ref (adr 0)), (1, .int x1), (2, .int x2), (3, .int x3)] [] σ) (σ : ST) (x1 : Int32) (x2 : Int32) (x3 : Int32) (k0 : Int32) (k1 : Int32) (hf : mR_lessThan_47 N hd4 σ x1 x2 x3 k0 k1 = some q) : zJ X 4 (wdR adr cI cZ) (zi q) 47 [(0, .ref (adr 0)), (1, .int x1), (2, .int x2), (3, .int x3)] [.int k1, .int k0] σ := by
  refine z_iadd B dX8_lessThan_47 hf (fun v47 hf => ?_)
  refine z_istore_n B [(2, .int v47), (0, .ref (adr 0)), (1, .int x1), (3, .int x3)] dX8_lessThan_48 rfl (Nat.le_of_ble_eq_true rfl) rfl ?_
  refine z_iinc B (1) 3 (fun v49 => [(3, .int v49), (2, .int v47), (0, .ref (adr 0)), (1, .int x1)]) dX8_lessThan_49 hf zc_iconst_1 rfl (Nat.le_of_ble_eq_true rfl) (fun _ => rfl) (fun v49 hf => ?_)
  refine z_goto B 4 dX8_lessThan_52 (by decide) ?_
  exact z_loc [2, 3, 1, 0] _ rfl (hh4 σ x1 v47 v49 hf)
def mR_lessThan_46 (N : Nat) (hd4 : ST → Int32 → Int32 → Int32 → Option (Int32 × ST)) (σ : ST) (x1 : Int32) (x2 : Int32) (x3 : Int32) (k0 : Int32) : Option (Int32 × ST) :=
  mR_lessThan_47 N hd4 σ x1 x2 x3 k0 (0)
set_option maxRecDepth 20000 in
set_option maxHeartbeats 2000000 in
theorem tR_lessThan_46 {adr : Nat → Nat} {cI cZ : ClassId} {X : zX} {q : Int32 × ST} (B : zC X 4 (wdR adr cI cZ) cX8_lessThan RX8 (some .int) { frames := 1, cells := 0, slots := 0, locals := 20 }) (N : Nat) (hd4 : ST → Int32 → Int32 → Int32 → Option (Int32 × ST)) (hh4 : ∀ (σ : ST) (x1 : Int32) (x2 : Int32) (x3 : Int32), hd4 σ x1 x2 x3 = some q → zJ X 4 (wdR adr cI cZ) (zi q) 4 [(0, .ref (adr 0)), (1, .int x1), (2, .int x2), (3, .int x3)] [] σ) (σ : ST) (x1 : Int32) (x2 : Int32) (x3 : Int32) (k0 : Int32) (hf : mR_lessThan_46 N hd4 σ x1 x2 x3 k0 = some q) : zJ X 4 (wdR adr cI cZ) (zi q) 46 [(0, .ref (adr 0)), (1, .int x1), (2, .int x2), (3, .int x3)] [.int k0] σ := by
  refine z_iconst B (0) dX8_lessThan_46 zc_iconst_0 ?_
  exact tR_lessThan_47 B N hd4 hh4 σ x1 x2 x3 k0 (0) hf
def mR_lessThan_B4 (N : Nat) (hd4 : ST → Int32 → Int32 → Int32 → Option (Int32 × ST)) (σ : ST) (x1 : Int32) (x2 : Int32) (x3 : Int32) : Option (Int32 × ST) :=
  zGet (σ 1) 1974 (0) fun v10 =>
  if (v10 : Int32) ≤ x3 then
    some (x2, σ)
  else
    zCall (mR_cacheAt N σ x3) fun v20 s20 =>
    zGet (s20 1) 1974 v20 fun v23 =>
    if (v23 : Int32) ≤ 0 then
      mR_lessThan_46 N hd4 s20 x1 x2 x3 x2
    else
      zCall (mR_cacheAt N s20 x3) fun v32 s32 =>
      zLet ((v32 : Int32) + (2)) fun v36 =>
      zGet (s32 1) 1974 v36 fun v37 =>
      if (x1 : Int32) ≤ v37 then
        mR_lessThan_46 N hd4 s32 x1 x2 x3 x2
      else
        mR_lessThan_47 N hd4 s32 x1 x2 x3 x2 (1)
def mR_lessThan_4 (N : Nat) : ST → Int32 → Int32 → Int32 → Option (Int32 × ST) := zIt (mR_lessThan_B4 N) (fun _ _ _ _ => none) N
set_option maxRecDepth 20000 in
set_option maxHeartbeats 2000000 in
theorem tR_lessThan_4 {adr : Nat → Nat} {cI cZ : ClassId} {X : zX} {q : Int32 × ST} (B : zC X 4 (wdR adr cI cZ) cX8_lessThan RX8 (some .int) { frames := 1, cells := 0, slots := 0, locals := 20 }) (N : Nat) : ∀ (σ : ST) (x1 : Int32) (x2 : Int32) (x3 : Int32), mR_lessThan_4 N σ x1 x2 x3 = some q → zJ X 4 (wdR adr cI cZ) (zi q) 4 [(0, .ref (adr 0)), (1, .int x1), (2, .int x2), (3, .int x3)] [] σ := by
  refine zIt_ind (P := fun (hd : ST → Int32 → Int32 → Int32 → Option (Int32 × ST)) => ∀ (σ : ST) (x1 : Int32) (x2 : Int32) (x3 : Int32), hd σ x1 x2 x3 = some q → zJ X 4 (wdR adr cI cZ) (zi q) 4 [(0, .ref (adr 0)), (1, .int x1), (2, .int x2), (3, .int x3)] [] σ) (fun _ _ _ _ hf => by cases hf) (fun hd4 hh4 => ?_) N
  intro σ x1 x2 x3 hf
  refine z_iload_n B dX8_lessThan_4 3 rfl rfl ?_
  refine z_aload_n B dX8_lessThan_5 0 rfl rfl ?_
  refine fR_g_row B dX8_lessThan_6 ?_
  refine z_iconst B (0) dX8_lessThan_9 zc_iconst_0 ?_
  refine fR_l_row B dX8_lessThan_10 hf (fun v10 hf => ?_)
  refine z_icmp_ge B 55 dX8_lessThan_11 (by decide) hf (fun hf => ?_) (fun hf => ?_)
  · refine z_iload_n B dX8_lessThan_55 2 rfl rfl ?_
    exact z_ireturn B dX8_lessThan_56 hf
  · refine z_iload_n B dX8_lessThan_14 2 rfl rfl ?_
    refine z_aload_n B dX8_lessThan_15 0 rfl rfl ?_
    refine fR_g_row B dX8_lessThan_16 ?_
    refine z_iload_n B dX8_lessThan_19 3 rfl rfl ?_
    refine z_callSi B (As := [.int x3]) kcS_X8_85 dX8_lessThan_20 hf (fun q hq => cR_cacheAt q hq) rfl rfl (Nat.le_of_ble_eq_true rfl) rfl rfl ⟨Nat.le_of_ble_eq_true rfl, Nat.le_of_ble_eq_true rfl⟩ (fun v20 s20 hf => ?_)
    refine fR_l_row B dX8_lessThan_23 hf (fun v23 hf => ?_)
    refine z_if_le B 46 dX8_lessThan_24 (by decide) hf (fun hf => ?_) (fun hf => ?_)
    · exact tR_lessThan_46 B N hd4 hh4 s20 x1 x2 x3 x2 hf
    · refine z_aload_n B dX8_lessThan_27 0 rfl rfl ?_
      refine fR_g_row B dX8_lessThan_28 ?_
      refine z_iload_n B dX8_lessThan_31 3 rfl rfl ?_
      refine z_callSi B (As := [.int x3]) kcS_X8_85 dX8_lessThan_32 hf (fun q hq => cR_cacheAt q hq) rfl rfl (Nat.le_of_ble_eq_true rfl) rfl rfl ⟨Nat.le_of_ble_eq_true rfl, Nat.le_of_ble_eq_true rfl⟩ (fun v32 s32 hf => ?_)
      refine z_iconst B (2) dX8_lessThan_35 zc_iconst_2 ?_
      refine z_iadd B dX8_lessThan_36 hf (fun v36 hf => ?_)
      refine fR_l_row B dX8_lessThan_37 hf (fun v37 hf => ?_)
      refine z_iload_n B dX8_lessThan_38 1 rfl rfl ?_
      refine z_icmp_ge B 46 dX8_lessThan_39 (by decide) hf (fun hf => ?_) (fun hf => ?_)
      · exact tR_lessThan_46 B N hd4 hh4 s32 x1 x2 x3 x2 hf
      · refine z_iconst B (1) dX8_lessThan_42 zc_iconst_1 ?_
        refine z_goto B 47 dX8_lessThan_43 (by decide) ?_
        exact tR_lessThan_47 B N hd4 hh4 s32 x1 x2 x3 x2 (1) hf
def mR_lessThan (N : Nat) (σ : ST) (x1 : Int32) : Option (Int32 × ST) :=
  mR_lessThan_4 N σ x1 (0) (0)
set_option maxRecDepth 20000 in
set_option maxHeartbeats 2000000 in
theorem cR_lessThan {adr : Nat → Nat} {cI cZ : ClassId} {l : Launch} {D : va_G} {N : Nat} {σ : ST} {x1 : Int32} (q : Int32 × ST) (hf : mR_lessThan N σ x1 = some q) : zM l D (wdR adr cI cZ) yX8_lessThan cX8_lessThan 4 (some .int) ({ frames := 1, cells := 0, slots := 0, locals := 20 }) [.ref (adr 0), .int x1] σ (zi q) := by
  refine zM_of sfR_ok rfl (Nat.le_of_ble_eq_true rfl) [(0, .ref (adr 0)), (1, .int x1)] rfl (fun X hX1 hX2 B => ?_)
  have B : zC X 4 (wdR adr cI cZ) cX8_lessThan RX8 (some .int) { frames := 1, cells := 0, slots := 0, locals := 20 } := B
  refine z_iconst B (0) dX8_lessThan_0 zc_iconst_0 ?_
  refine z_istore_n B [(2, .int (0)), (0, .ref (adr 0)), (1, .int x1)] dX8_lessThan_1 rfl (Nat.le_of_ble_eq_true rfl) rfl ?_
  refine z_iconst B (0) dX8_lessThan_2 zc_iconst_0 ?_
  refine z_istore_n B [(3, .int (0)), (2, .int (0)), (0, .ref (adr 0)), (1, .int x1)] dX8_lessThan_3 rfl (Nat.le_of_ble_eq_true rfl) rfl ?_
  exact z_loc [2, 3, 1, 0] _ rfl (tR_lessThan_4 B N σ x1 (0) (0) hf)
