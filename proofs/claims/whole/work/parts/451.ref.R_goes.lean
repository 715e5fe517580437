theorem dX8_goes_0 : decode cX8_goes 0 = .ok (.aload_n 0, 1) := by decide +kernel
theorem dX8_goes_1 : decode cX8_goes 1 = .ok (.getfield 9, 3) := by decide +kernel
theorem dX8_goes_4 : decode cX8_goes 4 = .ok (.iload_n 1, 1) := by decide +kernel
theorem dX8_goes_5 : decode cX8_goes 5 = .ok (.iconst 3, 1) := by decide +kernel
theorem dX8_goes_6 : decode cX8_goes 6 = .ok (.iadd, 1) := by decide +kernel
theorem dX8_goes_7 : decode cX8_goes 7 = .ok (.iaload, 1) := by decide +kernel
theorem dX8_goes_8 : decode cX8_goes 8 = .ok (.iconst 1, 1) := by decide +kernel
theorem dX8_goes_9 : decode cX8_goes 9 = .ok (.if_icmp .ne 88, 3) := by decide +kernel
theorem dX8_goes_12 : decode cX8_goes 12 = .ok (.aload_n 0, 1) := by decide +kernel
theorem dX8_goes_13 : decode cX8_goes 13 = .ok (.getfield 9, 3) := by decide +kernel
theorem dX8_goes_16 : decode cX8_goes 16 = .ok (.bipush 16, 2) := by decide +kernel
theorem dX8_goes_18 : decode cX8_goes 18 = .ok (.dup2, 1) := by decide +kernel
theorem dX8_goes_19 : decode cX8_goes 19 = .ok (.iaload, 1) := by decide +kernel
theorem dX8_goes_20 : decode cX8_goes 20 = .ok (.iconst 1, 1) := by decide +kernel
theorem dX8_goes_21 : decode cX8_goes 21 = .ok (.iadd, 1) := by decide +kernel
theorem dX8_goes_22 : decode cX8_goes 22 = .ok (.iastore, 1) := by decide +kernel
theorem dX8_goes_23 : decode cX8_goes 23 = .ok (.aload_n 0, 1) := by decide +kernel
theorem dX8_goes_24 : decode cX8_goes 24 = .ok (.dup, 1) := by decide +kernel
theorem dX8_goes_25 : decode cX8_goes 25 = .ok (.getfield 92, 3) := by decide +kernel
theorem dX8_goes_28 : decode cX8_goes 28 = .ok (.iconst 1, 1) := by decide +kernel
theorem dX8_goes_29 : decode cX8_goes 29 = .ok (.iadd, 1) := by decide +kernel
theorem dX8_goes_30 : decode cX8_goes 30 = .ok (.putfield 92, 3) := by decide +kernel
theorem dX8_goes_33 : decode cX8_goes 33 = .ok (.aload_n 0, 1) := by decide +kernel
theorem dX8_goes_34 : decode cX8_goes 34 = .ok (.aload_n 0, 1) := by decide +kernel
theorem dX8_goes_35 : decode cX8_goes 35 = .ok (.getfield 9, 3) := by decide +kernel
theorem dX8_goes_38 : decode cX8_goes 38 = .ok (.iload_n 1, 1) := by decide +kernel
theorem dX8_goes_39 : decode cX8_goes 39 = .ok (.iconst 4, 1) := by decide +kernel
theorem dX8_goes_40 : decode cX8_goes 40 = .ok (.iadd, 1) := by decide +kernel
theorem dX8_goes_41 : decode cX8_goes 41 = .ok (.iaload, 1) := by decide +kernel
theorem dX8_goes_42 : decode cX8_goes 42 = .ok (.iconst 1, 1) := by decide +kernel
theorem dX8_goes_43 : decode cX8_goes 43 = .ok (.isub, 1) := by decide +kernel
theorem dX8_goes_44 : decode cX8_goes 44 = .ok (.invokevirtual 95, 3) := by decide +kernel
theorem dX8_goes_47 : decode cX8_goes 47 = .ok (.istore_n 2, 1) := by decide +kernel
theorem dX8_goes_48 : decode cX8_goes 48 = .ok (.iload_n 2, 1) := by decide +kernel
theorem dX8_goes_49 : decode cX8_goes 49 = .ok (.iconst (-1), 1) := by decide +kernel
theorem dX8_goes_50 : decode cX8_goes 50 = .ok (.if_icmp .eq 47, 3) := by decide +kernel
theorem dX8_goes_53 : decode cX8_goes 53 = .ok (.aload_n 0, 1) := by decide +kernel
theorem dX8_goes_54 : decode cX8_goes 54 = .ok (.getfield 9, 3) := by decide +kernel
theorem dX8_goes_57 : decode cX8_goes 57 = .ok (.iload_n 2, 1) := by decide +kernel
theorem dX8_goes_58 : decode cX8_goes 58 = .ok (.bipush 11, 2) := by decide +kernel
theorem dX8_goes_60 : decode cX8_goes 60 = .ok (.iadd, 1) := by decide +kernel
theorem dX8_goes_61 : decode cX8_goes 61 = .ok (.dup2, 1) := by decide +kernel
theorem dX8_goes_62 : decode cX8_goes 62 = .ok (.iaload, 1) := by decide +kernel
theorem dX8_goes_63 : decode cX8_goes 63 = .ok (.iconst 1, 1) := by decide +kernel
theorem dX8_goes_64 : decode cX8_goes 64 = .ok (.iadd, 1) := by decide +kernel
theorem dX8_goes_65 : decode cX8_goes 65 = .ok (.iastore, 1) := by decide +kernel
theorem dX8_goes_66 : decode cX8_goes 66 = .ok (.aload_n 0, 1) := by decide +kernel
theorem dX8_goes_67 : decode cX8_goes 67 = .ok (.iload_n 2, 1) := by decide +kernel
theorem dX8_goes_68 : decode cX8_goes 68 = .ok (.aload_n 0, 1) := by decide +kernel
theorem dX8_goes_69 : decode cX8_goes 69 = .ok (.getfield 9, 3) := by decide +kernel
theorem dX8_goes_72 : decode cX8_goes 72 = .ok (.iload_n 2, 1) := by decide +kernel
theorem dX8_goes_73 : decode cX8_goes 73 = .ok (.iconst 5, 1) := by decide +kernel
theorem dX8_goes_74 : decode cX8_goes 74 = .ok (.iadd, 1) := by decide +kernel
theorem dX8_goes_75 : decode cX8_goes 75 = .ok (.iaload, 1) := by decide +kernel
theorem dX8_goes_76 : decode cX8_goes 76 = .ok (.iconst 1, 1) := by decide +kernel
theorem dX8_goes_77 : decode cX8_goes 77 = .ok (.if_icmp .le 16, 3) := by decide +kernel
theorem dX8_goes_80 : decode cX8_goes 80 = .ok (.aload_n 0, 1) := by decide +kernel
theorem dX8_goes_81 : decode cX8_goes 81 = .ok (.getfield 9, 3) := by decide +kernel
theorem dX8_goes_84 : decode cX8_goes 84 = .ok (.iload_n 2, 1) := by decide +kernel
theorem dX8_goes_85 : decode cX8_goes 85 = .ok (.iconst 5, 1) := by decide +kernel
theorem dX8_goes_86 : decode cX8_goes 86 = .ok (.iadd, 1) := by decide +kernel
theorem dX8_goes_87 : decode cX8_goes 87 = .ok (.iaload, 1) := by decide +kernel
theorem dX8_goes_88 : decode cX8_goes 88 = .ok (.iconst 2, 1) := by decide +kernel
theorem dX8_goes_89 : decode cX8_goes 89 = .ok (.idiv, 1) := by decide +kernel
theorem dX8_goes_90 : decode cX8_goes 90 = .ok (.goto 4, 3) := by decide +kernel
theorem dX8_goes_93 : decode cX8_goes 93 = .ok (.iconst 1, 1) := by decide +kernel
theorem dX8_goes_94 : decode cX8_goes 94 = .ok (.invokevirtual 98, 3) := by decide +kernel
theorem dX8_goes_97 : decode cX8_goes 97 = .ok (.aload_n 0, 1) := by decide +kernel
theorem dX8_goes_98 : decode cX8_goes 98 = .ok (.getfield 9, 3) := by decide +kernel
theorem dX8_goes_101 : decode cX8_goes 101 = .ok (.iload_n 1, 1) := by decide +kernel
theorem dX8_goes_102 : decode cX8_goes 102 = .ok (.iconst 0, 1) := by decide +kernel
theorem dX8_goes_103 : decode cX8_goes 103 = .ok (.iastore, 1) := by decide +kernel
theorem dX8_goes_104 : decode cX8_goes 104 = .ok (.return_, 1) := by decide +kernel
def mR_goes_97 (N : Nat) (σ : ST) (x1 : Int32) : Option (ST) :=
  zSet σ 1 1974 x1 (0) fun s103 =>
  some s103
set_option maxRecDepth 20000 in
set_option maxHeartbeats 2000000 in
theorem tR_goes_97 {adr : Nat → Nat} {cI cZ : ClassId} {X : zX} {q : ST} (B : zC X 3 (wdR adr cI cZ) cX8_goes RX8 none { frames := 2, cells := 0, slots := 0, locals := 42 }) (N : Nat) (σ : ST) (x1 : Int32) (hf : mR_goes_97 N σ x1 = some q) : zJ X 3 (wdR adr cI cZ) (zu q) 97 [(0, .ref (adr 0)), (1, .int x1)] [] σ := by
  refine z_aload_n B dX8_goes_97 0 rfl rfl ?_
  refine fR_g_row B dX8_goes_98 ?_
  refine z_iload_n B dX8_goes_101 1 rfl rfl ?_
  refine z_iconst B (0) dX8_goes_102 zc_iconst_0 ?_
  refine fR_s_row B dX8_goes_103 hf (fun s103 hf => ?_)
  exact z_return B dX8_goes_104 hf
def mR_goes_94 (N : Nat) (σ : ST) (x1 : Int32) (x2 : Int32) (k1 : Int32) (k2 : Int32) : Option (ST) :=
  zCallu (mR_widens N σ k1 k2) fun s94 =>
  mR_goes_97 N s94 x1
set_option maxRecDepth 20000 in
set_option maxHeartbeats 2000000 in
theorem tR_goes_94 {adr : Nat → Nat} {cI cZ : ClassId} {X : zX} {q : ST} (B : zC X 3 (wdR adr cI cZ) cX8_goes RX8 none { frames := 2, cells := 0, slots := 0, locals := 42 }) (N : Nat) (σ : ST) (x1 : Int32) (x2 : Int32) (k1 : Int32) (k2 : Int32) (hf : mR_goes_94 N σ x1 x2 k1 k2 = some q) : zJ X 3 (wdR adr cI cZ) (zu q) 94 [(0, .ref (adr 0)), (1, .int x1), (2, .int x2)] [.int k2, .int k1, .ref (adr 0)] σ := by
  refine z_callVu B (As := [.int k1, .int k2]) kcV_X8_98 dX8_goes_94 hf (fun q hq => cR_widens q hq) (wR_o (adr := adr) (cI := cI) (cZ := cZ)) rfl rfl rfl rfl (Nat.le_of_ble_eq_true rfl) rfl rfl ⟨Nat.le_of_ble_eq_true rfl, Nat.le_of_ble_eq_true rfl⟩ (fun s94 hf => ?_)
  exact z_loc [0, 1] _ rfl (tR_goes_97 B N s94 x1 hf)
def mR_goes (N : Nat) (σ : ST) (x1 : Int32) : Option (ST) :=
  zLet ((x1 : Int32) + (3)) fun v6 =>
  zGet (σ 1) 1974 v6 fun v7 =>
  if (v7 : Int32) = (1) then
    zGet (σ 1) 1974 (16) fun v19 =>
    zLet ((v19 : Int32) + (1)) fun v21 =>
    zSet σ 1 1974 (16) v21 fun s22 =>
    zLet (s22 0 16) fun v25 =>
    zLet ((v25 : Int32) + (1)) fun v29 =>
    zLet (zUp s22 0 16 v29) fun s30 =>
    zLet ((x1 : Int32) + (4)) fun v40 =>
    zGet (s30 1) 1974 v40 fun v41 =>
    zLet ((v41 : Int32) - (1)) fun v43 =>
    zCall (mR_streamOf N s30 v43) fun v44 s44 =>
    if (v44 : Int32) = (-1) then
      mR_goes_97 N s44 x1
    else
      zLet ((v44 : Int32) + (11)) fun v60 =>
      zGet (s44 1) 1974 v60 fun v62 =>
      zLet ((v62 : Int32) + (1)) fun v64 =>
      zSet s44 1 1974 v60 v64 fun s65 =>
      zLet ((v44 : Int32) + (5)) fun v74 =>
      zGet (s65 1) 1974 v74 fun v75 =>
      if (v75 : Int32) ≤ (1) then
        mR_goes_94 N s65 x1 v44 v44 (1)
      else
        zLet ((v44 : Int32) + (5)) fun v86 =>
        zGet (s65 1) 1974 v86 fun v87 =>
        zDiv v87 (2) fun v89 =>
        mR_goes_94 N s65 x1 v44 v44 v89
  else
    mR_goes_97 N σ x1
set_option maxRecDepth 20000 in
set_option maxHeartbeats 2000000 in
theorem cR_goes {adr : Nat → Nat} {cI cZ : ClassId} {l : Launch} {D : va_G} {N : Nat} {σ : ST} {x1 : Int32} (q : ST) (hf : mR_goes N σ x1 = some q) : zM l D (wdR adr cI cZ) yX8_goes cX8_goes 3 none ({ frames := 2, cells := 0, slots := 0, locals := 42 }) [.ref (adr 0), .int x1] σ (zu q) := by
  refine zM_of sfR_ok rfl (Nat.le_of_ble_eq_true rfl) [(0, .ref (adr 0)), (1, .int x1)] rfl (fun X hX1 hX2 B => ?_)
  have B : zC X 3 (wdR adr cI cZ) cX8_goes RX8 none { frames := 2, cells := 0, slots := 0, locals := 42 } := B
  refine z_aload_n B dX8_goes_0 0 rfl rfl ?_
  refine fR_g_row B dX8_goes_1 ?_
  refine z_iload_n B dX8_goes_4 1 rfl rfl ?_
  refine z_iconst B (3) dX8_goes_5 zc_iconst_3 ?_
  refine z_iadd B dX8_goes_6 hf (fun v6 hf => ?_)
  refine fR_l_row B dX8_goes_7 hf (fun v7 hf => ?_)
  refine z_iconst B (1) dX8_goes_8 zc_iconst_1 ?_
  refine z_icmp_ne B 97 dX8_goes_9 (by decide) hf (fun hf => ?_) (fun hf => ?_)
  · exact tR_goes_97 B N σ x1 hf
  · refine z_aload_n B dX8_goes_12 0 rfl rfl ?_
    refine fR_g_row B dX8_goes_13 ?_
    refine z_bipush B (16) dX8_goes_16 zc_bipush_16 ?_
    refine z_dup2 B dX8_goes_18 rfl rfl ?_
    refine fR_l_row B dX8_goes_19 hf (fun v19 hf => ?_)
    refine z_iconst B (1) dX8_goes_20 zc_iconst_1 ?_
    refine z_iadd B dX8_goes_21 hf (fun v21 hf => ?_)
    refine fR_s_row B dX8_goes_22 hf (fun s22 hf => ?_)
    refine z_aload_n B dX8_goes_23 0 rfl rfl ?_
    refine z_dup B dX8_goes_24 rfl ?_
    refine fR_g_wastedNow B dX8_goes_25 hf (fun v25 hf => ?_)
    refine z_iconst B (1) dX8_goes_28 zc_iconst_1 ?_
    refine z_iadd B dX8_goes_29 hf (fun v29 hf => ?_)
    refine fR_p_wastedNow B dX8_goes_30 hf (fun s30 hf => ?_)
    refine z_aload_n B dX8_goes_33 0 rfl rfl ?_
    refine z_aload_n B dX8_goes_34 0 rfl rfl ?_
    refine fR_g_row B dX8_goes_35 ?_
    refine z_iload_n B dX8_goes_38 1 rfl rfl ?_
    refine z_iconst B (4) dX8_goes_39 zc_iconst_4 ?_
    refine z_iadd B dX8_goes_40 hf (fun v40 hf => ?_)
    refine fR_l_row B dX8_goes_41 hf (fun v41 hf => ?_)
    refine z_iconst B (1) dX8_goes_42 zc_iconst_1 ?_
    refine z_isub B dX8_goes_43 hf (fun v43 hf => ?_)
    refine z_callVi B (As := [.int v43]) kcV_X8_95 dX8_goes_44 hf (fun q hq => cR_streamOf q hq) (wR_o (adr := adr) (cI := cI) (cZ := cZ)) rfl rfl rfl rfl (Nat.le_of_ble_eq_true rfl) rfl rfl ⟨Nat.le_of_ble_eq_true rfl, Nat.le_of_ble_eq_true rfl⟩ (fun v44 s44 hf => ?_)
    refine z_istore_n B [(2, .int v44), (0, .ref (adr 0)), (1, .int x1)] dX8_goes_47 rfl (Nat.le_of_ble_eq_true rfl) rfl ?_
    refine z_iload_n B dX8_goes_48 0 rfl rfl ?_
    refine z_iconst B (-1) dX8_goes_49 zc_iconst_m1 ?_
    refine z_icmp_eq B 97 dX8_goes_50 (by decide) hf (fun hf => ?_) (fun hf => ?_)
    · exact z_loc [1, 2] _ rfl (tR_goes_97 B N s44 x1 hf)
    · refine z_aload_n B dX8_goes_53 1 rfl rfl ?_
      refine fR_g_row B dX8_goes_54 ?_
      refine z_iload_n B dX8_goes_57 0 rfl rfl ?_
      refine z_bipush B (11) dX8_goes_58 zc_bipush_11 ?_
      refine z_iadd B dX8_goes_60 hf (fun v60 hf => ?_)
      refine z_dup2 B dX8_goes_61 rfl rfl ?_
      refine fR_l_row B dX8_goes_62 hf (fun v62 hf => ?_)
      refine z_iconst B (1) dX8_goes_63 zc_iconst_1 ?_
      refine z_iadd B dX8_goes_64 hf (fun v64 hf => ?_)
      refine fR_s_row B dX8_goes_65 hf (fun s65 hf => ?_)
      refine z_aload_n B dX8_goes_66 1 rfl rfl ?_
      refine z_iload_n B dX8_goes_67 0 rfl rfl ?_
      refine z_aload_n B dX8_goes_68 1 rfl rfl ?_
      refine fR_g_row B dX8_goes_69 ?_
      refine z_iload_n B dX8_goes_72 0 rfl rfl ?_
      refine z_iconst B (5) dX8_goes_73 zc_iconst_5 ?_
      refine z_iadd B dX8_goes_74 hf (fun v74 hf => ?_)
      refine fR_l_row B dX8_goes_75 hf (fun v75 hf => ?_)
      refine z_iconst B (1) dX8_goes_76 zc_iconst_1 ?_
      refine z_icmp_le B 93 dX8_goes_77 (by decide) hf (fun hf => ?_) (fun hf => ?_)
      · refine z_iconst B (1) dX8_goes_93 zc_iconst_1 ?_
        exact z_loc [1, 2, 0] _ rfl (tR_goes_94 B N s65 x1 v44 v44 (1) hf)
      · refine z_aload_n B dX8_goes_80 1 rfl rfl ?_
        refine fR_g_row B dX8_goes_81 ?_
        refine z_iload_n B dX8_goes_84 0 rfl rfl ?_
        refine z_iconst B (5) dX8_goes_85 zc_iconst_5 ?_
        refine z_iadd B dX8_goes_86 hf (fun v86 hf => ?_)
        refine fR_l_row B dX8_goes_87 hf (fun v87 hf => ?_)
        refine z_iconst B (2) dX8_goes_88 zc_iconst_2 ?_
        refine z_idiv B dX8_goes_89 hf (fun v89 hf => ?_)
        refine z_goto B 94 dX8_goes_90 (by decide) ?_
        exact z_loc [1, 2, 0] _ rfl (tR_goes_94 B N s65 x1 v44 v44 v89 hf)
theorem dX8_put_0 : decode cX8_put 0 = .ok (.aload_n 0, 1) := by decide +kernel
theorem dX8_put_1 : decode cX8_put 1 = .ok (.invokevirtual 110, 3) := by decide +kernel
theorem dX8_put_4 : decode cX8_put 4 = .ok (.aload_n 0, 1) := by decide +kernel
theorem dX8_put_5 : decode cX8_put 5 = .ok (.getfield 9, 3) := by decide +kernel
theorem dX8_put_8 : decode cX8_put 8 = .ok (.iconst 0, 1) := by decide +kernel
theorem dX8_put_9 : decode cX8_put 9 = .ok (.iaload, 1) := by decide +kernel
theorem dX8_put_10 : decode cX8_put 10 = .ok (.if_icmp .ne 12, 3) := by decide +kernel
theorem dX8_put_13 : decode cX8_put 13 = .ok (.aload_n 0, 1) := by decide +kernel
theorem dX8_put_14 : decode cX8_put 14 = .ok (.aload_n 0, 1) := by decide +kernel
theorem dX8_put_15 : decode cX8_put 15 = .ok (.iload_n 2, 1) := by decide +kernel
theorem dX8_put_16 : decode cX8_put 16 = .ok (.invokevirtual 113, 3) := by decide +kernel
theorem dX8_put_19 : decode cX8_put 19 = .ok (.invokevirtual 116, 3) := by decide +kernel
theorem dX8_put_22 : decode cX8_put 22 = .ok (.bipush 30, 2) := by decide +kernel
theorem dX8_put_24 : decode cX8_put 24 = .ok (.istore 4, 2) := by decide +kernel
theorem dX8_put_26 : decode cX8_put 26 = .ok (.aload_n 0, 1) := by decide +kernel
theorem dX8_put_27 : decode cX8_put 27 = .ok (.getfield 9, 3) := by decide +kernel
theorem dX8_put_30 : decode cX8_put 30 = .ok (.iload 4, 2) := by decide +kernel
theorem dX8_put_32 : decode cX8_put 32 = .ok (.iaload, 1) := by decide +kernel
theorem dX8_put_33 : decode cX8_put 33 = .ok (.ifCond .le 9, 3) := by decide +kernel
theorem dX8_put_36 : decode cX8_put 36 = .ok (.iinc 4 8, 3) := by decide +kernel
theorem dX8_put_39 : decode cX8_put 39 = .ok (.goto (-13), 3) := by decide +kernel
theorem dX8_put_42 : decode cX8_put 42 = .ok (.aload_n 0, 1) := by decide +kernel
theorem dX8_put_43 : decode cX8_put 43 = .ok (.getfield 9, 3) := by decide +kernel
theorem dX8_put_46 : decode cX8_put 46 = .ok (.iload 4, 2) := by decide +kernel
theorem dX8_put_48 : decode cX8_put 48 = .ok (.iload_n 1, 1) := by decide +kernel
theorem dX8_put_49 : decode cX8_put 49 = .ok (.iconst 1, 1) := by decide +kernel
theorem dX8_put_50 : decode cX8_put 50 = .ok (.iadd, 1) := by decide +kernel
theorem dX8_put_51 : decode cX8_put 51 = .ok (.iastore, 1) := by decide +kernel
theorem dX8_put_52 : decode cX8_put 52 = .ok (.aload_n 0, 1) := by decide +kernel
theorem dX8_put_53 : decode cX8_put 53 = .ok (.getfield 9, 3) := by decide +kernel
theorem dX8_put_56 : decode cX8_put 56 = .ok (.iload 4, 2) := by decide +kernel
theorem dX8_put_58 : decode cX8_put 58 = .ok (.iconst 1, 1) := by decide +kernel
theorem dX8_put_59 : decode cX8_put 59 = .ok (.iadd, 1) := by decide +kernel
theorem dX8_put_60 : decode cX8_put 60 = .ok (.aload_n 0, 1) := by decide +kernel
theorem dX8_put_61 : decode cX8_put 61 = .ok (.getfield 21, 3) := by decide +kernel
theorem dX8_put_64 : decode cX8_put 64 = .ok (.iload_n 1, 1) := by decide +kernel
theorem dX8_put_65 : decode cX8_put 65 = .ok (.iaload, 1) := by decide +kernel
theorem dX8_put_66 : decode cX8_put 66 = .ok (.iastore, 1) := by decide +kernel
theorem dX8_put_67 : decode cX8_put 67 = .ok (.aload_n 0, 1) := by decide +kernel
theorem dX8_put_68 : decode cX8_put 68 = .ok (.getfield 9, 3) := by decide +kernel
theorem dX8_put_71 : decode cX8_put 71 = .ok (.iload 4, 2) := by decide +kernel
theorem dX8_put_73 : decode cX8_put 73 = .ok (.iconst 2, 1) := by decide +kernel
theorem dX8_put_74 : decode cX8_put 74 = .ok (.iadd, 1) := by decide +kernel
theorem dX8_put_75 : decode cX8_put 75 = .ok (.aload_n 0, 1) := by decide +kernel
theorem dX8_put_76 : decode cX8_put 76 = .ok (.invokevirtual 120, 3) := by decide +kernel
theorem dX8_put_79 : decode cX8_put 79 = .ok (.iastore, 1) := by decide +kernel
theorem dX8_put_80 : decode cX8_put 80 = .ok (.aload_n 0, 1) := by decide +kernel
theorem dX8_put_81 : decode cX8_put 81 = .ok (.getfield 9, 3) := by decide +kernel
theorem dX8_put_84 : decode cX8_put 84 = .ok (.iload 4, 2) := by decide +kernel
theorem dX8_put_86 : decode cX8_put 86 = .ok (.iconst 3, 1) := by decide +kernel
theorem dX8_put_87 : decode cX8_put 87 = .ok (.iadd, 1) := by decide +kernel
theorem dX8_put_88 : decode cX8_put 88 = .ok (.iload_n 3, 1) := by decide +kernel
theorem dX8_put_89 : decode cX8_put 89 = .ok (.iconst (-1), 1) := by decide +kernel
theorem dX8_put_90 : decode cX8_put 90 = .ok (.if_icmp .ne 7, 3) := by decide +kernel
theorem dX8_put_93 : decode cX8_put 93 = .ok (.iconst 0, 1) := by decide +kernel
theorem dX8_put_94 : decode cX8_put 94 = .ok (.goto 4, 3) := by decide +kernel
theorem dX8_put_97 : decode cX8_put 97 = .ok (.iconst 1, 1) := by decide +kernel
theorem dX8_put_98 : decode cX8_put 98 = .ok (.iastore, 1) := by decide +kernel
theorem dX8_put_99 : decode cX8_put 99 = .ok (.aload_n 0, 1) := by decide +kernel
theorem dX8_put_100 : decode cX8_put 100 = .ok (.getfield 9, 3) := by decide +kernel
theorem dX8_put_103 : decode cX8_put 103 = .ok (.iload 4, 2) := by decide +kernel
theorem dX8_put_105 : decode cX8_put 105 = .ok (.iconst 4, 1) := by decide +kernel
theorem dX8_put_106 : decode cX8_put 106 = .ok (.iadd, 1) := by decide +kernel
theorem dX8_put_107 : decode cX8_put 107 = .ok (.iload_n 3, 1) := by decide +kernel
theorem dX8_put_108 : decode cX8_put 108 = .ok (.iconst 1, 1) := by decide +kernel
theorem dX8_put_109 : decode cX8_put 109 = .ok (.iadd, 1) := by decide +kernel
theorem dX8_put_110 : decode cX8_put 110 = .ok (.iastore, 1) := by decide +kernel
theorem dX8_put_111 : decode cX8_put 111 = .ok (.aload_n 0, 1) := by decide +kernel
theorem dX8_put_112 : decode cX8_put 112 = .ok (.getfield 9, 3) := by decide +kernel
theorem dX8_put_115 : decode cX8_put 115 = .ok (.iload 4, 2) := by decide +kernel
theorem dX8_put_117 : decode cX8_put 117 = .ok (.iconst 5, 1) := by decide +kernel
theorem dX8_put_118 : decode cX8_put 118 = .ok (.iadd, 1) := by decide +kernel
theorem dX8_put_119 : decode cX8_put 119 = .ok (.iload_n 3, 1) := by decide +kernel
theorem dX8_put_120 : decode cX8_put 120 = .ok (.iconst (-1), 1) := by decide +kernel
theorem dX8_put_121 : decode cX8_put 121 = .ok (.if_icmp .ne 7, 3) := by decide +kernel
theorem dX8_put_124 : decode cX8_put 124 = .ok (.iconst 1, 1) := by decide +kernel
theorem dX8_put_125 : decode cX8_put 125 = .ok (.goto 4, 3) := by decide +kernel
theorem dX8_put_128 : decode cX8_put 128 = .ok (.iconst 0, 1) := by decide +kernel
theorem dX8_put_129 : decode cX8_put 129 = .ok (.iastore, 1) := by decide +kernel
theorem dX8_put_130 : decode cX8_put 130 = .ok (.aload_n 0, 1) := by decide +kernel
theorem dX8_put_131 : decode cX8_put 131 = .ok (.getfield 9, 3) := by decide +kernel
theorem dX8_put_134 : decode cX8_put 134 = .ok (.iload 4, 2) := by decide +kernel
theorem dX8_put_136 : decode cX8_put 136 = .ok (.bipush 6, 2) := by decide +kernel
theorem dX8_put_138 : decode cX8_put 138 = .ok (.iadd, 1) := by decide +kernel
theorem dX8_put_139 : decode cX8_put 139 = .ok (.aload_n 0, 1) := by decide +kernel
theorem dX8_put_140 : decode cX8_put 140 = .ok (.getfield 9, 3) := by decide +kernel
theorem dX8_put_143 : decode cX8_put 143 = .ok (.bipush 10, 2) := by decide +kernel
theorem dX8_put_145 : decode cX8_put 145 = .ok (.iaload, 1) := by decide +kernel
theorem dX8_put_146 : decode cX8_put 146 = .ok (.iastore, 1) := by decide +kernel
theorem dX8_put_147 : decode cX8_put 147 = .ok (.aload_n 0, 1) := by decide +kernel
theorem dX8_put_148 : decode cX8_put 148 = .ok (.getfield 9, 3) := by decide +kernel
theorem dX8_put_151 : decode cX8_put 151 = .ok (.iload 4, 2) := by decide +kernel
theorem dX8_put_153 : decode cX8_put 153 = .ok (.bipush 7, 2) := by decide +kernel
theorem dX8_put_155 : decode cX8_put 155 = .ok (.iadd, 1) := by decide +kernel
theorem dX8_put_156 : decode cX8_put 156 = .ok (.iload_n 3, 1) := by decide +kernel
theorem dX8_put_157 : decode cX8_put 157 = .ok (.iconst (-1), 1) := by decide +kernel
theorem dX8_put_158 : decode cX8_put 158 = .ok (.if_icmp .ne 7, 3) := by decide +kernel
theorem dX8_put_161 : decode cX8_put 161 = .ok (.iconst 0, 1) := by decide +kernel
theorem dX8_put_162 : decode cX8_put 162 = .ok (.goto 4, 3) := by decide +kernel
theorem dX8_put_165 : decode cX8_put 165 = .ok (.iconst 1, 1) := by decide +kernel
theorem dX8_put_166 : decode cX8_put 166 = .ok (.iastore, 1) := by decide +kernel
theorem dX8_put_167 : decode cX8_put 167 = .ok (.return_, 1) := by decide +kernel
def mR_put_166 (N : Nat) (σ : ST) (x1 : Int32) (x2 : Int32) (x3 : Int32) (x4 : Int32) (k1 : Int32) (k2 : Int32) : Option (ST) :=
  zSet σ 1 1974 k1 k2 fun s166 =>
  some s166
set_option maxRecDepth 20000 in
set_option maxHeartbeats 2000000 in
theorem tR_put_166 {adr : Nat → Nat} {cI cZ : ClassId} {X : zX} {q : ST} (B : zC X 5 (wdR adr cI cZ) cX8_put RX8 none { frames := 3, cells := 0, slots := 0, locals := 68 }) (N : Nat) (σ : ST) (x1 : Int32) (x2 : Int32) (x3 : Int32) (x4 : Int32) (k1 : Int32) (k2 : Int32) (hf : mR_put_166 N σ x1 x2 x3 x4 k1 k2 = some q) : zJ X 5 (wdR adr cI cZ) (zu q) 166 [(0, .ref (adr 0)), (1, .int x1), (2, .int x2), (3, .int x3), (4, .int x4)] [.int k2, .int k1, .ref (adr 1)] σ := by
  refine fR_s_row B dX8_put_166 hf (fun s166 hf => ?_)
  exact z_return B dX8_put_167 hf
def mR_put_129 (N : Nat) (σ : ST) (x1 : Int32) (x2 : Int32) (x3 : Int32) (x4 : Int32) (k1 : Int32) (k2 : Int32) : Option (ST) :=
  zSet σ 1 1974 k1 k2 fun s129 =>
  zLet ((x4 : Int32) + (6)) fun v138 =>
  zGet (s129 1) 1974 (10) fun v145 =>
  zSet s129 1 1974 v138 v145 fun s146 =>
  zLet ((x4 : Int32) + (7)) fun v155 =>
  if (x3 : Int32) = (-1) then
    mR_put_166 N s146 x1 x2 x3 x4 v155 (0)
  else
    mR_put_166 N s146 x1 x2 x3 x4 v155 (1)
set_option maxRecDepth 20000 in
set_option maxHeartbeats 2000000 in
theorem tR_put_129 {adr : Nat → Nat} {cI cZ : ClassId} {X : zX} {q : ST} (B : zC X 5 (wdR adr cI cZ) cX8_put RX8 none { frames := 3, cells := 0, slots := 0, locals := 68 }) (N : Nat) (σ : ST) (x1 : Int32) (x2 : Int32) (x3 : Int32) (x4 : Int32) (k1 : Int32) (k2 : Int32) (hf : mR_put_129 N σ x1 x2 x3 x4 k1 k2 = some q) : zJ X 5 (wdR adr cI cZ) (zu q) 129 [(0, .ref (adr 0)), (1, .int x1), (2, .int x2), (3, .int x3), (4, .int x4)] [.int k2, .int k1, .ref (adr 1)] σ := by
  refine fR_s_row B dX8_put_129 hf (fun s129 hf => ?_)
  refine z_aload_n B dX8_put_130 0 rfl rfl ?_
  refine fR_g_row B dX8_put_131 ?_
  refine z_iload B dX8_put_134 4 rfl ?_
  refine z_bipush B (6) dX8_put_136 zc_bipush_6 ?_
  refine z_iadd B dX8_put_138 hf (fun v138 hf => ?_)
  refine z_aload_n B dX8_put_139 0 rfl rfl ?_
  refine fR_g_row B dX8_put_140 ?_
  refine z_bipush B (10) dX8_put_143 zc_bipush_10 ?_
  refine fR_l_row B dX8_put_145 hf (fun v145 hf => ?_)
  refine fR_s_row B dX8_put_146 hf (fun s146 hf => ?_)
  refine z_aload_n B dX8_put_147 0 rfl rfl ?_
  refine fR_g_row B dX8_put_148 ?_
  refine z_iload B dX8_put_151 4 rfl ?_
  refine z_bipush B (7) dX8_put_153 zc_bipush_7 ?_
  refine z_iadd B dX8_put_155 hf (fun v155 hf => ?_)
  refine z_iload_n B dX8_put_156 3 rfl rfl ?_
  refine z_iconst B (-1) dX8_put_157 zc_iconst_m1 ?_
  refine z_icmp_ne B 165 dX8_put_158 (by decide) hf (fun hf => ?_) (fun hf => ?_)
  · refine z_iconst B (1) dX8_put_165 zc_iconst_1 ?_
    exact tR_put_166 B N s146 x1 x2 x3 x4 v155 (1) hf
  · refine z_iconst B (0) dX8_put_161 zc_iconst_0 ?_
    refine z_goto B 166 dX8_put_162 (by decide) ?_
    exact tR_put_166 B N s146 x1 x2 x3 x4 v155 (0) hf
def mR_put_98 (N : Nat) (σ : ST) (x1 : Int32) (x2 : Int32) (x3 : Int32) (x4 : Int32) (k1 : Int32) (k2 : Int32) : Option (ST) :=
  zSet σ 1 1974 k1 k2 fun s98 =>
  zLet ((x4 : Int32) + (4)) fun v106 =>
  zLet ((x3 : Int32) + (1)) fun v109 =>
  zSet s98 1 1974 v106 v109 fun s110 =>
  zLet ((x4 : Int32) + (5)) fun v118 =>
  if (x3 : Int32) = (-1) then
    mR_put_129 N s110 x1 x2 x3 x4 v118 (1)
  else
    mR_put_129 N s110 x1 x2 x3 x4 v118 (0)
set_option maxRecDepth 20000 in
set_option maxHeartbeats 2000000 in
theorem tR_put_98 {adr : Nat → Nat} {cI cZ : ClassId} {X : zX} {q : ST} (B : zC X 5 (wdR adr cI cZ) cX8_put RX8 none { frames := 3, cells := 0, slots := 0, locals := 68 }) (N : Nat) (σ : ST) (x1 : Int32) (x2 : Int32) (x3 : Int32) (x4 : Int32) (k1 : Int32) (k2 : Int32) (hf : mR_put_98 N σ x1 x2 x3 x4 k1 k2 = some q) : zJ X 5 (wdR adr cI cZ) (zu q) 98 [(0, .ref (adr 0)), (1, .int x1), (2, .int x2), (3, .int x3), (4, .int x4)] [.int k2, .int k1, .ref (adr 1)] σ := by
  refine fR_s_row B dX8_put_98 hf (fun s98 hf => ?_)
  refine z_aload_n B dX8_put_99 0 rfl rfl ?_
  refine fR_g_row B dX8_put_100 ?_
  refine z_iload B dX8_put_103 4 rfl ?_
  refine z_iconst B (4) dX8_put_105 zc_iconst_4 ?_
  refine z_iadd B dX8_put_106 hf (fun v106 hf => ?_)
  refine z_iload_n B dX8_put_107 3 rfl rfl ?_
  refine z_iconst B (1) dX8_put_108 zc_iconst_1 ?_
  refine z_iadd B dX8_put_109 hf (fun v109 hf => ?_)
  refine fR_s_row B dX8_put_110 hf (fun s110 hf => ?_)
  refine z_aload_n B dX8_put_111 0 rfl rfl ?_
  refine fR_g_row B dX8_put_112 ?_
  refine z_iload B dX8_put_115 4 rfl ?_
  refine z_iconst B (5) dX8_put_117 zc_iconst_5 ?_
  refine z_iadd B dX8_put_118 hf (fun v118 hf => ?_)
  refine z_iload_n B dX8_put_119 3 rfl rfl ?_
  refine z_iconst B (-1) dX8_put_120 zc_iconst_m1 ?_
  refine z_icmp_ne B 128 dX8_put_121 (by decide) hf (fun hf => ?_) (fun hf => ?_)
  · refine z_iconst B (0) dX8_put_128 zc_iconst_0 ?_
    exact tR_put_129 B N s110 x1 x2 x3 x4 v118 (0) hf
  · refine z_iconst B (1) dX8_put_124 zc_iconst_1 ?_
    refine z_goto B 129 dX8_put_125 (by decide) ?_
    exact tR_put_129 B N s110 x1 x2 x3 x4 v118 (1) hf
def mR_put_B26 (N : Nat) (hd26 : ST → Int32 → Int32 → Int32 → Int32 → Option (ST)) (σ : ST) (x1 : Int32) (x2 : Int32) (x3 : Int32) (x4 : Int32) : Option (ST) :=
  zGet (σ 1) 1974 x4 fun v32 =>
  if (v32 : Int32) ≤ 0 then
    zLet ((x1 : Int32) + (1)) fun v50 =>
    zSet σ 1 1974 x4 v50 fun s51 =>
    zLet ((x4 : Int32) + (1)) fun v59 =>
    zGet (s51 4) 10000 x1 fun v65 =>
    zSet s51 1 1974 v59 v65 fun s66 =>
    zLet ((x4 : Int32) + (2)) fun v74 =>
    zCall (mR_stamp N s66) fun v76 s76 =>
    zSet s76 1 1974 v74 v76 fun s79 =>
    zLet ((x4 : Int32) + (3)) fun v87 =>
    if (x3 : Int32) = (-1) then
      mR_put_98 N s79 x1 x2 x3 x4 v87 (0)
    else
      mR_put_98 N s79 x1 x2 x3 x4 v87 (1)
  else
    zLet (x4 + (8)) fun v36 =>
    hd26 σ x1 x2 x3 v36
def mR_put_26 (N : Nat) : ST → Int32 → Int32 → Int32 → Int32 → Option (ST) := zIt (mR_put_B26 N) (fun _ _ _ _ _ => none) N
set_option maxRecDepth 20000 in
set_option maxHeartbeats 2000000 in
theorem tR_put_26 {adr : Nat → Nat} {cI cZ : ClassId} {X : zX} {q : ST} (B : zC X 5 (wdR adr cI cZ) cX8_put RX8 none { frames := 3, cells := 0, slots := 0, locals := 68 }) (N : Nat) : ∀ (σ : ST) (x1 : Int32) (x2 : Int32) (x3 : Int32) (x4 : Int32), mR_put_26 N σ x1 x2 x3 x4 = some q → zJ X 5 (wdR adr cI cZ) (zu q) 26 [(0, .ref (adr 0)), (1, .int x1), (2, .int x2), (3, .int x3), (4, .int x4)] [] σ := by
  refine zIt_ind (P := fun (hd : ST → Int32 → Int32 → Int32 → Int32 → Option (ST)) => ∀ (σ : ST) (x1 : Int32) (x2 : Int32) (x3 : Int32) (x4 : Int32), hd σ x1 x2 x3 x4 = some q → zJ X 5 (wdR adr cI cZ) (zu q) 26 [(0, .ref (adr 0)), (1, .int x1), (2, .int x2), (3, .int x3), (4, .int x4)] [] σ) (fun _ _ _ _ _ hf => by cases hf) (fun hd26 hh26 => ?_) N
  intro σ x1 x2 x3 x4 hf
  refine z_aload_n B dX8_put_26 0 rfl rfl ?_
  refine fR_g_row B dX8_put_27 ?_
  refine z_iload B dX8_put_30 4 rfl ?_
  refine fR_l_row B dX8_put_32 hf (fun v32 hf => ?_)
  refine z_if_le B 42 dX8_put_33 (by decide) hf (fun hf => ?_) (fun hf => ?_)
  · refine z_aload_n B dX8_put_42 0 rfl rfl ?_
    refine fR_g_row B dX8_put_43 ?_
    refine z_iload B dX8_put_46 4 rfl ?_
    refine z_iload_n B dX8_put_48 1 rfl rfl ?_
    refine z_iconst B (1) dX8_put_49 zc_iconst_1 ?_
    refine z_iadd B dX8_put_50 hf (fun v50 hf => ?_)
    refine fR_s_row B dX8_put_51 hf (fun s51 hf => ?_)
    refine z_aload_n B dX8_put_52 0 rfl rfl ?_
    refine fR_g_row B dX8_put_53 ?_
    refine z_iload B dX8_put_56 4 rfl ?_
    refine z_iconst B (1) dX8_put_58 zc_iconst_1 ?_
    refine z_iadd B dX8_put_59 hf (fun v59 hf => ?_)
    refine z_aload_n B dX8_put_60 0 rfl rfl ?_
    refine fR_g_disk B dX8_put_61 ?_
    refine z_iload_n B dX8_put_64 1 rfl rfl ?_
    refine fR_l_disk B dX8_put_65 hf (fun v65 hf => ?_)
    refine fR_s_row B dX8_put_66 hf (fun s66 hf => ?_)
    refine z_aload_n B dX8_put_67 0 rfl rfl ?_
    refine fR_g_row B dX8_put_68 ?_
    refine z_iload B dX8_put_71 4 rfl ?_
    refine z_iconst B (2) dX8_put_73 zc_iconst_2 ?_
    refine z_iadd B dX8_put_74 hf (fun v74 hf => ?_)
    refine z_aload_n B dX8_put_75 0 rfl rfl ?_
    refine z_callVi B (As := []) kcV_X8_120 dX8_put_76 hf (fun q hq => cR_stamp q hq) (wR_o (adr := adr) (cI := cI) (cZ := cZ)) rfl rfl rfl rfl (Nat.le_of_ble_eq_true rfl) rfl rfl ⟨Nat.le_of_ble_eq_true rfl, Nat.le_of_ble_eq_true rfl⟩ (fun v76 s76 hf => ?_)
    refine fR_s_row B dX8_put_79 hf (fun s79 hf => ?_)
    refine z_aload_n B dX8_put_80 0 rfl rfl ?_
    refine fR_g_row B dX8_put_81 ?_
    refine z_iload B dX8_put_84 4 rfl ?_
    refine z_iconst B (3) dX8_put_86 zc_iconst_3 ?_
    refine z_iadd B dX8_put_87 hf (fun v87 hf => ?_)
    refine z_iload_n B dX8_put_88 3 rfl rfl ?_
    refine z_iconst B (-1) dX8_put_89 zc_iconst_m1 ?_
    refine z_icmp_ne B 97 dX8_put_90 (by decide) hf (fun hf => ?_) (fun hf => ?_)
    · refine z_iconst B (1) dX8_put_97 zc_iconst_1 ?_
      exact tR_put_98 B N s79 x1 x2 x3 x4 v87 (1) hf
    · refine z_iconst B (0) dX8_put_93 zc_iconst_0 ?_
      refine z_goto B 98 dX8_put_94 (by decide) ?_
      exact tR_put_98 B N s79 x1 x2 x3 x4 v87 (0) hf
  · refine z_iinc B (8) 4 (fun v36 => [(4, .int v36), (0, .ref (adr 0)), (1, .int x1), (2, .int x2), (3, .int x3)]) dX8_put_36 hf zc_iconst_8 rfl (Nat.le_of_ble_eq_true rfl) (fun _ => rfl) (fun v36 hf => ?_)
    refine z_goto B 26 dX8_put_39 (by decide) ?_
    exact z_loc [1, 2, 3, 4, 0] _ rfl (hh26 σ x1 x2 x3 v36 hf)
def mR_put_22 (N : Nat) (σ : ST) (x1 : Int32) (x2 : Int32) (x3 : Int32) : Option (ST) :=
  mR_put_26 N σ x1 x2 x3 (30)
set_option maxRecDepth 20000 in
set_option maxHeartbeats 2000000 in
theorem tR_put_22 {adr : Nat → Nat} {cI cZ : ClassId} {X : zX} {q : ST} (B : zC X 5 (wdR adr cI cZ) cX8_put RX8 none { frames := 3, cells := 0, slots := 0, locals := 68 }) (N : Nat) (σ : ST) (x1 : Int32) (x2 : Int32) (x3 : Int32) (hf : mR_put_22 N σ x1 x2 x3 = some q) : zJ X 5 (wdR adr cI cZ) (zu q) 22 [(0, .ref (adr 0)), (1, .int x1), (2, .int x2), (3, .int x3)] [] σ := by
  refine z_bipush B (30) dX8_put_22 zc_bipush_30 ?_
  refine z_istore B [(4, .int (30)), (0, .ref (adr 0)), (1, .int x1), (2, .int x2), (3, .int x3)] dX8_put_24 (Nat.le_of_ble_eq_true rfl) rfl ?_
  exact z_loc [1, 2, 3, 4, 0] _ rfl (tR_put_26 B N σ x1 x2 x3 (30) hf)
def mR_put (N : Nat) (σ : ST) (x1 : Int32) (x2 : Int32) (x3 : Int32) : Option (ST) :=
  zCall (mR_many N σ) fun v1 s1 =>
  zGet (s1 1) 1974 (0) fun v9 =>
  if (v1 : Int32) = v9 then
    zCall (mR_whoGoes N s1 x2) fun v16 s16 =>
    zCallu (mR_goes N s16 v16) fun s19 =>
    mR_put_22 N s19 x1 x2 x3
  else
    mR_put_22 N s1 x1 x2 x3
set_option maxRecDepth 20000 in
set_option maxHeartbeats 2000000 in
theorem cR_put {adr : Nat → Nat} {cI cZ : ClassId} {l : Launch} {D : va_G} {N : Nat} {σ : ST} {x1 : Int32} {x2 : Int32} {x3 : Int32} (q : ST) (hf : mR_put N σ x1 x2 x3 = some q) : zM l D (wdR adr cI cZ) yX8_put cX8_put 5 none ({ frames := 3, cells := 0, slots := 0, locals := 68 }) [.ref (adr 0), .int x1, .int x2, .int x3] σ (zu q) := by
  refine zM_of sfR_ok rfl (Nat.le_of_ble_eq_true rfl) [(0, .ref (adr 0)), (1, .int x1), (2, .int x2), (3, .int x3)] rfl (fun X hX1 hX2 B => ?_)
  have B : zC X 5 (wdR adr cI cZ) cX8_put RX8 none { frames := 3, cells := 0, slots := 0, locals := 68 } := B
  refine z_aload_n B dX8_put_0 0 rfl rfl ?_
  refine z_callVi B (As := []) kcV_X8_110 dX8_put_1 hf (fun q hq => cR_many q hq) (wR_o (adr := adr) (cI := cI) (cZ := cZ)) rfl rfl rfl rfl (Nat.le_of_ble_eq_true rfl) rfl rfl ⟨Nat.le_of_ble_eq_true rfl, Nat.le_of_ble_eq_true rfl⟩ (fun v1 s1 hf => ?_)
  refine z_aload_n B dX8_put_4 0 rfl rfl ?_
  refine fR_g_row B dX8_put_5 ?_
  refine z_iconst B (0) dX8_put_8 zc_iconst_0 ?_
  refine fR_l_row B dX8_put_9 hf (fun v9 hf => ?_)
  refine z_icmp_ne B 22 dX8_put_10 (by decide) hf (fun hf => ?_) (fun hf => ?_)
  · exact tR_put_22 B N s1 x1 x2 x3 hf
  · refine z_aload_n B dX8_put_13 0 rfl rfl ?_
    refine z_aload_n B dX8_put_14 0 rfl rfl ?_
    refine z_iload_n B dX8_put_15 2 rfl rfl ?_
    refine z_callVi B (As := [.int x2]) kcV_X8_113 dX8_put_16 hf (fun q hq => cR_whoGoes q hq) (wR_o (adr := adr) (cI := cI) (cZ := cZ)) rfl rfl rfl rfl (Nat.le_of_ble_eq_true rfl) rfl rfl ⟨Nat.le_of_ble_eq_true rfl, Nat.le_of_ble_eq_true rfl⟩ (fun v16 s16 hf => ?_)
    refine z_callVu B (As := [.int v16]) kcV_X8_116 dX8_put_19 hf (fun q hq => cR_goes q hq) (wR_o (adr := adr) (cI := cI) (cZ := cZ)) rfl rfl rfl rfl (Nat.le_of_ble_eq_true rfl) rfl rfl ⟨Nat.le_of_ble_eq_true rfl, Nat.le_of_ble_eq_true rfl⟩ (fun s19 hf => ?_)
    exact tR_put_22 B N s19 x1 x2 x3 hf
theorem dX8_fetchAhead_0 : decode cX8_fetchAhead 0 = .ok (.aload_n 0, 1) := by decide +kernel
theorem dX8_fetchAhead_1 : decode cX8_fetchAhead 1 = .ok (.iload_n 1, 1) := by decide +kernel
theorem dX8_fetchAhead_2 : decode cX8_fetchAhead 2 = .ok (.iload_n 2, 1) := by decide +kernel
theorem dX8_fetchAhead_3 : decode cX8_fetchAhead 3 = .ok (.aload_n 0, 1) := by decide +kernel
theorem dX8_fetchAhead_4 : decode cX8_fetchAhead 4 = .ok (.getfield 9, 3) := by decide +kernel
theorem dX8_fetchAhead_7 : decode cX8_fetchAhead 7 = .ok (.iload_n 3, 1) := by decide +kernel
theorem dX8_fetchAhead_8 : decode cX8_fetchAhead 8 = .ok (.iconst 1, 1) := by decide +kernel
theorem dX8_fetchAhead_9 : decode cX8_fetchAhead 9 = .ok (.iadd, 1) := by decide +kernel
theorem dX8_fetchAhead_10 : decode cX8_fetchAhead 10 = .ok (.iaload, 1) := by decide +kernel
theorem dX8_fetchAhead_11 : decode cX8_fetchAhead 11 = .ok (.invokevirtual 123, 3) := by decide +kernel
theorem dX8_fetchAhead_14 : decode cX8_fetchAhead 14 = .ok (.aload_n 0, 1) := by decide +kernel
theorem dX8_fetchAhead_15 : decode cX8_fetchAhead 15 = .ok (.getfield 9, 3) := by decide +kernel
theorem dX8_fetchAhead_18 : decode cX8_fetchAhead 18 = .ok (.bipush 15, 2) := by decide +kernel
theorem dX8_fetchAhead_20 : decode cX8_fetchAhead 20 = .ok (.dup2, 1) := by decide +kernel
theorem dX8_fetchAhead_21 : decode cX8_fetchAhead 21 = .ok (.iaload, 1) := by decide +kernel
theorem dX8_fetchAhead_22 : decode cX8_fetchAhead 22 = .ok (.iconst 1, 1) := by decide +kernel
theorem dX8_fetchAhead_23 : decode cX8_fetchAhead 23 = .ok (.iadd, 1) := by decide +kernel
theorem dX8_fetchAhead_24 : decode cX8_fetchAhead 24 = .ok (.iastore, 1) := by decide +kernel
theorem dX8_fetchAhead_25 : decode cX8_fetchAhead 25 = .ok (.aload_n 0, 1) := by decide +kernel
theorem dX8_fetchAhead_26 : decode cX8_fetchAhead 26 = .ok (.getfield 9, 3) := by decide +kernel
theorem dX8_fetchAhead_29 : decode cX8_fetchAhead 29 = .ok (.iload_n 3, 1) := by decide +kernel
theorem dX8_fetchAhead_30 : decode cX8_fetchAhead 30 = .ok (.bipush 9, 2) := by decide +kernel
theorem dX8_fetchAhead_32 : decode cX8_fetchAhead 32 = .ok (.iadd, 1) := by decide +kernel
theorem dX8_fetchAhead_33 : decode cX8_fetchAhead 33 = .ok (.dup2, 1) := by decide +kernel
theorem dX8_fetchAhead_34 : decode cX8_fetchAhead 34 = .ok (.iaload, 1) := by decide +kernel
theorem dX8_fetchAhead_35 : decode cX8_fetchAhead 35 = .ok (.iconst 1, 1) := by decide +kernel
theorem dX8_fetchAhead_36 : decode cX8_fetchAhead 36 = .ok (.iadd, 1) := by decide +kernel
theorem dX8_fetchAhead_37 : decode cX8_fetchAhead 37 = .ok (.iastore, 1) := by decide +kernel
theorem dX8_fetchAhead_38 : decode cX8_fetchAhead 38 = .ok (.aload_n 0, 1) := by decide +kernel
theorem dX8_fetchAhead_39 : decode cX8_fetchAhead 39 = .ok (.getfield 127, 3) := by decide +kernel
theorem dX8_fetchAhead_42 : decode cX8_fetchAhead 42 = .ok (.bipush 64, 2) := by decide +kernel
theorem dX8_fetchAhead_44 : decode cX8_fetchAhead 44 = .ok (.if_icmp .ge 23, 3) := by decide +kernel
theorem dX8_fetchAhead_47 : decode cX8_fetchAhead 47 = .ok (.aload_n 0, 1) := by decide +kernel
theorem dX8_fetchAhead_48 : decode cX8_fetchAhead 48 = .ok (.getfield 43, 3) := by decide +kernel
theorem dX8_fetchAhead_51 : decode cX8_fetchAhead 51 = .ok (.aload_n 0, 1) := by decide +kernel
theorem dX8_fetchAhead_52 : decode cX8_fetchAhead 52 = .ok (.getfield 127, 3) := by decide +kernel
theorem dX8_fetchAhead_55 : decode cX8_fetchAhead 55 = .ok (.iload_n 1, 1) := by decide +kernel
theorem dX8_fetchAhead_56 : decode cX8_fetchAhead 56 = .ok (.iastore, 1) := by decide +kernel
theorem dX8_fetchAhead_57 : decode cX8_fetchAhead 57 = .ok (.aload_n 0, 1) := by decide +kernel
theorem dX8_fetchAhead_58 : decode cX8_fetchAhead 58 = .ok (.dup, 1) := by decide +kernel
theorem dX8_fetchAhead_59 : decode cX8_fetchAhead 59 = .ok (.getfield 127, 3) := by decide +kernel
theorem dX8_fetchAhead_62 : decode cX8_fetchAhead 62 = .ok (.iconst 1, 1) := by decide +kernel
theorem dX8_fetchAhead_63 : decode cX8_fetchAhead 63 = .ok (.iadd, 1) := by decide +kernel
theorem dX8_fetchAhead_64 : decode cX8_fetchAhead 64 = .ok (.putfield 127, 3) := by decide +kernel
theorem dX8_fetchAhead_67 : decode cX8_fetchAhead 67 = .ok (.return_, 1) := by decide +kernel
def mR_fetchAhead_67 (N : Nat) (σ : ST) (x1 : Int32) (x2 : Int32) (x3 : Int32) : Option (ST) :=
  some σ
set_option maxRecDepth 20000 in
set_option maxHeartbeats 2000000 in
theorem tR_fetchAhead_67 {adr : Nat → Nat} {cI cZ : ClassId} {X : zX} {q : ST} (B : zC X 4 (wdR adr cI cZ) cX8_fetchAhead RX8 none { frames := 4, cells := 0, slots := 0, locals := 92 }) (N : Nat) (σ : ST) (x1 : Int32) (x2 : Int32) (x3 : Int32) (hf : mR_fetchAhead_67 N σ x1 x2 x3 = some q) : zJ X 4 (wdR adr cI cZ) (zu q) 67 [(0, .ref (adr 0)), (1, .int x1), (2, .int x2), (3, .int x3)] [] σ := by
  exact z_return B dX8_fetchAhead_67 hf
def mR_fetchAhead (N : Nat) (σ : ST) (x1 : Int32) (x2 : Int32) (x3 : Int32) : Option (ST) :=
  zLet ((x3 : Int32) + (1)) fun v9 =>
  zGet (σ 1) 1974 v9 fun v10 =>
  zCallu (mR_put N σ x1 x2 v10) fun s11 =>
  zGet (s11 1) 1974 (15) fun v21 =>
  zLet ((v21 : Int32) + (1)) fun v23 =>
  zSet s11 1 1974 (15) v23 fun s24 =>
  zLet ((x3 : Int32) + (9)) fun v32 =>
  zGet (s24 1) 1974 v32 fun v34 =>
  zLet ((v34 : Int32) + (1)) fun v36 =>
  zSet s24 1 1974 v32 v36 fun s37 =>
  zLet (s37 0 13) fun v39 =>
  if ((64) : Int32) ≤ v39 then
    mR_fetchAhead_67 N s37 x1 x2 x3
  else
    zLet (s37 0 13) fun v52 =>
    zSet s37 14 64 v52 x1 fun s56 =>
    zLet (s56 0 13) fun v59 =>
    zLet ((v59 : Int32) + (1)) fun v63 =>
    zLet (zUp s56 0 13 v63) fun s64 =>
    mR_fetchAhead_67 N s64 x1 x2 x3
set_option maxRecDepth 20000 in
set_option maxHeartbeats 2000000 in
theorem cR_fetchAhead {adr : Nat → Nat} {cI cZ : ClassId} {l : Launch} {D : va_G} {N : Nat} {σ : ST} {x1 : Int32} {x2 : Int32} {x3 : Int32} (q : ST) (hf : mR_fetchAhead N σ x1 x2 x3 = some q) : zM l D (wdR adr cI cZ) yX8_fetchAhead cX8_fetchAhead 4 none ({ frames := 4, cells := 0, slots := 0, locals := 92 }) [.ref (adr 0), .int x1, .int x2, .int x3] σ (zu q) := by
  refine zM_of sfR_ok rfl (Nat.le_of_ble_eq_true rfl) [(0, .ref (adr 0)), (1, .int x1), (2, .int x2), (3, .int x3)] rfl (fun X hX1 hX2 B => ?_)
  have B : zC X 4 (wdR adr cI cZ) cX8_fetchAhead RX8 none { frames := 4, cells := 0, slots := 0, locals := 92 } := B
  refine z_aload_n B dX8_fetchAhead_0 0 rfl rfl ?_
  refine z_iload_n B dX8_fetchAhead_1 1 rfl rfl ?_
  refine z_iload_n B dX8_fetchAhead_2 2 rfl rfl ?_
  refine z_aload_n B dX8_fetchAhead_3 0 rfl rfl ?_
  refine fR_g_row B dX8_fetchAhead_4 ?_
  refine z_iload_n B dX8_fetchAhead_7 3 rfl rfl ?_
  refine z_iconst B (1) dX8_fetchAhead_8 zc_iconst_1 ?_
  refine z_iadd B dX8_fetchAhead_9 hf (fun v9 hf => ?_)
  refine fR_l_row B dX8_fetchAhead_10 hf (fun v10 hf => ?_)
  refine z_callVu B (As := [.int x1, .int x2, .int v10]) kcV_X8_123 dX8_fetchAhead_11 hf (fun q hq => cR_put q hq) (wR_o (adr := adr) (cI := cI) (cZ := cZ)) rfl rfl rfl rfl (Nat.le_of_ble_eq_true rfl) rfl rfl ⟨Nat.le_of_ble_eq_true rfl, Nat.le_of_ble_eq_true rfl⟩ (fun s11 hf => ?_)
  refine z_aload_n B dX8_fetchAhead_14 0 rfl rfl ?_
  refine fR_g_row B dX8_fetchAhead_15 ?_
  refine z_bipush B (15) dX8_fetchAhead_18 zc_bipush_15 ?_
  refine z_dup2 B dX8_fetchAhead_20 rfl rfl ?_
  refine fR_l_row B dX8_fetchAhead_21 hf (fun v21 hf => ?_)
  refine z_iconst B (1) dX8_fetchAhead_22 zc_iconst_1 ?_
  refine z_iadd B dX8_fetchAhead_23 hf (fun v23 hf => ?_)
  refine fR_s_row B dX8_fetchAhead_24 hf (fun s24 hf => ?_)
  refine z_aload_n B dX8_fetchAhead_25 0 rfl rfl ?_
  refine fR_g_row B dX8_fetchAhead_26 ?_
  refine z_iload_n B dX8_fetchAhead_29 3 rfl rfl ?_
  refine z_bipush B (9) dX8_fetchAhead_30 zc_bipush_9 ?_
  refine z_iadd B dX8_fetchAhead_32 hf (fun v32 hf => ?_)
  refine z_dup2 B dX8_fetchAhead_33 rfl rfl ?_
  refine fR_l_row B dX8_fetchAhead_34 hf (fun v34 hf => ?_)
  refine z_iconst B (1) dX8_fetchAhead_35 zc_iconst_1 ?_
  refine z_iadd B dX8_fetchAhead_36 hf (fun v36 hf => ?_)
  refine fR_s_row B dX8_fetchAhead_37 hf (fun s37 hf => ?_)
  refine z_aload_n B dX8_fetchAhead_38 0 rfl rfl ?_
  refine fR_g_plannedMany B dX8_fetchAhead_39 hf (fun v39 hf => ?_)
  refine z_bipush B (64) dX8_fetchAhead_42 zc_bipush_64 ?_
  refine z_icmp_ge B 67 dX8_fetchAhead_44 (by decide) hf (fun hf => ?_) (fun hf => ?_)
  · exact tR_fetchAhead_67 B N s37 x1 x2 x3 hf
  · refine z_aload_n B dX8_fetchAhead_47 0 rfl rfl ?_
    refine fR_g_planned B dX8_fetchAhead_48 ?_
    refine z_aload_n B dX8_fetchAhead_51 0 rfl rfl ?_
    refine fR_g_plannedMany B dX8_fetchAhead_52 hf (fun v52 hf => ?_)
    refine z_iload_n B dX8_fetchAhead_55 1 rfl rfl ?_
    refine fR_s_planned B dX8_fetchAhead_56 hf (fun s56 hf => ?_)
    refine z_aload_n B dX8_fetchAhead_57 0 rfl rfl ?_
    refine z_dup B dX8_fetchAhead_58 rfl ?_
    refine fR_g_plannedMany B dX8_fetchAhead_59 hf (fun v59 hf => ?_)
    refine z_iconst B (1) dX8_fetchAhead_62 zc_iconst_1 ?_
    refine z_iadd B dX8_fetchAhead_63 hf (fun v63 hf => ?_)
    refine fR_p_plannedMany B dX8_fetchAhead_64 hf (fun s64 hf => ?_)
    exact tR_fetchAhead_67 B N s64 x1 x2 x3 hf
theorem dX8_batch_0 : decode cX8_batch 0 = .ok (.aload_n 0, 1) := by decide +kernel
theorem dX8_batch_1 : decode cX8_batch 1 = .ok (.getfield 9, 3) := by decide +kernel
theorem dX8_batch_4 : decode cX8_batch 4 = .ok (.bipush 19, 2) := by decide +kernel
theorem dX8_batch_6 : decode cX8_batch 6 = .ok (.dup2, 1) := by decide +kernel
theorem dX8_batch_7 : decode cX8_batch 7 = .ok (.iaload, 1) := by decide +kernel
theorem dX8_batch_8 : decode cX8_batch 8 = .ok (.iconst 1, 1) := by decide +kernel
theorem dX8_batch_9 : decode cX8_batch 9 = .ok (.iadd, 1) := by decide +kernel
theorem dX8_batch_10 : decode cX8_batch 10 = .ok (.iastore, 1) := by decide +kernel
theorem dX8_batch_11 : decode cX8_batch 11 = .ok (.aload_n 0, 1) := by decide +kernel
theorem dX8_batch_12 : decode cX8_batch 12 = .ok (.getfield 9, 3) := by decide +kernel
theorem dX8_batch_15 : decode cX8_batch 15 = .ok (.iload_n 1, 1) := by decide +kernel
theorem dX8_batch_16 : decode cX8_batch 16 = .ok (.bipush 7, 2) := by decide +kernel
theorem dX8_batch_18 : decode cX8_batch 18 = .ok (.iadd, 1) := by decide +kernel
theorem dX8_batch_19 : decode cX8_batch 19 = .ok (.iconst (-1), 1) := by decide +kernel
theorem dX8_batch_20 : decode cX8_batch 20 = .ok (.iastore, 1) := by decide +kernel
theorem dX8_batch_21 : decode cX8_batch 21 = .ok (.ldc2_w 130, 3) := by decide +kernel
theorem dX8_batch_24 : decode cX8_batch 24 = .ok (.aload_n 0, 1) := by decide +kernel
theorem dX8_batch_25 : decode cX8_batch 25 = .ok (.getfield 9, 3) := by decide +kernel
theorem dX8_batch_28 : decode cX8_batch 28 = .ok (.bipush 16, 2) := by decide +kernel
theorem dX8_batch_30 : decode cX8_batch 30 = .ok (.iaload, 1) := by decide +kernel
theorem dX8_batch_31 : decode cX8_batch 31 = .ok (.i2l, 1) := by decide +kernel
theorem dX8_batch_32 : decode cX8_batch 32 = .ok (.lmul, 1) := by decide +kernel
theorem dX8_batch_33 : decode cX8_batch 33 = .ok (.aload_n 0, 1) := by decide +kernel
theorem dX8_batch_34 : decode cX8_batch 34 = .ok (.getfield 9, 3) := by decide +kernel
theorem dX8_batch_37 : decode cX8_batch 37 = .ok (.iconst 5, 1) := by decide +kernel
theorem dX8_batch_38 : decode cX8_batch 38 = .ok (.iaload, 1) := by decide +kernel
theorem dX8_batch_39 : decode cX8_batch 39 = .ok (.i2l, 1) := by decide +kernel
theorem dX8_batch_40 : decode cX8_batch 40 = .ok (.aload_n 0, 1) := by decide +kernel
theorem dX8_batch_41 : decode cX8_batch 41 = .ok (.getfield 9, 3) := by decide +kernel
theorem dX8_batch_44 : decode cX8_batch 44 = .ok (.bipush 15, 2) := by decide +kernel
theorem dX8_batch_46 : decode cX8_batch 46 = .ok (.iaload, 1) := by decide +kernel
theorem dX8_batch_47 : decode cX8_batch 47 = .ok (.i2l, 1) := by decide +kernel
theorem dX8_batch_48 : decode cX8_batch 48 = .ok (.lmul, 1) := by decide +kernel
theorem dX8_batch_49 : decode cX8_batch 49 = .ok (.lcmp, 1) := by decide +kernel
theorem dX8_batch_50 : decode cX8_batch 50 = .ok (.ifCond .le 15, 3) := by decide +kernel
theorem dX8_batch_53 : decode cX8_batch 53 = .ok (.aload_n 0, 1) := by decide +kernel
theorem dX8_batch_54 : decode cX8_batch 54 = .ok (.getfield 9, 3) := by decide +kernel
theorem dX8_batch_57 : decode cX8_batch 57 = .ok (.bipush 18, 2) := by decide +kernel
theorem dX8_batch_59 : decode cX8_batch 59 = .ok (.dup2, 1) := by decide +kernel
theorem dX8_batch_60 : decode cX8_batch 60 = .ok (.iaload, 1) := by decide +kernel
theorem dX8_batch_61 : decode cX8_batch 61 = .ok (.iconst 1, 1) := by decide +kernel
theorem dX8_batch_62 : decode cX8_batch 62 = .ok (.iadd, 1) := by decide +kernel
theorem dX8_batch_63 : decode cX8_batch 63 = .ok (.iastore, 1) := by decide +kernel
theorem dX8_batch_64 : decode cX8_batch 64 = .ok (.return_, 1) := by decide +kernel
theorem dX8_batch_65 : decode cX8_batch 65 = .ok (.aload_n 0, 1) := by decide +kernel
theorem dX8_batch_66 : decode cX8_batch 66 = .ok (.getfield 9, 3) := by decide +kernel
theorem dX8_batch_69 : decode cX8_batch 69 = .ok (.iload_n 1, 1) := by decide +kernel
theorem dX8_batch_70 : decode cX8_batch 70 = .ok (.iconst 5, 1) := by decide +kernel
theorem dX8_batch_71 : decode cX8_batch 71 = .ok (.iadd, 1) := by decide +kernel
theorem dX8_batch_72 : decode cX8_batch 72 = .ok (.iaload, 1) := by decide +kernel
theorem dX8_batch_73 : decode cX8_batch 73 = .ok (.istore_n 3, 1) := by decide +kernel
theorem dX8_batch_74 : decode cX8_batch 74 = .ok (.iconst 0, 1) := by decide +kernel
theorem dX8_batch_75 : decode cX8_batch 75 = .ok (.istore 4, 2) := by decide +kernel
theorem dX8_batch_77 : decode cX8_batch 77 = .ok (.iload 4, 2) := by decide +kernel
theorem dX8_batch_79 : decode cX8_batch 79 = .ok (.iload_n 3, 1) := by decide +kernel
theorem dX8_batch_80 : decode cX8_batch 80 = .ok (.if_icmp .ge 155, 3) := by decide +kernel
theorem dX8_batch_83 : decode cX8_batch 83 = .ok (.aload_n 0, 1) := by decide +kernel
theorem dX8_batch_84 : decode cX8_batch 84 = .ok (.getfield 9, 3) := by decide +kernel
theorem dX8_batch_87 : decode cX8_batch 87 = .ok (.iload_n 1, 1) := by decide +kernel
theorem dX8_batch_88 : decode cX8_batch 88 = .ok (.bipush 6, 2) := by decide +kernel
theorem dX8_batch_90 : decode cX8_batch 90 = .ok (.iadd, 1) := by decide +kernel
theorem dX8_batch_91 : decode cX8_batch 91 = .ok (.iaload, 1) := by decide +kernel
theorem dX8_batch_92 : decode cX8_batch 92 = .ok (.aload_n 0, 1) := by decide +kernel
theorem dX8_batch_93 : decode cX8_batch 93 = .ok (.getfield 9, 3) := by decide +kernel
theorem dX8_batch_96 : decode cX8_batch 96 = .ok (.iload_n 1, 1) := by decide +kernel
theorem dX8_batch_97 : decode cX8_batch 97 = .ok (.iconst 3, 1) := by decide +kernel
theorem dX8_batch_98 : decode cX8_batch 98 = .ok (.iadd, 1) := by decide +kernel
theorem dX8_batch_99 : decode cX8_batch 99 = .ok (.iaload, 1) := by decide +kernel
theorem dX8_batch_100 : decode cX8_batch 100 = .ok (.iadd, 1) := by decide +kernel
theorem dX8_batch_101 : decode cX8_batch 101 = .ok (.istore 5, 2) := by decide +kernel
theorem dX8_batch_103 : decode cX8_batch 103 = .ok (.aload_n 0, 1) := by decide +kernel
theorem dX8_batch_104 : decode cX8_batch 104 = .ok (.iload 5, 2) := by decide +kernel
theorem dX8_batch_106 : decode cX8_batch 106 = .ok (.invokevirtual 132, 3) := by decide +kernel
theorem dX8_batch_109 : decode cX8_batch 109 = .ok (.ifCond .eq 38, 3) := by decide +kernel
theorem dX8_batch_112 : decode cX8_batch 112 = .ok (.aload_n 0, 1) := by decide +kernel
theorem dX8_batch_113 : decode cX8_batch 113 = .ok (.getfield 24, 3) := by decide +kernel
theorem dX8_batch_116 : decode cX8_batch 116 = .ok (.iload 5, 2) := by decide +kernel
theorem dX8_batch_118 : decode cX8_batch 118 = .ok (.baload, 1) := by decide +kernel
theorem dX8_batch_119 : decode cX8_batch 119 = .ok (.ifCond .eq 13, 3) := by decide +kernel
theorem dX8_batch_122 : decode cX8_batch 122 = .ok (.aload_n 0, 1) := by decide +kernel
theorem dX8_batch_123 : decode cX8_batch 123 = .ok (.iload 5, 2) := by decide +kernel
theorem dX8_batch_125 : decode cX8_batch 125 = .ok (.invokevirtual 136, 3) := by decide +kernel
theorem dX8_batch_128 : decode cX8_batch 128 = .ok (.iconst (-1), 1) := by decide +kernel
theorem dX8_batch_129 : decode cX8_batch 129 = .ok (.if_icmp .eq 18, 3) := by decide +kernel
theorem dX8_batch_132 : decode cX8_batch 132 = .ok (.aload_n 0, 1) := by decide +kernel
theorem dX8_batch_133 : decode cX8_batch 133 = .ok (.invokevirtual 102, 3) := by decide +kernel
theorem dX8_batch_136 : decode cX8_batch 136 = .ok (.aload_n 0, 1) := by decide +kernel
theorem dX8_batch_137 : decode cX8_batch 137 = .ok (.getfield 9, 3) := by decide +kernel
theorem dX8_batch_140 : decode cX8_batch 140 = .ok (.iconst 0, 1) := by decide +kernel
theorem dX8_batch_141 : decode cX8_batch 141 = .ok (.iaload, 1) := by decide +kernel
theorem dX8_batch_142 : decode cX8_batch 142 = .ok (.iconst 2, 1) := by decide +kernel
theorem dX8_batch_143 : decode cX8_batch 143 = .ok (.idiv, 1) := by decide +kernel
theorem dX8_batch_144 : decode cX8_batch 144 = .ok (.if_icmp .lt 4, 3) := by decide +kernel
theorem dX8_batch_147 : decode cX8_batch 147 = .ok (.return_, 1) := by decide +kernel
theorem dX8_batch_148 : decode cX8_batch 148 = .ok (.aload_n 0, 1) := by decide +kernel
theorem dX8_batch_149 : decode cX8_batch 149 = .ok (.getfield 9, 3) := by decide +kernel
theorem dX8_batch_152 : decode cX8_batch 152 = .ok (.iload_n 1, 1) := by decide +kernel
theorem dX8_batch_153 : decode cX8_batch 153 = .ok (.bipush 6, 2) := by decide +kernel
theorem dX8_batch_155 : decode cX8_batch 155 = .ok (.iadd, 1) := by decide +kernel
theorem dX8_batch_156 : decode cX8_batch 156 = .ok (.iload 5, 2) := by decide +kernel
theorem dX8_batch_158 : decode cX8_batch 158 = .ok (.iastore, 1) := by decide +kernel
theorem dX8_batch_159 : decode cX8_batch 159 = .ok (.aload_n 0, 1) := by decide +kernel
theorem dX8_batch_160 : decode cX8_batch 160 = .ok (.getfield 9, 3) := by decide +kernel
theorem dX8_batch_163 : decode cX8_batch 163 = .ok (.iload_n 1, 1) := by decide +kernel
theorem dX8_batch_164 : decode cX8_batch 164 = .ok (.bipush 7, 2) := by decide +kernel
theorem dX8_batch_166 : decode cX8_batch 166 = .ok (.iadd, 1) := by decide +kernel
theorem dX8_batch_167 : decode cX8_batch 167 = .ok (.iload 4, 2) := by decide +kernel
theorem dX8_batch_169 : decode cX8_batch 169 = .ok (.ifCond .ne 8, 3) := by decide +kernel
theorem dX8_batch_172 : decode cX8_batch 172 = .ok (.iload 5, 2) := by decide +kernel
theorem dX8_batch_174 : decode cX8_batch 174 = .ok (.goto 12, 3) := by decide +kernel
theorem dX8_batch_177 : decode cX8_batch 177 = .ok (.aload_n 0, 1) := by decide +kernel
theorem dX8_batch_178 : decode cX8_batch 178 = .ok (.getfield 9, 3) := by decide +kernel
theorem dX8_batch_181 : decode cX8_batch 181 = .ok (.iload_n 1, 1) := by decide +kernel
theorem dX8_batch_182 : decode cX8_batch 182 = .ok (.bipush 7, 2) := by decide +kernel
theorem dX8_batch_184 : decode cX8_batch 184 = .ok (.iadd, 1) := by decide +kernel
theorem dX8_batch_185 : decode cX8_batch 185 = .ok (.iaload, 1) := by decide +kernel
theorem dX8_batch_186 : decode cX8_batch 186 = .ok (.iastore, 1) := by decide +kernel
theorem dX8_batch_187 : decode cX8_batch 187 = .ok (.aload_n 0, 1) := by decide +kernel
theorem dX8_batch_188 : decode cX8_batch 188 = .ok (.iload 5, 2) := by decide +kernel
theorem dX8_batch_190 : decode cX8_batch 190 = .ok (.invokevirtual 136, 3) := by decide +kernel
theorem dX8_batch_193 : decode cX8_batch 193 = .ok (.iconst (-1), 1) := by decide +kernel
theorem dX8_batch_194 : decode cX8_batch 194 = .ok (.if_icmp .eq 27, 3) := by decide +kernel
theorem dX8_batch_197 : decode cX8_batch 197 = .ok (.aload_n 0, 1) := by decide +kernel
theorem dX8_batch_198 : decode cX8_batch 198 = .ok (.getfield 9, 3) := by decide +kernel
theorem dX8_batch_201 : decode cX8_batch 201 = .ok (.bipush 17, 2) := by decide +kernel
theorem dX8_batch_203 : decode cX8_batch 203 = .ok (.dup2, 1) := by decide +kernel
theorem dX8_batch_204 : decode cX8_batch 204 = .ok (.iaload, 1) := by decide +kernel
theorem dX8_batch_205 : decode cX8_batch 205 = .ok (.iconst 1, 1) := by decide +kernel
theorem dX8_batch_206 : decode cX8_batch 206 = .ok (.iadd, 1) := by decide +kernel
theorem dX8_batch_207 : decode cX8_batch 207 = .ok (.iastore, 1) := by decide +kernel
theorem dX8_batch_208 : decode cX8_batch 208 = .ok (.aload_n 0, 1) := by decide +kernel
theorem dX8_batch_209 : decode cX8_batch 209 = .ok (.dup, 1) := by decide +kernel
theorem dX8_batch_210 : decode cX8_batch 210 = .ok (.getfield 139, 3) := by decide +kernel
theorem dX8_batch_213 : decode cX8_batch 213 = .ok (.iconst 1, 1) := by decide +kernel
theorem dX8_batch_214 : decode cX8_batch 214 = .ok (.iadd, 1) := by decide +kernel
theorem dX8_batch_215 : decode cX8_batch 215 = .ok (.putfield 139, 3) := by decide +kernel
theorem dX8_batch_218 : decode cX8_batch 218 = .ok (.goto 11, 3) := by decide +kernel
theorem dX8_batch_221 : decode cX8_batch 221 = .ok (.aload_n 0, 1) := by decide +kernel
theorem dX8_batch_222 : decode cX8_batch 222 = .ok (.iload 5, 2) := by decide +kernel
theorem dX8_batch_224 : decode cX8_batch 224 = .ok (.iload_n 2, 1) := by decide +kernel
theorem dX8_batch_225 : decode cX8_batch 225 = .ok (.iload_n 1, 1) := by decide +kernel
theorem dX8_batch_226 : decode cX8_batch 226 = .ok (.invokevirtual 142, 3) := by decide +kernel
theorem dX8_batch_229 : decode cX8_batch 229 = .ok (.iinc 4 1, 3) := by decide +kernel
theorem dX8_batch_232 : decode cX8_batch 232 = .ok (.goto (-155), 3) := by decide +kernel
theorem dX8_batch_235 : decode cX8_batch 235 = .ok (.return_, 1) := by decide +kernel
def mR_batch_229 (N : Nat) (hd77 : ST → Int32 → Int32 → Int32 → Int32 → Option (ST)) (σ : ST) (x1 : Int32) (x2 : Int32) (x3 : Int32) (x4 : Int32) (x5 : Int32) : Option (ST) :=
  zLet (x4 + (1)) fun v229 =>
  hd77 σ x1 x2 x3 v229
set_option maxRecDepth 20000 in
set_option maxHeartbeats 2000000 in
theorem tR_batch_229 {adr : Nat → Nat} {cI cZ : ClassId} {X : zX} {q : ST} (B : zC X 6 (wdR adr cI cZ) cX8_batch RX8 none { frames := 5, cells := 0, slots := 0, locals := 115 }) (N : Nat) (hd77 : ST → Int32 → Int32 → Int32 → Int32 → Option (ST)) (hh77 : ∀ (σ : ST) (x1 : Int32) (x2 : Int32) (x3 : Int32) (x4 : Int32), hd77 σ x1 x2 x3 x4 = some q → zJ X 6 (wdR adr cI cZ) (zu q) 77 [(0, .ref (adr 0)), (1, .int x1), (2, .int x2), (3, .int x3), (4, .int x4)] [] σ) (σ : ST) (x1 : Int32) (x2 : Int32) (x3 : Int32) (x4 : Int32) (x5 : Int32) (hf : mR_batch_229 N hd77 σ x1 x2 x3 x4 x5 = some q) : zJ X 6 (wdR adr cI cZ) (zu q) 229 [(0, .ref (adr 0)), (1, .int x1), (2, .int x2), (3, .int x3), (4, .int x4), (5, .int x5)] [] σ := by
  refine z_iinc B (1) 4 (fun v229 => [(4, .int v229), (0, .ref (adr 0)), (1, .int x1), (2, .int x2), (3, .int x3), (5, .int x5)]) dX8_batch_229 hf zc_iconst_1 rfl (Nat.le_of_ble_eq_true rfl) (fun _ => rfl) (fun v229 hf => ?_)
  refine z_goto B 77 dX8_batch_232 (by decide) ?_
  exact z_loc [1, 2, 3, 4, 0] _ rfl (hh77 σ x1 x2 x3 v229 hf)
def mR_batch_186 (N : Nat) (hd77 : ST → Int32 → Int32 → Int32 → Int32 → Option (ST)) (σ : ST) (x1 : Int32) (x2 : Int32) (x3 : Int32) (x4 : Int32) (x5 : Int32) (k1 : Int32) (k2 : Int32) : Option (ST) :=
  zSet σ 1 1974 k1 k2 fun s186 =>
  zCall (mR_place N s186 x5) fun v190 s190 =>
  if (v190 : Int32) = (-1) then
    zCallu (mR_fetchAhead N s190 x5 x2 x1) fun s226 =>
    mR_batch_229 N hd77 s226 x1 x2 x3 x4 x5
  else
    zGet (s190 1) 1974 (17) fun v204 =>
    zLet ((v204 : Int32) + (1)) fun v206 =>
    zSet s190 1 1974 (17) v206 fun s207 =>
    zLet (s207 0 15) fun v210 =>
    zLet ((v210 : Int32) + (1)) fun v214 =>
    zLet (zUp s207 0 15 v214) fun s215 =>
    mR_batch_229 N hd77 s215 x1 x2 x3 x4 x5
set_option maxRecDepth 20000 in
set_option maxHeartbeats 2000000 in
theorem tR_batch_186 {adr : Nat → Nat} {cI cZ : ClassId} {X : zX} {q : ST} (B : zC X 6 (wdR adr cI cZ) cX8_batch RX8 none { frames := 5, cells := 0, slots := 0, locals := 115 }) (N : Nat) (hd77 : ST → Int32 → Int32 → Int32 → Int32 → Option (ST)) (hh77 : ∀ (σ : ST) (x1 : Int32) (x2 : Int32) (x3 : Int32) (x4 : Int32), hd77 σ x1 x2 x3 x4 = some q → zJ X 6 (wdR adr cI cZ) (zu q) 77 [(0, .ref (adr 0)), (1, .int x1), (2, .int x2), (3, .int x3), (4, .int x4)] [] σ) (σ : ST) (x1 : Int32) (x2 : Int32) (x3 : Int32) (x4 : Int32) (x5 : Int32) (k1 : Int32) (k2 : Int32) (hf : mR_batch_186 N hd77 σ x1 x2 x3 x4 x5 k1 k2 = some q) : zJ X 6 (wdR adr cI cZ) (zu q) 186 [(0, .ref (adr 0)), (1, .int x1), (2, .int x2), (3, .int x3), (4, .int x4), (5, .int x5)] [.int k2, .int k1, .ref (adr 1)] σ := by
  refine fR_s_row B dX8_batch_186 hf (fun s186 hf => ?_)
  refine z_aload_n B dX8_batch_187 0 rfl rfl ?_
  refine z_iload B dX8_batch_188 5 rfl ?_
  refine z_callVi B (As := [.int x5]) kcV_X8_136 dX8_batch_190 hf (fun q hq => cR_place q hq) (wR_o (adr := adr) (cI := cI) (cZ := cZ)) rfl rfl rfl rfl (Nat.le_of_ble_eq_true rfl) rfl rfl ⟨Nat.le_of_ble_eq_true rfl, Nat.le_of_ble_eq_true rfl⟩ (fun v190 s190 hf => ?_)
  refine z_iconst B (-1) dX8_batch_193 zc_iconst_m1 ?_
  refine z_icmp_eq B 221 dX8_batch_194 (by decide) hf (fun hf => ?_) (fun hf => ?_)
  · refine z_aload_n B dX8_batch_221 0 rfl rfl ?_
    refine z_iload B dX8_batch_222 5 rfl ?_
    refine z_iload_n B dX8_batch_224 2 rfl rfl ?_
    refine z_iload_n B dX8_batch_225 1 rfl rfl ?_
    refine z_callVu B (As := [.int x5, .int x2, .int x1]) kcV_X8_142 dX8_batch_226 hf (fun q hq => cR_fetchAhead q hq) (wR_o (adr := adr) (cI := cI) (cZ := cZ)) rfl rfl rfl rfl (Nat.le_of_ble_eq_true rfl) rfl rfl ⟨Nat.le_of_ble_eq_true rfl, Nat.le_of_ble_eq_true rfl⟩ (fun s226 hf => ?_)
    exact tR_batch_229 B N hd77 hh77 s226 x1 x2 x3 x4 x5 hf
  · refine z_aload_n B dX8_batch_197 0 rfl rfl ?_
    refine fR_g_row B dX8_batch_198 ?_
    refine z_bipush B (17) dX8_batch_201 zc_bipush_17 ?_
    refine z_dup2 B dX8_batch_203 rfl rfl ?_
    refine fR_l_row B dX8_batch_204 hf (fun v204 hf => ?_)
    refine z_iconst B (1) dX8_batch_205 zc_iconst_1 ?_
    refine z_iadd B dX8_batch_206 hf (fun v206 hf => ?_)
    refine fR_s_row B dX8_batch_207 hf (fun s207 hf => ?_)
    refine z_aload_n B dX8_batch_208 0 rfl rfl ?_
    refine z_dup B dX8_batch_209 rfl ?_
    refine fR_g_sharedNow B dX8_batch_210 hf (fun v210 hf => ?_)
    refine z_iconst B (1) dX8_batch_213 zc_iconst_1 ?_
    refine z_iadd B dX8_batch_214 hf (fun v214 hf => ?_)
    refine fR_p_sharedNow B dX8_batch_215 hf (fun s215 hf => ?_)
    refine z_goto B 229 dX8_batch_218 (by decide) ?_
    exact tR_batch_229 B N hd77 hh77 s215 x1 x2 x3 x4 x5 hf
def mR_batch_147 (N : Nat) (σ : ST) (x1 : Int32) (x2 : Int32) (x3 : Int32) (x4 : Int32) (x5 : Int32) : Option (ST) :=
  some σ
set_option maxRecDepth 20000 in
set_option maxHeartbeats 2000000 in
theorem tR_batch_147 {adr : Nat → Nat} {cI cZ : ClassId} {X : zX} {q : ST} (B : zC X 6 (wdR adr cI cZ) cX8_batch RX8 none { frames := 5, cells := 0, slots := 0, locals := 115 }) (N : Nat) (σ : ST) (x1 : Int32) (x2 : Int32) (x3 : Int32) (x4 : Int32) (x5 : Int32) (hf : mR_batch_147 N σ x1 x2 x3 x4 x5 = some q) : zJ X 6 (wdR adr cI cZ) (zu q) 147 [(0, .ref (adr 0)), (1, .int x1), (2, .int x2), (3, .int x3), (4, .int x4), (5, .int x5)] [] σ := by
  exact z_return B dX8_batch_147 hf
def mR_batch_132 (N : Nat) (hd77 : ST → Int32 → Int32 → Int32 → Int32 → Option (ST)) (σ : ST) (x1 : Int32) (x2 : Int32) (x3 : Int32) (x4 : Int32) (x5 : Int32) : Option (ST) :=
  zCall (mR_manyAhead N σ) fun v133 s133 =>
  zGet (s133 1) 1974 (0) fun v141 =>
  zDiv v141 (2) fun v143 =>
  if (v133 : Int32) < v143 then
    zLet ((x1 : Int32) + (6)) fun v155 =>
    zSet s133 1 1974 v155 x5 fun s158 =>
    zLet ((x1 : Int32) + (7)) fun v166 =>
    if (x4 : Int32) = 0 then
      mR_batch_186 N hd77 s158 x1 x2 x3 x4 x5 v166 x5
    else
      zLet ((x1 : Int32) + (7)) fun v184 =>
      zGet (s158 1) 1974 v184 fun v185 =>
      mR_batch_186 N hd77 s158 x1 x2 x3 x4 x5 v166 v185
  else
    mR_batch_147 N s133 x1 x2 x3 x4 x5
set_option maxRecDepth 20000 in
set_option maxHeartbeats 2000000 in
theorem tR_batch_132 {adr : Nat → Nat} {cI cZ : ClassId} {X : zX} {q : ST} (B : zC X 6 (wdR adr cI cZ) cX8_batch RX8 none { frames := 5, cells := 0, slots := 0, locals := 115 }) (N : Nat) (hd77 : ST → Int32 → Int32 → Int32 → Int32 → Option (ST)) (hh77 : ∀ (σ : ST) (x1 : Int32) (x2 : Int32) (x3 : Int32) (x4 : Int32), hd77 σ x1 x2 x3 x4 = some q → zJ X 6 (wdR adr cI cZ) (zu q) 77 [(0, .ref (adr 0)), (1, .int x1), (2, .int x2), (3, .int x3), (4, .int x4)] [] σ) (σ : ST) (x1 : Int32) (x2 : Int32) (x3 : Int32) (x4 : Int32) (x5 : Int32) (hf : mR_batch_132 N hd77 σ x1 x2 x3 x4 x5 = some q) : zJ X 6 (wdR adr cI cZ) (zu q) 132 [(0, .ref (adr 0)), (1, .int x1), (2, .int x2), (3, .int x3), (4, .int x4), (5, .int x5)] [] σ := by
  refine z_aload_n B dX8_batch_132 0 rfl rfl ?_
  refine z_callVi B (As := []) kcV_X8_102 dX8_batch_133 hf (fun q hq => cR_manyAhead q hq) (wR_o (adr := adr) (cI := cI) (cZ := cZ)) rfl rfl rfl rfl (Nat.le_of_ble_eq_true rfl) rfl rfl ⟨Nat.le_of_ble_eq_true rfl, Nat.le_of_ble_eq_true rfl⟩ (fun v133 s133 hf => ?_)
  refine z_aload_n B dX8_batch_136 0 rfl rfl ?_
  refine fR_g_row B dX8_batch_137 ?_
  refine z_iconst B (0) dX8_batch_140 zc_iconst_0 ?_
  refine fR_l_row B dX8_batch_141 hf (fun v141 hf => ?_)
  refine z_iconst B (2) dX8_batch_142 zc_iconst_2 ?_
  refine z_idiv B dX8_batch_143 hf (fun v143 hf => ?_)
  refine z_icmp_lt B 148 dX8_batch_144 (by decide) hf (fun hf => ?_) (fun hf => ?_)
  · refine z_aload_n B dX8_batch_148 0 rfl rfl ?_
    refine fR_g_row B dX8_batch_149 ?_
    refine z_iload_n B dX8_batch_152 1 rfl rfl ?_
    refine z_bipush B (6) dX8_batch_153 zc_bipush_6 ?_
    refine z_iadd B dX8_batch_155 hf (fun v155 hf => ?_)
    refine z_iload B dX8_batch_156 5 rfl ?_
    refine fR_s_row B dX8_batch_158 hf (fun s158 hf => ?_)
    refine z_aload_n B dX8_batch_159 0 rfl rfl ?_
    refine fR_g_row B dX8_batch_160 ?_
    refine z_iload_n B dX8_batch_163 1 rfl rfl ?_
    refine z_bipush B (7) dX8_batch_164 zc_bipush_7 ?_
    refine z_iadd B dX8_batch_166 hf (fun v166 hf => ?_)
    refine z_iload B dX8_batch_167 4 rfl ?_
    refine z_if_ne B 177 dX8_batch_169 (by decide) hf (fun hf => ?_) (fun hf => ?_)
    · refine z_aload_n B dX8_batch_177 0 rfl rfl ?_
      refine fR_g_row B dX8_batch_178 ?_
      refine z_iload_n B dX8_batch_181 1 rfl rfl ?_
      refine z_bipush B (7) dX8_batch_182 zc_bipush_7 ?_
      refine z_iadd B dX8_batch_184 hf (fun v184 hf => ?_)
      refine fR_l_row B dX8_batch_185 hf (fun v185 hf => ?_)
      exact tR_batch_186 B N hd77 hh77 s158 x1 x2 x3 x4 x5 v166 v185 hf
    · refine z_iload B dX8_batch_172 5 rfl ?_
      refine z_goto B 186 dX8_batch_174 (by decide) ?_
      exact tR_batch_186 B N hd77 hh77 s158 x1 x2 x3 x4 x5 v166 x5 hf
  · exact tR_batch_147 B N s133 x1 x2 x3 x4 x5 hf
def mR_batch_B77 (N : Nat) (hd77 : ST → Int32 → Int32 → Int32 → Int32 → Option (ST)) (σ : ST) (x1 : Int32) (x2 : Int32) (x3 : Int32) (x4 : Int32) : Option (ST) :=
  if (x3 : Int32) ≤ x4 then
    some σ
  else
    zLet ((x1 : Int32) + (6)) fun v90 =>
    zGet (σ 1) 1974 v90 fun v91 =>
    zLet ((x1 : Int32) + (3)) fun v98 =>
    zGet (σ 1) 1974 v98 fun v99 =>
    zLet ((v91 : Int32) + v99) fun v100 =>
    zCall (mR_isBlock N σ v100) fun v106 s106 =>
    if (v106 : Int32) = 0 then
      mR_batch_147 N s106 x1 x2 x3 x4 v100
    else
      zGet (s106 5) 10000 v100 fun v118 =>
      if (v118 : Int32) = 0 then
        mR_batch_132 N hd77 s106 x1 x2 x3 x4 v100
      else
        zCall (mR_place N s106 v100) fun v125 s125 =>
        if (v125 : Int32) = (-1) then
          mR_batch_147 N s125 x1 x2 x3 x4 v100
        else
          mR_batch_132 N hd77 s125 x1 x2 x3 x4 v100
def mR_batch_77 (N : Nat) : ST → Int32 → Int32 → Int32 → Int32 → Option (ST) := zIt (mR_batch_B77 N) (fun _ _ _ _ _ => none) N
set_option maxRecDepth 20000 in
set_option maxHeartbeats 2000000 in
theorem tR_batch_77 {adr : Nat → Nat} {cI cZ : ClassId} {X : zX} {q : ST} (B : zC X 6 (wdR adr cI cZ) cX8_batch RX8 none { frames := 5, cells := 0, slots := 0, locals := 115 }) (N : Nat) : ∀ (σ : ST) (x1 : Int32) (x2 : Int32) (x3 : Int32) (x4 : Int32), mR_batch_77 N σ x1 x2 x3 x4 = some q → zJ X 6 (wdR adr cI cZ) (zu q) 77 [(0, .ref (adr 0)), (1, .int x1), (2, .int x2), (3, .int x3), (4, .int x4)] [] σ := by
  refine zIt_ind (P := fun (hd : ST → Int32 → Int32 → Int32 → Int32 → Option (ST)) => ∀ (σ : ST) (x1 : Int32) (x2 : Int32) (x3 : Int32) (x4 : Int32), hd σ x1 x2 x3 x4 = some q → zJ X 6 (wdR adr cI cZ) (zu q) 77 [(0, .ref (adr 0)), (1, .int x1), (2, .int x2), (3, .int x3), (4, .int x4)] [] σ) (fun _ _ _ _ _ hf => by cases hf) (fun hd77 hh77 => ?_) N
  intro σ x1 x2 x3 x4 hf
  refine z_iload B dX8_batch_77 4 rfl ?_
  refine z_iload_n B dX8_batch_79 3 rfl rfl ?_
  refine z_icmp_ge B 235 dX8_batch_80 (by decide) hf (fun hf => ?_) (fun hf => ?_)
  · exact z_return B dX8_batch_235 hf
  · refine z_aload_n B dX8_batch_83 0 rfl rfl ?_
    refine fR_g_row B dX8_batch_84 ?_
    refine z_iload_n B dX8_batch_87 1 rfl rfl ?_
    refine z_bipush B (6) dX8_batch_88 zc_bipush_6 ?_
    refine z_iadd B dX8_batch_90 hf (fun v90 hf => ?_)
    refine fR_l_row B dX8_batch_91 hf (fun v91 hf => ?_)
    refine z_aload_n B dX8_batch_92 0 rfl rfl ?_
    refine fR_g_row B dX8_batch_93 ?_
    refine z_iload_n B dX8_batch_96 1 rfl rfl ?_
    refine z_iconst B (3) dX8_batch_97 zc_iconst_3 ?_
    refine z_iadd B dX8_batch_98 hf (fun v98 hf => ?_)
    refine fR_l_row B dX8_batch_99 hf (fun v99 hf => ?_)
    refine z_iadd B dX8_batch_100 hf (fun v100 hf => ?_)
    refine z_istore B [(5, .int v100), (0, .ref (adr 0)), (1, .int x1), (2, .int x2), (3, .int x3), (4, .int x4)] dX8_batch_101 (Nat.le_of_ble_eq_true rfl) rfl ?_
    refine z_aload_n B dX8_batch_103 1 rfl rfl ?_
    refine z_iload B dX8_batch_104 0 rfl ?_
    refine z_callVi B (As := [.int v100]) kcV_X8_132 dX8_batch_106 hf (fun q hq => cR_isBlock q hq) (wR_o (adr := adr) (cI := cI) (cZ := cZ)) rfl rfl rfl rfl (Nat.le_of_ble_eq_true rfl) rfl rfl ⟨Nat.le_of_ble_eq_true rfl, Nat.le_of_ble_eq_true rfl⟩ (fun v106 s106 hf => ?_)
    refine z_if_eq B 147 dX8_batch_109 (by decide) hf (fun hf => ?_) (fun hf => ?_)
    · exact z_loc [1, 2, 3, 4, 5, 0] _ rfl (tR_batch_147 B N s106 x1 x2 x3 x4 v100 hf)
    · refine z_aload_n B dX8_batch_112 1 rfl rfl ?_
      refine fR_g_isBad B dX8_batch_113 ?_
      refine z_iload B dX8_batch_116 0 rfl ?_
      refine fR_l_isBad B dX8_batch_118 hf (fun v118 hf => ?_)
      refine z_if_eq B 132 dX8_batch_119 (by decide) hf (fun hf => ?_) (fun hf => ?_)
      · exact z_loc [1, 2, 3, 4, 5, 0] _ rfl (tR_batch_132 B N hd77 hh77 s106 x1 x2 x3 x4 v100 hf)
      · refine z_aload_n B dX8_batch_122 1 rfl rfl ?_
        refine z_iload B dX8_batch_123 0 rfl ?_
        refine z_callVi B (As := [.int v100]) kcV_X8_136 dX8_batch_125 hf (fun q hq => cR_place q hq) (wR_o (adr := adr) (cI := cI) (cZ := cZ)) rfl rfl rfl rfl (Nat.le_of_ble_eq_true rfl) rfl rfl ⟨Nat.le_of_ble_eq_true rfl, Nat.le_of_ble_eq_true rfl⟩ (fun v125 s125 hf => ?_)
        refine z_iconst B (-1) dX8_batch_128 zc_iconst_m1 ?_
        refine z_icmp_eq B 147 dX8_batch_129 (by decide) hf (fun hf => ?_) (fun hf => ?_)
        · exact z_loc [1, 2, 3, 4, 5, 0] _ rfl (tR_batch_147 B N s125 x1 x2 x3 x4 v100 hf)
        · exact z_loc [1, 2, 3, 4, 5, 0] _ rfl (tR_batch_132 B N hd77 hh77 s125 x1 x2 x3 x4 v100 hf)
def mR_batch (N : Nat) (σ : ST) (x1 : Int32) (x2 : Int32) : Option (ST) :=
  zGet (σ 1) 1974 (19) fun v7 =>
  zLet ((v7 : Int32) + (1)) fun v9 =>
  zSet σ 1 1974 (19) v9 fun s10 =>
  zLet ((x1 : Int32) + (7)) fun v18 =>
  zSet s10 1 1974 v18 (-1) fun s20 =>
  zGet (s20 1) 1974 (16) fun v30 =>
  zLet ((v30 : Int32).toInt64) fun v31 =>
  zLet (((100) : Int64) * v31) fun v32 =>
  zGet (s20 1) 1974 (5) fun v38 =>
  zLet ((v38 : Int32).toInt64) fun v39 =>
  zGet (s20 1) 1974 (15) fun v46 =>
  zLet ((v46 : Int32).toInt64) fun v47 =>
  zLet ((v39 : Int64) * v47) fun v48 =>
  zLet (lg_cmp v32 v48) fun v49 =>
  if (v49 : Int32) ≤ 0 then
    zLet ((x1 : Int32) + (5)) fun v71 =>
    zGet (s20 1) 1974 v71 fun v72 =>
    mR_batch_77 N s20 x1 x2 v72 (0)
  else
    zGet (s20 1) 1974 (18) fun v60 =>
    zLet ((v60 : Int32) + (1)) fun v62 =>
    zSet s20 1 1974 (18) v62 fun s63 =>
    some s63
set_option maxRecDepth 20000 in
set_option maxHeartbeats 2000000 in
theorem cR_batch {adr : Nat → Nat} {cI cZ : ClassId} {l : Launch} {D : va_G} {N : Nat} {σ : ST} {x1 : Int32} {x2 : Int32} (q : ST) (hf : mR_batch N σ x1 x2 = some q) : zM l D (wdR adr cI cZ) yX8_batch cX8_batch 6 none ({ frames := 5, cells := 0, slots := 0, locals := 115 }) [.ref (adr 0), .int x1, .int x2] σ (zu q) := by
  refine zM_of sfR_ok rfl (Nat.le_of_ble_eq_true rfl) [(0, .ref (adr 0)), (1, .int x1), (2, .int x2)] rfl (fun X hX1 hX2 B => ?_)
  have B : zC X 6 (wdR adr cI cZ) cX8_batch RX8 none { frames := 5, cells := 0, slots := 0, locals := 115 } := B
  refine z_aload_n B dX8_batch_0 0 rfl rfl ?_
  refine fR_g_row B dX8_batch_1 ?_
  refine z_bipush B (19) dX8_batch_4 zc_bipush_19 ?_
  refine z_dup2 B dX8_batch_6 rfl rfl ?_
  refine fR_l_row B dX8_batch_7 hf (fun v7 hf => ?_)
  refine z_iconst B (1) dX8_batch_8 zc_iconst_1 ?_
  refine z_iadd B dX8_batch_9 hf (fun v9 hf => ?_)
  refine fR_s_row B dX8_batch_10 hf (fun s10 hf => ?_)
  refine z_aload_n B dX8_batch_11 0 rfl rfl ?_
  refine fR_g_row B dX8_batch_12 ?_
  refine z_iload_n B dX8_batch_15 1 rfl rfl ?_
  refine z_bipush B (7) dX8_batch_16 zc_bipush_7 ?_
  refine z_iadd B dX8_batch_18 hf (fun v18 hf => ?_)
  refine z_iconst B (-1) dX8_batch_19 zc_iconst_m1 ?_
  refine fR_s_row B dX8_batch_20 hf (fun s20 hf => ?_)
  refine z_ldc2 B kw_1115 dX8_batch_21 ?_
  refine z_aload_n B dX8_batch_24 0 rfl rfl ?_
  refine fR_g_row B dX8_batch_25 ?_
  refine z_bipush B (16) dX8_batch_28 zc_bipush_16 ?_
  refine fR_l_row B dX8_batch_30 hf (fun v30 hf => ?_)
  refine z_i2l B dX8_batch_31 hf (fun v31 hf => ?_)
  refine z_lmul B dX8_batch_32 hf (fun v32 hf => ?_)
  refine z_aload_n B dX8_batch_33 0 rfl rfl ?_
  refine fR_g_row B dX8_batch_34 ?_
  refine z_iconst B (5) dX8_batch_37 zc_iconst_5 ?_
  refine fR_l_row B dX8_batch_38 hf (fun v38 hf => ?_)
  refine z_i2l B dX8_batch_39 hf (fun v39 hf => ?_)
  refine z_aload_n B dX8_batch_40 0 rfl rfl ?_
  refine fR_g_row B dX8_batch_41 ?_
  refine z_bipush B (15) dX8_batch_44 zc_bipush_15 ?_
  refine fR_l_row B dX8_batch_46 hf (fun v46 hf => ?_)
  refine z_i2l B dX8_batch_47 hf (fun v47 hf => ?_)
  refine z_lmul B dX8_batch_48 hf (fun v48 hf => ?_)
  refine z_lcmp B dX8_batch_49 hf (fun v49 hf => ?_)
  refine z_if_le B 65 dX8_batch_50 (by decide) hf (fun hf => ?_) (fun hf => ?_)
  · refine z_aload_n B dX8_batch_65 0 rfl rfl ?_
    refine fR_g_row B dX8_batch_66 ?_
    refine z_iload_n B dX8_batch_69 1 rfl rfl ?_
    refine z_iconst B (5) dX8_batch_70 zc_iconst_5 ?_
    refine z_iadd B dX8_batch_71 hf (fun v71 hf => ?_)
    refine fR_l_row B dX8_batch_72 hf (fun v72 hf => ?_)
    refine z_istore_n B [(3, .int v72), (0, .ref (adr 0)), (1, .int x1), (2, .int x2)] dX8_batch_73 rfl (Nat.le_of_ble_eq_true rfl) rfl ?_
    refine z_iconst B (0) dX8_batch_74 zc_iconst_0 ?_
    refine z_istore B [(4, .int (0)), (3, .int v72), (0, .ref (adr 0)), (1, .int x1), (2, .int x2)] dX8_batch_75 (Nat.le_of_ble_eq_true rfl) rfl ?_
    exact z_loc [2, 3, 4, 1, 0] _ rfl (tR_batch_77 B N s20 x1 x2 v72 (0) hf)
  · refine z_aload_n B dX8_batch_53 0 rfl rfl ?_
    refine fR_g_row B dX8_batch_54 ?_
    refine z_bipush B (18) dX8_batch_57 zc_bipush_18 ?_
    refine z_dup2 B dX8_batch_59 rfl rfl ?_
    refine fR_l_row B dX8_batch_60 hf (fun v60 hf => ?_)
    refine z_iconst B (1) dX8_batch_61 zc_iconst_1 ?_
    refine z_iadd B dX8_batch_62 hf (fun v62 hf => ?_)
    refine fR_s_row B dX8_batch_63 hf (fun s63 hf => ?_)
    exact z_return B dX8_batch_64 hf
theorem dX8_lesser_0 : decode cX8_lesser 0 = .ok (.iload_n 0, 1) := by decide +kernel
theorem dX8_lesser_1 : decode cX8_lesser 1 = .ok (.iload_n 1, 1) := by decide +kernel
theorem dX8_lesser_2 : decode cX8_lesser 2 = .ok (.if_icmp .ge 7, 3) := by decide +kernel
theorem dX8_lesser_5 : decode cX8_lesser 5 = .ok (.iload_n 0, 1) := by decide +kernel
theorem dX8_lesser_6 : decode cX8_lesser 6 = .ok (.goto 4, 3) := by decide +kernel
theorem dX8_lesser_9 : decode cX8_lesser 9 = .ok (.iload_n 1, 1) := by decide +kernel
theorem dX8_lesser_10 : decode cX8_lesser 10 = .ok (.ireturn, 1) := by decide +kernel
def mR_lesser_10 (N : Nat) (σ : ST) (x0 : Int32) (x1 : Int32) (k0 : Int32) : Option (Int32 × ST) :=
  some (k0, σ)
set_option maxRecDepth 20000 in
set_option maxHeartbeats 2000000 in
theorem tR_lesser_10 {adr : Nat → Nat} {cI cZ : ClassId} {X : zX} {q : Int32 × ST} (B : zC X 2 (wdR adr cI cZ) cX8_lesser RX8 (some .int) { frames := 0, cells := 0, slots := 0, locals := 0 }) (N : Nat) (σ : ST) (x0 : Int32) (x1 : Int32) (k0 : Int32) (hf : mR_lesser_10 N σ x0 x1 k0 = some q) : zJ X 2 (wdR adr cI cZ) (zi q) 10 [(0, .int x0), (1, .int x1)] [.int k0] σ := by
  exact z_ireturn B dX8_lesser_10 hf
def mR_lesser (N : Nat) (σ : ST) (x0 : Int32) (x1 : Int32) : Option (Int32 × ST) :=
  if (x1 : Int32) ≤ x0 then
    mR_lesser_10 N σ x0 x1 x1
  else
    mR_lesser_10 N σ x0 x1 x0
set_option maxRecDepth 20000 in
set_option maxHeartbeats 2000000 in
theorem cR_lesser {adr : Nat → Nat} {cI cZ : ClassId} {l : Launch} {D : va_G} {N : Nat} {σ : ST} {x0 : Int32} {x1 : Int32} (q : Int32 × ST) (hf : mR_lesser N σ x0 x1 = some q) : zM l D (wdR adr cI cZ) yX8_lesser cX8_lesser 2 (some .int) ({ frames := 0, cells := 0, slots := 0, locals := 0 }) [.int x0, .int x1] σ (zi q) := by
  refine zM_of sfR_ok rfl (Nat.le_of_ble_eq_true rfl) [(0, .int x0), (1, .int x1)] rfl (fun X hX1 hX2 B => ?_)
  have B : zC X 2 (wdR adr cI cZ) cX8_lesser RX8 (some .int) { frames := 0, cells := 0, slots := 0, locals := 0 } := B
  refine z_iload_n B dX8_lesser_0 0 rfl rfl ?_
  refine z_iload_n B dX8_lesser_1 1 rfl rfl ?_
  refine z_icmp_ge B 9 dX8_lesser_2 (by decide) hf (fun hf => ?_) (fun hf => ?_)
  · refine z_iload_n B dX8_lesser_9 1 rfl rfl ?_
    exact tR_lesser_10 B N σ x0 x1 x1 hf
  · refine z_iload_n B dX8_lesser_5 0 rfl rfl ?_
    refine z_goto B 10 dX8_lesser_6 (by decide) ?_
    exact tR_lesser_10 B N σ x0 x1 x0 hf
theorem dX8_proves_0 : decode cX8_proves 0 = .ok (.aload_n 0, 1) := by decide +kernel
theorem dX8_proves_1 : decode cX8_proves 1 = .ok (.iload_n 1, 1) := by decide +kernel
theorem dX8_proves_2 : decode cX8_proves 2 = .ok (.aload_n 0, 1) := by decide +kernel
theorem dX8_proves_3 : decode cX8_proves 3 = .ok (.getfield 9, 3) := by decide +kernel
theorem dX8_proves_6 : decode cX8_proves 6 = .ok (.iconst 2, 1) := by decide +kernel
theorem dX8_proves_7 : decode cX8_proves 7 = .ok (.iaload, 1) := by decide +kernel
theorem dX8_proves_8 : decode cX8_proves 8 = .ok (.aload_n 0, 1) := by decide +kernel
theorem dX8_proves_9 : decode cX8_proves 9 = .ok (.getfield 9, 3) := by decide +kernel
theorem dX8_proves_12 : decode cX8_proves 12 = .ok (.iconst 3, 1) := by decide +kernel
theorem dX8_proves_13 : decode cX8_proves 13 = .ok (.iaload, 1) := by decide +kernel
theorem dX8_proves_14 : decode cX8_proves 14 = .ok (.invokestatic 151, 3) := by decide +kernel
theorem dX8_proves_17 : decode cX8_proves 17 = .ok (.invokevirtual 98, 3) := by decide +kernel
theorem dX8_proves_20 : decode cX8_proves 20 = .ok (.aload_n 0, 1) := by decide +kernel
theorem dX8_proves_21 : decode cX8_proves 21 = .ok (.getfield 9, 3) := by decide +kernel
theorem dX8_proves_24 : decode cX8_proves 24 = .ok (.iload_n 1, 1) := by decide +kernel
theorem dX8_proves_25 : decode cX8_proves 25 = .ok (.bipush 6, 2) := by decide +kernel
theorem dX8_proves_27 : decode cX8_proves 27 = .ok (.iadd, 1) := by decide +kernel
theorem dX8_proves_28 : decode cX8_proves 28 = .ok (.aload_n 0, 1) := by decide +kernel
theorem dX8_proves_29 : decode cX8_proves 29 = .ok (.getfield 9, 3) := by decide +kernel
theorem dX8_proves_32 : decode cX8_proves 32 = .ok (.iload_n 1, 1) := by decide +kernel
theorem dX8_proves_33 : decode cX8_proves 33 = .ok (.iconst 2, 1) := by decide +kernel
theorem dX8_proves_34 : decode cX8_proves 34 = .ok (.iadd, 1) := by decide +kernel
theorem dX8_proves_35 : decode cX8_proves 35 = .ok (.iaload, 1) := by decide +kernel
theorem dX8_proves_36 : decode cX8_proves 36 = .ok (.iastore, 1) := by decide +kernel
theorem dX8_proves_37 : decode cX8_proves 37 = .ok (.return_, 1) := by decide +kernel
def mR_proves (N : Nat) (σ : ST) (x1 : Int32) : Option (ST) :=
  zGet (σ 1) 1974 (2) fun v7 =>
  zGet (σ 1) 1974 (3) fun v13 =>
  zCall (mR_lesser N σ v7 v13) fun v14 s14 =>
  zCallu (mR_widens N s14 x1 v14) fun s17 =>
  zLet ((x1 : Int32) + (6)) fun v27 =>
  zLet ((x1 : Int32) + (2)) fun v34 =>
  zGet (s17 1) 1974 v34 fun v35 =>
  zSet s17 1 1974 v27 v35 fun s36 =>
  some s36
set_option maxRecDepth 20000 in
set_option maxHeartbeats 2000000 in
theorem cR_proves {adr : Nat → Nat} {cI cZ : ClassId} {l : Launch} {D : va_G} {N : Nat} {σ : ST} {x1 : Int32} (q : ST) (hf : mR_proves N σ x1 = some q) : zM l D (wdR adr cI cZ) yX8_proves cX8_proves 2 none ({ frames := 1, cells := 0, slots := 0, locals := 24 }) [.ref (adr 0), .int x1] σ (zu q) := by
  refine zM_of sfR_ok rfl (Nat.le_of_ble_eq_true rfl) [(0, .ref (adr 0)), (1, .int x1)] rfl (fun X hX1 hX2 B => ?_)
  have B : zC X 2 (wdR adr cI cZ) cX8_proves RX8 none { frames := 1, cells := 0, slots := 0, locals := 24 } := B
  refine z_aload_n B dX8_proves_0 0 rfl rfl ?_
  refine z_iload_n B dX8_proves_1 1 rfl rfl ?_
  refine z_aload_n B dX8_proves_2 0 rfl rfl ?_
  refine fR_g_row B dX8_proves_3 ?_
  refine z_iconst B (2) dX8_proves_6 zc_iconst_2 ?_
  refine fR_l_row B dX8_proves_7 hf (fun v7 hf => ?_)
  refine z_aload_n B dX8_proves_8 0 rfl rfl ?_
  refine fR_g_row B dX8_proves_9 ?_
  refine z_iconst B (3) dX8_proves_12 zc_iconst_3 ?_
  refine fR_l_row B dX8_proves_13 hf (fun v13 hf => ?_)
  refine z_callSi B (As := [.int v7, .int v13]) kcS_X8_151 dX8_proves_14 hf (fun q hq => cR_lesser q hq) rfl rfl (Nat.le_of_ble_eq_true rfl) rfl rfl ⟨Nat.le_of_ble_eq_true rfl, Nat.le_of_ble_eq_true rfl⟩ (fun v14 s14 hf => ?_)
  refine z_callVu B (As := [.int x1, .int v14]) kcV_X8_98 dX8_proves_17 hf (fun q hq => cR_widens q hq) (wR_o (adr := adr) (cI := cI) (cZ := cZ)) rfl rfl rfl rfl (Nat.le_of_ble_eq_true rfl) rfl rfl ⟨Nat.le_of_ble_eq_true rfl, Nat.le_of_ble_eq_true rfl⟩ (fun s17 hf => ?_)
  refine z_aload_n B dX8_proves_20 0 rfl rfl ?_
  refine fR_g_row B dX8_proves_21 ?_
  refine z_iload_n B dX8_proves_24 1 rfl rfl ?_
  refine z_bipush B (6) dX8_proves_25 zc_bipush_6 ?_
  refine z_iadd B dX8_proves_27 hf (fun v27 hf => ?_)
  refine z_aload_n B dX8_proves_28 0 rfl rfl ?_
  refine fR_g_row B dX8_proves_29 ?_
  refine z_iload_n B dX8_proves_32 1 rfl rfl ?_
  refine z_iconst B (2) dX8_proves_33 zc_iconst_2 ?_
  refine z_iadd B dX8_proves_34 hf (fun v34 hf => ?_)
  refine fR_l_row B dX8_proves_35 hf (fun v35 hf => ?_)
  refine fR_s_row B dX8_proves_36 hf (fun s36 hf => ?_)
  exact z_return B dX8_proves_37 hf
theorem dX8_goesOn_0 : decode cX8_goesOn 0 = .ok (.aload_n 0, 1) := by decide +kernel
theorem dX8_goesOn_1 : decode cX8_goesOn 1 = .ok (.getfield 9, 3) := by decide +kernel
theorem dX8_goesOn_4 : decode cX8_goesOn 4 = .ok (.iload_n 1, 1) := by decide +kernel
theorem dX8_goesOn_5 : decode cX8_goesOn 5 = .ok (.iconst 5, 1) := by decide +kernel
theorem dX8_goesOn_6 : decode cX8_goesOn 6 = .ok (.iadd, 1) := by decide +kernel
theorem dX8_goesOn_7 : decode cX8_goesOn 7 = .ok (.iaload, 1) := by decide +kernel
theorem dX8_goesOn_8 : decode cX8_goesOn 8 = .ok (.ifCond .ne 34, 3) := by decide +kernel
theorem dX8_goesOn_11 : decode cX8_goesOn 11 = .ok (.aload_n 0, 1) := by decide +kernel
theorem dX8_goesOn_12 : decode cX8_goesOn 12 = .ok (.getfield 9, 3) := by decide +kernel
theorem dX8_goesOn_15 : decode cX8_goesOn 15 = .ok (.iload_n 1, 1) := by decide +kernel
theorem dX8_goesOn_16 : decode cX8_goesOn 16 = .ok (.iconst 4, 1) := by decide +kernel
theorem dX8_goesOn_17 : decode cX8_goesOn 17 = .ok (.iadd, 1) := by decide +kernel
theorem dX8_goesOn_18 : decode cX8_goesOn 18 = .ok (.iaload, 1) := by decide +kernel
theorem dX8_goesOn_19 : decode cX8_goesOn 19 = .ok (.aload_n 0, 1) := by decide +kernel
theorem dX8_goesOn_20 : decode cX8_goesOn 20 = .ok (.getfield 9, 3) := by decide +kernel
theorem dX8_goesOn_23 : decode cX8_goesOn 23 = .ok (.iconst 1, 1) := by decide +kernel
theorem dX8_goesOn_24 : decode cX8_goesOn 24 = .ok (.iaload, 1) := by decide +kernel
theorem dX8_goesOn_25 : decode cX8_goesOn 25 = .ok (.if_icmp .lt 103, 3) := by decide +kernel
theorem dX8_goesOn_28 : decode cX8_goesOn 28 = .ok (.aload_n 0, 1) := by decide +kernel
theorem dX8_goesOn_29 : decode cX8_goesOn 29 = .ok (.iload_n 1, 1) := by decide +kernel
theorem dX8_goesOn_30 : decode cX8_goesOn 30 = .ok (.invokevirtual 155, 3) := by decide +kernel
theorem dX8_goesOn_33 : decode cX8_goesOn 33 = .ok (.aload_n 0, 1) := by decide +kernel
theorem dX8_goesOn_34 : decode cX8_goesOn 34 = .ok (.iload_n 1, 1) := by decide +kernel
theorem dX8_goesOn_35 : decode cX8_goesOn 35 = .ok (.iload_n 2, 1) := by decide +kernel
theorem dX8_goesOn_36 : decode cX8_goesOn 36 = .ok (.invokevirtual 158, 3) := by decide +kernel
theorem dX8_goesOn_39 : decode cX8_goesOn 39 = .ok (.goto 89, 3) := by decide +kernel
theorem dX8_goesOn_42 : decode cX8_goesOn 42 = .ok (.aload_n 0, 1) := by decide +kernel
theorem dX8_goesOn_43 : decode cX8_goesOn 43 = .ok (.getfield 9, 3) := by decide +kernel
theorem dX8_goesOn_46 : decode cX8_goesOn 46 = .ok (.iload_n 1, 1) := by decide +kernel
theorem dX8_goesOn_47 : decode cX8_goesOn 47 = .ok (.bipush 7, 2) := by decide +kernel
theorem dX8_goesOn_49 : decode cX8_goesOn 49 = .ok (.iadd, 1) := by decide +kernel
theorem dX8_goesOn_50 : decode cX8_goesOn 50 = .ok (.iaload, 1) := by decide +kernel
theorem dX8_goesOn_51 : decode cX8_goesOn 51 = .ok (.iload_n 2, 1) := by decide +kernel
theorem dX8_goesOn_52 : decode cX8_goesOn 52 = .ok (.if_icmp .ne 36, 3) := by decide +kernel
theorem dX8_goesOn_55 : decode cX8_goesOn 55 = .ok (.aload_n 0, 1) := by decide +kernel
theorem dX8_goesOn_56 : decode cX8_goesOn 56 = .ok (.iload_n 1, 1) := by decide +kernel
theorem dX8_goesOn_57 : decode cX8_goesOn 57 = .ok (.iconst 2, 1) := by decide +kernel
theorem dX8_goesOn_58 : decode cX8_goesOn 58 = .ok (.aload_n 0, 1) := by decide +kernel
theorem dX8_goesOn_59 : decode cX8_goesOn 59 = .ok (.getfield 9, 3) := by decide +kernel
theorem dX8_goesOn_62 : decode cX8_goesOn 62 = .ok (.iload_n 1, 1) := by decide +kernel
theorem dX8_goesOn_63 : decode cX8_goesOn 63 = .ok (.iconst 5, 1) := by decide +kernel
theorem dX8_goesOn_64 : decode cX8_goesOn 64 = .ok (.iadd, 1) := by decide +kernel
theorem dX8_goesOn_65 : decode cX8_goesOn 65 = .ok (.iaload, 1) := by decide +kernel
theorem dX8_goesOn_66 : decode cX8_goesOn 66 = .ok (.imul, 1) := by decide +kernel
theorem dX8_goesOn_67 : decode cX8_goesOn 67 = .ok (.aload_n 0, 1) := by decide +kernel
theorem dX8_goesOn_68 : decode cX8_goesOn 68 = .ok (.getfield 9, 3) := by decide +kernel
theorem dX8_goesOn_71 : decode cX8_goesOn 71 = .ok (.iconst 3, 1) := by decide +kernel
theorem dX8_goesOn_72 : decode cX8_goesOn 72 = .ok (.iaload, 1) := by decide +kernel
theorem dX8_goesOn_73 : decode cX8_goesOn 73 = .ok (.invokestatic 151, 3) := by decide +kernel
theorem dX8_goesOn_76 : decode cX8_goesOn 76 = .ok (.invokevirtual 98, 3) := by decide +kernel
theorem dX8_goesOn_79 : decode cX8_goesOn 79 = .ok (.aload_n 0, 1) := by decide +kernel
theorem dX8_goesOn_80 : decode cX8_goesOn 80 = .ok (.iload_n 1, 1) := by decide +kernel
theorem dX8_goesOn_81 : decode cX8_goesOn 81 = .ok (.iload_n 2, 1) := by decide +kernel
theorem dX8_goesOn_82 : decode cX8_goesOn 82 = .ok (.invokevirtual 158, 3) := by decide +kernel
theorem dX8_goesOn_85 : decode cX8_goesOn 85 = .ok (.goto 43, 3) := by decide +kernel
theorem dX8_goesOn_88 : decode cX8_goesOn 88 = .ok (.aload_n 0, 1) := by decide +kernel
theorem dX8_goesOn_89 : decode cX8_goesOn 89 = .ok (.iload_n 1, 1) := by decide +kernel
theorem dX8_goesOn_90 : decode cX8_goesOn 90 = .ok (.aload_n 0, 1) := by decide +kernel
theorem dX8_goesOn_91 : decode cX8_goesOn 91 = .ok (.getfield 9, 3) := by decide +kernel
theorem dX8_goesOn_94 : decode cX8_goesOn 94 = .ok (.iload_n 1, 1) := by decide +kernel
theorem dX8_goesOn_95 : decode cX8_goesOn 95 = .ok (.bipush 6, 2) := by decide +kernel
theorem dX8_goesOn_97 : decode cX8_goesOn 97 = .ok (.iadd, 1) := by decide +kernel
theorem dX8_goesOn_98 : decode cX8_goesOn 98 = .ok (.iaload, 1) := by decide +kernel
theorem dX8_goesOn_99 : decode cX8_goesOn 99 = .ok (.invokevirtual 161, 3) := by decide +kernel
theorem dX8_goesOn_102 : decode cX8_goesOn 102 = .ok (.ifCond .ne 26, 3) := by decide +kernel
theorem dX8_goesOn_105 : decode cX8_goesOn 105 = .ok (.aload_n 0, 1) := by decide +kernel
theorem dX8_goesOn_106 : decode cX8_goesOn 106 = .ok (.getfield 9, 3) := by decide +kernel
theorem dX8_goesOn_109 : decode cX8_goesOn 109 = .ok (.iload_n 1, 1) := by decide +kernel
theorem dX8_goesOn_110 : decode cX8_goesOn 110 = .ok (.bipush 6, 2) := by decide +kernel
theorem dX8_goesOn_112 : decode cX8_goesOn 112 = .ok (.iadd, 1) := by decide +kernel
theorem dX8_goesOn_113 : decode cX8_goesOn 113 = .ok (.aload_n 0, 1) := by decide +kernel
theorem dX8_goesOn_114 : decode cX8_goesOn 114 = .ok (.getfield 9, 3) := by decide +kernel
theorem dX8_goesOn_117 : decode cX8_goesOn 117 = .ok (.iload_n 1, 1) := by decide +kernel
theorem dX8_goesOn_118 : decode cX8_goesOn 118 = .ok (.iconst 2, 1) := by decide +kernel
theorem dX8_goesOn_119 : decode cX8_goesOn 119 = .ok (.iadd, 1) := by decide +kernel
theorem dX8_goesOn_120 : decode cX8_goesOn 120 = .ok (.iaload, 1) := by decide +kernel
theorem dX8_goesOn_121 : decode cX8_goesOn 121 = .ok (.iastore, 1) := by decide +kernel
theorem dX8_goesOn_122 : decode cX8_goesOn 122 = .ok (.aload_n 0, 1) := by decide +kernel
theorem dX8_goesOn_123 : decode cX8_goesOn 123 = .ok (.iload_n 1, 1) := by decide +kernel
theorem dX8_goesOn_124 : decode cX8_goesOn 124 = .ok (.iload_n 2, 1) := by decide +kernel
theorem dX8_goesOn_125 : decode cX8_goesOn 125 = .ok (.invokevirtual 158, 3) := by decide +kernel
theorem dX8_goesOn_128 : decode cX8_goesOn 128 = .ok (.return_, 1) := by decide +kernel
def mR_goesOn_128 (N : Nat) (σ : ST) (x1 : Int32) (x2 : Int32) : Option (ST) :=
  some σ
set_option maxRecDepth 20000 in
set_option maxHeartbeats 2000000 in
theorem tR_goesOn_128 {adr : Nat → Nat} {cI cZ : ClassId} {X : zX} {q : ST} (B : zC X 3 (wdR adr cI cZ) cX8_goesOn RX8 none { frames := 6, cells := 0, slots := 0, locals := 140 }) (N : Nat) (σ : ST) (x1 : Int32) (x2 : Int32) (hf : mR_goesOn_128 N σ x1 x2 = some q) : zJ X 3 (wdR adr cI cZ) (zu q) 128 [(0, .ref (adr 0)), (1, .int x1), (2, .int x2)] [] σ := by
  exact z_return B dX8_goesOn_128 hf
def mR_goesOn (N : Nat) (σ : ST) (x1 : Int32) (x2 : Int32) : Option (ST) :=
  zLet ((x1 : Int32) + (5)) fun v6 =>
  zGet (σ 1) 1974 v6 fun v7 =>
  if (v7 : Int32) = 0 then
    zLet ((x1 : Int32) + (4)) fun v17 =>
    zGet (σ 1) 1974 v17 fun v18 =>
    zGet (σ 1) 1974 (1) fun v24 =>
    if (v18 : Int32) < v24 then
      mR_goesOn_128 N σ x1 x2
    else
      zCallu (mR_proves N σ x1) fun s30 =>
      zCallu (mR_batch N s30 x1 x2) fun s36 =>
      mR_goesOn_128 N s36 x1 x2
  else
    zLet ((x1 : Int32) + (7)) fun v49 =>
    zGet (σ 1) 1974 v49 fun v50 =>
    if (v50 : Int32) = x2 then
      zLet ((x1 : Int32) + (5)) fun v64 =>
      zGet (σ 1) 1974 v64 fun v65 =>
      zLet (((2) : Int32) * v65) fun v66 =>
      zGet (σ 1) 1974 (3) fun v72 =>
      zCall (mR_lesser N σ v66 v72) fun v73 s73 =>
      zCallu (mR_widens N s73 x1 v73) fun s76 =>
      zCallu (mR_batch N s76 x1 x2) fun s82 =>
      mR_goesOn_128 N s82 x1 x2
    else
      zLet ((x1 : Int32) + (6)) fun v97 =>
      zGet (σ 1) 1974 v97 fun v98 =>
      zCall (mR_isAheadOf N σ x1 v98) fun v99 s99 =>
      if (v99 : Int32) = 0 then
        zLet ((x1 : Int32) + (6)) fun v112 =>
        zLet ((x1 : Int32) + (2)) fun v119 =>
        zGet (s99 1) 1974 v119 fun v120 =>
        zSet s99 1 1974 v112 v120 fun s121 =>
        zCallu (mR_batch N s121 x1 x2) fun s125 =>
        mR_goesOn_128 N s125 x1 x2
      else
        mR_goesOn_128 N s99 x1 x2
set_option maxRecDepth 20000 in
set_option maxHeartbeats 2000000 in
theorem cR_goesOn {adr : Nat → Nat} {cI cZ : ClassId} {l : Launch} {D : va_G} {N : Nat} {σ : ST} {x1 : Int32} {x2 : Int32} (q : ST) (hf : mR_goesOn N σ x1 x2 = some q) : zM l D (wdR adr cI cZ) yX8_goesOn cX8_goesOn 3 none ({ frames := 6, cells := 0, slots := 0, locals := 140 }) [.ref (adr 0), .int x1, .int x2] σ (zu q) := by
  refine zM_of sfR_ok rfl (Nat.le_of_ble_eq_true rfl) [(0, .ref (adr 0)), (1, .int x1), (2, .int x2)] rfl (fun X hX1 hX2 B => ?_)
  have B : zC X 3 (wdR adr cI cZ) cX8_goesOn RX8 none { frames := 6, cells := 0, slots := 0, locals := 140 } := B
  refine z_aload_n B dX8_goesOn_0 0 rfl rfl ?_
  refine fR_g_row B dX8_goesOn_1 ?_
  refine z_iload_n B dX8_goesOn_4 1 rfl rfl ?_
  refine z_iconst B (5) dX8_goesOn_5 zc_iconst_5 ?_
  refine z_iadd B dX8_goesOn_6 hf (fun v6 hf => ?_)
  refine fR_l_row B dX8_goesOn_7 hf (fun v7 hf => ?_)
  refine z_if_ne B 42 dX8_goesOn_8 (by decide) hf (fun hf => ?_) (fun hf => ?_)
  · refine z_aload_n B dX8_goesOn_42 0 rfl rfl ?_
    refine fR_g_row B dX8_goesOn_43 ?_
    refine z_iload_n B dX8_goesOn_46 1 rfl rfl ?_
    refine z_bipush B (7) dX8_goesOn_47 zc_bipush_7 ?_
    refine z_iadd B dX8_goesOn_49 hf (fun v49 hf => ?_)
    refine fR_l_row B dX8_goesOn_50 hf (fun v50 hf => ?_)
    refine z_iload_n B dX8_goesOn_51 2 rfl rfl ?_
    refine z_icmp_ne B 88 dX8_goesOn_52 (by decide) hf (fun hf => ?_) (fun hf => ?_)
    · refine z_aload_n B dX8_goesOn_88 0 rfl rfl ?_
      refine z_iload_n B dX8_goesOn_89 1 rfl rfl ?_
      refine z_aload_n B dX8_goesOn_90 0 rfl rfl ?_
      refine fR_g_row B dX8_goesOn_91 ?_
      refine z_iload_n B dX8_goesOn_94 1 rfl rfl ?_
      refine z_bipush B (6) dX8_goesOn_95 zc_bipush_6 ?_
      refine z_iadd B dX8_goesOn_97 hf (fun v97 hf => ?_)
      refine fR_l_row B dX8_goesOn_98 hf (fun v98 hf => ?_)
      refine z_callVi B (As := [.int x1, .int v98]) kcV_X8_161 dX8_goesOn_99 hf (fun q hq => cR_isAheadOf q hq) (wR_o (adr := adr) (cI := cI) (cZ := cZ)) rfl rfl rfl rfl (Nat.le_of_ble_eq_true rfl) rfl rfl ⟨Nat.le_of_ble_eq_true rfl, Nat.le_of_ble_eq_true rfl⟩ (fun v99 s99 hf => ?_)
      refine z_if_ne B 128 dX8_goesOn_102 (by decide) hf (fun hf => ?_) (fun hf => ?_)
      · exact tR_goesOn_128 B N s99 x1 x2 hf
      · refine z_aload_n B dX8_goesOn_105 0 rfl rfl ?_
        refine fR_g_row B dX8_goesOn_106 ?_
        refine z_iload_n B dX8_goesOn_109 1 rfl rfl ?_
        refine z_bipush B (6) dX8_goesOn_110 zc_bipush_6 ?_
        refine z_iadd B dX8_goesOn_112 hf (fun v112 hf => ?_)
        refine z_aload_n B dX8_goesOn_113 0 rfl rfl ?_
        refine fR_g_row B dX8_goesOn_114 ?_
        refine z_iload_n B dX8_goesOn_117 1 rfl rfl ?_
        refine z_iconst B (2) dX8_goesOn_118 zc_iconst_2 ?_
        refine z_iadd B dX8_goesOn_119 hf (fun v119 hf => ?_)
        refine fR_l_row B dX8_goesOn_120 hf (fun v120 hf => ?_)
        refine fR_s_row B dX8_goesOn_121 hf (fun s121 hf => ?_)
        refine z_aload_n B dX8_goesOn_122 0 rfl rfl ?_
        refine z_iload_n B dX8_goesOn_123 1 rfl rfl ?_
        refine z_iload_n B dX8_goesOn_124 2 rfl rfl ?_
        refine z_callVu B (As := [.int x1, .int x2]) kcV_X8_158 dX8_goesOn_125 hf (fun q hq => cR_batch q hq) (wR_o (adr := adr) (cI := cI) (cZ := cZ)) rfl rfl rfl rfl (Nat.le_of_ble_eq_true rfl) rfl rfl ⟨Nat.le_of_ble_eq_true rfl, Nat.le_of_ble_eq_true rfl⟩ (fun s125 hf => ?_)
        exact tR_goesOn_128 B N s125 x1 x2 hf
    · refine z_aload_n B dX8_goesOn_55 0 rfl rfl ?_
      refine z_iload_n B dX8_goesOn_56 1 rfl rfl ?_
      refine z_iconst B (2) dX8_goesOn_57 zc_iconst_2 ?_
      refine z_aload_n B dX8_goesOn_58 0 rfl rfl ?_
      refine fR_g_row B dX8_goesOn_59 ?_
      refine z_iload_n B dX8_goesOn_62 1 rfl rfl ?_
      refine z_iconst B (5) dX8_goesOn_63 zc_iconst_5 ?_
      refine z_iadd B dX8_goesOn_64 hf (fun v64 hf => ?_)
      refine fR_l_row B dX8_goesOn_65 hf (fun v65 hf => ?_)
      refine z_imul B dX8_goesOn_66 hf (fun v66 hf => ?_)
      refine z_aload_n B dX8_goesOn_67 0 rfl rfl ?_
      refine fR_g_row B dX8_goesOn_68 ?_
      refine z_iconst B (3) dX8_goesOn_71 zc_iconst_3 ?_
      refine fR_l_row B dX8_goesOn_72 hf (fun v72 hf => ?_)
      refine z_callSi B (As := [.int v66, .int v72]) kcS_X8_151 dX8_goesOn_73 hf (fun q hq => cR_lesser q hq) rfl rfl (Nat.le_of_ble_eq_true rfl) rfl rfl ⟨Nat.le_of_ble_eq_true rfl, Nat.le_of_ble_eq_true rfl⟩ (fun v73 s73 hf => ?_)
      refine z_callVu B (As := [.int x1, .int v73]) kcV_X8_98 dX8_goesOn_76 hf (fun q hq => cR_widens q hq) (wR_o (adr := adr) (cI := cI) (cZ := cZ)) rfl rfl rfl rfl (Nat.le_of_ble_eq_true rfl) rfl rfl ⟨Nat.le_of_ble_eq_true rfl, Nat.le_of_ble_eq_true rfl⟩ (fun s76 hf => ?_)
      refine z_aload_n B dX8_goesOn_79 0 rfl rfl ?_
      refine z_iload_n B dX8_goesOn_80 1 rfl rfl ?_
      refine z_iload_n B dX8_goesOn_81 2 rfl rfl ?_
      refine z_callVu B (As := [.int x1, .int x2]) kcV_X8_158 dX8_goesOn_82 hf (fun q hq => cR_batch q hq) (wR_o (adr := adr) (cI := cI) (cZ := cZ)) rfl rfl rfl rfl (Nat.le_of_ble_eq_true rfl) rfl rfl ⟨Nat.le_of_ble_eq_true rfl, Nat.le_of_ble_eq_true rfl⟩ (fun s82 hf => ?_)
      refine z_goto B 128 dX8_goesOn_85 (by decide) ?_
      exact tR_goesOn_128 B N s82 x1 x2 hf
  · refine z_aload_n B dX8_goesOn_11 0 rfl rfl ?_
    refine fR_g_row B dX8_goesOn_12 ?_
    refine z_iload_n B dX8_goesOn_15 1 rfl rfl ?_
    refine z_iconst B (4) dX8_goesOn_16 zc_iconst_4 ?_
    refine z_iadd B dX8_goesOn_17 hf (fun v17 hf => ?_)
    refine fR_l_row B dX8_goesOn_18 hf (fun v18 hf => ?_)
    refine z_aload_n B dX8_goesOn_19 0 rfl rfl ?_
    refine fR_g_row B dX8_goesOn_20 ?_
    refine z_iconst B (1) dX8_goesOn_23 zc_iconst_1 ?_
    refine fR_l_row B dX8_goesOn_24 hf (fun v24 hf => ?_)
    refine z_icmp_lt B 128 dX8_goesOn_25 (by decide) hf (fun hf => ?_) (fun hf => ?_)
    · exact tR_goesOn_128 B N σ x1 x2 hf
    · refine z_aload_n B dX8_goesOn_28 0 rfl rfl ?_
      refine z_iload_n B dX8_goesOn_29 1 rfl rfl ?_
      refine z_callVu B (As := [.int x1]) kcV_X8_155 dX8_goesOn_30 hf (fun q hq => cR_proves q hq) (wR_o (adr := adr) (cI := cI) (cZ := cZ)) rfl rfl rfl rfl (Nat.le_of_ble_eq_true rfl) rfl rfl ⟨Nat.le_of_ble_eq_true rfl, Nat.le_of_ble_eq_true rfl⟩ (fun s30 hf => ?_)
      refine z_aload_n B dX8_goesOn_33 0 rfl rfl ?_
      refine z_iload_n B dX8_goesOn_34 1 rfl rfl ?_
      refine z_iload_n B dX8_goesOn_35 2 rfl rfl ?_
      refine z_callVu B (As := [.int x1, .int x2]) kcV_X8_158 dX8_goesOn_36 hf (fun q hq => cR_batch q hq) (wR_o (adr := adr) (cI := cI) (cZ := cZ)) rfl rfl rfl rfl (Nat.le_of_ble_eq_true rfl) rfl rfl ⟨Nat.le_of_ble_eq_true rfl, Nat.le_of_ble_eq_true rfl⟩ (fun s36 hf => ?_)
      refine z_goto B 128 dX8_goesOn_39 (by decide) ?_
      exact tR_goesOn_128 B N s36 x1 x2 hf
theorem dX8_newPlace_0 : decode cX8_newPlace 0 = .ok (.iconst (-1), 1) := by decide +kernel
theorem dX8_newPlace_1 : decode cX8_newPlace 1 = .ok (.istore_n 1, 1) := by decide +kernel
theorem dX8_newPlace_2 : decode cX8_newPlace 2 = .ok (.iconst 0, 1) := by decide +kernel
theorem dX8_newPlace_3 : decode cX8_newPlace 3 = .ok (.istore_n 2, 1) := by decide +kernel
theorem dX8_newPlace_4 : decode cX8_newPlace 4 = .ok (.iconst 0, 1) := by decide +kernel
theorem dX8_newPlace_5 : decode cX8_newPlace 5 = .ok (.istore_n 3, 1) := by decide +kernel
theorem dX8_newPlace_6 : decode cX8_newPlace 6 = .ok (.iload_n 3, 1) := by decide +kernel
theorem dX8_newPlace_7 : decode cX8_newPlace 7 = .ok (.aload_n 0, 1) := by decide +kernel
theorem dX8_newPlace_8 : decode cX8_newPlace 8 = .ok (.getfield 9, 3) := by decide +kernel
theorem dX8_newPlace_11 : decode cX8_newPlace 11 = .ok (.bipush 6, 2) := by decide +kernel
theorem dX8_newPlace_13 : decode cX8_newPlace 13 = .ok (.iaload, 1) := by decide +kernel
theorem dX8_newPlace_14 : decode cX8_newPlace 14 = .ok (.if_icmp .ge 95, 3) := by decide +kernel
theorem dX8_newPlace_17 : decode cX8_newPlace 17 = .ok (.iload_n 3, 1) := by decide +kernel
theorem dX8_newPlace_18 : decode cX8_newPlace 18 = .ok (.invokestatic 89, 3) := by decide +kernel
theorem dX8_newPlace_21 : decode cX8_newPlace 21 = .ok (.istore 4, 2) := by decide +kernel
theorem dX8_newPlace_23 : decode cX8_newPlace 23 = .ok (.aload_n 0, 1) := by decide +kernel
theorem dX8_newPlace_24 : decode cX8_newPlace 24 = .ok (.getfield 9, 3) := by decide +kernel
theorem dX8_newPlace_27 : decode cX8_newPlace 27 = .ok (.iload 4, 2) := by decide +kernel
theorem dX8_newPlace_29 : decode cX8_newPlace 29 = .ok (.iaload, 1) := by decide +kernel
theorem dX8_newPlace_30 : decode cX8_newPlace 30 = .ok (.ifCond .ne 6, 3) := by decide +kernel
theorem dX8_newPlace_33 : decode cX8_newPlace 33 = .ok (.iload 4, 2) := by decide +kernel
theorem dX8_newPlace_35 : decode cX8_newPlace 35 = .ok (.ireturn, 1) := by decide +kernel
theorem dX8_newPlace_36 : decode cX8_newPlace 36 = .ok (.aload_n 0, 1) := by decide +kernel
theorem dX8_newPlace_37 : decode cX8_newPlace 37 = .ok (.getfield 9, 3) := by decide +kernel
theorem dX8_newPlace_40 : decode cX8_newPlace 40 = .ok (.iload 4, 2) := by decide +kernel
theorem dX8_newPlace_42 : decode cX8_newPlace 42 = .ok (.iconst 5, 1) := by decide +kernel
theorem dX8_newPlace_43 : decode cX8_newPlace 43 = .ok (.iadd, 1) := by decide +kernel
theorem dX8_newPlace_44 : decode cX8_newPlace 44 = .ok (.iaload, 1) := by decide +kernel
theorem dX8_newPlace_45 : decode cX8_newPlace 45 = .ok (.ifCond .ne 7, 3) := by decide +kernel
theorem dX8_newPlace_48 : decode cX8_newPlace 48 = .ok (.iconst 1, 1) := by decide +kernel
theorem dX8_newPlace_49 : decode cX8_newPlace 49 = .ok (.goto 4, 3) := by decide +kernel
theorem dX8_newPlace_52 : decode cX8_newPlace 52 = .ok (.iconst 0, 1) := by decide +kernel
theorem dX8_newPlace_53 : decode cX8_newPlace 53 = .ok (.istore 5, 2) := by decide +kernel
theorem dX8_newPlace_55 : decode cX8_newPlace 55 = .ok (.iload_n 1, 1) := by decide +kernel
theorem dX8_newPlace_56 : decode cX8_newPlace 56 = .ok (.iconst (-1), 1) := by decide +kernel
theorem dX8_newPlace_57 : decode cX8_newPlace 57 = .ok (.if_icmp .eq 40, 3) := by decide +kernel
theorem dX8_newPlace_60 : decode cX8_newPlace 60 = .ok (.iload 5, 2) := by decide +kernel
theorem dX8_newPlace_62 : decode cX8_newPlace 62 = .ok (.ifCond .eq 7, 3) := by decide +kernel
theorem dX8_newPlace_65 : decode cX8_newPlace 65 = .ok (.iload_n 2, 1) := by decide +kernel
theorem dX8_newPlace_66 : decode cX8_newPlace 66 = .ok (.ifCond .eq 31, 3) := by decide +kernel
theorem dX8_newPlace_69 : decode cX8_newPlace 69 = .ok (.iload 5, 2) := by decide +kernel
theorem dX8_newPlace_71 : decode cX8_newPlace 71 = .ok (.iload_n 2, 1) := by decide +kernel
theorem dX8_newPlace_72 : decode cX8_newPlace 72 = .ok (.if_icmp .ne 31, 3) := by decide +kernel
theorem dX8_newPlace_75 : decode cX8_newPlace 75 = .ok (.aload_n 0, 1) := by decide +kernel
theorem dX8_newPlace_76 : decode cX8_newPlace 76 = .ok (.getfield 9, 3) := by decide +kernel
theorem dX8_newPlace_79 : decode cX8_newPlace 79 = .ok (.iload 4, 2) := by decide +kernel
theorem dX8_newPlace_81 : decode cX8_newPlace 81 = .ok (.bipush 8, 2) := by decide +kernel
theorem dX8_newPlace_83 : decode cX8_newPlace 83 = .ok (.iadd, 1) := by decide +kernel
theorem dX8_newPlace_84 : decode cX8_newPlace 84 = .ok (.iaload, 1) := by decide +kernel
theorem dX8_newPlace_85 : decode cX8_newPlace 85 = .ok (.aload_n 0, 1) := by decide +kernel
theorem dX8_newPlace_86 : decode cX8_newPlace 86 = .ok (.getfield 9, 3) := by decide +kernel
theorem dX8_newPlace_89 : decode cX8_newPlace 89 = .ok (.iload_n 1, 1) := by decide +kernel
theorem dX8_newPlace_90 : decode cX8_newPlace 90 = .ok (.bipush 8, 2) := by decide +kernel
theorem dX8_newPlace_92 : decode cX8_newPlace 92 = .ok (.iadd, 1) := by decide +kernel
theorem dX8_newPlace_93 : decode cX8_newPlace 93 = .ok (.iaload, 1) := by decide +kernel
theorem dX8_newPlace_94 : decode cX8_newPlace 94 = .ok (.if_icmp .ge 9, 3) := by decide +kernel
theorem dX8_newPlace_97 : decode cX8_newPlace 97 = .ok (.iload 4, 2) := by decide +kernel
theorem dX8_newPlace_99 : decode cX8_newPlace 99 = .ok (.istore_n 1, 1) := by decide +kernel
theorem dX8_newPlace_100 : decode cX8_newPlace 100 = .ok (.iload 5, 2) := by decide +kernel
theorem dX8_newPlace_102 : decode cX8_newPlace 102 = .ok (.istore_n 2, 1) := by decide +kernel
theorem dX8_newPlace_103 : decode cX8_newPlace 103 = .ok (.iinc 3 1, 3) := by decide +kernel
theorem dX8_newPlace_106 : decode cX8_newPlace 106 = .ok (.goto (-100), 3) := by decide +kernel
theorem dX8_newPlace_109 : decode cX8_newPlace 109 = .ok (.iload_n 1, 1) := by decide +kernel
theorem dX8_newPlace_110 : decode cX8_newPlace 110 = .ok (.ireturn, 1) := by decide +kernel
def mR_newPlace_103 (N : Nat) (hd6 : ST → Int32 → Int32 → Int32 → Option (Int32 × ST)) (σ : ST) (x1 : Int32) (x2 : Int32) (x3 : Int32) (x4 : Int32) (x5 : Int32) : Option (Int32 × ST) :=
  zLet (x3 + (1)) fun v103 =>
  hd6 σ x1 x2 v103
set_option maxRecDepth 20000 in
set_option maxHeartbeats 2000000 in
theorem tR_newPlace_103 {adr : Nat → Nat} {cI cZ : ClassId} {X : zX} {q : Int32 × ST} (B : zC X 6 (wdR adr cI cZ) cX8_newPlace RX8 (some .int) { frames := 1, cells := 0, slots := 0, locals := 20 }) (N : Nat) (hd6 : ST → Int32 → Int32 → Int32 → Option (Int32 × ST)) (hh6 : ∀ (σ : ST) (x1 : Int32) (x2 : Int32) (x3 : Int32), hd6 σ x1 x2 x3 = some q → zJ X 6 (wdR adr cI cZ) (zi q) 6 [(0, .ref (adr 0)), (1, .int x1), (2, .int x2), (3, .int x3)] [] σ) (σ : ST) (x1 : Int32) (x2 : Int32) (x3 : Int32) (x4 : Int32) (x5 : Int32) (hf : mR_newPlace_103 N hd6 σ x1 x2 x3 x4 x5 = some q) : zJ X 6 (wdR adr cI cZ) (zi q) 103 [(0, .ref (adr 0)), (1, .int x1), (2, .int x2), (3, .int x3), (4, .int x4), (5, .int x5)] [] σ := by
  refine z_iinc B (1) 3 (fun v103 => [(3, .int v103), (0, .ref (adr 0)), (1, .int x1), (2, .int x2), (4, .int x4), (5, .int x5)]) dX8_newPlace_103 hf zc_iconst_1 rfl (Nat.le_of_ble_eq_true rfl) (fun _ => rfl) (fun v103 hf => ?_)
  refine z_goto B 6 dX8_newPlace_106 (by decide) ?_
  exact z_loc [1, 2, 3, 0] _ rfl (hh6 σ x1 x2 v103 hf)
def mR_newPlace_97 (N : Nat) (hd6 : ST → Int32 → Int32 → Int32 → Option (Int32 × ST)) (σ : ST) (x1 : Int32) (x2 : Int32) (x3 : Int32) (x4 : Int32) (x5 : Int32) : Option (Int32 × ST) :=
  mR_newPlace_103 N hd6 σ x4 x5 x3 x4 x5
set_option maxRecDepth 20000 in
set_option maxHeartbeats 2000000 in
theorem tR_newPlace_97 {adr : Nat → Nat} {cI cZ : ClassId} {X : zX} {q : Int32 × ST} (B : zC X 6 (wdR adr cI cZ) cX8_newPlace RX8 (some .int) { frames := 1, cells := 0, slots := 0, locals := 20 }) (N : Nat) (hd6 : ST → Int32 → Int32 → Int32 → Option (Int32 × ST)) (hh6 : ∀ (σ : ST) (x1 : Int32) (x2 : Int32) (x3 : Int32), hd6 σ x1 x2 x3 = some q → zJ X 6 (wdR adr cI cZ) (zi q) 6 [(0, .ref (adr 0)), (1, .int x1), (2, .int x2), (3, .int x3)] [] σ) (σ : ST) (x1 : Int32) (x2 : Int32) (x3 : Int32) (x4 : Int32) (x5 : Int32) (hf : mR_newPlace_97 N hd6 σ x1 x2 x3 x4 x5 = some q) : zJ X 6 (wdR adr cI cZ) (zi q) 97 [(0, .ref (adr 0)), (1, .int x1), (2, .int x2), (3, .int x3), (4, .int x4), (5, .int x5)] [] σ := by
  refine z_iload B dX8_newPlace_97 4 rfl ?_
  refine z_istore_n B [(1, .int x4), (0, .ref (adr 0)), (2, .int x2), (3, .int x3), (4, .int x4), (5, .int x5)] dX8_newPlace_99 rfl (Nat.le_of_ble_eq_true rfl) rfl ?_
  refine z_iload B dX8_newPlace_100 5 rfl ?_
  refine z_istore_n B [(2, .int x5), (1, .int x4), (0, .ref (adr 0)), (3, .int x3), (4, .int x4), (5, .int x5)] dX8_newPlace_102 rfl (Nat.le_of_ble_eq_true rfl) rfl ?_
  exact z_loc [2, 1, 0, 3, 4, 5] _ rfl (tR_newPlace_103 B N hd6 hh6 σ x4 x5 x3 x4 x5 hf)
def mR_newPlace_69 (N : Nat) (hd6 : ST → Int32 → Int32 → Int32 → Option (Int32 × ST)) (σ : ST) (x1 : Int32) (x2 : Int32) (x3 : Int32) (x4 : Int32) (x5 : Int32) : Option (Int32 × ST) :=
  if (x5 : Int32) = x2 then
    zLet ((x4 : Int32) + (8)) fun v83 =>
    zGet (σ 1) 1974 v83 fun v84 =>
    zLet ((x1 : Int32) + (8)) fun v92 =>
    zGet (σ 1) 1974 v92 fun v93 =>
    if (v93 : Int32) ≤ v84 then
      mR_newPlace_103 N hd6 σ x1 x2 x3 x4 x5
    else
      mR_newPlace_97 N hd6 σ x1 x2 x3 x4 x5
  else
    mR_newPlace_103 N hd6 σ x1 x2 x3 x4 x5
set_option maxRecDepth 20000 in
set_option maxHeartbeats 2000000 in
theorem tR_newPlace_69 {adr : Nat → Nat} {cI cZ : ClassId} {X : zX} {q : Int32 × ST} (B : zC X 6 (wdR adr cI cZ) cX8_newPlace RX8 (some .int) { frames := 1, cells := 0, slots := 0, locals := 20 }) (N : Nat) (hd6 : ST → Int32 → Int32 → Int32 → Option (Int32 × ST)) (hh6 : ∀ (σ : ST) (x1 : Int32) (x2 : Int32) (x3 : Int32), hd6 σ x1 x2 x3 = some q → zJ X 6 (wdR adr cI cZ) (zi q) 6 [(0, .ref (adr 0)), (1, .int x1), (2, .int x2), (3, .int x3)] [] σ) (σ : ST) (x1 : Int32) (x2 : Int32) (x3 : Int32) (x4 : Int32) (x5 : Int32) (hf : mR_newPlace_69 N hd6 σ x1 x2 x3 x4 x5 = some q) : zJ X 6 (wdR adr cI cZ) (zi q) 69 [(0, .ref (adr 0)), (1, .int x1), (2, .int x2), (3, .int x3), (4, .int x4), (5, .int x5)] [] σ := by
  refine z_iload B dX8_newPlace_69 5 rfl ?_
  refine z_iload_n B dX8_newPlace_71 2 rfl rfl ?_
  refine z_icmp_ne B 103 dX8_newPlace_72 (by decide) hf (fun hf => ?_) (fun hf => ?_)
  · exact tR_newPlace_103 B N hd6 hh6 σ x1 x2 x3 x4 x5 hf
  · refine z_aload_n B dX8_newPlace_75 0 rfl rfl ?_
    refine fR_g_row B dX8_newPlace_76 ?_
    refine z_iload B dX8_newPlace_79 4 rfl ?_
    refine z_bipush B (8) dX8_newPlace_81 zc_bipush_8 ?_
    refine z_iadd B dX8_newPlace_83 hf (fun v83 hf => ?_)
    refine fR_l_row B dX8_newPlace_84 hf (fun v84 hf => ?_)
    refine z_aload_n B dX8_newPlace_85 0 rfl rfl ?_
    refine fR_g_row B dX8_newPlace_86 ?_
    refine z_iload_n B dX8_newPlace_89 1 rfl rfl ?_
    refine z_bipush B (8) dX8_newPlace_90 zc_bipush_8 ?_
    refine z_iadd B dX8_newPlace_92 hf (fun v92 hf => ?_)
    refine fR_l_row B dX8_newPlace_93 hf (fun v93 hf => ?_)
    refine z_icmp_ge B 103 dX8_newPlace_94 (by decide) hf (fun hf => ?_) (fun hf => ?_)
    · exact tR_newPlace_103 B N hd6 hh6 σ x1 x2 x3 x4 x5 hf
    · exact tR_newPlace_97 B N hd6 hh6 σ x1 x2 x3 x4 x5 hf
def mR_newPlace_53 (N : Nat) (hd6 : ST → Int32 → Int32 → Int32 → Option (Int32 × ST)) (σ : ST) (x1 : Int32) (x2 : Int32) (x3 : Int32) (x4 : Int32) (k0 : Int32) : Option (Int32 × ST) :=
  if (x1 : Int32) = (-1) then
    mR_newPlace_97 N hd6 σ x1 x2 x3 x4 k0
  else
    if (k0 : Int32) = 0 then
      mR_newPlace_69 N hd6 σ x1 x2 x3 x4 k0
    else
      if (x2 : Int32) = 0 then
        mR_newPlace_97 N hd6 σ x1 x2 x3 x4 k0
      else
        mR_newPlace_69 N hd6 σ x1 x2 x3 x4 k0
set_option maxRecDepth 20000 in
set_option maxHeartbeats 2000000 in
theorem tR_newPlace_53 {adr : Nat → Nat} {cI cZ : ClassId} {X : zX} {q : Int32 × ST} (B : zC X 6 (wdR adr cI cZ) cX8_newPlace RX8 (some .int) { frames := 1, cells := 0, slots := 0, locals := 20 }) (N : Nat) (hd6 : ST → Int32 → Int32 → Int32 → Option (Int32 × ST)) (hh6 : ∀ (σ : ST) (x1 : Int32) (x2 : Int32) (x3 : Int32), hd6 σ x1 x2 x3 = some q → zJ X 6 (wdR adr cI cZ) (zi q) 6 [(0, .ref (adr 0)), (1, .int x1), (2, .int x2), (3, .int x3)] [] σ) (σ : ST) (x1 : Int32) (x2 : Int32) (x3 : Int32) (x4 : Int32) (k0 : Int32) (hf : mR_newPlace_53 N hd6 σ x1 x2 x3 x4 k0 = some q) : zJ X 6 (wdR adr cI cZ) (zi q) 53 [(0, .ref (adr 0)), (1, .int x1), (2, .int x2), (3, .int x3), (4, .int x4)] [.int k0] σ := by
  refine z_istore B [(5, .int k0), (0, .ref (adr 0)), (1, .int x1), (2, .int x2), (3, .int x3), (4, .int x4)] dX8_newPlace_53 (Nat.le_of_ble_eq_true rfl) rfl ?_
  refine z_iload_n B dX8_newPlace_55 2 rfl rfl ?_
  refine z_iconst B (-1) dX8_newPlace_56 zc_iconst_m1 ?_
  refine z_icmp_eq B 97 dX8_newPlace_57 (by decide) hf (fun hf => ?_) (fun hf => ?_)
  · exact z_loc [1, 2, 3, 4, 5, 0] _ rfl (tR_newPlace_97 B N hd6 hh6 σ x1 x2 x3 x4 k0 hf)
  · refine z_iload B dX8_newPlace_60 0 rfl ?_
    refine z_if_eq B 69 dX8_newPlace_62 (by decide) hf (fun hf => ?_) (fun hf => ?_)
    · exact z_loc [1, 2, 3, 4, 5, 0] _ rfl (tR_newPlace_69 B N hd6 hh6 σ x1 x2 x3 x4 k0 hf)
    · refine z_iload_n B dX8_newPlace_65 3 rfl rfl ?_
      refine z_if_eq B 97 dX8_newPlace_66 (by decide) hf (fun hf => ?_) (fun hf => ?_)
      · exact z_loc [1, 2, 3, 4, 5, 0] _ rfl (tR_newPlace_97 B N hd6 hh6 σ x1 x2 x3 x4 k0 hf)
      · exact z_loc [1, 2, 3, 4, 5, 0] _ rfl (tR_newPlace_69 B N hd6 hh6 σ x1 x2 x3 x4 k0 hf)
def mR_newPlace_B6 (N : Nat) (hd6 : ST → Int32 → Int32 → Int32 → Option (Int32 × ST)) (σ : ST) (x1 : Int32) (x2 : Int32) (x3 : Int32) : Option (Int32 × ST) :=
  zGet (σ 1) 1974 (6) fun v13 =>
  if (v13 : Int32) ≤ x3 then
    some (x1, σ)
  else
    zCall (mR_streamAt N σ x3) fun v18 s18 =>
    zGet (s18 1) 1974 v18 fun v29 =>
    if (v29 : Int32) = 0 then
      some (v18, s18)
    else
      zLet ((v18 : Int32) + (5)) fun v43 =>
      zGet (s18 1) 1974 v43 fun v44 =>
      if (v44 : Int32) = 0 then
        mR_newPlace_53 N hd6 s18 x1 x2 x3 v18 (1)
      else
        mR_newPlace_53 N hd6 s18 x1 x2 x3 v18 (0)
def mR_newPlace_6 (N : Nat) : ST → Int32 → Int32 → Int32 → Option (Int32 × ST) := zIt (mR_newPlace_B6 N) (fun _ _ _ _ => none) N
set_option maxRecDepth 20000 in
set_option maxHeartbeats 2000000 in
theorem tR_newPlace_6 {adr : Nat → Nat} {cI cZ : ClassId} {X : zX} {q : Int32 × ST} (B : zC X 6 (wdR adr cI cZ) cX8_newPlace RX8 (some .int) { frames := 1, cells := 0, slots := 0, locals := 20 }) (N : Nat) : ∀ (σ : ST) (x1 : Int32) (x2 : Int32) (x3 : Int32), mR_newPlace_6 N σ x1 x2 x3 = some q → zJ X 6 (wdR adr cI cZ) (zi q) 6 [(0, .ref (adr 0)), (1, .int x1), (2, .int x2), (3, .int x3)] [] σ := by
  refine zIt_ind (P := fun (hd : ST → Int32 → Int32 → Int32 → Option (Int32 × ST)) => ∀ (σ : ST) (x1 : Int32) (x2 : Int32) (x3 : Int32), hd σ x1 x2 x3 = some q → zJ X 6 (wdR adr cI cZ) (zi q) 6 [(0, .ref (adr 0)), (1, .int x1), (2, .int x2), (3, .int x3)] [] σ) (fun _ _ _ _ hf => by cases hf) (fun hd6 hh6 => ?_) N
  intro σ x1 x2 x3 hf
  refine z_iload_n B dX8_newPlace_6 3 rfl rfl ?_
  refine z_aload_n B dX8_newPlace_7 0 rfl rfl ?_
  refine fR_g_row B dX8_newPlace_8 ?_
  refine z_bipush B (6) dX8_newPlace_11 zc_bipush_6 ?_
  refine fR_l_row B dX8_newPlace_13 hf (fun v13 hf => ?_)
  refine z_icmp_ge B 109 dX8_newPlace_14 (by decide) hf (fun hf => ?_) (fun hf => ?_)
  · refine z_iload_n B dX8_newPlace_109 1 rfl rfl ?_
    exact z_ireturn B dX8_newPlace_110 hf
  · refine z_iload_n B dX8_newPlace_17 3 rfl rfl ?_
    refine z_callSi B (As := [.int x3]) kcS_X8_89 dX8_newPlace_18 hf (fun q hq => cR_streamAt q hq) rfl rfl (Nat.le_of_ble_eq_true rfl) rfl rfl ⟨Nat.le_of_ble_eq_true rfl, Nat.le_of_ble_eq_true rfl⟩ (fun v18 s18 hf => ?_)
    refine z_istore B [(4, .int v18), (0, .ref (adr 0)), (1, .int x1), (2, .int x2), (3, .int x3)] dX8_newPlace_21 (Nat.le_of_ble_eq_true rfl) rfl ?_
    refine z_aload_n B dX8_newPlace_23 1 rfl rfl ?_
    refine fR_g_row B dX8_newPlace_24 ?_
    refine z_iload B dX8_newPlace_27 0 rfl ?_
    refine fR_l_row B dX8_newPlace_29 hf (fun v29 hf => ?_)
    refine z_if_ne B 36 dX8_newPlace_30 (by decide) hf (fun hf => ?_) (fun hf => ?_)
    · refine z_aload_n B dX8_newPlace_36 1 rfl rfl ?_
      refine fR_g_row B dX8_newPlace_37 ?_
      refine z_iload B dX8_newPlace_40 0 rfl ?_
      refine z_iconst B (5) dX8_newPlace_42 zc_iconst_5 ?_
      refine z_iadd B dX8_newPlace_43 hf (fun v43 hf => ?_)
      refine fR_l_row B dX8_newPlace_44 hf (fun v44 hf => ?_)
      refine z_if_ne B 52 dX8_newPlace_45 (by decide) hf (fun hf => ?_) (fun hf => ?_)
      · refine z_iconst B (0) dX8_newPlace_52 zc_iconst_0 ?_
        exact z_loc [1, 2, 3, 4, 0] _ rfl (tR_newPlace_53 B N hd6 hh6 s18 x1 x2 x3 v18 (0) hf)
      · refine z_iconst B (1) dX8_newPlace_48 zc_iconst_1 ?_
        refine z_goto B 53 dX8_newPlace_49 (by decide) ?_
        exact z_loc [1, 2, 3, 4, 0] _ rfl (tR_newPlace_53 B N hd6 hh6 s18 x1 x2 x3 v18 (1) hf)
    · refine z_iload B dX8_newPlace_33 0 rfl ?_
      exact z_ireturn B dX8_newPlace_35 hf
def mR_newPlace (N : Nat) (σ : ST) : Option (Int32 × ST) :=
  mR_newPlace_6 N σ (-1) (0) (0)
set_option maxRecDepth 20000 in
set_option maxHeartbeats 2000000 in
theorem cR_newPlace {adr : Nat → Nat} {cI cZ : ClassId} {l : Launch} {D : va_G} {N : Nat} {σ : ST} (q : Int32 × ST) (hf : mR_newPlace N σ = some q) : zM l D (wdR adr cI cZ) yX8_newPlace cX8_newPlace 6 (some .int) ({ frames := 1, cells := 0, slots := 0, locals := 20 }) [.ref (adr 0)] σ (zi q) := by
  refine zM_of sfR_ok rfl (Nat.le_of_ble_eq_true rfl) [(0, .ref (adr 0))] rfl (fun X hX1 hX2 B => ?_)
  have B : zC X 6 (wdR adr cI cZ) cX8_newPlace RX8 (some .int) { frames := 1, cells := 0, slots := 0, locals := 20 } := B
  refine z_iconst B (-1) dX8_newPlace_0 zc_iconst_m1 ?_
  refine z_istore_n B [(1, .int (-1)), (0, .ref (adr 0))] dX8_newPlace_1 rfl (Nat.le_of_ble_eq_true rfl) rfl ?_
  refine z_iconst B (0) dX8_newPlace_2 zc_iconst_0 ?_
  refine z_istore_n B [(2, .int (0)), (1, .int (-1)), (0, .ref (adr 0))] dX8_newPlace_3 rfl (Nat.le_of_ble_eq_true rfl) rfl ?_
  refine z_iconst B (0) dX8_newPlace_4 zc_iconst_0 ?_
  refine z_istore_n B [(3, .int (0)), (2, .int (0)), (1, .int (-1)), (0, .ref (adr 0))] dX8_newPlace_5 rfl (Nat.le_of_ble_eq_true rfl) rfl ?_
  exact z_loc [3, 2, 1, 0] _ rfl (tR_newPlace_6 B N σ (-1) (0) (0) hf)
