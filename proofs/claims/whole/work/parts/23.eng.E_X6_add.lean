theorem dX6_add_0 : decode cX6_add 0 = .ok (.aload_n 0, 1) := by decide +kernel
theorem dX6_add_1 : decode cX6_add 1 = .ok (.getfield 15, 3) := by decide +kernel
theorem dX6_add_4 : decode cX6_add 4 = .ok (.iconst 4, 1) := by decide +kernel
theorem dX6_add_5 : decode cX6_add 5 = .ok (.imul, 1) := by decide +kernel
theorem dX6_add_6 : decode cX6_add 6 = .ok (.istore 5, 2) := by decide +kernel
theorem dX6_add_8 : decode cX6_add 8 = .ok (.iload 5, 2) := by decide +kernel
theorem dX6_add_10 : decode cX6_add 10 = .ok (.ifCond .lt 15, 3) := by decide +kernel
theorem dX6_add_13 : decode cX6_add 13 = .ok (.iload 5, 2) := by decide +kernel
theorem dX6_add_15 : decode cX6_add 15 = .ok (.iconst 4, 1) := by decide +kernel
theorem dX6_add_16 : decode cX6_add 16 = .ok (.iadd, 1) := by decide +kernel
theorem dX6_add_17 : decode cX6_add 17 = .ok (.aload_n 0, 1) := by decide +kernel
theorem dX6_add_18 : decode cX6_add 18 = .ok (.getfield 9, 3) := by decide +kernel
theorem dX6_add_21 : decode cX6_add 21 = .ok (.arraylength, 1) := by decide +kernel
theorem dX6_add_22 : decode cX6_add 22 = .ok (.if_icmp .le 4, 3) := by decide +kernel
theorem dX6_add_25 : decode cX6_add 25 = .ok (.return_, 1) := by decide +kernel
theorem dX6_add_26 : decode cX6_add 26 = .ok (.aload_n 0, 1) := by decide +kernel
theorem dX6_add_27 : decode cX6_add 27 = .ok (.getfield 9, 3) := by decide +kernel
theorem dX6_add_30 : decode cX6_add 30 = .ok (.iload 5, 2) := by decide +kernel
theorem dX6_add_32 : decode cX6_add 32 = .ok (.iload_n 1, 1) := by decide +kernel
theorem dX6_add_33 : decode cX6_add 33 = .ok (.iastore, 1) := by decide +kernel
theorem dX6_add_34 : decode cX6_add 34 = .ok (.aload_n 0, 1) := by decide +kernel
theorem dX6_add_35 : decode cX6_add 35 = .ok (.getfield 9, 3) := by decide +kernel
theorem dX6_add_38 : decode cX6_add 38 = .ok (.iload 5, 2) := by decide +kernel
theorem dX6_add_40 : decode cX6_add 40 = .ok (.iconst 1, 1) := by decide +kernel
theorem dX6_add_41 : decode cX6_add 41 = .ok (.iadd, 1) := by decide +kernel
theorem dX6_add_42 : decode cX6_add 42 = .ok (.iload_n 2, 1) := by decide +kernel
theorem dX6_add_43 : decode cX6_add 43 = .ok (.iastore, 1) := by decide +kernel
theorem dX6_add_44 : decode cX6_add 44 = .ok (.aload_n 0, 1) := by decide +kernel
theorem dX6_add_45 : decode cX6_add 45 = .ok (.getfield 9, 3) := by decide +kernel
theorem dX6_add_48 : decode cX6_add 48 = .ok (.iload 5, 2) := by decide +kernel
theorem dX6_add_50 : decode cX6_add 50 = .ok (.iconst 2, 1) := by decide +kernel
theorem dX6_add_51 : decode cX6_add 51 = .ok (.iadd, 1) := by decide +kernel
theorem dX6_add_52 : decode cX6_add 52 = .ok (.iload_n 3, 1) := by decide +kernel
theorem dX6_add_53 : decode cX6_add 53 = .ok (.iastore, 1) := by decide +kernel
theorem dX6_add_54 : decode cX6_add 54 = .ok (.aload_n 0, 1) := by decide +kernel
theorem dX6_add_55 : decode cX6_add 55 = .ok (.getfield 9, 3) := by decide +kernel
theorem dX6_add_58 : decode cX6_add 58 = .ok (.iload 5, 2) := by decide +kernel
theorem dX6_add_60 : decode cX6_add 60 = .ok (.iconst 3, 1) := by decide +kernel
theorem dX6_add_61 : decode cX6_add 61 = .ok (.iadd, 1) := by decide +kernel
theorem dX6_add_62 : decode cX6_add 62 = .ok (.iload 4, 2) := by decide +kernel
theorem dX6_add_64 : decode cX6_add 64 = .ok (.iastore, 1) := by decide +kernel
theorem dX6_add_65 : decode cX6_add 65 = .ok (.aload_n 0, 1) := by decide +kernel
theorem dX6_add_66 : decode cX6_add 66 = .ok (.aload_n 0, 1) := by decide +kernel
theorem dX6_add_67 : decode cX6_add 67 = .ok (.getfield 15, 3) := by decide +kernel
theorem dX6_add_70 : decode cX6_add 70 = .ok (.iconst 1, 1) := by decide +kernel
theorem dX6_add_71 : decode cX6_add 71 = .ok (.iadd, 1) := by decide +kernel
theorem dX6_add_72 : decode cX6_add 72 = .ok (.bipush 40, 2) := by decide +kernel
theorem dX6_add_74 : decode cX6_add 74 = .ok (.irem, 1) := by decide +kernel
theorem dX6_add_75 : decode cX6_add 75 = .ok (.putfield 15, 3) := by decide +kernel
theorem dX6_add_78 : decode cX6_add 78 = .ok (.aload_n 0, 1) := by decide +kernel
theorem dX6_add_79 : decode cX6_add 79 = .ok (.getfield 19, 3) := by decide +kernel
theorem dX6_add_82 : decode cX6_add 82 = .ok (.bipush 40, 2) := by decide +kernel
theorem dX6_add_84 : decode cX6_add 84 = .ok (.if_icmp .ge 13, 3) := by decide +kernel
theorem dX6_add_87 : decode cX6_add 87 = .ok (.aload_n 0, 1) := by decide +kernel
theorem dX6_add_88 : decode cX6_add 88 = .ok (.dup, 1) := by decide +kernel
theorem dX6_add_89 : decode cX6_add 89 = .ok (.getfield 19, 3) := by decide +kernel
theorem dX6_add_92 : decode cX6_add 92 = .ok (.iconst 1, 1) := by decide +kernel
theorem dX6_add_93 : decode cX6_add 93 = .ok (.iadd, 1) := by decide +kernel
theorem dX6_add_94 : decode cX6_add 94 = .ok (.putfield 19, 3) := by decide +kernel
theorem dX6_add_97 : decode cX6_add 97 = .ok (.return_, 1) := by decide +kernel
def mE_X6_add_97 (N : Nat) (σ : ST) (x1 : Int32) (x2 : Int32) (x3 : Int32) (x4 : Int32) (x5 : Int32) : Option (ST) :=
  some σ
set_option maxRecDepth 20000 in
set_option maxHeartbeats 2000000 in
theorem tE_X6_add_97 {adr : Nat → Nat} {cI cZ cS : ClassId} {tL tH : Nat} {X : zX} {q : ST} (B : zC X 6 (wdE adr cI cZ cS tL tH) cX6_add RX6 none { frames := 0, cells := 0, slots := 0, locals := 0 }) (N : Nat) (σ : ST) (x1 : Int32) (x2 : Int32) (x3 : Int32) (x4 : Int32) (x5 : Int32) (hf : mE_X6_add_97 N σ x1 x2 x3 x4 x5 = some q) : zJ X 6 (wdE adr cI cZ cS tL tH) (zu q) 97 [(0, .ref (adr 22)), (1, .int x1), (2, .int x2), (3, .int x3), (4, .int x4), (5, .int x5)] [] σ := by
  exact z_return B dX6_add_97 hf
def mE_X6_add_25 (N : Nat) (σ : ST) (x1 : Int32) (x2 : Int32) (x3 : Int32) (x4 : Int32) (x5 : Int32) : Option (ST) :=
  some σ
set_option maxRecDepth 20000 in
set_option maxHeartbeats 2000000 in
theorem tE_X6_add_25 {adr : Nat → Nat} {cI cZ cS : ClassId} {tL tH : Nat} {X : zX} {q : ST} (B : zC X 6 (wdE adr cI cZ cS tL tH) cX6_add RX6 none { frames := 0, cells := 0, slots := 0, locals := 0 }) (N : Nat) (σ : ST) (x1 : Int32) (x2 : Int32) (x3 : Int32) (x4 : Int32) (x5 : Int32) (hf : mE_X6_add_25 N σ x1 x2 x3 x4 x5 = some q) : zJ X 6 (wdE adr cI cZ cS tL tH) (zu q) 25 [(0, .ref (adr 22)), (1, .int x1), (2, .int x2), (3, .int x3), (4, .int x4), (5, .int x5)] [] σ := by
  exact z_return B dX6_add_25 hf
def mE_X6_add (N : Nat) (σ : ST) (x1 : Int32) (x2 : Int32) (x3 : Int32) (x4 : Int32) : Option (ST) :=
  zLet (σ 22 1) fun v1 =>
  zLet ((v1 : Int32) * (4)) fun v5 =>
  if (v5 : Int32) < 0 then
    mE_X6_add_25 N σ x1 x2 x3 x4 v5
  else
    zLet ((v5 : Int32) + (4)) fun v16 =>
    if (v16 : Int32) ≤ (160) then
      zSet σ 23 160 v5 x1 fun s33 =>
      zLet ((v5 : Int32) + (1)) fun v41 =>
      zSet s33 23 160 v41 x2 fun s43 =>
      zLet ((v5 : Int32) + (2)) fun v51 =>
      zSet s43 23 160 v51 x3 fun s53 =>
      zLet ((v5 : Int32) + (3)) fun v61 =>
      zSet s53 23 160 v61 x4 fun s64 =>
      zLet (s64 22 1) fun v67 =>
      zLet ((v67 : Int32) + (1)) fun v71 =>
      zRem v71 (40) fun v74 =>
      zLet (zUp s64 22 1 v74) fun s75 =>
      zLet (s75 22 2) fun v79 =>
      if ((40) : Int32) ≤ v79 then
        mE_X6_add_97 N s75 x1 x2 x3 x4 v5
      else
        zLet (s75 22 2) fun v89 =>
        zLet ((v89 : Int32) + (1)) fun v93 =>
        zLet (zUp s75 22 2 v93) fun s94 =>
        mE_X6_add_97 N s94 x1 x2 x3 x4 v5
    else
      mE_X6_add_25 N σ x1 x2 x3 x4 v5
set_option maxRecDepth 20000 in
set_option maxHeartbeats 2000000 in
theorem cE_X6_add {adr : Nat → Nat} {cI cZ cS : ClassId} {tL tH : Nat} {l : Launch} {D : va_G} {N : Nat} {σ : ST} {x1 : Int32} {x2 : Int32} {x3 : Int32} {x4 : Int32} (q : ST) (hf : mE_X6_add N σ x1 x2 x3 x4 = some q) : zM l D (wdE adr cI cZ cS tL tH) yX6_add cX6_add 6 none ({ frames := 0, cells := 0, slots := 0, locals := 0 }) [.ref (adr 22), .int x1, .int x2, .int x3, .int x4] σ (zu q) := by
  refine zM_of sfE_ok rfl (Nat.le_of_ble_eq_true rfl) [(0, .ref (adr 22)), (1, .int x1), (2, .int x2), (3, .int x3), (4, .int x4)] rfl (fun X hX1 hX2 B => ?_)
  have B : zC X 6 (wdE adr cI cZ cS tL tH) cX6_add RX6 none { frames := 0, cells := 0, slots := 0, locals := 0 } := B
  refine z_aload_n B dX6_add_0 0 rfl rfl ?_
  refine fE_g_X6_G_next B dX6_add_1 hf (fun v1 hf => ?_)
  refine z_iconst B (4) dX6_add_4 zc_iconst_4 ?_
  refine z_imul B dX6_add_5 hf (fun v5 hf => ?_)
  refine z_istore B [(5, .int v5), (0, .ref (adr 22)), (1, .int x1), (2, .int x2), (3, .int x3), (4, .int x4)] dX6_add_6 (Nat.le_of_ble_eq_true rfl) rfl ?_
  refine z_iload B dX6_add_8 0 rfl ?_
  refine z_if_lt B 25 dX6_add_10 (by decide) hf (fun hf => ?_) (fun hf => ?_)
  · exact z_loc [1, 2, 3, 4, 5, 0] _ rfl (tE_X6_add_25 B N σ x1 x2 x3 x4 v5 hf)
  · refine z_iload B dX6_add_13 0 rfl ?_
    refine z_iconst B (4) dX6_add_15 zc_iconst_4 ?_
    refine z_iadd B dX6_add_16 hf (fun v16 hf => ?_)
    refine z_aload_n B dX6_add_17 1 rfl rfl ?_
    refine fE_g_X6_G_cells B dX6_add_18 ?_
    refine z_alen B (t0 := 0) (160) wE_g_G_cells rfl (show Int32.ofNat 160 = 160 by decide) dX6_add_21 ?_
    refine z_icmp_le B 26 dX6_add_22 (by decide) hf (fun hf => ?_) (fun hf => ?_)
    · refine z_aload_n B dX6_add_26 1 rfl rfl ?_
      refine fE_g_X6_G_cells B dX6_add_27 ?_
      refine z_iload B dX6_add_30 0 rfl ?_
      refine z_iload_n B dX6_add_32 2 rfl rfl ?_
      refine fE_s_G_cells B dX6_add_33 hf (fun s33 hf => ?_)
      refine z_aload_n B dX6_add_34 1 rfl rfl ?_
      refine fE_g_X6_G_cells B dX6_add_35 ?_
      refine z_iload B dX6_add_38 0 rfl ?_
      refine z_iconst B (1) dX6_add_40 zc_iconst_1 ?_
      refine z_iadd B dX6_add_41 hf (fun v41 hf => ?_)
      refine z_iload_n B dX6_add_42 3 rfl rfl ?_
      refine fE_s_G_cells B dX6_add_43 hf (fun s43 hf => ?_)
      refine z_aload_n B dX6_add_44 1 rfl rfl ?_
      refine fE_g_X6_G_cells B dX6_add_45 ?_
      refine z_iload B dX6_add_48 0 rfl ?_
      refine z_iconst B (2) dX6_add_50 zc_iconst_2 ?_
      refine z_iadd B dX6_add_51 hf (fun v51 hf => ?_)
      refine z_iload_n B dX6_add_52 4 rfl rfl ?_
      refine fE_s_G_cells B dX6_add_53 hf (fun s53 hf => ?_)
      refine z_aload_n B dX6_add_54 1 rfl rfl ?_
      refine fE_g_X6_G_cells B dX6_add_55 ?_
      refine z_iload B dX6_add_58 0 rfl ?_
      refine z_iconst B (3) dX6_add_60 zc_iconst_3 ?_
      refine z_iadd B dX6_add_61 hf (fun v61 hf => ?_)
      refine z_iload B dX6_add_62 5 rfl ?_
      refine fE_s_G_cells B dX6_add_64 hf (fun s64 hf => ?_)
      refine z_aload_n B dX6_add_65 1 rfl rfl ?_
      refine z_aload_n B dX6_add_66 1 rfl rfl ?_
      refine fE_g_X6_G_next B dX6_add_67 hf (fun v67 hf => ?_)
      refine z_iconst B (1) dX6_add_70 zc_iconst_1 ?_
      refine z_iadd B dX6_add_71 hf (fun v71 hf => ?_)
      refine z_bipush B (40) dX6_add_72 zc_bipush_40 ?_
      refine z_irem B dX6_add_74 hf (fun v74 hf => ?_)
      refine fE_p_X6_G_next B dX6_add_75 hf (fun s75 hf => ?_)
      refine z_aload_n B dX6_add_78 1 rfl rfl ?_
      refine fE_g_X6_G_length B dX6_add_79 hf (fun v79 hf => ?_)
      refine z_bipush B (40) dX6_add_82 zc_bipush_40 ?_
      refine z_icmp_ge B 97 dX6_add_84 (by decide) hf (fun hf => ?_) (fun hf => ?_)
      · exact z_loc [1, 2, 3, 4, 5, 0] _ rfl (tE_X6_add_97 B N s75 x1 x2 x3 x4 v5 hf)
      · refine z_aload_n B dX6_add_87 1 rfl rfl ?_
        refine z_dup B dX6_add_88 rfl ?_
        refine fE_g_X6_G_length B dX6_add_89 hf (fun v89 hf => ?_)
        refine z_iconst B (1) dX6_add_92 zc_iconst_1 ?_
        refine z_iadd B dX6_add_93 hf (fun v93 hf => ?_)
        refine fE_p_X6_G_length B dX6_add_94 hf (fun s94 hf => ?_)
        exact z_loc [1, 2, 3, 4, 5, 0] _ rfl (tE_X6_add_97 B N s94 x1 x2 x3 x4 v5 hf)
    · exact z_loc [1, 2, 3, 4, 5, 0] _ rfl (tE_X6_add_25 B N σ x1 x2 x3 x4 v5 hf)
theorem dX2_changeWindow_0 : decode cX2_changeWindow 0 = .ok (.aload_n 0, 1) := by decide +kernel
theorem dX2_changeWindow_1 : decode cX2_changeWindow 1 = .ok (.getfield 15, 3) := by decide +kernel
theorem dX2_changeWindow_4 : decode cX2_changeWindow 4 = .ok (.iconst 3, 1) := by decide +kernel
theorem dX2_changeWindow_5 : decode cX2_changeWindow 5 = .ok (.iaload, 1) := by decide +kernel
theorem dX2_changeWindow_6 : decode cX2_changeWindow 6 = .ok (.iload_n 2, 1) := by decide +kernel
theorem dX2_changeWindow_7 : decode cX2_changeWindow 7 = .ok (.invokestatic 189, 3) := by decide +kernel
theorem dX2_changeWindow_10 : decode cX2_changeWindow 10 = .ok (.istore_n 3, 1) := by decide +kernel
theorem dX2_changeWindow_11 : decode cX2_changeWindow 11 = .ok (.iload_n 3, 1) := by decide +kernel
theorem dX2_changeWindow_12 : decode cX2_changeWindow 12 = .ok (.aload_n 1, 1) := by decide +kernel
theorem dX2_changeWindow_13 : decode cX2_changeWindow 13 = .ok (.getfield 183, 3) := by decide +kernel
theorem dX2_changeWindow_16 : decode cX2_changeWindow 16 = .ok (.if_icmp .eq 48, 3) := by decide +kernel
theorem dX2_changeWindow_19 : decode cX2_changeWindow 19 = .ok (.aload_n 0, 1) := by decide +kernel
theorem dX2_changeWindow_20 : decode cX2_changeWindow 20 = .ok (.getfield 55, 3) := by decide +kernel
theorem dX2_changeWindow_23 : decode cX2_changeWindow 23 = .ok (.aload_n 0, 1) := by decide +kernel
theorem dX2_changeWindow_24 : decode cX2_changeWindow 24 = .ok (.getfield 28, 3) := by decide +kernel
theorem dX2_changeWindow_27 : decode cX2_changeWindow 27 = .ok (.iconst 0, 1) := by decide +kernel
theorem dX2_changeWindow_28 : decode cX2_changeWindow 28 = .ok (.iaload, 1) := by decide +kernel
theorem dX2_changeWindow_29 : decode cX2_changeWindow 29 = .ok (.aload_n 1, 1) := by decide +kernel
theorem dX2_changeWindow_30 : decode cX2_changeWindow 30 = .ok (.getfield 70, 3) := by decide +kernel
theorem dX2_changeWindow_33 : decode cX2_changeWindow 33 = .ok (.aload_n 1, 1) := by decide +kernel
theorem dX2_changeWindow_34 : decode cX2_changeWindow 34 = .ok (.getfield 183, 3) := by decide +kernel
theorem dX2_changeWindow_37 : decode cX2_changeWindow 37 = .ok (.iload_n 3, 1) := by decide +kernel
theorem dX2_changeWindow_38 : decode cX2_changeWindow 38 = .ok (.invokevirtual 195, 3) := by decide +kernel
theorem dX2_changeWindow_41 : decode cX2_changeWindow 41 = .ok (.aload_n 1, 1) := by decide +kernel
theorem dX2_changeWindow_42 : decode cX2_changeWindow 42 = .ok (.iload_n 3, 1) := by decide +kernel
theorem dX2_changeWindow_43 : decode cX2_changeWindow 43 = .ok (.putfield 183, 3) := by decide +kernel
theorem dX2_changeWindow_46 : decode cX2_changeWindow 46 = .ok (.aload_n 0, 1) := by decide +kernel
theorem dX2_changeWindow_47 : decode cX2_changeWindow 47 = .ok (.getfield 28, 3) := by decide +kernel
theorem dX2_changeWindow_50 : decode cX2_changeWindow 50 = .ok (.bipush 17, 2) := by decide +kernel
theorem dX2_changeWindow_52 : decode cX2_changeWindow 52 = .ok (.aload_n 0, 1) := by decide +kernel
theorem dX2_changeWindow_53 : decode cX2_changeWindow 53 = .ok (.getfield 28, 3) := by decide +kernel
theorem dX2_changeWindow_56 : decode cX2_changeWindow 56 = .ok (.bipush 17, 2) := by decide +kernel
theorem dX2_changeWindow_58 : decode cX2_changeWindow 58 = .ok (.iaload, 1) := by decide +kernel
theorem dX2_changeWindow_59 : decode cX2_changeWindow 59 = .ok (.iload_n 3, 1) := by decide +kernel
theorem dX2_changeWindow_60 : decode cX2_changeWindow 60 = .ok (.invokestatic 198, 3) := by decide +kernel
theorem dX2_changeWindow_63 : decode cX2_changeWindow 63 = .ok (.iastore, 1) := by decide +kernel
theorem dX2_changeWindow_64 : decode cX2_changeWindow 64 = .ok (.return_, 1) := by decide +kernel
def mE_X2_changeWindow_64 (N : Nat) (σ : ST) (x1 : Fin 6) (x2 : Int32) (x3 : Int32) : Option (ST) :=
  some σ
set_option maxRecDepth 20000 in
set_option maxHeartbeats 2000000 in
theorem tE_X2_changeWindow_64 {adr : Nat → Nat} {cI cZ cS : ClassId} {tL tH : Nat} {X : zX} {q : ST} (B : zC X 4 (wdE adr cI cZ cS tL tH) cX2_changeWindow RX2 none { frames := 1, cells := 0, slots := 0, locals := 25 }) (N : Nat) (σ : ST) (x1 : Fin 6) (x2 : Int32) (x3 : Int32) (hf : mE_X2_changeWindow_64 N σ x1 x2 x3 = some q) : zJ X 4 (wdE adr cI cZ cS tL tH) (zu q) 64 [(0, .ref (adr 0)), (1, .ref (adr (12 + (x1).val))), (2, .int x2), (3, .int x3)] [] σ := by
  exact z_return B dX2_changeWindow_64 hf
def mE_X2_changeWindow (N : Nat) (σ : ST) (x1 : Fin 6) (x2 : Int32) : Option (ST) :=
  zGet (σ 1) 10 (3) fun v5 =>
  zLet (if (x2 : Int32) < v5 then x2 else v5) fun v7 =>
  zLet (σ (12 + (x1).val) 4) fun v13 =>
  if (v7 : Int32) = v13 then
    mE_X2_changeWindow_64 N σ x1 x2 v7
  else
    zGet (σ 2) 34 (0) fun v28 =>
    zLet (σ (12 + (x1).val) 0) fun v30 =>
    zLet (σ (12 + (x1).val) 4) fun v34 =>
    zCallu (mE_X6_add N σ v28 v30 v34 v7) fun s38 =>
    zLet (zUp s38 (12 + (x1).val) 4 v7) fun s43 =>
    zGet (s43 2) 34 (17) fun v58 =>
    zLet (if (v58 : Int32) < v7 then v7 else v58) fun v60 =>
    zSet s43 2 34 (17) v60 fun s63 =>
    mE_X2_changeWindow_64 N s63 x1 x2 v7
set_option maxRecDepth 20000 in
set_option maxHeartbeats 2000000 in
theorem cE_X2_changeWindow {adr : Nat → Nat} {cI cZ cS : ClassId} {tL tH : Nat} {l : Launch} {D : va_G} {N : Nat} {σ : ST} {x1 : Fin 6} {x2 : Int32} (q : ST) (hf : mE_X2_changeWindow N σ x1 x2 = some q) : zM l D (wdE adr cI cZ cS tL tH) yX2_changeWindow cX2_changeWindow 4 none ({ frames := 1, cells := 0, slots := 0, locals := 25 }) [.ref (adr 0), .ref (adr (12 + (x1).val)), .int x2] σ (zu q) := by
  refine zM_of sfE_ok rfl (Nat.le_of_ble_eq_true rfl) [(0, .ref (adr 0)), (1, .ref (adr (12 + (x1).val))), (2, .int x2)] rfl (fun X hX1 hX2 B => ?_)
  have B : zC X 4 (wdE adr cI cZ cS tL tH) cX2_changeWindow RX2 none { frames := 1, cells := 0, slots := 0, locals := 25 } := B
  refine z_aload_n B dX2_changeWindow_0 0 rfl rfl ?_
  refine fE_g_X2_E_terms B dX2_changeWindow_1 ?_
  refine z_iconst B (3) dX2_changeWindow_4 zc_iconst_3 ?_
  refine fE_l_E_terms B dX2_changeWindow_5 hf (fun v5 hf => ?_)
  refine z_iload_n B dX2_changeWindow_6 2 rfl rfl ?_
  refine z_mmin B kw_431 kmS_min kmI kmC_min (Nat.le_of_ble_eq_true rfl) (Nat.le_of_ble_eq_true rfl) dX2_changeWindow_7 hf (fun v7 hf => ?_)
  refine z_istore_n B [(3, .int v7), (0, .ref (adr 0)), (1, .ref (adr (12 + (x1).val))), (2, .int x2)] dX2_changeWindow_10 rfl (Nat.le_of_ble_eq_true rfl) rfl ?_
  refine z_iload_n B dX2_changeWindow_11 0 rfl rfl ?_
  refine z_aload_n B dX2_changeWindow_12 2 rfl rfl ?_
  refine fE_g_X2_S_window B x1 dX2_changeWindow_13 hf (fun v13 hf => ?_)
  refine z_icmp_eq B 64 dX2_changeWindow_16 (by decide) hf (fun hf => ?_) (fun hf => ?_)
  · exact z_loc [1, 2, 3, 0] _ rfl (tE_X2_changeWindow_64 B N σ x1 x2 v7 hf)
  · refine z_aload_n B dX2_changeWindow_19 1 rfl rfl ?_
    refine fE_g_X2_E_log B dX2_changeWindow_20 ?_
    refine z_aload_n B dX2_changeWindow_23 1 rfl rfl ?_
    refine fE_g_X2_E_counts B dX2_changeWindow_24 ?_
    refine z_iconst B (0) dX2_changeWindow_27 zc_iconst_0 ?_
    refine fE_l_E_counts B dX2_changeWindow_28 hf (fun v28 hf => ?_)
    refine z_aload_n B dX2_changeWindow_29 2 rfl rfl ?_
    refine fE_g_X2_S_number B x1 dX2_changeWindow_30 hf (fun v30 hf => ?_)
    refine z_aload_n B dX2_changeWindow_33 2 rfl rfl ?_
    refine fE_g_X2_S_window B x1 dX2_changeWindow_34 hf (fun v34 hf => ?_)
    refine z_iload_n B dX2_changeWindow_37 0 rfl rfl ?_
    refine z_callVu B (As := [.int v28, .int v30, .int v34, .int v7]) kcV_X2_195 dX2_changeWindow_38 hf (fun q hq => cE_X6_add q hq) (wE_o_G (adr := adr) (cI := cI) (cZ := cZ) (cS := cS) (tL := tL) (tH := tH)) rfl rfl rfl rfl (Nat.le_of_ble_eq_true rfl) rfl rfl ⟨Nat.le_of_ble_eq_true rfl, Nat.le_of_ble_eq_true rfl⟩ (fun s38 hf => ?_)
    refine z_aload_n B dX2_changeWindow_41 2 rfl rfl ?_
    refine z_iload_n B dX2_changeWindow_42 0 rfl rfl ?_
    refine fE_p_X2_S_window B x1 dX2_changeWindow_43 hf (fun s43 hf => ?_)
    refine z_aload_n B dX2_changeWindow_46 1 rfl rfl ?_
    refine fE_g_X2_E_counts B dX2_changeWindow_47 ?_
    refine z_bipush B (17) dX2_changeWindow_50 zc_bipush_17 ?_
    refine z_aload_n B dX2_changeWindow_52 1 rfl rfl ?_
    refine fE_g_X2_E_counts B dX2_changeWindow_53 ?_
    refine z_bipush B (17) dX2_changeWindow_56 zc_bipush_17 ?_
    refine fE_l_E_counts B dX2_changeWindow_58 hf (fun v58 hf => ?_)
    refine z_iload_n B dX2_changeWindow_59 0 rfl rfl ?_
    refine z_mmax B kw_424 kmS_max kmI kmC_max (Nat.le_of_ble_eq_true rfl) (Nat.le_of_ble_eq_true rfl) dX2_changeWindow_60 hf (fun v60 hf => ?_)
    refine fE_s_E_counts B dX2_changeWindow_63 hf (fun s63 hf => ?_)
    exact z_loc [1, 2, 3, 0] _ rfl (tE_X2_changeWindow_64 B N s63 x1 x2 v7 hf)
theorem dX2_asksForBatch_0 : decode cX2_asksForBatch 0 = .ok (.aload_n 1, 1) := by decide +kernel
theorem dX2_asksForBatch_1 : decode cX2_asksForBatch 1 = .ok (.getfield 183, 3) := by decide +kernel
theorem dX2_asksForBatch_4 : decode cX2_asksForBatch 4 = .ok (.ifCond .ne 39, 3) := by decide +kernel
theorem dX2_asksForBatch_7 : decode cX2_asksForBatch 7 = .ok (.aload_n 1, 1) := by decide +kernel
theorem dX2_asksForBatch_8 : decode cX2_asksForBatch 8 = .ok (.getfield 239, 3) := by decide +kernel
theorem dX2_asksForBatch_11 : decode cX2_asksForBatch 11 = .ok (.aload_n 0, 1) := by decide +kernel
theorem dX2_asksForBatch_12 : decode cX2_asksForBatch 12 = .ok (.getfield 15, 3) := by decide +kernel
theorem dX2_asksForBatch_15 : decode cX2_asksForBatch 15 = .ok (.iconst 1, 1) := by decide +kernel
theorem dX2_asksForBatch_16 : decode cX2_asksForBatch 16 = .ok (.iaload, 1) := by decide +kernel
theorem dX2_asksForBatch_17 : decode cX2_asksForBatch 17 = .ok (.if_icmp .ge 5, 3) := by decide +kernel
theorem dX2_asksForBatch_20 : decode cX2_asksForBatch 20 = .ok (.iconst 0, 1) := by decide +kernel
theorem dX2_asksForBatch_21 : decode cX2_asksForBatch 21 = .ok (.ireturn, 1) := by decide +kernel
theorem dX2_asksForBatch_22 : decode cX2_asksForBatch 22 = .ok (.aload_n 0, 1) := by decide +kernel
theorem dX2_asksForBatch_23 : decode cX2_asksForBatch 23 = .ok (.aload_n 1, 1) := by decide +kernel
theorem dX2_asksForBatch_24 : decode cX2_asksForBatch 24 = .ok (.aload_n 0, 1) := by decide +kernel
theorem dX2_asksForBatch_25 : decode cX2_asksForBatch 25 = .ok (.getfield 15, 3) := by decide +kernel
theorem dX2_asksForBatch_28 : decode cX2_asksForBatch 28 = .ok (.iconst 2, 1) := by decide +kernel
theorem dX2_asksForBatch_29 : decode cX2_asksForBatch 29 = .ok (.iaload, 1) := by decide +kernel
theorem dX2_asksForBatch_30 : decode cX2_asksForBatch 30 = .ok (.invokevirtual 186, 3) := by decide +kernel
theorem dX2_asksForBatch_33 : decode cX2_asksForBatch 33 = .ok (.aload_n 1, 1) := by decide +kernel
theorem dX2_asksForBatch_34 : decode cX2_asksForBatch 34 = .ok (.aload_n 1, 1) := by decide +kernel
theorem dX2_asksForBatch_35 : decode cX2_asksForBatch 35 = .ok (.getfield 230, 3) := by decide +kernel
theorem dX2_asksForBatch_38 : decode cX2_asksForBatch 38 = .ok (.putfield 242, 3) := by decide +kernel
theorem dX2_asksForBatch_41 : decode cX2_asksForBatch 41 = .ok (.iconst 1, 1) := by decide +kernel
theorem dX2_asksForBatch_42 : decode cX2_asksForBatch 42 = .ok (.ireturn, 1) := by decide +kernel
theorem dX2_asksForBatch_43 : decode cX2_asksForBatch 43 = .ok (.aload_n 1, 1) := by decide +kernel
theorem dX2_asksForBatch_44 : decode cX2_asksForBatch 44 = .ok (.getfield 230, 3) := by decide +kernel
theorem dX2_asksForBatch_47 : decode cX2_asksForBatch 47 = .ok (.aload_n 1, 1) := by decide +kernel
theorem dX2_asksForBatch_48 : decode cX2_asksForBatch 48 = .ok (.getfield 245, 3) := by decide +kernel
theorem dX2_asksForBatch_51 : decode cX2_asksForBatch 51 = .ok (.if_icmp .ne 16, 3) := by decide +kernel
theorem dX2_asksForBatch_54 : decode cX2_asksForBatch 54 = .ok (.aload_n 0, 1) := by decide +kernel
theorem dX2_asksForBatch_55 : decode cX2_asksForBatch 55 = .ok (.aload_n 1, 1) := by decide +kernel
theorem dX2_asksForBatch_56 : decode cX2_asksForBatch 56 = .ok (.iconst 2, 1) := by decide +kernel
theorem dX2_asksForBatch_57 : decode cX2_asksForBatch 57 = .ok (.aload_n 1, 1) := by decide +kernel
theorem dX2_asksForBatch_58 : decode cX2_asksForBatch 58 = .ok (.getfield 183, 3) := by decide +kernel
theorem dX2_asksForBatch_61 : decode cX2_asksForBatch 61 = .ok (.imul, 1) := by decide +kernel
theorem dX2_asksForBatch_62 : decode cX2_asksForBatch 62 = .ok (.invokevirtual 186, 3) := by decide +kernel
theorem dX2_asksForBatch_65 : decode cX2_asksForBatch 65 = .ok (.iconst 1, 1) := by decide +kernel
theorem dX2_asksForBatch_66 : decode cX2_asksForBatch 66 = .ok (.ireturn, 1) := by decide +kernel
theorem dX2_asksForBatch_67 : decode cX2_asksForBatch 67 = .ok (.aload_n 1, 1) := by decide +kernel
theorem dX2_asksForBatch_68 : decode cX2_asksForBatch 68 = .ok (.aload_n 1, 1) := by decide +kernel
theorem dX2_asksForBatch_69 : decode cX2_asksForBatch 69 = .ok (.getfield 230, 3) := by decide +kernel
theorem dX2_asksForBatch_72 : decode cX2_asksForBatch 72 = .ok (.invokevirtual 248, 3) := by decide +kernel
theorem dX2_asksForBatch_75 : decode cX2_asksForBatch 75 = .ok (.ifCond .eq 5, 3) := by decide +kernel
theorem dX2_asksForBatch_78 : decode cX2_asksForBatch 78 = .ok (.iconst 0, 1) := by decide +kernel
theorem dX2_asksForBatch_79 : decode cX2_asksForBatch 79 = .ok (.ireturn, 1) := by decide +kernel
theorem dX2_asksForBatch_80 : decode cX2_asksForBatch 80 = .ok (.aload_n 1, 1) := by decide +kernel
theorem dX2_asksForBatch_81 : decode cX2_asksForBatch 81 = .ok (.aload_n 1, 1) := by decide +kernel
theorem dX2_asksForBatch_82 : decode cX2_asksForBatch 82 = .ok (.getfield 230, 3) := by decide +kernel
theorem dX2_asksForBatch_85 : decode cX2_asksForBatch 85 = .ok (.putfield 242, 3) := by decide +kernel
theorem dX2_asksForBatch_88 : decode cX2_asksForBatch 88 = .ok (.iconst 1, 1) := by decide +kernel
theorem dX2_asksForBatch_89 : decode cX2_asksForBatch 89 = .ok (.ireturn, 1) := by decide +kernel
def mE_X2_asksForBatch (N : Nat) (σ : ST) (x1 : Fin 6) : Option (Int32 × ST) :=
  zLet (σ (12 + (x1).val) 4) fun v1 =>
  if (v1 : Int32) = 0 then
    zLet (σ (12 + (x1).val) 3) fun v8 =>
    zGet (σ 1) 10 (1) fun v16 =>
    if (v16 : Int32) ≤ v8 then
      zGet (σ 1) 10 (2) fun v29 =>
      zCallu (mE_X2_changeWindow N σ x1 v29) fun s30 =>
      zLet (s30 (12 + (x1).val) 1) fun v35 =>
      zLet (zUp s30 (12 + (x1).val) 5 v35) fun s38 =>
      zBool (1) (some ((1), s38))
    else
      zBool (0) (some ((0), σ))
  else
    zLet (σ (12 + (x1).val) 1) fun v44 =>
    zLet (σ (12 + (x1).val) 6) fun v48 =>
    if (v44 : Int32) = v48 then
      zLet (σ (12 + (x1).val) 4) fun v58 =>
      zLet (((2) : Int32) * v58) fun v61 =>
      zCallu (mE_X2_changeWindow N σ x1 v61) fun s62 =>
      zBool (1) (some ((1), s62))
    else
      zLet (σ (12 + (x1).val) 1) fun v69 =>
      zCall (mE_X4_edgeIsBeyond N σ x1 v69) fun v72 s72 =>
      if (v72 : Int32) = 0 then
        zLet (s72 (12 + (x1).val) 1) fun v82 =>
        zLet (zUp s72 (12 + (x1).val) 5 v82) fun s85 =>
        zBool (1) (some ((1), s85))
      else
        zBool (0) (some ((0), s72))
set_option maxRecDepth 20000 in
set_option maxHeartbeats 2000000 in
theorem cE_X2_asksForBatch {adr : Nat → Nat} {cI cZ cS : ClassId} {tL tH : Nat} {l : Launch} {D : va_G} {N : Nat} {σ : ST} {x1 : Fin 6} (q : Int32 × ST) (hf : mE_X2_asksForBatch N σ x1 = some q) : zM l D (wdE adr cI cZ cS tL tH) yX2_asksForBatch cX2_asksForBatch 2 (some .boolean) ({ frames := 2, cells := 0, slots := 0, locals := 48 }) [.ref (adr 0), .ref (adr (12 + (x1).val))] σ (zi q) := by
  refine zM_of sfE_ok rfl (Nat.le_of_ble_eq_true rfl) [(0, .ref (adr 0)), (1, .ref (adr (12 + (x1).val)))] rfl (fun X hX1 hX2 B => ?_)
  have B : zC X 2 (wdE adr cI cZ cS tL tH) cX2_asksForBatch RX2 (some .boolean) { frames := 2, cells := 0, slots := 0, locals := 48 } := B
  refine z_aload_n B dX2_asksForBatch_0 1 rfl rfl ?_
  refine fE_g_X2_S_window B x1 dX2_asksForBatch_1 hf (fun v1 hf => ?_)
  refine z_if_ne B 43 dX2_asksForBatch_4 (by decide) hf (fun hf => ?_) (fun hf => ?_)
  · refine z_aload_n B dX2_asksForBatch_43 1 rfl rfl ?_
    refine fE_g_X2_S_last B x1 dX2_asksForBatch_44 hf (fun v44 hf => ?_)
    refine z_aload_n B dX2_asksForBatch_47 1 rfl rfl ?_
    refine fE_g_X2_S_marker B x1 dX2_asksForBatch_48 hf (fun v48 hf => ?_)
    refine z_icmp_ne B 67 dX2_asksForBatch_51 (by decide) hf (fun hf => ?_) (fun hf => ?_)
    · refine z_aload_n B dX2_asksForBatch_67 1 rfl rfl ?_
      refine z_aload_n B dX2_asksForBatch_68 1 rfl rfl ?_
      refine fE_g_X2_S_last B x1 dX2_asksForBatch_69 hf (fun v69 hf => ?_)
      refine z_callVi B (As := [.int v69]) kcV_X2_248 dX2_asksForBatch_72 hf (fun q hq => cE_X4_edgeIsBeyond q hq) (wE_o_S (adr := adr) (cI := cI) (cZ := cZ) (cS := cS) (tL := tL) (tH := tH) x1) rfl rfl rfl rfl (Nat.le_of_ble_eq_true rfl) rfl rfl ⟨Nat.le_of_ble_eq_true rfl, Nat.le_of_ble_eq_true rfl⟩ (fun v72 s72 hf => ?_)
      refine z_if_eq B 80 dX2_asksForBatch_75 (by decide) hf (fun hf => ?_) (fun hf => ?_)
      · refine z_aload_n B dX2_asksForBatch_80 1 rfl rfl ?_
        refine z_aload_n B dX2_asksForBatch_81 1 rfl rfl ?_
        refine fE_g_X2_S_last B x1 dX2_asksForBatch_82 hf (fun v82 hf => ?_)
        refine fE_p_X2_S_edge B x1 dX2_asksForBatch_85 hf (fun s85 hf => ?_)
        refine z_iconst B (1) dX2_asksForBatch_88 zc_iconst_1 ?_
        exact z_zreturn B dX2_asksForBatch_89 hf
      · refine z_iconst B (0) dX2_asksForBatch_78 zc_iconst_0 ?_
        exact z_zreturn B dX2_asksForBatch_79 hf
    · refine z_aload_n B dX2_asksForBatch_54 0 rfl rfl ?_
      refine z_aload_n B dX2_asksForBatch_55 1 rfl rfl ?_
      refine z_iconst B (2) dX2_asksForBatch_56 zc_iconst_2 ?_
      refine z_aload_n B dX2_asksForBatch_57 1 rfl rfl ?_
      refine fE_g_X2_S_window B x1 dX2_asksForBatch_58 hf (fun v58 hf => ?_)
      refine z_imul B dX2_asksForBatch_61 hf (fun v61 hf => ?_)
      refine z_callVu B (As := [.ref (adr (12 + (x1).val)), .int v61]) kcV_X2_186 dX2_asksForBatch_62 hf (fun q hq => cE_X2_changeWindow q hq) (wE_o_E (adr := adr) (cI := cI) (cZ := cZ) (cS := cS) (tL := tL) (tH := tH)) rfl rfl rfl rfl (Nat.le_of_ble_eq_true rfl) rfl rfl ⟨Nat.le_of_ble_eq_true rfl, Nat.le_of_ble_eq_true rfl⟩ (fun s62 hf => ?_)
      refine z_iconst B (1) dX2_asksForBatch_65 zc_iconst_1 ?_
      exact z_zreturn B dX2_asksForBatch_66 hf
  · refine z_aload_n B dX2_asksForBatch_7 1 rfl rfl ?_
    refine fE_g_X2_S_proof B x1 dX2_asksForBatch_8 hf (fun v8 hf => ?_)
    refine z_aload_n B dX2_asksForBatch_11 0 rfl rfl ?_
    refine fE_g_X2_E_terms B dX2_asksForBatch_12 ?_
    refine z_iconst B (1) dX2_asksForBatch_15 zc_iconst_1 ?_
    refine fE_l_E_terms B dX2_asksForBatch_16 hf (fun v16 hf => ?_)
    refine z_icmp_ge B 22 dX2_asksForBatch_17 (by decide) hf (fun hf => ?_) (fun hf => ?_)
    · refine z_aload_n B dX2_asksForBatch_22 0 rfl rfl ?_
      refine z_aload_n B dX2_asksForBatch_23 1 rfl rfl ?_
      refine z_aload_n B dX2_asksForBatch_24 0 rfl rfl ?_
      refine fE_g_X2_E_terms B dX2_asksForBatch_25 ?_
      refine z_iconst B (2) dX2_asksForBatch_28 zc_iconst_2 ?_
      refine fE_l_E_terms B dX2_asksForBatch_29 hf (fun v29 hf => ?_)
      refine z_callVu B (As := [.ref (adr (12 + (x1).val)), .int v29]) kcV_X2_186 dX2_asksForBatch_30 hf (fun q hq => cE_X2_changeWindow q hq) (wE_o_E (adr := adr) (cI := cI) (cZ := cZ) (cS := cS) (tL := tL) (tH := tH)) rfl rfl rfl rfl (Nat.le_of_ble_eq_true rfl) rfl rfl ⟨Nat.le_of_ble_eq_true rfl, Nat.le_of_ble_eq_true rfl⟩ (fun s30 hf => ?_)
      refine z_aload_n B dX2_asksForBatch_33 1 rfl rfl ?_
      refine z_aload_n B dX2_asksForBatch_34 1 rfl rfl ?_
      refine fE_g_X2_S_last B x1 dX2_asksForBatch_35 hf (fun v35 hf => ?_)
      refine fE_p_X2_S_edge B x1 dX2_asksForBatch_38 hf (fun s38 hf => ?_)
      refine z_iconst B (1) dX2_asksForBatch_41 zc_iconst_1 ?_
      exact z_zreturn B dX2_asksForBatch_42 hf
    · refine z_iconst B (0) dX2_asksForBatch_20 zc_iconst_0 ?_
      exact z_zreturn B dX2_asksForBatch_21 hf
theorem dX0_put_0 : decode cX0_put 0 = .ok (.aload_n 0, 1) := by decide +kernel
theorem dX0_put_1 : decode cX0_put 1 = .ok (.getfield 34, 3) := by decide +kernel
theorem dX0_put_4 : decode cX0_put 4 = .ok (.ifCond .lt 12, 3) := by decide +kernel
theorem dX0_put_7 : decode cX0_put 7 = .ok (.aload_n 0, 1) := by decide +kernel
theorem dX0_put_8 : decode cX0_put 8 = .ok (.getfield 34, 3) := by decide +kernel
theorem dX0_put_11 : decode cX0_put 11 = .ok (.bipush 64, 2) := by decide +kernel
theorem dX0_put_13 : decode cX0_put 13 = .ok (.if_icmp .lt 4, 3) := by decide +kernel
theorem dX0_put_16 : decode cX0_put 16 = .ok (.return_, 1) := by decide +kernel
theorem dX0_put_17 : decode cX0_put 17 = .ok (.iload_n 2, 1) := by decide +kernel
theorem dX0_put_18 : decode cX0_put 18 = .ok (.iconst (-1), 1) := by decide +kernel
theorem dX0_put_19 : decode cX0_put 19 = .ok (.if_icmp .eq 7, 3) := by decide +kernel
theorem dX0_put_22 : decode cX0_put 22 = .ok (.iconst 1, 1) := by decide +kernel
theorem dX0_put_23 : decode cX0_put 23 = .ok (.goto 4, 3) := by decide +kernel
theorem dX0_put_26 : decode cX0_put 26 = .ok (.iconst 0, 1) := by decide +kernel
theorem dX0_put_27 : decode cX0_put 27 = .ok (.istore 4, 2) := by decide +kernel
theorem dX0_put_29 : decode cX0_put 29 = .ok (.aload_n 0, 1) := by decide +kernel
theorem dX0_put_30 : decode cX0_put 30 = .ok (.dup, 1) := by decide +kernel
theorem dX0_put_31 : decode cX0_put 31 = .ok (.getfield 38, 3) := by decide +kernel
theorem dX0_put_34 : decode cX0_put 34 = .ok (.iconst 1, 1) := by decide +kernel
theorem dX0_put_35 : decode cX0_put 35 = .ok (.iadd, 1) := by decide +kernel
theorem dX0_put_36 : decode cX0_put 36 = .ok (.putfield 38, 3) := by decide +kernel
theorem dX0_put_39 : decode cX0_put 39 = .ok (.aload_n 0, 1) := by decide +kernel
theorem dX0_put_40 : decode cX0_put 40 = .ok (.getfield 9, 3) := by decide +kernel
theorem dX0_put_43 : decode cX0_put 43 = .ok (.aload_n 0, 1) := by decide +kernel
theorem dX0_put_44 : decode cX0_put 44 = .ok (.getfield 34, 3) := by decide +kernel
theorem dX0_put_47 : decode cX0_put 47 = .ok (.iload_n 1, 1) := by decide +kernel
theorem dX0_put_48 : decode cX0_put 48 = .ok (.iastore, 1) := by decide +kernel
theorem dX0_put_49 : decode cX0_put 49 = .ok (.aload_n 0, 1) := by decide +kernel
theorem dX0_put_50 : decode cX0_put 50 = .ok (.getfield 15, 3) := by decide +kernel
theorem dX0_put_53 : decode cX0_put 53 = .ok (.aload_n 0, 1) := by decide +kernel
theorem dX0_put_54 : decode cX0_put 54 = .ok (.getfield 34, 3) := by decide +kernel
theorem dX0_put_57 : decode cX0_put 57 = .ok (.aload_n 0, 1) := by decide +kernel
theorem dX0_put_58 : decode cX0_put 58 = .ok (.getfield 38, 3) := by decide +kernel
theorem dX0_put_61 : decode cX0_put 61 = .ok (.iastore, 1) := by decide +kernel
theorem dX0_put_62 : decode cX0_put 62 = .ok (.aload_n 0, 1) := by decide +kernel
theorem dX0_put_63 : decode cX0_put 63 = .ok (.getfield 18, 3) := by decide +kernel
theorem dX0_put_66 : decode cX0_put 66 = .ok (.aload_n 0, 1) := by decide +kernel
theorem dX0_put_67 : decode cX0_put 67 = .ok (.getfield 34, 3) := by decide +kernel
theorem dX0_put_70 : decode cX0_put 70 = .ok (.iload 4, 2) := by decide +kernel
theorem dX0_put_72 : decode cX0_put 72 = .ok (.ifCond .eq 7, 3) := by decide +kernel
theorem dX0_put_75 : decode cX0_put 75 = .ok (.iconst 0, 1) := by decide +kernel
theorem dX0_put_76 : decode cX0_put 76 = .ok (.goto 4, 3) := by decide +kernel
theorem dX0_put_79 : decode cX0_put 79 = .ok (.iconst 1, 1) := by decide +kernel
theorem dX0_put_80 : decode cX0_put 80 = .ok (.iastore, 1) := by decide +kernel
theorem dX0_put_81 : decode cX0_put 81 = .ok (.aload_n 0, 1) := by decide +kernel
theorem dX0_put_82 : decode cX0_put 82 = .ok (.getfield 21, 3) := by decide +kernel
theorem dX0_put_85 : decode cX0_put 85 = .ok (.aload_n 0, 1) := by decide +kernel
theorem dX0_put_86 : decode cX0_put 86 = .ok (.getfield 34, 3) := by decide +kernel
theorem dX0_put_89 : decode cX0_put 89 = .ok (.iload_n 2, 1) := by decide +kernel
theorem dX0_put_90 : decode cX0_put 90 = .ok (.iastore, 1) := by decide +kernel
theorem dX0_put_91 : decode cX0_put 91 = .ok (.aload_n 0, 1) := by decide +kernel
theorem dX0_put_92 : decode cX0_put 92 = .ok (.getfield 24, 3) := by decide +kernel
theorem dX0_put_95 : decode cX0_put 95 = .ok (.aload_n 0, 1) := by decide +kernel
theorem dX0_put_96 : decode cX0_put 96 = .ok (.getfield 34, 3) := by decide +kernel
theorem dX0_put_99 : decode cX0_put 99 = .ok (.iload_n 3, 1) := by decide +kernel
theorem dX0_put_100 : decode cX0_put 100 = .ok (.iastore, 1) := by decide +kernel
theorem dX0_put_101 : decode cX0_put 101 = .ok (.aload_n 0, 1) := by decide +kernel
theorem dX0_put_102 : decode cX0_put 102 = .ok (.getfield 27, 3) := by decide +kernel
theorem dX0_put_105 : decode cX0_put 105 = .ok (.aload_n 0, 1) := by decide +kernel
theorem dX0_put_106 : decode cX0_put 106 = .ok (.getfield 34, 3) := by decide +kernel
theorem dX0_put_109 : decode cX0_put 109 = .ok (.iload 4, 2) := by decide +kernel
theorem dX0_put_111 : decode cX0_put 111 = .ok (.bastore, 1) := by decide +kernel
theorem dX0_put_112 : decode cX0_put 112 = .ok (.iload 4, 2) := by decide +kernel
theorem dX0_put_114 : decode cX0_put 114 = .ok (.ifCond .eq 13, 3) := by decide +kernel
theorem dX0_put_117 : decode cX0_put 117 = .ok (.aload_n 0, 1) := by decide +kernel
theorem dX0_put_118 : decode cX0_put 118 = .ok (.dup, 1) := by decide +kernel
theorem dX0_put_119 : decode cX0_put 119 = .ok (.getfield 41, 3) := by decide +kernel
theorem dX0_put_122 : decode cX0_put 122 = .ok (.iconst 1, 1) := by decide +kernel
theorem dX0_put_123 : decode cX0_put 123 = .ok (.iadd, 1) := by decide +kernel
theorem dX0_put_124 : decode cX0_put 124 = .ok (.putfield 41, 3) := by decide +kernel
theorem dX0_put_127 : decode cX0_put 127 = .ok (.aload_n 0, 1) := by decide +kernel
theorem dX0_put_128 : decode cX0_put 128 = .ok (.dup, 1) := by decide +kernel
theorem dX0_put_129 : decode cX0_put 129 = .ok (.getfield 34, 3) := by decide +kernel
theorem dX0_put_132 : decode cX0_put 132 = .ok (.iconst 1, 1) := by decide +kernel
theorem dX0_put_133 : decode cX0_put 133 = .ok (.iadd, 1) := by decide +kernel
theorem dX0_put_134 : decode cX0_put 134 = .ok (.putfield 34, 3) := by decide +kernel
theorem dX0_put_137 : decode cX0_put 137 = .ok (.aload_n 0, 1) := by decide +kernel
theorem dX0_put_138 : decode cX0_put 138 = .ok (.iload_n 1, 1) := by decide +kernel
theorem dX0_put_139 : decode cX0_put 139 = .ok (.aload_n 0, 1) := by decide +kernel
theorem dX0_put_140 : decode cX0_put 140 = .ok (.getfield 34, 3) := by decide +kernel
theorem dX0_put_143 : decode cX0_put 143 = .ok (.invokevirtual 44, 3) := by decide +kernel
theorem dX0_put_146 : decode cX0_put 146 = .ok (.return_, 1) := by decide +kernel
def mE_X0_put_127 (N : Nat) (σ : ST) (x1 : Int32) (x2 : Int32) (x3 : Int32) (x4 : Int32) : Option (ST) :=
  zLet (σ 3 7) fun v129 =>
  zLet ((v129 : Int32) + (1)) fun v133 =>
  zLet (zUp σ 3 7 v133) fun s134 =>
  zLet (s134 3 7) fun v140 =>
  zCallu (mE_X0_mark N s134 x1 v140) fun s143 =>
  some s143
set_option maxRecDepth 20000 in
set_option maxHeartbeats 2000000 in
theorem tE_X0_put_127 {adr : Nat → Nat} {cI cZ cS : ClassId} {tL tH : Nat} {X : zX} {q : ST} (B : zC X 5 (wdE adr cI cZ cS tL tH) cX0_put RX0 none { frames := 1, cells := 0, slots := 0, locals := 22 }) (N : Nat) (σ : ST) (x1 : Int32) (x2 : Int32) (x3 : Int32) (x4 : Int32) (hf : mE_X0_put_127 N σ x1 x2 x3 x4 = some q) : zJ X 5 (wdE adr cI cZ cS tL tH) (zu q) 127 [(0, .ref (adr 3)), (1, .int x1), (2, .int x2), (3, .int x3), (4, .int x4)] [] σ := by
  refine z_aload_n B dX0_put_127 0 rfl rfl ?_
  refine z_dup B dX0_put_128 rfl ?_
  refine fE_g_X0_C_size B dX0_put_129 hf (fun v129 hf => ?_)
  refine z_iconst B (1) dX0_put_132 zc_iconst_1 ?_
  refine z_iadd B dX0_put_133 hf (fun v133 hf => ?_)
  refine fE_p_X0_C_size B dX0_put_134 hf (fun s134 hf => ?_)
  refine z_aload_n B dX0_put_137 0 rfl rfl ?_
  refine z_iload_n B dX0_put_138 1 rfl rfl ?_
  refine z_aload_n B dX0_put_139 0 rfl rfl ?_
  refine fE_g_X0_C_size B dX0_put_140 hf (fun v140 hf => ?_)
  refine z_callVu B (As := [.int x1, .int v140]) kcV_X0_44 dX0_put_143 hf (fun q hq => cE_X0_mark q hq) (wE_o_C (adr := adr) (cI := cI) (cZ := cZ) (cS := cS) (tL := tL) (tH := tH)) rfl rfl rfl rfl (Nat.le_of_ble_eq_true rfl) rfl rfl ⟨Nat.le_of_ble_eq_true rfl, Nat.le_of_ble_eq_true rfl⟩ (fun s143 hf => ?_)
  exact z_return B dX0_put_146 hf
def mE_X0_put_80 (N : Nat) (σ : ST) (x1 : Int32) (x2 : Int32) (x3 : Int32) (x4 : Int32) (k1 : Int32) (k2 : Int32) : Option (ST) :=
  zSet σ 6 64 k1 k2 fun s80 =>
  zLet (s80 3 7) fun v86 =>
  zSet s80 7 64 v86 x2 fun s90 =>
  zLet (s90 3 7) fun v96 =>
  zSet s90 8 64 v96 x3 fun s100 =>
  zLet (s100 3 7) fun v106 =>
  zSet s100 9 64 v106 (vp_nar .boolean x4) fun s111 =>
  if (x4 : Int32) = 0 then
    mE_X0_put_127 N s111 x1 x2 x3 x4
  else
    zLet (s111 3 8) fun v119 =>
    zLet ((v119 : Int32) + (1)) fun v123 =>
    zLet (zUp s111 3 8 v123) fun s124 =>
    mE_X0_put_127 N s124 x1 x2 x3 x4
set_option maxRecDepth 20000 in
set_option maxHeartbeats 2000000 in
theorem tE_X0_put_80 {adr : Nat → Nat} {cI cZ cS : ClassId} {tL tH : Nat} {X : zX} {q : ST} (B : zC X 5 (wdE adr cI cZ cS tL tH) cX0_put RX0 none { frames := 1, cells := 0, slots := 0, locals := 22 }) (N : Nat) (σ : ST) (x1 : Int32) (x2 : Int32) (x3 : Int32) (x4 : Int32) (k1 : Int32) (k2 : Int32) (hf : mE_X0_put_80 N σ x1 x2 x3 x4 k1 k2 = some q) : zJ X 5 (wdE adr cI cZ cS tL tH) (zu q) 80 [(0, .ref (adr 3)), (1, .int x1), (2, .int x2), (3, .int x3), (4, .int x4)] [.int k2, .int k1, .ref (adr 6)] σ := by
  refine fE_s_C_touched B dX0_put_80 hf (fun s80 hf => ?_)
  refine z_aload_n B dX0_put_81 0 rfl rfl ?_
  refine fE_g_X0_C_owners B dX0_put_82 ?_
  refine z_aload_n B dX0_put_85 0 rfl rfl ?_
  refine fE_g_X0_C_size B dX0_put_86 hf (fun v86 hf => ?_)
  refine z_iload_n B dX0_put_89 2 rfl rfl ?_
  refine fE_s_C_owners B dX0_put_90 hf (fun s90 hf => ?_)
  refine z_aload_n B dX0_put_91 0 rfl rfl ?_
  refine fE_g_X0_C_fetchedAt B dX0_put_92 ?_
  refine z_aload_n B dX0_put_95 0 rfl rfl ?_
  refine fE_g_X0_C_size B dX0_put_96 hf (fun v96 hf => ?_)
  refine z_iload_n B dX0_put_99 3 rfl rfl ?_
  refine fE_s_C_fetchedAt B dX0_put_100 hf (fun s100 hf => ?_)
  refine z_aload_n B dX0_put_101 0 rfl rfl ?_
  refine fE_g_X0_C_waiting B dX0_put_102 ?_
  refine z_aload_n B dX0_put_105 0 rfl rfl ?_
  refine fE_g_X0_C_size B dX0_put_106 hf (fun v106 hf => ?_)
  refine z_iload B dX0_put_109 4 rfl ?_
  refine fE_s_C_waiting B dX0_put_111 hf (fun s111 hf => ?_)
  refine z_iload B dX0_put_112 4 rfl ?_
  refine z_if_eq B 127 dX0_put_114 (by decide) hf (fun hf => ?_) (fun hf => ?_)
  · exact tE_X0_put_127 B N s111 x1 x2 x3 x4 hf
  · refine z_aload_n B dX0_put_117 0 rfl rfl ?_
    refine z_dup B dX0_put_118 rfl ?_
    refine fE_g_X0_C_waitingSize B dX0_put_119 hf (fun v119 hf => ?_)
    refine z_iconst B (1) dX0_put_122 zc_iconst_1 ?_
    refine z_iadd B dX0_put_123 hf (fun v123 hf => ?_)
    refine fE_p_X0_C_waitingSize B dX0_put_124 hf (fun s124 hf => ?_)
    exact tE_X0_put_127 B N s124 x1 x2 x3 x4 hf
def mE_X0_put_27 (N : Nat) (σ : ST) (x1 : Int32) (x2 : Int32) (x3 : Int32) (k0 : Int32) : Option (ST) :=
  zLet (σ 3 9) fun v31 =>
  zLet ((v31 : Int32) + (1)) fun v35 =>
  zLet (zUp σ 3 9 v35) fun s36 =>
  zLet (s36 3 7) fun v44 =>
  zSet s36 4 64 v44 x1 fun s48 =>
  zLet (s48 3 7) fun v54 =>
  zLet (s48 3 9) fun v58 =>
  zSet s48 5 64 v54 v58 fun s61 =>
  zLet (s61 3 7) fun v67 =>
  if (k0 : Int32) = 0 then
    mE_X0_put_80 N s61 x1 x2 x3 k0 v67 (1)
  else
    mE_X0_put_80 N s61 x1 x2 x3 k0 v67 (0)
set_option maxRecDepth 20000 in
set_option maxHeartbeats 2000000 in
theorem tE_X0_put_27 {adr : Nat → Nat} {cI cZ cS : ClassId} {tL tH : Nat} {X : zX} {q : ST} (B : zC X 5 (wdE adr cI cZ cS tL tH) cX0_put RX0 none { frames := 1, cells := 0, slots := 0, locals := 22 }) (N : Nat) (σ : ST) (x1 : Int32) (x2 : Int32) (x3 : Int32) (k0 : Int32) (hf : mE_X0_put_27 N σ x1 x2 x3 k0 = some q) : zJ X 5 (wdE adr cI cZ cS tL tH) (zu q) 27 [(0, .ref (adr 3)), (1, .int x1), (2, .int x2), (3, .int x3)] [.int k0] σ := by
  refine z_istore B [(4, .int k0), (0, .ref (adr 3)), (1, .int x1), (2, .int x2), (3, .int x3)] dX0_put_27 (Nat.le_of_ble_eq_true rfl) rfl ?_
  refine z_aload_n B dX0_put_29 1 rfl rfl ?_
  refine z_dup B dX0_put_30 rfl ?_
  refine fE_g_X0_C_stamp B dX0_put_31 hf (fun v31 hf => ?_)
  refine z_iconst B (1) dX0_put_34 zc_iconst_1 ?_
  refine z_iadd B dX0_put_35 hf (fun v35 hf => ?_)
  refine fE_p_X0_C_stamp B dX0_put_36 hf (fun s36 hf => ?_)
  refine z_aload_n B dX0_put_39 1 rfl rfl ?_
  refine fE_g_X0_C_blocks B dX0_put_40 ?_
  refine z_aload_n B dX0_put_43 1 rfl rfl ?_
  refine fE_g_X0_C_size B dX0_put_44 hf (fun v44 hf => ?_)
  refine z_iload_n B dX0_put_47 2 rfl rfl ?_
  refine fE_s_C_blocks B dX0_put_48 hf (fun s48 hf => ?_)
  refine z_aload_n B dX0_put_49 1 rfl rfl ?_
  refine fE_g_X0_C_stamps B dX0_put_50 ?_
  refine z_aload_n B dX0_put_53 1 rfl rfl ?_
  refine fE_g_X0_C_size B dX0_put_54 hf (fun v54 hf => ?_)
  refine z_aload_n B dX0_put_57 1 rfl rfl ?_
  refine fE_g_X0_C_stamp B dX0_put_58 hf (fun v58 hf => ?_)
  refine fE_s_C_stamps B dX0_put_61 hf (fun s61 hf => ?_)
  refine z_aload_n B dX0_put_62 1 rfl rfl ?_
  refine fE_g_X0_C_touched B dX0_put_63 ?_
  refine z_aload_n B dX0_put_66 1 rfl rfl ?_
  refine fE_g_X0_C_size B dX0_put_67 hf (fun v67 hf => ?_)
  refine z_iload B dX0_put_70 0 rfl ?_
  refine z_if_eq B 79 dX0_put_72 (by decide) hf (fun hf => ?_) (fun hf => ?_)
  · refine z_iconst B (1) dX0_put_79 zc_iconst_1 ?_
    exact z_loc [1, 2, 3, 4, 0] _ rfl (tE_X0_put_80 B N s61 x1 x2 x3 k0 v67 (1) hf)
  · refine z_iconst B (0) dX0_put_75 zc_iconst_0 ?_
    refine z_goto B 80 dX0_put_76 (by decide) ?_
    exact z_loc [1, 2, 3, 4, 0] _ rfl (tE_X0_put_80 B N s61 x1 x2 x3 k0 v67 (0) hf)
def mE_X0_put_16 (N : Nat) (σ : ST) (x1 : Int32) (x2 : Int32) (x3 : Int32) : Option (ST) :=
  some σ
set_option maxRecDepth 20000 in
set_option maxHeartbeats 2000000 in
theorem tE_X0_put_16 {adr : Nat → Nat} {cI cZ cS : ClassId} {tL tH : Nat} {X : zX} {q : ST} (B : zC X 5 (wdE adr cI cZ cS tL tH) cX0_put RX0 none { frames := 1, cells := 0, slots := 0, locals := 22 }) (N : Nat) (σ : ST) (x1 : Int32) (x2 : Int32) (x3 : Int32) (hf : mE_X0_put_16 N σ x1 x2 x3 = some q) : zJ X 5 (wdE adr cI cZ cS tL tH) (zu q) 16 [(0, .ref (adr 3)), (1, .int x1), (2, .int x2), (3, .int x3)] [] σ := by
  exact z_return B dX0_put_16 hf
def mE_X0_put (N : Nat) (σ : ST) (x1 : Int32) (x2 : Int32) (x3 : Int32) : Option (ST) :=
  zLet (σ 3 7) fun v1 =>
  if (v1 : Int32) < 0 then
    mE_X0_put_16 N σ x1 x2 x3
  else
    zLet (σ 3 7) fun v8 =>
    if (v8 : Int32) < (64) then
      if (x2 : Int32) = (-1) then
        mE_X0_put_27 N σ x1 x2 x3 (0)
      else
        mE_X0_put_27 N σ x1 x2 x3 (1)
    else
      mE_X0_put_16 N σ x1 x2 x3
set_option maxRecDepth 20000 in
set_option maxHeartbeats 2000000 in
theorem cE_X0_put {adr : Nat → Nat} {cI cZ cS : ClassId} {tL tH : Nat} {l : Launch} {D : va_G} {N : Nat} {σ : ST} {x1 : Int32} {x2 : Int32} {x3 : Int32} (q : ST) (hf : mE_X0_put N σ x1 x2 x3 = some q) : zM l D (wdE adr cI cZ cS tL tH) yX0_put cX0_put 5 none ({ frames := 1, cells := 0, slots := 0, locals := 22 }) [.ref (adr 3), .int x1, .int x2, .int x3] σ (zu q) := by
  refine zM_of sfE_ok rfl (Nat.le_of_ble_eq_true rfl) [(0, .ref (adr 3)), (1, .int x1), (2, .int x2), (3, .int x3)] rfl (fun X hX1 hX2 B => ?_)
  have B : zC X 5 (wdE adr cI cZ cS tL tH) cX0_put RX0 none { frames := 1, cells := 0, slots := 0, locals := 22 } := B
  refine z_aload_n B dX0_put_0 0 rfl rfl ?_
  refine fE_g_X0_C_size B dX0_put_1 hf (fun v1 hf => ?_)
  refine z_if_lt B 16 dX0_put_4 (by decide) hf (fun hf => ?_) (fun hf => ?_)
  · exact tE_X0_put_16 B N σ x1 x2 x3 hf
  · refine z_aload_n B dX0_put_7 0 rfl rfl ?_
    refine fE_g_X0_C_size B dX0_put_8 hf (fun v8 hf => ?_)
    refine z_bipush B (64) dX0_put_11 zc_bipush_64 ?_
    refine z_icmp_lt B 17 dX0_put_13 (by decide) hf (fun hf => ?_) (fun hf => ?_)
    · refine z_iload_n B dX0_put_17 2 rfl rfl ?_
      refine z_iconst B (-1) dX0_put_18 zc_iconst_m1 ?_
      refine z_icmp_eq B 26 dX0_put_19 (by decide) hf (fun hf => ?_) (fun hf => ?_)
      · refine z_iconst B (0) dX0_put_26 zc_iconst_0 ?_
        exact tE_X0_put_27 B N σ x1 x2 x3 (0) hf
      · refine z_iconst B (1) dX0_put_22 zc_iconst_1 ?_
        refine z_goto B 27 dX0_put_23 (by decide) ?_
        exact tE_X0_put_27 B N σ x1 x2 x3 (1) hf
    · exact tE_X0_put_16 B N σ x1 x2 x3 hf
theorem dX0_makeRoom_0 : decode cX0_makeRoom 0 = .ok (.aload_n 0, 1) := by decide +kernel
theorem dX0_makeRoom_1 : decode cX0_makeRoom 1 = .ok (.getfield 34, 3) := by decide +kernel
theorem dX0_makeRoom_4 : decode cX0_makeRoom 4 = .ok (.iload_n 1, 1) := by decide +kernel
theorem dX0_makeRoom_5 : decode cX0_makeRoom 5 = .ok (.if_icmp .ge 5, 3) := by decide +kernel
theorem dX0_makeRoom_8 : decode cX0_makeRoom 8 = .ok (.iconst (-1), 1) := by decide +kernel
theorem dX0_makeRoom_9 : decode cX0_makeRoom 9 = .ok (.ireturn, 1) := by decide +kernel
theorem dX0_makeRoom_10 : decode cX0_makeRoom 10 = .ok (.iload_n 2, 1) := by decide +kernel
theorem dX0_makeRoom_11 : decode cX0_makeRoom 11 = .ok (.iconst 1, 1) := by decide +kernel
theorem dX0_makeRoom_12 : decode cX0_makeRoom 12 = .ok (.if_icmp .ne 17, 3) := by decide +kernel
theorem dX0_makeRoom_15 : decode cX0_makeRoom 15 = .ok (.aload_n 0, 1) := by decide +kernel
theorem dX0_makeRoom_16 : decode cX0_makeRoom 16 = .ok (.getfield 41, 3) := by decide +kernel
theorem dX0_makeRoom_19 : decode cX0_makeRoom 19 = .ok (.iload_n 1, 1) := by decide +kernel
theorem dX0_makeRoom_20 : decode cX0_makeRoom 20 = .ok (.iconst 4, 1) := by decide +kernel
theorem dX0_makeRoom_21 : decode cX0_makeRoom 21 = .ok (.idiv, 1) := by decide +kernel
theorem dX0_makeRoom_22 : decode cX0_makeRoom 22 = .ok (.if_icmp .le 7, 3) := by decide +kernel
theorem dX0_makeRoom_25 : decode cX0_makeRoom 25 = .ok (.iconst 1, 1) := by decide +kernel
theorem dX0_makeRoom_26 : decode cX0_makeRoom 26 = .ok (.goto 4, 3) := by decide +kernel
theorem dX0_makeRoom_29 : decode cX0_makeRoom 29 = .ok (.iconst 0, 1) := by decide +kernel
theorem dX0_makeRoom_30 : decode cX0_makeRoom 30 = .ok (.istore 4, 2) := by decide +kernel
theorem dX0_makeRoom_32 : decode cX0_makeRoom 32 = .ok (.iconst (-1), 1) := by decide +kernel
theorem dX0_makeRoom_33 : decode cX0_makeRoom 33 = .ok (.istore 5, 2) := by decide +kernel
theorem dX0_makeRoom_35 : decode cX0_makeRoom 35 = .ok (.ldc2_w 50, 3) := by decide +kernel
theorem dX0_makeRoom_38 : decode cX0_makeRoom 38 = .ok (.lstore 6, 2) := by decide +kernel
theorem dX0_makeRoom_40 : decode cX0_makeRoom 40 = .ok (.iconst 0, 1) := by decide +kernel
theorem dX0_makeRoom_41 : decode cX0_makeRoom 41 = .ok (.istore 8, 2) := by decide +kernel
theorem dX0_makeRoom_43 : decode cX0_makeRoom 43 = .ok (.iload 8, 2) := by decide +kernel
theorem dX0_makeRoom_45 : decode cX0_makeRoom 45 = .ok (.aload_n 0, 1) := by decide +kernel
theorem dX0_makeRoom_46 : decode cX0_makeRoom 46 = .ok (.getfield 34, 3) := by decide +kernel
theorem dX0_makeRoom_49 : decode cX0_makeRoom 49 = .ok (.if_icmp .ge 85, 3) := by decide +kernel
theorem dX0_makeRoom_52 : decode cX0_makeRoom 52 = .ok (.aload_n 0, 1) := by decide +kernel
theorem dX0_makeRoom_53 : decode cX0_makeRoom 53 = .ok (.getfield 9, 3) := by decide +kernel
theorem dX0_makeRoom_56 : decode cX0_makeRoom 56 = .ok (.iload 8, 2) := by decide +kernel
theorem dX0_makeRoom_58 : decode cX0_makeRoom 58 = .ok (.iaload, 1) := by decide +kernel
theorem dX0_makeRoom_59 : decode cX0_makeRoom 59 = .ok (.iload_n 3, 1) := by decide +kernel
theorem dX0_makeRoom_60 : decode cX0_makeRoom 60 = .ok (.if_icmp .eq 68, 3) := by decide +kernel
theorem dX0_makeRoom_63 : decode cX0_makeRoom 63 = .ok (.iload 4, 2) := by decide +kernel
theorem dX0_makeRoom_65 : decode cX0_makeRoom 65 = .ok (.ifCond .eq 16, 3) := by decide +kernel
theorem dX0_makeRoom_68 : decode cX0_makeRoom 68 = .ok (.aload_n 0, 1) := by decide +kernel
theorem dX0_makeRoom_69 : decode cX0_makeRoom 69 = .ok (.getfield 27, 3) := by decide +kernel
theorem dX0_makeRoom_72 : decode cX0_makeRoom 72 = .ok (.iload 8, 2) := by decide +kernel
theorem dX0_makeRoom_74 : decode cX0_makeRoom 74 = .ok (.baload, 1) := by decide +kernel
theorem dX0_makeRoom_75 : decode cX0_makeRoom 75 = .ok (.ifCond .ne 6, 3) := by decide +kernel
theorem dX0_makeRoom_78 : decode cX0_makeRoom 78 = .ok (.goto 50, 3) := by decide +kernel
theorem dX0_makeRoom_81 : decode cX0_makeRoom 81 = .ok (.aload_n 0, 1) := by decide +kernel
theorem dX0_makeRoom_82 : decode cX0_makeRoom 82 = .ok (.getfield 15, 3) := by decide +kernel
theorem dX0_makeRoom_85 : decode cX0_makeRoom 85 = .ok (.iload 8, 2) := by decide +kernel
theorem dX0_makeRoom_87 : decode cX0_makeRoom 87 = .ok (.iaload, 1) := by decide +kernel
theorem dX0_makeRoom_88 : decode cX0_makeRoom 88 = .ok (.i2l, 1) := by decide +kernel
theorem dX0_makeRoom_89 : decode cX0_makeRoom 89 = .ok (.iload_n 2, 1) := by decide +kernel
theorem dX0_makeRoom_90 : decode cX0_makeRoom 90 = .ok (.iconst 2, 1) := by decide +kernel
theorem dX0_makeRoom_91 : decode cX0_makeRoom 91 = .ok (.if_icmp .ne 17, 3) := by decide +kernel
theorem dX0_makeRoom_94 : decode cX0_makeRoom 94 = .ok (.aload_n 0, 1) := by decide +kernel
theorem dX0_makeRoom_95 : decode cX0_makeRoom 95 = .ok (.getfield 18, 3) := by decide +kernel
theorem dX0_makeRoom_98 : decode cX0_makeRoom 98 = .ok (.iload 8, 2) := by decide +kernel
theorem dX0_makeRoom_100 : decode cX0_makeRoom 100 = .ok (.iaload, 1) := by decide +kernel
theorem dX0_makeRoom_101 : decode cX0_makeRoom 101 = .ok (.i2l, 1) := by decide +kernel
theorem dX0_makeRoom_102 : decode cX0_makeRoom 102 = .ok (.bipush 32, 2) := by decide +kernel
theorem dX0_makeRoom_104 : decode cX0_makeRoom 104 = .ok (.lshl, 1) := by decide +kernel
theorem dX0_makeRoom_105 : decode cX0_makeRoom 105 = .ok (.goto 4, 3) := by decide +kernel
theorem dX0_makeRoom_108 : decode cX0_makeRoom 108 = .ok (.lconst 0, 1) := by decide +kernel
theorem dX0_makeRoom_109 : decode cX0_makeRoom 109 = .ok (.ladd, 1) := by decide +kernel
theorem dX0_makeRoom_110 : decode cX0_makeRoom 110 = .ok (.lstore 9, 2) := by decide +kernel
theorem dX0_makeRoom_112 : decode cX0_makeRoom 112 = .ok (.lload 9, 2) := by decide +kernel
theorem dX0_makeRoom_114 : decode cX0_makeRoom 114 = .ok (.lload 6, 2) := by decide +kernel
theorem dX0_makeRoom_116 : decode cX0_makeRoom 116 = .ok (.lcmp, 1) := by decide +kernel
theorem dX0_makeRoom_117 : decode cX0_makeRoom 117 = .ok (.ifCond .ge 11, 3) := by decide +kernel
theorem dX0_makeRoom_120 : decode cX0_makeRoom 120 = .ok (.lload 9, 2) := by decide +kernel
theorem dX0_makeRoom_122 : decode cX0_makeRoom 122 = .ok (.lstore 6, 2) := by decide +kernel
theorem dX0_makeRoom_124 : decode cX0_makeRoom 124 = .ok (.iload 8, 2) := by decide +kernel
theorem dX0_makeRoom_126 : decode cX0_makeRoom 126 = .ok (.istore 5, 2) := by decide +kernel
theorem dX0_makeRoom_128 : decode cX0_makeRoom 128 = .ok (.iinc 8 1, 3) := by decide +kernel
theorem dX0_makeRoom_131 : decode cX0_makeRoom 131 = .ok (.goto (-88), 3) := by decide +kernel
theorem dX0_makeRoom_134 : decode cX0_makeRoom 134 = .ok (.aload_n 0, 1) := by decide +kernel
theorem dX0_makeRoom_135 : decode cX0_makeRoom 135 = .ok (.iload 5, 2) := by decide +kernel
theorem dX0_makeRoom_137 : decode cX0_makeRoom 137 = .ok (.invokevirtual 52, 3) := by decide +kernel
theorem dX0_makeRoom_140 : decode cX0_makeRoom 140 = .ok (.ireturn, 1) := by decide +kernel
def mE_X0_makeRoom_128 (N : Nat) (hd43 : ST → Int32 → Int32 → Int32 → Int32 → Int32 → Int64 → Int32 → Option (Int32 × ST)) (σ : ST) (x1 : Int32) (x2 : Int32) (x3 : Int32) (x4 : Int32) (x5 : Int32) (x6 : Int64) (x8 : Int32) : Option (Int32 × ST) :=
  zLet (x8 + (1)) fun v128 =>
  hd43 σ x1 x2 x3 x4 x5 x6 v128
set_option maxRecDepth 20000 in
set_option maxHeartbeats 2000000 in
theorem tE_X0_makeRoom_128 {adr : Nat → Nat} {cI cZ cS : ClassId} {tL tH : Nat} {X : zX} {q : Int32 × ST} (B : zC X 11 (wdE adr cI cZ cS tL tH) cX0_makeRoom RX0 (some .int) { frames := 2, cells := 0, slots := 0, locals := 44 }) (N : Nat) (hd43 : ST → Int32 → Int32 → Int32 → Int32 → Int32 → Int64 → Int32 → Option (Int32 × ST)) (hh43 : ∀ (σ : ST) (x1 : Int32) (x2 : Int32) (x3 : Int32) (x4 : Int32) (x5 : Int32) (x6 : Int64) (x8 : Int32), hd43 σ x1 x2 x3 x4 x5 x6 x8 = some q → zJ X 11 (wdE adr cI cZ cS tL tH) (zi q) 43 [(0, .ref (adr 3)), (1, .int x1), (2, .int x2), (3, .int x3), (4, .int x4), (5, .int x5), (6, .long x6), (8, .int x8)] [] σ) (σ : ST) (x1 : Int32) (x2 : Int32) (x3 : Int32) (x4 : Int32) (x5 : Int32) (x6 : Int64) (x8 : Int32) (hf : mE_X0_makeRoom_128 N hd43 σ x1 x2 x3 x4 x5 x6 x8 = some q) : zJ X 11 (wdE adr cI cZ cS tL tH) (zi q) 128 [(0, .ref (adr 3)), (1, .int x1), (2, .int x2), (3, .int x3), (4, .int x4), (5, .int x5), (6, .long x6), (8, .int x8)] [] σ := by
  refine z_iinc B (1) 7 (fun v128 => [(8, .int v128), (0, .ref (adr 3)), (1, .int x1), (2, .int x2), (3, .int x3), (4, .int x4), (5, .int x5), (6, .long x6)]) dX0_makeRoom_128 hf zc_iconst_1 rfl (Nat.le_of_ble_eq_true rfl) (fun _ => rfl) (fun v128 hf => ?_)
  refine z_goto B 43 dX0_makeRoom_131 (by decide) ?_
  exact z_loc [1, 2, 3, 4, 5, 6, 7, 0] _ rfl (hh43 σ x1 x2 x3 x4 x5 x6 v128 hf)
def mE_X0_makeRoom_109 (N : Nat) (hd43 : ST → Int32 → Int32 → Int32 → Int32 → Int32 → Int64 → Int32 → Option (Int32 × ST)) (σ : ST) (x1 : Int32) (x2 : Int32) (x3 : Int32) (x4 : Int32) (x5 : Int32) (x6 : Int64) (x8 : Int32) (k0 : Int64) (k1 : Int64) : Option (Int32 × ST) :=
  zLet ((k0 : Int64) + k1) fun v109 =>
  zLet (lg_cmp v109 x6) fun v116 =>
  if (0 : Int32) ≤ v116 then
    mE_X0_makeRoom_128 N hd43 σ x1 x2 x3 x4 x5 x6 x8
  else
    mE_X0_makeRoom_128 N hd43 σ x1 x2 x3 x4 x8 v109 x8
set_option maxRecDepth 20000 in
set_option maxHeartbeats 2000000 in
theorem tE_X0_makeRoom_109 {adr : Nat → Nat} {cI cZ cS : ClassId} {tL tH : Nat} {X : zX} {q : Int32 × ST} (B : zC X 11 (wdE adr cI cZ cS tL tH) cX0_makeRoom RX0 (some .int) { frames := 2, cells := 0, slots := 0, locals := 44 }) (N : Nat) (hd43 : ST → Int32 → Int32 → Int32 → Int32 → Int32 → Int64 → Int32 → Option (Int32 × ST)) (hh43 : ∀ (σ : ST) (x1 : Int32) (x2 : Int32) (x3 : Int32) (x4 : Int32) (x5 : Int32) (x6 : Int64) (x8 : Int32), hd43 σ x1 x2 x3 x4 x5 x6 x8 = some q → zJ X 11 (wdE adr cI cZ cS tL tH) (zi q) 43 [(0, .ref (adr 3)), (1, .int x1), (2, .int x2), (3, .int x3), (4, .int x4), (5, .int x5), (6, .long x6), (8, .int x8)] [] σ) (σ : ST) (x1 : Int32) (x2 : Int32) (x3 : Int32) (x4 : Int32) (x5 : Int32) (x6 : Int64) (x8 : Int32) (k0 : Int64) (k1 : Int64) (hf : mE_X0_makeRoom_109 N hd43 σ x1 x2 x3 x4 x5 x6 x8 k0 k1 = some q) : zJ X 11 (wdE adr cI cZ cS tL tH) (zi q) 109 [(0, .ref (adr 3)), (1, .int x1), (2, .int x2), (3, .int x3), (4, .int x4), (5, .int x5), (6, .long x6), (8, .int x8)] [.long k1, .long k0] σ := by
  refine z_ladd B dX0_makeRoom_109 hf (fun v109 hf => ?_)
  refine z_lstore B [(9, .long v109), (0, .ref (adr 3)), (1, .int x1), (2, .int x2), (3, .int x3), (4, .int x4), (5, .int x5), (6, .long x6), (8, .int x8)] dX0_makeRoom_110 (Nat.le_of_ble_eq_true rfl) rfl ?_
  refine z_lload B dX0_makeRoom_112 0 rfl ?_
  refine z_lload B dX0_makeRoom_114 7 rfl ?_
  refine z_lcmp B dX0_makeRoom_116 hf (fun v116 hf => ?_)
  refine z_if_ge B 128 dX0_makeRoom_117 (by decide) hf (fun hf => ?_) (fun hf => ?_)
  · exact z_loc [1, 2, 3, 4, 5, 6, 7, 8] _ rfl (tE_X0_makeRoom_128 B N hd43 hh43 σ x1 x2 x3 x4 x5 x6 x8 hf)
  · refine z_lload B dX0_makeRoom_120 0 rfl ?_
    refine z_lstore B [(6, .long v109), (9, .long v109), (0, .ref (adr 3)), (1, .int x1), (2, .int x2), (3, .int x3), (4, .int x4), (5, .int x5), (8, .int x8)] dX0_makeRoom_122 (Nat.le_of_ble_eq_true rfl) rfl ?_
    refine z_iload B dX0_makeRoom_124 8 rfl ?_
    refine z_istore B [(5, .int x8), (6, .long v109), (9, .long v109), (0, .ref (adr 3)), (1, .int x1), (2, .int x2), (3, .int x3), (4, .int x4), (8, .int x8)] dX0_makeRoom_126 (Nat.le_of_ble_eq_true rfl) rfl ?_
    exact z_loc [3, 4, 5, 6, 7, 0, 1, 8] _ rfl (tE_X0_makeRoom_128 B N hd43 hh43 σ x1 x2 x3 x4 x8 v109 x8 hf)
def mE_X0_makeRoom_81 (N : Nat) (hd43 : ST → Int32 → Int32 → Int32 → Int32 → Int32 → Int64 → Int32 → Option (Int32 × ST)) (σ : ST) (x1 : Int32) (x2 : Int32) (x3 : Int32) (x4 : Int32) (x5 : Int32) (x6 : Int64) (x8 : Int32) : Option (Int32 × ST) :=
  zGet (σ 5) 64 x8 fun v87 =>
  zLet ((v87 : Int32).toInt64) fun v88 =>
  if (x2 : Int32) = (2) then
    zGet (σ 6) 64 x8 fun v100 =>
    zLet ((v100 : Int32).toInt64) fun v101 =>
    zLet ((v101 : Int64) <<< (((32) : Int32).toInt64 &&& 63)) fun v104 =>
    mE_X0_makeRoom_109 N hd43 σ x1 x2 x3 x4 x5 x6 x8 v88 v104
  else
    mE_X0_makeRoom_109 N hd43 σ x1 x2 x3 x4 x5 x6 x8 v88 (0)
set_option maxRecDepth 20000 in
set_option maxHeartbeats 2000000 in
theorem tE_X0_makeRoom_81 {adr : Nat → Nat} {cI cZ cS : ClassId} {tL tH : Nat} {X : zX} {q : Int32 × ST} (B : zC X 11 (wdE adr cI cZ cS tL tH) cX0_makeRoom RX0 (some .int) { frames := 2, cells := 0, slots := 0, locals := 44 }) (N : Nat) (hd43 : ST → Int32 → Int32 → Int32 → Int32 → Int32 → Int64 → Int32 → Option (Int32 × ST)) (hh43 : ∀ (σ : ST) (x1 : Int32) (x2 : Int32) (x3 : Int32) (x4 : Int32) (x5 : Int32) (x6 : Int64) (x8 : Int32), hd43 σ x1 x2 x3 x4 x5 x6 x8 = some q → zJ X 11 (wdE adr cI cZ cS tL tH) (zi q) 43 [(0, .ref (adr 3)), (1, .int x1), (2, .int x2), (3, .int x3), (4, .int x4), (5, .int x5), (6, .long x6), (8, .int x8)] [] σ) (σ : ST) (x1 : Int32) (x2 : Int32) (x3 : Int32) (x4 : Int32) (x5 : Int32) (x6 : Int64) (x8 : Int32) (hf : mE_X0_makeRoom_81 N hd43 σ x1 x2 x3 x4 x5 x6 x8 = some q) : zJ X 11 (wdE adr cI cZ cS tL tH) (zi q) 81 [(0, .ref (adr 3)), (1, .int x1), (2, .int x2), (3, .int x3), (4, .int x4), (5, .int x5), (6, .long x6), (8, .int x8)] [] σ := by
  refine z_aload_n B dX0_makeRoom_81 0 rfl rfl ?_
  refine fE_g_X0_C_stamps B dX0_makeRoom_82 ?_
  refine z_iload B dX0_makeRoom_85 7 rfl ?_
  refine fE_l_C_stamps B dX0_makeRoom_87 hf (fun v87 hf => ?_)
  refine z_i2l B dX0_makeRoom_88 hf (fun v88 hf => ?_)
  refine z_iload_n B dX0_makeRoom_89 2 rfl rfl ?_
  refine z_iconst B (2) dX0_makeRoom_90 zc_iconst_2 ?_
  refine z_icmp_ne B 108 dX0_makeRoom_91 (by decide) hf (fun hf => ?_) (fun hf => ?_)
  · refine z_lconst B (0) dX0_makeRoom_108 rfl ?_
    exact tE_X0_makeRoom_109 B N hd43 hh43 σ x1 x2 x3 x4 x5 x6 x8 v88 (0) hf
  · refine z_aload_n B dX0_makeRoom_94 0 rfl rfl ?_
    refine fE_g_X0_C_touched B dX0_makeRoom_95 ?_
    refine z_iload B dX0_makeRoom_98 7 rfl ?_
    refine fE_l_C_touched B dX0_makeRoom_100 hf (fun v100 hf => ?_)
    refine z_i2l B dX0_makeRoom_101 hf (fun v101 hf => ?_)
    refine z_bipush B (32) dX0_makeRoom_102 zc_bipush_32 ?_
    refine z_lshl B dX0_makeRoom_104 hf (fun v104 hf => ?_)
    refine z_goto B 109 dX0_makeRoom_105 (by decide) ?_
    exact tE_X0_makeRoom_109 B N hd43 hh43 σ x1 x2 x3 x4 x5 x6 x8 v88 v104 hf
def mE_X0_makeRoom_B43 (N : Nat) (hd43 : ST → Int32 → Int32 → Int32 → Int32 → Int32 → Int64 → Int32 → Option (Int32 × ST)) (σ : ST) (x1 : Int32) (x2 : Int32) (x3 : Int32) (x4 : Int32) (x5 : Int32) (x6 : Int64) (x8 : Int32) : Option (Int32 × ST) :=
  zLet (σ 3 7) fun v46 =>
  if (v46 : Int32) ≤ x8 then
    zCall (mE_X0_takeOut N σ x5) fun v137 s137 =>
    some (v137, s137)
  else
    zGet (σ 4) 64 x8 fun v58 =>
    if (v58 : Int32) = x3 then
      mE_X0_makeRoom_128 N hd43 σ x1 x2 x3 x4 x5 x6 x8
    else
      if (x4 : Int32) = 0 then
        mE_X0_makeRoom_81 N hd43 σ x1 x2 x3 x4 x5 x6 x8
      else
        zGet (σ 9) 64 x8 fun v74 =>
        if (v74 : Int32) = 0 then
          mE_X0_makeRoom_128 N hd43 σ x1 x2 x3 x4 x5 x6 x8
        else
          mE_X0_makeRoom_81 N hd43 σ x1 x2 x3 x4 x5 x6 x8
def mE_X0_makeRoom_43 (N : Nat) : ST → Int32 → Int32 → Int32 → Int32 → Int32 → Int64 → Int32 → Option (Int32 × ST) := zIt (mE_X0_makeRoom_B43 N) (fun _ _ _ _ _ _ _ _ => none) N
set_option maxRecDepth 20000 in
set_option maxHeartbeats 2000000 in
theorem tE_X0_makeRoom_43 {adr : Nat → Nat} {cI cZ cS : ClassId} {tL tH : Nat} {X : zX} {q : Int32 × ST} (B : zC X 11 (wdE adr cI cZ cS tL tH) cX0_makeRoom RX0 (some .int) { frames := 2, cells := 0, slots := 0, locals := 44 }) (N : Nat) : ∀ (σ : ST) (x1 : Int32) (x2 : Int32) (x3 : Int32) (x4 : Int32) (x5 : Int32) (x6 : Int64) (x8 : Int32), mE_X0_makeRoom_43 N σ x1 x2 x3 x4 x5 x6 x8 = some q → zJ X 11 (wdE adr cI cZ cS tL tH) (zi q) 43 [(0, .ref (adr 3)), (1, .int x1), (2, .int x2), (3, .int x3), (4, .int x4), (5, .int x5), (6, .long x6), (8, .int x8)] [] σ := by
  refine zIt_ind (P := fun (hd : ST → Int32 → Int32 → Int32 → Int32 → Int32 → Int64 → Int32 → Option (Int32 × ST)) => ∀ (σ : ST) (x1 : Int32) (x2 : Int32) (x3 : Int32) (x4 : Int32) (x5 : Int32) (x6 : Int64) (x8 : Int32), hd σ x1 x2 x3 x4 x5 x6 x8 = some q → zJ X 11 (wdE adr cI cZ cS tL tH) (zi q) 43 [(0, .ref (adr 3)), (1, .int x1), (2, .int x2), (3, .int x3), (4, .int x4), (5, .int x5), (6, .long x6), (8, .int x8)] [] σ) (fun _ _ _ _ _ _ _ _ hf => by cases hf) (fun hd43 hh43 => ?_) N
  intro σ x1 x2 x3 x4 x5 x6 x8 hf
  refine z_iload B dX0_makeRoom_43 7 rfl ?_
  refine z_aload_n B dX0_makeRoom_45 0 rfl rfl ?_
  refine fE_g_X0_C_size B dX0_makeRoom_46 hf (fun v46 hf => ?_)
  refine z_icmp_ge B 134 dX0_makeRoom_49 (by decide) hf (fun hf => ?_) (fun hf => ?_)
  · refine z_aload_n B dX0_makeRoom_134 0 rfl rfl ?_
    refine z_iload B dX0_makeRoom_135 5 rfl ?_
    refine z_callVi B (As := [.int x5]) kcV_X0_52 dX0_makeRoom_137 hf (fun q hq => cE_X0_takeOut q hq) (wE_o_C (adr := adr) (cI := cI) (cZ := cZ) (cS := cS) (tL := tL) (tH := tH)) rfl rfl rfl rfl (Nat.le_of_ble_eq_true rfl) rfl rfl ⟨Nat.le_of_ble_eq_true rfl, Nat.le_of_ble_eq_true rfl⟩ (fun v137 s137 hf => ?_)
    exact z_ireturn B dX0_makeRoom_140 hf
  · refine z_aload_n B dX0_makeRoom_52 0 rfl rfl ?_
    refine fE_g_X0_C_blocks B dX0_makeRoom_53 ?_
    refine z_iload B dX0_makeRoom_56 7 rfl ?_
    refine fE_l_C_blocks B dX0_makeRoom_58 hf (fun v58 hf => ?_)
    refine z_iload_n B dX0_makeRoom_59 3 rfl rfl ?_
    refine z_icmp_eq B 128 dX0_makeRoom_60 (by decide) hf (fun hf => ?_) (fun hf => ?_)
    · exact tE_X0_makeRoom_128 B N hd43 hh43 σ x1 x2 x3 x4 x5 x6 x8 hf
    · refine z_iload B dX0_makeRoom_63 4 rfl ?_
      refine z_if_eq B 81 dX0_makeRoom_65 (by decide) hf (fun hf => ?_) (fun hf => ?_)
      · exact tE_X0_makeRoom_81 B N hd43 hh43 σ x1 x2 x3 x4 x5 x6 x8 hf
      · refine z_aload_n B dX0_makeRoom_68 0 rfl rfl ?_
        refine fE_g_X0_C_waiting B dX0_makeRoom_69 ?_
        refine z_iload B dX0_makeRoom_72 7 rfl ?_
        refine fE_l_C_waiting B dX0_makeRoom_74 hf (fun v74 hf => ?_)
        refine z_if_ne B 81 dX0_makeRoom_75 (by decide) hf (fun hf => ?_) (fun hf => ?_)
        · exact tE_X0_makeRoom_81 B N hd43 hh43 σ x1 x2 x3 x4 x5 x6 x8 hf
        · refine z_goto B 128 dX0_makeRoom_78 (by decide) ?_
          exact tE_X0_makeRoom_128 B N hd43 hh43 σ x1 x2 x3 x4 x5 x6 x8 hf
def mE_X0_makeRoom_30 (N : Nat) (σ : ST) (x1 : Int32) (x2 : Int32) (x3 : Int32) (k0 : Int32) : Option (Int32 × ST) :=
  mE_X0_makeRoom_43 N σ x1 x2 x3 k0 (-1) (9223372036854775807) (0)
set_option maxRecDepth 20000 in
set_option maxHeartbeats 2000000 in
theorem tE_X0_makeRoom_30 {adr : Nat → Nat} {cI cZ cS : ClassId} {tL tH : Nat} {X : zX} {q : Int32 × ST} (B : zC X 11 (wdE adr cI cZ cS tL tH) cX0_makeRoom RX0 (some .int) { frames := 2, cells := 0, slots := 0, locals := 44 }) (N : Nat) (σ : ST) (x1 : Int32) (x2 : Int32) (x3 : Int32) (k0 : Int32) (hf : mE_X0_makeRoom_30 N σ x1 x2 x3 k0 = some q) : zJ X 11 (wdE adr cI cZ cS tL tH) (zi q) 30 [(0, .ref (adr 3)), (1, .int x1), (2, .int x2), (3, .int x3)] [.int k0] σ := by
  refine z_istore B [(4, .int k0), (0, .ref (adr 3)), (1, .int x1), (2, .int x2), (3, .int x3)] dX0_makeRoom_30 (Nat.le_of_ble_eq_true rfl) rfl ?_
  refine z_iconst B (-1) dX0_makeRoom_32 zc_iconst_m1 ?_
  refine z_istore B [(5, .int (-1)), (4, .int k0), (0, .ref (adr 3)), (1, .int x1), (2, .int x2), (3, .int x3)] dX0_makeRoom_33 (Nat.le_of_ble_eq_true rfl) rfl ?_
  refine z_ldc2 B kw_411 dX0_makeRoom_35 ?_
  refine z_lstore B [(6, .long (9223372036854775807)), (5, .int (-1)), (4, .int k0), (0, .ref (adr 3)), (1, .int x1), (2, .int x2), (3, .int x3)] dX0_makeRoom_38 (Nat.le_of_ble_eq_true rfl) rfl ?_
  refine z_iconst B (0) dX0_makeRoom_40 zc_iconst_0 ?_
  refine z_istore B [(8, .int (0)), (6, .long (9223372036854775807)), (5, .int (-1)), (4, .int k0), (0, .ref (adr 3)), (1, .int x1), (2, .int x2), (3, .int x3)] dX0_makeRoom_41 (Nat.le_of_ble_eq_true rfl) rfl ?_
  exact z_loc [4, 5, 6, 7, 3, 2, 1, 0] _ rfl (tE_X0_makeRoom_43 B N σ x1 x2 x3 k0 (-1) (9223372036854775807) (0) hf)
def mE_X0_makeRoom_29 (N : Nat) (σ : ST) (x1 : Int32) (x2 : Int32) (x3 : Int32) : Option (Int32 × ST) :=
  mE_X0_makeRoom_30 N σ x1 x2 x3 (0)
set_option maxRecDepth 20000 in
set_option maxHeartbeats 2000000 in
theorem tE_X0_makeRoom_29 {adr : Nat → Nat} {cI cZ cS : ClassId} {tL tH : Nat} {X : zX} {q : Int32 × ST} (B : zC X 11 (wdE adr cI cZ cS tL tH) cX0_makeRoom RX0 (some .int) { frames := 2, cells := 0, slots := 0, locals := 44 }) (N : Nat) (σ : ST) (x1 : Int32) (x2 : Int32) (x3 : Int32) (hf : mE_X0_makeRoom_29 N σ x1 x2 x3 = some q) : zJ X 11 (wdE adr cI cZ cS tL tH) (zi q) 29 [(0, .ref (adr 3)), (1, .int x1), (2, .int x2), (3, .int x3)] [] σ := by
  refine z_iconst B (0) dX0_makeRoom_29 zc_iconst_0 ?_
  exact tE_X0_makeRoom_30 B N σ x1 x2 x3 (0) hf
def mE_X0_makeRoom (N : Nat) (σ : ST) (x1 : Int32) (x2 : Int32) (x3 : Int32) : Option (Int32 × ST) :=
  zLet (σ 3 7) fun v1 =>
  if (x1 : Int32) ≤ v1 then
    if (x2 : Int32) = (1) then
      zLet (σ 3 8) fun v16 =>
      zDiv x1 (4) fun v21 =>
      if (v16 : Int32) ≤ v21 then
        mE_X0_makeRoom_29 N σ x1 x2 x3
      else
        mE_X0_makeRoom_30 N σ x1 x2 x3 (1)
    else
      mE_X0_makeRoom_29 N σ x1 x2 x3
  else
    some ((-1), σ)
set_option maxRecDepth 20000 in
set_option maxHeartbeats 2000000 in
theorem cE_X0_makeRoom {adr : Nat → Nat} {cI cZ cS : ClassId} {tL tH : Nat} {l : Launch} {D : va_G} {N : Nat} {σ : ST} {x1 : Int32} {x2 : Int32} {x3 : Int32} (q : Int32 × ST) (hf : mE_X0_makeRoom N σ x1 x2 x3 = some q) : zM l D (wdE adr cI cZ cS tL tH) yX0_makeRoom cX0_makeRoom 11 (some .int) ({ frames := 2, cells := 0, slots := 0, locals := 44 }) [.ref (adr 3), .int x1, .int x2, .int x3] σ (zi q) := by
  refine zM_of sfE_ok rfl (Nat.le_of_ble_eq_true rfl) [(0, .ref (adr 3)), (1, .int x1), (2, .int x2), (3, .int x3)] rfl (fun X hX1 hX2 B => ?_)
  have B : zC X 11 (wdE adr cI cZ cS tL tH) cX0_makeRoom RX0 (some .int) { frames := 2, cells := 0, slots := 0, locals := 44 } := B
  refine z_aload_n B dX0_makeRoom_0 0 rfl rfl ?_
  refine fE_g_X0_C_size B dX0_makeRoom_1 hf (fun v1 hf => ?_)
  refine z_iload_n B dX0_makeRoom_4 1 rfl rfl ?_
  refine z_icmp_ge B 10 dX0_makeRoom_5 (by decide) hf (fun hf => ?_) (fun hf => ?_)
  · refine z_iload_n B dX0_makeRoom_10 2 rfl rfl ?_
    refine z_iconst B (1) dX0_makeRoom_11 zc_iconst_1 ?_
    refine z_icmp_ne B 29 dX0_makeRoom_12 (by decide) hf (fun hf => ?_) (fun hf => ?_)
    · exact tE_X0_makeRoom_29 B N σ x1 x2 x3 hf
    · refine z_aload_n B dX0_makeRoom_15 0 rfl rfl ?_
      refine fE_g_X0_C_waitingSize B dX0_makeRoom_16 hf (fun v16 hf => ?_)
      refine z_iload_n B dX0_makeRoom_19 1 rfl rfl ?_
      refine z_iconst B (4) dX0_makeRoom_20 zc_iconst_4 ?_
      refine z_idiv B dX0_makeRoom_21 hf (fun v21 hf => ?_)
      refine z_icmp_le B 29 dX0_makeRoom_22 (by decide) hf (fun hf => ?_) (fun hf => ?_)
      · exact tE_X0_makeRoom_29 B N σ x1 x2 x3 hf
      · refine z_iconst B (1) dX0_makeRoom_25 zc_iconst_1 ?_
        refine z_goto B 30 dX0_makeRoom_26 (by decide) ?_
        exact tE_X0_makeRoom_30 B N σ x1 x2 x3 (1) hf
  · refine z_iconst B (-1) dX0_makeRoom_8 zc_iconst_m1 ?_
    exact z_ireturn B dX0_makeRoom_9 hf
theorem dX2_streamOf_0 : decode cX2_streamOf 0 = .ok (.iconst 0, 1) := by decide +kernel
theorem dX2_streamOf_1 : decode cX2_streamOf 1 = .ok (.istore_n 2, 1) := by decide +kernel
theorem dX2_streamOf_2 : decode cX2_streamOf 2 = .ok (.iload_n 1, 1) := by decide +kernel
theorem dX2_streamOf_3 : decode cX2_streamOf 3 = .ok (.iconst (-1), 1) := by decide +kernel
theorem dX2_streamOf_4 : decode cX2_streamOf 4 = .ok (.if_icmp .eq 35, 3) := by decide +kernel
theorem dX2_streamOf_7 : decode cX2_streamOf 7 = .ok (.iload_n 2, 1) := by decide +kernel
theorem dX2_streamOf_8 : decode cX2_streamOf 8 = .ok (.bipush 6, 2) := by decide +kernel
theorem dX2_streamOf_10 : decode cX2_streamOf 10 = .ok (.if_icmp .ge 29, 3) := by decide +kernel
theorem dX2_streamOf_13 : decode cX2_streamOf 13 = .ok (.aload_n 0, 1) := by decide +kernel
theorem dX2_streamOf_14 : decode cX2_streamOf 14 = .ok (.getfield 40, 3) := by decide +kernel
theorem dX2_streamOf_17 : decode cX2_streamOf 17 = .ok (.iload_n 2, 1) := by decide +kernel
theorem dX2_streamOf_18 : decode cX2_streamOf 18 = .ok (.aaload, 1) := by decide +kernel
theorem dX2_streamOf_19 : decode cX2_streamOf 19 = .ok (.getfield 70, 3) := by decide +kernel
theorem dX2_streamOf_22 : decode cX2_streamOf 22 = .ok (.iload_n 1, 1) := by decide +kernel
theorem dX2_streamOf_23 : decode cX2_streamOf 23 = .ok (.if_icmp .ne 10, 3) := by decide +kernel
theorem dX2_streamOf_26 : decode cX2_streamOf 26 = .ok (.aload_n 0, 1) := by decide +kernel
theorem dX2_streamOf_27 : decode cX2_streamOf 27 = .ok (.getfield 40, 3) := by decide +kernel
theorem dX2_streamOf_30 : decode cX2_streamOf 30 = .ok (.iload_n 2, 1) := by decide +kernel
theorem dX2_streamOf_31 : decode cX2_streamOf 31 = .ok (.aaload, 1) := by decide +kernel
theorem dX2_streamOf_32 : decode cX2_streamOf 32 = .ok (.areturn, 1) := by decide +kernel
theorem dX2_streamOf_33 : decode cX2_streamOf 33 = .ok (.iinc 2 1, 3) := by decide +kernel
theorem dX2_streamOf_36 : decode cX2_streamOf 36 = .ok (.goto (-34), 3) := by decide +kernel
theorem dX2_streamOf_39 : decode cX2_streamOf 39 = .ok (.aconst_null, 1) := by decide +kernel
theorem dX2_streamOf_40 : decode cX2_streamOf 40 = .ok (.areturn, 1) := by decide +kernel
def mE_X2_streamOf_39 (N : Nat) (σ : ST) (x1 : Int32) (x2 : Int32) : Option (Option (Fin 6) × ST) :=
  some (none, σ)
set_option maxRecDepth 20000 in
set_option maxHeartbeats 2000000 in
theorem tE_X2_streamOf_39 {adr : Nat → Nat} {cI cZ cS : ClassId} {tL tH : Nat} {X : zX} {q : Option (Fin 6) × ST} (B : zC X 3 (wdE adr cI cZ cS tL tH) cX2_streamOf RX2 (some (.object "AheadPlanner$Stream")) { frames := 0, cells := 0, slots := 0, locals := 0 }) (N : Nat) (σ : ST) (x1 : Int32) (x2 : Int32) (hf : mE_X2_streamOf_39 N σ x1 x2 = some q) : zJ X 3 (wdE adr cI cZ cS tL tH) (zr adr q) 39 [(0, .ref (adr 0)), (1, .int x1), (2, .int x2)] [] σ := by
  refine z_null B dX2_streamOf_39 ?_
  exact z_areturn (o := none) B dX2_streamOf_40 hf
def mE_X2_streamOf_B2 (N : Nat) (hd2 : ST → Int32 → Int32 → Option (Option (Fin 6) × ST)) (σ : ST) (x1 : Int32) (x2 : Int32) : Option (Option (Fin 6) × ST) :=
  if (x1 : Int32) = (-1) then
    mE_X2_streamOf_39 N σ x1 x2
  else
    if ((6) : Int32) ≤ x2 then
      mE_X2_streamOf_39 N σ x1 x2
    else
      zGet6 x2 fun v18 =>
      zLet (σ (12 + (v18).val) 0) fun v19 =>
      if (v19 : Int32) = x1 then
        zGet6 x2 fun v31 =>
        some ((some v31), σ)
      else
        zLet (x2 + (1)) fun v33 =>
        hd2 σ x1 v33
def mE_X2_streamOf_2 (N : Nat) : ST → Int32 → Int32 → Option (Option (Fin 6) × ST) := zIt (mE_X2_streamOf_B2 N) (fun _ _ _ => none) N
set_option maxRecDepth 20000 in
set_option maxHeartbeats 2000000 in
theorem tE_X2_streamOf_2 {adr : Nat → Nat} {cI cZ cS : ClassId} {tL tH : Nat} {X : zX} {q : Option (Fin 6) × ST} (B : zC X 3 (wdE adr cI cZ cS tL tH) cX2_streamOf RX2 (some (.object "AheadPlanner$Stream")) { frames := 0, cells := 0, slots := 0, locals := 0 }) (N : Nat) : ∀ (σ : ST) (x1 : Int32) (x2 : Int32), mE_X2_streamOf_2 N σ x1 x2 = some q → zJ X 3 (wdE adr cI cZ cS tL tH) (zr adr q) 2 [(0, .ref (adr 0)), (1, .int x1), (2, .int x2)] [] σ := by
  refine zIt_ind (P := fun (hd : ST → Int32 → Int32 → Option (Option (Fin 6) × ST)) => ∀ (σ : ST) (x1 : Int32) (x2 : Int32), hd σ x1 x2 = some q → zJ X 3 (wdE adr cI cZ cS tL tH) (zr adr q) 2 [(0, .ref (adr 0)), (1, .int x1), (2, .int x2)] [] σ) (fun _ _ _ hf => by cases hf) (fun hd2 hh2 => ?_) N
  intro σ x1 x2 hf
  refine z_iload_n B dX2_streamOf_2 1 rfl rfl ?_
  refine z_iconst B (-1) dX2_streamOf_3 zc_iconst_m1 ?_
  refine z_icmp_eq B 39 dX2_streamOf_4 (by decide) hf (fun hf => ?_) (fun hf => ?_)
  · exact tE_X2_streamOf_39 B N σ x1 x2 hf
  · refine z_iload_n B dX2_streamOf_7 2 rfl rfl ?_
    refine z_bipush B (6) dX2_streamOf_8 zc_bipush_6 ?_
    refine z_icmp_ge B 39 dX2_streamOf_10 (by decide) hf (fun hf => ?_) (fun hf => ?_)
    · exact tE_X2_streamOf_39 B N σ x1 x2 hf
    · refine z_aload_n B dX2_streamOf_13 0 rfl rfl ?_
      refine fE_g_X2_E_streams B dX2_streamOf_14 ?_
      refine z_iload_n B dX2_streamOf_17 2 rfl rfl ?_
      refine fE_streams B dX2_streamOf_18 hf (fun v18 hf => ?_)
      refine fE_g_X2_S_number B v18 dX2_streamOf_19 hf (fun v19 hf => ?_)
      refine z_iload_n B dX2_streamOf_22 1 rfl rfl ?_
      refine z_icmp_ne B 33 dX2_streamOf_23 (by decide) hf (fun hf => ?_) (fun hf => ?_)
      · refine z_iinc B (1) 2 (fun v33 => [(2, .int v33), (0, .ref (adr 0)), (1, .int x1)]) dX2_streamOf_33 hf zc_iconst_1 rfl (Nat.le_of_ble_eq_true rfl) (fun _ => rfl) (fun v33 hf => ?_)
        refine z_goto B 2 dX2_streamOf_36 (by decide) ?_
        exact z_loc [1, 2, 0] _ rfl (hh2 σ x1 v33 hf)
      · refine z_aload_n B dX2_streamOf_26 0 rfl rfl ?_
        refine fE_g_X2_E_streams B dX2_streamOf_27 ?_
        refine z_iload_n B dX2_streamOf_30 2 rfl rfl ?_
        refine fE_streams B dX2_streamOf_31 hf (fun v31 hf => ?_)
        exact z_areturn (o := (some v31)) B dX2_streamOf_32 hf
def mE_X2_streamOf (N : Nat) (σ : ST) (x1 : Int32) : Option (Option (Fin 6) × ST) :=
  mE_X2_streamOf_2 N σ x1 (0)
set_option maxRecDepth 20000 in
set_option maxHeartbeats 2000000 in
theorem cE_X2_streamOf {adr : Nat → Nat} {cI cZ cS : ClassId} {tL tH : Nat} {l : Launch} {D : va_G} {N : Nat} {σ : ST} {x1 : Int32} (q : Option (Fin 6) × ST) (hf : mE_X2_streamOf N σ x1 = some q) : zM l D (wdE adr cI cZ cS tL tH) yX2_streamOf cX2_streamOf 3 (some (.object "AheadPlanner$Stream")) ({ frames := 0, cells := 0, slots := 0, locals := 0 }) [.ref (adr 0), .int x1] σ (zr adr q) := by
  refine zM_of sfE_ok rfl (Nat.le_of_ble_eq_true rfl) [(0, .ref (adr 0)), (1, .int x1)] rfl (fun X hX1 hX2 B => ?_)
  have B : zC X 3 (wdE adr cI cZ cS tL tH) cX2_streamOf RX2 (some (.object "AheadPlanner$Stream")) { frames := 0, cells := 0, slots := 0, locals := 0 } := B
  refine z_iconst B (0) dX2_streamOf_0 zc_iconst_0 ?_
  refine z_istore_n B [(2, .int (0)), (0, .ref (adr 0)), (1, .int x1)] dX2_streamOf_1 rfl (Nat.le_of_ble_eq_true rfl) rfl ?_
  exact z_loc [1, 2, 0] _ rfl (tE_X2_streamOf_2 B N σ x1 (0) hf)
theorem dX2_waste_0 : decode cX2_waste 0 = .ok (.aload_n 0, 1) := by decide +kernel
theorem dX2_waste_1 : decode cX2_waste 1 = .ok (.getfield 28, 3) := by decide +kernel
theorem dX2_waste_4 : decode cX2_waste 4 = .ok (.bipush 6, 2) := by decide +kernel
theorem dX2_waste_6 : decode cX2_waste 6 = .ok (.dup2, 1) := by decide +kernel
theorem dX2_waste_7 : decode cX2_waste 7 = .ok (.iaload, 1) := by decide +kernel
theorem dX2_waste_8 : decode cX2_waste 8 = .ok (.iconst 1, 1) := by decide +kernel
theorem dX2_waste_9 : decode cX2_waste 9 = .ok (.iadd, 1) := by decide +kernel
theorem dX2_waste_10 : decode cX2_waste 10 = .ok (.iastore, 1) := by decide +kernel
theorem dX2_waste_11 : decode cX2_waste 11 = .ok (.aload_n 0, 1) := by decide +kernel
theorem dX2_waste_12 : decode cX2_waste 12 = .ok (.iload_n 1, 1) := by decide +kernel
theorem dX2_waste_13 : decode cX2_waste 13 = .ok (.invokevirtual 171, 3) := by decide +kernel
theorem dX2_waste_16 : decode cX2_waste 16 = .ok (.astore_n 2, 1) := by decide +kernel
theorem dX2_waste_17 : decode cX2_waste 17 = .ok (.aload_n 2, 1) := by decide +kernel
theorem dX2_waste_18 : decode cX2_waste 18 = .ok (.ifnull 28, 3) := by decide +kernel
theorem dX2_waste_21 : decode cX2_waste 21 = .ok (.aload_n 2, 1) := by decide +kernel
theorem dX2_waste_22 : decode cX2_waste 22 = .ok (.dup, 1) := by decide +kernel
theorem dX2_waste_23 : decode cX2_waste 23 = .ok (.getfield 201, 3) := by decide +kernel
theorem dX2_waste_26 : decode cX2_waste 26 = .ok (.iconst 1, 1) := by decide +kernel
theorem dX2_waste_27 : decode cX2_waste 27 = .ok (.iadd, 1) := by decide +kernel
theorem dX2_waste_28 : decode cX2_waste 28 = .ok (.putfield 201, 3) := by decide +kernel
theorem dX2_waste_31 : decode cX2_waste 31 = .ok (.aload_n 0, 1) := by decide +kernel
theorem dX2_waste_32 : decode cX2_waste 32 = .ok (.aload_n 2, 1) := by decide +kernel
theorem dX2_waste_33 : decode cX2_waste 33 = .ok (.iconst 1, 1) := by decide +kernel
theorem dX2_waste_34 : decode cX2_waste 34 = .ok (.aload_n 2, 1) := by decide +kernel
theorem dX2_waste_35 : decode cX2_waste 35 = .ok (.getfield 183, 3) := by decide +kernel
theorem dX2_waste_38 : decode cX2_waste 38 = .ok (.iconst 2, 1) := by decide +kernel
theorem dX2_waste_39 : decode cX2_waste 39 = .ok (.idiv, 1) := by decide +kernel
theorem dX2_waste_40 : decode cX2_waste 40 = .ok (.invokestatic 198, 3) := by decide +kernel
theorem dX2_waste_43 : decode cX2_waste 43 = .ok (.invokevirtual 186, 3) := by decide +kernel
theorem dX2_waste_46 : decode cX2_waste 46 = .ok (.return_, 1) := by decide +kernel
def mE_X2_waste_46 (N : Nat) (σ : ST) (x1 : Int32) (x2 : Option (Fin 6)) : Option (ST) :=
  some σ
set_option maxRecDepth 20000 in
set_option maxHeartbeats 2000000 in
theorem tE_X2_waste_46 {adr : Nat → Nat} {cI cZ cS : ClassId} {tL tH : Nat} {X : zX} {q : ST} (B : zC X 3 (wdE adr cI cZ cS tL tH) cX2_waste RX2 none { frames := 2, cells := 0, slots := 0, locals := 48 }) (N : Nat) (σ : ST) (x1 : Int32) (x2 : Option (Fin 6)) (hf : mE_X2_waste_46 N σ x1 x2 = some q) : zJ X 3 (wdE adr cI cZ cS tL tH) (zu q) 46 [(0, .ref (adr 0)), (1, .int x1), (2, zq adr x2)] [] σ := by
  exact z_return B dX2_waste_46 hf
def mE_X2_waste (N : Nat) (σ : ST) (x1 : Int32) : Option (ST) :=
  zGet (σ 2) 34 (6) fun v7 =>
  zLet ((v7 : Int32) + (1)) fun v9 =>
  zSet σ 2 34 (6) v9 fun s10 =>
  zCallq (mE_X2_streamOf N s10 x1) fun v13 s13 =>
  match v13 with
  | none =>
      mE_X2_waste_46 N s13 x1 none
  | some p18 =>
      zLet (s13 (12 + (p18).val) 10) fun v23 =>
      zLet ((v23 : Int32) + (1)) fun v27 =>
      zLet (zUp s13 (12 + (p18).val) 10 v27) fun s28 =>
      zLet (s28 (12 + (p18).val) 4) fun v35 =>
      zDiv v35 (2) fun v39 =>
      zLet (if ((1) : Int32) < v39 then v39 else (1)) fun v40 =>
      zCallu (mE_X2_changeWindow N s28 p18 v40) fun s43 =>
      mE_X2_waste_46 N s43 x1 (some p18)
set_option maxRecDepth 20000 in
set_option maxHeartbeats 2000000 in
theorem cE_X2_waste {adr : Nat → Nat} {cI cZ cS : ClassId} {tL tH : Nat} {l : Launch} {D : va_G} {N : Nat} {σ : ST} {x1 : Int32} (q : ST) (hf : mE_X2_waste N σ x1 = some q) : zM l D (wdE adr cI cZ cS tL tH) yX2_waste cX2_waste 3 none ({ frames := 2, cells := 0, slots := 0, locals := 48 }) [.ref (adr 0), .int x1] σ (zu q) := by
  refine zM_of sfE_ok rfl (Nat.le_of_ble_eq_true rfl) [(0, .ref (adr 0)), (1, .int x1)] rfl (fun X hX1 hX2 B => ?_)
  have B : zC X 3 (wdE adr cI cZ cS tL tH) cX2_waste RX2 none { frames := 2, cells := 0, slots := 0, locals := 48 } := B
  refine z_aload_n B dX2_waste_0 0 rfl rfl ?_
  refine fE_g_X2_E_counts B dX2_waste_1 ?_
  refine z_bipush B (6) dX2_waste_4 zc_bipush_6 ?_
  refine z_dup2 B dX2_waste_6 rfl rfl ?_
  refine fE_l_E_counts B dX2_waste_7 hf (fun v7 hf => ?_)
  refine z_iconst B (1) dX2_waste_8 zc_iconst_1 ?_
  refine z_iadd B dX2_waste_9 hf (fun v9 hf => ?_)
  refine fE_s_E_counts B dX2_waste_10 hf (fun s10 hf => ?_)
  refine z_aload_n B dX2_waste_11 0 rfl rfl ?_
  refine z_iload_n B dX2_waste_12 1 rfl rfl ?_
  refine z_callVq B (As := [.int x1]) kcV_X2_171 dX2_waste_13 hf (fun q hq => cE_X2_streamOf q hq) (wE_o_E (adr := adr) (cI := cI) (cZ := cZ) (cS := cS) (tL := tL) (tH := tH)) rfl rfl rfl rfl (Nat.le_of_ble_eq_true rfl) rfl rfl ⟨Nat.le_of_ble_eq_true rfl, Nat.le_of_ble_eq_true rfl⟩ (fun v13 s13 hf => ?_)
  refine z_astore_nq B [(2, zq adr v13), (0, .ref (adr 0)), (1, .int x1)] dX2_waste_16 rfl (Nat.le_of_ble_eq_true rfl) rfl ?_
  refine z_aload_nq B dX2_waste_17 0 rfl rfl ?_
  cases v13 with
  | none =>
    refine z_ifnull_N B 46 dX2_waste_18 (by decide) ?_
    exact z_loc [1, 2, 0] _ rfl (tE_X2_waste_46 B N s13 x1 none hf)
  | some p18 =>
    refine z_ifnull_S B dX2_waste_18 ?_
    refine z_aload_n B dX2_waste_21 0 rfl rfl ?_
    refine z_dup B dX2_waste_22 rfl ?_
    refine fE_g_X2_S_wasted B p18 dX2_waste_23 hf (fun v23 hf => ?_)
    refine z_iconst B (1) dX2_waste_26 zc_iconst_1 ?_
    refine z_iadd B dX2_waste_27 hf (fun v27 hf => ?_)
    refine fE_p_X2_S_wasted B p18 dX2_waste_28 hf (fun s28 hf => ?_)
    refine z_aload_n B dX2_waste_31 1 rfl rfl ?_
    refine z_aload_n B dX2_waste_32 0 rfl rfl ?_
    refine z_iconst B (1) dX2_waste_33 zc_iconst_1 ?_
    refine z_aload_n B dX2_waste_34 0 rfl rfl ?_
    refine fE_g_X2_S_window B p18 dX2_waste_35 hf (fun v35 hf => ?_)
    refine z_iconst B (2) dX2_waste_38 zc_iconst_2 ?_
    refine z_idiv B dX2_waste_39 hf (fun v39 hf => ?_)
    refine z_mmax B kw_424 kmS_max kmI kmC_max (Nat.le_of_ble_eq_true rfl) (Nat.le_of_ble_eq_true rfl) dX2_waste_40 hf (fun v40 hf => ?_)
    refine z_callVu B (As := [.ref (adr (12 + (p18).val)), .int v40]) kcV_X2_186 dX2_waste_43 hf (fun q hq => cE_X2_changeWindow q hq) (wE_o_E (adr := adr) (cI := cI) (cZ := cZ) (cS := cS) (tL := tL) (tH := tH)) rfl rfl rfl rfl (Nat.le_of_ble_eq_true rfl) rfl rfl ⟨Nat.le_of_ble_eq_true rfl, Nat.le_of_ble_eq_true rfl⟩ (fun s43 hf => ?_)
    exact z_loc [1, 2, 0] _ rfl (tE_X2_waste_46 B N s43 x1 (some p18) hf)
theorem dX2_fetchFor_0 : decode cX2_fetchFor 0 = .ok (.aload_n 0, 1) := by decide +kernel
theorem dX2_fetchFor_1 : decode cX2_fetchFor 1 = .ok (.getfield 34, 3) := by decide +kernel
theorem dX2_fetchFor_4 : decode cX2_fetchFor 4 = .ok (.aload_n 0, 1) := by decide +kernel
theorem dX2_fetchFor_5 : decode cX2_fetchFor 5 = .ok (.getfield 15, 3) := by decide +kernel
theorem dX2_fetchFor_8 : decode cX2_fetchFor 8 = .ok (.iconst 0, 1) := by decide +kernel
theorem dX2_fetchFor_9 : decode cX2_fetchFor 9 = .ok (.iaload, 1) := by decide +kernel
theorem dX2_fetchFor_10 : decode cX2_fetchFor 10 = .ok (.aload_n 0, 1) := by decide +kernel
theorem dX2_fetchFor_11 : decode cX2_fetchFor 11 = .ok (.getfield 15, 3) := by decide +kernel
theorem dX2_fetchFor_14 : decode cX2_fetchFor 14 = .ok (.bipush 8, 2) := by decide +kernel
theorem dX2_fetchFor_16 : decode cX2_fetchFor 16 = .ok (.iaload, 1) := by decide +kernel
theorem dX2_fetchFor_17 : decode cX2_fetchFor 17 = .ok (.iload_n 3, 1) := by decide +kernel
theorem dX2_fetchFor_18 : decode cX2_fetchFor 18 = .ok (.invokevirtual 155, 3) := by decide +kernel
theorem dX2_fetchFor_21 : decode cX2_fetchFor 21 = .ok (.istore 4, 2) := by decide +kernel
theorem dX2_fetchFor_23 : decode cX2_fetchFor 23 = .ok (.iload 4, 2) := by decide +kernel
theorem dX2_fetchFor_25 : decode cX2_fetchFor 25 = .ok (.iconst (-1), 1) := by decide +kernel
theorem dX2_fetchFor_26 : decode cX2_fetchFor 26 = .ok (.if_icmp .eq 9, 3) := by decide +kernel
theorem dX2_fetchFor_29 : decode cX2_fetchFor 29 = .ok (.aload_n 0, 1) := by decide +kernel
theorem dX2_fetchFor_30 : decode cX2_fetchFor 30 = .ok (.iload 4, 2) := by decide +kernel
theorem dX2_fetchFor_32 : decode cX2_fetchFor 32 = .ok (.invokevirtual 159, 3) := by decide +kernel
theorem dX2_fetchFor_35 : decode cX2_fetchFor 35 = .ok (.aload_n 0, 1) := by decide +kernel
theorem dX2_fetchFor_36 : decode cX2_fetchFor 36 = .ok (.getfield 34, 3) := by decide +kernel
theorem dX2_fetchFor_39 : decode cX2_fetchFor 39 = .ok (.iload_n 2, 1) := by decide +kernel
theorem dX2_fetchFor_40 : decode cX2_fetchFor 40 = .ok (.aload_n 1, 1) := by decide +kernel
theorem dX2_fetchFor_41 : decode cX2_fetchFor 41 = .ok (.getfield 70, 3) := by decide +kernel
theorem dX2_fetchFor_44 : decode cX2_fetchFor 44 = .ok (.aload_n 0, 1) := by decide +kernel
theorem dX2_fetchFor_45 : decode cX2_fetchFor 45 = .ok (.getfield 28, 3) := by decide +kernel
theorem dX2_fetchFor_48 : decode cX2_fetchFor 48 = .ok (.iconst 0, 1) := by decide +kernel
theorem dX2_fetchFor_49 : decode cX2_fetchFor 49 = .ok (.iaload, 1) := by decide +kernel
theorem dX2_fetchFor_50 : decode cX2_fetchFor 50 = .ok (.invokevirtual 162, 3) := by decide +kernel
theorem dX2_fetchFor_53 : decode cX2_fetchFor 53 = .ok (.aload_n 0, 1) := by decide +kernel
theorem dX2_fetchFor_54 : decode cX2_fetchFor 54 = .ok (.getfield 28, 3) := by decide +kernel
theorem dX2_fetchFor_57 : decode cX2_fetchFor 57 = .ok (.iconst 5, 1) := by decide +kernel
theorem dX2_fetchFor_58 : decode cX2_fetchFor 58 = .ok (.dup2, 1) := by decide +kernel
theorem dX2_fetchFor_59 : decode cX2_fetchFor 59 = .ok (.iaload, 1) := by decide +kernel
theorem dX2_fetchFor_60 : decode cX2_fetchFor 60 = .ok (.iconst 1, 1) := by decide +kernel
theorem dX2_fetchFor_61 : decode cX2_fetchFor 61 = .ok (.iadd, 1) := by decide +kernel
theorem dX2_fetchFor_62 : decode cX2_fetchFor 62 = .ok (.iastore, 1) := by decide +kernel
theorem dX2_fetchFor_63 : decode cX2_fetchFor 63 = .ok (.aload_n 1, 1) := by decide +kernel
theorem dX2_fetchFor_64 : decode cX2_fetchFor 64 = .ok (.dup, 1) := by decide +kernel
theorem dX2_fetchFor_65 : decode cX2_fetchFor 65 = .ok (.getfield 261, 3) := by decide +kernel
theorem dX2_fetchFor_68 : decode cX2_fetchFor 68 = .ok (.iconst 1, 1) := by decide +kernel
theorem dX2_fetchFor_69 : decode cX2_fetchFor 69 = .ok (.iadd, 1) := by decide +kernel
theorem dX2_fetchFor_70 : decode cX2_fetchFor 70 = .ok (.putfield 261, 3) := by decide +kernel
theorem dX2_fetchFor_73 : decode cX2_fetchFor 73 = .ok (.aload_n 0, 1) := by decide +kernel
theorem dX2_fetchFor_74 : decode cX2_fetchFor 74 = .ok (.getfield 87, 3) := by decide +kernel
theorem dX2_fetchFor_77 : decode cX2_fetchFor 77 = .ok (.ifCond .lt 35, 3) := by decide +kernel
theorem dX2_fetchFor_80 : decode cX2_fetchFor 80 = .ok (.aload_n 0, 1) := by decide +kernel
theorem dX2_fetchFor_81 : decode cX2_fetchFor 81 = .ok (.getfield 87, 3) := by decide +kernel
theorem dX2_fetchFor_84 : decode cX2_fetchFor 84 = .ok (.aload_n 0, 1) := by decide +kernel
theorem dX2_fetchFor_85 : decode cX2_fetchFor 85 = .ok (.getfield 59, 3) := by decide +kernel
theorem dX2_fetchFor_88 : decode cX2_fetchFor 88 = .ok (.arraylength, 1) := by decide +kernel
theorem dX2_fetchFor_89 : decode cX2_fetchFor 89 = .ok (.if_icmp .ge 23, 3) := by decide +kernel
theorem dX2_fetchFor_92 : decode cX2_fetchFor 92 = .ok (.aload_n 0, 1) := by decide +kernel
theorem dX2_fetchFor_93 : decode cX2_fetchFor 93 = .ok (.getfield 59, 3) := by decide +kernel
theorem dX2_fetchFor_96 : decode cX2_fetchFor 96 = .ok (.aload_n 0, 1) := by decide +kernel
theorem dX2_fetchFor_97 : decode cX2_fetchFor 97 = .ok (.getfield 87, 3) := by decide +kernel
theorem dX2_fetchFor_100 : decode cX2_fetchFor 100 = .ok (.iload_n 2, 1) := by decide +kernel
theorem dX2_fetchFor_101 : decode cX2_fetchFor 101 = .ok (.iastore, 1) := by decide +kernel
theorem dX2_fetchFor_102 : decode cX2_fetchFor 102 = .ok (.aload_n 0, 1) := by decide +kernel
theorem dX2_fetchFor_103 : decode cX2_fetchFor 103 = .ok (.dup, 1) := by decide +kernel
theorem dX2_fetchFor_104 : decode cX2_fetchFor 104 = .ok (.getfield 87, 3) := by decide +kernel
theorem dX2_fetchFor_107 : decode cX2_fetchFor 107 = .ok (.iconst 1, 1) := by decide +kernel
theorem dX2_fetchFor_108 : decode cX2_fetchFor 108 = .ok (.iadd, 1) := by decide +kernel
theorem dX2_fetchFor_109 : decode cX2_fetchFor 109 = .ok (.putfield 87, 3) := by decide +kernel
theorem dX2_fetchFor_112 : decode cX2_fetchFor 112 = .ok (.return_, 1) := by decide +kernel
def mE_X2_fetchFor_112 (N : Nat) (σ : ST) (x1 : Fin 6) (x2 : Int32) (x3 : Int32) (x4 : Int32) : Option (ST) :=
  some σ
set_option maxRecDepth 20000 in
set_option maxHeartbeats 2000000 in
theorem tE_X2_fetchFor_112 {adr : Nat → Nat} {cI cZ cS : ClassId} {tL tH : Nat} {X : zX} {q : ST} (B : zC X 5 (wdE adr cI cZ cS tL tH) cX2_fetchFor RX2 none { frames := 3, cells := 0, slots := 0, locals := 74 }) (N : Nat) (σ : ST) (x1 : Fin 6) (x2 : Int32) (x3 : Int32) (x4 : Int32) (hf : mE_X2_fetchFor_112 N σ x1 x2 x3 x4 = some q) : zJ X 5 (wdE adr cI cZ cS tL tH) (zu q) 112 [(0, .ref (adr 0)), (1, .ref (adr (12 + (x1).val))), (2, .int x2), (3, .int x3), (4, .int x4)] [] σ := by
  exact z_return B dX2_fetchFor_112 hf
def mE_X2_fetchFor_35 (N : Nat) (σ : ST) (x1 : Fin 6) (x2 : Int32) (x3 : Int32) (x4 : Int32) : Option (ST) :=
  zLet (σ (12 + (x1).val) 0) fun v41 =>
  zGet (σ 2) 34 (0) fun v49 =>
  zCallu (mE_X0_put N σ x2 v41 v49) fun s50 =>
  zGet (s50 2) 34 (5) fun v59 =>
  zLet ((v59 : Int32) + (1)) fun v61 =>
  zSet s50 2 34 (5) v61 fun s62 =>
  zLet (s62 (12 + (x1).val) 8) fun v65 =>
  zLet ((v65 : Int32) + (1)) fun v69 =>
  zLet (zUp s62 (12 + (x1).val) 8 v69) fun s70 =>
  zLet (s70 0 8) fun v74 =>
  if (v74 : Int32) < 0 then
    mE_X2_fetchFor_112 N s70 x1 x2 x3 x4
  else
    zLet (s70 0 8) fun v81 =>
    if ((32) : Int32) ≤ v81 then
      mE_X2_fetchFor_112 N s70 x1 x2 x3 x4
    else
      zLet (s70 0 8) fun v97 =>
      zSet s70 24 32 v97 x2 fun s101 =>
      zLet (s101 0 8) fun v104 =>
      zLet ((v104 : Int32) + (1)) fun v108 =>
      zLet (zUp s101 0 8 v108) fun s109 =>
      mE_X2_fetchFor_112 N s109 x1 x2 x3 x4
set_option maxRecDepth 20000 in
set_option maxHeartbeats 2000000 in
theorem tE_X2_fetchFor_35 {adr : Nat → Nat} {cI cZ cS : ClassId} {tL tH : Nat} {X : zX} {q : ST} (B : zC X 5 (wdE adr cI cZ cS tL tH) cX2_fetchFor RX2 none { frames := 3, cells := 0, slots := 0, locals := 74 }) (N : Nat) (σ : ST) (x1 : Fin 6) (x2 : Int32) (x3 : Int32) (x4 : Int32) (hf : mE_X2_fetchFor_35 N σ x1 x2 x3 x4 = some q) : zJ X 5 (wdE adr cI cZ cS tL tH) (zu q) 35 [(0, .ref (adr 0)), (1, .ref (adr (12 + (x1).val))), (2, .int x2), (3, .int x3), (4, .int x4)] [] σ := by
  refine z_aload_n B dX2_fetchFor_35 0 rfl rfl ?_
  refine fE_g_X2_E_cache B dX2_fetchFor_36 ?_
  refine z_iload_n B dX2_fetchFor_39 2 rfl rfl ?_
  refine z_aload_n B dX2_fetchFor_40 1 rfl rfl ?_
  refine fE_g_X2_S_number B x1 dX2_fetchFor_41 hf (fun v41 hf => ?_)
  refine z_aload_n B dX2_fetchFor_44 0 rfl rfl ?_
  refine fE_g_X2_E_counts B dX2_fetchFor_45 ?_
  refine z_iconst B (0) dX2_fetchFor_48 zc_iconst_0 ?_
  refine fE_l_E_counts B dX2_fetchFor_49 hf (fun v49 hf => ?_)
  refine z_callVu B (As := [.int x2, .int v41, .int v49]) kcV_X2_162 dX2_fetchFor_50 hf (fun q hq => cE_X0_put q hq) (wE_o_C (adr := adr) (cI := cI) (cZ := cZ) (cS := cS) (tL := tL) (tH := tH)) rfl rfl rfl rfl (Nat.le_of_ble_eq_true rfl) rfl rfl ⟨Nat.le_of_ble_eq_true rfl, Nat.le_of_ble_eq_true rfl⟩ (fun s50 hf => ?_)
  refine z_aload_n B dX2_fetchFor_53 0 rfl rfl ?_
  refine fE_g_X2_E_counts B dX2_fetchFor_54 ?_
  refine z_iconst B (5) dX2_fetchFor_57 zc_iconst_5 ?_
  refine z_dup2 B dX2_fetchFor_58 rfl rfl ?_
  refine fE_l_E_counts B dX2_fetchFor_59 hf (fun v59 hf => ?_)
  refine z_iconst B (1) dX2_fetchFor_60 zc_iconst_1 ?_
  refine z_iadd B dX2_fetchFor_61 hf (fun v61 hf => ?_)
  refine fE_s_E_counts B dX2_fetchFor_62 hf (fun s62 hf => ?_)
  refine z_aload_n B dX2_fetchFor_63 1 rfl rfl ?_
  refine z_dup B dX2_fetchFor_64 rfl ?_
  refine fE_g_X2_S_fetched B x1 dX2_fetchFor_65 hf (fun v65 hf => ?_)
  refine z_iconst B (1) dX2_fetchFor_68 zc_iconst_1 ?_
  refine z_iadd B dX2_fetchFor_69 hf (fun v69 hf => ?_)
  refine fE_p_X2_S_fetched B x1 dX2_fetchFor_70 hf (fun s70 hf => ?_)
  refine z_aload_n B dX2_fetchFor_73 0 rfl rfl ?_
  refine fE_g_X2_E_plannedSize B dX2_fetchFor_74 hf (fun v74 hf => ?_)
  refine z_if_lt B 112 dX2_fetchFor_77 (by decide) hf (fun hf => ?_) (fun hf => ?_)
  · exact tE_X2_fetchFor_112 B N s70 x1 x2 x3 x4 hf
  · refine z_aload_n B dX2_fetchFor_80 0 rfl rfl ?_
    refine fE_g_X2_E_plannedSize B dX2_fetchFor_81 hf (fun v81 hf => ?_)
    refine z_aload_n B dX2_fetchFor_84 0 rfl rfl ?_
    refine fE_g_X2_E_planned B dX2_fetchFor_85 ?_
    refine z_alen B (t0 := 0) (32) wE_g_E_planned rfl (show Int32.ofNat 32 = 32 by decide) dX2_fetchFor_88 ?_
    refine z_icmp_ge B 112 dX2_fetchFor_89 (by decide) hf (fun hf => ?_) (fun hf => ?_)
    · exact tE_X2_fetchFor_112 B N s70 x1 x2 x3 x4 hf
    · refine z_aload_n B dX2_fetchFor_92 0 rfl rfl ?_
      refine fE_g_X2_E_planned B dX2_fetchFor_93 ?_
      refine z_aload_n B dX2_fetchFor_96 0 rfl rfl ?_
      refine fE_g_X2_E_plannedSize B dX2_fetchFor_97 hf (fun v97 hf => ?_)
      refine z_iload_n B dX2_fetchFor_100 2 rfl rfl ?_
      refine fE_s_E_planned B dX2_fetchFor_101 hf (fun s101 hf => ?_)
      refine z_aload_n B dX2_fetchFor_102 0 rfl rfl ?_
      refine z_dup B dX2_fetchFor_103 rfl ?_
      refine fE_g_X2_E_plannedSize B dX2_fetchFor_104 hf (fun v104 hf => ?_)
      refine z_iconst B (1) dX2_fetchFor_107 zc_iconst_1 ?_
      refine z_iadd B dX2_fetchFor_108 hf (fun v108 hf => ?_)
      refine fE_p_X2_E_plannedSize B dX2_fetchFor_109 hf (fun s109 hf => ?_)
      exact tE_X2_fetchFor_112 B N s109 x1 x2 x3 x4 hf
def mE_X2_fetchFor (N : Nat) (σ : ST) (x1 : Fin 6) (x2 : Int32) (x3 : Int32) : Option (ST) :=
  zGet (σ 1) 10 (0) fun v9 =>
  zGet (σ 1) 10 (8) fun v16 =>
  zCall (mE_X0_makeRoom N σ v9 v16 x3) fun v18 s18 =>
  if (v18 : Int32) = (-1) then
    mE_X2_fetchFor_35 N s18 x1 x2 x3 v18
  else
    zCallu (mE_X2_waste N s18 v18) fun s32 =>
    mE_X2_fetchFor_35 N s32 x1 x2 x3 v18
set_option maxRecDepth 20000 in
set_option maxHeartbeats 2000000 in
theorem cE_X2_fetchFor {adr : Nat → Nat} {cI cZ cS : ClassId} {tL tH : Nat} {l : Launch} {D : va_G} {N : Nat} {σ : ST} {x1 : Fin 6} {x2 : Int32} {x3 : Int32} (q : ST) (hf : mE_X2_fetchFor N σ x1 x2 x3 = some q) : zM l D (wdE adr cI cZ cS tL tH) yX2_fetchFor cX2_fetchFor 5 none ({ frames := 3, cells := 0, slots := 0, locals := 74 }) [.ref (adr 0), .ref (adr (12 + (x1).val)), .int x2, .int x3] σ (zu q) := by
  refine zM_of sfE_ok rfl (Nat.le_of_ble_eq_true rfl) [(0, .ref (adr 0)), (1, .ref (adr (12 + (x1).val))), (2, .int x2), (3, .int x3)] rfl (fun X hX1 hX2 B => ?_)
  have B : zC X 5 (wdE adr cI cZ cS tL tH) cX2_fetchFor RX2 none { frames := 3, cells := 0, slots := 0, locals := 74 } := B
  refine z_aload_n B dX2_fetchFor_0 0 rfl rfl ?_
  refine fE_g_X2_E_cache B dX2_fetchFor_1 ?_
  refine z_aload_n B dX2_fetchFor_4 0 rfl rfl ?_
  refine fE_g_X2_E_terms B dX2_fetchFor_5 ?_
  refine z_iconst B (0) dX2_fetchFor_8 zc_iconst_0 ?_
  refine fE_l_E_terms B dX2_fetchFor_9 hf (fun v9 hf => ?_)
  refine z_aload_n B dX2_fetchFor_10 0 rfl rfl ?_
  refine fE_g_X2_E_terms B dX2_fetchFor_11 ?_
  refine z_bipush B (8) dX2_fetchFor_14 zc_bipush_8 ?_
  refine fE_l_E_terms B dX2_fetchFor_16 hf (fun v16 hf => ?_)
  refine z_iload_n B dX2_fetchFor_17 3 rfl rfl ?_
  refine z_callVi B (As := [.int v9, .int v16, .int x3]) kcV_X2_155 dX2_fetchFor_18 hf (fun q hq => cE_X0_makeRoom q hq) (wE_o_C (adr := adr) (cI := cI) (cZ := cZ) (cS := cS) (tL := tL) (tH := tH)) rfl rfl rfl rfl (Nat.le_of_ble_eq_true rfl) rfl rfl ⟨Nat.le_of_ble_eq_true rfl, Nat.le_of_ble_eq_true rfl⟩ (fun v18 s18 hf => ?_)
  refine z_istore B [(4, .int v18), (0, .ref (adr 0)), (1, .ref (adr (12 + (x1).val))), (2, .int x2), (3, .int x3)] dX2_fetchFor_21 (Nat.le_of_ble_eq_true rfl) rfl ?_
  refine z_iload B dX2_fetchFor_23 0 rfl ?_
  refine z_iconst B (-1) dX2_fetchFor_25 zc_iconst_m1 ?_
  refine z_icmp_eq B 35 dX2_fetchFor_26 (by decide) hf (fun hf => ?_) (fun hf => ?_)
  · exact z_loc [1, 2, 3, 4, 0] _ rfl (tE_X2_fetchFor_35 B N s18 x1 x2 x3 v18 hf)
  · refine z_aload_n B dX2_fetchFor_29 1 rfl rfl ?_
    refine z_iload B dX2_fetchFor_30 0 rfl ?_
    refine z_callVu B (As := [.int v18]) kcV_X2_159 dX2_fetchFor_32 hf (fun q hq => cE_X2_waste q hq) (wE_o_E (adr := adr) (cI := cI) (cZ := cZ) (cS := cS) (tL := tL) (tH := tH)) rfl rfl rfl rfl (Nat.le_of_ble_eq_true rfl) rfl rfl ⟨Nat.le_of_ble_eq_true rfl, Nat.le_of_ble_eq_true rfl⟩ (fun s32 hf => ?_)
    exact z_loc [1, 2, 3, 4, 0] _ rfl (tE_X2_fetchFor_35 B N s32 x1 x2 x3 v18 hf)
theorem dX2_mayGoTo_0 : decode cX2_mayGoTo 0 = .ok (.aload_n 0, 1) := by decide +kernel
theorem dX2_mayGoTo_1 : decode cX2_mayGoTo 1 = .ok (.iload_n 1, 1) := by decide +kernel
theorem dX2_mayGoTo_2 : decode cX2_mayGoTo 2 = .ok (.invokevirtual 107, 3) := by decide +kernel
theorem dX2_mayGoTo_5 : decode cX2_mayGoTo 5 = .ok (.ifCond .eq 21, 3) := by decide +kernel
theorem dX2_mayGoTo_8 : decode cX2_mayGoTo 8 = .ok (.aload_n 0, 1) := by decide +kernel
theorem dX2_mayGoTo_9 : decode cX2_mayGoTo 9 = .ok (.getfield 34, 3) := by decide +kernel
theorem dX2_mayGoTo_12 : decode cX2_mayGoTo 12 = .ok (.getfield 258, 3) := by decide +kernel
theorem dX2_mayGoTo_15 : decode cX2_mayGoTo 15 = .ok (.aload_n 0, 1) := by decide +kernel
theorem dX2_mayGoTo_16 : decode cX2_mayGoTo 16 = .ok (.getfield 15, 3) := by decide +kernel
theorem dX2_mayGoTo_19 : decode cX2_mayGoTo 19 = .ok (.iconst 0, 1) := by decide +kernel
theorem dX2_mayGoTo_20 : decode cX2_mayGoTo 20 = .ok (.iaload, 1) := by decide +kernel
theorem dX2_mayGoTo_21 : decode cX2_mayGoTo 21 = .ok (.iconst 2, 1) := by decide +kernel
theorem dX2_mayGoTo_22 : decode cX2_mayGoTo 22 = .ok (.idiv, 1) := by decide +kernel
theorem dX2_mayGoTo_23 : decode cX2_mayGoTo 23 = .ok (.if_icmp .lt 5, 3) := by decide +kernel
theorem dX2_mayGoTo_26 : decode cX2_mayGoTo 26 = .ok (.iconst 0, 1) := by decide +kernel
theorem dX2_mayGoTo_27 : decode cX2_mayGoTo 27 = .ok (.ireturn, 1) := by decide +kernel
theorem dX2_mayGoTo_28 : decode cX2_mayGoTo 28 = .ok (.aload_n 0, 1) := by decide +kernel
theorem dX2_mayGoTo_29 : decode cX2_mayGoTo 29 = .ok (.getfield 34, 3) := by decide +kernel
theorem dX2_mayGoTo_32 : decode cX2_mayGoTo 32 = .ok (.iload_n 1, 1) := by decide +kernel
theorem dX2_mayGoTo_33 : decode cX2_mayGoTo 33 = .ok (.invokevirtual 111, 3) := by decide +kernel
theorem dX2_mayGoTo_36 : decode cX2_mayGoTo 36 = .ok (.iconst (-1), 1) := by decide +kernel
theorem dX2_mayGoTo_37 : decode cX2_mayGoTo 37 = .ok (.if_icmp .ne 14, 3) := by decide +kernel
theorem dX2_mayGoTo_40 : decode cX2_mayGoTo 40 = .ok (.aload_n 0, 1) := by decide +kernel
theorem dX2_mayGoTo_41 : decode cX2_mayGoTo 41 = .ok (.getfield 9, 3) := by decide +kernel
theorem dX2_mayGoTo_44 : decode cX2_mayGoTo 44 = .ok (.iload_n 1, 1) := by decide +kernel
theorem dX2_mayGoTo_45 : decode cX2_mayGoTo 45 = .ok (.invokevirtual 115, 3) := by decide +kernel
theorem dX2_mayGoTo_48 : decode cX2_mayGoTo 48 = .ok (.ifCond .ne 7, 3) := by decide +kernel
theorem dX2_mayGoTo_51 : decode cX2_mayGoTo 51 = .ok (.iconst 1, 1) := by decide +kernel
theorem dX2_mayGoTo_52 : decode cX2_mayGoTo 52 = .ok (.goto 4, 3) := by decide +kernel
theorem dX2_mayGoTo_55 : decode cX2_mayGoTo 55 = .ok (.iconst 0, 1) := by decide +kernel
theorem dX2_mayGoTo_56 : decode cX2_mayGoTo 56 = .ok (.ireturn, 1) := by decide +kernel
def mE_X2_mayGoTo_56 (N : Nat) (σ : ST) (x1 : Int32) (k0 : Int32) : Option (Int32 × ST) :=
  zBool k0 (some (k0, σ))
set_option maxRecDepth 20000 in
set_option maxHeartbeats 2000000 in
theorem tE_X2_mayGoTo_56 {adr : Nat → Nat} {cI cZ cS : ClassId} {tL tH : Nat} {X : zX} {q : Int32 × ST} (B : zC X 2 (wdE adr cI cZ cS tL tH) cX2_mayGoTo RX2 (some .boolean) { frames := 1, cells := 0, slots := 0, locals := 21 }) (N : Nat) (σ : ST) (x1 : Int32) (k0 : Int32) (hf : mE_X2_mayGoTo_56 N σ x1 k0 = some q) : zJ X 2 (wdE adr cI cZ cS tL tH) (zi q) 56 [(0, .ref (adr 0)), (1, .int x1)] [.int k0] σ := by
  exact z_zreturn B dX2_mayGoTo_56 hf
def mE_X2_mayGoTo_51 (N : Nat) (σ : ST) (x1 : Int32) : Option (Int32 × ST) :=
  mE_X2_mayGoTo_56 N σ x1 (1)
set_option maxRecDepth 20000 in
set_option maxHeartbeats 2000000 in
theorem tE_X2_mayGoTo_51 {adr : Nat → Nat} {cI cZ cS : ClassId} {tL tH : Nat} {X : zX} {q : Int32 × ST} (B : zC X 2 (wdE adr cI cZ cS tL tH) cX2_mayGoTo RX2 (some .boolean) { frames := 1, cells := 0, slots := 0, locals := 21 }) (N : Nat) (σ : ST) (x1 : Int32) (hf : mE_X2_mayGoTo_51 N σ x1 = some q) : zJ X 2 (wdE adr cI cZ cS tL tH) (zi q) 51 [(0, .ref (adr 0)), (1, .int x1)] [] σ := by
  refine z_iconst B (1) dX2_mayGoTo_51 zc_iconst_1 ?_
  refine z_goto B 56 dX2_mayGoTo_52 (by decide) ?_
  exact tE_X2_mayGoTo_56 B N σ x1 (1) hf
def mE_X2_mayGoTo_26 (N : Nat) (σ : ST) (x1 : Int32) : Option (Int32 × ST) :=
  zBool (0) (some ((0), σ))
set_option maxRecDepth 20000 in
set_option maxHeartbeats 2000000 in
theorem tE_X2_mayGoTo_26 {adr : Nat → Nat} {cI cZ cS : ClassId} {tL tH : Nat} {X : zX} {q : Int32 × ST} (B : zC X 2 (wdE adr cI cZ cS tL tH) cX2_mayGoTo RX2 (some .boolean) { frames := 1, cells := 0, slots := 0, locals := 21 }) (N : Nat) (σ : ST) (x1 : Int32) (hf : mE_X2_mayGoTo_26 N σ x1 = some q) : zJ X 2 (wdE adr cI cZ cS tL tH) (zi q) 26 [(0, .ref (adr 0)), (1, .int x1)] [] σ := by
  refine z_iconst B (0) dX2_mayGoTo_26 zc_iconst_0 ?_
  exact z_zreturn B dX2_mayGoTo_27 hf
def mE_X2_mayGoTo (N : Nat) (σ : ST) (x1 : Int32) : Option (Int32 × ST) :=
  zCall (mE_X2_hasBlock N σ x1) fun v2 s2 =>
  if (v2 : Int32) = 0 then
    mE_X2_mayGoTo_26 N s2 x1
  else
    zLet (s2 3 8) fun v12 =>
    zGet (s2 1) 10 (0) fun v20 =>
    zDiv v20 (2) fun v22 =>
    if (v12 : Int32) < v22 then
      zCall (mE_X0_slotOf N s2 x1) fun v33 s33 =>
      if (v33 : Int32) = (-1) then
        zCall (mE_X1_isBad N s33 x1) fun v45 s45 =>
        if (v45 : Int32) = 0 then
          mE_X2_mayGoTo_51 N s45 x1
        else
          mE_X2_mayGoTo_56 N s45 x1 (0)
      else
        mE_X2_mayGoTo_51 N s33 x1
    else
      mE_X2_mayGoTo_26 N s2 x1
set_option maxRecDepth 20000 in
set_option maxHeartbeats 2000000 in
theorem cE_X2_mayGoTo {adr : Nat → Nat} {cI cZ cS : ClassId} {tL tH : Nat} {l : Launch} {D : va_G} {N : Nat} {σ : ST} {x1 : Int32} (q : Int32 × ST) (hf : mE_X2_mayGoTo N σ x1 = some q) : zM l D (wdE adr cI cZ cS tL tH) yX2_mayGoTo cX2_mayGoTo 2 (some .boolean) ({ frames := 1, cells := 0, slots := 0, locals := 21 }) [.ref (adr 0), .int x1] σ (zi q) := by
  refine zM_of sfE_ok rfl (Nat.le_of_ble_eq_true rfl) [(0, .ref (adr 0)), (1, .int x1)] rfl (fun X hX1 hX2 B => ?_)
  have B : zC X 2 (wdE adr cI cZ cS tL tH) cX2_mayGoTo RX2 (some .boolean) { frames := 1, cells := 0, slots := 0, locals := 21 } := B
  refine z_aload_n B dX2_mayGoTo_0 0 rfl rfl ?_
  refine z_iload_n B dX2_mayGoTo_1 1 rfl rfl ?_
  refine z_callVi B (As := [.int x1]) kcV_X2_107 dX2_mayGoTo_2 hf (fun q hq => cE_X2_hasBlock q hq) (wE_o_E (adr := adr) (cI := cI) (cZ := cZ) (cS := cS) (tL := tL) (tH := tH)) rfl rfl rfl rfl (Nat.le_of_ble_eq_true rfl) rfl rfl ⟨Nat.le_of_ble_eq_true rfl, Nat.le_of_ble_eq_true rfl⟩ (fun v2 s2 hf => ?_)
  refine z_if_eq B 26 dX2_mayGoTo_5 (by decide) hf (fun hf => ?_) (fun hf => ?_)
  · exact tE_X2_mayGoTo_26 B N s2 x1 hf
  · refine z_aload_n B dX2_mayGoTo_8 0 rfl rfl ?_
    refine fE_g_X2_E_cache B dX2_mayGoTo_9 ?_
    refine fE_g_X2_C_waitingSize B dX2_mayGoTo_12 hf (fun v12 hf => ?_)
    refine z_aload_n B dX2_mayGoTo_15 0 rfl rfl ?_
    refine fE_g_X2_E_terms B dX2_mayGoTo_16 ?_
    refine z_iconst B (0) dX2_mayGoTo_19 zc_iconst_0 ?_
    refine fE_l_E_terms B dX2_mayGoTo_20 hf (fun v20 hf => ?_)
    refine z_iconst B (2) dX2_mayGoTo_21 zc_iconst_2 ?_
    refine z_idiv B dX2_mayGoTo_22 hf (fun v22 hf => ?_)
    refine z_icmp_lt B 28 dX2_mayGoTo_23 (by decide) hf (fun hf => ?_) (fun hf => ?_)
    · refine z_aload_n B dX2_mayGoTo_28 0 rfl rfl ?_
      refine fE_g_X2_E_cache B dX2_mayGoTo_29 ?_
      refine z_iload_n B dX2_mayGoTo_32 1 rfl rfl ?_
      refine z_callVi B (As := [.int x1]) kcV_X2_111 dX2_mayGoTo_33 hf (fun q hq => cE_X0_slotOf q hq) (wE_o_C (adr := adr) (cI := cI) (cZ := cZ) (cS := cS) (tL := tL) (tH := tH)) rfl rfl rfl rfl (Nat.le_of_ble_eq_true rfl) rfl rfl ⟨Nat.le_of_ble_eq_true rfl, Nat.le_of_ble_eq_true rfl⟩ (fun v33 s33 hf => ?_)
      refine z_iconst B (-1) dX2_mayGoTo_36 zc_iconst_m1 ?_
      refine z_icmp_ne B 51 dX2_mayGoTo_37 (by decide) hf (fun hf => ?_) (fun hf => ?_)
      · exact tE_X2_mayGoTo_51 B N s33 x1 hf
      · refine z_aload_n B dX2_mayGoTo_40 0 rfl rfl ?_
        refine fE_g_X2_E_disk B dX2_mayGoTo_41 ?_
        refine z_iload_n B dX2_mayGoTo_44 1 rfl rfl ?_
        refine z_callVi B (As := [.int x1]) kcV_X2_115 dX2_mayGoTo_45 hf (fun q hq => cE_X1_isBad q hq) (wE_o_D (adr := adr) (cI := cI) (cZ := cZ) (cS := cS) (tL := tL) (tH := tH)) rfl rfl rfl rfl (Nat.le_of_ble_eq_true rfl) rfl rfl ⟨Nat.le_of_ble_eq_true rfl, Nat.le_of_ble_eq_true rfl⟩ (fun v45 s45 hf => ?_)
        refine z_if_ne B 55 dX2_mayGoTo_48 (by decide) hf (fun hf => ?_) (fun hf => ?_)
        · refine z_iconst B (0) dX2_mayGoTo_55 zc_iconst_0 ?_
          exact tE_X2_mayGoTo_56 B N s45 x1 (0) hf
        · exact tE_X2_mayGoTo_51 B N s45 x1 hf
    · exact tE_X2_mayGoTo_26 B N s2 x1 hf
