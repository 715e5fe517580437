theorem dX7_sets_0 : decode cX7_sets 0 = .ok (.iload_n 1, 1) := by decide +kernel
theorem dX7_sets_1 : decode cX7_sets 1 = .ok (.iload_n 2, 1) := by decide +kernel
theorem dX7_sets_2 : decode cX7_sets 2 = .ok (.invokestatic 58, 3) := by decide +kernel
theorem dX7_sets_5 : decode cX7_sets 5 = .ok (.ifCond .eq 15, 3) := by decide +kernel
theorem dX7_sets_8 : decode cX7_sets 8 = .ok (.aload_n 0, 1) := by decide +kernel
theorem dX7_sets_9 : decode cX7_sets 9 = .ok (.getfield 26, 3) := by decide +kernel
theorem dX7_sets_12 : decode cX7_sets 12 = .ok (.iload_n 1, 1) := by decide +kernel
theorem dX7_sets_13 : decode cX7_sets 13 = .ok (.invokevirtual 62, 3) := by decide +kernel
theorem dX7_sets_16 : decode cX7_sets 16 = .ok (.iload_n 2, 1) := by decide +kernel
theorem dX7_sets_17 : decode cX7_sets 17 = .ok (.if_icmp .ne 5, 3) := by decide +kernel
theorem dX7_sets_20 : decode cX7_sets 20 = .ok (.iconst 0, 1) := by decide +kernel
theorem dX7_sets_21 : decode cX7_sets 21 = .ok (.ireturn, 1) := by decide +kernel
theorem dX7_sets_22 : decode cX7_sets 22 = .ok (.aload_n 0, 1) := by decide +kernel
theorem dX7_sets_23 : decode cX7_sets 23 = .ok (.getfield 26, 3) := by decide +kernel
theorem dX7_sets_26 : decode cX7_sets 26 = .ok (.iload_n 1, 1) := by decide +kernel
theorem dX7_sets_27 : decode cX7_sets 27 = .ok (.iload_n 2, 1) := by decide +kernel
theorem dX7_sets_28 : decode cX7_sets 28 = .ok (.invokevirtual 66, 3) := by decide +kernel
theorem dX7_sets_31 : decode cX7_sets 31 = .ok (.aload_n 0, 1) := by decide +kernel
theorem dX7_sets_32 : decode cX7_sets 32 = .ok (.getfield 26, 3) := by decide +kernel
theorem dX7_sets_35 : decode cX7_sets 35 = .ok (.invokevirtual 70, 3) := by decide +kernel
theorem dX7_sets_38 : decode cX7_sets 38 = .ok (.iconst 1, 1) := by decide +kernel
theorem dX7_sets_39 : decode cX7_sets 39 = .ok (.ireturn, 1) := by decide +kernel
def mT_X7_sets_20 (N : Nat) (σ : ST) (x1 : Int32) (x2 : Int32) : Option (Int32 × ST) :=
  zBool (0) (some ((0), σ))
set_option maxRecDepth 20000 in
set_option maxHeartbeats 2000000 in
theorem tT_X7_sets_20 {adr : Nat → Nat} {cI cZ cS cD cE : ClassId} {tL tH : Nat} {X : zX} {q : Int32 × ST} (B : zC X 3 (wdT adr cI cZ cS cD cE tL tH) cX7_sets RX7 (some .boolean) { frames := 3, cells := 0, slots := 0, locals := 64 }) (N : Nat) (σ : ST) (x1 : Int32) (x2 : Int32) (hf : mT_X7_sets_20 N σ x1 x2 = some q) : zJ X 3 (wdT adr cI cZ cS cD cE tL tH) (zi q) 20 [(0, .ref (adr 600)), (1, .int x1), (2, .int x2)] [] σ := by
  refine z_iconst B (0) dX7_sets_20 zc_iconst_0 ?_
  exact z_zreturn B dX7_sets_21 hf
def mT_X7_sets (N : Nat) (σ : ST) (x1 : Int32) (x2 : Int32) : Option (Int32 × ST) :=
  zCallL (mE_X7_isTermValue N ((pE 0 0) σ) x1 x2) ((iE 0 0) σ) fun v2 s2 =>
  if (v2 : Int32) = 0 then
    mT_X7_sets_20 N s2 x1 x2
  else
    zCallL (mE_X2_term N ((pE 0 0) s2) x1) ((iE 0 0) s2) fun v13 s13 =>
    if (v13 : Int32) = x2 then
      mT_X7_sets_20 N s13 x1 x2
    else
      zCallLu (mE_X2_setTerm N ((pE 0 0) s13) x1 x2) ((iE 0 0) s13) fun s28 =>
      zCallLu (mE_X2_restart N ((pE 0 0) s28)) ((iE 0 0) s28) fun s35 =>
      zBool (1) (some ((1), s35))
set_option maxRecDepth 20000 in
set_option maxHeartbeats 2000000 in
theorem cT_X7_sets {adr : Nat → Nat} {cI cZ cS cD cE : ClassId} {tL tH : Nat} {l : Launch} {D : va_G} {N : Nat} {σ : ST} {x1 : Int32} {x2 : Int32} (q : Int32 × ST) (hf : mT_X7_sets N σ x1 x2 = some q) : zM l D (wdT adr cI cZ cS cD cE tL tH) yX7_sets cX7_sets 3 (some .boolean) ({ frames := 3, cells := 0, slots := 0, locals := 64 }) [.ref (adr 600), .int x1, .int x2] σ (zi q) := by
  refine zM_of sfE_ok rfl (Nat.le_of_ble_eq_true rfl) [(0, .ref (adr 600)), (1, .int x1), (2, .int x2)] rfl (fun X hX1 hX2 B => ?_)
  have B : zC X 3 (wdT adr cI cZ cS cD cE tL tH) cX7_sets RX7 (some .boolean) { frames := 3, cells := 0, slots := 0, locals := 64 } := B
  refine z_iload_n B dX7_sets_0 1 rfl rfl ?_
  refine z_iload_n B dX7_sets_1 2 rfl rfl ?_
  refine z_callSLi B (lE0 (adr := adr) (cI := cI) (cZ := cZ) (cS := cS) (cD := cD) (cE := cE) (tL := tL) (tH := tH)) (As := [.int x1, .int x2]) kcS_X7_58 dX7_sets_2 hf (fun q hq => cE_X7_isTermValue q hq) rfl rfl (Nat.le_of_ble_eq_true rfl) rfl rfl ⟨Nat.le_of_ble_eq_true rfl, Nat.le_of_ble_eq_true rfl⟩ (fun v2 s2 hf => ?_)
  refine z_if_eq B 20 dX7_sets_5 (by decide) hf (fun hf => ?_) (fun hf => ?_)
  · exact tT_X7_sets_20 B N s2 x1 x2 hf
  · refine z_aload_n B dX7_sets_8 0 rfl rfl ?_
    refine fT_g_P_now B dX7_sets_9 ?_
    refine z_iload_n B dX7_sets_12 1 rfl rfl ?_
    refine z_callVLi B (lE0 (adr := adr) (cI := cI) (cZ := cZ) (cS := cS) (cD := cD) (cE := cE) (tL := tL) (tH := tH)) (As := [.int x1]) kcV_X7_62 dX7_sets_13 hf (fun q hq => cE_X2_term q hq) wE_o_E rfl rfl rfl rfl (Nat.le_of_ble_eq_true rfl) rfl rfl ⟨Nat.le_of_ble_eq_true rfl, Nat.le_of_ble_eq_true rfl⟩ (fun v13 s13 hf => ?_)
    refine z_iload_n B dX7_sets_16 2 rfl rfl ?_
    refine z_icmp_ne B 22 dX7_sets_17 (by decide) hf (fun hf => ?_) (fun hf => ?_)
    · refine z_aload_n B dX7_sets_22 0 rfl rfl ?_
      refine fT_g_P_now B dX7_sets_23 ?_
      refine z_iload_n B dX7_sets_26 1 rfl rfl ?_
      refine z_iload_n B dX7_sets_27 2 rfl rfl ?_
      refine z_callVLu B (lE0 (adr := adr) (cI := cI) (cZ := cZ) (cS := cS) (cD := cD) (cE := cE) (tL := tL) (tH := tH)) (As := [.int x1, .int x2]) kcV_X7_66 dX7_sets_28 hf (fun q hq => cE_X2_setTerm q hq) wE_o_E rfl rfl rfl rfl (Nat.le_of_ble_eq_true rfl) rfl rfl ⟨Nat.le_of_ble_eq_true rfl, Nat.le_of_ble_eq_true rfl⟩ (fun s28 hf => ?_)
      refine z_aload_n B dX7_sets_31 0 rfl rfl ?_
      refine fT_g_P_now B dX7_sets_32 ?_
      refine z_callVLu B (lE0 (adr := adr) (cI := cI) (cZ := cZ) (cS := cS) (cD := cD) (cE := cE) (tL := tL) (tH := tH)) (As := []) kcV_X7_70 dX7_sets_35 hf (fun q hq => cE_X2_restart q hq) wE_o_E rfl rfl rfl rfl (Nat.le_of_ble_eq_true rfl) rfl rfl ⟨Nat.le_of_ble_eq_true rfl, Nat.le_of_ble_eq_true rfl⟩ (fun s35 hf => ?_)
      refine z_iconst B (1) dX7_sets_38 zc_iconst_1 ?_
      exact z_zreturn B dX7_sets_39 hf
    · exact tT_X7_sets_20 B N s13 x1 x2 hf
theorem dX7_read_0 : decode cX7_read 0 = .ok (.aload_n 0, 1) := by decide +kernel
theorem dX7_read_1 : decode cX7_read 1 = .ok (.getfield 26, 3) := by decide +kernel
theorem dX7_read_4 : decode cX7_read 4 = .ok (.iload_n 1, 1) := by decide +kernel
theorem dX7_read_5 : decode cX7_read 5 = .ok (.invokevirtual 73, 3) := by decide +kernel
theorem dX7_read_8 : decode cX7_read 8 = .ok (.istore_n 2, 1) := by decide +kernel
theorem dX7_read_9 : decode cX7_read 9 = .ok (.iload_n 2, 1) := by decide +kernel
theorem dX7_read_10 : decode cX7_read 10 = .ok (.iconst (-1), 1) := by decide +kernel
theorem dX7_read_11 : decode cX7_read 11 = .ok (.if_icmp .ne 5, 3) := by decide +kernel
theorem dX7_read_14 : decode cX7_read 14 = .ok (.iconst (-1), 1) := by decide +kernel
theorem dX7_read_15 : decode cX7_read 15 = .ok (.ireturn, 1) := by decide +kernel
theorem dX7_read_16 : decode cX7_read 16 = .ok (.iload_n 2, 1) := by decide +kernel
theorem dX7_read_17 : decode cX7_read 17 = .ok (.ifCond .ne 8, 3) := by decide +kernel
theorem dX7_read_20 : decode cX7_read 20 = .ok (.bipush (-2), 2) := by decide +kernel
theorem dX7_read_22 : decode cX7_read 22 = .ok (.goto 11, 3) := by decide +kernel
theorem dX7_read_25 : decode cX7_read 25 = .ok (.aload_n 0, 1) := by decide +kernel
theorem dX7_read_26 : decode cX7_read 26 = .ok (.getfield 12, 3) := by decide +kernel
theorem dX7_read_29 : decode cX7_read 29 = .ok (.iload_n 1, 1) := by decide +kernel
theorem dX7_read_30 : decode cX7_read 30 = .ok (.invokevirtual 76, 3) := by decide +kernel
theorem dX7_read_33 : decode cX7_read 33 = .ok (.ireturn, 1) := by decide +kernel
def mT_X7_read_33 (N : Nat) (σ : ST) (x1 : Int32) (x2 : Int32) (k0 : Int32) : Option (Int32 × ST) :=
  some (k0, σ)
set_option maxRecDepth 20000 in
set_option maxHeartbeats 2000000 in
theorem tT_X7_read_33 {adr : Nat → Nat} {cI cZ cS cD cE : ClassId} {tL tH : Nat} {X : zX} {q : Int32 × ST} (B : zC X 3 (wdT adr cI cZ cS cD cE tL tH) cX7_read RX7 (some .int) { frames := 6, cells := 0, slots := 0, locals := 146 }) (N : Nat) (σ : ST) (x1 : Int32) (x2 : Int32) (k0 : Int32) (hf : mT_X7_read_33 N σ x1 x2 k0 = some q) : zJ X 3 (wdT adr cI cZ cS cD cE tL tH) (zi q) 33 [(0, .ref (adr 600)), (1, .int x1), (2, .int x2)] [.int k0] σ := by
  exact z_ireturn B dX7_read_33 hf
def mT_X7_read (N : Nat) (σ : ST) (x1 : Int32) : Option (Int32 × ST) :=
  zCallL (mE_X2_take N ((pE 0 0) σ) x1) ((iE 0 0) σ) fun v5 s5 =>
  if (v5 : Int32) = (-1) then
    some ((-1), s5)
  else
    if (v5 : Int32) = 0 then
      mT_X7_read_33 N s5 x1 v5 (-2)
    else
      zCallL (mE_X1_contentOf N ((pE 0 0) s5) x1) ((iE 0 0) s5) fun v30 s30 =>
      mT_X7_read_33 N s30 x1 v5 v30
set_option maxRecDepth 20000 in
set_option maxHeartbeats 2000000 in
theorem cT_X7_read {adr : Nat → Nat} {cI cZ cS cD cE : ClassId} {tL tH : Nat} {l : Launch} {D : va_G} {N : Nat} {σ : ST} {x1 : Int32} (q : Int32 × ST) (hf : mT_X7_read N σ x1 = some q) : zM l D (wdT adr cI cZ cS cD cE tL tH) yX7_read cX7_read 3 (some .int) ({ frames := 6, cells := 0, slots := 0, locals := 146 }) [.ref (adr 600), .int x1] σ (zi q) := by
  refine zM_of sfE_ok rfl (Nat.le_of_ble_eq_true rfl) [(0, .ref (adr 600)), (1, .int x1)] rfl (fun X hX1 hX2 B => ?_)
  have B : zC X 3 (wdT adr cI cZ cS cD cE tL tH) cX7_read RX7 (some .int) { frames := 6, cells := 0, slots := 0, locals := 146 } := B
  refine z_aload_n B dX7_read_0 0 rfl rfl ?_
  refine fT_g_P_now B dX7_read_1 ?_
  refine z_iload_n B dX7_read_4 1 rfl rfl ?_
  refine z_callVLi B (lE0 (adr := adr) (cI := cI) (cZ := cZ) (cS := cS) (cD := cD) (cE := cE) (tL := tL) (tH := tH)) (As := [.int x1]) kcV_X7_73 dX7_read_5 hf (fun q hq => cE_X2_take q hq) wE_o_E rfl rfl rfl rfl (Nat.le_of_ble_eq_true rfl) rfl rfl ⟨Nat.le_of_ble_eq_true rfl, Nat.le_of_ble_eq_true rfl⟩ (fun v5 s5 hf => ?_)
  refine z_istore_n B [(2, .int v5), (0, .ref (adr 600)), (1, .int x1)] dX7_read_8 rfl (Nat.le_of_ble_eq_true rfl) rfl ?_
  refine z_iload_n B dX7_read_9 0 rfl rfl ?_
  refine z_iconst B (-1) dX7_read_10 zc_iconst_m1 ?_
  refine z_icmp_ne B 16 dX7_read_11 (by decide) hf (fun hf => ?_) (fun hf => ?_)
  · refine z_iload_n B dX7_read_16 0 rfl rfl ?_
    refine z_if_ne B 25 dX7_read_17 (by decide) hf (fun hf => ?_) (fun hf => ?_)
    · refine z_aload_n B dX7_read_25 1 rfl rfl ?_
      refine fT_g_P_disk B dX7_read_26 ?_
      refine z_iload_n B dX7_read_29 2 rfl rfl ?_
      refine z_callVLi B (lE0 (adr := adr) (cI := cI) (cZ := cZ) (cS := cS) (cD := cD) (cE := cE) (tL := tL) (tH := tH)) (As := [.int x1]) kcV_X7_76 dX7_read_30 hf (fun q hq => cE_X1_contentOf q hq) wE_o_D rfl rfl rfl rfl (Nat.le_of_ble_eq_true rfl) rfl rfl ⟨Nat.le_of_ble_eq_true rfl, Nat.le_of_ble_eq_true rfl⟩ (fun v30 s30 hf => ?_)
      exact z_loc [1, 2, 0] _ rfl (tT_X7_read_33 B N s30 x1 v5 v30 hf)
    · refine z_bipush B (-2) dX7_read_20 zc_bipush_m2 ?_
      refine z_goto B 33 dX7_read_22 (by decide) ?_
      exact z_loc [1, 2, 0] _ rfl (tT_X7_read_33 B N s5 x1 v5 (-2) hf)
  · refine z_iconst B (-1) dX7_read_14 zc_iconst_m1 ?_
    exact z_ireturn B dX7_read_15 hf
theorem dX7_reads_0 : decode cX7_reads 0 = .ok (.iload_n 3, 1) := by decide +kernel
theorem dX7_reads_1 : decode cX7_reads 1 = .ok (.iconst 1, 1) := by decide +kernel
theorem dX7_reads_2 : decode cX7_reads 2 = .ok (.if_icmp .lt 9, 3) := by decide +kernel
theorem dX7_reads_5 : decode cX7_reads 5 = .ok (.iload_n 3, 1) := by decide +kernel
theorem dX7_reads_6 : decode cX7_reads 6 = .ok (.bipush 40, 2) := by decide +kernel
theorem dX7_reads_8 : decode cX7_reads 8 = .ok (.if_icmp .le 5, 3) := by decide +kernel
theorem dX7_reads_11 : decode cX7_reads 11 = .ok (.iconst (-1), 1) := by decide +kernel
theorem dX7_reads_12 : decode cX7_reads 12 = .ok (.ireturn, 1) := by decide +kernel
theorem dX7_reads_13 : decode cX7_reads 13 = .ok (.aload_n 0, 1) := by decide +kernel
theorem dX7_reads_14 : decode cX7_reads 14 = .ok (.getfield 26, 3) := by decide +kernel
theorem dX7_reads_17 : decode cX7_reads 17 = .ok (.getfield 79, 3) := by decide +kernel
theorem dX7_reads_20 : decode cX7_reads 20 = .ok (.iconst 1, 1) := by decide +kernel
theorem dX7_reads_21 : decode cX7_reads 21 = .ok (.iaload, 1) := by decide +kernel
theorem dX7_reads_22 : decode cX7_reads 22 = .ok (.istore 4, 2) := by decide +kernel
theorem dX7_reads_24 : decode cX7_reads 24 = .ok (.iconst 0, 1) := by decide +kernel
theorem dX7_reads_25 : decode cX7_reads 25 = .ok (.istore 5, 2) := by decide +kernel
theorem dX7_reads_27 : decode cX7_reads 27 = .ok (.iload 5, 2) := by decide +kernel
theorem dX7_reads_29 : decode cX7_reads 29 = .ok (.iload_n 3, 1) := by decide +kernel
theorem dX7_reads_30 : decode cX7_reads 30 = .ok (.if_icmp .ge 54, 3) := by decide +kernel
theorem dX7_reads_33 : decode cX7_reads 33 = .ok (.iload_n 1, 1) := by decide +kernel
theorem dX7_reads_34 : decode cX7_reads 34 = .ok (.i2l, 1) := by decide +kernel
theorem dX7_reads_35 : decode cX7_reads 35 = .ok (.iload 5, 2) := by decide +kernel
theorem dX7_reads_37 : decode cX7_reads 37 = .ok (.i2l, 1) := by decide +kernel
theorem dX7_reads_38 : decode cX7_reads 38 = .ok (.iload_n 2, 1) := by decide +kernel
theorem dX7_reads_39 : decode cX7_reads 39 = .ok (.i2l, 1) := by decide +kernel
theorem dX7_reads_40 : decode cX7_reads 40 = .ok (.lmul, 1) := by decide +kernel
theorem dX7_reads_41 : decode cX7_reads 41 = .ok (.ladd, 1) := by decide +kernel
theorem dX7_reads_42 : decode cX7_reads 42 = .ok (.lstore 6, 2) := by decide +kernel
theorem dX7_reads_44 : decode cX7_reads 44 = .ok (.lload 6, 2) := by decide +kernel
theorem dX7_reads_46 : decode cX7_reads 46 = .ok (.lconst 0, 1) := by decide +kernel
theorem dX7_reads_47 : decode cX7_reads 47 = .ok (.lcmp, 1) := by decide +kernel
theorem dX7_reads_48 : decode cX7_reads 48 = .ok (.ifCond .lt 30, 3) := by decide +kernel
theorem dX7_reads_51 : decode cX7_reads 51 = .ok (.lload 6, 2) := by decide +kernel
theorem dX7_reads_53 : decode cX7_reads 53 = .ok (.aload_n 0, 1) := by decide +kernel
theorem dX7_reads_54 : decode cX7_reads 54 = .ok (.getfield 26, 3) := by decide +kernel
theorem dX7_reads_57 : decode cX7_reads 57 = .ok (.bipush 7, 2) := by decide +kernel
theorem dX7_reads_59 : decode cX7_reads 59 = .ok (.invokevirtual 62, 3) := by decide +kernel
theorem dX7_reads_62 : decode cX7_reads 62 = .ok (.i2l, 1) := by decide +kernel
theorem dX7_reads_63 : decode cX7_reads 63 = .ok (.lcmp, 1) := by decide +kernel
theorem dX7_reads_64 : decode cX7_reads 64 = .ok (.ifCond .ge 14, 3) := by decide +kernel
theorem dX7_reads_67 : decode cX7_reads 67 = .ok (.aload_n 0, 1) := by decide +kernel
theorem dX7_reads_68 : decode cX7_reads 68 = .ok (.getfield 26, 3) := by decide +kernel
theorem dX7_reads_71 : decode cX7_reads 71 = .ok (.lload 6, 2) := by decide +kernel
theorem dX7_reads_73 : decode cX7_reads 73 = .ok (.l2i, 1) := by decide +kernel
theorem dX7_reads_74 : decode cX7_reads 74 = .ok (.invokevirtual 73, 3) := by decide +kernel
theorem dX7_reads_77 : decode cX7_reads 77 = .ok (.pop, 1) := by decide +kernel
theorem dX7_reads_78 : decode cX7_reads 78 = .ok (.iinc 5 1, 3) := by decide +kernel
theorem dX7_reads_81 : decode cX7_reads 81 = .ok (.goto (-54), 3) := by decide +kernel
theorem dX7_reads_84 : decode cX7_reads 84 = .ok (.aload_n 0, 1) := by decide +kernel
theorem dX7_reads_85 : decode cX7_reads 85 = .ok (.getfield 26, 3) := by decide +kernel
theorem dX7_reads_88 : decode cX7_reads 88 = .ok (.getfield 79, 3) := by decide +kernel
theorem dX7_reads_91 : decode cX7_reads 91 = .ok (.iconst 1, 1) := by decide +kernel
theorem dX7_reads_92 : decode cX7_reads 92 = .ok (.iaload, 1) := by decide +kernel
theorem dX7_reads_93 : decode cX7_reads 93 = .ok (.iload 4, 2) := by decide +kernel
theorem dX7_reads_95 : decode cX7_reads 95 = .ok (.isub, 1) := by decide +kernel
theorem dX7_reads_96 : decode cX7_reads 96 = .ok (.ireturn, 1) := by decide +kernel
def mT_X7_reads_78 (N : Nat) (hd27 : ST → Int32 → Int32 → Int32 → Int32 → Int32 → Option (Int32 × ST)) (σ : ST) (x1 : Int32) (x2 : Int32) (x3 : Int32) (x4 : Int32) (x5 : Int32) (x6 : Int64) : Option (Int32 × ST) :=
  zLet (x5 + (1)) fun v78 =>
  hd27 σ x1 x2 x3 x4 v78
set_option maxRecDepth 20000 in
set_option maxHeartbeats 2000000 in
theorem tT_X7_reads_78 {adr : Nat → Nat} {cI cZ cS cD cE : ClassId} {tL tH : Nat} {X : zX} {q : Int32 × ST} (B : zC X 8 (wdT adr cI cZ cS cD cE tL tH) cX7_reads RX7 (some .int) { frames := 6, cells := 0, slots := 0, locals := 146 }) (N : Nat) (hd27 : ST → Int32 → Int32 → Int32 → Int32 → Int32 → Option (Int32 × ST)) (hh27 : ∀ (σ : ST) (x1 : Int32) (x2 : Int32) (x3 : Int32) (x4 : Int32) (x5 : Int32), hd27 σ x1 x2 x3 x4 x5 = some q → zJ X 8 (wdT adr cI cZ cS cD cE tL tH) (zi q) 27 [(0, .ref (adr 600)), (1, .int x1), (2, .int x2), (3, .int x3), (4, .int x4), (5, .int x5)] [] σ) (σ : ST) (x1 : Int32) (x2 : Int32) (x3 : Int32) (x4 : Int32) (x5 : Int32) (x6 : Int64) (hf : mT_X7_reads_78 N hd27 σ x1 x2 x3 x4 x5 x6 = some q) : zJ X 8 (wdT adr cI cZ cS cD cE tL tH) (zi q) 78 [(0, .ref (adr 600)), (1, .int x1), (2, .int x2), (3, .int x3), (4, .int x4), (5, .int x5), (6, .long x6)] [] σ := by
  refine z_iinc B (1) 5 (fun v78 => [(5, .int v78), (0, .ref (adr 600)), (1, .int x1), (2, .int x2), (3, .int x3), (4, .int x4), (6, .long x6)]) dX7_reads_78 hf zc_iconst_1 rfl (Nat.le_of_ble_eq_true rfl) (fun _ => rfl) (fun v78 hf => ?_)
  refine z_goto B 27 dX7_reads_81 (by decide) ?_
  exact z_loc [1, 2, 3, 4, 5, 0] _ rfl (hh27 σ x1 x2 x3 x4 v78 hf)
def mT_X7_reads_B27 (N : Nat) (hd27 : ST → Int32 → Int32 → Int32 → Int32 → Int32 → Option (Int32 × ST)) (σ : ST) (x1 : Int32) (x2 : Int32) (x3 : Int32) (x4 : Int32) (x5 : Int32) : Option (Int32 × ST) :=
  if (x3 : Int32) ≤ x5 then
    zGet (σ 2) 34 (1) fun v92 =>
    zLet ((v92 : Int32) - x4) fun v95 =>
    some (v95, σ)
  else
    zLet ((x1 : Int32).toInt64) fun v34 =>
    zLet ((x5 : Int32).toInt64) fun v37 =>
    zLet ((x2 : Int32).toInt64) fun v39 =>
    zLet ((v37 : Int64) * v39) fun v40 =>
    zLet ((v34 : Int64) + v40) fun v41 =>
    zLet (lg_cmp v41 (0)) fun v47 =>
    if (v47 : Int32) < 0 then
      mT_X7_reads_78 N hd27 σ x1 x2 x3 x4 x5 v41
    else
      zCallL (mE_X2_term N ((pE 0 0) σ) (7)) ((iE 0 0) σ) fun v59 s59 =>
      zLet ((v59 : Int32).toInt64) fun v62 =>
      zLet (lg_cmp v41 v62) fun v63 =>
      if (0 : Int32) ≤ v63 then
        mT_X7_reads_78 N hd27 s59 x1 x2 x3 x4 x5 v41
      else
        zLet ((v41 : Int64).toInt32) fun v73 =>
        zCallL (mE_X2_take N ((pE 0 0) s59) v73) ((iE 0 0) s59) fun v74 s74 =>
        mT_X7_reads_78 N hd27 s74 x1 x2 x3 x4 x5 v41
def mT_X7_reads_27 (N : Nat) : ST → Int32 → Int32 → Int32 → Int32 → Int32 → Option (Int32 × ST) := zIt (mT_X7_reads_B27 N) (fun _ _ _ _ _ _ => none) N
set_option maxRecDepth 20000 in
set_option maxHeartbeats 2000000 in
theorem tT_X7_reads_27 {adr : Nat → Nat} {cI cZ cS cD cE : ClassId} {tL tH : Nat} {X : zX} {q : Int32 × ST} (B : zC X 8 (wdT adr cI cZ cS cD cE tL tH) cX7_reads RX7 (some .int) { frames := 6, cells := 0, slots := 0, locals := 146 }) (N : Nat) : ∀ (σ : ST) (x1 : Int32) (x2 : Int32) (x3 : Int32) (x4 : Int32) (x5 : Int32), mT_X7_reads_27 N σ x1 x2 x3 x4 x5 = some q → zJ X 8 (wdT adr cI cZ cS cD cE tL tH) (zi q) 27 [(0, .ref (adr 600)), (1, .int x1), (2, .int x2), (3, .int x3), (4, .int x4), (5, .int x5)] [] σ := by
  refine zIt_ind (P := fun (hd : ST → Int32 → Int32 → Int32 → Int32 → Int32 → Option (Int32 × ST)) => ∀ (σ : ST) (x1 : Int32) (x2 : Int32) (x3 : Int32) (x4 : Int32) (x5 : Int32), hd σ x1 x2 x3 x4 x5 = some q → zJ X 8 (wdT adr cI cZ cS cD cE tL tH) (zi q) 27 [(0, .ref (adr 600)), (1, .int x1), (2, .int x2), (3, .int x3), (4, .int x4), (5, .int x5)] [] σ) (fun _ _ _ _ _ _ hf => by cases hf) (fun hd27 hh27 => ?_) N
  intro σ x1 x2 x3 x4 x5 hf
  refine z_iload B dX7_reads_27 5 rfl ?_
  refine z_iload_n B dX7_reads_29 3 rfl rfl ?_
  refine z_icmp_ge B 84 dX7_reads_30 (by decide) hf (fun hf => ?_) (fun hf => ?_)
  · refine z_aload_n B dX7_reads_84 0 rfl rfl ?_
    refine fT_g_P_now B dX7_reads_85 ?_
    refine fT_g_E0_counts B dX7_reads_88 ?_
    refine z_iconst B (1) dX7_reads_91 zc_iconst_1 ?_
    refine fT_l_E0_counts B dX7_reads_92 hf (fun v92 hf => ?_)
    refine z_iload B dX7_reads_93 4 rfl ?_
    refine z_isub B dX7_reads_95 hf (fun v95 hf => ?_)
    exact z_ireturn B dX7_reads_96 hf
  · refine z_iload_n B dX7_reads_33 1 rfl rfl ?_
    refine z_i2l B dX7_reads_34 hf (fun v34 hf => ?_)
    refine z_iload B dX7_reads_35 5 rfl ?_
    refine z_i2l B dX7_reads_37 hf (fun v37 hf => ?_)
    refine z_iload_n B dX7_reads_38 2 rfl rfl ?_
    refine z_i2l B dX7_reads_39 hf (fun v39 hf => ?_)
    refine z_lmul B dX7_reads_40 hf (fun v40 hf => ?_)
    refine z_ladd B dX7_reads_41 hf (fun v41 hf => ?_)
    refine z_lstore B [(6, .long v41), (0, .ref (adr 600)), (1, .int x1), (2, .int x2), (3, .int x3), (4, .int x4), (5, .int x5)] dX7_reads_42 (Nat.le_of_ble_eq_true rfl) rfl ?_
    refine z_lload B dX7_reads_44 0 rfl ?_
    refine z_lconst B (0) dX7_reads_46 rfl ?_
    refine z_lcmp B dX7_reads_47 hf (fun v47 hf => ?_)
    refine z_if_lt B 78 dX7_reads_48 (by decide) hf (fun hf => ?_) (fun hf => ?_)
    · exact z_loc [1, 2, 3, 4, 5, 6, 0] _ rfl (tT_X7_reads_78 B N hd27 hh27 σ x1 x2 x3 x4 x5 v41 hf)
    · refine z_lload B dX7_reads_51 0 rfl ?_
      refine z_aload_n B dX7_reads_53 1 rfl rfl ?_
      refine fT_g_P_now B dX7_reads_54 ?_
      refine z_bipush B (7) dX7_reads_57 zc_bipush_7 ?_
      refine z_callVLi B (lE0 (adr := adr) (cI := cI) (cZ := cZ) (cS := cS) (cD := cD) (cE := cE) (tL := tL) (tH := tH)) (As := [.int (7)]) kcV_X7_62 dX7_reads_59 hf (fun q hq => cE_X2_term q hq) wE_o_E rfl rfl rfl rfl (Nat.le_of_ble_eq_true rfl) rfl rfl ⟨Nat.le_of_ble_eq_true rfl, Nat.le_of_ble_eq_true rfl⟩ (fun v59 s59 hf => ?_)
      refine z_i2l B dX7_reads_62 hf (fun v62 hf => ?_)
      refine z_lcmp B dX7_reads_63 hf (fun v63 hf => ?_)
      refine z_if_ge B 78 dX7_reads_64 (by decide) hf (fun hf => ?_) (fun hf => ?_)
      · exact z_loc [1, 2, 3, 4, 5, 6, 0] _ rfl (tT_X7_reads_78 B N hd27 hh27 s59 x1 x2 x3 x4 x5 v41 hf)
      · refine z_aload_n B dX7_reads_67 1 rfl rfl ?_
        refine fT_g_P_now B dX7_reads_68 ?_
        refine z_lload B dX7_reads_71 0 rfl ?_
        refine z_l2i B dX7_reads_73 hf (fun v73 hf => ?_)
        refine z_callVLi B (lE0 (adr := adr) (cI := cI) (cZ := cZ) (cS := cS) (cD := cD) (cE := cE) (tL := tL) (tH := tH)) (As := [.int v73]) kcV_X7_73 dX7_reads_74 hf (fun q hq => cE_X2_take q hq) wE_o_E rfl rfl rfl rfl (Nat.le_of_ble_eq_true rfl) rfl rfl ⟨Nat.le_of_ble_eq_true rfl, Nat.le_of_ble_eq_true rfl⟩ (fun v74 s74 hf => ?_)
        refine z_pop B dX7_reads_77 rfl ?_
        exact z_loc [1, 2, 3, 4, 5, 6, 0] _ rfl (tT_X7_reads_78 B N hd27 hh27 s74 x1 x2 x3 x4 x5 v41 hf)
def mT_X7_reads_11 (N : Nat) (σ : ST) (x1 : Int32) (x2 : Int32) (x3 : Int32) : Option (Int32 × ST) :=
  some ((-1), σ)
set_option maxRecDepth 20000 in
set_option maxHeartbeats 2000000 in
theorem tT_X7_reads_11 {adr : Nat → Nat} {cI cZ cS cD cE : ClassId} {tL tH : Nat} {X : zX} {q : Int32 × ST} (B : zC X 8 (wdT adr cI cZ cS cD cE tL tH) cX7_reads RX7 (some .int) { frames := 6, cells := 0, slots := 0, locals := 146 }) (N : Nat) (σ : ST) (x1 : Int32) (x2 : Int32) (x3 : Int32) (hf : mT_X7_reads_11 N σ x1 x2 x3 = some q) : zJ X 8 (wdT adr cI cZ cS cD cE tL tH) (zi q) 11 [(0, .ref (adr 600)), (1, .int x1), (2, .int x2), (3, .int x3)] [] σ := by
  refine z_iconst B (-1) dX7_reads_11 zc_iconst_m1 ?_
  exact z_ireturn B dX7_reads_12 hf
def mT_X7_reads (N : Nat) (σ : ST) (x1 : Int32) (x2 : Int32) (x3 : Int32) : Option (Int32 × ST) :=
  if (x3 : Int32) < (1) then
    mT_X7_reads_11 N σ x1 x2 x3
  else
    if (x3 : Int32) ≤ (40) then
      zGet (σ 2) 34 (1) fun v21 =>
      mT_X7_reads_27 N σ x1 x2 x3 v21 (0)
    else
      mT_X7_reads_11 N σ x1 x2 x3
set_option maxRecDepth 20000 in
set_option maxHeartbeats 2000000 in
theorem cT_X7_reads {adr : Nat → Nat} {cI cZ cS cD cE : ClassId} {tL tH : Nat} {l : Launch} {D : va_G} {N : Nat} {σ : ST} {x1 : Int32} {x2 : Int32} {x3 : Int32} (q : Int32 × ST) (hf : mT_X7_reads N σ x1 x2 x3 = some q) : zM l D (wdT adr cI cZ cS cD cE tL tH) yX7_reads cX7_reads 8 (some .int) ({ frames := 6, cells := 0, slots := 0, locals := 146 }) [.ref (adr 600), .int x1, .int x2, .int x3] σ (zi q) := by
  refine zM_of sfE_ok rfl (Nat.le_of_ble_eq_true rfl) [(0, .ref (adr 600)), (1, .int x1), (2, .int x2), (3, .int x3)] rfl (fun X hX1 hX2 B => ?_)
  have B : zC X 8 (wdT adr cI cZ cS cD cE tL tH) cX7_reads RX7 (some .int) { frames := 6, cells := 0, slots := 0, locals := 146 } := B
  refine z_iload_n B dX7_reads_0 3 rfl rfl ?_
  refine z_iconst B (1) dX7_reads_1 zc_iconst_1 ?_
  refine z_icmp_lt B 11 dX7_reads_2 (by decide) hf (fun hf => ?_) (fun hf => ?_)
  · exact tT_X7_reads_11 B N σ x1 x2 x3 hf
  · refine z_iload_n B dX7_reads_5 3 rfl rfl ?_
    refine z_bipush B (40) dX7_reads_6 zc_bipush_40 ?_
    refine z_icmp_le B 13 dX7_reads_8 (by decide) hf (fun hf => ?_) (fun hf => ?_)
    · refine z_aload_n B dX7_reads_13 0 rfl rfl ?_
      refine fT_g_P_now B dX7_reads_14 ?_
      refine fT_g_E0_counts B dX7_reads_17 ?_
      refine z_iconst B (1) dX7_reads_20 zc_iconst_1 ?_
      refine fT_l_E0_counts B dX7_reads_21 hf (fun v21 hf => ?_)
      refine z_istore B [(4, .int v21), (0, .ref (adr 600)), (1, .int x1), (2, .int x2), (3, .int x3)] dX7_reads_22 (Nat.le_of_ble_eq_true rfl) rfl ?_
      refine z_iconst B (0) dX7_reads_24 zc_iconst_0 ?_
      refine z_istore B [(5, .int (0)), (4, .int v21), (0, .ref (adr 600)), (1, .int x1), (2, .int x2), (3, .int x3)] dX7_reads_25 (Nat.le_of_ble_eq_true rfl) rfl ?_
      exact z_loc [2, 3, 4, 5, 1, 0] _ rfl (tT_X7_reads_27 B N σ x1 x2 x3 v21 (0) hf)
    · exact tT_X7_reads_11 B N σ x1 x2 x3 hf
theorem dX7_idle_0 : decode cX7_idle 0 = .ok (.iload_n 1, 1) := by decide +kernel
theorem dX7_idle_1 : decode cX7_idle 1 = .ok (.iconst 1, 1) := by decide +kernel
theorem dX7_idle_2 : decode cX7_idle 2 = .ok (.if_icmp .lt 9, 3) := by decide +kernel
theorem dX7_idle_5 : decode cX7_idle 5 = .ok (.iload_n 1, 1) := by decide +kernel
theorem dX7_idle_6 : decode cX7_idle 6 = .ok (.bipush 20, 2) := by decide +kernel
theorem dX7_idle_8 : decode cX7_idle 8 = .ok (.if_icmp .le 5, 3) := by decide +kernel
theorem dX7_idle_11 : decode cX7_idle 11 = .ok (.iconst (-1), 1) := by decide +kernel
theorem dX7_idle_12 : decode cX7_idle 12 = .ok (.ireturn, 1) := by decide +kernel
theorem dX7_idle_13 : decode cX7_idle 13 = .ok (.iconst 0, 1) := by decide +kernel
theorem dX7_idle_14 : decode cX7_idle 14 = .ok (.istore_n 2, 1) := by decide +kernel
theorem dX7_idle_15 : decode cX7_idle 15 = .ok (.iload_n 2, 1) := by decide +kernel
theorem dX7_idle_16 : decode cX7_idle 16 = .ok (.iload_n 1, 1) := by decide +kernel
theorem dX7_idle_17 : decode cX7_idle 17 = .ok (.if_icmp .ge 19, 3) := by decide +kernel
theorem dX7_idle_20 : decode cX7_idle 20 = .ok (.aload_n 0, 1) := by decide +kernel
theorem dX7_idle_21 : decode cX7_idle 21 = .ok (.getfield 26, 3) := by decide +kernel
theorem dX7_idle_24 : decode cX7_idle 24 = .ok (.invokevirtual 83, 3) := by decide +kernel
theorem dX7_idle_27 : decode cX7_idle 27 = .ok (.ifCond .eq 9, 3) := by decide +kernel
theorem dX7_idle_30 : decode cX7_idle 30 = .ok (.iinc 2 1, 3) := by decide +kernel
theorem dX7_idle_33 : decode cX7_idle 33 = .ok (.goto (-18), 3) := by decide +kernel
theorem dX7_idle_36 : decode cX7_idle 36 = .ok (.iload_n 2, 1) := by decide +kernel
theorem dX7_idle_37 : decode cX7_idle 37 = .ok (.ireturn, 1) := by decide +kernel
def mT_X7_idle_36 (N : Nat) (σ : ST) (x1 : Int32) (x2 : Int32) : Option (Int32 × ST) :=
  some (x2, σ)
set_option maxRecDepth 20000 in
set_option maxHeartbeats 2000000 in
theorem tT_X7_idle_36 {adr : Nat → Nat} {cI cZ cS cD cE : ClassId} {tL tH : Nat} {X : zX} {q : Int32 × ST} (B : zC X 3 (wdT adr cI cZ cS cD cE tL tH) cX7_idle RX7 (some .int) { frames := 5, cells := 0, slots := 0, locals := 124 }) (N : Nat) (σ : ST) (x1 : Int32) (x2 : Int32) (hf : mT_X7_idle_36 N σ x1 x2 = some q) : zJ X 3 (wdT adr cI cZ cS cD cE tL tH) (zi q) 36 [(0, .ref (adr 600)), (1, .int x1), (2, .int x2)] [] σ := by
  refine z_iload_n B dX7_idle_36 2 rfl rfl ?_
  exact z_ireturn B dX7_idle_37 hf
def mT_X7_idle_B15 (N : Nat) (hd15 : ST → Int32 → Int32 → Option (Int32 × ST)) (σ : ST) (x1 : Int32) (x2 : Int32) : Option (Int32 × ST) :=
  if (x1 : Int32) ≤ x2 then
    mT_X7_idle_36 N σ x1 x2
  else
    zCallL (mE_X2_idleOnce N ((pE 0 0) σ)) ((iE 0 0) σ) fun v24 s24 =>
    if (v24 : Int32) = 0 then
      mT_X7_idle_36 N s24 x1 x2
    else
      zLet (x2 + (1)) fun v30 =>
      hd15 s24 x1 v30
def mT_X7_idle_15 (N : Nat) : ST → Int32 → Int32 → Option (Int32 × ST) := zIt (mT_X7_idle_B15 N) (fun _ _ _ => none) N
set_option maxRecDepth 20000 in
set_option maxHeartbeats 2000000 in
theorem tT_X7_idle_15 {adr : Nat → Nat} {cI cZ cS cD cE : ClassId} {tL tH : Nat} {X : zX} {q : Int32 × ST} (B : zC X 3 (wdT adr cI cZ cS cD cE tL tH) cX7_idle RX7 (some .int) { frames := 5, cells := 0, slots := 0, locals := 124 }) (N : Nat) : ∀ (σ : ST) (x1 : Int32) (x2 : Int32), mT_X7_idle_15 N σ x1 x2 = some q → zJ X 3 (wdT adr cI cZ cS cD cE tL tH) (zi q) 15 [(0, .ref (adr 600)), (1, .int x1), (2, .int x2)] [] σ := by
  refine zIt_ind (P := fun (hd : ST → Int32 → Int32 → Option (Int32 × ST)) => ∀ (σ : ST) (x1 : Int32) (x2 : Int32), hd σ x1 x2 = some q → zJ X 3 (wdT adr cI cZ cS cD cE tL tH) (zi q) 15 [(0, .ref (adr 600)), (1, .int x1), (2, .int x2)] [] σ) (fun _ _ _ hf => by cases hf) (fun hd15 hh15 => ?_) N
  intro σ x1 x2 hf
  refine z_iload_n B dX7_idle_15 2 rfl rfl ?_
  refine z_iload_n B dX7_idle_16 1 rfl rfl ?_
  refine z_icmp_ge B 36 dX7_idle_17 (by decide) hf (fun hf => ?_) (fun hf => ?_)
  · exact tT_X7_idle_36 B N σ x1 x2 hf
  · refine z_aload_n B dX7_idle_20 0 rfl rfl ?_
    refine fT_g_P_now B dX7_idle_21 ?_
    refine z_callVLi B (lE0 (adr := adr) (cI := cI) (cZ := cZ) (cS := cS) (cD := cD) (cE := cE) (tL := tL) (tH := tH)) (As := []) kcV_X7_83 dX7_idle_24 hf (fun q hq => cE_X2_idleOnce q hq) wE_o_E rfl rfl rfl rfl (Nat.le_of_ble_eq_true rfl) rfl rfl ⟨Nat.le_of_ble_eq_true rfl, Nat.le_of_ble_eq_true rfl⟩ (fun v24 s24 hf => ?_)
    refine z_if_eq B 36 dX7_idle_27 (by decide) hf (fun hf => ?_) (fun hf => ?_)
    · exact tT_X7_idle_36 B N s24 x1 x2 hf
    · refine z_iinc B (1) 2 (fun v30 => [(2, .int v30), (0, .ref (adr 600)), (1, .int x1)]) dX7_idle_30 hf zc_iconst_1 rfl (Nat.le_of_ble_eq_true rfl) (fun _ => rfl) (fun v30 hf => ?_)
      refine z_goto B 15 dX7_idle_33 (by decide) ?_
      exact z_loc [1, 2, 0] _ rfl (hh15 s24 x1 v30 hf)
def mT_X7_idle_11 (N : Nat) (σ : ST) (x1 : Int32) : Option (Int32 × ST) :=
  some ((-1), σ)
set_option maxRecDepth 20000 in
set_option maxHeartbeats 2000000 in
theorem tT_X7_idle_11 {adr : Nat → Nat} {cI cZ cS cD cE : ClassId} {tL tH : Nat} {X : zX} {q : Int32 × ST} (B : zC X 3 (wdT adr cI cZ cS cD cE tL tH) cX7_idle RX7 (some .int) { frames := 5, cells := 0, slots := 0, locals := 124 }) (N : Nat) (σ : ST) (x1 : Int32) (hf : mT_X7_idle_11 N σ x1 = some q) : zJ X 3 (wdT adr cI cZ cS cD cE tL tH) (zi q) 11 [(0, .ref (adr 600)), (1, .int x1)] [] σ := by
  refine z_iconst B (-1) dX7_idle_11 zc_iconst_m1 ?_
  exact z_ireturn B dX7_idle_12 hf
def mT_X7_idle (N : Nat) (σ : ST) (x1 : Int32) : Option (Int32 × ST) :=
  if (x1 : Int32) < (1) then
    mT_X7_idle_11 N σ x1
  else
    if (x1 : Int32) ≤ (20) then
      mT_X7_idle_15 N σ x1 (0)
    else
      mT_X7_idle_11 N σ x1
set_option maxRecDepth 20000 in
set_option maxHeartbeats 2000000 in
theorem cT_X7_idle {adr : Nat → Nat} {cI cZ cS cD cE : ClassId} {tL tH : Nat} {l : Launch} {D : va_G} {N : Nat} {σ : ST} {x1 : Int32} (q : Int32 × ST) (hf : mT_X7_idle N σ x1 = some q) : zM l D (wdT adr cI cZ cS cD cE tL tH) yX7_idle cX7_idle 3 (some .int) ({ frames := 5, cells := 0, slots := 0, locals := 124 }) [.ref (adr 600), .int x1] σ (zi q) := by
  refine zM_of sfE_ok rfl (Nat.le_of_ble_eq_true rfl) [(0, .ref (adr 600)), (1, .int x1)] rfl (fun X hX1 hX2 B => ?_)
  have B : zC X 3 (wdT adr cI cZ cS cD cE tL tH) cX7_idle RX7 (some .int) { frames := 5, cells := 0, slots := 0, locals := 124 } := B
  refine z_iload_n B dX7_idle_0 1 rfl rfl ?_
  refine z_iconst B (1) dX7_idle_1 zc_iconst_1 ?_
  refine z_icmp_lt B 11 dX7_idle_2 (by decide) hf (fun hf => ?_) (fun hf => ?_)
  · exact tT_X7_idle_11 B N σ x1 hf
  · refine z_iload_n B dX7_idle_5 1 rfl rfl ?_
    refine z_bipush B (20) dX7_idle_6 zc_bipush_20 ?_
    refine z_icmp_le B 13 dX7_idle_8 (by decide) hf (fun hf => ?_) (fun hf => ?_)
    · refine z_iconst B (0) dX7_idle_13 zc_iconst_0 ?_
      refine z_istore_n B [(2, .int (0)), (0, .ref (adr 600)), (1, .int x1)] dX7_idle_14 rfl (Nat.le_of_ble_eq_true rfl) rfl ?_
      exact z_loc [1, 2, 0] _ rfl (tT_X7_idle_15 B N σ x1 (0) hf)
    · exact tT_X7_idle_11 B N σ x1 hf
theorem dX7_advise_0 : decode cX7_advise 0 = .ok (.aload_n 0, 1) := by decide +kernel
theorem dX7_advise_1 : decode cX7_advise 1 = .ok (.getfield 26, 3) := by decide +kernel
theorem dX7_advise_4 : decode cX7_advise 4 = .ok (.iload_n 1, 1) := by decide +kernel
theorem dX7_advise_5 : decode cX7_advise 5 = .ok (.invokevirtual 87, 3) := by decide +kernel
theorem dX7_advise_8 : decode cX7_advise 8 = .ok (.ifCond .eq 19, 3) := by decide +kernel
theorem dX7_advise_11 : decode cX7_advise 11 = .ok (.iload_n 2, 1) := by decide +kernel
theorem dX7_advise_12 : decode cX7_advise 12 = .ok (.ifCond .eq 15, 3) := by decide +kernel
theorem dX7_advise_15 : decode cX7_advise 15 = .ok (.iload_n 2, 1) := by decide +kernel
theorem dX7_advise_16 : decode cX7_advise 16 = .ok (.bipush (-64), 2) := by decide +kernel
theorem dX7_advise_18 : decode cX7_advise 18 = .ok (.if_icmp .lt 9, 3) := by decide +kernel
theorem dX7_advise_21 : decode cX7_advise 21 = .ok (.iload_n 2, 1) := by decide +kernel
theorem dX7_advise_22 : decode cX7_advise 22 = .ok (.bipush 64, 2) := by decide +kernel
theorem dX7_advise_24 : decode cX7_advise 24 = .ok (.if_icmp .le 5, 3) := by decide +kernel
theorem dX7_advise_27 : decode cX7_advise 27 = .ok (.iconst (-1), 1) := by decide +kernel
theorem dX7_advise_28 : decode cX7_advise 28 = .ok (.ireturn, 1) := by decide +kernel
theorem dX7_advise_29 : decode cX7_advise 29 = .ok (.aload_n 0, 1) := by decide +kernel
theorem dX7_advise_30 : decode cX7_advise 30 = .ok (.getfield 26, 3) := by decide +kernel
theorem dX7_advise_33 : decode cX7_advise 33 = .ok (.iload_n 1, 1) := by decide +kernel
theorem dX7_advise_34 : decode cX7_advise 34 = .ok (.iload_n 2, 1) := by decide +kernel
theorem dX7_advise_35 : decode cX7_advise 35 = .ok (.invokevirtual 91, 3) := by decide +kernel
theorem dX7_advise_38 : decode cX7_advise 38 = .ok (.ireturn, 1) := by decide +kernel
def mT_X7_advise_27 (N : Nat) (σ : ST) (x1 : Int32) (x2 : Int32) : Option (Int32 × ST) :=
  some ((-1), σ)
set_option maxRecDepth 20000 in
set_option maxHeartbeats 2000000 in
theorem tT_X7_advise_27 {adr : Nat → Nat} {cI cZ cS cD cE : ClassId} {tL tH : Nat} {X : zX} {q : Int32 × ST} (B : zC X 3 (wdT adr cI cZ cS cD cE tL tH) cX7_advise RX7 (some .int) { frames := 6, cells := 0, slots := 0, locals := 146 }) (N : Nat) (σ : ST) (x1 : Int32) (x2 : Int32) (hf : mT_X7_advise_27 N σ x1 x2 = some q) : zJ X 3 (wdT adr cI cZ cS cD cE tL tH) (zi q) 27 [(0, .ref (adr 600)), (1, .int x1), (2, .int x2)] [] σ := by
  refine z_iconst B (-1) dX7_advise_27 zc_iconst_m1 ?_
  exact z_ireturn B dX7_advise_28 hf
def mT_X7_advise (N : Nat) (σ : ST) (x1 : Int32) (x2 : Int32) : Option (Int32 × ST) :=
  zCallL (mE_X2_hasBlock N ((pE 0 0) σ) x1) ((iE 0 0) σ) fun v5 s5 =>
  if (v5 : Int32) = 0 then
    mT_X7_advise_27 N s5 x1 x2
  else
    if (x2 : Int32) = 0 then
      mT_X7_advise_27 N s5 x1 x2
    else
      if (x2 : Int32) < (-64) then
        mT_X7_advise_27 N s5 x1 x2
      else
        if (x2 : Int32) ≤ (64) then
          zCallL (mE_X2_follow N ((pE 0 0) s5) x1 x2) ((iE 0 0) s5) fun v35 s35 =>
          some (v35, s35)
        else
          mT_X7_advise_27 N s5 x1 x2
set_option maxRecDepth 20000 in
set_option maxHeartbeats 2000000 in
theorem cT_X7_advise {adr : Nat → Nat} {cI cZ cS cD cE : ClassId} {tL tH : Nat} {l : Launch} {D : va_G} {N : Nat} {σ : ST} {x1 : Int32} {x2 : Int32} (q : Int32 × ST) (hf : mT_X7_advise N σ x1 x2 = some q) : zM l D (wdT adr cI cZ cS cD cE tL tH) yX7_advise cX7_advise 3 (some .int) ({ frames := 6, cells := 0, slots := 0, locals := 146 }) [.ref (adr 600), .int x1, .int x2] σ (zi q) := by
  refine zM_of sfE_ok rfl (Nat.le_of_ble_eq_true rfl) [(0, .ref (adr 600)), (1, .int x1), (2, .int x2)] rfl (fun X hX1 hX2 B => ?_)
  have B : zC X 3 (wdT adr cI cZ cS cD cE tL tH) cX7_advise RX7 (some .int) { frames := 6, cells := 0, slots := 0, locals := 146 } := B
  refine z_aload_n B dX7_advise_0 0 rfl rfl ?_
  refine fT_g_P_now B dX7_advise_1 ?_
  refine z_iload_n B dX7_advise_4 1 rfl rfl ?_
  refine z_callVLi B (lE0 (adr := adr) (cI := cI) (cZ := cZ) (cS := cS) (cD := cD) (cE := cE) (tL := tL) (tH := tH)) (As := [.int x1]) kcV_X7_87 dX7_advise_5 hf (fun q hq => cE_X2_hasBlock q hq) wE_o_E rfl rfl rfl rfl (Nat.le_of_ble_eq_true rfl) rfl rfl ⟨Nat.le_of_ble_eq_true rfl, Nat.le_of_ble_eq_true rfl⟩ (fun v5 s5 hf => ?_)
  refine z_if_eq B 27 dX7_advise_8 (by decide) hf (fun hf => ?_) (fun hf => ?_)
  · exact tT_X7_advise_27 B N s5 x1 x2 hf
  · refine z_iload_n B dX7_advise_11 2 rfl rfl ?_
    refine z_if_eq B 27 dX7_advise_12 (by decide) hf (fun hf => ?_) (fun hf => ?_)
    · exact tT_X7_advise_27 B N s5 x1 x2 hf
    · refine z_iload_n B dX7_advise_15 2 rfl rfl ?_
      refine z_bipush B (-64) dX7_advise_16 zc_bipush_m64 ?_
      refine z_icmp_lt B 27 dX7_advise_18 (by decide) hf (fun hf => ?_) (fun hf => ?_)
      · exact tT_X7_advise_27 B N s5 x1 x2 hf
      · refine z_iload_n B dX7_advise_21 2 rfl rfl ?_
        refine z_bipush B (64) dX7_advise_22 zc_bipush_64 ?_
        refine z_icmp_le B 29 dX7_advise_24 (by decide) hf (fun hf => ?_) (fun hf => ?_)
        · refine z_aload_n B dX7_advise_29 0 rfl rfl ?_
          refine fT_g_P_now B dX7_advise_30 ?_
          refine z_iload_n B dX7_advise_33 1 rfl rfl ?_
          refine z_iload_n B dX7_advise_34 2 rfl rfl ?_
          refine z_callVLi B (lE0 (adr := adr) (cI := cI) (cZ := cZ) (cS := cS) (cD := cD) (cE := cE) (tL := tL) (tH := tH)) (As := [.int x1, .int x2]) kcV_X7_91 dX7_advise_35 hf (fun q hq => cE_X2_follow q hq) wE_o_E rfl rfl rfl rfl (Nat.le_of_ble_eq_true rfl) rfl rfl ⟨Nat.le_of_ble_eq_true rfl, Nat.le_of_ble_eq_true rfl⟩ (fun v35 s35 hf => ?_)
          exact z_ireturn B dX7_advise_38 hf
        · exact tT_X7_advise_27 B N s5 x1 x2 hf
theorem dX7_write_0 : decode cX7_write 0 = .ok (.aload_n 0, 1) := by decide +kernel
theorem dX7_write_1 : decode cX7_write 1 = .ok (.getfield 26, 3) := by decide +kernel
theorem dX7_write_4 : decode cX7_write 4 = .ok (.iload_n 1, 1) := by decide +kernel
theorem dX7_write_5 : decode cX7_write 5 = .ok (.invokevirtual 87, 3) := by decide +kernel
theorem dX7_write_8 : decode cX7_write 8 = .ok (.ifCond .eq 13, 3) := by decide +kernel
theorem dX7_write_11 : decode cX7_write 11 = .ok (.iload_n 2, 1) := by decide +kernel
theorem dX7_write_12 : decode cX7_write 12 = .ok (.ifCond .lt 9, 3) := by decide +kernel
theorem dX7_write_15 : decode cX7_write 15 = .ok (.iload_n 2, 1) := by decide +kernel
theorem dX7_write_16 : decode cX7_write 16 = .ok (.ldc 95, 2) := by decide +kernel
theorem dX7_write_18 : decode cX7_write 18 = .ok (.if_icmp .lt 5, 3) := by decide +kernel
theorem dX7_write_21 : decode cX7_write 21 = .ok (.iconst (-1), 1) := by decide +kernel
theorem dX7_write_22 : decode cX7_write 22 = .ok (.ireturn, 1) := by decide +kernel
theorem dX7_write_23 : decode cX7_write 23 = .ok (.aload_n 0, 1) := by decide +kernel
theorem dX7_write_24 : decode cX7_write 24 = .ok (.getfield 12, 3) := by decide +kernel
theorem dX7_write_27 : decode cX7_write 27 = .ok (.iload_n 1, 1) := by decide +kernel
theorem dX7_write_28 : decode cX7_write 28 = .ok (.invokevirtual 76, 3) := by decide +kernel
theorem dX7_write_31 : decode cX7_write 31 = .ok (.istore_n 3, 1) := by decide +kernel
theorem dX7_write_32 : decode cX7_write 32 = .ok (.aload_n 0, 1) := by decide +kernel
theorem dX7_write_33 : decode cX7_write 33 = .ok (.getfield 12, 3) := by decide +kernel
theorem dX7_write_36 : decode cX7_write 36 = .ok (.iload_n 1, 1) := by decide +kernel
theorem dX7_write_37 : decode cX7_write 37 = .ok (.iload_n 2, 1) := by decide +kernel
theorem dX7_write_38 : decode cX7_write 38 = .ok (.invokevirtual 96, 3) := by decide +kernel
theorem dX7_write_41 : decode cX7_write 41 = .ok (.iload_n 3, 1) := by decide +kernel
theorem dX7_write_42 : decode cX7_write 42 = .ok (.ireturn, 1) := by decide +kernel
def mT_X7_write_21 (N : Nat) (σ : ST) (x1 : Int32) (x2 : Int32) : Option (Int32 × ST) :=
  some ((-1), σ)
set_option maxRecDepth 20000 in
set_option maxHeartbeats 2000000 in
theorem tT_X7_write_21 {adr : Nat → Nat} {cI cZ cS cD cE : ClassId} {tL tH : Nat} {X : zX} {q : Int32 × ST} (B : zC X 4 (wdT adr cI cZ cS cD cE tL tH) cX7_write RX7 (some .int) { frames := 1, cells := 0, slots := 0, locals := 22 }) (N : Nat) (σ : ST) (x1 : Int32) (x2 : Int32) (hf : mT_X7_write_21 N σ x1 x2 = some q) : zJ X 4 (wdT adr cI cZ cS cD cE tL tH) (zi q) 21 [(0, .ref (adr 600)), (1, .int x1), (2, .int x2)] [] σ := by
  refine z_iconst B (-1) dX7_write_21 zc_iconst_m1 ?_
  exact z_ireturn B dX7_write_22 hf
def mT_X7_write (N : Nat) (σ : ST) (x1 : Int32) (x2 : Int32) : Option (Int32 × ST) :=
  zCallL (mE_X2_hasBlock N ((pE 0 0) σ) x1) ((iE 0 0) σ) fun v5 s5 =>
  if (v5 : Int32) = 0 then
    mT_X7_write_21 N s5 x1 x2
  else
    if (x2 : Int32) < 0 then
      mT_X7_write_21 N s5 x1 x2
    else
      if (x2 : Int32) < (1000003) then
        zCallL (mE_X1_contentOf N ((pE 0 0) s5) x1) ((iE 0 0) s5) fun v28 s28 =>
        zCallLu (mE_X1_setContent N ((pE 0 0) s28) x1 x2) ((iE 0 0) s28) fun s38 =>
        some (v28, s38)
      else
        mT_X7_write_21 N s5 x1 x2
set_option maxRecDepth 20000 in
set_option maxHeartbeats 2000000 in
theorem cT_X7_write {adr : Nat → Nat} {cI cZ cS cD cE : ClassId} {tL tH : Nat} {l : Launch} {D : va_G} {N : Nat} {σ : ST} {x1 : Int32} {x2 : Int32} (q : Int32 × ST) (hf : mT_X7_write N σ x1 x2 = some q) : zM l D (wdT adr cI cZ cS cD cE tL tH) yX7_write cX7_write 4 (some .int) ({ frames := 1, cells := 0, slots := 0, locals := 22 }) [.ref (adr 600), .int x1, .int x2] σ (zi q) := by
  refine zM_of sfE_ok rfl (Nat.le_of_ble_eq_true rfl) [(0, .ref (adr 600)), (1, .int x1), (2, .int x2)] rfl (fun X hX1 hX2 B => ?_)
  have B : zC X 4 (wdT adr cI cZ cS cD cE tL tH) cX7_write RX7 (some .int) { frames := 1, cells := 0, slots := 0, locals := 22 } := B
  refine z_aload_n B dX7_write_0 0 rfl rfl ?_
  refine fT_g_P_now B dX7_write_1 ?_
  refine z_iload_n B dX7_write_4 1 rfl rfl ?_
  refine z_callVLi B (lE0 (adr := adr) (cI := cI) (cZ := cZ) (cS := cS) (cD := cD) (cE := cE) (tL := tL) (tH := tH)) (As := [.int x1]) kcV_X7_87 dX7_write_5 hf (fun q hq => cE_X2_hasBlock q hq) wE_o_E rfl rfl rfl rfl (Nat.le_of_ble_eq_true rfl) rfl rfl ⟨Nat.le_of_ble_eq_true rfl, Nat.le_of_ble_eq_true rfl⟩ (fun v5 s5 hf => ?_)
  refine z_if_eq B 21 dX7_write_8 (by decide) hf (fun hf => ?_) (fun hf => ?_)
  · exact tT_X7_write_21 B N s5 x1 x2 hf
  · refine z_iload_n B dX7_write_11 2 rfl rfl ?_
    refine z_if_lt B 21 dX7_write_12 (by decide) hf (fun hf => ?_) (fun hf => ?_)
    · exact tT_X7_write_21 B N s5 x1 x2 hf
    · refine z_iload_n B dX7_write_15 2 rfl rfl ?_
      refine z_ldc B kw_568 dX7_write_16 ?_
      refine z_icmp_lt B 23 dX7_write_18 (by decide) hf (fun hf => ?_) (fun hf => ?_)
      · refine z_aload_n B dX7_write_23 0 rfl rfl ?_
        refine fT_g_P_disk B dX7_write_24 ?_
        refine z_iload_n B dX7_write_27 1 rfl rfl ?_
        refine z_callVLi B (lE0 (adr := adr) (cI := cI) (cZ := cZ) (cS := cS) (cD := cD) (cE := cE) (tL := tL) (tH := tH)) (As := [.int x1]) kcV_X7_76 dX7_write_28 hf (fun q hq => cE_X1_contentOf q hq) wE_o_D rfl rfl rfl rfl (Nat.le_of_ble_eq_true rfl) rfl rfl ⟨Nat.le_of_ble_eq_true rfl, Nat.le_of_ble_eq_true rfl⟩ (fun v28 s28 hf => ?_)
        refine z_istore_n B [(3, .int v28), (0, .ref (adr 600)), (1, .int x1), (2, .int x2)] dX7_write_31 rfl (Nat.le_of_ble_eq_true rfl) rfl ?_
        refine z_aload_n B dX7_write_32 1 rfl rfl ?_
        refine fT_g_P_disk B dX7_write_33 ?_
        refine z_iload_n B dX7_write_36 2 rfl rfl ?_
        refine z_iload_n B dX7_write_37 3 rfl rfl ?_
        refine z_callVLu B (lE0 (adr := adr) (cI := cI) (cZ := cZ) (cS := cS) (cD := cD) (cE := cE) (tL := tL) (tH := tH)) (As := [.int x1, .int x2]) kcV_X7_96 dX7_write_38 hf (fun q hq => cE_X1_setContent q hq) wE_o_D rfl rfl rfl rfl (Nat.le_of_ble_eq_true rfl) rfl rfl ⟨Nat.le_of_ble_eq_true rfl, Nat.le_of_ble_eq_true rfl⟩ (fun s38 hf => ?_)
        refine z_iload_n B dX7_write_41 0 rfl rfl ?_
        exact z_ireturn B dX7_write_42 hf
      · exact tT_X7_write_21 B N s5 x1 x2 hf
theorem dX7_bad_0 : decode cX7_bad 0 = .ok (.aload_n 0, 1) := by decide +kernel
theorem dX7_bad_1 : decode cX7_bad 1 = .ok (.getfield 26, 3) := by decide +kernel
theorem dX7_bad_4 : decode cX7_bad 4 = .ok (.iload_n 1, 1) := by decide +kernel
theorem dX7_bad_5 : decode cX7_bad 5 = .ok (.invokevirtual 87, 3) := by decide +kernel
theorem dX7_bad_8 : decode cX7_bad 8 = .ok (.ifCond .eq 15, 3) := by decide +kernel
theorem dX7_bad_11 : decode cX7_bad 11 = .ok (.aload_n 0, 1) := by decide +kernel
theorem dX7_bad_12 : decode cX7_bad 12 = .ok (.getfield 12, 3) := by decide +kernel
theorem dX7_bad_15 : decode cX7_bad 15 = .ok (.iload_n 1, 1) := by decide +kernel
theorem dX7_bad_16 : decode cX7_bad 16 = .ok (.invokevirtual 99, 3) := by decide +kernel
theorem dX7_bad_19 : decode cX7_bad 19 = .ok (.iload_n 2, 1) := by decide +kernel
theorem dX7_bad_20 : decode cX7_bad 20 = .ok (.if_icmp .ne 5, 3) := by decide +kernel
theorem dX7_bad_23 : decode cX7_bad 23 = .ok (.iconst 0, 1) := by decide +kernel
theorem dX7_bad_24 : decode cX7_bad 24 = .ok (.ireturn, 1) := by decide +kernel
theorem dX7_bad_25 : decode cX7_bad 25 = .ok (.aload_n 0, 1) := by decide +kernel
theorem dX7_bad_26 : decode cX7_bad 26 = .ok (.getfield 12, 3) := by decide +kernel
theorem dX7_bad_29 : decode cX7_bad 29 = .ok (.iload_n 1, 1) := by decide +kernel
theorem dX7_bad_30 : decode cX7_bad 30 = .ok (.invokevirtual 102, 3) := by decide +kernel
theorem dX7_bad_33 : decode cX7_bad 33 = .ok (.iconst 1, 1) := by decide +kernel
theorem dX7_bad_34 : decode cX7_bad 34 = .ok (.ireturn, 1) := by decide +kernel
def mT_X7_bad_23 (N : Nat) (σ : ST) (x1 : Int32) (x2 : Int32) : Option (Int32 × ST) :=
  zBool (0) (some ((0), σ))
set_option maxRecDepth 20000 in
set_option maxHeartbeats 2000000 in
theorem tT_X7_bad_23 {adr : Nat → Nat} {cI cZ cS cD cE : ClassId} {tL tH : Nat} {X : zX} {q : Int32 × ST} (B : zC X 3 (wdT adr cI cZ cS cD cE tL tH) cX7_bad RX7 (some .boolean) { frames := 1, cells := 0, slots := 0, locals := 21 }) (N : Nat) (σ : ST) (x1 : Int32) (x2 : Int32) (hf : mT_X7_bad_23 N σ x1 x2 = some q) : zJ X 3 (wdT adr cI cZ cS cD cE tL tH) (zi q) 23 [(0, .ref (adr 600)), (1, .int x1), (2, .int x2)] [] σ := by
  refine z_iconst B (0) dX7_bad_23 zc_iconst_0 ?_
  exact z_zreturn B dX7_bad_24 hf
def mT_X7_bad (N : Nat) (σ : ST) (x1 : Int32) (x2 : Int32) : Option (Int32 × ST) :=
  zCallL (mE_X2_hasBlock N ((pE 0 0) σ) x1) ((iE 0 0) σ) fun v5 s5 =>
  if (v5 : Int32) = 0 then
    mT_X7_bad_23 N s5 x1 x2
  else
    zCallL (mE_X1_isBad N ((pE 0 0) s5) x1) ((iE 0 0) s5) fun v16 s16 =>
    if (v16 : Int32) = x2 then
      mT_X7_bad_23 N s16 x1 x2
    else
      zCallLu (mE_X1_turn N ((pE 0 0) s16) x1) ((iE 0 0) s16) fun s30 =>
      zBool (1) (some ((1), s30))
set_option maxRecDepth 20000 in
set_option maxHeartbeats 2000000 in
theorem cT_X7_bad {adr : Nat → Nat} {cI cZ cS cD cE : ClassId} {tL tH : Nat} {l : Launch} {D : va_G} {N : Nat} {σ : ST} {x1 : Int32} {x2 : Int32} (q : Int32 × ST) (hf : mT_X7_bad N σ x1 x2 = some q) : zM l D (wdT adr cI cZ cS cD cE tL tH) yX7_bad cX7_bad 3 (some .boolean) ({ frames := 1, cells := 0, slots := 0, locals := 21 }) [.ref (adr 600), .int x1, .int x2] σ (zi q) := by
  refine zM_of sfE_ok rfl (Nat.le_of_ble_eq_true rfl) [(0, .ref (adr 600)), (1, .int x1), (2, .int x2)] rfl (fun X hX1 hX2 B => ?_)
  have B : zC X 3 (wdT adr cI cZ cS cD cE tL tH) cX7_bad RX7 (some .boolean) { frames := 1, cells := 0, slots := 0, locals := 21 } := B
  refine z_aload_n B dX7_bad_0 0 rfl rfl ?_
  refine fT_g_P_now B dX7_bad_1 ?_
  refine z_iload_n B dX7_bad_4 1 rfl rfl ?_
  refine z_callVLi B (lE0 (adr := adr) (cI := cI) (cZ := cZ) (cS := cS) (cD := cD) (cE := cE) (tL := tL) (tH := tH)) (As := [.int x1]) kcV_X7_87 dX7_bad_5 hf (fun q hq => cE_X2_hasBlock q hq) wE_o_E rfl rfl rfl rfl (Nat.le_of_ble_eq_true rfl) rfl rfl ⟨Nat.le_of_ble_eq_true rfl, Nat.le_of_ble_eq_true rfl⟩ (fun v5 s5 hf => ?_)
  refine z_if_eq B 23 dX7_bad_8 (by decide) hf (fun hf => ?_) (fun hf => ?_)
  · exact tT_X7_bad_23 B N s5 x1 x2 hf
  · refine z_aload_n B dX7_bad_11 0 rfl rfl ?_
    refine fT_g_P_disk B dX7_bad_12 ?_
    refine z_iload_n B dX7_bad_15 1 rfl rfl ?_
    refine z_callVLi B (lE0 (adr := adr) (cI := cI) (cZ := cZ) (cS := cS) (cD := cD) (cE := cE) (tL := tL) (tH := tH)) (As := [.int x1]) kcV_X7_99 dX7_bad_16 hf (fun q hq => cE_X1_isBad q hq) wE_o_D rfl rfl rfl rfl (Nat.le_of_ble_eq_true rfl) rfl rfl ⟨Nat.le_of_ble_eq_true rfl, Nat.le_of_ble_eq_true rfl⟩ (fun v16 s16 hf => ?_)
    refine z_iload_n B dX7_bad_19 2 rfl rfl ?_
    refine z_icmp_ne B 25 dX7_bad_20 (by decide) hf (fun hf => ?_) (fun hf => ?_)
    · refine z_aload_n B dX7_bad_25 0 rfl rfl ?_
      refine fT_g_P_disk B dX7_bad_26 ?_
      refine z_iload_n B dX7_bad_29 1 rfl rfl ?_
      refine z_callVLu B (lE0 (adr := adr) (cI := cI) (cZ := cZ) (cS := cS) (cD := cD) (cE := cE) (tL := tL) (tH := tH)) (As := [.int x1]) kcV_X7_102 dX7_bad_30 hf (fun q hq => cE_X1_turn q hq) wE_o_D rfl rfl rfl rfl (Nat.le_of_ble_eq_true rfl) rfl rfl ⟨Nat.le_of_ble_eq_true rfl, Nat.le_of_ble_eq_true rfl⟩ (fun s30 hf => ?_)
      refine z_iconst B (1) dX7_bad_33 zc_iconst_1 ?_
      exact z_zreturn B dX7_bad_34 hf
    · exact tT_X7_bad_23 B N s16 x1 x2 hf
theorem dX7_drop_0 : decode cX7_drop 0 = .ok (.aload_n 0, 1) := by decide +kernel
theorem dX7_drop_1 : decode cX7_drop 1 = .ok (.getfield 26, 3) := by decide +kernel
theorem dX7_drop_4 : decode cX7_drop 4 = .ok (.getfield 106, 3) := by decide +kernel
theorem dX7_drop_7 : decode cX7_drop 7 = .ok (.iload_n 1, 1) := by decide +kernel
theorem dX7_drop_8 : decode cX7_drop 8 = .ok (.invokevirtual 110, 3) := by decide +kernel
theorem dX7_drop_11 : decode cX7_drop 11 = .ok (.istore_n 2, 1) := by decide +kernel
theorem dX7_drop_12 : decode cX7_drop 12 = .ok (.iload_n 2, 1) := by decide +kernel
theorem dX7_drop_13 : decode cX7_drop 13 = .ok (.iconst (-1), 1) := by decide +kernel
theorem dX7_drop_14 : decode cX7_drop 14 = .ok (.if_icmp .ne 5, 3) := by decide +kernel
theorem dX7_drop_17 : decode cX7_drop 17 = .ok (.iconst 0, 1) := by decide +kernel
theorem dX7_drop_18 : decode cX7_drop 18 = .ok (.ireturn, 1) := by decide +kernel
theorem dX7_drop_19 : decode cX7_drop 19 = .ok (.aload_n 0, 1) := by decide +kernel
theorem dX7_drop_20 : decode cX7_drop 20 = .ok (.getfield 26, 3) := by decide +kernel
theorem dX7_drop_23 : decode cX7_drop 23 = .ok (.getfield 106, 3) := by decide +kernel
theorem dX7_drop_26 : decode cX7_drop 26 = .ok (.iload_n 2, 1) := by decide +kernel
theorem dX7_drop_27 : decode cX7_drop 27 = .ok (.invokevirtual 115, 3) := by decide +kernel
theorem dX7_drop_30 : decode cX7_drop 30 = .ok (.istore_n 3, 1) := by decide +kernel
theorem dX7_drop_31 : decode cX7_drop 31 = .ok (.iload_n 3, 1) := by decide +kernel
theorem dX7_drop_32 : decode cX7_drop 32 = .ok (.iconst (-1), 1) := by decide +kernel
theorem dX7_drop_33 : decode cX7_drop 33 = .ok (.if_icmp .eq 11, 3) := by decide +kernel
theorem dX7_drop_36 : decode cX7_drop 36 = .ok (.aload_n 0, 1) := by decide +kernel
theorem dX7_drop_37 : decode cX7_drop 37 = .ok (.getfield 26, 3) := by decide +kernel
theorem dX7_drop_40 : decode cX7_drop 40 = .ok (.iload_n 3, 1) := by decide +kernel
theorem dX7_drop_41 : decode cX7_drop 41 = .ok (.invokevirtual 118, 3) := by decide +kernel
theorem dX7_drop_44 : decode cX7_drop 44 = .ok (.iconst 1, 1) := by decide +kernel
theorem dX7_drop_45 : decode cX7_drop 45 = .ok (.ireturn, 1) := by decide +kernel
def mT_X7_drop_44 (N : Nat) (σ : ST) (x1 : Int32) (x2 : Int32) (x3 : Int32) : Option (Int32 × ST) :=
  zBool (1) (some ((1), σ))
set_option maxRecDepth 20000 in
set_option maxHeartbeats 2000000 in
theorem tT_X7_drop_44 {adr : Nat → Nat} {cI cZ cS cD cE : ClassId} {tL tH : Nat} {X : zX} {q : Int32 × ST} (B : zC X 4 (wdT adr cI cZ cS cD cE tL tH) cX7_drop RX7 (some .boolean) { frames := 3, cells := 0, slots := 0, locals := 70 }) (N : Nat) (σ : ST) (x1 : Int32) (x2 : Int32) (x3 : Int32) (hf : mT_X7_drop_44 N σ x1 x2 x3 = some q) : zJ X 4 (wdT adr cI cZ cS cD cE tL tH) (zi q) 44 [(0, .ref (adr 600)), (1, .int x1), (2, .int x2), (3, .int x3)] [] σ := by
  refine z_iconst B (1) dX7_drop_44 zc_iconst_1 ?_
  exact z_zreturn B dX7_drop_45 hf
def mT_X7_drop (N : Nat) (σ : ST) (x1 : Int32) : Option (Int32 × ST) :=
  zCallL (mE_X0_slotOf N ((pE 0 0) σ) x1) ((iE 0 0) σ) fun v8 s8 =>
  if (v8 : Int32) = (-1) then
    zBool (0) (some ((0), s8))
  else
    zCallL (mE_X0_takeOut N ((pE 0 0) s8) v8) ((iE 0 0) s8) fun v27 s27 =>
    if (v27 : Int32) = (-1) then
      mT_X7_drop_44 N s27 x1 v8 v27
    else
      zCallLu (mE_X2_waste N ((pE 0 0) s27) v27) ((iE 0 0) s27) fun s41 =>
      mT_X7_drop_44 N s41 x1 v8 v27
set_option maxRecDepth 20000 in
set_option maxHeartbeats 2000000 in
theorem cT_X7_drop {adr : Nat → Nat} {cI cZ cS cD cE : ClassId} {tL tH : Nat} {l : Launch} {D : va_G} {N : Nat} {σ : ST} {x1 : Int32} (q : Int32 × ST) (hf : mT_X7_drop N σ x1 = some q) : zM l D (wdT adr cI cZ cS cD cE tL tH) yX7_drop cX7_drop 4 (some .boolean) ({ frames := 3, cells := 0, slots := 0, locals := 70 }) [.ref (adr 600), .int x1] σ (zi q) := by
  refine zM_of sfE_ok rfl (Nat.le_of_ble_eq_true rfl) [(0, .ref (adr 600)), (1, .int x1)] rfl (fun X hX1 hX2 B => ?_)
  have B : zC X 4 (wdT adr cI cZ cS cD cE tL tH) cX7_drop RX7 (some .boolean) { frames := 3, cells := 0, slots := 0, locals := 70 } := B
  refine z_aload_n B dX7_drop_0 0 rfl rfl ?_
  refine fT_g_P_now B dX7_drop_1 ?_
  refine fT_g_E0_cache B dX7_drop_4 ?_
  refine z_iload_n B dX7_drop_7 1 rfl rfl ?_
  refine z_callVLi B (lE0 (adr := adr) (cI := cI) (cZ := cZ) (cS := cS) (cD := cD) (cE := cE) (tL := tL) (tH := tH)) (As := [.int x1]) kcV_X7_110 dX7_drop_8 hf (fun q hq => cE_X0_slotOf q hq) wE_o_C rfl rfl rfl rfl (Nat.le_of_ble_eq_true rfl) rfl rfl ⟨Nat.le_of_ble_eq_true rfl, Nat.le_of_ble_eq_true rfl⟩ (fun v8 s8 hf => ?_)
  refine z_istore_n B [(2, .int v8), (0, .ref (adr 600)), (1, .int x1)] dX7_drop_11 rfl (Nat.le_of_ble_eq_true rfl) rfl ?_
  refine z_iload_n B dX7_drop_12 0 rfl rfl ?_
  refine z_iconst B (-1) dX7_drop_13 zc_iconst_m1 ?_
  refine z_icmp_ne B 19 dX7_drop_14 (by decide) hf (fun hf => ?_) (fun hf => ?_)
  · refine z_aload_n B dX7_drop_19 1 rfl rfl ?_
    refine fT_g_P_now B dX7_drop_20 ?_
    refine fT_g_E0_cache B dX7_drop_23 ?_
    refine z_iload_n B dX7_drop_26 0 rfl rfl ?_
    refine z_callVLi B (lE0 (adr := adr) (cI := cI) (cZ := cZ) (cS := cS) (cD := cD) (cE := cE) (tL := tL) (tH := tH)) (As := [.int v8]) kcV_X7_115 dX7_drop_27 hf (fun q hq => cE_X0_takeOut q hq) wE_o_C rfl rfl rfl rfl (Nat.le_of_ble_eq_true rfl) rfl rfl ⟨Nat.le_of_ble_eq_true rfl, Nat.le_of_ble_eq_true rfl⟩ (fun v27 s27 hf => ?_)
    refine z_istore_n B [(3, .int v27), (2, .int v8), (0, .ref (adr 600)), (1, .int x1)] dX7_drop_30 rfl (Nat.le_of_ble_eq_true rfl) rfl ?_
    refine z_iload_n B dX7_drop_31 0 rfl rfl ?_
    refine z_iconst B (-1) dX7_drop_32 zc_iconst_m1 ?_
    refine z_icmp_eq B 44 dX7_drop_33 (by decide) hf (fun hf => ?_) (fun hf => ?_)
    · exact z_loc [2, 3, 1, 0] _ rfl (tT_X7_drop_44 B N s27 x1 v8 v27 hf)
    · refine z_aload_n B dX7_drop_36 2 rfl rfl ?_
      refine fT_g_P_now B dX7_drop_37 ?_
      refine z_iload_n B dX7_drop_40 0 rfl rfl ?_
      refine z_callVLu B (lE0 (adr := adr) (cI := cI) (cZ := cZ) (cS := cS) (cD := cD) (cE := cE) (tL := tL) (tH := tH)) (As := [.int v27]) kcV_X7_118 dX7_drop_41 hf (fun q hq => cE_X2_waste q hq) wE_o_E rfl rfl rfl rfl (Nat.le_of_ble_eq_true rfl) rfl rfl ⟨Nat.le_of_ble_eq_true rfl, Nat.le_of_ble_eq_true rfl⟩ (fun s41 hf => ?_)
      exact z_loc [2, 3, 1, 0] _ rfl (tT_X7_drop_44 B N s41 x1 v8 v27 hf)
  · refine z_iconst B (0) dX7_drop_17 zc_iconst_0 ?_
    exact z_zreturn B dX7_drop_18 hf
theorem dX7_stop_0 : decode cX7_stop 0 = .ok (.aload_n 0, 1) := by decide +kernel
theorem dX7_stop_1 : decode cX7_stop 1 = .ok (.getfield 26, 3) := by decide +kernel
theorem dX7_stop_4 : decode cX7_stop 4 = .ok (.iload_n 1, 1) := by decide +kernel
theorem dX7_stop_5 : decode cX7_stop 5 = .ok (.invokevirtual 121, 3) := by decide +kernel
theorem dX7_stop_8 : decode cX7_stop 8 = .ok (.astore_n 2, 1) := by decide +kernel
theorem dX7_stop_9 : decode cX7_stop 9 = .ok (.aload_n 2, 1) := by decide +kernel
theorem dX7_stop_10 : decode cX7_stop 10 = .ok (.ifnonnull 5, 3) := by decide +kernel
theorem dX7_stop_13 : decode cX7_stop 13 = .ok (.iconst (-1), 1) := by decide +kernel
theorem dX7_stop_14 : decode cX7_stop 14 = .ok (.ireturn, 1) := by decide +kernel
theorem dX7_stop_15 : decode cX7_stop 15 = .ok (.aload_n 2, 1) := by decide +kernel
theorem dX7_stop_16 : decode cX7_stop 16 = .ok (.getfield 125, 3) := by decide +kernel
theorem dX7_stop_19 : decode cX7_stop 19 = .ok (.istore_n 3, 1) := by decide +kernel
theorem dX7_stop_20 : decode cX7_stop 20 = .ok (.aload_n 2, 1) := by decide +kernel
theorem dX7_stop_21 : decode cX7_stop 21 = .ok (.invokevirtual 131, 3) := by decide +kernel
theorem dX7_stop_24 : decode cX7_stop 24 = .ok (.iload_n 3, 1) := by decide +kernel
theorem dX7_stop_25 : decode cX7_stop 25 = .ok (.ireturn, 1) := by decide +kernel
def mT_X7_stop (N : Nat) (σ : ST) (x1 : Int32) : Option (Int32 × ST) :=
  zCallLq (mE_X2_streamAt N ((pE 0 0) σ) x1) ((iE 0 0) σ) fun v5 s5 =>
  match v5 with
  | none =>
      some ((-1), s5)
  | some p10 =>
      zLet (pE 0 0 s5 (12 + (p10).val) 0) fun v16 =>
      zCallLu (mE_X4_leave N ((pE 0 0) s5) p10) ((iE 0 0) s5) fun s21 =>
      some (v16, s21)
set_option maxRecDepth 20000 in
set_option maxHeartbeats 2000000 in
theorem cT_X7_stop {adr : Nat → Nat} {cI cZ cS cD cE : ClassId} {tL tH : Nat} {l : Launch} {D : va_G} {N : Nat} {σ : ST} {x1 : Int32} (q : Int32 × ST) (hf : mT_X7_stop N σ x1 = some q) : zM l D (wdT adr cI cZ cS cD cE tL tH) yX7_stop cX7_stop 4 (some .int) ({ frames := 1, cells := 0, slots := 0, locals := 21 }) [.ref (adr 600), .int x1] σ (zi q) := by
  refine zM_of sfE_ok rfl (Nat.le_of_ble_eq_true rfl) [(0, .ref (adr 600)), (1, .int x1)] rfl (fun X hX1 hX2 B => ?_)
  have B : zC X 4 (wdT adr cI cZ cS cD cE tL tH) cX7_stop RX7 (some .int) { frames := 1, cells := 0, slots := 0, locals := 21 } := B
  refine z_aload_n B dX7_stop_0 0 rfl rfl ?_
  refine fT_g_P_now B dX7_stop_1 ?_
  refine z_iload_n B dX7_stop_4 1 rfl rfl ?_
  refine z_callVLq B (lE0 (adr := adr) (cI := cI) (cZ := cZ) (cS := cS) (cD := cD) (cE := cE) (tL := tL) (tH := tH)) (adr := a0 adr) (As := [.int x1]) kcV_X7_121 dX7_stop_5 hf (fun q hq => cE_X2_streamAt q hq) wE_o_E rfl rfl rfl rfl (Nat.le_of_ble_eq_true rfl) rfl rfl ⟨Nat.le_of_ble_eq_true rfl, Nat.le_of_ble_eq_true rfl⟩ (fun v5 s5 hf => ?_)
  refine z_astore_nq B [(2, zq (a0 adr) v5), (0, .ref (adr 600)), (1, .int x1)] dX7_stop_8 rfl (Nat.le_of_ble_eq_true rfl) rfl ?_
  refine z_aload_nq B dX7_stop_9 0 rfl rfl ?_
  cases v5 with
  | none =>
    refine z_ifnonnull_N B dX7_stop_10 ?_
    refine z_iconst B (-1) dX7_stop_13 zc_iconst_m1 ?_
    exact z_ireturn B dX7_stop_14 hf
  | some p10 =>
    refine z_ifnonnull_S B 15 dX7_stop_10 (by decide) ?_
    refine z_aload_n B dX7_stop_15 0 rfl rfl ?_
    refine fT_g_S_number B p10 dX7_stop_16 hf (fun v16 hf => ?_)
    refine z_istore_n B [(3, .int v16), (2, .ref (a0 adr (12 + (p10).val))), (0, .ref (adr 600)), (1, .int x1)] dX7_stop_19 rfl (Nat.le_of_ble_eq_true rfl) rfl ?_
    refine z_aload_n B dX7_stop_20 1 rfl rfl ?_
    refine z_callVLu B (lE0 (adr := adr) (cI := cI) (cZ := cZ) (cS := cS) (cD := cD) (cE := cE) (tL := tL) (tH := tH)) (As := []) kcV_X7_131 dX7_stop_21 hf (fun q hq => cE_X4_leave q hq) (wE_o_S p10) rfl rfl rfl rfl (Nat.le_of_ble_eq_true rfl) rfl rfl ⟨Nat.le_of_ble_eq_true rfl, Nat.le_of_ble_eq_true rfl⟩ (fun s21 hf => ?_)
    refine z_iload_n B dX7_stop_24 0 rfl rfl ?_
    exact z_ireturn B dX7_stop_25 hf
theorem dX7_keep_0 : decode cX7_keep 0 = .ok (.iload_n 1, 1) := by decide +kernel
theorem dX7_keep_1 : decode cX7_keep 1 = .ok (.ifCond .lt 8, 3) := by decide +kernel
theorem dX7_keep_4 : decode cX7_keep 4 = .ok (.iload_n 1, 1) := by decide +kernel
theorem dX7_keep_5 : decode cX7_keep 5 = .ok (.iconst 2, 1) := by decide +kernel
theorem dX7_keep_6 : decode cX7_keep 6 = .ok (.if_icmp .lt 5, 3) := by decide +kernel
theorem dX7_keep_9 : decode cX7_keep 9 = .ok (.iconst 0, 1) := by decide +kernel
theorem dX7_keep_10 : decode cX7_keep 10 = .ok (.ireturn, 1) := by decide +kernel
theorem dX7_keep_11 : decode cX7_keep 11 = .ok (.aload_n 0, 1) := by decide +kernel
theorem dX7_keep_12 : decode cX7_keep 12 = .ok (.getfield 46, 3) := by decide +kernel
theorem dX7_keep_15 : decode cX7_keep 15 = .ok (.iload_n 1, 1) := by decide +kernel
theorem dX7_keep_16 : decode cX7_keep 16 = .ok (.aaload, 1) := by decide +kernel
theorem dX7_keep_17 : decode cX7_keep 17 = .ok (.aload_n 0, 1) := by decide +kernel
theorem dX7_keep_18 : decode cX7_keep 18 = .ok (.getfield 12, 3) := by decide +kernel
theorem dX7_keep_21 : decode cX7_keep 21 = .ok (.invokevirtual 134, 3) := by decide +kernel
theorem dX7_keep_24 : decode cX7_keep 24 = .ok (.aload_n 0, 1) := by decide +kernel
theorem dX7_keep_25 : decode cX7_keep 25 = .ok (.getfield 50, 3) := by decide +kernel
theorem dX7_keep_28 : decode cX7_keep 28 = .ok (.iload_n 1, 1) := by decide +kernel
theorem dX7_keep_29 : decode cX7_keep 29 = .ok (.aaload, 1) := by decide +kernel
theorem dX7_keep_30 : decode cX7_keep 30 = .ok (.aload_n 0, 1) := by decide +kernel
theorem dX7_keep_31 : decode cX7_keep 31 = .ok (.getfield 26, 3) := by decide +kernel
theorem dX7_keep_34 : decode cX7_keep 34 = .ok (.invokevirtual 137, 3) := by decide +kernel
theorem dX7_keep_37 : decode cX7_keep 37 = .ok (.aload_n 0, 1) := by decide +kernel
theorem dX7_keep_38 : decode cX7_keep 38 = .ok (.getfield 54, 3) := by decide +kernel
theorem dX7_keep_41 : decode cX7_keep 41 = .ok (.iload_n 1, 1) := by decide +kernel
theorem dX7_keep_42 : decode cX7_keep 42 = .ok (.iconst 1, 1) := by decide +kernel
theorem dX7_keep_43 : decode cX7_keep 43 = .ok (.bastore, 1) := by decide +kernel
theorem dX7_keep_44 : decode cX7_keep 44 = .ok (.iconst 1, 1) := by decide +kernel
theorem dX7_keep_45 : decode cX7_keep 45 = .ok (.ireturn, 1) := by decide +kernel
def mT_X7_keep_9 (N : Nat) (σ : ST) (x1 : Int32) : Option (Int32 × ST) :=
  zBool (0) (some ((0), σ))
set_option maxRecDepth 20000 in
set_option maxHeartbeats 2000000 in
theorem tT_X7_keep_9 {adr : Nat → Nat} {cI cZ cS cD cE : ClassId} {tL tH : Nat} {X : zX} {q : Int32 × ST} (B : zC X 2 (wdT adr cI cZ cS cD cE tL tH) cX7_keep RX7 (some .boolean) { frames := 4, cells := 0, slots := 0, locals := 87 }) (N : Nat) (σ : ST) (x1 : Int32) (hf : mT_X7_keep_9 N σ x1 = some q) : zJ X 2 (wdT adr cI cZ cS cD cE tL tH) (zi q) 9 [(0, .ref (adr 600)), (1, .int x1)] [] σ := by
  refine z_iconst B (0) dX7_keep_9 zc_iconst_0 ?_
  exact z_zreturn B dX7_keep_10 hf
def mT_X7_keep (N : Nat) (σ : ST) (x1 : Int32) : Option (Int32 × ST) :=
  if (x1 : Int32) < 0 then
    mT_X7_keep_9 N σ x1
  else
    if (x1 : Int32) < (2) then
      if (x1 : Int32) = 0 then
        zCallLu (mV_X1_copyFrom N ((pV 1 0) σ)) ((iV 1 0) σ) fun s21 =>
        if (x1 : Int32) = 0 then
          zCallLu (mY_X2_copyFrom N ((pY 2 0) s21)) ((iY 2 0) s21) fun s34 =>
          zSet s34 603 2 x1 (vp_nar .boolean (1)) fun s43 =>
          zBool (1) (some ((1), s43))
        else if (x1 : Int32) = 1 then
          zCallLu (mY_X2_copyFrom N ((pY 3 0) s21)) ((iY 3 0) s21) fun s34 =>
          zSet s34 603 2 x1 (vp_nar .boolean (1)) fun s43 =>
          zBool (1) (some ((1), s43))
        else none
      else if (x1 : Int32) = 1 then
        zCallLu (mV_X1_copyFrom N ((pV 2 0) σ)) ((iV 2 0) σ) fun s21 =>
        if (x1 : Int32) = 0 then
          zCallLu (mY_X2_copyFrom N ((pY 2 0) s21)) ((iY 2 0) s21) fun s34 =>
          zSet s34 603 2 x1 (vp_nar .boolean (1)) fun s43 =>
          zBool (1) (some ((1), s43))
        else if (x1 : Int32) = 1 then
          zCallLu (mY_X2_copyFrom N ((pY 3 0) s21)) ((iY 3 0) s21) fun s34 =>
          zSet s34 603 2 x1 (vp_nar .boolean (1)) fun s43 =>
          zBool (1) (some ((1), s43))
        else none
      else none
    else
      mT_X7_keep_9 N σ x1
set_option maxRecDepth 20000 in
set_option maxHeartbeats 2000000 in
theorem cT_X7_keep {adr : Nat → Nat} {cI cZ cS cD cE : ClassId} {tL tH : Nat} {l : Launch} {D : va_G} {N : Nat} {σ : ST} {x1 : Int32} (q : Int32 × ST) (hf : mT_X7_keep N σ x1 = some q) : zM l D (wdT adr cI cZ cS cD cE tL tH) yX7_keep cX7_keep 2 (some .boolean) ({ frames := 4, cells := 0, slots := 0, locals := 87 }) [.ref (adr 600), .int x1] σ (zi q) := by
  refine zM_of sfE_ok rfl (Nat.le_of_ble_eq_true rfl) [(0, .ref (adr 600)), (1, .int x1)] rfl (fun X hX1 hX2 B => ?_)
  have B : zC X 2 (wdT adr cI cZ cS cD cE tL tH) cX7_keep RX7 (some .boolean) { frames := 4, cells := 0, slots := 0, locals := 87 } := B
  refine z_iload_n B dX7_keep_0 1 rfl rfl ?_
  refine z_if_lt B 9 dX7_keep_1 (by decide) hf (fun hf => ?_) (fun hf => ?_)
  · exact tT_X7_keep_9 B N σ x1 hf
  · refine z_iload_n B dX7_keep_4 1 rfl rfl ?_
    refine z_iconst B (2) dX7_keep_5 zc_iconst_2 ?_
    refine z_icmp_lt B 11 dX7_keep_6 (by decide) hf (fun hf => ?_) (fun hf => ?_)
    · refine z_aload_n B dX7_keep_11 0 rfl rfl ?_
      refine fT_g_P_keptDisks B dX7_keep_12 ?_
      refine z_iload_n B dX7_keep_15 1 rfl rfl ?_
      refine fT_KD B dX7_keep_16 hf (fun hf => ?_) (fun hf => ?_)
      · refine z_aload_n B dX7_keep_17 0 rfl rfl ?_
        refine fT_g_P_disk B dX7_keep_18 ?_
        refine z_callVLu B (lV10 (adr := adr) (cI := cI) (cZ := cZ) (cS := cS) (cD := cD) (cE := cE) (tL := tL) (tH := tH)) (As := [.ref (a0 adr 25)]) kcV_X7_134 dX7_keep_21 hf (fun q hq => cV_X1_copyFrom q hq) wV_o_D rfl rfl rfl rfl (Nat.le_of_ble_eq_true rfl) rfl rfl ⟨Nat.le_of_ble_eq_true rfl, Nat.le_of_ble_eq_true rfl⟩ (fun s21 hf => ?_)
        refine z_aload_n B dX7_keep_24 0 rfl rfl ?_
        refine fT_g_P_keptEngines B dX7_keep_25 ?_
        refine z_iload_n B dX7_keep_28 1 rfl rfl ?_
        refine fT_KE B dX7_keep_29 hf (fun hf => ?_) (fun hf => ?_)
        · refine z_aload_n B dX7_keep_30 0 rfl rfl ?_
          refine fT_g_P_now B dX7_keep_31 ?_
          refine z_callVLu B (lY20 (adr := adr) (cI := cI) (cZ := cZ) (cS := cS) (cD := cD) (cE := cE) (tL := tL) (tH := tH)) (As := [.ref (a0 adr 0)]) kcV_X7_137 dX7_keep_34 hf (fun q hq => cY_X2_copyFrom q hq) wY_o_E rfl rfl rfl rfl (Nat.le_of_ble_eq_true rfl) rfl rfl ⟨Nat.le_of_ble_eq_true rfl, Nat.le_of_ble_eq_true rfl⟩ (fun s34 hf => ?_)
          refine z_aload_n B dX7_keep_37 0 rfl rfl ?_
          refine fT_g_P_isKept B dX7_keep_38 ?_
          refine z_iload_n B dX7_keep_41 1 rfl rfl ?_
          refine z_iconst B (1) dX7_keep_42 zc_iconst_1 ?_
          refine fT_s_P_isKept B dX7_keep_43 hf (fun s43 hf => ?_)
          refine z_iconst B (1) dX7_keep_44 zc_iconst_1 ?_
          exact z_zreturn B dX7_keep_45 hf
        · refine z_aload_n B dX7_keep_30 0 rfl rfl ?_
          refine fT_g_P_now B dX7_keep_31 ?_
          refine z_callVLu B (lY30 (adr := adr) (cI := cI) (cZ := cZ) (cS := cS) (cD := cD) (cE := cE) (tL := tL) (tH := tH)) (As := [.ref (a0 adr 0)]) kcV_X7_137 dX7_keep_34 hf (fun q hq => cY_X2_copyFrom q hq) wY_o_E rfl rfl rfl rfl (Nat.le_of_ble_eq_true rfl) rfl rfl ⟨Nat.le_of_ble_eq_true rfl, Nat.le_of_ble_eq_true rfl⟩ (fun s34 hf => ?_)
          refine z_aload_n B dX7_keep_37 0 rfl rfl ?_
          refine fT_g_P_isKept B dX7_keep_38 ?_
          refine z_iload_n B dX7_keep_41 1 rfl rfl ?_
          refine z_iconst B (1) dX7_keep_42 zc_iconst_1 ?_
          refine fT_s_P_isKept B dX7_keep_43 hf (fun s43 hf => ?_)
          refine z_iconst B (1) dX7_keep_44 zc_iconst_1 ?_
          exact z_zreturn B dX7_keep_45 hf
      · refine z_aload_n B dX7_keep_17 0 rfl rfl ?_
        refine fT_g_P_disk B dX7_keep_18 ?_
        refine z_callVLu B (lV20 (adr := adr) (cI := cI) (cZ := cZ) (cS := cS) (cD := cD) (cE := cE) (tL := tL) (tH := tH)) (As := [.ref (a0 adr 25)]) kcV_X7_134 dX7_keep_21 hf (fun q hq => cV_X1_copyFrom q hq) wV_o_D rfl rfl rfl rfl (Nat.le_of_ble_eq_true rfl) rfl rfl ⟨Nat.le_of_ble_eq_true rfl, Nat.le_of_ble_eq_true rfl⟩ (fun s21 hf => ?_)
        refine z_aload_n B dX7_keep_24 0 rfl rfl ?_
        refine fT_g_P_keptEngines B dX7_keep_25 ?_
        refine z_iload_n B dX7_keep_28 1 rfl rfl ?_
        refine fT_KE B dX7_keep_29 hf (fun hf => ?_) (fun hf => ?_)
        · refine z_aload_n B dX7_keep_30 0 rfl rfl ?_
          refine fT_g_P_now B dX7_keep_31 ?_
          refine z_callVLu B (lY20 (adr := adr) (cI := cI) (cZ := cZ) (cS := cS) (cD := cD) (cE := cE) (tL := tL) (tH := tH)) (As := [.ref (a0 adr 0)]) kcV_X7_137 dX7_keep_34 hf (fun q hq => cY_X2_copyFrom q hq) wY_o_E rfl rfl rfl rfl (Nat.le_of_ble_eq_true rfl) rfl rfl ⟨Nat.le_of_ble_eq_true rfl, Nat.le_of_ble_eq_true rfl⟩ (fun s34 hf => ?_)
          refine z_aload_n B dX7_keep_37 0 rfl rfl ?_
          refine fT_g_P_isKept B dX7_keep_38 ?_
          refine z_iload_n B dX7_keep_41 1 rfl rfl ?_
          refine z_iconst B (1) dX7_keep_42 zc_iconst_1 ?_
          refine fT_s_P_isKept B dX7_keep_43 hf (fun s43 hf => ?_)
          refine z_iconst B (1) dX7_keep_44 zc_iconst_1 ?_
          exact z_zreturn B dX7_keep_45 hf
        · refine z_aload_n B dX7_keep_30 0 rfl rfl ?_
          refine fT_g_P_now B dX7_keep_31 ?_
          refine z_callVLu B (lY30 (adr := adr) (cI := cI) (cZ := cZ) (cS := cS) (cD := cD) (cE := cE) (tL := tL) (tH := tH)) (As := [.ref (a0 adr 0)]) kcV_X7_137 dX7_keep_34 hf (fun q hq => cY_X2_copyFrom q hq) wY_o_E rfl rfl rfl rfl (Nat.le_of_ble_eq_true rfl) rfl rfl ⟨Nat.le_of_ble_eq_true rfl, Nat.le_of_ble_eq_true rfl⟩ (fun s34 hf => ?_)
          refine z_aload_n B dX7_keep_37 0 rfl rfl ?_
          refine fT_g_P_isKept B dX7_keep_38 ?_
          refine z_iload_n B dX7_keep_41 1 rfl rfl ?_
          refine z_iconst B (1) dX7_keep_42 zc_iconst_1 ?_
          refine fT_s_P_isKept B dX7_keep_43 hf (fun s43 hf => ?_)
          refine z_iconst B (1) dX7_keep_44 zc_iconst_1 ?_
          exact z_zreturn B dX7_keep_45 hf
    · exact tT_X7_keep_9 B N σ x1 hf
theorem dX7_again_0 : decode cX7_again 0 = .ok (.iload_n 1, 1) := by decide +kernel
theorem dX7_again_1 : decode cX7_again 1 = .ok (.ifCond .lt 17, 3) := by decide +kernel
theorem dX7_again_4 : decode cX7_again 4 = .ok (.iload_n 1, 1) := by decide +kernel
theorem dX7_again_5 : decode cX7_again 5 = .ok (.iconst 2, 1) := by decide +kernel
theorem dX7_again_6 : decode cX7_again 6 = .ok (.if_icmp .ge 12, 3) := by decide +kernel
theorem dX7_again_9 : decode cX7_again 9 = .ok (.aload_n 0, 1) := by decide +kernel
theorem dX7_again_10 : decode cX7_again 10 = .ok (.getfield 54, 3) := by decide +kernel
theorem dX7_again_13 : decode cX7_again 13 = .ok (.iload_n 1, 1) := by decide +kernel
theorem dX7_again_14 : decode cX7_again 14 = .ok (.baload, 1) := by decide +kernel
theorem dX7_again_15 : decode cX7_again 15 = .ok (.ifCond .ne 5, 3) := by decide +kernel
theorem dX7_again_18 : decode cX7_again 18 = .ok (.iconst 0, 1) := by decide +kernel
theorem dX7_again_19 : decode cX7_again 19 = .ok (.ireturn, 1) := by decide +kernel
theorem dX7_again_20 : decode cX7_again 20 = .ok (.aload_n 0, 1) := by decide +kernel
theorem dX7_again_21 : decode cX7_again 21 = .ok (.getfield 12, 3) := by decide +kernel
theorem dX7_again_24 : decode cX7_again 24 = .ok (.aload_n 0, 1) := by decide +kernel
theorem dX7_again_25 : decode cX7_again 25 = .ok (.getfield 46, 3) := by decide +kernel
theorem dX7_again_28 : decode cX7_again 28 = .ok (.iload_n 1, 1) := by decide +kernel
theorem dX7_again_29 : decode cX7_again 29 = .ok (.aaload, 1) := by decide +kernel
theorem dX7_again_30 : decode cX7_again 30 = .ok (.invokevirtual 134, 3) := by decide +kernel
theorem dX7_again_33 : decode cX7_again 33 = .ok (.aload_n 0, 1) := by decide +kernel
theorem dX7_again_34 : decode cX7_again 34 = .ok (.getfield 26, 3) := by decide +kernel
theorem dX7_again_37 : decode cX7_again 37 = .ok (.aload_n 0, 1) := by decide +kernel
theorem dX7_again_38 : decode cX7_again 38 = .ok (.getfield 50, 3) := by decide +kernel
theorem dX7_again_41 : decode cX7_again 41 = .ok (.iload_n 1, 1) := by decide +kernel
theorem dX7_again_42 : decode cX7_again 42 = .ok (.aaload, 1) := by decide +kernel
theorem dX7_again_43 : decode cX7_again 43 = .ok (.invokevirtual 137, 3) := by decide +kernel
theorem dX7_again_46 : decode cX7_again 46 = .ok (.iconst 1, 1) := by decide +kernel
theorem dX7_again_47 : decode cX7_again 47 = .ok (.ireturn, 1) := by decide +kernel
def mT_X7_again_18 (N : Nat) (σ : ST) (x1 : Int32) : Option (Int32 × ST) :=
  zBool (0) (some ((0), σ))
set_option maxRecDepth 20000 in
set_option maxHeartbeats 2000000 in
theorem tT_X7_again_18 {adr : Nat → Nat} {cI cZ cS cD cE : ClassId} {tL tH : Nat} {X : zX} {q : Int32 × ST} (B : zC X 2 (wdT adr cI cZ cS cD cE tL tH) cX7_again RX7 (some .boolean) { frames := 4, cells := 0, slots := 0, locals := 87 }) (N : Nat) (σ : ST) (x1 : Int32) (hf : mT_X7_again_18 N σ x1 = some q) : zJ X 2 (wdT adr cI cZ cS cD cE tL tH) (zi q) 18 [(0, .ref (adr 600)), (1, .int x1)] [] σ := by
  refine z_iconst B (0) dX7_again_18 zc_iconst_0 ?_
  exact z_zreturn B dX7_again_19 hf
def mT_X7_again (N : Nat) (σ : ST) (x1 : Int32) : Option (Int32 × ST) :=
  if (x1 : Int32) < 0 then
    mT_X7_again_18 N σ x1
  else
    if ((2) : Int32) ≤ x1 then
      mT_X7_again_18 N σ x1
    else
      zGet (σ 603) 2 x1 fun v14 =>
      if (v14 : Int32) = 0 then
        mT_X7_again_18 N σ x1
      else
        if (x1 : Int32) = 0 then
          zCallLu (mV_X1_copyFrom N ((pV 0 1) σ)) ((iV 0 1) σ) fun s30 =>
          if (x1 : Int32) = 0 then
            zCallLu (mY_X2_copyFrom N ((pY 0 2) s30)) ((iY 0 2) s30) fun s43 =>
            zBool (1) (some ((1), s43))
          else if (x1 : Int32) = 1 then
            zCallLu (mY_X2_copyFrom N ((pY 0 3) s30)) ((iY 0 3) s30) fun s43 =>
            zBool (1) (some ((1), s43))
          else none
        else if (x1 : Int32) = 1 then
          zCallLu (mV_X1_copyFrom N ((pV 0 2) σ)) ((iV 0 2) σ) fun s30 =>
          if (x1 : Int32) = 0 then
            zCallLu (mY_X2_copyFrom N ((pY 0 2) s30)) ((iY 0 2) s30) fun s43 =>
            zBool (1) (some ((1), s43))
          else if (x1 : Int32) = 1 then
            zCallLu (mY_X2_copyFrom N ((pY 0 3) s30)) ((iY 0 3) s30) fun s43 =>
            zBool (1) (some ((1), s43))
          else none
        else none
set_option maxRecDepth 20000 in
set_option maxHeartbeats 2000000 in
theorem cT_X7_again {adr : Nat → Nat} {cI cZ cS cD cE : ClassId} {tL tH : Nat} {l : Launch} {D : va_G} {N : Nat} {σ : ST} {x1 : Int32} (q : Int32 × ST) (hf : mT_X7_again N σ x1 = some q) : zM l D (wdT adr cI cZ cS cD cE tL tH) yX7_again cX7_again 2 (some .boolean) ({ frames := 4, cells := 0, slots := 0, locals := 87 }) [.ref (adr 600), .int x1] σ (zi q) := by
  refine zM_of sfE_ok rfl (Nat.le_of_ble_eq_true rfl) [(0, .ref (adr 600)), (1, .int x1)] rfl (fun X hX1 hX2 B => ?_)
  have B : zC X 2 (wdT adr cI cZ cS cD cE tL tH) cX7_again RX7 (some .boolean) { frames := 4, cells := 0, slots := 0, locals := 87 } := B
  refine z_iload_n B dX7_again_0 1 rfl rfl ?_
  refine z_if_lt B 18 dX7_again_1 (by decide) hf (fun hf => ?_) (fun hf => ?_)
  · exact tT_X7_again_18 B N σ x1 hf
  · refine z_iload_n B dX7_again_4 1 rfl rfl ?_
    refine z_iconst B (2) dX7_again_5 zc_iconst_2 ?_
    refine z_icmp_ge B 18 dX7_again_6 (by decide) hf (fun hf => ?_) (fun hf => ?_)
    · exact tT_X7_again_18 B N σ x1 hf
    · refine z_aload_n B dX7_again_9 0 rfl rfl ?_
      refine fT_g_P_isKept B dX7_again_10 ?_
      refine z_iload_n B dX7_again_13 1 rfl rfl ?_
      refine fT_l_P_isKept B dX7_again_14 hf (fun v14 hf => ?_)
      refine z_if_ne B 20 dX7_again_15 (by decide) hf (fun hf => ?_) (fun hf => ?_)
      · refine z_aload_n B dX7_again_20 0 rfl rfl ?_
        refine fT_g_P_disk B dX7_again_21 ?_
        refine z_aload_n B dX7_again_24 0 rfl rfl ?_
        refine fT_g_P_keptDisks B dX7_again_25 ?_
        refine z_iload_n B dX7_again_28 1 rfl rfl ?_
        refine fT_KD B dX7_again_29 hf (fun hf => ?_) (fun hf => ?_)
        · refine z_callVLu B (lV01 (adr := adr) (cI := cI) (cZ := cZ) (cS := cS) (cD := cD) (cE := cE) (tL := tL) (tH := tH)) (As := [.ref (adr 402)]) kcV_X7_134 dX7_again_30 hf (fun q hq => cV_X1_copyFrom q hq) wV_o_D rfl rfl rfl rfl (Nat.le_of_ble_eq_true rfl) rfl rfl ⟨Nat.le_of_ble_eq_true rfl, Nat.le_of_ble_eq_true rfl⟩ (fun s30 hf => ?_)
          refine z_aload_n B dX7_again_33 0 rfl rfl ?_
          refine fT_g_P_now B dX7_again_34 ?_
          refine z_aload_n B dX7_again_37 0 rfl rfl ?_
          refine fT_g_P_keptEngines B dX7_again_38 ?_
          refine z_iload_n B dX7_again_41 1 rfl rfl ?_
          refine fT_KE B dX7_again_42 hf (fun hf => ?_) (fun hf => ?_)
          · refine z_callVLu B (lY02 (adr := adr) (cI := cI) (cZ := cZ) (cS := cS) (cD := cD) (cE := cE) (tL := tL) (tH := tH)) (As := [.ref (a2 adr 0)]) kcV_X7_137 dX7_again_43 hf (fun q hq => cY_X2_copyFrom q hq) wY_o_E rfl rfl rfl rfl (Nat.le_of_ble_eq_true rfl) rfl rfl ⟨Nat.le_of_ble_eq_true rfl, Nat.le_of_ble_eq_true rfl⟩ (fun s43 hf => ?_)
            refine z_iconst B (1) dX7_again_46 zc_iconst_1 ?_
            exact z_zreturn B dX7_again_47 hf
          · refine z_callVLu B (lY03 (adr := adr) (cI := cI) (cZ := cZ) (cS := cS) (cD := cD) (cE := cE) (tL := tL) (tH := tH)) (As := [.ref (a3 adr 0)]) kcV_X7_137 dX7_again_43 hf (fun q hq => cY_X2_copyFrom q hq) wY_o_E rfl rfl rfl rfl (Nat.le_of_ble_eq_true rfl) rfl rfl ⟨Nat.le_of_ble_eq_true rfl, Nat.le_of_ble_eq_true rfl⟩ (fun s43 hf => ?_)
            refine z_iconst B (1) dX7_again_46 zc_iconst_1 ?_
            exact z_zreturn B dX7_again_47 hf
        · refine z_callVLu B (lV02 (adr := adr) (cI := cI) (cZ := cZ) (cS := cS) (cD := cD) (cE := cE) (tL := tL) (tH := tH)) (As := [.ref (adr 404)]) kcV_X7_134 dX7_again_30 hf (fun q hq => cV_X1_copyFrom q hq) wV_o_D rfl rfl rfl rfl (Nat.le_of_ble_eq_true rfl) rfl rfl ⟨Nat.le_of_ble_eq_true rfl, Nat.le_of_ble_eq_true rfl⟩ (fun s30 hf => ?_)
          refine z_aload_n B dX7_again_33 0 rfl rfl ?_
          refine fT_g_P_now B dX7_again_34 ?_
          refine z_aload_n B dX7_again_37 0 rfl rfl ?_
          refine fT_g_P_keptEngines B dX7_again_38 ?_
          refine z_iload_n B dX7_again_41 1 rfl rfl ?_
          refine fT_KE B dX7_again_42 hf (fun hf => ?_) (fun hf => ?_)
          · refine z_callVLu B (lY02 (adr := adr) (cI := cI) (cZ := cZ) (cS := cS) (cD := cD) (cE := cE) (tL := tL) (tH := tH)) (As := [.ref (a2 adr 0)]) kcV_X7_137 dX7_again_43 hf (fun q hq => cY_X2_copyFrom q hq) wY_o_E rfl rfl rfl rfl (Nat.le_of_ble_eq_true rfl) rfl rfl ⟨Nat.le_of_ble_eq_true rfl, Nat.le_of_ble_eq_true rfl⟩ (fun s43 hf => ?_)
            refine z_iconst B (1) dX7_again_46 zc_iconst_1 ?_
            exact z_zreturn B dX7_again_47 hf
          · refine z_callVLu B (lY03 (adr := adr) (cI := cI) (cZ := cZ) (cS := cS) (cD := cD) (cE := cE) (tL := tL) (tH := tH)) (As := [.ref (a3 adr 0)]) kcV_X7_137 dX7_again_43 hf (fun q hq => cY_X2_copyFrom q hq) wY_o_E rfl rfl rfl rfl (Nat.le_of_ble_eq_true rfl) rfl rfl ⟨Nat.le_of_ble_eq_true rfl, Nat.le_of_ble_eq_true rfl⟩ (fun s43 hf => ?_)
            refine z_iconst B (1) dX7_again_46 zc_iconst_1 ?_
            exact z_zreturn B dX7_again_47 hf
      · exact tT_X7_again_18 B N σ x1 hf
theorem dX7_block_0 : decode cX7_block 0 = .ok (.aload_n 0, 1) := by decide +kernel
theorem dX7_block_1 : decode cX7_block 1 = .ok (.getfield 26, 3) := by decide +kernel
theorem dX7_block_4 : decode cX7_block 4 = .ok (.iload_n 1, 1) := by decide +kernel
theorem dX7_block_5 : decode cX7_block 5 = .ok (.invokevirtual 87, 3) := by decide +kernel
theorem dX7_block_8 : decode cX7_block 8 = .ok (.ifCond .ne 5, 3) := by decide +kernel
theorem dX7_block_11 : decode cX7_block 11 = .ok (.iconst (-1), 1) := by decide +kernel
theorem dX7_block_12 : decode cX7_block 12 = .ok (.ireturn, 1) := by decide +kernel
theorem dX7_block_13 : decode cX7_block 13 = .ok (.iload_n 2, 1) := by decide +kernel
theorem dX7_block_14 : decode cX7_block 14 = .ok (.ifCond .ne 12, 3) := by decide +kernel
theorem dX7_block_17 : decode cX7_block 17 = .ok (.aload_n 0, 1) := by decide +kernel
theorem dX7_block_18 : decode cX7_block 18 = .ok (.getfield 12, 3) := by decide +kernel
theorem dX7_block_21 : decode cX7_block 21 = .ok (.iload_n 1, 1) := by decide +kernel
theorem dX7_block_22 : decode cX7_block 22 = .ok (.invokevirtual 76, 3) := by decide +kernel
theorem dX7_block_25 : decode cX7_block 25 = .ok (.ireturn, 1) := by decide +kernel
theorem dX7_block_26 : decode cX7_block 26 = .ok (.iload_n 2, 1) := by decide +kernel
theorem dX7_block_27 : decode cX7_block 27 = .ok (.iconst 5, 1) := by decide +kernel
theorem dX7_block_28 : decode cX7_block 28 = .ok (.if_icmp .ne 20, 3) := by decide +kernel
theorem dX7_block_31 : decode cX7_block 31 = .ok (.aload_n 0, 1) := by decide +kernel
theorem dX7_block_32 : decode cX7_block 32 = .ok (.getfield 12, 3) := by decide +kernel
theorem dX7_block_35 : decode cX7_block 35 = .ok (.iload_n 1, 1) := by decide +kernel
theorem dX7_block_36 : decode cX7_block 36 = .ok (.invokevirtual 99, 3) := by decide +kernel
theorem dX7_block_39 : decode cX7_block 39 = .ok (.ifCond .eq 7, 3) := by decide +kernel
theorem dX7_block_42 : decode cX7_block 42 = .ok (.iconst 1, 1) := by decide +kernel
theorem dX7_block_43 : decode cX7_block 43 = .ok (.goto 4, 3) := by decide +kernel
theorem dX7_block_46 : decode cX7_block 46 = .ok (.iconst 0, 1) := by decide +kernel
theorem dX7_block_47 : decode cX7_block 47 = .ok (.ireturn, 1) := by decide +kernel
theorem dX7_block_48 : decode cX7_block 48 = .ok (.aload_n 0, 1) := by decide +kernel
theorem dX7_block_49 : decode cX7_block 49 = .ok (.getfield 26, 3) := by decide +kernel
theorem dX7_block_52 : decode cX7_block 52 = .ok (.getfield 106, 3) := by decide +kernel
theorem dX7_block_55 : decode cX7_block 55 = .ok (.iload_n 1, 1) := by decide +kernel
theorem dX7_block_56 : decode cX7_block 56 = .ok (.invokevirtual 110, 3) := by decide +kernel
theorem dX7_block_59 : decode cX7_block 59 = .ok (.istore_n 3, 1) := by decide +kernel
theorem dX7_block_60 : decode cX7_block 60 = .ok (.iload_n 3, 1) := by decide +kernel
theorem dX7_block_61 : decode cX7_block 61 = .ok (.iconst (-1), 1) := by decide +kernel
theorem dX7_block_62 : decode cX7_block 62 = .ok (.if_icmp .ne 5, 3) := by decide +kernel
theorem dX7_block_65 : decode cX7_block 65 = .ok (.iconst (-1), 1) := by decide +kernel
theorem dX7_block_66 : decode cX7_block 66 = .ok (.ireturn, 1) := by decide +kernel
theorem dX7_block_67 : decode cX7_block 67 = .ok (.iload_n 2, 1) := by decide +kernel
theorem dX7_block_68 : decode cX7_block 68 = .ok (.tableswitch 143 1 7 #[44, 53, 66, 87, 143, 100, 113], 44) := by decide +kernel
theorem dX7_block_112 : decode cX7_block 112 = .ok (.aload_n 0, 1) := by decide +kernel
theorem dX7_block_113 : decode cX7_block 113 = .ok (.getfield 12, 3) := by decide +kernel
theorem dX7_block_116 : decode cX7_block 116 = .ok (.iload_n 1, 1) := by decide +kernel
theorem dX7_block_117 : decode cX7_block 117 = .ok (.invokevirtual 76, 3) := by decide +kernel
theorem dX7_block_120 : decode cX7_block 120 = .ok (.ireturn, 1) := by decide +kernel
theorem dX7_block_121 : decode cX7_block 121 = .ok (.aload_n 0, 1) := by decide +kernel
theorem dX7_block_122 : decode cX7_block 122 = .ok (.getfield 26, 3) := by decide +kernel
theorem dX7_block_125 : decode cX7_block 125 = .ok (.getfield 106, 3) := by decide +kernel
theorem dX7_block_128 : decode cX7_block 128 = .ok (.getfield 140, 3) := by decide +kernel
theorem dX7_block_131 : decode cX7_block 131 = .ok (.iload_n 3, 1) := by decide +kernel
theorem dX7_block_132 : decode cX7_block 132 = .ok (.iaload, 1) := by decide +kernel
theorem dX7_block_133 : decode cX7_block 133 = .ok (.ireturn, 1) := by decide +kernel
theorem dX7_block_134 : decode cX7_block 134 = .ok (.aload_n 0, 1) := by decide +kernel
theorem dX7_block_135 : decode cX7_block 135 = .ok (.getfield 26, 3) := by decide +kernel
theorem dX7_block_138 : decode cX7_block 138 = .ok (.getfield 106, 3) := by decide +kernel
theorem dX7_block_141 : decode cX7_block 141 = .ok (.getfield 143, 3) := by decide +kernel
theorem dX7_block_144 : decode cX7_block 144 = .ok (.iload_n 3, 1) := by decide +kernel
theorem dX7_block_145 : decode cX7_block 145 = .ok (.baload, 1) := by decide +kernel
theorem dX7_block_146 : decode cX7_block 146 = .ok (.ifCond .eq 7, 3) := by decide +kernel
theorem dX7_block_149 : decode cX7_block 149 = .ok (.iconst 1, 1) := by decide +kernel
theorem dX7_block_150 : decode cX7_block 150 = .ok (.goto 4, 3) := by decide +kernel
theorem dX7_block_153 : decode cX7_block 153 = .ok (.iconst 0, 1) := by decide +kernel
theorem dX7_block_154 : decode cX7_block 154 = .ok (.ireturn, 1) := by decide +kernel
theorem dX7_block_155 : decode cX7_block 155 = .ok (.aload_n 0, 1) := by decide +kernel
theorem dX7_block_156 : decode cX7_block 156 = .ok (.getfield 26, 3) := by decide +kernel
theorem dX7_block_159 : decode cX7_block 159 = .ok (.getfield 106, 3) := by decide +kernel
theorem dX7_block_162 : decode cX7_block 162 = .ok (.getfield 146, 3) := by decide +kernel
theorem dX7_block_165 : decode cX7_block 165 = .ok (.iload_n 3, 1) := by decide +kernel
theorem dX7_block_166 : decode cX7_block 166 = .ok (.iaload, 1) := by decide +kernel
theorem dX7_block_167 : decode cX7_block 167 = .ok (.ireturn, 1) := by decide +kernel
theorem dX7_block_168 : decode cX7_block 168 = .ok (.aload_n 0, 1) := by decide +kernel
theorem dX7_block_169 : decode cX7_block 169 = .ok (.getfield 26, 3) := by decide +kernel
theorem dX7_block_172 : decode cX7_block 172 = .ok (.getfield 106, 3) := by decide +kernel
theorem dX7_block_175 : decode cX7_block 175 = .ok (.getfield 149, 3) := by decide +kernel
theorem dX7_block_178 : decode cX7_block 178 = .ok (.iload_n 3, 1) := by decide +kernel
theorem dX7_block_179 : decode cX7_block 179 = .ok (.iaload, 1) := by decide +kernel
theorem dX7_block_180 : decode cX7_block 180 = .ok (.ireturn, 1) := by decide +kernel
theorem dX7_block_181 : decode cX7_block 181 = .ok (.aload_n 0, 1) := by decide +kernel
theorem dX7_block_182 : decode cX7_block 182 = .ok (.getfield 26, 3) := by decide +kernel
theorem dX7_block_185 : decode cX7_block 185 = .ok (.getfield 106, 3) := by decide +kernel
theorem dX7_block_188 : decode cX7_block 188 = .ok (.iload_n 3, 1) := by decide +kernel
theorem dX7_block_189 : decode cX7_block 189 = .ok (.aload_n 0, 1) := by decide +kernel
theorem dX7_block_190 : decode cX7_block 190 = .ok (.getfield 26, 3) := by decide +kernel
theorem dX7_block_193 : decode cX7_block 193 = .ok (.getfield 79, 3) := by decide +kernel
theorem dX7_block_196 : decode cX7_block 196 = .ok (.iconst 0, 1) := by decide +kernel
theorem dX7_block_197 : decode cX7_block 197 = .ok (.iaload, 1) := by decide +kernel
theorem dX7_block_198 : decode cX7_block 198 = .ok (.aload_n 0, 1) := by decide +kernel
theorem dX7_block_199 : decode cX7_block 199 = .ok (.getfield 26, 3) := by decide +kernel
theorem dX7_block_202 : decode cX7_block 202 = .ok (.bipush 9, 2) := by decide +kernel
theorem dX7_block_204 : decode cX7_block 204 = .ok (.invokevirtual 62, 3) := by decide +kernel
theorem dX7_block_207 : decode cX7_block 207 = .ok (.invokevirtual 152, 3) := by decide +kernel
theorem dX7_block_210 : decode cX7_block 210 = .ok (.ireturn, 1) := by decide +kernel
theorem dX7_block_211 : decode cX7_block 211 = .ok (.iconst (-1), 1) := by decide +kernel
theorem dX7_block_212 : decode cX7_block 212 = .ok (.ireturn, 1) := by decide +kernel
def mT_X7_block_154 (N : Nat) (σ : ST) (x1 : Int32) (x2 : Int32) (x3 : Int32) (k0 : Int32) : Option (Int32 × ST) :=
  some (k0, σ)
set_option maxRecDepth 20000 in
set_option maxHeartbeats 2000000 in
theorem tT_X7_block_154 {adr : Nat → Nat} {cI cZ cS cD cE : ClassId} {tL tH : Nat} {X : zX} {q : Int32 × ST} (B : zC X 4 (wdT adr cI cZ cS cD cE tL tH) cX7_block RX7 (some .int) { frames := 2, cells := 0, slots := 0, locals := 36 }) (N : Nat) (σ : ST) (x1 : Int32) (x2 : Int32) (x3 : Int32) (k0 : Int32) (hf : mT_X7_block_154 N σ x1 x2 x3 k0 = some q) : zJ X 4 (wdT adr cI cZ cS cD cE tL tH) (zi q) 154 [(0, .ref (adr 600)), (1, .int x1), (2, .int x2), (3, .int x3)] [.int k0] σ := by
  exact z_ireturn B dX7_block_154 hf
def mT_X7_block_47 (N : Nat) (σ : ST) (x1 : Int32) (x2 : Int32) (k0 : Int32) : Option (Int32 × ST) :=
  some (k0, σ)
set_option maxRecDepth 20000 in
set_option maxHeartbeats 2000000 in
theorem tT_X7_block_47 {adr : Nat → Nat} {cI cZ cS cD cE : ClassId} {tL tH : Nat} {X : zX} {q : Int32 × ST} (B : zC X 4 (wdT adr cI cZ cS cD cE tL tH) cX7_block RX7 (some .int) { frames := 2, cells := 0, slots := 0, locals := 36 }) (N : Nat) (σ : ST) (x1 : Int32) (x2 : Int32) (k0 : Int32) (hf : mT_X7_block_47 N σ x1 x2 k0 = some q) : zJ X 4 (wdT adr cI cZ cS cD cE tL tH) (zi q) 47 [(0, .ref (adr 600)), (1, .int x1), (2, .int x2)] [.int k0] σ := by
  exact z_ireturn B dX7_block_47 hf
def mT_X7_block (N : Nat) (σ : ST) (x1 : Int32) (x2 : Int32) : Option (Int32 × ST) :=
  zCallL (mE_X2_hasBlock N ((pE 0 0) σ) x1) ((iE 0 0) σ) fun v5 s5 =>
  if (v5 : Int32) = 0 then
    some ((-1), s5)
  else
    if (x2 : Int32) = 0 then
      zCallL (mE_X1_contentOf N ((pE 0 0) s5) x1) ((iE 0 0) s5) fun v22 s22 =>
      some (v22, s22)
    else
      if (x2 : Int32) = (5) then
        zCallL (mE_X1_isBad N ((pE 0 0) s5) x1) ((iE 0 0) s5) fun v36 s36 =>
        if (v36 : Int32) = 0 then
          mT_X7_block_47 N s36 x1 x2 (0)
        else
          mT_X7_block_47 N s36 x1 x2 (1)
      else
        zCallL (mE_X0_slotOf N ((pE 0 0) s5) x1) ((iE 0 0) s5) fun v56 s56 =>
        if (v56 : Int32) = (-1) then
          some ((-1), s56)
        else
          if (x2 : Int32) = (1) then
            zCallL (mE_X1_contentOf N ((pE 0 0) s56) x1) ((iE 0 0) s56) fun v117 s117 =>
            some (v117, s117)
          else
          if (x2 : Int32) = (2) then
            zGet (s56 5) 64 v56 fun v132 =>
            some (v132, s56)
          else
          if (x2 : Int32) = (3) then
            zGet (s56 9) 64 v56 fun v145 =>
            if (v145 : Int32) = 0 then
              mT_X7_block_154 N s56 x1 x2 v56 (0)
            else
              mT_X7_block_154 N s56 x1 x2 v56 (1)
          else
          if (x2 : Int32) = (4) then
            zGet (s56 7) 64 v56 fun v166 =>
            some (v166, s56)
          else
          if (x2 : Int32) = (6) then
            zGet (s56 6) 64 v56 fun v179 =>
            some (v179, s56)
          else
          if (x2 : Int32) = (7) then
            zGet (s56 2) 34 (0) fun v197 =>
            zCallL (mE_X2_term N ((pE 0 0) s56) (9)) ((iE 0 0) s56) fun v204 s204 =>
            zCallL (mE_X0_toCome N ((pE 0 0) s204) v56 v197 v204) ((iE 0 0) s204) fun v207 s207 =>
            some (v207, s207)
          else
            some ((-1), s56)
set_option maxRecDepth 20000 in
set_option maxHeartbeats 2000000 in
theorem cT_X7_block {adr : Nat → Nat} {cI cZ cS cD cE : ClassId} {tL tH : Nat} {l : Launch} {D : va_G} {N : Nat} {σ : ST} {x1 : Int32} {x2 : Int32} (q : Int32 × ST) (hf : mT_X7_block N σ x1 x2 = some q) : zM l D (wdT adr cI cZ cS cD cE tL tH) yX7_block cX7_block 4 (some .int) ({ frames := 2, cells := 0, slots := 0, locals := 36 }) [.ref (adr 600), .int x1, .int x2] σ (zi q) := by
  refine zM_of sfE_ok rfl (Nat.le_of_ble_eq_true rfl) [(0, .ref (adr 600)), (1, .int x1), (2, .int x2)] rfl (fun X hX1 hX2 B => ?_)
  have B : zC X 4 (wdT adr cI cZ cS cD cE tL tH) cX7_block RX7 (some .int) { frames := 2, cells := 0, slots := 0, locals := 36 } := B
  refine z_aload_n B dX7_block_0 0 rfl rfl ?_
  refine fT_g_P_now B dX7_block_1 ?_
  refine z_iload_n B dX7_block_4 1 rfl rfl ?_
  refine z_callVLi B (lE0 (adr := adr) (cI := cI) (cZ := cZ) (cS := cS) (cD := cD) (cE := cE) (tL := tL) (tH := tH)) (As := [.int x1]) kcV_X7_87 dX7_block_5 hf (fun q hq => cE_X2_hasBlock q hq) wE_o_E rfl rfl rfl rfl (Nat.le_of_ble_eq_true rfl) rfl rfl ⟨Nat.le_of_ble_eq_true rfl, Nat.le_of_ble_eq_true rfl⟩ (fun v5 s5 hf => ?_)
  refine z_if_ne B 13 dX7_block_8 (by decide) hf (fun hf => ?_) (fun hf => ?_)
  · refine z_iload_n B dX7_block_13 2 rfl rfl ?_
    refine z_if_ne B 26 dX7_block_14 (by decide) hf (fun hf => ?_) (fun hf => ?_)
    · refine z_iload_n B dX7_block_26 2 rfl rfl ?_
      refine z_iconst B (5) dX7_block_27 zc_iconst_5 ?_
      refine z_icmp_ne B 48 dX7_block_28 (by decide) hf (fun hf => ?_) (fun hf => ?_)
      · refine z_aload_n B dX7_block_48 0 rfl rfl ?_
        refine fT_g_P_now B dX7_block_49 ?_
        refine fT_g_E0_cache B dX7_block_52 ?_
        refine z_iload_n B dX7_block_55 1 rfl rfl ?_
        refine z_callVLi B (lE0 (adr := adr) (cI := cI) (cZ := cZ) (cS := cS) (cD := cD) (cE := cE) (tL := tL) (tH := tH)) (As := [.int x1]) kcV_X7_110 dX7_block_56 hf (fun q hq => cE_X0_slotOf q hq) wE_o_C rfl rfl rfl rfl (Nat.le_of_ble_eq_true rfl) rfl rfl ⟨Nat.le_of_ble_eq_true rfl, Nat.le_of_ble_eq_true rfl⟩ (fun v56 s56 hf => ?_)
        refine z_istore_n B [(3, .int v56), (0, .ref (adr 600)), (1, .int x1), (2, .int x2)] dX7_block_59 rfl (Nat.le_of_ble_eq_true rfl) rfl ?_
        refine z_iload_n B dX7_block_60 0 rfl rfl ?_
        refine z_iconst B (-1) dX7_block_61 zc_iconst_m1 ?_
        refine z_icmp_ne B 67 dX7_block_62 (by decide) hf (fun hf => ?_) (fun hf => ?_)
        · refine z_iload_n B dX7_block_67 3 rfl rfl ?_
          by_cases h68_1 : x2 = (1)
          · replace hf := zIfp h68_1 hf
            refine z_tabIn B (off := 44) 112 dX7_block_68 (by rw [h68_1]; decide) (by rw [h68_1]; decide) (by rw [h68_1]; decide) (by decide) ?_
            refine z_aload_n B dX7_block_112 1 rfl rfl ?_
            refine fT_g_P_disk B dX7_block_113 ?_
            refine z_iload_n B dX7_block_116 2 rfl rfl ?_
            refine z_callVLi B (lE0 (adr := adr) (cI := cI) (cZ := cZ) (cS := cS) (cD := cD) (cE := cE) (tL := tL) (tH := tH)) (As := [.int x1]) kcV_X7_76 dX7_block_117 hf (fun q hq => cE_X1_contentOf q hq) wE_o_D rfl rfl rfl rfl (Nat.le_of_ble_eq_true rfl) rfl rfl ⟨Nat.le_of_ble_eq_true rfl, Nat.le_of_ble_eq_true rfl⟩ (fun v117 s117 hf => ?_)
            exact z_ireturn B dX7_block_120 hf
          replace hf := zIfn h68_1 hf
          by_cases h68_2 : x2 = (2)
          · replace hf := zIfp h68_2 hf
            refine z_tabIn B (off := 53) 121 dX7_block_68 (by rw [h68_2]; decide) (by rw [h68_2]; decide) (by rw [h68_2]; decide) (by decide) ?_
            refine z_aload_n B dX7_block_121 1 rfl rfl ?_
            refine fT_g_P_now B dX7_block_122 ?_
            refine fT_g_E0_cache B dX7_block_125 ?_
            refine fT_g_C0_stamps B dX7_block_128 ?_
            refine z_iload_n B dX7_block_131 0 rfl rfl ?_
            refine fT_l_C0_stamps B dX7_block_132 hf (fun v132 hf => ?_)
            exact z_ireturn B dX7_block_133 hf
          replace hf := zIfn h68_2 hf
          by_cases h68_3 : x2 = (3)
          · replace hf := zIfp h68_3 hf
            refine z_tabIn B (off := 66) 134 dX7_block_68 (by rw [h68_3]; decide) (by rw [h68_3]; decide) (by rw [h68_3]; decide) (by decide) ?_
            refine z_aload_n B dX7_block_134 1 rfl rfl ?_
            refine fT_g_P_now B dX7_block_135 ?_
            refine fT_g_E0_cache B dX7_block_138 ?_
            refine fT_g_C0_waiting B dX7_block_141 ?_
            refine z_iload_n B dX7_block_144 0 rfl rfl ?_
            refine fT_l_C0_waiting B dX7_block_145 hf (fun v145 hf => ?_)
            refine z_if_eq B 153 dX7_block_146 (by decide) hf (fun hf => ?_) (fun hf => ?_)
            · refine z_iconst B (0) dX7_block_153 zc_iconst_0 ?_
              exact z_loc [1, 2, 3, 0] _ rfl (tT_X7_block_154 B N s56 x1 x2 v56 (0) hf)
            · refine z_iconst B (1) dX7_block_149 zc_iconst_1 ?_
              refine z_goto B 154 dX7_block_150 (by decide) ?_
              exact z_loc [1, 2, 3, 0] _ rfl (tT_X7_block_154 B N s56 x1 x2 v56 (1) hf)
          replace hf := zIfn h68_3 hf
          by_cases h68_4 : x2 = (4)
          · replace hf := zIfp h68_4 hf
            refine z_tabIn B (off := 87) 155 dX7_block_68 (by rw [h68_4]; decide) (by rw [h68_4]; decide) (by rw [h68_4]; decide) (by decide) ?_
            refine z_aload_n B dX7_block_155 1 rfl rfl ?_
            refine fT_g_P_now B dX7_block_156 ?_
            refine fT_g_E0_cache B dX7_block_159 ?_
            refine fT_g_C0_owners B dX7_block_162 ?_
            refine z_iload_n B dX7_block_165 0 rfl rfl ?_
            refine fT_l_C0_owners B dX7_block_166 hf (fun v166 hf => ?_)
            exact z_ireturn B dX7_block_167 hf
          replace hf := zIfn h68_4 hf
          by_cases h68_6 : x2 = (6)
          · replace hf := zIfp h68_6 hf
            refine z_tabIn B (off := 100) 168 dX7_block_68 (by rw [h68_6]; decide) (by rw [h68_6]; decide) (by rw [h68_6]; decide) (by decide) ?_
            refine z_aload_n B dX7_block_168 1 rfl rfl ?_
            refine fT_g_P_now B dX7_block_169 ?_
            refine fT_g_E0_cache B dX7_block_172 ?_
            refine fT_g_C0_touched B dX7_block_175 ?_
            refine z_iload_n B dX7_block_178 0 rfl rfl ?_
            refine fT_l_C0_touched B dX7_block_179 hf (fun v179 hf => ?_)
            exact z_ireturn B dX7_block_180 hf
          replace hf := zIfn h68_6 hf
          by_cases h68_7 : x2 = (7)
          · replace hf := zIfp h68_7 hf
            refine z_tabIn B (off := 113) 181 dX7_block_68 (by rw [h68_7]; decide) (by rw [h68_7]; decide) (by rw [h68_7]; decide) (by decide) ?_
            refine z_aload_n B dX7_block_181 1 rfl rfl ?_
            refine fT_g_P_now B dX7_block_182 ?_
            refine fT_g_E0_cache B dX7_block_185 ?_
            refine z_iload_n B dX7_block_188 0 rfl rfl ?_
            refine z_aload_n B dX7_block_189 1 rfl rfl ?_
            refine fT_g_P_now B dX7_block_190 ?_
            refine fT_g_E0_counts B dX7_block_193 ?_
            refine z_iconst B (0) dX7_block_196 zc_iconst_0 ?_
            refine fT_l_E0_counts B dX7_block_197 hf (fun v197 hf => ?_)
            refine z_aload_n B dX7_block_198 1 rfl rfl ?_
            refine fT_g_P_now B dX7_block_199 ?_
            refine z_bipush B (9) dX7_block_202 zc_bipush_9 ?_
            refine z_callVLi B (lE0 (adr := adr) (cI := cI) (cZ := cZ) (cS := cS) (cD := cD) (cE := cE) (tL := tL) (tH := tH)) (As := [.int (9)]) kcV_X7_62 dX7_block_204 hf (fun q hq => cE_X2_term q hq) wE_o_E rfl rfl rfl rfl (Nat.le_of_ble_eq_true rfl) rfl rfl ⟨Nat.le_of_ble_eq_true rfl, Nat.le_of_ble_eq_true rfl⟩ (fun v204 s204 hf => ?_)
            refine z_callVLi B (lE0 (adr := adr) (cI := cI) (cZ := cZ) (cS := cS) (cD := cD) (cE := cE) (tL := tL) (tH := tH)) (As := [.int v56, .int v197, .int v204]) kcV_X7_152 dX7_block_207 hf (fun q hq => cE_X0_toCome q hq) wE_o_C rfl rfl rfl rfl (Nat.le_of_ble_eq_true rfl) rfl rfl ⟨Nat.le_of_ble_eq_true rfl, Nat.le_of_ble_eq_true rfl⟩ (fun v207 s207 hf => ?_)
            exact z_ireturn B dX7_block_210 hf
          replace hf := zIfn h68_7 hf
          have kd68 : zJ X 4 (wdT adr cI cZ cS cD cE tL tH) (zi q) 211 [(3, .int v56), (0, .ref (adr 600)), (1, .int x1), (2, .int x2)] [] s56 := by
            refine z_iconst B (-1) dX7_block_211 zc_iconst_m1 ?_
            exact z_ireturn B dX7_block_212 hf
          by_cases ho68 : x2.toInt < 1 ∨ 7 < x2.toInt
          · exact z_tabOut B 211 dX7_block_68 ho68 (by decide) kd68
          · have e0 : x2.toInt ≠ 1 := z_ne h68_1 (by decide)
            have e1 : x2.toInt ≠ 2 := z_ne h68_2 (by decide)
            have e2 : x2.toInt ≠ 3 := z_ne h68_3 (by decide)
            have e3 : x2.toInt ≠ 4 := z_ne h68_4 (by decide)
            have e4 : x2.toInt ≠ 6 := z_ne h68_6 (by decide)
            have e5 : x2.toInt ≠ 7 := z_ne h68_7 (by decide)
            have hx68 : x2.toInt = 5 := by omega
            have e68 := hx68
            exact z_tabIn B (off := 143) 211 dX7_block_68 (by rw [e68]; decide) (by rw [e68]; decide) (by rw [e68]; decide) (by decide) kd68
        · refine z_iconst B (-1) dX7_block_65 zc_iconst_m1 ?_
          exact z_ireturn B dX7_block_66 hf
      · refine z_aload_n B dX7_block_31 0 rfl rfl ?_
        refine fT_g_P_disk B dX7_block_32 ?_
        refine z_iload_n B dX7_block_35 1 rfl rfl ?_
        refine z_callVLi B (lE0 (adr := adr) (cI := cI) (cZ := cZ) (cS := cS) (cD := cD) (cE := cE) (tL := tL) (tH := tH)) (As := [.int x1]) kcV_X7_99 dX7_block_36 hf (fun q hq => cE_X1_isBad q hq) wE_o_D rfl rfl rfl rfl (Nat.le_of_ble_eq_true rfl) rfl rfl ⟨Nat.le_of_ble_eq_true rfl, Nat.le_of_ble_eq_true rfl⟩ (fun v36 s36 hf => ?_)
        refine z_if_eq B 46 dX7_block_39 (by decide) hf (fun hf => ?_) (fun hf => ?_)
        · refine z_iconst B (0) dX7_block_46 zc_iconst_0 ?_
          exact tT_X7_block_47 B N s36 x1 x2 (0) hf
        · refine z_iconst B (1) dX7_block_42 zc_iconst_1 ?_
          refine z_goto B 47 dX7_block_43 (by decide) ?_
          exact tT_X7_block_47 B N s36 x1 x2 (1) hf
    · refine z_aload_n B dX7_block_17 0 rfl rfl ?_
      refine fT_g_P_disk B dX7_block_18 ?_
      refine z_iload_n B dX7_block_21 1 rfl rfl ?_
      refine z_callVLi B (lE0 (adr := adr) (cI := cI) (cZ := cZ) (cS := cS) (cD := cD) (cE := cE) (tL := tL) (tH := tH)) (As := [.int x1]) kcV_X7_76 dX7_block_22 hf (fun q hq => cE_X1_contentOf q hq) wE_o_D rfl rfl rfl rfl (Nat.le_of_ble_eq_true rfl) rfl rfl ⟨Nat.le_of_ble_eq_true rfl, Nat.le_of_ble_eq_true rfl⟩ (fun v22 s22 hf => ?_)
      exact z_ireturn B dX7_block_25 hf
  · refine z_iconst B (-1) dX7_block_11 zc_iconst_m1 ?_
    exact z_ireturn B dX7_block_12 hf
theorem dX7_cached_0 : decode cX7_cached 0 = .ok (.aload_n 0, 1) := by decide +kernel
theorem dX7_cached_1 : decode cX7_cached 1 = .ok (.getfield 26, 3) := by decide +kernel
theorem dX7_cached_4 : decode cX7_cached 4 = .ok (.getfield 106, 3) := by decide +kernel
theorem dX7_cached_7 : decode cX7_cached 7 = .ok (.iload_n 1, 1) := by decide +kernel
theorem dX7_cached_8 : decode cX7_cached 8 = .ok (.invokevirtual 156, 3) := by decide +kernel
theorem dX7_cached_11 : decode cX7_cached 11 = .ok (.ireturn, 1) := by decide +kernel
def mT_X7_cached (N : Nat) (σ : ST) (x1 : Int32) : Option (Int32 × ST) :=
  zCallL (mE_X0_blockByStamp N ((pE 0 0) σ) x1) ((iE 0 0) σ) fun v8 s8 =>
  some (v8, s8)
set_option maxRecDepth 20000 in
set_option maxHeartbeats 2000000 in
theorem cT_X7_cached {adr : Nat → Nat} {cI cZ cS cD cE : ClassId} {tL tH : Nat} {l : Launch} {D : va_G} {N : Nat} {σ : ST} {x1 : Int32} (q : Int32 × ST) (hf : mT_X7_cached N σ x1 = some q) : zM l D (wdT adr cI cZ cS cD cE tL tH) yX7_cached cX7_cached 2 (some .int) ({ frames := 2, cells := 0, slots := 0, locals := 45 }) [.ref (adr 600), .int x1] σ (zi q) := by
  refine zM_of sfE_ok rfl (Nat.le_of_ble_eq_true rfl) [(0, .ref (adr 600)), (1, .int x1)] rfl (fun X hX1 hX2 B => ?_)
  have B : zC X 2 (wdT adr cI cZ cS cD cE tL tH) cX7_cached RX7 (some .int) { frames := 2, cells := 0, slots := 0, locals := 45 } := B
  refine z_aload_n B dX7_cached_0 0 rfl rfl ?_
  refine fT_g_P_now B dX7_cached_1 ?_
  refine fT_g_E0_cache B dX7_cached_4 ?_
  refine z_iload_n B dX7_cached_7 1 rfl rfl ?_
  refine z_callVLi B (lE0 (adr := adr) (cI := cI) (cZ := cZ) (cS := cS) (cD := cD) (cE := cE) (tL := tL) (tH := tH)) (As := [.int x1]) kcV_X7_156 dX7_cached_8 hf (fun q hq => cE_X0_blockByStamp q hq) wE_o_C rfl rfl rfl rfl (Nat.le_of_ble_eq_true rfl) rfl rfl ⟨Nat.le_of_ble_eq_true rfl, Nat.le_of_ble_eq_true rfl⟩ (fun v8 s8 hf => ?_)
  exact z_ireturn B dX7_cached_11 hf
theorem dX7_ahead_0 : decode cX7_ahead 0 = .ok (.aload_n 0, 1) := by decide +kernel
theorem dX7_ahead_1 : decode cX7_ahead 1 = .ok (.getfield 26, 3) := by decide +kernel
theorem dX7_ahead_4 : decode cX7_ahead 4 = .ok (.getfield 106, 3) := by decide +kernel
theorem dX7_ahead_7 : decode cX7_ahead 7 = .ok (.iload_n 1, 1) := by decide +kernel
theorem dX7_ahead_8 : decode cX7_ahead 8 = .ok (.invokevirtual 110, 3) := by decide +kernel
theorem dX7_ahead_11 : decode cX7_ahead 11 = .ok (.istore_n 2, 1) := by decide +kernel
theorem dX7_ahead_12 : decode cX7_ahead 12 = .ok (.iload_n 2, 1) := by decide +kernel
theorem dX7_ahead_13 : decode cX7_ahead 13 = .ok (.iconst (-1), 1) := by decide +kernel
theorem dX7_ahead_14 : decode cX7_ahead 14 = .ok (.if_icmp .ne 7, 3) := by decide +kernel
theorem dX7_ahead_17 : decode cX7_ahead 17 = .ok (.iconst (-1), 1) := by decide +kernel
theorem dX7_ahead_18 : decode cX7_ahead 18 = .ok (.goto 14, 3) := by decide +kernel
theorem dX7_ahead_21 : decode cX7_ahead 21 = .ok (.aload_n 0, 1) := by decide +kernel
theorem dX7_ahead_22 : decode cX7_ahead 22 = .ok (.getfield 26, 3) := by decide +kernel
theorem dX7_ahead_25 : decode cX7_ahead 25 = .ok (.getfield 106, 3) := by decide +kernel
theorem dX7_ahead_28 : decode cX7_ahead 28 = .ok (.iload_n 2, 1) := by decide +kernel
theorem dX7_ahead_29 : decode cX7_ahead 29 = .ok (.invokevirtual 267, 3) := by decide +kernel
theorem dX7_ahead_32 : decode cX7_ahead 32 = .ok (.ireturn, 1) := by decide +kernel
def mT_X7_ahead_32 (N : Nat) (σ : ST) (x1 : Int32) (x2 : Int32) (k0 : Int32) : Option (Int32 × ST) :=
  some (k0, σ)
set_option maxRecDepth 20000 in
set_option maxHeartbeats 2000000 in
theorem tT_X7_ahead_32 {adr : Nat → Nat} {cI cZ cS cD cE : ClassId} {tL tH : Nat} {X : zX} {q : Int32 × ST} (B : zC X 3 (wdT adr cI cZ cS cD cE tL tH) cX7_ahead RX7 (some .int) { frames := 1, cells := 0, slots := 0, locals := 23 }) (N : Nat) (σ : ST) (x1 : Int32) (x2 : Int32) (k0 : Int32) (hf : mT_X7_ahead_32 N σ x1 x2 k0 = some q) : zJ X 3 (wdT adr cI cZ cS cD cE tL tH) (zi q) 32 [(0, .ref (adr 600)), (1, .int x1), (2, .int x2)] [.int k0] σ := by
  exact z_ireturn B dX7_ahead_32 hf
def mT_X7_ahead (N : Nat) (σ : ST) (x1 : Int32) : Option (Int32 × ST) :=
  zCallL (mE_X0_slotOf N ((pE 0 0) σ) x1) ((iE 0 0) σ) fun v8 s8 =>
  if (v8 : Int32) = (-1) then
    mT_X7_ahead_32 N s8 x1 v8 (-1)
  else
    zCallL (mE_X0_rankOf N ((pE 0 0) s8) v8) ((iE 0 0) s8) fun v29 s29 =>
    mT_X7_ahead_32 N s29 x1 v8 v29
set_option maxRecDepth 20000 in
set_option maxHeartbeats 2000000 in
theorem cT_X7_ahead {adr : Nat → Nat} {cI cZ cS cD cE : ClassId} {tL tH : Nat} {l : Launch} {D : va_G} {N : Nat} {σ : ST} {x1 : Int32} (q : Int32 × ST) (hf : mT_X7_ahead N σ x1 = some q) : zM l D (wdT adr cI cZ cS cD cE tL tH) yX7_ahead cX7_ahead 3 (some .int) ({ frames := 1, cells := 0, slots := 0, locals := 23 }) [.ref (adr 600), .int x1] σ (zi q) := by
  refine zM_of sfE_ok rfl (Nat.le_of_ble_eq_true rfl) [(0, .ref (adr 600)), (1, .int x1)] rfl (fun X hX1 hX2 B => ?_)
  have B : zC X 3 (wdT adr cI cZ cS cD cE tL tH) cX7_ahead RX7 (some .int) { frames := 1, cells := 0, slots := 0, locals := 23 } := B
  refine z_aload_n B dX7_ahead_0 0 rfl rfl ?_
  refine fT_g_P_now B dX7_ahead_1 ?_
  refine fT_g_E0_cache B dX7_ahead_4 ?_
  refine z_iload_n B dX7_ahead_7 1 rfl rfl ?_
  refine z_callVLi B (lE0 (adr := adr) (cI := cI) (cZ := cZ) (cS := cS) (cD := cD) (cE := cE) (tL := tL) (tH := tH)) (As := [.int x1]) kcV_X7_110 dX7_ahead_8 hf (fun q hq => cE_X0_slotOf q hq) wE_o_C rfl rfl rfl rfl (Nat.le_of_ble_eq_true rfl) rfl rfl ⟨Nat.le_of_ble_eq_true rfl, Nat.le_of_ble_eq_true rfl⟩ (fun v8 s8 hf => ?_)
  refine z_istore_n B [(2, .int v8), (0, .ref (adr 600)), (1, .int x1)] dX7_ahead_11 rfl (Nat.le_of_ble_eq_true rfl) rfl ?_
  refine z_iload_n B dX7_ahead_12 0 rfl rfl ?_
  refine z_iconst B (-1) dX7_ahead_13 zc_iconst_m1 ?_
  refine z_icmp_ne B 21 dX7_ahead_14 (by decide) hf (fun hf => ?_) (fun hf => ?_)
  · refine z_aload_n B dX7_ahead_21 1 rfl rfl ?_
    refine fT_g_P_now B dX7_ahead_22 ?_
    refine fT_g_E0_cache B dX7_ahead_25 ?_
    refine z_iload_n B dX7_ahead_28 0 rfl rfl ?_
    refine z_callVLi B (lE0 (adr := adr) (cI := cI) (cZ := cZ) (cS := cS) (cD := cD) (cE := cE) (tL := tL) (tH := tH)) (As := [.int v8]) kcV_X7_267 dX7_ahead_29 hf (fun q hq => cE_X0_rankOf q hq) wE_o_C rfl rfl rfl rfl (Nat.le_of_ble_eq_true rfl) rfl rfl ⟨Nat.le_of_ble_eq_true rfl, Nat.le_of_ble_eq_true rfl⟩ (fun v29 s29 hf => ?_)
    exact z_loc [1, 2, 0] _ rfl (tT_X7_ahead_32 B N s29 x1 v8 v29 hf)
  · refine z_iconst B (-1) dX7_ahead_17 zc_iconst_m1 ?_
    refine z_goto B 32 dX7_ahead_18 (by decide) ?_
    exact z_loc [1, 2, 0] _ rfl (tT_X7_ahead_32 B N s8 x1 v8 (-1) hf)
theorem dX7_stream_0 : decode cX7_stream 0 = .ok (.aload_n 0, 1) := by decide +kernel
theorem dX7_stream_1 : decode cX7_stream 1 = .ok (.getfield 26, 3) := by decide +kernel
theorem dX7_stream_4 : decode cX7_stream 4 = .ok (.iload_n 1, 1) := by decide +kernel
theorem dX7_stream_5 : decode cX7_stream 5 = .ok (.invokevirtual 121, 3) := by decide +kernel
theorem dX7_stream_8 : decode cX7_stream 8 = .ok (.astore_n 3, 1) := by decide +kernel
theorem dX7_stream_9 : decode cX7_stream 9 = .ok (.aload_n 3, 1) := by decide +kernel
theorem dX7_stream_10 : decode cX7_stream 10 = .ok (.ifnonnull 6, 3) := by decide +kernel
theorem dX7_stream_13 : decode cX7_stream 13 = .ok (.ldc 159, 2) := by decide +kernel
theorem dX7_stream_15 : decode cX7_stream 15 = .ok (.ireturn, 1) := by decide +kernel
theorem dX7_stream_16 : decode cX7_stream 16 = .ok (.iload_n 2, 1) := by decide +kernel
theorem dX7_stream_17 : decode cX7_stream 17 = .ok (.bipush 8, 2) := by decide +kernel
theorem dX7_stream_19 : decode cX7_stream 19 = .ok (.if_icmp .ne 20, 3) := by decide +kernel
theorem dX7_stream_22 : decode cX7_stream 22 = .ok (.aload_n 0, 1) := by decide +kernel
theorem dX7_stream_23 : decode cX7_stream 23 = .ok (.getfield 26, 3) := by decide +kernel
theorem dX7_stream_26 : decode cX7_stream 26 = .ok (.getfield 106, 3) := by decide +kernel
theorem dX7_stream_29 : decode cX7_stream 29 = .ok (.aload_n 3, 1) := by decide +kernel
theorem dX7_stream_30 : decode cX7_stream 30 = .ok (.getfield 125, 3) := by decide +kernel
theorem dX7_stream_33 : decode cX7_stream 33 = .ok (.invokevirtual 160, 3) := by decide +kernel
theorem dX7_stream_36 : decode cX7_stream 36 = .ok (.goto 8, 3) := by decide +kernel
theorem dX7_stream_39 : decode cX7_stream 39 = .ok (.aload_n 3, 1) := by decide +kernel
theorem dX7_stream_40 : decode cX7_stream 40 = .ok (.iload_n 2, 1) := by decide +kernel
theorem dX7_stream_41 : decode cX7_stream 41 = .ok (.invokevirtual 163, 3) := by decide +kernel
theorem dX7_stream_44 : decode cX7_stream 44 = .ok (.ireturn, 1) := by decide +kernel
def mT_X7_stream_44 (N : Nat) (σ : ST) (x1 : Int32) (x2 : Int32) (x3 : Fin 6) (k0 : Int32) : Option (Int32 × ST) :=
  some (k0, σ)
set_option maxRecDepth 20000 in
set_option maxHeartbeats 2000000 in
theorem tT_X7_stream_44 {adr : Nat → Nat} {cI cZ cS cD cE : ClassId} {tL tH : Nat} {X : zX} {q : Int32 × ST} (B : zC X 4 (wdT adr cI cZ cS cD cE tL tH) cX7_stream RX7 (some .int) { frames := 2, cells := 0, slots := 0, locals := 45 }) (N : Nat) (σ : ST) (x1 : Int32) (x2 : Int32) (x3 : Fin 6) (k0 : Int32) (hf : mT_X7_stream_44 N σ x1 x2 x3 k0 = some q) : zJ X 4 (wdT adr cI cZ cS cD cE tL tH) (zi q) 44 [(0, .ref (adr 600)), (1, .int x1), (2, .int x2), (3, .ref (a0 adr (12 + (x3).val)))] [.int k0] σ := by
  exact z_ireturn B dX7_stream_44 hf
def mT_X7_stream (N : Nat) (σ : ST) (x1 : Int32) (x2 : Int32) : Option (Int32 × ST) :=
  zCallLq (mE_X2_streamAt N ((pE 0 0) σ) x1) ((iE 0 0) σ) fun v5 s5 =>
  match v5 with
  | none =>
      some ((-2147483648), s5)
  | some p10 =>
      if (x2 : Int32) = (8) then
        zLet (pE 0 0 s5 (12 + (p10).val) 0) fun v30 =>
        zCallL (mE_X0_waitingFor N ((pE 0 0) s5) v30) ((iE 0 0) s5) fun v33 s33 =>
        mT_X7_stream_44 N s33 x1 x2 p10 v33
      else
        zCallL (mE_X4_tell N ((pE 0 0) s5) p10 x2) ((iE 0 0) s5) fun v41 s41 =>
        mT_X7_stream_44 N s41 x1 x2 p10 v41
set_option maxRecDepth 20000 in
set_option maxHeartbeats 2000000 in
theorem cT_X7_stream {adr : Nat → Nat} {cI cZ cS cD cE : ClassId} {tL tH : Nat} {l : Launch} {D : va_G} {N : Nat} {σ : ST} {x1 : Int32} {x2 : Int32} (q : Int32 × ST) (hf : mT_X7_stream N σ x1 x2 = some q) : zM l D (wdT adr cI cZ cS cD cE tL tH) yX7_stream cX7_stream 4 (some .int) ({ frames := 2, cells := 0, slots := 0, locals := 45 }) [.ref (adr 600), .int x1, .int x2] σ (zi q) := by
  refine zM_of sfE_ok rfl (Nat.le_of_ble_eq_true rfl) [(0, .ref (adr 600)), (1, .int x1), (2, .int x2)] rfl (fun X hX1 hX2 B => ?_)
  have B : zC X 4 (wdT adr cI cZ cS cD cE tL tH) cX7_stream RX7 (some .int) { frames := 2, cells := 0, slots := 0, locals := 45 } := B
  refine z_aload_n B dX7_stream_0 0 rfl rfl ?_
  refine fT_g_P_now B dX7_stream_1 ?_
  refine z_iload_n B dX7_stream_4 1 rfl rfl ?_
  refine z_callVLq B (lE0 (adr := adr) (cI := cI) (cZ := cZ) (cS := cS) (cD := cD) (cE := cE) (tL := tL) (tH := tH)) (adr := a0 adr) (As := [.int x1]) kcV_X7_121 dX7_stream_5 hf (fun q hq => cE_X2_streamAt q hq) wE_o_E rfl rfl rfl rfl (Nat.le_of_ble_eq_true rfl) rfl rfl ⟨Nat.le_of_ble_eq_true rfl, Nat.le_of_ble_eq_true rfl⟩ (fun v5 s5 hf => ?_)
  refine z_astore_nq B [(3, zq (a0 adr) v5), (0, .ref (adr 600)), (1, .int x1), (2, .int x2)] dX7_stream_8 rfl (Nat.le_of_ble_eq_true rfl) rfl ?_
  refine z_aload_nq B dX7_stream_9 0 rfl rfl ?_
  cases v5 with
  | none =>
    refine z_ifnonnull_N B dX7_stream_10 ?_
    refine z_ldc B kw_658 dX7_stream_13 ?_
    exact z_ireturn B dX7_stream_15 hf
  | some p10 =>
    refine z_ifnonnull_S B 16 dX7_stream_10 (by decide) ?_
    refine z_iload_n B dX7_stream_16 3 rfl rfl ?_
    refine z_bipush B (8) dX7_stream_17 zc_bipush_8 ?_
    refine z_icmp_ne B 39 dX7_stream_19 (by decide) hf (fun hf => ?_) (fun hf => ?_)
    · refine z_aload_n B dX7_stream_39 0 rfl rfl ?_
      refine z_iload_n B dX7_stream_40 3 rfl rfl ?_
      refine z_callVLi B (lE0 (adr := adr) (cI := cI) (cZ := cZ) (cS := cS) (cD := cD) (cE := cE) (tL := tL) (tH := tH)) (As := [.int x2]) kcV_X7_163 dX7_stream_41 hf (fun q hq => cE_X4_tell q hq) (wE_o_S p10) rfl rfl rfl rfl (Nat.le_of_ble_eq_true rfl) rfl rfl ⟨Nat.le_of_ble_eq_true rfl, Nat.le_of_ble_eq_true rfl⟩ (fun v41 s41 hf => ?_)
      exact z_loc [1, 2, 3, 0] _ rfl (tT_X7_stream_44 B N s41 x1 x2 p10 v41 hf)
    · refine z_aload_n B dX7_stream_22 1 rfl rfl ?_
      refine fT_g_P_now B dX7_stream_23 ?_
      refine fT_g_E0_cache B dX7_stream_26 ?_
      refine z_aload_n B dX7_stream_29 0 rfl rfl ?_
      refine fT_g_S_number B p10 dX7_stream_30 hf (fun v30 hf => ?_)
      refine z_callVLi B (lE0 (adr := adr) (cI := cI) (cZ := cZ) (cS := cS) (cD := cD) (cE := cE) (tL := tL) (tH := tH)) (As := [.int v30]) kcV_X7_160 dX7_stream_33 hf (fun q hq => cE_X0_waitingFor q hq) wE_o_C rfl rfl rfl rfl (Nat.le_of_ble_eq_true rfl) rfl rfl ⟨Nat.le_of_ble_eq_true rfl, Nat.le_of_ble_eq_true rfl⟩ (fun v33 s33 hf => ?_)
      refine z_goto B 44 dX7_stream_36 (by decide) ?_
      exact z_loc [1, 2, 3, 0] _ rfl (tT_X7_stream_44 B N s33 x1 x2 p10 v33 hf)
theorem dX7_aheadOf_0 : decode cX7_aheadOf 0 = .ok (.aload_n 0, 1) := by decide +kernel
theorem dX7_aheadOf_1 : decode cX7_aheadOf 1 = .ok (.getfield 26, 3) := by decide +kernel
theorem dX7_aheadOf_4 : decode cX7_aheadOf 4 = .ok (.iload_n 1, 1) := by decide +kernel
theorem dX7_aheadOf_5 : decode cX7_aheadOf 5 = .ok (.invokevirtual 121, 3) := by decide +kernel
theorem dX7_aheadOf_8 : decode cX7_aheadOf 8 = .ok (.astore_n 3, 1) := by decide +kernel
theorem dX7_aheadOf_9 : decode cX7_aheadOf 9 = .ok (.aload_n 3, 1) := by decide +kernel
theorem dX7_aheadOf_10 : decode cX7_aheadOf 10 = .ok (.ifnull 10, 3) := by decide +kernel
theorem dX7_aheadOf_13 : decode cX7_aheadOf 13 = .ok (.aload_n 3, 1) := by decide +kernel
theorem dX7_aheadOf_14 : decode cX7_aheadOf 14 = .ok (.getfield 166, 3) := by decide +kernel
theorem dX7_aheadOf_17 : decode cX7_aheadOf 17 = .ok (.ifCond .ne 5, 3) := by decide +kernel
theorem dX7_aheadOf_20 : decode cX7_aheadOf 20 = .ok (.iconst (-1), 1) := by decide +kernel
theorem dX7_aheadOf_21 : decode cX7_aheadOf 21 = .ok (.ireturn, 1) := by decide +kernel
theorem dX7_aheadOf_22 : decode cX7_aheadOf 22 = .ok (.aload_n 0, 1) := by decide +kernel
theorem dX7_aheadOf_23 : decode cX7_aheadOf 23 = .ok (.getfield 26, 3) := by decide +kernel
theorem dX7_aheadOf_26 : decode cX7_aheadOf 26 = .ok (.getfield 106, 3) := by decide +kernel
theorem dX7_aheadOf_29 : decode cX7_aheadOf 29 = .ok (.aload_n 3, 1) := by decide +kernel
theorem dX7_aheadOf_30 : decode cX7_aheadOf 30 = .ok (.iload_n 2, 1) := by decide +kernel
theorem dX7_aheadOf_31 : decode cX7_aheadOf 31 = .ok (.invokevirtual 169, 3) := by decide +kernel
theorem dX7_aheadOf_34 : decode cX7_aheadOf 34 = .ok (.ireturn, 1) := by decide +kernel
def mT_X7_aheadOf_20 (N : Nat) (σ : ST) (x1 : Int32) (x2 : Int32) (x3 : Option (Fin 6)) : Option (Int32 × ST) :=
  some ((-1), σ)
set_option maxRecDepth 20000 in
set_option maxHeartbeats 2000000 in
theorem tT_X7_aheadOf_20 {adr : Nat → Nat} {cI cZ cS cD cE : ClassId} {tL tH : Nat} {X : zX} {q : Int32 × ST} (B : zC X 4 (wdT adr cI cZ cS cD cE tL tH) cX7_aheadOf RX7 (some .int) { frames := 2, cells := 0, slots := 0, locals := 49 }) (N : Nat) (σ : ST) (x1 : Int32) (x2 : Int32) (x3 : Option (Fin 6)) (hf : mT_X7_aheadOf_20 N σ x1 x2 x3 = some q) : zJ X 4 (wdT adr cI cZ cS cD cE tL tH) (zi q) 20 [(0, .ref (adr 600)), (1, .int x1), (2, .int x2), (3, zq (a0 adr) x3)] [] σ := by
  refine z_iconst B (-1) dX7_aheadOf_20 zc_iconst_m1 ?_
  exact z_ireturn B dX7_aheadOf_21 hf
def mT_X7_aheadOf (N : Nat) (σ : ST) (x1 : Int32) (x2 : Int32) : Option (Int32 × ST) :=
  zCallLq (mE_X2_streamAt N ((pE 0 0) σ) x1) ((iE 0 0) σ) fun v5 s5 =>
  match v5 with
  | none =>
      mT_X7_aheadOf_20 N s5 x1 x2 none
  | some p10 =>
      zLet (pE 0 0 s5 (12 + (p10).val) 2) fun v14 =>
      if (v14 : Int32) = 0 then
        mT_X7_aheadOf_20 N s5 x1 x2 (some p10)
      else
        zCallL (mE_X0_waitingBeyond N ((pE 0 0) s5) p10 x2) ((iE 0 0) s5) fun v31 s31 =>
        some (v31, s31)
set_option maxRecDepth 20000 in
set_option maxHeartbeats 2000000 in
theorem cT_X7_aheadOf {adr : Nat → Nat} {cI cZ cS cD cE : ClassId} {tL tH : Nat} {l : Launch} {D : va_G} {N : Nat} {σ : ST} {x1 : Int32} {x2 : Int32} (q : Int32 × ST) (hf : mT_X7_aheadOf N σ x1 x2 = some q) : zM l D (wdT adr cI cZ cS cD cE tL tH) yX7_aheadOf cX7_aheadOf 4 (some .int) ({ frames := 2, cells := 0, slots := 0, locals := 49 }) [.ref (adr 600), .int x1, .int x2] σ (zi q) := by
  refine zM_of sfE_ok rfl (Nat.le_of_ble_eq_true rfl) [(0, .ref (adr 600)), (1, .int x1), (2, .int x2)] rfl (fun X hX1 hX2 B => ?_)
  have B : zC X 4 (wdT adr cI cZ cS cD cE tL tH) cX7_aheadOf RX7 (some .int) { frames := 2, cells := 0, slots := 0, locals := 49 } := B
  refine z_aload_n B dX7_aheadOf_0 0 rfl rfl ?_
  refine fT_g_P_now B dX7_aheadOf_1 ?_
  refine z_iload_n B dX7_aheadOf_4 1 rfl rfl ?_
  refine z_callVLq B (lE0 (adr := adr) (cI := cI) (cZ := cZ) (cS := cS) (cD := cD) (cE := cE) (tL := tL) (tH := tH)) (adr := a0 adr) (As := [.int x1]) kcV_X7_121 dX7_aheadOf_5 hf (fun q hq => cE_X2_streamAt q hq) wE_o_E rfl rfl rfl rfl (Nat.le_of_ble_eq_true rfl) rfl rfl ⟨Nat.le_of_ble_eq_true rfl, Nat.le_of_ble_eq_true rfl⟩ (fun v5 s5 hf => ?_)
  refine z_astore_nq B [(3, zq (a0 adr) v5), (0, .ref (adr 600)), (1, .int x1), (2, .int x2)] dX7_aheadOf_8 rfl (Nat.le_of_ble_eq_true rfl) rfl ?_
  refine z_aload_nq B dX7_aheadOf_9 0 rfl rfl ?_
  cases v5 with
  | none =>
    refine z_ifnull_N B 20 dX7_aheadOf_10 (by decide) ?_
    exact z_loc [1, 2, 3, 0] _ rfl (tT_X7_aheadOf_20 B N s5 x1 x2 none hf)
  | some p10 =>
    refine z_ifnull_S B dX7_aheadOf_10 ?_
    refine z_aload_n B dX7_aheadOf_13 0 rfl rfl ?_
    refine fT_g_S_stride B p10 dX7_aheadOf_14 hf (fun v14 hf => ?_)
    refine z_if_ne B 22 dX7_aheadOf_17 (by decide) hf (fun hf => ?_) (fun hf => ?_)
    · refine z_aload_n B dX7_aheadOf_22 1 rfl rfl ?_
      refine fT_g_P_now B dX7_aheadOf_23 ?_
      refine fT_g_E0_cache B dX7_aheadOf_26 ?_
      refine z_aload_n B dX7_aheadOf_29 0 rfl rfl ?_
      refine z_iload_n B dX7_aheadOf_30 3 rfl rfl ?_
      refine z_callVLi B (lE0 (adr := adr) (cI := cI) (cZ := cZ) (cS := cS) (cD := cD) (cE := cE) (tL := tL) (tH := tH)) (As := [.ref (a0 adr (12 + (p10).val)), .int x2]) kcV_X7_169 dX7_aheadOf_31 hf (fun q hq => cE_X0_waitingBeyond q hq) wE_o_C rfl rfl rfl rfl (Nat.le_of_ble_eq_true rfl) rfl rfl ⟨Nat.le_of_ble_eq_true rfl, Nat.le_of_ble_eq_true rfl⟩ (fun v31 s31 hf => ?_)
      exact z_ireturn B dX7_aheadOf_34 hf
    · exact z_loc [1, 2, 3, 0] _ rfl (tT_X7_aheadOf_20 B N s5 x1 x2 (some p10) hf)
theorem dX7_log_0 : decode cX7_log 0 = .ok (.aload_n 0, 1) := by decide +kernel
theorem dX7_log_1 : decode cX7_log 1 = .ok (.getfield 26, 3) := by decide +kernel
theorem dX7_log_4 : decode cX7_log 4 = .ok (.getfield 180, 3) := by decide +kernel
theorem dX7_log_7 : decode cX7_log 7 = .ok (.iload_n 1, 1) := by decide +kernel
theorem dX7_log_8 : decode cX7_log 8 = .ok (.iload_n 2, 1) := by decide +kernel
theorem dX7_log_9 : decode cX7_log 9 = .ok (.invokevirtual 184, 3) := by decide +kernel
theorem dX7_log_12 : decode cX7_log 12 = .ok (.ireturn, 1) := by decide +kernel
def mT_X7_log (N : Nat) (σ : ST) (x1 : Int32) (x2 : Int32) : Option (Int32 × ST) :=
  zCallL (mE_X6_tell N ((pE 0 0) σ) x1 x2) ((iE 0 0) σ) fun v9 s9 =>
  some (v9, s9)
set_option maxRecDepth 20000 in
set_option maxHeartbeats 2000000 in
theorem cT_X7_log {adr : Nat → Nat} {cI cZ cS cD cE : ClassId} {tL tH : Nat} {l : Launch} {D : va_G} {N : Nat} {σ : ST} {x1 : Int32} {x2 : Int32} (q : Int32 × ST) (hf : mT_X7_log N σ x1 x2 = some q) : zM l D (wdT adr cI cZ cS cD cE tL tH) yX7_log cX7_log 3 (some .int) ({ frames := 1, cells := 0, slots := 0, locals := 23 }) [.ref (adr 600), .int x1, .int x2] σ (zi q) := by
  refine zM_of sfE_ok rfl (Nat.le_of_ble_eq_true rfl) [(0, .ref (adr 600)), (1, .int x1), (2, .int x2)] rfl (fun X hX1 hX2 B => ?_)
  have B : zC X 3 (wdT adr cI cZ cS cD cE tL tH) cX7_log RX7 (some .int) { frames := 1, cells := 0, slots := 0, locals := 23 } := B
  refine z_aload_n B dX7_log_0 0 rfl rfl ?_
  refine fT_g_P_now B dX7_log_1 ?_
  refine fT_g_E0_log B dX7_log_4 ?_
  refine z_iload_n B dX7_log_7 1 rfl rfl ?_
  refine z_iload_n B dX7_log_8 2 rfl rfl ?_
  refine z_callVLi B (lE0 (adr := adr) (cI := cI) (cZ := cZ) (cS := cS) (cD := cD) (cE := cE) (tL := tL) (tH := tH)) (As := [.int x1, .int x2]) kcV_X7_184 dX7_log_9 hf (fun q hq => cE_X6_tell q hq) wE_o_G rfl rfl rfl rfl (Nat.le_of_ble_eq_true rfl) rfl rfl ⟨Nat.le_of_ble_eq_true rfl, Nat.le_of_ble_eq_true rfl⟩ (fun v9 s9 hf => ?_)
  exact z_ireturn B dX7_log_12 hf
