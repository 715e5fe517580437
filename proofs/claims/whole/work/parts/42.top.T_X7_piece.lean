theorem dX7_piece_0 : decode cX7_piece 0 = .ok (.iload_n 2, 1) := by decide +kernel
theorem dX7_piece_1 : decode cX7_piece 1 = .ok (.ifCond .eq 10, 3) := by decide +kernel
theorem dX7_piece_4 : decode cX7_piece 4 = .ok (.iload_n 2, 1) := by decide +kernel
theorem dX7_piece_5 : decode cX7_piece 5 = .ok (.iconst 1, 1) := by decide +kernel
theorem dX7_piece_6 : decode cX7_piece 6 = .ok (.if_icmp .eq 5, 3) := by decide +kernel
theorem dX7_piece_9 : decode cX7_piece 9 = .ok (.iconst (-1), 1) := by decide +kernel
theorem dX7_piece_10 : decode cX7_piece 10 = .ok (.ireturn, 1) := by decide +kernel
theorem dX7_piece_11 : decode cX7_piece 11 = .ok (.iload_n 1, 1) := by decide +kernel
theorem dX7_piece_12 : decode cX7_piece 12 = .ok (.iconst (-1), 1) := by decide +kernel
theorem dX7_piece_13 : decode cX7_piece 13 = .ok (.if_icmp .ne 25, 3) := by decide +kernel
theorem dX7_piece_16 : decode cX7_piece 16 = .ok (.iload_n 2, 1) := by decide +kernel
theorem dX7_piece_17 : decode cX7_piece 17 = .ok (.ifCond .ne 13, 3) := by decide +kernel
theorem dX7_piece_20 : decode cX7_piece 20 = .ok (.aload_n 0, 1) := by decide +kernel
theorem dX7_piece_21 : decode cX7_piece 21 = .ok (.getfield 42, 3) := by decide +kernel
theorem dX7_piece_24 : decode cX7_piece 24 = .ok (.invokevirtual 188, 3) := by decide +kernel
theorem dX7_piece_27 : decode cX7_piece 27 = .ok (.goto 10, 3) := by decide +kernel
theorem dX7_piece_30 : decode cX7_piece 30 = .ok (.aload_n 0, 1) := by decide +kernel
theorem dX7_piece_31 : decode cX7_piece 31 = .ok (.getfield 42, 3) := by decide +kernel
theorem dX7_piece_34 : decode cX7_piece 34 = .ok (.invokevirtual 192, 3) := by decide +kernel
theorem dX7_piece_37 : decode cX7_piece 37 = .ok (.ireturn, 1) := by decide +kernel
theorem dX7_piece_38 : decode cX7_piece 38 = .ok (.aload_n 0, 1) := by decide +kernel
theorem dX7_piece_39 : decode cX7_piece 39 = .ok (.getfield 42, 3) := by decide +kernel
theorem dX7_piece_42 : decode cX7_piece 42 = .ok (.iload_n 1, 1) := by decide +kernel
theorem dX7_piece_43 : decode cX7_piece 43 = .ok (.invokevirtual 195, 3) := by decide +kernel
theorem dX7_piece_46 : decode cX7_piece 46 = .ok (.istore_n 3, 1) := by decide +kernel
theorem dX7_piece_47 : decode cX7_piece 47 = .ok (.iload_n 3, 1) := by decide +kernel
theorem dX7_piece_48 : decode cX7_piece 48 = .ok (.iconst (-1), 1) := by decide +kernel
theorem dX7_piece_49 : decode cX7_piece 49 = .ok (.if_icmp .ne 5, 3) := by decide +kernel
theorem dX7_piece_52 : decode cX7_piece 52 = .ok (.iconst (-1), 1) := by decide +kernel
theorem dX7_piece_53 : decode cX7_piece 53 = .ok (.ireturn, 1) := by decide +kernel
theorem dX7_piece_54 : decode cX7_piece 54 = .ok (.iload_n 2, 1) := by decide +kernel
theorem dX7_piece_55 : decode cX7_piece 55 = .ok (.ifCond .ne 14, 3) := by decide +kernel
theorem dX7_piece_58 : decode cX7_piece 58 = .ok (.aload_n 0, 1) := by decide +kernel
theorem dX7_piece_59 : decode cX7_piece 59 = .ok (.getfield 42, 3) := by decide +kernel
theorem dX7_piece_62 : decode cX7_piece 62 = .ok (.iload_n 3, 1) := by decide +kernel
theorem dX7_piece_63 : decode cX7_piece 63 = .ok (.invokevirtual 198, 3) := by decide +kernel
theorem dX7_piece_66 : decode cX7_piece 66 = .ok (.goto 14, 3) := by decide +kernel
theorem dX7_piece_69 : decode cX7_piece 69 = .ok (.aload_n 0, 1) := by decide +kernel
theorem dX7_piece_70 : decode cX7_piece 70 = .ok (.getfield 26, 3) := by decide +kernel
theorem dX7_piece_73 : decode cX7_piece 73 = .ok (.getfield 35, 3) := by decide +kernel
theorem dX7_piece_76 : decode cX7_piece 76 = .ok (.iload_n 3, 1) := by decide +kernel
theorem dX7_piece_77 : decode cX7_piece 77 = .ok (.invokevirtual 201, 3) := by decide +kernel
theorem dX7_piece_80 : decode cX7_piece 80 = .ok (.ireturn, 1) := by decide +kernel
def mT_X7_piece_80 (N : Nat) (σ : ST) (x1 : Int32) (x2 : Int32) (x3 : Int32) (k0 : Int32) : Option (Int32 × ST) :=
  some (k0, σ)
set_option maxRecDepth 20000 in
set_option maxHeartbeats 2000000 in
theorem tT_X7_piece_80 {adr : Nat → Nat} {cI cZ cS cD cE : ClassId} {tL tH : Nat} {X : zX} {q : Int32 × ST} (B : zC X 4 (wdT adr cI cZ cS cD cE tL tH) cX7_piece RX7 (some .int) { frames := 4, cells := 0, slots := 0, locals := 87 }) (N : Nat) (σ : ST) (x1 : Int32) (x2 : Int32) (x3 : Int32) (k0 : Int32) (hf : mT_X7_piece_80 N σ x1 x2 x3 k0 = some q) : zJ X 4 (wdT adr cI cZ cS cD cE tL tH) (zi q) 80 [(0, .ref (adr 600)), (1, .int x1), (2, .int x2), (3, .int x3)] [.int k0] σ := by
  exact z_ireturn B dX7_piece_80 hf
def mT_X7_piece_37 (N : Nat) (σ : ST) (x1 : Int32) (x2 : Int32) (k0 : Int32) : Option (Int32 × ST) :=
  some (k0, σ)
set_option maxRecDepth 20000 in
set_option maxHeartbeats 2000000 in
theorem tT_X7_piece_37 {adr : Nat → Nat} {cI cZ cS cD cE : ClassId} {tL tH : Nat} {X : zX} {q : Int32 × ST} (B : zC X 4 (wdT adr cI cZ cS cD cE tL tH) cX7_piece RX7 (some .int) { frames := 4, cells := 0, slots := 0, locals := 87 }) (N : Nat) (σ : ST) (x1 : Int32) (x2 : Int32) (k0 : Int32) (hf : mT_X7_piece_37 N σ x1 x2 k0 = some q) : zJ X 4 (wdT adr cI cZ cS cD cE tL tH) (zi q) 37 [(0, .ref (adr 600)), (1, .int x1), (2, .int x2)] [.int k0] σ := by
  exact z_ireturn B dX7_piece_37 hf
def mT_X7_piece_11 (N : Nat) (σ : ST) (x1 : Int32) (x2 : Int32) : Option (Int32 × ST) :=
  if (x1 : Int32) = (-1) then
    if (x2 : Int32) = 0 then
      zCallL (mU_X5_pieces N (pU σ)) (iU σ) fun v24 s24 =>
      mT_X7_piece_37 N s24 x1 x2 v24
    else
      zCallL (mU_X5_longestPiece N (pU σ)) (iU σ) fun v34 s34 =>
      mT_X7_piece_37 N s34 x1 x2 v34
  else
    zCallL (mU_X5_pieceStart N (pU σ) x1) (iU σ) fun v43 s43 =>
    if (v43 : Int32) = (-1) then
      some ((-1), s43)
    else
      if (x2 : Int32) = 0 then
        zCallL (mU_X5_pieceLength N (pU s43) v43) (iU s43) fun v63 s63 =>
        mT_X7_piece_80 N s63 x1 x2 v43 v63
      else
        zCallL (mE_X3_blockAt N ((pE 0 0) s43) v43) ((iE 0 0) s43) fun v77 s77 =>
        mT_X7_piece_80 N s77 x1 x2 v43 v77
set_option maxRecDepth 20000 in
set_option maxHeartbeats 2000000 in
theorem tT_X7_piece_11 {adr : Nat → Nat} {cI cZ cS cD cE : ClassId} {tL tH : Nat} {X : zX} {q : Int32 × ST} (B : zC X 4 (wdT adr cI cZ cS cD cE tL tH) cX7_piece RX7 (some .int) { frames := 4, cells := 0, slots := 0, locals := 87 }) (N : Nat) (σ : ST) (x1 : Int32) (x2 : Int32) (hf : mT_X7_piece_11 N σ x1 x2 = some q) : zJ X 4 (wdT adr cI cZ cS cD cE tL tH) (zi q) 11 [(0, .ref (adr 600)), (1, .int x1), (2, .int x2)] [] σ := by
  refine z_iload_n B dX7_piece_11 1 rfl rfl ?_
  refine z_iconst B (-1) dX7_piece_12 zc_iconst_m1 ?_
  refine z_icmp_ne B 38 dX7_piece_13 (by decide) hf (fun hf => ?_) (fun hf => ?_)
  · refine z_aload_n B dX7_piece_38 0 rfl rfl ?_
    refine fT_g_P_study B dX7_piece_39 ?_
    refine z_iload_n B dX7_piece_42 1 rfl rfl ?_
    refine z_callVLi B (lU (adr := adr) (cI := cI) (cZ := cZ) (cS := cS) (cD := cD) (cE := cE) (tL := tL) (tH := tH)) (As := [.int x1]) kcV_X7_195 dX7_piece_43 hf (fun q hq => cU_X5_pieceStart q hq) wU_o_U rfl rfl rfl rfl (Nat.le_of_ble_eq_true rfl) rfl rfl ⟨Nat.le_of_ble_eq_true rfl, Nat.le_of_ble_eq_true rfl⟩ (fun v43 s43 hf => ?_)
    refine z_istore_n B [(3, .int v43), (0, .ref (adr 600)), (1, .int x1), (2, .int x2)] dX7_piece_46 rfl (Nat.le_of_ble_eq_true rfl) rfl ?_
    refine z_iload_n B dX7_piece_47 0 rfl rfl ?_
    refine z_iconst B (-1) dX7_piece_48 zc_iconst_m1 ?_
    refine z_icmp_ne B 54 dX7_piece_49 (by decide) hf (fun hf => ?_) (fun hf => ?_)
    · refine z_iload_n B dX7_piece_54 3 rfl rfl ?_
      refine z_if_ne B 69 dX7_piece_55 (by decide) hf (fun hf => ?_) (fun hf => ?_)
      · refine z_aload_n B dX7_piece_69 1 rfl rfl ?_
        refine fT_g_P_now B dX7_piece_70 ?_
        refine fT_g_E0_history B dX7_piece_73 ?_
        refine z_iload_n B dX7_piece_76 0 rfl rfl ?_
        refine z_callVLi B (lE0 (adr := adr) (cI := cI) (cZ := cZ) (cS := cS) (cD := cD) (cE := cE) (tL := tL) (tH := tH)) (As := [.int v43]) kcV_X7_201 dX7_piece_77 hf (fun q hq => cE_X3_blockAt q hq) wE_o_H rfl rfl rfl rfl (Nat.le_of_ble_eq_true rfl) rfl rfl ⟨Nat.le_of_ble_eq_true rfl, Nat.le_of_ble_eq_true rfl⟩ (fun v77 s77 hf => ?_)
        exact z_loc [1, 2, 3, 0] _ rfl (tT_X7_piece_80 B N s77 x1 x2 v43 v77 hf)
      · refine z_aload_n B dX7_piece_58 1 rfl rfl ?_
        refine fT_g_P_study B dX7_piece_59 ?_
        refine z_iload_n B dX7_piece_62 0 rfl rfl ?_
        refine z_callVLi B (lU (adr := adr) (cI := cI) (cZ := cZ) (cS := cS) (cD := cD) (cE := cE) (tL := tL) (tH := tH)) (As := [.int v43]) kcV_X7_198 dX7_piece_63 hf (fun q hq => cU_X5_pieceLength q hq) wU_o_U rfl rfl rfl rfl (Nat.le_of_ble_eq_true rfl) rfl rfl ⟨Nat.le_of_ble_eq_true rfl, Nat.le_of_ble_eq_true rfl⟩ (fun v63 s63 hf => ?_)
        refine z_goto B 80 dX7_piece_66 (by decide) ?_
        exact z_loc [1, 2, 3, 0] _ rfl (tT_X7_piece_80 B N s63 x1 x2 v43 v63 hf)
    · refine z_iconst B (-1) dX7_piece_52 zc_iconst_m1 ?_
      exact z_ireturn B dX7_piece_53 hf
  · refine z_iload_n B dX7_piece_16 2 rfl rfl ?_
    refine z_if_ne B 30 dX7_piece_17 (by decide) hf (fun hf => ?_) (fun hf => ?_)
    · refine z_aload_n B dX7_piece_30 0 rfl rfl ?_
      refine fT_g_P_study B dX7_piece_31 ?_
      refine z_callVLi B (lU (adr := adr) (cI := cI) (cZ := cZ) (cS := cS) (cD := cD) (cE := cE) (tL := tL) (tH := tH)) (As := []) kcV_X7_192 dX7_piece_34 hf (fun q hq => cU_X5_longestPiece q hq) wU_o_U rfl rfl rfl rfl (Nat.le_of_ble_eq_true rfl) rfl rfl ⟨Nat.le_of_ble_eq_true rfl, Nat.le_of_ble_eq_true rfl⟩ (fun v34 s34 hf => ?_)
      exact tT_X7_piece_37 B N s34 x1 x2 v34 hf
    · refine z_aload_n B dX7_piece_20 0 rfl rfl ?_
      refine fT_g_P_study B dX7_piece_21 ?_
      refine z_callVLi B (lU (adr := adr) (cI := cI) (cZ := cZ) (cS := cS) (cD := cD) (cE := cE) (tL := tL) (tH := tH)) (As := []) kcV_X7_188 dX7_piece_24 hf (fun q hq => cU_X5_pieces q hq) wU_o_U rfl rfl rfl rfl (Nat.le_of_ble_eq_true rfl) rfl rfl ⟨Nat.le_of_ble_eq_true rfl, Nat.le_of_ble_eq_true rfl⟩ (fun v24 s24 hf => ?_)
      refine z_goto B 37 dX7_piece_27 (by decide) ?_
      exact tT_X7_piece_37 B N s24 x1 x2 v24 hf
def mT_X7_piece (N : Nat) (σ : ST) (x1 : Int32) (x2 : Int32) : Option (Int32 × ST) :=
  if (x2 : Int32) = 0 then
    mT_X7_piece_11 N σ x1 x2
  else
    if (x2 : Int32) = (1) then
      mT_X7_piece_11 N σ x1 x2
    else
      some ((-1), σ)
set_option maxRecDepth 20000 in
set_option maxHeartbeats 2000000 in
theorem cT_X7_piece {adr : Nat → Nat} {cI cZ cS cD cE : ClassId} {tL tH : Nat} {l : Launch} {D : va_G} {N : Nat} {σ : ST} {x1 : Int32} {x2 : Int32} (q : Int32 × ST) (hf : mT_X7_piece N σ x1 x2 = some q) : zM l D (wdT adr cI cZ cS cD cE tL tH) yX7_piece cX7_piece 4 (some .int) ({ frames := 4, cells := 0, slots := 0, locals := 87 }) [.ref (adr 600), .int x1, .int x2] σ (zi q) := by
  refine zM_of sfE_ok rfl (Nat.le_of_ble_eq_true rfl) [(0, .ref (adr 600)), (1, .int x1), (2, .int x2)] rfl (fun X hX1 hX2 B => ?_)
  have B : zC X 4 (wdT adr cI cZ cS cD cE tL tH) cX7_piece RX7 (some .int) { frames := 4, cells := 0, slots := 0, locals := 87 } := B
  refine z_iload_n B dX7_piece_0 2 rfl rfl ?_
  refine z_if_eq B 11 dX7_piece_1 (by decide) hf (fun hf => ?_) (fun hf => ?_)
  · exact tT_X7_piece_11 B N σ x1 x2 hf
  · refine z_iload_n B dX7_piece_4 2 rfl rfl ?_
    refine z_iconst B (1) dX7_piece_5 zc_iconst_1 ?_
    refine z_icmp_eq B 11 dX7_piece_6 (by decide) hf (fun hf => ?_) (fun hf => ?_)
    · exact tT_X7_piece_11 B N σ x1 x2 hf
    · refine z_iconst B (-1) dX7_piece_9 zc_iconst_m1 ?_
      exact z_ireturn B dX7_piece_10 hf
theorem dX7_whose_0 : decode cX7_whose 0 = .ok (.aload_n 0, 1) := by decide +kernel
theorem dX7_whose_1 : decode cX7_whose 1 = .ok (.getfield 26, 3) := by decide +kernel
theorem dX7_whose_4 : decode cX7_whose 4 = .ok (.getfield 35, 3) := by decide +kernel
theorem dX7_whose_7 : decode cX7_whose 7 = .ok (.iload_n 1, 1) := by decide +kernel
theorem dX7_whose_8 : decode cX7_whose 8 = .ok (.invokevirtual 206, 3) := by decide +kernel
theorem dX7_whose_11 : decode cX7_whose 11 = .ok (.istore_n 3, 1) := by decide +kernel
theorem dX7_whose_12 : decode cX7_whose 12 = .ok (.iload_n 3, 1) := by decide +kernel
theorem dX7_whose_13 : decode cX7_whose 13 = .ok (.iconst (-1), 1) := by decide +kernel
theorem dX7_whose_14 : decode cX7_whose 14 = .ok (.if_icmp .ne 5, 3) := by decide +kernel
theorem dX7_whose_17 : decode cX7_whose 17 = .ok (.iconst (-1), 1) := by decide +kernel
theorem dX7_whose_18 : decode cX7_whose 18 = .ok (.ireturn, 1) := by decide +kernel
theorem dX7_whose_19 : decode cX7_whose 19 = .ok (.iload_n 2, 1) := by decide +kernel
theorem dX7_whose_20 : decode cX7_whose 20 = .ok (.lookupswitch 52 #[(0, 28), (1, 40)], 28) := by decide +kernel
theorem dX7_whose_48 : decode cX7_whose 48 = .ok (.aload_n 0, 1) := by decide +kernel
theorem dX7_whose_49 : decode cX7_whose 49 = .ok (.getfield 26, 3) := by decide +kernel
theorem dX7_whose_52 : decode cX7_whose 52 = .ok (.getfield 35, 3) := by decide +kernel
theorem dX7_whose_55 : decode cX7_whose 55 = .ok (.iload_n 3, 1) := by decide +kernel
theorem dX7_whose_56 : decode cX7_whose 56 = .ok (.invokevirtual 209, 3) := by decide +kernel
theorem dX7_whose_59 : decode cX7_whose 59 = .ok (.ireturn, 1) := by decide +kernel
theorem dX7_whose_60 : decode cX7_whose 60 = .ok (.aload_n 0, 1) := by decide +kernel
theorem dX7_whose_61 : decode cX7_whose 61 = .ok (.getfield 26, 3) := by decide +kernel
theorem dX7_whose_64 : decode cX7_whose 64 = .ok (.getfield 35, 3) := by decide +kernel
theorem dX7_whose_67 : decode cX7_whose 67 = .ok (.iload_n 3, 1) := by decide +kernel
theorem dX7_whose_68 : decode cX7_whose 68 = .ok (.invokevirtual 212, 3) := by decide +kernel
theorem dX7_whose_71 : decode cX7_whose 71 = .ok (.ireturn, 1) := by decide +kernel
theorem dX7_whose_72 : decode cX7_whose 72 = .ok (.iconst (-1), 1) := by decide +kernel
theorem dX7_whose_73 : decode cX7_whose 73 = .ok (.ireturn, 1) := by decide +kernel
def mT_X7_whose (N : Nat) (σ : ST) (x1 : Int32) (x2 : Int32) : Option (Int32 × ST) :=
  zCallL (mE_X3_fromLatest N ((pE 0 0) σ) x1) ((iE 0 0) σ) fun v8 s8 =>
  if (v8 : Int32) = (-1) then
    some ((-1), s8)
  else
    if (x2 : Int32) = (0) then
      zCallL (mE_X3_numberAt N ((pE 0 0) s8) v8) ((iE 0 0) s8) fun v56 s56 =>
      some (v56, s56)
    else
    if (x2 : Int32) = (1) then
      zCallL (mE_X3_kindAt N ((pE 0 0) s8) v8) ((iE 0 0) s8) fun v68 s68 =>
      some (v68, s68)
    else
      some ((-1), s8)
set_option maxRecDepth 20000 in
set_option maxHeartbeats 2000000 in
theorem cT_X7_whose {adr : Nat → Nat} {cI cZ cS cD cE : ClassId} {tL tH : Nat} {l : Launch} {D : va_G} {N : Nat} {σ : ST} {x1 : Int32} {x2 : Int32} (q : Int32 × ST) (hf : mT_X7_whose N σ x1 x2 = some q) : zM l D (wdT adr cI cZ cS cD cE tL tH) yX7_whose cX7_whose 4 (some .int) ({ frames := 2, cells := 0, slots := 0, locals := 43 }) [.ref (adr 600), .int x1, .int x2] σ (zi q) := by
  refine zM_of sfE_ok rfl (Nat.le_of_ble_eq_true rfl) [(0, .ref (adr 600)), (1, .int x1), (2, .int x2)] rfl (fun X hX1 hX2 B => ?_)
  have B : zC X 4 (wdT adr cI cZ cS cD cE tL tH) cX7_whose RX7 (some .int) { frames := 2, cells := 0, slots := 0, locals := 43 } := B
  refine z_aload_n B dX7_whose_0 0 rfl rfl ?_
  refine fT_g_P_now B dX7_whose_1 ?_
  refine fT_g_E0_history B dX7_whose_4 ?_
  refine z_iload_n B dX7_whose_7 1 rfl rfl ?_
  refine z_callVLi B (lE0 (adr := adr) (cI := cI) (cZ := cZ) (cS := cS) (cD := cD) (cE := cE) (tL := tL) (tH := tH)) (As := [.int x1]) kcV_X7_206 dX7_whose_8 hf (fun q hq => cE_X3_fromLatest q hq) wE_o_H rfl rfl rfl rfl (Nat.le_of_ble_eq_true rfl) rfl rfl ⟨Nat.le_of_ble_eq_true rfl, Nat.le_of_ble_eq_true rfl⟩ (fun v8 s8 hf => ?_)
  refine z_istore_n B [(3, .int v8), (0, .ref (adr 600)), (1, .int x1), (2, .int x2)] dX7_whose_11 rfl (Nat.le_of_ble_eq_true rfl) rfl ?_
  refine z_iload_n B dX7_whose_12 0 rfl rfl ?_
  refine z_iconst B (-1) dX7_whose_13 zc_iconst_m1 ?_
  refine z_icmp_ne B 19 dX7_whose_14 (by decide) hf (fun hf => ?_) (fun hf => ?_)
  · refine z_iload_n B dX7_whose_19 3 rfl rfl ?_
    by_cases h20_0 : x2 = (0)
    · replace hf := zIfp h20_0 hf
      refine z_lookup B (off := 28) 48 dX7_whose_20 (by decide) (by rw [h20_0]; decide) (by decide) ?_
      refine z_aload_n B dX7_whose_48 1 rfl rfl ?_
      refine fT_g_P_now B dX7_whose_49 ?_
      refine fT_g_E0_history B dX7_whose_52 ?_
      refine z_iload_n B dX7_whose_55 0 rfl rfl ?_
      refine z_callVLi B (lE0 (adr := adr) (cI := cI) (cZ := cZ) (cS := cS) (cD := cD) (cE := cE) (tL := tL) (tH := tH)) (As := [.int v8]) kcV_X7_209 dX7_whose_56 hf (fun q hq => cE_X3_numberAt q hq) wE_o_H rfl rfl rfl rfl (Nat.le_of_ble_eq_true rfl) rfl rfl ⟨Nat.le_of_ble_eq_true rfl, Nat.le_of_ble_eq_true rfl⟩ (fun v56 s56 hf => ?_)
      exact z_ireturn B dX7_whose_59 hf
    replace hf := zIfn h20_0 hf
    by_cases h20_1 : x2 = (1)
    · replace hf := zIfp h20_1 hf
      refine z_lookup B (off := 40) 60 dX7_whose_20 (by decide) (by rw [h20_1]; decide) (by decide) ?_
      refine z_aload_n B dX7_whose_60 1 rfl rfl ?_
      refine fT_g_P_now B dX7_whose_61 ?_
      refine fT_g_E0_history B dX7_whose_64 ?_
      refine z_iload_n B dX7_whose_67 0 rfl rfl ?_
      refine z_callVLi B (lE0 (adr := adr) (cI := cI) (cZ := cZ) (cS := cS) (cD := cD) (cE := cE) (tL := tL) (tH := tH)) (As := [.int v8]) kcV_X7_212 dX7_whose_68 hf (fun q hq => cE_X3_kindAt q hq) wE_o_H rfl rfl rfl rfl (Nat.le_of_ble_eq_true rfl) rfl rfl ⟨Nat.le_of_ble_eq_true rfl, Nat.le_of_ble_eq_true rfl⟩ (fun v68 s68 hf => ?_)
      exact z_ireturn B dX7_whose_71 hf
    replace hf := zIfn h20_1 hf
    have ho20 : Op.lookupswitch.offset [(0, 28), (1, 40)] 52 x2.toInt = 52 := by
      have e0 : x2.toInt ≠ 0 := z_ne h20_0 (by decide)
      have e1 : x2.toInt ≠ 1 := z_ne h20_1 (by decide)
      have f0 : ¬ (0 = x2.toInt) := fun h => e0 h.symm ; have f1 : ¬ (1 = x2.toInt) := fun h => e1 h.symm
      simp [Op.lookupswitch.offset, e0, e1, f0, f1]
    refine z_lookup B (off := 52) 72 dX7_whose_20 (by decide) ho20 (by decide) ?_
    refine z_iconst B (-1) dX7_whose_72 zc_iconst_m1 ?_
    exact z_ireturn B dX7_whose_73 hf
  · refine z_iconst B (-1) dX7_whose_17 zc_iconst_m1 ?_
    exact z_ireturn B dX7_whose_18 hf
theorem dX7_mixed_0 : decode cX7_mixed 0 = .ok (.iload_n 1, 1) := by decide +kernel
theorem dX7_mixed_1 : decode cX7_mixed 1 = .ok (.tableswitch 51 0 2 #[27, 35, 43], 27) := by decide +kernel
theorem dX7_mixed_28 : decode cX7_mixed 28 = .ok (.aload_n 0, 1) := by decide +kernel
theorem dX7_mixed_29 : decode cX7_mixed 29 = .ok (.getfield 42, 3) := by decide +kernel
theorem dX7_mixed_32 : decode cX7_mixed 32 = .ok (.invokevirtual 215, 3) := by decide +kernel
theorem dX7_mixed_35 : decode cX7_mixed 35 = .ok (.ireturn, 1) := by decide +kernel
theorem dX7_mixed_36 : decode cX7_mixed 36 = .ok (.aload_n 0, 1) := by decide +kernel
theorem dX7_mixed_37 : decode cX7_mixed 37 = .ok (.getfield 42, 3) := by decide +kernel
theorem dX7_mixed_40 : decode cX7_mixed 40 = .ok (.invokevirtual 218, 3) := by decide +kernel
theorem dX7_mixed_43 : decode cX7_mixed 43 = .ok (.ireturn, 1) := by decide +kernel
theorem dX7_mixed_44 : decode cX7_mixed 44 = .ok (.aload_n 0, 1) := by decide +kernel
theorem dX7_mixed_45 : decode cX7_mixed 45 = .ok (.getfield 42, 3) := by decide +kernel
theorem dX7_mixed_48 : decode cX7_mixed 48 = .ok (.invokevirtual 221, 3) := by decide +kernel
theorem dX7_mixed_51 : decode cX7_mixed 51 = .ok (.ireturn, 1) := by decide +kernel
theorem dX7_mixed_52 : decode cX7_mixed 52 = .ok (.iconst (-1), 1) := by decide +kernel
theorem dX7_mixed_53 : decode cX7_mixed 53 = .ok (.ireturn, 1) := by decide +kernel
def mT_X7_mixed (N : Nat) (σ : ST) (x1 : Int32) : Option (Int32 × ST) :=
  if (x1 : Int32) = (0) then
    zCallL (mU_X5_changesOfStream N (pU σ)) (iU σ) fun v32 s32 =>
    some (v32, s32)
  else
  if (x1 : Int32) = (1) then
    zCallL (mU_X5_streamsRead N (pU σ)) (iU σ) fun v40 s40 =>
    some (v40, s40)
  else
  if (x1 : Int32) = (2) then
    zCallL (mU_X5_mostOfOneStream N (pU σ)) (iU σ) fun v48 s48 =>
    some (v48, s48)
  else
    some ((-1), σ)
set_option maxRecDepth 20000 in
set_option maxHeartbeats 2000000 in
theorem cT_X7_mixed {adr : Nat → Nat} {cI cZ cS cD cE : ClassId} {tL tH : Nat} {l : Launch} {D : va_G} {N : Nat} {σ : ST} {x1 : Int32} (q : Int32 × ST) (hf : mT_X7_mixed N σ x1 = some q) : zM l D (wdT adr cI cZ cS cD cE tL tH) yX7_mixed cX7_mixed 2 (some .int) ({ frames := 4, cells := 0, slots := 0, locals := 89 }) [.ref (adr 600), .int x1] σ (zi q) := by
  refine zM_of sfE_ok rfl (Nat.le_of_ble_eq_true rfl) [(0, .ref (adr 600)), (1, .int x1)] rfl (fun X hX1 hX2 B => ?_)
  have B : zC X 2 (wdT adr cI cZ cS cD cE tL tH) cX7_mixed RX7 (some .int) { frames := 4, cells := 0, slots := 0, locals := 89 } := B
  refine z_iload_n B dX7_mixed_0 1 rfl rfl ?_
  by_cases h1_0 : x1 = (0)
  · replace hf := zIfp h1_0 hf
    refine z_tabIn B (off := 27) 28 dX7_mixed_1 (by rw [h1_0]; decide) (by rw [h1_0]; decide) (by rw [h1_0]; decide) (by decide) ?_
    refine z_aload_n B dX7_mixed_28 0 rfl rfl ?_
    refine fT_g_P_study B dX7_mixed_29 ?_
    refine z_callVLi B (lU (adr := adr) (cI := cI) (cZ := cZ) (cS := cS) (cD := cD) (cE := cE) (tL := tL) (tH := tH)) (As := []) kcV_X7_215 dX7_mixed_32 hf (fun q hq => cU_X5_changesOfStream q hq) wU_o_U rfl rfl rfl rfl (Nat.le_of_ble_eq_true rfl) rfl rfl ⟨Nat.le_of_ble_eq_true rfl, Nat.le_of_ble_eq_true rfl⟩ (fun v32 s32 hf => ?_)
    exact z_ireturn B dX7_mixed_35 hf
  replace hf := zIfn h1_0 hf
  by_cases h1_1 : x1 = (1)
  · replace hf := zIfp h1_1 hf
    refine z_tabIn B (off := 35) 36 dX7_mixed_1 (by rw [h1_1]; decide) (by rw [h1_1]; decide) (by rw [h1_1]; decide) (by decide) ?_
    refine z_aload_n B dX7_mixed_36 0 rfl rfl ?_
    refine fT_g_P_study B dX7_mixed_37 ?_
    refine z_callVLi B (lU (adr := adr) (cI := cI) (cZ := cZ) (cS := cS) (cD := cD) (cE := cE) (tL := tL) (tH := tH)) (As := []) kcV_X7_218 dX7_mixed_40 hf (fun q hq => cU_X5_streamsRead q hq) wU_o_U rfl rfl rfl rfl (Nat.le_of_ble_eq_true rfl) rfl rfl ⟨Nat.le_of_ble_eq_true rfl, Nat.le_of_ble_eq_true rfl⟩ (fun v40 s40 hf => ?_)
    exact z_ireturn B dX7_mixed_43 hf
  replace hf := zIfn h1_1 hf
  by_cases h1_2 : x1 = (2)
  · replace hf := zIfp h1_2 hf
    refine z_tabIn B (off := 43) 44 dX7_mixed_1 (by rw [h1_2]; decide) (by rw [h1_2]; decide) (by rw [h1_2]; decide) (by decide) ?_
    refine z_aload_n B dX7_mixed_44 0 rfl rfl ?_
    refine fT_g_P_study B dX7_mixed_45 ?_
    refine z_callVLi B (lU (adr := adr) (cI := cI) (cZ := cZ) (cS := cS) (cD := cD) (cE := cE) (tL := tL) (tH := tH)) (As := []) kcV_X7_221 dX7_mixed_48 hf (fun q hq => cU_X5_mostOfOneStream q hq) wU_o_U rfl rfl rfl rfl (Nat.le_of_ble_eq_true rfl) rfl rfl ⟨Nat.le_of_ble_eq_true rfl, Nat.le_of_ble_eq_true rfl⟩ (fun v48 s48 hf => ?_)
    exact z_ireturn B dX7_mixed_51 hf
  replace hf := zIfn h1_2 hf
  have kd1 : zJ X 2 (wdT adr cI cZ cS cD cE tL tH) (zi q) 52 [(0, .ref (adr 600)), (1, .int x1)] [] σ := by
    refine z_iconst B (-1) dX7_mixed_52 zc_iconst_m1 ?_
    exact z_ireturn B dX7_mixed_53 hf
  by_cases ho1 : x1.toInt < 0 ∨ 2 < x1.toInt
  · exact z_tabOut B 52 dX7_mixed_1 ho1 (by decide) kd1
  · have e0 : x1.toInt ≠ 0 := z_ne h1_0 (by decide)
    have e1 : x1.toInt ≠ 1 := z_ne h1_1 (by decide)
    have e2 : x1.toInt ≠ 2 := z_ne h1_2 (by decide)
    exfalso
    omega
theorem dX7_trace_0 : decode cX7_trace 0 = .ok (.aload_n 0, 1) := by decide +kernel
theorem dX7_trace_1 : decode cX7_trace 1 = .ok (.getfield 26, 3) := by decide +kernel
theorem dX7_trace_4 : decode cX7_trace 4 = .ok (.getfield 35, 3) := by decide +kernel
theorem dX7_trace_7 : decode cX7_trace 7 = .ok (.aload_n 0, 1) := by decide +kernel
theorem dX7_trace_8 : decode cX7_trace 8 = .ok (.getfield 26, 3) := by decide +kernel
theorem dX7_trace_11 : decode cX7_trace 11 = .ok (.getfield 35, 3) := by decide +kernel
theorem dX7_trace_14 : decode cX7_trace 14 = .ok (.iload_n 1, 1) := by decide +kernel
theorem dX7_trace_15 : decode cX7_trace 15 = .ok (.invokevirtual 206, 3) := by decide +kernel
theorem dX7_trace_18 : decode cX7_trace 18 = .ok (.invokevirtual 201, 3) := by decide +kernel
theorem dX7_trace_21 : decode cX7_trace 21 = .ok (.ireturn, 1) := by decide +kernel
def mT_X7_trace (N : Nat) (σ : ST) (x1 : Int32) : Option (Int32 × ST) :=
  zCallL (mE_X3_fromLatest N ((pE 0 0) σ) x1) ((iE 0 0) σ) fun v15 s15 =>
  zCallL (mE_X3_blockAt N ((pE 0 0) s15) v15) ((iE 0 0) s15) fun v18 s18 =>
  some (v18, s18)
set_option maxRecDepth 20000 in
set_option maxHeartbeats 2000000 in
theorem cT_X7_trace {adr : Nat → Nat} {cI cZ cS cD cE : ClassId} {tL tH : Nat} {l : Launch} {D : va_G} {N : Nat} {σ : ST} {x1 : Int32} (q : Int32 × ST) (hf : mT_X7_trace N σ x1 = some q) : zM l D (wdT adr cI cZ cS cD cE tL tH) yX7_trace cX7_trace 2 (some .int) ({ frames := 2, cells := 0, slots := 0, locals := 43 }) [.ref (adr 600), .int x1] σ (zi q) := by
  refine zM_of sfE_ok rfl (Nat.le_of_ble_eq_true rfl) [(0, .ref (adr 600)), (1, .int x1)] rfl (fun X hX1 hX2 B => ?_)
  have B : zC X 2 (wdT adr cI cZ cS cD cE tL tH) cX7_trace RX7 (some .int) { frames := 2, cells := 0, slots := 0, locals := 43 } := B
  refine z_aload_n B dX7_trace_0 0 rfl rfl ?_
  refine fT_g_P_now B dX7_trace_1 ?_
  refine fT_g_E0_history B dX7_trace_4 ?_
  refine z_aload_n B dX7_trace_7 0 rfl rfl ?_
  refine fT_g_P_now B dX7_trace_8 ?_
  refine fT_g_E0_history B dX7_trace_11 ?_
  refine z_iload_n B dX7_trace_14 1 rfl rfl ?_
  refine z_callVLi B (lE0 (adr := adr) (cI := cI) (cZ := cZ) (cS := cS) (cD := cD) (cE := cE) (tL := tL) (tH := tH)) (As := [.int x1]) kcV_X7_206 dX7_trace_15 hf (fun q hq => cE_X3_fromLatest q hq) wE_o_H rfl rfl rfl rfl (Nat.le_of_ble_eq_true rfl) rfl rfl ⟨Nat.le_of_ble_eq_true rfl, Nat.le_of_ble_eq_true rfl⟩ (fun v15 s15 hf => ?_)
  refine z_callVLi B (lE0 (adr := adr) (cI := cI) (cZ := cZ) (cS := cS) (cD := cD) (cE := cE) (tL := tL) (tH := tH)) (As := [.int v15]) kcV_X7_201 dX7_trace_18 hf (fun q hq => cE_X3_blockAt q hq) wE_o_H rfl rfl rfl rfl (Nat.le_of_ble_eq_true rfl) rfl rfl ⟨Nat.le_of_ble_eq_true rfl, Nat.le_of_ble_eq_true rfl⟩ (fun v18 s18 hf => ?_)
  exact z_ireturn B dX7_trace_21 hf
theorem dX7_habits_0 : decode cX7_habits 0 = .ok (.aload_n 0, 1) := by decide +kernel
theorem dX7_habits_1 : decode cX7_habits 1 = .ok (.getfield 26, 3) := by decide +kernel
theorem dX7_habits_4 : decode cX7_habits 4 = .ok (.getfield 35, 3) := by decide +kernel
theorem dX7_habits_7 : decode cX7_habits 7 = .ok (.getfield 249, 3) := by decide +kernel
theorem dX7_habits_10 : decode cX7_habits 10 = .ok (.ifCond .ne 5, 3) := by decide +kernel
theorem dX7_habits_13 : decode cX7_habits 13 = .ok (.iconst (-1), 1) := by decide +kernel
theorem dX7_habits_14 : decode cX7_habits 14 = .ok (.ireturn, 1) := by decide +kernel
theorem dX7_habits_15 : decode cX7_habits 15 = .ok (.iload_n 1, 1) := by decide +kernel
theorem dX7_habits_16 : decode cX7_habits 16 = .ok (.tableswitch 94 0 4 #[36, 44, 52, 60, 75], 36) := by decide +kernel
theorem dX7_habits_52 : decode cX7_habits 52 = .ok (.aload_n 0, 1) := by decide +kernel
theorem dX7_habits_53 : decode cX7_habits 53 = .ok (.getfield 42, 3) := by decide +kernel
theorem dX7_habits_56 : decode cX7_habits 56 = .ok (.invokevirtual 270, 3) := by decide +kernel
theorem dX7_habits_59 : decode cX7_habits 59 = .ok (.ireturn, 1) := by decide +kernel
theorem dX7_habits_60 : decode cX7_habits 60 = .ok (.aload_n 0, 1) := by decide +kernel
theorem dX7_habits_61 : decode cX7_habits 61 = .ok (.getfield 42, 3) := by decide +kernel
theorem dX7_habits_64 : decode cX7_habits 64 = .ok (.invokevirtual 273, 3) := by decide +kernel
theorem dX7_habits_67 : decode cX7_habits 67 = .ok (.ireturn, 1) := by decide +kernel
theorem dX7_habits_68 : decode cX7_habits 68 = .ok (.aload_n 0, 1) := by decide +kernel
theorem dX7_habits_69 : decode cX7_habits 69 = .ok (.getfield 42, 3) := by decide +kernel
theorem dX7_habits_72 : decode cX7_habits 72 = .ok (.invokevirtual 276, 3) := by decide +kernel
theorem dX7_habits_75 : decode cX7_habits 75 = .ok (.ireturn, 1) := by decide +kernel
theorem dX7_habits_76 : decode cX7_habits 76 = .ok (.aload_n 0, 1) := by decide +kernel
theorem dX7_habits_77 : decode cX7_habits 77 = .ok (.getfield 42, 3) := by decide +kernel
theorem dX7_habits_80 : decode cX7_habits 80 = .ok (.aload_n 0, 1) := by decide +kernel
theorem dX7_habits_81 : decode cX7_habits 81 = .ok (.getfield 42, 3) := by decide +kernel
theorem dX7_habits_84 : decode cX7_habits 84 = .ok (.invokevirtual 276, 3) := by decide +kernel
theorem dX7_habits_87 : decode cX7_habits 87 = .ok (.invokevirtual 279, 3) := by decide +kernel
theorem dX7_habits_90 : decode cX7_habits 90 = .ok (.ireturn, 1) := by decide +kernel
theorem dX7_habits_91 : decode cX7_habits 91 = .ok (.aload_n 0, 1) := by decide +kernel
theorem dX7_habits_92 : decode cX7_habits 92 = .ok (.getfield 26, 3) := by decide +kernel
theorem dX7_habits_95 : decode cX7_habits 95 = .ok (.getfield 35, 3) := by decide +kernel
theorem dX7_habits_98 : decode cX7_habits 98 = .ok (.getfield 249, 3) := by decide +kernel
theorem dX7_habits_101 : decode cX7_habits 101 = .ok (.aload_n 0, 1) := by decide +kernel
theorem dX7_habits_102 : decode cX7_habits 102 = .ok (.getfield 42, 3) := by decide +kernel
theorem dX7_habits_105 : decode cX7_habits 105 = .ok (.invokevirtual 188, 3) := by decide +kernel
theorem dX7_habits_108 : decode cX7_habits 108 = .ok (.isub, 1) := by decide +kernel
theorem dX7_habits_109 : decode cX7_habits 109 = .ok (.ireturn, 1) := by decide +kernel
theorem dX7_habits_110 : decode cX7_habits 110 = .ok (.iconst (-1), 1) := by decide +kernel
theorem dX7_habits_111 : decode cX7_habits 111 = .ok (.ireturn, 1) := by decide +kernel
def mT_X7_habits (N : Nat) (σ : ST) (x1 : Int32) : Option (Int32 × ST) :=
  zLet (σ 18 4) fun v7 =>
  if (v7 : Int32) = 0 then
    some ((-1), σ)
  else
    if (x1 : Int32) = (0) then
      zCallL (mU_X5_unlikeBlocks N (pU σ)) (iU σ) fun v56 s56 =>
      some (v56, s56)
    else
    if (x1 : Int32) = (1) then
      zCallL (mU_X5_sinceLatestBlock N (pU σ)) (iU σ) fun v64 s64 =>
      some (v64, s64)
    else
    if (x1 : Int32) = (2) then
      zCallL (mU_X5_favourite N (pU σ)) (iU σ) fun v72 s72 =>
      some (v72, s72)
    else
    if (x1 : Int32) = (3) then
      zCallL (mU_X5_favourite N (pU σ)) (iU σ) fun v84 s84 =>
      zCallL (mU_X5_timesRead N (pU s84) v84) (iU s84) fun v87 s87 =>
      some (v87, s87)
    else
    if (x1 : Int32) = (4) then
      zLet (σ 18 4) fun v98 =>
      zCallL (mU_X5_pieces N (pU σ)) (iU σ) fun v105 s105 =>
      zLet ((v98 : Int32) - v105) fun v108 =>
      some (v108, s105)
    else
      some ((-1), σ)
set_option maxRecDepth 20000 in
set_option maxHeartbeats 2000000 in
theorem cT_X7_habits {adr : Nat → Nat} {cI cZ cS cD cE : ClassId} {tL tH : Nat} {l : Launch} {D : va_G} {N : Nat} {σ : ST} {x1 : Int32} (q : Int32 × ST) (hf : mT_X7_habits N σ x1 = some q) : zM l D (wdT adr cI cZ cS cD cE tL tH) yX7_habits cX7_habits 2 (some .int) ({ frames := 4, cells := 0, slots := 0, locals := 89 }) [.ref (adr 600), .int x1] σ (zi q) := by
  refine zM_of sfE_ok rfl (Nat.le_of_ble_eq_true rfl) [(0, .ref (adr 600)), (1, .int x1)] rfl (fun X hX1 hX2 B => ?_)
  have B : zC X 2 (wdT adr cI cZ cS cD cE tL tH) cX7_habits RX7 (some .int) { frames := 4, cells := 0, slots := 0, locals := 89 } := B
  refine z_aload_n B dX7_habits_0 0 rfl rfl ?_
  refine fT_g_P_now B dX7_habits_1 ?_
  refine fT_g_E0_history B dX7_habits_4 ?_
  refine fT_g_H0_length B dX7_habits_7 hf (fun v7 hf => ?_)
  refine z_if_ne B 15 dX7_habits_10 (by decide) hf (fun hf => ?_) (fun hf => ?_)
  · refine z_iload_n B dX7_habits_15 1 rfl rfl ?_
    by_cases h16_0 : x1 = (0)
    · replace hf := zIfp h16_0 hf
      refine z_tabIn B (off := 36) 52 dX7_habits_16 (by rw [h16_0]; decide) (by rw [h16_0]; decide) (by rw [h16_0]; decide) (by decide) ?_
      refine z_aload_n B dX7_habits_52 0 rfl rfl ?_
      refine fT_g_P_study B dX7_habits_53 ?_
      refine z_callVLi B (lU (adr := adr) (cI := cI) (cZ := cZ) (cS := cS) (cD := cD) (cE := cE) (tL := tL) (tH := tH)) (As := []) kcV_X7_270 dX7_habits_56 hf (fun q hq => cU_X5_unlikeBlocks q hq) wU_o_U rfl rfl rfl rfl (Nat.le_of_ble_eq_true rfl) rfl rfl ⟨Nat.le_of_ble_eq_true rfl, Nat.le_of_ble_eq_true rfl⟩ (fun v56 s56 hf => ?_)
      exact z_ireturn B dX7_habits_59 hf
    replace hf := zIfn h16_0 hf
    by_cases h16_1 : x1 = (1)
    · replace hf := zIfp h16_1 hf
      refine z_tabIn B (off := 44) 60 dX7_habits_16 (by rw [h16_1]; decide) (by rw [h16_1]; decide) (by rw [h16_1]; decide) (by decide) ?_
      refine z_aload_n B dX7_habits_60 0 rfl rfl ?_
      refine fT_g_P_study B dX7_habits_61 ?_
      refine z_callVLi B (lU (adr := adr) (cI := cI) (cZ := cZ) (cS := cS) (cD := cD) (cE := cE) (tL := tL) (tH := tH)) (As := []) kcV_X7_273 dX7_habits_64 hf (fun q hq => cU_X5_sinceLatestBlock q hq) wU_o_U rfl rfl rfl rfl (Nat.le_of_ble_eq_true rfl) rfl rfl ⟨Nat.le_of_ble_eq_true rfl, Nat.le_of_ble_eq_true rfl⟩ (fun v64 s64 hf => ?_)
      exact z_ireturn B dX7_habits_67 hf
    replace hf := zIfn h16_1 hf
    by_cases h16_2 : x1 = (2)
    · replace hf := zIfp h16_2 hf
      refine z_tabIn B (off := 52) 68 dX7_habits_16 (by rw [h16_2]; decide) (by rw [h16_2]; decide) (by rw [h16_2]; decide) (by decide) ?_
      refine z_aload_n B dX7_habits_68 0 rfl rfl ?_
      refine fT_g_P_study B dX7_habits_69 ?_
      refine z_callVLi B (lU (adr := adr) (cI := cI) (cZ := cZ) (cS := cS) (cD := cD) (cE := cE) (tL := tL) (tH := tH)) (As := []) kcV_X7_276 dX7_habits_72 hf (fun q hq => cU_X5_favourite q hq) wU_o_U rfl rfl rfl rfl (Nat.le_of_ble_eq_true rfl) rfl rfl ⟨Nat.le_of_ble_eq_true rfl, Nat.le_of_ble_eq_true rfl⟩ (fun v72 s72 hf => ?_)
      exact z_ireturn B dX7_habits_75 hf
    replace hf := zIfn h16_2 hf
    by_cases h16_3 : x1 = (3)
    · replace hf := zIfp h16_3 hf
      refine z_tabIn B (off := 60) 76 dX7_habits_16 (by rw [h16_3]; decide) (by rw [h16_3]; decide) (by rw [h16_3]; decide) (by decide) ?_
      refine z_aload_n B dX7_habits_76 0 rfl rfl ?_
      refine fT_g_P_study B dX7_habits_77 ?_
      refine z_aload_n B dX7_habits_80 0 rfl rfl ?_
      refine fT_g_P_study B dX7_habits_81 ?_
      refine z_callVLi B (lU (adr := adr) (cI := cI) (cZ := cZ) (cS := cS) (cD := cD) (cE := cE) (tL := tL) (tH := tH)) (As := []) kcV_X7_276 dX7_habits_84 hf (fun q hq => cU_X5_favourite q hq) wU_o_U rfl rfl rfl rfl (Nat.le_of_ble_eq_true rfl) rfl rfl ⟨Nat.le_of_ble_eq_true rfl, Nat.le_of_ble_eq_true rfl⟩ (fun v84 s84 hf => ?_)
      refine z_callVLi B (lU (adr := adr) (cI := cI) (cZ := cZ) (cS := cS) (cD := cD) (cE := cE) (tL := tL) (tH := tH)) (As := [.int v84]) kcV_X7_279 dX7_habits_87 hf (fun q hq => cU_X5_timesRead q hq) wU_o_U rfl rfl rfl rfl (Nat.le_of_ble_eq_true rfl) rfl rfl ⟨Nat.le_of_ble_eq_true rfl, Nat.le_of_ble_eq_true rfl⟩ (fun v87 s87 hf => ?_)
      exact z_ireturn B dX7_habits_90 hf
    replace hf := zIfn h16_3 hf
    by_cases h16_4 : x1 = (4)
    · replace hf := zIfp h16_4 hf
      refine z_tabIn B (off := 75) 91 dX7_habits_16 (by rw [h16_4]; decide) (by rw [h16_4]; decide) (by rw [h16_4]; decide) (by decide) ?_
      refine z_aload_n B dX7_habits_91 0 rfl rfl ?_
      refine fT_g_P_now B dX7_habits_92 ?_
      refine fT_g_E0_history B dX7_habits_95 ?_
      refine fT_g_H0_length B dX7_habits_98 hf (fun v98 hf => ?_)
      refine z_aload_n B dX7_habits_101 0 rfl rfl ?_
      refine fT_g_P_study B dX7_habits_102 ?_
      refine z_callVLi B (lU (adr := adr) (cI := cI) (cZ := cZ) (cS := cS) (cD := cD) (cE := cE) (tL := tL) (tH := tH)) (As := []) kcV_X7_188 dX7_habits_105 hf (fun q hq => cU_X5_pieces q hq) wU_o_U rfl rfl rfl rfl (Nat.le_of_ble_eq_true rfl) rfl rfl ⟨Nat.le_of_ble_eq_true rfl, Nat.le_of_ble_eq_true rfl⟩ (fun v105 s105 hf => ?_)
      refine z_isub B dX7_habits_108 hf (fun v108 hf => ?_)
      exact z_ireturn B dX7_habits_109 hf
    replace hf := zIfn h16_4 hf
    have kd16 : zJ X 2 (wdT adr cI cZ cS cD cE tL tH) (zi q) 110 [(0, .ref (adr 600)), (1, .int x1)] [] σ := by
      refine z_iconst B (-1) dX7_habits_110 zc_iconst_m1 ?_
      exact z_ireturn B dX7_habits_111 hf
    by_cases ho16 : x1.toInt < 0 ∨ 4 < x1.toInt
    · exact z_tabOut B 110 dX7_habits_16 ho16 (by decide) kd16
    · have e0 : x1.toInt ≠ 0 := z_ne h16_0 (by decide)
      have e1 : x1.toInt ≠ 1 := z_ne h16_1 (by decide)
      have e2 : x1.toInt ≠ 2 := z_ne h16_2 (by decide)
      have e3 : x1.toInt ≠ 3 := z_ne h16_3 (by decide)
      have e4 : x1.toInt ≠ 4 := z_ne h16_4 (by decide)
      exfalso
      omega
  · refine z_iconst B (-1) dX7_habits_13 zc_iconst_m1 ?_
    exact z_ireturn B dX7_habits_14 hf
theorem dX7_would_0 : decode cX7_would 0 = .ok (.aload_n 0, 1) := by decide +kernel
theorem dX7_would_1 : decode cX7_would 1 = .ok (.getfield 26, 3) := by decide +kernel
theorem dX7_would_4 : decode cX7_would 4 = .ok (.iload_n 1, 1) := by decide +kernel
theorem dX7_would_5 : decode cX7_would 5 = .ok (.invokevirtual 87, 3) := by decide +kernel
theorem dX7_would_8 : decode cX7_would 8 = .ok (.ifCond .eq 12, 3) := by decide +kernel
theorem dX7_would_11 : decode cX7_would 11 = .ok (.iload_n 2, 1) := by decide +kernel
theorem dX7_would_12 : decode cX7_would 12 = .ok (.ifCond .lt 8, 3) := by decide +kernel
theorem dX7_would_15 : decode cX7_would 15 = .ok (.iload_n 2, 1) := by decide +kernel
theorem dX7_would_16 : decode cX7_would 16 = .ok (.iconst 5, 1) := by decide +kernel
theorem dX7_would_17 : decode cX7_would 17 = .ok (.if_icmp .le 5, 3) := by decide +kernel
theorem dX7_would_20 : decode cX7_would 20 = .ok (.iconst (-1), 1) := by decide +kernel
theorem dX7_would_21 : decode cX7_would 21 = .ok (.ireturn, 1) := by decide +kernel
theorem dX7_would_22 : decode cX7_would 22 = .ok (.aload_n 0, 1) := by decide +kernel
theorem dX7_would_23 : decode cX7_would 23 = .ok (.getfield 30, 3) := by decide +kernel
theorem dX7_would_26 : decode cX7_would 26 = .ok (.aload_n 0, 1) := by decide +kernel
theorem dX7_would_27 : decode cX7_would 27 = .ok (.getfield 26, 3) := by decide +kernel
theorem dX7_would_30 : decode cX7_would 30 = .ok (.invokevirtual 137, 3) := by decide +kernel
theorem dX7_would_33 : decode cX7_would 33 = .ok (.aload_n 0, 1) := by decide +kernel
theorem dX7_would_34 : decode cX7_would 34 = .ok (.getfield 30, 3) := by decide +kernel
theorem dX7_would_37 : decode cX7_would 37 = .ok (.iload_n 1, 1) := by decide +kernel
theorem dX7_would_38 : decode cX7_would 38 = .ok (.invokevirtual 73, 3) := by decide +kernel
theorem dX7_would_41 : decode cX7_would 41 = .ok (.istore_n 3, 1) := by decide +kernel
theorem dX7_would_42 : decode cX7_would 42 = .ok (.iload_n 2, 1) := by decide +kernel
theorem dX7_would_43 : decode cX7_would 43 = .ok (.tableswitch 105 0 4 #[33, 35, 55, 63, 83], 33) := by decide +kernel
theorem dX7_would_76 : decode cX7_would 76 = .ok (.iload_n 3, 1) := by decide +kernel
theorem dX7_would_77 : decode cX7_would 77 = .ok (.ireturn, 1) := by decide +kernel
theorem dX7_would_78 : decode cX7_would 78 = .ok (.aload_n 0, 1) := by decide +kernel
theorem dX7_would_79 : decode cX7_would 79 = .ok (.getfield 30, 3) := by decide +kernel
theorem dX7_would_82 : decode cX7_would 82 = .ok (.getfield 79, 3) := by decide +kernel
theorem dX7_would_85 : decode cX7_would 85 = .ok (.iconst 1, 1) := by decide +kernel
theorem dX7_would_86 : decode cX7_would 86 = .ok (.iaload, 1) := by decide +kernel
theorem dX7_would_87 : decode cX7_would 87 = .ok (.aload_n 0, 1) := by decide +kernel
theorem dX7_would_88 : decode cX7_would 88 = .ok (.getfield 26, 3) := by decide +kernel
theorem dX7_would_91 : decode cX7_would 91 = .ok (.getfield 79, 3) := by decide +kernel
theorem dX7_would_94 : decode cX7_would 94 = .ok (.iconst 1, 1) := by decide +kernel
theorem dX7_would_95 : decode cX7_would 95 = .ok (.iaload, 1) := by decide +kernel
theorem dX7_would_96 : decode cX7_would 96 = .ok (.isub, 1) := by decide +kernel
theorem dX7_would_97 : decode cX7_would 97 = .ok (.ireturn, 1) := by decide +kernel
theorem dX7_would_98 : decode cX7_would 98 = .ok (.aload_n 0, 1) := by decide +kernel
theorem dX7_would_99 : decode cX7_would 99 = .ok (.getfield 30, 3) := by decide +kernel
theorem dX7_would_102 : decode cX7_would 102 = .ok (.getfield 224, 3) := by decide +kernel
theorem dX7_would_105 : decode cX7_would 105 = .ok (.ireturn, 1) := by decide +kernel
theorem dX7_would_106 : decode cX7_would 106 = .ok (.aload_n 0, 1) := by decide +kernel
theorem dX7_would_107 : decode cX7_would 107 = .ok (.getfield 30, 3) := by decide +kernel
theorem dX7_would_110 : decode cX7_would 110 = .ok (.getfield 79, 3) := by decide +kernel
theorem dX7_would_113 : decode cX7_would 113 = .ok (.iconst 5, 1) := by decide +kernel
theorem dX7_would_114 : decode cX7_would 114 = .ok (.iaload, 1) := by decide +kernel
theorem dX7_would_115 : decode cX7_would 115 = .ok (.aload_n 0, 1) := by decide +kernel
theorem dX7_would_116 : decode cX7_would 116 = .ok (.getfield 26, 3) := by decide +kernel
theorem dX7_would_119 : decode cX7_would 119 = .ok (.getfield 79, 3) := by decide +kernel
theorem dX7_would_122 : decode cX7_would 122 = .ok (.iconst 5, 1) := by decide +kernel
theorem dX7_would_123 : decode cX7_would 123 = .ok (.iaload, 1) := by decide +kernel
theorem dX7_would_124 : decode cX7_would 124 = .ok (.isub, 1) := by decide +kernel
theorem dX7_would_125 : decode cX7_would 125 = .ok (.ireturn, 1) := by decide +kernel
theorem dX7_would_126 : decode cX7_would 126 = .ok (.aload_n 0, 1) := by decide +kernel
theorem dX7_would_127 : decode cX7_would 127 = .ok (.getfield 30, 3) := by decide +kernel
theorem dX7_would_130 : decode cX7_would 130 = .ok (.getfield 79, 3) := by decide +kernel
theorem dX7_would_133 : decode cX7_would 133 = .ok (.bipush 7, 2) := by decide +kernel
theorem dX7_would_135 : decode cX7_would 135 = .ok (.iaload, 1) := by decide +kernel
theorem dX7_would_136 : decode cX7_would 136 = .ok (.aload_n 0, 1) := by decide +kernel
theorem dX7_would_137 : decode cX7_would 137 = .ok (.getfield 26, 3) := by decide +kernel
theorem dX7_would_140 : decode cX7_would 140 = .ok (.getfield 79, 3) := by decide +kernel
theorem dX7_would_143 : decode cX7_would 143 = .ok (.bipush 7, 2) := by decide +kernel
theorem dX7_would_145 : decode cX7_would 145 = .ok (.iaload, 1) := by decide +kernel
theorem dX7_would_146 : decode cX7_would 146 = .ok (.isub, 1) := by decide +kernel
theorem dX7_would_147 : decode cX7_would 147 = .ok (.ireturn, 1) := by decide +kernel
theorem dX7_would_148 : decode cX7_would 148 = .ok (.aload_n 0, 1) := by decide +kernel
theorem dX7_would_149 : decode cX7_would 149 = .ok (.getfield 30, 3) := by decide +kernel
theorem dX7_would_152 : decode cX7_would 152 = .ok (.getfield 79, 3) := by decide +kernel
theorem dX7_would_155 : decode cX7_would 155 = .ok (.bipush 6, 2) := by decide +kernel
theorem dX7_would_157 : decode cX7_would 157 = .ok (.iaload, 1) := by decide +kernel
theorem dX7_would_158 : decode cX7_would 158 = .ok (.aload_n 0, 1) := by decide +kernel
theorem dX7_would_159 : decode cX7_would 159 = .ok (.getfield 26, 3) := by decide +kernel
theorem dX7_would_162 : decode cX7_would 162 = .ok (.getfield 79, 3) := by decide +kernel
theorem dX7_would_165 : decode cX7_would 165 = .ok (.bipush 6, 2) := by decide +kernel
theorem dX7_would_167 : decode cX7_would 167 = .ok (.iaload, 1) := by decide +kernel
theorem dX7_would_168 : decode cX7_would 168 = .ok (.isub, 1) := by decide +kernel
theorem dX7_would_169 : decode cX7_would 169 = .ok (.ireturn, 1) := by decide +kernel
def mT_X7_would_20 (N : Nat) (σ : ST) (x1 : Int32) (x2 : Int32) : Option (Int32 × ST) :=
  some ((-1), σ)
set_option maxRecDepth 20000 in
set_option maxHeartbeats 2000000 in
theorem tT_X7_would_20 {adr : Nat → Nat} {cI cZ cS cD cE : ClassId} {tL tH : Nat} {X : zX} {q : Int32 × ST} (B : zC X 4 (wdT adr cI cZ cS cD cE tL tH) cX7_would RX7 (some .int) { frames := 6, cells := 0, slots := 0, locals := 146 }) (N : Nat) (σ : ST) (x1 : Int32) (x2 : Int32) (hf : mT_X7_would_20 N σ x1 x2 = some q) : zJ X 4 (wdT adr cI cZ cS cD cE tL tH) (zi q) 20 [(0, .ref (adr 600)), (1, .int x1), (2, .int x2)] [] σ := by
  refine z_iconst B (-1) dX7_would_20 zc_iconst_m1 ?_
  exact z_ireturn B dX7_would_21 hf
def mT_X7_would (N : Nat) (σ : ST) (x1 : Int32) (x2 : Int32) : Option (Int32 × ST) :=
  zCallL (mE_X2_hasBlock N ((pE 0 0) σ) x1) ((iE 0 0) σ) fun v5 s5 =>
  if (v5 : Int32) = 0 then
    mT_X7_would_20 N s5 x1 x2
  else
    if (x2 : Int32) < 0 then
      mT_X7_would_20 N s5 x1 x2
    else
      if (x2 : Int32) ≤ (5) then
        zCallLu (mY_X2_copyFrom N ((pY 1 0) s5)) ((iY 1 0) s5) fun s30 =>
        zCallL (mE_X2_take N ((pE 1 0) s30) x1) ((iE 1 0) s30) fun v38 s38 =>
        if (x2 : Int32) = (0) then
          some (v38, s38)
        else
        if (x2 : Int32) = (1) then
          zGet (s38 102) 34 (1) fun v86 =>
          zGet (s38 2) 34 (1) fun v95 =>
          zLet ((v86 : Int32) - v95) fun v96 =>
          some (v96, s38)
        else
        if (x2 : Int32) = (2) then
          zLet (s38 100 9) fun v102 =>
          some (v102, s38)
        else
        if (x2 : Int32) = (3) then
          zGet (s38 102) 34 (5) fun v114 =>
          zGet (s38 2) 34 (5) fun v123 =>
          zLet ((v114 : Int32) - v123) fun v124 =>
          some (v124, s38)
        else
        if (x2 : Int32) = (4) then
          zGet (s38 102) 34 (7) fun v135 =>
          zGet (s38 2) 34 (7) fun v145 =>
          zLet ((v135 : Int32) - v145) fun v146 =>
          some (v146, s38)
        else
          zGet (s38 102) 34 (6) fun v157 =>
          zGet (s38 2) 34 (6) fun v167 =>
          zLet ((v157 : Int32) - v167) fun v168 =>
          some (v168, s38)
      else
        mT_X7_would_20 N s5 x1 x2
set_option maxRecDepth 20000 in
set_option maxHeartbeats 2000000 in
theorem cT_X7_would {adr : Nat → Nat} {cI cZ cS cD cE : ClassId} {tL tH : Nat} {l : Launch} {D : va_G} {N : Nat} {σ : ST} {x1 : Int32} {x2 : Int32} (q : Int32 × ST) (hf : mT_X7_would N σ x1 x2 = some q) : zM l D (wdT adr cI cZ cS cD cE tL tH) yX7_would cX7_would 4 (some .int) ({ frames := 6, cells := 0, slots := 0, locals := 146 }) [.ref (adr 600), .int x1, .int x2] σ (zi q) := by
  refine zM_of sfE_ok rfl (Nat.le_of_ble_eq_true rfl) [(0, .ref (adr 600)), (1, .int x1), (2, .int x2)] rfl (fun X hX1 hX2 B => ?_)
  have B : zC X 4 (wdT adr cI cZ cS cD cE tL tH) cX7_would RX7 (some .int) { frames := 6, cells := 0, slots := 0, locals := 146 } := B
  refine z_aload_n B dX7_would_0 0 rfl rfl ?_
  refine fT_g_P_now B dX7_would_1 ?_
  refine z_iload_n B dX7_would_4 1 rfl rfl ?_
  refine z_callVLi B (lE0 (adr := adr) (cI := cI) (cZ := cZ) (cS := cS) (cD := cD) (cE := cE) (tL := tL) (tH := tH)) (As := [.int x1]) kcV_X7_87 dX7_would_5 hf (fun q hq => cE_X2_hasBlock q hq) wE_o_E rfl rfl rfl rfl (Nat.le_of_ble_eq_true rfl) rfl rfl ⟨Nat.le_of_ble_eq_true rfl, Nat.le_of_ble_eq_true rfl⟩ (fun v5 s5 hf => ?_)
  refine z_if_eq B 20 dX7_would_8 (by decide) hf (fun hf => ?_) (fun hf => ?_)
  · exact tT_X7_would_20 B N s5 x1 x2 hf
  · refine z_iload_n B dX7_would_11 2 rfl rfl ?_
    refine z_if_lt B 20 dX7_would_12 (by decide) hf (fun hf => ?_) (fun hf => ?_)
    · exact tT_X7_would_20 B N s5 x1 x2 hf
    · refine z_iload_n B dX7_would_15 2 rfl rfl ?_
      refine z_iconst B (5) dX7_would_16 zc_iconst_5 ?_
      refine z_icmp_le B 22 dX7_would_17 (by decide) hf (fun hf => ?_) (fun hf => ?_)
      · refine z_aload_n B dX7_would_22 0 rfl rfl ?_
        refine fT_g_P_paper B dX7_would_23 ?_
        refine z_aload_n B dX7_would_26 0 rfl rfl ?_
        refine fT_g_P_now B dX7_would_27 ?_
        refine z_callVLu B (lY10 (adr := adr) (cI := cI) (cZ := cZ) (cS := cS) (cD := cD) (cE := cE) (tL := tL) (tH := tH)) (As := [.ref (a0 adr 0)]) kcV_X7_137 dX7_would_30 hf (fun q hq => cY_X2_copyFrom q hq) wY_o_E rfl rfl rfl rfl (Nat.le_of_ble_eq_true rfl) rfl rfl ⟨Nat.le_of_ble_eq_true rfl, Nat.le_of_ble_eq_true rfl⟩ (fun s30 hf => ?_)
        refine z_aload_n B dX7_would_33 0 rfl rfl ?_
        refine fT_g_P_paper B dX7_would_34 ?_
        refine z_iload_n B dX7_would_37 1 rfl rfl ?_
        refine z_callVLi B (lE1 (adr := adr) (cI := cI) (cZ := cZ) (cS := cS) (cD := cD) (cE := cE) (tL := tL) (tH := tH)) (As := [.int x1]) kcV_X7_73 dX7_would_38 hf (fun q hq => cE_X2_take q hq) wE_o_E rfl rfl rfl rfl (Nat.le_of_ble_eq_true rfl) rfl rfl ⟨Nat.le_of_ble_eq_true rfl, Nat.le_of_ble_eq_true rfl⟩ (fun v38 s38 hf => ?_)
        refine z_istore_n B [(3, .int v38), (0, .ref (adr 600)), (1, .int x1), (2, .int x2)] dX7_would_41 rfl (Nat.le_of_ble_eq_true rfl) rfl ?_
        refine z_iload_n B dX7_would_42 3 rfl rfl ?_
        by_cases h43_0 : x2 = (0)
        · replace hf := zIfp h43_0 hf
          refine z_tabIn B (off := 33) 76 dX7_would_43 (by rw [h43_0]; decide) (by rw [h43_0]; decide) (by rw [h43_0]; decide) (by decide) ?_
          refine z_iload_n B dX7_would_76 0 rfl rfl ?_
          exact z_ireturn B dX7_would_77 hf
        replace hf := zIfn h43_0 hf
        by_cases h43_1 : x2 = (1)
        · replace hf := zIfp h43_1 hf
          refine z_tabIn B (off := 35) 78 dX7_would_43 (by rw [h43_1]; decide) (by rw [h43_1]; decide) (by rw [h43_1]; decide) (by decide) ?_
          refine z_aload_n B dX7_would_78 1 rfl rfl ?_
          refine fT_g_P_paper B dX7_would_79 ?_
          refine fT_g_E1_counts B dX7_would_82 ?_
          refine z_iconst B (1) dX7_would_85 zc_iconst_1 ?_
          refine fT_l_E1_counts B dX7_would_86 hf (fun v86 hf => ?_)
          refine z_aload_n B dX7_would_87 1 rfl rfl ?_
          refine fT_g_P_now B dX7_would_88 ?_
          refine fT_g_E0_counts B dX7_would_91 ?_
          refine z_iconst B (1) dX7_would_94 zc_iconst_1 ?_
          refine fT_l_E0_counts B dX7_would_95 hf (fun v95 hf => ?_)
          refine z_isub B dX7_would_96 hf (fun v96 hf => ?_)
          exact z_ireturn B dX7_would_97 hf
        replace hf := zIfn h43_1 hf
        by_cases h43_2 : x2 = (2)
        · replace hf := zIfp h43_2 hf
          refine z_tabIn B (off := 55) 98 dX7_would_43 (by rw [h43_2]; decide) (by rw [h43_2]; decide) (by rw [h43_2]; decide) (by decide) ?_
          refine z_aload_n B dX7_would_98 1 rfl rfl ?_
          refine fT_g_P_paper B dX7_would_99 ?_
          refine fT_g_E1_ownPlace B dX7_would_102 hf (fun v102 hf => ?_)
          exact z_ireturn B dX7_would_105 hf
        replace hf := zIfn h43_2 hf
        by_cases h43_3 : x2 = (3)
        · replace hf := zIfp h43_3 hf
          refine z_tabIn B (off := 63) 106 dX7_would_43 (by rw [h43_3]; decide) (by rw [h43_3]; decide) (by rw [h43_3]; decide) (by decide) ?_
          refine z_aload_n B dX7_would_106 1 rfl rfl ?_
          refine fT_g_P_paper B dX7_would_107 ?_
          refine fT_g_E1_counts B dX7_would_110 ?_
          refine z_iconst B (5) dX7_would_113 zc_iconst_5 ?_
          refine fT_l_E1_counts B dX7_would_114 hf (fun v114 hf => ?_)
          refine z_aload_n B dX7_would_115 1 rfl rfl ?_
          refine fT_g_P_now B dX7_would_116 ?_
          refine fT_g_E0_counts B dX7_would_119 ?_
          refine z_iconst B (5) dX7_would_122 zc_iconst_5 ?_
          refine fT_l_E0_counts B dX7_would_123 hf (fun v123 hf => ?_)
          refine z_isub B dX7_would_124 hf (fun v124 hf => ?_)
          exact z_ireturn B dX7_would_125 hf
        replace hf := zIfn h43_3 hf
        by_cases h43_4 : x2 = (4)
        · replace hf := zIfp h43_4 hf
          refine z_tabIn B (off := 83) 126 dX7_would_43 (by rw [h43_4]; decide) (by rw [h43_4]; decide) (by rw [h43_4]; decide) (by decide) ?_
          refine z_aload_n B dX7_would_126 1 rfl rfl ?_
          refine fT_g_P_paper B dX7_would_127 ?_
          refine fT_g_E1_counts B dX7_would_130 ?_
          refine z_bipush B (7) dX7_would_133 zc_bipush_7 ?_
          refine fT_l_E1_counts B dX7_would_135 hf (fun v135 hf => ?_)
          refine z_aload_n B dX7_would_136 1 rfl rfl ?_
          refine fT_g_P_now B dX7_would_137 ?_
          refine fT_g_E0_counts B dX7_would_140 ?_
          refine z_bipush B (7) dX7_would_143 zc_bipush_7 ?_
          refine fT_l_E0_counts B dX7_would_145 hf (fun v145 hf => ?_)
          refine z_isub B dX7_would_146 hf (fun v146 hf => ?_)
          exact z_ireturn B dX7_would_147 hf
        replace hf := zIfn h43_4 hf
        have kd43 : zJ X 4 (wdT adr cI cZ cS cD cE tL tH) (zi q) 148 [(3, .int v38), (0, .ref (adr 600)), (1, .int x1), (2, .int x2)] [] s38 := by
          refine z_aload_n B dX7_would_148 1 rfl rfl ?_
          refine fT_g_P_paper B dX7_would_149 ?_
          refine fT_g_E1_counts B dX7_would_152 ?_
          refine z_bipush B (6) dX7_would_155 zc_bipush_6 ?_
          refine fT_l_E1_counts B dX7_would_157 hf (fun v157 hf => ?_)
          refine z_aload_n B dX7_would_158 1 rfl rfl ?_
          refine fT_g_P_now B dX7_would_159 ?_
          refine fT_g_E0_counts B dX7_would_162 ?_
          refine z_bipush B (6) dX7_would_165 zc_bipush_6 ?_
          refine fT_l_E0_counts B dX7_would_167 hf (fun v167 hf => ?_)
          refine z_isub B dX7_would_168 hf (fun v168 hf => ?_)
          exact z_ireturn B dX7_would_169 hf
        by_cases ho43 : x2.toInt < 0 ∨ 4 < x2.toInt
        · exact z_tabOut B 148 dX7_would_43 ho43 (by decide) kd43
        · have e0 : x2.toInt ≠ 0 := z_ne h43_0 (by decide)
          have e1 : x2.toInt ≠ 1 := z_ne h43_1 (by decide)
          have e2 : x2.toInt ≠ 2 := z_ne h43_2 (by decide)
          have e3 : x2.toInt ≠ 3 := z_ne h43_3 (by decide)
          have e4 : x2.toInt ≠ 4 := z_ne h43_4 (by decide)
          exfalso
          omega
      · exact tT_X7_would_20 B N s5 x1 x2 hf
theorem dX7_plan_0 : decode cX7_plan 0 = .ok (.aload_n 0, 1) := by decide +kernel
theorem dX7_plan_1 : decode cX7_plan 1 = .ok (.getfield 26, 3) := by decide +kernel
theorem dX7_plan_4 : decode cX7_plan 4 = .ok (.iload_n 1, 1) := by decide +kernel
theorem dX7_plan_5 : decode cX7_plan 5 = .ok (.invokevirtual 87, 3) := by decide +kernel
theorem dX7_plan_8 : decode cX7_plan 8 = .ok (.ifCond .ne 5, 3) := by decide +kernel
theorem dX7_plan_11 : decode cX7_plan 11 = .ok (.iconst (-1), 1) := by decide +kernel
theorem dX7_plan_12 : decode cX7_plan 12 = .ok (.ireturn, 1) := by decide +kernel
theorem dX7_plan_13 : decode cX7_plan 13 = .ok (.aload_n 0, 1) := by decide +kernel
theorem dX7_plan_14 : decode cX7_plan 14 = .ok (.getfield 30, 3) := by decide +kernel
theorem dX7_plan_17 : decode cX7_plan 17 = .ok (.aload_n 0, 1) := by decide +kernel
theorem dX7_plan_18 : decode cX7_plan 18 = .ok (.getfield 26, 3) := by decide +kernel
theorem dX7_plan_21 : decode cX7_plan 21 = .ok (.invokevirtual 137, 3) := by decide +kernel
theorem dX7_plan_24 : decode cX7_plan 24 = .ok (.aload_n 0, 1) := by decide +kernel
theorem dX7_plan_25 : decode cX7_plan 25 = .ok (.getfield 30, 3) := by decide +kernel
theorem dX7_plan_28 : decode cX7_plan 28 = .ok (.iload_n 1, 1) := by decide +kernel
theorem dX7_plan_29 : decode cX7_plan 29 = .ok (.invokevirtual 73, 3) := by decide +kernel
theorem dX7_plan_32 : decode cX7_plan 32 = .ok (.pop, 1) := by decide +kernel
theorem dX7_plan_33 : decode cX7_plan 33 = .ok (.aload_n 0, 1) := by decide +kernel
theorem dX7_plan_34 : decode cX7_plan 34 = .ok (.getfield 30, 3) := by decide +kernel
theorem dX7_plan_37 : decode cX7_plan 37 = .ok (.iload_n 2, 1) := by decide +kernel
theorem dX7_plan_38 : decode cX7_plan 38 = .ok (.invokevirtual 227, 3) := by decide +kernel
theorem dX7_plan_41 : decode cX7_plan 41 = .ok (.ireturn, 1) := by decide +kernel
def mT_X7_plan (N : Nat) (σ : ST) (x1 : Int32) (x2 : Int32) : Option (Int32 × ST) :=
  zCallL (mE_X2_hasBlock N ((pE 0 0) σ) x1) ((iE 0 0) σ) fun v5 s5 =>
  if (v5 : Int32) = 0 then
    some ((-1), s5)
  else
    zCallLu (mY_X2_copyFrom N ((pY 1 0) s5)) ((iY 1 0) s5) fun s21 =>
    zCallL (mE_X2_take N ((pE 1 0) s21) x1) ((iE 1 0) s21) fun v29 s29 =>
    zCallL (mE_X2_plannedAt N ((pE 1 0) s29) x2) ((iE 1 0) s29) fun v38 s38 =>
    some (v38, s38)
set_option maxRecDepth 20000 in
set_option maxHeartbeats 2000000 in
theorem cT_X7_plan {adr : Nat → Nat} {cI cZ cS cD cE : ClassId} {tL tH : Nat} {l : Launch} {D : va_G} {N : Nat} {σ : ST} {x1 : Int32} {x2 : Int32} (q : Int32 × ST) (hf : mT_X7_plan N σ x1 x2 = some q) : zM l D (wdT adr cI cZ cS cD cE tL tH) yX7_plan cX7_plan 3 (some .int) ({ frames := 6, cells := 0, slots := 0, locals := 146 }) [.ref (adr 600), .int x1, .int x2] σ (zi q) := by
  refine zM_of sfE_ok rfl (Nat.le_of_ble_eq_true rfl) [(0, .ref (adr 600)), (1, .int x1), (2, .int x2)] rfl (fun X hX1 hX2 B => ?_)
  have B : zC X 3 (wdT adr cI cZ cS cD cE tL tH) cX7_plan RX7 (some .int) { frames := 6, cells := 0, slots := 0, locals := 146 } := B
  refine z_aload_n B dX7_plan_0 0 rfl rfl ?_
  refine fT_g_P_now B dX7_plan_1 ?_
  refine z_iload_n B dX7_plan_4 1 rfl rfl ?_
  refine z_callVLi B (lE0 (adr := adr) (cI := cI) (cZ := cZ) (cS := cS) (cD := cD) (cE := cE) (tL := tL) (tH := tH)) (As := [.int x1]) kcV_X7_87 dX7_plan_5 hf (fun q hq => cE_X2_hasBlock q hq) wE_o_E rfl rfl rfl rfl (Nat.le_of_ble_eq_true rfl) rfl rfl ⟨Nat.le_of_ble_eq_true rfl, Nat.le_of_ble_eq_true rfl⟩ (fun v5 s5 hf => ?_)
  refine z_if_ne B 13 dX7_plan_8 (by decide) hf (fun hf => ?_) (fun hf => ?_)
  · refine z_aload_n B dX7_plan_13 0 rfl rfl ?_
    refine fT_g_P_paper B dX7_plan_14 ?_
    refine z_aload_n B dX7_plan_17 0 rfl rfl ?_
    refine fT_g_P_now B dX7_plan_18 ?_
    refine z_callVLu B (lY10 (adr := adr) (cI := cI) (cZ := cZ) (cS := cS) (cD := cD) (cE := cE) (tL := tL) (tH := tH)) (As := [.ref (a0 adr 0)]) kcV_X7_137 dX7_plan_21 hf (fun q hq => cY_X2_copyFrom q hq) wY_o_E rfl rfl rfl rfl (Nat.le_of_ble_eq_true rfl) rfl rfl ⟨Nat.le_of_ble_eq_true rfl, Nat.le_of_ble_eq_true rfl⟩ (fun s21 hf => ?_)
    refine z_aload_n B dX7_plan_24 0 rfl rfl ?_
    refine fT_g_P_paper B dX7_plan_25 ?_
    refine z_iload_n B dX7_plan_28 1 rfl rfl ?_
    refine z_callVLi B (lE1 (adr := adr) (cI := cI) (cZ := cZ) (cS := cS) (cD := cD) (cE := cE) (tL := tL) (tH := tH)) (As := [.int x1]) kcV_X7_73 dX7_plan_29 hf (fun q hq => cE_X2_take q hq) wE_o_E rfl rfl rfl rfl (Nat.le_of_ble_eq_true rfl) rfl rfl ⟨Nat.le_of_ble_eq_true rfl, Nat.le_of_ble_eq_true rfl⟩ (fun v29 s29 hf => ?_)
    refine z_pop B dX7_plan_32 rfl ?_
    refine z_aload_n B dX7_plan_33 0 rfl rfl ?_
    refine fT_g_P_paper B dX7_plan_34 ?_
    refine z_iload_n B dX7_plan_37 2 rfl rfl ?_
    refine z_callVLi B (lE1 (adr := adr) (cI := cI) (cZ := cZ) (cS := cS) (cD := cD) (cE := cE) (tL := tL) (tH := tH)) (As := [.int x2]) kcV_X7_227 dX7_plan_38 hf (fun q hq => cE_X2_plannedAt q hq) wE_o_E rfl rfl rfl rfl (Nat.le_of_ble_eq_true rfl) rfl rfl ⟨Nat.le_of_ble_eq_true rfl, Nat.le_of_ble_eq_true rfl⟩ (fun v38 s38 hf => ?_)
    exact z_ireturn B dX7_plan_41 hf
  · refine z_iconst B (-1) dX7_plan_11 zc_iconst_m1 ?_
    exact z_ireturn B dX7_plan_12 hf
theorem dX7_replayWith_0 : decode cX7_replayWith 0 = .ok (.aload_n 0, 1) := by decide +kernel
theorem dX7_replayWith_1 : decode cX7_replayWith 1 = .ok (.getfield 30, 3) := by decide +kernel
theorem dX7_replayWith_4 : decode cX7_replayWith 4 = .ok (.aload_n 0, 1) := by decide +kernel
theorem dX7_replayWith_5 : decode cX7_replayWith 5 = .ok (.getfield 26, 3) := by decide +kernel
theorem dX7_replayWith_8 : decode cX7_replayWith 8 = .ok (.invokevirtual 282, 3) := by decide +kernel
theorem dX7_replayWith_11 : decode cX7_replayWith 11 = .ok (.aload_n 0, 1) := by decide +kernel
theorem dX7_replayWith_12 : decode cX7_replayWith 12 = .ok (.getfield 30, 3) := by decide +kernel
theorem dX7_replayWith_15 : decode cX7_replayWith 15 = .ok (.iload_n 1, 1) := by decide +kernel
theorem dX7_replayWith_16 : decode cX7_replayWith 16 = .ok (.iload_n 2, 1) := by decide +kernel
theorem dX7_replayWith_17 : decode cX7_replayWith 17 = .ok (.invokevirtual 66, 3) := by decide +kernel
theorem dX7_replayWith_20 : decode cX7_replayWith 20 = .ok (.aload_n 0, 1) := by decide +kernel
theorem dX7_replayWith_21 : decode cX7_replayWith 21 = .ok (.getfield 30, 3) := by decide +kernel
theorem dX7_replayWith_24 : decode cX7_replayWith 24 = .ok (.iload_n 3, 1) := by decide +kernel
theorem dX7_replayWith_25 : decode cX7_replayWith 25 = .ok (.iload 4, 2) := by decide +kernel
theorem dX7_replayWith_27 : decode cX7_replayWith 27 = .ok (.invokevirtual 66, 3) := by decide +kernel
theorem dX7_replayWith_30 : decode cX7_replayWith 30 = .ok (.aload_n 0, 1) := by decide +kernel
theorem dX7_replayWith_31 : decode cX7_replayWith 31 = .ok (.getfield 30, 3) := by decide +kernel
theorem dX7_replayWith_34 : decode cX7_replayWith 34 = .ok (.invokevirtual 70, 3) := by decide +kernel
theorem dX7_replayWith_37 : decode cX7_replayWith 37 = .ok (.iconst 0, 1) := by decide +kernel
theorem dX7_replayWith_38 : decode cX7_replayWith 38 = .ok (.istore 5, 2) := by decide +kernel
theorem dX7_replayWith_40 : decode cX7_replayWith 40 = .ok (.iload 5, 2) := by decide +kernel
theorem dX7_replayWith_42 : decode cX7_replayWith 42 = .ok (.aload_n 0, 1) := by decide +kernel
theorem dX7_replayWith_43 : decode cX7_replayWith 43 = .ok (.getfield 26, 3) := by decide +kernel
theorem dX7_replayWith_46 : decode cX7_replayWith 46 = .ok (.getfield 35, 3) := by decide +kernel
theorem dX7_replayWith_49 : decode cX7_replayWith 49 = .ok (.getfield 249, 3) := by decide +kernel
theorem dX7_replayWith_52 : decode cX7_replayWith 52 = .ok (.if_icmp .ge 29, 3) := by decide +kernel
theorem dX7_replayWith_55 : decode cX7_replayWith 55 = .ok (.aload_n 0, 1) := by decide +kernel
theorem dX7_replayWith_56 : decode cX7_replayWith 56 = .ok (.getfield 30, 3) := by decide +kernel
theorem dX7_replayWith_59 : decode cX7_replayWith 59 = .ok (.aload_n 0, 1) := by decide +kernel
theorem dX7_replayWith_60 : decode cX7_replayWith 60 = .ok (.getfield 26, 3) := by decide +kernel
theorem dX7_replayWith_63 : decode cX7_replayWith 63 = .ok (.getfield 35, 3) := by decide +kernel
theorem dX7_replayWith_66 : decode cX7_replayWith 66 = .ok (.iload 5, 2) := by decide +kernel
theorem dX7_replayWith_68 : decode cX7_replayWith 68 = .ok (.invokevirtual 201, 3) := by decide +kernel
theorem dX7_replayWith_71 : decode cX7_replayWith 71 = .ok (.invokevirtual 73, 3) := by decide +kernel
theorem dX7_replayWith_74 : decode cX7_replayWith 74 = .ok (.pop, 1) := by decide +kernel
theorem dX7_replayWith_75 : decode cX7_replayWith 75 = .ok (.iinc 5 1, 3) := by decide +kernel
theorem dX7_replayWith_78 : decode cX7_replayWith 78 = .ok (.goto (-38), 3) := by decide +kernel
theorem dX7_replayWith_81 : decode cX7_replayWith 81 = .ok (.return_, 1) := by decide +kernel
def mT_X7_replayWith_B40 (N : Nat) (hd40 : ST → Int32 → Int32 → Int32 → Int32 → Int32 → Option (ST)) (σ : ST) (x1 : Int32) (x2 : Int32) (x3 : Int32) (x4 : Int32) (x5 : Int32) : Option (ST) :=
  zLet (σ 18 4) fun v49 =>
  if (v49 : Int32) ≤ x5 then
    some σ
  else
    zCallL (mE_X3_blockAt N ((pE 0 0) σ) x5) ((iE 0 0) σ) fun v68 s68 =>
    zCallL (mE_X2_take N ((pE 1 0) s68) v68) ((iE 1 0) s68) fun v71 s71 =>
    zLet (x5 + (1)) fun v75 =>
    hd40 s71 x1 x2 x3 x4 v75
def mT_X7_replayWith_40 (N : Nat) : ST → Int32 → Int32 → Int32 → Int32 → Int32 → Option (ST) := zIt (mT_X7_replayWith_B40 N) (fun _ _ _ _ _ _ => none) N
set_option maxRecDepth 20000 in
set_option maxHeartbeats 2000000 in
theorem tT_X7_replayWith_40 {adr : Nat → Nat} {cI cZ cS cD cE : ClassId} {tL tH : Nat} {X : zX} {q : ST} (B : zC X 6 (wdT adr cI cZ cS cD cE tL tH) cX7_replayWith RX7 none { frames := 6, cells := 0, slots := 0, locals := 146 }) (N : Nat) : ∀ (σ : ST) (x1 : Int32) (x2 : Int32) (x3 : Int32) (x4 : Int32) (x5 : Int32), mT_X7_replayWith_40 N σ x1 x2 x3 x4 x5 = some q → zJ X 6 (wdT adr cI cZ cS cD cE tL tH) (zu q) 40 [(0, .ref (adr 600)), (1, .int x1), (2, .int x2), (3, .int x3), (4, .int x4), (5, .int x5)] [] σ := by
  refine zIt_ind (P := fun (hd : ST → Int32 → Int32 → Int32 → Int32 → Int32 → Option (ST)) => ∀ (σ : ST) (x1 : Int32) (x2 : Int32) (x3 : Int32) (x4 : Int32) (x5 : Int32), hd σ x1 x2 x3 x4 x5 = some q → zJ X 6 (wdT adr cI cZ cS cD cE tL tH) (zu q) 40 [(0, .ref (adr 600)), (1, .int x1), (2, .int x2), (3, .int x3), (4, .int x4), (5, .int x5)] [] σ) (fun _ _ _ _ _ _ hf => by cases hf) (fun hd40 hh40 => ?_) N
  intro σ x1 x2 x3 x4 x5 hf
  refine z_iload B dX7_replayWith_40 5 rfl ?_
  refine z_aload_n B dX7_replayWith_42 0 rfl rfl ?_
  refine fT_g_P_now B dX7_replayWith_43 ?_
  refine fT_g_E0_history B dX7_replayWith_46 ?_
  refine fT_g_H0_length B dX7_replayWith_49 hf (fun v49 hf => ?_)
  refine z_icmp_ge B 81 dX7_replayWith_52 (by decide) hf (fun hf => ?_) (fun hf => ?_)
  · exact z_return B dX7_replayWith_81 hf
  · refine z_aload_n B dX7_replayWith_55 0 rfl rfl ?_
    refine fT_g_P_paper B dX7_replayWith_56 ?_
    refine z_aload_n B dX7_replayWith_59 0 rfl rfl ?_
    refine fT_g_P_now B dX7_replayWith_60 ?_
    refine fT_g_E0_history B dX7_replayWith_63 ?_
    refine z_iload B dX7_replayWith_66 5 rfl ?_
    refine z_callVLi B (lE0 (adr := adr) (cI := cI) (cZ := cZ) (cS := cS) (cD := cD) (cE := cE) (tL := tL) (tH := tH)) (As := [.int x5]) kcV_X7_201 dX7_replayWith_68 hf (fun q hq => cE_X3_blockAt q hq) wE_o_H rfl rfl rfl rfl (Nat.le_of_ble_eq_true rfl) rfl rfl ⟨Nat.le_of_ble_eq_true rfl, Nat.le_of_ble_eq_true rfl⟩ (fun v68 s68 hf => ?_)
    refine z_callVLi B (lE1 (adr := adr) (cI := cI) (cZ := cZ) (cS := cS) (cD := cD) (cE := cE) (tL := tL) (tH := tH)) (As := [.int v68]) kcV_X7_73 dX7_replayWith_71 hf (fun q hq => cE_X2_take q hq) wE_o_E rfl rfl rfl rfl (Nat.le_of_ble_eq_true rfl) rfl rfl ⟨Nat.le_of_ble_eq_true rfl, Nat.le_of_ble_eq_true rfl⟩ (fun v71 s71 hf => ?_)
    refine z_pop B dX7_replayWith_74 rfl ?_
    refine z_iinc B (1) 5 (fun v75 => [(5, .int v75), (0, .ref (adr 600)), (1, .int x1), (2, .int x2), (3, .int x3), (4, .int x4)]) dX7_replayWith_75 hf zc_iconst_1 rfl (Nat.le_of_ble_eq_true rfl) (fun _ => rfl) (fun v75 hf => ?_)
    refine z_goto B 40 dX7_replayWith_78 (by decide) ?_
    exact z_loc [1, 2, 3, 4, 5, 0] _ rfl (hh40 s71 x1 x2 x3 x4 v75 hf)
def mT_X7_replayWith (N : Nat) (σ : ST) (x1 : Int32) (x2 : Int32) (x3 : Int32) (x4 : Int32) : Option (ST) :=
  zCallLu (mY_X2_copyTerms N ((pY 1 0) σ)) ((iY 1 0) σ) fun s8 =>
  zCallLu (mE_X2_setTerm N ((pE 1 0) s8) x1 x2) ((iE 1 0) s8) fun s17 =>
  zCallLu (mE_X2_setTerm N ((pE 1 0) s17) x3 x4) ((iE 1 0) s17) fun s27 =>
  zCallLu (mE_X2_restart N ((pE 1 0) s27)) ((iE 1 0) s27) fun s34 =>
  mT_X7_replayWith_40 N s34 x1 x2 x3 x4 (0)
set_option maxRecDepth 20000 in
set_option maxHeartbeats 2000000 in
theorem cT_X7_replayWith {adr : Nat → Nat} {cI cZ cS cD cE : ClassId} {tL tH : Nat} {l : Launch} {D : va_G} {N : Nat} {σ : ST} {x1 : Int32} {x2 : Int32} {x3 : Int32} {x4 : Int32} (q : ST) (hf : mT_X7_replayWith N σ x1 x2 x3 x4 = some q) : zM l D (wdT adr cI cZ cS cD cE tL tH) yX7_replayWith cX7_replayWith 6 none ({ frames := 6, cells := 0, slots := 0, locals := 146 }) [.ref (adr 600), .int x1, .int x2, .int x3, .int x4] σ (zu q) := by
  refine zM_of sfE_ok rfl (Nat.le_of_ble_eq_true rfl) [(0, .ref (adr 600)), (1, .int x1), (2, .int x2), (3, .int x3), (4, .int x4)] rfl (fun X hX1 hX2 B => ?_)
  have B : zC X 6 (wdT adr cI cZ cS cD cE tL tH) cX7_replayWith RX7 none { frames := 6, cells := 0, slots := 0, locals := 146 } := B
  refine z_aload_n B dX7_replayWith_0 0 rfl rfl ?_
  refine fT_g_P_paper B dX7_replayWith_1 ?_
  refine z_aload_n B dX7_replayWith_4 0 rfl rfl ?_
  refine fT_g_P_now B dX7_replayWith_5 ?_
  refine z_callVLu B (lY10 (adr := adr) (cI := cI) (cZ := cZ) (cS := cS) (cD := cD) (cE := cE) (tL := tL) (tH := tH)) (As := [.ref (a0 adr 0)]) kcV_X7_282 dX7_replayWith_8 hf (fun q hq => cY_X2_copyTerms q hq) wY_o_E rfl rfl rfl rfl (Nat.le_of_ble_eq_true rfl) rfl rfl ⟨Nat.le_of_ble_eq_true rfl, Nat.le_of_ble_eq_true rfl⟩ (fun s8 hf => ?_)
  refine z_aload_n B dX7_replayWith_11 0 rfl rfl ?_
  refine fT_g_P_paper B dX7_replayWith_12 ?_
  refine z_iload_n B dX7_replayWith_15 1 rfl rfl ?_
  refine z_iload_n B dX7_replayWith_16 2 rfl rfl ?_
  refine z_callVLu B (lE1 (adr := adr) (cI := cI) (cZ := cZ) (cS := cS) (cD := cD) (cE := cE) (tL := tL) (tH := tH)) (As := [.int x1, .int x2]) kcV_X7_66 dX7_replayWith_17 hf (fun q hq => cE_X2_setTerm q hq) wE_o_E rfl rfl rfl rfl (Nat.le_of_ble_eq_true rfl) rfl rfl ⟨Nat.le_of_ble_eq_true rfl, Nat.le_of_ble_eq_true rfl⟩ (fun s17 hf => ?_)
  refine z_aload_n B dX7_replayWith_20 0 rfl rfl ?_
  refine fT_g_P_paper B dX7_replayWith_21 ?_
  refine z_iload_n B dX7_replayWith_24 3 rfl rfl ?_
  refine z_iload B dX7_replayWith_25 4 rfl ?_
  refine z_callVLu B (lE1 (adr := adr) (cI := cI) (cZ := cZ) (cS := cS) (cD := cD) (cE := cE) (tL := tL) (tH := tH)) (As := [.int x3, .int x4]) kcV_X7_66 dX7_replayWith_27 hf (fun q hq => cE_X2_setTerm q hq) wE_o_E rfl rfl rfl rfl (Nat.le_of_ble_eq_true rfl) rfl rfl ⟨Nat.le_of_ble_eq_true rfl, Nat.le_of_ble_eq_true rfl⟩ (fun s27 hf => ?_)
  refine z_aload_n B dX7_replayWith_30 0 rfl rfl ?_
  refine fT_g_P_paper B dX7_replayWith_31 ?_
  refine z_callVLu B (lE1 (adr := adr) (cI := cI) (cZ := cZ) (cS := cS) (cD := cD) (cE := cE) (tL := tL) (tH := tH)) (As := []) kcV_X7_70 dX7_replayWith_34 hf (fun q hq => cE_X2_restart q hq) wE_o_E rfl rfl rfl rfl (Nat.le_of_ble_eq_true rfl) rfl rfl ⟨Nat.le_of_ble_eq_true rfl, Nat.le_of_ble_eq_true rfl⟩ (fun s34 hf => ?_)
  refine z_iconst B (0) dX7_replayWith_37 zc_iconst_0 ?_
  refine z_istore B [(5, .int (0)), (0, .ref (adr 600)), (1, .int x1), (2, .int x2), (3, .int x3), (4, .int x4)] dX7_replayWith_38 (Nat.le_of_ble_eq_true rfl) rfl ?_
  exact z_loc [1, 2, 3, 4, 5, 0] _ rfl (tT_X7_replayWith_40 B N s34 x1 x2 x3 x4 (0) hf)
theorem dX7_replay_0 : decode cX7_replay 0 = .ok (.iload_n 1, 1) := by decide +kernel
theorem dX7_replay_1 : decode cX7_replay 1 = .ok (.iload_n 2, 1) := by decide +kernel
theorem dX7_replay_2 : decode cX7_replay 2 = .ok (.invokestatic 58, 3) := by decide +kernel
theorem dX7_replay_5 : decode cX7_replay 5 = .ok (.ifCond .eq 13, 3) := by decide +kernel
theorem dX7_replay_8 : decode cX7_replay 8 = .ok (.iload_n 3, 1) := by decide +kernel
theorem dX7_replay_9 : decode cX7_replay 9 = .ok (.ifCond .lt 9, 3) := by decide +kernel
theorem dX7_replay_12 : decode cX7_replay 12 = .ok (.iload_n 3, 1) := by decide +kernel
theorem dX7_replay_13 : decode cX7_replay 13 = .ok (.bipush 34, 2) := by decide +kernel
theorem dX7_replay_15 : decode cX7_replay 15 = .ok (.if_icmp .lt 6, 3) := by decide +kernel
theorem dX7_replay_18 : decode cX7_replay 18 = .ok (.ldc 159, 2) := by decide +kernel
theorem dX7_replay_20 : decode cX7_replay 20 = .ok (.ireturn, 1) := by decide +kernel
theorem dX7_replay_21 : decode cX7_replay 21 = .ok (.iload_n 1, 1) := by decide +kernel
theorem dX7_replay_22 : decode cX7_replay 22 = .ok (.bipush 7, 2) := by decide +kernel
theorem dX7_replay_24 : decode cX7_replay 24 = .ok (.if_icmp .ne 19, 3) := by decide +kernel
theorem dX7_replay_27 : decode cX7_replay 27 = .ok (.iload_n 2, 1) := by decide +kernel
theorem dX7_replay_28 : decode cX7_replay 28 = .ok (.aload_n 0, 1) := by decide +kernel
theorem dX7_replay_29 : decode cX7_replay 29 = .ok (.getfield 26, 3) := by decide +kernel
theorem dX7_replay_32 : decode cX7_replay 32 = .ok (.bipush 7, 2) := by decide +kernel
theorem dX7_replay_34 : decode cX7_replay 34 = .ok (.invokevirtual 62, 3) := by decide +kernel
theorem dX7_replay_37 : decode cX7_replay 37 = .ok (.if_icmp .eq 6, 3) := by decide +kernel
theorem dX7_replay_40 : decode cX7_replay 40 = .ok (.ldc 159, 2) := by decide +kernel
theorem dX7_replay_42 : decode cX7_replay 42 = .ok (.ireturn, 1) := by decide +kernel
theorem dX7_replay_43 : decode cX7_replay 43 = .ok (.aload_n 0, 1) := by decide +kernel
theorem dX7_replay_44 : decode cX7_replay 44 = .ok (.iload_n 1, 1) := by decide +kernel
theorem dX7_replay_45 : decode cX7_replay 45 = .ok (.iload_n 2, 1) := by decide +kernel
theorem dX7_replay_46 : decode cX7_replay 46 = .ok (.iload_n 1, 1) := by decide +kernel
theorem dX7_replay_47 : decode cX7_replay 47 = .ok (.iload_n 2, 1) := by decide +kernel
theorem dX7_replay_48 : decode cX7_replay 48 = .ok (.invokevirtual 176, 3) := by decide +kernel
theorem dX7_replay_51 : decode cX7_replay 51 = .ok (.aload_n 0, 1) := by decide +kernel
theorem dX7_replay_52 : decode cX7_replay 52 = .ok (.getfield 30, 3) := by decide +kernel
theorem dX7_replay_55 : decode cX7_replay 55 = .ok (.iload_n 3, 1) := by decide +kernel
theorem dX7_replay_56 : decode cX7_replay 56 = .ok (.invokevirtual 230, 3) := by decide +kernel
theorem dX7_replay_59 : decode cX7_replay 59 = .ok (.ireturn, 1) := by decide +kernel
def mT_X7_replay_43 (N : Nat) (σ : ST) (x1 : Int32) (x2 : Int32) (x3 : Int32) : Option (Int32 × ST) :=
  zCallu (mT_X7_replayWith N σ x1 x2 x1 x2) fun s48 =>
  zCallL (mE_X2_counted N ((pE 1 0) s48) x3) ((iE 1 0) s48) fun v56 s56 =>
  some (v56, s56)
set_option maxRecDepth 20000 in
set_option maxHeartbeats 2000000 in
theorem tT_X7_replay_43 {adr : Nat → Nat} {cI cZ cS cD cE : ClassId} {tL tH : Nat} {X : zX} {q : Int32 × ST} (B : zC X 4 (wdT adr cI cZ cS cD cE tL tH) cX7_replay RX7 (some .int) { frames := 7, cells := 0, slots := 0, locals := 171 }) (N : Nat) (σ : ST) (x1 : Int32) (x2 : Int32) (x3 : Int32) (hf : mT_X7_replay_43 N σ x1 x2 x3 = some q) : zJ X 4 (wdT adr cI cZ cS cD cE tL tH) (zi q) 43 [(0, .ref (adr 600)), (1, .int x1), (2, .int x2), (3, .int x3)] [] σ := by
  refine z_aload_n B dX7_replay_43 0 rfl rfl ?_
  refine z_iload_n B dX7_replay_44 1 rfl rfl ?_
  refine z_iload_n B dX7_replay_45 2 rfl rfl ?_
  refine z_iload_n B dX7_replay_46 1 rfl rfl ?_
  refine z_iload_n B dX7_replay_47 2 rfl rfl ?_
  refine z_callVu B (As := [.int x1, .int x2, .int x1, .int x2]) kcV_X7_176 dX7_replay_48 hf (fun q hq => cT_X7_replayWith q hq) (wT_o_P (adr := adr) (cI := cI) (cZ := cZ) (cS := cS) (cD := cD) (cE := cE) (tL := tL) (tH := tH)) rfl rfl rfl rfl (Nat.le_of_ble_eq_true rfl) rfl rfl ⟨Nat.le_of_ble_eq_true rfl, Nat.le_of_ble_eq_true rfl⟩ (fun s48 hf => ?_)
  refine z_aload_n B dX7_replay_51 0 rfl rfl ?_
  refine fT_g_P_paper B dX7_replay_52 ?_
  refine z_iload_n B dX7_replay_55 3 rfl rfl ?_
  refine z_callVLi B (lE1 (adr := adr) (cI := cI) (cZ := cZ) (cS := cS) (cD := cD) (cE := cE) (tL := tL) (tH := tH)) (As := [.int x3]) kcV_X7_230 dX7_replay_56 hf (fun q hq => cE_X2_counted q hq) wE_o_E rfl rfl rfl rfl (Nat.le_of_ble_eq_true rfl) rfl rfl ⟨Nat.le_of_ble_eq_true rfl, Nat.le_of_ble_eq_true rfl⟩ (fun v56 s56 hf => ?_)
  exact z_ireturn B dX7_replay_59 hf
def mT_X7_replay_18 (N : Nat) (σ : ST) (x1 : Int32) (x2 : Int32) (x3 : Int32) : Option (Int32 × ST) :=
  some ((-2147483648), σ)
set_option maxRecDepth 20000 in
set_option maxHeartbeats 2000000 in
theorem tT_X7_replay_18 {adr : Nat → Nat} {cI cZ cS cD cE : ClassId} {tL tH : Nat} {X : zX} {q : Int32 × ST} (B : zC X 4 (wdT adr cI cZ cS cD cE tL tH) cX7_replay RX7 (some .int) { frames := 7, cells := 0, slots := 0, locals := 171 }) (N : Nat) (σ : ST) (x1 : Int32) (x2 : Int32) (x3 : Int32) (hf : mT_X7_replay_18 N σ x1 x2 x3 = some q) : zJ X 4 (wdT adr cI cZ cS cD cE tL tH) (zi q) 18 [(0, .ref (adr 600)), (1, .int x1), (2, .int x2), (3, .int x3)] [] σ := by
  refine z_ldc B kw_658 dX7_replay_18 ?_
  exact z_ireturn B dX7_replay_20 hf
def mT_X7_replay (N : Nat) (σ : ST) (x1 : Int32) (x2 : Int32) (x3 : Int32) : Option (Int32 × ST) :=
  zCallL (mE_X7_isTermValue N ((pE 0 0) σ) x1 x2) ((iE 0 0) σ) fun v2 s2 =>
  if (v2 : Int32) = 0 then
    mT_X7_replay_18 N s2 x1 x2 x3
  else
    if (x3 : Int32) < 0 then
      mT_X7_replay_18 N s2 x1 x2 x3
    else
      if (x3 : Int32) < (34) then
        if (x1 : Int32) = (7) then
          zCallL (mE_X2_term N ((pE 0 0) s2) (7)) ((iE 0 0) s2) fun v34 s34 =>
          if (x2 : Int32) = v34 then
            mT_X7_replay_43 N s34 x1 x2 x3
          else
            some ((-2147483648), s34)
        else
          mT_X7_replay_43 N s2 x1 x2 x3
      else
        mT_X7_replay_18 N s2 x1 x2 x3
set_option maxRecDepth 20000 in
set_option maxHeartbeats 2000000 in
theorem cT_X7_replay {adr : Nat → Nat} {cI cZ cS cD cE : ClassId} {tL tH : Nat} {l : Launch} {D : va_G} {N : Nat} {σ : ST} {x1 : Int32} {x2 : Int32} {x3 : Int32} (q : Int32 × ST) (hf : mT_X7_replay N σ x1 x2 x3 = some q) : zM l D (wdT adr cI cZ cS cD cE tL tH) yX7_replay cX7_replay 4 (some .int) ({ frames := 7, cells := 0, slots := 0, locals := 171 }) [.ref (adr 600), .int x1, .int x2, .int x3] σ (zi q) := by
  refine zM_of sfE_ok rfl (Nat.le_of_ble_eq_true rfl) [(0, .ref (adr 600)), (1, .int x1), (2, .int x2), (3, .int x3)] rfl (fun X hX1 hX2 B => ?_)
  have B : zC X 4 (wdT adr cI cZ cS cD cE tL tH) cX7_replay RX7 (some .int) { frames := 7, cells := 0, slots := 0, locals := 171 } := B
  refine z_iload_n B dX7_replay_0 1 rfl rfl ?_
  refine z_iload_n B dX7_replay_1 2 rfl rfl ?_
  refine z_callSLi B (lE0 (adr := adr) (cI := cI) (cZ := cZ) (cS := cS) (cD := cD) (cE := cE) (tL := tL) (tH := tH)) (As := [.int x1, .int x2]) kcS_X7_58 dX7_replay_2 hf (fun q hq => cE_X7_isTermValue q hq) rfl rfl (Nat.le_of_ble_eq_true rfl) rfl rfl ⟨Nat.le_of_ble_eq_true rfl, Nat.le_of_ble_eq_true rfl⟩ (fun v2 s2 hf => ?_)
  refine z_if_eq B 18 dX7_replay_5 (by decide) hf (fun hf => ?_) (fun hf => ?_)
  · exact tT_X7_replay_18 B N s2 x1 x2 x3 hf
  · refine z_iload_n B dX7_replay_8 3 rfl rfl ?_
    refine z_if_lt B 18 dX7_replay_9 (by decide) hf (fun hf => ?_) (fun hf => ?_)
    · exact tT_X7_replay_18 B N s2 x1 x2 x3 hf
    · refine z_iload_n B dX7_replay_12 3 rfl rfl ?_
      refine z_bipush B (34) dX7_replay_13 zc_bipush_34 ?_
      refine z_icmp_lt B 21 dX7_replay_15 (by decide) hf (fun hf => ?_) (fun hf => ?_)
      · refine z_iload_n B dX7_replay_21 1 rfl rfl ?_
        refine z_bipush B (7) dX7_replay_22 zc_bipush_7 ?_
        refine z_icmp_ne B 43 dX7_replay_24 (by decide) hf (fun hf => ?_) (fun hf => ?_)
        · exact tT_X7_replay_43 B N s2 x1 x2 x3 hf
        · refine z_iload_n B dX7_replay_27 2 rfl rfl ?_
          refine z_aload_n B dX7_replay_28 0 rfl rfl ?_
          refine fT_g_P_now B dX7_replay_29 ?_
          refine z_bipush B (7) dX7_replay_32 zc_bipush_7 ?_
          refine z_callVLi B (lE0 (adr := adr) (cI := cI) (cZ := cZ) (cS := cS) (cD := cD) (cE := cE) (tL := tL) (tH := tH)) (As := [.int (7)]) kcV_X7_62 dX7_replay_34 hf (fun q hq => cE_X2_term q hq) wE_o_E rfl rfl rfl rfl (Nat.le_of_ble_eq_true rfl) rfl rfl ⟨Nat.le_of_ble_eq_true rfl, Nat.le_of_ble_eq_true rfl⟩ (fun v34 s34 hf => ?_)
          refine z_icmp_eq B 43 dX7_replay_37 (by decide) hf (fun hf => ?_) (fun hf => ?_)
          · exact tT_X7_replay_43 B N s34 x1 x2 x3 hf
          · refine z_ldc B kw_658 dX7_replay_40 ?_
            exact z_ireturn B dX7_replay_42 hf
      · exact tT_X7_replay_18 B N s2 x1 x2 x3 hf
theorem dX7_forecast_0 : decode cX7_forecast 0 = .ok (.iload_n 1, 1) := by decide +kernel
theorem dX7_forecast_1 : decode cX7_forecast 1 = .ok (.iconst 1, 1) := by decide +kernel
theorem dX7_forecast_2 : decode cX7_forecast 2 = .ok (.if_icmp .lt 18, 3) := by decide +kernel
theorem dX7_forecast_5 : decode cX7_forecast 5 = .ok (.iload_n 1, 1) := by decide +kernel
theorem dX7_forecast_6 : decode cX7_forecast 6 = .ok (.bipush 20, 2) := by decide +kernel
theorem dX7_forecast_8 : decode cX7_forecast 8 = .ok (.if_icmp .gt 12, 3) := by decide +kernel
theorem dX7_forecast_11 : decode cX7_forecast 11 = .ok (.iload_n 2, 1) := by decide +kernel
theorem dX7_forecast_12 : decode cX7_forecast 12 = .ok (.ifCond .lt 8, 3) := by decide +kernel
theorem dX7_forecast_15 : decode cX7_forecast 15 = .ok (.iload_n 2, 1) := by decide +kernel
theorem dX7_forecast_16 : decode cX7_forecast 16 = .ok (.iconst 3, 1) := by decide +kernel
theorem dX7_forecast_17 : decode cX7_forecast 17 = .ok (.if_icmp .le 5, 3) := by decide +kernel
theorem dX7_forecast_20 : decode cX7_forecast 20 = .ok (.iconst (-1), 1) := by decide +kernel
theorem dX7_forecast_21 : decode cX7_forecast 21 = .ok (.ireturn, 1) := by decide +kernel
theorem dX7_forecast_22 : decode cX7_forecast 22 = .ok (.aload_n 0, 1) := by decide +kernel
theorem dX7_forecast_23 : decode cX7_forecast 23 = .ok (.getfield 30, 3) := by decide +kernel
theorem dX7_forecast_26 : decode cX7_forecast 26 = .ok (.aload_n 0, 1) := by decide +kernel
theorem dX7_forecast_27 : decode cX7_forecast 27 = .ok (.getfield 26, 3) := by decide +kernel
theorem dX7_forecast_30 : decode cX7_forecast 30 = .ok (.invokevirtual 137, 3) := by decide +kernel
theorem dX7_forecast_33 : decode cX7_forecast 33 = .ok (.iconst 0, 1) := by decide +kernel
theorem dX7_forecast_34 : decode cX7_forecast 34 = .ok (.istore_n 3, 1) := by decide +kernel
theorem dX7_forecast_35 : decode cX7_forecast 35 = .ok (.iload_n 3, 1) := by decide +kernel
theorem dX7_forecast_36 : decode cX7_forecast 36 = .ok (.iload_n 1, 1) := by decide +kernel
theorem dX7_forecast_37 : decode cX7_forecast 37 = .ok (.if_icmp .ge 68, 3) := by decide +kernel
theorem dX7_forecast_40 : decode cX7_forecast 40 = .ok (.iconst 0, 1) := by decide +kernel
theorem dX7_forecast_41 : decode cX7_forecast 41 = .ok (.istore 4, 2) := by decide +kernel
theorem dX7_forecast_43 : decode cX7_forecast 43 = .ok (.iload 4, 2) := by decide +kernel
theorem dX7_forecast_45 : decode cX7_forecast 45 = .ok (.bipush 6, 2) := by decide +kernel
theorem dX7_forecast_47 : decode cX7_forecast 47 = .ok (.if_icmp .ge 52, 3) := by decide +kernel
theorem dX7_forecast_50 : decode cX7_forecast 50 = .ok (.aload_n 0, 1) := by decide +kernel
theorem dX7_forecast_51 : decode cX7_forecast 51 = .ok (.getfield 30, 3) := by decide +kernel
theorem dX7_forecast_54 : decode cX7_forecast 54 = .ok (.iload 4, 2) := by decide +kernel
theorem dX7_forecast_56 : decode cX7_forecast 56 = .ok (.invokevirtual 121, 3) := by decide +kernel
theorem dX7_forecast_59 : decode cX7_forecast 59 = .ok (.astore 5, 2) := by decide +kernel
theorem dX7_forecast_61 : decode cX7_forecast 61 = .ok (.aload 5, 2) := by decide +kernel
theorem dX7_forecast_63 : decode cX7_forecast 63 = .ok (.ifnull 30, 3) := by decide +kernel
theorem dX7_forecast_66 : decode cX7_forecast 66 = .ok (.aload 5, 2) := by decide +kernel
theorem dX7_forecast_68 : decode cX7_forecast 68 = .ok (.getfield 233, 3) := by decide +kernel
theorem dX7_forecast_71 : decode cX7_forecast 71 = .ok (.ifCond .le 22, 3) := by decide +kernel
theorem dX7_forecast_74 : decode cX7_forecast 74 = .ok (.aload_n 0, 1) := by decide +kernel
theorem dX7_forecast_75 : decode cX7_forecast 75 = .ok (.getfield 30, 3) := by decide +kernel
theorem dX7_forecast_78 : decode cX7_forecast 78 = .ok (.aload 5, 2) := by decide +kernel
theorem dX7_forecast_80 : decode cX7_forecast 80 = .ok (.getfield 236, 3) := by decide +kernel
theorem dX7_forecast_83 : decode cX7_forecast 83 = .ok (.aload 5, 2) := by decide +kernel
theorem dX7_forecast_85 : decode cX7_forecast 85 = .ok (.getfield 166, 3) := by decide +kernel
theorem dX7_forecast_88 : decode cX7_forecast 88 = .ok (.iadd, 1) := by decide +kernel
theorem dX7_forecast_89 : decode cX7_forecast 89 = .ok (.invokevirtual 73, 3) := by decide +kernel
theorem dX7_forecast_92 : decode cX7_forecast 92 = .ok (.pop, 1) := by decide +kernel
theorem dX7_forecast_93 : decode cX7_forecast 93 = .ok (.iinc 4 1, 3) := by decide +kernel
theorem dX7_forecast_96 : decode cX7_forecast 96 = .ok (.goto (-53), 3) := by decide +kernel
theorem dX7_forecast_99 : decode cX7_forecast 99 = .ok (.iinc 3 1, 3) := by decide +kernel
theorem dX7_forecast_102 : decode cX7_forecast 102 = .ok (.goto (-67), 3) := by decide +kernel
theorem dX7_forecast_105 : decode cX7_forecast 105 = .ok (.iload_n 2, 1) := by decide +kernel
theorem dX7_forecast_106 : decode cX7_forecast 106 = .ok (.ifCond .ne 7, 3) := by decide +kernel
theorem dX7_forecast_109 : decode cX7_forecast 109 = .ok (.iconst 0, 1) := by decide +kernel
theorem dX7_forecast_110 : decode cX7_forecast 110 = .ok (.goto 24, 3) := by decide +kernel
theorem dX7_forecast_113 : decode cX7_forecast 113 = .ok (.iload_n 2, 1) := by decide +kernel
theorem dX7_forecast_114 : decode cX7_forecast 114 = .ok (.iconst 1, 1) := by decide +kernel
theorem dX7_forecast_115 : decode cX7_forecast 115 = .ok (.if_icmp .ne 7, 3) := by decide +kernel
theorem dX7_forecast_118 : decode cX7_forecast 118 = .ok (.iconst 1, 1) := by decide +kernel
theorem dX7_forecast_119 : decode cX7_forecast 119 = .ok (.goto 15, 3) := by decide +kernel
theorem dX7_forecast_122 : decode cX7_forecast 122 = .ok (.iload_n 2, 1) := by decide +kernel
theorem dX7_forecast_123 : decode cX7_forecast 123 = .ok (.iconst 2, 1) := by decide +kernel
theorem dX7_forecast_124 : decode cX7_forecast 124 = .ok (.if_icmp .ne 8, 3) := by decide +kernel
theorem dX7_forecast_127 : decode cX7_forecast 127 = .ok (.bipush 6, 2) := by decide +kernel
theorem dX7_forecast_129 : decode cX7_forecast 129 = .ok (.goto 5, 3) := by decide +kernel
theorem dX7_forecast_132 : decode cX7_forecast 132 = .ok (.bipush 32, 2) := by decide +kernel
theorem dX7_forecast_134 : decode cX7_forecast 134 = .ok (.istore_n 3, 1) := by decide +kernel
theorem dX7_forecast_135 : decode cX7_forecast 135 = .ok (.aload_n 0, 1) := by decide +kernel
theorem dX7_forecast_136 : decode cX7_forecast 136 = .ok (.getfield 30, 3) := by decide +kernel
theorem dX7_forecast_139 : decode cX7_forecast 139 = .ok (.getfield 79, 3) := by decide +kernel
theorem dX7_forecast_142 : decode cX7_forecast 142 = .ok (.iload_n 3, 1) := by decide +kernel
theorem dX7_forecast_143 : decode cX7_forecast 143 = .ok (.iaload, 1) := by decide +kernel
theorem dX7_forecast_144 : decode cX7_forecast 144 = .ok (.aload_n 0, 1) := by decide +kernel
theorem dX7_forecast_145 : decode cX7_forecast 145 = .ok (.getfield 26, 3) := by decide +kernel
theorem dX7_forecast_148 : decode cX7_forecast 148 = .ok (.getfield 79, 3) := by decide +kernel
theorem dX7_forecast_151 : decode cX7_forecast 151 = .ok (.iload_n 3, 1) := by decide +kernel
theorem dX7_forecast_152 : decode cX7_forecast 152 = .ok (.iaload, 1) := by decide +kernel
theorem dX7_forecast_153 : decode cX7_forecast 153 = .ok (.isub, 1) := by decide +kernel
theorem dX7_forecast_154 : decode cX7_forecast 154 = .ok (.ireturn, 1) := by decide +kernel
def mT_X7_forecast_134 (N : Nat) (σ : ST) (x1 : Int32) (x2 : Int32) (x3 : Int32) (k0 : Int32) : Option (Int32 × ST) :=
  zGet (σ 102) 34 k0 fun v143 =>
  zGet (σ 2) 34 k0 fun v152 =>
  zLet ((v143 : Int32) - v152) fun v153 =>
  some (v153, σ)
set_option maxRecDepth 20000 in
set_option maxHeartbeats 2000000 in
theorem tT_X7_forecast_134 {adr : Nat → Nat} {cI cZ cS cD cE : ClassId} {tL tH : Nat} {X : zX} {q : Int32 × ST} (B : zC X 6 (wdT adr cI cZ cS cD cE tL tH) cX7_forecast RX7 (some .int) { frames := 6, cells := 0, slots := 0, locals := 146 }) (N : Nat) (σ : ST) (x1 : Int32) (x2 : Int32) (x3 : Int32) (k0 : Int32) (hf : mT_X7_forecast_134 N σ x1 x2 x3 k0 = some q) : zJ X 6 (wdT adr cI cZ cS cD cE tL tH) (zi q) 134 [(0, .ref (adr 600)), (1, .int x1), (2, .int x2), (3, .int x3)] [.int k0] σ := by
  refine z_istore_n B [(3, .int k0), (0, .ref (adr 600)), (1, .int x1), (2, .int x2)] dX7_forecast_134 rfl (Nat.le_of_ble_eq_true rfl) rfl ?_
  refine z_aload_n B dX7_forecast_135 1 rfl rfl ?_
  refine fT_g_P_paper B dX7_forecast_136 ?_
  refine fT_g_E1_counts B dX7_forecast_139 ?_
  refine z_iload_n B dX7_forecast_142 0 rfl rfl ?_
  refine fT_l_E1_counts B dX7_forecast_143 hf (fun v143 hf => ?_)
  refine z_aload_n B dX7_forecast_144 1 rfl rfl ?_
  refine fT_g_P_now B dX7_forecast_145 ?_
  refine fT_g_E0_counts B dX7_forecast_148 ?_
  refine z_iload_n B dX7_forecast_151 0 rfl rfl ?_
  refine fT_l_E0_counts B dX7_forecast_152 hf (fun v152 hf => ?_)
  refine z_isub B dX7_forecast_153 hf (fun v153 hf => ?_)
  exact z_ireturn B dX7_forecast_154 hf
def mT_X7_forecast_93 (N : Nat) (hd35 : ST → Int32 → Int32 → Int32 → Option (Int32 × ST)) (hd43 : ST → Int32 → Int32 → Int32 → Int32 → Option (Int32 × ST)) (σ : ST) (x1 : Int32) (x2 : Int32) (x3 : Int32) (x4 : Int32) (x5 : Option (Fin 6)) : Option (Int32 × ST) :=
  zLet (x4 + (1)) fun v93 =>
  hd43 σ x1 x2 x3 v93
set_option maxRecDepth 20000 in
set_option maxHeartbeats 2000000 in
theorem tT_X7_forecast_93 {adr : Nat → Nat} {cI cZ cS cD cE : ClassId} {tL tH : Nat} {X : zX} {q : Int32 × ST} (B : zC X 6 (wdT adr cI cZ cS cD cE tL tH) cX7_forecast RX7 (some .int) { frames := 6, cells := 0, slots := 0, locals := 146 }) (N : Nat) (hd35 : ST → Int32 → Int32 → Int32 → Option (Int32 × ST)) (hh35 : ∀ (σ : ST) (x1 : Int32) (x2 : Int32) (x3 : Int32), hd35 σ x1 x2 x3 = some q → zJ X 6 (wdT adr cI cZ cS cD cE tL tH) (zi q) 35 [(0, .ref (adr 600)), (1, .int x1), (2, .int x2), (3, .int x3)] [] σ) (hd43 : ST → Int32 → Int32 → Int32 → Int32 → Option (Int32 × ST)) (hh43 : ∀ (σ : ST) (x1 : Int32) (x2 : Int32) (x3 : Int32) (x4 : Int32), hd43 σ x1 x2 x3 x4 = some q → zJ X 6 (wdT adr cI cZ cS cD cE tL tH) (zi q) 43 [(0, .ref (adr 600)), (1, .int x1), (2, .int x2), (3, .int x3), (4, .int x4)] [] σ) (σ : ST) (x1 : Int32) (x2 : Int32) (x3 : Int32) (x4 : Int32) (x5 : Option (Fin 6)) (hf : mT_X7_forecast_93 N hd35 hd43 σ x1 x2 x3 x4 x5 = some q) : zJ X 6 (wdT adr cI cZ cS cD cE tL tH) (zi q) 93 [(0, .ref (adr 600)), (1, .int x1), (2, .int x2), (3, .int x3), (4, .int x4), (5, zq (a1 adr) x5)] [] σ := by
  refine z_iinc B (1) 4 (fun v93 => [(4, .int v93), (0, .ref (adr 600)), (1, .int x1), (2, .int x2), (3, .int x3), (5, zq (a1 adr) x5)]) dX7_forecast_93 hf zc_iconst_1 rfl (Nat.le_of_ble_eq_true rfl) (fun _ => rfl) (fun v93 hf => ?_)
  refine z_goto B 43 dX7_forecast_96 (by decide) ?_
  exact z_loc [1, 2, 3, 4, 0] _ rfl (hh43 σ x1 x2 x3 v93 hf)
def mT_X7_forecast_B43 (N : Nat) (hd35 : ST → Int32 → Int32 → Int32 → Option (Int32 × ST)) (hd43 : ST → Int32 → Int32 → Int32 → Int32 → Option (Int32 × ST)) (σ : ST) (x1 : Int32) (x2 : Int32) (x3 : Int32) (x4 : Int32) : Option (Int32 × ST) :=
  if ((6) : Int32) ≤ x4 then
    zLet (x3 + (1)) fun v99 =>
    hd35 σ x1 x2 v99
  else
    zCallLq (mE_X2_streamAt N ((pE 1 0) σ) x4) ((iE 1 0) σ) fun v56 s56 =>
    match v56 with
    | none =>
        mT_X7_forecast_93 N hd35 hd43 s56 x1 x2 x3 x4 none
    | some p63 =>
        zLet (pE 1 0 s56 (12 + (p63).val) 4) fun v68 =>
        if (v68 : Int32) ≤ 0 then
          mT_X7_forecast_93 N hd35 hd43 s56 x1 x2 x3 x4 (some p63)
        else
          zLet (pE 1 0 s56 (12 + (p63).val) 1) fun v80 =>
          zLet (pE 1 0 s56 (12 + (p63).val) 2) fun v85 =>
          zLet ((v80 : Int32) + v85) fun v88 =>
          zCallL (mE_X2_take N ((pE 1 0) s56) v88) ((iE 1 0) s56) fun v89 s89 =>
          mT_X7_forecast_93 N hd35 hd43 s89 x1 x2 x3 x4 (some p63)
def mT_X7_forecast_43 (N : Nat) (hd35 : ST → Int32 → Int32 → Int32 → Option (Int32 × ST)) : ST → Int32 → Int32 → Int32 → Int32 → Option (Int32 × ST) := zIt (mT_X7_forecast_B43 N hd35) (fun _ _ _ _ _ => none) N
set_option maxRecDepth 20000 in
set_option maxHeartbeats 2000000 in
theorem tT_X7_forecast_43 {adr : Nat → Nat} {cI cZ cS cD cE : ClassId} {tL tH : Nat} {X : zX} {q : Int32 × ST} (B : zC X 6 (wdT adr cI cZ cS cD cE tL tH) cX7_forecast RX7 (some .int) { frames := 6, cells := 0, slots := 0, locals := 146 }) (N : Nat) (hd35 : ST → Int32 → Int32 → Int32 → Option (Int32 × ST)) (hh35 : ∀ (σ : ST) (x1 : Int32) (x2 : Int32) (x3 : Int32), hd35 σ x1 x2 x3 = some q → zJ X 6 (wdT adr cI cZ cS cD cE tL tH) (zi q) 35 [(0, .ref (adr 600)), (1, .int x1), (2, .int x2), (3, .int x3)] [] σ) : ∀ (σ : ST) (x1 : Int32) (x2 : Int32) (x3 : Int32) (x4 : Int32), mT_X7_forecast_43 N hd35 σ x1 x2 x3 x4 = some q → zJ X 6 (wdT adr cI cZ cS cD cE tL tH) (zi q) 43 [(0, .ref (adr 600)), (1, .int x1), (2, .int x2), (3, .int x3), (4, .int x4)] [] σ := by
  refine zIt_ind (P := fun (hd : ST → Int32 → Int32 → Int32 → Int32 → Option (Int32 × ST)) => ∀ (σ : ST) (x1 : Int32) (x2 : Int32) (x3 : Int32) (x4 : Int32), hd σ x1 x2 x3 x4 = some q → zJ X 6 (wdT adr cI cZ cS cD cE tL tH) (zi q) 43 [(0, .ref (adr 600)), (1, .int x1), (2, .int x2), (3, .int x3), (4, .int x4)] [] σ) (fun _ _ _ _ _ hf => by cases hf) (fun hd43 hh43 => ?_) N
  intro σ x1 x2 x3 x4 hf
  refine z_iload B dX7_forecast_43 4 rfl ?_
  refine z_bipush B (6) dX7_forecast_45 zc_bipush_6 ?_
  refine z_icmp_ge B 99 dX7_forecast_47 (by decide) hf (fun hf => ?_) (fun hf => ?_)
  · refine z_iinc B (1) 3 (fun v99 => [(3, .int v99), (0, .ref (adr 600)), (1, .int x1), (2, .int x2), (4, .int x4)]) dX7_forecast_99 hf zc_iconst_1 rfl (Nat.le_of_ble_eq_true rfl) (fun _ => rfl) (fun v99 hf => ?_)
    refine z_goto B 35 dX7_forecast_102 (by decide) ?_
    exact z_loc [1, 2, 3, 0] _ rfl (hh35 σ x1 x2 v99 hf)
  · refine z_aload_n B dX7_forecast_50 0 rfl rfl ?_
    refine fT_g_P_paper B dX7_forecast_51 ?_
    refine z_iload B dX7_forecast_54 4 rfl ?_
    refine z_callVLq B (lE1 (adr := adr) (cI := cI) (cZ := cZ) (cS := cS) (cD := cD) (cE := cE) (tL := tL) (tH := tH)) (adr := a1 adr) (As := [.int x4]) kcV_X7_121 dX7_forecast_56 hf (fun q hq => cE_X2_streamAt q hq) wE_o_E rfl rfl rfl rfl (Nat.le_of_ble_eq_true rfl) rfl rfl ⟨Nat.le_of_ble_eq_true rfl, Nat.le_of_ble_eq_true rfl⟩ (fun v56 s56 hf => ?_)
    refine z_astoreq B [(5, zq (a1 adr) v56), (0, .ref (adr 600)), (1, .int x1), (2, .int x2), (3, .int x3), (4, .int x4)] dX7_forecast_59 (Nat.le_of_ble_eq_true rfl) rfl ?_
    refine z_aloadq B dX7_forecast_61 0 rfl ?_
    cases v56 with
    | none =>
      refine z_ifnull_N B 93 dX7_forecast_63 (by decide) ?_
      exact z_loc [1, 2, 3, 4, 5, 0] _ rfl (tT_X7_forecast_93 B N hd35 hh35 hd43 hh43 s56 x1 x2 x3 x4 none hf)
    | some p63 =>
      refine z_ifnull_S B dX7_forecast_63 ?_
      refine z_aload B dX7_forecast_66 0 rfl ?_
      refine fT_g_S2_window B p63 dX7_forecast_68 hf (fun v68 hf => ?_)
      refine z_if_le B 93 dX7_forecast_71 (by decide) hf (fun hf => ?_) (fun hf => ?_)
      · exact z_loc [1, 2, 3, 4, 5, 0] _ rfl (tT_X7_forecast_93 B N hd35 hh35 hd43 hh43 s56 x1 x2 x3 x4 (some p63) hf)
      · refine z_aload_n B dX7_forecast_74 1 rfl rfl ?_
        refine fT_g_P_paper B dX7_forecast_75 ?_
        refine z_aload B dX7_forecast_78 0 rfl ?_
        refine fT_g_S2_last B p63 dX7_forecast_80 hf (fun v80 hf => ?_)
        refine z_aload B dX7_forecast_83 0 rfl ?_
        refine fT_g_S2_stride B p63 dX7_forecast_85 hf (fun v85 hf => ?_)
        refine z_iadd B dX7_forecast_88 hf (fun v88 hf => ?_)
        refine z_callVLi B (lE1 (adr := adr) (cI := cI) (cZ := cZ) (cS := cS) (cD := cD) (cE := cE) (tL := tL) (tH := tH)) (As := [.int v88]) kcV_X7_73 dX7_forecast_89 hf (fun q hq => cE_X2_take q hq) wE_o_E rfl rfl rfl rfl (Nat.le_of_ble_eq_true rfl) rfl rfl ⟨Nat.le_of_ble_eq_true rfl, Nat.le_of_ble_eq_true rfl⟩ (fun v89 s89 hf => ?_)
        refine z_pop B dX7_forecast_92 rfl ?_
        exact z_loc [1, 2, 3, 4, 5, 0] _ rfl (tT_X7_forecast_93 B N hd35 hh35 hd43 hh43 s89 x1 x2 x3 x4 (some p63) hf)
def mT_X7_forecast_B35 (N : Nat) (hd35 : ST → Int32 → Int32 → Int32 → Option (Int32 × ST)) (σ : ST) (x1 : Int32) (x2 : Int32) (x3 : Int32) : Option (Int32 × ST) :=
  if (x1 : Int32) ≤ x3 then
    if (x2 : Int32) = 0 then
      mT_X7_forecast_134 N σ x1 x2 x3 (0)
    else
      if (x2 : Int32) = (1) then
        mT_X7_forecast_134 N σ x1 x2 x3 (1)
      else
        if (x2 : Int32) = (2) then
          mT_X7_forecast_134 N σ x1 x2 x3 (6)
        else
          mT_X7_forecast_134 N σ x1 x2 x3 (32)
  else
    mT_X7_forecast_43 N hd35 σ x1 x2 x3 (0)
def mT_X7_forecast_35 (N : Nat) : ST → Int32 → Int32 → Int32 → Option (Int32 × ST) := zIt (mT_X7_forecast_B35 N) (fun _ _ _ _ => none) N
set_option maxRecDepth 20000 in
set_option maxHeartbeats 2000000 in
theorem tT_X7_forecast_35 {adr : Nat → Nat} {cI cZ cS cD cE : ClassId} {tL tH : Nat} {X : zX} {q : Int32 × ST} (B : zC X 6 (wdT adr cI cZ cS cD cE tL tH) cX7_forecast RX7 (some .int) { frames := 6, cells := 0, slots := 0, locals := 146 }) (N : Nat) : ∀ (σ : ST) (x1 : Int32) (x2 : Int32) (x3 : Int32), mT_X7_forecast_35 N σ x1 x2 x3 = some q → zJ X 6 (wdT adr cI cZ cS cD cE tL tH) (zi q) 35 [(0, .ref (adr 600)), (1, .int x1), (2, .int x2), (3, .int x3)] [] σ := by
  refine zIt_ind (P := fun (hd : ST → Int32 → Int32 → Int32 → Option (Int32 × ST)) => ∀ (σ : ST) (x1 : Int32) (x2 : Int32) (x3 : Int32), hd σ x1 x2 x3 = some q → zJ X 6 (wdT adr cI cZ cS cD cE tL tH) (zi q) 35 [(0, .ref (adr 600)), (1, .int x1), (2, .int x2), (3, .int x3)] [] σ) (fun _ _ _ _ hf => by cases hf) (fun hd35 hh35 => ?_) N
  intro σ x1 x2 x3 hf
  refine z_iload_n B dX7_forecast_35 3 rfl rfl ?_
  refine z_iload_n B dX7_forecast_36 1 rfl rfl ?_
  refine z_icmp_ge B 105 dX7_forecast_37 (by decide) hf (fun hf => ?_) (fun hf => ?_)
  · refine z_iload_n B dX7_forecast_105 2 rfl rfl ?_
    refine z_if_ne B 113 dX7_forecast_106 (by decide) hf (fun hf => ?_) (fun hf => ?_)
    · refine z_iload_n B dX7_forecast_113 2 rfl rfl ?_
      refine z_iconst B (1) dX7_forecast_114 zc_iconst_1 ?_
      refine z_icmp_ne B 122 dX7_forecast_115 (by decide) hf (fun hf => ?_) (fun hf => ?_)
      · refine z_iload_n B dX7_forecast_122 2 rfl rfl ?_
        refine z_iconst B (2) dX7_forecast_123 zc_iconst_2 ?_
        refine z_icmp_ne B 132 dX7_forecast_124 (by decide) hf (fun hf => ?_) (fun hf => ?_)
        · refine z_bipush B (32) dX7_forecast_132 zc_bipush_32 ?_
          exact tT_X7_forecast_134 B N σ x1 x2 x3 (32) hf
        · refine z_bipush B (6) dX7_forecast_127 zc_bipush_6 ?_
          refine z_goto B 134 dX7_forecast_129 (by decide) ?_
          exact tT_X7_forecast_134 B N σ x1 x2 x3 (6) hf
      · refine z_iconst B (1) dX7_forecast_118 zc_iconst_1 ?_
        refine z_goto B 134 dX7_forecast_119 (by decide) ?_
        exact tT_X7_forecast_134 B N σ x1 x2 x3 (1) hf
    · refine z_iconst B (0) dX7_forecast_109 zc_iconst_0 ?_
      refine z_goto B 134 dX7_forecast_110 (by decide) ?_
      exact tT_X7_forecast_134 B N σ x1 x2 x3 (0) hf
  · refine z_iconst B (0) dX7_forecast_40 zc_iconst_0 ?_
    refine z_istore B [(4, .int (0)), (0, .ref (adr 600)), (1, .int x1), (2, .int x2), (3, .int x3)] dX7_forecast_41 (Nat.le_of_ble_eq_true rfl) rfl ?_
    exact z_loc [1, 2, 3, 4, 0] _ rfl (tT_X7_forecast_43 B N hd35 hh35 σ x1 x2 x3 (0) hf)
def mT_X7_forecast_20 (N : Nat) (σ : ST) (x1 : Int32) (x2 : Int32) : Option (Int32 × ST) :=
  some ((-1), σ)
set_option maxRecDepth 20000 in
set_option maxHeartbeats 2000000 in
theorem tT_X7_forecast_20 {adr : Nat → Nat} {cI cZ cS cD cE : ClassId} {tL tH : Nat} {X : zX} {q : Int32 × ST} (B : zC X 6 (wdT adr cI cZ cS cD cE tL tH) cX7_forecast RX7 (some .int) { frames := 6, cells := 0, slots := 0, locals := 146 }) (N : Nat) (σ : ST) (x1 : Int32) (x2 : Int32) (hf : mT_X7_forecast_20 N σ x1 x2 = some q) : zJ X 6 (wdT adr cI cZ cS cD cE tL tH) (zi q) 20 [(0, .ref (adr 600)), (1, .int x1), (2, .int x2)] [] σ := by
  refine z_iconst B (-1) dX7_forecast_20 zc_iconst_m1 ?_
  exact z_ireturn B dX7_forecast_21 hf
def mT_X7_forecast (N : Nat) (σ : ST) (x1 : Int32) (x2 : Int32) : Option (Int32 × ST) :=
  if (x1 : Int32) < (1) then
    mT_X7_forecast_20 N σ x1 x2
  else
    if ((20) : Int32) < x1 then
      mT_X7_forecast_20 N σ x1 x2
    else
      if (x2 : Int32) < 0 then
        mT_X7_forecast_20 N σ x1 x2
      else
        if (x2 : Int32) ≤ (3) then
          zCallLu (mY_X2_copyFrom N ((pY 1 0) σ)) ((iY 1 0) σ) fun s30 =>
          mT_X7_forecast_35 N s30 x1 x2 (0)
        else
          mT_X7_forecast_20 N σ x1 x2
set_option maxRecDepth 20000 in
set_option maxHeartbeats 2000000 in
theorem cT_X7_forecast {adr : Nat → Nat} {cI cZ cS cD cE : ClassId} {tL tH : Nat} {l : Launch} {D : va_G} {N : Nat} {σ : ST} {x1 : Int32} {x2 : Int32} (q : Int32 × ST) (hf : mT_X7_forecast N σ x1 x2 = some q) : zM l D (wdT adr cI cZ cS cD cE tL tH) yX7_forecast cX7_forecast 6 (some .int) ({ frames := 6, cells := 0, slots := 0, locals := 146 }) [.ref (adr 600), .int x1, .int x2] σ (zi q) := by
  refine zM_of sfE_ok rfl (Nat.le_of_ble_eq_true rfl) [(0, .ref (adr 600)), (1, .int x1), (2, .int x2)] rfl (fun X hX1 hX2 B => ?_)
  have B : zC X 6 (wdT adr cI cZ cS cD cE tL tH) cX7_forecast RX7 (some .int) { frames := 6, cells := 0, slots := 0, locals := 146 } := B
  refine z_iload_n B dX7_forecast_0 1 rfl rfl ?_
  refine z_iconst B (1) dX7_forecast_1 zc_iconst_1 ?_
  refine z_icmp_lt B 20 dX7_forecast_2 (by decide) hf (fun hf => ?_) (fun hf => ?_)
  · exact tT_X7_forecast_20 B N σ x1 x2 hf
  · refine z_iload_n B dX7_forecast_5 1 rfl rfl ?_
    refine z_bipush B (20) dX7_forecast_6 zc_bipush_20 ?_
    refine z_icmp_gt B 20 dX7_forecast_8 (by decide) hf (fun hf => ?_) (fun hf => ?_)
    · exact tT_X7_forecast_20 B N σ x1 x2 hf
    · refine z_iload_n B dX7_forecast_11 2 rfl rfl ?_
      refine z_if_lt B 20 dX7_forecast_12 (by decide) hf (fun hf => ?_) (fun hf => ?_)
      · exact tT_X7_forecast_20 B N σ x1 x2 hf
      · refine z_iload_n B dX7_forecast_15 2 rfl rfl ?_
        refine z_iconst B (3) dX7_forecast_16 zc_iconst_3 ?_
        refine z_icmp_le B 22 dX7_forecast_17 (by decide) hf (fun hf => ?_) (fun hf => ?_)
        · refine z_aload_n B dX7_forecast_22 0 rfl rfl ?_
          refine fT_g_P_paper B dX7_forecast_23 ?_
          refine z_aload_n B dX7_forecast_26 0 rfl rfl ?_
          refine fT_g_P_now B dX7_forecast_27 ?_
          refine z_callVLu B (lY10 (adr := adr) (cI := cI) (cZ := cZ) (cS := cS) (cD := cD) (cE := cE) (tL := tL) (tH := tH)) (As := [.ref (a0 adr 0)]) kcV_X7_137 dX7_forecast_30 hf (fun q hq => cY_X2_copyFrom q hq) wY_o_E rfl rfl rfl rfl (Nat.le_of_ble_eq_true rfl) rfl rfl ⟨Nat.le_of_ble_eq_true rfl, Nat.le_of_ble_eq_true rfl⟩ (fun s30 hf => ?_)
          refine z_iconst B (0) dX7_forecast_33 zc_iconst_0 ?_
          refine z_istore_n B [(3, .int (0)), (0, .ref (adr 600)), (1, .int x1), (2, .int x2)] dX7_forecast_34 rfl (Nat.le_of_ble_eq_true rfl) rfl ?_
          exact z_loc [1, 2, 3, 0] _ rfl (tT_X7_forecast_35 B N s30 x1 x2 (0) hf)
        · exact tT_X7_forecast_20 B N σ x1 x2 hf
theorem dX7_tune_0 : decode cX7_tune 0 = .ok (.iload_n 1, 1) := by decide +kernel
theorem dX7_tune_1 : decode cX7_tune 1 = .ok (.ifCond .lt 8, 3) := by decide +kernel
theorem dX7_tune_4 : decode cX7_tune 4 = .ok (.iload_n 1, 1) := by decide +kernel
theorem dX7_tune_5 : decode cX7_tune 5 = .ok (.iconst 2, 1) := by decide +kernel
theorem dX7_tune_6 : decode cX7_tune 6 = .ok (.if_icmp .le 5, 3) := by decide +kernel
theorem dX7_tune_9 : decode cX7_tune 9 = .ok (.iconst (-1), 1) := by decide +kernel
theorem dX7_tune_10 : decode cX7_tune 10 = .ok (.ireturn, 1) := by decide +kernel
theorem dX7_tune_11 : decode cX7_tune 11 = .ok (.iconst (-1), 1) := by decide +kernel
theorem dX7_tune_12 : decode cX7_tune 12 = .ok (.istore_n 2, 1) := by decide +kernel
theorem dX7_tune_13 : decode cX7_tune 13 = .ok (.iconst (-1), 1) := by decide +kernel
theorem dX7_tune_14 : decode cX7_tune 14 = .ok (.istore_n 3, 1) := by decide +kernel
theorem dX7_tune_15 : decode cX7_tune 15 = .ok (.ldc 239, 2) := by decide +kernel
theorem dX7_tune_17 : decode cX7_tune 17 = .ok (.istore 4, 2) := by decide +kernel
theorem dX7_tune_19 : decode cX7_tune 19 = .ok (.getstatic 240, 3) := by decide +kernel
theorem dX7_tune_22 : decode cX7_tune 22 = .ok (.iconst 1, 1) := by decide +kernel
theorem dX7_tune_23 : decode cX7_tune 23 = .ok (.iaload, 1) := by decide +kernel
theorem dX7_tune_24 : decode cX7_tune 24 = .ok (.istore 5, 2) := by decide +kernel
theorem dX7_tune_26 : decode cX7_tune 26 = .ok (.iload 5, 2) := by decide +kernel
theorem dX7_tune_28 : decode cX7_tune 28 = .ok (.getstatic 243, 3) := by decide +kernel
theorem dX7_tune_31 : decode cX7_tune 31 = .ok (.iconst 1, 1) := by decide +kernel
theorem dX7_tune_32 : decode cX7_tune 32 = .ok (.iaload, 1) := by decide +kernel
theorem dX7_tune_33 : decode cX7_tune 33 = .ok (.if_icmp .gt 73, 3) := by decide +kernel
theorem dX7_tune_36 : decode cX7_tune 36 = .ok (.getstatic 240, 3) := by decide +kernel
theorem dX7_tune_39 : decode cX7_tune 39 = .ok (.iconst 2, 1) := by decide +kernel
theorem dX7_tune_40 : decode cX7_tune 40 = .ok (.iaload, 1) := by decide +kernel
theorem dX7_tune_41 : decode cX7_tune 41 = .ok (.istore 6, 2) := by decide +kernel
theorem dX7_tune_43 : decode cX7_tune 43 = .ok (.iload 6, 2) := by decide +kernel
theorem dX7_tune_45 : decode cX7_tune 45 = .ok (.getstatic 243, 3) := by decide +kernel
theorem dX7_tune_48 : decode cX7_tune 48 = .ok (.iconst 2, 1) := by decide +kernel
theorem dX7_tune_49 : decode cX7_tune 49 = .ok (.iaload, 1) := by decide +kernel
theorem dX7_tune_50 : decode cX7_tune 50 = .ok (.if_icmp .gt 50, 3) := by decide +kernel
theorem dX7_tune_53 : decode cX7_tune 53 = .ok (.aload_n 0, 1) := by decide +kernel
theorem dX7_tune_54 : decode cX7_tune 54 = .ok (.iconst 1, 1) := by decide +kernel
theorem dX7_tune_55 : decode cX7_tune 55 = .ok (.iload 5, 2) := by decide +kernel
theorem dX7_tune_57 : decode cX7_tune 57 = .ok (.iconst 2, 1) := by decide +kernel
theorem dX7_tune_58 : decode cX7_tune 58 = .ok (.iload 6, 2) := by decide +kernel
theorem dX7_tune_60 : decode cX7_tune 60 = .ok (.invokevirtual 176, 3) := by decide +kernel
theorem dX7_tune_63 : decode cX7_tune 63 = .ok (.aload_n 0, 1) := by decide +kernel
theorem dX7_tune_64 : decode cX7_tune 64 = .ok (.getfield 30, 3) := by decide +kernel
theorem dX7_tune_67 : decode cX7_tune 67 = .ok (.getfield 79, 3) := by decide +kernel
theorem dX7_tune_70 : decode cX7_tune 70 = .ok (.iconst 2, 1) := by decide +kernel
theorem dX7_tune_71 : decode cX7_tune 71 = .ok (.iaload, 1) := by decide +kernel
theorem dX7_tune_72 : decode cX7_tune 72 = .ok (.iload 4, 2) := by decide +kernel
theorem dX7_tune_74 : decode cX7_tune 74 = .ok (.if_icmp .ge 20, 3) := by decide +kernel
theorem dX7_tune_77 : decode cX7_tune 77 = .ok (.aload_n 0, 1) := by decide +kernel
theorem dX7_tune_78 : decode cX7_tune 78 = .ok (.getfield 30, 3) := by decide +kernel
theorem dX7_tune_81 : decode cX7_tune 81 = .ok (.getfield 79, 3) := by decide +kernel
theorem dX7_tune_84 : decode cX7_tune 84 = .ok (.iconst 2, 1) := by decide +kernel
theorem dX7_tune_85 : decode cX7_tune 85 = .ok (.iaload, 1) := by decide +kernel
theorem dX7_tune_86 : decode cX7_tune 86 = .ok (.istore 4, 2) := by decide +kernel
theorem dX7_tune_88 : decode cX7_tune 88 = .ok (.iload 5, 2) := by decide +kernel
theorem dX7_tune_90 : decode cX7_tune 90 = .ok (.istore_n 2, 1) := by decide +kernel
theorem dX7_tune_91 : decode cX7_tune 91 = .ok (.iload 6, 2) := by decide +kernel
theorem dX7_tune_93 : decode cX7_tune 93 = .ok (.istore_n 3, 1) := by decide +kernel
theorem dX7_tune_94 : decode cX7_tune 94 = .ok (.iinc 6 1, 3) := by decide +kernel
theorem dX7_tune_97 : decode cX7_tune 97 = .ok (.goto (-54), 3) := by decide +kernel
theorem dX7_tune_100 : decode cX7_tune 100 = .ok (.iinc 5 1, 3) := by decide +kernel
theorem dX7_tune_103 : decode cX7_tune 103 = .ok (.goto (-77), 3) := by decide +kernel
theorem dX7_tune_106 : decode cX7_tune 106 = .ok (.iload_n 1, 1) := by decide +kernel
theorem dX7_tune_107 : decode cX7_tune 107 = .ok (.ifCond .ne 7, 3) := by decide +kernel
theorem dX7_tune_110 : decode cX7_tune 110 = .ok (.iload_n 2, 1) := by decide +kernel
theorem dX7_tune_111 : decode cX7_tune 111 = .ok (.goto 14, 3) := by decide +kernel
theorem dX7_tune_114 : decode cX7_tune 114 = .ok (.iload_n 1, 1) := by decide +kernel
theorem dX7_tune_115 : decode cX7_tune 115 = .ok (.iconst 1, 1) := by decide +kernel
theorem dX7_tune_116 : decode cX7_tune 116 = .ok (.if_icmp .ne 7, 3) := by decide +kernel
theorem dX7_tune_119 : decode cX7_tune 119 = .ok (.iload_n 3, 1) := by decide +kernel
theorem dX7_tune_120 : decode cX7_tune 120 = .ok (.goto 5, 3) := by decide +kernel
theorem dX7_tune_123 : decode cX7_tune 123 = .ok (.iload 4, 2) := by decide +kernel
theorem dX7_tune_125 : decode cX7_tune 125 = .ok (.ireturn, 1) := by decide +kernel
def mT_X7_tune_125 (N : Nat) (σ : ST) (x1 : Int32) (x2 : Int32) (x3 : Int32) (x4 : Int32) (x5 : Int32) (k0 : Int32) : Option (Int32 × ST) :=
  some (k0, σ)
set_option maxRecDepth 20000 in
set_option maxHeartbeats 2000000 in
theorem tT_X7_tune_125 {adr : Nat → Nat} {cI cZ cS cD cE : ClassId} {tL tH : Nat} {X : zX} {q : Int32 × ST} (B : zC X 7 (wdT adr cI cZ cS cD cE tL tH) cX7_tune RX7 (some .int) { frames := 7, cells := 0, slots := 0, locals := 171 }) (N : Nat) (σ : ST) (x1 : Int32) (x2 : Int32) (x3 : Int32) (x4 : Int32) (x5 : Int32) (k0 : Int32) (hf : mT_X7_tune_125 N σ x1 x2 x3 x4 x5 k0 = some q) : zJ X 7 (wdT adr cI cZ cS cD cE tL tH) (zi q) 125 [(0, .ref (adr 600)), (1, .int x1), (2, .int x2), (3, .int x3), (4, .int x4), (5, .int x5)] [.int k0] σ := by
  exact z_ireturn B dX7_tune_125 hf
def mT_X7_tune_94 (N : Nat) (hd26 : ST → Int32 → Int32 → Int32 → Int32 → Int32 → Option (Int32 × ST)) (hd43 : ST → Int32 → Int32 → Int32 → Int32 → Int32 → Int32 → Option (Int32 × ST)) (σ : ST) (x1 : Int32) (x2 : Int32) (x3 : Int32) (x4 : Int32) (x5 : Int32) (x6 : Int32) : Option (Int32 × ST) :=
  zLet (x6 + (1)) fun v94 =>
  hd43 σ x1 x2 x3 x4 x5 v94
set_option maxRecDepth 20000 in
set_option maxHeartbeats 2000000 in
theorem tT_X7_tune_94 {adr : Nat → Nat} {cI cZ cS cD cE : ClassId} {tL tH : Nat} {X : zX} {q : Int32 × ST} (B : zC X 7 (wdT adr cI cZ cS cD cE tL tH) cX7_tune RX7 (some .int) { frames := 7, cells := 0, slots := 0, locals := 171 }) (N : Nat) (hd26 : ST → Int32 → Int32 → Int32 → Int32 → Int32 → Option (Int32 × ST)) (hh26 : ∀ (σ : ST) (x1 : Int32) (x2 : Int32) (x3 : Int32) (x4 : Int32) (x5 : Int32), hd26 σ x1 x2 x3 x4 x5 = some q → zJ X 7 (wdT adr cI cZ cS cD cE tL tH) (zi q) 26 [(0, .ref (adr 600)), (1, .int x1), (2, .int x2), (3, .int x3), (4, .int x4), (5, .int x5)] [] σ) (hd43 : ST → Int32 → Int32 → Int32 → Int32 → Int32 → Int32 → Option (Int32 × ST)) (hh43 : ∀ (σ : ST) (x1 : Int32) (x2 : Int32) (x3 : Int32) (x4 : Int32) (x5 : Int32) (x6 : Int32), hd43 σ x1 x2 x3 x4 x5 x6 = some q → zJ X 7 (wdT adr cI cZ cS cD cE tL tH) (zi q) 43 [(0, .ref (adr 600)), (1, .int x1), (2, .int x2), (3, .int x3), (4, .int x4), (5, .int x5), (6, .int x6)] [] σ) (σ : ST) (x1 : Int32) (x2 : Int32) (x3 : Int32) (x4 : Int32) (x5 : Int32) (x6 : Int32) (hf : mT_X7_tune_94 N hd26 hd43 σ x1 x2 x3 x4 x5 x6 = some q) : zJ X 7 (wdT adr cI cZ cS cD cE tL tH) (zi q) 94 [(0, .ref (adr 600)), (1, .int x1), (2, .int x2), (3, .int x3), (4, .int x4), (5, .int x5), (6, .int x6)] [] σ := by
  refine z_iinc B (1) 6 (fun v94 => [(6, .int v94), (0, .ref (adr 600)), (1, .int x1), (2, .int x2), (3, .int x3), (4, .int x4), (5, .int x5)]) dX7_tune_94 hf zc_iconst_1 rfl (Nat.le_of_ble_eq_true rfl) (fun _ => rfl) (fun v94 hf => ?_)
  refine z_goto B 43 dX7_tune_97 (by decide) ?_
  exact z_loc [1, 2, 3, 4, 5, 6, 0] _ rfl (hh43 σ x1 x2 x3 x4 x5 v94 hf)
def mT_X7_tune_B43 (N : Nat) (hd26 : ST → Int32 → Int32 → Int32 → Int32 → Int32 → Option (Int32 × ST)) (hd43 : ST → Int32 → Int32 → Int32 → Int32 → Int32 → Int32 → Option (Int32 × ST)) (σ : ST) (x1 : Int32) (x2 : Int32) (x3 : Int32) (x4 : Int32) (x5 : Int32) (x6 : Int32) : Option (Int32 × ST) :=
  zGet highF 10 (2) fun v49 =>
  if (v49 : Int32) < x6 then
    zLet (x5 + (1)) fun v100 =>
    hd26 σ x1 x2 x3 x4 v100
  else
    zCallu (mT_X7_replayWith N σ (1) x5 (2) x6) fun s60 =>
    zGet (s60 102) 34 (2) fun v71 =>
    if (x4 : Int32) ≤ v71 then
      mT_X7_tune_94 N hd26 hd43 s60 x1 x2 x3 x4 x5 x6
    else
      zGet (s60 102) 34 (2) fun v85 =>
      mT_X7_tune_94 N hd26 hd43 s60 x1 x5 x6 v85 x5 x6
def mT_X7_tune_43 (N : Nat) (hd26 : ST → Int32 → Int32 → Int32 → Int32 → Int32 → Option (Int32 × ST)) : ST → Int32 → Int32 → Int32 → Int32 → Int32 → Int32 → Option (Int32 × ST) := zIt (mT_X7_tune_B43 N hd26) (fun _ _ _ _ _ _ _ => none) N
set_option maxRecDepth 20000 in
set_option maxHeartbeats 2000000 in
theorem tT_X7_tune_43 {adr : Nat → Nat} {cI cZ cS cD cE : ClassId} {tL tH : Nat} {X : zX} {q : Int32 × ST} (B : zC X 7 (wdT adr cI cZ cS cD cE tL tH) cX7_tune RX7 (some .int) { frames := 7, cells := 0, slots := 0, locals := 171 }) (N : Nat) (hd26 : ST → Int32 → Int32 → Int32 → Int32 → Int32 → Option (Int32 × ST)) (hh26 : ∀ (σ : ST) (x1 : Int32) (x2 : Int32) (x3 : Int32) (x4 : Int32) (x5 : Int32), hd26 σ x1 x2 x3 x4 x5 = some q → zJ X 7 (wdT adr cI cZ cS cD cE tL tH) (zi q) 26 [(0, .ref (adr 600)), (1, .int x1), (2, .int x2), (3, .int x3), (4, .int x4), (5, .int x5)] [] σ) : ∀ (σ : ST) (x1 : Int32) (x2 : Int32) (x3 : Int32) (x4 : Int32) (x5 : Int32) (x6 : Int32), mT_X7_tune_43 N hd26 σ x1 x2 x3 x4 x5 x6 = some q → zJ X 7 (wdT adr cI cZ cS cD cE tL tH) (zi q) 43 [(0, .ref (adr 600)), (1, .int x1), (2, .int x2), (3, .int x3), (4, .int x4), (5, .int x5), (6, .int x6)] [] σ := by
  refine zIt_ind (P := fun (hd : ST → Int32 → Int32 → Int32 → Int32 → Int32 → Int32 → Option (Int32 × ST)) => ∀ (σ : ST) (x1 : Int32) (x2 : Int32) (x3 : Int32) (x4 : Int32) (x5 : Int32) (x6 : Int32), hd σ x1 x2 x3 x4 x5 x6 = some q → zJ X 7 (wdT adr cI cZ cS cD cE tL tH) (zi q) 43 [(0, .ref (adr 600)), (1, .int x1), (2, .int x2), (3, .int x3), (4, .int x4), (5, .int x5), (6, .int x6)] [] σ) (fun _ _ _ _ _ _ _ hf => by cases hf) (fun hd43 hh43 => ?_) N
  intro σ x1 x2 x3 x4 x5 x6 hf
  refine z_iload B dX7_tune_43 6 rfl ?_
  refine z_gets B (sfT_ZH B) kw_345 dX7_tune_45 ?_
  refine z_iconst B (2) dX7_tune_48 zc_iconst_2 ?_
  refine z_sald B (sfT_TH B) dX7_tune_49 hf (fun v49 hf => ?_)
  refine z_icmp_gt B 100 dX7_tune_50 (by decide) hf (fun hf => ?_) (fun hf => ?_)
  · refine z_iinc B (1) 5 (fun v100 => [(5, .int v100), (0, .ref (adr 600)), (1, .int x1), (2, .int x2), (3, .int x3), (4, .int x4), (6, .int x6)]) dX7_tune_100 hf zc_iconst_1 rfl (Nat.le_of_ble_eq_true rfl) (fun _ => rfl) (fun v100 hf => ?_)
    refine z_goto B 26 dX7_tune_103 (by decide) ?_
    exact z_loc [1, 2, 3, 4, 5, 0] _ rfl (hh26 σ x1 x2 x3 x4 v100 hf)
  · refine z_aload_n B dX7_tune_53 0 rfl rfl ?_
    refine z_iconst B (1) dX7_tune_54 zc_iconst_1 ?_
    refine z_iload B dX7_tune_55 5 rfl ?_
    refine z_iconst B (2) dX7_tune_57 zc_iconst_2 ?_
    refine z_iload B dX7_tune_58 6 rfl ?_
    refine z_callVu B (As := [.int (1), .int x5, .int (2), .int x6]) kcV_X7_176 dX7_tune_60 hf (fun q hq => cT_X7_replayWith q hq) (wT_o_P (adr := adr) (cI := cI) (cZ := cZ) (cS := cS) (cD := cD) (cE := cE) (tL := tL) (tH := tH)) rfl rfl rfl rfl (Nat.le_of_ble_eq_true rfl) rfl rfl ⟨Nat.le_of_ble_eq_true rfl, Nat.le_of_ble_eq_true rfl⟩ (fun s60 hf => ?_)
    refine z_aload_n B dX7_tune_63 0 rfl rfl ?_
    refine fT_g_P_paper B dX7_tune_64 ?_
    refine fT_g_E1_counts B dX7_tune_67 ?_
    refine z_iconst B (2) dX7_tune_70 zc_iconst_2 ?_
    refine fT_l_E1_counts B dX7_tune_71 hf (fun v71 hf => ?_)
    refine z_iload B dX7_tune_72 4 rfl ?_
    refine z_icmp_ge B 94 dX7_tune_74 (by decide) hf (fun hf => ?_) (fun hf => ?_)
    · exact tT_X7_tune_94 B N hd26 hh26 hd43 hh43 s60 x1 x2 x3 x4 x5 x6 hf
    · refine z_aload_n B dX7_tune_77 0 rfl rfl ?_
      refine fT_g_P_paper B dX7_tune_78 ?_
      refine fT_g_E1_counts B dX7_tune_81 ?_
      refine z_iconst B (2) dX7_tune_84 zc_iconst_2 ?_
      refine fT_l_E1_counts B dX7_tune_85 hf (fun v85 hf => ?_)
      refine z_istore B [(4, .int v85), (0, .ref (adr 600)), (1, .int x1), (2, .int x2), (3, .int x3), (5, .int x5), (6, .int x6)] dX7_tune_86 (Nat.le_of_ble_eq_true rfl) rfl ?_
      refine z_iload B dX7_tune_88 5 rfl ?_
      refine z_istore_n B [(2, .int x5), (4, .int v85), (0, .ref (adr 600)), (1, .int x1), (3, .int x3), (5, .int x5), (6, .int x6)] dX7_tune_90 rfl (Nat.le_of_ble_eq_true rfl) rfl ?_
      refine z_iload B dX7_tune_91 6 rfl ?_
      refine z_istore_n B [(3, .int x6), (2, .int x5), (4, .int v85), (0, .ref (adr 600)), (1, .int x1), (5, .int x5), (6, .int x6)] dX7_tune_93 rfl (Nat.le_of_ble_eq_true rfl) rfl ?_
      exact z_loc [3, 4, 1, 0, 2, 5, 6] _ rfl (tT_X7_tune_94 B N hd26 hh26 hd43 hh43 s60 x1 x5 x6 v85 x5 x6 hf)
def mT_X7_tune_B26 (N : Nat) (hd26 : ST → Int32 → Int32 → Int32 → Int32 → Int32 → Option (Int32 × ST)) (σ : ST) (x1 : Int32) (x2 : Int32) (x3 : Int32) (x4 : Int32) (x5 : Int32) : Option (Int32 × ST) :=
  zGet highF 10 (1) fun v32 =>
  if (v32 : Int32) < x5 then
    if (x1 : Int32) = 0 then
      mT_X7_tune_125 N σ x1 x2 x3 x4 x5 x2
    else
      if (x1 : Int32) = (1) then
        mT_X7_tune_125 N σ x1 x2 x3 x4 x5 x3
      else
        mT_X7_tune_125 N σ x1 x2 x3 x4 x5 x4
  else
    zGet lowF 10 (2) fun v40 =>
    mT_X7_tune_43 N hd26 σ x1 x2 x3 x4 x5 v40
def mT_X7_tune_26 (N : Nat) : ST → Int32 → Int32 → Int32 → Int32 → Int32 → Option (Int32 × ST) := zIt (mT_X7_tune_B26 N) (fun _ _ _ _ _ _ => none) N
set_option maxRecDepth 20000 in
set_option maxHeartbeats 2000000 in
theorem tT_X7_tune_26 {adr : Nat → Nat} {cI cZ cS cD cE : ClassId} {tL tH : Nat} {X : zX} {q : Int32 × ST} (B : zC X 7 (wdT adr cI cZ cS cD cE tL tH) cX7_tune RX7 (some .int) { frames := 7, cells := 0, slots := 0, locals := 171 }) (N : Nat) : ∀ (σ : ST) (x1 : Int32) (x2 : Int32) (x3 : Int32) (x4 : Int32) (x5 : Int32), mT_X7_tune_26 N σ x1 x2 x3 x4 x5 = some q → zJ X 7 (wdT adr cI cZ cS cD cE tL tH) (zi q) 26 [(0, .ref (adr 600)), (1, .int x1), (2, .int x2), (3, .int x3), (4, .int x4), (5, .int x5)] [] σ := by
  refine zIt_ind (P := fun (hd : ST → Int32 → Int32 → Int32 → Int32 → Int32 → Option (Int32 × ST)) => ∀ (σ : ST) (x1 : Int32) (x2 : Int32) (x3 : Int32) (x4 : Int32) (x5 : Int32), hd σ x1 x2 x3 x4 x5 = some q → zJ X 7 (wdT adr cI cZ cS cD cE tL tH) (zi q) 26 [(0, .ref (adr 600)), (1, .int x1), (2, .int x2), (3, .int x3), (4, .int x4), (5, .int x5)] [] σ) (fun _ _ _ _ _ _ hf => by cases hf) (fun hd26 hh26 => ?_) N
  intro σ x1 x2 x3 x4 x5 hf
  refine z_iload B dX7_tune_26 5 rfl ?_
  refine z_gets B (sfT_ZH B) kw_345 dX7_tune_28 ?_
  refine z_iconst B (1) dX7_tune_31 zc_iconst_1 ?_
  refine z_sald B (sfT_TH B) dX7_tune_32 hf (fun v32 hf => ?_)
  refine z_icmp_gt B 106 dX7_tune_33 (by decide) hf (fun hf => ?_) (fun hf => ?_)
  · refine z_iload_n B dX7_tune_106 1 rfl rfl ?_
    refine z_if_ne B 114 dX7_tune_107 (by decide) hf (fun hf => ?_) (fun hf => ?_)
    · refine z_iload_n B dX7_tune_114 1 rfl rfl ?_
      refine z_iconst B (1) dX7_tune_115 zc_iconst_1 ?_
      refine z_icmp_ne B 123 dX7_tune_116 (by decide) hf (fun hf => ?_) (fun hf => ?_)
      · refine z_iload B dX7_tune_123 4 rfl ?_
        exact tT_X7_tune_125 B N σ x1 x2 x3 x4 x5 x4 hf
      · refine z_iload_n B dX7_tune_119 3 rfl rfl ?_
        refine z_goto B 125 dX7_tune_120 (by decide) ?_
        exact tT_X7_tune_125 B N σ x1 x2 x3 x4 x5 x3 hf
    · refine z_iload_n B dX7_tune_110 2 rfl rfl ?_
      refine z_goto B 125 dX7_tune_111 (by decide) ?_
      exact tT_X7_tune_125 B N σ x1 x2 x3 x4 x5 x2 hf
  · refine z_gets B (sfT_ZL B) kw_343 dX7_tune_36 ?_
    refine z_iconst B (2) dX7_tune_39 zc_iconst_2 ?_
    refine z_sald B (sfT_TL B) dX7_tune_40 hf (fun v40 hf => ?_)
    refine z_istore B [(6, .int v40), (0, .ref (adr 600)), (1, .int x1), (2, .int x2), (3, .int x3), (4, .int x4), (5, .int x5)] dX7_tune_41 (Nat.le_of_ble_eq_true rfl) rfl ?_
    exact z_loc [1, 2, 3, 4, 5, 6, 0] _ rfl (tT_X7_tune_43 B N hd26 hh26 σ x1 x2 x3 x4 x5 v40 hf)
def mT_X7_tune_9 (N : Nat) (σ : ST) (x1 : Int32) : Option (Int32 × ST) :=
  some ((-1), σ)
set_option maxRecDepth 20000 in
set_option maxHeartbeats 2000000 in
theorem tT_X7_tune_9 {adr : Nat → Nat} {cI cZ cS cD cE : ClassId} {tL tH : Nat} {X : zX} {q : Int32 × ST} (B : zC X 7 (wdT adr cI cZ cS cD cE tL tH) cX7_tune RX7 (some .int) { frames := 7, cells := 0, slots := 0, locals := 171 }) (N : Nat) (σ : ST) (x1 : Int32) (hf : mT_X7_tune_9 N σ x1 = some q) : zJ X 7 (wdT adr cI cZ cS cD cE tL tH) (zi q) 9 [(0, .ref (adr 600)), (1, .int x1)] [] σ := by
  refine z_iconst B (-1) dX7_tune_9 zc_iconst_m1 ?_
  exact z_ireturn B dX7_tune_10 hf
def mT_X7_tune (N : Nat) (σ : ST) (x1 : Int32) : Option (Int32 × ST) :=
  if (x1 : Int32) < 0 then
    mT_X7_tune_9 N σ x1
  else
    if (x1 : Int32) ≤ (2) then
      zGet lowF 10 (1) fun v23 =>
      mT_X7_tune_26 N σ x1 (-1) (-1) (2147483647) v23
    else
      mT_X7_tune_9 N σ x1
set_option maxRecDepth 20000 in
set_option maxHeartbeats 2000000 in
theorem cT_X7_tune {adr : Nat → Nat} {cI cZ cS cD cE : ClassId} {tL tH : Nat} {l : Launch} {D : va_G} {N : Nat} {σ : ST} {x1 : Int32} (q : Int32 × ST) (hf : mT_X7_tune N σ x1 = some q) : zM l D (wdT adr cI cZ cS cD cE tL tH) yX7_tune cX7_tune 7 (some .int) ({ frames := 7, cells := 0, slots := 0, locals := 171 }) [.ref (adr 600), .int x1] σ (zi q) := by
  refine zM_of sfE_ok rfl (Nat.le_of_ble_eq_true rfl) [(0, .ref (adr 600)), (1, .int x1)] rfl (fun X hX1 hX2 B => ?_)
  have B : zC X 7 (wdT adr cI cZ cS cD cE tL tH) cX7_tune RX7 (some .int) { frames := 7, cells := 0, slots := 0, locals := 171 } := B
  refine z_iload_n B dX7_tune_0 1 rfl rfl ?_
  refine z_if_lt B 9 dX7_tune_1 (by decide) hf (fun hf => ?_) (fun hf => ?_)
  · exact tT_X7_tune_9 B N σ x1 hf
  · refine z_iload_n B dX7_tune_4 1 rfl rfl ?_
    refine z_iconst B (2) dX7_tune_5 zc_iconst_2 ?_
    refine z_icmp_le B 11 dX7_tune_6 (by decide) hf (fun hf => ?_) (fun hf => ?_)
    · refine z_iconst B (-1) dX7_tune_11 zc_iconst_m1 ?_
      refine z_istore_n B [(2, .int (-1)), (0, .ref (adr 600)), (1, .int x1)] dX7_tune_12 rfl (Nat.le_of_ble_eq_true rfl) rfl ?_
      refine z_iconst B (-1) dX7_tune_13 zc_iconst_m1 ?_
      refine z_istore_n B [(3, .int (-1)), (2, .int (-1)), (0, .ref (adr 600)), (1, .int x1)] dX7_tune_14 rfl (Nat.le_of_ble_eq_true rfl) rfl ?_
      refine z_ldc B kw_822 dX7_tune_15 ?_
      refine z_istore B [(4, .int (2147483647)), (3, .int (-1)), (2, .int (-1)), (0, .ref (adr 600)), (1, .int x1)] dX7_tune_17 (Nat.le_of_ble_eq_true rfl) rfl ?_
      refine z_gets B (sfT_ZL B) kw_343 dX7_tune_19 ?_
      refine z_iconst B (1) dX7_tune_22 zc_iconst_1 ?_
      refine z_sald B (sfT_TL B) dX7_tune_23 hf (fun v23 hf => ?_)
      refine z_istore B [(5, .int v23), (4, .int (2147483647)), (3, .int (-1)), (2, .int (-1)), (0, .ref (adr 600)), (1, .int x1)] dX7_tune_24 (Nat.le_of_ble_eq_true rfl) rfl ?_
      exact z_loc [4, 5, 3, 2, 1, 0] _ rfl (tT_X7_tune_26 B N σ x1 (-1) (-1) (2147483647) v23 hf)
    · exact tT_X7_tune_9 B N σ x1 hf
