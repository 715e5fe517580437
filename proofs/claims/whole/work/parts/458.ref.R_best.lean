theorem dX8_best_0 : decode cX8_best 0 = .ok (.aload_n 0, 1) := by decide +kernel
theorem dX8_best_1 : decode cX8_best 1 = .ok (.iconst 0, 1) := by decide +kernel
theorem dX8_best_2 : decode cX8_best 2 = .ok (.putfield 67, 3) := by decide +kernel
theorem dX8_best_5 : decode cX8_best 5 = .ok (.iload_n 1, 1) := by decide +kernel
theorem dX8_best_6 : decode cX8_best 6 = .ok (.i2l, 1) := by decide +kernel
theorem dX8_best_7 : decode cX8_best 7 = .ok (.lconst 0, 1) := by decide +kernel
theorem dX8_best_8 : decode cX8_best 8 = .ok (.ldc2_w 79, 3) := by decide +kernel
theorem dX8_best_11 : decode cX8_best 11 = .ok (.invokestatic 71, 3) := by decide +kernel
theorem dX8_best_14 : decode cX8_best 14 = .ok (.ifCond .eq 19, 3) := by decide +kernel
theorem dX8_best_17 : decode cX8_best 17 = .ok (.iload_n 1, 1) := by decide +kernel
theorem dX8_best_18 : decode cX8_best 18 = .ok (.bipush 7, 2) := by decide +kernel
theorem dX8_best_20 : decode cX8_best 20 = .ok (.if_icmp .eq 13, 3) := by decide +kernel
theorem dX8_best_23 : decode cX8_best 23 = .ok (.iload_n 2, 1) := by decide +kernel
theorem dX8_best_24 : decode cX8_best 24 = .ok (.i2l, 1) := by decide +kernel
theorem dX8_best_25 : decode cX8_best 25 = .ok (.lconst 0, 1) := by decide +kernel
theorem dX8_best_26 : decode cX8_best 26 = .ok (.lconst 1, 1) := by decide +kernel
theorem dX8_best_27 : decode cX8_best 27 = .ok (.invokestatic 71, 3) := by decide +kernel
theorem dX8_best_30 : decode cX8_best 30 = .ok (.ifCond .ne 5, 3) := by decide +kernel
theorem dX8_best_33 : decode cX8_best 33 = .ok (.iconst (-1), 1) := by decide +kernel
theorem dX8_best_34 : decode cX8_best 34 = .ok (.ireturn, 1) := by decide +kernel
theorem dX8_best_35 : decode cX8_best 35 = .ok (.aload_n 0, 1) := by decide +kernel
theorem dX8_best_36 : decode cX8_best 36 = .ok (.invokevirtual 261, 3) := by decide +kernel
theorem dX8_best_39 : decode cX8_best 39 = .ok (.aload_n 0, 1) := by decide +kernel
theorem dX8_best_40 : decode cX8_best 40 = .ok (.invokevirtual 276, 3) := by decide +kernel
theorem dX8_best_43 : decode cX8_best 43 = .ok (.iconst (-1), 1) := by decide +kernel
theorem dX8_best_44 : decode cX8_best 44 = .ok (.istore_n 3, 1) := by decide +kernel
theorem dX8_best_45 : decode cX8_best 45 = .ok (.iconst 0, 1) := by decide +kernel
theorem dX8_best_46 : decode cX8_best 46 = .ok (.istore 4, 2) := by decide +kernel
theorem dX8_best_48 : decode cX8_best 48 = .ok (.aload_n 0, 1) := by decide +kernel
theorem dX8_best_49 : decode cX8_best 49 = .ok (.getfield 37, 3) := by decide +kernel
theorem dX8_best_52 : decode cX8_best 52 = .ok (.iload_n 1, 1) := by decide +kernel
theorem dX8_best_53 : decode cX8_best 53 = .ok (.iaload, 1) := by decide +kernel
theorem dX8_best_54 : decode cX8_best 54 = .ok (.istore 5, 2) := by decide +kernel
theorem dX8_best_56 : decode cX8_best 56 = .ok (.iload 5, 2) := by decide +kernel
theorem dX8_best_58 : decode cX8_best 58 = .ok (.aload_n 0, 1) := by decide +kernel
theorem dX8_best_59 : decode cX8_best 59 = .ok (.getfield 40, 3) := by decide +kernel
theorem dX8_best_62 : decode cX8_best 62 = .ok (.iload_n 1, 1) := by decide +kernel
theorem dX8_best_63 : decode cX8_best 63 = .ok (.iaload, 1) := by decide +kernel
theorem dX8_best_64 : decode cX8_best 64 = .ok (.if_icmp .gt 50, 3) := by decide +kernel
theorem dX8_best_67 : decode cX8_best 67 = .ok (.aload_n 0, 1) := by decide +kernel
theorem dX8_best_68 : decode cX8_best 68 = .ok (.getfield 9, 3) := by decide +kernel
theorem dX8_best_71 : decode cX8_best 71 = .ok (.iload_n 1, 1) := by decide +kernel
theorem dX8_best_72 : decode cX8_best 72 = .ok (.iload 5, 2) := by decide +kernel
theorem dX8_best_74 : decode cX8_best 74 = .ok (.iastore, 1) := by decide +kernel
theorem dX8_best_75 : decode cX8_best 75 = .ok (.aload_n 0, 1) := by decide +kernel
theorem dX8_best_76 : decode cX8_best 76 = .ok (.invokevirtual 279, 3) := by decide +kernel
theorem dX8_best_79 : decode cX8_best 79 = .ok (.iload_n 3, 1) := by decide +kernel
theorem dX8_best_80 : decode cX8_best 80 = .ok (.iconst (-1), 1) := by decide +kernel
theorem dX8_best_81 : decode cX8_best 81 = .ok (.if_icmp .eq 15, 3) := by decide +kernel
theorem dX8_best_84 : decode cX8_best 84 = .ok (.aload_n 0, 1) := by decide +kernel
theorem dX8_best_85 : decode cX8_best 85 = .ok (.getfield 9, 3) := by decide +kernel
theorem dX8_best_88 : decode cX8_best 88 = .ok (.bipush 12, 2) := by decide +kernel
theorem dX8_best_90 : decode cX8_best 90 = .ok (.iaload, 1) := by decide +kernel
theorem dX8_best_91 : decode cX8_best 91 = .ok (.iload 4, 2) := by decide +kernel
theorem dX8_best_93 : decode cX8_best 93 = .ok (.if_icmp .ge 15, 3) := by decide +kernel
theorem dX8_best_96 : decode cX8_best 96 = .ok (.iload 5, 2) := by decide +kernel
theorem dX8_best_98 : decode cX8_best 98 = .ok (.istore_n 3, 1) := by decide +kernel
theorem dX8_best_99 : decode cX8_best 99 = .ok (.aload_n 0, 1) := by decide +kernel
theorem dX8_best_100 : decode cX8_best 100 = .ok (.getfield 9, 3) := by decide +kernel
theorem dX8_best_103 : decode cX8_best 103 = .ok (.bipush 12, 2) := by decide +kernel
theorem dX8_best_105 : decode cX8_best 105 = .ok (.iaload, 1) := by decide +kernel
theorem dX8_best_106 : decode cX8_best 106 = .ok (.istore 4, 2) := by decide +kernel
theorem dX8_best_108 : decode cX8_best 108 = .ok (.iinc 5 1, 3) := by decide +kernel
theorem dX8_best_111 : decode cX8_best 111 = .ok (.goto (-55), 3) := by decide +kernel
theorem dX8_best_114 : decode cX8_best 114 = .ok (.aload_n 0, 1) := by decide +kernel
theorem dX8_best_115 : decode cX8_best 115 = .ok (.invokevirtual 264, 3) := by decide +kernel
theorem dX8_best_118 : decode cX8_best 118 = .ok (.iload_n 2, 1) := by decide +kernel
theorem dX8_best_119 : decode cX8_best 119 = .ok (.ifCond .ne 7, 3) := by decide +kernel
theorem dX8_best_122 : decode cX8_best 122 = .ok (.iload_n 3, 1) := by decide +kernel
theorem dX8_best_123 : decode cX8_best 123 = .ok (.goto 5, 3) := by decide +kernel
theorem dX8_best_126 : decode cX8_best 126 = .ok (.iload 4, 2) := by decide +kernel
theorem dX8_best_128 : decode cX8_best 128 = .ok (.ireturn, 1) := by decide +kernel
def mR_best_128 (N : Nat) (σ : ST) (x1 : Int32) (x2 : Int32) (x3 : Int32) (x4 : Int32) (x5 : Int32) (k0 : Int32) : Option (Int32 × ST) :=
  some (k0, σ)
set_option maxRecDepth 20000 in
set_option maxHeartbeats 2000000 in
theorem tR_best_128 {adr : Nat → Nat} {cI cZ : ClassId} {X : zX} {q : Int32 × ST} (B : zC X 6 (wdR adr cI cZ) cX8_best RX8 (some .int) { frames := 10, cells := 0, slots := 0, locals := 228 }) (N : Nat) (σ : ST) (x1 : Int32) (x2 : Int32) (x3 : Int32) (x4 : Int32) (x5 : Int32) (k0 : Int32) (hf : mR_best_128 N σ x1 x2 x3 x4 x5 k0 = some q) : zJ X 6 (wdR adr cI cZ) (zi q) 128 [(0, .ref (adr 0)), (1, .int x1), (2, .int x2), (3, .int x3), (4, .int x4), (5, .int x5)] [.int k0] σ := by
  exact z_ireturn B dX8_best_128 hf
def mR_best_108 (N : Nat) (hd56 : ST → Int32 → Int32 → Int32 → Int32 → Int32 → Option (Int32 × ST)) (σ : ST) (x1 : Int32) (x2 : Int32) (x3 : Int32) (x4 : Int32) (x5 : Int32) : Option (Int32 × ST) :=
  zLet (x5 + (1)) fun v108 =>
  hd56 σ x1 x2 x3 x4 v108
set_option maxRecDepth 20000 in
set_option maxHeartbeats 2000000 in
theorem tR_best_108 {adr : Nat → Nat} {cI cZ : ClassId} {X : zX} {q : Int32 × ST} (B : zC X 6 (wdR adr cI cZ) cX8_best RX8 (some .int) { frames := 10, cells := 0, slots := 0, locals := 228 }) (N : Nat) (hd56 : ST → Int32 → Int32 → Int32 → Int32 → Int32 → Option (Int32 × ST)) (hh56 : ∀ (σ : ST) (x1 : Int32) (x2 : Int32) (x3 : Int32) (x4 : Int32) (x5 : Int32), hd56 σ x1 x2 x3 x4 x5 = some q → zJ X 6 (wdR adr cI cZ) (zi q) 56 [(0, .ref (adr 0)), (1, .int x1), (2, .int x2), (3, .int x3), (4, .int x4), (5, .int x5)] [] σ) (σ : ST) (x1 : Int32) (x2 : Int32) (x3 : Int32) (x4 : Int32) (x5 : Int32) (hf : mR_best_108 N hd56 σ x1 x2 x3 x4 x5 = some q) : zJ X 6 (wdR adr cI cZ) (zi q) 108 [(0, .ref (adr 0)), (1, .int x1), (2, .int x2), (3, .int x3), (4, .int x4), (5, .int x5)] [] σ := by
  refine z_iinc B (1) 5 (fun v108 => [(5, .int v108), (0, .ref (adr 0)), (1, .int x1), (2, .int x2), (3, .int x3), (4, .int x4)]) dX8_best_108 hf zc_iconst_1 rfl (Nat.le_of_ble_eq_true rfl) (fun _ => rfl) (fun v108 hf => ?_)
  refine z_goto B 56 dX8_best_111 (by decide) ?_
  exact z_loc [1, 2, 3, 4, 5, 0] _ rfl (hh56 σ x1 x2 x3 x4 v108 hf)
def mR_best_96 (N : Nat) (hd56 : ST → Int32 → Int32 → Int32 → Int32 → Int32 → Option (Int32 × ST)) (σ : ST) (x1 : Int32) (x2 : Int32) (x3 : Int32) (x4 : Int32) (x5 : Int32) : Option (Int32 × ST) :=
  zGet (σ 1) 1974 (12) fun v105 =>
  mR_best_108 N hd56 σ x1 x2 x5 v105 x5
set_option maxRecDepth 20000 in
set_option maxHeartbeats 2000000 in
theorem tR_best_96 {adr : Nat → Nat} {cI cZ : ClassId} {X : zX} {q : Int32 × ST} (B : zC X 6 (wdR adr cI cZ) cX8_best RX8 (some .int) { frames := 10, cells := 0, slots := 0, locals := 228 }) (N : Nat) (hd56 : ST → Int32 → Int32 → Int32 → Int32 → Int32 → Option (Int32 × ST)) (hh56 : ∀ (σ : ST) (x1 : Int32) (x2 : Int32) (x3 : Int32) (x4 : Int32) (x5 : Int32), hd56 σ x1 x2 x3 x4 x5 = some q → zJ X 6 (wdR adr cI cZ) (zi q) 56 [(0, .ref (adr 0)), (1, .int x1), (2, .int x2), (3, .int x3), (4, .int x4), (5, .int x5)] [] σ) (σ : ST) (x1 : Int32) (x2 : Int32) (x3 : Int32) (x4 : Int32) (x5 : Int32) (hf : mR_best_96 N hd56 σ x1 x2 x3 x4 x5 = some q) : zJ X 6 (wdR adr cI cZ) (zi q) 96 [(0, .ref (adr 0)), (1, .int x1), (2, .int x2), (3, .int x3), (4, .int x4), (5, .int x5)] [] σ := by
  refine z_iload B dX8_best_96 5 rfl ?_
  refine z_istore_n B [(3, .int x5), (0, .ref (adr 0)), (1, .int x1), (2, .int x2), (4, .int x4), (5, .int x5)] dX8_best_98 rfl (Nat.le_of_ble_eq_true rfl) rfl ?_
  refine z_aload_n B dX8_best_99 1 rfl rfl ?_
  refine fR_g_row B dX8_best_100 ?_
  refine z_bipush B (12) dX8_best_103 zc_bipush_12 ?_
  refine fR_l_row B dX8_best_105 hf (fun v105 hf => ?_)
  refine z_istore B [(4, .int v105), (3, .int x5), (0, .ref (adr 0)), (1, .int x1), (2, .int x2), (5, .int x5)] dX8_best_106 (Nat.le_of_ble_eq_true rfl) rfl ?_
  exact z_loc [2, 3, 4, 1, 0, 5] _ rfl (tR_best_108 B N hd56 hh56 σ x1 x2 x5 v105 x5 hf)
def mR_best_B56 (N : Nat) (hd56 : ST → Int32 → Int32 → Int32 → Int32 → Int32 → Option (Int32 × ST)) (σ : ST) (x1 : Int32) (x2 : Int32) (x3 : Int32) (x4 : Int32) (x5 : Int32) : Option (Int32 × ST) :=
  zGet (σ 10) 10 x1 fun v63 =>
  if (v63 : Int32) < x5 then
    zCallu (mR_endThought N σ) fun s115 =>
    if (x2 : Int32) = 0 then
      mR_best_128 N s115 x1 x2 x3 x4 x5 x3
    else
      mR_best_128 N s115 x1 x2 x3 x4 x5 x4
  else
    zSet σ 1 1974 x1 x5 fun s74 =>
    zCallu (mR_readAnew N s74) fun s76 =>
    if (x3 : Int32) = (-1) then
      mR_best_96 N hd56 s76 x1 x2 x3 x4 x5
    else
      zGet (s76 1) 1974 (12) fun v90 =>
      if (x4 : Int32) ≤ v90 then
        mR_best_108 N hd56 s76 x1 x2 x3 x4 x5
      else
        mR_best_96 N hd56 s76 x1 x2 x3 x4 x5
def mR_best_56 (N : Nat) : ST → Int32 → Int32 → Int32 → Int32 → Int32 → Option (Int32 × ST) := zIt (mR_best_B56 N) (fun _ _ _ _ _ _ => none) N
set_option maxRecDepth 20000 in
set_option maxHeartbeats 2000000 in
theorem tR_best_56 {adr : Nat → Nat} {cI cZ : ClassId} {X : zX} {q : Int32 × ST} (B : zC X 6 (wdR adr cI cZ) cX8_best RX8 (some .int) { frames := 10, cells := 0, slots := 0, locals := 228 }) (N : Nat) : ∀ (σ : ST) (x1 : Int32) (x2 : Int32) (x3 : Int32) (x4 : Int32) (x5 : Int32), mR_best_56 N σ x1 x2 x3 x4 x5 = some q → zJ X 6 (wdR adr cI cZ) (zi q) 56 [(0, .ref (adr 0)), (1, .int x1), (2, .int x2), (3, .int x3), (4, .int x4), (5, .int x5)] [] σ := by
  refine zIt_ind (P := fun (hd : ST → Int32 → Int32 → Int32 → Int32 → Int32 → Option (Int32 × ST)) => ∀ (σ : ST) (x1 : Int32) (x2 : Int32) (x3 : Int32) (x4 : Int32) (x5 : Int32), hd σ x1 x2 x3 x4 x5 = some q → zJ X 6 (wdR adr cI cZ) (zi q) 56 [(0, .ref (adr 0)), (1, .int x1), (2, .int x2), (3, .int x3), (4, .int x4), (5, .int x5)] [] σ) (fun _ _ _ _ _ _ hf => by cases hf) (fun hd56 hh56 => ?_) N
  intro σ x1 x2 x3 x4 x5 hf
  refine z_iload B dX8_best_56 5 rfl ?_
  refine z_aload_n B dX8_best_58 0 rfl rfl ?_
  refine fR_g_mostTerm B dX8_best_59 ?_
  refine z_iload_n B dX8_best_62 1 rfl rfl ?_
  refine fR_l_mostTerm B dX8_best_63 hf (fun v63 hf => ?_)
  refine z_icmp_gt B 114 dX8_best_64 (by decide) hf (fun hf => ?_) (fun hf => ?_)
  · refine z_aload_n B dX8_best_114 0 rfl rfl ?_
    refine z_callVu B (As := []) kcV_X8_264 dX8_best_115 hf (fun q hq => cR_endThought q hq) (wR_o (adr := adr) (cI := cI) (cZ := cZ)) rfl rfl rfl rfl (Nat.le_of_ble_eq_true rfl) rfl rfl ⟨Nat.le_of_ble_eq_true rfl, Nat.le_of_ble_eq_true rfl⟩ (fun s115 hf => ?_)
    refine z_iload_n B dX8_best_118 2 rfl rfl ?_
    refine z_if_ne B 126 dX8_best_119 (by decide) hf (fun hf => ?_) (fun hf => ?_)
    · refine z_iload B dX8_best_126 4 rfl ?_
      exact tR_best_128 B N s115 x1 x2 x3 x4 x5 x4 hf
    · refine z_iload_n B dX8_best_122 3 rfl rfl ?_
      refine z_goto B 128 dX8_best_123 (by decide) ?_
      exact tR_best_128 B N s115 x1 x2 x3 x4 x5 x3 hf
  · refine z_aload_n B dX8_best_67 0 rfl rfl ?_
    refine fR_g_row B dX8_best_68 ?_
    refine z_iload_n B dX8_best_71 1 rfl rfl ?_
    refine z_iload B dX8_best_72 5 rfl ?_
    refine fR_s_row B dX8_best_74 hf (fun s74 hf => ?_)
    refine z_aload_n B dX8_best_75 0 rfl rfl ?_
    refine z_callVu B (As := []) kcV_X8_279 dX8_best_76 hf (fun q hq => cR_readAnew q hq) (wR_o (adr := adr) (cI := cI) (cZ := cZ)) rfl rfl rfl rfl (Nat.le_of_ble_eq_true rfl) rfl rfl ⟨Nat.le_of_ble_eq_true rfl, Nat.le_of_ble_eq_true rfl⟩ (fun s76 hf => ?_)
    refine z_iload_n B dX8_best_79 3 rfl rfl ?_
    refine z_iconst B (-1) dX8_best_80 zc_iconst_m1 ?_
    refine z_icmp_eq B 96 dX8_best_81 (by decide) hf (fun hf => ?_) (fun hf => ?_)
    · exact tR_best_96 B N hd56 hh56 s76 x1 x2 x3 x4 x5 hf
    · refine z_aload_n B dX8_best_84 0 rfl rfl ?_
      refine fR_g_row B dX8_best_85 ?_
      refine z_bipush B (12) dX8_best_88 zc_bipush_12 ?_
      refine fR_l_row B dX8_best_90 hf (fun v90 hf => ?_)
      refine z_iload B dX8_best_91 4 rfl ?_
      refine z_icmp_ge B 108 dX8_best_93 (by decide) hf (fun hf => ?_) (fun hf => ?_)
      · exact tR_best_108 B N hd56 hh56 s76 x1 x2 x3 x4 x5 hf
      · exact tR_best_96 B N hd56 hh56 s76 x1 x2 x3 x4 x5 hf
def mR_best_33 (N : Nat) (σ : ST) (x1 : Int32) (x2 : Int32) : Option (Int32 × ST) :=
  some ((-1), σ)
set_option maxRecDepth 20000 in
set_option maxHeartbeats 2000000 in
theorem tR_best_33 {adr : Nat → Nat} {cI cZ : ClassId} {X : zX} {q : Int32 × ST} (B : zC X 6 (wdR adr cI cZ) cX8_best RX8 (some .int) { frames := 10, cells := 0, slots := 0, locals := 228 }) (N : Nat) (σ : ST) (x1 : Int32) (x2 : Int32) (hf : mR_best_33 N σ x1 x2 = some q) : zJ X 6 (wdR adr cI cZ) (zi q) 33 [(0, .ref (adr 0)), (1, .int x1), (2, .int x2)] [] σ := by
  refine z_iconst B (-1) dX8_best_33 zc_iconst_m1 ?_
  exact z_ireturn B dX8_best_34 hf
def mR_best (N : Nat) (σ : ST) (x1 : Int32) (x2 : Int32) : Option (Int32 × ST) :=
  zLet (zUp σ 0 0 (0)) fun s2 =>
  zLet ((x1 : Int32).toInt64) fun v6 =>
  zCall (mR_in N s2 v6 (0) (9)) fun v11 s11 =>
  if (v11 : Int32) = 0 then
    mR_best_33 N s11 x1 x2
  else
    if (x1 : Int32) = (7) then
      mR_best_33 N s11 x1 x2
    else
      zLet ((x2 : Int32).toInt64) fun v24 =>
      zCall (mR_in N s11 v24 (0) (1)) fun v27 s27 =>
      if (v27 : Int32) = 0 then
        mR_best_33 N s27 x1 x2
      else
        zCallu (mR_think N s27) fun s36 =>
        zCallu (mR_takeTrace N s36) fun s40 =>
        zGet (s40 9) 10 x1 fun v53 =>
        mR_best_56 N s40 x1 x2 (-1) (0) v53
set_option maxRecDepth 20000 in
set_option maxHeartbeats 2000000 in
theorem cR_best {adr : Nat → Nat} {cI cZ : ClassId} {l : Launch} {D : va_G} {N : Nat} {σ : ST} {x1 : Int32} {x2 : Int32} (q : Int32 × ST) (hf : mR_best N σ x1 x2 = some q) : zM l D (wdR adr cI cZ) yX8_best cX8_best 6 (some .int) ({ frames := 10, cells := 0, slots := 0, locals := 228 }) [.ref (adr 0), .int x1, .int x2] σ (zi q) := by
  refine zM_of sfR_ok rfl (Nat.le_of_ble_eq_true rfl) [(0, .ref (adr 0)), (1, .int x1), (2, .int x2)] rfl (fun X hX1 hX2 B => ?_)
  have B : zC X 6 (wdR adr cI cZ) cX8_best RX8 (some .int) { frames := 10, cells := 0, slots := 0, locals := 228 } := B
  refine z_aload_n B dX8_best_0 0 rfl rfl ?_
  refine z_iconst B (0) dX8_best_1 zc_iconst_0 ?_
  refine fR_p_thrown B dX8_best_2 hf (fun s2 hf => ?_)
  refine z_iload_n B dX8_best_5 1 rfl rfl ?_
  refine z_i2l B dX8_best_6 hf (fun v6 hf => ?_)
  refine z_lconst B (0) dX8_best_7 rfl ?_
  refine z_ldc2 B kw_1010 dX8_best_8 ?_
  refine z_callSi B (As := [.long v6, .long (0), .long (9)]) kcS_X8_71 dX8_best_11 hf (fun q hq => cR_in q hq) rfl rfl (Nat.le_of_ble_eq_true rfl) rfl rfl ⟨Nat.le_of_ble_eq_true rfl, Nat.le_of_ble_eq_true rfl⟩ (fun v11 s11 hf => ?_)
  refine z_if_eq B 33 dX8_best_14 (by decide) hf (fun hf => ?_) (fun hf => ?_)
  · exact tR_best_33 B N s11 x1 x2 hf
  · refine z_iload_n B dX8_best_17 1 rfl rfl ?_
    refine z_bipush B (7) dX8_best_18 zc_bipush_7 ?_
    refine z_icmp_eq B 33 dX8_best_20 (by decide) hf (fun hf => ?_) (fun hf => ?_)
    · exact tR_best_33 B N s11 x1 x2 hf
    · refine z_iload_n B dX8_best_23 2 rfl rfl ?_
      refine z_i2l B dX8_best_24 hf (fun v24 hf => ?_)
      refine z_lconst B (0) dX8_best_25 rfl ?_
      refine z_lconst B (1) dX8_best_26 rfl ?_
      refine z_callSi B (As := [.long v24, .long (0), .long (1)]) kcS_X8_71 dX8_best_27 hf (fun q hq => cR_in q hq) rfl rfl (Nat.le_of_ble_eq_true rfl) rfl rfl ⟨Nat.le_of_ble_eq_true rfl, Nat.le_of_ble_eq_true rfl⟩ (fun v27 s27 hf => ?_)
      refine z_if_ne B 35 dX8_best_30 (by decide) hf (fun hf => ?_) (fun hf => ?_)
      · refine z_aload_n B dX8_best_35 0 rfl rfl ?_
        refine z_callVu B (As := []) kcV_X8_261 dX8_best_36 hf (fun q hq => cR_think q hq) (wR_o (adr := adr) (cI := cI) (cZ := cZ)) rfl rfl rfl rfl (Nat.le_of_ble_eq_true rfl) rfl rfl ⟨Nat.le_of_ble_eq_true rfl, Nat.le_of_ble_eq_true rfl⟩ (fun s36 hf => ?_)
        refine z_aload_n B dX8_best_39 0 rfl rfl ?_
        refine z_callVu B (As := []) kcV_X8_276 dX8_best_40 hf (fun q hq => cR_takeTrace q hq) (wR_o (adr := adr) (cI := cI) (cZ := cZ)) rfl rfl rfl rfl (Nat.le_of_ble_eq_true rfl) rfl rfl ⟨Nat.le_of_ble_eq_true rfl, Nat.le_of_ble_eq_true rfl⟩ (fun s40 hf => ?_)
        refine z_iconst B (-1) dX8_best_43 zc_iconst_m1 ?_
        refine z_istore_n B [(3, .int (-1)), (0, .ref (adr 0)), (1, .int x1), (2, .int x2)] dX8_best_44 rfl (Nat.le_of_ble_eq_true rfl) rfl ?_
        refine z_iconst B (0) dX8_best_45 zc_iconst_0 ?_
        refine z_istore B [(4, .int (0)), (3, .int (-1)), (0, .ref (adr 0)), (1, .int x1), (2, .int x2)] dX8_best_46 (Nat.le_of_ble_eq_true rfl) rfl ?_
        refine z_aload_n B dX8_best_48 2 rfl rfl ?_
        refine fR_g_leastTerm B dX8_best_49 ?_
        refine z_iload_n B dX8_best_52 3 rfl rfl ?_
        refine fR_l_leastTerm B dX8_best_53 hf (fun v53 hf => ?_)
        refine z_istore B [(5, .int v53), (4, .int (0)), (3, .int (-1)), (0, .ref (adr 0)), (1, .int x1), (2, .int x2)] dX8_best_54 (Nat.le_of_ble_eq_true rfl) rfl ?_
        exact z_loc [3, 4, 5, 2, 1, 0] _ rfl (tR_best_56 B N s40 x1 x2 (-1) (0) v53 hf)
      · exact tR_best_33 B N s27 x1 x2 hf
theorem dX8_againAt_0 : decode cX8_againAt 0 = .ok (.iload_n 2, 1) := by decide +kernel
theorem dX8_againAt_1 : decode cX8_againAt 1 = .ok (.istore_n 3, 1) := by decide +kernel
theorem dX8_againAt_2 : decode cX8_againAt 2 = .ok (.iload_n 3, 1) := by decide +kernel
theorem dX8_againAt_3 : decode cX8_againAt 3 = .ok (.aload_n 0, 1) := by decide +kernel
theorem dX8_againAt_4 : decode cX8_againAt 4 = .ok (.getfield 9, 3) := by decide +kernel
theorem dX8_againAt_7 : decode cX8_againAt 7 = .ok (.bipush 22, 2) := by decide +kernel
theorem dX8_againAt_9 : decode cX8_againAt 9 = .ok (.iaload, 1) := by decide +kernel
theorem dX8_againAt_10 : decode cX8_againAt 10 = .ok (.if_icmp .ge 20, 3) := by decide +kernel
theorem dX8_againAt_13 : decode cX8_againAt 13 = .ok (.aload_n 0, 1) := by decide +kernel
theorem dX8_againAt_14 : decode cX8_againAt 14 = .ok (.iload_n 3, 1) := by decide +kernel
theorem dX8_againAt_15 : decode cX8_againAt 15 = .ok (.invokevirtual 238, 3) := by decide +kernel
theorem dX8_againAt_18 : decode cX8_againAt 18 = .ok (.iload_n 1, 1) := by decide +kernel
theorem dX8_againAt_19 : decode cX8_againAt 19 = .ok (.if_icmp .ne 5, 3) := by decide +kernel
theorem dX8_againAt_22 : decode cX8_againAt 22 = .ok (.iload_n 3, 1) := by decide +kernel
theorem dX8_againAt_23 : decode cX8_againAt 23 = .ok (.ireturn, 1) := by decide +kernel
theorem dX8_againAt_24 : decode cX8_againAt 24 = .ok (.iinc 3 1, 3) := by decide +kernel
theorem dX8_againAt_27 : decode cX8_againAt 27 = .ok (.goto (-25), 3) := by decide +kernel
theorem dX8_againAt_30 : decode cX8_againAt 30 = .ok (.sipush 401, 3) := by decide +kernel
theorem dX8_againAt_33 : decode cX8_againAt 33 = .ok (.ireturn, 1) := by decide +kernel
def mR_againAt_B2 (N : Nat) (hd2 : ST → Int32 → Int32 → Int32 → Option (Int32 × ST)) (σ : ST) (x1 : Int32) (x2 : Int32) (x3 : Int32) : Option (Int32 × ST) :=
  zGet (σ 1) 1974 (22) fun v9 =>
  if (v9 : Int32) ≤ x3 then
    some ((401), σ)
  else
    zCall (mR_traced N σ x3) fun v15 s15 =>
    if (v15 : Int32) = x1 then
      some (x3, s15)
    else
      zLet (x3 + (1)) fun v24 =>
      hd2 s15 x1 x2 v24
def mR_againAt_2 (N : Nat) : ST → Int32 → Int32 → Int32 → Option (Int32 × ST) := zIt (mR_againAt_B2 N) (fun _ _ _ _ => none) N
set_option maxRecDepth 20000 in
set_option maxHeartbeats 2000000 in
theorem tR_againAt_2 {adr : Nat → Nat} {cI cZ : ClassId} {X : zX} {q : Int32 × ST} (B : zC X 4 (wdR adr cI cZ) cX8_againAt RX8 (some .int) { frames := 1, cells := 0, slots := 0, locals := 21 }) (N : Nat) : ∀ (σ : ST) (x1 : Int32) (x2 : Int32) (x3 : Int32), mR_againAt_2 N σ x1 x2 x3 = some q → zJ X 4 (wdR adr cI cZ) (zi q) 2 [(0, .ref (adr 0)), (1, .int x1), (2, .int x2), (3, .int x3)] [] σ := by
  refine zIt_ind (P := fun (hd : ST → Int32 → Int32 → Int32 → Option (Int32 × ST)) => ∀ (σ : ST) (x1 : Int32) (x2 : Int32) (x3 : Int32), hd σ x1 x2 x3 = some q → zJ X 4 (wdR adr cI cZ) (zi q) 2 [(0, .ref (adr 0)), (1, .int x1), (2, .int x2), (3, .int x3)] [] σ) (fun _ _ _ _ hf => by cases hf) (fun hd2 hh2 => ?_) N
  intro σ x1 x2 x3 hf
  refine z_iload_n B dX8_againAt_2 3 rfl rfl ?_
  refine z_aload_n B dX8_againAt_3 0 rfl rfl ?_
  refine fR_g_row B dX8_againAt_4 ?_
  refine z_bipush B (22) dX8_againAt_7 zc_bipush_22 ?_
  refine fR_l_row B dX8_againAt_9 hf (fun v9 hf => ?_)
  refine z_icmp_ge B 30 dX8_againAt_10 (by decide) hf (fun hf => ?_) (fun hf => ?_)
  · refine z_sipush B (401) dX8_againAt_30 zc_sipush_401 ?_
    exact z_ireturn B dX8_againAt_33 hf
  · refine z_aload_n B dX8_againAt_13 0 rfl rfl ?_
    refine z_iload_n B dX8_againAt_14 3 rfl rfl ?_
    refine z_callVi B (As := [.int x3]) kcV_X8_238 dX8_againAt_15 hf (fun q hq => cR_traced q hq) (wR_o (adr := adr) (cI := cI) (cZ := cZ)) rfl rfl rfl rfl (Nat.le_of_ble_eq_true rfl) rfl rfl ⟨Nat.le_of_ble_eq_true rfl, Nat.le_of_ble_eq_true rfl⟩ (fun v15 s15 hf => ?_)
    refine z_iload_n B dX8_againAt_18 1 rfl rfl ?_
    refine z_icmp_ne B 24 dX8_againAt_19 (by decide) hf (fun hf => ?_) (fun hf => ?_)
    · refine z_iinc B (1) 3 (fun v24 => [(3, .int v24), (0, .ref (adr 0)), (1, .int x1), (2, .int x2)]) dX8_againAt_24 hf zc_iconst_1 rfl (Nat.le_of_ble_eq_true rfl) (fun _ => rfl) (fun v24 hf => ?_)
      refine z_goto B 2 dX8_againAt_27 (by decide) ?_
      exact z_loc [1, 2, 3, 0] _ rfl (hh2 s15 x1 x2 v24 hf)
    · refine z_iload_n B dX8_againAt_22 3 rfl rfl ?_
      exact z_ireturn B dX8_againAt_23 hf
def mR_againAt (N : Nat) (σ : ST) (x1 : Int32) (x2 : Int32) : Option (Int32 × ST) :=
  mR_againAt_2 N σ x1 x2 x2
set_option maxRecDepth 20000 in
set_option maxHeartbeats 2000000 in
theorem cR_againAt {adr : Nat → Nat} {cI cZ : ClassId} {l : Launch} {D : va_G} {N : Nat} {σ : ST} {x1 : Int32} {x2 : Int32} (q : Int32 × ST) (hf : mR_againAt N σ x1 x2 = some q) : zM l D (wdR adr cI cZ) yX8_againAt cX8_againAt 4 (some .int) ({ frames := 1, cells := 0, slots := 0, locals := 21 }) [.ref (adr 0), .int x1, .int x2] σ (zi q) := by
  refine zM_of sfR_ok rfl (Nat.le_of_ble_eq_true rfl) [(0, .ref (adr 0)), (1, .int x1), (2, .int x2)] rfl (fun X hX1 hX2 B => ?_)
  have B : zC X 4 (wdR adr cI cZ) cX8_againAt RX8 (some .int) { frames := 1, cells := 0, slots := 0, locals := 21 } := B
  refine z_iload_n B dX8_againAt_0 2 rfl rfl ?_
  refine z_istore_n B [(3, .int x2), (0, .ref (adr 0)), (1, .int x1), (2, .int x2)] dX8_againAt_1 rfl (Nat.le_of_ble_eq_true rfl) rfl ?_
  exact z_loc [1, 2, 3, 0] _ rfl (tR_againAt_2 B N σ x1 x2 x2 hf)
theorem dX8_outOf_0 : decode cX8_outOf 0 = .ok (.iconst 0, 1) := by decide +kernel
theorem dX8_outOf_1 : decode cX8_outOf 1 = .ok (.istore_n 3, 1) := by decide +kernel
theorem dX8_outOf_2 : decode cX8_outOf 2 = .ok (.iconst 1, 1) := by decide +kernel
theorem dX8_outOf_3 : decode cX8_outOf 3 = .ok (.istore 4, 2) := by decide +kernel
theorem dX8_outOf_5 : decode cX8_outOf 5 = .ok (.iload 4, 2) := by decide +kernel
theorem dX8_outOf_7 : decode cX8_outOf 7 = .ok (.iload_n 1, 1) := by decide +kernel
theorem dX8_outOf_8 : decode cX8_outOf 8 = .ok (.if_icmp .ge 104, 3) := by decide +kernel
theorem dX8_outOf_11 : decode cX8_outOf 11 = .ok (.iload_n 2, 1) := by decide +kernel
theorem dX8_outOf_12 : decode cX8_outOf 12 = .ok (.ifCond .ne 27, 3) := by decide +kernel
theorem dX8_outOf_15 : decode cX8_outOf 15 = .ok (.aload_n 0, 1) := by decide +kernel
theorem dX8_outOf_16 : decode cX8_outOf 16 = .ok (.getfield 52, 3) := by decide +kernel
theorem dX8_outOf_19 : decode cX8_outOf 19 = .ok (.iload 4, 2) := by decide +kernel
theorem dX8_outOf_21 : decode cX8_outOf 21 = .ok (.iaload, 1) := by decide +kernel
theorem dX8_outOf_22 : decode cX8_outOf 22 = .ok (.aload_n 0, 1) := by decide +kernel
theorem dX8_outOf_23 : decode cX8_outOf 23 = .ok (.getfield 52, 3) := by decide +kernel
theorem dX8_outOf_26 : decode cX8_outOf 26 = .ok (.iload_n 3, 1) := by decide +kernel
theorem dX8_outOf_27 : decode cX8_outOf 27 = .ok (.iaload, 1) := by decide +kernel
theorem dX8_outOf_28 : decode cX8_outOf 28 = .ok (.if_icmp .ge 7, 3) := by decide +kernel
theorem dX8_outOf_31 : decode cX8_outOf 31 = .ok (.iconst 1, 1) := by decide +kernel
theorem dX8_outOf_32 : decode cX8_outOf 32 = .ok (.goto 28, 3) := by decide +kernel
theorem dX8_outOf_35 : decode cX8_outOf 35 = .ok (.iconst 0, 1) := by decide +kernel
theorem dX8_outOf_36 : decode cX8_outOf 36 = .ok (.goto 24, 3) := by decide +kernel
theorem dX8_outOf_39 : decode cX8_outOf 39 = .ok (.aload_n 0, 1) := by decide +kernel
theorem dX8_outOf_40 : decode cX8_outOf 40 = .ok (.getfield 52, 3) := by decide +kernel
theorem dX8_outOf_43 : decode cX8_outOf 43 = .ok (.iload 4, 2) := by decide +kernel
theorem dX8_outOf_45 : decode cX8_outOf 45 = .ok (.iaload, 1) := by decide +kernel
theorem dX8_outOf_46 : decode cX8_outOf 46 = .ok (.aload_n 0, 1) := by decide +kernel
theorem dX8_outOf_47 : decode cX8_outOf 47 = .ok (.getfield 52, 3) := by decide +kernel
theorem dX8_outOf_50 : decode cX8_outOf 50 = .ok (.iload_n 3, 1) := by decide +kernel
theorem dX8_outOf_51 : decode cX8_outOf 51 = .ok (.iaload, 1) := by decide +kernel
theorem dX8_outOf_52 : decode cX8_outOf 52 = .ok (.if_icmp .le 7, 3) := by decide +kernel
theorem dX8_outOf_55 : decode cX8_outOf 55 = .ok (.iconst 1, 1) := by decide +kernel
theorem dX8_outOf_56 : decode cX8_outOf 56 = .ok (.goto 4, 3) := by decide +kernel
theorem dX8_outOf_59 : decode cX8_outOf 59 = .ok (.iconst 0, 1) := by decide +kernel
theorem dX8_outOf_60 : decode cX8_outOf 60 = .ok (.istore 5, 2) := by decide +kernel
theorem dX8_outOf_62 : decode cX8_outOf 62 = .ok (.iload 5, 2) := by decide +kernel
theorem dX8_outOf_64 : decode cX8_outOf 64 = .ok (.ifCond .ne 35, 3) := by decide +kernel
theorem dX8_outOf_67 : decode cX8_outOf 67 = .ok (.aload_n 0, 1) := by decide +kernel
theorem dX8_outOf_68 : decode cX8_outOf 68 = .ok (.getfield 52, 3) := by decide +kernel
theorem dX8_outOf_71 : decode cX8_outOf 71 = .ok (.iload 4, 2) := by decide +kernel
theorem dX8_outOf_73 : decode cX8_outOf 73 = .ok (.iaload, 1) := by decide +kernel
theorem dX8_outOf_74 : decode cX8_outOf 74 = .ok (.aload_n 0, 1) := by decide +kernel
theorem dX8_outOf_75 : decode cX8_outOf 75 = .ok (.getfield 52, 3) := by decide +kernel
theorem dX8_outOf_78 : decode cX8_outOf 78 = .ok (.iload_n 3, 1) := by decide +kernel
theorem dX8_outOf_79 : decode cX8_outOf 79 = .ok (.iaload, 1) := by decide +kernel
theorem dX8_outOf_80 : decode cX8_outOf 80 = .ok (.if_icmp .ne 24, 3) := by decide +kernel
theorem dX8_outOf_83 : decode cX8_outOf 83 = .ok (.aload_n 0, 1) := by decide +kernel
theorem dX8_outOf_84 : decode cX8_outOf 84 = .ok (.getfield 49, 3) := by decide +kernel
theorem dX8_outOf_87 : decode cX8_outOf 87 = .ok (.iload 4, 2) := by decide +kernel
theorem dX8_outOf_89 : decode cX8_outOf 89 = .ok (.iaload, 1) := by decide +kernel
theorem dX8_outOf_90 : decode cX8_outOf 90 = .ok (.aload_n 0, 1) := by decide +kernel
theorem dX8_outOf_91 : decode cX8_outOf 91 = .ok (.getfield 49, 3) := by decide +kernel
theorem dX8_outOf_94 : decode cX8_outOf 94 = .ok (.iload_n 3, 1) := by decide +kernel
theorem dX8_outOf_95 : decode cX8_outOf 95 = .ok (.iaload, 1) := by decide +kernel
theorem dX8_outOf_96 : decode cX8_outOf 96 = .ok (.if_icmp .ge 8, 3) := by decide +kernel
theorem dX8_outOf_99 : decode cX8_outOf 99 = .ok (.iload 4, 2) := by decide +kernel
theorem dX8_outOf_101 : decode cX8_outOf 101 = .ok (.goto 4, 3) := by decide +kernel
theorem dX8_outOf_104 : decode cX8_outOf 104 = .ok (.iload_n 3, 1) := by decide +kernel
theorem dX8_outOf_105 : decode cX8_outOf 105 = .ok (.istore_n 3, 1) := by decide +kernel
theorem dX8_outOf_106 : decode cX8_outOf 106 = .ok (.iinc 4 1, 3) := by decide +kernel
theorem dX8_outOf_109 : decode cX8_outOf 109 = .ok (.goto (-104), 3) := by decide +kernel
theorem dX8_outOf_112 : decode cX8_outOf 112 = .ok (.iload_n 3, 1) := by decide +kernel
theorem dX8_outOf_113 : decode cX8_outOf 113 = .ok (.ireturn, 1) := by decide +kernel
def mR_outOf_105 (N : Nat) (hd5 : ST → Int32 → Int32 → Int32 → Int32 → Option (Int32 × ST)) (σ : ST) (x1 : Int32) (x2 : Int32) (x3 : Int32) (x4 : Int32) (x5 : Int32) (k0 : Int32) : Option (Int32 × ST) :=
  zLet (x4 + (1)) fun v106 =>
  hd5 σ x1 x2 k0 v106
set_option maxRecDepth 20000 in
set_option maxHeartbeats 2000000 in
theorem tR_outOf_105 {adr : Nat → Nat} {cI cZ : ClassId} {X : zX} {q : Int32 × ST} (B : zC X 6 (wdR adr cI cZ) cX8_outOf RX8 (some .int) { frames := 0, cells := 0, slots := 0, locals := 0 }) (N : Nat) (hd5 : ST → Int32 → Int32 → Int32 → Int32 → Option (Int32 × ST)) (hh5 : ∀ (σ : ST) (x1 : Int32) (x2 : Int32) (x3 : Int32) (x4 : Int32), hd5 σ x1 x2 x3 x4 = some q → zJ X 6 (wdR adr cI cZ) (zi q) 5 [(0, .ref (adr 0)), (1, .int x1), (2, .int x2), (3, .int x3), (4, .int x4)] [] σ) (σ : ST) (x1 : Int32) (x2 : Int32) (x3 : Int32) (x4 : Int32) (x5 : Int32) (k0 : Int32) (hf : mR_outOf_105 N hd5 σ x1 x2 x3 x4 x5 k0 = some q) : zJ X 6 (wdR adr cI cZ) (zi q) 105 [(0, .ref (adr 0)), (1, .int x1), (2, .int x2), (3, .int x3), (4, .int x4), (5, .int x5)] [.int k0] σ := by
  refine z_istore_n B [(3, .int k0), (0, .ref (adr 0)), (1, .int x1), (2, .int x2), (4, .int x4), (5, .int x5)] dX8_outOf_105 rfl (Nat.le_of_ble_eq_true rfl) rfl ?_
  refine z_iinc B (1) 4 (fun v106 => [(4, .int v106), (3, .int k0), (0, .ref (adr 0)), (1, .int x1), (2, .int x2), (5, .int x5)]) dX8_outOf_106 hf zc_iconst_1 rfl (Nat.le_of_ble_eq_true rfl) (fun _ => rfl) (fun v106 hf => ?_)
  refine z_goto B 5 dX8_outOf_109 (by decide) ?_
  exact z_loc [2, 3, 4, 1, 0] _ rfl (hh5 σ x1 x2 k0 v106 hf)
def mR_outOf_104 (N : Nat) (hd5 : ST → Int32 → Int32 → Int32 → Int32 → Option (Int32 × ST)) (σ : ST) (x1 : Int32) (x2 : Int32) (x3 : Int32) (x4 : Int32) (x5 : Int32) : Option (Int32 × ST) :=
  mR_outOf_105 N hd5 σ x1 x2 x3 x4 x5 x3
set_option maxRecDepth 20000 in
set_option maxHeartbeats 2000000 in
theorem tR_outOf_104 {adr : Nat → Nat} {cI cZ : ClassId} {X : zX} {q : Int32 × ST} (B : zC X 6 (wdR adr cI cZ) cX8_outOf RX8 (some .int) { frames := 0, cells := 0, slots := 0, locals := 0 }) (N : Nat) (hd5 : ST → Int32 → Int32 → Int32 → Int32 → Option (Int32 × ST)) (hh5 : ∀ (σ : ST) (x1 : Int32) (x2 : Int32) (x3 : Int32) (x4 : Int32), hd5 σ x1 x2 x3 x4 = some q → zJ X 6 (wdR adr cI cZ) (zi q) 5 [(0, .ref (adr 0)), (1, .int x1), (2, .int x2), (3, .int x3), (4, .int x4)] [] σ) (σ : ST) (x1 : Int32) (x2 : Int32) (x3 : Int32) (x4 : Int32) (x5 : Int32) (hf : mR_outOf_104 N hd5 σ x1 x2 x3 x4 x5 = some q) : zJ X 6 (wdR adr cI cZ) (zi q) 104 [(0, .ref (adr 0)), (1, .int x1), (2, .int x2), (3, .int x3), (4, .int x4), (5, .int x5)] [] σ := by
  refine z_iload_n B dX8_outOf_104 3 rfl rfl ?_
  exact tR_outOf_105 B N hd5 hh5 σ x1 x2 x3 x4 x5 x3 hf
def mR_outOf_99 (N : Nat) (hd5 : ST → Int32 → Int32 → Int32 → Int32 → Option (Int32 × ST)) (σ : ST) (x1 : Int32) (x2 : Int32) (x3 : Int32) (x4 : Int32) (x5 : Int32) : Option (Int32 × ST) :=
  mR_outOf_105 N hd5 σ x1 x2 x3 x4 x5 x4
set_option maxRecDepth 20000 in
set_option maxHeartbeats 2000000 in
theorem tR_outOf_99 {adr : Nat → Nat} {cI cZ : ClassId} {X : zX} {q : Int32 × ST} (B : zC X 6 (wdR adr cI cZ) cX8_outOf RX8 (some .int) { frames := 0, cells := 0, slots := 0, locals := 0 }) (N : Nat) (hd5 : ST → Int32 → Int32 → Int32 → Int32 → Option (Int32 × ST)) (hh5 : ∀ (σ : ST) (x1 : Int32) (x2 : Int32) (x3 : Int32) (x4 : Int32), hd5 σ x1 x2 x3 x4 = some q → zJ X 6 (wdR adr cI cZ) (zi q) 5 [(0, .ref (adr 0)), (1, .int x1), (2, .int x2), (3, .int x3), (4, .int x4)] [] σ) (σ : ST) (x1 : Int32) (x2 : Int32) (x3 : Int32) (x4 : Int32) (x5 : Int32) (hf : mR_outOf_99 N hd5 σ x1 x2 x3 x4 x5 = some q) : zJ X 6 (wdR adr cI cZ) (zi q) 99 [(0, .ref (adr 0)), (1, .int x1), (2, .int x2), (3, .int x3), (4, .int x4), (5, .int x5)] [] σ := by
  refine z_iload B dX8_outOf_99 4 rfl ?_
  refine z_goto B 105 dX8_outOf_101 (by decide) ?_
  exact tR_outOf_105 B N hd5 hh5 σ x1 x2 x3 x4 x5 x4 hf
def mR_outOf_60 (N : Nat) (hd5 : ST → Int32 → Int32 → Int32 → Int32 → Option (Int32 × ST)) (σ : ST) (x1 : Int32) (x2 : Int32) (x3 : Int32) (x4 : Int32) (k0 : Int32) : Option (Int32 × ST) :=
  if (k0 : Int32) = 0 then
    zGet (σ 20) 64 x4 fun v73 =>
    zGet (σ 20) 64 x3 fun v79 =>
    if (v73 : Int32) = v79 then
      zGet (σ 19) 64 x4 fun v89 =>
      zGet (σ 19) 64 x3 fun v95 =>
      if (v95 : Int32) ≤ v89 then
        mR_outOf_104 N hd5 σ x1 x2 x3 x4 k0
      else
        mR_outOf_99 N hd5 σ x1 x2 x3 x4 k0
    else
      mR_outOf_104 N hd5 σ x1 x2 x3 x4 k0
  else
    mR_outOf_99 N hd5 σ x1 x2 x3 x4 k0
set_option maxRecDepth 20000 in
set_option maxHeartbeats 2000000 in
theorem tR_outOf_60 {adr : Nat → Nat} {cI cZ : ClassId} {X : zX} {q : Int32 × ST} (B : zC X 6 (wdR adr cI cZ) cX8_outOf RX8 (some .int) { frames := 0, cells := 0, slots := 0, locals := 0 }) (N : Nat) (hd5 : ST → Int32 → Int32 → Int32 → Int32 → Option (Int32 × ST)) (hh5 : ∀ (σ : ST) (x1 : Int32) (x2 : Int32) (x3 : Int32) (x4 : Int32), hd5 σ x1 x2 x3 x4 = some q → zJ X 6 (wdR adr cI cZ) (zi q) 5 [(0, .ref (adr 0)), (1, .int x1), (2, .int x2), (3, .int x3), (4, .int x4)] [] σ) (σ : ST) (x1 : Int32) (x2 : Int32) (x3 : Int32) (x4 : Int32) (k0 : Int32) (hf : mR_outOf_60 N hd5 σ x1 x2 x3 x4 k0 = some q) : zJ X 6 (wdR adr cI cZ) (zi q) 60 [(0, .ref (adr 0)), (1, .int x1), (2, .int x2), (3, .int x3), (4, .int x4)] [.int k0] σ := by
  refine z_istore B [(5, .int k0), (0, .ref (adr 0)), (1, .int x1), (2, .int x2), (3, .int x3), (4, .int x4)] dX8_outOf_60 (Nat.le_of_ble_eq_true rfl) rfl ?_
  refine z_iload B dX8_outOf_62 0 rfl ?_
  refine z_if_ne B 99 dX8_outOf_64 (by decide) hf (fun hf => ?_) (fun hf => ?_)
  · exact z_loc [1, 2, 3, 4, 5, 0] _ rfl (tR_outOf_99 B N hd5 hh5 σ x1 x2 x3 x4 k0 hf)
  · refine z_aload_n B dX8_outOf_67 1 rfl rfl ?_
    refine fR_g_when B dX8_outOf_68 ?_
    refine z_iload B dX8_outOf_71 5 rfl ?_
    refine fR_l_when B dX8_outOf_73 hf (fun v73 hf => ?_)
    refine z_aload_n B dX8_outOf_74 1 rfl rfl ?_
    refine fR_g_when B dX8_outOf_75 ?_
    refine z_iload_n B dX8_outOf_78 4 rfl rfl ?_
    refine fR_l_when B dX8_outOf_79 hf (fun v79 hf => ?_)
    refine z_icmp_ne B 104 dX8_outOf_80 (by decide) hf (fun hf => ?_) (fun hf => ?_)
    · exact z_loc [1, 2, 3, 4, 5, 0] _ rfl (tR_outOf_104 B N hd5 hh5 σ x1 x2 x3 x4 k0 hf)
    · refine z_aload_n B dX8_outOf_83 1 rfl rfl ?_
      refine fR_g_lies B dX8_outOf_84 ?_
      refine z_iload B dX8_outOf_87 5 rfl ?_
      refine fR_l_lies B dX8_outOf_89 hf (fun v89 hf => ?_)
      refine z_aload_n B dX8_outOf_90 1 rfl rfl ?_
      refine fR_g_lies B dX8_outOf_91 ?_
      refine z_iload_n B dX8_outOf_94 4 rfl rfl ?_
      refine fR_l_lies B dX8_outOf_95 hf (fun v95 hf => ?_)
      refine z_icmp_ge B 104 dX8_outOf_96 (by decide) hf (fun hf => ?_) (fun hf => ?_)
      · exact z_loc [1, 2, 3, 4, 5, 0] _ rfl (tR_outOf_104 B N hd5 hh5 σ x1 x2 x3 x4 k0 hf)
      · exact z_loc [1, 2, 3, 4, 5, 0] _ rfl (tR_outOf_99 B N hd5 hh5 σ x1 x2 x3 x4 k0 hf)
def mR_outOf_B5 (N : Nat) (hd5 : ST → Int32 → Int32 → Int32 → Int32 → Option (Int32 × ST)) (σ : ST) (x1 : Int32) (x2 : Int32) (x3 : Int32) (x4 : Int32) : Option (Int32 × ST) :=
  if (x1 : Int32) ≤ x4 then
    some (x3, σ)
  else
    if (x2 : Int32) = 0 then
      zGet (σ 20) 64 x4 fun v21 =>
      zGet (σ 20) 64 x3 fun v27 =>
      if (v27 : Int32) ≤ v21 then
        mR_outOf_60 N hd5 σ x1 x2 x3 x4 (0)
      else
        mR_outOf_60 N hd5 σ x1 x2 x3 x4 (1)
    else
      zGet (σ 20) 64 x4 fun v45 =>
      zGet (σ 20) 64 x3 fun v51 =>
      if (v45 : Int32) ≤ v51 then
        mR_outOf_60 N hd5 σ x1 x2 x3 x4 (0)
      else
        mR_outOf_60 N hd5 σ x1 x2 x3 x4 (1)
def mR_outOf_5 (N : Nat) : ST → Int32 → Int32 → Int32 → Int32 → Option (Int32 × ST) := zIt (mR_outOf_B5 N) (fun _ _ _ _ _ => none) N
set_option maxRecDepth 20000 in
set_option maxHeartbeats 2000000 in
theorem tR_outOf_5 {adr : Nat → Nat} {cI cZ : ClassId} {X : zX} {q : Int32 × ST} (B : zC X 6 (wdR adr cI cZ) cX8_outOf RX8 (some .int) { frames := 0, cells := 0, slots := 0, locals := 0 }) (N : Nat) : ∀ (σ : ST) (x1 : Int32) (x2 : Int32) (x3 : Int32) (x4 : Int32), mR_outOf_5 N σ x1 x2 x3 x4 = some q → zJ X 6 (wdR adr cI cZ) (zi q) 5 [(0, .ref (adr 0)), (1, .int x1), (2, .int x2), (3, .int x3), (4, .int x4)] [] σ := by
  refine zIt_ind (P := fun (hd : ST → Int32 → Int32 → Int32 → Int32 → Option (Int32 × ST)) => ∀ (σ : ST) (x1 : Int32) (x2 : Int32) (x3 : Int32) (x4 : Int32), hd σ x1 x2 x3 x4 = some q → zJ X 6 (wdR adr cI cZ) (zi q) 5 [(0, .ref (adr 0)), (1, .int x1), (2, .int x2), (3, .int x3), (4, .int x4)] [] σ) (fun _ _ _ _ _ hf => by cases hf) (fun hd5 hh5 => ?_) N
  intro σ x1 x2 x3 x4 hf
  refine z_iload B dX8_outOf_5 4 rfl ?_
  refine z_iload_n B dX8_outOf_7 1 rfl rfl ?_
  refine z_icmp_ge B 112 dX8_outOf_8 (by decide) hf (fun hf => ?_) (fun hf => ?_)
  · refine z_iload_n B dX8_outOf_112 3 rfl rfl ?_
    exact z_ireturn B dX8_outOf_113 hf
  · refine z_iload_n B dX8_outOf_11 2 rfl rfl ?_
    refine z_if_ne B 39 dX8_outOf_12 (by decide) hf (fun hf => ?_) (fun hf => ?_)
    · refine z_aload_n B dX8_outOf_39 0 rfl rfl ?_
      refine fR_g_when B dX8_outOf_40 ?_
      refine z_iload B dX8_outOf_43 4 rfl ?_
      refine fR_l_when B dX8_outOf_45 hf (fun v45 hf => ?_)
      refine z_aload_n B dX8_outOf_46 0 rfl rfl ?_
      refine fR_g_when B dX8_outOf_47 ?_
      refine z_iload_n B dX8_outOf_50 3 rfl rfl ?_
      refine fR_l_when B dX8_outOf_51 hf (fun v51 hf => ?_)
      refine z_icmp_le B 59 dX8_outOf_52 (by decide) hf (fun hf => ?_) (fun hf => ?_)
      · refine z_iconst B (0) dX8_outOf_59 zc_iconst_0 ?_
        exact tR_outOf_60 B N hd5 hh5 σ x1 x2 x3 x4 (0) hf
      · refine z_iconst B (1) dX8_outOf_55 zc_iconst_1 ?_
        refine z_goto B 60 dX8_outOf_56 (by decide) ?_
        exact tR_outOf_60 B N hd5 hh5 σ x1 x2 x3 x4 (1) hf
    · refine z_aload_n B dX8_outOf_15 0 rfl rfl ?_
      refine fR_g_when B dX8_outOf_16 ?_
      refine z_iload B dX8_outOf_19 4 rfl ?_
      refine fR_l_when B dX8_outOf_21 hf (fun v21 hf => ?_)
      refine z_aload_n B dX8_outOf_22 0 rfl rfl ?_
      refine fR_g_when B dX8_outOf_23 ?_
      refine z_iload_n B dX8_outOf_26 3 rfl rfl ?_
      refine fR_l_when B dX8_outOf_27 hf (fun v27 hf => ?_)
      refine z_icmp_ge B 35 dX8_outOf_28 (by decide) hf (fun hf => ?_) (fun hf => ?_)
      · refine z_iconst B (0) dX8_outOf_35 zc_iconst_0 ?_
        refine z_goto B 60 dX8_outOf_36 (by decide) ?_
        exact tR_outOf_60 B N hd5 hh5 σ x1 x2 x3 x4 (0) hf
      · refine z_iconst B (1) dX8_outOf_31 zc_iconst_1 ?_
        refine z_goto B 60 dX8_outOf_32 (by decide) ?_
        exact tR_outOf_60 B N hd5 hh5 σ x1 x2 x3 x4 (1) hf
def mR_outOf (N : Nat) (σ : ST) (x1 : Int32) (x2 : Int32) : Option (Int32 × ST) :=
  mR_outOf_5 N σ x1 x2 (0) (1)
set_option maxRecDepth 20000 in
set_option maxHeartbeats 2000000 in
theorem cR_outOf {adr : Nat → Nat} {cI cZ : ClassId} {l : Launch} {D : va_G} {N : Nat} {σ : ST} {x1 : Int32} {x2 : Int32} (q : Int32 × ST) (hf : mR_outOf N σ x1 x2 = some q) : zM l D (wdR adr cI cZ) yX8_outOf cX8_outOf 6 (some .int) ({ frames := 0, cells := 0, slots := 0, locals := 0 }) [.ref (adr 0), .int x1, .int x2] σ (zi q) := by
  refine zM_of sfR_ok rfl (Nat.le_of_ble_eq_true rfl) [(0, .ref (adr 0)), (1, .int x1), (2, .int x2)] rfl (fun X hX1 hX2 B => ?_)
  have B : zC X 6 (wdR adr cI cZ) cX8_outOf RX8 (some .int) { frames := 0, cells := 0, slots := 0, locals := 0 } := B
  refine z_iconst B (0) dX8_outOf_0 zc_iconst_0 ?_
  refine z_istore_n B [(3, .int (0)), (0, .ref (adr 0)), (1, .int x1), (2, .int x2)] dX8_outOf_1 rfl (Nat.le_of_ble_eq_true rfl) rfl ?_
  refine z_iconst B (1) dX8_outOf_2 zc_iconst_1 ?_
  refine z_istore B [(4, .int (1)), (3, .int (0)), (0, .ref (adr 0)), (1, .int x1), (2, .int x2)] dX8_outOf_3 (Nat.le_of_ble_eq_true rfl) rfl ?_
  exact z_loc [2, 3, 4, 1, 0] _ rfl (tR_outOf_5 B N σ x1 x2 (0) (1) hf)
theorem dX8_missesBy_0 : decode cX8_missesBy 0 = .ok (.iconst 0, 1) := by decide +kernel
theorem dX8_missesBy_1 : decode cX8_missesBy 1 = .ok (.istore_n 3, 1) := by decide +kernel
theorem dX8_missesBy_2 : decode cX8_missesBy 2 = .ok (.iconst 0, 1) := by decide +kernel
theorem dX8_missesBy_3 : decode cX8_missesBy 3 = .ok (.istore 4, 2) := by decide +kernel
theorem dX8_missesBy_5 : decode cX8_missesBy 5 = .ok (.iconst 0, 1) := by decide +kernel
theorem dX8_missesBy_6 : decode cX8_missesBy 6 = .ok (.istore 5, 2) := by decide +kernel
theorem dX8_missesBy_8 : decode cX8_missesBy 8 = .ok (.iload 5, 2) := by decide +kernel
theorem dX8_missesBy_10 : decode cX8_missesBy 10 = .ok (.aload_n 0, 1) := by decide +kernel
theorem dX8_missesBy_11 : decode cX8_missesBy 11 = .ok (.getfield 9, 3) := by decide +kernel
theorem dX8_missesBy_14 : decode cX8_missesBy 14 = .ok (.bipush 22, 2) := by decide +kernel
theorem dX8_missesBy_16 : decode cX8_missesBy 16 = .ok (.iaload, 1) := by decide +kernel
theorem dX8_missesBy_17 : decode cX8_missesBy 17 = .ok (.if_icmp .ge 134, 3) := by decide +kernel
theorem dX8_missesBy_20 : decode cX8_missesBy 20 = .ok (.iconst (-1), 1) := by decide +kernel
theorem dX8_missesBy_21 : decode cX8_missesBy 21 = .ok (.istore 6, 2) := by decide +kernel
theorem dX8_missesBy_23 : decode cX8_missesBy 23 = .ok (.iconst 0, 1) := by decide +kernel
theorem dX8_missesBy_24 : decode cX8_missesBy 24 = .ok (.istore 7, 2) := by decide +kernel
theorem dX8_missesBy_26 : decode cX8_missesBy 26 = .ok (.iload 7, 2) := by decide +kernel
theorem dX8_missesBy_28 : decode cX8_missesBy 28 = .ok (.iload_n 3, 1) := by decide +kernel
theorem dX8_missesBy_29 : decode cX8_missesBy 29 = .ok (.if_icmp .ge 34, 3) := by decide +kernel
theorem dX8_missesBy_32 : decode cX8_missesBy 32 = .ok (.aload_n 0, 1) := by decide +kernel
theorem dX8_missesBy_33 : decode cX8_missesBy 33 = .ok (.getfield 49, 3) := by decide +kernel
theorem dX8_missesBy_36 : decode cX8_missesBy 36 = .ok (.iload 7, 2) := by decide +kernel
theorem dX8_missesBy_38 : decode cX8_missesBy 38 = .ok (.iaload, 1) := by decide +kernel
theorem dX8_missesBy_39 : decode cX8_missesBy 39 = .ok (.aload_n 0, 1) := by decide +kernel
theorem dX8_missesBy_40 : decode cX8_missesBy 40 = .ok (.iload 5, 2) := by decide +kernel
theorem dX8_missesBy_42 : decode cX8_missesBy 42 = .ok (.invokevirtual 238, 3) := by decide +kernel
theorem dX8_missesBy_45 : decode cX8_missesBy 45 = .ok (.if_icmp .ne 8, 3) := by decide +kernel
theorem dX8_missesBy_48 : decode cX8_missesBy 48 = .ok (.iload 7, 2) := by decide +kernel
theorem dX8_missesBy_50 : decode cX8_missesBy 50 = .ok (.goto 5, 3) := by decide +kernel
theorem dX8_missesBy_53 : decode cX8_missesBy 53 = .ok (.iload 6, 2) := by decide +kernel
theorem dX8_missesBy_55 : decode cX8_missesBy 55 = .ok (.istore 6, 2) := by decide +kernel
theorem dX8_missesBy_57 : decode cX8_missesBy 57 = .ok (.iinc 7 1, 3) := by decide +kernel
theorem dX8_missesBy_60 : decode cX8_missesBy 60 = .ok (.goto (-34), 3) := by decide +kernel
theorem dX8_missesBy_63 : decode cX8_missesBy 63 = .ok (.iload 6, 2) := by decide +kernel
theorem dX8_missesBy_65 : decode cX8_missesBy 65 = .ok (.iconst (-1), 1) := by decide +kernel
theorem dX8_missesBy_66 : decode cX8_missesBy 66 = .ok (.if_icmp .ne 36, 3) := by decide +kernel
theorem dX8_missesBy_69 : decode cX8_missesBy 69 = .ok (.iinc 4 1, 3) := by decide +kernel
theorem dX8_missesBy_72 : decode cX8_missesBy 72 = .ok (.iload_n 3, 1) := by decide +kernel
theorem dX8_missesBy_73 : decode cX8_missesBy 73 = .ok (.iload_n 1, 1) := by decide +kernel
theorem dX8_missesBy_74 : decode cX8_missesBy 74 = .ok (.if_icmp .ge 7, 3) := by decide +kernel
theorem dX8_missesBy_77 : decode cX8_missesBy 77 = .ok (.iload_n 3, 1) := by decide +kernel
theorem dX8_missesBy_78 : decode cX8_missesBy 78 = .ok (.goto 9, 3) := by decide +kernel
theorem dX8_missesBy_81 : decode cX8_missesBy 81 = .ok (.aload_n 0, 1) := by decide +kernel
theorem dX8_missesBy_82 : decode cX8_missesBy 82 = .ok (.iload_n 3, 1) := by decide +kernel
theorem dX8_missesBy_83 : decode cX8_missesBy 83 = .ok (.iload_n 2, 1) := by decide +kernel
theorem dX8_missesBy_84 : decode cX8_missesBy 84 = .ok (.invokevirtual 282, 3) := by decide +kernel
theorem dX8_missesBy_87 : decode cX8_missesBy 87 = .ok (.istore 6, 2) := by decide +kernel
theorem dX8_missesBy_89 : decode cX8_missesBy 89 = .ok (.iload_n 3, 1) := by decide +kernel
theorem dX8_missesBy_90 : decode cX8_missesBy 90 = .ok (.iload_n 3, 1) := by decide +kernel
theorem dX8_missesBy_91 : decode cX8_missesBy 91 = .ok (.iload_n 1, 1) := by decide +kernel
theorem dX8_missesBy_92 : decode cX8_missesBy 92 = .ok (.if_icmp .ge 7, 3) := by decide +kernel
theorem dX8_missesBy_95 : decode cX8_missesBy 95 = .ok (.iconst 1, 1) := by decide +kernel
theorem dX8_missesBy_96 : decode cX8_missesBy 96 = .ok (.goto 4, 3) := by decide +kernel
theorem dX8_missesBy_99 : decode cX8_missesBy 99 = .ok (.iconst 0, 1) := by decide +kernel
theorem dX8_missesBy_100 : decode cX8_missesBy 100 = .ok (.iadd, 1) := by decide +kernel
theorem dX8_missesBy_101 : decode cX8_missesBy 101 = .ok (.istore_n 3, 1) := by decide +kernel
theorem dX8_missesBy_102 : decode cX8_missesBy 102 = .ok (.aload_n 0, 1) := by decide +kernel
theorem dX8_missesBy_103 : decode cX8_missesBy 103 = .ok (.getfield 49, 3) := by decide +kernel
theorem dX8_missesBy_106 : decode cX8_missesBy 106 = .ok (.iload 6, 2) := by decide +kernel
theorem dX8_missesBy_108 : decode cX8_missesBy 108 = .ok (.aload_n 0, 1) := by decide +kernel
theorem dX8_missesBy_109 : decode cX8_missesBy 109 = .ok (.iload 5, 2) := by decide +kernel
theorem dX8_missesBy_111 : decode cX8_missesBy 111 = .ok (.invokevirtual 238, 3) := by decide +kernel
theorem dX8_missesBy_114 : decode cX8_missesBy 114 = .ok (.iastore, 1) := by decide +kernel
theorem dX8_missesBy_115 : decode cX8_missesBy 115 = .ok (.aload_n 0, 1) := by decide +kernel
theorem dX8_missesBy_116 : decode cX8_missesBy 116 = .ok (.getfield 52, 3) := by decide +kernel
theorem dX8_missesBy_119 : decode cX8_missesBy 119 = .ok (.iload 6, 2) := by decide +kernel
theorem dX8_missesBy_121 : decode cX8_missesBy 121 = .ok (.iload_n 2, 1) := by decide +kernel
theorem dX8_missesBy_122 : decode cX8_missesBy 122 = .ok (.ifCond .ne 8, 3) := by decide +kernel
theorem dX8_missesBy_125 : decode cX8_missesBy 125 = .ok (.iload 5, 2) := by decide +kernel
theorem dX8_missesBy_127 : decode cX8_missesBy 127 = .ok (.goto 17, 3) := by decide +kernel
theorem dX8_missesBy_130 : decode cX8_missesBy 130 = .ok (.aload_n 0, 1) := by decide +kernel
theorem dX8_missesBy_131 : decode cX8_missesBy 131 = .ok (.aload_n 0, 1) := by decide +kernel
theorem dX8_missesBy_132 : decode cX8_missesBy 132 = .ok (.iload 5, 2) := by decide +kernel
theorem dX8_missesBy_134 : decode cX8_missesBy 134 = .ok (.invokevirtual 238, 3) := by decide +kernel
theorem dX8_missesBy_137 : decode cX8_missesBy 137 = .ok (.iload 5, 2) := by decide +kernel
theorem dX8_missesBy_139 : decode cX8_missesBy 139 = .ok (.iconst 1, 1) := by decide +kernel
theorem dX8_missesBy_140 : decode cX8_missesBy 140 = .ok (.iadd, 1) := by decide +kernel
theorem dX8_missesBy_141 : decode cX8_missesBy 141 = .ok (.invokevirtual 285, 3) := by decide +kernel
theorem dX8_missesBy_144 : decode cX8_missesBy 144 = .ok (.iastore, 1) := by decide +kernel
theorem dX8_missesBy_145 : decode cX8_missesBy 145 = .ok (.iinc 5 1, 3) := by decide +kernel
theorem dX8_missesBy_148 : decode cX8_missesBy 148 = .ok (.goto (-140), 3) := by decide +kernel
theorem dX8_missesBy_151 : decode cX8_missesBy 151 = .ok (.iload 4, 2) := by decide +kernel
theorem dX8_missesBy_153 : decode cX8_missesBy 153 = .ok (.ireturn, 1) := by decide +kernel
def mR_missesBy_144 (N : Nat) (hd8 : ST → Int32 → Int32 → Int32 → Int32 → Int32 → Option (Int32 × ST)) (σ : ST) (x1 : Int32) (x2 : Int32) (x3 : Int32) (x4 : Int32) (x5 : Int32) (x6 : Int32) (x7 : Int32) (k1 : Int32) (k2 : Int32) : Option (Int32 × ST) :=
  zSet σ 20 64 k1 k2 fun s144 =>
  zLet (x5 + (1)) fun v145 =>
  hd8 s144 x1 x2 x3 x4 v145
set_option maxRecDepth 20000 in
set_option maxHeartbeats 2000000 in
theorem tR_missesBy_144 {adr : Nat → Nat} {cI cZ : ClassId} {X : zX} {q : Int32 × ST} (B : zC X 8 (wdR adr cI cZ) cX8_missesBy RX8 (some .int) { frames := 2, cells := 0, slots := 0, locals := 44 }) (N : Nat) (hd8 : ST → Int32 → Int32 → Int32 → Int32 → Int32 → Option (Int32 × ST)) (hh8 : ∀ (σ : ST) (x1 : Int32) (x2 : Int32) (x3 : Int32) (x4 : Int32) (x5 : Int32), hd8 σ x1 x2 x3 x4 x5 = some q → zJ X 8 (wdR adr cI cZ) (zi q) 8 [(0, .ref (adr 0)), (1, .int x1), (2, .int x2), (3, .int x3), (4, .int x4), (5, .int x5)] [] σ) (σ : ST) (x1 : Int32) (x2 : Int32) (x3 : Int32) (x4 : Int32) (x5 : Int32) (x6 : Int32) (x7 : Int32) (k1 : Int32) (k2 : Int32) (hf : mR_missesBy_144 N hd8 σ x1 x2 x3 x4 x5 x6 x7 k1 k2 = some q) : zJ X 8 (wdR adr cI cZ) (zi q) 144 [(0, .ref (adr 0)), (1, .int x1), (2, .int x2), (3, .int x3), (4, .int x4), (5, .int x5), (6, .int x6), (7, .int x7)] [.int k2, .int k1, .ref (adr 20)] σ := by
  refine fR_s_when B dX8_missesBy_144 hf (fun s144 hf => ?_)
  refine z_iinc B (1) 5 (fun v145 => [(5, .int v145), (0, .ref (adr 0)), (1, .int x1), (2, .int x2), (3, .int x3), (4, .int x4), (6, .int x6), (7, .int x7)]) dX8_missesBy_145 hf zc_iconst_1 rfl (Nat.le_of_ble_eq_true rfl) (fun _ => rfl) (fun v145 hf => ?_)
  refine z_goto B 8 dX8_missesBy_148 (by decide) ?_
  exact z_loc [1, 2, 3, 4, 5, 0] _ rfl (hh8 s144 x1 x2 x3 x4 v145 hf)
def mR_missesBy_102 (N : Nat) (hd8 : ST → Int32 → Int32 → Int32 → Int32 → Int32 → Option (Int32 × ST)) (σ : ST) (x1 : Int32) (x2 : Int32) (x3 : Int32) (x4 : Int32) (x5 : Int32) (x6 : Int32) (x7 : Int32) : Option (Int32 × ST) :=
  zCall (mR_traced N σ x5) fun v111 s111 =>
  zSet s111 19 64 x6 v111 fun s114 =>
  if (x2 : Int32) = 0 then
    mR_missesBy_144 N hd8 s114 x1 x2 x3 x4 x5 x6 x7 x6 x5
  else
    zCall (mR_traced N s114 x5) fun v134 s134 =>
    zLet ((x5 : Int32) + (1)) fun v140 =>
    zCall (mR_againAt N s134 v134 v140) fun v141 s141 =>
    mR_missesBy_144 N hd8 s141 x1 x2 x3 x4 x5 x6 x7 x6 v141
set_option maxRecDepth 20000 in
set_option maxHeartbeats 2000000 in
theorem tR_missesBy_102 {adr : Nat → Nat} {cI cZ : ClassId} {X : zX} {q : Int32 × ST} (B : zC X 8 (wdR adr cI cZ) cX8_missesBy RX8 (some .int) { frames := 2, cells := 0, slots := 0, locals := 44 }) (N : Nat) (hd8 : ST → Int32 → Int32 → Int32 → Int32 → Int32 → Option (Int32 × ST)) (hh8 : ∀ (σ : ST) (x1 : Int32) (x2 : Int32) (x3 : Int32) (x4 : Int32) (x5 : Int32), hd8 σ x1 x2 x3 x4 x5 = some q → zJ X 8 (wdR adr cI cZ) (zi q) 8 [(0, .ref (adr 0)), (1, .int x1), (2, .int x2), (3, .int x3), (4, .int x4), (5, .int x5)] [] σ) (σ : ST) (x1 : Int32) (x2 : Int32) (x3 : Int32) (x4 : Int32) (x5 : Int32) (x6 : Int32) (x7 : Int32) (hf : mR_missesBy_102 N hd8 σ x1 x2 x3 x4 x5 x6 x7 = some q) : zJ X 8 (wdR adr cI cZ) (zi q) 102 [(0, .ref (adr 0)), (1, .int x1), (2, .int x2), (3, .int x3), (4, .int x4), (5, .int x5), (6, .int x6), (7, .int x7)] [] σ := by
  refine z_aload_n B dX8_missesBy_102 0 rfl rfl ?_
  refine fR_g_lies B dX8_missesBy_103 ?_
  refine z_iload B dX8_missesBy_106 6 rfl ?_
  refine z_aload_n B dX8_missesBy_108 0 rfl rfl ?_
  refine z_iload B dX8_missesBy_109 5 rfl ?_
  refine z_callVi B (As := [.int x5]) kcV_X8_238 dX8_missesBy_111 hf (fun q hq => cR_traced q hq) (wR_o (adr := adr) (cI := cI) (cZ := cZ)) rfl rfl rfl rfl (Nat.le_of_ble_eq_true rfl) rfl rfl ⟨Nat.le_of_ble_eq_true rfl, Nat.le_of_ble_eq_true rfl⟩ (fun v111 s111 hf => ?_)
  refine fR_s_lies B dX8_missesBy_114 hf (fun s114 hf => ?_)
  refine z_aload_n B dX8_missesBy_115 0 rfl rfl ?_
  refine fR_g_when B dX8_missesBy_116 ?_
  refine z_iload B dX8_missesBy_119 6 rfl ?_
  refine z_iload_n B dX8_missesBy_121 2 rfl rfl ?_
  refine z_if_ne B 130 dX8_missesBy_122 (by decide) hf (fun hf => ?_) (fun hf => ?_)
  · refine z_aload_n B dX8_missesBy_130 0 rfl rfl ?_
    refine z_aload_n B dX8_missesBy_131 0 rfl rfl ?_
    refine z_iload B dX8_missesBy_132 5 rfl ?_
    refine z_callVi B (As := [.int x5]) kcV_X8_238 dX8_missesBy_134 hf (fun q hq => cR_traced q hq) (wR_o (adr := adr) (cI := cI) (cZ := cZ)) rfl rfl rfl rfl (Nat.le_of_ble_eq_true rfl) rfl rfl ⟨Nat.le_of_ble_eq_true rfl, Nat.le_of_ble_eq_true rfl⟩ (fun v134 s134 hf => ?_)
    refine z_iload B dX8_missesBy_137 5 rfl ?_
    refine z_iconst B (1) dX8_missesBy_139 zc_iconst_1 ?_
    refine z_iadd B dX8_missesBy_140 hf (fun v140 hf => ?_)
    refine z_callVi B (As := [.int v134, .int v140]) kcV_X8_285 dX8_missesBy_141 hf (fun q hq => cR_againAt q hq) (wR_o (adr := adr) (cI := cI) (cZ := cZ)) rfl rfl rfl rfl (Nat.le_of_ble_eq_true rfl) rfl rfl ⟨Nat.le_of_ble_eq_true rfl, Nat.le_of_ble_eq_true rfl⟩ (fun v141 s141 hf => ?_)
    exact tR_missesBy_144 B N hd8 hh8 s141 x1 x2 x3 x4 x5 x6 x7 x6 v141 hf
  · refine z_iload B dX8_missesBy_125 5 rfl ?_
    refine z_goto B 144 dX8_missesBy_127 (by decide) ?_
    exact tR_missesBy_144 B N hd8 hh8 s114 x1 x2 x3 x4 x5 x6 x7 x6 x5 hf
def mR_missesBy_100 (N : Nat) (hd8 : ST → Int32 → Int32 → Int32 → Int32 → Int32 → Option (Int32 × ST)) (σ : ST) (x1 : Int32) (x2 : Int32) (x3 : Int32) (x4 : Int32) (x5 : Int32) (x6 : Int32) (x7 : Int32) (k0 : Int32) (k1 : Int32) : Option (Int32 × ST) :=
  zLet ((k0 : Int32) + k1) fun v100 =>
  mR_missesBy_102 N hd8 σ x1 x2 v100 x4 x5 x6 x7
set_option maxRecDepth 20000 in
set_option maxHeartbeats 2000000 in
theorem tR_missesBy_100 {adr : Nat → Nat} {cI cZ : ClassId} {X : zX} {q : Int32 × ST} (B : zC X 8 (wdR adr cI cZ) cX8_missesBy RX8 (some .int) { frames := 2, cells := 0, slots := 0, locals := 44 }) (N : Nat) (hd8 : ST → Int32 → Int32 → Int32 → Int32 → Int32 → Option (Int32 × ST)) (hh8 : ∀ (σ : ST) (x1 : Int32) (x2 : Int32) (x3 : Int32) (x4 : Int32) (x5 : Int32), hd8 σ x1 x2 x3 x4 x5 = some q → zJ X 8 (wdR adr cI cZ) (zi q) 8 [(0, .ref (adr 0)), (1, .int x1), (2, .int x2), (3, .int x3), (4, .int x4), (5, .int x5)] [] σ) (σ : ST) (x1 : Int32) (x2 : Int32) (x3 : Int32) (x4 : Int32) (x5 : Int32) (x6 : Int32) (x7 : Int32) (k0 : Int32) (k1 : Int32) (hf : mR_missesBy_100 N hd8 σ x1 x2 x3 x4 x5 x6 x7 k0 k1 = some q) : zJ X 8 (wdR adr cI cZ) (zi q) 100 [(0, .ref (adr 0)), (1, .int x1), (2, .int x2), (3, .int x3), (4, .int x4), (5, .int x5), (6, .int x6), (7, .int x7)] [.int k1, .int k0] σ := by
  refine z_iadd B dX8_missesBy_100 hf (fun v100 hf => ?_)
  refine z_istore_n B [(3, .int v100), (0, .ref (adr 0)), (1, .int x1), (2, .int x2), (4, .int x4), (5, .int x5), (6, .int x6), (7, .int x7)] dX8_missesBy_101 rfl (Nat.le_of_ble_eq_true rfl) rfl ?_
  exact z_loc [1, 2, 3, 0, 4, 5, 6, 7] _ rfl (tR_missesBy_102 B N hd8 hh8 σ x1 x2 v100 x4 x5 x6 x7 hf)
def mR_missesBy_87 (N : Nat) (hd8 : ST → Int32 → Int32 → Int32 → Int32 → Int32 → Option (Int32 × ST)) (σ : ST) (x1 : Int32) (x2 : Int32) (x3 : Int32) (x4 : Int32) (x5 : Int32) (x6 : Int32) (x7 : Int32) (k0 : Int32) : Option (Int32 × ST) :=
  if (x1 : Int32) ≤ x3 then
    mR_missesBy_100 N hd8 σ x1 x2 x3 x4 x5 k0 x7 x3 (0)
  else
    mR_missesBy_100 N hd8 σ x1 x2 x3 x4 x5 k0 x7 x3 (1)
set_option maxRecDepth 20000 in
set_option maxHeartbeats 2000000 in
theorem tR_missesBy_87 {adr : Nat → Nat} {cI cZ : ClassId} {X : zX} {q : Int32 × ST} (B : zC X 8 (wdR adr cI cZ) cX8_missesBy RX8 (some .int) { frames := 2, cells := 0, slots := 0, locals := 44 }) (N : Nat) (hd8 : ST → Int32 → Int32 → Int32 → Int32 → Int32 → Option (Int32 × ST)) (hh8 : ∀ (σ : ST) (x1 : Int32) (x2 : Int32) (x3 : Int32) (x4 : Int32) (x5 : Int32), hd8 σ x1 x2 x3 x4 x5 = some q → zJ X 8 (wdR adr cI cZ) (zi q) 8 [(0, .ref (adr 0)), (1, .int x1), (2, .int x2), (3, .int x3), (4, .int x4), (5, .int x5)] [] σ) (σ : ST) (x1 : Int32) (x2 : Int32) (x3 : Int32) (x4 : Int32) (x5 : Int32) (x6 : Int32) (x7 : Int32) (k0 : Int32) (hf : mR_missesBy_87 N hd8 σ x1 x2 x3 x4 x5 x6 x7 k0 = some q) : zJ X 8 (wdR adr cI cZ) (zi q) 87 [(0, .ref (adr 0)), (1, .int x1), (2, .int x2), (3, .int x3), (4, .int x4), (5, .int x5), (6, .int x6), (7, .int x7)] [.int k0] σ := by
  refine z_istore B [(6, .int k0), (0, .ref (adr 0)), (1, .int x1), (2, .int x2), (3, .int x3), (4, .int x4), (5, .int x5), (7, .int x7)] dX8_missesBy_87 (Nat.le_of_ble_eq_true rfl) rfl ?_
  refine z_iload_n B dX8_missesBy_89 4 rfl rfl ?_
  refine z_iload_n B dX8_missesBy_90 4 rfl rfl ?_
  refine z_iload_n B dX8_missesBy_91 2 rfl rfl ?_
  refine z_icmp_ge B 99 dX8_missesBy_92 (by decide) hf (fun hf => ?_) (fun hf => ?_)
  · refine z_iconst B (0) dX8_missesBy_99 zc_iconst_0 ?_
    exact z_loc [1, 2, 3, 4, 5, 6, 0, 7] _ rfl (tR_missesBy_100 B N hd8 hh8 σ x1 x2 x3 x4 x5 k0 x7 x3 (0) hf)
  · refine z_iconst B (1) dX8_missesBy_95 zc_iconst_1 ?_
    refine z_goto B 100 dX8_missesBy_96 (by decide) ?_
    exact z_loc [1, 2, 3, 4, 5, 6, 0, 7] _ rfl (tR_missesBy_100 B N hd8 hh8 σ x1 x2 x3 x4 x5 k0 x7 x3 (1) hf)
def mR_missesBy_55 (N : Nat) (hd8 : ST → Int32 → Int32 → Int32 → Int32 → Int32 → Option (Int32 × ST)) (hd26 : ST → Int32 → Int32 → Int32 → Int32 → Int32 → Int32 → Int32 → Option (Int32 × ST)) (σ : ST) (x1 : Int32) (x2 : Int32) (x3 : Int32) (x4 : Int32) (x5 : Int32) (x6 : Int32) (x7 : Int32) (k0 : Int32) : Option (Int32 × ST) :=
  zLet (x7 + (1)) fun v57 =>
  hd26 σ x1 x2 x3 x4 x5 k0 v57
set_option maxRecDepth 20000 in
set_option maxHeartbeats 2000000 in
theorem tR_missesBy_55 {adr : Nat → Nat} {cI cZ : ClassId} {X : zX} {q : Int32 × ST} (B : zC X 8 (wdR adr cI cZ) cX8_missesBy RX8 (some .int) { frames := 2, cells := 0, slots := 0, locals := 44 }) (N : Nat) (hd8 : ST → Int32 → Int32 → Int32 → Int32 → Int32 → Option (Int32 × ST)) (hh8 : ∀ (σ : ST) (x1 : Int32) (x2 : Int32) (x3 : Int32) (x4 : Int32) (x5 : Int32), hd8 σ x1 x2 x3 x4 x5 = some q → zJ X 8 (wdR adr cI cZ) (zi q) 8 [(0, .ref (adr 0)), (1, .int x1), (2, .int x2), (3, .int x3), (4, .int x4), (5, .int x5)] [] σ) (hd26 : ST → Int32 → Int32 → Int32 → Int32 → Int32 → Int32 → Int32 → Option (Int32 × ST)) (hh26 : ∀ (σ : ST) (x1 : Int32) (x2 : Int32) (x3 : Int32) (x4 : Int32) (x5 : Int32) (x6 : Int32) (x7 : Int32), hd26 σ x1 x2 x3 x4 x5 x6 x7 = some q → zJ X 8 (wdR adr cI cZ) (zi q) 26 [(0, .ref (adr 0)), (1, .int x1), (2, .int x2), (3, .int x3), (4, .int x4), (5, .int x5), (6, .int x6), (7, .int x7)] [] σ) (σ : ST) (x1 : Int32) (x2 : Int32) (x3 : Int32) (x4 : Int32) (x5 : Int32) (x6 : Int32) (x7 : Int32) (k0 : Int32) (hf : mR_missesBy_55 N hd8 hd26 σ x1 x2 x3 x4 x5 x6 x7 k0 = some q) : zJ X 8 (wdR adr cI cZ) (zi q) 55 [(0, .ref (adr 0)), (1, .int x1), (2, .int x2), (3, .int x3), (4, .int x4), (5, .int x5), (6, .int x6), (7, .int x7)] [.int k0] σ := by
  refine z_istore B [(6, .int k0), (0, .ref (adr 0)), (1, .int x1), (2, .int x2), (3, .int x3), (4, .int x4), (5, .int x5), (7, .int x7)] dX8_missesBy_55 (Nat.le_of_ble_eq_true rfl) rfl ?_
  refine z_iinc B (1) 7 (fun v57 => [(7, .int v57), (6, .int k0), (0, .ref (adr 0)), (1, .int x1), (2, .int x2), (3, .int x3), (4, .int x4), (5, .int x5)]) dX8_missesBy_57 hf zc_iconst_1 rfl (Nat.le_of_ble_eq_true rfl) (fun _ => rfl) (fun v57 hf => ?_)
  refine z_goto B 26 dX8_missesBy_60 (by decide) ?_
  exact z_loc [2, 3, 4, 5, 6, 7, 1, 0] _ rfl (hh26 σ x1 x2 x3 x4 x5 k0 v57 hf)
def mR_missesBy_B26 (N : Nat) (hd8 : ST → Int32 → Int32 → Int32 → Int32 → Int32 → Option (Int32 × ST)) (hd26 : ST → Int32 → Int32 → Int32 → Int32 → Int32 → Int32 → Int32 → Option (Int32 × ST)) (σ : ST) (x1 : Int32) (x2 : Int32) (x3 : Int32) (x4 : Int32) (x5 : Int32) (x6 : Int32) (x7 : Int32) : Option (Int32 × ST) :=
  if (x3 : Int32) ≤ x7 then
    if (x6 : Int32) = (-1) then
      zLet (x4 + (1)) fun v69 =>
      if (x1 : Int32) ≤ x3 then
        zCall (mR_outOf N σ x3 x2) fun v84 s84 =>
        mR_missesBy_87 N hd8 s84 x1 x2 x3 v69 x5 x6 x7 v84
      else
        mR_missesBy_87 N hd8 σ x1 x2 x3 v69 x5 x6 x7 x3
    else
      mR_missesBy_102 N hd8 σ x1 x2 x3 x4 x5 x6 x7
  else
    zGet (σ 19) 64 x7 fun v38 =>
    zCall (mR_traced N σ x5) fun v42 s42 =>
    if (v38 : Int32) = v42 then
      mR_missesBy_55 N hd8 hd26 s42 x1 x2 x3 x4 x5 x6 x7 x7
    else
      mR_missesBy_55 N hd8 hd26 s42 x1 x2 x3 x4 x5 x6 x7 x6
def mR_missesBy_26 (N : Nat) (hd8 : ST → Int32 → Int32 → Int32 → Int32 → Int32 → Option (Int32 × ST)) : ST → Int32 → Int32 → Int32 → Int32 → Int32 → Int32 → Int32 → Option (Int32 × ST) := zIt (mR_missesBy_B26 N hd8) (fun _ _ _ _ _ _ _ _ => none) N
set_option maxRecDepth 20000 in
set_option maxHeartbeats 2000000 in
theorem tR_missesBy_26 {adr : Nat → Nat} {cI cZ : ClassId} {X : zX} {q : Int32 × ST} (B : zC X 8 (wdR adr cI cZ) cX8_missesBy RX8 (some .int) { frames := 2, cells := 0, slots := 0, locals := 44 }) (N : Nat) (hd8 : ST → Int32 → Int32 → Int32 → Int32 → Int32 → Option (Int32 × ST)) (hh8 : ∀ (σ : ST) (x1 : Int32) (x2 : Int32) (x3 : Int32) (x4 : Int32) (x5 : Int32), hd8 σ x1 x2 x3 x4 x5 = some q → zJ X 8 (wdR adr cI cZ) (zi q) 8 [(0, .ref (adr 0)), (1, .int x1), (2, .int x2), (3, .int x3), (4, .int x4), (5, .int x5)] [] σ) : ∀ (σ : ST) (x1 : Int32) (x2 : Int32) (x3 : Int32) (x4 : Int32) (x5 : Int32) (x6 : Int32) (x7 : Int32), mR_missesBy_26 N hd8 σ x1 x2 x3 x4 x5 x6 x7 = some q → zJ X 8 (wdR adr cI cZ) (zi q) 26 [(0, .ref (adr 0)), (1, .int x1), (2, .int x2), (3, .int x3), (4, .int x4), (5, .int x5), (6, .int x6), (7, .int x7)] [] σ := by
  refine zIt_ind (P := fun (hd : ST → Int32 → Int32 → Int32 → Int32 → Int32 → Int32 → Int32 → Option (Int32 × ST)) => ∀ (σ : ST) (x1 : Int32) (x2 : Int32) (x3 : Int32) (x4 : Int32) (x5 : Int32) (x6 : Int32) (x7 : Int32), hd σ x1 x2 x3 x4 x5 x6 x7 = some q → zJ X 8 (wdR adr cI cZ) (zi q) 26 [(0, .ref (adr 0)), (1, .int x1), (2, .int x2), (3, .int x3), (4, .int x4), (5, .int x5), (6, .int x6), (7, .int x7)] [] σ) (fun _ _ _ _ _ _ _ _ hf => by cases hf) (fun hd26 hh26 => ?_) N
  intro σ x1 x2 x3 x4 x5 x6 x7 hf
  refine z_iload B dX8_missesBy_26 7 rfl ?_
  refine z_iload_n B dX8_missesBy_28 3 rfl rfl ?_
  refine z_icmp_ge B 63 dX8_missesBy_29 (by decide) hf (fun hf => ?_) (fun hf => ?_)
  · refine z_iload B dX8_missesBy_63 6 rfl ?_
    refine z_iconst B (-1) dX8_missesBy_65 zc_iconst_m1 ?_
    refine z_icmp_ne B 102 dX8_missesBy_66 (by decide) hf (fun hf => ?_) (fun hf => ?_)
    · exact tR_missesBy_102 B N hd8 hh8 σ x1 x2 x3 x4 x5 x6 x7 hf
    · refine z_iinc B (1) 4 (fun v69 => [(4, .int v69), (0, .ref (adr 0)), (1, .int x1), (2, .int x2), (3, .int x3), (5, .int x5), (6, .int x6), (7, .int x7)]) dX8_missesBy_69 hf zc_iconst_1 rfl (Nat.le_of_ble_eq_true rfl) (fun _ => rfl) (fun v69 hf => ?_)
      refine z_iload_n B dX8_missesBy_72 4 rfl rfl ?_
      refine z_iload_n B dX8_missesBy_73 2 rfl rfl ?_
      refine z_icmp_ge B 81 dX8_missesBy_74 (by decide) hf (fun hf => ?_) (fun hf => ?_)
      · refine z_aload_n B dX8_missesBy_81 1 rfl rfl ?_
        refine z_iload_n B dX8_missesBy_82 4 rfl rfl ?_
        refine z_iload_n B dX8_missesBy_83 3 rfl rfl ?_
        refine z_callVi B (As := [.int x3, .int x2]) kcV_X8_282 dX8_missesBy_84 hf (fun q hq => cR_outOf q hq) (wR_o (adr := adr) (cI := cI) (cZ := cZ)) rfl rfl rfl rfl (Nat.le_of_ble_eq_true rfl) rfl rfl ⟨Nat.le_of_ble_eq_true rfl, Nat.le_of_ble_eq_true rfl⟩ (fun v84 s84 hf => ?_)
        exact z_loc [1, 2, 3, 4, 0, 5, 6, 7] _ rfl (tR_missesBy_87 B N hd8 hh8 s84 x1 x2 x3 v69 x5 x6 x7 v84 hf)
      · refine z_iload_n B dX8_missesBy_77 4 rfl rfl ?_
        refine z_goto B 87 dX8_missesBy_78 (by decide) ?_
        exact z_loc [1, 2, 3, 4, 0, 5, 6, 7] _ rfl (tR_missesBy_87 B N hd8 hh8 σ x1 x2 x3 v69 x5 x6 x7 x3 hf)
  · refine z_aload_n B dX8_missesBy_32 0 rfl rfl ?_
    refine fR_g_lies B dX8_missesBy_33 ?_
    refine z_iload B dX8_missesBy_36 7 rfl ?_
    refine fR_l_lies B dX8_missesBy_38 hf (fun v38 hf => ?_)
    refine z_aload_n B dX8_missesBy_39 0 rfl rfl ?_
    refine z_iload B dX8_missesBy_40 5 rfl ?_
    refine z_callVi B (As := [.int x5]) kcV_X8_238 dX8_missesBy_42 hf (fun q hq => cR_traced q hq) (wR_o (adr := adr) (cI := cI) (cZ := cZ)) rfl rfl rfl rfl (Nat.le_of_ble_eq_true rfl) rfl rfl ⟨Nat.le_of_ble_eq_true rfl, Nat.le_of_ble_eq_true rfl⟩ (fun v42 s42 hf => ?_)
    refine z_icmp_ne B 53 dX8_missesBy_45 (by decide) hf (fun hf => ?_) (fun hf => ?_)
    · refine z_iload B dX8_missesBy_53 6 rfl ?_
      exact tR_missesBy_55 B N hd8 hh8 hd26 hh26 s42 x1 x2 x3 x4 x5 x6 x7 x6 hf
    · refine z_iload B dX8_missesBy_48 7 rfl ?_
      refine z_goto B 55 dX8_missesBy_50 (by decide) ?_
      exact tR_missesBy_55 B N hd8 hh8 hd26 hh26 s42 x1 x2 x3 x4 x5 x6 x7 x7 hf
def mR_missesBy_B8 (N : Nat) (hd8 : ST → Int32 → Int32 → Int32 → Int32 → Int32 → Option (Int32 × ST)) (σ : ST) (x1 : Int32) (x2 : Int32) (x3 : Int32) (x4 : Int32) (x5 : Int32) : Option (Int32 × ST) :=
  zGet (σ 1) 1974 (22) fun v16 =>
  if (v16 : Int32) ≤ x5 then
    some (x4, σ)
  else
    mR_missesBy_26 N hd8 σ x1 x2 x3 x4 x5 (-1) (0)
def mR_missesBy_8 (N : Nat) : ST → Int32 → Int32 → Int32 → Int32 → Int32 → Option (Int32 × ST) := zIt (mR_missesBy_B8 N) (fun _ _ _ _ _ _ => none) N
set_option maxRecDepth 20000 in
set_option maxHeartbeats 2000000 in
theorem tR_missesBy_8 {adr : Nat → Nat} {cI cZ : ClassId} {X : zX} {q : Int32 × ST} (B : zC X 8 (wdR adr cI cZ) cX8_missesBy RX8 (some .int) { frames := 2, cells := 0, slots := 0, locals := 44 }) (N : Nat) : ∀ (σ : ST) (x1 : Int32) (x2 : Int32) (x3 : Int32) (x4 : Int32) (x5 : Int32), mR_missesBy_8 N σ x1 x2 x3 x4 x5 = some q → zJ X 8 (wdR adr cI cZ) (zi q) 8 [(0, .ref (adr 0)), (1, .int x1), (2, .int x2), (3, .int x3), (4, .int x4), (5, .int x5)] [] σ := by
  refine zIt_ind (P := fun (hd : ST → Int32 → Int32 → Int32 → Int32 → Int32 → Option (Int32 × ST)) => ∀ (σ : ST) (x1 : Int32) (x2 : Int32) (x3 : Int32) (x4 : Int32) (x5 : Int32), hd σ x1 x2 x3 x4 x5 = some q → zJ X 8 (wdR adr cI cZ) (zi q) 8 [(0, .ref (adr 0)), (1, .int x1), (2, .int x2), (3, .int x3), (4, .int x4), (5, .int x5)] [] σ) (fun _ _ _ _ _ _ hf => by cases hf) (fun hd8 hh8 => ?_) N
  intro σ x1 x2 x3 x4 x5 hf
  refine z_iload B dX8_missesBy_8 5 rfl ?_
  refine z_aload_n B dX8_missesBy_10 0 rfl rfl ?_
  refine fR_g_row B dX8_missesBy_11 ?_
  refine z_bipush B (22) dX8_missesBy_14 zc_bipush_22 ?_
  refine fR_l_row B dX8_missesBy_16 hf (fun v16 hf => ?_)
  refine z_icmp_ge B 151 dX8_missesBy_17 (by decide) hf (fun hf => ?_) (fun hf => ?_)
  · refine z_iload B dX8_missesBy_151 4 rfl ?_
    exact z_ireturn B dX8_missesBy_153 hf
  · refine z_iconst B (-1) dX8_missesBy_20 zc_iconst_m1 ?_
    refine z_istore B [(6, .int (-1)), (0, .ref (adr 0)), (1, .int x1), (2, .int x2), (3, .int x3), (4, .int x4), (5, .int x5)] dX8_missesBy_21 (Nat.le_of_ble_eq_true rfl) rfl ?_
    refine z_iconst B (0) dX8_missesBy_23 zc_iconst_0 ?_
    refine z_istore B [(7, .int (0)), (6, .int (-1)), (0, .ref (adr 0)), (1, .int x1), (2, .int x2), (3, .int x3), (4, .int x4), (5, .int x5)] dX8_missesBy_24 (Nat.le_of_ble_eq_true rfl) rfl ?_
    exact z_loc [2, 3, 4, 5, 6, 7, 1, 0] _ rfl (tR_missesBy_26 B N hd8 hh8 σ x1 x2 x3 x4 x5 (-1) (0) hf)
def mR_missesBy (N : Nat) (σ : ST) (x1 : Int32) (x2 : Int32) : Option (Int32 × ST) :=
  mR_missesBy_8 N σ x1 x2 (0) (0) (0)
set_option maxRecDepth 20000 in
set_option maxHeartbeats 2000000 in
theorem cR_missesBy {adr : Nat → Nat} {cI cZ : ClassId} {l : Launch} {D : va_G} {N : Nat} {σ : ST} {x1 : Int32} {x2 : Int32} (q : Int32 × ST) (hf : mR_missesBy N σ x1 x2 = some q) : zM l D (wdR adr cI cZ) yX8_missesBy cX8_missesBy 8 (some .int) ({ frames := 2, cells := 0, slots := 0, locals := 44 }) [.ref (adr 0), .int x1, .int x2] σ (zi q) := by
  refine zM_of sfR_ok rfl (Nat.le_of_ble_eq_true rfl) [(0, .ref (adr 0)), (1, .int x1), (2, .int x2)] rfl (fun X hX1 hX2 B => ?_)
  have B : zC X 8 (wdR adr cI cZ) cX8_missesBy RX8 (some .int) { frames := 2, cells := 0, slots := 0, locals := 44 } := B
  refine z_iconst B (0) dX8_missesBy_0 zc_iconst_0 ?_
  refine z_istore_n B [(3, .int (0)), (0, .ref (adr 0)), (1, .int x1), (2, .int x2)] dX8_missesBy_1 rfl (Nat.le_of_ble_eq_true rfl) rfl ?_
  refine z_iconst B (0) dX8_missesBy_2 zc_iconst_0 ?_
  refine z_istore B [(4, .int (0)), (3, .int (0)), (0, .ref (adr 0)), (1, .int x1), (2, .int x2)] dX8_missesBy_3 (Nat.le_of_ble_eq_true rfl) rfl ?_
  refine z_iconst B (0) dX8_missesBy_5 zc_iconst_0 ?_
  refine z_istore B [(5, .int (0)), (4, .int (0)), (3, .int (0)), (0, .ref (adr 0)), (1, .int x1), (2, .int x2)] dX8_missesBy_6 (Nat.le_of_ble_eq_true rfl) rfl ?_
  exact z_loc [3, 4, 5, 2, 1, 0] _ rfl (tR_missesBy_8 B N σ x1 x2 (0) (0) (0) hf)
theorem dX8_misses_0 : decode cX8_misses 0 = .ok (.aload_n 0, 1) := by decide +kernel
theorem dX8_misses_1 : decode cX8_misses 1 = .ok (.iconst 0, 1) := by decide +kernel
theorem dX8_misses_2 : decode cX8_misses 2 = .ok (.putfield 67, 3) := by decide +kernel
theorem dX8_misses_5 : decode cX8_misses 5 = .ok (.iload_n 1, 1) := by decide +kernel
theorem dX8_misses_6 : decode cX8_misses 6 = .ok (.i2l, 1) := by decide +kernel
theorem dX8_misses_7 : decode cX8_misses 7 = .ok (.lconst 1, 1) := by decide +kernel
theorem dX8_misses_8 : decode cX8_misses 8 = .ok (.ldc2_w 216, 3) := by decide +kernel
theorem dX8_misses_11 : decode cX8_misses 11 = .ok (.invokestatic 71, 3) := by decide +kernel
theorem dX8_misses_14 : decode cX8_misses 14 = .ok (.ifCond .eq 22, 3) := by decide +kernel
theorem dX8_misses_17 : decode cX8_misses 17 = .ok (.iload_n 2, 1) := by decide +kernel
theorem dX8_misses_18 : decode cX8_misses 18 = .ok (.i2l, 1) := by decide +kernel
theorem dX8_misses_19 : decode cX8_misses 19 = .ok (.lconst 0, 1) := by decide +kernel
theorem dX8_misses_20 : decode cX8_misses 20 = .ok (.lconst 1, 1) := by decide +kernel
theorem dX8_misses_21 : decode cX8_misses 21 = .ok (.invokestatic 71, 3) := by decide +kernel
theorem dX8_misses_24 : decode cX8_misses 24 = .ok (.ifCond .eq 12, 3) := by decide +kernel
theorem dX8_misses_27 : decode cX8_misses 27 = .ok (.aload_n 0, 1) := by decide +kernel
theorem dX8_misses_28 : decode cX8_misses 28 = .ok (.iload_n 1, 1) := by decide +kernel
theorem dX8_misses_29 : decode cX8_misses 29 = .ok (.iload_n 2, 1) := by decide +kernel
theorem dX8_misses_30 : decode cX8_misses 30 = .ok (.invokevirtual 288, 3) := by decide +kernel
theorem dX8_misses_33 : decode cX8_misses 33 = .ok (.goto 4, 3) := by decide +kernel
theorem dX8_misses_36 : decode cX8_misses 36 = .ok (.iconst (-1), 1) := by decide +kernel
theorem dX8_misses_37 : decode cX8_misses 37 = .ok (.ireturn, 1) := by decide +kernel
def mR_misses_37 (N : Nat) (σ : ST) (x1 : Int32) (x2 : Int32) (k0 : Int32) : Option (Int32 × ST) :=
  some (k0, σ)
set_option maxRecDepth 20000 in
set_option maxHeartbeats 2000000 in
theorem tR_misses_37 {adr : Nat → Nat} {cI cZ : ClassId} {X : zX} {q : Int32 × ST} (B : zC X 3 (wdR adr cI cZ) cX8_misses RX8 (some .int) { frames := 3, cells := 0, slots := 0, locals := 71 }) (N : Nat) (σ : ST) (x1 : Int32) (x2 : Int32) (k0 : Int32) (hf : mR_misses_37 N σ x1 x2 k0 = some q) : zJ X 3 (wdR adr cI cZ) (zi q) 37 [(0, .ref (adr 0)), (1, .int x1), (2, .int x2)] [.int k0] σ := by
  exact z_ireturn B dX8_misses_37 hf
def mR_misses_36 (N : Nat) (σ : ST) (x1 : Int32) (x2 : Int32) : Option (Int32 × ST) :=
  mR_misses_37 N σ x1 x2 (-1)
set_option maxRecDepth 20000 in
set_option maxHeartbeats 2000000 in
theorem tR_misses_36 {adr : Nat → Nat} {cI cZ : ClassId} {X : zX} {q : Int32 × ST} (B : zC X 3 (wdR adr cI cZ) cX8_misses RX8 (some .int) { frames := 3, cells := 0, slots := 0, locals := 71 }) (N : Nat) (σ : ST) (x1 : Int32) (x2 : Int32) (hf : mR_misses_36 N σ x1 x2 = some q) : zJ X 3 (wdR adr cI cZ) (zi q) 36 [(0, .ref (adr 0)), (1, .int x1), (2, .int x2)] [] σ := by
  refine z_iconst B (-1) dX8_misses_36 zc_iconst_m1 ?_
  exact tR_misses_37 B N σ x1 x2 (-1) hf
def mR_misses (N : Nat) (σ : ST) (x1 : Int32) (x2 : Int32) : Option (Int32 × ST) :=
  zLet (zUp σ 0 0 (0)) fun s2 =>
  zLet ((x1 : Int32).toInt64) fun v6 =>
  zCall (mR_in N s2 v6 (1) (64)) fun v11 s11 =>
  if (v11 : Int32) = 0 then
    mR_misses_36 N s11 x1 x2
  else
    zLet ((x2 : Int32).toInt64) fun v18 =>
    zCall (mR_in N s11 v18 (0) (1)) fun v21 s21 =>
    if (v21 : Int32) = 0 then
      mR_misses_36 N s21 x1 x2
    else
      zCall (mR_missesBy N s21 x1 x2) fun v30 s30 =>
      mR_misses_37 N s30 x1 x2 v30
set_option maxRecDepth 20000 in
set_option maxHeartbeats 2000000 in
theorem cR_misses {adr : Nat → Nat} {cI cZ : ClassId} {l : Launch} {D : va_G} {N : Nat} {σ : ST} {x1 : Int32} {x2 : Int32} (q : Int32 × ST) (hf : mR_misses N σ x1 x2 = some q) : zM l D (wdR adr cI cZ) yX8_misses cX8_misses 3 (some .int) ({ frames := 3, cells := 0, slots := 0, locals := 71 }) [.ref (adr 0), .int x1, .int x2] σ (zi q) := by
  refine zM_of sfR_ok rfl (Nat.le_of_ble_eq_true rfl) [(0, .ref (adr 0)), (1, .int x1), (2, .int x2)] rfl (fun X hX1 hX2 B => ?_)
  have B : zC X 3 (wdR adr cI cZ) cX8_misses RX8 (some .int) { frames := 3, cells := 0, slots := 0, locals := 71 } := B
  refine z_aload_n B dX8_misses_0 0 rfl rfl ?_
  refine z_iconst B (0) dX8_misses_1 zc_iconst_0 ?_
  refine fR_p_thrown B dX8_misses_2 hf (fun s2 hf => ?_)
  refine z_iload_n B dX8_misses_5 1 rfl rfl ?_
  refine z_i2l B dX8_misses_6 hf (fun v6 hf => ?_)
  refine z_lconst B (1) dX8_misses_7 rfl ?_
  refine z_ldc2 B kw_1159 dX8_misses_8 ?_
  refine z_callSi B (As := [.long v6, .long (1), .long (64)]) kcS_X8_71 dX8_misses_11 hf (fun q hq => cR_in q hq) rfl rfl (Nat.le_of_ble_eq_true rfl) rfl rfl ⟨Nat.le_of_ble_eq_true rfl, Nat.le_of_ble_eq_true rfl⟩ (fun v11 s11 hf => ?_)
  refine z_if_eq B 36 dX8_misses_14 (by decide) hf (fun hf => ?_) (fun hf => ?_)
  · exact tR_misses_36 B N s11 x1 x2 hf
  · refine z_iload_n B dX8_misses_17 2 rfl rfl ?_
    refine z_i2l B dX8_misses_18 hf (fun v18 hf => ?_)
    refine z_lconst B (0) dX8_misses_19 rfl ?_
    refine z_lconst B (1) dX8_misses_20 rfl ?_
    refine z_callSi B (As := [.long v18, .long (0), .long (1)]) kcS_X8_71 dX8_misses_21 hf (fun q hq => cR_in q hq) rfl rfl (Nat.le_of_ble_eq_true rfl) rfl rfl ⟨Nat.le_of_ble_eq_true rfl, Nat.le_of_ble_eq_true rfl⟩ (fun v21 s21 hf => ?_)
    refine z_if_eq B 36 dX8_misses_24 (by decide) hf (fun hf => ?_) (fun hf => ?_)
    · exact tR_misses_36 B N s21 x1 x2 hf
    · refine z_aload_n B dX8_misses_27 0 rfl rfl ?_
      refine z_iload_n B dX8_misses_28 1 rfl rfl ?_
      refine z_iload_n B dX8_misses_29 2 rfl rfl ?_
      refine z_callVi B (As := [.int x1, .int x2]) kcV_X8_288 dX8_misses_30 hf (fun q hq => cR_missesBy q hq) (wR_o (adr := adr) (cI := cI) (cZ := cZ)) rfl rfl rfl rfl (Nat.le_of_ble_eq_true rfl) rfl rfl ⟨Nat.le_of_ble_eq_true rfl, Nat.le_of_ble_eq_true rfl⟩ (fun v30 s30 hf => ?_)
      refine z_goto B 37 dX8_misses_33 (by decide) ?_
      exact tR_misses_37 B N s30 x1 x2 v30 hf
theorem dX8_gain_0 : decode cX8_gain 0 = .ok (.aload_n 0, 1) := by decide +kernel
theorem dX8_gain_1 : decode cX8_gain 1 = .ok (.iconst 0, 1) := by decide +kernel
theorem dX8_gain_2 : decode cX8_gain 2 = .ok (.putfield 67, 3) := by decide +kernel
theorem dX8_gain_5 : decode cX8_gain 5 = .ok (.iload_n 1, 1) := by decide +kernel
theorem dX8_gain_6 : decode cX8_gain 6 = .ok (.i2l, 1) := by decide +kernel
theorem dX8_gain_7 : decode cX8_gain 7 = .ok (.lconst 0, 1) := by decide +kernel
theorem dX8_gain_8 : decode cX8_gain 8 = .ok (.ldc2_w 244, 3) := by decide +kernel
theorem dX8_gain_11 : decode cX8_gain 11 = .ok (.invokestatic 71, 3) := by decide +kernel
theorem dX8_gain_14 : decode cX8_gain 14 = .ok (.ifCond .ne 6, 3) := by decide +kernel
theorem dX8_gain_17 : decode cX8_gain 17 = .ok (.ldc 235, 2) := by decide +kernel
theorem dX8_gain_19 : decode cX8_gain 19 = .ok (.ireturn, 1) := by decide +kernel
theorem dX8_gain_20 : decode cX8_gain 20 = .ok (.iload_n 1, 1) := by decide +kernel
theorem dX8_gain_21 : decode cX8_gain 21 = .ok (.ifCond .le 46, 3) := by decide +kernel
theorem dX8_gain_24 : decode cX8_gain 24 = .ok (.aload_n 0, 1) := by decide +kernel
theorem dX8_gain_25 : decode cX8_gain 25 = .ok (.getfield 9, 3) := by decide +kernel
theorem dX8_gain_28 : decode cX8_gain 28 = .ok (.bipush 15, 2) := by decide +kernel
theorem dX8_gain_30 : decode cX8_gain 30 = .ok (.iaload, 1) := by decide +kernel
theorem dX8_gain_31 : decode cX8_gain 31 = .ok (.ifCond .ne 7, 3) := by decide +kernel
theorem dX8_gain_34 : decode cX8_gain 34 = .ok (.iconst (-1), 1) := by decide +kernel
theorem dX8_gain_35 : decode cX8_gain 35 = .ok (.goto 31, 3) := by decide +kernel
theorem dX8_gain_38 : decode cX8_gain 38 = .ok (.bipush 100, 2) := by decide +kernel
theorem dX8_gain_40 : decode cX8_gain 40 = .ok (.aload_n 0, 1) := by decide +kernel
theorem dX8_gain_41 : decode cX8_gain 41 = .ok (.getfield 9, 3) := by decide +kernel
theorem dX8_gain_44 : decode cX8_gain 44 = .ok (.iload_n 1, 1) := by decide +kernel
theorem dX8_gain_45 : decode cX8_gain 45 = .ok (.iconst 1, 1) := by decide +kernel
theorem dX8_gain_46 : decode cX8_gain 46 = .ok (.if_icmp .ne 8, 3) := by decide +kernel
theorem dX8_gain_49 : decode cX8_gain 49 = .ok (.bipush 14, 2) := by decide +kernel
theorem dX8_gain_51 : decode cX8_gain 51 = .ok (.goto 5, 3) := by decide +kernel
theorem dX8_gain_54 : decode cX8_gain 54 = .ok (.bipush 16, 2) := by decide +kernel
theorem dX8_gain_56 : decode cX8_gain 56 = .ok (.iaload, 1) := by decide +kernel
theorem dX8_gain_57 : decode cX8_gain 57 = .ok (.imul, 1) := by decide +kernel
theorem dX8_gain_58 : decode cX8_gain 58 = .ok (.aload_n 0, 1) := by decide +kernel
theorem dX8_gain_59 : decode cX8_gain 59 = .ok (.getfield 9, 3) := by decide +kernel
theorem dX8_gain_62 : decode cX8_gain 62 = .ok (.bipush 15, 2) := by decide +kernel
theorem dX8_gain_64 : decode cX8_gain 64 = .ok (.iaload, 1) := by decide +kernel
theorem dX8_gain_65 : decode cX8_gain 65 = .ok (.idiv, 1) := by decide +kernel
theorem dX8_gain_66 : decode cX8_gain 66 = .ok (.ireturn, 1) := by decide +kernel
theorem dX8_gain_67 : decode cX8_gain 67 = .ok (.aload_n 0, 1) := by decide +kernel
theorem dX8_gain_68 : decode cX8_gain 68 = .ok (.aload_n 0, 1) := by decide +kernel
theorem dX8_gain_69 : decode cX8_gain 69 = .ok (.getfield 9, 3) := by decide +kernel
theorem dX8_gain_72 : decode cX8_gain 72 = .ok (.iconst 0, 1) := by decide +kernel
theorem dX8_gain_73 : decode cX8_gain 73 = .ok (.iaload, 1) := by decide +kernel
theorem dX8_gain_74 : decode cX8_gain 74 = .ok (.iconst 0, 1) := by decide +kernel
theorem dX8_gain_75 : decode cX8_gain 75 = .ok (.invokevirtual 288, 3) := by decide +kernel
theorem dX8_gain_78 : decode cX8_gain 78 = .ok (.istore_n 2, 1) := by decide +kernel
theorem dX8_gain_79 : decode cX8_gain 79 = .ok (.aload_n 0, 1) := by decide +kernel
theorem dX8_gain_80 : decode cX8_gain 80 = .ok (.invokevirtual 261, 3) := by decide +kernel
theorem dX8_gain_83 : decode cX8_gain 83 = .ok (.aload_n 0, 1) := by decide +kernel
theorem dX8_gain_84 : decode cX8_gain 84 = .ok (.invokevirtual 276, 3) := by decide +kernel
theorem dX8_gain_87 : decode cX8_gain 87 = .ok (.aload_n 0, 1) := by decide +kernel
theorem dX8_gain_88 : decode cX8_gain 88 = .ok (.invokevirtual 279, 3) := by decide +kernel
theorem dX8_gain_91 : decode cX8_gain 91 = .ok (.aload_n 0, 1) := by decide +kernel
theorem dX8_gain_92 : decode cX8_gain 92 = .ok (.getfield 9, 3) := by decide +kernel
theorem dX8_gain_95 : decode cX8_gain 95 = .ok (.bipush 12, 2) := by decide +kernel
theorem dX8_gain_97 : decode cX8_gain 97 = .ok (.iaload, 1) := by decide +kernel
theorem dX8_gain_98 : decode cX8_gain 98 = .ok (.istore_n 3, 1) := by decide +kernel
theorem dX8_gain_99 : decode cX8_gain 99 = .ok (.aload_n 0, 1) := by decide +kernel
theorem dX8_gain_100 : decode cX8_gain 100 = .ok (.invokevirtual 264, 3) := by decide +kernel
theorem dX8_gain_103 : decode cX8_gain 103 = .ok (.iload_n 2, 1) := by decide +kernel
theorem dX8_gain_104 : decode cX8_gain 104 = .ok (.iload_n 3, 1) := by decide +kernel
theorem dX8_gain_105 : decode cX8_gain 105 = .ok (.isub, 1) := by decide +kernel
theorem dX8_gain_106 : decode cX8_gain 106 = .ok (.ireturn, 1) := by decide +kernel
def mR_gain_66 (N : Nat) (σ : ST) (x1 : Int32) (k0 : Int32) : Option (Int32 × ST) :=
  some (k0, σ)
set_option maxRecDepth 20000 in
set_option maxHeartbeats 2000000 in
theorem tR_gain_66 {adr : Nat → Nat} {cI cZ : ClassId} {X : zX} {q : Int32 × ST} (B : zC X 4 (wdR adr cI cZ) cX8_gain RX8 (some .int) { frames := 10, cells := 0, slots := 0, locals := 228 }) (N : Nat) (σ : ST) (x1 : Int32) (k0 : Int32) (hf : mR_gain_66 N σ x1 k0 = some q) : zJ X 4 (wdR adr cI cZ) (zi q) 66 [(0, .ref (adr 0)), (1, .int x1)] [.int k0] σ := by
  exact z_ireturn B dX8_gain_66 hf
def mR_gain_56 (N : Nat) (σ : ST) (x1 : Int32) (k0 : Int32) (k2 : Int32) : Option (Int32 × ST) :=
  zGet (σ 1) 1974 k2 fun v56 =>
  zLet ((k0 : Int32) * v56) fun v57 =>
  zGet (σ 1) 1974 (15) fun v64 =>
  zDiv v57 v64 fun v65 =>
  mR_gain_66 N σ x1 v65
set_option maxRecDepth 20000 in
set_option maxHeartbeats 2000000 in
theorem tR_gain_56 {adr : Nat → Nat} {cI cZ : ClassId} {X : zX} {q : Int32 × ST} (B : zC X 4 (wdR adr cI cZ) cX8_gain RX8 (some .int) { frames := 10, cells := 0, slots := 0, locals := 228 }) (N : Nat) (σ : ST) (x1 : Int32) (k0 : Int32) (k2 : Int32) (hf : mR_gain_56 N σ x1 k0 k2 = some q) : zJ X 4 (wdR adr cI cZ) (zi q) 56 [(0, .ref (adr 0)), (1, .int x1)] [.int k2, .ref (adr 1), .int k0] σ := by
  refine fR_l_row B dX8_gain_56 hf (fun v56 hf => ?_)
  refine z_imul B dX8_gain_57 hf (fun v57 hf => ?_)
  refine z_aload_n B dX8_gain_58 0 rfl rfl ?_
  refine fR_g_row B dX8_gain_59 ?_
  refine z_bipush B (15) dX8_gain_62 zc_bipush_15 ?_
  refine fR_l_row B dX8_gain_64 hf (fun v64 hf => ?_)
  refine z_idiv B dX8_gain_65 hf (fun v65 hf => ?_)
  exact tR_gain_66 B N σ x1 v65 hf
def mR_gain (N : Nat) (σ : ST) (x1 : Int32) : Option (Int32 × ST) :=
  zLet (zUp σ 0 0 (0)) fun s2 =>
  zLet ((x1 : Int32).toInt64) fun v6 =>
  zCall (mR_in N s2 v6 (0) (2)) fun v11 s11 =>
  if (v11 : Int32) = 0 then
    some ((-2147483648), s11)
  else
    if (x1 : Int32) ≤ 0 then
      zGet (s11 1) 1974 (0) fun v73 =>
      zCall (mR_missesBy N s11 v73 (0)) fun v75 s75 =>
      zCallu (mR_think N s75) fun s80 =>
      zCallu (mR_takeTrace N s80) fun s84 =>
      zCallu (mR_readAnew N s84) fun s88 =>
      zGet (s88 1) 1974 (12) fun v97 =>
      zCallu (mR_endThought N s88) fun s100 =>
      zLet ((v75 : Int32) - v97) fun v105 =>
      some (v105, s100)
    else
      zGet (s11 1) 1974 (15) fun v30 =>
      if (v30 : Int32) = 0 then
        mR_gain_66 N s11 x1 (-1)
      else
        if (x1 : Int32) = (1) then
          mR_gain_56 N s11 x1 (100) (14)
        else
          mR_gain_56 N s11 x1 (100) (16)
set_option maxRecDepth 20000 in
set_option maxHeartbeats 2000000 in
theorem cR_gain {adr : Nat → Nat} {cI cZ : ClassId} {l : Launch} {D : va_G} {N : Nat} {σ : ST} {x1 : Int32} (q : Int32 × ST) (hf : mR_gain N σ x1 = some q) : zM l D (wdR adr cI cZ) yX8_gain cX8_gain 4 (some .int) ({ frames := 10, cells := 0, slots := 0, locals := 228 }) [.ref (adr 0), .int x1] σ (zi q) := by
  refine zM_of sfR_ok rfl (Nat.le_of_ble_eq_true rfl) [(0, .ref (adr 0)), (1, .int x1)] rfl (fun X hX1 hX2 B => ?_)
  have B : zC X 4 (wdR adr cI cZ) cX8_gain RX8 (some .int) { frames := 10, cells := 0, slots := 0, locals := 228 } := B
  refine z_aload_n B dX8_gain_0 0 rfl rfl ?_
  refine z_iconst B (0) dX8_gain_1 zc_iconst_0 ?_
  refine fR_p_thrown B dX8_gain_2 hf (fun s2 hf => ?_)
  refine z_iload_n B dX8_gain_5 1 rfl rfl ?_
  refine z_i2l B dX8_gain_6 hf (fun v6 hf => ?_)
  refine z_lconst B (0) dX8_gain_7 rfl ?_
  refine z_ldc2 B kw_1238 dX8_gain_8 ?_
  refine z_callSi B (As := [.long v6, .long (0), .long (2)]) kcS_X8_71 dX8_gain_11 hf (fun q hq => cR_in q hq) rfl rfl (Nat.le_of_ble_eq_true rfl) rfl rfl ⟨Nat.le_of_ble_eq_true rfl, Nat.le_of_ble_eq_true rfl⟩ (fun v11 s11 hf => ?_)
  refine z_if_ne B 20 dX8_gain_14 (by decide) hf (fun hf => ?_) (fun hf => ?_)
  · refine z_iload_n B dX8_gain_20 1 rfl rfl ?_
    refine z_if_le B 67 dX8_gain_21 (by decide) hf (fun hf => ?_) (fun hf => ?_)
    · refine z_aload_n B dX8_gain_67 0 rfl rfl ?_
      refine z_aload_n B dX8_gain_68 0 rfl rfl ?_
      refine fR_g_row B dX8_gain_69 ?_
      refine z_iconst B (0) dX8_gain_72 zc_iconst_0 ?_
      refine fR_l_row B dX8_gain_73 hf (fun v73 hf => ?_)
      refine z_iconst B (0) dX8_gain_74 zc_iconst_0 ?_
      refine z_callVi B (As := [.int v73, .int (0)]) kcV_X8_288 dX8_gain_75 hf (fun q hq => cR_missesBy q hq) (wR_o (adr := adr) (cI := cI) (cZ := cZ)) rfl rfl rfl rfl (Nat.le_of_ble_eq_true rfl) rfl rfl ⟨Nat.le_of_ble_eq_true rfl, Nat.le_of_ble_eq_true rfl⟩ (fun v75 s75 hf => ?_)
      refine z_istore_n B [(2, .int v75), (0, .ref (adr 0)), (1, .int x1)] dX8_gain_78 rfl (Nat.le_of_ble_eq_true rfl) rfl ?_
      refine z_aload_n B dX8_gain_79 1 rfl rfl ?_
      refine z_callVu B (As := []) kcV_X8_261 dX8_gain_80 hf (fun q hq => cR_think q hq) (wR_o (adr := adr) (cI := cI) (cZ := cZ)) rfl rfl rfl rfl (Nat.le_of_ble_eq_true rfl) rfl rfl ⟨Nat.le_of_ble_eq_true rfl, Nat.le_of_ble_eq_true rfl⟩ (fun s80 hf => ?_)
      refine z_aload_n B dX8_gain_83 1 rfl rfl ?_
      refine z_callVu B (As := []) kcV_X8_276 dX8_gain_84 hf (fun q hq => cR_takeTrace q hq) (wR_o (adr := adr) (cI := cI) (cZ := cZ)) rfl rfl rfl rfl (Nat.le_of_ble_eq_true rfl) rfl rfl ⟨Nat.le_of_ble_eq_true rfl, Nat.le_of_ble_eq_true rfl⟩ (fun s84 hf => ?_)
      refine z_aload_n B dX8_gain_87 1 rfl rfl ?_
      refine z_callVu B (As := []) kcV_X8_279 dX8_gain_88 hf (fun q hq => cR_readAnew q hq) (wR_o (adr := adr) (cI := cI) (cZ := cZ)) rfl rfl rfl rfl (Nat.le_of_ble_eq_true rfl) rfl rfl ⟨Nat.le_of_ble_eq_true rfl, Nat.le_of_ble_eq_true rfl⟩ (fun s88 hf => ?_)
      refine z_aload_n B dX8_gain_91 1 rfl rfl ?_
      refine fR_g_row B dX8_gain_92 ?_
      refine z_bipush B (12) dX8_gain_95 zc_bipush_12 ?_
      refine fR_l_row B dX8_gain_97 hf (fun v97 hf => ?_)
      refine z_istore_n B [(3, .int v97), (2, .int v75), (0, .ref (adr 0)), (1, .int x1)] dX8_gain_98 rfl (Nat.le_of_ble_eq_true rfl) rfl ?_
      refine z_aload_n B dX8_gain_99 2 rfl rfl ?_
      refine z_callVu B (As := []) kcV_X8_264 dX8_gain_100 hf (fun q hq => cR_endThought q hq) (wR_o (adr := adr) (cI := cI) (cZ := cZ)) rfl rfl rfl rfl (Nat.le_of_ble_eq_true rfl) rfl rfl ⟨Nat.le_of_ble_eq_true rfl, Nat.le_of_ble_eq_true rfl⟩ (fun s100 hf => ?_)
      refine z_iload_n B dX8_gain_103 1 rfl rfl ?_
      refine z_iload_n B dX8_gain_104 0 rfl rfl ?_
      refine z_isub B dX8_gain_105 hf (fun v105 hf => ?_)
      exact z_ireturn B dX8_gain_106 hf
    · refine z_aload_n B dX8_gain_24 0 rfl rfl ?_
      refine fR_g_row B dX8_gain_25 ?_
      refine z_bipush B (15) dX8_gain_28 zc_bipush_15 ?_
      refine fR_l_row B dX8_gain_30 hf (fun v30 hf => ?_)
      refine z_if_ne B 38 dX8_gain_31 (by decide) hf (fun hf => ?_) (fun hf => ?_)
      · refine z_bipush B (100) dX8_gain_38 zc_bipush_100 ?_
        refine z_aload_n B dX8_gain_40 0 rfl rfl ?_
        refine fR_g_row B dX8_gain_41 ?_
        refine z_iload_n B dX8_gain_44 1 rfl rfl ?_
        refine z_iconst B (1) dX8_gain_45 zc_iconst_1 ?_
        refine z_icmp_ne B 54 dX8_gain_46 (by decide) hf (fun hf => ?_) (fun hf => ?_)
        · refine z_bipush B (16) dX8_gain_54 zc_bipush_16 ?_
          exact tR_gain_56 B N s11 x1 (100) (16) hf
        · refine z_bipush B (14) dX8_gain_49 zc_bipush_14 ?_
          refine z_goto B 56 dX8_gain_51 (by decide) ?_
          exact tR_gain_56 B N s11 x1 (100) (14) hf
      · refine z_iconst B (-1) dX8_gain_34 zc_iconst_m1 ?_
        refine z_goto B 66 dX8_gain_35 (by decide) ?_
        exact tR_gain_66 B N s11 x1 (-1) hf
  · refine z_ldc B kw_1208 dX8_gain_17 ?_
    exact z_ireturn B dX8_gain_19 hf
theorem dX8_isRead_0 : decode cX8_isRead 0 = .ok (.iconst 0, 1) := by decide +kernel
theorem dX8_isRead_1 : decode cX8_isRead 1 = .ok (.istore_n 3, 1) := by decide +kernel
theorem dX8_isRead_2 : decode cX8_isRead 2 = .ok (.iload_n 3, 1) := by decide +kernel
theorem dX8_isRead_3 : decode cX8_isRead 3 = .ok (.iload_n 2, 1) := by decide +kernel
theorem dX8_isRead_4 : decode cX8_isRead 4 = .ok (.if_icmp .ge 20, 3) := by decide +kernel
theorem dX8_isRead_7 : decode cX8_isRead 7 = .ok (.aload_n 0, 1) := by decide +kernel
theorem dX8_isRead_8 : decode cX8_isRead 8 = .ok (.iload_n 3, 1) := by decide +kernel
theorem dX8_isRead_9 : decode cX8_isRead 9 = .ok (.invokevirtual 238, 3) := by decide +kernel
theorem dX8_isRead_12 : decode cX8_isRead 12 = .ok (.iload_n 1, 1) := by decide +kernel
theorem dX8_isRead_13 : decode cX8_isRead 13 = .ok (.if_icmp .ne 5, 3) := by decide +kernel
theorem dX8_isRead_16 : decode cX8_isRead 16 = .ok (.iconst 1, 1) := by decide +kernel
theorem dX8_isRead_17 : decode cX8_isRead 17 = .ok (.ireturn, 1) := by decide +kernel
theorem dX8_isRead_18 : decode cX8_isRead 18 = .ok (.iinc 3 1, 3) := by decide +kernel
theorem dX8_isRead_21 : decode cX8_isRead 21 = .ok (.goto (-19), 3) := by decide +kernel
theorem dX8_isRead_24 : decode cX8_isRead 24 = .ok (.iconst 0, 1) := by decide +kernel
theorem dX8_isRead_25 : decode cX8_isRead 25 = .ok (.ireturn, 1) := by decide +kernel
def mR_isRead_B2 (N : Nat) (hd2 : ST → Int32 → Int32 → Int32 → Option (Int32 × ST)) (σ : ST) (x1 : Int32) (x2 : Int32) (x3 : Int32) : Option (Int32 × ST) :=
  if (x2 : Int32) ≤ x3 then
    zBool (0) (some ((0), σ))
  else
    zCall (mR_traced N σ x3) fun v9 s9 =>
    if (v9 : Int32) = x1 then
      zBool (1) (some ((1), s9))
    else
      zLet (x3 + (1)) fun v18 =>
      hd2 s9 x1 x2 v18
def mR_isRead_2 (N : Nat) : ST → Int32 → Int32 → Int32 → Option (Int32 × ST) := zIt (mR_isRead_B2 N) (fun _ _ _ _ => none) N
set_option maxRecDepth 20000 in
set_option maxHeartbeats 2000000 in
theorem tR_isRead_2 {adr : Nat → Nat} {cI cZ : ClassId} {X : zX} {q : Int32 × ST} (B : zC X 4 (wdR adr cI cZ) cX8_isRead RX8 (some .boolean) { frames := 1, cells := 0, slots := 0, locals := 21 }) (N : Nat) : ∀ (σ : ST) (x1 : Int32) (x2 : Int32) (x3 : Int32), mR_isRead_2 N σ x1 x2 x3 = some q → zJ X 4 (wdR adr cI cZ) (zi q) 2 [(0, .ref (adr 0)), (1, .int x1), (2, .int x2), (3, .int x3)] [] σ := by
  refine zIt_ind (P := fun (hd : ST → Int32 → Int32 → Int32 → Option (Int32 × ST)) => ∀ (σ : ST) (x1 : Int32) (x2 : Int32) (x3 : Int32), hd σ x1 x2 x3 = some q → zJ X 4 (wdR adr cI cZ) (zi q) 2 [(0, .ref (adr 0)), (1, .int x1), (2, .int x2), (3, .int x3)] [] σ) (fun _ _ _ _ hf => by cases hf) (fun hd2 hh2 => ?_) N
  intro σ x1 x2 x3 hf
  refine z_iload_n B dX8_isRead_2 3 rfl rfl ?_
  refine z_iload_n B dX8_isRead_3 2 rfl rfl ?_
  refine z_icmp_ge B 24 dX8_isRead_4 (by decide) hf (fun hf => ?_) (fun hf => ?_)
  · refine z_iconst B (0) dX8_isRead_24 zc_iconst_0 ?_
    exact z_zreturn B dX8_isRead_25 hf
  · refine z_aload_n B dX8_isRead_7 0 rfl rfl ?_
    refine z_iload_n B dX8_isRead_8 3 rfl rfl ?_
    refine z_callVi B (As := [.int x3]) kcV_X8_238 dX8_isRead_9 hf (fun q hq => cR_traced q hq) (wR_o (adr := adr) (cI := cI) (cZ := cZ)) rfl rfl rfl rfl (Nat.le_of_ble_eq_true rfl) rfl rfl ⟨Nat.le_of_ble_eq_true rfl, Nat.le_of_ble_eq_true rfl⟩ (fun v9 s9 hf => ?_)
    refine z_iload_n B dX8_isRead_12 1 rfl rfl ?_
    refine z_icmp_ne B 18 dX8_isRead_13 (by decide) hf (fun hf => ?_) (fun hf => ?_)
    · refine z_iinc B (1) 3 (fun v18 => [(3, .int v18), (0, .ref (adr 0)), (1, .int x1), (2, .int x2)]) dX8_isRead_18 hf zc_iconst_1 rfl (Nat.le_of_ble_eq_true rfl) (fun _ => rfl) (fun v18 hf => ?_)
      refine z_goto B 2 dX8_isRead_21 (by decide) ?_
      exact z_loc [1, 2, 3, 0] _ rfl (hh2 s9 x1 x2 v18 hf)
    · refine z_iconst B (1) dX8_isRead_16 zc_iconst_1 ?_
      exact z_zreturn B dX8_isRead_17 hf
def mR_isRead (N : Nat) (σ : ST) (x1 : Int32) (x2 : Int32) : Option (Int32 × ST) :=
  mR_isRead_2 N σ x1 x2 (0)
set_option maxRecDepth 20000 in
set_option maxHeartbeats 2000000 in
theorem cR_isRead {adr : Nat → Nat} {cI cZ : ClassId} {l : Launch} {D : va_G} {N : Nat} {σ : ST} {x1 : Int32} {x2 : Int32} (q : Int32 × ST) (hf : mR_isRead N σ x1 x2 = some q) : zM l D (wdR adr cI cZ) yX8_isRead cX8_isRead 4 (some .boolean) ({ frames := 1, cells := 0, slots := 0, locals := 21 }) [.ref (adr 0), .int x1, .int x2] σ (zi q) := by
  refine zM_of sfR_ok rfl (Nat.le_of_ble_eq_true rfl) [(0, .ref (adr 0)), (1, .int x1), (2, .int x2)] rfl (fun X hX1 hX2 B => ?_)
  have B : zC X 4 (wdR adr cI cZ) cX8_isRead RX8 (some .boolean) { frames := 1, cells := 0, slots := 0, locals := 21 } := B
  refine z_iconst B (0) dX8_isRead_0 zc_iconst_0 ?_
  refine z_istore_n B [(3, .int (0)), (0, .ref (adr 0)), (1, .int x1), (2, .int x2)] dX8_isRead_1 rfl (Nat.le_of_ble_eq_true rfl) rfl ?_
  exact z_loc [1, 2, 3, 0] _ rfl (tR_isRead_2 B N σ x1 x2 (0) hf)
theorem dX8_layRow_0 : decode cX8_layRow 0 = .ok (.iconst 0, 1) := by decide +kernel
theorem dX8_layRow_1 : decode cX8_layRow 1 = .ok (.istore_n 2, 1) := by decide +kernel
theorem dX8_layRow_2 : decode cX8_layRow 2 = .ok (.iload_n 2, 1) := by decide +kernel
theorem dX8_layRow_3 : decode cX8_layRow 3 = .ok (.aload_n 0, 1) := by decide +kernel
theorem dX8_layRow_4 : decode cX8_layRow 4 = .ok (.getfield 9, 3) := by decide +kernel
theorem dX8_layRow_7 : decode cX8_layRow 7 = .ok (.bipush 22, 2) := by decide +kernel
theorem dX8_layRow_9 : decode cX8_layRow 9 = .ok (.iaload, 1) := by decide +kernel
theorem dX8_layRow_10 : decode cX8_layRow 10 = .ok (.if_icmp .ge 20, 3) := by decide +kernel
theorem dX8_layRow_13 : decode cX8_layRow 13 = .ok (.aload_n 0, 1) := by decide +kernel
theorem dX8_layRow_14 : decode cX8_layRow 14 = .ok (.getfield 55, 3) := by decide +kernel
theorem dX8_layRow_17 : decode cX8_layRow 17 = .ok (.aload_n 0, 1) := by decide +kernel
theorem dX8_layRow_18 : decode cX8_layRow 18 = .ok (.iload_n 2, 1) := by decide +kernel
theorem dX8_layRow_19 : decode cX8_layRow 19 = .ok (.invokevirtual 238, 3) := by decide +kernel
theorem dX8_layRow_22 : decode cX8_layRow 22 = .ok (.iconst 0, 1) := by decide +kernel
theorem dX8_layRow_23 : decode cX8_layRow 23 = .ok (.iastore, 1) := by decide +kernel
theorem dX8_layRow_24 : decode cX8_layRow 24 = .ok (.iinc 2 1, 3) := by decide +kernel
theorem dX8_layRow_27 : decode cX8_layRow 27 = .ok (.goto (-25), 3) := by decide +kernel
theorem dX8_layRow_30 : decode cX8_layRow 30 = .ok (.aload_n 0, 1) := by decide +kernel
theorem dX8_layRow_31 : decode cX8_layRow 31 = .ok (.iconst 0, 1) := by decide +kernel
theorem dX8_layRow_32 : decode cX8_layRow 32 = .ok (.putfield 291, 3) := by decide +kernel
theorem dX8_layRow_35 : decode cX8_layRow 35 = .ok (.iconst 0, 1) := by decide +kernel
theorem dX8_layRow_36 : decode cX8_layRow 36 = .ok (.istore_n 2, 1) := by decide +kernel
theorem dX8_layRow_37 : decode cX8_layRow 37 = .ok (.iload_n 2, 1) := by decide +kernel
theorem dX8_layRow_38 : decode cX8_layRow 38 = .ok (.aload_n 0, 1) := by decide +kernel
theorem dX8_layRow_39 : decode cX8_layRow 39 = .ok (.getfield 9, 3) := by decide +kernel
theorem dX8_layRow_42 : decode cX8_layRow 42 = .ok (.bipush 22, 2) := by decide +kernel
theorem dX8_layRow_44 : decode cX8_layRow 44 = .ok (.iaload, 1) := by decide +kernel
theorem dX8_layRow_45 : decode cX8_layRow 45 = .ok (.if_icmp .ge 83, 3) := by decide +kernel
theorem dX8_layRow_48 : decode cX8_layRow 48 = .ok (.aload_n 0, 1) := by decide +kernel
theorem dX8_layRow_49 : decode cX8_layRow 49 = .ok (.iload_n 2, 1) := by decide +kernel
theorem dX8_layRow_50 : decode cX8_layRow 50 = .ok (.invokevirtual 238, 3) := by decide +kernel
theorem dX8_layRow_53 : decode cX8_layRow 53 = .ok (.istore_n 3, 1) := by decide +kernel
theorem dX8_layRow_54 : decode cX8_layRow 54 = .ok (.aload_n 0, 1) := by decide +kernel
theorem dX8_layRow_55 : decode cX8_layRow 55 = .ok (.getfield 55, 3) := by decide +kernel
theorem dX8_layRow_58 : decode cX8_layRow 58 = .ok (.iload_n 3, 1) := by decide +kernel
theorem dX8_layRow_59 : decode cX8_layRow 59 = .ok (.aload_n 0, 1) := by decide +kernel
theorem dX8_layRow_60 : decode cX8_layRow 60 = .ok (.iload_n 3, 1) := by decide +kernel
theorem dX8_layRow_61 : decode cX8_layRow 61 = .ok (.iload_n 1, 1) := by decide +kernel
theorem dX8_layRow_62 : decode cX8_layRow 62 = .ok (.isub, 1) := by decide +kernel
theorem dX8_layRow_63 : decode cX8_layRow 63 = .ok (.iload_n 2, 1) := by decide +kernel
theorem dX8_layRow_64 : decode cX8_layRow 64 = .ok (.invokevirtual 294, 3) := by decide +kernel
theorem dX8_layRow_67 : decode cX8_layRow 67 = .ok (.ifCond .eq 16, 3) := by decide +kernel
theorem dX8_layRow_70 : decode cX8_layRow 70 = .ok (.aload_n 0, 1) := by decide +kernel
theorem dX8_layRow_71 : decode cX8_layRow 71 = .ok (.getfield 55, 3) := by decide +kernel
theorem dX8_layRow_74 : decode cX8_layRow 74 = .ok (.iload_n 3, 1) := by decide +kernel
theorem dX8_layRow_75 : decode cX8_layRow 75 = .ok (.iload_n 1, 1) := by decide +kernel
theorem dX8_layRow_76 : decode cX8_layRow 76 = .ok (.isub, 1) := by decide +kernel
theorem dX8_layRow_77 : decode cX8_layRow 77 = .ok (.iaload, 1) := by decide +kernel
theorem dX8_layRow_78 : decode cX8_layRow 78 = .ok (.iconst 1, 1) := by decide +kernel
theorem dX8_layRow_79 : decode cX8_layRow 79 = .ok (.iadd, 1) := by decide +kernel
theorem dX8_layRow_80 : decode cX8_layRow 80 = .ok (.goto 4, 3) := by decide +kernel
theorem dX8_layRow_83 : decode cX8_layRow 83 = .ok (.iconst 1, 1) := by decide +kernel
theorem dX8_layRow_84 : decode cX8_layRow 84 = .ok (.iastore, 1) := by decide +kernel
theorem dX8_layRow_85 : decode cX8_layRow 85 = .ok (.aload_n 0, 1) := by decide +kernel
theorem dX8_layRow_86 : decode cX8_layRow 86 = .ok (.getfield 55, 3) := by decide +kernel
theorem dX8_layRow_89 : decode cX8_layRow 89 = .ok (.iload_n 3, 1) := by decide +kernel
theorem dX8_layRow_90 : decode cX8_layRow 90 = .ok (.iaload, 1) := by decide +kernel
theorem dX8_layRow_91 : decode cX8_layRow 91 = .ok (.aload_n 0, 1) := by decide +kernel
theorem dX8_layRow_92 : decode cX8_layRow 92 = .ok (.getfield 291, 3) := by decide +kernel
theorem dX8_layRow_95 : decode cX8_layRow 95 = .ok (.if_icmp .le 27, 3) := by decide +kernel
theorem dX8_layRow_98 : decode cX8_layRow 98 = .ok (.aload_n 0, 1) := by decide +kernel
theorem dX8_layRow_99 : decode cX8_layRow 99 = .ok (.aload_n 0, 1) := by decide +kernel
theorem dX8_layRow_100 : decode cX8_layRow 100 = .ok (.getfield 55, 3) := by decide +kernel
theorem dX8_layRow_103 : decode cX8_layRow 103 = .ok (.iload_n 3, 1) := by decide +kernel
theorem dX8_layRow_104 : decode cX8_layRow 104 = .ok (.iaload, 1) := by decide +kernel
theorem dX8_layRow_105 : decode cX8_layRow 105 = .ok (.putfield 291, 3) := by decide +kernel
theorem dX8_layRow_108 : decode cX8_layRow 108 = .ok (.aload_n 0, 1) := by decide +kernel
theorem dX8_layRow_109 : decode cX8_layRow 109 = .ok (.iload_n 3, 1) := by decide +kernel
theorem dX8_layRow_110 : decode cX8_layRow 110 = .ok (.aload_n 0, 1) := by decide +kernel
theorem dX8_layRow_111 : decode cX8_layRow 111 = .ok (.getfield 291, 3) := by decide +kernel
theorem dX8_layRow_114 : decode cX8_layRow 114 = .ok (.iconst 1, 1) := by decide +kernel
theorem dX8_layRow_115 : decode cX8_layRow 115 = .ok (.isub, 1) := by decide +kernel
theorem dX8_layRow_116 : decode cX8_layRow 116 = .ok (.iload_n 1, 1) := by decide +kernel
theorem dX8_layRow_117 : decode cX8_layRow 117 = .ok (.imul, 1) := by decide +kernel
theorem dX8_layRow_118 : decode cX8_layRow 118 = .ok (.isub, 1) := by decide +kernel
theorem dX8_layRow_119 : decode cX8_layRow 119 = .ok (.putfield 297, 3) := by decide +kernel
theorem dX8_layRow_122 : decode cX8_layRow 122 = .ok (.iinc 2 1, 3) := by decide +kernel
theorem dX8_layRow_125 : decode cX8_layRow 125 = .ok (.goto (-88), 3) := by decide +kernel
theorem dX8_layRow_128 : decode cX8_layRow 128 = .ok (.return_, 1) := by decide +kernel
def mR_layRow_122 (N : Nat) (hd37 : ST → Int32 → Int32 → Option (ST)) (σ : ST) (x1 : Int32) (x2 : Int32) (x3 : Int32) : Option (ST) :=
  zLet (x2 + (1)) fun v122 =>
  hd37 σ x1 v122
set_option maxRecDepth 20000 in
set_option maxHeartbeats 2000000 in
theorem tR_layRow_122 {adr : Nat → Nat} {cI cZ : ClassId} {X : zX} {q : ST} (B : zC X 4 (wdR adr cI cZ) cX8_layRow RX8 none { frames := 2, cells := 0, slots := 0, locals := 44 }) (N : Nat) (hd37 : ST → Int32 → Int32 → Option (ST)) (hh37 : ∀ (σ : ST) (x1 : Int32) (x2 : Int32), hd37 σ x1 x2 = some q → zJ X 4 (wdR adr cI cZ) (zu q) 37 [(0, .ref (adr 0)), (1, .int x1), (2, .int x2)] [] σ) (σ : ST) (x1 : Int32) (x2 : Int32) (x3 : Int32) (hf : mR_layRow_122 N hd37 σ x1 x2 x3 = some q) : zJ X 4 (wdR adr cI cZ) (zu q) 122 [(0, .ref (adr 0)), (1, .int x1), (2, .int x2), (3, .int x3)] [] σ := by
  refine z_iinc B (1) 2 (fun v122 => [(2, .int v122), (0, .ref (adr 0)), (1, .int x1), (3, .int x3)]) dX8_layRow_122 hf zc_iconst_1 rfl (Nat.le_of_ble_eq_true rfl) (fun _ => rfl) (fun v122 hf => ?_)
  refine z_goto B 37 dX8_layRow_125 (by decide) ?_
  exact z_loc [1, 2, 0] _ rfl (hh37 σ x1 v122 hf)
def mR_layRow_84 (N : Nat) (hd37 : ST → Int32 → Int32 → Option (ST)) (σ : ST) (x1 : Int32) (x2 : Int32) (x3 : Int32) (k1 : Int32) (k2 : Int32) : Option (ST) :=
  zSet σ 21 10000 k1 k2 fun s84 =>
  zGet (s84 21) 10000 x3 fun v90 =>
  zLet (s84 0 22) fun v92 =>
  if (v90 : Int32) ≤ v92 then
    mR_layRow_122 N hd37 s84 x1 x2 x3
  else
    zGet (s84 21) 10000 x3 fun v104 =>
    zLet (zUp s84 0 22 v104) fun s105 =>
    zLet (s105 0 22) fun v111 =>
    zLet ((v111 : Int32) - (1)) fun v115 =>
    zLet ((v115 : Int32) * x1) fun v117 =>
    zLet ((x3 : Int32) - v117) fun v118 =>
    zLet (zUp s105 0 23 v118) fun s119 =>
    mR_layRow_122 N hd37 s119 x1 x2 x3
set_option maxRecDepth 20000 in
set_option maxHeartbeats 2000000 in
theorem tR_layRow_84 {adr : Nat → Nat} {cI cZ : ClassId} {X : zX} {q : ST} (B : zC X 4 (wdR adr cI cZ) cX8_layRow RX8 none { frames := 2, cells := 0, slots := 0, locals := 44 }) (N : Nat) (hd37 : ST → Int32 → Int32 → Option (ST)) (hh37 : ∀ (σ : ST) (x1 : Int32) (x2 : Int32), hd37 σ x1 x2 = some q → zJ X 4 (wdR adr cI cZ) (zu q) 37 [(0, .ref (adr 0)), (1, .int x1), (2, .int x2)] [] σ) (σ : ST) (x1 : Int32) (x2 : Int32) (x3 : Int32) (k1 : Int32) (k2 : Int32) (hf : mR_layRow_84 N hd37 σ x1 x2 x3 k1 k2 = some q) : zJ X 4 (wdR adr cI cZ) (zu q) 84 [(0, .ref (adr 0)), (1, .int x1), (2, .int x2), (3, .int x3)] [.int k2, .int k1, .ref (adr 21)] σ := by
  refine fR_s_endsBy B dX8_layRow_84 hf (fun s84 hf => ?_)
  refine z_aload_n B dX8_layRow_85 0 rfl rfl ?_
  refine fR_g_endsBy B dX8_layRow_86 ?_
  refine z_iload_n B dX8_layRow_89 3 rfl rfl ?_
  refine fR_l_endsBy B dX8_layRow_90 hf (fun v90 hf => ?_)
  refine z_aload_n B dX8_layRow_91 0 rfl rfl ?_
  refine fR_g_rowMany B dX8_layRow_92 hf (fun v92 hf => ?_)
  refine z_icmp_le B 122 dX8_layRow_95 (by decide) hf (fun hf => ?_) (fun hf => ?_)
  · exact tR_layRow_122 B N hd37 hh37 s84 x1 x2 x3 hf
  · refine z_aload_n B dX8_layRow_98 0 rfl rfl ?_
    refine z_aload_n B dX8_layRow_99 0 rfl rfl ?_
    refine fR_g_endsBy B dX8_layRow_100 ?_
    refine z_iload_n B dX8_layRow_103 3 rfl rfl ?_
    refine fR_l_endsBy B dX8_layRow_104 hf (fun v104 hf => ?_)
    refine fR_p_rowMany B dX8_layRow_105 hf (fun s105 hf => ?_)
    refine z_aload_n B dX8_layRow_108 0 rfl rfl ?_
    refine z_iload_n B dX8_layRow_109 3 rfl rfl ?_
    refine z_aload_n B dX8_layRow_110 0 rfl rfl ?_
    refine fR_g_rowMany B dX8_layRow_111 hf (fun v111 hf => ?_)
    refine z_iconst B (1) dX8_layRow_114 zc_iconst_1 ?_
    refine z_isub B dX8_layRow_115 hf (fun v115 hf => ?_)
    refine z_iload_n B dX8_layRow_116 1 rfl rfl ?_
    refine z_imul B dX8_layRow_117 hf (fun v117 hf => ?_)
    refine z_isub B dX8_layRow_118 hf (fun v118 hf => ?_)
    refine fR_p_rowFirst B dX8_layRow_119 hf (fun s119 hf => ?_)
    exact tR_layRow_122 B N hd37 hh37 s119 x1 x2 x3 hf
def mR_layRow_B37 (N : Nat) (hd37 : ST → Int32 → Int32 → Option (ST)) (σ : ST) (x1 : Int32) (x2 : Int32) : Option (ST) :=
  zGet (σ 1) 1974 (22) fun v44 =>
  if (v44 : Int32) ≤ x2 then
    some σ
  else
    zCall (mR_traced N σ x2) fun v50 s50 =>
    zLet ((v50 : Int32) - x1) fun v62 =>
    zCall (mR_isRead N s50 v62 x2) fun v64 s64 =>
    if (v64 : Int32) = 0 then
      mR_layRow_84 N hd37 s64 x1 x2 v50 v50 (1)
    else
      zLet ((v50 : Int32) - x1) fun v76 =>
      zGet (s64 21) 10000 v76 fun v77 =>
      zLet ((v77 : Int32) + (1)) fun v79 =>
      mR_layRow_84 N hd37 s64 x1 x2 v50 v50 v79
def mR_layRow_37 (N : Nat) : ST → Int32 → Int32 → Option (ST) := zIt (mR_layRow_B37 N) (fun _ _ _ => none) N
set_option maxRecDepth 20000 in
set_option maxHeartbeats 2000000 in
theorem tR_layRow_37 {adr : Nat → Nat} {cI cZ : ClassId} {X : zX} {q : ST} (B : zC X 4 (wdR adr cI cZ) cX8_layRow RX8 none { frames := 2, cells := 0, slots := 0, locals := 44 }) (N : Nat) : ∀ (σ : ST) (x1 : Int32) (x2 : Int32), mR_layRow_37 N σ x1 x2 = some q → zJ X 4 (wdR adr cI cZ) (zu q) 37 [(0, .ref (adr 0)), (1, .int x1), (2, .int x2)] [] σ := by
  refine zIt_ind (P := fun (hd : ST → Int32 → Int32 → Option (ST)) => ∀ (σ : ST) (x1 : Int32) (x2 : Int32), hd σ x1 x2 = some q → zJ X 4 (wdR adr cI cZ) (zu q) 37 [(0, .ref (adr 0)), (1, .int x1), (2, .int x2)] [] σ) (fun _ _ _ hf => by cases hf) (fun hd37 hh37 => ?_) N
  intro σ x1 x2 hf
  refine z_iload_n B dX8_layRow_37 2 rfl rfl ?_
  refine z_aload_n B dX8_layRow_38 0 rfl rfl ?_
  refine fR_g_row B dX8_layRow_39 ?_
  refine z_bipush B (22) dX8_layRow_42 zc_bipush_22 ?_
  refine fR_l_row B dX8_layRow_44 hf (fun v44 hf => ?_)
  refine z_icmp_ge B 128 dX8_layRow_45 (by decide) hf (fun hf => ?_) (fun hf => ?_)
  · exact z_return B dX8_layRow_128 hf
  · refine z_aload_n B dX8_layRow_48 0 rfl rfl ?_
    refine z_iload_n B dX8_layRow_49 2 rfl rfl ?_
    refine z_callVi B (As := [.int x2]) kcV_X8_238 dX8_layRow_50 hf (fun q hq => cR_traced q hq) (wR_o (adr := adr) (cI := cI) (cZ := cZ)) rfl rfl rfl rfl (Nat.le_of_ble_eq_true rfl) rfl rfl ⟨Nat.le_of_ble_eq_true rfl, Nat.le_of_ble_eq_true rfl⟩ (fun v50 s50 hf => ?_)
    refine z_istore_n B [(3, .int v50), (0, .ref (adr 0)), (1, .int x1), (2, .int x2)] dX8_layRow_53 rfl (Nat.le_of_ble_eq_true rfl) rfl ?_
    refine z_aload_n B dX8_layRow_54 1 rfl rfl ?_
    refine fR_g_endsBy B dX8_layRow_55 ?_
    refine z_iload_n B dX8_layRow_58 0 rfl rfl ?_
    refine z_aload_n B dX8_layRow_59 1 rfl rfl ?_
    refine z_iload_n B dX8_layRow_60 0 rfl rfl ?_
    refine z_iload_n B dX8_layRow_61 2 rfl rfl ?_
    refine z_isub B dX8_layRow_62 hf (fun v62 hf => ?_)
    refine z_iload_n B dX8_layRow_63 3 rfl rfl ?_
    refine z_callVi B (As := [.int v62, .int x2]) kcV_X8_294 dX8_layRow_64 hf (fun q hq => cR_isRead q hq) (wR_o (adr := adr) (cI := cI) (cZ := cZ)) rfl rfl rfl rfl (Nat.le_of_ble_eq_true rfl) rfl rfl ⟨Nat.le_of_ble_eq_true rfl, Nat.le_of_ble_eq_true rfl⟩ (fun v64 s64 hf => ?_)
    refine z_if_eq B 83 dX8_layRow_67 (by decide) hf (fun hf => ?_) (fun hf => ?_)
    · refine z_iconst B (1) dX8_layRow_83 zc_iconst_1 ?_
      exact z_loc [1, 2, 3, 0] _ rfl (tR_layRow_84 B N hd37 hh37 s64 x1 x2 v50 v50 (1) hf)
    · refine z_aload_n B dX8_layRow_70 1 rfl rfl ?_
      refine fR_g_endsBy B dX8_layRow_71 ?_
      refine z_iload_n B dX8_layRow_74 0 rfl rfl ?_
      refine z_iload_n B dX8_layRow_75 2 rfl rfl ?_
      refine z_isub B dX8_layRow_76 hf (fun v76 hf => ?_)
      refine fR_l_endsBy B dX8_layRow_77 hf (fun v77 hf => ?_)
      refine z_iconst B (1) dX8_layRow_78 zc_iconst_1 ?_
      refine z_iadd B dX8_layRow_79 hf (fun v79 hf => ?_)
      refine z_goto B 84 dX8_layRow_80 (by decide) ?_
      exact z_loc [1, 2, 3, 0] _ rfl (tR_layRow_84 B N hd37 hh37 s64 x1 x2 v50 v50 v79 hf)
def mR_layRow_B2 (N : Nat) (hd2 : ST → Int32 → Int32 → Option (ST)) (σ : ST) (x1 : Int32) (x2 : Int32) : Option (ST) :=
  zGet (σ 1) 1974 (22) fun v9 =>
  if (v9 : Int32) ≤ x2 then
    zLet (zUp σ 0 22 (0)) fun s32 =>
    mR_layRow_37 N s32 x1 (0)
  else
    zCall (mR_traced N σ x2) fun v19 s19 =>
    zSet s19 21 10000 v19 (0) fun s23 =>
    zLet (x2 + (1)) fun v24 =>
    hd2 s23 x1 v24
def mR_layRow_2 (N : Nat) : ST → Int32 → Int32 → Option (ST) := zIt (mR_layRow_B2 N) (fun _ _ _ => none) N
set_option maxRecDepth 20000 in
set_option maxHeartbeats 2000000 in
theorem tR_layRow_2 {adr : Nat → Nat} {cI cZ : ClassId} {X : zX} {q : ST} (B : zC X 4 (wdR adr cI cZ) cX8_layRow RX8 none { frames := 2, cells := 0, slots := 0, locals := 44 }) (N : Nat) : ∀ (σ : ST) (x1 : Int32) (x2 : Int32), mR_layRow_2 N σ x1 x2 = some q → zJ X 4 (wdR adr cI cZ) (zu q) 2 [(0, .ref (adr 0)), (1, .int x1), (2, .int x2)] [] σ := by
  refine zIt_ind (P := fun (hd : ST → Int32 → Int32 → Option (ST)) => ∀ (σ : ST) (x1 : Int32) (x2 : Int32), hd σ x1 x2 = some q → zJ X 4 (wdR adr cI cZ) (zu q) 2 [(0, .ref (adr 0)), (1, .int x1), (2, .int x2)] [] σ) (fun _ _ _ hf => by cases hf) (fun hd2 hh2 => ?_) N
  intro σ x1 x2 hf
  refine z_iload_n B dX8_layRow_2 2 rfl rfl ?_
  refine z_aload_n B dX8_layRow_3 0 rfl rfl ?_
  refine fR_g_row B dX8_layRow_4 ?_
  refine z_bipush B (22) dX8_layRow_7 zc_bipush_22 ?_
  refine fR_l_row B dX8_layRow_9 hf (fun v9 hf => ?_)
  refine z_icmp_ge B 30 dX8_layRow_10 (by decide) hf (fun hf => ?_) (fun hf => ?_)
  · refine z_aload_n B dX8_layRow_30 0 rfl rfl ?_
    refine z_iconst B (0) dX8_layRow_31 zc_iconst_0 ?_
    refine fR_p_rowMany B dX8_layRow_32 hf (fun s32 hf => ?_)
    refine z_iconst B (0) dX8_layRow_35 zc_iconst_0 ?_
    refine z_istore_n B [(2, .int (0)), (0, .ref (adr 0)), (1, .int x1)] dX8_layRow_36 rfl (Nat.le_of_ble_eq_true rfl) rfl ?_
    exact z_loc [1, 2, 0] _ rfl (tR_layRow_37 B N s32 x1 (0) hf)
  · refine z_aload_n B dX8_layRow_13 0 rfl rfl ?_
    refine fR_g_endsBy B dX8_layRow_14 ?_
    refine z_aload_n B dX8_layRow_17 0 rfl rfl ?_
    refine z_iload_n B dX8_layRow_18 2 rfl rfl ?_
    refine z_callVi B (As := [.int x2]) kcV_X8_238 dX8_layRow_19 hf (fun q hq => cR_traced q hq) (wR_o (adr := adr) (cI := cI) (cZ := cZ)) rfl rfl rfl rfl (Nat.le_of_ble_eq_true rfl) rfl rfl ⟨Nat.le_of_ble_eq_true rfl, Nat.le_of_ble_eq_true rfl⟩ (fun v19 s19 hf => ?_)
    refine z_iconst B (0) dX8_layRow_22 zc_iconst_0 ?_
    refine fR_s_endsBy B dX8_layRow_23 hf (fun s23 hf => ?_)
    refine z_iinc B (1) 2 (fun v24 => [(2, .int v24), (0, .ref (adr 0)), (1, .int x1)]) dX8_layRow_24 hf zc_iconst_1 rfl (Nat.le_of_ble_eq_true rfl) (fun _ => rfl) (fun v24 hf => ?_)
    refine z_goto B 2 dX8_layRow_27 (by decide) ?_
    exact z_loc [1, 2, 0] _ rfl (hh2 s23 x1 v24 hf)
def mR_layRow (N : Nat) (σ : ST) (x1 : Int32) : Option (ST) :=
  mR_layRow_2 N σ x1 (0)
set_option maxRecDepth 20000 in
set_option maxHeartbeats 2000000 in
theorem cR_layRow {adr : Nat → Nat} {cI cZ : ClassId} {l : Launch} {D : va_G} {N : Nat} {σ : ST} {x1 : Int32} (q : ST) (hf : mR_layRow N σ x1 = some q) : zM l D (wdR adr cI cZ) yX8_layRow cX8_layRow 4 none ({ frames := 2, cells := 0, slots := 0, locals := 44 }) [.ref (adr 0), .int x1] σ (zu q) := by
  refine zM_of sfR_ok rfl (Nat.le_of_ble_eq_true rfl) [(0, .ref (adr 0)), (1, .int x1)] rfl (fun X hX1 hX2 B => ?_)
  have B : zC X 4 (wdR adr cI cZ) cX8_layRow RX8 none { frames := 2, cells := 0, slots := 0, locals := 44 } := B
  refine z_iconst B (0) dX8_layRow_0 zc_iconst_0 ?_
  refine z_istore_n B [(2, .int (0)), (0, .ref (adr 0)), (1, .int x1)] dX8_layRow_1 rfl (Nat.le_of_ble_eq_true rfl) rfl ?_
  exact z_loc [1, 2, 0] _ rfl (tR_layRow_2 B N σ x1 (0) hf)
theorem dX8_row_0 : decode cX8_row 0 = .ok (.aload_n 0, 1) := by decide +kernel
theorem dX8_row_1 : decode cX8_row 1 = .ok (.iconst 0, 1) := by decide +kernel
theorem dX8_row_2 : decode cX8_row 2 = .ok (.putfield 67, 3) := by decide +kernel
theorem dX8_row_5 : decode cX8_row 5 = .ok (.aload_n 0, 1) := by decide +kernel
theorem dX8_row_6 : decode cX8_row 6 = .ok (.getfield 9, 3) := by decide +kernel
theorem dX8_row_9 : decode cX8_row 9 = .ok (.bipush 22, 2) := by decide +kernel
theorem dX8_row_11 : decode cX8_row 11 = .ok (.iaload, 1) := by decide +kernel
theorem dX8_row_12 : decode cX8_row 12 = .ok (.ifCond .eq 31, 3) := by decide +kernel
theorem dX8_row_15 : decode cX8_row 15 = .ok (.iload_n 1, 1) := by decide +kernel
theorem dX8_row_16 : decode cX8_row 16 = .ok (.ifCond .eq 27, 3) := by decide +kernel
theorem dX8_row_19 : decode cX8_row 19 = .ok (.iload_n 1, 1) := by decide +kernel
theorem dX8_row_20 : decode cX8_row 20 = .ok (.i2l, 1) := by decide +kernel
theorem dX8_row_21 : decode cX8_row 21 = .ok (.ldc2_w 300, 3) := by decide +kernel
theorem dX8_row_24 : decode cX8_row 24 = .ok (.ldc2_w 302, 3) := by decide +kernel
theorem dX8_row_27 : decode cX8_row 27 = .ok (.invokestatic 71, 3) := by decide +kernel
theorem dX8_row_30 : decode cX8_row 30 = .ok (.ifCond .eq 13, 3) := by decide +kernel
theorem dX8_row_33 : decode cX8_row 33 = .ok (.iload_n 2, 1) := by decide +kernel
theorem dX8_row_34 : decode cX8_row 34 = .ok (.i2l, 1) := by decide +kernel
theorem dX8_row_35 : decode cX8_row 35 = .ok (.lconst 0, 1) := by decide +kernel
theorem dX8_row_36 : decode cX8_row 36 = .ok (.lconst 1, 1) := by decide +kernel
theorem dX8_row_37 : decode cX8_row 37 = .ok (.invokestatic 71, 3) := by decide +kernel
theorem dX8_row_40 : decode cX8_row 40 = .ok (.ifCond .ne 5, 3) := by decide +kernel
theorem dX8_row_43 : decode cX8_row 43 = .ok (.iconst (-1), 1) := by decide +kernel
theorem dX8_row_44 : decode cX8_row 44 = .ok (.ireturn, 1) := by decide +kernel
theorem dX8_row_45 : decode cX8_row 45 = .ok (.aload_n 0, 1) := by decide +kernel
theorem dX8_row_46 : decode cX8_row 46 = .ok (.iload_n 1, 1) := by decide +kernel
theorem dX8_row_47 : decode cX8_row 47 = .ok (.invokevirtual 304, 3) := by decide +kernel
theorem dX8_row_50 : decode cX8_row 50 = .ok (.iload_n 2, 1) := by decide +kernel
theorem dX8_row_51 : decode cX8_row 51 = .ok (.ifCond .ne 10, 3) := by decide +kernel
theorem dX8_row_54 : decode cX8_row 54 = .ok (.aload_n 0, 1) := by decide +kernel
theorem dX8_row_55 : decode cX8_row 55 = .ok (.getfield 291, 3) := by decide +kernel
theorem dX8_row_58 : decode cX8_row 58 = .ok (.goto 7, 3) := by decide +kernel
theorem dX8_row_61 : decode cX8_row 61 = .ok (.aload_n 0, 1) := by decide +kernel
theorem dX8_row_62 : decode cX8_row 62 = .ok (.getfield 297, 3) := by decide +kernel
theorem dX8_row_65 : decode cX8_row 65 = .ok (.ireturn, 1) := by decide +kernel
def mR_row_65 (N : Nat) (σ : ST) (x1 : Int32) (x2 : Int32) (k0 : Int32) : Option (Int32 × ST) :=
  some (k0, σ)
set_option maxRecDepth 20000 in
set_option maxHeartbeats 2000000 in
theorem tR_row_65 {adr : Nat → Nat} {cI cZ : ClassId} {X : zX} {q : Int32 × ST} (B : zC X 3 (wdR adr cI cZ) cX8_row RX8 (some .int) { frames := 3, cells := 0, slots := 0, locals := 67 }) (N : Nat) (σ : ST) (x1 : Int32) (x2 : Int32) (k0 : Int32) (hf : mR_row_65 N σ x1 x2 k0 = some q) : zJ X 3 (wdR adr cI cZ) (zi q) 65 [(0, .ref (adr 0)), (1, .int x1), (2, .int x2)] [.int k0] σ := by
  exact z_ireturn B dX8_row_65 hf
def mR_row_43 (N : Nat) (σ : ST) (x1 : Int32) (x2 : Int32) : Option (Int32 × ST) :=
  some ((-1), σ)
set_option maxRecDepth 20000 in
set_option maxHeartbeats 2000000 in
theorem tR_row_43 {adr : Nat → Nat} {cI cZ : ClassId} {X : zX} {q : Int32 × ST} (B : zC X 3 (wdR adr cI cZ) cX8_row RX8 (some .int) { frames := 3, cells := 0, slots := 0, locals := 67 }) (N : Nat) (σ : ST) (x1 : Int32) (x2 : Int32) (hf : mR_row_43 N σ x1 x2 = some q) : zJ X 3 (wdR adr cI cZ) (zi q) 43 [(0, .ref (adr 0)), (1, .int x1), (2, .int x2)] [] σ := by
  refine z_iconst B (-1) dX8_row_43 zc_iconst_m1 ?_
  exact z_ireturn B dX8_row_44 hf
def mR_row (N : Nat) (σ : ST) (x1 : Int32) (x2 : Int32) : Option (Int32 × ST) :=
  zLet (zUp σ 0 0 (0)) fun s2 =>
  zGet (s2 1) 1974 (22) fun v11 =>
  if (v11 : Int32) = 0 then
    mR_row_43 N s2 x1 x2
  else
    if (x1 : Int32) = 0 then
      mR_row_43 N s2 x1 x2
    else
      zLet ((x1 : Int32).toInt64) fun v20 =>
      zCall (mR_in N s2 v20 (-10000) (10000)) fun v27 s27 =>
      if (v27 : Int32) = 0 then
        mR_row_43 N s27 x1 x2
      else
        zLet ((x2 : Int32).toInt64) fun v34 =>
        zCall (mR_in N s27 v34 (0) (1)) fun v37 s37 =>
        if (v37 : Int32) = 0 then
          mR_row_43 N s37 x1 x2
        else
          zCallu (mR_layRow N s37 x1) fun s47 =>
          if (x2 : Int32) = 0 then
            zLet (s47 0 22) fun v55 =>
            mR_row_65 N s47 x1 x2 v55
          else
            zLet (s47 0 23) fun v62 =>
            mR_row_65 N s47 x1 x2 v62
set_option maxRecDepth 20000 in
set_option maxHeartbeats 2000000 in
theorem cR_row {adr : Nat → Nat} {cI cZ : ClassId} {l : Launch} {D : va_G} {N : Nat} {σ : ST} {x1 : Int32} {x2 : Int32} (q : Int32 × ST) (hf : mR_row N σ x1 x2 = some q) : zM l D (wdR adr cI cZ) yX8_row cX8_row 3 (some .int) ({ frames := 3, cells := 0, slots := 0, locals := 67 }) [.ref (adr 0), .int x1, .int x2] σ (zi q) := by
  refine zM_of sfR_ok rfl (Nat.le_of_ble_eq_true rfl) [(0, .ref (adr 0)), (1, .int x1), (2, .int x2)] rfl (fun X hX1 hX2 B => ?_)
  have B : zC X 3 (wdR adr cI cZ) cX8_row RX8 (some .int) { frames := 3, cells := 0, slots := 0, locals := 67 } := B
  refine z_aload_n B dX8_row_0 0 rfl rfl ?_
  refine z_iconst B (0) dX8_row_1 zc_iconst_0 ?_
  refine fR_p_thrown B dX8_row_2 hf (fun s2 hf => ?_)
  refine z_aload_n B dX8_row_5 0 rfl rfl ?_
  refine fR_g_row B dX8_row_6 ?_
  refine z_bipush B (22) dX8_row_9 zc_bipush_22 ?_
  refine fR_l_row B dX8_row_11 hf (fun v11 hf => ?_)
  refine z_if_eq B 43 dX8_row_12 (by decide) hf (fun hf => ?_) (fun hf => ?_)
  · exact tR_row_43 B N s2 x1 x2 hf
  · refine z_iload_n B dX8_row_15 1 rfl rfl ?_
    refine z_if_eq B 43 dX8_row_16 (by decide) hf (fun hf => ?_) (fun hf => ?_)
    · exact tR_row_43 B N s2 x1 x2 hf
    · refine z_iload_n B dX8_row_19 1 rfl rfl ?_
      refine z_i2l B dX8_row_20 hf (fun v20 hf => ?_)
      refine z_ldc2 B kw_1348 dX8_row_21 ?_
      refine z_ldc2 B kw_1349 dX8_row_24 ?_
      refine z_callSi B (As := [.long v20, .long (-10000), .long (10000)]) kcS_X8_71 dX8_row_27 hf (fun q hq => cR_in q hq) rfl rfl (Nat.le_of_ble_eq_true rfl) rfl rfl ⟨Nat.le_of_ble_eq_true rfl, Nat.le_of_ble_eq_true rfl⟩ (fun v27 s27 hf => ?_)
      refine z_if_eq B 43 dX8_row_30 (by decide) hf (fun hf => ?_) (fun hf => ?_)
      · exact tR_row_43 B N s27 x1 x2 hf
      · refine z_iload_n B dX8_row_33 2 rfl rfl ?_
        refine z_i2l B dX8_row_34 hf (fun v34 hf => ?_)
        refine z_lconst B (0) dX8_row_35 rfl ?_
        refine z_lconst B (1) dX8_row_36 rfl ?_
        refine z_callSi B (As := [.long v34, .long (0), .long (1)]) kcS_X8_71 dX8_row_37 hf (fun q hq => cR_in q hq) rfl rfl (Nat.le_of_ble_eq_true rfl) rfl rfl ⟨Nat.le_of_ble_eq_true rfl, Nat.le_of_ble_eq_true rfl⟩ (fun v37 s37 hf => ?_)
        refine z_if_ne B 45 dX8_row_40 (by decide) hf (fun hf => ?_) (fun hf => ?_)
        · refine z_aload_n B dX8_row_45 0 rfl rfl ?_
          refine z_iload_n B dX8_row_46 1 rfl rfl ?_
          refine z_callVu B (As := [.int x1]) kcV_X8_304 dX8_row_47 hf (fun q hq => cR_layRow q hq) (wR_o (adr := adr) (cI := cI) (cZ := cZ)) rfl rfl rfl rfl (Nat.le_of_ble_eq_true rfl) rfl rfl ⟨Nat.le_of_ble_eq_true rfl, Nat.le_of_ble_eq_true rfl⟩ (fun s47 hf => ?_)
          refine z_iload_n B dX8_row_50 2 rfl rfl ?_
          refine z_if_ne B 61 dX8_row_51 (by decide) hf (fun hf => ?_) (fun hf => ?_)
          · refine z_aload_n B dX8_row_61 0 rfl rfl ?_
            refine fR_g_rowFirst B dX8_row_62 hf (fun v62 hf => ?_)
            exact tR_row_65 B N s47 x1 x2 v62 hf
          · refine z_aload_n B dX8_row_54 0 rfl rfl ?_
            refine fR_g_rowMany B dX8_row_55 hf (fun v55 hf => ?_)
            refine z_goto B 65 dX8_row_58 (by decide) ?_
            exact tR_row_65 B N s47 x1 x2 v55 hf
        · exact tR_row_43 B N s37 x1 x2 hf
