theorem dX8_plan_0 : decode cX8_plan 0 = .ok (.aload_n 0, 1) := by decide +kernel
theorem dX8_plan_1 : decode cX8_plan 1 = .ok (.iconst 0, 1) := by decide +kernel
theorem dX8_plan_2 : decode cX8_plan 2 = .ok (.putfield 67, 3) := by decide +kernel
theorem dX8_plan_5 : decode cX8_plan 5 = .ok (.aload_n 0, 1) := by decide +kernel
theorem dX8_plan_6 : decode cX8_plan 6 = .ok (.iload_n 1, 1) := by decide +kernel
theorem dX8_plan_7 : decode cX8_plan 7 = .ok (.invokevirtual 132, 3) := by decide +kernel
theorem dX8_plan_10 : decode cX8_plan 10 = .ok (.ifCond .ne 5, 3) := by decide +kernel
theorem dX8_plan_13 : decode cX8_plan 13 = .ok (.iconst (-1), 1) := by decide +kernel
theorem dX8_plan_14 : decode cX8_plan 14 = .ok (.ireturn, 1) := by decide +kernel
theorem dX8_plan_15 : decode cX8_plan 15 = .ok (.aload_n 0, 1) := by decide +kernel
theorem dX8_plan_16 : decode cX8_plan 16 = .ok (.invokevirtual 261, 3) := by decide +kernel
theorem dX8_plan_19 : decode cX8_plan 19 = .ok (.aload_n 0, 1) := by decide +kernel
theorem dX8_plan_20 : decode cX8_plan 20 = .ok (.iload_n 1, 1) := by decide +kernel
theorem dX8_plan_21 : decode cX8_plan 21 = .ok (.invokevirtual 197, 3) := by decide +kernel
theorem dX8_plan_24 : decode cX8_plan 24 = .ok (.pop, 1) := by decide +kernel
theorem dX8_plan_25 : decode cX8_plan 25 = .ok (.aload_n 0, 1) := by decide +kernel
theorem dX8_plan_26 : decode cX8_plan 26 = .ok (.invokevirtual 264, 3) := by decide +kernel
theorem dX8_plan_29 : decode cX8_plan 29 = .ok (.iload_n 2, 1) := by decide +kernel
theorem dX8_plan_30 : decode cX8_plan 30 = .ok (.i2l, 1) := by decide +kernel
theorem dX8_plan_31 : decode cX8_plan 31 = .ok (.lconst 0, 1) := by decide +kernel
theorem dX8_plan_32 : decode cX8_plan 32 = .ok (.aload_n 0, 1) := by decide +kernel
theorem dX8_plan_33 : decode cX8_plan 33 = .ok (.getfield 127, 3) := by decide +kernel
theorem dX8_plan_36 : decode cX8_plan 36 = .ok (.i2l, 1) := by decide +kernel
theorem dX8_plan_37 : decode cX8_plan 37 = .ok (.lconst 1, 1) := by decide +kernel
theorem dX8_plan_38 : decode cX8_plan 38 = .ok (.lsub, 1) := by decide +kernel
theorem dX8_plan_39 : decode cX8_plan 39 = .ok (.invokestatic 71, 3) := by decide +kernel
theorem dX8_plan_42 : decode cX8_plan 42 = .ok (.ifCond .eq 12, 3) := by decide +kernel
theorem dX8_plan_45 : decode cX8_plan 45 = .ok (.aload_n 0, 1) := by decide +kernel
theorem dX8_plan_46 : decode cX8_plan 46 = .ok (.getfield 43, 3) := by decide +kernel
theorem dX8_plan_49 : decode cX8_plan 49 = .ok (.iload_n 2, 1) := by decide +kernel
theorem dX8_plan_50 : decode cX8_plan 50 = .ok (.iaload, 1) := by decide +kernel
theorem dX8_plan_51 : decode cX8_plan 51 = .ok (.goto 4, 3) := by decide +kernel
theorem dX8_plan_54 : decode cX8_plan 54 = .ok (.iconst (-1), 1) := by decide +kernel
theorem dX8_plan_55 : decode cX8_plan 55 = .ok (.ireturn, 1) := by decide +kernel
def mR_plan_55 (N : Nat) (σ : ST) (x1 : Int32) (x2 : Int32) (k0 : Int32) : Option (Int32 × ST) :=
  some (k0, σ)
set_option maxRecDepth 20000 in
set_option maxHeartbeats 2000000 in
theorem tR_plan_55 {adr : Nat → Nat} {cI cZ : ClassId} {X : zX} {q : Int32 × ST} (B : zC X 3 (wdR adr cI cZ) cX8_plan RX8 (some .int) { frames := 9, cells := 0, slots := 0, locals := 207 }) (N : Nat) (σ : ST) (x1 : Int32) (x2 : Int32) (k0 : Int32) (hf : mR_plan_55 N σ x1 x2 k0 = some q) : zJ X 3 (wdR adr cI cZ) (zi q) 55 [(0, .ref (adr 0)), (1, .int x1), (2, .int x2)] [.int k0] σ := by
  exact z_ireturn B dX8_plan_55 hf
def mR_plan (N : Nat) (σ : ST) (x1 : Int32) (x2 : Int32) : Option (Int32 × ST) :=
  zLet (zUp σ 0 0 (0)) fun s2 =>
  zCall (mR_isBlock N s2 x1) fun v7 s7 =>
  if (v7 : Int32) = 0 then
    some ((-1), s7)
  else
    zCallu (mR_think N s7) fun s16 =>
    zCall (mR_readOne N s16 x1) fun v21 s21 =>
    zCallu (mR_endThought N s21) fun s26 =>
    zLet ((x2 : Int32).toInt64) fun v30 =>
    zLet (s26 0 13) fun v33 =>
    zLet ((v33 : Int32).toInt64) fun v36 =>
    zLet ((v36 : Int64) - (1)) fun v38 =>
    zCall (mR_in N s26 v30 (0) v38) fun v39 s39 =>
    if (v39 : Int32) = 0 then
      mR_plan_55 N s39 x1 x2 (-1)
    else
      zGet (s39 14) 64 x2 fun v50 =>
      mR_plan_55 N s39 x1 x2 v50
set_option maxRecDepth 20000 in
set_option maxHeartbeats 2000000 in
theorem cR_plan {adr : Nat → Nat} {cI cZ : ClassId} {l : Launch} {D : va_G} {N : Nat} {σ : ST} {x1 : Int32} {x2 : Int32} (q : Int32 × ST) (hf : mR_plan N σ x1 x2 = some q) : zM l D (wdR adr cI cZ) yX8_plan cX8_plan 3 (some .int) ({ frames := 9, cells := 0, slots := 0, locals := 207 }) [.ref (adr 0), .int x1, .int x2] σ (zi q) := by
  refine zM_of sfR_ok rfl (Nat.le_of_ble_eq_true rfl) [(0, .ref (adr 0)), (1, .int x1), (2, .int x2)] rfl (fun X hX1 hX2 B => ?_)
  have B : zC X 3 (wdR adr cI cZ) cX8_plan RX8 (some .int) { frames := 9, cells := 0, slots := 0, locals := 207 } := B
  refine z_aload_n B dX8_plan_0 0 rfl rfl ?_
  refine z_iconst B (0) dX8_plan_1 zc_iconst_0 ?_
  refine fR_p_thrown B dX8_plan_2 hf (fun s2 hf => ?_)
  refine z_aload_n B dX8_plan_5 0 rfl rfl ?_
  refine z_iload_n B dX8_plan_6 1 rfl rfl ?_
  refine z_callVi B (As := [.int x1]) kcV_X8_132 dX8_plan_7 hf (fun q hq => cR_isBlock q hq) (wR_o (adr := adr) (cI := cI) (cZ := cZ)) rfl rfl rfl rfl (Nat.le_of_ble_eq_true rfl) rfl rfl ⟨Nat.le_of_ble_eq_true rfl, Nat.le_of_ble_eq_true rfl⟩ (fun v7 s7 hf => ?_)
  refine z_if_ne B 15 dX8_plan_10 (by decide) hf (fun hf => ?_) (fun hf => ?_)
  · refine z_aload_n B dX8_plan_15 0 rfl rfl ?_
    refine z_callVu B (As := []) kcV_X8_261 dX8_plan_16 hf (fun q hq => cR_think q hq) (wR_o (adr := adr) (cI := cI) (cZ := cZ)) rfl rfl rfl rfl (Nat.le_of_ble_eq_true rfl) rfl rfl ⟨Nat.le_of_ble_eq_true rfl, Nat.le_of_ble_eq_true rfl⟩ (fun s16 hf => ?_)
    refine z_aload_n B dX8_plan_19 0 rfl rfl ?_
    refine z_iload_n B dX8_plan_20 1 rfl rfl ?_
    refine z_callVi B (As := [.int x1]) kcV_X8_197 dX8_plan_21 hf (fun q hq => cR_readOne q hq) (wR_o (adr := adr) (cI := cI) (cZ := cZ)) rfl rfl rfl rfl (Nat.le_of_ble_eq_true rfl) rfl rfl ⟨Nat.le_of_ble_eq_true rfl, Nat.le_of_ble_eq_true rfl⟩ (fun v21 s21 hf => ?_)
    refine z_pop B dX8_plan_24 rfl ?_
    refine z_aload_n B dX8_plan_25 0 rfl rfl ?_
    refine z_callVu B (As := []) kcV_X8_264 dX8_plan_26 hf (fun q hq => cR_endThought q hq) (wR_o (adr := adr) (cI := cI) (cZ := cZ)) rfl rfl rfl rfl (Nat.le_of_ble_eq_true rfl) rfl rfl ⟨Nat.le_of_ble_eq_true rfl, Nat.le_of_ble_eq_true rfl⟩ (fun s26 hf => ?_)
    refine z_iload_n B dX8_plan_29 2 rfl rfl ?_
    refine z_i2l B dX8_plan_30 hf (fun v30 hf => ?_)
    refine z_lconst B (0) dX8_plan_31 rfl ?_
    refine z_aload_n B dX8_plan_32 0 rfl rfl ?_
    refine fR_g_plannedMany B dX8_plan_33 hf (fun v33 hf => ?_)
    refine z_i2l B dX8_plan_36 hf (fun v36 hf => ?_)
    refine z_lconst B (1) dX8_plan_37 rfl ?_
    refine z_lsub B dX8_plan_38 hf (fun v38 hf => ?_)
    refine z_callSi B (As := [.long v30, .long (0), .long v38]) kcS_X8_71 dX8_plan_39 hf (fun q hq => cR_in q hq) rfl rfl (Nat.le_of_ble_eq_true rfl) rfl rfl ⟨Nat.le_of_ble_eq_true rfl, Nat.le_of_ble_eq_true rfl⟩ (fun v39 s39 hf => ?_)
    refine z_if_eq B 54 dX8_plan_42 (by decide) hf (fun hf => ?_) (fun hf => ?_)
    · refine z_iconst B (-1) dX8_plan_54 zc_iconst_m1 ?_
      exact tR_plan_55 B N s39 x1 x2 (-1) hf
    · refine z_aload_n B dX8_plan_45 0 rfl rfl ?_
      refine fR_g_planned B dX8_plan_46 ?_
      refine z_iload_n B dX8_plan_49 2 rfl rfl ?_
      refine fR_l_planned B dX8_plan_50 hf (fun v50 hf => ?_)
      refine z_goto B 55 dX8_plan_51 (by decide) ?_
      exact tR_plan_55 B N s39 x1 x2 v50 hf
  · refine z_iconst B (-1) dX8_plan_13 zc_iconst_m1 ?_
    exact z_ireturn B dX8_plan_14 hf
theorem dX8_canReplay_0 : decode cX8_canReplay 0 = .ok (.aload_n 0, 1) := by decide +kernel
theorem dX8_canReplay_1 : decode cX8_canReplay 1 = .ok (.iload_n 1, 1) := by decide +kernel
theorem dX8_canReplay_2 : decode cX8_canReplay 2 = .ok (.iload_n 2, 1) := by decide +kernel
theorem dX8_canReplay_3 : decode cX8_canReplay 3 = .ok (.invokevirtual 81, 3) := by decide +kernel
theorem dX8_canReplay_6 : decode cX8_canReplay 6 = .ok (.ifCond .eq 24, 3) := by decide +kernel
theorem dX8_canReplay_9 : decode cX8_canReplay 9 = .ok (.iload_n 1, 1) := by decide +kernel
theorem dX8_canReplay_10 : decode cX8_canReplay 10 = .ok (.bipush 7, 2) := by decide +kernel
theorem dX8_canReplay_12 : decode cX8_canReplay 12 = .ok (.if_icmp .ne 14, 3) := by decide +kernel
theorem dX8_canReplay_15 : decode cX8_canReplay 15 = .ok (.iload_n 2, 1) := by decide +kernel
theorem dX8_canReplay_16 : decode cX8_canReplay 16 = .ok (.aload_n 0, 1) := by decide +kernel
theorem dX8_canReplay_17 : decode cX8_canReplay 17 = .ok (.getfield 9, 3) := by decide +kernel
theorem dX8_canReplay_20 : decode cX8_canReplay 20 = .ok (.bipush 7, 2) := by decide +kernel
theorem dX8_canReplay_22 : decode cX8_canReplay 22 = .ok (.iaload, 1) := by decide +kernel
theorem dX8_canReplay_23 : decode cX8_canReplay 23 = .ok (.if_icmp .ne 7, 3) := by decide +kernel
theorem dX8_canReplay_26 : decode cX8_canReplay 26 = .ok (.iconst 1, 1) := by decide +kernel
theorem dX8_canReplay_27 : decode cX8_canReplay 27 = .ok (.goto 4, 3) := by decide +kernel
theorem dX8_canReplay_30 : decode cX8_canReplay 30 = .ok (.iconst 0, 1) := by decide +kernel
theorem dX8_canReplay_31 : decode cX8_canReplay 31 = .ok (.ireturn, 1) := by decide +kernel
def mR_canReplay_31 (N : Nat) (σ : ST) (x1 : Int32) (x2 : Int32) (k0 : Int32) : Option (Int32 × ST) :=
  zBool k0 (some (k0, σ))
set_option maxRecDepth 20000 in
set_option maxHeartbeats 2000000 in
theorem tR_canReplay_31 {adr : Nat → Nat} {cI cZ : ClassId} {X : zX} {q : Int32 × ST} (B : zC X 3 (wdR adr cI cZ) cX8_canReplay RX8 (some .boolean) { frames := 2, cells := 0, slots := 0, locals := 47 }) (N : Nat) (σ : ST) (x1 : Int32) (x2 : Int32) (k0 : Int32) (hf : mR_canReplay_31 N σ x1 x2 k0 = some q) : zJ X 3 (wdR adr cI cZ) (zi q) 31 [(0, .ref (adr 0)), (1, .int x1), (2, .int x2)] [.int k0] σ := by
  exact z_zreturn B dX8_canReplay_31 hf
def mR_canReplay_30 (N : Nat) (σ : ST) (x1 : Int32) (x2 : Int32) : Option (Int32 × ST) :=
  mR_canReplay_31 N σ x1 x2 (0)
set_option maxRecDepth 20000 in
set_option maxHeartbeats 2000000 in
theorem tR_canReplay_30 {adr : Nat → Nat} {cI cZ : ClassId} {X : zX} {q : Int32 × ST} (B : zC X 3 (wdR adr cI cZ) cX8_canReplay RX8 (some .boolean) { frames := 2, cells := 0, slots := 0, locals := 47 }) (N : Nat) (σ : ST) (x1 : Int32) (x2 : Int32) (hf : mR_canReplay_30 N σ x1 x2 = some q) : zJ X 3 (wdR adr cI cZ) (zi q) 30 [(0, .ref (adr 0)), (1, .int x1), (2, .int x2)] [] σ := by
  refine z_iconst B (0) dX8_canReplay_30 zc_iconst_0 ?_
  exact tR_canReplay_31 B N σ x1 x2 (0) hf
def mR_canReplay_26 (N : Nat) (σ : ST) (x1 : Int32) (x2 : Int32) : Option (Int32 × ST) :=
  mR_canReplay_31 N σ x1 x2 (1)
set_option maxRecDepth 20000 in
set_option maxHeartbeats 2000000 in
theorem tR_canReplay_26 {adr : Nat → Nat} {cI cZ : ClassId} {X : zX} {q : Int32 × ST} (B : zC X 3 (wdR adr cI cZ) cX8_canReplay RX8 (some .boolean) { frames := 2, cells := 0, slots := 0, locals := 47 }) (N : Nat) (σ : ST) (x1 : Int32) (x2 : Int32) (hf : mR_canReplay_26 N σ x1 x2 = some q) : zJ X 3 (wdR adr cI cZ) (zi q) 26 [(0, .ref (adr 0)), (1, .int x1), (2, .int x2)] [] σ := by
  refine z_iconst B (1) dX8_canReplay_26 zc_iconst_1 ?_
  refine z_goto B 31 dX8_canReplay_27 (by decide) ?_
  exact tR_canReplay_31 B N σ x1 x2 (1) hf
def mR_canReplay (N : Nat) (σ : ST) (x1 : Int32) (x2 : Int32) : Option (Int32 × ST) :=
  zCall (mR_isTerm N σ x1 x2) fun v3 s3 =>
  if (v3 : Int32) = 0 then
    mR_canReplay_30 N s3 x1 x2
  else
    if (x1 : Int32) = (7) then
      zGet (s3 1) 1974 (7) fun v22 =>
      if (x2 : Int32) = v22 then
        mR_canReplay_26 N s3 x1 x2
      else
        mR_canReplay_30 N s3 x1 x2
    else
      mR_canReplay_26 N s3 x1 x2
set_option maxRecDepth 20000 in
set_option maxHeartbeats 2000000 in
theorem cR_canReplay {adr : Nat → Nat} {cI cZ : ClassId} {l : Launch} {D : va_G} {N : Nat} {σ : ST} {x1 : Int32} {x2 : Int32} (q : Int32 × ST) (hf : mR_canReplay N σ x1 x2 = some q) : zM l D (wdR adr cI cZ) yX8_canReplay cX8_canReplay 3 (some .boolean) ({ frames := 2, cells := 0, slots := 0, locals := 47 }) [.ref (adr 0), .int x1, .int x2] σ (zi q) := by
  refine zM_of sfR_ok rfl (Nat.le_of_ble_eq_true rfl) [(0, .ref (adr 0)), (1, .int x1), (2, .int x2)] rfl (fun X hX1 hX2 B => ?_)
  have B : zC X 3 (wdR adr cI cZ) cX8_canReplay RX8 (some .boolean) { frames := 2, cells := 0, slots := 0, locals := 47 } := B
  refine z_aload_n B dX8_canReplay_0 0 rfl rfl ?_
  refine z_iload_n B dX8_canReplay_1 1 rfl rfl ?_
  refine z_iload_n B dX8_canReplay_2 2 rfl rfl ?_
  refine z_callVi B (As := [.int x1, .int x2]) kcV_X8_81 dX8_canReplay_3 hf (fun q hq => cR_isTerm q hq) (wR_o (adr := adr) (cI := cI) (cZ := cZ)) rfl rfl rfl rfl (Nat.le_of_ble_eq_true rfl) rfl rfl ⟨Nat.le_of_ble_eq_true rfl, Nat.le_of_ble_eq_true rfl⟩ (fun v3 s3 hf => ?_)
  refine z_if_eq B 30 dX8_canReplay_6 (by decide) hf (fun hf => ?_) (fun hf => ?_)
  · exact tR_canReplay_30 B N s3 x1 x2 hf
  · refine z_iload_n B dX8_canReplay_9 1 rfl rfl ?_
    refine z_bipush B (7) dX8_canReplay_10 zc_bipush_7 ?_
    refine z_icmp_ne B 26 dX8_canReplay_12 (by decide) hf (fun hf => ?_) (fun hf => ?_)
    · exact tR_canReplay_26 B N s3 x1 x2 hf
    · refine z_iload_n B dX8_canReplay_15 2 rfl rfl ?_
      refine z_aload_n B dX8_canReplay_16 0 rfl rfl ?_
      refine fR_g_row B dX8_canReplay_17 ?_
      refine z_bipush B (7) dX8_canReplay_20 zc_bipush_7 ?_
      refine fR_l_row B dX8_canReplay_22 hf (fun v22 hf => ?_)
      refine z_icmp_ne B 30 dX8_canReplay_23 (by decide) hf (fun hf => ?_) (fun hf => ?_)
      · exact tR_canReplay_30 B N s3 x1 x2 hf
      · exact tR_canReplay_26 B N s3 x1 x2 hf
theorem dX8_streams_0 : decode cX8_streams 0 = .ok (.iconst 0, 1) := by decide +kernel
theorem dX8_streams_1 : decode cX8_streams 1 = .ok (.istore_n 2, 1) := by decide +kernel
theorem dX8_streams_2 : decode cX8_streams 2 = .ok (.iconst 0, 1) := by decide +kernel
theorem dX8_streams_3 : decode cX8_streams 3 = .ok (.istore_n 3, 1) := by decide +kernel
theorem dX8_streams_4 : decode cX8_streams 4 = .ok (.iload_n 3, 1) := by decide +kernel
theorem dX8_streams_5 : decode cX8_streams 5 = .ok (.bipush 6, 2) := by decide +kernel
theorem dX8_streams_7 : decode cX8_streams 7 = .ok (.if_icmp .ge 50, 3) := by decide +kernel
theorem dX8_streams_10 : decode cX8_streams 10 = .ok (.iload_n 3, 1) := by decide +kernel
theorem dX8_streams_11 : decode cX8_streams 11 = .ok (.invokestatic 89, 3) := by decide +kernel
theorem dX8_streams_14 : decode cX8_streams 14 = .ok (.istore 4, 2) := by decide +kernel
theorem dX8_streams_16 : decode cX8_streams 16 = .ok (.iload_n 2, 1) := by decide +kernel
theorem dX8_streams_17 : decode cX8_streams 17 = .ok (.aload_n 0, 1) := by decide +kernel
theorem dX8_streams_18 : decode cX8_streams 18 = .ok (.getfield 9, 3) := by decide +kernel
theorem dX8_streams_21 : decode cX8_streams 21 = .ok (.iload 4, 2) := by decide +kernel
theorem dX8_streams_23 : decode cX8_streams 23 = .ok (.iaload, 1) := by decide +kernel
theorem dX8_streams_24 : decode cX8_streams 24 = .ok (.iconst 1, 1) := by decide +kernel
theorem dX8_streams_25 : decode cX8_streams 25 = .ok (.if_icmp .ne 23, 3) := by decide +kernel
theorem dX8_streams_28 : decode cX8_streams 28 = .ok (.iload_n 1, 1) := by decide +kernel
theorem dX8_streams_29 : decode cX8_streams 29 = .ok (.ifCond .eq 15, 3) := by decide +kernel
theorem dX8_streams_32 : decode cX8_streams 32 = .ok (.aload_n 0, 1) := by decide +kernel
theorem dX8_streams_33 : decode cX8_streams 33 = .ok (.getfield 9, 3) := by decide +kernel
theorem dX8_streams_36 : decode cX8_streams 36 = .ok (.iload 4, 2) := by decide +kernel
theorem dX8_streams_38 : decode cX8_streams 38 = .ok (.iconst 5, 1) := by decide +kernel
theorem dX8_streams_39 : decode cX8_streams 39 = .ok (.iadd, 1) := by decide +kernel
theorem dX8_streams_40 : decode cX8_streams 40 = .ok (.iaload, 1) := by decide +kernel
theorem dX8_streams_41 : decode cX8_streams 41 = .ok (.ifCond .le 7, 3) := by decide +kernel
theorem dX8_streams_44 : decode cX8_streams 44 = .ok (.iconst 1, 1) := by decide +kernel
theorem dX8_streams_45 : decode cX8_streams 45 = .ok (.goto 4, 3) := by decide +kernel
theorem dX8_streams_48 : decode cX8_streams 48 = .ok (.iconst 0, 1) := by decide +kernel
theorem dX8_streams_49 : decode cX8_streams 49 = .ok (.iadd, 1) := by decide +kernel
theorem dX8_streams_50 : decode cX8_streams 50 = .ok (.istore_n 2, 1) := by decide +kernel
theorem dX8_streams_51 : decode cX8_streams 51 = .ok (.iinc 3 1, 3) := by decide +kernel
theorem dX8_streams_54 : decode cX8_streams 54 = .ok (.goto (-50), 3) := by decide +kernel
theorem dX8_streams_57 : decode cX8_streams 57 = .ok (.iload_n 2, 1) := by decide +kernel
theorem dX8_streams_58 : decode cX8_streams 58 = .ok (.ireturn, 1) := by decide +kernel
def mR_streams_49 (N : Nat) (hd4 : ST → Int32 → Int32 → Int32 → Option (Int32 × ST)) (σ : ST) (x1 : Int32) (x2 : Int32) (x3 : Int32) (x4 : Int32) (k0 : Int32) (k1 : Int32) : Option (Int32 × ST) :=
  zLet ((k0 : Int32) + k1) fun v49 =>
  zLet (x3 + (1)) fun v51 =>
  hd4 σ x1 v49 v51
set_option maxRecDepth 20000 in
set_option maxHeartbeats 2000000 in
theorem tR_streams_49 {adr : Nat → Nat} {cI cZ : ClassId} {X : zX} {q : Int32 × ST} (B : zC X 5 (wdR adr cI cZ) cX8_streams RX8 (some .int) { frames := 1, cells := 0, slots := 0, locals := 20 }) (N : Nat) (hd4 : ST → Int32 → Int32 → Int32 → Option (Int32 × ST)) (hh4 : ∀ (σ : ST) (x1 : Int32) (x2 : Int32) (x3 : Int32), hd4 σ x1 x2 x3 = some q → zJ X 5 (wdR adr cI cZ) (zi q) 4 [(0, .ref (adr 0)), (1, .int x1), (2, .int x2), (3, .int x3)] [] σ) (σ : ST) (x1 : Int32) (x2 : Int32) (x3 : Int32) (x4 : Int32) (k0 : Int32) (k1 : Int32) (hf : mR_streams_49 N hd4 σ x1 x2 x3 x4 k0 k1 = some q) : zJ X 5 (wdR adr cI cZ) (zi q) 49 [(0, .ref (adr 0)), (1, .int x1), (2, .int x2), (3, .int x3), (4, .int x4)] [.int k1, .int k0] σ := by
  refine z_iadd B dX8_streams_49 hf (fun v49 hf => ?_)
  refine z_istore_n B [(2, .int v49), (0, .ref (adr 0)), (1, .int x1), (3, .int x3), (4, .int x4)] dX8_streams_50 rfl (Nat.le_of_ble_eq_true rfl) rfl ?_
  refine z_iinc B (1) 3 (fun v51 => [(3, .int v51), (2, .int v49), (0, .ref (adr 0)), (1, .int x1), (4, .int x4)]) dX8_streams_51 hf zc_iconst_1 rfl (Nat.le_of_ble_eq_true rfl) (fun _ => rfl) (fun v51 hf => ?_)
  refine z_goto B 4 dX8_streams_54 (by decide) ?_
  exact z_loc [2, 3, 1, 0] _ rfl (hh4 σ x1 v49 v51 hf)
def mR_streams_48 (N : Nat) (hd4 : ST → Int32 → Int32 → Int32 → Option (Int32 × ST)) (σ : ST) (x1 : Int32) (x2 : Int32) (x3 : Int32) (x4 : Int32) (k0 : Int32) : Option (Int32 × ST) :=
  mR_streams_49 N hd4 σ x1 x2 x3 x4 k0 (0)
set_option maxRecDepth 20000 in
set_option maxHeartbeats 2000000 in
theorem tR_streams_48 {adr : Nat → Nat} {cI cZ : ClassId} {X : zX} {q : Int32 × ST} (B : zC X 5 (wdR adr cI cZ) cX8_streams RX8 (some .int) { frames := 1, cells := 0, slots := 0, locals := 20 }) (N : Nat) (hd4 : ST → Int32 → Int32 → Int32 → Option (Int32 × ST)) (hh4 : ∀ (σ : ST) (x1 : Int32) (x2 : Int32) (x3 : Int32), hd4 σ x1 x2 x3 = some q → zJ X 5 (wdR adr cI cZ) (zi q) 4 [(0, .ref (adr 0)), (1, .int x1), (2, .int x2), (3, .int x3)] [] σ) (σ : ST) (x1 : Int32) (x2 : Int32) (x3 : Int32) (x4 : Int32) (k0 : Int32) (hf : mR_streams_48 N hd4 σ x1 x2 x3 x4 k0 = some q) : zJ X 5 (wdR adr cI cZ) (zi q) 48 [(0, .ref (adr 0)), (1, .int x1), (2, .int x2), (3, .int x3), (4, .int x4)] [.int k0] σ := by
  refine z_iconst B (0) dX8_streams_48 zc_iconst_0 ?_
  exact tR_streams_49 B N hd4 hh4 σ x1 x2 x3 x4 k0 (0) hf
def mR_streams_44 (N : Nat) (hd4 : ST → Int32 → Int32 → Int32 → Option (Int32 × ST)) (σ : ST) (x1 : Int32) (x2 : Int32) (x3 : Int32) (x4 : Int32) (k0 : Int32) : Option (Int32 × ST) :=
  mR_streams_49 N hd4 σ x1 x2 x3 x4 k0 (1)
set_option maxRecDepth 20000 in
set_option maxHeartbeats 2000000 in
theorem tR_streams_44 {adr : Nat → Nat} {cI cZ : ClassId} {X : zX} {q : Int32 × ST} (B : zC X 5 (wdR adr cI cZ) cX8_streams RX8 (some .int) { frames := 1, cells := 0, slots := 0, locals := 20 }) (N : Nat) (hd4 : ST → Int32 → Int32 → Int32 → Option (Int32 × ST)) (hh4 : ∀ (σ : ST) (x1 : Int32) (x2 : Int32) (x3 : Int32), hd4 σ x1 x2 x3 = some q → zJ X 5 (wdR adr cI cZ) (zi q) 4 [(0, .ref (adr 0)), (1, .int x1), (2, .int x2), (3, .int x3)] [] σ) (σ : ST) (x1 : Int32) (x2 : Int32) (x3 : Int32) (x4 : Int32) (k0 : Int32) (hf : mR_streams_44 N hd4 σ x1 x2 x3 x4 k0 = some q) : zJ X 5 (wdR adr cI cZ) (zi q) 44 [(0, .ref (adr 0)), (1, .int x1), (2, .int x2), (3, .int x3), (4, .int x4)] [.int k0] σ := by
  refine z_iconst B (1) dX8_streams_44 zc_iconst_1 ?_
  refine z_goto B 49 dX8_streams_45 (by decide) ?_
  exact tR_streams_49 B N hd4 hh4 σ x1 x2 x3 x4 k0 (1) hf
def mR_streams_B4 (N : Nat) (hd4 : ST → Int32 → Int32 → Int32 → Option (Int32 × ST)) (σ : ST) (x1 : Int32) (x2 : Int32) (x3 : Int32) : Option (Int32 × ST) :=
  if ((6) : Int32) ≤ x3 then
    some (x2, σ)
  else
    zCall (mR_streamAt N σ x3) fun v11 s11 =>
    zGet (s11 1) 1974 v11 fun v23 =>
    if (v23 : Int32) = (1) then
      if (x1 : Int32) = 0 then
        mR_streams_44 N hd4 s11 x1 x2 x3 v11 x2
      else
        zLet ((v11 : Int32) + (5)) fun v39 =>
        zGet (s11 1) 1974 v39 fun v40 =>
        if (v40 : Int32) ≤ 0 then
          mR_streams_48 N hd4 s11 x1 x2 x3 v11 x2
        else
          mR_streams_44 N hd4 s11 x1 x2 x3 v11 x2
    else
      mR_streams_48 N hd4 s11 x1 x2 x3 v11 x2
def mR_streams_4 (N : Nat) : ST → Int32 → Int32 → Int32 → Option (Int32 × ST) := zIt (mR_streams_B4 N) (fun _ _ _ _ => none) N
set_option maxRecDepth 20000 in
set_option maxHeartbeats 2000000 in
theorem tR_streams_4 {adr : Nat → Nat} {cI cZ : ClassId} {X : zX} {q : Int32 × ST} (B : zC X 5 (wdR adr cI cZ) cX8_streams RX8 (some .int) { frames := 1, cells := 0, slots := 0, locals := 20 }) (N : Nat) : ∀ (σ : ST) (x1 : Int32) (x2 : Int32) (x3 : Int32), mR_streams_4 N σ x1 x2 x3 = some q → zJ X 5 (wdR adr cI cZ) (zi q) 4 [(0, .ref (adr 0)), (1, .int x1), (2, .int x2), (3, .int x3)] [] σ := by
  refine zIt_ind (P := fun (hd : ST → Int32 → Int32 → Int32 → Option (Int32 × ST)) => ∀ (σ : ST) (x1 : Int32) (x2 : Int32) (x3 : Int32), hd σ x1 x2 x3 = some q → zJ X 5 (wdR adr cI cZ) (zi q) 4 [(0, .ref (adr 0)), (1, .int x1), (2, .int x2), (3, .int x3)] [] σ) (fun _ _ _ _ hf => by cases hf) (fun hd4 hh4 => ?_) N
  intro σ x1 x2 x3 hf
  refine z_iload_n B dX8_streams_4 3 rfl rfl ?_
  refine z_bipush B (6) dX8_streams_5 zc_bipush_6 ?_
  refine z_icmp_ge B 57 dX8_streams_7 (by decide) hf (fun hf => ?_) (fun hf => ?_)
  · refine z_iload_n B dX8_streams_57 2 rfl rfl ?_
    exact z_ireturn B dX8_streams_58 hf
  · refine z_iload_n B dX8_streams_10 3 rfl rfl ?_
    refine z_callSi B (As := [.int x3]) kcS_X8_89 dX8_streams_11 hf (fun q hq => cR_streamAt q hq) rfl rfl (Nat.le_of_ble_eq_true rfl) rfl rfl ⟨Nat.le_of_ble_eq_true rfl, Nat.le_of_ble_eq_true rfl⟩ (fun v11 s11 hf => ?_)
    refine z_istore B [(4, .int v11), (0, .ref (adr 0)), (1, .int x1), (2, .int x2), (3, .int x3)] dX8_streams_14 (Nat.le_of_ble_eq_true rfl) rfl ?_
    refine z_iload_n B dX8_streams_16 3 rfl rfl ?_
    refine z_aload_n B dX8_streams_17 1 rfl rfl ?_
    refine fR_g_row B dX8_streams_18 ?_
    refine z_iload B dX8_streams_21 0 rfl ?_
    refine fR_l_row B dX8_streams_23 hf (fun v23 hf => ?_)
    refine z_iconst B (1) dX8_streams_24 zc_iconst_1 ?_
    refine z_icmp_ne B 48 dX8_streams_25 (by decide) hf (fun hf => ?_) (fun hf => ?_)
    · exact z_loc [1, 2, 3, 4, 0] _ rfl (tR_streams_48 B N hd4 hh4 s11 x1 x2 x3 v11 x2 hf)
    · refine z_iload_n B dX8_streams_28 2 rfl rfl ?_
      refine z_if_eq B 44 dX8_streams_29 (by decide) hf (fun hf => ?_) (fun hf => ?_)
      · exact z_loc [1, 2, 3, 4, 0] _ rfl (tR_streams_44 B N hd4 hh4 s11 x1 x2 x3 v11 x2 hf)
      · refine z_aload_n B dX8_streams_32 1 rfl rfl ?_
        refine fR_g_row B dX8_streams_33 ?_
        refine z_iload B dX8_streams_36 0 rfl ?_
        refine z_iconst B (5) dX8_streams_38 zc_iconst_5 ?_
        refine z_iadd B dX8_streams_39 hf (fun v39 hf => ?_)
        refine fR_l_row B dX8_streams_40 hf (fun v40 hf => ?_)
        refine z_if_le B 48 dX8_streams_41 (by decide) hf (fun hf => ?_) (fun hf => ?_)
        · exact z_loc [1, 2, 3, 4, 0] _ rfl (tR_streams_48 B N hd4 hh4 s11 x1 x2 x3 v11 x2 hf)
        · exact z_loc [1, 2, 3, 4, 0] _ rfl (tR_streams_44 B N hd4 hh4 s11 x1 x2 x3 v11 x2 hf)
def mR_streams (N : Nat) (σ : ST) (x1 : Int32) : Option (Int32 × ST) :=
  mR_streams_4 N σ x1 (0) (0)
set_option maxRecDepth 20000 in
set_option maxHeartbeats 2000000 in
theorem cR_streams {adr : Nat → Nat} {cI cZ : ClassId} {l : Launch} {D : va_G} {N : Nat} {σ : ST} {x1 : Int32} (q : Int32 × ST) (hf : mR_streams N σ x1 = some q) : zM l D (wdR adr cI cZ) yX8_streams cX8_streams 5 (some .int) ({ frames := 1, cells := 0, slots := 0, locals := 20 }) [.ref (adr 0), .int x1] σ (zi q) := by
  refine zM_of sfR_ok rfl (Nat.le_of_ble_eq_true rfl) [(0, .ref (adr 0)), (1, .int x1)] rfl (fun X hX1 hX2 B => ?_)
  have B : zC X 5 (wdR adr cI cZ) cX8_streams RX8 (some .int) { frames := 1, cells := 0, slots := 0, locals := 20 } := B
  refine z_iconst B (0) dX8_streams_0 zc_iconst_0 ?_
  refine z_istore_n B [(2, .int (0)), (0, .ref (adr 0)), (1, .int x1)] dX8_streams_1 rfl (Nat.le_of_ble_eq_true rfl) rfl ?_
  refine z_iconst B (0) dX8_streams_2 zc_iconst_0 ?_
  refine z_istore_n B [(3, .int (0)), (2, .int (0)), (0, .ref (adr 0)), (1, .int x1)] dX8_streams_3 rfl (Nat.le_of_ble_eq_true rfl) rfl ?_
  exact z_loc [2, 3, 1, 0] _ rfl (tR_streams_4 B N σ x1 (0) (0) hf)
theorem dX8_badOnes_0 : decode cX8_badOnes 0 = .ok (.iconst 0, 1) := by decide +kernel
theorem dX8_badOnes_1 : decode cX8_badOnes 1 = .ok (.istore_n 1, 1) := by decide +kernel
theorem dX8_badOnes_2 : decode cX8_badOnes 2 = .ok (.iconst 0, 1) := by decide +kernel
theorem dX8_badOnes_3 : decode cX8_badOnes 3 = .ok (.istore_n 2, 1) := by decide +kernel
theorem dX8_badOnes_4 : decode cX8_badOnes 4 = .ok (.iload_n 2, 1) := by decide +kernel
theorem dX8_badOnes_5 : decode cX8_badOnes 5 = .ok (.aload_n 0, 1) := by decide +kernel
theorem dX8_badOnes_6 : decode cX8_badOnes 6 = .ok (.getfield 9, 3) := by decide +kernel
theorem dX8_badOnes_9 : decode cX8_badOnes 9 = .ok (.bipush 7, 2) := by decide +kernel
theorem dX8_badOnes_11 : decode cX8_badOnes 11 = .ok (.iaload, 1) := by decide +kernel
theorem dX8_badOnes_12 : decode cX8_badOnes 12 = .ok (.if_icmp .ge 26, 3) := by decide +kernel
theorem dX8_badOnes_15 : decode cX8_badOnes 15 = .ok (.iload_n 1, 1) := by decide +kernel
theorem dX8_badOnes_16 : decode cX8_badOnes 16 = .ok (.aload_n 0, 1) := by decide +kernel
theorem dX8_badOnes_17 : decode cX8_badOnes 17 = .ok (.getfield 24, 3) := by decide +kernel
theorem dX8_badOnes_20 : decode cX8_badOnes 20 = .ok (.iload_n 2, 1) := by decide +kernel
theorem dX8_badOnes_21 : decode cX8_badOnes 21 = .ok (.baload, 1) := by decide +kernel
theorem dX8_badOnes_22 : decode cX8_badOnes 22 = .ok (.ifCond .eq 7, 3) := by decide +kernel
theorem dX8_badOnes_25 : decode cX8_badOnes 25 = .ok (.iconst 1, 1) := by decide +kernel
theorem dX8_badOnes_26 : decode cX8_badOnes 26 = .ok (.goto 4, 3) := by decide +kernel
theorem dX8_badOnes_29 : decode cX8_badOnes 29 = .ok (.iconst 0, 1) := by decide +kernel
theorem dX8_badOnes_30 : decode cX8_badOnes 30 = .ok (.iadd, 1) := by decide +kernel
theorem dX8_badOnes_31 : decode cX8_badOnes 31 = .ok (.istore_n 1, 1) := by decide +kernel
theorem dX8_badOnes_32 : decode cX8_badOnes 32 = .ok (.iinc 2 1, 3) := by decide +kernel
theorem dX8_badOnes_35 : decode cX8_badOnes 35 = .ok (.goto (-31), 3) := by decide +kernel
theorem dX8_badOnes_38 : decode cX8_badOnes 38 = .ok (.iload_n 1, 1) := by decide +kernel
theorem dX8_badOnes_39 : decode cX8_badOnes 39 = .ok (.ireturn, 1) := by decide +kernel
def mR_badOnes_30 (N : Nat) (hd4 : ST → Int32 → Int32 → Option (Int32 × ST)) (σ : ST) (x1 : Int32) (x2 : Int32) (k0 : Int32) (k1 : Int32) : Option (Int32 × ST) :=
  zLet ((k0 : Int32) + k1) fun v30 =>
  zLet (x2 + (1)) fun v32 =>
  hd4 σ v30 v32
set_option maxRecDepth 20000 in
set_option maxHeartbeats 2000000 in
theorem tR_badOnes_30 {adr : Nat → Nat} {cI cZ : ClassId} {X : zX} {q : Int32 × ST} (B : zC X 3 (wdR adr cI cZ) cX8_badOnes RX8 (some .int) { frames := 0, cells := 0, slots := 0, locals := 0 }) (N : Nat) (hd4 : ST → Int32 → Int32 → Option (Int32 × ST)) (hh4 : ∀ (σ : ST) (x1 : Int32) (x2 : Int32), hd4 σ x1 x2 = some q → zJ X 3 (wdR adr cI cZ) (zi q) 4 [(0, .ref (adr 0)), (1, .int x1), (2, .int x2)] [] σ) (σ : ST) (x1 : Int32) (x2 : Int32) (k0 : Int32) (k1 : Int32) (hf : mR_badOnes_30 N hd4 σ x1 x2 k0 k1 = some q) : zJ X 3 (wdR adr cI cZ) (zi q) 30 [(0, .ref (adr 0)), (1, .int x1), (2, .int x2)] [.int k1, .int k0] σ := by
  refine z_iadd B dX8_badOnes_30 hf (fun v30 hf => ?_)
  refine z_istore_n B [(1, .int v30), (0, .ref (adr 0)), (2, .int x2)] dX8_badOnes_31 rfl (Nat.le_of_ble_eq_true rfl) rfl ?_
  refine z_iinc B (1) 2 (fun v32 => [(2, .int v32), (1, .int v30), (0, .ref (adr 0))]) dX8_badOnes_32 hf zc_iconst_1 rfl (Nat.le_of_ble_eq_true rfl) (fun _ => rfl) (fun v32 hf => ?_)
  refine z_goto B 4 dX8_badOnes_35 (by decide) ?_
  exact z_loc [2, 1, 0] _ rfl (hh4 σ v30 v32 hf)
def mR_badOnes_B4 (N : Nat) (hd4 : ST → Int32 → Int32 → Option (Int32 × ST)) (σ : ST) (x1 : Int32) (x2 : Int32) : Option (Int32 × ST) :=
  zGet (σ 1) 1974 (7) fun v11 =>
  if (v11 : Int32) ≤ x2 then
    some (x1, σ)
  else
    zGet (σ 5) 10000 x2 fun v21 =>
    if (v21 : Int32) = 0 then
      mR_badOnes_30 N hd4 σ x1 x2 x1 (0)
    else
      mR_badOnes_30 N hd4 σ x1 x2 x1 (1)
def mR_badOnes_4 (N : Nat) : ST → Int32 → Int32 → Option (Int32 × ST) := zIt (mR_badOnes_B4 N) (fun _ _ _ => none) N
set_option maxRecDepth 20000 in
set_option maxHeartbeats 2000000 in
theorem tR_badOnes_4 {adr : Nat → Nat} {cI cZ : ClassId} {X : zX} {q : Int32 × ST} (B : zC X 3 (wdR adr cI cZ) cX8_badOnes RX8 (some .int) { frames := 0, cells := 0, slots := 0, locals := 0 }) (N : Nat) : ∀ (σ : ST) (x1 : Int32) (x2 : Int32), mR_badOnes_4 N σ x1 x2 = some q → zJ X 3 (wdR adr cI cZ) (zi q) 4 [(0, .ref (adr 0)), (1, .int x1), (2, .int x2)] [] σ := by
  refine zIt_ind (P := fun (hd : ST → Int32 → Int32 → Option (Int32 × ST)) => ∀ (σ : ST) (x1 : Int32) (x2 : Int32), hd σ x1 x2 = some q → zJ X 3 (wdR adr cI cZ) (zi q) 4 [(0, .ref (adr 0)), (1, .int x1), (2, .int x2)] [] σ) (fun _ _ _ hf => by cases hf) (fun hd4 hh4 => ?_) N
  intro σ x1 x2 hf
  refine z_iload_n B dX8_badOnes_4 2 rfl rfl ?_
  refine z_aload_n B dX8_badOnes_5 0 rfl rfl ?_
  refine fR_g_row B dX8_badOnes_6 ?_
  refine z_bipush B (7) dX8_badOnes_9 zc_bipush_7 ?_
  refine fR_l_row B dX8_badOnes_11 hf (fun v11 hf => ?_)
  refine z_icmp_ge B 38 dX8_badOnes_12 (by decide) hf (fun hf => ?_) (fun hf => ?_)
  · refine z_iload_n B dX8_badOnes_38 1 rfl rfl ?_
    exact z_ireturn B dX8_badOnes_39 hf
  · refine z_iload_n B dX8_badOnes_15 1 rfl rfl ?_
    refine z_aload_n B dX8_badOnes_16 0 rfl rfl ?_
    refine fR_g_isBad B dX8_badOnes_17 ?_
    refine z_iload_n B dX8_badOnes_20 2 rfl rfl ?_
    refine fR_l_isBad B dX8_badOnes_21 hf (fun v21 hf => ?_)
    refine z_if_eq B 29 dX8_badOnes_22 (by decide) hf (fun hf => ?_) (fun hf => ?_)
    · refine z_iconst B (0) dX8_badOnes_29 zc_iconst_0 ?_
      exact tR_badOnes_30 B N hd4 hh4 σ x1 x2 x1 (0) hf
    · refine z_iconst B (1) dX8_badOnes_25 zc_iconst_1 ?_
      refine z_goto B 30 dX8_badOnes_26 (by decide) ?_
      exact tR_badOnes_30 B N hd4 hh4 σ x1 x2 x1 (1) hf
def mR_badOnes (N : Nat) (σ : ST) : Option (Int32 × ST) :=
  mR_badOnes_4 N σ (0) (0)
set_option maxRecDepth 20000 in
set_option maxHeartbeats 2000000 in
theorem cR_badOnes {adr : Nat → Nat} {cI cZ : ClassId} {l : Launch} {D : va_G} {N : Nat} {σ : ST} (q : Int32 × ST) (hf : mR_badOnes N σ = some q) : zM l D (wdR adr cI cZ) yX8_badOnes cX8_badOnes 3 (some .int) ({ frames := 0, cells := 0, slots := 0, locals := 0 }) [.ref (adr 0)] σ (zi q) := by
  refine zM_of sfR_ok rfl (Nat.le_of_ble_eq_true rfl) [(0, .ref (adr 0))] rfl (fun X hX1 hX2 B => ?_)
  have B : zC X 3 (wdR adr cI cZ) cX8_badOnes RX8 (some .int) { frames := 0, cells := 0, slots := 0, locals := 0 } := B
  refine z_iconst B (0) dX8_badOnes_0 zc_iconst_0 ?_
  refine z_istore_n B [(1, .int (0)), (0, .ref (adr 0))] dX8_badOnes_1 rfl (Nat.le_of_ble_eq_true rfl) rfl ?_
  refine z_iconst B (0) dX8_badOnes_2 zc_iconst_0 ?_
  refine z_istore_n B [(2, .int (0)), (1, .int (0)), (0, .ref (adr 0))] dX8_badOnes_3 rfl (Nat.le_of_ble_eq_true rfl) rfl ?_
  exact z_loc [2, 1, 0] _ rfl (tR_badOnes_4 B N σ (0) (0) hf)
theorem dX8_tells_0 : decode cX8_tells 0 = .ok (.iload_n 1, 1) := by decide +kernel
theorem dX8_tells_1 : decode cX8_tells 1 = .ok (.tableswitch 210 10 33 #[111, 116, 121, 127, 133, 141, 149, 157, 165, 170, 210, 210, 210, 210, 210, 210, 210, 210, 210, 210, 178, 186, 194, 202], 111) := by decide +kernel
theorem dX8_tells_112 : decode cX8_tells 112 = .ok (.aload_n 0, 1) := by decide +kernel
theorem dX8_tells_113 : decode cX8_tells 113 = .ok (.invokevirtual 110, 3) := by decide +kernel
theorem dX8_tells_116 : decode cX8_tells 116 = .ok (.ireturn, 1) := by decide +kernel
theorem dX8_tells_117 : decode cX8_tells 117 = .ok (.aload_n 0, 1) := by decide +kernel
theorem dX8_tells_118 : decode cX8_tells 118 = .ok (.invokevirtual 102, 3) := by decide +kernel
theorem dX8_tells_121 : decode cX8_tells 121 = .ok (.ireturn, 1) := by decide +kernel
theorem dX8_tells_122 : decode cX8_tells 122 = .ok (.aload_n 0, 1) := by decide +kernel
theorem dX8_tells_123 : decode cX8_tells 123 = .ok (.iconst 0, 1) := by decide +kernel
theorem dX8_tells_124 : decode cX8_tells 124 = .ok (.invokevirtual 307, 3) := by decide +kernel
theorem dX8_tells_127 : decode cX8_tells 127 = .ok (.ireturn, 1) := by decide +kernel
theorem dX8_tells_128 : decode cX8_tells 128 = .ok (.aload_n 0, 1) := by decide +kernel
theorem dX8_tells_129 : decode cX8_tells 129 = .ok (.iconst 1, 1) := by decide +kernel
theorem dX8_tells_130 : decode cX8_tells 130 = .ok (.invokevirtual 307, 3) := by decide +kernel
theorem dX8_tells_133 : decode cX8_tells 133 = .ok (.ireturn, 1) := by decide +kernel
theorem dX8_tells_134 : decode cX8_tells 134 = .ok (.aload_n 0, 1) := by decide +kernel
theorem dX8_tells_135 : decode cX8_tells 135 = .ok (.getfield 9, 3) := by decide +kernel
theorem dX8_tells_138 : decode cX8_tells 138 = .ok (.bipush 20, 2) := by decide +kernel
theorem dX8_tells_140 : decode cX8_tells 140 = .ok (.iaload, 1) := by decide +kernel
theorem dX8_tells_141 : decode cX8_tells 141 = .ok (.ireturn, 1) := by decide +kernel
theorem dX8_tells_142 : decode cX8_tells 142 = .ok (.aload_n 0, 1) := by decide +kernel
theorem dX8_tells_143 : decode cX8_tells 143 = .ok (.getfield 9, 3) := by decide +kernel
theorem dX8_tells_146 : decode cX8_tells 146 = .ok (.bipush 21, 2) := by decide +kernel
theorem dX8_tells_148 : decode cX8_tells 148 = .ok (.iaload, 1) := by decide +kernel
theorem dX8_tells_149 : decode cX8_tells 149 = .ok (.ireturn, 1) := by decide +kernel
theorem dX8_tells_150 : decode cX8_tells 150 = .ok (.aload_n 0, 1) := by decide +kernel
theorem dX8_tells_151 : decode cX8_tells 151 = .ok (.getfield 9, 3) := by decide +kernel
theorem dX8_tells_154 : decode cX8_tells 154 = .ok (.bipush 22, 2) := by decide +kernel
theorem dX8_tells_156 : decode cX8_tells 156 = .ok (.iaload, 1) := by decide +kernel
theorem dX8_tells_157 : decode cX8_tells 157 = .ok (.ireturn, 1) := by decide +kernel
theorem dX8_tells_158 : decode cX8_tells 158 = .ok (.aload_n 0, 1) := by decide +kernel
theorem dX8_tells_159 : decode cX8_tells 159 = .ok (.getfield 9, 3) := by decide +kernel
theorem dX8_tells_162 : decode cX8_tells 162 = .ok (.bipush 23, 2) := by decide +kernel
theorem dX8_tells_164 : decode cX8_tells 164 = .ok (.iaload, 1) := by decide +kernel
theorem dX8_tells_165 : decode cX8_tells 165 = .ok (.ireturn, 1) := by decide +kernel
theorem dX8_tells_166 : decode cX8_tells 166 = .ok (.aload_n 0, 1) := by decide +kernel
theorem dX8_tells_167 : decode cX8_tells 167 = .ok (.invokevirtual 311, 3) := by decide +kernel
theorem dX8_tells_170 : decode cX8_tells 170 = .ok (.ireturn, 1) := by decide +kernel
theorem dX8_tells_171 : decode cX8_tells 171 = .ok (.aload_n 0, 1) := by decide +kernel
theorem dX8_tells_172 : decode cX8_tells 172 = .ok (.getfield 9, 3) := by decide +kernel
theorem dX8_tells_175 : decode cX8_tells 175 = .ok (.bipush 24, 2) := by decide +kernel
theorem dX8_tells_177 : decode cX8_tells 177 = .ok (.iaload, 1) := by decide +kernel
theorem dX8_tells_178 : decode cX8_tells 178 = .ok (.ireturn, 1) := by decide +kernel
theorem dX8_tells_179 : decode cX8_tells 179 = .ok (.aload_n 0, 1) := by decide +kernel
theorem dX8_tells_180 : decode cX8_tells 180 = .ok (.getfield 9, 3) := by decide +kernel
theorem dX8_tells_183 : decode cX8_tells 183 = .ok (.bipush 25, 2) := by decide +kernel
theorem dX8_tells_185 : decode cX8_tells 185 = .ok (.iaload, 1) := by decide +kernel
theorem dX8_tells_186 : decode cX8_tells 186 = .ok (.ireturn, 1) := by decide +kernel
theorem dX8_tells_187 : decode cX8_tells 187 = .ok (.aload_n 0, 1) := by decide +kernel
theorem dX8_tells_188 : decode cX8_tells 188 = .ok (.getfield 9, 3) := by decide +kernel
theorem dX8_tells_191 : decode cX8_tells 191 = .ok (.bipush 26, 2) := by decide +kernel
theorem dX8_tells_193 : decode cX8_tells 193 = .ok (.iaload, 1) := by decide +kernel
theorem dX8_tells_194 : decode cX8_tells 194 = .ok (.ireturn, 1) := by decide +kernel
theorem dX8_tells_195 : decode cX8_tells 195 = .ok (.aload_n 0, 1) := by decide +kernel
theorem dX8_tells_196 : decode cX8_tells 196 = .ok (.getfield 9, 3) := by decide +kernel
theorem dX8_tells_199 : decode cX8_tells 199 = .ok (.bipush 27, 2) := by decide +kernel
theorem dX8_tells_201 : decode cX8_tells 201 = .ok (.iaload, 1) := by decide +kernel
theorem dX8_tells_202 : decode cX8_tells 202 = .ok (.ireturn, 1) := by decide +kernel
theorem dX8_tells_203 : decode cX8_tells 203 = .ok (.aload_n 0, 1) := by decide +kernel
theorem dX8_tells_204 : decode cX8_tells 204 = .ok (.getfield 9, 3) := by decide +kernel
theorem dX8_tells_207 : decode cX8_tells 207 = .ok (.bipush 28, 2) := by decide +kernel
theorem dX8_tells_209 : decode cX8_tells 209 = .ok (.iaload, 1) := by decide +kernel
theorem dX8_tells_210 : decode cX8_tells 210 = .ok (.ireturn, 1) := by decide +kernel
theorem dX8_tells_211 : decode cX8_tells 211 = .ok (.iload_n 1, 1) := by decide +kernel
theorem dX8_tells_212 : decode cX8_tells 212 = .ok (.i2l, 1) := by decide +kernel
theorem dX8_tells_213 : decode cX8_tells 213 = .ok (.lconst 0, 1) := by decide +kernel
theorem dX8_tells_214 : decode cX8_tells 214 = .ok (.ldc2_w 79, 3) := by decide +kernel
theorem dX8_tells_217 : decode cX8_tells 217 = .ok (.invokestatic 71, 3) := by decide +kernel
theorem dX8_tells_220 : decode cX8_tells 220 = .ok (.ifCond .eq 15, 3) := by decide +kernel
theorem dX8_tells_223 : decode cX8_tells 223 = .ok (.aload_n 0, 1) := by decide +kernel
theorem dX8_tells_224 : decode cX8_tells 224 = .ok (.getfield 9, 3) := by decide +kernel
theorem dX8_tells_227 : decode cX8_tells 227 = .ok (.bipush 10, 2) := by decide +kernel
theorem dX8_tells_229 : decode cX8_tells 229 = .ok (.iload_n 1, 1) := by decide +kernel
theorem dX8_tells_230 : decode cX8_tells 230 = .ok (.iadd, 1) := by decide +kernel
theorem dX8_tells_231 : decode cX8_tells 231 = .ok (.iaload, 1) := by decide +kernel
theorem dX8_tells_232 : decode cX8_tells 232 = .ok (.goto 30, 3) := by decide +kernel
theorem dX8_tells_235 : decode cX8_tells 235 = .ok (.iload_n 1, 1) := by decide +kernel
theorem dX8_tells_236 : decode cX8_tells 236 = .ok (.i2l, 1) := by decide +kernel
theorem dX8_tells_237 : decode cX8_tells 237 = .ok (.ldc2_w 208, 3) := by decide +kernel
theorem dX8_tells_240 : decode cX8_tells 240 = .ok (.ldc2_w 314, 3) := by decide +kernel
theorem dX8_tells_243 : decode cX8_tells 243 = .ok (.invokestatic 71, 3) := by decide +kernel
theorem dX8_tells_246 : decode cX8_tells 246 = .ok (.ifCond .eq 15, 3) := by decide +kernel
theorem dX8_tells_249 : decode cX8_tells 249 = .ok (.aload_n 0, 1) := by decide +kernel
theorem dX8_tells_250 : decode cX8_tells 250 = .ok (.getfield 9, 3) := by decide +kernel
theorem dX8_tells_253 : decode cX8_tells 253 = .ok (.iload_n 1, 1) := by decide +kernel
theorem dX8_tells_254 : decode cX8_tells 254 = .ok (.bipush 20, 2) := by decide +kernel
theorem dX8_tells_256 : decode cX8_tells 256 = .ok (.isub, 1) := by decide +kernel
theorem dX8_tells_257 : decode cX8_tells 257 = .ok (.iaload, 1) := by decide +kernel
theorem dX8_tells_258 : decode cX8_tells 258 = .ok (.goto 4, 3) := by decide +kernel
theorem dX8_tells_261 : decode cX8_tells 261 = .ok (.iconst (-1), 1) := by decide +kernel
theorem dX8_tells_262 : decode cX8_tells 262 = .ok (.ireturn, 1) := by decide +kernel
def mR_tells_262 (N : Nat) (σ : ST) (x1 : Int32) (k0 : Int32) : Option (Int32 × ST) :=
  some (k0, σ)
set_option maxRecDepth 20000 in
set_option maxHeartbeats 2000000 in
theorem tR_tells_262 {adr : Nat → Nat} {cI cZ : ClassId} {X : zX} {q : Int32 × ST} (B : zC X 2 (wdR adr cI cZ) cX8_tells RX8 (some .int) { frames := 2, cells := 0, slots := 0, locals := 44 }) (N : Nat) (σ : ST) (x1 : Int32) (k0 : Int32) (hf : mR_tells_262 N σ x1 k0 = some q) : zJ X 2 (wdR adr cI cZ) (zi q) 262 [(0, .ref (adr 0)), (1, .int x1)] [.int k0] σ := by
  exact z_ireturn B dX8_tells_262 hf
def mR_tells (N : Nat) (σ : ST) (x1 : Int32) : Option (Int32 × ST) :=
  if (x1 : Int32) = (10) then
    zCall (mR_many N σ) fun v113 s113 =>
    some (v113, s113)
  else
  if (x1 : Int32) = (11) then
    zCall (mR_manyAhead N σ) fun v118 s118 =>
    some (v118, s118)
  else
  if (x1 : Int32) = (12) then
    zCall (mR_streams N σ (0)) fun v124 s124 =>
    some (v124, s124)
  else
  if (x1 : Int32) = (13) then
    zCall (mR_streams N σ (1)) fun v130 s130 =>
    some (v130, s130)
  else
  if (x1 : Int32) = (14) then
    zGet (σ 1) 1974 (20) fun v140 =>
    some (v140, σ)
  else
  if (x1 : Int32) = (15) then
    zGet (σ 1) 1974 (21) fun v148 =>
    some (v148, σ)
  else
  if (x1 : Int32) = (16) then
    zGet (σ 1) 1974 (22) fun v156 =>
    some (v156, σ)
  else
  if (x1 : Int32) = (17) then
    zGet (σ 1) 1974 (23) fun v164 =>
    some (v164, σ)
  else
  if (x1 : Int32) = (18) then
    zCall (mR_badOnes N σ) fun v167 s167 =>
    some (v167, s167)
  else
  if (x1 : Int32) = (19) then
    zGet (σ 1) 1974 (24) fun v177 =>
    some (v177, σ)
  else
  if (x1 : Int32) = (30) then
    zGet (σ 1) 1974 (25) fun v185 =>
    some (v185, σ)
  else
  if (x1 : Int32) = (31) then
    zGet (σ 1) 1974 (26) fun v193 =>
    some (v193, σ)
  else
  if (x1 : Int32) = (32) then
    zGet (σ 1) 1974 (27) fun v201 =>
    some (v201, σ)
  else
  if (x1 : Int32) = (33) then
    zGet (σ 1) 1974 (28) fun v209 =>
    some (v209, σ)
  else
    zLet ((x1 : Int32).toInt64) fun v212 =>
    zCall (mR_in N σ v212 (0) (9)) fun v217 s217 =>
    if (v217 : Int32) = 0 then
      zLet ((x1 : Int32).toInt64) fun v236 =>
      zCall (mR_in N s217 v236 (20) (29)) fun v243 s243 =>
      if (v243 : Int32) = 0 then
        mR_tells_262 N s243 x1 (-1)
      else
        zLet ((x1 : Int32) - (20)) fun v256 =>
        zGet (s243 1) 1974 v256 fun v257 =>
        mR_tells_262 N s243 x1 v257
    else
      zLet (((10) : Int32) + x1) fun v230 =>
      zGet (s217 1) 1974 v230 fun v231 =>
      mR_tells_262 N s217 x1 v231
set_option maxRecDepth 20000 in
set_option maxHeartbeats 2000000 in
theorem cR_tells {adr : Nat → Nat} {cI cZ : ClassId} {l : Launch} {D : va_G} {N : Nat} {σ : ST} {x1 : Int32} (q : Int32 × ST) (hf : mR_tells N σ x1 = some q) : zM l D (wdR adr cI cZ) yX8_tells cX8_tells 2 (some .int) ({ frames := 2, cells := 0, slots := 0, locals := 44 }) [.ref (adr 0), .int x1] σ (zi q) := by
  refine zM_of sfR_ok rfl (Nat.le_of_ble_eq_true rfl) [(0, .ref (adr 0)), (1, .int x1)] rfl (fun X hX1 hX2 B => ?_)
  have B : zC X 2 (wdR adr cI cZ) cX8_tells RX8 (some .int) { frames := 2, cells := 0, slots := 0, locals := 44 } := B
  refine z_iload_n B dX8_tells_0 1 rfl rfl ?_
  by_cases h1_10 : x1 = (10)
  · replace hf := zIfp h1_10 hf
    refine z_tabIn B (off := 111) 112 dX8_tells_1 (by rw [h1_10]; decide) (by rw [h1_10]; decide) (by rw [h1_10]; decide) (by decide) ?_
    refine z_aload_n B dX8_tells_112 0 rfl rfl ?_
    refine z_callVi B (As := []) kcV_X8_110 dX8_tells_113 hf (fun q hq => cR_many q hq) (wR_o (adr := adr) (cI := cI) (cZ := cZ)) rfl rfl rfl rfl (Nat.le_of_ble_eq_true rfl) rfl rfl ⟨Nat.le_of_ble_eq_true rfl, Nat.le_of_ble_eq_true rfl⟩ (fun v113 s113 hf => ?_)
    exact z_ireturn B dX8_tells_116 hf
  replace hf := zIfn h1_10 hf
  by_cases h1_11 : x1 = (11)
  · replace hf := zIfp h1_11 hf
    refine z_tabIn B (off := 116) 117 dX8_tells_1 (by rw [h1_11]; decide) (by rw [h1_11]; decide) (by rw [h1_11]; decide) (by decide) ?_
    refine z_aload_n B dX8_tells_117 0 rfl rfl ?_
    refine z_callVi B (As := []) kcV_X8_102 dX8_tells_118 hf (fun q hq => cR_manyAhead q hq) (wR_o (adr := adr) (cI := cI) (cZ := cZ)) rfl rfl rfl rfl (Nat.le_of_ble_eq_true rfl) rfl rfl ⟨Nat.le_of_ble_eq_true rfl, Nat.le_of_ble_eq_true rfl⟩ (fun v118 s118 hf => ?_)
    exact z_ireturn B dX8_tells_121 hf
  replace hf := zIfn h1_11 hf
  by_cases h1_12 : x1 = (12)
  · replace hf := zIfp h1_12 hf
    refine z_tabIn B (off := 121) 122 dX8_tells_1 (by rw [h1_12]; decide) (by rw [h1_12]; decide) (by rw [h1_12]; decide) (by decide) ?_
    refine z_aload_n B dX8_tells_122 0 rfl rfl ?_
    refine z_iconst B (0) dX8_tells_123 zc_iconst_0 ?_
    refine z_callVi B (As := [.int (0)]) kcV_X8_307 dX8_tells_124 hf (fun q hq => cR_streams q hq) (wR_o (adr := adr) (cI := cI) (cZ := cZ)) rfl rfl rfl rfl (Nat.le_of_ble_eq_true rfl) rfl rfl ⟨Nat.le_of_ble_eq_true rfl, Nat.le_of_ble_eq_true rfl⟩ (fun v124 s124 hf => ?_)
    exact z_ireturn B dX8_tells_127 hf
  replace hf := zIfn h1_12 hf
  by_cases h1_13 : x1 = (13)
  · replace hf := zIfp h1_13 hf
    refine z_tabIn B (off := 127) 128 dX8_tells_1 (by rw [h1_13]; decide) (by rw [h1_13]; decide) (by rw [h1_13]; decide) (by decide) ?_
    refine z_aload_n B dX8_tells_128 0 rfl rfl ?_
    refine z_iconst B (1) dX8_tells_129 zc_iconst_1 ?_
    refine z_callVi B (As := [.int (1)]) kcV_X8_307 dX8_tells_130 hf (fun q hq => cR_streams q hq) (wR_o (adr := adr) (cI := cI) (cZ := cZ)) rfl rfl rfl rfl (Nat.le_of_ble_eq_true rfl) rfl rfl ⟨Nat.le_of_ble_eq_true rfl, Nat.le_of_ble_eq_true rfl⟩ (fun v130 s130 hf => ?_)
    exact z_ireturn B dX8_tells_133 hf
  replace hf := zIfn h1_13 hf
  by_cases h1_14 : x1 = (14)
  · replace hf := zIfp h1_14 hf
    refine z_tabIn B (off := 133) 134 dX8_tells_1 (by rw [h1_14]; decide) (by rw [h1_14]; decide) (by rw [h1_14]; decide) (by decide) ?_
    refine z_aload_n B dX8_tells_134 0 rfl rfl ?_
    refine fR_g_row B dX8_tells_135 ?_
    refine z_bipush B (20) dX8_tells_138 zc_bipush_20 ?_
    refine fR_l_row B dX8_tells_140 hf (fun v140 hf => ?_)
    exact z_ireturn B dX8_tells_141 hf
  replace hf := zIfn h1_14 hf
  by_cases h1_15 : x1 = (15)
  · replace hf := zIfp h1_15 hf
    refine z_tabIn B (off := 141) 142 dX8_tells_1 (by rw [h1_15]; decide) (by rw [h1_15]; decide) (by rw [h1_15]; decide) (by decide) ?_
    refine z_aload_n B dX8_tells_142 0 rfl rfl ?_
    refine fR_g_row B dX8_tells_143 ?_
    refine z_bipush B (21) dX8_tells_146 zc_bipush_21 ?_
    refine fR_l_row B dX8_tells_148 hf (fun v148 hf => ?_)
    exact z_ireturn B dX8_tells_149 hf
  replace hf := zIfn h1_15 hf
  by_cases h1_16 : x1 = (16)
  · replace hf := zIfp h1_16 hf
    refine z_tabIn B (off := 149) 150 dX8_tells_1 (by rw [h1_16]; decide) (by rw [h1_16]; decide) (by rw [h1_16]; decide) (by decide) ?_
    refine z_aload_n B dX8_tells_150 0 rfl rfl ?_
    refine fR_g_row B dX8_tells_151 ?_
    refine z_bipush B (22) dX8_tells_154 zc_bipush_22 ?_
    refine fR_l_row B dX8_tells_156 hf (fun v156 hf => ?_)
    exact z_ireturn B dX8_tells_157 hf
  replace hf := zIfn h1_16 hf
  by_cases h1_17 : x1 = (17)
  · replace hf := zIfp h1_17 hf
    refine z_tabIn B (off := 157) 158 dX8_tells_1 (by rw [h1_17]; decide) (by rw [h1_17]; decide) (by rw [h1_17]; decide) (by decide) ?_
    refine z_aload_n B dX8_tells_158 0 rfl rfl ?_
    refine fR_g_row B dX8_tells_159 ?_
    refine z_bipush B (23) dX8_tells_162 zc_bipush_23 ?_
    refine fR_l_row B dX8_tells_164 hf (fun v164 hf => ?_)
    exact z_ireturn B dX8_tells_165 hf
  replace hf := zIfn h1_17 hf
  by_cases h1_18 : x1 = (18)
  · replace hf := zIfp h1_18 hf
    refine z_tabIn B (off := 165) 166 dX8_tells_1 (by rw [h1_18]; decide) (by rw [h1_18]; decide) (by rw [h1_18]; decide) (by decide) ?_
    refine z_aload_n B dX8_tells_166 0 rfl rfl ?_
    refine z_callVi B (As := []) kcV_X8_311 dX8_tells_167 hf (fun q hq => cR_badOnes q hq) (wR_o (adr := adr) (cI := cI) (cZ := cZ)) rfl rfl rfl rfl (Nat.le_of_ble_eq_true rfl) rfl rfl ⟨Nat.le_of_ble_eq_true rfl, Nat.le_of_ble_eq_true rfl⟩ (fun v167 s167 hf => ?_)
    exact z_ireturn B dX8_tells_170 hf
  replace hf := zIfn h1_18 hf
  by_cases h1_19 : x1 = (19)
  · replace hf := zIfp h1_19 hf
    refine z_tabIn B (off := 170) 171 dX8_tells_1 (by rw [h1_19]; decide) (by rw [h1_19]; decide) (by rw [h1_19]; decide) (by decide) ?_
    refine z_aload_n B dX8_tells_171 0 rfl rfl ?_
    refine fR_g_row B dX8_tells_172 ?_
    refine z_bipush B (24) dX8_tells_175 zc_bipush_24 ?_
    refine fR_l_row B dX8_tells_177 hf (fun v177 hf => ?_)
    exact z_ireturn B dX8_tells_178 hf
  replace hf := zIfn h1_19 hf
  by_cases h1_30 : x1 = (30)
  · replace hf := zIfp h1_30 hf
    refine z_tabIn B (off := 178) 179 dX8_tells_1 (by rw [h1_30]; decide) (by rw [h1_30]; decide) (by rw [h1_30]; decide) (by decide) ?_
    refine z_aload_n B dX8_tells_179 0 rfl rfl ?_
    refine fR_g_row B dX8_tells_180 ?_
    refine z_bipush B (25) dX8_tells_183 zc_bipush_25 ?_
    refine fR_l_row B dX8_tells_185 hf (fun v185 hf => ?_)
    exact z_ireturn B dX8_tells_186 hf
  replace hf := zIfn h1_30 hf
  by_cases h1_31 : x1 = (31)
  · replace hf := zIfp h1_31 hf
    refine z_tabIn B (off := 186) 187 dX8_tells_1 (by rw [h1_31]; decide) (by rw [h1_31]; decide) (by rw [h1_31]; decide) (by decide) ?_
    refine z_aload_n B dX8_tells_187 0 rfl rfl ?_
    refine fR_g_row B dX8_tells_188 ?_
    refine z_bipush B (26) dX8_tells_191 zc_bipush_26 ?_
    refine fR_l_row B dX8_tells_193 hf (fun v193 hf => ?_)
    exact z_ireturn B dX8_tells_194 hf
  replace hf := zIfn h1_31 hf
  by_cases h1_32 : x1 = (32)
  · replace hf := zIfp h1_32 hf
    refine z_tabIn B (off := 194) 195 dX8_tells_1 (by rw [h1_32]; decide) (by rw [h1_32]; decide) (by rw [h1_32]; decide) (by decide) ?_
    refine z_aload_n B dX8_tells_195 0 rfl rfl ?_
    refine fR_g_row B dX8_tells_196 ?_
    refine z_bipush B (27) dX8_tells_199 zc_bipush_27 ?_
    refine fR_l_row B dX8_tells_201 hf (fun v201 hf => ?_)
    exact z_ireturn B dX8_tells_202 hf
  replace hf := zIfn h1_32 hf
  by_cases h1_33 : x1 = (33)
  · replace hf := zIfp h1_33 hf
    refine z_tabIn B (off := 202) 203 dX8_tells_1 (by rw [h1_33]; decide) (by rw [h1_33]; decide) (by rw [h1_33]; decide) (by decide) ?_
    refine z_aload_n B dX8_tells_203 0 rfl rfl ?_
    refine fR_g_row B dX8_tells_204 ?_
    refine z_bipush B (28) dX8_tells_207 zc_bipush_28 ?_
    refine fR_l_row B dX8_tells_209 hf (fun v209 hf => ?_)
    exact z_ireturn B dX8_tells_210 hf
  replace hf := zIfn h1_33 hf
  have kd1 : zJ X 2 (wdR adr cI cZ) (zi q) 211 [(0, .ref (adr 0)), (1, .int x1)] [] σ := by
    refine z_iload_n B dX8_tells_211 1 rfl rfl ?_
    refine z_i2l B dX8_tells_212 hf (fun v212 hf => ?_)
    refine z_lconst B (0) dX8_tells_213 rfl ?_
    refine z_ldc2 B kw_1010 dX8_tells_214 ?_
    refine z_callSi B (As := [.long v212, .long (0), .long (9)]) kcS_X8_71 dX8_tells_217 hf (fun q hq => cR_in q hq) rfl rfl (Nat.le_of_ble_eq_true rfl) rfl rfl ⟨Nat.le_of_ble_eq_true rfl, Nat.le_of_ble_eq_true rfl⟩ (fun v217 s217 hf => ?_)
    refine z_if_eq B 235 dX8_tells_220 (by decide) hf (fun hf => ?_) (fun hf => ?_)
    · refine z_iload_n B dX8_tells_235 1 rfl rfl ?_
      refine z_i2l B dX8_tells_236 hf (fun v236 hf => ?_)
      refine z_ldc2 B kw_1141 dX8_tells_237 ?_
      refine z_ldc2 B kw_1303 dX8_tells_240 ?_
      refine z_callSi B (As := [.long v236, .long (20), .long (29)]) kcS_X8_71 dX8_tells_243 hf (fun q hq => cR_in q hq) rfl rfl (Nat.le_of_ble_eq_true rfl) rfl rfl ⟨Nat.le_of_ble_eq_true rfl, Nat.le_of_ble_eq_true rfl⟩ (fun v243 s243 hf => ?_)
      refine z_if_eq B 261 dX8_tells_246 (by decide) hf (fun hf => ?_) (fun hf => ?_)
      · refine z_iconst B (-1) dX8_tells_261 zc_iconst_m1 ?_
        exact tR_tells_262 B N s243 x1 (-1) hf
      · refine z_aload_n B dX8_tells_249 0 rfl rfl ?_
        refine fR_g_row B dX8_tells_250 ?_
        refine z_iload_n B dX8_tells_253 1 rfl rfl ?_
        refine z_bipush B (20) dX8_tells_254 zc_bipush_20 ?_
        refine z_isub B dX8_tells_256 hf (fun v256 hf => ?_)
        refine fR_l_row B dX8_tells_257 hf (fun v257 hf => ?_)
        refine z_goto B 262 dX8_tells_258 (by decide) ?_
        exact tR_tells_262 B N s243 x1 v257 hf
    · refine z_aload_n B dX8_tells_223 0 rfl rfl ?_
      refine fR_g_row B dX8_tells_224 ?_
      refine z_bipush B (10) dX8_tells_227 zc_bipush_10 ?_
      refine z_iload_n B dX8_tells_229 1 rfl rfl ?_
      refine z_iadd B dX8_tells_230 hf (fun v230 hf => ?_)
      refine fR_l_row B dX8_tells_231 hf (fun v231 hf => ?_)
      refine z_goto B 262 dX8_tells_232 (by decide) ?_
      exact tR_tells_262 B N s217 x1 v231 hf
  by_cases ho1 : x1.toInt < 10 ∨ 33 < x1.toInt
  · exact z_tabOut B 211 dX8_tells_1 ho1 (by decide) kd1
  · have e0 : x1.toInt ≠ 10 := z_ne h1_10 (by decide)
    have e1 : x1.toInt ≠ 11 := z_ne h1_11 (by decide)
    have e2 : x1.toInt ≠ 12 := z_ne h1_12 (by decide)
    have e3 : x1.toInt ≠ 13 := z_ne h1_13 (by decide)
    have e4 : x1.toInt ≠ 14 := z_ne h1_14 (by decide)
    have e5 : x1.toInt ≠ 15 := z_ne h1_15 (by decide)
    have e6 : x1.toInt ≠ 16 := z_ne h1_16 (by decide)
    have e7 : x1.toInt ≠ 17 := z_ne h1_17 (by decide)
    have e8 : x1.toInt ≠ 18 := z_ne h1_18 (by decide)
    have e9 : x1.toInt ≠ 19 := z_ne h1_19 (by decide)
    have e10 : x1.toInt ≠ 30 := z_ne h1_30 (by decide)
    have e11 : x1.toInt ≠ 31 := z_ne h1_31 (by decide)
    have e12 : x1.toInt ≠ 32 := z_ne h1_32 (by decide)
    have e13 : x1.toInt ≠ 33 := z_ne h1_33 (by decide)
    have hx1 : x1.toInt = 20 ∨ x1.toInt = 21 ∨ x1.toInt = 22 ∨ x1.toInt = 23 ∨ x1.toInt = 24 ∨ x1.toInt = 25 ∨ x1.toInt = 26 ∨ x1.toInt = 27 ∨ x1.toInt = 28 ∨ x1.toInt = 29 := by omega
    rcases hx1 with e1 | e1 | e1 | e1 | e1 | e1 | e1 | e1 | e1 | e1
    · exact z_tabIn B (off := 210) 211 dX8_tells_1 (by rw [e1]; decide) (by rw [e1]; decide) (by rw [e1]; decide) (by decide) kd1
    · exact z_tabIn B (off := 210) 211 dX8_tells_1 (by rw [e1]; decide) (by rw [e1]; decide) (by rw [e1]; decide) (by decide) kd1
    · exact z_tabIn B (off := 210) 211 dX8_tells_1 (by rw [e1]; decide) (by rw [e1]; decide) (by rw [e1]; decide) (by decide) kd1
    · exact z_tabIn B (off := 210) 211 dX8_tells_1 (by rw [e1]; decide) (by rw [e1]; decide) (by rw [e1]; decide) (by decide) kd1
    · exact z_tabIn B (off := 210) 211 dX8_tells_1 (by rw [e1]; decide) (by rw [e1]; decide) (by rw [e1]; decide) (by decide) kd1
    · exact z_tabIn B (off := 210) 211 dX8_tells_1 (by rw [e1]; decide) (by rw [e1]; decide) (by rw [e1]; decide) (by decide) kd1
    · exact z_tabIn B (off := 210) 211 dX8_tells_1 (by rw [e1]; decide) (by rw [e1]; decide) (by rw [e1]; decide) (by decide) kd1
    · exact z_tabIn B (off := 210) 211 dX8_tells_1 (by rw [e1]; decide) (by rw [e1]; decide) (by rw [e1]; decide) (by decide) kd1
    · exact z_tabIn B (off := 210) 211 dX8_tells_1 (by rw [e1]; decide) (by rw [e1]; decide) (by rw [e1]; decide) (by decide) kd1
    · exact z_tabIn B (off := 210) 211 dX8_tells_1 (by rw [e1]; decide) (by rw [e1]; decide) (by rw [e1]; decide) (by decide) kd1
theorem dX8_takeTrace_0 : decode cX8_takeTrace 0 = .ok (.aload_n 0, 1) := by decide +kernel
theorem dX8_takeTrace_1 : decode cX8_takeTrace 1 = .ok (.aload_n 0, 1) := by decide +kernel
theorem dX8_takeTrace_2 : decode cX8_takeTrace 2 = .ok (.getfield 9, 3) := by decide +kernel
theorem dX8_takeTrace_5 : decode cX8_takeTrace 5 = .ok (.bipush 22, 2) := by decide +kernel
theorem dX8_takeTrace_7 : decode cX8_takeTrace 7 = .ok (.iaload, 1) := by decide +kernel
theorem dX8_takeTrace_8 : decode cX8_takeTrace 8 = .ok (.putfield 267, 3) := by decide +kernel
theorem dX8_takeTrace_11 : decode cX8_takeTrace 11 = .ok (.iconst 0, 1) := by decide +kernel
theorem dX8_takeTrace_12 : decode cX8_takeTrace 12 = .ok (.istore_n 1, 1) := by decide +kernel
theorem dX8_takeTrace_13 : decode cX8_takeTrace 13 = .ok (.iload_n 1, 1) := by decide +kernel
theorem dX8_takeTrace_14 : decode cX8_takeTrace 14 = .ok (.aload_n 0, 1) := by decide +kernel
theorem dX8_takeTrace_15 : decode cX8_takeTrace 15 = .ok (.getfield 267, 3) := by decide +kernel
theorem dX8_takeTrace_18 : decode cX8_takeTrace 18 = .ok (.if_icmp .ge 20, 3) := by decide +kernel
theorem dX8_takeTrace_21 : decode cX8_takeTrace 21 = .ok (.aload_n 0, 1) := by decide +kernel
theorem dX8_takeTrace_22 : decode cX8_takeTrace 22 = .ok (.getfield 46, 3) := by decide +kernel
theorem dX8_takeTrace_25 : decode cX8_takeTrace 25 = .ok (.iload_n 1, 1) := by decide +kernel
theorem dX8_takeTrace_26 : decode cX8_takeTrace 26 = .ok (.aload_n 0, 1) := by decide +kernel
theorem dX8_takeTrace_27 : decode cX8_takeTrace 27 = .ok (.iload_n 1, 1) := by decide +kernel
theorem dX8_takeTrace_28 : decode cX8_takeTrace 28 = .ok (.invokevirtual 238, 3) := by decide +kernel
theorem dX8_takeTrace_31 : decode cX8_takeTrace 31 = .ok (.iastore, 1) := by decide +kernel
theorem dX8_takeTrace_32 : decode cX8_takeTrace 32 = .ok (.iinc 1 1, 3) := by decide +kernel
theorem dX8_takeTrace_35 : decode cX8_takeTrace 35 = .ok (.goto (-22), 3) := by decide +kernel
theorem dX8_takeTrace_38 : decode cX8_takeTrace 38 = .ok (.return_, 1) := by decide +kernel
def mR_takeTrace_B13 (N : Nat) (hd13 : ST → Int32 → Option (ST)) (σ : ST) (x1 : Int32) : Option (ST) :=
  zLet (σ 0 18) fun v15 =>
  if (v15 : Int32) ≤ x1 then
    some σ
  else
    zCall (mR_traced N σ x1) fun v28 s28 =>
    zSet s28 17 400 x1 v28 fun s31 =>
    zLet (x1 + (1)) fun v32 =>
    hd13 s31 v32
def mR_takeTrace_13 (N : Nat) : ST → Int32 → Option (ST) := zIt (mR_takeTrace_B13 N) (fun _ _ => none) N
set_option maxRecDepth 20000 in
set_option maxHeartbeats 2000000 in
theorem tR_takeTrace_13 {adr : Nat → Nat} {cI cZ : ClassId} {X : zX} {q : ST} (B : zC X 2 (wdR adr cI cZ) cX8_takeTrace RX8 none { frames := 1, cells := 0, slots := 0, locals := 21 }) (N : Nat) : ∀ (σ : ST) (x1 : Int32), mR_takeTrace_13 N σ x1 = some q → zJ X 2 (wdR adr cI cZ) (zu q) 13 [(0, .ref (adr 0)), (1, .int x1)] [] σ := by
  refine zIt_ind (P := fun (hd : ST → Int32 → Option (ST)) => ∀ (σ : ST) (x1 : Int32), hd σ x1 = some q → zJ X 2 (wdR adr cI cZ) (zu q) 13 [(0, .ref (adr 0)), (1, .int x1)] [] σ) (fun _ _ hf => by cases hf) (fun hd13 hh13 => ?_) N
  intro σ x1 hf
  refine z_iload_n B dX8_takeTrace_13 1 rfl rfl ?_
  refine z_aload_n B dX8_takeTrace_14 0 rfl rfl ?_
  refine fR_g_anewMany B dX8_takeTrace_15 hf (fun v15 hf => ?_)
  refine z_icmp_ge B 38 dX8_takeTrace_18 (by decide) hf (fun hf => ?_) (fun hf => ?_)
  · exact z_return B dX8_takeTrace_38 hf
  · refine z_aload_n B dX8_takeTrace_21 0 rfl rfl ?_
    refine fR_g_anew B dX8_takeTrace_22 ?_
    refine z_iload_n B dX8_takeTrace_25 1 rfl rfl ?_
    refine z_aload_n B dX8_takeTrace_26 0 rfl rfl ?_
    refine z_iload_n B dX8_takeTrace_27 1 rfl rfl ?_
    refine z_callVi B (As := [.int x1]) kcV_X8_238 dX8_takeTrace_28 hf (fun q hq => cR_traced q hq) (wR_o (adr := adr) (cI := cI) (cZ := cZ)) rfl rfl rfl rfl (Nat.le_of_ble_eq_true rfl) rfl rfl ⟨Nat.le_of_ble_eq_true rfl, Nat.le_of_ble_eq_true rfl⟩ (fun v28 s28 hf => ?_)
    refine fR_s_anew B dX8_takeTrace_31 hf (fun s31 hf => ?_)
    refine z_iinc B (1) 1 (fun v32 => [(1, .int v32), (0, .ref (adr 0))]) dX8_takeTrace_32 hf zc_iconst_1 rfl (Nat.le_of_ble_eq_true rfl) (fun _ => rfl) (fun v32 hf => ?_)
    refine z_goto B 13 dX8_takeTrace_35 (by decide) ?_
    exact z_loc [1, 0] _ rfl (hh13 s31 v32 hf)
def mR_takeTrace (N : Nat) (σ : ST) : Option (ST) :=
  zGet (σ 1) 1974 (22) fun v7 =>
  zLet (zUp σ 0 18 v7) fun s8 =>
  mR_takeTrace_13 N s8 (0)
set_option maxRecDepth 20000 in
set_option maxHeartbeats 2000000 in
theorem cR_takeTrace {adr : Nat → Nat} {cI cZ : ClassId} {l : Launch} {D : va_G} {N : Nat} {σ : ST} (q : ST) (hf : mR_takeTrace N σ = some q) : zM l D (wdR adr cI cZ) yX8_takeTrace cX8_takeTrace 2 none ({ frames := 1, cells := 0, slots := 0, locals := 21 }) [.ref (adr 0)] σ (zu q) := by
  refine zM_of sfR_ok rfl (Nat.le_of_ble_eq_true rfl) [(0, .ref (adr 0))] rfl (fun X hX1 hX2 B => ?_)
  have B : zC X 2 (wdR adr cI cZ) cX8_takeTrace RX8 none { frames := 1, cells := 0, slots := 0, locals := 21 } := B
  refine z_aload_n B dX8_takeTrace_0 0 rfl rfl ?_
  refine z_aload_n B dX8_takeTrace_1 0 rfl rfl ?_
  refine fR_g_row B dX8_takeTrace_2 ?_
  refine z_bipush B (22) dX8_takeTrace_5 zc_bipush_22 ?_
  refine fR_l_row B dX8_takeTrace_7 hf (fun v7 hf => ?_)
  refine fR_p_anewMany B dX8_takeTrace_8 hf (fun s8 hf => ?_)
  refine z_iconst B (0) dX8_takeTrace_11 zc_iconst_0 ?_
  refine z_istore_n B [(1, .int (0)), (0, .ref (adr 0))] dX8_takeTrace_12 rfl (Nat.le_of_ble_eq_true rfl) rfl ?_
  exact z_loc [1, 0] _ rfl (tR_takeTrace_13 B N s8 (0) hf)
theorem dX8_readAnew_0 : decode cX8_readAnew 0 = .ok (.aload_n 0, 1) := by decide +kernel
theorem dX8_readAnew_1 : decode cX8_readAnew 1 = .ok (.invokevirtual 64, 3) := by decide +kernel
theorem dX8_readAnew_4 : decode cX8_readAnew 4 = .ok (.iconst 0, 1) := by decide +kernel
theorem dX8_readAnew_5 : decode cX8_readAnew 5 = .ok (.istore_n 1, 1) := by decide +kernel
theorem dX8_readAnew_6 : decode cX8_readAnew 6 = .ok (.iload_n 1, 1) := by decide +kernel
theorem dX8_readAnew_7 : decode cX8_readAnew 7 = .ok (.aload_n 0, 1) := by decide +kernel
theorem dX8_readAnew_8 : decode cX8_readAnew 8 = .ok (.getfield 267, 3) := by decide +kernel
theorem dX8_readAnew_11 : decode cX8_readAnew 11 = .ok (.if_icmp .ge 20, 3) := by decide +kernel
theorem dX8_readAnew_14 : decode cX8_readAnew 14 = .ok (.aload_n 0, 1) := by decide +kernel
theorem dX8_readAnew_15 : decode cX8_readAnew 15 = .ok (.aload_n 0, 1) := by decide +kernel
theorem dX8_readAnew_16 : decode cX8_readAnew 16 = .ok (.getfield 46, 3) := by decide +kernel
theorem dX8_readAnew_19 : decode cX8_readAnew 19 = .ok (.iload_n 1, 1) := by decide +kernel
theorem dX8_readAnew_20 : decode cX8_readAnew 20 = .ok (.iaload, 1) := by decide +kernel
theorem dX8_readAnew_21 : decode cX8_readAnew 21 = .ok (.invokevirtual 197, 3) := by decide +kernel
theorem dX8_readAnew_24 : decode cX8_readAnew 24 = .ok (.pop, 1) := by decide +kernel
theorem dX8_readAnew_25 : decode cX8_readAnew 25 = .ok (.iinc 1 1, 3) := by decide +kernel
theorem dX8_readAnew_28 : decode cX8_readAnew 28 = .ok (.goto (-22), 3) := by decide +kernel
theorem dX8_readAnew_31 : decode cX8_readAnew 31 = .ok (.return_, 1) := by decide +kernel
def mR_readAnew_B6 (N : Nat) (hd6 : ST → Int32 → Option (ST)) (σ : ST) (x1 : Int32) : Option (ST) :=
  zLet (σ 0 18) fun v8 =>
  if (v8 : Int32) ≤ x1 then
    some σ
  else
    zGet (σ 17) 400 x1 fun v20 =>
    zCall (mR_readOne N σ v20) fun v21 s21 =>
    zLet (x1 + (1)) fun v25 =>
    hd6 s21 v25
def mR_readAnew_6 (N : Nat) : ST → Int32 → Option (ST) := zIt (mR_readAnew_B6 N) (fun _ _ => none) N
set_option maxRecDepth 20000 in
set_option maxHeartbeats 2000000 in
theorem tR_readAnew_6 {adr : Nat → Nat} {cI cZ : ClassId} {X : zX} {q : ST} (B : zC X 2 (wdR adr cI cZ) cX8_readAnew RX8 none { frames := 9, cells := 0, slots := 0, locals := 207 }) (N : Nat) : ∀ (σ : ST) (x1 : Int32), mR_readAnew_6 N σ x1 = some q → zJ X 2 (wdR adr cI cZ) (zu q) 6 [(0, .ref (adr 0)), (1, .int x1)] [] σ := by
  refine zIt_ind (P := fun (hd : ST → Int32 → Option (ST)) => ∀ (σ : ST) (x1 : Int32), hd σ x1 = some q → zJ X 2 (wdR adr cI cZ) (zu q) 6 [(0, .ref (adr 0)), (1, .int x1)] [] σ) (fun _ _ hf => by cases hf) (fun hd6 hh6 => ?_) N
  intro σ x1 hf
  refine z_iload_n B dX8_readAnew_6 1 rfl rfl ?_
  refine z_aload_n B dX8_readAnew_7 0 rfl rfl ?_
  refine fR_g_anewMany B dX8_readAnew_8 hf (fun v8 hf => ?_)
  refine z_icmp_ge B 31 dX8_readAnew_11 (by decide) hf (fun hf => ?_) (fun hf => ?_)
  · exact z_return B dX8_readAnew_31 hf
  · refine z_aload_n B dX8_readAnew_14 0 rfl rfl ?_
    refine z_aload_n B dX8_readAnew_15 0 rfl rfl ?_
    refine fR_g_anew B dX8_readAnew_16 ?_
    refine z_iload_n B dX8_readAnew_19 1 rfl rfl ?_
    refine fR_l_anew B dX8_readAnew_20 hf (fun v20 hf => ?_)
    refine z_callVi B (As := [.int v20]) kcV_X8_197 dX8_readAnew_21 hf (fun q hq => cR_readOne q hq) (wR_o (adr := adr) (cI := cI) (cZ := cZ)) rfl rfl rfl rfl (Nat.le_of_ble_eq_true rfl) rfl rfl ⟨Nat.le_of_ble_eq_true rfl, Nat.le_of_ble_eq_true rfl⟩ (fun v21 s21 hf => ?_)
    refine z_pop B dX8_readAnew_24 rfl ?_
    refine z_iinc B (1) 1 (fun v25 => [(1, .int v25), (0, .ref (adr 0))]) dX8_readAnew_25 hf zc_iconst_1 rfl (Nat.le_of_ble_eq_true rfl) (fun _ => rfl) (fun v25 hf => ?_)
    refine z_goto B 6 dX8_readAnew_28 (by decide) ?_
    exact z_loc [1, 0] _ rfl (hh6 s21 v25 hf)
def mR_readAnew (N : Nat) (σ : ST) : Option (ST) :=
  zCallu (mR_begin N σ) fun s1 =>
  mR_readAnew_6 N s1 (0)
set_option maxRecDepth 20000 in
set_option maxHeartbeats 2000000 in
theorem cR_readAnew {adr : Nat → Nat} {cI cZ : ClassId} {l : Launch} {D : va_G} {N : Nat} {σ : ST} (q : ST) (hf : mR_readAnew N σ = some q) : zM l D (wdR adr cI cZ) yX8_readAnew cX8_readAnew 2 none ({ frames := 9, cells := 0, slots := 0, locals := 207 }) [.ref (adr 0)] σ (zu q) := by
  refine zM_of sfR_ok rfl (Nat.le_of_ble_eq_true rfl) [(0, .ref (adr 0))] rfl (fun X hX1 hX2 B => ?_)
  have B : zC X 2 (wdR adr cI cZ) cX8_readAnew RX8 none { frames := 9, cells := 0, slots := 0, locals := 207 } := B
  refine z_aload_n B dX8_readAnew_0 0 rfl rfl ?_
  refine z_callVu B (As := []) kcV_X8_64 dX8_readAnew_1 hf (fun q hq => cR_begin q hq) (wR_o (adr := adr) (cI := cI) (cZ := cZ)) rfl rfl rfl rfl (Nat.le_of_ble_eq_true rfl) rfl rfl ⟨Nat.le_of_ble_eq_true rfl, Nat.le_of_ble_eq_true rfl⟩ (fun s1 hf => ?_)
  refine z_iconst B (0) dX8_readAnew_4 zc_iconst_0 ?_
  refine z_istore_n B [(1, .int (0)), (0, .ref (adr 0))] dX8_readAnew_5 rfl (Nat.le_of_ble_eq_true rfl) rfl ?_
  exact z_loc [1, 0] _ rfl (tR_readAnew_6 B N s1 (0) hf)
theorem dX8_replay_0 : decode cX8_replay 0 = .ok (.aload_n 0, 1) := by decide +kernel
theorem dX8_replay_1 : decode cX8_replay 1 = .ok (.iconst 0, 1) := by decide +kernel
theorem dX8_replay_2 : decode cX8_replay 2 = .ok (.putfield 67, 3) := by decide +kernel
theorem dX8_replay_5 : decode cX8_replay 5 = .ok (.aload_n 0, 1) := by decide +kernel
theorem dX8_replay_6 : decode cX8_replay 6 = .ok (.iload_n 1, 1) := by decide +kernel
theorem dX8_replay_7 : decode cX8_replay 7 = .ok (.iload_n 2, 1) := by decide +kernel
theorem dX8_replay_8 : decode cX8_replay 8 = .ok (.invokevirtual 270, 3) := by decide +kernel
theorem dX8_replay_11 : decode cX8_replay 11 = .ok (.ifCond .eq 12, 3) := by decide +kernel
theorem dX8_replay_14 : decode cX8_replay 14 = .ok (.aload_n 0, 1) := by decide +kernel
theorem dX8_replay_15 : decode cX8_replay 15 = .ok (.iload_n 3, 1) := by decide +kernel
theorem dX8_replay_16 : decode cX8_replay 16 = .ok (.invokevirtual 273, 3) := by decide +kernel
theorem dX8_replay_19 : decode cX8_replay 19 = .ok (.iconst (-1), 1) := by decide +kernel
theorem dX8_replay_20 : decode cX8_replay 20 = .ok (.if_icmp .ne 6, 3) := by decide +kernel
theorem dX8_replay_23 : decode cX8_replay 23 = .ok (.ldc 235, 2) := by decide +kernel
theorem dX8_replay_25 : decode cX8_replay 25 = .ok (.ireturn, 1) := by decide +kernel
theorem dX8_replay_26 : decode cX8_replay 26 = .ok (.aload_n 0, 1) := by decide +kernel
theorem dX8_replay_27 : decode cX8_replay 27 = .ok (.invokevirtual 261, 3) := by decide +kernel
theorem dX8_replay_30 : decode cX8_replay 30 = .ok (.aload_n 0, 1) := by decide +kernel
theorem dX8_replay_31 : decode cX8_replay 31 = .ok (.invokevirtual 276, 3) := by decide +kernel
theorem dX8_replay_34 : decode cX8_replay 34 = .ok (.aload_n 0, 1) := by decide +kernel
theorem dX8_replay_35 : decode cX8_replay 35 = .ok (.getfield 9, 3) := by decide +kernel
theorem dX8_replay_38 : decode cX8_replay 38 = .ok (.iload_n 1, 1) := by decide +kernel
theorem dX8_replay_39 : decode cX8_replay 39 = .ok (.iload_n 2, 1) := by decide +kernel
theorem dX8_replay_40 : decode cX8_replay 40 = .ok (.iastore, 1) := by decide +kernel
theorem dX8_replay_41 : decode cX8_replay 41 = .ok (.aload_n 0, 1) := by decide +kernel
theorem dX8_replay_42 : decode cX8_replay 42 = .ok (.invokevirtual 279, 3) := by decide +kernel
theorem dX8_replay_45 : decode cX8_replay 45 = .ok (.aload_n 0, 1) := by decide +kernel
theorem dX8_replay_46 : decode cX8_replay 46 = .ok (.iload_n 3, 1) := by decide +kernel
theorem dX8_replay_47 : decode cX8_replay 47 = .ok (.invokevirtual 273, 3) := by decide +kernel
theorem dX8_replay_50 : decode cX8_replay 50 = .ok (.istore 4, 2) := by decide +kernel
theorem dX8_replay_52 : decode cX8_replay 52 = .ok (.aload_n 0, 1) := by decide +kernel
theorem dX8_replay_53 : decode cX8_replay 53 = .ok (.invokevirtual 264, 3) := by decide +kernel
theorem dX8_replay_56 : decode cX8_replay 56 = .ok (.iload 4, 2) := by decide +kernel
theorem dX8_replay_58 : decode cX8_replay 58 = .ok (.ireturn, 1) := by decide +kernel
def mR_replay_23 (N : Nat) (σ : ST) (x1 : Int32) (x2 : Int32) (x3 : Int32) : Option (Int32 × ST) :=
  some ((-2147483648), σ)
set_option maxRecDepth 20000 in
set_option maxHeartbeats 2000000 in
theorem tR_replay_23 {adr : Nat → Nat} {cI cZ : ClassId} {X : zX} {q : Int32 × ST} (B : zC X 5 (wdR adr cI cZ) cX8_replay RX8 (some .int) { frames := 10, cells := 0, slots := 0, locals := 228 }) (N : Nat) (σ : ST) (x1 : Int32) (x2 : Int32) (x3 : Int32) (hf : mR_replay_23 N σ x1 x2 x3 = some q) : zJ X 5 (wdR adr cI cZ) (zi q) 23 [(0, .ref (adr 0)), (1, .int x1), (2, .int x2), (3, .int x3)] [] σ := by
  refine z_ldc B kw_1208 dX8_replay_23 ?_
  exact z_ireturn B dX8_replay_25 hf
def mR_replay (N : Nat) (σ : ST) (x1 : Int32) (x2 : Int32) (x3 : Int32) : Option (Int32 × ST) :=
  zLet (zUp σ 0 0 (0)) fun s2 =>
  zCall (mR_canReplay N s2 x1 x2) fun v8 s8 =>
  if (v8 : Int32) = 0 then
    mR_replay_23 N s8 x1 x2 x3
  else
    zCall (mR_tells N s8 x3) fun v16 s16 =>
    if (v16 : Int32) = (-1) then
      mR_replay_23 N s16 x1 x2 x3
    else
      zCallu (mR_think N s16) fun s27 =>
      zCallu (mR_takeTrace N s27) fun s31 =>
      zSet s31 1 1974 x1 x2 fun s40 =>
      zCallu (mR_readAnew N s40) fun s42 =>
      zCall (mR_tells N s42 x3) fun v47 s47 =>
      zCallu (mR_endThought N s47) fun s53 =>
      some (v47, s53)
set_option maxRecDepth 20000 in
set_option maxHeartbeats 2000000 in
theorem cR_replay {adr : Nat → Nat} {cI cZ : ClassId} {l : Launch} {D : va_G} {N : Nat} {σ : ST} {x1 : Int32} {x2 : Int32} {x3 : Int32} (q : Int32 × ST) (hf : mR_replay N σ x1 x2 x3 = some q) : zM l D (wdR adr cI cZ) yX8_replay cX8_replay 5 (some .int) ({ frames := 10, cells := 0, slots := 0, locals := 228 }) [.ref (adr 0), .int x1, .int x2, .int x3] σ (zi q) := by
  refine zM_of sfR_ok rfl (Nat.le_of_ble_eq_true rfl) [(0, .ref (adr 0)), (1, .int x1), (2, .int x2), (3, .int x3)] rfl (fun X hX1 hX2 B => ?_)
  have B : zC X 5 (wdR adr cI cZ) cX8_replay RX8 (some .int) { frames := 10, cells := 0, slots := 0, locals := 228 } := B
  refine z_aload_n B dX8_replay_0 0 rfl rfl ?_
  refine z_iconst B (0) dX8_replay_1 zc_iconst_0 ?_
  refine fR_p_thrown B dX8_replay_2 hf (fun s2 hf => ?_)
  refine z_aload_n B dX8_replay_5 0 rfl rfl ?_
  refine z_iload_n B dX8_replay_6 1 rfl rfl ?_
  refine z_iload_n B dX8_replay_7 2 rfl rfl ?_
  refine z_callVi B (As := [.int x1, .int x2]) kcV_X8_270 dX8_replay_8 hf (fun q hq => cR_canReplay q hq) (wR_o (adr := adr) (cI := cI) (cZ := cZ)) rfl rfl rfl rfl (Nat.le_of_ble_eq_true rfl) rfl rfl ⟨Nat.le_of_ble_eq_true rfl, Nat.le_of_ble_eq_true rfl⟩ (fun v8 s8 hf => ?_)
  refine z_if_eq B 23 dX8_replay_11 (by decide) hf (fun hf => ?_) (fun hf => ?_)
  · exact tR_replay_23 B N s8 x1 x2 x3 hf
  · refine z_aload_n B dX8_replay_14 0 rfl rfl ?_
    refine z_iload_n B dX8_replay_15 3 rfl rfl ?_
    refine z_callVi B (As := [.int x3]) kcV_X8_273 dX8_replay_16 hf (fun q hq => cR_tells q hq) (wR_o (adr := adr) (cI := cI) (cZ := cZ)) rfl rfl rfl rfl (Nat.le_of_ble_eq_true rfl) rfl rfl ⟨Nat.le_of_ble_eq_true rfl, Nat.le_of_ble_eq_true rfl⟩ (fun v16 s16 hf => ?_)
    refine z_iconst B (-1) dX8_replay_19 zc_iconst_m1 ?_
    refine z_icmp_ne B 26 dX8_replay_20 (by decide) hf (fun hf => ?_) (fun hf => ?_)
    · refine z_aload_n B dX8_replay_26 0 rfl rfl ?_
      refine z_callVu B (As := []) kcV_X8_261 dX8_replay_27 hf (fun q hq => cR_think q hq) (wR_o (adr := adr) (cI := cI) (cZ := cZ)) rfl rfl rfl rfl (Nat.le_of_ble_eq_true rfl) rfl rfl ⟨Nat.le_of_ble_eq_true rfl, Nat.le_of_ble_eq_true rfl⟩ (fun s27 hf => ?_)
      refine z_aload_n B dX8_replay_30 0 rfl rfl ?_
      refine z_callVu B (As := []) kcV_X8_276 dX8_replay_31 hf (fun q hq => cR_takeTrace q hq) (wR_o (adr := adr) (cI := cI) (cZ := cZ)) rfl rfl rfl rfl (Nat.le_of_ble_eq_true rfl) rfl rfl ⟨Nat.le_of_ble_eq_true rfl, Nat.le_of_ble_eq_true rfl⟩ (fun s31 hf => ?_)
      refine z_aload_n B dX8_replay_34 0 rfl rfl ?_
      refine fR_g_row B dX8_replay_35 ?_
      refine z_iload_n B dX8_replay_38 1 rfl rfl ?_
      refine z_iload_n B dX8_replay_39 2 rfl rfl ?_
      refine fR_s_row B dX8_replay_40 hf (fun s40 hf => ?_)
      refine z_aload_n B dX8_replay_41 0 rfl rfl ?_
      refine z_callVu B (As := []) kcV_X8_279 dX8_replay_42 hf (fun q hq => cR_readAnew q hq) (wR_o (adr := adr) (cI := cI) (cZ := cZ)) rfl rfl rfl rfl (Nat.le_of_ble_eq_true rfl) rfl rfl ⟨Nat.le_of_ble_eq_true rfl, Nat.le_of_ble_eq_true rfl⟩ (fun s42 hf => ?_)
      refine z_aload_n B dX8_replay_45 0 rfl rfl ?_
      refine z_iload_n B dX8_replay_46 3 rfl rfl ?_
      refine z_callVi B (As := [.int x3]) kcV_X8_273 dX8_replay_47 hf (fun q hq => cR_tells q hq) (wR_o (adr := adr) (cI := cI) (cZ := cZ)) rfl rfl rfl rfl (Nat.le_of_ble_eq_true rfl) rfl rfl ⟨Nat.le_of_ble_eq_true rfl, Nat.le_of_ble_eq_true rfl⟩ (fun v47 s47 hf => ?_)
      refine z_istore B [(4, .int v47), (0, .ref (adr 0)), (1, .int x1), (2, .int x2), (3, .int x3)] dX8_replay_50 (Nat.le_of_ble_eq_true rfl) rfl ?_
      refine z_aload_n B dX8_replay_52 1 rfl rfl ?_
      refine z_callVu B (As := []) kcV_X8_264 dX8_replay_53 hf (fun q hq => cR_endThought q hq) (wR_o (adr := adr) (cI := cI) (cZ := cZ)) rfl rfl rfl rfl (Nat.le_of_ble_eq_true rfl) rfl rfl ⟨Nat.le_of_ble_eq_true rfl, Nat.le_of_ble_eq_true rfl⟩ (fun s53 hf => ?_)
      refine z_iload B dX8_replay_56 0 rfl ?_
      exact z_ireturn B dX8_replay_58 hf
    · exact tR_replay_23 B N s16 x1 x2 x3 hf
theorem dX8_forecast_0 : decode cX8_forecast 0 = .ok (.aload_n 0, 1) := by decide +kernel
theorem dX8_forecast_1 : decode cX8_forecast 1 = .ok (.iconst 0, 1) := by decide +kernel
theorem dX8_forecast_2 : decode cX8_forecast 2 = .ok (.putfield 67, 3) := by decide +kernel
theorem dX8_forecast_5 : decode cX8_forecast 5 = .ok (.iload_n 1, 1) := by decide +kernel
theorem dX8_forecast_6 : decode cX8_forecast 6 = .ok (.i2l, 1) := by decide +kernel
theorem dX8_forecast_7 : decode cX8_forecast 7 = .ok (.lconst 1, 1) := by decide +kernel
theorem dX8_forecast_8 : decode cX8_forecast 8 = .ok (.ldc2_w 208, 3) := by decide +kernel
theorem dX8_forecast_11 : decode cX8_forecast 11 = .ok (.invokestatic 71, 3) := by decide +kernel
theorem dX8_forecast_14 : decode cX8_forecast 14 = .ok (.ifCond .eq 15, 3) := by decide +kernel
theorem dX8_forecast_17 : decode cX8_forecast 17 = .ok (.iload_n 2, 1) := by decide +kernel
theorem dX8_forecast_18 : decode cX8_forecast 18 = .ok (.i2l, 1) := by decide +kernel
theorem dX8_forecast_19 : decode cX8_forecast 19 = .ok (.lconst 0, 1) := by decide +kernel
theorem dX8_forecast_20 : decode cX8_forecast 20 = .ok (.ldc2_w 236, 3) := by decide +kernel
theorem dX8_forecast_23 : decode cX8_forecast 23 = .ok (.invokestatic 71, 3) := by decide +kernel
theorem dX8_forecast_26 : decode cX8_forecast 26 = .ok (.ifCond .ne 5, 3) := by decide +kernel
theorem dX8_forecast_29 : decode cX8_forecast 29 = .ok (.iconst (-1), 1) := by decide +kernel
theorem dX8_forecast_30 : decode cX8_forecast 30 = .ok (.ireturn, 1) := by decide +kernel
theorem dX8_forecast_31 : decode cX8_forecast 31 = .ok (.aload_n 0, 1) := by decide +kernel
theorem dX8_forecast_32 : decode cX8_forecast 32 = .ok (.invokevirtual 261, 3) := by decide +kernel
theorem dX8_forecast_35 : decode cX8_forecast 35 = .ok (.iconst 0, 1) := by decide +kernel
theorem dX8_forecast_36 : decode cX8_forecast 36 = .ok (.istore_n 3, 1) := by decide +kernel
theorem dX8_forecast_37 : decode cX8_forecast 37 = .ok (.iload_n 3, 1) := by decide +kernel
theorem dX8_forecast_38 : decode cX8_forecast 38 = .ok (.iload_n 1, 1) := by decide +kernel
theorem dX8_forecast_39 : decode cX8_forecast 39 = .ok (.if_icmp .ge 92, 3) := by decide +kernel
theorem dX8_forecast_42 : decode cX8_forecast 42 = .ok (.iconst 0, 1) := by decide +kernel
theorem dX8_forecast_43 : decode cX8_forecast 43 = .ok (.istore 4, 2) := by decide +kernel
theorem dX8_forecast_45 : decode cX8_forecast 45 = .ok (.iload 4, 2) := by decide +kernel
theorem dX8_forecast_47 : decode cX8_forecast 47 = .ok (.bipush 6, 2) := by decide +kernel
theorem dX8_forecast_49 : decode cX8_forecast 49 = .ok (.if_icmp .ge 76, 3) := by decide +kernel
theorem dX8_forecast_52 : decode cX8_forecast 52 = .ok (.iload 4, 2) := by decide +kernel
theorem dX8_forecast_54 : decode cX8_forecast 54 = .ok (.invokestatic 89, 3) := by decide +kernel
theorem dX8_forecast_57 : decode cX8_forecast 57 = .ok (.istore 5, 2) := by decide +kernel
theorem dX8_forecast_59 : decode cX8_forecast 59 = .ok (.aload_n 0, 1) := by decide +kernel
theorem dX8_forecast_60 : decode cX8_forecast 60 = .ok (.getfield 9, 3) := by decide +kernel
theorem dX8_forecast_63 : decode cX8_forecast 63 = .ok (.iload 5, 2) := by decide +kernel
theorem dX8_forecast_65 : decode cX8_forecast 65 = .ok (.iconst 2, 1) := by decide +kernel
theorem dX8_forecast_66 : decode cX8_forecast 66 = .ok (.iadd, 1) := by decide +kernel
theorem dX8_forecast_67 : decode cX8_forecast 67 = .ok (.iaload, 1) := by decide +kernel
theorem dX8_forecast_68 : decode cX8_forecast 68 = .ok (.aload_n 0, 1) := by decide +kernel
theorem dX8_forecast_69 : decode cX8_forecast 69 = .ok (.getfield 9, 3) := by decide +kernel
theorem dX8_forecast_72 : decode cX8_forecast 72 = .ok (.iload 5, 2) := by decide +kernel
theorem dX8_forecast_74 : decode cX8_forecast 74 = .ok (.iconst 3, 1) := by decide +kernel
theorem dX8_forecast_75 : decode cX8_forecast 75 = .ok (.iadd, 1) := by decide +kernel
theorem dX8_forecast_76 : decode cX8_forecast 76 = .ok (.iaload, 1) := by decide +kernel
theorem dX8_forecast_77 : decode cX8_forecast 77 = .ok (.iadd, 1) := by decide +kernel
theorem dX8_forecast_78 : decode cX8_forecast 78 = .ok (.istore 6, 2) := by decide +kernel
theorem dX8_forecast_80 : decode cX8_forecast 80 = .ok (.aload_n 0, 1) := by decide +kernel
theorem dX8_forecast_81 : decode cX8_forecast 81 = .ok (.getfield 9, 3) := by decide +kernel
theorem dX8_forecast_84 : decode cX8_forecast 84 = .ok (.iload 5, 2) := by decide +kernel
theorem dX8_forecast_86 : decode cX8_forecast 86 = .ok (.iaload, 1) := by decide +kernel
theorem dX8_forecast_87 : decode cX8_forecast 87 = .ok (.iconst 1, 1) := by decide +kernel
theorem dX8_forecast_88 : decode cX8_forecast 88 = .ok (.if_icmp .ne 31, 3) := by decide +kernel
theorem dX8_forecast_91 : decode cX8_forecast 91 = .ok (.aload_n 0, 1) := by decide +kernel
theorem dX8_forecast_92 : decode cX8_forecast 92 = .ok (.getfield 9, 3) := by decide +kernel
theorem dX8_forecast_95 : decode cX8_forecast 95 = .ok (.iload 5, 2) := by decide +kernel
theorem dX8_forecast_97 : decode cX8_forecast 97 = .ok (.iconst 5, 1) := by decide +kernel
theorem dX8_forecast_98 : decode cX8_forecast 98 = .ok (.iadd, 1) := by decide +kernel
theorem dX8_forecast_99 : decode cX8_forecast 99 = .ok (.iaload, 1) := by decide +kernel
theorem dX8_forecast_100 : decode cX8_forecast 100 = .ok (.ifCond .le 19, 3) := by decide +kernel
theorem dX8_forecast_103 : decode cX8_forecast 103 = .ok (.aload_n 0, 1) := by decide +kernel
theorem dX8_forecast_104 : decode cX8_forecast 104 = .ok (.iload 6, 2) := by decide +kernel
theorem dX8_forecast_106 : decode cX8_forecast 106 = .ok (.invokevirtual 132, 3) := by decide +kernel
theorem dX8_forecast_109 : decode cX8_forecast 109 = .ok (.ifCond .eq 10, 3) := by decide +kernel
theorem dX8_forecast_112 : decode cX8_forecast 112 = .ok (.aload_n 0, 1) := by decide +kernel
theorem dX8_forecast_113 : decode cX8_forecast 113 = .ok (.iload 6, 2) := by decide +kernel
theorem dX8_forecast_115 : decode cX8_forecast 115 = .ok (.invokevirtual 197, 3) := by decide +kernel
theorem dX8_forecast_118 : decode cX8_forecast 118 = .ok (.pop, 1) := by decide +kernel
theorem dX8_forecast_119 : decode cX8_forecast 119 = .ok (.iinc 4 1, 3) := by decide +kernel
theorem dX8_forecast_122 : decode cX8_forecast 122 = .ok (.goto (-77), 3) := by decide +kernel
theorem dX8_forecast_125 : decode cX8_forecast 125 = .ok (.iinc 3 1, 3) := by decide +kernel
theorem dX8_forecast_128 : decode cX8_forecast 128 = .ok (.goto (-91), 3) := by decide +kernel
theorem dX8_forecast_131 : decode cX8_forecast 131 = .ok (.iload_n 2, 1) := by decide +kernel
theorem dX8_forecast_132 : decode cX8_forecast 132 = .ok (.ifCond .ne 8, 3) := by decide +kernel
theorem dX8_forecast_135 : decode cX8_forecast 135 = .ok (.bipush 10, 2) := by decide +kernel
theorem dX8_forecast_137 : decode cX8_forecast 137 = .ok (.goto 25, 3) := by decide +kernel
theorem dX8_forecast_140 : decode cX8_forecast 140 = .ok (.iload_n 2, 1) := by decide +kernel
theorem dX8_forecast_141 : decode cX8_forecast 141 = .ok (.iconst 1, 1) := by decide +kernel
theorem dX8_forecast_142 : decode cX8_forecast 142 = .ok (.if_icmp .ne 8, 3) := by decide +kernel
theorem dX8_forecast_145 : decode cX8_forecast 145 = .ok (.bipush 11, 2) := by decide +kernel
theorem dX8_forecast_147 : decode cX8_forecast 147 = .ok (.goto 15, 3) := by decide +kernel
theorem dX8_forecast_150 : decode cX8_forecast 150 = .ok (.iload_n 2, 1) := by decide +kernel
theorem dX8_forecast_151 : decode cX8_forecast 151 = .ok (.iconst 2, 1) := by decide +kernel
theorem dX8_forecast_152 : decode cX8_forecast 152 = .ok (.if_icmp .ne 8, 3) := by decide +kernel
theorem dX8_forecast_155 : decode cX8_forecast 155 = .ok (.bipush 16, 2) := by decide +kernel
theorem dX8_forecast_157 : decode cX8_forecast 157 = .ok (.goto 5, 3) := by decide +kernel
theorem dX8_forecast_160 : decode cX8_forecast 160 = .ok (.bipush 27, 2) := by decide +kernel
theorem dX8_forecast_162 : decode cX8_forecast 162 = .ok (.istore_n 3, 1) := by decide +kernel
theorem dX8_forecast_163 : decode cX8_forecast 163 = .ok (.aload_n 0, 1) := by decide +kernel
theorem dX8_forecast_164 : decode cX8_forecast 164 = .ok (.getfield 9, 3) := by decide +kernel
theorem dX8_forecast_167 : decode cX8_forecast 167 = .ok (.iload_n 3, 1) := by decide +kernel
theorem dX8_forecast_168 : decode cX8_forecast 168 = .ok (.iaload, 1) := by decide +kernel
theorem dX8_forecast_169 : decode cX8_forecast 169 = .ok (.aload_n 0, 1) := by decide +kernel
theorem dX8_forecast_170 : decode cX8_forecast 170 = .ok (.getfield 15, 3) := by decide +kernel
theorem dX8_forecast_173 : decode cX8_forecast 173 = .ok (.iload_n 3, 1) := by decide +kernel
theorem dX8_forecast_174 : decode cX8_forecast 174 = .ok (.iaload, 1) := by decide +kernel
theorem dX8_forecast_175 : decode cX8_forecast 175 = .ok (.isub, 1) := by decide +kernel
theorem dX8_forecast_176 : decode cX8_forecast 176 = .ok (.istore 4, 2) := by decide +kernel
theorem dX8_forecast_178 : decode cX8_forecast 178 = .ok (.aload_n 0, 1) := by decide +kernel
theorem dX8_forecast_179 : decode cX8_forecast 179 = .ok (.invokevirtual 264, 3) := by decide +kernel
theorem dX8_forecast_182 : decode cX8_forecast 182 = .ok (.iload 4, 2) := by decide +kernel
theorem dX8_forecast_184 : decode cX8_forecast 184 = .ok (.ireturn, 1) := by decide +kernel
def mR_forecast_162 (N : Nat) (σ : ST) (x1 : Int32) (x2 : Int32) (x3 : Int32) (k0 : Int32) : Option (Int32 × ST) :=
  zGet (σ 1) 1974 k0 fun v168 =>
  zGet (σ 2) 1974 k0 fun v174 =>
  zLet ((v168 : Int32) - v174) fun v175 =>
  zCallu (mR_endThought N σ) fun s179 =>
  some (v175, s179)
set_option maxRecDepth 20000 in
set_option maxHeartbeats 2000000 in
theorem tR_forecast_162 {adr : Nat → Nat} {cI cZ : ClassId} {X : zX} {q : Int32 × ST} (B : zC X 7 (wdR adr cI cZ) cX8_forecast RX8 (some .int) { frames := 9, cells := 0, slots := 0, locals := 207 }) (N : Nat) (σ : ST) (x1 : Int32) (x2 : Int32) (x3 : Int32) (k0 : Int32) (hf : mR_forecast_162 N σ x1 x2 x3 k0 = some q) : zJ X 7 (wdR adr cI cZ) (zi q) 162 [(0, .ref (adr 0)), (1, .int x1), (2, .int x2), (3, .int x3)] [.int k0] σ := by
  refine z_istore_n B [(3, .int k0), (0, .ref (adr 0)), (1, .int x1), (2, .int x2)] dX8_forecast_162 rfl (Nat.le_of_ble_eq_true rfl) rfl ?_
  refine z_aload_n B dX8_forecast_163 1 rfl rfl ?_
  refine fR_g_row B dX8_forecast_164 ?_
  refine z_iload_n B dX8_forecast_167 0 rfl rfl ?_
  refine fR_l_row B dX8_forecast_168 hf (fun v168 hf => ?_)
  refine z_aload_n B dX8_forecast_169 1 rfl rfl ?_
  refine fR_g_aside B dX8_forecast_170 ?_
  refine z_iload_n B dX8_forecast_173 0 rfl rfl ?_
  refine fR_l_aside B dX8_forecast_174 hf (fun v174 hf => ?_)
  refine z_isub B dX8_forecast_175 hf (fun v175 hf => ?_)
  refine z_istore B [(4, .int v175), (3, .int k0), (0, .ref (adr 0)), (1, .int x1), (2, .int x2)] dX8_forecast_176 (Nat.le_of_ble_eq_true rfl) rfl ?_
  refine z_aload_n B dX8_forecast_178 2 rfl rfl ?_
  refine z_callVu B (As := []) kcV_X8_264 dX8_forecast_179 hf (fun q hq => cR_endThought q hq) (wR_o (adr := adr) (cI := cI) (cZ := cZ)) rfl rfl rfl rfl (Nat.le_of_ble_eq_true rfl) rfl rfl ⟨Nat.le_of_ble_eq_true rfl, Nat.le_of_ble_eq_true rfl⟩ (fun s179 hf => ?_)
  refine z_iload B dX8_forecast_182 0 rfl ?_
  exact z_ireturn B dX8_forecast_184 hf
def mR_forecast_119 (N : Nat) (hd37 : ST → Int32 → Int32 → Int32 → Option (Int32 × ST)) (hd45 : ST → Int32 → Int32 → Int32 → Int32 → Option (Int32 × ST)) (σ : ST) (x1 : Int32) (x2 : Int32) (x3 : Int32) (x4 : Int32) (x5 : Int32) (x6 : Int32) : Option (Int32 × ST) :=
  zLet (x4 + (1)) fun v119 =>
  hd45 σ x1 x2 x3 v119
set_option maxRecDepth 20000 in
set_option maxHeartbeats 2000000 in
theorem tR_forecast_119 {adr : Nat → Nat} {cI cZ : ClassId} {X : zX} {q : Int32 × ST} (B : zC X 7 (wdR adr cI cZ) cX8_forecast RX8 (some .int) { frames := 9, cells := 0, slots := 0, locals := 207 }) (N : Nat) (hd37 : ST → Int32 → Int32 → Int32 → Option (Int32 × ST)) (hh37 : ∀ (σ : ST) (x1 : Int32) (x2 : Int32) (x3 : Int32), hd37 σ x1 x2 x3 = some q → zJ X 7 (wdR adr cI cZ) (zi q) 37 [(0, .ref (adr 0)), (1, .int x1), (2, .int x2), (3, .int x3)] [] σ) (hd45 : ST → Int32 → Int32 → Int32 → Int32 → Option (Int32 × ST)) (hh45 : ∀ (σ : ST) (x1 : Int32) (x2 : Int32) (x3 : Int32) (x4 : Int32), hd45 σ x1 x2 x3 x4 = some q → zJ X 7 (wdR adr cI cZ) (zi q) 45 [(0, .ref (adr 0)), (1, .int x1), (2, .int x2), (3, .int x3), (4, .int x4)] [] σ) (σ : ST) (x1 : Int32) (x2 : Int32) (x3 : Int32) (x4 : Int32) (x5 : Int32) (x6 : Int32) (hf : mR_forecast_119 N hd37 hd45 σ x1 x2 x3 x4 x5 x6 = some q) : zJ X 7 (wdR adr cI cZ) (zi q) 119 [(0, .ref (adr 0)), (1, .int x1), (2, .int x2), (3, .int x3), (4, .int x4), (5, .int x5), (6, .int x6)] [] σ := by
  refine z_iinc B (1) 4 (fun v119 => [(4, .int v119), (0, .ref (adr 0)), (1, .int x1), (2, .int x2), (3, .int x3), (5, .int x5), (6, .int x6)]) dX8_forecast_119 hf zc_iconst_1 rfl (Nat.le_of_ble_eq_true rfl) (fun _ => rfl) (fun v119 hf => ?_)
  refine z_goto B 45 dX8_forecast_122 (by decide) ?_
  exact z_loc [1, 2, 3, 4, 0] _ rfl (hh45 σ x1 x2 x3 v119 hf)
def mR_forecast_B45 (N : Nat) (hd37 : ST → Int32 → Int32 → Int32 → Option (Int32 × ST)) (hd45 : ST → Int32 → Int32 → Int32 → Int32 → Option (Int32 × ST)) (σ : ST) (x1 : Int32) (x2 : Int32) (x3 : Int32) (x4 : Int32) : Option (Int32 × ST) :=
  if ((6) : Int32) ≤ x4 then
    zLet (x3 + (1)) fun v125 =>
    hd37 σ x1 x2 v125
  else
    zCall (mR_streamAt N σ x4) fun v54 s54 =>
    zLet ((v54 : Int32) + (2)) fun v66 =>
    zGet (s54 1) 1974 v66 fun v67 =>
    zLet ((v54 : Int32) + (3)) fun v75 =>
    zGet (s54 1) 1974 v75 fun v76 =>
    zLet ((v67 : Int32) + v76) fun v77 =>
    zGet (s54 1) 1974 v54 fun v86 =>
    if (v86 : Int32) = (1) then
      zLet ((v54 : Int32) + (5)) fun v98 =>
      zGet (s54 1) 1974 v98 fun v99 =>
      if (v99 : Int32) ≤ 0 then
        mR_forecast_119 N hd37 hd45 s54 x1 x2 x3 x4 v54 v77
      else
        zCall (mR_isBlock N s54 v77) fun v106 s106 =>
        if (v106 : Int32) = 0 then
          mR_forecast_119 N hd37 hd45 s106 x1 x2 x3 x4 v54 v77
        else
          zCall (mR_readOne N s106 v77) fun v115 s115 =>
          mR_forecast_119 N hd37 hd45 s115 x1 x2 x3 x4 v54 v77
    else
      mR_forecast_119 N hd37 hd45 s54 x1 x2 x3 x4 v54 v77
def mR_forecast_45 (N : Nat) (hd37 : ST → Int32 → Int32 → Int32 → Option (Int32 × ST)) : ST → Int32 → Int32 → Int32 → Int32 → Option (Int32 × ST) := zIt (mR_forecast_B45 N hd37) (fun _ _ _ _ _ => none) N
set_option maxRecDepth 20000 in
set_option maxHeartbeats 2000000 in
theorem tR_forecast_45 {adr : Nat → Nat} {cI cZ : ClassId} {X : zX} {q : Int32 × ST} (B : zC X 7 (wdR adr cI cZ) cX8_forecast RX8 (some .int) { frames := 9, cells := 0, slots := 0, locals := 207 }) (N : Nat) (hd37 : ST → Int32 → Int32 → Int32 → Option (Int32 × ST)) (hh37 : ∀ (σ : ST) (x1 : Int32) (x2 : Int32) (x3 : Int32), hd37 σ x1 x2 x3 = some q → zJ X 7 (wdR adr cI cZ) (zi q) 37 [(0, .ref (adr 0)), (1, .int x1), (2, .int x2), (3, .int x3)] [] σ) : ∀ (σ : ST) (x1 : Int32) (x2 : Int32) (x3 : Int32) (x4 : Int32), mR_forecast_45 N hd37 σ x1 x2 x3 x4 = some q → zJ X 7 (wdR adr cI cZ) (zi q) 45 [(0, .ref (adr 0)), (1, .int x1), (2, .int x2), (3, .int x3), (4, .int x4)] [] σ := by
  refine zIt_ind (P := fun (hd : ST → Int32 → Int32 → Int32 → Int32 → Option (Int32 × ST)) => ∀ (σ : ST) (x1 : Int32) (x2 : Int32) (x3 : Int32) (x4 : Int32), hd σ x1 x2 x3 x4 = some q → zJ X 7 (wdR adr cI cZ) (zi q) 45 [(0, .ref (adr 0)), (1, .int x1), (2, .int x2), (3, .int x3), (4, .int x4)] [] σ) (fun _ _ _ _ _ hf => by cases hf) (fun hd45 hh45 => ?_) N
  intro σ x1 x2 x3 x4 hf
  refine z_iload B dX8_forecast_45 4 rfl ?_
  refine z_bipush B (6) dX8_forecast_47 zc_bipush_6 ?_
  refine z_icmp_ge B 125 dX8_forecast_49 (by decide) hf (fun hf => ?_) (fun hf => ?_)
  · refine z_iinc B (1) 3 (fun v125 => [(3, .int v125), (0, .ref (adr 0)), (1, .int x1), (2, .int x2), (4, .int x4)]) dX8_forecast_125 hf zc_iconst_1 rfl (Nat.le_of_ble_eq_true rfl) (fun _ => rfl) (fun v125 hf => ?_)
    refine z_goto B 37 dX8_forecast_128 (by decide) ?_
    exact z_loc [1, 2, 3, 0] _ rfl (hh37 σ x1 x2 v125 hf)
  · refine z_iload B dX8_forecast_52 4 rfl ?_
    refine z_callSi B (As := [.int x4]) kcS_X8_89 dX8_forecast_54 hf (fun q hq => cR_streamAt q hq) rfl rfl (Nat.le_of_ble_eq_true rfl) rfl rfl ⟨Nat.le_of_ble_eq_true rfl, Nat.le_of_ble_eq_true rfl⟩ (fun v54 s54 hf => ?_)
    refine z_istore B [(5, .int v54), (0, .ref (adr 0)), (1, .int x1), (2, .int x2), (3, .int x3), (4, .int x4)] dX8_forecast_57 (Nat.le_of_ble_eq_true rfl) rfl ?_
    refine z_aload_n B dX8_forecast_59 1 rfl rfl ?_
    refine fR_g_row B dX8_forecast_60 ?_
    refine z_iload B dX8_forecast_63 0 rfl ?_
    refine z_iconst B (2) dX8_forecast_65 zc_iconst_2 ?_
    refine z_iadd B dX8_forecast_66 hf (fun v66 hf => ?_)
    refine fR_l_row B dX8_forecast_67 hf (fun v67 hf => ?_)
    refine z_aload_n B dX8_forecast_68 1 rfl rfl ?_
    refine fR_g_row B dX8_forecast_69 ?_
    refine z_iload B dX8_forecast_72 0 rfl ?_
    refine z_iconst B (3) dX8_forecast_74 zc_iconst_3 ?_
    refine z_iadd B dX8_forecast_75 hf (fun v75 hf => ?_)
    refine fR_l_row B dX8_forecast_76 hf (fun v76 hf => ?_)
    refine z_iadd B dX8_forecast_77 hf (fun v77 hf => ?_)
    refine z_istore B [(6, .int v77), (5, .int v54), (0, .ref (adr 0)), (1, .int x1), (2, .int x2), (3, .int x3), (4, .int x4)] dX8_forecast_78 (Nat.le_of_ble_eq_true rfl) rfl ?_
    refine z_aload_n B dX8_forecast_80 2 rfl rfl ?_
    refine fR_g_row B dX8_forecast_81 ?_
    refine z_iload B dX8_forecast_84 1 rfl ?_
    refine fR_l_row B dX8_forecast_86 hf (fun v86 hf => ?_)
    refine z_iconst B (1) dX8_forecast_87 zc_iconst_1 ?_
    refine z_icmp_ne B 119 dX8_forecast_88 (by decide) hf (fun hf => ?_) (fun hf => ?_)
    · exact z_loc [2, 3, 4, 5, 6, 1, 0] _ rfl (tR_forecast_119 B N hd37 hh37 hd45 hh45 s54 x1 x2 x3 x4 v54 v77 hf)
    · refine z_aload_n B dX8_forecast_91 2 rfl rfl ?_
      refine fR_g_row B dX8_forecast_92 ?_
      refine z_iload B dX8_forecast_95 1 rfl ?_
      refine z_iconst B (5) dX8_forecast_97 zc_iconst_5 ?_
      refine z_iadd B dX8_forecast_98 hf (fun v98 hf => ?_)
      refine fR_l_row B dX8_forecast_99 hf (fun v99 hf => ?_)
      refine z_if_le B 119 dX8_forecast_100 (by decide) hf (fun hf => ?_) (fun hf => ?_)
      · exact z_loc [2, 3, 4, 5, 6, 1, 0] _ rfl (tR_forecast_119 B N hd37 hh37 hd45 hh45 s54 x1 x2 x3 x4 v54 v77 hf)
      · refine z_aload_n B dX8_forecast_103 2 rfl rfl ?_
        refine z_iload B dX8_forecast_104 0 rfl ?_
        refine z_callVi B (As := [.int v77]) kcV_X8_132 dX8_forecast_106 hf (fun q hq => cR_isBlock q hq) (wR_o (adr := adr) (cI := cI) (cZ := cZ)) rfl rfl rfl rfl (Nat.le_of_ble_eq_true rfl) rfl rfl ⟨Nat.le_of_ble_eq_true rfl, Nat.le_of_ble_eq_true rfl⟩ (fun v106 s106 hf => ?_)
        refine z_if_eq B 119 dX8_forecast_109 (by decide) hf (fun hf => ?_) (fun hf => ?_)
        · exact z_loc [2, 3, 4, 5, 6, 1, 0] _ rfl (tR_forecast_119 B N hd37 hh37 hd45 hh45 s106 x1 x2 x3 x4 v54 v77 hf)
        · refine z_aload_n B dX8_forecast_112 2 rfl rfl ?_
          refine z_iload B dX8_forecast_113 0 rfl ?_
          refine z_callVi B (As := [.int v77]) kcV_X8_197 dX8_forecast_115 hf (fun q hq => cR_readOne q hq) (wR_o (adr := adr) (cI := cI) (cZ := cZ)) rfl rfl rfl rfl (Nat.le_of_ble_eq_true rfl) rfl rfl ⟨Nat.le_of_ble_eq_true rfl, Nat.le_of_ble_eq_true rfl⟩ (fun v115 s115 hf => ?_)
          refine z_pop B dX8_forecast_118 rfl ?_
          exact z_loc [2, 3, 4, 5, 6, 1, 0] _ rfl (tR_forecast_119 B N hd37 hh37 hd45 hh45 s115 x1 x2 x3 x4 v54 v77 hf)
def mR_forecast_B37 (N : Nat) (hd37 : ST → Int32 → Int32 → Int32 → Option (Int32 × ST)) (σ : ST) (x1 : Int32) (x2 : Int32) (x3 : Int32) : Option (Int32 × ST) :=
  if (x1 : Int32) ≤ x3 then
    if (x2 : Int32) = 0 then
      mR_forecast_162 N σ x1 x2 x3 (10)
    else
      if (x2 : Int32) = (1) then
        mR_forecast_162 N σ x1 x2 x3 (11)
      else
        if (x2 : Int32) = (2) then
          mR_forecast_162 N σ x1 x2 x3 (16)
        else
          mR_forecast_162 N σ x1 x2 x3 (27)
  else
    mR_forecast_45 N hd37 σ x1 x2 x3 (0)
def mR_forecast_37 (N : Nat) : ST → Int32 → Int32 → Int32 → Option (Int32 × ST) := zIt (mR_forecast_B37 N) (fun _ _ _ _ => none) N
set_option maxRecDepth 20000 in
set_option maxHeartbeats 2000000 in
theorem tR_forecast_37 {adr : Nat → Nat} {cI cZ : ClassId} {X : zX} {q : Int32 × ST} (B : zC X 7 (wdR adr cI cZ) cX8_forecast RX8 (some .int) { frames := 9, cells := 0, slots := 0, locals := 207 }) (N : Nat) : ∀ (σ : ST) (x1 : Int32) (x2 : Int32) (x3 : Int32), mR_forecast_37 N σ x1 x2 x3 = some q → zJ X 7 (wdR adr cI cZ) (zi q) 37 [(0, .ref (adr 0)), (1, .int x1), (2, .int x2), (3, .int x3)] [] σ := by
  refine zIt_ind (P := fun (hd : ST → Int32 → Int32 → Int32 → Option (Int32 × ST)) => ∀ (σ : ST) (x1 : Int32) (x2 : Int32) (x3 : Int32), hd σ x1 x2 x3 = some q → zJ X 7 (wdR adr cI cZ) (zi q) 37 [(0, .ref (adr 0)), (1, .int x1), (2, .int x2), (3, .int x3)] [] σ) (fun _ _ _ _ hf => by cases hf) (fun hd37 hh37 => ?_) N
  intro σ x1 x2 x3 hf
  refine z_iload_n B dX8_forecast_37 3 rfl rfl ?_
  refine z_iload_n B dX8_forecast_38 1 rfl rfl ?_
  refine z_icmp_ge B 131 dX8_forecast_39 (by decide) hf (fun hf => ?_) (fun hf => ?_)
  · refine z_iload_n B dX8_forecast_131 2 rfl rfl ?_
    refine z_if_ne B 140 dX8_forecast_132 (by decide) hf (fun hf => ?_) (fun hf => ?_)
    · refine z_iload_n B dX8_forecast_140 2 rfl rfl ?_
      refine z_iconst B (1) dX8_forecast_141 zc_iconst_1 ?_
      refine z_icmp_ne B 150 dX8_forecast_142 (by decide) hf (fun hf => ?_) (fun hf => ?_)
      · refine z_iload_n B dX8_forecast_150 2 rfl rfl ?_
        refine z_iconst B (2) dX8_forecast_151 zc_iconst_2 ?_
        refine z_icmp_ne B 160 dX8_forecast_152 (by decide) hf (fun hf => ?_) (fun hf => ?_)
        · refine z_bipush B (27) dX8_forecast_160 zc_bipush_27 ?_
          exact tR_forecast_162 B N σ x1 x2 x3 (27) hf
        · refine z_bipush B (16) dX8_forecast_155 zc_bipush_16 ?_
          refine z_goto B 162 dX8_forecast_157 (by decide) ?_
          exact tR_forecast_162 B N σ x1 x2 x3 (16) hf
      · refine z_bipush B (11) dX8_forecast_145 zc_bipush_11 ?_
        refine z_goto B 162 dX8_forecast_147 (by decide) ?_
        exact tR_forecast_162 B N σ x1 x2 x3 (11) hf
    · refine z_bipush B (10) dX8_forecast_135 zc_bipush_10 ?_
      refine z_goto B 162 dX8_forecast_137 (by decide) ?_
      exact tR_forecast_162 B N σ x1 x2 x3 (10) hf
  · refine z_iconst B (0) dX8_forecast_42 zc_iconst_0 ?_
    refine z_istore B [(4, .int (0)), (0, .ref (adr 0)), (1, .int x1), (2, .int x2), (3, .int x3)] dX8_forecast_43 (Nat.le_of_ble_eq_true rfl) rfl ?_
    exact z_loc [1, 2, 3, 4, 0] _ rfl (tR_forecast_45 B N hd37 hh37 σ x1 x2 x3 (0) hf)
def mR_forecast_29 (N : Nat) (σ : ST) (x1 : Int32) (x2 : Int32) : Option (Int32 × ST) :=
  some ((-1), σ)
set_option maxRecDepth 20000 in
set_option maxHeartbeats 2000000 in
theorem tR_forecast_29 {adr : Nat → Nat} {cI cZ : ClassId} {X : zX} {q : Int32 × ST} (B : zC X 7 (wdR adr cI cZ) cX8_forecast RX8 (some .int) { frames := 9, cells := 0, slots := 0, locals := 207 }) (N : Nat) (σ : ST) (x1 : Int32) (x2 : Int32) (hf : mR_forecast_29 N σ x1 x2 = some q) : zJ X 7 (wdR adr cI cZ) (zi q) 29 [(0, .ref (adr 0)), (1, .int x1), (2, .int x2)] [] σ := by
  refine z_iconst B (-1) dX8_forecast_29 zc_iconst_m1 ?_
  exact z_ireturn B dX8_forecast_30 hf
def mR_forecast (N : Nat) (σ : ST) (x1 : Int32) (x2 : Int32) : Option (Int32 × ST) :=
  zLet (zUp σ 0 0 (0)) fun s2 =>
  zLet ((x1 : Int32).toInt64) fun v6 =>
  zCall (mR_in N s2 v6 (1) (20)) fun v11 s11 =>
  if (v11 : Int32) = 0 then
    mR_forecast_29 N s11 x1 x2
  else
    zLet ((x2 : Int32).toInt64) fun v18 =>
    zCall (mR_in N s11 v18 (0) (3)) fun v23 s23 =>
    if (v23 : Int32) = 0 then
      mR_forecast_29 N s23 x1 x2
    else
      zCallu (mR_think N s23) fun s32 =>
      mR_forecast_37 N s32 x1 x2 (0)
set_option maxRecDepth 20000 in
set_option maxHeartbeats 2000000 in
theorem cR_forecast {adr : Nat → Nat} {cI cZ : ClassId} {l : Launch} {D : va_G} {N : Nat} {σ : ST} {x1 : Int32} {x2 : Int32} (q : Int32 × ST) (hf : mR_forecast N σ x1 x2 = some q) : zM l D (wdR adr cI cZ) yX8_forecast cX8_forecast 7 (some .int) ({ frames := 9, cells := 0, slots := 0, locals := 207 }) [.ref (adr 0), .int x1, .int x2] σ (zi q) := by
  refine zM_of sfR_ok rfl (Nat.le_of_ble_eq_true rfl) [(0, .ref (adr 0)), (1, .int x1), (2, .int x2)] rfl (fun X hX1 hX2 B => ?_)
  have B : zC X 7 (wdR adr cI cZ) cX8_forecast RX8 (some .int) { frames := 9, cells := 0, slots := 0, locals := 207 } := B
  refine z_aload_n B dX8_forecast_0 0 rfl rfl ?_
  refine z_iconst B (0) dX8_forecast_1 zc_iconst_0 ?_
  refine fR_p_thrown B dX8_forecast_2 hf (fun s2 hf => ?_)
  refine z_iload_n B dX8_forecast_5 1 rfl rfl ?_
  refine z_i2l B dX8_forecast_6 hf (fun v6 hf => ?_)
  refine z_lconst B (1) dX8_forecast_7 rfl ?_
  refine z_ldc2 B kw_1141 dX8_forecast_8 ?_
  refine z_callSi B (As := [.long v6, .long (1), .long (20)]) kcS_X8_71 dX8_forecast_11 hf (fun q hq => cR_in q hq) rfl rfl (Nat.le_of_ble_eq_true rfl) rfl rfl ⟨Nat.le_of_ble_eq_true rfl, Nat.le_of_ble_eq_true rfl⟩ (fun v11 s11 hf => ?_)
  refine z_if_eq B 29 dX8_forecast_14 (by decide) hf (fun hf => ?_) (fun hf => ?_)
  · exact tR_forecast_29 B N s11 x1 x2 hf
  · refine z_iload_n B dX8_forecast_17 2 rfl rfl ?_
    refine z_i2l B dX8_forecast_18 hf (fun v18 hf => ?_)
    refine z_lconst B (0) dX8_forecast_19 rfl ?_
    refine z_ldc2 B kw_1217 dX8_forecast_20 ?_
    refine z_callSi B (As := [.long v18, .long (0), .long (3)]) kcS_X8_71 dX8_forecast_23 hf (fun q hq => cR_in q hq) rfl rfl (Nat.le_of_ble_eq_true rfl) rfl rfl ⟨Nat.le_of_ble_eq_true rfl, Nat.le_of_ble_eq_true rfl⟩ (fun v23 s23 hf => ?_)
    refine z_if_ne B 31 dX8_forecast_26 (by decide) hf (fun hf => ?_) (fun hf => ?_)
    · refine z_aload_n B dX8_forecast_31 0 rfl rfl ?_
      refine z_callVu B (As := []) kcV_X8_261 dX8_forecast_32 hf (fun q hq => cR_think q hq) (wR_o (adr := adr) (cI := cI) (cZ := cZ)) rfl rfl rfl rfl (Nat.le_of_ble_eq_true rfl) rfl rfl ⟨Nat.le_of_ble_eq_true rfl, Nat.le_of_ble_eq_true rfl⟩ (fun s32 hf => ?_)
      refine z_iconst B (0) dX8_forecast_35 zc_iconst_0 ?_
      refine z_istore_n B [(3, .int (0)), (0, .ref (adr 0)), (1, .int x1), (2, .int x2)] dX8_forecast_36 rfl (Nat.le_of_ble_eq_true rfl) rfl ?_
      exact z_loc [1, 2, 3, 0] _ rfl (tR_forecast_37 B N s32 x1 x2 (0) hf)
    · exact tR_forecast_29 B N s23 x1 x2 hf
theorem dX8_tune_0 : decode cX8_tune 0 = .ok (.aload_n 0, 1) := by decide +kernel
theorem dX8_tune_1 : decode cX8_tune 1 = .ok (.iconst 0, 1) := by decide +kernel
theorem dX8_tune_2 : decode cX8_tune 2 = .ok (.putfield 67, 3) := by decide +kernel
theorem dX8_tune_5 : decode cX8_tune 5 = .ok (.iload_n 1, 1) := by decide +kernel
theorem dX8_tune_6 : decode cX8_tune 6 = .ok (.i2l, 1) := by decide +kernel
theorem dX8_tune_7 : decode cX8_tune 7 = .ok (.lconst 0, 1) := by decide +kernel
theorem dX8_tune_8 : decode cX8_tune 8 = .ok (.ldc2_w 244, 3) := by decide +kernel
theorem dX8_tune_11 : decode cX8_tune 11 = .ok (.invokestatic 71, 3) := by decide +kernel
theorem dX8_tune_14 : decode cX8_tune 14 = .ok (.ifCond .ne 5, 3) := by decide +kernel
theorem dX8_tune_17 : decode cX8_tune 17 = .ok (.iconst (-1), 1) := by decide +kernel
theorem dX8_tune_18 : decode cX8_tune 18 = .ok (.ireturn, 1) := by decide +kernel
theorem dX8_tune_19 : decode cX8_tune 19 = .ok (.aload_n 0, 1) := by decide +kernel
theorem dX8_tune_20 : decode cX8_tune 20 = .ok (.invokevirtual 261, 3) := by decide +kernel
theorem dX8_tune_23 : decode cX8_tune 23 = .ok (.aload_n 0, 1) := by decide +kernel
theorem dX8_tune_24 : decode cX8_tune 24 = .ok (.invokevirtual 276, 3) := by decide +kernel
theorem dX8_tune_27 : decode cX8_tune 27 = .ok (.iconst 0, 1) := by decide +kernel
theorem dX8_tune_28 : decode cX8_tune 28 = .ok (.istore_n 2, 1) := by decide +kernel
theorem dX8_tune_29 : decode cX8_tune 29 = .ok (.iconst 0, 1) := by decide +kernel
theorem dX8_tune_30 : decode cX8_tune 30 = .ok (.istore_n 3, 1) := by decide +kernel
theorem dX8_tune_31 : decode cX8_tune 31 = .ok (.ldc 235, 2) := by decide +kernel
theorem dX8_tune_33 : decode cX8_tune 33 = .ok (.istore 4, 2) := by decide +kernel
theorem dX8_tune_35 : decode cX8_tune 35 = .ok (.iconst 1, 1) := by decide +kernel
theorem dX8_tune_36 : decode cX8_tune 36 = .ok (.istore 5, 2) := by decide +kernel
theorem dX8_tune_38 : decode cX8_tune 38 = .ok (.iload 5, 2) := by decide +kernel
theorem dX8_tune_40 : decode cX8_tune 40 = .ok (.iconst 4, 1) := by decide +kernel
theorem dX8_tune_41 : decode cX8_tune 41 = .ok (.if_icmp .gt 79, 3) := by decide +kernel
theorem dX8_tune_44 : decode cX8_tune 44 = .ok (.iconst 1, 1) := by decide +kernel
theorem dX8_tune_45 : decode cX8_tune 45 = .ok (.istore 6, 2) := by decide +kernel
theorem dX8_tune_47 : decode cX8_tune 47 = .ok (.iload 6, 2) := by decide +kernel
theorem dX8_tune_49 : decode cX8_tune 49 = .ok (.bipush 8, 2) := by decide +kernel
theorem dX8_tune_51 : decode cX8_tune 51 = .ok (.if_icmp .gt 63, 3) := by decide +kernel
theorem dX8_tune_54 : decode cX8_tune 54 = .ok (.aload_n 0, 1) := by decide +kernel
theorem dX8_tune_55 : decode cX8_tune 55 = .ok (.getfield 9, 3) := by decide +kernel
theorem dX8_tune_58 : decode cX8_tune 58 = .ok (.iconst 1, 1) := by decide +kernel
theorem dX8_tune_59 : decode cX8_tune 59 = .ok (.iload 5, 2) := by decide +kernel
theorem dX8_tune_61 : decode cX8_tune 61 = .ok (.iastore, 1) := by decide +kernel
theorem dX8_tune_62 : decode cX8_tune 62 = .ok (.aload_n 0, 1) := by decide +kernel
theorem dX8_tune_63 : decode cX8_tune 63 = .ok (.getfield 9, 3) := by decide +kernel
theorem dX8_tune_66 : decode cX8_tune 66 = .ok (.iconst 2, 1) := by decide +kernel
theorem dX8_tune_67 : decode cX8_tune 67 = .ok (.iload 6, 2) := by decide +kernel
theorem dX8_tune_69 : decode cX8_tune 69 = .ok (.iastore, 1) := by decide +kernel
theorem dX8_tune_70 : decode cX8_tune 70 = .ok (.aload_n 0, 1) := by decide +kernel
theorem dX8_tune_71 : decode cX8_tune 71 = .ok (.invokevirtual 279, 3) := by decide +kernel
theorem dX8_tune_74 : decode cX8_tune 74 = .ok (.iload 4, 2) := by decide +kernel
theorem dX8_tune_76 : decode cX8_tune 76 = .ok (.ldc 235, 2) := by decide +kernel
theorem dX8_tune_78 : decode cX8_tune 78 = .ok (.if_icmp .eq 15, 3) := by decide +kernel
theorem dX8_tune_81 : decode cX8_tune 81 = .ok (.aload_n 0, 1) := by decide +kernel
theorem dX8_tune_82 : decode cX8_tune 82 = .ok (.getfield 9, 3) := by decide +kernel
theorem dX8_tune_85 : decode cX8_tune 85 = .ok (.bipush 12, 2) := by decide +kernel
theorem dX8_tune_87 : decode cX8_tune 87 = .ok (.iaload, 1) := by decide +kernel
theorem dX8_tune_88 : decode cX8_tune 88 = .ok (.iload 4, 2) := by decide +kernel
theorem dX8_tune_90 : decode cX8_tune 90 = .ok (.if_icmp .ge 18, 3) := by decide +kernel
theorem dX8_tune_93 : decode cX8_tune 93 = .ok (.iload 5, 2) := by decide +kernel
theorem dX8_tune_95 : decode cX8_tune 95 = .ok (.istore_n 2, 1) := by decide +kernel
theorem dX8_tune_96 : decode cX8_tune 96 = .ok (.iload 6, 2) := by decide +kernel
theorem dX8_tune_98 : decode cX8_tune 98 = .ok (.istore_n 3, 1) := by decide +kernel
theorem dX8_tune_99 : decode cX8_tune 99 = .ok (.aload_n 0, 1) := by decide +kernel
theorem dX8_tune_100 : decode cX8_tune 100 = .ok (.getfield 9, 3) := by decide +kernel
theorem dX8_tune_103 : decode cX8_tune 103 = .ok (.bipush 12, 2) := by decide +kernel
theorem dX8_tune_105 : decode cX8_tune 105 = .ok (.iaload, 1) := by decide +kernel
theorem dX8_tune_106 : decode cX8_tune 106 = .ok (.istore 4, 2) := by decide +kernel
theorem dX8_tune_108 : decode cX8_tune 108 = .ok (.iinc 6 1, 3) := by decide +kernel
theorem dX8_tune_111 : decode cX8_tune 111 = .ok (.goto (-64), 3) := by decide +kernel
theorem dX8_tune_114 : decode cX8_tune 114 = .ok (.iinc 5 1, 3) := by decide +kernel
theorem dX8_tune_117 : decode cX8_tune 117 = .ok (.goto (-79), 3) := by decide +kernel
theorem dX8_tune_120 : decode cX8_tune 120 = .ok (.aload_n 0, 1) := by decide +kernel
theorem dX8_tune_121 : decode cX8_tune 121 = .ok (.invokevirtual 264, 3) := by decide +kernel
theorem dX8_tune_124 : decode cX8_tune 124 = .ok (.iload_n 1, 1) := by decide +kernel
theorem dX8_tune_125 : decode cX8_tune 125 = .ok (.ifCond .ne 7, 3) := by decide +kernel
theorem dX8_tune_128 : decode cX8_tune 128 = .ok (.iload_n 2, 1) := by decide +kernel
theorem dX8_tune_129 : decode cX8_tune 129 = .ok (.goto 14, 3) := by decide +kernel
theorem dX8_tune_132 : decode cX8_tune 132 = .ok (.iload_n 1, 1) := by decide +kernel
theorem dX8_tune_133 : decode cX8_tune 133 = .ok (.iconst 1, 1) := by decide +kernel
theorem dX8_tune_134 : decode cX8_tune 134 = .ok (.if_icmp .ne 7, 3) := by decide +kernel
theorem dX8_tune_137 : decode cX8_tune 137 = .ok (.iload_n 3, 1) := by decide +kernel
theorem dX8_tune_138 : decode cX8_tune 138 = .ok (.goto 5, 3) := by decide +kernel
theorem dX8_tune_141 : decode cX8_tune 141 = .ok (.iload 4, 2) := by decide +kernel
theorem dX8_tune_143 : decode cX8_tune 143 = .ok (.ireturn, 1) := by decide +kernel
def mR_tune_143 (N : Nat) (σ : ST) (x1 : Int32) (x2 : Int32) (x3 : Int32) (x4 : Int32) (x5 : Int32) (k0 : Int32) : Option (Int32 × ST) :=
  some (k0, σ)
set_option maxRecDepth 20000 in
set_option maxHeartbeats 2000000 in
theorem tR_tune_143 {adr : Nat → Nat} {cI cZ : ClassId} {X : zX} {q : Int32 × ST} (B : zC X 7 (wdR adr cI cZ) cX8_tune RX8 (some .int) { frames := 10, cells := 0, slots := 0, locals := 228 }) (N : Nat) (σ : ST) (x1 : Int32) (x2 : Int32) (x3 : Int32) (x4 : Int32) (x5 : Int32) (k0 : Int32) (hf : mR_tune_143 N σ x1 x2 x3 x4 x5 k0 = some q) : zJ X 7 (wdR adr cI cZ) (zi q) 143 [(0, .ref (adr 0)), (1, .int x1), (2, .int x2), (3, .int x3), (4, .int x4), (5, .int x5)] [.int k0] σ := by
  exact z_ireturn B dX8_tune_143 hf
def mR_tune_108 (N : Nat) (hd38 : ST → Int32 → Int32 → Int32 → Int32 → Int32 → Option (Int32 × ST)) (hd47 : ST → Int32 → Int32 → Int32 → Int32 → Int32 → Int32 → Option (Int32 × ST)) (σ : ST) (x1 : Int32) (x2 : Int32) (x3 : Int32) (x4 : Int32) (x5 : Int32) (x6 : Int32) : Option (Int32 × ST) :=
  zLet (x6 + (1)) fun v108 =>
  hd47 σ x1 x2 x3 x4 x5 v108
set_option maxRecDepth 20000 in
set_option maxHeartbeats 2000000 in
theorem tR_tune_108 {adr : Nat → Nat} {cI cZ : ClassId} {X : zX} {q : Int32 × ST} (B : zC X 7 (wdR adr cI cZ) cX8_tune RX8 (some .int) { frames := 10, cells := 0, slots := 0, locals := 228 }) (N : Nat) (hd38 : ST → Int32 → Int32 → Int32 → Int32 → Int32 → Option (Int32 × ST)) (hh38 : ∀ (σ : ST) (x1 : Int32) (x2 : Int32) (x3 : Int32) (x4 : Int32) (x5 : Int32), hd38 σ x1 x2 x3 x4 x5 = some q → zJ X 7 (wdR adr cI cZ) (zi q) 38 [(0, .ref (adr 0)), (1, .int x1), (2, .int x2), (3, .int x3), (4, .int x4), (5, .int x5)] [] σ) (hd47 : ST → Int32 → Int32 → Int32 → Int32 → Int32 → Int32 → Option (Int32 × ST)) (hh47 : ∀ (σ : ST) (x1 : Int32) (x2 : Int32) (x3 : Int32) (x4 : Int32) (x5 : Int32) (x6 : Int32), hd47 σ x1 x2 x3 x4 x5 x6 = some q → zJ X 7 (wdR adr cI cZ) (zi q) 47 [(0, .ref (adr 0)), (1, .int x1), (2, .int x2), (3, .int x3), (4, .int x4), (5, .int x5), (6, .int x6)] [] σ) (σ : ST) (x1 : Int32) (x2 : Int32) (x3 : Int32) (x4 : Int32) (x5 : Int32) (x6 : Int32) (hf : mR_tune_108 N hd38 hd47 σ x1 x2 x3 x4 x5 x6 = some q) : zJ X 7 (wdR adr cI cZ) (zi q) 108 [(0, .ref (adr 0)), (1, .int x1), (2, .int x2), (3, .int x3), (4, .int x4), (5, .int x5), (6, .int x6)] [] σ := by
  refine z_iinc B (1) 6 (fun v108 => [(6, .int v108), (0, .ref (adr 0)), (1, .int x1), (2, .int x2), (3, .int x3), (4, .int x4), (5, .int x5)]) dX8_tune_108 hf zc_iconst_1 rfl (Nat.le_of_ble_eq_true rfl) (fun _ => rfl) (fun v108 hf => ?_)
  refine z_goto B 47 dX8_tune_111 (by decide) ?_
  exact z_loc [1, 2, 3, 4, 5, 6, 0] _ rfl (hh47 σ x1 x2 x3 x4 x5 v108 hf)
def mR_tune_93 (N : Nat) (hd38 : ST → Int32 → Int32 → Int32 → Int32 → Int32 → Option (Int32 × ST)) (hd47 : ST → Int32 → Int32 → Int32 → Int32 → Int32 → Int32 → Option (Int32 × ST)) (σ : ST) (x1 : Int32) (x2 : Int32) (x3 : Int32) (x4 : Int32) (x5 : Int32) (x6 : Int32) : Option (Int32 × ST) :=
  zGet (σ 1) 1974 (12) fun v105 =>
  mR_tune_108 N hd38 hd47 σ x1 x5 x6 v105 x5 x6
set_option maxRecDepth 20000 in
set_option maxHeartbeats 2000000 in
theorem tR_tune_93 {adr : Nat → Nat} {cI cZ : ClassId} {X : zX} {q : Int32 × ST} (B : zC X 7 (wdR adr cI cZ) cX8_tune RX8 (some .int) { frames := 10, cells := 0, slots := 0, locals := 228 }) (N : Nat) (hd38 : ST → Int32 → Int32 → Int32 → Int32 → Int32 → Option (Int32 × ST)) (hh38 : ∀ (σ : ST) (x1 : Int32) (x2 : Int32) (x3 : Int32) (x4 : Int32) (x5 : Int32), hd38 σ x1 x2 x3 x4 x5 = some q → zJ X 7 (wdR adr cI cZ) (zi q) 38 [(0, .ref (adr 0)), (1, .int x1), (2, .int x2), (3, .int x3), (4, .int x4), (5, .int x5)] [] σ) (hd47 : ST → Int32 → Int32 → Int32 → Int32 → Int32 → Int32 → Option (Int32 × ST)) (hh47 : ∀ (σ : ST) (x1 : Int32) (x2 : Int32) (x3 : Int32) (x4 : Int32) (x5 : Int32) (x6 : Int32), hd47 σ x1 x2 x3 x4 x5 x6 = some q → zJ X 7 (wdR adr cI cZ) (zi q) 47 [(0, .ref (adr 0)), (1, .int x1), (2, .int x2), (3, .int x3), (4, .int x4), (5, .int x5), (6, .int x6)] [] σ) (σ : ST) (x1 : Int32) (x2 : Int32) (x3 : Int32) (x4 : Int32) (x5 : Int32) (x6 : Int32) (hf : mR_tune_93 N hd38 hd47 σ x1 x2 x3 x4 x5 x6 = some q) : zJ X 7 (wdR adr cI cZ) (zi q) 93 [(0, .ref (adr 0)), (1, .int x1), (2, .int x2), (3, .int x3), (4, .int x4), (5, .int x5), (6, .int x6)] [] σ := by
  refine z_iload B dX8_tune_93 5 rfl ?_
  refine z_istore_n B [(2, .int x5), (0, .ref (adr 0)), (1, .int x1), (3, .int x3), (4, .int x4), (5, .int x5), (6, .int x6)] dX8_tune_95 rfl (Nat.le_of_ble_eq_true rfl) rfl ?_
  refine z_iload B dX8_tune_96 6 rfl ?_
  refine z_istore_n B [(3, .int x6), (2, .int x5), (0, .ref (adr 0)), (1, .int x1), (4, .int x4), (5, .int x5), (6, .int x6)] dX8_tune_98 rfl (Nat.le_of_ble_eq_true rfl) rfl ?_
  refine z_aload_n B dX8_tune_99 2 rfl rfl ?_
  refine fR_g_row B dX8_tune_100 ?_
  refine z_bipush B (12) dX8_tune_103 zc_bipush_12 ?_
  refine fR_l_row B dX8_tune_105 hf (fun v105 hf => ?_)
  refine z_istore B [(4, .int v105), (3, .int x6), (2, .int x5), (0, .ref (adr 0)), (1, .int x1), (5, .int x5), (6, .int x6)] dX8_tune_106 (Nat.le_of_ble_eq_true rfl) rfl ?_
  exact z_loc [3, 4, 2, 1, 0, 5, 6] _ rfl (tR_tune_108 B N hd38 hh38 hd47 hh47 σ x1 x5 x6 v105 x5 x6 hf)
def mR_tune_B47 (N : Nat) (hd38 : ST → Int32 → Int32 → Int32 → Int32 → Int32 → Option (Int32 × ST)) (hd47 : ST → Int32 → Int32 → Int32 → Int32 → Int32 → Int32 → Option (Int32 × ST)) (σ : ST) (x1 : Int32) (x2 : Int32) (x3 : Int32) (x4 : Int32) (x5 : Int32) (x6 : Int32) : Option (Int32 × ST) :=
  if ((8) : Int32) < x6 then
    zLet (x5 + (1)) fun v114 =>
    hd38 σ x1 x2 x3 x4 v114
  else
    zSet σ 1 1974 (1) x5 fun s61 =>
    zSet s61 1 1974 (2) x6 fun s69 =>
    zCallu (mR_readAnew N s69) fun s71 =>
    if (x4 : Int32) = (-2147483648) then
      mR_tune_93 N hd38 hd47 s71 x1 x2 x3 x4 x5 x6
    else
      zGet (s71 1) 1974 (12) fun v87 =>
      if (x4 : Int32) ≤ v87 then
        mR_tune_108 N hd38 hd47 s71 x1 x2 x3 x4 x5 x6
      else
        mR_tune_93 N hd38 hd47 s71 x1 x2 x3 x4 x5 x6
def mR_tune_47 (N : Nat) (hd38 : ST → Int32 → Int32 → Int32 → Int32 → Int32 → Option (Int32 × ST)) : ST → Int32 → Int32 → Int32 → Int32 → Int32 → Int32 → Option (Int32 × ST) := zIt (mR_tune_B47 N hd38) (fun _ _ _ _ _ _ _ => none) N
set_option maxRecDepth 20000 in
set_option maxHeartbeats 2000000 in
theorem tR_tune_47 {adr : Nat → Nat} {cI cZ : ClassId} {X : zX} {q : Int32 × ST} (B : zC X 7 (wdR adr cI cZ) cX8_tune RX8 (some .int) { frames := 10, cells := 0, slots := 0, locals := 228 }) (N : Nat) (hd38 : ST → Int32 → Int32 → Int32 → Int32 → Int32 → Option (Int32 × ST)) (hh38 : ∀ (σ : ST) (x1 : Int32) (x2 : Int32) (x3 : Int32) (x4 : Int32) (x5 : Int32), hd38 σ x1 x2 x3 x4 x5 = some q → zJ X 7 (wdR adr cI cZ) (zi q) 38 [(0, .ref (adr 0)), (1, .int x1), (2, .int x2), (3, .int x3), (4, .int x4), (5, .int x5)] [] σ) : ∀ (σ : ST) (x1 : Int32) (x2 : Int32) (x3 : Int32) (x4 : Int32) (x5 : Int32) (x6 : Int32), mR_tune_47 N hd38 σ x1 x2 x3 x4 x5 x6 = some q → zJ X 7 (wdR adr cI cZ) (zi q) 47 [(0, .ref (adr 0)), (1, .int x1), (2, .int x2), (3, .int x3), (4, .int x4), (5, .int x5), (6, .int x6)] [] σ := by
  refine zIt_ind (P := fun (hd : ST → Int32 → Int32 → Int32 → Int32 → Int32 → Int32 → Option (Int32 × ST)) => ∀ (σ : ST) (x1 : Int32) (x2 : Int32) (x3 : Int32) (x4 : Int32) (x5 : Int32) (x6 : Int32), hd σ x1 x2 x3 x4 x5 x6 = some q → zJ X 7 (wdR adr cI cZ) (zi q) 47 [(0, .ref (adr 0)), (1, .int x1), (2, .int x2), (3, .int x3), (4, .int x4), (5, .int x5), (6, .int x6)] [] σ) (fun _ _ _ _ _ _ _ hf => by cases hf) (fun hd47 hh47 => ?_) N
  intro σ x1 x2 x3 x4 x5 x6 hf
  refine z_iload B dX8_tune_47 6 rfl ?_
  refine z_bipush B (8) dX8_tune_49 zc_bipush_8 ?_
  refine z_icmp_gt B 114 dX8_tune_51 (by decide) hf (fun hf => ?_) (fun hf => ?_)
  · refine z_iinc B (1) 5 (fun v114 => [(5, .int v114), (0, .ref (adr 0)), (1, .int x1), (2, .int x2), (3, .int x3), (4, .int x4), (6, .int x6)]) dX8_tune_114 hf zc_iconst_1 rfl (Nat.le_of_ble_eq_true rfl) (fun _ => rfl) (fun v114 hf => ?_)
    refine z_goto B 38 dX8_tune_117 (by decide) ?_
    exact z_loc [1, 2, 3, 4, 5, 0] _ rfl (hh38 σ x1 x2 x3 x4 v114 hf)
  · refine z_aload_n B dX8_tune_54 0 rfl rfl ?_
    refine fR_g_row B dX8_tune_55 ?_
    refine z_iconst B (1) dX8_tune_58 zc_iconst_1 ?_
    refine z_iload B dX8_tune_59 5 rfl ?_
    refine fR_s_row B dX8_tune_61 hf (fun s61 hf => ?_)
    refine z_aload_n B dX8_tune_62 0 rfl rfl ?_
    refine fR_g_row B dX8_tune_63 ?_
    refine z_iconst B (2) dX8_tune_66 zc_iconst_2 ?_
    refine z_iload B dX8_tune_67 6 rfl ?_
    refine fR_s_row B dX8_tune_69 hf (fun s69 hf => ?_)
    refine z_aload_n B dX8_tune_70 0 rfl rfl ?_
    refine z_callVu B (As := []) kcV_X8_279 dX8_tune_71 hf (fun q hq => cR_readAnew q hq) (wR_o (adr := adr) (cI := cI) (cZ := cZ)) rfl rfl rfl rfl (Nat.le_of_ble_eq_true rfl) rfl rfl ⟨Nat.le_of_ble_eq_true rfl, Nat.le_of_ble_eq_true rfl⟩ (fun s71 hf => ?_)
    refine z_iload B dX8_tune_74 4 rfl ?_
    refine z_ldc B kw_1208 dX8_tune_76 ?_
    refine z_icmp_eq B 93 dX8_tune_78 (by decide) hf (fun hf => ?_) (fun hf => ?_)
    · exact tR_tune_93 B N hd38 hh38 hd47 hh47 s71 x1 x2 x3 x4 x5 x6 hf
    · refine z_aload_n B dX8_tune_81 0 rfl rfl ?_
      refine fR_g_row B dX8_tune_82 ?_
      refine z_bipush B (12) dX8_tune_85 zc_bipush_12 ?_
      refine fR_l_row B dX8_tune_87 hf (fun v87 hf => ?_)
      refine z_iload B dX8_tune_88 4 rfl ?_
      refine z_icmp_ge B 108 dX8_tune_90 (by decide) hf (fun hf => ?_) (fun hf => ?_)
      · exact tR_tune_108 B N hd38 hh38 hd47 hh47 s71 x1 x2 x3 x4 x5 x6 hf
      · exact tR_tune_93 B N hd38 hh38 hd47 hh47 s71 x1 x2 x3 x4 x5 x6 hf
def mR_tune_B38 (N : Nat) (hd38 : ST → Int32 → Int32 → Int32 → Int32 → Int32 → Option (Int32 × ST)) (σ : ST) (x1 : Int32) (x2 : Int32) (x3 : Int32) (x4 : Int32) (x5 : Int32) : Option (Int32 × ST) :=
  if ((4) : Int32) < x5 then
    zCallu (mR_endThought N σ) fun s121 =>
    if (x1 : Int32) = 0 then
      mR_tune_143 N s121 x1 x2 x3 x4 x5 x2
    else
      if (x1 : Int32) = (1) then
        mR_tune_143 N s121 x1 x2 x3 x4 x5 x3
      else
        mR_tune_143 N s121 x1 x2 x3 x4 x5 x4
  else
    mR_tune_47 N hd38 σ x1 x2 x3 x4 x5 (1)
def mR_tune_38 (N : Nat) : ST → Int32 → Int32 → Int32 → Int32 → Int32 → Option (Int32 × ST) := zIt (mR_tune_B38 N) (fun _ _ _ _ _ _ => none) N
set_option maxRecDepth 20000 in
set_option maxHeartbeats 2000000 in
theorem tR_tune_38 {adr : Nat → Nat} {cI cZ : ClassId} {X : zX} {q : Int32 × ST} (B : zC X 7 (wdR adr cI cZ) cX8_tune RX8 (some .int) { frames := 10, cells := 0, slots := 0, locals := 228 }) (N : Nat) : ∀ (σ : ST) (x1 : Int32) (x2 : Int32) (x3 : Int32) (x4 : Int32) (x5 : Int32), mR_tune_38 N σ x1 x2 x3 x4 x5 = some q → zJ X 7 (wdR adr cI cZ) (zi q) 38 [(0, .ref (adr 0)), (1, .int x1), (2, .int x2), (3, .int x3), (4, .int x4), (5, .int x5)] [] σ := by
  refine zIt_ind (P := fun (hd : ST → Int32 → Int32 → Int32 → Int32 → Int32 → Option (Int32 × ST)) => ∀ (σ : ST) (x1 : Int32) (x2 : Int32) (x3 : Int32) (x4 : Int32) (x5 : Int32), hd σ x1 x2 x3 x4 x5 = some q → zJ X 7 (wdR adr cI cZ) (zi q) 38 [(0, .ref (adr 0)), (1, .int x1), (2, .int x2), (3, .int x3), (4, .int x4), (5, .int x5)] [] σ) (fun _ _ _ _ _ _ hf => by cases hf) (fun hd38 hh38 => ?_) N
  intro σ x1 x2 x3 x4 x5 hf
  refine z_iload B dX8_tune_38 5 rfl ?_
  refine z_iconst B (4) dX8_tune_40 zc_iconst_4 ?_
  refine z_icmp_gt B 120 dX8_tune_41 (by decide) hf (fun hf => ?_) (fun hf => ?_)
  · refine z_aload_n B dX8_tune_120 0 rfl rfl ?_
    refine z_callVu B (As := []) kcV_X8_264 dX8_tune_121 hf (fun q hq => cR_endThought q hq) (wR_o (adr := adr) (cI := cI) (cZ := cZ)) rfl rfl rfl rfl (Nat.le_of_ble_eq_true rfl) rfl rfl ⟨Nat.le_of_ble_eq_true rfl, Nat.le_of_ble_eq_true rfl⟩ (fun s121 hf => ?_)
    refine z_iload_n B dX8_tune_124 1 rfl rfl ?_
    refine z_if_ne B 132 dX8_tune_125 (by decide) hf (fun hf => ?_) (fun hf => ?_)
    · refine z_iload_n B dX8_tune_132 1 rfl rfl ?_
      refine z_iconst B (1) dX8_tune_133 zc_iconst_1 ?_
      refine z_icmp_ne B 141 dX8_tune_134 (by decide) hf (fun hf => ?_) (fun hf => ?_)
      · refine z_iload B dX8_tune_141 4 rfl ?_
        exact tR_tune_143 B N s121 x1 x2 x3 x4 x5 x4 hf
      · refine z_iload_n B dX8_tune_137 3 rfl rfl ?_
        refine z_goto B 143 dX8_tune_138 (by decide) ?_
        exact tR_tune_143 B N s121 x1 x2 x3 x4 x5 x3 hf
    · refine z_iload_n B dX8_tune_128 2 rfl rfl ?_
      refine z_goto B 143 dX8_tune_129 (by decide) ?_
      exact tR_tune_143 B N s121 x1 x2 x3 x4 x5 x2 hf
  · refine z_iconst B (1) dX8_tune_44 zc_iconst_1 ?_
    refine z_istore B [(6, .int (1)), (0, .ref (adr 0)), (1, .int x1), (2, .int x2), (3, .int x3), (4, .int x4), (5, .int x5)] dX8_tune_45 (Nat.le_of_ble_eq_true rfl) rfl ?_
    exact z_loc [1, 2, 3, 4, 5, 6, 0] _ rfl (tR_tune_47 B N hd38 hh38 σ x1 x2 x3 x4 x5 (1) hf)
def mR_tune (N : Nat) (σ : ST) (x1 : Int32) : Option (Int32 × ST) :=
  zLet (zUp σ 0 0 (0)) fun s2 =>
  zLet ((x1 : Int32).toInt64) fun v6 =>
  zCall (mR_in N s2 v6 (0) (2)) fun v11 s11 =>
  if (v11 : Int32) = 0 then
    some ((-1), s11)
  else
    zCallu (mR_think N s11) fun s20 =>
    zCallu (mR_takeTrace N s20) fun s24 =>
    mR_tune_38 N s24 x1 (0) (0) (-2147483648) (1)
set_option maxRecDepth 20000 in
set_option maxHeartbeats 2000000 in
theorem cR_tune {adr : Nat → Nat} {cI cZ : ClassId} {l : Launch} {D : va_G} {N : Nat} {σ : ST} {x1 : Int32} (q : Int32 × ST) (hf : mR_tune N σ x1 = some q) : zM l D (wdR adr cI cZ) yX8_tune cX8_tune 7 (some .int) ({ frames := 10, cells := 0, slots := 0, locals := 228 }) [.ref (adr 0), .int x1] σ (zi q) := by
  refine zM_of sfR_ok rfl (Nat.le_of_ble_eq_true rfl) [(0, .ref (adr 0)), (1, .int x1)] rfl (fun X hX1 hX2 B => ?_)
  have B : zC X 7 (wdR adr cI cZ) cX8_tune RX8 (some .int) { frames := 10, cells := 0, slots := 0, locals := 228 } := B
  refine z_aload_n B dX8_tune_0 0 rfl rfl ?_
  refine z_iconst B (0) dX8_tune_1 zc_iconst_0 ?_
  refine fR_p_thrown B dX8_tune_2 hf (fun s2 hf => ?_)
  refine z_iload_n B dX8_tune_5 1 rfl rfl ?_
  refine z_i2l B dX8_tune_6 hf (fun v6 hf => ?_)
  refine z_lconst B (0) dX8_tune_7 rfl ?_
  refine z_ldc2 B kw_1238 dX8_tune_8 ?_
  refine z_callSi B (As := [.long v6, .long (0), .long (2)]) kcS_X8_71 dX8_tune_11 hf (fun q hq => cR_in q hq) rfl rfl (Nat.le_of_ble_eq_true rfl) rfl rfl ⟨Nat.le_of_ble_eq_true rfl, Nat.le_of_ble_eq_true rfl⟩ (fun v11 s11 hf => ?_)
  refine z_if_ne B 19 dX8_tune_14 (by decide) hf (fun hf => ?_) (fun hf => ?_)
  · refine z_aload_n B dX8_tune_19 0 rfl rfl ?_
    refine z_callVu B (As := []) kcV_X8_261 dX8_tune_20 hf (fun q hq => cR_think q hq) (wR_o (adr := adr) (cI := cI) (cZ := cZ)) rfl rfl rfl rfl (Nat.le_of_ble_eq_true rfl) rfl rfl ⟨Nat.le_of_ble_eq_true rfl, Nat.le_of_ble_eq_true rfl⟩ (fun s20 hf => ?_)
    refine z_aload_n B dX8_tune_23 0 rfl rfl ?_
    refine z_callVu B (As := []) kcV_X8_276 dX8_tune_24 hf (fun q hq => cR_takeTrace q hq) (wR_o (adr := adr) (cI := cI) (cZ := cZ)) rfl rfl rfl rfl (Nat.le_of_ble_eq_true rfl) rfl rfl ⟨Nat.le_of_ble_eq_true rfl, Nat.le_of_ble_eq_true rfl⟩ (fun s24 hf => ?_)
    refine z_iconst B (0) dX8_tune_27 zc_iconst_0 ?_
    refine z_istore_n B [(2, .int (0)), (0, .ref (adr 0)), (1, .int x1)] dX8_tune_28 rfl (Nat.le_of_ble_eq_true rfl) rfl ?_
    refine z_iconst B (0) dX8_tune_29 zc_iconst_0 ?_
    refine z_istore_n B [(3, .int (0)), (2, .int (0)), (0, .ref (adr 0)), (1, .int x1)] dX8_tune_30 rfl (Nat.le_of_ble_eq_true rfl) rfl ?_
    refine z_ldc B kw_1208 dX8_tune_31 ?_
    refine z_istore B [(4, .int (-2147483648)), (3, .int (0)), (2, .int (0)), (0, .ref (adr 0)), (1, .int x1)] dX8_tune_33 (Nat.le_of_ble_eq_true rfl) rfl ?_
    refine z_iconst B (1) dX8_tune_35 zc_iconst_1 ?_
    refine z_istore B [(5, .int (1)), (4, .int (-2147483648)), (3, .int (0)), (2, .int (0)), (0, .ref (adr 0)), (1, .int x1)] dX8_tune_36 (Nat.le_of_ble_eq_true rfl) rfl ?_
    exact z_loc [4, 5, 3, 2, 1, 0] _ rfl (tR_tune_38 B N s24 x1 (0) (0) (-2147483648) (1) hf)
  · refine z_iconst B (-1) dX8_tune_17 zc_iconst_m1 ?_
    exact z_ireturn B dX8_tune_18 hf
