theorem dX8_in_0 : decode cX8_in 0 = .ok (.lload_n 0, 1) := by decide +kernel
theorem dX8_in_1 : decode cX8_in 1 = .ok (.lload_n 2, 1) := by decide +kernel
theorem dX8_in_2 : decode cX8_in 2 = .ok (.lcmp, 1) := by decide +kernel
theorem dX8_in_3 : decode cX8_in 3 = .ok (.ifCond .lt 14, 3) := by decide +kernel
theorem dX8_in_6 : decode cX8_in 6 = .ok (.lload_n 0, 1) := by decide +kernel
theorem dX8_in_7 : decode cX8_in 7 = .ok (.lload 4, 2) := by decide +kernel
theorem dX8_in_9 : decode cX8_in 9 = .ok (.lcmp, 1) := by decide +kernel
theorem dX8_in_10 : decode cX8_in 10 = .ok (.ifCond .gt 7, 3) := by decide +kernel
theorem dX8_in_13 : decode cX8_in 13 = .ok (.iconst 1, 1) := by decide +kernel
theorem dX8_in_14 : decode cX8_in 14 = .ok (.goto 4, 3) := by decide +kernel
theorem dX8_in_17 : decode cX8_in 17 = .ok (.iconst 0, 1) := by decide +kernel
theorem dX8_in_18 : decode cX8_in 18 = .ok (.ireturn, 1) := by decide +kernel
def mR_in_18 (N : Nat) (σ : ST) (x0 : Int64) (x2 : Int64) (x4 : Int64) (k0 : Int32) : Option (Int32 × ST) :=
  zBool k0 (some (k0, σ))
set_option maxRecDepth 20000 in
set_option maxHeartbeats 2000000 in
theorem tR_in_18 {adr : Nat → Nat} {cI cZ : ClassId} {X : zX} {q : Int32 × ST} (B : zC X 6 (wdR adr cI cZ) cX8_in RX8 (some .boolean) { frames := 0, cells := 0, slots := 0, locals := 0 }) (N : Nat) (σ : ST) (x0 : Int64) (x2 : Int64) (x4 : Int64) (k0 : Int32) (hf : mR_in_18 N σ x0 x2 x4 k0 = some q) : zJ X 6 (wdR adr cI cZ) (zi q) 18 [(0, .long x0), (2, .long x2), (4, .long x4)] [.int k0] σ := by
  exact z_zreturn B dX8_in_18 hf
def mR_in_17 (N : Nat) (σ : ST) (x0 : Int64) (x2 : Int64) (x4 : Int64) : Option (Int32 × ST) :=
  mR_in_18 N σ x0 x2 x4 (0)
set_option maxRecDepth 20000 in
set_option maxHeartbeats 2000000 in
theorem tR_in_17 {adr : Nat → Nat} {cI cZ : ClassId} {X : zX} {q : Int32 × ST} (B : zC X 6 (wdR adr cI cZ) cX8_in RX8 (some .boolean) { frames := 0, cells := 0, slots := 0, locals := 0 }) (N : Nat) (σ : ST) (x0 : Int64) (x2 : Int64) (x4 : Int64) (hf : mR_in_17 N σ x0 x2 x4 = some q) : zJ X 6 (wdR adr cI cZ) (zi q) 17 [(0, .long x0), (2, .long x2), (4, .long x4)] [] σ := by
  refine z_iconst B (0) dX8_in_17 zc_iconst_0 ?_
  exact tR_in_18 B N σ x0 x2 x4 (0) hf
def mR_in (N : Nat) (σ : ST) (x0 : Int64) (x2 : Int64) (x4 : Int64) : Option (Int32 × ST) :=
  zLet (lg_cmp x0 x2) fun v2 =>
  if (v2 : Int32) < 0 then
    mR_in_17 N σ x0 x2 x4
  else
    zLet (lg_cmp x0 x4) fun v9 =>
    if (0 : Int32) < v9 then
      mR_in_17 N σ x0 x2 x4
    else
      mR_in_18 N σ x0 x2 x4 (1)
set_option maxRecDepth 20000 in
set_option maxHeartbeats 2000000 in
theorem cR_in {adr : Nat → Nat} {cI cZ : ClassId} {l : Launch} {D : va_G} {N : Nat} {σ : ST} {x0 : Int64} {x2 : Int64} {x4 : Int64} (q : Int32 × ST) (hf : mR_in N σ x0 x2 x4 = some q) : zM l D (wdR adr cI cZ) yX8_in cX8_in 6 (some .boolean) ({ frames := 0, cells := 0, slots := 0, locals := 0 }) [.long x0, .long x2, .long x4] σ (zi q) := by
  refine zM_of sfR_ok rfl (Nat.le_of_ble_eq_true rfl) [(0, .long x0), (2, .long x2), (4, .long x4)] rfl (fun X hX1 hX2 B => ?_)
  have B : zC X 6 (wdR adr cI cZ) cX8_in RX8 (some .boolean) { frames := 0, cells := 0, slots := 0, locals := 0 } := B
  refine z_lload_n B dX8_in_0 0 rfl rfl ?_
  refine z_lload_n B dX8_in_1 1 rfl rfl ?_
  refine z_lcmp B dX8_in_2 hf (fun v2 hf => ?_)
  refine z_if_lt B 17 dX8_in_3 (by decide) hf (fun hf => ?_) (fun hf => ?_)
  · exact tR_in_17 B N σ x0 x2 x4 hf
  · refine z_lload_n B dX8_in_6 0 rfl rfl ?_
    refine z_lload B dX8_in_7 2 rfl ?_
    refine z_lcmp B dX8_in_9 hf (fun v9 hf => ?_)
    refine z_if_gt B 17 dX8_in_10 (by decide) hf (fun hf => ?_) (fun hf => ?_)
    · exact tR_in_17 B N σ x0 x2 x4 hf
    · refine z_iconst B (1) dX8_in_13 zc_iconst_1 ?_
      refine z_goto B 18 dX8_in_14 (by decide) ?_
      exact tR_in_18 B N σ x0 x2 x4 (1) hf
theorem dX8_isTerm_0 : decode cX8_isTerm 0 = .ok (.iload_n 1, 1) := by decide +kernel
theorem dX8_isTerm_1 : decode cX8_isTerm 1 = .ok (.i2l, 1) := by decide +kernel
theorem dX8_isTerm_2 : decode cX8_isTerm 2 = .ok (.lconst 0, 1) := by decide +kernel
theorem dX8_isTerm_3 : decode cX8_isTerm 3 = .ok (.ldc2_w 79, 3) := by decide +kernel
theorem dX8_isTerm_6 : decode cX8_isTerm 6 = .ok (.invokestatic 71, 3) := by decide +kernel
theorem dX8_isTerm_9 : decode cX8_isTerm 9 = .ok (.ifCond .eq 29, 3) := by decide +kernel
theorem dX8_isTerm_12 : decode cX8_isTerm 12 = .ok (.iload_n 2, 1) := by decide +kernel
theorem dX8_isTerm_13 : decode cX8_isTerm 13 = .ok (.i2l, 1) := by decide +kernel
theorem dX8_isTerm_14 : decode cX8_isTerm 14 = .ok (.aload_n 0, 1) := by decide +kernel
theorem dX8_isTerm_15 : decode cX8_isTerm 15 = .ok (.getfield 37, 3) := by decide +kernel
theorem dX8_isTerm_18 : decode cX8_isTerm 18 = .ok (.iload_n 1, 1) := by decide +kernel
theorem dX8_isTerm_19 : decode cX8_isTerm 19 = .ok (.iaload, 1) := by decide +kernel
theorem dX8_isTerm_20 : decode cX8_isTerm 20 = .ok (.i2l, 1) := by decide +kernel
theorem dX8_isTerm_21 : decode cX8_isTerm 21 = .ok (.aload_n 0, 1) := by decide +kernel
theorem dX8_isTerm_22 : decode cX8_isTerm 22 = .ok (.getfield 40, 3) := by decide +kernel
theorem dX8_isTerm_25 : decode cX8_isTerm 25 = .ok (.iload_n 1, 1) := by decide +kernel
theorem dX8_isTerm_26 : decode cX8_isTerm 26 = .ok (.iaload, 1) := by decide +kernel
theorem dX8_isTerm_27 : decode cX8_isTerm 27 = .ok (.i2l, 1) := by decide +kernel
theorem dX8_isTerm_28 : decode cX8_isTerm 28 = .ok (.invokestatic 71, 3) := by decide +kernel
theorem dX8_isTerm_31 : decode cX8_isTerm 31 = .ok (.ifCond .eq 7, 3) := by decide +kernel
theorem dX8_isTerm_34 : decode cX8_isTerm 34 = .ok (.iconst 1, 1) := by decide +kernel
theorem dX8_isTerm_35 : decode cX8_isTerm 35 = .ok (.goto 4, 3) := by decide +kernel
theorem dX8_isTerm_38 : decode cX8_isTerm 38 = .ok (.iconst 0, 1) := by decide +kernel
theorem dX8_isTerm_39 : decode cX8_isTerm 39 = .ok (.ireturn, 1) := by decide +kernel
def mR_isTerm_39 (N : Nat) (σ : ST) (x1 : Int32) (x2 : Int32) (k0 : Int32) : Option (Int32 × ST) :=
  zBool k0 (some (k0, σ))
set_option maxRecDepth 20000 in
set_option maxHeartbeats 2000000 in
theorem tR_isTerm_39 {adr : Nat → Nat} {cI cZ : ClassId} {X : zX} {q : Int32 × ST} (B : zC X 3 (wdR adr cI cZ) cX8_isTerm RX8 (some .boolean) { frames := 1, cells := 0, slots := 0, locals := 25 }) (N : Nat) (σ : ST) (x1 : Int32) (x2 : Int32) (k0 : Int32) (hf : mR_isTerm_39 N σ x1 x2 k0 = some q) : zJ X 3 (wdR adr cI cZ) (zi q) 39 [(0, .ref (adr 0)), (1, .int x1), (2, .int x2)] [.int k0] σ := by
  exact z_zreturn B dX8_isTerm_39 hf
def mR_isTerm_38 (N : Nat) (σ : ST) (x1 : Int32) (x2 : Int32) : Option (Int32 × ST) :=
  mR_isTerm_39 N σ x1 x2 (0)
set_option maxRecDepth 20000 in
set_option maxHeartbeats 2000000 in
theorem tR_isTerm_38 {adr : Nat → Nat} {cI cZ : ClassId} {X : zX} {q : Int32 × ST} (B : zC X 3 (wdR adr cI cZ) cX8_isTerm RX8 (some .boolean) { frames := 1, cells := 0, slots := 0, locals := 25 }) (N : Nat) (σ : ST) (x1 : Int32) (x2 : Int32) (hf : mR_isTerm_38 N σ x1 x2 = some q) : zJ X 3 (wdR adr cI cZ) (zi q) 38 [(0, .ref (adr 0)), (1, .int x1), (2, .int x2)] [] σ := by
  refine z_iconst B (0) dX8_isTerm_38 zc_iconst_0 ?_
  exact tR_isTerm_39 B N σ x1 x2 (0) hf
def mR_isTerm (N : Nat) (σ : ST) (x1 : Int32) (x2 : Int32) : Option (Int32 × ST) :=
  zLet ((x1 : Int32).toInt64) fun v1 =>
  zCall (mR_in N σ v1 (0) (9)) fun v6 s6 =>
  if (v6 : Int32) = 0 then
    mR_isTerm_38 N s6 x1 x2
  else
    zLet ((x2 : Int32).toInt64) fun v13 =>
    zGet (s6 9) 10 x1 fun v19 =>
    zLet ((v19 : Int32).toInt64) fun v20 =>
    zGet (s6 10) 10 x1 fun v26 =>
    zLet ((v26 : Int32).toInt64) fun v27 =>
    zCall (mR_in N s6 v13 v20 v27) fun v28 s28 =>
    if (v28 : Int32) = 0 then
      mR_isTerm_38 N s28 x1 x2
    else
      mR_isTerm_39 N s28 x1 x2 (1)
set_option maxRecDepth 20000 in
set_option maxHeartbeats 2000000 in
theorem cR_isTerm {adr : Nat → Nat} {cI cZ : ClassId} {l : Launch} {D : va_G} {N : Nat} {σ : ST} {x1 : Int32} {x2 : Int32} (q : Int32 × ST) (hf : mR_isTerm N σ x1 x2 = some q) : zM l D (wdR adr cI cZ) yX8_isTerm cX8_isTerm 3 (some .boolean) ({ frames := 1, cells := 0, slots := 0, locals := 25 }) [.ref (adr 0), .int x1, .int x2] σ (zi q) := by
  refine zM_of sfR_ok rfl (Nat.le_of_ble_eq_true rfl) [(0, .ref (adr 0)), (1, .int x1), (2, .int x2)] rfl (fun X hX1 hX2 B => ?_)
  have B : zC X 3 (wdR adr cI cZ) cX8_isTerm RX8 (some .boolean) { frames := 1, cells := 0, slots := 0, locals := 25 } := B
  refine z_iload_n B dX8_isTerm_0 1 rfl rfl ?_
  refine z_i2l B dX8_isTerm_1 hf (fun v1 hf => ?_)
  refine z_lconst B (0) dX8_isTerm_2 rfl ?_
  refine z_ldc2 B kw_1010 dX8_isTerm_3 ?_
  refine z_callSi B (As := [.long v1, .long (0), .long (9)]) kcS_X8_71 dX8_isTerm_6 hf (fun q hq => cR_in q hq) rfl rfl (Nat.le_of_ble_eq_true rfl) rfl rfl ⟨Nat.le_of_ble_eq_true rfl, Nat.le_of_ble_eq_true rfl⟩ (fun v6 s6 hf => ?_)
  refine z_if_eq B 38 dX8_isTerm_9 (by decide) hf (fun hf => ?_) (fun hf => ?_)
  · exact tR_isTerm_38 B N s6 x1 x2 hf
  · refine z_iload_n B dX8_isTerm_12 2 rfl rfl ?_
    refine z_i2l B dX8_isTerm_13 hf (fun v13 hf => ?_)
    refine z_aload_n B dX8_isTerm_14 0 rfl rfl ?_
    refine fR_g_leastTerm B dX8_isTerm_15 ?_
    refine z_iload_n B dX8_isTerm_18 1 rfl rfl ?_
    refine fR_l_leastTerm B dX8_isTerm_19 hf (fun v19 hf => ?_)
    refine z_i2l B dX8_isTerm_20 hf (fun v20 hf => ?_)
    refine z_aload_n B dX8_isTerm_21 0 rfl rfl ?_
    refine fR_g_mostTerm B dX8_isTerm_22 ?_
    refine z_iload_n B dX8_isTerm_25 1 rfl rfl ?_
    refine fR_l_mostTerm B dX8_isTerm_26 hf (fun v26 hf => ?_)
    refine z_i2l B dX8_isTerm_27 hf (fun v27 hf => ?_)
    refine z_callSi B (As := [.long v13, .long v20, .long v27]) kcS_X8_71 dX8_isTerm_28 hf (fun q hq => cR_in q hq) rfl rfl (Nat.le_of_ble_eq_true rfl) rfl rfl ⟨Nat.le_of_ble_eq_true rfl, Nat.le_of_ble_eq_true rfl⟩ (fun v28 s28 hf => ?_)
    refine z_if_eq B 38 dX8_isTerm_31 (by decide) hf (fun hf => ?_) (fun hf => ?_)
    · exact tR_isTerm_38 B N s28 x1 x2 hf
    · refine z_iconst B (1) dX8_isTerm_34 zc_iconst_1 ?_
      refine z_goto B 39 dX8_isTerm_35 (by decide) ?_
      exact tR_isTerm_39 B N s28 x1 x2 (1) hf
theorem dX8_begin_0 : decode cX8_begin 0 = .ok (.bipush 10, 2) := by decide +kernel
theorem dX8_begin_2 : decode cX8_begin 2 = .ok (.istore_n 1, 1) := by decide +kernel
theorem dX8_begin_3 : decode cX8_begin 3 = .ok (.iload_n 1, 1) := by decide +kernel
theorem dX8_begin_4 : decode cX8_begin 4 = .ok (.sipush 1974, 3) := by decide +kernel
theorem dX8_begin_7 : decode cX8_begin 7 = .ok (.if_icmp .ge 16, 3) := by decide +kernel
theorem dX8_begin_10 : decode cX8_begin 10 = .ok (.aload_n 0, 1) := by decide +kernel
theorem dX8_begin_11 : decode cX8_begin 11 = .ok (.getfield 9, 3) := by decide +kernel
theorem dX8_begin_14 : decode cX8_begin 14 = .ok (.iload_n 1, 1) := by decide +kernel
theorem dX8_begin_15 : decode cX8_begin 15 = .ok (.iconst 0, 1) := by decide +kernel
theorem dX8_begin_16 : decode cX8_begin 16 = .ok (.iastore, 1) := by decide +kernel
theorem dX8_begin_17 : decode cX8_begin 17 = .ok (.iinc 1 1, 3) := by decide +kernel
theorem dX8_begin_20 : decode cX8_begin 20 = .ok (.goto (-17), 3) := by decide +kernel
theorem dX8_begin_23 : decode cX8_begin 23 = .ok (.return_, 1) := by decide +kernel
def mR_begin_B3 (N : Nat) (hd3 : ST → Int32 → Option (ST)) (σ : ST) (x1 : Int32) : Option (ST) :=
  if ((1974) : Int32) ≤ x1 then
    some σ
  else
    zSet σ 1 1974 x1 (0) fun s16 =>
    zLet (x1 + (1)) fun v17 =>
    hd3 s16 v17
def mR_begin_3 (N : Nat) : ST → Int32 → Option (ST) := zIt (mR_begin_B3 N) (fun _ _ => none) N
set_option maxRecDepth 20000 in
set_option maxHeartbeats 2000000 in
theorem tR_begin_3 {adr : Nat → Nat} {cI cZ : ClassId} {X : zX} {q : ST} (B : zC X 2 (wdR adr cI cZ) cX8_begin RX8 none { frames := 0, cells := 0, slots := 0, locals := 0 }) (N : Nat) : ∀ (σ : ST) (x1 : Int32), mR_begin_3 N σ x1 = some q → zJ X 2 (wdR adr cI cZ) (zu q) 3 [(0, .ref (adr 0)), (1, .int x1)] [] σ := by
  refine zIt_ind (P := fun (hd : ST → Int32 → Option (ST)) => ∀ (σ : ST) (x1 : Int32), hd σ x1 = some q → zJ X 2 (wdR adr cI cZ) (zu q) 3 [(0, .ref (adr 0)), (1, .int x1)] [] σ) (fun _ _ hf => by cases hf) (fun hd3 hh3 => ?_) N
  intro σ x1 hf
  refine z_iload_n B dX8_begin_3 1 rfl rfl ?_
  refine z_sipush B (1974) dX8_begin_4 zc_sipush_1974 ?_
  refine z_icmp_ge B 23 dX8_begin_7 (by decide) hf (fun hf => ?_) (fun hf => ?_)
  · exact z_return B dX8_begin_23 hf
  · refine z_aload_n B dX8_begin_10 0 rfl rfl ?_
    refine fR_g_row B dX8_begin_11 ?_
    refine z_iload_n B dX8_begin_14 1 rfl rfl ?_
    refine z_iconst B (0) dX8_begin_15 zc_iconst_0 ?_
    refine fR_s_row B dX8_begin_16 hf (fun s16 hf => ?_)
    refine z_iinc B (1) 1 (fun v17 => [(1, .int v17), (0, .ref (adr 0))]) dX8_begin_17 hf zc_iconst_1 rfl (Nat.le_of_ble_eq_true rfl) (fun _ => rfl) (fun v17 hf => ?_)
    refine z_goto B 3 dX8_begin_20 (by decide) ?_
    exact z_loc [1, 0] _ rfl (hh3 s16 v17 hf)
def mR_begin (N : Nat) (σ : ST) : Option (ST) :=
  mR_begin_3 N σ (10)
set_option maxRecDepth 20000 in
set_option maxHeartbeats 2000000 in
theorem cR_begin {adr : Nat → Nat} {cI cZ : ClassId} {l : Launch} {D : va_G} {N : Nat} {σ : ST} (q : ST) (hf : mR_begin N σ = some q) : zM l D (wdR adr cI cZ) yX8_begin cX8_begin 2 none ({ frames := 0, cells := 0, slots := 0, locals := 0 }) [.ref (adr 0)] σ (zu q) := by
  refine zM_of sfR_ok rfl (Nat.le_of_ble_eq_true rfl) [(0, .ref (adr 0))] rfl (fun X hX1 hX2 B => ?_)
  have B : zC X 2 (wdR adr cI cZ) cX8_begin RX8 none { frames := 0, cells := 0, slots := 0, locals := 0 } := B
  refine z_bipush B (10) dX8_begin_0 zc_bipush_10 ?_
  refine z_istore_n B [(1, .int (10)), (0, .ref (adr 0))] dX8_begin_2 rfl (Nat.le_of_ble_eq_true rfl) rfl ?_
  exact z_loc [1, 0] _ rfl (tR_begin_3 B N σ (10) hf)
theorem dX8_sets_0 : decode cX8_sets 0 = .ok (.aload_n 0, 1) := by decide +kernel
theorem dX8_sets_1 : decode cX8_sets 1 = .ok (.iconst 0, 1) := by decide +kernel
theorem dX8_sets_2 : decode cX8_sets 2 = .ok (.putfield 67, 3) := by decide +kernel
theorem dX8_sets_5 : decode cX8_sets 5 = .ok (.aload_n 0, 1) := by decide +kernel
theorem dX8_sets_6 : decode cX8_sets 6 = .ok (.iload_n 1, 1) := by decide +kernel
theorem dX8_sets_7 : decode cX8_sets 7 = .ok (.iload_n 2, 1) := by decide +kernel
theorem dX8_sets_8 : decode cX8_sets 8 = .ok (.invokevirtual 81, 3) := by decide +kernel
theorem dX8_sets_11 : decode cX8_sets 11 = .ok (.ifCond .eq 13, 3) := by decide +kernel
theorem dX8_sets_14 : decode cX8_sets 14 = .ok (.aload_n 0, 1) := by decide +kernel
theorem dX8_sets_15 : decode cX8_sets 15 = .ok (.getfield 9, 3) := by decide +kernel
theorem dX8_sets_18 : decode cX8_sets 18 = .ok (.iload_n 1, 1) := by decide +kernel
theorem dX8_sets_19 : decode cX8_sets 19 = .ok (.iaload, 1) := by decide +kernel
theorem dX8_sets_20 : decode cX8_sets 20 = .ok (.iload_n 2, 1) := by decide +kernel
theorem dX8_sets_21 : decode cX8_sets 21 = .ok (.if_icmp .ne 5, 3) := by decide +kernel
theorem dX8_sets_24 : decode cX8_sets 24 = .ok (.iconst 0, 1) := by decide +kernel
theorem dX8_sets_25 : decode cX8_sets 25 = .ok (.ireturn, 1) := by decide +kernel
theorem dX8_sets_26 : decode cX8_sets 26 = .ok (.aload_n 0, 1) := by decide +kernel
theorem dX8_sets_27 : decode cX8_sets 27 = .ok (.getfield 9, 3) := by decide +kernel
theorem dX8_sets_30 : decode cX8_sets 30 = .ok (.iload_n 1, 1) := by decide +kernel
theorem dX8_sets_31 : decode cX8_sets 31 = .ok (.iload_n 2, 1) := by decide +kernel
theorem dX8_sets_32 : decode cX8_sets 32 = .ok (.iastore, 1) := by decide +kernel
theorem dX8_sets_33 : decode cX8_sets 33 = .ok (.aload_n 0, 1) := by decide +kernel
theorem dX8_sets_34 : decode cX8_sets 34 = .ok (.invokevirtual 64, 3) := by decide +kernel
theorem dX8_sets_37 : decode cX8_sets 37 = .ok (.iconst 1, 1) := by decide +kernel
theorem dX8_sets_38 : decode cX8_sets 38 = .ok (.ireturn, 1) := by decide +kernel
def mR_sets_24 (N : Nat) (σ : ST) (x1 : Int32) (x2 : Int32) : Option (Int32 × ST) :=
  zBool (0) (some ((0), σ))
set_option maxRecDepth 20000 in
set_option maxHeartbeats 2000000 in
theorem tR_sets_24 {adr : Nat → Nat} {cI cZ : ClassId} {X : zX} {q : Int32 × ST} (B : zC X 3 (wdR adr cI cZ) cX8_sets RX8 (some .boolean) { frames := 2, cells := 0, slots := 0, locals := 47 }) (N : Nat) (σ : ST) (x1 : Int32) (x2 : Int32) (hf : mR_sets_24 N σ x1 x2 = some q) : zJ X 3 (wdR adr cI cZ) (zi q) 24 [(0, .ref (adr 0)), (1, .int x1), (2, .int x2)] [] σ := by
  refine z_iconst B (0) dX8_sets_24 zc_iconst_0 ?_
  exact z_zreturn B dX8_sets_25 hf
def mR_sets (N : Nat) (σ : ST) (x1 : Int32) (x2 : Int32) : Option (Int32 × ST) :=
  zLet (zUp σ 0 0 (0)) fun s2 =>
  zCall (mR_isTerm N s2 x1 x2) fun v8 s8 =>
  if (v8 : Int32) = 0 then
    mR_sets_24 N s8 x1 x2
  else
    zGet (s8 1) 1974 x1 fun v19 =>
    if (v19 : Int32) = x2 then
      mR_sets_24 N s8 x1 x2
    else
      zSet s8 1 1974 x1 x2 fun s32 =>
      zCallu (mR_begin N s32) fun s34 =>
      zBool (1) (some ((1), s34))
set_option maxRecDepth 20000 in
set_option maxHeartbeats 2000000 in
theorem cR_sets {adr : Nat → Nat} {cI cZ : ClassId} {l : Launch} {D : va_G} {N : Nat} {σ : ST} {x1 : Int32} {x2 : Int32} (q : Int32 × ST) (hf : mR_sets N σ x1 x2 = some q) : zM l D (wdR adr cI cZ) yX8_sets cX8_sets 3 (some .boolean) ({ frames := 2, cells := 0, slots := 0, locals := 47 }) [.ref (adr 0), .int x1, .int x2] σ (zi q) := by
  refine zM_of sfR_ok rfl (Nat.le_of_ble_eq_true rfl) [(0, .ref (adr 0)), (1, .int x1), (2, .int x2)] rfl (fun X hX1 hX2 B => ?_)
  have B : zC X 3 (wdR adr cI cZ) cX8_sets RX8 (some .boolean) { frames := 2, cells := 0, slots := 0, locals := 47 } := B
  refine z_aload_n B dX8_sets_0 0 rfl rfl ?_
  refine z_iconst B (0) dX8_sets_1 zc_iconst_0 ?_
  refine fR_p_thrown B dX8_sets_2 hf (fun s2 hf => ?_)
  refine z_aload_n B dX8_sets_5 0 rfl rfl ?_
  refine z_iload_n B dX8_sets_6 1 rfl rfl ?_
  refine z_iload_n B dX8_sets_7 2 rfl rfl ?_
  refine z_callVi B (As := [.int x1, .int x2]) kcV_X8_81 dX8_sets_8 hf (fun q hq => cR_isTerm q hq) (wR_o (adr := adr) (cI := cI) (cZ := cZ)) rfl rfl rfl rfl (Nat.le_of_ble_eq_true rfl) rfl rfl ⟨Nat.le_of_ble_eq_true rfl, Nat.le_of_ble_eq_true rfl⟩ (fun v8 s8 hf => ?_)
  refine z_if_eq B 24 dX8_sets_11 (by decide) hf (fun hf => ?_) (fun hf => ?_)
  · exact tR_sets_24 B N s8 x1 x2 hf
  · refine z_aload_n B dX8_sets_14 0 rfl rfl ?_
    refine fR_g_row B dX8_sets_15 ?_
    refine z_iload_n B dX8_sets_18 1 rfl rfl ?_
    refine fR_l_row B dX8_sets_19 hf (fun v19 hf => ?_)
    refine z_iload_n B dX8_sets_20 2 rfl rfl ?_
    refine z_icmp_ne B 26 dX8_sets_21 (by decide) hf (fun hf => ?_) (fun hf => ?_)
    · refine z_aload_n B dX8_sets_26 0 rfl rfl ?_
      refine fR_g_row B dX8_sets_27 ?_
      refine z_iload_n B dX8_sets_30 1 rfl rfl ?_
      refine z_iload_n B dX8_sets_31 2 rfl rfl ?_
      refine fR_s_row B dX8_sets_32 hf (fun s32 hf => ?_)
      refine z_aload_n B dX8_sets_33 0 rfl rfl ?_
      refine z_callVu B (As := []) kcV_X8_64 dX8_sets_34 hf (fun q hq => cR_begin q hq) (wR_o (adr := adr) (cI := cI) (cZ := cZ)) rfl rfl rfl rfl (Nat.le_of_ble_eq_true rfl) rfl rfl ⟨Nat.le_of_ble_eq_true rfl, Nat.le_of_ble_eq_true rfl⟩ (fun s34 hf => ?_)
      refine z_iconst B (1) dX8_sets_37 zc_iconst_1 ?_
      exact z_zreturn B dX8_sets_38 hf
    · exact tR_sets_24 B N s8 x1 x2 hf
theorem dX8_isBlock_0 : decode cX8_isBlock 0 = .ok (.iload_n 1, 1) := by decide +kernel
theorem dX8_isBlock_1 : decode cX8_isBlock 1 = .ok (.i2l, 1) := by decide +kernel
theorem dX8_isBlock_2 : decode cX8_isBlock 2 = .ok (.lconst 0, 1) := by decide +kernel
theorem dX8_isBlock_3 : decode cX8_isBlock 3 = .ok (.aload_n 0, 1) := by decide +kernel
theorem dX8_isBlock_4 : decode cX8_isBlock 4 = .ok (.getfield 9, 3) := by decide +kernel
theorem dX8_isBlock_7 : decode cX8_isBlock 7 = .ok (.bipush 7, 2) := by decide +kernel
theorem dX8_isBlock_9 : decode cX8_isBlock 9 = .ok (.iaload, 1) := by decide +kernel
theorem dX8_isBlock_10 : decode cX8_isBlock 10 = .ok (.i2l, 1) := by decide +kernel
theorem dX8_isBlock_11 : decode cX8_isBlock 11 = .ok (.lconst 1, 1) := by decide +kernel
theorem dX8_isBlock_12 : decode cX8_isBlock 12 = .ok (.lsub, 1) := by decide +kernel
theorem dX8_isBlock_13 : decode cX8_isBlock 13 = .ok (.invokestatic 71, 3) := by decide +kernel
theorem dX8_isBlock_16 : decode cX8_isBlock 16 = .ok (.ireturn, 1) := by decide +kernel
def mR_isBlock (N : Nat) (σ : ST) (x1 : Int32) : Option (Int32 × ST) :=
  zLet ((x1 : Int32).toInt64) fun v1 =>
  zGet (σ 1) 1974 (7) fun v9 =>
  zLet ((v9 : Int32).toInt64) fun v10 =>
  zLet ((v10 : Int64) - (1)) fun v12 =>
  zCall (mR_in N σ v1 (0) v12) fun v13 s13 =>
  zBool v13 (some (v13, s13))
set_option maxRecDepth 20000 in
set_option maxHeartbeats 2000000 in
theorem cR_isBlock {adr : Nat → Nat} {cI cZ : ClassId} {l : Launch} {D : va_G} {N : Nat} {σ : ST} {x1 : Int32} (q : Int32 × ST) (hf : mR_isBlock N σ x1 = some q) : zM l D (wdR adr cI cZ) yX8_isBlock cX8_isBlock 2 (some .boolean) ({ frames := 1, cells := 0, slots := 0, locals := 25 }) [.ref (adr 0), .int x1] σ (zi q) := by
  refine zM_of sfR_ok rfl (Nat.le_of_ble_eq_true rfl) [(0, .ref (adr 0)), (1, .int x1)] rfl (fun X hX1 hX2 B => ?_)
  have B : zC X 2 (wdR adr cI cZ) cX8_isBlock RX8 (some .boolean) { frames := 1, cells := 0, slots := 0, locals := 25 } := B
  refine z_iload_n B dX8_isBlock_0 1 rfl rfl ?_
  refine z_i2l B dX8_isBlock_1 hf (fun v1 hf => ?_)
  refine z_lconst B (0) dX8_isBlock_2 rfl ?_
  refine z_aload_n B dX8_isBlock_3 0 rfl rfl ?_
  refine fR_g_row B dX8_isBlock_4 ?_
  refine z_bipush B (7) dX8_isBlock_7 zc_bipush_7 ?_
  refine fR_l_row B dX8_isBlock_9 hf (fun v9 hf => ?_)
  refine z_i2l B dX8_isBlock_10 hf (fun v10 hf => ?_)
  refine z_lconst B (1) dX8_isBlock_11 rfl ?_
  refine z_lsub B dX8_isBlock_12 hf (fun v12 hf => ?_)
  refine z_callSi B (As := [.long v1, .long (0), .long v12]) kcS_X8_71 dX8_isBlock_13 hf (fun q hq => cR_in q hq) rfl rfl (Nat.le_of_ble_eq_true rfl) rfl rfl ⟨Nat.le_of_ble_eq_true rfl, Nat.le_of_ble_eq_true rfl⟩ (fun v13 s13 hf => ?_)
  exact z_zreturn B dX8_isBlock_16 hf
theorem dX8_isAheadOf_0 : decode cX8_isAheadOf 0 = .ok (.iload_n 2, 1) := by decide +kernel
theorem dX8_isAheadOf_1 : decode cX8_isAheadOf 1 = .ok (.aload_n 0, 1) := by decide +kernel
theorem dX8_isAheadOf_2 : decode cX8_isAheadOf 2 = .ok (.getfield 9, 3) := by decide +kernel
theorem dX8_isAheadOf_5 : decode cX8_isAheadOf 5 = .ok (.iload_n 1, 1) := by decide +kernel
theorem dX8_isAheadOf_6 : decode cX8_isAheadOf 6 = .ok (.iconst 2, 1) := by decide +kernel
theorem dX8_isAheadOf_7 : decode cX8_isAheadOf 7 = .ok (.iadd, 1) := by decide +kernel
theorem dX8_isAheadOf_8 : decode cX8_isAheadOf 8 = .ok (.iaload, 1) := by decide +kernel
theorem dX8_isAheadOf_9 : decode cX8_isAheadOf 9 = .ok (.isub, 1) := by decide +kernel
theorem dX8_isAheadOf_10 : decode cX8_isAheadOf 10 = .ok (.istore_n 3, 1) := by decide +kernel
theorem dX8_isAheadOf_11 : decode cX8_isAheadOf 11 = .ok (.aload_n 0, 1) := by decide +kernel
theorem dX8_isAheadOf_12 : decode cX8_isAheadOf 12 = .ok (.getfield 9, 3) := by decide +kernel
theorem dX8_isAheadOf_15 : decode cX8_isAheadOf 15 = .ok (.iload_n 1, 1) := by decide +kernel
theorem dX8_isAheadOf_16 : decode cX8_isAheadOf 16 = .ok (.iconst 3, 1) := by decide +kernel
theorem dX8_isAheadOf_17 : decode cX8_isAheadOf 17 = .ok (.iadd, 1) := by decide +kernel
theorem dX8_isAheadOf_18 : decode cX8_isAheadOf 18 = .ok (.iaload, 1) := by decide +kernel
theorem dX8_isAheadOf_19 : decode cX8_isAheadOf 19 = .ok (.ifCond .le 15, 3) := by decide +kernel
theorem dX8_isAheadOf_22 : decode cX8_isAheadOf 22 = .ok (.iload_n 3, 1) := by decide +kernel
theorem dX8_isAheadOf_23 : decode cX8_isAheadOf 23 = .ok (.ifCond .le 7, 3) := by decide +kernel
theorem dX8_isAheadOf_26 : decode cX8_isAheadOf 26 = .ok (.iconst 1, 1) := by decide +kernel
theorem dX8_isAheadOf_27 : decode cX8_isAheadOf 27 = .ok (.goto 16, 3) := by decide +kernel
theorem dX8_isAheadOf_30 : decode cX8_isAheadOf 30 = .ok (.iconst 0, 1) := by decide +kernel
theorem dX8_isAheadOf_31 : decode cX8_isAheadOf 31 = .ok (.goto 12, 3) := by decide +kernel
theorem dX8_isAheadOf_34 : decode cX8_isAheadOf 34 = .ok (.iload_n 3, 1) := by decide +kernel
theorem dX8_isAheadOf_35 : decode cX8_isAheadOf 35 = .ok (.ifCond .ge 7, 3) := by decide +kernel
theorem dX8_isAheadOf_38 : decode cX8_isAheadOf 38 = .ok (.iconst 1, 1) := by decide +kernel
theorem dX8_isAheadOf_39 : decode cX8_isAheadOf 39 = .ok (.goto 4, 3) := by decide +kernel
theorem dX8_isAheadOf_42 : decode cX8_isAheadOf 42 = .ok (.iconst 0, 1) := by decide +kernel
theorem dX8_isAheadOf_43 : decode cX8_isAheadOf 43 = .ok (.ireturn, 1) := by decide +kernel
def mR_isAheadOf_43 (N : Nat) (σ : ST) (x1 : Int32) (x2 : Int32) (x3 : Int32) (k0 : Int32) : Option (Int32 × ST) :=
  zBool k0 (some (k0, σ))
set_option maxRecDepth 20000 in
set_option maxHeartbeats 2000000 in
theorem tR_isAheadOf_43 {adr : Nat → Nat} {cI cZ : ClassId} {X : zX} {q : Int32 × ST} (B : zC X 4 (wdR adr cI cZ) cX8_isAheadOf RX8 (some .boolean) { frames := 0, cells := 0, slots := 0, locals := 0 }) (N : Nat) (σ : ST) (x1 : Int32) (x2 : Int32) (x3 : Int32) (k0 : Int32) (hf : mR_isAheadOf_43 N σ x1 x2 x3 k0 = some q) : zJ X 4 (wdR adr cI cZ) (zi q) 43 [(0, .ref (adr 0)), (1, .int x1), (2, .int x2), (3, .int x3)] [.int k0] σ := by
  exact z_zreturn B dX8_isAheadOf_43 hf
def mR_isAheadOf (N : Nat) (σ : ST) (x1 : Int32) (x2 : Int32) : Option (Int32 × ST) :=
  zLet ((x1 : Int32) + (2)) fun v7 =>
  zGet (σ 1) 1974 v7 fun v8 =>
  zLet ((x2 : Int32) - v8) fun v9 =>
  zLet ((x1 : Int32) + (3)) fun v17 =>
  zGet (σ 1) 1974 v17 fun v18 =>
  if (v18 : Int32) ≤ 0 then
    if (0 : Int32) ≤ v9 then
      mR_isAheadOf_43 N σ x1 x2 v9 (0)
    else
      mR_isAheadOf_43 N σ x1 x2 v9 (1)
  else
    if (v9 : Int32) ≤ 0 then
      mR_isAheadOf_43 N σ x1 x2 v9 (0)
    else
      mR_isAheadOf_43 N σ x1 x2 v9 (1)
set_option maxRecDepth 20000 in
set_option maxHeartbeats 2000000 in
theorem cR_isAheadOf {adr : Nat → Nat} {cI cZ : ClassId} {l : Launch} {D : va_G} {N : Nat} {σ : ST} {x1 : Int32} {x2 : Int32} (q : Int32 × ST) (hf : mR_isAheadOf N σ x1 x2 = some q) : zM l D (wdR adr cI cZ) yX8_isAheadOf cX8_isAheadOf 4 (some .boolean) ({ frames := 0, cells := 0, slots := 0, locals := 0 }) [.ref (adr 0), .int x1, .int x2] σ (zi q) := by
  refine zM_of sfR_ok rfl (Nat.le_of_ble_eq_true rfl) [(0, .ref (adr 0)), (1, .int x1), (2, .int x2)] rfl (fun X hX1 hX2 B => ?_)
  have B : zC X 4 (wdR adr cI cZ) cX8_isAheadOf RX8 (some .boolean) { frames := 0, cells := 0, slots := 0, locals := 0 } := B
  refine z_iload_n B dX8_isAheadOf_0 2 rfl rfl ?_
  refine z_aload_n B dX8_isAheadOf_1 0 rfl rfl ?_
  refine fR_g_row B dX8_isAheadOf_2 ?_
  refine z_iload_n B dX8_isAheadOf_5 1 rfl rfl ?_
  refine z_iconst B (2) dX8_isAheadOf_6 zc_iconst_2 ?_
  refine z_iadd B dX8_isAheadOf_7 hf (fun v7 hf => ?_)
  refine fR_l_row B dX8_isAheadOf_8 hf (fun v8 hf => ?_)
  refine z_isub B dX8_isAheadOf_9 hf (fun v9 hf => ?_)
  refine z_istore_n B [(3, .int v9), (0, .ref (adr 0)), (1, .int x1), (2, .int x2)] dX8_isAheadOf_10 rfl (Nat.le_of_ble_eq_true rfl) rfl ?_
  refine z_aload_n B dX8_isAheadOf_11 1 rfl rfl ?_
  refine fR_g_row B dX8_isAheadOf_12 ?_
  refine z_iload_n B dX8_isAheadOf_15 2 rfl rfl ?_
  refine z_iconst B (3) dX8_isAheadOf_16 zc_iconst_3 ?_
  refine z_iadd B dX8_isAheadOf_17 hf (fun v17 hf => ?_)
  refine fR_l_row B dX8_isAheadOf_18 hf (fun v18 hf => ?_)
  refine z_if_le B 34 dX8_isAheadOf_19 (by decide) hf (fun hf => ?_) (fun hf => ?_)
  · refine z_iload_n B dX8_isAheadOf_34 0 rfl rfl ?_
    refine z_if_ge B 42 dX8_isAheadOf_35 (by decide) hf (fun hf => ?_) (fun hf => ?_)
    · refine z_iconst B (0) dX8_isAheadOf_42 zc_iconst_0 ?_
      exact z_loc [1, 2, 3, 0] _ rfl (tR_isAheadOf_43 B N σ x1 x2 v9 (0) hf)
    · refine z_iconst B (1) dX8_isAheadOf_38 zc_iconst_1 ?_
      refine z_goto B 43 dX8_isAheadOf_39 (by decide) ?_
      exact z_loc [1, 2, 3, 0] _ rfl (tR_isAheadOf_43 B N σ x1 x2 v9 (1) hf)
  · refine z_iload_n B dX8_isAheadOf_22 0 rfl rfl ?_
    refine z_if_le B 30 dX8_isAheadOf_23 (by decide) hf (fun hf => ?_) (fun hf => ?_)
    · refine z_iconst B (0) dX8_isAheadOf_30 zc_iconst_0 ?_
      refine z_goto B 43 dX8_isAheadOf_31 (by decide) ?_
      exact z_loc [1, 2, 3, 0] _ rfl (tR_isAheadOf_43 B N σ x1 x2 v9 (0) hf)
    · refine z_iconst B (1) dX8_isAheadOf_26 zc_iconst_1 ?_
      refine z_goto B 43 dX8_isAheadOf_27 (by decide) ?_
      exact z_loc [1, 2, 3, 0] _ rfl (tR_isAheadOf_43 B N σ x1 x2 v9 (1) hf)
theorem dX8_cacheAt_0 : decode cX8_cacheAt 0 = .ok (.bipush 30, 2) := by decide +kernel
theorem dX8_cacheAt_2 : decode cX8_cacheAt 2 = .ok (.bipush 8, 2) := by decide +kernel
theorem dX8_cacheAt_4 : decode cX8_cacheAt 4 = .ok (.iload_n 0, 1) := by decide +kernel
theorem dX8_cacheAt_5 : decode cX8_cacheAt 5 = .ok (.imul, 1) := by decide +kernel
theorem dX8_cacheAt_6 : decode cX8_cacheAt 6 = .ok (.iadd, 1) := by decide +kernel
theorem dX8_cacheAt_7 : decode cX8_cacheAt 7 = .ok (.ireturn, 1) := by decide +kernel
def mR_cacheAt (N : Nat) (σ : ST) (x0 : Int32) : Option (Int32 × ST) :=
  zLet (((8) : Int32) * x0) fun v5 =>
  zLet (((30) : Int32) + v5) fun v6 =>
  some (v6, σ)
set_option maxRecDepth 20000 in
set_option maxHeartbeats 2000000 in
theorem cR_cacheAt {adr : Nat → Nat} {cI cZ : ClassId} {l : Launch} {D : va_G} {N : Nat} {σ : ST} {x0 : Int32} (q : Int32 × ST) (hf : mR_cacheAt N σ x0 = some q) : zM l D (wdR adr cI cZ) yX8_cacheAt cX8_cacheAt 1 (some .int) ({ frames := 0, cells := 0, slots := 0, locals := 0 }) [.int x0] σ (zi q) := by
  refine zM_of sfR_ok rfl (Nat.le_of_ble_eq_true rfl) [(0, .int x0)] rfl (fun X hX1 hX2 B => ?_)
  have B : zC X 1 (wdR adr cI cZ) cX8_cacheAt RX8 (some .int) { frames := 0, cells := 0, slots := 0, locals := 0 } := B
  refine z_bipush B (30) dX8_cacheAt_0 zc_bipush_30 ?_
  refine z_bipush B (8) dX8_cacheAt_2 zc_bipush_8 ?_
  refine z_iload_n B dX8_cacheAt_4 0 rfl rfl ?_
  refine z_imul B dX8_cacheAt_5 hf (fun v5 hf => ?_)
  refine z_iadd B dX8_cacheAt_6 hf (fun v6 hf => ?_)
  exact z_ireturn B dX8_cacheAt_7 hf
theorem dX8_place_0 : decode cX8_place 0 = .ok (.iconst 0, 1) := by decide +kernel
theorem dX8_place_1 : decode cX8_place 1 = .ok (.istore_n 2, 1) := by decide +kernel
theorem dX8_place_2 : decode cX8_place 2 = .ok (.iload_n 2, 1) := by decide +kernel
theorem dX8_place_3 : decode cX8_place 3 = .ok (.aload_n 0, 1) := by decide +kernel
theorem dX8_place_4 : decode cX8_place 4 = .ok (.getfield 9, 3) := by decide +kernel
theorem dX8_place_7 : decode cX8_place 7 = .ok (.iconst 0, 1) := by decide +kernel
theorem dX8_place_8 : decode cX8_place 8 = .ok (.iaload, 1) := by decide +kernel
theorem dX8_place_9 : decode cX8_place 9 = .ok (.if_icmp .ge 29, 3) := by decide +kernel
theorem dX8_place_12 : decode cX8_place 12 = .ok (.aload_n 0, 1) := by decide +kernel
theorem dX8_place_13 : decode cX8_place 13 = .ok (.getfield 9, 3) := by decide +kernel
theorem dX8_place_16 : decode cX8_place 16 = .ok (.iload_n 2, 1) := by decide +kernel
theorem dX8_place_17 : decode cX8_place 17 = .ok (.invokestatic 85, 3) := by decide +kernel
theorem dX8_place_20 : decode cX8_place 20 = .ok (.iaload, 1) := by decide +kernel
theorem dX8_place_21 : decode cX8_place 21 = .ok (.iload_n 1, 1) := by decide +kernel
theorem dX8_place_22 : decode cX8_place 22 = .ok (.iconst 1, 1) := by decide +kernel
theorem dX8_place_23 : decode cX8_place 23 = .ok (.iadd, 1) := by decide +kernel
theorem dX8_place_24 : decode cX8_place 24 = .ok (.if_icmp .ne 8, 3) := by decide +kernel
theorem dX8_place_27 : decode cX8_place 27 = .ok (.iload_n 2, 1) := by decide +kernel
theorem dX8_place_28 : decode cX8_place 28 = .ok (.invokestatic 85, 3) := by decide +kernel
theorem dX8_place_31 : decode cX8_place 31 = .ok (.ireturn, 1) := by decide +kernel
theorem dX8_place_32 : decode cX8_place 32 = .ok (.iinc 2 1, 3) := by decide +kernel
theorem dX8_place_35 : decode cX8_place 35 = .ok (.goto (-33), 3) := by decide +kernel
theorem dX8_place_38 : decode cX8_place 38 = .ok (.iconst (-1), 1) := by decide +kernel
theorem dX8_place_39 : decode cX8_place 39 = .ok (.ireturn, 1) := by decide +kernel
def mR_place_B2 (N : Nat) (hd2 : ST → Int32 → Int32 → Option (Int32 × ST)) (σ : ST) (x1 : Int32) (x2 : Int32) : Option (Int32 × ST) :=
  zGet (σ 1) 1974 (0) fun v8 =>
  if (v8 : Int32) ≤ x2 then
    some ((-1), σ)
  else
    zCall (mR_cacheAt N σ x2) fun v17 s17 =>
    zGet (s17 1) 1974 v17 fun v20 =>
    zLet ((x1 : Int32) + (1)) fun v23 =>
    if (v20 : Int32) = v23 then
      zCall (mR_cacheAt N s17 x2) fun v28 s28 =>
      some (v28, s28)
    else
      zLet (x2 + (1)) fun v32 =>
      hd2 s17 x1 v32
def mR_place_2 (N : Nat) : ST → Int32 → Int32 → Option (Int32 × ST) := zIt (mR_place_B2 N) (fun _ _ _ => none) N
set_option maxRecDepth 20000 in
set_option maxHeartbeats 2000000 in
theorem tR_place_2 {adr : Nat → Nat} {cI cZ : ClassId} {X : zX} {q : Int32 × ST} (B : zC X 3 (wdR adr cI cZ) cX8_place RX8 (some .int) { frames := 1, cells := 0, slots := 0, locals := 20 }) (N : Nat) : ∀ (σ : ST) (x1 : Int32) (x2 : Int32), mR_place_2 N σ x1 x2 = some q → zJ X 3 (wdR adr cI cZ) (zi q) 2 [(0, .ref (adr 0)), (1, .int x1), (2, .int x2)] [] σ := by
  refine zIt_ind (P := fun (hd : ST → Int32 → Int32 → Option (Int32 × ST)) => ∀ (σ : ST) (x1 : Int32) (x2 : Int32), hd σ x1 x2 = some q → zJ X 3 (wdR adr cI cZ) (zi q) 2 [(0, .ref (adr 0)), (1, .int x1), (2, .int x2)] [] σ) (fun _ _ _ hf => by cases hf) (fun hd2 hh2 => ?_) N
  intro σ x1 x2 hf
  refine z_iload_n B dX8_place_2 2 rfl rfl ?_
  refine z_aload_n B dX8_place_3 0 rfl rfl ?_
  refine fR_g_row B dX8_place_4 ?_
  refine z_iconst B (0) dX8_place_7 zc_iconst_0 ?_
  refine fR_l_row B dX8_place_8 hf (fun v8 hf => ?_)
  refine z_icmp_ge B 38 dX8_place_9 (by decide) hf (fun hf => ?_) (fun hf => ?_)
  · refine z_iconst B (-1) dX8_place_38 zc_iconst_m1 ?_
    exact z_ireturn B dX8_place_39 hf
  · refine z_aload_n B dX8_place_12 0 rfl rfl ?_
    refine fR_g_row B dX8_place_13 ?_
    refine z_iload_n B dX8_place_16 2 rfl rfl ?_
    refine z_callSi B (As := [.int x2]) kcS_X8_85 dX8_place_17 hf (fun q hq => cR_cacheAt q hq) rfl rfl (Nat.le_of_ble_eq_true rfl) rfl rfl ⟨Nat.le_of_ble_eq_true rfl, Nat.le_of_ble_eq_true rfl⟩ (fun v17 s17 hf => ?_)
    refine fR_l_row B dX8_place_20 hf (fun v20 hf => ?_)
    refine z_iload_n B dX8_place_21 1 rfl rfl ?_
    refine z_iconst B (1) dX8_place_22 zc_iconst_1 ?_
    refine z_iadd B dX8_place_23 hf (fun v23 hf => ?_)
    refine z_icmp_ne B 32 dX8_place_24 (by decide) hf (fun hf => ?_) (fun hf => ?_)
    · refine z_iinc B (1) 2 (fun v32 => [(2, .int v32), (0, .ref (adr 0)), (1, .int x1)]) dX8_place_32 hf zc_iconst_1 rfl (Nat.le_of_ble_eq_true rfl) (fun _ => rfl) (fun v32 hf => ?_)
      refine z_goto B 2 dX8_place_35 (by decide) ?_
      exact z_loc [1, 2, 0] _ rfl (hh2 s17 x1 v32 hf)
    · refine z_iload_n B dX8_place_27 2 rfl rfl ?_
      refine z_callSi B (As := [.int x2]) kcS_X8_85 dX8_place_28 hf (fun q hq => cR_cacheAt q hq) rfl rfl (Nat.le_of_ble_eq_true rfl) rfl rfl ⟨Nat.le_of_ble_eq_true rfl, Nat.le_of_ble_eq_true rfl⟩ (fun v28 s28 hf => ?_)
      exact z_ireturn B dX8_place_31 hf
def mR_place (N : Nat) (σ : ST) (x1 : Int32) : Option (Int32 × ST) :=
  mR_place_2 N σ x1 (0)
set_option maxRecDepth 20000 in
set_option maxHeartbeats 2000000 in
theorem cR_place {adr : Nat → Nat} {cI cZ : ClassId} {l : Launch} {D : va_G} {N : Nat} {σ : ST} {x1 : Int32} (q : Int32 × ST) (hf : mR_place N σ x1 = some q) : zM l D (wdR adr cI cZ) yX8_place cX8_place 3 (some .int) ({ frames := 1, cells := 0, slots := 0, locals := 20 }) [.ref (adr 0), .int x1] σ (zi q) := by
  refine zM_of sfR_ok rfl (Nat.le_of_ble_eq_true rfl) [(0, .ref (adr 0)), (1, .int x1)] rfl (fun X hX1 hX2 B => ?_)
  have B : zC X 3 (wdR adr cI cZ) cX8_place RX8 (some .int) { frames := 1, cells := 0, slots := 0, locals := 20 } := B
  refine z_iconst B (0) dX8_place_0 zc_iconst_0 ?_
  refine z_istore_n B [(2, .int (0)), (0, .ref (adr 0)), (1, .int x1)] dX8_place_1 rfl (Nat.le_of_ble_eq_true rfl) rfl ?_
  exact z_loc [1, 2, 0] _ rfl (tR_place_2 B N σ x1 (0) hf)
theorem dX8_stamp_0 : decode cX8_stamp 0 = .ok (.aload_n 0, 1) := by decide +kernel
theorem dX8_stamp_1 : decode cX8_stamp 1 = .ok (.getfield 9, 3) := by decide +kernel
theorem dX8_stamp_4 : decode cX8_stamp 4 = .ok (.bipush 21, 2) := by decide +kernel
theorem dX8_stamp_6 : decode cX8_stamp 6 = .ok (.dup2, 1) := by decide +kernel
theorem dX8_stamp_7 : decode cX8_stamp 7 = .ok (.iaload, 1) := by decide +kernel
theorem dX8_stamp_8 : decode cX8_stamp 8 = .ok (.iconst 1, 1) := by decide +kernel
theorem dX8_stamp_9 : decode cX8_stamp 9 = .ok (.iadd, 1) := by decide +kernel
theorem dX8_stamp_10 : decode cX8_stamp 10 = .ok (.iastore, 1) := by decide +kernel
theorem dX8_stamp_11 : decode cX8_stamp 11 = .ok (.aload_n 0, 1) := by decide +kernel
theorem dX8_stamp_12 : decode cX8_stamp 12 = .ok (.getfield 9, 3) := by decide +kernel
theorem dX8_stamp_15 : decode cX8_stamp 15 = .ok (.bipush 21, 2) := by decide +kernel
theorem dX8_stamp_17 : decode cX8_stamp 17 = .ok (.iaload, 1) := by decide +kernel
theorem dX8_stamp_18 : decode cX8_stamp 18 = .ok (.ireturn, 1) := by decide +kernel
def mR_stamp (N : Nat) (σ : ST) : Option (Int32 × ST) :=
  zGet (σ 1) 1974 (21) fun v7 =>
  zLet ((v7 : Int32) + (1)) fun v9 =>
  zSet σ 1 1974 (21) v9 fun s10 =>
  zGet (s10 1) 1974 (21) fun v17 =>
  some (v17, s10)
set_option maxRecDepth 20000 in
set_option maxHeartbeats 2000000 in
theorem cR_stamp {adr : Nat → Nat} {cI cZ : ClassId} {l : Launch} {D : va_G} {N : Nat} {σ : ST} (q : Int32 × ST) (hf : mR_stamp N σ = some q) : zM l D (wdR adr cI cZ) yX8_stamp cX8_stamp 1 (some .int) ({ frames := 0, cells := 0, slots := 0, locals := 0 }) [.ref (adr 0)] σ (zi q) := by
  refine zM_of sfR_ok rfl (Nat.le_of_ble_eq_true rfl) [(0, .ref (adr 0))] rfl (fun X hX1 hX2 B => ?_)
  have B : zC X 1 (wdR adr cI cZ) cX8_stamp RX8 (some .int) { frames := 0, cells := 0, slots := 0, locals := 0 } := B
  refine z_aload_n B dX8_stamp_0 0 rfl rfl ?_
  refine fR_g_row B dX8_stamp_1 ?_
  refine z_bipush B (21) dX8_stamp_4 zc_bipush_21 ?_
  refine z_dup2 B dX8_stamp_6 rfl rfl ?_
  refine fR_l_row B dX8_stamp_7 hf (fun v7 hf => ?_)
  refine z_iconst B (1) dX8_stamp_8 zc_iconst_1 ?_
  refine z_iadd B dX8_stamp_9 hf (fun v9 hf => ?_)
  refine fR_s_row B dX8_stamp_10 hf (fun s10 hf => ?_)
  refine z_aload_n B dX8_stamp_11 0 rfl rfl ?_
  refine fR_g_row B dX8_stamp_12 ?_
  refine z_bipush B (21) dX8_stamp_15 zc_bipush_21 ?_
  refine fR_l_row B dX8_stamp_17 hf (fun v17 hf => ?_)
  exact z_ireturn B dX8_stamp_18 hf
theorem dX8_many_0 : decode cX8_many 0 = .ok (.iconst 0, 1) := by decide +kernel
theorem dX8_many_1 : decode cX8_many 1 = .ok (.istore_n 1, 1) := by decide +kernel
theorem dX8_many_2 : decode cX8_many 2 = .ok (.iconst 0, 1) := by decide +kernel
theorem dX8_many_3 : decode cX8_many 3 = .ok (.istore_n 2, 1) := by decide +kernel
theorem dX8_many_4 : decode cX8_many 4 = .ok (.iload_n 2, 1) := by decide +kernel
theorem dX8_many_5 : decode cX8_many 5 = .ok (.aload_n 0, 1) := by decide +kernel
theorem dX8_many_6 : decode cX8_many 6 = .ok (.getfield 9, 3) := by decide +kernel
theorem dX8_many_9 : decode cX8_many 9 = .ok (.iconst 0, 1) := by decide +kernel
theorem dX8_many_10 : decode cX8_many 10 = .ok (.iaload, 1) := by decide +kernel
theorem dX8_many_11 : decode cX8_many 11 = .ok (.if_icmp .ge 29, 3) := by decide +kernel
theorem dX8_many_14 : decode cX8_many 14 = .ok (.iload_n 1, 1) := by decide +kernel
theorem dX8_many_15 : decode cX8_many 15 = .ok (.aload_n 0, 1) := by decide +kernel
theorem dX8_many_16 : decode cX8_many 16 = .ok (.getfield 9, 3) := by decide +kernel
theorem dX8_many_19 : decode cX8_many 19 = .ok (.iload_n 2, 1) := by decide +kernel
theorem dX8_many_20 : decode cX8_many 20 = .ok (.invokestatic 85, 3) := by decide +kernel
theorem dX8_many_23 : decode cX8_many 23 = .ok (.iaload, 1) := by decide +kernel
theorem dX8_many_24 : decode cX8_many 24 = .ok (.ifCond .le 7, 3) := by decide +kernel
theorem dX8_many_27 : decode cX8_many 27 = .ok (.iconst 1, 1) := by decide +kernel
theorem dX8_many_28 : decode cX8_many 28 = .ok (.goto 4, 3) := by decide +kernel
theorem dX8_many_31 : decode cX8_many 31 = .ok (.iconst 0, 1) := by decide +kernel
theorem dX8_many_32 : decode cX8_many 32 = .ok (.iadd, 1) := by decide +kernel
theorem dX8_many_33 : decode cX8_many 33 = .ok (.istore_n 1, 1) := by decide +kernel
theorem dX8_many_34 : decode cX8_many 34 = .ok (.iinc 2 1, 3) := by decide +kernel
theorem dX8_many_37 : decode cX8_many 37 = .ok (.goto (-33), 3) := by decide +kernel
theorem dX8_many_40 : decode cX8_many 40 = .ok (.iload_n 1, 1) := by decide +kernel
theorem dX8_many_41 : decode cX8_many 41 = .ok (.ireturn, 1) := by decide +kernel
def mR_many_32 (N : Nat) (hd4 : ST → Int32 → Int32 → Option (Int32 × ST)) (σ : ST) (x1 : Int32) (x2 : Int32) (k0 : Int32) (k1 : Int32) : Option (Int32 × ST) :=
  zLet ((k0 : Int32) + k1) fun v32 =>
  zLet (x2 + (1)) fun v34 =>
  hd4 σ v32 v34
set_option maxRecDepth 20000 in
set_option maxHeartbeats 2000000 in
theorem tR_many_32 {adr : Nat → Nat} {cI cZ : ClassId} {X : zX} {q : Int32 × ST} (B : zC X 3 (wdR adr cI cZ) cX8_many RX8 (some .int) { frames := 1, cells := 0, slots := 0, locals := 20 }) (N : Nat) (hd4 : ST → Int32 → Int32 → Option (Int32 × ST)) (hh4 : ∀ (σ : ST) (x1 : Int32) (x2 : Int32), hd4 σ x1 x2 = some q → zJ X 3 (wdR adr cI cZ) (zi q) 4 [(0, .ref (adr 0)), (1, .int x1), (2, .int x2)] [] σ) (σ : ST) (x1 : Int32) (x2 : Int32) (k0 : Int32) (k1 : Int32) (hf : mR_many_32 N hd4 σ x1 x2 k0 k1 = some q) : zJ X 3 (wdR adr cI cZ) (zi q) 32 [(0, .ref (adr 0)), (1, .int x1), (2, .int x2)] [.int k1, .int k0] σ := by
  refine z_iadd B dX8_many_32 hf (fun v32 hf => ?_)
  refine z_istore_n B [(1, .int v32), (0, .ref (adr 0)), (2, .int x2)] dX8_many_33 rfl (Nat.le_of_ble_eq_true rfl) rfl ?_
  refine z_iinc B (1) 2 (fun v34 => [(2, .int v34), (1, .int v32), (0, .ref (adr 0))]) dX8_many_34 hf zc_iconst_1 rfl (Nat.le_of_ble_eq_true rfl) (fun _ => rfl) (fun v34 hf => ?_)
  refine z_goto B 4 dX8_many_37 (by decide) ?_
  exact z_loc [2, 1, 0] _ rfl (hh4 σ v32 v34 hf)
def mR_many_B4 (N : Nat) (hd4 : ST → Int32 → Int32 → Option (Int32 × ST)) (σ : ST) (x1 : Int32) (x2 : Int32) : Option (Int32 × ST) :=
  zGet (σ 1) 1974 (0) fun v10 =>
  if (v10 : Int32) ≤ x2 then
    some (x1, σ)
  else
    zCall (mR_cacheAt N σ x2) fun v20 s20 =>
    zGet (s20 1) 1974 v20 fun v23 =>
    if (v23 : Int32) ≤ 0 then
      mR_many_32 N hd4 s20 x1 x2 x1 (0)
    else
      mR_many_32 N hd4 s20 x1 x2 x1 (1)
def mR_many_4 (N : Nat) : ST → Int32 → Int32 → Option (Int32 × ST) := zIt (mR_many_B4 N) (fun _ _ _ => none) N
set_option maxRecDepth 20000 in
set_option maxHeartbeats 2000000 in
theorem tR_many_4 {adr : Nat → Nat} {cI cZ : ClassId} {X : zX} {q : Int32 × ST} (B : zC X 3 (wdR adr cI cZ) cX8_many RX8 (some .int) { frames := 1, cells := 0, slots := 0, locals := 20 }) (N : Nat) : ∀ (σ : ST) (x1 : Int32) (x2 : Int32), mR_many_4 N σ x1 x2 = some q → zJ X 3 (wdR adr cI cZ) (zi q) 4 [(0, .ref (adr 0)), (1, .int x1), (2, .int x2)] [] σ := by
  refine zIt_ind (P := fun (hd : ST → Int32 → Int32 → Option (Int32 × ST)) => ∀ (σ : ST) (x1 : Int32) (x2 : Int32), hd σ x1 x2 = some q → zJ X 3 (wdR adr cI cZ) (zi q) 4 [(0, .ref (adr 0)), (1, .int x1), (2, .int x2)] [] σ) (fun _ _ _ hf => by cases hf) (fun hd4 hh4 => ?_) N
  intro σ x1 x2 hf
  refine z_iload_n B dX8_many_4 2 rfl rfl ?_
  refine z_aload_n B dX8_many_5 0 rfl rfl ?_
  refine fR_g_row B dX8_many_6 ?_
  refine z_iconst B (0) dX8_many_9 zc_iconst_0 ?_
  refine fR_l_row B dX8_many_10 hf (fun v10 hf => ?_)
  refine z_icmp_ge B 40 dX8_many_11 (by decide) hf (fun hf => ?_) (fun hf => ?_)
  · refine z_iload_n B dX8_many_40 1 rfl rfl ?_
    exact z_ireturn B dX8_many_41 hf
  · refine z_iload_n B dX8_many_14 1 rfl rfl ?_
    refine z_aload_n B dX8_many_15 0 rfl rfl ?_
    refine fR_g_row B dX8_many_16 ?_
    refine z_iload_n B dX8_many_19 2 rfl rfl ?_
    refine z_callSi B (As := [.int x2]) kcS_X8_85 dX8_many_20 hf (fun q hq => cR_cacheAt q hq) rfl rfl (Nat.le_of_ble_eq_true rfl) rfl rfl ⟨Nat.le_of_ble_eq_true rfl, Nat.le_of_ble_eq_true rfl⟩ (fun v20 s20 hf => ?_)
    refine fR_l_row B dX8_many_23 hf (fun v23 hf => ?_)
    refine z_if_le B 31 dX8_many_24 (by decide) hf (fun hf => ?_) (fun hf => ?_)
    · refine z_iconst B (0) dX8_many_31 zc_iconst_0 ?_
      exact tR_many_32 B N hd4 hh4 s20 x1 x2 x1 (0) hf
    · refine z_iconst B (1) dX8_many_27 zc_iconst_1 ?_
      refine z_goto B 32 dX8_many_28 (by decide) ?_
      exact tR_many_32 B N hd4 hh4 s20 x1 x2 x1 (1) hf
def mR_many (N : Nat) (σ : ST) : Option (Int32 × ST) :=
  mR_many_4 N σ (0) (0)
set_option maxRecDepth 20000 in
set_option maxHeartbeats 2000000 in
theorem cR_many {adr : Nat → Nat} {cI cZ : ClassId} {l : Launch} {D : va_G} {N : Nat} {σ : ST} (q : Int32 × ST) (hf : mR_many N σ = some q) : zM l D (wdR adr cI cZ) yX8_many cX8_many 3 (some .int) ({ frames := 1, cells := 0, slots := 0, locals := 20 }) [.ref (adr 0)] σ (zi q) := by
  refine zM_of sfR_ok rfl (Nat.le_of_ble_eq_true rfl) [(0, .ref (adr 0))] rfl (fun X hX1 hX2 B => ?_)
  have B : zC X 3 (wdR adr cI cZ) cX8_many RX8 (some .int) { frames := 1, cells := 0, slots := 0, locals := 20 } := B
  refine z_iconst B (0) dX8_many_0 zc_iconst_0 ?_
  refine z_istore_n B [(1, .int (0)), (0, .ref (adr 0))] dX8_many_1 rfl (Nat.le_of_ble_eq_true rfl) rfl ?_
  refine z_iconst B (0) dX8_many_2 zc_iconst_0 ?_
  refine z_istore_n B [(2, .int (0)), (1, .int (0)), (0, .ref (adr 0))] dX8_many_3 rfl (Nat.le_of_ble_eq_true rfl) rfl ?_
  exact z_loc [2, 1, 0] _ rfl (tR_many_4 B N σ (0) (0) hf)
theorem dX8_mayGo_0 : decode cX8_mayGo 0 = .ok (.aload_n 0, 1) := by decide +kernel
theorem dX8_mayGo_1 : decode cX8_mayGo 1 = .ok (.getfield 9, 3) := by decide +kernel
theorem dX8_mayGo_4 : decode cX8_mayGo 4 = .ok (.iload_n 1, 1) := by decide +kernel
theorem dX8_mayGo_5 : decode cX8_mayGo 5 = .ok (.iaload, 1) := by decide +kernel
theorem dX8_mayGo_6 : decode cX8_mayGo 6 = .ok (.ifCond .le 35, 3) := by decide +kernel
theorem dX8_mayGo_9 : decode cX8_mayGo 9 = .ok (.aload_n 0, 1) := by decide +kernel
theorem dX8_mayGo_10 : decode cX8_mayGo 10 = .ok (.getfield 9, 3) := by decide +kernel
theorem dX8_mayGo_13 : decode cX8_mayGo 13 = .ok (.iload_n 1, 1) := by decide +kernel
theorem dX8_mayGo_14 : decode cX8_mayGo 14 = .ok (.iaload, 1) := by decide +kernel
theorem dX8_mayGo_15 : decode cX8_mayGo 15 = .ok (.iload_n 2, 1) := by decide +kernel
theorem dX8_mayGo_16 : decode cX8_mayGo 16 = .ok (.iconst 1, 1) := by decide +kernel
theorem dX8_mayGo_17 : decode cX8_mayGo 17 = .ok (.iadd, 1) := by decide +kernel
theorem dX8_mayGo_18 : decode cX8_mayGo 18 = .ok (.if_icmp .eq 23, 3) := by decide +kernel
theorem dX8_mayGo_21 : decode cX8_mayGo 21 = .ok (.iload_n 3, 1) := by decide +kernel
theorem dX8_mayGo_22 : decode cX8_mayGo 22 = .ok (.ifCond .eq 15, 3) := by decide +kernel
theorem dX8_mayGo_25 : decode cX8_mayGo 25 = .ok (.aload_n 0, 1) := by decide +kernel
theorem dX8_mayGo_26 : decode cX8_mayGo 26 = .ok (.getfield 9, 3) := by decide +kernel
theorem dX8_mayGo_29 : decode cX8_mayGo 29 = .ok (.iload_n 1, 1) := by decide +kernel
theorem dX8_mayGo_30 : decode cX8_mayGo 30 = .ok (.iconst 3, 1) := by decide +kernel
theorem dX8_mayGo_31 : decode cX8_mayGo 31 = .ok (.iadd, 1) := by decide +kernel
theorem dX8_mayGo_32 : decode cX8_mayGo 32 = .ok (.iaload, 1) := by decide +kernel
theorem dX8_mayGo_33 : decode cX8_mayGo 33 = .ok (.iconst 1, 1) := by decide +kernel
theorem dX8_mayGo_34 : decode cX8_mayGo 34 = .ok (.if_icmp .ne 7, 3) := by decide +kernel
theorem dX8_mayGo_37 : decode cX8_mayGo 37 = .ok (.iconst 1, 1) := by decide +kernel
theorem dX8_mayGo_38 : decode cX8_mayGo 38 = .ok (.goto 4, 3) := by decide +kernel
theorem dX8_mayGo_41 : decode cX8_mayGo 41 = .ok (.iconst 0, 1) := by decide +kernel
theorem dX8_mayGo_42 : decode cX8_mayGo 42 = .ok (.ireturn, 1) := by decide +kernel
def mR_mayGo_42 (N : Nat) (σ : ST) (x1 : Int32) (x2 : Int32) (x3 : Int32) (k0 : Int32) : Option (Int32 × ST) :=
  zBool k0 (some (k0, σ))
set_option maxRecDepth 20000 in
set_option maxHeartbeats 2000000 in
theorem tR_mayGo_42 {adr : Nat → Nat} {cI cZ : ClassId} {X : zX} {q : Int32 × ST} (B : zC X 4 (wdR adr cI cZ) cX8_mayGo RX8 (some .boolean) { frames := 0, cells := 0, slots := 0, locals := 0 }) (N : Nat) (σ : ST) (x1 : Int32) (x2 : Int32) (x3 : Int32) (k0 : Int32) (hf : mR_mayGo_42 N σ x1 x2 x3 k0 = some q) : zJ X 4 (wdR adr cI cZ) (zi q) 42 [(0, .ref (adr 0)), (1, .int x1), (2, .int x2), (3, .int x3)] [.int k0] σ := by
  exact z_zreturn B dX8_mayGo_42 hf
def mR_mayGo_41 (N : Nat) (σ : ST) (x1 : Int32) (x2 : Int32) (x3 : Int32) : Option (Int32 × ST) :=
  mR_mayGo_42 N σ x1 x2 x3 (0)
set_option maxRecDepth 20000 in
set_option maxHeartbeats 2000000 in
theorem tR_mayGo_41 {adr : Nat → Nat} {cI cZ : ClassId} {X : zX} {q : Int32 × ST} (B : zC X 4 (wdR adr cI cZ) cX8_mayGo RX8 (some .boolean) { frames := 0, cells := 0, slots := 0, locals := 0 }) (N : Nat) (σ : ST) (x1 : Int32) (x2 : Int32) (x3 : Int32) (hf : mR_mayGo_41 N σ x1 x2 x3 = some q) : zJ X 4 (wdR adr cI cZ) (zi q) 41 [(0, .ref (adr 0)), (1, .int x1), (2, .int x2), (3, .int x3)] [] σ := by
  refine z_iconst B (0) dX8_mayGo_41 zc_iconst_0 ?_
  exact tR_mayGo_42 B N σ x1 x2 x3 (0) hf
def mR_mayGo_37 (N : Nat) (σ : ST) (x1 : Int32) (x2 : Int32) (x3 : Int32) : Option (Int32 × ST) :=
  mR_mayGo_42 N σ x1 x2 x3 (1)
set_option maxRecDepth 20000 in
set_option maxHeartbeats 2000000 in
theorem tR_mayGo_37 {adr : Nat → Nat} {cI cZ : ClassId} {X : zX} {q : Int32 × ST} (B : zC X 4 (wdR adr cI cZ) cX8_mayGo RX8 (some .boolean) { frames := 0, cells := 0, slots := 0, locals := 0 }) (N : Nat) (σ : ST) (x1 : Int32) (x2 : Int32) (x3 : Int32) (hf : mR_mayGo_37 N σ x1 x2 x3 = some q) : zJ X 4 (wdR adr cI cZ) (zi q) 37 [(0, .ref (adr 0)), (1, .int x1), (2, .int x2), (3, .int x3)] [] σ := by
  refine z_iconst B (1) dX8_mayGo_37 zc_iconst_1 ?_
  refine z_goto B 42 dX8_mayGo_38 (by decide) ?_
  exact tR_mayGo_42 B N σ x1 x2 x3 (1) hf
def mR_mayGo (N : Nat) (σ : ST) (x1 : Int32) (x2 : Int32) (x3 : Int32) : Option (Int32 × ST) :=
  zGet (σ 1) 1974 x1 fun v5 =>
  if (v5 : Int32) ≤ 0 then
    mR_mayGo_41 N σ x1 x2 x3
  else
    zGet (σ 1) 1974 x1 fun v14 =>
    zLet ((x2 : Int32) + (1)) fun v17 =>
    if (v14 : Int32) = v17 then
      mR_mayGo_41 N σ x1 x2 x3
    else
      if (x3 : Int32) = 0 then
        mR_mayGo_37 N σ x1 x2 x3
      else
        zLet ((x1 : Int32) + (3)) fun v31 =>
        zGet (σ 1) 1974 v31 fun v32 =>
        if (v32 : Int32) = (1) then
          mR_mayGo_37 N σ x1 x2 x3
        else
          mR_mayGo_41 N σ x1 x2 x3
set_option maxRecDepth 20000 in
set_option maxHeartbeats 2000000 in
theorem cR_mayGo {adr : Nat → Nat} {cI cZ : ClassId} {l : Launch} {D : va_G} {N : Nat} {σ : ST} {x1 : Int32} {x2 : Int32} {x3 : Int32} (q : Int32 × ST) (hf : mR_mayGo N σ x1 x2 x3 = some q) : zM l D (wdR adr cI cZ) yX8_mayGo cX8_mayGo 4 (some .boolean) ({ frames := 0, cells := 0, slots := 0, locals := 0 }) [.ref (adr 0), .int x1, .int x2, .int x3] σ (zi q) := by
  refine zM_of sfR_ok rfl (Nat.le_of_ble_eq_true rfl) [(0, .ref (adr 0)), (1, .int x1), (2, .int x2), (3, .int x3)] rfl (fun X hX1 hX2 B => ?_)
  have B : zC X 4 (wdR adr cI cZ) cX8_mayGo RX8 (some .boolean) { frames := 0, cells := 0, slots := 0, locals := 0 } := B
  refine z_aload_n B dX8_mayGo_0 0 rfl rfl ?_
  refine fR_g_row B dX8_mayGo_1 ?_
  refine z_iload_n B dX8_mayGo_4 1 rfl rfl ?_
  refine fR_l_row B dX8_mayGo_5 hf (fun v5 hf => ?_)
  refine z_if_le B 41 dX8_mayGo_6 (by decide) hf (fun hf => ?_) (fun hf => ?_)
  · exact tR_mayGo_41 B N σ x1 x2 x3 hf
  · refine z_aload_n B dX8_mayGo_9 0 rfl rfl ?_
    refine fR_g_row B dX8_mayGo_10 ?_
    refine z_iload_n B dX8_mayGo_13 1 rfl rfl ?_
    refine fR_l_row B dX8_mayGo_14 hf (fun v14 hf => ?_)
    refine z_iload_n B dX8_mayGo_15 2 rfl rfl ?_
    refine z_iconst B (1) dX8_mayGo_16 zc_iconst_1 ?_
    refine z_iadd B dX8_mayGo_17 hf (fun v17 hf => ?_)
    refine z_icmp_eq B 41 dX8_mayGo_18 (by decide) hf (fun hf => ?_) (fun hf => ?_)
    · exact tR_mayGo_41 B N σ x1 x2 x3 hf
    · refine z_iload_n B dX8_mayGo_21 3 rfl rfl ?_
      refine z_if_eq B 37 dX8_mayGo_22 (by decide) hf (fun hf => ?_) (fun hf => ?_)
      · exact tR_mayGo_37 B N σ x1 x2 x3 hf
      · refine z_aload_n B dX8_mayGo_25 0 rfl rfl ?_
        refine fR_g_row B dX8_mayGo_26 ?_
        refine z_iload_n B dX8_mayGo_29 1 rfl rfl ?_
        refine z_iconst B (3) dX8_mayGo_30 zc_iconst_3 ?_
        refine z_iadd B dX8_mayGo_31 hf (fun v31 hf => ?_)
        refine fR_l_row B dX8_mayGo_32 hf (fun v32 hf => ?_)
        refine z_iconst B (1) dX8_mayGo_33 zc_iconst_1 ?_
        refine z_icmp_ne B 41 dX8_mayGo_34 (by decide) hf (fun hf => ?_) (fun hf => ?_)
        · exact tR_mayGo_41 B N σ x1 x2 x3 hf
        · exact tR_mayGo_37 B N σ x1 x2 x3 hf
theorem dX8_manyAhead_0 : decode cX8_manyAhead 0 = .ok (.iconst 0, 1) := by decide +kernel
theorem dX8_manyAhead_1 : decode cX8_manyAhead 1 = .ok (.istore_n 1, 1) := by decide +kernel
theorem dX8_manyAhead_2 : decode cX8_manyAhead 2 = .ok (.iconst 0, 1) := by decide +kernel
theorem dX8_manyAhead_3 : decode cX8_manyAhead 3 = .ok (.istore_n 2, 1) := by decide +kernel
theorem dX8_manyAhead_4 : decode cX8_manyAhead 4 = .ok (.iload_n 2, 1) := by decide +kernel
theorem dX8_manyAhead_5 : decode cX8_manyAhead 5 = .ok (.aload_n 0, 1) := by decide +kernel
theorem dX8_manyAhead_6 : decode cX8_manyAhead 6 = .ok (.getfield 9, 3) := by decide +kernel
theorem dX8_manyAhead_9 : decode cX8_manyAhead 9 = .ok (.iconst 0, 1) := by decide +kernel
theorem dX8_manyAhead_10 : decode cX8_manyAhead 10 = .ok (.iaload, 1) := by decide +kernel
theorem dX8_manyAhead_11 : decode cX8_manyAhead 11 = .ok (.if_icmp .ge 39, 3) := by decide +kernel
theorem dX8_manyAhead_14 : decode cX8_manyAhead 14 = .ok (.iload_n 1, 1) := by decide +kernel
theorem dX8_manyAhead_15 : decode cX8_manyAhead 15 = .ok (.aload_n 0, 1) := by decide +kernel
theorem dX8_manyAhead_16 : decode cX8_manyAhead 16 = .ok (.getfield 9, 3) := by decide +kernel
theorem dX8_manyAhead_19 : decode cX8_manyAhead 19 = .ok (.iload_n 2, 1) := by decide +kernel
theorem dX8_manyAhead_20 : decode cX8_manyAhead 20 = .ok (.invokestatic 85, 3) := by decide +kernel
theorem dX8_manyAhead_23 : decode cX8_manyAhead 23 = .ok (.iaload, 1) := by decide +kernel
theorem dX8_manyAhead_24 : decode cX8_manyAhead 24 = .ok (.ifCond .le 17, 3) := by decide +kernel
theorem dX8_manyAhead_27 : decode cX8_manyAhead 27 = .ok (.aload_n 0, 1) := by decide +kernel
theorem dX8_manyAhead_28 : decode cX8_manyAhead 28 = .ok (.getfield 9, 3) := by decide +kernel
theorem dX8_manyAhead_31 : decode cX8_manyAhead 31 = .ok (.iload_n 2, 1) := by decide +kernel
theorem dX8_manyAhead_32 : decode cX8_manyAhead 32 = .ok (.invokestatic 85, 3) := by decide +kernel
theorem dX8_manyAhead_35 : decode cX8_manyAhead 35 = .ok (.iconst 3, 1) := by decide +kernel
theorem dX8_manyAhead_36 : decode cX8_manyAhead 36 = .ok (.iadd, 1) := by decide +kernel
theorem dX8_manyAhead_37 : decode cX8_manyAhead 37 = .ok (.iaload, 1) := by decide +kernel
theorem dX8_manyAhead_38 : decode cX8_manyAhead 38 = .ok (.goto 4, 3) := by decide +kernel
theorem dX8_manyAhead_41 : decode cX8_manyAhead 41 = .ok (.iconst 0, 1) := by decide +kernel
theorem dX8_manyAhead_42 : decode cX8_manyAhead 42 = .ok (.iadd, 1) := by decide +kernel
theorem dX8_manyAhead_43 : decode cX8_manyAhead 43 = .ok (.istore_n 1, 1) := by decide +kernel
theorem dX8_manyAhead_44 : decode cX8_manyAhead 44 = .ok (.iinc 2 1, 3) := by decide +kernel
theorem dX8_manyAhead_47 : decode cX8_manyAhead 47 = .ok (.goto (-43), 3) := by decide +kernel
theorem dX8_manyAhead_50 : decode cX8_manyAhead 50 = .ok (.iload_n 1, 1) := by decide +kernel
theorem dX8_manyAhead_51 : decode cX8_manyAhead 51 = .ok (.ireturn, 1) := by decide +kernel
def mR_manyAhead_42 (N : Nat) (hd4 : ST → Int32 → Int32 → Option (Int32 × ST)) (σ : ST) (x1 : Int32) (x2 : Int32) (k0 : Int32) (k1 : Int32) : Option (Int32 × ST) :=
  zLet ((k0 : Int32) + k1) fun v42 =>
  zLet (x2 + (1)) fun v44 =>
  hd4 σ v42 v44
set_option maxRecDepth 20000 in
set_option maxHeartbeats 2000000 in
theorem tR_manyAhead_42 {adr : Nat → Nat} {cI cZ : ClassId} {X : zX} {q : Int32 × ST} (B : zC X 3 (wdR adr cI cZ) cX8_manyAhead RX8 (some .int) { frames := 1, cells := 0, slots := 0, locals := 20 }) (N : Nat) (hd4 : ST → Int32 → Int32 → Option (Int32 × ST)) (hh4 : ∀ (σ : ST) (x1 : Int32) (x2 : Int32), hd4 σ x1 x2 = some q → zJ X 3 (wdR adr cI cZ) (zi q) 4 [(0, .ref (adr 0)), (1, .int x1), (2, .int x2)] [] σ) (σ : ST) (x1 : Int32) (x2 : Int32) (k0 : Int32) (k1 : Int32) (hf : mR_manyAhead_42 N hd4 σ x1 x2 k0 k1 = some q) : zJ X 3 (wdR adr cI cZ) (zi q) 42 [(0, .ref (adr 0)), (1, .int x1), (2, .int x2)] [.int k1, .int k0] σ := by
  refine z_iadd B dX8_manyAhead_42 hf (fun v42 hf => ?_)
  refine z_istore_n B [(1, .int v42), (0, .ref (adr 0)), (2, .int x2)] dX8_manyAhead_43 rfl (Nat.le_of_ble_eq_true rfl) rfl ?_
  refine z_iinc B (1) 2 (fun v44 => [(2, .int v44), (1, .int v42), (0, .ref (adr 0))]) dX8_manyAhead_44 hf zc_iconst_1 rfl (Nat.le_of_ble_eq_true rfl) (fun _ => rfl) (fun v44 hf => ?_)
  refine z_goto B 4 dX8_manyAhead_47 (by decide) ?_
  exact z_loc [2, 1, 0] _ rfl (hh4 σ v42 v44 hf)
def mR_manyAhead_B4 (N : Nat) (hd4 : ST → Int32 → Int32 → Option (Int32 × ST)) (σ : ST) (x1 : Int32) (x2 : Int32) : Option (Int32 × ST) :=
  zGet (σ 1) 1974 (0) fun v10 =>
  if (v10 : Int32) ≤ x2 then
    some (x1, σ)
  else
    zCall (mR_cacheAt N σ x2) fun v20 s20 =>
    zGet (s20 1) 1974 v20 fun v23 =>
    if (v23 : Int32) ≤ 0 then
      mR_manyAhead_42 N hd4 s20 x1 x2 x1 (0)
    else
      zCall (mR_cacheAt N s20 x2) fun v32 s32 =>
      zLet ((v32 : Int32) + (3)) fun v36 =>
      zGet (s32 1) 1974 v36 fun v37 =>
      mR_manyAhead_42 N hd4 s32 x1 x2 x1 v37
def mR_manyAhead_4 (N : Nat) : ST → Int32 → Int32 → Option (Int32 × ST) := zIt (mR_manyAhead_B4 N) (fun _ _ _ => none) N
set_option maxRecDepth 20000 in
set_option maxHeartbeats 2000000 in
theorem tR_manyAhead_4 {adr : Nat → Nat} {cI cZ : ClassId} {X : zX} {q : Int32 × ST} (B : zC X 3 (wdR adr cI cZ) cX8_manyAhead RX8 (some .int) { frames := 1, cells := 0, slots := 0, locals := 20 }) (N : Nat) : ∀ (σ : ST) (x1 : Int32) (x2 : Int32), mR_manyAhead_4 N σ x1 x2 = some q → zJ X 3 (wdR adr cI cZ) (zi q) 4 [(0, .ref (adr 0)), (1, .int x1), (2, .int x2)] [] σ := by
  refine zIt_ind (P := fun (hd : ST → Int32 → Int32 → Option (Int32 × ST)) => ∀ (σ : ST) (x1 : Int32) (x2 : Int32), hd σ x1 x2 = some q → zJ X 3 (wdR adr cI cZ) (zi q) 4 [(0, .ref (adr 0)), (1, .int x1), (2, .int x2)] [] σ) (fun _ _ _ hf => by cases hf) (fun hd4 hh4 => ?_) N
  intro σ x1 x2 hf
  refine z_iload_n B dX8_manyAhead_4 2 rfl rfl ?_
  refine z_aload_n B dX8_manyAhead_5 0 rfl rfl ?_
  refine fR_g_row B dX8_manyAhead_6 ?_
  refine z_iconst B (0) dX8_manyAhead_9 zc_iconst_0 ?_
  refine fR_l_row B dX8_manyAhead_10 hf (fun v10 hf => ?_)
  refine z_icmp_ge B 50 dX8_manyAhead_11 (by decide) hf (fun hf => ?_) (fun hf => ?_)
  · refine z_iload_n B dX8_manyAhead_50 1 rfl rfl ?_
    exact z_ireturn B dX8_manyAhead_51 hf
  · refine z_iload_n B dX8_manyAhead_14 1 rfl rfl ?_
    refine z_aload_n B dX8_manyAhead_15 0 rfl rfl ?_
    refine fR_g_row B dX8_manyAhead_16 ?_
    refine z_iload_n B dX8_manyAhead_19 2 rfl rfl ?_
    refine z_callSi B (As := [.int x2]) kcS_X8_85 dX8_manyAhead_20 hf (fun q hq => cR_cacheAt q hq) rfl rfl (Nat.le_of_ble_eq_true rfl) rfl rfl ⟨Nat.le_of_ble_eq_true rfl, Nat.le_of_ble_eq_true rfl⟩ (fun v20 s20 hf => ?_)
    refine fR_l_row B dX8_manyAhead_23 hf (fun v23 hf => ?_)
    refine z_if_le B 41 dX8_manyAhead_24 (by decide) hf (fun hf => ?_) (fun hf => ?_)
    · refine z_iconst B (0) dX8_manyAhead_41 zc_iconst_0 ?_
      exact tR_manyAhead_42 B N hd4 hh4 s20 x1 x2 x1 (0) hf
    · refine z_aload_n B dX8_manyAhead_27 0 rfl rfl ?_
      refine fR_g_row B dX8_manyAhead_28 ?_
      refine z_iload_n B dX8_manyAhead_31 2 rfl rfl ?_
      refine z_callSi B (As := [.int x2]) kcS_X8_85 dX8_manyAhead_32 hf (fun q hq => cR_cacheAt q hq) rfl rfl (Nat.le_of_ble_eq_true rfl) rfl rfl ⟨Nat.le_of_ble_eq_true rfl, Nat.le_of_ble_eq_true rfl⟩ (fun v32 s32 hf => ?_)
      refine z_iconst B (3) dX8_manyAhead_35 zc_iconst_3 ?_
      refine z_iadd B dX8_manyAhead_36 hf (fun v36 hf => ?_)
      refine fR_l_row B dX8_manyAhead_37 hf (fun v37 hf => ?_)
      refine z_goto B 42 dX8_manyAhead_38 (by decide) ?_
      exact tR_manyAhead_42 B N hd4 hh4 s32 x1 x2 x1 v37 hf
def mR_manyAhead (N : Nat) (σ : ST) : Option (Int32 × ST) :=
  mR_manyAhead_4 N σ (0) (0)
set_option maxRecDepth 20000 in
set_option maxHeartbeats 2000000 in
theorem cR_manyAhead {adr : Nat → Nat} {cI cZ : ClassId} {l : Launch} {D : va_G} {N : Nat} {σ : ST} (q : Int32 × ST) (hf : mR_manyAhead N σ = some q) : zM l D (wdR adr cI cZ) yX8_manyAhead cX8_manyAhead 3 (some .int) ({ frames := 1, cells := 0, slots := 0, locals := 20 }) [.ref (adr 0)] σ (zi q) := by
  refine zM_of sfR_ok rfl (Nat.le_of_ble_eq_true rfl) [(0, .ref (adr 0))] rfl (fun X hX1 hX2 B => ?_)
  have B : zC X 3 (wdR adr cI cZ) cX8_manyAhead RX8 (some .int) { frames := 1, cells := 0, slots := 0, locals := 20 } := B
  refine z_iconst B (0) dX8_manyAhead_0 zc_iconst_0 ?_
  refine z_istore_n B [(1, .int (0)), (0, .ref (adr 0))] dX8_manyAhead_1 rfl (Nat.le_of_ble_eq_true rfl) rfl ?_
  refine z_iconst B (0) dX8_manyAhead_2 zc_iconst_0 ?_
  refine z_istore_n B [(2, .int (0)), (1, .int (0)), (0, .ref (adr 0))] dX8_manyAhead_3 rfl (Nat.le_of_ble_eq_true rfl) rfl ?_
  exact z_loc [2, 1, 0] _ rfl (tR_manyAhead_4 B N σ (0) (0) hf)
theorem dX8_whoGoes_0 : decode cX8_whoGoes 0 = .ok (.aload_n 0, 1) := by decide +kernel
theorem dX8_whoGoes_1 : decode cX8_whoGoes 1 = .ok (.getfield 9, 3) := by decide +kernel
theorem dX8_whoGoes_4 : decode cX8_whoGoes 4 = .ok (.bipush 8, 2) := by decide +kernel
theorem dX8_whoGoes_6 : decode cX8_whoGoes 6 = .ok (.iaload, 1) := by decide +kernel
theorem dX8_whoGoes_7 : decode cX8_whoGoes 7 = .ok (.iconst 1, 1) := by decide +kernel
theorem dX8_whoGoes_8 : decode cX8_whoGoes 8 = .ok (.if_icmp .ne 22, 3) := by decide +kernel
theorem dX8_whoGoes_11 : decode cX8_whoGoes 11 = .ok (.aload_n 0, 1) := by decide +kernel
theorem dX8_whoGoes_12 : decode cX8_whoGoes 12 = .ok (.invokevirtual 102, 3) := by decide +kernel
theorem dX8_whoGoes_15 : decode cX8_whoGoes 15 = .ok (.aload_n 0, 1) := by decide +kernel
theorem dX8_whoGoes_16 : decode cX8_whoGoes 16 = .ok (.getfield 9, 3) := by decide +kernel
theorem dX8_whoGoes_19 : decode cX8_whoGoes 19 = .ok (.iconst 0, 1) := by decide +kernel
theorem dX8_whoGoes_20 : decode cX8_whoGoes 20 = .ok (.iaload, 1) := by decide +kernel
theorem dX8_whoGoes_21 : decode cX8_whoGoes 21 = .ok (.iconst 4, 1) := by decide +kernel
theorem dX8_whoGoes_22 : decode cX8_whoGoes 22 = .ok (.idiv, 1) := by decide +kernel
theorem dX8_whoGoes_23 : decode cX8_whoGoes 23 = .ok (.if_icmp .le 7, 3) := by decide +kernel
theorem dX8_whoGoes_26 : decode cX8_whoGoes 26 = .ok (.iconst 1, 1) := by decide +kernel
theorem dX8_whoGoes_27 : decode cX8_whoGoes 27 = .ok (.goto 4, 3) := by decide +kernel
theorem dX8_whoGoes_30 : decode cX8_whoGoes 30 = .ok (.iconst 0, 1) := by decide +kernel
theorem dX8_whoGoes_31 : decode cX8_whoGoes 31 = .ok (.istore_n 2, 1) := by decide +kernel
theorem dX8_whoGoes_32 : decode cX8_whoGoes 32 = .ok (.iconst (-1), 1) := by decide +kernel
theorem dX8_whoGoes_33 : decode cX8_whoGoes 33 = .ok (.istore_n 3, 1) := by decide +kernel
theorem dX8_whoGoes_34 : decode cX8_whoGoes 34 = .ok (.iconst 0, 1) := by decide +kernel
theorem dX8_whoGoes_35 : decode cX8_whoGoes 35 = .ok (.istore 4, 2) := by decide +kernel
theorem dX8_whoGoes_37 : decode cX8_whoGoes 37 = .ok (.iload 4, 2) := by decide +kernel
theorem dX8_whoGoes_39 : decode cX8_whoGoes 39 = .ok (.aload_n 0, 1) := by decide +kernel
theorem dX8_whoGoes_40 : decode cX8_whoGoes 40 = .ok (.getfield 9, 3) := by decide +kernel
theorem dX8_whoGoes_43 : decode cX8_whoGoes 43 = .ok (.iconst 0, 1) := by decide +kernel
theorem dX8_whoGoes_44 : decode cX8_whoGoes 44 = .ok (.iaload, 1) := by decide +kernel
theorem dX8_whoGoes_45 : decode cX8_whoGoes 45 = .ok (.if_icmp .ge 134, 3) := by decide +kernel
theorem dX8_whoGoes_48 : decode cX8_whoGoes 48 = .ok (.iload 4, 2) := by decide +kernel
theorem dX8_whoGoes_50 : decode cX8_whoGoes 50 = .ok (.invokestatic 85, 3) := by decide +kernel
theorem dX8_whoGoes_53 : decode cX8_whoGoes 53 = .ok (.istore 5, 2) := by decide +kernel
theorem dX8_whoGoes_55 : decode cX8_whoGoes 55 = .ok (.aload_n 0, 1) := by decide +kernel
theorem dX8_whoGoes_56 : decode cX8_whoGoes 56 = .ok (.iload 5, 2) := by decide +kernel
theorem dX8_whoGoes_58 : decode cX8_whoGoes 58 = .ok (.iload_n 1, 1) := by decide +kernel
theorem dX8_whoGoes_59 : decode cX8_whoGoes 59 = .ok (.iload_n 2, 1) := by decide +kernel
theorem dX8_whoGoes_60 : decode cX8_whoGoes 60 = .ok (.invokevirtual 106, 3) := by decide +kernel
theorem dX8_whoGoes_63 : decode cX8_whoGoes 63 = .ok (.ifCond .eq 110, 3) := by decide +kernel
theorem dX8_whoGoes_66 : decode cX8_whoGoes 66 = .ok (.iload_n 3, 1) := by decide +kernel
theorem dX8_whoGoes_67 : decode cX8_whoGoes 67 = .ok (.iconst (-1), 1) := by decide +kernel
theorem dX8_whoGoes_68 : decode cX8_whoGoes 68 = .ok (.if_icmp .eq 23, 3) := by decide +kernel
theorem dX8_whoGoes_71 : decode cX8_whoGoes 71 = .ok (.aload_n 0, 1) := by decide +kernel
theorem dX8_whoGoes_72 : decode cX8_whoGoes 72 = .ok (.getfield 9, 3) := by decide +kernel
theorem dX8_whoGoes_75 : decode cX8_whoGoes 75 = .ok (.iload 5, 2) := by decide +kernel
theorem dX8_whoGoes_77 : decode cX8_whoGoes 77 = .ok (.iconst 2, 1) := by decide +kernel
theorem dX8_whoGoes_78 : decode cX8_whoGoes 78 = .ok (.iadd, 1) := by decide +kernel
theorem dX8_whoGoes_79 : decode cX8_whoGoes 79 = .ok (.iaload, 1) := by decide +kernel
theorem dX8_whoGoes_80 : decode cX8_whoGoes 80 = .ok (.aload_n 0, 1) := by decide +kernel
theorem dX8_whoGoes_81 : decode cX8_whoGoes 81 = .ok (.getfield 9, 3) := by decide +kernel
theorem dX8_whoGoes_84 : decode cX8_whoGoes 84 = .ok (.iload_n 3, 1) := by decide +kernel
theorem dX8_whoGoes_85 : decode cX8_whoGoes 85 = .ok (.iconst 2, 1) := by decide +kernel
theorem dX8_whoGoes_86 : decode cX8_whoGoes 86 = .ok (.iadd, 1) := by decide +kernel
theorem dX8_whoGoes_87 : decode cX8_whoGoes 87 = .ok (.iaload, 1) := by decide +kernel
theorem dX8_whoGoes_88 : decode cX8_whoGoes 88 = .ok (.if_icmp .ge 7, 3) := by decide +kernel
theorem dX8_whoGoes_91 : decode cX8_whoGoes 91 = .ok (.iconst 1, 1) := by decide +kernel
theorem dX8_whoGoes_92 : decode cX8_whoGoes 92 = .ok (.goto 4, 3) := by decide +kernel
theorem dX8_whoGoes_95 : decode cX8_whoGoes 95 = .ok (.iconst 0, 1) := by decide +kernel
theorem dX8_whoGoes_96 : decode cX8_whoGoes 96 = .ok (.istore 6, 2) := by decide +kernel
theorem dX8_whoGoes_98 : decode cX8_whoGoes 98 = .ok (.iload_n 3, 1) := by decide +kernel
theorem dX8_whoGoes_99 : decode cX8_whoGoes 99 = .ok (.iconst (-1), 1) := by decide +kernel
theorem dX8_whoGoes_100 : decode cX8_whoGoes 100 = .ok (.if_icmp .eq 61, 3) := by decide +kernel
theorem dX8_whoGoes_103 : decode cX8_whoGoes 103 = .ok (.aload_n 0, 1) := by decide +kernel
theorem dX8_whoGoes_104 : decode cX8_whoGoes 104 = .ok (.getfield 9, 3) := by decide +kernel
theorem dX8_whoGoes_107 : decode cX8_whoGoes 107 = .ok (.bipush 8, 2) := by decide +kernel
theorem dX8_whoGoes_109 : decode cX8_whoGoes 109 = .ok (.iaload, 1) := by decide +kernel
theorem dX8_whoGoes_110 : decode cX8_whoGoes 110 = .ok (.iconst 2, 1) := by decide +kernel
theorem dX8_whoGoes_111 : decode cX8_whoGoes 111 = .ok (.if_icmp .ne 50, 3) := by decide +kernel
theorem dX8_whoGoes_114 : decode cX8_whoGoes 114 = .ok (.aload_n 0, 1) := by decide +kernel
theorem dX8_whoGoes_115 : decode cX8_whoGoes 115 = .ok (.getfield 9, 3) := by decide +kernel
theorem dX8_whoGoes_118 : decode cX8_whoGoes 118 = .ok (.iload 5, 2) := by decide +kernel
theorem dX8_whoGoes_120 : decode cX8_whoGoes 120 = .ok (.iconst 5, 1) := by decide +kernel
theorem dX8_whoGoes_121 : decode cX8_whoGoes 121 = .ok (.iadd, 1) := by decide +kernel
theorem dX8_whoGoes_122 : decode cX8_whoGoes 122 = .ok (.iaload, 1) := by decide +kernel
theorem dX8_whoGoes_123 : decode cX8_whoGoes 123 = .ok (.aload_n 0, 1) := by decide +kernel
theorem dX8_whoGoes_124 : decode cX8_whoGoes 124 = .ok (.getfield 9, 3) := by decide +kernel
theorem dX8_whoGoes_127 : decode cX8_whoGoes 127 = .ok (.iload_n 3, 1) := by decide +kernel
theorem dX8_whoGoes_128 : decode cX8_whoGoes 128 = .ok (.iconst 5, 1) := by decide +kernel
theorem dX8_whoGoes_129 : decode cX8_whoGoes 129 = .ok (.iadd, 1) := by decide +kernel
theorem dX8_whoGoes_130 : decode cX8_whoGoes 130 = .ok (.iaload, 1) := by decide +kernel
theorem dX8_whoGoes_131 : decode cX8_whoGoes 131 = .ok (.if_icmp .eq 30, 3) := by decide +kernel
theorem dX8_whoGoes_134 : decode cX8_whoGoes 134 = .ok (.aload_n 0, 1) := by decide +kernel
theorem dX8_whoGoes_135 : decode cX8_whoGoes 135 = .ok (.getfield 9, 3) := by decide +kernel
theorem dX8_whoGoes_138 : decode cX8_whoGoes 138 = .ok (.iload 5, 2) := by decide +kernel
theorem dX8_whoGoes_140 : decode cX8_whoGoes 140 = .ok (.iconst 5, 1) := by decide +kernel
theorem dX8_whoGoes_141 : decode cX8_whoGoes 141 = .ok (.iadd, 1) := by decide +kernel
theorem dX8_whoGoes_142 : decode cX8_whoGoes 142 = .ok (.iaload, 1) := by decide +kernel
theorem dX8_whoGoes_143 : decode cX8_whoGoes 143 = .ok (.aload_n 0, 1) := by decide +kernel
theorem dX8_whoGoes_144 : decode cX8_whoGoes 144 = .ok (.getfield 9, 3) := by decide +kernel
theorem dX8_whoGoes_147 : decode cX8_whoGoes 147 = .ok (.iload_n 3, 1) := by decide +kernel
theorem dX8_whoGoes_148 : decode cX8_whoGoes 148 = .ok (.iconst 5, 1) := by decide +kernel
theorem dX8_whoGoes_149 : decode cX8_whoGoes 149 = .ok (.iadd, 1) := by decide +kernel
theorem dX8_whoGoes_150 : decode cX8_whoGoes 150 = .ok (.iaload, 1) := by decide +kernel
theorem dX8_whoGoes_151 : decode cX8_whoGoes 151 = .ok (.if_icmp .ge 7, 3) := by decide +kernel
theorem dX8_whoGoes_154 : decode cX8_whoGoes 154 = .ok (.iconst 1, 1) := by decide +kernel
theorem dX8_whoGoes_155 : decode cX8_whoGoes 155 = .ok (.goto 4, 3) := by decide +kernel
theorem dX8_whoGoes_158 : decode cX8_whoGoes 158 = .ok (.iconst 0, 1) := by decide +kernel
theorem dX8_whoGoes_159 : decode cX8_whoGoes 159 = .ok (.istore 6, 2) := by decide +kernel
theorem dX8_whoGoes_161 : decode cX8_whoGoes 161 = .ok (.iload 6, 2) := by decide +kernel
theorem dX8_whoGoes_163 : decode cX8_whoGoes 163 = .ok (.ifCond .eq 8, 3) := by decide +kernel
theorem dX8_whoGoes_166 : decode cX8_whoGoes 166 = .ok (.iload 5, 2) := by decide +kernel
theorem dX8_whoGoes_168 : decode cX8_whoGoes 168 = .ok (.goto 4, 3) := by decide +kernel
theorem dX8_whoGoes_171 : decode cX8_whoGoes 171 = .ok (.iload_n 3, 1) := by decide +kernel
theorem dX8_whoGoes_172 : decode cX8_whoGoes 172 = .ok (.istore_n 3, 1) := by decide +kernel
theorem dX8_whoGoes_173 : decode cX8_whoGoes 173 = .ok (.iinc 4 1, 3) := by decide +kernel
theorem dX8_whoGoes_176 : decode cX8_whoGoes 176 = .ok (.goto (-139), 3) := by decide +kernel
theorem dX8_whoGoes_179 : decode cX8_whoGoes 179 = .ok (.iload_n 3, 1) := by decide +kernel
theorem dX8_whoGoes_180 : decode cX8_whoGoes 180 = .ok (.ireturn, 1) := by decide +kernel
def mR_whoGoes_173 (N : Nat) (hd37 : ST → Int32 → Int32 → Int32 → Int32 → Option (Int32 × ST)) (σ : ST) (x1 : Int32) (x2 : Int32) (x3 : Int32) (x4 : Int32) (x5 : Int32) : Option (Int32 × ST) :=
  zLet (x4 + (1)) fun v173 =>
  hd37 σ x1 x2 x3 v173
set_option maxRecDepth 20000 in
set_option maxHeartbeats 2000000 in
theorem tR_whoGoes_173 {adr : Nat → Nat} {cI cZ : ClassId} {X : zX} {q : Int32 × ST} (B : zC X 7 (wdR adr cI cZ) cX8_whoGoes RX8 (some .int) { frames := 2, cells := 0, slots := 0, locals := 42 }) (N : Nat) (hd37 : ST → Int32 → Int32 → Int32 → Int32 → Option (Int32 × ST)) (hh37 : ∀ (σ : ST) (x1 : Int32) (x2 : Int32) (x3 : Int32) (x4 : Int32), hd37 σ x1 x2 x3 x4 = some q → zJ X 7 (wdR adr cI cZ) (zi q) 37 [(0, .ref (adr 0)), (1, .int x1), (2, .int x2), (3, .int x3), (4, .int x4)] [] σ) (σ : ST) (x1 : Int32) (x2 : Int32) (x3 : Int32) (x4 : Int32) (x5 : Int32) (hf : mR_whoGoes_173 N hd37 σ x1 x2 x3 x4 x5 = some q) : zJ X 7 (wdR adr cI cZ) (zi q) 173 [(0, .ref (adr 0)), (1, .int x1), (2, .int x2), (3, .int x3), (4, .int x4), (5, .int x5)] [] σ := by
  refine z_iinc B (1) 4 (fun v173 => [(4, .int v173), (0, .ref (adr 0)), (1, .int x1), (2, .int x2), (3, .int x3), (5, .int x5)]) dX8_whoGoes_173 hf zc_iconst_1 rfl (Nat.le_of_ble_eq_true rfl) (fun _ => rfl) (fun v173 hf => ?_)
  refine z_goto B 37 dX8_whoGoes_176 (by decide) ?_
  exact z_loc [1, 2, 3, 4, 0] _ rfl (hh37 σ x1 x2 x3 v173 hf)
def mR_whoGoes_172 (N : Nat) (hd37 : ST → Int32 → Int32 → Int32 → Int32 → Option (Int32 × ST)) (σ : ST) (x1 : Int32) (x2 : Int32) (x3 : Int32) (x4 : Int32) (x5 : Int32) (x6 : Int32) (k0 : Int32) : Option (Int32 × ST) :=
  mR_whoGoes_173 N hd37 σ x1 x2 k0 x4 x5
set_option maxRecDepth 20000 in
set_option maxHeartbeats 2000000 in
theorem tR_whoGoes_172 {adr : Nat → Nat} {cI cZ : ClassId} {X : zX} {q : Int32 × ST} (B : zC X 7 (wdR adr cI cZ) cX8_whoGoes RX8 (some .int) { frames := 2, cells := 0, slots := 0, locals := 42 }) (N : Nat) (hd37 : ST → Int32 → Int32 → Int32 → Int32 → Option (Int32 × ST)) (hh37 : ∀ (σ : ST) (x1 : Int32) (x2 : Int32) (x3 : Int32) (x4 : Int32), hd37 σ x1 x2 x3 x4 = some q → zJ X 7 (wdR adr cI cZ) (zi q) 37 [(0, .ref (adr 0)), (1, .int x1), (2, .int x2), (3, .int x3), (4, .int x4)] [] σ) (σ : ST) (x1 : Int32) (x2 : Int32) (x3 : Int32) (x4 : Int32) (x5 : Int32) (x6 : Int32) (k0 : Int32) (hf : mR_whoGoes_172 N hd37 σ x1 x2 x3 x4 x5 x6 k0 = some q) : zJ X 7 (wdR adr cI cZ) (zi q) 172 [(0, .ref (adr 0)), (1, .int x1), (2, .int x2), (3, .int x3), (4, .int x4), (5, .int x5), (6, .int x6)] [.int k0] σ := by
  refine z_istore_n B [(3, .int k0), (0, .ref (adr 0)), (1, .int x1), (2, .int x2), (4, .int x4), (5, .int x5), (6, .int x6)] dX8_whoGoes_172 rfl (Nat.le_of_ble_eq_true rfl) rfl ?_
  exact z_loc [1, 2, 3, 0, 4, 5] _ rfl (tR_whoGoes_173 B N hd37 hh37 σ x1 x2 k0 x4 x5 hf)
def mR_whoGoes_161 (N : Nat) (hd37 : ST → Int32 → Int32 → Int32 → Int32 → Option (Int32 × ST)) (σ : ST) (x1 : Int32) (x2 : Int32) (x3 : Int32) (x4 : Int32) (x5 : Int32) (x6 : Int32) : Option (Int32 × ST) :=
  if (x6 : Int32) = 0 then
    mR_whoGoes_172 N hd37 σ x1 x2 x3 x4 x5 x6 x3
  else
    mR_whoGoes_172 N hd37 σ x1 x2 x3 x4 x5 x6 x5
set_option maxRecDepth 20000 in
set_option maxHeartbeats 2000000 in
theorem tR_whoGoes_161 {adr : Nat → Nat} {cI cZ : ClassId} {X : zX} {q : Int32 × ST} (B : zC X 7 (wdR adr cI cZ) cX8_whoGoes RX8 (some .int) { frames := 2, cells := 0, slots := 0, locals := 42 }) (N : Nat) (hd37 : ST → Int32 → Int32 → Int32 → Int32 → Option (Int32 × ST)) (hh37 : ∀ (σ : ST) (x1 : Int32) (x2 : Int32) (x3 : Int32) (x4 : Int32), hd37 σ x1 x2 x3 x4 = some q → zJ X 7 (wdR adr cI cZ) (zi q) 37 [(0, .ref (adr 0)), (1, .int x1), (2, .int x2), (3, .int x3), (4, .int x4)] [] σ) (σ : ST) (x1 : Int32) (x2 : Int32) (x3 : Int32) (x4 : Int32) (x5 : Int32) (x6 : Int32) (hf : mR_whoGoes_161 N hd37 σ x1 x2 x3 x4 x5 x6 = some q) : zJ X 7 (wdR adr cI cZ) (zi q) 161 [(0, .ref (adr 0)), (1, .int x1), (2, .int x2), (3, .int x3), (4, .int x4), (5, .int x5), (6, .int x6)] [] σ := by
  refine z_iload B dX8_whoGoes_161 6 rfl ?_
  refine z_if_eq B 171 dX8_whoGoes_163 (by decide) hf (fun hf => ?_) (fun hf => ?_)
  · refine z_iload_n B dX8_whoGoes_171 3 rfl rfl ?_
    exact tR_whoGoes_172 B N hd37 hh37 σ x1 x2 x3 x4 x5 x6 x3 hf
  · refine z_iload B dX8_whoGoes_166 5 rfl ?_
    refine z_goto B 172 dX8_whoGoes_168 (by decide) ?_
    exact tR_whoGoes_172 B N hd37 hh37 σ x1 x2 x3 x4 x5 x6 x5 hf
def mR_whoGoes_159 (N : Nat) (hd37 : ST → Int32 → Int32 → Int32 → Int32 → Option (Int32 × ST)) (σ : ST) (x1 : Int32) (x2 : Int32) (x3 : Int32) (x4 : Int32) (x5 : Int32) (x6 : Int32) (k0 : Int32) : Option (Int32 × ST) :=
  mR_whoGoes_161 N hd37 σ x1 x2 x3 x4 x5 k0
set_option maxRecDepth 20000 in
set_option maxHeartbeats 2000000 in
theorem tR_whoGoes_159 {adr : Nat → Nat} {cI cZ : ClassId} {X : zX} {q : Int32 × ST} (B : zC X 7 (wdR adr cI cZ) cX8_whoGoes RX8 (some .int) { frames := 2, cells := 0, slots := 0, locals := 42 }) (N : Nat) (hd37 : ST → Int32 → Int32 → Int32 → Int32 → Option (Int32 × ST)) (hh37 : ∀ (σ : ST) (x1 : Int32) (x2 : Int32) (x3 : Int32) (x4 : Int32), hd37 σ x1 x2 x3 x4 = some q → zJ X 7 (wdR adr cI cZ) (zi q) 37 [(0, .ref (adr 0)), (1, .int x1), (2, .int x2), (3, .int x3), (4, .int x4)] [] σ) (σ : ST) (x1 : Int32) (x2 : Int32) (x3 : Int32) (x4 : Int32) (x5 : Int32) (x6 : Int32) (k0 : Int32) (hf : mR_whoGoes_159 N hd37 σ x1 x2 x3 x4 x5 x6 k0 = some q) : zJ X 7 (wdR adr cI cZ) (zi q) 159 [(0, .ref (adr 0)), (1, .int x1), (2, .int x2), (3, .int x3), (4, .int x4), (5, .int x5), (6, .int x6)] [.int k0] σ := by
  refine z_istore B [(6, .int k0), (0, .ref (adr 0)), (1, .int x1), (2, .int x2), (3, .int x3), (4, .int x4), (5, .int x5)] dX8_whoGoes_159 (Nat.le_of_ble_eq_true rfl) rfl ?_
  exact z_loc [1, 2, 3, 4, 5, 6, 0] _ rfl (tR_whoGoes_161 B N hd37 hh37 σ x1 x2 x3 x4 x5 k0 hf)
def mR_whoGoes_96 (N : Nat) (hd37 : ST → Int32 → Int32 → Int32 → Int32 → Option (Int32 × ST)) (σ : ST) (x1 : Int32) (x2 : Int32) (x3 : Int32) (x4 : Int32) (x5 : Int32) (k0 : Int32) : Option (Int32 × ST) :=
  if (x3 : Int32) = (-1) then
    mR_whoGoes_161 N hd37 σ x1 x2 x3 x4 x5 k0
  else
    zGet (σ 1) 1974 (8) fun v109 =>
    if (v109 : Int32) = (2) then
      zLet ((x5 : Int32) + (5)) fun v121 =>
      zGet (σ 1) 1974 v121 fun v122 =>
      zLet ((x3 : Int32) + (5)) fun v129 =>
      zGet (σ 1) 1974 v129 fun v130 =>
      if (v122 : Int32) = v130 then
        mR_whoGoes_161 N hd37 σ x1 x2 x3 x4 x5 k0
      else
        zLet ((x5 : Int32) + (5)) fun v141 =>
        zGet (σ 1) 1974 v141 fun v142 =>
        zLet ((x3 : Int32) + (5)) fun v149 =>
        zGet (σ 1) 1974 v149 fun v150 =>
        if (v150 : Int32) ≤ v142 then
          mR_whoGoes_159 N hd37 σ x1 x2 x3 x4 x5 k0 (0)
        else
          mR_whoGoes_159 N hd37 σ x1 x2 x3 x4 x5 k0 (1)
    else
      mR_whoGoes_161 N hd37 σ x1 x2 x3 x4 x5 k0
set_option maxRecDepth 20000 in
set_option maxHeartbeats 2000000 in
theorem tR_whoGoes_96 {adr : Nat → Nat} {cI cZ : ClassId} {X : zX} {q : Int32 × ST} (B : zC X 7 (wdR adr cI cZ) cX8_whoGoes RX8 (some .int) { frames := 2, cells := 0, slots := 0, locals := 42 }) (N : Nat) (hd37 : ST → Int32 → Int32 → Int32 → Int32 → Option (Int32 × ST)) (hh37 : ∀ (σ : ST) (x1 : Int32) (x2 : Int32) (x3 : Int32) (x4 : Int32), hd37 σ x1 x2 x3 x4 = some q → zJ X 7 (wdR adr cI cZ) (zi q) 37 [(0, .ref (adr 0)), (1, .int x1), (2, .int x2), (3, .int x3), (4, .int x4)] [] σ) (σ : ST) (x1 : Int32) (x2 : Int32) (x3 : Int32) (x4 : Int32) (x5 : Int32) (k0 : Int32) (hf : mR_whoGoes_96 N hd37 σ x1 x2 x3 x4 x5 k0 = some q) : zJ X 7 (wdR adr cI cZ) (zi q) 96 [(0, .ref (adr 0)), (1, .int x1), (2, .int x2), (3, .int x3), (4, .int x4), (5, .int x5)] [.int k0] σ := by
  refine z_istore B [(6, .int k0), (0, .ref (adr 0)), (1, .int x1), (2, .int x2), (3, .int x3), (4, .int x4), (5, .int x5)] dX8_whoGoes_96 (Nat.le_of_ble_eq_true rfl) rfl ?_
  refine z_iload_n B dX8_whoGoes_98 4 rfl rfl ?_
  refine z_iconst B (-1) dX8_whoGoes_99 zc_iconst_m1 ?_
  refine z_icmp_eq B 161 dX8_whoGoes_100 (by decide) hf (fun hf => ?_) (fun hf => ?_)
  · exact z_loc [1, 2, 3, 4, 5, 6, 0] _ rfl (tR_whoGoes_161 B N hd37 hh37 σ x1 x2 x3 x4 x5 k0 hf)
  · refine z_aload_n B dX8_whoGoes_103 1 rfl rfl ?_
    refine fR_g_row B dX8_whoGoes_104 ?_
    refine z_bipush B (8) dX8_whoGoes_107 zc_bipush_8 ?_
    refine fR_l_row B dX8_whoGoes_109 hf (fun v109 hf => ?_)
    refine z_iconst B (2) dX8_whoGoes_110 zc_iconst_2 ?_
    refine z_icmp_ne B 161 dX8_whoGoes_111 (by decide) hf (fun hf => ?_) (fun hf => ?_)
    · exact z_loc [1, 2, 3, 4, 5, 6, 0] _ rfl (tR_whoGoes_161 B N hd37 hh37 σ x1 x2 x3 x4 x5 k0 hf)
    · refine z_aload_n B dX8_whoGoes_114 1 rfl rfl ?_
      refine fR_g_row B dX8_whoGoes_115 ?_
      refine z_iload B dX8_whoGoes_118 6 rfl ?_
      refine z_iconst B (5) dX8_whoGoes_120 zc_iconst_5 ?_
      refine z_iadd B dX8_whoGoes_121 hf (fun v121 hf => ?_)
      refine fR_l_row B dX8_whoGoes_122 hf (fun v122 hf => ?_)
      refine z_aload_n B dX8_whoGoes_123 1 rfl rfl ?_
      refine fR_g_row B dX8_whoGoes_124 ?_
      refine z_iload_n B dX8_whoGoes_127 4 rfl rfl ?_
      refine z_iconst B (5) dX8_whoGoes_128 zc_iconst_5 ?_
      refine z_iadd B dX8_whoGoes_129 hf (fun v129 hf => ?_)
      refine fR_l_row B dX8_whoGoes_130 hf (fun v130 hf => ?_)
      refine z_icmp_eq B 161 dX8_whoGoes_131 (by decide) hf (fun hf => ?_) (fun hf => ?_)
      · exact z_loc [1, 2, 3, 4, 5, 6, 0] _ rfl (tR_whoGoes_161 B N hd37 hh37 σ x1 x2 x3 x4 x5 k0 hf)
      · refine z_aload_n B dX8_whoGoes_134 1 rfl rfl ?_
        refine fR_g_row B dX8_whoGoes_135 ?_
        refine z_iload B dX8_whoGoes_138 6 rfl ?_
        refine z_iconst B (5) dX8_whoGoes_140 zc_iconst_5 ?_
        refine z_iadd B dX8_whoGoes_141 hf (fun v141 hf => ?_)
        refine fR_l_row B dX8_whoGoes_142 hf (fun v142 hf => ?_)
        refine z_aload_n B dX8_whoGoes_143 1 rfl rfl ?_
        refine fR_g_row B dX8_whoGoes_144 ?_
        refine z_iload_n B dX8_whoGoes_147 4 rfl rfl ?_
        refine z_iconst B (5) dX8_whoGoes_148 zc_iconst_5 ?_
        refine z_iadd B dX8_whoGoes_149 hf (fun v149 hf => ?_)
        refine fR_l_row B dX8_whoGoes_150 hf (fun v150 hf => ?_)
        refine z_icmp_ge B 158 dX8_whoGoes_151 (by decide) hf (fun hf => ?_) (fun hf => ?_)
        · refine z_iconst B (0) dX8_whoGoes_158 zc_iconst_0 ?_
          exact z_loc [1, 2, 3, 4, 5, 6, 0] _ rfl (tR_whoGoes_159 B N hd37 hh37 σ x1 x2 x3 x4 x5 k0 (0) hf)
        · refine z_iconst B (1) dX8_whoGoes_154 zc_iconst_1 ?_
          refine z_goto B 159 dX8_whoGoes_155 (by decide) ?_
          exact z_loc [1, 2, 3, 4, 5, 6, 0] _ rfl (tR_whoGoes_159 B N hd37 hh37 σ x1 x2 x3 x4 x5 k0 (1) hf)
def mR_whoGoes_91 (N : Nat) (hd37 : ST → Int32 → Int32 → Int32 → Int32 → Option (Int32 × ST)) (σ : ST) (x1 : Int32) (x2 : Int32) (x3 : Int32) (x4 : Int32) (x5 : Int32) : Option (Int32 × ST) :=
  mR_whoGoes_96 N hd37 σ x1 x2 x3 x4 x5 (1)
set_option maxRecDepth 20000 in
set_option maxHeartbeats 2000000 in
theorem tR_whoGoes_91 {adr : Nat → Nat} {cI cZ : ClassId} {X : zX} {q : Int32 × ST} (B : zC X 7 (wdR adr cI cZ) cX8_whoGoes RX8 (some .int) { frames := 2, cells := 0, slots := 0, locals := 42 }) (N : Nat) (hd37 : ST → Int32 → Int32 → Int32 → Int32 → Option (Int32 × ST)) (hh37 : ∀ (σ : ST) (x1 : Int32) (x2 : Int32) (x3 : Int32) (x4 : Int32), hd37 σ x1 x2 x3 x4 = some q → zJ X 7 (wdR adr cI cZ) (zi q) 37 [(0, .ref (adr 0)), (1, .int x1), (2, .int x2), (3, .int x3), (4, .int x4)] [] σ) (σ : ST) (x1 : Int32) (x2 : Int32) (x3 : Int32) (x4 : Int32) (x5 : Int32) (hf : mR_whoGoes_91 N hd37 σ x1 x2 x3 x4 x5 = some q) : zJ X 7 (wdR adr cI cZ) (zi q) 91 [(0, .ref (adr 0)), (1, .int x1), (2, .int x2), (3, .int x3), (4, .int x4), (5, .int x5)] [] σ := by
  refine z_iconst B (1) dX8_whoGoes_91 zc_iconst_1 ?_
  refine z_goto B 96 dX8_whoGoes_92 (by decide) ?_
  exact tR_whoGoes_96 B N hd37 hh37 σ x1 x2 x3 x4 x5 (1) hf
def mR_whoGoes_B37 (N : Nat) (hd37 : ST → Int32 → Int32 → Int32 → Int32 → Option (Int32 × ST)) (σ : ST) (x1 : Int32) (x2 : Int32) (x3 : Int32) (x4 : Int32) : Option (Int32 × ST) :=
  zGet (σ 1) 1974 (0) fun v44 =>
  if (v44 : Int32) ≤ x4 then
    some (x3, σ)
  else
    zCall (mR_cacheAt N σ x4) fun v50 s50 =>
    zCall (mR_mayGo N s50 v50 x1 x2) fun v60 s60 =>
    if (v60 : Int32) = 0 then
      mR_whoGoes_173 N hd37 s60 x1 x2 x3 x4 v50
    else
      if (x3 : Int32) = (-1) then
        mR_whoGoes_91 N hd37 s60 x1 x2 x3 x4 v50
      else
        zLet ((v50 : Int32) + (2)) fun v78 =>
        zGet (s60 1) 1974 v78 fun v79 =>
        zLet ((x3 : Int32) + (2)) fun v86 =>
        zGet (s60 1) 1974 v86 fun v87 =>
        if (v87 : Int32) ≤ v79 then
          mR_whoGoes_96 N hd37 s60 x1 x2 x3 x4 v50 (0)
        else
          mR_whoGoes_91 N hd37 s60 x1 x2 x3 x4 v50
def mR_whoGoes_37 (N : Nat) : ST → Int32 → Int32 → Int32 → Int32 → Option (Int32 × ST) := zIt (mR_whoGoes_B37 N) (fun _ _ _ _ _ => none) N
set_option maxRecDepth 20000 in
set_option maxHeartbeats 2000000 in
theorem tR_whoGoes_37 {adr : Nat → Nat} {cI cZ : ClassId} {X : zX} {q : Int32 × ST} (B : zC X 7 (wdR adr cI cZ) cX8_whoGoes RX8 (some .int) { frames := 2, cells := 0, slots := 0, locals := 42 }) (N : Nat) : ∀ (σ : ST) (x1 : Int32) (x2 : Int32) (x3 : Int32) (x4 : Int32), mR_whoGoes_37 N σ x1 x2 x3 x4 = some q → zJ X 7 (wdR adr cI cZ) (zi q) 37 [(0, .ref (adr 0)), (1, .int x1), (2, .int x2), (3, .int x3), (4, .int x4)] [] σ := by
  refine zIt_ind (P := fun (hd : ST → Int32 → Int32 → Int32 → Int32 → Option (Int32 × ST)) => ∀ (σ : ST) (x1 : Int32) (x2 : Int32) (x3 : Int32) (x4 : Int32), hd σ x1 x2 x3 x4 = some q → zJ X 7 (wdR adr cI cZ) (zi q) 37 [(0, .ref (adr 0)), (1, .int x1), (2, .int x2), (3, .int x3), (4, .int x4)] [] σ) (fun _ _ _ _ _ hf => by cases hf) (fun hd37 hh37 => ?_) N
  intro σ x1 x2 x3 x4 hf
  refine z_iload B dX8_whoGoes_37 4 rfl ?_
  refine z_aload_n B dX8_whoGoes_39 0 rfl rfl ?_
  refine fR_g_row B dX8_whoGoes_40 ?_
  refine z_iconst B (0) dX8_whoGoes_43 zc_iconst_0 ?_
  refine fR_l_row B dX8_whoGoes_44 hf (fun v44 hf => ?_)
  refine z_icmp_ge B 179 dX8_whoGoes_45 (by decide) hf (fun hf => ?_) (fun hf => ?_)
  · refine z_iload_n B dX8_whoGoes_179 3 rfl rfl ?_
    exact z_ireturn B dX8_whoGoes_180 hf
  · refine z_iload B dX8_whoGoes_48 4 rfl ?_
    refine z_callSi B (As := [.int x4]) kcS_X8_85 dX8_whoGoes_50 hf (fun q hq => cR_cacheAt q hq) rfl rfl (Nat.le_of_ble_eq_true rfl) rfl rfl ⟨Nat.le_of_ble_eq_true rfl, Nat.le_of_ble_eq_true rfl⟩ (fun v50 s50 hf => ?_)
    refine z_istore B [(5, .int v50), (0, .ref (adr 0)), (1, .int x1), (2, .int x2), (3, .int x3), (4, .int x4)] dX8_whoGoes_53 (Nat.le_of_ble_eq_true rfl) rfl ?_
    refine z_aload_n B dX8_whoGoes_55 1 rfl rfl ?_
    refine z_iload B dX8_whoGoes_56 0 rfl ?_
    refine z_iload_n B dX8_whoGoes_58 2 rfl rfl ?_
    refine z_iload_n B dX8_whoGoes_59 3 rfl rfl ?_
    refine z_callVi B (As := [.int v50, .int x1, .int x2]) kcV_X8_106 dX8_whoGoes_60 hf (fun q hq => cR_mayGo q hq) (wR_o (adr := adr) (cI := cI) (cZ := cZ)) rfl rfl rfl rfl (Nat.le_of_ble_eq_true rfl) rfl rfl ⟨Nat.le_of_ble_eq_true rfl, Nat.le_of_ble_eq_true rfl⟩ (fun v60 s60 hf => ?_)
    refine z_if_eq B 173 dX8_whoGoes_63 (by decide) hf (fun hf => ?_) (fun hf => ?_)
    · exact z_loc [1, 2, 3, 4, 5, 0] _ rfl (tR_whoGoes_173 B N hd37 hh37 s60 x1 x2 x3 x4 v50 hf)
    · refine z_iload_n B dX8_whoGoes_66 4 rfl rfl ?_
      refine z_iconst B (-1) dX8_whoGoes_67 zc_iconst_m1 ?_
      refine z_icmp_eq B 91 dX8_whoGoes_68 (by decide) hf (fun hf => ?_) (fun hf => ?_)
      · exact z_loc [1, 2, 3, 4, 5, 0] _ rfl (tR_whoGoes_91 B N hd37 hh37 s60 x1 x2 x3 x4 v50 hf)
      · refine z_aload_n B dX8_whoGoes_71 1 rfl rfl ?_
        refine fR_g_row B dX8_whoGoes_72 ?_
        refine z_iload B dX8_whoGoes_75 0 rfl ?_
        refine z_iconst B (2) dX8_whoGoes_77 zc_iconst_2 ?_
        refine z_iadd B dX8_whoGoes_78 hf (fun v78 hf => ?_)
        refine fR_l_row B dX8_whoGoes_79 hf (fun v79 hf => ?_)
        refine z_aload_n B dX8_whoGoes_80 1 rfl rfl ?_
        refine fR_g_row B dX8_whoGoes_81 ?_
        refine z_iload_n B dX8_whoGoes_84 4 rfl rfl ?_
        refine z_iconst B (2) dX8_whoGoes_85 zc_iconst_2 ?_
        refine z_iadd B dX8_whoGoes_86 hf (fun v86 hf => ?_)
        refine fR_l_row B dX8_whoGoes_87 hf (fun v87 hf => ?_)
        refine z_icmp_ge B 95 dX8_whoGoes_88 (by decide) hf (fun hf => ?_) (fun hf => ?_)
        · refine z_iconst B (0) dX8_whoGoes_95 zc_iconst_0 ?_
          exact z_loc [1, 2, 3, 4, 5, 0] _ rfl (tR_whoGoes_96 B N hd37 hh37 s60 x1 x2 x3 x4 v50 (0) hf)
        · exact z_loc [1, 2, 3, 4, 5, 0] _ rfl (tR_whoGoes_91 B N hd37 hh37 s60 x1 x2 x3 x4 v50 hf)
def mR_whoGoes_31 (N : Nat) (σ : ST) (x1 : Int32) (k0 : Int32) : Option (Int32 × ST) :=
  mR_whoGoes_37 N σ x1 k0 (-1) (0)
set_option maxRecDepth 20000 in
set_option maxHeartbeats 2000000 in
theorem tR_whoGoes_31 {adr : Nat → Nat} {cI cZ : ClassId} {X : zX} {q : Int32 × ST} (B : zC X 7 (wdR adr cI cZ) cX8_whoGoes RX8 (some .int) { frames := 2, cells := 0, slots := 0, locals := 42 }) (N : Nat) (σ : ST) (x1 : Int32) (k0 : Int32) (hf : mR_whoGoes_31 N σ x1 k0 = some q) : zJ X 7 (wdR adr cI cZ) (zi q) 31 [(0, .ref (adr 0)), (1, .int x1)] [.int k0] σ := by
  refine z_istore_n B [(2, .int k0), (0, .ref (adr 0)), (1, .int x1)] dX8_whoGoes_31 rfl (Nat.le_of_ble_eq_true rfl) rfl ?_
  refine z_iconst B (-1) dX8_whoGoes_32 zc_iconst_m1 ?_
  refine z_istore_n B [(3, .int (-1)), (2, .int k0), (0, .ref (adr 0)), (1, .int x1)] dX8_whoGoes_33 rfl (Nat.le_of_ble_eq_true rfl) rfl ?_
  refine z_iconst B (0) dX8_whoGoes_34 zc_iconst_0 ?_
  refine z_istore B [(4, .int (0)), (3, .int (-1)), (2, .int k0), (0, .ref (adr 0)), (1, .int x1)] dX8_whoGoes_35 (Nat.le_of_ble_eq_true rfl) rfl ?_
  exact z_loc [3, 4, 2, 1, 0] _ rfl (tR_whoGoes_37 B N σ x1 k0 (-1) (0) hf)
def mR_whoGoes_30 (N : Nat) (σ : ST) (x1 : Int32) : Option (Int32 × ST) :=
  mR_whoGoes_31 N σ x1 (0)
set_option maxRecDepth 20000 in
set_option maxHeartbeats 2000000 in
theorem tR_whoGoes_30 {adr : Nat → Nat} {cI cZ : ClassId} {X : zX} {q : Int32 × ST} (B : zC X 7 (wdR adr cI cZ) cX8_whoGoes RX8 (some .int) { frames := 2, cells := 0, slots := 0, locals := 42 }) (N : Nat) (σ : ST) (x1 : Int32) (hf : mR_whoGoes_30 N σ x1 = some q) : zJ X 7 (wdR adr cI cZ) (zi q) 30 [(0, .ref (adr 0)), (1, .int x1)] [] σ := by
  refine z_iconst B (0) dX8_whoGoes_30 zc_iconst_0 ?_
  exact tR_whoGoes_31 B N σ x1 (0) hf
def mR_whoGoes (N : Nat) (σ : ST) (x1 : Int32) : Option (Int32 × ST) :=
  zGet (σ 1) 1974 (8) fun v6 =>
  if (v6 : Int32) = (1) then
    zCall (mR_manyAhead N σ) fun v12 s12 =>
    zGet (s12 1) 1974 (0) fun v20 =>
    zDiv v20 (4) fun v22 =>
    if (v12 : Int32) ≤ v22 then
      mR_whoGoes_30 N s12 x1
    else
      mR_whoGoes_31 N s12 x1 (1)
  else
    mR_whoGoes_30 N σ x1
set_option maxRecDepth 20000 in
set_option maxHeartbeats 2000000 in
theorem cR_whoGoes {adr : Nat → Nat} {cI cZ : ClassId} {l : Launch} {D : va_G} {N : Nat} {σ : ST} {x1 : Int32} (q : Int32 × ST) (hf : mR_whoGoes N σ x1 = some q) : zM l D (wdR adr cI cZ) yX8_whoGoes cX8_whoGoes 7 (some .int) ({ frames := 2, cells := 0, slots := 0, locals := 42 }) [.ref (adr 0), .int x1] σ (zi q) := by
  refine zM_of sfR_ok rfl (Nat.le_of_ble_eq_true rfl) [(0, .ref (adr 0)), (1, .int x1)] rfl (fun X hX1 hX2 B => ?_)
  have B : zC X 7 (wdR adr cI cZ) cX8_whoGoes RX8 (some .int) { frames := 2, cells := 0, slots := 0, locals := 42 } := B
  refine z_aload_n B dX8_whoGoes_0 0 rfl rfl ?_
  refine fR_g_row B dX8_whoGoes_1 ?_
  refine z_bipush B (8) dX8_whoGoes_4 zc_bipush_8 ?_
  refine fR_l_row B dX8_whoGoes_6 hf (fun v6 hf => ?_)
  refine z_iconst B (1) dX8_whoGoes_7 zc_iconst_1 ?_
  refine z_icmp_ne B 30 dX8_whoGoes_8 (by decide) hf (fun hf => ?_) (fun hf => ?_)
  · exact tR_whoGoes_30 B N σ x1 hf
  · refine z_aload_n B dX8_whoGoes_11 0 rfl rfl ?_
    refine z_callVi B (As := []) kcV_X8_102 dX8_whoGoes_12 hf (fun q hq => cR_manyAhead q hq) (wR_o (adr := adr) (cI := cI) (cZ := cZ)) rfl rfl rfl rfl (Nat.le_of_ble_eq_true rfl) rfl rfl ⟨Nat.le_of_ble_eq_true rfl, Nat.le_of_ble_eq_true rfl⟩ (fun v12 s12 hf => ?_)
    refine z_aload_n B dX8_whoGoes_15 0 rfl rfl ?_
    refine fR_g_row B dX8_whoGoes_16 ?_
    refine z_iconst B (0) dX8_whoGoes_19 zc_iconst_0 ?_
    refine fR_l_row B dX8_whoGoes_20 hf (fun v20 hf => ?_)
    refine z_iconst B (4) dX8_whoGoes_21 zc_iconst_4 ?_
    refine z_idiv B dX8_whoGoes_22 hf (fun v22 hf => ?_)
    refine z_icmp_le B 30 dX8_whoGoes_23 (by decide) hf (fun hf => ?_) (fun hf => ?_)
    · exact tR_whoGoes_30 B N s12 x1 hf
    · refine z_iconst B (1) dX8_whoGoes_26 zc_iconst_1 ?_
      refine z_goto B 31 dX8_whoGoes_27 (by decide) ?_
      exact tR_whoGoes_31 B N s12 x1 (1) hf
theorem dX8_widens_0 : decode cX8_widens 0 = .ok (.aload_n 0, 1) := by decide +kernel
theorem dX8_widens_1 : decode cX8_widens 1 = .ok (.getfield 9, 3) := by decide +kernel
theorem dX8_widens_4 : decode cX8_widens 4 = .ok (.iload_n 1, 1) := by decide +kernel
theorem dX8_widens_5 : decode cX8_widens 5 = .ok (.iconst 5, 1) := by decide +kernel
theorem dX8_widens_6 : decode cX8_widens 6 = .ok (.iadd, 1) := by decide +kernel
theorem dX8_widens_7 : decode cX8_widens 7 = .ok (.iaload, 1) := by decide +kernel
theorem dX8_widens_8 : decode cX8_widens 8 = .ok (.istore_n 3, 1) := by decide +kernel
theorem dX8_widens_9 : decode cX8_widens 9 = .ok (.iload_n 3, 1) := by decide +kernel
theorem dX8_widens_10 : decode cX8_widens 10 = .ok (.iload_n 2, 1) := by decide +kernel
theorem dX8_widens_11 : decode cX8_widens 11 = .ok (.if_icmp .ne 4, 3) := by decide +kernel
theorem dX8_widens_14 : decode cX8_widens 14 = .ok (.return_, 1) := by decide +kernel
theorem dX8_widens_15 : decode cX8_widens 15 = .ok (.aload_n 0, 1) := by decide +kernel
theorem dX8_widens_16 : decode cX8_widens 16 = .ok (.getfield 9, 3) := by decide +kernel
theorem dX8_widens_19 : decode cX8_widens 19 = .ok (.bipush 26, 2) := by decide +kernel
theorem dX8_widens_21 : decode cX8_widens 21 = .ok (.iaload, 1) := by decide +kernel
theorem dX8_widens_22 : decode cX8_widens 22 = .ok (.bipush 40, 2) := by decide +kernel
theorem dX8_widens_24 : decode cX8_widens 24 = .ok (.if_icmp .ne 59, 3) := by decide +kernel
theorem dX8_widens_27 : decode cX8_widens 27 = .ok (.aload_n 0, 1) := by decide +kernel
theorem dX8_widens_28 : decode cX8_widens 28 = .ok (.getfield 9, 3) := by decide +kernel
theorem dX8_widens_31 : decode cX8_widens 31 = .ok (.bipush 26, 2) := by decide +kernel
theorem dX8_widens_33 : decode cX8_widens 33 = .ok (.dup2, 1) := by decide +kernel
theorem dX8_widens_34 : decode cX8_widens 34 = .ok (.iaload, 1) := by decide +kernel
theorem dX8_widens_35 : decode cX8_widens 35 = .ok (.iconst 1, 1) := by decide +kernel
theorem dX8_widens_36 : decode cX8_widens 36 = .ok (.isub, 1) := by decide +kernel
theorem dX8_widens_37 : decode cX8_widens 37 = .ok (.iastore, 1) := by decide +kernel
theorem dX8_widens_38 : decode cX8_widens 38 = .ok (.sipush 614, 3) := by decide +kernel
theorem dX8_widens_41 : decode cX8_widens 41 = .ok (.istore 4, 2) := by decide +kernel
theorem dX8_widens_43 : decode cX8_widens 43 = .ok (.iload 4, 2) := by decide +kernel
theorem dX8_widens_45 : decode cX8_widens 45 = .ok (.sipush 614, 3) := by decide +kernel
theorem dX8_widens_48 : decode cX8_widens 48 = .ok (.iconst 4, 1) := by decide +kernel
theorem dX8_widens_49 : decode cX8_widens 49 = .ok (.aload_n 0, 1) := by decide +kernel
theorem dX8_widens_50 : decode cX8_widens 50 = .ok (.getfield 9, 3) := by decide +kernel
theorem dX8_widens_53 : decode cX8_widens 53 = .ok (.bipush 26, 2) := by decide +kernel
theorem dX8_widens_55 : decode cX8_widens 55 = .ok (.iaload, 1) := by decide +kernel
theorem dX8_widens_56 : decode cX8_widens 56 = .ok (.imul, 1) := by decide +kernel
theorem dX8_widens_57 : decode cX8_widens 57 = .ok (.iadd, 1) := by decide +kernel
theorem dX8_widens_58 : decode cX8_widens 58 = .ok (.if_icmp .ge 25, 3) := by decide +kernel
theorem dX8_widens_61 : decode cX8_widens 61 = .ok (.aload_n 0, 1) := by decide +kernel
theorem dX8_widens_62 : decode cX8_widens 62 = .ok (.getfield 9, 3) := by decide +kernel
theorem dX8_widens_65 : decode cX8_widens 65 = .ok (.iload 4, 2) := by decide +kernel
theorem dX8_widens_67 : decode cX8_widens 67 = .ok (.aload_n 0, 1) := by decide +kernel
theorem dX8_widens_68 : decode cX8_widens 68 = .ok (.getfield 9, 3) := by decide +kernel
theorem dX8_widens_71 : decode cX8_widens 71 = .ok (.iload 4, 2) := by decide +kernel
theorem dX8_widens_73 : decode cX8_widens 73 = .ok (.iconst 4, 1) := by decide +kernel
theorem dX8_widens_74 : decode cX8_widens 74 = .ok (.iadd, 1) := by decide +kernel
theorem dX8_widens_75 : decode cX8_widens 75 = .ok (.iaload, 1) := by decide +kernel
theorem dX8_widens_76 : decode cX8_widens 76 = .ok (.iastore, 1) := by decide +kernel
theorem dX8_widens_77 : decode cX8_widens 77 = .ok (.iinc 4 1, 3) := by decide +kernel
theorem dX8_widens_80 : decode cX8_widens 80 = .ok (.goto (-37), 3) := by decide +kernel
theorem dX8_widens_83 : decode cX8_widens 83 = .ok (.sipush 614, 3) := by decide +kernel
theorem dX8_widens_86 : decode cX8_widens 86 = .ok (.iconst 4, 1) := by decide +kernel
theorem dX8_widens_87 : decode cX8_widens 87 = .ok (.aload_n 0, 1) := by decide +kernel
theorem dX8_widens_88 : decode cX8_widens 88 = .ok (.getfield 9, 3) := by decide +kernel
theorem dX8_widens_91 : decode cX8_widens 91 = .ok (.bipush 26, 2) := by decide +kernel
theorem dX8_widens_93 : decode cX8_widens 93 = .ok (.iaload, 1) := by decide +kernel
theorem dX8_widens_94 : decode cX8_widens 94 = .ok (.imul, 1) := by decide +kernel
theorem dX8_widens_95 : decode cX8_widens 95 = .ok (.iadd, 1) := by decide +kernel
theorem dX8_widens_96 : decode cX8_widens 96 = .ok (.istore 4, 2) := by decide +kernel
theorem dX8_widens_98 : decode cX8_widens 98 = .ok (.aload_n 0, 1) := by decide +kernel
theorem dX8_widens_99 : decode cX8_widens 99 = .ok (.getfield 9, 3) := by decide +kernel
theorem dX8_widens_102 : decode cX8_widens 102 = .ok (.iload 4, 2) := by decide +kernel
theorem dX8_widens_104 : decode cX8_widens 104 = .ok (.aload_n 0, 1) := by decide +kernel
theorem dX8_widens_105 : decode cX8_widens 105 = .ok (.getfield 9, 3) := by decide +kernel
theorem dX8_widens_108 : decode cX8_widens 108 = .ok (.bipush 10, 2) := by decide +kernel
theorem dX8_widens_110 : decode cX8_widens 110 = .ok (.iaload, 1) := by decide +kernel
theorem dX8_widens_111 : decode cX8_widens 111 = .ok (.iastore, 1) := by decide +kernel
theorem dX8_widens_112 : decode cX8_widens 112 = .ok (.aload_n 0, 1) := by decide +kernel
theorem dX8_widens_113 : decode cX8_widens 113 = .ok (.getfield 9, 3) := by decide +kernel
theorem dX8_widens_116 : decode cX8_widens 116 = .ok (.iload 4, 2) := by decide +kernel
theorem dX8_widens_118 : decode cX8_widens 118 = .ok (.iconst 1, 1) := by decide +kernel
theorem dX8_widens_119 : decode cX8_widens 119 = .ok (.iadd, 1) := by decide +kernel
theorem dX8_widens_120 : decode cX8_widens 120 = .ok (.aload_n 0, 1) := by decide +kernel
theorem dX8_widens_121 : decode cX8_widens 121 = .ok (.getfield 9, 3) := by decide +kernel
theorem dX8_widens_124 : decode cX8_widens 124 = .ok (.iload_n 1, 1) := by decide +kernel
theorem dX8_widens_125 : decode cX8_widens 125 = .ok (.iconst 1, 1) := by decide +kernel
theorem dX8_widens_126 : decode cX8_widens 126 = .ok (.iadd, 1) := by decide +kernel
theorem dX8_widens_127 : decode cX8_widens 127 = .ok (.iaload, 1) := by decide +kernel
theorem dX8_widens_128 : decode cX8_widens 128 = .ok (.iastore, 1) := by decide +kernel
theorem dX8_widens_129 : decode cX8_widens 129 = .ok (.aload_n 0, 1) := by decide +kernel
theorem dX8_widens_130 : decode cX8_widens 130 = .ok (.getfield 9, 3) := by decide +kernel
theorem dX8_widens_133 : decode cX8_widens 133 = .ok (.iload 4, 2) := by decide +kernel
theorem dX8_widens_135 : decode cX8_widens 135 = .ok (.iconst 2, 1) := by decide +kernel
theorem dX8_widens_136 : decode cX8_widens 136 = .ok (.iadd, 1) := by decide +kernel
theorem dX8_widens_137 : decode cX8_widens 137 = .ok (.iload_n 3, 1) := by decide +kernel
theorem dX8_widens_138 : decode cX8_widens 138 = .ok (.iastore, 1) := by decide +kernel
theorem dX8_widens_139 : decode cX8_widens 139 = .ok (.aload_n 0, 1) := by decide +kernel
theorem dX8_widens_140 : decode cX8_widens 140 = .ok (.getfield 9, 3) := by decide +kernel
theorem dX8_widens_143 : decode cX8_widens 143 = .ok (.iload 4, 2) := by decide +kernel
theorem dX8_widens_145 : decode cX8_widens 145 = .ok (.iconst 3, 1) := by decide +kernel
theorem dX8_widens_146 : decode cX8_widens 146 = .ok (.iadd, 1) := by decide +kernel
theorem dX8_widens_147 : decode cX8_widens 147 = .ok (.iload_n 2, 1) := by decide +kernel
theorem dX8_widens_148 : decode cX8_widens 148 = .ok (.iastore, 1) := by decide +kernel
theorem dX8_widens_149 : decode cX8_widens 149 = .ok (.aload_n 0, 1) := by decide +kernel
theorem dX8_widens_150 : decode cX8_widens 150 = .ok (.getfield 9, 3) := by decide +kernel
theorem dX8_widens_153 : decode cX8_widens 153 = .ok (.bipush 26, 2) := by decide +kernel
theorem dX8_widens_155 : decode cX8_widens 155 = .ok (.dup2, 1) := by decide +kernel
theorem dX8_widens_156 : decode cX8_widens 156 = .ok (.iaload, 1) := by decide +kernel
theorem dX8_widens_157 : decode cX8_widens 157 = .ok (.iconst 1, 1) := by decide +kernel
theorem dX8_widens_158 : decode cX8_widens 158 = .ok (.iadd, 1) := by decide +kernel
theorem dX8_widens_159 : decode cX8_widens 159 = .ok (.iastore, 1) := by decide +kernel
theorem dX8_widens_160 : decode cX8_widens 160 = .ok (.aload_n 0, 1) := by decide +kernel
theorem dX8_widens_161 : decode cX8_widens 161 = .ok (.getfield 9, 3) := by decide +kernel
theorem dX8_widens_164 : decode cX8_widens 164 = .ok (.iload_n 1, 1) := by decide +kernel
theorem dX8_widens_165 : decode cX8_widens 165 = .ok (.iconst 5, 1) := by decide +kernel
theorem dX8_widens_166 : decode cX8_widens 166 = .ok (.iadd, 1) := by decide +kernel
theorem dX8_widens_167 : decode cX8_widens 167 = .ok (.iload_n 2, 1) := by decide +kernel
theorem dX8_widens_168 : decode cX8_widens 168 = .ok (.iastore, 1) := by decide +kernel
theorem dX8_widens_169 : decode cX8_widens 169 = .ok (.aload_n 0, 1) := by decide +kernel
theorem dX8_widens_170 : decode cX8_widens 170 = .ok (.getfield 9, 3) := by decide +kernel
theorem dX8_widens_173 : decode cX8_widens 173 = .ok (.bipush 23, 2) := by decide +kernel
theorem dX8_widens_175 : decode cX8_widens 175 = .ok (.iload_n 2, 1) := by decide +kernel
theorem dX8_widens_176 : decode cX8_widens 176 = .ok (.aload_n 0, 1) := by decide +kernel
theorem dX8_widens_177 : decode cX8_widens 177 = .ok (.getfield 9, 3) := by decide +kernel
theorem dX8_widens_180 : decode cX8_widens 180 = .ok (.bipush 23, 2) := by decide +kernel
theorem dX8_widens_182 : decode cX8_widens 182 = .ok (.iaload, 1) := by decide +kernel
theorem dX8_widens_183 : decode cX8_widens 183 = .ok (.if_icmp .le 7, 3) := by decide +kernel
theorem dX8_widens_186 : decode cX8_widens 186 = .ok (.iload_n 2, 1) := by decide +kernel
theorem dX8_widens_187 : decode cX8_widens 187 = .ok (.goto 10, 3) := by decide +kernel
theorem dX8_widens_190 : decode cX8_widens 190 = .ok (.aload_n 0, 1) := by decide +kernel
theorem dX8_widens_191 : decode cX8_widens 191 = .ok (.getfield 9, 3) := by decide +kernel
theorem dX8_widens_194 : decode cX8_widens 194 = .ok (.bipush 23, 2) := by decide +kernel
theorem dX8_widens_196 : decode cX8_widens 196 = .ok (.iaload, 1) := by decide +kernel
theorem dX8_widens_197 : decode cX8_widens 197 = .ok (.iastore, 1) := by decide +kernel
theorem dX8_widens_198 : decode cX8_widens 198 = .ok (.return_, 1) := by decide +kernel
def mR_widens_197 (N : Nat) (σ : ST) (x1 : Int32) (x2 : Int32) (x3 : Int32) (x4 : Int32) (k1 : Int32) (k2 : Int32) : Option (ST) :=
  zSet σ 1 1974 k1 k2 fun s197 =>
  some s197
set_option maxRecDepth 20000 in
set_option maxHeartbeats 2000000 in
theorem tR_widens_197 {adr : Nat → Nat} {cI cZ : ClassId} {X : zX} {q : ST} (B : zC X 5 (wdR adr cI cZ) cX8_widens RX8 none { frames := 0, cells := 0, slots := 0, locals := 0 }) (N : Nat) (σ : ST) (x1 : Int32) (x2 : Int32) (x3 : Int32) (x4 : Int32) (k1 : Int32) (k2 : Int32) (hf : mR_widens_197 N σ x1 x2 x3 x4 k1 k2 = some q) : zJ X 5 (wdR adr cI cZ) (zu q) 197 [(0, .ref (adr 0)), (1, .int x1), (2, .int x2), (3, .int x3), (4, .int x4)] [.int k2, .int k1, .ref (adr 1)] σ := by
  refine fR_s_row B dX8_widens_197 hf (fun s197 hf => ?_)
  exact z_return B dX8_widens_198 hf
def mR_widens_83 (N : Nat) (σ : ST) (x1 : Int32) (x2 : Int32) (x3 : Int32) : Option (ST) :=
  zGet (σ 1) 1974 (26) fun v93 =>
  zLet (((4) : Int32) * v93) fun v94 =>
  zLet (((614) : Int32) + v94) fun v95 =>
  zGet (σ 1) 1974 (10) fun v110 =>
  zSet σ 1 1974 v95 v110 fun s111 =>
  zLet ((v95 : Int32) + (1)) fun v119 =>
  zLet ((x1 : Int32) + (1)) fun v126 =>
  zGet (s111 1) 1974 v126 fun v127 =>
  zSet s111 1 1974 v119 v127 fun s128 =>
  zLet ((v95 : Int32) + (2)) fun v136 =>
  zSet s128 1 1974 v136 x3 fun s138 =>
  zLet ((v95 : Int32) + (3)) fun v146 =>
  zSet s138 1 1974 v146 x2 fun s148 =>
  zGet (s148 1) 1974 (26) fun v156 =>
  zLet ((v156 : Int32) + (1)) fun v158 =>
  zSet s148 1 1974 (26) v158 fun s159 =>
  zLet ((x1 : Int32) + (5)) fun v166 =>
  zSet s159 1 1974 v166 x2 fun s168 =>
  zGet (s168 1) 1974 (23) fun v182 =>
  if (x2 : Int32) ≤ v182 then
    zGet (s168 1) 1974 (23) fun v196 =>
    mR_widens_197 N s168 x1 x2 x3 v95 (23) v196
  else
    mR_widens_197 N s168 x1 x2 x3 v95 (23) x2
set_option maxRecDepth 20000 in
set_option maxHeartbeats 2000000 in
theorem tR_widens_83 {adr : Nat → Nat} {cI cZ : ClassId} {X : zX} {q : ST} (B : zC X 5 (wdR adr cI cZ) cX8_widens RX8 none { frames := 0, cells := 0, slots := 0, locals := 0 }) (N : Nat) (σ : ST) (x1 : Int32) (x2 : Int32) (x3 : Int32) (hf : mR_widens_83 N σ x1 x2 x3 = some q) : zJ X 5 (wdR adr cI cZ) (zu q) 83 [(0, .ref (adr 0)), (1, .int x1), (2, .int x2), (3, .int x3)] [] σ := by
  refine z_sipush B (614) dX8_widens_83 zc_sipush_614 ?_
  refine z_iconst B (4) dX8_widens_86 zc_iconst_4 ?_
  refine z_aload_n B dX8_widens_87 0 rfl rfl ?_
  refine fR_g_row B dX8_widens_88 ?_
  refine z_bipush B (26) dX8_widens_91 zc_bipush_26 ?_
  refine fR_l_row B dX8_widens_93 hf (fun v93 hf => ?_)
  refine z_imul B dX8_widens_94 hf (fun v94 hf => ?_)
  refine z_iadd B dX8_widens_95 hf (fun v95 hf => ?_)
  refine z_istore B [(4, .int v95), (0, .ref (adr 0)), (1, .int x1), (2, .int x2), (3, .int x3)] dX8_widens_96 (Nat.le_of_ble_eq_true rfl) rfl ?_
  refine z_aload_n B dX8_widens_98 1 rfl rfl ?_
  refine fR_g_row B dX8_widens_99 ?_
  refine z_iload B dX8_widens_102 0 rfl ?_
  refine z_aload_n B dX8_widens_104 1 rfl rfl ?_
  refine fR_g_row B dX8_widens_105 ?_
  refine z_bipush B (10) dX8_widens_108 zc_bipush_10 ?_
  refine fR_l_row B dX8_widens_110 hf (fun v110 hf => ?_)
  refine fR_s_row B dX8_widens_111 hf (fun s111 hf => ?_)
  refine z_aload_n B dX8_widens_112 1 rfl rfl ?_
  refine fR_g_row B dX8_widens_113 ?_
  refine z_iload B dX8_widens_116 0 rfl ?_
  refine z_iconst B (1) dX8_widens_118 zc_iconst_1 ?_
  refine z_iadd B dX8_widens_119 hf (fun v119 hf => ?_)
  refine z_aload_n B dX8_widens_120 1 rfl rfl ?_
  refine fR_g_row B dX8_widens_121 ?_
  refine z_iload_n B dX8_widens_124 2 rfl rfl ?_
  refine z_iconst B (1) dX8_widens_125 zc_iconst_1 ?_
  refine z_iadd B dX8_widens_126 hf (fun v126 hf => ?_)
  refine fR_l_row B dX8_widens_127 hf (fun v127 hf => ?_)
  refine fR_s_row B dX8_widens_128 hf (fun s128 hf => ?_)
  refine z_aload_n B dX8_widens_129 1 rfl rfl ?_
  refine fR_g_row B dX8_widens_130 ?_
  refine z_iload B dX8_widens_133 0 rfl ?_
  refine z_iconst B (2) dX8_widens_135 zc_iconst_2 ?_
  refine z_iadd B dX8_widens_136 hf (fun v136 hf => ?_)
  refine z_iload_n B dX8_widens_137 4 rfl rfl ?_
  refine fR_s_row B dX8_widens_138 hf (fun s138 hf => ?_)
  refine z_aload_n B dX8_widens_139 1 rfl rfl ?_
  refine fR_g_row B dX8_widens_140 ?_
  refine z_iload B dX8_widens_143 0 rfl ?_
  refine z_iconst B (3) dX8_widens_145 zc_iconst_3 ?_
  refine z_iadd B dX8_widens_146 hf (fun v146 hf => ?_)
  refine z_iload_n B dX8_widens_147 3 rfl rfl ?_
  refine fR_s_row B dX8_widens_148 hf (fun s148 hf => ?_)
  refine z_aload_n B dX8_widens_149 1 rfl rfl ?_
  refine fR_g_row B dX8_widens_150 ?_
  refine z_bipush B (26) dX8_widens_153 zc_bipush_26 ?_
  refine z_dup2 B dX8_widens_155 rfl rfl ?_
  refine fR_l_row B dX8_widens_156 hf (fun v156 hf => ?_)
  refine z_iconst B (1) dX8_widens_157 zc_iconst_1 ?_
  refine z_iadd B dX8_widens_158 hf (fun v158 hf => ?_)
  refine fR_s_row B dX8_widens_159 hf (fun s159 hf => ?_)
  refine z_aload_n B dX8_widens_160 1 rfl rfl ?_
  refine fR_g_row B dX8_widens_161 ?_
  refine z_iload_n B dX8_widens_164 2 rfl rfl ?_
  refine z_iconst B (5) dX8_widens_165 zc_iconst_5 ?_
  refine z_iadd B dX8_widens_166 hf (fun v166 hf => ?_)
  refine z_iload_n B dX8_widens_167 3 rfl rfl ?_
  refine fR_s_row B dX8_widens_168 hf (fun s168 hf => ?_)
  refine z_aload_n B dX8_widens_169 1 rfl rfl ?_
  refine fR_g_row B dX8_widens_170 ?_
  refine z_bipush B (23) dX8_widens_173 zc_bipush_23 ?_
  refine z_iload_n B dX8_widens_175 3 rfl rfl ?_
  refine z_aload_n B dX8_widens_176 1 rfl rfl ?_
  refine fR_g_row B dX8_widens_177 ?_
  refine z_bipush B (23) dX8_widens_180 zc_bipush_23 ?_
  refine fR_l_row B dX8_widens_182 hf (fun v182 hf => ?_)
  refine z_icmp_le B 190 dX8_widens_183 (by decide) hf (fun hf => ?_) (fun hf => ?_)
  · refine z_aload_n B dX8_widens_190 1 rfl rfl ?_
    refine fR_g_row B dX8_widens_191 ?_
    refine z_bipush B (23) dX8_widens_194 zc_bipush_23 ?_
    refine fR_l_row B dX8_widens_196 hf (fun v196 hf => ?_)
    exact z_loc [1, 2, 3, 4, 0] _ rfl (tR_widens_197 B N s168 x1 x2 x3 v95 (23) v196 hf)
  · refine z_iload_n B dX8_widens_186 3 rfl rfl ?_
    refine z_goto B 197 dX8_widens_187 (by decide) ?_
    exact z_loc [1, 2, 3, 4, 0] _ rfl (tR_widens_197 B N s168 x1 x2 x3 v95 (23) x2 hf)
def mR_widens_B43 (N : Nat) (hd43 : ST → Int32 → Int32 → Int32 → Int32 → Option (ST)) (σ : ST) (x1 : Int32) (x2 : Int32) (x3 : Int32) (x4 : Int32) : Option (ST) :=
  zGet (σ 1) 1974 (26) fun v55 =>
  zLet (((4) : Int32) * v55) fun v56 =>
  zLet (((614) : Int32) + v56) fun v57 =>
  if (v57 : Int32) ≤ x4 then
    mR_widens_83 N σ x1 x2 x3
  else
    zLet ((x4 : Int32) + (4)) fun v74 =>
    zGet (σ 1) 1974 v74 fun v75 =>
    zSet σ 1 1974 x4 v75 fun s76 =>
    zLet (x4 + (1)) fun v77 =>
    hd43 s76 x1 x2 x3 v77
def mR_widens_43 (N : Nat) : ST → Int32 → Int32 → Int32 → Int32 → Option (ST) := zIt (mR_widens_B43 N) (fun _ _ _ _ _ => none) N
set_option maxRecDepth 20000 in
set_option maxHeartbeats 2000000 in
theorem tR_widens_43 {adr : Nat → Nat} {cI cZ : ClassId} {X : zX} {q : ST} (B : zC X 5 (wdR adr cI cZ) cX8_widens RX8 none { frames := 0, cells := 0, slots := 0, locals := 0 }) (N : Nat) : ∀ (σ : ST) (x1 : Int32) (x2 : Int32) (x3 : Int32) (x4 : Int32), mR_widens_43 N σ x1 x2 x3 x4 = some q → zJ X 5 (wdR adr cI cZ) (zu q) 43 [(0, .ref (adr 0)), (1, .int x1), (2, .int x2), (3, .int x3), (4, .int x4)] [] σ := by
  refine zIt_ind (P := fun (hd : ST → Int32 → Int32 → Int32 → Int32 → Option (ST)) => ∀ (σ : ST) (x1 : Int32) (x2 : Int32) (x3 : Int32) (x4 : Int32), hd σ x1 x2 x3 x4 = some q → zJ X 5 (wdR adr cI cZ) (zu q) 43 [(0, .ref (adr 0)), (1, .int x1), (2, .int x2), (3, .int x3), (4, .int x4)] [] σ) (fun _ _ _ _ _ hf => by cases hf) (fun hd43 hh43 => ?_) N
  intro σ x1 x2 x3 x4 hf
  refine z_iload B dX8_widens_43 4 rfl ?_
  refine z_sipush B (614) dX8_widens_45 zc_sipush_614 ?_
  refine z_iconst B (4) dX8_widens_48 zc_iconst_4 ?_
  refine z_aload_n B dX8_widens_49 0 rfl rfl ?_
  refine fR_g_row B dX8_widens_50 ?_
  refine z_bipush B (26) dX8_widens_53 zc_bipush_26 ?_
  refine fR_l_row B dX8_widens_55 hf (fun v55 hf => ?_)
  refine z_imul B dX8_widens_56 hf (fun v56 hf => ?_)
  refine z_iadd B dX8_widens_57 hf (fun v57 hf => ?_)
  refine z_icmp_ge B 83 dX8_widens_58 (by decide) hf (fun hf => ?_) (fun hf => ?_)
  · exact z_loc [0, 1, 2, 3] _ rfl (tR_widens_83 B N σ x1 x2 x3 hf)
  · refine z_aload_n B dX8_widens_61 0 rfl rfl ?_
    refine fR_g_row B dX8_widens_62 ?_
    refine z_iload B dX8_widens_65 4 rfl ?_
    refine z_aload_n B dX8_widens_67 0 rfl rfl ?_
    refine fR_g_row B dX8_widens_68 ?_
    refine z_iload B dX8_widens_71 4 rfl ?_
    refine z_iconst B (4) dX8_widens_73 zc_iconst_4 ?_
    refine z_iadd B dX8_widens_74 hf (fun v74 hf => ?_)
    refine fR_l_row B dX8_widens_75 hf (fun v75 hf => ?_)
    refine fR_s_row B dX8_widens_76 hf (fun s76 hf => ?_)
    refine z_iinc B (1) 4 (fun v77 => [(4, .int v77), (0, .ref (adr 0)), (1, .int x1), (2, .int x2), (3, .int x3)]) dX8_widens_77 hf zc_iconst_1 rfl (Nat.le_of_ble_eq_true rfl) (fun _ => rfl) (fun v77 hf => ?_)
    refine z_goto B 43 dX8_widens_80 (by decide) ?_
    exact z_loc [1, 2, 3, 4, 0] _ rfl (hh43 s76 x1 x2 x3 v77 hf)
def mR_widens (N : Nat) (σ : ST) (x1 : Int32) (x2 : Int32) : Option (ST) :=
  zLet ((x1 : Int32) + (5)) fun v6 =>
  zGet (σ 1) 1974 v6 fun v7 =>
  if (v7 : Int32) = x2 then
    some σ
  else
    zGet (σ 1) 1974 (26) fun v21 =>
    if (v21 : Int32) = (40) then
      zGet (σ 1) 1974 (26) fun v34 =>
      zLet ((v34 : Int32) - (1)) fun v36 =>
      zSet σ 1 1974 (26) v36 fun s37 =>
      mR_widens_43 N s37 x1 x2 v7 (614)
    else
      mR_widens_83 N σ x1 x2 v7
set_option maxRecDepth 20000 in
set_option maxHeartbeats 2000000 in
theorem cR_widens {adr : Nat → Nat} {cI cZ : ClassId} {l : Launch} {D : va_G} {N : Nat} {σ : ST} {x1 : Int32} {x2 : Int32} (q : ST) (hf : mR_widens N σ x1 x2 = some q) : zM l D (wdR adr cI cZ) yX8_widens cX8_widens 5 none ({ frames := 0, cells := 0, slots := 0, locals := 0 }) [.ref (adr 0), .int x1, .int x2] σ (zu q) := by
  refine zM_of sfR_ok rfl (Nat.le_of_ble_eq_true rfl) [(0, .ref (adr 0)), (1, .int x1), (2, .int x2)] rfl (fun X hX1 hX2 B => ?_)
  have B : zC X 5 (wdR adr cI cZ) cX8_widens RX8 none { frames := 0, cells := 0, slots := 0, locals := 0 } := B
  refine z_aload_n B dX8_widens_0 0 rfl rfl ?_
  refine fR_g_row B dX8_widens_1 ?_
  refine z_iload_n B dX8_widens_4 1 rfl rfl ?_
  refine z_iconst B (5) dX8_widens_5 zc_iconst_5 ?_
  refine z_iadd B dX8_widens_6 hf (fun v6 hf => ?_)
  refine fR_l_row B dX8_widens_7 hf (fun v7 hf => ?_)
  refine z_istore_n B [(3, .int v7), (0, .ref (adr 0)), (1, .int x1), (2, .int x2)] dX8_widens_8 rfl (Nat.le_of_ble_eq_true rfl) rfl ?_
  refine z_iload_n B dX8_widens_9 0 rfl rfl ?_
  refine z_iload_n B dX8_widens_10 3 rfl rfl ?_
  refine z_icmp_ne B 15 dX8_widens_11 (by decide) hf (fun hf => ?_) (fun hf => ?_)
  · refine z_aload_n B dX8_widens_15 1 rfl rfl ?_
    refine fR_g_row B dX8_widens_16 ?_
    refine z_bipush B (26) dX8_widens_19 zc_bipush_26 ?_
    refine fR_l_row B dX8_widens_21 hf (fun v21 hf => ?_)
    refine z_bipush B (40) dX8_widens_22 zc_bipush_40 ?_
    refine z_icmp_ne B 83 dX8_widens_24 (by decide) hf (fun hf => ?_) (fun hf => ?_)
    · exact z_loc [1, 2, 3, 0] _ rfl (tR_widens_83 B N σ x1 x2 v7 hf)
    · refine z_aload_n B dX8_widens_27 1 rfl rfl ?_
      refine fR_g_row B dX8_widens_28 ?_
      refine z_bipush B (26) dX8_widens_31 zc_bipush_26 ?_
      refine z_dup2 B dX8_widens_33 rfl rfl ?_
      refine fR_l_row B dX8_widens_34 hf (fun v34 hf => ?_)
      refine z_iconst B (1) dX8_widens_35 zc_iconst_1 ?_
      refine z_isub B dX8_widens_36 hf (fun v36 hf => ?_)
      refine fR_s_row B dX8_widens_37 hf (fun s37 hf => ?_)
      refine z_sipush B (614) dX8_widens_38 zc_sipush_614 ?_
      refine z_istore B [(4, .int (614)), (3, .int v7), (0, .ref (adr 0)), (1, .int x1), (2, .int x2)] dX8_widens_41 (Nat.le_of_ble_eq_true rfl) rfl ?_
      exact z_loc [2, 3, 4, 1, 0] _ rfl (tR_widens_43 B N s37 x1 x2 v7 (614) hf)
  · exact z_return B dX8_widens_14 hf
theorem dX8_streamAt_0 : decode cX8_streamAt 0 = .ok (.sipush 542, 3) := by decide +kernel
theorem dX8_streamAt_3 : decode cX8_streamAt 3 = .ok (.bipush 12, 2) := by decide +kernel
theorem dX8_streamAt_5 : decode cX8_streamAt 5 = .ok (.iload_n 0, 1) := by decide +kernel
theorem dX8_streamAt_6 : decode cX8_streamAt 6 = .ok (.imul, 1) := by decide +kernel
theorem dX8_streamAt_7 : decode cX8_streamAt 7 = .ok (.iadd, 1) := by decide +kernel
theorem dX8_streamAt_8 : decode cX8_streamAt 8 = .ok (.ireturn, 1) := by decide +kernel
def mR_streamAt (N : Nat) (σ : ST) (x0 : Int32) : Option (Int32 × ST) :=
  zLet (((12) : Int32) * x0) fun v6 =>
  zLet (((542) : Int32) + v6) fun v7 =>
  some (v7, σ)
set_option maxRecDepth 20000 in
set_option maxHeartbeats 2000000 in
theorem cR_streamAt {adr : Nat → Nat} {cI cZ : ClassId} {l : Launch} {D : va_G} {N : Nat} {σ : ST} {x0 : Int32} (q : Int32 × ST) (hf : mR_streamAt N σ x0 = some q) : zM l D (wdR adr cI cZ) yX8_streamAt cX8_streamAt 1 (some .int) ({ frames := 0, cells := 0, slots := 0, locals := 0 }) [.int x0] σ (zi q) := by
  refine zM_of sfR_ok rfl (Nat.le_of_ble_eq_true rfl) [(0, .int x0)] rfl (fun X hX1 hX2 B => ?_)
  have B : zC X 1 (wdR adr cI cZ) cX8_streamAt RX8 (some .int) { frames := 0, cells := 0, slots := 0, locals := 0 } := B
  refine z_sipush B (542) dX8_streamAt_0 zc_sipush_542 ?_
  refine z_bipush B (12) dX8_streamAt_3 zc_bipush_12 ?_
  refine z_iload_n B dX8_streamAt_5 0 rfl rfl ?_
  refine z_imul B dX8_streamAt_6 hf (fun v6 hf => ?_)
  refine z_iadd B dX8_streamAt_7 hf (fun v7 hf => ?_)
  exact z_ireturn B dX8_streamAt_8 hf
theorem dX8_streamOf_0 : decode cX8_streamOf 0 = .ok (.iconst 0, 1) := by decide +kernel
theorem dX8_streamOf_1 : decode cX8_streamOf 1 = .ok (.istore_n 2, 1) := by decide +kernel
theorem dX8_streamOf_2 : decode cX8_streamOf 2 = .ok (.iload_n 2, 1) := by decide +kernel
theorem dX8_streamOf_3 : decode cX8_streamOf 3 = .ok (.bipush 6, 2) := by decide +kernel
theorem dX8_streamOf_5 : decode cX8_streamOf 5 = .ok (.if_icmp .ge 42, 3) := by decide +kernel
theorem dX8_streamOf_8 : decode cX8_streamOf 8 = .ok (.aload_n 0, 1) := by decide +kernel
theorem dX8_streamOf_9 : decode cX8_streamOf 9 = .ok (.getfield 9, 3) := by decide +kernel
theorem dX8_streamOf_12 : decode cX8_streamOf 12 = .ok (.iload_n 2, 1) := by decide +kernel
theorem dX8_streamOf_13 : decode cX8_streamOf 13 = .ok (.invokestatic 89, 3) := by decide +kernel
theorem dX8_streamOf_16 : decode cX8_streamOf 16 = .ok (.iaload, 1) := by decide +kernel
theorem dX8_streamOf_17 : decode cX8_streamOf 17 = .ok (.iconst 1, 1) := by decide +kernel
theorem dX8_streamOf_18 : decode cX8_streamOf 18 = .ok (.if_icmp .ne 23, 3) := by decide +kernel
theorem dX8_streamOf_21 : decode cX8_streamOf 21 = .ok (.aload_n 0, 1) := by decide +kernel
theorem dX8_streamOf_22 : decode cX8_streamOf 22 = .ok (.getfield 9, 3) := by decide +kernel
theorem dX8_streamOf_25 : decode cX8_streamOf 25 = .ok (.iload_n 2, 1) := by decide +kernel
theorem dX8_streamOf_26 : decode cX8_streamOf 26 = .ok (.invokestatic 89, 3) := by decide +kernel
theorem dX8_streamOf_29 : decode cX8_streamOf 29 = .ok (.iconst 1, 1) := by decide +kernel
theorem dX8_streamOf_30 : decode cX8_streamOf 30 = .ok (.iadd, 1) := by decide +kernel
theorem dX8_streamOf_31 : decode cX8_streamOf 31 = .ok (.iaload, 1) := by decide +kernel
theorem dX8_streamOf_32 : decode cX8_streamOf 32 = .ok (.iload_n 1, 1) := by decide +kernel
theorem dX8_streamOf_33 : decode cX8_streamOf 33 = .ok (.if_icmp .ne 8, 3) := by decide +kernel
theorem dX8_streamOf_36 : decode cX8_streamOf 36 = .ok (.iload_n 2, 1) := by decide +kernel
theorem dX8_streamOf_37 : decode cX8_streamOf 37 = .ok (.invokestatic 89, 3) := by decide +kernel
theorem dX8_streamOf_40 : decode cX8_streamOf 40 = .ok (.ireturn, 1) := by decide +kernel
theorem dX8_streamOf_41 : decode cX8_streamOf 41 = .ok (.iinc 2 1, 3) := by decide +kernel
theorem dX8_streamOf_44 : decode cX8_streamOf 44 = .ok (.goto (-42), 3) := by decide +kernel
theorem dX8_streamOf_47 : decode cX8_streamOf 47 = .ok (.iconst (-1), 1) := by decide +kernel
theorem dX8_streamOf_48 : decode cX8_streamOf 48 = .ok (.ireturn, 1) := by decide +kernel
def mR_streamOf_41 (N : Nat) (hd2 : ST → Int32 → Int32 → Option (Int32 × ST)) (σ : ST) (x1 : Int32) (x2 : Int32) : Option (Int32 × ST) :=
  zLet (x2 + (1)) fun v41 =>
  hd2 σ x1 v41
set_option maxRecDepth 20000 in
set_option maxHeartbeats 2000000 in
theorem tR_streamOf_41 {adr : Nat → Nat} {cI cZ : ClassId} {X : zX} {q : Int32 × ST} (B : zC X 3 (wdR adr cI cZ) cX8_streamOf RX8 (some .int) { frames := 1, cells := 0, slots := 0, locals := 20 }) (N : Nat) (hd2 : ST → Int32 → Int32 → Option (Int32 × ST)) (hh2 : ∀ (σ : ST) (x1 : Int32) (x2 : Int32), hd2 σ x1 x2 = some q → zJ X 3 (wdR adr cI cZ) (zi q) 2 [(0, .ref (adr 0)), (1, .int x1), (2, .int x2)] [] σ) (σ : ST) (x1 : Int32) (x2 : Int32) (hf : mR_streamOf_41 N hd2 σ x1 x2 = some q) : zJ X 3 (wdR adr cI cZ) (zi q) 41 [(0, .ref (adr 0)), (1, .int x1), (2, .int x2)] [] σ := by
  refine z_iinc B (1) 2 (fun v41 => [(2, .int v41), (0, .ref (adr 0)), (1, .int x1)]) dX8_streamOf_41 hf zc_iconst_1 rfl (Nat.le_of_ble_eq_true rfl) (fun _ => rfl) (fun v41 hf => ?_)
  refine z_goto B 2 dX8_streamOf_44 (by decide) ?_
  exact z_loc [1, 2, 0] _ rfl (hh2 σ x1 v41 hf)
def mR_streamOf_B2 (N : Nat) (hd2 : ST → Int32 → Int32 → Option (Int32 × ST)) (σ : ST) (x1 : Int32) (x2 : Int32) : Option (Int32 × ST) :=
  if ((6) : Int32) ≤ x2 then
    some ((-1), σ)
  else
    zCall (mR_streamAt N σ x2) fun v13 s13 =>
    zGet (s13 1) 1974 v13 fun v16 =>
    if (v16 : Int32) = (1) then
      zCall (mR_streamAt N s13 x2) fun v26 s26 =>
      zLet ((v26 : Int32) + (1)) fun v30 =>
      zGet (s26 1) 1974 v30 fun v31 =>
      if (v31 : Int32) = x1 then
        zCall (mR_streamAt N s26 x2) fun v37 s37 =>
        some (v37, s37)
      else
        mR_streamOf_41 N hd2 s26 x1 x2
    else
      mR_streamOf_41 N hd2 s13 x1 x2
def mR_streamOf_2 (N : Nat) : ST → Int32 → Int32 → Option (Int32 × ST) := zIt (mR_streamOf_B2 N) (fun _ _ _ => none) N
set_option maxRecDepth 20000 in
set_option maxHeartbeats 2000000 in
theorem tR_streamOf_2 {adr : Nat → Nat} {cI cZ : ClassId} {X : zX} {q : Int32 × ST} (B : zC X 3 (wdR adr cI cZ) cX8_streamOf RX8 (some .int) { frames := 1, cells := 0, slots := 0, locals := 20 }) (N : Nat) : ∀ (σ : ST) (x1 : Int32) (x2 : Int32), mR_streamOf_2 N σ x1 x2 = some q → zJ X 3 (wdR adr cI cZ) (zi q) 2 [(0, .ref (adr 0)), (1, .int x1), (2, .int x2)] [] σ := by
  refine zIt_ind (P := fun (hd : ST → Int32 → Int32 → Option (Int32 × ST)) => ∀ (σ : ST) (x1 : Int32) (x2 : Int32), hd σ x1 x2 = some q → zJ X 3 (wdR adr cI cZ) (zi q) 2 [(0, .ref (adr 0)), (1, .int x1), (2, .int x2)] [] σ) (fun _ _ _ hf => by cases hf) (fun hd2 hh2 => ?_) N
  intro σ x1 x2 hf
  refine z_iload_n B dX8_streamOf_2 2 rfl rfl ?_
  refine z_bipush B (6) dX8_streamOf_3 zc_bipush_6 ?_
  refine z_icmp_ge B 47 dX8_streamOf_5 (by decide) hf (fun hf => ?_) (fun hf => ?_)
  · refine z_iconst B (-1) dX8_streamOf_47 zc_iconst_m1 ?_
    exact z_ireturn B dX8_streamOf_48 hf
  · refine z_aload_n B dX8_streamOf_8 0 rfl rfl ?_
    refine fR_g_row B dX8_streamOf_9 ?_
    refine z_iload_n B dX8_streamOf_12 2 rfl rfl ?_
    refine z_callSi B (As := [.int x2]) kcS_X8_89 dX8_streamOf_13 hf (fun q hq => cR_streamAt q hq) rfl rfl (Nat.le_of_ble_eq_true rfl) rfl rfl ⟨Nat.le_of_ble_eq_true rfl, Nat.le_of_ble_eq_true rfl⟩ (fun v13 s13 hf => ?_)
    refine fR_l_row B dX8_streamOf_16 hf (fun v16 hf => ?_)
    refine z_iconst B (1) dX8_streamOf_17 zc_iconst_1 ?_
    refine z_icmp_ne B 41 dX8_streamOf_18 (by decide) hf (fun hf => ?_) (fun hf => ?_)
    · exact tR_streamOf_41 B N hd2 hh2 s13 x1 x2 hf
    · refine z_aload_n B dX8_streamOf_21 0 rfl rfl ?_
      refine fR_g_row B dX8_streamOf_22 ?_
      refine z_iload_n B dX8_streamOf_25 2 rfl rfl ?_
      refine z_callSi B (As := [.int x2]) kcS_X8_89 dX8_streamOf_26 hf (fun q hq => cR_streamAt q hq) rfl rfl (Nat.le_of_ble_eq_true rfl) rfl rfl ⟨Nat.le_of_ble_eq_true rfl, Nat.le_of_ble_eq_true rfl⟩ (fun v26 s26 hf => ?_)
      refine z_iconst B (1) dX8_streamOf_29 zc_iconst_1 ?_
      refine z_iadd B dX8_streamOf_30 hf (fun v30 hf => ?_)
      refine fR_l_row B dX8_streamOf_31 hf (fun v31 hf => ?_)
      refine z_iload_n B dX8_streamOf_32 1 rfl rfl ?_
      refine z_icmp_ne B 41 dX8_streamOf_33 (by decide) hf (fun hf => ?_) (fun hf => ?_)
      · exact tR_streamOf_41 B N hd2 hh2 s26 x1 x2 hf
      · refine z_iload_n B dX8_streamOf_36 2 rfl rfl ?_
        refine z_callSi B (As := [.int x2]) kcS_X8_89 dX8_streamOf_37 hf (fun q hq => cR_streamAt q hq) rfl rfl (Nat.le_of_ble_eq_true rfl) rfl rfl ⟨Nat.le_of_ble_eq_true rfl, Nat.le_of_ble_eq_true rfl⟩ (fun v37 s37 hf => ?_)
        exact z_ireturn B dX8_streamOf_40 hf
def mR_streamOf (N : Nat) (σ : ST) (x1 : Int32) : Option (Int32 × ST) :=
  mR_streamOf_2 N σ x1 (0)
set_option maxRecDepth 20000 in
set_option maxHeartbeats 2000000 in
theorem cR_streamOf {adr : Nat → Nat} {cI cZ : ClassId} {l : Launch} {D : va_G} {N : Nat} {σ : ST} {x1 : Int32} (q : Int32 × ST) (hf : mR_streamOf N σ x1 = some q) : zM l D (wdR adr cI cZ) yX8_streamOf cX8_streamOf 3 (some .int) ({ frames := 1, cells := 0, slots := 0, locals := 20 }) [.ref (adr 0), .int x1] σ (zi q) := by
  refine zM_of sfR_ok rfl (Nat.le_of_ble_eq_true rfl) [(0, .ref (adr 0)), (1, .int x1)] rfl (fun X hX1 hX2 B => ?_)
  have B : zC X 3 (wdR adr cI cZ) cX8_streamOf RX8 (some .int) { frames := 1, cells := 0, slots := 0, locals := 20 } := B
  refine z_iconst B (0) dX8_streamOf_0 zc_iconst_0 ?_
  refine z_istore_n B [(2, .int (0)), (0, .ref (adr 0)), (1, .int x1)] dX8_streamOf_1 rfl (Nat.le_of_ble_eq_true rfl) rfl ?_
  exact z_loc [1, 2, 0] _ rfl (tR_streamOf_2 B N σ x1 (0) hf)
