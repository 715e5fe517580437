theorem dX8_cacheAt_0 : decode cX8_cacheAt 0 = .ok (.bipush 30, 2) := by decide +kernel
theorem dX8_cacheAt_2 : decode cX8_cacheAt 2 = .ok (.bipush 8, 2) := by decide +kernel
theorem dX8_cacheAt_4 : decode cX8_cacheAt 4 = .ok (.iload_n 0, 1) := by decide +kernel
theorem dX8_cacheAt_5 : decode cX8_cacheAt 5 = .ok (.imul, 1) := by decide +kernel
theorem dX8_cacheAt_6 : decode cX8_cacheAt 6 = .ok (.iadd, 1) := by decide +kernel
theorem dX8_cacheAt_7 : decode cX8_cacheAt 7 = .ok (.ireturn, 1) := by decide +kernel
def mR_cacheAt (N : Nat) (σ : ST) (x0 : Int32) : Option (Int32 × ST) :=
  zLet (((8) : Int32) * x0) fun v5 =>
  zLet (((30) : Int32) + v5) fun v6 =>
  some (v6, σ)
set_option maxRecDepth 20000 in
set_option maxHeartbeats 2000000 in
theorem cR_cacheAt {adr : Nat → Nat} {cI cZ : ClassId} {l : Launch} {D : va_G} {N : Nat} {σ : ST} {x0 : Int32} (q : Int32 × ST) (hf : mR_cacheAt N σ x0 = some q) : zM l D (wdR adr cI cZ) yX8_cacheAt cX8_cacheAt 1 (some .int) ({ frames := 0, cells := 0, slots := 0, locals := 0 }) [.int x0] σ (zi q) := by
  refine zM_of rfl (Nat.le_of_ble_eq_true rfl) [(0, .int x0)] rfl (fun X hX1 hX2 B => ?_)
  have B : zC X 1 (wdR adr cI cZ) cX8_cacheAt RX8 (some .int) { frames := 0, cells := 0, slots := 0, locals := 0 } := B
  refine z_bipush B (30) dX8_cacheAt_0 zc_bipush_30 ?_
  refine z_bipush B (8) dX8_cacheAt_2 zc_bipush_8 ?_
  refine z_iload_n B dX8_cacheAt_4 0 rfl rfl ?_
  refine z_imul B dX8_cacheAt_5 hf (fun v5 hf => ?_)
  refine z_iadd B dX8_cacheAt_6 hf (fun v6 hf => ?_)
  exact z_ireturn B dX8_cacheAt_7 hf
theorem dX8_place_0 : decode cX8_place 0 = .ok (.iconst 0, 1) := by decide +kernel
theorem dX8_place_1 : decode cX8_place 1 = .ok (.istore_n 2, 1) := by decide +kernel
theorem dX8_place_2 : decode cX8_place 2 = .ok (.iload_n 2, 1) := by decide +kernel
theorem dX8_place_3 : decode cX8_place 3 = .ok (.aload_n 0, 1) := by decide +kernel
theorem dX8_place_4 : decode cX8_place 4 = .ok (.getfield 9, 3) := by decide +kernel
theorem dX8_place_7 : decode cX8_place 7 = .ok (.iconst 0, 1) := by decide +kernel
theorem dX8_place_8 : decode cX8_place 8 = .ok (.iaload, 1) := by decide +kernel
theorem dX8_place_9 : decode cX8_place 9 = .ok (.if_icmp .ge 29, 3) := by decide +kernel
theorem dX8_place_12 : decode cX8_place 12 = .ok (.aload_n 0, 1) := by decide +kernel
theorem dX8_place_13 : decode cX8_place 13 = .ok (.getfield 9, 3) := by decide +kernel
theorem dX8_place_16 : decode cX8_place 16 = .ok (.iload_n 2, 1) := by decide +kernel
theorem dX8_place_17 : decode cX8_place 17 = .ok (.invokestatic 85, 3) := by decide +kernel
theorem dX8_place_20 : decode cX8_place 20 = .ok (.iaload, 1) := by decide +kernel
theorem dX8_place_21 : decode cX8_place 21 = .ok (.iload_n 1, 1) := by decide +kernel
theorem dX8_place_22 : decode cX8_place 22 = .ok (.iconst 1, 1) := by decide +kernel
theorem dX8_place_23 : decode cX8_place 23 = .ok (.iadd, 1) := by decide +kernel
theorem dX8_place_24 : decode cX8_place 24 = .ok (.if_icmp .ne 8, 3) := by decide +kernel
theorem dX8_place_27 : decode cX8_place 27 = .ok (.iload_n 2, 1) := by decide +kernel
theorem dX8_place_28 : decode cX8_place 28 = .ok (.invokestatic 85, 3) := by decide +kernel
theorem dX8_place_31 : decode cX8_place 31 = .ok (.ireturn, 1) := by decide +kernel
theorem dX8_place_32 : decode cX8_place 32 = .ok (.iinc 2 1, 3) := by decide +kernel
theorem dX8_place_35 : decode cX8_place 35 = .ok (.goto (-33), 3) := by decide +kernel
theorem dX8_place_38 : decode cX8_place 38 = .ok (.iconst (-1), 1) := by decide +kernel
theorem dX8_place_39 : decode cX8_place 39 = .ok (.ireturn, 1) := by decide +kernel
def mR_place_B2 (N : Nat) (hd2 : ST → Int32 → Int32 → Option (Int32 × ST)) (σ : ST) (x1 : Int32) (x2 : Int32) : Option (Int32 × ST) :=
  zGet (σ 1) 1974 (0) fun v8 =>
  if (v8 : Int32) ≤ x2 then
    some ((-1), σ)
  else
    zCall (mR_cacheAt N σ x2) fun v17 s17 =>
    zGet (s17 1) 1974 v17 fun v20 =>
    zLet ((x1 : Int32) + (1)) fun v23 =>
    if (v20 : Int32) = v23 then
      zCall (mR_cacheAt N s17 x2) fun v28 s28 =>
      some (v28, s28)
    else
      zLet (x2 + (1)) fun v32 =>
      hd2 s17 x1 v32
def mR_place_2 (N : Nat) : ST → Int32 → Int32 → Option (Int32 × ST) := zIt (mR_place_B2 N) (fun _ _ _ => none) N
set_option maxRecDepth 20000 in
set_option maxHeartbeats 2000000 in
theorem tR_place_2 {adr : Nat → Nat} {cI cZ : ClassId} {X : zX} {q : Int32 × ST} (B : zC X 3 (wdR adr cI cZ) cX8_place RX8 (some .int) { frames := 1, cells := 0, slots := 0, locals := 20 }) (N : Nat) : ∀ (σ : ST) (x1 : Int32) (x2 : Int32), mR_place_2 N σ x1 x2 = some q → zJ X 3 (wdR adr cI cZ) (zi q) 2 [(0, .ref (adr 0)), (1, .int x1), (2, .int x2)] [] σ := by
  refine zIt_ind (P := fun (hd : ST → Int32 → Int32 → Option (Int32 × ST)) => ∀ (σ : ST) (x1 : Int32) (x2 : Int32), hd σ x1 x2 = some q → zJ X 3 (wdR adr cI cZ) (zi q) 2 [(0, .ref (adr 0)), (1, .int x1), (2, .int x2)] [] σ) (fun _ _ _ hf => by cases hf) (fun hd2 hh2 => ?_) N
  intro σ x1 x2 hf
  refine z_iload_n B dX8_place_2 2 rfl rfl ?_
  refine z_aload_n B dX8_place_3 0 rfl rfl ?_
  refine fR_g_row B dX8_place_4 ?_
  refine z_iconst B (0) dX8_place_7 zc_iconst_0 ?_
  refine fR_l_row B dX8_place_8 hf (fun v8 hf => ?_)
  refine z_icmp_ge B 38 dX8_place_9 (by decide) hf (fun hf => ?_) (fun hf => ?_)
  · refine z_iconst B (-1) dX8_place_38 zc_iconst_m1 ?_
    exact z_ireturn B dX8_place_39 hf
  · refine z_aload_n B dX8_place_12 0 rfl rfl ?_
    refine fR_g_row B dX8_place_13 ?_
    refine z_iload_n B dX8_place_16 2 rfl rfl ?_
    refine z_callSi B (As := [.int x2]) kcS_X8_85 dX8_place_17 hf (fun q hq => cR_cacheAt q hq) rfl rfl (Nat.le_of_ble_eq_true rfl) rfl rfl ⟨Nat.le_of_ble_eq_true rfl, Nat.le_of_ble_eq_true rfl⟩ (fun v17 s17 hf => ?_)
    refine fR_l_row B dX8_place_20 hf (fun v20 hf => ?_)
    refine z_iload_n B dX8_place_21 1 rfl rfl ?_
    refine z_iconst B (1) dX8_place_22 zc_iconst_1 ?_
    refine z_iadd B dX8_place_23 hf (fun v23 hf => ?_)
    refine z_icmp_ne B 32 dX8_place_24 (by decide) hf (fun hf => ?_) (fun hf => ?_)
    · refine z_iinc B (1) 2 (fun v32 => [(2, .int v32), (0, .ref (adr 0)), (1, .int x1)]) dX8_place_32 hf zc_iconst_1 rfl (Nat.le_of_ble_eq_true rfl) (fun _ => rfl) (fun v32 hf => ?_)
      refine z_goto B 2 dX8_place_35 (by decide) ?_
      exact z_loc [1, 2, 0] _ rfl (hh2 s17 x1 v32 hf)
    · refine z_iload_n B dX8_place_27 2 rfl rfl ?_
      refine z_callSi B (As := [.int x2]) kcS_X8_85 dX8_place_28 hf (fun q hq => cR_cacheAt q hq) rfl rfl (Nat.le_of_ble_eq_true rfl) rfl rfl ⟨Nat.le_of_ble_eq_true rfl, Nat.le_of_ble_eq_true rfl⟩ (fun v28 s28 hf => ?_)
      exact z_ireturn B dX8_place_31 hf
def mR_place (N : Nat) (σ : ST) (x1 : Int32) : Option (Int32 × ST) :=
  mR_place_2 N σ x1 (0)
set_option maxRecDepth 20000 in
set_option maxHeartbeats 2000000 in
theorem cR_place {adr : Nat → Nat} {cI cZ : ClassId} {l : Launch} {D : va_G} {N : Nat} {σ : ST} {x1 : Int32} (q : Int32 × ST) (hf : mR_place N σ x1 = some q) : zM l D (wdR adr cI cZ) yX8_place cX8_place 3 (some .int) ({ frames := 1, cells := 0, slots := 0, locals := 20 }) [.ref (adr 0), .int x1] σ (zi q) := by
  refine zM_of rfl (Nat.le_of_ble_eq_true rfl) [(0, .ref (adr 0)), (1, .int x1)] rfl (fun X hX1 hX2 B => ?_)
  have B : zC X 3 (wdR adr cI cZ) cX8_place RX8 (some .int) { frames := 1, cells := 0, slots := 0, locals := 20 } := B
  refine z_iconst B (0) dX8_place_0 zc_iconst_0 ?_
  refine z_istore_n B [(2, .int (0)), (0, .ref (adr 0)), (1, .int x1)] dX8_place_1 rfl (Nat.le_of_ble_eq_true rfl) rfl ?_
  exact z_loc [1, 2, 0] _ rfl (tR_place_2 B N σ x1 (0) hf)
theorem dX8_many_0 : decode cX8_many 0 = .ok (.iconst 0, 1) := by decide +kernel
theorem dX8_many_1 : decode cX8_many 1 = .ok (.istore_n 1, 1) := by decide +kernel
theorem dX8_many_2 : decode cX8_many 2 = .ok (.iconst 0, 1) := by decide +kernel
theorem dX8_many_3 : decode cX8_many 3 = .ok (.istore_n 2, 1) := by decide +kernel
theorem dX8_many_4 : decode cX8_many 4 = .ok (.iload_n 2, 1) := by decide +kernel
theorem dX8_many_5 : decode cX8_many 5 = .ok (.aload_n 0, 1) := by decide +kernel
theorem dX8_many_6 : decode cX8_many 6 = .ok (.getfield 9, 3) := by decide +kernel
theorem dX8_many_9 : decode cX8_many 9 = .ok (.iconst 0, 1) := by decide +kernel
theorem dX8_many_10 : decode cX8_many 10 = .ok (.iaload, 1) := by decide +kernel
theorem dX8_many_11 : decode cX8_many 11 = .ok (.if_icmp .ge 29, 3) := by decide +kernel
theorem dX8_many_14 : decode cX8_many 14 = .ok (.iload_n 1, 1) := by decide +kernel
theorem dX8_many_15 : decode cX8_many 15 = .ok (.aload_n 0, 1) := by decide +kernel
theorem dX8_many_16 : decode cX8_many 16 = .ok (.getfield 9, 3) := by decide +kernel
theorem dX8_many_19 : decode cX8_many 19 = .ok (.iload_n 2, 1) := by decide +kernel
theorem dX8_many_20 : decode cX8_many 20 = .ok (.invokestatic 85, 3) := by decide +kernel
theorem dX8_many_23 : decode cX8_many 23 = .ok (.iaload, 1) := by decide +kernel
theorem dX8_many_24 : decode cX8_many 24 = .ok (.ifCond .le 7, 3) := by decide +kernel
theorem dX8_many_27 : decode cX8_many 27 = .ok (.iconst 1, 1) := by decide +kernel
theorem dX8_many_28 : decode cX8_many 28 = .ok (.goto 4, 3) := by decide +kernel
theorem dX8_many_31 : decode cX8_many 31 = .ok (.iconst 0, 1) := by decide +kernel
theorem dX8_many_32 : decode cX8_many 32 = .ok (.iadd, 1) := by decide +kernel
theorem dX8_many_33 : decode cX8_many 33 = .ok (.istore_n 1, 1) := by decide +kernel
theorem dX8_many_34 : decode cX8_many 34 = .ok (.iinc 2 1, 3) := by decide +kernel
theorem dX8_many_37 : decode cX8_many 37 = .ok (.goto (-33), 3) := by decide +kernel
theorem dX8_many_40 : decode cX8_many 40 = .ok (.iload_n 1, 1) := by decide +kernel
theorem dX8_many_41 : decode cX8_many 41 = .ok (.ireturn, 1) := by decide +kernel
def mR_many_32 (N : Nat) (hd4 : ST → Int32 → Int32 → Option (Int32 × ST)) (σ : ST) (x1 : Int32) (x2 : Int32) (k0 : Int32) (k1 : Int32) : Option (Int32 × ST) :=
  zLet ((k0 : Int32) + k1) fun v32 =>
  zLet (x2 + (1)) fun v34 =>
  hd4 σ v32 v34
set_option maxRecDepth 20000 in
set_option maxHeartbeats 2000000 in
theorem tR_many_32 {adr : Nat → Nat} {cI cZ : ClassId} {X : zX} {q : Int32 × ST} (B : zC X 3 (wdR adr cI cZ) cX8_many RX8 (some .int) { frames := 1, cells := 0, slots := 0, locals := 20 }) (N : Nat) (hd4 : ST → Int32 → Int32 → Option (Int32 × ST)) (hh4 : ∀ (σ : ST) (x1 : Int32) (x2 : Int32), hd4 σ x1 x2 = some q → zJ X 3 (wdR adr cI cZ) (zi q) 4 [(0, .ref (adr 0)), (1, .int x1), (2, .int x2)] [] σ) (σ : ST) (x1 : Int32) (x2 : Int32) (k0 : Int32) (k1 : Int32) (hf : mR_many_32 N hd4 σ x1 x2 k0 k1 = some q) : zJ X 3 (wdR adr cI cZ) (zi q) 32 [(0, .ref (adr 0)), (1, .int x1), (2, .int x2)] [.int k1, .int k0] σ := by
  refine z_iadd B dX8_many_32 hf (fun v32 hf => ?_)
  refine z_istore_n B [(1, .int v32), (0, .ref (adr 0)), (2, .int x2)] dX8_many_33 rfl (Nat.le_of_ble_eq_true rfl) rfl ?_
  refine z_iinc B (1) 2 (fun v34 => [(2, .int v34), (1, .int v32), (0, .ref (adr 0))]) dX8_many_34 hf zc_iconst_1 rfl (Nat.le_of_ble_eq_true rfl) (fun _ => rfl) (fun v34 hf => ?_)
  refine z_goto B 4 dX8_many_37 (by decide) ?_
  exact z_loc [2, 1, 0] _ rfl (hh4 σ v32 v34 hf)
def mR_many_B4 (N : Nat) (hd4 : ST → Int32 → Int32 → Option (Int32 × ST)) (σ : ST) (x1 : Int32) (x2 : Int32) : Option (Int32 × ST) :=
  zGet (σ 1) 1974 (0) fun v10 =>
  if (v10 : Int32) ≤ x2 then
    some (x1, σ)
  else
    zCall (mR_cacheAt N σ x2) fun v20 s20 =>
    zGet (s20 1) 1974 v20 fun v23 =>
    if (v23 : Int32) ≤ 0 then
      mR_many_32 N hd4 s20 x1 x2 x1 (0)
    else
      mR_many_32 N hd4 s20 x1 x2 x1 (1)
def mR_many_4 (N : Nat) : ST → Int32 → Int32 → Option (Int32 × ST) := zIt (mR_many_B4 N) (fun _ _ _ => none) N
set_option maxRecDepth 20000 in
set_option maxHeartbeats 2000000 in
theorem tR_many_4 {adr : Nat → Nat} {cI cZ : ClassId} {X : zX} {q : Int32 × ST} (B : zC X 3 (wdR adr cI cZ) cX8_many RX8 (some .int) { frames := 1, cells := 0, slots := 0, locals := 20 }) (N : Nat) : ∀ (σ : ST) (x1 : Int32) (x2 : Int32), mR_many_4 N σ x1 x2 = some q → zJ X 3 (wdR adr cI cZ) (zi q) 4 [(0, .ref (adr 0)), (1, .int x1), (2, .int x2)] [] σ := by
  refine zIt_ind (P := fun (hd : ST → Int32 → Int32 → Option (Int32 × ST)) => ∀ (σ : ST) (x1 : Int32) (x2 : Int32), hd σ x1 x2 = some q → zJ X 3 (wdR adr cI cZ) (zi q) 4 [(0, .ref (adr 0)), (1, .int x1), (2, .int x2)] [] σ) (fun _ _ _ hf => by cases hf) (fun hd4 hh4 => ?_) N
  intro σ x1 x2 hf
  refine z_iload_n B dX8_many_4 2 rfl rfl ?_
  refine z_aload_n B dX8_many_5 0 rfl rfl ?_
  refine fR_g_row B dX8_many_6 ?_
  refine z_iconst B (0) dX8_many_9 zc_iconst_0 ?_
  refine fR_l_row B dX8_many_10 hf (fun v10 hf => ?_)
  refine z_icmp_ge B 40 dX8_many_11 (by decide) hf (fun hf => ?_) (fun hf => ?_)
  · refine z_iload_n B dX8_many_40 1 rfl rfl ?_
    exact z_ireturn B dX8_many_41 hf
  · refine z_iload_n B dX8_many_14 1 rfl rfl ?_
    refine z_aload_n B dX8_many_15 0 rfl rfl ?_
    refine fR_g_row B dX8_many_16 ?_
    refine z_iload_n B dX8_many_19 2 rfl rfl ?_
    refine z_callSi B (As := [.int x2]) kcS_X8_85 dX8_many_20 hf (fun q hq => cR_cacheAt q hq) rfl rfl (Nat.le_of_ble_eq_true rfl) rfl rfl ⟨Nat.le_of_ble_eq_true rfl, Nat.le_of_ble_eq_true rfl⟩ (fun v20 s20 hf => ?_)
    refine fR_l_row B dX8_many_23 hf (fun v23 hf => ?_)
    refine z_if_le B 31 dX8_many_24 (by decide) hf (fun hf => ?_) (fun hf => ?_)
    · refine z_iconst B (0) dX8_many_31 zc_iconst_0 ?_
      exact tR_many_32 B N hd4 hh4 s20 x1 x2 x1 (0) hf
    · refine z_iconst B (1) dX8_many_27 zc_iconst_1 ?_
      refine z_goto B 32 dX8_many_28 (by decide) ?_
      exact tR_many_32 B N hd4 hh4 s20 x1 x2 x1 (1) hf
def mR_many (N : Nat) (σ : ST) : Option (Int32 × ST) :=
  mR_many_4 N σ (0) (0)
set_option maxRecDepth 20000 in
set_option maxHeartbeats 2000000 in
theorem cR_many {adr : Nat → Nat} {cI cZ : ClassId} {l : Launch} {D : va_G} {N : Nat} {σ : ST} (q : Int32 × ST) (hf : mR_many N σ = some q) : zM l D (wdR adr cI cZ) yX8_many cX8_many 3 (some .int) ({ frames := 1, cells := 0, slots := 0, locals := 20 }) [.ref (adr 0)] σ (zi q) := by
  refine zM_of rfl (Nat.le_of_ble_eq_true rfl) [(0, .ref (adr 0))] rfl (fun X hX1 hX2 B => ?_)
  have B : zC X 3 (wdR adr cI cZ) cX8_many RX8 (some .int) { frames := 1, cells := 0, slots := 0, locals := 20 } := B
  refine z_iconst B (0) dX8_many_0 zc_iconst_0 ?_
  refine z_istore_n B [(1, .int (0)), (0, .ref (adr 0))] dX8_many_1 rfl (Nat.le_of_ble_eq_true rfl) rfl ?_
  refine z_iconst B (0) dX8_many_2 zc_iconst_0 ?_
  refine z_istore_n B [(2, .int (0)), (1, .int (0)), (0, .ref (adr 0))] dX8_many_3 rfl (Nat.le_of_ble_eq_true rfl) rfl ?_
  exact z_loc [2, 1, 0] _ rfl (tR_many_4 B N σ (0) (0) hf)
theorem dX8_stamp_0 : decode cX8_stamp 0 = .ok (.aload_n 0, 1) := by decide +kernel
theorem dX8_stamp_1 : decode cX8_stamp 1 = .ok (.getfield 9, 3) := by decide +kernel
theorem dX8_stamp_4 : decode cX8_stamp 4 = .ok (.bipush 21, 2) := by decide +kernel
theorem dX8_stamp_6 : decode cX8_stamp 6 = .ok (.dup2, 1) := by decide +kernel
theorem dX8_stamp_7 : decode cX8_stamp 7 = .ok (.iaload, 1) := by decide +kernel
theorem dX8_stamp_8 : decode cX8_stamp 8 = .ok (.iconst 1, 1) := by decide +kernel
theorem dX8_stamp_9 : decode cX8_stamp 9 = .ok (.iadd, 1) := by decide +kernel
theorem dX8_stamp_10 : decode cX8_stamp 10 = .ok (.iastore, 1) := by decide +kernel
theorem dX8_stamp_11 : decode cX8_stamp 11 = .ok (.aload_n 0, 1) := by decide +kernel
theorem dX8_stamp_12 : decode cX8_stamp 12 = .ok (.getfield 9, 3) := by decide +kernel
theorem dX8_stamp_15 : decode cX8_stamp 15 = .ok (.bipush 21, 2) := by decide +kernel
theorem dX8_stamp_17 : decode cX8_stamp 17 = .ok (.iaload, 1) := by decide +kernel
theorem dX8_stamp_18 : decode cX8_stamp 18 = .ok (.ireturn, 1) := by decide +kernel
def mR_stamp (N : Nat) (σ : ST) : Option (Int32 × ST) :=
  zGet (σ 1) 1974 (21) fun v7 =>
  zLet ((v7 : Int32) + (1)) fun v9 =>
  zSet σ 1 1974 (21) v9 fun s10 =>
  zGet (s10 1) 1974 (21) fun v17 =>
  some (v17, s10)
set_option maxRecDepth 20000 in
set_option maxHeartbeats 2000000 in
theorem cR_stamp {adr : Nat → Nat} {cI cZ : ClassId} {l : Launch} {D : va_G} {N : Nat} {σ : ST} (q : Int32 × ST) (hf : mR_stamp N σ = some q) : zM l D (wdR adr cI cZ) yX8_stamp cX8_stamp 1 (some .int) ({ frames := 0, cells := 0, slots := 0, locals := 0 }) [.ref (adr 0)] σ (zi q) := by
  refine zM_of rfl (Nat.le_of_ble_eq_true rfl) [(0, .ref (adr 0))] rfl (fun X hX1 hX2 B => ?_)
  have B : zC X 1 (wdR adr cI cZ) cX8_stamp RX8 (some .int) { frames := 0, cells := 0, slots := 0, locals := 0 } := B
  refine z_aload_n B dX8_stamp_0 0 rfl rfl ?_
  refine fR_g_row B dX8_stamp_1 ?_
  refine z_bipush B (21) dX8_stamp_4 zc_bipush_21 ?_
  refine z_dup2 B dX8_stamp_6 rfl rfl ?_
  refine fR_l_row B dX8_stamp_7 hf (fun v7 hf => ?_)
  refine z_iconst B (1) dX8_stamp_8 zc_iconst_1 ?_
  refine z_iadd B dX8_stamp_9 hf (fun v9 hf => ?_)
  refine fR_s_row B dX8_stamp_10 hf (fun s10 hf => ?_)
  refine z_aload_n B dX8_stamp_11 0 rfl rfl ?_
  refine fR_g_row B dX8_stamp_12 ?_
  refine z_bipush B (21) dX8_stamp_15 zc_bipush_21 ?_
  refine fR_l_row B dX8_stamp_17 hf (fun v17 hf => ?_)
  exact z_ireturn B dX8_stamp_18 hf
theorem dX8_manyAhead_0 : decode cX8_manyAhead 0 = .ok (.iconst 0, 1) := by decide +kernel
theorem dX8_manyAhead_1 : decode cX8_manyAhead 1 = .ok (.istore_n 1, 1) := by decide +kernel
theorem dX8_manyAhead_2 : decode cX8_manyAhead 2 = .ok (.iconst 0, 1) := by decide +kernel
theorem dX8_manyAhead_3 : decode cX8_manyAhead 3 = .ok (.istore_n 2, 1) := by decide +kernel
theorem dX8_manyAhead_4 : decode cX8_manyAhead 4 = .ok (.iload_n 2, 1) := by decide +kernel
theorem dX8_manyAhead_5 : decode cX8_manyAhead 5 = .ok (.aload_n 0, 1) := by decide +kernel
theorem dX8_manyAhead_6 : decode cX8_manyAhead 6 = .ok (.getfield 9, 3) := by decide +kernel
theorem dX8_manyAhead_9 : decode cX8_manyAhead 9 = .ok (.iconst 0, 1) := by decide +kernel
theorem dX8_manyAhead_10 : decode cX8_manyAhead 10 = .ok (.iaload, 1) := by decide +kernel
theorem dX8_manyAhead_11 : decode cX8_manyAhead 11 = .ok (.if_icmp .ge 39, 3) := by decide +kernel
theorem dX8_manyAhead_14 : decode cX8_manyAhead 14 = .ok (.iload_n 1, 1) := by decide +kernel
theorem dX8_manyAhead_15 : decode cX8_manyAhead 15 = .ok (.aload_n 0, 1) := by decide +kernel
theorem dX8_manyAhead_16 : decode cX8_manyAhead 16 = .ok (.getfield 9, 3) := by decide +kernel
theorem dX8_manyAhead_19 : decode cX8_manyAhead 19 = .ok (.iload_n 2, 1) := by decide +kernel
theorem dX8_manyAhead_20 : decode cX8_manyAhead 20 = .ok (.invokestatic 85, 3) := by decide +kernel
theorem dX8_manyAhead_23 : decode cX8_manyAhead 23 = .ok (.iaload, 1) := by decide +kernel
theorem dX8_manyAhead_24 : decode cX8_manyAhead 24 = .ok (.ifCond .le 17, 3) := by decide +kernel
theorem dX8_manyAhead_27 : decode cX8_manyAhead 27 = .ok (.aload_n 0, 1) := by decide +kernel
theorem dX8_manyAhead_28 : decode cX8_manyAhead 28 = .ok (.getfield 9, 3) := by decide +kernel
theorem dX8_manyAhead_31 : decode cX8_manyAhead 31 = .ok (.iload_n 2, 1) := by decide +kernel
theorem dX8_manyAhead_32 : decode cX8_manyAhead 32 = .ok (.invokestatic 85, 3) := by decide +kernel
theorem dX8_manyAhead_35 : decode cX8_manyAhead 35 = .ok (.iconst 3, 1) := by decide +kernel
theorem dX8_manyAhead_36 : decode cX8_manyAhead 36 = .ok (.iadd, 1) := by decide +kernel
theorem dX8_manyAhead_37 : decode cX8_manyAhead 37 = .ok (.iaload, 1) := by decide +kernel
theorem dX8_manyAhead_38 : decode cX8_manyAhead 38 = .ok (.goto 4, 3) := by decide +kernel
theorem dX8_manyAhead_41 : decode cX8_manyAhead 41 = .ok (.iconst 0, 1) := by decide +kernel
theorem dX8_manyAhead_42 : decode cX8_manyAhead 42 = .ok (.iadd, 1) := by decide +kernel
theorem dX8_manyAhead_43 : decode cX8_manyAhead 43 = .ok (.istore_n 1, 1) := by decide +kernel
theorem dX8_manyAhead_44 : decode cX8_manyAhead 44 = .ok (.iinc 2 1, 3) := by decide +kernel
theorem dX8_manyAhead_47 : decode cX8_manyAhead 47 = .ok (.goto (-43), 3) := by decide +kernel
theorem dX8_manyAhead_50 : decode cX8_manyAhead 50 = .ok (.iload_n 1, 1) := by decide +kernel
theorem dX8_manyAhead_51 : decode cX8_manyAhead 51 = .ok (.ireturn, 1) := by decide +kernel
def mR_manyAhead_42 (N : Nat) (hd4 : ST → Int32 → Int32 → Option (Int32 × ST)) (σ : ST) (x1 : Int32) (x2 : Int32) (k0 : Int32) (k1 : Int32) : Option (Int32 × ST) :=
  zLet ((k0 : Int32) + k1) fun v42 =>
  zLet (x2 + (1)) fun v44 =>
  hd4 σ v42 v44
set_option maxRecDepth 20000 in
set_option maxHeartbeats 2000000 in
theorem tR_manyAhead_42 {adr : Nat → Nat} {cI cZ : ClassId} {X : zX} {q : Int32 × ST} (B : zC X 3 (wdR adr cI cZ) cX8_manyAhead RX8 (some .int) { frames := 1, cells := 0, slots := 0, locals := 20 }) (N : Nat) (hd4 : ST → Int32 → Int32 → Option (Int32 × ST)) (hh4 : ∀ (σ : ST) (x1 : Int32) (x2 : Int32), hd4 σ x1 x2 = some q → zJ X 3 (wdR adr cI cZ) (zi q) 4 [(0, .ref (adr 0)), (1, .int x1), (2, .int x2)] [] σ) (σ : ST) (x1 : Int32) (x2 : Int32) (k0 : Int32) (k1 : Int32) (hf : mR_manyAhead_42 N hd4 σ x1 x2 k0 k1 = some q) : zJ X 3 (wdR adr cI cZ) (zi q) 42 [(0, .ref (adr 0)), (1, .int x1), (2, .int x2)] [.int k1, .int k0] σ := by
  refine z_iadd B dX8_manyAhead_42 hf (fun v42 hf => ?_)
  refine z_istore_n B [(1, .int v42), (0, .ref (adr 0)), (2, .int x2)] dX8_manyAhead_43 rfl (Nat.le_of_ble_eq_true rfl) rfl ?_
  refine z_iinc B (1) 2 (fun v44 => [(2, .int v44), (1, .int v42), (0, .ref (adr 0))]) dX8_manyAhead_44 hf zc_iconst_1 rfl (Nat.le_of_ble_eq_true rfl) (fun _ => rfl) (fun v44 hf => ?_)
  refine z_goto B 4 dX8_manyAhead_47 (by decide) ?_
  exact z_loc [2, 1, 0] _ rfl (hh4 σ v42 v44 hf)
def mR_manyAhead_B4 (N : Nat) (hd4 : ST → Int32 → Int32 → Option (Int32 × ST)) (σ : ST) (x1 : Int32) (x2 : Int32) : Option (Int32 × ST) :=
  zGet (σ 1) 1974 (0) fun v10 =>
  if (v10 : Int32) ≤ x2 then
    some (x1, σ)
  else
    zCall (mR_cacheAt N σ x2) fun v20 s20 =>
    zGet (s20 1) 1974 v20 fun v23 =>
    if (v23 : Int32) ≤ 0 then
      mR_manyAhead_42 N hd4 s20 x1 x2 x1 (0)
    else
      zCall (mR_cacheAt N s20 x2) fun v32 s32 =>
      zLet ((v32 : Int32) + (3)) fun v36 =>
      zGet (s32 1) 1974 v36 fun v37 =>
      mR_manyAhead_42 N hd4 s32 x1 x2 x1 v37
def mR_manyAhead_4 (N : Nat) : ST → Int32 → Int32 → Option (Int32 × ST) := zIt (mR_manyAhead_B4 N) (fun _ _ _ => none) N
set_option maxRecDepth 20000 in
set_option maxHeartbeats 2000000 in
theorem tR_manyAhead_4 {adr : Nat → Nat} {cI cZ : ClassId} {X : zX} {q : Int32 × ST} (B : zC X 3 (wdR adr cI cZ) cX8_manyAhead RX8 (some .int) { frames := 1, cells := 0, slots := 0, locals := 20 }) (N : Nat) : ∀ (σ : ST) (x1 : Int32) (x2 : Int32), mR_manyAhead_4 N σ x1 x2 = some q → zJ X 3 (wdR adr cI cZ) (zi q) 4 [(0, .ref (adr 0)), (1, .int x1), (2, .int x2)] [] σ := by
  refine zIt_ind (P := fun (hd : ST → Int32 → Int32 → Option (Int32 × ST)) => ∀ (σ : ST) (x1 : Int32) (x2 : Int32), hd σ x1 x2 = some q → zJ X 3 (wdR adr cI cZ) (zi q) 4 [(0, .ref (adr 0)), (1, .int x1), (2, .int x2)] [] σ) (fun _ _ _ hf => by cases hf) (fun hd4 hh4 => ?_) N
  intro σ x1 x2 hf
  refine z_iload_n B dX8_manyAhead_4 2 rfl rfl ?_
  refine z_aload_n B dX8_manyAhead_5 0 rfl rfl ?_
  refine fR_g_row B dX8_manyAhead_6 ?_
  refine z_iconst B (0) dX8_manyAhead_9 zc_iconst_0 ?_
  refine fR_l_row B dX8_manyAhead_10 hf (fun v10 hf => ?_)
  refine z_icmp_ge B 50 dX8_manyAhead_11 (by decide) hf (fun hf => ?_) (fun hf => ?_)
  · refine z_iload_n B dX8_manyAhead_50 1 rfl rfl ?_
    exact z_ireturn B dX8_manyAhead_51 hf
  · refine z_iload_n B dX8_manyAhead_14 1 rfl rfl ?_
    refine z_aload_n B dX8_manyAhead_15 0 rfl rfl ?_
    refine fR_g_row B dX8_manyAhead_16 ?_
    refine z_iload_n B dX8_manyAhead_19 2 rfl rfl ?_
    refine z_callSi B (As := [.int x2]) kcS_X8_85 dX8_manyAhead_20 hf (fun q hq => cR_cacheAt q hq) rfl rfl (Nat.le_of_ble_eq_true rfl) rfl rfl ⟨Nat.le_of_ble_eq_true rfl, Nat.le_of_ble_eq_true rfl⟩ (fun v20 s20 hf => ?_)
    refine fR_l_row B dX8_manyAhead_23 hf (fun v23 hf => ?_)
    refine z_if_le B 41 dX8_manyAhead_24 (by decide) hf (fun hf => ?_) (fun hf => ?_)
    · refine z_iconst B (0) dX8_manyAhead_41 zc_iconst_0 ?_
      exact tR_manyAhead_42 B N hd4 hh4 s20 x1 x2 x1 (0) hf
    · refine z_aload_n B dX8_manyAhead_27 0 rfl rfl ?_
      refine fR_g_row B dX8_manyAhead_28 ?_
      refine z_iload_n B dX8_manyAhead_31 2 rfl rfl ?_
      refine z_callSi B (As := [.int x2]) kcS_X8_85 dX8_manyAhead_32 hf (fun q hq => cR_cacheAt q hq) rfl rfl (Nat.le_of_ble_eq_true rfl) rfl rfl ⟨Nat.le_of_ble_eq_true rfl, Nat.le_of_ble_eq_true rfl⟩ (fun v32 s32 hf => ?_)
      refine z_iconst B (3) dX8_manyAhead_35 zc_iconst_3 ?_
      refine z_iadd B dX8_manyAhead_36 hf (fun v36 hf => ?_)
      refine fR_l_row B dX8_manyAhead_37 hf (fun v37 hf => ?_)
      refine z_goto B 42 dX8_manyAhead_38 (by decide) ?_
      exact tR_manyAhead_42 B N hd4 hh4 s32 x1 x2 x1 v37 hf
def mR_manyAhead (N : Nat) (σ : ST) : Option (Int32 × ST) :=
  mR_manyAhead_4 N σ (0) (0)
set_option maxRecDepth 20000 in
set_option maxHeartbeats 2000000 in
theorem cR_manyAhead {adr : Nat → Nat} {cI cZ : ClassId} {l : Launch} {D : va_G} {N : Nat} {σ : ST} (q : Int32 × ST) (hf : mR_manyAhead N σ = some q) : zM l D (wdR adr cI cZ) yX8_manyAhead cX8_manyAhead 3 (some .int) ({ frames := 1, cells := 0, slots := 0, locals := 20 }) [.ref (adr 0)] σ (zi q) := by
  refine zM_of rfl (Nat.le_of_ble_eq_true rfl) [(0, .ref (adr 0))] rfl (fun X hX1 hX2 B => ?_)
  have B : zC X 3 (wdR adr cI cZ) cX8_manyAhead RX8 (some .int) { frames := 1, cells := 0, slots := 0, locals := 20 } := B
  refine z_iconst B (0) dX8_manyAhead_0 zc_iconst_0 ?_
  refine z_istore_n B [(1, .int (0)), (0, .ref (adr 0))] dX8_manyAhead_1 rfl (Nat.le_of_ble_eq_true rfl) rfl ?_
  refine z_iconst B (0) dX8_manyAhead_2 zc_iconst_0 ?_
  refine z_istore_n B [(2, .int (0)), (1, .int (0)), (0, .ref (adr 0))] dX8_manyAhead_3 rfl (Nat.le_of_ble_eq_true rfl) rfl ?_
  exact z_loc [2, 1, 0] _ rfl (tR_manyAhead_4 B N σ (0) (0) hf)
theorem dX8_streamAt_0 : decode cX8_streamAt 0 = .ok (.sipush 542, 3) := by decide +kernel
theorem dX8_streamAt_3 : decode cX8_streamAt 3 = .ok (.bipush 12, 2) := by decide +kernel
theorem dX8_streamAt_5 : decode cX8_streamAt 5 = .ok (.iload_n 0, 1) := by decide +kernel
theorem dX8_streamAt_6 : decode cX8_streamAt 6 = .ok (.imul, 1) := by decide +kernel
theorem dX8_streamAt_7 : decode cX8_streamAt 7 = .ok (.iadd, 1) := by decide +kernel
theorem dX8_streamAt_8 : decode cX8_streamAt 8 = .ok (.ireturn, 1) := by decide +kernel
def mR_streamAt (N : Nat) (σ : ST) (x0 : Int32) : Option (Int32 × ST) :=
  zLet (((12) : Int32) * x0) fun v6 =>
  zLet (((542) : Int32) + v6) fun v7 =>
  some (v7, σ)
set_option maxRecDepth 20000 in
set_option maxHeartbeats 2000000 in
theorem cR_streamAt {adr : Nat → Nat} {cI cZ : ClassId} {l : Launch} {D : va_G} {N : Nat} {σ : ST} {x0 : Int32} (q : Int32 × ST) (hf : mR_streamAt N σ x0 = some q) : zM l D (wdR adr cI cZ) yX8_streamAt cX8_streamAt 1 (some .int) ({ frames := 0, cells := 0, slots := 0, locals := 0 }) [.int x0] σ (zi q) := by
  refine zM_of rfl (Nat.le_of_ble_eq_true rfl) [(0, .int x0)] rfl (fun X hX1 hX2 B => ?_)
  have B : zC X 1 (wdR adr cI cZ) cX8_streamAt RX8 (some .int) { frames := 0, cells := 0, slots := 0, locals := 0 } := B
  refine z_sipush B (542) dX8_streamAt_0 zc_sipush_542 ?_
  refine z_bipush B (12) dX8_streamAt_3 zc_bipush_12 ?_
  refine z_iload_n B dX8_streamAt_5 0 rfl rfl ?_
  refine z_imul B dX8_streamAt_6 hf (fun v6 hf => ?_)
  refine z_iadd B dX8_streamAt_7 hf (fun v7 hf => ?_)
  exact z_ireturn B dX8_streamAt_8 hf
theorem dX8_streams_0 : decode cX8_streams 0 = .ok (.iconst 0, 1) := by decide +kernel
theorem dX8_streams_1 : decode cX8_streams 1 = .ok (.istore_n 2, 1) := by decide +kernel
theorem dX8_streams_2 : decode cX8_streams 2 = .ok (.iconst 0, 1) := by decide +kernel
theorem dX8_streams_3 : decode cX8_streams 3 = .ok (.istore_n 3, 1) := by decide +kernel
theorem dX8_streams_4 : decode cX8_streams 4 = .ok (.iload_n 3, 1) := by decide +kernel
theorem dX8_streams_5 : decode cX8_streams 5 = .ok (.bipush 6, 2) := by decide +kernel
theorem dX8_streams_7 : decode cX8_streams 7 = .ok (.if_icmp .ge 50, 3) := by decide +kernel
theorem dX8_streams_10 : decode cX8_streams 10 = .ok (.iload_n 3, 1) := by decide +kernel
theorem dX8_streams_11 : decode cX8_streams 11 = .ok (.invokestatic 89, 3) := by decide +kernel
theorem dX8_streams_14 : decode cX8_streams 14 = .ok (.istore 4, 2) := by decide +kernel
theorem dX8_streams_16 : decode cX8_streams 16 = .ok (.iload_n 2, 1) := by decide +kernel
theorem dX8_streams_17 : decode cX8_streams 17 = .ok (.aload_n 0, 1) := by decide +kernel
theorem dX8_streams_18 : decode cX8_streams 18 = .ok (.getfield 9, 3) := by decide +kernel
theorem dX8_streams_21 : decode cX8_streams 21 = .ok (.iload 4, 2) := by decide +kernel
theorem dX8_streams_23 : decode cX8_streams 23 = .ok (.iaload, 1) := by decide +kernel
theorem dX8_streams_24 : decode cX8_streams 24 = .ok (.iconst 1, 1) := by decide +kernel
theorem dX8_streams_25 : decode cX8_streams 25 = .ok (.if_icmp .ne 23, 3) := by decide +kernel
theorem dX8_streams_28 : decode cX8_streams 28 = .ok (.iload_n 1, 1) := by decide +kernel
theorem dX8_streams_29 : decode cX8_streams 29 = .ok (.ifCond .eq 15, 3) := by decide +kernel
theorem dX8_streams_32 : decode cX8_streams 32 = .ok (.aload_n 0, 1) := by decide +kernel
theorem dX8_streams_33 : decode cX8_streams 33 = .ok (.getfield 9, 3) := by decide +kernel
theorem dX8_streams_36 : decode cX8_streams 36 = .ok (.iload 4, 2) := by decide +kernel
theorem dX8_streams_38 : decode cX8_streams 38 = .ok (.iconst 5, 1) := by decide +kernel
theorem dX8_streams_39 : decode cX8_streams 39 = .ok (.iadd, 1) := by decide +kernel
theorem dX8_streams_40 : decode cX8_streams 40 = .ok (.iaload, 1) := by decide +kernel
theorem dX8_streams_41 : decode cX8_streams 41 = .ok (.ifCond .le 7, 3) := by decide +kernel
theorem dX8_streams_44 : decode cX8_streams 44 = .ok (.iconst 1, 1) := by decide +kernel
theorem dX8_streams_45 : decode cX8_streams 45 = .ok (.goto 4, 3) := by decide +kernel
theorem dX8_streams_48 : decode cX8_streams 48 = .ok (.iconst 0, 1) := by decide +kernel
theorem dX8_streams_49 : decode cX8_streams 49 = .ok (.iadd, 1) := by decide +kernel
theorem dX8_streams_50 : decode cX8_streams 50 = .ok (.istore_n 2, 1) := by decide +kernel
theorem dX8_streams_51 : decode cX8_streams 51 = .ok (.iinc 3 1, 3) := by decide +kernel
theorem dX8_streams_54 : decode cX8_streams 54 = .ok (.goto (-50), 3) := by decide +kernel
theorem dX8_streams_57 : decode cX8_streams 57 = .ok (.iload_n 2, 1) := by decide +kernel
theorem dX8_streams_58 : decode cX8_streams 58 = .ok (.ireturn, 1) := by decide +kernel
def mR_streams_49 (N : Nat) (hd4 : ST → Int32 → Int32 → Int32 → Option (Int32 × ST)) (σ : ST) (x1 : Int32) (x2 : Int32) (x3 : Int32) (x4 : Int32) (k0 : Int32) (k1 : Int32) : Option (Int32 × ST) :=
  zLet ((k0 : Int32) + k1) fun v49 =>
  zLet (x3 + (1)) fun v51 =>
  hd4 σ x1 v49 v51
set_option maxRecDepth 20000 in
set_option maxHeartbeats 2000000 in
theorem tR_streams_49 {adr : Nat → Nat} {cI cZ : ClassId} {X : zX} {q : Int32 × ST} (B : zC X 5 (wdR adr cI cZ) cX8_streams RX8 (some .int) { frames := 1, cells := 0, slots := 0, locals := 20 }) (N : Nat) (hd4 : ST → Int32 → Int32 → Int32 → Option (Int32 × ST)) (hh4 : ∀ (σ : ST) (x1 : Int32) (x2 : Int32) (x3 : Int32), hd4 σ x1 x2 x3 = some q → zJ X 5 (wdR adr cI cZ) (zi q) 4 [(0, .ref (adr 0)), (1, .int x1), (2, .int x2), (3, .int x3)] [] σ) (σ : ST) (x1 : Int32) (x2 : Int32) (x3 : Int32) (x4 : Int32) (k0 : Int32) (k1 : Int32) (hf : mR_streams_49 N hd4 σ x1 x2 x3 x4 k0 k1 = some q) : zJ X 5 (wdR adr cI cZ) (zi q) 49 [(0, .ref (adr 0)), (1, .int x1), (2, .int x2), (3, .int x3), (4, .int x4)] [.int k1, .int k0] σ := by
  refine z_iadd B dX8_streams_49 hf (fun v49 hf => ?_)
  refine z_istore_n B [(2, .int v49), (0, .ref (adr 0)), (1, .int x1), (3, .int x3), (4, .int x4)] dX8_streams_50 rfl (Nat.le_of_ble_eq_true rfl) rfl ?_
  refine z_iinc B (1) 3 (fun v51 => [(3, .int v51), (2, .int v49), (0, .ref (adr 0)), (1, .int x1), (4, .int x4)]) dX8_streams_51 hf zc_iconst_1 rfl (Nat.le_of_ble_eq_true rfl) (fun _ => rfl) (fun v51 hf => ?_)
  refine z_goto B 4 dX8_streams_54 (by decide) ?_
  exact z_loc [2, 3, 1, 0] _ rfl (hh4 σ x1 v49 v51 hf)
def mR_streams_48 (N : Nat) (hd4 : ST → Int32 → Int32 → Int32 → Option (Int32 × ST)) (σ : ST) (x1 : Int32) (x2 : Int32) (x3 : Int32) (x4 : Int32) (k0 : Int32) : Option (Int32 × ST) :=
  mR_streams_49 N hd4 σ x1 x2 x3 x4 k0 (0)
set_option maxRecDepth 20000 in
set_option maxHeartbeats 2000000 in
theorem tR_streams_48 {adr : Nat → Nat} {cI cZ : ClassId} {X : zX} {q : Int32 × ST} (B : zC X 5 (wdR adr cI cZ) cX8_streams RX8 (some .int) { frames := 1, cells := 0, slots := 0, locals := 20 }) (N : Nat) (hd4 : ST → Int32 → Int32 → Int32 → Option (Int32 × ST)) (hh4 : ∀ (σ : ST) (x1 : Int32) (x2 : Int32) (x3 : Int32), hd4 σ x1 x2 x3 = some q → zJ X 5 (wdR adr cI cZ) (zi q) 4 [(0, .ref (adr 0)), (1, .int x1), (2, .int x2), (3, .int x3)] [] σ) (σ : ST) (x1 : Int32) (x2 : Int32) (x3 : Int32) (x4 : Int32) (k0 : Int32) (hf : mR_streams_48 N hd4 σ x1 x2 x3 x4 k0 = some q) : zJ X 5 (wdR adr cI cZ) (zi q) 48 [(0, .ref (adr 0)), (1, .int x1), (2, .int x2), (3, .int x3), (4, .int x4)] [.int k0] σ := by
  refine z_iconst B (0) dX8_streams_48 zc_iconst_0 ?_
  exact tR_streams_49 B N hd4 hh4 σ x1 x2 x3 x4 k0 (0) hf
def mR_streams_44 (N : Nat) (hd4 : ST → Int32 → Int32 → Int32 → Option (Int32 × ST)) (σ : ST) (x1 : Int32) (x2 : Int32) (x3 : Int32) (x4 : Int32) (k0 : Int32) : Option (Int32 × ST) :=
  mR_streams_49 N hd4 σ x1 x2 x3 x4 k0 (1)
set_option maxRecDepth 20000 in
set_option maxHeartbeats 2000000 in
theorem tR_streams_44 {adr : Nat → Nat} {cI cZ : ClassId} {X : zX} {q : Int32 × ST} (B : zC X 5 (wdR adr cI cZ) cX8_streams RX8 (some .int) { frames := 1, cells := 0, slots := 0, locals := 20 }) (N : Nat) (hd4 : ST → Int32 → Int32 → Int32 → Option (Int32 × ST)) (hh4 : ∀ (σ : ST) (x1 : Int32) (x2 : Int32) (x3 : Int32), hd4 σ x1 x2 x3 = some q → zJ X 5 (wdR adr cI cZ) (zi q) 4 [(0, .ref (adr 0)), (1, .int x1), (2, .int x2), (3, .int x3)] [] σ) (σ : ST) (x1 : Int32) (x2 : Int32) (x3 : Int32) (x4 : Int32) (k0 : Int32) (hf : mR_streams_44 N hd4 σ x1 x2 x3 x4 k0 = some q) : zJ X 5 (wdR adr cI cZ) (zi q) 44 [(0, .ref (adr 0)), (1, .int x1), (2, .int x2), (3, .int x3), (4, .int x4)] [.int k0] σ := by
  refine z_iconst B (1) dX8_streams_44 zc_iconst_1 ?_
  refine z_goto B 49 dX8_streams_45 (by decide) ?_
  exact tR_streams_49 B N hd4 hh4 σ x1 x2 x3 x4 k0 (1) hf
def mR_streams_B4 (N : Nat) (hd4 : ST → Int32 → Int32 → Int32 → Option (Int32 × ST)) (σ : ST) (x1 : Int32) (x2 : Int32) (x3 : Int32) : Option (Int32 × ST) :=
  if ((6) : Int32) ≤ x3 then
    some (x2, σ)
  else
    zCall (mR_streamAt N σ x3) fun v11 s11 =>
    zGet (s11 1) 1974 v11 fun v23 =>
    if (v23 : Int32) = (1) then
      if (x1 : Int32) = 0 then
        mR_streams_44 N hd4 s11 x1 x2 x3 v11 x2
      else
        zLet ((v11 : Int32) + (5)) fun v39 =>
        zGet (s11 1) 1974 v39 fun v40 =>
        if (v40 : Int32) ≤ 0 then
          mR_streams_48 N hd4 s11 x1 x2 x3 v11 x2
        else
          mR_streams_44 N hd4 s11 x1 x2 x3 v11 x2
    else
      mR_streams_48 N hd4 s11 x1 x2 x3 v11 x2
def mR_streams_4 (N : Nat) : ST → Int32 → Int32 → Int32 → Option (Int32 × ST) := zIt (mR_streams_B4 N) (fun _ _ _ _ => none) N
set_option maxRecDepth 20000 in
set_option maxHeartbeats 2000000 in
theorem tR_streams_4 {adr : Nat → Nat} {cI cZ : ClassId} {X : zX} {q : Int32 × ST} (B : zC X 5 (wdR adr cI cZ) cX8_streams RX8 (some .int) { frames := 1, cells := 0, slots := 0, locals := 20 }) (N : Nat) : ∀ (σ : ST) (x1 : Int32) (x2 : Int32) (x3 : Int32), mR_streams_4 N σ x1 x2 x3 = some q → zJ X 5 (wdR adr cI cZ) (zi q) 4 [(0, .ref (adr 0)), (1, .int x1), (2, .int x2), (3, .int x3)] [] σ := by
  refine zIt_ind (P := fun (hd : ST → Int32 → Int32 → Int32 → Option (Int32 × ST)) => ∀ (σ : ST) (x1 : Int32) (x2 : Int32) (x3 : Int32), hd σ x1 x2 x3 = some q → zJ X 5 (wdR adr cI cZ) (zi q) 4 [(0, .ref (adr 0)), (1, .int x1), (2, .int x2), (3, .int x3)] [] σ) (fun _ _ _ _ hf => by cases hf) (fun hd4 hh4 => ?_) N
  intro σ x1 x2 x3 hf
  refine z_iload_n B dX8_streams_4 3 rfl rfl ?_
  refine z_bipush B (6) dX8_streams_5 zc_bipush_6 ?_
  refine z_icmp_ge B 57 dX8_streams_7 (by decide) hf (fun hf => ?_) (fun hf => ?_)
  · refine z_iload_n B dX8_streams_57 2 rfl rfl ?_
    exact z_ireturn B dX8_streams_58 hf
  · refine z_iload_n B dX8_streams_10 3 rfl rfl ?_
    refine z_callSi B (As := [.int x3]) kcS_X8_89 dX8_streams_11 hf (fun q hq => cR_streamAt q hq) rfl rfl (Nat.le_of_ble_eq_true rfl) rfl rfl ⟨Nat.le_of_ble_eq_true rfl, Nat.le_of_ble_eq_true rfl⟩ (fun v11 s11 hf => ?_)
    refine z_istore B [(4, .int v11), (0, .ref (adr 0)), (1, .int x1), (2, .int x2), (3, .int x3)] dX8_streams_14 (Nat.le_of_ble_eq_true rfl) rfl ?_
    refine z_iload_n B dX8_streams_16 3 rfl rfl ?_
    refine z_aload_n B dX8_streams_17 1 rfl rfl ?_
    refine fR_g_row B dX8_streams_18 ?_
    refine z_iload B dX8_streams_21 0 rfl ?_
    refine fR_l_row B dX8_streams_23 hf (fun v23 hf => ?_)
    refine z_iconst B (1) dX8_streams_24 zc_iconst_1 ?_
    refine z_icmp_ne B 48 dX8_streams_25 (by decide) hf (fun hf => ?_) (fun hf => ?_)
    · exact z_loc [1, 2, 3, 4, 0] _ rfl (tR_streams_48 B N hd4 hh4 s11 x1 x2 x3 v11 x2 hf)
    · refine z_iload_n B dX8_streams_28 2 rfl rfl ?_
      refine z_if_eq B 44 dX8_streams_29 (by decide) hf (fun hf => ?_) (fun hf => ?_)
      · exact z_loc [1, 2, 3, 4, 0] _ rfl (tR_streams_44 B N hd4 hh4 s11 x1 x2 x3 v11 x2 hf)
      · refine z_aload_n B dX8_streams_32 1 rfl rfl ?_
        refine fR_g_row B dX8_streams_33 ?_
        refine z_iload B dX8_streams_36 0 rfl ?_
        refine z_iconst B (5) dX8_streams_38 zc_iconst_5 ?_
        refine z_iadd B dX8_streams_39 hf (fun v39 hf => ?_)
        refine fR_l_row B dX8_streams_40 hf (fun v40 hf => ?_)
        refine z_if_le B 48 dX8_streams_41 (by decide) hf (fun hf => ?_) (fun hf => ?_)
        · exact z_loc [1, 2, 3, 4, 0] _ rfl (tR_streams_48 B N hd4 hh4 s11 x1 x2 x3 v11 x2 hf)
        · exact z_loc [1, 2, 3, 4, 0] _ rfl (tR_streams_44 B N hd4 hh4 s11 x1 x2 x3 v11 x2 hf)
def mR_streams (N : Nat) (σ : ST) (x1 : Int32) : Option (Int32 × ST) :=
  mR_streams_4 N σ x1 (0) (0)
set_option maxRecDepth 20000 in
set_option maxHeartbeats 2000000 in
theorem cR_streams {adr : Nat → Nat} {cI cZ : ClassId} {l : Launch} {D : va_G} {N : Nat} {σ : ST} {x1 : Int32} (q : Int32 × ST) (hf : mR_streams N σ x1 = some q) : zM l D (wdR adr cI cZ) yX8_streams cX8_streams 5 (some .int) ({ frames := 1, cells := 0, slots := 0, locals := 20 }) [.ref (adr 0), .int x1] σ (zi q) := by
  refine zM_of rfl (Nat.le_of_ble_eq_true rfl) [(0, .ref (adr 0)), (1, .int x1)] rfl (fun X hX1 hX2 B => ?_)
  have B : zC X 5 (wdR adr cI cZ) cX8_streams RX8 (some .int) { frames := 1, cells := 0, slots := 0, locals := 20 } := B
  refine z_iconst B (0) dX8_streams_0 zc_iconst_0 ?_
  refine z_istore_n B [(2, .int (0)), (0, .ref (adr 0)), (1, .int x1)] dX8_streams_1 rfl (Nat.le_of_ble_eq_true rfl) rfl ?_
  refine z_iconst B (0) dX8_streams_2 zc_iconst_0 ?_
  refine z_istore_n B [(3, .int (0)), (2, .int (0)), (0, .ref (adr 0)), (1, .int x1)] dX8_streams_3 rfl (Nat.le_of_ble_eq_true rfl) rfl ?_
  exact z_loc [2, 3, 1, 0] _ rfl (tR_streams_4 B N σ x1 (0) (0) hf)
theorem dX8_badOnes_0 : decode cX8_badOnes 0 = .ok (.iconst 0, 1) := by decide +kernel
theorem dX8_badOnes_1 : decode cX8_badOnes 1 = .ok (.istore_n 1, 1) := by decide +kernel
theorem dX8_badOnes_2 : decode cX8_badOnes 2 = .ok (.iconst 0, 1) := by decide +kernel
theorem dX8_badOnes_3 : decode cX8_badOnes 3 = .ok (.istore_n 2, 1) := by decide +kernel
theorem dX8_badOnes_4 : decode cX8_badOnes 4 = .ok (.iload_n 2, 1) := by decide +kernel
theorem dX8_badOnes_5 : decode cX8_badOnes 5 = .ok (.aload_n 0, 1) := by decide +kernel
theorem dX8_badOnes_6 : decode cX8_badOnes 6 = .ok (.getfield 9, 3) := by decide +kernel
theorem dX8_badOnes_9 : decode cX8_badOnes 9 = .ok (.bipush 7, 2) := by decide +kernel
theorem dX8_badOnes_11 : decode cX8_badOnes 11 = .ok (.iaload, 1) := by decide +kernel
theorem dX8_badOnes_12 : decode cX8_badOnes 12 = .ok (.if_icmp .ge 26, 3) := by decide +kernel
theorem dX8_badOnes_15 : decode cX8_badOnes 15 = .ok (.iload_n 1, 1) := by decide +kernel
theorem dX8_badOnes_16 : decode cX8_badOnes 16 = .ok (.aload_n 0, 1) := by decide +kernel
theorem dX8_badOnes_17 : decode cX8_badOnes 17 = .ok (.getfield 24, 3) := by decide +kernel
theorem dX8_badOnes_20 : decode cX8_badOnes 20 = .ok (.iload_n 2, 1) := by decide +kernel
theorem dX8_badOnes_21 : decode cX8_badOnes 21 = .ok (.baload, 1) := by decide +kernel
theorem dX8_badOnes_22 : decode cX8_badOnes 22 = .ok (.ifCond .eq 7, 3) := by decide +kernel
theorem dX8_badOnes_25 : decode cX8_badOnes 25 = .ok (.iconst 1, 1) := by decide +kernel
theorem dX8_badOnes_26 : decode cX8_badOnes 26 = .ok (.goto 4, 3) := by decide +kernel
theorem dX8_badOnes_29 : decode cX8_badOnes 29 = .ok (.iconst 0, 1) := by decide +kernel
theorem dX8_badOnes_30 : decode cX8_badOnes 30 = .ok (.iadd, 1) := by decide +kernel
theorem dX8_badOnes_31 : decode cX8_badOnes 31 = .ok (.istore_n 1, 1) := by decide +kernel
theorem dX8_badOnes_32 : decode cX8_badOnes 32 = .ok (.iinc 2 1, 3) := by decide +kernel
theorem dX8_badOnes_35 : decode cX8_badOnes 35 = .ok (.goto (-31), 3) := by decide +kernel
theorem dX8_badOnes_38 : decode cX8_badOnes 38 = .ok (.iload_n 1, 1) := by decide +kernel
theorem dX8_badOnes_39 : decode cX8_badOnes 39 = .ok (.ireturn, 1) := by decide +kernel
def mR_badOnes_30 (N : Nat) (hd4 : ST → Int32 → Int32 → Option (Int32 × ST)) (σ : ST) (x1 : Int32) (x2 : Int32) (k0 : Int32) (k1 : Int32) : Option (Int32 × ST) :=
  zLet ((k0 : Int32) + k1) fun v30 =>
  zLet (x2 + (1)) fun v32 =>
  hd4 σ v30 v32
set_option maxRecDepth 20000 in
set_option maxHeartbeats 2000000 in
theorem tR_badOnes_30 {adr : Nat → Nat} {cI cZ : ClassId} {X : zX} {q : Int32 × ST} (B : zC X 3 (wdR adr cI cZ) cX8_badOnes RX8 (some .int) { frames := 0, cells := 0, slots := 0, locals := 0 }) (N : Nat) (hd4 : ST → Int32 → Int32 → Option (Int32 × ST)) (hh4 : ∀ (σ : ST) (x1 : Int32) (x2 : Int32), hd4 σ x1 x2 = some q → zJ X 3 (wdR adr cI cZ) (zi q) 4 [(0, .ref (adr 0)), (1, .int x1), (2, .int x2)] [] σ) (σ : ST) (x1 : Int32) (x2 : Int32) (k0 : Int32) (k1 : Int32) (hf : mR_badOnes_30 N hd4 σ x1 x2 k0 k1 = some q) : zJ X 3 (wdR adr cI cZ) (zi q) 30 [(0, .ref (adr 0)), (1, .int x1), (2, .int x2)] [.int k1, .int k0] σ := by
  refine z_iadd B dX8_badOnes_30 hf (fun v30 hf => ?_)
  refine z_istore_n B [(1, .int v30), (0, .ref (adr 0)), (2, .int x2)] dX8_badOnes_31 rfl (Nat.le_of_ble_eq_true rfl) rfl ?_
  refine z_iinc B (1) 2 (fun v32 => [(2, .int v32), (1, .int v30), (0, .ref (adr 0))]) dX8_badOnes_32 hf zc_iconst_1 rfl (Nat.le_of_ble_eq_true rfl) (fun _ => rfl) (fun v32 hf => ?_)
  refine z_goto B 4 dX8_badOnes_35 (by decide) ?_
  exact z_loc [2, 1, 0] _ rfl (hh4 σ v30 v32 hf)
def mR_badOnes_B4 (N : Nat) (hd4 : ST → Int32 → Int32 → Option (Int32 × ST)) (σ : ST) (x1 : Int32) (x2 : Int32) : Option (Int32 × ST) :=
  zGet (σ 1) 1974 (7) fun v11 =>
  if (v11 : Int32) ≤ x2 then
    some (x1, σ)
  else
    zGet (σ 5) 10000 x2 fun v21 =>
    if (v21 : Int32) = 0 then
      mR_badOnes_30 N hd4 σ x1 x2 x1 (0)
    else
      mR_badOnes_30 N hd4 σ x1 x2 x1 (1)
def mR_badOnes_4 (N : Nat) : ST → Int32 → Int32 → Option (Int32 × ST) := zIt (mR_badOnes_B4 N) (fun _ _ _ => none) N
set_option maxRecDepth 20000 in
set_option maxHeartbeats 2000000 in
theorem tR_badOnes_4 {adr : Nat → Nat} {cI cZ : ClassId} {X : zX} {q : Int32 × ST} (B : zC X 3 (wdR adr cI cZ) cX8_badOnes RX8 (some .int) { frames := 0, cells := 0, slots := 0, locals := 0 }) (N : Nat) : ∀ (σ : ST) (x1 : Int32) (x2 : Int32), mR_badOnes_4 N σ x1 x2 = some q → zJ X 3 (wdR adr cI cZ) (zi q) 4 [(0, .ref (adr 0)), (1, .int x1), (2, .int x2)] [] σ := by
  refine zIt_ind (P := fun (hd : ST → Int32 → Int32 → Option (Int32 × ST)) => ∀ (σ : ST) (x1 : Int32) (x2 : Int32), hd σ x1 x2 = some q → zJ X 3 (wdR adr cI cZ) (zi q) 4 [(0, .ref (adr 0)), (1, .int x1), (2, .int x2)] [] σ) (fun _ _ _ hf => by cases hf) (fun hd4 hh4 => ?_) N
  intro σ x1 x2 hf
  refine z_iload_n B dX8_badOnes_4 2 rfl rfl ?_
  refine z_aload_n B dX8_badOnes_5 0 rfl rfl ?_
  refine fR_g_row B dX8_badOnes_6 ?_
  refine z_bipush B (7) dX8_badOnes_9 zc_bipush_7 ?_
  refine fR_l_row B dX8_badOnes_11 hf (fun v11 hf => ?_)
  refine z_icmp_ge B 38 dX8_badOnes_12 (by decide) hf (fun hf => ?_) (fun hf => ?_)
  · refine z_iload_n B dX8_badOnes_38 1 rfl rfl ?_
    exact z_ireturn B dX8_badOnes_39 hf
  · refine z_iload_n B dX8_badOnes_15 1 rfl rfl ?_
    refine z_aload_n B dX8_badOnes_16 0 rfl rfl ?_
    refine fR_g_isBad B dX8_badOnes_17 ?_
    refine z_iload_n B dX8_badOnes_20 2 rfl rfl ?_
    refine fR_l_isBad B dX8_badOnes_21 hf (fun v21 hf => ?_)
    refine z_if_eq B 29 dX8_badOnes_22 (by decide) hf (fun hf => ?_) (fun hf => ?_)
    · refine z_iconst B (0) dX8_badOnes_29 zc_iconst_0 ?_
      exact tR_badOnes_30 B N hd4 hh4 σ x1 x2 x1 (0) hf
    · refine z_iconst B (1) dX8_badOnes_25 zc_iconst_1 ?_
      refine z_goto B 30 dX8_badOnes_26 (by decide) ?_
      exact tR_badOnes_30 B N hd4 hh4 σ x1 x2 x1 (1) hf
def mR_badOnes (N : Nat) (σ : ST) : Option (Int32 × ST) :=
  mR_badOnes_4 N σ (0) (0)
set_option maxRecDepth 20000 in
set_option maxHeartbeats 2000000 in
theorem cR_badOnes {adr : Nat → Nat} {cI cZ : ClassId} {l : Launch} {D : va_G} {N : Nat} {σ : ST} (q : Int32 × ST) (hf : mR_badOnes N σ = some q) : zM l D (wdR adr cI cZ) yX8_badOnes cX8_badOnes 3 (some .int) ({ frames := 0, cells := 0, slots := 0, locals := 0 }) [.ref (adr 0)] σ (zi q) := by
  refine zM_of rfl (Nat.le_of_ble_eq_true rfl) [(0, .ref (adr 0))] rfl (fun X hX1 hX2 B => ?_)
  have B : zC X 3 (wdR adr cI cZ) cX8_badOnes RX8 (some .int) { frames := 0, cells := 0, slots := 0, locals := 0 } := B
  refine z_iconst B (0) dX8_badOnes_0 zc_iconst_0 ?_
  refine z_istore_n B [(1, .int (0)), (0, .ref (adr 0))] dX8_badOnes_1 rfl (Nat.le_of_ble_eq_true rfl) rfl ?_
  refine z_iconst B (0) dX8_badOnes_2 zc_iconst_0 ?_
  refine z_istore_n B [(2, .int (0)), (1, .int (0)), (0, .ref (adr 0))] dX8_badOnes_3 rfl (Nat.le_of_ble_eq_true rfl) rfl ?_
  exact z_loc [2, 1, 0] _ rfl (tR_badOnes_4 B N σ (0) (0) hf)
theorem dX8_in_0 : decode cX8_in 0 = .ok (.lload_n 0, 1) := by decide +kernel
theorem dX8_in_1 : decode cX8_in 1 = .ok (.lload_n 2, 1) := by decide +kernel
theorem dX8_in_2 : decode cX8_in 2 = .ok (.lcmp, 1) := by decide +kernel
theorem dX8_in_3 : decode cX8_in 3 = .ok (.ifCond .lt 14, 3) := by decide +kernel
theorem dX8_in_6 : decode cX8_in 6 = .ok (.lload_n 0, 1) := by decide +kernel
theorem dX8_in_7 : decode cX8_in 7 = .ok (.lload 4, 2) := by decide +kernel
theorem dX8_in_9 : decode cX8_in 9 = .ok (.lcmp, 1) := by decide +kernel
theorem dX8_in_10 : decode cX8_in 10 = .ok (.ifCond .gt 7, 3) := by decide +kernel
theorem dX8_in_13 : decode cX8_in 13 = .ok (.iconst 1, 1) := by decide +kernel
theorem dX8_in_14 : decode cX8_in 14 = .ok (.goto 4, 3) := by decide +kernel
theorem dX8_in_17 : decode cX8_in 17 = .ok (.iconst 0, 1) := by decide +kernel
theorem dX8_in_18 : decode cX8_in 18 = .ok (.ireturn, 1) := by decide +kernel
def mR_in_18 (N : Nat) (σ : ST) (x0 : Int64) (x2 : Int64) (x4 : Int64) (k0 : Int32) : Option (Int32 × ST) :=
  zBool k0 (some (k0, σ))
set_option maxRecDepth 20000 in
set_option maxHeartbeats 2000000 in
theorem tR_in_18 {adr : Nat → Nat} {cI cZ : ClassId} {X : zX} {q : Int32 × ST} (B : zC X 6 (wdR adr cI cZ) cX8_in RX8 (some .boolean) { frames := 0, cells := 0, slots := 0, locals := 0 }) (N : Nat) (σ : ST) (x0 : Int64) (x2 : Int64) (x4 : Int64) (k0 : Int32) (hf : mR_in_18 N σ x0 x2 x4 k0 = some q) : zJ X 6 (wdR adr cI cZ) (zi q) 18 [(0, .long x0), (2, .long x2), (4, .long x4)] [.int k0] σ := by
  exact z_zreturn B dX8_in_18 hf
def mR_in_17 (N : Nat) (σ : ST) (x0 : Int64) (x2 : Int64) (x4 : Int64) : Option (Int32 × ST) :=
  mR_in_18 N σ x0 x2 x4 (0)
set_option maxRecDepth 20000 in
set_option maxHeartbeats 2000000 in
theorem tR_in_17 {adr : Nat → Nat} {cI cZ : ClassId} {X : zX} {q : Int32 × ST} (B : zC X 6 (wdR adr cI cZ) cX8_in RX8 (some .boolean) { frames := 0, cells := 0, slots := 0, locals := 0 }) (N : Nat) (σ : ST) (x0 : Int64) (x2 : Int64) (x4 : Int64) (hf : mR_in_17 N σ x0 x2 x4 = some q) : zJ X 6 (wdR adr cI cZ) (zi q) 17 [(0, .long x0), (2, .long x2), (4, .long x4)] [] σ := by
  refine z_iconst B (0) dX8_in_17 zc_iconst_0 ?_
  exact tR_in_18 B N σ x0 x2 x4 (0) hf
def mR_in (N : Nat) (σ : ST) (x0 : Int64) (x2 : Int64) (x4 : Int64) : Option (Int32 × ST) :=
  zLet (lg_cmp x0 x2) fun v2 =>
  if (v2 : Int32) < 0 then
    mR_in_17 N σ x0 x2 x4
  else
    zLet (lg_cmp x0 x4) fun v9 =>
    if (0 : Int32) < v9 then
      mR_in_17 N σ x0 x2 x4
    else
      mR_in_18 N σ x0 x2 x4 (1)
set_option maxRecDepth 20000 in
set_option maxHeartbeats 2000000 in
theorem cR_in {adr : Nat → Nat} {cI cZ : ClassId} {l : Launch} {D : va_G} {N : Nat} {σ : ST} {x0 : Int64} {x2 : Int64} {x4 : Int64} (q : Int32 × ST) (hf : mR_in N σ x0 x2 x4 = some q) : zM l D (wdR adr cI cZ) yX8_in cX8_in 6 (some .boolean) ({ frames := 0, cells := 0, slots := 0, locals := 0 }) [.long x0, .long x2, .long x4] σ (zi q) := by
  refine zM_of rfl (Nat.le_of_ble_eq_true rfl) [(0, .long x0), (2, .long x2), (4, .long x4)] rfl (fun X hX1 hX2 B => ?_)
  have B : zC X 6 (wdR adr cI cZ) cX8_in RX8 (some .boolean) { frames := 0, cells := 0, slots := 0, locals := 0 } := B
  refine z_lload_n B dX8_in_0 0 rfl rfl ?_
  refine z_lload_n B dX8_in_1 1 rfl rfl ?_
  refine z_lcmp B dX8_in_2 hf (fun v2 hf => ?_)
  refine z_if_lt B 17 dX8_in_3 (by decide) hf (fun hf => ?_) (fun hf => ?_)
  · exact tR_in_17 B N σ x0 x2 x4 hf
  · refine z_lload_n B dX8_in_6 0 rfl rfl ?_
    refine z_lload B dX8_in_7 2 rfl ?_
    refine z_lcmp B dX8_in_9 hf (fun v9 hf => ?_)
    refine z_if_gt B 17 dX8_in_10 (by decide) hf (fun hf => ?_) (fun hf => ?_)
    · exact tR_in_17 B N σ x0 x2 x4 hf
    · refine z_iconst B (1) dX8_in_13 zc_iconst_1 ?_
      refine z_goto B 18 dX8_in_14 (by decide) ?_
      exact tR_in_18 B N σ x0 x2 x4 (1) hf
theorem dX8_tells_0 : decode cX8_tells 0 = .ok (.iload_n 1, 1) := by decide +kernel
theorem dX8_tells_1 : decode cX8_tells 1 = .ok (.tableswitch 210 10 33 #[111, 116, 121, 127, 133, 141, 149, 157, 165, 170, 210, 210, 210, 210, 210, 210, 210, 210, 210, 210, 178, 186, 194, 202], 111) := by decide +kernel
theorem dX8_tells_112 : decode cX8_tells 112 = .ok (.aload_n 0, 1) := by decide +kernel
theorem dX8_tells_113 : decode cX8_tells 113 = .ok (.invokevirtual 110, 3) := by decide +kernel
theorem dX8_tells_116 : decode cX8_tells 116 = .ok (.ireturn, 1) := by decide +kernel
theorem dX8_tells_117 : decode cX8_tells 117 = .ok (.aload_n 0, 1) := by decide +kernel
theorem dX8_tells_118 : decode cX8_tells 118 = .ok (.invokevirtual 102, 3) := by decide +kernel
theorem dX8_tells_121 : decode cX8_tells 121 = .ok (.ireturn, 1) := by decide +kernel
theorem dX8_tells_122 : decode cX8_tells 122 = .ok (.aload_n 0, 1) := by decide +kernel
theorem dX8_tells_123 : decode cX8_tells 123 = .ok (.iconst 0, 1) := by decide +kernel
theorem dX8_tells_124 : decode cX8_tells 124 = .ok (.invokevirtual 307, 3) := by decide +kernel
theorem dX8_tells_127 : decode cX8_tells 127 = .ok (.ireturn, 1) := by decide +kernel
theorem dX8_tells_128 : decode cX8_tells 128 = .ok (.aload_n 0, 1) := by decide +kernel
theorem dX8_tells_129 : decode cX8_tells 129 = .ok (.iconst 1, 1) := by decide +kernel
theorem dX8_tells_130 : decode cX8_tells 130 = .ok (.invokevirtual 307, 3) := by decide +kernel
theorem dX8_tells_133 : decode cX8_tells 133 = .ok (.ireturn, 1) := by decide +kernel
theorem dX8_tells_134 : decode cX8_tells 134 = .ok (.aload_n 0, 1) := by decide +kernel
theorem dX8_tells_135 : decode cX8_tells 135 = .ok (.getfield 9, 3) := by decide +kernel
theorem dX8_tells_138 : decode cX8_tells 138 = .ok (.bipush 20, 2) := by decide +kernel
theorem dX8_tells_140 : decode cX8_tells 140 = .ok (.iaload, 1) := by decide +kernel
theorem dX8_tells_141 : decode cX8_tells 141 = .ok (.ireturn, 1) := by decide +kernel
theorem dX8_tells_142 : decode cX8_tells 142 = .ok (.aload_n 0, 1) := by decide +kernel
theorem dX8_tells_143 : decode cX8_tells 143 = .ok (.getfield 9, 3) := by decide +kernel
theorem dX8_tells_146 : decode cX8_tells 146 = .ok (.bipush 21, 2) := by decide +kernel
theorem dX8_tells_148 : decode cX8_tells 148 = .ok (.iaload, 1) := by decide +kernel
theorem dX8_tells_149 : decode cX8_tells 149 = .ok (.ireturn, 1) := by decide +kernel
theorem dX8_tells_150 : decode cX8_tells 150 = .ok (.aload_n 0, 1) := by decide +kernel
theorem dX8_tells_151 : decode cX8_tells 151 = .ok (.getfield 9, 3) := by decide +kernel
theorem dX8_tells_154 : decode cX8_tells 154 = .ok (.bipush 22, 2) := by decide +kernel
theorem dX8_tells_156 : decode cX8_tells 156 = .ok (.iaload, 1) := by decide +kernel
theorem dX8_tells_157 : decode cX8_tells 157 = .ok (.ireturn, 1) := by decide +kernel
theorem dX8_tells_158 : decode cX8_tells 158 = .ok (.aload_n 0, 1) := by decide +kernel
theorem dX8_tells_159 : decode cX8_tells 159 = .ok (.getfield 9, 3) := by decide +kernel
theorem dX8_tells_162 : decode cX8_tells 162 = .ok (.bipush 23, 2) := by decide +kernel
theorem dX8_tells_164 : decode cX8_tells 164 = .ok (.iaload, 1) := by decide +kernel
theorem dX8_tells_165 : decode cX8_tells 165 = .ok (.ireturn, 1) := by decide +kernel
theorem dX8_tells_166 : decode cX8_tells 166 = .ok (.aload_n 0, 1) := by decide +kernel
theorem dX8_tells_167 : decode cX8_tells 167 = .ok (.invokevirtual 311, 3) := by decide +kernel
theorem dX8_tells_170 : decode cX8_tells 170 = .ok (.ireturn, 1) := by decide +kernel
theorem dX8_tells_171 : decode cX8_tells 171 = .ok (.aload_n 0, 1) := by decide +kernel
theorem dX8_tells_172 : decode cX8_tells 172 = .ok (.getfield 9, 3) := by decide +kernel
theorem dX8_tells_175 : decode cX8_tells 175 = .ok (.bipush 24, 2) := by decide +kernel
theorem dX8_tells_177 : decode cX8_tells 177 = .ok (.iaload, 1) := by decide +kernel
theorem dX8_tells_178 : decode cX8_tells 178 = .ok (.ireturn, 1) := by decide +kernel
theorem dX8_tells_179 : decode cX8_tells 179 = .ok (.aload_n 0, 1) := by decide +kernel
theorem dX8_tells_180 : decode cX8_tells 180 = .ok (.getfield 9, 3) := by decide +kernel
theorem dX8_tells_183 : decode cX8_tells 183 = .ok (.bipush 25, 2) := by decide +kernel
theorem dX8_tells_185 : decode cX8_tells 185 = .ok (.iaload, 1) := by decide +kernel
theorem dX8_tells_186 : decode cX8_tells 186 = .ok (.ireturn, 1) := by decide +kernel
theorem dX8_tells_187 : decode cX8_tells 187 = .ok (.aload_n 0, 1) := by decide +kernel
theorem dX8_tells_188 : decode cX8_tells 188 = .ok (.getfield 9, 3) := by decide +kernel
theorem dX8_tells_191 : decode cX8_tells 191 = .ok (.bipush 26, 2) := by decide +kernel
theorem dX8_tells_193 : decode cX8_tells 193 = .ok (.iaload, 1) := by decide +kernel
theorem dX8_tells_194 : decode cX8_tells 194 = .ok (.ireturn, 1) := by decide +kernel
theorem dX8_tells_195 : decode cX8_tells 195 = .ok (.aload_n 0, 1) := by decide +kernel
theorem dX8_tells_196 : decode cX8_tells 196 = .ok (.getfield 9, 3) := by decide +kernel
theorem dX8_tells_199 : decode cX8_tells 199 = .ok (.bipush 27, 2) := by decide +kernel
theorem dX8_tells_201 : decode cX8_tells 201 = .ok (.iaload, 1) := by decide +kernel
theorem dX8_tells_202 : decode cX8_tells 202 = .ok (.ireturn, 1) := by decide +kernel
theorem dX8_tells_203 : decode cX8_tells 203 = .ok (.aload_n 0, 1) := by decide +kernel
theorem dX8_tells_204 : decode cX8_tells 204 = .ok (.getfield 9, 3) := by decide +kernel
theorem dX8_tells_207 : decode cX8_tells 207 = .ok (.bipush 28, 2) := by decide +kernel
theorem dX8_tells_209 : decode cX8_tells 209 = .ok (.iaload, 1) := by decide +kernel
theorem dX8_tells_210 : decode cX8_tells 210 = .ok (.ireturn, 1) := by decide +kernel
theorem dX8_tells_211 : decode cX8_tells 211 = .ok (.iload_n 1, 1) := by decide +kernel
theorem dX8_tells_212 : decode cX8_tells 212 = .ok (.i2l, 1) := by decide +kernel
theorem dX8_tells_213 : decode cX8_tells 213 = .ok (.lconst 0, 1) := by decide +kernel
theorem dX8_tells_214 : decode cX8_tells 214 = .ok (.ldc2_w 79, 3) := by decide +kernel
theorem dX8_tells_217 : decode cX8_tells 217 = .ok (.invokestatic 71, 3) := by decide +kernel
theorem dX8_tells_220 : decode cX8_tells 220 = .ok (.ifCond .eq 15, 3) := by decide +kernel
theorem dX8_tells_223 : decode cX8_tells 223 = .ok (.aload_n 0, 1) := by decide +kernel
theorem dX8_tells_224 : decode cX8_tells 224 = .ok (.getfield 9, 3) := by decide +kernel
theorem dX8_tells_227 : decode cX8_tells 227 = .ok (.bipush 10, 2) := by decide +kernel
theorem dX8_tells_229 : decode cX8_tells 229 = .ok (.iload_n 1, 1) := by decide +kernel
theorem dX8_tells_230 : decode cX8_tells 230 = .ok (.iadd, 1) := by decide +kernel
theorem dX8_tells_231 : decode cX8_tells 231 = .ok (.iaload, 1) := by decide +kernel
theorem dX8_tells_232 : decode cX8_tells 232 = .ok (.goto 30, 3) := by decide +kernel
theorem dX8_tells_235 : decode cX8_tells 235 = .ok (.iload_n 1, 1) := by decide +kernel
theorem dX8_tells_236 : decode cX8_tells 236 = .ok (.i2l, 1) := by decide +kernel
theorem dX8_tells_237 : decode cX8_tells 237 = .ok (.ldc2_w 208, 3) := by decide +kernel
theorem dX8_tells_240 : decode cX8_tells 240 = .ok (.ldc2_w 314, 3) := by decide +kernel
theorem dX8_tells_243 : decode cX8_tells 243 = .ok (.invokestatic 71, 3) := by decide +kernel
theorem dX8_tells_246 : decode cX8_tells 246 = .ok (.ifCond .eq 15, 3) := by decide +kernel
theorem dX8_tells_249 : decode cX8_tells 249 = .ok (.aload_n 0, 1) := by decide +kernel
theorem dX8_tells_250 : decode cX8_tells 250 = .ok (.getfield 9, 3) := by decide +kernel
theorem dX8_tells_253 : decode cX8_tells 253 = .ok (.iload_n 1, 1) := by decide +kernel
theorem dX8_tells_254 : decode cX8_tells 254 = .ok (.bipush 20, 2) := by decide +kernel
theorem dX8_tells_256 : decode cX8_tells 256 = .ok (.isub, 1) := by decide +kernel
theorem dX8_tells_257 : decode cX8_tells 257 = .ok (.iaload, 1) := by decide +kernel
theorem dX8_tells_258 : decode cX8_tells 258 = .ok (.goto 4, 3) := by decide +kernel
theorem dX8_tells_261 : decode cX8_tells 261 = .ok (.iconst (-1), 1) := by decide +kernel
theorem dX8_tells_262 : decode cX8_tells 262 = .ok (.ireturn, 1) := by decide +kernel
def mR_tells_262 (N : Nat) (σ : ST) (x1 : Int32) (k0 : Int32) : Option (Int32 × ST) :=
  some (k0, σ)
set_option maxRecDepth 20000 in
set_option maxHeartbeats 2000000 in
theorem tR_tells_262 {adr : Nat → Nat} {cI cZ : ClassId} {X : zX} {q : Int32 × ST} (B : zC X 2 (wdR adr cI cZ) cX8_tells RX8 (some .int) { frames := 2, cells := 0, slots := 0, locals := 44 }) (N : Nat) (σ : ST) (x1 : Int32) (k0 : Int32) (hf : mR_tells_262 N σ x1 k0 = some q) : zJ X 2 (wdR adr cI cZ) (zi q) 262 [(0, .ref (adr 0)), (1, .int x1)] [.int k0] σ := by
  exact z_ireturn B dX8_tells_262 hf
def mR_tells (N : Nat) (σ : ST) (x1 : Int32) : Option (Int32 × ST) :=
  if (x1 : Int32) = (10) then
    zCall (mR_many N σ) fun v113 s113 =>
    some (v113, s113)
  else
  if (x1 : Int32) = (11) then
    zCall (mR_manyAhead N σ) fun v118 s118 =>
    some (v118, s118)
  else
  if (x1 : Int32) = (12) then
    zCall (mR_streams N σ (0)) fun v124 s124 =>
    some (v124, s124)
  else
  if (x1 : Int32) = (13) then
    zCall (mR_streams N σ (1)) fun v130 s130 =>
    some (v130, s130)
  else
  if (x1 : Int32) = (14) then
    zGet (σ 1) 1974 (20) fun v140 =>
    some (v140, σ)
  else
  if (x1 : Int32) = (15) then
    zGet (σ 1) 1974 (21) fun v148 =>
    some (v148, σ)
  else
  if (x1 : Int32) = (16) then
    zGet (σ 1) 1974 (22) fun v156 =>
    some (v156, σ)
  else
  if (x1 : Int32) = (17) then
    zGet (σ 1) 1974 (23) fun v164 =>
    some (v164, σ)
  else
  if (x1 : Int32) = (18) then
    zCall (mR_badOnes N σ) fun v167 s167 =>
    some (v167, s167)
  else
  if (x1 : Int32) = (19) then
    zGet (σ 1) 1974 (24) fun v177 =>
    some (v177, σ)
  else
  if (x1 : Int32) = (30) then
    zGet (σ 1) 1974 (25) fun v185 =>
    some (v185, σ)
  else
  if (x1 : Int32) = (31) then
    zGet (σ 1) 1974 (26) fun v193 =>
    some (v193, σ)
  else
  if (x1 : Int32) = (32) then
    zGet (σ 1) 1974 (27) fun v201 =>
    some (v201, σ)
  else
  if (x1 : Int32) = (33) then
    zGet (σ 1) 1974 (28) fun v209 =>
    some (v209, σ)
  else
    zLet ((x1 : Int32).toInt64) fun v212 =>
    zCall (mR_in N σ v212 (0) (9)) fun v217 s217 =>
    if (v217 : Int32) = 0 then
      zLet ((x1 : Int32).toInt64) fun v236 =>
      zCall (mR_in N s217 v236 (20) (29)) fun v243 s243 =>
      if (v243 : Int32) = 0 then
        mR_tells_262 N s243 x1 (-1)
      else
        zLet ((x1 : Int32) - (20)) fun v256 =>
        zGet (s243 1) 1974 v256 fun v257 =>
        mR_tells_262 N s243 x1 v257
    else
      zLet (((10) : Int32) + x1) fun v230 =>
      zGet (s217 1) 1974 v230 fun v231 =>
      mR_tells_262 N s217 x1 v231
set_option maxRecDepth 20000 in
set_option maxHeartbeats 2000000 in
theorem cR_tells {adr : Nat → Nat} {cI cZ : ClassId} {l : Launch} {D : va_G} {N : Nat} {σ : ST} {x1 : Int32} (q : Int32 × ST) (hf : mR_tells N σ x1 = some q) : zM l D (wdR adr cI cZ) yX8_tells cX8_tells 2 (some .int) ({ frames := 2, cells := 0, slots := 0, locals := 44 }) [.ref (adr 0), .int x1] σ (zi q) := by
  refine zM_of rfl (Nat.le_of_ble_eq_true rfl) [(0, .ref (adr 0)), (1, .int x1)] rfl (fun X hX1 hX2 B => ?_)
  have B : zC X 2 (wdR adr cI cZ) cX8_tells RX8 (some .int) { frames := 2, cells := 0, slots := 0, locals := 44 } := B
  refine z_iload_n B dX8_tells_0 1 rfl rfl ?_
  by_cases h1_10 : x1 = (10)
  · replace hf := zIfp h1_10 hf
    refine z_tabIn B (off := 111) 112 dX8_tells_1 (by rw [h1_10]; decide) (by rw [h1_10]; decide) (by rw [h1_10]; decide) (by decide) ?_
    refine z_aload_n B dX8_tells_112 0 rfl rfl ?_
    refine z_callVi B (As := []) kcV_X8_110 dX8_tells_113 hf (fun q hq => cR_many q hq) (wR_o (adr := adr) (cI := cI) (cZ := cZ)) rfl rfl rfl rfl (Nat.le_of_ble_eq_true rfl) rfl rfl ⟨Nat.le_of_ble_eq_true rfl, Nat.le_of_ble_eq_true rfl⟩ (fun v113 s113 hf => ?_)
    exact z_ireturn B dX8_tells_116 hf
  replace hf := zIfn h1_10 hf
  by_cases h1_11 : x1 = (11)
  · replace hf := zIfp h1_11 hf
    refine z_tabIn B (off := 116) 117 dX8_tells_1 (by rw [h1_11]; decide) (by rw [h1_11]; decide) (by rw [h1_11]; decide) (by decide) ?_
    refine z_aload_n B dX8_tells_117 0 rfl rfl ?_
    refine z_callVi B (As := []) kcV_X8_102 dX8_tells_118 hf (fun q hq => cR_manyAhead q hq) (wR_o (adr := adr) (cI := cI) (cZ := cZ)) rfl rfl rfl rfl (Nat.le_of_ble_eq_true rfl) rfl rfl ⟨Nat.le_of_ble_eq_true rfl, Nat.le_of_ble_eq_true rfl⟩ (fun v118 s118 hf => ?_)
    exact z_ireturn B dX8_tells_121 hf
  replace hf := zIfn h1_11 hf
  by_cases h1_12 : x1 = (12)
  · replace hf := zIfp h1_12 hf
    refine z_tabIn B (off := 121) 122 dX8_tells_1 (by rw [h1_12]; decide) (by rw [h1_12]; decide) (by rw [h1_12]; decide) (by decide) ?_
    refine z_aload_n B dX8_tells_122 0 rfl rfl ?_
    refine z_iconst B (0) dX8_tells_123 zc_iconst_0 ?_
    refine z_callVi B (As := [.int (0)]) kcV_X8_307 dX8_tells_124 hf (fun q hq => cR_streams q hq) (wR_o (adr := adr) (cI := cI) (cZ := cZ)) rfl rfl rfl rfl (Nat.le_of_ble_eq_true rfl) rfl rfl ⟨Nat.le_of_ble_eq_true rfl, Nat.le_of_ble_eq_true rfl⟩ (fun v124 s124 hf => ?_)
    exact z_ireturn B dX8_tells_127 hf
  replace hf := zIfn h1_12 hf
  by_cases h1_13 : x1 = (13)
  · replace hf := zIfp h1_13 hf
    refine z_tabIn B (off := 127) 128 dX8_tells_1 (by rw [h1_13]; decide) (by rw [h1_13]; decide) (by rw [h1_13]; decide) (by decide) ?_
    refine z_aload_n B dX8_tells_128 0 rfl rfl ?_
    refine z_iconst B (1) dX8_tells_129 zc_iconst_1 ?_
    refine z_callVi B (As := [.int (1)]) kcV_X8_307 dX8_tells_130 hf (fun q hq => cR_streams q hq) (wR_o (adr := adr) (cI := cI) (cZ := cZ)) rfl rfl rfl rfl (Nat.le_of_ble_eq_true rfl) rfl rfl ⟨Nat.le_of_ble_eq_true rfl, Nat.le_of_ble_eq_true rfl⟩ (fun v130 s130 hf => ?_)
    exact z_ireturn B dX8_tells_133 hf
  replace hf := zIfn h1_13 hf
  by_cases h1_14 : x1 = (14)
  · replace hf := zIfp h1_14 hf
    refine z_tabIn B (off := 133) 134 dX8_tells_1 (by rw [h1_14]; decide) (by rw [h1_14]; decide) (by rw [h1_14]; decide) (by decide) ?_
    refine z_aload_n B dX8_tells_134 0 rfl rfl ?_
    refine fR_g_row B dX8_tells_135 ?_
    refine z_bipush B (20) dX8_tells_138 zc_bipush_20 ?_
    refine fR_l_row B dX8_tells_140 hf (fun v140 hf => ?_)
    exact z_ireturn B dX8_tells_141 hf
  replace hf := zIfn h1_14 hf
  by_cases h1_15 : x1 = (15)
  · replace hf := zIfp h1_15 hf
    refine z_tabIn B (off := 141) 142 dX8_tells_1 (by rw [h1_15]; decide) (by rw [h1_15]; decide) (by rw [h1_15]; decide) (by decide) ?_
    refine z_aload_n B dX8_tells_142 0 rfl rfl ?_
    refine fR_g_row B dX8_tells_143 ?_
    refine z_bipush B (21) dX8_tells_146 zc_bipush_21 ?_
    refine fR_l_row B dX8_tells_148 hf (fun v148 hf => ?_)
    exact z_ireturn B dX8_tells_149 hf
  replace hf := zIfn h1_15 hf
  by_cases h1_16 : x1 = (16)
  · replace hf := zIfp h1_16 hf
    refine z_tabIn B (off := 149) 150 dX8_tells_1 (by rw [h1_16]; decide) (by rw [h1_16]; decide) (by rw [h1_16]; decide) (by decide) ?_
    refine z_aload_n B dX8_tells_150 0 rfl rfl ?_
    refine fR_g_row B dX8_tells_151 ?_
    refine z_bipush B (22) dX8_tells_154 zc_bipush_22 ?_
    refine fR_l_row B dX8_tells_156 hf (fun v156 hf => ?_)
    exact z_ireturn B dX8_tells_157 hf
  replace hf := zIfn h1_16 hf
  by_cases h1_17 : x1 = (17)
  · replace hf := zIfp h1_17 hf
    refine z_tabIn B (off := 157) 158 dX8_tells_1 (by rw [h1_17]; decide) (by rw [h1_17]; decide) (by rw [h1_17]; decide) (by decide) ?_
    refine z_aload_n B dX8_tells_158 0 rfl rfl ?_
    refine fR_g_row B dX8_tells_159 ?_
    refine z_bipush B (23) dX8_tells_162 zc_bipush_23 ?_
    refine fR_l_row B dX8_tells_164 hf (fun v164 hf => ?_)
    exact z_ireturn B dX8_tells_165 hf
  replace hf := zIfn h1_17 hf
  by_cases h1_18 : x1 = (18)
  · replace hf := zIfp h1_18 hf
    refine z_tabIn B (off := 165) 166 dX8_tells_1 (by rw [h1_18]; decide) (by rw [h1_18]; decide) (by rw [h1_18]; decide) (by decide) ?_
    refine z_aload_n B dX8_tells_166 0 rfl rfl ?_
    refine z_callVi B (As := []) kcV_X8_311 dX8_tells_167 hf (fun q hq => cR_badOnes q hq) (wR_o (adr := adr) (cI := cI) (cZ := cZ)) rfl rfl rfl rfl (Nat.le_of_ble_eq_true rfl) rfl rfl ⟨Nat.le_of_ble_eq_true rfl, Nat.le_of_ble_eq_true rfl⟩ (fun v167 s167 hf => ?_)
    exact z_ireturn B dX8_tells_170 hf
  replace hf := zIfn h1_18 hf
  by_cases h1_19 : x1 = (19)
  · replace hf := zIfp h1_19 hf
    refine z_tabIn B (off := 170) 171 dX8_tells_1 (by rw [h1_19]; decide) (by rw [h1_19]; decide) (by rw [h1_19]; decide) (by decide) ?_
    refine z_aload_n B dX8_tells_171 0 rfl rfl ?_
    refine fR_g_row B dX8_tells_172 ?_
    refine z_bipush B (24) dX8_tells_175 zc_bipush_24 ?_
    refine fR_l_row B dX8_tells_177 hf (fun v177 hf => ?_)
    exact z_ireturn B dX8_tells_178 hf
  replace hf := zIfn h1_19 hf
  by_cases h1_30 : x1 = (30)
  · replace hf := zIfp h1_30 hf
    refine z_tabIn B (off := 178) 179 dX8_tells_1 (by rw [h1_30]; decide) (by rw [h1_30]; decide) (by rw [h1_30]; decide) (by decide) ?_
    refine z_aload_n B dX8_tells_179 0 rfl rfl ?_
    refine fR_g_row B dX8_tells_180 ?_
    refine z_bipush B (25) dX8_tells_183 zc_bipush_25 ?_
    refine fR_l_row B dX8_tells_185 hf (fun v185 hf => ?_)
    exact z_ireturn B dX8_tells_186 hf
  replace hf := zIfn h1_30 hf
  by_cases h1_31 : x1 = (31)
  · replace hf := zIfp h1_31 hf
    refine z_tabIn B (off := 186) 187 dX8_tells_1 (by rw [h1_31]; decide) (by rw [h1_31]; decide) (by rw [h1_31]; decide) (by decide) ?_
    refine z_aload_n B dX8_tells_187 0 rfl rfl ?_
    refine fR_g_row B dX8_tells_188 ?_
    refine z_bipush B (26) dX8_tells_191 zc_bipush_26 ?_
    refine fR_l_row B dX8_tells_193 hf (fun v193 hf => ?_)
    exact z_ireturn B dX8_tells_194 hf
  replace hf := zIfn h1_31 hf
  by_cases h1_32 : x1 = (32)
  · replace hf := zIfp h1_32 hf
    refine z_tabIn B (off := 194) 195 dX8_tells_1 (by rw [h1_32]; decide) (by rw [h1_32]; decide) (by rw [h1_32]; decide) (by decide) ?_
    refine z_aload_n B dX8_tells_195 0 rfl rfl ?_
    refine fR_g_row B dX8_tells_196 ?_
    refine z_bipush B (27) dX8_tells_199 zc_bipush_27 ?_
    refine fR_l_row B dX8_tells_201 hf (fun v201 hf => ?_)
    exact z_ireturn B dX8_tells_202 hf
  replace hf := zIfn h1_32 hf
  by_cases h1_33 : x1 = (33)
  · replace hf := zIfp h1_33 hf
    refine z_tabIn B (off := 202) 203 dX8_tells_1 (by rw [h1_33]; decide) (by rw [h1_33]; decide) (by rw [h1_33]; decide) (by decide) ?_
    refine z_aload_n B dX8_tells_203 0 rfl rfl ?_
    refine fR_g_row B dX8_tells_204 ?_
    refine z_bipush B (28) dX8_tells_207 zc_bipush_28 ?_
    refine fR_l_row B dX8_tells_209 hf (fun v209 hf => ?_)
    exact z_ireturn B dX8_tells_210 hf
  replace hf := zIfn h1_33 hf
  have kd1 : zJ X 2 (wdR adr cI cZ) (zi q) 211 [(0, .ref (adr 0)), (1, .int x1)] [] σ := by
    refine z_iload_n B dX8_tells_211 1 rfl rfl ?_
    refine z_i2l B dX8_tells_212 hf (fun v212 hf => ?_)
    refine z_lconst B (0) dX8_tells_213 rfl ?_
    refine z_ldc2 B kw_1010 dX8_tells_214 ?_
    refine z_callSi B (As := [.long v212, .long (0), .long (9)]) kcS_X8_71 dX8_tells_217 hf (fun q hq => cR_in q hq) rfl rfl (Nat.le_of_ble_eq_true rfl) rfl rfl ⟨Nat.le_of_ble_eq_true rfl, Nat.le_of_ble_eq_true rfl⟩ (fun v217 s217 hf => ?_)
    refine z_if_eq B 235 dX8_tells_220 (by decide) hf (fun hf => ?_) (fun hf => ?_)
    · refine z_iload_n B dX8_tells_235 1 rfl rfl ?_
      refine z_i2l B dX8_tells_236 hf (fun v236 hf => ?_)
      refine z_ldc2 B kw_1141 dX8_tells_237 ?_
      refine z_ldc2 B kw_1303 dX8_tells_240 ?_
      refine z_callSi B (As := [.long v236, .long (20), .long (29)]) kcS_X8_71 dX8_tells_243 hf (fun q hq => cR_in q hq) rfl rfl (Nat.le_of_ble_eq_true rfl) rfl rfl ⟨Nat.le_of_ble_eq_true rfl, Nat.le_of_ble_eq_true rfl⟩ (fun v243 s243 hf => ?_)
      refine z_if_eq B 261 dX8_tells_246 (by decide) hf (fun hf => ?_) (fun hf => ?_)
      · refine z_iconst B (-1) dX8_tells_261 zc_iconst_m1 ?_
        exact tR_tells_262 B N s243 x1 (-1) hf
      · refine z_aload_n B dX8_tells_249 0 rfl rfl ?_
        refine fR_g_row B dX8_tells_250 ?_
        refine z_iload_n B dX8_tells_253 1 rfl rfl ?_
        refine z_bipush B (20) dX8_tells_254 zc_bipush_20 ?_
        refine z_isub B dX8_tells_256 hf (fun v256 hf => ?_)
        refine fR_l_row B dX8_tells_257 hf (fun v257 hf => ?_)
        refine z_goto B 262 dX8_tells_258 (by decide) ?_
        exact tR_tells_262 B N s243 x1 v257 hf
    · refine z_aload_n B dX8_tells_223 0 rfl rfl ?_
      refine fR_g_row B dX8_tells_224 ?_
      refine z_bipush B (10) dX8_tells_227 zc_bipush_10 ?_
      refine z_iload_n B dX8_tells_229 1 rfl rfl ?_
      refine z_iadd B dX8_tells_230 hf (fun v230 hf => ?_)
      refine fR_l_row B dX8_tells_231 hf (fun v231 hf => ?_)
      refine z_goto B 262 dX8_tells_232 (by decide) ?_
      exact tR_tells_262 B N s217 x1 v231 hf
  by_cases ho1 : x1.toInt < 10 ∨ 33 < x1.toInt
  · exact z_tabOut B 211 dX8_tells_1 ho1 (by decide) kd1
  · have e0 : x1.toInt ≠ 10 := z_ne h1_10 (by decide)
    have e1 : x1.toInt ≠ 11 := z_ne h1_11 (by decide)
    have e2 : x1.toInt ≠ 12 := z_ne h1_12 (by decide)
    have e3 : x1.toInt ≠ 13 := z_ne h1_13 (by decide)
    have e4 : x1.toInt ≠ 14 := z_ne h1_14 (by decide)
    have e5 : x1.toInt ≠ 15 := z_ne h1_15 (by decide)
    have e6 : x1.toInt ≠ 16 := z_ne h1_16 (by decide)
    have e7 : x1.toInt ≠ 17 := z_ne h1_17 (by decide)
    have e8 : x1.toInt ≠ 18 := z_ne h1_18 (by decide)
    have e9 : x1.toInt ≠ 19 := z_ne h1_19 (by decide)
    have e10 : x1.toInt ≠ 30 := z_ne h1_30 (by decide)
    have e11 : x1.toInt ≠ 31 := z_ne h1_31 (by decide)
    have e12 : x1.toInt ≠ 32 := z_ne h1_32 (by decide)
    have e13 : x1.toInt ≠ 33 := z_ne h1_33 (by decide)
    have hx1 : x1.toInt = 20 ∨ x1.toInt = 21 ∨ x1.toInt = 22 ∨ x1.toInt = 23 ∨ x1.toInt = 24 ∨ x1.toInt = 25 ∨ x1.toInt = 26 ∨ x1.toInt = 27 ∨ x1.toInt = 28 ∨ x1.toInt = 29 := by omega
    rcases hx1 with e1 | e1 | e1 | e1 | e1 | e1 | e1 | e1 | e1 | e1
    · exact z_tabIn B (off := 210) 211 dX8_tells_1 (by rw [e1]; decide) (by rw [e1]; decide) (by rw [e1]; decide) (by decide) kd1
    · exact z_tabIn B (off := 210) 211 dX8_tells_1 (by rw [e1]; decide) (by rw [e1]; decide) (by rw [e1]; decide) (by decide) kd1
    · exact z_tabIn B (off := 210) 211 dX8_tells_1 (by rw [e1]; decide) (by rw [e1]; decide) (by rw [e1]; decide) (by decide) kd1
    · exact z_tabIn B (off := 210) 211 dX8_tells_1 (by rw [e1]; decide) (by rw [e1]; decide) (by rw [e1]; decide) (by decide) kd1
    · exact z_tabIn B (off := 210) 211 dX8_tells_1 (by rw [e1]; decide) (by rw [e1]; decide) (by rw [e1]; decide) (by decide) kd1
    · exact z_tabIn B (off := 210) 211 dX8_tells_1 (by rw [e1]; decide) (by rw [e1]; decide) (by rw [e1]; decide) (by decide) kd1
    · exact z_tabIn B (off := 210) 211 dX8_tells_1 (by rw [e1]; decide) (by rw [e1]; decide) (by rw [e1]; decide) (by decide) kd1
    · exact z_tabIn B (off := 210) 211 dX8_tells_1 (by rw [e1]; decide) (by rw [e1]; decide) (by rw [e1]; decide) (by decide) kd1
    · exact z_tabIn B (off := 210) 211 dX8_tells_1 (by rw [e1]; decide) (by rw [e1]; decide) (by rw [e1]; decide) (by decide) kd1
    · exact z_tabIn B (off := 210) 211 dX8_tells_1 (by rw [e1]; decide) (by rw [e1]; decide) (by rw [e1]; decide) (by decide) kd1
theorem dX8_traced_0 : decode cX8_traced 0 = .ok (.aload_n 0, 1) := by decide +kernel
theorem dX8_traced_1 : decode cX8_traced 1 = .ok (.getfield 9, 3) := by decide +kernel
theorem dX8_traced_4 : decode cX8_traced 4 = .ok (.sipush 774, 3) := by decide +kernel
theorem dX8_traced_7 : decode cX8_traced 7 = .ok (.iconst 3, 1) := by decide +kernel
theorem dX8_traced_8 : decode cX8_traced 8 = .ok (.iload_n 1, 1) := by decide +kernel
theorem dX8_traced_9 : decode cX8_traced 9 = .ok (.imul, 1) := by decide +kernel
theorem dX8_traced_10 : decode cX8_traced 10 = .ok (.iadd, 1) := by decide +kernel
theorem dX8_traced_11 : decode cX8_traced 11 = .ok (.iaload, 1) := by decide +kernel
theorem dX8_traced_12 : decode cX8_traced 12 = .ok (.ireturn, 1) := by decide +kernel
def mR_traced (N : Nat) (σ : ST) (x1 : Int32) : Option (Int32 × ST) :=
  zLet (((3) : Int32) * x1) fun v9 =>
  zLet (((774) : Int32) + v9) fun v10 =>
  zGet (σ 1) 1974 v10 fun v11 =>
  some (v11, σ)
set_option maxRecDepth 20000 in
set_option maxHeartbeats 2000000 in
theorem cR_traced {adr : Nat → Nat} {cI cZ : ClassId} {l : Launch} {D : va_G} {N : Nat} {σ : ST} {x1 : Int32} (q : Int32 × ST) (hf : mR_traced N σ x1 = some q) : zM l D (wdR adr cI cZ) yX8_traced cX8_traced 2 (some .int) ({ frames := 0, cells := 0, slots := 0, locals := 0 }) [.ref (adr 0), .int x1] σ (zi q) := by
  refine zM_of rfl (Nat.le_of_ble_eq_true rfl) [(0, .ref (adr 0)), (1, .int x1)] rfl (fun X hX1 hX2 B => ?_)
  have B : zC X 2 (wdR adr cI cZ) cX8_traced RX8 (some .int) { frames := 0, cells := 0, slots := 0, locals := 0 } := B
  refine z_aload_n B dX8_traced_0 0 rfl rfl ?_
  refine fR_g_row B dX8_traced_1 ?_
  refine z_sipush B (774) dX8_traced_4 zc_sipush_774 ?_
  refine z_iconst B (3) dX8_traced_7 zc_iconst_3 ?_
  refine z_iload_n B dX8_traced_8 1 rfl rfl ?_
  refine z_imul B dX8_traced_9 hf (fun v9 hf => ?_)
  refine z_iadd B dX8_traced_10 hf (fun v10 hf => ?_)
  refine fR_l_row B dX8_traced_11 hf (fun v11 hf => ?_)
  exact z_ireturn B dX8_traced_12 hf
theorem dX8_isNext_0 : decode cX8_isNext 0 = .ok (.iload_n 1, 1) := by decide +kernel
theorem dX8_isNext_1 : decode cX8_isNext 1 = .ok (.ifCond .le 24, 3) := by decide +kernel
theorem dX8_isNext_4 : decode cX8_isNext 4 = .ok (.aload_n 0, 1) := by decide +kernel
theorem dX8_isNext_5 : decode cX8_isNext 5 = .ok (.iload_n 1, 1) := by decide +kernel
theorem dX8_isNext_6 : decode cX8_isNext 6 = .ok (.invokevirtual 238, 3) := by decide +kernel
theorem dX8_isNext_9 : decode cX8_isNext 9 = .ok (.aload_n 0, 1) := by decide +kernel
theorem dX8_isNext_10 : decode cX8_isNext 10 = .ok (.iload_n 1, 1) := by decide +kernel
theorem dX8_isNext_11 : decode cX8_isNext 11 = .ok (.iconst 1, 1) := by decide +kernel
theorem dX8_isNext_12 : decode cX8_isNext 12 = .ok (.isub, 1) := by decide +kernel
theorem dX8_isNext_13 : decode cX8_isNext 13 = .ok (.invokevirtual 238, 3) := by decide +kernel
theorem dX8_isNext_16 : decode cX8_isNext 16 = .ok (.iconst 1, 1) := by decide +kernel
theorem dX8_isNext_17 : decode cX8_isNext 17 = .ok (.iadd, 1) := by decide +kernel
theorem dX8_isNext_18 : decode cX8_isNext 18 = .ok (.if_icmp .ne 7, 3) := by decide +kernel
theorem dX8_isNext_21 : decode cX8_isNext 21 = .ok (.iconst 1, 1) := by decide +kernel
theorem dX8_isNext_22 : decode cX8_isNext 22 = .ok (.goto 4, 3) := by decide +kernel
theorem dX8_isNext_25 : decode cX8_isNext 25 = .ok (.iconst 0, 1) := by decide +kernel
theorem dX8_isNext_26 : decode cX8_isNext 26 = .ok (.ireturn, 1) := by decide +kernel
def mR_isNext_26 (N : Nat) (σ : ST) (x1 : Int32) (k0 : Int32) : Option (Int32 × ST) :=
  zBool k0 (some (k0, σ))
set_option maxRecDepth 20000 in
set_option maxHeartbeats 2000000 in
theorem tR_isNext_26 {adr : Nat → Nat} {cI cZ : ClassId} {X : zX} {q : Int32 × ST} (B : zC X 2 (wdR adr cI cZ) cX8_isNext RX8 (some .boolean) { frames := 1, cells := 0, slots := 0, locals := 21 }) (N : Nat) (σ : ST) (x1 : Int32) (k0 : Int32) (hf : mR_isNext_26 N σ x1 k0 = some q) : zJ X 2 (wdR adr cI cZ) (zi q) 26 [(0, .ref (adr 0)), (1, .int x1)] [.int k0] σ := by
  exact z_zreturn B dX8_isNext_26 hf
def mR_isNext_25 (N : Nat) (σ : ST) (x1 : Int32) : Option (Int32 × ST) :=
  mR_isNext_26 N σ x1 (0)
set_option maxRecDepth 20000 in
set_option maxHeartbeats 2000000 in
theorem tR_isNext_25 {adr : Nat → Nat} {cI cZ : ClassId} {X : zX} {q : Int32 × ST} (B : zC X 2 (wdR adr cI cZ) cX8_isNext RX8 (some .boolean) { frames := 1, cells := 0, slots := 0, locals := 21 }) (N : Nat) (σ : ST) (x1 : Int32) (hf : mR_isNext_25 N σ x1 = some q) : zJ X 2 (wdR adr cI cZ) (zi q) 25 [(0, .ref (adr 0)), (1, .int x1)] [] σ := by
  refine z_iconst B (0) dX8_isNext_25 zc_iconst_0 ?_
  exact tR_isNext_26 B N σ x1 (0) hf
def mR_isNext (N : Nat) (σ : ST) (x1 : Int32) : Option (Int32 × ST) :=
  if (x1 : Int32) ≤ 0 then
    mR_isNext_25 N σ x1
  else
    zCall (mR_traced N σ x1) fun v6 s6 =>
    zLet ((x1 : Int32) - (1)) fun v12 =>
    zCall (mR_traced N s6 v12) fun v13 s13 =>
    zLet ((v13 : Int32) + (1)) fun v17 =>
    if (v6 : Int32) = v17 then
      mR_isNext_26 N s13 x1 (1)
    else
      mR_isNext_25 N s13 x1
set_option maxRecDepth 20000 in
set_option maxHeartbeats 2000000 in
theorem cR_isNext {adr : Nat → Nat} {cI cZ : ClassId} {l : Launch} {D : va_G} {N : Nat} {σ : ST} {x1 : Int32} (q : Int32 × ST) (hf : mR_isNext N σ x1 = some q) : zM l D (wdR adr cI cZ) yX8_isNext cX8_isNext 2 (some .boolean) ({ frames := 1, cells := 0, slots := 0, locals := 21 }) [.ref (adr 0), .int x1] σ (zi q) := by
  refine zM_of rfl (Nat.le_of_ble_eq_true rfl) [(0, .ref (adr 0)), (1, .int x1)] rfl (fun X hX1 hX2 B => ?_)
  have B : zC X 2 (wdR adr cI cZ) cX8_isNext RX8 (some .boolean) { frames := 1, cells := 0, slots := 0, locals := 21 } := B
  refine z_iload_n B dX8_isNext_0 1 rfl rfl ?_
  refine z_if_le B 25 dX8_isNext_1 (by decide) hf (fun hf => ?_) (fun hf => ?_)
  · exact tR_isNext_25 B N σ x1 hf
  · refine z_aload_n B dX8_isNext_4 0 rfl rfl ?_
    refine z_iload_n B dX8_isNext_5 1 rfl rfl ?_
    refine z_callVi B (As := [.int x1]) kcV_X8_238 dX8_isNext_6 hf (fun q hq => cR_traced q hq) (wR_o (adr := adr) (cI := cI) (cZ := cZ)) rfl rfl rfl rfl (Nat.le_of_ble_eq_true rfl) rfl rfl ⟨Nat.le_of_ble_eq_true rfl, Nat.le_of_ble_eq_true rfl⟩ (fun v6 s6 hf => ?_)
    refine z_aload_n B dX8_isNext_9 0 rfl rfl ?_
    refine z_iload_n B dX8_isNext_10 1 rfl rfl ?_
    refine z_iconst B (1) dX8_isNext_11 zc_iconst_1 ?_
    refine z_isub B dX8_isNext_12 hf (fun v12 hf => ?_)
    refine z_callVi B (As := [.int v12]) kcV_X8_238 dX8_isNext_13 hf (fun q hq => cR_traced q hq) (wR_o (adr := adr) (cI := cI) (cZ := cZ)) rfl rfl rfl rfl (Nat.le_of_ble_eq_true rfl) rfl rfl ⟨Nat.le_of_ble_eq_true rfl, Nat.le_of_ble_eq_true rfl⟩ (fun v13 s13 hf => ?_)
    refine z_iconst B (1) dX8_isNext_16 zc_iconst_1 ?_
    refine z_iadd B dX8_isNext_17 hf (fun v17 hf => ?_)
    refine z_icmp_ne B 25 dX8_isNext_18 (by decide) hf (fun hf => ?_) (fun hf => ?_)
    · exact tR_isNext_25 B N s13 x1 hf
    · refine z_iconst B (1) dX8_isNext_21 zc_iconst_1 ?_
      refine z_goto B 26 dX8_isNext_22 (by decide) ?_
      exact tR_isNext_26 B N s13 x1 (1) hf
theorem dX8_unlikeBlocks_0 : decode cX8_unlikeBlocks 0 = .ok (.iconst 0, 1) := by decide +kernel
theorem dX8_unlikeBlocks_1 : decode cX8_unlikeBlocks 1 = .ok (.istore_n 1, 1) := by decide +kernel
theorem dX8_unlikeBlocks_2 : decode cX8_unlikeBlocks 2 = .ok (.iconst 0, 1) := by decide +kernel
theorem dX8_unlikeBlocks_3 : decode cX8_unlikeBlocks 3 = .ok (.istore_n 2, 1) := by decide +kernel
theorem dX8_unlikeBlocks_4 : decode cX8_unlikeBlocks 4 = .ok (.iload_n 2, 1) := by decide +kernel
theorem dX8_unlikeBlocks_5 : decode cX8_unlikeBlocks 5 = .ok (.aload_n 0, 1) := by decide +kernel
theorem dX8_unlikeBlocks_6 : decode cX8_unlikeBlocks 6 = .ok (.getfield 9, 3) := by decide +kernel
theorem dX8_unlikeBlocks_9 : decode cX8_unlikeBlocks 9 = .ok (.bipush 22, 2) := by decide +kernel
theorem dX8_unlikeBlocks_11 : decode cX8_unlikeBlocks 11 = .ok (.iaload, 1) := by decide +kernel
theorem dX8_unlikeBlocks_12 : decode cX8_unlikeBlocks 12 = .ok (.if_icmp .ge 62, 3) := by decide +kernel
theorem dX8_unlikeBlocks_15 : decode cX8_unlikeBlocks 15 = .ok (.iconst 1, 1) := by decide +kernel
theorem dX8_unlikeBlocks_16 : decode cX8_unlikeBlocks 16 = .ok (.istore_n 3, 1) := by decide +kernel
theorem dX8_unlikeBlocks_17 : decode cX8_unlikeBlocks 17 = .ok (.iconst 0, 1) := by decide +kernel
theorem dX8_unlikeBlocks_18 : decode cX8_unlikeBlocks 18 = .ok (.istore 4, 2) := by decide +kernel
theorem dX8_unlikeBlocks_20 : decode cX8_unlikeBlocks 20 = .ok (.iload 4, 2) := by decide +kernel
theorem dX8_unlikeBlocks_22 : decode cX8_unlikeBlocks 22 = .ok (.iload_n 2, 1) := by decide +kernel
theorem dX8_unlikeBlocks_23 : decode cX8_unlikeBlocks 23 = .ok (.if_icmp .ge 33, 3) := by decide +kernel
theorem dX8_unlikeBlocks_26 : decode cX8_unlikeBlocks 26 = .ok (.iload_n 3, 1) := by decide +kernel
theorem dX8_unlikeBlocks_27 : decode cX8_unlikeBlocks 27 = .ok (.ifCond .eq 21, 3) := by decide +kernel
theorem dX8_unlikeBlocks_30 : decode cX8_unlikeBlocks 30 = .ok (.aload_n 0, 1) := by decide +kernel
theorem dX8_unlikeBlocks_31 : decode cX8_unlikeBlocks 31 = .ok (.iload 4, 2) := by decide +kernel
theorem dX8_unlikeBlocks_33 : decode cX8_unlikeBlocks 33 = .ok (.invokevirtual 238, 3) := by decide +kernel
theorem dX8_unlikeBlocks_36 : decode cX8_unlikeBlocks 36 = .ok (.aload_n 0, 1) := by decide +kernel
theorem dX8_unlikeBlocks_37 : decode cX8_unlikeBlocks 37 = .ok (.iload_n 2, 1) := by decide +kernel
theorem dX8_unlikeBlocks_38 : decode cX8_unlikeBlocks 38 = .ok (.invokevirtual 238, 3) := by decide +kernel
theorem dX8_unlikeBlocks_41 : decode cX8_unlikeBlocks 41 = .ok (.if_icmp .eq 7, 3) := by decide +kernel
theorem dX8_unlikeBlocks_44 : decode cX8_unlikeBlocks 44 = .ok (.iconst 1, 1) := by decide +kernel
theorem dX8_unlikeBlocks_45 : decode cX8_unlikeBlocks 45 = .ok (.goto 4, 3) := by decide +kernel
theorem dX8_unlikeBlocks_48 : decode cX8_unlikeBlocks 48 = .ok (.iconst 0, 1) := by decide +kernel
theorem dX8_unlikeBlocks_49 : decode cX8_unlikeBlocks 49 = .ok (.istore_n 3, 1) := by decide +kernel
theorem dX8_unlikeBlocks_50 : decode cX8_unlikeBlocks 50 = .ok (.iinc 4 1, 3) := by decide +kernel
theorem dX8_unlikeBlocks_53 : decode cX8_unlikeBlocks 53 = .ok (.goto (-33), 3) := by decide +kernel
theorem dX8_unlikeBlocks_56 : decode cX8_unlikeBlocks 56 = .ok (.iload_n 1, 1) := by decide +kernel
theorem dX8_unlikeBlocks_57 : decode cX8_unlikeBlocks 57 = .ok (.iload_n 3, 1) := by decide +kernel
theorem dX8_unlikeBlocks_58 : decode cX8_unlikeBlocks 58 = .ok (.ifCond .eq 7, 3) := by decide +kernel
theorem dX8_unlikeBlocks_61 : decode cX8_unlikeBlocks 61 = .ok (.iconst 1, 1) := by decide +kernel
theorem dX8_unlikeBlocks_62 : decode cX8_unlikeBlocks 62 = .ok (.goto 4, 3) := by decide +kernel
theorem dX8_unlikeBlocks_65 : decode cX8_unlikeBlocks 65 = .ok (.iconst 0, 1) := by decide +kernel
theorem dX8_unlikeBlocks_66 : decode cX8_unlikeBlocks 66 = .ok (.iadd, 1) := by decide +kernel
theorem dX8_unlikeBlocks_67 : decode cX8_unlikeBlocks 67 = .ok (.istore_n 1, 1) := by decide +kernel
theorem dX8_unlikeBlocks_68 : decode cX8_unlikeBlocks 68 = .ok (.iinc 2 1, 3) := by decide +kernel
theorem dX8_unlikeBlocks_71 : decode cX8_unlikeBlocks 71 = .ok (.goto (-67), 3) := by decide +kernel
theorem dX8_unlikeBlocks_74 : decode cX8_unlikeBlocks 74 = .ok (.iload_n 1, 1) := by decide +kernel
theorem dX8_unlikeBlocks_75 : decode cX8_unlikeBlocks 75 = .ok (.ireturn, 1) := by decide +kernel
def mR_unlikeBlocks_66 (N : Nat) (hd4 : ST → Int32 → Int32 → Option (Int32 × ST)) (σ : ST) (x1 : Int32) (x2 : Int32) (x3 : Int32) (x4 : Int32) (k0 : Int32) (k1 : Int32) : Option (Int32 × ST) :=
  zLet ((k0 : Int32) + k1) fun v66 =>
  zLet (x2 + (1)) fun v68 =>
  hd4 σ v66 v68
set_option maxRecDepth 20000 in
set_option maxHeartbeats 2000000 in
theorem tR_unlikeBlocks_66 {adr : Nat → Nat} {cI cZ : ClassId} {X : zX} {q : Int32 × ST} (B : zC X 5 (wdR adr cI cZ) cX8_unlikeBlocks RX8 (some .int) { frames := 1, cells := 0, slots := 0, locals := 21 }) (N : Nat) (hd4 : ST → Int32 → Int32 → Option (Int32 × ST)) (hh4 : ∀ (σ : ST) (x1 : Int32) (x2 : Int32), hd4 σ x1 x2 = some q → zJ X 5 (wdR adr cI cZ) (zi q) 4 [(0, .ref (adr 0)), (1, .int x1), (2, .int x2)] [] σ) (σ : ST) (x1 : Int32) (x2 : Int32) (x3 : Int32) (x4 : Int32) (k0 : Int32) (k1 : Int32) (hf : mR_unlikeBlocks_66 N hd4 σ x1 x2 x3 x4 k0 k1 = some q) : zJ X 5 (wdR adr cI cZ) (zi q) 66 [(0, .ref (adr 0)), (1, .int x1), (2, .int x2), (3, .int x3), (4, .int x4)] [.int k1, .int k0] σ := by
  refine z_iadd B dX8_unlikeBlocks_66 hf (fun v66 hf => ?_)
  refine z_istore_n B [(1, .int v66), (0, .ref (adr 0)), (2, .int x2), (3, .int x3), (4, .int x4)] dX8_unlikeBlocks_67 rfl (Nat.le_of_ble_eq_true rfl) rfl ?_
  refine z_iinc B (1) 2 (fun v68 => [(2, .int v68), (1, .int v66), (0, .ref (adr 0)), (3, .int x3), (4, .int x4)]) dX8_unlikeBlocks_68 hf zc_iconst_1 rfl (Nat.le_of_ble_eq_true rfl) (fun _ => rfl) (fun v68 hf => ?_)
  refine z_goto B 4 dX8_unlikeBlocks_71 (by decide) ?_
  exact z_loc [2, 1, 0] _ rfl (hh4 σ v66 v68 hf)
def mR_unlikeBlocks_49 (N : Nat) (hd4 : ST → Int32 → Int32 → Option (Int32 × ST)) (hd20 : ST → Int32 → Int32 → Int32 → Int32 → Option (Int32 × ST)) (σ : ST) (x1 : Int32) (x2 : Int32) (x3 : Int32) (x4 : Int32) (k0 : Int32) : Option (Int32 × ST) :=
  zLet (x4 + (1)) fun v50 =>
  hd20 σ x1 x2 k0 v50
set_option maxRecDepth 20000 in
set_option maxHeartbeats 2000000 in
theorem tR_unlikeBlocks_49 {adr : Nat → Nat} {cI cZ : ClassId} {X : zX} {q : Int32 × ST} (B : zC X 5 (wdR adr cI cZ) cX8_unlikeBlocks RX8 (some .int) { frames := 1, cells := 0, slots := 0, locals := 21 }) (N : Nat) (hd4 : ST → Int32 → Int32 → Option (Int32 × ST)) (hh4 : ∀ (σ : ST) (x1 : Int32) (x2 : Int32), hd4 σ x1 x2 = some q → zJ X 5 (wdR adr cI cZ) (zi q) 4 [(0, .ref (adr 0)), (1, .int x1), (2, .int x2)] [] σ) (hd20 : ST → Int32 → Int32 → Int32 → Int32 → Option (Int32 × ST)) (hh20 : ∀ (σ : ST) (x1 : Int32) (x2 : Int32) (x3 : Int32) (x4 : Int32), hd20 σ x1 x2 x3 x4 = some q → zJ X 5 (wdR adr cI cZ) (zi q) 20 [(0, .ref (adr 0)), (1, .int x1), (2, .int x2), (3, .int x3), (4, .int x4)] [] σ) (σ : ST) (x1 : Int32) (x2 : Int32) (x3 : Int32) (x4 : Int32) (k0 : Int32) (hf : mR_unlikeBlocks_49 N hd4 hd20 σ x1 x2 x3 x4 k0 = some q) : zJ X 5 (wdR adr cI cZ) (zi q) 49 [(0, .ref (adr 0)), (1, .int x1), (2, .int x2), (3, .int x3), (4, .int x4)] [.int k0] σ := by
  refine z_istore_n B [(3, .int k0), (0, .ref (adr 0)), (1, .int x1), (2, .int x2), (4, .int x4)] dX8_unlikeBlocks_49 rfl (Nat.le_of_ble_eq_true rfl) rfl ?_
  refine z_iinc B (1) 4 (fun v50 => [(4, .int v50), (3, .int k0), (0, .ref (adr 0)), (1, .int x1), (2, .int x2)]) dX8_unlikeBlocks_50 hf zc_iconst_1 rfl (Nat.le_of_ble_eq_true rfl) (fun _ => rfl) (fun v50 hf => ?_)
  refine z_goto B 20 dX8_unlikeBlocks_53 (by decide) ?_
  exact z_loc [2, 3, 4, 1, 0] _ rfl (hh20 σ x1 x2 k0 v50 hf)
def mR_unlikeBlocks_48 (N : Nat) (hd4 : ST → Int32 → Int32 → Option (Int32 × ST)) (hd20 : ST → Int32 → Int32 → Int32 → Int32 → Option (Int32 × ST)) (σ : ST) (x1 : Int32) (x2 : Int32) (x3 : Int32) (x4 : Int32) : Option (Int32 × ST) :=
  mR_unlikeBlocks_49 N hd4 hd20 σ x1 x2 x3 x4 (0)
set_option maxRecDepth 20000 in
set_option maxHeartbeats 2000000 in
theorem tR_unlikeBlocks_48 {adr : Nat → Nat} {cI cZ : ClassId} {X : zX} {q : Int32 × ST} (B : zC X 5 (wdR adr cI cZ) cX8_unlikeBlocks RX8 (some .int) { frames := 1, cells := 0, slots := 0, locals := 21 }) (N : Nat) (hd4 : ST → Int32 → Int32 → Option (Int32 × ST)) (hh4 : ∀ (σ : ST) (x1 : Int32) (x2 : Int32), hd4 σ x1 x2 = some q → zJ X 5 (wdR adr cI cZ) (zi q) 4 [(0, .ref (adr 0)), (1, .int x1), (2, .int x2)] [] σ) (hd20 : ST → Int32 → Int32 → Int32 → Int32 → Option (Int32 × ST)) (hh20 : ∀ (σ : ST) (x1 : Int32) (x2 : Int32) (x3 : Int32) (x4 : Int32), hd20 σ x1 x2 x3 x4 = some q → zJ X 5 (wdR adr cI cZ) (zi q) 20 [(0, .ref (adr 0)), (1, .int x1), (2, .int x2), (3, .int x3), (4, .int x4)] [] σ) (σ : ST) (x1 : Int32) (x2 : Int32) (x3 : Int32) (x4 : Int32) (hf : mR_unlikeBlocks_48 N hd4 hd20 σ x1 x2 x3 x4 = some q) : zJ X 5 (wdR adr cI cZ) (zi q) 48 [(0, .ref (adr 0)), (1, .int x1), (2, .int x2), (3, .int x3), (4, .int x4)] [] σ := by
  refine z_iconst B (0) dX8_unlikeBlocks_48 zc_iconst_0 ?_
  exact tR_unlikeBlocks_49 B N hd4 hh4 hd20 hh20 σ x1 x2 x3 x4 (0) hf
def mR_unlikeBlocks_B20 (N : Nat) (hd4 : ST → Int32 → Int32 → Option (Int32 × ST)) (hd20 : ST → Int32 → Int32 → Int32 → Int32 → Option (Int32 × ST)) (σ : ST) (x1 : Int32) (x2 : Int32) (x3 : Int32) (x4 : Int32) : Option (Int32 × ST) :=
  if (x2 : Int32) ≤ x4 then
    if (x3 : Int32) = 0 then
      mR_unlikeBlocks_66 N hd4 σ x1 x2 x3 x4 x1 (0)
    else
      mR_unlikeBlocks_66 N hd4 σ x1 x2 x3 x4 x1 (1)
  else
    if (x3 : Int32) = 0 then
      mR_unlikeBlocks_48 N hd4 hd20 σ x1 x2 x3 x4
    else
      zCall (mR_traced N σ x4) fun v33 s33 =>
      zCall (mR_traced N s33 x2) fun v38 s38 =>
      if (v33 : Int32) = v38 then
        mR_unlikeBlocks_48 N hd4 hd20 s38 x1 x2 x3 x4
      else
        mR_unlikeBlocks_49 N hd4 hd20 s38 x1 x2 x3 x4 (1)
def mR_unlikeBlocks_20 (N : Nat) (hd4 : ST → Int32 → Int32 → Option (Int32 × ST)) : ST → Int32 → Int32 → Int32 → Int32 → Option (Int32 × ST) := zIt (mR_unlikeBlocks_B20 N hd4) (fun _ _ _ _ _ => none) N
set_option maxRecDepth 20000 in
set_option maxHeartbeats 2000000 in
theorem tR_unlikeBlocks_20 {adr : Nat → Nat} {cI cZ : ClassId} {X : zX} {q : Int32 × ST} (B : zC X 5 (wdR adr cI cZ) cX8_unlikeBlocks RX8 (some .int) { frames := 1, cells := 0, slots := 0, locals := 21 }) (N : Nat) (hd4 : ST → Int32 → Int32 → Option (Int32 × ST)) (hh4 : ∀ (σ : ST) (x1 : Int32) (x2 : Int32), hd4 σ x1 x2 = some q → zJ X 5 (wdR adr cI cZ) (zi q) 4 [(0, .ref (adr 0)), (1, .int x1), (2, .int x2)] [] σ) : ∀ (σ : ST) (x1 : Int32) (x2 : Int32) (x3 : Int32) (x4 : Int32), mR_unlikeBlocks_20 N hd4 σ x1 x2 x3 x4 = some q → zJ X 5 (wdR adr cI cZ) (zi q) 20 [(0, .ref (adr 0)), (1, .int x1), (2, .int x2), (3, .int x3), (4, .int x4)] [] σ := by
  refine zIt_ind (P := fun (hd : ST → Int32 → Int32 → Int32 → Int32 → Option (Int32 × ST)) => ∀ (σ : ST) (x1 : Int32) (x2 : Int32) (x3 : Int32) (x4 : Int32), hd σ x1 x2 x3 x4 = some q → zJ X 5 (wdR adr cI cZ) (zi q) 20 [(0, .ref (adr 0)), (1, .int x1), (2, .int x2), (3, .int x3), (4, .int x4)] [] σ) (fun _ _ _ _ _ hf => by cases hf) (fun hd20 hh20 => ?_) N
  intro σ x1 x2 x3 x4 hf
  refine z_iload B dX8_unlikeBlocks_20 4 rfl ?_
  refine z_iload_n B dX8_unlikeBlocks_22 2 rfl rfl ?_
  refine z_icmp_ge B 56 dX8_unlikeBlocks_23 (by decide) hf (fun hf => ?_) (fun hf => ?_)
  · refine z_iload_n B dX8_unlikeBlocks_56 1 rfl rfl ?_
    refine z_iload_n B dX8_unlikeBlocks_57 3 rfl rfl ?_
    refine z_if_eq B 65 dX8_unlikeBlocks_58 (by decide) hf (fun hf => ?_) (fun hf => ?_)
    · refine z_iconst B (0) dX8_unlikeBlocks_65 zc_iconst_0 ?_
      exact tR_unlikeBlocks_66 B N hd4 hh4 σ x1 x2 x3 x4 x1 (0) hf
    · refine z_iconst B (1) dX8_unlikeBlocks_61 zc_iconst_1 ?_
      refine z_goto B 66 dX8_unlikeBlocks_62 (by decide) ?_
      exact tR_unlikeBlocks_66 B N hd4 hh4 σ x1 x2 x3 x4 x1 (1) hf
  · refine z_iload_n B dX8_unlikeBlocks_26 3 rfl rfl ?_
    refine z_if_eq B 48 dX8_unlikeBlocks_27 (by decide) hf (fun hf => ?_) (fun hf => ?_)
    · exact tR_unlikeBlocks_48 B N hd4 hh4 hd20 hh20 σ x1 x2 x3 x4 hf
    · refine z_aload_n B dX8_unlikeBlocks_30 0 rfl rfl ?_
      refine z_iload B dX8_unlikeBlocks_31 4 rfl ?_
      refine z_callVi B (As := [.int x4]) kcV_X8_238 dX8_unlikeBlocks_33 hf (fun q hq => cR_traced q hq) (wR_o (adr := adr) (cI := cI) (cZ := cZ)) rfl rfl rfl rfl (Nat.le_of_ble_eq_true rfl) rfl rfl ⟨Nat.le_of_ble_eq_true rfl, Nat.le_of_ble_eq_true rfl⟩ (fun v33 s33 hf => ?_)
      refine z_aload_n B dX8_unlikeBlocks_36 0 rfl rfl ?_
      refine z_iload_n B dX8_unlikeBlocks_37 2 rfl rfl ?_
      refine z_callVi B (As := [.int x2]) kcV_X8_238 dX8_unlikeBlocks_38 hf (fun q hq => cR_traced q hq) (wR_o (adr := adr) (cI := cI) (cZ := cZ)) rfl rfl rfl rfl (Nat.le_of_ble_eq_true rfl) rfl rfl ⟨Nat.le_of_ble_eq_true rfl, Nat.le_of_ble_eq_true rfl⟩ (fun v38 s38 hf => ?_)
      refine z_icmp_eq B 48 dX8_unlikeBlocks_41 (by decide) hf (fun hf => ?_) (fun hf => ?_)
      · exact tR_unlikeBlocks_48 B N hd4 hh4 hd20 hh20 s38 x1 x2 x3 x4 hf
      · refine z_iconst B (1) dX8_unlikeBlocks_44 zc_iconst_1 ?_
        refine z_goto B 49 dX8_unlikeBlocks_45 (by decide) ?_
        exact tR_unlikeBlocks_49 B N hd4 hh4 hd20 hh20 s38 x1 x2 x3 x4 (1) hf
def mR_unlikeBlocks_B4 (N : Nat) (hd4 : ST → Int32 → Int32 → Option (Int32 × ST)) (σ : ST) (x1 : Int32) (x2 : Int32) : Option (Int32 × ST) :=
  zGet (σ 1) 1974 (22) fun v11 =>
  if (v11 : Int32) ≤ x2 then
    some (x1, σ)
  else
    mR_unlikeBlocks_20 N hd4 σ x1 x2 (1) (0)
def mR_unlikeBlocks_4 (N : Nat) : ST → Int32 → Int32 → Option (Int32 × ST) := zIt (mR_unlikeBlocks_B4 N) (fun _ _ _ => none) N
set_option maxRecDepth 20000 in
set_option maxHeartbeats 2000000 in
theorem tR_unlikeBlocks_4 {adr : Nat → Nat} {cI cZ : ClassId} {X : zX} {q : Int32 × ST} (B : zC X 5 (wdR adr cI cZ) cX8_unlikeBlocks RX8 (some .int) { frames := 1, cells := 0, slots := 0, locals := 21 }) (N : Nat) : ∀ (σ : ST) (x1 : Int32) (x2 : Int32), mR_unlikeBlocks_4 N σ x1 x2 = some q → zJ X 5 (wdR adr cI cZ) (zi q) 4 [(0, .ref (adr 0)), (1, .int x1), (2, .int x2)] [] σ := by
  refine zIt_ind (P := fun (hd : ST → Int32 → Int32 → Option (Int32 × ST)) => ∀ (σ : ST) (x1 : Int32) (x2 : Int32), hd σ x1 x2 = some q → zJ X 5 (wdR adr cI cZ) (zi q) 4 [(0, .ref (adr 0)), (1, .int x1), (2, .int x2)] [] σ) (fun _ _ _ hf => by cases hf) (fun hd4 hh4 => ?_) N
  intro σ x1 x2 hf
  refine z_iload_n B dX8_unlikeBlocks_4 2 rfl rfl ?_
  refine z_aload_n B dX8_unlikeBlocks_5 0 rfl rfl ?_
  refine fR_g_row B dX8_unlikeBlocks_6 ?_
  refine z_bipush B (22) dX8_unlikeBlocks_9 zc_bipush_22 ?_
  refine fR_l_row B dX8_unlikeBlocks_11 hf (fun v11 hf => ?_)
  refine z_icmp_ge B 74 dX8_unlikeBlocks_12 (by decide) hf (fun hf => ?_) (fun hf => ?_)
  · refine z_iload_n B dX8_unlikeBlocks_74 1 rfl rfl ?_
    exact z_ireturn B dX8_unlikeBlocks_75 hf
  · refine z_iconst B (1) dX8_unlikeBlocks_15 zc_iconst_1 ?_
    refine z_istore_n B [(3, .int (1)), (0, .ref (adr 0)), (1, .int x1), (2, .int x2)] dX8_unlikeBlocks_16 rfl (Nat.le_of_ble_eq_true rfl) rfl ?_
    refine z_iconst B (0) dX8_unlikeBlocks_17 zc_iconst_0 ?_
    refine z_istore B [(4, .int (0)), (3, .int (1)), (0, .ref (adr 0)), (1, .int x1), (2, .int x2)] dX8_unlikeBlocks_18 (Nat.le_of_ble_eq_true rfl) rfl ?_
    exact z_loc [2, 3, 4, 1, 0] _ rfl (tR_unlikeBlocks_20 B N hd4 hh4 σ x1 x2 (1) (0) hf)
def mR_unlikeBlocks (N : Nat) (σ : ST) : Option (Int32 × ST) :=
  mR_unlikeBlocks_4 N σ (0) (0)
set_option maxRecDepth 20000 in
set_option maxHeartbeats 2000000 in
theorem cR_unlikeBlocks {adr : Nat → Nat} {cI cZ : ClassId} {l : Launch} {D : va_G} {N : Nat} {σ : ST} (q : Int32 × ST) (hf : mR_unlikeBlocks N σ = some q) : zM l D (wdR adr cI cZ) yX8_unlikeBlocks cX8_unlikeBlocks 5 (some .int) ({ frames := 1, cells := 0, slots := 0, locals := 21 }) [.ref (adr 0)] σ (zi q) := by
  refine zM_of rfl (Nat.le_of_ble_eq_true rfl) [(0, .ref (adr 0))] rfl (fun X hX1 hX2 B => ?_)
  have B : zC X 5 (wdR adr cI cZ) cX8_unlikeBlocks RX8 (some .int) { frames := 1, cells := 0, slots := 0, locals := 21 } := B
  refine z_iconst B (0) dX8_unlikeBlocks_0 zc_iconst_0 ?_
  refine z_istore_n B [(1, .int (0)), (0, .ref (adr 0))] dX8_unlikeBlocks_1 rfl (Nat.le_of_ble_eq_true rfl) rfl ?_
  refine z_iconst B (0) dX8_unlikeBlocks_2 zc_iconst_0 ?_
  refine z_istore_n B [(2, .int (0)), (1, .int (0)), (0, .ref (adr 0))] dX8_unlikeBlocks_3 rfl (Nat.le_of_ble_eq_true rfl) rfl ?_
  exact z_loc [2, 1, 0] _ rfl (tR_unlikeBlocks_4 B N σ (0) (0) hf)
theorem dX8_between_0 : decode cX8_between 0 = .ok (.aload_n 0, 1) := by decide +kernel
theorem dX8_between_1 : decode cX8_between 1 = .ok (.getfield 9, 3) := by decide +kernel
theorem dX8_between_4 : decode cX8_between 4 = .ok (.bipush 22, 2) := by decide +kernel
theorem dX8_between_6 : decode cX8_between 6 = .ok (.iaload, 1) := by decide +kernel
theorem dX8_between_7 : decode cX8_between 7 = .ok (.iconst 1, 1) := by decide +kernel
theorem dX8_between_8 : decode cX8_between 8 = .ok (.isub, 1) := by decide +kernel
theorem dX8_between_9 : decode cX8_between 9 = .ok (.istore_n 1, 1) := by decide +kernel
theorem dX8_between_10 : decode cX8_between 10 = .ok (.iload_n 1, 1) := by decide +kernel
theorem dX8_between_11 : decode cX8_between 11 = .ok (.iconst 1, 1) := by decide +kernel
theorem dX8_between_12 : decode cX8_between 12 = .ok (.isub, 1) := by decide +kernel
theorem dX8_between_13 : decode cX8_between 13 = .ok (.istore_n 2, 1) := by decide +kernel
theorem dX8_between_14 : decode cX8_between 14 = .ok (.iload_n 2, 1) := by decide +kernel
theorem dX8_between_15 : decode cX8_between 15 = .ok (.ifCond .lt 28, 3) := by decide +kernel
theorem dX8_between_18 : decode cX8_between 18 = .ok (.aload_n 0, 1) := by decide +kernel
theorem dX8_between_19 : decode cX8_between 19 = .ok (.iload_n 2, 1) := by decide +kernel
theorem dX8_between_20 : decode cX8_between 20 = .ok (.invokevirtual 238, 3) := by decide +kernel
theorem dX8_between_23 : decode cX8_between 23 = .ok (.aload_n 0, 1) := by decide +kernel
theorem dX8_between_24 : decode cX8_between 24 = .ok (.iload_n 1, 1) := by decide +kernel
theorem dX8_between_25 : decode cX8_between 25 = .ok (.invokevirtual 238, 3) := by decide +kernel
theorem dX8_between_28 : decode cX8_between 28 = .ok (.if_icmp .ne 9, 3) := by decide +kernel
theorem dX8_between_31 : decode cX8_between 31 = .ok (.iload_n 1, 1) := by decide +kernel
theorem dX8_between_32 : decode cX8_between 32 = .ok (.iconst 1, 1) := by decide +kernel
theorem dX8_between_33 : decode cX8_between 33 = .ok (.isub, 1) := by decide +kernel
theorem dX8_between_34 : decode cX8_between 34 = .ok (.iload_n 2, 1) := by decide +kernel
theorem dX8_between_35 : decode cX8_between 35 = .ok (.isub, 1) := by decide +kernel
theorem dX8_between_36 : decode cX8_between 36 = .ok (.ireturn, 1) := by decide +kernel
theorem dX8_between_37 : decode cX8_between 37 = .ok (.iinc 2 (-1), 3) := by decide +kernel
theorem dX8_between_40 : decode cX8_between 40 = .ok (.goto (-26), 3) := by decide +kernel
theorem dX8_between_43 : decode cX8_between 43 = .ok (.iconst (-1), 1) := by decide +kernel
theorem dX8_between_44 : decode cX8_between 44 = .ok (.ireturn, 1) := by decide +kernel
def mR_between_B14 (N : Nat) (hd14 : ST → Int32 → Int32 → Option (Int32 × ST)) (σ : ST) (x1 : Int32) (x2 : Int32) : Option (Int32 × ST) :=
  if (x2 : Int32) < 0 then
    some ((-1), σ)
  else
    zCall (mR_traced N σ x2) fun v20 s20 =>
    zCall (mR_traced N s20 x1) fun v25 s25 =>
    if (v20 : Int32) = v25 then
      zLet ((x1 : Int32) - (1)) fun v33 =>
      zLet ((v33 : Int32) - x2) fun v35 =>
      some (v35, s25)
    else
      zLet (x2 + (-1)) fun v37 =>
      hd14 s25 x1 v37
def mR_between_14 (N : Nat) : ST → Int32 → Int32 → Option (Int32 × ST) := zIt (mR_between_B14 N) (fun _ _ _ => none) N
set_option maxRecDepth 20000 in
set_option maxHeartbeats 2000000 in
theorem tR_between_14 {adr : Nat → Nat} {cI cZ : ClassId} {X : zX} {q : Int32 × ST} (B : zC X 3 (wdR adr cI cZ) cX8_between RX8 (some .int) { frames := 1, cells := 0, slots := 0, locals := 21 }) (N : Nat) : ∀ (σ : ST) (x1 : Int32) (x2 : Int32), mR_between_14 N σ x1 x2 = some q → zJ X 3 (wdR adr cI cZ) (zi q) 14 [(0, .ref (adr 0)), (1, .int x1), (2, .int x2)] [] σ := by
  refine zIt_ind (P := fun (hd : ST → Int32 → Int32 → Option (Int32 × ST)) => ∀ (σ : ST) (x1 : Int32) (x2 : Int32), hd σ x1 x2 = some q → zJ X 3 (wdR adr cI cZ) (zi q) 14 [(0, .ref (adr 0)), (1, .int x1), (2, .int x2)] [] σ) (fun _ _ _ hf => by cases hf) (fun hd14 hh14 => ?_) N
  intro σ x1 x2 hf
  refine z_iload_n B dX8_between_14 2 rfl rfl ?_
  refine z_if_lt B 43 dX8_between_15 (by decide) hf (fun hf => ?_) (fun hf => ?_)
  · refine z_iconst B (-1) dX8_between_43 zc_iconst_m1 ?_
    exact z_ireturn B dX8_between_44 hf
  · refine z_aload_n B dX8_between_18 0 rfl rfl ?_
    refine z_iload_n B dX8_between_19 2 rfl rfl ?_
    refine z_callVi B (As := [.int x2]) kcV_X8_238 dX8_between_20 hf (fun q hq => cR_traced q hq) (wR_o (adr := adr) (cI := cI) (cZ := cZ)) rfl rfl rfl rfl (Nat.le_of_ble_eq_true rfl) rfl rfl ⟨Nat.le_of_ble_eq_true rfl, Nat.le_of_ble_eq_true rfl⟩ (fun v20 s20 hf => ?_)
    refine z_aload_n B dX8_between_23 0 rfl rfl ?_
    refine z_iload_n B dX8_between_24 1 rfl rfl ?_
    refine z_callVi B (As := [.int x1]) kcV_X8_238 dX8_between_25 hf (fun q hq => cR_traced q hq) (wR_o (adr := adr) (cI := cI) (cZ := cZ)) rfl rfl rfl rfl (Nat.le_of_ble_eq_true rfl) rfl rfl ⟨Nat.le_of_ble_eq_true rfl, Nat.le_of_ble_eq_true rfl⟩ (fun v25 s25 hf => ?_)
    refine z_icmp_ne B 37 dX8_between_28 (by decide) hf (fun hf => ?_) (fun hf => ?_)
    · refine z_iinc B (-1) 2 (fun v37 => [(2, .int v37), (0, .ref (adr 0)), (1, .int x1)]) dX8_between_37 hf zc_iconst_m1 rfl (Nat.le_of_ble_eq_true rfl) (fun _ => rfl) (fun v37 hf => ?_)
      refine z_goto B 14 dX8_between_40 (by decide) ?_
      exact z_loc [1, 2, 0] _ rfl (hh14 s25 x1 v37 hf)
    · refine z_iload_n B dX8_between_31 1 rfl rfl ?_
      refine z_iconst B (1) dX8_between_32 zc_iconst_1 ?_
      refine z_isub B dX8_between_33 hf (fun v33 hf => ?_)
      refine z_iload_n B dX8_between_34 2 rfl rfl ?_
      refine z_isub B dX8_between_35 hf (fun v35 hf => ?_)
      exact z_ireturn B dX8_between_36 hf
def mR_between (N : Nat) (σ : ST) : Option (Int32 × ST) :=
  zGet (σ 1) 1974 (22) fun v6 =>
  zLet ((v6 : Int32) - (1)) fun v8 =>
  zLet ((v8 : Int32) - (1)) fun v12 =>
  mR_between_14 N σ v8 v12
set_option maxRecDepth 20000 in
set_option maxHeartbeats 2000000 in
theorem cR_between {adr : Nat → Nat} {cI cZ : ClassId} {l : Launch} {D : va_G} {N : Nat} {σ : ST} (q : Int32 × ST) (hf : mR_between N σ = some q) : zM l D (wdR adr cI cZ) yX8_between cX8_between 3 (some .int) ({ frames := 1, cells := 0, slots := 0, locals := 21 }) [.ref (adr 0)] σ (zi q) := by
  refine zM_of rfl (Nat.le_of_ble_eq_true rfl) [(0, .ref (adr 0))] rfl (fun X hX1 hX2 B => ?_)
  have B : zC X 3 (wdR adr cI cZ) cX8_between RX8 (some .int) { frames := 1, cells := 0, slots := 0, locals := 21 } := B
  refine z_aload_n B dX8_between_0 0 rfl rfl ?_
  refine fR_g_row B dX8_between_1 ?_
  refine z_bipush B (22) dX8_between_4 zc_bipush_22 ?_
  refine fR_l_row B dX8_between_6 hf (fun v6 hf => ?_)
  refine z_iconst B (1) dX8_between_7 zc_iconst_1 ?_
  refine z_isub B dX8_between_8 hf (fun v8 hf => ?_)
  refine z_istore_n B [(1, .int v8), (0, .ref (adr 0))] dX8_between_9 rfl (Nat.le_of_ble_eq_true rfl) rfl ?_
  refine z_iload_n B dX8_between_10 0 rfl rfl ?_
  refine z_iconst B (1) dX8_between_11 zc_iconst_1 ?_
  refine z_isub B dX8_between_12 hf (fun v12 hf => ?_)
  refine z_istore_n B [(2, .int v12), (1, .int v8), (0, .ref (adr 0))] dX8_between_13 rfl (Nat.le_of_ble_eq_true rfl) rfl ?_
  exact z_loc [2, 1, 0] _ rfl (tR_between_14 B N σ v8 v12 hf)
theorem dX8_timesRead_0 : decode cX8_timesRead 0 = .ok (.iconst 0, 1) := by decide +kernel
theorem dX8_timesRead_1 : decode cX8_timesRead 1 = .ok (.istore_n 2, 1) := by decide +kernel
theorem dX8_timesRead_2 : decode cX8_timesRead 2 = .ok (.iconst 0, 1) := by decide +kernel
theorem dX8_timesRead_3 : decode cX8_timesRead 3 = .ok (.istore_n 3, 1) := by decide +kernel
theorem dX8_timesRead_4 : decode cX8_timesRead 4 = .ok (.iload_n 3, 1) := by decide +kernel
theorem dX8_timesRead_5 : decode cX8_timesRead 5 = .ok (.aload_n 0, 1) := by decide +kernel
theorem dX8_timesRead_6 : decode cX8_timesRead 6 = .ok (.getfield 9, 3) := by decide +kernel
theorem dX8_timesRead_9 : decode cX8_timesRead 9 = .ok (.bipush 22, 2) := by decide +kernel
theorem dX8_timesRead_11 : decode cX8_timesRead 11 = .ok (.iaload, 1) := by decide +kernel
theorem dX8_timesRead_12 : decode cX8_timesRead 12 = .ok (.if_icmp .ge 26, 3) := by decide +kernel
theorem dX8_timesRead_15 : decode cX8_timesRead 15 = .ok (.iload_n 2, 1) := by decide +kernel
theorem dX8_timesRead_16 : decode cX8_timesRead 16 = .ok (.aload_n 0, 1) := by decide +kernel
theorem dX8_timesRead_17 : decode cX8_timesRead 17 = .ok (.iload_n 3, 1) := by decide +kernel
theorem dX8_timesRead_18 : decode cX8_timesRead 18 = .ok (.invokevirtual 238, 3) := by decide +kernel
theorem dX8_timesRead_21 : decode cX8_timesRead 21 = .ok (.iload_n 1, 1) := by decide +kernel
theorem dX8_timesRead_22 : decode cX8_timesRead 22 = .ok (.if_icmp .ne 7, 3) := by decide +kernel
theorem dX8_timesRead_25 : decode cX8_timesRead 25 = .ok (.iconst 1, 1) := by decide +kernel
theorem dX8_timesRead_26 : decode cX8_timesRead 26 = .ok (.goto 4, 3) := by decide +kernel
theorem dX8_timesRead_29 : decode cX8_timesRead 29 = .ok (.iconst 0, 1) := by decide +kernel
theorem dX8_timesRead_30 : decode cX8_timesRead 30 = .ok (.iadd, 1) := by decide +kernel
theorem dX8_timesRead_31 : decode cX8_timesRead 31 = .ok (.istore_n 2, 1) := by decide +kernel
theorem dX8_timesRead_32 : decode cX8_timesRead 32 = .ok (.iinc 3 1, 3) := by decide +kernel
theorem dX8_timesRead_35 : decode cX8_timesRead 35 = .ok (.goto (-31), 3) := by decide +kernel
theorem dX8_timesRead_38 : decode cX8_timesRead 38 = .ok (.iload_n 2, 1) := by decide +kernel
theorem dX8_timesRead_39 : decode cX8_timesRead 39 = .ok (.ireturn, 1) := by decide +kernel
def mR_timesRead_30 (N : Nat) (hd4 : ST → Int32 → Int32 → Int32 → Option (Int32 × ST)) (σ : ST) (x1 : Int32) (x2 : Int32) (x3 : Int32) (k0 : Int32) (k1 : Int32) : Option (Int32 × ST) :=
  zLet ((k0 : Int32) + k1) fun v30 =>
  zLet (x3 + (1)) fun v32 =>
  hd4 σ x1 v30 v32
set_option maxRecDepth 20000 in
set_option maxHeartbeats 2000000 in
theorem tR_timesRead_30 {adr : Nat → Nat} {cI cZ : ClassId} {X : zX} {q : Int32 × ST} (B : zC X 4 (wdR adr cI cZ) cX8_timesRead RX8 (some .int) { frames := 1, cells := 0, slots := 0, locals := 21 }) (N : Nat) (hd4 : ST → Int32 → Int32 → Int32 → Option (Int32 × ST)) (hh4 : ∀ (σ : ST) (x1 : Int32) (x2 : Int32) (x3 : Int32), hd4 σ x1 x2 x3 = some q → zJ X 4 (wdR adr cI cZ) (zi q) 4 [(0, .ref (adr 0)), (1, .int x1), (2, .int x2), (3, .int x3)] [] σ) (σ : ST) (x1 : Int32) (x2 : Int32) (x3 : Int32) (k0 : Int32) (k1 : Int32) (hf : mR_timesRead_30 N hd4 σ x1 x2 x3 k0 k1 = some q) : zJ X 4 (wdR adr cI cZ) (zi q) 30 [(0, .ref (adr 0)), (1, .int x1), (2, .int x2), (3, .int x3)] [.int k1, .int k0] σ := by
  refine z_iadd B dX8_timesRead_30 hf (fun v30 hf => ?_)
  refine z_istore_n B [(2, .int v30), (0, .ref (adr 0)), (1, .int x1), (3, .int x3)] dX8_timesRead_31 rfl (Nat.le_of_ble_eq_true rfl) rfl ?_
  refine z_iinc B (1) 3 (fun v32 => [(3, .int v32), (2, .int v30), (0, .ref (adr 0)), (1, .int x1)]) dX8_timesRead_32 hf zc_iconst_1 rfl (Nat.le_of_ble_eq_true rfl) (fun _ => rfl) (fun v32 hf => ?_)
  refine z_goto B 4 dX8_timesRead_35 (by decide) ?_
  exact z_loc [2, 3, 1, 0] _ rfl (hh4 σ x1 v30 v32 hf)
def mR_timesRead_B4 (N : Nat) (hd4 : ST → Int32 → Int32 → Int32 → Option (Int32 × ST)) (σ : ST) (x1 : Int32) (x2 : Int32) (x3 : Int32) : Option (Int32 × ST) :=
  zGet (σ 1) 1974 (22) fun v11 =>
  if (v11 : Int32) ≤ x3 then
    some (x2, σ)
  else
    zCall (mR_traced N σ x3) fun v18 s18 =>
    if (v18 : Int32) = x1 then
      mR_timesRead_30 N hd4 s18 x1 x2 x3 x2 (1)
    else
      mR_timesRead_30 N hd4 s18 x1 x2 x3 x2 (0)
def mR_timesRead_4 (N : Nat) : ST → Int32 → Int32 → Int32 → Option (Int32 × ST) := zIt (mR_timesRead_B4 N) (fun _ _ _ _ => none) N
set_option maxRecDepth 20000 in
set_option maxHeartbeats 2000000 in
theorem tR_timesRead_4 {adr : Nat → Nat} {cI cZ : ClassId} {X : zX} {q : Int32 × ST} (B : zC X 4 (wdR adr cI cZ) cX8_timesRead RX8 (some .int) { frames := 1, cells := 0, slots := 0, locals := 21 }) (N : Nat) : ∀ (σ : ST) (x1 : Int32) (x2 : Int32) (x3 : Int32), mR_timesRead_4 N σ x1 x2 x3 = some q → zJ X 4 (wdR adr cI cZ) (zi q) 4 [(0, .ref (adr 0)), (1, .int x1), (2, .int x2), (3, .int x3)] [] σ := by
  refine zIt_ind (P := fun (hd : ST → Int32 → Int32 → Int32 → Option (Int32 × ST)) => ∀ (σ : ST) (x1 : Int32) (x2 : Int32) (x3 : Int32), hd σ x1 x2 x3 = some q → zJ X 4 (wdR adr cI cZ) (zi q) 4 [(0, .ref (adr 0)), (1, .int x1), (2, .int x2), (3, .int x3)] [] σ) (fun _ _ _ _ hf => by cases hf) (fun hd4 hh4 => ?_) N
  intro σ x1 x2 x3 hf
  refine z_iload_n B dX8_timesRead_4 3 rfl rfl ?_
  refine z_aload_n B dX8_timesRead_5 0 rfl rfl ?_
  refine fR_g_row B dX8_timesRead_6 ?_
  refine z_bipush B (22) dX8_timesRead_9 zc_bipush_22 ?_
  refine fR_l_row B dX8_timesRead_11 hf (fun v11 hf => ?_)
  refine z_icmp_ge B 38 dX8_timesRead_12 (by decide) hf (fun hf => ?_) (fun hf => ?_)
  · refine z_iload_n B dX8_timesRead_38 2 rfl rfl ?_
    exact z_ireturn B dX8_timesRead_39 hf
  · refine z_iload_n B dX8_timesRead_15 2 rfl rfl ?_
    refine z_aload_n B dX8_timesRead_16 0 rfl rfl ?_
    refine z_iload_n B dX8_timesRead_17 3 rfl rfl ?_
    refine z_callVi B (As := [.int x3]) kcV_X8_238 dX8_timesRead_18 hf (fun q hq => cR_traced q hq) (wR_o (adr := adr) (cI := cI) (cZ := cZ)) rfl rfl rfl rfl (Nat.le_of_ble_eq_true rfl) rfl rfl ⟨Nat.le_of_ble_eq_true rfl, Nat.le_of_ble_eq_true rfl⟩ (fun v18 s18 hf => ?_)
    refine z_iload_n B dX8_timesRead_21 1 rfl rfl ?_
    refine z_icmp_ne B 29 dX8_timesRead_22 (by decide) hf (fun hf => ?_) (fun hf => ?_)
    · refine z_iconst B (0) dX8_timesRead_29 zc_iconst_0 ?_
      exact tR_timesRead_30 B N hd4 hh4 s18 x1 x2 x3 x2 (0) hf
    · refine z_iconst B (1) dX8_timesRead_25 zc_iconst_1 ?_
      refine z_goto B 30 dX8_timesRead_26 (by decide) ?_
      exact tR_timesRead_30 B N hd4 hh4 s18 x1 x2 x3 x2 (1) hf
def mR_timesRead (N : Nat) (σ : ST) (x1 : Int32) : Option (Int32 × ST) :=
  mR_timesRead_4 N σ x1 (0) (0)
set_option maxRecDepth 20000 in
set_option maxHeartbeats 2000000 in
theorem cR_timesRead {adr : Nat → Nat} {cI cZ : ClassId} {l : Launch} {D : va_G} {N : Nat} {σ : ST} {x1 : Int32} (q : Int32 × ST) (hf : mR_timesRead N σ x1 = some q) : zM l D (wdR adr cI cZ) yX8_timesRead cX8_timesRead 4 (some .int) ({ frames := 1, cells := 0, slots := 0, locals := 21 }) [.ref (adr 0), .int x1] σ (zi q) := by
  refine zM_of rfl (Nat.le_of_ble_eq_true rfl) [(0, .ref (adr 0)), (1, .int x1)] rfl (fun X hX1 hX2 B => ?_)
  have B : zC X 4 (wdR adr cI cZ) cX8_timesRead RX8 (some .int) { frames := 1, cells := 0, slots := 0, locals := 21 } := B
  refine z_iconst B (0) dX8_timesRead_0 zc_iconst_0 ?_
  refine z_istore_n B [(2, .int (0)), (0, .ref (adr 0)), (1, .int x1)] dX8_timesRead_1 rfl (Nat.le_of_ble_eq_true rfl) rfl ?_
  refine z_iconst B (0) dX8_timesRead_2 zc_iconst_0 ?_
  refine z_istore_n B [(3, .int (0)), (2, .int (0)), (0, .ref (adr 0)), (1, .int x1)] dX8_timesRead_3 rfl (Nat.le_of_ble_eq_true rfl) rfl ?_
  exact z_loc [2, 3, 1, 0] _ rfl (tR_timesRead_4 B N σ x1 (0) (0) hf)
theorem dX8_mostRead_0 : decode cX8_mostRead 0 = .ok (.iconst (-1), 1) := by decide +kernel
theorem dX8_mostRead_1 : decode cX8_mostRead 1 = .ok (.istore_n 1, 1) := by decide +kernel
theorem dX8_mostRead_2 : decode cX8_mostRead 2 = .ok (.iconst 0, 1) := by decide +kernel
theorem dX8_mostRead_3 : decode cX8_mostRead 3 = .ok (.istore_n 2, 1) := by decide +kernel
theorem dX8_mostRead_4 : decode cX8_mostRead 4 = .ok (.iconst 0, 1) := by decide +kernel
theorem dX8_mostRead_5 : decode cX8_mostRead 5 = .ok (.istore_n 3, 1) := by decide +kernel
theorem dX8_mostRead_6 : decode cX8_mostRead 6 = .ok (.iload_n 3, 1) := by decide +kernel
theorem dX8_mostRead_7 : decode cX8_mostRead 7 = .ok (.aload_n 0, 1) := by decide +kernel
theorem dX8_mostRead_8 : decode cX8_mostRead 8 = .ok (.getfield 9, 3) := by decide +kernel
theorem dX8_mostRead_11 : decode cX8_mostRead 11 = .ok (.bipush 22, 2) := by decide +kernel
theorem dX8_mostRead_13 : decode cX8_mostRead 13 = .ok (.iaload, 1) := by decide +kernel
theorem dX8_mostRead_14 : decode cX8_mostRead 14 = .ok (.if_icmp .ge 50, 3) := by decide +kernel
theorem dX8_mostRead_17 : decode cX8_mostRead 17 = .ok (.aload_n 0, 1) := by decide +kernel
theorem dX8_mostRead_18 : decode cX8_mostRead 18 = .ok (.aload_n 0, 1) := by decide +kernel
theorem dX8_mostRead_19 : decode cX8_mostRead 19 = .ok (.iload_n 3, 1) := by decide +kernel
theorem dX8_mostRead_20 : decode cX8_mostRead 20 = .ok (.invokevirtual 238, 3) := by decide +kernel
theorem dX8_mostRead_23 : decode cX8_mostRead 23 = .ok (.invokevirtual 249, 3) := by decide +kernel
theorem dX8_mostRead_26 : decode cX8_mostRead 26 = .ok (.istore 4, 2) := by decide +kernel
theorem dX8_mostRead_28 : decode cX8_mostRead 28 = .ok (.iload 4, 2) := by decide +kernel
theorem dX8_mostRead_30 : decode cX8_mostRead 30 = .ok (.iload_n 2, 1) := by decide +kernel
theorem dX8_mostRead_31 : decode cX8_mostRead 31 = .ok (.if_icmp .gt 18, 3) := by decide +kernel
theorem dX8_mostRead_34 : decode cX8_mostRead 34 = .ok (.iload 4, 2) := by decide +kernel
theorem dX8_mostRead_36 : decode cX8_mostRead 36 = .ok (.iload_n 2, 1) := by decide +kernel
theorem dX8_mostRead_37 : decode cX8_mostRead 37 = .ok (.if_icmp .ne 21, 3) := by decide +kernel
theorem dX8_mostRead_40 : decode cX8_mostRead 40 = .ok (.aload_n 0, 1) := by decide +kernel
theorem dX8_mostRead_41 : decode cX8_mostRead 41 = .ok (.iload_n 3, 1) := by decide +kernel
theorem dX8_mostRead_42 : decode cX8_mostRead 42 = .ok (.invokevirtual 238, 3) := by decide +kernel
theorem dX8_mostRead_45 : decode cX8_mostRead 45 = .ok (.iload_n 1, 1) := by decide +kernel
theorem dX8_mostRead_46 : decode cX8_mostRead 46 = .ok (.if_icmp .ge 12, 3) := by decide +kernel
theorem dX8_mostRead_49 : decode cX8_mostRead 49 = .ok (.aload_n 0, 1) := by decide +kernel
theorem dX8_mostRead_50 : decode cX8_mostRead 50 = .ok (.iload_n 3, 1) := by decide +kernel
theorem dX8_mostRead_51 : decode cX8_mostRead 51 = .ok (.invokevirtual 238, 3) := by decide +kernel
theorem dX8_mostRead_54 : decode cX8_mostRead 54 = .ok (.istore_n 1, 1) := by decide +kernel
theorem dX8_mostRead_55 : decode cX8_mostRead 55 = .ok (.iload 4, 2) := by decide +kernel
theorem dX8_mostRead_57 : decode cX8_mostRead 57 = .ok (.istore_n 2, 1) := by decide +kernel
theorem dX8_mostRead_58 : decode cX8_mostRead 58 = .ok (.iinc 3 1, 3) := by decide +kernel
theorem dX8_mostRead_61 : decode cX8_mostRead 61 = .ok (.goto (-55), 3) := by decide +kernel
theorem dX8_mostRead_64 : decode cX8_mostRead 64 = .ok (.iload_n 1, 1) := by decide +kernel
theorem dX8_mostRead_65 : decode cX8_mostRead 65 = .ok (.ireturn, 1) := by decide +kernel
def mR_mostRead_58 (N : Nat) (hd6 : ST → Int32 → Int32 → Int32 → Option (Int32 × ST)) (σ : ST) (x1 : Int32) (x2 : Int32) (x3 : Int32) (x4 : Int32) : Option (Int32 × ST) :=
  zLet (x3 + (1)) fun v58 =>
  hd6 σ x1 x2 v58
set_option maxRecDepth 20000 in
set_option maxHeartbeats 2000000 in
theorem tR_mostRead_58 {adr : Nat → Nat} {cI cZ : ClassId} {X : zX} {q : Int32 × ST} (B : zC X 5 (wdR adr cI cZ) cX8_mostRead RX8 (some .int) { frames := 2, cells := 0, slots := 0, locals := 44 }) (N : Nat) (hd6 : ST → Int32 → Int32 → Int32 → Option (Int32 × ST)) (hh6 : ∀ (σ : ST) (x1 : Int32) (x2 : Int32) (x3 : Int32), hd6 σ x1 x2 x3 = some q → zJ X 5 (wdR adr cI cZ) (zi q) 6 [(0, .ref (adr 0)), (1, .int x1), (2, .int x2), (3, .int x3)] [] σ) (σ : ST) (x1 : Int32) (x2 : Int32) (x3 : Int32) (x4 : Int32) (hf : mR_mostRead_58 N hd6 σ x1 x2 x3 x4 = some q) : zJ X 5 (wdR adr cI cZ) (zi q) 58 [(0, .ref (adr 0)), (1, .int x1), (2, .int x2), (3, .int x3), (4, .int x4)] [] σ := by
  refine z_iinc B (1) 3 (fun v58 => [(3, .int v58), (0, .ref (adr 0)), (1, .int x1), (2, .int x2), (4, .int x4)]) dX8_mostRead_58 hf zc_iconst_1 rfl (Nat.le_of_ble_eq_true rfl) (fun _ => rfl) (fun v58 hf => ?_)
  refine z_goto B 6 dX8_mostRead_61 (by decide) ?_
  exact z_loc [1, 2, 3, 0] _ rfl (hh6 σ x1 x2 v58 hf)
def mR_mostRead_49 (N : Nat) (hd6 : ST → Int32 → Int32 → Int32 → Option (Int32 × ST)) (σ : ST) (x1 : Int32) (x2 : Int32) (x3 : Int32) (x4 : Int32) : Option (Int32 × ST) :=
  zCall (mR_traced N σ x3) fun v51 s51 =>
  mR_mostRead_58 N hd6 s51 v51 x4 x3 x4
set_option maxRecDepth 20000 in
set_option maxHeartbeats 2000000 in
theorem tR_mostRead_49 {adr : Nat → Nat} {cI cZ : ClassId} {X : zX} {q : Int32 × ST} (B : zC X 5 (wdR adr cI cZ) cX8_mostRead RX8 (some .int) { frames := 2, cells := 0, slots := 0, locals := 44 }) (N : Nat) (hd6 : ST → Int32 → Int32 → Int32 → Option (Int32 × ST)) (hh6 : ∀ (σ : ST) (x1 : Int32) (x2 : Int32) (x3 : Int32), hd6 σ x1 x2 x3 = some q → zJ X 5 (wdR adr cI cZ) (zi q) 6 [(0, .ref (adr 0)), (1, .int x1), (2, .int x2), (3, .int x3)] [] σ) (σ : ST) (x1 : Int32) (x2 : Int32) (x3 : Int32) (x4 : Int32) (hf : mR_mostRead_49 N hd6 σ x1 x2 x3 x4 = some q) : zJ X 5 (wdR adr cI cZ) (zi q) 49 [(0, .ref (adr 0)), (1, .int x1), (2, .int x2), (3, .int x3), (4, .int x4)] [] σ := by
  refine z_aload_n B dX8_mostRead_49 0 rfl rfl ?_
  refine z_iload_n B dX8_mostRead_50 3 rfl rfl ?_
  refine z_callVi B (As := [.int x3]) kcV_X8_238 dX8_mostRead_51 hf (fun q hq => cR_traced q hq) (wR_o (adr := adr) (cI := cI) (cZ := cZ)) rfl rfl rfl rfl (Nat.le_of_ble_eq_true rfl) rfl rfl ⟨Nat.le_of_ble_eq_true rfl, Nat.le_of_ble_eq_true rfl⟩ (fun v51 s51 hf => ?_)
  refine z_istore_n B [(1, .int v51), (0, .ref (adr 0)), (2, .int x2), (3, .int x3), (4, .int x4)] dX8_mostRead_54 rfl (Nat.le_of_ble_eq_true rfl) rfl ?_
  refine z_iload B dX8_mostRead_55 4 rfl ?_
  refine z_istore_n B [(2, .int x4), (1, .int v51), (0, .ref (adr 0)), (3, .int x3), (4, .int x4)] dX8_mostRead_57 rfl (Nat.le_of_ble_eq_true rfl) rfl ?_
  exact z_loc [2, 1, 0, 3, 4] _ rfl (tR_mostRead_58 B N hd6 hh6 s51 v51 x4 x3 x4 hf)
def mR_mostRead_B6 (N : Nat) (hd6 : ST → Int32 → Int32 → Int32 → Option (Int32 × ST)) (σ : ST) (x1 : Int32) (x2 : Int32) (x3 : Int32) : Option (Int32 × ST) :=
  zGet (σ 1) 1974 (22) fun v13 =>
  if (v13 : Int32) ≤ x3 then
    some (x1, σ)
  else
    zCall (mR_traced N σ x3) fun v20 s20 =>
    zCall (mR_timesRead N s20 v20) fun v23 s23 =>
    if (x2 : Int32) < v23 then
      mR_mostRead_49 N hd6 s23 x1 x2 x3 v23
    else
      if (v23 : Int32) = x2 then
        zCall (mR_traced N s23 x3) fun v42 s42 =>
        if (x1 : Int32) ≤ v42 then
          mR_mostRead_58 N hd6 s42 x1 x2 x3 v23
        else
          mR_mostRead_49 N hd6 s42 x1 x2 x3 v23
      else
        mR_mostRead_58 N hd6 s23 x1 x2 x3 v23
def mR_mostRead_6 (N : Nat) : ST → Int32 → Int32 → Int32 → Option (Int32 × ST) := zIt (mR_mostRead_B6 N) (fun _ _ _ _ => none) N
set_option maxRecDepth 20000 in
set_option maxHeartbeats 2000000 in
theorem tR_mostRead_6 {adr : Nat → Nat} {cI cZ : ClassId} {X : zX} {q : Int32 × ST} (B : zC X 5 (wdR adr cI cZ) cX8_mostRead RX8 (some .int) { frames := 2, cells := 0, slots := 0, locals := 44 }) (N : Nat) : ∀ (σ : ST) (x1 : Int32) (x2 : Int32) (x3 : Int32), mR_mostRead_6 N σ x1 x2 x3 = some q → zJ X 5 (wdR adr cI cZ) (zi q) 6 [(0, .ref (adr 0)), (1, .int x1), (2, .int x2), (3, .int x3)] [] σ := by
  refine zIt_ind (P := fun (hd : ST → Int32 → Int32 → Int32 → Option (Int32 × ST)) => ∀ (σ : ST) (x1 : Int32) (x2 : Int32) (x3 : Int32), hd σ x1 x2 x3 = some q → zJ X 5 (wdR adr cI cZ) (zi q) 6 [(0, .ref (adr 0)), (1, .int x1), (2, .int x2), (3, .int x3)] [] σ) (fun _ _ _ _ hf => by cases hf) (fun hd6 hh6 => ?_) N
  intro σ x1 x2 x3 hf
  refine z_iload_n B dX8_mostRead_6 3 rfl rfl ?_
  refine z_aload_n B dX8_mostRead_7 0 rfl rfl ?_
  refine fR_g_row B dX8_mostRead_8 ?_
  refine z_bipush B (22) dX8_mostRead_11 zc_bipush_22 ?_
  refine fR_l_row B dX8_mostRead_13 hf (fun v13 hf => ?_)
  refine z_icmp_ge B 64 dX8_mostRead_14 (by decide) hf (fun hf => ?_) (fun hf => ?_)
  · refine z_iload_n B dX8_mostRead_64 1 rfl rfl ?_
    exact z_ireturn B dX8_mostRead_65 hf
  · refine z_aload_n B dX8_mostRead_17 0 rfl rfl ?_
    refine z_aload_n B dX8_mostRead_18 0 rfl rfl ?_
    refine z_iload_n B dX8_mostRead_19 3 rfl rfl ?_
    refine z_callVi B (As := [.int x3]) kcV_X8_238 dX8_mostRead_20 hf (fun q hq => cR_traced q hq) (wR_o (adr := adr) (cI := cI) (cZ := cZ)) rfl rfl rfl rfl (Nat.le_of_ble_eq_true rfl) rfl rfl ⟨Nat.le_of_ble_eq_true rfl, Nat.le_of_ble_eq_true rfl⟩ (fun v20 s20 hf => ?_)
    refine z_callVi B (As := [.int v20]) kcV_X8_249 dX8_mostRead_23 hf (fun q hq => cR_timesRead q hq) (wR_o (adr := adr) (cI := cI) (cZ := cZ)) rfl rfl rfl rfl (Nat.le_of_ble_eq_true rfl) rfl rfl ⟨Nat.le_of_ble_eq_true rfl, Nat.le_of_ble_eq_true rfl⟩ (fun v23 s23 hf => ?_)
    refine z_istore B [(4, .int v23), (0, .ref (adr 0)), (1, .int x1), (2, .int x2), (3, .int x3)] dX8_mostRead_26 (Nat.le_of_ble_eq_true rfl) rfl ?_
    refine z_iload B dX8_mostRead_28 0 rfl ?_
    refine z_iload_n B dX8_mostRead_30 3 rfl rfl ?_
    refine z_icmp_gt B 49 dX8_mostRead_31 (by decide) hf (fun hf => ?_) (fun hf => ?_)
    · exact z_loc [1, 2, 3, 4, 0] _ rfl (tR_mostRead_49 B N hd6 hh6 s23 x1 x2 x3 v23 hf)
    · refine z_iload B dX8_mostRead_34 0 rfl ?_
      refine z_iload_n B dX8_mostRead_36 3 rfl rfl ?_
      refine z_icmp_ne B 58 dX8_mostRead_37 (by decide) hf (fun hf => ?_) (fun hf => ?_)
      · exact z_loc [1, 2, 3, 4, 0] _ rfl (tR_mostRead_58 B N hd6 hh6 s23 x1 x2 x3 v23 hf)
      · refine z_aload_n B dX8_mostRead_40 1 rfl rfl ?_
        refine z_iload_n B dX8_mostRead_41 4 rfl rfl ?_
        refine z_callVi B (As := [.int x3]) kcV_X8_238 dX8_mostRead_42 hf (fun q hq => cR_traced q hq) (wR_o (adr := adr) (cI := cI) (cZ := cZ)) rfl rfl rfl rfl (Nat.le_of_ble_eq_true rfl) rfl rfl ⟨Nat.le_of_ble_eq_true rfl, Nat.le_of_ble_eq_true rfl⟩ (fun v42 s42 hf => ?_)
        refine z_iload_n B dX8_mostRead_45 2 rfl rfl ?_
        refine z_icmp_ge B 58 dX8_mostRead_46 (by decide) hf (fun hf => ?_) (fun hf => ?_)
        · exact z_loc [1, 2, 3, 4, 0] _ rfl (tR_mostRead_58 B N hd6 hh6 s42 x1 x2 x3 v23 hf)
        · exact z_loc [1, 2, 3, 4, 0] _ rfl (tR_mostRead_49 B N hd6 hh6 s42 x1 x2 x3 v23 hf)
def mR_mostRead (N : Nat) (σ : ST) : Option (Int32 × ST) :=
  mR_mostRead_6 N σ (-1) (0) (0)
set_option maxRecDepth 20000 in
set_option maxHeartbeats 2000000 in
theorem cR_mostRead {adr : Nat → Nat} {cI cZ : ClassId} {l : Launch} {D : va_G} {N : Nat} {σ : ST} (q : Int32 × ST) (hf : mR_mostRead N σ = some q) : zM l D (wdR adr cI cZ) yX8_mostRead cX8_mostRead 5 (some .int) ({ frames := 2, cells := 0, slots := 0, locals := 44 }) [.ref (adr 0)] σ (zi q) := by
  refine zM_of rfl (Nat.le_of_ble_eq_true rfl) [(0, .ref (adr 0))] rfl (fun X hX1 hX2 B => ?_)
  have B : zC X 5 (wdR adr cI cZ) cX8_mostRead RX8 (some .int) { frames := 2, cells := 0, slots := 0, locals := 44 } := B
  refine z_iconst B (-1) dX8_mostRead_0 zc_iconst_m1 ?_
  refine z_istore_n B [(1, .int (-1)), (0, .ref (adr 0))] dX8_mostRead_1 rfl (Nat.le_of_ble_eq_true rfl) rfl ?_
  refine z_iconst B (0) dX8_mostRead_2 zc_iconst_0 ?_
  refine z_istore_n B [(2, .int (0)), (1, .int (-1)), (0, .ref (adr 0))] dX8_mostRead_3 rfl (Nat.le_of_ble_eq_true rfl) rfl ?_
  refine z_iconst B (0) dX8_mostRead_4 zc_iconst_0 ?_
  refine z_istore_n B [(3, .int (0)), (2, .int (0)), (1, .int (-1)), (0, .ref (adr 0))] dX8_mostRead_5 rfl (Nat.le_of_ble_eq_true rfl) rfl ?_
  exact z_loc [3, 2, 1, 0] _ rfl (tR_mostRead_6 B N σ (-1) (0) (0) hf)
