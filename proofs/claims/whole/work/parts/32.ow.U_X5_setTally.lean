theorem dX5_setTally_0 : decode cX5_setTally 0 = .ok (.iload_n 1, 1) := by decide +kernel
theorem dX5_setTally_1 : decode cX5_setTally 1 = .ok (.ifCond .lt 17, 3) := by decide +kernel
theorem dX5_setTally_4 : decode cX5_setTally 4 = .ok (.iload_n 1, 1) := by decide +kernel
theorem dX5_setTally_5 : decode cX5_setTally 5 = .ok (.sipush 10000, 3) := by decide +kernel
theorem dX5_setTally_8 : decode cX5_setTally 8 = .ok (.if_icmp .ge 10, 3) := by decide +kernel
theorem dX5_setTally_11 : decode cX5_setTally 11 = .ok (.aload_n 0, 1) := by decide +kernel
theorem dX5_setTally_12 : decode cX5_setTally 12 = .ok (.getfield 9, 3) := by decide +kernel
theorem dX5_setTally_15 : decode cX5_setTally 15 = .ok (.iload_n 1, 1) := by decide +kernel
theorem dX5_setTally_16 : decode cX5_setTally 16 = .ok (.iload_n 2, 1) := by decide +kernel
theorem dX5_setTally_17 : decode cX5_setTally 17 = .ok (.iastore, 1) := by decide +kernel
theorem dX5_setTally_18 : decode cX5_setTally 18 = .ok (.return_, 1) := by decide +kernel
def mU_X5_setTally_18 (N : Nat) (σ : ST) (x1 : Int32) (x2 : Int32) : Option (ST) :=
  some σ
set_option maxRecDepth 20000 in
set_option maxHeartbeats 2000000 in
theorem tU_X5_setTally_18 {adr : Nat → Nat} {cI cZ cS : ClassId} {X : zX} {q : ST} (B : zC X 3 (wdU adr cI cZ cS) cX5_setTally RX5 none { frames := 0, cells := 0, slots := 0, locals := 0 }) (N : Nat) (σ : ST) (x1 : Int32) (x2 : Int32) (hf : mU_X5_setTally_18 N σ x1 x2 = some q) : zJ X 3 (wdU adr cI cZ cS) (zu q) 18 [(0, .ref (adr 0)), (1, .int x1), (2, .int x2)] [] σ := by
  exact z_return B dX5_setTally_18 hf
def mU_X5_setTally (N : Nat) (σ : ST) (x1 : Int32) (x2 : Int32) : Option (ST) :=
  if (x1 : Int32) < 0 then
    mU_X5_setTally_18 N σ x1 x2
  else
    if ((10000) : Int32) ≤ x1 then
      mU_X5_setTally_18 N σ x1 x2
    else
      zSet σ 1 10000 x1 x2 fun s17 =>
      mU_X5_setTally_18 N s17 x1 x2
set_option maxRecDepth 20000 in
set_option maxHeartbeats 2000000 in
theorem cU_X5_setTally {adr : Nat → Nat} {cI cZ cS : ClassId} {l : Launch} {D : va_G} {N : Nat} {σ : ST} {x1 : Int32} {x2 : Int32} (q : ST) (hf : mU_X5_setTally N σ x1 x2 = some q) : zM l D (wdU adr cI cZ cS) yX5_setTally cX5_setTally 3 none ({ frames := 0, cells := 0, slots := 0, locals := 0 }) [.ref (adr 0), .int x1, .int x2] σ (zu q) := by
  refine zM_of sfU_ok rfl (Nat.le_of_ble_eq_true rfl) [(0, .ref (adr 0)), (1, .int x1), (2, .int x2)] rfl (fun X hX1 hX2 B => ?_)
  have B : zC X 3 (wdU adr cI cZ cS) cX5_setTally RX5 none { frames := 0, cells := 0, slots := 0, locals := 0 } := B
  refine z_iload_n B dX5_setTally_0 1 rfl rfl ?_
  refine z_if_lt B 18 dX5_setTally_1 (by decide) hf (fun hf => ?_) (fun hf => ?_)
  · exact tU_X5_setTally_18 B N σ x1 x2 hf
  · refine z_iload_n B dX5_setTally_4 1 rfl rfl ?_
    refine z_sipush B (10000) dX5_setTally_5 zc_sipush_10000 ?_
    refine z_icmp_ge B 18 dX5_setTally_8 (by decide) hf (fun hf => ?_) (fun hf => ?_)
    · exact tU_X5_setTally_18 B N σ x1 x2 hf
    · refine z_aload_n B dX5_setTally_11 0 rfl rfl ?_
      refine fU_g_X5_U_tally B dX5_setTally_12 ?_
      refine z_iload_n B dX5_setTally_15 1 rfl rfl ?_
      refine z_iload_n B dX5_setTally_16 2 rfl rfl ?_
      refine fU_s_U_tally B dX5_setTally_17 hf (fun s17 hf => ?_)
      exact tU_X5_setTally_18 B N s17 x1 x2 hf
theorem dX5_clearTally_0 : decode cX5_clearTally 0 = .ok (.iconst 0, 1) := by decide +kernel
theorem dX5_clearTally_1 : decode cX5_clearTally 1 = .ok (.istore_n 1, 1) := by decide +kernel
theorem dX5_clearTally_2 : decode cX5_clearTally 2 = .ok (.iload_n 1, 1) := by decide +kernel
theorem dX5_clearTally_3 : decode cX5_clearTally 3 = .ok (.aload_n 0, 1) := by decide +kernel
theorem dX5_clearTally_4 : decode cX5_clearTally 4 = .ok (.getfield 24, 3) := by decide +kernel
theorem dX5_clearTally_7 : decode cX5_clearTally 7 = .ok (.getfield 28, 3) := by decide +kernel
theorem dX5_clearTally_10 : decode cX5_clearTally 10 = .ok (.if_icmp .ge 22, 3) := by decide +kernel
theorem dX5_clearTally_13 : decode cX5_clearTally 13 = .ok (.aload_n 0, 1) := by decide +kernel
theorem dX5_clearTally_14 : decode cX5_clearTally 14 = .ok (.aload_n 0, 1) := by decide +kernel
theorem dX5_clearTally_15 : decode cX5_clearTally 15 = .ok (.getfield 24, 3) := by decide +kernel
theorem dX5_clearTally_18 : decode cX5_clearTally 18 = .ok (.iload_n 1, 1) := by decide +kernel
theorem dX5_clearTally_19 : decode cX5_clearTally 19 = .ok (.invokevirtual 34, 3) := by decide +kernel
theorem dX5_clearTally_22 : decode cX5_clearTally 22 = .ok (.iconst 0, 1) := by decide +kernel
theorem dX5_clearTally_23 : decode cX5_clearTally 23 = .ok (.invokevirtual 38, 3) := by decide +kernel
theorem dX5_clearTally_26 : decode cX5_clearTally 26 = .ok (.iinc 1 1, 3) := by decide +kernel
theorem dX5_clearTally_29 : decode cX5_clearTally 29 = .ok (.goto (-27), 3) := by decide +kernel
theorem dX5_clearTally_32 : decode cX5_clearTally 32 = .ok (.return_, 1) := by decide +kernel
def mU_X5_clearTally_B2 (N : Nat) (hd2 : ST → Int32 → Option (ST)) (σ : ST) (x1 : Int32) : Option (ST) :=
  zLet (σ 5 4) fun v7 =>
  if (v7 : Int32) ≤ x1 then
    some σ
  else
    zCall (mU_X3_blockAt N σ x1) fun v19 s19 =>
    zCallu (mU_X5_setTally N s19 v19 (0)) fun s23 =>
    zLet (x1 + (1)) fun v26 =>
    hd2 s23 v26
def mU_X5_clearTally_2 (N : Nat) : ST → Int32 → Option (ST) := zIt (mU_X5_clearTally_B2 N) (fun _ _ => none) N
set_option maxRecDepth 20000 in
set_option maxHeartbeats 2000000 in
theorem tU_X5_clearTally_2 {adr : Nat → Nat} {cI cZ cS : ClassId} {X : zX} {q : ST} (B : zC X 2 (wdU adr cI cZ cS) cX5_clearTally RX5 none { frames := 2, cells := 0, slots := 0, locals := 43 }) (N : Nat) : ∀ (σ : ST) (x1 : Int32), mU_X5_clearTally_2 N σ x1 = some q → zJ X 2 (wdU adr cI cZ cS) (zu q) 2 [(0, .ref (adr 0)), (1, .int x1)] [] σ := by
  refine zIt_ind (P := fun (hd : ST → Int32 → Option (ST)) => ∀ (σ : ST) (x1 : Int32), hd σ x1 = some q → zJ X 2 (wdU adr cI cZ cS) (zu q) 2 [(0, .ref (adr 0)), (1, .int x1)] [] σ) (fun _ _ hf => by cases hf) (fun hd2 hh2 => ?_) N
  intro σ x1 hf
  refine z_iload_n B dX5_clearTally_2 1 rfl rfl ?_
  refine z_aload_n B dX5_clearTally_3 0 rfl rfl ?_
  refine fU_g_X5_U_history B dX5_clearTally_4 ?_
  refine fU_g_X5_H_length B dX5_clearTally_7 hf (fun v7 hf => ?_)
  refine z_icmp_ge B 32 dX5_clearTally_10 (by decide) hf (fun hf => ?_) (fun hf => ?_)
  · exact z_return B dX5_clearTally_32 hf
  · refine z_aload_n B dX5_clearTally_13 0 rfl rfl ?_
    refine z_aload_n B dX5_clearTally_14 0 rfl rfl ?_
    refine fU_g_X5_U_history B dX5_clearTally_15 ?_
    refine z_iload_n B dX5_clearTally_18 1 rfl rfl ?_
    refine z_callVi B (As := [.int x1]) kcV_X5_34 dX5_clearTally_19 hf (fun q hq => cU_X3_blockAt q hq) (wU_o_H (adr := adr) (cI := cI) (cZ := cZ) (cS := cS)) rfl rfl rfl rfl (Nat.le_of_ble_eq_true rfl) rfl rfl ⟨Nat.le_of_ble_eq_true rfl, Nat.le_of_ble_eq_true rfl⟩ (fun v19 s19 hf => ?_)
    refine z_iconst B (0) dX5_clearTally_22 zc_iconst_0 ?_
    refine z_callVu B (As := [.int v19, .int (0)]) kcV_X5_38 dX5_clearTally_23 hf (fun q hq => cU_X5_setTally q hq) (wU_o_U (adr := adr) (cI := cI) (cZ := cZ) (cS := cS)) rfl rfl rfl rfl (Nat.le_of_ble_eq_true rfl) rfl rfl ⟨Nat.le_of_ble_eq_true rfl, Nat.le_of_ble_eq_true rfl⟩ (fun s23 hf => ?_)
    refine z_iinc B (1) 1 (fun v26 => [(1, .int v26), (0, .ref (adr 0))]) dX5_clearTally_26 hf zc_iconst_1 rfl (Nat.le_of_ble_eq_true rfl) (fun _ => rfl) (fun v26 hf => ?_)
    refine z_goto B 2 dX5_clearTally_29 (by decide) ?_
    exact z_loc [1, 0] _ rfl (hh2 s23 v26 hf)
def mU_X5_clearTally (N : Nat) (σ : ST) : Option (ST) :=
  mU_X5_clearTally_2 N σ (0)
set_option maxRecDepth 20000 in
set_option maxHeartbeats 2000000 in
theorem cU_X5_clearTally {adr : Nat → Nat} {cI cZ cS : ClassId} {l : Launch} {D : va_G} {N : Nat} {σ : ST} (q : ST) (hf : mU_X5_clearTally N σ = some q) : zM l D (wdU adr cI cZ cS) yX5_clearTally cX5_clearTally 2 none ({ frames := 2, cells := 0, slots := 0, locals := 43 }) [.ref (adr 0)] σ (zu q) := by
  refine zM_of sfU_ok rfl (Nat.le_of_ble_eq_true rfl) [(0, .ref (adr 0))] rfl (fun X hX1 hX2 B => ?_)
  have B : zC X 2 (wdU adr cI cZ cS) cX5_clearTally RX5 none { frames := 2, cells := 0, slots := 0, locals := 43 } := B
  refine z_iconst B (0) dX5_clearTally_0 zc_iconst_0 ?_
  refine z_istore_n B [(1, .int (0)), (0, .ref (adr 0))] dX5_clearTally_1 rfl (Nat.le_of_ble_eq_true rfl) rfl ?_
  exact z_loc [1, 0] _ rfl (tU_X5_clearTally_2 B N σ (0) hf)
theorem dX5_tallyOf_0 : decode cX5_tallyOf 0 = .ok (.iload_n 1, 1) := by decide +kernel
theorem dX5_tallyOf_1 : decode cX5_tallyOf 1 = .ok (.ifCond .lt 10, 3) := by decide +kernel
theorem dX5_tallyOf_4 : decode cX5_tallyOf 4 = .ok (.iload_n 1, 1) := by decide +kernel
theorem dX5_tallyOf_5 : decode cX5_tallyOf 5 = .ok (.sipush 10000, 3) := by decide +kernel
theorem dX5_tallyOf_8 : decode cX5_tallyOf 8 = .ok (.if_icmp .lt 7, 3) := by decide +kernel
theorem dX5_tallyOf_11 : decode cX5_tallyOf 11 = .ok (.iconst 0, 1) := by decide +kernel
theorem dX5_tallyOf_12 : decode cX5_tallyOf 12 = .ok (.goto 9, 3) := by decide +kernel
theorem dX5_tallyOf_15 : decode cX5_tallyOf 15 = .ok (.aload_n 0, 1) := by decide +kernel
theorem dX5_tallyOf_16 : decode cX5_tallyOf 16 = .ok (.getfield 9, 3) := by decide +kernel
theorem dX5_tallyOf_19 : decode cX5_tallyOf 19 = .ok (.iload_n 1, 1) := by decide +kernel
theorem dX5_tallyOf_20 : decode cX5_tallyOf 20 = .ok (.iaload, 1) := by decide +kernel
theorem dX5_tallyOf_21 : decode cX5_tallyOf 21 = .ok (.ireturn, 1) := by decide +kernel
def mU_X5_tallyOf_21 (N : Nat) (σ : ST) (x1 : Int32) (k0 : Int32) : Option (Int32 × ST) :=
  some (k0, σ)
set_option maxRecDepth 20000 in
set_option maxHeartbeats 2000000 in
theorem tU_X5_tallyOf_21 {adr : Nat → Nat} {cI cZ cS : ClassId} {X : zX} {q : Int32 × ST} (B : zC X 2 (wdU adr cI cZ cS) cX5_tallyOf RX5 (some .int) { frames := 0, cells := 0, slots := 0, locals := 0 }) (N : Nat) (σ : ST) (x1 : Int32) (k0 : Int32) (hf : mU_X5_tallyOf_21 N σ x1 k0 = some q) : zJ X 2 (wdU adr cI cZ cS) (zi q) 21 [(0, .ref (adr 0)), (1, .int x1)] [.int k0] σ := by
  exact z_ireturn B dX5_tallyOf_21 hf
def mU_X5_tallyOf_11 (N : Nat) (σ : ST) (x1 : Int32) : Option (Int32 × ST) :=
  mU_X5_tallyOf_21 N σ x1 (0)
set_option maxRecDepth 20000 in
set_option maxHeartbeats 2000000 in
theorem tU_X5_tallyOf_11 {adr : Nat → Nat} {cI cZ cS : ClassId} {X : zX} {q : Int32 × ST} (B : zC X 2 (wdU adr cI cZ cS) cX5_tallyOf RX5 (some .int) { frames := 0, cells := 0, slots := 0, locals := 0 }) (N : Nat) (σ : ST) (x1 : Int32) (hf : mU_X5_tallyOf_11 N σ x1 = some q) : zJ X 2 (wdU adr cI cZ cS) (zi q) 11 [(0, .ref (adr 0)), (1, .int x1)] [] σ := by
  refine z_iconst B (0) dX5_tallyOf_11 zc_iconst_0 ?_
  refine z_goto B 21 dX5_tallyOf_12 (by decide) ?_
  exact tU_X5_tallyOf_21 B N σ x1 (0) hf
def mU_X5_tallyOf (N : Nat) (σ : ST) (x1 : Int32) : Option (Int32 × ST) :=
  if (x1 : Int32) < 0 then
    mU_X5_tallyOf_11 N σ x1
  else
    if (x1 : Int32) < (10000) then
      zGet (σ 1) 10000 x1 fun v20 =>
      mU_X5_tallyOf_21 N σ x1 v20
    else
      mU_X5_tallyOf_11 N σ x1
set_option maxRecDepth 20000 in
set_option maxHeartbeats 2000000 in
theorem cU_X5_tallyOf {adr : Nat → Nat} {cI cZ cS : ClassId} {l : Launch} {D : va_G} {N : Nat} {σ : ST} {x1 : Int32} (q : Int32 × ST) (hf : mU_X5_tallyOf N σ x1 = some q) : zM l D (wdU adr cI cZ cS) yX5_tallyOf cX5_tallyOf 2 (some .int) ({ frames := 0, cells := 0, slots := 0, locals := 0 }) [.ref (adr 0), .int x1] σ (zi q) := by
  refine zM_of sfU_ok rfl (Nat.le_of_ble_eq_true rfl) [(0, .ref (adr 0)), (1, .int x1)] rfl (fun X hX1 hX2 B => ?_)
  have B : zC X 2 (wdU adr cI cZ cS) cX5_tallyOf RX5 (some .int) { frames := 0, cells := 0, slots := 0, locals := 0 } := B
  refine z_iload_n B dX5_tallyOf_0 1 rfl rfl ?_
  refine z_if_lt B 11 dX5_tallyOf_1 (by decide) hf (fun hf => ?_) (fun hf => ?_)
  · exact tU_X5_tallyOf_11 B N σ x1 hf
  · refine z_iload_n B dX5_tallyOf_4 1 rfl rfl ?_
    refine z_sipush B (10000) dX5_tallyOf_5 zc_sipush_10000 ?_
    refine z_icmp_lt B 15 dX5_tallyOf_8 (by decide) hf (fun hf => ?_) (fun hf => ?_)
    · refine z_aload_n B dX5_tallyOf_15 0 rfl rfl ?_
      refine fU_g_X5_U_tally B dX5_tallyOf_16 ?_
      refine z_iload_n B dX5_tallyOf_19 1 rfl rfl ?_
      refine fU_l_U_tally B dX5_tallyOf_20 hf (fun v20 hf => ?_)
      exact tU_X5_tallyOf_21 B N σ x1 v20 hf
    · exact tU_X5_tallyOf_11 B N σ x1 hf
theorem dX5_unlikeBlocks_0 : decode cX5_unlikeBlocks 0 = .ok (.iconst 0, 1) := by decide +kernel
theorem dX5_unlikeBlocks_1 : decode cX5_unlikeBlocks 1 = .ok (.istore_n 1, 1) := by decide +kernel
theorem dX5_unlikeBlocks_2 : decode cX5_unlikeBlocks 2 = .ok (.iconst 0, 1) := by decide +kernel
theorem dX5_unlikeBlocks_3 : decode cX5_unlikeBlocks 3 = .ok (.istore_n 2, 1) := by decide +kernel
theorem dX5_unlikeBlocks_4 : decode cX5_unlikeBlocks 4 = .ok (.iload_n 2, 1) := by decide +kernel
theorem dX5_unlikeBlocks_5 : decode cX5_unlikeBlocks 5 = .ok (.aload_n 0, 1) := by decide +kernel
theorem dX5_unlikeBlocks_6 : decode cX5_unlikeBlocks 6 = .ok (.getfield 24, 3) := by decide +kernel
theorem dX5_unlikeBlocks_9 : decode cX5_unlikeBlocks 9 = .ok (.getfield 28, 3) := by decide +kernel
theorem dX5_unlikeBlocks_12 : decode cX5_unlikeBlocks 12 = .ok (.if_icmp .ge 35, 3) := by decide +kernel
theorem dX5_unlikeBlocks_15 : decode cX5_unlikeBlocks 15 = .ok (.aload_n 0, 1) := by decide +kernel
theorem dX5_unlikeBlocks_16 : decode cX5_unlikeBlocks 16 = .ok (.getfield 24, 3) := by decide +kernel
theorem dX5_unlikeBlocks_19 : decode cX5_unlikeBlocks 19 = .ok (.iload_n 2, 1) := by decide +kernel
theorem dX5_unlikeBlocks_20 : decode cX5_unlikeBlocks 20 = .ok (.invokevirtual 34, 3) := by decide +kernel
theorem dX5_unlikeBlocks_23 : decode cX5_unlikeBlocks 23 = .ok (.istore_n 3, 1) := by decide +kernel
theorem dX5_unlikeBlocks_24 : decode cX5_unlikeBlocks 24 = .ok (.aload_n 0, 1) := by decide +kernel
theorem dX5_unlikeBlocks_25 : decode cX5_unlikeBlocks 25 = .ok (.iload_n 3, 1) := by decide +kernel
theorem dX5_unlikeBlocks_26 : decode cX5_unlikeBlocks 26 = .ok (.invokevirtual 58, 3) := by decide +kernel
theorem dX5_unlikeBlocks_29 : decode cX5_unlikeBlocks 29 = .ok (.ifCond .ne 12, 3) := by decide +kernel
theorem dX5_unlikeBlocks_32 : decode cX5_unlikeBlocks 32 = .ok (.iinc 1 1, 3) := by decide +kernel
theorem dX5_unlikeBlocks_35 : decode cX5_unlikeBlocks 35 = .ok (.aload_n 0, 1) := by decide +kernel
theorem dX5_unlikeBlocks_36 : decode cX5_unlikeBlocks 36 = .ok (.iload_n 3, 1) := by decide +kernel
theorem dX5_unlikeBlocks_37 : decode cX5_unlikeBlocks 37 = .ok (.iconst 1, 1) := by decide +kernel
theorem dX5_unlikeBlocks_38 : decode cX5_unlikeBlocks 38 = .ok (.invokevirtual 38, 3) := by decide +kernel
theorem dX5_unlikeBlocks_41 : decode cX5_unlikeBlocks 41 = .ok (.iinc 2 1, 3) := by decide +kernel
theorem dX5_unlikeBlocks_44 : decode cX5_unlikeBlocks 44 = .ok (.goto (-40), 3) := by decide +kernel
theorem dX5_unlikeBlocks_47 : decode cX5_unlikeBlocks 47 = .ok (.aload_n 0, 1) := by decide +kernel
theorem dX5_unlikeBlocks_48 : decode cX5_unlikeBlocks 48 = .ok (.invokevirtual 61, 3) := by decide +kernel
theorem dX5_unlikeBlocks_51 : decode cX5_unlikeBlocks 51 = .ok (.iload_n 1, 1) := by decide +kernel
theorem dX5_unlikeBlocks_52 : decode cX5_unlikeBlocks 52 = .ok (.ireturn, 1) := by decide +kernel
def mU_X5_unlikeBlocks_41 (N : Nat) (hd4 : ST → Int32 → Int32 → Option (Int32 × ST)) (σ : ST) (x1 : Int32) (x2 : Int32) (x3 : Int32) : Option (Int32 × ST) :=
  zLet (x2 + (1)) fun v41 =>
  hd4 σ x1 v41
set_option maxRecDepth 20000 in
set_option maxHeartbeats 2000000 in
theorem tU_X5_unlikeBlocks_41 {adr : Nat → Nat} {cI cZ cS : ClassId} {X : zX} {q : Int32 × ST} (B : zC X 4 (wdU adr cI cZ cS) cX5_unlikeBlocks RX5 (some .int) { frames := 3, cells := 0, slots := 0, locals := 64 }) (N : Nat) (hd4 : ST → Int32 → Int32 → Option (Int32 × ST)) (hh4 : ∀ (σ : ST) (x1 : Int32) (x2 : Int32), hd4 σ x1 x2 = some q → zJ X 4 (wdU adr cI cZ cS) (zi q) 4 [(0, .ref (adr 0)), (1, .int x1), (2, .int x2)] [] σ) (σ : ST) (x1 : Int32) (x2 : Int32) (x3 : Int32) (hf : mU_X5_unlikeBlocks_41 N hd4 σ x1 x2 x3 = some q) : zJ X 4 (wdU adr cI cZ cS) (zi q) 41 [(0, .ref (adr 0)), (1, .int x1), (2, .int x2), (3, .int x3)] [] σ := by
  refine z_iinc B (1) 2 (fun v41 => [(2, .int v41), (0, .ref (adr 0)), (1, .int x1), (3, .int x3)]) dX5_unlikeBlocks_41 hf zc_iconst_1 rfl (Nat.le_of_ble_eq_true rfl) (fun _ => rfl) (fun v41 hf => ?_)
  refine z_goto B 4 dX5_unlikeBlocks_44 (by decide) ?_
  exact z_loc [1, 2, 0] _ rfl (hh4 σ x1 v41 hf)
def mU_X5_unlikeBlocks_B4 (N : Nat) (hd4 : ST → Int32 → Int32 → Option (Int32 × ST)) (σ : ST) (x1 : Int32) (x2 : Int32) : Option (Int32 × ST) :=
  zLet (σ 5 4) fun v9 =>
  if (v9 : Int32) ≤ x2 then
    zCallu (mU_X5_clearTally N σ) fun s48 =>
    some (x1, s48)
  else
    zCall (mU_X3_blockAt N σ x2) fun v20 s20 =>
    zCall (mU_X5_tallyOf N s20 v20) fun v26 s26 =>
    if (v26 : Int32) = 0 then
      zLet (x1 + (1)) fun v32 =>
      zCallu (mU_X5_setTally N s26 v20 (1)) fun s38 =>
      mU_X5_unlikeBlocks_41 N hd4 s38 v32 x2 v20
    else
      mU_X5_unlikeBlocks_41 N hd4 s26 x1 x2 v20
def mU_X5_unlikeBlocks_4 (N : Nat) : ST → Int32 → Int32 → Option (Int32 × ST) := zIt (mU_X5_unlikeBlocks_B4 N) (fun _ _ _ => none) N
set_option maxRecDepth 20000 in
set_option maxHeartbeats 2000000 in
theorem tU_X5_unlikeBlocks_4 {adr : Nat → Nat} {cI cZ cS : ClassId} {X : zX} {q : Int32 × ST} (B : zC X 4 (wdU adr cI cZ cS) cX5_unlikeBlocks RX5 (some .int) { frames := 3, cells := 0, slots := 0, locals := 64 }) (N : Nat) : ∀ (σ : ST) (x1 : Int32) (x2 : Int32), mU_X5_unlikeBlocks_4 N σ x1 x2 = some q → zJ X 4 (wdU adr cI cZ cS) (zi q) 4 [(0, .ref (adr 0)), (1, .int x1), (2, .int x2)] [] σ := by
  refine zIt_ind (P := fun (hd : ST → Int32 → Int32 → Option (Int32 × ST)) => ∀ (σ : ST) (x1 : Int32) (x2 : Int32), hd σ x1 x2 = some q → zJ X 4 (wdU adr cI cZ cS) (zi q) 4 [(0, .ref (adr 0)), (1, .int x1), (2, .int x2)] [] σ) (fun _ _ _ hf => by cases hf) (fun hd4 hh4 => ?_) N
  intro σ x1 x2 hf
  refine z_iload_n B dX5_unlikeBlocks_4 2 rfl rfl ?_
  refine z_aload_n B dX5_unlikeBlocks_5 0 rfl rfl ?_
  refine fU_g_X5_U_history B dX5_unlikeBlocks_6 ?_
  refine fU_g_X5_H_length B dX5_unlikeBlocks_9 hf (fun v9 hf => ?_)
  refine z_icmp_ge B 47 dX5_unlikeBlocks_12 (by decide) hf (fun hf => ?_) (fun hf => ?_)
  · refine z_aload_n B dX5_unlikeBlocks_47 0 rfl rfl ?_
    refine z_callVu B (As := []) kcV_X5_61 dX5_unlikeBlocks_48 hf (fun q hq => cU_X5_clearTally q hq) (wU_o_U (adr := adr) (cI := cI) (cZ := cZ) (cS := cS)) rfl rfl rfl rfl (Nat.le_of_ble_eq_true rfl) rfl rfl ⟨Nat.le_of_ble_eq_true rfl, Nat.le_of_ble_eq_true rfl⟩ (fun s48 hf => ?_)
    refine z_iload_n B dX5_unlikeBlocks_51 1 rfl rfl ?_
    exact z_ireturn B dX5_unlikeBlocks_52 hf
  · refine z_aload_n B dX5_unlikeBlocks_15 0 rfl rfl ?_
    refine fU_g_X5_U_history B dX5_unlikeBlocks_16 ?_
    refine z_iload_n B dX5_unlikeBlocks_19 2 rfl rfl ?_
    refine z_callVi B (As := [.int x2]) kcV_X5_34 dX5_unlikeBlocks_20 hf (fun q hq => cU_X3_blockAt q hq) (wU_o_H (adr := adr) (cI := cI) (cZ := cZ) (cS := cS)) rfl rfl rfl rfl (Nat.le_of_ble_eq_true rfl) rfl rfl ⟨Nat.le_of_ble_eq_true rfl, Nat.le_of_ble_eq_true rfl⟩ (fun v20 s20 hf => ?_)
    refine z_istore_n B [(3, .int v20), (0, .ref (adr 0)), (1, .int x1), (2, .int x2)] dX5_unlikeBlocks_23 rfl (Nat.le_of_ble_eq_true rfl) rfl ?_
    refine z_aload_n B dX5_unlikeBlocks_24 1 rfl rfl ?_
    refine z_iload_n B dX5_unlikeBlocks_25 0 rfl rfl ?_
    refine z_callVi B (As := [.int v20]) kcV_X5_58 dX5_unlikeBlocks_26 hf (fun q hq => cU_X5_tallyOf q hq) (wU_o_U (adr := adr) (cI := cI) (cZ := cZ) (cS := cS)) rfl rfl rfl rfl (Nat.le_of_ble_eq_true rfl) rfl rfl ⟨Nat.le_of_ble_eq_true rfl, Nat.le_of_ble_eq_true rfl⟩ (fun v26 s26 hf => ?_)
    refine z_if_ne B 41 dX5_unlikeBlocks_29 (by decide) hf (fun hf => ?_) (fun hf => ?_)
    · exact z_loc [1, 2, 3, 0] _ rfl (tU_X5_unlikeBlocks_41 B N hd4 hh4 s26 x1 x2 v20 hf)
    · refine z_iinc B (1) 2 (fun v32 => [(1, .int v32), (3, .int v20), (0, .ref (adr 0)), (2, .int x2)]) dX5_unlikeBlocks_32 hf zc_iconst_1 rfl (Nat.le_of_ble_eq_true rfl) (fun _ => rfl) (fun v32 hf => ?_)
      refine z_aload_n B dX5_unlikeBlocks_35 2 rfl rfl ?_
      refine z_iload_n B dX5_unlikeBlocks_36 1 rfl rfl ?_
      refine z_iconst B (1) dX5_unlikeBlocks_37 zc_iconst_1 ?_
      refine z_callVu B (As := [.int v20, .int (1)]) kcV_X5_38 dX5_unlikeBlocks_38 hf (fun q hq => cU_X5_setTally q hq) (wU_o_U (adr := adr) (cI := cI) (cZ := cZ) (cS := cS)) rfl rfl rfl rfl (Nat.le_of_ble_eq_true rfl) rfl rfl ⟨Nat.le_of_ble_eq_true rfl, Nat.le_of_ble_eq_true rfl⟩ (fun s38 hf => ?_)
      exact z_loc [2, 0, 3, 1] _ rfl (tU_X5_unlikeBlocks_41 B N hd4 hh4 s38 v32 x2 v20 hf)
def mU_X5_unlikeBlocks (N : Nat) (σ : ST) : Option (Int32 × ST) :=
  mU_X5_unlikeBlocks_4 N σ (0) (0)
set_option maxRecDepth 20000 in
set_option maxHeartbeats 2000000 in
theorem cU_X5_unlikeBlocks {adr : Nat → Nat} {cI cZ cS : ClassId} {l : Launch} {D : va_G} {N : Nat} {σ : ST} (q : Int32 × ST) (hf : mU_X5_unlikeBlocks N σ = some q) : zM l D (wdU adr cI cZ cS) yX5_unlikeBlocks cX5_unlikeBlocks 4 (some .int) ({ frames := 3, cells := 0, slots := 0, locals := 64 }) [.ref (adr 0)] σ (zi q) := by
  refine zM_of sfU_ok rfl (Nat.le_of_ble_eq_true rfl) [(0, .ref (adr 0))] rfl (fun X hX1 hX2 B => ?_)
  have B : zC X 4 (wdU adr cI cZ cS) cX5_unlikeBlocks RX5 (some .int) { frames := 3, cells := 0, slots := 0, locals := 64 } := B
  refine z_iconst B (0) dX5_unlikeBlocks_0 zc_iconst_0 ?_
  refine z_istore_n B [(1, .int (0)), (0, .ref (adr 0))] dX5_unlikeBlocks_1 rfl (Nat.le_of_ble_eq_true rfl) rfl ?_
  refine z_iconst B (0) dX5_unlikeBlocks_2 zc_iconst_0 ?_
  refine z_istore_n B [(2, .int (0)), (1, .int (0)), (0, .ref (adr 0))] dX5_unlikeBlocks_3 rfl (Nat.le_of_ble_eq_true rfl) rfl ?_
  exact z_loc [2, 1, 0] _ rfl (tU_X5_unlikeBlocks_4 B N σ (0) (0) hf)
theorem dX5_sinceLatestBlock_0 : decode cX5_sinceLatestBlock 0 = .ok (.aload_n 0, 1) := by decide +kernel
theorem dX5_sinceLatestBlock_1 : decode cX5_sinceLatestBlock 1 = .ok (.getfield 24, 3) := by decide +kernel
theorem dX5_sinceLatestBlock_4 : decode cX5_sinceLatestBlock 4 = .ok (.getfield 28, 3) := by decide +kernel
theorem dX5_sinceLatestBlock_7 : decode cX5_sinceLatestBlock 7 = .ok (.iconst 1, 1) := by decide +kernel
theorem dX5_sinceLatestBlock_8 : decode cX5_sinceLatestBlock 8 = .ok (.isub, 1) := by decide +kernel
theorem dX5_sinceLatestBlock_9 : decode cX5_sinceLatestBlock 9 = .ok (.istore_n 1, 1) := by decide +kernel
theorem dX5_sinceLatestBlock_10 : decode cX5_sinceLatestBlock 10 = .ok (.iload_n 1, 1) := by decide +kernel
theorem dX5_sinceLatestBlock_11 : decode cX5_sinceLatestBlock 11 = .ok (.iconst 1, 1) := by decide +kernel
theorem dX5_sinceLatestBlock_12 : decode cX5_sinceLatestBlock 12 = .ok (.isub, 1) := by decide +kernel
theorem dX5_sinceLatestBlock_13 : decode cX5_sinceLatestBlock 13 = .ok (.istore_n 2, 1) := by decide +kernel
theorem dX5_sinceLatestBlock_14 : decode cX5_sinceLatestBlock 14 = .ok (.iload_n 2, 1) := by decide +kernel
theorem dX5_sinceLatestBlock_15 : decode cX5_sinceLatestBlock 15 = .ok (.ifCond .lt 34, 3) := by decide +kernel
theorem dX5_sinceLatestBlock_18 : decode cX5_sinceLatestBlock 18 = .ok (.aload_n 0, 1) := by decide +kernel
theorem dX5_sinceLatestBlock_19 : decode cX5_sinceLatestBlock 19 = .ok (.getfield 24, 3) := by decide +kernel
theorem dX5_sinceLatestBlock_22 : decode cX5_sinceLatestBlock 22 = .ok (.iload_n 2, 1) := by decide +kernel
theorem dX5_sinceLatestBlock_23 : decode cX5_sinceLatestBlock 23 = .ok (.invokevirtual 34, 3) := by decide +kernel
theorem dX5_sinceLatestBlock_26 : decode cX5_sinceLatestBlock 26 = .ok (.aload_n 0, 1) := by decide +kernel
theorem dX5_sinceLatestBlock_27 : decode cX5_sinceLatestBlock 27 = .ok (.getfield 24, 3) := by decide +kernel
theorem dX5_sinceLatestBlock_30 : decode cX5_sinceLatestBlock 30 = .ok (.iload_n 1, 1) := by decide +kernel
theorem dX5_sinceLatestBlock_31 : decode cX5_sinceLatestBlock 31 = .ok (.invokevirtual 34, 3) := by decide +kernel
theorem dX5_sinceLatestBlock_34 : decode cX5_sinceLatestBlock 34 = .ok (.if_icmp .ne 9, 3) := by decide +kernel
theorem dX5_sinceLatestBlock_37 : decode cX5_sinceLatestBlock 37 = .ok (.iload_n 1, 1) := by decide +kernel
theorem dX5_sinceLatestBlock_38 : decode cX5_sinceLatestBlock 38 = .ok (.iload_n 2, 1) := by decide +kernel
theorem dX5_sinceLatestBlock_39 : decode cX5_sinceLatestBlock 39 = .ok (.isub, 1) := by decide +kernel
theorem dX5_sinceLatestBlock_40 : decode cX5_sinceLatestBlock 40 = .ok (.iconst 1, 1) := by decide +kernel
theorem dX5_sinceLatestBlock_41 : decode cX5_sinceLatestBlock 41 = .ok (.isub, 1) := by decide +kernel
theorem dX5_sinceLatestBlock_42 : decode cX5_sinceLatestBlock 42 = .ok (.ireturn, 1) := by decide +kernel
theorem dX5_sinceLatestBlock_43 : decode cX5_sinceLatestBlock 43 = .ok (.iinc 2 (-1), 3) := by decide +kernel
theorem dX5_sinceLatestBlock_46 : decode cX5_sinceLatestBlock 46 = .ok (.goto (-32), 3) := by decide +kernel
theorem dX5_sinceLatestBlock_49 : decode cX5_sinceLatestBlock 49 = .ok (.iconst (-1), 1) := by decide +kernel
theorem dX5_sinceLatestBlock_50 : decode cX5_sinceLatestBlock 50 = .ok (.ireturn, 1) := by decide +kernel
def mU_X5_sinceLatestBlock_B14 (N : Nat) (hd14 : ST → Int32 → Int32 → Option (Int32 × ST)) (σ : ST) (x1 : Int32) (x2 : Int32) : Option (Int32 × ST) :=
  if (x2 : Int32) < 0 then
    some ((-1), σ)
  else
    zCall (mU_X3_blockAt N σ x2) fun v23 s23 =>
    zCall (mU_X3_blockAt N s23 x1) fun v31 s31 =>
    if (v23 : Int32) = v31 then
      zLet ((x1 : Int32) - x2) fun v39 =>
      zLet ((v39 : Int32) - (1)) fun v41 =>
      some (v41, s31)
    else
      zLet (x2 + (-1)) fun v43 =>
      hd14 s31 x1 v43
def mU_X5_sinceLatestBlock_14 (N : Nat) : ST → Int32 → Int32 → Option (Int32 × ST) := zIt (mU_X5_sinceLatestBlock_B14 N) (fun _ _ _ => none) N
set_option maxRecDepth 20000 in
set_option maxHeartbeats 2000000 in
theorem tU_X5_sinceLatestBlock_14 {adr : Nat → Nat} {cI cZ cS : ClassId} {X : zX} {q : Int32 × ST} (B : zC X 3 (wdU adr cI cZ cS) cX5_sinceLatestBlock RX5 (some .int) { frames := 2, cells := 0, slots := 0, locals := 43 }) (N : Nat) : ∀ (σ : ST) (x1 : Int32) (x2 : Int32), mU_X5_sinceLatestBlock_14 N σ x1 x2 = some q → zJ X 3 (wdU adr cI cZ cS) (zi q) 14 [(0, .ref (adr 0)), (1, .int x1), (2, .int x2)] [] σ := by
  refine zIt_ind (P := fun (hd : ST → Int32 → Int32 → Option (Int32 × ST)) => ∀ (σ : ST) (x1 : Int32) (x2 : Int32), hd σ x1 x2 = some q → zJ X 3 (wdU adr cI cZ cS) (zi q) 14 [(0, .ref (adr 0)), (1, .int x1), (2, .int x2)] [] σ) (fun _ _ _ hf => by cases hf) (fun hd14 hh14 => ?_) N
  intro σ x1 x2 hf
  refine z_iload_n B dX5_sinceLatestBlock_14 2 rfl rfl ?_
  refine z_if_lt B 49 dX5_sinceLatestBlock_15 (by decide) hf (fun hf => ?_) (fun hf => ?_)
  · refine z_iconst B (-1) dX5_sinceLatestBlock_49 zc_iconst_m1 ?_
    exact z_ireturn B dX5_sinceLatestBlock_50 hf
  · refine z_aload_n B dX5_sinceLatestBlock_18 0 rfl rfl ?_
    refine fU_g_X5_U_history B dX5_sinceLatestBlock_19 ?_
    refine z_iload_n B dX5_sinceLatestBlock_22 2 rfl rfl ?_
    refine z_callVi B (As := [.int x2]) kcV_X5_34 dX5_sinceLatestBlock_23 hf (fun q hq => cU_X3_blockAt q hq) (wU_o_H (adr := adr) (cI := cI) (cZ := cZ) (cS := cS)) rfl rfl rfl rfl (Nat.le_of_ble_eq_true rfl) rfl rfl ⟨Nat.le_of_ble_eq_true rfl, Nat.le_of_ble_eq_true rfl⟩ (fun v23 s23 hf => ?_)
    refine z_aload_n B dX5_sinceLatestBlock_26 0 rfl rfl ?_
    refine fU_g_X5_U_history B dX5_sinceLatestBlock_27 ?_
    refine z_iload_n B dX5_sinceLatestBlock_30 1 rfl rfl ?_
    refine z_callVi B (As := [.int x1]) kcV_X5_34 dX5_sinceLatestBlock_31 hf (fun q hq => cU_X3_blockAt q hq) (wU_o_H (adr := adr) (cI := cI) (cZ := cZ) (cS := cS)) rfl rfl rfl rfl (Nat.le_of_ble_eq_true rfl) rfl rfl ⟨Nat.le_of_ble_eq_true rfl, Nat.le_of_ble_eq_true rfl⟩ (fun v31 s31 hf => ?_)
    refine z_icmp_ne B 43 dX5_sinceLatestBlock_34 (by decide) hf (fun hf => ?_) (fun hf => ?_)
    · refine z_iinc B (-1) 2 (fun v43 => [(2, .int v43), (0, .ref (adr 0)), (1, .int x1)]) dX5_sinceLatestBlock_43 hf zc_iconst_m1 rfl (Nat.le_of_ble_eq_true rfl) (fun _ => rfl) (fun v43 hf => ?_)
      refine z_goto B 14 dX5_sinceLatestBlock_46 (by decide) ?_
      exact z_loc [1, 2, 0] _ rfl (hh14 s31 x1 v43 hf)
    · refine z_iload_n B dX5_sinceLatestBlock_37 1 rfl rfl ?_
      refine z_iload_n B dX5_sinceLatestBlock_38 2 rfl rfl ?_
      refine z_isub B dX5_sinceLatestBlock_39 hf (fun v39 hf => ?_)
      refine z_iconst B (1) dX5_sinceLatestBlock_40 zc_iconst_1 ?_
      refine z_isub B dX5_sinceLatestBlock_41 hf (fun v41 hf => ?_)
      exact z_ireturn B dX5_sinceLatestBlock_42 hf
def mU_X5_sinceLatestBlock (N : Nat) (σ : ST) : Option (Int32 × ST) :=
  zLet (σ 5 4) fun v4 =>
  zLet ((v4 : Int32) - (1)) fun v8 =>
  zLet ((v8 : Int32) - (1)) fun v12 =>
  mU_X5_sinceLatestBlock_14 N σ v8 v12
set_option maxRecDepth 20000 in
set_option maxHeartbeats 2000000 in
theorem cU_X5_sinceLatestBlock {adr : Nat → Nat} {cI cZ cS : ClassId} {l : Launch} {D : va_G} {N : Nat} {σ : ST} (q : Int32 × ST) (hf : mU_X5_sinceLatestBlock N σ = some q) : zM l D (wdU adr cI cZ cS) yX5_sinceLatestBlock cX5_sinceLatestBlock 3 (some .int) ({ frames := 2, cells := 0, slots := 0, locals := 43 }) [.ref (adr 0)] σ (zi q) := by
  refine zM_of sfU_ok rfl (Nat.le_of_ble_eq_true rfl) [(0, .ref (adr 0))] rfl (fun X hX1 hX2 B => ?_)
  have B : zC X 3 (wdU adr cI cZ cS) cX5_sinceLatestBlock RX5 (some .int) { frames := 2, cells := 0, slots := 0, locals := 43 } := B
  refine z_aload_n B dX5_sinceLatestBlock_0 0 rfl rfl ?_
  refine fU_g_X5_U_history B dX5_sinceLatestBlock_1 ?_
  refine fU_g_X5_H_length B dX5_sinceLatestBlock_4 hf (fun v4 hf => ?_)
  refine z_iconst B (1) dX5_sinceLatestBlock_7 zc_iconst_1 ?_
  refine z_isub B dX5_sinceLatestBlock_8 hf (fun v8 hf => ?_)
  refine z_istore_n B [(1, .int v8), (0, .ref (adr 0))] dX5_sinceLatestBlock_9 rfl (Nat.le_of_ble_eq_true rfl) rfl ?_
  refine z_iload_n B dX5_sinceLatestBlock_10 0 rfl rfl ?_
  refine z_iconst B (1) dX5_sinceLatestBlock_11 zc_iconst_1 ?_
  refine z_isub B dX5_sinceLatestBlock_12 hf (fun v12 hf => ?_)
  refine z_istore_n B [(2, .int v12), (1, .int v8), (0, .ref (adr 0))] dX5_sinceLatestBlock_13 rfl (Nat.le_of_ble_eq_true rfl) rfl ?_
  exact z_loc [2, 1, 0] _ rfl (tU_X5_sinceLatestBlock_14 B N σ v8 v12 hf)
theorem dX5_favourite_0 : decode cX5_favourite 0 = .ok (.iconst (-1), 1) := by decide +kernel
theorem dX5_favourite_1 : decode cX5_favourite 1 = .ok (.istore_n 1, 1) := by decide +kernel
theorem dX5_favourite_2 : decode cX5_favourite 2 = .ok (.iconst 0, 1) := by decide +kernel
theorem dX5_favourite_3 : decode cX5_favourite 3 = .ok (.istore_n 2, 1) := by decide +kernel
theorem dX5_favourite_4 : decode cX5_favourite 4 = .ok (.iconst 0, 1) := by decide +kernel
theorem dX5_favourite_5 : decode cX5_favourite 5 = .ok (.istore_n 3, 1) := by decide +kernel
theorem dX5_favourite_6 : decode cX5_favourite 6 = .ok (.iload_n 3, 1) := by decide +kernel
theorem dX5_favourite_7 : decode cX5_favourite 7 = .ok (.aload_n 0, 1) := by decide +kernel
theorem dX5_favourite_8 : decode cX5_favourite 8 = .ok (.getfield 24, 3) := by decide +kernel
theorem dX5_favourite_11 : decode cX5_favourite 11 = .ok (.getfield 28, 3) := by decide +kernel
theorem dX5_favourite_14 : decode cX5_favourite 14 = .ok (.if_icmp .ge 33, 3) := by decide +kernel
theorem dX5_favourite_17 : decode cX5_favourite 17 = .ok (.aload_n 0, 1) := by decide +kernel
theorem dX5_favourite_18 : decode cX5_favourite 18 = .ok (.getfield 24, 3) := by decide +kernel
theorem dX5_favourite_21 : decode cX5_favourite 21 = .ok (.iload_n 3, 1) := by decide +kernel
theorem dX5_favourite_22 : decode cX5_favourite 22 = .ok (.invokevirtual 34, 3) := by decide +kernel
theorem dX5_favourite_25 : decode cX5_favourite 25 = .ok (.istore 4, 2) := by decide +kernel
theorem dX5_favourite_27 : decode cX5_favourite 27 = .ok (.aload_n 0, 1) := by decide +kernel
theorem dX5_favourite_28 : decode cX5_favourite 28 = .ok (.iload 4, 2) := by decide +kernel
theorem dX5_favourite_30 : decode cX5_favourite 30 = .ok (.aload_n 0, 1) := by decide +kernel
theorem dX5_favourite_31 : decode cX5_favourite 31 = .ok (.iload 4, 2) := by decide +kernel
theorem dX5_favourite_33 : decode cX5_favourite 33 = .ok (.invokevirtual 58, 3) := by decide +kernel
theorem dX5_favourite_36 : decode cX5_favourite 36 = .ok (.iconst 1, 1) := by decide +kernel
theorem dX5_favourite_37 : decode cX5_favourite 37 = .ok (.iadd, 1) := by decide +kernel
theorem dX5_favourite_38 : decode cX5_favourite 38 = .ok (.invokevirtual 38, 3) := by decide +kernel
theorem dX5_favourite_41 : decode cX5_favourite 41 = .ok (.iinc 3 1, 3) := by decide +kernel
theorem dX5_favourite_44 : decode cX5_favourite 44 = .ok (.goto (-38), 3) := by decide +kernel
theorem dX5_favourite_47 : decode cX5_favourite 47 = .ok (.iconst 0, 1) := by decide +kernel
theorem dX5_favourite_48 : decode cX5_favourite 48 = .ok (.istore_n 3, 1) := by decide +kernel
theorem dX5_favourite_49 : decode cX5_favourite 49 = .ok (.iload_n 3, 1) := by decide +kernel
theorem dX5_favourite_50 : decode cX5_favourite 50 = .ok (.aload_n 0, 1) := by decide +kernel
theorem dX5_favourite_51 : decode cX5_favourite 51 = .ok (.getfield 24, 3) := by decide +kernel
theorem dX5_favourite_54 : decode cX5_favourite 54 = .ok (.getfield 28, 3) := by decide +kernel
theorem dX5_favourite_57 : decode cX5_favourite 57 = .ok (.if_icmp .ge 51, 3) := by decide +kernel
theorem dX5_favourite_60 : decode cX5_favourite 60 = .ok (.aload_n 0, 1) := by decide +kernel
theorem dX5_favourite_61 : decode cX5_favourite 61 = .ok (.getfield 24, 3) := by decide +kernel
theorem dX5_favourite_64 : decode cX5_favourite 64 = .ok (.iload_n 3, 1) := by decide +kernel
theorem dX5_favourite_65 : decode cX5_favourite 65 = .ok (.invokevirtual 34, 3) := by decide +kernel
theorem dX5_favourite_68 : decode cX5_favourite 68 = .ok (.istore 4, 2) := by decide +kernel
theorem dX5_favourite_70 : decode cX5_favourite 70 = .ok (.aload_n 0, 1) := by decide +kernel
theorem dX5_favourite_71 : decode cX5_favourite 71 = .ok (.iload 4, 2) := by decide +kernel
theorem dX5_favourite_73 : decode cX5_favourite 73 = .ok (.invokevirtual 58, 3) := by decide +kernel
theorem dX5_favourite_76 : decode cX5_favourite 76 = .ok (.istore 5, 2) := by decide +kernel
theorem dX5_favourite_78 : decode cX5_favourite 78 = .ok (.iload 5, 2) := by decide +kernel
theorem dX5_favourite_80 : decode cX5_favourite 80 = .ok (.iload_n 2, 1) := by decide +kernel
theorem dX5_favourite_81 : decode cX5_favourite 81 = .ok (.if_icmp .gt 15, 3) := by decide +kernel
theorem dX5_favourite_84 : decode cX5_favourite 84 = .ok (.iload 5, 2) := by decide +kernel
theorem dX5_favourite_86 : decode cX5_favourite 86 = .ok (.iload_n 2, 1) := by decide +kernel
theorem dX5_favourite_87 : decode cX5_favourite 87 = .ok (.if_icmp .ne 15, 3) := by decide +kernel
theorem dX5_favourite_90 : decode cX5_favourite 90 = .ok (.iload 4, 2) := by decide +kernel
theorem dX5_favourite_92 : decode cX5_favourite 92 = .ok (.iload_n 1, 1) := by decide +kernel
theorem dX5_favourite_93 : decode cX5_favourite 93 = .ok (.if_icmp .ge 9, 3) := by decide +kernel
theorem dX5_favourite_96 : decode cX5_favourite 96 = .ok (.iload 4, 2) := by decide +kernel
theorem dX5_favourite_98 : decode cX5_favourite 98 = .ok (.istore_n 1, 1) := by decide +kernel
theorem dX5_favourite_99 : decode cX5_favourite 99 = .ok (.iload 5, 2) := by decide +kernel
theorem dX5_favourite_101 : decode cX5_favourite 101 = .ok (.istore_n 2, 1) := by decide +kernel
theorem dX5_favourite_102 : decode cX5_favourite 102 = .ok (.iinc 3 1, 3) := by decide +kernel
theorem dX5_favourite_105 : decode cX5_favourite 105 = .ok (.goto (-56), 3) := by decide +kernel
theorem dX5_favourite_108 : decode cX5_favourite 108 = .ok (.aload_n 0, 1) := by decide +kernel
theorem dX5_favourite_109 : decode cX5_favourite 109 = .ok (.invokevirtual 61, 3) := by decide +kernel
theorem dX5_favourite_112 : decode cX5_favourite 112 = .ok (.iload_n 1, 1) := by decide +kernel
theorem dX5_favourite_113 : decode cX5_favourite 113 = .ok (.ireturn, 1) := by decide +kernel
def mU_X5_favourite_102 (N : Nat) (hd49 : ST → Int32 → Int32 → Int32 → Option (Int32 × ST)) (σ : ST) (x1 : Int32) (x2 : Int32) (x3 : Int32) (x4 : Int32) (x5 : Int32) : Option (Int32 × ST) :=
  zLet (x3 + (1)) fun v102 =>
  hd49 σ x1 x2 v102
set_option maxRecDepth 20000 in
set_option maxHeartbeats 2000000 in
theorem tU_X5_favourite_102 {adr : Nat → Nat} {cI cZ cS : ClassId} {X : zX} {q : Int32 × ST} (B : zC X 6 (wdU adr cI cZ cS) cX5_favourite RX5 (some .int) { frames := 3, cells := 0, slots := 0, locals := 64 }) (N : Nat) (hd49 : ST → Int32 → Int32 → Int32 → Option (Int32 × ST)) (hh49 : ∀ (σ : ST) (x1 : Int32) (x2 : Int32) (x3 : Int32), hd49 σ x1 x2 x3 = some q → zJ X 6 (wdU adr cI cZ cS) (zi q) 49 [(0, .ref (adr 0)), (1, .int x1), (2, .int x2), (3, .int x3)] [] σ) (σ : ST) (x1 : Int32) (x2 : Int32) (x3 : Int32) (x4 : Int32) (x5 : Int32) (hf : mU_X5_favourite_102 N hd49 σ x1 x2 x3 x4 x5 = some q) : zJ X 6 (wdU adr cI cZ cS) (zi q) 102 [(0, .ref (adr 0)), (1, .int x1), (2, .int x2), (3, .int x3), (4, .int x4), (5, .int x5)] [] σ := by
  refine z_iinc B (1) 3 (fun v102 => [(3, .int v102), (0, .ref (adr 0)), (1, .int x1), (2, .int x2), (4, .int x4), (5, .int x5)]) dX5_favourite_102 hf zc_iconst_1 rfl (Nat.le_of_ble_eq_true rfl) (fun _ => rfl) (fun v102 hf => ?_)
  refine z_goto B 49 dX5_favourite_105 (by decide) ?_
  exact z_loc [1, 2, 3, 0] _ rfl (hh49 σ x1 x2 v102 hf)
def mU_X5_favourite_96 (N : Nat) (hd49 : ST → Int32 → Int32 → Int32 → Option (Int32 × ST)) (σ : ST) (x1 : Int32) (x2 : Int32) (x3 : Int32) (x4 : Int32) (x5 : Int32) : Option (Int32 × ST) :=
  mU_X5_favourite_102 N hd49 σ x4 x5 x3 x4 x5
set_option maxRecDepth 20000 in
set_option maxHeartbeats 2000000 in
theorem tU_X5_favourite_96 {adr : Nat → Nat} {cI cZ cS : ClassId} {X : zX} {q : Int32 × ST} (B : zC X 6 (wdU adr cI cZ cS) cX5_favourite RX5 (some .int) { frames := 3, cells := 0, slots := 0, locals := 64 }) (N : Nat) (hd49 : ST → Int32 → Int32 → Int32 → Option (Int32 × ST)) (hh49 : ∀ (σ : ST) (x1 : Int32) (x2 : Int32) (x3 : Int32), hd49 σ x1 x2 x3 = some q → zJ X 6 (wdU adr cI cZ cS) (zi q) 49 [(0, .ref (adr 0)), (1, .int x1), (2, .int x2), (3, .int x3)] [] σ) (σ : ST) (x1 : Int32) (x2 : Int32) (x3 : Int32) (x4 : Int32) (x5 : Int32) (hf : mU_X5_favourite_96 N hd49 σ x1 x2 x3 x4 x5 = some q) : zJ X 6 (wdU adr cI cZ cS) (zi q) 96 [(0, .ref (adr 0)), (1, .int x1), (2, .int x2), (3, .int x3), (4, .int x4), (5, .int x5)] [] σ := by
  refine z_iload B dX5_favourite_96 4 rfl ?_
  refine z_istore_n B [(1, .int x4), (0, .ref (adr 0)), (2, .int x2), (3, .int x3), (4, .int x4), (5, .int x5)] dX5_favourite_98 rfl (Nat.le_of_ble_eq_true rfl) rfl ?_
  refine z_iload B dX5_favourite_99 5 rfl ?_
  refine z_istore_n B [(2, .int x5), (1, .int x4), (0, .ref (adr 0)), (3, .int x3), (4, .int x4), (5, .int x5)] dX5_favourite_101 rfl (Nat.le_of_ble_eq_true rfl) rfl ?_
  exact z_loc [2, 1, 0, 3, 4, 5] _ rfl (tU_X5_favourite_102 B N hd49 hh49 σ x4 x5 x3 x4 x5 hf)
def mU_X5_favourite_B49 (N : Nat) (hd49 : ST → Int32 → Int32 → Int32 → Option (Int32 × ST)) (σ : ST) (x1 : Int32) (x2 : Int32) (x3 : Int32) : Option (Int32 × ST) :=
  zLet (σ 5 4) fun v54 =>
  if (v54 : Int32) ≤ x3 then
    zCallu (mU_X5_clearTally N σ) fun s109 =>
    some (x1, s109)
  else
    zCall (mU_X3_blockAt N σ x3) fun v65 s65 =>
    zCall (mU_X5_tallyOf N s65 v65) fun v73 s73 =>
    if (x2 : Int32) < v73 then
      mU_X5_favourite_96 N hd49 s73 x1 x2 x3 v65 v73
    else
      if (v73 : Int32) = x2 then
        if (x1 : Int32) ≤ v65 then
          mU_X5_favourite_102 N hd49 s73 x1 x2 x3 v65 v73
        else
          mU_X5_favourite_96 N hd49 s73 x1 x2 x3 v65 v73
      else
        mU_X5_favourite_102 N hd49 s73 x1 x2 x3 v65 v73
def mU_X5_favourite_49 (N : Nat) : ST → Int32 → Int32 → Int32 → Option (Int32 × ST) := zIt (mU_X5_favourite_B49 N) (fun _ _ _ _ => none) N
set_option maxRecDepth 20000 in
set_option maxHeartbeats 2000000 in
theorem tU_X5_favourite_49 {adr : Nat → Nat} {cI cZ cS : ClassId} {X : zX} {q : Int32 × ST} (B : zC X 6 (wdU adr cI cZ cS) cX5_favourite RX5 (some .int) { frames := 3, cells := 0, slots := 0, locals := 64 }) (N : Nat) : ∀ (σ : ST) (x1 : Int32) (x2 : Int32) (x3 : Int32), mU_X5_favourite_49 N σ x1 x2 x3 = some q → zJ X 6 (wdU adr cI cZ cS) (zi q) 49 [(0, .ref (adr 0)), (1, .int x1), (2, .int x2), (3, .int x3)] [] σ := by
  refine zIt_ind (P := fun (hd : ST → Int32 → Int32 → Int32 → Option (Int32 × ST)) => ∀ (σ : ST) (x1 : Int32) (x2 : Int32) (x3 : Int32), hd σ x1 x2 x3 = some q → zJ X 6 (wdU adr cI cZ cS) (zi q) 49 [(0, .ref (adr 0)), (1, .int x1), (2, .int x2), (3, .int x3)] [] σ) (fun _ _ _ _ hf => by cases hf) (fun hd49 hh49 => ?_) N
  intro σ x1 x2 x3 hf
  refine z_iload_n B dX5_favourite_49 3 rfl rfl ?_
  refine z_aload_n B dX5_favourite_50 0 rfl rfl ?_
  refine fU_g_X5_U_history B dX5_favourite_51 ?_
  refine fU_g_X5_H_length B dX5_favourite_54 hf (fun v54 hf => ?_)
  refine z_icmp_ge B 108 dX5_favourite_57 (by decide) hf (fun hf => ?_) (fun hf => ?_)
  · refine z_aload_n B dX5_favourite_108 0 rfl rfl ?_
    refine z_callVu B (As := []) kcV_X5_61 dX5_favourite_109 hf (fun q hq => cU_X5_clearTally q hq) (wU_o_U (adr := adr) (cI := cI) (cZ := cZ) (cS := cS)) rfl rfl rfl rfl (Nat.le_of_ble_eq_true rfl) rfl rfl ⟨Nat.le_of_ble_eq_true rfl, Nat.le_of_ble_eq_true rfl⟩ (fun s109 hf => ?_)
    refine z_iload_n B dX5_favourite_112 1 rfl rfl ?_
    exact z_ireturn B dX5_favourite_113 hf
  · refine z_aload_n B dX5_favourite_60 0 rfl rfl ?_
    refine fU_g_X5_U_history B dX5_favourite_61 ?_
    refine z_iload_n B dX5_favourite_64 3 rfl rfl ?_
    refine z_callVi B (As := [.int x3]) kcV_X5_34 dX5_favourite_65 hf (fun q hq => cU_X3_blockAt q hq) (wU_o_H (adr := adr) (cI := cI) (cZ := cZ) (cS := cS)) rfl rfl rfl rfl (Nat.le_of_ble_eq_true rfl) rfl rfl ⟨Nat.le_of_ble_eq_true rfl, Nat.le_of_ble_eq_true rfl⟩ (fun v65 s65 hf => ?_)
    refine z_istore B [(4, .int v65), (0, .ref (adr 0)), (1, .int x1), (2, .int x2), (3, .int x3)] dX5_favourite_68 (Nat.le_of_ble_eq_true rfl) rfl ?_
    refine z_aload_n B dX5_favourite_70 1 rfl rfl ?_
    refine z_iload B dX5_favourite_71 0 rfl ?_
    refine z_callVi B (As := [.int v65]) kcV_X5_58 dX5_favourite_73 hf (fun q hq => cU_X5_tallyOf q hq) (wU_o_U (adr := adr) (cI := cI) (cZ := cZ) (cS := cS)) rfl rfl rfl rfl (Nat.le_of_ble_eq_true rfl) rfl rfl ⟨Nat.le_of_ble_eq_true rfl, Nat.le_of_ble_eq_true rfl⟩ (fun v73 s73 hf => ?_)
    refine z_istore B [(5, .int v73), (4, .int v65), (0, .ref (adr 0)), (1, .int x1), (2, .int x2), (3, .int x3)] dX5_favourite_76 (Nat.le_of_ble_eq_true rfl) rfl ?_
    refine z_iload B dX5_favourite_78 0 rfl ?_
    refine z_iload_n B dX5_favourite_80 4 rfl rfl ?_
    refine z_icmp_gt B 96 dX5_favourite_81 (by decide) hf (fun hf => ?_) (fun hf => ?_)
    · exact z_loc [2, 3, 4, 5, 1, 0] _ rfl (tU_X5_favourite_96 B N hd49 hh49 s73 x1 x2 x3 v65 v73 hf)
    · refine z_iload B dX5_favourite_84 0 rfl ?_
      refine z_iload_n B dX5_favourite_86 4 rfl rfl ?_
      refine z_icmp_ne B 102 dX5_favourite_87 (by decide) hf (fun hf => ?_) (fun hf => ?_)
      · exact z_loc [2, 3, 4, 5, 1, 0] _ rfl (tU_X5_favourite_102 B N hd49 hh49 s73 x1 x2 x3 v65 v73 hf)
      · refine z_iload B dX5_favourite_90 1 rfl ?_
        refine z_iload_n B dX5_favourite_92 3 rfl rfl ?_
        refine z_icmp_ge B 102 dX5_favourite_93 (by decide) hf (fun hf => ?_) (fun hf => ?_)
        · exact z_loc [2, 3, 4, 5, 1, 0] _ rfl (tU_X5_favourite_102 B N hd49 hh49 s73 x1 x2 x3 v65 v73 hf)
        · exact z_loc [2, 3, 4, 5, 1, 0] _ rfl (tU_X5_favourite_96 B N hd49 hh49 s73 x1 x2 x3 v65 v73 hf)
def mU_X5_favourite_B6 (N : Nat) (hd6 : ST → Int32 → Int32 → Int32 → Option (Int32 × ST)) (σ : ST) (x1 : Int32) (x2 : Int32) (x3 : Int32) : Option (Int32 × ST) :=
  zLet (σ 5 4) fun v11 =>
  if (v11 : Int32) ≤ x3 then
    mU_X5_favourite_49 N σ x1 x2 (0)
  else
    zCall (mU_X3_blockAt N σ x3) fun v22 s22 =>
    zCall (mU_X5_tallyOf N s22 v22) fun v33 s33 =>
    zLet ((v33 : Int32) + (1)) fun v37 =>
    zCallu (mU_X5_setTally N s33 v22 v37) fun s38 =>
    zLet (x3 + (1)) fun v41 =>
    hd6 s38 x1 x2 v41
def mU_X5_favourite_6 (N : Nat) : ST → Int32 → Int32 → Int32 → Option (Int32 × ST) := zIt (mU_X5_favourite_B6 N) (fun _ _ _ _ => none) N
set_option maxRecDepth 20000 in
set_option maxHeartbeats 2000000 in
theorem tU_X5_favourite_6 {adr : Nat → Nat} {cI cZ cS : ClassId} {X : zX} {q : Int32 × ST} (B : zC X 6 (wdU adr cI cZ cS) cX5_favourite RX5 (some .int) { frames := 3, cells := 0, slots := 0, locals := 64 }) (N : Nat) : ∀ (σ : ST) (x1 : Int32) (x2 : Int32) (x3 : Int32), mU_X5_favourite_6 N σ x1 x2 x3 = some q → zJ X 6 (wdU adr cI cZ cS) (zi q) 6 [(0, .ref (adr 0)), (1, .int x1), (2, .int x2), (3, .int x3)] [] σ := by
  refine zIt_ind (P := fun (hd : ST → Int32 → Int32 → Int32 → Option (Int32 × ST)) => ∀ (σ : ST) (x1 : Int32) (x2 : Int32) (x3 : Int32), hd σ x1 x2 x3 = some q → zJ X 6 (wdU adr cI cZ cS) (zi q) 6 [(0, .ref (adr 0)), (1, .int x1), (2, .int x2), (3, .int x3)] [] σ) (fun _ _ _ _ hf => by cases hf) (fun hd6 hh6 => ?_) N
  intro σ x1 x2 x3 hf
  refine z_iload_n B dX5_favourite_6 3 rfl rfl ?_
  refine z_aload_n B dX5_favourite_7 0 rfl rfl ?_
  refine fU_g_X5_U_history B dX5_favourite_8 ?_
  refine fU_g_X5_H_length B dX5_favourite_11 hf (fun v11 hf => ?_)
  refine z_icmp_ge B 47 dX5_favourite_14 (by decide) hf (fun hf => ?_) (fun hf => ?_)
  · refine z_iconst B (0) dX5_favourite_47 zc_iconst_0 ?_
    refine z_istore_n B [(3, .int (0)), (0, .ref (adr 0)), (1, .int x1), (2, .int x2)] dX5_favourite_48 rfl (Nat.le_of_ble_eq_true rfl) rfl ?_
    exact z_loc [1, 2, 3, 0] _ rfl (tU_X5_favourite_49 B N σ x1 x2 (0) hf)
  · refine z_aload_n B dX5_favourite_17 0 rfl rfl ?_
    refine fU_g_X5_U_history B dX5_favourite_18 ?_
    refine z_iload_n B dX5_favourite_21 3 rfl rfl ?_
    refine z_callVi B (As := [.int x3]) kcV_X5_34 dX5_favourite_22 hf (fun q hq => cU_X3_blockAt q hq) (wU_o_H (adr := adr) (cI := cI) (cZ := cZ) (cS := cS)) rfl rfl rfl rfl (Nat.le_of_ble_eq_true rfl) rfl rfl ⟨Nat.le_of_ble_eq_true rfl, Nat.le_of_ble_eq_true rfl⟩ (fun v22 s22 hf => ?_)
    refine z_istore B [(4, .int v22), (0, .ref (adr 0)), (1, .int x1), (2, .int x2), (3, .int x3)] dX5_favourite_25 (Nat.le_of_ble_eq_true rfl) rfl ?_
    refine z_aload_n B dX5_favourite_27 1 rfl rfl ?_
    refine z_iload B dX5_favourite_28 0 rfl ?_
    refine z_aload_n B dX5_favourite_30 1 rfl rfl ?_
    refine z_iload B dX5_favourite_31 0 rfl ?_
    refine z_callVi B (As := [.int v22]) kcV_X5_58 dX5_favourite_33 hf (fun q hq => cU_X5_tallyOf q hq) (wU_o_U (adr := adr) (cI := cI) (cZ := cZ) (cS := cS)) rfl rfl rfl rfl (Nat.le_of_ble_eq_true rfl) rfl rfl ⟨Nat.le_of_ble_eq_true rfl, Nat.le_of_ble_eq_true rfl⟩ (fun v33 s33 hf => ?_)
    refine z_iconst B (1) dX5_favourite_36 zc_iconst_1 ?_
    refine z_iadd B dX5_favourite_37 hf (fun v37 hf => ?_)
    refine z_callVu B (As := [.int v22, .int v37]) kcV_X5_38 dX5_favourite_38 hf (fun q hq => cU_X5_setTally q hq) (wU_o_U (adr := adr) (cI := cI) (cZ := cZ) (cS := cS)) rfl rfl rfl rfl (Nat.le_of_ble_eq_true rfl) rfl rfl ⟨Nat.le_of_ble_eq_true rfl, Nat.le_of_ble_eq_true rfl⟩ (fun s38 hf => ?_)
    refine z_iinc B (1) 4 (fun v41 => [(3, .int v41), (4, .int v22), (0, .ref (adr 0)), (1, .int x1), (2, .int x2)]) dX5_favourite_41 hf zc_iconst_1 rfl (Nat.le_of_ble_eq_true rfl) (fun _ => rfl) (fun v41 hf => ?_)
    refine z_goto B 6 dX5_favourite_44 (by decide) ?_
    exact z_loc [2, 3, 4, 0] _ rfl (hh6 s38 x1 x2 v41 hf)
def mU_X5_favourite (N : Nat) (σ : ST) : Option (Int32 × ST) :=
  mU_X5_favourite_6 N σ (-1) (0) (0)
set_option maxRecDepth 20000 in
set_option maxHeartbeats 2000000 in
theorem cU_X5_favourite {adr : Nat → Nat} {cI cZ cS : ClassId} {l : Launch} {D : va_G} {N : Nat} {σ : ST} (q : Int32 × ST) (hf : mU_X5_favourite N σ = some q) : zM l D (wdU adr cI cZ cS) yX5_favourite cX5_favourite 6 (some .int) ({ frames := 3, cells := 0, slots := 0, locals := 64 }) [.ref (adr 0)] σ (zi q) := by
  refine zM_of sfU_ok rfl (Nat.le_of_ble_eq_true rfl) [(0, .ref (adr 0))] rfl (fun X hX1 hX2 B => ?_)
  have B : zC X 6 (wdU adr cI cZ cS) cX5_favourite RX5 (some .int) { frames := 3, cells := 0, slots := 0, locals := 64 } := B
  refine z_iconst B (-1) dX5_favourite_0 zc_iconst_m1 ?_
  refine z_istore_n B [(1, .int (-1)), (0, .ref (adr 0))] dX5_favourite_1 rfl (Nat.le_of_ble_eq_true rfl) rfl ?_
  refine z_iconst B (0) dX5_favourite_2 zc_iconst_0 ?_
  refine z_istore_n B [(2, .int (0)), (1, .int (-1)), (0, .ref (adr 0))] dX5_favourite_3 rfl (Nat.le_of_ble_eq_true rfl) rfl ?_
  refine z_iconst B (0) dX5_favourite_4 zc_iconst_0 ?_
  refine z_istore_n B [(3, .int (0)), (2, .int (0)), (1, .int (-1)), (0, .ref (adr 0))] dX5_favourite_5 rfl (Nat.le_of_ble_eq_true rfl) rfl ?_
  exact z_loc [3, 2, 1, 0] _ rfl (tU_X5_favourite_6 B N σ (-1) (0) (0) hf)
theorem dX5_timesRead_0 : decode cX5_timesRead 0 = .ok (.iconst 0, 1) := by decide +kernel
theorem dX5_timesRead_1 : decode cX5_timesRead 1 = .ok (.istore_n 2, 1) := by decide +kernel
theorem dX5_timesRead_2 : decode cX5_timesRead 2 = .ok (.iconst 0, 1) := by decide +kernel
theorem dX5_timesRead_3 : decode cX5_timesRead 3 = .ok (.istore_n 3, 1) := by decide +kernel
theorem dX5_timesRead_4 : decode cX5_timesRead 4 = .ok (.iload_n 3, 1) := by decide +kernel
theorem dX5_timesRead_5 : decode cX5_timesRead 5 = .ok (.aload_n 0, 1) := by decide +kernel
theorem dX5_timesRead_6 : decode cX5_timesRead 6 = .ok (.getfield 24, 3) := by decide +kernel
theorem dX5_timesRead_9 : decode cX5_timesRead 9 = .ok (.getfield 28, 3) := by decide +kernel
theorem dX5_timesRead_12 : decode cX5_timesRead 12 = .ok (.if_icmp .ge 24, 3) := by decide +kernel
theorem dX5_timesRead_15 : decode cX5_timesRead 15 = .ok (.aload_n 0, 1) := by decide +kernel
theorem dX5_timesRead_16 : decode cX5_timesRead 16 = .ok (.getfield 24, 3) := by decide +kernel
theorem dX5_timesRead_19 : decode cX5_timesRead 19 = .ok (.iload_n 3, 1) := by decide +kernel
theorem dX5_timesRead_20 : decode cX5_timesRead 20 = .ok (.invokevirtual 34, 3) := by decide +kernel
theorem dX5_timesRead_23 : decode cX5_timesRead 23 = .ok (.iload_n 1, 1) := by decide +kernel
theorem dX5_timesRead_24 : decode cX5_timesRead 24 = .ok (.if_icmp .ne 6, 3) := by decide +kernel
theorem dX5_timesRead_27 : decode cX5_timesRead 27 = .ok (.iinc 2 1, 3) := by decide +kernel
theorem dX5_timesRead_30 : decode cX5_timesRead 30 = .ok (.iinc 3 1, 3) := by decide +kernel
theorem dX5_timesRead_33 : decode cX5_timesRead 33 = .ok (.goto (-29), 3) := by decide +kernel
theorem dX5_timesRead_36 : decode cX5_timesRead 36 = .ok (.iload_n 2, 1) := by decide +kernel
theorem dX5_timesRead_37 : decode cX5_timesRead 37 = .ok (.ireturn, 1) := by decide +kernel
def mU_X5_timesRead_30 (N : Nat) (hd4 : ST → Int32 → Int32 → Int32 → Option (Int32 × ST)) (σ : ST) (x1 : Int32) (x2 : Int32) (x3 : Int32) : Option (Int32 × ST) :=
  zLet (x3 + (1)) fun v30 =>
  hd4 σ x1 x2 v30
set_option maxRecDepth 20000 in
set_option maxHeartbeats 2000000 in
theorem tU_X5_timesRead_30 {adr : Nat → Nat} {cI cZ cS : ClassId} {X : zX} {q : Int32 × ST} (B : zC X 4 (wdU adr cI cZ cS) cX5_timesRead RX5 (some .int) { frames := 2, cells := 0, slots := 0, locals := 43 }) (N : Nat) (hd4 : ST → Int32 → Int32 → Int32 → Option (Int32 × ST)) (hh4 : ∀ (σ : ST) (x1 : Int32) (x2 : Int32) (x3 : Int32), hd4 σ x1 x2 x3 = some q → zJ X 4 (wdU adr cI cZ cS) (zi q) 4 [(0, .ref (adr 0)), (1, .int x1), (2, .int x2), (3, .int x3)] [] σ) (σ : ST) (x1 : Int32) (x2 : Int32) (x3 : Int32) (hf : mU_X5_timesRead_30 N hd4 σ x1 x2 x3 = some q) : zJ X 4 (wdU adr cI cZ cS) (zi q) 30 [(0, .ref (adr 0)), (1, .int x1), (2, .int x2), (3, .int x3)] [] σ := by
  refine z_iinc B (1) 3 (fun v30 => [(3, .int v30), (0, .ref (adr 0)), (1, .int x1), (2, .int x2)]) dX5_timesRead_30 hf zc_iconst_1 rfl (Nat.le_of_ble_eq_true rfl) (fun _ => rfl) (fun v30 hf => ?_)
  refine z_goto B 4 dX5_timesRead_33 (by decide) ?_
  exact z_loc [1, 2, 3, 0] _ rfl (hh4 σ x1 x2 v30 hf)
def mU_X5_timesRead_B4 (N : Nat) (hd4 : ST → Int32 → Int32 → Int32 → Option (Int32 × ST)) (σ : ST) (x1 : Int32) (x2 : Int32) (x3 : Int32) : Option (Int32 × ST) :=
  zLet (σ 5 4) fun v9 =>
  if (v9 : Int32) ≤ x3 then
    some (x2, σ)
  else
    zCall (mU_X3_blockAt N σ x3) fun v20 s20 =>
    if (v20 : Int32) = x1 then
      zLet (x2 + (1)) fun v27 =>
      mU_X5_timesRead_30 N hd4 s20 x1 v27 x3
    else
      mU_X5_timesRead_30 N hd4 s20 x1 x2 x3
def mU_X5_timesRead_4 (N : Nat) : ST → Int32 → Int32 → Int32 → Option (Int32 × ST) := zIt (mU_X5_timesRead_B4 N) (fun _ _ _ _ => none) N
set_option maxRecDepth 20000 in
set_option maxHeartbeats 2000000 in
theorem tU_X5_timesRead_4 {adr : Nat → Nat} {cI cZ cS : ClassId} {X : zX} {q : Int32 × ST} (B : zC X 4 (wdU adr cI cZ cS) cX5_timesRead RX5 (some .int) { frames := 2, cells := 0, slots := 0, locals := 43 }) (N : Nat) : ∀ (σ : ST) (x1 : Int32) (x2 : Int32) (x3 : Int32), mU_X5_timesRead_4 N σ x1 x2 x3 = some q → zJ X 4 (wdU adr cI cZ cS) (zi q) 4 [(0, .ref (adr 0)), (1, .int x1), (2, .int x2), (3, .int x3)] [] σ := by
  refine zIt_ind (P := fun (hd : ST → Int32 → Int32 → Int32 → Option (Int32 × ST)) => ∀ (σ : ST) (x1 : Int32) (x2 : Int32) (x3 : Int32), hd σ x1 x2 x3 = some q → zJ X 4 (wdU adr cI cZ cS) (zi q) 4 [(0, .ref (adr 0)), (1, .int x1), (2, .int x2), (3, .int x3)] [] σ) (fun _ _ _ _ hf => by cases hf) (fun hd4 hh4 => ?_) N
  intro σ x1 x2 x3 hf
  refine z_iload_n B dX5_timesRead_4 3 rfl rfl ?_
  refine z_aload_n B dX5_timesRead_5 0 rfl rfl ?_
  refine fU_g_X5_U_history B dX5_timesRead_6 ?_
  refine fU_g_X5_H_length B dX5_timesRead_9 hf (fun v9 hf => ?_)
  refine z_icmp_ge B 36 dX5_timesRead_12 (by decide) hf (fun hf => ?_) (fun hf => ?_)
  · refine z_iload_n B dX5_timesRead_36 2 rfl rfl ?_
    exact z_ireturn B dX5_timesRead_37 hf
  · refine z_aload_n B dX5_timesRead_15 0 rfl rfl ?_
    refine fU_g_X5_U_history B dX5_timesRead_16 ?_
    refine z_iload_n B dX5_timesRead_19 3 rfl rfl ?_
    refine z_callVi B (As := [.int x3]) kcV_X5_34 dX5_timesRead_20 hf (fun q hq => cU_X3_blockAt q hq) (wU_o_H (adr := adr) (cI := cI) (cZ := cZ) (cS := cS)) rfl rfl rfl rfl (Nat.le_of_ble_eq_true rfl) rfl rfl ⟨Nat.le_of_ble_eq_true rfl, Nat.le_of_ble_eq_true rfl⟩ (fun v20 s20 hf => ?_)
    refine z_iload_n B dX5_timesRead_23 1 rfl rfl ?_
    refine z_icmp_ne B 30 dX5_timesRead_24 (by decide) hf (fun hf => ?_) (fun hf => ?_)
    · exact tU_X5_timesRead_30 B N hd4 hh4 s20 x1 x2 x3 hf
    · refine z_iinc B (1) 2 (fun v27 => [(2, .int v27), (0, .ref (adr 0)), (1, .int x1), (3, .int x3)]) dX5_timesRead_27 hf zc_iconst_1 rfl (Nat.le_of_ble_eq_true rfl) (fun _ => rfl) (fun v27 hf => ?_)
      exact z_loc [1, 2, 0, 3] _ rfl (tU_X5_timesRead_30 B N hd4 hh4 s20 x1 v27 x3 hf)
def mU_X5_timesRead (N : Nat) (σ : ST) (x1 : Int32) : Option (Int32 × ST) :=
  mU_X5_timesRead_4 N σ x1 (0) (0)
set_option maxRecDepth 20000 in
set_option maxHeartbeats 2000000 in
theorem cU_X5_timesRead {adr : Nat → Nat} {cI cZ cS : ClassId} {l : Launch} {D : va_G} {N : Nat} {σ : ST} {x1 : Int32} (q : Int32 × ST) (hf : mU_X5_timesRead N σ x1 = some q) : zM l D (wdU adr cI cZ cS) yX5_timesRead cX5_timesRead 4 (some .int) ({ frames := 2, cells := 0, slots := 0, locals := 43 }) [.ref (adr 0), .int x1] σ (zi q) := by
  refine zM_of sfU_ok rfl (Nat.le_of_ble_eq_true rfl) [(0, .ref (adr 0)), (1, .int x1)] rfl (fun X hX1 hX2 B => ?_)
  have B : zC X 4 (wdU adr cI cZ cS) cX5_timesRead RX5 (some .int) { frames := 2, cells := 0, slots := 0, locals := 43 } := B
  refine z_iconst B (0) dX5_timesRead_0 zc_iconst_0 ?_
  refine z_istore_n B [(2, .int (0)), (0, .ref (adr 0)), (1, .int x1)] dX5_timesRead_1 rfl (Nat.le_of_ble_eq_true rfl) rfl ?_
  refine z_iconst B (0) dX5_timesRead_2 zc_iconst_0 ?_
  refine z_istore_n B [(3, .int (0)), (2, .int (0)), (0, .ref (adr 0)), (1, .int x1)] dX5_timesRead_3 rfl (Nat.le_of_ble_eq_true rfl) rfl ?_
  exact z_loc [2, 3, 1, 0] _ rfl (tU_X5_timesRead_4 B N σ x1 (0) (0) hf)
theorem dX5_longestRow_0 : decode cX5_longestRow 0 = .ok (.iconst 0, 1) := by decide +kernel
theorem dX5_longestRow_1 : decode cX5_longestRow 1 = .ok (.istore_n 2, 1) := by decide +kernel
theorem dX5_longestRow_2 : decode cX5_longestRow 2 = .ok (.iconst 0, 1) := by decide +kernel
theorem dX5_longestRow_3 : decode cX5_longestRow 3 = .ok (.istore_n 3, 1) := by decide +kernel
theorem dX5_longestRow_4 : decode cX5_longestRow 4 = .ok (.iload_n 3, 1) := by decide +kernel
theorem dX5_longestRow_5 : decode cX5_longestRow 5 = .ok (.aload_n 0, 1) := by decide +kernel
theorem dX5_longestRow_6 : decode cX5_longestRow 6 = .ok (.getfield 24, 3) := by decide +kernel
theorem dX5_longestRow_9 : decode cX5_longestRow 9 = .ok (.getfield 28, 3) := by decide +kernel
theorem dX5_longestRow_12 : decode cX5_longestRow 12 = .ok (.if_icmp .ge 61, 3) := by decide +kernel
theorem dX5_longestRow_15 : decode cX5_longestRow 15 = .ok (.aload_n 0, 1) := by decide +kernel
theorem dX5_longestRow_16 : decode cX5_longestRow 16 = .ok (.getfield 24, 3) := by decide +kernel
theorem dX5_longestRow_19 : decode cX5_longestRow 19 = .ok (.iload_n 3, 1) := by decide +kernel
theorem dX5_longestRow_20 : decode cX5_longestRow 20 = .ok (.invokevirtual 34, 3) := by decide +kernel
theorem dX5_longestRow_23 : decode cX5_longestRow 23 = .ok (.istore 4, 2) := by decide +kernel
theorem dX5_longestRow_25 : decode cX5_longestRow 25 = .ok (.aload_n 0, 1) := by decide +kernel
theorem dX5_longestRow_26 : decode cX5_longestRow 26 = .ok (.iload 4, 2) := by decide +kernel
theorem dX5_longestRow_28 : decode cX5_longestRow 28 = .ok (.iload_n 1, 1) := by decide +kernel
theorem dX5_longestRow_29 : decode cX5_longestRow 29 = .ok (.isub, 1) := by decide +kernel
theorem dX5_longestRow_30 : decode cX5_longestRow 30 = .ok (.invokevirtual 58, 3) := by decide +kernel
theorem dX5_longestRow_33 : decode cX5_longestRow 33 = .ok (.iconst 1, 1) := by decide +kernel
theorem dX5_longestRow_34 : decode cX5_longestRow 34 = .ok (.iadd, 1) := by decide +kernel
theorem dX5_longestRow_35 : decode cX5_longestRow 35 = .ok (.istore 5, 2) := by decide +kernel
theorem dX5_longestRow_37 : decode cX5_longestRow 37 = .ok (.aload_n 0, 1) := by decide +kernel
theorem dX5_longestRow_38 : decode cX5_longestRow 38 = .ok (.iload 4, 2) := by decide +kernel
theorem dX5_longestRow_40 : decode cX5_longestRow 40 = .ok (.iload 5, 2) := by decide +kernel
theorem dX5_longestRow_42 : decode cX5_longestRow 42 = .ok (.invokevirtual 38, 3) := by decide +kernel
theorem dX5_longestRow_45 : decode cX5_longestRow 45 = .ok (.iload 5, 2) := by decide +kernel
theorem dX5_longestRow_47 : decode cX5_longestRow 47 = .ok (.iload_n 2, 1) := by decide +kernel
theorem dX5_longestRow_48 : decode cX5_longestRow 48 = .ok (.if_icmp .le 19, 3) := by decide +kernel
theorem dX5_longestRow_51 : decode cX5_longestRow 51 = .ok (.iload 5, 2) := by decide +kernel
theorem dX5_longestRow_53 : decode cX5_longestRow 53 = .ok (.istore_n 2, 1) := by decide +kernel
theorem dX5_longestRow_54 : decode cX5_longestRow 54 = .ok (.aload_n 0, 1) := by decide +kernel
theorem dX5_longestRow_55 : decode cX5_longestRow 55 = .ok (.iload 4, 2) := by decide +kernel
theorem dX5_longestRow_57 : decode cX5_longestRow 57 = .ok (.iload 5, 2) := by decide +kernel
theorem dX5_longestRow_59 : decode cX5_longestRow 59 = .ok (.iconst 1, 1) := by decide +kernel
theorem dX5_longestRow_60 : decode cX5_longestRow 60 = .ok (.isub, 1) := by decide +kernel
theorem dX5_longestRow_61 : decode cX5_longestRow 61 = .ok (.iload_n 1, 1) := by decide +kernel
theorem dX5_longestRow_62 : decode cX5_longestRow 62 = .ok (.imul, 1) := by decide +kernel
theorem dX5_longestRow_63 : decode cX5_longestRow 63 = .ok (.isub, 1) := by decide +kernel
theorem dX5_longestRow_64 : decode cX5_longestRow 64 = .ok (.putfield 64, 3) := by decide +kernel
theorem dX5_longestRow_67 : decode cX5_longestRow 67 = .ok (.iinc 3 1, 3) := by decide +kernel
theorem dX5_longestRow_70 : decode cX5_longestRow 70 = .ok (.goto (-66), 3) := by decide +kernel
theorem dX5_longestRow_73 : decode cX5_longestRow 73 = .ok (.aload_n 0, 1) := by decide +kernel
theorem dX5_longestRow_74 : decode cX5_longestRow 74 = .ok (.invokevirtual 61, 3) := by decide +kernel
theorem dX5_longestRow_77 : decode cX5_longestRow 77 = .ok (.iload_n 2, 1) := by decide +kernel
theorem dX5_longestRow_78 : decode cX5_longestRow 78 = .ok (.ireturn, 1) := by decide +kernel
def mU_X5_longestRow_67 (N : Nat) (hd4 : ST → Int32 → Int32 → Int32 → Option (Int32 × ST)) (σ : ST) (x1 : Int32) (x2 : Int32) (x3 : Int32) (x4 : Int32) (x5 : Int32) : Option (Int32 × ST) :=
  zLet (x3 + (1)) fun v67 =>
  hd4 σ x1 x2 v67
set_option maxRecDepth 20000 in
set_option maxHeartbeats 2000000 in
theorem tU_X5_longestRow_67 {adr : Nat → Nat} {cI cZ cS : ClassId} {X : zX} {q : Int32 × ST} (B : zC X 6 (wdU adr cI cZ cS) cX5_longestRow RX5 (some .int) { frames := 3, cells := 0, slots := 0, locals := 64 }) (N : Nat) (hd4 : ST → Int32 → Int32 → Int32 → Option (Int32 × ST)) (hh4 : ∀ (σ : ST) (x1 : Int32) (x2 : Int32) (x3 : Int32), hd4 σ x1 x2 x3 = some q → zJ X 6 (wdU adr cI cZ cS) (zi q) 4 [(0, .ref (adr 0)), (1, .int x1), (2, .int x2), (3, .int x3)] [] σ) (σ : ST) (x1 : Int32) (x2 : Int32) (x3 : Int32) (x4 : Int32) (x5 : Int32) (hf : mU_X5_longestRow_67 N hd4 σ x1 x2 x3 x4 x5 = some q) : zJ X 6 (wdU adr cI cZ cS) (zi q) 67 [(0, .ref (adr 0)), (1, .int x1), (2, .int x2), (3, .int x3), (4, .int x4), (5, .int x5)] [] σ := by
  refine z_iinc B (1) 3 (fun v67 => [(3, .int v67), (0, .ref (adr 0)), (1, .int x1), (2, .int x2), (4, .int x4), (5, .int x5)]) dX5_longestRow_67 hf zc_iconst_1 rfl (Nat.le_of_ble_eq_true rfl) (fun _ => rfl) (fun v67 hf => ?_)
  refine z_goto B 4 dX5_longestRow_70 (by decide) ?_
  exact z_loc [1, 2, 3, 0] _ rfl (hh4 σ x1 x2 v67 hf)
def mU_X5_longestRow_B4 (N : Nat) (hd4 : ST → Int32 → Int32 → Int32 → Option (Int32 × ST)) (σ : ST) (x1 : Int32) (x2 : Int32) (x3 : Int32) : Option (Int32 × ST) :=
  zLet (σ 5 4) fun v9 =>
  if (v9 : Int32) ≤ x3 then
    zCallu (mU_X5_clearTally N σ) fun s74 =>
    some (x2, s74)
  else
    zCall (mU_X3_blockAt N σ x3) fun v20 s20 =>
    zLet ((v20 : Int32) - x1) fun v29 =>
    zCall (mU_X5_tallyOf N s20 v29) fun v30 s30 =>
    zLet ((v30 : Int32) + (1)) fun v34 =>
    zCallu (mU_X5_setTally N s30 v20 v34) fun s42 =>
    if (v34 : Int32) ≤ x2 then
      mU_X5_longestRow_67 N hd4 s42 x1 x2 x3 v20 v34
    else
      zLet ((v34 : Int32) - (1)) fun v60 =>
      zLet ((v60 : Int32) * x1) fun v62 =>
      zLet ((v20 : Int32) - v62) fun v63 =>
      zLet (zUp s42 0 5 v63) fun s64 =>
      mU_X5_longestRow_67 N hd4 s64 x1 v34 x3 v20 v34
def mU_X5_longestRow_4 (N : Nat) : ST → Int32 → Int32 → Int32 → Option (Int32 × ST) := zIt (mU_X5_longestRow_B4 N) (fun _ _ _ _ => none) N
set_option maxRecDepth 20000 in
set_option maxHeartbeats 2000000 in
theorem tU_X5_longestRow_4 {adr : Nat → Nat} {cI cZ cS : ClassId} {X : zX} {q : Int32 × ST} (B : zC X 6 (wdU adr cI cZ cS) cX5_longestRow RX5 (some .int) { frames := 3, cells := 0, slots := 0, locals := 64 }) (N : Nat) : ∀ (σ : ST) (x1 : Int32) (x2 : Int32) (x3 : Int32), mU_X5_longestRow_4 N σ x1 x2 x3 = some q → zJ X 6 (wdU adr cI cZ cS) (zi q) 4 [(0, .ref (adr 0)), (1, .int x1), (2, .int x2), (3, .int x3)] [] σ := by
  refine zIt_ind (P := fun (hd : ST → Int32 → Int32 → Int32 → Option (Int32 × ST)) => ∀ (σ : ST) (x1 : Int32) (x2 : Int32) (x3 : Int32), hd σ x1 x2 x3 = some q → zJ X 6 (wdU adr cI cZ cS) (zi q) 4 [(0, .ref (adr 0)), (1, .int x1), (2, .int x2), (3, .int x3)] [] σ) (fun _ _ _ _ hf => by cases hf) (fun hd4 hh4 => ?_) N
  intro σ x1 x2 x3 hf
  refine z_iload_n B dX5_longestRow_4 3 rfl rfl ?_
  refine z_aload_n B dX5_longestRow_5 0 rfl rfl ?_
  refine fU_g_X5_U_history B dX5_longestRow_6 ?_
  refine fU_g_X5_H_length B dX5_longestRow_9 hf (fun v9 hf => ?_)
  refine z_icmp_ge B 73 dX5_longestRow_12 (by decide) hf (fun hf => ?_) (fun hf => ?_)
  · refine z_aload_n B dX5_longestRow_73 0 rfl rfl ?_
    refine z_callVu B (As := []) kcV_X5_61 dX5_longestRow_74 hf (fun q hq => cU_X5_clearTally q hq) (wU_o_U (adr := adr) (cI := cI) (cZ := cZ) (cS := cS)) rfl rfl rfl rfl (Nat.le_of_ble_eq_true rfl) rfl rfl ⟨Nat.le_of_ble_eq_true rfl, Nat.le_of_ble_eq_true rfl⟩ (fun s74 hf => ?_)
    refine z_iload_n B dX5_longestRow_77 2 rfl rfl ?_
    exact z_ireturn B dX5_longestRow_78 hf
  · refine z_aload_n B dX5_longestRow_15 0 rfl rfl ?_
    refine fU_g_X5_U_history B dX5_longestRow_16 ?_
    refine z_iload_n B dX5_longestRow_19 3 rfl rfl ?_
    refine z_callVi B (As := [.int x3]) kcV_X5_34 dX5_longestRow_20 hf (fun q hq => cU_X3_blockAt q hq) (wU_o_H (adr := adr) (cI := cI) (cZ := cZ) (cS := cS)) rfl rfl rfl rfl (Nat.le_of_ble_eq_true rfl) rfl rfl ⟨Nat.le_of_ble_eq_true rfl, Nat.le_of_ble_eq_true rfl⟩ (fun v20 s20 hf => ?_)
    refine z_istore B [(4, .int v20), (0, .ref (adr 0)), (1, .int x1), (2, .int x2), (3, .int x3)] dX5_longestRow_23 (Nat.le_of_ble_eq_true rfl) rfl ?_
    refine z_aload_n B dX5_longestRow_25 1 rfl rfl ?_
    refine z_iload B dX5_longestRow_26 0 rfl ?_
    refine z_iload_n B dX5_longestRow_28 2 rfl rfl ?_
    refine z_isub B dX5_longestRow_29 hf (fun v29 hf => ?_)
    refine z_callVi B (As := [.int v29]) kcV_X5_58 dX5_longestRow_30 hf (fun q hq => cU_X5_tallyOf q hq) (wU_o_U (adr := adr) (cI := cI) (cZ := cZ) (cS := cS)) rfl rfl rfl rfl (Nat.le_of_ble_eq_true rfl) rfl rfl ⟨Nat.le_of_ble_eq_true rfl, Nat.le_of_ble_eq_true rfl⟩ (fun v30 s30 hf => ?_)
    refine z_iconst B (1) dX5_longestRow_33 zc_iconst_1 ?_
    refine z_iadd B dX5_longestRow_34 hf (fun v34 hf => ?_)
    refine z_istore B [(5, .int v34), (4, .int v20), (0, .ref (adr 0)), (1, .int x1), (2, .int x2), (3, .int x3)] dX5_longestRow_35 (Nat.le_of_ble_eq_true rfl) rfl ?_
    refine z_aload_n B dX5_longestRow_37 2 rfl rfl ?_
    refine z_iload B dX5_longestRow_38 1 rfl ?_
    refine z_iload B dX5_longestRow_40 0 rfl ?_
    refine z_callVu B (As := [.int v20, .int v34]) kcV_X5_38 dX5_longestRow_42 hf (fun q hq => cU_X5_setTally q hq) (wU_o_U (adr := adr) (cI := cI) (cZ := cZ) (cS := cS)) rfl rfl rfl rfl (Nat.le_of_ble_eq_true rfl) rfl rfl ⟨Nat.le_of_ble_eq_true rfl, Nat.le_of_ble_eq_true rfl⟩ (fun s42 hf => ?_)
    refine z_iload B dX5_longestRow_45 0 rfl ?_
    refine z_iload_n B dX5_longestRow_47 4 rfl rfl ?_
    refine z_icmp_le B 67 dX5_longestRow_48 (by decide) hf (fun hf => ?_) (fun hf => ?_)
    · exact z_loc [2, 3, 4, 5, 1, 0] _ rfl (tU_X5_longestRow_67 B N hd4 hh4 s42 x1 x2 x3 v20 v34 hf)
    · refine z_iload B dX5_longestRow_51 0 rfl ?_
      refine z_istore_n B [(2, .int v34), (5, .int v34), (4, .int v20), (0, .ref (adr 0)), (1, .int x1), (3, .int x3)] dX5_longestRow_53 rfl (Nat.le_of_ble_eq_true rfl) rfl ?_
      refine z_aload_n B dX5_longestRow_54 3 rfl rfl ?_
      refine z_iload B dX5_longestRow_55 2 rfl ?_
      refine z_iload B dX5_longestRow_57 1 rfl ?_
      refine z_iconst B (1) dX5_longestRow_59 zc_iconst_1 ?_
      refine z_isub B dX5_longestRow_60 hf (fun v60 hf => ?_)
      refine z_iload_n B dX5_longestRow_61 4 rfl rfl ?_
      refine z_imul B dX5_longestRow_62 hf (fun v62 hf => ?_)
      refine z_isub B dX5_longestRow_63 hf (fun v63 hf => ?_)
      refine fU_p_X5_U_rowStart B dX5_longestRow_64 hf (fun s64 hf => ?_)
      exact z_loc [3, 4, 0, 5, 2, 1] _ rfl (tU_X5_longestRow_67 B N hd4 hh4 s64 x1 v34 x3 v20 v34 hf)
def mU_X5_longestRow (N : Nat) (σ : ST) (x1 : Int32) : Option (Int32 × ST) :=
  mU_X5_longestRow_4 N σ x1 (0) (0)
set_option maxRecDepth 20000 in
set_option maxHeartbeats 2000000 in
theorem cU_X5_longestRow {adr : Nat → Nat} {cI cZ cS : ClassId} {l : Launch} {D : va_G} {N : Nat} {σ : ST} {x1 : Int32} (q : Int32 × ST) (hf : mU_X5_longestRow N σ x1 = some q) : zM l D (wdU adr cI cZ cS) yX5_longestRow cX5_longestRow 6 (some .int) ({ frames := 3, cells := 0, slots := 0, locals := 64 }) [.ref (adr 0), .int x1] σ (zi q) := by
  refine zM_of sfU_ok rfl (Nat.le_of_ble_eq_true rfl) [(0, .ref (adr 0)), (1, .int x1)] rfl (fun X hX1 hX2 B => ?_)
  have B : zC X 6 (wdU adr cI cZ cS) cX5_longestRow RX5 (some .int) { frames := 3, cells := 0, slots := 0, locals := 64 } := B
  refine z_iconst B (0) dX5_longestRow_0 zc_iconst_0 ?_
  refine z_istore_n B [(2, .int (0)), (0, .ref (adr 0)), (1, .int x1)] dX5_longestRow_1 rfl (Nat.le_of_ble_eq_true rfl) rfl ?_
  refine z_iconst B (0) dX5_longestRow_2 zc_iconst_0 ?_
  refine z_istore_n B [(3, .int (0)), (2, .int (0)), (0, .ref (adr 0)), (1, .int x1)] dX5_longestRow_3 rfl (Nat.le_of_ble_eq_true rfl) rfl ?_
  exact z_loc [2, 3, 1, 0] _ rfl (tU_X5_longestRow_4 B N σ x1 (0) (0) hf)
theorem dX5_hold_0 : decode cX5_hold 0 = .ok (.iload_n 1, 1) := by decide +kernel
theorem dX5_hold_1 : decode cX5_hold 1 = .ok (.ifCond .lt 23, 3) := by decide +kernel
theorem dX5_hold_4 : decode cX5_hold 4 = .ok (.iload_n 1, 1) := by decide +kernel
theorem dX5_hold_5 : decode cX5_hold 5 = .ok (.bipush 64, 2) := by decide +kernel
theorem dX5_hold_7 : decode cX5_hold 7 = .ok (.if_icmp .ge 17, 3) := by decide +kernel
theorem dX5_hold_10 : decode cX5_hold 10 = .ok (.aload_n 0, 1) := by decide +kernel
theorem dX5_hold_11 : decode cX5_hold 11 = .ok (.getfield 18, 3) := by decide +kernel
theorem dX5_hold_14 : decode cX5_hold 14 = .ok (.iload_n 1, 1) := by decide +kernel
theorem dX5_hold_15 : decode cX5_hold 15 = .ok (.iload_n 2, 1) := by decide +kernel
theorem dX5_hold_16 : decode cX5_hold 16 = .ok (.iastore, 1) := by decide +kernel
theorem dX5_hold_17 : decode cX5_hold 17 = .ok (.aload_n 0, 1) := by decide +kernel
theorem dX5_hold_18 : decode cX5_hold 18 = .ok (.getfield 21, 3) := by decide +kernel
theorem dX5_hold_21 : decode cX5_hold 21 = .ok (.iload_n 1, 1) := by decide +kernel
theorem dX5_hold_22 : decode cX5_hold 22 = .ok (.iload_n 3, 1) := by decide +kernel
theorem dX5_hold_23 : decode cX5_hold 23 = .ok (.iastore, 1) := by decide +kernel
theorem dX5_hold_24 : decode cX5_hold 24 = .ok (.return_, 1) := by decide +kernel
def mU_X5_hold_24 (N : Nat) (σ : ST) (x1 : Int32) (x2 : Int32) (x3 : Int32) : Option (ST) :=
  some σ
set_option maxRecDepth 20000 in
set_option maxHeartbeats 2000000 in
theorem tU_X5_hold_24 {adr : Nat → Nat} {cI cZ cS : ClassId} {X : zX} {q : ST} (B : zC X 4 (wdU adr cI cZ cS) cX5_hold RX5 none { frames := 0, cells := 0, slots := 0, locals := 0 }) (N : Nat) (σ : ST) (x1 : Int32) (x2 : Int32) (x3 : Int32) (hf : mU_X5_hold_24 N σ x1 x2 x3 = some q) : zJ X 4 (wdU adr cI cZ cS) (zu q) 24 [(0, .ref (adr 0)), (1, .int x1), (2, .int x2), (3, .int x3)] [] σ := by
  exact z_return B dX5_hold_24 hf
def mU_X5_hold (N : Nat) (σ : ST) (x1 : Int32) (x2 : Int32) (x3 : Int32) : Option (ST) :=
  if (x1 : Int32) < 0 then
    mU_X5_hold_24 N σ x1 x2 x3
  else
    if ((64) : Int32) ≤ x1 then
      mU_X5_hold_24 N σ x1 x2 x3
    else
      zSet σ 3 64 x1 x2 fun s16 =>
      zSet s16 4 64 x1 x3 fun s23 =>
      mU_X5_hold_24 N s23 x1 x2 x3
set_option maxRecDepth 20000 in
set_option maxHeartbeats 2000000 in
theorem cU_X5_hold {adr : Nat → Nat} {cI cZ cS : ClassId} {l : Launch} {D : va_G} {N : Nat} {σ : ST} {x1 : Int32} {x2 : Int32} {x3 : Int32} (q : ST) (hf : mU_X5_hold N σ x1 x2 x3 = some q) : zM l D (wdU adr cI cZ cS) yX5_hold cX5_hold 4 none ({ frames := 0, cells := 0, slots := 0, locals := 0 }) [.ref (adr 0), .int x1, .int x2, .int x3] σ (zu q) := by
  refine zM_of sfU_ok rfl (Nat.le_of_ble_eq_true rfl) [(0, .ref (adr 0)), (1, .int x1), (2, .int x2), (3, .int x3)] rfl (fun X hX1 hX2 B => ?_)
  have B : zC X 4 (wdU adr cI cZ cS) cX5_hold RX5 none { frames := 0, cells := 0, slots := 0, locals := 0 } := B
  refine z_iload_n B dX5_hold_0 1 rfl rfl ?_
  refine z_if_lt B 24 dX5_hold_1 (by decide) hf (fun hf => ?_) (fun hf => ?_)
  · exact tU_X5_hold_24 B N σ x1 x2 x3 hf
  · refine z_iload_n B dX5_hold_4 1 rfl rfl ?_
    refine z_bipush B (64) dX5_hold_5 zc_bipush_64 ?_
    refine z_icmp_ge B 24 dX5_hold_7 (by decide) hf (fun hf => ?_) (fun hf => ?_)
    · exact tU_X5_hold_24 B N σ x1 x2 x3 hf
    · refine z_aload_n B dX5_hold_10 0 rfl rfl ?_
      refine fU_g_X5_U_held B dX5_hold_11 ?_
      refine z_iload_n B dX5_hold_14 1 rfl rfl ?_
      refine z_iload_n B dX5_hold_15 2 rfl rfl ?_
      refine fU_s_U_held B dX5_hold_16 hf (fun s16 hf => ?_)
      refine z_aload_n B dX5_hold_17 0 rfl rfl ?_
      refine fU_g_X5_U_turns B dX5_hold_18 ?_
      refine z_iload_n B dX5_hold_21 1 rfl rfl ?_
      refine z_iload_n B dX5_hold_22 3 rfl rfl ?_
      refine fU_s_U_turns B dX5_hold_23 hf (fun s23 hf => ?_)
      exact tU_X5_hold_24 B N s23 x1 x2 x3 hf
theorem dX5_slotHolding_0 : decode cX5_slotHolding 0 = .ok (.iconst 0, 1) := by decide +kernel
theorem dX5_slotHolding_1 : decode cX5_slotHolding 1 = .ok (.istore_n 3, 1) := by decide +kernel
theorem dX5_slotHolding_2 : decode cX5_slotHolding 2 = .ok (.iload_n 3, 1) := by decide +kernel
theorem dX5_slotHolding_3 : decode cX5_slotHolding 3 = .ok (.iload_n 2, 1) := by decide +kernel
theorem dX5_slotHolding_4 : decode cX5_slotHolding 4 = .ok (.if_icmp .ge 27, 3) := by decide +kernel
theorem dX5_slotHolding_7 : decode cX5_slotHolding 7 = .ok (.iload_n 3, 1) := by decide +kernel
theorem dX5_slotHolding_8 : decode cX5_slotHolding 8 = .ok (.bipush 64, 2) := by decide +kernel
theorem dX5_slotHolding_10 : decode cX5_slotHolding 10 = .ok (.if_icmp .ge 21, 3) := by decide +kernel
theorem dX5_slotHolding_13 : decode cX5_slotHolding 13 = .ok (.aload_n 0, 1) := by decide +kernel
theorem dX5_slotHolding_14 : decode cX5_slotHolding 14 = .ok (.getfield 18, 3) := by decide +kernel
theorem dX5_slotHolding_17 : decode cX5_slotHolding 17 = .ok (.iload_n 3, 1) := by decide +kernel
theorem dX5_slotHolding_18 : decode cX5_slotHolding 18 = .ok (.iaload, 1) := by decide +kernel
theorem dX5_slotHolding_19 : decode cX5_slotHolding 19 = .ok (.iload_n 1, 1) := by decide +kernel
theorem dX5_slotHolding_20 : decode cX5_slotHolding 20 = .ok (.if_icmp .ne 5, 3) := by decide +kernel
theorem dX5_slotHolding_23 : decode cX5_slotHolding 23 = .ok (.iload_n 3, 1) := by decide +kernel
theorem dX5_slotHolding_24 : decode cX5_slotHolding 24 = .ok (.ireturn, 1) := by decide +kernel
theorem dX5_slotHolding_25 : decode cX5_slotHolding 25 = .ok (.iinc 3 1, 3) := by decide +kernel
theorem dX5_slotHolding_28 : decode cX5_slotHolding 28 = .ok (.goto (-26), 3) := by decide +kernel
theorem dX5_slotHolding_31 : decode cX5_slotHolding 31 = .ok (.iconst (-1), 1) := by decide +kernel
theorem dX5_slotHolding_32 : decode cX5_slotHolding 32 = .ok (.ireturn, 1) := by decide +kernel
def mU_X5_slotHolding_31 (N : Nat) (σ : ST) (x1 : Int32) (x2 : Int32) (x3 : Int32) : Option (Int32 × ST) :=
  some ((-1), σ)
set_option maxRecDepth 20000 in
set_option maxHeartbeats 2000000 in
theorem tU_X5_slotHolding_31 {adr : Nat → Nat} {cI cZ cS : ClassId} {X : zX} {q : Int32 × ST} (B : zC X 4 (wdU adr cI cZ cS) cX5_slotHolding RX5 (some .int) { frames := 0, cells := 0, slots := 0, locals := 0 }) (N : Nat) (σ : ST) (x1 : Int32) (x2 : Int32) (x3 : Int32) (hf : mU_X5_slotHolding_31 N σ x1 x2 x3 = some q) : zJ X 4 (wdU adr cI cZ cS) (zi q) 31 [(0, .ref (adr 0)), (1, .int x1), (2, .int x2), (3, .int x3)] [] σ := by
  refine z_iconst B (-1) dX5_slotHolding_31 zc_iconst_m1 ?_
  exact z_ireturn B dX5_slotHolding_32 hf
def mU_X5_slotHolding_B2 (N : Nat) (hd2 : ST → Int32 → Int32 → Int32 → Option (Int32 × ST)) (σ : ST) (x1 : Int32) (x2 : Int32) (x3 : Int32) : Option (Int32 × ST) :=
  if (x2 : Int32) ≤ x3 then
    mU_X5_slotHolding_31 N σ x1 x2 x3
  else
    if ((64) : Int32) ≤ x3 then
      mU_X5_slotHolding_31 N σ x1 x2 x3
    else
      zGet (σ 3) 64 x3 fun v18 =>
      if (v18 : Int32) = x1 then
        some (x3, σ)
      else
        zLet (x3 + (1)) fun v25 =>
        hd2 σ x1 x2 v25
def mU_X5_slotHolding_2 (N : Nat) : ST → Int32 → Int32 → Int32 → Option (Int32 × ST) := zIt (mU_X5_slotHolding_B2 N) (fun _ _ _ _ => none) N
set_option maxRecDepth 20000 in
set_option maxHeartbeats 2000000 in
theorem tU_X5_slotHolding_2 {adr : Nat → Nat} {cI cZ cS : ClassId} {X : zX} {q : Int32 × ST} (B : zC X 4 (wdU adr cI cZ cS) cX5_slotHolding RX5 (some .int) { frames := 0, cells := 0, slots := 0, locals := 0 }) (N : Nat) : ∀ (σ : ST) (x1 : Int32) (x2 : Int32) (x3 : Int32), mU_X5_slotHolding_2 N σ x1 x2 x3 = some q → zJ X 4 (wdU adr cI cZ cS) (zi q) 2 [(0, .ref (adr 0)), (1, .int x1), (2, .int x2), (3, .int x3)] [] σ := by
  refine zIt_ind (P := fun (hd : ST → Int32 → Int32 → Int32 → Option (Int32 × ST)) => ∀ (σ : ST) (x1 : Int32) (x2 : Int32) (x3 : Int32), hd σ x1 x2 x3 = some q → zJ X 4 (wdU adr cI cZ cS) (zi q) 2 [(0, .ref (adr 0)), (1, .int x1), (2, .int x2), (3, .int x3)] [] σ) (fun _ _ _ _ hf => by cases hf) (fun hd2 hh2 => ?_) N
  intro σ x1 x2 x3 hf
  refine z_iload_n B dX5_slotHolding_2 3 rfl rfl ?_
  refine z_iload_n B dX5_slotHolding_3 2 rfl rfl ?_
  refine z_icmp_ge B 31 dX5_slotHolding_4 (by decide) hf (fun hf => ?_) (fun hf => ?_)
  · exact tU_X5_slotHolding_31 B N σ x1 x2 x3 hf
  · refine z_iload_n B dX5_slotHolding_7 3 rfl rfl ?_
    refine z_bipush B (64) dX5_slotHolding_8 zc_bipush_64 ?_
    refine z_icmp_ge B 31 dX5_slotHolding_10 (by decide) hf (fun hf => ?_) (fun hf => ?_)
    · exact tU_X5_slotHolding_31 B N σ x1 x2 x3 hf
    · refine z_aload_n B dX5_slotHolding_13 0 rfl rfl ?_
      refine fU_g_X5_U_held B dX5_slotHolding_14 ?_
      refine z_iload_n B dX5_slotHolding_17 3 rfl rfl ?_
      refine fU_l_U_held B dX5_slotHolding_18 hf (fun v18 hf => ?_)
      refine z_iload_n B dX5_slotHolding_19 1 rfl rfl ?_
      refine z_icmp_ne B 25 dX5_slotHolding_20 (by decide) hf (fun hf => ?_) (fun hf => ?_)
      · refine z_iinc B (1) 3 (fun v25 => [(3, .int v25), (0, .ref (adr 0)), (1, .int x1), (2, .int x2)]) dX5_slotHolding_25 hf zc_iconst_1 rfl (Nat.le_of_ble_eq_true rfl) (fun _ => rfl) (fun v25 hf => ?_)
        refine z_goto B 2 dX5_slotHolding_28 (by decide) ?_
        exact z_loc [1, 2, 3, 0] _ rfl (hh2 σ x1 x2 v25 hf)
      · refine z_iload_n B dX5_slotHolding_23 3 rfl rfl ?_
        exact z_ireturn B dX5_slotHolding_24 hf
def mU_X5_slotHolding (N : Nat) (σ : ST) (x1 : Int32) (x2 : Int32) : Option (Int32 × ST) :=
  mU_X5_slotHolding_2 N σ x1 x2 (0)
set_option maxRecDepth 20000 in
set_option maxHeartbeats 2000000 in
theorem cU_X5_slotHolding {adr : Nat → Nat} {cI cZ cS : ClassId} {l : Launch} {D : va_G} {N : Nat} {σ : ST} {x1 : Int32} {x2 : Int32} (q : Int32 × ST) (hf : mU_X5_slotHolding N σ x1 x2 = some q) : zM l D (wdU adr cI cZ cS) yX5_slotHolding cX5_slotHolding 4 (some .int) ({ frames := 0, cells := 0, slots := 0, locals := 0 }) [.ref (adr 0), .int x1, .int x2] σ (zi q) := by
  refine zM_of sfU_ok rfl (Nat.le_of_ble_eq_true rfl) [(0, .ref (adr 0)), (1, .int x1), (2, .int x2)] rfl (fun X hX1 hX2 B => ?_)
  have B : zC X 4 (wdU adr cI cZ cS) cX5_slotHolding RX5 (some .int) { frames := 0, cells := 0, slots := 0, locals := 0 } := B
  refine z_iconst B (0) dX5_slotHolding_0 zc_iconst_0 ?_
  refine z_istore_n B [(3, .int (0)), (0, .ref (adr 0)), (1, .int x1), (2, .int x2)] dX5_slotHolding_1 rfl (Nat.le_of_ble_eq_true rfl) rfl ?_
  exact z_loc [1, 2, 3, 0] _ rfl (tU_X5_slotHolding_2 B N σ x1 x2 (0) hf)
theorem dX5_longestUnread_0 : decode cX5_longestUnread 0 = .ok (.iconst 0, 1) := by decide +kernel
theorem dX5_longestUnread_1 : decode cX5_longestUnread 1 = .ok (.istore_n 2, 1) := by decide +kernel
theorem dX5_longestUnread_2 : decode cX5_longestUnread 2 = .ok (.iconst 1, 1) := by decide +kernel
theorem dX5_longestUnread_3 : decode cX5_longestUnread 3 = .ok (.istore_n 3, 1) := by decide +kernel
theorem dX5_longestUnread_4 : decode cX5_longestUnread 4 = .ok (.iload_n 3, 1) := by decide +kernel
theorem dX5_longestUnread_5 : decode cX5_longestUnread 5 = .ok (.iload_n 1, 1) := by decide +kernel
theorem dX5_longestUnread_6 : decode cX5_longestUnread 6 = .ok (.if_icmp .ge 32, 3) := by decide +kernel
theorem dX5_longestUnread_9 : decode cX5_longestUnread 9 = .ok (.iload_n 3, 1) := by decide +kernel
theorem dX5_longestUnread_10 : decode cX5_longestUnread 10 = .ok (.bipush 64, 2) := by decide +kernel
theorem dX5_longestUnread_12 : decode cX5_longestUnread 12 = .ok (.if_icmp .ge 26, 3) := by decide +kernel
theorem dX5_longestUnread_15 : decode cX5_longestUnread 15 = .ok (.aload_n 0, 1) := by decide +kernel
theorem dX5_longestUnread_16 : decode cX5_longestUnread 16 = .ok (.getfield 21, 3) := by decide +kernel
theorem dX5_longestUnread_19 : decode cX5_longestUnread 19 = .ok (.iload_n 3, 1) := by decide +kernel
theorem dX5_longestUnread_20 : decode cX5_longestUnread 20 = .ok (.iaload, 1) := by decide +kernel
theorem dX5_longestUnread_21 : decode cX5_longestUnread 21 = .ok (.aload_n 0, 1) := by decide +kernel
theorem dX5_longestUnread_22 : decode cX5_longestUnread 22 = .ok (.getfield 21, 3) := by decide +kernel
theorem dX5_longestUnread_25 : decode cX5_longestUnread 25 = .ok (.iload_n 2, 1) := by decide +kernel
theorem dX5_longestUnread_26 : decode cX5_longestUnread 26 = .ok (.iaload, 1) := by decide +kernel
theorem dX5_longestUnread_27 : decode cX5_longestUnread 27 = .ok (.if_icmp .ge 5, 3) := by decide +kernel
theorem dX5_longestUnread_30 : decode cX5_longestUnread 30 = .ok (.iload_n 3, 1) := by decide +kernel
theorem dX5_longestUnread_31 : decode cX5_longestUnread 31 = .ok (.istore_n 2, 1) := by decide +kernel
theorem dX5_longestUnread_32 : decode cX5_longestUnread 32 = .ok (.iinc 3 1, 3) := by decide +kernel
theorem dX5_longestUnread_35 : decode cX5_longestUnread 35 = .ok (.goto (-31), 3) := by decide +kernel
theorem dX5_longestUnread_38 : decode cX5_longestUnread 38 = .ok (.iload_n 2, 1) := by decide +kernel
theorem dX5_longestUnread_39 : decode cX5_longestUnread 39 = .ok (.ireturn, 1) := by decide +kernel
def mU_X5_longestUnread_38 (N : Nat) (σ : ST) (x1 : Int32) (x2 : Int32) (x3 : Int32) : Option (Int32 × ST) :=
  some (x2, σ)
set_option maxRecDepth 20000 in
set_option maxHeartbeats 2000000 in
theorem tU_X5_longestUnread_38 {adr : Nat → Nat} {cI cZ cS : ClassId} {X : zX} {q : Int32 × ST} (B : zC X 4 (wdU adr cI cZ cS) cX5_longestUnread RX5 (some .int) { frames := 0, cells := 0, slots := 0, locals := 0 }) (N : Nat) (σ : ST) (x1 : Int32) (x2 : Int32) (x3 : Int32) (hf : mU_X5_longestUnread_38 N σ x1 x2 x3 = some q) : zJ X 4 (wdU adr cI cZ cS) (zi q) 38 [(0, .ref (adr 0)), (1, .int x1), (2, .int x2), (3, .int x3)] [] σ := by
  refine z_iload_n B dX5_longestUnread_38 2 rfl rfl ?_
  exact z_ireturn B dX5_longestUnread_39 hf
def mU_X5_longestUnread_32 (N : Nat) (hd4 : ST → Int32 → Int32 → Int32 → Option (Int32 × ST)) (σ : ST) (x1 : Int32) (x2 : Int32) (x3 : Int32) : Option (Int32 × ST) :=
  zLet (x3 + (1)) fun v32 =>
  hd4 σ x1 x2 v32
set_option maxRecDepth 20000 in
set_option maxHeartbeats 2000000 in
theorem tU_X5_longestUnread_32 {adr : Nat → Nat} {cI cZ cS : ClassId} {X : zX} {q : Int32 × ST} (B : zC X 4 (wdU adr cI cZ cS) cX5_longestUnread RX5 (some .int) { frames := 0, cells := 0, slots := 0, locals := 0 }) (N : Nat) (hd4 : ST → Int32 → Int32 → Int32 → Option (Int32 × ST)) (hh4 : ∀ (σ : ST) (x1 : Int32) (x2 : Int32) (x3 : Int32), hd4 σ x1 x2 x3 = some q → zJ X 4 (wdU adr cI cZ cS) (zi q) 4 [(0, .ref (adr 0)), (1, .int x1), (2, .int x2), (3, .int x3)] [] σ) (σ : ST) (x1 : Int32) (x2 : Int32) (x3 : Int32) (hf : mU_X5_longestUnread_32 N hd4 σ x1 x2 x3 = some q) : zJ X 4 (wdU adr cI cZ cS) (zi q) 32 [(0, .ref (adr 0)), (1, .int x1), (2, .int x2), (3, .int x3)] [] σ := by
  refine z_iinc B (1) 3 (fun v32 => [(3, .int v32), (0, .ref (adr 0)), (1, .int x1), (2, .int x2)]) dX5_longestUnread_32 hf zc_iconst_1 rfl (Nat.le_of_ble_eq_true rfl) (fun _ => rfl) (fun v32 hf => ?_)
  refine z_goto B 4 dX5_longestUnread_35 (by decide) ?_
  exact z_loc [1, 2, 3, 0] _ rfl (hh4 σ x1 x2 v32 hf)
def mU_X5_longestUnread_B4 (N : Nat) (hd4 : ST → Int32 → Int32 → Int32 → Option (Int32 × ST)) (σ : ST) (x1 : Int32) (x2 : Int32) (x3 : Int32) : Option (Int32 × ST) :=
  if (x1 : Int32) ≤ x3 then
    mU_X5_longestUnread_38 N σ x1 x2 x3
  else
    if ((64) : Int32) ≤ x3 then
      mU_X5_longestUnread_38 N σ x1 x2 x3
    else
      zGet (σ 4) 64 x3 fun v20 =>
      zGet (σ 4) 64 x2 fun v26 =>
      if (v26 : Int32) ≤ v20 then
        mU_X5_longestUnread_32 N hd4 σ x1 x2 x3
      else
        mU_X5_longestUnread_32 N hd4 σ x1 x3 x3
def mU_X5_longestUnread_4 (N : Nat) : ST → Int32 → Int32 → Int32 → Option (Int32 × ST) := zIt (mU_X5_longestUnread_B4 N) (fun _ _ _ _ => none) N
set_option maxRecDepth 20000 in
set_option maxHeartbeats 2000000 in
theorem tU_X5_longestUnread_4 {adr : Nat → Nat} {cI cZ cS : ClassId} {X : zX} {q : Int32 × ST} (B : zC X 4 (wdU adr cI cZ cS) cX5_longestUnread RX5 (some .int) { frames := 0, cells := 0, slots := 0, locals := 0 }) (N : Nat) : ∀ (σ : ST) (x1 : Int32) (x2 : Int32) (x3 : Int32), mU_X5_longestUnread_4 N σ x1 x2 x3 = some q → zJ X 4 (wdU adr cI cZ cS) (zi q) 4 [(0, .ref (adr 0)), (1, .int x1), (2, .int x2), (3, .int x3)] [] σ := by
  refine zIt_ind (P := fun (hd : ST → Int32 → Int32 → Int32 → Option (Int32 × ST)) => ∀ (σ : ST) (x1 : Int32) (x2 : Int32) (x3 : Int32), hd σ x1 x2 x3 = some q → zJ X 4 (wdU adr cI cZ cS) (zi q) 4 [(0, .ref (adr 0)), (1, .int x1), (2, .int x2), (3, .int x3)] [] σ) (fun _ _ _ _ hf => by cases hf) (fun hd4 hh4 => ?_) N
  intro σ x1 x2 x3 hf
  refine z_iload_n B dX5_longestUnread_4 3 rfl rfl ?_
  refine z_iload_n B dX5_longestUnread_5 1 rfl rfl ?_
  refine z_icmp_ge B 38 dX5_longestUnread_6 (by decide) hf (fun hf => ?_) (fun hf => ?_)
  · exact tU_X5_longestUnread_38 B N σ x1 x2 x3 hf
  · refine z_iload_n B dX5_longestUnread_9 3 rfl rfl ?_
    refine z_bipush B (64) dX5_longestUnread_10 zc_bipush_64 ?_
    refine z_icmp_ge B 38 dX5_longestUnread_12 (by decide) hf (fun hf => ?_) (fun hf => ?_)
    · exact tU_X5_longestUnread_38 B N σ x1 x2 x3 hf
    · refine z_aload_n B dX5_longestUnread_15 0 rfl rfl ?_
      refine fU_g_X5_U_turns B dX5_longestUnread_16 ?_
      refine z_iload_n B dX5_longestUnread_19 3 rfl rfl ?_
      refine fU_l_U_turns B dX5_longestUnread_20 hf (fun v20 hf => ?_)
      refine z_aload_n B dX5_longestUnread_21 0 rfl rfl ?_
      refine fU_g_X5_U_turns B dX5_longestUnread_22 ?_
      refine z_iload_n B dX5_longestUnread_25 2 rfl rfl ?_
      refine fU_l_U_turns B dX5_longestUnread_26 hf (fun v26 hf => ?_)
      refine z_icmp_ge B 32 dX5_longestUnread_27 (by decide) hf (fun hf => ?_) (fun hf => ?_)
      · exact tU_X5_longestUnread_32 B N hd4 hh4 σ x1 x2 x3 hf
      · refine z_iload_n B dX5_longestUnread_30 3 rfl rfl ?_
        refine z_istore_n B [(2, .int x3), (0, .ref (adr 0)), (1, .int x1), (3, .int x3)] dX5_longestUnread_31 rfl (Nat.le_of_ble_eq_true rfl) rfl ?_
        exact z_loc [1, 2, 0, 3] _ rfl (tU_X5_longestUnread_32 B N hd4 hh4 σ x1 x3 x3 hf)
def mU_X5_longestUnread (N : Nat) (σ : ST) (x1 : Int32) : Option (Int32 × ST) :=
  mU_X5_longestUnread_4 N σ x1 (0) (1)
set_option maxRecDepth 20000 in
set_option maxHeartbeats 2000000 in
theorem cU_X5_longestUnread {adr : Nat → Nat} {cI cZ cS : ClassId} {l : Launch} {D : va_G} {N : Nat} {σ : ST} {x1 : Int32} (q : Int32 × ST) (hf : mU_X5_longestUnread N σ x1 = some q) : zM l D (wdU adr cI cZ cS) yX5_longestUnread cX5_longestUnread 4 (some .int) ({ frames := 0, cells := 0, slots := 0, locals := 0 }) [.ref (adr 0), .int x1] σ (zi q) := by
  refine zM_of sfU_ok rfl (Nat.le_of_ble_eq_true rfl) [(0, .ref (adr 0)), (1, .int x1)] rfl (fun X hX1 hX2 B => ?_)
  have B : zC X 4 (wdU adr cI cZ cS) cX5_longestUnread RX5 (some .int) { frames := 0, cells := 0, slots := 0, locals := 0 } := B
  refine z_iconst B (0) dX5_longestUnread_0 zc_iconst_0 ?_
  refine z_istore_n B [(2, .int (0)), (0, .ref (adr 0)), (1, .int x1)] dX5_longestUnread_1 rfl (Nat.le_of_ble_eq_true rfl) rfl ?_
  refine z_iconst B (1) dX5_longestUnread_2 zc_iconst_1 ?_
  refine z_istore_n B [(3, .int (1)), (2, .int (0)), (0, .ref (adr 0)), (1, .int x1)] dX5_longestUnread_3 rfl (Nat.le_of_ble_eq_true rfl) rfl ?_
  exact z_loc [2, 3, 1, 0] _ rfl (tU_X5_longestUnread_4 B N σ x1 (0) (1) hf)
theorem dX5_missesOfLatest_0 : decode cX5_missesOfLatest 0 = .ok (.iconst 0, 1) := by decide +kernel
theorem dX5_missesOfLatest_1 : decode cX5_missesOfLatest 1 = .ok (.istore_n 2, 1) := by decide +kernel
theorem dX5_missesOfLatest_2 : decode cX5_missesOfLatest 2 = .ok (.iconst 0, 1) := by decide +kernel
theorem dX5_missesOfLatest_3 : decode cX5_missesOfLatest 3 = .ok (.istore_n 3, 1) := by decide +kernel
theorem dX5_missesOfLatest_4 : decode cX5_missesOfLatest 4 = .ok (.iconst 0, 1) := by decide +kernel
theorem dX5_missesOfLatest_5 : decode cX5_missesOfLatest 5 = .ok (.istore 4, 2) := by decide +kernel
theorem dX5_missesOfLatest_7 : decode cX5_missesOfLatest 7 = .ok (.iload 4, 2) := by decide +kernel
theorem dX5_missesOfLatest_9 : decode cX5_missesOfLatest 9 = .ok (.aload_n 0, 1) := by decide +kernel
theorem dX5_missesOfLatest_10 : decode cX5_missesOfLatest 10 = .ok (.getfield 24, 3) := by decide +kernel
theorem dX5_missesOfLatest_13 : decode cX5_missesOfLatest 13 = .ok (.getfield 28, 3) := by decide +kernel
theorem dX5_missesOfLatest_16 : decode cX5_missesOfLatest 16 = .ok (.if_icmp .ge 72, 3) := by decide +kernel
theorem dX5_missesOfLatest_19 : decode cX5_missesOfLatest 19 = .ok (.aload_n 0, 1) := by decide +kernel
theorem dX5_missesOfLatest_20 : decode cX5_missesOfLatest 20 = .ok (.getfield 24, 3) := by decide +kernel
theorem dX5_missesOfLatest_23 : decode cX5_missesOfLatest 23 = .ok (.iload 4, 2) := by decide +kernel
theorem dX5_missesOfLatest_25 : decode cX5_missesOfLatest 25 = .ok (.invokevirtual 34, 3) := by decide +kernel
theorem dX5_missesOfLatest_28 : decode cX5_missesOfLatest 28 = .ok (.istore 5, 2) := by decide +kernel
theorem dX5_missesOfLatest_30 : decode cX5_missesOfLatest 30 = .ok (.aload_n 0, 1) := by decide +kernel
theorem dX5_missesOfLatest_31 : decode cX5_missesOfLatest 31 = .ok (.iload 5, 2) := by decide +kernel
theorem dX5_missesOfLatest_33 : decode cX5_missesOfLatest 33 = .ok (.iload_n 3, 1) := by decide +kernel
theorem dX5_missesOfLatest_34 : decode cX5_missesOfLatest 34 = .ok (.invokevirtual 67, 3) := by decide +kernel
theorem dX5_missesOfLatest_37 : decode cX5_missesOfLatest 37 = .ok (.istore 6, 2) := by decide +kernel
theorem dX5_missesOfLatest_39 : decode cX5_missesOfLatest 39 = .ok (.iload 6, 2) := by decide +kernel
theorem dX5_missesOfLatest_41 : decode cX5_missesOfLatest 41 = .ok (.iconst (-1), 1) := by decide +kernel
theorem dX5_missesOfLatest_42 : decode cX5_missesOfLatest 42 = .ok (.if_icmp .ne 30, 3) := by decide +kernel
theorem dX5_missesOfLatest_45 : decode cX5_missesOfLatest 45 = .ok (.iinc 2 1, 3) := by decide +kernel
theorem dX5_missesOfLatest_48 : decode cX5_missesOfLatest 48 = .ok (.iload_n 3, 1) := by decide +kernel
theorem dX5_missesOfLatest_49 : decode cX5_missesOfLatest 49 = .ok (.iload_n 1, 1) := by decide +kernel
theorem dX5_missesOfLatest_50 : decode cX5_missesOfLatest 50 = .ok (.if_icmp .ge 7, 3) := by decide +kernel
theorem dX5_missesOfLatest_53 : decode cX5_missesOfLatest 53 = .ok (.iload_n 3, 1) := by decide +kernel
theorem dX5_missesOfLatest_54 : decode cX5_missesOfLatest 54 = .ok (.goto 8, 3) := by decide +kernel
theorem dX5_missesOfLatest_57 : decode cX5_missesOfLatest 57 = .ok (.aload_n 0, 1) := by decide +kernel
theorem dX5_missesOfLatest_58 : decode cX5_missesOfLatest 58 = .ok (.iload_n 3, 1) := by decide +kernel
theorem dX5_missesOfLatest_59 : decode cX5_missesOfLatest 59 = .ok (.invokevirtual 70, 3) := by decide +kernel
theorem dX5_missesOfLatest_62 : decode cX5_missesOfLatest 62 = .ok (.istore 6, 2) := by decide +kernel
theorem dX5_missesOfLatest_64 : decode cX5_missesOfLatest 64 = .ok (.iload_n 1, 1) := by decide +kernel
theorem dX5_missesOfLatest_65 : decode cX5_missesOfLatest 65 = .ok (.iload_n 3, 1) := by decide +kernel
theorem dX5_missesOfLatest_66 : decode cX5_missesOfLatest 66 = .ok (.iconst 1, 1) := by decide +kernel
theorem dX5_missesOfLatest_67 : decode cX5_missesOfLatest 67 = .ok (.iadd, 1) := by decide +kernel
theorem dX5_missesOfLatest_68 : decode cX5_missesOfLatest 68 = .ok (.invokestatic 73, 3) := by decide +kernel
theorem dX5_missesOfLatest_71 : decode cX5_missesOfLatest 71 = .ok (.istore_n 3, 1) := by decide +kernel
theorem dX5_missesOfLatest_72 : decode cX5_missesOfLatest 72 = .ok (.aload_n 0, 1) := by decide +kernel
theorem dX5_missesOfLatest_73 : decode cX5_missesOfLatest 73 = .ok (.iload 6, 2) := by decide +kernel
theorem dX5_missesOfLatest_75 : decode cX5_missesOfLatest 75 = .ok (.iload 5, 2) := by decide +kernel
theorem dX5_missesOfLatest_77 : decode cX5_missesOfLatest 77 = .ok (.iload 4, 2) := by decide +kernel
theorem dX5_missesOfLatest_79 : decode cX5_missesOfLatest 79 = .ok (.invokevirtual 76, 3) := by decide +kernel
theorem dX5_missesOfLatest_82 : decode cX5_missesOfLatest 82 = .ok (.iinc 4 1, 3) := by decide +kernel
theorem dX5_missesOfLatest_85 : decode cX5_missesOfLatest 85 = .ok (.goto (-78), 3) := by decide +kernel
theorem dX5_missesOfLatest_88 : decode cX5_missesOfLatest 88 = .ok (.iload_n 2, 1) := by decide +kernel
theorem dX5_missesOfLatest_89 : decode cX5_missesOfLatest 89 = .ok (.ireturn, 1) := by decide +kernel
def mU_X5_missesOfLatest_72 (N : Nat) (hd7 : ST → Int32 → Int32 → Int32 → Int32 → Option (Int32 × ST)) (σ : ST) (x1 : Int32) (x2 : Int32) (x3 : Int32) (x4 : Int32) (x5 : Int32) (x6 : Int32) : Option (Int32 × ST) :=
  zCallu (mU_X5_hold N σ x6 x5 x4) fun s79 =>
  zLet (x4 + (1)) fun v82 =>
  hd7 s79 x1 x2 x3 v82
set_option maxRecDepth 20000 in
set_option maxHeartbeats 2000000 in
theorem tU_X5_missesOfLatest_72 {adr : Nat → Nat} {cI cZ cS : ClassId} {X : zX} {q : Int32 × ST} (B : zC X 7 (wdU adr cI cZ cS) cX5_missesOfLatest RX5 (some .int) { frames := 2, cells := 0, slots := 0, locals := 43 }) (N : Nat) (hd7 : ST → Int32 → Int32 → Int32 → Int32 → Option (Int32 × ST)) (hh7 : ∀ (σ : ST) (x1 : Int32) (x2 : Int32) (x3 : Int32) (x4 : Int32), hd7 σ x1 x2 x3 x4 = some q → zJ X 7 (wdU adr cI cZ cS) (zi q) 7 [(0, .ref (adr 0)), (1, .int x1), (2, .int x2), (3, .int x3), (4, .int x4)] [] σ) (σ : ST) (x1 : Int32) (x2 : Int32) (x3 : Int32) (x4 : Int32) (x5 : Int32) (x6 : Int32) (hf : mU_X5_missesOfLatest_72 N hd7 σ x1 x2 x3 x4 x5 x6 = some q) : zJ X 7 (wdU adr cI cZ cS) (zi q) 72 [(0, .ref (adr 0)), (1, .int x1), (2, .int x2), (3, .int x3), (4, .int x4), (5, .int x5), (6, .int x6)] [] σ := by
  refine z_aload_n B dX5_missesOfLatest_72 0 rfl rfl ?_
  refine z_iload B dX5_missesOfLatest_73 6 rfl ?_
  refine z_iload B dX5_missesOfLatest_75 5 rfl ?_
  refine z_iload B dX5_missesOfLatest_77 4 rfl ?_
  refine z_callVu B (As := [.int x6, .int x5, .int x4]) kcV_X5_76 dX5_missesOfLatest_79 hf (fun q hq => cU_X5_hold q hq) (wU_o_U (adr := adr) (cI := cI) (cZ := cZ) (cS := cS)) rfl rfl rfl rfl (Nat.le_of_ble_eq_true rfl) rfl rfl ⟨Nat.le_of_ble_eq_true rfl, Nat.le_of_ble_eq_true rfl⟩ (fun s79 hf => ?_)
  refine z_iinc B (1) 4 (fun v82 => [(4, .int v82), (0, .ref (adr 0)), (1, .int x1), (2, .int x2), (3, .int x3), (5, .int x5), (6, .int x6)]) dX5_missesOfLatest_82 hf zc_iconst_1 rfl (Nat.le_of_ble_eq_true rfl) (fun _ => rfl) (fun v82 hf => ?_)
  refine z_goto B 7 dX5_missesOfLatest_85 (by decide) ?_
  exact z_loc [1, 2, 3, 4, 0] _ rfl (hh7 s79 x1 x2 x3 v82 hf)
def mU_X5_missesOfLatest_62 (N : Nat) (hd7 : ST → Int32 → Int32 → Int32 → Int32 → Option (Int32 × ST)) (σ : ST) (x1 : Int32) (x2 : Int32) (x3 : Int32) (x4 : Int32) (x5 : Int32) (x6 : Int32) (k0 : Int32) : Option (Int32 × ST) :=
  zLet ((x3 : Int32) + (1)) fun v67 =>
  zLet (if (v67 : Int32) < x1 then v67 else x1) fun v68 =>
  mU_X5_missesOfLatest_72 N hd7 σ x1 x2 v68 x4 x5 k0
set_option maxRecDepth 20000 in
set_option maxHeartbeats 2000000 in
theorem tU_X5_missesOfLatest_62 {adr : Nat → Nat} {cI cZ cS : ClassId} {X : zX} {q : Int32 × ST} (B : zC X 7 (wdU adr cI cZ cS) cX5_missesOfLatest RX5 (some .int) { frames := 2, cells := 0, slots := 0, locals := 43 }) (N : Nat) (hd7 : ST → Int32 → Int32 → Int32 → Int32 → Option (Int32 × ST)) (hh7 : ∀ (σ : ST) (x1 : Int32) (x2 : Int32) (x3 : Int32) (x4 : Int32), hd7 σ x1 x2 x3 x4 = some q → zJ X 7 (wdU adr cI cZ cS) (zi q) 7 [(0, .ref (adr 0)), (1, .int x1), (2, .int x2), (3, .int x3), (4, .int x4)] [] σ) (σ : ST) (x1 : Int32) (x2 : Int32) (x3 : Int32) (x4 : Int32) (x5 : Int32) (x6 : Int32) (k0 : Int32) (hf : mU_X5_missesOfLatest_62 N hd7 σ x1 x2 x3 x4 x5 x6 k0 = some q) : zJ X 7 (wdU adr cI cZ cS) (zi q) 62 [(0, .ref (adr 0)), (1, .int x1), (2, .int x2), (3, .int x3), (4, .int x4), (5, .int x5), (6, .int x6)] [.int k0] σ := by
  refine z_istore B [(6, .int k0), (0, .ref (adr 0)), (1, .int x1), (2, .int x2), (3, .int x3), (4, .int x4), (5, .int x5)] dX5_missesOfLatest_62 (Nat.le_of_ble_eq_true rfl) rfl ?_
  refine z_iload_n B dX5_missesOfLatest_64 2 rfl rfl ?_
  refine z_iload_n B dX5_missesOfLatest_65 4 rfl rfl ?_
  refine z_iconst B (1) dX5_missesOfLatest_66 zc_iconst_1 ?_
  refine z_iadd B dX5_missesOfLatest_67 hf (fun v67 hf => ?_)
  refine z_mmin B kw_701 kmS_min kmI kmC_min (Nat.le_of_ble_eq_true rfl) (Nat.le_of_ble_eq_true rfl) dX5_missesOfLatest_68 hf (fun v68 hf => ?_)
  refine z_istore_n B [(3, .int v68), (6, .int k0), (0, .ref (adr 0)), (1, .int x1), (2, .int x2), (4, .int x4), (5, .int x5)] dX5_missesOfLatest_71 rfl (Nat.le_of_ble_eq_true rfl) rfl ?_
  exact z_loc [2, 3, 4, 0, 5, 6, 1] _ rfl (tU_X5_missesOfLatest_72 B N hd7 hh7 σ x1 x2 v68 x4 x5 k0 hf)
def mU_X5_missesOfLatest_B7 (N : Nat) (hd7 : ST → Int32 → Int32 → Int32 → Int32 → Option (Int32 × ST)) (σ : ST) (x1 : Int32) (x2 : Int32) (x3 : Int32) (x4 : Int32) : Option (Int32 × ST) :=
  zLet (σ 5 4) fun v13 =>
  if (v13 : Int32) ≤ x4 then
    some (x2, σ)
  else
    zCall (mU_X3_blockAt N σ x4) fun v25 s25 =>
    zCall (mU_X5_slotHolding N s25 v25 x3) fun v34 s34 =>
    if (v34 : Int32) = (-1) then
      zLet (x2 + (1)) fun v45 =>
      if (x1 : Int32) ≤ x3 then
        zCall (mU_X5_longestUnread N s34 x3) fun v59 s59 =>
        mU_X5_missesOfLatest_62 N hd7 s59 x1 v45 x3 x4 v25 v34 v59
      else
        mU_X5_missesOfLatest_62 N hd7 s34 x1 v45 x3 x4 v25 v34 x3
    else
      mU_X5_missesOfLatest_72 N hd7 s34 x1 x2 x3 x4 v25 v34
def mU_X5_missesOfLatest_7 (N : Nat) : ST → Int32 → Int32 → Int32 → Int32 → Option (Int32 × ST) := zIt (mU_X5_missesOfLatest_B7 N) (fun _ _ _ _ _ => none) N
set_option maxRecDepth 20000 in
set_option maxHeartbeats 2000000 in
theorem tU_X5_missesOfLatest_7 {adr : Nat → Nat} {cI cZ cS : ClassId} {X : zX} {q : Int32 × ST} (B : zC X 7 (wdU adr cI cZ cS) cX5_missesOfLatest RX5 (some .int) { frames := 2, cells := 0, slots := 0, locals := 43 }) (N : Nat) : ∀ (σ : ST) (x1 : Int32) (x2 : Int32) (x3 : Int32) (x4 : Int32), mU_X5_missesOfLatest_7 N σ x1 x2 x3 x4 = some q → zJ X 7 (wdU adr cI cZ cS) (zi q) 7 [(0, .ref (adr 0)), (1, .int x1), (2, .int x2), (3, .int x3), (4, .int x4)] [] σ := by
  refine zIt_ind (P := fun (hd : ST → Int32 → Int32 → Int32 → Int32 → Option (Int32 × ST)) => ∀ (σ : ST) (x1 : Int32) (x2 : Int32) (x3 : Int32) (x4 : Int32), hd σ x1 x2 x3 x4 = some q → zJ X 7 (wdU adr cI cZ cS) (zi q) 7 [(0, .ref (adr 0)), (1, .int x1), (2, .int x2), (3, .int x3), (4, .int x4)] [] σ) (fun _ _ _ _ _ hf => by cases hf) (fun hd7 hh7 => ?_) N
  intro σ x1 x2 x3 x4 hf
  refine z_iload B dX5_missesOfLatest_7 4 rfl ?_
  refine z_aload_n B dX5_missesOfLatest_9 0 rfl rfl ?_
  refine fU_g_X5_U_history B dX5_missesOfLatest_10 ?_
  refine fU_g_X5_H_length B dX5_missesOfLatest_13 hf (fun v13 hf => ?_)
  refine z_icmp_ge B 88 dX5_missesOfLatest_16 (by decide) hf (fun hf => ?_) (fun hf => ?_)
  · refine z_iload_n B dX5_missesOfLatest_88 2 rfl rfl ?_
    exact z_ireturn B dX5_missesOfLatest_89 hf
  · refine z_aload_n B dX5_missesOfLatest_19 0 rfl rfl ?_
    refine fU_g_X5_U_history B dX5_missesOfLatest_20 ?_
    refine z_iload B dX5_missesOfLatest_23 4 rfl ?_
    refine z_callVi B (As := [.int x4]) kcV_X5_34 dX5_missesOfLatest_25 hf (fun q hq => cU_X3_blockAt q hq) (wU_o_H (adr := adr) (cI := cI) (cZ := cZ) (cS := cS)) rfl rfl rfl rfl (Nat.le_of_ble_eq_true rfl) rfl rfl ⟨Nat.le_of_ble_eq_true rfl, Nat.le_of_ble_eq_true rfl⟩ (fun v25 s25 hf => ?_)
    refine z_istore B [(5, .int v25), (0, .ref (adr 0)), (1, .int x1), (2, .int x2), (3, .int x3), (4, .int x4)] dX5_missesOfLatest_28 (Nat.le_of_ble_eq_true rfl) rfl ?_
    refine z_aload_n B dX5_missesOfLatest_30 1 rfl rfl ?_
    refine z_iload B dX5_missesOfLatest_31 0 rfl ?_
    refine z_iload_n B dX5_missesOfLatest_33 4 rfl rfl ?_
    refine z_callVi B (As := [.int v25, .int x3]) kcV_X5_67 dX5_missesOfLatest_34 hf (fun q hq => cU_X5_slotHolding q hq) (wU_o_U (adr := adr) (cI := cI) (cZ := cZ) (cS := cS)) rfl rfl rfl rfl (Nat.le_of_ble_eq_true rfl) rfl rfl ⟨Nat.le_of_ble_eq_true rfl, Nat.le_of_ble_eq_true rfl⟩ (fun v34 s34 hf => ?_)
    refine z_istore B [(6, .int v34), (5, .int v25), (0, .ref (adr 0)), (1, .int x1), (2, .int x2), (3, .int x3), (4, .int x4)] dX5_missesOfLatest_37 (Nat.le_of_ble_eq_true rfl) rfl ?_
    refine z_iload B dX5_missesOfLatest_39 0 rfl ?_
    refine z_iconst B (-1) dX5_missesOfLatest_41 zc_iconst_m1 ?_
    refine z_icmp_ne B 72 dX5_missesOfLatest_42 (by decide) hf (fun hf => ?_) (fun hf => ?_)
    · exact z_loc [2, 3, 4, 5, 6, 1, 0] _ rfl (tU_X5_missesOfLatest_72 B N hd7 hh7 s34 x1 x2 x3 x4 v25 v34 hf)
    · refine z_iinc B (1) 4 (fun v45 => [(2, .int v45), (6, .int v34), (5, .int v25), (0, .ref (adr 0)), (1, .int x1), (3, .int x3), (4, .int x4)]) dX5_missesOfLatest_45 hf zc_iconst_1 rfl (Nat.le_of_ble_eq_true rfl) (fun _ => rfl) (fun v45 hf => ?_)
      refine z_iload_n B dX5_missesOfLatest_48 5 rfl rfl ?_
      refine z_iload_n B dX5_missesOfLatest_49 4 rfl rfl ?_
      refine z_icmp_ge B 57 dX5_missesOfLatest_50 (by decide) hf (fun hf => ?_) (fun hf => ?_)
      · refine z_aload_n B dX5_missesOfLatest_57 3 rfl rfl ?_
        refine z_iload_n B dX5_missesOfLatest_58 5 rfl rfl ?_
        refine z_callVi B (As := [.int x3]) kcV_X5_70 dX5_missesOfLatest_59 hf (fun q hq => cU_X5_longestUnread q hq) (wU_o_U (adr := adr) (cI := cI) (cZ := cZ) (cS := cS)) rfl rfl rfl rfl (Nat.le_of_ble_eq_true rfl) rfl rfl ⟨Nat.le_of_ble_eq_true rfl, Nat.le_of_ble_eq_true rfl⟩ (fun v59 s59 hf => ?_)
        exact z_loc [3, 4, 0, 5, 6, 2, 1] _ rfl (tU_X5_missesOfLatest_62 B N hd7 hh7 s59 x1 v45 x3 x4 v25 v34 v59 hf)
      · refine z_iload_n B dX5_missesOfLatest_53 5 rfl rfl ?_
        refine z_goto B 62 dX5_missesOfLatest_54 (by decide) ?_
        exact z_loc [3, 4, 0, 5, 6, 2, 1] _ rfl (tU_X5_missesOfLatest_62 B N hd7 hh7 s34 x1 v45 x3 x4 v25 v34 x3 hf)
def mU_X5_missesOfLatest (N : Nat) (σ : ST) (x1 : Int32) : Option (Int32 × ST) :=
  mU_X5_missesOfLatest_7 N σ x1 (0) (0) (0)
set_option maxRecDepth 20000 in
set_option maxHeartbeats 2000000 in
theorem cU_X5_missesOfLatest {adr : Nat → Nat} {cI cZ cS : ClassId} {l : Launch} {D : va_G} {N : Nat} {σ : ST} {x1 : Int32} (q : Int32 × ST) (hf : mU_X5_missesOfLatest N σ x1 = some q) : zM l D (wdU adr cI cZ cS) yX5_missesOfLatest cX5_missesOfLatest 7 (some .int) ({ frames := 2, cells := 0, slots := 0, locals := 43 }) [.ref (adr 0), .int x1] σ (zi q) := by
  refine zM_of sfU_ok rfl (Nat.le_of_ble_eq_true rfl) [(0, .ref (adr 0)), (1, .int x1)] rfl (fun X hX1 hX2 B => ?_)
  have B : zC X 7 (wdU adr cI cZ cS) cX5_missesOfLatest RX5 (some .int) { frames := 2, cells := 0, slots := 0, locals := 43 } := B
  refine z_iconst B (0) dX5_missesOfLatest_0 zc_iconst_0 ?_
  refine z_istore_n B [(2, .int (0)), (0, .ref (adr 0)), (1, .int x1)] dX5_missesOfLatest_1 rfl (Nat.le_of_ble_eq_true rfl) rfl ?_
  refine z_iconst B (0) dX5_missesOfLatest_2 zc_iconst_0 ?_
  refine z_istore_n B [(3, .int (0)), (2, .int (0)), (0, .ref (adr 0)), (1, .int x1)] dX5_missesOfLatest_3 rfl (Nat.le_of_ble_eq_true rfl) rfl ?_
  refine z_iconst B (0) dX5_missesOfLatest_4 zc_iconst_0 ?_
  refine z_istore B [(4, .int (0)), (3, .int (0)), (2, .int (0)), (0, .ref (adr 0)), (1, .int x1)] dX5_missesOfLatest_5 (Nat.le_of_ble_eq_true rfl) rfl ?_
  exact z_loc [3, 4, 2, 1, 0] _ rfl (tU_X5_missesOfLatest_7 B N σ x1 (0) (0) (0) hf)
theorem dX5_lastReadAgain_0 : decode cX5_lastReadAgain 0 = .ok (.iconst 0, 1) := by decide +kernel
theorem dX5_lastReadAgain_1 : decode cX5_lastReadAgain 1 = .ok (.istore_n 2, 1) := by decide +kernel
theorem dX5_lastReadAgain_2 : decode cX5_lastReadAgain 2 = .ok (.iconst 1, 1) := by decide +kernel
theorem dX5_lastReadAgain_3 : decode cX5_lastReadAgain 3 = .ok (.istore_n 3, 1) := by decide +kernel
theorem dX5_lastReadAgain_4 : decode cX5_lastReadAgain 4 = .ok (.iload_n 3, 1) := by decide +kernel
theorem dX5_lastReadAgain_5 : decode cX5_lastReadAgain 5 = .ok (.iload_n 1, 1) := by decide +kernel
theorem dX5_lastReadAgain_6 : decode cX5_lastReadAgain 6 = .ok (.if_icmp .ge 62, 3) := by decide +kernel
theorem dX5_lastReadAgain_9 : decode cX5_lastReadAgain 9 = .ok (.iload_n 3, 1) := by decide +kernel
theorem dX5_lastReadAgain_10 : decode cX5_lastReadAgain 10 = .ok (.bipush 64, 2) := by decide +kernel
theorem dX5_lastReadAgain_12 : decode cX5_lastReadAgain 12 = .ok (.if_icmp .ge 56, 3) := by decide +kernel
theorem dX5_lastReadAgain_15 : decode cX5_lastReadAgain 15 = .ok (.aload_n 0, 1) := by decide +kernel
theorem dX5_lastReadAgain_16 : decode cX5_lastReadAgain 16 = .ok (.getfield 21, 3) := by decide +kernel
theorem dX5_lastReadAgain_19 : decode cX5_lastReadAgain 19 = .ok (.iload_n 3, 1) := by decide +kernel
theorem dX5_lastReadAgain_20 : decode cX5_lastReadAgain 20 = .ok (.iaload, 1) := by decide +kernel
theorem dX5_lastReadAgain_21 : decode cX5_lastReadAgain 21 = .ok (.aload_n 0, 1) := by decide +kernel
theorem dX5_lastReadAgain_22 : decode cX5_lastReadAgain 22 = .ok (.getfield 21, 3) := by decide +kernel
theorem dX5_lastReadAgain_25 : decode cX5_lastReadAgain 25 = .ok (.iload_n 2, 1) := by decide +kernel
theorem dX5_lastReadAgain_26 : decode cX5_lastReadAgain 26 = .ok (.iaload, 1) := by decide +kernel
theorem dX5_lastReadAgain_27 : decode cX5_lastReadAgain 27 = .ok (.if_icmp .gt 33, 3) := by decide +kernel
theorem dX5_lastReadAgain_30 : decode cX5_lastReadAgain 30 = .ok (.aload_n 0, 1) := by decide +kernel
theorem dX5_lastReadAgain_31 : decode cX5_lastReadAgain 31 = .ok (.getfield 21, 3) := by decide +kernel
theorem dX5_lastReadAgain_34 : decode cX5_lastReadAgain 34 = .ok (.iload_n 3, 1) := by decide +kernel
theorem dX5_lastReadAgain_35 : decode cX5_lastReadAgain 35 = .ok (.iaload, 1) := by decide +kernel
theorem dX5_lastReadAgain_36 : decode cX5_lastReadAgain 36 = .ok (.aload_n 0, 1) := by decide +kernel
theorem dX5_lastReadAgain_37 : decode cX5_lastReadAgain 37 = .ok (.getfield 21, 3) := by decide +kernel
theorem dX5_lastReadAgain_40 : decode cX5_lastReadAgain 40 = .ok (.iload_n 2, 1) := by decide +kernel
theorem dX5_lastReadAgain_41 : decode cX5_lastReadAgain 41 = .ok (.iaload, 1) := by decide +kernel
theorem dX5_lastReadAgain_42 : decode cX5_lastReadAgain 42 = .ok (.if_icmp .ne 20, 3) := by decide +kernel
theorem dX5_lastReadAgain_45 : decode cX5_lastReadAgain 45 = .ok (.aload_n 0, 1) := by decide +kernel
theorem dX5_lastReadAgain_46 : decode cX5_lastReadAgain 46 = .ok (.getfield 18, 3) := by decide +kernel
theorem dX5_lastReadAgain_49 : decode cX5_lastReadAgain 49 = .ok (.iload_n 3, 1) := by decide +kernel
theorem dX5_lastReadAgain_50 : decode cX5_lastReadAgain 50 = .ok (.iaload, 1) := by decide +kernel
theorem dX5_lastReadAgain_51 : decode cX5_lastReadAgain 51 = .ok (.aload_n 0, 1) := by decide +kernel
theorem dX5_lastReadAgain_52 : decode cX5_lastReadAgain 52 = .ok (.getfield 18, 3) := by decide +kernel
theorem dX5_lastReadAgain_55 : decode cX5_lastReadAgain 55 = .ok (.iload_n 2, 1) := by decide +kernel
theorem dX5_lastReadAgain_56 : decode cX5_lastReadAgain 56 = .ok (.iaload, 1) := by decide +kernel
theorem dX5_lastReadAgain_57 : decode cX5_lastReadAgain 57 = .ok (.if_icmp .ge 5, 3) := by decide +kernel
theorem dX5_lastReadAgain_60 : decode cX5_lastReadAgain 60 = .ok (.iload_n 3, 1) := by decide +kernel
theorem dX5_lastReadAgain_61 : decode cX5_lastReadAgain 61 = .ok (.istore_n 2, 1) := by decide +kernel
theorem dX5_lastReadAgain_62 : decode cX5_lastReadAgain 62 = .ok (.iinc 3 1, 3) := by decide +kernel
theorem dX5_lastReadAgain_65 : decode cX5_lastReadAgain 65 = .ok (.goto (-61), 3) := by decide +kernel
theorem dX5_lastReadAgain_68 : decode cX5_lastReadAgain 68 = .ok (.iload_n 2, 1) := by decide +kernel
theorem dX5_lastReadAgain_69 : decode cX5_lastReadAgain 69 = .ok (.ireturn, 1) := by decide +kernel
def mU_X5_lastReadAgain_68 (N : Nat) (σ : ST) (x1 : Int32) (x2 : Int32) (x3 : Int32) : Option (Int32 × ST) :=
  some (x2, σ)
set_option maxRecDepth 20000 in
set_option maxHeartbeats 2000000 in
theorem tU_X5_lastReadAgain_68 {adr : Nat → Nat} {cI cZ cS : ClassId} {X : zX} {q : Int32 × ST} (B : zC X 4 (wdU adr cI cZ cS) cX5_lastReadAgain RX5 (some .int) { frames := 0, cells := 0, slots := 0, locals := 0 }) (N : Nat) (σ : ST) (x1 : Int32) (x2 : Int32) (x3 : Int32) (hf : mU_X5_lastReadAgain_68 N σ x1 x2 x3 = some q) : zJ X 4 (wdU adr cI cZ cS) (zi q) 68 [(0, .ref (adr 0)), (1, .int x1), (2, .int x2), (3, .int x3)] [] σ := by
  refine z_iload_n B dX5_lastReadAgain_68 2 rfl rfl ?_
  exact z_ireturn B dX5_lastReadAgain_69 hf
def mU_X5_lastReadAgain_62 (N : Nat) (hd4 : ST → Int32 → Int32 → Int32 → Option (Int32 × ST)) (σ : ST) (x1 : Int32) (x2 : Int32) (x3 : Int32) : Option (Int32 × ST) :=
  zLet (x3 + (1)) fun v62 =>
  hd4 σ x1 x2 v62
set_option maxRecDepth 20000 in
set_option maxHeartbeats 2000000 in
theorem tU_X5_lastReadAgain_62 {adr : Nat → Nat} {cI cZ cS : ClassId} {X : zX} {q : Int32 × ST} (B : zC X 4 (wdU adr cI cZ cS) cX5_lastReadAgain RX5 (some .int) { frames := 0, cells := 0, slots := 0, locals := 0 }) (N : Nat) (hd4 : ST → Int32 → Int32 → Int32 → Option (Int32 × ST)) (hh4 : ∀ (σ : ST) (x1 : Int32) (x2 : Int32) (x3 : Int32), hd4 σ x1 x2 x3 = some q → zJ X 4 (wdU adr cI cZ cS) (zi q) 4 [(0, .ref (adr 0)), (1, .int x1), (2, .int x2), (3, .int x3)] [] σ) (σ : ST) (x1 : Int32) (x2 : Int32) (x3 : Int32) (hf : mU_X5_lastReadAgain_62 N hd4 σ x1 x2 x3 = some q) : zJ X 4 (wdU adr cI cZ cS) (zi q) 62 [(0, .ref (adr 0)), (1, .int x1), (2, .int x2), (3, .int x3)] [] σ := by
  refine z_iinc B (1) 3 (fun v62 => [(3, .int v62), (0, .ref (adr 0)), (1, .int x1), (2, .int x2)]) dX5_lastReadAgain_62 hf zc_iconst_1 rfl (Nat.le_of_ble_eq_true rfl) (fun _ => rfl) (fun v62 hf => ?_)
  refine z_goto B 4 dX5_lastReadAgain_65 (by decide) ?_
  exact z_loc [1, 2, 3, 0] _ rfl (hh4 σ x1 x2 v62 hf)
def mU_X5_lastReadAgain_60 (N : Nat) (hd4 : ST → Int32 → Int32 → Int32 → Option (Int32 × ST)) (σ : ST) (x1 : Int32) (x2 : Int32) (x3 : Int32) : Option (Int32 × ST) :=
  mU_X5_lastReadAgain_62 N hd4 σ x1 x3 x3
set_option maxRecDepth 20000 in
set_option maxHeartbeats 2000000 in
theorem tU_X5_lastReadAgain_60 {adr : Nat → Nat} {cI cZ cS : ClassId} {X : zX} {q : Int32 × ST} (B : zC X 4 (wdU adr cI cZ cS) cX5_lastReadAgain RX5 (some .int) { frames := 0, cells := 0, slots := 0, locals := 0 }) (N : Nat) (hd4 : ST → Int32 → Int32 → Int32 → Option (Int32 × ST)) (hh4 : ∀ (σ : ST) (x1 : Int32) (x2 : Int32) (x3 : Int32), hd4 σ x1 x2 x3 = some q → zJ X 4 (wdU adr cI cZ cS) (zi q) 4 [(0, .ref (adr 0)), (1, .int x1), (2, .int x2), (3, .int x3)] [] σ) (σ : ST) (x1 : Int32) (x2 : Int32) (x3 : Int32) (hf : mU_X5_lastReadAgain_60 N hd4 σ x1 x2 x3 = some q) : zJ X 4 (wdU adr cI cZ cS) (zi q) 60 [(0, .ref (adr 0)), (1, .int x1), (2, .int x2), (3, .int x3)] [] σ := by
  refine z_iload_n B dX5_lastReadAgain_60 3 rfl rfl ?_
  refine z_istore_n B [(2, .int x3), (0, .ref (adr 0)), (1, .int x1), (3, .int x3)] dX5_lastReadAgain_61 rfl (Nat.le_of_ble_eq_true rfl) rfl ?_
  exact z_loc [1, 2, 0, 3] _ rfl (tU_X5_lastReadAgain_62 B N hd4 hh4 σ x1 x3 x3 hf)
def mU_X5_lastReadAgain_B4 (N : Nat) (hd4 : ST → Int32 → Int32 → Int32 → Option (Int32 × ST)) (σ : ST) (x1 : Int32) (x2 : Int32) (x3 : Int32) : Option (Int32 × ST) :=
  if (x1 : Int32) ≤ x3 then
    mU_X5_lastReadAgain_68 N σ x1 x2 x3
  else
    if ((64) : Int32) ≤ x3 then
      mU_X5_lastReadAgain_68 N σ x1 x2 x3
    else
      zGet (σ 4) 64 x3 fun v20 =>
      zGet (σ 4) 64 x2 fun v26 =>
      if (v26 : Int32) < v20 then
        mU_X5_lastReadAgain_60 N hd4 σ x1 x2 x3
      else
        zGet (σ 4) 64 x3 fun v35 =>
        zGet (σ 4) 64 x2 fun v41 =>
        if (v35 : Int32) = v41 then
          zGet (σ 3) 64 x3 fun v50 =>
          zGet (σ 3) 64 x2 fun v56 =>
          if (v56 : Int32) ≤ v50 then
            mU_X5_lastReadAgain_62 N hd4 σ x1 x2 x3
          else
            mU_X5_lastReadAgain_60 N hd4 σ x1 x2 x3
        else
          mU_X5_lastReadAgain_62 N hd4 σ x1 x2 x3
def mU_X5_lastReadAgain_4 (N : Nat) : ST → Int32 → Int32 → Int32 → Option (Int32 × ST) := zIt (mU_X5_lastReadAgain_B4 N) (fun _ _ _ _ => none) N
set_option maxRecDepth 20000 in
set_option maxHeartbeats 2000000 in
theorem tU_X5_lastReadAgain_4 {adr : Nat → Nat} {cI cZ cS : ClassId} {X : zX} {q : Int32 × ST} (B : zC X 4 (wdU adr cI cZ cS) cX5_lastReadAgain RX5 (some .int) { frames := 0, cells := 0, slots := 0, locals := 0 }) (N : Nat) : ∀ (σ : ST) (x1 : Int32) (x2 : Int32) (x3 : Int32), mU_X5_lastReadAgain_4 N σ x1 x2 x3 = some q → zJ X 4 (wdU adr cI cZ cS) (zi q) 4 [(0, .ref (adr 0)), (1, .int x1), (2, .int x2), (3, .int x3)] [] σ := by
  refine zIt_ind (P := fun (hd : ST → Int32 → Int32 → Int32 → Option (Int32 × ST)) => ∀ (σ : ST) (x1 : Int32) (x2 : Int32) (x3 : Int32), hd σ x1 x2 x3 = some q → zJ X 4 (wdU adr cI cZ cS) (zi q) 4 [(0, .ref (adr 0)), (1, .int x1), (2, .int x2), (3, .int x3)] [] σ) (fun _ _ _ _ hf => by cases hf) (fun hd4 hh4 => ?_) N
  intro σ x1 x2 x3 hf
  refine z_iload_n B dX5_lastReadAgain_4 3 rfl rfl ?_
  refine z_iload_n B dX5_lastReadAgain_5 1 rfl rfl ?_
  refine z_icmp_ge B 68 dX5_lastReadAgain_6 (by decide) hf (fun hf => ?_) (fun hf => ?_)
  · exact tU_X5_lastReadAgain_68 B N σ x1 x2 x3 hf
  · refine z_iload_n B dX5_lastReadAgain_9 3 rfl rfl ?_
    refine z_bipush B (64) dX5_lastReadAgain_10 zc_bipush_64 ?_
    refine z_icmp_ge B 68 dX5_lastReadAgain_12 (by decide) hf (fun hf => ?_) (fun hf => ?_)
    · exact tU_X5_lastReadAgain_68 B N σ x1 x2 x3 hf
    · refine z_aload_n B dX5_lastReadAgain_15 0 rfl rfl ?_
      refine fU_g_X5_U_turns B dX5_lastReadAgain_16 ?_
      refine z_iload_n B dX5_lastReadAgain_19 3 rfl rfl ?_
      refine fU_l_U_turns B dX5_lastReadAgain_20 hf (fun v20 hf => ?_)
      refine z_aload_n B dX5_lastReadAgain_21 0 rfl rfl ?_
      refine fU_g_X5_U_turns B dX5_lastReadAgain_22 ?_
      refine z_iload_n B dX5_lastReadAgain_25 2 rfl rfl ?_
      refine fU_l_U_turns B dX5_lastReadAgain_26 hf (fun v26 hf => ?_)
      refine z_icmp_gt B 60 dX5_lastReadAgain_27 (by decide) hf (fun hf => ?_) (fun hf => ?_)
      · exact tU_X5_lastReadAgain_60 B N hd4 hh4 σ x1 x2 x3 hf
      · refine z_aload_n B dX5_lastReadAgain_30 0 rfl rfl ?_
        refine fU_g_X5_U_turns B dX5_lastReadAgain_31 ?_
        refine z_iload_n B dX5_lastReadAgain_34 3 rfl rfl ?_
        refine fU_l_U_turns B dX5_lastReadAgain_35 hf (fun v35 hf => ?_)
        refine z_aload_n B dX5_lastReadAgain_36 0 rfl rfl ?_
        refine fU_g_X5_U_turns B dX5_lastReadAgain_37 ?_
        refine z_iload_n B dX5_lastReadAgain_40 2 rfl rfl ?_
        refine fU_l_U_turns B dX5_lastReadAgain_41 hf (fun v41 hf => ?_)
        refine z_icmp_ne B 62 dX5_lastReadAgain_42 (by decide) hf (fun hf => ?_) (fun hf => ?_)
        · exact tU_X5_lastReadAgain_62 B N hd4 hh4 σ x1 x2 x3 hf
        · refine z_aload_n B dX5_lastReadAgain_45 0 rfl rfl ?_
          refine fU_g_X5_U_held B dX5_lastReadAgain_46 ?_
          refine z_iload_n B dX5_lastReadAgain_49 3 rfl rfl ?_
          refine fU_l_U_held B dX5_lastReadAgain_50 hf (fun v50 hf => ?_)
          refine z_aload_n B dX5_lastReadAgain_51 0 rfl rfl ?_
          refine fU_g_X5_U_held B dX5_lastReadAgain_52 ?_
          refine z_iload_n B dX5_lastReadAgain_55 2 rfl rfl ?_
          refine fU_l_U_held B dX5_lastReadAgain_56 hf (fun v56 hf => ?_)
          refine z_icmp_ge B 62 dX5_lastReadAgain_57 (by decide) hf (fun hf => ?_) (fun hf => ?_)
          · exact tU_X5_lastReadAgain_62 B N hd4 hh4 σ x1 x2 x3 hf
          · exact tU_X5_lastReadAgain_60 B N hd4 hh4 σ x1 x2 x3 hf
def mU_X5_lastReadAgain (N : Nat) (σ : ST) (x1 : Int32) : Option (Int32 × ST) :=
  mU_X5_lastReadAgain_4 N σ x1 (0) (1)
set_option maxRecDepth 20000 in
set_option maxHeartbeats 2000000 in
theorem cU_X5_lastReadAgain {adr : Nat → Nat} {cI cZ cS : ClassId} {l : Launch} {D : va_G} {N : Nat} {σ : ST} {x1 : Int32} (q : Int32 × ST) (hf : mU_X5_lastReadAgain N σ x1 = some q) : zM l D (wdU adr cI cZ cS) yX5_lastReadAgain cX5_lastReadAgain 4 (some .int) ({ frames := 0, cells := 0, slots := 0, locals := 0 }) [.ref (adr 0), .int x1] σ (zi q) := by
  refine zM_of sfU_ok rfl (Nat.le_of_ble_eq_true rfl) [(0, .ref (adr 0)), (1, .int x1)] rfl (fun X hX1 hX2 B => ?_)
  have B : zC X 4 (wdU adr cI cZ cS) cX5_lastReadAgain RX5 (some .int) { frames := 0, cells := 0, slots := 0, locals := 0 } := B
  refine z_iconst B (0) dX5_lastReadAgain_0 zc_iconst_0 ?_
  refine z_istore_n B [(2, .int (0)), (0, .ref (adr 0)), (1, .int x1)] dX5_lastReadAgain_1 rfl (Nat.le_of_ble_eq_true rfl) rfl ?_
  refine z_iconst B (1) dX5_lastReadAgain_2 zc_iconst_1 ?_
  refine z_istore_n B [(3, .int (1)), (2, .int (0)), (0, .ref (adr 0)), (1, .int x1)] dX5_lastReadAgain_3 rfl (Nat.le_of_ble_eq_true rfl) rfl ?_
  exact z_loc [2, 3, 1, 0] _ rfl (tU_X5_lastReadAgain_4 B N σ x1 (0) (1) hf)
theorem dX5_lookAhead_0 : decode cX5_lookAhead 0 = .ok (.aload_n 0, 1) := by decide +kernel
theorem dX5_lookAhead_1 : decode cX5_lookAhead 1 = .ok (.getfield 24, 3) := by decide +kernel
theorem dX5_lookAhead_4 : decode cX5_lookAhead 4 = .ok (.getfield 28, 3) := by decide +kernel
theorem dX5_lookAhead_7 : decode cX5_lookAhead 7 = .ok (.sipush 400, 3) := by decide +kernel
theorem dX5_lookAhead_10 : decode cX5_lookAhead 10 = .ok (.invokestatic 73, 3) := by decide +kernel
theorem dX5_lookAhead_13 : decode cX5_lookAhead 13 = .ok (.iconst 1, 1) := by decide +kernel
theorem dX5_lookAhead_14 : decode cX5_lookAhead 14 = .ok (.isub, 1) := by decide +kernel
theorem dX5_lookAhead_15 : decode cX5_lookAhead 15 = .ok (.istore_n 1, 1) := by decide +kernel
theorem dX5_lookAhead_16 : decode cX5_lookAhead 16 = .ok (.iload_n 1, 1) := by decide +kernel
theorem dX5_lookAhead_17 : decode cX5_lookAhead 17 = .ok (.ifCond .lt 48, 3) := by decide +kernel
theorem dX5_lookAhead_20 : decode cX5_lookAhead 20 = .ok (.aload_n 0, 1) := by decide +kernel
theorem dX5_lookAhead_21 : decode cX5_lookAhead 21 = .ok (.getfield 24, 3) := by decide +kernel
theorem dX5_lookAhead_24 : decode cX5_lookAhead 24 = .ok (.iload_n 1, 1) := by decide +kernel
theorem dX5_lookAhead_25 : decode cX5_lookAhead 25 = .ok (.invokevirtual 34, 3) := by decide +kernel
theorem dX5_lookAhead_28 : decode cX5_lookAhead 28 = .ok (.istore_n 2, 1) := by decide +kernel
theorem dX5_lookAhead_29 : decode cX5_lookAhead 29 = .ok (.aload_n 0, 1) := by decide +kernel
theorem dX5_lookAhead_30 : decode cX5_lookAhead 30 = .ok (.iload_n 2, 1) := by decide +kernel
theorem dX5_lookAhead_31 : decode cX5_lookAhead 31 = .ok (.invokevirtual 58, 3) := by decide +kernel
theorem dX5_lookAhead_34 : decode cX5_lookAhead 34 = .ok (.istore_n 3, 1) := by decide +kernel
theorem dX5_lookAhead_35 : decode cX5_lookAhead 35 = .ok (.aload_n 0, 1) := by decide +kernel
theorem dX5_lookAhead_36 : decode cX5_lookAhead 36 = .ok (.getfield 15, 3) := by decide +kernel
theorem dX5_lookAhead_39 : decode cX5_lookAhead 39 = .ok (.iload_n 1, 1) := by decide +kernel
theorem dX5_lookAhead_40 : decode cX5_lookAhead 40 = .ok (.iload_n 3, 1) := by decide +kernel
theorem dX5_lookAhead_41 : decode cX5_lookAhead 41 = .ok (.ifCond .ne 8, 3) := by decide +kernel
theorem dX5_lookAhead_44 : decode cX5_lookAhead 44 = .ok (.ldc 88, 2) := by decide +kernel
theorem dX5_lookAhead_46 : decode cX5_lookAhead 46 = .ok (.goto 4, 3) := by decide +kernel
theorem dX5_lookAhead_49 : decode cX5_lookAhead 49 = .ok (.iload_n 3, 1) := by decide +kernel
theorem dX5_lookAhead_50 : decode cX5_lookAhead 50 = .ok (.iastore, 1) := by decide +kernel
theorem dX5_lookAhead_51 : decode cX5_lookAhead 51 = .ok (.aload_n 0, 1) := by decide +kernel
theorem dX5_lookAhead_52 : decode cX5_lookAhead 52 = .ok (.iload_n 2, 1) := by decide +kernel
theorem dX5_lookAhead_53 : decode cX5_lookAhead 53 = .ok (.iload_n 1, 1) := by decide +kernel
theorem dX5_lookAhead_54 : decode cX5_lookAhead 54 = .ok (.iconst 1, 1) := by decide +kernel
theorem dX5_lookAhead_55 : decode cX5_lookAhead 55 = .ok (.iadd, 1) := by decide +kernel
theorem dX5_lookAhead_56 : decode cX5_lookAhead 56 = .ok (.invokevirtual 38, 3) := by decide +kernel
theorem dX5_lookAhead_59 : decode cX5_lookAhead 59 = .ok (.iinc 1 (-1), 3) := by decide +kernel
theorem dX5_lookAhead_62 : decode cX5_lookAhead 62 = .ok (.goto (-46), 3) := by decide +kernel
theorem dX5_lookAhead_65 : decode cX5_lookAhead 65 = .ok (.aload_n 0, 1) := by decide +kernel
theorem dX5_lookAhead_66 : decode cX5_lookAhead 66 = .ok (.invokevirtual 61, 3) := by decide +kernel
theorem dX5_lookAhead_69 : decode cX5_lookAhead 69 = .ok (.return_, 1) := by decide +kernel
def mU_X5_lookAhead_50 (N : Nat) (hd16 : ST → Int32 → Option (ST)) (σ : ST) (x1 : Int32) (x2 : Int32) (x3 : Int32) (k1 : Int32) (k2 : Int32) : Option (ST) :=
  zSet σ 2 400 k1 k2 fun s50 =>
  zLet ((x1 : Int32) + (1)) fun v55 =>
  zCallu (mU_X5_setTally N s50 x2 v55) fun s56 =>
  zLet (x1 + (-1)) fun v59 =>
  hd16 s56 v59
set_option maxRecDepth 20000 in
set_option maxHeartbeats 2000000 in
theorem tU_X5_lookAhead_50 {adr : Nat → Nat} {cI cZ cS : ClassId} {X : zX} {q : ST} (B : zC X 4 (wdU adr cI cZ cS) cX5_lookAhead RX5 none { frames := 3, cells := 0, slots := 0, locals := 64 }) (N : Nat) (hd16 : ST → Int32 → Option (ST)) (hh16 : ∀ (σ : ST) (x1 : Int32), hd16 σ x1 = some q → zJ X 4 (wdU adr cI cZ cS) (zu q) 16 [(0, .ref (adr 0)), (1, .int x1)] [] σ) (σ : ST) (x1 : Int32) (x2 : Int32) (x3 : Int32) (k1 : Int32) (k2 : Int32) (hf : mU_X5_lookAhead_50 N hd16 σ x1 x2 x3 k1 k2 = some q) : zJ X 4 (wdU adr cI cZ cS) (zu q) 50 [(0, .ref (adr 0)), (1, .int x1), (2, .int x2), (3, .int x3)] [.int k2, .int k1, .ref (adr 2)] σ := by
  refine fU_s_U_nextRead B dX5_lookAhead_50 hf (fun s50 hf => ?_)
  refine z_aload_n B dX5_lookAhead_51 0 rfl rfl ?_
  refine z_iload_n B dX5_lookAhead_52 2 rfl rfl ?_
  refine z_iload_n B dX5_lookAhead_53 1 rfl rfl ?_
  refine z_iconst B (1) dX5_lookAhead_54 zc_iconst_1 ?_
  refine z_iadd B dX5_lookAhead_55 hf (fun v55 hf => ?_)
  refine z_callVu B (As := [.int x2, .int v55]) kcV_X5_38 dX5_lookAhead_56 hf (fun q hq => cU_X5_setTally q hq) (wU_o_U (adr := adr) (cI := cI) (cZ := cZ) (cS := cS)) rfl rfl rfl rfl (Nat.le_of_ble_eq_true rfl) rfl rfl ⟨Nat.le_of_ble_eq_true rfl, Nat.le_of_ble_eq_true rfl⟩ (fun s56 hf => ?_)
  refine z_iinc B (-1) 1 (fun v59 => [(1, .int v59), (0, .ref (adr 0)), (2, .int x2), (3, .int x3)]) dX5_lookAhead_59 hf zc_iconst_m1 rfl (Nat.le_of_ble_eq_true rfl) (fun _ => rfl) (fun v59 hf => ?_)
  refine z_goto B 16 dX5_lookAhead_62 (by decide) ?_
  exact z_loc [1, 0] _ rfl (hh16 s56 v59 hf)
def mU_X5_lookAhead_B16 (N : Nat) (hd16 : ST → Int32 → Option (ST)) (σ : ST) (x1 : Int32) : Option (ST) :=
  if (x1 : Int32) < 0 then
    zCallu (mU_X5_clearTally N σ) fun s66 =>
    some s66
  else
    zCall (mU_X3_blockAt N σ x1) fun v25 s25 =>
    zCall (mU_X5_tallyOf N s25 v25) fun v31 s31 =>
    if (v31 : Int32) = 0 then
      mU_X5_lookAhead_50 N hd16 s31 x1 v25 v31 x1 (2147483647)
    else
      mU_X5_lookAhead_50 N hd16 s31 x1 v25 v31 x1 v31
def mU_X5_lookAhead_16 (N : Nat) : ST → Int32 → Option (ST) := zIt (mU_X5_lookAhead_B16 N) (fun _ _ => none) N
set_option maxRecDepth 20000 in
set_option maxHeartbeats 2000000 in
theorem tU_X5_lookAhead_16 {adr : Nat → Nat} {cI cZ cS : ClassId} {X : zX} {q : ST} (B : zC X 4 (wdU adr cI cZ cS) cX5_lookAhead RX5 none { frames := 3, cells := 0, slots := 0, locals := 64 }) (N : Nat) : ∀ (σ : ST) (x1 : Int32), mU_X5_lookAhead_16 N σ x1 = some q → zJ X 4 (wdU adr cI cZ cS) (zu q) 16 [(0, .ref (adr 0)), (1, .int x1)] [] σ := by
  refine zIt_ind (P := fun (hd : ST → Int32 → Option (ST)) => ∀ (σ : ST) (x1 : Int32), hd σ x1 = some q → zJ X 4 (wdU adr cI cZ cS) (zu q) 16 [(0, .ref (adr 0)), (1, .int x1)] [] σ) (fun _ _ hf => by cases hf) (fun hd16 hh16 => ?_) N
  intro σ x1 hf
  refine z_iload_n B dX5_lookAhead_16 1 rfl rfl ?_
  refine z_if_lt B 65 dX5_lookAhead_17 (by decide) hf (fun hf => ?_) (fun hf => ?_)
  · refine z_aload_n B dX5_lookAhead_65 0 rfl rfl ?_
    refine z_callVu B (As := []) kcV_X5_61 dX5_lookAhead_66 hf (fun q hq => cU_X5_clearTally q hq) (wU_o_U (adr := adr) (cI := cI) (cZ := cZ) (cS := cS)) rfl rfl rfl rfl (Nat.le_of_ble_eq_true rfl) rfl rfl ⟨Nat.le_of_ble_eq_true rfl, Nat.le_of_ble_eq_true rfl⟩ (fun s66 hf => ?_)
    exact z_return B dX5_lookAhead_69 hf
  · refine z_aload_n B dX5_lookAhead_20 0 rfl rfl ?_
    refine fU_g_X5_U_history B dX5_lookAhead_21 ?_
    refine z_iload_n B dX5_lookAhead_24 1 rfl rfl ?_
    refine z_callVi B (As := [.int x1]) kcV_X5_34 dX5_lookAhead_25 hf (fun q hq => cU_X3_blockAt q hq) (wU_o_H (adr := adr) (cI := cI) (cZ := cZ) (cS := cS)) rfl rfl rfl rfl (Nat.le_of_ble_eq_true rfl) rfl rfl ⟨Nat.le_of_ble_eq_true rfl, Nat.le_of_ble_eq_true rfl⟩ (fun v25 s25 hf => ?_)
    refine z_istore_n B [(2, .int v25), (0, .ref (adr 0)), (1, .int x1)] dX5_lookAhead_28 rfl (Nat.le_of_ble_eq_true rfl) rfl ?_
    refine z_aload_n B dX5_lookAhead_29 1 rfl rfl ?_
    refine z_iload_n B dX5_lookAhead_30 0 rfl rfl ?_
    refine z_callVi B (As := [.int v25]) kcV_X5_58 dX5_lookAhead_31 hf (fun q hq => cU_X5_tallyOf q hq) (wU_o_U (adr := adr) (cI := cI) (cZ := cZ) (cS := cS)) rfl rfl rfl rfl (Nat.le_of_ble_eq_true rfl) rfl rfl ⟨Nat.le_of_ble_eq_true rfl, Nat.le_of_ble_eq_true rfl⟩ (fun v31 s31 hf => ?_)
    refine z_istore_n B [(3, .int v31), (2, .int v25), (0, .ref (adr 0)), (1, .int x1)] dX5_lookAhead_34 rfl (Nat.le_of_ble_eq_true rfl) rfl ?_
    refine z_aload_n B dX5_lookAhead_35 2 rfl rfl ?_
    refine fU_g_X5_U_nextRead B dX5_lookAhead_36 ?_
    refine z_iload_n B dX5_lookAhead_39 3 rfl rfl ?_
    refine z_iload_n B dX5_lookAhead_40 0 rfl rfl ?_
    refine z_if_ne B 49 dX5_lookAhead_41 (by decide) hf (fun hf => ?_) (fun hf => ?_)
    · refine z_iload_n B dX5_lookAhead_49 0 rfl rfl ?_
      exact z_loc [2, 3, 1, 0] _ rfl (tU_X5_lookAhead_50 B N hd16 hh16 s31 x1 v25 v31 x1 v31 hf)
    · refine z_ldc B kw_843 dX5_lookAhead_44 ?_
      refine z_goto B 50 dX5_lookAhead_46 (by decide) ?_
      exact z_loc [2, 3, 1, 0] _ rfl (tU_X5_lookAhead_50 B N hd16 hh16 s31 x1 v25 v31 x1 (2147483647) hf)
def mU_X5_lookAhead (N : Nat) (σ : ST) : Option (ST) :=
  zLet (σ 5 4) fun v4 =>
  zLet (if ((400) : Int32) < v4 then (400) else v4) fun v10 =>
  zLet ((v10 : Int32) - (1)) fun v14 =>
  mU_X5_lookAhead_16 N σ v14
set_option maxRecDepth 20000 in
set_option maxHeartbeats 2000000 in
theorem cU_X5_lookAhead {adr : Nat → Nat} {cI cZ cS : ClassId} {l : Launch} {D : va_G} {N : Nat} {σ : ST} (q : ST) (hf : mU_X5_lookAhead N σ = some q) : zM l D (wdU adr cI cZ cS) yX5_lookAhead cX5_lookAhead 4 none ({ frames := 3, cells := 0, slots := 0, locals := 64 }) [.ref (adr 0)] σ (zu q) := by
  refine zM_of sfU_ok rfl (Nat.le_of_ble_eq_true rfl) [(0, .ref (adr 0))] rfl (fun X hX1 hX2 B => ?_)
  have B : zC X 4 (wdU adr cI cZ cS) cX5_lookAhead RX5 none { frames := 3, cells := 0, slots := 0, locals := 64 } := B
  refine z_aload_n B dX5_lookAhead_0 0 rfl rfl ?_
  refine fU_g_X5_U_history B dX5_lookAhead_1 ?_
  refine fU_g_X5_H_length B dX5_lookAhead_4 hf (fun v4 hf => ?_)
  refine z_sipush B (400) dX5_lookAhead_7 zc_sipush_400 ?_
  refine z_mmin B kw_701 kmS_min kmI kmC_min (Nat.le_of_ble_eq_true rfl) (Nat.le_of_ble_eq_true rfl) dX5_lookAhead_10 hf (fun v10 hf => ?_)
  refine z_iconst B (1) dX5_lookAhead_13 zc_iconst_1 ?_
  refine z_isub B dX5_lookAhead_14 hf (fun v14 hf => ?_)
  refine z_istore_n B [(1, .int v14), (0, .ref (adr 0))] dX5_lookAhead_15 rfl (Nat.le_of_ble_eq_true rfl) rfl ?_
  exact z_loc [1, 0] _ rfl (tU_X5_lookAhead_16 B N σ v14 hf)
theorem dX5_missesAtBest_0 : decode cX5_missesAtBest 0 = .ok (.aload_n 0, 1) := by decide +kernel
theorem dX5_missesAtBest_1 : decode cX5_missesAtBest 1 = .ok (.invokevirtual 80, 3) := by decide +kernel
theorem dX5_missesAtBest_4 : decode cX5_missesAtBest 4 = .ok (.iconst 0, 1) := by decide +kernel
theorem dX5_missesAtBest_5 : decode cX5_missesAtBest 5 = .ok (.istore_n 2, 1) := by decide +kernel
theorem dX5_missesAtBest_6 : decode cX5_missesAtBest 6 = .ok (.iconst 0, 1) := by decide +kernel
theorem dX5_missesAtBest_7 : decode cX5_missesAtBest 7 = .ok (.istore_n 3, 1) := by decide +kernel
theorem dX5_missesAtBest_8 : decode cX5_missesAtBest 8 = .ok (.iconst 0, 1) := by decide +kernel
theorem dX5_missesAtBest_9 : decode cX5_missesAtBest 9 = .ok (.istore 4, 2) := by decide +kernel
theorem dX5_missesAtBest_11 : decode cX5_missesAtBest 11 = .ok (.iload 4, 2) := by decide +kernel
theorem dX5_missesAtBest_13 : decode cX5_missesAtBest 13 = .ok (.aload_n 0, 1) := by decide +kernel
theorem dX5_missesAtBest_14 : decode cX5_missesAtBest 14 = .ok (.getfield 24, 3) := by decide +kernel
theorem dX5_missesAtBest_17 : decode cX5_missesAtBest 17 = .ok (.getfield 28, 3) := by decide +kernel
theorem dX5_missesAtBest_20 : decode cX5_missesAtBest 20 = .ok (.if_icmp .ge 85, 3) := by decide +kernel
theorem dX5_missesAtBest_23 : decode cX5_missesAtBest 23 = .ok (.iload 4, 2) := by decide +kernel
theorem dX5_missesAtBest_25 : decode cX5_missesAtBest 25 = .ok (.sipush 400, 3) := by decide +kernel
theorem dX5_missesAtBest_28 : decode cX5_missesAtBest 28 = .ok (.if_icmp .ge 77, 3) := by decide +kernel
theorem dX5_missesAtBest_31 : decode cX5_missesAtBest 31 = .ok (.aload_n 0, 1) := by decide +kernel
theorem dX5_missesAtBest_32 : decode cX5_missesAtBest 32 = .ok (.getfield 24, 3) := by decide +kernel
theorem dX5_missesAtBest_35 : decode cX5_missesAtBest 35 = .ok (.iload 4, 2) := by decide +kernel
theorem dX5_missesAtBest_37 : decode cX5_missesAtBest 37 = .ok (.invokevirtual 34, 3) := by decide +kernel
theorem dX5_missesAtBest_40 : decode cX5_missesAtBest 40 = .ok (.istore 5, 2) := by decide +kernel
theorem dX5_missesAtBest_42 : decode cX5_missesAtBest 42 = .ok (.aload_n 0, 1) := by decide +kernel
theorem dX5_missesAtBest_43 : decode cX5_missesAtBest 43 = .ok (.iload 5, 2) := by decide +kernel
theorem dX5_missesAtBest_45 : decode cX5_missesAtBest 45 = .ok (.iload_n 3, 1) := by decide +kernel
theorem dX5_missesAtBest_46 : decode cX5_missesAtBest 46 = .ok (.invokevirtual 67, 3) := by decide +kernel
theorem dX5_missesAtBest_49 : decode cX5_missesAtBest 49 = .ok (.istore 6, 2) := by decide +kernel
theorem dX5_missesAtBest_51 : decode cX5_missesAtBest 51 = .ok (.iload 6, 2) := by decide +kernel
theorem dX5_missesAtBest_53 : decode cX5_missesAtBest 53 = .ok (.iconst (-1), 1) := by decide +kernel
theorem dX5_missesAtBest_54 : decode cX5_missesAtBest 54 = .ok (.if_icmp .ne 30, 3) := by decide +kernel
theorem dX5_missesAtBest_57 : decode cX5_missesAtBest 57 = .ok (.iinc 2 1, 3) := by decide +kernel
theorem dX5_missesAtBest_60 : decode cX5_missesAtBest 60 = .ok (.iload_n 3, 1) := by decide +kernel
theorem dX5_missesAtBest_61 : decode cX5_missesAtBest 61 = .ok (.iload_n 1, 1) := by decide +kernel
theorem dX5_missesAtBest_62 : decode cX5_missesAtBest 62 = .ok (.if_icmp .ge 7, 3) := by decide +kernel
theorem dX5_missesAtBest_65 : decode cX5_missesAtBest 65 = .ok (.iload_n 3, 1) := by decide +kernel
theorem dX5_missesAtBest_66 : decode cX5_missesAtBest 66 = .ok (.goto 8, 3) := by decide +kernel
theorem dX5_missesAtBest_69 : decode cX5_missesAtBest 69 = .ok (.aload_n 0, 1) := by decide +kernel
theorem dX5_missesAtBest_70 : decode cX5_missesAtBest 70 = .ok (.iload_n 3, 1) := by decide +kernel
theorem dX5_missesAtBest_71 : decode cX5_missesAtBest 71 = .ok (.invokevirtual 83, 3) := by decide +kernel
theorem dX5_missesAtBest_74 : decode cX5_missesAtBest 74 = .ok (.istore 6, 2) := by decide +kernel
theorem dX5_missesAtBest_76 : decode cX5_missesAtBest 76 = .ok (.iload_n 1, 1) := by decide +kernel
theorem dX5_missesAtBest_77 : decode cX5_missesAtBest 77 = .ok (.iload_n 3, 1) := by decide +kernel
theorem dX5_missesAtBest_78 : decode cX5_missesAtBest 78 = .ok (.iconst 1, 1) := by decide +kernel
theorem dX5_missesAtBest_79 : decode cX5_missesAtBest 79 = .ok (.iadd, 1) := by decide +kernel
theorem dX5_missesAtBest_80 : decode cX5_missesAtBest 80 = .ok (.invokestatic 73, 3) := by decide +kernel
theorem dX5_missesAtBest_83 : decode cX5_missesAtBest 83 = .ok (.istore_n 3, 1) := by decide +kernel
theorem dX5_missesAtBest_84 : decode cX5_missesAtBest 84 = .ok (.aload_n 0, 1) := by decide +kernel
theorem dX5_missesAtBest_85 : decode cX5_missesAtBest 85 = .ok (.iload 6, 2) := by decide +kernel
theorem dX5_missesAtBest_87 : decode cX5_missesAtBest 87 = .ok (.iload 5, 2) := by decide +kernel
theorem dX5_missesAtBest_89 : decode cX5_missesAtBest 89 = .ok (.aload_n 0, 1) := by decide +kernel
theorem dX5_missesAtBest_90 : decode cX5_missesAtBest 90 = .ok (.getfield 15, 3) := by decide +kernel
theorem dX5_missesAtBest_93 : decode cX5_missesAtBest 93 = .ok (.iload 4, 2) := by decide +kernel
theorem dX5_missesAtBest_95 : decode cX5_missesAtBest 95 = .ok (.iaload, 1) := by decide +kernel
theorem dX5_missesAtBest_96 : decode cX5_missesAtBest 96 = .ok (.invokevirtual 76, 3) := by decide +kernel
theorem dX5_missesAtBest_99 : decode cX5_missesAtBest 99 = .ok (.iinc 4 1, 3) := by decide +kernel
theorem dX5_missesAtBest_102 : decode cX5_missesAtBest 102 = .ok (.goto (-91), 3) := by decide +kernel
theorem dX5_missesAtBest_105 : decode cX5_missesAtBest 105 = .ok (.iload_n 2, 1) := by decide +kernel
theorem dX5_missesAtBest_106 : decode cX5_missesAtBest 106 = .ok (.ireturn, 1) := by decide +kernel
def mU_X5_missesAtBest_105 (N : Nat) (σ : ST) (x1 : Int32) (x2 : Int32) (x3 : Int32) (x4 : Int32) : Option (Int32 × ST) :=
  some (x2, σ)
set_option maxRecDepth 20000 in
set_option maxHeartbeats 2000000 in
theorem tU_X5_missesAtBest_105 {adr : Nat → Nat} {cI cZ cS : ClassId} {X : zX} {q : Int32 × ST} (B : zC X 7 (wdU adr cI cZ cS) cX5_missesAtBest RX5 (some .int) { frames := 4, cells := 0, slots := 0, locals := 87 }) (N : Nat) (σ : ST) (x1 : Int32) (x2 : Int32) (x3 : Int32) (x4 : Int32) (hf : mU_X5_missesAtBest_105 N σ x1 x2 x3 x4 = some q) : zJ X 7 (wdU adr cI cZ cS) (zi q) 105 [(0, .ref (adr 0)), (1, .int x1), (2, .int x2), (3, .int x3), (4, .int x4)] [] σ := by
  refine z_iload_n B dX5_missesAtBest_105 2 rfl rfl ?_
  exact z_ireturn B dX5_missesAtBest_106 hf
def mU_X5_missesAtBest_84 (N : Nat) (hd11 : ST → Int32 → Int32 → Int32 → Int32 → Option (Int32 × ST)) (σ : ST) (x1 : Int32) (x2 : Int32) (x3 : Int32) (x4 : Int32) (x5 : Int32) (x6 : Int32) : Option (Int32 × ST) :=
  zGet (σ 2) 400 x4 fun v95 =>
  zCallu (mU_X5_hold N σ x6 x5 v95) fun s96 =>
  zLet (x4 + (1)) fun v99 =>
  hd11 s96 x1 x2 x3 v99
set_option maxRecDepth 20000 in
set_option maxHeartbeats 2000000 in
theorem tU_X5_missesAtBest_84 {adr : Nat → Nat} {cI cZ cS : ClassId} {X : zX} {q : Int32 × ST} (B : zC X 7 (wdU adr cI cZ cS) cX5_missesAtBest RX5 (some .int) { frames := 4, cells := 0, slots := 0, locals := 87 }) (N : Nat) (hd11 : ST → Int32 → Int32 → Int32 → Int32 → Option (Int32 × ST)) (hh11 : ∀ (σ : ST) (x1 : Int32) (x2 : Int32) (x3 : Int32) (x4 : Int32), hd11 σ x1 x2 x3 x4 = some q → zJ X 7 (wdU adr cI cZ cS) (zi q) 11 [(0, .ref (adr 0)), (1, .int x1), (2, .int x2), (3, .int x3), (4, .int x4)] [] σ) (σ : ST) (x1 : Int32) (x2 : Int32) (x3 : Int32) (x4 : Int32) (x5 : Int32) (x6 : Int32) (hf : mU_X5_missesAtBest_84 N hd11 σ x1 x2 x3 x4 x5 x6 = some q) : zJ X 7 (wdU adr cI cZ cS) (zi q) 84 [(0, .ref (adr 0)), (1, .int x1), (2, .int x2), (3, .int x3), (4, .int x4), (5, .int x5), (6, .int x6)] [] σ := by
  refine z_aload_n B dX5_missesAtBest_84 0 rfl rfl ?_
  refine z_iload B dX5_missesAtBest_85 6 rfl ?_
  refine z_iload B dX5_missesAtBest_87 5 rfl ?_
  refine z_aload_n B dX5_missesAtBest_89 0 rfl rfl ?_
  refine fU_g_X5_U_nextRead B dX5_missesAtBest_90 ?_
  refine z_iload B dX5_missesAtBest_93 4 rfl ?_
  refine fU_l_U_nextRead B dX5_missesAtBest_95 hf (fun v95 hf => ?_)
  refine z_callVu B (As := [.int x6, .int x5, .int v95]) kcV_X5_76 dX5_missesAtBest_96 hf (fun q hq => cU_X5_hold q hq) (wU_o_U (adr := adr) (cI := cI) (cZ := cZ) (cS := cS)) rfl rfl rfl rfl (Nat.le_of_ble_eq_true rfl) rfl rfl ⟨Nat.le_of_ble_eq_true rfl, Nat.le_of_ble_eq_true rfl⟩ (fun s96 hf => ?_)
  refine z_iinc B (1) 4 (fun v99 => [(4, .int v99), (0, .ref (adr 0)), (1, .int x1), (2, .int x2), (3, .int x3), (5, .int x5), (6, .int x6)]) dX5_missesAtBest_99 hf zc_iconst_1 rfl (Nat.le_of_ble_eq_true rfl) (fun _ => rfl) (fun v99 hf => ?_)
  refine z_goto B 11 dX5_missesAtBest_102 (by decide) ?_
  exact z_loc [1, 2, 3, 4, 0] _ rfl (hh11 s96 x1 x2 x3 v99 hf)
def mU_X5_missesAtBest_74 (N : Nat) (hd11 : ST → Int32 → Int32 → Int32 → Int32 → Option (Int32 × ST)) (σ : ST) (x1 : Int32) (x2 : Int32) (x3 : Int32) (x4 : Int32) (x5 : Int32) (x6 : Int32) (k0 : Int32) : Option (Int32 × ST) :=
  zLet ((x3 : Int32) + (1)) fun v79 =>
  zLet (if (v79 : Int32) < x1 then v79 else x1) fun v80 =>
  mU_X5_missesAtBest_84 N hd11 σ x1 x2 v80 x4 x5 k0
set_option maxRecDepth 20000 in
set_option maxHeartbeats 2000000 in
theorem tU_X5_missesAtBest_74 {adr : Nat → Nat} {cI cZ cS : ClassId} {X : zX} {q : Int32 × ST} (B : zC X 7 (wdU adr cI cZ cS) cX5_missesAtBest RX5 (some .int) { frames := 4, cells := 0, slots := 0, locals := 87 }) (N : Nat) (hd11 : ST → Int32 → Int32 → Int32 → Int32 → Option (Int32 × ST)) (hh11 : ∀ (σ : ST) (x1 : Int32) (x2 : Int32) (x3 : Int32) (x4 : Int32), hd11 σ x1 x2 x3 x4 = some q → zJ X 7 (wdU adr cI cZ cS) (zi q) 11 [(0, .ref (adr 0)), (1, .int x1), (2, .int x2), (3, .int x3), (4, .int x4)] [] σ) (σ : ST) (x1 : Int32) (x2 : Int32) (x3 : Int32) (x4 : Int32) (x5 : Int32) (x6 : Int32) (k0 : Int32) (hf : mU_X5_missesAtBest_74 N hd11 σ x1 x2 x3 x4 x5 x6 k0 = some q) : zJ X 7 (wdU adr cI cZ cS) (zi q) 74 [(0, .ref (adr 0)), (1, .int x1), (2, .int x2), (3, .int x3), (4, .int x4), (5, .int x5), (6, .int x6)] [.int k0] σ := by
  refine z_istore B [(6, .int k0), (0, .ref (adr 0)), (1, .int x1), (2, .int x2), (3, .int x3), (4, .int x4), (5, .int x5)] dX5_missesAtBest_74 (Nat.le_of_ble_eq_true rfl) rfl ?_
  refine z_iload_n B dX5_missesAtBest_76 2 rfl rfl ?_
  refine z_iload_n B dX5_missesAtBest_77 4 rfl rfl ?_
  refine z_iconst B (1) dX5_missesAtBest_78 zc_iconst_1 ?_
  refine z_iadd B dX5_missesAtBest_79 hf (fun v79 hf => ?_)
  refine z_mmin B kw_701 kmS_min kmI kmC_min (Nat.le_of_ble_eq_true rfl) (Nat.le_of_ble_eq_true rfl) dX5_missesAtBest_80 hf (fun v80 hf => ?_)
  refine z_istore_n B [(3, .int v80), (6, .int k0), (0, .ref (adr 0)), (1, .int x1), (2, .int x2), (4, .int x4), (5, .int x5)] dX5_missesAtBest_83 rfl (Nat.le_of_ble_eq_true rfl) rfl ?_
  exact z_loc [2, 3, 4, 0, 5, 6, 1] _ rfl (tU_X5_missesAtBest_84 B N hd11 hh11 σ x1 x2 v80 x4 x5 k0 hf)
def mU_X5_missesAtBest_B11 (N : Nat) (hd11 : ST → Int32 → Int32 → Int32 → Int32 → Option (Int32 × ST)) (σ : ST) (x1 : Int32) (x2 : Int32) (x3 : Int32) (x4 : Int32) : Option (Int32 × ST) :=
  zLet (σ 5 4) fun v17 =>
  if (v17 : Int32) ≤ x4 then
    mU_X5_missesAtBest_105 N σ x1 x2 x3 x4
  else
    if ((400) : Int32) ≤ x4 then
      mU_X5_missesAtBest_105 N σ x1 x2 x3 x4
    else
      zCall (mU_X3_blockAt N σ x4) fun v37 s37 =>
      zCall (mU_X5_slotHolding N s37 v37 x3) fun v46 s46 =>
      if (v46 : Int32) = (-1) then
        zLet (x2 + (1)) fun v57 =>
        if (x1 : Int32) ≤ x3 then
          zCall (mU_X5_lastReadAgain N s46 x3) fun v71 s71 =>
          mU_X5_missesAtBest_74 N hd11 s71 x1 v57 x3 x4 v37 v46 v71
        else
          mU_X5_missesAtBest_74 N hd11 s46 x1 v57 x3 x4 v37 v46 x3
      else
        mU_X5_missesAtBest_84 N hd11 s46 x1 x2 x3 x4 v37 v46
def mU_X5_missesAtBest_11 (N : Nat) : ST → Int32 → Int32 → Int32 → Int32 → Option (Int32 × ST) := zIt (mU_X5_missesAtBest_B11 N) (fun _ _ _ _ _ => none) N
set_option maxRecDepth 20000 in
set_option maxHeartbeats 2000000 in
theorem tU_X5_missesAtBest_11 {adr : Nat → Nat} {cI cZ cS : ClassId} {X : zX} {q : Int32 × ST} (B : zC X 7 (wdU adr cI cZ cS) cX5_missesAtBest RX5 (some .int) { frames := 4, cells := 0, slots := 0, locals := 87 }) (N : Nat) : ∀ (σ : ST) (x1 : Int32) (x2 : Int32) (x3 : Int32) (x4 : Int32), mU_X5_missesAtBest_11 N σ x1 x2 x3 x4 = some q → zJ X 7 (wdU adr cI cZ cS) (zi q) 11 [(0, .ref (adr 0)), (1, .int x1), (2, .int x2), (3, .int x3), (4, .int x4)] [] σ := by
  refine zIt_ind (P := fun (hd : ST → Int32 → Int32 → Int32 → Int32 → Option (Int32 × ST)) => ∀ (σ : ST) (x1 : Int32) (x2 : Int32) (x3 : Int32) (x4 : Int32), hd σ x1 x2 x3 x4 = some q → zJ X 7 (wdU adr cI cZ cS) (zi q) 11 [(0, .ref (adr 0)), (1, .int x1), (2, .int x2), (3, .int x3), (4, .int x4)] [] σ) (fun _ _ _ _ _ hf => by cases hf) (fun hd11 hh11 => ?_) N
  intro σ x1 x2 x3 x4 hf
  refine z_iload B dX5_missesAtBest_11 4 rfl ?_
  refine z_aload_n B dX5_missesAtBest_13 0 rfl rfl ?_
  refine fU_g_X5_U_history B dX5_missesAtBest_14 ?_
  refine fU_g_X5_H_length B dX5_missesAtBest_17 hf (fun v17 hf => ?_)
  refine z_icmp_ge B 105 dX5_missesAtBest_20 (by decide) hf (fun hf => ?_) (fun hf => ?_)
  · exact tU_X5_missesAtBest_105 B N σ x1 x2 x3 x4 hf
  · refine z_iload B dX5_missesAtBest_23 4 rfl ?_
    refine z_sipush B (400) dX5_missesAtBest_25 zc_sipush_400 ?_
    refine z_icmp_ge B 105 dX5_missesAtBest_28 (by decide) hf (fun hf => ?_) (fun hf => ?_)
    · exact tU_X5_missesAtBest_105 B N σ x1 x2 x3 x4 hf
    · refine z_aload_n B dX5_missesAtBest_31 0 rfl rfl ?_
      refine fU_g_X5_U_history B dX5_missesAtBest_32 ?_
      refine z_iload B dX5_missesAtBest_35 4 rfl ?_
      refine z_callVi B (As := [.int x4]) kcV_X5_34 dX5_missesAtBest_37 hf (fun q hq => cU_X3_blockAt q hq) (wU_o_H (adr := adr) (cI := cI) (cZ := cZ) (cS := cS)) rfl rfl rfl rfl (Nat.le_of_ble_eq_true rfl) rfl rfl ⟨Nat.le_of_ble_eq_true rfl, Nat.le_of_ble_eq_true rfl⟩ (fun v37 s37 hf => ?_)
      refine z_istore B [(5, .int v37), (0, .ref (adr 0)), (1, .int x1), (2, .int x2), (3, .int x3), (4, .int x4)] dX5_missesAtBest_40 (Nat.le_of_ble_eq_true rfl) rfl ?_
      refine z_aload_n B dX5_missesAtBest_42 1 rfl rfl ?_
      refine z_iload B dX5_missesAtBest_43 0 rfl ?_
      refine z_iload_n B dX5_missesAtBest_45 4 rfl rfl ?_
      refine z_callVi B (As := [.int v37, .int x3]) kcV_X5_67 dX5_missesAtBest_46 hf (fun q hq => cU_X5_slotHolding q hq) (wU_o_U (adr := adr) (cI := cI) (cZ := cZ) (cS := cS)) rfl rfl rfl rfl (Nat.le_of_ble_eq_true rfl) rfl rfl ⟨Nat.le_of_ble_eq_true rfl, Nat.le_of_ble_eq_true rfl⟩ (fun v46 s46 hf => ?_)
      refine z_istore B [(6, .int v46), (5, .int v37), (0, .ref (adr 0)), (1, .int x1), (2, .int x2), (3, .int x3), (4, .int x4)] dX5_missesAtBest_49 (Nat.le_of_ble_eq_true rfl) rfl ?_
      refine z_iload B dX5_missesAtBest_51 0 rfl ?_
      refine z_iconst B (-1) dX5_missesAtBest_53 zc_iconst_m1 ?_
      refine z_icmp_ne B 84 dX5_missesAtBest_54 (by decide) hf (fun hf => ?_) (fun hf => ?_)
      · exact z_loc [2, 3, 4, 5, 6, 1, 0] _ rfl (tU_X5_missesAtBest_84 B N hd11 hh11 s46 x1 x2 x3 x4 v37 v46 hf)
      · refine z_iinc B (1) 4 (fun v57 => [(2, .int v57), (6, .int v46), (5, .int v37), (0, .ref (adr 0)), (1, .int x1), (3, .int x3), (4, .int x4)]) dX5_missesAtBest_57 hf zc_iconst_1 rfl (Nat.le_of_ble_eq_true rfl) (fun _ => rfl) (fun v57 hf => ?_)
        refine z_iload_n B dX5_missesAtBest_60 5 rfl rfl ?_
        refine z_iload_n B dX5_missesAtBest_61 4 rfl rfl ?_
        refine z_icmp_ge B 69 dX5_missesAtBest_62 (by decide) hf (fun hf => ?_) (fun hf => ?_)
        · refine z_aload_n B dX5_missesAtBest_69 3 rfl rfl ?_
          refine z_iload_n B dX5_missesAtBest_70 5 rfl rfl ?_
          refine z_callVi B (As := [.int x3]) kcV_X5_83 dX5_missesAtBest_71 hf (fun q hq => cU_X5_lastReadAgain q hq) (wU_o_U (adr := adr) (cI := cI) (cZ := cZ) (cS := cS)) rfl rfl rfl rfl (Nat.le_of_ble_eq_true rfl) rfl rfl ⟨Nat.le_of_ble_eq_true rfl, Nat.le_of_ble_eq_true rfl⟩ (fun v71 s71 hf => ?_)
          exact z_loc [3, 4, 0, 5, 6, 2, 1] _ rfl (tU_X5_missesAtBest_74 B N hd11 hh11 s71 x1 v57 x3 x4 v37 v46 v71 hf)
        · refine z_iload_n B dX5_missesAtBest_65 5 rfl rfl ?_
          refine z_goto B 74 dX5_missesAtBest_66 (by decide) ?_
          exact z_loc [3, 4, 0, 5, 6, 2, 1] _ rfl (tU_X5_missesAtBest_74 B N hd11 hh11 s46 x1 v57 x3 x4 v37 v46 x3 hf)
def mU_X5_missesAtBest (N : Nat) (σ : ST) (x1 : Int32) : Option (Int32 × ST) :=
  zCallu (mU_X5_lookAhead N σ) fun s1 =>
  mU_X5_missesAtBest_11 N s1 x1 (0) (0) (0)
set_option maxRecDepth 20000 in
set_option maxHeartbeats 2000000 in
theorem cU_X5_missesAtBest {adr : Nat → Nat} {cI cZ cS : ClassId} {l : Launch} {D : va_G} {N : Nat} {σ : ST} {x1 : Int32} (q : Int32 × ST) (hf : mU_X5_missesAtBest N σ x1 = some q) : zM l D (wdU adr cI cZ cS) yX5_missesAtBest cX5_missesAtBest 7 (some .int) ({ frames := 4, cells := 0, slots := 0, locals := 87 }) [.ref (adr 0), .int x1] σ (zi q) := by
  refine zM_of sfU_ok rfl (Nat.le_of_ble_eq_true rfl) [(0, .ref (adr 0)), (1, .int x1)] rfl (fun X hX1 hX2 B => ?_)
  have B : zC X 7 (wdU adr cI cZ cS) cX5_missesAtBest RX5 (some .int) { frames := 4, cells := 0, slots := 0, locals := 87 } := B
  refine z_aload_n B dX5_missesAtBest_0 0 rfl rfl ?_
  refine z_callVu B (As := []) kcV_X5_80 dX5_missesAtBest_1 hf (fun q hq => cU_X5_lookAhead q hq) (wU_o_U (adr := adr) (cI := cI) (cZ := cZ) (cS := cS)) rfl rfl rfl rfl (Nat.le_of_ble_eq_true rfl) rfl rfl ⟨Nat.le_of_ble_eq_true rfl, Nat.le_of_ble_eq_true rfl⟩ (fun s1 hf => ?_)
  refine z_iconst B (0) dX5_missesAtBest_4 zc_iconst_0 ?_
  refine z_istore_n B [(2, .int (0)), (0, .ref (adr 0)), (1, .int x1)] dX5_missesAtBest_5 rfl (Nat.le_of_ble_eq_true rfl) rfl ?_
  refine z_iconst B (0) dX5_missesAtBest_6 zc_iconst_0 ?_
  refine z_istore_n B [(3, .int (0)), (2, .int (0)), (0, .ref (adr 0)), (1, .int x1)] dX5_missesAtBest_7 rfl (Nat.le_of_ble_eq_true rfl) rfl ?_
  refine z_iconst B (0) dX5_missesAtBest_8 zc_iconst_0 ?_
  refine z_istore B [(4, .int (0)), (3, .int (0)), (2, .int (0)), (0, .ref (adr 0)), (1, .int x1)] dX5_missesAtBest_9 (Nat.le_of_ble_eq_true rfl) rfl ?_
  exact z_loc [3, 4, 2, 1, 0] _ rfl (tU_X5_missesAtBest_11 B N s1 x1 (0) (0) (0) hf)
