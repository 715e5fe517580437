theorem dX1_format_0 : decode cX1_format 0 = .ok (.iconst 0, 1) := by decide +kernel
theorem dX1_format_1 : decode cX1_format 1 = .ok (.istore_n 1, 1) := by decide +kernel
theorem dX1_format_2 : decode cX1_format 2 = .ok (.iload_n 1, 1) := by decide +kernel
theorem dX1_format_3 : decode cX1_format 3 = .ok (.sipush 10000, 3) := by decide +kernel
theorem dX1_format_6 : decode cX1_format 6 = .ok (.if_icmp .ge 26, 3) := by decide +kernel
theorem dX1_format_9 : decode cX1_format 9 = .ok (.aload_n 0, 1) := by decide +kernel
theorem dX1_format_10 : decode cX1_format 10 = .ok (.getfield 9, 3) := by decide +kernel
theorem dX1_format_13 : decode cX1_format 13 = .ok (.iload_n 1, 1) := by decide +kernel
theorem dX1_format_14 : decode cX1_format 14 = .ok (.sipush 7919, 3) := by decide +kernel
theorem dX1_format_17 : decode cX1_format 17 = .ok (.iload_n 1, 1) := by decide +kernel
theorem dX1_format_18 : decode cX1_format 18 = .ok (.imul, 1) := by decide +kernel
theorem dX1_format_19 : decode cX1_format 19 = .ok (.bipush 13, 2) := by decide +kernel
theorem dX1_format_21 : decode cX1_format 21 = .ok (.iadd, 1) := by decide +kernel
theorem dX1_format_22 : decode cX1_format 22 = .ok (.ldc 15, 2) := by decide +kernel
theorem dX1_format_24 : decode cX1_format 24 = .ok (.irem, 1) := by decide +kernel
theorem dX1_format_25 : decode cX1_format 25 = .ok (.iastore, 1) := by decide +kernel
theorem dX1_format_26 : decode cX1_format 26 = .ok (.iinc 1 1, 3) := by decide +kernel
theorem dX1_format_29 : decode cX1_format 29 = .ok (.goto (-27), 3) := by decide +kernel
theorem dX1_format_32 : decode cX1_format 32 = .ok (.return_, 1) := by decide +kernel
def mE_X1_format_B2 (N : Nat) (hd2 : ST → Int32 → Option (ST)) (σ : ST) (x1 : Int32) : Option (ST) :=
  if ((10000) : Int32) ≤ x1 then
    some σ
  else
    zLet (((7919) : Int32) * x1) fun v18 =>
    zLet ((v18 : Int32) + (13)) fun v21 =>
    zRem v21 (1000003) fun v24 =>
    zSet σ 26 10000 x1 v24 fun s25 =>
    zLet (x1 + (1)) fun v26 =>
    hd2 s25 v26
def mE_X1_format_2 (N : Nat) : ST → Int32 → Option (ST) := zIt (mE_X1_format_B2 N) (fun _ _ => none) N
set_option maxRecDepth 20000 in
set_option maxHeartbeats 2000000 in
theorem tE_X1_format_2 {adr : Nat → Nat} {cI cZ cS : ClassId} {tL tH : Nat} {X : zX} {q : ST} (B : zC X 2 (wdE adr cI cZ cS tL tH) cX1_format RX1 none { frames := 0, cells := 0, slots := 0, locals := 0 }) (N : Nat) : ∀ (σ : ST) (x1 : Int32), mE_X1_format_2 N σ x1 = some q → zJ X 2 (wdE adr cI cZ cS tL tH) (zu q) 2 [(0, .ref (adr 25)), (1, .int x1)] [] σ := by
  refine zIt_ind (P := fun (hd : ST → Int32 → Option (ST)) => ∀ (σ : ST) (x1 : Int32), hd σ x1 = some q → zJ X 2 (wdE adr cI cZ cS tL tH) (zu q) 2 [(0, .ref (adr 25)), (1, .int x1)] [] σ) (fun _ _ hf => by cases hf) (fun hd2 hh2 => ?_) N
  intro σ x1 hf
  refine z_iload_n B dX1_format_2 1 rfl rfl ?_
  refine z_sipush B (10000) dX1_format_3 zc_sipush_10000 ?_
  refine z_icmp_ge B 32 dX1_format_6 (by decide) hf (fun hf => ?_) (fun hf => ?_)
  · exact z_return B dX1_format_32 hf
  · refine z_aload_n B dX1_format_9 0 rfl rfl ?_
    refine fE_g_X1_D_cells B dX1_format_10 ?_
    refine z_iload_n B dX1_format_13 1 rfl rfl ?_
    refine z_sipush B (7919) dX1_format_14 zc_sipush_7919 ?_
    refine z_iload_n B dX1_format_17 1 rfl rfl ?_
    refine z_imul B dX1_format_18 hf (fun v18 hf => ?_)
    refine z_bipush B (13) dX1_format_19 zc_bipush_13 ?_
    refine z_iadd B dX1_format_21 hf (fun v21 hf => ?_)
    refine z_ldc B kw_91 dX1_format_22 ?_
    refine z_irem B dX1_format_24 hf (fun v24 hf => ?_)
    refine fE_s_D_cells B dX1_format_25 hf (fun s25 hf => ?_)
    refine z_iinc B (1) 1 (fun v26 => [(1, .int v26), (0, .ref (adr 25))]) dX1_format_26 hf zc_iconst_1 rfl (Nat.le_of_ble_eq_true rfl) (fun _ => rfl) (fun v26 hf => ?_)
    refine z_goto B 2 dX1_format_29 (by decide) ?_
    exact z_loc [1, 0] _ rfl (hh2 s25 v26 hf)
def mE_X1_format (N : Nat) (σ : ST) : Option (ST) :=
  mE_X1_format_2 N σ (0)
set_option maxRecDepth 20000 in
set_option maxHeartbeats 2000000 in
theorem cE_X1_format {adr : Nat → Nat} {cI cZ cS : ClassId} {tL tH : Nat} {l : Launch} {D : va_G} {N : Nat} {σ : ST} (q : ST) (hf : mE_X1_format N σ = some q) : zM l D (wdE adr cI cZ cS tL tH) yX1_format cX1_format 2 none ({ frames := 0, cells := 0, slots := 0, locals := 0 }) [.ref (adr 25)] σ (zu q) := by
  refine zM_of sfE_ok rfl (Nat.le_of_ble_eq_true rfl) [(0, .ref (adr 25))] rfl (fun X hX1 hX2 B => ?_)
  have B : zC X 2 (wdE adr cI cZ cS tL tH) cX1_format RX1 none { frames := 0, cells := 0, slots := 0, locals := 0 } := B
  refine z_iconst B (0) dX1_format_0 zc_iconst_0 ?_
  refine z_istore_n B [(1, .int (0)), (0, .ref (adr 25))] dX1_format_1 rfl (Nat.le_of_ble_eq_true rfl) rfl ?_
  exact z_loc [1, 0] _ rfl (tE_X1_format_2 B N σ (0) hf)
theorem dX1_contentOf_0 : decode cX1_contentOf 0 = .ok (.iload_n 1, 1) := by decide +kernel
theorem dX1_contentOf_1 : decode cX1_contentOf 1 = .ok (.ifCond .lt 10, 3) := by decide +kernel
theorem dX1_contentOf_4 : decode cX1_contentOf 4 = .ok (.iload_n 1, 1) := by decide +kernel
theorem dX1_contentOf_5 : decode cX1_contentOf 5 = .ok (.sipush 10000, 3) := by decide +kernel
theorem dX1_contentOf_8 : decode cX1_contentOf 8 = .ok (.if_icmp .lt 5, 3) := by decide +kernel
theorem dX1_contentOf_11 : decode cX1_contentOf 11 = .ok (.iconst (-1), 1) := by decide +kernel
theorem dX1_contentOf_12 : decode cX1_contentOf 12 = .ok (.ireturn, 1) := by decide +kernel
theorem dX1_contentOf_13 : decode cX1_contentOf 13 = .ok (.aload_n 0, 1) := by decide +kernel
theorem dX1_contentOf_14 : decode cX1_contentOf 14 = .ok (.getfield 9, 3) := by decide +kernel
theorem dX1_contentOf_17 : decode cX1_contentOf 17 = .ok (.iload_n 1, 1) := by decide +kernel
theorem dX1_contentOf_18 : decode cX1_contentOf 18 = .ok (.iaload, 1) := by decide +kernel
theorem dX1_contentOf_19 : decode cX1_contentOf 19 = .ok (.ifCond .ge 14, 3) := by decide +kernel
theorem dX1_contentOf_22 : decode cX1_contentOf 22 = .ok (.iconst (-1), 1) := by decide +kernel
theorem dX1_contentOf_23 : decode cX1_contentOf 23 = .ok (.aload_n 0, 1) := by decide +kernel
theorem dX1_contentOf_24 : decode cX1_contentOf 24 = .ok (.getfield 9, 3) := by decide +kernel
theorem dX1_contentOf_27 : decode cX1_contentOf 27 = .ok (.iload_n 1, 1) := by decide +kernel
theorem dX1_contentOf_28 : decode cX1_contentOf 28 = .ok (.iaload, 1) := by decide +kernel
theorem dX1_contentOf_29 : decode cX1_contentOf 29 = .ok (.isub, 1) := by decide +kernel
theorem dX1_contentOf_30 : decode cX1_contentOf 30 = .ok (.goto 9, 3) := by decide +kernel
theorem dX1_contentOf_33 : decode cX1_contentOf 33 = .ok (.aload_n 0, 1) := by decide +kernel
theorem dX1_contentOf_34 : decode cX1_contentOf 34 = .ok (.getfield 9, 3) := by decide +kernel
theorem dX1_contentOf_37 : decode cX1_contentOf 37 = .ok (.iload_n 1, 1) := by decide +kernel
theorem dX1_contentOf_38 : decode cX1_contentOf 38 = .ok (.iaload, 1) := by decide +kernel
theorem dX1_contentOf_39 : decode cX1_contentOf 39 = .ok (.ireturn, 1) := by decide +kernel
def mE_X1_contentOf_39 (N : Nat) (σ : ST) (x1 : Int32) (k0 : Int32) : Option (Int32 × ST) :=
  some (k0, σ)
set_option maxRecDepth 20000 in
set_option maxHeartbeats 2000000 in
theorem tE_X1_contentOf_39 {adr : Nat → Nat} {cI cZ cS : ClassId} {tL tH : Nat} {X : zX} {q : Int32 × ST} (B : zC X 2 (wdE adr cI cZ cS tL tH) cX1_contentOf RX1 (some .int) { frames := 0, cells := 0, slots := 0, locals := 0 }) (N : Nat) (σ : ST) (x1 : Int32) (k0 : Int32) (hf : mE_X1_contentOf_39 N σ x1 k0 = some q) : zJ X 2 (wdE adr cI cZ cS tL tH) (zi q) 39 [(0, .ref (adr 25)), (1, .int x1)] [.int k0] σ := by
  exact z_ireturn B dX1_contentOf_39 hf
def mE_X1_contentOf_11 (N : Nat) (σ : ST) (x1 : Int32) : Option (Int32 × ST) :=
  some ((-1), σ)
set_option maxRecDepth 20000 in
set_option maxHeartbeats 2000000 in
theorem tE_X1_contentOf_11 {adr : Nat → Nat} {cI cZ cS : ClassId} {tL tH : Nat} {X : zX} {q : Int32 × ST} (B : zC X 2 (wdE adr cI cZ cS tL tH) cX1_contentOf RX1 (some .int) { frames := 0, cells := 0, slots := 0, locals := 0 }) (N : Nat) (σ : ST) (x1 : Int32) (hf : mE_X1_contentOf_11 N σ x1 = some q) : zJ X 2 (wdE adr cI cZ cS tL tH) (zi q) 11 [(0, .ref (adr 25)), (1, .int x1)] [] σ := by
  refine z_iconst B (-1) dX1_contentOf_11 zc_iconst_m1 ?_
  exact z_ireturn B dX1_contentOf_12 hf
def mE_X1_contentOf (N : Nat) (σ : ST) (x1 : Int32) : Option (Int32 × ST) :=
  if (x1 : Int32) < 0 then
    mE_X1_contentOf_11 N σ x1
  else
    if (x1 : Int32) < (10000) then
      zGet (σ 26) 10000 x1 fun v18 =>
      if (0 : Int32) ≤ v18 then
        zGet (σ 26) 10000 x1 fun v38 =>
        mE_X1_contentOf_39 N σ x1 v38
      else
        zGet (σ 26) 10000 x1 fun v28 =>
        zLet (((-1) : Int32) - v28) fun v29 =>
        mE_X1_contentOf_39 N σ x1 v29
    else
      mE_X1_contentOf_11 N σ x1
set_option maxRecDepth 20000 in
set_option maxHeartbeats 2000000 in
theorem cE_X1_contentOf {adr : Nat → Nat} {cI cZ cS : ClassId} {tL tH : Nat} {l : Launch} {D : va_G} {N : Nat} {σ : ST} {x1 : Int32} (q : Int32 × ST) (hf : mE_X1_contentOf N σ x1 = some q) : zM l D (wdE adr cI cZ cS tL tH) yX1_contentOf cX1_contentOf 2 (some .int) ({ frames := 0, cells := 0, slots := 0, locals := 0 }) [.ref (adr 25), .int x1] σ (zi q) := by
  refine zM_of sfE_ok rfl (Nat.le_of_ble_eq_true rfl) [(0, .ref (adr 25)), (1, .int x1)] rfl (fun X hX1 hX2 B => ?_)
  have B : zC X 2 (wdE adr cI cZ cS tL tH) cX1_contentOf RX1 (some .int) { frames := 0, cells := 0, slots := 0, locals := 0 } := B
  refine z_iload_n B dX1_contentOf_0 1 rfl rfl ?_
  refine z_if_lt B 11 dX1_contentOf_1 (by decide) hf (fun hf => ?_) (fun hf => ?_)
  · exact tE_X1_contentOf_11 B N σ x1 hf
  · refine z_iload_n B dX1_contentOf_4 1 rfl rfl ?_
    refine z_sipush B (10000) dX1_contentOf_5 zc_sipush_10000 ?_
    refine z_icmp_lt B 13 dX1_contentOf_8 (by decide) hf (fun hf => ?_) (fun hf => ?_)
    · refine z_aload_n B dX1_contentOf_13 0 rfl rfl ?_
      refine fE_g_X1_D_cells B dX1_contentOf_14 ?_
      refine z_iload_n B dX1_contentOf_17 1 rfl rfl ?_
      refine fE_l_D_cells B dX1_contentOf_18 hf (fun v18 hf => ?_)
      refine z_if_ge B 33 dX1_contentOf_19 (by decide) hf (fun hf => ?_) (fun hf => ?_)
      · refine z_aload_n B dX1_contentOf_33 0 rfl rfl ?_
        refine fE_g_X1_D_cells B dX1_contentOf_34 ?_
        refine z_iload_n B dX1_contentOf_37 1 rfl rfl ?_
        refine fE_l_D_cells B dX1_contentOf_38 hf (fun v38 hf => ?_)
        exact tE_X1_contentOf_39 B N σ x1 v38 hf
      · refine z_iconst B (-1) dX1_contentOf_22 zc_iconst_m1 ?_
        refine z_aload_n B dX1_contentOf_23 0 rfl rfl ?_
        refine fE_g_X1_D_cells B dX1_contentOf_24 ?_
        refine z_iload_n B dX1_contentOf_27 1 rfl rfl ?_
        refine fE_l_D_cells B dX1_contentOf_28 hf (fun v28 hf => ?_)
        refine z_isub B dX1_contentOf_29 hf (fun v29 hf => ?_)
        refine z_goto B 39 dX1_contentOf_30 (by decide) ?_
        exact tE_X1_contentOf_39 B N σ x1 v29 hf
    · exact tE_X1_contentOf_11 B N σ x1 hf
theorem dX1_isBad_0 : decode cX1_isBad 0 = .ok (.iload_n 1, 1) := by decide +kernel
theorem dX1_isBad_1 : decode cX1_isBad 1 = .ok (.ifCond .lt 23, 3) := by decide +kernel
theorem dX1_isBad_4 : decode cX1_isBad 4 = .ok (.iload_n 1, 1) := by decide +kernel
theorem dX1_isBad_5 : decode cX1_isBad 5 = .ok (.sipush 10000, 3) := by decide +kernel
theorem dX1_isBad_8 : decode cX1_isBad 8 = .ok (.if_icmp .ge 16, 3) := by decide +kernel
theorem dX1_isBad_11 : decode cX1_isBad 11 = .ok (.aload_n 0, 1) := by decide +kernel
theorem dX1_isBad_12 : decode cX1_isBad 12 = .ok (.getfield 9, 3) := by decide +kernel
theorem dX1_isBad_15 : decode cX1_isBad 15 = .ok (.iload_n 1, 1) := by decide +kernel
theorem dX1_isBad_16 : decode cX1_isBad 16 = .ok (.iaload, 1) := by decide +kernel
theorem dX1_isBad_17 : decode cX1_isBad 17 = .ok (.ifCond .ge 7, 3) := by decide +kernel
theorem dX1_isBad_20 : decode cX1_isBad 20 = .ok (.iconst 1, 1) := by decide +kernel
theorem dX1_isBad_21 : decode cX1_isBad 21 = .ok (.goto 4, 3) := by decide +kernel
theorem dX1_isBad_24 : decode cX1_isBad 24 = .ok (.iconst 0, 1) := by decide +kernel
theorem dX1_isBad_25 : decode cX1_isBad 25 = .ok (.ireturn, 1) := by decide +kernel
def mE_X1_isBad_25 (N : Nat) (σ : ST) (x1 : Int32) (k0 : Int32) : Option (Int32 × ST) :=
  zBool k0 (some (k0, σ))
set_option maxRecDepth 20000 in
set_option maxHeartbeats 2000000 in
theorem tE_X1_isBad_25 {adr : Nat → Nat} {cI cZ cS : ClassId} {tL tH : Nat} {X : zX} {q : Int32 × ST} (B : zC X 2 (wdE adr cI cZ cS tL tH) cX1_isBad RX1 (some .boolean) { frames := 0, cells := 0, slots := 0, locals := 0 }) (N : Nat) (σ : ST) (x1 : Int32) (k0 : Int32) (hf : mE_X1_isBad_25 N σ x1 k0 = some q) : zJ X 2 (wdE adr cI cZ cS tL tH) (zi q) 25 [(0, .ref (adr 25)), (1, .int x1)] [.int k0] σ := by
  exact z_zreturn B dX1_isBad_25 hf
def mE_X1_isBad_24 (N : Nat) (σ : ST) (x1 : Int32) : Option (Int32 × ST) :=
  mE_X1_isBad_25 N σ x1 (0)
set_option maxRecDepth 20000 in
set_option maxHeartbeats 2000000 in
theorem tE_X1_isBad_24 {adr : Nat → Nat} {cI cZ cS : ClassId} {tL tH : Nat} {X : zX} {q : Int32 × ST} (B : zC X 2 (wdE adr cI cZ cS tL tH) cX1_isBad RX1 (some .boolean) { frames := 0, cells := 0, slots := 0, locals := 0 }) (N : Nat) (σ : ST) (x1 : Int32) (hf : mE_X1_isBad_24 N σ x1 = some q) : zJ X 2 (wdE adr cI cZ cS tL tH) (zi q) 24 [(0, .ref (adr 25)), (1, .int x1)] [] σ := by
  refine z_iconst B (0) dX1_isBad_24 zc_iconst_0 ?_
  exact tE_X1_isBad_25 B N σ x1 (0) hf
def mE_X1_isBad (N : Nat) (σ : ST) (x1 : Int32) : Option (Int32 × ST) :=
  if (x1 : Int32) < 0 then
    mE_X1_isBad_24 N σ x1
  else
    if ((10000) : Int32) ≤ x1 then
      mE_X1_isBad_24 N σ x1
    else
      zGet (σ 26) 10000 x1 fun v16 =>
      if (0 : Int32) ≤ v16 then
        mE_X1_isBad_24 N σ x1
      else
        mE_X1_isBad_25 N σ x1 (1)
set_option maxRecDepth 20000 in
set_option maxHeartbeats 2000000 in
theorem cE_X1_isBad {adr : Nat → Nat} {cI cZ cS : ClassId} {tL tH : Nat} {l : Launch} {D : va_G} {N : Nat} {σ : ST} {x1 : Int32} (q : Int32 × ST) (hf : mE_X1_isBad N σ x1 = some q) : zM l D (wdE adr cI cZ cS tL tH) yX1_isBad cX1_isBad 2 (some .boolean) ({ frames := 0, cells := 0, slots := 0, locals := 0 }) [.ref (adr 25), .int x1] σ (zi q) := by
  refine zM_of sfE_ok rfl (Nat.le_of_ble_eq_true rfl) [(0, .ref (adr 25)), (1, .int x1)] rfl (fun X hX1 hX2 B => ?_)
  have B : zC X 2 (wdE adr cI cZ cS tL tH) cX1_isBad RX1 (some .boolean) { frames := 0, cells := 0, slots := 0, locals := 0 } := B
  refine z_iload_n B dX1_isBad_0 1 rfl rfl ?_
  refine z_if_lt B 24 dX1_isBad_1 (by decide) hf (fun hf => ?_) (fun hf => ?_)
  · exact tE_X1_isBad_24 B N σ x1 hf
  · refine z_iload_n B dX1_isBad_4 1 rfl rfl ?_
    refine z_sipush B (10000) dX1_isBad_5 zc_sipush_10000 ?_
    refine z_icmp_ge B 24 dX1_isBad_8 (by decide) hf (fun hf => ?_) (fun hf => ?_)
    · exact tE_X1_isBad_24 B N σ x1 hf
    · refine z_aload_n B dX1_isBad_11 0 rfl rfl ?_
      refine fE_g_X1_D_cells B dX1_isBad_12 ?_
      refine z_iload_n B dX1_isBad_15 1 rfl rfl ?_
      refine fE_l_D_cells B dX1_isBad_16 hf (fun v16 hf => ?_)
      refine z_if_ge B 24 dX1_isBad_17 (by decide) hf (fun hf => ?_) (fun hf => ?_)
      · exact tE_X1_isBad_24 B N σ x1 hf
      · refine z_iconst B (1) dX1_isBad_20 zc_iconst_1 ?_
        refine z_goto B 25 dX1_isBad_21 (by decide) ?_
        exact tE_X1_isBad_25 B N σ x1 (1) hf
theorem dX1_setContent_0 : decode cX1_setContent 0 = .ok (.iload_n 1, 1) := by decide +kernel
theorem dX1_setContent_1 : decode cX1_setContent 1 = .ok (.ifCond .lt 32, 3) := by decide +kernel
theorem dX1_setContent_4 : decode cX1_setContent 4 = .ok (.iload_n 1, 1) := by decide +kernel
theorem dX1_setContent_5 : decode cX1_setContent 5 = .ok (.sipush 10000, 3) := by decide +kernel
theorem dX1_setContent_8 : decode cX1_setContent 8 = .ok (.if_icmp .ge 25, 3) := by decide +kernel
theorem dX1_setContent_11 : decode cX1_setContent 11 = .ok (.aload_n 0, 1) := by decide +kernel
theorem dX1_setContent_12 : decode cX1_setContent 12 = .ok (.getfield 9, 3) := by decide +kernel
theorem dX1_setContent_15 : decode cX1_setContent 15 = .ok (.iload_n 1, 1) := by decide +kernel
theorem dX1_setContent_16 : decode cX1_setContent 16 = .ok (.aload_n 0, 1) := by decide +kernel
theorem dX1_setContent_17 : decode cX1_setContent 17 = .ok (.getfield 9, 3) := by decide +kernel
theorem dX1_setContent_20 : decode cX1_setContent 20 = .ok (.iload_n 1, 1) := by decide +kernel
theorem dX1_setContent_21 : decode cX1_setContent 21 = .ok (.iaload, 1) := by decide +kernel
theorem dX1_setContent_22 : decode cX1_setContent 22 = .ok (.ifCond .ge 9, 3) := by decide +kernel
theorem dX1_setContent_25 : decode cX1_setContent 25 = .ok (.iconst (-1), 1) := by decide +kernel
theorem dX1_setContent_26 : decode cX1_setContent 26 = .ok (.iload_n 2, 1) := by decide +kernel
theorem dX1_setContent_27 : decode cX1_setContent 27 = .ok (.isub, 1) := by decide +kernel
theorem dX1_setContent_28 : decode cX1_setContent 28 = .ok (.goto 4, 3) := by decide +kernel
theorem dX1_setContent_31 : decode cX1_setContent 31 = .ok (.iload_n 2, 1) := by decide +kernel
theorem dX1_setContent_32 : decode cX1_setContent 32 = .ok (.iastore, 1) := by decide +kernel
theorem dX1_setContent_33 : decode cX1_setContent 33 = .ok (.return_, 1) := by decide +kernel
def mE_X1_setContent_33 (N : Nat) (σ : ST) (x1 : Int32) (x2 : Int32) : Option (ST) :=
  some σ
set_option maxRecDepth 20000 in
set_option maxHeartbeats 2000000 in
theorem tE_X1_setContent_33 {adr : Nat → Nat} {cI cZ cS : ClassId} {tL tH : Nat} {X : zX} {q : ST} (B : zC X 3 (wdE adr cI cZ cS tL tH) cX1_setContent RX1 none { frames := 0, cells := 0, slots := 0, locals := 0 }) (N : Nat) (σ : ST) (x1 : Int32) (x2 : Int32) (hf : mE_X1_setContent_33 N σ x1 x2 = some q) : zJ X 3 (wdE adr cI cZ cS tL tH) (zu q) 33 [(0, .ref (adr 25)), (1, .int x1), (2, .int x2)] [] σ := by
  exact z_return B dX1_setContent_33 hf
def mE_X1_setContent_32 (N : Nat) (σ : ST) (x1 : Int32) (x2 : Int32) (k1 : Int32) (k2 : Int32) : Option (ST) :=
  zSet σ 26 10000 k1 k2 fun s32 =>
  mE_X1_setContent_33 N s32 x1 x2
set_option maxRecDepth 20000 in
set_option maxHeartbeats 2000000 in
theorem tE_X1_setContent_32 {adr : Nat → Nat} {cI cZ cS : ClassId} {tL tH : Nat} {X : zX} {q : ST} (B : zC X 3 (wdE adr cI cZ cS tL tH) cX1_setContent RX1 none { frames := 0, cells := 0, slots := 0, locals := 0 }) (N : Nat) (σ : ST) (x1 : Int32) (x2 : Int32) (k1 : Int32) (k2 : Int32) (hf : mE_X1_setContent_32 N σ x1 x2 k1 k2 = some q) : zJ X 3 (wdE adr cI cZ cS tL tH) (zu q) 32 [(0, .ref (adr 25)), (1, .int x1), (2, .int x2)] [.int k2, .int k1, .ref (adr 26)] σ := by
  refine fE_s_D_cells B dX1_setContent_32 hf (fun s32 hf => ?_)
  exact tE_X1_setContent_33 B N s32 x1 x2 hf
def mE_X1_setContent (N : Nat) (σ : ST) (x1 : Int32) (x2 : Int32) : Option (ST) :=
  if (x1 : Int32) < 0 then
    mE_X1_setContent_33 N σ x1 x2
  else
    if ((10000) : Int32) ≤ x1 then
      mE_X1_setContent_33 N σ x1 x2
    else
      zGet (σ 26) 10000 x1 fun v21 =>
      if (0 : Int32) ≤ v21 then
        mE_X1_setContent_32 N σ x1 x2 x1 x2
      else
        zLet (((-1) : Int32) - x2) fun v27 =>
        mE_X1_setContent_32 N σ x1 x2 x1 v27
set_option maxRecDepth 20000 in
set_option maxHeartbeats 2000000 in
theorem cE_X1_setContent {adr : Nat → Nat} {cI cZ cS : ClassId} {tL tH : Nat} {l : Launch} {D : va_G} {N : Nat} {σ : ST} {x1 : Int32} {x2 : Int32} (q : ST) (hf : mE_X1_setContent N σ x1 x2 = some q) : zM l D (wdE adr cI cZ cS tL tH) yX1_setContent cX1_setContent 3 none ({ frames := 0, cells := 0, slots := 0, locals := 0 }) [.ref (adr 25), .int x1, .int x2] σ (zu q) := by
  refine zM_of sfE_ok rfl (Nat.le_of_ble_eq_true rfl) [(0, .ref (adr 25)), (1, .int x1), (2, .int x2)] rfl (fun X hX1 hX2 B => ?_)
  have B : zC X 3 (wdE adr cI cZ cS tL tH) cX1_setContent RX1 none { frames := 0, cells := 0, slots := 0, locals := 0 } := B
  refine z_iload_n B dX1_setContent_0 1 rfl rfl ?_
  refine z_if_lt B 33 dX1_setContent_1 (by decide) hf (fun hf => ?_) (fun hf => ?_)
  · exact tE_X1_setContent_33 B N σ x1 x2 hf
  · refine z_iload_n B dX1_setContent_4 1 rfl rfl ?_
    refine z_sipush B (10000) dX1_setContent_5 zc_sipush_10000 ?_
    refine z_icmp_ge B 33 dX1_setContent_8 (by decide) hf (fun hf => ?_) (fun hf => ?_)
    · exact tE_X1_setContent_33 B N σ x1 x2 hf
    · refine z_aload_n B dX1_setContent_11 0 rfl rfl ?_
      refine fE_g_X1_D_cells B dX1_setContent_12 ?_
      refine z_iload_n B dX1_setContent_15 1 rfl rfl ?_
      refine z_aload_n B dX1_setContent_16 0 rfl rfl ?_
      refine fE_g_X1_D_cells B dX1_setContent_17 ?_
      refine z_iload_n B dX1_setContent_20 1 rfl rfl ?_
      refine fE_l_D_cells B dX1_setContent_21 hf (fun v21 hf => ?_)
      refine z_if_ge B 31 dX1_setContent_22 (by decide) hf (fun hf => ?_) (fun hf => ?_)
      · refine z_iload_n B dX1_setContent_31 2 rfl rfl ?_
        exact tE_X1_setContent_32 B N σ x1 x2 x1 x2 hf
      · refine z_iconst B (-1) dX1_setContent_25 zc_iconst_m1 ?_
        refine z_iload_n B dX1_setContent_26 2 rfl rfl ?_
        refine z_isub B dX1_setContent_27 hf (fun v27 hf => ?_)
        refine z_goto B 32 dX1_setContent_28 (by decide) ?_
        exact tE_X1_setContent_32 B N σ x1 x2 x1 v27 hf
theorem dX1_turn_0 : decode cX1_turn 0 = .ok (.iload_n 1, 1) := by decide +kernel
theorem dX1_turn_1 : decode cX1_turn 1 = .ok (.ifCond .lt 24, 3) := by decide +kernel
theorem dX1_turn_4 : decode cX1_turn 4 = .ok (.iload_n 1, 1) := by decide +kernel
theorem dX1_turn_5 : decode cX1_turn 5 = .ok (.sipush 10000, 3) := by decide +kernel
theorem dX1_turn_8 : decode cX1_turn 8 = .ok (.if_icmp .ge 17, 3) := by decide +kernel
theorem dX1_turn_11 : decode cX1_turn 11 = .ok (.aload_n 0, 1) := by decide +kernel
theorem dX1_turn_12 : decode cX1_turn 12 = .ok (.getfield 9, 3) := by decide +kernel
theorem dX1_turn_15 : decode cX1_turn 15 = .ok (.iload_n 1, 1) := by decide +kernel
theorem dX1_turn_16 : decode cX1_turn 16 = .ok (.iconst (-1), 1) := by decide +kernel
theorem dX1_turn_17 : decode cX1_turn 17 = .ok (.aload_n 0, 1) := by decide +kernel
theorem dX1_turn_18 : decode cX1_turn 18 = .ok (.getfield 9, 3) := by decide +kernel
theorem dX1_turn_21 : decode cX1_turn 21 = .ok (.iload_n 1, 1) := by decide +kernel
theorem dX1_turn_22 : decode cX1_turn 22 = .ok (.iaload, 1) := by decide +kernel
theorem dX1_turn_23 : decode cX1_turn 23 = .ok (.isub, 1) := by decide +kernel
theorem dX1_turn_24 : decode cX1_turn 24 = .ok (.iastore, 1) := by decide +kernel
theorem dX1_turn_25 : decode cX1_turn 25 = .ok (.return_, 1) := by decide +kernel
def mE_X1_turn_25 (N : Nat) (σ : ST) (x1 : Int32) : Option (ST) :=
  some σ
set_option maxRecDepth 20000 in
set_option maxHeartbeats 2000000 in
theorem tE_X1_turn_25 {adr : Nat → Nat} {cI cZ cS : ClassId} {tL tH : Nat} {X : zX} {q : ST} (B : zC X 2 (wdE adr cI cZ cS tL tH) cX1_turn RX1 none { frames := 0, cells := 0, slots := 0, locals := 0 }) (N : Nat) (σ : ST) (x1 : Int32) (hf : mE_X1_turn_25 N σ x1 = some q) : zJ X 2 (wdE adr cI cZ cS tL tH) (zu q) 25 [(0, .ref (adr 25)), (1, .int x1)] [] σ := by
  exact z_return B dX1_turn_25 hf
def mE_X1_turn (N : Nat) (σ : ST) (x1 : Int32) : Option (ST) :=
  if (x1 : Int32) < 0 then
    mE_X1_turn_25 N σ x1
  else
    if ((10000) : Int32) ≤ x1 then
      mE_X1_turn_25 N σ x1
    else
      zGet (σ 26) 10000 x1 fun v22 =>
      zLet (((-1) : Int32) - v22) fun v23 =>
      zSet σ 26 10000 x1 v23 fun s24 =>
      mE_X1_turn_25 N s24 x1
set_option maxRecDepth 20000 in
set_option maxHeartbeats 2000000 in
theorem cE_X1_turn {adr : Nat → Nat} {cI cZ cS : ClassId} {tL tH : Nat} {l : Launch} {D : va_G} {N : Nat} {σ : ST} {x1 : Int32} (q : ST) (hf : mE_X1_turn N σ x1 = some q) : zM l D (wdE adr cI cZ cS tL tH) yX1_turn cX1_turn 2 none ({ frames := 0, cells := 0, slots := 0, locals := 0 }) [.ref (adr 25), .int x1] σ (zu q) := by
  refine zM_of sfE_ok rfl (Nat.le_of_ble_eq_true rfl) [(0, .ref (adr 25)), (1, .int x1)] rfl (fun X hX1 hX2 B => ?_)
  have B : zC X 2 (wdE adr cI cZ cS tL tH) cX1_turn RX1 none { frames := 0, cells := 0, slots := 0, locals := 0 } := B
  refine z_iload_n B dX1_turn_0 1 rfl rfl ?_
  refine z_if_lt B 25 dX1_turn_1 (by decide) hf (fun hf => ?_) (fun hf => ?_)
  · exact tE_X1_turn_25 B N σ x1 hf
  · refine z_iload_n B dX1_turn_4 1 rfl rfl ?_
    refine z_sipush B (10000) dX1_turn_5 zc_sipush_10000 ?_
    refine z_icmp_ge B 25 dX1_turn_8 (by decide) hf (fun hf => ?_) (fun hf => ?_)
    · exact tE_X1_turn_25 B N σ x1 hf
    · refine z_aload_n B dX1_turn_11 0 rfl rfl ?_
      refine fE_g_X1_D_cells B dX1_turn_12 ?_
      refine z_iload_n B dX1_turn_15 1 rfl rfl ?_
      refine z_iconst B (-1) dX1_turn_16 zc_iconst_m1 ?_
      refine z_aload_n B dX1_turn_17 0 rfl rfl ?_
      refine fE_g_X1_D_cells B dX1_turn_18 ?_
      refine z_iload_n B dX1_turn_21 1 rfl rfl ?_
      refine fE_l_D_cells B dX1_turn_22 hf (fun v22 hf => ?_)
      refine z_isub B dX1_turn_23 hf (fun v23 hf => ?_)
      refine fE_s_D_cells B dX1_turn_24 hf (fun s24 hf => ?_)
      exact tE_X1_turn_25 B N s24 x1 hf
theorem dX1_badBelow_0 : decode cX1_badBelow 0 = .ok (.iconst 0, 1) := by decide +kernel
theorem dX1_badBelow_1 : decode cX1_badBelow 1 = .ok (.istore_n 2, 1) := by decide +kernel
theorem dX1_badBelow_2 : decode cX1_badBelow 2 = .ok (.iconst 0, 1) := by decide +kernel
theorem dX1_badBelow_3 : decode cX1_badBelow 3 = .ok (.istore_n 3, 1) := by decide +kernel
theorem dX1_badBelow_4 : decode cX1_badBelow 4 = .ok (.iload_n 3, 1) := by decide +kernel
theorem dX1_badBelow_5 : decode cX1_badBelow 5 = .ok (.iload_n 1, 1) := by decide +kernel
theorem dX1_badBelow_6 : decode cX1_badBelow 6 = .ok (.if_icmp .ge 28, 3) := by decide +kernel
theorem dX1_badBelow_9 : decode cX1_badBelow 9 = .ok (.iload_n 3, 1) := by decide +kernel
theorem dX1_badBelow_10 : decode cX1_badBelow 10 = .ok (.sipush 10000, 3) := by decide +kernel
theorem dX1_badBelow_13 : decode cX1_badBelow 13 = .ok (.if_icmp .ge 21, 3) := by decide +kernel
theorem dX1_badBelow_16 : decode cX1_badBelow 16 = .ok (.aload_n 0, 1) := by decide +kernel
theorem dX1_badBelow_17 : decode cX1_badBelow 17 = .ok (.getfield 9, 3) := by decide +kernel
theorem dX1_badBelow_20 : decode cX1_badBelow 20 = .ok (.iload_n 3, 1) := by decide +kernel
theorem dX1_badBelow_21 : decode cX1_badBelow 21 = .ok (.iaload, 1) := by decide +kernel
theorem dX1_badBelow_22 : decode cX1_badBelow 22 = .ok (.ifCond .ge 6, 3) := by decide +kernel
theorem dX1_badBelow_25 : decode cX1_badBelow 25 = .ok (.iinc 2 1, 3) := by decide +kernel
theorem dX1_badBelow_28 : decode cX1_badBelow 28 = .ok (.iinc 3 1, 3) := by decide +kernel
theorem dX1_badBelow_31 : decode cX1_badBelow 31 = .ok (.goto (-27), 3) := by decide +kernel
theorem dX1_badBelow_34 : decode cX1_badBelow 34 = .ok (.iload_n 2, 1) := by decide +kernel
theorem dX1_badBelow_35 : decode cX1_badBelow 35 = .ok (.ireturn, 1) := by decide +kernel
def mE_X1_badBelow_34 (N : Nat) (σ : ST) (x1 : Int32) (x2 : Int32) (x3 : Int32) : Option (Int32 × ST) :=
  some (x2, σ)
set_option maxRecDepth 20000 in
set_option maxHeartbeats 2000000 in
theorem tE_X1_badBelow_34 {adr : Nat → Nat} {cI cZ cS : ClassId} {tL tH : Nat} {X : zX} {q : Int32 × ST} (B : zC X 4 (wdE adr cI cZ cS tL tH) cX1_badBelow RX1 (some .int) { frames := 0, cells := 0, slots := 0, locals := 0 }) (N : Nat) (σ : ST) (x1 : Int32) (x2 : Int32) (x3 : Int32) (hf : mE_X1_badBelow_34 N σ x1 x2 x3 = some q) : zJ X 4 (wdE adr cI cZ cS tL tH) (zi q) 34 [(0, .ref (adr 25)), (1, .int x1), (2, .int x2), (3, .int x3)] [] σ := by
  refine z_iload_n B dX1_badBelow_34 2 rfl rfl ?_
  exact z_ireturn B dX1_badBelow_35 hf
def mE_X1_badBelow_28 (N : Nat) (hd4 : ST → Int32 → Int32 → Int32 → Option (Int32 × ST)) (σ : ST) (x1 : Int32) (x2 : Int32) (x3 : Int32) : Option (Int32 × ST) :=
  zLet (x3 + (1)) fun v28 =>
  hd4 σ x1 x2 v28
set_option maxRecDepth 20000 in
set_option maxHeartbeats 2000000 in
theorem tE_X1_badBelow_28 {adr : Nat → Nat} {cI cZ cS : ClassId} {tL tH : Nat} {X : zX} {q : Int32 × ST} (B : zC X 4 (wdE adr cI cZ cS tL tH) cX1_badBelow RX1 (some .int) { frames := 0, cells := 0, slots := 0, locals := 0 }) (N : Nat) (hd4 : ST → Int32 → Int32 → Int32 → Option (Int32 × ST)) (hh4 : ∀ (σ : ST) (x1 : Int32) (x2 : Int32) (x3 : Int32), hd4 σ x1 x2 x3 = some q → zJ X 4 (wdE adr cI cZ cS tL tH) (zi q) 4 [(0, .ref (adr 25)), (1, .int x1), (2, .int x2), (3, .int x3)] [] σ) (σ : ST) (x1 : Int32) (x2 : Int32) (x3 : Int32) (hf : mE_X1_badBelow_28 N hd4 σ x1 x2 x3 = some q) : zJ X 4 (wdE adr cI cZ cS tL tH) (zi q) 28 [(0, .ref (adr 25)), (1, .int x1), (2, .int x2), (3, .int x3)] [] σ := by
  refine z_iinc B (1) 3 (fun v28 => [(3, .int v28), (0, .ref (adr 25)), (1, .int x1), (2, .int x2)]) dX1_badBelow_28 hf zc_iconst_1 rfl (Nat.le_of_ble_eq_true rfl) (fun _ => rfl) (fun v28 hf => ?_)
  refine z_goto B 4 dX1_badBelow_31 (by decide) ?_
  exact z_loc [1, 2, 3, 0] _ rfl (hh4 σ x1 x2 v28 hf)
def mE_X1_badBelow_B4 (N : Nat) (hd4 : ST → Int32 → Int32 → Int32 → Option (Int32 × ST)) (σ : ST) (x1 : Int32) (x2 : Int32) (x3 : Int32) : Option (Int32 × ST) :=
  if (x1 : Int32) ≤ x3 then
    mE_X1_badBelow_34 N σ x1 x2 x3
  else
    if ((10000) : Int32) ≤ x3 then
      mE_X1_badBelow_34 N σ x1 x2 x3
    else
      zGet (σ 26) 10000 x3 fun v21 =>
      if (0 : Int32) ≤ v21 then
        mE_X1_badBelow_28 N hd4 σ x1 x2 x3
      else
        zLet (x2 + (1)) fun v25 =>
        mE_X1_badBelow_28 N hd4 σ x1 v25 x3
def mE_X1_badBelow_4 (N : Nat) : ST → Int32 → Int32 → Int32 → Option (Int32 × ST) := zIt (mE_X1_badBelow_B4 N) (fun _ _ _ _ => none) N
set_option maxRecDepth 20000 in
set_option maxHeartbeats 2000000 in
theorem tE_X1_badBelow_4 {adr : Nat → Nat} {cI cZ cS : ClassId} {tL tH : Nat} {X : zX} {q : Int32 × ST} (B : zC X 4 (wdE adr cI cZ cS tL tH) cX1_badBelow RX1 (some .int) { frames := 0, cells := 0, slots := 0, locals := 0 }) (N : Nat) : ∀ (σ : ST) (x1 : Int32) (x2 : Int32) (x3 : Int32), mE_X1_badBelow_4 N σ x1 x2 x3 = some q → zJ X 4 (wdE adr cI cZ cS tL tH) (zi q) 4 [(0, .ref (adr 25)), (1, .int x1), (2, .int x2), (3, .int x3)] [] σ := by
  refine zIt_ind (P := fun (hd : ST → Int32 → Int32 → Int32 → Option (Int32 × ST)) => ∀ (σ : ST) (x1 : Int32) (x2 : Int32) (x3 : Int32), hd σ x1 x2 x3 = some q → zJ X 4 (wdE adr cI cZ cS tL tH) (zi q) 4 [(0, .ref (adr 25)), (1, .int x1), (2, .int x2), (3, .int x3)] [] σ) (fun _ _ _ _ hf => by cases hf) (fun hd4 hh4 => ?_) N
  intro σ x1 x2 x3 hf
  refine z_iload_n B dX1_badBelow_4 3 rfl rfl ?_
  refine z_iload_n B dX1_badBelow_5 1 rfl rfl ?_
  refine z_icmp_ge B 34 dX1_badBelow_6 (by decide) hf (fun hf => ?_) (fun hf => ?_)
  · exact tE_X1_badBelow_34 B N σ x1 x2 x3 hf
  · refine z_iload_n B dX1_badBelow_9 3 rfl rfl ?_
    refine z_sipush B (10000) dX1_badBelow_10 zc_sipush_10000 ?_
    refine z_icmp_ge B 34 dX1_badBelow_13 (by decide) hf (fun hf => ?_) (fun hf => ?_)
    · exact tE_X1_badBelow_34 B N σ x1 x2 x3 hf
    · refine z_aload_n B dX1_badBelow_16 0 rfl rfl ?_
      refine fE_g_X1_D_cells B dX1_badBelow_17 ?_
      refine z_iload_n B dX1_badBelow_20 3 rfl rfl ?_
      refine fE_l_D_cells B dX1_badBelow_21 hf (fun v21 hf => ?_)
      refine z_if_ge B 28 dX1_badBelow_22 (by decide) hf (fun hf => ?_) (fun hf => ?_)
      · exact tE_X1_badBelow_28 B N hd4 hh4 σ x1 x2 x3 hf
      · refine z_iinc B (1) 2 (fun v25 => [(2, .int v25), (0, .ref (adr 25)), (1, .int x1), (3, .int x3)]) dX1_badBelow_25 hf zc_iconst_1 rfl (Nat.le_of_ble_eq_true rfl) (fun _ => rfl) (fun v25 hf => ?_)
        exact z_loc [1, 2, 0, 3] _ rfl (tE_X1_badBelow_28 B N hd4 hh4 σ x1 v25 x3 hf)
def mE_X1_badBelow (N : Nat) (σ : ST) (x1 : Int32) : Option (Int32 × ST) :=
  mE_X1_badBelow_4 N σ x1 (0) (0)
set_option maxRecDepth 20000 in
set_option maxHeartbeats 2000000 in
theorem cE_X1_badBelow {adr : Nat → Nat} {cI cZ cS : ClassId} {tL tH : Nat} {l : Launch} {D : va_G} {N : Nat} {σ : ST} {x1 : Int32} (q : Int32 × ST) (hf : mE_X1_badBelow N σ x1 = some q) : zM l D (wdE adr cI cZ cS tL tH) yX1_badBelow cX1_badBelow 4 (some .int) ({ frames := 0, cells := 0, slots := 0, locals := 0 }) [.ref (adr 25), .int x1] σ (zi q) := by
  refine zM_of sfE_ok rfl (Nat.le_of_ble_eq_true rfl) [(0, .ref (adr 25)), (1, .int x1)] rfl (fun X hX1 hX2 B => ?_)
  have B : zC X 4 (wdE adr cI cZ cS tL tH) cX1_badBelow RX1 (some .int) { frames := 0, cells := 0, slots := 0, locals := 0 } := B
  refine z_iconst B (0) dX1_badBelow_0 zc_iconst_0 ?_
  refine z_istore_n B [(2, .int (0)), (0, .ref (adr 25)), (1, .int x1)] dX1_badBelow_1 rfl (Nat.le_of_ble_eq_true rfl) rfl ?_
  refine z_iconst B (0) dX1_badBelow_2 zc_iconst_0 ?_
  refine z_istore_n B [(3, .int (0)), (2, .int (0)), (0, .ref (adr 25)), (1, .int x1)] dX1_badBelow_3 rfl (Nat.le_of_ble_eq_true rfl) rfl ?_
  exact z_loc [2, 3, 1, 0] _ rfl (tE_X1_badBelow_4 B N σ x1 (0) (0) hf)
theorem dX4_leave_0 : decode cX4_leave 0 = .ok (.aload_n 0, 1) := by decide +kernel
theorem dX4_leave_1 : decode cX4_leave 1 = .ok (.iconst (-1), 1) := by decide +kernel
theorem dX4_leave_2 : decode cX4_leave 2 = .ok (.putfield 9, 3) := by decide +kernel
theorem dX4_leave_5 : decode cX4_leave 5 = .ok (.return_, 1) := by decide +kernel
def mE_X4_leave (N : Nat) (σ : ST) (x0 : Fin 6) : Option (ST) :=
  zLet (zUp σ (12 + (x0).val) 0 (-1)) fun s2 =>
  some s2
set_option maxRecDepth 20000 in
set_option maxHeartbeats 2000000 in
theorem cE_X4_leave {adr : Nat → Nat} {cI cZ cS : ClassId} {tL tH : Nat} {l : Launch} {D : va_G} {N : Nat} {σ : ST} {x0 : Fin 6} (q : ST) (hf : mE_X4_leave N σ x0 = some q) : zM l D (wdE adr cI cZ cS tL tH) yX4_leave cX4_leave 1 none ({ frames := 0, cells := 0, slots := 0, locals := 0 }) [.ref (adr (12 + (x0).val))] σ (zu q) := by
  refine zM_of sfE_ok rfl (Nat.le_of_ble_eq_true rfl) [(0, .ref (adr (12 + (x0).val)))] rfl (fun X hX1 hX2 B => ?_)
  have B : zC X 1 (wdE adr cI cZ cS tL tH) cX4_leave RX4 none { frames := 0, cells := 0, slots := 0, locals := 0 } := B
  refine z_aload_n B dX4_leave_0 0 rfl rfl ?_
  refine z_iconst B (-1) dX4_leave_1 zc_iconst_m1 ?_
  refine fE_p_X4_S_number B x0 dX4_leave_2 hf (fun s2 hf => ?_)
  exact z_return B dX4_leave_5 hf
theorem dX4_wayTo_0 : decode cX4_wayTo 0 = .ok (.aload_n 0, 1) := by decide +kernel
theorem dX4_wayTo_1 : decode cX4_wayTo 1 = .ok (.getfield 21, 3) := by decide +kernel
theorem dX4_wayTo_4 : decode cX4_wayTo 4 = .ok (.ifCond .ge 12, 3) := by decide +kernel
theorem dX4_wayTo_7 : decode cX4_wayTo 7 = .ok (.aload_n 0, 1) := by decide +kernel
theorem dX4_wayTo_8 : decode cX4_wayTo 8 = .ok (.getfield 18, 3) := by decide +kernel
theorem dX4_wayTo_11 : decode cX4_wayTo 11 = .ok (.iload_n 1, 1) := by decide +kernel
theorem dX4_wayTo_12 : decode cX4_wayTo 12 = .ok (.isub, 1) := by decide +kernel
theorem dX4_wayTo_13 : decode cX4_wayTo 13 = .ok (.goto 9, 3) := by decide +kernel
theorem dX4_wayTo_16 : decode cX4_wayTo 16 = .ok (.iload_n 1, 1) := by decide +kernel
theorem dX4_wayTo_17 : decode cX4_wayTo 17 = .ok (.aload_n 0, 1) := by decide +kernel
theorem dX4_wayTo_18 : decode cX4_wayTo 18 = .ok (.getfield 18, 3) := by decide +kernel
theorem dX4_wayTo_21 : decode cX4_wayTo 21 = .ok (.isub, 1) := by decide +kernel
theorem dX4_wayTo_22 : decode cX4_wayTo 22 = .ok (.ireturn, 1) := by decide +kernel
def mE_X4_wayTo_22 (N : Nat) (σ : ST) (x0 : Fin 6) (x1 : Int32) (k0 : Int32) : Option (Int32 × ST) :=
  some (k0, σ)
set_option maxRecDepth 20000 in
set_option maxHeartbeats 2000000 in
theorem tE_X4_wayTo_22 {adr : Nat → Nat} {cI cZ cS : ClassId} {tL tH : Nat} {X : zX} {q : Int32 × ST} (B : zC X 2 (wdE adr cI cZ cS tL tH) cX4_wayTo RX4 (some .int) { frames := 0, cells := 0, slots := 0, locals := 0 }) (N : Nat) (σ : ST) (x0 : Fin 6) (x1 : Int32) (k0 : Int32) (hf : mE_X4_wayTo_22 N σ x0 x1 k0 = some q) : zJ X 2 (wdE adr cI cZ cS tL tH) (zi q) 22 [(0, .ref (adr (12 + (x0).val))), (1, .int x1)] [.int k0] σ := by
  exact z_ireturn B dX4_wayTo_22 hf
def mE_X4_wayTo (N : Nat) (σ : ST) (x0 : Fin 6) (x1 : Int32) : Option (Int32 × ST) :=
  zLet (σ (12 + (x0).val) 2) fun v1 =>
  if (0 : Int32) ≤ v1 then
    zLet (σ (12 + (x0).val) 1) fun v18 =>
    zLet ((x1 : Int32) - v18) fun v21 =>
    mE_X4_wayTo_22 N σ x0 x1 v21
  else
    zLet (σ (12 + (x0).val) 1) fun v8 =>
    zLet ((v8 : Int32) - x1) fun v12 =>
    mE_X4_wayTo_22 N σ x0 x1 v12
set_option maxRecDepth 20000 in
set_option maxHeartbeats 2000000 in
theorem cE_X4_wayTo {adr : Nat → Nat} {cI cZ cS : ClassId} {tL tH : Nat} {l : Launch} {D : va_G} {N : Nat} {σ : ST} {x0 : Fin 6} {x1 : Int32} (q : Int32 × ST) (hf : mE_X4_wayTo N σ x0 x1 = some q) : zM l D (wdE adr cI cZ cS tL tH) yX4_wayTo cX4_wayTo 2 (some .int) ({ frames := 0, cells := 0, slots := 0, locals := 0 }) [.ref (adr (12 + (x0).val)), .int x1] σ (zi q) := by
  refine zM_of sfE_ok rfl (Nat.le_of_ble_eq_true rfl) [(0, .ref (adr (12 + (x0).val))), (1, .int x1)] rfl (fun X hX1 hX2 B => ?_)
  have B : zC X 2 (wdE adr cI cZ cS tL tH) cX4_wayTo RX4 (some .int) { frames := 0, cells := 0, slots := 0, locals := 0 } := B
  refine z_aload_n B dX4_wayTo_0 0 rfl rfl ?_
  refine fE_g_X4_S_stride B x0 dX4_wayTo_1 hf (fun v1 hf => ?_)
  refine z_if_ge B 16 dX4_wayTo_4 (by decide) hf (fun hf => ?_) (fun hf => ?_)
  · refine z_iload_n B dX4_wayTo_16 1 rfl rfl ?_
    refine z_aload_n B dX4_wayTo_17 0 rfl rfl ?_
    refine fE_g_X4_S_last B x0 dX4_wayTo_18 hf (fun v18 hf => ?_)
    refine z_isub B dX4_wayTo_21 hf (fun v21 hf => ?_)
    exact tE_X4_wayTo_22 B N σ x0 x1 v21 hf
  · refine z_aload_n B dX4_wayTo_7 0 rfl rfl ?_
    refine fE_g_X4_S_last B x0 dX4_wayTo_8 hf (fun v8 hf => ?_)
    refine z_iload_n B dX4_wayTo_11 1 rfl rfl ?_
    refine z_isub B dX4_wayTo_12 hf (fun v12 hf => ?_)
    refine z_goto B 22 dX4_wayTo_13 (by decide) ?_
    exact tE_X4_wayTo_22 B N σ x0 x1 v12 hf
theorem dX4_edgeIsBeyond_0 : decode cX4_edgeIsBeyond 0 = .ok (.aload_n 0, 1) := by decide +kernel
theorem dX4_edgeIsBeyond_1 : decode cX4_edgeIsBeyond 1 = .ok (.getfield 21, 3) := by decide +kernel
theorem dX4_edgeIsBeyond_4 : decode cX4_edgeIsBeyond 4 = .ok (.ifCond .ge 19, 3) := by decide +kernel
theorem dX4_edgeIsBeyond_7 : decode cX4_edgeIsBeyond 7 = .ok (.aload_n 0, 1) := by decide +kernel
theorem dX4_edgeIsBeyond_8 : decode cX4_edgeIsBeyond 8 = .ok (.getfield 30, 3) := by decide +kernel
theorem dX4_edgeIsBeyond_11 : decode cX4_edgeIsBeyond 11 = .ok (.iload_n 1, 1) := by decide +kernel
theorem dX4_edgeIsBeyond_12 : decode cX4_edgeIsBeyond 12 = .ok (.if_icmp .ge 7, 3) := by decide +kernel
theorem dX4_edgeIsBeyond_15 : decode cX4_edgeIsBeyond 15 = .ok (.iconst 1, 1) := by decide +kernel
theorem dX4_edgeIsBeyond_16 : decode cX4_edgeIsBeyond 16 = .ok (.goto 20, 3) := by decide +kernel
theorem dX4_edgeIsBeyond_19 : decode cX4_edgeIsBeyond 19 = .ok (.iconst 0, 1) := by decide +kernel
theorem dX4_edgeIsBeyond_20 : decode cX4_edgeIsBeyond 20 = .ok (.goto 16, 3) := by decide +kernel
theorem dX4_edgeIsBeyond_23 : decode cX4_edgeIsBeyond 23 = .ok (.aload_n 0, 1) := by decide +kernel
theorem dX4_edgeIsBeyond_24 : decode cX4_edgeIsBeyond 24 = .ok (.getfield 30, 3) := by decide +kernel
theorem dX4_edgeIsBeyond_27 : decode cX4_edgeIsBeyond 27 = .ok (.iload_n 1, 1) := by decide +kernel
theorem dX4_edgeIsBeyond_28 : decode cX4_edgeIsBeyond 28 = .ok (.if_icmp .le 7, 3) := by decide +kernel
theorem dX4_edgeIsBeyond_31 : decode cX4_edgeIsBeyond 31 = .ok (.iconst 1, 1) := by decide +kernel
theorem dX4_edgeIsBeyond_32 : decode cX4_edgeIsBeyond 32 = .ok (.goto 4, 3) := by decide +kernel
theorem dX4_edgeIsBeyond_35 : decode cX4_edgeIsBeyond 35 = .ok (.iconst 0, 1) := by decide +kernel
theorem dX4_edgeIsBeyond_36 : decode cX4_edgeIsBeyond 36 = .ok (.ireturn, 1) := by decide +kernel
def mE_X4_edgeIsBeyond_36 (N : Nat) (σ : ST) (x0 : Fin 6) (x1 : Int32) (k0 : Int32) : Option (Int32 × ST) :=
  zBool k0 (some (k0, σ))
set_option maxRecDepth 20000 in
set_option maxHeartbeats 2000000 in
theorem tE_X4_edgeIsBeyond_36 {adr : Nat → Nat} {cI cZ cS : ClassId} {tL tH : Nat} {X : zX} {q : Int32 × ST} (B : zC X 2 (wdE adr cI cZ cS tL tH) cX4_edgeIsBeyond RX4 (some .boolean) { frames := 0, cells := 0, slots := 0, locals := 0 }) (N : Nat) (σ : ST) (x0 : Fin 6) (x1 : Int32) (k0 : Int32) (hf : mE_X4_edgeIsBeyond_36 N σ x0 x1 k0 = some q) : zJ X 2 (wdE adr cI cZ cS tL tH) (zi q) 36 [(0, .ref (adr (12 + (x0).val))), (1, .int x1)] [.int k0] σ := by
  exact z_zreturn B dX4_edgeIsBeyond_36 hf
def mE_X4_edgeIsBeyond (N : Nat) (σ : ST) (x0 : Fin 6) (x1 : Int32) : Option (Int32 × ST) :=
  zLet (σ (12 + (x0).val) 2) fun v1 =>
  if (0 : Int32) ≤ v1 then
    zLet (σ (12 + (x0).val) 5) fun v24 =>
    if (v24 : Int32) ≤ x1 then
      mE_X4_edgeIsBeyond_36 N σ x0 x1 (0)
    else
      mE_X4_edgeIsBeyond_36 N σ x0 x1 (1)
  else
    zLet (σ (12 + (x0).val) 5) fun v8 =>
    if (x1 : Int32) ≤ v8 then
      mE_X4_edgeIsBeyond_36 N σ x0 x1 (0)
    else
      mE_X4_edgeIsBeyond_36 N σ x0 x1 (1)
set_option maxRecDepth 20000 in
set_option maxHeartbeats 2000000 in
theorem cE_X4_edgeIsBeyond {adr : Nat → Nat} {cI cZ cS : ClassId} {tL tH : Nat} {l : Launch} {D : va_G} {N : Nat} {σ : ST} {x0 : Fin 6} {x1 : Int32} (q : Int32 × ST) (hf : mE_X4_edgeIsBeyond N σ x0 x1 = some q) : zM l D (wdE adr cI cZ cS tL tH) yX4_edgeIsBeyond cX4_edgeIsBeyond 2 (some .boolean) ({ frames := 0, cells := 0, slots := 0, locals := 0 }) [.ref (adr (12 + (x0).val)), .int x1] σ (zi q) := by
  refine zM_of sfE_ok rfl (Nat.le_of_ble_eq_true rfl) [(0, .ref (adr (12 + (x0).val))), (1, .int x1)] rfl (fun X hX1 hX2 B => ?_)
  have B : zC X 2 (wdE adr cI cZ cS tL tH) cX4_edgeIsBeyond RX4 (some .boolean) { frames := 0, cells := 0, slots := 0, locals := 0 } := B
  refine z_aload_n B dX4_edgeIsBeyond_0 0 rfl rfl ?_
  refine fE_g_X4_S_stride B x0 dX4_edgeIsBeyond_1 hf (fun v1 hf => ?_)
  refine z_if_ge B 23 dX4_edgeIsBeyond_4 (by decide) hf (fun hf => ?_) (fun hf => ?_)
  · refine z_aload_n B dX4_edgeIsBeyond_23 0 rfl rfl ?_
    refine fE_g_X4_S_edge B x0 dX4_edgeIsBeyond_24 hf (fun v24 hf => ?_)
    refine z_iload_n B dX4_edgeIsBeyond_27 1 rfl rfl ?_
    refine z_icmp_le B 35 dX4_edgeIsBeyond_28 (by decide) hf (fun hf => ?_) (fun hf => ?_)
    · refine z_iconst B (0) dX4_edgeIsBeyond_35 zc_iconst_0 ?_
      exact tE_X4_edgeIsBeyond_36 B N σ x0 x1 (0) hf
    · refine z_iconst B (1) dX4_edgeIsBeyond_31 zc_iconst_1 ?_
      refine z_goto B 36 dX4_edgeIsBeyond_32 (by decide) ?_
      exact tE_X4_edgeIsBeyond_36 B N σ x0 x1 (1) hf
  · refine z_aload_n B dX4_edgeIsBeyond_7 0 rfl rfl ?_
    refine fE_g_X4_S_edge B x0 dX4_edgeIsBeyond_8 hf (fun v8 hf => ?_)
    refine z_iload_n B dX4_edgeIsBeyond_11 1 rfl rfl ?_
    refine z_icmp_ge B 19 dX4_edgeIsBeyond_12 (by decide) hf (fun hf => ?_) (fun hf => ?_)
    · refine z_iconst B (0) dX4_edgeIsBeyond_19 zc_iconst_0 ?_
      refine z_goto B 36 dX4_edgeIsBeyond_20 (by decide) ?_
      exact tE_X4_edgeIsBeyond_36 B N σ x0 x1 (0) hf
    · refine z_iconst B (1) dX4_edgeIsBeyond_15 zc_iconst_1 ?_
      refine z_goto B 36 dX4_edgeIsBeyond_16 (by decide) ?_
      exact tE_X4_edgeIsBeyond_36 B N σ x0 x1 (1) hf
theorem dX4_tell_0 : decode cX4_tell 0 = .ok (.iload_n 1, 1) := by decide +kernel
theorem dX4_tell_1 : decode cX4_tell 1 = .ok (.tableswitch 118 0 11 #[63, 68, 73, 78, 83, 88, 93, 98, 118, 103, 108, 113], 63) := by decide +kernel
theorem dX4_tell_64 : decode cX4_tell 64 = .ok (.aload_n 0, 1) := by decide +kernel
theorem dX4_tell_65 : decode cX4_tell 65 = .ok (.getfield 9, 3) := by decide +kernel
theorem dX4_tell_68 : decode cX4_tell 68 = .ok (.ireturn, 1) := by decide +kernel
theorem dX4_tell_69 : decode cX4_tell 69 = .ok (.aload_n 0, 1) := by decide +kernel
theorem dX4_tell_70 : decode cX4_tell 70 = .ok (.getfield 18, 3) := by decide +kernel
theorem dX4_tell_73 : decode cX4_tell 73 = .ok (.ireturn, 1) := by decide +kernel
theorem dX4_tell_74 : decode cX4_tell 74 = .ok (.aload_n 0, 1) := by decide +kernel
theorem dX4_tell_75 : decode cX4_tell 75 = .ok (.getfield 21, 3) := by decide +kernel
theorem dX4_tell_78 : decode cX4_tell 78 = .ok (.ireturn, 1) := by decide +kernel
theorem dX4_tell_79 : decode cX4_tell 79 = .ok (.aload_n 0, 1) := by decide +kernel
theorem dX4_tell_80 : decode cX4_tell 80 = .ok (.getfield 24, 3) := by decide +kernel
theorem dX4_tell_83 : decode cX4_tell 83 = .ok (.ireturn, 1) := by decide +kernel
theorem dX4_tell_84 : decode cX4_tell 84 = .ok (.aload_n 0, 1) := by decide +kernel
theorem dX4_tell_85 : decode cX4_tell 85 = .ok (.getfield 27, 3) := by decide +kernel
theorem dX4_tell_88 : decode cX4_tell 88 = .ok (.ireturn, 1) := by decide +kernel
theorem dX4_tell_89 : decode cX4_tell 89 = .ok (.aload_n 0, 1) := by decide +kernel
theorem dX4_tell_90 : decode cX4_tell 90 = .ok (.getfield 30, 3) := by decide +kernel
theorem dX4_tell_93 : decode cX4_tell 93 = .ok (.ireturn, 1) := by decide +kernel
theorem dX4_tell_94 : decode cX4_tell 94 = .ok (.aload_n 0, 1) := by decide +kernel
theorem dX4_tell_95 : decode cX4_tell 95 = .ok (.getfield 15, 3) := by decide +kernel
theorem dX4_tell_98 : decode cX4_tell 98 = .ok (.ireturn, 1) := by decide +kernel
theorem dX4_tell_99 : decode cX4_tell 99 = .ok (.aload_n 0, 1) := by decide +kernel
theorem dX4_tell_100 : decode cX4_tell 100 = .ok (.getfield 33, 3) := by decide +kernel
theorem dX4_tell_103 : decode cX4_tell 103 = .ok (.ireturn, 1) := by decide +kernel
theorem dX4_tell_104 : decode cX4_tell 104 = .ok (.aload_n 0, 1) := by decide +kernel
theorem dX4_tell_105 : decode cX4_tell 105 = .ok (.getfield 36, 3) := by decide +kernel
theorem dX4_tell_108 : decode cX4_tell 108 = .ok (.ireturn, 1) := by decide +kernel
theorem dX4_tell_109 : decode cX4_tell 109 = .ok (.aload_n 0, 1) := by decide +kernel
theorem dX4_tell_110 : decode cX4_tell 110 = .ok (.getfield 39, 3) := by decide +kernel
theorem dX4_tell_113 : decode cX4_tell 113 = .ok (.ireturn, 1) := by decide +kernel
theorem dX4_tell_114 : decode cX4_tell 114 = .ok (.aload_n 0, 1) := by decide +kernel
theorem dX4_tell_115 : decode cX4_tell 115 = .ok (.getfield 42, 3) := by decide +kernel
theorem dX4_tell_118 : decode cX4_tell 118 = .ok (.ireturn, 1) := by decide +kernel
theorem dX4_tell_119 : decode cX4_tell 119 = .ok (.ldc 51, 2) := by decide +kernel
theorem dX4_tell_121 : decode cX4_tell 121 = .ok (.ireturn, 1) := by decide +kernel
def mE_X4_tell (N : Nat) (σ : ST) (x0 : Fin 6) (x1 : Int32) : Option (Int32 × ST) :=
  if (x1 : Int32) = (0) then
    zLet (σ (12 + (x0).val) 0) fun v65 =>
    some (v65, σ)
  else
  if (x1 : Int32) = (1) then
    zLet (σ (12 + (x0).val) 1) fun v70 =>
    some (v70, σ)
  else
  if (x1 : Int32) = (2) then
    zLet (σ (12 + (x0).val) 2) fun v75 =>
    some (v75, σ)
  else
  if (x1 : Int32) = (3) then
    zLet (σ (12 + (x0).val) 3) fun v80 =>
    some (v80, σ)
  else
  if (x1 : Int32) = (4) then
    zLet (σ (12 + (x0).val) 4) fun v85 =>
    some (v85, σ)
  else
  if (x1 : Int32) = (5) then
    zLet (σ (12 + (x0).val) 5) fun v90 =>
    some (v90, σ)
  else
  if (x1 : Int32) = (6) then
    zLet (σ (12 + (x0).val) 6) fun v95 =>
    some (v95, σ)
  else
  if (x1 : Int32) = (7) then
    zLet (σ (12 + (x0).val) 7) fun v100 =>
    some (v100, σ)
  else
  if (x1 : Int32) = (9) then
    zLet (σ (12 + (x0).val) 8) fun v105 =>
    some (v105, σ)
  else
  if (x1 : Int32) = (10) then
    zLet (σ (12 + (x0).val) 9) fun v110 =>
    some (v110, σ)
  else
  if (x1 : Int32) = (11) then
    zLet (σ (12 + (x0).val) 10) fun v115 =>
    some (v115, σ)
  else
    some ((-2147483648), σ)
set_option maxRecDepth 20000 in
set_option maxHeartbeats 2000000 in
theorem cE_X4_tell {adr : Nat → Nat} {cI cZ cS : ClassId} {tL tH : Nat} {l : Launch} {D : va_G} {N : Nat} {σ : ST} {x0 : Fin 6} {x1 : Int32} (q : Int32 × ST) (hf : mE_X4_tell N σ x0 x1 = some q) : zM l D (wdE adr cI cZ cS tL tH) yX4_tell cX4_tell 2 (some .int) ({ frames := 0, cells := 0, slots := 0, locals := 0 }) [.ref (adr (12 + (x0).val)), .int x1] σ (zi q) := by
  refine zM_of sfE_ok rfl (Nat.le_of_ble_eq_true rfl) [(0, .ref (adr (12 + (x0).val))), (1, .int x1)] rfl (fun X hX1 hX2 B => ?_)
  have B : zC X 2 (wdE adr cI cZ cS tL tH) cX4_tell RX4 (some .int) { frames := 0, cells := 0, slots := 0, locals := 0 } := B
  refine z_iload_n B dX4_tell_0 1 rfl rfl ?_
  by_cases h1_0 : x1 = (0)
  · replace hf := zIfp h1_0 hf
    refine z_tabIn B (off := 63) 64 dX4_tell_1 (by rw [h1_0]; decide) (by rw [h1_0]; decide) (by rw [h1_0]; decide) (by decide) ?_
    refine z_aload_n B dX4_tell_64 0 rfl rfl ?_
    refine fE_g_X4_S_number B x0 dX4_tell_65 hf (fun v65 hf => ?_)
    exact z_ireturn B dX4_tell_68 hf
  replace hf := zIfn h1_0 hf
  by_cases h1_1 : x1 = (1)
  · replace hf := zIfp h1_1 hf
    refine z_tabIn B (off := 68) 69 dX4_tell_1 (by rw [h1_1]; decide) (by rw [h1_1]; decide) (by rw [h1_1]; decide) (by decide) ?_
    refine z_aload_n B dX4_tell_69 0 rfl rfl ?_
    refine fE_g_X4_S_last B x0 dX4_tell_70 hf (fun v70 hf => ?_)
    exact z_ireturn B dX4_tell_73 hf
  replace hf := zIfn h1_1 hf
  by_cases h1_2 : x1 = (2)
  · replace hf := zIfp h1_2 hf
    refine z_tabIn B (off := 73) 74 dX4_tell_1 (by rw [h1_2]; decide) (by rw [h1_2]; decide) (by rw [h1_2]; decide) (by decide) ?_
    refine z_aload_n B dX4_tell_74 0 rfl rfl ?_
    refine fE_g_X4_S_stride B x0 dX4_tell_75 hf (fun v75 hf => ?_)
    exact z_ireturn B dX4_tell_78 hf
  replace hf := zIfn h1_2 hf
  by_cases h1_3 : x1 = (3)
  · replace hf := zIfp h1_3 hf
    refine z_tabIn B (off := 78) 79 dX4_tell_1 (by rw [h1_3]; decide) (by rw [h1_3]; decide) (by rw [h1_3]; decide) (by decide) ?_
    refine z_aload_n B dX4_tell_79 0 rfl rfl ?_
    refine fE_g_X4_S_proof B x0 dX4_tell_80 hf (fun v80 hf => ?_)
    exact z_ireturn B dX4_tell_83 hf
  replace hf := zIfn h1_3 hf
  by_cases h1_4 : x1 = (4)
  · replace hf := zIfp h1_4 hf
    refine z_tabIn B (off := 83) 84 dX4_tell_1 (by rw [h1_4]; decide) (by rw [h1_4]; decide) (by rw [h1_4]; decide) (by decide) ?_
    refine z_aload_n B dX4_tell_84 0 rfl rfl ?_
    refine fE_g_X4_S_window B x0 dX4_tell_85 hf (fun v85 hf => ?_)
    exact z_ireturn B dX4_tell_88 hf
  replace hf := zIfn h1_4 hf
  by_cases h1_5 : x1 = (5)
  · replace hf := zIfp h1_5 hf
    refine z_tabIn B (off := 88) 89 dX4_tell_1 (by rw [h1_5]; decide) (by rw [h1_5]; decide) (by rw [h1_5]; decide) (by decide) ?_
    refine z_aload_n B dX4_tell_89 0 rfl rfl ?_
    refine fE_g_X4_S_edge B x0 dX4_tell_90 hf (fun v90 hf => ?_)
    exact z_ireturn B dX4_tell_93 hf
  replace hf := zIfn h1_5 hf
  by_cases h1_6 : x1 = (6)
  · replace hf := zIfp h1_6 hf
    refine z_tabIn B (off := 93) 94 dX4_tell_1 (by rw [h1_6]; decide) (by rw [h1_6]; decide) (by rw [h1_6]; decide) (by decide) ?_
    refine z_aload_n B dX4_tell_94 0 rfl rfl ?_
    refine fE_g_X4_S_marker B x0 dX4_tell_95 hf (fun v95 hf => ?_)
    exact z_ireturn B dX4_tell_98 hf
  replace hf := zIfn h1_6 hf
  by_cases h1_7 : x1 = (7)
  · replace hf := zIfp h1_7 hf
    refine z_tabIn B (off := 98) 99 dX4_tell_1 (by rw [h1_7]; decide) (by rw [h1_7]; decide) (by rw [h1_7]; decide) (by decide) ?_
    refine z_aload_n B dX4_tell_99 0 rfl rfl ?_
    refine fE_g_X4_S_used B x0 dX4_tell_100 hf (fun v100 hf => ?_)
    exact z_ireturn B dX4_tell_103 hf
  replace hf := zIfn h1_7 hf
  by_cases h1_9 : x1 = (9)
  · replace hf := zIfp h1_9 hf
    refine z_tabIn B (off := 103) 104 dX4_tell_1 (by rw [h1_9]; decide) (by rw [h1_9]; decide) (by rw [h1_9]; decide) (by decide) ?_
    refine z_aload_n B dX4_tell_104 0 rfl rfl ?_
    refine fE_g_X4_S_fetched B x0 dX4_tell_105 hf (fun v105 hf => ?_)
    exact z_ireturn B dX4_tell_108 hf
  replace hf := zIfn h1_9 hf
  by_cases h1_10 : x1 = (10)
  · replace hf := zIfp h1_10 hf
    refine z_tabIn B (off := 108) 109 dX4_tell_1 (by rw [h1_10]; decide) (by rw [h1_10]; decide) (by rw [h1_10]; decide) (by decide) ?_
    refine z_aload_n B dX4_tell_109 0 rfl rfl ?_
    refine fE_g_X4_S_hits B x0 dX4_tell_110 hf (fun v110 hf => ?_)
    exact z_ireturn B dX4_tell_113 hf
  replace hf := zIfn h1_10 hf
  by_cases h1_11 : x1 = (11)
  · replace hf := zIfp h1_11 hf
    refine z_tabIn B (off := 113) 114 dX4_tell_1 (by rw [h1_11]; decide) (by rw [h1_11]; decide) (by rw [h1_11]; decide) (by decide) ?_
    refine z_aload_n B dX4_tell_114 0 rfl rfl ?_
    refine fE_g_X4_S_wasted B x0 dX4_tell_115 hf (fun v115 hf => ?_)
    exact z_ireturn B dX4_tell_118 hf
  replace hf := zIfn h1_11 hf
  have kd1 : zJ X 2 (wdE adr cI cZ cS tL tH) (zi q) 119 [(0, .ref (adr (12 + (x0).val))), (1, .int x1)] [] σ := by
    refine z_ldc B kw_664 dX4_tell_119 ?_
    exact z_ireturn B dX4_tell_121 hf
  by_cases ho1 : x1.toInt < 0 ∨ 11 < x1.toInt
  · exact z_tabOut B 119 dX4_tell_1 ho1 (by decide) kd1
  · have e0 : x1.toInt ≠ 0 := z_ne h1_0 (by decide)
    have e1 : x1.toInt ≠ 1 := z_ne h1_1 (by decide)
    have e2 : x1.toInt ≠ 2 := z_ne h1_2 (by decide)
    have e3 : x1.toInt ≠ 3 := z_ne h1_3 (by decide)
    have e4 : x1.toInt ≠ 4 := z_ne h1_4 (by decide)
    have e5 : x1.toInt ≠ 5 := z_ne h1_5 (by decide)
    have e6 : x1.toInt ≠ 6 := z_ne h1_6 (by decide)
    have e7 : x1.toInt ≠ 7 := z_ne h1_7 (by decide)
    have e8 : x1.toInt ≠ 9 := z_ne h1_9 (by decide)
    have e9 : x1.toInt ≠ 10 := z_ne h1_10 (by decide)
    have e10 : x1.toInt ≠ 11 := z_ne h1_11 (by decide)
    have hx1 : x1.toInt = 8 := by omega
    have e1 := hx1
    exact z_tabIn B (off := 118) 119 dX4_tell_1 (by rw [e1]; decide) (by rw [e1]; decide) (by rw [e1]; decide) (by decide) kd1
theorem dX3_cellOf_0 : decode cX3_cellOf 0 = .ok (.iload_n 1, 1) := by decide +kernel
theorem dX3_cellOf_1 : decode cX3_cellOf 1 = .ok (.ifCond .lt 11, 3) := by decide +kernel
theorem dX3_cellOf_4 : decode cX3_cellOf 4 = .ok (.iload_n 1, 1) := by decide +kernel
theorem dX3_cellOf_5 : decode cX3_cellOf 5 = .ok (.aload_n 0, 1) := by decide +kernel
theorem dX3_cellOf_6 : decode cX3_cellOf 6 = .ok (.getfield 25, 3) := by decide +kernel
theorem dX3_cellOf_9 : decode cX3_cellOf 9 = .ok (.if_icmp .lt 7, 3) := by decide +kernel
theorem dX3_cellOf_12 : decode cX3_cellOf 12 = .ok (.iconst (-1), 1) := by decide +kernel
theorem dX3_cellOf_13 : decode cX3_cellOf 13 = .ok (.goto 13, 3) := by decide +kernel
theorem dX3_cellOf_16 : decode cX3_cellOf 16 = .ok (.aload_n 0, 1) := by decide +kernel
theorem dX3_cellOf_17 : decode cX3_cellOf 17 = .ok (.getfield 21, 3) := by decide +kernel
theorem dX3_cellOf_20 : decode cX3_cellOf 20 = .ok (.iload_n 1, 1) := by decide +kernel
theorem dX3_cellOf_21 : decode cX3_cellOf 21 = .ok (.iadd, 1) := by decide +kernel
theorem dX3_cellOf_22 : decode cX3_cellOf 22 = .ok (.sipush 400, 3) := by decide +kernel
theorem dX3_cellOf_25 : decode cX3_cellOf 25 = .ok (.irem, 1) := by decide +kernel
theorem dX3_cellOf_26 : decode cX3_cellOf 26 = .ok (.ireturn, 1) := by decide +kernel
def mE_X3_cellOf_26 (N : Nat) (σ : ST) (x1 : Int32) (k0 : Int32) : Option (Int32 × ST) :=
  some (k0, σ)
set_option maxRecDepth 20000 in
set_option maxHeartbeats 2000000 in
theorem tE_X3_cellOf_26 {adr : Nat → Nat} {cI cZ cS : ClassId} {tL tH : Nat} {X : zX} {q : Int32 × ST} (B : zC X 2 (wdE adr cI cZ cS tL tH) cX3_cellOf RX3 (some .int) { frames := 0, cells := 0, slots := 0, locals := 0 }) (N : Nat) (σ : ST) (x1 : Int32) (k0 : Int32) (hf : mE_X3_cellOf_26 N σ x1 k0 = some q) : zJ X 2 (wdE adr cI cZ cS tL tH) (zi q) 26 [(0, .ref (adr 18)), (1, .int x1)] [.int k0] σ := by
  exact z_ireturn B dX3_cellOf_26 hf
def mE_X3_cellOf_12 (N : Nat) (σ : ST) (x1 : Int32) : Option (Int32 × ST) :=
  mE_X3_cellOf_26 N σ x1 (-1)
set_option maxRecDepth 20000 in
set_option maxHeartbeats 2000000 in
theorem tE_X3_cellOf_12 {adr : Nat → Nat} {cI cZ cS : ClassId} {tL tH : Nat} {X : zX} {q : Int32 × ST} (B : zC X 2 (wdE adr cI cZ cS tL tH) cX3_cellOf RX3 (some .int) { frames := 0, cells := 0, slots := 0, locals := 0 }) (N : Nat) (σ : ST) (x1 : Int32) (hf : mE_X3_cellOf_12 N σ x1 = some q) : zJ X 2 (wdE adr cI cZ cS tL tH) (zi q) 12 [(0, .ref (adr 18)), (1, .int x1)] [] σ := by
  refine z_iconst B (-1) dX3_cellOf_12 zc_iconst_m1 ?_
  refine z_goto B 26 dX3_cellOf_13 (by decide) ?_
  exact tE_X3_cellOf_26 B N σ x1 (-1) hf
def mE_X3_cellOf (N : Nat) (σ : ST) (x1 : Int32) : Option (Int32 × ST) :=
  if (x1 : Int32) < 0 then
    mE_X3_cellOf_12 N σ x1
  else
    zLet (σ 18 4) fun v6 =>
    if (x1 : Int32) < v6 then
      zLet (σ 18 3) fun v17 =>
      zLet ((v17 : Int32) + x1) fun v21 =>
      zRem v21 (400) fun v25 =>
      mE_X3_cellOf_26 N σ x1 v25
    else
      mE_X3_cellOf_12 N σ x1
set_option maxRecDepth 20000 in
set_option maxHeartbeats 2000000 in
theorem cE_X3_cellOf {adr : Nat → Nat} {cI cZ cS : ClassId} {tL tH : Nat} {l : Launch} {D : va_G} {N : Nat} {σ : ST} {x1 : Int32} (q : Int32 × ST) (hf : mE_X3_cellOf N σ x1 = some q) : zM l D (wdE adr cI cZ cS tL tH) yX3_cellOf cX3_cellOf 2 (some .int) ({ frames := 0, cells := 0, slots := 0, locals := 0 }) [.ref (adr 18), .int x1] σ (zi q) := by
  refine zM_of sfE_ok rfl (Nat.le_of_ble_eq_true rfl) [(0, .ref (adr 18)), (1, .int x1)] rfl (fun X hX1 hX2 B => ?_)
  have B : zC X 2 (wdE adr cI cZ cS tL tH) cX3_cellOf RX3 (some .int) { frames := 0, cells := 0, slots := 0, locals := 0 } := B
  refine z_iload_n B dX3_cellOf_0 1 rfl rfl ?_
  refine z_if_lt B 12 dX3_cellOf_1 (by decide) hf (fun hf => ?_) (fun hf => ?_)
  · exact tE_X3_cellOf_12 B N σ x1 hf
  · refine z_iload_n B dX3_cellOf_4 1 rfl rfl ?_
    refine z_aload_n B dX3_cellOf_5 0 rfl rfl ?_
    refine fE_g_X3_H_length B dX3_cellOf_6 hf (fun v6 hf => ?_)
    refine z_icmp_lt B 16 dX3_cellOf_9 (by decide) hf (fun hf => ?_) (fun hf => ?_)
    · refine z_aload_n B dX3_cellOf_16 0 rfl rfl ?_
      refine fE_g_X3_H_eldest B dX3_cellOf_17 hf (fun v17 hf => ?_)
      refine z_iload_n B dX3_cellOf_20 1 rfl rfl ?_
      refine z_iadd B dX3_cellOf_21 hf (fun v21 hf => ?_)
      refine z_sipush B (400) dX3_cellOf_22 zc_sipush_400 ?_
      refine z_irem B dX3_cellOf_25 hf (fun v25 hf => ?_)
      exact tE_X3_cellOf_26 B N σ x1 v25 hf
    · exact tE_X3_cellOf_12 B N σ x1 hf
theorem dX3_blockAt_0 : decode cX3_blockAt 0 = .ok (.aload_n 0, 1) := by decide +kernel
theorem dX3_blockAt_1 : decode cX3_blockAt 1 = .ok (.iload_n 1, 1) := by decide +kernel
theorem dX3_blockAt_2 : decode cX3_blockAt 2 = .ok (.invokevirtual 28, 3) := by decide +kernel
theorem dX3_blockAt_5 : decode cX3_blockAt 5 = .ok (.istore_n 2, 1) := by decide +kernel
theorem dX3_blockAt_6 : decode cX3_blockAt 6 = .ok (.iload_n 2, 1) := by decide +kernel
theorem dX3_blockAt_7 : decode cX3_blockAt 7 = .ok (.ifCond .ge 7, 3) := by decide +kernel
theorem dX3_blockAt_10 : decode cX3_blockAt 10 = .ok (.iconst (-1), 1) := by decide +kernel
theorem dX3_blockAt_11 : decode cX3_blockAt 11 = .ok (.goto 9, 3) := by decide +kernel
theorem dX3_blockAt_14 : decode cX3_blockAt 14 = .ok (.aload_n 0, 1) := by decide +kernel
theorem dX3_blockAt_15 : decode cX3_blockAt 15 = .ok (.getfield 9, 3) := by decide +kernel
theorem dX3_blockAt_18 : decode cX3_blockAt 18 = .ok (.iload_n 2, 1) := by decide +kernel
theorem dX3_blockAt_19 : decode cX3_blockAt 19 = .ok (.iaload, 1) := by decide +kernel
theorem dX3_blockAt_20 : decode cX3_blockAt 20 = .ok (.ireturn, 1) := by decide +kernel
def mE_X3_blockAt_20 (N : Nat) (σ : ST) (x1 : Int32) (x2 : Int32) (k0 : Int32) : Option (Int32 × ST) :=
  some (k0, σ)
set_option maxRecDepth 20000 in
set_option maxHeartbeats 2000000 in
theorem tE_X3_blockAt_20 {adr : Nat → Nat} {cI cZ cS : ClassId} {tL tH : Nat} {X : zX} {q : Int32 × ST} (B : zC X 3 (wdE adr cI cZ cS tL tH) cX3_blockAt RX3 (some .int) { frames := 1, cells := 0, slots := 0, locals := 21 }) (N : Nat) (σ : ST) (x1 : Int32) (x2 : Int32) (k0 : Int32) (hf : mE_X3_blockAt_20 N σ x1 x2 k0 = some q) : zJ X 3 (wdE adr cI cZ cS tL tH) (zi q) 20 [(0, .ref (adr 18)), (1, .int x1), (2, .int x2)] [.int k0] σ := by
  exact z_ireturn B dX3_blockAt_20 hf
def mE_X3_blockAt (N : Nat) (σ : ST) (x1 : Int32) : Option (Int32 × ST) :=
  zCall (mE_X3_cellOf N σ x1) fun v2 s2 =>
  if (0 : Int32) ≤ v2 then
    zGet (s2 19) 400 v2 fun v19 =>
    mE_X3_blockAt_20 N s2 x1 v2 v19
  else
    mE_X3_blockAt_20 N s2 x1 v2 (-1)
set_option maxRecDepth 20000 in
set_option maxHeartbeats 2000000 in
theorem cE_X3_blockAt {adr : Nat → Nat} {cI cZ cS : ClassId} {tL tH : Nat} {l : Launch} {D : va_G} {N : Nat} {σ : ST} {x1 : Int32} (q : Int32 × ST) (hf : mE_X3_blockAt N σ x1 = some q) : zM l D (wdE adr cI cZ cS tL tH) yX3_blockAt cX3_blockAt 3 (some .int) ({ frames := 1, cells := 0, slots := 0, locals := 21 }) [.ref (adr 18), .int x1] σ (zi q) := by
  refine zM_of sfE_ok rfl (Nat.le_of_ble_eq_true rfl) [(0, .ref (adr 18)), (1, .int x1)] rfl (fun X hX1 hX2 B => ?_)
  have B : zC X 3 (wdE adr cI cZ cS tL tH) cX3_blockAt RX3 (some .int) { frames := 1, cells := 0, slots := 0, locals := 21 } := B
  refine z_aload_n B dX3_blockAt_0 0 rfl rfl ?_
  refine z_iload_n B dX3_blockAt_1 1 rfl rfl ?_
  refine z_callVi B (As := [.int x1]) kcV_X3_28 dX3_blockAt_2 hf (fun q hq => cE_X3_cellOf q hq) (wE_o_H (adr := adr) (cI := cI) (cZ := cZ) (cS := cS) (tL := tL) (tH := tH)) rfl rfl rfl rfl (Nat.le_of_ble_eq_true rfl) rfl rfl ⟨Nat.le_of_ble_eq_true rfl, Nat.le_of_ble_eq_true rfl⟩ (fun v2 s2 hf => ?_)
  refine z_istore_n B [(2, .int v2), (0, .ref (adr 18)), (1, .int x1)] dX3_blockAt_5 rfl (Nat.le_of_ble_eq_true rfl) rfl ?_
  refine z_iload_n B dX3_blockAt_6 0 rfl rfl ?_
  refine z_if_ge B 14 dX3_blockAt_7 (by decide) hf (fun hf => ?_) (fun hf => ?_)
  · refine z_aload_n B dX3_blockAt_14 1 rfl rfl ?_
    refine fE_g_X3_H_blocks B dX3_blockAt_15 ?_
    refine z_iload_n B dX3_blockAt_18 0 rfl rfl ?_
    refine fE_l_H_blocks B dX3_blockAt_19 hf (fun v19 hf => ?_)
    exact z_loc [1, 2, 0] _ rfl (tE_X3_blockAt_20 B N s2 x1 v2 v19 hf)
  · refine z_iconst B (-1) dX3_blockAt_10 zc_iconst_m1 ?_
    refine z_goto B 20 dX3_blockAt_11 (by decide) ?_
    exact z_loc [1, 2, 0] _ rfl (tE_X3_blockAt_20 B N s2 x1 v2 (-1) hf)
theorem dX3_numberAt_0 : decode cX3_numberAt 0 = .ok (.aload_n 0, 1) := by decide +kernel
theorem dX3_numberAt_1 : decode cX3_numberAt 1 = .ok (.iload_n 1, 1) := by decide +kernel
theorem dX3_numberAt_2 : decode cX3_numberAt 2 = .ok (.invokevirtual 28, 3) := by decide +kernel
theorem dX3_numberAt_5 : decode cX3_numberAt 5 = .ok (.istore_n 2, 1) := by decide +kernel
theorem dX3_numberAt_6 : decode cX3_numberAt 6 = .ok (.iload_n 2, 1) := by decide +kernel
theorem dX3_numberAt_7 : decode cX3_numberAt 7 = .ok (.ifCond .ge 7, 3) := by decide +kernel
theorem dX3_numberAt_10 : decode cX3_numberAt 10 = .ok (.iconst (-1), 1) := by decide +kernel
theorem dX3_numberAt_11 : decode cX3_numberAt 11 = .ok (.goto 9, 3) := by decide +kernel
theorem dX3_numberAt_14 : decode cX3_numberAt 14 = .ok (.aload_n 0, 1) := by decide +kernel
theorem dX3_numberAt_15 : decode cX3_numberAt 15 = .ok (.getfield 15, 3) := by decide +kernel
theorem dX3_numberAt_18 : decode cX3_numberAt 18 = .ok (.iload_n 2, 1) := by decide +kernel
theorem dX3_numberAt_19 : decode cX3_numberAt 19 = .ok (.iaload, 1) := by decide +kernel
theorem dX3_numberAt_20 : decode cX3_numberAt 20 = .ok (.ireturn, 1) := by decide +kernel
def mE_X3_numberAt_20 (N : Nat) (σ : ST) (x1 : Int32) (x2 : Int32) (k0 : Int32) : Option (Int32 × ST) :=
  some (k0, σ)
set_option maxRecDepth 20000 in
set_option maxHeartbeats 2000000 in
theorem tE_X3_numberAt_20 {adr : Nat → Nat} {cI cZ cS : ClassId} {tL tH : Nat} {X : zX} {q : Int32 × ST} (B : zC X 3 (wdE adr cI cZ cS tL tH) cX3_numberAt RX3 (some .int) { frames := 1, cells := 0, slots := 0, locals := 21 }) (N : Nat) (σ : ST) (x1 : Int32) (x2 : Int32) (k0 : Int32) (hf : mE_X3_numberAt_20 N σ x1 x2 k0 = some q) : zJ X 3 (wdE adr cI cZ cS tL tH) (zi q) 20 [(0, .ref (adr 18)), (1, .int x1), (2, .int x2)] [.int k0] σ := by
  exact z_ireturn B dX3_numberAt_20 hf
def mE_X3_numberAt (N : Nat) (σ : ST) (x1 : Int32) : Option (Int32 × ST) :=
  zCall (mE_X3_cellOf N σ x1) fun v2 s2 =>
  if (0 : Int32) ≤ v2 then
    zGet (s2 20) 400 v2 fun v19 =>
    mE_X3_numberAt_20 N s2 x1 v2 v19
  else
    mE_X3_numberAt_20 N s2 x1 v2 (-1)
set_option maxRecDepth 20000 in
set_option maxHeartbeats 2000000 in
theorem cE_X3_numberAt {adr : Nat → Nat} {cI cZ cS : ClassId} {tL tH : Nat} {l : Launch} {D : va_G} {N : Nat} {σ : ST} {x1 : Int32} (q : Int32 × ST) (hf : mE_X3_numberAt N σ x1 = some q) : zM l D (wdE adr cI cZ cS tL tH) yX3_numberAt cX3_numberAt 3 (some .int) ({ frames := 1, cells := 0, slots := 0, locals := 21 }) [.ref (adr 18), .int x1] σ (zi q) := by
  refine zM_of sfE_ok rfl (Nat.le_of_ble_eq_true rfl) [(0, .ref (adr 18)), (1, .int x1)] rfl (fun X hX1 hX2 B => ?_)
  have B : zC X 3 (wdE adr cI cZ cS tL tH) cX3_numberAt RX3 (some .int) { frames := 1, cells := 0, slots := 0, locals := 21 } := B
  refine z_aload_n B dX3_numberAt_0 0 rfl rfl ?_
  refine z_iload_n B dX3_numberAt_1 1 rfl rfl ?_
  refine z_callVi B (As := [.int x1]) kcV_X3_28 dX3_numberAt_2 hf (fun q hq => cE_X3_cellOf q hq) (wE_o_H (adr := adr) (cI := cI) (cZ := cZ) (cS := cS) (tL := tL) (tH := tH)) rfl rfl rfl rfl (Nat.le_of_ble_eq_true rfl) rfl rfl ⟨Nat.le_of_ble_eq_true rfl, Nat.le_of_ble_eq_true rfl⟩ (fun v2 s2 hf => ?_)
  refine z_istore_n B [(2, .int v2), (0, .ref (adr 18)), (1, .int x1)] dX3_numberAt_5 rfl (Nat.le_of_ble_eq_true rfl) rfl ?_
  refine z_iload_n B dX3_numberAt_6 0 rfl rfl ?_
  refine z_if_ge B 14 dX3_numberAt_7 (by decide) hf (fun hf => ?_) (fun hf => ?_)
  · refine z_aload_n B dX3_numberAt_14 1 rfl rfl ?_
    refine fE_g_X3_H_numbers B dX3_numberAt_15 ?_
    refine z_iload_n B dX3_numberAt_18 0 rfl rfl ?_
    refine fE_l_H_numbers B dX3_numberAt_19 hf (fun v19 hf => ?_)
    exact z_loc [1, 2, 0] _ rfl (tE_X3_numberAt_20 B N s2 x1 v2 v19 hf)
  · refine z_iconst B (-1) dX3_numberAt_10 zc_iconst_m1 ?_
    refine z_goto B 20 dX3_numberAt_11 (by decide) ?_
    exact z_loc [1, 2, 0] _ rfl (tE_X3_numberAt_20 B N s2 x1 v2 (-1) hf)
theorem dX3_kindAt_0 : decode cX3_kindAt 0 = .ok (.aload_n 0, 1) := by decide +kernel
theorem dX3_kindAt_1 : decode cX3_kindAt 1 = .ok (.iload_n 1, 1) := by decide +kernel
theorem dX3_kindAt_2 : decode cX3_kindAt 2 = .ok (.invokevirtual 28, 3) := by decide +kernel
theorem dX3_kindAt_5 : decode cX3_kindAt 5 = .ok (.istore_n 2, 1) := by decide +kernel
theorem dX3_kindAt_6 : decode cX3_kindAt 6 = .ok (.iload_n 2, 1) := by decide +kernel
theorem dX3_kindAt_7 : decode cX3_kindAt 7 = .ok (.ifCond .ge 7, 3) := by decide +kernel
theorem dX3_kindAt_10 : decode cX3_kindAt 10 = .ok (.iconst (-1), 1) := by decide +kernel
theorem dX3_kindAt_11 : decode cX3_kindAt 11 = .ok (.goto 9, 3) := by decide +kernel
theorem dX3_kindAt_14 : decode cX3_kindAt 14 = .ok (.aload_n 0, 1) := by decide +kernel
theorem dX3_kindAt_15 : decode cX3_kindAt 15 = .ok (.getfield 18, 3) := by decide +kernel
theorem dX3_kindAt_18 : decode cX3_kindAt 18 = .ok (.iload_n 2, 1) := by decide +kernel
theorem dX3_kindAt_19 : decode cX3_kindAt 19 = .ok (.iaload, 1) := by decide +kernel
theorem dX3_kindAt_20 : decode cX3_kindAt 20 = .ok (.ireturn, 1) := by decide +kernel
def mE_X3_kindAt_20 (N : Nat) (σ : ST) (x1 : Int32) (x2 : Int32) (k0 : Int32) : Option (Int32 × ST) :=
  some (k0, σ)
set_option maxRecDepth 20000 in
set_option maxHeartbeats 2000000 in
theorem tE_X3_kindAt_20 {adr : Nat → Nat} {cI cZ cS : ClassId} {tL tH : Nat} {X : zX} {q : Int32 × ST} (B : zC X 3 (wdE adr cI cZ cS tL tH) cX3_kindAt RX3 (some .int) { frames := 1, cells := 0, slots := 0, locals := 21 }) (N : Nat) (σ : ST) (x1 : Int32) (x2 : Int32) (k0 : Int32) (hf : mE_X3_kindAt_20 N σ x1 x2 k0 = some q) : zJ X 3 (wdE adr cI cZ cS tL tH) (zi q) 20 [(0, .ref (adr 18)), (1, .int x1), (2, .int x2)] [.int k0] σ := by
  exact z_ireturn B dX3_kindAt_20 hf
def mE_X3_kindAt (N : Nat) (σ : ST) (x1 : Int32) : Option (Int32 × ST) :=
  zCall (mE_X3_cellOf N σ x1) fun v2 s2 =>
  if (0 : Int32) ≤ v2 then
    zGet (s2 21) 400 v2 fun v19 =>
    mE_X3_kindAt_20 N s2 x1 v2 v19
  else
    mE_X3_kindAt_20 N s2 x1 v2 (-1)
set_option maxRecDepth 20000 in
set_option maxHeartbeats 2000000 in
theorem cE_X3_kindAt {adr : Nat → Nat} {cI cZ cS : ClassId} {tL tH : Nat} {l : Launch} {D : va_G} {N : Nat} {σ : ST} {x1 : Int32} (q : Int32 × ST) (hf : mE_X3_kindAt N σ x1 = some q) : zM l D (wdE adr cI cZ cS tL tH) yX3_kindAt cX3_kindAt 3 (some .int) ({ frames := 1, cells := 0, slots := 0, locals := 21 }) [.ref (adr 18), .int x1] σ (zi q) := by
  refine zM_of sfE_ok rfl (Nat.le_of_ble_eq_true rfl) [(0, .ref (adr 18)), (1, .int x1)] rfl (fun X hX1 hX2 B => ?_)
  have B : zC X 3 (wdE adr cI cZ cS tL tH) cX3_kindAt RX3 (some .int) { frames := 1, cells := 0, slots := 0, locals := 21 } := B
  refine z_aload_n B dX3_kindAt_0 0 rfl rfl ?_
  refine z_iload_n B dX3_kindAt_1 1 rfl rfl ?_
  refine z_callVi B (As := [.int x1]) kcV_X3_28 dX3_kindAt_2 hf (fun q hq => cE_X3_cellOf q hq) (wE_o_H (adr := adr) (cI := cI) (cZ := cZ) (cS := cS) (tL := tL) (tH := tH)) rfl rfl rfl rfl (Nat.le_of_ble_eq_true rfl) rfl rfl ⟨Nat.le_of_ble_eq_true rfl, Nat.le_of_ble_eq_true rfl⟩ (fun v2 s2 hf => ?_)
  refine z_istore_n B [(2, .int v2), (0, .ref (adr 18)), (1, .int x1)] dX3_kindAt_5 rfl (Nat.le_of_ble_eq_true rfl) rfl ?_
  refine z_iload_n B dX3_kindAt_6 0 rfl rfl ?_
  refine z_if_ge B 14 dX3_kindAt_7 (by decide) hf (fun hf => ?_) (fun hf => ?_)
  · refine z_aload_n B dX3_kindAt_14 1 rfl rfl ?_
    refine fE_g_X3_H_kinds B dX3_kindAt_15 ?_
    refine z_iload_n B dX3_kindAt_18 0 rfl rfl ?_
    refine fE_l_H_kinds B dX3_kindAt_19 hf (fun v19 hf => ?_)
    exact z_loc [1, 2, 0] _ rfl (tE_X3_kindAt_20 B N s2 x1 v2 v19 hf)
  · refine z_iconst B (-1) dX3_kindAt_10 zc_iconst_m1 ?_
    refine z_goto B 20 dX3_kindAt_11 (by decide) ?_
    exact z_loc [1, 2, 0] _ rfl (tE_X3_kindAt_20 B N s2 x1 v2 (-1) hf)
theorem dX3_fromLatest_0 : decode cX3_fromLatest 0 = .ok (.iload_n 1, 1) := by decide +kernel
theorem dX3_fromLatest_1 : decode cX3_fromLatest 1 = .ok (.ifCond .lt 11, 3) := by decide +kernel
theorem dX3_fromLatest_4 : decode cX3_fromLatest 4 = .ok (.iload_n 1, 1) := by decide +kernel
theorem dX3_fromLatest_5 : decode cX3_fromLatest 5 = .ok (.aload_n 0, 1) := by decide +kernel
theorem dX3_fromLatest_6 : decode cX3_fromLatest 6 = .ok (.getfield 25, 3) := by decide +kernel
theorem dX3_fromLatest_9 : decode cX3_fromLatest 9 = .ok (.if_icmp .lt 7, 3) := by decide +kernel
theorem dX3_fromLatest_12 : decode cX3_fromLatest 12 = .ok (.iconst (-1), 1) := by decide +kernel
theorem dX3_fromLatest_13 : decode cX3_fromLatest 13 = .ok (.goto 11, 3) := by decide +kernel
theorem dX3_fromLatest_16 : decode cX3_fromLatest 16 = .ok (.aload_n 0, 1) := by decide +kernel
theorem dX3_fromLatest_17 : decode cX3_fromLatest 17 = .ok (.getfield 25, 3) := by decide +kernel
theorem dX3_fromLatest_20 : decode cX3_fromLatest 20 = .ok (.iconst 1, 1) := by decide +kernel
theorem dX3_fromLatest_21 : decode cX3_fromLatest 21 = .ok (.isub, 1) := by decide +kernel
theorem dX3_fromLatest_22 : decode cX3_fromLatest 22 = .ok (.iload_n 1, 1) := by decide +kernel
theorem dX3_fromLatest_23 : decode cX3_fromLatest 23 = .ok (.isub, 1) := by decide +kernel
theorem dX3_fromLatest_24 : decode cX3_fromLatest 24 = .ok (.ireturn, 1) := by decide +kernel
def mE_X3_fromLatest_24 (N : Nat) (σ : ST) (x1 : Int32) (k0 : Int32) : Option (Int32 × ST) :=
  some (k0, σ)
set_option maxRecDepth 20000 in
set_option maxHeartbeats 2000000 in
theorem tE_X3_fromLatest_24 {adr : Nat → Nat} {cI cZ cS : ClassId} {tL tH : Nat} {X : zX} {q : Int32 × ST} (B : zC X 2 (wdE adr cI cZ cS tL tH) cX3_fromLatest RX3 (some .int) { frames := 0, cells := 0, slots := 0, locals := 0 }) (N : Nat) (σ : ST) (x1 : Int32) (k0 : Int32) (hf : mE_X3_fromLatest_24 N σ x1 k0 = some q) : zJ X 2 (wdE adr cI cZ cS tL tH) (zi q) 24 [(0, .ref (adr 18)), (1, .int x1)] [.int k0] σ := by
  exact z_ireturn B dX3_fromLatest_24 hf
def mE_X3_fromLatest_12 (N : Nat) (σ : ST) (x1 : Int32) : Option (Int32 × ST) :=
  mE_X3_fromLatest_24 N σ x1 (-1)
set_option maxRecDepth 20000 in
set_option maxHeartbeats 2000000 in
theorem tE_X3_fromLatest_12 {adr : Nat → Nat} {cI cZ cS : ClassId} {tL tH : Nat} {X : zX} {q : Int32 × ST} (B : zC X 2 (wdE adr cI cZ cS tL tH) cX3_fromLatest RX3 (some .int) { frames := 0, cells := 0, slots := 0, locals := 0 }) (N : Nat) (σ : ST) (x1 : Int32) (hf : mE_X3_fromLatest_12 N σ x1 = some q) : zJ X 2 (wdE adr cI cZ cS tL tH) (zi q) 12 [(0, .ref (adr 18)), (1, .int x1)] [] σ := by
  refine z_iconst B (-1) dX3_fromLatest_12 zc_iconst_m1 ?_
  refine z_goto B 24 dX3_fromLatest_13 (by decide) ?_
  exact tE_X3_fromLatest_24 B N σ x1 (-1) hf
def mE_X3_fromLatest (N : Nat) (σ : ST) (x1 : Int32) : Option (Int32 × ST) :=
  if (x1 : Int32) < 0 then
    mE_X3_fromLatest_12 N σ x1
  else
    zLet (σ 18 4) fun v6 =>
    if (x1 : Int32) < v6 then
      zLet (σ 18 4) fun v17 =>
      zLet ((v17 : Int32) - (1)) fun v21 =>
      zLet ((v21 : Int32) - x1) fun v23 =>
      mE_X3_fromLatest_24 N σ x1 v23
    else
      mE_X3_fromLatest_12 N σ x1
set_option maxRecDepth 20000 in
set_option maxHeartbeats 2000000 in
theorem cE_X3_fromLatest {adr : Nat → Nat} {cI cZ cS : ClassId} {tL tH : Nat} {l : Launch} {D : va_G} {N : Nat} {σ : ST} {x1 : Int32} (q : Int32 × ST) (hf : mE_X3_fromLatest N σ x1 = some q) : zM l D (wdE adr cI cZ cS tL tH) yX3_fromLatest cX3_fromLatest 2 (some .int) ({ frames := 0, cells := 0, slots := 0, locals := 0 }) [.ref (adr 18), .int x1] σ (zi q) := by
  refine zM_of sfE_ok rfl (Nat.le_of_ble_eq_true rfl) [(0, .ref (adr 18)), (1, .int x1)] rfl (fun X hX1 hX2 B => ?_)
  have B : zC X 2 (wdE adr cI cZ cS tL tH) cX3_fromLatest RX3 (some .int) { frames := 0, cells := 0, slots := 0, locals := 0 } := B
  refine z_iload_n B dX3_fromLatest_0 1 rfl rfl ?_
  refine z_if_lt B 12 dX3_fromLatest_1 (by decide) hf (fun hf => ?_) (fun hf => ?_)
  · exact tE_X3_fromLatest_12 B N σ x1 hf
  · refine z_iload_n B dX3_fromLatest_4 1 rfl rfl ?_
    refine z_aload_n B dX3_fromLatest_5 0 rfl rfl ?_
    refine fE_g_X3_H_length B dX3_fromLatest_6 hf (fun v6 hf => ?_)
    refine z_icmp_lt B 16 dX3_fromLatest_9 (by decide) hf (fun hf => ?_) (fun hf => ?_)
    · refine z_aload_n B dX3_fromLatest_16 0 rfl rfl ?_
      refine fE_g_X3_H_length B dX3_fromLatest_17 hf (fun v17 hf => ?_)
      refine z_iconst B (1) dX3_fromLatest_20 zc_iconst_1 ?_
      refine z_isub B dX3_fromLatest_21 hf (fun v21 hf => ?_)
      refine z_iload_n B dX3_fromLatest_22 1 rfl rfl ?_
      refine z_isub B dX3_fromLatest_23 hf (fun v23 hf => ?_)
      exact tE_X3_fromLatest_24 B N σ x1 v23 hf
    · exact tE_X3_fromLatest_12 B N σ x1 hf
theorem dX6_tell_0 : decode cX6_tell 0 = .ok (.iload_n 1, 1) := by decide +kernel
theorem dX6_tell_1 : decode cX6_tell 1 = .ok (.ifCond .lt 20, 3) := by decide +kernel
theorem dX6_tell_4 : decode cX6_tell 4 = .ok (.iload_n 1, 1) := by decide +kernel
theorem dX6_tell_5 : decode cX6_tell 5 = .ok (.aload_n 0, 1) := by decide +kernel
theorem dX6_tell_6 : decode cX6_tell 6 = .ok (.getfield 19, 3) := by decide +kernel
theorem dX6_tell_9 : decode cX6_tell 9 = .ok (.if_icmp .ge 12, 3) := by decide +kernel
theorem dX6_tell_12 : decode cX6_tell 12 = .ok (.iload_n 2, 1) := by decide +kernel
theorem dX6_tell_13 : decode cX6_tell 13 = .ok (.ifCond .lt 8, 3) := by decide +kernel
theorem dX6_tell_16 : decode cX6_tell 16 = .ok (.iload_n 2, 1) := by decide +kernel
theorem dX6_tell_17 : decode cX6_tell 17 = .ok (.iconst 4, 1) := by decide +kernel
theorem dX6_tell_18 : decode cX6_tell 18 = .ok (.if_icmp .lt 5, 3) := by decide +kernel
theorem dX6_tell_21 : decode cX6_tell 21 = .ok (.iconst (-1), 1) := by decide +kernel
theorem dX6_tell_22 : decode cX6_tell 22 = .ok (.ireturn, 1) := by decide +kernel
theorem dX6_tell_23 : decode cX6_tell 23 = .ok (.aload_n 0, 1) := by decide +kernel
theorem dX6_tell_24 : decode cX6_tell 24 = .ok (.getfield 15, 3) := by decide +kernel
theorem dX6_tell_27 : decode cX6_tell 27 = .ok (.bipush 40, 2) := by decide +kernel
theorem dX6_tell_29 : decode cX6_tell 29 = .ok (.iadd, 1) := by decide +kernel
theorem dX6_tell_30 : decode cX6_tell 30 = .ok (.iconst 1, 1) := by decide +kernel
theorem dX6_tell_31 : decode cX6_tell 31 = .ok (.isub, 1) := by decide +kernel
theorem dX6_tell_32 : decode cX6_tell 32 = .ok (.iload_n 1, 1) := by decide +kernel
theorem dX6_tell_33 : decode cX6_tell 33 = .ok (.isub, 1) := by decide +kernel
theorem dX6_tell_34 : decode cX6_tell 34 = .ok (.bipush 40, 2) := by decide +kernel
theorem dX6_tell_36 : decode cX6_tell 36 = .ok (.irem, 1) := by decide +kernel
theorem dX6_tell_37 : decode cX6_tell 37 = .ok (.iconst 4, 1) := by decide +kernel
theorem dX6_tell_38 : decode cX6_tell 38 = .ok (.imul, 1) := by decide +kernel
theorem dX6_tell_39 : decode cX6_tell 39 = .ok (.iload_n 2, 1) := by decide +kernel
theorem dX6_tell_40 : decode cX6_tell 40 = .ok (.iadd, 1) := by decide +kernel
theorem dX6_tell_41 : decode cX6_tell 41 = .ok (.istore_n 3, 1) := by decide +kernel
theorem dX6_tell_42 : decode cX6_tell 42 = .ok (.iload_n 3, 1) := by decide +kernel
theorem dX6_tell_43 : decode cX6_tell 43 = .ok (.ifCond .lt 12, 3) := by decide +kernel
theorem dX6_tell_46 : decode cX6_tell 46 = .ok (.iload_n 3, 1) := by decide +kernel
theorem dX6_tell_47 : decode cX6_tell 47 = .ok (.aload_n 0, 1) := by decide +kernel
theorem dX6_tell_48 : decode cX6_tell 48 = .ok (.getfield 9, 3) := by decide +kernel
theorem dX6_tell_51 : decode cX6_tell 51 = .ok (.arraylength, 1) := by decide +kernel
theorem dX6_tell_52 : decode cX6_tell 52 = .ok (.if_icmp .lt 7, 3) := by decide +kernel
theorem dX6_tell_55 : decode cX6_tell 55 = .ok (.iconst (-1), 1) := by decide +kernel
theorem dX6_tell_56 : decode cX6_tell 56 = .ok (.goto 9, 3) := by decide +kernel
theorem dX6_tell_59 : decode cX6_tell 59 = .ok (.aload_n 0, 1) := by decide +kernel
theorem dX6_tell_60 : decode cX6_tell 60 = .ok (.getfield 9, 3) := by decide +kernel
theorem dX6_tell_63 : decode cX6_tell 63 = .ok (.iload_n 3, 1) := by decide +kernel
theorem dX6_tell_64 : decode cX6_tell 64 = .ok (.iaload, 1) := by decide +kernel
theorem dX6_tell_65 : decode cX6_tell 65 = .ok (.ireturn, 1) := by decide +kernel
def mE_X6_tell_65 (N : Nat) (σ : ST) (x1 : Int32) (x2 : Int32) (x3 : Int32) (k0 : Int32) : Option (Int32 × ST) :=
  some (k0, σ)
set_option maxRecDepth 20000 in
set_option maxHeartbeats 2000000 in
theorem tE_X6_tell_65 {adr : Nat → Nat} {cI cZ cS : ClassId} {tL tH : Nat} {X : zX} {q : Int32 × ST} (B : zC X 4 (wdE adr cI cZ cS tL tH) cX6_tell RX6 (some .int) { frames := 0, cells := 0, slots := 0, locals := 0 }) (N : Nat) (σ : ST) (x1 : Int32) (x2 : Int32) (x3 : Int32) (k0 : Int32) (hf : mE_X6_tell_65 N σ x1 x2 x3 k0 = some q) : zJ X 4 (wdE adr cI cZ cS tL tH) (zi q) 65 [(0, .ref (adr 22)), (1, .int x1), (2, .int x2), (3, .int x3)] [.int k0] σ := by
  exact z_ireturn B dX6_tell_65 hf
def mE_X6_tell_55 (N : Nat) (σ : ST) (x1 : Int32) (x2 : Int32) (x3 : Int32) : Option (Int32 × ST) :=
  mE_X6_tell_65 N σ x1 x2 x3 (-1)
set_option maxRecDepth 20000 in
set_option maxHeartbeats 2000000 in
theorem tE_X6_tell_55 {adr : Nat → Nat} {cI cZ cS : ClassId} {tL tH : Nat} {X : zX} {q : Int32 × ST} (B : zC X 4 (wdE adr cI cZ cS tL tH) cX6_tell RX6 (some .int) { frames := 0, cells := 0, slots := 0, locals := 0 }) (N : Nat) (σ : ST) (x1 : Int32) (x2 : Int32) (x3 : Int32) (hf : mE_X6_tell_55 N σ x1 x2 x3 = some q) : zJ X 4 (wdE adr cI cZ cS tL tH) (zi q) 55 [(0, .ref (adr 22)), (1, .int x1), (2, .int x2), (3, .int x3)] [] σ := by
  refine z_iconst B (-1) dX6_tell_55 zc_iconst_m1 ?_
  refine z_goto B 65 dX6_tell_56 (by decide) ?_
  exact tE_X6_tell_65 B N σ x1 x2 x3 (-1) hf
def mE_X6_tell_21 (N : Nat) (σ : ST) (x1 : Int32) (x2 : Int32) : Option (Int32 × ST) :=
  some ((-1), σ)
set_option maxRecDepth 20000 in
set_option maxHeartbeats 2000000 in
theorem tE_X6_tell_21 {adr : Nat → Nat} {cI cZ cS : ClassId} {tL tH : Nat} {X : zX} {q : Int32 × ST} (B : zC X 4 (wdE adr cI cZ cS tL tH) cX6_tell RX6 (some .int) { frames := 0, cells := 0, slots := 0, locals := 0 }) (N : Nat) (σ : ST) (x1 : Int32) (x2 : Int32) (hf : mE_X6_tell_21 N σ x1 x2 = some q) : zJ X 4 (wdE adr cI cZ cS tL tH) (zi q) 21 [(0, .ref (adr 22)), (1, .int x1), (2, .int x2)] [] σ := by
  refine z_iconst B (-1) dX6_tell_21 zc_iconst_m1 ?_
  exact z_ireturn B dX6_tell_22 hf
def mE_X6_tell (N : Nat) (σ : ST) (x1 : Int32) (x2 : Int32) : Option (Int32 × ST) :=
  if (x1 : Int32) < 0 then
    mE_X6_tell_21 N σ x1 x2
  else
    zLet (σ 22 2) fun v6 =>
    if (v6 : Int32) ≤ x1 then
      mE_X6_tell_21 N σ x1 x2
    else
      if (x2 : Int32) < 0 then
        mE_X6_tell_21 N σ x1 x2
      else
        if (x2 : Int32) < (4) then
          zLet (σ 22 1) fun v24 =>
          zLet ((v24 : Int32) + (40)) fun v29 =>
          zLet ((v29 : Int32) - (1)) fun v31 =>
          zLet ((v31 : Int32) - x1) fun v33 =>
          zRem v33 (40) fun v36 =>
          zLet ((v36 : Int32) * (4)) fun v38 =>
          zLet ((v38 : Int32) + x2) fun v40 =>
          if (v40 : Int32) < 0 then
            mE_X6_tell_55 N σ x1 x2 v40
          else
            if (v40 : Int32) < (160) then
              zGet (σ 23) 160 v40 fun v64 =>
              mE_X6_tell_65 N σ x1 x2 v40 v64
            else
              mE_X6_tell_55 N σ x1 x2 v40
        else
          mE_X6_tell_21 N σ x1 x2
set_option maxRecDepth 20000 in
set_option maxHeartbeats 2000000 in
theorem cE_X6_tell {adr : Nat → Nat} {cI cZ cS : ClassId} {tL tH : Nat} {l : Launch} {D : va_G} {N : Nat} {σ : ST} {x1 : Int32} {x2 : Int32} (q : Int32 × ST) (hf : mE_X6_tell N σ x1 x2 = some q) : zM l D (wdE adr cI cZ cS tL tH) yX6_tell cX6_tell 4 (some .int) ({ frames := 0, cells := 0, slots := 0, locals := 0 }) [.ref (adr 22), .int x1, .int x2] σ (zi q) := by
  refine zM_of sfE_ok rfl (Nat.le_of_ble_eq_true rfl) [(0, .ref (adr 22)), (1, .int x1), (2, .int x2)] rfl (fun X hX1 hX2 B => ?_)
  have B : zC X 4 (wdE adr cI cZ cS tL tH) cX6_tell RX6 (some .int) { frames := 0, cells := 0, slots := 0, locals := 0 } := B
  refine z_iload_n B dX6_tell_0 1 rfl rfl ?_
  refine z_if_lt B 21 dX6_tell_1 (by decide) hf (fun hf => ?_) (fun hf => ?_)
  · exact tE_X6_tell_21 B N σ x1 x2 hf
  · refine z_iload_n B dX6_tell_4 1 rfl rfl ?_
    refine z_aload_n B dX6_tell_5 0 rfl rfl ?_
    refine fE_g_X6_G_length B dX6_tell_6 hf (fun v6 hf => ?_)
    refine z_icmp_ge B 21 dX6_tell_9 (by decide) hf (fun hf => ?_) (fun hf => ?_)
    · exact tE_X6_tell_21 B N σ x1 x2 hf
    · refine z_iload_n B dX6_tell_12 2 rfl rfl ?_
      refine z_if_lt B 21 dX6_tell_13 (by decide) hf (fun hf => ?_) (fun hf => ?_)
      · exact tE_X6_tell_21 B N σ x1 x2 hf
      · refine z_iload_n B dX6_tell_16 2 rfl rfl ?_
        refine z_iconst B (4) dX6_tell_17 zc_iconst_4 ?_
        refine z_icmp_lt B 23 dX6_tell_18 (by decide) hf (fun hf => ?_) (fun hf => ?_)
        · refine z_aload_n B dX6_tell_23 0 rfl rfl ?_
          refine fE_g_X6_G_next B dX6_tell_24 hf (fun v24 hf => ?_)
          refine z_bipush B (40) dX6_tell_27 zc_bipush_40 ?_
          refine z_iadd B dX6_tell_29 hf (fun v29 hf => ?_)
          refine z_iconst B (1) dX6_tell_30 zc_iconst_1 ?_
          refine z_isub B dX6_tell_31 hf (fun v31 hf => ?_)
          refine z_iload_n B dX6_tell_32 1 rfl rfl ?_
          refine z_isub B dX6_tell_33 hf (fun v33 hf => ?_)
          refine z_bipush B (40) dX6_tell_34 zc_bipush_40 ?_
          refine z_irem B dX6_tell_36 hf (fun v36 hf => ?_)
          refine z_iconst B (4) dX6_tell_37 zc_iconst_4 ?_
          refine z_imul B dX6_tell_38 hf (fun v38 hf => ?_)
          refine z_iload_n B dX6_tell_39 2 rfl rfl ?_
          refine z_iadd B dX6_tell_40 hf (fun v40 hf => ?_)
          refine z_istore_n B [(3, .int v40), (0, .ref (adr 22)), (1, .int x1), (2, .int x2)] dX6_tell_41 rfl (Nat.le_of_ble_eq_true rfl) rfl ?_
          refine z_iload_n B dX6_tell_42 0 rfl rfl ?_
          refine z_if_lt B 55 dX6_tell_43 (by decide) hf (fun hf => ?_) (fun hf => ?_)
          · exact z_loc [1, 2, 3, 0] _ rfl (tE_X6_tell_55 B N σ x1 x2 v40 hf)
          · refine z_iload_n B dX6_tell_46 0 rfl rfl ?_
            refine z_aload_n B dX6_tell_47 1 rfl rfl ?_
            refine fE_g_X6_G_cells B dX6_tell_48 ?_
            refine z_alen B (t0 := 0) (160) wE_g_G_cells rfl (show Int32.ofNat 160 = 160 by decide) dX6_tell_51 ?_
            refine z_icmp_lt B 59 dX6_tell_52 (by decide) hf (fun hf => ?_) (fun hf => ?_)
            · refine z_aload_n B dX6_tell_59 1 rfl rfl ?_
              refine fE_g_X6_G_cells B dX6_tell_60 ?_
              refine z_iload_n B dX6_tell_63 0 rfl rfl ?_
              refine fE_l_G_cells B dX6_tell_64 hf (fun v64 hf => ?_)
              exact z_loc [1, 2, 3, 0] _ rfl (tE_X6_tell_65 B N σ x1 x2 v40 v64 hf)
            · exact z_loc [1, 2, 3, 0] _ rfl (tE_X6_tell_55 B N σ x1 x2 v40 hf)
        · exact tE_X6_tell_21 B N σ x1 x2 hf
theorem dX0_slotOf_0 : decode cX0_slotOf 0 = .ok (.iload_n 1, 1) := by decide +kernel
theorem dX0_slotOf_1 : decode cX0_slotOf 1 = .ok (.ifCond .lt 10, 3) := by decide +kernel
theorem dX0_slotOf_4 : decode cX0_slotOf 4 = .ok (.iload_n 1, 1) := by decide +kernel
theorem dX0_slotOf_5 : decode cX0_slotOf 5 = .ok (.sipush 10000, 3) := by decide +kernel
theorem dX0_slotOf_8 : decode cX0_slotOf 8 = .ok (.if_icmp .lt 7, 3) := by decide +kernel
theorem dX0_slotOf_11 : decode cX0_slotOf 11 = .ok (.iconst (-1), 1) := by decide +kernel
theorem dX0_slotOf_12 : decode cX0_slotOf 12 = .ok (.goto 11, 3) := by decide +kernel
theorem dX0_slotOf_15 : decode cX0_slotOf 15 = .ok (.aload_n 0, 1) := by decide +kernel
theorem dX0_slotOf_16 : decode cX0_slotOf 16 = .ok (.getfield 31, 3) := by decide +kernel
theorem dX0_slotOf_19 : decode cX0_slotOf 19 = .ok (.iload_n 1, 1) := by decide +kernel
theorem dX0_slotOf_20 : decode cX0_slotOf 20 = .ok (.iaload, 1) := by decide +kernel
theorem dX0_slotOf_21 : decode cX0_slotOf 21 = .ok (.iconst 1, 1) := by decide +kernel
theorem dX0_slotOf_22 : decode cX0_slotOf 22 = .ok (.isub, 1) := by decide +kernel
theorem dX0_slotOf_23 : decode cX0_slotOf 23 = .ok (.ireturn, 1) := by decide +kernel
def mE_X0_slotOf_23 (N : Nat) (σ : ST) (x1 : Int32) (k0 : Int32) : Option (Int32 × ST) :=
  some (k0, σ)
set_option maxRecDepth 20000 in
set_option maxHeartbeats 2000000 in
theorem tE_X0_slotOf_23 {adr : Nat → Nat} {cI cZ cS : ClassId} {tL tH : Nat} {X : zX} {q : Int32 × ST} (B : zC X 2 (wdE adr cI cZ cS tL tH) cX0_slotOf RX0 (some .int) { frames := 0, cells := 0, slots := 0, locals := 0 }) (N : Nat) (σ : ST) (x1 : Int32) (k0 : Int32) (hf : mE_X0_slotOf_23 N σ x1 k0 = some q) : zJ X 2 (wdE adr cI cZ cS tL tH) (zi q) 23 [(0, .ref (adr 3)), (1, .int x1)] [.int k0] σ := by
  exact z_ireturn B dX0_slotOf_23 hf
def mE_X0_slotOf_11 (N : Nat) (σ : ST) (x1 : Int32) : Option (Int32 × ST) :=
  mE_X0_slotOf_23 N σ x1 (-1)
set_option maxRecDepth 20000 in
set_option maxHeartbeats 2000000 in
theorem tE_X0_slotOf_11 {adr : Nat → Nat} {cI cZ cS : ClassId} {tL tH : Nat} {X : zX} {q : Int32 × ST} (B : zC X 2 (wdE adr cI cZ cS tL tH) cX0_slotOf RX0 (some .int) { frames := 0, cells := 0, slots := 0, locals := 0 }) (N : Nat) (σ : ST) (x1 : Int32) (hf : mE_X0_slotOf_11 N σ x1 = some q) : zJ X 2 (wdE adr cI cZ cS tL tH) (zi q) 11 [(0, .ref (adr 3)), (1, .int x1)] [] σ := by
  refine z_iconst B (-1) dX0_slotOf_11 zc_iconst_m1 ?_
  refine z_goto B 23 dX0_slotOf_12 (by decide) ?_
  exact tE_X0_slotOf_23 B N σ x1 (-1) hf
def mE_X0_slotOf (N : Nat) (σ : ST) (x1 : Int32) : Option (Int32 × ST) :=
  if (x1 : Int32) < 0 then
    mE_X0_slotOf_11 N σ x1
  else
    if (x1 : Int32) < (10000) then
      zGet (σ 10) 10000 x1 fun v20 =>
      zLet ((v20 : Int32) - (1)) fun v22 =>
      mE_X0_slotOf_23 N σ x1 v22
    else
      mE_X0_slotOf_11 N σ x1
set_option maxRecDepth 20000 in
set_option maxHeartbeats 2000000 in
theorem cE_X0_slotOf {adr : Nat → Nat} {cI cZ cS : ClassId} {tL tH : Nat} {l : Launch} {D : va_G} {N : Nat} {σ : ST} {x1 : Int32} (q : Int32 × ST) (hf : mE_X0_slotOf N σ x1 = some q) : zM l D (wdE adr cI cZ cS tL tH) yX0_slotOf cX0_slotOf 2 (some .int) ({ frames := 0, cells := 0, slots := 0, locals := 0 }) [.ref (adr 3), .int x1] σ (zi q) := by
  refine zM_of sfE_ok rfl (Nat.le_of_ble_eq_true rfl) [(0, .ref (adr 3)), (1, .int x1)] rfl (fun X hX1 hX2 B => ?_)
  have B : zC X 2 (wdE adr cI cZ cS tL tH) cX0_slotOf RX0 (some .int) { frames := 0, cells := 0, slots := 0, locals := 0 } := B
  refine z_iload_n B dX0_slotOf_0 1 rfl rfl ?_
  refine z_if_lt B 11 dX0_slotOf_1 (by decide) hf (fun hf => ?_) (fun hf => ?_)
  · exact tE_X0_slotOf_11 B N σ x1 hf
  · refine z_iload_n B dX0_slotOf_4 1 rfl rfl ?_
    refine z_sipush B (10000) dX0_slotOf_5 zc_sipush_10000 ?_
    refine z_icmp_lt B 15 dX0_slotOf_8 (by decide) hf (fun hf => ?_) (fun hf => ?_)
    · refine z_aload_n B dX0_slotOf_15 0 rfl rfl ?_
      refine fE_g_X0_C_where B dX0_slotOf_16 ?_
      refine z_iload_n B dX0_slotOf_19 1 rfl rfl ?_
      refine fE_l_C_where B dX0_slotOf_20 hf (fun v20 hf => ?_)
      refine z_iconst B (1) dX0_slotOf_21 zc_iconst_1 ?_
      refine z_isub B dX0_slotOf_22 hf (fun v22 hf => ?_)
      exact tE_X0_slotOf_23 B N σ x1 v22 hf
    · exact tE_X0_slotOf_11 B N σ x1 hf
theorem dX0_isWaitingFor_0 : decode cX0_isWaitingFor 0 = .ok (.iload_n 1, 1) := by decide +kernel
theorem dX0_isWaitingFor_1 : decode cX0_isWaitingFor 1 = .ok (.ifCond .lt 34, 3) := by decide +kernel
theorem dX0_isWaitingFor_4 : decode cX0_isWaitingFor 4 = .ok (.iload_n 1, 1) := by decide +kernel
theorem dX0_isWaitingFor_5 : decode cX0_isWaitingFor 5 = .ok (.aload_n 0, 1) := by decide +kernel
theorem dX0_isWaitingFor_6 : decode cX0_isWaitingFor 6 = .ok (.getfield 34, 3) := by decide +kernel
theorem dX0_isWaitingFor_9 : decode cX0_isWaitingFor 9 = .ok (.if_icmp .ge 26, 3) := by decide +kernel
theorem dX0_isWaitingFor_12 : decode cX0_isWaitingFor 12 = .ok (.aload_n 0, 1) := by decide +kernel
theorem dX0_isWaitingFor_13 : decode cX0_isWaitingFor 13 = .ok (.getfield 27, 3) := by decide +kernel
theorem dX0_isWaitingFor_16 : decode cX0_isWaitingFor 16 = .ok (.iload_n 1, 1) := by decide +kernel
theorem dX0_isWaitingFor_17 : decode cX0_isWaitingFor 17 = .ok (.baload, 1) := by decide +kernel
theorem dX0_isWaitingFor_18 : decode cX0_isWaitingFor 18 = .ok (.ifCond .eq 17, 3) := by decide +kernel
theorem dX0_isWaitingFor_21 : decode cX0_isWaitingFor 21 = .ok (.aload_n 0, 1) := by decide +kernel
theorem dX0_isWaitingFor_22 : decode cX0_isWaitingFor 22 = .ok (.getfield 21, 3) := by decide +kernel
theorem dX0_isWaitingFor_25 : decode cX0_isWaitingFor 25 = .ok (.iload_n 1, 1) := by decide +kernel
theorem dX0_isWaitingFor_26 : decode cX0_isWaitingFor 26 = .ok (.iaload, 1) := by decide +kernel
theorem dX0_isWaitingFor_27 : decode cX0_isWaitingFor 27 = .ok (.iload_n 2, 1) := by decide +kernel
theorem dX0_isWaitingFor_28 : decode cX0_isWaitingFor 28 = .ok (.if_icmp .ne 7, 3) := by decide +kernel
theorem dX0_isWaitingFor_31 : decode cX0_isWaitingFor 31 = .ok (.iconst 1, 1) := by decide +kernel
theorem dX0_isWaitingFor_32 : decode cX0_isWaitingFor 32 = .ok (.goto 4, 3) := by decide +kernel
theorem dX0_isWaitingFor_35 : decode cX0_isWaitingFor 35 = .ok (.iconst 0, 1) := by decide +kernel
theorem dX0_isWaitingFor_36 : decode cX0_isWaitingFor 36 = .ok (.ireturn, 1) := by decide +kernel
def mE_X0_isWaitingFor_36 (N : Nat) (σ : ST) (x1 : Int32) (x2 : Int32) (k0 : Int32) : Option (Int32 × ST) :=
  zBool k0 (some (k0, σ))
set_option maxRecDepth 20000 in
set_option maxHeartbeats 2000000 in
theorem tE_X0_isWaitingFor_36 {adr : Nat → Nat} {cI cZ cS : ClassId} {tL tH : Nat} {X : zX} {q : Int32 × ST} (B : zC X 3 (wdE adr cI cZ cS tL tH) cX0_isWaitingFor RX0 (some .boolean) { frames := 0, cells := 0, slots := 0, locals := 0 }) (N : Nat) (σ : ST) (x1 : Int32) (x2 : Int32) (k0 : Int32) (hf : mE_X0_isWaitingFor_36 N σ x1 x2 k0 = some q) : zJ X 3 (wdE adr cI cZ cS tL tH) (zi q) 36 [(0, .ref (adr 3)), (1, .int x1), (2, .int x2)] [.int k0] σ := by
  exact z_zreturn B dX0_isWaitingFor_36 hf
def mE_X0_isWaitingFor_35 (N : Nat) (σ : ST) (x1 : Int32) (x2 : Int32) : Option (Int32 × ST) :=
  mE_X0_isWaitingFor_36 N σ x1 x2 (0)
set_option maxRecDepth 20000 in
set_option maxHeartbeats 2000000 in
theorem tE_X0_isWaitingFor_35 {adr : Nat → Nat} {cI cZ cS : ClassId} {tL tH : Nat} {X : zX} {q : Int32 × ST} (B : zC X 3 (wdE adr cI cZ cS tL tH) cX0_isWaitingFor RX0 (some .boolean) { frames := 0, cells := 0, slots := 0, locals := 0 }) (N : Nat) (σ : ST) (x1 : Int32) (x2 : Int32) (hf : mE_X0_isWaitingFor_35 N σ x1 x2 = some q) : zJ X 3 (wdE adr cI cZ cS tL tH) (zi q) 35 [(0, .ref (adr 3)), (1, .int x1), (2, .int x2)] [] σ := by
  refine z_iconst B (0) dX0_isWaitingFor_35 zc_iconst_0 ?_
  exact tE_X0_isWaitingFor_36 B N σ x1 x2 (0) hf
def mE_X0_isWaitingFor (N : Nat) (σ : ST) (x1 : Int32) (x2 : Int32) : Option (Int32 × ST) :=
  if (x1 : Int32) < 0 then
    mE_X0_isWaitingFor_35 N σ x1 x2
  else
    zLet (σ 3 7) fun v6 =>
    if (v6 : Int32) ≤ x1 then
      mE_X0_isWaitingFor_35 N σ x1 x2
    else
      zGet (σ 9) 64 x1 fun v17 =>
      if (v17 : Int32) = 0 then
        mE_X0_isWaitingFor_35 N σ x1 x2
      else
        zGet (σ 7) 64 x1 fun v26 =>
        if (v26 : Int32) = x2 then
          mE_X0_isWaitingFor_36 N σ x1 x2 (1)
        else
          mE_X0_isWaitingFor_35 N σ x1 x2
set_option maxRecDepth 20000 in
set_option maxHeartbeats 2000000 in
theorem cE_X0_isWaitingFor {adr : Nat → Nat} {cI cZ cS : ClassId} {tL tH : Nat} {l : Launch} {D : va_G} {N : Nat} {σ : ST} {x1 : Int32} {x2 : Int32} (q : Int32 × ST) (hf : mE_X0_isWaitingFor N σ x1 x2 = some q) : zM l D (wdE adr cI cZ cS tL tH) yX0_isWaitingFor cX0_isWaitingFor 3 (some .boolean) ({ frames := 0, cells := 0, slots := 0, locals := 0 }) [.ref (adr 3), .int x1, .int x2] σ (zi q) := by
  refine zM_of sfE_ok rfl (Nat.le_of_ble_eq_true rfl) [(0, .ref (adr 3)), (1, .int x1), (2, .int x2)] rfl (fun X hX1 hX2 B => ?_)
  have B : zC X 3 (wdE adr cI cZ cS tL tH) cX0_isWaitingFor RX0 (some .boolean) { frames := 0, cells := 0, slots := 0, locals := 0 } := B
  refine z_iload_n B dX0_isWaitingFor_0 1 rfl rfl ?_
  refine z_if_lt B 35 dX0_isWaitingFor_1 (by decide) hf (fun hf => ?_) (fun hf => ?_)
  · exact tE_X0_isWaitingFor_35 B N σ x1 x2 hf
  · refine z_iload_n B dX0_isWaitingFor_4 1 rfl rfl ?_
    refine z_aload_n B dX0_isWaitingFor_5 0 rfl rfl ?_
    refine fE_g_X0_C_size B dX0_isWaitingFor_6 hf (fun v6 hf => ?_)
    refine z_icmp_ge B 35 dX0_isWaitingFor_9 (by decide) hf (fun hf => ?_) (fun hf => ?_)
    · exact tE_X0_isWaitingFor_35 B N σ x1 x2 hf
    · refine z_aload_n B dX0_isWaitingFor_12 0 rfl rfl ?_
      refine fE_g_X0_C_waiting B dX0_isWaitingFor_13 ?_
      refine z_iload_n B dX0_isWaitingFor_16 1 rfl rfl ?_
      refine fE_l_C_waiting B dX0_isWaitingFor_17 hf (fun v17 hf => ?_)
      refine z_if_eq B 35 dX0_isWaitingFor_18 (by decide) hf (fun hf => ?_) (fun hf => ?_)
      · exact tE_X0_isWaitingFor_35 B N σ x1 x2 hf
      · refine z_aload_n B dX0_isWaitingFor_21 0 rfl rfl ?_
        refine fE_g_X0_C_owners B dX0_isWaitingFor_22 ?_
        refine z_iload_n B dX0_isWaitingFor_25 1 rfl rfl ?_
        refine fE_l_C_owners B dX0_isWaitingFor_26 hf (fun v26 hf => ?_)
        refine z_iload_n B dX0_isWaitingFor_27 2 rfl rfl ?_
        refine z_icmp_ne B 35 dX0_isWaitingFor_28 (by decide) hf (fun hf => ?_) (fun hf => ?_)
        · exact tE_X0_isWaitingFor_35 B N σ x1 x2 hf
        · refine z_iconst B (1) dX0_isWaitingFor_31 zc_iconst_1 ?_
          refine z_goto B 36 dX0_isWaitingFor_32 (by decide) ?_
          exact tE_X0_isWaitingFor_36 B N σ x1 x2 (1) hf
theorem dX0_waitingFor_0 : decode cX0_waitingFor 0 = .ok (.iconst 0, 1) := by decide +kernel
theorem dX0_waitingFor_1 : decode cX0_waitingFor 1 = .ok (.istore_n 2, 1) := by decide +kernel
theorem dX0_waitingFor_2 : decode cX0_waitingFor 2 = .ok (.iconst 0, 1) := by decide +kernel
theorem dX0_waitingFor_3 : decode cX0_waitingFor 3 = .ok (.istore_n 3, 1) := by decide +kernel
theorem dX0_waitingFor_4 : decode cX0_waitingFor 4 = .ok (.iload_n 3, 1) := by decide +kernel
theorem dX0_waitingFor_5 : decode cX0_waitingFor 5 = .ok (.aload_n 0, 1) := by decide +kernel
theorem dX0_waitingFor_6 : decode cX0_waitingFor 6 = .ok (.getfield 34, 3) := by decide +kernel
theorem dX0_waitingFor_9 : decode cX0_waitingFor 9 = .ok (.if_icmp .ge 21, 3) := by decide +kernel
theorem dX0_waitingFor_12 : decode cX0_waitingFor 12 = .ok (.aload_n 0, 1) := by decide +kernel
theorem dX0_waitingFor_13 : decode cX0_waitingFor 13 = .ok (.iload_n 3, 1) := by decide +kernel
theorem dX0_waitingFor_14 : decode cX0_waitingFor 14 = .ok (.iload_n 1, 1) := by decide +kernel
theorem dX0_waitingFor_15 : decode cX0_waitingFor 15 = .ok (.invokevirtual 62, 3) := by decide +kernel
theorem dX0_waitingFor_18 : decode cX0_waitingFor 18 = .ok (.ifCond .eq 6, 3) := by decide +kernel
theorem dX0_waitingFor_21 : decode cX0_waitingFor 21 = .ok (.iinc 2 1, 3) := by decide +kernel
theorem dX0_waitingFor_24 : decode cX0_waitingFor 24 = .ok (.iinc 3 1, 3) := by decide +kernel
theorem dX0_waitingFor_27 : decode cX0_waitingFor 27 = .ok (.goto (-23), 3) := by decide +kernel
theorem dX0_waitingFor_30 : decode cX0_waitingFor 30 = .ok (.iload_n 2, 1) := by decide +kernel
theorem dX0_waitingFor_31 : decode cX0_waitingFor 31 = .ok (.ireturn, 1) := by decide +kernel
def mE_X0_waitingFor_24 (N : Nat) (hd4 : ST → Int32 → Int32 → Int32 → Option (Int32 × ST)) (σ : ST) (x1 : Int32) (x2 : Int32) (x3 : Int32) : Option (Int32 × ST) :=
  zLet (x3 + (1)) fun v24 =>
  hd4 σ x1 x2 v24
set_option maxRecDepth 20000 in
set_option maxHeartbeats 2000000 in
theorem tE_X0_waitingFor_24 {adr : Nat → Nat} {cI cZ cS : ClassId} {tL tH : Nat} {X : zX} {q : Int32 × ST} (B : zC X 4 (wdE adr cI cZ cS tL tH) cX0_waitingFor RX0 (some .int) { frames := 1, cells := 0, slots := 0, locals := 22 }) (N : Nat) (hd4 : ST → Int32 → Int32 → Int32 → Option (Int32 × ST)) (hh4 : ∀ (σ : ST) (x1 : Int32) (x2 : Int32) (x3 : Int32), hd4 σ x1 x2 x3 = some q → zJ X 4 (wdE adr cI cZ cS tL tH) (zi q) 4 [(0, .ref (adr 3)), (1, .int x1), (2, .int x2), (3, .int x3)] [] σ) (σ : ST) (x1 : Int32) (x2 : Int32) (x3 : Int32) (hf : mE_X0_waitingFor_24 N hd4 σ x1 x2 x3 = some q) : zJ X 4 (wdE adr cI cZ cS tL tH) (zi q) 24 [(0, .ref (adr 3)), (1, .int x1), (2, .int x2), (3, .int x3)] [] σ := by
  refine z_iinc B (1) 3 (fun v24 => [(3, .int v24), (0, .ref (adr 3)), (1, .int x1), (2, .int x2)]) dX0_waitingFor_24 hf zc_iconst_1 rfl (Nat.le_of_ble_eq_true rfl) (fun _ => rfl) (fun v24 hf => ?_)
  refine z_goto B 4 dX0_waitingFor_27 (by decide) ?_
  exact z_loc [1, 2, 3, 0] _ rfl (hh4 σ x1 x2 v24 hf)
def mE_X0_waitingFor_B4 (N : Nat) (hd4 : ST → Int32 → Int32 → Int32 → Option (Int32 × ST)) (σ : ST) (x1 : Int32) (x2 : Int32) (x3 : Int32) : Option (Int32 × ST) :=
  zLet (σ 3 7) fun v6 =>
  if (v6 : Int32) ≤ x3 then
    some (x2, σ)
  else
    zCall (mE_X0_isWaitingFor N σ x3 x1) fun v15 s15 =>
    if (v15 : Int32) = 0 then
      mE_X0_waitingFor_24 N hd4 s15 x1 x2 x3
    else
      zLet (x2 + (1)) fun v21 =>
      mE_X0_waitingFor_24 N hd4 s15 x1 v21 x3
def mE_X0_waitingFor_4 (N : Nat) : ST → Int32 → Int32 → Int32 → Option (Int32 × ST) := zIt (mE_X0_waitingFor_B4 N) (fun _ _ _ _ => none) N
set_option maxRecDepth 20000 in
set_option maxHeartbeats 2000000 in
theorem tE_X0_waitingFor_4 {adr : Nat → Nat} {cI cZ cS : ClassId} {tL tH : Nat} {X : zX} {q : Int32 × ST} (B : zC X 4 (wdE adr cI cZ cS tL tH) cX0_waitingFor RX0 (some .int) { frames := 1, cells := 0, slots := 0, locals := 22 }) (N : Nat) : ∀ (σ : ST) (x1 : Int32) (x2 : Int32) (x3 : Int32), mE_X0_waitingFor_4 N σ x1 x2 x3 = some q → zJ X 4 (wdE adr cI cZ cS tL tH) (zi q) 4 [(0, .ref (adr 3)), (1, .int x1), (2, .int x2), (3, .int x3)] [] σ := by
  refine zIt_ind (P := fun (hd : ST → Int32 → Int32 → Int32 → Option (Int32 × ST)) => ∀ (σ : ST) (x1 : Int32) (x2 : Int32) (x3 : Int32), hd σ x1 x2 x3 = some q → zJ X 4 (wdE adr cI cZ cS tL tH) (zi q) 4 [(0, .ref (adr 3)), (1, .int x1), (2, .int x2), (3, .int x3)] [] σ) (fun _ _ _ _ hf => by cases hf) (fun hd4 hh4 => ?_) N
  intro σ x1 x2 x3 hf
  refine z_iload_n B dX0_waitingFor_4 3 rfl rfl ?_
  refine z_aload_n B dX0_waitingFor_5 0 rfl rfl ?_
  refine fE_g_X0_C_size B dX0_waitingFor_6 hf (fun v6 hf => ?_)
  refine z_icmp_ge B 30 dX0_waitingFor_9 (by decide) hf (fun hf => ?_) (fun hf => ?_)
  · refine z_iload_n B dX0_waitingFor_30 2 rfl rfl ?_
    exact z_ireturn B dX0_waitingFor_31 hf
  · refine z_aload_n B dX0_waitingFor_12 0 rfl rfl ?_
    refine z_iload_n B dX0_waitingFor_13 3 rfl rfl ?_
    refine z_iload_n B dX0_waitingFor_14 1 rfl rfl ?_
    refine z_callVi B (As := [.int x3, .int x1]) kcV_X0_62 dX0_waitingFor_15 hf (fun q hq => cE_X0_isWaitingFor q hq) (wE_o_C (adr := adr) (cI := cI) (cZ := cZ) (cS := cS) (tL := tL) (tH := tH)) rfl rfl rfl rfl (Nat.le_of_ble_eq_true rfl) rfl rfl ⟨Nat.le_of_ble_eq_true rfl, Nat.le_of_ble_eq_true rfl⟩ (fun v15 s15 hf => ?_)
    refine z_if_eq B 24 dX0_waitingFor_18 (by decide) hf (fun hf => ?_) (fun hf => ?_)
    · exact tE_X0_waitingFor_24 B N hd4 hh4 s15 x1 x2 x3 hf
    · refine z_iinc B (1) 2 (fun v21 => [(2, .int v21), (0, .ref (adr 3)), (1, .int x1), (3, .int x3)]) dX0_waitingFor_21 hf zc_iconst_1 rfl (Nat.le_of_ble_eq_true rfl) (fun _ => rfl) (fun v21 hf => ?_)
      exact z_loc [1, 2, 0, 3] _ rfl (tE_X0_waitingFor_24 B N hd4 hh4 s15 x1 v21 x3 hf)
def mE_X0_waitingFor (N : Nat) (σ : ST) (x1 : Int32) : Option (Int32 × ST) :=
  mE_X0_waitingFor_4 N σ x1 (0) (0)
set_option maxRecDepth 20000 in
set_option maxHeartbeats 2000000 in
theorem cE_X0_waitingFor {adr : Nat → Nat} {cI cZ cS : ClassId} {tL tH : Nat} {l : Launch} {D : va_G} {N : Nat} {σ : ST} {x1 : Int32} (q : Int32 × ST) (hf : mE_X0_waitingFor N σ x1 = some q) : zM l D (wdE adr cI cZ cS tL tH) yX0_waitingFor cX0_waitingFor 4 (some .int) ({ frames := 1, cells := 0, slots := 0, locals := 22 }) [.ref (adr 3), .int x1] σ (zi q) := by
  refine zM_of sfE_ok rfl (Nat.le_of_ble_eq_true rfl) [(0, .ref (adr 3)), (1, .int x1)] rfl (fun X hX1 hX2 B => ?_)
  have B : zC X 4 (wdE adr cI cZ cS tL tH) cX0_waitingFor RX0 (some .int) { frames := 1, cells := 0, slots := 0, locals := 22 } := B
  refine z_iconst B (0) dX0_waitingFor_0 zc_iconst_0 ?_
  refine z_istore_n B [(2, .int (0)), (0, .ref (adr 3)), (1, .int x1)] dX0_waitingFor_1 rfl (Nat.le_of_ble_eq_true rfl) rfl ?_
  refine z_iconst B (0) dX0_waitingFor_2 zc_iconst_0 ?_
  refine z_istore_n B [(3, .int (0)), (2, .int (0)), (0, .ref (adr 3)), (1, .int x1)] dX0_waitingFor_3 rfl (Nat.le_of_ble_eq_true rfl) rfl ?_
  exact z_loc [2, 3, 1, 0] _ rfl (tE_X0_waitingFor_4 B N σ x1 (0) (0) hf)
theorem dX0_waitingBeyond_0 : decode cX0_waitingBeyond 0 = .ok (.iconst 0, 1) := by decide +kernel
theorem dX0_waitingBeyond_1 : decode cX0_waitingBeyond 1 = .ok (.istore_n 3, 1) := by decide +kernel
theorem dX0_waitingBeyond_2 : decode cX0_waitingBeyond 2 = .ok (.iload_n 3, 1) := by decide +kernel
theorem dX0_waitingBeyond_3 : decode cX0_waitingBeyond 3 = .ok (.aload_n 0, 1) := by decide +kernel
theorem dX0_waitingBeyond_4 : decode cX0_waitingBeyond 4 = .ok (.getfield 34, 3) := by decide +kernel
theorem dX0_waitingBeyond_7 : decode cX0_waitingBeyond 7 = .ok (.if_icmp .ge 116, 3) := by decide +kernel
theorem dX0_waitingBeyond_10 : decode cX0_waitingBeyond 10 = .ok (.aload_n 1, 1) := by decide +kernel
theorem dX0_waitingBeyond_11 : decode cX0_waitingBeyond 11 = .ok (.aload_n 0, 1) := by decide +kernel
theorem dX0_waitingBeyond_12 : decode cX0_waitingBeyond 12 = .ok (.getfield 9, 3) := by decide +kernel
theorem dX0_waitingBeyond_15 : decode cX0_waitingBeyond 15 = .ok (.iload_n 3, 1) := by decide +kernel
theorem dX0_waitingBeyond_16 : decode cX0_waitingBeyond 16 = .ok (.iaload, 1) := by decide +kernel
theorem dX0_waitingBeyond_17 : decode cX0_waitingBeyond 17 = .ok (.invokevirtual 66, 3) := by decide +kernel
theorem dX0_waitingBeyond_20 : decode cX0_waitingBeyond 20 = .ok (.istore 4, 2) := by decide +kernel
theorem dX0_waitingBeyond_22 : decode cX0_waitingBeyond 22 = .ok (.iload 4, 2) := by decide +kernel
theorem dX0_waitingBeyond_24 : decode cX0_waitingBeyond 24 = .ok (.ifCond .le 93, 3) := by decide +kernel
theorem dX0_waitingBeyond_27 : decode cX0_waitingBeyond 27 = .ok (.aload_n 0, 1) := by decide +kernel
theorem dX0_waitingBeyond_28 : decode cX0_waitingBeyond 28 = .ok (.iload_n 3, 1) := by decide +kernel
theorem dX0_waitingBeyond_29 : decode cX0_waitingBeyond 29 = .ok (.aload_n 1, 1) := by decide +kernel
theorem dX0_waitingBeyond_30 : decode cX0_waitingBeyond 30 = .ok (.getfield 71, 3) := by decide +kernel
theorem dX0_waitingBeyond_33 : decode cX0_waitingBeyond 33 = .ok (.invokevirtual 62, 3) := by decide +kernel
theorem dX0_waitingBeyond_36 : decode cX0_waitingBeyond 36 = .ok (.ifCond .ne 6, 3) := by decide +kernel
theorem dX0_waitingBeyond_39 : decode cX0_waitingBeyond 39 = .ok (.goto 78, 3) := by decide +kernel
theorem dX0_waitingBeyond_42 : decode cX0_waitingBeyond 42 = .ok (.iconst 0, 1) := by decide +kernel
theorem dX0_waitingBeyond_43 : decode cX0_waitingBeyond 43 = .ok (.istore 5, 2) := by decide +kernel
theorem dX0_waitingBeyond_45 : decode cX0_waitingBeyond 45 = .ok (.iconst 0, 1) := by decide +kernel
theorem dX0_waitingBeyond_46 : decode cX0_waitingBeyond 46 = .ok (.istore 6, 2) := by decide +kernel
theorem dX0_waitingBeyond_48 : decode cX0_waitingBeyond 48 = .ok (.iload 6, 2) := by decide +kernel
theorem dX0_waitingBeyond_50 : decode cX0_waitingBeyond 50 = .ok (.aload_n 0, 1) := by decide +kernel
theorem dX0_waitingBeyond_51 : decode cX0_waitingBeyond 51 = .ok (.getfield 34, 3) := by decide +kernel
theorem dX0_waitingBeyond_54 : decode cX0_waitingBeyond 54 = .ok (.if_icmp .ge 50, 3) := by decide +kernel
theorem dX0_waitingBeyond_57 : decode cX0_waitingBeyond 57 = .ok (.aload_n 1, 1) := by decide +kernel
theorem dX0_waitingBeyond_58 : decode cX0_waitingBeyond 58 = .ok (.aload_n 0, 1) := by decide +kernel
theorem dX0_waitingBeyond_59 : decode cX0_waitingBeyond 59 = .ok (.getfield 9, 3) := by decide +kernel
theorem dX0_waitingBeyond_62 : decode cX0_waitingBeyond 62 = .ok (.iload 6, 2) := by decide +kernel
theorem dX0_waitingBeyond_64 : decode cX0_waitingBeyond 64 = .ok (.iaload, 1) := by decide +kernel
theorem dX0_waitingBeyond_65 : decode cX0_waitingBeyond 65 = .ok (.invokevirtual 66, 3) := by decide +kernel
theorem dX0_waitingBeyond_68 : decode cX0_waitingBeyond 68 = .ok (.istore 7, 2) := by decide +kernel
theorem dX0_waitingBeyond_70 : decode cX0_waitingBeyond 70 = .ok (.iload 7, 2) := by decide +kernel
theorem dX0_waitingBeyond_72 : decode cX0_waitingBeyond 72 = .ok (.ifCond .le 26, 3) := by decide +kernel
theorem dX0_waitingBeyond_75 : decode cX0_waitingBeyond 75 = .ok (.iload 7, 2) := by decide +kernel
theorem dX0_waitingBeyond_77 : decode cX0_waitingBeyond 77 = .ok (.iload 4, 2) := by decide +kernel
theorem dX0_waitingBeyond_79 : decode cX0_waitingBeyond 79 = .ok (.if_icmp .ge 19, 3) := by decide +kernel
theorem dX0_waitingBeyond_82 : decode cX0_waitingBeyond 82 = .ok (.aload_n 0, 1) := by decide +kernel
theorem dX0_waitingBeyond_83 : decode cX0_waitingBeyond 83 = .ok (.iload 6, 2) := by decide +kernel
theorem dX0_waitingBeyond_85 : decode cX0_waitingBeyond 85 = .ok (.aload_n 1, 1) := by decide +kernel
theorem dX0_waitingBeyond_86 : decode cX0_waitingBeyond 86 = .ok (.getfield 71, 3) := by decide +kernel
theorem dX0_waitingBeyond_89 : decode cX0_waitingBeyond 89 = .ok (.invokevirtual 62, 3) := by decide +kernel
theorem dX0_waitingBeyond_92 : decode cX0_waitingBeyond 92 = .ok (.ifCond .eq 6, 3) := by decide +kernel
theorem dX0_waitingBeyond_95 : decode cX0_waitingBeyond 95 = .ok (.iinc 5 1, 3) := by decide +kernel
theorem dX0_waitingBeyond_98 : decode cX0_waitingBeyond 98 = .ok (.iinc 6 1, 3) := by decide +kernel
theorem dX0_waitingBeyond_101 : decode cX0_waitingBeyond 101 = .ok (.goto (-53), 3) := by decide +kernel
theorem dX0_waitingBeyond_104 : decode cX0_waitingBeyond 104 = .ok (.iload 5, 2) := by decide +kernel
theorem dX0_waitingBeyond_106 : decode cX0_waitingBeyond 106 = .ok (.iload_n 2, 1) := by decide +kernel
theorem dX0_waitingBeyond_107 : decode cX0_waitingBeyond 107 = .ok (.if_icmp .ne 10, 3) := by decide +kernel
theorem dX0_waitingBeyond_110 : decode cX0_waitingBeyond 110 = .ok (.aload_n 0, 1) := by decide +kernel
theorem dX0_waitingBeyond_111 : decode cX0_waitingBeyond 111 = .ok (.getfield 9, 3) := by decide +kernel
theorem dX0_waitingBeyond_114 : decode cX0_waitingBeyond 114 = .ok (.iload_n 3, 1) := by decide +kernel
theorem dX0_waitingBeyond_115 : decode cX0_waitingBeyond 115 = .ok (.iaload, 1) := by decide +kernel
theorem dX0_waitingBeyond_116 : decode cX0_waitingBeyond 116 = .ok (.ireturn, 1) := by decide +kernel
theorem dX0_waitingBeyond_117 : decode cX0_waitingBeyond 117 = .ok (.iinc 3 1, 3) := by decide +kernel
theorem dX0_waitingBeyond_120 : decode cX0_waitingBeyond 120 = .ok (.goto (-118), 3) := by decide +kernel
theorem dX0_waitingBeyond_123 : decode cX0_waitingBeyond 123 = .ok (.iconst (-1), 1) := by decide +kernel
theorem dX0_waitingBeyond_124 : decode cX0_waitingBeyond 124 = .ok (.ireturn, 1) := by decide +kernel
def mE_X0_waitingBeyond_117 (N : Nat) (hd2 : ST → Fin 6 → Int32 → Int32 → Option (Int32 × ST)) (σ : ST) (x1 : Fin 6) (x2 : Int32) (x3 : Int32) (x4 : Int32) : Option (Int32 × ST) :=
  zLet (x3 + (1)) fun v117 =>
  hd2 σ x1 x2 v117
set_option maxRecDepth 20000 in
set_option maxHeartbeats 2000000 in
theorem tE_X0_waitingBeyond_117 {adr : Nat → Nat} {cI cZ cS : ClassId} {tL tH : Nat} {X : zX} {q : Int32 × ST} (B : zC X 8 (wdE adr cI cZ cS tL tH) cX0_waitingBeyond RX0 (some .int) { frames := 1, cells := 0, slots := 0, locals := 22 }) (N : Nat) (hd2 : ST → Fin 6 → Int32 → Int32 → Option (Int32 × ST)) (hh2 : ∀ (σ : ST) (x1 : Fin 6) (x2 : Int32) (x3 : Int32), hd2 σ x1 x2 x3 = some q → zJ X 8 (wdE adr cI cZ cS tL tH) (zi q) 2 [(0, .ref (adr 3)), (1, .ref (adr (12 + (x1).val))), (2, .int x2), (3, .int x3)] [] σ) (σ : ST) (x1 : Fin 6) (x2 : Int32) (x3 : Int32) (x4 : Int32) (hf : mE_X0_waitingBeyond_117 N hd2 σ x1 x2 x3 x4 = some q) : zJ X 8 (wdE adr cI cZ cS tL tH) (zi q) 117 [(0, .ref (adr 3)), (1, .ref (adr (12 + (x1).val))), (2, .int x2), (3, .int x3), (4, .int x4)] [] σ := by
  refine z_iinc B (1) 3 (fun v117 => [(3, .int v117), (0, .ref (adr 3)), (1, .ref (adr (12 + (x1).val))), (2, .int x2), (4, .int x4)]) dX0_waitingBeyond_117 hf zc_iconst_1 rfl (Nat.le_of_ble_eq_true rfl) (fun _ => rfl) (fun v117 hf => ?_)
  refine z_goto B 2 dX0_waitingBeyond_120 (by decide) ?_
  exact z_loc [1, 2, 3, 0] _ rfl (hh2 σ x1 x2 v117 hf)
def mE_X0_waitingBeyond_98 (N : Nat) (hd2 : ST → Fin 6 → Int32 → Int32 → Option (Int32 × ST)) (hd48 : ST → Fin 6 → Int32 → Int32 → Int32 → Int32 → Int32 → Option (Int32 × ST)) (σ : ST) (x1 : Fin 6) (x2 : Int32) (x3 : Int32) (x4 : Int32) (x5 : Int32) (x6 : Int32) (x7 : Int32) : Option (Int32 × ST) :=
  zLet (x6 + (1)) fun v98 =>
  hd48 σ x1 x2 x3 x4 x5 v98
set_option maxRecDepth 20000 in
set_option maxHeartbeats 2000000 in
theorem tE_X0_waitingBeyond_98 {adr : Nat → Nat} {cI cZ cS : ClassId} {tL tH : Nat} {X : zX} {q : Int32 × ST} (B : zC X 8 (wdE adr cI cZ cS tL tH) cX0_waitingBeyond RX0 (some .int) { frames := 1, cells := 0, slots := 0, locals := 22 }) (N : Nat) (hd2 : ST → Fin 6 → Int32 → Int32 → Option (Int32 × ST)) (hh2 : ∀ (σ : ST) (x1 : Fin 6) (x2 : Int32) (x3 : Int32), hd2 σ x1 x2 x3 = some q → zJ X 8 (wdE adr cI cZ cS tL tH) (zi q) 2 [(0, .ref (adr 3)), (1, .ref (adr (12 + (x1).val))), (2, .int x2), (3, .int x3)] [] σ) (hd48 : ST → Fin 6 → Int32 → Int32 → Int32 → Int32 → Int32 → Option (Int32 × ST)) (hh48 : ∀ (σ : ST) (x1 : Fin 6) (x2 : Int32) (x3 : Int32) (x4 : Int32) (x5 : Int32) (x6 : Int32), hd48 σ x1 x2 x3 x4 x5 x6 = some q → zJ X 8 (wdE adr cI cZ cS tL tH) (zi q) 48 [(0, .ref (adr 3)), (1, .ref (adr (12 + (x1).val))), (2, .int x2), (3, .int x3), (4, .int x4), (5, .int x5), (6, .int x6)] [] σ) (σ : ST) (x1 : Fin 6) (x2 : Int32) (x3 : Int32) (x4 : Int32) (x5 : Int32) (x6 : Int32) (x7 : Int32) (hf : mE_X0_waitingBeyond_98 N hd2 hd48 σ x1 x2 x3 x4 x5 x6 x7 = some q) : zJ X 8 (wdE adr cI cZ cS tL tH) (zi q) 98 [(0, .ref (adr 3)), (1, .ref (adr (12 + (x1).val))), (2, .int x2), (3, .int x3), (4, .int x4), (5, .int x5), (6, .int x6), (7, .int x7)] [] σ := by
  refine z_iinc B (1) 6 (fun v98 => [(6, .int v98), (0, .ref (adr 3)), (1, .ref (adr (12 + (x1).val))), (2, .int x2), (3, .int x3), (4, .int x4), (5, .int x5), (7, .int x7)]) dX0_waitingBeyond_98 hf zc_iconst_1 rfl (Nat.le_of_ble_eq_true rfl) (fun _ => rfl) (fun v98 hf => ?_)
  refine z_goto B 48 dX0_waitingBeyond_101 (by decide) ?_
  exact z_loc [1, 2, 3, 4, 5, 6, 0] _ rfl (hh48 σ x1 x2 x3 x4 x5 v98 hf)
def mE_X0_waitingBeyond_B48 (N : Nat) (hd2 : ST → Fin 6 → Int32 → Int32 → Option (Int32 × ST)) (hd48 : ST → Fin 6 → Int32 → Int32 → Int32 → Int32 → Int32 → Option (Int32 × ST)) (σ : ST) (x1 : Fin 6) (x2 : Int32) (x3 : Int32) (x4 : Int32) (x5 : Int32) (x6 : Int32) : Option (Int32 × ST) :=
  zLet (σ 3 7) fun v51 =>
  if (v51 : Int32) ≤ x6 then
    if (x5 : Int32) = x2 then
      zGet (σ 4) 64 x3 fun v115 =>
      some (v115, σ)
    else
      mE_X0_waitingBeyond_117 N hd2 σ x1 x2 x3 x4
  else
    zGet (σ 4) 64 x6 fun v64 =>
    zCall (mE_X4_wayTo N σ x1 v64) fun v65 s65 =>
    if (v65 : Int32) ≤ 0 then
      mE_X0_waitingBeyond_98 N hd2 hd48 s65 x1 x2 x3 x4 x5 x6 v65
    else
      if (x4 : Int32) ≤ v65 then
        mE_X0_waitingBeyond_98 N hd2 hd48 s65 x1 x2 x3 x4 x5 x6 v65
      else
        zLet (s65 (12 + (x1).val) 0) fun v86 =>
        zCall (mE_X0_isWaitingFor N s65 x6 v86) fun v89 s89 =>
        if (v89 : Int32) = 0 then
          mE_X0_waitingBeyond_98 N hd2 hd48 s89 x1 x2 x3 x4 x5 x6 v65
        else
          zLet (x5 + (1)) fun v95 =>
          mE_X0_waitingBeyond_98 N hd2 hd48 s89 x1 x2 x3 x4 v95 x6 v65
def mE_X0_waitingBeyond_48 (N : Nat) (hd2 : ST → Fin 6 → Int32 → Int32 → Option (Int32 × ST)) : ST → Fin 6 → Int32 → Int32 → Int32 → Int32 → Int32 → Option (Int32 × ST) := zIt (mE_X0_waitingBeyond_B48 N hd2) (fun _ _ _ _ _ _ _ => none) N
set_option maxRecDepth 20000 in
set_option maxHeartbeats 2000000 in
theorem tE_X0_waitingBeyond_48 {adr : Nat → Nat} {cI cZ cS : ClassId} {tL tH : Nat} {X : zX} {q : Int32 × ST} (B : zC X 8 (wdE adr cI cZ cS tL tH) cX0_waitingBeyond RX0 (some .int) { frames := 1, cells := 0, slots := 0, locals := 22 }) (N : Nat) (hd2 : ST → Fin 6 → Int32 → Int32 → Option (Int32 × ST)) (hh2 : ∀ (σ : ST) (x1 : Fin 6) (x2 : Int32) (x3 : Int32), hd2 σ x1 x2 x3 = some q → zJ X 8 (wdE adr cI cZ cS tL tH) (zi q) 2 [(0, .ref (adr 3)), (1, .ref (adr (12 + (x1).val))), (2, .int x2), (3, .int x3)] [] σ) : ∀ (σ : ST) (x1 : Fin 6) (x2 : Int32) (x3 : Int32) (x4 : Int32) (x5 : Int32) (x6 : Int32), mE_X0_waitingBeyond_48 N hd2 σ x1 x2 x3 x4 x5 x6 = some q → zJ X 8 (wdE adr cI cZ cS tL tH) (zi q) 48 [(0, .ref (adr 3)), (1, .ref (adr (12 + (x1).val))), (2, .int x2), (3, .int x3), (4, .int x4), (5, .int x5), (6, .int x6)] [] σ := by
  refine zIt_ind (P := fun (hd : ST → Fin 6 → Int32 → Int32 → Int32 → Int32 → Int32 → Option (Int32 × ST)) => ∀ (σ : ST) (x1 : Fin 6) (x2 : Int32) (x3 : Int32) (x4 : Int32) (x5 : Int32) (x6 : Int32), hd σ x1 x2 x3 x4 x5 x6 = some q → zJ X 8 (wdE adr cI cZ cS tL tH) (zi q) 48 [(0, .ref (adr 3)), (1, .ref (adr (12 + (x1).val))), (2, .int x2), (3, .int x3), (4, .int x4), (5, .int x5), (6, .int x6)] [] σ) (fun _ _ _ _ _ _ _ hf => by cases hf) (fun hd48 hh48 => ?_) N
  intro σ x1 x2 x3 x4 x5 x6 hf
  refine z_iload B dX0_waitingBeyond_48 6 rfl ?_
  refine z_aload_n B dX0_waitingBeyond_50 0 rfl rfl ?_
  refine fE_g_X0_C_size B dX0_waitingBeyond_51 hf (fun v51 hf => ?_)
  refine z_icmp_ge B 104 dX0_waitingBeyond_54 (by decide) hf (fun hf => ?_) (fun hf => ?_)
  · refine z_iload B dX0_waitingBeyond_104 5 rfl ?_
    refine z_iload_n B dX0_waitingBeyond_106 2 rfl rfl ?_
    refine z_icmp_ne B 117 dX0_waitingBeyond_107 (by decide) hf (fun hf => ?_) (fun hf => ?_)
    · exact z_loc [0, 1, 2, 3, 4] _ rfl (tE_X0_waitingBeyond_117 B N hd2 hh2 σ x1 x2 x3 x4 hf)
    · refine z_aload_n B dX0_waitingBeyond_110 0 rfl rfl ?_
      refine fE_g_X0_C_blocks B dX0_waitingBeyond_111 ?_
      refine z_iload_n B dX0_waitingBeyond_114 3 rfl rfl ?_
      refine fE_l_C_blocks B dX0_waitingBeyond_115 hf (fun v115 hf => ?_)
      exact z_ireturn B dX0_waitingBeyond_116 hf
  · refine z_aload_n B dX0_waitingBeyond_57 1 rfl rfl ?_
    refine z_aload_n B dX0_waitingBeyond_58 0 rfl rfl ?_
    refine fE_g_X0_C_blocks B dX0_waitingBeyond_59 ?_
    refine z_iload B dX0_waitingBeyond_62 6 rfl ?_
    refine fE_l_C_blocks B dX0_waitingBeyond_64 hf (fun v64 hf => ?_)
    refine z_callVi B (As := [.int v64]) kcV_X0_66 dX0_waitingBeyond_65 hf (fun q hq => cE_X4_wayTo q hq) (wE_o_S (adr := adr) (cI := cI) (cZ := cZ) (cS := cS) (tL := tL) (tH := tH) x1) rfl rfl rfl rfl (Nat.le_of_ble_eq_true rfl) rfl rfl ⟨Nat.le_of_ble_eq_true rfl, Nat.le_of_ble_eq_true rfl⟩ (fun v65 s65 hf => ?_)
    refine z_istore B [(7, .int v65), (0, .ref (adr 3)), (1, .ref (adr (12 + (x1).val))), (2, .int x2), (3, .int x3), (4, .int x4), (5, .int x5), (6, .int x6)] dX0_waitingBeyond_68 (Nat.le_of_ble_eq_true rfl) rfl ?_
    refine z_iload B dX0_waitingBeyond_70 0 rfl ?_
    refine z_if_le B 98 dX0_waitingBeyond_72 (by decide) hf (fun hf => ?_) (fun hf => ?_)
    · exact z_loc [1, 2, 3, 4, 5, 6, 7, 0] _ rfl (tE_X0_waitingBeyond_98 B N hd2 hh2 hd48 hh48 s65 x1 x2 x3 x4 x5 x6 v65 hf)
    · refine z_iload B dX0_waitingBeyond_75 0 rfl ?_
      refine z_iload B dX0_waitingBeyond_77 5 rfl ?_
      refine z_icmp_ge B 98 dX0_waitingBeyond_79 (by decide) hf (fun hf => ?_) (fun hf => ?_)
      · exact z_loc [1, 2, 3, 4, 5, 6, 7, 0] _ rfl (tE_X0_waitingBeyond_98 B N hd2 hh2 hd48 hh48 s65 x1 x2 x3 x4 x5 x6 v65 hf)
      · refine z_aload_n B dX0_waitingBeyond_82 1 rfl rfl ?_
        refine z_iload B dX0_waitingBeyond_83 7 rfl ?_
        refine z_aload_n B dX0_waitingBeyond_85 2 rfl rfl ?_
        refine fE_g_X0_S_number B x1 dX0_waitingBeyond_86 hf (fun v86 hf => ?_)
        refine z_callVi B (As := [.int x6, .int v86]) kcV_X0_62 dX0_waitingBeyond_89 hf (fun q hq => cE_X0_isWaitingFor q hq) (wE_o_C (adr := adr) (cI := cI) (cZ := cZ) (cS := cS) (tL := tL) (tH := tH)) rfl rfl rfl rfl (Nat.le_of_ble_eq_true rfl) rfl rfl ⟨Nat.le_of_ble_eq_true rfl, Nat.le_of_ble_eq_true rfl⟩ (fun v89 s89 hf => ?_)
        refine z_if_eq B 98 dX0_waitingBeyond_92 (by decide) hf (fun hf => ?_) (fun hf => ?_)
        · exact z_loc [1, 2, 3, 4, 5, 6, 7, 0] _ rfl (tE_X0_waitingBeyond_98 B N hd2 hh2 hd48 hh48 s89 x1 x2 x3 x4 x5 x6 v65 hf)
        · refine z_iinc B (1) 6 (fun v95 => [(5, .int v95), (7, .int v65), (0, .ref (adr 3)), (1, .ref (adr (12 + (x1).val))), (2, .int x2), (3, .int x3), (4, .int x4), (6, .int x6)]) dX0_waitingBeyond_95 hf zc_iconst_1 rfl (Nat.le_of_ble_eq_true rfl) (fun _ => rfl) (fun v95 hf => ?_)
          exact z_loc [2, 3, 4, 5, 6, 0, 7, 1] _ rfl (tE_X0_waitingBeyond_98 B N hd2 hh2 hd48 hh48 s89 x1 x2 x3 x4 v95 x6 v65 hf)
def mE_X0_waitingBeyond_B2 (N : Nat) (hd2 : ST → Fin 6 → Int32 → Int32 → Option (Int32 × ST)) (σ : ST) (x1 : Fin 6) (x2 : Int32) (x3 : Int32) : Option (Int32 × ST) :=
  zLet (σ 3 7) fun v4 =>
  if (v4 : Int32) ≤ x3 then
    some ((-1), σ)
  else
    zGet (σ 4) 64 x3 fun v16 =>
    zCall (mE_X4_wayTo N σ x1 v16) fun v17 s17 =>
    if (v17 : Int32) ≤ 0 then
      mE_X0_waitingBeyond_117 N hd2 s17 x1 x2 x3 v17
    else
      zLet (s17 (12 + (x1).val) 0) fun v30 =>
      zCall (mE_X0_isWaitingFor N s17 x3 v30) fun v33 s33 =>
      if (v33 : Int32) = 0 then
        mE_X0_waitingBeyond_117 N hd2 s33 x1 x2 x3 v17
      else
        mE_X0_waitingBeyond_48 N hd2 s33 x1 x2 x3 v17 (0) (0)
def mE_X0_waitingBeyond_2 (N : Nat) : ST → Fin 6 → Int32 → Int32 → Option (Int32 × ST) := zIt (mE_X0_waitingBeyond_B2 N) (fun _ _ _ _ => none) N
set_option maxRecDepth 20000 in
set_option maxHeartbeats 2000000 in
theorem tE_X0_waitingBeyond_2 {adr : Nat → Nat} {cI cZ cS : ClassId} {tL tH : Nat} {X : zX} {q : Int32 × ST} (B : zC X 8 (wdE adr cI cZ cS tL tH) cX0_waitingBeyond RX0 (some .int) { frames := 1, cells := 0, slots := 0, locals := 22 }) (N : Nat) : ∀ (σ : ST) (x1 : Fin 6) (x2 : Int32) (x3 : Int32), mE_X0_waitingBeyond_2 N σ x1 x2 x3 = some q → zJ X 8 (wdE adr cI cZ cS tL tH) (zi q) 2 [(0, .ref (adr 3)), (1, .ref (adr (12 + (x1).val))), (2, .int x2), (3, .int x3)] [] σ := by
  refine zIt_ind (P := fun (hd : ST → Fin 6 → Int32 → Int32 → Option (Int32 × ST)) => ∀ (σ : ST) (x1 : Fin 6) (x2 : Int32) (x3 : Int32), hd σ x1 x2 x3 = some q → zJ X 8 (wdE adr cI cZ cS tL tH) (zi q) 2 [(0, .ref (adr 3)), (1, .ref (adr (12 + (x1).val))), (2, .int x2), (3, .int x3)] [] σ) (fun _ _ _ _ hf => by cases hf) (fun hd2 hh2 => ?_) N
  intro σ x1 x2 x3 hf
  refine z_iload_n B dX0_waitingBeyond_2 3 rfl rfl ?_
  refine z_aload_n B dX0_waitingBeyond_3 0 rfl rfl ?_
  refine fE_g_X0_C_size B dX0_waitingBeyond_4 hf (fun v4 hf => ?_)
  refine z_icmp_ge B 123 dX0_waitingBeyond_7 (by decide) hf (fun hf => ?_) (fun hf => ?_)
  · refine z_iconst B (-1) dX0_waitingBeyond_123 zc_iconst_m1 ?_
    exact z_ireturn B dX0_waitingBeyond_124 hf
  · refine z_aload_n B dX0_waitingBeyond_10 1 rfl rfl ?_
    refine z_aload_n B dX0_waitingBeyond_11 0 rfl rfl ?_
    refine fE_g_X0_C_blocks B dX0_waitingBeyond_12 ?_
    refine z_iload_n B dX0_waitingBeyond_15 3 rfl rfl ?_
    refine fE_l_C_blocks B dX0_waitingBeyond_16 hf (fun v16 hf => ?_)
    refine z_callVi B (As := [.int v16]) kcV_X0_66 dX0_waitingBeyond_17 hf (fun q hq => cE_X4_wayTo q hq) (wE_o_S (adr := adr) (cI := cI) (cZ := cZ) (cS := cS) (tL := tL) (tH := tH) x1) rfl rfl rfl rfl (Nat.le_of_ble_eq_true rfl) rfl rfl ⟨Nat.le_of_ble_eq_true rfl, Nat.le_of_ble_eq_true rfl⟩ (fun v17 s17 hf => ?_)
    refine z_istore B [(4, .int v17), (0, .ref (adr 3)), (1, .ref (adr (12 + (x1).val))), (2, .int x2), (3, .int x3)] dX0_waitingBeyond_20 (Nat.le_of_ble_eq_true rfl) rfl ?_
    refine z_iload B dX0_waitingBeyond_22 0 rfl ?_
    refine z_if_le B 117 dX0_waitingBeyond_24 (by decide) hf (fun hf => ?_) (fun hf => ?_)
    · exact z_loc [1, 2, 3, 4, 0] _ rfl (tE_X0_waitingBeyond_117 B N hd2 hh2 s17 x1 x2 x3 v17 hf)
    · refine z_aload_n B dX0_waitingBeyond_27 1 rfl rfl ?_
      refine z_iload_n B dX0_waitingBeyond_28 4 rfl rfl ?_
      refine z_aload_n B dX0_waitingBeyond_29 2 rfl rfl ?_
      refine fE_g_X0_S_number B x1 dX0_waitingBeyond_30 hf (fun v30 hf => ?_)
      refine z_callVi B (As := [.int x3, .int v30]) kcV_X0_62 dX0_waitingBeyond_33 hf (fun q hq => cE_X0_isWaitingFor q hq) (wE_o_C (adr := adr) (cI := cI) (cZ := cZ) (cS := cS) (tL := tL) (tH := tH)) rfl rfl rfl rfl (Nat.le_of_ble_eq_true rfl) rfl rfl ⟨Nat.le_of_ble_eq_true rfl, Nat.le_of_ble_eq_true rfl⟩ (fun v33 s33 hf => ?_)
      refine z_if_ne B 42 dX0_waitingBeyond_36 (by decide) hf (fun hf => ?_) (fun hf => ?_)
      · refine z_iconst B (0) dX0_waitingBeyond_42 zc_iconst_0 ?_
        refine z_istore B [(5, .int (0)), (4, .int v17), (0, .ref (adr 3)), (1, .ref (adr (12 + (x1).val))), (2, .int x2), (3, .int x3)] dX0_waitingBeyond_43 (Nat.le_of_ble_eq_true rfl) rfl ?_
        refine z_iconst B (0) dX0_waitingBeyond_45 zc_iconst_0 ?_
        refine z_istore B [(6, .int (0)), (5, .int (0)), (4, .int v17), (0, .ref (adr 3)), (1, .ref (adr (12 + (x1).val))), (2, .int x2), (3, .int x3)] dX0_waitingBeyond_46 (Nat.le_of_ble_eq_true rfl) rfl ?_
        exact z_loc [3, 4, 5, 6, 2, 1, 0] _ rfl (tE_X0_waitingBeyond_48 B N hd2 hh2 s33 x1 x2 x3 v17 (0) (0) hf)
      · refine z_goto B 117 dX0_waitingBeyond_39 (by decide) ?_
        exact z_loc [1, 2, 3, 4, 0] _ rfl (tE_X0_waitingBeyond_117 B N hd2 hh2 s33 x1 x2 x3 v17 hf)
def mE_X0_waitingBeyond (N : Nat) (σ : ST) (x1 : Fin 6) (x2 : Int32) : Option (Int32 × ST) :=
  mE_X0_waitingBeyond_2 N σ x1 x2 (0)
set_option maxRecDepth 20000 in
set_option maxHeartbeats 2000000 in
theorem cE_X0_waitingBeyond {adr : Nat → Nat} {cI cZ cS : ClassId} {tL tH : Nat} {l : Launch} {D : va_G} {N : Nat} {σ : ST} {x1 : Fin 6} {x2 : Int32} (q : Int32 × ST) (hf : mE_X0_waitingBeyond N σ x1 x2 = some q) : zM l D (wdE adr cI cZ cS tL tH) yX0_waitingBeyond cX0_waitingBeyond 8 (some .int) ({ frames := 1, cells := 0, slots := 0, locals := 22 }) [.ref (adr 3), .ref (adr (12 + (x1).val)), .int x2] σ (zi q) := by
  refine zM_of sfE_ok rfl (Nat.le_of_ble_eq_true rfl) [(0, .ref (adr 3)), (1, .ref (adr (12 + (x1).val))), (2, .int x2)] rfl (fun X hX1 hX2 B => ?_)
  have B : zC X 8 (wdE adr cI cZ cS tL tH) cX0_waitingBeyond RX0 (some .int) { frames := 1, cells := 0, slots := 0, locals := 22 } := B
  refine z_iconst B (0) dX0_waitingBeyond_0 zc_iconst_0 ?_
  refine z_istore_n B [(3, .int (0)), (0, .ref (adr 3)), (1, .ref (adr (12 + (x1).val))), (2, .int x2)] dX0_waitingBeyond_1 rfl (Nat.le_of_ble_eq_true rfl) rfl ?_
  exact z_loc [1, 2, 3, 0] _ rfl (tE_X0_waitingBeyond_2 B N σ x1 x2 (0) hf)
