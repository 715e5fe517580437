theorem dX0_rankOf_0 : decode cX0_rankOf 0 = .ok (.iconst 0, 1) := by decide +kernel
theorem dX0_rankOf_1 : decode cX0_rankOf 1 = .ok (.istore_n 2, 1) := by decide +kernel
theorem dX0_rankOf_2 : decode cX0_rankOf 2 = .ok (.iload_n 1, 1) := by decide +kernel
theorem dX0_rankOf_3 : decode cX0_rankOf 3 = .ok (.ifCond .lt 45, 3) := by decide +kernel
theorem dX0_rankOf_6 : decode cX0_rankOf 6 = .ok (.iload_n 1, 1) := by decide +kernel
theorem dX0_rankOf_7 : decode cX0_rankOf 7 = .ok (.aload_n 0, 1) := by decide +kernel
theorem dX0_rankOf_8 : decode cX0_rankOf 8 = .ok (.getfield 34, 3) := by decide +kernel
theorem dX0_rankOf_11 : decode cX0_rankOf 11 = .ok (.if_icmp .ge 37, 3) := by decide +kernel
theorem dX0_rankOf_14 : decode cX0_rankOf 14 = .ok (.iconst 0, 1) := by decide +kernel
theorem dX0_rankOf_15 : decode cX0_rankOf 15 = .ok (.istore_n 3, 1) := by decide +kernel
theorem dX0_rankOf_16 : decode cX0_rankOf 16 = .ok (.iload_n 3, 1) := by decide +kernel
theorem dX0_rankOf_17 : decode cX0_rankOf 17 = .ok (.aload_n 0, 1) := by decide +kernel
theorem dX0_rankOf_18 : decode cX0_rankOf 18 = .ok (.getfield 34, 3) := by decide +kernel
theorem dX0_rankOf_21 : decode cX0_rankOf 21 = .ok (.if_icmp .ge 27, 3) := by decide +kernel
theorem dX0_rankOf_24 : decode cX0_rankOf 24 = .ok (.aload_n 0, 1) := by decide +kernel
theorem dX0_rankOf_25 : decode cX0_rankOf 25 = .ok (.getfield 15, 3) := by decide +kernel
theorem dX0_rankOf_28 : decode cX0_rankOf 28 = .ok (.iload_n 3, 1) := by decide +kernel
theorem dX0_rankOf_29 : decode cX0_rankOf 29 = .ok (.iaload, 1) := by decide +kernel
theorem dX0_rankOf_30 : decode cX0_rankOf 30 = .ok (.aload_n 0, 1) := by decide +kernel
theorem dX0_rankOf_31 : decode cX0_rankOf 31 = .ok (.getfield 15, 3) := by decide +kernel
theorem dX0_rankOf_34 : decode cX0_rankOf 34 = .ok (.iload_n 1, 1) := by decide +kernel
theorem dX0_rankOf_35 : decode cX0_rankOf 35 = .ok (.iaload, 1) := by decide +kernel
theorem dX0_rankOf_36 : decode cX0_rankOf 36 = .ok (.if_icmp .ge 6, 3) := by decide +kernel
theorem dX0_rankOf_39 : decode cX0_rankOf 39 = .ok (.iinc 2 1, 3) := by decide +kernel
theorem dX0_rankOf_42 : decode cX0_rankOf 42 = .ok (.iinc 3 1, 3) := by decide +kernel
theorem dX0_rankOf_45 : decode cX0_rankOf 45 = .ok (.goto (-29), 3) := by decide +kernel
theorem dX0_rankOf_48 : decode cX0_rankOf 48 = .ok (.iload_n 2, 1) := by decide +kernel
theorem dX0_rankOf_49 : decode cX0_rankOf 49 = .ok (.ireturn, 1) := by decide +kernel
def mE_X0_rankOf_48 (N : Nat) (σ : ST) (x1 : Int32) (x2 : Int32) : Option (Int32 × ST) :=
  some (x2, σ)
set_option maxRecDepth 20000 in
set_option maxHeartbeats 2000000 in
theorem tE_X0_rankOf_48 {adr : Nat → Nat} {cI cZ cS : ClassId} {tL tH : Nat} {X : zX} {q : Int32 × ST} (B : zC X 4 (wdE adr cI cZ cS tL tH) cX0_rankOf RX0 (some .int) { frames := 0, cells := 0, slots := 0, locals := 0 }) (N : Nat) (σ : ST) (x1 : Int32) (x2 : Int32) (hf : mE_X0_rankOf_48 N σ x1 x2 = some q) : zJ X 4 (wdE adr cI cZ cS tL tH) (zi q) 48 [(0, .ref (adr 3)), (1, .int x1), (2, .int x2)] [] σ := by
  refine z_iload_n B dX0_rankOf_48 2 rfl rfl ?_
  exact z_ireturn B dX0_rankOf_49 hf
def mE_X0_rankOf_42 (N : Nat) (hd16 : ST → Int32 → Int32 → Int32 → Option (Int32 × ST)) (σ : ST) (x1 : Int32) (x2 : Int32) (x3 : Int32) : Option (Int32 × ST) :=
  zLet (x3 + (1)) fun v42 =>
  hd16 σ x1 x2 v42
set_option maxRecDepth 20000 in
set_option maxHeartbeats 2000000 in
theorem tE_X0_rankOf_42 {adr : Nat → Nat} {cI cZ cS : ClassId} {tL tH : Nat} {X : zX} {q : Int32 × ST} (B : zC X 4 (wdE adr cI cZ cS tL tH) cX0_rankOf RX0 (some .int) { frames := 0, cells := 0, slots := 0, locals := 0 }) (N : Nat) (hd16 : ST → Int32 → Int32 → Int32 → Option (Int32 × ST)) (hh16 : ∀ (σ : ST) (x1 : Int32) (x2 : Int32) (x3 : Int32), hd16 σ x1 x2 x3 = some q → zJ X 4 (wdE adr cI cZ cS tL tH) (zi q) 16 [(0, .ref (adr 3)), (1, .int x1), (2, .int x2), (3, .int x3)] [] σ) (σ : ST) (x1 : Int32) (x2 : Int32) (x3 : Int32) (hf : mE_X0_rankOf_42 N hd16 σ x1 x2 x3 = some q) : zJ X 4 (wdE adr cI cZ cS tL tH) (zi q) 42 [(0, .ref (adr 3)), (1, .int x1), (2, .int x2), (3, .int x3)] [] σ := by
  refine z_iinc B (1) 3 (fun v42 => [(3, .int v42), (0, .ref (adr 3)), (1, .int x1), (2, .int x2)]) dX0_rankOf_42 hf zc_iconst_1 rfl (Nat.le_of_ble_eq_true rfl) (fun _ => rfl) (fun v42 hf => ?_)
  refine z_goto B 16 dX0_rankOf_45 (by decide) ?_
  exact z_loc [1, 2, 3, 0] _ rfl (hh16 σ x1 x2 v42 hf)
def mE_X0_rankOf_B16 (N : Nat) (hd16 : ST → Int32 → Int32 → Int32 → Option (Int32 × ST)) (σ : ST) (x1 : Int32) (x2 : Int32) (x3 : Int32) : Option (Int32 × ST) :=
  zLet (σ 3 7) fun v18 =>
  if (v18 : Int32) ≤ x3 then
    mE_X0_rankOf_48 N σ x1 x2
  else
    zGet (σ 5) 64 x3 fun v29 =>
    zGet (σ 5) 64 x1 fun v35 =>
    if (v35 : Int32) ≤ v29 then
      mE_X0_rankOf_42 N hd16 σ x1 x2 x3
    else
      zLet (x2 + (1)) fun v39 =>
      mE_X0_rankOf_42 N hd16 σ x1 v39 x3
def mE_X0_rankOf_16 (N : Nat) : ST → Int32 → Int32 → Int32 → Option (Int32 × ST) := zIt (mE_X0_rankOf_B16 N) (fun _ _ _ _ => none) N
set_option maxRecDepth 20000 in
set_option maxHeartbeats 2000000 in
theorem tE_X0_rankOf_16 {adr : Nat → Nat} {cI cZ cS : ClassId} {tL tH : Nat} {X : zX} {q : Int32 × ST} (B : zC X 4 (wdE adr cI cZ cS tL tH) cX0_rankOf RX0 (some .int) { frames := 0, cells := 0, slots := 0, locals := 0 }) (N : Nat) : ∀ (σ : ST) (x1 : Int32) (x2 : Int32) (x3 : Int32), mE_X0_rankOf_16 N σ x1 x2 x3 = some q → zJ X 4 (wdE adr cI cZ cS tL tH) (zi q) 16 [(0, .ref (adr 3)), (1, .int x1), (2, .int x2), (3, .int x3)] [] σ := by
  refine zIt_ind (P := fun (hd : ST → Int32 → Int32 → Int32 → Option (Int32 × ST)) => ∀ (σ : ST) (x1 : Int32) (x2 : Int32) (x3 : Int32), hd σ x1 x2 x3 = some q → zJ X 4 (wdE adr cI cZ cS tL tH) (zi q) 16 [(0, .ref (adr 3)), (1, .int x1), (2, .int x2), (3, .int x3)] [] σ) (fun _ _ _ _ hf => by cases hf) (fun hd16 hh16 => ?_) N
  intro σ x1 x2 x3 hf
  refine z_iload_n B dX0_rankOf_16 3 rfl rfl ?_
  refine z_aload_n B dX0_rankOf_17 0 rfl rfl ?_
  refine fE_g_X0_C_size B dX0_rankOf_18 hf (fun v18 hf => ?_)
  refine z_icmp_ge B 48 dX0_rankOf_21 (by decide) hf (fun hf => ?_) (fun hf => ?_)
  · exact z_loc [0, 1, 2] _ rfl (tE_X0_rankOf_48 B N σ x1 x2 hf)
  · refine z_aload_n B dX0_rankOf_24 0 rfl rfl ?_
    refine fE_g_X0_C_stamps B dX0_rankOf_25 ?_
    refine z_iload_n B dX0_rankOf_28 3 rfl rfl ?_
    refine fE_l_C_stamps B dX0_rankOf_29 hf (fun v29 hf => ?_)
    refine z_aload_n B dX0_rankOf_30 0 rfl rfl ?_
    refine fE_g_X0_C_stamps B dX0_rankOf_31 ?_
    refine z_iload_n B dX0_rankOf_34 1 rfl rfl ?_
    refine fE_l_C_stamps B dX0_rankOf_35 hf (fun v35 hf => ?_)
    refine z_icmp_ge B 42 dX0_rankOf_36 (by decide) hf (fun hf => ?_) (fun hf => ?_)
    · exact tE_X0_rankOf_42 B N hd16 hh16 σ x1 x2 x3 hf
    · refine z_iinc B (1) 2 (fun v39 => [(2, .int v39), (0, .ref (adr 3)), (1, .int x1), (3, .int x3)]) dX0_rankOf_39 hf zc_iconst_1 rfl (Nat.le_of_ble_eq_true rfl) (fun _ => rfl) (fun v39 hf => ?_)
      exact z_loc [1, 2, 0, 3] _ rfl (tE_X0_rankOf_42 B N hd16 hh16 σ x1 v39 x3 hf)
def mE_X0_rankOf (N : Nat) (σ : ST) (x1 : Int32) : Option (Int32 × ST) :=
  if (x1 : Int32) < 0 then
    mE_X0_rankOf_48 N σ x1 (0)
  else
    zLet (σ 3 7) fun v8 =>
    if (v8 : Int32) ≤ x1 then
      mE_X0_rankOf_48 N σ x1 (0)
    else
      mE_X0_rankOf_16 N σ x1 (0) (0)
set_option maxRecDepth 20000 in
set_option maxHeartbeats 2000000 in
theorem cE_X0_rankOf {adr : Nat → Nat} {cI cZ cS : ClassId} {tL tH : Nat} {l : Launch} {D : va_G} {N : Nat} {σ : ST} {x1 : Int32} (q : Int32 × ST) (hf : mE_X0_rankOf N σ x1 = some q) : zM l D (wdE adr cI cZ cS tL tH) yX0_rankOf cX0_rankOf 4 (some .int) ({ frames := 0, cells := 0, slots := 0, locals := 0 }) [.ref (adr 3), .int x1] σ (zi q) := by
  refine zM_of sfE_ok rfl (Nat.le_of_ble_eq_true rfl) [(0, .ref (adr 3)), (1, .int x1)] rfl (fun X hX1 hX2 B => ?_)
  have B : zC X 4 (wdE adr cI cZ cS tL tH) cX0_rankOf RX0 (some .int) { frames := 0, cells := 0, slots := 0, locals := 0 } := B
  refine z_iconst B (0) dX0_rankOf_0 zc_iconst_0 ?_
  refine z_istore_n B [(2, .int (0)), (0, .ref (adr 3)), (1, .int x1)] dX0_rankOf_1 rfl (Nat.le_of_ble_eq_true rfl) rfl ?_
  refine z_iload_n B dX0_rankOf_2 2 rfl rfl ?_
  refine z_if_lt B 48 dX0_rankOf_3 (by decide) hf (fun hf => ?_) (fun hf => ?_)
  · exact z_loc [1, 2, 0] _ rfl (tE_X0_rankOf_48 B N σ x1 (0) hf)
  · refine z_iload_n B dX0_rankOf_6 2 rfl rfl ?_
    refine z_aload_n B dX0_rankOf_7 1 rfl rfl ?_
    refine fE_g_X0_C_size B dX0_rankOf_8 hf (fun v8 hf => ?_)
    refine z_icmp_ge B 48 dX0_rankOf_11 (by decide) hf (fun hf => ?_) (fun hf => ?_)
    · exact z_loc [1, 2, 0] _ rfl (tE_X0_rankOf_48 B N σ x1 (0) hf)
    · refine z_iconst B (0) dX0_rankOf_14 zc_iconst_0 ?_
      refine z_istore_n B [(3, .int (0)), (2, .int (0)), (0, .ref (adr 3)), (1, .int x1)] dX0_rankOf_15 rfl (Nat.le_of_ble_eq_true rfl) rfl ?_
      exact z_loc [2, 3, 1, 0] _ rfl (tE_X0_rankOf_16 B N σ x1 (0) (0) hf)
theorem dX0_blockByStamp_0 : decode cX0_blockByStamp 0 = .ok (.iconst 0, 1) := by decide +kernel
theorem dX0_blockByStamp_1 : decode cX0_blockByStamp 1 = .ok (.istore_n 2, 1) := by decide +kernel
theorem dX0_blockByStamp_2 : decode cX0_blockByStamp 2 = .ok (.iload_n 2, 1) := by decide +kernel
theorem dX0_blockByStamp_3 : decode cX0_blockByStamp 3 = .ok (.aload_n 0, 1) := by decide +kernel
theorem dX0_blockByStamp_4 : decode cX0_blockByStamp 4 = .ok (.getfield 34, 3) := by decide +kernel
theorem dX0_blockByStamp_7 : decode cX0_blockByStamp 7 = .ok (.if_icmp .ge 25, 3) := by decide +kernel
theorem dX0_blockByStamp_10 : decode cX0_blockByStamp 10 = .ok (.aload_n 0, 1) := by decide +kernel
theorem dX0_blockByStamp_11 : decode cX0_blockByStamp 11 = .ok (.iload_n 2, 1) := by decide +kernel
theorem dX0_blockByStamp_12 : decode cX0_blockByStamp 12 = .ok (.invokevirtual 74, 3) := by decide +kernel
theorem dX0_blockByStamp_15 : decode cX0_blockByStamp 15 = .ok (.iload_n 1, 1) := by decide +kernel
theorem dX0_blockByStamp_16 : decode cX0_blockByStamp 16 = .ok (.if_icmp .ne 10, 3) := by decide +kernel
theorem dX0_blockByStamp_19 : decode cX0_blockByStamp 19 = .ok (.aload_n 0, 1) := by decide +kernel
theorem dX0_blockByStamp_20 : decode cX0_blockByStamp 20 = .ok (.getfield 9, 3) := by decide +kernel
theorem dX0_blockByStamp_23 : decode cX0_blockByStamp 23 = .ok (.iload_n 2, 1) := by decide +kernel
theorem dX0_blockByStamp_24 : decode cX0_blockByStamp 24 = .ok (.iaload, 1) := by decide +kernel
theorem dX0_blockByStamp_25 : decode cX0_blockByStamp 25 = .ok (.ireturn, 1) := by decide +kernel
theorem dX0_blockByStamp_26 : decode cX0_blockByStamp 26 = .ok (.iinc 2 1, 3) := by decide +kernel
theorem dX0_blockByStamp_29 : decode cX0_blockByStamp 29 = .ok (.goto (-27), 3) := by decide +kernel
theorem dX0_blockByStamp_32 : decode cX0_blockByStamp 32 = .ok (.iconst (-1), 1) := by decide +kernel
theorem dX0_blockByStamp_33 : decode cX0_blockByStamp 33 = .ok (.ireturn, 1) := by decide +kernel
def mE_X0_blockByStamp_B2 (N : Nat) (hd2 : ST → Int32 → Int32 → Option (Int32 × ST)) (σ : ST) (x1 : Int32) (x2 : Int32) : Option (Int32 × ST) :=
  zLet (σ 3 7) fun v4 =>
  if (v4 : Int32) ≤ x2 then
    some ((-1), σ)
  else
    zCall (mE_X0_rankOf N σ x2) fun v12 s12 =>
    if (v12 : Int32) = x1 then
      zGet (s12 4) 64 x2 fun v24 =>
      some (v24, s12)
    else
      zLet (x2 + (1)) fun v26 =>
      hd2 s12 x1 v26
def mE_X0_blockByStamp_2 (N : Nat) : ST → Int32 → Int32 → Option (Int32 × ST) := zIt (mE_X0_blockByStamp_B2 N) (fun _ _ _ => none) N
set_option maxRecDepth 20000 in
set_option maxHeartbeats 2000000 in
theorem tE_X0_blockByStamp_2 {adr : Nat → Nat} {cI cZ cS : ClassId} {tL tH : Nat} {X : zX} {q : Int32 × ST} (B : zC X 3 (wdE adr cI cZ cS tL tH) cX0_blockByStamp RX0 (some .int) { frames := 1, cells := 0, slots := 0, locals := 23 }) (N : Nat) : ∀ (σ : ST) (x1 : Int32) (x2 : Int32), mE_X0_blockByStamp_2 N σ x1 x2 = some q → zJ X 3 (wdE adr cI cZ cS tL tH) (zi q) 2 [(0, .ref (adr 3)), (1, .int x1), (2, .int x2)] [] σ := by
  refine zIt_ind (P := fun (hd : ST → Int32 → Int32 → Option (Int32 × ST)) => ∀ (σ : ST) (x1 : Int32) (x2 : Int32), hd σ x1 x2 = some q → zJ X 3 (wdE adr cI cZ cS tL tH) (zi q) 2 [(0, .ref (adr 3)), (1, .int x1), (2, .int x2)] [] σ) (fun _ _ _ hf => by cases hf) (fun hd2 hh2 => ?_) N
  intro σ x1 x2 hf
  refine z_iload_n B dX0_blockByStamp_2 2 rfl rfl ?_
  refine z_aload_n B dX0_blockByStamp_3 0 rfl rfl ?_
  refine fE_g_X0_C_size B dX0_blockByStamp_4 hf (fun v4 hf => ?_)
  refine z_icmp_ge B 32 dX0_blockByStamp_7 (by decide) hf (fun hf => ?_) (fun hf => ?_)
  · refine z_iconst B (-1) dX0_blockByStamp_32 zc_iconst_m1 ?_
    exact z_ireturn B dX0_blockByStamp_33 hf
  · refine z_aload_n B dX0_blockByStamp_10 0 rfl rfl ?_
    refine z_iload_n B dX0_blockByStamp_11 2 rfl rfl ?_
    refine z_callVi B (As := [.int x2]) kcV_X0_74 dX0_blockByStamp_12 hf (fun q hq => cE_X0_rankOf q hq) (wE_o_C (adr := adr) (cI := cI) (cZ := cZ) (cS := cS) (tL := tL) (tH := tH)) rfl rfl rfl rfl (Nat.le_of_ble_eq_true rfl) rfl rfl ⟨Nat.le_of_ble_eq_true rfl, Nat.le_of_ble_eq_true rfl⟩ (fun v12 s12 hf => ?_)
    refine z_iload_n B dX0_blockByStamp_15 1 rfl rfl ?_
    refine z_icmp_ne B 26 dX0_blockByStamp_16 (by decide) hf (fun hf => ?_) (fun hf => ?_)
    · refine z_iinc B (1) 2 (fun v26 => [(2, .int v26), (0, .ref (adr 3)), (1, .int x1)]) dX0_blockByStamp_26 hf zc_iconst_1 rfl (Nat.le_of_ble_eq_true rfl) (fun _ => rfl) (fun v26 hf => ?_)
      refine z_goto B 2 dX0_blockByStamp_29 (by decide) ?_
      exact z_loc [1, 2, 0] _ rfl (hh2 s12 x1 v26 hf)
    · refine z_aload_n B dX0_blockByStamp_19 0 rfl rfl ?_
      refine fE_g_X0_C_blocks B dX0_blockByStamp_20 ?_
      refine z_iload_n B dX0_blockByStamp_23 2 rfl rfl ?_
      refine fE_l_C_blocks B dX0_blockByStamp_24 hf (fun v24 hf => ?_)
      exact z_ireturn B dX0_blockByStamp_25 hf
def mE_X0_blockByStamp (N : Nat) (σ : ST) (x1 : Int32) : Option (Int32 × ST) :=
  mE_X0_blockByStamp_2 N σ x1 (0)
set_option maxRecDepth 20000 in
set_option maxHeartbeats 2000000 in
theorem cE_X0_blockByStamp {adr : Nat → Nat} {cI cZ cS : ClassId} {tL tH : Nat} {l : Launch} {D : va_G} {N : Nat} {σ : ST} {x1 : Int32} (q : Int32 × ST) (hf : mE_X0_blockByStamp N σ x1 = some q) : zM l D (wdE adr cI cZ cS tL tH) yX0_blockByStamp cX0_blockByStamp 3 (some .int) ({ frames := 1, cells := 0, slots := 0, locals := 23 }) [.ref (adr 3), .int x1] σ (zi q) := by
  refine zM_of sfE_ok rfl (Nat.le_of_ble_eq_true rfl) [(0, .ref (adr 3)), (1, .int x1)] rfl (fun X hX1 hX2 B => ?_)
  have B : zC X 3 (wdE adr cI cZ cS tL tH) cX0_blockByStamp RX0 (some .int) { frames := 1, cells := 0, slots := 0, locals := 23 } := B
  refine z_iconst B (0) dX0_blockByStamp_0 zc_iconst_0 ?_
  refine z_istore_n B [(2, .int (0)), (0, .ref (adr 3)), (1, .int x1)] dX0_blockByStamp_1 rfl (Nat.le_of_ble_eq_true rfl) rfl ?_
  exact z_loc [1, 2, 0] _ rfl (tE_X0_blockByStamp_2 B N σ x1 (0) hf)
theorem dX0_toCome_0 : decode cX0_toCome 0 = .ok (.iload_n 1, 1) := by decide +kernel
theorem dX0_toCome_1 : decode cX0_toCome 1 = .ok (.ifCond .lt 21, 3) := by decide +kernel
theorem dX0_toCome_4 : decode cX0_toCome 4 = .ok (.iload_n 1, 1) := by decide +kernel
theorem dX0_toCome_5 : decode cX0_toCome 5 = .ok (.aload_n 0, 1) := by decide +kernel
theorem dX0_toCome_6 : decode cX0_toCome 6 = .ok (.getfield 34, 3) := by decide +kernel
theorem dX0_toCome_9 : decode cX0_toCome 9 = .ok (.if_icmp .ge 13, 3) := by decide +kernel
theorem dX0_toCome_12 : decode cX0_toCome 12 = .ok (.aload_n 0, 1) := by decide +kernel
theorem dX0_toCome_13 : decode cX0_toCome 13 = .ok (.getfield 21, 3) := by decide +kernel
theorem dX0_toCome_16 : decode cX0_toCome 16 = .ok (.iload_n 1, 1) := by decide +kernel
theorem dX0_toCome_17 : decode cX0_toCome 17 = .ok (.iaload, 1) := by decide +kernel
theorem dX0_toCome_18 : decode cX0_toCome 18 = .ok (.iconst (-1), 1) := by decide +kernel
theorem dX0_toCome_19 : decode cX0_toCome 19 = .ok (.if_icmp .ne 5, 3) := by decide +kernel
theorem dX0_toCome_22 : decode cX0_toCome 22 = .ok (.iconst 0, 1) := by decide +kernel
theorem dX0_toCome_23 : decode cX0_toCome 23 = .ok (.ireturn, 1) := by decide +kernel
theorem dX0_toCome_24 : decode cX0_toCome 24 = .ok (.iconst 0, 1) := by decide +kernel
theorem dX0_toCome_25 : decode cX0_toCome 25 = .ok (.iload_n 3, 1) := by decide +kernel
theorem dX0_toCome_26 : decode cX0_toCome 26 = .ok (.iload_n 2, 1) := by decide +kernel
theorem dX0_toCome_27 : decode cX0_toCome 27 = .ok (.aload_n 0, 1) := by decide +kernel
theorem dX0_toCome_28 : decode cX0_toCome 28 = .ok (.getfield 24, 3) := by decide +kernel
theorem dX0_toCome_31 : decode cX0_toCome 31 = .ok (.iload_n 1, 1) := by decide +kernel
theorem dX0_toCome_32 : decode cX0_toCome 32 = .ok (.iaload, 1) := by decide +kernel
theorem dX0_toCome_33 : decode cX0_toCome 33 = .ok (.isub, 1) := by decide +kernel
theorem dX0_toCome_34 : decode cX0_toCome 34 = .ok (.isub, 1) := by decide +kernel
theorem dX0_toCome_35 : decode cX0_toCome 35 = .ok (.invokestatic 56, 3) := by decide +kernel
theorem dX0_toCome_38 : decode cX0_toCome 38 = .ok (.ireturn, 1) := by decide +kernel
def mE_X0_toCome_22 (N : Nat) (σ : ST) (x1 : Int32) (x2 : Int32) (x3 : Int32) : Option (Int32 × ST) :=
  some ((0), σ)
set_option maxRecDepth 20000 in
set_option maxHeartbeats 2000000 in
theorem tE_X0_toCome_22 {adr : Nat → Nat} {cI cZ cS : ClassId} {tL tH : Nat} {X : zX} {q : Int32 × ST} (B : zC X 4 (wdE adr cI cZ cS tL tH) cX0_toCome RX0 (some .int) { frames := 1, cells := 0, slots := 0, locals := 13 }) (N : Nat) (σ : ST) (x1 : Int32) (x2 : Int32) (x3 : Int32) (hf : mE_X0_toCome_22 N σ x1 x2 x3 = some q) : zJ X 4 (wdE adr cI cZ cS tL tH) (zi q) 22 [(0, .ref (adr 3)), (1, .int x1), (2, .int x2), (3, .int x3)] [] σ := by
  refine z_iconst B (0) dX0_toCome_22 zc_iconst_0 ?_
  exact z_ireturn B dX0_toCome_23 hf
def mE_X0_toCome (N : Nat) (σ : ST) (x1 : Int32) (x2 : Int32) (x3 : Int32) : Option (Int32 × ST) :=
  if (x1 : Int32) < 0 then
    mE_X0_toCome_22 N σ x1 x2 x3
  else
    zLet (σ 3 7) fun v6 =>
    if (v6 : Int32) ≤ x1 then
      mE_X0_toCome_22 N σ x1 x2 x3
    else
      zGet (σ 7) 64 x1 fun v17 =>
      if (v17 : Int32) = (-1) then
        mE_X0_toCome_22 N σ x1 x2 x3
      else
        zGet (σ 8) 64 x1 fun v32 =>
        zLet ((x2 : Int32) - v32) fun v33 =>
        zLet ((x3 : Int32) - v33) fun v34 =>
        zLet (if ((0) : Int32) < v34 then v34 else (0)) fun v35 =>
        some (v35, σ)
set_option maxRecDepth 20000 in
set_option maxHeartbeats 2000000 in
theorem cE_X0_toCome {adr : Nat → Nat} {cI cZ cS : ClassId} {tL tH : Nat} {l : Launch} {D : va_G} {N : Nat} {σ : ST} {x1 : Int32} {x2 : Int32} {x3 : Int32} (q : Int32 × ST) (hf : mE_X0_toCome N σ x1 x2 x3 = some q) : zM l D (wdE adr cI cZ cS tL tH) yX0_toCome cX0_toCome 4 (some .int) ({ frames := 1, cells := 0, slots := 0, locals := 13 }) [.ref (adr 3), .int x1, .int x2, .int x3] σ (zi q) := by
  refine zM_of sfE_ok rfl (Nat.le_of_ble_eq_true rfl) [(0, .ref (adr 3)), (1, .int x1), (2, .int x2), (3, .int x3)] rfl (fun X hX1 hX2 B => ?_)
  have B : zC X 4 (wdE adr cI cZ cS tL tH) cX0_toCome RX0 (some .int) { frames := 1, cells := 0, slots := 0, locals := 13 } := B
  refine z_iload_n B dX0_toCome_0 1 rfl rfl ?_
  refine z_if_lt B 22 dX0_toCome_1 (by decide) hf (fun hf => ?_) (fun hf => ?_)
  · exact tE_X0_toCome_22 B N σ x1 x2 x3 hf
  · refine z_iload_n B dX0_toCome_4 1 rfl rfl ?_
    refine z_aload_n B dX0_toCome_5 0 rfl rfl ?_
    refine fE_g_X0_C_size B dX0_toCome_6 hf (fun v6 hf => ?_)
    refine z_icmp_ge B 22 dX0_toCome_9 (by decide) hf (fun hf => ?_) (fun hf => ?_)
    · exact tE_X0_toCome_22 B N σ x1 x2 x3 hf
    · refine z_aload_n B dX0_toCome_12 0 rfl rfl ?_
      refine fE_g_X0_C_owners B dX0_toCome_13 ?_
      refine z_iload_n B dX0_toCome_16 1 rfl rfl ?_
      refine fE_l_C_owners B dX0_toCome_17 hf (fun v17 hf => ?_)
      refine z_iconst B (-1) dX0_toCome_18 zc_iconst_m1 ?_
      refine z_icmp_ne B 24 dX0_toCome_19 (by decide) hf (fun hf => ?_) (fun hf => ?_)
      · refine z_iconst B (0) dX0_toCome_24 zc_iconst_0 ?_
        refine z_iload_n B dX0_toCome_25 3 rfl rfl ?_
        refine z_iload_n B dX0_toCome_26 2 rfl rfl ?_
        refine z_aload_n B dX0_toCome_27 0 rfl rfl ?_
        refine fE_g_X0_C_fetchedAt B dX0_toCome_28 ?_
        refine z_iload_n B dX0_toCome_31 1 rfl rfl ?_
        refine fE_l_C_fetchedAt B dX0_toCome_32 hf (fun v32 hf => ?_)
        refine z_isub B dX0_toCome_33 hf (fun v33 hf => ?_)
        refine z_isub B dX0_toCome_34 hf (fun v34 hf => ?_)
        refine z_mmax B kw_454 kmS_max kmI kmC_max (Nat.le_of_ble_eq_true rfl) (Nat.le_of_ble_eq_true rfl) dX0_toCome_35 hf (fun v35 hf => ?_)
        exact z_ireturn B dX0_toCome_38 hf
      · exact tE_X0_toCome_22 B N σ x1 x2 x3 hf
theorem dX0_mark_0 : decode cX0_mark 0 = .ok (.iload_n 1, 1) := by decide +kernel
theorem dX0_mark_1 : decode cX0_mark 1 = .ok (.ifCond .lt 17, 3) := by decide +kernel
theorem dX0_mark_4 : decode cX0_mark 4 = .ok (.iload_n 1, 1) := by decide +kernel
theorem dX0_mark_5 : decode cX0_mark 5 = .ok (.sipush 10000, 3) := by decide +kernel
theorem dX0_mark_8 : decode cX0_mark 8 = .ok (.if_icmp .ge 10, 3) := by decide +kernel
theorem dX0_mark_11 : decode cX0_mark 11 = .ok (.aload_n 0, 1) := by decide +kernel
theorem dX0_mark_12 : decode cX0_mark 12 = .ok (.getfield 31, 3) := by decide +kernel
theorem dX0_mark_15 : decode cX0_mark 15 = .ok (.iload_n 1, 1) := by decide +kernel
theorem dX0_mark_16 : decode cX0_mark 16 = .ok (.iload_n 2, 1) := by decide +kernel
theorem dX0_mark_17 : decode cX0_mark 17 = .ok (.iastore, 1) := by decide +kernel
theorem dX0_mark_18 : decode cX0_mark 18 = .ok (.return_, 1) := by decide +kernel
def mE_X0_mark_18 (N : Nat) (σ : ST) (x1 : Int32) (x2 : Int32) : Option (ST) :=
  some σ
set_option maxRecDepth 20000 in
set_option maxHeartbeats 2000000 in
theorem tE_X0_mark_18 {adr : Nat → Nat} {cI cZ cS : ClassId} {tL tH : Nat} {X : zX} {q : ST} (B : zC X 3 (wdE adr cI cZ cS tL tH) cX0_mark RX0 none { frames := 0, cells := 0, slots := 0, locals := 0 }) (N : Nat) (σ : ST) (x1 : Int32) (x2 : Int32) (hf : mE_X0_mark_18 N σ x1 x2 = some q) : zJ X 3 (wdE adr cI cZ cS tL tH) (zu q) 18 [(0, .ref (adr 3)), (1, .int x1), (2, .int x2)] [] σ := by
  exact z_return B dX0_mark_18 hf
def mE_X0_mark (N : Nat) (σ : ST) (x1 : Int32) (x2 : Int32) : Option (ST) :=
  if (x1 : Int32) < 0 then
    mE_X0_mark_18 N σ x1 x2
  else
    if ((10000) : Int32) ≤ x1 then
      mE_X0_mark_18 N σ x1 x2
    else
      zSet σ 10 10000 x1 x2 fun s17 =>
      mE_X0_mark_18 N s17 x1 x2
set_option maxRecDepth 20000 in
set_option maxHeartbeats 2000000 in
theorem cE_X0_mark {adr : Nat → Nat} {cI cZ cS : ClassId} {tL tH : Nat} {l : Launch} {D : va_G} {N : Nat} {σ : ST} {x1 : Int32} {x2 : Int32} (q : ST) (hf : mE_X0_mark N σ x1 x2 = some q) : zM l D (wdE adr cI cZ cS tL tH) yX0_mark cX0_mark 3 none ({ frames := 0, cells := 0, slots := 0, locals := 0 }) [.ref (adr 3), .int x1, .int x2] σ (zu q) := by
  refine zM_of sfE_ok rfl (Nat.le_of_ble_eq_true rfl) [(0, .ref (adr 3)), (1, .int x1), (2, .int x2)] rfl (fun X hX1 hX2 B => ?_)
  have B : zC X 3 (wdE adr cI cZ cS tL tH) cX0_mark RX0 none { frames := 0, cells := 0, slots := 0, locals := 0 } := B
  refine z_iload_n B dX0_mark_0 1 rfl rfl ?_
  refine z_if_lt B 18 dX0_mark_1 (by decide) hf (fun hf => ?_) (fun hf => ?_)
  · exact tE_X0_mark_18 B N σ x1 x2 hf
  · refine z_iload_n B dX0_mark_4 1 rfl rfl ?_
    refine z_sipush B (10000) dX0_mark_5 zc_sipush_10000 ?_
    refine z_icmp_ge B 18 dX0_mark_8 (by decide) hf (fun hf => ?_) (fun hf => ?_)
    · exact tE_X0_mark_18 B N σ x1 x2 hf
    · refine z_aload_n B dX0_mark_11 0 rfl rfl ?_
      refine fE_g_X0_C_where B dX0_mark_12 ?_
      refine z_iload_n B dX0_mark_15 1 rfl rfl ?_
      refine z_iload_n B dX0_mark_16 2 rfl rfl ?_
      refine fE_s_C_where B dX0_mark_17 hf (fun s17 hf => ?_)
      exact tE_X0_mark_18 B N s17 x1 x2 hf
theorem dX0_takeOut_0 : decode cX0_takeOut 0 = .ok (.iload_n 1, 1) := by decide +kernel
theorem dX0_takeOut_1 : decode cX0_takeOut 1 = .ok (.ifCond .lt 11, 3) := by decide +kernel
theorem dX0_takeOut_4 : decode cX0_takeOut 4 = .ok (.iload_n 1, 1) := by decide +kernel
theorem dX0_takeOut_5 : decode cX0_takeOut 5 = .ok (.aload_n 0, 1) := by decide +kernel
theorem dX0_takeOut_6 : decode cX0_takeOut 6 = .ok (.getfield 34, 3) := by decide +kernel
theorem dX0_takeOut_9 : decode cX0_takeOut 9 = .ok (.if_icmp .lt 5, 3) := by decide +kernel
theorem dX0_takeOut_12 : decode cX0_takeOut 12 = .ok (.iconst (-1), 1) := by decide +kernel
theorem dX0_takeOut_13 : decode cX0_takeOut 13 = .ok (.ireturn, 1) := by decide +kernel
theorem dX0_takeOut_14 : decode cX0_takeOut 14 = .ok (.iconst (-1), 1) := by decide +kernel
theorem dX0_takeOut_15 : decode cX0_takeOut 15 = .ok (.istore_n 2, 1) := by decide +kernel
theorem dX0_takeOut_16 : decode cX0_takeOut 16 = .ok (.aload_n 0, 1) := by decide +kernel
theorem dX0_takeOut_17 : decode cX0_takeOut 17 = .ok (.getfield 27, 3) := by decide +kernel
theorem dX0_takeOut_20 : decode cX0_takeOut 20 = .ok (.iload_n 1, 1) := by decide +kernel
theorem dX0_takeOut_21 : decode cX0_takeOut 21 = .ok (.baload, 1) := by decide +kernel
theorem dX0_takeOut_22 : decode cX0_takeOut 22 = .ok (.ifCond .eq 20, 3) := by decide +kernel
theorem dX0_takeOut_25 : decode cX0_takeOut 25 = .ok (.aload_n 0, 1) := by decide +kernel
theorem dX0_takeOut_26 : decode cX0_takeOut 26 = .ok (.getfield 21, 3) := by decide +kernel
theorem dX0_takeOut_29 : decode cX0_takeOut 29 = .ok (.iload_n 1, 1) := by decide +kernel
theorem dX0_takeOut_30 : decode cX0_takeOut 30 = .ok (.iaload, 1) := by decide +kernel
theorem dX0_takeOut_31 : decode cX0_takeOut 31 = .ok (.istore_n 2, 1) := by decide +kernel
theorem dX0_takeOut_32 : decode cX0_takeOut 32 = .ok (.aload_n 0, 1) := by decide +kernel
theorem dX0_takeOut_33 : decode cX0_takeOut 33 = .ok (.dup, 1) := by decide +kernel
theorem dX0_takeOut_34 : decode cX0_takeOut 34 = .ok (.getfield 41, 3) := by decide +kernel
theorem dX0_takeOut_37 : decode cX0_takeOut 37 = .ok (.iconst 1, 1) := by decide +kernel
theorem dX0_takeOut_38 : decode cX0_takeOut 38 = .ok (.isub, 1) := by decide +kernel
theorem dX0_takeOut_39 : decode cX0_takeOut 39 = .ok (.putfield 41, 3) := by decide +kernel
theorem dX0_takeOut_42 : decode cX0_takeOut 42 = .ok (.aload_n 0, 1) := by decide +kernel
theorem dX0_takeOut_43 : decode cX0_takeOut 43 = .ok (.aload_n 0, 1) := by decide +kernel
theorem dX0_takeOut_44 : decode cX0_takeOut 44 = .ok (.getfield 9, 3) := by decide +kernel
theorem dX0_takeOut_47 : decode cX0_takeOut 47 = .ok (.iload_n 1, 1) := by decide +kernel
theorem dX0_takeOut_48 : decode cX0_takeOut 48 = .ok (.iaload, 1) := by decide +kernel
theorem dX0_takeOut_49 : decode cX0_takeOut 49 = .ok (.iconst 0, 1) := by decide +kernel
theorem dX0_takeOut_50 : decode cX0_takeOut 50 = .ok (.invokevirtual 44, 3) := by decide +kernel
theorem dX0_takeOut_53 : decode cX0_takeOut 53 = .ok (.aload_n 0, 1) := by decide +kernel
theorem dX0_takeOut_54 : decode cX0_takeOut 54 = .ok (.dup, 1) := by decide +kernel
theorem dX0_takeOut_55 : decode cX0_takeOut 55 = .ok (.getfield 34, 3) := by decide +kernel
theorem dX0_takeOut_58 : decode cX0_takeOut 58 = .ok (.iconst 1, 1) := by decide +kernel
theorem dX0_takeOut_59 : decode cX0_takeOut 59 = .ok (.isub, 1) := by decide +kernel
theorem dX0_takeOut_60 : decode cX0_takeOut 60 = .ok (.putfield 34, 3) := by decide +kernel
theorem dX0_takeOut_63 : decode cX0_takeOut 63 = .ok (.iload_n 1, 1) := by decide +kernel
theorem dX0_takeOut_64 : decode cX0_takeOut 64 = .ok (.aload_n 0, 1) := by decide +kernel
theorem dX0_takeOut_65 : decode cX0_takeOut 65 = .ok (.getfield 34, 3) := by decide +kernel
theorem dX0_takeOut_68 : decode cX0_takeOut 68 = .ok (.if_icmp .eq 106, 3) := by decide +kernel
theorem dX0_takeOut_71 : decode cX0_takeOut 71 = .ok (.aload_n 0, 1) := by decide +kernel
theorem dX0_takeOut_72 : decode cX0_takeOut 72 = .ok (.getfield 9, 3) := by decide +kernel
theorem dX0_takeOut_75 : decode cX0_takeOut 75 = .ok (.iload_n 1, 1) := by decide +kernel
theorem dX0_takeOut_76 : decode cX0_takeOut 76 = .ok (.aload_n 0, 1) := by decide +kernel
theorem dX0_takeOut_77 : decode cX0_takeOut 77 = .ok (.getfield 9, 3) := by decide +kernel
theorem dX0_takeOut_80 : decode cX0_takeOut 80 = .ok (.aload_n 0, 1) := by decide +kernel
theorem dX0_takeOut_81 : decode cX0_takeOut 81 = .ok (.getfield 34, 3) := by decide +kernel
theorem dX0_takeOut_84 : decode cX0_takeOut 84 = .ok (.iaload, 1) := by decide +kernel
theorem dX0_takeOut_85 : decode cX0_takeOut 85 = .ok (.iastore, 1) := by decide +kernel
theorem dX0_takeOut_86 : decode cX0_takeOut 86 = .ok (.aload_n 0, 1) := by decide +kernel
theorem dX0_takeOut_87 : decode cX0_takeOut 87 = .ok (.getfield 15, 3) := by decide +kernel
theorem dX0_takeOut_90 : decode cX0_takeOut 90 = .ok (.iload_n 1, 1) := by decide +kernel
theorem dX0_takeOut_91 : decode cX0_takeOut 91 = .ok (.aload_n 0, 1) := by decide +kernel
theorem dX0_takeOut_92 : decode cX0_takeOut 92 = .ok (.getfield 15, 3) := by decide +kernel
theorem dX0_takeOut_95 : decode cX0_takeOut 95 = .ok (.aload_n 0, 1) := by decide +kernel
theorem dX0_takeOut_96 : decode cX0_takeOut 96 = .ok (.getfield 34, 3) := by decide +kernel
theorem dX0_takeOut_99 : decode cX0_takeOut 99 = .ok (.iaload, 1) := by decide +kernel
theorem dX0_takeOut_100 : decode cX0_takeOut 100 = .ok (.iastore, 1) := by decide +kernel
theorem dX0_takeOut_101 : decode cX0_takeOut 101 = .ok (.aload_n 0, 1) := by decide +kernel
theorem dX0_takeOut_102 : decode cX0_takeOut 102 = .ok (.getfield 18, 3) := by decide +kernel
theorem dX0_takeOut_105 : decode cX0_takeOut 105 = .ok (.iload_n 1, 1) := by decide +kernel
theorem dX0_takeOut_106 : decode cX0_takeOut 106 = .ok (.aload_n 0, 1) := by decide +kernel
theorem dX0_takeOut_107 : decode cX0_takeOut 107 = .ok (.getfield 18, 3) := by decide +kernel
theorem dX0_takeOut_110 : decode cX0_takeOut 110 = .ok (.aload_n 0, 1) := by decide +kernel
theorem dX0_takeOut_111 : decode cX0_takeOut 111 = .ok (.getfield 34, 3) := by decide +kernel
theorem dX0_takeOut_114 : decode cX0_takeOut 114 = .ok (.iaload, 1) := by decide +kernel
theorem dX0_takeOut_115 : decode cX0_takeOut 115 = .ok (.iastore, 1) := by decide +kernel
theorem dX0_takeOut_116 : decode cX0_takeOut 116 = .ok (.aload_n 0, 1) := by decide +kernel
theorem dX0_takeOut_117 : decode cX0_takeOut 117 = .ok (.getfield 21, 3) := by decide +kernel
theorem dX0_takeOut_120 : decode cX0_takeOut 120 = .ok (.iload_n 1, 1) := by decide +kernel
theorem dX0_takeOut_121 : decode cX0_takeOut 121 = .ok (.aload_n 0, 1) := by decide +kernel
theorem dX0_takeOut_122 : decode cX0_takeOut 122 = .ok (.getfield 21, 3) := by decide +kernel
theorem dX0_takeOut_125 : decode cX0_takeOut 125 = .ok (.aload_n 0, 1) := by decide +kernel
theorem dX0_takeOut_126 : decode cX0_takeOut 126 = .ok (.getfield 34, 3) := by decide +kernel
theorem dX0_takeOut_129 : decode cX0_takeOut 129 = .ok (.iaload, 1) := by decide +kernel
theorem dX0_takeOut_130 : decode cX0_takeOut 130 = .ok (.iastore, 1) := by decide +kernel
theorem dX0_takeOut_131 : decode cX0_takeOut 131 = .ok (.aload_n 0, 1) := by decide +kernel
theorem dX0_takeOut_132 : decode cX0_takeOut 132 = .ok (.getfield 24, 3) := by decide +kernel
theorem dX0_takeOut_135 : decode cX0_takeOut 135 = .ok (.iload_n 1, 1) := by decide +kernel
theorem dX0_takeOut_136 : decode cX0_takeOut 136 = .ok (.aload_n 0, 1) := by decide +kernel
theorem dX0_takeOut_137 : decode cX0_takeOut 137 = .ok (.getfield 24, 3) := by decide +kernel
theorem dX0_takeOut_140 : decode cX0_takeOut 140 = .ok (.aload_n 0, 1) := by decide +kernel
theorem dX0_takeOut_141 : decode cX0_takeOut 141 = .ok (.getfield 34, 3) := by decide +kernel
theorem dX0_takeOut_144 : decode cX0_takeOut 144 = .ok (.iaload, 1) := by decide +kernel
theorem dX0_takeOut_145 : decode cX0_takeOut 145 = .ok (.iastore, 1) := by decide +kernel
theorem dX0_takeOut_146 : decode cX0_takeOut 146 = .ok (.aload_n 0, 1) := by decide +kernel
theorem dX0_takeOut_147 : decode cX0_takeOut 147 = .ok (.getfield 27, 3) := by decide +kernel
theorem dX0_takeOut_150 : decode cX0_takeOut 150 = .ok (.iload_n 1, 1) := by decide +kernel
theorem dX0_takeOut_151 : decode cX0_takeOut 151 = .ok (.aload_n 0, 1) := by decide +kernel
theorem dX0_takeOut_152 : decode cX0_takeOut 152 = .ok (.getfield 27, 3) := by decide +kernel
theorem dX0_takeOut_155 : decode cX0_takeOut 155 = .ok (.aload_n 0, 1) := by decide +kernel
theorem dX0_takeOut_156 : decode cX0_takeOut 156 = .ok (.getfield 34, 3) := by decide +kernel
theorem dX0_takeOut_159 : decode cX0_takeOut 159 = .ok (.baload, 1) := by decide +kernel
theorem dX0_takeOut_160 : decode cX0_takeOut 160 = .ok (.bastore, 1) := by decide +kernel
theorem dX0_takeOut_161 : decode cX0_takeOut 161 = .ok (.aload_n 0, 1) := by decide +kernel
theorem dX0_takeOut_162 : decode cX0_takeOut 162 = .ok (.aload_n 0, 1) := by decide +kernel
theorem dX0_takeOut_163 : decode cX0_takeOut 163 = .ok (.getfield 9, 3) := by decide +kernel
theorem dX0_takeOut_166 : decode cX0_takeOut 166 = .ok (.iload_n 1, 1) := by decide +kernel
theorem dX0_takeOut_167 : decode cX0_takeOut 167 = .ok (.iaload, 1) := by decide +kernel
theorem dX0_takeOut_168 : decode cX0_takeOut 168 = .ok (.iload_n 1, 1) := by decide +kernel
theorem dX0_takeOut_169 : decode cX0_takeOut 169 = .ok (.iconst 1, 1) := by decide +kernel
theorem dX0_takeOut_170 : decode cX0_takeOut 170 = .ok (.iadd, 1) := by decide +kernel
theorem dX0_takeOut_171 : decode cX0_takeOut 171 = .ok (.invokevirtual 44, 3) := by decide +kernel
theorem dX0_takeOut_174 : decode cX0_takeOut 174 = .ok (.iload_n 2, 1) := by decide +kernel
theorem dX0_takeOut_175 : decode cX0_takeOut 175 = .ok (.ireturn, 1) := by decide +kernel
def mE_X0_takeOut_174 (N : Nat) (σ : ST) (x1 : Int32) (x2 : Int32) : Option (Int32 × ST) :=
  some (x2, σ)
set_option maxRecDepth 20000 in
set_option maxHeartbeats 2000000 in
theorem tE_X0_takeOut_174 {adr : Nat → Nat} {cI cZ cS : ClassId} {tL tH : Nat} {X : zX} {q : Int32 × ST} (B : zC X 3 (wdE adr cI cZ cS tL tH) cX0_takeOut RX0 (some .int) { frames := 1, cells := 0, slots := 0, locals := 22 }) (N : Nat) (σ : ST) (x1 : Int32) (x2 : Int32) (hf : mE_X0_takeOut_174 N σ x1 x2 = some q) : zJ X 3 (wdE adr cI cZ cS tL tH) (zi q) 174 [(0, .ref (adr 3)), (1, .int x1), (2, .int x2)] [] σ := by
  refine z_iload_n B dX0_takeOut_174 2 rfl rfl ?_
  exact z_ireturn B dX0_takeOut_175 hf
def mE_X0_takeOut_42 (N : Nat) (σ : ST) (x1 : Int32) (x2 : Int32) : Option (Int32 × ST) :=
  zGet (σ 4) 64 x1 fun v48 =>
  zCallu (mE_X0_mark N σ v48 (0)) fun s50 =>
  zLet (s50 3 7) fun v55 =>
  zLet ((v55 : Int32) - (1)) fun v59 =>
  zLet (zUp s50 3 7 v59) fun s60 =>
  zLet (s60 3 7) fun v65 =>
  if (x1 : Int32) = v65 then
    mE_X0_takeOut_174 N s60 x1 x2
  else
    zLet (s60 3 7) fun v81 =>
    zGet (s60 4) 64 v81 fun v84 =>
    zSet s60 4 64 x1 v84 fun s85 =>
    zLet (s85 3 7) fun v96 =>
    zGet (s85 5) 64 v96 fun v99 =>
    zSet s85 5 64 x1 v99 fun s100 =>
    zLet (s100 3 7) fun v111 =>
    zGet (s100 6) 64 v111 fun v114 =>
    zSet s100 6 64 x1 v114 fun s115 =>
    zLet (s115 3 7) fun v126 =>
    zGet (s115 7) 64 v126 fun v129 =>
    zSet s115 7 64 x1 v129 fun s130 =>
    zLet (s130 3 7) fun v141 =>
    zGet (s130 8) 64 v141 fun v144 =>
    zSet s130 8 64 x1 v144 fun s145 =>
    zLet (s145 3 7) fun v156 =>
    zGet (s145 9) 64 v156 fun v159 =>
    zSet s145 9 64 x1 (vp_nar .boolean v159) fun s160 =>
    zGet (s160 4) 64 x1 fun v167 =>
    zLet ((x1 : Int32) + (1)) fun v170 =>
    zCallu (mE_X0_mark N s160 v167 v170) fun s171 =>
    mE_X0_takeOut_174 N s171 x1 x2
set_option maxRecDepth 20000 in
set_option maxHeartbeats 2000000 in
theorem tE_X0_takeOut_42 {adr : Nat → Nat} {cI cZ cS : ClassId} {tL tH : Nat} {X : zX} {q : Int32 × ST} (B : zC X 3 (wdE adr cI cZ cS tL tH) cX0_takeOut RX0 (some .int) { frames := 1, cells := 0, slots := 0, locals := 22 }) (N : Nat) (σ : ST) (x1 : Int32) (x2 : Int32) (hf : mE_X0_takeOut_42 N σ x1 x2 = some q) : zJ X 3 (wdE adr cI cZ cS tL tH) (zi q) 42 [(0, .ref (adr 3)), (1, .int x1), (2, .int x2)] [] σ := by
  refine z_aload_n B dX0_takeOut_42 0 rfl rfl ?_
  refine z_aload_n B dX0_takeOut_43 0 rfl rfl ?_
  refine fE_g_X0_C_blocks B dX0_takeOut_44 ?_
  refine z_iload_n B dX0_takeOut_47 1 rfl rfl ?_
  refine fE_l_C_blocks B dX0_takeOut_48 hf (fun v48 hf => ?_)
  refine z_iconst B (0) dX0_takeOut_49 zc_iconst_0 ?_
  refine z_callVu B (As := [.int v48, .int (0)]) kcV_X0_44 dX0_takeOut_50 hf (fun q hq => cE_X0_mark q hq) (wE_o_C (adr := adr) (cI := cI) (cZ := cZ) (cS := cS) (tL := tL) (tH := tH)) rfl rfl rfl rfl (Nat.le_of_ble_eq_true rfl) rfl rfl ⟨Nat.le_of_ble_eq_true rfl, Nat.le_of_ble_eq_true rfl⟩ (fun s50 hf => ?_)
  refine z_aload_n B dX0_takeOut_53 0 rfl rfl ?_
  refine z_dup B dX0_takeOut_54 rfl ?_
  refine fE_g_X0_C_size B dX0_takeOut_55 hf (fun v55 hf => ?_)
  refine z_iconst B (1) dX0_takeOut_58 zc_iconst_1 ?_
  refine z_isub B dX0_takeOut_59 hf (fun v59 hf => ?_)
  refine fE_p_X0_C_size B dX0_takeOut_60 hf (fun s60 hf => ?_)
  refine z_iload_n B dX0_takeOut_63 1 rfl rfl ?_
  refine z_aload_n B dX0_takeOut_64 0 rfl rfl ?_
  refine fE_g_X0_C_size B dX0_takeOut_65 hf (fun v65 hf => ?_)
  refine z_icmp_eq B 174 dX0_takeOut_68 (by decide) hf (fun hf => ?_) (fun hf => ?_)
  · exact tE_X0_takeOut_174 B N s60 x1 x2 hf
  · refine z_aload_n B dX0_takeOut_71 0 rfl rfl ?_
    refine fE_g_X0_C_blocks B dX0_takeOut_72 ?_
    refine z_iload_n B dX0_takeOut_75 1 rfl rfl ?_
    refine z_aload_n B dX0_takeOut_76 0 rfl rfl ?_
    refine fE_g_X0_C_blocks B dX0_takeOut_77 ?_
    refine z_aload_n B dX0_takeOut_80 0 rfl rfl ?_
    refine fE_g_X0_C_size B dX0_takeOut_81 hf (fun v81 hf => ?_)
    refine fE_l_C_blocks B dX0_takeOut_84 hf (fun v84 hf => ?_)
    refine fE_s_C_blocks B dX0_takeOut_85 hf (fun s85 hf => ?_)
    refine z_aload_n B dX0_takeOut_86 0 rfl rfl ?_
    refine fE_g_X0_C_stamps B dX0_takeOut_87 ?_
    refine z_iload_n B dX0_takeOut_90 1 rfl rfl ?_
    refine z_aload_n B dX0_takeOut_91 0 rfl rfl ?_
    refine fE_g_X0_C_stamps B dX0_takeOut_92 ?_
    refine z_aload_n B dX0_takeOut_95 0 rfl rfl ?_
    refine fE_g_X0_C_size B dX0_takeOut_96 hf (fun v96 hf => ?_)
    refine fE_l_C_stamps B dX0_takeOut_99 hf (fun v99 hf => ?_)
    refine fE_s_C_stamps B dX0_takeOut_100 hf (fun s100 hf => ?_)
    refine z_aload_n B dX0_takeOut_101 0 rfl rfl ?_
    refine fE_g_X0_C_touched B dX0_takeOut_102 ?_
    refine z_iload_n B dX0_takeOut_105 1 rfl rfl ?_
    refine z_aload_n B dX0_takeOut_106 0 rfl rfl ?_
    refine fE_g_X0_C_touched B dX0_takeOut_107 ?_
    refine z_aload_n B dX0_takeOut_110 0 rfl rfl ?_
    refine fE_g_X0_C_size B dX0_takeOut_111 hf (fun v111 hf => ?_)
    refine fE_l_C_touched B dX0_takeOut_114 hf (fun v114 hf => ?_)
    refine fE_s_C_touched B dX0_takeOut_115 hf (fun s115 hf => ?_)
    refine z_aload_n B dX0_takeOut_116 0 rfl rfl ?_
    refine fE_g_X0_C_owners B dX0_takeOut_117 ?_
    refine z_iload_n B dX0_takeOut_120 1 rfl rfl ?_
    refine z_aload_n B dX0_takeOut_121 0 rfl rfl ?_
    refine fE_g_X0_C_owners B dX0_takeOut_122 ?_
    refine z_aload_n B dX0_takeOut_125 0 rfl rfl ?_
    refine fE_g_X0_C_size B dX0_takeOut_126 hf (fun v126 hf => ?_)
    refine fE_l_C_owners B dX0_takeOut_129 hf (fun v129 hf => ?_)
    refine fE_s_C_owners B dX0_takeOut_130 hf (fun s130 hf => ?_)
    refine z_aload_n B dX0_takeOut_131 0 rfl rfl ?_
    refine fE_g_X0_C_fetchedAt B dX0_takeOut_132 ?_
    refine z_iload_n B dX0_takeOut_135 1 rfl rfl ?_
    refine z_aload_n B dX0_takeOut_136 0 rfl rfl ?_
    refine fE_g_X0_C_fetchedAt B dX0_takeOut_137 ?_
    refine z_aload_n B dX0_takeOut_140 0 rfl rfl ?_
    refine fE_g_X0_C_size B dX0_takeOut_141 hf (fun v141 hf => ?_)
    refine fE_l_C_fetchedAt B dX0_takeOut_144 hf (fun v144 hf => ?_)
    refine fE_s_C_fetchedAt B dX0_takeOut_145 hf (fun s145 hf => ?_)
    refine z_aload_n B dX0_takeOut_146 0 rfl rfl ?_
    refine fE_g_X0_C_waiting B dX0_takeOut_147 ?_
    refine z_iload_n B dX0_takeOut_150 1 rfl rfl ?_
    refine z_aload_n B dX0_takeOut_151 0 rfl rfl ?_
    refine fE_g_X0_C_waiting B dX0_takeOut_152 ?_
    refine z_aload_n B dX0_takeOut_155 0 rfl rfl ?_
    refine fE_g_X0_C_size B dX0_takeOut_156 hf (fun v156 hf => ?_)
    refine fE_l_C_waiting B dX0_takeOut_159 hf (fun v159 hf => ?_)
    refine fE_s_C_waiting B dX0_takeOut_160 hf (fun s160 hf => ?_)
    refine z_aload_n B dX0_takeOut_161 0 rfl rfl ?_
    refine z_aload_n B dX0_takeOut_162 0 rfl rfl ?_
    refine fE_g_X0_C_blocks B dX0_takeOut_163 ?_
    refine z_iload_n B dX0_takeOut_166 1 rfl rfl ?_
    refine fE_l_C_blocks B dX0_takeOut_167 hf (fun v167 hf => ?_)
    refine z_iload_n B dX0_takeOut_168 1 rfl rfl ?_
    refine z_iconst B (1) dX0_takeOut_169 zc_iconst_1 ?_
    refine z_iadd B dX0_takeOut_170 hf (fun v170 hf => ?_)
    refine z_callVu B (As := [.int v167, .int v170]) kcV_X0_44 dX0_takeOut_171 hf (fun q hq => cE_X0_mark q hq) (wE_o_C (adr := adr) (cI := cI) (cZ := cZ) (cS := cS) (tL := tL) (tH := tH)) rfl rfl rfl rfl (Nat.le_of_ble_eq_true rfl) rfl rfl ⟨Nat.le_of_ble_eq_true rfl, Nat.le_of_ble_eq_true rfl⟩ (fun s171 hf => ?_)
    exact tE_X0_takeOut_174 B N s171 x1 x2 hf
def mE_X0_takeOut_12 (N : Nat) (σ : ST) (x1 : Int32) : Option (Int32 × ST) :=
  some ((-1), σ)
set_option maxRecDepth 20000 in
set_option maxHeartbeats 2000000 in
theorem tE_X0_takeOut_12 {adr : Nat → Nat} {cI cZ cS : ClassId} {tL tH : Nat} {X : zX} {q : Int32 × ST} (B : zC X 3 (wdE adr cI cZ cS tL tH) cX0_takeOut RX0 (some .int) { frames := 1, cells := 0, slots := 0, locals := 22 }) (N : Nat) (σ : ST) (x1 : Int32) (hf : mE_X0_takeOut_12 N σ x1 = some q) : zJ X 3 (wdE adr cI cZ cS tL tH) (zi q) 12 [(0, .ref (adr 3)), (1, .int x1)] [] σ := by
  refine z_iconst B (-1) dX0_takeOut_12 zc_iconst_m1 ?_
  exact z_ireturn B dX0_takeOut_13 hf
def mE_X0_takeOut (N : Nat) (σ : ST) (x1 : Int32) : Option (Int32 × ST) :=
  if (x1 : Int32) < 0 then
    mE_X0_takeOut_12 N σ x1
  else
    zLet (σ 3 7) fun v6 =>
    if (x1 : Int32) < v6 then
      zGet (σ 9) 64 x1 fun v21 =>
      if (v21 : Int32) = 0 then
        mE_X0_takeOut_42 N σ x1 (-1)
      else
        zGet (σ 7) 64 x1 fun v30 =>
        zLet (σ 3 8) fun v34 =>
        zLet ((v34 : Int32) - (1)) fun v38 =>
        zLet (zUp σ 3 8 v38) fun s39 =>
        mE_X0_takeOut_42 N s39 x1 v30
    else
      mE_X0_takeOut_12 N σ x1
set_option maxRecDepth 20000 in
set_option maxHeartbeats 2000000 in
theorem cE_X0_takeOut {adr : Nat → Nat} {cI cZ cS : ClassId} {tL tH : Nat} {l : Launch} {D : va_G} {N : Nat} {σ : ST} {x1 : Int32} (q : Int32 × ST) (hf : mE_X0_takeOut N σ x1 = some q) : zM l D (wdE adr cI cZ cS tL tH) yX0_takeOut cX0_takeOut 3 (some .int) ({ frames := 1, cells := 0, slots := 0, locals := 22 }) [.ref (adr 3), .int x1] σ (zi q) := by
  refine zM_of sfE_ok rfl (Nat.le_of_ble_eq_true rfl) [(0, .ref (adr 3)), (1, .int x1)] rfl (fun X hX1 hX2 B => ?_)
  have B : zC X 3 (wdE adr cI cZ cS tL tH) cX0_takeOut RX0 (some .int) { frames := 1, cells := 0, slots := 0, locals := 22 } := B
  refine z_iload_n B dX0_takeOut_0 1 rfl rfl ?_
  refine z_if_lt B 12 dX0_takeOut_1 (by decide) hf (fun hf => ?_) (fun hf => ?_)
  · exact tE_X0_takeOut_12 B N σ x1 hf
  · refine z_iload_n B dX0_takeOut_4 1 rfl rfl ?_
    refine z_aload_n B dX0_takeOut_5 0 rfl rfl ?_
    refine fE_g_X0_C_size B dX0_takeOut_6 hf (fun v6 hf => ?_)
    refine z_icmp_lt B 14 dX0_takeOut_9 (by decide) hf (fun hf => ?_) (fun hf => ?_)
    · refine z_iconst B (-1) dX0_takeOut_14 zc_iconst_m1 ?_
      refine z_istore_n B [(2, .int (-1)), (0, .ref (adr 3)), (1, .int x1)] dX0_takeOut_15 rfl (Nat.le_of_ble_eq_true rfl) rfl ?_
      refine z_aload_n B dX0_takeOut_16 1 rfl rfl ?_
      refine fE_g_X0_C_waiting B dX0_takeOut_17 ?_
      refine z_iload_n B dX0_takeOut_20 2 rfl rfl ?_
      refine fE_l_C_waiting B dX0_takeOut_21 hf (fun v21 hf => ?_)
      refine z_if_eq B 42 dX0_takeOut_22 (by decide) hf (fun hf => ?_) (fun hf => ?_)
      · exact z_loc [1, 2, 0] _ rfl (tE_X0_takeOut_42 B N σ x1 (-1) hf)
      · refine z_aload_n B dX0_takeOut_25 1 rfl rfl ?_
        refine fE_g_X0_C_owners B dX0_takeOut_26 ?_
        refine z_iload_n B dX0_takeOut_29 2 rfl rfl ?_
        refine fE_l_C_owners B dX0_takeOut_30 hf (fun v30 hf => ?_)
        refine z_istore_n B [(2, .int v30), (0, .ref (adr 3)), (1, .int x1)] dX0_takeOut_31 rfl (Nat.le_of_ble_eq_true rfl) rfl ?_
        refine z_aload_n B dX0_takeOut_32 1 rfl rfl ?_
        refine z_dup B dX0_takeOut_33 rfl ?_
        refine fE_g_X0_C_waitingSize B dX0_takeOut_34 hf (fun v34 hf => ?_)
        refine z_iconst B (1) dX0_takeOut_37 zc_iconst_1 ?_
        refine z_isub B dX0_takeOut_38 hf (fun v38 hf => ?_)
        refine fE_p_X0_C_waitingSize B dX0_takeOut_39 hf (fun s39 hf => ?_)
        exact z_loc [1, 2, 0] _ rfl (tE_X0_takeOut_42 B N s39 x1 v30 hf)
    · exact tE_X0_takeOut_12 B N σ x1 hf
theorem dX2_term_0 : decode cX2_term 0 = .ok (.iload_n 1, 1) := by decide +kernel
theorem dX2_term_1 : decode cX2_term 1 = .ok (.ifCond .lt 9, 3) := by decide +kernel
theorem dX2_term_4 : decode cX2_term 4 = .ok (.iload_n 1, 1) := by decide +kernel
theorem dX2_term_5 : decode cX2_term 5 = .ok (.bipush 10, 2) := by decide +kernel
theorem dX2_term_7 : decode cX2_term 7 = .ok (.if_icmp .lt 7, 3) := by decide +kernel
theorem dX2_term_10 : decode cX2_term 10 = .ok (.iconst (-1), 1) := by decide +kernel
theorem dX2_term_11 : decode cX2_term 11 = .ok (.goto 9, 3) := by decide +kernel
theorem dX2_term_14 : decode cX2_term 14 = .ok (.aload_n 0, 1) := by decide +kernel
theorem dX2_term_15 : decode cX2_term 15 = .ok (.getfield 15, 3) := by decide +kernel
theorem dX2_term_18 : decode cX2_term 18 = .ok (.iload_n 1, 1) := by decide +kernel
theorem dX2_term_19 : decode cX2_term 19 = .ok (.iaload, 1) := by decide +kernel
theorem dX2_term_20 : decode cX2_term 20 = .ok (.ireturn, 1) := by decide +kernel
def mE_X2_term_20 (N : Nat) (σ : ST) (x1 : Int32) (k0 : Int32) : Option (Int32 × ST) :=
  some (k0, σ)
set_option maxRecDepth 20000 in
set_option maxHeartbeats 2000000 in
theorem tE_X2_term_20 {adr : Nat → Nat} {cI cZ cS : ClassId} {tL tH : Nat} {X : zX} {q : Int32 × ST} (B : zC X 2 (wdE adr cI cZ cS tL tH) cX2_term RX2 (some .int) { frames := 0, cells := 0, slots := 0, locals := 0 }) (N : Nat) (σ : ST) (x1 : Int32) (k0 : Int32) (hf : mE_X2_term_20 N σ x1 k0 = some q) : zJ X 2 (wdE adr cI cZ cS tL tH) (zi q) 20 [(0, .ref (adr 0)), (1, .int x1)] [.int k0] σ := by
  exact z_ireturn B dX2_term_20 hf
def mE_X2_term_10 (N : Nat) (σ : ST) (x1 : Int32) : Option (Int32 × ST) :=
  mE_X2_term_20 N σ x1 (-1)
set_option maxRecDepth 20000 in
set_option maxHeartbeats 2000000 in
theorem tE_X2_term_10 {adr : Nat → Nat} {cI cZ cS : ClassId} {tL tH : Nat} {X : zX} {q : Int32 × ST} (B : zC X 2 (wdE adr cI cZ cS tL tH) cX2_term RX2 (some .int) { frames := 0, cells := 0, slots := 0, locals := 0 }) (N : Nat) (σ : ST) (x1 : Int32) (hf : mE_X2_term_10 N σ x1 = some q) : zJ X 2 (wdE adr cI cZ cS tL tH) (zi q) 10 [(0, .ref (adr 0)), (1, .int x1)] [] σ := by
  refine z_iconst B (-1) dX2_term_10 zc_iconst_m1 ?_
  refine z_goto B 20 dX2_term_11 (by decide) ?_
  exact tE_X2_term_20 B N σ x1 (-1) hf
def mE_X2_term (N : Nat) (σ : ST) (x1 : Int32) : Option (Int32 × ST) :=
  if (x1 : Int32) < 0 then
    mE_X2_term_10 N σ x1
  else
    if (x1 : Int32) < (10) then
      zGet (σ 1) 10 x1 fun v19 =>
      mE_X2_term_20 N σ x1 v19
    else
      mE_X2_term_10 N σ x1
set_option maxRecDepth 20000 in
set_option maxHeartbeats 2000000 in
theorem cE_X2_term {adr : Nat → Nat} {cI cZ cS : ClassId} {tL tH : Nat} {l : Launch} {D : va_G} {N : Nat} {σ : ST} {x1 : Int32} (q : Int32 × ST) (hf : mE_X2_term N σ x1 = some q) : zM l D (wdE adr cI cZ cS tL tH) yX2_term cX2_term 2 (some .int) ({ frames := 0, cells := 0, slots := 0, locals := 0 }) [.ref (adr 0), .int x1] σ (zi q) := by
  refine zM_of sfE_ok rfl (Nat.le_of_ble_eq_true rfl) [(0, .ref (adr 0)), (1, .int x1)] rfl (fun X hX1 hX2 B => ?_)
  have B : zC X 2 (wdE adr cI cZ cS tL tH) cX2_term RX2 (some .int) { frames := 0, cells := 0, slots := 0, locals := 0 } := B
  refine z_iload_n B dX2_term_0 1 rfl rfl ?_
  refine z_if_lt B 10 dX2_term_1 (by decide) hf (fun hf => ?_) (fun hf => ?_)
  · exact tE_X2_term_10 B N σ x1 hf
  · refine z_iload_n B dX2_term_4 1 rfl rfl ?_
    refine z_bipush B (10) dX2_term_5 zc_bipush_10 ?_
    refine z_icmp_lt B 14 dX2_term_7 (by decide) hf (fun hf => ?_) (fun hf => ?_)
    · refine z_aload_n B dX2_term_14 0 rfl rfl ?_
      refine fE_g_X2_E_terms B dX2_term_15 ?_
      refine z_iload_n B dX2_term_18 1 rfl rfl ?_
      refine fE_l_E_terms B dX2_term_19 hf (fun v19 hf => ?_)
      exact tE_X2_term_20 B N σ x1 v19 hf
    · exact tE_X2_term_10 B N σ x1 hf
theorem dX7_isTermValue_0 : decode cX7_isTermValue 0 = .ok (.iload_n 0, 1) := by decide +kernel
theorem dX7_isTermValue_1 : decode cX7_isTermValue 1 = .ok (.ifCond .lt 31, 3) := by decide +kernel
theorem dX7_isTermValue_4 : decode cX7_isTermValue 4 = .ok (.iload_n 0, 1) := by decide +kernel
theorem dX7_isTermValue_5 : decode cX7_isTermValue 5 = .ok (.bipush 10, 2) := by decide +kernel
theorem dX7_isTermValue_7 : decode cX7_isTermValue 7 = .ok (.if_icmp .ge 25, 3) := by decide +kernel
theorem dX7_isTermValue_10 : decode cX7_isTermValue 10 = .ok (.iload_n 1, 1) := by decide +kernel
theorem dX7_isTermValue_11 : decode cX7_isTermValue 11 = .ok (.getstatic 240, 3) := by decide +kernel
theorem dX7_isTermValue_14 : decode cX7_isTermValue 14 = .ok (.iload_n 0, 1) := by decide +kernel
theorem dX7_isTermValue_15 : decode cX7_isTermValue 15 = .ok (.iaload, 1) := by decide +kernel
theorem dX7_isTermValue_16 : decode cX7_isTermValue 16 = .ok (.if_icmp .lt 16, 3) := by decide +kernel
theorem dX7_isTermValue_19 : decode cX7_isTermValue 19 = .ok (.iload_n 1, 1) := by decide +kernel
theorem dX7_isTermValue_20 : decode cX7_isTermValue 20 = .ok (.getstatic 243, 3) := by decide +kernel
theorem dX7_isTermValue_23 : decode cX7_isTermValue 23 = .ok (.iload_n 0, 1) := by decide +kernel
theorem dX7_isTermValue_24 : decode cX7_isTermValue 24 = .ok (.iaload, 1) := by decide +kernel
theorem dX7_isTermValue_25 : decode cX7_isTermValue 25 = .ok (.if_icmp .gt 7, 3) := by decide +kernel
theorem dX7_isTermValue_28 : decode cX7_isTermValue 28 = .ok (.iconst 1, 1) := by decide +kernel
theorem dX7_isTermValue_29 : decode cX7_isTermValue 29 = .ok (.goto 4, 3) := by decide +kernel
theorem dX7_isTermValue_32 : decode cX7_isTermValue 32 = .ok (.iconst 0, 1) := by decide +kernel
theorem dX7_isTermValue_33 : decode cX7_isTermValue 33 = .ok (.ireturn, 1) := by decide +kernel
def mE_X7_isTermValue_33 (N : Nat) (σ : ST) (x0 : Int32) (x1 : Int32) (k0 : Int32) : Option (Int32 × ST) :=
  zBool k0 (some (k0, σ))
set_option maxRecDepth 20000 in
set_option maxHeartbeats 2000000 in
theorem tE_X7_isTermValue_33 {adr : Nat → Nat} {cI cZ cS : ClassId} {tL tH : Nat} {X : zX} {q : Int32 × ST} (B : zC X 2 (wdE adr cI cZ cS tL tH) cX7_isTermValue RX7 (some .boolean) { frames := 0, cells := 0, slots := 0, locals := 0 }) (N : Nat) (σ : ST) (x0 : Int32) (x1 : Int32) (k0 : Int32) (hf : mE_X7_isTermValue_33 N σ x0 x1 k0 = some q) : zJ X 2 (wdE adr cI cZ cS tL tH) (zi q) 33 [(0, .int x0), (1, .int x1)] [.int k0] σ := by
  exact z_zreturn B dX7_isTermValue_33 hf
def mE_X7_isTermValue_32 (N : Nat) (σ : ST) (x0 : Int32) (x1 : Int32) : Option (Int32 × ST) :=
  mE_X7_isTermValue_33 N σ x0 x1 (0)
set_option maxRecDepth 20000 in
set_option maxHeartbeats 2000000 in
theorem tE_X7_isTermValue_32 {adr : Nat → Nat} {cI cZ cS : ClassId} {tL tH : Nat} {X : zX} {q : Int32 × ST} (B : zC X 2 (wdE adr cI cZ cS tL tH) cX7_isTermValue RX7 (some .boolean) { frames := 0, cells := 0, slots := 0, locals := 0 }) (N : Nat) (σ : ST) (x0 : Int32) (x1 : Int32) (hf : mE_X7_isTermValue_32 N σ x0 x1 = some q) : zJ X 2 (wdE adr cI cZ cS tL tH) (zi q) 32 [(0, .int x0), (1, .int x1)] [] σ := by
  refine z_iconst B (0) dX7_isTermValue_32 zc_iconst_0 ?_
  exact tE_X7_isTermValue_33 B N σ x0 x1 (0) hf
def mE_X7_isTermValue (N : Nat) (σ : ST) (x0 : Int32) (x1 : Int32) : Option (Int32 × ST) :=
  if (x0 : Int32) < 0 then
    mE_X7_isTermValue_32 N σ x0 x1
  else
    if ((10) : Int32) ≤ x0 then
      mE_X7_isTermValue_32 N σ x0 x1
    else
      zGet lowF 10 x0 fun v15 =>
      if (x1 : Int32) < v15 then
        mE_X7_isTermValue_32 N σ x0 x1
      else
        zGet highF 10 x0 fun v24 =>
        if (v24 : Int32) < x1 then
          mE_X7_isTermValue_32 N σ x0 x1
        else
          mE_X7_isTermValue_33 N σ x0 x1 (1)
set_option maxRecDepth 20000 in
set_option maxHeartbeats 2000000 in
theorem cE_X7_isTermValue {adr : Nat → Nat} {cI cZ cS : ClassId} {tL tH : Nat} {l : Launch} {D : va_G} {N : Nat} {σ : ST} {x0 : Int32} {x1 : Int32} (q : Int32 × ST) (hf : mE_X7_isTermValue N σ x0 x1 = some q) : zM l D (wdE adr cI cZ cS tL tH) yX7_isTermValue cX7_isTermValue 2 (some .boolean) ({ frames := 0, cells := 0, slots := 0, locals := 0 }) [.int x0, .int x1] σ (zi q) := by
  refine zM_of sfE_ok rfl (Nat.le_of_ble_eq_true rfl) [(0, .int x0), (1, .int x1)] rfl (fun X hX1 hX2 B => ?_)
  have B : zC X 2 (wdE adr cI cZ cS tL tH) cX7_isTermValue RX7 (some .boolean) { frames := 0, cells := 0, slots := 0, locals := 0 } := B
  refine z_iload_n B dX7_isTermValue_0 0 rfl rfl ?_
  refine z_if_lt B 32 dX7_isTermValue_1 (by decide) hf (fun hf => ?_) (fun hf => ?_)
  · exact tE_X7_isTermValue_32 B N σ x0 x1 hf
  · refine z_iload_n B dX7_isTermValue_4 0 rfl rfl ?_
    refine z_bipush B (10) dX7_isTermValue_5 zc_bipush_10 ?_
    refine z_icmp_ge B 32 dX7_isTermValue_7 (by decide) hf (fun hf => ?_) (fun hf => ?_)
    · exact tE_X7_isTermValue_32 B N σ x0 x1 hf
    · refine z_iload_n B dX7_isTermValue_10 1 rfl rfl ?_
      refine z_gets B (sfE_ZL B) kw_343 dX7_isTermValue_11 ?_
      refine z_iload_n B dX7_isTermValue_14 0 rfl rfl ?_
      refine z_sald B (sfE_TL B) dX7_isTermValue_15 hf (fun v15 hf => ?_)
      refine z_icmp_lt B 32 dX7_isTermValue_16 (by decide) hf (fun hf => ?_) (fun hf => ?_)
      · exact tE_X7_isTermValue_32 B N σ x0 x1 hf
      · refine z_iload_n B dX7_isTermValue_19 1 rfl rfl ?_
        refine z_gets B (sfE_ZH B) kw_345 dX7_isTermValue_20 ?_
        refine z_iload_n B dX7_isTermValue_23 0 rfl rfl ?_
        refine z_sald B (sfE_TH B) dX7_isTermValue_24 hf (fun v24 hf => ?_)
        refine z_icmp_gt B 32 dX7_isTermValue_25 (by decide) hf (fun hf => ?_) (fun hf => ?_)
        · exact tE_X7_isTermValue_32 B N σ x0 x1 hf
        · refine z_iconst B (1) dX7_isTermValue_28 zc_iconst_1 ?_
          refine z_goto B 33 dX7_isTermValue_29 (by decide) ?_
          exact tE_X7_isTermValue_33 B N σ x0 x1 (1) hf
theorem dX2_setTerm_0 : decode cX2_setTerm 0 = .ok (.iload_n 1, 1) := by decide +kernel
theorem dX2_setTerm_1 : decode cX2_setTerm 1 = .ok (.iload_n 2, 1) := by decide +kernel
theorem dX2_setTerm_2 : decode cX2_setTerm 2 = .ok (.invokestatic 66, 3) := by decide +kernel
theorem dX2_setTerm_5 : decode cX2_setTerm 5 = .ok (.ifCond .eq 10, 3) := by decide +kernel
theorem dX2_setTerm_8 : decode cX2_setTerm 8 = .ok (.aload_n 0, 1) := by decide +kernel
theorem dX2_setTerm_9 : decode cX2_setTerm 9 = .ok (.getfield 15, 3) := by decide +kernel
theorem dX2_setTerm_12 : decode cX2_setTerm 12 = .ok (.iload_n 1, 1) := by decide +kernel
theorem dX2_setTerm_13 : decode cX2_setTerm 13 = .ok (.iload_n 2, 1) := by decide +kernel
theorem dX2_setTerm_14 : decode cX2_setTerm 14 = .ok (.iastore, 1) := by decide +kernel
theorem dX2_setTerm_15 : decode cX2_setTerm 15 = .ok (.return_, 1) := by decide +kernel
def mE_X2_setTerm_15 (N : Nat) (σ : ST) (x1 : Int32) (x2 : Int32) : Option (ST) :=
  some σ
set_option maxRecDepth 20000 in
set_option maxHeartbeats 2000000 in
theorem tE_X2_setTerm_15 {adr : Nat → Nat} {cI cZ cS : ClassId} {tL tH : Nat} {X : zX} {q : ST} (B : zC X 3 (wdE adr cI cZ cS tL tH) cX2_setTerm RX2 none { frames := 1, cells := 0, slots := 0, locals := 21 }) (N : Nat) (σ : ST) (x1 : Int32) (x2 : Int32) (hf : mE_X2_setTerm_15 N σ x1 x2 = some q) : zJ X 3 (wdE adr cI cZ cS tL tH) (zu q) 15 [(0, .ref (adr 0)), (1, .int x1), (2, .int x2)] [] σ := by
  exact z_return B dX2_setTerm_15 hf
def mE_X2_setTerm (N : Nat) (σ : ST) (x1 : Int32) (x2 : Int32) : Option (ST) :=
  zCall (mE_X7_isTermValue N σ x1 x2) fun v2 s2 =>
  if (v2 : Int32) = 0 then
    mE_X2_setTerm_15 N s2 x1 x2
  else
    zSet s2 1 10 x1 x2 fun s14 =>
    mE_X2_setTerm_15 N s14 x1 x2
set_option maxRecDepth 20000 in
set_option maxHeartbeats 2000000 in
theorem cE_X2_setTerm {adr : Nat → Nat} {cI cZ cS : ClassId} {tL tH : Nat} {l : Launch} {D : va_G} {N : Nat} {σ : ST} {x1 : Int32} {x2 : Int32} (q : ST) (hf : mE_X2_setTerm N σ x1 x2 = some q) : zM l D (wdE adr cI cZ cS tL tH) yX2_setTerm cX2_setTerm 3 none ({ frames := 1, cells := 0, slots := 0, locals := 21 }) [.ref (adr 0), .int x1, .int x2] σ (zu q) := by
  refine zM_of sfE_ok rfl (Nat.le_of_ble_eq_true rfl) [(0, .ref (adr 0)), (1, .int x1), (2, .int x2)] rfl (fun X hX1 hX2 B => ?_)
  have B : zC X 3 (wdE adr cI cZ cS tL tH) cX2_setTerm RX2 none { frames := 1, cells := 0, slots := 0, locals := 21 } := B
  refine z_iload_n B dX2_setTerm_0 1 rfl rfl ?_
  refine z_iload_n B dX2_setTerm_1 2 rfl rfl ?_
  refine z_callSN B (n := 2) (As := [.int x1, .int x2]) (sfE_N B) kn_static kn_init kn_code ⟨by decide, by decide, by decide⟩ dX2_setTerm_2 hf (fun q hq => cE_X7_isTermValue q hq) rfl rfl (Nat.le_of_ble_eq_true rfl) rfl rfl ⟨Nat.le_of_ble_eq_true rfl, Nat.le_of_ble_eq_true rfl⟩ (fun v2 s2 hf => ?_)
  refine z_if_eq B 15 dX2_setTerm_5 (by decide) hf (fun hf => ?_) (fun hf => ?_)
  · exact tE_X2_setTerm_15 B N s2 x1 x2 hf
  · refine z_aload_n B dX2_setTerm_8 0 rfl rfl ?_
    refine fE_g_X2_E_terms B dX2_setTerm_9 ?_
    refine z_iload_n B dX2_setTerm_12 1 rfl rfl ?_
    refine z_iload_n B dX2_setTerm_13 2 rfl rfl ?_
    refine fE_s_E_terms B dX2_setTerm_14 hf (fun s14 hf => ?_)
    exact tE_X2_setTerm_15 B N s14 x1 x2 hf
theorem dX2_hasBlock_0 : decode cX2_hasBlock 0 = .ok (.iload_n 1, 1) := by decide +kernel
theorem dX2_hasBlock_1 : decode cX2_hasBlock 1 = .ok (.ifCond .lt 18, 3) := by decide +kernel
theorem dX2_hasBlock_4 : decode cX2_hasBlock 4 = .ok (.iload_n 1, 1) := by decide +kernel
theorem dX2_hasBlock_5 : decode cX2_hasBlock 5 = .ok (.aload_n 0, 1) := by decide +kernel
theorem dX2_hasBlock_6 : decode cX2_hasBlock 6 = .ok (.getfield 15, 3) := by decide +kernel
theorem dX2_hasBlock_9 : decode cX2_hasBlock 9 = .ok (.bipush 7, 2) := by decide +kernel
theorem dX2_hasBlock_11 : decode cX2_hasBlock 11 = .ok (.iaload, 1) := by decide +kernel
theorem dX2_hasBlock_12 : decode cX2_hasBlock 12 = .ok (.if_icmp .ge 7, 3) := by decide +kernel
theorem dX2_hasBlock_15 : decode cX2_hasBlock 15 = .ok (.iconst 1, 1) := by decide +kernel
theorem dX2_hasBlock_16 : decode cX2_hasBlock 16 = .ok (.goto 4, 3) := by decide +kernel
theorem dX2_hasBlock_19 : decode cX2_hasBlock 19 = .ok (.iconst 0, 1) := by decide +kernel
theorem dX2_hasBlock_20 : decode cX2_hasBlock 20 = .ok (.ireturn, 1) := by decide +kernel
def mE_X2_hasBlock_20 (N : Nat) (σ : ST) (x1 : Int32) (k0 : Int32) : Option (Int32 × ST) :=
  zBool k0 (some (k0, σ))
set_option maxRecDepth 20000 in
set_option maxHeartbeats 2000000 in
theorem tE_X2_hasBlock_20 {adr : Nat → Nat} {cI cZ cS : ClassId} {tL tH : Nat} {X : zX} {q : Int32 × ST} (B : zC X 2 (wdE adr cI cZ cS tL tH) cX2_hasBlock RX2 (some .boolean) { frames := 0, cells := 0, slots := 0, locals := 0 }) (N : Nat) (σ : ST) (x1 : Int32) (k0 : Int32) (hf : mE_X2_hasBlock_20 N σ x1 k0 = some q) : zJ X 2 (wdE adr cI cZ cS tL tH) (zi q) 20 [(0, .ref (adr 0)), (1, .int x1)] [.int k0] σ := by
  exact z_zreturn B dX2_hasBlock_20 hf
def mE_X2_hasBlock_19 (N : Nat) (σ : ST) (x1 : Int32) : Option (Int32 × ST) :=
  mE_X2_hasBlock_20 N σ x1 (0)
set_option maxRecDepth 20000 in
set_option maxHeartbeats 2000000 in
theorem tE_X2_hasBlock_19 {adr : Nat → Nat} {cI cZ cS : ClassId} {tL tH : Nat} {X : zX} {q : Int32 × ST} (B : zC X 2 (wdE adr cI cZ cS tL tH) cX2_hasBlock RX2 (some .boolean) { frames := 0, cells := 0, slots := 0, locals := 0 }) (N : Nat) (σ : ST) (x1 : Int32) (hf : mE_X2_hasBlock_19 N σ x1 = some q) : zJ X 2 (wdE adr cI cZ cS tL tH) (zi q) 19 [(0, .ref (adr 0)), (1, .int x1)] [] σ := by
  refine z_iconst B (0) dX2_hasBlock_19 zc_iconst_0 ?_
  exact tE_X2_hasBlock_20 B N σ x1 (0) hf
def mE_X2_hasBlock (N : Nat) (σ : ST) (x1 : Int32) : Option (Int32 × ST) :=
  if (x1 : Int32) < 0 then
    mE_X2_hasBlock_19 N σ x1
  else
    zGet (σ 1) 10 (7) fun v11 =>
    if (v11 : Int32) ≤ x1 then
      mE_X2_hasBlock_19 N σ x1
    else
      mE_X2_hasBlock_20 N σ x1 (1)
set_option maxRecDepth 20000 in
set_option maxHeartbeats 2000000 in
theorem cE_X2_hasBlock {adr : Nat → Nat} {cI cZ cS : ClassId} {tL tH : Nat} {l : Launch} {D : va_G} {N : Nat} {σ : ST} {x1 : Int32} (q : Int32 × ST) (hf : mE_X2_hasBlock N σ x1 = some q) : zM l D (wdE adr cI cZ cS tL tH) yX2_hasBlock cX2_hasBlock 2 (some .boolean) ({ frames := 0, cells := 0, slots := 0, locals := 0 }) [.ref (adr 0), .int x1] σ (zi q) := by
  refine zM_of sfE_ok rfl (Nat.le_of_ble_eq_true rfl) [(0, .ref (adr 0)), (1, .int x1)] rfl (fun X hX1 hX2 B => ?_)
  have B : zC X 2 (wdE adr cI cZ cS tL tH) cX2_hasBlock RX2 (some .boolean) { frames := 0, cells := 0, slots := 0, locals := 0 } := B
  refine z_iload_n B dX2_hasBlock_0 1 rfl rfl ?_
  refine z_if_lt B 19 dX2_hasBlock_1 (by decide) hf (fun hf => ?_) (fun hf => ?_)
  · exact tE_X2_hasBlock_19 B N σ x1 hf
  · refine z_iload_n B dX2_hasBlock_4 1 rfl rfl ?_
    refine z_aload_n B dX2_hasBlock_5 0 rfl rfl ?_
    refine fE_g_X2_E_terms B dX2_hasBlock_6 ?_
    refine z_bipush B (7) dX2_hasBlock_9 zc_bipush_7 ?_
    refine fE_l_E_terms B dX2_hasBlock_11 hf (fun v11 hf => ?_)
    refine z_icmp_ge B 19 dX2_hasBlock_12 (by decide) hf (fun hf => ?_) (fun hf => ?_)
    · exact tE_X2_hasBlock_19 B N σ x1 hf
    · refine z_iconst B (1) dX2_hasBlock_15 zc_iconst_1 ?_
      refine z_goto B 20 dX2_hasBlock_16 (by decide) ?_
      exact tE_X2_hasBlock_20 B N σ x1 (1) hf
theorem dX2_streamAt_0 : decode cX2_streamAt 0 = .ok (.iload_n 1, 1) := by decide +kernel
theorem dX2_streamAt_1 : decode cX2_streamAt 1 = .ok (.ifCond .lt 22, 3) := by decide +kernel
theorem dX2_streamAt_4 : decode cX2_streamAt 4 = .ok (.iload_n 1, 1) := by decide +kernel
theorem dX2_streamAt_5 : decode cX2_streamAt 5 = .ok (.bipush 6, 2) := by decide +kernel
theorem dX2_streamAt_7 : decode cX2_streamAt 7 = .ok (.if_icmp .ge 16, 3) := by decide +kernel
theorem dX2_streamAt_10 : decode cX2_streamAt 10 = .ok (.aload_n 0, 1) := by decide +kernel
theorem dX2_streamAt_11 : decode cX2_streamAt 11 = .ok (.getfield 40, 3) := by decide +kernel
theorem dX2_streamAt_14 : decode cX2_streamAt 14 = .ok (.iload_n 1, 1) := by decide +kernel
theorem dX2_streamAt_15 : decode cX2_streamAt 15 = .ok (.aaload, 1) := by decide +kernel
theorem dX2_streamAt_16 : decode cX2_streamAt 16 = .ok (.getfield 70, 3) := by decide +kernel
theorem dX2_streamAt_19 : decode cX2_streamAt 19 = .ok (.iconst (-1), 1) := by decide +kernel
theorem dX2_streamAt_20 : decode cX2_streamAt 20 = .ok (.if_icmp .ne 5, 3) := by decide +kernel
theorem dX2_streamAt_23 : decode cX2_streamAt 23 = .ok (.aconst_null, 1) := by decide +kernel
theorem dX2_streamAt_24 : decode cX2_streamAt 24 = .ok (.areturn, 1) := by decide +kernel
theorem dX2_streamAt_25 : decode cX2_streamAt 25 = .ok (.aload_n 0, 1) := by decide +kernel
theorem dX2_streamAt_26 : decode cX2_streamAt 26 = .ok (.getfield 40, 3) := by decide +kernel
theorem dX2_streamAt_29 : decode cX2_streamAt 29 = .ok (.iload_n 1, 1) := by decide +kernel
theorem dX2_streamAt_30 : decode cX2_streamAt 30 = .ok (.aaload, 1) := by decide +kernel
theorem dX2_streamAt_31 : decode cX2_streamAt 31 = .ok (.areturn, 1) := by decide +kernel
def mE_X2_streamAt_23 (N : Nat) (σ : ST) (x1 : Int32) : Option (Option (Fin 6) × ST) :=
  some (none, σ)
set_option maxRecDepth 20000 in
set_option maxHeartbeats 2000000 in
theorem tE_X2_streamAt_23 {adr : Nat → Nat} {cI cZ cS : ClassId} {tL tH : Nat} {X : zX} {q : Option (Fin 6) × ST} (B : zC X 2 (wdE adr cI cZ cS tL tH) cX2_streamAt RX2 (some (.object "AheadPlanner$Stream")) { frames := 0, cells := 0, slots := 0, locals := 0 }) (N : Nat) (σ : ST) (x1 : Int32) (hf : mE_X2_streamAt_23 N σ x1 = some q) : zJ X 2 (wdE adr cI cZ cS tL tH) (zr adr q) 23 [(0, .ref (adr 0)), (1, .int x1)] [] σ := by
  refine z_null B dX2_streamAt_23 ?_
  exact z_areturn (o := none) B dX2_streamAt_24 hf
def mE_X2_streamAt (N : Nat) (σ : ST) (x1 : Int32) : Option (Option (Fin 6) × ST) :=
  if (x1 : Int32) < 0 then
    mE_X2_streamAt_23 N σ x1
  else
    if ((6) : Int32) ≤ x1 then
      mE_X2_streamAt_23 N σ x1
    else
      zGet6 x1 fun v15 =>
      zLet (σ (12 + (v15).val) 0) fun v16 =>
      if (v16 : Int32) = (-1) then
        mE_X2_streamAt_23 N σ x1
      else
        zGet6 x1 fun v30 =>
        some ((some v30), σ)
set_option maxRecDepth 20000 in
set_option maxHeartbeats 2000000 in
theorem cE_X2_streamAt {adr : Nat → Nat} {cI cZ cS : ClassId} {tL tH : Nat} {l : Launch} {D : va_G} {N : Nat} {σ : ST} {x1 : Int32} (q : Option (Fin 6) × ST) (hf : mE_X2_streamAt N σ x1 = some q) : zM l D (wdE adr cI cZ cS tL tH) yX2_streamAt cX2_streamAt 2 (some (.object "AheadPlanner$Stream")) ({ frames := 0, cells := 0, slots := 0, locals := 0 }) [.ref (adr 0), .int x1] σ (zr adr q) := by
  refine zM_of sfE_ok rfl (Nat.le_of_ble_eq_true rfl) [(0, .ref (adr 0)), (1, .int x1)] rfl (fun X hX1 hX2 B => ?_)
  have B : zC X 2 (wdE adr cI cZ cS tL tH) cX2_streamAt RX2 (some (.object "AheadPlanner$Stream")) { frames := 0, cells := 0, slots := 0, locals := 0 } := B
  refine z_iload_n B dX2_streamAt_0 1 rfl rfl ?_
  refine z_if_lt B 23 dX2_streamAt_1 (by decide) hf (fun hf => ?_) (fun hf => ?_)
  · exact tE_X2_streamAt_23 B N σ x1 hf
  · refine z_iload_n B dX2_streamAt_4 1 rfl rfl ?_
    refine z_bipush B (6) dX2_streamAt_5 zc_bipush_6 ?_
    refine z_icmp_ge B 23 dX2_streamAt_7 (by decide) hf (fun hf => ?_) (fun hf => ?_)
    · exact tE_X2_streamAt_23 B N σ x1 hf
    · refine z_aload_n B dX2_streamAt_10 0 rfl rfl ?_
      refine fE_g_X2_E_streams B dX2_streamAt_11 ?_
      refine z_iload_n B dX2_streamAt_14 1 rfl rfl ?_
      refine fE_streams B dX2_streamAt_15 hf (fun v15 hf => ?_)
      refine fE_g_X2_S_number B v15 dX2_streamAt_16 hf (fun v16 hf => ?_)
      refine z_iconst B (-1) dX2_streamAt_19 zc_iconst_m1 ?_
      refine z_icmp_ne B 25 dX2_streamAt_20 (by decide) hf (fun hf => ?_) (fun hf => ?_)
      · refine z_aload_n B dX2_streamAt_25 0 rfl rfl ?_
        refine fE_g_X2_E_streams B dX2_streamAt_26 ?_
        refine z_iload_n B dX2_streamAt_29 1 rfl rfl ?_
        refine fE_streams B dX2_streamAt_30 hf (fun v30 hf => ?_)
        exact z_areturn (o := (some v30)) B dX2_streamAt_31 hf
      · exact tE_X2_streamAt_23 B N σ x1 hf
theorem dX3_clear_0 : decode cX3_clear 0 = .ok (.aload_n 0, 1) := by decide +kernel
theorem dX3_clear_1 : decode cX3_clear 1 = .ok (.iconst 0, 1) := by decide +kernel
theorem dX3_clear_2 : decode cX3_clear 2 = .ok (.putfield 21, 3) := by decide +kernel
theorem dX3_clear_5 : decode cX3_clear 5 = .ok (.aload_n 0, 1) := by decide +kernel
theorem dX3_clear_6 : decode cX3_clear 6 = .ok (.iconst 0, 1) := by decide +kernel
theorem dX3_clear_7 : decode cX3_clear 7 = .ok (.putfield 25, 3) := by decide +kernel
theorem dX3_clear_10 : decode cX3_clear 10 = .ok (.return_, 1) := by decide +kernel
def mE_X3_clear (N : Nat) (σ : ST) : Option (ST) :=
  zLet (zUp σ 18 3 (0)) fun s2 =>
  zLet (zUp s2 18 4 (0)) fun s7 =>
  some s7
set_option maxRecDepth 20000 in
set_option maxHeartbeats 2000000 in
theorem cE_X3_clear {adr : Nat → Nat} {cI cZ cS : ClassId} {tL tH : Nat} {l : Launch} {D : va_G} {N : Nat} {σ : ST} (q : ST) (hf : mE_X3_clear N σ = some q) : zM l D (wdE adr cI cZ cS tL tH) yX3_clear cX3_clear 1 none ({ frames := 0, cells := 0, slots := 0, locals := 0 }) [.ref (adr 18)] σ (zu q) := by
  refine zM_of sfE_ok rfl (Nat.le_of_ble_eq_true rfl) [(0, .ref (adr 18))] rfl (fun X hX1 hX2 B => ?_)
  have B : zC X 1 (wdE adr cI cZ cS tL tH) cX3_clear RX3 none { frames := 0, cells := 0, slots := 0, locals := 0 } := B
  refine z_aload_n B dX3_clear_0 0 rfl rfl ?_
  refine z_iconst B (0) dX3_clear_1 zc_iconst_0 ?_
  refine fE_p_X3_H_eldest B dX3_clear_2 hf (fun s2 hf => ?_)
  refine z_aload_n B dX3_clear_5 0 rfl rfl ?_
  refine z_iconst B (0) dX3_clear_6 zc_iconst_0 ?_
  refine fE_p_X3_H_length B dX3_clear_7 hf (fun s7 hf => ?_)
  exact z_return B dX3_clear_10 hf
theorem dX6_clear_0 : decode cX6_clear 0 = .ok (.aload_n 0, 1) := by decide +kernel
theorem dX6_clear_1 : decode cX6_clear 1 = .ok (.iconst 0, 1) := by decide +kernel
theorem dX6_clear_2 : decode cX6_clear 2 = .ok (.putfield 15, 3) := by decide +kernel
theorem dX6_clear_5 : decode cX6_clear 5 = .ok (.aload_n 0, 1) := by decide +kernel
theorem dX6_clear_6 : decode cX6_clear 6 = .ok (.iconst 0, 1) := by decide +kernel
theorem dX6_clear_7 : decode cX6_clear 7 = .ok (.putfield 19, 3) := by decide +kernel
theorem dX6_clear_10 : decode cX6_clear 10 = .ok (.return_, 1) := by decide +kernel
def mE_X6_clear (N : Nat) (σ : ST) : Option (ST) :=
  zLet (zUp σ 22 1 (0)) fun s2 =>
  zLet (zUp s2 22 2 (0)) fun s7 =>
  some s7
set_option maxRecDepth 20000 in
set_option maxHeartbeats 2000000 in
theorem cE_X6_clear {adr : Nat → Nat} {cI cZ cS : ClassId} {tL tH : Nat} {l : Launch} {D : va_G} {N : Nat} {σ : ST} (q : ST) (hf : mE_X6_clear N σ = some q) : zM l D (wdE adr cI cZ cS tL tH) yX6_clear cX6_clear 1 none ({ frames := 0, cells := 0, slots := 0, locals := 0 }) [.ref (adr 22)] σ (zu q) := by
  refine zM_of sfE_ok rfl (Nat.le_of_ble_eq_true rfl) [(0, .ref (adr 22))] rfl (fun X hX1 hX2 B => ?_)
  have B : zC X 1 (wdE adr cI cZ cS tL tH) cX6_clear RX6 none { frames := 0, cells := 0, slots := 0, locals := 0 } := B
  refine z_aload_n B dX6_clear_0 0 rfl rfl ?_
  refine z_iconst B (0) dX6_clear_1 zc_iconst_0 ?_
  refine fE_p_X6_G_next B dX6_clear_2 hf (fun s2 hf => ?_)
  refine z_aload_n B dX6_clear_5 0 rfl rfl ?_
  refine z_iconst B (0) dX6_clear_6 zc_iconst_0 ?_
  refine fE_p_X6_G_length B dX6_clear_7 hf (fun s7 hf => ?_)
  exact z_return B dX6_clear_10 hf
theorem dJ7_fill_53178_0 : decode cJ7_fill_53178 0 = .ok (.iconst 0, 1) := by decide +kernel
theorem dJ7_fill_53178_1 : decode cJ7_fill_53178 1 = .ok (.istore_n 2, 1) := by decide +kernel
theorem dJ7_fill_53178_2 : decode cJ7_fill_53178 2 = .ok (.aload_n 0, 1) := by decide +kernel
theorem dJ7_fill_53178_3 : decode cJ7_fill_53178 3 = .ok (.arraylength, 1) := by decide +kernel
theorem dJ7_fill_53178_4 : decode cJ7_fill_53178 4 = .ok (.istore_n 3, 1) := by decide +kernel
theorem dJ7_fill_53178_5 : decode cJ7_fill_53178 5 = .ok (.iload_n 2, 1) := by decide +kernel
theorem dJ7_fill_53178_6 : decode cJ7_fill_53178 6 = .ok (.iload_n 3, 1) := by decide +kernel
theorem dJ7_fill_53178_7 : decode cJ7_fill_53178 7 = .ok (.if_icmp .ge 13, 3) := by decide +kernel
theorem dJ7_fill_53178_10 : decode cJ7_fill_53178 10 = .ok (.aload_n 0, 1) := by decide +kernel
theorem dJ7_fill_53178_11 : decode cJ7_fill_53178 11 = .ok (.iload_n 2, 1) := by decide +kernel
theorem dJ7_fill_53178_12 : decode cJ7_fill_53178 12 = .ok (.iload_n 1, 1) := by decide +kernel
theorem dJ7_fill_53178_13 : decode cJ7_fill_53178 13 = .ok (.iastore, 1) := by decide +kernel
theorem dJ7_fill_53178_14 : decode cJ7_fill_53178 14 = .ok (.iinc 2 1, 3) := by decide +kernel
theorem dJ7_fill_53178_17 : decode cJ7_fill_53178 17 = .ok (.goto (-12), 3) := by decide +kernel
theorem dJ7_fill_53178_20 : decode cJ7_fill_53178 20 = .ok (.return_, 1) := by decide +kernel
def mE_J7_fill_53178_Ecounts_B5 (N : Nat) (hd5 : ST → Int32 → Int32 → Int32 → Option (ST)) (σ : ST) (x1 : Int32) (x2 : Int32) (x3 : Int32) : Option (ST) :=
  if (x3 : Int32) ≤ x2 then
    some σ
  else
    zSet σ 2 34 x2 x1 fun s13 =>
    zLet (x2 + (1)) fun v14 =>
    hd5 s13 x1 v14 x3
def mE_J7_fill_53178_Ecounts_5 (N : Nat) : ST → Int32 → Int32 → Int32 → Option (ST) := zIt (mE_J7_fill_53178_Ecounts_B5 N) (fun _ _ _ _ => none) N
set_option maxRecDepth 20000 in
set_option maxHeartbeats 2000000 in
theorem tE_J7_fill_53178_Ecounts_5 {adr : Nat → Nat} {cI cZ cS : ClassId} {tL tH : Nat} {X : zX} {q : ST} (B : zC X 4 (wdE adr cI cZ cS tL tH) cJ7_fill_53178 RJ7 none { frames := 0, cells := 0, slots := 0, locals := 0 }) (N : Nat) : ∀ (σ : ST) (x1 : Int32) (x2 : Int32) (x3 : Int32), mE_J7_fill_53178_Ecounts_5 N σ x1 x2 x3 = some q → zJ X 4 (wdE adr cI cZ cS tL tH) (zu q) 5 [(0, .ref (adr 2)), (1, .int x1), (2, .int x2), (3, .int x3)] [] σ := by
  refine zIt_ind (P := fun (hd : ST → Int32 → Int32 → Int32 → Option (ST)) => ∀ (σ : ST) (x1 : Int32) (x2 : Int32) (x3 : Int32), hd σ x1 x2 x3 = some q → zJ X 4 (wdE adr cI cZ cS tL tH) (zu q) 5 [(0, .ref (adr 2)), (1, .int x1), (2, .int x2), (3, .int x3)] [] σ) (fun _ _ _ _ hf => by cases hf) (fun hd5 hh5 => ?_) N
  intro σ x1 x2 x3 hf
  refine z_iload_n B dJ7_fill_53178_5 2 rfl rfl ?_
  refine z_iload_n B dJ7_fill_53178_6 3 rfl rfl ?_
  refine z_icmp_ge B 20 dJ7_fill_53178_7 (by decide) hf (fun hf => ?_) (fun hf => ?_)
  · exact z_return B dJ7_fill_53178_20 hf
  · refine z_aload_n B dJ7_fill_53178_10 0 rfl rfl ?_
    refine z_iload_n B dJ7_fill_53178_11 2 rfl rfl ?_
    refine z_iload_n B dJ7_fill_53178_12 1 rfl rfl ?_
    refine fE_s_E_counts B dJ7_fill_53178_13 hf (fun s13 hf => ?_)
    refine z_iinc B (1) 2 (fun v14 => [(2, .int v14), (0, .ref (adr 2)), (1, .int x1), (3, .int x3)]) dJ7_fill_53178_14 hf zc_iconst_1 rfl (Nat.le_of_ble_eq_true rfl) (fun _ => rfl) (fun v14 hf => ?_)
    refine z_goto B 5 dJ7_fill_53178_17 (by decide) ?_
    exact z_loc [1, 2, 0, 3] _ rfl (hh5 s13 x1 v14 x3 hf)
def mE_J7_fill_53178_Ecounts (N : Nat) (σ : ST) (x1 : Int32) : Option (ST) :=
  mE_J7_fill_53178_Ecounts_5 N σ x1 (0) (34)
set_option maxRecDepth 20000 in
set_option maxHeartbeats 2000000 in
theorem cE_J7_fill_53178_Ecounts {adr : Nat → Nat} {cI cZ cS : ClassId} {tL tH : Nat} {l : Launch} {D : va_G} {N : Nat} {σ : ST} {x1 : Int32} (q : ST) (hf : mE_J7_fill_53178_Ecounts N σ x1 = some q) : zM l D (wdE adr cI cZ cS tL tH) yJ7_fill_53178 cJ7_fill_53178 4 none ({ frames := 0, cells := 0, slots := 0, locals := 0 }) [.ref (adr 2), .int x1] σ (zu q) := by
  refine zM_of sfE_ok rfl (Nat.le_of_ble_eq_true rfl) [(0, .ref (adr 2)), (1, .int x1)] rfl (fun X hX1 hX2 B => ?_)
  have B : zC X 4 (wdE adr cI cZ cS tL tH) cJ7_fill_53178 RJ7 none { frames := 0, cells := 0, slots := 0, locals := 0 } := B
  refine z_iconst B (0) dJ7_fill_53178_0 zc_iconst_0 ?_
  refine z_istore_n B [(2, .int (0)), (0, .ref (adr 2)), (1, .int x1)] dJ7_fill_53178_1 rfl (Nat.le_of_ble_eq_true rfl) rfl ?_
  refine z_aload_n B dJ7_fill_53178_2 1 rfl rfl ?_
  refine z_alen B (t0 := 0) (34) wE_g_E_counts rfl (show Int32.ofNat 34 = 34 by decide) dJ7_fill_53178_3 ?_
  refine z_istore_n B [(3, .int (34)), (2, .int (0)), (0, .ref (adr 2)), (1, .int x1)] dJ7_fill_53178_4 rfl (Nat.le_of_ble_eq_true rfl) rfl ?_
  exact z_loc [2, 3, 1, 0] _ rfl (tE_J7_fill_53178_Ecounts_5 B N σ x1 (0) (34) hf)
theorem dX0_clear_0 : decode cX0_clear 0 = .ok (.iconst 0, 1) := by decide +kernel
theorem dX0_clear_1 : decode cX0_clear 1 = .ok (.istore_n 1, 1) := by decide +kernel
theorem dX0_clear_2 : decode cX0_clear 2 = .ok (.iload_n 1, 1) := by decide +kernel
theorem dX0_clear_3 : decode cX0_clear 3 = .ok (.aload_n 0, 1) := by decide +kernel
theorem dX0_clear_4 : decode cX0_clear 4 = .ok (.getfield 34, 3) := by decide +kernel
theorem dX0_clear_7 : decode cX0_clear 7 = .ok (.if_icmp .ge 20, 3) := by decide +kernel
theorem dX0_clear_10 : decode cX0_clear 10 = .ok (.aload_n 0, 1) := by decide +kernel
theorem dX0_clear_11 : decode cX0_clear 11 = .ok (.aload_n 0, 1) := by decide +kernel
theorem dX0_clear_12 : decode cX0_clear 12 = .ok (.getfield 9, 3) := by decide +kernel
theorem dX0_clear_15 : decode cX0_clear 15 = .ok (.iload_n 1, 1) := by decide +kernel
theorem dX0_clear_16 : decode cX0_clear 16 = .ok (.iaload, 1) := by decide +kernel
theorem dX0_clear_17 : decode cX0_clear 17 = .ok (.iconst 0, 1) := by decide +kernel
theorem dX0_clear_18 : decode cX0_clear 18 = .ok (.invokevirtual 44, 3) := by decide +kernel
theorem dX0_clear_21 : decode cX0_clear 21 = .ok (.iinc 1 1, 3) := by decide +kernel
theorem dX0_clear_24 : decode cX0_clear 24 = .ok (.goto (-22), 3) := by decide +kernel
theorem dX0_clear_27 : decode cX0_clear 27 = .ok (.aload_n 0, 1) := by decide +kernel
theorem dX0_clear_28 : decode cX0_clear 28 = .ok (.iconst 0, 1) := by decide +kernel
theorem dX0_clear_29 : decode cX0_clear 29 = .ok (.putfield 34, 3) := by decide +kernel
theorem dX0_clear_32 : decode cX0_clear 32 = .ok (.aload_n 0, 1) := by decide +kernel
theorem dX0_clear_33 : decode cX0_clear 33 = .ok (.iconst 0, 1) := by decide +kernel
theorem dX0_clear_34 : decode cX0_clear 34 = .ok (.putfield 41, 3) := by decide +kernel
theorem dX0_clear_37 : decode cX0_clear 37 = .ok (.aload_n 0, 1) := by decide +kernel
theorem dX0_clear_38 : decode cX0_clear 38 = .ok (.iconst 0, 1) := by decide +kernel
theorem dX0_clear_39 : decode cX0_clear 39 = .ok (.putfield 38, 3) := by decide +kernel
theorem dX0_clear_42 : decode cX0_clear 42 = .ok (.return_, 1) := by decide +kernel
def mE_X0_clear_B2 (N : Nat) (hd2 : ST → Int32 → Option (ST)) (σ : ST) (x1 : Int32) : Option (ST) :=
  zLet (σ 3 7) fun v4 =>
  if (v4 : Int32) ≤ x1 then
    zLet (zUp σ 3 7 (0)) fun s29 =>
    zLet (zUp s29 3 8 (0)) fun s34 =>
    zLet (zUp s34 3 9 (0)) fun s39 =>
    some s39
  else
    zGet (σ 4) 64 x1 fun v16 =>
    zCallu (mE_X0_mark N σ v16 (0)) fun s18 =>
    zLet (x1 + (1)) fun v21 =>
    hd2 s18 v21
def mE_X0_clear_2 (N : Nat) : ST → Int32 → Option (ST) := zIt (mE_X0_clear_B2 N) (fun _ _ => none) N
set_option maxRecDepth 20000 in
set_option maxHeartbeats 2000000 in
theorem tE_X0_clear_2 {adr : Nat → Nat} {cI cZ cS : ClassId} {tL tH : Nat} {X : zX} {q : ST} (B : zC X 2 (wdE adr cI cZ cS tL tH) cX0_clear RX0 none { frames := 1, cells := 0, slots := 0, locals := 22 }) (N : Nat) : ∀ (σ : ST) (x1 : Int32), mE_X0_clear_2 N σ x1 = some q → zJ X 2 (wdE adr cI cZ cS tL tH) (zu q) 2 [(0, .ref (adr 3)), (1, .int x1)] [] σ := by
  refine zIt_ind (P := fun (hd : ST → Int32 → Option (ST)) => ∀ (σ : ST) (x1 : Int32), hd σ x1 = some q → zJ X 2 (wdE adr cI cZ cS tL tH) (zu q) 2 [(0, .ref (adr 3)), (1, .int x1)] [] σ) (fun _ _ hf => by cases hf) (fun hd2 hh2 => ?_) N
  intro σ x1 hf
  refine z_iload_n B dX0_clear_2 1 rfl rfl ?_
  refine z_aload_n B dX0_clear_3 0 rfl rfl ?_
  refine fE_g_X0_C_size B dX0_clear_4 hf (fun v4 hf => ?_)
  refine z_icmp_ge B 27 dX0_clear_7 (by decide) hf (fun hf => ?_) (fun hf => ?_)
  · refine z_aload_n B dX0_clear_27 0 rfl rfl ?_
    refine z_iconst B (0) dX0_clear_28 zc_iconst_0 ?_
    refine fE_p_X0_C_size B dX0_clear_29 hf (fun s29 hf => ?_)
    refine z_aload_n B dX0_clear_32 0 rfl rfl ?_
    refine z_iconst B (0) dX0_clear_33 zc_iconst_0 ?_
    refine fE_p_X0_C_waitingSize B dX0_clear_34 hf (fun s34 hf => ?_)
    refine z_aload_n B dX0_clear_37 0 rfl rfl ?_
    refine z_iconst B (0) dX0_clear_38 zc_iconst_0 ?_
    refine fE_p_X0_C_stamp B dX0_clear_39 hf (fun s39 hf => ?_)
    exact z_return B dX0_clear_42 hf
  · refine z_aload_n B dX0_clear_10 0 rfl rfl ?_
    refine z_aload_n B dX0_clear_11 0 rfl rfl ?_
    refine fE_g_X0_C_blocks B dX0_clear_12 ?_
    refine z_iload_n B dX0_clear_15 1 rfl rfl ?_
    refine fE_l_C_blocks B dX0_clear_16 hf (fun v16 hf => ?_)
    refine z_iconst B (0) dX0_clear_17 zc_iconst_0 ?_
    refine z_callVu B (As := [.int v16, .int (0)]) kcV_X0_44 dX0_clear_18 hf (fun q hq => cE_X0_mark q hq) (wE_o_C (adr := adr) (cI := cI) (cZ := cZ) (cS := cS) (tL := tL) (tH := tH)) rfl rfl rfl rfl (Nat.le_of_ble_eq_true rfl) rfl rfl ⟨Nat.le_of_ble_eq_true rfl, Nat.le_of_ble_eq_true rfl⟩ (fun s18 hf => ?_)
    refine z_iinc B (1) 1 (fun v21 => [(1, .int v21), (0, .ref (adr 3))]) dX0_clear_21 hf zc_iconst_1 rfl (Nat.le_of_ble_eq_true rfl) (fun _ => rfl) (fun v21 hf => ?_)
    refine z_goto B 2 dX0_clear_24 (by decide) ?_
    exact z_loc [1, 0] _ rfl (hh2 s18 v21 hf)
def mE_X0_clear (N : Nat) (σ : ST) : Option (ST) :=
  mE_X0_clear_2 N σ (0)
set_option maxRecDepth 20000 in
set_option maxHeartbeats 2000000 in
theorem cE_X0_clear {adr : Nat → Nat} {cI cZ cS : ClassId} {tL tH : Nat} {l : Launch} {D : va_G} {N : Nat} {σ : ST} (q : ST) (hf : mE_X0_clear N σ = some q) : zM l D (wdE adr cI cZ cS tL tH) yX0_clear cX0_clear 2 none ({ frames := 1, cells := 0, slots := 0, locals := 22 }) [.ref (adr 3)] σ (zu q) := by
  refine zM_of sfE_ok rfl (Nat.le_of_ble_eq_true rfl) [(0, .ref (adr 3))] rfl (fun X hX1 hX2 B => ?_)
  have B : zC X 2 (wdE adr cI cZ cS tL tH) cX0_clear RX0 none { frames := 1, cells := 0, slots := 0, locals := 22 } := B
  refine z_iconst B (0) dX0_clear_0 zc_iconst_0 ?_
  refine z_istore_n B [(1, .int (0)), (0, .ref (adr 3))] dX0_clear_1 rfl (Nat.le_of_ble_eq_true rfl) rfl ?_
  exact z_loc [1, 0] _ rfl (tE_X0_clear_2 B N σ (0) hf)
theorem dX2_restart_0 : decode cX2_restart 0 = .ok (.aload_n 0, 1) := by decide +kernel
theorem dX2_restart_1 : decode cX2_restart 1 = .ok (.getfield 28, 3) := by decide +kernel
theorem dX2_restart_4 : decode cX2_restart 4 = .ok (.iconst 0, 1) := by decide +kernel
theorem dX2_restart_5 : decode cX2_restart 5 = .ok (.invokestatic 73, 3) := by decide +kernel
theorem dX2_restart_8 : decode cX2_restart 8 = .ok (.aload_n 0, 1) := by decide +kernel
theorem dX2_restart_9 : decode cX2_restart 9 = .ok (.getfield 34, 3) := by decide +kernel
theorem dX2_restart_12 : decode cX2_restart 12 = .ok (.invokevirtual 79, 3) := by decide +kernel
theorem dX2_restart_15 : decode cX2_restart 15 = .ok (.iconst 0, 1) := by decide +kernel
theorem dX2_restart_16 : decode cX2_restart 16 = .ok (.istore_n 1, 1) := by decide +kernel
theorem dX2_restart_17 : decode cX2_restart 17 = .ok (.iload_n 1, 1) := by decide +kernel
theorem dX2_restart_18 : decode cX2_restart 18 = .ok (.bipush 6, 2) := by decide +kernel
theorem dX2_restart_20 : decode cX2_restart 20 = .ok (.if_icmp .ge 18, 3) := by decide +kernel
theorem dX2_restart_23 : decode cX2_restart 23 = .ok (.aload_n 0, 1) := by decide +kernel
theorem dX2_restart_24 : decode cX2_restart 24 = .ok (.getfield 40, 3) := by decide +kernel
theorem dX2_restart_27 : decode cX2_restart 27 = .ok (.iload_n 1, 1) := by decide +kernel
theorem dX2_restart_28 : decode cX2_restart 28 = .ok (.aaload, 1) := by decide +kernel
theorem dX2_restart_29 : decode cX2_restart 29 = .ok (.invokevirtual 82, 3) := by decide +kernel
theorem dX2_restart_32 : decode cX2_restart 32 = .ok (.iinc 1 1, 3) := by decide +kernel
theorem dX2_restart_35 : decode cX2_restart 35 = .ok (.goto (-18), 3) := by decide +kernel
theorem dX2_restart_38 : decode cX2_restart 38 = .ok (.aload_n 0, 1) := by decide +kernel
theorem dX2_restart_39 : decode cX2_restart 39 = .ok (.getfield 48, 3) := by decide +kernel
theorem dX2_restart_42 : decode cX2_restart 42 = .ok (.invokevirtual 85, 3) := by decide +kernel
theorem dX2_restart_45 : decode cX2_restart 45 = .ok (.aload_n 0, 1) := by decide +kernel
theorem dX2_restart_46 : decode cX2_restart 46 = .ok (.getfield 55, 3) := by decide +kernel
theorem dX2_restart_49 : decode cX2_restart 49 = .ok (.invokevirtual 86, 3) := by decide +kernel
theorem dX2_restart_52 : decode cX2_restart 52 = .ok (.aload_n 0, 1) := by decide +kernel
theorem dX2_restart_53 : decode cX2_restart 53 = .ok (.iconst 0, 1) := by decide +kernel
theorem dX2_restart_54 : decode cX2_restart 54 = .ok (.putfield 87, 3) := by decide +kernel
theorem dX2_restart_57 : decode cX2_restart 57 = .ok (.aload_n 0, 1) := by decide +kernel
theorem dX2_restart_58 : decode cX2_restart 58 = .ok (.iconst (-1), 1) := by decide +kernel
theorem dX2_restart_59 : decode cX2_restart 59 = .ok (.putfield 62, 3) := by decide +kernel
theorem dX2_restart_62 : decode cX2_restart 62 = .ok (.return_, 1) := by decide +kernel
def mE_X2_restart_B17 (N : Nat) (hd17 : ST → Int32 → Option (ST)) (σ : ST) (x1 : Int32) : Option (ST) :=
  if ((6) : Int32) ≤ x1 then
    zCallu (mE_X3_clear N σ) fun s42 =>
    zCallu (mE_X6_clear N s42) fun s49 =>
    zLet (zUp s49 0 8 (0)) fun s54 =>
    zLet (zUp s54 0 9 (-1)) fun s59 =>
    some s59
  else
    zGet6 x1 fun v28 =>
    zCallu (mE_X4_leave N σ v28) fun s29 =>
    zLet (x1 + (1)) fun v32 =>
    hd17 s29 v32
def mE_X2_restart_17 (N : Nat) : ST → Int32 → Option (ST) := zIt (mE_X2_restart_B17 N) (fun _ _ => none) N
set_option maxRecDepth 20000 in
set_option maxHeartbeats 2000000 in
theorem tE_X2_restart_17 {adr : Nat → Nat} {cI cZ cS : ClassId} {tL tH : Nat} {X : zX} {q : ST} (B : zC X 2 (wdE adr cI cZ cS tL tH) cX2_restart RX2 none { frames := 2, cells := 0, slots := 0, locals := 43 }) (N : Nat) : ∀ (σ : ST) (x1 : Int32), mE_X2_restart_17 N σ x1 = some q → zJ X 2 (wdE adr cI cZ cS tL tH) (zu q) 17 [(0, .ref (adr 0)), (1, .int x1)] [] σ := by
  refine zIt_ind (P := fun (hd : ST → Int32 → Option (ST)) => ∀ (σ : ST) (x1 : Int32), hd σ x1 = some q → zJ X 2 (wdE adr cI cZ cS tL tH) (zu q) 17 [(0, .ref (adr 0)), (1, .int x1)] [] σ) (fun _ _ hf => by cases hf) (fun hd17 hh17 => ?_) N
  intro σ x1 hf
  refine z_iload_n B dX2_restart_17 1 rfl rfl ?_
  refine z_bipush B (6) dX2_restart_18 zc_bipush_6 ?_
  refine z_icmp_ge B 38 dX2_restart_20 (by decide) hf (fun hf => ?_) (fun hf => ?_)
  · refine z_aload_n B dX2_restart_38 0 rfl rfl ?_
    refine fE_g_X2_E_history B dX2_restart_39 ?_
    refine z_callVu B (As := []) kcV_X2_85 dX2_restart_42 hf (fun q hq => cE_X3_clear q hq) (wE_o_H (adr := adr) (cI := cI) (cZ := cZ) (cS := cS) (tL := tL) (tH := tH)) rfl rfl rfl rfl (Nat.le_of_ble_eq_true rfl) rfl rfl ⟨Nat.le_of_ble_eq_true rfl, Nat.le_of_ble_eq_true rfl⟩ (fun s42 hf => ?_)
    refine z_aload_n B dX2_restart_45 0 rfl rfl ?_
    refine fE_g_X2_E_log B dX2_restart_46 ?_
    refine z_callVu B (As := []) kcV_X2_86 dX2_restart_49 hf (fun q hq => cE_X6_clear q hq) (wE_o_G (adr := adr) (cI := cI) (cZ := cZ) (cS := cS) (tL := tL) (tH := tH)) rfl rfl rfl rfl (Nat.le_of_ble_eq_true rfl) rfl rfl ⟨Nat.le_of_ble_eq_true rfl, Nat.le_of_ble_eq_true rfl⟩ (fun s49 hf => ?_)
    refine z_aload_n B dX2_restart_52 0 rfl rfl ?_
    refine z_iconst B (0) dX2_restart_53 zc_iconst_0 ?_
    refine fE_p_X2_E_plannedSize B dX2_restart_54 hf (fun s54 hf => ?_)
    refine z_aload_n B dX2_restart_57 0 rfl rfl ?_
    refine z_iconst B (-1) dX2_restart_58 zc_iconst_m1 ?_
    refine fE_p_X2_E_ownPlace B dX2_restart_59 hf (fun s59 hf => ?_)
    exact z_return B dX2_restart_62 hf
  · refine z_aload_n B dX2_restart_23 0 rfl rfl ?_
    refine fE_g_X2_E_streams B dX2_restart_24 ?_
    refine z_iload_n B dX2_restart_27 1 rfl rfl ?_
    refine fE_streams B dX2_restart_28 hf (fun v28 hf => ?_)
    refine z_callVu B (As := []) kcV_X2_82 dX2_restart_29 hf (fun q hq => cE_X4_leave q hq) (wE_o_S (adr := adr) (cI := cI) (cZ := cZ) (cS := cS) (tL := tL) (tH := tH) v28) rfl rfl rfl rfl (Nat.le_of_ble_eq_true rfl) rfl rfl ⟨Nat.le_of_ble_eq_true rfl, Nat.le_of_ble_eq_true rfl⟩ (fun s29 hf => ?_)
    refine z_iinc B (1) 1 (fun v32 => [(1, .int v32), (0, .ref (adr 0))]) dX2_restart_32 hf zc_iconst_1 rfl (Nat.le_of_ble_eq_true rfl) (fun _ => rfl) (fun v32 hf => ?_)
    refine z_goto B 17 dX2_restart_35 (by decide) ?_
    exact z_loc [1, 0] _ rfl (hh17 s29 v32 hf)
def mE_X2_restart (N : Nat) (σ : ST) : Option (ST) :=
  zCallu (mE_J7_fill_53178_Ecounts N σ (0)) fun s5 =>
  zCallu (mE_X0_clear N s5) fun s12 =>
  mE_X2_restart_17 N s12 (0)
set_option maxRecDepth 20000 in
set_option maxHeartbeats 2000000 in
theorem cE_X2_restart {adr : Nat → Nat} {cI cZ cS : ClassId} {tL tH : Nat} {l : Launch} {D : va_G} {N : Nat} {σ : ST} (q : ST) (hf : mE_X2_restart N σ = some q) : zM l D (wdE adr cI cZ cS tL tH) yX2_restart cX2_restart 2 none ({ frames := 2, cells := 0, slots := 0, locals := 43 }) [.ref (adr 0)] σ (zu q) := by
  refine zM_of sfE_ok rfl (Nat.le_of_ble_eq_true rfl) [(0, .ref (adr 0))] rfl (fun X hX1 hX2 B => ?_)
  have B : zC X 2 (wdE adr cI cZ cS tL tH) cX2_restart RX2 none { frames := 2, cells := 0, slots := 0, locals := 43 } := B
  refine z_aload_n B dX2_restart_0 0 rfl rfl ?_
  refine fE_g_X2_E_counts B dX2_restart_1 ?_
  refine z_iconst B (0) dX2_restart_4 zc_iconst_0 ?_
  refine z_callSu B (As := [.ref (adr 2), .int (0)]) kcS_X2_73 dX2_restart_5 hf (fun q hq => cE_J7_fill_53178_Ecounts q hq) rfl rfl (Nat.le_of_ble_eq_true rfl) rfl rfl ⟨Nat.le_of_ble_eq_true rfl, Nat.le_of_ble_eq_true rfl⟩ (fun s5 hf => ?_)
  refine z_aload_n B dX2_restart_8 0 rfl rfl ?_
  refine fE_g_X2_E_cache B dX2_restart_9 ?_
  refine z_callVu B (As := []) kcV_X2_79 dX2_restart_12 hf (fun q hq => cE_X0_clear q hq) (wE_o_C (adr := adr) (cI := cI) (cZ := cZ) (cS := cS) (tL := tL) (tH := tH)) rfl rfl rfl rfl (Nat.le_of_ble_eq_true rfl) rfl rfl ⟨Nat.le_of_ble_eq_true rfl, Nat.le_of_ble_eq_true rfl⟩ (fun s12 hf => ?_)
  refine z_iconst B (0) dX2_restart_15 zc_iconst_0 ?_
  refine z_istore_n B [(1, .int (0)), (0, .ref (adr 0))] dX2_restart_16 rfl (Nat.le_of_ble_eq_true rfl) rfl ?_
  exact z_loc [1, 0] _ rfl (tE_X2_restart_17 B N s12 (0) hf)
theorem dX3_add_0 : decode cX3_add 0 = .ok (.aload_n 0, 1) := by decide +kernel
theorem dX3_add_1 : decode cX3_add 1 = .ok (.getfield 21, 3) := by decide +kernel
theorem dX3_add_4 : decode cX3_add 4 = .ok (.aload_n 0, 1) := by decide +kernel
theorem dX3_add_5 : decode cX3_add 5 = .ok (.getfield 25, 3) := by decide +kernel
theorem dX3_add_8 : decode cX3_add 8 = .ok (.iadd, 1) := by decide +kernel
theorem dX3_add_9 : decode cX3_add 9 = .ok (.sipush 400, 3) := by decide +kernel
theorem dX3_add_12 : decode cX3_add 12 = .ok (.irem, 1) := by decide +kernel
theorem dX3_add_13 : decode cX3_add 13 = .ok (.istore 4, 2) := by decide +kernel
theorem dX3_add_15 : decode cX3_add 15 = .ok (.iload 4, 2) := by decide +kernel
theorem dX3_add_17 : decode cX3_add 17 = .ok (.ifCond .ge 4, 3) := by decide +kernel
theorem dX3_add_20 : decode cX3_add 20 = .ok (.return_, 1) := by decide +kernel
theorem dX3_add_21 : decode cX3_add 21 = .ok (.aload_n 0, 1) := by decide +kernel
theorem dX3_add_22 : decode cX3_add 22 = .ok (.getfield 9, 3) := by decide +kernel
theorem dX3_add_25 : decode cX3_add 25 = .ok (.iload 4, 2) := by decide +kernel
theorem dX3_add_27 : decode cX3_add 27 = .ok (.iload_n 1, 1) := by decide +kernel
theorem dX3_add_28 : decode cX3_add 28 = .ok (.iastore, 1) := by decide +kernel
theorem dX3_add_29 : decode cX3_add 29 = .ok (.aload_n 0, 1) := by decide +kernel
theorem dX3_add_30 : decode cX3_add 30 = .ok (.getfield 15, 3) := by decide +kernel
theorem dX3_add_33 : decode cX3_add 33 = .ok (.iload 4, 2) := by decide +kernel
theorem dX3_add_35 : decode cX3_add 35 = .ok (.iload_n 2, 1) := by decide +kernel
theorem dX3_add_36 : decode cX3_add 36 = .ok (.iastore, 1) := by decide +kernel
theorem dX3_add_37 : decode cX3_add 37 = .ok (.aload_n 0, 1) := by decide +kernel
theorem dX3_add_38 : decode cX3_add 38 = .ok (.getfield 18, 3) := by decide +kernel
theorem dX3_add_41 : decode cX3_add 41 = .ok (.iload 4, 2) := by decide +kernel
theorem dX3_add_43 : decode cX3_add 43 = .ok (.iload_n 3, 1) := by decide +kernel
theorem dX3_add_44 : decode cX3_add 44 = .ok (.iastore, 1) := by decide +kernel
theorem dX3_add_45 : decode cX3_add 45 = .ok (.aload_n 0, 1) := by decide +kernel
theorem dX3_add_46 : decode cX3_add 46 = .ok (.getfield 25, 3) := by decide +kernel
theorem dX3_add_49 : decode cX3_add 49 = .ok (.sipush 400, 3) := by decide +kernel
theorem dX3_add_52 : decode cX3_add 52 = .ok (.if_icmp .ge 16, 3) := by decide +kernel
theorem dX3_add_55 : decode cX3_add 55 = .ok (.aload_n 0, 1) := by decide +kernel
theorem dX3_add_56 : decode cX3_add 56 = .ok (.dup, 1) := by decide +kernel
theorem dX3_add_57 : decode cX3_add 57 = .ok (.getfield 25, 3) := by decide +kernel
theorem dX3_add_60 : decode cX3_add 60 = .ok (.iconst 1, 1) := by decide +kernel
theorem dX3_add_61 : decode cX3_add 61 = .ok (.iadd, 1) := by decide +kernel
theorem dX3_add_62 : decode cX3_add 62 = .ok (.putfield 25, 3) := by decide +kernel
theorem dX3_add_65 : decode cX3_add 65 = .ok (.goto 17, 3) := by decide +kernel
theorem dX3_add_68 : decode cX3_add 68 = .ok (.aload_n 0, 1) := by decide +kernel
theorem dX3_add_69 : decode cX3_add 69 = .ok (.aload_n 0, 1) := by decide +kernel
theorem dX3_add_70 : decode cX3_add 70 = .ok (.getfield 21, 3) := by decide +kernel
theorem dX3_add_73 : decode cX3_add 73 = .ok (.iconst 1, 1) := by decide +kernel
theorem dX3_add_74 : decode cX3_add 74 = .ok (.iadd, 1) := by decide +kernel
theorem dX3_add_75 : decode cX3_add 75 = .ok (.sipush 400, 3) := by decide +kernel
theorem dX3_add_78 : decode cX3_add 78 = .ok (.irem, 1) := by decide +kernel
theorem dX3_add_79 : decode cX3_add 79 = .ok (.putfield 21, 3) := by decide +kernel
theorem dX3_add_82 : decode cX3_add 82 = .ok (.return_, 1) := by decide +kernel
def mE_X3_add_82 (N : Nat) (σ : ST) (x1 : Int32) (x2 : Int32) (x3 : Int32) (x4 : Int32) : Option (ST) :=
  some σ
set_option maxRecDepth 20000 in
set_option maxHeartbeats 2000000 in
theorem tE_X3_add_82 {adr : Nat → Nat} {cI cZ cS : ClassId} {tL tH : Nat} {X : zX} {q : ST} (B : zC X 5 (wdE adr cI cZ cS tL tH) cX3_add RX3 none { frames := 0, cells := 0, slots := 0, locals := 0 }) (N : Nat) (σ : ST) (x1 : Int32) (x2 : Int32) (x3 : Int32) (x4 : Int32) (hf : mE_X3_add_82 N σ x1 x2 x3 x4 = some q) : zJ X 5 (wdE adr cI cZ cS tL tH) (zu q) 82 [(0, .ref (adr 18)), (1, .int x1), (2, .int x2), (3, .int x3), (4, .int x4)] [] σ := by
  exact z_return B dX3_add_82 hf
def mE_X3_add (N : Nat) (σ : ST) (x1 : Int32) (x2 : Int32) (x3 : Int32) : Option (ST) :=
  zLet (σ 18 3) fun v1 =>
  zLet (σ 18 4) fun v5 =>
  zLet ((v1 : Int32) + v5) fun v8 =>
  zRem v8 (400) fun v12 =>
  if (0 : Int32) ≤ v12 then
    zSet σ 19 400 v12 x1 fun s28 =>
    zSet s28 20 400 v12 x2 fun s36 =>
    zSet s36 21 400 v12 x3 fun s44 =>
    zLet (s44 18 4) fun v46 =>
    if ((400) : Int32) ≤ v46 then
      zLet (s44 18 3) fun v70 =>
      zLet ((v70 : Int32) + (1)) fun v74 =>
      zRem v74 (400) fun v78 =>
      zLet (zUp s44 18 3 v78) fun s79 =>
      mE_X3_add_82 N s79 x1 x2 x3 v12
    else
      zLet (s44 18 4) fun v57 =>
      zLet ((v57 : Int32) + (1)) fun v61 =>
      zLet (zUp s44 18 4 v61) fun s62 =>
      mE_X3_add_82 N s62 x1 x2 x3 v12
  else
    some σ
set_option maxRecDepth 20000 in
set_option maxHeartbeats 2000000 in
theorem cE_X3_add {adr : Nat → Nat} {cI cZ cS : ClassId} {tL tH : Nat} {l : Launch} {D : va_G} {N : Nat} {σ : ST} {x1 : Int32} {x2 : Int32} {x3 : Int32} (q : ST) (hf : mE_X3_add N σ x1 x2 x3 = some q) : zM l D (wdE adr cI cZ cS tL tH) yX3_add cX3_add 5 none ({ frames := 0, cells := 0, slots := 0, locals := 0 }) [.ref (adr 18), .int x1, .int x2, .int x3] σ (zu q) := by
  refine zM_of sfE_ok rfl (Nat.le_of_ble_eq_true rfl) [(0, .ref (adr 18)), (1, .int x1), (2, .int x2), (3, .int x3)] rfl (fun X hX1 hX2 B => ?_)
  have B : zC X 5 (wdE adr cI cZ cS tL tH) cX3_add RX3 none { frames := 0, cells := 0, slots := 0, locals := 0 } := B
  refine z_aload_n B dX3_add_0 0 rfl rfl ?_
  refine fE_g_X3_H_eldest B dX3_add_1 hf (fun v1 hf => ?_)
  refine z_aload_n B dX3_add_4 0 rfl rfl ?_
  refine fE_g_X3_H_length B dX3_add_5 hf (fun v5 hf => ?_)
  refine z_iadd B dX3_add_8 hf (fun v8 hf => ?_)
  refine z_sipush B (400) dX3_add_9 zc_sipush_400 ?_
  refine z_irem B dX3_add_12 hf (fun v12 hf => ?_)
  refine z_istore B [(4, .int v12), (0, .ref (adr 18)), (1, .int x1), (2, .int x2), (3, .int x3)] dX3_add_13 (Nat.le_of_ble_eq_true rfl) rfl ?_
  refine z_iload B dX3_add_15 0 rfl ?_
  refine z_if_ge B 21 dX3_add_17 (by decide) hf (fun hf => ?_) (fun hf => ?_)
  · refine z_aload_n B dX3_add_21 1 rfl rfl ?_
    refine fE_g_X3_H_blocks B dX3_add_22 ?_
    refine z_iload B dX3_add_25 0 rfl ?_
    refine z_iload_n B dX3_add_27 2 rfl rfl ?_
    refine fE_s_H_blocks B dX3_add_28 hf (fun s28 hf => ?_)
    refine z_aload_n B dX3_add_29 1 rfl rfl ?_
    refine fE_g_X3_H_numbers B dX3_add_30 ?_
    refine z_iload B dX3_add_33 0 rfl ?_
    refine z_iload_n B dX3_add_35 3 rfl rfl ?_
    refine fE_s_H_numbers B dX3_add_36 hf (fun s36 hf => ?_)
    refine z_aload_n B dX3_add_37 1 rfl rfl ?_
    refine fE_g_X3_H_kinds B dX3_add_38 ?_
    refine z_iload B dX3_add_41 0 rfl ?_
    refine z_iload_n B dX3_add_43 4 rfl rfl ?_
    refine fE_s_H_kinds B dX3_add_44 hf (fun s44 hf => ?_)
    refine z_aload_n B dX3_add_45 1 rfl rfl ?_
    refine fE_g_X3_H_length B dX3_add_46 hf (fun v46 hf => ?_)
    refine z_sipush B (400) dX3_add_49 zc_sipush_400 ?_
    refine z_icmp_ge B 68 dX3_add_52 (by decide) hf (fun hf => ?_) (fun hf => ?_)
    · refine z_aload_n B dX3_add_68 1 rfl rfl ?_
      refine z_aload_n B dX3_add_69 1 rfl rfl ?_
      refine fE_g_X3_H_eldest B dX3_add_70 hf (fun v70 hf => ?_)
      refine z_iconst B (1) dX3_add_73 zc_iconst_1 ?_
      refine z_iadd B dX3_add_74 hf (fun v74 hf => ?_)
      refine z_sipush B (400) dX3_add_75 zc_sipush_400 ?_
      refine z_irem B dX3_add_78 hf (fun v78 hf => ?_)
      refine fE_p_X3_H_eldest B dX3_add_79 hf (fun s79 hf => ?_)
      exact z_loc [1, 2, 3, 4, 0] _ rfl (tE_X3_add_82 B N s79 x1 x2 x3 v12 hf)
    · refine z_aload_n B dX3_add_55 1 rfl rfl ?_
      refine z_dup B dX3_add_56 rfl ?_
      refine fE_g_X3_H_length B dX3_add_57 hf (fun v57 hf => ?_)
      refine z_iconst B (1) dX3_add_60 zc_iconst_1 ?_
      refine z_iadd B dX3_add_61 hf (fun v61 hf => ?_)
      refine fE_p_X3_H_length B dX3_add_62 hf (fun s62 hf => ?_)
      refine z_goto B 82 dX3_add_65 (by decide) ?_
      exact z_loc [1, 2, 3, 4, 0] _ rfl (tE_X3_add_82 B N s62 x1 x2 x3 v12 hf)
  · exact z_return B dX3_add_20 hf
theorem dX2_joinOthers_0 : decode cX2_joinOthers 0 = .ok (.iconst 0, 1) := by decide +kernel
theorem dX2_joinOthers_1 : decode cX2_joinOthers 1 = .ok (.istore_n 2, 1) := by decide +kernel
theorem dX2_joinOthers_2 : decode cX2_joinOthers 2 = .ok (.iload_n 2, 1) := by decide +kernel
theorem dX2_joinOthers_3 : decode cX2_joinOthers 3 = .ok (.bipush 6, 2) := by decide +kernel
theorem dX2_joinOthers_5 : decode cX2_joinOthers 5 = .ok (.if_icmp .ge 107, 3) := by decide +kernel
theorem dX2_joinOthers_8 : decode cX2_joinOthers 8 = .ok (.aload_n 1, 1) := by decide +kernel
theorem dX2_joinOthers_9 : decode cX2_joinOthers 9 = .ok (.getfield 70, 3) := by decide +kernel
theorem dX2_joinOthers_12 : decode cX2_joinOthers 12 = .ok (.iconst (-1), 1) := by decide +kernel
theorem dX2_joinOthers_13 : decode cX2_joinOthers 13 = .ok (.if_icmp .eq 99, 3) := by decide +kernel
theorem dX2_joinOthers_16 : decode cX2_joinOthers 16 = .ok (.aload_n 0, 1) := by decide +kernel
theorem dX2_joinOthers_17 : decode cX2_joinOthers 17 = .ok (.getfield 40, 3) := by decide +kernel
theorem dX2_joinOthers_20 : decode cX2_joinOthers 20 = .ok (.iload_n 2, 1) := by decide +kernel
theorem dX2_joinOthers_21 : decode cX2_joinOthers 21 = .ok (.aaload, 1) := by decide +kernel
theorem dX2_joinOthers_22 : decode cX2_joinOthers 22 = .ok (.astore_n 3, 1) := by decide +kernel
theorem dX2_joinOthers_23 : decode cX2_joinOthers 23 = .ok (.aload_n 3, 1) := by decide +kernel
theorem dX2_joinOthers_24 : decode cX2_joinOthers 24 = .ok (.aload_n 1, 1) := by decide +kernel
theorem dX2_joinOthers_25 : decode cX2_joinOthers 25 = .ok (.if_acmp .eq 81, 3) := by decide +kernel
theorem dX2_joinOthers_28 : decode cX2_joinOthers 28 = .ok (.aload_n 3, 1) := by decide +kernel
theorem dX2_joinOthers_29 : decode cX2_joinOthers 29 = .ok (.getfield 70, 3) := by decide +kernel
theorem dX2_joinOthers_32 : decode cX2_joinOthers 32 = .ok (.iconst (-1), 1) := by decide +kernel
theorem dX2_joinOthers_33 : decode cX2_joinOthers 33 = .ok (.if_icmp .eq 73, 3) := by decide +kernel
theorem dX2_joinOthers_36 : decode cX2_joinOthers 36 = .ok (.aload_n 1, 1) := by decide +kernel
theorem dX2_joinOthers_37 : decode cX2_joinOthers 37 = .ok (.getfield 227, 3) := by decide +kernel
theorem dX2_joinOthers_40 : decode cX2_joinOthers 40 = .ok (.ifCond .eq 66, 3) := by decide +kernel
theorem dX2_joinOthers_43 : decode cX2_joinOthers 43 = .ok (.aload_n 3, 1) := by decide +kernel
theorem dX2_joinOthers_44 : decode cX2_joinOthers 44 = .ok (.getfield 227, 3) := by decide +kernel
theorem dX2_joinOthers_47 : decode cX2_joinOthers 47 = .ok (.aload_n 1, 1) := by decide +kernel
theorem dX2_joinOthers_48 : decode cX2_joinOthers 48 = .ok (.getfield 227, 3) := by decide +kernel
theorem dX2_joinOthers_51 : decode cX2_joinOthers 51 = .ok (.if_icmp .ne 55, 3) := by decide +kernel
theorem dX2_joinOthers_54 : decode cX2_joinOthers 54 = .ok (.aload_n 3, 1) := by decide +kernel
theorem dX2_joinOthers_55 : decode cX2_joinOthers 55 = .ok (.getfield 230, 3) := by decide +kernel
theorem dX2_joinOthers_58 : decode cX2_joinOthers 58 = .ok (.aload_n 1, 1) := by decide +kernel
theorem dX2_joinOthers_59 : decode cX2_joinOthers 59 = .ok (.getfield 230, 3) := by decide +kernel
theorem dX2_joinOthers_62 : decode cX2_joinOthers 62 = .ok (.if_icmp .eq 6, 3) := by decide +kernel
theorem dX2_joinOthers_65 : decode cX2_joinOthers 65 = .ok (.goto 41, 3) := by decide +kernel
theorem dX2_joinOthers_68 : decode cX2_joinOthers 68 = .ok (.aload_n 0, 1) := by decide +kernel
theorem dX2_joinOthers_69 : decode cX2_joinOthers 69 = .ok (.getfield 28, 3) := by decide +kernel
theorem dX2_joinOthers_72 : decode cX2_joinOthers 72 = .ok (.bipush 19, 2) := by decide +kernel
theorem dX2_joinOthers_74 : decode cX2_joinOthers 74 = .ok (.dup2, 1) := by decide +kernel
theorem dX2_joinOthers_75 : decode cX2_joinOthers 75 = .ok (.iaload, 1) := by decide +kernel
theorem dX2_joinOthers_76 : decode cX2_joinOthers 76 = .ok (.iconst 1, 1) := by decide +kernel
theorem dX2_joinOthers_77 : decode cX2_joinOthers 77 = .ok (.iadd, 1) := by decide +kernel
theorem dX2_joinOthers_78 : decode cX2_joinOthers 78 = .ok (.iastore, 1) := by decide +kernel
theorem dX2_joinOthers_79 : decode cX2_joinOthers 79 = .ok (.aload_n 3, 1) := by decide +kernel
theorem dX2_joinOthers_80 : decode cX2_joinOthers 80 = .ok (.getfield 70, 3) := by decide +kernel
theorem dX2_joinOthers_83 : decode cX2_joinOthers 83 = .ok (.aload_n 1, 1) := by decide +kernel
theorem dX2_joinOthers_84 : decode cX2_joinOthers 84 = .ok (.getfield 70, 3) := by decide +kernel
theorem dX2_joinOthers_87 : decode cX2_joinOthers 87 = .ok (.if_icmp .le 10, 3) := by decide +kernel
theorem dX2_joinOthers_90 : decode cX2_joinOthers 90 = .ok (.aload_n 3, 1) := by decide +kernel
theorem dX2_joinOthers_91 : decode cX2_joinOthers 91 = .ok (.invokevirtual 82, 3) := by decide +kernel
theorem dX2_joinOthers_94 : decode cX2_joinOthers 94 = .ok (.goto 12, 3) := by decide +kernel
theorem dX2_joinOthers_97 : decode cX2_joinOthers 97 = .ok (.aload_n 1, 1) := by decide +kernel
theorem dX2_joinOthers_98 : decode cX2_joinOthers 98 = .ok (.invokevirtual 82, 3) := by decide +kernel
theorem dX2_joinOthers_101 : decode cX2_joinOthers 101 = .ok (.aload_n 0, 1) := by decide +kernel
theorem dX2_joinOthers_102 : decode cX2_joinOthers 102 = .ok (.iconst (-1), 1) := by decide +kernel
theorem dX2_joinOthers_103 : decode cX2_joinOthers 103 = .ok (.putfield 62, 3) := by decide +kernel
theorem dX2_joinOthers_106 : decode cX2_joinOthers 106 = .ok (.iinc 2 1, 3) := by decide +kernel
theorem dX2_joinOthers_109 : decode cX2_joinOthers 109 = .ok (.goto (-107), 3) := by decide +kernel
theorem dX2_joinOthers_112 : decode cX2_joinOthers 112 = .ok (.return_, 1) := by decide +kernel
def mE_X2_joinOthers_112 (N : Nat) (σ : ST) (x1 : Fin 6) (x2 : Int32) : Option (ST) :=
  some σ
set_option maxRecDepth 20000 in
set_option maxHeartbeats 2000000 in
theorem tE_X2_joinOthers_112 {adr : Nat → Nat} {cI cZ cS : ClassId} {tL tH : Nat} {X : zX} {q : ST} (B : zC X 4 (wdE adr cI cZ cS tL tH) cX2_joinOthers RX2 none { frames := 1, cells := 0, slots := 0, locals := 20 }) (N : Nat) (σ : ST) (x1 : Fin 6) (x2 : Int32) (hf : mE_X2_joinOthers_112 N σ x1 x2 = some q) : zJ X 4 (wdE adr cI cZ cS tL tH) (zu q) 112 [(0, .ref (adr 0)), (1, .ref (adr (12 + (x1).val))), (2, .int x2)] [] σ := by
  exact z_return B dX2_joinOthers_112 hf
def mE_X2_joinOthers_106 (N : Nat) (hd2 : ST → Fin 6 → Int32 → Option (ST)) (σ : ST) (x1 : Fin 6) (x2 : Int32) (x3 : Fin 6) : Option (ST) :=
  zLet (x2 + (1)) fun v106 =>
  hd2 σ x1 v106
set_option maxRecDepth 20000 in
set_option maxHeartbeats 2000000 in
theorem tE_X2_joinOthers_106 {adr : Nat → Nat} {cI cZ cS : ClassId} {tL tH : Nat} {X : zX} {q : ST} (B : zC X 4 (wdE adr cI cZ cS tL tH) cX2_joinOthers RX2 none { frames := 1, cells := 0, slots := 0, locals := 20 }) (N : Nat) (hd2 : ST → Fin 6 → Int32 → Option (ST)) (hh2 : ∀ (σ : ST) (x1 : Fin 6) (x2 : Int32), hd2 σ x1 x2 = some q → zJ X 4 (wdE adr cI cZ cS tL tH) (zu q) 2 [(0, .ref (adr 0)), (1, .ref (adr (12 + (x1).val))), (2, .int x2)] [] σ) (σ : ST) (x1 : Fin 6) (x2 : Int32) (x3 : Fin 6) (hf : mE_X2_joinOthers_106 N hd2 σ x1 x2 x3 = some q) : zJ X 4 (wdE adr cI cZ cS tL tH) (zu q) 106 [(0, .ref (adr 0)), (1, .ref (adr (12 + (x1).val))), (2, .int x2), (3, .ref (adr (12 + (x3).val)))] [] σ := by
  refine z_iinc B (1) 2 (fun v106 => [(2, .int v106), (0, .ref (adr 0)), (1, .ref (adr (12 + (x1).val))), (3, .ref (adr (12 + (x3).val)))]) dX2_joinOthers_106 hf zc_iconst_1 rfl (Nat.le_of_ble_eq_true rfl) (fun _ => rfl) (fun v106 hf => ?_)
  refine z_goto B 2 dX2_joinOthers_109 (by decide) ?_
  exact z_loc [1, 2, 0] _ rfl (hh2 σ x1 v106 hf)
def mE_X2_joinOthers_B2 (N : Nat) (hd2 : ST → Fin 6 → Int32 → Option (ST)) (σ : ST) (x1 : Fin 6) (x2 : Int32) : Option (ST) :=
  if ((6) : Int32) ≤ x2 then
    mE_X2_joinOthers_112 N σ x1 x2
  else
    zLet (σ (12 + (x1).val) 0) fun v9 =>
    if (v9 : Int32) = (-1) then
      mE_X2_joinOthers_112 N σ x1 x2
    else
      zGet6 x2 fun v21 =>
      if v21 = x1 then
        mE_X2_joinOthers_106 N hd2 σ x1 x2 v21
      else
        zLet (σ (12 + (v21).val) 0) fun v29 =>
        if (v29 : Int32) = (-1) then
          mE_X2_joinOthers_106 N hd2 σ x1 x2 v21
        else
          zLet (σ (12 + (x1).val) 2) fun v37 =>
          if (v37 : Int32) = 0 then
            mE_X2_joinOthers_106 N hd2 σ x1 x2 v21
          else
            zLet (σ (12 + (v21).val) 2) fun v44 =>
            zLet (σ (12 + (x1).val) 2) fun v48 =>
            if (v44 : Int32) = v48 then
              zLet (σ (12 + (v21).val) 1) fun v55 =>
              zLet (σ (12 + (x1).val) 1) fun v59 =>
              if (v55 : Int32) = v59 then
                zGet (σ 2) 34 (19) fun v75 =>
                zLet ((v75 : Int32) + (1)) fun v77 =>
                zSet σ 2 34 (19) v77 fun s78 =>
                zLet (s78 (12 + (v21).val) 0) fun v80 =>
                zLet (s78 (12 + (x1).val) 0) fun v84 =>
                if (v80 : Int32) ≤ v84 then
                  zCallu (mE_X4_leave N s78 x1) fun s98 =>
                  zLet (zUp s98 0 9 (-1)) fun s103 =>
                  mE_X2_joinOthers_106 N hd2 s103 x1 x2 v21
                else
                  zCallu (mE_X4_leave N s78 v21) fun s91 =>
                  mE_X2_joinOthers_106 N hd2 s91 x1 x2 v21
              else
                mE_X2_joinOthers_106 N hd2 σ x1 x2 v21
            else
              mE_X2_joinOthers_106 N hd2 σ x1 x2 v21
def mE_X2_joinOthers_2 (N : Nat) : ST → Fin 6 → Int32 → Option (ST) := zIt (mE_X2_joinOthers_B2 N) (fun _ _ _ => none) N
set_option maxRecDepth 20000 in
set_option maxHeartbeats 2000000 in
theorem tE_X2_joinOthers_2 {adr : Nat → Nat} {cI cZ cS : ClassId} {tL tH : Nat} {X : zX} {q : ST} (B : zC X 4 (wdE adr cI cZ cS tL tH) cX2_joinOthers RX2 none { frames := 1, cells := 0, slots := 0, locals := 20 }) (N : Nat) : ∀ (σ : ST) (x1 : Fin 6) (x2 : Int32), mE_X2_joinOthers_2 N σ x1 x2 = some q → zJ X 4 (wdE adr cI cZ cS tL tH) (zu q) 2 [(0, .ref (adr 0)), (1, .ref (adr (12 + (x1).val))), (2, .int x2)] [] σ := by
  refine zIt_ind (P := fun (hd : ST → Fin 6 → Int32 → Option (ST)) => ∀ (σ : ST) (x1 : Fin 6) (x2 : Int32), hd σ x1 x2 = some q → zJ X 4 (wdE adr cI cZ cS tL tH) (zu q) 2 [(0, .ref (adr 0)), (1, .ref (adr (12 + (x1).val))), (2, .int x2)] [] σ) (fun _ _ _ hf => by cases hf) (fun hd2 hh2 => ?_) N
  intro σ x1 x2 hf
  refine z_iload_n B dX2_joinOthers_2 2 rfl rfl ?_
  refine z_bipush B (6) dX2_joinOthers_3 zc_bipush_6 ?_
  refine z_icmp_ge B 112 dX2_joinOthers_5 (by decide) hf (fun hf => ?_) (fun hf => ?_)
  · exact tE_X2_joinOthers_112 B N σ x1 x2 hf
  · refine z_aload_n B dX2_joinOthers_8 1 rfl rfl ?_
    refine fE_g_X2_S_number B x1 dX2_joinOthers_9 hf (fun v9 hf => ?_)
    refine z_iconst B (-1) dX2_joinOthers_12 zc_iconst_m1 ?_
    refine z_icmp_eq B 112 dX2_joinOthers_13 (by decide) hf (fun hf => ?_) (fun hf => ?_)
    · exact tE_X2_joinOthers_112 B N σ x1 x2 hf
    · refine z_aload_n B dX2_joinOthers_16 0 rfl rfl ?_
      refine fE_g_X2_E_streams B dX2_joinOthers_17 ?_
      refine z_iload_n B dX2_joinOthers_20 2 rfl rfl ?_
      refine fE_streams B dX2_joinOthers_21 hf (fun v21 hf => ?_)
      refine z_astore_n B [(3, .ref (adr (12 + (v21).val))), (0, .ref (adr 0)), (1, .ref (adr (12 + (x1).val))), (2, .int x2)] dX2_joinOthers_22 rfl (Nat.le_of_ble_eq_true rfl) rfl ?_
      refine z_aload_n B dX2_joinOthers_23 0 rfl rfl ?_
      refine z_aload_n B dX2_joinOthers_24 2 rfl rfl ?_
      refine fE_acmp B v21 x1 106 dX2_joinOthers_25 (by decide) hf (fun hf => ?_) (fun hf => ?_)
      · exact z_loc [1, 2, 3, 0] _ rfl (tE_X2_joinOthers_106 B N hd2 hh2 σ x1 x2 v21 hf)
      · refine z_aload_n B dX2_joinOthers_28 0 rfl rfl ?_
        refine fE_g_X2_S_number B v21 dX2_joinOthers_29 hf (fun v29 hf => ?_)
        refine z_iconst B (-1) dX2_joinOthers_32 zc_iconst_m1 ?_
        refine z_icmp_eq B 106 dX2_joinOthers_33 (by decide) hf (fun hf => ?_) (fun hf => ?_)
        · exact z_loc [1, 2, 3, 0] _ rfl (tE_X2_joinOthers_106 B N hd2 hh2 σ x1 x2 v21 hf)
        · refine z_aload_n B dX2_joinOthers_36 2 rfl rfl ?_
          refine fE_g_X2_S_stride B x1 dX2_joinOthers_37 hf (fun v37 hf => ?_)
          refine z_if_eq B 106 dX2_joinOthers_40 (by decide) hf (fun hf => ?_) (fun hf => ?_)
          · exact z_loc [1, 2, 3, 0] _ rfl (tE_X2_joinOthers_106 B N hd2 hh2 σ x1 x2 v21 hf)
          · refine z_aload_n B dX2_joinOthers_43 0 rfl rfl ?_
            refine fE_g_X2_S_stride B v21 dX2_joinOthers_44 hf (fun v44 hf => ?_)
            refine z_aload_n B dX2_joinOthers_47 2 rfl rfl ?_
            refine fE_g_X2_S_stride B x1 dX2_joinOthers_48 hf (fun v48 hf => ?_)
            refine z_icmp_ne B 106 dX2_joinOthers_51 (by decide) hf (fun hf => ?_) (fun hf => ?_)
            · exact z_loc [1, 2, 3, 0] _ rfl (tE_X2_joinOthers_106 B N hd2 hh2 σ x1 x2 v21 hf)
            · refine z_aload_n B dX2_joinOthers_54 0 rfl rfl ?_
              refine fE_g_X2_S_last B v21 dX2_joinOthers_55 hf (fun v55 hf => ?_)
              refine z_aload_n B dX2_joinOthers_58 2 rfl rfl ?_
              refine fE_g_X2_S_last B x1 dX2_joinOthers_59 hf (fun v59 hf => ?_)
              refine z_icmp_eq B 68 dX2_joinOthers_62 (by decide) hf (fun hf => ?_) (fun hf => ?_)
              · refine z_aload_n B dX2_joinOthers_68 1 rfl rfl ?_
                refine fE_g_X2_E_counts B dX2_joinOthers_69 ?_
                refine z_bipush B (19) dX2_joinOthers_72 zc_bipush_19 ?_
                refine z_dup2 B dX2_joinOthers_74 rfl rfl ?_
                refine fE_l_E_counts B dX2_joinOthers_75 hf (fun v75 hf => ?_)
                refine z_iconst B (1) dX2_joinOthers_76 zc_iconst_1 ?_
                refine z_iadd B dX2_joinOthers_77 hf (fun v77 hf => ?_)
                refine fE_s_E_counts B dX2_joinOthers_78 hf (fun s78 hf => ?_)
                refine z_aload_n B dX2_joinOthers_79 0 rfl rfl ?_
                refine fE_g_X2_S_number B v21 dX2_joinOthers_80 hf (fun v80 hf => ?_)
                refine z_aload_n B dX2_joinOthers_83 2 rfl rfl ?_
                refine fE_g_X2_S_number B x1 dX2_joinOthers_84 hf (fun v84 hf => ?_)
                refine z_icmp_le B 97 dX2_joinOthers_87 (by decide) hf (fun hf => ?_) (fun hf => ?_)
                · refine z_aload_n B dX2_joinOthers_97 2 rfl rfl ?_
                  refine z_callVu B (As := []) kcV_X2_82 dX2_joinOthers_98 hf (fun q hq => cE_X4_leave q hq) (wE_o_S (adr := adr) (cI := cI) (cZ := cZ) (cS := cS) (tL := tL) (tH := tH) x1) rfl rfl rfl rfl (Nat.le_of_ble_eq_true rfl) rfl rfl ⟨Nat.le_of_ble_eq_true rfl, Nat.le_of_ble_eq_true rfl⟩ (fun s98 hf => ?_)
                  refine z_aload_n B dX2_joinOthers_101 1 rfl rfl ?_
                  refine z_iconst B (-1) dX2_joinOthers_102 zc_iconst_m1 ?_
                  refine fE_p_X2_E_ownPlace B dX2_joinOthers_103 hf (fun s103 hf => ?_)
                  exact z_loc [1, 2, 3, 0] _ rfl (tE_X2_joinOthers_106 B N hd2 hh2 s103 x1 x2 v21 hf)
                · refine z_aload_n B dX2_joinOthers_90 0 rfl rfl ?_
                  refine z_callVu B (As := []) kcV_X2_82 dX2_joinOthers_91 hf (fun q hq => cE_X4_leave q hq) (wE_o_S (adr := adr) (cI := cI) (cZ := cZ) (cS := cS) (tL := tL) (tH := tH) v21) rfl rfl rfl rfl (Nat.le_of_ble_eq_true rfl) rfl rfl ⟨Nat.le_of_ble_eq_true rfl, Nat.le_of_ble_eq_true rfl⟩ (fun s91 hf => ?_)
                  refine z_goto B 106 dX2_joinOthers_94 (by decide) ?_
                  exact z_loc [1, 2, 3, 0] _ rfl (tE_X2_joinOthers_106 B N hd2 hh2 s91 x1 x2 v21 hf)
              · refine z_goto B 106 dX2_joinOthers_65 (by decide) ?_
                exact z_loc [1, 2, 3, 0] _ rfl (tE_X2_joinOthers_106 B N hd2 hh2 σ x1 x2 v21 hf)
def mE_X2_joinOthers (N : Nat) (σ : ST) (x1 : Fin 6) : Option (ST) :=
  mE_X2_joinOthers_2 N σ x1 (0)
set_option maxRecDepth 20000 in
set_option maxHeartbeats 2000000 in
theorem cE_X2_joinOthers {adr : Nat → Nat} {cI cZ cS : ClassId} {tL tH : Nat} {l : Launch} {D : va_G} {N : Nat} {σ : ST} {x1 : Fin 6} (q : ST) (hf : mE_X2_joinOthers N σ x1 = some q) : zM l D (wdE adr cI cZ cS tL tH) yX2_joinOthers cX2_joinOthers 4 none ({ frames := 1, cells := 0, slots := 0, locals := 20 }) [.ref (adr 0), .ref (adr (12 + (x1).val))] σ (zu q) := by
  refine zM_of sfE_ok rfl (Nat.le_of_ble_eq_true rfl) [(0, .ref (adr 0)), (1, .ref (adr (12 + (x1).val)))] rfl (fun X hX1 hX2 B => ?_)
  have B : zC X 4 (wdE adr cI cZ cS tL tH) cX2_joinOthers RX2 none { frames := 1, cells := 0, slots := 0, locals := 20 } := B
  refine z_iconst B (0) dX2_joinOthers_0 zc_iconst_0 ?_
  refine z_istore_n B [(2, .int (0)), (0, .ref (adr 0)), (1, .ref (adr (12 + (x1).val)))] dX2_joinOthers_1 rfl (Nat.le_of_ble_eq_true rfl) rfl ?_
  exact z_loc [1, 2, 0] _ rfl (tE_X2_joinOthers_2 B N σ x1 (0) hf)
