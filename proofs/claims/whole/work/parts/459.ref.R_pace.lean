theorem dX8_pace_0 : decode cX8_pace 0 = .ok (.aload_n 0, 1) := by decide +kernel
theorem dX8_pace_1 : decode cX8_pace 1 = .ok (.iconst 0, 1) := by decide +kernel
theorem dX8_pace_2 : decode cX8_pace 2 = .ok (.putfield 67, 3) := by decide +kernel
theorem dX8_pace_5 : decode cX8_pace 5 = .ok (.aload_n 0, 1) := by decide +kernel
theorem dX8_pace_6 : decode cX8_pace 6 = .ok (.getfield 9, 3) := by decide +kernel
theorem dX8_pace_9 : decode cX8_pace 9 = .ok (.bipush 22, 2) := by decide +kernel
theorem dX8_pace_11 : decode cX8_pace 11 = .ok (.iaload, 1) := by decide +kernel
theorem dX8_pace_12 : decode cX8_pace 12 = .ok (.ifCond .eq 13, 3) := by decide +kernel
theorem dX8_pace_15 : decode cX8_pace 15 = .ok (.iload_n 1, 1) := by decide +kernel
theorem dX8_pace_16 : decode cX8_pace 16 = .ok (.i2l, 1) := by decide +kernel
theorem dX8_pace_17 : decode cX8_pace 17 = .ok (.lconst 0, 1) := by decide +kernel
theorem dX8_pace_18 : decode cX8_pace 18 = .ok (.lconst 1, 1) := by decide +kernel
theorem dX8_pace_19 : decode cX8_pace 19 = .ok (.invokestatic 71, 3) := by decide +kernel
theorem dX8_pace_22 : decode cX8_pace 22 = .ok (.ifCond .ne 5, 3) := by decide +kernel
theorem dX8_pace_25 : decode cX8_pace 25 = .ok (.iconst (-1), 1) := by decide +kernel
theorem dX8_pace_26 : decode cX8_pace 26 = .ok (.ireturn, 1) := by decide +kernel
theorem dX8_pace_27 : decode cX8_pace 27 = .ok (.iconst 0, 1) := by decide +kernel
theorem dX8_pace_28 : decode cX8_pace 28 = .ok (.istore_n 2, 1) := by decide +kernel
theorem dX8_pace_29 : decode cX8_pace 29 = .ok (.iconst 0, 1) := by decide +kernel
theorem dX8_pace_30 : decode cX8_pace 30 = .ok (.istore_n 3, 1) := by decide +kernel
theorem dX8_pace_31 : decode cX8_pace 31 = .ok (.iconst 1, 1) := by decide +kernel
theorem dX8_pace_32 : decode cX8_pace 32 = .ok (.istore 4, 2) := by decide +kernel
theorem dX8_pace_34 : decode cX8_pace 34 = .ok (.iload 4, 2) := by decide +kernel
theorem dX8_pace_36 : decode cX8_pace 36 = .ok (.bipush 64, 2) := by decide +kernel
theorem dX8_pace_38 : decode cX8_pace 38 = .ok (.if_icmp .gt 52, 3) := by decide +kernel
theorem dX8_pace_41 : decode cX8_pace 41 = .ok (.iconst 1, 1) := by decide +kernel
theorem dX8_pace_42 : decode cX8_pace 42 = .ok (.istore 5, 2) := by decide +kernel
theorem dX8_pace_44 : decode cX8_pace 44 = .ok (.iload 5, 2) := by decide +kernel
theorem dX8_pace_46 : decode cX8_pace 46 = .ok (.iconst (-1), 1) := by decide +kernel
theorem dX8_pace_47 : decode cX8_pace 47 = .ok (.if_icmp .lt 37, 3) := by decide +kernel
theorem dX8_pace_50 : decode cX8_pace 50 = .ok (.aload_n 0, 1) := by decide +kernel
theorem dX8_pace_51 : decode cX8_pace 51 = .ok (.iload 5, 2) := by decide +kernel
theorem dX8_pace_53 : decode cX8_pace 53 = .ok (.iload 4, 2) := by decide +kernel
theorem dX8_pace_55 : decode cX8_pace 55 = .ok (.imul, 1) := by decide +kernel
theorem dX8_pace_56 : decode cX8_pace 56 = .ok (.invokevirtual 304, 3) := by decide +kernel
theorem dX8_pace_59 : decode cX8_pace 59 = .ok (.aload_n 0, 1) := by decide +kernel
theorem dX8_pace_60 : decode cX8_pace 60 = .ok (.getfield 291, 3) := by decide +kernel
theorem dX8_pace_63 : decode cX8_pace 63 = .ok (.iload_n 3, 1) := by decide +kernel
theorem dX8_pace_64 : decode cX8_pace 64 = .ok (.if_icmp .le 14, 3) := by decide +kernel
theorem dX8_pace_67 : decode cX8_pace 67 = .ok (.iload 5, 2) := by decide +kernel
theorem dX8_pace_69 : decode cX8_pace 69 = .ok (.iload 4, 2) := by decide +kernel
theorem dX8_pace_71 : decode cX8_pace 71 = .ok (.imul, 1) := by decide +kernel
theorem dX8_pace_72 : decode cX8_pace 72 = .ok (.istore_n 2, 1) := by decide +kernel
theorem dX8_pace_73 : decode cX8_pace 73 = .ok (.aload_n 0, 1) := by decide +kernel
theorem dX8_pace_74 : decode cX8_pace 74 = .ok (.getfield 291, 3) := by decide +kernel
theorem dX8_pace_77 : decode cX8_pace 77 = .ok (.istore_n 3, 1) := by decide +kernel
theorem dX8_pace_78 : decode cX8_pace 78 = .ok (.iinc 5 (-2), 3) := by decide +kernel
theorem dX8_pace_81 : decode cX8_pace 81 = .ok (.goto (-37), 3) := by decide +kernel
theorem dX8_pace_84 : decode cX8_pace 84 = .ok (.iinc 4 1, 3) := by decide +kernel
theorem dX8_pace_87 : decode cX8_pace 87 = .ok (.goto (-53), 3) := by decide +kernel
theorem dX8_pace_90 : decode cX8_pace 90 = .ok (.iload_n 1, 1) := by decide +kernel
theorem dX8_pace_91 : decode cX8_pace 91 = .ok (.ifCond .ne 7, 3) := by decide +kernel
theorem dX8_pace_94 : decode cX8_pace 94 = .ok (.iload_n 2, 1) := by decide +kernel
theorem dX8_pace_95 : decode cX8_pace 95 = .ok (.goto 4, 3) := by decide +kernel
theorem dX8_pace_98 : decode cX8_pace 98 = .ok (.iload_n 3, 1) := by decide +kernel
theorem dX8_pace_99 : decode cX8_pace 99 = .ok (.ireturn, 1) := by decide +kernel
def mR_pace_99 (N : Nat) (σ : ST) (x1 : Int32) (x2 : Int32) (x3 : Int32) (x4 : Int32) (k0 : Int32) : Option (Int32 × ST) :=
  some (k0, σ)
set_option maxRecDepth 20000 in
set_option maxHeartbeats 2000000 in
theorem tR_pace_99 {adr : Nat → Nat} {cI cZ : ClassId} {X : zX} {q : Int32 × ST} (B : zC X 6 (wdR adr cI cZ) cX8_pace RX8 (some .int) { frames := 3, cells := 0, slots := 0, locals := 67 }) (N : Nat) (σ : ST) (x1 : Int32) (x2 : Int32) (x3 : Int32) (x4 : Int32) (k0 : Int32) (hf : mR_pace_99 N σ x1 x2 x3 x4 k0 = some q) : zJ X 6 (wdR adr cI cZ) (zi q) 99 [(0, .ref (adr 0)), (1, .int x1), (2, .int x2), (3, .int x3), (4, .int x4)] [.int k0] σ := by
  exact z_ireturn B dX8_pace_99 hf
def mR_pace_78 (N : Nat) (hd34 : ST → Int32 → Int32 → Int32 → Int32 → Option (Int32 × ST)) (hd44 : ST → Int32 → Int32 → Int32 → Int32 → Int32 → Option (Int32 × ST)) (σ : ST) (x1 : Int32) (x2 : Int32) (x3 : Int32) (x4 : Int32) (x5 : Int32) : Option (Int32 × ST) :=
  zLet (x5 + (-2)) fun v78 =>
  hd44 σ x1 x2 x3 x4 v78
set_option maxRecDepth 20000 in
set_option maxHeartbeats 2000000 in
theorem tR_pace_78 {adr : Nat → Nat} {cI cZ : ClassId} {X : zX} {q : Int32 × ST} (B : zC X 6 (wdR adr cI cZ) cX8_pace RX8 (some .int) { frames := 3, cells := 0, slots := 0, locals := 67 }) (N : Nat) (hd34 : ST → Int32 → Int32 → Int32 → Int32 → Option (Int32 × ST)) (hh34 : ∀ (σ : ST) (x1 : Int32) (x2 : Int32) (x3 : Int32) (x4 : Int32), hd34 σ x1 x2 x3 x4 = some q → zJ X 6 (wdR adr cI cZ) (zi q) 34 [(0, .ref (adr 0)), (1, .int x1), (2, .int x2), (3, .int x3), (4, .int x4)] [] σ) (hd44 : ST → Int32 → Int32 → Int32 → Int32 → Int32 → Option (Int32 × ST)) (hh44 : ∀ (σ : ST) (x1 : Int32) (x2 : Int32) (x3 : Int32) (x4 : Int32) (x5 : Int32), hd44 σ x1 x2 x3 x4 x5 = some q → zJ X 6 (wdR adr cI cZ) (zi q) 44 [(0, .ref (adr 0)), (1, .int x1), (2, .int x2), (3, .int x3), (4, .int x4), (5, .int x5)] [] σ) (σ : ST) (x1 : Int32) (x2 : Int32) (x3 : Int32) (x4 : Int32) (x5 : Int32) (hf : mR_pace_78 N hd34 hd44 σ x1 x2 x3 x4 x5 = some q) : zJ X 6 (wdR adr cI cZ) (zi q) 78 [(0, .ref (adr 0)), (1, .int x1), (2, .int x2), (3, .int x3), (4, .int x4), (5, .int x5)] [] σ := by
  refine z_iinc B (-2) 5 (fun v78 => [(5, .int v78), (0, .ref (adr 0)), (1, .int x1), (2, .int x2), (3, .int x3), (4, .int x4)]) dX8_pace_78 hf zc_iconst_m2 rfl (Nat.le_of_ble_eq_true rfl) (fun _ => rfl) (fun v78 hf => ?_)
  refine z_goto B 44 dX8_pace_81 (by decide) ?_
  exact z_loc [1, 2, 3, 4, 5, 0] _ rfl (hh44 σ x1 x2 x3 x4 v78 hf)
def mR_pace_B44 (N : Nat) (hd34 : ST → Int32 → Int32 → Int32 → Int32 → Option (Int32 × ST)) (hd44 : ST → Int32 → Int32 → Int32 → Int32 → Int32 → Option (Int32 × ST)) (σ : ST) (x1 : Int32) (x2 : Int32) (x3 : Int32) (x4 : Int32) (x5 : Int32) : Option (Int32 × ST) :=
  if (x5 : Int32) < (-1) then
    zLet (x4 + (1)) fun v84 =>
    hd34 σ x1 x2 x3 v84
  else
    zLet ((x5 : Int32) * x4) fun v55 =>
    zCallu (mR_layRow N σ v55) fun s56 =>
    zLet (s56 0 22) fun v60 =>
    if (v60 : Int32) ≤ x3 then
      mR_pace_78 N hd34 hd44 s56 x1 x2 x3 x4 x5
    else
      zLet ((x5 : Int32) * x4) fun v71 =>
      zLet (s56 0 22) fun v74 =>
      mR_pace_78 N hd34 hd44 s56 x1 v71 v74 x4 x5
def mR_pace_44 (N : Nat) (hd34 : ST → Int32 → Int32 → Int32 → Int32 → Option (Int32 × ST)) : ST → Int32 → Int32 → Int32 → Int32 → Int32 → Option (Int32 × ST) := zIt (mR_pace_B44 N hd34) (fun _ _ _ _ _ _ => none) N
set_option maxRecDepth 20000 in
set_option maxHeartbeats 2000000 in
theorem tR_pace_44 {adr : Nat → Nat} {cI cZ : ClassId} {X : zX} {q : Int32 × ST} (B : zC X 6 (wdR adr cI cZ) cX8_pace RX8 (some .int) { frames := 3, cells := 0, slots := 0, locals := 67 }) (N : Nat) (hd34 : ST → Int32 → Int32 → Int32 → Int32 → Option (Int32 × ST)) (hh34 : ∀ (σ : ST) (x1 : Int32) (x2 : Int32) (x3 : Int32) (x4 : Int32), hd34 σ x1 x2 x3 x4 = some q → zJ X 6 (wdR adr cI cZ) (zi q) 34 [(0, .ref (adr 0)), (1, .int x1), (2, .int x2), (3, .int x3), (4, .int x4)] [] σ) : ∀ (σ : ST) (x1 : Int32) (x2 : Int32) (x3 : Int32) (x4 : Int32) (x5 : Int32), mR_pace_44 N hd34 σ x1 x2 x3 x4 x5 = some q → zJ X 6 (wdR adr cI cZ) (zi q) 44 [(0, .ref (adr 0)), (1, .int x1), (2, .int x2), (3, .int x3), (4, .int x4), (5, .int x5)] [] σ := by
  refine zIt_ind (P := fun (hd : ST → Int32 → Int32 → Int32 → Int32 → Int32 → Option (Int32 × ST)) => ∀ (σ : ST) (x1 : Int32) (x2 : Int32) (x3 : Int32) (x4 : Int32) (x5 : Int32), hd σ x1 x2 x3 x4 x5 = some q → zJ X 6 (wdR adr cI cZ) (zi q) 44 [(0, .ref (adr 0)), (1, .int x1), (2, .int x2), (3, .int x3), (4, .int x4), (5, .int x5)] [] σ) (fun _ _ _ _ _ _ hf => by cases hf) (fun hd44 hh44 => ?_) N
  intro σ x1 x2 x3 x4 x5 hf
  refine z_iload B dX8_pace_44 5 rfl ?_
  refine z_iconst B (-1) dX8_pace_46 zc_iconst_m1 ?_
  refine z_icmp_lt B 84 dX8_pace_47 (by decide) hf (fun hf => ?_) (fun hf => ?_)
  · refine z_iinc B (1) 4 (fun v84 => [(4, .int v84), (0, .ref (adr 0)), (1, .int x1), (2, .int x2), (3, .int x3), (5, .int x5)]) dX8_pace_84 hf zc_iconst_1 rfl (Nat.le_of_ble_eq_true rfl) (fun _ => rfl) (fun v84 hf => ?_)
    refine z_goto B 34 dX8_pace_87 (by decide) ?_
    exact z_loc [1, 2, 3, 4, 0] _ rfl (hh34 σ x1 x2 x3 v84 hf)
  · refine z_aload_n B dX8_pace_50 0 rfl rfl ?_
    refine z_iload B dX8_pace_51 5 rfl ?_
    refine z_iload B dX8_pace_53 4 rfl ?_
    refine z_imul B dX8_pace_55 hf (fun v55 hf => ?_)
    refine z_callVu B (As := [.int v55]) kcV_X8_304 dX8_pace_56 hf (fun q hq => cR_layRow q hq) (wR_o (adr := adr) (cI := cI) (cZ := cZ)) rfl rfl rfl rfl (Nat.le_of_ble_eq_true rfl) rfl rfl ⟨Nat.le_of_ble_eq_true rfl, Nat.le_of_ble_eq_true rfl⟩ (fun s56 hf => ?_)
    refine z_aload_n B dX8_pace_59 0 rfl rfl ?_
    refine fR_g_rowMany B dX8_pace_60 hf (fun v60 hf => ?_)
    refine z_iload_n B dX8_pace_63 3 rfl rfl ?_
    refine z_icmp_le B 78 dX8_pace_64 (by decide) hf (fun hf => ?_) (fun hf => ?_)
    · exact tR_pace_78 B N hd34 hh34 hd44 hh44 s56 x1 x2 x3 x4 x5 hf
    · refine z_iload B dX8_pace_67 5 rfl ?_
      refine z_iload B dX8_pace_69 4 rfl ?_
      refine z_imul B dX8_pace_71 hf (fun v71 hf => ?_)
      refine z_istore_n B [(2, .int v71), (0, .ref (adr 0)), (1, .int x1), (3, .int x3), (4, .int x4), (5, .int x5)] dX8_pace_72 rfl (Nat.le_of_ble_eq_true rfl) rfl ?_
      refine z_aload_n B dX8_pace_73 1 rfl rfl ?_
      refine fR_g_rowMany B dX8_pace_74 hf (fun v74 hf => ?_)
      refine z_istore_n B [(3, .int v74), (2, .int v71), (0, .ref (adr 0)), (1, .int x1), (4, .int x4), (5, .int x5)] dX8_pace_77 rfl (Nat.le_of_ble_eq_true rfl) rfl ?_
      exact z_loc [2, 3, 1, 0, 4, 5] _ rfl (tR_pace_78 B N hd34 hh34 hd44 hh44 s56 x1 v71 v74 x4 x5 hf)
def mR_pace_B34 (N : Nat) (hd34 : ST → Int32 → Int32 → Int32 → Int32 → Option (Int32 × ST)) (σ : ST) (x1 : Int32) (x2 : Int32) (x3 : Int32) (x4 : Int32) : Option (Int32 × ST) :=
  if ((64) : Int32) < x4 then
    if (x1 : Int32) = 0 then
      mR_pace_99 N σ x1 x2 x3 x4 x2
    else
      mR_pace_99 N σ x1 x2 x3 x4 x3
  else
    mR_pace_44 N hd34 σ x1 x2 x3 x4 (1)
def mR_pace_34 (N : Nat) : ST → Int32 → Int32 → Int32 → Int32 → Option (Int32 × ST) := zIt (mR_pace_B34 N) (fun _ _ _ _ _ => none) N
set_option maxRecDepth 20000 in
set_option maxHeartbeats 2000000 in
theorem tR_pace_34 {adr : Nat → Nat} {cI cZ : ClassId} {X : zX} {q : Int32 × ST} (B : zC X 6 (wdR adr cI cZ) cX8_pace RX8 (some .int) { frames := 3, cells := 0, slots := 0, locals := 67 }) (N : Nat) : ∀ (σ : ST) (x1 : Int32) (x2 : Int32) (x3 : Int32) (x4 : Int32), mR_pace_34 N σ x1 x2 x3 x4 = some q → zJ X 6 (wdR adr cI cZ) (zi q) 34 [(0, .ref (adr 0)), (1, .int x1), (2, .int x2), (3, .int x3), (4, .int x4)] [] σ := by
  refine zIt_ind (P := fun (hd : ST → Int32 → Int32 → Int32 → Int32 → Option (Int32 × ST)) => ∀ (σ : ST) (x1 : Int32) (x2 : Int32) (x3 : Int32) (x4 : Int32), hd σ x1 x2 x3 x4 = some q → zJ X 6 (wdR adr cI cZ) (zi q) 34 [(0, .ref (adr 0)), (1, .int x1), (2, .int x2), (3, .int x3), (4, .int x4)] [] σ) (fun _ _ _ _ _ hf => by cases hf) (fun hd34 hh34 => ?_) N
  intro σ x1 x2 x3 x4 hf
  refine z_iload B dX8_pace_34 4 rfl ?_
  refine z_bipush B (64) dX8_pace_36 zc_bipush_64 ?_
  refine z_icmp_gt B 90 dX8_pace_38 (by decide) hf (fun hf => ?_) (fun hf => ?_)
  · refine z_iload_n B dX8_pace_90 1 rfl rfl ?_
    refine z_if_ne B 98 dX8_pace_91 (by decide) hf (fun hf => ?_) (fun hf => ?_)
    · refine z_iload_n B dX8_pace_98 3 rfl rfl ?_
      exact tR_pace_99 B N σ x1 x2 x3 x4 x3 hf
    · refine z_iload_n B dX8_pace_94 2 rfl rfl ?_
      refine z_goto B 99 dX8_pace_95 (by decide) ?_
      exact tR_pace_99 B N σ x1 x2 x3 x4 x2 hf
  · refine z_iconst B (1) dX8_pace_41 zc_iconst_1 ?_
    refine z_istore B [(5, .int (1)), (0, .ref (adr 0)), (1, .int x1), (2, .int x2), (3, .int x3), (4, .int x4)] dX8_pace_42 (Nat.le_of_ble_eq_true rfl) rfl ?_
    exact z_loc [1, 2, 3, 4, 5, 0] _ rfl (tR_pace_44 B N hd34 hh34 σ x1 x2 x3 x4 (1) hf)
def mR_pace_25 (N : Nat) (σ : ST) (x1 : Int32) : Option (Int32 × ST) :=
  some ((-1), σ)
set_option maxRecDepth 20000 in
set_option maxHeartbeats 2000000 in
theorem tR_pace_25 {adr : Nat → Nat} {cI cZ : ClassId} {X : zX} {q : Int32 × ST} (B : zC X 6 (wdR adr cI cZ) cX8_pace RX8 (some .int) { frames := 3, cells := 0, slots := 0, locals := 67 }) (N : Nat) (σ : ST) (x1 : Int32) (hf : mR_pace_25 N σ x1 = some q) : zJ X 6 (wdR adr cI cZ) (zi q) 25 [(0, .ref (adr 0)), (1, .int x1)] [] σ := by
  refine z_iconst B (-1) dX8_pace_25 zc_iconst_m1 ?_
  exact z_ireturn B dX8_pace_26 hf
def mR_pace (N : Nat) (σ : ST) (x1 : Int32) : Option (Int32 × ST) :=
  zLet (zUp σ 0 0 (0)) fun s2 =>
  zGet (s2 1) 1974 (22) fun v11 =>
  if (v11 : Int32) = 0 then
    mR_pace_25 N s2 x1
  else
    zLet ((x1 : Int32).toInt64) fun v16 =>
    zCall (mR_in N s2 v16 (0) (1)) fun v19 s19 =>
    if (v19 : Int32) = 0 then
      mR_pace_25 N s19 x1
    else
      mR_pace_34 N s19 x1 (0) (0) (1)
set_option maxRecDepth 20000 in
set_option maxHeartbeats 2000000 in
theorem cR_pace {adr : Nat → Nat} {cI cZ : ClassId} {l : Launch} {D : va_G} {N : Nat} {σ : ST} {x1 : Int32} (q : Int32 × ST) (hf : mR_pace N σ x1 = some q) : zM l D (wdR adr cI cZ) yX8_pace cX8_pace 6 (some .int) ({ frames := 3, cells := 0, slots := 0, locals := 67 }) [.ref (adr 0), .int x1] σ (zi q) := by
  refine zM_of sfR_ok rfl (Nat.le_of_ble_eq_true rfl) [(0, .ref (adr 0)), (1, .int x1)] rfl (fun X hX1 hX2 B => ?_)
  have B : zC X 6 (wdR adr cI cZ) cX8_pace RX8 (some .int) { frames := 3, cells := 0, slots := 0, locals := 67 } := B
  refine z_aload_n B dX8_pace_0 0 rfl rfl ?_
  refine z_iconst B (0) dX8_pace_1 zc_iconst_0 ?_
  refine fR_p_thrown B dX8_pace_2 hf (fun s2 hf => ?_)
  refine z_aload_n B dX8_pace_5 0 rfl rfl ?_
  refine fR_g_row B dX8_pace_6 ?_
  refine z_bipush B (22) dX8_pace_9 zc_bipush_22 ?_
  refine fR_l_row B dX8_pace_11 hf (fun v11 hf => ?_)
  refine z_if_eq B 25 dX8_pace_12 (by decide) hf (fun hf => ?_) (fun hf => ?_)
  · exact tR_pace_25 B N s2 x1 hf
  · refine z_iload_n B dX8_pace_15 1 rfl rfl ?_
    refine z_i2l B dX8_pace_16 hf (fun v16 hf => ?_)
    refine z_lconst B (0) dX8_pace_17 rfl ?_
    refine z_lconst B (1) dX8_pace_18 rfl ?_
    refine z_callSi B (As := [.long v16, .long (0), .long (1)]) kcS_X8_71 dX8_pace_19 hf (fun q hq => cR_in q hq) rfl rfl (Nat.le_of_ble_eq_true rfl) rfl rfl ⟨Nat.le_of_ble_eq_true rfl, Nat.le_of_ble_eq_true rfl⟩ (fun v19 s19 hf => ?_)
    refine z_if_ne B 27 dX8_pace_22 (by decide) hf (fun hf => ?_) (fun hf => ?_)
    · refine z_iconst B (0) dX8_pace_27 zc_iconst_0 ?_
      refine z_istore_n B [(2, .int (0)), (0, .ref (adr 0)), (1, .int x1)] dX8_pace_28 rfl (Nat.le_of_ble_eq_true rfl) rfl ?_
      refine z_iconst B (0) dX8_pace_29 zc_iconst_0 ?_
      refine z_istore_n B [(3, .int (0)), (2, .int (0)), (0, .ref (adr 0)), (1, .int x1)] dX8_pace_30 rfl (Nat.le_of_ble_eq_true rfl) rfl ?_
      refine z_iconst B (1) dX8_pace_31 zc_iconst_1 ?_
      refine z_istore B [(4, .int (1)), (3, .int (0)), (2, .int (0)), (0, .ref (adr 0)), (1, .int x1)] dX8_pace_32 (Nat.le_of_ble_eq_true rfl) rfl ?_
      exact z_loc [3, 4, 2, 1, 0] _ rfl (tR_pace_34 B N s19 x1 (0) (0) (1) hf)
    · exact tR_pace_25 B N s19 x1 hf
theorem dX8_until_0 : decode cX8_until 0 = .ok (.aload_n 0, 1) := by decide +kernel
theorem dX8_until_1 : decode cX8_until 1 = .ok (.iconst 0, 1) := by decide +kernel
theorem dX8_until_2 : decode cX8_until 2 = .ok (.putfield 67, 3) := by decide +kernel
theorem dX8_until_5 : decode cX8_until 5 = .ok (.aload_n 0, 1) := by decide +kernel
theorem dX8_until_6 : decode cX8_until 6 = .ok (.iload_n 1, 1) := by decide +kernel
theorem dX8_until_7 : decode cX8_until 7 = .ok (.invokevirtual 222, 3) := by decide +kernel
theorem dX8_until_10 : decode cX8_until 10 = .ok (.ifCond .eq 17, 3) := by decide +kernel
theorem dX8_until_13 : decode cX8_until 13 = .ok (.aload_n 0, 1) := by decide +kernel
theorem dX8_until_14 : decode cX8_until 14 = .ok (.getfield 9, 3) := by decide +kernel
theorem dX8_until_17 : decode cX8_until 17 = .ok (.iload_n 1, 1) := by decide +kernel
theorem dX8_until_18 : decode cX8_until 18 = .ok (.invokestatic 89, 3) := by decide +kernel
theorem dX8_until_21 : decode cX8_until 21 = .ok (.iconst 3, 1) := by decide +kernel
theorem dX8_until_22 : decode cX8_until 22 = .ok (.iadd, 1) := by decide +kernel
theorem dX8_until_23 : decode cX8_until 23 = .ok (.iaload, 1) := by decide +kernel
theorem dX8_until_24 : decode cX8_until 24 = .ok (.ifCond .ne 5, 3) := by decide +kernel
theorem dX8_until_27 : decode cX8_until 27 = .ok (.iconst (-1), 1) := by decide +kernel
theorem dX8_until_28 : decode cX8_until 28 = .ok (.ireturn, 1) := by decide +kernel
theorem dX8_until_29 : decode cX8_until 29 = .ok (.iload_n 1, 1) := by decide +kernel
theorem dX8_until_30 : decode cX8_until 30 = .ok (.invokestatic 89, 3) := by decide +kernel
theorem dX8_until_33 : decode cX8_until 33 = .ok (.istore_n 2, 1) := by decide +kernel
theorem dX8_until_34 : decode cX8_until 34 = .ok (.aload_n 0, 1) := by decide +kernel
theorem dX8_until_35 : decode cX8_until 35 = .ok (.getfield 9, 3) := by decide +kernel
theorem dX8_until_38 : decode cX8_until 38 = .ok (.iload_n 2, 1) := by decide +kernel
theorem dX8_until_39 : decode cX8_until 39 = .ok (.iconst 2, 1) := by decide +kernel
theorem dX8_until_40 : decode cX8_until 40 = .ok (.iadd, 1) := by decide +kernel
theorem dX8_until_41 : decode cX8_until 41 = .ok (.iaload, 1) := by decide +kernel
theorem dX8_until_42 : decode cX8_until 42 = .ok (.istore_n 3, 1) := by decide +kernel
theorem dX8_until_43 : decode cX8_until 43 = .ok (.aload_n 0, 1) := by decide +kernel
theorem dX8_until_44 : decode cX8_until 44 = .ok (.getfield 9, 3) := by decide +kernel
theorem dX8_until_47 : decode cX8_until 47 = .ok (.iload_n 2, 1) := by decide +kernel
theorem dX8_until_48 : decode cX8_until 48 = .ok (.iconst 3, 1) := by decide +kernel
theorem dX8_until_49 : decode cX8_until 49 = .ok (.iadd, 1) := by decide +kernel
theorem dX8_until_50 : decode cX8_until 50 = .ok (.iaload, 1) := by decide +kernel
theorem dX8_until_51 : decode cX8_until 51 = .ok (.istore 4, 2) := by decide +kernel
theorem dX8_until_53 : decode cX8_until 53 = .ok (.aload_n 0, 1) := by decide +kernel
theorem dX8_until_54 : decode cX8_until 54 = .ok (.getfield 9, 3) := by decide +kernel
theorem dX8_until_57 : decode cX8_until 57 = .ok (.iload_n 2, 1) := by decide +kernel
theorem dX8_until_58 : decode cX8_until 58 = .ok (.iconst 4, 1) := by decide +kernel
theorem dX8_until_59 : decode cX8_until 59 = .ok (.iadd, 1) := by decide +kernel
theorem dX8_until_60 : decode cX8_until 60 = .ok (.iaload, 1) := by decide +kernel
theorem dX8_until_61 : decode cX8_until 61 = .ok (.istore 5, 2) := by decide +kernel
theorem dX8_until_63 : decode cX8_until 63 = .ok (.aload_n 0, 1) := by decide +kernel
theorem dX8_until_64 : decode cX8_until 64 = .ok (.getfield 9, 3) := by decide +kernel
theorem dX8_until_67 : decode cX8_until 67 = .ok (.iload_n 2, 1) := by decide +kernel
theorem dX8_until_68 : decode cX8_until 68 = .ok (.bipush 6, 2) := by decide +kernel
theorem dX8_until_70 : decode cX8_until 70 = .ok (.iadd, 1) := by decide +kernel
theorem dX8_until_71 : decode cX8_until 71 = .ok (.iaload, 1) := by decide +kernel
theorem dX8_until_72 : decode cX8_until 72 = .ok (.istore 6, 2) := by decide +kernel
theorem dX8_until_74 : decode cX8_until 74 = .ok (.iconst 0, 1) := by decide +kernel
theorem dX8_until_75 : decode cX8_until 75 = .ok (.istore 7, 2) := by decide +kernel
theorem dX8_until_77 : decode cX8_until 77 = .ok (.iload_n 3, 1) := by decide +kernel
theorem dX8_until_78 : decode cX8_until 78 = .ok (.iload 4, 2) := by decide +kernel
theorem dX8_until_80 : decode cX8_until 80 = .ok (.iadd, 1) := by decide +kernel
theorem dX8_until_81 : decode cX8_until 81 = .ok (.istore_n 3, 1) := by decide +kernel
theorem dX8_until_82 : decode cX8_until 82 = .ok (.aload_n 0, 1) := by decide +kernel
theorem dX8_until_83 : decode cX8_until 83 = .ok (.iload_n 3, 1) := by decide +kernel
theorem dX8_until_84 : decode cX8_until 84 = .ok (.invokevirtual 132, 3) := by decide +kernel
theorem dX8_until_87 : decode cX8_until 87 = .ok (.ifCond .ne 5, 3) := by decide +kernel
theorem dX8_until_90 : decode cX8_until 90 = .ok (.iconst (-1), 1) := by decide +kernel
theorem dX8_until_91 : decode cX8_until 91 = .ok (.ireturn, 1) := by decide +kernel
theorem dX8_until_92 : decode cX8_until 92 = .ok (.iinc 7 1, 3) := by decide +kernel
theorem dX8_until_95 : decode cX8_until 95 = .ok (.iinc 5 1, 3) := by decide +kernel
theorem dX8_until_98 : decode cX8_until 98 = .ok (.aload_n 0, 1) := by decide +kernel
theorem dX8_until_99 : decode cX8_until 99 = .ok (.getfield 9, 3) := by decide +kernel
theorem dX8_until_102 : decode cX8_until 102 = .ok (.iload_n 2, 1) := by decide +kernel
theorem dX8_until_103 : decode cX8_until 103 = .ok (.bipush 7, 2) := by decide +kernel
theorem dX8_until_105 : decode cX8_until 105 = .ok (.iadd, 1) := by decide +kernel
theorem dX8_until_106 : decode cX8_until 106 = .ok (.iaload, 1) := by decide +kernel
theorem dX8_until_107 : decode cX8_until 107 = .ok (.iload_n 3, 1) := by decide +kernel
theorem dX8_until_108 : decode cX8_until 108 = .ok (.if_icmp .eq 23, 3) := by decide +kernel
theorem dX8_until_111 : decode cX8_until 111 = .ok (.iload 4, 2) := by decide +kernel
theorem dX8_until_113 : decode cX8_until 113 = .ok (.ifCond .le 12, 3) := by decide +kernel
theorem dX8_until_116 : decode cX8_until 116 = .ok (.iload 6, 2) := by decide +kernel
theorem dX8_until_118 : decode cX8_until 118 = .ok (.iload_n 3, 1) := by decide +kernel
theorem dX8_until_119 : decode cX8_until 119 = .ok (.if_icmp .gt 16, 3) := by decide +kernel
theorem dX8_until_122 : decode cX8_until 122 = .ok (.goto 9, 3) := by decide +kernel
theorem dX8_until_125 : decode cX8_until 125 = .ok (.iload 6, 2) := by decide +kernel
theorem dX8_until_127 : decode cX8_until 127 = .ok (.iload_n 3, 1) := by decide +kernel
theorem dX8_until_128 : decode cX8_until 128 = .ok (.if_icmp .lt 7, 3) := by decide +kernel
theorem dX8_until_131 : decode cX8_until 131 = .ok (.iconst 1, 1) := by decide +kernel
theorem dX8_until_132 : decode cX8_until 132 = .ok (.goto 4, 3) := by decide +kernel
theorem dX8_until_135 : decode cX8_until 135 = .ok (.iconst 0, 1) := by decide +kernel
theorem dX8_until_136 : decode cX8_until 136 = .ok (.istore 8, 2) := by decide +kernel
theorem dX8_until_138 : decode cX8_until 138 = .ok (.aload_n 0, 1) := by decide +kernel
theorem dX8_until_139 : decode cX8_until 139 = .ok (.getfield 9, 3) := by decide +kernel
theorem dX8_until_142 : decode cX8_until 142 = .ok (.iload_n 2, 1) := by decide +kernel
theorem dX8_until_143 : decode cX8_until 143 = .ok (.iconst 5, 1) := by decide +kernel
theorem dX8_until_144 : decode cX8_until 144 = .ok (.iadd, 1) := by decide +kernel
theorem dX8_until_145 : decode cX8_until 145 = .ok (.iaload, 1) := by decide +kernel
theorem dX8_until_146 : decode cX8_until 146 = .ok (.ifCond .ne 17, 3) := by decide +kernel
theorem dX8_until_149 : decode cX8_until 149 = .ok (.iload 5, 2) := by decide +kernel
theorem dX8_until_151 : decode cX8_until 151 = .ok (.aload_n 0, 1) := by decide +kernel
theorem dX8_until_152 : decode cX8_until 152 = .ok (.getfield 9, 3) := by decide +kernel
theorem dX8_until_155 : decode cX8_until 155 = .ok (.iconst 1, 1) := by decide +kernel
theorem dX8_until_156 : decode cX8_until 156 = .ok (.iaload, 1) := by decide +kernel
theorem dX8_until_157 : decode cX8_until 157 = .ok (.if_icmp .lt 14, 3) := by decide +kernel
theorem dX8_until_160 : decode cX8_until 160 = .ok (.goto 8, 3) := by decide +kernel
theorem dX8_until_163 : decode cX8_until 163 = .ok (.iload 8, 2) := by decide +kernel
theorem dX8_until_165 : decode cX8_until 165 = .ok (.ifCond .eq 6, 3) := by decide +kernel
theorem dX8_until_168 : decode cX8_until 168 = .ok (.iload 7, 2) := by decide +kernel
theorem dX8_until_170 : decode cX8_until 170 = .ok (.ireturn, 1) := by decide +kernel
theorem dX8_until_171 : decode cX8_until 171 = .ok (.goto (-94), 3) := by decide +kernel
def mR_until_171 (N : Nat) (hd77 : ST → Int32 → Int32 → Int32 → Int32 → Int32 → Int32 → Int32 → Option (Int32 × ST)) (σ : ST) (x1 : Int32) (x2 : Int32) (x3 : Int32) (x4 : Int32) (x5 : Int32) (x6 : Int32) (x7 : Int32) (x8 : Int32) : Option (Int32 × ST) :=
  hd77 σ x1 x2 x3 x4 x5 x6 x7
set_option maxRecDepth 20000 in
set_option maxHeartbeats 2000000 in
theorem tR_until_171 {adr : Nat → Nat} {cI cZ : ClassId} {X : zX} {q : Int32 × ST} (B : zC X 9 (wdR adr cI cZ) cX8_until RX8 (some .int) { frames := 2, cells := 0, slots := 0, locals := 46 }) (N : Nat) (hd77 : ST → Int32 → Int32 → Int32 → Int32 → Int32 → Int32 → Int32 → Option (Int32 × ST)) (hh77 : ∀ (σ : ST) (x1 : Int32) (x2 : Int32) (x3 : Int32) (x4 : Int32) (x5 : Int32) (x6 : Int32) (x7 : Int32), hd77 σ x1 x2 x3 x4 x5 x6 x7 = some q → zJ X 9 (wdR adr cI cZ) (zi q) 77 [(0, .ref (adr 0)), (1, .int x1), (2, .int x2), (3, .int x3), (4, .int x4), (5, .int x5), (6, .int x6), (7, .int x7)] [] σ) (σ : ST) (x1 : Int32) (x2 : Int32) (x3 : Int32) (x4 : Int32) (x5 : Int32) (x6 : Int32) (x7 : Int32) (x8 : Int32) (hf : mR_until_171 N hd77 σ x1 x2 x3 x4 x5 x6 x7 x8 = some q) : zJ X 9 (wdR adr cI cZ) (zi q) 171 [(0, .ref (adr 0)), (1, .int x1), (2, .int x2), (3, .int x3), (4, .int x4), (5, .int x5), (6, .int x6), (7, .int x7), (8, .int x8)] [] σ := by
  refine z_goto B 77 dX8_until_171 (by decide) ?_
  exact z_loc [0, 1, 2, 3, 4, 5, 6, 7] _ rfl (hh77 σ x1 x2 x3 x4 x5 x6 x7 hf)
def mR_until_168 (N : Nat) (σ : ST) (x1 : Int32) (x2 : Int32) (x3 : Int32) (x4 : Int32) (x5 : Int32) (x6 : Int32) (x7 : Int32) (x8 : Int32) : Option (Int32 × ST) :=
  some (x7, σ)
set_option maxRecDepth 20000 in
set_option maxHeartbeats 2000000 in
theorem tR_until_168 {adr : Nat → Nat} {cI cZ : ClassId} {X : zX} {q : Int32 × ST} (B : zC X 9 (wdR adr cI cZ) cX8_until RX8 (some .int) { frames := 2, cells := 0, slots := 0, locals := 46 }) (N : Nat) (σ : ST) (x1 : Int32) (x2 : Int32) (x3 : Int32) (x4 : Int32) (x5 : Int32) (x6 : Int32) (x7 : Int32) (x8 : Int32) (hf : mR_until_168 N σ x1 x2 x3 x4 x5 x6 x7 x8 = some q) : zJ X 9 (wdR adr cI cZ) (zi q) 168 [(0, .ref (adr 0)), (1, .int x1), (2, .int x2), (3, .int x3), (4, .int x4), (5, .int x5), (6, .int x6), (7, .int x7), (8, .int x8)] [] σ := by
  refine z_iload B dX8_until_168 7 rfl ?_
  exact z_ireturn B dX8_until_170 hf
def mR_until_136 (N : Nat) (hd77 : ST → Int32 → Int32 → Int32 → Int32 → Int32 → Int32 → Int32 → Option (Int32 × ST)) (σ : ST) (x1 : Int32) (x2 : Int32) (x3 : Int32) (x4 : Int32) (x5 : Int32) (x6 : Int32) (x7 : Int32) (k0 : Int32) : Option (Int32 × ST) :=
  zLet ((x2 : Int32) + (5)) fun v144 =>
  zGet (σ 1) 1974 v144 fun v145 =>
  if (v145 : Int32) = 0 then
    zGet (σ 1) 1974 (1) fun v156 =>
    if (x5 : Int32) < v156 then
      mR_until_171 N hd77 σ x1 x2 x3 x4 x5 x6 x7 k0
    else
      mR_until_168 N σ x1 x2 x3 x4 x5 x6 x7 k0
  else
    if (k0 : Int32) = 0 then
      mR_until_171 N hd77 σ x1 x2 x3 x4 x5 x6 x7 k0
    else
      mR_until_168 N σ x1 x2 x3 x4 x5 x6 x7 k0
set_option maxRecDepth 20000 in
set_option maxHeartbeats 2000000 in
theorem tR_until_136 {adr : Nat → Nat} {cI cZ : ClassId} {X : zX} {q : Int32 × ST} (B : zC X 9 (wdR adr cI cZ) cX8_until RX8 (some .int) { frames := 2, cells := 0, slots := 0, locals := 46 }) (N : Nat) (hd77 : ST → Int32 → Int32 → Int32 → Int32 → Int32 → Int32 → Int32 → Option (Int32 × ST)) (hh77 : ∀ (σ : ST) (x1 : Int32) (x2 : Int32) (x3 : Int32) (x4 : Int32) (x5 : Int32) (x6 : Int32) (x7 : Int32), hd77 σ x1 x2 x3 x4 x5 x6 x7 = some q → zJ X 9 (wdR adr cI cZ) (zi q) 77 [(0, .ref (adr 0)), (1, .int x1), (2, .int x2), (3, .int x3), (4, .int x4), (5, .int x5), (6, .int x6), (7, .int x7)] [] σ) (σ : ST) (x1 : Int32) (x2 : Int32) (x3 : Int32) (x4 : Int32) (x5 : Int32) (x6 : Int32) (x7 : Int32) (k0 : Int32) (hf : mR_until_136 N hd77 σ x1 x2 x3 x4 x5 x6 x7 k0 = some q) : zJ X 9 (wdR adr cI cZ) (zi q) 136 [(0, .ref (adr 0)), (1, .int x1), (2, .int x2), (3, .int x3), (4, .int x4), (5, .int x5), (6, .int x6), (7, .int x7)] [.int k0] σ := by
  refine z_istore B [(8, .int k0), (0, .ref (adr 0)), (1, .int x1), (2, .int x2), (3, .int x3), (4, .int x4), (5, .int x5), (6, .int x6), (7, .int x7)] dX8_until_136 (Nat.le_of_ble_eq_true rfl) rfl ?_
  refine z_aload_n B dX8_until_138 1 rfl rfl ?_
  refine fR_g_row B dX8_until_139 ?_
  refine z_iload_n B dX8_until_142 3 rfl rfl ?_
  refine z_iconst B (5) dX8_until_143 zc_iconst_5 ?_
  refine z_iadd B dX8_until_144 hf (fun v144 hf => ?_)
  refine fR_l_row B dX8_until_145 hf (fun v145 hf => ?_)
  refine z_if_ne B 163 dX8_until_146 (by decide) hf (fun hf => ?_) (fun hf => ?_)
  · refine z_iload B dX8_until_163 0 rfl ?_
    refine z_if_eq B 171 dX8_until_165 (by decide) hf (fun hf => ?_) (fun hf => ?_)
    · exact z_loc [1, 2, 3, 4, 5, 6, 7, 8, 0] _ rfl (tR_until_171 B N hd77 hh77 σ x1 x2 x3 x4 x5 x6 x7 k0 hf)
    · exact z_loc [1, 2, 3, 4, 5, 6, 7, 8, 0] _ rfl (tR_until_168 B N σ x1 x2 x3 x4 x5 x6 x7 k0 hf)
  · refine z_iload B dX8_until_149 6 rfl ?_
    refine z_aload_n B dX8_until_151 1 rfl rfl ?_
    refine fR_g_row B dX8_until_152 ?_
    refine z_iconst B (1) dX8_until_155 zc_iconst_1 ?_
    refine fR_l_row B dX8_until_156 hf (fun v156 hf => ?_)
    refine z_icmp_lt B 171 dX8_until_157 (by decide) hf (fun hf => ?_) (fun hf => ?_)
    · exact z_loc [1, 2, 3, 4, 5, 6, 7, 8, 0] _ rfl (tR_until_171 B N hd77 hh77 σ x1 x2 x3 x4 x5 x6 x7 k0 hf)
    · refine z_goto B 168 dX8_until_160 (by decide) ?_
      exact z_loc [1, 2, 3, 4, 5, 6, 7, 8, 0] _ rfl (tR_until_168 B N σ x1 x2 x3 x4 x5 x6 x7 k0 hf)
def mR_until_135 (N : Nat) (hd77 : ST → Int32 → Int32 → Int32 → Int32 → Int32 → Int32 → Int32 → Option (Int32 × ST)) (σ : ST) (x1 : Int32) (x2 : Int32) (x3 : Int32) (x4 : Int32) (x5 : Int32) (x6 : Int32) (x7 : Int32) : Option (Int32 × ST) :=
  mR_until_136 N hd77 σ x1 x2 x3 x4 x5 x6 x7 (0)
set_option maxRecDepth 20000 in
set_option maxHeartbeats 2000000 in
theorem tR_until_135 {adr : Nat → Nat} {cI cZ : ClassId} {X : zX} {q : Int32 × ST} (B : zC X 9 (wdR adr cI cZ) cX8_until RX8 (some .int) { frames := 2, cells := 0, slots := 0, locals := 46 }) (N : Nat) (hd77 : ST → Int32 → Int32 → Int32 → Int32 → Int32 → Int32 → Int32 → Option (Int32 × ST)) (hh77 : ∀ (σ : ST) (x1 : Int32) (x2 : Int32) (x3 : Int32) (x4 : Int32) (x5 : Int32) (x6 : Int32) (x7 : Int32), hd77 σ x1 x2 x3 x4 x5 x6 x7 = some q → zJ X 9 (wdR adr cI cZ) (zi q) 77 [(0, .ref (adr 0)), (1, .int x1), (2, .int x2), (3, .int x3), (4, .int x4), (5, .int x5), (6, .int x6), (7, .int x7)] [] σ) (σ : ST) (x1 : Int32) (x2 : Int32) (x3 : Int32) (x4 : Int32) (x5 : Int32) (x6 : Int32) (x7 : Int32) (hf : mR_until_135 N hd77 σ x1 x2 x3 x4 x5 x6 x7 = some q) : zJ X 9 (wdR adr cI cZ) (zi q) 135 [(0, .ref (adr 0)), (1, .int x1), (2, .int x2), (3, .int x3), (4, .int x4), (5, .int x5), (6, .int x6), (7, .int x7)] [] σ := by
  refine z_iconst B (0) dX8_until_135 zc_iconst_0 ?_
  exact tR_until_136 B N hd77 hh77 σ x1 x2 x3 x4 x5 x6 x7 (0) hf
def mR_until_131 (N : Nat) (hd77 : ST → Int32 → Int32 → Int32 → Int32 → Int32 → Int32 → Int32 → Option (Int32 × ST)) (σ : ST) (x1 : Int32) (x2 : Int32) (x3 : Int32) (x4 : Int32) (x5 : Int32) (x6 : Int32) (x7 : Int32) : Option (Int32 × ST) :=
  mR_until_136 N hd77 σ x1 x2 x3 x4 x5 x6 x7 (1)
set_option maxRecDepth 20000 in
set_option maxHeartbeats 2000000 in
theorem tR_until_131 {adr : Nat → Nat} {cI cZ : ClassId} {X : zX} {q : Int32 × ST} (B : zC X 9 (wdR adr cI cZ) cX8_until RX8 (some .int) { frames := 2, cells := 0, slots := 0, locals := 46 }) (N : Nat) (hd77 : ST → Int32 → Int32 → Int32 → Int32 → Int32 → Int32 → Int32 → Option (Int32 × ST)) (hh77 : ∀ (σ : ST) (x1 : Int32) (x2 : Int32) (x3 : Int32) (x4 : Int32) (x5 : Int32) (x6 : Int32) (x7 : Int32), hd77 σ x1 x2 x3 x4 x5 x6 x7 = some q → zJ X 9 (wdR adr cI cZ) (zi q) 77 [(0, .ref (adr 0)), (1, .int x1), (2, .int x2), (3, .int x3), (4, .int x4), (5, .int x5), (6, .int x6), (7, .int x7)] [] σ) (σ : ST) (x1 : Int32) (x2 : Int32) (x3 : Int32) (x4 : Int32) (x5 : Int32) (x6 : Int32) (x7 : Int32) (hf : mR_until_131 N hd77 σ x1 x2 x3 x4 x5 x6 x7 = some q) : zJ X 9 (wdR adr cI cZ) (zi q) 131 [(0, .ref (adr 0)), (1, .int x1), (2, .int x2), (3, .int x3), (4, .int x4), (5, .int x5), (6, .int x6), (7, .int x7)] [] σ := by
  refine z_iconst B (1) dX8_until_131 zc_iconst_1 ?_
  refine z_goto B 136 dX8_until_132 (by decide) ?_
  exact tR_until_136 B N hd77 hh77 σ x1 x2 x3 x4 x5 x6 x7 (1) hf
def mR_until_B77 (N : Nat) (hd77 : ST → Int32 → Int32 → Int32 → Int32 → Int32 → Int32 → Int32 → Option (Int32 × ST)) (σ : ST) (x1 : Int32) (x2 : Int32) (x3 : Int32) (x4 : Int32) (x5 : Int32) (x6 : Int32) (x7 : Int32) : Option (Int32 × ST) :=
  zLet ((x3 : Int32) + x4) fun v80 =>
  zCall (mR_isBlock N σ v80) fun v84 s84 =>
  if (v84 : Int32) = 0 then
    some ((-1), s84)
  else
    zLet (x7 + (1)) fun v92 =>
    zLet (x5 + (1)) fun v95 =>
    zLet ((x2 : Int32) + (7)) fun v105 =>
    zGet (s84 1) 1974 v105 fun v106 =>
    if (v106 : Int32) = v80 then
      mR_until_131 N hd77 s84 x1 x2 v80 x4 v95 x6 v92
    else
      if (x4 : Int32) ≤ 0 then
        if (x6 : Int32) < v80 then
          mR_until_135 N hd77 s84 x1 x2 v80 x4 v95 x6 v92
        else
          mR_until_131 N hd77 s84 x1 x2 v80 x4 v95 x6 v92
      else
        if (v80 : Int32) < x6 then
          mR_until_135 N hd77 s84 x1 x2 v80 x4 v95 x6 v92
        else
          mR_until_131 N hd77 s84 x1 x2 v80 x4 v95 x6 v92
def mR_until_77 (N : Nat) : ST → Int32 → Int32 → Int32 → Int32 → Int32 → Int32 → Int32 → Option (Int32 × ST) := zIt (mR_until_B77 N) (fun _ _ _ _ _ _ _ _ => none) N
set_option maxRecDepth 20000 in
set_option maxHeartbeats 2000000 in
theorem tR_until_77 {adr : Nat → Nat} {cI cZ : ClassId} {X : zX} {q : Int32 × ST} (B : zC X 9 (wdR adr cI cZ) cX8_until RX8 (some .int) { frames := 2, cells := 0, slots := 0, locals := 46 }) (N : Nat) : ∀ (σ : ST) (x1 : Int32) (x2 : Int32) (x3 : Int32) (x4 : Int32) (x5 : Int32) (x6 : Int32) (x7 : Int32), mR_until_77 N σ x1 x2 x3 x4 x5 x6 x7 = some q → zJ X 9 (wdR adr cI cZ) (zi q) 77 [(0, .ref (adr 0)), (1, .int x1), (2, .int x2), (3, .int x3), (4, .int x4), (5, .int x5), (6, .int x6), (7, .int x7)] [] σ := by
  refine zIt_ind (P := fun (hd : ST → Int32 → Int32 → Int32 → Int32 → Int32 → Int32 → Int32 → Option (Int32 × ST)) => ∀ (σ : ST) (x1 : Int32) (x2 : Int32) (x3 : Int32) (x4 : Int32) (x5 : Int32) (x6 : Int32) (x7 : Int32), hd σ x1 x2 x3 x4 x5 x6 x7 = some q → zJ X 9 (wdR adr cI cZ) (zi q) 77 [(0, .ref (adr 0)), (1, .int x1), (2, .int x2), (3, .int x3), (4, .int x4), (5, .int x5), (6, .int x6), (7, .int x7)] [] σ) (fun _ _ _ _ _ _ _ _ hf => by cases hf) (fun hd77 hh77 => ?_) N
  intro σ x1 x2 x3 x4 x5 x6 x7 hf
  refine z_iload_n B dX8_until_77 3 rfl rfl ?_
  refine z_iload B dX8_until_78 4 rfl ?_
  refine z_iadd B dX8_until_80 hf (fun v80 hf => ?_)
  refine z_istore_n B [(3, .int v80), (0, .ref (adr 0)), (1, .int x1), (2, .int x2), (4, .int x4), (5, .int x5), (6, .int x6), (7, .int x7)] dX8_until_81 rfl (Nat.le_of_ble_eq_true rfl) rfl ?_
  refine z_aload_n B dX8_until_82 1 rfl rfl ?_
  refine z_iload_n B dX8_until_83 0 rfl rfl ?_
  refine z_callVi B (As := [.int v80]) kcV_X8_132 dX8_until_84 hf (fun q hq => cR_isBlock q hq) (wR_o (adr := adr) (cI := cI) (cZ := cZ)) rfl rfl rfl rfl (Nat.le_of_ble_eq_true rfl) rfl rfl ⟨Nat.le_of_ble_eq_true rfl, Nat.le_of_ble_eq_true rfl⟩ (fun v84 s84 hf => ?_)
  refine z_if_ne B 92 dX8_until_87 (by decide) hf (fun hf => ?_) (fun hf => ?_)
  · refine z_iinc B (1) 7 (fun v92 => [(7, .int v92), (3, .int v80), (0, .ref (adr 0)), (1, .int x1), (2, .int x2), (4, .int x4), (5, .int x5), (6, .int x6)]) dX8_until_92 hf zc_iconst_1 rfl (Nat.le_of_ble_eq_true rfl) (fun _ => rfl) (fun v92 hf => ?_)
    refine z_iinc B (1) 6 (fun v95 => [(5, .int v95), (7, .int v92), (3, .int v80), (0, .ref (adr 0)), (1, .int x1), (2, .int x2), (4, .int x4), (6, .int x6)]) dX8_until_95 hf zc_iconst_1 rfl (Nat.le_of_ble_eq_true rfl) (fun _ => rfl) (fun v95 hf => ?_)
    refine z_aload_n B dX8_until_98 3 rfl rfl ?_
    refine fR_g_row B dX8_until_99 ?_
    refine z_iload_n B dX8_until_102 5 rfl rfl ?_
    refine z_bipush B (7) dX8_until_103 zc_bipush_7 ?_
    refine z_iadd B dX8_until_105 hf (fun v105 hf => ?_)
    refine fR_l_row B dX8_until_106 hf (fun v106 hf => ?_)
    refine z_iload_n B dX8_until_107 2 rfl rfl ?_
    refine z_icmp_eq B 131 dX8_until_108 (by decide) hf (fun hf => ?_) (fun hf => ?_)
    · exact z_loc [3, 4, 5, 2, 6, 0, 7, 1] _ rfl (tR_until_131 B N hd77 hh77 s84 x1 x2 v80 x4 v95 x6 v92 hf)
    · refine z_iload B dX8_until_111 6 rfl ?_
      refine z_if_le B 125 dX8_until_113 (by decide) hf (fun hf => ?_) (fun hf => ?_)
      · refine z_iload B dX8_until_125 7 rfl ?_
        refine z_iload_n B dX8_until_127 2 rfl rfl ?_
        refine z_icmp_lt B 135 dX8_until_128 (by decide) hf (fun hf => ?_) (fun hf => ?_)
        · exact z_loc [3, 4, 5, 2, 6, 0, 7, 1] _ rfl (tR_until_135 B N hd77 hh77 s84 x1 x2 v80 x4 v95 x6 v92 hf)
        · exact z_loc [3, 4, 5, 2, 6, 0, 7, 1] _ rfl (tR_until_131 B N hd77 hh77 s84 x1 x2 v80 x4 v95 x6 v92 hf)
      · refine z_iload B dX8_until_116 7 rfl ?_
        refine z_iload_n B dX8_until_118 2 rfl rfl ?_
        refine z_icmp_gt B 135 dX8_until_119 (by decide) hf (fun hf => ?_) (fun hf => ?_)
        · exact z_loc [3, 4, 5, 2, 6, 0, 7, 1] _ rfl (tR_until_135 B N hd77 hh77 s84 x1 x2 v80 x4 v95 x6 v92 hf)
        · refine z_goto B 131 dX8_until_122 (by decide) ?_
          exact z_loc [3, 4, 5, 2, 6, 0, 7, 1] _ rfl (tR_until_131 B N hd77 hh77 s84 x1 x2 v80 x4 v95 x6 v92 hf)
  · refine z_iconst B (-1) dX8_until_90 zc_iconst_m1 ?_
    exact z_ireturn B dX8_until_91 hf
def mR_until_27 (N : Nat) (σ : ST) (x1 : Int32) : Option (Int32 × ST) :=
  some ((-1), σ)
set_option maxRecDepth 20000 in
set_option maxHeartbeats 2000000 in
theorem tR_until_27 {adr : Nat → Nat} {cI cZ : ClassId} {X : zX} {q : Int32 × ST} (B : zC X 9 (wdR adr cI cZ) cX8_until RX8 (some .int) { frames := 2, cells := 0, slots := 0, locals := 46 }) (N : Nat) (σ : ST) (x1 : Int32) (hf : mR_until_27 N σ x1 = some q) : zJ X 9 (wdR adr cI cZ) (zi q) 27 [(0, .ref (adr 0)), (1, .int x1)] [] σ := by
  refine z_iconst B (-1) dX8_until_27 zc_iconst_m1 ?_
  exact z_ireturn B dX8_until_28 hf
def mR_until (N : Nat) (σ : ST) (x1 : Int32) : Option (Int32 × ST) :=
  zLet (zUp σ 0 0 (0)) fun s2 =>
  zCall (mR_isStream N s2 x1) fun v7 s7 =>
  if (v7 : Int32) = 0 then
    mR_until_27 N s7 x1
  else
    zCall (mR_streamAt N s7 x1) fun v18 s18 =>
    zLet ((v18 : Int32) + (3)) fun v22 =>
    zGet (s18 1) 1974 v22 fun v23 =>
    if (v23 : Int32) = 0 then
      mR_until_27 N s18 x1
    else
      zCall (mR_streamAt N s18 x1) fun v30 s30 =>
      zLet ((v30 : Int32) + (2)) fun v40 =>
      zGet (s30 1) 1974 v40 fun v41 =>
      zLet ((v30 : Int32) + (3)) fun v49 =>
      zGet (s30 1) 1974 v49 fun v50 =>
      zLet ((v30 : Int32) + (4)) fun v59 =>
      zGet (s30 1) 1974 v59 fun v60 =>
      zLet ((v30 : Int32) + (6)) fun v70 =>
      zGet (s30 1) 1974 v70 fun v71 =>
      mR_until_77 N s30 x1 v30 v41 v50 v60 v71 (0)
set_option maxRecDepth 20000 in
set_option maxHeartbeats 2000000 in
theorem cR_until {adr : Nat → Nat} {cI cZ : ClassId} {l : Launch} {D : va_G} {N : Nat} {σ : ST} {x1 : Int32} (q : Int32 × ST) (hf : mR_until N σ x1 = some q) : zM l D (wdR adr cI cZ) yX8_until cX8_until 9 (some .int) ({ frames := 2, cells := 0, slots := 0, locals := 46 }) [.ref (adr 0), .int x1] σ (zi q) := by
  refine zM_of sfR_ok rfl (Nat.le_of_ble_eq_true rfl) [(0, .ref (adr 0)), (1, .int x1)] rfl (fun X hX1 hX2 B => ?_)
  have B : zC X 9 (wdR adr cI cZ) cX8_until RX8 (some .int) { frames := 2, cells := 0, slots := 0, locals := 46 } := B
  refine z_aload_n B dX8_until_0 0 rfl rfl ?_
  refine z_iconst B (0) dX8_until_1 zc_iconst_0 ?_
  refine fR_p_thrown B dX8_until_2 hf (fun s2 hf => ?_)
  refine z_aload_n B dX8_until_5 0 rfl rfl ?_
  refine z_iload_n B dX8_until_6 1 rfl rfl ?_
  refine z_callVi B (As := [.int x1]) kcV_X8_222 dX8_until_7 hf (fun q hq => cR_isStream q hq) (wR_o (adr := adr) (cI := cI) (cZ := cZ)) rfl rfl rfl rfl (Nat.le_of_ble_eq_true rfl) rfl rfl ⟨Nat.le_of_ble_eq_true rfl, Nat.le_of_ble_eq_true rfl⟩ (fun v7 s7 hf => ?_)
  refine z_if_eq B 27 dX8_until_10 (by decide) hf (fun hf => ?_) (fun hf => ?_)
  · exact tR_until_27 B N s7 x1 hf
  · refine z_aload_n B dX8_until_13 0 rfl rfl ?_
    refine fR_g_row B dX8_until_14 ?_
    refine z_iload_n B dX8_until_17 1 rfl rfl ?_
    refine z_callSi B (As := [.int x1]) kcS_X8_89 dX8_until_18 hf (fun q hq => cR_streamAt q hq) rfl rfl (Nat.le_of_ble_eq_true rfl) rfl rfl ⟨Nat.le_of_ble_eq_true rfl, Nat.le_of_ble_eq_true rfl⟩ (fun v18 s18 hf => ?_)
    refine z_iconst B (3) dX8_until_21 zc_iconst_3 ?_
    refine z_iadd B dX8_until_22 hf (fun v22 hf => ?_)
    refine fR_l_row B dX8_until_23 hf (fun v23 hf => ?_)
    refine z_if_ne B 29 dX8_until_24 (by decide) hf (fun hf => ?_) (fun hf => ?_)
    · refine z_iload_n B dX8_until_29 1 rfl rfl ?_
      refine z_callSi B (As := [.int x1]) kcS_X8_89 dX8_until_30 hf (fun q hq => cR_streamAt q hq) rfl rfl (Nat.le_of_ble_eq_true rfl) rfl rfl ⟨Nat.le_of_ble_eq_true rfl, Nat.le_of_ble_eq_true rfl⟩ (fun v30 s30 hf => ?_)
      refine z_istore_n B [(2, .int v30), (0, .ref (adr 0)), (1, .int x1)] dX8_until_33 rfl (Nat.le_of_ble_eq_true rfl) rfl ?_
      refine z_aload_n B dX8_until_34 1 rfl rfl ?_
      refine fR_g_row B dX8_until_35 ?_
      refine z_iload_n B dX8_until_38 0 rfl rfl ?_
      refine z_iconst B (2) dX8_until_39 zc_iconst_2 ?_
      refine z_iadd B dX8_until_40 hf (fun v40 hf => ?_)
      refine fR_l_row B dX8_until_41 hf (fun v41 hf => ?_)
      refine z_istore_n B [(3, .int v41), (2, .int v30), (0, .ref (adr 0)), (1, .int x1)] dX8_until_42 rfl (Nat.le_of_ble_eq_true rfl) rfl ?_
      refine z_aload_n B dX8_until_43 2 rfl rfl ?_
      refine fR_g_row B dX8_until_44 ?_
      refine z_iload_n B dX8_until_47 1 rfl rfl ?_
      refine z_iconst B (3) dX8_until_48 zc_iconst_3 ?_
      refine z_iadd B dX8_until_49 hf (fun v49 hf => ?_)
      refine fR_l_row B dX8_until_50 hf (fun v50 hf => ?_)
      refine z_istore B [(4, .int v50), (3, .int v41), (2, .int v30), (0, .ref (adr 0)), (1, .int x1)] dX8_until_51 (Nat.le_of_ble_eq_true rfl) rfl ?_
      refine z_aload_n B dX8_until_53 3 rfl rfl ?_
      refine fR_g_row B dX8_until_54 ?_
      refine z_iload_n B dX8_until_57 2 rfl rfl ?_
      refine z_iconst B (4) dX8_until_58 zc_iconst_4 ?_
      refine z_iadd B dX8_until_59 hf (fun v59 hf => ?_)
      refine fR_l_row B dX8_until_60 hf (fun v60 hf => ?_)
      refine z_istore B [(5, .int v60), (4, .int v50), (3, .int v41), (2, .int v30), (0, .ref (adr 0)), (1, .int x1)] dX8_until_61 (Nat.le_of_ble_eq_true rfl) rfl ?_
      refine z_aload_n B dX8_until_63 4 rfl rfl ?_
      refine fR_g_row B dX8_until_64 ?_
      refine z_iload_n B dX8_until_67 3 rfl rfl ?_
      refine z_bipush B (6) dX8_until_68 zc_bipush_6 ?_
      refine z_iadd B dX8_until_70 hf (fun v70 hf => ?_)
      refine fR_l_row B dX8_until_71 hf (fun v71 hf => ?_)
      refine z_istore B [(6, .int v71), (5, .int v60), (4, .int v50), (3, .int v41), (2, .int v30), (0, .ref (adr 0)), (1, .int x1)] dX8_until_72 (Nat.le_of_ble_eq_true rfl) rfl ?_
      refine z_iconst B (0) dX8_until_74 zc_iconst_0 ?_
      refine z_istore B [(7, .int (0)), (6, .int v71), (5, .int v60), (4, .int v50), (3, .int v41), (2, .int v30), (0, .ref (adr 0)), (1, .int x1)] dX8_until_75 (Nat.le_of_ble_eq_true rfl) rfl ?_
      exact z_loc [6, 7, 5, 4, 3, 2, 1, 0] _ rfl (tR_until_77 B N s30 x1 v30 v41 v50 v60 v71 (0) hf)
    · exact tR_until_27 B N s18 x1 hf
theorem dX8_count_0 : decode cX8_count 0 = .ok (.aload_n 0, 1) := by decide +kernel
theorem dX8_count_1 : decode cX8_count 1 = .ok (.iconst 0, 1) := by decide +kernel
theorem dX8_count_2 : decode cX8_count 2 = .ok (.putfield 67, 3) := by decide +kernel
theorem dX8_count_5 : decode cX8_count 5 = .ok (.aload_n 0, 1) := by decide +kernel
theorem dX8_count_6 : decode cX8_count 6 = .ok (.iload_n 1, 1) := by decide +kernel
theorem dX8_count_7 : decode cX8_count 7 = .ok (.invokevirtual 273, 3) := by decide +kernel
theorem dX8_count_10 : decode cX8_count 10 = .ok (.ireturn, 1) := by decide +kernel
def mR_count (N : Nat) (σ : ST) (x1 : Int32) : Option (Int32 × ST) :=
  zLet (zUp σ 0 0 (0)) fun s2 =>
  zCall (mR_tells N s2 x1) fun v7 s7 =>
  some (v7, s7)
set_option maxRecDepth 20000 in
set_option maxHeartbeats 2000000 in
theorem cR_count {adr : Nat → Nat} {cI cZ : ClassId} {l : Launch} {D : va_G} {N : Nat} {σ : ST} {x1 : Int32} (q : Int32 × ST) (hf : mR_count N σ x1 = some q) : zM l D (wdR adr cI cZ) yX8_count cX8_count 2 (some .int) ({ frames := 3, cells := 0, slots := 0, locals := 65 }) [.ref (adr 0), .int x1] σ (zi q) := by
  refine zM_of sfR_ok rfl (Nat.le_of_ble_eq_true rfl) [(0, .ref (adr 0)), (1, .int x1)] rfl (fun X hX1 hX2 B => ?_)
  have B : zC X 2 (wdR adr cI cZ) cX8_count RX8 (some .int) { frames := 3, cells := 0, slots := 0, locals := 65 } := B
  refine z_aload_n B dX8_count_0 0 rfl rfl ?_
  refine z_iconst B (0) dX8_count_1 zc_iconst_0 ?_
  refine fR_p_thrown B dX8_count_2 hf (fun s2 hf => ?_)
  refine z_aload_n B dX8_count_5 0 rfl rfl ?_
  refine z_iload_n B dX8_count_6 1 rfl rfl ?_
  refine z_callVi B (As := [.int x1]) kcV_X8_273 dX8_count_7 hf (fun q hq => cR_tells q hq) (wR_o (adr := adr) (cI := cI) (cZ := cZ)) rfl rfl rfl rfl (Nat.le_of_ble_eq_true rfl) rfl rfl ⟨Nat.le_of_ble_eq_true rfl, Nat.le_of_ble_eq_true rfl⟩ (fun v7 s7 hf => ?_)
  exact z_ireturn B dX8_count_10 hf
