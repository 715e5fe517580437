theorem dX8_cached_0 : decode cX8_cached 0 = .ok (.aload_n 0, 1) := by decide +kernel
theorem dX8_cached_1 : decode cX8_cached 1 = .ok (.iconst 0, 1) := by decide +kernel
theorem dX8_cached_2 : decode cX8_cached 2 = .ok (.putfield 67, 3) := by decide +kernel
theorem dX8_cached_5 : decode cX8_cached 5 = .ok (.iconst 0, 1) := by decide +kernel
theorem dX8_cached_6 : decode cX8_cached 6 = .ok (.istore_n 2, 1) := by decide +kernel
theorem dX8_cached_7 : decode cX8_cached 7 = .ok (.iload_n 2, 1) := by decide +kernel
theorem dX8_cached_8 : decode cX8_cached 8 = .ok (.aload_n 0, 1) := by decide +kernel
theorem dX8_cached_9 : decode cX8_cached 9 = .ok (.getfield 9, 3) := by decide +kernel
theorem dX8_cached_12 : decode cX8_cached 12 = .ok (.iconst 0, 1) := by decide +kernel
theorem dX8_cached_13 : decode cX8_cached 13 = .ok (.iaload, 1) := by decide +kernel
theorem dX8_cached_14 : decode cX8_cached 14 = .ok (.if_icmp .ge 48, 3) := by decide +kernel
theorem dX8_cached_17 : decode cX8_cached 17 = .ok (.iload_n 2, 1) := by decide +kernel
theorem dX8_cached_18 : decode cX8_cached 18 = .ok (.invokestatic 85, 3) := by decide +kernel
theorem dX8_cached_21 : decode cX8_cached 21 = .ok (.istore_n 3, 1) := by decide +kernel
theorem dX8_cached_22 : decode cX8_cached 22 = .ok (.aload_n 0, 1) := by decide +kernel
theorem dX8_cached_23 : decode cX8_cached 23 = .ok (.getfield 9, 3) := by decide +kernel
theorem dX8_cached_26 : decode cX8_cached 26 = .ok (.iload_n 3, 1) := by decide +kernel
theorem dX8_cached_27 : decode cX8_cached 27 = .ok (.iaload, 1) := by decide +kernel
theorem dX8_cached_28 : decode cX8_cached 28 = .ok (.ifCond .le 28, 3) := by decide +kernel
theorem dX8_cached_31 : decode cX8_cached 31 = .ok (.aload_n 0, 1) := by decide +kernel
theorem dX8_cached_32 : decode cX8_cached 32 = .ok (.aload_n 0, 1) := by decide +kernel
theorem dX8_cached_33 : decode cX8_cached 33 = .ok (.getfield 9, 3) := by decide +kernel
theorem dX8_cached_36 : decode cX8_cached 36 = .ok (.iload_n 3, 1) := by decide +kernel
theorem dX8_cached_37 : decode cX8_cached 37 = .ok (.iconst 2, 1) := by decide +kernel
theorem dX8_cached_38 : decode cX8_cached 38 = .ok (.iadd, 1) := by decide +kernel
theorem dX8_cached_39 : decode cX8_cached 39 = .ok (.iaload, 1) := by decide +kernel
theorem dX8_cached_40 : decode cX8_cached 40 = .ok (.invokevirtual 230, 3) := by decide +kernel
theorem dX8_cached_43 : decode cX8_cached 43 = .ok (.iload_n 1, 1) := by decide +kernel
theorem dX8_cached_44 : decode cX8_cached 44 = .ok (.if_icmp .ne 12, 3) := by decide +kernel
theorem dX8_cached_47 : decode cX8_cached 47 = .ok (.aload_n 0, 1) := by decide +kernel
theorem dX8_cached_48 : decode cX8_cached 48 = .ok (.getfield 9, 3) := by decide +kernel
theorem dX8_cached_51 : decode cX8_cached 51 = .ok (.iload_n 3, 1) := by decide +kernel
theorem dX8_cached_52 : decode cX8_cached 52 = .ok (.iaload, 1) := by decide +kernel
theorem dX8_cached_53 : decode cX8_cached 53 = .ok (.iconst 1, 1) := by decide +kernel
theorem dX8_cached_54 : decode cX8_cached 54 = .ok (.isub, 1) := by decide +kernel
theorem dX8_cached_55 : decode cX8_cached 55 = .ok (.ireturn, 1) := by decide +kernel
theorem dX8_cached_56 : decode cX8_cached 56 = .ok (.iinc 2 1, 3) := by decide +kernel
theorem dX8_cached_59 : decode cX8_cached 59 = .ok (.goto (-52), 3) := by decide +kernel
theorem dX8_cached_62 : decode cX8_cached 62 = .ok (.iconst (-1), 1) := by decide +kernel
theorem dX8_cached_63 : decode cX8_cached 63 = .ok (.ireturn, 1) := by decide +kernel
def mR_cached_56 (N : Nat) (hd7 : ST → Int32 → Int32 → Option (Int32 × ST)) (σ : ST) (x1 : Int32) (x2 : Int32) (x3 : Int32) : Option (Int32 × ST) :=
  zLet (x2 + (1)) fun v56 =>
  hd7 σ x1 v56
set_option maxRecDepth 20000 in
set_option maxHeartbeats 2000000 in
theorem tR_cached_56 {adr : Nat → Nat} {cI cZ : ClassId} {X : zX} {q : Int32 × ST} (B : zC X 4 (wdR adr cI cZ) cX8_cached RX8 (some .int) { frames := 2, cells := 0, slots := 0, locals := 43 }) (N : Nat) (hd7 : ST → Int32 → Int32 → Option (Int32 × ST)) (hh7 : ∀ (σ : ST) (x1 : Int32) (x2 : Int32), hd7 σ x1 x2 = some q → zJ X 4 (wdR adr cI cZ) (zi q) 7 [(0, .ref (adr 0)), (1, .int x1), (2, .int x2)] [] σ) (σ : ST) (x1 : Int32) (x2 : Int32) (x3 : Int32) (hf : mR_cached_56 N hd7 σ x1 x2 x3 = some q) : zJ X 4 (wdR adr cI cZ) (zi q) 56 [(0, .ref (adr 0)), (1, .int x1), (2, .int x2), (3, .int x3)] [] σ := by
  refine z_iinc B (1) 2 (fun v56 => [(2, .int v56), (0, .ref (adr 0)), (1, .int x1), (3, .int x3)]) dX8_cached_56 hf zc_iconst_1 rfl (Nat.le_of_ble_eq_true rfl) (fun _ => rfl) (fun v56 hf => ?_)
  refine z_goto B 7 dX8_cached_59 (by decide) ?_
  exact z_loc [1, 2, 0] _ rfl (hh7 σ x1 v56 hf)
def mR_cached_B7 (N : Nat) (hd7 : ST → Int32 → Int32 → Option (Int32 × ST)) (σ : ST) (x1 : Int32) (x2 : Int32) : Option (Int32 × ST) :=
  zGet (σ 1) 1974 (0) fun v13 =>
  if (v13 : Int32) ≤ x2 then
    some ((-1), σ)
  else
    zCall (mR_cacheAt N σ x2) fun v18 s18 =>
    zGet (s18 1) 1974 v18 fun v27 =>
    if (v27 : Int32) ≤ 0 then
      mR_cached_56 N hd7 s18 x1 x2 v18
    else
      zLet ((v18 : Int32) + (2)) fun v38 =>
      zGet (s18 1) 1974 v38 fun v39 =>
      zCall (mR_lessThan N s18 v39) fun v40 s40 =>
      if (v40 : Int32) = x1 then
        zGet (s40 1) 1974 v18 fun v52 =>
        zLet ((v52 : Int32) - (1)) fun v54 =>
        some (v54, s40)
      else
        mR_cached_56 N hd7 s40 x1 x2 v18
def mR_cached_7 (N : Nat) : ST → Int32 → Int32 → Option (Int32 × ST) := zIt (mR_cached_B7 N) (fun _ _ _ => none) N
set_option maxRecDepth 20000 in
set_option maxHeartbeats 2000000 in
theorem tR_cached_7 {adr : Nat → Nat} {cI cZ : ClassId} {X : zX} {q : Int32 × ST} (B : zC X 4 (wdR adr cI cZ) cX8_cached RX8 (some .int) { frames := 2, cells := 0, slots := 0, locals := 43 }) (N : Nat) : ∀ (σ : ST) (x1 : Int32) (x2 : Int32), mR_cached_7 N σ x1 x2 = some q → zJ X 4 (wdR adr cI cZ) (zi q) 7 [(0, .ref (adr 0)), (1, .int x1), (2, .int x2)] [] σ := by
  refine zIt_ind (P := fun (hd : ST → Int32 → Int32 → Option (Int32 × ST)) => ∀ (σ : ST) (x1 : Int32) (x2 : Int32), hd σ x1 x2 = some q → zJ X 4 (wdR adr cI cZ) (zi q) 7 [(0, .ref (adr 0)), (1, .int x1), (2, .int x2)] [] σ) (fun _ _ _ hf => by cases hf) (fun hd7 hh7 => ?_) N
  intro σ x1 x2 hf
  refine z_iload_n B dX8_cached_7 2 rfl rfl ?_
  refine z_aload_n B dX8_cached_8 0 rfl rfl ?_
  refine fR_g_row B dX8_cached_9 ?_
  refine z_iconst B (0) dX8_cached_12 zc_iconst_0 ?_
  refine fR_l_row B dX8_cached_13 hf (fun v13 hf => ?_)
  refine z_icmp_ge B 62 dX8_cached_14 (by decide) hf (fun hf => ?_) (fun hf => ?_)
  · refine z_iconst B (-1) dX8_cached_62 zc_iconst_m1 ?_
    exact z_ireturn B dX8_cached_63 hf
  · refine z_iload_n B dX8_cached_17 2 rfl rfl ?_
    refine z_callSi B (As := [.int x2]) kcS_X8_85 dX8_cached_18 hf (fun q hq => cR_cacheAt q hq) rfl rfl (Nat.le_of_ble_eq_true rfl) rfl rfl ⟨Nat.le_of_ble_eq_true rfl, Nat.le_of_ble_eq_true rfl⟩ (fun v18 s18 hf => ?_)
    refine z_istore_n B [(3, .int v18), (0, .ref (adr 0)), (1, .int x1), (2, .int x2)] dX8_cached_21 rfl (Nat.le_of_ble_eq_true rfl) rfl ?_
    refine z_aload_n B dX8_cached_22 1 rfl rfl ?_
    refine fR_g_row B dX8_cached_23 ?_
    refine z_iload_n B dX8_cached_26 0 rfl rfl ?_
    refine fR_l_row B dX8_cached_27 hf (fun v27 hf => ?_)
    refine z_if_le B 56 dX8_cached_28 (by decide) hf (fun hf => ?_) (fun hf => ?_)
    · exact z_loc [1, 2, 3, 0] _ rfl (tR_cached_56 B N hd7 hh7 s18 x1 x2 v18 hf)
    · refine z_aload_n B dX8_cached_31 1 rfl rfl ?_
      refine z_aload_n B dX8_cached_32 1 rfl rfl ?_
      refine fR_g_row B dX8_cached_33 ?_
      refine z_iload_n B dX8_cached_36 0 rfl rfl ?_
      refine z_iconst B (2) dX8_cached_37 zc_iconst_2 ?_
      refine z_iadd B dX8_cached_38 hf (fun v38 hf => ?_)
      refine fR_l_row B dX8_cached_39 hf (fun v39 hf => ?_)
      refine z_callVi B (As := [.int v39]) kcV_X8_230 dX8_cached_40 hf (fun q hq => cR_lessThan q hq) (wR_o (adr := adr) (cI := cI) (cZ := cZ)) rfl rfl rfl rfl (Nat.le_of_ble_eq_true rfl) rfl rfl ⟨Nat.le_of_ble_eq_true rfl, Nat.le_of_ble_eq_true rfl⟩ (fun v40 s40 hf => ?_)
      refine z_iload_n B dX8_cached_43 2 rfl rfl ?_
      refine z_icmp_ne B 56 dX8_cached_44 (by decide) hf (fun hf => ?_) (fun hf => ?_)
      · exact z_loc [1, 2, 3, 0] _ rfl (tR_cached_56 B N hd7 hh7 s40 x1 x2 v18 hf)
      · refine z_aload_n B dX8_cached_47 1 rfl rfl ?_
        refine fR_g_row B dX8_cached_48 ?_
        refine z_iload_n B dX8_cached_51 0 rfl rfl ?_
        refine fR_l_row B dX8_cached_52 hf (fun v52 hf => ?_)
        refine z_iconst B (1) dX8_cached_53 zc_iconst_1 ?_
        refine z_isub B dX8_cached_54 hf (fun v54 hf => ?_)
        exact z_ireturn B dX8_cached_55 hf
def mR_cached (N : Nat) (σ : ST) (x1 : Int32) : Option (Int32 × ST) :=
  zLet (zUp σ 0 0 (0)) fun s2 =>
  mR_cached_7 N s2 x1 (0)
set_option maxRecDepth 20000 in
set_option maxHeartbeats 2000000 in
theorem cR_cached {adr : Nat → Nat} {cI cZ : ClassId} {l : Launch} {D : va_G} {N : Nat} {σ : ST} {x1 : Int32} (q : Int32 × ST) (hf : mR_cached N σ x1 = some q) : zM l D (wdR adr cI cZ) yX8_cached cX8_cached 4 (some .int) ({ frames := 2, cells := 0, slots := 0, locals := 43 }) [.ref (adr 0), .int x1] σ (zi q) := by
  refine zM_of sfR_ok rfl (Nat.le_of_ble_eq_true rfl) [(0, .ref (adr 0)), (1, .int x1)] rfl (fun X hX1 hX2 B => ?_)
  have B : zC X 4 (wdR adr cI cZ) cX8_cached RX8 (some .int) { frames := 2, cells := 0, slots := 0, locals := 43 } := B
  refine z_aload_n B dX8_cached_0 0 rfl rfl ?_
  refine z_iconst B (0) dX8_cached_1 zc_iconst_0 ?_
  refine fR_p_thrown B dX8_cached_2 hf (fun s2 hf => ?_)
  refine z_iconst B (0) dX8_cached_5 zc_iconst_0 ?_
  refine z_istore_n B [(2, .int (0)), (0, .ref (adr 0)), (1, .int x1)] dX8_cached_6 rfl (Nat.le_of_ble_eq_true rfl) rfl ?_
  exact z_loc [1, 2, 0] _ rfl (tR_cached_7 B N s2 x1 (0) hf)
theorem dX8_ahead_0 : decode cX8_ahead 0 = .ok (.aload_n 0, 1) := by decide +kernel
theorem dX8_ahead_1 : decode cX8_ahead 1 = .ok (.iconst 0, 1) := by decide +kernel
theorem dX8_ahead_2 : decode cX8_ahead 2 = .ok (.putfield 67, 3) := by decide +kernel
theorem dX8_ahead_5 : decode cX8_ahead 5 = .ok (.aload_n 0, 1) := by decide +kernel
theorem dX8_ahead_6 : decode cX8_ahead 6 = .ok (.iload_n 1, 1) := by decide +kernel
theorem dX8_ahead_7 : decode cX8_ahead 7 = .ok (.invokevirtual 132, 3) := by decide +kernel
theorem dX8_ahead_10 : decode cX8_ahead 10 = .ok (.ifCond .eq 11, 3) := by decide +kernel
theorem dX8_ahead_13 : decode cX8_ahead 13 = .ok (.aload_n 0, 1) := by decide +kernel
theorem dX8_ahead_14 : decode cX8_ahead 14 = .ok (.iload_n 1, 1) := by decide +kernel
theorem dX8_ahead_15 : decode cX8_ahead 15 = .ok (.invokevirtual 136, 3) := by decide +kernel
theorem dX8_ahead_18 : decode cX8_ahead 18 = .ok (.goto 4, 3) := by decide +kernel
theorem dX8_ahead_21 : decode cX8_ahead 21 = .ok (.iconst (-1), 1) := by decide +kernel
theorem dX8_ahead_22 : decode cX8_ahead 22 = .ok (.istore_n 2, 1) := by decide +kernel
theorem dX8_ahead_23 : decode cX8_ahead 23 = .ok (.iload_n 2, 1) := by decide +kernel
theorem dX8_ahead_24 : decode cX8_ahead 24 = .ok (.iconst (-1), 1) := by decide +kernel
theorem dX8_ahead_25 : decode cX8_ahead 25 = .ok (.if_icmp .ne 7, 3) := by decide +kernel
theorem dX8_ahead_28 : decode cX8_ahead 28 = .ok (.iconst (-1), 1) := by decide +kernel
theorem dX8_ahead_29 : decode cX8_ahead 29 = .ok (.goto 15, 3) := by decide +kernel
theorem dX8_ahead_32 : decode cX8_ahead 32 = .ok (.aload_n 0, 1) := by decide +kernel
theorem dX8_ahead_33 : decode cX8_ahead 33 = .ok (.aload_n 0, 1) := by decide +kernel
theorem dX8_ahead_34 : decode cX8_ahead 34 = .ok (.getfield 9, 3) := by decide +kernel
theorem dX8_ahead_37 : decode cX8_ahead 37 = .ok (.iload_n 2, 1) := by decide +kernel
theorem dX8_ahead_38 : decode cX8_ahead 38 = .ok (.iconst 2, 1) := by decide +kernel
theorem dX8_ahead_39 : decode cX8_ahead 39 = .ok (.iadd, 1) := by decide +kernel
theorem dX8_ahead_40 : decode cX8_ahead 40 = .ok (.iaload, 1) := by decide +kernel
theorem dX8_ahead_41 : decode cX8_ahead 41 = .ok (.invokevirtual 230, 3) := by decide +kernel
theorem dX8_ahead_44 : decode cX8_ahead 44 = .ok (.ireturn, 1) := by decide +kernel
def mR_ahead_44 (N : Nat) (σ : ST) (x1 : Int32) (x2 : Int32) (k0 : Int32) : Option (Int32 × ST) :=
  some (k0, σ)
set_option maxRecDepth 20000 in
set_option maxHeartbeats 2000000 in
theorem tR_ahead_44 {adr : Nat → Nat} {cI cZ : ClassId} {X : zX} {q : Int32 × ST} (B : zC X 3 (wdR adr cI cZ) cX8_ahead RX8 (some .int) { frames := 2, cells := 0, slots := 0, locals := 46 }) (N : Nat) (σ : ST) (x1 : Int32) (x2 : Int32) (k0 : Int32) (hf : mR_ahead_44 N σ x1 x2 k0 = some q) : zJ X 3 (wdR adr cI cZ) (zi q) 44 [(0, .ref (adr 0)), (1, .int x1), (2, .int x2)] [.int k0] σ := by
  exact z_ireturn B dX8_ahead_44 hf
def mR_ahead_22 (N : Nat) (σ : ST) (x1 : Int32) (k0 : Int32) : Option (Int32 × ST) :=
  if (k0 : Int32) = (-1) then
    mR_ahead_44 N σ x1 k0 (-1)
  else
    zLet ((k0 : Int32) + (2)) fun v39 =>
    zGet (σ 1) 1974 v39 fun v40 =>
    zCall (mR_lessThan N σ v40) fun v41 s41 =>
    mR_ahead_44 N s41 x1 k0 v41
set_option maxRecDepth 20000 in
set_option maxHeartbeats 2000000 in
theorem tR_ahead_22 {adr : Nat → Nat} {cI cZ : ClassId} {X : zX} {q : Int32 × ST} (B : zC X 3 (wdR adr cI cZ) cX8_ahead RX8 (some .int) { frames := 2, cells := 0, slots := 0, locals := 46 }) (N : Nat) (σ : ST) (x1 : Int32) (k0 : Int32) (hf : mR_ahead_22 N σ x1 k0 = some q) : zJ X 3 (wdR adr cI cZ) (zi q) 22 [(0, .ref (adr 0)), (1, .int x1)] [.int k0] σ := by
  refine z_istore_n B [(2, .int k0), (0, .ref (adr 0)), (1, .int x1)] dX8_ahead_22 rfl (Nat.le_of_ble_eq_true rfl) rfl ?_
  refine z_iload_n B dX8_ahead_23 0 rfl rfl ?_
  refine z_iconst B (-1) dX8_ahead_24 zc_iconst_m1 ?_
  refine z_icmp_ne B 32 dX8_ahead_25 (by decide) hf (fun hf => ?_) (fun hf => ?_)
  · refine z_aload_n B dX8_ahead_32 1 rfl rfl ?_
    refine z_aload_n B dX8_ahead_33 1 rfl rfl ?_
    refine fR_g_row B dX8_ahead_34 ?_
    refine z_iload_n B dX8_ahead_37 0 rfl rfl ?_
    refine z_iconst B (2) dX8_ahead_38 zc_iconst_2 ?_
    refine z_iadd B dX8_ahead_39 hf (fun v39 hf => ?_)
    refine fR_l_row B dX8_ahead_40 hf (fun v40 hf => ?_)
    refine z_callVi B (As := [.int v40]) kcV_X8_230 dX8_ahead_41 hf (fun q hq => cR_lessThan q hq) (wR_o (adr := adr) (cI := cI) (cZ := cZ)) rfl rfl rfl rfl (Nat.le_of_ble_eq_true rfl) rfl rfl ⟨Nat.le_of_ble_eq_true rfl, Nat.le_of_ble_eq_true rfl⟩ (fun v41 s41 hf => ?_)
    exact z_loc [1, 2, 0] _ rfl (tR_ahead_44 B N s41 x1 k0 v41 hf)
  · refine z_iconst B (-1) dX8_ahead_28 zc_iconst_m1 ?_
    refine z_goto B 44 dX8_ahead_29 (by decide) ?_
    exact z_loc [1, 2, 0] _ rfl (tR_ahead_44 B N σ x1 k0 (-1) hf)
def mR_ahead (N : Nat) (σ : ST) (x1 : Int32) : Option (Int32 × ST) :=
  zLet (zUp σ 0 0 (0)) fun s2 =>
  zCall (mR_isBlock N s2 x1) fun v7 s7 =>
  if (v7 : Int32) = 0 then
    mR_ahead_22 N s7 x1 (-1)
  else
    zCall (mR_place N s7 x1) fun v15 s15 =>
    mR_ahead_22 N s15 x1 v15
set_option maxRecDepth 20000 in
set_option maxHeartbeats 2000000 in
theorem cR_ahead {adr : Nat → Nat} {cI cZ : ClassId} {l : Launch} {D : va_G} {N : Nat} {σ : ST} {x1 : Int32} (q : Int32 × ST) (hf : mR_ahead N σ x1 = some q) : zM l D (wdR adr cI cZ) yX8_ahead cX8_ahead 3 (some .int) ({ frames := 2, cells := 0, slots := 0, locals := 46 }) [.ref (adr 0), .int x1] σ (zi q) := by
  refine zM_of sfR_ok rfl (Nat.le_of_ble_eq_true rfl) [(0, .ref (adr 0)), (1, .int x1)] rfl (fun X hX1 hX2 B => ?_)
  have B : zC X 3 (wdR adr cI cZ) cX8_ahead RX8 (some .int) { frames := 2, cells := 0, slots := 0, locals := 46 } := B
  refine z_aload_n B dX8_ahead_0 0 rfl rfl ?_
  refine z_iconst B (0) dX8_ahead_1 zc_iconst_0 ?_
  refine fR_p_thrown B dX8_ahead_2 hf (fun s2 hf => ?_)
  refine z_aload_n B dX8_ahead_5 0 rfl rfl ?_
  refine z_iload_n B dX8_ahead_6 1 rfl rfl ?_
  refine z_callVi B (As := [.int x1]) kcV_X8_132 dX8_ahead_7 hf (fun q hq => cR_isBlock q hq) (wR_o (adr := adr) (cI := cI) (cZ := cZ)) rfl rfl rfl rfl (Nat.le_of_ble_eq_true rfl) rfl rfl ⟨Nat.le_of_ble_eq_true rfl, Nat.le_of_ble_eq_true rfl⟩ (fun v7 s7 hf => ?_)
  refine z_if_eq B 21 dX8_ahead_10 (by decide) hf (fun hf => ?_) (fun hf => ?_)
  · refine z_iconst B (-1) dX8_ahead_21 zc_iconst_m1 ?_
    exact tR_ahead_22 B N s7 x1 (-1) hf
  · refine z_aload_n B dX8_ahead_13 0 rfl rfl ?_
    refine z_iload_n B dX8_ahead_14 1 rfl rfl ?_
    refine z_callVi B (As := [.int x1]) kcV_X8_136 dX8_ahead_15 hf (fun q hq => cR_place q hq) (wR_o (adr := adr) (cI := cI) (cZ := cZ)) rfl rfl rfl rfl (Nat.le_of_ble_eq_true rfl) rfl rfl ⟨Nat.le_of_ble_eq_true rfl, Nat.le_of_ble_eq_true rfl⟩ (fun v15 s15 hf => ?_)
    refine z_goto B 22 dX8_ahead_18 (by decide) ?_
    exact tR_ahead_22 B N s15 x1 v15 hf
theorem dX8_stream_0 : decode cX8_stream 0 = .ok (.aload_n 0, 1) := by decide +kernel
theorem dX8_stream_1 : decode cX8_stream 1 = .ok (.iconst 0, 1) := by decide +kernel
theorem dX8_stream_2 : decode cX8_stream 2 = .ok (.putfield 67, 3) := by decide +kernel
theorem dX8_stream_5 : decode cX8_stream 5 = .ok (.aload_n 0, 1) := by decide +kernel
theorem dX8_stream_6 : decode cX8_stream 6 = .ok (.iload_n 1, 1) := by decide +kernel
theorem dX8_stream_7 : decode cX8_stream 7 = .ok (.invokevirtual 222, 3) := by decide +kernel
theorem dX8_stream_10 : decode cX8_stream 10 = .ok (.ifCond .eq 15, 3) := by decide +kernel
theorem dX8_stream_13 : decode cX8_stream 13 = .ok (.iload_n 2, 1) := by decide +kernel
theorem dX8_stream_14 : decode cX8_stream 14 = .ok (.i2l, 1) := by decide +kernel
theorem dX8_stream_15 : decode cX8_stream 15 = .ok (.lconst 0, 1) := by decide +kernel
theorem dX8_stream_16 : decode cX8_stream 16 = .ok (.ldc2_w 233, 3) := by decide +kernel
theorem dX8_stream_19 : decode cX8_stream 19 = .ok (.invokestatic 71, 3) := by decide +kernel
theorem dX8_stream_22 : decode cX8_stream 22 = .ok (.ifCond .ne 6, 3) := by decide +kernel
theorem dX8_stream_25 : decode cX8_stream 25 = .ok (.ldc 235, 2) := by decide +kernel
theorem dX8_stream_27 : decode cX8_stream 27 = .ok (.ireturn, 1) := by decide +kernel
theorem dX8_stream_28 : decode cX8_stream 28 = .ok (.iload_n 1, 1) := by decide +kernel
theorem dX8_stream_29 : decode cX8_stream 29 = .ok (.invokestatic 89, 3) := by decide +kernel
theorem dX8_stream_32 : decode cX8_stream 32 = .ok (.istore_n 3, 1) := by decide +kernel
theorem dX8_stream_33 : decode cX8_stream 33 = .ok (.iload_n 2, 1) := by decide +kernel
theorem dX8_stream_34 : decode cX8_stream 34 = .ok (.bipush 8, 2) := by decide +kernel
theorem dX8_stream_36 : decode cX8_stream 36 = .ok (.if_icmp .ne 11, 3) := by decide +kernel
theorem dX8_stream_39 : decode cX8_stream 39 = .ok (.aload_n 0, 1) := by decide +kernel
theorem dX8_stream_40 : decode cX8_stream 40 = .ok (.iload_n 3, 1) := by decide +kernel
theorem dX8_stream_41 : decode cX8_stream 41 = .ok (.invokevirtual 202, 3) := by decide +kernel
theorem dX8_stream_44 : decode cX8_stream 44 = .ok (.goto 23, 3) := by decide +kernel
theorem dX8_stream_47 : decode cX8_stream 47 = .ok (.aload_n 0, 1) := by decide +kernel
theorem dX8_stream_48 : decode cX8_stream 48 = .ok (.getfield 9, 3) := by decide +kernel
theorem dX8_stream_51 : decode cX8_stream 51 = .ok (.iload_n 3, 1) := by decide +kernel
theorem dX8_stream_52 : decode cX8_stream 52 = .ok (.iload_n 2, 1) := by decide +kernel
theorem dX8_stream_53 : decode cX8_stream 53 = .ok (.bipush 8, 2) := by decide +kernel
theorem dX8_stream_55 : decode cX8_stream 55 = .ok (.if_icmp .ge 9, 3) := by decide +kernel
theorem dX8_stream_58 : decode cX8_stream 58 = .ok (.iload_n 2, 1) := by decide +kernel
theorem dX8_stream_59 : decode cX8_stream 59 = .ok (.iconst 1, 1) := by decide +kernel
theorem dX8_stream_60 : decode cX8_stream 60 = .ok (.iadd, 1) := by decide +kernel
theorem dX8_stream_61 : decode cX8_stream 61 = .ok (.goto 4, 3) := by decide +kernel
theorem dX8_stream_64 : decode cX8_stream 64 = .ok (.iload_n 2, 1) := by decide +kernel
theorem dX8_stream_65 : decode cX8_stream 65 = .ok (.iadd, 1) := by decide +kernel
theorem dX8_stream_66 : decode cX8_stream 66 = .ok (.iaload, 1) := by decide +kernel
theorem dX8_stream_67 : decode cX8_stream 67 = .ok (.ireturn, 1) := by decide +kernel
def mR_stream_67 (N : Nat) (σ : ST) (x1 : Int32) (x2 : Int32) (x3 : Int32) (k0 : Int32) : Option (Int32 × ST) :=
  some (k0, σ)
set_option maxRecDepth 20000 in
set_option maxHeartbeats 2000000 in
theorem tR_stream_67 {adr : Nat → Nat} {cI cZ : ClassId} {X : zX} {q : Int32 × ST} (B : zC X 4 (wdR adr cI cZ) cX8_stream RX8 (some .int) { frames := 2, cells := 0, slots := 0, locals := 46 }) (N : Nat) (σ : ST) (x1 : Int32) (x2 : Int32) (x3 : Int32) (k0 : Int32) (hf : mR_stream_67 N σ x1 x2 x3 k0 = some q) : zJ X 4 (wdR adr cI cZ) (zi q) 67 [(0, .ref (adr 0)), (1, .int x1), (2, .int x2), (3, .int x3)] [.int k0] σ := by
  exact z_ireturn B dX8_stream_67 hf
def mR_stream_65 (N : Nat) (σ : ST) (x1 : Int32) (x2 : Int32) (x3 : Int32) (k1 : Int32) (k2 : Int32) : Option (Int32 × ST) :=
  zLet ((k1 : Int32) + k2) fun v65 =>
  zGet (σ 1) 1974 v65 fun v66 =>
  mR_stream_67 N σ x1 x2 x3 v66
set_option maxRecDepth 20000 in
set_option maxHeartbeats 2000000 in
theorem tR_stream_65 {adr : Nat → Nat} {cI cZ : ClassId} {X : zX} {q : Int32 × ST} (B : zC X 4 (wdR adr cI cZ) cX8_stream RX8 (some .int) { frames := 2, cells := 0, slots := 0, locals := 46 }) (N : Nat) (σ : ST) (x1 : Int32) (x2 : Int32) (x3 : Int32) (k1 : Int32) (k2 : Int32) (hf : mR_stream_65 N σ x1 x2 x3 k1 k2 = some q) : zJ X 4 (wdR adr cI cZ) (zi q) 65 [(0, .ref (adr 0)), (1, .int x1), (2, .int x2), (3, .int x3)] [.int k2, .int k1, .ref (adr 1)] σ := by
  refine z_iadd B dX8_stream_65 hf (fun v65 hf => ?_)
  refine fR_l_row B dX8_stream_66 hf (fun v66 hf => ?_)
  exact tR_stream_67 B N σ x1 x2 x3 v66 hf
def mR_stream_25 (N : Nat) (σ : ST) (x1 : Int32) (x2 : Int32) : Option (Int32 × ST) :=
  some ((-2147483648), σ)
set_option maxRecDepth 20000 in
set_option maxHeartbeats 2000000 in
theorem tR_stream_25 {adr : Nat → Nat} {cI cZ : ClassId} {X : zX} {q : Int32 × ST} (B : zC X 4 (wdR adr cI cZ) cX8_stream RX8 (some .int) { frames := 2, cells := 0, slots := 0, locals := 46 }) (N : Nat) (σ : ST) (x1 : Int32) (x2 : Int32) (hf : mR_stream_25 N σ x1 x2 = some q) : zJ X 4 (wdR adr cI cZ) (zi q) 25 [(0, .ref (adr 0)), (1, .int x1), (2, .int x2)] [] σ := by
  refine z_ldc B kw_1208 dX8_stream_25 ?_
  exact z_ireturn B dX8_stream_27 hf
def mR_stream (N : Nat) (σ : ST) (x1 : Int32) (x2 : Int32) : Option (Int32 × ST) :=
  zLet (zUp σ 0 0 (0)) fun s2 =>
  zCall (mR_isStream N s2 x1) fun v7 s7 =>
  if (v7 : Int32) = 0 then
    mR_stream_25 N s7 x1 x2
  else
    zLet ((x2 : Int32).toInt64) fun v14 =>
    zCall (mR_in N s7 v14 (0) (11)) fun v19 s19 =>
    if (v19 : Int32) = 0 then
      mR_stream_25 N s19 x1 x2
    else
      zCall (mR_streamAt N s19 x1) fun v29 s29 =>
      if (x2 : Int32) = (8) then
        zCall (mR_aheadFor N s29 v29) fun v41 s41 =>
        mR_stream_67 N s41 x1 x2 v29 v41
      else
        if ((8) : Int32) ≤ x2 then
          mR_stream_65 N s29 x1 x2 v29 v29 x2
        else
          zLet ((x2 : Int32) + (1)) fun v60 =>
          mR_stream_65 N s29 x1 x2 v29 v29 v60
set_option maxRecDepth 20000 in
set_option maxHeartbeats 2000000 in
theorem cR_stream {adr : Nat → Nat} {cI cZ : ClassId} {l : Launch} {D : va_G} {N : Nat} {σ : ST} {x1 : Int32} {x2 : Int32} (q : Int32 × ST) (hf : mR_stream N σ x1 x2 = some q) : zM l D (wdR adr cI cZ) yX8_stream cX8_stream 4 (some .int) ({ frames := 2, cells := 0, slots := 0, locals := 46 }) [.ref (adr 0), .int x1, .int x2] σ (zi q) := by
  refine zM_of sfR_ok rfl (Nat.le_of_ble_eq_true rfl) [(0, .ref (adr 0)), (1, .int x1), (2, .int x2)] rfl (fun X hX1 hX2 B => ?_)
  have B : zC X 4 (wdR adr cI cZ) cX8_stream RX8 (some .int) { frames := 2, cells := 0, slots := 0, locals := 46 } := B
  refine z_aload_n B dX8_stream_0 0 rfl rfl ?_
  refine z_iconst B (0) dX8_stream_1 zc_iconst_0 ?_
  refine fR_p_thrown B dX8_stream_2 hf (fun s2 hf => ?_)
  refine z_aload_n B dX8_stream_5 0 rfl rfl ?_
  refine z_iload_n B dX8_stream_6 1 rfl rfl ?_
  refine z_callVi B (As := [.int x1]) kcV_X8_222 dX8_stream_7 hf (fun q hq => cR_isStream q hq) (wR_o (adr := adr) (cI := cI) (cZ := cZ)) rfl rfl rfl rfl (Nat.le_of_ble_eq_true rfl) rfl rfl ⟨Nat.le_of_ble_eq_true rfl, Nat.le_of_ble_eq_true rfl⟩ (fun v7 s7 hf => ?_)
  refine z_if_eq B 25 dX8_stream_10 (by decide) hf (fun hf => ?_) (fun hf => ?_)
  · exact tR_stream_25 B N s7 x1 x2 hf
  · refine z_iload_n B dX8_stream_13 2 rfl rfl ?_
    refine z_i2l B dX8_stream_14 hf (fun v14 hf => ?_)
    refine z_lconst B (0) dX8_stream_15 rfl ?_
    refine z_ldc2 B kw_1207 dX8_stream_16 ?_
    refine z_callSi B (As := [.long v14, .long (0), .long (11)]) kcS_X8_71 dX8_stream_19 hf (fun q hq => cR_in q hq) rfl rfl (Nat.le_of_ble_eq_true rfl) rfl rfl ⟨Nat.le_of_ble_eq_true rfl, Nat.le_of_ble_eq_true rfl⟩ (fun v19 s19 hf => ?_)
    refine z_if_ne B 28 dX8_stream_22 (by decide) hf (fun hf => ?_) (fun hf => ?_)
    · refine z_iload_n B dX8_stream_28 1 rfl rfl ?_
      refine z_callSi B (As := [.int x1]) kcS_X8_89 dX8_stream_29 hf (fun q hq => cR_streamAt q hq) rfl rfl (Nat.le_of_ble_eq_true rfl) rfl rfl ⟨Nat.le_of_ble_eq_true rfl, Nat.le_of_ble_eq_true rfl⟩ (fun v29 s29 hf => ?_)
      refine z_istore_n B [(3, .int v29), (0, .ref (adr 0)), (1, .int x1), (2, .int x2)] dX8_stream_32 rfl (Nat.le_of_ble_eq_true rfl) rfl ?_
      refine z_iload_n B dX8_stream_33 3 rfl rfl ?_
      refine z_bipush B (8) dX8_stream_34 zc_bipush_8 ?_
      refine z_icmp_ne B 47 dX8_stream_36 (by decide) hf (fun hf => ?_) (fun hf => ?_)
      · refine z_aload_n B dX8_stream_47 1 rfl rfl ?_
        refine fR_g_row B dX8_stream_48 ?_
        refine z_iload_n B dX8_stream_51 0 rfl rfl ?_
        refine z_iload_n B dX8_stream_52 3 rfl rfl ?_
        refine z_bipush B (8) dX8_stream_53 zc_bipush_8 ?_
        refine z_icmp_ge B 64 dX8_stream_55 (by decide) hf (fun hf => ?_) (fun hf => ?_)
        · refine z_iload_n B dX8_stream_64 3 rfl rfl ?_
          exact z_loc [1, 2, 3, 0] _ rfl (tR_stream_65 B N s29 x1 x2 v29 v29 x2 hf)
        · refine z_iload_n B dX8_stream_58 3 rfl rfl ?_
          refine z_iconst B (1) dX8_stream_59 zc_iconst_1 ?_
          refine z_iadd B dX8_stream_60 hf (fun v60 hf => ?_)
          refine z_goto B 65 dX8_stream_61 (by decide) ?_
          exact z_loc [1, 2, 3, 0] _ rfl (tR_stream_65 B N s29 x1 x2 v29 v29 v60 hf)
      · refine z_aload_n B dX8_stream_39 1 rfl rfl ?_
        refine z_iload_n B dX8_stream_40 0 rfl rfl ?_
        refine z_callVi B (As := [.int v29]) kcV_X8_202 dX8_stream_41 hf (fun q hq => cR_aheadFor q hq) (wR_o (adr := adr) (cI := cI) (cZ := cZ)) rfl rfl rfl rfl (Nat.le_of_ble_eq_true rfl) rfl rfl ⟨Nat.le_of_ble_eq_true rfl, Nat.le_of_ble_eq_true rfl⟩ (fun v41 s41 hf => ?_)
        refine z_goto B 67 dX8_stream_44 (by decide) ?_
        exact z_loc [1, 2, 3, 0] _ rfl (tR_stream_67 B N s41 x1 x2 v29 v41 hf)
    · exact tR_stream_25 B N s19 x1 x2 hf
theorem dX8_aheadOf_0 : decode cX8_aheadOf 0 = .ok (.aload_n 0, 1) := by decide +kernel
theorem dX8_aheadOf_1 : decode cX8_aheadOf 1 = .ok (.iconst 0, 1) := by decide +kernel
theorem dX8_aheadOf_2 : decode cX8_aheadOf 2 = .ok (.putfield 67, 3) := by decide +kernel
theorem dX8_aheadOf_5 : decode cX8_aheadOf 5 = .ok (.aload_n 0, 1) := by decide +kernel
theorem dX8_aheadOf_6 : decode cX8_aheadOf 6 = .ok (.iload_n 1, 1) := by decide +kernel
theorem dX8_aheadOf_7 : decode cX8_aheadOf 7 = .ok (.invokevirtual 222, 3) := by decide +kernel
theorem dX8_aheadOf_10 : decode cX8_aheadOf 10 = .ok (.ifCond .eq 7, 3) := by decide +kernel
theorem dX8_aheadOf_13 : decode cX8_aheadOf 13 = .ok (.iload_n 2, 1) := by decide +kernel
theorem dX8_aheadOf_14 : decode cX8_aheadOf 14 = .ok (.ifCond .ge 5, 3) := by decide +kernel
theorem dX8_aheadOf_17 : decode cX8_aheadOf 17 = .ok (.iconst (-1), 1) := by decide +kernel
theorem dX8_aheadOf_18 : decode cX8_aheadOf 18 = .ok (.ireturn, 1) := by decide +kernel
theorem dX8_aheadOf_19 : decode cX8_aheadOf 19 = .ok (.iload_n 1, 1) := by decide +kernel
theorem dX8_aheadOf_20 : decode cX8_aheadOf 20 = .ok (.invokestatic 89, 3) := by decide +kernel
theorem dX8_aheadOf_23 : decode cX8_aheadOf 23 = .ok (.istore_n 3, 1) := by decide +kernel
theorem dX8_aheadOf_24 : decode cX8_aheadOf 24 = .ok (.iconst 0, 1) := by decide +kernel
theorem dX8_aheadOf_25 : decode cX8_aheadOf 25 = .ok (.istore 4, 2) := by decide +kernel
theorem dX8_aheadOf_27 : decode cX8_aheadOf 27 = .ok (.aload_n 0, 1) := by decide +kernel
theorem dX8_aheadOf_28 : decode cX8_aheadOf 28 = .ok (.getfield 9, 3) := by decide +kernel
theorem dX8_aheadOf_31 : decode cX8_aheadOf 31 = .ok (.iload_n 3, 1) := by decide +kernel
theorem dX8_aheadOf_32 : decode cX8_aheadOf 32 = .ok (.iconst 2, 1) := by decide +kernel
theorem dX8_aheadOf_33 : decode cX8_aheadOf 33 = .ok (.iadd, 1) := by decide +kernel
theorem dX8_aheadOf_34 : decode cX8_aheadOf 34 = .ok (.iaload, 1) := by decide +kernel
theorem dX8_aheadOf_35 : decode cX8_aheadOf 35 = .ok (.i2l, 1) := by decide +kernel
theorem dX8_aheadOf_36 : decode cX8_aheadOf 36 = .ok (.aload_n 0, 1) := by decide +kernel
theorem dX8_aheadOf_37 : decode cX8_aheadOf 37 = .ok (.getfield 9, 3) := by decide +kernel
theorem dX8_aheadOf_40 : decode cX8_aheadOf 40 = .ok (.iload_n 3, 1) := by decide +kernel
theorem dX8_aheadOf_41 : decode cX8_aheadOf 41 = .ok (.iconst 3, 1) := by decide +kernel
theorem dX8_aheadOf_42 : decode cX8_aheadOf 42 = .ok (.iadd, 1) := by decide +kernel
theorem dX8_aheadOf_43 : decode cX8_aheadOf 43 = .ok (.iaload, 1) := by decide +kernel
theorem dX8_aheadOf_44 : decode cX8_aheadOf 44 = .ok (.i2l, 1) := by decide +kernel
theorem dX8_aheadOf_45 : decode cX8_aheadOf 45 = .ok (.ladd, 1) := by decide +kernel
theorem dX8_aheadOf_46 : decode cX8_aheadOf 46 = .ok (.lstore 5, 2) := by decide +kernel
theorem dX8_aheadOf_48 : decode cX8_aheadOf 48 = .ok (.aload_n 0, 1) := by decide +kernel
theorem dX8_aheadOf_49 : decode cX8_aheadOf 49 = .ok (.getfield 9, 3) := by decide +kernel
theorem dX8_aheadOf_52 : decode cX8_aheadOf 52 = .ok (.iload_n 3, 1) := by decide +kernel
theorem dX8_aheadOf_53 : decode cX8_aheadOf 53 = .ok (.iconst 3, 1) := by decide +kernel
theorem dX8_aheadOf_54 : decode cX8_aheadOf 54 = .ok (.iadd, 1) := by decide +kernel
theorem dX8_aheadOf_55 : decode cX8_aheadOf 55 = .ok (.iaload, 1) := by decide +kernel
theorem dX8_aheadOf_56 : decode cX8_aheadOf 56 = .ok (.ifCond .eq 102, 3) := by decide +kernel
theorem dX8_aheadOf_59 : decode cX8_aheadOf 59 = .ok (.lload 5, 2) := by decide +kernel
theorem dX8_aheadOf_61 : decode cX8_aheadOf 61 = .ok (.lconst 0, 1) := by decide +kernel
theorem dX8_aheadOf_62 : decode cX8_aheadOf 62 = .ok (.aload_n 0, 1) := by decide +kernel
theorem dX8_aheadOf_63 : decode cX8_aheadOf 63 = .ok (.getfield 9, 3) := by decide +kernel
theorem dX8_aheadOf_66 : decode cX8_aheadOf 66 = .ok (.bipush 7, 2) := by decide +kernel
theorem dX8_aheadOf_68 : decode cX8_aheadOf 68 = .ok (.iaload, 1) := by decide +kernel
theorem dX8_aheadOf_69 : decode cX8_aheadOf 69 = .ok (.i2l, 1) := by decide +kernel
theorem dX8_aheadOf_70 : decode cX8_aheadOf 70 = .ok (.lconst 1, 1) := by decide +kernel
theorem dX8_aheadOf_71 : decode cX8_aheadOf 71 = .ok (.lsub, 1) := by decide +kernel
theorem dX8_aheadOf_72 : decode cX8_aheadOf 72 = .ok (.invokestatic 71, 3) := by decide +kernel
theorem dX8_aheadOf_75 : decode cX8_aheadOf 75 = .ok (.ifCond .eq 83, 3) := by decide +kernel
theorem dX8_aheadOf_78 : decode cX8_aheadOf 78 = .ok (.aload_n 0, 1) := by decide +kernel
theorem dX8_aheadOf_79 : decode cX8_aheadOf 79 = .ok (.lload 5, 2) := by decide +kernel
theorem dX8_aheadOf_81 : decode cX8_aheadOf 81 = .ok (.l2i, 1) := by decide +kernel
theorem dX8_aheadOf_82 : decode cX8_aheadOf 82 = .ok (.invokevirtual 136, 3) := by decide +kernel
theorem dX8_aheadOf_85 : decode cX8_aheadOf 85 = .ok (.istore 7, 2) := by decide +kernel
theorem dX8_aheadOf_87 : decode cX8_aheadOf 87 = .ok (.iload 7, 2) := by decide +kernel
theorem dX8_aheadOf_89 : decode cX8_aheadOf 89 = .ok (.iconst (-1), 1) := by decide +kernel
theorem dX8_aheadOf_90 : decode cX8_aheadOf 90 = .ok (.if_icmp .eq 51, 3) := by decide +kernel
theorem dX8_aheadOf_93 : decode cX8_aheadOf 93 = .ok (.aload_n 0, 1) := by decide +kernel
theorem dX8_aheadOf_94 : decode cX8_aheadOf 94 = .ok (.getfield 9, 3) := by decide +kernel
theorem dX8_aheadOf_97 : decode cX8_aheadOf 97 = .ok (.iload 7, 2) := by decide +kernel
theorem dX8_aheadOf_99 : decode cX8_aheadOf 99 = .ok (.iconst 3, 1) := by decide +kernel
theorem dX8_aheadOf_100 : decode cX8_aheadOf 100 = .ok (.iadd, 1) := by decide +kernel
theorem dX8_aheadOf_101 : decode cX8_aheadOf 101 = .ok (.iaload, 1) := by decide +kernel
theorem dX8_aheadOf_102 : decode cX8_aheadOf 102 = .ok (.iconst 1, 1) := by decide +kernel
theorem dX8_aheadOf_103 : decode cX8_aheadOf 103 = .ok (.if_icmp .ne 38, 3) := by decide +kernel
theorem dX8_aheadOf_106 : decode cX8_aheadOf 106 = .ok (.aload_n 0, 1) := by decide +kernel
theorem dX8_aheadOf_107 : decode cX8_aheadOf 107 = .ok (.getfield 9, 3) := by decide +kernel
theorem dX8_aheadOf_110 : decode cX8_aheadOf 110 = .ok (.iload 7, 2) := by decide +kernel
theorem dX8_aheadOf_112 : decode cX8_aheadOf 112 = .ok (.iconst 4, 1) := by decide +kernel
theorem dX8_aheadOf_113 : decode cX8_aheadOf 113 = .ok (.iadd, 1) := by decide +kernel
theorem dX8_aheadOf_114 : decode cX8_aheadOf 114 = .ok (.iaload, 1) := by decide +kernel
theorem dX8_aheadOf_115 : decode cX8_aheadOf 115 = .ok (.iconst 1, 1) := by decide +kernel
theorem dX8_aheadOf_116 : decode cX8_aheadOf 116 = .ok (.isub, 1) := by decide +kernel
theorem dX8_aheadOf_117 : decode cX8_aheadOf 117 = .ok (.aload_n 0, 1) := by decide +kernel
theorem dX8_aheadOf_118 : decode cX8_aheadOf 118 = .ok (.getfield 9, 3) := by decide +kernel
theorem dX8_aheadOf_121 : decode cX8_aheadOf 121 = .ok (.iload_n 3, 1) := by decide +kernel
theorem dX8_aheadOf_122 : decode cX8_aheadOf 122 = .ok (.iconst 1, 1) := by decide +kernel
theorem dX8_aheadOf_123 : decode cX8_aheadOf 123 = .ok (.iadd, 1) := by decide +kernel
theorem dX8_aheadOf_124 : decode cX8_aheadOf 124 = .ok (.iaload, 1) := by decide +kernel
theorem dX8_aheadOf_125 : decode cX8_aheadOf 125 = .ok (.if_icmp .ne 16, 3) := by decide +kernel
theorem dX8_aheadOf_128 : decode cX8_aheadOf 128 = .ok (.iload 4, 2) := by decide +kernel
theorem dX8_aheadOf_130 : decode cX8_aheadOf 130 = .ok (.iload_n 2, 1) := by decide +kernel
theorem dX8_aheadOf_131 : decode cX8_aheadOf 131 = .ok (.if_icmp .ne 7, 3) := by decide +kernel
theorem dX8_aheadOf_134 : decode cX8_aheadOf 134 = .ok (.lload 5, 2) := by decide +kernel
theorem dX8_aheadOf_136 : decode cX8_aheadOf 136 = .ok (.l2i, 1) := by decide +kernel
theorem dX8_aheadOf_137 : decode cX8_aheadOf 137 = .ok (.ireturn, 1) := by decide +kernel
theorem dX8_aheadOf_138 : decode cX8_aheadOf 138 = .ok (.iinc 4 1, 3) := by decide +kernel
theorem dX8_aheadOf_141 : decode cX8_aheadOf 141 = .ok (.lload 5, 2) := by decide +kernel
theorem dX8_aheadOf_143 : decode cX8_aheadOf 143 = .ok (.aload_n 0, 1) := by decide +kernel
theorem dX8_aheadOf_144 : decode cX8_aheadOf 144 = .ok (.getfield 9, 3) := by decide +kernel
theorem dX8_aheadOf_147 : decode cX8_aheadOf 147 = .ok (.iload_n 3, 1) := by decide +kernel
theorem dX8_aheadOf_148 : decode cX8_aheadOf 148 = .ok (.iconst 3, 1) := by decide +kernel
theorem dX8_aheadOf_149 : decode cX8_aheadOf 149 = .ok (.iadd, 1) := by decide +kernel
theorem dX8_aheadOf_150 : decode cX8_aheadOf 150 = .ok (.iaload, 1) := by decide +kernel
theorem dX8_aheadOf_151 : decode cX8_aheadOf 151 = .ok (.i2l, 1) := by decide +kernel
theorem dX8_aheadOf_152 : decode cX8_aheadOf 152 = .ok (.ladd, 1) := by decide +kernel
theorem dX8_aheadOf_153 : decode cX8_aheadOf 153 = .ok (.lstore 5, 2) := by decide +kernel
theorem dX8_aheadOf_155 : decode cX8_aheadOf 155 = .ok (.goto (-107), 3) := by decide +kernel
theorem dX8_aheadOf_158 : decode cX8_aheadOf 158 = .ok (.iconst (-1), 1) := by decide +kernel
theorem dX8_aheadOf_159 : decode cX8_aheadOf 159 = .ok (.ireturn, 1) := by decide +kernel
def mR_aheadOf_158 (N : Nat) (σ : ST) (x1 : Int32) (x2 : Int32) (x3 : Int32) (x4 : Int32) (x5 : Int64) : Option (Int32 × ST) :=
  some ((-1), σ)
set_option maxRecDepth 20000 in
set_option maxHeartbeats 2000000 in
theorem tR_aheadOf_158 {adr : Nat → Nat} {cI cZ : ClassId} {X : zX} {q : Int32 × ST} (B : zC X 8 (wdR adr cI cZ) cX8_aheadOf RX8 (some .int) { frames := 2, cells := 0, slots := 0, locals := 46 }) (N : Nat) (σ : ST) (x1 : Int32) (x2 : Int32) (x3 : Int32) (x4 : Int32) (x5 : Int64) (hf : mR_aheadOf_158 N σ x1 x2 x3 x4 x5 = some q) : zJ X 8 (wdR adr cI cZ) (zi q) 158 [(0, .ref (adr 0)), (1, .int x1), (2, .int x2), (3, .int x3), (4, .int x4), (5, .long x5)] [] σ := by
  refine z_iconst B (-1) dX8_aheadOf_158 zc_iconst_m1 ?_
  exact z_ireturn B dX8_aheadOf_159 hf
def mR_aheadOf_141 (N : Nat) (hd48 : ST → Int32 → Int32 → Int32 → Int32 → Int64 → Option (Int32 × ST)) (σ : ST) (x1 : Int32) (x2 : Int32) (x3 : Int32) (x4 : Int32) (x5 : Int64) (x7 : Int32) : Option (Int32 × ST) :=
  zLet ((x3 : Int32) + (3)) fun v149 =>
  zGet (σ 1) 1974 v149 fun v150 =>
  zLet ((v150 : Int32).toInt64) fun v151 =>
  zLet ((x5 : Int64) + v151) fun v152 =>
  hd48 σ x1 x2 x3 x4 v152
set_option maxRecDepth 20000 in
set_option maxHeartbeats 2000000 in
theorem tR_aheadOf_141 {adr : Nat → Nat} {cI cZ : ClassId} {X : zX} {q : Int32 × ST} (B : zC X 8 (wdR adr cI cZ) cX8_aheadOf RX8 (some .int) { frames := 2, cells := 0, slots := 0, locals := 46 }) (N : Nat) (hd48 : ST → Int32 → Int32 → Int32 → Int32 → Int64 → Option (Int32 × ST)) (hh48 : ∀ (σ : ST) (x1 : Int32) (x2 : Int32) (x3 : Int32) (x4 : Int32) (x5 : Int64), hd48 σ x1 x2 x3 x4 x5 = some q → zJ X 8 (wdR adr cI cZ) (zi q) 48 [(0, .ref (adr 0)), (1, .int x1), (2, .int x2), (3, .int x3), (4, .int x4), (5, .long x5)] [] σ) (σ : ST) (x1 : Int32) (x2 : Int32) (x3 : Int32) (x4 : Int32) (x5 : Int64) (x7 : Int32) (hf : mR_aheadOf_141 N hd48 σ x1 x2 x3 x4 x5 x7 = some q) : zJ X 8 (wdR adr cI cZ) (zi q) 141 [(0, .ref (adr 0)), (1, .int x1), (2, .int x2), (3, .int x3), (4, .int x4), (5, .long x5), (7, .int x7)] [] σ := by
  refine z_lload B dX8_aheadOf_141 5 rfl ?_
  refine z_aload_n B dX8_aheadOf_143 0 rfl rfl ?_
  refine fR_g_row B dX8_aheadOf_144 ?_
  refine z_iload_n B dX8_aheadOf_147 3 rfl rfl ?_
  refine z_iconst B (3) dX8_aheadOf_148 zc_iconst_3 ?_
  refine z_iadd B dX8_aheadOf_149 hf (fun v149 hf => ?_)
  refine fR_l_row B dX8_aheadOf_150 hf (fun v150 hf => ?_)
  refine z_i2l B dX8_aheadOf_151 hf (fun v151 hf => ?_)
  refine z_ladd B dX8_aheadOf_152 hf (fun v152 hf => ?_)
  refine z_lstore B [(5, .long v152), (0, .ref (adr 0)), (1, .int x1), (2, .int x2), (3, .int x3), (4, .int x4), (7, .int x7)] dX8_aheadOf_153 (Nat.le_of_ble_eq_true rfl) rfl ?_
  refine z_goto B 48 dX8_aheadOf_155 (by decide) ?_
  exact z_loc [1, 2, 3, 4, 5, 0] _ rfl (hh48 σ x1 x2 x3 x4 v152 hf)
def mR_aheadOf_B48 (N : Nat) (hd48 : ST → Int32 → Int32 → Int32 → Int32 → Int64 → Option (Int32 × ST)) (σ : ST) (x1 : Int32) (x2 : Int32) (x3 : Int32) (x4 : Int32) (x5 : Int64) : Option (Int32 × ST) :=
  zLet ((x3 : Int32) + (3)) fun v54 =>
  zGet (σ 1) 1974 v54 fun v55 =>
  if (v55 : Int32) = 0 then
    mR_aheadOf_158 N σ x1 x2 x3 x4 x5
  else
    zGet (σ 1) 1974 (7) fun v68 =>
    zLet ((v68 : Int32).toInt64) fun v69 =>
    zLet ((v69 : Int64) - (1)) fun v71 =>
    zCall (mR_in N σ x5 (0) v71) fun v72 s72 =>
    if (v72 : Int32) = 0 then
      mR_aheadOf_158 N s72 x1 x2 x3 x4 x5
    else
      zLet ((x5 : Int64).toInt32) fun v81 =>
      zCall (mR_place N s72 v81) fun v82 s82 =>
      if (v82 : Int32) = (-1) then
        mR_aheadOf_141 N hd48 s82 x1 x2 x3 x4 x5 v82
      else
        zLet ((v82 : Int32) + (3)) fun v100 =>
        zGet (s82 1) 1974 v100 fun v101 =>
        if (v101 : Int32) = (1) then
          zLet ((v82 : Int32) + (4)) fun v113 =>
          zGet (s82 1) 1974 v113 fun v114 =>
          zLet ((v114 : Int32) - (1)) fun v116 =>
          zLet ((x3 : Int32) + (1)) fun v123 =>
          zGet (s82 1) 1974 v123 fun v124 =>
          if (v116 : Int32) = v124 then
            if (x4 : Int32) = x2 then
              zLet ((x5 : Int64).toInt32) fun v136 =>
              some (v136, s82)
            else
              zLet (x4 + (1)) fun v138 =>
              mR_aheadOf_141 N hd48 s82 x1 x2 x3 v138 x5 v82
          else
            mR_aheadOf_141 N hd48 s82 x1 x2 x3 x4 x5 v82
        else
          mR_aheadOf_141 N hd48 s82 x1 x2 x3 x4 x5 v82
def mR_aheadOf_48 (N : Nat) : ST → Int32 → Int32 → Int32 → Int32 → Int64 → Option (Int32 × ST) := zIt (mR_aheadOf_B48 N) (fun _ _ _ _ _ _ => none) N
set_option maxRecDepth 20000 in
set_option maxHeartbeats 2000000 in
theorem tR_aheadOf_48 {adr : Nat → Nat} {cI cZ : ClassId} {X : zX} {q : Int32 × ST} (B : zC X 8 (wdR adr cI cZ) cX8_aheadOf RX8 (some .int) { frames := 2, cells := 0, slots := 0, locals := 46 }) (N : Nat) : ∀ (σ : ST) (x1 : Int32) (x2 : Int32) (x3 : Int32) (x4 : Int32) (x5 : Int64), mR_aheadOf_48 N σ x1 x2 x3 x4 x5 = some q → zJ X 8 (wdR adr cI cZ) (zi q) 48 [(0, .ref (adr 0)), (1, .int x1), (2, .int x2), (3, .int x3), (4, .int x4), (5, .long x5)] [] σ := by
  refine zIt_ind (P := fun (hd : ST → Int32 → Int32 → Int32 → Int32 → Int64 → Option (Int32 × ST)) => ∀ (σ : ST) (x1 : Int32) (x2 : Int32) (x3 : Int32) (x4 : Int32) (x5 : Int64), hd σ x1 x2 x3 x4 x5 = some q → zJ X 8 (wdR adr cI cZ) (zi q) 48 [(0, .ref (adr 0)), (1, .int x1), (2, .int x2), (3, .int x3), (4, .int x4), (5, .long x5)] [] σ) (fun _ _ _ _ _ _ hf => by cases hf) (fun hd48 hh48 => ?_) N
  intro σ x1 x2 x3 x4 x5 hf
  refine z_aload_n B dX8_aheadOf_48 0 rfl rfl ?_
  refine fR_g_row B dX8_aheadOf_49 ?_
  refine z_iload_n B dX8_aheadOf_52 3 rfl rfl ?_
  refine z_iconst B (3) dX8_aheadOf_53 zc_iconst_3 ?_
  refine z_iadd B dX8_aheadOf_54 hf (fun v54 hf => ?_)
  refine fR_l_row B dX8_aheadOf_55 hf (fun v55 hf => ?_)
  refine z_if_eq B 158 dX8_aheadOf_56 (by decide) hf (fun hf => ?_) (fun hf => ?_)
  · exact tR_aheadOf_158 B N σ x1 x2 x3 x4 x5 hf
  · refine z_lload B dX8_aheadOf_59 5 rfl ?_
    refine z_lconst B (0) dX8_aheadOf_61 rfl ?_
    refine z_aload_n B dX8_aheadOf_62 0 rfl rfl ?_
    refine fR_g_row B dX8_aheadOf_63 ?_
    refine z_bipush B (7) dX8_aheadOf_66 zc_bipush_7 ?_
    refine fR_l_row B dX8_aheadOf_68 hf (fun v68 hf => ?_)
    refine z_i2l B dX8_aheadOf_69 hf (fun v69 hf => ?_)
    refine z_lconst B (1) dX8_aheadOf_70 rfl ?_
    refine z_lsub B dX8_aheadOf_71 hf (fun v71 hf => ?_)
    refine z_callSi B (As := [.long x5, .long (0), .long v71]) kcS_X8_71 dX8_aheadOf_72 hf (fun q hq => cR_in q hq) rfl rfl (Nat.le_of_ble_eq_true rfl) rfl rfl ⟨Nat.le_of_ble_eq_true rfl, Nat.le_of_ble_eq_true rfl⟩ (fun v72 s72 hf => ?_)
    refine z_if_eq B 158 dX8_aheadOf_75 (by decide) hf (fun hf => ?_) (fun hf => ?_)
    · exact tR_aheadOf_158 B N s72 x1 x2 x3 x4 x5 hf
    · refine z_aload_n B dX8_aheadOf_78 0 rfl rfl ?_
      refine z_lload B dX8_aheadOf_79 5 rfl ?_
      refine z_l2i B dX8_aheadOf_81 hf (fun v81 hf => ?_)
      refine z_callVi B (As := [.int v81]) kcV_X8_136 dX8_aheadOf_82 hf (fun q hq => cR_place q hq) (wR_o (adr := adr) (cI := cI) (cZ := cZ)) rfl rfl rfl rfl (Nat.le_of_ble_eq_true rfl) rfl rfl ⟨Nat.le_of_ble_eq_true rfl, Nat.le_of_ble_eq_true rfl⟩ (fun v82 s82 hf => ?_)
      refine z_istore B [(7, .int v82), (0, .ref (adr 0)), (1, .int x1), (2, .int x2), (3, .int x3), (4, .int x4), (5, .long x5)] dX8_aheadOf_85 (Nat.le_of_ble_eq_true rfl) rfl ?_
      refine z_iload B dX8_aheadOf_87 0 rfl ?_
      refine z_iconst B (-1) dX8_aheadOf_89 zc_iconst_m1 ?_
      refine z_icmp_eq B 141 dX8_aheadOf_90 (by decide) hf (fun hf => ?_) (fun hf => ?_)
      · exact z_loc [1, 2, 3, 4, 5, 6, 0] _ rfl (tR_aheadOf_141 B N hd48 hh48 s82 x1 x2 x3 x4 x5 v82 hf)
      · refine z_aload_n B dX8_aheadOf_93 1 rfl rfl ?_
        refine fR_g_row B dX8_aheadOf_94 ?_
        refine z_iload B dX8_aheadOf_97 0 rfl ?_
        refine z_iconst B (3) dX8_aheadOf_99 zc_iconst_3 ?_
        refine z_iadd B dX8_aheadOf_100 hf (fun v100 hf => ?_)
        refine fR_l_row B dX8_aheadOf_101 hf (fun v101 hf => ?_)
        refine z_iconst B (1) dX8_aheadOf_102 zc_iconst_1 ?_
        refine z_icmp_ne B 141 dX8_aheadOf_103 (by decide) hf (fun hf => ?_) (fun hf => ?_)
        · exact z_loc [1, 2, 3, 4, 5, 6, 0] _ rfl (tR_aheadOf_141 B N hd48 hh48 s82 x1 x2 x3 x4 x5 v82 hf)
        · refine z_aload_n B dX8_aheadOf_106 1 rfl rfl ?_
          refine fR_g_row B dX8_aheadOf_107 ?_
          refine z_iload B dX8_aheadOf_110 0 rfl ?_
          refine z_iconst B (4) dX8_aheadOf_112 zc_iconst_4 ?_
          refine z_iadd B dX8_aheadOf_113 hf (fun v113 hf => ?_)
          refine fR_l_row B dX8_aheadOf_114 hf (fun v114 hf => ?_)
          refine z_iconst B (1) dX8_aheadOf_115 zc_iconst_1 ?_
          refine z_isub B dX8_aheadOf_116 hf (fun v116 hf => ?_)
          refine z_aload_n B dX8_aheadOf_117 1 rfl rfl ?_
          refine fR_g_row B dX8_aheadOf_118 ?_
          refine z_iload_n B dX8_aheadOf_121 4 rfl rfl ?_
          refine z_iconst B (1) dX8_aheadOf_122 zc_iconst_1 ?_
          refine z_iadd B dX8_aheadOf_123 hf (fun v123 hf => ?_)
          refine fR_l_row B dX8_aheadOf_124 hf (fun v124 hf => ?_)
          refine z_icmp_ne B 141 dX8_aheadOf_125 (by decide) hf (fun hf => ?_) (fun hf => ?_)
          · exact z_loc [1, 2, 3, 4, 5, 6, 0] _ rfl (tR_aheadOf_141 B N hd48 hh48 s82 x1 x2 x3 x4 x5 v82 hf)
          · refine z_iload B dX8_aheadOf_128 5 rfl ?_
            refine z_iload_n B dX8_aheadOf_130 3 rfl rfl ?_
            refine z_icmp_ne B 138 dX8_aheadOf_131 (by decide) hf (fun hf => ?_) (fun hf => ?_)
            · refine z_iinc B (1) 5 (fun v138 => [(4, .int v138), (7, .int v82), (0, .ref (adr 0)), (1, .int x1), (2, .int x2), (3, .int x3), (5, .long x5)]) dX8_aheadOf_138 hf zc_iconst_1 rfl (Nat.le_of_ble_eq_true rfl) (fun _ => rfl) (fun v138 hf => ?_)
              exact z_loc [2, 3, 4, 5, 0, 6, 1] _ rfl (tR_aheadOf_141 B N hd48 hh48 s82 x1 x2 x3 v138 x5 v82 hf)
            · refine z_lload B dX8_aheadOf_134 6 rfl ?_
              refine z_l2i B dX8_aheadOf_136 hf (fun v136 hf => ?_)
              exact z_ireturn B dX8_aheadOf_137 hf
def mR_aheadOf_17 (N : Nat) (σ : ST) (x1 : Int32) (x2 : Int32) : Option (Int32 × ST) :=
  some ((-1), σ)
set_option maxRecDepth 20000 in
set_option maxHeartbeats 2000000 in
theorem tR_aheadOf_17 {adr : Nat → Nat} {cI cZ : ClassId} {X : zX} {q : Int32 × ST} (B : zC X 8 (wdR adr cI cZ) cX8_aheadOf RX8 (some .int) { frames := 2, cells := 0, slots := 0, locals := 46 }) (N : Nat) (σ : ST) (x1 : Int32) (x2 : Int32) (hf : mR_aheadOf_17 N σ x1 x2 = some q) : zJ X 8 (wdR adr cI cZ) (zi q) 17 [(0, .ref (adr 0)), (1, .int x1), (2, .int x2)] [] σ := by
  refine z_iconst B (-1) dX8_aheadOf_17 zc_iconst_m1 ?_
  exact z_ireturn B dX8_aheadOf_18 hf
def mR_aheadOf (N : Nat) (σ : ST) (x1 : Int32) (x2 : Int32) : Option (Int32 × ST) :=
  zLet (zUp σ 0 0 (0)) fun s2 =>
  zCall (mR_isStream N s2 x1) fun v7 s7 =>
  if (v7 : Int32) = 0 then
    mR_aheadOf_17 N s7 x1 x2
  else
    if (0 : Int32) ≤ x2 then
      zCall (mR_streamAt N s7 x1) fun v20 s20 =>
      zLet ((v20 : Int32) + (2)) fun v33 =>
      zGet (s20 1) 1974 v33 fun v34 =>
      zLet ((v34 : Int32).toInt64) fun v35 =>
      zLet ((v20 : Int32) + (3)) fun v42 =>
      zGet (s20 1) 1974 v42 fun v43 =>
      zLet ((v43 : Int32).toInt64) fun v44 =>
      zLet ((v35 : Int64) + v44) fun v45 =>
      mR_aheadOf_48 N s20 x1 x2 v20 (0) v45
    else
      mR_aheadOf_17 N s7 x1 x2
set_option maxRecDepth 20000 in
set_option maxHeartbeats 2000000 in
theorem cR_aheadOf {adr : Nat → Nat} {cI cZ : ClassId} {l : Launch} {D : va_G} {N : Nat} {σ : ST} {x1 : Int32} {x2 : Int32} (q : Int32 × ST) (hf : mR_aheadOf N σ x1 x2 = some q) : zM l D (wdR adr cI cZ) yX8_aheadOf cX8_aheadOf 8 (some .int) ({ frames := 2, cells := 0, slots := 0, locals := 46 }) [.ref (adr 0), .int x1, .int x2] σ (zi q) := by
  refine zM_of sfR_ok rfl (Nat.le_of_ble_eq_true rfl) [(0, .ref (adr 0)), (1, .int x1), (2, .int x2)] rfl (fun X hX1 hX2 B => ?_)
  have B : zC X 8 (wdR adr cI cZ) cX8_aheadOf RX8 (some .int) { frames := 2, cells := 0, slots := 0, locals := 46 } := B
  refine z_aload_n B dX8_aheadOf_0 0 rfl rfl ?_
  refine z_iconst B (0) dX8_aheadOf_1 zc_iconst_0 ?_
  refine fR_p_thrown B dX8_aheadOf_2 hf (fun s2 hf => ?_)
  refine z_aload_n B dX8_aheadOf_5 0 rfl rfl ?_
  refine z_iload_n B dX8_aheadOf_6 1 rfl rfl ?_
  refine z_callVi B (As := [.int x1]) kcV_X8_222 dX8_aheadOf_7 hf (fun q hq => cR_isStream q hq) (wR_o (adr := adr) (cI := cI) (cZ := cZ)) rfl rfl rfl rfl (Nat.le_of_ble_eq_true rfl) rfl rfl ⟨Nat.le_of_ble_eq_true rfl, Nat.le_of_ble_eq_true rfl⟩ (fun v7 s7 hf => ?_)
  refine z_if_eq B 17 dX8_aheadOf_10 (by decide) hf (fun hf => ?_) (fun hf => ?_)
  · exact tR_aheadOf_17 B N s7 x1 x2 hf
  · refine z_iload_n B dX8_aheadOf_13 2 rfl rfl ?_
    refine z_if_ge B 19 dX8_aheadOf_14 (by decide) hf (fun hf => ?_) (fun hf => ?_)
    · refine z_iload_n B dX8_aheadOf_19 1 rfl rfl ?_
      refine z_callSi B (As := [.int x1]) kcS_X8_89 dX8_aheadOf_20 hf (fun q hq => cR_streamAt q hq) rfl rfl (Nat.le_of_ble_eq_true rfl) rfl rfl ⟨Nat.le_of_ble_eq_true rfl, Nat.le_of_ble_eq_true rfl⟩ (fun v20 s20 hf => ?_)
      refine z_istore_n B [(3, .int v20), (0, .ref (adr 0)), (1, .int x1), (2, .int x2)] dX8_aheadOf_23 rfl (Nat.le_of_ble_eq_true rfl) rfl ?_
      refine z_iconst B (0) dX8_aheadOf_24 zc_iconst_0 ?_
      refine z_istore B [(4, .int (0)), (3, .int v20), (0, .ref (adr 0)), (1, .int x1), (2, .int x2)] dX8_aheadOf_25 (Nat.le_of_ble_eq_true rfl) rfl ?_
      refine z_aload_n B dX8_aheadOf_27 2 rfl rfl ?_
      refine fR_g_row B dX8_aheadOf_28 ?_
      refine z_iload_n B dX8_aheadOf_31 1 rfl rfl ?_
      refine z_iconst B (2) dX8_aheadOf_32 zc_iconst_2 ?_
      refine z_iadd B dX8_aheadOf_33 hf (fun v33 hf => ?_)
      refine fR_l_row B dX8_aheadOf_34 hf (fun v34 hf => ?_)
      refine z_i2l B dX8_aheadOf_35 hf (fun v35 hf => ?_)
      refine z_aload_n B dX8_aheadOf_36 2 rfl rfl ?_
      refine fR_g_row B dX8_aheadOf_37 ?_
      refine z_iload_n B dX8_aheadOf_40 1 rfl rfl ?_
      refine z_iconst B (3) dX8_aheadOf_41 zc_iconst_3 ?_
      refine z_iadd B dX8_aheadOf_42 hf (fun v42 hf => ?_)
      refine fR_l_row B dX8_aheadOf_43 hf (fun v43 hf => ?_)
      refine z_i2l B dX8_aheadOf_44 hf (fun v44 hf => ?_)
      refine z_ladd B dX8_aheadOf_45 hf (fun v45 hf => ?_)
      refine z_lstore B [(5, .long v45), (4, .int (0)), (3, .int v20), (0, .ref (adr 0)), (1, .int x1), (2, .int x2)] dX8_aheadOf_46 (Nat.le_of_ble_eq_true rfl) rfl ?_
      exact z_loc [3, 4, 5, 2, 1, 0] _ rfl (tR_aheadOf_48 B N s20 x1 x2 v20 (0) v45 hf)
    · exact tR_aheadOf_17 B N s7 x1 x2 hf
theorem dX8_log_0 : decode cX8_log 0 = .ok (.aload_n 0, 1) := by decide +kernel
theorem dX8_log_1 : decode cX8_log 1 = .ok (.iconst 0, 1) := by decide +kernel
theorem dX8_log_2 : decode cX8_log 2 = .ok (.putfield 67, 3) := by decide +kernel
theorem dX8_log_5 : decode cX8_log 5 = .ok (.iload_n 1, 1) := by decide +kernel
theorem dX8_log_6 : decode cX8_log 6 = .ok (.i2l, 1) := by decide +kernel
theorem dX8_log_7 : decode cX8_log 7 = .ok (.lconst 0, 1) := by decide +kernel
theorem dX8_log_8 : decode cX8_log 8 = .ok (.aload_n 0, 1) := by decide +kernel
theorem dX8_log_9 : decode cX8_log 9 = .ok (.getfield 9, 3) := by decide +kernel
theorem dX8_log_12 : decode cX8_log 12 = .ok (.bipush 26, 2) := by decide +kernel
theorem dX8_log_14 : decode cX8_log 14 = .ok (.iaload, 1) := by decide +kernel
theorem dX8_log_15 : decode cX8_log 15 = .ok (.i2l, 1) := by decide +kernel
theorem dX8_log_16 : decode cX8_log 16 = .ok (.lconst 1, 1) := by decide +kernel
theorem dX8_log_17 : decode cX8_log 17 = .ok (.lsub, 1) := by decide +kernel
theorem dX8_log_18 : decode cX8_log 18 = .ok (.invokestatic 71, 3) := by decide +kernel
theorem dX8_log_21 : decode cX8_log 21 = .ok (.ifCond .eq 42, 3) := by decide +kernel
theorem dX8_log_24 : decode cX8_log 24 = .ok (.iload_n 2, 1) := by decide +kernel
theorem dX8_log_25 : decode cX8_log 25 = .ok (.i2l, 1) := by decide +kernel
theorem dX8_log_26 : decode cX8_log 26 = .ok (.lconst 0, 1) := by decide +kernel
theorem dX8_log_27 : decode cX8_log 27 = .ok (.ldc2_w 236, 3) := by decide +kernel
theorem dX8_log_30 : decode cX8_log 30 = .ok (.invokestatic 71, 3) := by decide +kernel
theorem dX8_log_33 : decode cX8_log 33 = .ok (.ifCond .eq 30, 3) := by decide +kernel
theorem dX8_log_36 : decode cX8_log 36 = .ok (.aload_n 0, 1) := by decide +kernel
theorem dX8_log_37 : decode cX8_log 37 = .ok (.getfield 9, 3) := by decide +kernel
theorem dX8_log_40 : decode cX8_log 40 = .ok (.sipush 614, 3) := by decide +kernel
theorem dX8_log_43 : decode cX8_log 43 = .ok (.iconst 4, 1) := by decide +kernel
theorem dX8_log_44 : decode cX8_log 44 = .ok (.aload_n 0, 1) := by decide +kernel
theorem dX8_log_45 : decode cX8_log 45 = .ok (.getfield 9, 3) := by decide +kernel
theorem dX8_log_48 : decode cX8_log 48 = .ok (.bipush 26, 2) := by decide +kernel
theorem dX8_log_50 : decode cX8_log 50 = .ok (.iaload, 1) := by decide +kernel
theorem dX8_log_51 : decode cX8_log 51 = .ok (.iconst 1, 1) := by decide +kernel
theorem dX8_log_52 : decode cX8_log 52 = .ok (.isub, 1) := by decide +kernel
theorem dX8_log_53 : decode cX8_log 53 = .ok (.iload_n 1, 1) := by decide +kernel
theorem dX8_log_54 : decode cX8_log 54 = .ok (.isub, 1) := by decide +kernel
theorem dX8_log_55 : decode cX8_log 55 = .ok (.imul, 1) := by decide +kernel
theorem dX8_log_56 : decode cX8_log 56 = .ok (.iadd, 1) := by decide +kernel
theorem dX8_log_57 : decode cX8_log 57 = .ok (.iload_n 2, 1) := by decide +kernel
theorem dX8_log_58 : decode cX8_log 58 = .ok (.iadd, 1) := by decide +kernel
theorem dX8_log_59 : decode cX8_log 59 = .ok (.iaload, 1) := by decide +kernel
theorem dX8_log_60 : decode cX8_log 60 = .ok (.goto 4, 3) := by decide +kernel
theorem dX8_log_63 : decode cX8_log 63 = .ok (.iconst (-1), 1) := by decide +kernel
theorem dX8_log_64 : decode cX8_log 64 = .ok (.ireturn, 1) := by decide +kernel
def mR_log_64 (N : Nat) (σ : ST) (x1 : Int32) (x2 : Int32) (k0 : Int32) : Option (Int32 × ST) :=
  some (k0, σ)
set_option maxRecDepth 20000 in
set_option maxHeartbeats 2000000 in
theorem tR_log_64 {adr : Nat → Nat} {cI cZ : ClassId} {X : zX} {q : Int32 × ST} (B : zC X 3 (wdR adr cI cZ) cX8_log RX8 (some .int) { frames := 1, cells := 0, slots := 0, locals := 25 }) (N : Nat) (σ : ST) (x1 : Int32) (x2 : Int32) (k0 : Int32) (hf : mR_log_64 N σ x1 x2 k0 = some q) : zJ X 3 (wdR adr cI cZ) (zi q) 64 [(0, .ref (adr 0)), (1, .int x1), (2, .int x2)] [.int k0] σ := by
  exact z_ireturn B dX8_log_64 hf
def mR_log_63 (N : Nat) (σ : ST) (x1 : Int32) (x2 : Int32) : Option (Int32 × ST) :=
  mR_log_64 N σ x1 x2 (-1)
set_option maxRecDepth 20000 in
set_option maxHeartbeats 2000000 in
theorem tR_log_63 {adr : Nat → Nat} {cI cZ : ClassId} {X : zX} {q : Int32 × ST} (B : zC X 3 (wdR adr cI cZ) cX8_log RX8 (some .int) { frames := 1, cells := 0, slots := 0, locals := 25 }) (N : Nat) (σ : ST) (x1 : Int32) (x2 : Int32) (hf : mR_log_63 N σ x1 x2 = some q) : zJ X 3 (wdR adr cI cZ) (zi q) 63 [(0, .ref (adr 0)), (1, .int x1), (2, .int x2)] [] σ := by
  refine z_iconst B (-1) dX8_log_63 zc_iconst_m1 ?_
  exact tR_log_64 B N σ x1 x2 (-1) hf
def mR_log (N : Nat) (σ : ST) (x1 : Int32) (x2 : Int32) : Option (Int32 × ST) :=
  zLet (zUp σ 0 0 (0)) fun s2 =>
  zLet ((x1 : Int32).toInt64) fun v6 =>
  zGet (s2 1) 1974 (26) fun v14 =>
  zLet ((v14 : Int32).toInt64) fun v15 =>
  zLet ((v15 : Int64) - (1)) fun v17 =>
  zCall (mR_in N s2 v6 (0) v17) fun v18 s18 =>
  if (v18 : Int32) = 0 then
    mR_log_63 N s18 x1 x2
  else
    zLet ((x2 : Int32).toInt64) fun v25 =>
    zCall (mR_in N s18 v25 (0) (3)) fun v30 s30 =>
    if (v30 : Int32) = 0 then
      mR_log_63 N s30 x1 x2
    else
      zGet (s30 1) 1974 (26) fun v50 =>
      zLet ((v50 : Int32) - (1)) fun v52 =>
      zLet ((v52 : Int32) - x1) fun v54 =>
      zLet (((4) : Int32) * v54) fun v55 =>
      zLet (((614) : Int32) + v55) fun v56 =>
      zLet ((v56 : Int32) + x2) fun v58 =>
      zGet (s30 1) 1974 v58 fun v59 =>
      mR_log_64 N s30 x1 x2 v59
set_option maxRecDepth 20000 in
set_option maxHeartbeats 2000000 in
theorem cR_log {adr : Nat → Nat} {cI cZ : ClassId} {l : Launch} {D : va_G} {N : Nat} {σ : ST} {x1 : Int32} {x2 : Int32} (q : Int32 × ST) (hf : mR_log N σ x1 x2 = some q) : zM l D (wdR adr cI cZ) yX8_log cX8_log 3 (some .int) ({ frames := 1, cells := 0, slots := 0, locals := 25 }) [.ref (adr 0), .int x1, .int x2] σ (zi q) := by
  refine zM_of sfR_ok rfl (Nat.le_of_ble_eq_true rfl) [(0, .ref (adr 0)), (1, .int x1), (2, .int x2)] rfl (fun X hX1 hX2 B => ?_)
  have B : zC X 3 (wdR adr cI cZ) cX8_log RX8 (some .int) { frames := 1, cells := 0, slots := 0, locals := 25 } := B
  refine z_aload_n B dX8_log_0 0 rfl rfl ?_
  refine z_iconst B (0) dX8_log_1 zc_iconst_0 ?_
  refine fR_p_thrown B dX8_log_2 hf (fun s2 hf => ?_)
  refine z_iload_n B dX8_log_5 1 rfl rfl ?_
  refine z_i2l B dX8_log_6 hf (fun v6 hf => ?_)
  refine z_lconst B (0) dX8_log_7 rfl ?_
  refine z_aload_n B dX8_log_8 0 rfl rfl ?_
  refine fR_g_row B dX8_log_9 ?_
  refine z_bipush B (26) dX8_log_12 zc_bipush_26 ?_
  refine fR_l_row B dX8_log_14 hf (fun v14 hf => ?_)
  refine z_i2l B dX8_log_15 hf (fun v15 hf => ?_)
  refine z_lconst B (1) dX8_log_16 rfl ?_
  refine z_lsub B dX8_log_17 hf (fun v17 hf => ?_)
  refine z_callSi B (As := [.long v6, .long (0), .long v17]) kcS_X8_71 dX8_log_18 hf (fun q hq => cR_in q hq) rfl rfl (Nat.le_of_ble_eq_true rfl) rfl rfl ⟨Nat.le_of_ble_eq_true rfl, Nat.le_of_ble_eq_true rfl⟩ (fun v18 s18 hf => ?_)
  refine z_if_eq B 63 dX8_log_21 (by decide) hf (fun hf => ?_) (fun hf => ?_)
  · exact tR_log_63 B N s18 x1 x2 hf
  · refine z_iload_n B dX8_log_24 2 rfl rfl ?_
    refine z_i2l B dX8_log_25 hf (fun v25 hf => ?_)
    refine z_lconst B (0) dX8_log_26 rfl ?_
    refine z_ldc2 B kw_1217 dX8_log_27 ?_
    refine z_callSi B (As := [.long v25, .long (0), .long (3)]) kcS_X8_71 dX8_log_30 hf (fun q hq => cR_in q hq) rfl rfl (Nat.le_of_ble_eq_true rfl) rfl rfl ⟨Nat.le_of_ble_eq_true rfl, Nat.le_of_ble_eq_true rfl⟩ (fun v30 s30 hf => ?_)
    refine z_if_eq B 63 dX8_log_33 (by decide) hf (fun hf => ?_) (fun hf => ?_)
    · exact tR_log_63 B N s30 x1 x2 hf
    · refine z_aload_n B dX8_log_36 0 rfl rfl ?_
      refine fR_g_row B dX8_log_37 ?_
      refine z_sipush B (614) dX8_log_40 zc_sipush_614 ?_
      refine z_iconst B (4) dX8_log_43 zc_iconst_4 ?_
      refine z_aload_n B dX8_log_44 0 rfl rfl ?_
      refine fR_g_row B dX8_log_45 ?_
      refine z_bipush B (26) dX8_log_48 zc_bipush_26 ?_
      refine fR_l_row B dX8_log_50 hf (fun v50 hf => ?_)
      refine z_iconst B (1) dX8_log_51 zc_iconst_1 ?_
      refine z_isub B dX8_log_52 hf (fun v52 hf => ?_)
      refine z_iload_n B dX8_log_53 1 rfl rfl ?_
      refine z_isub B dX8_log_54 hf (fun v54 hf => ?_)
      refine z_imul B dX8_log_55 hf (fun v55 hf => ?_)
      refine z_iadd B dX8_log_56 hf (fun v56 hf => ?_)
      refine z_iload_n B dX8_log_57 2 rfl rfl ?_
      refine z_iadd B dX8_log_58 hf (fun v58 hf => ?_)
      refine fR_l_row B dX8_log_59 hf (fun v59 hf => ?_)
      refine z_goto B 64 dX8_log_60 (by decide) ?_
      exact tR_log_64 B N s30 x1 x2 v59 hf
theorem dX8_traced_0 : decode cX8_traced 0 = .ok (.aload_n 0, 1) := by decide +kernel
theorem dX8_traced_1 : decode cX8_traced 1 = .ok (.getfield 9, 3) := by decide +kernel
theorem dX8_traced_4 : decode cX8_traced 4 = .ok (.sipush 774, 3) := by decide +kernel
theorem dX8_traced_7 : decode cX8_traced 7 = .ok (.iconst 3, 1) := by decide +kernel
theorem dX8_traced_8 : decode cX8_traced 8 = .ok (.iload_n 1, 1) := by decide +kernel
theorem dX8_traced_9 : decode cX8_traced 9 = .ok (.imul, 1) := by decide +kernel
theorem dX8_traced_10 : decode cX8_traced 10 = .ok (.iadd, 1) := by decide +kernel
theorem dX8_traced_11 : decode cX8_traced 11 = .ok (.iaload, 1) := by decide +kernel
theorem dX8_traced_12 : decode cX8_traced 12 = .ok (.ireturn, 1) := by decide +kernel
def mR_traced (N : Nat) (σ : ST) (x1 : Int32) : Option (Int32 × ST) :=
  zLet (((3) : Int32) * x1) fun v9 =>
  zLet (((774) : Int32) + v9) fun v10 =>
  zGet (σ 1) 1974 v10 fun v11 =>
  some (v11, σ)
set_option maxRecDepth 20000 in
set_option maxHeartbeats 2000000 in
theorem cR_traced {adr : Nat → Nat} {cI cZ : ClassId} {l : Launch} {D : va_G} {N : Nat} {σ : ST} {x1 : Int32} (q : Int32 × ST) (hf : mR_traced N σ x1 = some q) : zM l D (wdR adr cI cZ) yX8_traced cX8_traced 2 (some .int) ({ frames := 0, cells := 0, slots := 0, locals := 0 }) [.ref (adr 0), .int x1] σ (zi q) := by
  refine zM_of sfR_ok rfl (Nat.le_of_ble_eq_true rfl) [(0, .ref (adr 0)), (1, .int x1)] rfl (fun X hX1 hX2 B => ?_)
  have B : zC X 2 (wdR adr cI cZ) cX8_traced RX8 (some .int) { frames := 0, cells := 0, slots := 0, locals := 0 } := B
  refine z_aload_n B dX8_traced_0 0 rfl rfl ?_
  refine fR_g_row B dX8_traced_1 ?_
  refine z_sipush B (774) dX8_traced_4 zc_sipush_774 ?_
  refine z_iconst B (3) dX8_traced_7 zc_iconst_3 ?_
  refine z_iload_n B dX8_traced_8 1 rfl rfl ?_
  refine z_imul B dX8_traced_9 hf (fun v9 hf => ?_)
  refine z_iadd B dX8_traced_10 hf (fun v10 hf => ?_)
  refine fR_l_row B dX8_traced_11 hf (fun v11 hf => ?_)
  exact z_ireturn B dX8_traced_12 hf
theorem dX8_isNext_0 : decode cX8_isNext 0 = .ok (.iload_n 1, 1) := by decide +kernel
theorem dX8_isNext_1 : decode cX8_isNext 1 = .ok (.ifCond .le 24, 3) := by decide +kernel
theorem dX8_isNext_4 : decode cX8_isNext 4 = .ok (.aload_n 0, 1) := by decide +kernel
theorem dX8_isNext_5 : decode cX8_isNext 5 = .ok (.iload_n 1, 1) := by decide +kernel
theorem dX8_isNext_6 : decode cX8_isNext 6 = .ok (.invokevirtual 238, 3) := by decide +kernel
theorem dX8_isNext_9 : decode cX8_isNext 9 = .ok (.aload_n 0, 1) := by decide +kernel
theorem dX8_isNext_10 : decode cX8_isNext 10 = .ok (.iload_n 1, 1) := by decide +kernel
theorem dX8_isNext_11 : decode cX8_isNext 11 = .ok (.iconst 1, 1) := by decide +kernel
theorem dX8_isNext_12 : decode cX8_isNext 12 = .ok (.isub, 1) := by decide +kernel
theorem dX8_isNext_13 : decode cX8_isNext 13 = .ok (.invokevirtual 238, 3) := by decide +kernel
theorem dX8_isNext_16 : decode cX8_isNext 16 = .ok (.iconst 1, 1) := by decide +kernel
theorem dX8_isNext_17 : decode cX8_isNext 17 = .ok (.iadd, 1) := by decide +kernel
theorem dX8_isNext_18 : decode cX8_isNext 18 = .ok (.if_icmp .ne 7, 3) := by decide +kernel
theorem dX8_isNext_21 : decode cX8_isNext 21 = .ok (.iconst 1, 1) := by decide +kernel
theorem dX8_isNext_22 : decode cX8_isNext 22 = .ok (.goto 4, 3) := by decide +kernel
theorem dX8_isNext_25 : decode cX8_isNext 25 = .ok (.iconst 0, 1) := by decide +kernel
theorem dX8_isNext_26 : decode cX8_isNext 26 = .ok (.ireturn, 1) := by decide +kernel
def mR_isNext_26 (N : Nat) (σ : ST) (x1 : Int32) (k0 : Int32) : Option (Int32 × ST) :=
  zBool k0 (some (k0, σ))
set_option maxRecDepth 20000 in
set_option maxHeartbeats 2000000 in
theorem tR_isNext_26 {adr : Nat → Nat} {cI cZ : ClassId} {X : zX} {q : Int32 × ST} (B : zC X 2 (wdR adr cI cZ) cX8_isNext RX8 (some .boolean) { frames := 1, cells := 0, slots := 0, locals := 21 }) (N : Nat) (σ : ST) (x1 : Int32) (k0 : Int32) (hf : mR_isNext_26 N σ x1 k0 = some q) : zJ X 2 (wdR adr cI cZ) (zi q) 26 [(0, .ref (adr 0)), (1, .int x1)] [.int k0] σ := by
  exact z_zreturn B dX8_isNext_26 hf
def mR_isNext_25 (N : Nat) (σ : ST) (x1 : Int32) : Option (Int32 × ST) :=
  mR_isNext_26 N σ x1 (0)
set_option maxRecDepth 20000 in
set_option maxHeartbeats 2000000 in
theorem tR_isNext_25 {adr : Nat → Nat} {cI cZ : ClassId} {X : zX} {q : Int32 × ST} (B : zC X 2 (wdR adr cI cZ) cX8_isNext RX8 (some .boolean) { frames := 1, cells := 0, slots := 0, locals := 21 }) (N : Nat) (σ : ST) (x1 : Int32) (hf : mR_isNext_25 N σ x1 = some q) : zJ X 2 (wdR adr cI cZ) (zi q) 25 [(0, .ref (adr 0)), (1, .int x1)] [] σ := by
  refine z_iconst B (0) dX8_isNext_25 zc_iconst_0 ?_
  exact tR_isNext_26 B N σ x1 (0) hf
def mR_isNext (N : Nat) (σ : ST) (x1 : Int32) : Option (Int32 × ST) :=
  if (x1 : Int32) ≤ 0 then
    mR_isNext_25 N σ x1
  else
    zCall (mR_traced N σ x1) fun v6 s6 =>
    zLet ((x1 : Int32) - (1)) fun v12 =>
    zCall (mR_traced N s6 v12) fun v13 s13 =>
    zLet ((v13 : Int32) + (1)) fun v17 =>
    if (v6 : Int32) = v17 then
      mR_isNext_26 N s13 x1 (1)
    else
      mR_isNext_25 N s13 x1
set_option maxRecDepth 20000 in
set_option maxHeartbeats 2000000 in
theorem cR_isNext {adr : Nat → Nat} {cI cZ : ClassId} {l : Launch} {D : va_G} {N : Nat} {σ : ST} {x1 : Int32} (q : Int32 × ST) (hf : mR_isNext N σ x1 = some q) : zM l D (wdR adr cI cZ) yX8_isNext cX8_isNext 2 (some .boolean) ({ frames := 1, cells := 0, slots := 0, locals := 21 }) [.ref (adr 0), .int x1] σ (zi q) := by
  refine zM_of sfR_ok rfl (Nat.le_of_ble_eq_true rfl) [(0, .ref (adr 0)), (1, .int x1)] rfl (fun X hX1 hX2 B => ?_)
  have B : zC X 2 (wdR adr cI cZ) cX8_isNext RX8 (some .boolean) { frames := 1, cells := 0, slots := 0, locals := 21 } := B
  refine z_iload_n B dX8_isNext_0 1 rfl rfl ?_
  refine z_if_le B 25 dX8_isNext_1 (by decide) hf (fun hf => ?_) (fun hf => ?_)
  · exact tR_isNext_25 B N σ x1 hf
  · refine z_aload_n B dX8_isNext_4 0 rfl rfl ?_
    refine z_iload_n B dX8_isNext_5 1 rfl rfl ?_
    refine z_callVi B (As := [.int x1]) kcV_X8_238 dX8_isNext_6 hf (fun q hq => cR_traced q hq) (wR_o (adr := adr) (cI := cI) (cZ := cZ)) rfl rfl rfl rfl (Nat.le_of_ble_eq_true rfl) rfl rfl ⟨Nat.le_of_ble_eq_true rfl, Nat.le_of_ble_eq_true rfl⟩ (fun v6 s6 hf => ?_)
    refine z_aload_n B dX8_isNext_9 0 rfl rfl ?_
    refine z_iload_n B dX8_isNext_10 1 rfl rfl ?_
    refine z_iconst B (1) dX8_isNext_11 zc_iconst_1 ?_
    refine z_isub B dX8_isNext_12 hf (fun v12 hf => ?_)
    refine z_callVi B (As := [.int v12]) kcV_X8_238 dX8_isNext_13 hf (fun q hq => cR_traced q hq) (wR_o (adr := adr) (cI := cI) (cZ := cZ)) rfl rfl rfl rfl (Nat.le_of_ble_eq_true rfl) rfl rfl ⟨Nat.le_of_ble_eq_true rfl, Nat.le_of_ble_eq_true rfl⟩ (fun v13 s13 hf => ?_)
    refine z_iconst B (1) dX8_isNext_16 zc_iconst_1 ?_
    refine z_iadd B dX8_isNext_17 hf (fun v17 hf => ?_)
    refine z_icmp_ne B 25 dX8_isNext_18 (by decide) hf (fun hf => ?_) (fun hf => ?_)
    · exact tR_isNext_25 B N s13 x1 hf
    · refine z_iconst B (1) dX8_isNext_21 zc_iconst_1 ?_
      refine z_goto B 26 dX8_isNext_22 (by decide) ?_
      exact tR_isNext_26 B N s13 x1 (1) hf
theorem dX8_piece_0 : decode cX8_piece 0 = .ok (.aload_n 0, 1) := by decide +kernel
theorem dX8_piece_1 : decode cX8_piece 1 = .ok (.iconst 0, 1) := by decide +kernel
theorem dX8_piece_2 : decode cX8_piece 2 = .ok (.putfield 67, 3) := by decide +kernel
theorem dX8_piece_5 : decode cX8_piece 5 = .ok (.iload_n 1, 1) := by decide +kernel
theorem dX8_piece_6 : decode cX8_piece 6 = .ok (.iconst (-1), 1) := by decide +kernel
theorem dX8_piece_7 : decode cX8_piece 7 = .ok (.if_icmp .lt 13, 3) := by decide +kernel
theorem dX8_piece_10 : decode cX8_piece 10 = .ok (.iload_n 2, 1) := by decide +kernel
theorem dX8_piece_11 : decode cX8_piece 11 = .ok (.i2l, 1) := by decide +kernel
theorem dX8_piece_12 : decode cX8_piece 12 = .ok (.lconst 0, 1) := by decide +kernel
theorem dX8_piece_13 : decode cX8_piece 13 = .ok (.lconst 1, 1) := by decide +kernel
theorem dX8_piece_14 : decode cX8_piece 14 = .ok (.invokestatic 71, 3) := by decide +kernel
theorem dX8_piece_17 : decode cX8_piece 17 = .ok (.ifCond .ne 5, 3) := by decide +kernel
theorem dX8_piece_20 : decode cX8_piece 20 = .ok (.iconst (-1), 1) := by decide +kernel
theorem dX8_piece_21 : decode cX8_piece 21 = .ok (.ireturn, 1) := by decide +kernel
theorem dX8_piece_22 : decode cX8_piece 22 = .ok (.iconst 0, 1) := by decide +kernel
theorem dX8_piece_23 : decode cX8_piece 23 = .ok (.istore_n 3, 1) := by decide +kernel
theorem dX8_piece_24 : decode cX8_piece 24 = .ok (.iconst 0, 1) := by decide +kernel
theorem dX8_piece_25 : decode cX8_piece 25 = .ok (.istore 4, 2) := by decide +kernel
theorem dX8_piece_27 : decode cX8_piece 27 = .ok (.iconst 0, 1) := by decide +kernel
theorem dX8_piece_28 : decode cX8_piece 28 = .ok (.istore 5, 2) := by decide +kernel
theorem dX8_piece_30 : decode cX8_piece 30 = .ok (.iconst 1, 1) := by decide +kernel
theorem dX8_piece_31 : decode cX8_piece 31 = .ok (.istore 6, 2) := by decide +kernel
theorem dX8_piece_33 : decode cX8_piece 33 = .ok (.iload 6, 2) := by decide +kernel
theorem dX8_piece_35 : decode cX8_piece 35 = .ok (.aload_n 0, 1) := by decide +kernel
theorem dX8_piece_36 : decode cX8_piece 36 = .ok (.getfield 9, 3) := by decide +kernel
theorem dX8_piece_39 : decode cX8_piece 39 = .ok (.bipush 22, 2) := by decide +kernel
theorem dX8_piece_41 : decode cX8_piece 41 = .ok (.iaload, 1) := by decide +kernel
theorem dX8_piece_42 : decode cX8_piece 42 = .ok (.if_icmp .gt 83, 3) := by decide +kernel
theorem dX8_piece_45 : decode cX8_piece 45 = .ok (.iload 6, 2) := by decide +kernel
theorem dX8_piece_47 : decode cX8_piece 47 = .ok (.aload_n 0, 1) := by decide +kernel
theorem dX8_piece_48 : decode cX8_piece 48 = .ok (.getfield 9, 3) := by decide +kernel
theorem dX8_piece_51 : decode cX8_piece 51 = .ok (.bipush 22, 2) := by decide +kernel
theorem dX8_piece_53 : decode cX8_piece 53 = .ok (.iaload, 1) := by decide +kernel
theorem dX8_piece_54 : decode cX8_piece 54 = .ok (.if_icmp .eq 12, 3) := by decide +kernel
theorem dX8_piece_57 : decode cX8_piece 57 = .ok (.aload_n 0, 1) := by decide +kernel
theorem dX8_piece_58 : decode cX8_piece 58 = .ok (.iload 6, 2) := by decide +kernel
theorem dX8_piece_60 : decode cX8_piece 60 = .ok (.invokevirtual 241, 3) := by decide +kernel
theorem dX8_piece_63 : decode cX8_piece 63 = .ok (.ifCond .ne 56, 3) := by decide +kernel
theorem dX8_piece_66 : decode cX8_piece 66 = .ok (.iload_n 3, 1) := by decide +kernel
theorem dX8_piece_67 : decode cX8_piece 67 = .ok (.iload_n 1, 1) := by decide +kernel
theorem dX8_piece_68 : decode cX8_piece 68 = .ok (.if_icmp .ne 22, 3) := by decide +kernel
theorem dX8_piece_71 : decode cX8_piece 71 = .ok (.iload_n 2, 1) := by decide +kernel
theorem dX8_piece_72 : decode cX8_piece 72 = .ok (.ifCond .ne 11, 3) := by decide +kernel
theorem dX8_piece_75 : decode cX8_piece 75 = .ok (.iload 6, 2) := by decide +kernel
theorem dX8_piece_77 : decode cX8_piece 77 = .ok (.iload 5, 2) := by decide +kernel
theorem dX8_piece_79 : decode cX8_piece 79 = .ok (.isub, 1) := by decide +kernel
theorem dX8_piece_80 : decode cX8_piece 80 = .ok (.goto 9, 3) := by decide +kernel
theorem dX8_piece_83 : decode cX8_piece 83 = .ok (.aload_n 0, 1) := by decide +kernel
theorem dX8_piece_84 : decode cX8_piece 84 = .ok (.iload 5, 2) := by decide +kernel
theorem dX8_piece_86 : decode cX8_piece 86 = .ok (.invokevirtual 238, 3) := by decide +kernel
theorem dX8_piece_89 : decode cX8_piece 89 = .ok (.ireturn, 1) := by decide +kernel
theorem dX8_piece_90 : decode cX8_piece 90 = .ok (.iinc 3 1, 3) := by decide +kernel
theorem dX8_piece_93 : decode cX8_piece 93 = .ok (.iload 6, 2) := by decide +kernel
theorem dX8_piece_95 : decode cX8_piece 95 = .ok (.iload 5, 2) := by decide +kernel
theorem dX8_piece_97 : decode cX8_piece 97 = .ok (.isub, 1) := by decide +kernel
theorem dX8_piece_98 : decode cX8_piece 98 = .ok (.iload 4, 2) := by decide +kernel
theorem dX8_piece_100 : decode cX8_piece 100 = .ok (.if_icmp .le 11, 3) := by decide +kernel
theorem dX8_piece_103 : decode cX8_piece 103 = .ok (.iload 6, 2) := by decide +kernel
theorem dX8_piece_105 : decode cX8_piece 105 = .ok (.iload 5, 2) := by decide +kernel
theorem dX8_piece_107 : decode cX8_piece 107 = .ok (.isub, 1) := by decide +kernel
theorem dX8_piece_108 : decode cX8_piece 108 = .ok (.goto 5, 3) := by decide +kernel
theorem dX8_piece_111 : decode cX8_piece 111 = .ok (.iload 4, 2) := by decide +kernel
theorem dX8_piece_113 : decode cX8_piece 113 = .ok (.istore 4, 2) := by decide +kernel
theorem dX8_piece_115 : decode cX8_piece 115 = .ok (.iload 6, 2) := by decide +kernel
theorem dX8_piece_117 : decode cX8_piece 117 = .ok (.istore 5, 2) := by decide +kernel
theorem dX8_piece_119 : decode cX8_piece 119 = .ok (.iinc 6 1, 3) := by decide +kernel
theorem dX8_piece_122 : decode cX8_piece 122 = .ok (.goto (-89), 3) := by decide +kernel
theorem dX8_piece_125 : decode cX8_piece 125 = .ok (.iload_n 1, 1) := by decide +kernel
theorem dX8_piece_126 : decode cX8_piece 126 = .ok (.iconst (-1), 1) := by decide +kernel
theorem dX8_piece_127 : decode cX8_piece 127 = .ok (.if_icmp .eq 7, 3) := by decide +kernel
theorem dX8_piece_130 : decode cX8_piece 130 = .ok (.iconst (-1), 1) := by decide +kernel
theorem dX8_piece_131 : decode cX8_piece 131 = .ok (.goto 13, 3) := by decide +kernel
theorem dX8_piece_134 : decode cX8_piece 134 = .ok (.iload_n 2, 1) := by decide +kernel
theorem dX8_piece_135 : decode cX8_piece 135 = .ok (.ifCond .ne 7, 3) := by decide +kernel
theorem dX8_piece_138 : decode cX8_piece 138 = .ok (.iload_n 3, 1) := by decide +kernel
theorem dX8_piece_139 : decode cX8_piece 139 = .ok (.goto 5, 3) := by decide +kernel
theorem dX8_piece_142 : decode cX8_piece 142 = .ok (.iload 4, 2) := by decide +kernel
theorem dX8_piece_144 : decode cX8_piece 144 = .ok (.ireturn, 1) := by decide +kernel
def mR_piece_144 (N : Nat) (σ : ST) (x1 : Int32) (x2 : Int32) (x3 : Int32) (x4 : Int32) (x5 : Int32) (x6 : Int32) (k0 : Int32) : Option (Int32 × ST) :=
  some (k0, σ)
set_option maxRecDepth 20000 in
set_option maxHeartbeats 2000000 in
theorem tR_piece_144 {adr : Nat → Nat} {cI cZ : ClassId} {X : zX} {q : Int32 × ST} (B : zC X 7 (wdR adr cI cZ) cX8_piece RX8 (some .int) { frames := 2, cells := 0, slots := 0, locals := 42 }) (N : Nat) (σ : ST) (x1 : Int32) (x2 : Int32) (x3 : Int32) (x4 : Int32) (x5 : Int32) (x6 : Int32) (k0 : Int32) (hf : mR_piece_144 N σ x1 x2 x3 x4 x5 x6 k0 = some q) : zJ X 7 (wdR adr cI cZ) (zi q) 144 [(0, .ref (adr 0)), (1, .int x1), (2, .int x2), (3, .int x3), (4, .int x4), (5, .int x5), (6, .int x6)] [.int k0] σ := by
  exact z_ireturn B dX8_piece_144 hf
def mR_piece_119 (N : Nat) (hd33 : ST → Int32 → Int32 → Int32 → Int32 → Int32 → Int32 → Option (Int32 × ST)) (σ : ST) (x1 : Int32) (x2 : Int32) (x3 : Int32) (x4 : Int32) (x5 : Int32) (x6 : Int32) : Option (Int32 × ST) :=
  zLet (x6 + (1)) fun v119 =>
  hd33 σ x1 x2 x3 x4 x5 v119
set_option maxRecDepth 20000 in
set_option maxHeartbeats 2000000 in
theorem tR_piece_119 {adr : Nat → Nat} {cI cZ : ClassId} {X : zX} {q : Int32 × ST} (B : zC X 7 (wdR adr cI cZ) cX8_piece RX8 (some .int) { frames := 2, cells := 0, slots := 0, locals := 42 }) (N : Nat) (hd33 : ST → Int32 → Int32 → Int32 → Int32 → Int32 → Int32 → Option (Int32 × ST)) (hh33 : ∀ (σ : ST) (x1 : Int32) (x2 : Int32) (x3 : Int32) (x4 : Int32) (x5 : Int32) (x6 : Int32), hd33 σ x1 x2 x3 x4 x5 x6 = some q → zJ X 7 (wdR adr cI cZ) (zi q) 33 [(0, .ref (adr 0)), (1, .int x1), (2, .int x2), (3, .int x3), (4, .int x4), (5, .int x5), (6, .int x6)] [] σ) (σ : ST) (x1 : Int32) (x2 : Int32) (x3 : Int32) (x4 : Int32) (x5 : Int32) (x6 : Int32) (hf : mR_piece_119 N hd33 σ x1 x2 x3 x4 x5 x6 = some q) : zJ X 7 (wdR adr cI cZ) (zi q) 119 [(0, .ref (adr 0)), (1, .int x1), (2, .int x2), (3, .int x3), (4, .int x4), (5, .int x5), (6, .int x6)] [] σ := by
  refine z_iinc B (1) 6 (fun v119 => [(6, .int v119), (0, .ref (adr 0)), (1, .int x1), (2, .int x2), (3, .int x3), (4, .int x4), (5, .int x5)]) dX8_piece_119 hf zc_iconst_1 rfl (Nat.le_of_ble_eq_true rfl) (fun _ => rfl) (fun v119 hf => ?_)
  refine z_goto B 33 dX8_piece_122 (by decide) ?_
  exact z_loc [1, 2, 3, 4, 5, 6, 0] _ rfl (hh33 σ x1 x2 x3 x4 x5 v119 hf)
def mR_piece_113 (N : Nat) (hd33 : ST → Int32 → Int32 → Int32 → Int32 → Int32 → Int32 → Option (Int32 × ST)) (σ : ST) (x1 : Int32) (x2 : Int32) (x3 : Int32) (x4 : Int32) (x5 : Int32) (x6 : Int32) (k0 : Int32) : Option (Int32 × ST) :=
  mR_piece_119 N hd33 σ x1 x2 x3 k0 x6 x6
set_option maxRecDepth 20000 in
set_option maxHeartbeats 2000000 in
theorem tR_piece_113 {adr : Nat → Nat} {cI cZ : ClassId} {X : zX} {q : Int32 × ST} (B : zC X 7 (wdR adr cI cZ) cX8_piece RX8 (some .int) { frames := 2, cells := 0, slots := 0, locals := 42 }) (N : Nat) (hd33 : ST → Int32 → Int32 → Int32 → Int32 → Int32 → Int32 → Option (Int32 × ST)) (hh33 : ∀ (σ : ST) (x1 : Int32) (x2 : Int32) (x3 : Int32) (x4 : Int32) (x5 : Int32) (x6 : Int32), hd33 σ x1 x2 x3 x4 x5 x6 = some q → zJ X 7 (wdR adr cI cZ) (zi q) 33 [(0, .ref (adr 0)), (1, .int x1), (2, .int x2), (3, .int x3), (4, .int x4), (5, .int x5), (6, .int x6)] [] σ) (σ : ST) (x1 : Int32) (x2 : Int32) (x3 : Int32) (x4 : Int32) (x5 : Int32) (x6 : Int32) (k0 : Int32) (hf : mR_piece_113 N hd33 σ x1 x2 x3 x4 x5 x6 k0 = some q) : zJ X 7 (wdR adr cI cZ) (zi q) 113 [(0, .ref (adr 0)), (1, .int x1), (2, .int x2), (3, .int x3), (4, .int x4), (5, .int x5), (6, .int x6)] [.int k0] σ := by
  refine z_istore B [(4, .int k0), (0, .ref (adr 0)), (1, .int x1), (2, .int x2), (3, .int x3), (5, .int x5), (6, .int x6)] dX8_piece_113 (Nat.le_of_ble_eq_true rfl) rfl ?_
  refine z_iload B dX8_piece_115 6 rfl ?_
  refine z_istore B [(5, .int x6), (4, .int k0), (0, .ref (adr 0)), (1, .int x1), (2, .int x2), (3, .int x3), (6, .int x6)] dX8_piece_117 (Nat.le_of_ble_eq_true rfl) rfl ?_
  exact z_loc [2, 3, 4, 5, 1, 0, 6] _ rfl (tR_piece_119 B N hd33 hh33 σ x1 x2 x3 k0 x6 x6 hf)
def mR_piece_89 (N : Nat) (σ : ST) (x1 : Int32) (x2 : Int32) (x3 : Int32) (x4 : Int32) (x5 : Int32) (x6 : Int32) (k0 : Int32) : Option (Int32 × ST) :=
  some (k0, σ)
set_option maxRecDepth 20000 in
set_option maxHeartbeats 2000000 in
theorem tR_piece_89 {adr : Nat → Nat} {cI cZ : ClassId} {X : zX} {q : Int32 × ST} (B : zC X 7 (wdR adr cI cZ) cX8_piece RX8 (some .int) { frames := 2, cells := 0, slots := 0, locals := 42 }) (N : Nat) (σ : ST) (x1 : Int32) (x2 : Int32) (x3 : Int32) (x4 : Int32) (x5 : Int32) (x6 : Int32) (k0 : Int32) (hf : mR_piece_89 N σ x1 x2 x3 x4 x5 x6 k0 = some q) : zJ X 7 (wdR adr cI cZ) (zi q) 89 [(0, .ref (adr 0)), (1, .int x1), (2, .int x2), (3, .int x3), (4, .int x4), (5, .int x5), (6, .int x6)] [.int k0] σ := by
  exact z_ireturn B dX8_piece_89 hf
def mR_piece_66 (N : Nat) (hd33 : ST → Int32 → Int32 → Int32 → Int32 → Int32 → Int32 → Option (Int32 × ST)) (σ : ST) (x1 : Int32) (x2 : Int32) (x3 : Int32) (x4 : Int32) (x5 : Int32) (x6 : Int32) : Option (Int32 × ST) :=
  if (x3 : Int32) = x1 then
    if (x2 : Int32) = 0 then
      zLet ((x6 : Int32) - x5) fun v79 =>
      mR_piece_89 N σ x1 x2 x3 x4 x5 x6 v79
    else
      zCall (mR_traced N σ x5) fun v86 s86 =>
      mR_piece_89 N s86 x1 x2 x3 x4 x5 x6 v86
  else
    zLet (x3 + (1)) fun v90 =>
    zLet ((x6 : Int32) - x5) fun v97 =>
    if (v97 : Int32) ≤ x4 then
      mR_piece_113 N hd33 σ x1 x2 v90 x4 x5 x6 x4
    else
      zLet ((x6 : Int32) - x5) fun v107 =>
      mR_piece_113 N hd33 σ x1 x2 v90 x4 x5 x6 v107
set_option maxRecDepth 20000 in
set_option maxHeartbeats 2000000 in
theorem tR_piece_66 {adr : Nat → Nat} {cI cZ : ClassId} {X : zX} {q : Int32 × ST} (B : zC X 7 (wdR adr cI cZ) cX8_piece RX8 (some .int) { frames := 2, cells := 0, slots := 0, locals := 42 }) (N : Nat) (hd33 : ST → Int32 → Int32 → Int32 → Int32 → Int32 → Int32 → Option (Int32 × ST)) (hh33 : ∀ (σ : ST) (x1 : Int32) (x2 : Int32) (x3 : Int32) (x4 : Int32) (x5 : Int32) (x6 : Int32), hd33 σ x1 x2 x3 x4 x5 x6 = some q → zJ X 7 (wdR adr cI cZ) (zi q) 33 [(0, .ref (adr 0)), (1, .int x1), (2, .int x2), (3, .int x3), (4, .int x4), (5, .int x5), (6, .int x6)] [] σ) (σ : ST) (x1 : Int32) (x2 : Int32) (x3 : Int32) (x4 : Int32) (x5 : Int32) (x6 : Int32) (hf : mR_piece_66 N hd33 σ x1 x2 x3 x4 x5 x6 = some q) : zJ X 7 (wdR adr cI cZ) (zi q) 66 [(0, .ref (adr 0)), (1, .int x1), (2, .int x2), (3, .int x3), (4, .int x4), (5, .int x5), (6, .int x6)] [] σ := by
  refine z_iload_n B dX8_piece_66 3 rfl rfl ?_
  refine z_iload_n B dX8_piece_67 1 rfl rfl ?_
  refine z_icmp_ne B 90 dX8_piece_68 (by decide) hf (fun hf => ?_) (fun hf => ?_)
  · refine z_iinc B (1) 3 (fun v90 => [(3, .int v90), (0, .ref (adr 0)), (1, .int x1), (2, .int x2), (4, .int x4), (5, .int x5), (6, .int x6)]) dX8_piece_90 hf zc_iconst_1 rfl (Nat.le_of_ble_eq_true rfl) (fun _ => rfl) (fun v90 hf => ?_)
    refine z_iload B dX8_piece_93 6 rfl ?_
    refine z_iload B dX8_piece_95 5 rfl ?_
    refine z_isub B dX8_piece_97 hf (fun v97 hf => ?_)
    refine z_iload B dX8_piece_98 4 rfl ?_
    refine z_icmp_le B 111 dX8_piece_100 (by decide) hf (fun hf => ?_) (fun hf => ?_)
    · refine z_iload B dX8_piece_111 4 rfl ?_
      exact z_loc [1, 2, 3, 0, 4, 5, 6] _ rfl (tR_piece_113 B N hd33 hh33 σ x1 x2 v90 x4 x5 x6 x4 hf)
    · refine z_iload B dX8_piece_103 6 rfl ?_
      refine z_iload B dX8_piece_105 5 rfl ?_
      refine z_isub B dX8_piece_107 hf (fun v107 hf => ?_)
      refine z_goto B 113 dX8_piece_108 (by decide) ?_
      exact z_loc [1, 2, 3, 0, 4, 5, 6] _ rfl (tR_piece_113 B N hd33 hh33 σ x1 x2 v90 x4 x5 x6 v107 hf)
  · refine z_iload_n B dX8_piece_71 2 rfl rfl ?_
    refine z_if_ne B 83 dX8_piece_72 (by decide) hf (fun hf => ?_) (fun hf => ?_)
    · refine z_aload_n B dX8_piece_83 0 rfl rfl ?_
      refine z_iload B dX8_piece_84 5 rfl ?_
      refine z_callVi B (As := [.int x5]) kcV_X8_238 dX8_piece_86 hf (fun q hq => cR_traced q hq) (wR_o (adr := adr) (cI := cI) (cZ := cZ)) rfl rfl rfl rfl (Nat.le_of_ble_eq_true rfl) rfl rfl ⟨Nat.le_of_ble_eq_true rfl, Nat.le_of_ble_eq_true rfl⟩ (fun v86 s86 hf => ?_)
      exact tR_piece_89 B N s86 x1 x2 x3 x4 x5 x6 v86 hf
    · refine z_iload B dX8_piece_75 6 rfl ?_
      refine z_iload B dX8_piece_77 5 rfl ?_
      refine z_isub B dX8_piece_79 hf (fun v79 hf => ?_)
      refine z_goto B 89 dX8_piece_80 (by decide) ?_
      exact tR_piece_89 B N σ x1 x2 x3 x4 x5 x6 v79 hf
def mR_piece_B33 (N : Nat) (hd33 : ST → Int32 → Int32 → Int32 → Int32 → Int32 → Int32 → Option (Int32 × ST)) (σ : ST) (x1 : Int32) (x2 : Int32) (x3 : Int32) (x4 : Int32) (x5 : Int32) (x6 : Int32) : Option (Int32 × ST) :=
  zGet (σ 1) 1974 (22) fun v41 =>
  if (v41 : Int32) < x6 then
    if (x1 : Int32) = (-1) then
      if (x2 : Int32) = 0 then
        mR_piece_144 N σ x1 x2 x3 x4 x5 x6 x3
      else
        mR_piece_144 N σ x1 x2 x3 x4 x5 x6 x4
    else
      mR_piece_144 N σ x1 x2 x3 x4 x5 x6 (-1)
  else
    zGet (σ 1) 1974 (22) fun v53 =>
    if (x6 : Int32) = v53 then
      mR_piece_66 N hd33 σ x1 x2 x3 x4 x5 x6
    else
      zCall (mR_isNext N σ x6) fun v60 s60 =>
      if (v60 : Int32) = 0 then
        mR_piece_66 N hd33 s60 x1 x2 x3 x4 x5 x6
      else
        mR_piece_119 N hd33 s60 x1 x2 x3 x4 x5 x6
def mR_piece_33 (N : Nat) : ST → Int32 → Int32 → Int32 → Int32 → Int32 → Int32 → Option (Int32 × ST) := zIt (mR_piece_B33 N) (fun _ _ _ _ _ _ _ => none) N
set_option maxRecDepth 20000 in
set_option maxHeartbeats 2000000 in
theorem tR_piece_33 {adr : Nat → Nat} {cI cZ : ClassId} {X : zX} {q : Int32 × ST} (B : zC X 7 (wdR adr cI cZ) cX8_piece RX8 (some .int) { frames := 2, cells := 0, slots := 0, locals := 42 }) (N : Nat) : ∀ (σ : ST) (x1 : Int32) (x2 : Int32) (x3 : Int32) (x4 : Int32) (x5 : Int32) (x6 : Int32), mR_piece_33 N σ x1 x2 x3 x4 x5 x6 = some q → zJ X 7 (wdR adr cI cZ) (zi q) 33 [(0, .ref (adr 0)), (1, .int x1), (2, .int x2), (3, .int x3), (4, .int x4), (5, .int x5), (6, .int x6)] [] σ := by
  refine zIt_ind (P := fun (hd : ST → Int32 → Int32 → Int32 → Int32 → Int32 → Int32 → Option (Int32 × ST)) => ∀ (σ : ST) (x1 : Int32) (x2 : Int32) (x3 : Int32) (x4 : Int32) (x5 : Int32) (x6 : Int32), hd σ x1 x2 x3 x4 x5 x6 = some q → zJ X 7 (wdR adr cI cZ) (zi q) 33 [(0, .ref (adr 0)), (1, .int x1), (2, .int x2), (3, .int x3), (4, .int x4), (5, .int x5), (6, .int x6)] [] σ) (fun _ _ _ _ _ _ _ hf => by cases hf) (fun hd33 hh33 => ?_) N
  intro σ x1 x2 x3 x4 x5 x6 hf
  refine z_iload B dX8_piece_33 6 rfl ?_
  refine z_aload_n B dX8_piece_35 0 rfl rfl ?_
  refine fR_g_row B dX8_piece_36 ?_
  refine z_bipush B (22) dX8_piece_39 zc_bipush_22 ?_
  refine fR_l_row B dX8_piece_41 hf (fun v41 hf => ?_)
  refine z_icmp_gt B 125 dX8_piece_42 (by decide) hf (fun hf => ?_) (fun hf => ?_)
  · refine z_iload_n B dX8_piece_125 1 rfl rfl ?_
    refine z_iconst B (-1) dX8_piece_126 zc_iconst_m1 ?_
    refine z_icmp_eq B 134 dX8_piece_127 (by decide) hf (fun hf => ?_) (fun hf => ?_)
    · refine z_iload_n B dX8_piece_134 2 rfl rfl ?_
      refine z_if_ne B 142 dX8_piece_135 (by decide) hf (fun hf => ?_) (fun hf => ?_)
      · refine z_iload B dX8_piece_142 4 rfl ?_
        exact tR_piece_144 B N σ x1 x2 x3 x4 x5 x6 x4 hf
      · refine z_iload_n B dX8_piece_138 3 rfl rfl ?_
        refine z_goto B 144 dX8_piece_139 (by decide) ?_
        exact tR_piece_144 B N σ x1 x2 x3 x4 x5 x6 x3 hf
    · refine z_iconst B (-1) dX8_piece_130 zc_iconst_m1 ?_
      refine z_goto B 144 dX8_piece_131 (by decide) ?_
      exact tR_piece_144 B N σ x1 x2 x3 x4 x5 x6 (-1) hf
  · refine z_iload B dX8_piece_45 6 rfl ?_
    refine z_aload_n B dX8_piece_47 0 rfl rfl ?_
    refine fR_g_row B dX8_piece_48 ?_
    refine z_bipush B (22) dX8_piece_51 zc_bipush_22 ?_
    refine fR_l_row B dX8_piece_53 hf (fun v53 hf => ?_)
    refine z_icmp_eq B 66 dX8_piece_54 (by decide) hf (fun hf => ?_) (fun hf => ?_)
    · exact tR_piece_66 B N hd33 hh33 σ x1 x2 x3 x4 x5 x6 hf
    · refine z_aload_n B dX8_piece_57 0 rfl rfl ?_
      refine z_iload B dX8_piece_58 6 rfl ?_
      refine z_callVi B (As := [.int x6]) kcV_X8_241 dX8_piece_60 hf (fun q hq => cR_isNext q hq) (wR_o (adr := adr) (cI := cI) (cZ := cZ)) rfl rfl rfl rfl (Nat.le_of_ble_eq_true rfl) rfl rfl ⟨Nat.le_of_ble_eq_true rfl, Nat.le_of_ble_eq_true rfl⟩ (fun v60 s60 hf => ?_)
      refine z_if_ne B 119 dX8_piece_63 (by decide) hf (fun hf => ?_) (fun hf => ?_)
      · exact tR_piece_119 B N hd33 hh33 s60 x1 x2 x3 x4 x5 x6 hf
      · exact tR_piece_66 B N hd33 hh33 s60 x1 x2 x3 x4 x5 x6 hf
def mR_piece_20 (N : Nat) (σ : ST) (x1 : Int32) (x2 : Int32) : Option (Int32 × ST) :=
  some ((-1), σ)
set_option maxRecDepth 20000 in
set_option maxHeartbeats 2000000 in
theorem tR_piece_20 {adr : Nat → Nat} {cI cZ : ClassId} {X : zX} {q : Int32 × ST} (B : zC X 7 (wdR adr cI cZ) cX8_piece RX8 (some .int) { frames := 2, cells := 0, slots := 0, locals := 42 }) (N : Nat) (σ : ST) (x1 : Int32) (x2 : Int32) (hf : mR_piece_20 N σ x1 x2 = some q) : zJ X 7 (wdR adr cI cZ) (zi q) 20 [(0, .ref (adr 0)), (1, .int x1), (2, .int x2)] [] σ := by
  refine z_iconst B (-1) dX8_piece_20 zc_iconst_m1 ?_
  exact z_ireturn B dX8_piece_21 hf
def mR_piece (N : Nat) (σ : ST) (x1 : Int32) (x2 : Int32) : Option (Int32 × ST) :=
  zLet (zUp σ 0 0 (0)) fun s2 =>
  if (x1 : Int32) < (-1) then
    mR_piece_20 N s2 x1 x2
  else
    zLet ((x2 : Int32).toInt64) fun v11 =>
    zCall (mR_in N s2 v11 (0) (1)) fun v14 s14 =>
    if (v14 : Int32) = 0 then
      mR_piece_20 N s14 x1 x2
    else
      mR_piece_33 N s14 x1 x2 (0) (0) (0) (1)
set_option maxRecDepth 20000 in
set_option maxHeartbeats 2000000 in
theorem cR_piece {adr : Nat → Nat} {cI cZ : ClassId} {l : Launch} {D : va_G} {N : Nat} {σ : ST} {x1 : Int32} {x2 : Int32} (q : Int32 × ST) (hf : mR_piece N σ x1 x2 = some q) : zM l D (wdR adr cI cZ) yX8_piece cX8_piece 7 (some .int) ({ frames := 2, cells := 0, slots := 0, locals := 42 }) [.ref (adr 0), .int x1, .int x2] σ (zi q) := by
  refine zM_of sfR_ok rfl (Nat.le_of_ble_eq_true rfl) [(0, .ref (adr 0)), (1, .int x1), (2, .int x2)] rfl (fun X hX1 hX2 B => ?_)
  have B : zC X 7 (wdR adr cI cZ) cX8_piece RX8 (some .int) { frames := 2, cells := 0, slots := 0, locals := 42 } := B
  refine z_aload_n B dX8_piece_0 0 rfl rfl ?_
  refine z_iconst B (0) dX8_piece_1 zc_iconst_0 ?_
  refine fR_p_thrown B dX8_piece_2 hf (fun s2 hf => ?_)
  refine z_iload_n B dX8_piece_5 1 rfl rfl ?_
  refine z_iconst B (-1) dX8_piece_6 zc_iconst_m1 ?_
  refine z_icmp_lt B 20 dX8_piece_7 (by decide) hf (fun hf => ?_) (fun hf => ?_)
  · exact tR_piece_20 B N s2 x1 x2 hf
  · refine z_iload_n B dX8_piece_10 2 rfl rfl ?_
    refine z_i2l B dX8_piece_11 hf (fun v11 hf => ?_)
    refine z_lconst B (0) dX8_piece_12 rfl ?_
    refine z_lconst B (1) dX8_piece_13 rfl ?_
    refine z_callSi B (As := [.long v11, .long (0), .long (1)]) kcS_X8_71 dX8_piece_14 hf (fun q hq => cR_in q hq) rfl rfl (Nat.le_of_ble_eq_true rfl) rfl rfl ⟨Nat.le_of_ble_eq_true rfl, Nat.le_of_ble_eq_true rfl⟩ (fun v14 s14 hf => ?_)
    refine z_if_ne B 22 dX8_piece_17 (by decide) hf (fun hf => ?_) (fun hf => ?_)
    · refine z_iconst B (0) dX8_piece_22 zc_iconst_0 ?_
      refine z_istore_n B [(3, .int (0)), (0, .ref (adr 0)), (1, .int x1), (2, .int x2)] dX8_piece_23 rfl (Nat.le_of_ble_eq_true rfl) rfl ?_
      refine z_iconst B (0) dX8_piece_24 zc_iconst_0 ?_
      refine z_istore B [(4, .int (0)), (3, .int (0)), (0, .ref (adr 0)), (1, .int x1), (2, .int x2)] dX8_piece_25 (Nat.le_of_ble_eq_true rfl) rfl ?_
      refine z_iconst B (0) dX8_piece_27 zc_iconst_0 ?_
      refine z_istore B [(5, .int (0)), (4, .int (0)), (3, .int (0)), (0, .ref (adr 0)), (1, .int x1), (2, .int x2)] dX8_piece_28 (Nat.le_of_ble_eq_true rfl) rfl ?_
      refine z_iconst B (1) dX8_piece_30 zc_iconst_1 ?_
      refine z_istore B [(6, .int (1)), (5, .int (0)), (4, .int (0)), (3, .int (0)), (0, .ref (adr 0)), (1, .int x1), (2, .int x2)] dX8_piece_31 (Nat.le_of_ble_eq_true rfl) rfl ?_
      exact z_loc [4, 5, 6, 3, 2, 1, 0] _ rfl (tR_piece_33 B N s14 x1 x2 (0) (0) (0) (1) hf)
    · exact tR_piece_20 B N s14 x1 x2 hf
theorem dX8_whose_0 : decode cX8_whose 0 = .ok (.aload_n 0, 1) := by decide +kernel
theorem dX8_whose_1 : decode cX8_whose 1 = .ok (.iconst 0, 1) := by decide +kernel
theorem dX8_whose_2 : decode cX8_whose 2 = .ok (.putfield 67, 3) := by decide +kernel
theorem dX8_whose_5 : decode cX8_whose 5 = .ok (.iload_n 1, 1) := by decide +kernel
theorem dX8_whose_6 : decode cX8_whose 6 = .ok (.i2l, 1) := by decide +kernel
theorem dX8_whose_7 : decode cX8_whose 7 = .ok (.lconst 0, 1) := by decide +kernel
theorem dX8_whose_8 : decode cX8_whose 8 = .ok (.aload_n 0, 1) := by decide +kernel
theorem dX8_whose_9 : decode cX8_whose 9 = .ok (.getfield 9, 3) := by decide +kernel
theorem dX8_whose_12 : decode cX8_whose 12 = .ok (.bipush 22, 2) := by decide +kernel
theorem dX8_whose_14 : decode cX8_whose 14 = .ok (.iaload, 1) := by decide +kernel
theorem dX8_whose_15 : decode cX8_whose 15 = .ok (.i2l, 1) := by decide +kernel
theorem dX8_whose_16 : decode cX8_whose 16 = .ok (.lconst 1, 1) := by decide +kernel
theorem dX8_whose_17 : decode cX8_whose 17 = .ok (.lsub, 1) := by decide +kernel
theorem dX8_whose_18 : decode cX8_whose 18 = .ok (.invokestatic 71, 3) := by decide +kernel
theorem dX8_whose_21 : decode cX8_whose 21 = .ok (.ifCond .eq 42, 3) := by decide +kernel
theorem dX8_whose_24 : decode cX8_whose 24 = .ok (.iload_n 2, 1) := by decide +kernel
theorem dX8_whose_25 : decode cX8_whose 25 = .ok (.i2l, 1) := by decide +kernel
theorem dX8_whose_26 : decode cX8_whose 26 = .ok (.lconst 0, 1) := by decide +kernel
theorem dX8_whose_27 : decode cX8_whose 27 = .ok (.lconst 1, 1) := by decide +kernel
theorem dX8_whose_28 : decode cX8_whose 28 = .ok (.invokestatic 71, 3) := by decide +kernel
theorem dX8_whose_31 : decode cX8_whose 31 = .ok (.ifCond .eq 32, 3) := by decide +kernel
theorem dX8_whose_34 : decode cX8_whose 34 = .ok (.aload_n 0, 1) := by decide +kernel
theorem dX8_whose_35 : decode cX8_whose 35 = .ok (.getfield 9, 3) := by decide +kernel
theorem dX8_whose_38 : decode cX8_whose 38 = .ok (.sipush 774, 3) := by decide +kernel
theorem dX8_whose_41 : decode cX8_whose 41 = .ok (.iconst 3, 1) := by decide +kernel
theorem dX8_whose_42 : decode cX8_whose 42 = .ok (.aload_n 0, 1) := by decide +kernel
theorem dX8_whose_43 : decode cX8_whose 43 = .ok (.getfield 9, 3) := by decide +kernel
theorem dX8_whose_46 : decode cX8_whose 46 = .ok (.bipush 22, 2) := by decide +kernel
theorem dX8_whose_48 : decode cX8_whose 48 = .ok (.iaload, 1) := by decide +kernel
theorem dX8_whose_49 : decode cX8_whose 49 = .ok (.iconst 1, 1) := by decide +kernel
theorem dX8_whose_50 : decode cX8_whose 50 = .ok (.isub, 1) := by decide +kernel
theorem dX8_whose_51 : decode cX8_whose 51 = .ok (.iload_n 1, 1) := by decide +kernel
theorem dX8_whose_52 : decode cX8_whose 52 = .ok (.isub, 1) := by decide +kernel
theorem dX8_whose_53 : decode cX8_whose 53 = .ok (.imul, 1) := by decide +kernel
theorem dX8_whose_54 : decode cX8_whose 54 = .ok (.iadd, 1) := by decide +kernel
theorem dX8_whose_55 : decode cX8_whose 55 = .ok (.iconst 1, 1) := by decide +kernel
theorem dX8_whose_56 : decode cX8_whose 56 = .ok (.iadd, 1) := by decide +kernel
theorem dX8_whose_57 : decode cX8_whose 57 = .ok (.iload_n 2, 1) := by decide +kernel
theorem dX8_whose_58 : decode cX8_whose 58 = .ok (.iadd, 1) := by decide +kernel
theorem dX8_whose_59 : decode cX8_whose 59 = .ok (.iaload, 1) := by decide +kernel
theorem dX8_whose_60 : decode cX8_whose 60 = .ok (.goto 4, 3) := by decide +kernel
theorem dX8_whose_63 : decode cX8_whose 63 = .ok (.iconst (-1), 1) := by decide +kernel
theorem dX8_whose_64 : decode cX8_whose 64 = .ok (.ireturn, 1) := by decide +kernel
def mR_whose_64 (N : Nat) (σ : ST) (x1 : Int32) (x2 : Int32) (k0 : Int32) : Option (Int32 × ST) :=
  some (k0, σ)
set_option maxRecDepth 20000 in
set_option maxHeartbeats 2000000 in
theorem tR_whose_64 {adr : Nat → Nat} {cI cZ : ClassId} {X : zX} {q : Int32 × ST} (B : zC X 3 (wdR adr cI cZ) cX8_whose RX8 (some .int) { frames := 1, cells := 0, slots := 0, locals := 25 }) (N : Nat) (σ : ST) (x1 : Int32) (x2 : Int32) (k0 : Int32) (hf : mR_whose_64 N σ x1 x2 k0 = some q) : zJ X 3 (wdR adr cI cZ) (zi q) 64 [(0, .ref (adr 0)), (1, .int x1), (2, .int x2)] [.int k0] σ := by
  exact z_ireturn B dX8_whose_64 hf
def mR_whose_63 (N : Nat) (σ : ST) (x1 : Int32) (x2 : Int32) : Option (Int32 × ST) :=
  mR_whose_64 N σ x1 x2 (-1)
set_option maxRecDepth 20000 in
set_option maxHeartbeats 2000000 in
theorem tR_whose_63 {adr : Nat → Nat} {cI cZ : ClassId} {X : zX} {q : Int32 × ST} (B : zC X 3 (wdR adr cI cZ) cX8_whose RX8 (some .int) { frames := 1, cells := 0, slots := 0, locals := 25 }) (N : Nat) (σ : ST) (x1 : Int32) (x2 : Int32) (hf : mR_whose_63 N σ x1 x2 = some q) : zJ X 3 (wdR adr cI cZ) (zi q) 63 [(0, .ref (adr 0)), (1, .int x1), (2, .int x2)] [] σ := by
  refine z_iconst B (-1) dX8_whose_63 zc_iconst_m1 ?_
  exact tR_whose_64 B N σ x1 x2 (-1) hf
def mR_whose (N : Nat) (σ : ST) (x1 : Int32) (x2 : Int32) : Option (Int32 × ST) :=
  zLet (zUp σ 0 0 (0)) fun s2 =>
  zLet ((x1 : Int32).toInt64) fun v6 =>
  zGet (s2 1) 1974 (22) fun v14 =>
  zLet ((v14 : Int32).toInt64) fun v15 =>
  zLet ((v15 : Int64) - (1)) fun v17 =>
  zCall (mR_in N s2 v6 (0) v17) fun v18 s18 =>
  if (v18 : Int32) = 0 then
    mR_whose_63 N s18 x1 x2
  else
    zLet ((x2 : Int32).toInt64) fun v25 =>
    zCall (mR_in N s18 v25 (0) (1)) fun v28 s28 =>
    if (v28 : Int32) = 0 then
      mR_whose_63 N s28 x1 x2
    else
      zGet (s28 1) 1974 (22) fun v48 =>
      zLet ((v48 : Int32) - (1)) fun v50 =>
      zLet ((v50 : Int32) - x1) fun v52 =>
      zLet (((3) : Int32) * v52) fun v53 =>
      zLet (((774) : Int32) + v53) fun v54 =>
      zLet ((v54 : Int32) + (1)) fun v56 =>
      zLet ((v56 : Int32) + x2) fun v58 =>
      zGet (s28 1) 1974 v58 fun v59 =>
      mR_whose_64 N s28 x1 x2 v59
set_option maxRecDepth 20000 in
set_option maxHeartbeats 2000000 in
theorem cR_whose {adr : Nat → Nat} {cI cZ : ClassId} {l : Launch} {D : va_G} {N : Nat} {σ : ST} {x1 : Int32} {x2 : Int32} (q : Int32 × ST) (hf : mR_whose N σ x1 x2 = some q) : zM l D (wdR adr cI cZ) yX8_whose cX8_whose 3 (some .int) ({ frames := 1, cells := 0, slots := 0, locals := 25 }) [.ref (adr 0), .int x1, .int x2] σ (zi q) := by
  refine zM_of sfR_ok rfl (Nat.le_of_ble_eq_true rfl) [(0, .ref (adr 0)), (1, .int x1), (2, .int x2)] rfl (fun X hX1 hX2 B => ?_)
  have B : zC X 3 (wdR adr cI cZ) cX8_whose RX8 (some .int) { frames := 1, cells := 0, slots := 0, locals := 25 } := B
  refine z_aload_n B dX8_whose_0 0 rfl rfl ?_
  refine z_iconst B (0) dX8_whose_1 zc_iconst_0 ?_
  refine fR_p_thrown B dX8_whose_2 hf (fun s2 hf => ?_)
  refine z_iload_n B dX8_whose_5 1 rfl rfl ?_
  refine z_i2l B dX8_whose_6 hf (fun v6 hf => ?_)
  refine z_lconst B (0) dX8_whose_7 rfl ?_
  refine z_aload_n B dX8_whose_8 0 rfl rfl ?_
  refine fR_g_row B dX8_whose_9 ?_
  refine z_bipush B (22) dX8_whose_12 zc_bipush_22 ?_
  refine fR_l_row B dX8_whose_14 hf (fun v14 hf => ?_)
  refine z_i2l B dX8_whose_15 hf (fun v15 hf => ?_)
  refine z_lconst B (1) dX8_whose_16 rfl ?_
  refine z_lsub B dX8_whose_17 hf (fun v17 hf => ?_)
  refine z_callSi B (As := [.long v6, .long (0), .long v17]) kcS_X8_71 dX8_whose_18 hf (fun q hq => cR_in q hq) rfl rfl (Nat.le_of_ble_eq_true rfl) rfl rfl ⟨Nat.le_of_ble_eq_true rfl, Nat.le_of_ble_eq_true rfl⟩ (fun v18 s18 hf => ?_)
  refine z_if_eq B 63 dX8_whose_21 (by decide) hf (fun hf => ?_) (fun hf => ?_)
  · exact tR_whose_63 B N s18 x1 x2 hf
  · refine z_iload_n B dX8_whose_24 2 rfl rfl ?_
    refine z_i2l B dX8_whose_25 hf (fun v25 hf => ?_)
    refine z_lconst B (0) dX8_whose_26 rfl ?_
    refine z_lconst B (1) dX8_whose_27 rfl ?_
    refine z_callSi B (As := [.long v25, .long (0), .long (1)]) kcS_X8_71 dX8_whose_28 hf (fun q hq => cR_in q hq) rfl rfl (Nat.le_of_ble_eq_true rfl) rfl rfl ⟨Nat.le_of_ble_eq_true rfl, Nat.le_of_ble_eq_true rfl⟩ (fun v28 s28 hf => ?_)
    refine z_if_eq B 63 dX8_whose_31 (by decide) hf (fun hf => ?_) (fun hf => ?_)
    · exact tR_whose_63 B N s28 x1 x2 hf
    · refine z_aload_n B dX8_whose_34 0 rfl rfl ?_
      refine fR_g_row B dX8_whose_35 ?_
      refine z_sipush B (774) dX8_whose_38 zc_sipush_774 ?_
      refine z_iconst B (3) dX8_whose_41 zc_iconst_3 ?_
      refine z_aload_n B dX8_whose_42 0 rfl rfl ?_
      refine fR_g_row B dX8_whose_43 ?_
      refine z_bipush B (22) dX8_whose_46 zc_bipush_22 ?_
      refine fR_l_row B dX8_whose_48 hf (fun v48 hf => ?_)
      refine z_iconst B (1) dX8_whose_49 zc_iconst_1 ?_
      refine z_isub B dX8_whose_50 hf (fun v50 hf => ?_)
      refine z_iload_n B dX8_whose_51 1 rfl rfl ?_
      refine z_isub B dX8_whose_52 hf (fun v52 hf => ?_)
      refine z_imul B dX8_whose_53 hf (fun v53 hf => ?_)
      refine z_iadd B dX8_whose_54 hf (fun v54 hf => ?_)
      refine z_iconst B (1) dX8_whose_55 zc_iconst_1 ?_
      refine z_iadd B dX8_whose_56 hf (fun v56 hf => ?_)
      refine z_iload_n B dX8_whose_57 2 rfl rfl ?_
      refine z_iadd B dX8_whose_58 hf (fun v58 hf => ?_)
      refine fR_l_row B dX8_whose_59 hf (fun v59 hf => ?_)
      refine z_goto B 64 dX8_whose_60 (by decide) ?_
      exact tR_whose_64 B N s28 x1 x2 v59 hf
theorem dX8_numberAt_0 : decode cX8_numberAt 0 = .ok (.aload_n 0, 1) := by decide +kernel
theorem dX8_numberAt_1 : decode cX8_numberAt 1 = .ok (.getfield 9, 3) := by decide +kernel
theorem dX8_numberAt_4 : decode cX8_numberAt 4 = .ok (.sipush 774, 3) := by decide +kernel
theorem dX8_numberAt_7 : decode cX8_numberAt 7 = .ok (.iconst 3, 1) := by decide +kernel
theorem dX8_numberAt_8 : decode cX8_numberAt 8 = .ok (.iload_n 1, 1) := by decide +kernel
theorem dX8_numberAt_9 : decode cX8_numberAt 9 = .ok (.imul, 1) := by decide +kernel
theorem dX8_numberAt_10 : decode cX8_numberAt 10 = .ok (.iadd, 1) := by decide +kernel
theorem dX8_numberAt_11 : decode cX8_numberAt 11 = .ok (.iconst 1, 1) := by decide +kernel
theorem dX8_numberAt_12 : decode cX8_numberAt 12 = .ok (.iadd, 1) := by decide +kernel
theorem dX8_numberAt_13 : decode cX8_numberAt 13 = .ok (.iaload, 1) := by decide +kernel
theorem dX8_numberAt_14 : decode cX8_numberAt 14 = .ok (.ireturn, 1) := by decide +kernel
def mR_numberAt (N : Nat) (σ : ST) (x1 : Int32) : Option (Int32 × ST) :=
  zLet (((3) : Int32) * x1) fun v9 =>
  zLet (((774) : Int32) + v9) fun v10 =>
  zLet ((v10 : Int32) + (1)) fun v12 =>
  zGet (σ 1) 1974 v12 fun v13 =>
  some (v13, σ)
set_option maxRecDepth 20000 in
set_option maxHeartbeats 2000000 in
theorem cR_numberAt {adr : Nat → Nat} {cI cZ : ClassId} {l : Launch} {D : va_G} {N : Nat} {σ : ST} {x1 : Int32} (q : Int32 × ST) (hf : mR_numberAt N σ x1 = some q) : zM l D (wdR adr cI cZ) yX8_numberAt cX8_numberAt 2 (some .int) ({ frames := 0, cells := 0, slots := 0, locals := 0 }) [.ref (adr 0), .int x1] σ (zi q) := by
  refine zM_of sfR_ok rfl (Nat.le_of_ble_eq_true rfl) [(0, .ref (adr 0)), (1, .int x1)] rfl (fun X hX1 hX2 B => ?_)
  have B : zC X 2 (wdR adr cI cZ) cX8_numberAt RX8 (some .int) { frames := 0, cells := 0, slots := 0, locals := 0 } := B
  refine z_aload_n B dX8_numberAt_0 0 rfl rfl ?_
  refine fR_g_row B dX8_numberAt_1 ?_
  refine z_sipush B (774) dX8_numberAt_4 zc_sipush_774 ?_
  refine z_iconst B (3) dX8_numberAt_7 zc_iconst_3 ?_
  refine z_iload_n B dX8_numberAt_8 1 rfl rfl ?_
  refine z_imul B dX8_numberAt_9 hf (fun v9 hf => ?_)
  refine z_iadd B dX8_numberAt_10 hf (fun v10 hf => ?_)
  refine z_iconst B (1) dX8_numberAt_11 zc_iconst_1 ?_
  refine z_iadd B dX8_numberAt_12 hf (fun v12 hf => ?_)
  refine fR_l_row B dX8_numberAt_13 hf (fun v13 hf => ?_)
  exact z_ireturn B dX8_numberAt_14 hf
