theorem dX8_comes_0 : decode cX8_comes 0 = .ok (.aload_n 0, 1) := by decide +kernel
theorem dX8_comes_1 : decode cX8_comes 1 = .ok (.invokevirtual 148, 3) := by decide +kernel
theorem dX8_comes_4 : decode cX8_comes 4 = .ok (.istore_n 2, 1) := by decide +kernel
theorem dX8_comes_5 : decode cX8_comes 5 = .ok (.iconst 0, 1) := by decide +kernel
theorem dX8_comes_6 : decode cX8_comes 6 = .ok (.istore_n 3, 1) := by decide +kernel
theorem dX8_comes_7 : decode cX8_comes 7 = .ok (.iload_n 3, 1) := by decide +kernel
theorem dX8_comes_8 : decode cX8_comes 8 = .ok (.bipush 12, 2) := by decide +kernel
theorem dX8_comes_10 : decode cX8_comes 10 = .ok (.if_icmp .ge 18, 3) := by decide +kernel
theorem dX8_comes_13 : decode cX8_comes 13 = .ok (.aload_n 0, 1) := by decide +kernel
theorem dX8_comes_14 : decode cX8_comes 14 = .ok (.getfield 9, 3) := by decide +kernel
theorem dX8_comes_17 : decode cX8_comes 17 = .ok (.iload_n 2, 1) := by decide +kernel
theorem dX8_comes_18 : decode cX8_comes 18 = .ok (.iload_n 3, 1) := by decide +kernel
theorem dX8_comes_19 : decode cX8_comes 19 = .ok (.iadd, 1) := by decide +kernel
theorem dX8_comes_20 : decode cX8_comes 20 = .ok (.iconst 0, 1) := by decide +kernel
theorem dX8_comes_21 : decode cX8_comes 21 = .ok (.iastore, 1) := by decide +kernel
theorem dX8_comes_22 : decode cX8_comes 22 = .ok (.iinc 3 1, 3) := by decide +kernel
theorem dX8_comes_25 : decode cX8_comes 25 = .ok (.goto (-18), 3) := by decide +kernel
theorem dX8_comes_28 : decode cX8_comes 28 = .ok (.aload_n 0, 1) := by decide +kernel
theorem dX8_comes_29 : decode cX8_comes 29 = .ok (.getfield 9, 3) := by decide +kernel
theorem dX8_comes_32 : decode cX8_comes 32 = .ok (.iload_n 2, 1) := by decide +kernel
theorem dX8_comes_33 : decode cX8_comes 33 = .ok (.iconst 1, 1) := by decide +kernel
theorem dX8_comes_34 : decode cX8_comes 34 = .ok (.iastore, 1) := by decide +kernel
theorem dX8_comes_35 : decode cX8_comes 35 = .ok (.aload_n 0, 1) := by decide +kernel
theorem dX8_comes_36 : decode cX8_comes 36 = .ok (.getfield 9, 3) := by decide +kernel
theorem dX8_comes_39 : decode cX8_comes 39 = .ok (.iload_n 2, 1) := by decide +kernel
theorem dX8_comes_40 : decode cX8_comes 40 = .ok (.iconst 1, 1) := by decide +kernel
theorem dX8_comes_41 : decode cX8_comes 41 = .ok (.iadd, 1) := by decide +kernel
theorem dX8_comes_42 : decode cX8_comes 42 = .ok (.aload_n 0, 1) := by decide +kernel
theorem dX8_comes_43 : decode cX8_comes 43 = .ok (.getfield 9, 3) := by decide +kernel
theorem dX8_comes_46 : decode cX8_comes 46 = .ok (.bipush 20, 2) := by decide +kernel
theorem dX8_comes_48 : decode cX8_comes 48 = .ok (.iaload, 1) := by decide +kernel
theorem dX8_comes_49 : decode cX8_comes 49 = .ok (.iastore, 1) := by decide +kernel
theorem dX8_comes_50 : decode cX8_comes 50 = .ok (.aload_n 0, 1) := by decide +kernel
theorem dX8_comes_51 : decode cX8_comes 51 = .ok (.getfield 9, 3) := by decide +kernel
theorem dX8_comes_54 : decode cX8_comes 54 = .ok (.bipush 20, 2) := by decide +kernel
theorem dX8_comes_56 : decode cX8_comes 56 = .ok (.dup2, 1) := by decide +kernel
theorem dX8_comes_57 : decode cX8_comes 57 = .ok (.iaload, 1) := by decide +kernel
theorem dX8_comes_58 : decode cX8_comes 58 = .ok (.iconst 1, 1) := by decide +kernel
theorem dX8_comes_59 : decode cX8_comes 59 = .ok (.iadd, 1) := by decide +kernel
theorem dX8_comes_60 : decode cX8_comes 60 = .ok (.iastore, 1) := by decide +kernel
theorem dX8_comes_61 : decode cX8_comes 61 = .ok (.aload_n 0, 1) := by decide +kernel
theorem dX8_comes_62 : decode cX8_comes 62 = .ok (.getfield 9, 3) := by decide +kernel
theorem dX8_comes_65 : decode cX8_comes 65 = .ok (.iload_n 2, 1) := by decide +kernel
theorem dX8_comes_66 : decode cX8_comes 66 = .ok (.iconst 2, 1) := by decide +kernel
theorem dX8_comes_67 : decode cX8_comes 67 = .ok (.iadd, 1) := by decide +kernel
theorem dX8_comes_68 : decode cX8_comes 68 = .ok (.iload_n 1, 1) := by decide +kernel
theorem dX8_comes_69 : decode cX8_comes 69 = .ok (.iastore, 1) := by decide +kernel
theorem dX8_comes_70 : decode cX8_comes 70 = .ok (.aload_n 0, 1) := by decide +kernel
theorem dX8_comes_71 : decode cX8_comes 71 = .ok (.getfield 9, 3) := by decide +kernel
theorem dX8_comes_74 : decode cX8_comes 74 = .ok (.iload_n 2, 1) := by decide +kernel
theorem dX8_comes_75 : decode cX8_comes 75 = .ok (.bipush 6, 2) := by decide +kernel
theorem dX8_comes_77 : decode cX8_comes 77 = .ok (.iadd, 1) := by decide +kernel
theorem dX8_comes_78 : decode cX8_comes 78 = .ok (.iload_n 1, 1) := by decide +kernel
theorem dX8_comes_79 : decode cX8_comes 79 = .ok (.iastore, 1) := by decide +kernel
theorem dX8_comes_80 : decode cX8_comes 80 = .ok (.aload_n 0, 1) := by decide +kernel
theorem dX8_comes_81 : decode cX8_comes 81 = .ok (.getfield 9, 3) := by decide +kernel
theorem dX8_comes_84 : decode cX8_comes 84 = .ok (.iload_n 2, 1) := by decide +kernel
theorem dX8_comes_85 : decode cX8_comes 85 = .ok (.bipush 7, 2) := by decide +kernel
theorem dX8_comes_87 : decode cX8_comes 87 = .ok (.iadd, 1) := by decide +kernel
theorem dX8_comes_88 : decode cX8_comes 88 = .ok (.iconst (-1), 1) := by decide +kernel
theorem dX8_comes_89 : decode cX8_comes 89 = .ok (.iastore, 1) := by decide +kernel
theorem dX8_comes_90 : decode cX8_comes 90 = .ok (.iload_n 2, 1) := by decide +kernel
theorem dX8_comes_91 : decode cX8_comes 91 = .ok (.ireturn, 1) := by decide +kernel
def mR_comes_B7 (N : Nat) (hd7 : ST → Int32 → Int32 → Int32 → Option (Int32 × ST)) (σ : ST) (x1 : Int32) (x2 : Int32) (x3 : Int32) : Option (Int32 × ST) :=
  if ((12) : Int32) ≤ x3 then
    zSet σ 1 1974 x2 (1) fun s34 =>
    zLet ((x2 : Int32) + (1)) fun v41 =>
    zGet (s34 1) 1974 (20) fun v48 =>
    zSet s34 1 1974 v41 v48 fun s49 =>
    zGet (s49 1) 1974 (20) fun v57 =>
    zLet ((v57 : Int32) + (1)) fun v59 =>
    zSet s49 1 1974 (20) v59 fun s60 =>
    zLet ((x2 : Int32) + (2)) fun v67 =>
    zSet s60 1 1974 v67 x1 fun s69 =>
    zLet ((x2 : Int32) + (6)) fun v77 =>
    zSet s69 1 1974 v77 x1 fun s79 =>
    zLet ((x2 : Int32) + (7)) fun v87 =>
    zSet s79 1 1974 v87 (-1) fun s89 =>
    some (x2, s89)
  else
    zLet ((x2 : Int32) + x3) fun v19 =>
    zSet σ 1 1974 v19 (0) fun s21 =>
    zLet (x3 + (1)) fun v22 =>
    hd7 s21 x1 x2 v22
def mR_comes_7 (N : Nat) : ST → Int32 → Int32 → Int32 → Option (Int32 × ST) := zIt (mR_comes_B7 N) (fun _ _ _ _ => none) N
set_option maxRecDepth 20000 in
set_option maxHeartbeats 2000000 in
theorem tR_comes_7 {adr : Nat → Nat} {cI cZ : ClassId} {X : zX} {q : Int32 × ST} (B : zC X 4 (wdR adr cI cZ) cX8_comes RX8 (some .int) { frames := 2, cells := 0, slots := 0, locals := 45 }) (N : Nat) : ∀ (σ : ST) (x1 : Int32) (x2 : Int32) (x3 : Int32), mR_comes_7 N σ x1 x2 x3 = some q → zJ X 4 (wdR adr cI cZ) (zi q) 7 [(0, .ref (adr 0)), (1, .int x1), (2, .int x2), (3, .int x3)] [] σ := by
  refine zIt_ind (P := fun (hd : ST → Int32 → Int32 → Int32 → Option (Int32 × ST)) => ∀ (σ : ST) (x1 : Int32) (x2 : Int32) (x3 : Int32), hd σ x1 x2 x3 = some q → zJ X 4 (wdR adr cI cZ) (zi q) 7 [(0, .ref (adr 0)), (1, .int x1), (2, .int x2), (3, .int x3)] [] σ) (fun _ _ _ _ hf => by cases hf) (fun hd7 hh7 => ?_) N
  intro σ x1 x2 x3 hf
  refine z_iload_n B dX8_comes_7 3 rfl rfl ?_
  refine z_bipush B (12) dX8_comes_8 zc_bipush_12 ?_
  refine z_icmp_ge B 28 dX8_comes_10 (by decide) hf (fun hf => ?_) (fun hf => ?_)
  · refine z_aload_n B dX8_comes_28 0 rfl rfl ?_
    refine fR_g_row B dX8_comes_29 ?_
    refine z_iload_n B dX8_comes_32 2 rfl rfl ?_
    refine z_iconst B (1) dX8_comes_33 zc_iconst_1 ?_
    refine fR_s_row B dX8_comes_34 hf (fun s34 hf => ?_)
    refine z_aload_n B dX8_comes_35 0 rfl rfl ?_
    refine fR_g_row B dX8_comes_36 ?_
    refine z_iload_n B dX8_comes_39 2 rfl rfl ?_
    refine z_iconst B (1) dX8_comes_40 zc_iconst_1 ?_
    refine z_iadd B dX8_comes_41 hf (fun v41 hf => ?_)
    refine z_aload_n B dX8_comes_42 0 rfl rfl ?_
    refine fR_g_row B dX8_comes_43 ?_
    refine z_bipush B (20) dX8_comes_46 zc_bipush_20 ?_
    refine fR_l_row B dX8_comes_48 hf (fun v48 hf => ?_)
    refine fR_s_row B dX8_comes_49 hf (fun s49 hf => ?_)
    refine z_aload_n B dX8_comes_50 0 rfl rfl ?_
    refine fR_g_row B dX8_comes_51 ?_
    refine z_bipush B (20) dX8_comes_54 zc_bipush_20 ?_
    refine z_dup2 B dX8_comes_56 rfl rfl ?_
    refine fR_l_row B dX8_comes_57 hf (fun v57 hf => ?_)
    refine z_iconst B (1) dX8_comes_58 zc_iconst_1 ?_
    refine z_iadd B dX8_comes_59 hf (fun v59 hf => ?_)
    refine fR_s_row B dX8_comes_60 hf (fun s60 hf => ?_)
    refine z_aload_n B dX8_comes_61 0 rfl rfl ?_
    refine fR_g_row B dX8_comes_62 ?_
    refine z_iload_n B dX8_comes_65 2 rfl rfl ?_
    refine z_iconst B (2) dX8_comes_66 zc_iconst_2 ?_
    refine z_iadd B dX8_comes_67 hf (fun v67 hf => ?_)
    refine z_iload_n B dX8_comes_68 1 rfl rfl ?_
    refine fR_s_row B dX8_comes_69 hf (fun s69 hf => ?_)
    refine z_aload_n B dX8_comes_70 0 rfl rfl ?_
    refine fR_g_row B dX8_comes_71 ?_
    refine z_iload_n B dX8_comes_74 2 rfl rfl ?_
    refine z_bipush B (6) dX8_comes_75 zc_bipush_6 ?_
    refine z_iadd B dX8_comes_77 hf (fun v77 hf => ?_)
    refine z_iload_n B dX8_comes_78 1 rfl rfl ?_
    refine fR_s_row B dX8_comes_79 hf (fun s79 hf => ?_)
    refine z_aload_n B dX8_comes_80 0 rfl rfl ?_
    refine fR_g_row B dX8_comes_81 ?_
    refine z_iload_n B dX8_comes_84 2 rfl rfl ?_
    refine z_bipush B (7) dX8_comes_85 zc_bipush_7 ?_
    refine z_iadd B dX8_comes_87 hf (fun v87 hf => ?_)
    refine z_iconst B (-1) dX8_comes_88 zc_iconst_m1 ?_
    refine fR_s_row B dX8_comes_89 hf (fun s89 hf => ?_)
    refine z_iload_n B dX8_comes_90 2 rfl rfl ?_
    exact z_ireturn B dX8_comes_91 hf
  · refine z_aload_n B dX8_comes_13 0 rfl rfl ?_
    refine fR_g_row B dX8_comes_14 ?_
    refine z_iload_n B dX8_comes_17 2 rfl rfl ?_
    refine z_iload_n B dX8_comes_18 3 rfl rfl ?_
    refine z_iadd B dX8_comes_19 hf (fun v19 hf => ?_)
    refine z_iconst B (0) dX8_comes_20 zc_iconst_0 ?_
    refine fR_s_row B dX8_comes_21 hf (fun s21 hf => ?_)
    refine z_iinc B (1) 3 (fun v22 => [(3, .int v22), (0, .ref (adr 0)), (1, .int x1), (2, .int x2)]) dX8_comes_22 hf zc_iconst_1 rfl (Nat.le_of_ble_eq_true rfl) (fun _ => rfl) (fun v22 hf => ?_)
    refine z_goto B 7 dX8_comes_25 (by decide) ?_
    exact z_loc [1, 2, 3, 0] _ rfl (hh7 s21 x1 x2 v22 hf)
def mR_comes (N : Nat) (σ : ST) (x1 : Int32) : Option (Int32 × ST) :=
  zCall (mR_newPlace N σ) fun v1 s1 =>
  mR_comes_7 N s1 x1 v1 (0)
set_option maxRecDepth 20000 in
set_option maxHeartbeats 2000000 in
theorem cR_comes {adr : Nat → Nat} {cI cZ : ClassId} {l : Launch} {D : va_G} {N : Nat} {σ : ST} {x1 : Int32} (q : Int32 × ST) (hf : mR_comes N σ x1 = some q) : zM l D (wdR adr cI cZ) yX8_comes cX8_comes 4 (some .int) ({ frames := 2, cells := 0, slots := 0, locals := 45 }) [.ref (adr 0), .int x1] σ (zi q) := by
  refine zM_of sfR_ok rfl (Nat.le_of_ble_eq_true rfl) [(0, .ref (adr 0)), (1, .int x1)] rfl (fun X hX1 hX2 B => ?_)
  have B : zC X 4 (wdR adr cI cZ) cX8_comes RX8 (some .int) { frames := 2, cells := 0, slots := 0, locals := 45 } := B
  refine z_aload_n B dX8_comes_0 0 rfl rfl ?_
  refine z_callVi B (As := []) kcV_X8_148 dX8_comes_1 hf (fun q hq => cR_newPlace q hq) (wR_o (adr := adr) (cI := cI) (cZ := cZ)) rfl rfl rfl rfl (Nat.le_of_ble_eq_true rfl) rfl rfl ⟨Nat.le_of_ble_eq_true rfl, Nat.le_of_ble_eq_true rfl⟩ (fun v1 s1 hf => ?_)
  refine z_istore_n B [(2, .int v1), (0, .ref (adr 0)), (1, .int x1)] dX8_comes_4 rfl (Nat.le_of_ble_eq_true rfl) rfl ?_
  refine z_iconst B (0) dX8_comes_5 zc_iconst_0 ?_
  refine z_istore_n B [(3, .int (0)), (2, .int v1), (0, .ref (adr 0)), (1, .int x1)] dX8_comes_6 rfl (Nat.le_of_ble_eq_true rfl) rfl ?_
  exact z_loc [2, 3, 1, 0] _ rfl (tR_comes_7 B N s1 x1 v1 (0) hf)
theorem dX8_size_0 : decode cX8_size 0 = .ok (.iload_n 0, 1) := by decide +kernel
theorem dX8_size_1 : decode cX8_size 1 = .ok (.ifCond .ge 8, 3) := by decide +kernel
theorem dX8_size_4 : decode cX8_size 4 = .ok (.iload_n 0, 1) := by decide +kernel
theorem dX8_size_5 : decode cX8_size 5 = .ok (.ineg, 1) := by decide +kernel
theorem dX8_size_6 : decode cX8_size 6 = .ok (.goto 4, 3) := by decide +kernel
theorem dX8_size_9 : decode cX8_size 9 = .ok (.iload_n 0, 1) := by decide +kernel
theorem dX8_size_10 : decode cX8_size 10 = .ok (.ireturn, 1) := by decide +kernel
def mR_size_10 (N : Nat) (σ : ST) (x0 : Int32) (k0 : Int32) : Option (Int32 × ST) :=
  some (k0, σ)
set_option maxRecDepth 20000 in
set_option maxHeartbeats 2000000 in
theorem tR_size_10 {adr : Nat → Nat} {cI cZ : ClassId} {X : zX} {q : Int32 × ST} (B : zC X 1 (wdR adr cI cZ) cX8_size RX8 (some .int) { frames := 0, cells := 0, slots := 0, locals := 0 }) (N : Nat) (σ : ST) (x0 : Int32) (k0 : Int32) (hf : mR_size_10 N σ x0 k0 = some q) : zJ X 1 (wdR adr cI cZ) (zi q) 10 [(0, .int x0)] [.int k0] σ := by
  exact z_ireturn B dX8_size_10 hf
def mR_size (N : Nat) (σ : ST) (x0 : Int32) : Option (Int32 × ST) :=
  if (0 : Int32) ≤ x0 then
    mR_size_10 N σ x0 x0
  else
    zLet (-(x0 : Int32)) fun v5 =>
    mR_size_10 N σ x0 v5
set_option maxRecDepth 20000 in
set_option maxHeartbeats 2000000 in
theorem cR_size {adr : Nat → Nat} {cI cZ : ClassId} {l : Launch} {D : va_G} {N : Nat} {σ : ST} {x0 : Int32} (q : Int32 × ST) (hf : mR_size N σ x0 = some q) : zM l D (wdR adr cI cZ) yX8_size cX8_size 1 (some .int) ({ frames := 0, cells := 0, slots := 0, locals := 0 }) [.int x0] σ (zi q) := by
  refine zM_of sfR_ok rfl (Nat.le_of_ble_eq_true rfl) [(0, .int x0)] rfl (fun X hX1 hX2 B => ?_)
  have B : zC X 1 (wdR adr cI cZ) cX8_size RX8 (some .int) { frames := 0, cells := 0, slots := 0, locals := 0 } := B
  refine z_iload_n B dX8_size_0 0 rfl rfl ?_
  refine z_if_ge B 9 dX8_size_1 (by decide) hf (fun hf => ?_) (fun hf => ?_)
  · refine z_iload_n B dX8_size_9 0 rfl rfl ?_
    exact tR_size_10 B N σ x0 x0 hf
  · refine z_iload_n B dX8_size_4 0 rfl rfl ?_
    refine z_ineg B dX8_size_5 hf (fun v5 hf => ?_)
    refine z_goto B 10 dX8_size_6 (by decide) ?_
    exact tR_size_10 B N σ x0 v5 hf
theorem dX8_pairedBy_0 : decode cX8_pairedBy 0 = .ok (.iconst (-1), 1) := by decide +kernel
theorem dX8_pairedBy_1 : decode cX8_pairedBy 1 = .ok (.istore_n 2, 1) := by decide +kernel
theorem dX8_pairedBy_2 : decode cX8_pairedBy 2 = .ok (.aload_n 0, 1) := by decide +kernel
theorem dX8_pairedBy_3 : decode cX8_pairedBy 3 = .ok (.getfield 9, 3) := by decide +kernel
theorem dX8_pairedBy_6 : decode cX8_pairedBy 6 = .ok (.iconst 4, 1) := by decide +kernel
theorem dX8_pairedBy_7 : decode cX8_pairedBy 7 = .ok (.iaload, 1) := by decide +kernel
theorem dX8_pairedBy_8 : decode cX8_pairedBy 8 = .ok (.iconst 1, 1) := by decide +kernel
theorem dX8_pairedBy_9 : decode cX8_pairedBy 9 = .ok (.iadd, 1) := by decide +kernel
theorem dX8_pairedBy_10 : decode cX8_pairedBy 10 = .ok (.istore_n 3, 1) := by decide +kernel
theorem dX8_pairedBy_11 : decode cX8_pairedBy 11 = .ok (.iconst 0, 1) := by decide +kernel
theorem dX8_pairedBy_12 : decode cX8_pairedBy 12 = .ok (.istore 4, 2) := by decide +kernel
theorem dX8_pairedBy_14 : decode cX8_pairedBy 14 = .ok (.iload 4, 2) := by decide +kernel
theorem dX8_pairedBy_16 : decode cX8_pairedBy 16 = .ok (.bipush 6, 2) := by decide +kernel
theorem dX8_pairedBy_18 : decode cX8_pairedBy 18 = .ok (.if_icmp .ge 75, 3) := by decide +kernel
theorem dX8_pairedBy_21 : decode cX8_pairedBy 21 = .ok (.iload 4, 2) := by decide +kernel
theorem dX8_pairedBy_23 : decode cX8_pairedBy 23 = .ok (.invokestatic 89, 3) := by decide +kernel
theorem dX8_pairedBy_26 : decode cX8_pairedBy 26 = .ok (.istore 5, 2) := by decide +kernel
theorem dX8_pairedBy_28 : decode cX8_pairedBy 28 = .ok (.aload_n 0, 1) := by decide +kernel
theorem dX8_pairedBy_29 : decode cX8_pairedBy 29 = .ok (.getfield 9, 3) := by decide +kernel
theorem dX8_pairedBy_32 : decode cX8_pairedBy 32 = .ok (.iload 5, 2) := by decide +kernel
theorem dX8_pairedBy_34 : decode cX8_pairedBy 34 = .ok (.iaload, 1) := by decide +kernel
theorem dX8_pairedBy_35 : decode cX8_pairedBy 35 = .ok (.iconst 1, 1) := by decide +kernel
theorem dX8_pairedBy_36 : decode cX8_pairedBy 36 = .ok (.if_icmp .ne 51, 3) := by decide +kernel
theorem dX8_pairedBy_39 : decode cX8_pairedBy 39 = .ok (.aload_n 0, 1) := by decide +kernel
theorem dX8_pairedBy_40 : decode cX8_pairedBy 40 = .ok (.getfield 9, 3) := by decide +kernel
theorem dX8_pairedBy_43 : decode cX8_pairedBy 43 = .ok (.iload 5, 2) := by decide +kernel
theorem dX8_pairedBy_45 : decode cX8_pairedBy 45 = .ok (.iconst 3, 1) := by decide +kernel
theorem dX8_pairedBy_46 : decode cX8_pairedBy 46 = .ok (.iadd, 1) := by decide +kernel
theorem dX8_pairedBy_47 : decode cX8_pairedBy 47 = .ok (.iaload, 1) := by decide +kernel
theorem dX8_pairedBy_48 : decode cX8_pairedBy 48 = .ok (.ifCond .ne 39, 3) := by decide +kernel
theorem dX8_pairedBy_51 : decode cX8_pairedBy 51 = .ok (.iload_n 1, 1) := by decide +kernel
theorem dX8_pairedBy_52 : decode cX8_pairedBy 52 = .ok (.aload_n 0, 1) := by decide +kernel
theorem dX8_pairedBy_53 : decode cX8_pairedBy 53 = .ok (.getfield 9, 3) := by decide +kernel
theorem dX8_pairedBy_56 : decode cX8_pairedBy 56 = .ok (.iload 5, 2) := by decide +kernel
theorem dX8_pairedBy_58 : decode cX8_pairedBy 58 = .ok (.iconst 2, 1) := by decide +kernel
theorem dX8_pairedBy_59 : decode cX8_pairedBy 59 = .ok (.iadd, 1) := by decide +kernel
theorem dX8_pairedBy_60 : decode cX8_pairedBy 60 = .ok (.iaload, 1) := by decide +kernel
theorem dX8_pairedBy_61 : decode cX8_pairedBy 61 = .ok (.isub, 1) := by decide +kernel
theorem dX8_pairedBy_62 : decode cX8_pairedBy 62 = .ok (.invokestatic 145, 3) := by decide +kernel
theorem dX8_pairedBy_65 : decode cX8_pairedBy 65 = .ok (.iload_n 3, 1) := by decide +kernel
theorem dX8_pairedBy_66 : decode cX8_pairedBy 66 = .ok (.if_icmp .ge 21, 3) := by decide +kernel
theorem dX8_pairedBy_69 : decode cX8_pairedBy 69 = .ok (.iload 5, 2) := by decide +kernel
theorem dX8_pairedBy_71 : decode cX8_pairedBy 71 = .ok (.istore_n 2, 1) := by decide +kernel
theorem dX8_pairedBy_72 : decode cX8_pairedBy 72 = .ok (.iload_n 1, 1) := by decide +kernel
theorem dX8_pairedBy_73 : decode cX8_pairedBy 73 = .ok (.aload_n 0, 1) := by decide +kernel
theorem dX8_pairedBy_74 : decode cX8_pairedBy 74 = .ok (.getfield 9, 3) := by decide +kernel
theorem dX8_pairedBy_77 : decode cX8_pairedBy 77 = .ok (.iload 5, 2) := by decide +kernel
theorem dX8_pairedBy_79 : decode cX8_pairedBy 79 = .ok (.iconst 2, 1) := by decide +kernel
theorem dX8_pairedBy_80 : decode cX8_pairedBy 80 = .ok (.iadd, 1) := by decide +kernel
theorem dX8_pairedBy_81 : decode cX8_pairedBy 81 = .ok (.iaload, 1) := by decide +kernel
theorem dX8_pairedBy_82 : decode cX8_pairedBy 82 = .ok (.isub, 1) := by decide +kernel
theorem dX8_pairedBy_83 : decode cX8_pairedBy 83 = .ok (.invokestatic 145, 3) := by decide +kernel
theorem dX8_pairedBy_86 : decode cX8_pairedBy 86 = .ok (.istore_n 3, 1) := by decide +kernel
theorem dX8_pairedBy_87 : decode cX8_pairedBy 87 = .ok (.iinc 4 1, 3) := by decide +kernel
theorem dX8_pairedBy_90 : decode cX8_pairedBy 90 = .ok (.goto (-76), 3) := by decide +kernel
theorem dX8_pairedBy_93 : decode cX8_pairedBy 93 = .ok (.iload_n 2, 1) := by decide +kernel
theorem dX8_pairedBy_94 : decode cX8_pairedBy 94 = .ok (.ireturn, 1) := by decide +kernel
def mR_pairedBy_87 (N : Nat) (hd14 : ST → Int32 → Int32 → Int32 → Int32 → Option (Int32 × ST)) (σ : ST) (x1 : Int32) (x2 : Int32) (x3 : Int32) (x4 : Int32) (x5 : Int32) : Option (Int32 × ST) :=
  zLet (x4 + (1)) fun v87 =>
  hd14 σ x1 x2 x3 v87
set_option maxRecDepth 20000 in
set_option maxHeartbeats 2000000 in
theorem tR_pairedBy_87 {adr : Nat → Nat} {cI cZ : ClassId} {X : zX} {q : Int32 × ST} (B : zC X 6 (wdR adr cI cZ) cX8_pairedBy RX8 (some .int) { frames := 1, cells := 0, slots := 0, locals := 20 }) (N : Nat) (hd14 : ST → Int32 → Int32 → Int32 → Int32 → Option (Int32 × ST)) (hh14 : ∀ (σ : ST) (x1 : Int32) (x2 : Int32) (x3 : Int32) (x4 : Int32), hd14 σ x1 x2 x3 x4 = some q → zJ X 6 (wdR adr cI cZ) (zi q) 14 [(0, .ref (adr 0)), (1, .int x1), (2, .int x2), (3, .int x3), (4, .int x4)] [] σ) (σ : ST) (x1 : Int32) (x2 : Int32) (x3 : Int32) (x4 : Int32) (x5 : Int32) (hf : mR_pairedBy_87 N hd14 σ x1 x2 x3 x4 x5 = some q) : zJ X 6 (wdR adr cI cZ) (zi q) 87 [(0, .ref (adr 0)), (1, .int x1), (2, .int x2), (3, .int x3), (4, .int x4), (5, .int x5)] [] σ := by
  refine z_iinc B (1) 4 (fun v87 => [(4, .int v87), (0, .ref (adr 0)), (1, .int x1), (2, .int x2), (3, .int x3), (5, .int x5)]) dX8_pairedBy_87 hf zc_iconst_1 rfl (Nat.le_of_ble_eq_true rfl) (fun _ => rfl) (fun v87 hf => ?_)
  refine z_goto B 14 dX8_pairedBy_90 (by decide) ?_
  exact z_loc [1, 2, 3, 4, 0] _ rfl (hh14 σ x1 x2 x3 v87 hf)
def mR_pairedBy_B14 (N : Nat) (hd14 : ST → Int32 → Int32 → Int32 → Int32 → Option (Int32 × ST)) (σ : ST) (x1 : Int32) (x2 : Int32) (x3 : Int32) (x4 : Int32) : Option (Int32 × ST) :=
  if ((6) : Int32) ≤ x4 then
    some (x2, σ)
  else
    zCall (mR_streamAt N σ x4) fun v23 s23 =>
    zGet (s23 1) 1974 v23 fun v34 =>
    if (v34 : Int32) = (1) then
      zLet ((v23 : Int32) + (3)) fun v46 =>
      zGet (s23 1) 1974 v46 fun v47 =>
      if (v47 : Int32) = 0 then
        zLet ((v23 : Int32) + (2)) fun v59 =>
        zGet (s23 1) 1974 v59 fun v60 =>
        zLet ((x1 : Int32) - v60) fun v61 =>
        zCall (mR_size N s23 v61) fun v62 s62 =>
        if (x3 : Int32) ≤ v62 then
          mR_pairedBy_87 N hd14 s62 x1 x2 x3 x4 v23
        else
          zLet ((v23 : Int32) + (2)) fun v80 =>
          zGet (s62 1) 1974 v80 fun v81 =>
          zLet ((x1 : Int32) - v81) fun v82 =>
          zCall (mR_size N s62 v82) fun v83 s83 =>
          mR_pairedBy_87 N hd14 s83 x1 v23 v83 x4 v23
      else
        mR_pairedBy_87 N hd14 s23 x1 x2 x3 x4 v23
    else
      mR_pairedBy_87 N hd14 s23 x1 x2 x3 x4 v23
def mR_pairedBy_14 (N : Nat) : ST → Int32 → Int32 → Int32 → Int32 → Option (Int32 × ST) := zIt (mR_pairedBy_B14 N) (fun _ _ _ _ _ => none) N
set_option maxRecDepth 20000 in
set_option maxHeartbeats 2000000 in
theorem tR_pairedBy_14 {adr : Nat → Nat} {cI cZ : ClassId} {X : zX} {q : Int32 × ST} (B : zC X 6 (wdR adr cI cZ) cX8_pairedBy RX8 (some .int) { frames := 1, cells := 0, slots := 0, locals := 20 }) (N : Nat) : ∀ (σ : ST) (x1 : Int32) (x2 : Int32) (x3 : Int32) (x4 : Int32), mR_pairedBy_14 N σ x1 x2 x3 x4 = some q → zJ X 6 (wdR adr cI cZ) (zi q) 14 [(0, .ref (adr 0)), (1, .int x1), (2, .int x2), (3, .int x3), (4, .int x4)] [] σ := by
  refine zIt_ind (P := fun (hd : ST → Int32 → Int32 → Int32 → Int32 → Option (Int32 × ST)) => ∀ (σ : ST) (x1 : Int32) (x2 : Int32) (x3 : Int32) (x4 : Int32), hd σ x1 x2 x3 x4 = some q → zJ X 6 (wdR adr cI cZ) (zi q) 14 [(0, .ref (adr 0)), (1, .int x1), (2, .int x2), (3, .int x3), (4, .int x4)] [] σ) (fun _ _ _ _ _ hf => by cases hf) (fun hd14 hh14 => ?_) N
  intro σ x1 x2 x3 x4 hf
  refine z_iload B dX8_pairedBy_14 4 rfl ?_
  refine z_bipush B (6) dX8_pairedBy_16 zc_bipush_6 ?_
  refine z_icmp_ge B 93 dX8_pairedBy_18 (by decide) hf (fun hf => ?_) (fun hf => ?_)
  · refine z_iload_n B dX8_pairedBy_93 2 rfl rfl ?_
    exact z_ireturn B dX8_pairedBy_94 hf
  · refine z_iload B dX8_pairedBy_21 4 rfl ?_
    refine z_callSi B (As := [.int x4]) kcS_X8_89 dX8_pairedBy_23 hf (fun q hq => cR_streamAt q hq) rfl rfl (Nat.le_of_ble_eq_true rfl) rfl rfl ⟨Nat.le_of_ble_eq_true rfl, Nat.le_of_ble_eq_true rfl⟩ (fun v23 s23 hf => ?_)
    refine z_istore B [(5, .int v23), (0, .ref (adr 0)), (1, .int x1), (2, .int x2), (3, .int x3), (4, .int x4)] dX8_pairedBy_26 (Nat.le_of_ble_eq_true rfl) rfl ?_
    refine z_aload_n B dX8_pairedBy_28 1 rfl rfl ?_
    refine fR_g_row B dX8_pairedBy_29 ?_
    refine z_iload B dX8_pairedBy_32 0 rfl ?_
    refine fR_l_row B dX8_pairedBy_34 hf (fun v34 hf => ?_)
    refine z_iconst B (1) dX8_pairedBy_35 zc_iconst_1 ?_
    refine z_icmp_ne B 87 dX8_pairedBy_36 (by decide) hf (fun hf => ?_) (fun hf => ?_)
    · exact z_loc [1, 2, 3, 4, 5, 0] _ rfl (tR_pairedBy_87 B N hd14 hh14 s23 x1 x2 x3 x4 v23 hf)
    · refine z_aload_n B dX8_pairedBy_39 1 rfl rfl ?_
      refine fR_g_row B dX8_pairedBy_40 ?_
      refine z_iload B dX8_pairedBy_43 0 rfl ?_
      refine z_iconst B (3) dX8_pairedBy_45 zc_iconst_3 ?_
      refine z_iadd B dX8_pairedBy_46 hf (fun v46 hf => ?_)
      refine fR_l_row B dX8_pairedBy_47 hf (fun v47 hf => ?_)
      refine z_if_ne B 87 dX8_pairedBy_48 (by decide) hf (fun hf => ?_) (fun hf => ?_)
      · exact z_loc [1, 2, 3, 4, 5, 0] _ rfl (tR_pairedBy_87 B N hd14 hh14 s23 x1 x2 x3 x4 v23 hf)
      · refine z_iload_n B dX8_pairedBy_51 2 rfl rfl ?_
        refine z_aload_n B dX8_pairedBy_52 1 rfl rfl ?_
        refine fR_g_row B dX8_pairedBy_53 ?_
        refine z_iload B dX8_pairedBy_56 0 rfl ?_
        refine z_iconst B (2) dX8_pairedBy_58 zc_iconst_2 ?_
        refine z_iadd B dX8_pairedBy_59 hf (fun v59 hf => ?_)
        refine fR_l_row B dX8_pairedBy_60 hf (fun v60 hf => ?_)
        refine z_isub B dX8_pairedBy_61 hf (fun v61 hf => ?_)
        refine z_callSi B (As := [.int v61]) kcS_X8_145 dX8_pairedBy_62 hf (fun q hq => cR_size q hq) rfl rfl (Nat.le_of_ble_eq_true rfl) rfl rfl ⟨Nat.le_of_ble_eq_true rfl, Nat.le_of_ble_eq_true rfl⟩ (fun v62 s62 hf => ?_)
        refine z_iload_n B dX8_pairedBy_65 4 rfl rfl ?_
        refine z_icmp_ge B 87 dX8_pairedBy_66 (by decide) hf (fun hf => ?_) (fun hf => ?_)
        · exact z_loc [1, 2, 3, 4, 5, 0] _ rfl (tR_pairedBy_87 B N hd14 hh14 s62 x1 x2 x3 x4 v23 hf)
        · refine z_iload B dX8_pairedBy_69 0 rfl ?_
          refine z_istore_n B [(2, .int v23), (5, .int v23), (0, .ref (adr 0)), (1, .int x1), (3, .int x3), (4, .int x4)] dX8_pairedBy_71 rfl (Nat.le_of_ble_eq_true rfl) rfl ?_
          refine z_iload_n B dX8_pairedBy_72 3 rfl rfl ?_
          refine z_aload_n B dX8_pairedBy_73 2 rfl rfl ?_
          refine fR_g_row B dX8_pairedBy_74 ?_
          refine z_iload B dX8_pairedBy_77 1 rfl ?_
          refine z_iconst B (2) dX8_pairedBy_79 zc_iconst_2 ?_
          refine z_iadd B dX8_pairedBy_80 hf (fun v80 hf => ?_)
          refine fR_l_row B dX8_pairedBy_81 hf (fun v81 hf => ?_)
          refine z_isub B dX8_pairedBy_82 hf (fun v82 hf => ?_)
          refine z_callSi B (As := [.int v82]) kcS_X8_145 dX8_pairedBy_83 hf (fun q hq => cR_size q hq) rfl rfl (Nat.le_of_ble_eq_true rfl) rfl rfl ⟨Nat.le_of_ble_eq_true rfl, Nat.le_of_ble_eq_true rfl⟩ (fun v83 s83 hf => ?_)
          refine z_istore_n B [(3, .int v83), (2, .int v23), (5, .int v23), (0, .ref (adr 0)), (1, .int x1), (4, .int x4)] dX8_pairedBy_86 rfl (Nat.le_of_ble_eq_true rfl) rfl ?_
          exact z_loc [3, 4, 1, 0, 5, 2] _ rfl (tR_pairedBy_87 B N hd14 hh14 s83 x1 v23 v83 x4 v23 hf)
def mR_pairedBy (N : Nat) (σ : ST) (x1 : Int32) : Option (Int32 × ST) :=
  zGet (σ 1) 1974 (4) fun v7 =>
  zLet ((v7 : Int32) + (1)) fun v9 =>
  mR_pairedBy_14 N σ x1 (-1) v9 (0)
set_option maxRecDepth 20000 in
set_option maxHeartbeats 2000000 in
theorem cR_pairedBy {adr : Nat → Nat} {cI cZ : ClassId} {l : Launch} {D : va_G} {N : Nat} {σ : ST} {x1 : Int32} (q : Int32 × ST) (hf : mR_pairedBy N σ x1 = some q) : zM l D (wdR adr cI cZ) yX8_pairedBy cX8_pairedBy 6 (some .int) ({ frames := 1, cells := 0, slots := 0, locals := 20 }) [.ref (adr 0), .int x1] σ (zi q) := by
  refine zM_of sfR_ok rfl (Nat.le_of_ble_eq_true rfl) [(0, .ref (adr 0)), (1, .int x1)] rfl (fun X hX1 hX2 B => ?_)
  have B : zC X 6 (wdR adr cI cZ) cX8_pairedBy RX8 (some .int) { frames := 1, cells := 0, slots := 0, locals := 20 } := B
  refine z_iconst B (-1) dX8_pairedBy_0 zc_iconst_m1 ?_
  refine z_istore_n B [(2, .int (-1)), (0, .ref (adr 0)), (1, .int x1)] dX8_pairedBy_1 rfl (Nat.le_of_ble_eq_true rfl) rfl ?_
  refine z_aload_n B dX8_pairedBy_2 1 rfl rfl ?_
  refine fR_g_row B dX8_pairedBy_3 ?_
  refine z_iconst B (4) dX8_pairedBy_6 zc_iconst_4 ?_
  refine fR_l_row B dX8_pairedBy_7 hf (fun v7 hf => ?_)
  refine z_iconst B (1) dX8_pairedBy_8 zc_iconst_1 ?_
  refine z_iadd B dX8_pairedBy_9 hf (fun v9 hf => ?_)
  refine z_istore_n B [(3, .int v9), (2, .int (-1)), (0, .ref (adr 0)), (1, .int x1)] dX8_pairedBy_10 rfl (Nat.le_of_ble_eq_true rfl) rfl ?_
  refine z_iconst B (0) dX8_pairedBy_11 zc_iconst_0 ?_
  refine z_istore B [(4, .int (0)), (3, .int v9), (2, .int (-1)), (0, .ref (adr 0)), (1, .int x1)] dX8_pairedBy_12 (Nat.le_of_ble_eq_true rfl) rfl ?_
  exact z_loc [3, 4, 2, 1, 0] _ rfl (tR_pairedBy_14 B N σ x1 (-1) v9 (0) hf)
theorem dX8_steppedBy_0 : decode cX8_steppedBy 0 = .ok (.iconst (-1), 1) := by decide +kernel
theorem dX8_steppedBy_1 : decode cX8_steppedBy 1 = .ok (.istore_n 2, 1) := by decide +kernel
theorem dX8_steppedBy_2 : decode cX8_steppedBy 2 = .ok (.iconst 0, 1) := by decide +kernel
theorem dX8_steppedBy_3 : decode cX8_steppedBy 3 = .ok (.istore_n 3, 1) := by decide +kernel
theorem dX8_steppedBy_4 : decode cX8_steppedBy 4 = .ok (.iload_n 3, 1) := by decide +kernel
theorem dX8_steppedBy_5 : decode cX8_steppedBy 5 = .ok (.bipush 6, 2) := by decide +kernel
theorem dX8_steppedBy_7 : decode cX8_steppedBy 7 = .ok (.if_icmp .ge 88, 3) := by decide +kernel
theorem dX8_steppedBy_10 : decode cX8_steppedBy 10 = .ok (.iload_n 3, 1) := by decide +kernel
theorem dX8_steppedBy_11 : decode cX8_steppedBy 11 = .ok (.invokestatic 89, 3) := by decide +kernel
theorem dX8_steppedBy_14 : decode cX8_steppedBy 14 = .ok (.istore 4, 2) := by decide +kernel
theorem dX8_steppedBy_16 : decode cX8_steppedBy 16 = .ok (.aload_n 0, 1) := by decide +kernel
theorem dX8_steppedBy_17 : decode cX8_steppedBy 17 = .ok (.getfield 9, 3) := by decide +kernel
theorem dX8_steppedBy_20 : decode cX8_steppedBy 20 = .ok (.iload 4, 2) := by decide +kernel
theorem dX8_steppedBy_22 : decode cX8_steppedBy 22 = .ok (.iaload, 1) := by decide +kernel
theorem dX8_steppedBy_23 : decode cX8_steppedBy 23 = .ok (.iconst 1, 1) := by decide +kernel
theorem dX8_steppedBy_24 : decode cX8_steppedBy 24 = .ok (.if_icmp .ne 65, 3) := by decide +kernel
theorem dX8_steppedBy_27 : decode cX8_steppedBy 27 = .ok (.aload_n 0, 1) := by decide +kernel
theorem dX8_steppedBy_28 : decode cX8_steppedBy 28 = .ok (.getfield 9, 3) := by decide +kernel
theorem dX8_steppedBy_31 : decode cX8_steppedBy 31 = .ok (.iload 4, 2) := by decide +kernel
theorem dX8_steppedBy_33 : decode cX8_steppedBy 33 = .ok (.iconst 3, 1) := by decide +kernel
theorem dX8_steppedBy_34 : decode cX8_steppedBy 34 = .ok (.iadd, 1) := by decide +kernel
theorem dX8_steppedBy_35 : decode cX8_steppedBy 35 = .ok (.iaload, 1) := by decide +kernel
theorem dX8_steppedBy_36 : decode cX8_steppedBy 36 = .ok (.ifCond .eq 53, 3) := by decide +kernel
theorem dX8_steppedBy_39 : decode cX8_steppedBy 39 = .ok (.aload_n 0, 1) := by decide +kernel
theorem dX8_steppedBy_40 : decode cX8_steppedBy 40 = .ok (.getfield 9, 3) := by decide +kernel
theorem dX8_steppedBy_43 : decode cX8_steppedBy 43 = .ok (.iload 4, 2) := by decide +kernel
theorem dX8_steppedBy_45 : decode cX8_steppedBy 45 = .ok (.iconst 2, 1) := by decide +kernel
theorem dX8_steppedBy_46 : decode cX8_steppedBy 46 = .ok (.iadd, 1) := by decide +kernel
theorem dX8_steppedBy_47 : decode cX8_steppedBy 47 = .ok (.iaload, 1) := by decide +kernel
theorem dX8_steppedBy_48 : decode cX8_steppedBy 48 = .ok (.aload_n 0, 1) := by decide +kernel
theorem dX8_steppedBy_49 : decode cX8_steppedBy 49 = .ok (.getfield 9, 3) := by decide +kernel
theorem dX8_steppedBy_52 : decode cX8_steppedBy 52 = .ok (.iload 4, 2) := by decide +kernel
theorem dX8_steppedBy_54 : decode cX8_steppedBy 54 = .ok (.iconst 3, 1) := by decide +kernel
theorem dX8_steppedBy_55 : decode cX8_steppedBy 55 = .ok (.iadd, 1) := by decide +kernel
theorem dX8_steppedBy_56 : decode cX8_steppedBy 56 = .ok (.iaload, 1) := by decide +kernel
theorem dX8_steppedBy_57 : decode cX8_steppedBy 57 = .ok (.iadd, 1) := by decide +kernel
theorem dX8_steppedBy_58 : decode cX8_steppedBy 58 = .ok (.iload_n 1, 1) := by decide +kernel
theorem dX8_steppedBy_59 : decode cX8_steppedBy 59 = .ok (.if_icmp .ne 30, 3) := by decide +kernel
theorem dX8_steppedBy_62 : decode cX8_steppedBy 62 = .ok (.aload_n 0, 1) := by decide +kernel
theorem dX8_steppedBy_63 : decode cX8_steppedBy 63 = .ok (.getfield 9, 3) := by decide +kernel
theorem dX8_steppedBy_66 : decode cX8_steppedBy 66 = .ok (.iload 4, 2) := by decide +kernel
theorem dX8_steppedBy_68 : decode cX8_steppedBy 68 = .ok (.iconst 5, 1) := by decide +kernel
theorem dX8_steppedBy_69 : decode cX8_steppedBy 69 = .ok (.iadd, 1) := by decide +kernel
theorem dX8_steppedBy_70 : decode cX8_steppedBy 70 = .ok (.iaload, 1) := by decide +kernel
theorem dX8_steppedBy_71 : decode cX8_steppedBy 71 = .ok (.ifCond .le 6, 3) := by decide +kernel
theorem dX8_steppedBy_74 : decode cX8_steppedBy 74 = .ok (.iload 4, 2) := by decide +kernel
theorem dX8_steppedBy_76 : decode cX8_steppedBy 76 = .ok (.ireturn, 1) := by decide +kernel
theorem dX8_steppedBy_77 : decode cX8_steppedBy 77 = .ok (.iload_n 2, 1) := by decide +kernel
theorem dX8_steppedBy_78 : decode cX8_steppedBy 78 = .ok (.iconst (-1), 1) := by decide +kernel
theorem dX8_steppedBy_79 : decode cX8_steppedBy 79 = .ok (.if_icmp .ne 8, 3) := by decide +kernel
theorem dX8_steppedBy_82 : decode cX8_steppedBy 82 = .ok (.iload 4, 2) := by decide +kernel
theorem dX8_steppedBy_84 : decode cX8_steppedBy 84 = .ok (.goto 4, 3) := by decide +kernel
theorem dX8_steppedBy_87 : decode cX8_steppedBy 87 = .ok (.iload_n 2, 1) := by decide +kernel
theorem dX8_steppedBy_88 : decode cX8_steppedBy 88 = .ok (.istore_n 2, 1) := by decide +kernel
theorem dX8_steppedBy_89 : decode cX8_steppedBy 89 = .ok (.iinc 3 1, 3) := by decide +kernel
theorem dX8_steppedBy_92 : decode cX8_steppedBy 92 = .ok (.goto (-88), 3) := by decide +kernel
theorem dX8_steppedBy_95 : decode cX8_steppedBy 95 = .ok (.iload_n 2, 1) := by decide +kernel
theorem dX8_steppedBy_96 : decode cX8_steppedBy 96 = .ok (.ireturn, 1) := by decide +kernel
def mR_steppedBy_89 (N : Nat) (hd4 : ST → Int32 → Int32 → Int32 → Option (Int32 × ST)) (σ : ST) (x1 : Int32) (x2 : Int32) (x3 : Int32) (x4 : Int32) : Option (Int32 × ST) :=
  zLet (x3 + (1)) fun v89 =>
  hd4 σ x1 x2 v89
set_option maxRecDepth 20000 in
set_option maxHeartbeats 2000000 in
theorem tR_steppedBy_89 {adr : Nat → Nat} {cI cZ : ClassId} {X : zX} {q : Int32 × ST} (B : zC X 5 (wdR adr cI cZ) cX8_steppedBy RX8 (some .int) { frames := 1, cells := 0, slots := 0, locals := 20 }) (N : Nat) (hd4 : ST → Int32 → Int32 → Int32 → Option (Int32 × ST)) (hh4 : ∀ (σ : ST) (x1 : Int32) (x2 : Int32) (x3 : Int32), hd4 σ x1 x2 x3 = some q → zJ X 5 (wdR adr cI cZ) (zi q) 4 [(0, .ref (adr 0)), (1, .int x1), (2, .int x2), (3, .int x3)] [] σ) (σ : ST) (x1 : Int32) (x2 : Int32) (x3 : Int32) (x4 : Int32) (hf : mR_steppedBy_89 N hd4 σ x1 x2 x3 x4 = some q) : zJ X 5 (wdR adr cI cZ) (zi q) 89 [(0, .ref (adr 0)), (1, .int x1), (2, .int x2), (3, .int x3), (4, .int x4)] [] σ := by
  refine z_iinc B (1) 3 (fun v89 => [(3, .int v89), (0, .ref (adr 0)), (1, .int x1), (2, .int x2), (4, .int x4)]) dX8_steppedBy_89 hf zc_iconst_1 rfl (Nat.le_of_ble_eq_true rfl) (fun _ => rfl) (fun v89 hf => ?_)
  refine z_goto B 4 dX8_steppedBy_92 (by decide) ?_
  exact z_loc [1, 2, 3, 0] _ rfl (hh4 σ x1 x2 v89 hf)
def mR_steppedBy_88 (N : Nat) (hd4 : ST → Int32 → Int32 → Int32 → Option (Int32 × ST)) (σ : ST) (x1 : Int32) (x2 : Int32) (x3 : Int32) (x4 : Int32) (k0 : Int32) : Option (Int32 × ST) :=
  mR_steppedBy_89 N hd4 σ x1 k0 x3 x4
set_option maxRecDepth 20000 in
set_option maxHeartbeats 2000000 in
theorem tR_steppedBy_88 {adr : Nat → Nat} {cI cZ : ClassId} {X : zX} {q : Int32 × ST} (B : zC X 5 (wdR adr cI cZ) cX8_steppedBy RX8 (some .int) { frames := 1, cells := 0, slots := 0, locals := 20 }) (N : Nat) (hd4 : ST → Int32 → Int32 → Int32 → Option (Int32 × ST)) (hh4 : ∀ (σ : ST) (x1 : Int32) (x2 : Int32) (x3 : Int32), hd4 σ x1 x2 x3 = some q → zJ X 5 (wdR adr cI cZ) (zi q) 4 [(0, .ref (adr 0)), (1, .int x1), (2, .int x2), (3, .int x3)] [] σ) (σ : ST) (x1 : Int32) (x2 : Int32) (x3 : Int32) (x4 : Int32) (k0 : Int32) (hf : mR_steppedBy_88 N hd4 σ x1 x2 x3 x4 k0 = some q) : zJ X 5 (wdR adr cI cZ) (zi q) 88 [(0, .ref (adr 0)), (1, .int x1), (2, .int x2), (3, .int x3), (4, .int x4)] [.int k0] σ := by
  refine z_istore_n B [(2, .int k0), (0, .ref (adr 0)), (1, .int x1), (3, .int x3), (4, .int x4)] dX8_steppedBy_88 rfl (Nat.le_of_ble_eq_true rfl) rfl ?_
  exact z_loc [1, 2, 0, 3, 4] _ rfl (tR_steppedBy_89 B N hd4 hh4 σ x1 k0 x3 x4 hf)
def mR_steppedBy_B4 (N : Nat) (hd4 : ST → Int32 → Int32 → Int32 → Option (Int32 × ST)) (σ : ST) (x1 : Int32) (x2 : Int32) (x3 : Int32) : Option (Int32 × ST) :=
  if ((6) : Int32) ≤ x3 then
    some (x2, σ)
  else
    zCall (mR_streamAt N σ x3) fun v11 s11 =>
    zGet (s11 1) 1974 v11 fun v22 =>
    if (v22 : Int32) = (1) then
      zLet ((v11 : Int32) + (3)) fun v34 =>
      zGet (s11 1) 1974 v34 fun v35 =>
      if (v35 : Int32) = 0 then
        mR_steppedBy_89 N hd4 s11 x1 x2 x3 v11
      else
        zLet ((v11 : Int32) + (2)) fun v46 =>
        zGet (s11 1) 1974 v46 fun v47 =>
        zLet ((v11 : Int32) + (3)) fun v55 =>
        zGet (s11 1) 1974 v55 fun v56 =>
        zLet ((v47 : Int32) + v56) fun v57 =>
        if (v57 : Int32) = x1 then
          zLet ((v11 : Int32) + (5)) fun v69 =>
          zGet (s11 1) 1974 v69 fun v70 =>
          if (v70 : Int32) ≤ 0 then
            if (x2 : Int32) = (-1) then
              mR_steppedBy_88 N hd4 s11 x1 x2 x3 v11 v11
            else
              mR_steppedBy_88 N hd4 s11 x1 x2 x3 v11 x2
          else
            some (v11, s11)
        else
          mR_steppedBy_89 N hd4 s11 x1 x2 x3 v11
    else
      mR_steppedBy_89 N hd4 s11 x1 x2 x3 v11
def mR_steppedBy_4 (N : Nat) : ST → Int32 → Int32 → Int32 → Option (Int32 × ST) := zIt (mR_steppedBy_B4 N) (fun _ _ _ _ => none) N
set_option maxRecDepth 20000 in
set_option maxHeartbeats 2000000 in
theorem tR_steppedBy_4 {adr : Nat → Nat} {cI cZ : ClassId} {X : zX} {q : Int32 × ST} (B : zC X 5 (wdR adr cI cZ) cX8_steppedBy RX8 (some .int) { frames := 1, cells := 0, slots := 0, locals := 20 }) (N : Nat) : ∀ (σ : ST) (x1 : Int32) (x2 : Int32) (x3 : Int32), mR_steppedBy_4 N σ x1 x2 x3 = some q → zJ X 5 (wdR adr cI cZ) (zi q) 4 [(0, .ref (adr 0)), (1, .int x1), (2, .int x2), (3, .int x3)] [] σ := by
  refine zIt_ind (P := fun (hd : ST → Int32 → Int32 → Int32 → Option (Int32 × ST)) => ∀ (σ : ST) (x1 : Int32) (x2 : Int32) (x3 : Int32), hd σ x1 x2 x3 = some q → zJ X 5 (wdR adr cI cZ) (zi q) 4 [(0, .ref (adr 0)), (1, .int x1), (2, .int x2), (3, .int x3)] [] σ) (fun _ _ _ _ hf => by cases hf) (fun hd4 hh4 => ?_) N
  intro σ x1 x2 x3 hf
  refine z_iload_n B dX8_steppedBy_4 3 rfl rfl ?_
  refine z_bipush B (6) dX8_steppedBy_5 zc_bipush_6 ?_
  refine z_icmp_ge B 95 dX8_steppedBy_7 (by decide) hf (fun hf => ?_) (fun hf => ?_)
  · refine z_iload_n B dX8_steppedBy_95 2 rfl rfl ?_
    exact z_ireturn B dX8_steppedBy_96 hf
  · refine z_iload_n B dX8_steppedBy_10 3 rfl rfl ?_
    refine z_callSi B (As := [.int x3]) kcS_X8_89 dX8_steppedBy_11 hf (fun q hq => cR_streamAt q hq) rfl rfl (Nat.le_of_ble_eq_true rfl) rfl rfl ⟨Nat.le_of_ble_eq_true rfl, Nat.le_of_ble_eq_true rfl⟩ (fun v11 s11 hf => ?_)
    refine z_istore B [(4, .int v11), (0, .ref (adr 0)), (1, .int x1), (2, .int x2), (3, .int x3)] dX8_steppedBy_14 (Nat.le_of_ble_eq_true rfl) rfl ?_
    refine z_aload_n B dX8_steppedBy_16 1 rfl rfl ?_
    refine fR_g_row B dX8_steppedBy_17 ?_
    refine z_iload B dX8_steppedBy_20 0 rfl ?_
    refine fR_l_row B dX8_steppedBy_22 hf (fun v22 hf => ?_)
    refine z_iconst B (1) dX8_steppedBy_23 zc_iconst_1 ?_
    refine z_icmp_ne B 89 dX8_steppedBy_24 (by decide) hf (fun hf => ?_) (fun hf => ?_)
    · exact z_loc [1, 2, 3, 4, 0] _ rfl (tR_steppedBy_89 B N hd4 hh4 s11 x1 x2 x3 v11 hf)
    · refine z_aload_n B dX8_steppedBy_27 1 rfl rfl ?_
      refine fR_g_row B dX8_steppedBy_28 ?_
      refine z_iload B dX8_steppedBy_31 0 rfl ?_
      refine z_iconst B (3) dX8_steppedBy_33 zc_iconst_3 ?_
      refine z_iadd B dX8_steppedBy_34 hf (fun v34 hf => ?_)
      refine fR_l_row B dX8_steppedBy_35 hf (fun v35 hf => ?_)
      refine z_if_eq B 89 dX8_steppedBy_36 (by decide) hf (fun hf => ?_) (fun hf => ?_)
      · exact z_loc [1, 2, 3, 4, 0] _ rfl (tR_steppedBy_89 B N hd4 hh4 s11 x1 x2 x3 v11 hf)
      · refine z_aload_n B dX8_steppedBy_39 1 rfl rfl ?_
        refine fR_g_row B dX8_steppedBy_40 ?_
        refine z_iload B dX8_steppedBy_43 0 rfl ?_
        refine z_iconst B (2) dX8_steppedBy_45 zc_iconst_2 ?_
        refine z_iadd B dX8_steppedBy_46 hf (fun v46 hf => ?_)
        refine fR_l_row B dX8_steppedBy_47 hf (fun v47 hf => ?_)
        refine z_aload_n B dX8_steppedBy_48 1 rfl rfl ?_
        refine fR_g_row B dX8_steppedBy_49 ?_
        refine z_iload B dX8_steppedBy_52 0 rfl ?_
        refine z_iconst B (3) dX8_steppedBy_54 zc_iconst_3 ?_
        refine z_iadd B dX8_steppedBy_55 hf (fun v55 hf => ?_)
        refine fR_l_row B dX8_steppedBy_56 hf (fun v56 hf => ?_)
        refine z_iadd B dX8_steppedBy_57 hf (fun v57 hf => ?_)
        refine z_iload_n B dX8_steppedBy_58 2 rfl rfl ?_
        refine z_icmp_ne B 89 dX8_steppedBy_59 (by decide) hf (fun hf => ?_) (fun hf => ?_)
        · exact z_loc [1, 2, 3, 4, 0] _ rfl (tR_steppedBy_89 B N hd4 hh4 s11 x1 x2 x3 v11 hf)
        · refine z_aload_n B dX8_steppedBy_62 1 rfl rfl ?_
          refine fR_g_row B dX8_steppedBy_63 ?_
          refine z_iload B dX8_steppedBy_66 0 rfl ?_
          refine z_iconst B (5) dX8_steppedBy_68 zc_iconst_5 ?_
          refine z_iadd B dX8_steppedBy_69 hf (fun v69 hf => ?_)
          refine fR_l_row B dX8_steppedBy_70 hf (fun v70 hf => ?_)
          refine z_if_le B 77 dX8_steppedBy_71 (by decide) hf (fun hf => ?_) (fun hf => ?_)
          · refine z_iload_n B dX8_steppedBy_77 3 rfl rfl ?_
            refine z_iconst B (-1) dX8_steppedBy_78 zc_iconst_m1 ?_
            refine z_icmp_ne B 87 dX8_steppedBy_79 (by decide) hf (fun hf => ?_) (fun hf => ?_)
            · refine z_iload_n B dX8_steppedBy_87 3 rfl rfl ?_
              exact z_loc [1, 2, 3, 4, 0] _ rfl (tR_steppedBy_88 B N hd4 hh4 s11 x1 x2 x3 v11 x2 hf)
            · refine z_iload B dX8_steppedBy_82 0 rfl ?_
              refine z_goto B 88 dX8_steppedBy_84 (by decide) ?_
              exact z_loc [1, 2, 3, 4, 0] _ rfl (tR_steppedBy_88 B N hd4 hh4 s11 x1 x2 x3 v11 v11 hf)
          · refine z_iload B dX8_steppedBy_74 0 rfl ?_
            exact z_ireturn B dX8_steppedBy_76 hf
def mR_steppedBy (N : Nat) (σ : ST) (x1 : Int32) : Option (Int32 × ST) :=
  mR_steppedBy_4 N σ x1 (-1) (0)
set_option maxRecDepth 20000 in
set_option maxHeartbeats 2000000 in
theorem cR_steppedBy {adr : Nat → Nat} {cI cZ : ClassId} {l : Launch} {D : va_G} {N : Nat} {σ : ST} {x1 : Int32} (q : Int32 × ST) (hf : mR_steppedBy N σ x1 = some q) : zM l D (wdR adr cI cZ) yX8_steppedBy cX8_steppedBy 5 (some .int) ({ frames := 1, cells := 0, slots := 0, locals := 20 }) [.ref (adr 0), .int x1] σ (zi q) := by
  refine zM_of sfR_ok rfl (Nat.le_of_ble_eq_true rfl) [(0, .ref (adr 0)), (1, .int x1)] rfl (fun X hX1 hX2 B => ?_)
  have B : zC X 5 (wdR adr cI cZ) cX8_steppedBy RX8 (some .int) { frames := 1, cells := 0, slots := 0, locals := 20 } := B
  refine z_iconst B (-1) dX8_steppedBy_0 zc_iconst_m1 ?_
  refine z_istore_n B [(2, .int (-1)), (0, .ref (adr 0)), (1, .int x1)] dX8_steppedBy_1 rfl (Nat.le_of_ble_eq_true rfl) rfl ?_
  refine z_iconst B (0) dX8_steppedBy_2 zc_iconst_0 ?_
  refine z_istore_n B [(3, .int (0)), (2, .int (-1)), (0, .ref (adr 0)), (1, .int x1)] dX8_steppedBy_3 rfl (Nat.le_of_ble_eq_true rfl) rfl ?_
  exact z_loc [2, 3, 1, 0] _ rfl (tR_steppedBy_4 B N σ x1 (-1) (0) hf)
theorem dX8_lastAt_0 : decode cX8_lastAt 0 = .ok (.iconst 0, 1) := by decide +kernel
theorem dX8_lastAt_1 : decode cX8_lastAt 1 = .ok (.istore_n 2, 1) := by decide +kernel
theorem dX8_lastAt_2 : decode cX8_lastAt 2 = .ok (.iload_n 2, 1) := by decide +kernel
theorem dX8_lastAt_3 : decode cX8_lastAt 3 = .ok (.bipush 6, 2) := by decide +kernel
theorem dX8_lastAt_5 : decode cX8_lastAt 5 = .ok (.if_icmp .ge 42, 3) := by decide +kernel
theorem dX8_lastAt_8 : decode cX8_lastAt 8 = .ok (.aload_n 0, 1) := by decide +kernel
theorem dX8_lastAt_9 : decode cX8_lastAt 9 = .ok (.getfield 9, 3) := by decide +kernel
theorem dX8_lastAt_12 : decode cX8_lastAt 12 = .ok (.iload_n 2, 1) := by decide +kernel
theorem dX8_lastAt_13 : decode cX8_lastAt 13 = .ok (.invokestatic 89, 3) := by decide +kernel
theorem dX8_lastAt_16 : decode cX8_lastAt 16 = .ok (.iaload, 1) := by decide +kernel
theorem dX8_lastAt_17 : decode cX8_lastAt 17 = .ok (.iconst 1, 1) := by decide +kernel
theorem dX8_lastAt_18 : decode cX8_lastAt 18 = .ok (.if_icmp .ne 23, 3) := by decide +kernel
theorem dX8_lastAt_21 : decode cX8_lastAt 21 = .ok (.aload_n 0, 1) := by decide +kernel
theorem dX8_lastAt_22 : decode cX8_lastAt 22 = .ok (.getfield 9, 3) := by decide +kernel
theorem dX8_lastAt_25 : decode cX8_lastAt 25 = .ok (.iload_n 2, 1) := by decide +kernel
theorem dX8_lastAt_26 : decode cX8_lastAt 26 = .ok (.invokestatic 89, 3) := by decide +kernel
theorem dX8_lastAt_29 : decode cX8_lastAt 29 = .ok (.iconst 2, 1) := by decide +kernel
theorem dX8_lastAt_30 : decode cX8_lastAt 30 = .ok (.iadd, 1) := by decide +kernel
theorem dX8_lastAt_31 : decode cX8_lastAt 31 = .ok (.iaload, 1) := by decide +kernel
theorem dX8_lastAt_32 : decode cX8_lastAt 32 = .ok (.iload_n 1, 1) := by decide +kernel
theorem dX8_lastAt_33 : decode cX8_lastAt 33 = .ok (.if_icmp .ne 8, 3) := by decide +kernel
theorem dX8_lastAt_36 : decode cX8_lastAt 36 = .ok (.iload_n 2, 1) := by decide +kernel
theorem dX8_lastAt_37 : decode cX8_lastAt 37 = .ok (.invokestatic 89, 3) := by decide +kernel
theorem dX8_lastAt_40 : decode cX8_lastAt 40 = .ok (.ireturn, 1) := by decide +kernel
theorem dX8_lastAt_41 : decode cX8_lastAt 41 = .ok (.iinc 2 1, 3) := by decide +kernel
theorem dX8_lastAt_44 : decode cX8_lastAt 44 = .ok (.goto (-42), 3) := by decide +kernel
theorem dX8_lastAt_47 : decode cX8_lastAt 47 = .ok (.iconst (-1), 1) := by decide +kernel
theorem dX8_lastAt_48 : decode cX8_lastAt 48 = .ok (.ireturn, 1) := by decide +kernel
def mR_lastAt_41 (N : Nat) (hd2 : ST → Int32 → Int32 → Option (Int32 × ST)) (σ : ST) (x1 : Int32) (x2 : Int32) : Option (Int32 × ST) :=
  zLet (x2 + (1)) fun v41 =>
  hd2 σ x1 v41
set_option maxRecDepth 20000 in
set_option maxHeartbeats 2000000 in
theorem tR_lastAt_41 {adr : Nat → Nat} {cI cZ : ClassId} {X : zX} {q : Int32 × ST} (B : zC X 3 (wdR adr cI cZ) cX8_lastAt RX8 (some .int) { frames := 1, cells := 0, slots := 0, locals := 20 }) (N : Nat) (hd2 : ST → Int32 → Int32 → Option (Int32 × ST)) (hh2 : ∀ (σ : ST) (x1 : Int32) (x2 : Int32), hd2 σ x1 x2 = some q → zJ X 3 (wdR adr cI cZ) (zi q) 2 [(0, .ref (adr 0)), (1, .int x1), (2, .int x2)] [] σ) (σ : ST) (x1 : Int32) (x2 : Int32) (hf : mR_lastAt_41 N hd2 σ x1 x2 = some q) : zJ X 3 (wdR adr cI cZ) (zi q) 41 [(0, .ref (adr 0)), (1, .int x1), (2, .int x2)] [] σ := by
  refine z_iinc B (1) 2 (fun v41 => [(2, .int v41), (0, .ref (adr 0)), (1, .int x1)]) dX8_lastAt_41 hf zc_iconst_1 rfl (Nat.le_of_ble_eq_true rfl) (fun _ => rfl) (fun v41 hf => ?_)
  refine z_goto B 2 dX8_lastAt_44 (by decide) ?_
  exact z_loc [1, 2, 0] _ rfl (hh2 σ x1 v41 hf)
def mR_lastAt_B2 (N : Nat) (hd2 : ST → Int32 → Int32 → Option (Int32 × ST)) (σ : ST) (x1 : Int32) (x2 : Int32) : Option (Int32 × ST) :=
  if ((6) : Int32) ≤ x2 then
    some ((-1), σ)
  else
    zCall (mR_streamAt N σ x2) fun v13 s13 =>
    zGet (s13 1) 1974 v13 fun v16 =>
    if (v16 : Int32) = (1) then
      zCall (mR_streamAt N s13 x2) fun v26 s26 =>
      zLet ((v26 : Int32) + (2)) fun v30 =>
      zGet (s26 1) 1974 v30 fun v31 =>
      if (v31 : Int32) = x1 then
        zCall (mR_streamAt N s26 x2) fun v37 s37 =>
        some (v37, s37)
      else
        mR_lastAt_41 N hd2 s26 x1 x2
    else
      mR_lastAt_41 N hd2 s13 x1 x2
def mR_lastAt_2 (N : Nat) : ST → Int32 → Int32 → Option (Int32 × ST) := zIt (mR_lastAt_B2 N) (fun _ _ _ => none) N
set_option maxRecDepth 20000 in
set_option maxHeartbeats 2000000 in
theorem tR_lastAt_2 {adr : Nat → Nat} {cI cZ : ClassId} {X : zX} {q : Int32 × ST} (B : zC X 3 (wdR adr cI cZ) cX8_lastAt RX8 (some .int) { frames := 1, cells := 0, slots := 0, locals := 20 }) (N : Nat) : ∀ (σ : ST) (x1 : Int32) (x2 : Int32), mR_lastAt_2 N σ x1 x2 = some q → zJ X 3 (wdR adr cI cZ) (zi q) 2 [(0, .ref (adr 0)), (1, .int x1), (2, .int x2)] [] σ := by
  refine zIt_ind (P := fun (hd : ST → Int32 → Int32 → Option (Int32 × ST)) => ∀ (σ : ST) (x1 : Int32) (x2 : Int32), hd σ x1 x2 = some q → zJ X 3 (wdR adr cI cZ) (zi q) 2 [(0, .ref (adr 0)), (1, .int x1), (2, .int x2)] [] σ) (fun _ _ _ hf => by cases hf) (fun hd2 hh2 => ?_) N
  intro σ x1 x2 hf
  refine z_iload_n B dX8_lastAt_2 2 rfl rfl ?_
  refine z_bipush B (6) dX8_lastAt_3 zc_bipush_6 ?_
  refine z_icmp_ge B 47 dX8_lastAt_5 (by decide) hf (fun hf => ?_) (fun hf => ?_)
  · refine z_iconst B (-1) dX8_lastAt_47 zc_iconst_m1 ?_
    exact z_ireturn B dX8_lastAt_48 hf
  · refine z_aload_n B dX8_lastAt_8 0 rfl rfl ?_
    refine fR_g_row B dX8_lastAt_9 ?_
    refine z_iload_n B dX8_lastAt_12 2 rfl rfl ?_
    refine z_callSi B (As := [.int x2]) kcS_X8_89 dX8_lastAt_13 hf (fun q hq => cR_streamAt q hq) rfl rfl (Nat.le_of_ble_eq_true rfl) rfl rfl ⟨Nat.le_of_ble_eq_true rfl, Nat.le_of_ble_eq_true rfl⟩ (fun v13 s13 hf => ?_)
    refine fR_l_row B dX8_lastAt_16 hf (fun v16 hf => ?_)
    refine z_iconst B (1) dX8_lastAt_17 zc_iconst_1 ?_
    refine z_icmp_ne B 41 dX8_lastAt_18 (by decide) hf (fun hf => ?_) (fun hf => ?_)
    · exact tR_lastAt_41 B N hd2 hh2 s13 x1 x2 hf
    · refine z_aload_n B dX8_lastAt_21 0 rfl rfl ?_
      refine fR_g_row B dX8_lastAt_22 ?_
      refine z_iload_n B dX8_lastAt_25 2 rfl rfl ?_
      refine z_callSi B (As := [.int x2]) kcS_X8_89 dX8_lastAt_26 hf (fun q hq => cR_streamAt q hq) rfl rfl (Nat.le_of_ble_eq_true rfl) rfl rfl ⟨Nat.le_of_ble_eq_true rfl, Nat.le_of_ble_eq_true rfl⟩ (fun v26 s26 hf => ?_)
      refine z_iconst B (2) dX8_lastAt_29 zc_iconst_2 ?_
      refine z_iadd B dX8_lastAt_30 hf (fun v30 hf => ?_)
      refine fR_l_row B dX8_lastAt_31 hf (fun v31 hf => ?_)
      refine z_iload_n B dX8_lastAt_32 1 rfl rfl ?_
      refine z_icmp_ne B 41 dX8_lastAt_33 (by decide) hf (fun hf => ?_) (fun hf => ?_)
      · exact tR_lastAt_41 B N hd2 hh2 s26 x1 x2 hf
      · refine z_iload_n B dX8_lastAt_36 2 rfl rfl ?_
        refine z_callSi B (As := [.int x2]) kcS_X8_89 dX8_lastAt_37 hf (fun q hq => cR_streamAt q hq) rfl rfl (Nat.le_of_ble_eq_true rfl) rfl rfl ⟨Nat.le_of_ble_eq_true rfl, Nat.le_of_ble_eq_true rfl⟩ (fun v37 s37 hf => ?_)
        exact z_ireturn B dX8_lastAt_40 hf
def mR_lastAt (N : Nat) (σ : ST) (x1 : Int32) : Option (Int32 × ST) :=
  mR_lastAt_2 N σ x1 (0)
set_option maxRecDepth 20000 in
set_option maxHeartbeats 2000000 in
theorem cR_lastAt {adr : Nat → Nat} {cI cZ : ClassId} {l : Launch} {D : va_G} {N : Nat} {σ : ST} {x1 : Int32} (q : Int32 × ST) (hf : mR_lastAt N σ x1 = some q) : zM l D (wdR adr cI cZ) yX8_lastAt cX8_lastAt 3 (some .int) ({ frames := 1, cells := 0, slots := 0, locals := 20 }) [.ref (adr 0), .int x1] σ (zi q) := by
  refine zM_of sfR_ok rfl (Nat.le_of_ble_eq_true rfl) [(0, .ref (adr 0)), (1, .int x1)] rfl (fun X hX1 hX2 B => ?_)
  have B : zC X 3 (wdR adr cI cZ) cX8_lastAt RX8 (some .int) { frames := 1, cells := 0, slots := 0, locals := 20 } := B
  refine z_iconst B (0) dX8_lastAt_0 zc_iconst_0 ?_
  refine z_istore_n B [(2, .int (0)), (0, .ref (adr 0)), (1, .int x1)] dX8_lastAt_1 rfl (Nat.le_of_ble_eq_true rfl) rfl ?_
  exact z_loc [1, 2, 0] _ rfl (tR_lastAt_2 B N σ x1 (0) hf)
theorem dX8_finds_0 : decode cX8_finds 0 = .ok (.aload_n 0, 1) := by decide +kernel
theorem dX8_finds_1 : decode cX8_finds 1 = .ok (.aload_n 0, 1) := by decide +kernel
theorem dX8_finds_2 : decode cX8_finds 2 = .ok (.iload_n 1, 1) := by decide +kernel
theorem dX8_finds_3 : decode cX8_finds 3 = .ok (.invokevirtual 164, 3) := by decide +kernel
theorem dX8_finds_6 : decode cX8_finds 6 = .ok (.putfield 167, 3) := by decide +kernel
theorem dX8_finds_9 : decode cX8_finds 9 = .ok (.aload_n 0, 1) := by decide +kernel
theorem dX8_finds_10 : decode cX8_finds 10 = .ok (.iconst 1, 1) := by decide +kernel
theorem dX8_finds_11 : decode cX8_finds 11 = .ok (.putfield 170, 3) := by decide +kernel
theorem dX8_finds_14 : decode cX8_finds 14 = .ok (.aload_n 0, 1) := by decide +kernel
theorem dX8_finds_15 : decode cX8_finds 15 = .ok (.getfield 167, 3) := by decide +kernel
theorem dX8_finds_18 : decode cX8_finds 18 = .ok (.iconst (-1), 1) := by decide +kernel
theorem dX8_finds_19 : decode cX8_finds 19 = .ok (.if_icmp .ne 17, 3) := by decide +kernel
theorem dX8_finds_22 : decode cX8_finds 22 = .ok (.aload_n 0, 1) := by decide +kernel
theorem dX8_finds_23 : decode cX8_finds 23 = .ok (.aload_n 0, 1) := by decide +kernel
theorem dX8_finds_24 : decode cX8_finds 24 = .ok (.iload_n 1, 1) := by decide +kernel
theorem dX8_finds_25 : decode cX8_finds 25 = .ok (.invokevirtual 173, 3) := by decide +kernel
theorem dX8_finds_28 : decode cX8_finds 28 = .ok (.putfield 167, 3) := by decide +kernel
theorem dX8_finds_31 : decode cX8_finds 31 = .ok (.aload_n 0, 1) := by decide +kernel
theorem dX8_finds_32 : decode cX8_finds 32 = .ok (.iconst 2, 1) := by decide +kernel
theorem dX8_finds_33 : decode cX8_finds 33 = .ok (.putfield 170, 3) := by decide +kernel
theorem dX8_finds_36 : decode cX8_finds 36 = .ok (.aload_n 0, 1) := by decide +kernel
theorem dX8_finds_37 : decode cX8_finds 37 = .ok (.getfield 167, 3) := by decide +kernel
theorem dX8_finds_40 : decode cX8_finds 40 = .ok (.iconst (-1), 1) := by decide +kernel
theorem dX8_finds_41 : decode cX8_finds 41 = .ok (.if_icmp .ne 17, 3) := by decide +kernel
theorem dX8_finds_44 : decode cX8_finds 44 = .ok (.aload_n 0, 1) := by decide +kernel
theorem dX8_finds_45 : decode cX8_finds 45 = .ok (.aload_n 0, 1) := by decide +kernel
theorem dX8_finds_46 : decode cX8_finds 46 = .ok (.iload_n 1, 1) := by decide +kernel
theorem dX8_finds_47 : decode cX8_finds 47 = .ok (.invokevirtual 176, 3) := by decide +kernel
theorem dX8_finds_50 : decode cX8_finds 50 = .ok (.putfield 167, 3) := by decide +kernel
theorem dX8_finds_53 : decode cX8_finds 53 = .ok (.aload_n 0, 1) := by decide +kernel
theorem dX8_finds_54 : decode cX8_finds 54 = .ok (.iconst 3, 1) := by decide +kernel
theorem dX8_finds_55 : decode cX8_finds 55 = .ok (.putfield 170, 3) := by decide +kernel
theorem dX8_finds_58 : decode cX8_finds 58 = .ok (.aload_n 0, 1) := by decide +kernel
theorem dX8_finds_59 : decode cX8_finds 59 = .ok (.getfield 167, 3) := by decide +kernel
theorem dX8_finds_62 : decode cX8_finds 62 = .ok (.iconst (-1), 1) := by decide +kernel
theorem dX8_finds_63 : decode cX8_finds 63 = .ok (.if_icmp .ne 17, 3) := by decide +kernel
theorem dX8_finds_66 : decode cX8_finds 66 = .ok (.aload_n 0, 1) := by decide +kernel
theorem dX8_finds_67 : decode cX8_finds 67 = .ok (.aload_n 0, 1) := by decide +kernel
theorem dX8_finds_68 : decode cX8_finds 68 = .ok (.iload_n 1, 1) := by decide +kernel
theorem dX8_finds_69 : decode cX8_finds 69 = .ok (.invokevirtual 179, 3) := by decide +kernel
theorem dX8_finds_72 : decode cX8_finds 72 = .ok (.putfield 167, 3) := by decide +kernel
theorem dX8_finds_75 : decode cX8_finds 75 = .ok (.aload_n 0, 1) := by decide +kernel
theorem dX8_finds_76 : decode cX8_finds 76 = .ok (.iconst 4, 1) := by decide +kernel
theorem dX8_finds_77 : decode cX8_finds 77 = .ok (.putfield 170, 3) := by decide +kernel
theorem dX8_finds_80 : decode cX8_finds 80 = .ok (.aload_n 0, 1) := by decide +kernel
theorem dX8_finds_81 : decode cX8_finds 81 = .ok (.getfield 170, 3) := by decide +kernel
theorem dX8_finds_84 : decode cX8_finds 84 = .ok (.iconst 1, 1) := by decide +kernel
theorem dX8_finds_85 : decode cX8_finds 85 = .ok (.if_icmp .ne 32, 3) := by decide +kernel
theorem dX8_finds_88 : decode cX8_finds 88 = .ok (.aload_n 0, 1) := by decide +kernel
theorem dX8_finds_89 : decode cX8_finds 89 = .ok (.getfield 9, 3) := by decide +kernel
theorem dX8_finds_92 : decode cX8_finds 92 = .ok (.aload_n 0, 1) := by decide +kernel
theorem dX8_finds_93 : decode cX8_finds 93 = .ok (.getfield 167, 3) := by decide +kernel
theorem dX8_finds_96 : decode cX8_finds 96 = .ok (.iconst 4, 1) := by decide +kernel
theorem dX8_finds_97 : decode cX8_finds 97 = .ok (.iadd, 1) := by decide +kernel
theorem dX8_finds_98 : decode cX8_finds 98 = .ok (.bipush 99, 2) := by decide +kernel
theorem dX8_finds_100 : decode cX8_finds 100 = .ok (.aload_n 0, 1) := by decide +kernel
theorem dX8_finds_101 : decode cX8_finds 101 = .ok (.getfield 9, 3) := by decide +kernel
theorem dX8_finds_104 : decode cX8_finds 104 = .ok (.aload_n 0, 1) := by decide +kernel
theorem dX8_finds_105 : decode cX8_finds 105 = .ok (.getfield 167, 3) := by decide +kernel
theorem dX8_finds_108 : decode cX8_finds 108 = .ok (.iconst 4, 1) := by decide +kernel
theorem dX8_finds_109 : decode cX8_finds 109 = .ok (.iadd, 1) := by decide +kernel
theorem dX8_finds_110 : decode cX8_finds 110 = .ok (.iaload, 1) := by decide +kernel
theorem dX8_finds_111 : decode cX8_finds 111 = .ok (.iconst 1, 1) := by decide +kernel
theorem dX8_finds_112 : decode cX8_finds 112 = .ok (.iadd, 1) := by decide +kernel
theorem dX8_finds_113 : decode cX8_finds 113 = .ok (.invokestatic 151, 3) := by decide +kernel
theorem dX8_finds_116 : decode cX8_finds 116 = .ok (.iastore, 1) := by decide +kernel
theorem dX8_finds_117 : decode cX8_finds 117 = .ok (.aload_n 0, 1) := by decide +kernel
theorem dX8_finds_118 : decode cX8_finds 118 = .ok (.getfield 170, 3) := by decide +kernel
theorem dX8_finds_121 : decode cX8_finds 121 = .ok (.iconst 3, 1) := by decide +kernel
theorem dX8_finds_122 : decode cX8_finds 122 = .ok (.if_icmp .ne 39, 3) := by decide +kernel
theorem dX8_finds_125 : decode cX8_finds 125 = .ok (.aload_n 0, 1) := by decide +kernel
theorem dX8_finds_126 : decode cX8_finds 126 = .ok (.getfield 9, 3) := by decide +kernel
theorem dX8_finds_129 : decode cX8_finds 129 = .ok (.aload_n 0, 1) := by decide +kernel
theorem dX8_finds_130 : decode cX8_finds 130 = .ok (.getfield 167, 3) := by decide +kernel
theorem dX8_finds_133 : decode cX8_finds 133 = .ok (.iconst 3, 1) := by decide +kernel
theorem dX8_finds_134 : decode cX8_finds 134 = .ok (.iadd, 1) := by decide +kernel
theorem dX8_finds_135 : decode cX8_finds 135 = .ok (.iload_n 1, 1) := by decide +kernel
theorem dX8_finds_136 : decode cX8_finds 136 = .ok (.aload_n 0, 1) := by decide +kernel
theorem dX8_finds_137 : decode cX8_finds 137 = .ok (.getfield 9, 3) := by decide +kernel
theorem dX8_finds_140 : decode cX8_finds 140 = .ok (.aload_n 0, 1) := by decide +kernel
theorem dX8_finds_141 : decode cX8_finds 141 = .ok (.getfield 167, 3) := by decide +kernel
theorem dX8_finds_144 : decode cX8_finds 144 = .ok (.iconst 2, 1) := by decide +kernel
theorem dX8_finds_145 : decode cX8_finds 145 = .ok (.iadd, 1) := by decide +kernel
theorem dX8_finds_146 : decode cX8_finds 146 = .ok (.iaload, 1) := by decide +kernel
theorem dX8_finds_147 : decode cX8_finds 147 = .ok (.isub, 1) := by decide +kernel
theorem dX8_finds_148 : decode cX8_finds 148 = .ok (.iastore, 1) := by decide +kernel
theorem dX8_finds_149 : decode cX8_finds 149 = .ok (.aload_n 0, 1) := by decide +kernel
theorem dX8_finds_150 : decode cX8_finds 150 = .ok (.getfield 9, 3) := by decide +kernel
theorem dX8_finds_153 : decode cX8_finds 153 = .ok (.aload_n 0, 1) := by decide +kernel
theorem dX8_finds_154 : decode cX8_finds 154 = .ok (.getfield 167, 3) := by decide +kernel
theorem dX8_finds_157 : decode cX8_finds 157 = .ok (.iconst 4, 1) := by decide +kernel
theorem dX8_finds_158 : decode cX8_finds 158 = .ok (.iadd, 1) := by decide +kernel
theorem dX8_finds_159 : decode cX8_finds 159 = .ok (.iconst 1, 1) := by decide +kernel
theorem dX8_finds_160 : decode cX8_finds 160 = .ok (.iastore, 1) := by decide +kernel
theorem dX8_finds_161 : decode cX8_finds 161 = .ok (.aload_n 0, 1) := by decide +kernel
theorem dX8_finds_162 : decode cX8_finds 162 = .ok (.getfield 170, 3) := by decide +kernel
theorem dX8_finds_165 : decode cX8_finds 165 = .ok (.iconst 1, 1) := by decide +kernel
theorem dX8_finds_166 : decode cX8_finds 166 = .ok (.if_icmp .eq 11, 3) := by decide +kernel
theorem dX8_finds_169 : decode cX8_finds 169 = .ok (.aload_n 0, 1) := by decide +kernel
theorem dX8_finds_170 : decode cX8_finds 170 = .ok (.getfield 170, 3) := by decide +kernel
theorem dX8_finds_173 : decode cX8_finds 173 = .ok (.iconst 3, 1) := by decide +kernel
theorem dX8_finds_174 : decode cX8_finds 174 = .ok (.if_icmp .ne 24, 3) := by decide +kernel
theorem dX8_finds_177 : decode cX8_finds 177 = .ok (.aload_n 0, 1) := by decide +kernel
theorem dX8_finds_178 : decode cX8_finds 178 = .ok (.getfield 9, 3) := by decide +kernel
theorem dX8_finds_181 : decode cX8_finds 181 = .ok (.aload_n 0, 1) := by decide +kernel
theorem dX8_finds_182 : decode cX8_finds 182 = .ok (.getfield 167, 3) := by decide +kernel
theorem dX8_finds_185 : decode cX8_finds 185 = .ok (.iconst 2, 1) := by decide +kernel
theorem dX8_finds_186 : decode cX8_finds 186 = .ok (.iadd, 1) := by decide +kernel
theorem dX8_finds_187 : decode cX8_finds 187 = .ok (.iload_n 1, 1) := by decide +kernel
theorem dX8_finds_188 : decode cX8_finds 188 = .ok (.iastore, 1) := by decide +kernel
theorem dX8_finds_189 : decode cX8_finds 189 = .ok (.aload_n 0, 1) := by decide +kernel
theorem dX8_finds_190 : decode cX8_finds 190 = .ok (.aload_n 0, 1) := by decide +kernel
theorem dX8_finds_191 : decode cX8_finds 191 = .ok (.getfield 167, 3) := by decide +kernel
theorem dX8_finds_194 : decode cX8_finds 194 = .ok (.iload_n 1, 1) := by decide +kernel
theorem dX8_finds_195 : decode cX8_finds 195 = .ok (.invokevirtual 182, 3) := by decide +kernel
theorem dX8_finds_198 : decode cX8_finds 198 = .ok (.aload_n 0, 1) := by decide +kernel
theorem dX8_finds_199 : decode cX8_finds 199 = .ok (.getfield 9, 3) := by decide +kernel
theorem dX8_finds_202 : decode cX8_finds 202 = .ok (.aload_n 0, 1) := by decide +kernel
theorem dX8_finds_203 : decode cX8_finds 203 = .ok (.getfield 167, 3) := by decide +kernel
theorem dX8_finds_206 : decode cX8_finds 206 = .ok (.bipush 8, 2) := by decide +kernel
theorem dX8_finds_208 : decode cX8_finds 208 = .ok (.iadd, 1) := by decide +kernel
theorem dX8_finds_209 : decode cX8_finds 209 = .ok (.aload_n 0, 1) := by decide +kernel
theorem dX8_finds_210 : decode cX8_finds 210 = .ok (.getfield 9, 3) := by decide +kernel
theorem dX8_finds_213 : decode cX8_finds 213 = .ok (.bipush 21, 2) := by decide +kernel
theorem dX8_finds_215 : decode cX8_finds 215 = .ok (.iaload, 1) := by decide +kernel
theorem dX8_finds_216 : decode cX8_finds 216 = .ok (.iastore, 1) := by decide +kernel
theorem dX8_finds_217 : decode cX8_finds 217 = .ok (.return_, 1) := by decide +kernel
def mR_finds_198 (N : Nat) (σ : ST) (x1 : Int32) : Option (ST) :=
  zLet (σ 0 12) fun v203 =>
  zLet ((v203 : Int32) + (8)) fun v208 =>
  zGet (σ 1) 1974 (21) fun v215 =>
  zSet σ 1 1974 v208 v215 fun s216 =>
  some s216
set_option maxRecDepth 20000 in
set_option maxHeartbeats 2000000 in
theorem tR_finds_198 {adr : Nat → Nat} {cI cZ : ClassId} {X : zX} {q : ST} (B : zC X 2 (wdR adr cI cZ) cX8_finds RX8 none { frames := 7, cells := 0, slots := 0, locals := 162 }) (N : Nat) (σ : ST) (x1 : Int32) (hf : mR_finds_198 N σ x1 = some q) : zJ X 2 (wdR adr cI cZ) (zu q) 198 [(0, .ref (adr 0)), (1, .int x1)] [] σ := by
  refine z_aload_n B dX8_finds_198 0 rfl rfl ?_
  refine fR_g_row B dX8_finds_199 ?_
  refine z_aload_n B dX8_finds_202 0 rfl rfl ?_
  refine fR_g_its B dX8_finds_203 hf (fun v203 hf => ?_)
  refine z_bipush B (8) dX8_finds_206 zc_bipush_8 ?_
  refine z_iadd B dX8_finds_208 hf (fun v208 hf => ?_)
  refine z_aload_n B dX8_finds_209 0 rfl rfl ?_
  refine fR_g_row B dX8_finds_210 ?_
  refine z_bipush B (21) dX8_finds_213 zc_bipush_21 ?_
  refine fR_l_row B dX8_finds_215 hf (fun v215 hf => ?_)
  refine fR_s_row B dX8_finds_216 hf (fun s216 hf => ?_)
  exact z_return B dX8_finds_217 hf
def mR_finds_177 (N : Nat) (σ : ST) (x1 : Int32) : Option (ST) :=
  zLet (σ 0 12) fun v182 =>
  zLet ((v182 : Int32) + (2)) fun v186 =>
  zSet σ 1 1974 v186 x1 fun s188 =>
  zLet (s188 0 12) fun v191 =>
  zCallu (mR_goesOn N s188 v191 x1) fun s195 =>
  mR_finds_198 N s195 x1
set_option maxRecDepth 20000 in
set_option maxHeartbeats 2000000 in
theorem tR_finds_177 {adr : Nat → Nat} {cI cZ : ClassId} {X : zX} {q : ST} (B : zC X 2 (wdR adr cI cZ) cX8_finds RX8 none { frames := 7, cells := 0, slots := 0, locals := 162 }) (N : Nat) (σ : ST) (x1 : Int32) (hf : mR_finds_177 N σ x1 = some q) : zJ X 2 (wdR adr cI cZ) (zu q) 177 [(0, .ref (adr 0)), (1, .int x1)] [] σ := by
  refine z_aload_n B dX8_finds_177 0 rfl rfl ?_
  refine fR_g_row B dX8_finds_178 ?_
  refine z_aload_n B dX8_finds_181 0 rfl rfl ?_
  refine fR_g_its B dX8_finds_182 hf (fun v182 hf => ?_)
  refine z_iconst B (2) dX8_finds_185 zc_iconst_2 ?_
  refine z_iadd B dX8_finds_186 hf (fun v186 hf => ?_)
  refine z_iload_n B dX8_finds_187 1 rfl rfl ?_
  refine fR_s_row B dX8_finds_188 hf (fun s188 hf => ?_)
  refine z_aload_n B dX8_finds_189 0 rfl rfl ?_
  refine z_aload_n B dX8_finds_190 0 rfl rfl ?_
  refine fR_g_its B dX8_finds_191 hf (fun v191 hf => ?_)
  refine z_iload_n B dX8_finds_194 1 rfl rfl ?_
  refine z_callVu B (As := [.int v191, .int x1]) kcV_X8_182 dX8_finds_195 hf (fun q hq => cR_goesOn q hq) (wR_o (adr := adr) (cI := cI) (cZ := cZ)) rfl rfl rfl rfl (Nat.le_of_ble_eq_true rfl) rfl rfl ⟨Nat.le_of_ble_eq_true rfl, Nat.le_of_ble_eq_true rfl⟩ (fun s195 hf => ?_)
  exact tR_finds_198 B N s195 x1 hf
def mR_finds_161 (N : Nat) (σ : ST) (x1 : Int32) : Option (ST) :=
  zLet (σ 0 11) fun v162 =>
  if (v162 : Int32) = (1) then
    mR_finds_177 N σ x1
  else
    zLet (σ 0 11) fun v170 =>
    if (v170 : Int32) = (3) then
      mR_finds_177 N σ x1
    else
      mR_finds_198 N σ x1
set_option maxRecDepth 20000 in
set_option maxHeartbeats 2000000 in
theorem tR_finds_161 {adr : Nat → Nat} {cI cZ : ClassId} {X : zX} {q : ST} (B : zC X 2 (wdR adr cI cZ) cX8_finds RX8 none { frames := 7, cells := 0, slots := 0, locals := 162 }) (N : Nat) (σ : ST) (x1 : Int32) (hf : mR_finds_161 N σ x1 = some q) : zJ X 2 (wdR adr cI cZ) (zu q) 161 [(0, .ref (adr 0)), (1, .int x1)] [] σ := by
  refine z_aload_n B dX8_finds_161 0 rfl rfl ?_
  refine fR_g_how B dX8_finds_162 hf (fun v162 hf => ?_)
  refine z_iconst B (1) dX8_finds_165 zc_iconst_1 ?_
  refine z_icmp_eq B 177 dX8_finds_166 (by decide) hf (fun hf => ?_) (fun hf => ?_)
  · exact tR_finds_177 B N σ x1 hf
  · refine z_aload_n B dX8_finds_169 0 rfl rfl ?_
    refine fR_g_how B dX8_finds_170 hf (fun v170 hf => ?_)
    refine z_iconst B (3) dX8_finds_173 zc_iconst_3 ?_
    refine z_icmp_ne B 198 dX8_finds_174 (by decide) hf (fun hf => ?_) (fun hf => ?_)
    · exact tR_finds_198 B N σ x1 hf
    · exact tR_finds_177 B N σ x1 hf
def mR_finds_117 (N : Nat) (σ : ST) (x1 : Int32) : Option (ST) :=
  zLet (σ 0 11) fun v118 =>
  if (v118 : Int32) = (3) then
    zLet (σ 0 12) fun v130 =>
    zLet ((v130 : Int32) + (3)) fun v134 =>
    zLet (σ 0 12) fun v141 =>
    zLet ((v141 : Int32) + (2)) fun v145 =>
    zGet (σ 1) 1974 v145 fun v146 =>
    zLet ((x1 : Int32) - v146) fun v147 =>
    zSet σ 1 1974 v134 v147 fun s148 =>
    zLet (s148 0 12) fun v154 =>
    zLet ((v154 : Int32) + (4)) fun v158 =>
    zSet s148 1 1974 v158 (1) fun s160 =>
    mR_finds_161 N s160 x1
  else
    mR_finds_161 N σ x1
set_option maxRecDepth 20000 in
set_option maxHeartbeats 2000000 in
theorem tR_finds_117 {adr : Nat → Nat} {cI cZ : ClassId} {X : zX} {q : ST} (B : zC X 2 (wdR adr cI cZ) cX8_finds RX8 none { frames := 7, cells := 0, slots := 0, locals := 162 }) (N : Nat) (σ : ST) (x1 : Int32) (hf : mR_finds_117 N σ x1 = some q) : zJ X 2 (wdR adr cI cZ) (zu q) 117 [(0, .ref (adr 0)), (1, .int x1)] [] σ := by
  refine z_aload_n B dX8_finds_117 0 rfl rfl ?_
  refine fR_g_how B dX8_finds_118 hf (fun v118 hf => ?_)
  refine z_iconst B (3) dX8_finds_121 zc_iconst_3 ?_
  refine z_icmp_ne B 161 dX8_finds_122 (by decide) hf (fun hf => ?_) (fun hf => ?_)
  · exact tR_finds_161 B N σ x1 hf
  · refine z_aload_n B dX8_finds_125 0 rfl rfl ?_
    refine fR_g_row B dX8_finds_126 ?_
    refine z_aload_n B dX8_finds_129 0 rfl rfl ?_
    refine fR_g_its B dX8_finds_130 hf (fun v130 hf => ?_)
    refine z_iconst B (3) dX8_finds_133 zc_iconst_3 ?_
    refine z_iadd B dX8_finds_134 hf (fun v134 hf => ?_)
    refine z_iload_n B dX8_finds_135 1 rfl rfl ?_
    refine z_aload_n B dX8_finds_136 0 rfl rfl ?_
    refine fR_g_row B dX8_finds_137 ?_
    refine z_aload_n B dX8_finds_140 0 rfl rfl ?_
    refine fR_g_its B dX8_finds_141 hf (fun v141 hf => ?_)
    refine z_iconst B (2) dX8_finds_144 zc_iconst_2 ?_
    refine z_iadd B dX8_finds_145 hf (fun v145 hf => ?_)
    refine fR_l_row B dX8_finds_146 hf (fun v146 hf => ?_)
    refine z_isub B dX8_finds_147 hf (fun v147 hf => ?_)
    refine fR_s_row B dX8_finds_148 hf (fun s148 hf => ?_)
    refine z_aload_n B dX8_finds_149 0 rfl rfl ?_
    refine fR_g_row B dX8_finds_150 ?_
    refine z_aload_n B dX8_finds_153 0 rfl rfl ?_
    refine fR_g_its B dX8_finds_154 hf (fun v154 hf => ?_)
    refine z_iconst B (4) dX8_finds_157 zc_iconst_4 ?_
    refine z_iadd B dX8_finds_158 hf (fun v158 hf => ?_)
    refine z_iconst B (1) dX8_finds_159 zc_iconst_1 ?_
    refine fR_s_row B dX8_finds_160 hf (fun s160 hf => ?_)
    exact tR_finds_161 B N s160 x1 hf
def mR_finds_80 (N : Nat) (σ : ST) (x1 : Int32) : Option (ST) :=
  zLet (σ 0 11) fun v81 =>
  if (v81 : Int32) = (1) then
    zLet (σ 0 12) fun v93 =>
    zLet ((v93 : Int32) + (4)) fun v97 =>
    zLet (σ 0 12) fun v105 =>
    zLet ((v105 : Int32) + (4)) fun v109 =>
    zGet (σ 1) 1974 v109 fun v110 =>
    zLet ((v110 : Int32) + (1)) fun v112 =>
    zCall (mR_lesser N σ (99) v112) fun v113 s113 =>
    zSet s113 1 1974 v97 v113 fun s116 =>
    mR_finds_117 N s116 x1
  else
    mR_finds_117 N σ x1
set_option maxRecDepth 20000 in
set_option maxHeartbeats 2000000 in
theorem tR_finds_80 {adr : Nat → Nat} {cI cZ : ClassId} {X : zX} {q : ST} (B : zC X 2 (wdR adr cI cZ) cX8_finds RX8 none { frames := 7, cells := 0, slots := 0, locals := 162 }) (N : Nat) (σ : ST) (x1 : Int32) (hf : mR_finds_80 N σ x1 = some q) : zJ X 2 (wdR adr cI cZ) (zu q) 80 [(0, .ref (adr 0)), (1, .int x1)] [] σ := by
  refine z_aload_n B dX8_finds_80 0 rfl rfl ?_
  refine fR_g_how B dX8_finds_81 hf (fun v81 hf => ?_)
  refine z_iconst B (1) dX8_finds_84 zc_iconst_1 ?_
  refine z_icmp_ne B 117 dX8_finds_85 (by decide) hf (fun hf => ?_) (fun hf => ?_)
  · exact tR_finds_117 B N σ x1 hf
  · refine z_aload_n B dX8_finds_88 0 rfl rfl ?_
    refine fR_g_row B dX8_finds_89 ?_
    refine z_aload_n B dX8_finds_92 0 rfl rfl ?_
    refine fR_g_its B dX8_finds_93 hf (fun v93 hf => ?_)
    refine z_iconst B (4) dX8_finds_96 zc_iconst_4 ?_
    refine z_iadd B dX8_finds_97 hf (fun v97 hf => ?_)
    refine z_bipush B (99) dX8_finds_98 zc_bipush_99 ?_
    refine z_aload_n B dX8_finds_100 0 rfl rfl ?_
    refine fR_g_row B dX8_finds_101 ?_
    refine z_aload_n B dX8_finds_104 0 rfl rfl ?_
    refine fR_g_its B dX8_finds_105 hf (fun v105 hf => ?_)
    refine z_iconst B (4) dX8_finds_108 zc_iconst_4 ?_
    refine z_iadd B dX8_finds_109 hf (fun v109 hf => ?_)
    refine fR_l_row B dX8_finds_110 hf (fun v110 hf => ?_)
    refine z_iconst B (1) dX8_finds_111 zc_iconst_1 ?_
    refine z_iadd B dX8_finds_112 hf (fun v112 hf => ?_)
    refine z_callSi B (As := [.int (99), .int v112]) kcS_X8_151 dX8_finds_113 hf (fun q hq => cR_lesser q hq) rfl rfl (Nat.le_of_ble_eq_true rfl) rfl rfl ⟨Nat.le_of_ble_eq_true rfl, Nat.le_of_ble_eq_true rfl⟩ (fun v113 s113 hf => ?_)
    refine fR_s_row B dX8_finds_116 hf (fun s116 hf => ?_)
    exact tR_finds_117 B N s116 x1 hf
def mR_finds_58 (N : Nat) (σ : ST) (x1 : Int32) : Option (ST) :=
  zLet (σ 0 12) fun v59 =>
  if (v59 : Int32) = (-1) then
    zCall (mR_comes N σ x1) fun v69 s69 =>
    zLet (zUp s69 0 12 v69) fun s72 =>
    zLet (zUp s72 0 11 (4)) fun s77 =>
    mR_finds_80 N s77 x1
  else
    mR_finds_80 N σ x1
set_option maxRecDepth 20000 in
set_option maxHeartbeats 2000000 in
theorem tR_finds_58 {adr : Nat → Nat} {cI cZ : ClassId} {X : zX} {q : ST} (B : zC X 2 (wdR adr cI cZ) cX8_finds RX8 none { frames := 7, cells := 0, slots := 0, locals := 162 }) (N : Nat) (σ : ST) (x1 : Int32) (hf : mR_finds_58 N σ x1 = some q) : zJ X 2 (wdR adr cI cZ) (zu q) 58 [(0, .ref (adr 0)), (1, .int x1)] [] σ := by
  refine z_aload_n B dX8_finds_58 0 rfl rfl ?_
  refine fR_g_its B dX8_finds_59 hf (fun v59 hf => ?_)
  refine z_iconst B (-1) dX8_finds_62 zc_iconst_m1 ?_
  refine z_icmp_ne B 80 dX8_finds_63 (by decide) hf (fun hf => ?_) (fun hf => ?_)
  · exact tR_finds_80 B N σ x1 hf
  · refine z_aload_n B dX8_finds_66 0 rfl rfl ?_
    refine z_aload_n B dX8_finds_67 0 rfl rfl ?_
    refine z_iload_n B dX8_finds_68 1 rfl rfl ?_
    refine z_callVi B (As := [.int x1]) kcV_X8_179 dX8_finds_69 hf (fun q hq => cR_comes q hq) (wR_o (adr := adr) (cI := cI) (cZ := cZ)) rfl rfl rfl rfl (Nat.le_of_ble_eq_true rfl) rfl rfl ⟨Nat.le_of_ble_eq_true rfl, Nat.le_of_ble_eq_true rfl⟩ (fun v69 s69 hf => ?_)
    refine fR_p_its B dX8_finds_72 hf (fun s72 hf => ?_)
    refine z_aload_n B dX8_finds_75 0 rfl rfl ?_
    refine z_iconst B (4) dX8_finds_76 zc_iconst_4 ?_
    refine fR_p_how B dX8_finds_77 hf (fun s77 hf => ?_)
    exact tR_finds_80 B N s77 x1 hf
def mR_finds_36 (N : Nat) (σ : ST) (x1 : Int32) : Option (ST) :=
  zLet (σ 0 12) fun v37 =>
  if (v37 : Int32) = (-1) then
    zCall (mR_pairedBy N σ x1) fun v47 s47 =>
    zLet (zUp s47 0 12 v47) fun s50 =>
    zLet (zUp s50 0 11 (3)) fun s55 =>
    mR_finds_58 N s55 x1
  else
    mR_finds_58 N σ x1
set_option maxRecDepth 20000 in
set_option maxHeartbeats 2000000 in
theorem tR_finds_36 {adr : Nat → Nat} {cI cZ : ClassId} {X : zX} {q : ST} (B : zC X 2 (wdR adr cI cZ) cX8_finds RX8 none { frames := 7, cells := 0, slots := 0, locals := 162 }) (N : Nat) (σ : ST) (x1 : Int32) (hf : mR_finds_36 N σ x1 = some q) : zJ X 2 (wdR adr cI cZ) (zu q) 36 [(0, .ref (adr 0)), (1, .int x1)] [] σ := by
  refine z_aload_n B dX8_finds_36 0 rfl rfl ?_
  refine fR_g_its B dX8_finds_37 hf (fun v37 hf => ?_)
  refine z_iconst B (-1) dX8_finds_40 zc_iconst_m1 ?_
  refine z_icmp_ne B 58 dX8_finds_41 (by decide) hf (fun hf => ?_) (fun hf => ?_)
  · exact tR_finds_58 B N σ x1 hf
  · refine z_aload_n B dX8_finds_44 0 rfl rfl ?_
    refine z_aload_n B dX8_finds_45 0 rfl rfl ?_
    refine z_iload_n B dX8_finds_46 1 rfl rfl ?_
    refine z_callVi B (As := [.int x1]) kcV_X8_176 dX8_finds_47 hf (fun q hq => cR_pairedBy q hq) (wR_o (adr := adr) (cI := cI) (cZ := cZ)) rfl rfl rfl rfl (Nat.le_of_ble_eq_true rfl) rfl rfl ⟨Nat.le_of_ble_eq_true rfl, Nat.le_of_ble_eq_true rfl⟩ (fun v47 s47 hf => ?_)
    refine fR_p_its B dX8_finds_50 hf (fun s50 hf => ?_)
    refine z_aload_n B dX8_finds_53 0 rfl rfl ?_
    refine z_iconst B (3) dX8_finds_54 zc_iconst_3 ?_
    refine fR_p_how B dX8_finds_55 hf (fun s55 hf => ?_)
    exact tR_finds_58 B N s55 x1 hf
def mR_finds (N : Nat) (σ : ST) (x1 : Int32) : Option (ST) :=
  zCall (mR_steppedBy N σ x1) fun v3 s3 =>
  zLet (zUp s3 0 12 v3) fun s6 =>
  zLet (zUp s6 0 11 (1)) fun s11 =>
  zLet (s11 0 12) fun v15 =>
  if (v15 : Int32) = (-1) then
    zCall (mR_lastAt N s11 x1) fun v25 s25 =>
    zLet (zUp s25 0 12 v25) fun s28 =>
    zLet (zUp s28 0 11 (2)) fun s33 =>
    mR_finds_36 N s33 x1
  else
    mR_finds_36 N s11 x1
set_option maxRecDepth 20000 in
set_option maxHeartbeats 2000000 in
theorem cR_finds {adr : Nat → Nat} {cI cZ : ClassId} {l : Launch} {D : va_G} {N : Nat} {σ : ST} {x1 : Int32} (q : ST) (hf : mR_finds N σ x1 = some q) : zM l D (wdR adr cI cZ) yX8_finds cX8_finds 2 none ({ frames := 7, cells := 0, slots := 0, locals := 162 }) [.ref (adr 0), .int x1] σ (zu q) := by
  refine zM_of sfR_ok rfl (Nat.le_of_ble_eq_true rfl) [(0, .ref (adr 0)), (1, .int x1)] rfl (fun X hX1 hX2 B => ?_)
  have B : zC X 2 (wdR adr cI cZ) cX8_finds RX8 none { frames := 7, cells := 0, slots := 0, locals := 162 } := B
  refine z_aload_n B dX8_finds_0 0 rfl rfl ?_
  refine z_aload_n B dX8_finds_1 0 rfl rfl ?_
  refine z_iload_n B dX8_finds_2 1 rfl rfl ?_
  refine z_callVi B (As := [.int x1]) kcV_X8_164 dX8_finds_3 hf (fun q hq => cR_steppedBy q hq) (wR_o (adr := adr) (cI := cI) (cZ := cZ)) rfl rfl rfl rfl (Nat.le_of_ble_eq_true rfl) rfl rfl ⟨Nat.le_of_ble_eq_true rfl, Nat.le_of_ble_eq_true rfl⟩ (fun v3 s3 hf => ?_)
  refine fR_p_its B dX8_finds_6 hf (fun s6 hf => ?_)
  refine z_aload_n B dX8_finds_9 0 rfl rfl ?_
  refine z_iconst B (1) dX8_finds_10 zc_iconst_1 ?_
  refine fR_p_how B dX8_finds_11 hf (fun s11 hf => ?_)
  refine z_aload_n B dX8_finds_14 0 rfl rfl ?_
  refine fR_g_its B dX8_finds_15 hf (fun v15 hf => ?_)
  refine z_iconst B (-1) dX8_finds_18 zc_iconst_m1 ?_
  refine z_icmp_ne B 36 dX8_finds_19 (by decide) hf (fun hf => ?_) (fun hf => ?_)
  · exact tR_finds_36 B N s11 x1 hf
  · refine z_aload_n B dX8_finds_22 0 rfl rfl ?_
    refine z_aload_n B dX8_finds_23 0 rfl rfl ?_
    refine z_iload_n B dX8_finds_24 1 rfl rfl ?_
    refine z_callVi B (As := [.int x1]) kcV_X8_173 dX8_finds_25 hf (fun q hq => cR_lastAt q hq) (wR_o (adr := adr) (cI := cI) (cZ := cZ)) rfl rfl rfl rfl (Nat.le_of_ble_eq_true rfl) rfl rfl ⟨Nat.le_of_ble_eq_true rfl, Nat.le_of_ble_eq_true rfl⟩ (fun v25 s25 hf => ?_)
    refine fR_p_its B dX8_finds_28 hf (fun s28 hf => ?_)
    refine z_aload_n B dX8_finds_31 0 rfl rfl ?_
    refine z_iconst B (2) dX8_finds_32 zc_iconst_2 ?_
    refine fR_p_how B dX8_finds_33 hf (fun s33 hf => ?_)
    exact tR_finds_36 B N s33 x1 hf
theorem dX8_joins_0 : decode cX8_joins 0 = .ok (.iconst 0, 1) := by decide +kernel
theorem dX8_joins_1 : decode cX8_joins 1 = .ok (.istore_n 1, 1) := by decide +kernel
theorem dX8_joins_2 : decode cX8_joins 2 = .ok (.iload_n 1, 1) := by decide +kernel
theorem dX8_joins_3 : decode cX8_joins 3 = .ok (.bipush 6, 2) := by decide +kernel
theorem dX8_joins_5 : decode cX8_joins 5 = .ok (.if_icmp .ge 171, 3) := by decide +kernel
theorem dX8_joins_8 : decode cX8_joins 8 = .ok (.aload_n 0, 1) := by decide +kernel
theorem dX8_joins_9 : decode cX8_joins 9 = .ok (.getfield 167, 3) := by decide +kernel
theorem dX8_joins_12 : decode cX8_joins 12 = .ok (.iconst (-1), 1) := by decide +kernel
theorem dX8_joins_13 : decode cX8_joins 13 = .ok (.if_icmp .eq 163, 3) := by decide +kernel
theorem dX8_joins_16 : decode cX8_joins 16 = .ok (.iload_n 1, 1) := by decide +kernel
theorem dX8_joins_17 : decode cX8_joins 17 = .ok (.invokestatic 89, 3) := by decide +kernel
theorem dX8_joins_20 : decode cX8_joins 20 = .ok (.istore_n 2, 1) := by decide +kernel
theorem dX8_joins_21 : decode cX8_joins 21 = .ok (.iload_n 2, 1) := by decide +kernel
theorem dX8_joins_22 : decode cX8_joins 22 = .ok (.aload_n 0, 1) := by decide +kernel
theorem dX8_joins_23 : decode cX8_joins 23 = .ok (.getfield 167, 3) := by decide +kernel
theorem dX8_joins_26 : decode cX8_joins 26 = .ok (.if_icmp .eq 144, 3) := by decide +kernel
theorem dX8_joins_29 : decode cX8_joins 29 = .ok (.aload_n 0, 1) := by decide +kernel
theorem dX8_joins_30 : decode cX8_joins 30 = .ok (.getfield 9, 3) := by decide +kernel
theorem dX8_joins_33 : decode cX8_joins 33 = .ok (.iload_n 2, 1) := by decide +kernel
theorem dX8_joins_34 : decode cX8_joins 34 = .ok (.iaload, 1) := by decide +kernel
theorem dX8_joins_35 : decode cX8_joins 35 = .ok (.iconst 1, 1) := by decide +kernel
theorem dX8_joins_36 : decode cX8_joins 36 = .ok (.if_icmp .ne 134, 3) := by decide +kernel
theorem dX8_joins_39 : decode cX8_joins 39 = .ok (.aload_n 0, 1) := by decide +kernel
theorem dX8_joins_40 : decode cX8_joins 40 = .ok (.getfield 9, 3) := by decide +kernel
theorem dX8_joins_43 : decode cX8_joins 43 = .ok (.aload_n 0, 1) := by decide +kernel
theorem dX8_joins_44 : decode cX8_joins 44 = .ok (.getfield 167, 3) := by decide +kernel
theorem dX8_joins_47 : decode cX8_joins 47 = .ok (.iconst 3, 1) := by decide +kernel
theorem dX8_joins_48 : decode cX8_joins 48 = .ok (.iadd, 1) := by decide +kernel
theorem dX8_joins_49 : decode cX8_joins 49 = .ok (.iaload, 1) := by decide +kernel
theorem dX8_joins_50 : decode cX8_joins 50 = .ok (.ifCond .eq 120, 3) := by decide +kernel
theorem dX8_joins_53 : decode cX8_joins 53 = .ok (.aload_n 0, 1) := by decide +kernel
theorem dX8_joins_54 : decode cX8_joins 54 = .ok (.getfield 9, 3) := by decide +kernel
theorem dX8_joins_57 : decode cX8_joins 57 = .ok (.iload_n 2, 1) := by decide +kernel
theorem dX8_joins_58 : decode cX8_joins 58 = .ok (.iconst 3, 1) := by decide +kernel
theorem dX8_joins_59 : decode cX8_joins 59 = .ok (.iadd, 1) := by decide +kernel
theorem dX8_joins_60 : decode cX8_joins 60 = .ok (.iaload, 1) := by decide +kernel
theorem dX8_joins_61 : decode cX8_joins 61 = .ok (.aload_n 0, 1) := by decide +kernel
theorem dX8_joins_62 : decode cX8_joins 62 = .ok (.getfield 9, 3) := by decide +kernel
theorem dX8_joins_65 : decode cX8_joins 65 = .ok (.aload_n 0, 1) := by decide +kernel
theorem dX8_joins_66 : decode cX8_joins 66 = .ok (.getfield 167, 3) := by decide +kernel
theorem dX8_joins_69 : decode cX8_joins 69 = .ok (.iconst 3, 1) := by decide +kernel
theorem dX8_joins_70 : decode cX8_joins 70 = .ok (.iadd, 1) := by decide +kernel
theorem dX8_joins_71 : decode cX8_joins 71 = .ok (.iaload, 1) := by decide +kernel
theorem dX8_joins_72 : decode cX8_joins 72 = .ok (.if_icmp .ne 98, 3) := by decide +kernel
theorem dX8_joins_75 : decode cX8_joins 75 = .ok (.aload_n 0, 1) := by decide +kernel
theorem dX8_joins_76 : decode cX8_joins 76 = .ok (.getfield 9, 3) := by decide +kernel
theorem dX8_joins_79 : decode cX8_joins 79 = .ok (.iload_n 2, 1) := by decide +kernel
theorem dX8_joins_80 : decode cX8_joins 80 = .ok (.iconst 2, 1) := by decide +kernel
theorem dX8_joins_81 : decode cX8_joins 81 = .ok (.iadd, 1) := by decide +kernel
theorem dX8_joins_82 : decode cX8_joins 82 = .ok (.iaload, 1) := by decide +kernel
theorem dX8_joins_83 : decode cX8_joins 83 = .ok (.aload_n 0, 1) := by decide +kernel
theorem dX8_joins_84 : decode cX8_joins 84 = .ok (.getfield 9, 3) := by decide +kernel
theorem dX8_joins_87 : decode cX8_joins 87 = .ok (.aload_n 0, 1) := by decide +kernel
theorem dX8_joins_88 : decode cX8_joins 88 = .ok (.getfield 167, 3) := by decide +kernel
theorem dX8_joins_91 : decode cX8_joins 91 = .ok (.iconst 2, 1) := by decide +kernel
theorem dX8_joins_92 : decode cX8_joins 92 = .ok (.iadd, 1) := by decide +kernel
theorem dX8_joins_93 : decode cX8_joins 93 = .ok (.iaload, 1) := by decide +kernel
theorem dX8_joins_94 : decode cX8_joins 94 = .ok (.if_icmp .ne 76, 3) := by decide +kernel
theorem dX8_joins_97 : decode cX8_joins 97 = .ok (.aload_n 0, 1) := by decide +kernel
theorem dX8_joins_98 : decode cX8_joins 98 = .ok (.getfield 9, 3) := by decide +kernel
theorem dX8_joins_101 : decode cX8_joins 101 = .ok (.bipush 24, 2) := by decide +kernel
theorem dX8_joins_103 : decode cX8_joins 103 = .ok (.dup2, 1) := by decide +kernel
theorem dX8_joins_104 : decode cX8_joins 104 = .ok (.iaload, 1) := by decide +kernel
theorem dX8_joins_105 : decode cX8_joins 105 = .ok (.iconst 1, 1) := by decide +kernel
theorem dX8_joins_106 : decode cX8_joins 106 = .ok (.iadd, 1) := by decide +kernel
theorem dX8_joins_107 : decode cX8_joins 107 = .ok (.iastore, 1) := by decide +kernel
theorem dX8_joins_108 : decode cX8_joins 108 = .ok (.aload_n 0, 1) := by decide +kernel
theorem dX8_joins_109 : decode cX8_joins 109 = .ok (.getfield 9, 3) := by decide +kernel
theorem dX8_joins_112 : decode cX8_joins 112 = .ok (.aload_n 0, 1) := by decide +kernel
theorem dX8_joins_113 : decode cX8_joins 113 = .ok (.getfield 167, 3) := by decide +kernel
theorem dX8_joins_116 : decode cX8_joins 116 = .ok (.iconst 1, 1) := by decide +kernel
theorem dX8_joins_117 : decode cX8_joins 117 = .ok (.iadd, 1) := by decide +kernel
theorem dX8_joins_118 : decode cX8_joins 118 = .ok (.iaload, 1) := by decide +kernel
theorem dX8_joins_119 : decode cX8_joins 119 = .ok (.aload_n 0, 1) := by decide +kernel
theorem dX8_joins_120 : decode cX8_joins 120 = .ok (.getfield 9, 3) := by decide +kernel
theorem dX8_joins_123 : decode cX8_joins 123 = .ok (.iload_n 2, 1) := by decide +kernel
theorem dX8_joins_124 : decode cX8_joins 124 = .ok (.iconst 1, 1) := by decide +kernel
theorem dX8_joins_125 : decode cX8_joins 125 = .ok (.iadd, 1) := by decide +kernel
theorem dX8_joins_126 : decode cX8_joins 126 = .ok (.iaload, 1) := by decide +kernel
theorem dX8_joins_127 : decode cX8_joins 127 = .ok (.if_icmp .le 7, 3) := by decide +kernel
theorem dX8_joins_130 : decode cX8_joins 130 = .ok (.iconst 1, 1) := by decide +kernel
theorem dX8_joins_131 : decode cX8_joins 131 = .ok (.goto 4, 3) := by decide +kernel
theorem dX8_joins_134 : decode cX8_joins 134 = .ok (.iconst 0, 1) := by decide +kernel
theorem dX8_joins_135 : decode cX8_joins 135 = .ok (.istore_n 3, 1) := by decide +kernel
theorem dX8_joins_136 : decode cX8_joins 136 = .ok (.aload_n 0, 1) := by decide +kernel
theorem dX8_joins_137 : decode cX8_joins 137 = .ok (.getfield 9, 3) := by decide +kernel
theorem dX8_joins_140 : decode cX8_joins 140 = .ok (.iload_n 3, 1) := by decide +kernel
theorem dX8_joins_141 : decode cX8_joins 141 = .ok (.ifCond .eq 10, 3) := by decide +kernel
theorem dX8_joins_144 : decode cX8_joins 144 = .ok (.aload_n 0, 1) := by decide +kernel
theorem dX8_joins_145 : decode cX8_joins 145 = .ok (.getfield 167, 3) := by decide +kernel
theorem dX8_joins_148 : decode cX8_joins 148 = .ok (.goto 4, 3) := by decide +kernel
theorem dX8_joins_151 : decode cX8_joins 151 = .ok (.iload_n 2, 1) := by decide +kernel
theorem dX8_joins_152 : decode cX8_joins 152 = .ok (.iconst 0, 1) := by decide +kernel
theorem dX8_joins_153 : decode cX8_joins 153 = .ok (.iastore, 1) := by decide +kernel
theorem dX8_joins_154 : decode cX8_joins 154 = .ok (.aload_n 0, 1) := by decide +kernel
theorem dX8_joins_155 : decode cX8_joins 155 = .ok (.iload_n 3, 1) := by decide +kernel
theorem dX8_joins_156 : decode cX8_joins 156 = .ok (.ifCond .eq 7, 3) := by decide +kernel
theorem dX8_joins_159 : decode cX8_joins 159 = .ok (.iconst (-1), 1) := by decide +kernel
theorem dX8_joins_160 : decode cX8_joins 160 = .ok (.goto 7, 3) := by decide +kernel
theorem dX8_joins_163 : decode cX8_joins 163 = .ok (.aload_n 0, 1) := by decide +kernel
theorem dX8_joins_164 : decode cX8_joins 164 = .ok (.getfield 167, 3) := by decide +kernel
theorem dX8_joins_167 : decode cX8_joins 167 = .ok (.putfield 167, 3) := by decide +kernel
theorem dX8_joins_170 : decode cX8_joins 170 = .ok (.iinc 1 1, 3) := by decide +kernel
theorem dX8_joins_173 : decode cX8_joins 173 = .ok (.goto (-171), 3) := by decide +kernel
theorem dX8_joins_176 : decode cX8_joins 176 = .ok (.return_, 1) := by decide +kernel
def mR_joins_176 (N : Nat) (σ : ST) (x1 : Int32) : Option (ST) :=
  some σ
set_option maxRecDepth 20000 in
set_option maxHeartbeats 2000000 in
theorem tR_joins_176 {adr : Nat → Nat} {cI cZ : ClassId} {X : zX} {q : ST} (B : zC X 4 (wdR adr cI cZ) cX8_joins RX8 none { frames := 1, cells := 0, slots := 0, locals := 20 }) (N : Nat) (σ : ST) (x1 : Int32) (hf : mR_joins_176 N σ x1 = some q) : zJ X 4 (wdR adr cI cZ) (zu q) 176 [(0, .ref (adr 0)), (1, .int x1)] [] σ := by
  exact z_return B dX8_joins_176 hf
def mR_joins_170 (N : Nat) (hd2 : ST → Int32 → Option (ST)) (σ : ST) (x1 : Int32) (x2 : Int32) : Option (ST) :=
  zLet (x1 + (1)) fun v170 =>
  hd2 σ v170
set_option maxRecDepth 20000 in
set_option maxHeartbeats 2000000 in
theorem tR_joins_170 {adr : Nat → Nat} {cI cZ : ClassId} {X : zX} {q : ST} (B : zC X 4 (wdR adr cI cZ) cX8_joins RX8 none { frames := 1, cells := 0, slots := 0, locals := 20 }) (N : Nat) (hd2 : ST → Int32 → Option (ST)) (hh2 : ∀ (σ : ST) (x1 : Int32), hd2 σ x1 = some q → zJ X 4 (wdR adr cI cZ) (zu q) 2 [(0, .ref (adr 0)), (1, .int x1)] [] σ) (σ : ST) (x1 : Int32) (x2 : Int32) (hf : mR_joins_170 N hd2 σ x1 x2 = some q) : zJ X 4 (wdR adr cI cZ) (zu q) 170 [(0, .ref (adr 0)), (1, .int x1), (2, .int x2)] [] σ := by
  refine z_iinc B (1) 1 (fun v170 => [(1, .int v170), (0, .ref (adr 0)), (2, .int x2)]) dX8_joins_170 hf zc_iconst_1 rfl (Nat.le_of_ble_eq_true rfl) (fun _ => rfl) (fun v170 hf => ?_)
  refine z_goto B 2 dX8_joins_173 (by decide) ?_
  exact z_loc [1, 0] _ rfl (hh2 σ v170 hf)
def mR_joins_167 (N : Nat) (hd2 : ST → Int32 → Option (ST)) (σ : ST) (x1 : Int32) (x2 : Int32) (x3 : Int32) (k1 : Int32) : Option (ST) :=
  zLet (zUp σ 0 12 k1) fun s167 =>
  mR_joins_170 N hd2 s167 x1 x2
set_option maxRecDepth 20000 in
set_option maxHeartbeats 2000000 in
theorem tR_joins_167 {adr : Nat → Nat} {cI cZ : ClassId} {X : zX} {q : ST} (B : zC X 4 (wdR adr cI cZ) cX8_joins RX8 none { frames := 1, cells := 0, slots := 0, locals := 20 }) (N : Nat) (hd2 : ST → Int32 → Option (ST)) (hh2 : ∀ (σ : ST) (x1 : Int32), hd2 σ x1 = some q → zJ X 4 (wdR adr cI cZ) (zu q) 2 [(0, .ref (adr 0)), (1, .int x1)] [] σ) (σ : ST) (x1 : Int32) (x2 : Int32) (x3 : Int32) (k1 : Int32) (hf : mR_joins_167 N hd2 σ x1 x2 x3 k1 = some q) : zJ X 4 (wdR adr cI cZ) (zu q) 167 [(0, .ref (adr 0)), (1, .int x1), (2, .int x2), (3, .int x3)] [.int k1, .ref (adr 0)] σ := by
  refine fR_p_its B dX8_joins_167 hf (fun s167 hf => ?_)
  exact z_loc [0, 1, 2] _ rfl (tR_joins_170 B N hd2 hh2 s167 x1 x2 hf)
def mR_joins_152 (N : Nat) (hd2 : ST → Int32 → Option (ST)) (σ : ST) (x1 : Int32) (x2 : Int32) (x3 : Int32) (k1 : Int32) : Option (ST) :=
  zSet σ 1 1974 k1 (0) fun s153 =>
  if (x3 : Int32) = 0 then
    zLet (s153 0 12) fun v164 =>
    mR_joins_167 N hd2 s153 x1 x2 x3 v164
  else
    mR_joins_167 N hd2 s153 x1 x2 x3 (-1)
set_option maxRecDepth 20000 in
set_option maxHeartbeats 2000000 in
theorem tR_joins_152 {adr : Nat → Nat} {cI cZ : ClassId} {X : zX} {q : ST} (B : zC X 4 (wdR adr cI cZ) cX8_joins RX8 none { frames := 1, cells := 0, slots := 0, locals := 20 }) (N : Nat) (hd2 : ST → Int32 → Option (ST)) (hh2 : ∀ (σ : ST) (x1 : Int32), hd2 σ x1 = some q → zJ X 4 (wdR adr cI cZ) (zu q) 2 [(0, .ref (adr 0)), (1, .int x1)] [] σ) (σ : ST) (x1 : Int32) (x2 : Int32) (x3 : Int32) (k1 : Int32) (hf : mR_joins_152 N hd2 σ x1 x2 x3 k1 = some q) : zJ X 4 (wdR adr cI cZ) (zu q) 152 [(0, .ref (adr 0)), (1, .int x1), (2, .int x2), (3, .int x3)] [.int k1, .ref (adr 1)] σ := by
  refine z_iconst B (0) dX8_joins_152 zc_iconst_0 ?_
  refine fR_s_row B dX8_joins_153 hf (fun s153 hf => ?_)
  refine z_aload_n B dX8_joins_154 0 rfl rfl ?_
  refine z_iload_n B dX8_joins_155 3 rfl rfl ?_
  refine z_if_eq B 163 dX8_joins_156 (by decide) hf (fun hf => ?_) (fun hf => ?_)
  · refine z_aload_n B dX8_joins_163 0 rfl rfl ?_
    refine fR_g_its B dX8_joins_164 hf (fun v164 hf => ?_)
    exact tR_joins_167 B N hd2 hh2 s153 x1 x2 x3 v164 hf
  · refine z_iconst B (-1) dX8_joins_159 zc_iconst_m1 ?_
    refine z_goto B 167 dX8_joins_160 (by decide) ?_
    exact tR_joins_167 B N hd2 hh2 s153 x1 x2 x3 (-1) hf
def mR_joins_135 (N : Nat) (hd2 : ST → Int32 → Option (ST)) (σ : ST) (x1 : Int32) (x2 : Int32) (k0 : Int32) : Option (ST) :=
  if (k0 : Int32) = 0 then
    mR_joins_152 N hd2 σ x1 x2 k0 x2
  else
    zLet (σ 0 12) fun v145 =>
    mR_joins_152 N hd2 σ x1 x2 k0 v145
set_option maxRecDepth 20000 in
set_option maxHeartbeats 2000000 in
theorem tR_joins_135 {adr : Nat → Nat} {cI cZ : ClassId} {X : zX} {q : ST} (B : zC X 4 (wdR adr cI cZ) cX8_joins RX8 none { frames := 1, cells := 0, slots := 0, locals := 20 }) (N : Nat) (hd2 : ST → Int32 → Option (ST)) (hh2 : ∀ (σ : ST) (x1 : Int32), hd2 σ x1 = some q → zJ X 4 (wdR adr cI cZ) (zu q) 2 [(0, .ref (adr 0)), (1, .int x1)] [] σ) (σ : ST) (x1 : Int32) (x2 : Int32) (k0 : Int32) (hf : mR_joins_135 N hd2 σ x1 x2 k0 = some q) : zJ X 4 (wdR adr cI cZ) (zu q) 135 [(0, .ref (adr 0)), (1, .int x1), (2, .int x2)] [.int k0] σ := by
  refine z_istore_n B [(3, .int k0), (0, .ref (adr 0)), (1, .int x1), (2, .int x2)] dX8_joins_135 rfl (Nat.le_of_ble_eq_true rfl) rfl ?_
  refine z_aload_n B dX8_joins_136 1 rfl rfl ?_
  refine fR_g_row B dX8_joins_137 ?_
  refine z_iload_n B dX8_joins_140 0 rfl rfl ?_
  refine z_if_eq B 151 dX8_joins_141 (by decide) hf (fun hf => ?_) (fun hf => ?_)
  · refine z_iload_n B dX8_joins_151 3 rfl rfl ?_
    exact z_loc [1, 2, 3, 0] _ rfl (tR_joins_152 B N hd2 hh2 σ x1 x2 k0 x2 hf)
  · refine z_aload_n B dX8_joins_144 1 rfl rfl ?_
    refine fR_g_its B dX8_joins_145 hf (fun v145 hf => ?_)
    refine z_goto B 152 dX8_joins_148 (by decide) ?_
    exact z_loc [1, 2, 3, 0] _ rfl (tR_joins_152 B N hd2 hh2 σ x1 x2 k0 v145 hf)
def mR_joins_B2 (N : Nat) (hd2 : ST → Int32 → Option (ST)) (σ : ST) (x1 : Int32) : Option (ST) :=
  if ((6) : Int32) ≤ x1 then
    mR_joins_176 N σ x1
  else
    zLet (σ 0 12) fun v9 =>
    if (v9 : Int32) = (-1) then
      mR_joins_176 N σ x1
    else
      zCall (mR_streamAt N σ x1) fun v17 s17 =>
      zLet (s17 0 12) fun v23 =>
      if (v17 : Int32) = v23 then
        mR_joins_170 N hd2 s17 x1 v17
      else
        zGet (s17 1) 1974 v17 fun v34 =>
        if (v34 : Int32) = (1) then
          zLet (s17 0 12) fun v44 =>
          zLet ((v44 : Int32) + (3)) fun v48 =>
          zGet (s17 1) 1974 v48 fun v49 =>
          if (v49 : Int32) = 0 then
            mR_joins_170 N hd2 s17 x1 v17
          else
            zLet ((v17 : Int32) + (3)) fun v59 =>
            zGet (s17 1) 1974 v59 fun v60 =>
            zLet (s17 0 12) fun v66 =>
            zLet ((v66 : Int32) + (3)) fun v70 =>
            zGet (s17 1) 1974 v70 fun v71 =>
            if (v60 : Int32) = v71 then
              zLet ((v17 : Int32) + (2)) fun v81 =>
              zGet (s17 1) 1974 v81 fun v82 =>
              zLet (s17 0 12) fun v88 =>
              zLet ((v88 : Int32) + (2)) fun v92 =>
              zGet (s17 1) 1974 v92 fun v93 =>
              if (v82 : Int32) = v93 then
                zGet (s17 1) 1974 (24) fun v104 =>
                zLet ((v104 : Int32) + (1)) fun v106 =>
                zSet s17 1 1974 (24) v106 fun s107 =>
                zLet (s107 0 12) fun v113 =>
                zLet ((v113 : Int32) + (1)) fun v117 =>
                zGet (s107 1) 1974 v117 fun v118 =>
                zLet ((v17 : Int32) + (1)) fun v125 =>
                zGet (s107 1) 1974 v125 fun v126 =>
                if (v118 : Int32) ≤ v126 then
                  mR_joins_135 N hd2 s107 x1 v17 (0)
                else
                  mR_joins_135 N hd2 s107 x1 v17 (1)
              else
                mR_joins_170 N hd2 s17 x1 v17
            else
              mR_joins_170 N hd2 s17 x1 v17
        else
          mR_joins_170 N hd2 s17 x1 v17
def mR_joins_2 (N : Nat) : ST → Int32 → Option (ST) := zIt (mR_joins_B2 N) (fun _ _ => none) N
set_option maxRecDepth 20000 in
set_option maxHeartbeats 2000000 in
theorem tR_joins_2 {adr : Nat → Nat} {cI cZ : ClassId} {X : zX} {q : ST} (B : zC X 4 (wdR adr cI cZ) cX8_joins RX8 none { frames := 1, cells := 0, slots := 0, locals := 20 }) (N : Nat) : ∀ (σ : ST) (x1 : Int32), mR_joins_2 N σ x1 = some q → zJ X 4 (wdR adr cI cZ) (zu q) 2 [(0, .ref (adr 0)), (1, .int x1)] [] σ := by
  refine zIt_ind (P := fun (hd : ST → Int32 → Option (ST)) => ∀ (σ : ST) (x1 : Int32), hd σ x1 = some q → zJ X 4 (wdR adr cI cZ) (zu q) 2 [(0, .ref (adr 0)), (1, .int x1)] [] σ) (fun _ _ hf => by cases hf) (fun hd2 hh2 => ?_) N
  intro σ x1 hf
  refine z_iload_n B dX8_joins_2 1 rfl rfl ?_
  refine z_bipush B (6) dX8_joins_3 zc_bipush_6 ?_
  refine z_icmp_ge B 176 dX8_joins_5 (by decide) hf (fun hf => ?_) (fun hf => ?_)
  · exact tR_joins_176 B N σ x1 hf
  · refine z_aload_n B dX8_joins_8 0 rfl rfl ?_
    refine fR_g_its B dX8_joins_9 hf (fun v9 hf => ?_)
    refine z_iconst B (-1) dX8_joins_12 zc_iconst_m1 ?_
    refine z_icmp_eq B 176 dX8_joins_13 (by decide) hf (fun hf => ?_) (fun hf => ?_)
    · exact tR_joins_176 B N σ x1 hf
    · refine z_iload_n B dX8_joins_16 1 rfl rfl ?_
      refine z_callSi B (As := [.int x1]) kcS_X8_89 dX8_joins_17 hf (fun q hq => cR_streamAt q hq) rfl rfl (Nat.le_of_ble_eq_true rfl) rfl rfl ⟨Nat.le_of_ble_eq_true rfl, Nat.le_of_ble_eq_true rfl⟩ (fun v17 s17 hf => ?_)
      refine z_istore_n B [(2, .int v17), (0, .ref (adr 0)), (1, .int x1)] dX8_joins_20 rfl (Nat.le_of_ble_eq_true rfl) rfl ?_
      refine z_iload_n B dX8_joins_21 0 rfl rfl ?_
      refine z_aload_n B dX8_joins_22 1 rfl rfl ?_
      refine fR_g_its B dX8_joins_23 hf (fun v23 hf => ?_)
      refine z_icmp_eq B 170 dX8_joins_26 (by decide) hf (fun hf => ?_) (fun hf => ?_)
      · exact z_loc [1, 2, 0] _ rfl (tR_joins_170 B N hd2 hh2 s17 x1 v17 hf)
      · refine z_aload_n B dX8_joins_29 1 rfl rfl ?_
        refine fR_g_row B dX8_joins_30 ?_
        refine z_iload_n B dX8_joins_33 0 rfl rfl ?_
        refine fR_l_row B dX8_joins_34 hf (fun v34 hf => ?_)
        refine z_iconst B (1) dX8_joins_35 zc_iconst_1 ?_
        refine z_icmp_ne B 170 dX8_joins_36 (by decide) hf (fun hf => ?_) (fun hf => ?_)
        · exact z_loc [1, 2, 0] _ rfl (tR_joins_170 B N hd2 hh2 s17 x1 v17 hf)
        · refine z_aload_n B dX8_joins_39 1 rfl rfl ?_
          refine fR_g_row B dX8_joins_40 ?_
          refine z_aload_n B dX8_joins_43 1 rfl rfl ?_
          refine fR_g_its B dX8_joins_44 hf (fun v44 hf => ?_)
          refine z_iconst B (3) dX8_joins_47 zc_iconst_3 ?_
          refine z_iadd B dX8_joins_48 hf (fun v48 hf => ?_)
          refine fR_l_row B dX8_joins_49 hf (fun v49 hf => ?_)
          refine z_if_eq B 170 dX8_joins_50 (by decide) hf (fun hf => ?_) (fun hf => ?_)
          · exact z_loc [1, 2, 0] _ rfl (tR_joins_170 B N hd2 hh2 s17 x1 v17 hf)
          · refine z_aload_n B dX8_joins_53 1 rfl rfl ?_
            refine fR_g_row B dX8_joins_54 ?_
            refine z_iload_n B dX8_joins_57 0 rfl rfl ?_
            refine z_iconst B (3) dX8_joins_58 zc_iconst_3 ?_
            refine z_iadd B dX8_joins_59 hf (fun v59 hf => ?_)
            refine fR_l_row B dX8_joins_60 hf (fun v60 hf => ?_)
            refine z_aload_n B dX8_joins_61 1 rfl rfl ?_
            refine fR_g_row B dX8_joins_62 ?_
            refine z_aload_n B dX8_joins_65 1 rfl rfl ?_
            refine fR_g_its B dX8_joins_66 hf (fun v66 hf => ?_)
            refine z_iconst B (3) dX8_joins_69 zc_iconst_3 ?_
            refine z_iadd B dX8_joins_70 hf (fun v70 hf => ?_)
            refine fR_l_row B dX8_joins_71 hf (fun v71 hf => ?_)
            refine z_icmp_ne B 170 dX8_joins_72 (by decide) hf (fun hf => ?_) (fun hf => ?_)
            · exact z_loc [1, 2, 0] _ rfl (tR_joins_170 B N hd2 hh2 s17 x1 v17 hf)
            · refine z_aload_n B dX8_joins_75 1 rfl rfl ?_
              refine fR_g_row B dX8_joins_76 ?_
              refine z_iload_n B dX8_joins_79 0 rfl rfl ?_
              refine z_iconst B (2) dX8_joins_80 zc_iconst_2 ?_
              refine z_iadd B dX8_joins_81 hf (fun v81 hf => ?_)
              refine fR_l_row B dX8_joins_82 hf (fun v82 hf => ?_)
              refine z_aload_n B dX8_joins_83 1 rfl rfl ?_
              refine fR_g_row B dX8_joins_84 ?_
              refine z_aload_n B dX8_joins_87 1 rfl rfl ?_
              refine fR_g_its B dX8_joins_88 hf (fun v88 hf => ?_)
              refine z_iconst B (2) dX8_joins_91 zc_iconst_2 ?_
              refine z_iadd B dX8_joins_92 hf (fun v92 hf => ?_)
              refine fR_l_row B dX8_joins_93 hf (fun v93 hf => ?_)
              refine z_icmp_ne B 170 dX8_joins_94 (by decide) hf (fun hf => ?_) (fun hf => ?_)
              · exact z_loc [1, 2, 0] _ rfl (tR_joins_170 B N hd2 hh2 s17 x1 v17 hf)
              · refine z_aload_n B dX8_joins_97 1 rfl rfl ?_
                refine fR_g_row B dX8_joins_98 ?_
                refine z_bipush B (24) dX8_joins_101 zc_bipush_24 ?_
                refine z_dup2 B dX8_joins_103 rfl rfl ?_
                refine fR_l_row B dX8_joins_104 hf (fun v104 hf => ?_)
                refine z_iconst B (1) dX8_joins_105 zc_iconst_1 ?_
                refine z_iadd B dX8_joins_106 hf (fun v106 hf => ?_)
                refine fR_s_row B dX8_joins_107 hf (fun s107 hf => ?_)
                refine z_aload_n B dX8_joins_108 1 rfl rfl ?_
                refine fR_g_row B dX8_joins_109 ?_
                refine z_aload_n B dX8_joins_112 1 rfl rfl ?_
                refine fR_g_its B dX8_joins_113 hf (fun v113 hf => ?_)
                refine z_iconst B (1) dX8_joins_116 zc_iconst_1 ?_
                refine z_iadd B dX8_joins_117 hf (fun v117 hf => ?_)
                refine fR_l_row B dX8_joins_118 hf (fun v118 hf => ?_)
                refine z_aload_n B dX8_joins_119 1 rfl rfl ?_
                refine fR_g_row B dX8_joins_120 ?_
                refine z_iload_n B dX8_joins_123 0 rfl rfl ?_
                refine z_iconst B (1) dX8_joins_124 zc_iconst_1 ?_
                refine z_iadd B dX8_joins_125 hf (fun v125 hf => ?_)
                refine fR_l_row B dX8_joins_126 hf (fun v126 hf => ?_)
                refine z_icmp_le B 134 dX8_joins_127 (by decide) hf (fun hf => ?_) (fun hf => ?_)
                · refine z_iconst B (0) dX8_joins_134 zc_iconst_0 ?_
                  exact z_loc [1, 2, 0] _ rfl (tR_joins_135 B N hd2 hh2 s107 x1 v17 (0) hf)
                · refine z_iconst B (1) dX8_joins_130 zc_iconst_1 ?_
                  refine z_goto B 135 dX8_joins_131 (by decide) ?_
                  exact z_loc [1, 2, 0] _ rfl (tR_joins_135 B N hd2 hh2 s107 x1 v17 (1) hf)
def mR_joins (N : Nat) (σ : ST) : Option (ST) :=
  mR_joins_2 N σ (0)
set_option maxRecDepth 20000 in
set_option maxHeartbeats 2000000 in
theorem cR_joins {adr : Nat → Nat} {cI cZ : ClassId} {l : Launch} {D : va_G} {N : Nat} {σ : ST} (q : ST) (hf : mR_joins N σ = some q) : zM l D (wdR adr cI cZ) yX8_joins cX8_joins 4 none ({ frames := 1, cells := 0, slots := 0, locals := 20 }) [.ref (adr 0)] σ (zu q) := by
  refine zM_of sfR_ok rfl (Nat.le_of_ble_eq_true rfl) [(0, .ref (adr 0))] rfl (fun X hX1 hX2 B => ?_)
  have B : zC X 4 (wdR adr cI cZ) cX8_joins RX8 none { frames := 1, cells := 0, slots := 0, locals := 20 } := B
  refine z_iconst B (0) dX8_joins_0 zc_iconst_0 ?_
  refine z_istore_n B [(1, .int (0)), (0, .ref (adr 0))] dX8_joins_1 rfl (Nat.le_of_ble_eq_true rfl) rfl ?_
  exact z_loc [1, 0] _ rfl (tR_joins_2 B N σ (0) hf)
theorem dX8_traces_0 : decode cX8_traces 0 = .ok (.aload_n 0, 1) := by decide +kernel
theorem dX8_traces_1 : decode cX8_traces 1 = .ok (.getfield 9, 3) := by decide +kernel
theorem dX8_traces_4 : decode cX8_traces 4 = .ok (.bipush 22, 2) := by decide +kernel
theorem dX8_traces_6 : decode cX8_traces 6 = .ok (.iaload, 1) := by decide +kernel
theorem dX8_traces_7 : decode cX8_traces 7 = .ok (.sipush 400, 3) := by decide +kernel
theorem dX8_traces_10 : decode cX8_traces 10 = .ok (.if_icmp .ne 55, 3) := by decide +kernel
theorem dX8_traces_13 : decode cX8_traces 13 = .ok (.aload_n 0, 1) := by decide +kernel
theorem dX8_traces_14 : decode cX8_traces 14 = .ok (.getfield 9, 3) := by decide +kernel
theorem dX8_traces_17 : decode cX8_traces 17 = .ok (.bipush 22, 2) := by decide +kernel
theorem dX8_traces_19 : decode cX8_traces 19 = .ok (.dup2, 1) := by decide +kernel
theorem dX8_traces_20 : decode cX8_traces 20 = .ok (.iaload, 1) := by decide +kernel
theorem dX8_traces_21 : decode cX8_traces 21 = .ok (.iconst 1, 1) := by decide +kernel
theorem dX8_traces_22 : decode cX8_traces 22 = .ok (.isub, 1) := by decide +kernel
theorem dX8_traces_23 : decode cX8_traces 23 = .ok (.iastore, 1) := by decide +kernel
theorem dX8_traces_24 : decode cX8_traces 24 = .ok (.sipush 774, 3) := by decide +kernel
theorem dX8_traces_27 : decode cX8_traces 27 = .ok (.istore_n 3, 1) := by decide +kernel
theorem dX8_traces_28 : decode cX8_traces 28 = .ok (.iload_n 3, 1) := by decide +kernel
theorem dX8_traces_29 : decode cX8_traces 29 = .ok (.sipush 774, 3) := by decide +kernel
theorem dX8_traces_32 : decode cX8_traces 32 = .ok (.iconst 3, 1) := by decide +kernel
theorem dX8_traces_33 : decode cX8_traces 33 = .ok (.aload_n 0, 1) := by decide +kernel
theorem dX8_traces_34 : decode cX8_traces 34 = .ok (.getfield 9, 3) := by decide +kernel
theorem dX8_traces_37 : decode cX8_traces 37 = .ok (.bipush 22, 2) := by decide +kernel
theorem dX8_traces_39 : decode cX8_traces 39 = .ok (.iaload, 1) := by decide +kernel
theorem dX8_traces_40 : decode cX8_traces 40 = .ok (.imul, 1) := by decide +kernel
theorem dX8_traces_41 : decode cX8_traces 41 = .ok (.iadd, 1) := by decide +kernel
theorem dX8_traces_42 : decode cX8_traces 42 = .ok (.if_icmp .ge 23, 3) := by decide +kernel
theorem dX8_traces_45 : decode cX8_traces 45 = .ok (.aload_n 0, 1) := by decide +kernel
theorem dX8_traces_46 : decode cX8_traces 46 = .ok (.getfield 9, 3) := by decide +kernel
theorem dX8_traces_49 : decode cX8_traces 49 = .ok (.iload_n 3, 1) := by decide +kernel
theorem dX8_traces_50 : decode cX8_traces 50 = .ok (.aload_n 0, 1) := by decide +kernel
theorem dX8_traces_51 : decode cX8_traces 51 = .ok (.getfield 9, 3) := by decide +kernel
theorem dX8_traces_54 : decode cX8_traces 54 = .ok (.iload_n 3, 1) := by decide +kernel
theorem dX8_traces_55 : decode cX8_traces 55 = .ok (.iconst 3, 1) := by decide +kernel
theorem dX8_traces_56 : decode cX8_traces 56 = .ok (.iadd, 1) := by decide +kernel
theorem dX8_traces_57 : decode cX8_traces 57 = .ok (.iaload, 1) := by decide +kernel
theorem dX8_traces_58 : decode cX8_traces 58 = .ok (.iastore, 1) := by decide +kernel
theorem dX8_traces_59 : decode cX8_traces 59 = .ok (.iinc 3 1, 3) := by decide +kernel
theorem dX8_traces_62 : decode cX8_traces 62 = .ok (.goto (-34), 3) := by decide +kernel
theorem dX8_traces_65 : decode cX8_traces 65 = .ok (.sipush 774, 3) := by decide +kernel
theorem dX8_traces_68 : decode cX8_traces 68 = .ok (.iconst 3, 1) := by decide +kernel
theorem dX8_traces_69 : decode cX8_traces 69 = .ok (.aload_n 0, 1) := by decide +kernel
theorem dX8_traces_70 : decode cX8_traces 70 = .ok (.getfield 9, 3) := by decide +kernel
theorem dX8_traces_73 : decode cX8_traces 73 = .ok (.bipush 22, 2) := by decide +kernel
theorem dX8_traces_75 : decode cX8_traces 75 = .ok (.iaload, 1) := by decide +kernel
theorem dX8_traces_76 : decode cX8_traces 76 = .ok (.imul, 1) := by decide +kernel
theorem dX8_traces_77 : decode cX8_traces 77 = .ok (.iadd, 1) := by decide +kernel
theorem dX8_traces_78 : decode cX8_traces 78 = .ok (.istore_n 3, 1) := by decide +kernel
theorem dX8_traces_79 : decode cX8_traces 79 = .ok (.aload_n 0, 1) := by decide +kernel
theorem dX8_traces_80 : decode cX8_traces 80 = .ok (.getfield 9, 3) := by decide +kernel
theorem dX8_traces_83 : decode cX8_traces 83 = .ok (.iload_n 3, 1) := by decide +kernel
theorem dX8_traces_84 : decode cX8_traces 84 = .ok (.iload_n 1, 1) := by decide +kernel
theorem dX8_traces_85 : decode cX8_traces 85 = .ok (.iastore, 1) := by decide +kernel
theorem dX8_traces_86 : decode cX8_traces 86 = .ok (.aload_n 0, 1) := by decide +kernel
theorem dX8_traces_87 : decode cX8_traces 87 = .ok (.getfield 9, 3) := by decide +kernel
theorem dX8_traces_90 : decode cX8_traces 90 = .ok (.iload_n 3, 1) := by decide +kernel
theorem dX8_traces_91 : decode cX8_traces 91 = .ok (.iconst 1, 1) := by decide +kernel
theorem dX8_traces_92 : decode cX8_traces 92 = .ok (.iadd, 1) := by decide +kernel
theorem dX8_traces_93 : decode cX8_traces 93 = .ok (.iload_n 2, 1) := by decide +kernel
theorem dX8_traces_94 : decode cX8_traces 94 = .ok (.iastore, 1) := by decide +kernel
theorem dX8_traces_95 : decode cX8_traces 95 = .ok (.aload_n 0, 1) := by decide +kernel
theorem dX8_traces_96 : decode cX8_traces 96 = .ok (.getfield 9, 3) := by decide +kernel
theorem dX8_traces_99 : decode cX8_traces 99 = .ok (.iload_n 3, 1) := by decide +kernel
theorem dX8_traces_100 : decode cX8_traces 100 = .ok (.iconst 2, 1) := by decide +kernel
theorem dX8_traces_101 : decode cX8_traces 101 = .ok (.iadd, 1) := by decide +kernel
theorem dX8_traces_102 : decode cX8_traces 102 = .ok (.aload_n 0, 1) := by decide +kernel
theorem dX8_traces_103 : decode cX8_traces 103 = .ok (.getfield 170, 3) := by decide +kernel
theorem dX8_traces_106 : decode cX8_traces 106 = .ok (.iastore, 1) := by decide +kernel
theorem dX8_traces_107 : decode cX8_traces 107 = .ok (.aload_n 0, 1) := by decide +kernel
theorem dX8_traces_108 : decode cX8_traces 108 = .ok (.getfield 9, 3) := by decide +kernel
theorem dX8_traces_111 : decode cX8_traces 111 = .ok (.bipush 22, 2) := by decide +kernel
theorem dX8_traces_113 : decode cX8_traces 113 = .ok (.dup2, 1) := by decide +kernel
theorem dX8_traces_114 : decode cX8_traces 114 = .ok (.iaload, 1) := by decide +kernel
theorem dX8_traces_115 : decode cX8_traces 115 = .ok (.iconst 1, 1) := by decide +kernel
theorem dX8_traces_116 : decode cX8_traces 116 = .ok (.iadd, 1) := by decide +kernel
theorem dX8_traces_117 : decode cX8_traces 117 = .ok (.iastore, 1) := by decide +kernel
theorem dX8_traces_118 : decode cX8_traces 118 = .ok (.return_, 1) := by decide +kernel
def mR_traces_65 (N : Nat) (σ : ST) (x1 : Int32) (x2 : Int32) : Option (ST) :=
  zGet (σ 1) 1974 (22) fun v75 =>
  zLet (((3) : Int32) * v75) fun v76 =>
  zLet (((774) : Int32) + v76) fun v77 =>
  zSet σ 1 1974 v77 x1 fun s85 =>
  zLet ((v77 : Int32) + (1)) fun v92 =>
  zSet s85 1 1974 v92 x2 fun s94 =>
  zLet ((v77 : Int32) + (2)) fun v101 =>
  zLet (s94 0 11) fun v103 =>
  zSet s94 1 1974 v101 v103 fun s106 =>
  zGet (s106 1) 1974 (22) fun v114 =>
  zLet ((v114 : Int32) + (1)) fun v116 =>
  zSet s106 1 1974 (22) v116 fun s117 =>
  some s117
set_option maxRecDepth 20000 in
set_option maxHeartbeats 2000000 in
theorem tR_traces_65 {adr : Nat → Nat} {cI cZ : ClassId} {X : zX} {q : ST} (B : zC X 4 (wdR adr cI cZ) cX8_traces RX8 none { frames := 0, cells := 0, slots := 0, locals := 0 }) (N : Nat) (σ : ST) (x1 : Int32) (x2 : Int32) (hf : mR_traces_65 N σ x1 x2 = some q) : zJ X 4 (wdR adr cI cZ) (zu q) 65 [(0, .ref (adr 0)), (1, .int x1), (2, .int x2)] [] σ := by
  refine z_sipush B (774) dX8_traces_65 zc_sipush_774 ?_
  refine z_iconst B (3) dX8_traces_68 zc_iconst_3 ?_
  refine z_aload_n B dX8_traces_69 0 rfl rfl ?_
  refine fR_g_row B dX8_traces_70 ?_
  refine z_bipush B (22) dX8_traces_73 zc_bipush_22 ?_
  refine fR_l_row B dX8_traces_75 hf (fun v75 hf => ?_)
  refine z_imul B dX8_traces_76 hf (fun v76 hf => ?_)
  refine z_iadd B dX8_traces_77 hf (fun v77 hf => ?_)
  refine z_istore_n B [(3, .int v77), (0, .ref (adr 0)), (1, .int x1), (2, .int x2)] dX8_traces_78 rfl (Nat.le_of_ble_eq_true rfl) rfl ?_
  refine z_aload_n B dX8_traces_79 1 rfl rfl ?_
  refine fR_g_row B dX8_traces_80 ?_
  refine z_iload_n B dX8_traces_83 0 rfl rfl ?_
  refine z_iload_n B dX8_traces_84 2 rfl rfl ?_
  refine fR_s_row B dX8_traces_85 hf (fun s85 hf => ?_)
  refine z_aload_n B dX8_traces_86 1 rfl rfl ?_
  refine fR_g_row B dX8_traces_87 ?_
  refine z_iload_n B dX8_traces_90 0 rfl rfl ?_
  refine z_iconst B (1) dX8_traces_91 zc_iconst_1 ?_
  refine z_iadd B dX8_traces_92 hf (fun v92 hf => ?_)
  refine z_iload_n B dX8_traces_93 3 rfl rfl ?_
  refine fR_s_row B dX8_traces_94 hf (fun s94 hf => ?_)
  refine z_aload_n B dX8_traces_95 1 rfl rfl ?_
  refine fR_g_row B dX8_traces_96 ?_
  refine z_iload_n B dX8_traces_99 0 rfl rfl ?_
  refine z_iconst B (2) dX8_traces_100 zc_iconst_2 ?_
  refine z_iadd B dX8_traces_101 hf (fun v101 hf => ?_)
  refine z_aload_n B dX8_traces_102 1 rfl rfl ?_
  refine fR_g_how B dX8_traces_103 hf (fun v103 hf => ?_)
  refine fR_s_row B dX8_traces_106 hf (fun s106 hf => ?_)
  refine z_aload_n B dX8_traces_107 1 rfl rfl ?_
  refine fR_g_row B dX8_traces_108 ?_
  refine z_bipush B (22) dX8_traces_111 zc_bipush_22 ?_
  refine z_dup2 B dX8_traces_113 rfl rfl ?_
  refine fR_l_row B dX8_traces_114 hf (fun v114 hf => ?_)
  refine z_iconst B (1) dX8_traces_115 zc_iconst_1 ?_
  refine z_iadd B dX8_traces_116 hf (fun v116 hf => ?_)
  refine fR_s_row B dX8_traces_117 hf (fun s117 hf => ?_)
  exact z_return B dX8_traces_118 hf
def mR_traces_B28 (N : Nat) (hd28 : ST → Int32 → Int32 → Int32 → Option (ST)) (σ : ST) (x1 : Int32) (x2 : Int32) (x3 : Int32) : Option (ST) :=
  zGet (σ 1) 1974 (22) fun v39 =>
  zLet (((3) : Int32) * v39) fun v40 =>
  zLet (((774) : Int32) + v40) fun v41 =>
  if (v41 : Int32) ≤ x3 then
    mR_traces_65 N σ x1 x2
  else
    zLet ((x3 : Int32) + (3)) fun v56 =>
    zGet (σ 1) 1974 v56 fun v57 =>
    zSet σ 1 1974 x3 v57 fun s58 =>
    zLet (x3 + (1)) fun v59 =>
    hd28 s58 x1 x2 v59
def mR_traces_28 (N : Nat) : ST → Int32 → Int32 → Int32 → Option (ST) := zIt (mR_traces_B28 N) (fun _ _ _ _ => none) N
set_option maxRecDepth 20000 in
set_option maxHeartbeats 2000000 in
theorem tR_traces_28 {adr : Nat → Nat} {cI cZ : ClassId} {X : zX} {q : ST} (B : zC X 4 (wdR adr cI cZ) cX8_traces RX8 none { frames := 0, cells := 0, slots := 0, locals := 0 }) (N : Nat) : ∀ (σ : ST) (x1 : Int32) (x2 : Int32) (x3 : Int32), mR_traces_28 N σ x1 x2 x3 = some q → zJ X 4 (wdR adr cI cZ) (zu q) 28 [(0, .ref (adr 0)), (1, .int x1), (2, .int x2), (3, .int x3)] [] σ := by
  refine zIt_ind (P := fun (hd : ST → Int32 → Int32 → Int32 → Option (ST)) => ∀ (σ : ST) (x1 : Int32) (x2 : Int32) (x3 : Int32), hd σ x1 x2 x3 = some q → zJ X 4 (wdR adr cI cZ) (zu q) 28 [(0, .ref (adr 0)), (1, .int x1), (2, .int x2), (3, .int x3)] [] σ) (fun _ _ _ _ hf => by cases hf) (fun hd28 hh28 => ?_) N
  intro σ x1 x2 x3 hf
  refine z_iload_n B dX8_traces_28 3 rfl rfl ?_
  refine z_sipush B (774) dX8_traces_29 zc_sipush_774 ?_
  refine z_iconst B (3) dX8_traces_32 zc_iconst_3 ?_
  refine z_aload_n B dX8_traces_33 0 rfl rfl ?_
  refine fR_g_row B dX8_traces_34 ?_
  refine z_bipush B (22) dX8_traces_37 zc_bipush_22 ?_
  refine fR_l_row B dX8_traces_39 hf (fun v39 hf => ?_)
  refine z_imul B dX8_traces_40 hf (fun v40 hf => ?_)
  refine z_iadd B dX8_traces_41 hf (fun v41 hf => ?_)
  refine z_icmp_ge B 65 dX8_traces_42 (by decide) hf (fun hf => ?_) (fun hf => ?_)
  · exact z_loc [0, 1, 2] _ rfl (tR_traces_65 B N σ x1 x2 hf)
  · refine z_aload_n B dX8_traces_45 0 rfl rfl ?_
    refine fR_g_row B dX8_traces_46 ?_
    refine z_iload_n B dX8_traces_49 3 rfl rfl ?_
    refine z_aload_n B dX8_traces_50 0 rfl rfl ?_
    refine fR_g_row B dX8_traces_51 ?_
    refine z_iload_n B dX8_traces_54 3 rfl rfl ?_
    refine z_iconst B (3) dX8_traces_55 zc_iconst_3 ?_
    refine z_iadd B dX8_traces_56 hf (fun v56 hf => ?_)
    refine fR_l_row B dX8_traces_57 hf (fun v57 hf => ?_)
    refine fR_s_row B dX8_traces_58 hf (fun s58 hf => ?_)
    refine z_iinc B (1) 3 (fun v59 => [(3, .int v59), (0, .ref (adr 0)), (1, .int x1), (2, .int x2)]) dX8_traces_59 hf zc_iconst_1 rfl (Nat.le_of_ble_eq_true rfl) (fun _ => rfl) (fun v59 hf => ?_)
    refine z_goto B 28 dX8_traces_62 (by decide) ?_
    exact z_loc [1, 2, 3, 0] _ rfl (hh28 s58 x1 x2 v59 hf)
def mR_traces (N : Nat) (σ : ST) (x1 : Int32) (x2 : Int32) : Option (ST) :=
  zGet (σ 1) 1974 (22) fun v6 =>
  if (v6 : Int32) = (400) then
    zGet (σ 1) 1974 (22) fun v20 =>
    zLet ((v20 : Int32) - (1)) fun v22 =>
    zSet σ 1 1974 (22) v22 fun s23 =>
    mR_traces_28 N s23 x1 x2 (774)
  else
    mR_traces_65 N σ x1 x2
set_option maxRecDepth 20000 in
set_option maxHeartbeats 2000000 in
theorem cR_traces {adr : Nat → Nat} {cI cZ : ClassId} {l : Launch} {D : va_G} {N : Nat} {σ : ST} {x1 : Int32} {x2 : Int32} (q : ST) (hf : mR_traces N σ x1 x2 = some q) : zM l D (wdR adr cI cZ) yX8_traces cX8_traces 4 none ({ frames := 0, cells := 0, slots := 0, locals := 0 }) [.ref (adr 0), .int x1, .int x2] σ (zu q) := by
  refine zM_of sfR_ok rfl (Nat.le_of_ble_eq_true rfl) [(0, .ref (adr 0)), (1, .int x1), (2, .int x2)] rfl (fun X hX1 hX2 B => ?_)
  have B : zC X 4 (wdR adr cI cZ) cX8_traces RX8 none { frames := 0, cells := 0, slots := 0, locals := 0 } := B
  refine z_aload_n B dX8_traces_0 0 rfl rfl ?_
  refine fR_g_row B dX8_traces_1 ?_
  refine z_bipush B (22) dX8_traces_4 zc_bipush_22 ?_
  refine fR_l_row B dX8_traces_6 hf (fun v6 hf => ?_)
  refine z_sipush B (400) dX8_traces_7 zc_sipush_400 ?_
  refine z_icmp_ne B 65 dX8_traces_10 (by decide) hf (fun hf => ?_) (fun hf => ?_)
  · exact tR_traces_65 B N σ x1 x2 hf
  · refine z_aload_n B dX8_traces_13 0 rfl rfl ?_
    refine fR_g_row B dX8_traces_14 ?_
    refine z_bipush B (22) dX8_traces_17 zc_bipush_22 ?_
    refine z_dup2 B dX8_traces_19 rfl rfl ?_
    refine fR_l_row B dX8_traces_20 hf (fun v20 hf => ?_)
    refine z_iconst B (1) dX8_traces_21 zc_iconst_1 ?_
    refine z_isub B dX8_traces_22 hf (fun v22 hf => ?_)
    refine fR_s_row B dX8_traces_23 hf (fun s23 hf => ?_)
    refine z_sipush B (774) dX8_traces_24 zc_sipush_774 ?_
    refine z_istore_n B [(3, .int (774)), (0, .ref (adr 0)), (1, .int x1), (2, .int x2)] dX8_traces_27 rfl (Nat.le_of_ble_eq_true rfl) rfl ?_
    exact z_loc [1, 2, 3, 0] _ rfl (tR_traces_28 B N s23 x1 x2 (774) hf)
