theorem dX8_habits_0 : decode cX8_habits 0 = .ok (.aload_n 0, 1) := by decide +kernel
theorem dX8_habits_1 : decode cX8_habits 1 = .ok (.iconst 0, 1) := by decide +kernel
theorem dX8_habits_2 : decode cX8_habits 2 = .ok (.putfield 67, 3) := by decide +kernel
theorem dX8_habits_5 : decode cX8_habits 5 = .ok (.aload_n 0, 1) := by decide +kernel
theorem dX8_habits_6 : decode cX8_habits 6 = .ok (.getfield 9, 3) := by decide +kernel
theorem dX8_habits_9 : decode cX8_habits 9 = .ok (.bipush 22, 2) := by decide +kernel
theorem dX8_habits_11 : decode cX8_habits 11 = .ok (.iaload, 1) := by decide +kernel
theorem dX8_habits_12 : decode cX8_habits 12 = .ok (.ifCond .ne 5, 3) := by decide +kernel
theorem dX8_habits_15 : decode cX8_habits 15 = .ok (.iconst (-1), 1) := by decide +kernel
theorem dX8_habits_16 : decode cX8_habits 16 = .ok (.ireturn, 1) := by decide +kernel
theorem dX8_habits_17 : decode cX8_habits 17 = .ok (.iload_n 1, 1) := by decide +kernel
theorem dX8_habits_18 : decode cX8_habits 18 = .ok (.tableswitch 97 0 4 #[34, 39, 44, 49, 58], 34) := by decide +kernel
theorem dX8_habits_52 : decode cX8_habits 52 = .ok (.aload_n 0, 1) := by decide +kernel
theorem dX8_habits_53 : decode cX8_habits 53 = .ok (.invokevirtual 252, 3) := by decide +kernel
theorem dX8_habits_56 : decode cX8_habits 56 = .ok (.ireturn, 1) := by decide +kernel
theorem dX8_habits_57 : decode cX8_habits 57 = .ok (.aload_n 0, 1) := by decide +kernel
theorem dX8_habits_58 : decode cX8_habits 58 = .ok (.invokevirtual 255, 3) := by decide +kernel
theorem dX8_habits_61 : decode cX8_habits 61 = .ok (.ireturn, 1) := by decide +kernel
theorem dX8_habits_62 : decode cX8_habits 62 = .ok (.aload_n 0, 1) := by decide +kernel
theorem dX8_habits_63 : decode cX8_habits 63 = .ok (.invokevirtual 258, 3) := by decide +kernel
theorem dX8_habits_66 : decode cX8_habits 66 = .ok (.ireturn, 1) := by decide +kernel
theorem dX8_habits_67 : decode cX8_habits 67 = .ok (.aload_n 0, 1) := by decide +kernel
theorem dX8_habits_68 : decode cX8_habits 68 = .ok (.aload_n 0, 1) := by decide +kernel
theorem dX8_habits_69 : decode cX8_habits 69 = .ok (.invokevirtual 258, 3) := by decide +kernel
theorem dX8_habits_72 : decode cX8_habits 72 = .ok (.invokevirtual 249, 3) := by decide +kernel
theorem dX8_habits_75 : decode cX8_habits 75 = .ok (.ireturn, 1) := by decide +kernel
theorem dX8_habits_76 : decode cX8_habits 76 = .ok (.iconst 0, 1) := by decide +kernel
theorem dX8_habits_77 : decode cX8_habits 77 = .ok (.istore_n 2, 1) := by decide +kernel
theorem dX8_habits_78 : decode cX8_habits 78 = .ok (.iconst 1, 1) := by decide +kernel
theorem dX8_habits_79 : decode cX8_habits 79 = .ok (.istore_n 3, 1) := by decide +kernel
theorem dX8_habits_80 : decode cX8_habits 80 = .ok (.iload_n 3, 1) := by decide +kernel
theorem dX8_habits_81 : decode cX8_habits 81 = .ok (.aload_n 0, 1) := by decide +kernel
theorem dX8_habits_82 : decode cX8_habits 82 = .ok (.getfield 9, 3) := by decide +kernel
theorem dX8_habits_85 : decode cX8_habits 85 = .ok (.bipush 22, 2) := by decide +kernel
theorem dX8_habits_87 : decode cX8_habits 87 = .ok (.iaload, 1) := by decide +kernel
theorem dX8_habits_88 : decode cX8_habits 88 = .ok (.if_icmp .ge 25, 3) := by decide +kernel
theorem dX8_habits_91 : decode cX8_habits 91 = .ok (.iload_n 2, 1) := by decide +kernel
theorem dX8_habits_92 : decode cX8_habits 92 = .ok (.aload_n 0, 1) := by decide +kernel
theorem dX8_habits_93 : decode cX8_habits 93 = .ok (.iload_n 3, 1) := by decide +kernel
theorem dX8_habits_94 : decode cX8_habits 94 = .ok (.invokevirtual 241, 3) := by decide +kernel
theorem dX8_habits_97 : decode cX8_habits 97 = .ok (.ifCond .eq 7, 3) := by decide +kernel
theorem dX8_habits_100 : decode cX8_habits 100 = .ok (.iconst 1, 1) := by decide +kernel
theorem dX8_habits_101 : decode cX8_habits 101 = .ok (.goto 4, 3) := by decide +kernel
theorem dX8_habits_104 : decode cX8_habits 104 = .ok (.iconst 0, 1) := by decide +kernel
theorem dX8_habits_105 : decode cX8_habits 105 = .ok (.iadd, 1) := by decide +kernel
theorem dX8_habits_106 : decode cX8_habits 106 = .ok (.istore_n 2, 1) := by decide +kernel
theorem dX8_habits_107 : decode cX8_habits 107 = .ok (.iinc 3 1, 3) := by decide +kernel
theorem dX8_habits_110 : decode cX8_habits 110 = .ok (.goto (-30), 3) := by decide +kernel
theorem dX8_habits_113 : decode cX8_habits 113 = .ok (.iload_n 2, 1) := by decide +kernel
theorem dX8_habits_114 : decode cX8_habits 114 = .ok (.ireturn, 1) := by decide +kernel
theorem dX8_habits_115 : decode cX8_habits 115 = .ok (.iconst (-1), 1) := by decide +kernel
theorem dX8_habits_116 : decode cX8_habits 116 = .ok (.ireturn, 1) := by decide +kernel
def mR_habits_105 (N : Nat) (hd80 : ST → Int32 → Int32 → Int32 → Option (Int32 × ST)) (σ : ST) (x1 : Int32) (x2 : Int32) (x3 : Int32) (k0 : Int32) (k1 : Int32) : Option (Int32 × ST) :=
  zLet ((k0 : Int32) + k1) fun v105 =>
  zLet (x3 + (1)) fun v107 =>
  hd80 σ x1 v105 v107
set_option maxRecDepth 20000 in
set_option maxHeartbeats 2000000 in
theorem tR_habits_105 {adr : Nat → Nat} {cI cZ : ClassId} {X : zX} {q : Int32 × ST} (B : zC X 4 (wdR adr cI cZ) cX8_habits RX8 (some .int) { frames := 3, cells := 0, slots := 0, locals := 68 }) (N : Nat) (hd80 : ST → Int32 → Int32 → Int32 → Option (Int32 × ST)) (hh80 : ∀ (σ : ST) (x1 : Int32) (x2 : Int32) (x3 : Int32), hd80 σ x1 x2 x3 = some q → zJ X 4 (wdR adr cI cZ) (zi q) 80 [(0, .ref (adr 0)), (1, .int x1), (2, .int x2), (3, .int x3)] [] σ) (σ : ST) (x1 : Int32) (x2 : Int32) (x3 : Int32) (k0 : Int32) (k1 : Int32) (hf : mR_habits_105 N hd80 σ x1 x2 x3 k0 k1 = some q) : zJ X 4 (wdR adr cI cZ) (zi q) 105 [(0, .ref (adr 0)), (1, .int x1), (2, .int x2), (3, .int x3)] [.int k1, .int k0] σ := by
  refine z_iadd B dX8_habits_105 hf (fun v105 hf => ?_)
  refine z_istore_n B [(2, .int v105), (0, .ref (adr 0)), (1, .int x1), (3, .int x3)] dX8_habits_106 rfl (Nat.le_of_ble_eq_true rfl) rfl ?_
  refine z_iinc B (1) 3 (fun v107 => [(3, .int v107), (2, .int v105), (0, .ref (adr 0)), (1, .int x1)]) dX8_habits_107 hf zc_iconst_1 rfl (Nat.le_of_ble_eq_true rfl) (fun _ => rfl) (fun v107 hf => ?_)
  refine z_goto B 80 dX8_habits_110 (by decide) ?_
  exact z_loc [2, 3, 1, 0] _ rfl (hh80 σ x1 v105 v107 hf)
def mR_habits_B80 (N : Nat) (hd80 : ST → Int32 → Int32 → Int32 → Option (Int32 × ST)) (σ : ST) (x1 : Int32) (x2 : Int32) (x3 : Int32) : Option (Int32 × ST) :=
  zGet (σ 1) 1974 (22) fun v87 =>
  if (v87 : Int32) ≤ x3 then
    some (x2, σ)
  else
    zCall (mR_isNext N σ x3) fun v94 s94 =>
    if (v94 : Int32) = 0 then
      mR_habits_105 N hd80 s94 x1 x2 x3 x2 (0)
    else
      mR_habits_105 N hd80 s94 x1 x2 x3 x2 (1)
def mR_habits_80 (N : Nat) : ST → Int32 → Int32 → Int32 → Option (Int32 × ST) := zIt (mR_habits_B80 N) (fun _ _ _ _ => none) N
set_option maxRecDepth 20000 in
set_option maxHeartbeats 2000000 in
theorem tR_habits_80 {adr : Nat → Nat} {cI cZ : ClassId} {X : zX} {q : Int32 × ST} (B : zC X 4 (wdR adr cI cZ) cX8_habits RX8 (some .int) { frames := 3, cells := 0, slots := 0, locals := 68 }) (N : Nat) : ∀ (σ : ST) (x1 : Int32) (x2 : Int32) (x3 : Int32), mR_habits_80 N σ x1 x2 x3 = some q → zJ X 4 (wdR adr cI cZ) (zi q) 80 [(0, .ref (adr 0)), (1, .int x1), (2, .int x2), (3, .int x3)] [] σ := by
  refine zIt_ind (P := fun (hd : ST → Int32 → Int32 → Int32 → Option (Int32 × ST)) => ∀ (σ : ST) (x1 : Int32) (x2 : Int32) (x3 : Int32), hd σ x1 x2 x3 = some q → zJ X 4 (wdR adr cI cZ) (zi q) 80 [(0, .ref (adr 0)), (1, .int x1), (2, .int x2), (3, .int x3)] [] σ) (fun _ _ _ _ hf => by cases hf) (fun hd80 hh80 => ?_) N
  intro σ x1 x2 x3 hf
  refine z_iload_n B dX8_habits_80 3 rfl rfl ?_
  refine z_aload_n B dX8_habits_81 0 rfl rfl ?_
  refine fR_g_row B dX8_habits_82 ?_
  refine z_bipush B (22) dX8_habits_85 zc_bipush_22 ?_
  refine fR_l_row B dX8_habits_87 hf (fun v87 hf => ?_)
  refine z_icmp_ge B 113 dX8_habits_88 (by decide) hf (fun hf => ?_) (fun hf => ?_)
  · refine z_iload_n B dX8_habits_113 2 rfl rfl ?_
    exact z_ireturn B dX8_habits_114 hf
  · refine z_iload_n B dX8_habits_91 2 rfl rfl ?_
    refine z_aload_n B dX8_habits_92 0 rfl rfl ?_
    refine z_iload_n B dX8_habits_93 3 rfl rfl ?_
    refine z_callVi B (As := [.int x3]) kcV_X8_241 dX8_habits_94 hf (fun q hq => cR_isNext q hq) (wR_o (adr := adr) (cI := cI) (cZ := cZ)) rfl rfl rfl rfl (Nat.le_of_ble_eq_true rfl) rfl rfl ⟨Nat.le_of_ble_eq_true rfl, Nat.le_of_ble_eq_true rfl⟩ (fun v94 s94 hf => ?_)
    refine z_if_eq B 104 dX8_habits_97 (by decide) hf (fun hf => ?_) (fun hf => ?_)
    · refine z_iconst B (0) dX8_habits_104 zc_iconst_0 ?_
      exact tR_habits_105 B N hd80 hh80 s94 x1 x2 x3 x2 (0) hf
    · refine z_iconst B (1) dX8_habits_100 zc_iconst_1 ?_
      refine z_goto B 105 dX8_habits_101 (by decide) ?_
      exact tR_habits_105 B N hd80 hh80 s94 x1 x2 x3 x2 (1) hf
def mR_habits (N : Nat) (σ : ST) (x1 : Int32) : Option (Int32 × ST) :=
  zLet (zUp σ 0 0 (0)) fun s2 =>
  zGet (s2 1) 1974 (22) fun v11 =>
  if (v11 : Int32) = 0 then
    some ((-1), s2)
  else
    if (x1 : Int32) = (0) then
      zCall (mR_unlikeBlocks N s2) fun v53 s53 =>
      some (v53, s53)
    else
    if (x1 : Int32) = (1) then
      zCall (mR_between N s2) fun v58 s58 =>
      some (v58, s58)
    else
    if (x1 : Int32) = (2) then
      zCall (mR_mostRead N s2) fun v63 s63 =>
      some (v63, s63)
    else
    if (x1 : Int32) = (3) then
      zCall (mR_mostRead N s2) fun v69 s69 =>
      zCall (mR_timesRead N s69 v69) fun v72 s72 =>
      some (v72, s72)
    else
    if (x1 : Int32) = (4) then
      mR_habits_80 N s2 x1 (0) (1)
    else
      some ((-1), s2)
set_option maxRecDepth 20000 in
set_option maxHeartbeats 2000000 in
theorem cR_habits {adr : Nat → Nat} {cI cZ : ClassId} {l : Launch} {D : va_G} {N : Nat} {σ : ST} {x1 : Int32} (q : Int32 × ST) (hf : mR_habits N σ x1 = some q) : zM l D (wdR adr cI cZ) yX8_habits cX8_habits 4 (some .int) ({ frames := 3, cells := 0, slots := 0, locals := 68 }) [.ref (adr 0), .int x1] σ (zi q) := by
  refine zM_of rfl (Nat.le_of_ble_eq_true rfl) [(0, .ref (adr 0)), (1, .int x1)] rfl (fun X hX1 hX2 B => ?_)
  have B : zC X 4 (wdR adr cI cZ) cX8_habits RX8 (some .int) { frames := 3, cells := 0, slots := 0, locals := 68 } := B
  refine z_aload_n B dX8_habits_0 0 rfl rfl ?_
  refine z_iconst B (0) dX8_habits_1 zc_iconst_0 ?_
  refine fR_p_thrown B dX8_habits_2 hf (fun s2 hf => ?_)
  refine z_aload_n B dX8_habits_5 0 rfl rfl ?_
  refine fR_g_row B dX8_habits_6 ?_
  refine z_bipush B (22) dX8_habits_9 zc_bipush_22 ?_
  refine fR_l_row B dX8_habits_11 hf (fun v11 hf => ?_)
  refine z_if_ne B 17 dX8_habits_12 (by decide) hf (fun hf => ?_) (fun hf => ?_)
  · refine z_iload_n B dX8_habits_17 1 rfl rfl ?_
    by_cases h18_0 : x1 = (0)
    · replace hf := zIfp h18_0 hf
      refine z_tabIn B (off := 34) 52 dX8_habits_18 (by rw [h18_0]; decide) (by rw [h18_0]; decide) (by rw [h18_0]; decide) (by decide) ?_
      refine z_aload_n B dX8_habits_52 0 rfl rfl ?_
      refine z_callVi B (As := []) kcV_X8_252 dX8_habits_53 hf (fun q hq => cR_unlikeBlocks q hq) (wR_o (adr := adr) (cI := cI) (cZ := cZ)) rfl rfl rfl rfl (Nat.le_of_ble_eq_true rfl) rfl rfl ⟨Nat.le_of_ble_eq_true rfl, Nat.le_of_ble_eq_true rfl⟩ (fun v53 s53 hf => ?_)
      exact z_ireturn B dX8_habits_56 hf
    replace hf := zIfn h18_0 hf
    by_cases h18_1 : x1 = (1)
    · replace hf := zIfp h18_1 hf
      refine z_tabIn B (off := 39) 57 dX8_habits_18 (by rw [h18_1]; decide) (by rw [h18_1]; decide) (by rw [h18_1]; decide) (by decide) ?_
      refine z_aload_n B dX8_habits_57 0 rfl rfl ?_
      refine z_callVi B (As := []) kcV_X8_255 dX8_habits_58 hf (fun q hq => cR_between q hq) (wR_o (adr := adr) (cI := cI) (cZ := cZ)) rfl rfl rfl rfl (Nat.le_of_ble_eq_true rfl) rfl rfl ⟨Nat.le_of_ble_eq_true rfl, Nat.le_of_ble_eq_true rfl⟩ (fun v58 s58 hf => ?_)
      exact z_ireturn B dX8_habits_61 hf
    replace hf := zIfn h18_1 hf
    by_cases h18_2 : x1 = (2)
    · replace hf := zIfp h18_2 hf
      refine z_tabIn B (off := 44) 62 dX8_habits_18 (by rw [h18_2]; decide) (by rw [h18_2]; decide) (by rw [h18_2]; decide) (by decide) ?_
      refine z_aload_n B dX8_habits_62 0 rfl rfl ?_
      refine z_callVi B (As := []) kcV_X8_258 dX8_habits_63 hf (fun q hq => cR_mostRead q hq) (wR_o (adr := adr) (cI := cI) (cZ := cZ)) rfl rfl rfl rfl (Nat.le_of_ble_eq_true rfl) rfl rfl ⟨Nat.le_of_ble_eq_true rfl, Nat.le_of_ble_eq_true rfl⟩ (fun v63 s63 hf => ?_)
      exact z_ireturn B dX8_habits_66 hf
    replace hf := zIfn h18_2 hf
    by_cases h18_3 : x1 = (3)
    · replace hf := zIfp h18_3 hf
      refine z_tabIn B (off := 49) 67 dX8_habits_18 (by rw [h18_3]; decide) (by rw [h18_3]; decide) (by rw [h18_3]; decide) (by decide) ?_
      refine z_aload_n B dX8_habits_67 0 rfl rfl ?_
      refine z_aload_n B dX8_habits_68 0 rfl rfl ?_
      refine z_callVi B (As := []) kcV_X8_258 dX8_habits_69 hf (fun q hq => cR_mostRead q hq) (wR_o (adr := adr) (cI := cI) (cZ := cZ)) rfl rfl rfl rfl (Nat.le_of_ble_eq_true rfl) rfl rfl ⟨Nat.le_of_ble_eq_true rfl, Nat.le_of_ble_eq_true rfl⟩ (fun v69 s69 hf => ?_)
      refine z_callVi B (As := [.int v69]) kcV_X8_249 dX8_habits_72 hf (fun q hq => cR_timesRead q hq) (wR_o (adr := adr) (cI := cI) (cZ := cZ)) rfl rfl rfl rfl (Nat.le_of_ble_eq_true rfl) rfl rfl ⟨Nat.le_of_ble_eq_true rfl, Nat.le_of_ble_eq_true rfl⟩ (fun v72 s72 hf => ?_)
      exact z_ireturn B dX8_habits_75 hf
    replace hf := zIfn h18_3 hf
    by_cases h18_4 : x1 = (4)
    · replace hf := zIfp h18_4 hf
      refine z_tabIn B (off := 58) 76 dX8_habits_18 (by rw [h18_4]; decide) (by rw [h18_4]; decide) (by rw [h18_4]; decide) (by decide) ?_
      refine z_iconst B (0) dX8_habits_76 zc_iconst_0 ?_
      refine z_istore_n B [(2, .int (0)), (0, .ref (adr 0)), (1, .int x1)] dX8_habits_77 rfl (Nat.le_of_ble_eq_true rfl) rfl ?_
      refine z_iconst B (1) dX8_habits_78 zc_iconst_1 ?_
      refine z_istore_n B [(3, .int (1)), (2, .int (0)), (0, .ref (adr 0)), (1, .int x1)] dX8_habits_79 rfl (Nat.le_of_ble_eq_true rfl) rfl ?_
      exact z_loc [2, 3, 1, 0] _ rfl (tR_habits_80 B N s2 x1 (0) (1) hf)
    replace hf := zIfn h18_4 hf
    have kd18 : zJ X 4 (wdR adr cI cZ) (zi q) 115 [(0, .ref (adr 0)), (1, .int x1)] [] s2 := by
      refine z_iconst B (-1) dX8_habits_115 zc_iconst_m1 ?_
      exact z_ireturn B dX8_habits_116 hf
    by_cases ho18 : x1.toInt < 0 ∨ 4 < x1.toInt
    · exact z_tabOut B 115 dX8_habits_18 ho18 (by decide) kd18
    · have e0 : x1.toInt ≠ 0 := z_ne h18_0 (by decide)
      have e1 : x1.toInt ≠ 1 := z_ne h18_1 (by decide)
      have e2 : x1.toInt ≠ 2 := z_ne h18_2 (by decide)
      have e3 : x1.toInt ≠ 3 := z_ne h18_3 (by decide)
      have e4 : x1.toInt ≠ 4 := z_ne h18_4 (by decide)
      exfalso
      omega
  · refine z_iconst B (-1) dX8_habits_15 zc_iconst_m1 ?_
    exact z_ireturn B dX8_habits_16 hf
