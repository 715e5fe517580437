theorem dX2_hit_0 : decode cX2_hit 0 = .ok (.iload_n 1, 1) := by decide +kernel
theorem dX2_hit_1 : decode cX2_hit 1 = .ok (.ifCond .lt 14, 3) := by decide +kernel
theorem dX2_hit_4 : decode cX2_hit 4 = .ok (.iload_n 1, 1) := by decide +kernel
theorem dX2_hit_5 : decode cX2_hit 5 = .ok (.aload_n 0, 1) := by decide +kernel
theorem dX2_hit_6 : decode cX2_hit 6 = .ok (.getfield 34, 3) := by decide +kernel
theorem dX2_hit_9 : decode cX2_hit 9 = .ok (.getfield 165, 3) := by decide +kernel
theorem dX2_hit_12 : decode cX2_hit 12 = .ok (.if_icmp .lt 4, 3) := by decide +kernel
theorem dX2_hit_15 : decode cX2_hit 15 = .ok (.return_, 1) := by decide +kernel
theorem dX2_hit_16 : decode cX2_hit 16 = .ok (.aload_n 0, 1) := by decide +kernel
theorem dX2_hit_17 : decode cX2_hit 17 = .ok (.getfield 28, 3) := by decide +kernel
theorem dX2_hit_20 : decode cX2_hit 20 = .ok (.iconst 1, 1) := by decide +kernel
theorem dX2_hit_21 : decode cX2_hit 21 = .ok (.dup2, 1) := by decide +kernel
theorem dX2_hit_22 : decode cX2_hit 22 = .ok (.iaload, 1) := by decide +kernel
theorem dX2_hit_23 : decode cX2_hit 23 = .ok (.iconst 1, 1) := by decide +kernel
theorem dX2_hit_24 : decode cX2_hit 24 = .ok (.iadd, 1) := by decide +kernel
theorem dX2_hit_25 : decode cX2_hit 25 = .ok (.iastore, 1) := by decide +kernel
theorem dX2_hit_26 : decode cX2_hit 26 = .ok (.aload_n 0, 1) := by decide +kernel
theorem dX2_hit_27 : decode cX2_hit 27 = .ok (.aload_n 0, 1) := by decide +kernel
theorem dX2_hit_28 : decode cX2_hit 28 = .ok (.getfield 34, 3) := by decide +kernel
theorem dX2_hit_31 : decode cX2_hit 31 = .ok (.getfield 168, 3) := by decide +kernel
theorem dX2_hit_34 : decode cX2_hit 34 = .ok (.iload_n 1, 1) := by decide +kernel
theorem dX2_hit_35 : decode cX2_hit 35 = .ok (.iaload, 1) := by decide +kernel
theorem dX2_hit_36 : decode cX2_hit 36 = .ok (.invokevirtual 171, 3) := by decide +kernel
theorem dX2_hit_39 : decode cX2_hit 39 = .ok (.astore_n 2, 1) := by decide +kernel
theorem dX2_hit_40 : decode cX2_hit 40 = .ok (.aload_n 0, 1) := by decide +kernel
theorem dX2_hit_41 : decode cX2_hit 41 = .ok (.getfield 34, 3) := by decide +kernel
theorem dX2_hit_44 : decode cX2_hit 44 = .ok (.iload_n 1, 1) := by decide +kernel
theorem dX2_hit_45 : decode cX2_hit 45 = .ok (.invokevirtual 174, 3) := by decide +kernel
theorem dX2_hit_48 : decode cX2_hit 48 = .ok (.ifCond .eq 27, 3) := by decide +kernel
theorem dX2_hit_51 : decode cX2_hit 51 = .ok (.aload_n 0, 1) := by decide +kernel
theorem dX2_hit_52 : decode cX2_hit 52 = .ok (.getfield 28, 3) := by decide +kernel
theorem dX2_hit_55 : decode cX2_hit 55 = .ok (.iconst 4, 1) := by decide +kernel
theorem dX2_hit_56 : decode cX2_hit 56 = .ok (.dup2, 1) := by decide +kernel
theorem dX2_hit_57 : decode cX2_hit 57 = .ok (.iaload, 1) := by decide +kernel
theorem dX2_hit_58 : decode cX2_hit 58 = .ok (.iconst 1, 1) := by decide +kernel
theorem dX2_hit_59 : decode cX2_hit 59 = .ok (.iadd, 1) := by decide +kernel
theorem dX2_hit_60 : decode cX2_hit 60 = .ok (.iastore, 1) := by decide +kernel
theorem dX2_hit_61 : decode cX2_hit 61 = .ok (.aload_n 2, 1) := by decide +kernel
theorem dX2_hit_62 : decode cX2_hit 62 = .ok (.ifnull 13, 3) := by decide +kernel
theorem dX2_hit_65 : decode cX2_hit 65 = .ok (.aload_n 2, 1) := by decide +kernel
theorem dX2_hit_66 : decode cX2_hit 66 = .ok (.dup, 1) := by decide +kernel
theorem dX2_hit_67 : decode cX2_hit 67 = .ok (.getfield 177, 3) := by decide +kernel
theorem dX2_hit_70 : decode cX2_hit 70 = .ok (.iconst 1, 1) := by decide +kernel
theorem dX2_hit_71 : decode cX2_hit 71 = .ok (.iadd, 1) := by decide +kernel
theorem dX2_hit_72 : decode cX2_hit 72 = .ok (.putfield 177, 3) := by decide +kernel
theorem dX2_hit_75 : decode cX2_hit 75 = .ok (.aload_n 0, 1) := by decide +kernel
theorem dX2_hit_76 : decode cX2_hit 76 = .ok (.getfield 34, 3) := by decide +kernel
theorem dX2_hit_79 : decode cX2_hit 79 = .ok (.iload_n 1, 1) := by decide +kernel
theorem dX2_hit_80 : decode cX2_hit 80 = .ok (.aload_n 0, 1) := by decide +kernel
theorem dX2_hit_81 : decode cX2_hit 81 = .ok (.getfield 28, 3) := by decide +kernel
theorem dX2_hit_84 : decode cX2_hit 84 = .ok (.iconst 0, 1) := by decide +kernel
theorem dX2_hit_85 : decode cX2_hit 85 = .ok (.iaload, 1) := by decide +kernel
theorem dX2_hit_86 : decode cX2_hit 86 = .ok (.iconst 1, 1) := by decide +kernel
theorem dX2_hit_87 : decode cX2_hit 87 = .ok (.isub, 1) := by decide +kernel
theorem dX2_hit_88 : decode cX2_hit 88 = .ok (.aload_n 0, 1) := by decide +kernel
theorem dX2_hit_89 : decode cX2_hit 89 = .ok (.getfield 15, 3) := by decide +kernel
theorem dX2_hit_92 : decode cX2_hit 92 = .ok (.bipush 9, 2) := by decide +kernel
theorem dX2_hit_94 : decode cX2_hit 94 = .ok (.iaload, 1) := by decide +kernel
theorem dX2_hit_95 : decode cX2_hit 95 = .ok (.invokevirtual 180, 3) := by decide +kernel
theorem dX2_hit_98 : decode cX2_hit 98 = .ok (.istore_n 3, 1) := by decide +kernel
theorem dX2_hit_99 : decode cX2_hit 99 = .ok (.iload_n 3, 1) := by decide +kernel
theorem dX2_hit_100 : decode cX2_hit 100 = .ok (.ifCond .le 40, 3) := by decide +kernel
theorem dX2_hit_103 : decode cX2_hit 103 = .ok (.aload_n 0, 1) := by decide +kernel
theorem dX2_hit_104 : decode cX2_hit 104 = .ok (.getfield 28, 3) := by decide +kernel
theorem dX2_hit_107 : decode cX2_hit 107 = .ok (.bipush 32, 2) := by decide +kernel
theorem dX2_hit_109 : decode cX2_hit 109 = .ok (.dup2, 1) := by decide +kernel
theorem dX2_hit_110 : decode cX2_hit 110 = .ok (.iaload, 1) := by decide +kernel
theorem dX2_hit_111 : decode cX2_hit 111 = .ok (.iconst 1, 1) := by decide +kernel
theorem dX2_hit_112 : decode cX2_hit 112 = .ok (.iadd, 1) := by decide +kernel
theorem dX2_hit_113 : decode cX2_hit 113 = .ok (.iastore, 1) := by decide +kernel
theorem dX2_hit_114 : decode cX2_hit 114 = .ok (.aload_n 0, 1) := by decide +kernel
theorem dX2_hit_115 : decode cX2_hit 115 = .ok (.getfield 28, 3) := by decide +kernel
theorem dX2_hit_118 : decode cX2_hit 118 = .ok (.bipush 33, 2) := by decide +kernel
theorem dX2_hit_120 : decode cX2_hit 120 = .ok (.dup2, 1) := by decide +kernel
theorem dX2_hit_121 : decode cX2_hit 121 = .ok (.iaload, 1) := by decide +kernel
theorem dX2_hit_122 : decode cX2_hit 122 = .ok (.iload_n 3, 1) := by decide +kernel
theorem dX2_hit_123 : decode cX2_hit 123 = .ok (.iadd, 1) := by decide +kernel
theorem dX2_hit_124 : decode cX2_hit 124 = .ok (.iastore, 1) := by decide +kernel
theorem dX2_hit_125 : decode cX2_hit 125 = .ok (.aload_n 2, 1) := by decide +kernel
theorem dX2_hit_126 : decode cX2_hit 126 = .ok (.ifnull 14, 3) := by decide +kernel
theorem dX2_hit_129 : decode cX2_hit 129 = .ok (.aload_n 0, 1) := by decide +kernel
theorem dX2_hit_130 : decode cX2_hit 130 = .ok (.aload_n 2, 1) := by decide +kernel
theorem dX2_hit_131 : decode cX2_hit 131 = .ok (.iconst 2, 1) := by decide +kernel
theorem dX2_hit_132 : decode cX2_hit 132 = .ok (.aload_n 2, 1) := by decide +kernel
theorem dX2_hit_133 : decode cX2_hit 133 = .ok (.getfield 183, 3) := by decide +kernel
theorem dX2_hit_136 : decode cX2_hit 136 = .ok (.imul, 1) := by decide +kernel
theorem dX2_hit_137 : decode cX2_hit 137 = .ok (.invokevirtual 186, 3) := by decide +kernel
theorem dX2_hit_140 : decode cX2_hit 140 = .ok (.return_, 1) := by decide +kernel
def mE_X2_hit_140 (N : Nat) (σ : ST) (x1 : Int32) (x2 : Option (Fin 6)) (x3 : Int32) : Option (ST) :=
  some σ
set_option maxRecDepth 20000 in
set_option maxHeartbeats 2000000 in
theorem tE_X2_hit_140 {adr : Nat → Nat} {cI cZ cS : ClassId} {tL tH : Nat} {X : zX} {q : ST} (B : zC X 4 (wdE adr cI cZ cS tL tH) cX2_hit RX2 none { frames := 2, cells := 0, slots := 0, locals := 48 }) (N : Nat) (σ : ST) (x1 : Int32) (x2 : Option (Fin 6)) (x3 : Int32) (hf : mE_X2_hit_140 N σ x1 x2 x3 = some q) : zJ X 4 (wdE adr cI cZ cS tL tH) (zu q) 140 [(0, .ref (adr 0)), (1, .int x1), (2, zq adr x2), (3, .int x3)] [] σ := by
  exact z_return B dX2_hit_140 hf
def mE_X2_hit_75 (N : Nat) (σ : ST) (x1 : Int32) (x2 : Option (Fin 6)) : Option (ST) :=
  zGet (σ 2) 34 (0) fun v85 =>
  zLet ((v85 : Int32) - (1)) fun v87 =>
  zGet (σ 1) 10 (9) fun v94 =>
  zCall (mE_X0_toCome N σ x1 v87 v94) fun v95 s95 =>
  if (v95 : Int32) ≤ 0 then
    mE_X2_hit_140 N s95 x1 x2 v95
  else
    zGet (s95 2) 34 (32) fun v110 =>
    zLet ((v110 : Int32) + (1)) fun v112 =>
    zSet s95 2 34 (32) v112 fun s113 =>
    zGet (s113 2) 34 (33) fun v121 =>
    zLet ((v121 : Int32) + v95) fun v123 =>
    zSet s113 2 34 (33) v123 fun s124 =>
    match x2 with
    | none =>
        mE_X2_hit_140 N s124 x1 none v95
    | some p126 =>
        zLet (s124 (12 + (p126).val) 4) fun v133 =>
        zLet (((2) : Int32) * v133) fun v136 =>
        zCallu (mE_X2_changeWindow N s124 p126 v136) fun s137 =>
        mE_X2_hit_140 N s137 x1 (some p126) v95
set_option maxRecDepth 20000 in
set_option maxHeartbeats 2000000 in
theorem tE_X2_hit_75 {adr : Nat → Nat} {cI cZ cS : ClassId} {tL tH : Nat} {X : zX} {q : ST} (B : zC X 4 (wdE adr cI cZ cS tL tH) cX2_hit RX2 none { frames := 2, cells := 0, slots := 0, locals := 48 }) (N : Nat) (σ : ST) (x1 : Int32) (x2 : Option (Fin 6)) (hf : mE_X2_hit_75 N σ x1 x2 = some q) : zJ X 4 (wdE adr cI cZ cS tL tH) (zu q) 75 [(0, .ref (adr 0)), (1, .int x1), (2, zq adr x2)] [] σ := by
  refine z_aload_n B dX2_hit_75 0 rfl rfl ?_
  refine fE_g_X2_E_cache B dX2_hit_76 ?_
  refine z_iload_n B dX2_hit_79 1 rfl rfl ?_
  refine z_aload_n B dX2_hit_80 0 rfl rfl ?_
  refine fE_g_X2_E_counts B dX2_hit_81 ?_
  refine z_iconst B (0) dX2_hit_84 zc_iconst_0 ?_
  refine fE_l_E_counts B dX2_hit_85 hf (fun v85 hf => ?_)
  refine z_iconst B (1) dX2_hit_86 zc_iconst_1 ?_
  refine z_isub B dX2_hit_87 hf (fun v87 hf => ?_)
  refine z_aload_n B dX2_hit_88 0 rfl rfl ?_
  refine fE_g_X2_E_terms B dX2_hit_89 ?_
  refine z_bipush B (9) dX2_hit_92 zc_bipush_9 ?_
  refine fE_l_E_terms B dX2_hit_94 hf (fun v94 hf => ?_)
  refine z_callVi B (As := [.int x1, .int v87, .int v94]) kcV_X2_180 dX2_hit_95 hf (fun q hq => cE_X0_toCome q hq) (wE_o_C (adr := adr) (cI := cI) (cZ := cZ) (cS := cS) (tL := tL) (tH := tH)) rfl rfl rfl rfl (Nat.le_of_ble_eq_true rfl) rfl rfl ⟨Nat.le_of_ble_eq_true rfl, Nat.le_of_ble_eq_true rfl⟩ (fun v95 s95 hf => ?_)
  refine z_istore_n B [(3, .int v95), (0, .ref (adr 0)), (1, .int x1), (2, zq adr x2)] dX2_hit_98 rfl (Nat.le_of_ble_eq_true rfl) (by cases x2 <;> rfl) ?_
  refine z_iload_n B dX2_hit_99 0 rfl rfl ?_
  refine z_if_le B 140 dX2_hit_100 (by decide) hf (fun hf => ?_) (fun hf => ?_)
  · exact z_loc [1, 2, 3, 0] _ rfl (tE_X2_hit_140 B N s95 x1 x2 v95 hf)
  · refine z_aload_n B dX2_hit_103 1 rfl rfl ?_
    refine fE_g_X2_E_counts B dX2_hit_104 ?_
    refine z_bipush B (32) dX2_hit_107 zc_bipush_32 ?_
    refine z_dup2 B dX2_hit_109 rfl rfl ?_
    refine fE_l_E_counts B dX2_hit_110 hf (fun v110 hf => ?_)
    refine z_iconst B (1) dX2_hit_111 zc_iconst_1 ?_
    refine z_iadd B dX2_hit_112 hf (fun v112 hf => ?_)
    refine fE_s_E_counts B dX2_hit_113 hf (fun s113 hf => ?_)
    refine z_aload_n B dX2_hit_114 1 rfl rfl ?_
    refine fE_g_X2_E_counts B dX2_hit_115 ?_
    refine z_bipush B (33) dX2_hit_118 zc_bipush_33 ?_
    refine z_dup2 B dX2_hit_120 rfl rfl ?_
    refine fE_l_E_counts B dX2_hit_121 hf (fun v121 hf => ?_)
    refine z_iload_n B dX2_hit_122 0 rfl rfl ?_
    refine z_iadd B dX2_hit_123 hf (fun v123 hf => ?_)
    refine fE_s_E_counts B dX2_hit_124 hf (fun s124 hf => ?_)
    refine z_aload_nq B dX2_hit_125 3 rfl rfl ?_
    cases x2 with
    | none =>
      refine z_ifnull_N B 140 dX2_hit_126 (by decide) ?_
      exact z_loc [1, 2, 3, 0] _ rfl (tE_X2_hit_140 B N s124 x1 none v95 hf)
    | some p126 =>
      refine z_ifnull_S B dX2_hit_126 ?_
      refine z_aload_n B dX2_hit_129 1 rfl rfl ?_
      refine z_aload_n B dX2_hit_130 3 rfl rfl ?_
      refine z_iconst B (2) dX2_hit_131 zc_iconst_2 ?_
      refine z_aload_n B dX2_hit_132 3 rfl rfl ?_
      refine fE_g_X2_S_window B p126 dX2_hit_133 hf (fun v133 hf => ?_)
      refine z_imul B dX2_hit_136 hf (fun v136 hf => ?_)
      refine z_callVu B (As := [.ref (adr (12 + (p126).val)), .int v136]) kcV_X2_186 dX2_hit_137 hf (fun q hq => cE_X2_changeWindow q hq) (wE_o_E (adr := adr) (cI := cI) (cZ := cZ) (cS := cS) (tL := tL) (tH := tH)) rfl rfl rfl rfl (Nat.le_of_ble_eq_true rfl) rfl rfl ⟨Nat.le_of_ble_eq_true rfl, Nat.le_of_ble_eq_true rfl⟩ (fun s137 hf => ?_)
      exact z_loc [1, 2, 3, 0] _ rfl (tE_X2_hit_140 B N s137 x1 (some p126) v95 hf)
def mE_X2_hit_15 (N : Nat) (σ : ST) (x1 : Int32) : Option (ST) :=
  some σ
set_option maxRecDepth 20000 in
set_option maxHeartbeats 2000000 in
theorem tE_X2_hit_15 {adr : Nat → Nat} {cI cZ cS : ClassId} {tL tH : Nat} {X : zX} {q : ST} (B : zC X 4 (wdE adr cI cZ cS tL tH) cX2_hit RX2 none { frames := 2, cells := 0, slots := 0, locals := 48 }) (N : Nat) (σ : ST) (x1 : Int32) (hf : mE_X2_hit_15 N σ x1 = some q) : zJ X 4 (wdE adr cI cZ cS tL tH) (zu q) 15 [(0, .ref (adr 0)), (1, .int x1)] [] σ := by
  exact z_return B dX2_hit_15 hf
def mE_X2_hit (N : Nat) (σ : ST) (x1 : Int32) : Option (ST) :=
  if (x1 : Int32) < 0 then
    mE_X2_hit_15 N σ x1
  else
    zLet (σ 3 7) fun v9 =>
    if (x1 : Int32) < v9 then
      zGet (σ 2) 34 (1) fun v22 =>
      zLet ((v22 : Int32) + (1)) fun v24 =>
      zSet σ 2 34 (1) v24 fun s25 =>
      zGet (s25 7) 64 x1 fun v35 =>
      zCallq (mE_X2_streamOf N s25 v35) fun v36 s36 =>
      zCall (mE_X0_touch N s36 x1) fun v45 s45 =>
      if (v45 : Int32) = 0 then
        mE_X2_hit_75 N s45 x1 v36
      else
        zGet (s45 2) 34 (4) fun v57 =>
        zLet ((v57 : Int32) + (1)) fun v59 =>
        zSet s45 2 34 (4) v59 fun s60 =>
        match v36 with
        | none =>
            mE_X2_hit_75 N s60 x1 none
        | some p62 =>
            zLet (s60 (12 + (p62).val) 9) fun v67 =>
            zLet ((v67 : Int32) + (1)) fun v71 =>
            zLet (zUp s60 (12 + (p62).val) 9 v71) fun s72 =>
            mE_X2_hit_75 N s72 x1 (some p62)
    else
      mE_X2_hit_15 N σ x1
set_option maxRecDepth 20000 in
set_option maxHeartbeats 2000000 in
theorem cE_X2_hit {adr : Nat → Nat} {cI cZ cS : ClassId} {tL tH : Nat} {l : Launch} {D : va_G} {N : Nat} {σ : ST} {x1 : Int32} (q : ST) (hf : mE_X2_hit N σ x1 = some q) : zM l D (wdE adr cI cZ cS tL tH) yX2_hit cX2_hit 4 none ({ frames := 2, cells := 0, slots := 0, locals := 48 }) [.ref (adr 0), .int x1] σ (zu q) := by
  refine zM_of sfE_ok rfl (Nat.le_of_ble_eq_true rfl) [(0, .ref (adr 0)), (1, .int x1)] rfl (fun X hX1 hX2 B => ?_)
  have B : zC X 4 (wdE adr cI cZ cS tL tH) cX2_hit RX2 none { frames := 2, cells := 0, slots := 0, locals := 48 } := B
  refine z_iload_n B dX2_hit_0 1 rfl rfl ?_
  refine z_if_lt B 15 dX2_hit_1 (by decide) hf (fun hf => ?_) (fun hf => ?_)
  · exact tE_X2_hit_15 B N σ x1 hf
  · refine z_iload_n B dX2_hit_4 1 rfl rfl ?_
    refine z_aload_n B dX2_hit_5 0 rfl rfl ?_
    refine fE_g_X2_E_cache B dX2_hit_6 ?_
    refine fE_g_X2_C_size B dX2_hit_9 hf (fun v9 hf => ?_)
    refine z_icmp_lt B 16 dX2_hit_12 (by decide) hf (fun hf => ?_) (fun hf => ?_)
    · refine z_aload_n B dX2_hit_16 0 rfl rfl ?_
      refine fE_g_X2_E_counts B dX2_hit_17 ?_
      refine z_iconst B (1) dX2_hit_20 zc_iconst_1 ?_
      refine z_dup2 B dX2_hit_21 rfl rfl ?_
      refine fE_l_E_counts B dX2_hit_22 hf (fun v22 hf => ?_)
      refine z_iconst B (1) dX2_hit_23 zc_iconst_1 ?_
      refine z_iadd B dX2_hit_24 hf (fun v24 hf => ?_)
      refine fE_s_E_counts B dX2_hit_25 hf (fun s25 hf => ?_)
      refine z_aload_n B dX2_hit_26 0 rfl rfl ?_
      refine z_aload_n B dX2_hit_27 0 rfl rfl ?_
      refine fE_g_X2_E_cache B dX2_hit_28 ?_
      refine fE_g_X2_C_owners B dX2_hit_31 ?_
      refine z_iload_n B dX2_hit_34 1 rfl rfl ?_
      refine fE_l_C_owners B dX2_hit_35 hf (fun v35 hf => ?_)
      refine z_callVq B (As := [.int v35]) kcV_X2_171 dX2_hit_36 hf (fun q hq => cE_X2_streamOf q hq) (wE_o_E (adr := adr) (cI := cI) (cZ := cZ) (cS := cS) (tL := tL) (tH := tH)) rfl rfl rfl rfl (Nat.le_of_ble_eq_true rfl) rfl rfl ⟨Nat.le_of_ble_eq_true rfl, Nat.le_of_ble_eq_true rfl⟩ (fun v36 s36 hf => ?_)
      refine z_astore_nq B [(2, zq adr v36), (0, .ref (adr 0)), (1, .int x1)] dX2_hit_39 rfl (Nat.le_of_ble_eq_true rfl) rfl ?_
      refine z_aload_n B dX2_hit_40 1 rfl rfl ?_
      refine fE_g_X2_E_cache B dX2_hit_41 ?_
      refine z_iload_n B dX2_hit_44 2 rfl rfl ?_
      refine z_callVi B (As := [.int x1]) kcV_X2_174 dX2_hit_45 hf (fun q hq => cE_X0_touch q hq) (wE_o_C (adr := adr) (cI := cI) (cZ := cZ) (cS := cS) (tL := tL) (tH := tH)) rfl rfl rfl rfl (Nat.le_of_ble_eq_true rfl) rfl rfl ⟨Nat.le_of_ble_eq_true rfl, Nat.le_of_ble_eq_true rfl⟩ (fun v45 s45 hf => ?_)
      refine z_if_eq B 75 dX2_hit_48 (by decide) hf (fun hf => ?_) (fun hf => ?_)
      · exact z_loc [1, 2, 0] _ rfl (tE_X2_hit_75 B N s45 x1 v36 hf)
      · refine z_aload_n B dX2_hit_51 1 rfl rfl ?_
        refine fE_g_X2_E_counts B dX2_hit_52 ?_
        refine z_iconst B (4) dX2_hit_55 zc_iconst_4 ?_
        refine z_dup2 B dX2_hit_56 rfl rfl ?_
        refine fE_l_E_counts B dX2_hit_57 hf (fun v57 hf => ?_)
        refine z_iconst B (1) dX2_hit_58 zc_iconst_1 ?_
        refine z_iadd B dX2_hit_59 hf (fun v59 hf => ?_)
        refine fE_s_E_counts B dX2_hit_60 hf (fun s60 hf => ?_)
        refine z_aload_nq B dX2_hit_61 0 rfl rfl ?_
        cases v36 with
        | none =>
          refine z_ifnull_N B 75 dX2_hit_62 (by decide) ?_
          exact z_loc [1, 2, 0] _ rfl (tE_X2_hit_75 B N s60 x1 none hf)
        | some p62 =>
          refine z_ifnull_S B dX2_hit_62 ?_
          refine z_aload_n B dX2_hit_65 0 rfl rfl ?_
          refine z_dup B dX2_hit_66 rfl ?_
          refine fE_g_X2_S_hits B p62 dX2_hit_67 hf (fun v67 hf => ?_)
          refine z_iconst B (1) dX2_hit_70 zc_iconst_1 ?_
          refine z_iadd B dX2_hit_71 hf (fun v71 hf => ?_)
          refine fE_p_X2_S_hits B p62 dX2_hit_72 hf (fun s72 hf => ?_)
          exact z_loc [1, 2, 0] _ rfl (tE_X2_hit_75 B N s72 x1 (some p62) hf)
    · exact tE_X2_hit_15 B N σ x1 hf
theorem dX2_admit_0 : decode cX2_admit 0 = .ok (.aload_n 0, 1) := by decide +kernel
theorem dX2_admit_1 : decode cX2_admit 1 = .ok (.getfield 28, 3) := by decide +kernel
theorem dX2_admit_4 : decode cX2_admit 4 = .ok (.iconst 2, 1) := by decide +kernel
theorem dX2_admit_5 : decode cX2_admit 5 = .ok (.dup2, 1) := by decide +kernel
theorem dX2_admit_6 : decode cX2_admit 6 = .ok (.iaload, 1) := by decide +kernel
theorem dX2_admit_7 : decode cX2_admit 7 = .ok (.iconst 1, 1) := by decide +kernel
theorem dX2_admit_8 : decode cX2_admit 8 = .ok (.iadd, 1) := by decide +kernel
theorem dX2_admit_9 : decode cX2_admit 9 = .ok (.iastore, 1) := by decide +kernel
theorem dX2_admit_10 : decode cX2_admit 10 = .ok (.aload_n 0, 1) := by decide +kernel
theorem dX2_admit_11 : decode cX2_admit 11 = .ok (.getfield 34, 3) := by decide +kernel
theorem dX2_admit_14 : decode cX2_admit 14 = .ok (.aload_n 0, 1) := by decide +kernel
theorem dX2_admit_15 : decode cX2_admit 15 = .ok (.getfield 15, 3) := by decide +kernel
theorem dX2_admit_18 : decode cX2_admit 18 = .ok (.iconst 0, 1) := by decide +kernel
theorem dX2_admit_19 : decode cX2_admit 19 = .ok (.iaload, 1) := by decide +kernel
theorem dX2_admit_20 : decode cX2_admit 20 = .ok (.aload_n 0, 1) := by decide +kernel
theorem dX2_admit_21 : decode cX2_admit 21 = .ok (.getfield 15, 3) := by decide +kernel
theorem dX2_admit_24 : decode cX2_admit 24 = .ok (.bipush 8, 2) := by decide +kernel
theorem dX2_admit_26 : decode cX2_admit 26 = .ok (.iaload, 1) := by decide +kernel
theorem dX2_admit_27 : decode cX2_admit 27 = .ok (.iload_n 1, 1) := by decide +kernel
theorem dX2_admit_28 : decode cX2_admit 28 = .ok (.invokevirtual 155, 3) := by decide +kernel
theorem dX2_admit_31 : decode cX2_admit 31 = .ok (.istore_n 2, 1) := by decide +kernel
theorem dX2_admit_32 : decode cX2_admit 32 = .ok (.iload_n 2, 1) := by decide +kernel
theorem dX2_admit_33 : decode cX2_admit 33 = .ok (.iconst (-1), 1) := by decide +kernel
theorem dX2_admit_34 : decode cX2_admit 34 = .ok (.if_icmp .eq 8, 3) := by decide +kernel
theorem dX2_admit_37 : decode cX2_admit 37 = .ok (.aload_n 0, 1) := by decide +kernel
theorem dX2_admit_38 : decode cX2_admit 38 = .ok (.iload_n 2, 1) := by decide +kernel
theorem dX2_admit_39 : decode cX2_admit 39 = .ok (.invokevirtual 159, 3) := by decide +kernel
theorem dX2_admit_42 : decode cX2_admit 42 = .ok (.aload_n 0, 1) := by decide +kernel
theorem dX2_admit_43 : decode cX2_admit 43 = .ok (.getfield 34, 3) := by decide +kernel
theorem dX2_admit_46 : decode cX2_admit 46 = .ok (.iload_n 1, 1) := by decide +kernel
theorem dX2_admit_47 : decode cX2_admit 47 = .ok (.iconst (-1), 1) := by decide +kernel
theorem dX2_admit_48 : decode cX2_admit 48 = .ok (.aload_n 0, 1) := by decide +kernel
theorem dX2_admit_49 : decode cX2_admit 49 = .ok (.getfield 28, 3) := by decide +kernel
theorem dX2_admit_52 : decode cX2_admit 52 = .ok (.iconst 0, 1) := by decide +kernel
theorem dX2_admit_53 : decode cX2_admit 53 = .ok (.iaload, 1) := by decide +kernel
theorem dX2_admit_54 : decode cX2_admit 54 = .ok (.invokevirtual 162, 3) := by decide +kernel
theorem dX2_admit_57 : decode cX2_admit 57 = .ok (.return_, 1) := by decide +kernel
def mE_X2_admit_42 (N : Nat) (σ : ST) (x1 : Int32) (x2 : Int32) : Option (ST) :=
  zGet (σ 2) 34 (0) fun v53 =>
  zCallu (mE_X0_put N σ x1 (-1) v53) fun s54 =>
  some s54
set_option maxRecDepth 20000 in
set_option maxHeartbeats 2000000 in
theorem tE_X2_admit_42 {adr : Nat → Nat} {cI cZ cS : ClassId} {tL tH : Nat} {X : zX} {q : ST} (B : zC X 3 (wdE adr cI cZ cS tL tH) cX2_admit RX2 none { frames := 3, cells := 0, slots := 0, locals := 74 }) (N : Nat) (σ : ST) (x1 : Int32) (x2 : Int32) (hf : mE_X2_admit_42 N σ x1 x2 = some q) : zJ X 3 (wdE adr cI cZ cS tL tH) (zu q) 42 [(0, .ref (adr 0)), (1, .int x1), (2, .int x2)] [] σ := by
  refine z_aload_n B dX2_admit_42 0 rfl rfl ?_
  refine fE_g_X2_E_cache B dX2_admit_43 ?_
  refine z_iload_n B dX2_admit_46 1 rfl rfl ?_
  refine z_iconst B (-1) dX2_admit_47 zc_iconst_m1 ?_
  refine z_aload_n B dX2_admit_48 0 rfl rfl ?_
  refine fE_g_X2_E_counts B dX2_admit_49 ?_
  refine z_iconst B (0) dX2_admit_52 zc_iconst_0 ?_
  refine fE_l_E_counts B dX2_admit_53 hf (fun v53 hf => ?_)
  refine z_callVu B (As := [.int x1, .int (-1), .int v53]) kcV_X2_162 dX2_admit_54 hf (fun q hq => cE_X0_put q hq) (wE_o_C (adr := adr) (cI := cI) (cZ := cZ) (cS := cS) (tL := tL) (tH := tH)) rfl rfl rfl rfl (Nat.le_of_ble_eq_true rfl) rfl rfl ⟨Nat.le_of_ble_eq_true rfl, Nat.le_of_ble_eq_true rfl⟩ (fun s54 hf => ?_)
  exact z_return B dX2_admit_57 hf
def mE_X2_admit (N : Nat) (σ : ST) (x1 : Int32) : Option (ST) :=
  zGet (σ 2) 34 (2) fun v6 =>
  zLet ((v6 : Int32) + (1)) fun v8 =>
  zSet σ 2 34 (2) v8 fun s9 =>
  zGet (s9 1) 10 (0) fun v19 =>
  zGet (s9 1) 10 (8) fun v26 =>
  zCall (mE_X0_makeRoom N s9 v19 v26 x1) fun v28 s28 =>
  if (v28 : Int32) = (-1) then
    mE_X2_admit_42 N s28 x1 v28
  else
    zCallu (mE_X2_waste N s28 v28) fun s39 =>
    mE_X2_admit_42 N s39 x1 v28
set_option maxRecDepth 20000 in
set_option maxHeartbeats 2000000 in
theorem cE_X2_admit {adr : Nat → Nat} {cI cZ cS : ClassId} {tL tH : Nat} {l : Launch} {D : va_G} {N : Nat} {σ : ST} {x1 : Int32} (q : ST) (hf : mE_X2_admit N σ x1 = some q) : zM l D (wdE adr cI cZ cS tL tH) yX2_admit cX2_admit 3 none ({ frames := 3, cells := 0, slots := 0, locals := 74 }) [.ref (adr 0), .int x1] σ (zu q) := by
  refine zM_of sfE_ok rfl (Nat.le_of_ble_eq_true rfl) [(0, .ref (adr 0)), (1, .int x1)] rfl (fun X hX1 hX2 B => ?_)
  have B : zC X 3 (wdE adr cI cZ cS tL tH) cX2_admit RX2 none { frames := 3, cells := 0, slots := 0, locals := 74 } := B
  refine z_aload_n B dX2_admit_0 0 rfl rfl ?_
  refine fE_g_X2_E_counts B dX2_admit_1 ?_
  refine z_iconst B (2) dX2_admit_4 zc_iconst_2 ?_
  refine z_dup2 B dX2_admit_5 rfl rfl ?_
  refine fE_l_E_counts B dX2_admit_6 hf (fun v6 hf => ?_)
  refine z_iconst B (1) dX2_admit_7 zc_iconst_1 ?_
  refine z_iadd B dX2_admit_8 hf (fun v8 hf => ?_)
  refine fE_s_E_counts B dX2_admit_9 hf (fun s9 hf => ?_)
  refine z_aload_n B dX2_admit_10 0 rfl rfl ?_
  refine fE_g_X2_E_cache B dX2_admit_11 ?_
  refine z_aload_n B dX2_admit_14 0 rfl rfl ?_
  refine fE_g_X2_E_terms B dX2_admit_15 ?_
  refine z_iconst B (0) dX2_admit_18 zc_iconst_0 ?_
  refine fE_l_E_terms B dX2_admit_19 hf (fun v19 hf => ?_)
  refine z_aload_n B dX2_admit_20 0 rfl rfl ?_
  refine fE_g_X2_E_terms B dX2_admit_21 ?_
  refine z_bipush B (8) dX2_admit_24 zc_bipush_8 ?_
  refine fE_l_E_terms B dX2_admit_26 hf (fun v26 hf => ?_)
  refine z_iload_n B dX2_admit_27 1 rfl rfl ?_
  refine z_callVi B (As := [.int v19, .int v26, .int x1]) kcV_X2_155 dX2_admit_28 hf (fun q hq => cE_X0_makeRoom q hq) (wE_o_C (adr := adr) (cI := cI) (cZ := cZ) (cS := cS) (tL := tL) (tH := tH)) rfl rfl rfl rfl (Nat.le_of_ble_eq_true rfl) rfl rfl ⟨Nat.le_of_ble_eq_true rfl, Nat.le_of_ble_eq_true rfl⟩ (fun v28 s28 hf => ?_)
  refine z_istore_n B [(2, .int v28), (0, .ref (adr 0)), (1, .int x1)] dX2_admit_31 rfl (Nat.le_of_ble_eq_true rfl) rfl ?_
  refine z_iload_n B dX2_admit_32 0 rfl rfl ?_
  refine z_iconst B (-1) dX2_admit_33 zc_iconst_m1 ?_
  refine z_icmp_eq B 42 dX2_admit_34 (by decide) hf (fun hf => ?_) (fun hf => ?_)
  · exact z_loc [1, 2, 0] _ rfl (tE_X2_admit_42 B N s28 x1 v28 hf)
  · refine z_aload_n B dX2_admit_37 1 rfl rfl ?_
    refine z_iload_n B dX2_admit_38 0 rfl rfl ?_
    refine z_callVu B (As := [.int v28]) kcV_X2_159 dX2_admit_39 hf (fun q hq => cE_X2_waste q hq) (wE_o_E (adr := adr) (cI := cI) (cZ := cZ) (cS := cS) (tL := tL) (tH := tH)) rfl rfl rfl rfl (Nat.le_of_ble_eq_true rfl) rfl rfl ⟨Nat.le_of_ble_eq_true rfl, Nat.le_of_ble_eq_true rfl⟩ (fun s39 hf => ?_)
    exact z_loc [1, 2, 0] _ rfl (tE_X2_admit_42 B N s39 x1 v28 hf)
theorem dX2_take_0 : decode cX2_take 0 = .ok (.aload_n 0, 1) := by decide +kernel
theorem dX2_take_1 : decode cX2_take 1 = .ok (.iconst 0, 1) := by decide +kernel
theorem dX2_take_2 : decode cX2_take 2 = .ok (.putfield 87, 3) := by decide +kernel
theorem dX2_take_5 : decode cX2_take 5 = .ok (.aload_n 0, 1) := by decide +kernel
theorem dX2_take_6 : decode cX2_take 6 = .ok (.iconst (-1), 1) := by decide +kernel
theorem dX2_take_7 : decode cX2_take 7 = .ok (.putfield 62, 3) := by decide +kernel
theorem dX2_take_10 : decode cX2_take 10 = .ok (.aload_n 0, 1) := by decide +kernel
theorem dX2_take_11 : decode cX2_take 11 = .ok (.iload_n 1, 1) := by decide +kernel
theorem dX2_take_12 : decode cX2_take 12 = .ok (.invokevirtual 107, 3) := by decide +kernel
theorem dX2_take_15 : decode cX2_take 15 = .ok (.ifCond .ne 5, 3) := by decide +kernel
theorem dX2_take_18 : decode cX2_take 18 = .ok (.iconst (-1), 1) := by decide +kernel
theorem dX2_take_19 : decode cX2_take 19 = .ok (.ireturn, 1) := by decide +kernel
theorem dX2_take_20 : decode cX2_take 20 = .ok (.aload_n 0, 1) := by decide +kernel
theorem dX2_take_21 : decode cX2_take 21 = .ok (.getfield 34, 3) := by decide +kernel
theorem dX2_take_24 : decode cX2_take 24 = .ok (.iload_n 1, 1) := by decide +kernel
theorem dX2_take_25 : decode cX2_take 25 = .ok (.invokevirtual 111, 3) := by decide +kernel
theorem dX2_take_28 : decode cX2_take 28 = .ok (.istore_n 2, 1) := by decide +kernel
theorem dX2_take_29 : decode cX2_take 29 = .ok (.iload_n 2, 1) := by decide +kernel
theorem dX2_take_30 : decode cX2_take 30 = .ok (.iconst (-1), 1) := by decide +kernel
theorem dX2_take_31 : decode cX2_take 31 = .ok (.if_icmp .ne 26, 3) := by decide +kernel
theorem dX2_take_34 : decode cX2_take 34 = .ok (.aload_n 0, 1) := by decide +kernel
theorem dX2_take_35 : decode cX2_take 35 = .ok (.getfield 9, 3) := by decide +kernel
theorem dX2_take_38 : decode cX2_take 38 = .ok (.iload_n 1, 1) := by decide +kernel
theorem dX2_take_39 : decode cX2_take 39 = .ok (.invokevirtual 115, 3) := by decide +kernel
theorem dX2_take_42 : decode cX2_take 42 = .ok (.ifCond .eq 15, 3) := by decide +kernel
theorem dX2_take_45 : decode cX2_take 45 = .ok (.aload_n 0, 1) := by decide +kernel
theorem dX2_take_46 : decode cX2_take 46 = .ok (.getfield 28, 3) := by decide +kernel
theorem dX2_take_49 : decode cX2_take 49 = .ok (.iconst 3, 1) := by decide +kernel
theorem dX2_take_50 : decode cX2_take 50 = .ok (.dup2, 1) := by decide +kernel
theorem dX2_take_51 : decode cX2_take 51 = .ok (.iaload, 1) := by decide +kernel
theorem dX2_take_52 : decode cX2_take 52 = .ok (.iconst 1, 1) := by decide +kernel
theorem dX2_take_53 : decode cX2_take 53 = .ok (.iadd, 1) := by decide +kernel
theorem dX2_take_54 : decode cX2_take 54 = .ok (.iastore, 1) := by decide +kernel
theorem dX2_take_55 : decode cX2_take 55 = .ok (.iconst 0, 1) := by decide +kernel
theorem dX2_take_56 : decode cX2_take 56 = .ok (.ireturn, 1) := by decide +kernel
theorem dX2_take_57 : decode cX2_take 57 = .ok (.aload_n 0, 1) := by decide +kernel
theorem dX2_take_58 : decode cX2_take 58 = .ok (.getfield 28, 3) := by decide +kernel
theorem dX2_take_61 : decode cX2_take 61 = .ok (.iconst 0, 1) := by decide +kernel
theorem dX2_take_62 : decode cX2_take 62 = .ok (.dup2, 1) := by decide +kernel
theorem dX2_take_63 : decode cX2_take 63 = .ok (.iaload, 1) := by decide +kernel
theorem dX2_take_64 : decode cX2_take 64 = .ok (.iconst 1, 1) := by decide +kernel
theorem dX2_take_65 : decode cX2_take 65 = .ok (.iadd, 1) := by decide +kernel
theorem dX2_take_66 : decode cX2_take 66 = .ok (.iastore, 1) := by decide +kernel
theorem dX2_take_67 : decode cX2_take 67 = .ok (.iload_n 2, 1) := by decide +kernel
theorem dX2_take_68 : decode cX2_take 68 = .ok (.iconst (-1), 1) := by decide +kernel
theorem dX2_take_69 : decode cX2_take 69 = .ok (.if_icmp .ne 11, 3) := by decide +kernel
theorem dX2_take_72 : decode cX2_take 72 = .ok (.aload_n 0, 1) := by decide +kernel
theorem dX2_take_73 : decode cX2_take 73 = .ok (.iload_n 1, 1) := by decide +kernel
theorem dX2_take_74 : decode cX2_take 74 = .ok (.invokevirtual 120, 3) := by decide +kernel
theorem dX2_take_77 : decode cX2_take 77 = .ok (.goto 8, 3) := by decide +kernel
theorem dX2_take_80 : decode cX2_take 80 = .ok (.aload_n 0, 1) := by decide +kernel
theorem dX2_take_81 : decode cX2_take 81 = .ok (.iload_n 2, 1) := by decide +kernel
theorem dX2_take_82 : decode cX2_take 82 = .ok (.invokevirtual 124, 3) := by decide +kernel
theorem dX2_take_85 : decode cX2_take 85 = .ok (.aload_n 0, 1) := by decide +kernel
theorem dX2_take_86 : decode cX2_take 86 = .ok (.iload_n 1, 1) := by decide +kernel
theorem dX2_take_87 : decode cX2_take 87 = .ok (.invokevirtual 127, 3) := by decide +kernel
theorem dX2_take_90 : decode cX2_take 90 = .ok (.istore_n 3, 1) := by decide +kernel
theorem dX2_take_91 : decode cX2_take 91 = .ok (.aload_n 0, 1) := by decide +kernel
theorem dX2_take_92 : decode cX2_take 92 = .ok (.aload_n 0, 1) := by decide +kernel
theorem dX2_take_93 : decode cX2_take 93 = .ok (.getfield 62, 3) := by decide +kernel
theorem dX2_take_96 : decode cX2_take 96 = .ok (.invokevirtual 130, 3) := by decide +kernel
theorem dX2_take_99 : decode cX2_take 99 = .ok (.astore 4, 2) := by decide +kernel
theorem dX2_take_101 : decode cX2_take 101 = .ok (.aload 4, 2) := by decide +kernel
theorem dX2_take_103 : decode cX2_take 103 = .ok (.ifnonnull 5, 3) := by decide +kernel
theorem dX2_take_106 : decode cX2_take 106 = .ok (.iload_n 3, 1) := by decide +kernel
theorem dX2_take_107 : decode cX2_take 107 = .ok (.ireturn, 1) := by decide +kernel
theorem dX2_take_108 : decode cX2_take 108 = .ok (.iload_n 3, 1) := by decide +kernel
theorem dX2_take_109 : decode cX2_take 109 = .ok (.iconst 1, 1) := by decide +kernel
theorem dX2_take_110 : decode cX2_take 110 = .ok (.if_icmp .eq 8, 3) := by decide +kernel
theorem dX2_take_113 : decode cX2_take 113 = .ok (.iload_n 3, 1) := by decide +kernel
theorem dX2_take_114 : decode cX2_take 114 = .ok (.iconst 3, 1) := by decide +kernel
theorem dX2_take_115 : decode cX2_take 115 = .ok (.if_icmp .ne 19, 3) := by decide +kernel
theorem dX2_take_118 : decode cX2_take 118 = .ok (.aload_n 0, 1) := by decide +kernel
theorem dX2_take_119 : decode cX2_take 119 = .ok (.aload 4, 2) := by decide +kernel
theorem dX2_take_121 : decode cX2_take 121 = .ok (.invokevirtual 134, 3) := by decide +kernel
theorem dX2_take_124 : decode cX2_take 124 = .ok (.ifCond .eq 10, 3) := by decide +kernel
theorem dX2_take_127 : decode cX2_take 127 = .ok (.aload_n 0, 1) := by decide +kernel
theorem dX2_take_128 : decode cX2_take 128 = .ok (.aload 4, 2) := by decide +kernel
theorem dX2_take_130 : decode cX2_take 130 = .ok (.iload_n 1, 1) := by decide +kernel
theorem dX2_take_131 : decode cX2_take 131 = .ok (.invokevirtual 138, 3) := by decide +kernel
theorem dX2_take_134 : decode cX2_take 134 = .ok (.aload 4, 2) := by decide +kernel
theorem dX2_take_136 : decode cX2_take 136 = .ok (.aload_n 0, 1) := by decide +kernel
theorem dX2_take_137 : decode cX2_take 137 = .ok (.getfield 34, 3) := by decide +kernel
theorem dX2_take_140 : decode cX2_take 140 = .ok (.getfield 142, 3) := by decide +kernel
theorem dX2_take_143 : decode cX2_take 143 = .ok (.putfield 145, 3) := by decide +kernel
theorem dX2_take_146 : decode cX2_take 146 = .ok (.aload_n 0, 1) := by decide +kernel
theorem dX2_take_147 : decode cX2_take 147 = .ok (.getfield 48, 3) := by decide +kernel
theorem dX2_take_150 : decode cX2_take 150 = .ok (.iload_n 1, 1) := by decide +kernel
theorem dX2_take_151 : decode cX2_take 151 = .ok (.aload 4, 2) := by decide +kernel
theorem dX2_take_153 : decode cX2_take 153 = .ok (.getfield 70, 3) := by decide +kernel
theorem dX2_take_156 : decode cX2_take 156 = .ok (.iload_n 3, 1) := by decide +kernel
theorem dX2_take_157 : decode cX2_take 157 = .ok (.invokevirtual 148, 3) := by decide +kernel
theorem dX2_take_160 : decode cX2_take 160 = .ok (.aload_n 0, 1) := by decide +kernel
theorem dX2_take_161 : decode cX2_take 161 = .ok (.aload 4, 2) := by decide +kernel
theorem dX2_take_163 : decode cX2_take 163 = .ok (.invokevirtual 152, 3) := by decide +kernel
theorem dX2_take_166 : decode cX2_take 166 = .ok (.iload_n 3, 1) := by decide +kernel
theorem dX2_take_167 : decode cX2_take 167 = .ok (.ireturn, 1) := by decide +kernel
def mE_X2_take_134 (N : Nat) (σ : ST) (x1 : Int32) (x2 : Int32) (x3 : Int32) (x4 : Fin 6) : Option (Int32 × ST) :=
  zLet (σ 3 9) fun v140 =>
  zLet (zUp σ (12 + (x4).val) 7 v140) fun s143 =>
  zLet (s143 (12 + (x4).val) 0) fun v153 =>
  zCallu (mE_X3_add N s143 x1 v153 x3) fun s157 =>
  zCallu (mE_X2_joinOthers N s157 x4) fun s163 =>
  some (x3, s163)
set_option maxRecDepth 20000 in
set_option maxHeartbeats 2000000 in
theorem tE_X2_take_134 {adr : Nat → Nat} {cI cZ cS : ClassId} {tL tH : Nat} {X : zX} {q : Int32 × ST} (B : zC X 5 (wdE adr cI cZ cS tL tH) cX2_take RX2 (some .int) { frames := 5, cells := 0, slots := 0, locals := 122 }) (N : Nat) (σ : ST) (x1 : Int32) (x2 : Int32) (x3 : Int32) (x4 : Fin 6) (hf : mE_X2_take_134 N σ x1 x2 x3 x4 = some q) : zJ X 5 (wdE adr cI cZ cS tL tH) (zi q) 134 [(0, .ref (adr 0)), (1, .int x1), (2, .int x2), (3, .int x3), (4, .ref (adr (12 + (x4).val)))] [] σ := by
  refine z_aload B dX2_take_134 4 rfl ?_
  refine z_aload_n B dX2_take_136 0 rfl rfl ?_
  refine fE_g_X2_E_cache B dX2_take_137 ?_
  refine fE_g_X2_C_stamp B dX2_take_140 hf (fun v140 hf => ?_)
  refine fE_p_X2_S_used B x4 dX2_take_143 hf (fun s143 hf => ?_)
  refine z_aload_n B dX2_take_146 0 rfl rfl ?_
  refine fE_g_X2_E_history B dX2_take_147 ?_
  refine z_iload_n B dX2_take_150 1 rfl rfl ?_
  refine z_aload B dX2_take_151 4 rfl ?_
  refine fE_g_X2_S_number B x4 dX2_take_153 hf (fun v153 hf => ?_)
  refine z_iload_n B dX2_take_156 3 rfl rfl ?_
  refine z_callVu B (As := [.int x1, .int v153, .int x3]) kcV_X2_148 dX2_take_157 hf (fun q hq => cE_X3_add q hq) (wE_o_H (adr := adr) (cI := cI) (cZ := cZ) (cS := cS) (tL := tL) (tH := tH)) rfl rfl rfl rfl (Nat.le_of_ble_eq_true rfl) rfl rfl ⟨Nat.le_of_ble_eq_true rfl, Nat.le_of_ble_eq_true rfl⟩ (fun s157 hf => ?_)
  refine z_aload_n B dX2_take_160 0 rfl rfl ?_
  refine z_aload B dX2_take_161 4 rfl ?_
  refine z_callVu B (As := [.ref (adr (12 + (x4).val))]) kcV_X2_152 dX2_take_163 hf (fun q hq => cE_X2_joinOthers q hq) (wE_o_E (adr := adr) (cI := cI) (cZ := cZ) (cS := cS) (tL := tL) (tH := tH)) rfl rfl rfl rfl (Nat.le_of_ble_eq_true rfl) rfl rfl ⟨Nat.le_of_ble_eq_true rfl, Nat.le_of_ble_eq_true rfl⟩ (fun s163 hf => ?_)
  refine z_iload_n B dX2_take_166 3 rfl rfl ?_
  exact z_ireturn B dX2_take_167 hf
def mE_X2_take_118 (N : Nat) (σ : ST) (x1 : Int32) (x2 : Int32) (x3 : Int32) (x4 : Fin 6) : Option (Int32 × ST) :=
  zCall (mE_X2_asksForBatch N σ x4) fun v121 s121 =>
  if (v121 : Int32) = 0 then
    mE_X2_take_134 N s121 x1 x2 x3 x4
  else
    zCallu (mE_X2_runBatch N s121 x4 x1) fun s131 =>
    mE_X2_take_134 N s131 x1 x2 x3 x4
set_option maxRecDepth 20000 in
set_option maxHeartbeats 2000000 in
theorem tE_X2_take_118 {adr : Nat → Nat} {cI cZ cS : ClassId} {tL tH : Nat} {X : zX} {q : Int32 × ST} (B : zC X 5 (wdE adr cI cZ cS tL tH) cX2_take RX2 (some .int) { frames := 5, cells := 0, slots := 0, locals := 122 }) (N : Nat) (σ : ST) (x1 : Int32) (x2 : Int32) (x3 : Int32) (x4 : Fin 6) (hf : mE_X2_take_118 N σ x1 x2 x3 x4 = some q) : zJ X 5 (wdE adr cI cZ cS tL tH) (zi q) 118 [(0, .ref (adr 0)), (1, .int x1), (2, .int x2), (3, .int x3), (4, .ref (adr (12 + (x4).val)))] [] σ := by
  refine z_aload_n B dX2_take_118 0 rfl rfl ?_
  refine z_aload B dX2_take_119 4 rfl ?_
  refine z_callVi B (As := [.ref (adr (12 + (x4).val))]) kcV_X2_134 dX2_take_121 hf (fun q hq => cE_X2_asksForBatch q hq) (wE_o_E (adr := adr) (cI := cI) (cZ := cZ) (cS := cS) (tL := tL) (tH := tH)) rfl rfl rfl rfl (Nat.le_of_ble_eq_true rfl) rfl rfl ⟨Nat.le_of_ble_eq_true rfl, Nat.le_of_ble_eq_true rfl⟩ (fun v121 s121 hf => ?_)
  refine z_if_eq B 134 dX2_take_124 (by decide) hf (fun hf => ?_) (fun hf => ?_)
  · exact tE_X2_take_134 B N s121 x1 x2 x3 x4 hf
  · refine z_aload_n B dX2_take_127 0 rfl rfl ?_
    refine z_aload B dX2_take_128 4 rfl ?_
    refine z_iload_n B dX2_take_130 1 rfl rfl ?_
    refine z_callVu B (As := [.ref (adr (12 + (x4).val)), .int x1]) kcV_X2_138 dX2_take_131 hf (fun q hq => cE_X2_runBatch q hq) (wE_o_E (adr := adr) (cI := cI) (cZ := cZ) (cS := cS) (tL := tL) (tH := tH)) rfl rfl rfl rfl (Nat.le_of_ble_eq_true rfl) rfl rfl ⟨Nat.le_of_ble_eq_true rfl, Nat.le_of_ble_eq_true rfl⟩ (fun s131 hf => ?_)
    exact tE_X2_take_134 B N s131 x1 x2 x3 x4 hf
def mE_X2_take_85 (N : Nat) (σ : ST) (x1 : Int32) (x2 : Int32) : Option (Int32 × ST) :=
  zCall (mE_X2_findStream N σ x1) fun v87 s87 =>
  zLet (s87 0 9) fun v93 =>
  zCallq (mE_X2_streamAt N s87 v93) fun v96 s96 =>
  match v96 with
  | none =>
      some (v87, s96)
  | some p103 =>
      if (v87 : Int32) = (1) then
        mE_X2_take_118 N s96 x1 x2 v87 p103
      else
        if (v87 : Int32) = (3) then
          mE_X2_take_118 N s96 x1 x2 v87 p103
        else
          mE_X2_take_134 N s96 x1 x2 v87 p103
set_option maxRecDepth 20000 in
set_option maxHeartbeats 2000000 in
theorem tE_X2_take_85 {adr : Nat → Nat} {cI cZ cS : ClassId} {tL tH : Nat} {X : zX} {q : Int32 × ST} (B : zC X 5 (wdE adr cI cZ cS tL tH) cX2_take RX2 (some .int) { frames := 5, cells := 0, slots := 0, locals := 122 }) (N : Nat) (σ : ST) (x1 : Int32) (x2 : Int32) (hf : mE_X2_take_85 N σ x1 x2 = some q) : zJ X 5 (wdE adr cI cZ cS tL tH) (zi q) 85 [(0, .ref (adr 0)), (1, .int x1), (2, .int x2)] [] σ := by
  refine z_aload_n B dX2_take_85 0 rfl rfl ?_
  refine z_iload_n B dX2_take_86 1 rfl rfl ?_
  refine z_callVi B (As := [.int x1]) kcV_X2_127 dX2_take_87 hf (fun q hq => cE_X2_findStream q hq) (wE_o_E (adr := adr) (cI := cI) (cZ := cZ) (cS := cS) (tL := tL) (tH := tH)) rfl rfl rfl rfl (Nat.le_of_ble_eq_true rfl) rfl rfl ⟨Nat.le_of_ble_eq_true rfl, Nat.le_of_ble_eq_true rfl⟩ (fun v87 s87 hf => ?_)
  refine z_istore_n B [(3, .int v87), (0, .ref (adr 0)), (1, .int x1), (2, .int x2)] dX2_take_90 rfl (Nat.le_of_ble_eq_true rfl) rfl ?_
  refine z_aload_n B dX2_take_91 1 rfl rfl ?_
  refine z_aload_n B dX2_take_92 1 rfl rfl ?_
  refine fE_g_X2_E_ownPlace B dX2_take_93 hf (fun v93 hf => ?_)
  refine z_callVq B (As := [.int v93]) kcV_X2_130 dX2_take_96 hf (fun q hq => cE_X2_streamAt q hq) (wE_o_E (adr := adr) (cI := cI) (cZ := cZ) (cS := cS) (tL := tL) (tH := tH)) rfl rfl rfl rfl (Nat.le_of_ble_eq_true rfl) rfl rfl ⟨Nat.le_of_ble_eq_true rfl, Nat.le_of_ble_eq_true rfl⟩ (fun v96 s96 hf => ?_)
  refine z_astoreq B [(4, zq adr v96), (3, .int v87), (0, .ref (adr 0)), (1, .int x1), (2, .int x2)] dX2_take_99 (Nat.le_of_ble_eq_true rfl) rfl ?_
  refine z_aloadq B dX2_take_101 0 rfl ?_
  cases v96 with
  | none =>
    refine z_ifnonnull_N B dX2_take_103 ?_
    refine z_iload_n B dX2_take_106 1 rfl rfl ?_
    exact z_ireturn B dX2_take_107 hf
  | some p103 =>
    refine z_ifnonnull_S B 108 dX2_take_103 (by decide) ?_
    refine z_iload_n B dX2_take_108 1 rfl rfl ?_
    refine z_iconst B (1) dX2_take_109 zc_iconst_1 ?_
    refine z_icmp_eq B 118 dX2_take_110 (by decide) hf (fun hf => ?_) (fun hf => ?_)
    · exact z_loc [2, 3, 4, 1, 0] _ rfl (tE_X2_take_118 B N s96 x1 x2 v87 p103 hf)
    · refine z_iload_n B dX2_take_113 1 rfl rfl ?_
      refine z_iconst B (3) dX2_take_114 zc_iconst_3 ?_
      refine z_icmp_ne B 134 dX2_take_115 (by decide) hf (fun hf => ?_) (fun hf => ?_)
      · exact z_loc [2, 3, 4, 1, 0] _ rfl (tE_X2_take_134 B N s96 x1 x2 v87 p103 hf)
      · exact z_loc [2, 3, 4, 1, 0] _ rfl (tE_X2_take_118 B N s96 x1 x2 v87 p103 hf)
def mE_X2_take_57 (N : Nat) (σ : ST) (x1 : Int32) (x2 : Int32) : Option (Int32 × ST) :=
  zGet (σ 2) 34 (0) fun v63 =>
  zLet ((v63 : Int32) + (1)) fun v65 =>
  zSet σ 2 34 (0) v65 fun s66 =>
  if (x2 : Int32) = (-1) then
    zCallu (mE_X2_admit N s66 x1) fun s74 =>
    mE_X2_take_85 N s74 x1 x2
  else
    zCallu (mE_X2_hit N s66 x2) fun s82 =>
    mE_X2_take_85 N s82 x1 x2
set_option maxRecDepth 20000 in
set_option maxHeartbeats 2000000 in
theorem tE_X2_take_57 {adr : Nat → Nat} {cI cZ cS : ClassId} {tL tH : Nat} {X : zX} {q : Int32 × ST} (B : zC X 5 (wdE adr cI cZ cS tL tH) cX2_take RX2 (some .int) { frames := 5, cells := 0, slots := 0, locals := 122 }) (N : Nat) (σ : ST) (x1 : Int32) (x2 : Int32) (hf : mE_X2_take_57 N σ x1 x2 = some q) : zJ X 5 (wdE adr cI cZ cS tL tH) (zi q) 57 [(0, .ref (adr 0)), (1, .int x1), (2, .int x2)] [] σ := by
  refine z_aload_n B dX2_take_57 0 rfl rfl ?_
  refine fE_g_X2_E_counts B dX2_take_58 ?_
  refine z_iconst B (0) dX2_take_61 zc_iconst_0 ?_
  refine z_dup2 B dX2_take_62 rfl rfl ?_
  refine fE_l_E_counts B dX2_take_63 hf (fun v63 hf => ?_)
  refine z_iconst B (1) dX2_take_64 zc_iconst_1 ?_
  refine z_iadd B dX2_take_65 hf (fun v65 hf => ?_)
  refine fE_s_E_counts B dX2_take_66 hf (fun s66 hf => ?_)
  refine z_iload_n B dX2_take_67 2 rfl rfl ?_
  refine z_iconst B (-1) dX2_take_68 zc_iconst_m1 ?_
  refine z_icmp_ne B 80 dX2_take_69 (by decide) hf (fun hf => ?_) (fun hf => ?_)
  · refine z_aload_n B dX2_take_80 0 rfl rfl ?_
    refine z_iload_n B dX2_take_81 2 rfl rfl ?_
    refine z_callVu B (As := [.int x2]) kcV_X2_124 dX2_take_82 hf (fun q hq => cE_X2_hit q hq) (wE_o_E (adr := adr) (cI := cI) (cZ := cZ) (cS := cS) (tL := tL) (tH := tH)) rfl rfl rfl rfl (Nat.le_of_ble_eq_true rfl) rfl rfl ⟨Nat.le_of_ble_eq_true rfl, Nat.le_of_ble_eq_true rfl⟩ (fun s82 hf => ?_)
    exact tE_X2_take_85 B N s82 x1 x2 hf
  · refine z_aload_n B dX2_take_72 0 rfl rfl ?_
    refine z_iload_n B dX2_take_73 1 rfl rfl ?_
    refine z_callVu B (As := [.int x1]) kcV_X2_120 dX2_take_74 hf (fun q hq => cE_X2_admit q hq) (wE_o_E (adr := adr) (cI := cI) (cZ := cZ) (cS := cS) (tL := tL) (tH := tH)) rfl rfl rfl rfl (Nat.le_of_ble_eq_true rfl) rfl rfl ⟨Nat.le_of_ble_eq_true rfl, Nat.le_of_ble_eq_true rfl⟩ (fun s74 hf => ?_)
    refine z_goto B 85 dX2_take_77 (by decide) ?_
    exact tE_X2_take_85 B N s74 x1 x2 hf
def mE_X2_take (N : Nat) (σ : ST) (x1 : Int32) : Option (Int32 × ST) :=
  zLet (zUp σ 0 8 (0)) fun s2 =>
  zLet (zUp s2 0 9 (-1)) fun s7 =>
  zCall (mE_X2_hasBlock N s7 x1) fun v12 s12 =>
  if (v12 : Int32) = 0 then
    some ((-1), s12)
  else
    zCall (mE_X0_slotOf N s12 x1) fun v25 s25 =>
    if (v25 : Int32) = (-1) then
      zCall (mE_X1_isBad N s25 x1) fun v39 s39 =>
      if (v39 : Int32) = 0 then
        mE_X2_take_57 N s39 x1 v25
      else
        zGet (s39 2) 34 (3) fun v51 =>
        zLet ((v51 : Int32) + (1)) fun v53 =>
        zSet s39 2 34 (3) v53 fun s54 =>
        some ((0), s54)
    else
      mE_X2_take_57 N s25 x1 v25
set_option maxRecDepth 20000 in
set_option maxHeartbeats 2000000 in
theorem cE_X2_take {adr : Nat → Nat} {cI cZ cS : ClassId} {tL tH : Nat} {l : Launch} {D : va_G} {N : Nat} {σ : ST} {x1 : Int32} (q : Int32 × ST) (hf : mE_X2_take N σ x1 = some q) : zM l D (wdE adr cI cZ cS tL tH) yX2_take cX2_take 5 (some .int) ({ frames := 5, cells := 0, slots := 0, locals := 122 }) [.ref (adr 0), .int x1] σ (zi q) := by
  refine zM_of sfE_ok rfl (Nat.le_of_ble_eq_true rfl) [(0, .ref (adr 0)), (1, .int x1)] rfl (fun X hX1 hX2 B => ?_)
  have B : zC X 5 (wdE adr cI cZ cS tL tH) cX2_take RX2 (some .int) { frames := 5, cells := 0, slots := 0, locals := 122 } := B
  refine z_aload_n B dX2_take_0 0 rfl rfl ?_
  refine z_iconst B (0) dX2_take_1 zc_iconst_0 ?_
  refine fE_p_X2_E_plannedSize B dX2_take_2 hf (fun s2 hf => ?_)
  refine z_aload_n B dX2_take_5 0 rfl rfl ?_
  refine z_iconst B (-1) dX2_take_6 zc_iconst_m1 ?_
  refine fE_p_X2_E_ownPlace B dX2_take_7 hf (fun s7 hf => ?_)
  refine z_aload_n B dX2_take_10 0 rfl rfl ?_
  refine z_iload_n B dX2_take_11 1 rfl rfl ?_
  refine z_callVi B (As := [.int x1]) kcV_X2_107 dX2_take_12 hf (fun q hq => cE_X2_hasBlock q hq) (wE_o_E (adr := adr) (cI := cI) (cZ := cZ) (cS := cS) (tL := tL) (tH := tH)) rfl rfl rfl rfl (Nat.le_of_ble_eq_true rfl) rfl rfl ⟨Nat.le_of_ble_eq_true rfl, Nat.le_of_ble_eq_true rfl⟩ (fun v12 s12 hf => ?_)
  refine z_if_ne B 20 dX2_take_15 (by decide) hf (fun hf => ?_) (fun hf => ?_)
  · refine z_aload_n B dX2_take_20 0 rfl rfl ?_
    refine fE_g_X2_E_cache B dX2_take_21 ?_
    refine z_iload_n B dX2_take_24 1 rfl rfl ?_
    refine z_callVi B (As := [.int x1]) kcV_X2_111 dX2_take_25 hf (fun q hq => cE_X0_slotOf q hq) (wE_o_C (adr := adr) (cI := cI) (cZ := cZ) (cS := cS) (tL := tL) (tH := tH)) rfl rfl rfl rfl (Nat.le_of_ble_eq_true rfl) rfl rfl ⟨Nat.le_of_ble_eq_true rfl, Nat.le_of_ble_eq_true rfl⟩ (fun v25 s25 hf => ?_)
    refine z_istore_n B [(2, .int v25), (0, .ref (adr 0)), (1, .int x1)] dX2_take_28 rfl (Nat.le_of_ble_eq_true rfl) rfl ?_
    refine z_iload_n B dX2_take_29 0 rfl rfl ?_
    refine z_iconst B (-1) dX2_take_30 zc_iconst_m1 ?_
    refine z_icmp_ne B 57 dX2_take_31 (by decide) hf (fun hf => ?_) (fun hf => ?_)
    · exact z_loc [1, 2, 0] _ rfl (tE_X2_take_57 B N s25 x1 v25 hf)
    · refine z_aload_n B dX2_take_34 1 rfl rfl ?_
      refine fE_g_X2_E_disk B dX2_take_35 ?_
      refine z_iload_n B dX2_take_38 2 rfl rfl ?_
      refine z_callVi B (As := [.int x1]) kcV_X2_115 dX2_take_39 hf (fun q hq => cE_X1_isBad q hq) (wE_o_D (adr := adr) (cI := cI) (cZ := cZ) (cS := cS) (tL := tL) (tH := tH)) rfl rfl rfl rfl (Nat.le_of_ble_eq_true rfl) rfl rfl ⟨Nat.le_of_ble_eq_true rfl, Nat.le_of_ble_eq_true rfl⟩ (fun v39 s39 hf => ?_)
      refine z_if_eq B 57 dX2_take_42 (by decide) hf (fun hf => ?_) (fun hf => ?_)
      · exact z_loc [1, 2, 0] _ rfl (tE_X2_take_57 B N s39 x1 v25 hf)
      · refine z_aload_n B dX2_take_45 1 rfl rfl ?_
        refine fE_g_X2_E_counts B dX2_take_46 ?_
        refine z_iconst B (3) dX2_take_49 zc_iconst_3 ?_
        refine z_dup2 B dX2_take_50 rfl rfl ?_
        refine fE_l_E_counts B dX2_take_51 hf (fun v51 hf => ?_)
        refine z_iconst B (1) dX2_take_52 zc_iconst_1 ?_
        refine z_iadd B dX2_take_53 hf (fun v53 hf => ?_)
        refine fE_s_E_counts B dX2_take_54 hf (fun s54 hf => ?_)
        refine z_iconst B (0) dX2_take_55 zc_iconst_0 ?_
        exact z_ireturn B dX2_take_56 hf
  · refine z_iconst B (-1) dX2_take_18 zc_iconst_m1 ?_
    exact z_ireturn B dX2_take_19 hf
theorem dX2_follow_0 : decode cX2_follow 0 = .ok (.aload_n 0, 1) := by decide +kernel
theorem dX2_follow_1 : decode cX2_follow 1 = .ok (.invokevirtual 219, 3) := by decide +kernel
theorem dX2_follow_4 : decode cX2_follow 4 = .ok (.istore_n 3, 1) := by decide +kernel
theorem dX2_follow_5 : decode cX2_follow 5 = .ok (.aload_n 0, 1) := by decide +kernel
theorem dX2_follow_6 : decode cX2_follow 6 = .ok (.iload_n 3, 1) := by decide +kernel
theorem dX2_follow_7 : decode cX2_follow 7 = .ok (.iload_n 1, 1) := by decide +kernel
theorem dX2_follow_8 : decode cX2_follow 8 = .ok (.invokevirtual 223, 3) := by decide +kernel
theorem dX2_follow_11 : decode cX2_follow 11 = .ok (.aload_n 0, 1) := by decide +kernel
theorem dX2_follow_12 : decode cX2_follow 12 = .ok (.iload_n 3, 1) := by decide +kernel
theorem dX2_follow_13 : decode cX2_follow 13 = .ok (.invokevirtual 130, 3) := by decide +kernel
theorem dX2_follow_16 : decode cX2_follow 16 = .ok (.astore 4, 2) := by decide +kernel
theorem dX2_follow_18 : decode cX2_follow 18 = .ok (.aload 4, 2) := by decide +kernel
theorem dX2_follow_20 : decode cX2_follow 20 = .ok (.ifnonnull 5, 3) := by decide +kernel
theorem dX2_follow_23 : decode cX2_follow 23 = .ok (.iconst (-1), 1) := by decide +kernel
theorem dX2_follow_24 : decode cX2_follow 24 = .ok (.ireturn, 1) := by decide +kernel
theorem dX2_follow_25 : decode cX2_follow 25 = .ok (.aload 4, 2) := by decide +kernel
theorem dX2_follow_27 : decode cX2_follow 27 = .ok (.iload_n 2, 1) := by decide +kernel
theorem dX2_follow_28 : decode cX2_follow 28 = .ok (.putfield 227, 3) := by decide +kernel
theorem dX2_follow_31 : decode cX2_follow 31 = .ok (.aload 4, 2) := by decide +kernel
theorem dX2_follow_33 : decode cX2_follow 33 = .ok (.bipush 99, 2) := by decide +kernel
theorem dX2_follow_35 : decode cX2_follow 35 = .ok (.putfield 239, 3) := by decide +kernel
theorem dX2_follow_38 : decode cX2_follow 38 = .ok (.aload_n 0, 1) := by decide +kernel
theorem dX2_follow_39 : decode cX2_follow 39 = .ok (.aload 4, 2) := by decide +kernel
theorem dX2_follow_41 : decode cX2_follow 41 = .ok (.aload_n 0, 1) := by decide +kernel
theorem dX2_follow_42 : decode cX2_follow 42 = .ok (.getfield 15, 3) := by decide +kernel
theorem dX2_follow_45 : decode cX2_follow 45 = .ok (.iconst 2, 1) := by decide +kernel
theorem dX2_follow_46 : decode cX2_follow 46 = .ok (.iaload, 1) := by decide +kernel
theorem dX2_follow_47 : decode cX2_follow 47 = .ok (.invokevirtual 186, 3) := by decide +kernel
theorem dX2_follow_50 : decode cX2_follow 50 = .ok (.aload_n 0, 1) := by decide +kernel
theorem dX2_follow_51 : decode cX2_follow 51 = .ok (.aload 4, 2) := by decide +kernel
theorem dX2_follow_53 : decode cX2_follow 53 = .ok (.iconst (-1), 1) := by decide +kernel
theorem dX2_follow_54 : decode cX2_follow 54 = .ok (.invokevirtual 138, 3) := by decide +kernel
theorem dX2_follow_57 : decode cX2_follow 57 = .ok (.aload 4, 2) := by decide +kernel
theorem dX2_follow_59 : decode cX2_follow 59 = .ok (.aload_n 0, 1) := by decide +kernel
theorem dX2_follow_60 : decode cX2_follow 60 = .ok (.getfield 34, 3) := by decide +kernel
theorem dX2_follow_63 : decode cX2_follow 63 = .ok (.getfield 142, 3) := by decide +kernel
theorem dX2_follow_66 : decode cX2_follow 66 = .ok (.putfield 145, 3) := by decide +kernel
theorem dX2_follow_69 : decode cX2_follow 69 = .ok (.iload_n 3, 1) := by decide +kernel
theorem dX2_follow_70 : decode cX2_follow 70 = .ok (.ireturn, 1) := by decide +kernel
def mE_X2_follow (N : Nat) (σ : ST) (x1 : Int32) (x2 : Int32) : Option (Int32 × ST) :=
  zCall (mE_X2_openPlace N σ) fun v1 s1 =>
  zCallu (mE_X2_settle N s1 v1 x1) fun s8 =>
  zCallq (mE_X2_streamAt N s8 v1) fun v13 s13 =>
  match v13 with
  | none =>
      some ((-1), s13)
  | some p20 =>
      zLet (zUp s13 (12 + (p20).val) 2 x2) fun s28 =>
      zLet (zUp s28 (12 + (p20).val) 3 (99)) fun s35 =>
      zGet (s35 1) 10 (2) fun v46 =>
      zCallu (mE_X2_changeWindow N s35 p20 v46) fun s47 =>
      zCallu (mE_X2_runBatch N s47 p20 (-1)) fun s54 =>
      zLet (s54 3 9) fun v63 =>
      zLet (zUp s54 (12 + (p20).val) 7 v63) fun s66 =>
      some (v1, s66)
set_option maxRecDepth 20000 in
set_option maxHeartbeats 2000000 in
theorem cE_X2_follow {adr : Nat → Nat} {cI cZ cS : ClassId} {tL tH : Nat} {l : Launch} {D : va_G} {N : Nat} {σ : ST} {x1 : Int32} {x2 : Int32} (q : Int32 × ST) (hf : mE_X2_follow N σ x1 x2 = some q) : zM l D (wdE adr cI cZ cS tL tH) yX2_follow cX2_follow 5 (some .int) ({ frames := 5, cells := 0, slots := 0, locals := 122 }) [.ref (adr 0), .int x1, .int x2] σ (zi q) := by
  refine zM_of sfE_ok rfl (Nat.le_of_ble_eq_true rfl) [(0, .ref (adr 0)), (1, .int x1), (2, .int x2)] rfl (fun X hX1 hX2 B => ?_)
  have B : zC X 5 (wdE adr cI cZ cS tL tH) cX2_follow RX2 (some .int) { frames := 5, cells := 0, slots := 0, locals := 122 } := B
  refine z_aload_n B dX2_follow_0 0 rfl rfl ?_
  refine z_callVi B (As := []) kcV_X2_219 dX2_follow_1 hf (fun q hq => cE_X2_openPlace q hq) (wE_o_E (adr := adr) (cI := cI) (cZ := cZ) (cS := cS) (tL := tL) (tH := tH)) rfl rfl rfl rfl (Nat.le_of_ble_eq_true rfl) rfl rfl ⟨Nat.le_of_ble_eq_true rfl, Nat.le_of_ble_eq_true rfl⟩ (fun v1 s1 hf => ?_)
  refine z_istore_n B [(3, .int v1), (0, .ref (adr 0)), (1, .int x1), (2, .int x2)] dX2_follow_4 rfl (Nat.le_of_ble_eq_true rfl) rfl ?_
  refine z_aload_n B dX2_follow_5 1 rfl rfl ?_
  refine z_iload_n B dX2_follow_6 0 rfl rfl ?_
  refine z_iload_n B dX2_follow_7 2 rfl rfl ?_
  refine z_callVu B (As := [.int v1, .int x1]) kcV_X2_223 dX2_follow_8 hf (fun q hq => cE_X2_settle q hq) (wE_o_E (adr := adr) (cI := cI) (cZ := cZ) (cS := cS) (tL := tL) (tH := tH)) rfl rfl rfl rfl (Nat.le_of_ble_eq_true rfl) rfl rfl ⟨Nat.le_of_ble_eq_true rfl, Nat.le_of_ble_eq_true rfl⟩ (fun s8 hf => ?_)
  refine z_aload_n B dX2_follow_11 1 rfl rfl ?_
  refine z_iload_n B dX2_follow_12 0 rfl rfl ?_
  refine z_callVq B (As := [.int v1]) kcV_X2_130 dX2_follow_13 hf (fun q hq => cE_X2_streamAt q hq) (wE_o_E (adr := adr) (cI := cI) (cZ := cZ) (cS := cS) (tL := tL) (tH := tH)) rfl rfl rfl rfl (Nat.le_of_ble_eq_true rfl) rfl rfl ⟨Nat.le_of_ble_eq_true rfl, Nat.le_of_ble_eq_true rfl⟩ (fun v13 s13 hf => ?_)
  refine z_astoreq B [(4, zq adr v13), (3, .int v1), (0, .ref (adr 0)), (1, .int x1), (2, .int x2)] dX2_follow_16 (Nat.le_of_ble_eq_true rfl) rfl ?_
  refine z_aloadq B dX2_follow_18 0 rfl ?_
  cases v13 with
  | none =>
    refine z_ifnonnull_N B dX2_follow_20 ?_
    refine z_iconst B (-1) dX2_follow_23 zc_iconst_m1 ?_
    exact z_ireturn B dX2_follow_24 hf
  | some p20 =>
    refine z_ifnonnull_S B 25 dX2_follow_20 (by decide) ?_
    refine z_aload B dX2_follow_25 0 rfl ?_
    refine z_iload_n B dX2_follow_27 4 rfl rfl ?_
    refine fE_p_X2_S_stride B p20 dX2_follow_28 hf (fun s28 hf => ?_)
    refine z_aload B dX2_follow_31 0 rfl ?_
    refine z_bipush B (99) dX2_follow_33 zc_bipush_99 ?_
    refine fE_p_X2_S_proof B p20 dX2_follow_35 hf (fun s35 hf => ?_)
    refine z_aload_n B dX2_follow_38 2 rfl rfl ?_
    refine z_aload B dX2_follow_39 0 rfl ?_
    refine z_aload_n B dX2_follow_41 2 rfl rfl ?_
    refine fE_g_X2_E_terms B dX2_follow_42 ?_
    refine z_iconst B (2) dX2_follow_45 zc_iconst_2 ?_
    refine fE_l_E_terms B dX2_follow_46 hf (fun v46 hf => ?_)
    refine z_callVu B (As := [.ref (adr (12 + (p20).val)), .int v46]) kcV_X2_186 dX2_follow_47 hf (fun q hq => cE_X2_changeWindow q hq) (wE_o_E (adr := adr) (cI := cI) (cZ := cZ) (cS := cS) (tL := tL) (tH := tH)) rfl rfl rfl rfl (Nat.le_of_ble_eq_true rfl) rfl rfl ⟨Nat.le_of_ble_eq_true rfl, Nat.le_of_ble_eq_true rfl⟩ (fun s47 hf => ?_)
    refine z_aload_n B dX2_follow_50 2 rfl rfl ?_
    refine z_aload B dX2_follow_51 0 rfl ?_
    refine z_iconst B (-1) dX2_follow_53 zc_iconst_m1 ?_
    refine z_callVu B (As := [.ref (adr (12 + (p20).val)), .int (-1)]) kcV_X2_138 dX2_follow_54 hf (fun q hq => cE_X2_runBatch q hq) (wE_o_E (adr := adr) (cI := cI) (cZ := cZ) (cS := cS) (tL := tL) (tH := tH)) rfl rfl rfl rfl (Nat.le_of_ble_eq_true rfl) rfl rfl ⟨Nat.le_of_ble_eq_true rfl, Nat.le_of_ble_eq_true rfl⟩ (fun s54 hf => ?_)
    refine z_aload B dX2_follow_57 0 rfl ?_
    refine z_aload_n B dX2_follow_59 2 rfl rfl ?_
    refine fE_g_X2_E_cache B dX2_follow_60 ?_
    refine fE_g_X2_C_stamp B dX2_follow_63 hf (fun v63 hf => ?_)
    refine fE_p_X2_S_used B p20 dX2_follow_66 hf (fun s66 hf => ?_)
    refine z_iload_n B dX2_follow_69 1 rfl rfl ?_
    exact z_ireturn B dX2_follow_70 hf
theorem dX2_nextToFetch_0 : decode cX2_nextToFetch 0 = .ok (.aload_n 1, 1) := by decide +kernel
theorem dX2_nextToFetch_1 : decode cX2_nextToFetch 1 = .ok (.aload_n 1, 1) := by decide +kernel
theorem dX2_nextToFetch_2 : decode cX2_nextToFetch 2 = .ok (.getfield 230, 3) := by decide +kernel
theorem dX2_nextToFetch_5 : decode cX2_nextToFetch 5 = .ok (.invokevirtual 248, 3) := by decide +kernel
theorem dX2_nextToFetch_8 : decode cX2_nextToFetch 8 = .ok (.ifCond .eq 10, 3) := by decide +kernel
theorem dX2_nextToFetch_11 : decode cX2_nextToFetch 11 = .ok (.aload_n 1, 1) := by decide +kernel
theorem dX2_nextToFetch_12 : decode cX2_nextToFetch 12 = .ok (.getfield 242, 3) := by decide +kernel
theorem dX2_nextToFetch_15 : decode cX2_nextToFetch 15 = .ok (.goto 7, 3) := by decide +kernel
theorem dX2_nextToFetch_18 : decode cX2_nextToFetch 18 = .ok (.aload_n 1, 1) := by decide +kernel
theorem dX2_nextToFetch_19 : decode cX2_nextToFetch 19 = .ok (.getfield 230, 3) := by decide +kernel
theorem dX2_nextToFetch_22 : decode cX2_nextToFetch 22 = .ok (.aload_n 1, 1) := by decide +kernel
theorem dX2_nextToFetch_23 : decode cX2_nextToFetch 23 = .ok (.getfield 227, 3) := by decide +kernel
theorem dX2_nextToFetch_26 : decode cX2_nextToFetch 26 = .ok (.iadd, 1) := by decide +kernel
theorem dX2_nextToFetch_27 : decode cX2_nextToFetch 27 = .ok (.ireturn, 1) := by decide +kernel
def mE_X2_nextToFetch_22 (N : Nat) (σ : ST) (x1 : Fin 6) (k0 : Int32) : Option (Int32 × ST) :=
  zLet (σ (12 + (x1).val) 2) fun v23 =>
  zLet ((k0 : Int32) + v23) fun v26 =>
  some (v26, σ)
set_option maxRecDepth 20000 in
set_option maxHeartbeats 2000000 in
theorem tE_X2_nextToFetch_22 {adr : Nat → Nat} {cI cZ cS : ClassId} {tL tH : Nat} {X : zX} {q : Int32 × ST} (B : zC X 2 (wdE adr cI cZ cS tL tH) cX2_nextToFetch RX2 (some .int) { frames := 1, cells := 0, slots := 0, locals := 21 }) (N : Nat) (σ : ST) (x1 : Fin 6) (k0 : Int32) (hf : mE_X2_nextToFetch_22 N σ x1 k0 = some q) : zJ X 2 (wdE adr cI cZ cS tL tH) (zi q) 22 [(0, .ref (adr 0)), (1, .ref (adr (12 + (x1).val)))] [.int k0] σ := by
  refine z_aload_n B dX2_nextToFetch_22 1 rfl rfl ?_
  refine fE_g_X2_S_stride B x1 dX2_nextToFetch_23 hf (fun v23 hf => ?_)
  refine z_iadd B dX2_nextToFetch_26 hf (fun v26 hf => ?_)
  exact z_ireturn B dX2_nextToFetch_27 hf
def mE_X2_nextToFetch (N : Nat) (σ : ST) (x1 : Fin 6) : Option (Int32 × ST) :=
  zLet (σ (12 + (x1).val) 1) fun v2 =>
  zCall (mE_X4_edgeIsBeyond N σ x1 v2) fun v5 s5 =>
  if (v5 : Int32) = 0 then
    zLet (s5 (12 + (x1).val) 1) fun v19 =>
    mE_X2_nextToFetch_22 N s5 x1 v19
  else
    zLet (s5 (12 + (x1).val) 5) fun v12 =>
    mE_X2_nextToFetch_22 N s5 x1 v12
set_option maxRecDepth 20000 in
set_option maxHeartbeats 2000000 in
theorem cE_X2_nextToFetch {adr : Nat → Nat} {cI cZ cS : ClassId} {tL tH : Nat} {l : Launch} {D : va_G} {N : Nat} {σ : ST} {x1 : Fin 6} (q : Int32 × ST) (hf : mE_X2_nextToFetch N σ x1 = some q) : zM l D (wdE adr cI cZ cS tL tH) yX2_nextToFetch cX2_nextToFetch 2 (some .int) ({ frames := 1, cells := 0, slots := 0, locals := 21 }) [.ref (adr 0), .ref (adr (12 + (x1).val))] σ (zi q) := by
  refine zM_of sfE_ok rfl (Nat.le_of_ble_eq_true rfl) [(0, .ref (adr 0)), (1, .ref (adr (12 + (x1).val)))] rfl (fun X hX1 hX2 B => ?_)
  have B : zC X 2 (wdE adr cI cZ cS tL tH) cX2_nextToFetch RX2 (some .int) { frames := 1, cells := 0, slots := 0, locals := 21 } := B
  refine z_aload_n B dX2_nextToFetch_0 1 rfl rfl ?_
  refine z_aload_n B dX2_nextToFetch_1 1 rfl rfl ?_
  refine fE_g_X2_S_last B x1 dX2_nextToFetch_2 hf (fun v2 hf => ?_)
  refine z_callVi B (As := [.int v2]) kcV_X2_248 dX2_nextToFetch_5 hf (fun q hq => cE_X4_edgeIsBeyond q hq) (wE_o_S (adr := adr) (cI := cI) (cZ := cZ) (cS := cS) (tL := tL) (tH := tH) x1) rfl rfl rfl rfl (Nat.le_of_ble_eq_true rfl) rfl rfl ⟨Nat.le_of_ble_eq_true rfl, Nat.le_of_ble_eq_true rfl⟩ (fun v5 s5 hf => ?_)
  refine z_if_eq B 18 dX2_nextToFetch_8 (by decide) hf (fun hf => ?_) (fun hf => ?_)
  · refine z_aload_n B dX2_nextToFetch_18 1 rfl rfl ?_
    refine fE_g_X2_S_last B x1 dX2_nextToFetch_19 hf (fun v19 hf => ?_)
    exact tE_X2_nextToFetch_22 B N s5 x1 v19 hf
  · refine z_aload_n B dX2_nextToFetch_11 1 rfl rfl ?_
    refine fE_g_X2_S_edge B x1 dX2_nextToFetch_12 hf (fun v12 hf => ?_)
    refine z_goto B 22 dX2_nextToFetch_15 (by decide) ?_
    exact tE_X2_nextToFetch_22 B N s5 x1 v12 hf
theorem dX2_idleOnce_0 : decode cX2_idleOnce 0 = .ok (.aload_n 0, 1) := by decide +kernel
theorem dX2_idleOnce_1 : decode cX2_idleOnce 1 = .ok (.getfield 34, 3) := by decide +kernel
theorem dX2_idleOnce_4 : decode cX2_idleOnce 4 = .ok (.getfield 258, 3) := by decide +kernel
theorem dX2_idleOnce_7 : decode cX2_idleOnce 7 = .ok (.aload_n 0, 1) := by decide +kernel
theorem dX2_idleOnce_8 : decode cX2_idleOnce 8 = .ok (.getfield 15, 3) := by decide +kernel
theorem dX2_idleOnce_11 : decode cX2_idleOnce 11 = .ok (.iconst 0, 1) := by decide +kernel
theorem dX2_idleOnce_12 : decode cX2_idleOnce 12 = .ok (.iaload, 1) := by decide +kernel
theorem dX2_idleOnce_13 : decode cX2_idleOnce 13 = .ok (.iconst 2, 1) := by decide +kernel
theorem dX2_idleOnce_14 : decode cX2_idleOnce 14 = .ok (.idiv, 1) := by decide +kernel
theorem dX2_idleOnce_15 : decode cX2_idleOnce 15 = .ok (.if_icmp .lt 5, 3) := by decide +kernel
theorem dX2_idleOnce_18 : decode cX2_idleOnce 18 = .ok (.iconst 0, 1) := by decide +kernel
theorem dX2_idleOnce_19 : decode cX2_idleOnce 19 = .ok (.ireturn, 1) := by decide +kernel
theorem dX2_idleOnce_20 : decode cX2_idleOnce 20 = .ok (.aconst_null, 1) := by decide +kernel
theorem dX2_idleOnce_21 : decode cX2_idleOnce 21 = .ok (.astore_n 1, 1) := by decide +kernel
theorem dX2_idleOnce_22 : decode cX2_idleOnce 22 = .ok (.iconst 0, 1) := by decide +kernel
theorem dX2_idleOnce_23 : decode cX2_idleOnce 23 = .ok (.istore_n 2, 1) := by decide +kernel
theorem dX2_idleOnce_24 : decode cX2_idleOnce 24 = .ok (.iconst 0, 1) := by decide +kernel
theorem dX2_idleOnce_25 : decode cX2_idleOnce 25 = .ok (.istore_n 3, 1) := by decide +kernel
theorem dX2_idleOnce_26 : decode cX2_idleOnce 26 = .ok (.iload_n 3, 1) := by decide +kernel
theorem dX2_idleOnce_27 : decode cX2_idleOnce 27 = .ok (.bipush 6, 2) := by decide +kernel
theorem dX2_idleOnce_29 : decode cX2_idleOnce 29 = .ok (.if_icmp .ge 111, 3) := by decide +kernel
theorem dX2_idleOnce_32 : decode cX2_idleOnce 32 = .ok (.aload_n 0, 1) := by decide +kernel
theorem dX2_idleOnce_33 : decode cX2_idleOnce 33 = .ok (.getfield 40, 3) := by decide +kernel
theorem dX2_idleOnce_36 : decode cX2_idleOnce 36 = .ok (.iload_n 3, 1) := by decide +kernel
theorem dX2_idleOnce_37 : decode cX2_idleOnce 37 = .ok (.aaload, 1) := by decide +kernel
theorem dX2_idleOnce_38 : decode cX2_idleOnce 38 = .ok (.astore 4, 2) := by decide +kernel
theorem dX2_idleOnce_40 : decode cX2_idleOnce 40 = .ok (.aload 4, 2) := by decide +kernel
theorem dX2_idleOnce_42 : decode cX2_idleOnce 42 = .ok (.getfield 70, 3) := by decide +kernel
theorem dX2_idleOnce_45 : decode cX2_idleOnce 45 = .ok (.iconst (-1), 1) := by decide +kernel
theorem dX2_idleOnce_46 : decode cX2_idleOnce 46 = .ok (.if_icmp .eq 88, 3) := by decide +kernel
theorem dX2_idleOnce_49 : decode cX2_idleOnce 49 = .ok (.aload 4, 2) := by decide +kernel
theorem dX2_idleOnce_51 : decode cX2_idleOnce 51 = .ok (.getfield 183, 3) := by decide +kernel
theorem dX2_idleOnce_54 : decode cX2_idleOnce 54 = .ok (.ifCond .ne 6, 3) := by decide +kernel
theorem dX2_idleOnce_57 : decode cX2_idleOnce 57 = .ok (.goto 77, 3) := by decide +kernel
theorem dX2_idleOnce_60 : decode cX2_idleOnce 60 = .ok (.aload 4, 2) := by decide +kernel
theorem dX2_idleOnce_62 : decode cX2_idleOnce 62 = .ok (.getfield 183, 3) := by decide +kernel
theorem dX2_idleOnce_65 : decode cX2_idleOnce 65 = .ok (.aload_n 0, 1) := by decide +kernel
theorem dX2_idleOnce_66 : decode cX2_idleOnce 66 = .ok (.getfield 34, 3) := by decide +kernel
theorem dX2_idleOnce_69 : decode cX2_idleOnce 69 = .ok (.aload 4, 2) := by decide +kernel
theorem dX2_idleOnce_71 : decode cX2_idleOnce 71 = .ok (.getfield 70, 3) := by decide +kernel
theorem dX2_idleOnce_74 : decode cX2_idleOnce 74 = .ok (.invokevirtual 264, 3) := by decide +kernel
theorem dX2_idleOnce_77 : decode cX2_idleOnce 77 = .ok (.isub, 1) := by decide +kernel
theorem dX2_idleOnce_78 : decode cX2_idleOnce 78 = .ok (.istore 5, 2) := by decide +kernel
theorem dX2_idleOnce_80 : decode cX2_idleOnce 80 = .ok (.aload_n 0, 1) := by decide +kernel
theorem dX2_idleOnce_81 : decode cX2_idleOnce 81 = .ok (.aload 4, 2) := by decide +kernel
theorem dX2_idleOnce_83 : decode cX2_idleOnce 83 = .ok (.invokevirtual 267, 3) := by decide +kernel
theorem dX2_idleOnce_86 : decode cX2_idleOnce 86 = .ok (.istore 6, 2) := by decide +kernel
theorem dX2_idleOnce_88 : decode cX2_idleOnce 88 = .ok (.iload 5, 2) := by decide +kernel
theorem dX2_idleOnce_90 : decode cX2_idleOnce 90 = .ok (.iload_n 2, 1) := by decide +kernel
theorem dX2_idleOnce_91 : decode cX2_idleOnce 91 = .ok (.if_icmp .le 43, 3) := by decide +kernel
theorem dX2_idleOnce_94 : decode cX2_idleOnce 94 = .ok (.aload_n 0, 1) := by decide +kernel
theorem dX2_idleOnce_95 : decode cX2_idleOnce 95 = .ok (.iload 6, 2) := by decide +kernel
theorem dX2_idleOnce_97 : decode cX2_idleOnce 97 = .ok (.invokevirtual 107, 3) := by decide +kernel
theorem dX2_idleOnce_100 : decode cX2_idleOnce 100 = .ok (.ifCond .eq 34, 3) := by decide +kernel
theorem dX2_idleOnce_103 : decode cX2_idleOnce 103 = .ok (.aload_n 0, 1) := by decide +kernel
theorem dX2_idleOnce_104 : decode cX2_idleOnce 104 = .ok (.getfield 9, 3) := by decide +kernel
theorem dX2_idleOnce_107 : decode cX2_idleOnce 107 = .ok (.iload 6, 2) := by decide +kernel
theorem dX2_idleOnce_109 : decode cX2_idleOnce 109 = .ok (.invokevirtual 115, 3) := by decide +kernel
theorem dX2_idleOnce_112 : decode cX2_idleOnce 112 = .ok (.ifCond .ne 22, 3) := by decide +kernel
theorem dX2_idleOnce_115 : decode cX2_idleOnce 115 = .ok (.aload_n 0, 1) := by decide +kernel
theorem dX2_idleOnce_116 : decode cX2_idleOnce 116 = .ok (.getfield 34, 3) := by decide +kernel
theorem dX2_idleOnce_119 : decode cX2_idleOnce 119 = .ok (.iload 6, 2) := by decide +kernel
theorem dX2_idleOnce_121 : decode cX2_idleOnce 121 = .ok (.invokevirtual 111, 3) := by decide +kernel
theorem dX2_idleOnce_124 : decode cX2_idleOnce 124 = .ok (.iconst (-1), 1) := by decide +kernel
theorem dX2_idleOnce_125 : decode cX2_idleOnce 125 = .ok (.if_icmp .ne 9, 3) := by decide +kernel
theorem dX2_idleOnce_128 : decode cX2_idleOnce 128 = .ok (.iload 5, 2) := by decide +kernel
theorem dX2_idleOnce_130 : decode cX2_idleOnce 130 = .ok (.istore_n 2, 1) := by decide +kernel
theorem dX2_idleOnce_131 : decode cX2_idleOnce 131 = .ok (.aload 4, 2) := by decide +kernel
theorem dX2_idleOnce_133 : decode cX2_idleOnce 133 = .ok (.astore_n 1, 1) := by decide +kernel
theorem dX2_idleOnce_134 : decode cX2_idleOnce 134 = .ok (.iinc 3 1, 3) := by decide +kernel
theorem dX2_idleOnce_137 : decode cX2_idleOnce 137 = .ok (.goto (-111), 3) := by decide +kernel
theorem dX2_idleOnce_140 : decode cX2_idleOnce 140 = .ok (.aload_n 1, 1) := by decide +kernel
theorem dX2_idleOnce_141 : decode cX2_idleOnce 141 = .ok (.ifnonnull 5, 3) := by decide +kernel
theorem dX2_idleOnce_144 : decode cX2_idleOnce 144 = .ok (.iconst 0, 1) := by decide +kernel
theorem dX2_idleOnce_145 : decode cX2_idleOnce 145 = .ok (.ireturn, 1) := by decide +kernel
theorem dX2_idleOnce_146 : decode cX2_idleOnce 146 = .ok (.aload_n 0, 1) := by decide +kernel
theorem dX2_idleOnce_147 : decode cX2_idleOnce 147 = .ok (.aload_n 1, 1) := by decide +kernel
theorem dX2_idleOnce_148 : decode cX2_idleOnce 148 = .ok (.invokevirtual 267, 3) := by decide +kernel
theorem dX2_idleOnce_151 : decode cX2_idleOnce 151 = .ok (.istore_n 3, 1) := by decide +kernel
theorem dX2_idleOnce_152 : decode cX2_idleOnce 152 = .ok (.aload_n 1, 1) := by decide +kernel
theorem dX2_idleOnce_153 : decode cX2_idleOnce 153 = .ok (.iload_n 3, 1) := by decide +kernel
theorem dX2_idleOnce_154 : decode cX2_idleOnce 154 = .ok (.putfield 242, 3) := by decide +kernel
theorem dX2_idleOnce_157 : decode cX2_idleOnce 157 = .ok (.aload_n 0, 1) := by decide +kernel
theorem dX2_idleOnce_158 : decode cX2_idleOnce 158 = .ok (.aload_n 1, 1) := by decide +kernel
theorem dX2_idleOnce_159 : decode cX2_idleOnce 159 = .ok (.iload_n 3, 1) := by decide +kernel
theorem dX2_idleOnce_160 : decode cX2_idleOnce 160 = .ok (.iconst (-1), 1) := by decide +kernel
theorem dX2_idleOnce_161 : decode cX2_idleOnce 161 = .ok (.invokevirtual 254, 3) := by decide +kernel
theorem dX2_idleOnce_164 : decode cX2_idleOnce 164 = .ok (.aload_n 0, 1) := by decide +kernel
theorem dX2_idleOnce_165 : decode cX2_idleOnce 165 = .ok (.getfield 28, 3) := by decide +kernel
theorem dX2_idleOnce_168 : decode cX2_idleOnce 168 = .ok (.bipush 30, 2) := by decide +kernel
theorem dX2_idleOnce_170 : decode cX2_idleOnce 170 = .ok (.dup2, 1) := by decide +kernel
theorem dX2_idleOnce_171 : decode cX2_idleOnce 171 = .ok (.iaload, 1) := by decide +kernel
theorem dX2_idleOnce_172 : decode cX2_idleOnce 172 = .ok (.iconst 1, 1) := by decide +kernel
theorem dX2_idleOnce_173 : decode cX2_idleOnce 173 = .ok (.iadd, 1) := by decide +kernel
theorem dX2_idleOnce_174 : decode cX2_idleOnce 174 = .ok (.iastore, 1) := by decide +kernel
theorem dX2_idleOnce_175 : decode cX2_idleOnce 175 = .ok (.iconst 1, 1) := by decide +kernel
theorem dX2_idleOnce_176 : decode cX2_idleOnce 176 = .ok (.ireturn, 1) := by decide +kernel
def mE_X2_idleOnce_134 (N : Nat) (hd26 : ST → Option (Fin 6) → Int32 → Int32 → Option (Int32 × ST)) (σ : ST) (x1 : Option (Fin 6)) (x2 : Int32) (x3 : Int32) (x4 : Fin 6) : Option (Int32 × ST) :=
  zLet (x3 + (1)) fun v134 =>
  hd26 σ x1 x2 v134
set_option maxRecDepth 20000 in
set_option maxHeartbeats 2000000 in
theorem tE_X2_idleOnce_134 {adr : Nat → Nat} {cI cZ cS : ClassId} {tL tH : Nat} {X : zX} {q : Int32 × ST} (B : zC X 7 (wdE adr cI cZ cS tL tH) cX2_idleOnce RX2 (some .boolean) { frames := 4, cells := 0, slots := 0, locals := 98 }) (N : Nat) (hd26 : ST → Option (Fin 6) → Int32 → Int32 → Option (Int32 × ST)) (hh26 : ∀ (σ : ST) (x1 : Option (Fin 6)) (x2 : Int32) (x3 : Int32), hd26 σ x1 x2 x3 = some q → zJ X 7 (wdE adr cI cZ cS tL tH) (zi q) 26 [(0, .ref (adr 0)), (1, zq adr x1), (2, .int x2), (3, .int x3)] [] σ) (σ : ST) (x1 : Option (Fin 6)) (x2 : Int32) (x3 : Int32) (x4 : Fin 6) (hf : mE_X2_idleOnce_134 N hd26 σ x1 x2 x3 x4 = some q) : zJ X 7 (wdE adr cI cZ cS tL tH) (zi q) 134 [(0, .ref (adr 0)), (1, zq adr x1), (2, .int x2), (3, .int x3), (4, .ref (adr (12 + (x4).val)))] [] σ := by
  refine z_iinc B (1) 3 (fun v134 => [(3, .int v134), (0, .ref (adr 0)), (1, zq adr x1), (2, .int x2), (4, .ref (adr (12 + (x4).val)))]) dX2_idleOnce_134 hf zc_iconst_1 rfl (Nat.le_of_ble_eq_true rfl) (fun _ => rfl) (fun v134 hf => ?_)
  refine z_goto B 26 dX2_idleOnce_137 (by decide) ?_
  exact z_loc [1, 2, 3, 0] _ rfl (hh26 σ x1 x2 v134 hf)
def mE_X2_idleOnce_B26 (N : Nat) (hd26 : ST → Option (Fin 6) → Int32 → Int32 → Option (Int32 × ST)) (σ : ST) (x1 : Option (Fin 6)) (x2 : Int32) (x3 : Int32) : Option (Int32 × ST) :=
  if ((6) : Int32) ≤ x3 then
    match x1 with
    | none =>
        zBool (0) (some ((0), σ))
    | some p141 =>
        zCall (mE_X2_nextToFetch N σ p141) fun v148 s148 =>
        zLet (zUp s148 (12 + (p141).val) 5 v148) fun s154 =>
        zCallu (mE_X2_fetchFor N s154 p141 v148 (-1)) fun s161 =>
        zGet (s161 2) 34 (30) fun v171 =>
        zLet ((v171 : Int32) + (1)) fun v173 =>
        zSet s161 2 34 (30) v173 fun s174 =>
        zBool (1) (some ((1), s174))
  else
    zGet6 x3 fun v37 =>
    zLet (σ (12 + (v37).val) 0) fun v42 =>
    if (v42 : Int32) = (-1) then
      mE_X2_idleOnce_134 N hd26 σ x1 x2 x3 v37
    else
      zLet (σ (12 + (v37).val) 4) fun v51 =>
      if (v51 : Int32) = 0 then
        mE_X2_idleOnce_134 N hd26 σ x1 x2 x3 v37
      else
        zLet (σ (12 + (v37).val) 4) fun v62 =>
        zLet (σ (12 + (v37).val) 0) fun v71 =>
        zCall (mE_X0_waitingFor N σ v71) fun v74 s74 =>
        zLet ((v62 : Int32) - v74) fun v77 =>
        zCall (mE_X2_nextToFetch N s74 v37) fun v83 s83 =>
        if (v77 : Int32) ≤ x2 then
          mE_X2_idleOnce_134 N hd26 s83 x1 x2 x3 v37
        else
          zCall (mE_X2_hasBlock N s83 v83) fun v97 s97 =>
          if (v97 : Int32) = 0 then
            mE_X2_idleOnce_134 N hd26 s97 x1 x2 x3 v37
          else
            zCall (mE_X1_isBad N s97 v83) fun v109 s109 =>
            if (v109 : Int32) = 0 then
              zCall (mE_X0_slotOf N s109 v83) fun v121 s121 =>
              if (v121 : Int32) = (-1) then
                mE_X2_idleOnce_134 N hd26 s121 (some v37) v77 x3 v37
              else
                mE_X2_idleOnce_134 N hd26 s121 x1 x2 x3 v37
            else
              mE_X2_idleOnce_134 N hd26 s109 x1 x2 x3 v37
def mE_X2_idleOnce_26 (N : Nat) : ST → Option (Fin 6) → Int32 → Int32 → Option (Int32 × ST) := zIt (mE_X2_idleOnce_B26 N) (fun _ _ _ _ => none) N
set_option maxRecDepth 20000 in
set_option maxHeartbeats 2000000 in
theorem tE_X2_idleOnce_26 {adr : Nat → Nat} {cI cZ cS : ClassId} {tL tH : Nat} {X : zX} {q : Int32 × ST} (B : zC X 7 (wdE adr cI cZ cS tL tH) cX2_idleOnce RX2 (some .boolean) { frames := 4, cells := 0, slots := 0, locals := 98 }) (N : Nat) : ∀ (σ : ST) (x1 : Option (Fin 6)) (x2 : Int32) (x3 : Int32), mE_X2_idleOnce_26 N σ x1 x2 x3 = some q → zJ X 7 (wdE adr cI cZ cS tL tH) (zi q) 26 [(0, .ref (adr 0)), (1, zq adr x1), (2, .int x2), (3, .int x3)] [] σ := by
  refine zIt_ind (P := fun (hd : ST → Option (Fin 6) → Int32 → Int32 → Option (Int32 × ST)) => ∀ (σ : ST) (x1 : Option (Fin 6)) (x2 : Int32) (x3 : Int32), hd σ x1 x2 x3 = some q → zJ X 7 (wdE adr cI cZ cS tL tH) (zi q) 26 [(0, .ref (adr 0)), (1, zq adr x1), (2, .int x2), (3, .int x3)] [] σ) (fun _ _ _ _ hf => by cases hf) (fun hd26 hh26 => ?_) N
  intro σ x1 x2 x3 hf
  refine z_iload_n B dX2_idleOnce_26 3 rfl rfl ?_
  refine z_bipush B (6) dX2_idleOnce_27 zc_bipush_6 ?_
  refine z_icmp_ge B 140 dX2_idleOnce_29 (by decide) hf (fun hf => ?_) (fun hf => ?_)
  · refine z_aload_nq B dX2_idleOnce_140 1 rfl rfl ?_
    cases x1 with
    | none =>
      refine z_ifnonnull_N B dX2_idleOnce_141 ?_
      refine z_iconst B (0) dX2_idleOnce_144 zc_iconst_0 ?_
      exact z_zreturn B dX2_idleOnce_145 hf
    | some p141 =>
      refine z_ifnonnull_S B 146 dX2_idleOnce_141 (by decide) ?_
      refine z_aload_n B dX2_idleOnce_146 0 rfl rfl ?_
      refine z_aload_n B dX2_idleOnce_147 1 rfl rfl ?_
      refine z_callVi B (As := [.ref (adr (12 + (p141).val))]) kcV_X2_267 dX2_idleOnce_148 hf (fun q hq => cE_X2_nextToFetch q hq) (wE_o_E (adr := adr) (cI := cI) (cZ := cZ) (cS := cS) (tL := tL) (tH := tH)) rfl rfl rfl rfl (Nat.le_of_ble_eq_true rfl) rfl rfl ⟨Nat.le_of_ble_eq_true rfl, Nat.le_of_ble_eq_true rfl⟩ (fun v148 s148 hf => ?_)
      refine z_istore_n B [(3, .int v148), (0, .ref (adr 0)), (1, .ref (adr (12 + (p141).val))), (2, .int x2)] dX2_idleOnce_151 rfl (Nat.le_of_ble_eq_true rfl) rfl ?_
      refine z_aload_n B dX2_idleOnce_152 2 rfl rfl ?_
      refine z_iload_n B dX2_idleOnce_153 0 rfl rfl ?_
      refine fE_p_X2_S_edge B p141 dX2_idleOnce_154 hf (fun s154 hf => ?_)
      refine z_aload_n B dX2_idleOnce_157 1 rfl rfl ?_
      refine z_aload_n B dX2_idleOnce_158 2 rfl rfl ?_
      refine z_iload_n B dX2_idleOnce_159 0 rfl rfl ?_
      refine z_iconst B (-1) dX2_idleOnce_160 zc_iconst_m1 ?_
      refine z_callVu B (As := [.ref (adr (12 + (p141).val)), .int v148, .int (-1)]) kcV_X2_254 dX2_idleOnce_161 hf (fun q hq => cE_X2_fetchFor q hq) (wE_o_E (adr := adr) (cI := cI) (cZ := cZ) (cS := cS) (tL := tL) (tH := tH)) rfl rfl rfl rfl (Nat.le_of_ble_eq_true rfl) rfl rfl ⟨Nat.le_of_ble_eq_true rfl, Nat.le_of_ble_eq_true rfl⟩ (fun s161 hf => ?_)
      refine z_aload_n B dX2_idleOnce_164 1 rfl rfl ?_
      refine fE_g_X2_E_counts B dX2_idleOnce_165 ?_
      refine z_bipush B (30) dX2_idleOnce_168 zc_bipush_30 ?_
      refine z_dup2 B dX2_idleOnce_170 rfl rfl ?_
      refine fE_l_E_counts B dX2_idleOnce_171 hf (fun v171 hf => ?_)
      refine z_iconst B (1) dX2_idleOnce_172 zc_iconst_1 ?_
      refine z_iadd B dX2_idleOnce_173 hf (fun v173 hf => ?_)
      refine fE_s_E_counts B dX2_idleOnce_174 hf (fun s174 hf => ?_)
      refine z_iconst B (1) dX2_idleOnce_175 zc_iconst_1 ?_
      exact z_zreturn B dX2_idleOnce_176 hf
  · refine z_aload_n B dX2_idleOnce_32 0 rfl rfl ?_
    refine fE_g_X2_E_streams B dX2_idleOnce_33 ?_
    refine z_iload_n B dX2_idleOnce_36 3 rfl rfl ?_
    refine fE_streams B dX2_idleOnce_37 hf (fun v37 hf => ?_)
    refine z_astore B [(4, .ref (adr (12 + (v37).val))), (0, .ref (adr 0)), (1, zq adr x1), (2, .int x2), (3, .int x3)] dX2_idleOnce_38 (Nat.le_of_ble_eq_true rfl) rfl ?_
    refine z_aload B dX2_idleOnce_40 0 rfl ?_
    refine fE_g_X2_S_number B v37 dX2_idleOnce_42 hf (fun v42 hf => ?_)
    refine z_iconst B (-1) dX2_idleOnce_45 zc_iconst_m1 ?_
    refine z_icmp_eq B 134 dX2_idleOnce_46 (by decide) hf (fun hf => ?_) (fun hf => ?_)
    · exact z_loc [1, 2, 3, 4, 0] _ rfl (tE_X2_idleOnce_134 B N hd26 hh26 σ x1 x2 x3 v37 hf)
    · refine z_aload B dX2_idleOnce_49 0 rfl ?_
      refine fE_g_X2_S_window B v37 dX2_idleOnce_51 hf (fun v51 hf => ?_)
      refine z_if_ne B 60 dX2_idleOnce_54 (by decide) hf (fun hf => ?_) (fun hf => ?_)
      · refine z_aload B dX2_idleOnce_60 0 rfl ?_
        refine fE_g_X2_S_window B v37 dX2_idleOnce_62 hf (fun v62 hf => ?_)
        refine z_aload_n B dX2_idleOnce_65 1 rfl rfl ?_
        refine fE_g_X2_E_cache B dX2_idleOnce_66 ?_
        refine z_aload B dX2_idleOnce_69 0 rfl ?_
        refine fE_g_X2_S_number B v37 dX2_idleOnce_71 hf (fun v71 hf => ?_)
        refine z_callVi B (As := [.int v71]) kcV_X2_264 dX2_idleOnce_74 hf (fun q hq => cE_X0_waitingFor q hq) (wE_o_C (adr := adr) (cI := cI) (cZ := cZ) (cS := cS) (tL := tL) (tH := tH)) rfl rfl rfl rfl (Nat.le_of_ble_eq_true rfl) rfl rfl ⟨Nat.le_of_ble_eq_true rfl, Nat.le_of_ble_eq_true rfl⟩ (fun v74 s74 hf => ?_)
        refine z_isub B dX2_idleOnce_77 hf (fun v77 hf => ?_)
        refine z_istore B [(5, .int v77), (4, .ref (adr (12 + (v37).val))), (0, .ref (adr 0)), (1, zq adr x1), (2, .int x2), (3, .int x3)] dX2_idleOnce_78 (Nat.le_of_ble_eq_true rfl) rfl ?_
        refine z_aload_n B dX2_idleOnce_80 2 rfl rfl ?_
        refine z_aload B dX2_idleOnce_81 1 rfl ?_
        refine z_callVi B (As := [.ref (adr (12 + (v37).val))]) kcV_X2_267 dX2_idleOnce_83 hf (fun q hq => cE_X2_nextToFetch q hq) (wE_o_E (adr := adr) (cI := cI) (cZ := cZ) (cS := cS) (tL := tL) (tH := tH)) rfl rfl rfl rfl (Nat.le_of_ble_eq_true rfl) rfl rfl ⟨Nat.le_of_ble_eq_true rfl, Nat.le_of_ble_eq_true rfl⟩ (fun v83 s83 hf => ?_)
        refine z_istore B [(6, .int v83), (5, .int v77), (4, .ref (adr (12 + (v37).val))), (0, .ref (adr 0)), (1, zq adr x1), (2, .int x2), (3, .int x3)] dX2_idleOnce_86 (Nat.le_of_ble_eq_true rfl) rfl ?_
        refine z_iload B dX2_idleOnce_88 1 rfl ?_
        refine z_iload_n B dX2_idleOnce_90 5 rfl rfl ?_
        refine z_icmp_le B 134 dX2_idleOnce_91 (by decide) hf (fun hf => ?_) (fun hf => ?_)
        · exact z_loc [3, 4, 5, 6, 2] _ rfl (tE_X2_idleOnce_134 B N hd26 hh26 s83 x1 x2 x3 v37 hf)
        · refine z_aload_n B dX2_idleOnce_94 3 rfl rfl ?_
          refine z_iload B dX2_idleOnce_95 0 rfl ?_
          refine z_callVi B (As := [.int v83]) kcV_X2_107 dX2_idleOnce_97 hf (fun q hq => cE_X2_hasBlock q hq) (wE_o_E (adr := adr) (cI := cI) (cZ := cZ) (cS := cS) (tL := tL) (tH := tH)) rfl rfl rfl rfl (Nat.le_of_ble_eq_true rfl) rfl rfl ⟨Nat.le_of_ble_eq_true rfl, Nat.le_of_ble_eq_true rfl⟩ (fun v97 s97 hf => ?_)
          refine z_if_eq B 134 dX2_idleOnce_100 (by decide) hf (fun hf => ?_) (fun hf => ?_)
          · exact z_loc [3, 4, 5, 6, 2] _ rfl (tE_X2_idleOnce_134 B N hd26 hh26 s97 x1 x2 x3 v37 hf)
          · refine z_aload_n B dX2_idleOnce_103 3 rfl rfl ?_
            refine fE_g_X2_E_disk B dX2_idleOnce_104 ?_
            refine z_iload B dX2_idleOnce_107 0 rfl ?_
            refine z_callVi B (As := [.int v83]) kcV_X2_115 dX2_idleOnce_109 hf (fun q hq => cE_X1_isBad q hq) (wE_o_D (adr := adr) (cI := cI) (cZ := cZ) (cS := cS) (tL := tL) (tH := tH)) rfl rfl rfl rfl (Nat.le_of_ble_eq_true rfl) rfl rfl ⟨Nat.le_of_ble_eq_true rfl, Nat.le_of_ble_eq_true rfl⟩ (fun v109 s109 hf => ?_)
            refine z_if_ne B 134 dX2_idleOnce_112 (by decide) hf (fun hf => ?_) (fun hf => ?_)
            · exact z_loc [3, 4, 5, 6, 2] _ rfl (tE_X2_idleOnce_134 B N hd26 hh26 s109 x1 x2 x3 v37 hf)
            · refine z_aload_n B dX2_idleOnce_115 3 rfl rfl ?_
              refine fE_g_X2_E_cache B dX2_idleOnce_116 ?_
              refine z_iload B dX2_idleOnce_119 0 rfl ?_
              refine z_callVi B (As := [.int v83]) kcV_X2_111 dX2_idleOnce_121 hf (fun q hq => cE_X0_slotOf q hq) (wE_o_C (adr := adr) (cI := cI) (cZ := cZ) (cS := cS) (tL := tL) (tH := tH)) rfl rfl rfl rfl (Nat.le_of_ble_eq_true rfl) rfl rfl ⟨Nat.le_of_ble_eq_true rfl, Nat.le_of_ble_eq_true rfl⟩ (fun v121 s121 hf => ?_)
              refine z_iconst B (-1) dX2_idleOnce_124 zc_iconst_m1 ?_
              refine z_icmp_ne B 134 dX2_idleOnce_125 (by decide) hf (fun hf => ?_) (fun hf => ?_)
              · exact z_loc [3, 4, 5, 6, 2] _ rfl (tE_X2_idleOnce_134 B N hd26 hh26 s121 x1 x2 x3 v37 hf)
              · refine z_iload B dX2_idleOnce_128 1 rfl ?_
                refine z_istore_n B [(2, .int v77), (6, .int v83), (5, .int v77), (4, .ref (adr (12 + (v37).val))), (0, .ref (adr 0)), (1, zq adr x1), (3, .int x3)] dX2_idleOnce_130 rfl (Nat.le_of_ble_eq_true rfl) (by cases x1 <;> rfl) ?_
                refine z_aload B dX2_idleOnce_131 3 rfl ?_
                refine z_astore_n B [(1, .ref (adr (12 + (v37).val))), (2, .int v77), (6, .int v83), (5, .int v77), (4, .ref (adr (12 + (v37).val))), (0, .ref (adr 0)), (3, .int x3)] dX2_idleOnce_133 rfl (Nat.le_of_ble_eq_true rfl) rfl ?_
                exact z_loc [5, 0, 1, 6, 4] _ rfl (tE_X2_idleOnce_134 B N hd26 hh26 s121 (some v37) v77 x3 v37 hf)
      · refine z_goto B 134 dX2_idleOnce_57 (by decide) ?_
        exact z_loc [1, 2, 3, 4, 0] _ rfl (tE_X2_idleOnce_134 B N hd26 hh26 σ x1 x2 x3 v37 hf)
def mE_X2_idleOnce (N : Nat) (σ : ST) : Option (Int32 × ST) :=
  zLet (σ 3 8) fun v4 =>
  zGet (σ 1) 10 (0) fun v12 =>
  zDiv v12 (2) fun v14 =>
  if (v4 : Int32) < v14 then
    mE_X2_idleOnce_26 N σ none (0) (0)
  else
    zBool (0) (some ((0), σ))
set_option maxRecDepth 20000 in
set_option maxHeartbeats 2000000 in
theorem cE_X2_idleOnce {adr : Nat → Nat} {cI cZ cS : ClassId} {tL tH : Nat} {l : Launch} {D : va_G} {N : Nat} {σ : ST} (q : Int32 × ST) (hf : mE_X2_idleOnce N σ = some q) : zM l D (wdE adr cI cZ cS tL tH) yX2_idleOnce cX2_idleOnce 7 (some .boolean) ({ frames := 4, cells := 0, slots := 0, locals := 98 }) [.ref (adr 0)] σ (zi q) := by
  refine zM_of sfE_ok rfl (Nat.le_of_ble_eq_true rfl) [(0, .ref (adr 0))] rfl (fun X hX1 hX2 B => ?_)
  have B : zC X 7 (wdE adr cI cZ cS tL tH) cX2_idleOnce RX2 (some .boolean) { frames := 4, cells := 0, slots := 0, locals := 98 } := B
  refine z_aload_n B dX2_idleOnce_0 0 rfl rfl ?_
  refine fE_g_X2_E_cache B dX2_idleOnce_1 ?_
  refine fE_g_X2_C_waitingSize B dX2_idleOnce_4 hf (fun v4 hf => ?_)
  refine z_aload_n B dX2_idleOnce_7 0 rfl rfl ?_
  refine fE_g_X2_E_terms B dX2_idleOnce_8 ?_
  refine z_iconst B (0) dX2_idleOnce_11 zc_iconst_0 ?_
  refine fE_l_E_terms B dX2_idleOnce_12 hf (fun v12 hf => ?_)
  refine z_iconst B (2) dX2_idleOnce_13 zc_iconst_2 ?_
  refine z_idiv B dX2_idleOnce_14 hf (fun v14 hf => ?_)
  refine z_icmp_lt B 20 dX2_idleOnce_15 (by decide) hf (fun hf => ?_) (fun hf => ?_)
  · refine z_null B dX2_idleOnce_20 ?_
    refine z_astore_nq (o := none) B [(1, .null), (0, .ref (adr 0))] dX2_idleOnce_21 rfl (Nat.le_of_ble_eq_true rfl) rfl ?_
    refine z_iconst B (0) dX2_idleOnce_22 zc_iconst_0 ?_
    refine z_istore_n B [(2, .int (0)), (1, .null), (0, .ref (adr 0))] dX2_idleOnce_23 rfl (Nat.le_of_ble_eq_true rfl) rfl ?_
    refine z_iconst B (0) dX2_idleOnce_24 zc_iconst_0 ?_
    refine z_istore_n B [(3, .int (0)), (2, .int (0)), (1, .null), (0, .ref (adr 0))] dX2_idleOnce_25 rfl (Nat.le_of_ble_eq_true rfl) rfl ?_
    exact z_loc [3, 2, 1, 0] _ rfl (tE_X2_idleOnce_26 B N σ none (0) (0) hf)
  · refine z_iconst B (0) dX2_idleOnce_18 zc_iconst_0 ?_
    exact z_zreturn B dX2_idleOnce_19 hf
theorem dX2_streamsThere_0 : decode cX2_streamsThere 0 = .ok (.iconst 0, 1) := by decide +kernel
theorem dX2_streamsThere_1 : decode cX2_streamsThere 1 = .ok (.istore_n 2, 1) := by decide +kernel
theorem dX2_streamsThere_2 : decode cX2_streamsThere 2 = .ok (.iconst 0, 1) := by decide +kernel
theorem dX2_streamsThere_3 : decode cX2_streamsThere 3 = .ok (.istore_n 3, 1) := by decide +kernel
theorem dX2_streamsThere_4 : decode cX2_streamsThere 4 = .ok (.iload_n 3, 1) := by decide +kernel
theorem dX2_streamsThere_5 : decode cX2_streamsThere 5 = .ok (.bipush 6, 2) := by decide +kernel
theorem dX2_streamsThere_7 : decode cX2_streamsThere 7 = .ok (.if_icmp .ge 38, 3) := by decide +kernel
theorem dX2_streamsThere_10 : decode cX2_streamsThere 10 = .ok (.aload_n 0, 1) := by decide +kernel
theorem dX2_streamsThere_11 : decode cX2_streamsThere 11 = .ok (.getfield 40, 3) := by decide +kernel
theorem dX2_streamsThere_14 : decode cX2_streamsThere 14 = .ok (.iload_n 3, 1) := by decide +kernel
theorem dX2_streamsThere_15 : decode cX2_streamsThere 15 = .ok (.aaload, 1) := by decide +kernel
theorem dX2_streamsThere_16 : decode cX2_streamsThere 16 = .ok (.getfield 70, 3) := by decide +kernel
theorem dX2_streamsThere_19 : decode cX2_streamsThere 19 = .ok (.iconst (-1), 1) := by decide +kernel
theorem dX2_streamsThere_20 : decode cX2_streamsThere 20 = .ok (.if_icmp .eq 19, 3) := by decide +kernel
theorem dX2_streamsThere_23 : decode cX2_streamsThere 23 = .ok (.aload_n 0, 1) := by decide +kernel
theorem dX2_streamsThere_24 : decode cX2_streamsThere 24 = .ok (.getfield 40, 3) := by decide +kernel
theorem dX2_streamsThere_27 : decode cX2_streamsThere 27 = .ok (.iload_n 3, 1) := by decide +kernel
theorem dX2_streamsThere_28 : decode cX2_streamsThere 28 = .ok (.aaload, 1) := by decide +kernel
theorem dX2_streamsThere_29 : decode cX2_streamsThere 29 = .ok (.getfield 183, 3) := by decide +kernel
theorem dX2_streamsThere_32 : decode cX2_streamsThere 32 = .ok (.iload_n 1, 1) := by decide +kernel
theorem dX2_streamsThere_33 : decode cX2_streamsThere 33 = .ok (.if_icmp .lt 6, 3) := by decide +kernel
theorem dX2_streamsThere_36 : decode cX2_streamsThere 36 = .ok (.iinc 2 1, 3) := by decide +kernel
theorem dX2_streamsThere_39 : decode cX2_streamsThere 39 = .ok (.iinc 3 1, 3) := by decide +kernel
theorem dX2_streamsThere_42 : decode cX2_streamsThere 42 = .ok (.goto (-38), 3) := by decide +kernel
theorem dX2_streamsThere_45 : decode cX2_streamsThere 45 = .ok (.iload_n 2, 1) := by decide +kernel
theorem dX2_streamsThere_46 : decode cX2_streamsThere 46 = .ok (.ireturn, 1) := by decide +kernel
def mE_X2_streamsThere_39 (N : Nat) (hd4 : ST → Int32 → Int32 → Int32 → Option (Int32 × ST)) (σ : ST) (x1 : Int32) (x2 : Int32) (x3 : Int32) : Option (Int32 × ST) :=
  zLet (x3 + (1)) fun v39 =>
  hd4 σ x1 x2 v39
set_option maxRecDepth 20000 in
set_option maxHeartbeats 2000000 in
theorem tE_X2_streamsThere_39 {adr : Nat → Nat} {cI cZ cS : ClassId} {tL tH : Nat} {X : zX} {q : Int32 × ST} (B : zC X 4 (wdE adr cI cZ cS tL tH) cX2_streamsThere RX2 (some .int) { frames := 0, cells := 0, slots := 0, locals := 0 }) (N : Nat) (hd4 : ST → Int32 → Int32 → Int32 → Option (Int32 × ST)) (hh4 : ∀ (σ : ST) (x1 : Int32) (x2 : Int32) (x3 : Int32), hd4 σ x1 x2 x3 = some q → zJ X 4 (wdE adr cI cZ cS tL tH) (zi q) 4 [(0, .ref (adr 0)), (1, .int x1), (2, .int x2), (3, .int x3)] [] σ) (σ : ST) (x1 : Int32) (x2 : Int32) (x3 : Int32) (hf : mE_X2_streamsThere_39 N hd4 σ x1 x2 x3 = some q) : zJ X 4 (wdE adr cI cZ cS tL tH) (zi q) 39 [(0, .ref (adr 0)), (1, .int x1), (2, .int x2), (3, .int x3)] [] σ := by
  refine z_iinc B (1) 3 (fun v39 => [(3, .int v39), (0, .ref (adr 0)), (1, .int x1), (2, .int x2)]) dX2_streamsThere_39 hf zc_iconst_1 rfl (Nat.le_of_ble_eq_true rfl) (fun _ => rfl) (fun v39 hf => ?_)
  refine z_goto B 4 dX2_streamsThere_42 (by decide) ?_
  exact z_loc [1, 2, 3, 0] _ rfl (hh4 σ x1 x2 v39 hf)
def mE_X2_streamsThere_B4 (N : Nat) (hd4 : ST → Int32 → Int32 → Int32 → Option (Int32 × ST)) (σ : ST) (x1 : Int32) (x2 : Int32) (x3 : Int32) : Option (Int32 × ST) :=
  if ((6) : Int32) ≤ x3 then
    some (x2, σ)
  else
    zGet6 x3 fun v15 =>
    zLet (σ (12 + (v15).val) 0) fun v16 =>
    if (v16 : Int32) = (-1) then
      mE_X2_streamsThere_39 N hd4 σ x1 x2 x3
    else
      zGet6 x3 fun v28 =>
      zLet (σ (12 + (v28).val) 4) fun v29 =>
      if (v29 : Int32) < x1 then
        mE_X2_streamsThere_39 N hd4 σ x1 x2 x3
      else
        zLet (x2 + (1)) fun v36 =>
        mE_X2_streamsThere_39 N hd4 σ x1 v36 x3
def mE_X2_streamsThere_4 (N : Nat) : ST → Int32 → Int32 → Int32 → Option (Int32 × ST) := zIt (mE_X2_streamsThere_B4 N) (fun _ _ _ _ => none) N
set_option maxRecDepth 20000 in
set_option maxHeartbeats 2000000 in
theorem tE_X2_streamsThere_4 {adr : Nat → Nat} {cI cZ cS : ClassId} {tL tH : Nat} {X : zX} {q : Int32 × ST} (B : zC X 4 (wdE adr cI cZ cS tL tH) cX2_streamsThere RX2 (some .int) { frames := 0, cells := 0, slots := 0, locals := 0 }) (N : Nat) : ∀ (σ : ST) (x1 : Int32) (x2 : Int32) (x3 : Int32), mE_X2_streamsThere_4 N σ x1 x2 x3 = some q → zJ X 4 (wdE adr cI cZ cS tL tH) (zi q) 4 [(0, .ref (adr 0)), (1, .int x1), (2, .int x2), (3, .int x3)] [] σ := by
  refine zIt_ind (P := fun (hd : ST → Int32 → Int32 → Int32 → Option (Int32 × ST)) => ∀ (σ : ST) (x1 : Int32) (x2 : Int32) (x3 : Int32), hd σ x1 x2 x3 = some q → zJ X 4 (wdE adr cI cZ cS tL tH) (zi q) 4 [(0, .ref (adr 0)), (1, .int x1), (2, .int x2), (3, .int x3)] [] σ) (fun _ _ _ _ hf => by cases hf) (fun hd4 hh4 => ?_) N
  intro σ x1 x2 x3 hf
  refine z_iload_n B dX2_streamsThere_4 3 rfl rfl ?_
  refine z_bipush B (6) dX2_streamsThere_5 zc_bipush_6 ?_
  refine z_icmp_ge B 45 dX2_streamsThere_7 (by decide) hf (fun hf => ?_) (fun hf => ?_)
  · refine z_iload_n B dX2_streamsThere_45 2 rfl rfl ?_
    exact z_ireturn B dX2_streamsThere_46 hf
  · refine z_aload_n B dX2_streamsThere_10 0 rfl rfl ?_
    refine fE_g_X2_E_streams B dX2_streamsThere_11 ?_
    refine z_iload_n B dX2_streamsThere_14 3 rfl rfl ?_
    refine fE_streams B dX2_streamsThere_15 hf (fun v15 hf => ?_)
    refine fE_g_X2_S_number B v15 dX2_streamsThere_16 hf (fun v16 hf => ?_)
    refine z_iconst B (-1) dX2_streamsThere_19 zc_iconst_m1 ?_
    refine z_icmp_eq B 39 dX2_streamsThere_20 (by decide) hf (fun hf => ?_) (fun hf => ?_)
    · exact tE_X2_streamsThere_39 B N hd4 hh4 σ x1 x2 x3 hf
    · refine z_aload_n B dX2_streamsThere_23 0 rfl rfl ?_
      refine fE_g_X2_E_streams B dX2_streamsThere_24 ?_
      refine z_iload_n B dX2_streamsThere_27 3 rfl rfl ?_
      refine fE_streams B dX2_streamsThere_28 hf (fun v28 hf => ?_)
      refine fE_g_X2_S_window B v28 dX2_streamsThere_29 hf (fun v29 hf => ?_)
      refine z_iload_n B dX2_streamsThere_32 1 rfl rfl ?_
      refine z_icmp_lt B 39 dX2_streamsThere_33 (by decide) hf (fun hf => ?_) (fun hf => ?_)
      · exact tE_X2_streamsThere_39 B N hd4 hh4 σ x1 x2 x3 hf
      · refine z_iinc B (1) 2 (fun v36 => [(2, .int v36), (0, .ref (adr 0)), (1, .int x1), (3, .int x3)]) dX2_streamsThere_36 hf zc_iconst_1 rfl (Nat.le_of_ble_eq_true rfl) (fun _ => rfl) (fun v36 hf => ?_)
        exact z_loc [1, 2, 0, 3] _ rfl (tE_X2_streamsThere_39 B N hd4 hh4 σ x1 v36 x3 hf)
def mE_X2_streamsThere (N : Nat) (σ : ST) (x1 : Int32) : Option (Int32 × ST) :=
  mE_X2_streamsThere_4 N σ x1 (0) (0)
set_option maxRecDepth 20000 in
set_option maxHeartbeats 2000000 in
theorem cE_X2_streamsThere {adr : Nat → Nat} {cI cZ cS : ClassId} {tL tH : Nat} {l : Launch} {D : va_G} {N : Nat} {σ : ST} {x1 : Int32} (q : Int32 × ST) (hf : mE_X2_streamsThere N σ x1 = some q) : zM l D (wdE adr cI cZ cS tL tH) yX2_streamsThere cX2_streamsThere 4 (some .int) ({ frames := 0, cells := 0, slots := 0, locals := 0 }) [.ref (adr 0), .int x1] σ (zi q) := by
  refine zM_of sfE_ok rfl (Nat.le_of_ble_eq_true rfl) [(0, .ref (adr 0)), (1, .int x1)] rfl (fun X hX1 hX2 B => ?_)
  have B : zC X 4 (wdE adr cI cZ cS tL tH) cX2_streamsThere RX2 (some .int) { frames := 0, cells := 0, slots := 0, locals := 0 } := B
  refine z_iconst B (0) dX2_streamsThere_0 zc_iconst_0 ?_
  refine z_istore_n B [(2, .int (0)), (0, .ref (adr 0)), (1, .int x1)] dX2_streamsThere_1 rfl (Nat.le_of_ble_eq_true rfl) rfl ?_
  refine z_iconst B (0) dX2_streamsThere_2 zc_iconst_0 ?_
  refine z_istore_n B [(3, .int (0)), (2, .int (0)), (0, .ref (adr 0)), (1, .int x1)] dX2_streamsThere_3 rfl (Nat.le_of_ble_eq_true rfl) rfl ?_
  exact z_loc [2, 3, 1, 0] _ rfl (tE_X2_streamsThere_4 B N σ x1 (0) (0) hf)
theorem dX2_counted_0 : decode cX2_counted 0 = .ok (.iload_n 1, 1) := by decide +kernel
theorem dX2_counted_1 : decode cX2_counted 1 = .ok (.tableswitch 170 10 31 #[103, 111, 119, 125, 170, 131, 139, 170, 147, 170, 170, 170, 170, 170, 170, 170, 170, 170, 170, 170, 170, 162], 103) := by decide +kernel
theorem dX2_counted_104 : decode cX2_counted 104 = .ok (.aload_n 0, 1) := by decide +kernel
theorem dX2_counted_105 : decode cX2_counted 105 = .ok (.getfield 34, 3) := by decide +kernel
theorem dX2_counted_108 : decode cX2_counted 108 = .ok (.getfield 165, 3) := by decide +kernel
theorem dX2_counted_111 : decode cX2_counted 111 = .ok (.ireturn, 1) := by decide +kernel
theorem dX2_counted_112 : decode cX2_counted 112 = .ok (.aload_n 0, 1) := by decide +kernel
theorem dX2_counted_113 : decode cX2_counted 113 = .ok (.getfield 34, 3) := by decide +kernel
theorem dX2_counted_116 : decode cX2_counted 116 = .ok (.getfield 258, 3) := by decide +kernel
theorem dX2_counted_119 : decode cX2_counted 119 = .ok (.ireturn, 1) := by decide +kernel
theorem dX2_counted_120 : decode cX2_counted 120 = .ok (.aload_n 0, 1) := by decide +kernel
theorem dX2_counted_121 : decode cX2_counted 121 = .ok (.iconst 0, 1) := by decide +kernel
theorem dX2_counted_122 : decode cX2_counted 122 = .ok (.invokevirtual 271, 3) := by decide +kernel
theorem dX2_counted_125 : decode cX2_counted 125 = .ok (.ireturn, 1) := by decide +kernel
theorem dX2_counted_126 : decode cX2_counted 126 = .ok (.aload_n 0, 1) := by decide +kernel
theorem dX2_counted_127 : decode cX2_counted 127 = .ok (.iconst 1, 1) := by decide +kernel
theorem dX2_counted_128 : decode cX2_counted 128 = .ok (.invokevirtual 271, 3) := by decide +kernel
theorem dX2_counted_131 : decode cX2_counted 131 = .ok (.ireturn, 1) := by decide +kernel
theorem dX2_counted_132 : decode cX2_counted 132 = .ok (.aload_n 0, 1) := by decide +kernel
theorem dX2_counted_133 : decode cX2_counted 133 = .ok (.getfield 34, 3) := by decide +kernel
theorem dX2_counted_136 : decode cX2_counted 136 = .ok (.getfield 142, 3) := by decide +kernel
theorem dX2_counted_139 : decode cX2_counted 139 = .ok (.ireturn, 1) := by decide +kernel
theorem dX2_counted_140 : decode cX2_counted 140 = .ok (.aload_n 0, 1) := by decide +kernel
theorem dX2_counted_141 : decode cX2_counted 141 = .ok (.getfield 48, 3) := by decide +kernel
theorem dX2_counted_144 : decode cX2_counted 144 = .ok (.getfield 274, 3) := by decide +kernel
theorem dX2_counted_147 : decode cX2_counted 147 = .ok (.ireturn, 1) := by decide +kernel
theorem dX2_counted_148 : decode cX2_counted 148 = .ok (.aload_n 0, 1) := by decide +kernel
theorem dX2_counted_149 : decode cX2_counted 149 = .ok (.getfield 9, 3) := by decide +kernel
theorem dX2_counted_152 : decode cX2_counted 152 = .ok (.aload_n 0, 1) := by decide +kernel
theorem dX2_counted_153 : decode cX2_counted 153 = .ok (.getfield 15, 3) := by decide +kernel
theorem dX2_counted_156 : decode cX2_counted 156 = .ok (.bipush 7, 2) := by decide +kernel
theorem dX2_counted_158 : decode cX2_counted 158 = .ok (.iaload, 1) := by decide +kernel
theorem dX2_counted_159 : decode cX2_counted 159 = .ok (.invokevirtual 277, 3) := by decide +kernel
theorem dX2_counted_162 : decode cX2_counted 162 = .ok (.ireturn, 1) := by decide +kernel
theorem dX2_counted_163 : decode cX2_counted 163 = .ok (.aload_n 0, 1) := by decide +kernel
theorem dX2_counted_164 : decode cX2_counted 164 = .ok (.getfield 55, 3) := by decide +kernel
theorem dX2_counted_167 : decode cX2_counted 167 = .ok (.getfield 280, 3) := by decide +kernel
theorem dX2_counted_170 : decode cX2_counted 170 = .ok (.ireturn, 1) := by decide +kernel
theorem dX2_counted_171 : decode cX2_counted 171 = .ok (.iload_n 1, 1) := by decide +kernel
theorem dX2_counted_172 : decode cX2_counted 172 = .ok (.bipush 20, 2) := by decide +kernel
theorem dX2_counted_174 : decode cX2_counted 174 = .ok (.if_icmp .lt 19, 3) := by decide +kernel
theorem dX2_counted_177 : decode cX2_counted 177 = .ok (.iload_n 1, 1) := by decide +kernel
theorem dX2_counted_178 : decode cX2_counted 178 = .ok (.bipush 30, 2) := by decide +kernel
theorem dX2_counted_180 : decode cX2_counted 180 = .ok (.if_icmp .ge 13, 3) := by decide +kernel
theorem dX2_counted_183 : decode cX2_counted 183 = .ok (.aload_n 0, 1) := by decide +kernel
theorem dX2_counted_184 : decode cX2_counted 184 = .ok (.getfield 15, 3) := by decide +kernel
theorem dX2_counted_187 : decode cX2_counted 187 = .ok (.iload_n 1, 1) := by decide +kernel
theorem dX2_counted_188 : decode cX2_counted 188 = .ok (.bipush 20, 2) := by decide +kernel
theorem dX2_counted_190 : decode cX2_counted 190 = .ok (.isub, 1) := by decide +kernel
theorem dX2_counted_191 : decode cX2_counted 191 = .ok (.iaload, 1) := by decide +kernel
theorem dX2_counted_192 : decode cX2_counted 192 = .ok (.ireturn, 1) := by decide +kernel
theorem dX2_counted_193 : decode cX2_counted 193 = .ok (.iload_n 1, 1) := by decide +kernel
theorem dX2_counted_194 : decode cX2_counted 194 = .ok (.ifCond .lt 9, 3) := by decide +kernel
theorem dX2_counted_197 : decode cX2_counted 197 = .ok (.iload_n 1, 1) := by decide +kernel
theorem dX2_counted_198 : decode cX2_counted 198 = .ok (.bipush 34, 2) := by decide +kernel
theorem dX2_counted_200 : decode cX2_counted 200 = .ok (.if_icmp .lt 7, 3) := by decide +kernel
theorem dX2_counted_203 : decode cX2_counted 203 = .ok (.iconst (-1), 1) := by decide +kernel
theorem dX2_counted_204 : decode cX2_counted 204 = .ok (.goto 9, 3) := by decide +kernel
theorem dX2_counted_207 : decode cX2_counted 207 = .ok (.aload_n 0, 1) := by decide +kernel
theorem dX2_counted_208 : decode cX2_counted 208 = .ok (.getfield 28, 3) := by decide +kernel
theorem dX2_counted_211 : decode cX2_counted 211 = .ok (.iload_n 1, 1) := by decide +kernel
theorem dX2_counted_212 : decode cX2_counted 212 = .ok (.iaload, 1) := by decide +kernel
theorem dX2_counted_213 : decode cX2_counted 213 = .ok (.ireturn, 1) := by decide +kernel
def mE_X2_counted_213 (N : Nat) (σ : ST) (x1 : Int32) (k0 : Int32) : Option (Int32 × ST) :=
  some (k0, σ)
set_option maxRecDepth 20000 in
set_option maxHeartbeats 2000000 in
theorem tE_X2_counted_213 {adr : Nat → Nat} {cI cZ cS : ClassId} {tL tH : Nat} {X : zX} {q : Int32 × ST} (B : zC X 2 (wdE adr cI cZ cS tL tH) cX2_counted RX2 (some .int) { frames := 1, cells := 0, slots := 0, locals := 23 }) (N : Nat) (σ : ST) (x1 : Int32) (k0 : Int32) (hf : mE_X2_counted_213 N σ x1 k0 = some q) : zJ X 2 (wdE adr cI cZ cS tL tH) (zi q) 213 [(0, .ref (adr 0)), (1, .int x1)] [.int k0] σ := by
  exact z_ireturn B dX2_counted_213 hf
def mE_X2_counted_203 (N : Nat) (σ : ST) (x1 : Int32) : Option (Int32 × ST) :=
  mE_X2_counted_213 N σ x1 (-1)
set_option maxRecDepth 20000 in
set_option maxHeartbeats 2000000 in
theorem tE_X2_counted_203 {adr : Nat → Nat} {cI cZ cS : ClassId} {tL tH : Nat} {X : zX} {q : Int32 × ST} (B : zC X 2 (wdE adr cI cZ cS tL tH) cX2_counted RX2 (some .int) { frames := 1, cells := 0, slots := 0, locals := 23 }) (N : Nat) (σ : ST) (x1 : Int32) (hf : mE_X2_counted_203 N σ x1 = some q) : zJ X 2 (wdE adr cI cZ cS tL tH) (zi q) 203 [(0, .ref (adr 0)), (1, .int x1)] [] σ := by
  refine z_iconst B (-1) dX2_counted_203 zc_iconst_m1 ?_
  refine z_goto B 213 dX2_counted_204 (by decide) ?_
  exact tE_X2_counted_213 B N σ x1 (-1) hf
def mE_X2_counted_193 (N : Nat) (σ : ST) (x1 : Int32) : Option (Int32 × ST) :=
  if (x1 : Int32) < 0 then
    mE_X2_counted_203 N σ x1
  else
    if (x1 : Int32) < (34) then
      zGet (σ 2) 34 x1 fun v212 =>
      mE_X2_counted_213 N σ x1 v212
    else
      mE_X2_counted_203 N σ x1
set_option maxRecDepth 20000 in
set_option maxHeartbeats 2000000 in
theorem tE_X2_counted_193 {adr : Nat → Nat} {cI cZ cS : ClassId} {tL tH : Nat} {X : zX} {q : Int32 × ST} (B : zC X 2 (wdE adr cI cZ cS tL tH) cX2_counted RX2 (some .int) { frames := 1, cells := 0, slots := 0, locals := 23 }) (N : Nat) (σ : ST) (x1 : Int32) (hf : mE_X2_counted_193 N σ x1 = some q) : zJ X 2 (wdE adr cI cZ cS tL tH) (zi q) 193 [(0, .ref (adr 0)), (1, .int x1)] [] σ := by
  refine z_iload_n B dX2_counted_193 1 rfl rfl ?_
  refine z_if_lt B 203 dX2_counted_194 (by decide) hf (fun hf => ?_) (fun hf => ?_)
  · exact tE_X2_counted_203 B N σ x1 hf
  · refine z_iload_n B dX2_counted_197 1 rfl rfl ?_
    refine z_bipush B (34) dX2_counted_198 zc_bipush_34 ?_
    refine z_icmp_lt B 207 dX2_counted_200 (by decide) hf (fun hf => ?_) (fun hf => ?_)
    · refine z_aload_n B dX2_counted_207 0 rfl rfl ?_
      refine fE_g_X2_E_counts B dX2_counted_208 ?_
      refine z_iload_n B dX2_counted_211 1 rfl rfl ?_
      refine fE_l_E_counts B dX2_counted_212 hf (fun v212 hf => ?_)
      exact tE_X2_counted_213 B N σ x1 v212 hf
    · exact tE_X2_counted_203 B N σ x1 hf
def mE_X2_counted (N : Nat) (σ : ST) (x1 : Int32) : Option (Int32 × ST) :=
  if (x1 : Int32) = (10) then
    zLet (σ 3 7) fun v108 =>
    some (v108, σ)
  else
  if (x1 : Int32) = (11) then
    zLet (σ 3 8) fun v116 =>
    some (v116, σ)
  else
  if (x1 : Int32) = (12) then
    zCall (mE_X2_streamsThere N σ (0)) fun v122 s122 =>
    some (v122, s122)
  else
  if (x1 : Int32) = (13) then
    zCall (mE_X2_streamsThere N σ (1)) fun v128 s128 =>
    some (v128, s128)
  else
  if (x1 : Int32) = (15) then
    zLet (σ 3 9) fun v136 =>
    some (v136, σ)
  else
  if (x1 : Int32) = (16) then
    zLet (σ 18 4) fun v144 =>
    some (v144, σ)
  else
  if (x1 : Int32) = (18) then
    zGet (σ 1) 10 (7) fun v158 =>
    zCall (mE_X1_badBelow N σ v158) fun v159 s159 =>
    some (v159, s159)
  else
  if (x1 : Int32) = (31) then
    zLet (σ 22 2) fun v167 =>
    some (v167, σ)
  else
    if (x1 : Int32) < (20) then
      mE_X2_counted_193 N σ x1
    else
      if ((30) : Int32) ≤ x1 then
        mE_X2_counted_193 N σ x1
      else
        zLet ((x1 : Int32) - (20)) fun v190 =>
        zGet (σ 1) 10 v190 fun v191 =>
        some (v191, σ)
set_option maxRecDepth 20000 in
set_option maxHeartbeats 2000000 in
theorem cE_X2_counted {adr : Nat → Nat} {cI cZ cS : ClassId} {tL tH : Nat} {l : Launch} {D : va_G} {N : Nat} {σ : ST} {x1 : Int32} (q : Int32 × ST) (hf : mE_X2_counted N σ x1 = some q) : zM l D (wdE adr cI cZ cS tL tH) yX2_counted cX2_counted 2 (some .int) ({ frames := 1, cells := 0, slots := 0, locals := 23 }) [.ref (adr 0), .int x1] σ (zi q) := by
  refine zM_of sfE_ok rfl (Nat.le_of_ble_eq_true rfl) [(0, .ref (adr 0)), (1, .int x1)] rfl (fun X hX1 hX2 B => ?_)
  have B : zC X 2 (wdE adr cI cZ cS tL tH) cX2_counted RX2 (some .int) { frames := 1, cells := 0, slots := 0, locals := 23 } := B
  refine z_iload_n B dX2_counted_0 1 rfl rfl ?_
  by_cases h1_10 : x1 = (10)
  · replace hf := zIfp h1_10 hf
    refine z_tabIn B (off := 103) 104 dX2_counted_1 (by rw [h1_10]; decide) (by rw [h1_10]; decide) (by rw [h1_10]; decide) (by decide) ?_
    refine z_aload_n B dX2_counted_104 0 rfl rfl ?_
    refine fE_g_X2_E_cache B dX2_counted_105 ?_
    refine fE_g_X2_C_size B dX2_counted_108 hf (fun v108 hf => ?_)
    exact z_ireturn B dX2_counted_111 hf
  replace hf := zIfn h1_10 hf
  by_cases h1_11 : x1 = (11)
  · replace hf := zIfp h1_11 hf
    refine z_tabIn B (off := 111) 112 dX2_counted_1 (by rw [h1_11]; decide) (by rw [h1_11]; decide) (by rw [h1_11]; decide) (by decide) ?_
    refine z_aload_n B dX2_counted_112 0 rfl rfl ?_
    refine fE_g_X2_E_cache B dX2_counted_113 ?_
    refine fE_g_X2_C_waitingSize B dX2_counted_116 hf (fun v116 hf => ?_)
    exact z_ireturn B dX2_counted_119 hf
  replace hf := zIfn h1_11 hf
  by_cases h1_12 : x1 = (12)
  · replace hf := zIfp h1_12 hf
    refine z_tabIn B (off := 119) 120 dX2_counted_1 (by rw [h1_12]; decide) (by rw [h1_12]; decide) (by rw [h1_12]; decide) (by decide) ?_
    refine z_aload_n B dX2_counted_120 0 rfl rfl ?_
    refine z_iconst B (0) dX2_counted_121 zc_iconst_0 ?_
    refine z_callVi B (As := [.int (0)]) kcV_X2_271 dX2_counted_122 hf (fun q hq => cE_X2_streamsThere q hq) (wE_o_E (adr := adr) (cI := cI) (cZ := cZ) (cS := cS) (tL := tL) (tH := tH)) rfl rfl rfl rfl (Nat.le_of_ble_eq_true rfl) rfl rfl ⟨Nat.le_of_ble_eq_true rfl, Nat.le_of_ble_eq_true rfl⟩ (fun v122 s122 hf => ?_)
    exact z_ireturn B dX2_counted_125 hf
  replace hf := zIfn h1_12 hf
  by_cases h1_13 : x1 = (13)
  · replace hf := zIfp h1_13 hf
    refine z_tabIn B (off := 125) 126 dX2_counted_1 (by rw [h1_13]; decide) (by rw [h1_13]; decide) (by rw [h1_13]; decide) (by decide) ?_
    refine z_aload_n B dX2_counted_126 0 rfl rfl ?_
    refine z_iconst B (1) dX2_counted_127 zc_iconst_1 ?_
    refine z_callVi B (As := [.int (1)]) kcV_X2_271 dX2_counted_128 hf (fun q hq => cE_X2_streamsThere q hq) (wE_o_E (adr := adr) (cI := cI) (cZ := cZ) (cS := cS) (tL := tL) (tH := tH)) rfl rfl rfl rfl (Nat.le_of_ble_eq_true rfl) rfl rfl ⟨Nat.le_of_ble_eq_true rfl, Nat.le_of_ble_eq_true rfl⟩ (fun v128 s128 hf => ?_)
    exact z_ireturn B dX2_counted_131 hf
  replace hf := zIfn h1_13 hf
  by_cases h1_15 : x1 = (15)
  · replace hf := zIfp h1_15 hf
    refine z_tabIn B (off := 131) 132 dX2_counted_1 (by rw [h1_15]; decide) (by rw [h1_15]; decide) (by rw [h1_15]; decide) (by decide) ?_
    refine z_aload_n B dX2_counted_132 0 rfl rfl ?_
    refine fE_g_X2_E_cache B dX2_counted_133 ?_
    refine fE_g_X2_C_stamp B dX2_counted_136 hf (fun v136 hf => ?_)
    exact z_ireturn B dX2_counted_139 hf
  replace hf := zIfn h1_15 hf
  by_cases h1_16 : x1 = (16)
  · replace hf := zIfp h1_16 hf
    refine z_tabIn B (off := 139) 140 dX2_counted_1 (by rw [h1_16]; decide) (by rw [h1_16]; decide) (by rw [h1_16]; decide) (by decide) ?_
    refine z_aload_n B dX2_counted_140 0 rfl rfl ?_
    refine fE_g_X2_E_history B dX2_counted_141 ?_
    refine fE_g_X2_H_length B dX2_counted_144 hf (fun v144 hf => ?_)
    exact z_ireturn B dX2_counted_147 hf
  replace hf := zIfn h1_16 hf
  by_cases h1_18 : x1 = (18)
  · replace hf := zIfp h1_18 hf
    refine z_tabIn B (off := 147) 148 dX2_counted_1 (by rw [h1_18]; decide) (by rw [h1_18]; decide) (by rw [h1_18]; decide) (by decide) ?_
    refine z_aload_n B dX2_counted_148 0 rfl rfl ?_
    refine fE_g_X2_E_disk B dX2_counted_149 ?_
    refine z_aload_n B dX2_counted_152 0 rfl rfl ?_
    refine fE_g_X2_E_terms B dX2_counted_153 ?_
    refine z_bipush B (7) dX2_counted_156 zc_bipush_7 ?_
    refine fE_l_E_terms B dX2_counted_158 hf (fun v158 hf => ?_)
    refine z_callVi B (As := [.int v158]) kcV_X2_277 dX2_counted_159 hf (fun q hq => cE_X1_badBelow q hq) (wE_o_D (adr := adr) (cI := cI) (cZ := cZ) (cS := cS) (tL := tL) (tH := tH)) rfl rfl rfl rfl (Nat.le_of_ble_eq_true rfl) rfl rfl ⟨Nat.le_of_ble_eq_true rfl, Nat.le_of_ble_eq_true rfl⟩ (fun v159 s159 hf => ?_)
    exact z_ireturn B dX2_counted_162 hf
  replace hf := zIfn h1_18 hf
  by_cases h1_31 : x1 = (31)
  · replace hf := zIfp h1_31 hf
    refine z_tabIn B (off := 162) 163 dX2_counted_1 (by rw [h1_31]; decide) (by rw [h1_31]; decide) (by rw [h1_31]; decide) (by decide) ?_
    refine z_aload_n B dX2_counted_163 0 rfl rfl ?_
    refine fE_g_X2_E_log B dX2_counted_164 ?_
    refine fE_g_X2_G_length B dX2_counted_167 hf (fun v167 hf => ?_)
    exact z_ireturn B dX2_counted_170 hf
  replace hf := zIfn h1_31 hf
  have kd1 : zJ X 2 (wdE adr cI cZ cS tL tH) (zi q) 171 [(0, .ref (adr 0)), (1, .int x1)] [] σ := by
    refine z_iload_n B dX2_counted_171 1 rfl rfl ?_
    refine z_bipush B (20) dX2_counted_172 zc_bipush_20 ?_
    refine z_icmp_lt B 193 dX2_counted_174 (by decide) hf (fun hf => ?_) (fun hf => ?_)
    · exact tE_X2_counted_193 B N σ x1 hf
    · refine z_iload_n B dX2_counted_177 1 rfl rfl ?_
      refine z_bipush B (30) dX2_counted_178 zc_bipush_30 ?_
      refine z_icmp_ge B 193 dX2_counted_180 (by decide) hf (fun hf => ?_) (fun hf => ?_)
      · exact tE_X2_counted_193 B N σ x1 hf
      · refine z_aload_n B dX2_counted_183 0 rfl rfl ?_
        refine fE_g_X2_E_terms B dX2_counted_184 ?_
        refine z_iload_n B dX2_counted_187 1 rfl rfl ?_
        refine z_bipush B (20) dX2_counted_188 zc_bipush_20 ?_
        refine z_isub B dX2_counted_190 hf (fun v190 hf => ?_)
        refine fE_l_E_terms B dX2_counted_191 hf (fun v191 hf => ?_)
        exact z_ireturn B dX2_counted_192 hf
  by_cases ho1 : x1.toInt < 10 ∨ 31 < x1.toInt
  · exact z_tabOut B 171 dX2_counted_1 ho1 (by decide) kd1
  · have e0 : x1.toInt ≠ 10 := z_ne h1_10 (by decide)
    have e1 : x1.toInt ≠ 11 := z_ne h1_11 (by decide)
    have e2 : x1.toInt ≠ 12 := z_ne h1_12 (by decide)
    have e3 : x1.toInt ≠ 13 := z_ne h1_13 (by decide)
    have e4 : x1.toInt ≠ 15 := z_ne h1_15 (by decide)
    have e5 : x1.toInt ≠ 16 := z_ne h1_16 (by decide)
    have e6 : x1.toInt ≠ 18 := z_ne h1_18 (by decide)
    have e7 : x1.toInt ≠ 31 := z_ne h1_31 (by decide)
    have hx1 : x1.toInt = 14 ∨ x1.toInt = 17 ∨ x1.toInt = 19 ∨ x1.toInt = 20 ∨ x1.toInt = 21 ∨ x1.toInt = 22 ∨ x1.toInt = 23 ∨ x1.toInt = 24 ∨ x1.toInt = 25 ∨ x1.toInt = 26 ∨ x1.toInt = 27 ∨ x1.toInt = 28 ∨ x1.toInt = 29 ∨ x1.toInt = 30 := by omega
    rcases hx1 with e1 | e1 | e1 | e1 | e1 | e1 | e1 | e1 | e1 | e1 | e1 | e1 | e1 | e1
    · exact z_tabIn B (off := 170) 171 dX2_counted_1 (by rw [e1]; decide) (by rw [e1]; decide) (by rw [e1]; decide) (by decide) kd1
    · exact z_tabIn B (off := 170) 171 dX2_counted_1 (by rw [e1]; decide) (by rw [e1]; decide) (by rw [e1]; decide) (by decide) kd1
    · exact z_tabIn B (off := 170) 171 dX2_counted_1 (by rw [e1]; decide) (by rw [e1]; decide) (by rw [e1]; decide) (by decide) kd1
    · exact z_tabIn B (off := 170) 171 dX2_counted_1 (by rw [e1]; decide) (by rw [e1]; decide) (by rw [e1]; decide) (by decide) kd1
    · exact z_tabIn B (off := 170) 171 dX2_counted_1 (by rw [e1]; decide) (by rw [e1]; decide) (by rw [e1]; decide) (by decide) kd1
    · exact z_tabIn B (off := 170) 171 dX2_counted_1 (by rw [e1]; decide) (by rw [e1]; decide) (by rw [e1]; decide) (by decide) kd1
    · exact z_tabIn B (off := 170) 171 dX2_counted_1 (by rw [e1]; decide) (by rw [e1]; decide) (by rw [e1]; decide) (by decide) kd1
    · exact z_tabIn B (off := 170) 171 dX2_counted_1 (by rw [e1]; decide) (by rw [e1]; decide) (by rw [e1]; decide) (by decide) kd1
    · exact z_tabIn B (off := 170) 171 dX2_counted_1 (by rw [e1]; decide) (by rw [e1]; decide) (by rw [e1]; decide) (by decide) kd1
    · exact z_tabIn B (off := 170) 171 dX2_counted_1 (by rw [e1]; decide) (by rw [e1]; decide) (by rw [e1]; decide) (by decide) kd1
    · exact z_tabIn B (off := 170) 171 dX2_counted_1 (by rw [e1]; decide) (by rw [e1]; decide) (by rw [e1]; decide) (by decide) kd1
    · exact z_tabIn B (off := 170) 171 dX2_counted_1 (by rw [e1]; decide) (by rw [e1]; decide) (by rw [e1]; decide) (by decide) kd1
    · exact z_tabIn B (off := 170) 171 dX2_counted_1 (by rw [e1]; decide) (by rw [e1]; decide) (by rw [e1]; decide) (by decide) kd1
    · exact z_tabIn B (off := 170) 171 dX2_counted_1 (by rw [e1]; decide) (by rw [e1]; decide) (by rw [e1]; decide) (by decide) kd1
theorem dX2_plannedAt_0 : decode cX2_plannedAt 0 = .ok (.iload_n 1, 1) := by decide +kernel
theorem dX2_plannedAt_1 : decode cX2_plannedAt 1 = .ok (.ifCond .lt 20, 3) := by decide +kernel
theorem dX2_plannedAt_4 : decode cX2_plannedAt 4 = .ok (.iload_n 1, 1) := by decide +kernel
theorem dX2_plannedAt_5 : decode cX2_plannedAt 5 = .ok (.aload_n 0, 1) := by decide +kernel
theorem dX2_plannedAt_6 : decode cX2_plannedAt 6 = .ok (.getfield 87, 3) := by decide +kernel
theorem dX2_plannedAt_9 : decode cX2_plannedAt 9 = .ok (.if_icmp .ge 12, 3) := by decide +kernel
theorem dX2_plannedAt_12 : decode cX2_plannedAt 12 = .ok (.iload_n 1, 1) := by decide +kernel
theorem dX2_plannedAt_13 : decode cX2_plannedAt 13 = .ok (.aload_n 0, 1) := by decide +kernel
theorem dX2_plannedAt_14 : decode cX2_plannedAt 14 = .ok (.getfield 59, 3) := by decide +kernel
theorem dX2_plannedAt_17 : decode cX2_plannedAt 17 = .ok (.arraylength, 1) := by decide +kernel
theorem dX2_plannedAt_18 : decode cX2_plannedAt 18 = .ok (.if_icmp .lt 7, 3) := by decide +kernel
theorem dX2_plannedAt_21 : decode cX2_plannedAt 21 = .ok (.iconst (-1), 1) := by decide +kernel
theorem dX2_plannedAt_22 : decode cX2_plannedAt 22 = .ok (.goto 9, 3) := by decide +kernel
theorem dX2_plannedAt_25 : decode cX2_plannedAt 25 = .ok (.aload_n 0, 1) := by decide +kernel
theorem dX2_plannedAt_26 : decode cX2_plannedAt 26 = .ok (.getfield 59, 3) := by decide +kernel
theorem dX2_plannedAt_29 : decode cX2_plannedAt 29 = .ok (.iload_n 1, 1) := by decide +kernel
theorem dX2_plannedAt_30 : decode cX2_plannedAt 30 = .ok (.iaload, 1) := by decide +kernel
theorem dX2_plannedAt_31 : decode cX2_plannedAt 31 = .ok (.ireturn, 1) := by decide +kernel
def mE_X2_plannedAt_31 (N : Nat) (σ : ST) (x1 : Int32) (k0 : Int32) : Option (Int32 × ST) :=
  some (k0, σ)
set_option maxRecDepth 20000 in
set_option maxHeartbeats 2000000 in
theorem tE_X2_plannedAt_31 {adr : Nat → Nat} {cI cZ cS : ClassId} {tL tH : Nat} {X : zX} {q : Int32 × ST} (B : zC X 2 (wdE adr cI cZ cS tL tH) cX2_plannedAt RX2 (some .int) { frames := 0, cells := 0, slots := 0, locals := 0 }) (N : Nat) (σ : ST) (x1 : Int32) (k0 : Int32) (hf : mE_X2_plannedAt_31 N σ x1 k0 = some q) : zJ X 2 (wdE adr cI cZ cS tL tH) (zi q) 31 [(0, .ref (adr 0)), (1, .int x1)] [.int k0] σ := by
  exact z_ireturn B dX2_plannedAt_31 hf
def mE_X2_plannedAt_21 (N : Nat) (σ : ST) (x1 : Int32) : Option (Int32 × ST) :=
  mE_X2_plannedAt_31 N σ x1 (-1)
set_option maxRecDepth 20000 in
set_option maxHeartbeats 2000000 in
theorem tE_X2_plannedAt_21 {adr : Nat → Nat} {cI cZ cS : ClassId} {tL tH : Nat} {X : zX} {q : Int32 × ST} (B : zC X 2 (wdE adr cI cZ cS tL tH) cX2_plannedAt RX2 (some .int) { frames := 0, cells := 0, slots := 0, locals := 0 }) (N : Nat) (σ : ST) (x1 : Int32) (hf : mE_X2_plannedAt_21 N σ x1 = some q) : zJ X 2 (wdE adr cI cZ cS tL tH) (zi q) 21 [(0, .ref (adr 0)), (1, .int x1)] [] σ := by
  refine z_iconst B (-1) dX2_plannedAt_21 zc_iconst_m1 ?_
  refine z_goto B 31 dX2_plannedAt_22 (by decide) ?_
  exact tE_X2_plannedAt_31 B N σ x1 (-1) hf
def mE_X2_plannedAt (N : Nat) (σ : ST) (x1 : Int32) : Option (Int32 × ST) :=
  if (x1 : Int32) < 0 then
    mE_X2_plannedAt_21 N σ x1
  else
    zLet (σ 0 8) fun v6 =>
    if (v6 : Int32) ≤ x1 then
      mE_X2_plannedAt_21 N σ x1
    else
      if (x1 : Int32) < (32) then
        zGet (σ 24) 32 x1 fun v30 =>
        mE_X2_plannedAt_31 N σ x1 v30
      else
        mE_X2_plannedAt_21 N σ x1
set_option maxRecDepth 20000 in
set_option maxHeartbeats 2000000 in
theorem cE_X2_plannedAt {adr : Nat → Nat} {cI cZ cS : ClassId} {tL tH : Nat} {l : Launch} {D : va_G} {N : Nat} {σ : ST} {x1 : Int32} (q : Int32 × ST) (hf : mE_X2_plannedAt N σ x1 = some q) : zM l D (wdE adr cI cZ cS tL tH) yX2_plannedAt cX2_plannedAt 2 (some .int) ({ frames := 0, cells := 0, slots := 0, locals := 0 }) [.ref (adr 0), .int x1] σ (zi q) := by
  refine zM_of sfE_ok rfl (Nat.le_of_ble_eq_true rfl) [(0, .ref (adr 0)), (1, .int x1)] rfl (fun X hX1 hX2 B => ?_)
  have B : zC X 2 (wdE adr cI cZ cS tL tH) cX2_plannedAt RX2 (some .int) { frames := 0, cells := 0, slots := 0, locals := 0 } := B
  refine z_iload_n B dX2_plannedAt_0 1 rfl rfl ?_
  refine z_if_lt B 21 dX2_plannedAt_1 (by decide) hf (fun hf => ?_) (fun hf => ?_)
  · exact tE_X2_plannedAt_21 B N σ x1 hf
  · refine z_iload_n B dX2_plannedAt_4 1 rfl rfl ?_
    refine z_aload_n B dX2_plannedAt_5 0 rfl rfl ?_
    refine fE_g_X2_E_plannedSize B dX2_plannedAt_6 hf (fun v6 hf => ?_)
    refine z_icmp_ge B 21 dX2_plannedAt_9 (by decide) hf (fun hf => ?_) (fun hf => ?_)
    · exact tE_X2_plannedAt_21 B N σ x1 hf
    · refine z_iload_n B dX2_plannedAt_12 1 rfl rfl ?_
      refine z_aload_n B dX2_plannedAt_13 0 rfl rfl ?_
      refine fE_g_X2_E_planned B dX2_plannedAt_14 ?_
      refine z_alen B (t0 := 0) (32) wE_g_E_planned rfl (show Int32.ofNat 32 = 32 by decide) dX2_plannedAt_17 ?_
      refine z_icmp_lt B 25 dX2_plannedAt_18 (by decide) hf (fun hf => ?_) (fun hf => ?_)
      · refine z_aload_n B dX2_plannedAt_25 0 rfl rfl ?_
        refine fE_g_X2_E_planned B dX2_plannedAt_26 ?_
        refine z_iload_n B dX2_plannedAt_29 1 rfl rfl ?_
        refine fE_l_E_planned B dX2_plannedAt_30 hf (fun v30 hf => ?_)
        exact tE_X2_plannedAt_31 B N σ x1 v30 hf
      · exact tE_X2_plannedAt_21 B N σ x1 hf
