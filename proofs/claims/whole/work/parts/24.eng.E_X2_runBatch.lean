theorem dX2_runBatch_0 : decode cX2_runBatch 0 = .ok (.aload_n 1, 1) := by decide +kernel
theorem dX2_runBatch_1 : decode cX2_runBatch 1 = .ok (.iconst (-1), 1) := by decide +kernel
theorem dX2_runBatch_2 : decode cX2_runBatch 2 = .ok (.putfield 245, 3) := by decide +kernel
theorem dX2_runBatch_5 : decode cX2_runBatch 5 = .ok (.aload_n 0, 1) := by decide +kernel
theorem dX2_runBatch_6 : decode cX2_runBatch 6 = .ok (.getfield 28, 3) := by decide +kernel
theorem dX2_runBatch_9 : decode cX2_runBatch 9 = .ok (.bipush 9, 2) := by decide +kernel
theorem dX2_runBatch_11 : decode cX2_runBatch 11 = .ok (.dup2, 1) := by decide +kernel
theorem dX2_runBatch_12 : decode cX2_runBatch 12 = .ok (.iaload, 1) := by decide +kernel
theorem dX2_runBatch_13 : decode cX2_runBatch 13 = .ok (.iconst 1, 1) := by decide +kernel
theorem dX2_runBatch_14 : decode cX2_runBatch 14 = .ok (.iadd, 1) := by decide +kernel
theorem dX2_runBatch_15 : decode cX2_runBatch 15 = .ok (.iastore, 1) := by decide +kernel
theorem dX2_runBatch_16 : decode cX2_runBatch 16 = .ok (.aload_n 0, 1) := by decide +kernel
theorem dX2_runBatch_17 : decode cX2_runBatch 17 = .ok (.getfield 28, 3) := by decide +kernel
theorem dX2_runBatch_20 : decode cX2_runBatch 20 = .ok (.bipush 6, 2) := by decide +kernel
theorem dX2_runBatch_22 : decode cX2_runBatch 22 = .ok (.iaload, 1) := by decide +kernel
theorem dX2_runBatch_23 : decode cX2_runBatch 23 = .ok (.bipush 100, 2) := by decide +kernel
theorem dX2_runBatch_25 : decode cX2_runBatch 25 = .ok (.imul, 1) := by decide +kernel
theorem dX2_runBatch_26 : decode cX2_runBatch 26 = .ok (.aload_n 0, 1) := by decide +kernel
theorem dX2_runBatch_27 : decode cX2_runBatch 27 = .ok (.getfield 15, 3) := by decide +kernel
theorem dX2_runBatch_30 : decode cX2_runBatch 30 = .ok (.iconst 5, 1) := by decide +kernel
theorem dX2_runBatch_31 : decode cX2_runBatch 31 = .ok (.iaload, 1) := by decide +kernel
theorem dX2_runBatch_32 : decode cX2_runBatch 32 = .ok (.aload_n 0, 1) := by decide +kernel
theorem dX2_runBatch_33 : decode cX2_runBatch 33 = .ok (.getfield 28, 3) := by decide +kernel
theorem dX2_runBatch_36 : decode cX2_runBatch 36 = .ok (.iconst 5, 1) := by decide +kernel
theorem dX2_runBatch_37 : decode cX2_runBatch 37 = .ok (.iaload, 1) := by decide +kernel
theorem dX2_runBatch_38 : decode cX2_runBatch 38 = .ok (.imul, 1) := by decide +kernel
theorem dX2_runBatch_39 : decode cX2_runBatch 39 = .ok (.if_icmp .le 15, 3) := by decide +kernel
theorem dX2_runBatch_42 : decode cX2_runBatch 42 = .ok (.aload_n 0, 1) := by decide +kernel
theorem dX2_runBatch_43 : decode cX2_runBatch 43 = .ok (.getfield 28, 3) := by decide +kernel
theorem dX2_runBatch_46 : decode cX2_runBatch 46 = .ok (.bipush 8, 2) := by decide +kernel
theorem dX2_runBatch_48 : decode cX2_runBatch 48 = .ok (.dup2, 1) := by decide +kernel
theorem dX2_runBatch_49 : decode cX2_runBatch 49 = .ok (.iaload, 1) := by decide +kernel
theorem dX2_runBatch_50 : decode cX2_runBatch 50 = .ok (.iconst 1, 1) := by decide +kernel
theorem dX2_runBatch_51 : decode cX2_runBatch 51 = .ok (.iadd, 1) := by decide +kernel
theorem dX2_runBatch_52 : decode cX2_runBatch 52 = .ok (.iastore, 1) := by decide +kernel
theorem dX2_runBatch_53 : decode cX2_runBatch 53 = .ok (.return_, 1) := by decide +kernel
theorem dX2_runBatch_54 : decode cX2_runBatch 54 = .ok (.aload_n 1, 1) := by decide +kernel
theorem dX2_runBatch_55 : decode cX2_runBatch 55 = .ok (.getfield 183, 3) := by decide +kernel
theorem dX2_runBatch_58 : decode cX2_runBatch 58 = .ok (.istore_n 3, 1) := by decide +kernel
theorem dX2_runBatch_59 : decode cX2_runBatch 59 = .ok (.iconst 0, 1) := by decide +kernel
theorem dX2_runBatch_60 : decode cX2_runBatch 60 = .ok (.istore 4, 2) := by decide +kernel
theorem dX2_runBatch_62 : decode cX2_runBatch 62 = .ok (.iload 4, 2) := by decide +kernel
theorem dX2_runBatch_64 : decode cX2_runBatch 64 = .ok (.iload_n 3, 1) := by decide +kernel
theorem dX2_runBatch_65 : decode cX2_runBatch 65 = .ok (.if_icmp .ge 90, 3) := by decide +kernel
theorem dX2_runBatch_68 : decode cX2_runBatch 68 = .ok (.aload_n 0, 1) := by decide +kernel
theorem dX2_runBatch_69 : decode cX2_runBatch 69 = .ok (.aload_n 1, 1) := by decide +kernel
theorem dX2_runBatch_70 : decode cX2_runBatch 70 = .ok (.getfield 242, 3) := by decide +kernel
theorem dX2_runBatch_73 : decode cX2_runBatch 73 = .ok (.aload_n 1, 1) := by decide +kernel
theorem dX2_runBatch_74 : decode cX2_runBatch 74 = .ok (.getfield 227, 3) := by decide +kernel
theorem dX2_runBatch_77 : decode cX2_runBatch 77 = .ok (.iadd, 1) := by decide +kernel
theorem dX2_runBatch_78 : decode cX2_runBatch 78 = .ok (.invokevirtual 251, 3) := by decide +kernel
theorem dX2_runBatch_81 : decode cX2_runBatch 81 = .ok (.ifCond .eq 74, 3) := by decide +kernel
theorem dX2_runBatch_84 : decode cX2_runBatch 84 = .ok (.aload_n 1, 1) := by decide +kernel
theorem dX2_runBatch_85 : decode cX2_runBatch 85 = .ok (.dup, 1) := by decide +kernel
theorem dX2_runBatch_86 : decode cX2_runBatch 86 = .ok (.getfield 242, 3) := by decide +kernel
theorem dX2_runBatch_89 : decode cX2_runBatch 89 = .ok (.aload_n 1, 1) := by decide +kernel
theorem dX2_runBatch_90 : decode cX2_runBatch 90 = .ok (.getfield 227, 3) := by decide +kernel
theorem dX2_runBatch_93 : decode cX2_runBatch 93 = .ok (.iadd, 1) := by decide +kernel
theorem dX2_runBatch_94 : decode cX2_runBatch 94 = .ok (.putfield 242, 3) := by decide +kernel
theorem dX2_runBatch_97 : decode cX2_runBatch 97 = .ok (.iload 4, 2) := by decide +kernel
theorem dX2_runBatch_99 : decode cX2_runBatch 99 = .ok (.ifCond .ne 11, 3) := by decide +kernel
theorem dX2_runBatch_102 : decode cX2_runBatch 102 = .ok (.aload_n 1, 1) := by decide +kernel
theorem dX2_runBatch_103 : decode cX2_runBatch 103 = .ok (.aload_n 1, 1) := by decide +kernel
theorem dX2_runBatch_104 : decode cX2_runBatch 104 = .ok (.getfield 242, 3) := by decide +kernel
theorem dX2_runBatch_107 : decode cX2_runBatch 107 = .ok (.putfield 245, 3) := by decide +kernel
theorem dX2_runBatch_110 : decode cX2_runBatch 110 = .ok (.aload_n 0, 1) := by decide +kernel
theorem dX2_runBatch_111 : decode cX2_runBatch 111 = .ok (.getfield 34, 3) := by decide +kernel
theorem dX2_runBatch_114 : decode cX2_runBatch 114 = .ok (.aload_n 1, 1) := by decide +kernel
theorem dX2_runBatch_115 : decode cX2_runBatch 115 = .ok (.getfield 242, 3) := by decide +kernel
theorem dX2_runBatch_118 : decode cX2_runBatch 118 = .ok (.invokevirtual 111, 3) := by decide +kernel
theorem dX2_runBatch_121 : decode cX2_runBatch 121 = .ok (.iconst (-1), 1) := by decide +kernel
theorem dX2_runBatch_122 : decode cX2_runBatch 122 = .ok (.if_icmp .eq 17, 3) := by decide +kernel
theorem dX2_runBatch_125 : decode cX2_runBatch 125 = .ok (.aload_n 0, 1) := by decide +kernel
theorem dX2_runBatch_126 : decode cX2_runBatch 126 = .ok (.getfield 28, 3) := by decide +kernel
theorem dX2_runBatch_129 : decode cX2_runBatch 129 = .ok (.bipush 7, 2) := by decide +kernel
theorem dX2_runBatch_131 : decode cX2_runBatch 131 = .ok (.dup2, 1) := by decide +kernel
theorem dX2_runBatch_132 : decode cX2_runBatch 132 = .ok (.iaload, 1) := by decide +kernel
theorem dX2_runBatch_133 : decode cX2_runBatch 133 = .ok (.iconst 1, 1) := by decide +kernel
theorem dX2_runBatch_134 : decode cX2_runBatch 134 = .ok (.iadd, 1) := by decide +kernel
theorem dX2_runBatch_135 : decode cX2_runBatch 135 = .ok (.iastore, 1) := by decide +kernel
theorem dX2_runBatch_136 : decode cX2_runBatch 136 = .ok (.goto 13, 3) := by decide +kernel
theorem dX2_runBatch_139 : decode cX2_runBatch 139 = .ok (.aload_n 0, 1) := by decide +kernel
theorem dX2_runBatch_140 : decode cX2_runBatch 140 = .ok (.aload_n 1, 1) := by decide +kernel
theorem dX2_runBatch_141 : decode cX2_runBatch 141 = .ok (.aload_n 1, 1) := by decide +kernel
theorem dX2_runBatch_142 : decode cX2_runBatch 142 = .ok (.getfield 242, 3) := by decide +kernel
theorem dX2_runBatch_145 : decode cX2_runBatch 145 = .ok (.iload_n 2, 1) := by decide +kernel
theorem dX2_runBatch_146 : decode cX2_runBatch 146 = .ok (.invokevirtual 254, 3) := by decide +kernel
theorem dX2_runBatch_149 : decode cX2_runBatch 149 = .ok (.iinc 4 1, 3) := by decide +kernel
theorem dX2_runBatch_152 : decode cX2_runBatch 152 = .ok (.goto (-90), 3) := by decide +kernel
theorem dX2_runBatch_155 : decode cX2_runBatch 155 = .ok (.return_, 1) := by decide +kernel
def mE_X2_runBatch_155 (N : Nat) (σ : ST) (x1 : Fin 6) (x2 : Int32) (x3 : Int32) (x4 : Int32) : Option (ST) :=
  some σ
set_option maxRecDepth 20000 in
set_option maxHeartbeats 2000000 in
theorem tE_X2_runBatch_155 {adr : Nat → Nat} {cI cZ cS : ClassId} {tL tH : Nat} {X : zX} {q : ST} (B : zC X 5 (wdE adr cI cZ cS tL tH) cX2_runBatch RX2 none { frames := 4, cells := 0, slots := 0, locals := 98 }) (N : Nat) (σ : ST) (x1 : Fin 6) (x2 : Int32) (x3 : Int32) (x4 : Int32) (hf : mE_X2_runBatch_155 N σ x1 x2 x3 x4 = some q) : zJ X 5 (wdE adr cI cZ cS tL tH) (zu q) 155 [(0, .ref (adr 0)), (1, .ref (adr (12 + (x1).val))), (2, .int x2), (3, .int x3), (4, .int x4)] [] σ := by
  exact z_return B dX2_runBatch_155 hf
def mE_X2_runBatch_149 (N : Nat) (hd62 : ST → Fin 6 → Int32 → Int32 → Int32 → Option (ST)) (σ : ST) (x1 : Fin 6) (x2 : Int32) (x3 : Int32) (x4 : Int32) : Option (ST) :=
  zLet (x4 + (1)) fun v149 =>
  hd62 σ x1 x2 x3 v149
set_option maxRecDepth 20000 in
set_option maxHeartbeats 2000000 in
theorem tE_X2_runBatch_149 {adr : Nat → Nat} {cI cZ cS : ClassId} {tL tH : Nat} {X : zX} {q : ST} (B : zC X 5 (wdE adr cI cZ cS tL tH) cX2_runBatch RX2 none { frames := 4, cells := 0, slots := 0, locals := 98 }) (N : Nat) (hd62 : ST → Fin 6 → Int32 → Int32 → Int32 → Option (ST)) (hh62 : ∀ (σ : ST) (x1 : Fin 6) (x2 : Int32) (x3 : Int32) (x4 : Int32), hd62 σ x1 x2 x3 x4 = some q → zJ X 5 (wdE adr cI cZ cS tL tH) (zu q) 62 [(0, .ref (adr 0)), (1, .ref (adr (12 + (x1).val))), (2, .int x2), (3, .int x3), (4, .int x4)] [] σ) (σ : ST) (x1 : Fin 6) (x2 : Int32) (x3 : Int32) (x4 : Int32) (hf : mE_X2_runBatch_149 N hd62 σ x1 x2 x3 x4 = some q) : zJ X 5 (wdE adr cI cZ cS tL tH) (zu q) 149 [(0, .ref (adr 0)), (1, .ref (adr (12 + (x1).val))), (2, .int x2), (3, .int x3), (4, .int x4)] [] σ := by
  refine z_iinc B (1) 4 (fun v149 => [(4, .int v149), (0, .ref (adr 0)), (1, .ref (adr (12 + (x1).val))), (2, .int x2), (3, .int x3)]) dX2_runBatch_149 hf zc_iconst_1 rfl (Nat.le_of_ble_eq_true rfl) (fun _ => rfl) (fun v149 hf => ?_)
  refine z_goto B 62 dX2_runBatch_152 (by decide) ?_
  exact z_loc [1, 2, 3, 4, 0] _ rfl (hh62 σ x1 x2 x3 v149 hf)
def mE_X2_runBatch_110 (N : Nat) (hd62 : ST → Fin 6 → Int32 → Int32 → Int32 → Option (ST)) (σ : ST) (x1 : Fin 6) (x2 : Int32) (x3 : Int32) (x4 : Int32) : Option (ST) :=
  zLet (σ (12 + (x1).val) 5) fun v115 =>
  zCall (mE_X0_slotOf N σ v115) fun v118 s118 =>
  if (v118 : Int32) = (-1) then
    zLet (s118 (12 + (x1).val) 5) fun v142 =>
    zCallu (mE_X2_fetchFor N s118 x1 v142 x2) fun s146 =>
    mE_X2_runBatch_149 N hd62 s146 x1 x2 x3 x4
  else
    zGet (s118 2) 34 (7) fun v132 =>
    zLet ((v132 : Int32) + (1)) fun v134 =>
    zSet s118 2 34 (7) v134 fun s135 =>
    mE_X2_runBatch_149 N hd62 s135 x1 x2 x3 x4
set_option maxRecDepth 20000 in
set_option maxHeartbeats 2000000 in
theorem tE_X2_runBatch_110 {adr : Nat → Nat} {cI cZ cS : ClassId} {tL tH : Nat} {X : zX} {q : ST} (B : zC X 5 (wdE adr cI cZ cS tL tH) cX2_runBatch RX2 none { frames := 4, cells := 0, slots := 0, locals := 98 }) (N : Nat) (hd62 : ST → Fin 6 → Int32 → Int32 → Int32 → Option (ST)) (hh62 : ∀ (σ : ST) (x1 : Fin 6) (x2 : Int32) (x3 : Int32) (x4 : Int32), hd62 σ x1 x2 x3 x4 = some q → zJ X 5 (wdE adr cI cZ cS tL tH) (zu q) 62 [(0, .ref (adr 0)), (1, .ref (adr (12 + (x1).val))), (2, .int x2), (3, .int x3), (4, .int x4)] [] σ) (σ : ST) (x1 : Fin 6) (x2 : Int32) (x3 : Int32) (x4 : Int32) (hf : mE_X2_runBatch_110 N hd62 σ x1 x2 x3 x4 = some q) : zJ X 5 (wdE adr cI cZ cS tL tH) (zu q) 110 [(0, .ref (adr 0)), (1, .ref (adr (12 + (x1).val))), (2, .int x2), (3, .int x3), (4, .int x4)] [] σ := by
  refine z_aload_n B dX2_runBatch_110 0 rfl rfl ?_
  refine fE_g_X2_E_cache B dX2_runBatch_111 ?_
  refine z_aload_n B dX2_runBatch_114 1 rfl rfl ?_
  refine fE_g_X2_S_edge B x1 dX2_runBatch_115 hf (fun v115 hf => ?_)
  refine z_callVi B (As := [.int v115]) kcV_X2_111 dX2_runBatch_118 hf (fun q hq => cE_X0_slotOf q hq) (wE_o_C (adr := adr) (cI := cI) (cZ := cZ) (cS := cS) (tL := tL) (tH := tH)) rfl rfl rfl rfl (Nat.le_of_ble_eq_true rfl) rfl rfl ⟨Nat.le_of_ble_eq_true rfl, Nat.le_of_ble_eq_true rfl⟩ (fun v118 s118 hf => ?_)
  refine z_iconst B (-1) dX2_runBatch_121 zc_iconst_m1 ?_
  refine z_icmp_eq B 139 dX2_runBatch_122 (by decide) hf (fun hf => ?_) (fun hf => ?_)
  · refine z_aload_n B dX2_runBatch_139 0 rfl rfl ?_
    refine z_aload_n B dX2_runBatch_140 1 rfl rfl ?_
    refine z_aload_n B dX2_runBatch_141 1 rfl rfl ?_
    refine fE_g_X2_S_edge B x1 dX2_runBatch_142 hf (fun v142 hf => ?_)
    refine z_iload_n B dX2_runBatch_145 2 rfl rfl ?_
    refine z_callVu B (As := [.ref (adr (12 + (x1).val)), .int v142, .int x2]) kcV_X2_254 dX2_runBatch_146 hf (fun q hq => cE_X2_fetchFor q hq) (wE_o_E (adr := adr) (cI := cI) (cZ := cZ) (cS := cS) (tL := tL) (tH := tH)) rfl rfl rfl rfl (Nat.le_of_ble_eq_true rfl) rfl rfl ⟨Nat.le_of_ble_eq_true rfl, Nat.le_of_ble_eq_true rfl⟩ (fun s146 hf => ?_)
    exact tE_X2_runBatch_149 B N hd62 hh62 s146 x1 x2 x3 x4 hf
  · refine z_aload_n B dX2_runBatch_125 0 rfl rfl ?_
    refine fE_g_X2_E_counts B dX2_runBatch_126 ?_
    refine z_bipush B (7) dX2_runBatch_129 zc_bipush_7 ?_
    refine z_dup2 B dX2_runBatch_131 rfl rfl ?_
    refine fE_l_E_counts B dX2_runBatch_132 hf (fun v132 hf => ?_)
    refine z_iconst B (1) dX2_runBatch_133 zc_iconst_1 ?_
    refine z_iadd B dX2_runBatch_134 hf (fun v134 hf => ?_)
    refine fE_s_E_counts B dX2_runBatch_135 hf (fun s135 hf => ?_)
    refine z_goto B 149 dX2_runBatch_136 (by decide) ?_
    exact tE_X2_runBatch_149 B N hd62 hh62 s135 x1 x2 x3 x4 hf
def mE_X2_runBatch_B62 (N : Nat) (hd62 : ST → Fin 6 → Int32 → Int32 → Int32 → Option (ST)) (σ : ST) (x1 : Fin 6) (x2 : Int32) (x3 : Int32) (x4 : Int32) : Option (ST) :=
  if (x3 : Int32) ≤ x4 then
    mE_X2_runBatch_155 N σ x1 x2 x3 x4
  else
    zLet (σ (12 + (x1).val) 5) fun v70 =>
    zLet (σ (12 + (x1).val) 2) fun v74 =>
    zLet ((v70 : Int32) + v74) fun v77 =>
    zCall (mE_X2_mayGoTo N σ v77) fun v78 s78 =>
    if (v78 : Int32) = 0 then
      mE_X2_runBatch_155 N s78 x1 x2 x3 x4
    else
      zLet (s78 (12 + (x1).val) 5) fun v86 =>
      zLet (s78 (12 + (x1).val) 2) fun v90 =>
      zLet ((v86 : Int32) + v90) fun v93 =>
      zLet (zUp s78 (12 + (x1).val) 5 v93) fun s94 =>
      if (x4 : Int32) = 0 then
        zLet (s94 (12 + (x1).val) 5) fun v104 =>
        zLet (zUp s94 (12 + (x1).val) 6 v104) fun s107 =>
        mE_X2_runBatch_110 N hd62 s107 x1 x2 x3 x4
      else
        mE_X2_runBatch_110 N hd62 s94 x1 x2 x3 x4
def mE_X2_runBatch_62 (N : Nat) : ST → Fin 6 → Int32 → Int32 → Int32 → Option (ST) := zIt (mE_X2_runBatch_B62 N) (fun _ _ _ _ _ => none) N
set_option maxRecDepth 20000 in
set_option maxHeartbeats 2000000 in
theorem tE_X2_runBatch_62 {adr : Nat → Nat} {cI cZ cS : ClassId} {tL tH : Nat} {X : zX} {q : ST} (B : zC X 5 (wdE adr cI cZ cS tL tH) cX2_runBatch RX2 none { frames := 4, cells := 0, slots := 0, locals := 98 }) (N : Nat) : ∀ (σ : ST) (x1 : Fin 6) (x2 : Int32) (x3 : Int32) (x4 : Int32), mE_X2_runBatch_62 N σ x1 x2 x3 x4 = some q → zJ X 5 (wdE adr cI cZ cS tL tH) (zu q) 62 [(0, .ref (adr 0)), (1, .ref (adr (12 + (x1).val))), (2, .int x2), (3, .int x3), (4, .int x4)] [] σ := by
  refine zIt_ind (P := fun (hd : ST → Fin 6 → Int32 → Int32 → Int32 → Option (ST)) => ∀ (σ : ST) (x1 : Fin 6) (x2 : Int32) (x3 : Int32) (x4 : Int32), hd σ x1 x2 x3 x4 = some q → zJ X 5 (wdE adr cI cZ cS tL tH) (zu q) 62 [(0, .ref (adr 0)), (1, .ref (adr (12 + (x1).val))), (2, .int x2), (3, .int x3), (4, .int x4)] [] σ) (fun _ _ _ _ _ hf => by cases hf) (fun hd62 hh62 => ?_) N
  intro σ x1 x2 x3 x4 hf
  refine z_iload B dX2_runBatch_62 4 rfl ?_
  refine z_iload_n B dX2_runBatch_64 3 rfl rfl ?_
  refine z_icmp_ge B 155 dX2_runBatch_65 (by decide) hf (fun hf => ?_) (fun hf => ?_)
  · exact tE_X2_runBatch_155 B N σ x1 x2 x3 x4 hf
  · refine z_aload_n B dX2_runBatch_68 0 rfl rfl ?_
    refine z_aload_n B dX2_runBatch_69 1 rfl rfl ?_
    refine fE_g_X2_S_edge B x1 dX2_runBatch_70 hf (fun v70 hf => ?_)
    refine z_aload_n B dX2_runBatch_73 1 rfl rfl ?_
    refine fE_g_X2_S_stride B x1 dX2_runBatch_74 hf (fun v74 hf => ?_)
    refine z_iadd B dX2_runBatch_77 hf (fun v77 hf => ?_)
    refine z_callVi B (As := [.int v77]) kcV_X2_251 dX2_runBatch_78 hf (fun q hq => cE_X2_mayGoTo q hq) (wE_o_E (adr := adr) (cI := cI) (cZ := cZ) (cS := cS) (tL := tL) (tH := tH)) rfl rfl rfl rfl (Nat.le_of_ble_eq_true rfl) rfl rfl ⟨Nat.le_of_ble_eq_true rfl, Nat.le_of_ble_eq_true rfl⟩ (fun v78 s78 hf => ?_)
    refine z_if_eq B 155 dX2_runBatch_81 (by decide) hf (fun hf => ?_) (fun hf => ?_)
    · exact tE_X2_runBatch_155 B N s78 x1 x2 x3 x4 hf
    · refine z_aload_n B dX2_runBatch_84 1 rfl rfl ?_
      refine z_dup B dX2_runBatch_85 rfl ?_
      refine fE_g_X2_S_edge B x1 dX2_runBatch_86 hf (fun v86 hf => ?_)
      refine z_aload_n B dX2_runBatch_89 1 rfl rfl ?_
      refine fE_g_X2_S_stride B x1 dX2_runBatch_90 hf (fun v90 hf => ?_)
      refine z_iadd B dX2_runBatch_93 hf (fun v93 hf => ?_)
      refine fE_p_X2_S_edge B x1 dX2_runBatch_94 hf (fun s94 hf => ?_)
      refine z_iload B dX2_runBatch_97 4 rfl ?_
      refine z_if_ne B 110 dX2_runBatch_99 (by decide) hf (fun hf => ?_) (fun hf => ?_)
      · exact tE_X2_runBatch_110 B N hd62 hh62 s94 x1 x2 x3 x4 hf
      · refine z_aload_n B dX2_runBatch_102 1 rfl rfl ?_
        refine z_aload_n B dX2_runBatch_103 1 rfl rfl ?_
        refine fE_g_X2_S_edge B x1 dX2_runBatch_104 hf (fun v104 hf => ?_)
        refine fE_p_X2_S_marker B x1 dX2_runBatch_107 hf (fun s107 hf => ?_)
        exact tE_X2_runBatch_110 B N hd62 hh62 s107 x1 x2 x3 x4 hf
def mE_X2_runBatch (N : Nat) (σ : ST) (x1 : Fin 6) (x2 : Int32) : Option (ST) :=
  zLet (zUp σ (12 + (x1).val) 6 (-1)) fun s2 =>
  zGet (s2 2) 34 (9) fun v12 =>
  zLet ((v12 : Int32) + (1)) fun v14 =>
  zSet s2 2 34 (9) v14 fun s15 =>
  zGet (s15 2) 34 (6) fun v22 =>
  zLet ((v22 : Int32) * (100)) fun v25 =>
  zGet (s15 1) 10 (5) fun v31 =>
  zGet (s15 2) 34 (5) fun v37 =>
  zLet ((v31 : Int32) * v37) fun v38 =>
  if (v25 : Int32) ≤ v38 then
    zLet (s15 (12 + (x1).val) 4) fun v55 =>
    mE_X2_runBatch_62 N s15 x1 x2 v55 (0)
  else
    zGet (s15 2) 34 (8) fun v49 =>
    zLet ((v49 : Int32) + (1)) fun v51 =>
    zSet s15 2 34 (8) v51 fun s52 =>
    some s52
set_option maxRecDepth 20000 in
set_option maxHeartbeats 2000000 in
theorem cE_X2_runBatch {adr : Nat → Nat} {cI cZ cS : ClassId} {tL tH : Nat} {l : Launch} {D : va_G} {N : Nat} {σ : ST} {x1 : Fin 6} {x2 : Int32} (q : ST) (hf : mE_X2_runBatch N σ x1 x2 = some q) : zM l D (wdE adr cI cZ cS tL tH) yX2_runBatch cX2_runBatch 5 none ({ frames := 4, cells := 0, slots := 0, locals := 98 }) [.ref (adr 0), .ref (adr (12 + (x1).val)), .int x2] σ (zu q) := by
  refine zM_of sfE_ok rfl (Nat.le_of_ble_eq_true rfl) [(0, .ref (adr 0)), (1, .ref (adr (12 + (x1).val))), (2, .int x2)] rfl (fun X hX1 hX2 B => ?_)
  have B : zC X 5 (wdE adr cI cZ cS tL tH) cX2_runBatch RX2 none { frames := 4, cells := 0, slots := 0, locals := 98 } := B
  refine z_aload_n B dX2_runBatch_0 1 rfl rfl ?_
  refine z_iconst B (-1) dX2_runBatch_1 zc_iconst_m1 ?_
  refine fE_p_X2_S_marker B x1 dX2_runBatch_2 hf (fun s2 hf => ?_)
  refine z_aload_n B dX2_runBatch_5 0 rfl rfl ?_
  refine fE_g_X2_E_counts B dX2_runBatch_6 ?_
  refine z_bipush B (9) dX2_runBatch_9 zc_bipush_9 ?_
  refine z_dup2 B dX2_runBatch_11 rfl rfl ?_
  refine fE_l_E_counts B dX2_runBatch_12 hf (fun v12 hf => ?_)
  refine z_iconst B (1) dX2_runBatch_13 zc_iconst_1 ?_
  refine z_iadd B dX2_runBatch_14 hf (fun v14 hf => ?_)
  refine fE_s_E_counts B dX2_runBatch_15 hf (fun s15 hf => ?_)
  refine z_aload_n B dX2_runBatch_16 0 rfl rfl ?_
  refine fE_g_X2_E_counts B dX2_runBatch_17 ?_
  refine z_bipush B (6) dX2_runBatch_20 zc_bipush_6 ?_
  refine fE_l_E_counts B dX2_runBatch_22 hf (fun v22 hf => ?_)
  refine z_bipush B (100) dX2_runBatch_23 zc_bipush_100 ?_
  refine z_imul B dX2_runBatch_25 hf (fun v25 hf => ?_)
  refine z_aload_n B dX2_runBatch_26 0 rfl rfl ?_
  refine fE_g_X2_E_terms B dX2_runBatch_27 ?_
  refine z_iconst B (5) dX2_runBatch_30 zc_iconst_5 ?_
  refine fE_l_E_terms B dX2_runBatch_31 hf (fun v31 hf => ?_)
  refine z_aload_n B dX2_runBatch_32 0 rfl rfl ?_
  refine fE_g_X2_E_counts B dX2_runBatch_33 ?_
  refine z_iconst B (5) dX2_runBatch_36 zc_iconst_5 ?_
  refine fE_l_E_counts B dX2_runBatch_37 hf (fun v37 hf => ?_)
  refine z_imul B dX2_runBatch_38 hf (fun v38 hf => ?_)
  refine z_icmp_le B 54 dX2_runBatch_39 (by decide) hf (fun hf => ?_) (fun hf => ?_)
  · refine z_aload_n B dX2_runBatch_54 1 rfl rfl ?_
    refine fE_g_X2_S_window B x1 dX2_runBatch_55 hf (fun v55 hf => ?_)
    refine z_istore_n B [(3, .int v55), (0, .ref (adr 0)), (1, .ref (adr (12 + (x1).val))), (2, .int x2)] dX2_runBatch_58 rfl (Nat.le_of_ble_eq_true rfl) rfl ?_
    refine z_iconst B (0) dX2_runBatch_59 zc_iconst_0 ?_
    refine z_istore B [(4, .int (0)), (3, .int v55), (0, .ref (adr 0)), (1, .ref (adr (12 + (x1).val))), (2, .int x2)] dX2_runBatch_60 (Nat.le_of_ble_eq_true rfl) rfl ?_
    exact z_loc [2, 3, 4, 1, 0] _ rfl (tE_X2_runBatch_62 B N s15 x1 x2 v55 (0) hf)
  · refine z_aload_n B dX2_runBatch_42 0 rfl rfl ?_
    refine fE_g_X2_E_counts B dX2_runBatch_43 ?_
    refine z_bipush B (8) dX2_runBatch_46 zc_bipush_8 ?_
    refine z_dup2 B dX2_runBatch_48 rfl rfl ?_
    refine fE_l_E_counts B dX2_runBatch_49 hf (fun v49 hf => ?_)
    refine z_iconst B (1) dX2_runBatch_50 zc_iconst_1 ?_
    refine z_iadd B dX2_runBatch_51 hf (fun v51 hf => ?_)
    refine fE_s_E_counts B dX2_runBatch_52 hf (fun s52 hf => ?_)
    exact z_return B dX2_runBatch_53 hf
theorem dX2_steppingPlace_0 : decode cX2_steppingPlace 0 = .ok (.iconst (-1), 1) := by decide +kernel
theorem dX2_steppingPlace_1 : decode cX2_steppingPlace 1 = .ok (.istore_n 2, 1) := by decide +kernel
theorem dX2_steppingPlace_2 : decode cX2_steppingPlace 2 = .ok (.iconst 0, 1) := by decide +kernel
theorem dX2_steppingPlace_3 : decode cX2_steppingPlace 3 = .ok (.istore_n 3, 1) := by decide +kernel
theorem dX2_steppingPlace_4 : decode cX2_steppingPlace 4 = .ok (.iload_n 3, 1) := by decide +kernel
theorem dX2_steppingPlace_5 : decode cX2_steppingPlace 5 = .ok (.bipush 6, 2) := by decide +kernel
theorem dX2_steppingPlace_7 : decode cX2_steppingPlace 7 = .ok (.if_icmp .ge 69, 3) := by decide +kernel
theorem dX2_steppingPlace_10 : decode cX2_steppingPlace 10 = .ok (.aload_n 0, 1) := by decide +kernel
theorem dX2_steppingPlace_11 : decode cX2_steppingPlace 11 = .ok (.getfield 40, 3) := by decide +kernel
theorem dX2_steppingPlace_14 : decode cX2_steppingPlace 14 = .ok (.iload_n 3, 1) := by decide +kernel
theorem dX2_steppingPlace_15 : decode cX2_steppingPlace 15 = .ok (.aaload, 1) := by decide +kernel
theorem dX2_steppingPlace_16 : decode cX2_steppingPlace 16 = .ok (.astore 4, 2) := by decide +kernel
theorem dX2_steppingPlace_18 : decode cX2_steppingPlace 18 = .ok (.aload 4, 2) := by decide +kernel
theorem dX2_steppingPlace_20 : decode cX2_steppingPlace 20 = .ok (.getfield 70, 3) := by decide +kernel
theorem dX2_steppingPlace_23 : decode cX2_steppingPlace 23 = .ok (.iconst (-1), 1) := by decide +kernel
theorem dX2_steppingPlace_24 : decode cX2_steppingPlace 24 = .ok (.if_icmp .eq 46, 3) := by decide +kernel
theorem dX2_steppingPlace_27 : decode cX2_steppingPlace 27 = .ok (.aload 4, 2) := by decide +kernel
theorem dX2_steppingPlace_29 : decode cX2_steppingPlace 29 = .ok (.getfield 227, 3) := by decide +kernel
theorem dX2_steppingPlace_32 : decode cX2_steppingPlace 32 = .ok (.ifCond .eq 38, 3) := by decide +kernel
theorem dX2_steppingPlace_35 : decode cX2_steppingPlace 35 = .ok (.aload 4, 2) := by decide +kernel
theorem dX2_steppingPlace_37 : decode cX2_steppingPlace 37 = .ok (.getfield 230, 3) := by decide +kernel
theorem dX2_steppingPlace_40 : decode cX2_steppingPlace 40 = .ok (.aload 4, 2) := by decide +kernel
theorem dX2_steppingPlace_42 : decode cX2_steppingPlace 42 = .ok (.getfield 227, 3) := by decide +kernel
theorem dX2_steppingPlace_45 : decode cX2_steppingPlace 45 = .ok (.iadd, 1) := by decide +kernel
theorem dX2_steppingPlace_46 : decode cX2_steppingPlace 46 = .ok (.iload_n 1, 1) := by decide +kernel
theorem dX2_steppingPlace_47 : decode cX2_steppingPlace 47 = .ok (.if_icmp .eq 6, 3) := by decide +kernel
theorem dX2_steppingPlace_50 : decode cX2_steppingPlace 50 = .ok (.goto 20, 3) := by decide +kernel
theorem dX2_steppingPlace_53 : decode cX2_steppingPlace 53 = .ok (.aload 4, 2) := by decide +kernel
theorem dX2_steppingPlace_55 : decode cX2_steppingPlace 55 = .ok (.getfield 183, 3) := by decide +kernel
theorem dX2_steppingPlace_58 : decode cX2_steppingPlace 58 = .ok (.ifCond .le 5, 3) := by decide +kernel
theorem dX2_steppingPlace_61 : decode cX2_steppingPlace 61 = .ok (.iload_n 3, 1) := by decide +kernel
theorem dX2_steppingPlace_62 : decode cX2_steppingPlace 62 = .ok (.ireturn, 1) := by decide +kernel
theorem dX2_steppingPlace_63 : decode cX2_steppingPlace 63 = .ok (.iload_n 2, 1) := by decide +kernel
theorem dX2_steppingPlace_64 : decode cX2_steppingPlace 64 = .ok (.iconst (-1), 1) := by decide +kernel
theorem dX2_steppingPlace_65 : decode cX2_steppingPlace 65 = .ok (.if_icmp .ne 5, 3) := by decide +kernel
theorem dX2_steppingPlace_68 : decode cX2_steppingPlace 68 = .ok (.iload_n 3, 1) := by decide +kernel
theorem dX2_steppingPlace_69 : decode cX2_steppingPlace 69 = .ok (.istore_n 2, 1) := by decide +kernel
theorem dX2_steppingPlace_70 : decode cX2_steppingPlace 70 = .ok (.iinc 3 1, 3) := by decide +kernel
theorem dX2_steppingPlace_73 : decode cX2_steppingPlace 73 = .ok (.goto (-69), 3) := by decide +kernel
theorem dX2_steppingPlace_76 : decode cX2_steppingPlace 76 = .ok (.iload_n 2, 1) := by decide +kernel
theorem dX2_steppingPlace_77 : decode cX2_steppingPlace 77 = .ok (.ireturn, 1) := by decide +kernel
def mE_X2_steppingPlace_70 (N : Nat) (hd4 : ST → Int32 → Int32 → Int32 → Option (Int32 × ST)) (σ : ST) (x1 : Int32) (x2 : Int32) (x3 : Int32) (x4 : Fin 6) : Option (Int32 × ST) :=
  zLet (x3 + (1)) fun v70 =>
  hd4 σ x1 x2 v70
set_option maxRecDepth 20000 in
set_option maxHeartbeats 2000000 in
theorem tE_X2_steppingPlace_70 {adr : Nat → Nat} {cI cZ cS : ClassId} {tL tH : Nat} {X : zX} {q : Int32 × ST} (B : zC X 5 (wdE adr cI cZ cS tL tH) cX2_steppingPlace RX2 (some .int) { frames := 0, cells := 0, slots := 0, locals := 0 }) (N : Nat) (hd4 : ST → Int32 → Int32 → Int32 → Option (Int32 × ST)) (hh4 : ∀ (σ : ST) (x1 : Int32) (x2 : Int32) (x3 : Int32), hd4 σ x1 x2 x3 = some q → zJ X 5 (wdE adr cI cZ cS tL tH) (zi q) 4 [(0, .ref (adr 0)), (1, .int x1), (2, .int x2), (3, .int x3)] [] σ) (σ : ST) (x1 : Int32) (x2 : Int32) (x3 : Int32) (x4 : Fin 6) (hf : mE_X2_steppingPlace_70 N hd4 σ x1 x2 x3 x4 = some q) : zJ X 5 (wdE adr cI cZ cS tL tH) (zi q) 70 [(0, .ref (adr 0)), (1, .int x1), (2, .int x2), (3, .int x3), (4, .ref (adr (12 + (x4).val)))] [] σ := by
  refine z_iinc B (1) 3 (fun v70 => [(3, .int v70), (0, .ref (adr 0)), (1, .int x1), (2, .int x2), (4, .ref (adr (12 + (x4).val)))]) dX2_steppingPlace_70 hf zc_iconst_1 rfl (Nat.le_of_ble_eq_true rfl) (fun _ => rfl) (fun v70 hf => ?_)
  refine z_goto B 4 dX2_steppingPlace_73 (by decide) ?_
  exact z_loc [1, 2, 3, 0] _ rfl (hh4 σ x1 x2 v70 hf)
def mE_X2_steppingPlace_B4 (N : Nat) (hd4 : ST → Int32 → Int32 → Int32 → Option (Int32 × ST)) (σ : ST) (x1 : Int32) (x2 : Int32) (x3 : Int32) : Option (Int32 × ST) :=
  if ((6) : Int32) ≤ x3 then
    some (x2, σ)
  else
    zGet6 x3 fun v15 =>
    zLet (σ (12 + (v15).val) 0) fun v20 =>
    if (v20 : Int32) = (-1) then
      mE_X2_steppingPlace_70 N hd4 σ x1 x2 x3 v15
    else
      zLet (σ (12 + (v15).val) 2) fun v29 =>
      if (v29 : Int32) = 0 then
        mE_X2_steppingPlace_70 N hd4 σ x1 x2 x3 v15
      else
        zLet (σ (12 + (v15).val) 1) fun v37 =>
        zLet (σ (12 + (v15).val) 2) fun v42 =>
        zLet ((v37 : Int32) + v42) fun v45 =>
        if (v45 : Int32) = x1 then
          zLet (σ (12 + (v15).val) 4) fun v55 =>
          if (v55 : Int32) ≤ 0 then
            if (x2 : Int32) = (-1) then
              mE_X2_steppingPlace_70 N hd4 σ x1 x3 x3 v15
            else
              mE_X2_steppingPlace_70 N hd4 σ x1 x2 x3 v15
          else
            some (x3, σ)
        else
          mE_X2_steppingPlace_70 N hd4 σ x1 x2 x3 v15
def mE_X2_steppingPlace_4 (N : Nat) : ST → Int32 → Int32 → Int32 → Option (Int32 × ST) := zIt (mE_X2_steppingPlace_B4 N) (fun _ _ _ _ => none) N
set_option maxRecDepth 20000 in
set_option maxHeartbeats 2000000 in
theorem tE_X2_steppingPlace_4 {adr : Nat → Nat} {cI cZ cS : ClassId} {tL tH : Nat} {X : zX} {q : Int32 × ST} (B : zC X 5 (wdE adr cI cZ cS tL tH) cX2_steppingPlace RX2 (some .int) { frames := 0, cells := 0, slots := 0, locals := 0 }) (N : Nat) : ∀ (σ : ST) (x1 : Int32) (x2 : Int32) (x3 : Int32), mE_X2_steppingPlace_4 N σ x1 x2 x3 = some q → zJ X 5 (wdE adr cI cZ cS tL tH) (zi q) 4 [(0, .ref (adr 0)), (1, .int x1), (2, .int x2), (3, .int x3)] [] σ := by
  refine zIt_ind (P := fun (hd : ST → Int32 → Int32 → Int32 → Option (Int32 × ST)) => ∀ (σ : ST) (x1 : Int32) (x2 : Int32) (x3 : Int32), hd σ x1 x2 x3 = some q → zJ X 5 (wdE adr cI cZ cS tL tH) (zi q) 4 [(0, .ref (adr 0)), (1, .int x1), (2, .int x2), (3, .int x3)] [] σ) (fun _ _ _ _ hf => by cases hf) (fun hd4 hh4 => ?_) N
  intro σ x1 x2 x3 hf
  refine z_iload_n B dX2_steppingPlace_4 3 rfl rfl ?_
  refine z_bipush B (6) dX2_steppingPlace_5 zc_bipush_6 ?_
  refine z_icmp_ge B 76 dX2_steppingPlace_7 (by decide) hf (fun hf => ?_) (fun hf => ?_)
  · refine z_iload_n B dX2_steppingPlace_76 2 rfl rfl ?_
    exact z_ireturn B dX2_steppingPlace_77 hf
  · refine z_aload_n B dX2_steppingPlace_10 0 rfl rfl ?_
    refine fE_g_X2_E_streams B dX2_steppingPlace_11 ?_
    refine z_iload_n B dX2_steppingPlace_14 3 rfl rfl ?_
    refine fE_streams B dX2_steppingPlace_15 hf (fun v15 hf => ?_)
    refine z_astore B [(4, .ref (adr (12 + (v15).val))), (0, .ref (adr 0)), (1, .int x1), (2, .int x2), (3, .int x3)] dX2_steppingPlace_16 (Nat.le_of_ble_eq_true rfl) rfl ?_
    refine z_aload B dX2_steppingPlace_18 0 rfl ?_
    refine fE_g_X2_S_number B v15 dX2_steppingPlace_20 hf (fun v20 hf => ?_)
    refine z_iconst B (-1) dX2_steppingPlace_23 zc_iconst_m1 ?_
    refine z_icmp_eq B 70 dX2_steppingPlace_24 (by decide) hf (fun hf => ?_) (fun hf => ?_)
    · exact z_loc [1, 2, 3, 4, 0] _ rfl (tE_X2_steppingPlace_70 B N hd4 hh4 σ x1 x2 x3 v15 hf)
    · refine z_aload B dX2_steppingPlace_27 0 rfl ?_
      refine fE_g_X2_S_stride B v15 dX2_steppingPlace_29 hf (fun v29 hf => ?_)
      refine z_if_eq B 70 dX2_steppingPlace_32 (by decide) hf (fun hf => ?_) (fun hf => ?_)
      · exact z_loc [1, 2, 3, 4, 0] _ rfl (tE_X2_steppingPlace_70 B N hd4 hh4 σ x1 x2 x3 v15 hf)
      · refine z_aload B dX2_steppingPlace_35 0 rfl ?_
        refine fE_g_X2_S_last B v15 dX2_steppingPlace_37 hf (fun v37 hf => ?_)
        refine z_aload B dX2_steppingPlace_40 0 rfl ?_
        refine fE_g_X2_S_stride B v15 dX2_steppingPlace_42 hf (fun v42 hf => ?_)
        refine z_iadd B dX2_steppingPlace_45 hf (fun v45 hf => ?_)
        refine z_iload_n B dX2_steppingPlace_46 2 rfl rfl ?_
        refine z_icmp_eq B 53 dX2_steppingPlace_47 (by decide) hf (fun hf => ?_) (fun hf => ?_)
        · refine z_aload B dX2_steppingPlace_53 0 rfl ?_
          refine fE_g_X2_S_window B v15 dX2_steppingPlace_55 hf (fun v55 hf => ?_)
          refine z_if_le B 63 dX2_steppingPlace_58 (by decide) hf (fun hf => ?_) (fun hf => ?_)
          · refine z_iload_n B dX2_steppingPlace_63 3 rfl rfl ?_
            refine z_iconst B (-1) dX2_steppingPlace_64 zc_iconst_m1 ?_
            refine z_icmp_ne B 70 dX2_steppingPlace_65 (by decide) hf (fun hf => ?_) (fun hf => ?_)
            · exact z_loc [1, 2, 3, 4, 0] _ rfl (tE_X2_steppingPlace_70 B N hd4 hh4 σ x1 x2 x3 v15 hf)
            · refine z_iload_n B dX2_steppingPlace_68 4 rfl rfl ?_
              refine z_istore_n B [(2, .int x3), (4, .ref (adr (12 + (v15).val))), (0, .ref (adr 0)), (1, .int x1), (3, .int x3)] dX2_steppingPlace_69 rfl (Nat.le_of_ble_eq_true rfl) rfl ?_
              exact z_loc [2, 3, 0, 4, 1] _ rfl (tE_X2_steppingPlace_70 B N hd4 hh4 σ x1 x3 x3 v15 hf)
          · refine z_iload_n B dX2_steppingPlace_61 4 rfl rfl ?_
            exact z_ireturn B dX2_steppingPlace_62 hf
        · refine z_goto B 70 dX2_steppingPlace_50 (by decide) ?_
          exact z_loc [1, 2, 3, 4, 0] _ rfl (tE_X2_steppingPlace_70 B N hd4 hh4 σ x1 x2 x3 v15 hf)
def mE_X2_steppingPlace (N : Nat) (σ : ST) (x1 : Int32) : Option (Int32 × ST) :=
  mE_X2_steppingPlace_4 N σ x1 (-1) (0)
set_option maxRecDepth 20000 in
set_option maxHeartbeats 2000000 in
theorem cE_X2_steppingPlace {adr : Nat → Nat} {cI cZ cS : ClassId} {tL tH : Nat} {l : Launch} {D : va_G} {N : Nat} {σ : ST} {x1 : Int32} (q : Int32 × ST) (hf : mE_X2_steppingPlace N σ x1 = some q) : zM l D (wdE adr cI cZ cS tL tH) yX2_steppingPlace cX2_steppingPlace 5 (some .int) ({ frames := 0, cells := 0, slots := 0, locals := 0 }) [.ref (adr 0), .int x1] σ (zi q) := by
  refine zM_of sfE_ok rfl (Nat.le_of_ble_eq_true rfl) [(0, .ref (adr 0)), (1, .int x1)] rfl (fun X hX1 hX2 B => ?_)
  have B : zC X 5 (wdE adr cI cZ cS tL tH) cX2_steppingPlace RX2 (some .int) { frames := 0, cells := 0, slots := 0, locals := 0 } := B
  refine z_iconst B (-1) dX2_steppingPlace_0 zc_iconst_m1 ?_
  refine z_istore_n B [(2, .int (-1)), (0, .ref (adr 0)), (1, .int x1)] dX2_steppingPlace_1 rfl (Nat.le_of_ble_eq_true rfl) rfl ?_
  refine z_iconst B (0) dX2_steppingPlace_2 zc_iconst_0 ?_
  refine z_istore_n B [(3, .int (0)), (2, .int (-1)), (0, .ref (adr 0)), (1, .int x1)] dX2_steppingPlace_3 rfl (Nat.le_of_ble_eq_true rfl) rfl ?_
  exact z_loc [2, 3, 1, 0] _ rfl (tE_X2_steppingPlace_4 B N σ x1 (-1) (0) hf)
theorem dX2_placeWithLast_0 : decode cX2_placeWithLast 0 = .ok (.iconst 0, 1) := by decide +kernel
theorem dX2_placeWithLast_1 : decode cX2_placeWithLast 1 = .ok (.istore_n 2, 1) := by decide +kernel
theorem dX2_placeWithLast_2 : decode cX2_placeWithLast 2 = .ok (.iload_n 2, 1) := by decide +kernel
theorem dX2_placeWithLast_3 : decode cX2_placeWithLast 3 = .ok (.bipush 6, 2) := by decide +kernel
theorem dX2_placeWithLast_5 : decode cX2_placeWithLast 5 = .ok (.if_icmp .ge 37, 3) := by decide +kernel
theorem dX2_placeWithLast_8 : decode cX2_placeWithLast 8 = .ok (.aload_n 0, 1) := by decide +kernel
theorem dX2_placeWithLast_9 : decode cX2_placeWithLast 9 = .ok (.getfield 40, 3) := by decide +kernel
theorem dX2_placeWithLast_12 : decode cX2_placeWithLast 12 = .ok (.iload_n 2, 1) := by decide +kernel
theorem dX2_placeWithLast_13 : decode cX2_placeWithLast 13 = .ok (.aaload, 1) := by decide +kernel
theorem dX2_placeWithLast_14 : decode cX2_placeWithLast 14 = .ok (.getfield 70, 3) := by decide +kernel
theorem dX2_placeWithLast_17 : decode cX2_placeWithLast 17 = .ok (.iconst (-1), 1) := by decide +kernel
theorem dX2_placeWithLast_18 : decode cX2_placeWithLast 18 = .ok (.if_icmp .eq 18, 3) := by decide +kernel
theorem dX2_placeWithLast_21 : decode cX2_placeWithLast 21 = .ok (.aload_n 0, 1) := by decide +kernel
theorem dX2_placeWithLast_22 : decode cX2_placeWithLast 22 = .ok (.getfield 40, 3) := by decide +kernel
theorem dX2_placeWithLast_25 : decode cX2_placeWithLast 25 = .ok (.iload_n 2, 1) := by decide +kernel
theorem dX2_placeWithLast_26 : decode cX2_placeWithLast 26 = .ok (.aaload, 1) := by decide +kernel
theorem dX2_placeWithLast_27 : decode cX2_placeWithLast 27 = .ok (.getfield 230, 3) := by decide +kernel
theorem dX2_placeWithLast_30 : decode cX2_placeWithLast 30 = .ok (.iload_n 1, 1) := by decide +kernel
theorem dX2_placeWithLast_31 : decode cX2_placeWithLast 31 = .ok (.if_icmp .ne 5, 3) := by decide +kernel
theorem dX2_placeWithLast_34 : decode cX2_placeWithLast 34 = .ok (.iload_n 2, 1) := by decide +kernel
theorem dX2_placeWithLast_35 : decode cX2_placeWithLast 35 = .ok (.ireturn, 1) := by decide +kernel
theorem dX2_placeWithLast_36 : decode cX2_placeWithLast 36 = .ok (.iinc 2 1, 3) := by decide +kernel
theorem dX2_placeWithLast_39 : decode cX2_placeWithLast 39 = .ok (.goto (-37), 3) := by decide +kernel
theorem dX2_placeWithLast_42 : decode cX2_placeWithLast 42 = .ok (.iconst (-1), 1) := by decide +kernel
theorem dX2_placeWithLast_43 : decode cX2_placeWithLast 43 = .ok (.ireturn, 1) := by decide +kernel
def mE_X2_placeWithLast_36 (N : Nat) (hd2 : ST → Int32 → Int32 → Option (Int32 × ST)) (σ : ST) (x1 : Int32) (x2 : Int32) : Option (Int32 × ST) :=
  zLet (x2 + (1)) fun v36 =>
  hd2 σ x1 v36
set_option maxRecDepth 20000 in
set_option maxHeartbeats 2000000 in
theorem tE_X2_placeWithLast_36 {adr : Nat → Nat} {cI cZ cS : ClassId} {tL tH : Nat} {X : zX} {q : Int32 × ST} (B : zC X 3 (wdE adr cI cZ cS tL tH) cX2_placeWithLast RX2 (some .int) { frames := 0, cells := 0, slots := 0, locals := 0 }) (N : Nat) (hd2 : ST → Int32 → Int32 → Option (Int32 × ST)) (hh2 : ∀ (σ : ST) (x1 : Int32) (x2 : Int32), hd2 σ x1 x2 = some q → zJ X 3 (wdE adr cI cZ cS tL tH) (zi q) 2 [(0, .ref (adr 0)), (1, .int x1), (2, .int x2)] [] σ) (σ : ST) (x1 : Int32) (x2 : Int32) (hf : mE_X2_placeWithLast_36 N hd2 σ x1 x2 = some q) : zJ X 3 (wdE adr cI cZ cS tL tH) (zi q) 36 [(0, .ref (adr 0)), (1, .int x1), (2, .int x2)] [] σ := by
  refine z_iinc B (1) 2 (fun v36 => [(2, .int v36), (0, .ref (adr 0)), (1, .int x1)]) dX2_placeWithLast_36 hf zc_iconst_1 rfl (Nat.le_of_ble_eq_true rfl) (fun _ => rfl) (fun v36 hf => ?_)
  refine z_goto B 2 dX2_placeWithLast_39 (by decide) ?_
  exact z_loc [1, 2, 0] _ rfl (hh2 σ x1 v36 hf)
def mE_X2_placeWithLast_B2 (N : Nat) (hd2 : ST → Int32 → Int32 → Option (Int32 × ST)) (σ : ST) (x1 : Int32) (x2 : Int32) : Option (Int32 × ST) :=
  if ((6) : Int32) ≤ x2 then
    some ((-1), σ)
  else
    zGet6 x2 fun v13 =>
    zLet (σ (12 + (v13).val) 0) fun v14 =>
    if (v14 : Int32) = (-1) then
      mE_X2_placeWithLast_36 N hd2 σ x1 x2
    else
      zGet6 x2 fun v26 =>
      zLet (σ (12 + (v26).val) 1) fun v27 =>
      if (v27 : Int32) = x1 then
        some (x2, σ)
      else
        mE_X2_placeWithLast_36 N hd2 σ x1 x2
def mE_X2_placeWithLast_2 (N : Nat) : ST → Int32 → Int32 → Option (Int32 × ST) := zIt (mE_X2_placeWithLast_B2 N) (fun _ _ _ => none) N
set_option maxRecDepth 20000 in
set_option maxHeartbeats 2000000 in
theorem tE_X2_placeWithLast_2 {adr : Nat → Nat} {cI cZ cS : ClassId} {tL tH : Nat} {X : zX} {q : Int32 × ST} (B : zC X 3 (wdE adr cI cZ cS tL tH) cX2_placeWithLast RX2 (some .int) { frames := 0, cells := 0, slots := 0, locals := 0 }) (N : Nat) : ∀ (σ : ST) (x1 : Int32) (x2 : Int32), mE_X2_placeWithLast_2 N σ x1 x2 = some q → zJ X 3 (wdE adr cI cZ cS tL tH) (zi q) 2 [(0, .ref (adr 0)), (1, .int x1), (2, .int x2)] [] σ := by
  refine zIt_ind (P := fun (hd : ST → Int32 → Int32 → Option (Int32 × ST)) => ∀ (σ : ST) (x1 : Int32) (x2 : Int32), hd σ x1 x2 = some q → zJ X 3 (wdE adr cI cZ cS tL tH) (zi q) 2 [(0, .ref (adr 0)), (1, .int x1), (2, .int x2)] [] σ) (fun _ _ _ hf => by cases hf) (fun hd2 hh2 => ?_) N
  intro σ x1 x2 hf
  refine z_iload_n B dX2_placeWithLast_2 2 rfl rfl ?_
  refine z_bipush B (6) dX2_placeWithLast_3 zc_bipush_6 ?_
  refine z_icmp_ge B 42 dX2_placeWithLast_5 (by decide) hf (fun hf => ?_) (fun hf => ?_)
  · refine z_iconst B (-1) dX2_placeWithLast_42 zc_iconst_m1 ?_
    exact z_ireturn B dX2_placeWithLast_43 hf
  · refine z_aload_n B dX2_placeWithLast_8 0 rfl rfl ?_
    refine fE_g_X2_E_streams B dX2_placeWithLast_9 ?_
    refine z_iload_n B dX2_placeWithLast_12 2 rfl rfl ?_
    refine fE_streams B dX2_placeWithLast_13 hf (fun v13 hf => ?_)
    refine fE_g_X2_S_number B v13 dX2_placeWithLast_14 hf (fun v14 hf => ?_)
    refine z_iconst B (-1) dX2_placeWithLast_17 zc_iconst_m1 ?_
    refine z_icmp_eq B 36 dX2_placeWithLast_18 (by decide) hf (fun hf => ?_) (fun hf => ?_)
    · exact tE_X2_placeWithLast_36 B N hd2 hh2 σ x1 x2 hf
    · refine z_aload_n B dX2_placeWithLast_21 0 rfl rfl ?_
      refine fE_g_X2_E_streams B dX2_placeWithLast_22 ?_
      refine z_iload_n B dX2_placeWithLast_25 2 rfl rfl ?_
      refine fE_streams B dX2_placeWithLast_26 hf (fun v26 hf => ?_)
      refine fE_g_X2_S_last B v26 dX2_placeWithLast_27 hf (fun v27 hf => ?_)
      refine z_iload_n B dX2_placeWithLast_30 1 rfl rfl ?_
      refine z_icmp_ne B 36 dX2_placeWithLast_31 (by decide) hf (fun hf => ?_) (fun hf => ?_)
      · exact tE_X2_placeWithLast_36 B N hd2 hh2 σ x1 x2 hf
      · refine z_iload_n B dX2_placeWithLast_34 2 rfl rfl ?_
        exact z_ireturn B dX2_placeWithLast_35 hf
def mE_X2_placeWithLast (N : Nat) (σ : ST) (x1 : Int32) : Option (Int32 × ST) :=
  mE_X2_placeWithLast_2 N σ x1 (0)
set_option maxRecDepth 20000 in
set_option maxHeartbeats 2000000 in
theorem cE_X2_placeWithLast {adr : Nat → Nat} {cI cZ cS : ClassId} {tL tH : Nat} {l : Launch} {D : va_G} {N : Nat} {σ : ST} {x1 : Int32} (q : Int32 × ST) (hf : mE_X2_placeWithLast N σ x1 = some q) : zM l D (wdE adr cI cZ cS tL tH) yX2_placeWithLast cX2_placeWithLast 3 (some .int) ({ frames := 0, cells := 0, slots := 0, locals := 0 }) [.ref (adr 0), .int x1] σ (zi q) := by
  refine zM_of sfE_ok rfl (Nat.le_of_ble_eq_true rfl) [(0, .ref (adr 0)), (1, .int x1)] rfl (fun X hX1 hX2 B => ?_)
  have B : zC X 3 (wdE adr cI cZ cS tL tH) cX2_placeWithLast RX2 (some .int) { frames := 0, cells := 0, slots := 0, locals := 0 } := B
  refine z_iconst B (0) dX2_placeWithLast_0 zc_iconst_0 ?_
  refine z_istore_n B [(2, .int (0)), (0, .ref (adr 0)), (1, .int x1)] dX2_placeWithLast_1 rfl (Nat.le_of_ble_eq_true rfl) rfl ?_
  exact z_loc [1, 2, 0] _ rfl (tE_X2_placeWithLast_2 B N σ x1 (0) hf)
theorem dX2_pairingPlace_0 : decode cX2_pairingPlace 0 = .ok (.iconst (-1), 1) := by decide +kernel
theorem dX2_pairingPlace_1 : decode cX2_pairingPlace 1 = .ok (.istore_n 2, 1) := by decide +kernel
theorem dX2_pairingPlace_2 : decode cX2_pairingPlace 2 = .ok (.aload_n 0, 1) := by decide +kernel
theorem dX2_pairingPlace_3 : decode cX2_pairingPlace 3 = .ok (.getfield 15, 3) := by decide +kernel
theorem dX2_pairingPlace_6 : decode cX2_pairingPlace 6 = .ok (.iconst 4, 1) := by decide +kernel
theorem dX2_pairingPlace_7 : decode cX2_pairingPlace 7 = .ok (.iaload, 1) := by decide +kernel
theorem dX2_pairingPlace_8 : decode cX2_pairingPlace 8 = .ok (.iconst 1, 1) := by decide +kernel
theorem dX2_pairingPlace_9 : decode cX2_pairingPlace 9 = .ok (.iadd, 1) := by decide +kernel
theorem dX2_pairingPlace_10 : decode cX2_pairingPlace 10 = .ok (.istore_n 3, 1) := by decide +kernel
theorem dX2_pairingPlace_11 : decode cX2_pairingPlace 11 = .ok (.iconst 0, 1) := by decide +kernel
theorem dX2_pairingPlace_12 : decode cX2_pairingPlace 12 = .ok (.istore 4, 2) := by decide +kernel
theorem dX2_pairingPlace_14 : decode cX2_pairingPlace 14 = .ok (.iload 4, 2) := by decide +kernel
theorem dX2_pairingPlace_16 : decode cX2_pairingPlace 16 = .ok (.bipush 6, 2) := by decide +kernel
theorem dX2_pairingPlace_18 : decode cX2_pairingPlace 18 = .ok (.if_icmp .ge 59, 3) := by decide +kernel
theorem dX2_pairingPlace_21 : decode cX2_pairingPlace 21 = .ok (.aload_n 0, 1) := by decide +kernel
theorem dX2_pairingPlace_22 : decode cX2_pairingPlace 22 = .ok (.getfield 40, 3) := by decide +kernel
theorem dX2_pairingPlace_25 : decode cX2_pairingPlace 25 = .ok (.iload 4, 2) := by decide +kernel
theorem dX2_pairingPlace_27 : decode cX2_pairingPlace 27 = .ok (.aaload, 1) := by decide +kernel
theorem dX2_pairingPlace_28 : decode cX2_pairingPlace 28 = .ok (.astore 5, 2) := by decide +kernel
theorem dX2_pairingPlace_30 : decode cX2_pairingPlace 30 = .ok (.iload_n 1, 1) := by decide +kernel
theorem dX2_pairingPlace_31 : decode cX2_pairingPlace 31 = .ok (.aload 5, 2) := by decide +kernel
theorem dX2_pairingPlace_33 : decode cX2_pairingPlace 33 = .ok (.getfield 230, 3) := by decide +kernel
theorem dX2_pairingPlace_36 : decode cX2_pairingPlace 36 = .ok (.isub, 1) := by decide +kernel
theorem dX2_pairingPlace_37 : decode cX2_pairingPlace 37 = .ok (.invokestatic 233, 3) := by decide +kernel
theorem dX2_pairingPlace_40 : decode cX2_pairingPlace 40 = .ok (.istore 6, 2) := by decide +kernel
theorem dX2_pairingPlace_42 : decode cX2_pairingPlace 42 = .ok (.aload 5, 2) := by decide +kernel
theorem dX2_pairingPlace_44 : decode cX2_pairingPlace 44 = .ok (.getfield 70, 3) := by decide +kernel
theorem dX2_pairingPlace_47 : decode cX2_pairingPlace 47 = .ok (.iconst (-1), 1) := by decide +kernel
theorem dX2_pairingPlace_48 : decode cX2_pairingPlace 48 = .ok (.if_icmp .eq 23, 3) := by decide +kernel
theorem dX2_pairingPlace_51 : decode cX2_pairingPlace 51 = .ok (.aload 5, 2) := by decide +kernel
theorem dX2_pairingPlace_53 : decode cX2_pairingPlace 53 = .ok (.getfield 227, 3) := by decide +kernel
theorem dX2_pairingPlace_56 : decode cX2_pairingPlace 56 = .ok (.ifCond .ne 15, 3) := by decide +kernel
theorem dX2_pairingPlace_59 : decode cX2_pairingPlace 59 = .ok (.iload 6, 2) := by decide +kernel
theorem dX2_pairingPlace_61 : decode cX2_pairingPlace 61 = .ok (.iload_n 3, 1) := by decide +kernel
theorem dX2_pairingPlace_62 : decode cX2_pairingPlace 62 = .ok (.if_icmp .ge 9, 3) := by decide +kernel
theorem dX2_pairingPlace_65 : decode cX2_pairingPlace 65 = .ok (.iload 4, 2) := by decide +kernel
theorem dX2_pairingPlace_67 : decode cX2_pairingPlace 67 = .ok (.istore_n 2, 1) := by decide +kernel
theorem dX2_pairingPlace_68 : decode cX2_pairingPlace 68 = .ok (.iload 6, 2) := by decide +kernel
theorem dX2_pairingPlace_70 : decode cX2_pairingPlace 70 = .ok (.istore_n 3, 1) := by decide +kernel
theorem dX2_pairingPlace_71 : decode cX2_pairingPlace 71 = .ok (.iinc 4 1, 3) := by decide +kernel
theorem dX2_pairingPlace_74 : decode cX2_pairingPlace 74 = .ok (.goto (-60), 3) := by decide +kernel
theorem dX2_pairingPlace_77 : decode cX2_pairingPlace 77 = .ok (.iload_n 2, 1) := by decide +kernel
theorem dX2_pairingPlace_78 : decode cX2_pairingPlace 78 = .ok (.ireturn, 1) := by decide +kernel
def mE_X2_pairingPlace_71 (N : Nat) (hd14 : ST → Int32 → Int32 → Int32 → Int32 → Option (Int32 × ST)) (σ : ST) (x1 : Int32) (x2 : Int32) (x3 : Int32) (x4 : Int32) (x5 : Fin 6) (x6 : Int32) : Option (Int32 × ST) :=
  zLet (x4 + (1)) fun v71 =>
  hd14 σ x1 x2 x3 v71
set_option maxRecDepth 20000 in
set_option maxHeartbeats 2000000 in
theorem tE_X2_pairingPlace_71 {adr : Nat → Nat} {cI cZ cS : ClassId} {tL tH : Nat} {X : zX} {q : Int32 × ST} (B : zC X 7 (wdE adr cI cZ cS tL tH) cX2_pairingPlace RX2 (some .int) { frames := 1, cells := 0, slots := 0, locals := 13 }) (N : Nat) (hd14 : ST → Int32 → Int32 → Int32 → Int32 → Option (Int32 × ST)) (hh14 : ∀ (σ : ST) (x1 : Int32) (x2 : Int32) (x3 : Int32) (x4 : Int32), hd14 σ x1 x2 x3 x4 = some q → zJ X 7 (wdE adr cI cZ cS tL tH) (zi q) 14 [(0, .ref (adr 0)), (1, .int x1), (2, .int x2), (3, .int x3), (4, .int x4)] [] σ) (σ : ST) (x1 : Int32) (x2 : Int32) (x3 : Int32) (x4 : Int32) (x5 : Fin 6) (x6 : Int32) (hf : mE_X2_pairingPlace_71 N hd14 σ x1 x2 x3 x4 x5 x6 = some q) : zJ X 7 (wdE adr cI cZ cS tL tH) (zi q) 71 [(0, .ref (adr 0)), (1, .int x1), (2, .int x2), (3, .int x3), (4, .int x4), (5, .ref (adr (12 + (x5).val))), (6, .int x6)] [] σ := by
  refine z_iinc B (1) 4 (fun v71 => [(4, .int v71), (0, .ref (adr 0)), (1, .int x1), (2, .int x2), (3, .int x3), (5, .ref (adr (12 + (x5).val))), (6, .int x6)]) dX2_pairingPlace_71 hf zc_iconst_1 rfl (Nat.le_of_ble_eq_true rfl) (fun _ => rfl) (fun v71 hf => ?_)
  refine z_goto B 14 dX2_pairingPlace_74 (by decide) ?_
  exact z_loc [1, 2, 3, 4, 0] _ rfl (hh14 σ x1 x2 x3 v71 hf)
def mE_X2_pairingPlace_B14 (N : Nat) (hd14 : ST → Int32 → Int32 → Int32 → Int32 → Option (Int32 × ST)) (σ : ST) (x1 : Int32) (x2 : Int32) (x3 : Int32) (x4 : Int32) : Option (Int32 × ST) :=
  if ((6) : Int32) ≤ x4 then
    some (x2, σ)
  else
    zGet6 x4 fun v27 =>
    zLet (σ (12 + (v27).val) 1) fun v33 =>
    zLet ((x1 : Int32) - v33) fun v36 =>
    zLet (if (0 : Int32) ≤ v36 then v36 else 0 - v36) fun v37 =>
    zLet (σ (12 + (v27).val) 0) fun v44 =>
    if (v44 : Int32) = (-1) then
      mE_X2_pairingPlace_71 N hd14 σ x1 x2 x3 x4 v27 v37
    else
      zLet (σ (12 + (v27).val) 2) fun v53 =>
      if (v53 : Int32) = 0 then
        if (x3 : Int32) ≤ v37 then
          mE_X2_pairingPlace_71 N hd14 σ x1 x2 x3 x4 v27 v37
        else
          mE_X2_pairingPlace_71 N hd14 σ x1 x4 v37 x4 v27 v37
      else
        mE_X2_pairingPlace_71 N hd14 σ x1 x2 x3 x4 v27 v37
def mE_X2_pairingPlace_14 (N : Nat) : ST → Int32 → Int32 → Int32 → Int32 → Option (Int32 × ST) := zIt (mE_X2_pairingPlace_B14 N) (fun _ _ _ _ _ => none) N
set_option maxRecDepth 20000 in
set_option maxHeartbeats 2000000 in
theorem tE_X2_pairingPlace_14 {adr : Nat → Nat} {cI cZ cS : ClassId} {tL tH : Nat} {X : zX} {q : Int32 × ST} (B : zC X 7 (wdE adr cI cZ cS tL tH) cX2_pairingPlace RX2 (some .int) { frames := 1, cells := 0, slots := 0, locals := 13 }) (N : Nat) : ∀ (σ : ST) (x1 : Int32) (x2 : Int32) (x3 : Int32) (x4 : Int32), mE_X2_pairingPlace_14 N σ x1 x2 x3 x4 = some q → zJ X 7 (wdE adr cI cZ cS tL tH) (zi q) 14 [(0, .ref (adr 0)), (1, .int x1), (2, .int x2), (3, .int x3), (4, .int x4)] [] σ := by
  refine zIt_ind (P := fun (hd : ST → Int32 → Int32 → Int32 → Int32 → Option (Int32 × ST)) => ∀ (σ : ST) (x1 : Int32) (x2 : Int32) (x3 : Int32) (x4 : Int32), hd σ x1 x2 x3 x4 = some q → zJ X 7 (wdE adr cI cZ cS tL tH) (zi q) 14 [(0, .ref (adr 0)), (1, .int x1), (2, .int x2), (3, .int x3), (4, .int x4)] [] σ) (fun _ _ _ _ _ hf => by cases hf) (fun hd14 hh14 => ?_) N
  intro σ x1 x2 x3 x4 hf
  refine z_iload B dX2_pairingPlace_14 4 rfl ?_
  refine z_bipush B (6) dX2_pairingPlace_16 zc_bipush_6 ?_
  refine z_icmp_ge B 77 dX2_pairingPlace_18 (by decide) hf (fun hf => ?_) (fun hf => ?_)
  · refine z_iload_n B dX2_pairingPlace_77 2 rfl rfl ?_
    exact z_ireturn B dX2_pairingPlace_78 hf
  · refine z_aload_n B dX2_pairingPlace_21 0 rfl rfl ?_
    refine fE_g_X2_E_streams B dX2_pairingPlace_22 ?_
    refine z_iload B dX2_pairingPlace_25 4 rfl ?_
    refine fE_streams B dX2_pairingPlace_27 hf (fun v27 hf => ?_)
    refine z_astore B [(5, .ref (adr (12 + (v27).val))), (0, .ref (adr 0)), (1, .int x1), (2, .int x2), (3, .int x3), (4, .int x4)] dX2_pairingPlace_28 (Nat.le_of_ble_eq_true rfl) rfl ?_
    refine z_iload_n B dX2_pairingPlace_30 2 rfl rfl ?_
    refine z_aload B dX2_pairingPlace_31 0 rfl ?_
    refine fE_g_X2_S_last B v27 dX2_pairingPlace_33 hf (fun v33 hf => ?_)
    refine z_isub B dX2_pairingPlace_36 hf (fun v36 hf => ?_)
    refine z_mabs B kw_480 kmS_abs kmI kmC_abs (Nat.le_of_ble_eq_true rfl) (Nat.le_of_ble_eq_true rfl) dX2_pairingPlace_37 hf (fun v37 hf => ?_)
    refine z_istore B [(6, .int v37), (5, .ref (adr (12 + (v27).val))), (0, .ref (adr 0)), (1, .int x1), (2, .int x2), (3, .int x3), (4, .int x4)] dX2_pairingPlace_40 (Nat.le_of_ble_eq_true rfl) rfl ?_
    refine z_aload B dX2_pairingPlace_42 1 rfl ?_
    refine fE_g_X2_S_number B v27 dX2_pairingPlace_44 hf (fun v44 hf => ?_)
    refine z_iconst B (-1) dX2_pairingPlace_47 zc_iconst_m1 ?_
    refine z_icmp_eq B 71 dX2_pairingPlace_48 (by decide) hf (fun hf => ?_) (fun hf => ?_)
    · exact z_loc [2, 3, 4, 5, 6, 1, 0] _ rfl (tE_X2_pairingPlace_71 B N hd14 hh14 σ x1 x2 x3 x4 v27 v37 hf)
    · refine z_aload B dX2_pairingPlace_51 1 rfl ?_
      refine fE_g_X2_S_stride B v27 dX2_pairingPlace_53 hf (fun v53 hf => ?_)
      refine z_if_ne B 71 dX2_pairingPlace_56 (by decide) hf (fun hf => ?_) (fun hf => ?_)
      · exact z_loc [2, 3, 4, 5, 6, 1, 0] _ rfl (tE_X2_pairingPlace_71 B N hd14 hh14 σ x1 x2 x3 x4 v27 v37 hf)
      · refine z_iload B dX2_pairingPlace_59 0 rfl ?_
        refine z_iload_n B dX2_pairingPlace_61 5 rfl rfl ?_
        refine z_icmp_ge B 71 dX2_pairingPlace_62 (by decide) hf (fun hf => ?_) (fun hf => ?_)
        · exact z_loc [2, 3, 4, 5, 6, 1, 0] _ rfl (tE_X2_pairingPlace_71 B N hd14 hh14 σ x1 x2 x3 x4 v27 v37 hf)
        · refine z_iload B dX2_pairingPlace_65 6 rfl ?_
          refine z_istore_n B [(2, .int x4), (6, .int v37), (5, .ref (adr (12 + (v27).val))), (0, .ref (adr 0)), (1, .int x1), (3, .int x3), (4, .int x4)] dX2_pairingPlace_67 rfl (Nat.le_of_ble_eq_true rfl) rfl ?_
          refine z_iload B dX2_pairingPlace_68 1 rfl ?_
          refine z_istore_n B [(3, .int v37), (2, .int x4), (6, .int v37), (5, .ref (adr (12 + (v27).val))), (0, .ref (adr 0)), (1, .int x1), (4, .int x4)] dX2_pairingPlace_70 rfl (Nat.le_of_ble_eq_true rfl) rfl ?_
          exact z_loc [4, 5, 1, 0, 6, 3, 2] _ rfl (tE_X2_pairingPlace_71 B N hd14 hh14 σ x1 x4 v37 x4 v27 v37 hf)
def mE_X2_pairingPlace (N : Nat) (σ : ST) (x1 : Int32) : Option (Int32 × ST) :=
  zGet (σ 1) 10 (4) fun v7 =>
  zLet ((v7 : Int32) + (1)) fun v9 =>
  mE_X2_pairingPlace_14 N σ x1 (-1) v9 (0)
set_option maxRecDepth 20000 in
set_option maxHeartbeats 2000000 in
theorem cE_X2_pairingPlace {adr : Nat → Nat} {cI cZ cS : ClassId} {tL tH : Nat} {l : Launch} {D : va_G} {N : Nat} {σ : ST} {x1 : Int32} (q : Int32 × ST) (hf : mE_X2_pairingPlace N σ x1 = some q) : zM l D (wdE adr cI cZ cS tL tH) yX2_pairingPlace cX2_pairingPlace 7 (some .int) ({ frames := 1, cells := 0, slots := 0, locals := 13 }) [.ref (adr 0), .int x1] σ (zi q) := by
  refine zM_of sfE_ok rfl (Nat.le_of_ble_eq_true rfl) [(0, .ref (adr 0)), (1, .int x1)] rfl (fun X hX1 hX2 B => ?_)
  have B : zC X 7 (wdE adr cI cZ cS tL tH) cX2_pairingPlace RX2 (some .int) { frames := 1, cells := 0, slots := 0, locals := 13 } := B
  refine z_iconst B (-1) dX2_pairingPlace_0 zc_iconst_m1 ?_
  refine z_istore_n B [(2, .int (-1)), (0, .ref (adr 0)), (1, .int x1)] dX2_pairingPlace_1 rfl (Nat.le_of_ble_eq_true rfl) rfl ?_
  refine z_aload_n B dX2_pairingPlace_2 1 rfl rfl ?_
  refine fE_g_X2_E_terms B dX2_pairingPlace_3 ?_
  refine z_iconst B (4) dX2_pairingPlace_6 zc_iconst_4 ?_
  refine fE_l_E_terms B dX2_pairingPlace_7 hf (fun v7 hf => ?_)
  refine z_iconst B (1) dX2_pairingPlace_8 zc_iconst_1 ?_
  refine z_iadd B dX2_pairingPlace_9 hf (fun v9 hf => ?_)
  refine z_istore_n B [(3, .int v9), (2, .int (-1)), (0, .ref (adr 0)), (1, .int x1)] dX2_pairingPlace_10 rfl (Nat.le_of_ble_eq_true rfl) rfl ?_
  refine z_iconst B (0) dX2_pairingPlace_11 zc_iconst_0 ?_
  refine z_istore B [(4, .int (0)), (3, .int v9), (2, .int (-1)), (0, .ref (adr 0)), (1, .int x1)] dX2_pairingPlace_12 (Nat.le_of_ble_eq_true rfl) rfl ?_
  exact z_loc [3, 4, 2, 1, 0] _ rfl (tE_X2_pairingPlace_14 B N σ x1 (-1) v9 (0) hf)
theorem dX2_openPlace_0 : decode cX2_openPlace 0 = .ok (.iconst 0, 1) := by decide +kernel
theorem dX2_openPlace_1 : decode cX2_openPlace 1 = .ok (.istore_n 1, 1) := by decide +kernel
theorem dX2_openPlace_2 : decode cX2_openPlace 2 = .ok (.iconst 0, 1) := by decide +kernel
theorem dX2_openPlace_3 : decode cX2_openPlace 3 = .ok (.istore_n 2, 1) := by decide +kernel
theorem dX2_openPlace_4 : decode cX2_openPlace 4 = .ok (.iload_n 2, 1) := by decide +kernel
theorem dX2_openPlace_5 : decode cX2_openPlace 5 = .ok (.aload_n 0, 1) := by decide +kernel
theorem dX2_openPlace_6 : decode cX2_openPlace 6 = .ok (.getfield 15, 3) := by decide +kernel
theorem dX2_openPlace_9 : decode cX2_openPlace 9 = .ok (.bipush 6, 2) := by decide +kernel
theorem dX2_openPlace_11 : decode cX2_openPlace 11 = .ok (.iaload, 1) := by decide +kernel
theorem dX2_openPlace_12 : decode cX2_openPlace 12 = .ok (.if_icmp .ge 98, 3) := by decide +kernel
theorem dX2_openPlace_15 : decode cX2_openPlace 15 = .ok (.iload_n 2, 1) := by decide +kernel
theorem dX2_openPlace_16 : decode cX2_openPlace 16 = .ok (.bipush 6, 2) := by decide +kernel
theorem dX2_openPlace_18 : decode cX2_openPlace 18 = .ok (.if_icmp .ge 92, 3) := by decide +kernel
theorem dX2_openPlace_21 : decode cX2_openPlace 21 = .ok (.aload_n 0, 1) := by decide +kernel
theorem dX2_openPlace_22 : decode cX2_openPlace 22 = .ok (.getfield 40, 3) := by decide +kernel
theorem dX2_openPlace_25 : decode cX2_openPlace 25 = .ok (.iload_n 2, 1) := by decide +kernel
theorem dX2_openPlace_26 : decode cX2_openPlace 26 = .ok (.aaload, 1) := by decide +kernel
theorem dX2_openPlace_27 : decode cX2_openPlace 27 = .ok (.astore_n 3, 1) := by decide +kernel
theorem dX2_openPlace_28 : decode cX2_openPlace 28 = .ok (.aload_n 3, 1) := by decide +kernel
theorem dX2_openPlace_29 : decode cX2_openPlace 29 = .ok (.getfield 70, 3) := by decide +kernel
theorem dX2_openPlace_32 : decode cX2_openPlace 32 = .ok (.iconst (-1), 1) := by decide +kernel
theorem dX2_openPlace_33 : decode cX2_openPlace 33 = .ok (.if_icmp .ne 5, 3) := by decide +kernel
theorem dX2_openPlace_36 : decode cX2_openPlace 36 = .ok (.iload_n 2, 1) := by decide +kernel
theorem dX2_openPlace_37 : decode cX2_openPlace 37 = .ok (.ireturn, 1) := by decide +kernel
theorem dX2_openPlace_38 : decode cX2_openPlace 38 = .ok (.aload_n 3, 1) := by decide +kernel
theorem dX2_openPlace_39 : decode cX2_openPlace 39 = .ok (.getfield 183, 3) := by decide +kernel
theorem dX2_openPlace_42 : decode cX2_openPlace 42 = .ok (.ifCond .le 7, 3) := by decide +kernel
theorem dX2_openPlace_45 : decode cX2_openPlace 45 = .ok (.iconst 1, 1) := by decide +kernel
theorem dX2_openPlace_46 : decode cX2_openPlace 46 = .ok (.goto 4, 3) := by decide +kernel
theorem dX2_openPlace_49 : decode cX2_openPlace 49 = .ok (.iconst 0, 1) := by decide +kernel
theorem dX2_openPlace_50 : decode cX2_openPlace 50 = .ok (.istore 4, 2) := by decide +kernel
theorem dX2_openPlace_52 : decode cX2_openPlace 52 = .ok (.aload_n 0, 1) := by decide +kernel
theorem dX2_openPlace_53 : decode cX2_openPlace 53 = .ok (.getfield 40, 3) := by decide +kernel
theorem dX2_openPlace_56 : decode cX2_openPlace 56 = .ok (.iload_n 1, 1) := by decide +kernel
theorem dX2_openPlace_57 : decode cX2_openPlace 57 = .ok (.aaload, 1) := by decide +kernel
theorem dX2_openPlace_58 : decode cX2_openPlace 58 = .ok (.getfield 183, 3) := by decide +kernel
theorem dX2_openPlace_61 : decode cX2_openPlace 61 = .ok (.ifCond .le 7, 3) := by decide +kernel
theorem dX2_openPlace_64 : decode cX2_openPlace 64 = .ok (.iconst 1, 1) := by decide +kernel
theorem dX2_openPlace_65 : decode cX2_openPlace 65 = .ok (.goto 4, 3) := by decide +kernel
theorem dX2_openPlace_68 : decode cX2_openPlace 68 = .ok (.iconst 0, 1) := by decide +kernel
theorem dX2_openPlace_69 : decode cX2_openPlace 69 = .ok (.istore 5, 2) := by decide +kernel
theorem dX2_openPlace_71 : decode cX2_openPlace 71 = .ok (.iload 4, 2) := by decide +kernel
theorem dX2_openPlace_73 : decode cX2_openPlace 73 = .ok (.iload 5, 2) := by decide +kernel
theorem dX2_openPlace_75 : decode cX2_openPlace 75 = .ok (.if_icmp .ne 22, 3) := by decide +kernel
theorem dX2_openPlace_78 : decode cX2_openPlace 78 = .ok (.aload_n 3, 1) := by decide +kernel
theorem dX2_openPlace_79 : decode cX2_openPlace 79 = .ok (.getfield 145, 3) := by decide +kernel
theorem dX2_openPlace_82 : decode cX2_openPlace 82 = .ok (.aload_n 0, 1) := by decide +kernel
theorem dX2_openPlace_83 : decode cX2_openPlace 83 = .ok (.getfield 40, 3) := by decide +kernel
theorem dX2_openPlace_86 : decode cX2_openPlace 86 = .ok (.iload_n 1, 1) := by decide +kernel
theorem dX2_openPlace_87 : decode cX2_openPlace 87 = .ok (.aaload, 1) := by decide +kernel
theorem dX2_openPlace_88 : decode cX2_openPlace 88 = .ok (.getfield 145, 3) := by decide +kernel
theorem dX2_openPlace_91 : decode cX2_openPlace 91 = .ok (.if_icmp .ge 13, 3) := by decide +kernel
theorem dX2_openPlace_94 : decode cX2_openPlace 94 = .ok (.goto 8, 3) := by decide +kernel
theorem dX2_openPlace_97 : decode cX2_openPlace 97 = .ok (.iload 5, 2) := by decide +kernel
theorem dX2_openPlace_99 : decode cX2_openPlace 99 = .ok (.ifCond .eq 5, 3) := by decide +kernel
theorem dX2_openPlace_102 : decode cX2_openPlace 102 = .ok (.iload_n 2, 1) := by decide +kernel
theorem dX2_openPlace_103 : decode cX2_openPlace 103 = .ok (.istore_n 1, 1) := by decide +kernel
theorem dX2_openPlace_104 : decode cX2_openPlace 104 = .ok (.iinc 2 1, 3) := by decide +kernel
theorem dX2_openPlace_107 : decode cX2_openPlace 107 = .ok (.goto (-103), 3) := by decide +kernel
theorem dX2_openPlace_110 : decode cX2_openPlace 110 = .ok (.iload_n 1, 1) := by decide +kernel
theorem dX2_openPlace_111 : decode cX2_openPlace 111 = .ok (.ireturn, 1) := by decide +kernel
def mE_X2_openPlace_110 (N : Nat) (σ : ST) (x1 : Int32) (x2 : Int32) : Option (Int32 × ST) :=
  some (x1, σ)
set_option maxRecDepth 20000 in
set_option maxHeartbeats 2000000 in
theorem tE_X2_openPlace_110 {adr : Nat → Nat} {cI cZ cS : ClassId} {tL tH : Nat} {X : zX} {q : Int32 × ST} (B : zC X 6 (wdE adr cI cZ cS tL tH) cX2_openPlace RX2 (some .int) { frames := 0, cells := 0, slots := 0, locals := 0 }) (N : Nat) (σ : ST) (x1 : Int32) (x2 : Int32) (hf : mE_X2_openPlace_110 N σ x1 x2 = some q) : zJ X 6 (wdE adr cI cZ cS tL tH) (zi q) 110 [(0, .ref (adr 0)), (1, .int x1), (2, .int x2)] [] σ := by
  refine z_iload_n B dX2_openPlace_110 1 rfl rfl ?_
  exact z_ireturn B dX2_openPlace_111 hf
def mE_X2_openPlace_104 (N : Nat) (hd4 : ST → Int32 → Int32 → Option (Int32 × ST)) (σ : ST) (x1 : Int32) (x2 : Int32) (x3 : Fin 6) (x4 : Int32) (x5 : Int32) : Option (Int32 × ST) :=
  zLet (x2 + (1)) fun v104 =>
  hd4 σ x1 v104
set_option maxRecDepth 20000 in
set_option maxHeartbeats 2000000 in
theorem tE_X2_openPlace_104 {adr : Nat → Nat} {cI cZ cS : ClassId} {tL tH : Nat} {X : zX} {q : Int32 × ST} (B : zC X 6 (wdE adr cI cZ cS tL tH) cX2_openPlace RX2 (some .int) { frames := 0, cells := 0, slots := 0, locals := 0 }) (N : Nat) (hd4 : ST → Int32 → Int32 → Option (Int32 × ST)) (hh4 : ∀ (σ : ST) (x1 : Int32) (x2 : Int32), hd4 σ x1 x2 = some q → zJ X 6 (wdE adr cI cZ cS tL tH) (zi q) 4 [(0, .ref (adr 0)), (1, .int x1), (2, .int x2)] [] σ) (σ : ST) (x1 : Int32) (x2 : Int32) (x3 : Fin 6) (x4 : Int32) (x5 : Int32) (hf : mE_X2_openPlace_104 N hd4 σ x1 x2 x3 x4 x5 = some q) : zJ X 6 (wdE adr cI cZ cS tL tH) (zi q) 104 [(0, .ref (adr 0)), (1, .int x1), (2, .int x2), (3, .ref (adr (12 + (x3).val))), (4, .int x4), (5, .int x5)] [] σ := by
  refine z_iinc B (1) 2 (fun v104 => [(2, .int v104), (0, .ref (adr 0)), (1, .int x1), (3, .ref (adr (12 + (x3).val))), (4, .int x4), (5, .int x5)]) dX2_openPlace_104 hf zc_iconst_1 rfl (Nat.le_of_ble_eq_true rfl) (fun _ => rfl) (fun v104 hf => ?_)
  refine z_goto B 4 dX2_openPlace_107 (by decide) ?_
  exact z_loc [1, 2, 0] _ rfl (hh4 σ x1 v104 hf)
def mE_X2_openPlace_102 (N : Nat) (hd4 : ST → Int32 → Int32 → Option (Int32 × ST)) (σ : ST) (x1 : Int32) (x2 : Int32) (x3 : Fin 6) (x4 : Int32) (x5 : Int32) : Option (Int32 × ST) :=
  mE_X2_openPlace_104 N hd4 σ x2 x2 x3 x4 x5
set_option maxRecDepth 20000 in
set_option maxHeartbeats 2000000 in
theorem tE_X2_openPlace_102 {adr : Nat → Nat} {cI cZ cS : ClassId} {tL tH : Nat} {X : zX} {q : Int32 × ST} (B : zC X 6 (wdE adr cI cZ cS tL tH) cX2_openPlace RX2 (some .int) { frames := 0, cells := 0, slots := 0, locals := 0 }) (N : Nat) (hd4 : ST → Int32 → Int32 → Option (Int32 × ST)) (hh4 : ∀ (σ : ST) (x1 : Int32) (x2 : Int32), hd4 σ x1 x2 = some q → zJ X 6 (wdE adr cI cZ cS tL tH) (zi q) 4 [(0, .ref (adr 0)), (1, .int x1), (2, .int x2)] [] σ) (σ : ST) (x1 : Int32) (x2 : Int32) (x3 : Fin 6) (x4 : Int32) (x5 : Int32) (hf : mE_X2_openPlace_102 N hd4 σ x1 x2 x3 x4 x5 = some q) : zJ X 6 (wdE adr cI cZ cS tL tH) (zi q) 102 [(0, .ref (adr 0)), (1, .int x1), (2, .int x2), (3, .ref (adr (12 + (x3).val))), (4, .int x4), (5, .int x5)] [] σ := by
  refine z_iload_n B dX2_openPlace_102 2 rfl rfl ?_
  refine z_istore_n B [(1, .int x2), (0, .ref (adr 0)), (2, .int x2), (3, .ref (adr (12 + (x3).val))), (4, .int x4), (5, .int x5)] dX2_openPlace_103 rfl (Nat.le_of_ble_eq_true rfl) rfl ?_
  exact z_loc [1, 0, 2, 3, 4, 5] _ rfl (tE_X2_openPlace_104 B N hd4 hh4 σ x2 x2 x3 x4 x5 hf)
def mE_X2_openPlace_69 (N : Nat) (hd4 : ST → Int32 → Int32 → Option (Int32 × ST)) (σ : ST) (x1 : Int32) (x2 : Int32) (x3 : Fin 6) (x4 : Int32) (k0 : Int32) : Option (Int32 × ST) :=
  if (x4 : Int32) = k0 then
    zLet (σ (12 + (x3).val) 7) fun v79 =>
    zGet6 x1 fun v87 =>
    zLet (σ (12 + (v87).val) 7) fun v88 =>
    if (v88 : Int32) ≤ v79 then
      mE_X2_openPlace_104 N hd4 σ x1 x2 x3 x4 k0
    else
      mE_X2_openPlace_102 N hd4 σ x1 x2 x3 x4 k0
  else
    if (k0 : Int32) = 0 then
      mE_X2_openPlace_104 N hd4 σ x1 x2 x3 x4 k0
    else
      mE_X2_openPlace_102 N hd4 σ x1 x2 x3 x4 k0
set_option maxRecDepth 20000 in
set_option maxHeartbeats 2000000 in
theorem tE_X2_openPlace_69 {adr : Nat → Nat} {cI cZ cS : ClassId} {tL tH : Nat} {X : zX} {q : Int32 × ST} (B : zC X 6 (wdE adr cI cZ cS tL tH) cX2_openPlace RX2 (some .int) { frames := 0, cells := 0, slots := 0, locals := 0 }) (N : Nat) (hd4 : ST → Int32 → Int32 → Option (Int32 × ST)) (hh4 : ∀ (σ : ST) (x1 : Int32) (x2 : Int32), hd4 σ x1 x2 = some q → zJ X 6 (wdE adr cI cZ cS tL tH) (zi q) 4 [(0, .ref (adr 0)), (1, .int x1), (2, .int x2)] [] σ) (σ : ST) (x1 : Int32) (x2 : Int32) (x3 : Fin 6) (x4 : Int32) (k0 : Int32) (hf : mE_X2_openPlace_69 N hd4 σ x1 x2 x3 x4 k0 = some q) : zJ X 6 (wdE adr cI cZ cS tL tH) (zi q) 69 [(0, .ref (adr 0)), (1, .int x1), (2, .int x2), (3, .ref (adr (12 + (x3).val))), (4, .int x4)] [.int k0] σ := by
  refine z_istore B [(5, .int k0), (0, .ref (adr 0)), (1, .int x1), (2, .int x2), (3, .ref (adr (12 + (x3).val))), (4, .int x4)] dX2_openPlace_69 (Nat.le_of_ble_eq_true rfl) rfl ?_
  refine z_iload B dX2_openPlace_71 5 rfl ?_
  refine z_iload B dX2_openPlace_73 0 rfl ?_
  refine z_icmp_ne B 97 dX2_openPlace_75 (by decide) hf (fun hf => ?_) (fun hf => ?_)
  · refine z_iload B dX2_openPlace_97 0 rfl ?_
    refine z_if_eq B 104 dX2_openPlace_99 (by decide) hf (fun hf => ?_) (fun hf => ?_)
    · exact z_loc [1, 2, 3, 4, 5, 0] _ rfl (tE_X2_openPlace_104 B N hd4 hh4 σ x1 x2 x3 x4 k0 hf)
    · exact z_loc [1, 2, 3, 4, 5, 0] _ rfl (tE_X2_openPlace_102 B N hd4 hh4 σ x1 x2 x3 x4 k0 hf)
  · refine z_aload_n B dX2_openPlace_78 4 rfl rfl ?_
    refine fE_g_X2_S_used B x3 dX2_openPlace_79 hf (fun v79 hf => ?_)
    refine z_aload_n B dX2_openPlace_82 1 rfl rfl ?_
    refine fE_g_X2_E_streams B dX2_openPlace_83 ?_
    refine z_iload_n B dX2_openPlace_86 2 rfl rfl ?_
    refine fE_streams B dX2_openPlace_87 hf (fun v87 hf => ?_)
    refine fE_g_X2_S_used B v87 dX2_openPlace_88 hf (fun v88 hf => ?_)
    refine z_icmp_ge B 104 dX2_openPlace_91 (by decide) hf (fun hf => ?_) (fun hf => ?_)
    · exact z_loc [1, 2, 3, 4, 5, 0] _ rfl (tE_X2_openPlace_104 B N hd4 hh4 σ x1 x2 x3 x4 k0 hf)
    · refine z_goto B 102 dX2_openPlace_94 (by decide) ?_
      exact z_loc [1, 2, 3, 4, 5, 0] _ rfl (tE_X2_openPlace_102 B N hd4 hh4 σ x1 x2 x3 x4 k0 hf)
def mE_X2_openPlace_50 (N : Nat) (hd4 : ST → Int32 → Int32 → Option (Int32 × ST)) (σ : ST) (x1 : Int32) (x2 : Int32) (x3 : Fin 6) (k0 : Int32) : Option (Int32 × ST) :=
  zGet6 x1 fun v57 =>
  zLet (σ (12 + (v57).val) 4) fun v58 =>
  if (v58 : Int32) ≤ 0 then
    mE_X2_openPlace_69 N hd4 σ x1 x2 x3 k0 (0)
  else
    mE_X2_openPlace_69 N hd4 σ x1 x2 x3 k0 (1)
set_option maxRecDepth 20000 in
set_option maxHeartbeats 2000000 in
theorem tE_X2_openPlace_50 {adr : Nat → Nat} {cI cZ cS : ClassId} {tL tH : Nat} {X : zX} {q : Int32 × ST} (B : zC X 6 (wdE adr cI cZ cS tL tH) cX2_openPlace RX2 (some .int) { frames := 0, cells := 0, slots := 0, locals := 0 }) (N : Nat) (hd4 : ST → Int32 → Int32 → Option (Int32 × ST)) (hh4 : ∀ (σ : ST) (x1 : Int32) (x2 : Int32), hd4 σ x1 x2 = some q → zJ X 6 (wdE adr cI cZ cS tL tH) (zi q) 4 [(0, .ref (adr 0)), (1, .int x1), (2, .int x2)] [] σ) (σ : ST) (x1 : Int32) (x2 : Int32) (x3 : Fin 6) (k0 : Int32) (hf : mE_X2_openPlace_50 N hd4 σ x1 x2 x3 k0 = some q) : zJ X 6 (wdE adr cI cZ cS tL tH) (zi q) 50 [(0, .ref (adr 0)), (1, .int x1), (2, .int x2), (3, .ref (adr (12 + (x3).val)))] [.int k0] σ := by
  refine z_istore B [(4, .int k0), (0, .ref (adr 0)), (1, .int x1), (2, .int x2), (3, .ref (adr (12 + (x3).val)))] dX2_openPlace_50 (Nat.le_of_ble_eq_true rfl) rfl ?_
  refine z_aload_n B dX2_openPlace_52 1 rfl rfl ?_
  refine fE_g_X2_E_streams B dX2_openPlace_53 ?_
  refine z_iload_n B dX2_openPlace_56 2 rfl rfl ?_
  refine fE_streams B dX2_openPlace_57 hf (fun v57 hf => ?_)
  refine fE_g_X2_S_window B v57 dX2_openPlace_58 hf (fun v58 hf => ?_)
  refine z_if_le B 68 dX2_openPlace_61 (by decide) hf (fun hf => ?_) (fun hf => ?_)
  · refine z_iconst B (0) dX2_openPlace_68 zc_iconst_0 ?_
    exact z_loc [1, 2, 3, 4, 0] _ rfl (tE_X2_openPlace_69 B N hd4 hh4 σ x1 x2 x3 k0 (0) hf)
  · refine z_iconst B (1) dX2_openPlace_64 zc_iconst_1 ?_
    refine z_goto B 69 dX2_openPlace_65 (by decide) ?_
    exact z_loc [1, 2, 3, 4, 0] _ rfl (tE_X2_openPlace_69 B N hd4 hh4 σ x1 x2 x3 k0 (1) hf)
def mE_X2_openPlace_B4 (N : Nat) (hd4 : ST → Int32 → Int32 → Option (Int32 × ST)) (σ : ST) (x1 : Int32) (x2 : Int32) : Option (Int32 × ST) :=
  zGet (σ 1) 10 (6) fun v11 =>
  if (v11 : Int32) ≤ x2 then
    mE_X2_openPlace_110 N σ x1 x2
  else
    if ((6) : Int32) ≤ x2 then
      mE_X2_openPlace_110 N σ x1 x2
    else
      zGet6 x2 fun v26 =>
      zLet (σ (12 + (v26).val) 0) fun v29 =>
      if (v29 : Int32) = (-1) then
        some (x2, σ)
      else
        zLet (σ (12 + (v26).val) 4) fun v39 =>
        if (v39 : Int32) ≤ 0 then
          mE_X2_openPlace_50 N hd4 σ x1 x2 v26 (0)
        else
          mE_X2_openPlace_50 N hd4 σ x1 x2 v26 (1)
def mE_X2_openPlace_4 (N : Nat) : ST → Int32 → Int32 → Option (Int32 × ST) := zIt (mE_X2_openPlace_B4 N) (fun _ _ _ => none) N
set_option maxRecDepth 20000 in
set_option maxHeartbeats 2000000 in
theorem tE_X2_openPlace_4 {adr : Nat → Nat} {cI cZ cS : ClassId} {tL tH : Nat} {X : zX} {q : Int32 × ST} (B : zC X 6 (wdE adr cI cZ cS tL tH) cX2_openPlace RX2 (some .int) { frames := 0, cells := 0, slots := 0, locals := 0 }) (N : Nat) : ∀ (σ : ST) (x1 : Int32) (x2 : Int32), mE_X2_openPlace_4 N σ x1 x2 = some q → zJ X 6 (wdE adr cI cZ cS tL tH) (zi q) 4 [(0, .ref (adr 0)), (1, .int x1), (2, .int x2)] [] σ := by
  refine zIt_ind (P := fun (hd : ST → Int32 → Int32 → Option (Int32 × ST)) => ∀ (σ : ST) (x1 : Int32) (x2 : Int32), hd σ x1 x2 = some q → zJ X 6 (wdE adr cI cZ cS tL tH) (zi q) 4 [(0, .ref (adr 0)), (1, .int x1), (2, .int x2)] [] σ) (fun _ _ _ hf => by cases hf) (fun hd4 hh4 => ?_) N
  intro σ x1 x2 hf
  refine z_iload_n B dX2_openPlace_4 2 rfl rfl ?_
  refine z_aload_n B dX2_openPlace_5 0 rfl rfl ?_
  refine fE_g_X2_E_terms B dX2_openPlace_6 ?_
  refine z_bipush B (6) dX2_openPlace_9 zc_bipush_6 ?_
  refine fE_l_E_terms B dX2_openPlace_11 hf (fun v11 hf => ?_)
  refine z_icmp_ge B 110 dX2_openPlace_12 (by decide) hf (fun hf => ?_) (fun hf => ?_)
  · exact tE_X2_openPlace_110 B N σ x1 x2 hf
  · refine z_iload_n B dX2_openPlace_15 2 rfl rfl ?_
    refine z_bipush B (6) dX2_openPlace_16 zc_bipush_6 ?_
    refine z_icmp_ge B 110 dX2_openPlace_18 (by decide) hf (fun hf => ?_) (fun hf => ?_)
    · exact tE_X2_openPlace_110 B N σ x1 x2 hf
    · refine z_aload_n B dX2_openPlace_21 0 rfl rfl ?_
      refine fE_g_X2_E_streams B dX2_openPlace_22 ?_
      refine z_iload_n B dX2_openPlace_25 2 rfl rfl ?_
      refine fE_streams B dX2_openPlace_26 hf (fun v26 hf => ?_)
      refine z_astore_n B [(3, .ref (adr (12 + (v26).val))), (0, .ref (adr 0)), (1, .int x1), (2, .int x2)] dX2_openPlace_27 rfl (Nat.le_of_ble_eq_true rfl) rfl ?_
      refine z_aload_n B dX2_openPlace_28 0 rfl rfl ?_
      refine fE_g_X2_S_number B v26 dX2_openPlace_29 hf (fun v29 hf => ?_)
      refine z_iconst B (-1) dX2_openPlace_32 zc_iconst_m1 ?_
      refine z_icmp_ne B 38 dX2_openPlace_33 (by decide) hf (fun hf => ?_) (fun hf => ?_)
      · refine z_aload_n B dX2_openPlace_38 0 rfl rfl ?_
        refine fE_g_X2_S_window B v26 dX2_openPlace_39 hf (fun v39 hf => ?_)
        refine z_if_le B 49 dX2_openPlace_42 (by decide) hf (fun hf => ?_) (fun hf => ?_)
        · refine z_iconst B (0) dX2_openPlace_49 zc_iconst_0 ?_
          exact z_loc [1, 2, 3, 0] _ rfl (tE_X2_openPlace_50 B N hd4 hh4 σ x1 x2 v26 (0) hf)
        · refine z_iconst B (1) dX2_openPlace_45 zc_iconst_1 ?_
          refine z_goto B 50 dX2_openPlace_46 (by decide) ?_
          exact z_loc [1, 2, 3, 0] _ rfl (tE_X2_openPlace_50 B N hd4 hh4 σ x1 x2 v26 (1) hf)
      · refine z_iload_n B dX2_openPlace_36 3 rfl rfl ?_
        exact z_ireturn B dX2_openPlace_37 hf
def mE_X2_openPlace (N : Nat) (σ : ST) : Option (Int32 × ST) :=
  mE_X2_openPlace_4 N σ (0) (0)
set_option maxRecDepth 20000 in
set_option maxHeartbeats 2000000 in
theorem cE_X2_openPlace {adr : Nat → Nat} {cI cZ cS : ClassId} {tL tH : Nat} {l : Launch} {D : va_G} {N : Nat} {σ : ST} (q : Int32 × ST) (hf : mE_X2_openPlace N σ = some q) : zM l D (wdE adr cI cZ cS tL tH) yX2_openPlace cX2_openPlace 6 (some .int) ({ frames := 0, cells := 0, slots := 0, locals := 0 }) [.ref (adr 0)] σ (zi q) := by
  refine zM_of sfE_ok rfl (Nat.le_of_ble_eq_true rfl) [(0, .ref (adr 0))] rfl (fun X hX1 hX2 B => ?_)
  have B : zC X 6 (wdE adr cI cZ cS tL tH) cX2_openPlace RX2 (some .int) { frames := 0, cells := 0, slots := 0, locals := 0 } := B
  refine z_iconst B (0) dX2_openPlace_0 zc_iconst_0 ?_
  refine z_istore_n B [(1, .int (0)), (0, .ref (adr 0))] dX2_openPlace_1 rfl (Nat.le_of_ble_eq_true rfl) rfl ?_
  refine z_iconst B (0) dX2_openPlace_2 zc_iconst_0 ?_
  refine z_istore_n B [(2, .int (0)), (1, .int (0)), (0, .ref (adr 0))] dX2_openPlace_3 rfl (Nat.le_of_ble_eq_true rfl) rfl ?_
  exact z_loc [2, 1, 0] _ rfl (tE_X2_openPlace_4 B N σ (0) (0) hf)
theorem dX4_begin_0 : decode cX4_begin 0 = .ok (.aload_n 0, 1) := by decide +kernel
theorem dX4_begin_1 : decode cX4_begin 1 = .ok (.iload_n 1, 1) := by decide +kernel
theorem dX4_begin_2 : decode cX4_begin 2 = .ok (.putfield 9, 3) := by decide +kernel
theorem dX4_begin_5 : decode cX4_begin 5 = .ok (.aload_n 0, 1) := by decide +kernel
theorem dX4_begin_6 : decode cX4_begin 6 = .ok (.iload_n 2, 1) := by decide +kernel
theorem dX4_begin_7 : decode cX4_begin 7 = .ok (.putfield 18, 3) := by decide +kernel
theorem dX4_begin_10 : decode cX4_begin 10 = .ok (.aload_n 0, 1) := by decide +kernel
theorem dX4_begin_11 : decode cX4_begin 11 = .ok (.iconst 0, 1) := by decide +kernel
theorem dX4_begin_12 : decode cX4_begin 12 = .ok (.putfield 21, 3) := by decide +kernel
theorem dX4_begin_15 : decode cX4_begin 15 = .ok (.aload_n 0, 1) := by decide +kernel
theorem dX4_begin_16 : decode cX4_begin 16 = .ok (.iconst 0, 1) := by decide +kernel
theorem dX4_begin_17 : decode cX4_begin 17 = .ok (.putfield 24, 3) := by decide +kernel
theorem dX4_begin_20 : decode cX4_begin 20 = .ok (.aload_n 0, 1) := by decide +kernel
theorem dX4_begin_21 : decode cX4_begin 21 = .ok (.iconst 0, 1) := by decide +kernel
theorem dX4_begin_22 : decode cX4_begin 22 = .ok (.putfield 27, 3) := by decide +kernel
theorem dX4_begin_25 : decode cX4_begin 25 = .ok (.aload_n 0, 1) := by decide +kernel
theorem dX4_begin_26 : decode cX4_begin 26 = .ok (.iload_n 2, 1) := by decide +kernel
theorem dX4_begin_27 : decode cX4_begin 27 = .ok (.putfield 30, 3) := by decide +kernel
theorem dX4_begin_30 : decode cX4_begin 30 = .ok (.aload_n 0, 1) := by decide +kernel
theorem dX4_begin_31 : decode cX4_begin 31 = .ok (.iconst (-1), 1) := by decide +kernel
theorem dX4_begin_32 : decode cX4_begin 32 = .ok (.putfield 15, 3) := by decide +kernel
theorem dX4_begin_35 : decode cX4_begin 35 = .ok (.aload_n 0, 1) := by decide +kernel
theorem dX4_begin_36 : decode cX4_begin 36 = .ok (.iconst 0, 1) := by decide +kernel
theorem dX4_begin_37 : decode cX4_begin 37 = .ok (.putfield 33, 3) := by decide +kernel
theorem dX4_begin_40 : decode cX4_begin 40 = .ok (.aload_n 0, 1) := by decide +kernel
theorem dX4_begin_41 : decode cX4_begin 41 = .ok (.iconst 0, 1) := by decide +kernel
theorem dX4_begin_42 : decode cX4_begin 42 = .ok (.putfield 36, 3) := by decide +kernel
theorem dX4_begin_45 : decode cX4_begin 45 = .ok (.aload_n 0, 1) := by decide +kernel
theorem dX4_begin_46 : decode cX4_begin 46 = .ok (.iconst 0, 1) := by decide +kernel
theorem dX4_begin_47 : decode cX4_begin 47 = .ok (.putfield 39, 3) := by decide +kernel
theorem dX4_begin_50 : decode cX4_begin 50 = .ok (.aload_n 0, 1) := by decide +kernel
theorem dX4_begin_51 : decode cX4_begin 51 = .ok (.iconst 0, 1) := by decide +kernel
theorem dX4_begin_52 : decode cX4_begin 52 = .ok (.putfield 42, 3) := by decide +kernel
theorem dX4_begin_55 : decode cX4_begin 55 = .ok (.return_, 1) := by decide +kernel
def mE_X4_begin (N : Nat) (σ : ST) (x0 : Fin 6) (x1 : Int32) (x2 : Int32) : Option (ST) :=
  zLet (zUp σ (12 + (x0).val) 0 x1) fun s2 =>
  zLet (zUp s2 (12 + (x0).val) 1 x2) fun s7 =>
  zLet (zUp s7 (12 + (x0).val) 2 (0)) fun s12 =>
  zLet (zUp s12 (12 + (x0).val) 3 (0)) fun s17 =>
  zLet (zUp s17 (12 + (x0).val) 4 (0)) fun s22 =>
  zLet (zUp s22 (12 + (x0).val) 5 x2) fun s27 =>
  zLet (zUp s27 (12 + (x0).val) 6 (-1)) fun s32 =>
  zLet (zUp s32 (12 + (x0).val) 7 (0)) fun s37 =>
  zLet (zUp s37 (12 + (x0).val) 8 (0)) fun s42 =>
  zLet (zUp s42 (12 + (x0).val) 9 (0)) fun s47 =>
  zLet (zUp s47 (12 + (x0).val) 10 (0)) fun s52 =>
  some s52
set_option maxRecDepth 20000 in
set_option maxHeartbeats 2000000 in
theorem cE_X4_begin {adr : Nat → Nat} {cI cZ cS : ClassId} {tL tH : Nat} {l : Launch} {D : va_G} {N : Nat} {σ : ST} {x0 : Fin 6} {x1 : Int32} {x2 : Int32} (q : ST) (hf : mE_X4_begin N σ x0 x1 x2 = some q) : zM l D (wdE adr cI cZ cS tL tH) yX4_begin cX4_begin 3 none ({ frames := 0, cells := 0, slots := 0, locals := 0 }) [.ref (adr (12 + (x0).val)), .int x1, .int x2] σ (zu q) := by
  refine zM_of sfE_ok rfl (Nat.le_of_ble_eq_true rfl) [(0, .ref (adr (12 + (x0).val))), (1, .int x1), (2, .int x2)] rfl (fun X hX1 hX2 B => ?_)
  have B : zC X 3 (wdE adr cI cZ cS tL tH) cX4_begin RX4 none { frames := 0, cells := 0, slots := 0, locals := 0 } := B
  refine z_aload_n B dX4_begin_0 0 rfl rfl ?_
  refine z_iload_n B dX4_begin_1 1 rfl rfl ?_
  refine fE_p_X4_S_number B x0 dX4_begin_2 hf (fun s2 hf => ?_)
  refine z_aload_n B dX4_begin_5 0 rfl rfl ?_
  refine z_iload_n B dX4_begin_6 2 rfl rfl ?_
  refine fE_p_X4_S_last B x0 dX4_begin_7 hf (fun s7 hf => ?_)
  refine z_aload_n B dX4_begin_10 0 rfl rfl ?_
  refine z_iconst B (0) dX4_begin_11 zc_iconst_0 ?_
  refine fE_p_X4_S_stride B x0 dX4_begin_12 hf (fun s12 hf => ?_)
  refine z_aload_n B dX4_begin_15 0 rfl rfl ?_
  refine z_iconst B (0) dX4_begin_16 zc_iconst_0 ?_
  refine fE_p_X4_S_proof B x0 dX4_begin_17 hf (fun s17 hf => ?_)
  refine z_aload_n B dX4_begin_20 0 rfl rfl ?_
  refine z_iconst B (0) dX4_begin_21 zc_iconst_0 ?_
  refine fE_p_X4_S_window B x0 dX4_begin_22 hf (fun s22 hf => ?_)
  refine z_aload_n B dX4_begin_25 0 rfl rfl ?_
  refine z_iload_n B dX4_begin_26 2 rfl rfl ?_
  refine fE_p_X4_S_edge B x0 dX4_begin_27 hf (fun s27 hf => ?_)
  refine z_aload_n B dX4_begin_30 0 rfl rfl ?_
  refine z_iconst B (-1) dX4_begin_31 zc_iconst_m1 ?_
  refine fE_p_X4_S_marker B x0 dX4_begin_32 hf (fun s32 hf => ?_)
  refine z_aload_n B dX4_begin_35 0 rfl rfl ?_
  refine z_iconst B (0) dX4_begin_36 zc_iconst_0 ?_
  refine fE_p_X4_S_used B x0 dX4_begin_37 hf (fun s37 hf => ?_)
  refine z_aload_n B dX4_begin_40 0 rfl rfl ?_
  refine z_iconst B (0) dX4_begin_41 zc_iconst_0 ?_
  refine fE_p_X4_S_fetched B x0 dX4_begin_42 hf (fun s42 hf => ?_)
  refine z_aload_n B dX4_begin_45 0 rfl rfl ?_
  refine z_iconst B (0) dX4_begin_46 zc_iconst_0 ?_
  refine fE_p_X4_S_hits B x0 dX4_begin_47 hf (fun s47 hf => ?_)
  refine z_aload_n B dX4_begin_50 0 rfl rfl ?_
  refine z_iconst B (0) dX4_begin_51 zc_iconst_0 ?_
  refine fE_p_X4_S_wasted B x0 dX4_begin_52 hf (fun s52 hf => ?_)
  exact z_return B dX4_begin_55 hf
theorem dX2_settle_0 : decode cX2_settle 0 = .ok (.iload_n 1, 1) := by decide +kernel
theorem dX2_settle_1 : decode cX2_settle 1 = .ok (.ifCond .lt 37, 3) := by decide +kernel
theorem dX2_settle_4 : decode cX2_settle 4 = .ok (.iload_n 1, 1) := by decide +kernel
theorem dX2_settle_5 : decode cX2_settle 5 = .ok (.bipush 6, 2) := by decide +kernel
theorem dX2_settle_7 : decode cX2_settle 7 = .ok (.if_icmp .ge 31, 3) := by decide +kernel
theorem dX2_settle_10 : decode cX2_settle 10 = .ok (.aload_n 0, 1) := by decide +kernel
theorem dX2_settle_11 : decode cX2_settle 11 = .ok (.getfield 40, 3) := by decide +kernel
theorem dX2_settle_14 : decode cX2_settle 14 = .ok (.iload_n 1, 1) := by decide +kernel
theorem dX2_settle_15 : decode cX2_settle 15 = .ok (.aaload, 1) := by decide +kernel
theorem dX2_settle_16 : decode cX2_settle 16 = .ok (.aload_n 0, 1) := by decide +kernel
theorem dX2_settle_17 : decode cX2_settle 17 = .ok (.getfield 28, 3) := by decide +kernel
theorem dX2_settle_20 : decode cX2_settle 20 = .ok (.bipush 14, 2) := by decide +kernel
theorem dX2_settle_22 : decode cX2_settle 22 = .ok (.iaload, 1) := by decide +kernel
theorem dX2_settle_23 : decode cX2_settle 23 = .ok (.iload_n 2, 1) := by decide +kernel
theorem dX2_settle_24 : decode cX2_settle 24 = .ok (.invokevirtual 236, 3) := by decide +kernel
theorem dX2_settle_27 : decode cX2_settle 27 = .ok (.aload_n 0, 1) := by decide +kernel
theorem dX2_settle_28 : decode cX2_settle 28 = .ok (.getfield 28, 3) := by decide +kernel
theorem dX2_settle_31 : decode cX2_settle 31 = .ok (.bipush 14, 2) := by decide +kernel
theorem dX2_settle_33 : decode cX2_settle 33 = .ok (.dup2, 1) := by decide +kernel
theorem dX2_settle_34 : decode cX2_settle 34 = .ok (.iaload, 1) := by decide +kernel
theorem dX2_settle_35 : decode cX2_settle 35 = .ok (.iconst 1, 1) := by decide +kernel
theorem dX2_settle_36 : decode cX2_settle 36 = .ok (.iadd, 1) := by decide +kernel
theorem dX2_settle_37 : decode cX2_settle 37 = .ok (.iastore, 1) := by decide +kernel
theorem dX2_settle_38 : decode cX2_settle 38 = .ok (.return_, 1) := by decide +kernel
def mE_X2_settle_38 (N : Nat) (σ : ST) (x1 : Int32) (x2 : Int32) : Option (ST) :=
  some σ
set_option maxRecDepth 20000 in
set_option maxHeartbeats 2000000 in
theorem tE_X2_settle_38 {adr : Nat → Nat} {cI cZ cS : ClassId} {tL tH : Nat} {X : zX} {q : ST} (B : zC X 3 (wdE adr cI cZ cS tL tH) cX2_settle RX2 none { frames := 1, cells := 0, slots := 0, locals := 22 }) (N : Nat) (σ : ST) (x1 : Int32) (x2 : Int32) (hf : mE_X2_settle_38 N σ x1 x2 = some q) : zJ X 3 (wdE adr cI cZ cS tL tH) (zu q) 38 [(0, .ref (adr 0)), (1, .int x1), (2, .int x2)] [] σ := by
  exact z_return B dX2_settle_38 hf
def mE_X2_settle (N : Nat) (σ : ST) (x1 : Int32) (x2 : Int32) : Option (ST) :=
  if (x1 : Int32) < 0 then
    mE_X2_settle_38 N σ x1 x2
  else
    if ((6) : Int32) ≤ x1 then
      mE_X2_settle_38 N σ x1 x2
    else
      zGet6 x1 fun v15 =>
      zGet (σ 2) 34 (14) fun v22 =>
      zCallu (mE_X4_begin N σ v15 v22 x2) fun s24 =>
      zGet (s24 2) 34 (14) fun v34 =>
      zLet ((v34 : Int32) + (1)) fun v36 =>
      zSet s24 2 34 (14) v36 fun s37 =>
      mE_X2_settle_38 N s37 x1 x2
set_option maxRecDepth 20000 in
set_option maxHeartbeats 2000000 in
theorem cE_X2_settle {adr : Nat → Nat} {cI cZ cS : ClassId} {tL tH : Nat} {l : Launch} {D : va_G} {N : Nat} {σ : ST} {x1 : Int32} {x2 : Int32} (q : ST) (hf : mE_X2_settle N σ x1 x2 = some q) : zM l D (wdE adr cI cZ cS tL tH) yX2_settle cX2_settle 3 none ({ frames := 1, cells := 0, slots := 0, locals := 22 }) [.ref (adr 0), .int x1, .int x2] σ (zu q) := by
  refine zM_of sfE_ok rfl (Nat.le_of_ble_eq_true rfl) [(0, .ref (adr 0)), (1, .int x1), (2, .int x2)] rfl (fun X hX1 hX2 B => ?_)
  have B : zC X 3 (wdE adr cI cZ cS tL tH) cX2_settle RX2 none { frames := 1, cells := 0, slots := 0, locals := 22 } := B
  refine z_iload_n B dX2_settle_0 1 rfl rfl ?_
  refine z_if_lt B 38 dX2_settle_1 (by decide) hf (fun hf => ?_) (fun hf => ?_)
  · exact tE_X2_settle_38 B N σ x1 x2 hf
  · refine z_iload_n B dX2_settle_4 1 rfl rfl ?_
    refine z_bipush B (6) dX2_settle_5 zc_bipush_6 ?_
    refine z_icmp_ge B 38 dX2_settle_7 (by decide) hf (fun hf => ?_) (fun hf => ?_)
    · exact tE_X2_settle_38 B N σ x1 x2 hf
    · refine z_aload_n B dX2_settle_10 0 rfl rfl ?_
      refine fE_g_X2_E_streams B dX2_settle_11 ?_
      refine z_iload_n B dX2_settle_14 1 rfl rfl ?_
      refine fE_streams B dX2_settle_15 hf (fun v15 hf => ?_)
      refine z_aload_n B dX2_settle_16 0 rfl rfl ?_
      refine fE_g_X2_E_counts B dX2_settle_17 ?_
      refine z_bipush B (14) dX2_settle_20 zc_bipush_14 ?_
      refine fE_l_E_counts B dX2_settle_22 hf (fun v22 hf => ?_)
      refine z_iload_n B dX2_settle_23 2 rfl rfl ?_
      refine z_callVu B (As := [.int v22, .int x2]) kcV_X2_236 dX2_settle_24 hf (fun q hq => cE_X4_begin q hq) (wE_o_S (adr := adr) (cI := cI) (cZ := cZ) (cS := cS) (tL := tL) (tH := tH) v15) rfl rfl rfl rfl (Nat.le_of_ble_eq_true rfl) rfl rfl ⟨Nat.le_of_ble_eq_true rfl, Nat.le_of_ble_eq_true rfl⟩ (fun s24 hf => ?_)
      refine z_aload_n B dX2_settle_27 0 rfl rfl ?_
      refine fE_g_X2_E_counts B dX2_settle_28 ?_
      refine z_bipush B (14) dX2_settle_31 zc_bipush_14 ?_
      refine z_dup2 B dX2_settle_33 rfl rfl ?_
      refine fE_l_E_counts B dX2_settle_34 hf (fun v34 hf => ?_)
      refine z_iconst B (1) dX2_settle_35 zc_iconst_1 ?_
      refine z_iadd B dX2_settle_36 hf (fun v36 hf => ?_)
      refine fE_s_E_counts B dX2_settle_37 hf (fun s37 hf => ?_)
      exact tE_X2_settle_38 B N s37 x1 x2 hf
theorem dX4_pair_0 : decode cX4_pair 0 = .ok (.aload_n 0, 1) := by decide +kernel
theorem dX4_pair_1 : decode cX4_pair 1 = .ok (.iload_n 1, 1) := by decide +kernel
theorem dX4_pair_2 : decode cX4_pair 2 = .ok (.aload_n 0, 1) := by decide +kernel
theorem dX4_pair_3 : decode cX4_pair 3 = .ok (.getfield 18, 3) := by decide +kernel
theorem dX4_pair_6 : decode cX4_pair 6 = .ok (.isub, 1) := by decide +kernel
theorem dX4_pair_7 : decode cX4_pair 7 = .ok (.putfield 21, 3) := by decide +kernel
theorem dX4_pair_10 : decode cX4_pair 10 = .ok (.aload_n 0, 1) := by decide +kernel
theorem dX4_pair_11 : decode cX4_pair 11 = .ok (.iconst 1, 1) := by decide +kernel
theorem dX4_pair_12 : decode cX4_pair 12 = .ok (.putfield 24, 3) := by decide +kernel
theorem dX4_pair_15 : decode cX4_pair 15 = .ok (.aload_n 0, 1) := by decide +kernel
theorem dX4_pair_16 : decode cX4_pair 16 = .ok (.iload_n 1, 1) := by decide +kernel
theorem dX4_pair_17 : decode cX4_pair 17 = .ok (.putfield 18, 3) := by decide +kernel
theorem dX4_pair_20 : decode cX4_pair 20 = .ok (.return_, 1) := by decide +kernel
def mE_X4_pair (N : Nat) (σ : ST) (x0 : Fin 6) (x1 : Int32) : Option (ST) :=
  zLet (σ (12 + (x0).val) 1) fun v3 =>
  zLet ((x1 : Int32) - v3) fun v6 =>
  zLet (zUp σ (12 + (x0).val) 2 v6) fun s7 =>
  zLet (zUp s7 (12 + (x0).val) 3 (1)) fun s12 =>
  zLet (zUp s12 (12 + (x0).val) 1 x1) fun s17 =>
  some s17
set_option maxRecDepth 20000 in
set_option maxHeartbeats 2000000 in
theorem cE_X4_pair {adr : Nat → Nat} {cI cZ cS : ClassId} {tL tH : Nat} {l : Launch} {D : va_G} {N : Nat} {σ : ST} {x0 : Fin 6} {x1 : Int32} (q : ST) (hf : mE_X4_pair N σ x0 x1 = some q) : zM l D (wdE adr cI cZ cS tL tH) yX4_pair cX4_pair 2 none ({ frames := 0, cells := 0, slots := 0, locals := 0 }) [.ref (adr (12 + (x0).val)), .int x1] σ (zu q) := by
  refine zM_of sfE_ok rfl (Nat.le_of_ble_eq_true rfl) [(0, .ref (adr (12 + (x0).val))), (1, .int x1)] rfl (fun X hX1 hX2 B => ?_)
  have B : zC X 2 (wdE adr cI cZ cS tL tH) cX4_pair RX4 none { frames := 0, cells := 0, slots := 0, locals := 0 } := B
  refine z_aload_n B dX4_pair_0 0 rfl rfl ?_
  refine z_iload_n B dX4_pair_1 1 rfl rfl ?_
  refine z_aload_n B dX4_pair_2 0 rfl rfl ?_
  refine fE_g_X4_S_last B x0 dX4_pair_3 hf (fun v3 hf => ?_)
  refine z_isub B dX4_pair_6 hf (fun v6 hf => ?_)
  refine fE_p_X4_S_stride B x0 dX4_pair_7 hf (fun s7 hf => ?_)
  refine z_aload_n B dX4_pair_10 0 rfl rfl ?_
  refine z_iconst B (1) dX4_pair_11 zc_iconst_1 ?_
  refine fE_p_X4_S_proof B x0 dX4_pair_12 hf (fun s12 hf => ?_)
  refine z_aload_n B dX4_pair_15 0 rfl rfl ?_
  refine z_iload_n B dX4_pair_16 1 rfl rfl ?_
  refine fE_p_X4_S_last B x0 dX4_pair_17 hf (fun s17 hf => ?_)
  exact z_return B dX4_pair_20 hf
theorem dX4_step_0 : decode cX4_step 0 = .ok (.aload_n 0, 1) := by decide +kernel
theorem dX4_step_1 : decode cX4_step 1 = .ok (.iload_n 1, 1) := by decide +kernel
theorem dX4_step_2 : decode cX4_step 2 = .ok (.putfield 18, 3) := by decide +kernel
theorem dX4_step_5 : decode cX4_step 5 = .ok (.aload_n 0, 1) := by decide +kernel
theorem dX4_step_6 : decode cX4_step 6 = .ok (.bipush 99, 2) := by decide +kernel
theorem dX4_step_8 : decode cX4_step 8 = .ok (.aload_n 0, 1) := by decide +kernel
theorem dX4_step_9 : decode cX4_step 9 = .ok (.getfield 24, 3) := by decide +kernel
theorem dX4_step_12 : decode cX4_step 12 = .ok (.iconst 1, 1) := by decide +kernel
theorem dX4_step_13 : decode cX4_step 13 = .ok (.iadd, 1) := by decide +kernel
theorem dX4_step_14 : decode cX4_step 14 = .ok (.invokestatic 45, 3) := by decide +kernel
theorem dX4_step_17 : decode cX4_step 17 = .ok (.putfield 24, 3) := by decide +kernel
theorem dX4_step_20 : decode cX4_step 20 = .ok (.return_, 1) := by decide +kernel
def mE_X4_step (N : Nat) (σ : ST) (x0 : Fin 6) (x1 : Int32) : Option (ST) :=
  zLet (zUp σ (12 + (x0).val) 1 x1) fun s2 =>
  zLet (s2 (12 + (x0).val) 3) fun v9 =>
  zLet ((v9 : Int32) + (1)) fun v13 =>
  zLet (if (v13 : Int32) < (99) then v13 else (99)) fun v14 =>
  zLet (zUp s2 (12 + (x0).val) 3 v14) fun s17 =>
  some s17
set_option maxRecDepth 20000 in
set_option maxHeartbeats 2000000 in
theorem cE_X4_step {adr : Nat → Nat} {cI cZ cS : ClassId} {tL tH : Nat} {l : Launch} {D : va_G} {N : Nat} {σ : ST} {x0 : Fin 6} {x1 : Int32} (q : ST) (hf : mE_X4_step N σ x0 x1 = some q) : zM l D (wdE adr cI cZ cS tL tH) yX4_step cX4_step 2 none ({ frames := 1, cells := 0, slots := 0, locals := 14 }) [.ref (adr (12 + (x0).val)), .int x1] σ (zu q) := by
  refine zM_of sfE_ok rfl (Nat.le_of_ble_eq_true rfl) [(0, .ref (adr (12 + (x0).val))), (1, .int x1)] rfl (fun X hX1 hX2 B => ?_)
  have B : zC X 2 (wdE adr cI cZ cS tL tH) cX4_step RX4 none { frames := 1, cells := 0, slots := 0, locals := 14 } := B
  refine z_aload_n B dX4_step_0 0 rfl rfl ?_
  refine z_iload_n B dX4_step_1 1 rfl rfl ?_
  refine fE_p_X4_S_last B x0 dX4_step_2 hf (fun s2 hf => ?_)
  refine z_aload_n B dX4_step_5 0 rfl rfl ?_
  refine z_bipush B (99) dX4_step_6 zc_bipush_99 ?_
  refine z_aload_n B dX4_step_8 0 rfl rfl ?_
  refine fE_g_X4_S_proof B x0 dX4_step_9 hf (fun v9 hf => ?_)
  refine z_iconst B (1) dX4_step_12 zc_iconst_1 ?_
  refine z_iadd B dX4_step_13 hf (fun v13 hf => ?_)
  refine z_mmin B kw_471 kmS_min kmI kmC_min (Nat.le_of_ble_eq_true rfl) (Nat.le_of_ble_eq_true rfl) dX4_step_14 hf (fun v14 hf => ?_)
  refine fE_p_X4_S_proof B x0 dX4_step_17 hf (fun s17 hf => ?_)
  exact z_return B dX4_step_20 hf
theorem dX2_findStream_0 : decode cX2_findStream 0 = .ok (.aload_n 0, 1) := by decide +kernel
theorem dX2_findStream_1 : decode cX2_findStream 1 = .ok (.aload_n 0, 1) := by decide +kernel
theorem dX2_findStream_2 : decode cX2_findStream 2 = .ok (.iload_n 1, 1) := by decide +kernel
theorem dX2_findStream_3 : decode cX2_findStream 3 = .ok (.invokevirtual 204, 3) := by decide +kernel
theorem dX2_findStream_6 : decode cX2_findStream 6 = .ok (.putfield 62, 3) := by decide +kernel
theorem dX2_findStream_9 : decode cX2_findStream 9 = .ok (.aload_n 0, 1) := by decide +kernel
theorem dX2_findStream_10 : decode cX2_findStream 10 = .ok (.aload_n 0, 1) := by decide +kernel
theorem dX2_findStream_11 : decode cX2_findStream 11 = .ok (.getfield 62, 3) := by decide +kernel
theorem dX2_findStream_14 : decode cX2_findStream 14 = .ok (.invokevirtual 130, 3) := by decide +kernel
theorem dX2_findStream_17 : decode cX2_findStream 17 = .ok (.astore_n 2, 1) := by decide +kernel
theorem dX2_findStream_18 : decode cX2_findStream 18 = .ok (.aload_n 2, 1) := by decide +kernel
theorem dX2_findStream_19 : decode cX2_findStream 19 = .ok (.ifnull 10, 3) := by decide +kernel
theorem dX2_findStream_22 : decode cX2_findStream 22 = .ok (.aload_n 2, 1) := by decide +kernel
theorem dX2_findStream_23 : decode cX2_findStream 23 = .ok (.iload_n 1, 1) := by decide +kernel
theorem dX2_findStream_24 : decode cX2_findStream 24 = .ok (.invokevirtual 207, 3) := by decide +kernel
theorem dX2_findStream_27 : decode cX2_findStream 27 = .ok (.iconst 1, 1) := by decide +kernel
theorem dX2_findStream_28 : decode cX2_findStream 28 = .ok (.ireturn, 1) := by decide +kernel
theorem dX2_findStream_29 : decode cX2_findStream 29 = .ok (.aload_n 0, 1) := by decide +kernel
theorem dX2_findStream_30 : decode cX2_findStream 30 = .ok (.aload_n 0, 1) := by decide +kernel
theorem dX2_findStream_31 : decode cX2_findStream 31 = .ok (.iload_n 1, 1) := by decide +kernel
theorem dX2_findStream_32 : decode cX2_findStream 32 = .ok (.invokevirtual 210, 3) := by decide +kernel
theorem dX2_findStream_35 : decode cX2_findStream 35 = .ok (.putfield 62, 3) := by decide +kernel
theorem dX2_findStream_38 : decode cX2_findStream 38 = .ok (.aload_n 0, 1) := by decide +kernel
theorem dX2_findStream_39 : decode cX2_findStream 39 = .ok (.getfield 62, 3) := by decide +kernel
theorem dX2_findStream_42 : decode cX2_findStream 42 = .ok (.iconst (-1), 1) := by decide +kernel
theorem dX2_findStream_43 : decode cX2_findStream 43 = .ok (.if_icmp .eq 5, 3) := by decide +kernel
theorem dX2_findStream_46 : decode cX2_findStream 46 = .ok (.iconst 2, 1) := by decide +kernel
theorem dX2_findStream_47 : decode cX2_findStream 47 = .ok (.ireturn, 1) := by decide +kernel
theorem dX2_findStream_48 : decode cX2_findStream 48 = .ok (.aload_n 0, 1) := by decide +kernel
theorem dX2_findStream_49 : decode cX2_findStream 49 = .ok (.aload_n 0, 1) := by decide +kernel
theorem dX2_findStream_50 : decode cX2_findStream 50 = .ok (.iload_n 1, 1) := by decide +kernel
theorem dX2_findStream_51 : decode cX2_findStream 51 = .ok (.invokevirtual 213, 3) := by decide +kernel
theorem dX2_findStream_54 : decode cX2_findStream 54 = .ok (.putfield 62, 3) := by decide +kernel
theorem dX2_findStream_57 : decode cX2_findStream 57 = .ok (.aload_n 0, 1) := by decide +kernel
theorem dX2_findStream_58 : decode cX2_findStream 58 = .ok (.aload_n 0, 1) := by decide +kernel
theorem dX2_findStream_59 : decode cX2_findStream 59 = .ok (.getfield 62, 3) := by decide +kernel
theorem dX2_findStream_62 : decode cX2_findStream 62 = .ok (.invokevirtual 130, 3) := by decide +kernel
theorem dX2_findStream_65 : decode cX2_findStream 65 = .ok (.astore_n 3, 1) := by decide +kernel
theorem dX2_findStream_66 : decode cX2_findStream 66 = .ok (.aload_n 3, 1) := by decide +kernel
theorem dX2_findStream_67 : decode cX2_findStream 67 = .ok (.ifnull 10, 3) := by decide +kernel
theorem dX2_findStream_70 : decode cX2_findStream 70 = .ok (.aload_n 3, 1) := by decide +kernel
theorem dX2_findStream_71 : decode cX2_findStream 71 = .ok (.iload_n 1, 1) := by decide +kernel
theorem dX2_findStream_72 : decode cX2_findStream 72 = .ok (.invokevirtual 216, 3) := by decide +kernel
theorem dX2_findStream_75 : decode cX2_findStream 75 = .ok (.iconst 3, 1) := by decide +kernel
theorem dX2_findStream_76 : decode cX2_findStream 76 = .ok (.ireturn, 1) := by decide +kernel
theorem dX2_findStream_77 : decode cX2_findStream 77 = .ok (.aload_n 0, 1) := by decide +kernel
theorem dX2_findStream_78 : decode cX2_findStream 78 = .ok (.aload_n 0, 1) := by decide +kernel
theorem dX2_findStream_79 : decode cX2_findStream 79 = .ok (.invokevirtual 219, 3) := by decide +kernel
theorem dX2_findStream_82 : decode cX2_findStream 82 = .ok (.putfield 62, 3) := by decide +kernel
theorem dX2_findStream_85 : decode cX2_findStream 85 = .ok (.aload_n 0, 1) := by decide +kernel
theorem dX2_findStream_86 : decode cX2_findStream 86 = .ok (.aload_n 0, 1) := by decide +kernel
theorem dX2_findStream_87 : decode cX2_findStream 87 = .ok (.getfield 62, 3) := by decide +kernel
theorem dX2_findStream_90 : decode cX2_findStream 90 = .ok (.iload_n 1, 1) := by decide +kernel
theorem dX2_findStream_91 : decode cX2_findStream 91 = .ok (.invokevirtual 223, 3) := by decide +kernel
theorem dX2_findStream_94 : decode cX2_findStream 94 = .ok (.iconst 4, 1) := by decide +kernel
theorem dX2_findStream_95 : decode cX2_findStream 95 = .ok (.ireturn, 1) := by decide +kernel
def mE_X2_findStream (N : Nat) (σ : ST) (x1 : Int32) : Option (Int32 × ST) :=
  zCall (mE_X2_steppingPlace N σ x1) fun v3 s3 =>
  zLet (zUp s3 0 9 v3) fun s6 =>
  zLet (s6 0 9) fun v11 =>
  zCallq (mE_X2_streamAt N s6 v11) fun v14 s14 =>
  match v14 with
  | none =>
      zCall (mE_X2_placeWithLast N s14 x1) fun v32 s32 =>
      zLet (zUp s32 0 9 v32) fun s35 =>
      zLet (s35 0 9) fun v39 =>
      if (v39 : Int32) = (-1) then
        zCall (mE_X2_pairingPlace N s35 x1) fun v51 s51 =>
        zLet (zUp s51 0 9 v51) fun s54 =>
        zLet (s54 0 9) fun v59 =>
        zCallq (mE_X2_streamAt N s54 v59) fun v62 s62 =>
        match v62 with
        | none =>
            zCall (mE_X2_openPlace N s62) fun v79 s79 =>
            zLet (zUp s79 0 9 v79) fun s82 =>
            zLet (s82 0 9) fun v87 =>
            zCallu (mE_X2_settle N s82 v87 x1) fun s91 =>
            some ((4), s91)
        | some p67 =>
            zCallu (mE_X4_pair N s62 p67 x1) fun s72 =>
            some ((3), s72)
      else
        some ((2), s35)
  | some p19 =>
      zCallu (mE_X4_step N s14 p19 x1) fun s24 =>
      some ((1), s24)
set_option maxRecDepth 20000 in
set_option maxHeartbeats 2000000 in
theorem cE_X2_findStream {adr : Nat → Nat} {cI cZ cS : ClassId} {tL tH : Nat} {l : Launch} {D : va_G} {N : Nat} {σ : ST} {x1 : Int32} (q : Int32 × ST) (hf : mE_X2_findStream N σ x1 = some q) : zM l D (wdE adr cI cZ cS tL tH) yX2_findStream cX2_findStream 4 (some .int) ({ frames := 2, cells := 0, slots := 0, locals := 44 }) [.ref (adr 0), .int x1] σ (zi q) := by
  refine zM_of sfE_ok rfl (Nat.le_of_ble_eq_true rfl) [(0, .ref (adr 0)), (1, .int x1)] rfl (fun X hX1 hX2 B => ?_)
  have B : zC X 4 (wdE adr cI cZ cS tL tH) cX2_findStream RX2 (some .int) { frames := 2, cells := 0, slots := 0, locals := 44 } := B
  refine z_aload_n B dX2_findStream_0 0 rfl rfl ?_
  refine z_aload_n B dX2_findStream_1 0 rfl rfl ?_
  refine z_iload_n B dX2_findStream_2 1 rfl rfl ?_
  refine z_callVi B (As := [.int x1]) kcV_X2_204 dX2_findStream_3 hf (fun q hq => cE_X2_steppingPlace q hq) (wE_o_E (adr := adr) (cI := cI) (cZ := cZ) (cS := cS) (tL := tL) (tH := tH)) rfl rfl rfl rfl (Nat.le_of_ble_eq_true rfl) rfl rfl ⟨Nat.le_of_ble_eq_true rfl, Nat.le_of_ble_eq_true rfl⟩ (fun v3 s3 hf => ?_)
  refine fE_p_X2_E_ownPlace B dX2_findStream_6 hf (fun s6 hf => ?_)
  refine z_aload_n B dX2_findStream_9 0 rfl rfl ?_
  refine z_aload_n B dX2_findStream_10 0 rfl rfl ?_
  refine fE_g_X2_E_ownPlace B dX2_findStream_11 hf (fun v11 hf => ?_)
  refine z_callVq B (As := [.int v11]) kcV_X2_130 dX2_findStream_14 hf (fun q hq => cE_X2_streamAt q hq) (wE_o_E (adr := adr) (cI := cI) (cZ := cZ) (cS := cS) (tL := tL) (tH := tH)) rfl rfl rfl rfl (Nat.le_of_ble_eq_true rfl) rfl rfl ⟨Nat.le_of_ble_eq_true rfl, Nat.le_of_ble_eq_true rfl⟩ (fun v14 s14 hf => ?_)
  refine z_astore_nq B [(2, zq adr v14), (0, .ref (adr 0)), (1, .int x1)] dX2_findStream_17 rfl (Nat.le_of_ble_eq_true rfl) rfl ?_
  refine z_aload_nq B dX2_findStream_18 0 rfl rfl ?_
  cases v14 with
  | none =>
    refine z_ifnull_N B 29 dX2_findStream_19 (by decide) ?_
    refine z_aload_n B dX2_findStream_29 1 rfl rfl ?_
    refine z_aload_n B dX2_findStream_30 1 rfl rfl ?_
    refine z_iload_n B dX2_findStream_31 2 rfl rfl ?_
    refine z_callVi B (As := [.int x1]) kcV_X2_210 dX2_findStream_32 hf (fun q hq => cE_X2_placeWithLast q hq) (wE_o_E (adr := adr) (cI := cI) (cZ := cZ) (cS := cS) (tL := tL) (tH := tH)) rfl rfl rfl rfl (Nat.le_of_ble_eq_true rfl) rfl rfl ⟨Nat.le_of_ble_eq_true rfl, Nat.le_of_ble_eq_true rfl⟩ (fun v32 s32 hf => ?_)
    refine fE_p_X2_E_ownPlace B dX2_findStream_35 hf (fun s35 hf => ?_)
    refine z_aload_n B dX2_findStream_38 1 rfl rfl ?_
    refine fE_g_X2_E_ownPlace B dX2_findStream_39 hf (fun v39 hf => ?_)
    refine z_iconst B (-1) dX2_findStream_42 zc_iconst_m1 ?_
    refine z_icmp_eq B 48 dX2_findStream_43 (by decide) hf (fun hf => ?_) (fun hf => ?_)
    · refine z_aload_n B dX2_findStream_48 1 rfl rfl ?_
      refine z_aload_n B dX2_findStream_49 1 rfl rfl ?_
      refine z_iload_n B dX2_findStream_50 2 rfl rfl ?_
      refine z_callVi B (As := [.int x1]) kcV_X2_213 dX2_findStream_51 hf (fun q hq => cE_X2_pairingPlace q hq) (wE_o_E (adr := adr) (cI := cI) (cZ := cZ) (cS := cS) (tL := tL) (tH := tH)) rfl rfl rfl rfl (Nat.le_of_ble_eq_true rfl) rfl rfl ⟨Nat.le_of_ble_eq_true rfl, Nat.le_of_ble_eq_true rfl⟩ (fun v51 s51 hf => ?_)
      refine fE_p_X2_E_ownPlace B dX2_findStream_54 hf (fun s54 hf => ?_)
      refine z_aload_n B dX2_findStream_57 1 rfl rfl ?_
      refine z_aload_n B dX2_findStream_58 1 rfl rfl ?_
      refine fE_g_X2_E_ownPlace B dX2_findStream_59 hf (fun v59 hf => ?_)
      refine z_callVq B (As := [.int v59]) kcV_X2_130 dX2_findStream_62 hf (fun q hq => cE_X2_streamAt q hq) (wE_o_E (adr := adr) (cI := cI) (cZ := cZ) (cS := cS) (tL := tL) (tH := tH)) rfl rfl rfl rfl (Nat.le_of_ble_eq_true rfl) rfl rfl ⟨Nat.le_of_ble_eq_true rfl, Nat.le_of_ble_eq_true rfl⟩ (fun v62 s62 hf => ?_)
      refine z_astore_nq B [(3, zq adr v62), (2, .null), (0, .ref (adr 0)), (1, .int x1)] dX2_findStream_65 rfl (Nat.le_of_ble_eq_true rfl) rfl ?_
      refine z_aload_nq B dX2_findStream_66 0 rfl rfl ?_
      cases v62 with
      | none =>
        refine z_ifnull_N B 77 dX2_findStream_67 (by decide) ?_
        refine z_aload_n B dX2_findStream_77 2 rfl rfl ?_
        refine z_aload_n B dX2_findStream_78 2 rfl rfl ?_
        refine z_callVi B (As := []) kcV_X2_219 dX2_findStream_79 hf (fun q hq => cE_X2_openPlace q hq) (wE_o_E (adr := adr) (cI := cI) (cZ := cZ) (cS := cS) (tL := tL) (tH := tH)) rfl rfl rfl rfl (Nat.le_of_ble_eq_true rfl) rfl rfl ⟨Nat.le_of_ble_eq_true rfl, Nat.le_of_ble_eq_true rfl⟩ (fun v79 s79 hf => ?_)
        refine fE_p_X2_E_ownPlace B dX2_findStream_82 hf (fun s82 hf => ?_)
        refine z_aload_n B dX2_findStream_85 2 rfl rfl ?_
        refine z_aload_n B dX2_findStream_86 2 rfl rfl ?_
        refine fE_g_X2_E_ownPlace B dX2_findStream_87 hf (fun v87 hf => ?_)
        refine z_iload_n B dX2_findStream_90 3 rfl rfl ?_
        refine z_callVu B (As := [.int v87, .int x1]) kcV_X2_223 dX2_findStream_91 hf (fun q hq => cE_X2_settle q hq) (wE_o_E (adr := adr) (cI := cI) (cZ := cZ) (cS := cS) (tL := tL) (tH := tH)) rfl rfl rfl rfl (Nat.le_of_ble_eq_true rfl) rfl rfl ⟨Nat.le_of_ble_eq_true rfl, Nat.le_of_ble_eq_true rfl⟩ (fun s91 hf => ?_)
        refine z_iconst B (4) dX2_findStream_94 zc_iconst_4 ?_
        exact z_ireturn B dX2_findStream_95 hf
      | some p67 =>
        refine z_ifnull_S B dX2_findStream_67 ?_
        refine z_aload_n B dX2_findStream_70 0 rfl rfl ?_
        refine z_iload_n B dX2_findStream_71 3 rfl rfl ?_
        refine z_callVu B (As := [.int x1]) kcV_X2_216 dX2_findStream_72 hf (fun q hq => cE_X4_pair q hq) (wE_o_S (adr := adr) (cI := cI) (cZ := cZ) (cS := cS) (tL := tL) (tH := tH) p67) rfl rfl rfl rfl (Nat.le_of_ble_eq_true rfl) rfl rfl ⟨Nat.le_of_ble_eq_true rfl, Nat.le_of_ble_eq_true rfl⟩ (fun s72 hf => ?_)
        refine z_iconst B (3) dX2_findStream_75 zc_iconst_3 ?_
        exact z_ireturn B dX2_findStream_76 hf
    · refine z_iconst B (2) dX2_findStream_46 zc_iconst_2 ?_
      exact z_ireturn B dX2_findStream_47 hf
  | some p19 =>
    refine z_ifnull_S B dX2_findStream_19 ?_
    refine z_aload_n B dX2_findStream_22 0 rfl rfl ?_
    refine z_iload_n B dX2_findStream_23 2 rfl rfl ?_
    refine z_callVu B (As := [.int x1]) kcV_X2_207 dX2_findStream_24 hf (fun q hq => cE_X4_step q hq) (wE_o_S (adr := adr) (cI := cI) (cZ := cZ) (cS := cS) (tL := tL) (tH := tH) p19) rfl rfl rfl rfl (Nat.le_of_ble_eq_true rfl) rfl rfl ⟨Nat.le_of_ble_eq_true rfl, Nat.le_of_ble_eq_true rfl⟩ (fun s24 hf => ?_)
    refine z_iconst B (1) dX2_findStream_27 zc_iconst_1 ?_
    exact z_ireturn B dX2_findStream_28 hf
theorem dX0_touch_0 : decode cX0_touch 0 = .ok (.iload_n 1, 1) := by decide +kernel
theorem dX0_touch_1 : decode cX0_touch 1 = .ok (.ifCond .lt 11, 3) := by decide +kernel
theorem dX0_touch_4 : decode cX0_touch 4 = .ok (.iload_n 1, 1) := by decide +kernel
theorem dX0_touch_5 : decode cX0_touch 5 = .ok (.aload_n 0, 1) := by decide +kernel
theorem dX0_touch_6 : decode cX0_touch 6 = .ok (.getfield 34, 3) := by decide +kernel
theorem dX0_touch_9 : decode cX0_touch 9 = .ok (.if_icmp .lt 5, 3) := by decide +kernel
theorem dX0_touch_12 : decode cX0_touch 12 = .ok (.iconst 0, 1) := by decide +kernel
theorem dX0_touch_13 : decode cX0_touch 13 = .ok (.ireturn, 1) := by decide +kernel
theorem dX0_touch_14 : decode cX0_touch 14 = .ok (.aload_n 0, 1) := by decide +kernel
theorem dX0_touch_15 : decode cX0_touch 15 = .ok (.dup, 1) := by decide +kernel
theorem dX0_touch_16 : decode cX0_touch 16 = .ok (.getfield 38, 3) := by decide +kernel
theorem dX0_touch_19 : decode cX0_touch 19 = .ok (.iconst 1, 1) := by decide +kernel
theorem dX0_touch_20 : decode cX0_touch 20 = .ok (.iadd, 1) := by decide +kernel
theorem dX0_touch_21 : decode cX0_touch 21 = .ok (.putfield 38, 3) := by decide +kernel
theorem dX0_touch_24 : decode cX0_touch 24 = .ok (.aload_n 0, 1) := by decide +kernel
theorem dX0_touch_25 : decode cX0_touch 25 = .ok (.getfield 15, 3) := by decide +kernel
theorem dX0_touch_28 : decode cX0_touch 28 = .ok (.iload_n 1, 1) := by decide +kernel
theorem dX0_touch_29 : decode cX0_touch 29 = .ok (.aload_n 0, 1) := by decide +kernel
theorem dX0_touch_30 : decode cX0_touch 30 = .ok (.getfield 38, 3) := by decide +kernel
theorem dX0_touch_33 : decode cX0_touch 33 = .ok (.iastore, 1) := by decide +kernel
theorem dX0_touch_34 : decode cX0_touch 34 = .ok (.aload_n 0, 1) := by decide +kernel
theorem dX0_touch_35 : decode cX0_touch 35 = .ok (.getfield 18, 3) := by decide +kernel
theorem dX0_touch_38 : decode cX0_touch 38 = .ok (.iload_n 1, 1) := by decide +kernel
theorem dX0_touch_39 : decode cX0_touch 39 = .ok (.dup2, 1) := by decide +kernel
theorem dX0_touch_40 : decode cX0_touch 40 = .ok (.iaload, 1) := by decide +kernel
theorem dX0_touch_41 : decode cX0_touch 41 = .ok (.iconst 1, 1) := by decide +kernel
theorem dX0_touch_42 : decode cX0_touch 42 = .ok (.iadd, 1) := by decide +kernel
theorem dX0_touch_43 : decode cX0_touch 43 = .ok (.iastore, 1) := by decide +kernel
theorem dX0_touch_44 : decode cX0_touch 44 = .ok (.aload_n 0, 1) := by decide +kernel
theorem dX0_touch_45 : decode cX0_touch 45 = .ok (.getfield 27, 3) := by decide +kernel
theorem dX0_touch_48 : decode cX0_touch 48 = .ok (.iload_n 1, 1) := by decide +kernel
theorem dX0_touch_49 : decode cX0_touch 49 = .ok (.baload, 1) := by decide +kernel
theorem dX0_touch_50 : decode cX0_touch 50 = .ok (.istore_n 2, 1) := by decide +kernel
theorem dX0_touch_51 : decode cX0_touch 51 = .ok (.iload_n 2, 1) := by decide +kernel
theorem dX0_touch_52 : decode cX0_touch 52 = .ok (.ifCond .eq 20, 3) := by decide +kernel
theorem dX0_touch_55 : decode cX0_touch 55 = .ok (.aload_n 0, 1) := by decide +kernel
theorem dX0_touch_56 : decode cX0_touch 56 = .ok (.getfield 27, 3) := by decide +kernel
theorem dX0_touch_59 : decode cX0_touch 59 = .ok (.iload_n 1, 1) := by decide +kernel
theorem dX0_touch_60 : decode cX0_touch 60 = .ok (.iconst 0, 1) := by decide +kernel
theorem dX0_touch_61 : decode cX0_touch 61 = .ok (.bastore, 1) := by decide +kernel
theorem dX0_touch_62 : decode cX0_touch 62 = .ok (.aload_n 0, 1) := by decide +kernel
theorem dX0_touch_63 : decode cX0_touch 63 = .ok (.dup, 1) := by decide +kernel
theorem dX0_touch_64 : decode cX0_touch 64 = .ok (.getfield 41, 3) := by decide +kernel
theorem dX0_touch_67 : decode cX0_touch 67 = .ok (.iconst 1, 1) := by decide +kernel
theorem dX0_touch_68 : decode cX0_touch 68 = .ok (.isub, 1) := by decide +kernel
theorem dX0_touch_69 : decode cX0_touch 69 = .ok (.putfield 41, 3) := by decide +kernel
theorem dX0_touch_72 : decode cX0_touch 72 = .ok (.iload_n 2, 1) := by decide +kernel
theorem dX0_touch_73 : decode cX0_touch 73 = .ok (.ireturn, 1) := by decide +kernel
def mE_X0_touch_72 (N : Nat) (σ : ST) (x1 : Int32) (x2 : Int32) : Option (Int32 × ST) :=
  zBool x2 (some (x2, σ))
set_option maxRecDepth 20000 in
set_option maxHeartbeats 2000000 in
theorem tE_X0_touch_72 {adr : Nat → Nat} {cI cZ cS : ClassId} {tL tH : Nat} {X : zX} {q : Int32 × ST} (B : zC X 3 (wdE adr cI cZ cS tL tH) cX0_touch RX0 (some .boolean) { frames := 0, cells := 0, slots := 0, locals := 0 }) (N : Nat) (σ : ST) (x1 : Int32) (x2 : Int32) (hf : mE_X0_touch_72 N σ x1 x2 = some q) : zJ X 3 (wdE adr cI cZ cS tL tH) (zi q) 72 [(0, .ref (adr 3)), (1, .int x1), (2, .int x2)] [] σ := by
  refine z_iload_n B dX0_touch_72 2 rfl rfl ?_
  exact z_zreturn B dX0_touch_73 hf
def mE_X0_touch_12 (N : Nat) (σ : ST) (x1 : Int32) : Option (Int32 × ST) :=
  zBool (0) (some ((0), σ))
set_option maxRecDepth 20000 in
set_option maxHeartbeats 2000000 in
theorem tE_X0_touch_12 {adr : Nat → Nat} {cI cZ cS : ClassId} {tL tH : Nat} {X : zX} {q : Int32 × ST} (B : zC X 3 (wdE adr cI cZ cS tL tH) cX0_touch RX0 (some .boolean) { frames := 0, cells := 0, slots := 0, locals := 0 }) (N : Nat) (σ : ST) (x1 : Int32) (hf : mE_X0_touch_12 N σ x1 = some q) : zJ X 3 (wdE adr cI cZ cS tL tH) (zi q) 12 [(0, .ref (adr 3)), (1, .int x1)] [] σ := by
  refine z_iconst B (0) dX0_touch_12 zc_iconst_0 ?_
  exact z_zreturn B dX0_touch_13 hf
def mE_X0_touch (N : Nat) (σ : ST) (x1 : Int32) : Option (Int32 × ST) :=
  if (x1 : Int32) < 0 then
    mE_X0_touch_12 N σ x1
  else
    zLet (σ 3 7) fun v6 =>
    if (x1 : Int32) < v6 then
      zLet (σ 3 9) fun v16 =>
      zLet ((v16 : Int32) + (1)) fun v20 =>
      zLet (zUp σ 3 9 v20) fun s21 =>
      zLet (s21 3 9) fun v30 =>
      zSet s21 5 64 x1 v30 fun s33 =>
      zGet (s33 6) 64 x1 fun v40 =>
      zLet ((v40 : Int32) + (1)) fun v42 =>
      zSet s33 6 64 x1 v42 fun s43 =>
      zGet (s43 9) 64 x1 fun v49 =>
      if (v49 : Int32) = 0 then
        mE_X0_touch_72 N s43 x1 v49
      else
        zSet s43 9 64 x1 (vp_nar .boolean (0)) fun s61 =>
        zLet (s61 3 8) fun v64 =>
        zLet ((v64 : Int32) - (1)) fun v68 =>
        zLet (zUp s61 3 8 v68) fun s69 =>
        mE_X0_touch_72 N s69 x1 v49
    else
      mE_X0_touch_12 N σ x1
set_option maxRecDepth 20000 in
set_option maxHeartbeats 2000000 in
theorem cE_X0_touch {adr : Nat → Nat} {cI cZ cS : ClassId} {tL tH : Nat} {l : Launch} {D : va_G} {N : Nat} {σ : ST} {x1 : Int32} (q : Int32 × ST) (hf : mE_X0_touch N σ x1 = some q) : zM l D (wdE adr cI cZ cS tL tH) yX0_touch cX0_touch 3 (some .boolean) ({ frames := 0, cells := 0, slots := 0, locals := 0 }) [.ref (adr 3), .int x1] σ (zi q) := by
  refine zM_of sfE_ok rfl (Nat.le_of_ble_eq_true rfl) [(0, .ref (adr 3)), (1, .int x1)] rfl (fun X hX1 hX2 B => ?_)
  have B : zC X 3 (wdE adr cI cZ cS tL tH) cX0_touch RX0 (some .boolean) { frames := 0, cells := 0, slots := 0, locals := 0 } := B
  refine z_iload_n B dX0_touch_0 1 rfl rfl ?_
  refine z_if_lt B 12 dX0_touch_1 (by decide) hf (fun hf => ?_) (fun hf => ?_)
  · exact tE_X0_touch_12 B N σ x1 hf
  · refine z_iload_n B dX0_touch_4 1 rfl rfl ?_
    refine z_aload_n B dX0_touch_5 0 rfl rfl ?_
    refine fE_g_X0_C_size B dX0_touch_6 hf (fun v6 hf => ?_)
    refine z_icmp_lt B 14 dX0_touch_9 (by decide) hf (fun hf => ?_) (fun hf => ?_)
    · refine z_aload_n B dX0_touch_14 0 rfl rfl ?_
      refine z_dup B dX0_touch_15 rfl ?_
      refine fE_g_X0_C_stamp B dX0_touch_16 hf (fun v16 hf => ?_)
      refine z_iconst B (1) dX0_touch_19 zc_iconst_1 ?_
      refine z_iadd B dX0_touch_20 hf (fun v20 hf => ?_)
      refine fE_p_X0_C_stamp B dX0_touch_21 hf (fun s21 hf => ?_)
      refine z_aload_n B dX0_touch_24 0 rfl rfl ?_
      refine fE_g_X0_C_stamps B dX0_touch_25 ?_
      refine z_iload_n B dX0_touch_28 1 rfl rfl ?_
      refine z_aload_n B dX0_touch_29 0 rfl rfl ?_
      refine fE_g_X0_C_stamp B dX0_touch_30 hf (fun v30 hf => ?_)
      refine fE_s_C_stamps B dX0_touch_33 hf (fun s33 hf => ?_)
      refine z_aload_n B dX0_touch_34 0 rfl rfl ?_
      refine fE_g_X0_C_touched B dX0_touch_35 ?_
      refine z_iload_n B dX0_touch_38 1 rfl rfl ?_
      refine z_dup2 B dX0_touch_39 rfl rfl ?_
      refine fE_l_C_touched B dX0_touch_40 hf (fun v40 hf => ?_)
      refine z_iconst B (1) dX0_touch_41 zc_iconst_1 ?_
      refine z_iadd B dX0_touch_42 hf (fun v42 hf => ?_)
      refine fE_s_C_touched B dX0_touch_43 hf (fun s43 hf => ?_)
      refine z_aload_n B dX0_touch_44 0 rfl rfl ?_
      refine fE_g_X0_C_waiting B dX0_touch_45 ?_
      refine z_iload_n B dX0_touch_48 1 rfl rfl ?_
      refine fE_l_C_waiting B dX0_touch_49 hf (fun v49 hf => ?_)
      refine z_istore_n B [(2, .int v49), (0, .ref (adr 3)), (1, .int x1)] dX0_touch_50 rfl (Nat.le_of_ble_eq_true rfl) rfl ?_
      refine z_iload_n B dX0_touch_51 0 rfl rfl ?_
      refine z_if_eq B 72 dX0_touch_52 (by decide) hf (fun hf => ?_) (fun hf => ?_)
      · exact z_loc [1, 2, 0] _ rfl (tE_X0_touch_72 B N s43 x1 v49 hf)
      · refine z_aload_n B dX0_touch_55 1 rfl rfl ?_
        refine fE_g_X0_C_waiting B dX0_touch_56 ?_
        refine z_iload_n B dX0_touch_59 2 rfl rfl ?_
        refine z_iconst B (0) dX0_touch_60 zc_iconst_0 ?_
        refine fE_s_C_waiting B dX0_touch_61 hf (fun s61 hf => ?_)
        refine z_aload_n B dX0_touch_62 1 rfl rfl ?_
        refine z_dup B dX0_touch_63 rfl ?_
        refine fE_g_X0_C_waitingSize B dX0_touch_64 hf (fun v64 hf => ?_)
        refine z_iconst B (1) dX0_touch_67 zc_iconst_1 ?_
        refine z_isub B dX0_touch_68 hf (fun v68 hf => ?_)
        refine fE_p_X0_C_waitingSize B dX0_touch_69 hf (fun s69 hf => ?_)
        exact z_loc [1, 2, 0] _ rfl (tE_X0_touch_72 B N s69 x1 v49 hf)
    · exact tE_X0_touch_12 B N σ x1 hf
