theorem dX8_hits_0 : decode cX8_hits 0 = .ok (.aload_n 0, 1) := by decide +kernel
theorem dX8_hits_1 : decode cX8_hits 1 = .ok (.getfield 9, 3) := by decide +kernel
theorem dX8_hits_4 : decode cX8_hits 4 = .ok (.bipush 11, 2) := by decide +kernel
theorem dX8_hits_6 : decode cX8_hits 6 = .ok (.dup2, 1) := by decide +kernel
theorem dX8_hits_7 : decode cX8_hits 7 = .ok (.iaload, 1) := by decide +kernel
theorem dX8_hits_8 : decode cX8_hits 8 = .ok (.iconst 1, 1) := by decide +kernel
theorem dX8_hits_9 : decode cX8_hits 9 = .ok (.iadd, 1) := by decide +kernel
theorem dX8_hits_10 : decode cX8_hits 10 = .ok (.iastore, 1) := by decide +kernel
theorem dX8_hits_11 : decode cX8_hits 11 = .ok (.aload_n 0, 1) := by decide +kernel
theorem dX8_hits_12 : decode cX8_hits 12 = .ok (.getfield 9, 3) := by decide +kernel
theorem dX8_hits_15 : decode cX8_hits 15 = .ok (.iload_n 1, 1) := by decide +kernel
theorem dX8_hits_16 : decode cX8_hits 16 = .ok (.bipush 7, 2) := by decide +kernel
theorem dX8_hits_18 : decode cX8_hits 18 = .ok (.iadd, 1) := by decide +kernel
theorem dX8_hits_19 : decode cX8_hits 19 = .ok (.iaload, 1) := by decide +kernel
theorem dX8_hits_20 : decode cX8_hits 20 = .ok (.iconst 1, 1) := by decide +kernel
theorem dX8_hits_21 : decode cX8_hits 21 = .ok (.if_icmp .ne 142, 3) := by decide +kernel
theorem dX8_hits_24 : decode cX8_hits 24 = .ok (.aload_n 0, 1) := by decide +kernel
theorem dX8_hits_25 : decode cX8_hits 25 = .ok (.aload_n 0, 1) := by decide +kernel
theorem dX8_hits_26 : decode cX8_hits 26 = .ok (.getfield 9, 3) := by decide +kernel
theorem dX8_hits_29 : decode cX8_hits 29 = .ok (.iload_n 1, 1) := by decide +kernel
theorem dX8_hits_30 : decode cX8_hits 30 = .ok (.iconst 4, 1) := by decide +kernel
theorem dX8_hits_31 : decode cX8_hits 31 = .ok (.iadd, 1) := by decide +kernel
theorem dX8_hits_32 : decode cX8_hits 32 = .ok (.iaload, 1) := by decide +kernel
theorem dX8_hits_33 : decode cX8_hits 33 = .ok (.iconst 1, 1) := by decide +kernel
theorem dX8_hits_34 : decode cX8_hits 34 = .ok (.isub, 1) := by decide +kernel
theorem dX8_hits_35 : decode cX8_hits 35 = .ok (.invokevirtual 95, 3) := by decide +kernel
theorem dX8_hits_38 : decode cX8_hits 38 = .ok (.istore_n 2, 1) := by decide +kernel
theorem dX8_hits_39 : decode cX8_hits 39 = .ok (.aload_n 0, 1) := by decide +kernel
theorem dX8_hits_40 : decode cX8_hits 40 = .ok (.getfield 9, 3) := by decide +kernel
theorem dX8_hits_43 : decode cX8_hits 43 = .ok (.bipush 9, 2) := by decide +kernel
theorem dX8_hits_45 : decode cX8_hits 45 = .ok (.iaload, 1) := by decide +kernel
theorem dX8_hits_46 : decode cX8_hits 46 = .ok (.aload_n 0, 1) := by decide +kernel
theorem dX8_hits_47 : decode cX8_hits 47 = .ok (.getfield 9, 3) := by decide +kernel
theorem dX8_hits_50 : decode cX8_hits 50 = .ok (.bipush 10, 2) := by decide +kernel
theorem dX8_hits_52 : decode cX8_hits 52 = .ok (.iaload, 1) := by decide +kernel
theorem dX8_hits_53 : decode cX8_hits 53 = .ok (.iconst 1, 1) := by decide +kernel
theorem dX8_hits_54 : decode cX8_hits 54 = .ok (.isub, 1) := by decide +kernel
theorem dX8_hits_55 : decode cX8_hits 55 = .ok (.aload_n 0, 1) := by decide +kernel
theorem dX8_hits_56 : decode cX8_hits 56 = .ok (.getfield 9, 3) := by decide +kernel
theorem dX8_hits_59 : decode cX8_hits 59 = .ok (.iload_n 1, 1) := by decide +kernel
theorem dX8_hits_60 : decode cX8_hits 60 = .ok (.bipush 6, 2) := by decide +kernel
theorem dX8_hits_62 : decode cX8_hits 62 = .ok (.iadd, 1) := by decide +kernel
theorem dX8_hits_63 : decode cX8_hits 63 = .ok (.iaload, 1) := by decide +kernel
theorem dX8_hits_64 : decode cX8_hits 64 = .ok (.isub, 1) := by decide +kernel
theorem dX8_hits_65 : decode cX8_hits 65 = .ok (.isub, 1) := by decide +kernel
theorem dX8_hits_66 : decode cX8_hits 66 = .ok (.istore_n 3, 1) := by decide +kernel
theorem dX8_hits_67 : decode cX8_hits 67 = .ok (.aload_n 0, 1) := by decide +kernel
theorem dX8_hits_68 : decode cX8_hits 68 = .ok (.getfield 9, 3) := by decide +kernel
theorem dX8_hits_71 : decode cX8_hits 71 = .ok (.iload_n 1, 1) := by decide +kernel
theorem dX8_hits_72 : decode cX8_hits 72 = .ok (.iconst 3, 1) := by decide +kernel
theorem dX8_hits_73 : decode cX8_hits 73 = .ok (.iadd, 1) := by decide +kernel
theorem dX8_hits_74 : decode cX8_hits 74 = .ok (.iaload, 1) := by decide +kernel
theorem dX8_hits_75 : decode cX8_hits 75 = .ok (.iconst 1, 1) := by decide +kernel
theorem dX8_hits_76 : decode cX8_hits 76 = .ok (.if_icmp .ne 32, 3) := by decide +kernel
theorem dX8_hits_79 : decode cX8_hits 79 = .ok (.aload_n 0, 1) := by decide +kernel
theorem dX8_hits_80 : decode cX8_hits 80 = .ok (.getfield 9, 3) := by decide +kernel
theorem dX8_hits_83 : decode cX8_hits 83 = .ok (.bipush 14, 2) := by decide +kernel
theorem dX8_hits_85 : decode cX8_hits 85 = .ok (.dup2, 1) := by decide +kernel
theorem dX8_hits_86 : decode cX8_hits 86 = .ok (.iaload, 1) := by decide +kernel
theorem dX8_hits_87 : decode cX8_hits 87 = .ok (.iconst 1, 1) := by decide +kernel
theorem dX8_hits_88 : decode cX8_hits 88 = .ok (.iadd, 1) := by decide +kernel
theorem dX8_hits_89 : decode cX8_hits 89 = .ok (.iastore, 1) := by decide +kernel
theorem dX8_hits_90 : decode cX8_hits 90 = .ok (.iload_n 2, 1) := by decide +kernel
theorem dX8_hits_91 : decode cX8_hits 91 = .ok (.iconst (-1), 1) := by decide +kernel
theorem dX8_hits_92 : decode cX8_hits 92 = .ok (.if_icmp .eq 16, 3) := by decide +kernel
theorem dX8_hits_95 : decode cX8_hits 95 = .ok (.aload_n 0, 1) := by decide +kernel
theorem dX8_hits_96 : decode cX8_hits 96 = .ok (.getfield 9, 3) := by decide +kernel
theorem dX8_hits_99 : decode cX8_hits 99 = .ok (.iload_n 2, 1) := by decide +kernel
theorem dX8_hits_100 : decode cX8_hits 100 = .ok (.bipush 10, 2) := by decide +kernel
theorem dX8_hits_102 : decode cX8_hits 102 = .ok (.iadd, 1) := by decide +kernel
theorem dX8_hits_103 : decode cX8_hits 103 = .ok (.dup2, 1) := by decide +kernel
theorem dX8_hits_104 : decode cX8_hits 104 = .ok (.iaload, 1) := by decide +kernel
theorem dX8_hits_105 : decode cX8_hits 105 = .ok (.iconst 1, 1) := by decide +kernel
theorem dX8_hits_106 : decode cX8_hits 106 = .ok (.iadd, 1) := by decide +kernel
theorem dX8_hits_107 : decode cX8_hits 107 = .ok (.iastore, 1) := by decide +kernel
theorem dX8_hits_108 : decode cX8_hits 108 = .ok (.iload_n 3, 1) := by decide +kernel
theorem dX8_hits_109 : decode cX8_hits 109 = .ok (.ifCond .le 54, 3) := by decide +kernel
theorem dX8_hits_112 : decode cX8_hits 112 = .ok (.aload_n 0, 1) := by decide +kernel
theorem dX8_hits_113 : decode cX8_hits 113 = .ok (.getfield 9, 3) := by decide +kernel
theorem dX8_hits_116 : decode cX8_hits 116 = .ok (.bipush 27, 2) := by decide +kernel
theorem dX8_hits_118 : decode cX8_hits 118 = .ok (.dup2, 1) := by decide +kernel
theorem dX8_hits_119 : decode cX8_hits 119 = .ok (.iaload, 1) := by decide +kernel
theorem dX8_hits_120 : decode cX8_hits 120 = .ok (.iconst 1, 1) := by decide +kernel
theorem dX8_hits_121 : decode cX8_hits 121 = .ok (.iadd, 1) := by decide +kernel
theorem dX8_hits_122 : decode cX8_hits 122 = .ok (.iastore, 1) := by decide +kernel
theorem dX8_hits_123 : decode cX8_hits 123 = .ok (.aload_n 0, 1) := by decide +kernel
theorem dX8_hits_124 : decode cX8_hits 124 = .ok (.getfield 9, 3) := by decide +kernel
theorem dX8_hits_127 : decode cX8_hits 127 = .ok (.bipush 28, 2) := by decide +kernel
theorem dX8_hits_129 : decode cX8_hits 129 = .ok (.dup2, 1) := by decide +kernel
theorem dX8_hits_130 : decode cX8_hits 130 = .ok (.iaload, 1) := by decide +kernel
theorem dX8_hits_131 : decode cX8_hits 131 = .ok (.iload_n 3, 1) := by decide +kernel
theorem dX8_hits_132 : decode cX8_hits 132 = .ok (.iadd, 1) := by decide +kernel
theorem dX8_hits_133 : decode cX8_hits 133 = .ok (.iastore, 1) := by decide +kernel
theorem dX8_hits_134 : decode cX8_hits 134 = .ok (.iload_n 2, 1) := by decide +kernel
theorem dX8_hits_135 : decode cX8_hits 135 = .ok (.iconst (-1), 1) := by decide +kernel
theorem dX8_hits_136 : decode cX8_hits 136 = .ok (.if_icmp .eq 27, 3) := by decide +kernel
theorem dX8_hits_139 : decode cX8_hits 139 = .ok (.aload_n 0, 1) := by decide +kernel
theorem dX8_hits_140 : decode cX8_hits 140 = .ok (.iload_n 2, 1) := by decide +kernel
theorem dX8_hits_141 : decode cX8_hits 141 = .ok (.iconst 2, 1) := by decide +kernel
theorem dX8_hits_142 : decode cX8_hits 142 = .ok (.aload_n 0, 1) := by decide +kernel
theorem dX8_hits_143 : decode cX8_hits 143 = .ok (.getfield 9, 3) := by decide +kernel
theorem dX8_hits_146 : decode cX8_hits 146 = .ok (.iload_n 2, 1) := by decide +kernel
theorem dX8_hits_147 : decode cX8_hits 147 = .ok (.iconst 5, 1) := by decide +kernel
theorem dX8_hits_148 : decode cX8_hits 148 = .ok (.iadd, 1) := by decide +kernel
theorem dX8_hits_149 : decode cX8_hits 149 = .ok (.iaload, 1) := by decide +kernel
theorem dX8_hits_150 : decode cX8_hits 150 = .ok (.imul, 1) := by decide +kernel
theorem dX8_hits_151 : decode cX8_hits 151 = .ok (.aload_n 0, 1) := by decide +kernel
theorem dX8_hits_152 : decode cX8_hits 152 = .ok (.getfield 9, 3) := by decide +kernel
theorem dX8_hits_155 : decode cX8_hits 155 = .ok (.iconst 3, 1) := by decide +kernel
theorem dX8_hits_156 : decode cX8_hits 156 = .ok (.iaload, 1) := by decide +kernel
theorem dX8_hits_157 : decode cX8_hits 157 = .ok (.invokestatic 151, 3) := by decide +kernel
theorem dX8_hits_160 : decode cX8_hits 160 = .ok (.invokevirtual 98, 3) := by decide +kernel
theorem dX8_hits_163 : decode cX8_hits 163 = .ok (.aload_n 0, 1) := by decide +kernel
theorem dX8_hits_164 : decode cX8_hits 164 = .ok (.getfield 9, 3) := by decide +kernel
theorem dX8_hits_167 : decode cX8_hits 167 = .ok (.iload_n 1, 1) := by decide +kernel
theorem dX8_hits_168 : decode cX8_hits 168 = .ok (.iconst 3, 1) := by decide +kernel
theorem dX8_hits_169 : decode cX8_hits 169 = .ok (.iadd, 1) := by decide +kernel
theorem dX8_hits_170 : decode cX8_hits 170 = .ok (.iconst 0, 1) := by decide +kernel
theorem dX8_hits_171 : decode cX8_hits 171 = .ok (.iastore, 1) := by decide +kernel
theorem dX8_hits_172 : decode cX8_hits 172 = .ok (.aload_n 0, 1) := by decide +kernel
theorem dX8_hits_173 : decode cX8_hits 173 = .ok (.getfield 9, 3) := by decide +kernel
theorem dX8_hits_176 : decode cX8_hits 176 = .ok (.iload_n 1, 1) := by decide +kernel
theorem dX8_hits_177 : decode cX8_hits 177 = .ok (.iconst 2, 1) := by decide +kernel
theorem dX8_hits_178 : decode cX8_hits 178 = .ok (.iadd, 1) := by decide +kernel
theorem dX8_hits_179 : decode cX8_hits 179 = .ok (.aload_n 0, 1) := by decide +kernel
theorem dX8_hits_180 : decode cX8_hits 180 = .ok (.invokevirtual 120, 3) := by decide +kernel
theorem dX8_hits_183 : decode cX8_hits 183 = .ok (.iastore, 1) := by decide +kernel
theorem dX8_hits_184 : decode cX8_hits 184 = .ok (.aload_n 0, 1) := by decide +kernel
theorem dX8_hits_185 : decode cX8_hits 185 = .ok (.getfield 9, 3) := by decide +kernel
theorem dX8_hits_188 : decode cX8_hits 188 = .ok (.iload_n 1, 1) := by decide +kernel
theorem dX8_hits_189 : decode cX8_hits 189 = .ok (.iconst 5, 1) := by decide +kernel
theorem dX8_hits_190 : decode cX8_hits 190 = .ok (.iadd, 1) := by decide +kernel
theorem dX8_hits_191 : decode cX8_hits 191 = .ok (.dup2, 1) := by decide +kernel
theorem dX8_hits_192 : decode cX8_hits 192 = .ok (.iaload, 1) := by decide +kernel
theorem dX8_hits_193 : decode cX8_hits 193 = .ok (.iconst 1, 1) := by decide +kernel
theorem dX8_hits_194 : decode cX8_hits 194 = .ok (.iadd, 1) := by decide +kernel
theorem dX8_hits_195 : decode cX8_hits 195 = .ok (.iastore, 1) := by decide +kernel
theorem dX8_hits_196 : decode cX8_hits 196 = .ok (.return_, 1) := by decide +kernel
def mR_hits_163 (N : Nat) (σ : ST) (x1 : Int32) : Option (ST) :=
  zLet ((x1 : Int32) + (3)) fun v169 =>
  zSet σ 1 1974 v169 (0) fun s171 =>
  zLet ((x1 : Int32) + (2)) fun v178 =>
  zCall (mR_stamp N s171) fun v180 s180 =>
  zSet s180 1 1974 v178 v180 fun s183 =>
  zLet ((x1 : Int32) + (5)) fun v190 =>
  zGet (s183 1) 1974 v190 fun v192 =>
  zLet ((v192 : Int32) + (1)) fun v194 =>
  zSet s183 1 1974 v190 v194 fun s195 =>
  some s195
set_option maxRecDepth 20000 in
set_option maxHeartbeats 2000000 in
theorem tR_hits_163 {adr : Nat → Nat} {cI cZ : ClassId} {X : zX} {q : ST} (B : zC X 4 (wdR adr cI cZ) cX8_hits RX8 none { frames := 2, cells := 0, slots := 0, locals := 42 }) (N : Nat) (σ : ST) (x1 : Int32) (hf : mR_hits_163 N σ x1 = some q) : zJ X 4 (wdR adr cI cZ) (zu q) 163 [(0, .ref (adr 0)), (1, .int x1)] [] σ := by
  refine z_aload_n B dX8_hits_163 0 rfl rfl ?_
  refine fR_g_row B dX8_hits_164 ?_
  refine z_iload_n B dX8_hits_167 1 rfl rfl ?_
  refine z_iconst B (3) dX8_hits_168 zc_iconst_3 ?_
  refine z_iadd B dX8_hits_169 hf (fun v169 hf => ?_)
  refine z_iconst B (0) dX8_hits_170 zc_iconst_0 ?_
  refine fR_s_row B dX8_hits_171 hf (fun s171 hf => ?_)
  refine z_aload_n B dX8_hits_172 0 rfl rfl ?_
  refine fR_g_row B dX8_hits_173 ?_
  refine z_iload_n B dX8_hits_176 1 rfl rfl ?_
  refine z_iconst B (2) dX8_hits_177 zc_iconst_2 ?_
  refine z_iadd B dX8_hits_178 hf (fun v178 hf => ?_)
  refine z_aload_n B dX8_hits_179 0 rfl rfl ?_
  refine z_callVi B (As := []) kcV_X8_120 dX8_hits_180 hf (fun q hq => cR_stamp q hq) (wR_o (adr := adr) (cI := cI) (cZ := cZ)) rfl rfl rfl rfl (Nat.le_of_ble_eq_true rfl) rfl rfl ⟨Nat.le_of_ble_eq_true rfl, Nat.le_of_ble_eq_true rfl⟩ (fun v180 s180 hf => ?_)
  refine fR_s_row B dX8_hits_183 hf (fun s183 hf => ?_)
  refine z_aload_n B dX8_hits_184 0 rfl rfl ?_
  refine fR_g_row B dX8_hits_185 ?_
  refine z_iload_n B dX8_hits_188 1 rfl rfl ?_
  refine z_iconst B (5) dX8_hits_189 zc_iconst_5 ?_
  refine z_iadd B dX8_hits_190 hf (fun v190 hf => ?_)
  refine z_dup2 B dX8_hits_191 rfl rfl ?_
  refine fR_l_row B dX8_hits_192 hf (fun v192 hf => ?_)
  refine z_iconst B (1) dX8_hits_193 zc_iconst_1 ?_
  refine z_iadd B dX8_hits_194 hf (fun v194 hf => ?_)
  refine fR_s_row B dX8_hits_195 hf (fun s195 hf => ?_)
  exact z_return B dX8_hits_196 hf
def mR_hits_108 (N : Nat) (σ : ST) (x1 : Int32) (x2 : Int32) (x3 : Int32) : Option (ST) :=
  if (x3 : Int32) ≤ 0 then
    mR_hits_163 N σ x1
  else
    zGet (σ 1) 1974 (27) fun v119 =>
    zLet ((v119 : Int32) + (1)) fun v121 =>
    zSet σ 1 1974 (27) v121 fun s122 =>
    zGet (s122 1) 1974 (28) fun v130 =>
    zLet ((v130 : Int32) + x3) fun v132 =>
    zSet s122 1 1974 (28) v132 fun s133 =>
    if (x2 : Int32) = (-1) then
      mR_hits_163 N s133 x1
    else
      zLet ((x2 : Int32) + (5)) fun v148 =>
      zGet (s133 1) 1974 v148 fun v149 =>
      zLet (((2) : Int32) * v149) fun v150 =>
      zGet (s133 1) 1974 (3) fun v156 =>
      zCall (mR_lesser N s133 v150 v156) fun v157 s157 =>
      zCallu (mR_widens N s157 x2 v157) fun s160 =>
      mR_hits_163 N s160 x1
set_option maxRecDepth 20000 in
set_option maxHeartbeats 2000000 in
theorem tR_hits_108 {adr : Nat → Nat} {cI cZ : ClassId} {X : zX} {q : ST} (B : zC X 4 (wdR adr cI cZ) cX8_hits RX8 none { frames := 2, cells := 0, slots := 0, locals := 42 }) (N : Nat) (σ : ST) (x1 : Int32) (x2 : Int32) (x3 : Int32) (hf : mR_hits_108 N σ x1 x2 x3 = some q) : zJ X 4 (wdR adr cI cZ) (zu q) 108 [(0, .ref (adr 0)), (1, .int x1), (2, .int x2), (3, .int x3)] [] σ := by
  refine z_iload_n B dX8_hits_108 3 rfl rfl ?_
  refine z_if_le B 163 dX8_hits_109 (by decide) hf (fun hf => ?_) (fun hf => ?_)
  · exact z_loc [0, 1] _ rfl (tR_hits_163 B N σ x1 hf)
  · refine z_aload_n B dX8_hits_112 0 rfl rfl ?_
    refine fR_g_row B dX8_hits_113 ?_
    refine z_bipush B (27) dX8_hits_116 zc_bipush_27 ?_
    refine z_dup2 B dX8_hits_118 rfl rfl ?_
    refine fR_l_row B dX8_hits_119 hf (fun v119 hf => ?_)
    refine z_iconst B (1) dX8_hits_120 zc_iconst_1 ?_
    refine z_iadd B dX8_hits_121 hf (fun v121 hf => ?_)
    refine fR_s_row B dX8_hits_122 hf (fun s122 hf => ?_)
    refine z_aload_n B dX8_hits_123 0 rfl rfl ?_
    refine fR_g_row B dX8_hits_124 ?_
    refine z_bipush B (28) dX8_hits_127 zc_bipush_28 ?_
    refine z_dup2 B dX8_hits_129 rfl rfl ?_
    refine fR_l_row B dX8_hits_130 hf (fun v130 hf => ?_)
    refine z_iload_n B dX8_hits_131 3 rfl rfl ?_
    refine z_iadd B dX8_hits_132 hf (fun v132 hf => ?_)
    refine fR_s_row B dX8_hits_133 hf (fun s133 hf => ?_)
    refine z_iload_n B dX8_hits_134 2 rfl rfl ?_
    refine z_iconst B (-1) dX8_hits_135 zc_iconst_m1 ?_
    refine z_icmp_eq B 163 dX8_hits_136 (by decide) hf (fun hf => ?_) (fun hf => ?_)
    · exact z_loc [0, 1] _ rfl (tR_hits_163 B N s133 x1 hf)
    · refine z_aload_n B dX8_hits_139 0 rfl rfl ?_
      refine z_iload_n B dX8_hits_140 2 rfl rfl ?_
      refine z_iconst B (2) dX8_hits_141 zc_iconst_2 ?_
      refine z_aload_n B dX8_hits_142 0 rfl rfl ?_
      refine fR_g_row B dX8_hits_143 ?_
      refine z_iload_n B dX8_hits_146 2 rfl rfl ?_
      refine z_iconst B (5) dX8_hits_147 zc_iconst_5 ?_
      refine z_iadd B dX8_hits_148 hf (fun v148 hf => ?_)
      refine fR_l_row B dX8_hits_149 hf (fun v149 hf => ?_)
      refine z_imul B dX8_hits_150 hf (fun v150 hf => ?_)
      refine z_aload_n B dX8_hits_151 0 rfl rfl ?_
      refine fR_g_row B dX8_hits_152 ?_
      refine z_iconst B (3) dX8_hits_155 zc_iconst_3 ?_
      refine fR_l_row B dX8_hits_156 hf (fun v156 hf => ?_)
      refine z_callSi B (As := [.int v150, .int v156]) kcS_X8_151 dX8_hits_157 hf (fun q hq => cR_lesser q hq) rfl rfl (Nat.le_of_ble_eq_true rfl) rfl rfl ⟨Nat.le_of_ble_eq_true rfl, Nat.le_of_ble_eq_true rfl⟩ (fun v157 s157 hf => ?_)
      refine z_callVu B (As := [.int x2, .int v157]) kcV_X8_98 dX8_hits_160 hf (fun q hq => cR_widens q hq) (wR_o (adr := adr) (cI := cI) (cZ := cZ)) rfl rfl rfl rfl (Nat.le_of_ble_eq_true rfl) rfl rfl ⟨Nat.le_of_ble_eq_true rfl, Nat.le_of_ble_eq_true rfl⟩ (fun s160 hf => ?_)
      exact z_loc [0, 1] _ rfl (tR_hits_163 B N s160 x1 hf)
def mR_hits (N : Nat) (σ : ST) (x1 : Int32) : Option (ST) :=
  zGet (σ 1) 1974 (11) fun v7 =>
  zLet ((v7 : Int32) + (1)) fun v9 =>
  zSet σ 1 1974 (11) v9 fun s10 =>
  zLet ((x1 : Int32) + (7)) fun v18 =>
  zGet (s10 1) 1974 v18 fun v19 =>
  if (v19 : Int32) = (1) then
    zLet ((x1 : Int32) + (4)) fun v31 =>
    zGet (s10 1) 1974 v31 fun v32 =>
    zLet ((v32 : Int32) - (1)) fun v34 =>
    zCall (mR_streamOf N s10 v34) fun v35 s35 =>
    zGet (s35 1) 1974 (9) fun v45 =>
    zGet (s35 1) 1974 (10) fun v52 =>
    zLet ((v52 : Int32) - (1)) fun v54 =>
    zLet ((x1 : Int32) + (6)) fun v62 =>
    zGet (s35 1) 1974 v62 fun v63 =>
    zLet ((v54 : Int32) - v63) fun v64 =>
    zLet ((v45 : Int32) - v64) fun v65 =>
    zLet ((x1 : Int32) + (3)) fun v73 =>
    zGet (s35 1) 1974 v73 fun v74 =>
    if (v74 : Int32) = (1) then
      zGet (s35 1) 1974 (14) fun v86 =>
      zLet ((v86 : Int32) + (1)) fun v88 =>
      zSet s35 1 1974 (14) v88 fun s89 =>
      if (v35 : Int32) = (-1) then
        mR_hits_108 N s89 x1 v35 v65
      else
        zLet ((v35 : Int32) + (10)) fun v102 =>
        zGet (s89 1) 1974 v102 fun v104 =>
        zLet ((v104 : Int32) + (1)) fun v106 =>
        zSet s89 1 1974 v102 v106 fun s107 =>
        mR_hits_108 N s107 x1 v35 v65
    else
      mR_hits_108 N s35 x1 v35 v65
  else
    mR_hits_163 N s10 x1
set_option maxRecDepth 20000 in
set_option maxHeartbeats 2000000 in
theorem cR_hits {adr : Nat → Nat} {cI cZ : ClassId} {l : Launch} {D : va_G} {N : Nat} {σ : ST} {x1 : Int32} (q : ST) (hf : mR_hits N σ x1 = some q) : zM l D (wdR adr cI cZ) yX8_hits cX8_hits 4 none ({ frames := 2, cells := 0, slots := 0, locals := 42 }) [.ref (adr 0), .int x1] σ (zu q) := by
  refine zM_of sfR_ok rfl (Nat.le_of_ble_eq_true rfl) [(0, .ref (adr 0)), (1, .int x1)] rfl (fun X hX1 hX2 B => ?_)
  have B : zC X 4 (wdR adr cI cZ) cX8_hits RX8 none { frames := 2, cells := 0, slots := 0, locals := 42 } := B
  refine z_aload_n B dX8_hits_0 0 rfl rfl ?_
  refine fR_g_row B dX8_hits_1 ?_
  refine z_bipush B (11) dX8_hits_4 zc_bipush_11 ?_
  refine z_dup2 B dX8_hits_6 rfl rfl ?_
  refine fR_l_row B dX8_hits_7 hf (fun v7 hf => ?_)
  refine z_iconst B (1) dX8_hits_8 zc_iconst_1 ?_
  refine z_iadd B dX8_hits_9 hf (fun v9 hf => ?_)
  refine fR_s_row B dX8_hits_10 hf (fun s10 hf => ?_)
  refine z_aload_n B dX8_hits_11 0 rfl rfl ?_
  refine fR_g_row B dX8_hits_12 ?_
  refine z_iload_n B dX8_hits_15 1 rfl rfl ?_
  refine z_bipush B (7) dX8_hits_16 zc_bipush_7 ?_
  refine z_iadd B dX8_hits_18 hf (fun v18 hf => ?_)
  refine fR_l_row B dX8_hits_19 hf (fun v19 hf => ?_)
  refine z_iconst B (1) dX8_hits_20 zc_iconst_1 ?_
  refine z_icmp_ne B 163 dX8_hits_21 (by decide) hf (fun hf => ?_) (fun hf => ?_)
  · exact tR_hits_163 B N s10 x1 hf
  · refine z_aload_n B dX8_hits_24 0 rfl rfl ?_
    refine z_aload_n B dX8_hits_25 0 rfl rfl ?_
    refine fR_g_row B dX8_hits_26 ?_
    refine z_iload_n B dX8_hits_29 1 rfl rfl ?_
    refine z_iconst B (4) dX8_hits_30 zc_iconst_4 ?_
    refine z_iadd B dX8_hits_31 hf (fun v31 hf => ?_)
    refine fR_l_row B dX8_hits_32 hf (fun v32 hf => ?_)
    refine z_iconst B (1) dX8_hits_33 zc_iconst_1 ?_
    refine z_isub B dX8_hits_34 hf (fun v34 hf => ?_)
    refine z_callVi B (As := [.int v34]) kcV_X8_95 dX8_hits_35 hf (fun q hq => cR_streamOf q hq) (wR_o (adr := adr) (cI := cI) (cZ := cZ)) rfl rfl rfl rfl (Nat.le_of_ble_eq_true rfl) rfl rfl ⟨Nat.le_of_ble_eq_true rfl, Nat.le_of_ble_eq_true rfl⟩ (fun v35 s35 hf => ?_)
    refine z_istore_n B [(2, .int v35), (0, .ref (adr 0)), (1, .int x1)] dX8_hits_38 rfl (Nat.le_of_ble_eq_true rfl) rfl ?_
    refine z_aload_n B dX8_hits_39 1 rfl rfl ?_
    refine fR_g_row B dX8_hits_40 ?_
    refine z_bipush B (9) dX8_hits_43 zc_bipush_9 ?_
    refine fR_l_row B dX8_hits_45 hf (fun v45 hf => ?_)
    refine z_aload_n B dX8_hits_46 1 rfl rfl ?_
    refine fR_g_row B dX8_hits_47 ?_
    refine z_bipush B (10) dX8_hits_50 zc_bipush_10 ?_
    refine fR_l_row B dX8_hits_52 hf (fun v52 hf => ?_)
    refine z_iconst B (1) dX8_hits_53 zc_iconst_1 ?_
    refine z_isub B dX8_hits_54 hf (fun v54 hf => ?_)
    refine z_aload_n B dX8_hits_55 1 rfl rfl ?_
    refine fR_g_row B dX8_hits_56 ?_
    refine z_iload_n B dX8_hits_59 2 rfl rfl ?_
    refine z_bipush B (6) dX8_hits_60 zc_bipush_6 ?_
    refine z_iadd B dX8_hits_62 hf (fun v62 hf => ?_)
    refine fR_l_row B dX8_hits_63 hf (fun v63 hf => ?_)
    refine z_isub B dX8_hits_64 hf (fun v64 hf => ?_)
    refine z_isub B dX8_hits_65 hf (fun v65 hf => ?_)
    refine z_istore_n B [(3, .int v65), (2, .int v35), (0, .ref (adr 0)), (1, .int x1)] dX8_hits_66 rfl (Nat.le_of_ble_eq_true rfl) rfl ?_
    refine z_aload_n B dX8_hits_67 2 rfl rfl ?_
    refine fR_g_row B dX8_hits_68 ?_
    refine z_iload_n B dX8_hits_71 3 rfl rfl ?_
    refine z_iconst B (3) dX8_hits_72 zc_iconst_3 ?_
    refine z_iadd B dX8_hits_73 hf (fun v73 hf => ?_)
    refine fR_l_row B dX8_hits_74 hf (fun v74 hf => ?_)
    refine z_iconst B (1) dX8_hits_75 zc_iconst_1 ?_
    refine z_icmp_ne B 108 dX8_hits_76 (by decide) hf (fun hf => ?_) (fun hf => ?_)
    · exact z_loc [2, 3, 1, 0] _ rfl (tR_hits_108 B N s35 x1 v35 v65 hf)
    · refine z_aload_n B dX8_hits_79 2 rfl rfl ?_
      refine fR_g_row B dX8_hits_80 ?_
      refine z_bipush B (14) dX8_hits_83 zc_bipush_14 ?_
      refine z_dup2 B dX8_hits_85 rfl rfl ?_
      refine fR_l_row B dX8_hits_86 hf (fun v86 hf => ?_)
      refine z_iconst B (1) dX8_hits_87 zc_iconst_1 ?_
      refine z_iadd B dX8_hits_88 hf (fun v88 hf => ?_)
      refine fR_s_row B dX8_hits_89 hf (fun s89 hf => ?_)
      refine z_iload_n B dX8_hits_90 1 rfl rfl ?_
      refine z_iconst B (-1) dX8_hits_91 zc_iconst_m1 ?_
      refine z_icmp_eq B 108 dX8_hits_92 (by decide) hf (fun hf => ?_) (fun hf => ?_)
      · exact z_loc [2, 3, 1, 0] _ rfl (tR_hits_108 B N s89 x1 v35 v65 hf)
      · refine z_aload_n B dX8_hits_95 2 rfl rfl ?_
        refine fR_g_row B dX8_hits_96 ?_
        refine z_iload_n B dX8_hits_99 1 rfl rfl ?_
        refine z_bipush B (10) dX8_hits_100 zc_bipush_10 ?_
        refine z_iadd B dX8_hits_102 hf (fun v102 hf => ?_)
        refine z_dup2 B dX8_hits_103 rfl rfl ?_
        refine fR_l_row B dX8_hits_104 hf (fun v104 hf => ?_)
        refine z_iconst B (1) dX8_hits_105 zc_iconst_1 ?_
        refine z_iadd B dX8_hits_106 hf (fun v106 hf => ?_)
        refine fR_s_row B dX8_hits_107 hf (fun s107 hf => ?_)
        exact z_loc [2, 3, 1, 0] _ rfl (tR_hits_108 B N s107 x1 v35 v65 hf)
theorem dX8_readOne_0 : decode cX8_readOne 0 = .ok (.aload_n 0, 1) := by decide +kernel
theorem dX8_readOne_1 : decode cX8_readOne 1 = .ok (.iconst 0, 1) := by decide +kernel
theorem dX8_readOne_2 : decode cX8_readOne 2 = .ok (.putfield 127, 3) := by decide +kernel
theorem dX8_readOne_5 : decode cX8_readOne 5 = .ok (.aload_n 0, 1) := by decide +kernel
theorem dX8_readOne_6 : decode cX8_readOne 6 = .ok (.iconst 0, 1) := by decide +kernel
theorem dX8_readOne_7 : decode cX8_readOne 7 = .ok (.putfield 139, 3) := by decide +kernel
theorem dX8_readOne_10 : decode cX8_readOne 10 = .ok (.aload_n 0, 1) := by decide +kernel
theorem dX8_readOne_11 : decode cX8_readOne 11 = .ok (.iconst 0, 1) := by decide +kernel
theorem dX8_readOne_12 : decode cX8_readOne 12 = .ok (.putfield 92, 3) := by decide +kernel
theorem dX8_readOne_15 : decode cX8_readOne 15 = .ok (.aload_n 0, 1) := by decide +kernel
theorem dX8_readOne_16 : decode cX8_readOne 16 = .ok (.iconst 0, 1) := by decide +kernel
theorem dX8_readOne_17 : decode cX8_readOne 17 = .ok (.putfield 170, 3) := by decide +kernel
theorem dX8_readOne_20 : decode cX8_readOne 20 = .ok (.aload_n 0, 1) := by decide +kernel
theorem dX8_readOne_21 : decode cX8_readOne 21 = .ok (.iconst (-1), 1) := by decide +kernel
theorem dX8_readOne_22 : decode cX8_readOne 22 = .ok (.putfield 167, 3) := by decide +kernel
theorem dX8_readOne_25 : decode cX8_readOne 25 = .ok (.aload_n 0, 1) := by decide +kernel
theorem dX8_readOne_26 : decode cX8_readOne 26 = .ok (.iload_n 1, 1) := by decide +kernel
theorem dX8_readOne_27 : decode cX8_readOne 27 = .ok (.invokevirtual 136, 3) := by decide +kernel
theorem dX8_readOne_30 : decode cX8_readOne 30 = .ok (.istore_n 2, 1) := by decide +kernel
theorem dX8_readOne_31 : decode cX8_readOne 31 = .ok (.iload_n 2, 1) := by decide +kernel
theorem dX8_readOne_32 : decode cX8_readOne 32 = .ok (.iconst (-1), 1) := by decide +kernel
theorem dX8_readOne_33 : decode cX8_readOne 33 = .ok (.if_icmp .ne 26, 3) := by decide +kernel
theorem dX8_readOne_36 : decode cX8_readOne 36 = .ok (.aload_n 0, 1) := by decide +kernel
theorem dX8_readOne_37 : decode cX8_readOne 37 = .ok (.getfield 24, 3) := by decide +kernel
theorem dX8_readOne_40 : decode cX8_readOne 40 = .ok (.iload_n 1, 1) := by decide +kernel
theorem dX8_readOne_41 : decode cX8_readOne 41 = .ok (.baload, 1) := by decide +kernel
theorem dX8_readOne_42 : decode cX8_readOne 42 = .ok (.ifCond .eq 17, 3) := by decide +kernel
theorem dX8_readOne_45 : decode cX8_readOne 45 = .ok (.aload_n 0, 1) := by decide +kernel
theorem dX8_readOne_46 : decode cX8_readOne 46 = .ok (.getfield 9, 3) := by decide +kernel
theorem dX8_readOne_49 : decode cX8_readOne 49 = .ok (.bipush 13, 2) := by decide +kernel
theorem dX8_readOne_51 : decode cX8_readOne 51 = .ok (.dup2, 1) := by decide +kernel
theorem dX8_readOne_52 : decode cX8_readOne 52 = .ok (.iaload, 1) := by decide +kernel
theorem dX8_readOne_53 : decode cX8_readOne 53 = .ok (.iconst 1, 1) := by decide +kernel
theorem dX8_readOne_54 : decode cX8_readOne 54 = .ok (.iadd, 1) := by decide +kernel
theorem dX8_readOne_55 : decode cX8_readOne 55 = .ok (.iastore, 1) := by decide +kernel
theorem dX8_readOne_56 : decode cX8_readOne 56 = .ok (.bipush (-2), 2) := by decide +kernel
theorem dX8_readOne_58 : decode cX8_readOne 58 = .ok (.ireturn, 1) := by decide +kernel
theorem dX8_readOne_59 : decode cX8_readOne 59 = .ok (.aload_n 0, 1) := by decide +kernel
theorem dX8_readOne_60 : decode cX8_readOne 60 = .ok (.getfield 9, 3) := by decide +kernel
theorem dX8_readOne_63 : decode cX8_readOne 63 = .ok (.bipush 10, 2) := by decide +kernel
theorem dX8_readOne_65 : decode cX8_readOne 65 = .ok (.dup2, 1) := by decide +kernel
theorem dX8_readOne_66 : decode cX8_readOne 66 = .ok (.iaload, 1) := by decide +kernel
theorem dX8_readOne_67 : decode cX8_readOne 67 = .ok (.iconst 1, 1) := by decide +kernel
theorem dX8_readOne_68 : decode cX8_readOne 68 = .ok (.iadd, 1) := by decide +kernel
theorem dX8_readOne_69 : decode cX8_readOne 69 = .ok (.iastore, 1) := by decide +kernel
theorem dX8_readOne_70 : decode cX8_readOne 70 = .ok (.iload_n 2, 1) := by decide +kernel
theorem dX8_readOne_71 : decode cX8_readOne 71 = .ok (.iconst (-1), 1) := by decide +kernel
theorem dX8_readOne_72 : decode cX8_readOne 72 = .ok (.if_icmp .eq 11, 3) := by decide +kernel
theorem dX8_readOne_75 : decode cX8_readOne 75 = .ok (.aload_n 0, 1) := by decide +kernel
theorem dX8_readOne_76 : decode cX8_readOne 76 = .ok (.iload_n 2, 1) := by decide +kernel
theorem dX8_readOne_77 : decode cX8_readOne 77 = .ok (.invokevirtual 185, 3) := by decide +kernel
theorem dX8_readOne_80 : decode cX8_readOne 80 = .ok (.goto 27, 3) := by decide +kernel
theorem dX8_readOne_83 : decode cX8_readOne 83 = .ok (.aload_n 0, 1) := by decide +kernel
theorem dX8_readOne_84 : decode cX8_readOne 84 = .ok (.getfield 9, 3) := by decide +kernel
theorem dX8_readOne_87 : decode cX8_readOne 87 = .ok (.bipush 12, 2) := by decide +kernel
theorem dX8_readOne_89 : decode cX8_readOne 89 = .ok (.dup2, 1) := by decide +kernel
theorem dX8_readOne_90 : decode cX8_readOne 90 = .ok (.iaload, 1) := by decide +kernel
theorem dX8_readOne_91 : decode cX8_readOne 91 = .ok (.iconst 1, 1) := by decide +kernel
theorem dX8_readOne_92 : decode cX8_readOne 92 = .ok (.iadd, 1) := by decide +kernel
theorem dX8_readOne_93 : decode cX8_readOne 93 = .ok (.iastore, 1) := by decide +kernel
theorem dX8_readOne_94 : decode cX8_readOne 94 = .ok (.aload_n 0, 1) := by decide +kernel
theorem dX8_readOne_95 : decode cX8_readOne 95 = .ok (.iload_n 1, 1) := by decide +kernel
theorem dX8_readOne_96 : decode cX8_readOne 96 = .ok (.iload_n 1, 1) := by decide +kernel
theorem dX8_readOne_97 : decode cX8_readOne 97 = .ok (.iconst (-1), 1) := by decide +kernel
theorem dX8_readOne_98 : decode cX8_readOne 98 = .ok (.invokevirtual 123, 3) := by decide +kernel
theorem dX8_readOne_101 : decode cX8_readOne 101 = .ok (.aload_n 0, 1) := by decide +kernel
theorem dX8_readOne_102 : decode cX8_readOne 102 = .ok (.iload_n 1, 1) := by decide +kernel
theorem dX8_readOne_103 : decode cX8_readOne 103 = .ok (.invokevirtual 136, 3) := by decide +kernel
theorem dX8_readOne_106 : decode cX8_readOne 106 = .ok (.istore_n 2, 1) := by decide +kernel
theorem dX8_readOne_107 : decode cX8_readOne 107 = .ok (.aload_n 0, 1) := by decide +kernel
theorem dX8_readOne_108 : decode cX8_readOne 108 = .ok (.getfield 9, 3) := by decide +kernel
theorem dX8_readOne_111 : decode cX8_readOne 111 = .ok (.iload_n 2, 1) := by decide +kernel
theorem dX8_readOne_112 : decode cX8_readOne 112 = .ok (.iconst 1, 1) := by decide +kernel
theorem dX8_readOne_113 : decode cX8_readOne 113 = .ok (.iadd, 1) := by decide +kernel
theorem dX8_readOne_114 : decode cX8_readOne 114 = .ok (.iaload, 1) := by decide +kernel
theorem dX8_readOne_115 : decode cX8_readOne 115 = .ok (.istore_n 3, 1) := by decide +kernel
theorem dX8_readOne_116 : decode cX8_readOne 116 = .ok (.aload_n 0, 1) := by decide +kernel
theorem dX8_readOne_117 : decode cX8_readOne 117 = .ok (.iload_n 1, 1) := by decide +kernel
theorem dX8_readOne_118 : decode cX8_readOne 118 = .ok (.invokevirtual 188, 3) := by decide +kernel
theorem dX8_readOne_121 : decode cX8_readOne 121 = .ok (.aload_n 0, 1) := by decide +kernel
theorem dX8_readOne_122 : decode cX8_readOne 122 = .ok (.getfield 9, 3) := by decide +kernel
theorem dX8_readOne_125 : decode cX8_readOne 125 = .ok (.aload_n 0, 1) := by decide +kernel
theorem dX8_readOne_126 : decode cX8_readOne 126 = .ok (.getfield 167, 3) := by decide +kernel
theorem dX8_readOne_129 : decode cX8_readOne 129 = .ok (.iconst 1, 1) := by decide +kernel
theorem dX8_readOne_130 : decode cX8_readOne 130 = .ok (.iadd, 1) := by decide +kernel
theorem dX8_readOne_131 : decode cX8_readOne 131 = .ok (.iaload, 1) := by decide +kernel
theorem dX8_readOne_132 : decode cX8_readOne 132 = .ok (.istore 4, 2) := by decide +kernel
theorem dX8_readOne_134 : decode cX8_readOne 134 = .ok (.aload_n 0, 1) := by decide +kernel
theorem dX8_readOne_135 : decode cX8_readOne 135 = .ok (.invokevirtual 191, 3) := by decide +kernel
theorem dX8_readOne_138 : decode cX8_readOne 138 = .ok (.aload_n 0, 1) := by decide +kernel
theorem dX8_readOne_139 : decode cX8_readOne 139 = .ok (.iload_n 1, 1) := by decide +kernel
theorem dX8_readOne_140 : decode cX8_readOne 140 = .ok (.iload 4, 2) := by decide +kernel
theorem dX8_readOne_142 : decode cX8_readOne 142 = .ok (.invokevirtual 194, 3) := by decide +kernel
theorem dX8_readOne_145 : decode cX8_readOne 145 = .ok (.iload_n 3, 1) := by decide +kernel
theorem dX8_readOne_146 : decode cX8_readOne 146 = .ok (.ireturn, 1) := by decide +kernel
def mR_readOne_107 (N : Nat) (σ : ST) (x1 : Int32) (x2 : Int32) : Option (Int32 × ST) :=
  zLet ((x2 : Int32) + (1)) fun v113 =>
  zGet (σ 1) 1974 v113 fun v114 =>
  zCallu (mR_finds N σ x1) fun s118 =>
  zLet (s118 0 12) fun v126 =>
  zLet ((v126 : Int32) + (1)) fun v130 =>
  zGet (s118 1) 1974 v130 fun v131 =>
  zCallu (mR_joins N s118) fun s135 =>
  zCallu (mR_traces N s135 x1 v131) fun s142 =>
  some (v114, s142)
set_option maxRecDepth 20000 in
set_option maxHeartbeats 2000000 in
theorem tR_readOne_107 {adr : Nat → Nat} {cI cZ : ClassId} {X : zX} {q : Int32 × ST} (B : zC X 5 (wdR adr cI cZ) cX8_readOne RX8 (some .int) { frames := 8, cells := 0, slots := 0, locals := 183 }) (N : Nat) (σ : ST) (x1 : Int32) (x2 : Int32) (hf : mR_readOne_107 N σ x1 x2 = some q) : zJ X 5 (wdR adr cI cZ) (zi q) 107 [(0, .ref (adr 0)), (1, .int x1), (2, .int x2)] [] σ := by
  refine z_aload_n B dX8_readOne_107 0 rfl rfl ?_
  refine fR_g_row B dX8_readOne_108 ?_
  refine z_iload_n B dX8_readOne_111 2 rfl rfl ?_
  refine z_iconst B (1) dX8_readOne_112 zc_iconst_1 ?_
  refine z_iadd B dX8_readOne_113 hf (fun v113 hf => ?_)
  refine fR_l_row B dX8_readOne_114 hf (fun v114 hf => ?_)
  refine z_istore_n B [(3, .int v114), (0, .ref (adr 0)), (1, .int x1), (2, .int x2)] dX8_readOne_115 rfl (Nat.le_of_ble_eq_true rfl) rfl ?_
  refine z_aload_n B dX8_readOne_116 1 rfl rfl ?_
  refine z_iload_n B dX8_readOne_117 2 rfl rfl ?_
  refine z_callVu B (As := [.int x1]) kcV_X8_188 dX8_readOne_118 hf (fun q hq => cR_finds q hq) (wR_o (adr := adr) (cI := cI) (cZ := cZ)) rfl rfl rfl rfl (Nat.le_of_ble_eq_true rfl) rfl rfl ⟨Nat.le_of_ble_eq_true rfl, Nat.le_of_ble_eq_true rfl⟩ (fun s118 hf => ?_)
  refine z_aload_n B dX8_readOne_121 1 rfl rfl ?_
  refine fR_g_row B dX8_readOne_122 ?_
  refine z_aload_n B dX8_readOne_125 1 rfl rfl ?_
  refine fR_g_its B dX8_readOne_126 hf (fun v126 hf => ?_)
  refine z_iconst B (1) dX8_readOne_129 zc_iconst_1 ?_
  refine z_iadd B dX8_readOne_130 hf (fun v130 hf => ?_)
  refine fR_l_row B dX8_readOne_131 hf (fun v131 hf => ?_)
  refine z_istore B [(4, .int v131), (3, .int v114), (0, .ref (adr 0)), (1, .int x1), (2, .int x2)] dX8_readOne_132 (Nat.le_of_ble_eq_true rfl) rfl ?_
  refine z_aload_n B dX8_readOne_134 2 rfl rfl ?_
  refine z_callVu B (As := []) kcV_X8_191 dX8_readOne_135 hf (fun q hq => cR_joins q hq) (wR_o (adr := adr) (cI := cI) (cZ := cZ)) rfl rfl rfl rfl (Nat.le_of_ble_eq_true rfl) rfl rfl ⟨Nat.le_of_ble_eq_true rfl, Nat.le_of_ble_eq_true rfl⟩ (fun s135 hf => ?_)
  refine z_aload_n B dX8_readOne_138 2 rfl rfl ?_
  refine z_iload_n B dX8_readOne_139 3 rfl rfl ?_
  refine z_iload B dX8_readOne_140 0 rfl ?_
  refine z_callVu B (As := [.int x1, .int v131]) kcV_X8_194 dX8_readOne_142 hf (fun q hq => cR_traces q hq) (wR_o (adr := adr) (cI := cI) (cZ := cZ)) rfl rfl rfl rfl (Nat.le_of_ble_eq_true rfl) rfl rfl ⟨Nat.le_of_ble_eq_true rfl, Nat.le_of_ble_eq_true rfl⟩ (fun s142 hf => ?_)
  refine z_iload_n B dX8_readOne_145 1 rfl rfl ?_
  exact z_ireturn B dX8_readOne_146 hf
def mR_readOne_59 (N : Nat) (σ : ST) (x1 : Int32) (x2 : Int32) : Option (Int32 × ST) :=
  zGet (σ 1) 1974 (10) fun v66 =>
  zLet ((v66 : Int32) + (1)) fun v68 =>
  zSet σ 1 1974 (10) v68 fun s69 =>
  if (x2 : Int32) = (-1) then
    zGet (s69 1) 1974 (12) fun v90 =>
    zLet ((v90 : Int32) + (1)) fun v92 =>
    zSet s69 1 1974 (12) v92 fun s93 =>
    zCallu (mR_put N s93 x1 x1 (-1)) fun s98 =>
    zCall (mR_place N s98 x1) fun v103 s103 =>
    mR_readOne_107 N s103 x1 v103
  else
    zCallu (mR_hits N s69 x2) fun s77 =>
    mR_readOne_107 N s77 x1 x2
set_option maxRecDepth 20000 in
set_option maxHeartbeats 2000000 in
theorem tR_readOne_59 {adr : Nat → Nat} {cI cZ : ClassId} {X : zX} {q : Int32 × ST} (B : zC X 5 (wdR adr cI cZ) cX8_readOne RX8 (some .int) { frames := 8, cells := 0, slots := 0, locals := 183 }) (N : Nat) (σ : ST) (x1 : Int32) (x2 : Int32) (hf : mR_readOne_59 N σ x1 x2 = some q) : zJ X 5 (wdR adr cI cZ) (zi q) 59 [(0, .ref (adr 0)), (1, .int x1), (2, .int x2)] [] σ := by
  refine z_aload_n B dX8_readOne_59 0 rfl rfl ?_
  refine fR_g_row B dX8_readOne_60 ?_
  refine z_bipush B (10) dX8_readOne_63 zc_bipush_10 ?_
  refine z_dup2 B dX8_readOne_65 rfl rfl ?_
  refine fR_l_row B dX8_readOne_66 hf (fun v66 hf => ?_)
  refine z_iconst B (1) dX8_readOne_67 zc_iconst_1 ?_
  refine z_iadd B dX8_readOne_68 hf (fun v68 hf => ?_)
  refine fR_s_row B dX8_readOne_69 hf (fun s69 hf => ?_)
  refine z_iload_n B dX8_readOne_70 2 rfl rfl ?_
  refine z_iconst B (-1) dX8_readOne_71 zc_iconst_m1 ?_
  refine z_icmp_eq B 83 dX8_readOne_72 (by decide) hf (fun hf => ?_) (fun hf => ?_)
  · refine z_aload_n B dX8_readOne_83 0 rfl rfl ?_
    refine fR_g_row B dX8_readOne_84 ?_
    refine z_bipush B (12) dX8_readOne_87 zc_bipush_12 ?_
    refine z_dup2 B dX8_readOne_89 rfl rfl ?_
    refine fR_l_row B dX8_readOne_90 hf (fun v90 hf => ?_)
    refine z_iconst B (1) dX8_readOne_91 zc_iconst_1 ?_
    refine z_iadd B dX8_readOne_92 hf (fun v92 hf => ?_)
    refine fR_s_row B dX8_readOne_93 hf (fun s93 hf => ?_)
    refine z_aload_n B dX8_readOne_94 0 rfl rfl ?_
    refine z_iload_n B dX8_readOne_95 1 rfl rfl ?_
    refine z_iload_n B dX8_readOne_96 1 rfl rfl ?_
    refine z_iconst B (-1) dX8_readOne_97 zc_iconst_m1 ?_
    refine z_callVu B (As := [.int x1, .int x1, .int (-1)]) kcV_X8_123 dX8_readOne_98 hf (fun q hq => cR_put q hq) (wR_o (adr := adr) (cI := cI) (cZ := cZ)) rfl rfl rfl rfl (Nat.le_of_ble_eq_true rfl) rfl rfl ⟨Nat.le_of_ble_eq_true rfl, Nat.le_of_ble_eq_true rfl⟩ (fun s98 hf => ?_)
    refine z_aload_n B dX8_readOne_101 0 rfl rfl ?_
    refine z_iload_n B dX8_readOne_102 1 rfl rfl ?_
    refine z_callVi B (As := [.int x1]) kcV_X8_136 dX8_readOne_103 hf (fun q hq => cR_place q hq) (wR_o (adr := adr) (cI := cI) (cZ := cZ)) rfl rfl rfl rfl (Nat.le_of_ble_eq_true rfl) rfl rfl ⟨Nat.le_of_ble_eq_true rfl, Nat.le_of_ble_eq_true rfl⟩ (fun v103 s103 hf => ?_)
    refine z_istore_n B [(2, .int v103), (0, .ref (adr 0)), (1, .int x1)] dX8_readOne_106 rfl (Nat.le_of_ble_eq_true rfl) rfl ?_
    exact z_loc [1, 2, 0] _ rfl (tR_readOne_107 B N s103 x1 v103 hf)
  · refine z_aload_n B dX8_readOne_75 0 rfl rfl ?_
    refine z_iload_n B dX8_readOne_76 2 rfl rfl ?_
    refine z_callVu B (As := [.int x2]) kcV_X8_185 dX8_readOne_77 hf (fun q hq => cR_hits q hq) (wR_o (adr := adr) (cI := cI) (cZ := cZ)) rfl rfl rfl rfl (Nat.le_of_ble_eq_true rfl) rfl rfl ⟨Nat.le_of_ble_eq_true rfl, Nat.le_of_ble_eq_true rfl⟩ (fun s77 hf => ?_)
    refine z_goto B 107 dX8_readOne_80 (by decide) ?_
    exact tR_readOne_107 B N s77 x1 x2 hf
def mR_readOne (N : Nat) (σ : ST) (x1 : Int32) : Option (Int32 × ST) :=
  zLet (zUp σ 0 13 (0)) fun s2 =>
  zLet (zUp s2 0 15 (0)) fun s7 =>
  zLet (zUp s7 0 16 (0)) fun s12 =>
  zLet (zUp s12 0 11 (0)) fun s17 =>
  zLet (zUp s17 0 12 (-1)) fun s22 =>
  zCall (mR_place N s22 x1) fun v27 s27 =>
  if (v27 : Int32) = (-1) then
    zGet (s27 5) 10000 x1 fun v41 =>
    if (v41 : Int32) = 0 then
      mR_readOne_59 N s27 x1 v27
    else
      zGet (s27 1) 1974 (13) fun v52 =>
      zLet ((v52 : Int32) + (1)) fun v54 =>
      zSet s27 1 1974 (13) v54 fun s55 =>
      some ((-2), s55)
  else
    mR_readOne_59 N s27 x1 v27
set_option maxRecDepth 20000 in
set_option maxHeartbeats 2000000 in
theorem cR_readOne {adr : Nat → Nat} {cI cZ : ClassId} {l : Launch} {D : va_G} {N : Nat} {σ : ST} {x1 : Int32} (q : Int32 × ST) (hf : mR_readOne N σ x1 = some q) : zM l D (wdR adr cI cZ) yX8_readOne cX8_readOne 5 (some .int) ({ frames := 8, cells := 0, slots := 0, locals := 183 }) [.ref (adr 0), .int x1] σ (zi q) := by
  refine zM_of sfR_ok rfl (Nat.le_of_ble_eq_true rfl) [(0, .ref (adr 0)), (1, .int x1)] rfl (fun X hX1 hX2 B => ?_)
  have B : zC X 5 (wdR adr cI cZ) cX8_readOne RX8 (some .int) { frames := 8, cells := 0, slots := 0, locals := 183 } := B
  refine z_aload_n B dX8_readOne_0 0 rfl rfl ?_
  refine z_iconst B (0) dX8_readOne_1 zc_iconst_0 ?_
  refine fR_p_plannedMany B dX8_readOne_2 hf (fun s2 hf => ?_)
  refine z_aload_n B dX8_readOne_5 0 rfl rfl ?_
  refine z_iconst B (0) dX8_readOne_6 zc_iconst_0 ?_
  refine fR_p_sharedNow B dX8_readOne_7 hf (fun s7 hf => ?_)
  refine z_aload_n B dX8_readOne_10 0 rfl rfl ?_
  refine z_iconst B (0) dX8_readOne_11 zc_iconst_0 ?_
  refine fR_p_wastedNow B dX8_readOne_12 hf (fun s12 hf => ?_)
  refine z_aload_n B dX8_readOne_15 0 rfl rfl ?_
  refine z_iconst B (0) dX8_readOne_16 zc_iconst_0 ?_
  refine fR_p_how B dX8_readOne_17 hf (fun s17 hf => ?_)
  refine z_aload_n B dX8_readOne_20 0 rfl rfl ?_
  refine z_iconst B (-1) dX8_readOne_21 zc_iconst_m1 ?_
  refine fR_p_its B dX8_readOne_22 hf (fun s22 hf => ?_)
  refine z_aload_n B dX8_readOne_25 0 rfl rfl ?_
  refine z_iload_n B dX8_readOne_26 1 rfl rfl ?_
  refine z_callVi B (As := [.int x1]) kcV_X8_136 dX8_readOne_27 hf (fun q hq => cR_place q hq) (wR_o (adr := adr) (cI := cI) (cZ := cZ)) rfl rfl rfl rfl (Nat.le_of_ble_eq_true rfl) rfl rfl ⟨Nat.le_of_ble_eq_true rfl, Nat.le_of_ble_eq_true rfl⟩ (fun v27 s27 hf => ?_)
  refine z_istore_n B [(2, .int v27), (0, .ref (adr 0)), (1, .int x1)] dX8_readOne_30 rfl (Nat.le_of_ble_eq_true rfl) rfl ?_
  refine z_iload_n B dX8_readOne_31 0 rfl rfl ?_
  refine z_iconst B (-1) dX8_readOne_32 zc_iconst_m1 ?_
  refine z_icmp_ne B 59 dX8_readOne_33 (by decide) hf (fun hf => ?_) (fun hf => ?_)
  · exact z_loc [1, 2, 0] _ rfl (tR_readOne_59 B N s27 x1 v27 hf)
  · refine z_aload_n B dX8_readOne_36 1 rfl rfl ?_
    refine fR_g_isBad B dX8_readOne_37 ?_
    refine z_iload_n B dX8_readOne_40 2 rfl rfl ?_
    refine fR_l_isBad B dX8_readOne_41 hf (fun v41 hf => ?_)
    refine z_if_eq B 59 dX8_readOne_42 (by decide) hf (fun hf => ?_) (fun hf => ?_)
    · exact z_loc [1, 2, 0] _ rfl (tR_readOne_59 B N s27 x1 v27 hf)
    · refine z_aload_n B dX8_readOne_45 1 rfl rfl ?_
      refine fR_g_row B dX8_readOne_46 ?_
      refine z_bipush B (13) dX8_readOne_49 zc_bipush_13 ?_
      refine z_dup2 B dX8_readOne_51 rfl rfl ?_
      refine fR_l_row B dX8_readOne_52 hf (fun v52 hf => ?_)
      refine z_iconst B (1) dX8_readOne_53 zc_iconst_1 ?_
      refine z_iadd B dX8_readOne_54 hf (fun v54 hf => ?_)
      refine fR_s_row B dX8_readOne_55 hf (fun s55 hf => ?_)
      refine z_bipush B (-2) dX8_readOne_56 zc_bipush_m2 ?_
      exact z_ireturn B dX8_readOne_58 hf
theorem dX8_read_0 : decode cX8_read 0 = .ok (.aload_n 0, 1) := by decide +kernel
theorem dX8_read_1 : decode cX8_read 1 = .ok (.iconst 0, 1) := by decide +kernel
theorem dX8_read_2 : decode cX8_read 2 = .ok (.putfield 67, 3) := by decide +kernel
theorem dX8_read_5 : decode cX8_read 5 = .ok (.aload_n 0, 1) := by decide +kernel
theorem dX8_read_6 : decode cX8_read 6 = .ok (.iload_n 1, 1) := by decide +kernel
theorem dX8_read_7 : decode cX8_read 7 = .ok (.invokevirtual 132, 3) := by decide +kernel
theorem dX8_read_10 : decode cX8_read 10 = .ok (.ifCond .eq 11, 3) := by decide +kernel
theorem dX8_read_13 : decode cX8_read 13 = .ok (.aload_n 0, 1) := by decide +kernel
theorem dX8_read_14 : decode cX8_read 14 = .ok (.iload_n 1, 1) := by decide +kernel
theorem dX8_read_15 : decode cX8_read 15 = .ok (.invokevirtual 197, 3) := by decide +kernel
theorem dX8_read_18 : decode cX8_read 18 = .ok (.goto 4, 3) := by decide +kernel
theorem dX8_read_21 : decode cX8_read 21 = .ok (.iconst (-1), 1) := by decide +kernel
theorem dX8_read_22 : decode cX8_read 22 = .ok (.ireturn, 1) := by decide +kernel
def mR_read_22 (N : Nat) (σ : ST) (x1 : Int32) (k0 : Int32) : Option (Int32 × ST) :=
  some (k0, σ)
set_option maxRecDepth 20000 in
set_option maxHeartbeats 2000000 in
theorem tR_read_22 {adr : Nat → Nat} {cI cZ : ClassId} {X : zX} {q : Int32 × ST} (B : zC X 2 (wdR adr cI cZ) cX8_read RX8 (some .int) { frames := 9, cells := 0, slots := 0, locals := 207 }) (N : Nat) (σ : ST) (x1 : Int32) (k0 : Int32) (hf : mR_read_22 N σ x1 k0 = some q) : zJ X 2 (wdR adr cI cZ) (zi q) 22 [(0, .ref (adr 0)), (1, .int x1)] [.int k0] σ := by
  exact z_ireturn B dX8_read_22 hf
def mR_read (N : Nat) (σ : ST) (x1 : Int32) : Option (Int32 × ST) :=
  zLet (zUp σ 0 0 (0)) fun s2 =>
  zCall (mR_isBlock N s2 x1) fun v7 s7 =>
  if (v7 : Int32) = 0 then
    mR_read_22 N s7 x1 (-1)
  else
    zCall (mR_readOne N s7 x1) fun v15 s15 =>
    mR_read_22 N s15 x1 v15
set_option maxRecDepth 20000 in
set_option maxHeartbeats 2000000 in
theorem cR_read {adr : Nat → Nat} {cI cZ : ClassId} {l : Launch} {D : va_G} {N : Nat} {σ : ST} {x1 : Int32} (q : Int32 × ST) (hf : mR_read N σ x1 = some q) : zM l D (wdR adr cI cZ) yX8_read cX8_read 2 (some .int) ({ frames := 9, cells := 0, slots := 0, locals := 207 }) [.ref (adr 0), .int x1] σ (zi q) := by
  refine zM_of sfR_ok rfl (Nat.le_of_ble_eq_true rfl) [(0, .ref (adr 0)), (1, .int x1)] rfl (fun X hX1 hX2 B => ?_)
  have B : zC X 2 (wdR adr cI cZ) cX8_read RX8 (some .int) { frames := 9, cells := 0, slots := 0, locals := 207 } := B
  refine z_aload_n B dX8_read_0 0 rfl rfl ?_
  refine z_iconst B (0) dX8_read_1 zc_iconst_0 ?_
  refine fR_p_thrown B dX8_read_2 hf (fun s2 hf => ?_)
  refine z_aload_n B dX8_read_5 0 rfl rfl ?_
  refine z_iload_n B dX8_read_6 1 rfl rfl ?_
  refine z_callVi B (As := [.int x1]) kcV_X8_132 dX8_read_7 hf (fun q hq => cR_isBlock q hq) (wR_o (adr := adr) (cI := cI) (cZ := cZ)) rfl rfl rfl rfl (Nat.le_of_ble_eq_true rfl) rfl rfl ⟨Nat.le_of_ble_eq_true rfl, Nat.le_of_ble_eq_true rfl⟩ (fun v7 s7 hf => ?_)
  refine z_if_eq B 21 dX8_read_10 (by decide) hf (fun hf => ?_) (fun hf => ?_)
  · refine z_iconst B (-1) dX8_read_21 zc_iconst_m1 ?_
    exact tR_read_22 B N s7 x1 (-1) hf
  · refine z_aload_n B dX8_read_13 0 rfl rfl ?_
    refine z_iload_n B dX8_read_14 1 rfl rfl ?_
    refine z_callVi B (As := [.int x1]) kcV_X8_197 dX8_read_15 hf (fun q hq => cR_readOne q hq) (wR_o (adr := adr) (cI := cI) (cZ := cZ)) rfl rfl rfl rfl (Nat.le_of_ble_eq_true rfl) rfl rfl ⟨Nat.le_of_ble_eq_true rfl, Nat.le_of_ble_eq_true rfl⟩ (fun v15 s15 hf => ?_)
    refine z_goto B 22 dX8_read_18 (by decide) ?_
    exact tR_read_22 B N s15 x1 v15 hf
theorem dX8_reads_0 : decode cX8_reads 0 = .ok (.aload_n 0, 1) := by decide +kernel
theorem dX8_reads_1 : decode cX8_reads 1 = .ok (.iconst 0, 1) := by decide +kernel
theorem dX8_reads_2 : decode cX8_reads 2 = .ok (.putfield 67, 3) := by decide +kernel
theorem dX8_reads_5 : decode cX8_reads 5 = .ok (.iload_n 3, 1) := by decide +kernel
theorem dX8_reads_6 : decode cX8_reads 6 = .ok (.i2l, 1) := by decide +kernel
theorem dX8_reads_7 : decode cX8_reads 7 = .ok (.lconst 1, 1) := by decide +kernel
theorem dX8_reads_8 : decode cX8_reads 8 = .ok (.ldc2_w 200, 3) := by decide +kernel
theorem dX8_reads_11 : decode cX8_reads 11 = .ok (.invokestatic 71, 3) := by decide +kernel
theorem dX8_reads_14 : decode cX8_reads 14 = .ok (.ifCond .ne 5, 3) := by decide +kernel
theorem dX8_reads_17 : decode cX8_reads 17 = .ok (.iconst (-1), 1) := by decide +kernel
theorem dX8_reads_18 : decode cX8_reads 18 = .ok (.ireturn, 1) := by decide +kernel
theorem dX8_reads_19 : decode cX8_reads 19 = .ok (.aload_n 0, 1) := by decide +kernel
theorem dX8_reads_20 : decode cX8_reads 20 = .ok (.getfield 9, 3) := by decide +kernel
theorem dX8_reads_23 : decode cX8_reads 23 = .ok (.bipush 11, 2) := by decide +kernel
theorem dX8_reads_25 : decode cX8_reads 25 = .ok (.iaload, 1) := by decide +kernel
theorem dX8_reads_26 : decode cX8_reads 26 = .ok (.istore 4, 2) := by decide +kernel
theorem dX8_reads_28 : decode cX8_reads 28 = .ok (.iconst 0, 1) := by decide +kernel
theorem dX8_reads_29 : decode cX8_reads 29 = .ok (.istore 5, 2) := by decide +kernel
theorem dX8_reads_31 : decode cX8_reads 31 = .ok (.iload 5, 2) := by decide +kernel
theorem dX8_reads_33 : decode cX8_reads 33 = .ok (.iload_n 3, 1) := by decide +kernel
theorem dX8_reads_34 : decode cX8_reads 34 = .ok (.if_icmp .ge 47, 3) := by decide +kernel
theorem dX8_reads_37 : decode cX8_reads 37 = .ok (.iload_n 1, 1) := by decide +kernel
theorem dX8_reads_38 : decode cX8_reads 38 = .ok (.i2l, 1) := by decide +kernel
theorem dX8_reads_39 : decode cX8_reads 39 = .ok (.iload 5, 2) := by decide +kernel
theorem dX8_reads_41 : decode cX8_reads 41 = .ok (.i2l, 1) := by decide +kernel
theorem dX8_reads_42 : decode cX8_reads 42 = .ok (.iload_n 2, 1) := by decide +kernel
theorem dX8_reads_43 : decode cX8_reads 43 = .ok (.i2l, 1) := by decide +kernel
theorem dX8_reads_44 : decode cX8_reads 44 = .ok (.lmul, 1) := by decide +kernel
theorem dX8_reads_45 : decode cX8_reads 45 = .ok (.ladd, 1) := by decide +kernel
theorem dX8_reads_46 : decode cX8_reads 46 = .ok (.lstore 6, 2) := by decide +kernel
theorem dX8_reads_48 : decode cX8_reads 48 = .ok (.lload 6, 2) := by decide +kernel
theorem dX8_reads_50 : decode cX8_reads 50 = .ok (.lconst 0, 1) := by decide +kernel
theorem dX8_reads_51 : decode cX8_reads 51 = .ok (.aload_n 0, 1) := by decide +kernel
theorem dX8_reads_52 : decode cX8_reads 52 = .ok (.getfield 9, 3) := by decide +kernel
theorem dX8_reads_55 : decode cX8_reads 55 = .ok (.bipush 7, 2) := by decide +kernel
theorem dX8_reads_57 : decode cX8_reads 57 = .ok (.iaload, 1) := by decide +kernel
theorem dX8_reads_58 : decode cX8_reads 58 = .ok (.i2l, 1) := by decide +kernel
theorem dX8_reads_59 : decode cX8_reads 59 = .ok (.lconst 1, 1) := by decide +kernel
theorem dX8_reads_60 : decode cX8_reads 60 = .ok (.lsub, 1) := by decide +kernel
theorem dX8_reads_61 : decode cX8_reads 61 = .ok (.invokestatic 71, 3) := by decide +kernel
theorem dX8_reads_64 : decode cX8_reads 64 = .ok (.ifCond .eq 11, 3) := by decide +kernel
theorem dX8_reads_67 : decode cX8_reads 67 = .ok (.aload_n 0, 1) := by decide +kernel
theorem dX8_reads_68 : decode cX8_reads 68 = .ok (.lload 6, 2) := by decide +kernel
theorem dX8_reads_70 : decode cX8_reads 70 = .ok (.l2i, 1) := by decide +kernel
theorem dX8_reads_71 : decode cX8_reads 71 = .ok (.invokevirtual 197, 3) := by decide +kernel
theorem dX8_reads_74 : decode cX8_reads 74 = .ok (.pop, 1) := by decide +kernel
theorem dX8_reads_75 : decode cX8_reads 75 = .ok (.iinc 5 1, 3) := by decide +kernel
theorem dX8_reads_78 : decode cX8_reads 78 = .ok (.goto (-47), 3) := by decide +kernel
theorem dX8_reads_81 : decode cX8_reads 81 = .ok (.aload_n 0, 1) := by decide +kernel
theorem dX8_reads_82 : decode cX8_reads 82 = .ok (.getfield 9, 3) := by decide +kernel
theorem dX8_reads_85 : decode cX8_reads 85 = .ok (.bipush 11, 2) := by decide +kernel
theorem dX8_reads_87 : decode cX8_reads 87 = .ok (.iaload, 1) := by decide +kernel
theorem dX8_reads_88 : decode cX8_reads 88 = .ok (.iload 4, 2) := by decide +kernel
theorem dX8_reads_90 : decode cX8_reads 90 = .ok (.isub, 1) := by decide +kernel
theorem dX8_reads_91 : decode cX8_reads 91 = .ok (.ireturn, 1) := by decide +kernel
def mR_reads_75 (N : Nat) (hd31 : ST → Int32 → Int32 → Int32 → Int32 → Int32 → Option (Int32 × ST)) (σ : ST) (x1 : Int32) (x2 : Int32) (x3 : Int32) (x4 : Int32) (x5 : Int32) (x6 : Int64) : Option (Int32 × ST) :=
  zLet (x5 + (1)) fun v75 =>
  hd31 σ x1 x2 x3 x4 v75
set_option maxRecDepth 20000 in
set_option maxHeartbeats 2000000 in
theorem tR_reads_75 {adr : Nat → Nat} {cI cZ : ClassId} {X : zX} {q : Int32 × ST} (B : zC X 8 (wdR adr cI cZ) cX8_reads RX8 (some .int) { frames := 9, cells := 0, slots := 0, locals := 207 }) (N : Nat) (hd31 : ST → Int32 → Int32 → Int32 → Int32 → Int32 → Option (Int32 × ST)) (hh31 : ∀ (σ : ST) (x1 : Int32) (x2 : Int32) (x3 : Int32) (x4 : Int32) (x5 : Int32), hd31 σ x1 x2 x3 x4 x5 = some q → zJ X 8 (wdR adr cI cZ) (zi q) 31 [(0, .ref (adr 0)), (1, .int x1), (2, .int x2), (3, .int x3), (4, .int x4), (5, .int x5)] [] σ) (σ : ST) (x1 : Int32) (x2 : Int32) (x3 : Int32) (x4 : Int32) (x5 : Int32) (x6 : Int64) (hf : mR_reads_75 N hd31 σ x1 x2 x3 x4 x5 x6 = some q) : zJ X 8 (wdR adr cI cZ) (zi q) 75 [(0, .ref (adr 0)), (1, .int x1), (2, .int x2), (3, .int x3), (4, .int x4), (5, .int x5), (6, .long x6)] [] σ := by
  refine z_iinc B (1) 5 (fun v75 => [(5, .int v75), (0, .ref (adr 0)), (1, .int x1), (2, .int x2), (3, .int x3), (4, .int x4), (6, .long x6)]) dX8_reads_75 hf zc_iconst_1 rfl (Nat.le_of_ble_eq_true rfl) (fun _ => rfl) (fun v75 hf => ?_)
  refine z_goto B 31 dX8_reads_78 (by decide) ?_
  exact z_loc [1, 2, 3, 4, 5, 0] _ rfl (hh31 σ x1 x2 x3 x4 v75 hf)
def mR_reads_B31 (N : Nat) (hd31 : ST → Int32 → Int32 → Int32 → Int32 → Int32 → Option (Int32 × ST)) (σ : ST) (x1 : Int32) (x2 : Int32) (x3 : Int32) (x4 : Int32) (x5 : Int32) : Option (Int32 × ST) :=
  if (x3 : Int32) ≤ x5 then
    zGet (σ 1) 1974 (11) fun v87 =>
    zLet ((v87 : Int32) - x4) fun v90 =>
    some (v90, σ)
  else
    zLet ((x1 : Int32).toInt64) fun v38 =>
    zLet ((x5 : Int32).toInt64) fun v41 =>
    zLet ((x2 : Int32).toInt64) fun v43 =>
    zLet ((v41 : Int64) * v43) fun v44 =>
    zLet ((v38 : Int64) + v44) fun v45 =>
    zGet (σ 1) 1974 (7) fun v57 =>
    zLet ((v57 : Int32).toInt64) fun v58 =>
    zLet ((v58 : Int64) - (1)) fun v60 =>
    zCall (mR_in N σ v45 (0) v60) fun v61 s61 =>
    if (v61 : Int32) = 0 then
      mR_reads_75 N hd31 s61 x1 x2 x3 x4 x5 v45
    else
      zLet ((v45 : Int64).toInt32) fun v70 =>
      zCall (mR_readOne N s61 v70) fun v71 s71 =>
      mR_reads_75 N hd31 s71 x1 x2 x3 x4 x5 v45
def mR_reads_31 (N : Nat) : ST → Int32 → Int32 → Int32 → Int32 → Int32 → Option (Int32 × ST) := zIt (mR_reads_B31 N) (fun _ _ _ _ _ _ => none) N
set_option maxRecDepth 20000 in
set_option maxHeartbeats 2000000 in
theorem tR_reads_31 {adr : Nat → Nat} {cI cZ : ClassId} {X : zX} {q : Int32 × ST} (B : zC X 8 (wdR adr cI cZ) cX8_reads RX8 (some .int) { frames := 9, cells := 0, slots := 0, locals := 207 }) (N : Nat) : ∀ (σ : ST) (x1 : Int32) (x2 : Int32) (x3 : Int32) (x4 : Int32) (x5 : Int32), mR_reads_31 N σ x1 x2 x3 x4 x5 = some q → zJ X 8 (wdR adr cI cZ) (zi q) 31 [(0, .ref (adr 0)), (1, .int x1), (2, .int x2), (3, .int x3), (4, .int x4), (5, .int x5)] [] σ := by
  refine zIt_ind (P := fun (hd : ST → Int32 → Int32 → Int32 → Int32 → Int32 → Option (Int32 × ST)) => ∀ (σ : ST) (x1 : Int32) (x2 : Int32) (x3 : Int32) (x4 : Int32) (x5 : Int32), hd σ x1 x2 x3 x4 x5 = some q → zJ X 8 (wdR adr cI cZ) (zi q) 31 [(0, .ref (adr 0)), (1, .int x1), (2, .int x2), (3, .int x3), (4, .int x4), (5, .int x5)] [] σ) (fun _ _ _ _ _ _ hf => by cases hf) (fun hd31 hh31 => ?_) N
  intro σ x1 x2 x3 x4 x5 hf
  refine z_iload B dX8_reads_31 5 rfl ?_
  refine z_iload_n B dX8_reads_33 3 rfl rfl ?_
  refine z_icmp_ge B 81 dX8_reads_34 (by decide) hf (fun hf => ?_) (fun hf => ?_)
  · refine z_aload_n B dX8_reads_81 0 rfl rfl ?_
    refine fR_g_row B dX8_reads_82 ?_
    refine z_bipush B (11) dX8_reads_85 zc_bipush_11 ?_
    refine fR_l_row B dX8_reads_87 hf (fun v87 hf => ?_)
    refine z_iload B dX8_reads_88 4 rfl ?_
    refine z_isub B dX8_reads_90 hf (fun v90 hf => ?_)
    exact z_ireturn B dX8_reads_91 hf
  · refine z_iload_n B dX8_reads_37 1 rfl rfl ?_
    refine z_i2l B dX8_reads_38 hf (fun v38 hf => ?_)
    refine z_iload B dX8_reads_39 5 rfl ?_
    refine z_i2l B dX8_reads_41 hf (fun v41 hf => ?_)
    refine z_iload_n B dX8_reads_42 2 rfl rfl ?_
    refine z_i2l B dX8_reads_43 hf (fun v43 hf => ?_)
    refine z_lmul B dX8_reads_44 hf (fun v44 hf => ?_)
    refine z_ladd B dX8_reads_45 hf (fun v45 hf => ?_)
    refine z_lstore B [(6, .long v45), (0, .ref (adr 0)), (1, .int x1), (2, .int x2), (3, .int x3), (4, .int x4), (5, .int x5)] dX8_reads_46 (Nat.le_of_ble_eq_true rfl) rfl ?_
    refine z_lload B dX8_reads_48 0 rfl ?_
    refine z_lconst B (0) dX8_reads_50 rfl ?_
    refine z_aload_n B dX8_reads_51 1 rfl rfl ?_
    refine fR_g_row B dX8_reads_52 ?_
    refine z_bipush B (7) dX8_reads_55 zc_bipush_7 ?_
    refine fR_l_row B dX8_reads_57 hf (fun v57 hf => ?_)
    refine z_i2l B dX8_reads_58 hf (fun v58 hf => ?_)
    refine z_lconst B (1) dX8_reads_59 rfl ?_
    refine z_lsub B dX8_reads_60 hf (fun v60 hf => ?_)
    refine z_callSi B (As := [.long v45, .long (0), .long v60]) kcS_X8_71 dX8_reads_61 hf (fun q hq => cR_in q hq) rfl rfl (Nat.le_of_ble_eq_true rfl) rfl rfl ⟨Nat.le_of_ble_eq_true rfl, Nat.le_of_ble_eq_true rfl⟩ (fun v61 s61 hf => ?_)
    refine z_if_eq B 75 dX8_reads_64 (by decide) hf (fun hf => ?_) (fun hf => ?_)
    · exact z_loc [1, 2, 3, 4, 5, 6, 0] _ rfl (tR_reads_75 B N hd31 hh31 s61 x1 x2 x3 x4 x5 v45 hf)
    · refine z_aload_n B dX8_reads_67 1 rfl rfl ?_
      refine z_lload B dX8_reads_68 0 rfl ?_
      refine z_l2i B dX8_reads_70 hf (fun v70 hf => ?_)
      refine z_callVi B (As := [.int v70]) kcV_X8_197 dX8_reads_71 hf (fun q hq => cR_readOne q hq) (wR_o (adr := adr) (cI := cI) (cZ := cZ)) rfl rfl rfl rfl (Nat.le_of_ble_eq_true rfl) rfl rfl ⟨Nat.le_of_ble_eq_true rfl, Nat.le_of_ble_eq_true rfl⟩ (fun v71 s71 hf => ?_)
      refine z_pop B dX8_reads_74 rfl ?_
      exact z_loc [1, 2, 3, 4, 5, 6, 0] _ rfl (tR_reads_75 B N hd31 hh31 s71 x1 x2 x3 x4 x5 v45 hf)
def mR_reads (N : Nat) (σ : ST) (x1 : Int32) (x2 : Int32) (x3 : Int32) : Option (Int32 × ST) :=
  zLet (zUp σ 0 0 (0)) fun s2 =>
  zLet ((x3 : Int32).toInt64) fun v6 =>
  zCall (mR_in N s2 v6 (1) (40)) fun v11 s11 =>
  if (v11 : Int32) = 0 then
    some ((-1), s11)
  else
    zGet (s11 1) 1974 (11) fun v25 =>
    mR_reads_31 N s11 x1 x2 x3 v25 (0)
set_option maxRecDepth 20000 in
set_option maxHeartbeats 2000000 in
theorem cR_reads {adr : Nat → Nat} {cI cZ : ClassId} {l : Launch} {D : va_G} {N : Nat} {σ : ST} {x1 : Int32} {x2 : Int32} {x3 : Int32} (q : Int32 × ST) (hf : mR_reads N σ x1 x2 x3 = some q) : zM l D (wdR adr cI cZ) yX8_reads cX8_reads 8 (some .int) ({ frames := 9, cells := 0, slots := 0, locals := 207 }) [.ref (adr 0), .int x1, .int x2, .int x3] σ (zi q) := by
  refine zM_of sfR_ok rfl (Nat.le_of_ble_eq_true rfl) [(0, .ref (adr 0)), (1, .int x1), (2, .int x2), (3, .int x3)] rfl (fun X hX1 hX2 B => ?_)
  have B : zC X 8 (wdR adr cI cZ) cX8_reads RX8 (some .int) { frames := 9, cells := 0, slots := 0, locals := 207 } := B
  refine z_aload_n B dX8_reads_0 0 rfl rfl ?_
  refine z_iconst B (0) dX8_reads_1 zc_iconst_0 ?_
  refine fR_p_thrown B dX8_reads_2 hf (fun s2 hf => ?_)
  refine z_iload_n B dX8_reads_5 3 rfl rfl ?_
  refine z_i2l B dX8_reads_6 hf (fun v6 hf => ?_)
  refine z_lconst B (1) dX8_reads_7 rfl ?_
  refine z_ldc2 B kw_1136 dX8_reads_8 ?_
  refine z_callSi B (As := [.long v6, .long (1), .long (40)]) kcS_X8_71 dX8_reads_11 hf (fun q hq => cR_in q hq) rfl rfl (Nat.le_of_ble_eq_true rfl) rfl rfl ⟨Nat.le_of_ble_eq_true rfl, Nat.le_of_ble_eq_true rfl⟩ (fun v11 s11 hf => ?_)
  refine z_if_ne B 19 dX8_reads_14 (by decide) hf (fun hf => ?_) (fun hf => ?_)
  · refine z_aload_n B dX8_reads_19 0 rfl rfl ?_
    refine fR_g_row B dX8_reads_20 ?_
    refine z_bipush B (11) dX8_reads_23 zc_bipush_11 ?_
    refine fR_l_row B dX8_reads_25 hf (fun v25 hf => ?_)
    refine z_istore B [(4, .int v25), (0, .ref (adr 0)), (1, .int x1), (2, .int x2), (3, .int x3)] dX8_reads_26 (Nat.le_of_ble_eq_true rfl) rfl ?_
    refine z_iconst B (0) dX8_reads_28 zc_iconst_0 ?_
    refine z_istore B [(5, .int (0)), (4, .int v25), (0, .ref (adr 0)), (1, .int x1), (2, .int x2), (3, .int x3)] dX8_reads_29 (Nat.le_of_ble_eq_true rfl) rfl ?_
    exact z_loc [2, 3, 4, 5, 1, 0] _ rfl (tR_reads_31 B N s11 x1 x2 x3 v25 (0) hf)
  · refine z_iconst B (-1) dX8_reads_17 zc_iconst_m1 ?_
    exact z_ireturn B dX8_reads_18 hf
theorem dX8_nextOf_0 : decode cX8_nextOf 0 = .ok (.aload_n 0, 1) := by decide +kernel
theorem dX8_nextOf_1 : decode cX8_nextOf 1 = .ok (.iload_n 1, 1) := by decide +kernel
theorem dX8_nextOf_2 : decode cX8_nextOf 2 = .ok (.aload_n 0, 1) := by decide +kernel
theorem dX8_nextOf_3 : decode cX8_nextOf 3 = .ok (.getfield 9, 3) := by decide +kernel
theorem dX8_nextOf_6 : decode cX8_nextOf 6 = .ok (.iload_n 1, 1) := by decide +kernel
theorem dX8_nextOf_7 : decode cX8_nextOf 7 = .ok (.bipush 6, 2) := by decide +kernel
theorem dX8_nextOf_9 : decode cX8_nextOf 9 = .ok (.iadd, 1) := by decide +kernel
theorem dX8_nextOf_10 : decode cX8_nextOf 10 = .ok (.iaload, 1) := by decide +kernel
theorem dX8_nextOf_11 : decode cX8_nextOf 11 = .ok (.invokevirtual 161, 3) := by decide +kernel
theorem dX8_nextOf_14 : decode cX8_nextOf 14 = .ok (.ifCond .eq 15, 3) := by decide +kernel
theorem dX8_nextOf_17 : decode cX8_nextOf 17 = .ok (.aload_n 0, 1) := by decide +kernel
theorem dX8_nextOf_18 : decode cX8_nextOf 18 = .ok (.getfield 9, 3) := by decide +kernel
theorem dX8_nextOf_21 : decode cX8_nextOf 21 = .ok (.iload_n 1, 1) := by decide +kernel
theorem dX8_nextOf_22 : decode cX8_nextOf 22 = .ok (.bipush 6, 2) := by decide +kernel
theorem dX8_nextOf_24 : decode cX8_nextOf 24 = .ok (.iadd, 1) := by decide +kernel
theorem dX8_nextOf_25 : decode cX8_nextOf 25 = .ok (.iaload, 1) := by decide +kernel
theorem dX8_nextOf_26 : decode cX8_nextOf 26 = .ok (.goto 11, 3) := by decide +kernel
theorem dX8_nextOf_29 : decode cX8_nextOf 29 = .ok (.aload_n 0, 1) := by decide +kernel
theorem dX8_nextOf_30 : decode cX8_nextOf 30 = .ok (.getfield 9, 3) := by decide +kernel
theorem dX8_nextOf_33 : decode cX8_nextOf 33 = .ok (.iload_n 1, 1) := by decide +kernel
theorem dX8_nextOf_34 : decode cX8_nextOf 34 = .ok (.iconst 2, 1) := by decide +kernel
theorem dX8_nextOf_35 : decode cX8_nextOf 35 = .ok (.iadd, 1) := by decide +kernel
theorem dX8_nextOf_36 : decode cX8_nextOf 36 = .ok (.iaload, 1) := by decide +kernel
theorem dX8_nextOf_37 : decode cX8_nextOf 37 = .ok (.aload_n 0, 1) := by decide +kernel
theorem dX8_nextOf_38 : decode cX8_nextOf 38 = .ok (.getfield 9, 3) := by decide +kernel
theorem dX8_nextOf_41 : decode cX8_nextOf 41 = .ok (.iload_n 1, 1) := by decide +kernel
theorem dX8_nextOf_42 : decode cX8_nextOf 42 = .ok (.iconst 3, 1) := by decide +kernel
theorem dX8_nextOf_43 : decode cX8_nextOf 43 = .ok (.iadd, 1) := by decide +kernel
theorem dX8_nextOf_44 : decode cX8_nextOf 44 = .ok (.iaload, 1) := by decide +kernel
theorem dX8_nextOf_45 : decode cX8_nextOf 45 = .ok (.iadd, 1) := by decide +kernel
theorem dX8_nextOf_46 : decode cX8_nextOf 46 = .ok (.ireturn, 1) := by decide +kernel
def mR_nextOf_37 (N : Nat) (σ : ST) (x1 : Int32) (k0 : Int32) : Option (Int32 × ST) :=
  zLet ((x1 : Int32) + (3)) fun v43 =>
  zGet (σ 1) 1974 v43 fun v44 =>
  zLet ((k0 : Int32) + v44) fun v45 =>
  some (v45, σ)
set_option maxRecDepth 20000 in
set_option maxHeartbeats 2000000 in
theorem tR_nextOf_37 {adr : Nat → Nat} {cI cZ : ClassId} {X : zX} {q : Int32 × ST} (B : zC X 2 (wdR adr cI cZ) cX8_nextOf RX8 (some .int) { frames := 1, cells := 0, slots := 0, locals := 23 }) (N : Nat) (σ : ST) (x1 : Int32) (k0 : Int32) (hf : mR_nextOf_37 N σ x1 k0 = some q) : zJ X 2 (wdR adr cI cZ) (zi q) 37 [(0, .ref (adr 0)), (1, .int x1)] [.int k0] σ := by
  refine z_aload_n B dX8_nextOf_37 0 rfl rfl ?_
  refine fR_g_row B dX8_nextOf_38 ?_
  refine z_iload_n B dX8_nextOf_41 1 rfl rfl ?_
  refine z_iconst B (3) dX8_nextOf_42 zc_iconst_3 ?_
  refine z_iadd B dX8_nextOf_43 hf (fun v43 hf => ?_)
  refine fR_l_row B dX8_nextOf_44 hf (fun v44 hf => ?_)
  refine z_iadd B dX8_nextOf_45 hf (fun v45 hf => ?_)
  exact z_ireturn B dX8_nextOf_46 hf
def mR_nextOf (N : Nat) (σ : ST) (x1 : Int32) : Option (Int32 × ST) :=
  zLet ((x1 : Int32) + (6)) fun v9 =>
  zGet (σ 1) 1974 v9 fun v10 =>
  zCall (mR_isAheadOf N σ x1 v10) fun v11 s11 =>
  if (v11 : Int32) = 0 then
    zLet ((x1 : Int32) + (2)) fun v35 =>
    zGet (s11 1) 1974 v35 fun v36 =>
    mR_nextOf_37 N s11 x1 v36
  else
    zLet ((x1 : Int32) + (6)) fun v24 =>
    zGet (s11 1) 1974 v24 fun v25 =>
    mR_nextOf_37 N s11 x1 v25
set_option maxRecDepth 20000 in
set_option maxHeartbeats 2000000 in
theorem cR_nextOf {adr : Nat → Nat} {cI cZ : ClassId} {l : Launch} {D : va_G} {N : Nat} {σ : ST} {x1 : Int32} (q : Int32 × ST) (hf : mR_nextOf N σ x1 = some q) : zM l D (wdR adr cI cZ) yX8_nextOf cX8_nextOf 2 (some .int) ({ frames := 1, cells := 0, slots := 0, locals := 23 }) [.ref (adr 0), .int x1] σ (zi q) := by
  refine zM_of sfR_ok rfl (Nat.le_of_ble_eq_true rfl) [(0, .ref (adr 0)), (1, .int x1)] rfl (fun X hX1 hX2 B => ?_)
  have B : zC X 2 (wdR adr cI cZ) cX8_nextOf RX8 (some .int) { frames := 1, cells := 0, slots := 0, locals := 23 } := B
  refine z_aload_n B dX8_nextOf_0 0 rfl rfl ?_
  refine z_iload_n B dX8_nextOf_1 1 rfl rfl ?_
  refine z_aload_n B dX8_nextOf_2 0 rfl rfl ?_
  refine fR_g_row B dX8_nextOf_3 ?_
  refine z_iload_n B dX8_nextOf_6 1 rfl rfl ?_
  refine z_bipush B (6) dX8_nextOf_7 zc_bipush_6 ?_
  refine z_iadd B dX8_nextOf_9 hf (fun v9 hf => ?_)
  refine fR_l_row B dX8_nextOf_10 hf (fun v10 hf => ?_)
  refine z_callVi B (As := [.int x1, .int v10]) kcV_X8_161 dX8_nextOf_11 hf (fun q hq => cR_isAheadOf q hq) (wR_o (adr := adr) (cI := cI) (cZ := cZ)) rfl rfl rfl rfl (Nat.le_of_ble_eq_true rfl) rfl rfl ⟨Nat.le_of_ble_eq_true rfl, Nat.le_of_ble_eq_true rfl⟩ (fun v11 s11 hf => ?_)
  refine z_if_eq B 29 dX8_nextOf_14 (by decide) hf (fun hf => ?_) (fun hf => ?_)
  · refine z_aload_n B dX8_nextOf_29 0 rfl rfl ?_
    refine fR_g_row B dX8_nextOf_30 ?_
    refine z_iload_n B dX8_nextOf_33 1 rfl rfl ?_
    refine z_iconst B (2) dX8_nextOf_34 zc_iconst_2 ?_
    refine z_iadd B dX8_nextOf_35 hf (fun v35 hf => ?_)
    refine fR_l_row B dX8_nextOf_36 hf (fun v36 hf => ?_)
    exact tR_nextOf_37 B N s11 x1 v36 hf
  · refine z_aload_n B dX8_nextOf_17 0 rfl rfl ?_
    refine fR_g_row B dX8_nextOf_18 ?_
    refine z_iload_n B dX8_nextOf_21 1 rfl rfl ?_
    refine z_bipush B (6) dX8_nextOf_22 zc_bipush_6 ?_
    refine z_iadd B dX8_nextOf_24 hf (fun v24 hf => ?_)
    refine fR_l_row B dX8_nextOf_25 hf (fun v25 hf => ?_)
    refine z_goto B 37 dX8_nextOf_26 (by decide) ?_
    exact tR_nextOf_37 B N s11 x1 v25 hf
theorem dX8_aheadFor_0 : decode cX8_aheadFor 0 = .ok (.iconst 0, 1) := by decide +kernel
theorem dX8_aheadFor_1 : decode cX8_aheadFor 1 = .ok (.istore_n 2, 1) := by decide +kernel
theorem dX8_aheadFor_2 : decode cX8_aheadFor 2 = .ok (.iconst 0, 1) := by decide +kernel
theorem dX8_aheadFor_3 : decode cX8_aheadFor 3 = .ok (.istore_n 3, 1) := by decide +kernel
theorem dX8_aheadFor_4 : decode cX8_aheadFor 4 = .ok (.iload_n 3, 1) := by decide +kernel
theorem dX8_aheadFor_5 : decode cX8_aheadFor 5 = .ok (.aload_n 0, 1) := by decide +kernel
theorem dX8_aheadFor_6 : decode cX8_aheadFor 6 = .ok (.getfield 9, 3) := by decide +kernel
theorem dX8_aheadFor_9 : decode cX8_aheadFor 9 = .ok (.iconst 0, 1) := by decide +kernel
theorem dX8_aheadFor_10 : decode cX8_aheadFor 10 = .ok (.iaload, 1) := by decide +kernel
theorem dX8_aheadFor_11 : decode cX8_aheadFor 11 = .ok (.if_icmp .ge 68, 3) := by decide +kernel
theorem dX8_aheadFor_14 : decode cX8_aheadFor 14 = .ok (.iload_n 3, 1) := by decide +kernel
theorem dX8_aheadFor_15 : decode cX8_aheadFor 15 = .ok (.invokestatic 85, 3) := by decide +kernel
theorem dX8_aheadFor_18 : decode cX8_aheadFor 18 = .ok (.istore 4, 2) := by decide +kernel
theorem dX8_aheadFor_20 : decode cX8_aheadFor 20 = .ok (.iload_n 2, 1) := by decide +kernel
theorem dX8_aheadFor_21 : decode cX8_aheadFor 21 = .ok (.aload_n 0, 1) := by decide +kernel
theorem dX8_aheadFor_22 : decode cX8_aheadFor 22 = .ok (.getfield 9, 3) := by decide +kernel
theorem dX8_aheadFor_25 : decode cX8_aheadFor 25 = .ok (.iload 4, 2) := by decide +kernel
theorem dX8_aheadFor_27 : decode cX8_aheadFor 27 = .ok (.iaload, 1) := by decide +kernel
theorem dX8_aheadFor_28 : decode cX8_aheadFor 28 = .ok (.ifCond .le 42, 3) := by decide +kernel
theorem dX8_aheadFor_31 : decode cX8_aheadFor 31 = .ok (.aload_n 0, 1) := by decide +kernel
theorem dX8_aheadFor_32 : decode cX8_aheadFor 32 = .ok (.getfield 9, 3) := by decide +kernel
theorem dX8_aheadFor_35 : decode cX8_aheadFor 35 = .ok (.iload 4, 2) := by decide +kernel
theorem dX8_aheadFor_37 : decode cX8_aheadFor 37 = .ok (.iconst 3, 1) := by decide +kernel
theorem dX8_aheadFor_38 : decode cX8_aheadFor 38 = .ok (.iadd, 1) := by decide +kernel
theorem dX8_aheadFor_39 : decode cX8_aheadFor 39 = .ok (.iaload, 1) := by decide +kernel
theorem dX8_aheadFor_40 : decode cX8_aheadFor 40 = .ok (.iconst 1, 1) := by decide +kernel
theorem dX8_aheadFor_41 : decode cX8_aheadFor 41 = .ok (.if_icmp .ne 29, 3) := by decide +kernel
theorem dX8_aheadFor_44 : decode cX8_aheadFor 44 = .ok (.aload_n 0, 1) := by decide +kernel
theorem dX8_aheadFor_45 : decode cX8_aheadFor 45 = .ok (.getfield 9, 3) := by decide +kernel
theorem dX8_aheadFor_48 : decode cX8_aheadFor 48 = .ok (.iload 4, 2) := by decide +kernel
theorem dX8_aheadFor_50 : decode cX8_aheadFor 50 = .ok (.iconst 4, 1) := by decide +kernel
theorem dX8_aheadFor_51 : decode cX8_aheadFor 51 = .ok (.iadd, 1) := by decide +kernel
theorem dX8_aheadFor_52 : decode cX8_aheadFor 52 = .ok (.iaload, 1) := by decide +kernel
theorem dX8_aheadFor_53 : decode cX8_aheadFor 53 = .ok (.iconst 1, 1) := by decide +kernel
theorem dX8_aheadFor_54 : decode cX8_aheadFor 54 = .ok (.isub, 1) := by decide +kernel
theorem dX8_aheadFor_55 : decode cX8_aheadFor 55 = .ok (.aload_n 0, 1) := by decide +kernel
theorem dX8_aheadFor_56 : decode cX8_aheadFor 56 = .ok (.getfield 9, 3) := by decide +kernel
theorem dX8_aheadFor_59 : decode cX8_aheadFor 59 = .ok (.iload_n 1, 1) := by decide +kernel
theorem dX8_aheadFor_60 : decode cX8_aheadFor 60 = .ok (.iconst 1, 1) := by decide +kernel
theorem dX8_aheadFor_61 : decode cX8_aheadFor 61 = .ok (.iadd, 1) := by decide +kernel
theorem dX8_aheadFor_62 : decode cX8_aheadFor 62 = .ok (.iaload, 1) := by decide +kernel
theorem dX8_aheadFor_63 : decode cX8_aheadFor 63 = .ok (.if_icmp .ne 7, 3) := by decide +kernel
theorem dX8_aheadFor_66 : decode cX8_aheadFor 66 = .ok (.iconst 1, 1) := by decide +kernel
theorem dX8_aheadFor_67 : decode cX8_aheadFor 67 = .ok (.goto 4, 3) := by decide +kernel
theorem dX8_aheadFor_70 : decode cX8_aheadFor 70 = .ok (.iconst 0, 1) := by decide +kernel
theorem dX8_aheadFor_71 : decode cX8_aheadFor 71 = .ok (.iadd, 1) := by decide +kernel
theorem dX8_aheadFor_72 : decode cX8_aheadFor 72 = .ok (.istore_n 2, 1) := by decide +kernel
theorem dX8_aheadFor_73 : decode cX8_aheadFor 73 = .ok (.iinc 3 1, 3) := by decide +kernel
theorem dX8_aheadFor_76 : decode cX8_aheadFor 76 = .ok (.goto (-72), 3) := by decide +kernel
theorem dX8_aheadFor_79 : decode cX8_aheadFor 79 = .ok (.iload_n 2, 1) := by decide +kernel
theorem dX8_aheadFor_80 : decode cX8_aheadFor 80 = .ok (.ireturn, 1) := by decide +kernel
def mR_aheadFor_71 (N : Nat) (hd4 : ST → Int32 → Int32 → Int32 → Option (Int32 × ST)) (σ : ST) (x1 : Int32) (x2 : Int32) (x3 : Int32) (x4 : Int32) (k0 : Int32) (k1 : Int32) : Option (Int32 × ST) :=
  zLet ((k0 : Int32) + k1) fun v71 =>
  zLet (x3 + (1)) fun v73 =>
  hd4 σ x1 v71 v73
set_option maxRecDepth 20000 in
set_option maxHeartbeats 2000000 in
theorem tR_aheadFor_71 {adr : Nat → Nat} {cI cZ : ClassId} {X : zX} {q : Int32 × ST} (B : zC X 5 (wdR adr cI cZ) cX8_aheadFor RX8 (some .int) { frames := 1, cells := 0, slots := 0, locals := 20 }) (N : Nat) (hd4 : ST → Int32 → Int32 → Int32 → Option (Int32 × ST)) (hh4 : ∀ (σ : ST) (x1 : Int32) (x2 : Int32) (x3 : Int32), hd4 σ x1 x2 x3 = some q → zJ X 5 (wdR adr cI cZ) (zi q) 4 [(0, .ref (adr 0)), (1, .int x1), (2, .int x2), (3, .int x3)] [] σ) (σ : ST) (x1 : Int32) (x2 : Int32) (x3 : Int32) (x4 : Int32) (k0 : Int32) (k1 : Int32) (hf : mR_aheadFor_71 N hd4 σ x1 x2 x3 x4 k0 k1 = some q) : zJ X 5 (wdR adr cI cZ) (zi q) 71 [(0, .ref (adr 0)), (1, .int x1), (2, .int x2), (3, .int x3), (4, .int x4)] [.int k1, .int k0] σ := by
  refine z_iadd B dX8_aheadFor_71 hf (fun v71 hf => ?_)
  refine z_istore_n B [(2, .int v71), (0, .ref (adr 0)), (1, .int x1), (3, .int x3), (4, .int x4)] dX8_aheadFor_72 rfl (Nat.le_of_ble_eq_true rfl) rfl ?_
  refine z_iinc B (1) 3 (fun v73 => [(3, .int v73), (2, .int v71), (0, .ref (adr 0)), (1, .int x1), (4, .int x4)]) dX8_aheadFor_73 hf zc_iconst_1 rfl (Nat.le_of_ble_eq_true rfl) (fun _ => rfl) (fun v73 hf => ?_)
  refine z_goto B 4 dX8_aheadFor_76 (by decide) ?_
  exact z_loc [2, 3, 1, 0] _ rfl (hh4 σ x1 v71 v73 hf)
def mR_aheadFor_70 (N : Nat) (hd4 : ST → Int32 → Int32 → Int32 → Option (Int32 × ST)) (σ : ST) (x1 : Int32) (x2 : Int32) (x3 : Int32) (x4 : Int32) (k0 : Int32) : Option (Int32 × ST) :=
  mR_aheadFor_71 N hd4 σ x1 x2 x3 x4 k0 (0)
set_option maxRecDepth 20000 in
set_option maxHeartbeats 2000000 in
theorem tR_aheadFor_70 {adr : Nat → Nat} {cI cZ : ClassId} {X : zX} {q : Int32 × ST} (B : zC X 5 (wdR adr cI cZ) cX8_aheadFor RX8 (some .int) { frames := 1, cells := 0, slots := 0, locals := 20 }) (N : Nat) (hd4 : ST → Int32 → Int32 → Int32 → Option (Int32 × ST)) (hh4 : ∀ (σ : ST) (x1 : Int32) (x2 : Int32) (x3 : Int32), hd4 σ x1 x2 x3 = some q → zJ X 5 (wdR adr cI cZ) (zi q) 4 [(0, .ref (adr 0)), (1, .int x1), (2, .int x2), (3, .int x3)] [] σ) (σ : ST) (x1 : Int32) (x2 : Int32) (x3 : Int32) (x4 : Int32) (k0 : Int32) (hf : mR_aheadFor_70 N hd4 σ x1 x2 x3 x4 k0 = some q) : zJ X 5 (wdR adr cI cZ) (zi q) 70 [(0, .ref (adr 0)), (1, .int x1), (2, .int x2), (3, .int x3), (4, .int x4)] [.int k0] σ := by
  refine z_iconst B (0) dX8_aheadFor_70 zc_iconst_0 ?_
  exact tR_aheadFor_71 B N hd4 hh4 σ x1 x2 x3 x4 k0 (0) hf
def mR_aheadFor_B4 (N : Nat) (hd4 : ST → Int32 → Int32 → Int32 → Option (Int32 × ST)) (σ : ST) (x1 : Int32) (x2 : Int32) (x3 : Int32) : Option (Int32 × ST) :=
  zGet (σ 1) 1974 (0) fun v10 =>
  if (v10 : Int32) ≤ x3 then
    some (x2, σ)
  else
    zCall (mR_cacheAt N σ x3) fun v15 s15 =>
    zGet (s15 1) 1974 v15 fun v27 =>
    if (v27 : Int32) ≤ 0 then
      mR_aheadFor_70 N hd4 s15 x1 x2 x3 v15 x2
    else
      zLet ((v15 : Int32) + (3)) fun v38 =>
      zGet (s15 1) 1974 v38 fun v39 =>
      if (v39 : Int32) = (1) then
        zLet ((v15 : Int32) + (4)) fun v51 =>
        zGet (s15 1) 1974 v51 fun v52 =>
        zLet ((v52 : Int32) - (1)) fun v54 =>
        zLet ((x1 : Int32) + (1)) fun v61 =>
        zGet (s15 1) 1974 v61 fun v62 =>
        if (v54 : Int32) = v62 then
          mR_aheadFor_71 N hd4 s15 x1 x2 x3 v15 x2 (1)
        else
          mR_aheadFor_70 N hd4 s15 x1 x2 x3 v15 x2
      else
        mR_aheadFor_70 N hd4 s15 x1 x2 x3 v15 x2
def mR_aheadFor_4 (N : Nat) : ST → Int32 → Int32 → Int32 → Option (Int32 × ST) := zIt (mR_aheadFor_B4 N) (fun _ _ _ _ => none) N
set_option maxRecDepth 20000 in
set_option maxHeartbeats 2000000 in
theorem tR_aheadFor_4 {adr : Nat → Nat} {cI cZ : ClassId} {X : zX} {q : Int32 × ST} (B : zC X 5 (wdR adr cI cZ) cX8_aheadFor RX8 (some .int) { frames := 1, cells := 0, slots := 0, locals := 20 }) (N : Nat) : ∀ (σ : ST) (x1 : Int32) (x2 : Int32) (x3 : Int32), mR_aheadFor_4 N σ x1 x2 x3 = some q → zJ X 5 (wdR adr cI cZ) (zi q) 4 [(0, .ref (adr 0)), (1, .int x1), (2, .int x2), (3, .int x3)] [] σ := by
  refine zIt_ind (P := fun (hd : ST → Int32 → Int32 → Int32 → Option (Int32 × ST)) => ∀ (σ : ST) (x1 : Int32) (x2 : Int32) (x3 : Int32), hd σ x1 x2 x3 = some q → zJ X 5 (wdR adr cI cZ) (zi q) 4 [(0, .ref (adr 0)), (1, .int x1), (2, .int x2), (3, .int x3)] [] σ) (fun _ _ _ _ hf => by cases hf) (fun hd4 hh4 => ?_) N
  intro σ x1 x2 x3 hf
  refine z_iload_n B dX8_aheadFor_4 3 rfl rfl ?_
  refine z_aload_n B dX8_aheadFor_5 0 rfl rfl ?_
  refine fR_g_row B dX8_aheadFor_6 ?_
  refine z_iconst B (0) dX8_aheadFor_9 zc_iconst_0 ?_
  refine fR_l_row B dX8_aheadFor_10 hf (fun v10 hf => ?_)
  refine z_icmp_ge B 79 dX8_aheadFor_11 (by decide) hf (fun hf => ?_) (fun hf => ?_)
  · refine z_iload_n B dX8_aheadFor_79 2 rfl rfl ?_
    exact z_ireturn B dX8_aheadFor_80 hf
  · refine z_iload_n B dX8_aheadFor_14 3 rfl rfl ?_
    refine z_callSi B (As := [.int x3]) kcS_X8_85 dX8_aheadFor_15 hf (fun q hq => cR_cacheAt q hq) rfl rfl (Nat.le_of_ble_eq_true rfl) rfl rfl ⟨Nat.le_of_ble_eq_true rfl, Nat.le_of_ble_eq_true rfl⟩ (fun v15 s15 hf => ?_)
    refine z_istore B [(4, .int v15), (0, .ref (adr 0)), (1, .int x1), (2, .int x2), (3, .int x3)] dX8_aheadFor_18 (Nat.le_of_ble_eq_true rfl) rfl ?_
    refine z_iload_n B dX8_aheadFor_20 3 rfl rfl ?_
    refine z_aload_n B dX8_aheadFor_21 1 rfl rfl ?_
    refine fR_g_row B dX8_aheadFor_22 ?_
    refine z_iload B dX8_aheadFor_25 0 rfl ?_
    refine fR_l_row B dX8_aheadFor_27 hf (fun v27 hf => ?_)
    refine z_if_le B 70 dX8_aheadFor_28 (by decide) hf (fun hf => ?_) (fun hf => ?_)
    · exact z_loc [1, 2, 3, 4, 0] _ rfl (tR_aheadFor_70 B N hd4 hh4 s15 x1 x2 x3 v15 x2 hf)
    · refine z_aload_n B dX8_aheadFor_31 1 rfl rfl ?_
      refine fR_g_row B dX8_aheadFor_32 ?_
      refine z_iload B dX8_aheadFor_35 0 rfl ?_
      refine z_iconst B (3) dX8_aheadFor_37 zc_iconst_3 ?_
      refine z_iadd B dX8_aheadFor_38 hf (fun v38 hf => ?_)
      refine fR_l_row B dX8_aheadFor_39 hf (fun v39 hf => ?_)
      refine z_iconst B (1) dX8_aheadFor_40 zc_iconst_1 ?_
      refine z_icmp_ne B 70 dX8_aheadFor_41 (by decide) hf (fun hf => ?_) (fun hf => ?_)
      · exact z_loc [1, 2, 3, 4, 0] _ rfl (tR_aheadFor_70 B N hd4 hh4 s15 x1 x2 x3 v15 x2 hf)
      · refine z_aload_n B dX8_aheadFor_44 1 rfl rfl ?_
        refine fR_g_row B dX8_aheadFor_45 ?_
        refine z_iload B dX8_aheadFor_48 0 rfl ?_
        refine z_iconst B (4) dX8_aheadFor_50 zc_iconst_4 ?_
        refine z_iadd B dX8_aheadFor_51 hf (fun v51 hf => ?_)
        refine fR_l_row B dX8_aheadFor_52 hf (fun v52 hf => ?_)
        refine z_iconst B (1) dX8_aheadFor_53 zc_iconst_1 ?_
        refine z_isub B dX8_aheadFor_54 hf (fun v54 hf => ?_)
        refine z_aload_n B dX8_aheadFor_55 1 rfl rfl ?_
        refine fR_g_row B dX8_aheadFor_56 ?_
        refine z_iload_n B dX8_aheadFor_59 2 rfl rfl ?_
        refine z_iconst B (1) dX8_aheadFor_60 zc_iconst_1 ?_
        refine z_iadd B dX8_aheadFor_61 hf (fun v61 hf => ?_)
        refine fR_l_row B dX8_aheadFor_62 hf (fun v62 hf => ?_)
        refine z_icmp_ne B 70 dX8_aheadFor_63 (by decide) hf (fun hf => ?_) (fun hf => ?_)
        · exact z_loc [1, 2, 3, 4, 0] _ rfl (tR_aheadFor_70 B N hd4 hh4 s15 x1 x2 x3 v15 x2 hf)
        · refine z_iconst B (1) dX8_aheadFor_66 zc_iconst_1 ?_
          refine z_goto B 71 dX8_aheadFor_67 (by decide) ?_
          exact z_loc [1, 2, 3, 4, 0] _ rfl (tR_aheadFor_71 B N hd4 hh4 s15 x1 x2 x3 v15 x2 (1) hf)
def mR_aheadFor (N : Nat) (σ : ST) (x1 : Int32) : Option (Int32 × ST) :=
  mR_aheadFor_4 N σ x1 (0) (0)
set_option maxRecDepth 20000 in
set_option maxHeartbeats 2000000 in
theorem cR_aheadFor {adr : Nat → Nat} {cI cZ : ClassId} {l : Launch} {D : va_G} {N : Nat} {σ : ST} {x1 : Int32} (q : Int32 × ST) (hf : mR_aheadFor N σ x1 = some q) : zM l D (wdR adr cI cZ) yX8_aheadFor cX8_aheadFor 5 (some .int) ({ frames := 1, cells := 0, slots := 0, locals := 20 }) [.ref (adr 0), .int x1] σ (zi q) := by
  refine zM_of sfR_ok rfl (Nat.le_of_ble_eq_true rfl) [(0, .ref (adr 0)), (1, .int x1)] rfl (fun X hX1 hX2 B => ?_)
  have B : zC X 5 (wdR adr cI cZ) cX8_aheadFor RX8 (some .int) { frames := 1, cells := 0, slots := 0, locals := 20 } := B
  refine z_iconst B (0) dX8_aheadFor_0 zc_iconst_0 ?_
  refine z_istore_n B [(2, .int (0)), (0, .ref (adr 0)), (1, .int x1)] dX8_aheadFor_1 rfl (Nat.le_of_ble_eq_true rfl) rfl ?_
  refine z_iconst B (0) dX8_aheadFor_2 zc_iconst_0 ?_
  refine z_istore_n B [(3, .int (0)), (2, .int (0)), (0, .ref (adr 0)), (1, .int x1)] dX8_aheadFor_3 rfl (Nat.le_of_ble_eq_true rfl) rfl ?_
  exact z_loc [2, 3, 1, 0] _ rfl (tR_aheadFor_4 B N σ x1 (0) (0) hf)
theorem dX8_idles_0 : decode cX8_idles 0 = .ok (.iconst (-1), 1) := by decide +kernel
theorem dX8_idles_1 : decode cX8_idles 1 = .ok (.istore_n 1, 1) := by decide +kernel
theorem dX8_idles_2 : decode cX8_idles 2 = .ok (.iconst 0, 1) := by decide +kernel
theorem dX8_idles_3 : decode cX8_idles 3 = .ok (.istore_n 2, 1) := by decide +kernel
theorem dX8_idles_4 : decode cX8_idles 4 = .ok (.iconst 0, 1) := by decide +kernel
theorem dX8_idles_5 : decode cX8_idles 5 = .ok (.istore_n 3, 1) := by decide +kernel
theorem dX8_idles_6 : decode cX8_idles 6 = .ok (.iload_n 3, 1) := by decide +kernel
theorem dX8_idles_7 : decode cX8_idles 7 = .ok (.bipush 6, 2) := by decide +kernel
theorem dX8_idles_9 : decode cX8_idles 9 = .ok (.if_icmp .ge 128, 3) := by decide +kernel
theorem dX8_idles_12 : decode cX8_idles 12 = .ok (.aload_n 0, 1) := by decide +kernel
theorem dX8_idles_13 : decode cX8_idles 13 = .ok (.invokevirtual 102, 3) := by decide +kernel
theorem dX8_idles_16 : decode cX8_idles 16 = .ok (.aload_n 0, 1) := by decide +kernel
theorem dX8_idles_17 : decode cX8_idles 17 = .ok (.getfield 9, 3) := by decide +kernel
theorem dX8_idles_20 : decode cX8_idles 20 = .ok (.iconst 0, 1) := by decide +kernel
theorem dX8_idles_21 : decode cX8_idles 21 = .ok (.iaload, 1) := by decide +kernel
theorem dX8_idles_22 : decode cX8_idles 22 = .ok (.iconst 2, 1) := by decide +kernel
theorem dX8_idles_23 : decode cX8_idles 23 = .ok (.idiv, 1) := by decide +kernel
theorem dX8_idles_24 : decode cX8_idles 24 = .ok (.if_icmp .ge 113, 3) := by decide +kernel
theorem dX8_idles_27 : decode cX8_idles 27 = .ok (.iload_n 3, 1) := by decide +kernel
theorem dX8_idles_28 : decode cX8_idles 28 = .ok (.invokestatic 89, 3) := by decide +kernel
theorem dX8_idles_31 : decode cX8_idles 31 = .ok (.istore 4, 2) := by decide +kernel
theorem dX8_idles_33 : decode cX8_idles 33 = .ok (.aload_n 0, 1) := by decide +kernel
theorem dX8_idles_34 : decode cX8_idles 34 = .ok (.getfield 9, 3) := by decide +kernel
theorem dX8_idles_37 : decode cX8_idles 37 = .ok (.iload 4, 2) := by decide +kernel
theorem dX8_idles_39 : decode cX8_idles 39 = .ok (.iaload, 1) := by decide +kernel
theorem dX8_idles_40 : decode cX8_idles 40 = .ok (.iconst 1, 1) := by decide +kernel
theorem dX8_idles_41 : decode cX8_idles 41 = .ok (.if_icmp .ne 34, 3) := by decide +kernel
theorem dX8_idles_44 : decode cX8_idles 44 = .ok (.aload_n 0, 1) := by decide +kernel
theorem dX8_idles_45 : decode cX8_idles 45 = .ok (.getfield 9, 3) := by decide +kernel
theorem dX8_idles_48 : decode cX8_idles 48 = .ok (.iload 4, 2) := by decide +kernel
theorem dX8_idles_50 : decode cX8_idles 50 = .ok (.iconst 5, 1) := by decide +kernel
theorem dX8_idles_51 : decode cX8_idles 51 = .ok (.iadd, 1) := by decide +kernel
theorem dX8_idles_52 : decode cX8_idles 52 = .ok (.iaload, 1) := by decide +kernel
theorem dX8_idles_53 : decode cX8_idles 53 = .ok (.ifCond .le 22, 3) := by decide +kernel
theorem dX8_idles_56 : decode cX8_idles 56 = .ok (.aload_n 0, 1) := by decide +kernel
theorem dX8_idles_57 : decode cX8_idles 57 = .ok (.getfield 9, 3) := by decide +kernel
theorem dX8_idles_60 : decode cX8_idles 60 = .ok (.iload 4, 2) := by decide +kernel
theorem dX8_idles_62 : decode cX8_idles 62 = .ok (.iconst 5, 1) := by decide +kernel
theorem dX8_idles_63 : decode cX8_idles 63 = .ok (.iadd, 1) := by decide +kernel
theorem dX8_idles_64 : decode cX8_idles 64 = .ok (.iaload, 1) := by decide +kernel
theorem dX8_idles_65 : decode cX8_idles 65 = .ok (.aload_n 0, 1) := by decide +kernel
theorem dX8_idles_66 : decode cX8_idles 66 = .ok (.iload 4, 2) := by decide +kernel
theorem dX8_idles_68 : decode cX8_idles 68 = .ok (.invokevirtual 202, 3) := by decide +kernel
theorem dX8_idles_71 : decode cX8_idles 71 = .ok (.isub, 1) := by decide +kernel
theorem dX8_idles_72 : decode cX8_idles 72 = .ok (.goto 4, 3) := by decide +kernel
theorem dX8_idles_75 : decode cX8_idles 75 = .ok (.iconst 0, 1) := by decide +kernel
theorem dX8_idles_76 : decode cX8_idles 76 = .ok (.istore 5, 2) := by decide +kernel
theorem dX8_idles_78 : decode cX8_idles 78 = .ok (.iload 5, 2) := by decide +kernel
theorem dX8_idles_80 : decode cX8_idles 80 = .ok (.iload_n 2, 1) := by decide +kernel
theorem dX8_idles_81 : decode cX8_idles 81 = .ok (.if_icmp .le 50, 3) := by decide +kernel
theorem dX8_idles_84 : decode cX8_idles 84 = .ok (.aload_n 0, 1) := by decide +kernel
theorem dX8_idles_85 : decode cX8_idles 85 = .ok (.aload_n 0, 1) := by decide +kernel
theorem dX8_idles_86 : decode cX8_idles 86 = .ok (.iload 4, 2) := by decide +kernel
theorem dX8_idles_88 : decode cX8_idles 88 = .ok (.invokevirtual 205, 3) := by decide +kernel
theorem dX8_idles_91 : decode cX8_idles 91 = .ok (.invokevirtual 132, 3) := by decide +kernel
theorem dX8_idles_94 : decode cX8_idles 94 = .ok (.ifCond .eq 37, 3) := by decide +kernel
theorem dX8_idles_97 : decode cX8_idles 97 = .ok (.aload_n 0, 1) := by decide +kernel
theorem dX8_idles_98 : decode cX8_idles 98 = .ok (.getfield 24, 3) := by decide +kernel
theorem dX8_idles_101 : decode cX8_idles 101 = .ok (.aload_n 0, 1) := by decide +kernel
theorem dX8_idles_102 : decode cX8_idles 102 = .ok (.iload 4, 2) := by decide +kernel
theorem dX8_idles_104 : decode cX8_idles 104 = .ok (.invokevirtual 205, 3) := by decide +kernel
theorem dX8_idles_107 : decode cX8_idles 107 = .ok (.baload, 1) := by decide +kernel
theorem dX8_idles_108 : decode cX8_idles 108 = .ok (.ifCond .ne 23, 3) := by decide +kernel
theorem dX8_idles_111 : decode cX8_idles 111 = .ok (.aload_n 0, 1) := by decide +kernel
theorem dX8_idles_112 : decode cX8_idles 112 = .ok (.aload_n 0, 1) := by decide +kernel
theorem dX8_idles_113 : decode cX8_idles 113 = .ok (.iload 4, 2) := by decide +kernel
theorem dX8_idles_115 : decode cX8_idles 115 = .ok (.invokevirtual 205, 3) := by decide +kernel
theorem dX8_idles_118 : decode cX8_idles 118 = .ok (.invokevirtual 136, 3) := by decide +kernel
theorem dX8_idles_121 : decode cX8_idles 121 = .ok (.iconst (-1), 1) := by decide +kernel
theorem dX8_idles_122 : decode cX8_idles 122 = .ok (.if_icmp .ne 9, 3) := by decide +kernel
theorem dX8_idles_125 : decode cX8_idles 125 = .ok (.iload 4, 2) := by decide +kernel
theorem dX8_idles_127 : decode cX8_idles 127 = .ok (.istore_n 1, 1) := by decide +kernel
theorem dX8_idles_128 : decode cX8_idles 128 = .ok (.iload 5, 2) := by decide +kernel
theorem dX8_idles_130 : decode cX8_idles 130 = .ok (.istore_n 2, 1) := by decide +kernel
theorem dX8_idles_131 : decode cX8_idles 131 = .ok (.iinc 3 1, 3) := by decide +kernel
theorem dX8_idles_134 : decode cX8_idles 134 = .ok (.goto (-128), 3) := by decide +kernel
theorem dX8_idles_137 : decode cX8_idles 137 = .ok (.iload_n 1, 1) := by decide +kernel
theorem dX8_idles_138 : decode cX8_idles 138 = .ok (.iconst (-1), 1) := by decide +kernel
theorem dX8_idles_139 : decode cX8_idles 139 = .ok (.if_icmp .ne 5, 3) := by decide +kernel
theorem dX8_idles_142 : decode cX8_idles 142 = .ok (.iconst 0, 1) := by decide +kernel
theorem dX8_idles_143 : decode cX8_idles 143 = .ok (.ireturn, 1) := by decide +kernel
theorem dX8_idles_144 : decode cX8_idles 144 = .ok (.aload_n 0, 1) := by decide +kernel
theorem dX8_idles_145 : decode cX8_idles 145 = .ok (.iload_n 1, 1) := by decide +kernel
theorem dX8_idles_146 : decode cX8_idles 146 = .ok (.invokevirtual 205, 3) := by decide +kernel
theorem dX8_idles_149 : decode cX8_idles 149 = .ok (.istore_n 3, 1) := by decide +kernel
theorem dX8_idles_150 : decode cX8_idles 150 = .ok (.aload_n 0, 1) := by decide +kernel
theorem dX8_idles_151 : decode cX8_idles 151 = .ok (.iconst 0, 1) := by decide +kernel
theorem dX8_idles_152 : decode cX8_idles 152 = .ok (.putfield 127, 3) := by decide +kernel
theorem dX8_idles_155 : decode cX8_idles 155 = .ok (.aload_n 0, 1) := by decide +kernel
theorem dX8_idles_156 : decode cX8_idles 156 = .ok (.iload_n 3, 1) := by decide +kernel
theorem dX8_idles_157 : decode cX8_idles 157 = .ok (.iconst (-1), 1) := by decide +kernel
theorem dX8_idles_158 : decode cX8_idles 158 = .ok (.iload_n 1, 1) := by decide +kernel
theorem dX8_idles_159 : decode cX8_idles 159 = .ok (.invokevirtual 142, 3) := by decide +kernel
theorem dX8_idles_162 : decode cX8_idles 162 = .ok (.aload_n 0, 1) := by decide +kernel
theorem dX8_idles_163 : decode cX8_idles 163 = .ok (.getfield 9, 3) := by decide +kernel
theorem dX8_idles_166 : decode cX8_idles 166 = .ok (.iload_n 1, 1) := by decide +kernel
theorem dX8_idles_167 : decode cX8_idles 167 = .ok (.bipush 6, 2) := by decide +kernel
theorem dX8_idles_169 : decode cX8_idles 169 = .ok (.iadd, 1) := by decide +kernel
theorem dX8_idles_170 : decode cX8_idles 170 = .ok (.iload_n 3, 1) := by decide +kernel
theorem dX8_idles_171 : decode cX8_idles 171 = .ok (.iastore, 1) := by decide +kernel
theorem dX8_idles_172 : decode cX8_idles 172 = .ok (.aload_n 0, 1) := by decide +kernel
theorem dX8_idles_173 : decode cX8_idles 173 = .ok (.getfield 9, 3) := by decide +kernel
theorem dX8_idles_176 : decode cX8_idles 176 = .ok (.bipush 25, 2) := by decide +kernel
theorem dX8_idles_178 : decode cX8_idles 178 = .ok (.dup2, 1) := by decide +kernel
theorem dX8_idles_179 : decode cX8_idles 179 = .ok (.iaload, 1) := by decide +kernel
theorem dX8_idles_180 : decode cX8_idles 180 = .ok (.iconst 1, 1) := by decide +kernel
theorem dX8_idles_181 : decode cX8_idles 181 = .ok (.iadd, 1) := by decide +kernel
theorem dX8_idles_182 : decode cX8_idles 182 = .ok (.iastore, 1) := by decide +kernel
theorem dX8_idles_183 : decode cX8_idles 183 = .ok (.iconst 1, 1) := by decide +kernel
theorem dX8_idles_184 : decode cX8_idles 184 = .ok (.ireturn, 1) := by decide +kernel
def mR_idles_137 (N : Nat) (σ : ST) (x1 : Int32) (x2 : Int32) (x3 : Int32) : Option (Int32 × ST) :=
  if (x1 : Int32) = (-1) then
    zBool (0) (some ((0), σ))
  else
    zCall (mR_nextOf N σ x1) fun v146 s146 =>
    zLet (zUp s146 0 13 (0)) fun s152 =>
    zCallu (mR_fetchAhead N s152 v146 (-1) x1) fun s159 =>
    zLet ((x1 : Int32) + (6)) fun v169 =>
    zSet s159 1 1974 v169 v146 fun s171 =>
    zGet (s171 1) 1974 (25) fun v179 =>
    zLet ((v179 : Int32) + (1)) fun v181 =>
    zSet s171 1 1974 (25) v181 fun s182 =>
    zBool (1) (some ((1), s182))
set_option maxRecDepth 20000 in
set_option maxHeartbeats 2000000 in
theorem tR_idles_137 {adr : Nat → Nat} {cI cZ : ClassId} {X : zX} {q : Int32 × ST} (B : zC X 6 (wdR adr cI cZ) cX8_idles RX8 (some .boolean) { frames := 5, cells := 0, slots := 0, locals := 115 }) (N : Nat) (σ : ST) (x1 : Int32) (x2 : Int32) (x3 : Int32) (hf : mR_idles_137 N σ x1 x2 x3 = some q) : zJ X 6 (wdR adr cI cZ) (zi q) 137 [(0, .ref (adr 0)), (1, .int x1), (2, .int x2), (3, .int x3)] [] σ := by
  refine z_iload_n B dX8_idles_137 1 rfl rfl ?_
  refine z_iconst B (-1) dX8_idles_138 zc_iconst_m1 ?_
  refine z_icmp_ne B 144 dX8_idles_139 (by decide) hf (fun hf => ?_) (fun hf => ?_)
  · refine z_aload_n B dX8_idles_144 0 rfl rfl ?_
    refine z_iload_n B dX8_idles_145 1 rfl rfl ?_
    refine z_callVi B (As := [.int x1]) kcV_X8_205 dX8_idles_146 hf (fun q hq => cR_nextOf q hq) (wR_o (adr := adr) (cI := cI) (cZ := cZ)) rfl rfl rfl rfl (Nat.le_of_ble_eq_true rfl) rfl rfl ⟨Nat.le_of_ble_eq_true rfl, Nat.le_of_ble_eq_true rfl⟩ (fun v146 s146 hf => ?_)
    refine z_istore_n B [(3, .int v146), (0, .ref (adr 0)), (1, .int x1), (2, .int x2)] dX8_idles_149 rfl (Nat.le_of_ble_eq_true rfl) rfl ?_
    refine z_aload_n B dX8_idles_150 1 rfl rfl ?_
    refine z_iconst B (0) dX8_idles_151 zc_iconst_0 ?_
    refine fR_p_plannedMany B dX8_idles_152 hf (fun s152 hf => ?_)
    refine z_aload_n B dX8_idles_155 1 rfl rfl ?_
    refine z_iload_n B dX8_idles_156 0 rfl rfl ?_
    refine z_iconst B (-1) dX8_idles_157 zc_iconst_m1 ?_
    refine z_iload_n B dX8_idles_158 2 rfl rfl ?_
    refine z_callVu B (As := [.int v146, .int (-1), .int x1]) kcV_X8_142 dX8_idles_159 hf (fun q hq => cR_fetchAhead q hq) (wR_o (adr := adr) (cI := cI) (cZ := cZ)) rfl rfl rfl rfl (Nat.le_of_ble_eq_true rfl) rfl rfl ⟨Nat.le_of_ble_eq_true rfl, Nat.le_of_ble_eq_true rfl⟩ (fun s159 hf => ?_)
    refine z_aload_n B dX8_idles_162 1 rfl rfl ?_
    refine fR_g_row B dX8_idles_163 ?_
    refine z_iload_n B dX8_idles_166 2 rfl rfl ?_
    refine z_bipush B (6) dX8_idles_167 zc_bipush_6 ?_
    refine z_iadd B dX8_idles_169 hf (fun v169 hf => ?_)
    refine z_iload_n B dX8_idles_170 0 rfl rfl ?_
    refine fR_s_row B dX8_idles_171 hf (fun s171 hf => ?_)
    refine z_aload_n B dX8_idles_172 1 rfl rfl ?_
    refine fR_g_row B dX8_idles_173 ?_
    refine z_bipush B (25) dX8_idles_176 zc_bipush_25 ?_
    refine z_dup2 B dX8_idles_178 rfl rfl ?_
    refine fR_l_row B dX8_idles_179 hf (fun v179 hf => ?_)
    refine z_iconst B (1) dX8_idles_180 zc_iconst_1 ?_
    refine z_iadd B dX8_idles_181 hf (fun v181 hf => ?_)
    refine fR_s_row B dX8_idles_182 hf (fun s182 hf => ?_)
    refine z_iconst B (1) dX8_idles_183 zc_iconst_1 ?_
    exact z_zreturn B dX8_idles_184 hf
  · refine z_iconst B (0) dX8_idles_142 zc_iconst_0 ?_
    exact z_zreturn B dX8_idles_143 hf
def mR_idles_131 (N : Nat) (hd6 : ST → Int32 → Int32 → Int32 → Option (Int32 × ST)) (σ : ST) (x1 : Int32) (x2 : Int32) (x3 : Int32) (x4 : Int32) (x5 : Int32) : Option (Int32 × ST) :=
  zLet (x3 + (1)) fun v131 =>
  hd6 σ x1 x2 v131
set_option maxRecDepth 20000 in
set_option maxHeartbeats 2000000 in
theorem tR_idles_131 {adr : Nat → Nat} {cI cZ : ClassId} {X : zX} {q : Int32 × ST} (B : zC X 6 (wdR adr cI cZ) cX8_idles RX8 (some .boolean) { frames := 5, cells := 0, slots := 0, locals := 115 }) (N : Nat) (hd6 : ST → Int32 → Int32 → Int32 → Option (Int32 × ST)) (hh6 : ∀ (σ : ST) (x1 : Int32) (x2 : Int32) (x3 : Int32), hd6 σ x1 x2 x3 = some q → zJ X 6 (wdR adr cI cZ) (zi q) 6 [(0, .ref (adr 0)), (1, .int x1), (2, .int x2), (3, .int x3)] [] σ) (σ : ST) (x1 : Int32) (x2 : Int32) (x3 : Int32) (x4 : Int32) (x5 : Int32) (hf : mR_idles_131 N hd6 σ x1 x2 x3 x4 x5 = some q) : zJ X 6 (wdR adr cI cZ) (zi q) 131 [(0, .ref (adr 0)), (1, .int x1), (2, .int x2), (3, .int x3), (4, .int x4), (5, .int x5)] [] σ := by
  refine z_iinc B (1) 3 (fun v131 => [(3, .int v131), (0, .ref (adr 0)), (1, .int x1), (2, .int x2), (4, .int x4), (5, .int x5)]) dX8_idles_131 hf zc_iconst_1 rfl (Nat.le_of_ble_eq_true rfl) (fun _ => rfl) (fun v131 hf => ?_)
  refine z_goto B 6 dX8_idles_134 (by decide) ?_
  exact z_loc [1, 2, 3, 0] _ rfl (hh6 σ x1 x2 v131 hf)
def mR_idles_76 (N : Nat) (hd6 : ST → Int32 → Int32 → Int32 → Option (Int32 × ST)) (σ : ST) (x1 : Int32) (x2 : Int32) (x3 : Int32) (x4 : Int32) (k0 : Int32) : Option (Int32 × ST) :=
  if (k0 : Int32) ≤ x2 then
    mR_idles_131 N hd6 σ x1 x2 x3 x4 k0
  else
    zCall (mR_nextOf N σ x4) fun v88 s88 =>
    zCall (mR_isBlock N s88 v88) fun v91 s91 =>
    if (v91 : Int32) = 0 then
      mR_idles_131 N hd6 s91 x1 x2 x3 x4 k0
    else
      zCall (mR_nextOf N s91 x4) fun v104 s104 =>
      zGet (s104 5) 10000 v104 fun v107 =>
      if (v107 : Int32) = 0 then
        zCall (mR_nextOf N s104 x4) fun v115 s115 =>
        zCall (mR_place N s115 v115) fun v118 s118 =>
        if (v118 : Int32) = (-1) then
          mR_idles_131 N hd6 s118 x4 k0 x3 x4 k0
        else
          mR_idles_131 N hd6 s118 x1 x2 x3 x4 k0
      else
        mR_idles_131 N hd6 s104 x1 x2 x3 x4 k0
set_option maxRecDepth 20000 in
set_option maxHeartbeats 2000000 in
theorem tR_idles_76 {adr : Nat → Nat} {cI cZ : ClassId} {X : zX} {q : Int32 × ST} (B : zC X 6 (wdR adr cI cZ) cX8_idles RX8 (some .boolean) { frames := 5, cells := 0, slots := 0, locals := 115 }) (N : Nat) (hd6 : ST → Int32 → Int32 → Int32 → Option (Int32 × ST)) (hh6 : ∀ (σ : ST) (x1 : Int32) (x2 : Int32) (x3 : Int32), hd6 σ x1 x2 x3 = some q → zJ X 6 (wdR adr cI cZ) (zi q) 6 [(0, .ref (adr 0)), (1, .int x1), (2, .int x2), (3, .int x3)] [] σ) (σ : ST) (x1 : Int32) (x2 : Int32) (x3 : Int32) (x4 : Int32) (k0 : Int32) (hf : mR_idles_76 N hd6 σ x1 x2 x3 x4 k0 = some q) : zJ X 6 (wdR adr cI cZ) (zi q) 76 [(0, .ref (adr 0)), (1, .int x1), (2, .int x2), (3, .int x3), (4, .int x4)] [.int k0] σ := by
  refine z_istore B [(5, .int k0), (0, .ref (adr 0)), (1, .int x1), (2, .int x2), (3, .int x3), (4, .int x4)] dX8_idles_76 (Nat.le_of_ble_eq_true rfl) rfl ?_
  refine z_iload B dX8_idles_78 0 rfl ?_
  refine z_iload_n B dX8_idles_80 3 rfl rfl ?_
  refine z_icmp_le B 131 dX8_idles_81 (by decide) hf (fun hf => ?_) (fun hf => ?_)
  · exact z_loc [1, 2, 3, 4, 5, 0] _ rfl (tR_idles_131 B N hd6 hh6 σ x1 x2 x3 x4 k0 hf)
  · refine z_aload_n B dX8_idles_84 1 rfl rfl ?_
    refine z_aload_n B dX8_idles_85 1 rfl rfl ?_
    refine z_iload B dX8_idles_86 5 rfl ?_
    refine z_callVi B (As := [.int x4]) kcV_X8_205 dX8_idles_88 hf (fun q hq => cR_nextOf q hq) (wR_o (adr := adr) (cI := cI) (cZ := cZ)) rfl rfl rfl rfl (Nat.le_of_ble_eq_true rfl) rfl rfl ⟨Nat.le_of_ble_eq_true rfl, Nat.le_of_ble_eq_true rfl⟩ (fun v88 s88 hf => ?_)
    refine z_callVi B (As := [.int v88]) kcV_X8_132 dX8_idles_91 hf (fun q hq => cR_isBlock q hq) (wR_o (adr := adr) (cI := cI) (cZ := cZ)) rfl rfl rfl rfl (Nat.le_of_ble_eq_true rfl) rfl rfl ⟨Nat.le_of_ble_eq_true rfl, Nat.le_of_ble_eq_true rfl⟩ (fun v91 s91 hf => ?_)
    refine z_if_eq B 131 dX8_idles_94 (by decide) hf (fun hf => ?_) (fun hf => ?_)
    · exact z_loc [1, 2, 3, 4, 5, 0] _ rfl (tR_idles_131 B N hd6 hh6 s91 x1 x2 x3 x4 k0 hf)
    · refine z_aload_n B dX8_idles_97 1 rfl rfl ?_
      refine fR_g_isBad B dX8_idles_98 ?_
      refine z_aload_n B dX8_idles_101 1 rfl rfl ?_
      refine z_iload B dX8_idles_102 5 rfl ?_
      refine z_callVi B (As := [.int x4]) kcV_X8_205 dX8_idles_104 hf (fun q hq => cR_nextOf q hq) (wR_o (adr := adr) (cI := cI) (cZ := cZ)) rfl rfl rfl rfl (Nat.le_of_ble_eq_true rfl) rfl rfl ⟨Nat.le_of_ble_eq_true rfl, Nat.le_of_ble_eq_true rfl⟩ (fun v104 s104 hf => ?_)
      refine fR_l_isBad B dX8_idles_107 hf (fun v107 hf => ?_)
      refine z_if_ne B 131 dX8_idles_108 (by decide) hf (fun hf => ?_) (fun hf => ?_)
      · exact z_loc [1, 2, 3, 4, 5, 0] _ rfl (tR_idles_131 B N hd6 hh6 s104 x1 x2 x3 x4 k0 hf)
      · refine z_aload_n B dX8_idles_111 1 rfl rfl ?_
        refine z_aload_n B dX8_idles_112 1 rfl rfl ?_
        refine z_iload B dX8_idles_113 5 rfl ?_
        refine z_callVi B (As := [.int x4]) kcV_X8_205 dX8_idles_115 hf (fun q hq => cR_nextOf q hq) (wR_o (adr := adr) (cI := cI) (cZ := cZ)) rfl rfl rfl rfl (Nat.le_of_ble_eq_true rfl) rfl rfl ⟨Nat.le_of_ble_eq_true rfl, Nat.le_of_ble_eq_true rfl⟩ (fun v115 s115 hf => ?_)
        refine z_callVi B (As := [.int v115]) kcV_X8_136 dX8_idles_118 hf (fun q hq => cR_place q hq) (wR_o (adr := adr) (cI := cI) (cZ := cZ)) rfl rfl rfl rfl (Nat.le_of_ble_eq_true rfl) rfl rfl ⟨Nat.le_of_ble_eq_true rfl, Nat.le_of_ble_eq_true rfl⟩ (fun v118 s118 hf => ?_)
        refine z_iconst B (-1) dX8_idles_121 zc_iconst_m1 ?_
        refine z_icmp_ne B 131 dX8_idles_122 (by decide) hf (fun hf => ?_) (fun hf => ?_)
        · exact z_loc [1, 2, 3, 4, 5, 0] _ rfl (tR_idles_131 B N hd6 hh6 s118 x1 x2 x3 x4 k0 hf)
        · refine z_iload B dX8_idles_125 5 rfl ?_
          refine z_istore_n B [(1, .int x4), (5, .int k0), (0, .ref (adr 0)), (2, .int x2), (3, .int x3), (4, .int x4)] dX8_idles_127 rfl (Nat.le_of_ble_eq_true rfl) rfl ?_
          refine z_iload B dX8_idles_128 1 rfl ?_
          refine z_istore_n B [(2, .int k0), (1, .int x4), (5, .int k0), (0, .ref (adr 0)), (3, .int x3), (4, .int x4)] dX8_idles_130 rfl (Nat.le_of_ble_eq_true rfl) rfl ?_
          exact z_loc [3, 1, 0, 4, 5, 2] _ rfl (tR_idles_131 B N hd6 hh6 s118 x4 k0 x3 x4 k0 hf)
def mR_idles_75 (N : Nat) (hd6 : ST → Int32 → Int32 → Int32 → Option (Int32 × ST)) (σ : ST) (x1 : Int32) (x2 : Int32) (x3 : Int32) (x4 : Int32) : Option (Int32 × ST) :=
  mR_idles_76 N hd6 σ x1 x2 x3 x4 (0)
set_option maxRecDepth 20000 in
set_option maxHeartbeats 2000000 in
theorem tR_idles_75 {adr : Nat → Nat} {cI cZ : ClassId} {X : zX} {q : Int32 × ST} (B : zC X 6 (wdR adr cI cZ) cX8_idles RX8 (some .boolean) { frames := 5, cells := 0, slots := 0, locals := 115 }) (N : Nat) (hd6 : ST → Int32 → Int32 → Int32 → Option (Int32 × ST)) (hh6 : ∀ (σ : ST) (x1 : Int32) (x2 : Int32) (x3 : Int32), hd6 σ x1 x2 x3 = some q → zJ X 6 (wdR adr cI cZ) (zi q) 6 [(0, .ref (adr 0)), (1, .int x1), (2, .int x2), (3, .int x3)] [] σ) (σ : ST) (x1 : Int32) (x2 : Int32) (x3 : Int32) (x4 : Int32) (hf : mR_idles_75 N hd6 σ x1 x2 x3 x4 = some q) : zJ X 6 (wdR adr cI cZ) (zi q) 75 [(0, .ref (adr 0)), (1, .int x1), (2, .int x2), (3, .int x3), (4, .int x4)] [] σ := by
  refine z_iconst B (0) dX8_idles_75 zc_iconst_0 ?_
  exact tR_idles_76 B N hd6 hh6 σ x1 x2 x3 x4 (0) hf
def mR_idles_B6 (N : Nat) (hd6 : ST → Int32 → Int32 → Int32 → Option (Int32 × ST)) (σ : ST) (x1 : Int32) (x2 : Int32) (x3 : Int32) : Option (Int32 × ST) :=
  if ((6) : Int32) ≤ x3 then
    mR_idles_137 N σ x1 x2 x3
  else
    zCall (mR_manyAhead N σ) fun v13 s13 =>
    zGet (s13 1) 1974 (0) fun v21 =>
    zDiv v21 (2) fun v23 =>
    if (v23 : Int32) ≤ v13 then
      mR_idles_137 N s13 x1 x2 x3
    else
      zCall (mR_streamAt N s13 x3) fun v28 s28 =>
      zGet (s28 1) 1974 v28 fun v39 =>
      if (v39 : Int32) = (1) then
        zLet ((v28 : Int32) + (5)) fun v51 =>
        zGet (s28 1) 1974 v51 fun v52 =>
        if (v52 : Int32) ≤ 0 then
          mR_idles_75 N hd6 s28 x1 x2 x3 v28
        else
          zLet ((v28 : Int32) + (5)) fun v63 =>
          zGet (s28 1) 1974 v63 fun v64 =>
          zCall (mR_aheadFor N s28 v28) fun v68 s68 =>
          zLet ((v64 : Int32) - v68) fun v71 =>
          mR_idles_76 N hd6 s68 x1 x2 x3 v28 v71
      else
        mR_idles_75 N hd6 s28 x1 x2 x3 v28
def mR_idles_6 (N : Nat) : ST → Int32 → Int32 → Int32 → Option (Int32 × ST) := zIt (mR_idles_B6 N) (fun _ _ _ _ => none) N
set_option maxRecDepth 20000 in
set_option maxHeartbeats 2000000 in
theorem tR_idles_6 {adr : Nat → Nat} {cI cZ : ClassId} {X : zX} {q : Int32 × ST} (B : zC X 6 (wdR adr cI cZ) cX8_idles RX8 (some .boolean) { frames := 5, cells := 0, slots := 0, locals := 115 }) (N : Nat) : ∀ (σ : ST) (x1 : Int32) (x2 : Int32) (x3 : Int32), mR_idles_6 N σ x1 x2 x3 = some q → zJ X 6 (wdR adr cI cZ) (zi q) 6 [(0, .ref (adr 0)), (1, .int x1), (2, .int x2), (3, .int x3)] [] σ := by
  refine zIt_ind (P := fun (hd : ST → Int32 → Int32 → Int32 → Option (Int32 × ST)) => ∀ (σ : ST) (x1 : Int32) (x2 : Int32) (x3 : Int32), hd σ x1 x2 x3 = some q → zJ X 6 (wdR adr cI cZ) (zi q) 6 [(0, .ref (adr 0)), (1, .int x1), (2, .int x2), (3, .int x3)] [] σ) (fun _ _ _ _ hf => by cases hf) (fun hd6 hh6 => ?_) N
  intro σ x1 x2 x3 hf
  refine z_iload_n B dX8_idles_6 3 rfl rfl ?_
  refine z_bipush B (6) dX8_idles_7 zc_bipush_6 ?_
  refine z_icmp_ge B 137 dX8_idles_9 (by decide) hf (fun hf => ?_) (fun hf => ?_)
  · exact tR_idles_137 B N σ x1 x2 x3 hf
  · refine z_aload_n B dX8_idles_12 0 rfl rfl ?_
    refine z_callVi B (As := []) kcV_X8_102 dX8_idles_13 hf (fun q hq => cR_manyAhead q hq) (wR_o (adr := adr) (cI := cI) (cZ := cZ)) rfl rfl rfl rfl (Nat.le_of_ble_eq_true rfl) rfl rfl ⟨Nat.le_of_ble_eq_true rfl, Nat.le_of_ble_eq_true rfl⟩ (fun v13 s13 hf => ?_)
    refine z_aload_n B dX8_idles_16 0 rfl rfl ?_
    refine fR_g_row B dX8_idles_17 ?_
    refine z_iconst B (0) dX8_idles_20 zc_iconst_0 ?_
    refine fR_l_row B dX8_idles_21 hf (fun v21 hf => ?_)
    refine z_iconst B (2) dX8_idles_22 zc_iconst_2 ?_
    refine z_idiv B dX8_idles_23 hf (fun v23 hf => ?_)
    refine z_icmp_ge B 137 dX8_idles_24 (by decide) hf (fun hf => ?_) (fun hf => ?_)
    · exact tR_idles_137 B N s13 x1 x2 x3 hf
    · refine z_iload_n B dX8_idles_27 3 rfl rfl ?_
      refine z_callSi B (As := [.int x3]) kcS_X8_89 dX8_idles_28 hf (fun q hq => cR_streamAt q hq) rfl rfl (Nat.le_of_ble_eq_true rfl) rfl rfl ⟨Nat.le_of_ble_eq_true rfl, Nat.le_of_ble_eq_true rfl⟩ (fun v28 s28 hf => ?_)
      refine z_istore B [(4, .int v28), (0, .ref (adr 0)), (1, .int x1), (2, .int x2), (3, .int x3)] dX8_idles_31 (Nat.le_of_ble_eq_true rfl) rfl ?_
      refine z_aload_n B dX8_idles_33 1 rfl rfl ?_
      refine fR_g_row B dX8_idles_34 ?_
      refine z_iload B dX8_idles_37 0 rfl ?_
      refine fR_l_row B dX8_idles_39 hf (fun v39 hf => ?_)
      refine z_iconst B (1) dX8_idles_40 zc_iconst_1 ?_
      refine z_icmp_ne B 75 dX8_idles_41 (by decide) hf (fun hf => ?_) (fun hf => ?_)
      · exact z_loc [1, 2, 3, 4, 0] _ rfl (tR_idles_75 B N hd6 hh6 s28 x1 x2 x3 v28 hf)
      · refine z_aload_n B dX8_idles_44 1 rfl rfl ?_
        refine fR_g_row B dX8_idles_45 ?_
        refine z_iload B dX8_idles_48 0 rfl ?_
        refine z_iconst B (5) dX8_idles_50 zc_iconst_5 ?_
        refine z_iadd B dX8_idles_51 hf (fun v51 hf => ?_)
        refine fR_l_row B dX8_idles_52 hf (fun v52 hf => ?_)
        refine z_if_le B 75 dX8_idles_53 (by decide) hf (fun hf => ?_) (fun hf => ?_)
        · exact z_loc [1, 2, 3, 4, 0] _ rfl (tR_idles_75 B N hd6 hh6 s28 x1 x2 x3 v28 hf)
        · refine z_aload_n B dX8_idles_56 1 rfl rfl ?_
          refine fR_g_row B dX8_idles_57 ?_
          refine z_iload B dX8_idles_60 0 rfl ?_
          refine z_iconst B (5) dX8_idles_62 zc_iconst_5 ?_
          refine z_iadd B dX8_idles_63 hf (fun v63 hf => ?_)
          refine fR_l_row B dX8_idles_64 hf (fun v64 hf => ?_)
          refine z_aload_n B dX8_idles_65 1 rfl rfl ?_
          refine z_iload B dX8_idles_66 0 rfl ?_
          refine z_callVi B (As := [.int v28]) kcV_X8_202 dX8_idles_68 hf (fun q hq => cR_aheadFor q hq) (wR_o (adr := adr) (cI := cI) (cZ := cZ)) rfl rfl rfl rfl (Nat.le_of_ble_eq_true rfl) rfl rfl ⟨Nat.le_of_ble_eq_true rfl, Nat.le_of_ble_eq_true rfl⟩ (fun v68 s68 hf => ?_)
          refine z_isub B dX8_idles_71 hf (fun v71 hf => ?_)
          refine z_goto B 76 dX8_idles_72 (by decide) ?_
          exact z_loc [1, 2, 3, 4, 0] _ rfl (tR_idles_76 B N hd6 hh6 s68 x1 x2 x3 v28 v71 hf)
def mR_idles (N : Nat) (σ : ST) : Option (Int32 × ST) :=
  mR_idles_6 N σ (-1) (0) (0)
set_option maxRecDepth 20000 in
set_option maxHeartbeats 2000000 in
theorem cR_idles {adr : Nat → Nat} {cI cZ : ClassId} {l : Launch} {D : va_G} {N : Nat} {σ : ST} (q : Int32 × ST) (hf : mR_idles N σ = some q) : zM l D (wdR adr cI cZ) yX8_idles cX8_idles 6 (some .boolean) ({ frames := 5, cells := 0, slots := 0, locals := 115 }) [.ref (adr 0)] σ (zi q) := by
  refine zM_of sfR_ok rfl (Nat.le_of_ble_eq_true rfl) [(0, .ref (adr 0))] rfl (fun X hX1 hX2 B => ?_)
  have B : zC X 6 (wdR adr cI cZ) cX8_idles RX8 (some .boolean) { frames := 5, cells := 0, slots := 0, locals := 115 } := B
  refine z_iconst B (-1) dX8_idles_0 zc_iconst_m1 ?_
  refine z_istore_n B [(1, .int (-1)), (0, .ref (adr 0))] dX8_idles_1 rfl (Nat.le_of_ble_eq_true rfl) rfl ?_
  refine z_iconst B (0) dX8_idles_2 zc_iconst_0 ?_
  refine z_istore_n B [(2, .int (0)), (1, .int (-1)), (0, .ref (adr 0))] dX8_idles_3 rfl (Nat.le_of_ble_eq_true rfl) rfl ?_
  refine z_iconst B (0) dX8_idles_4 zc_iconst_0 ?_
  refine z_istore_n B [(3, .int (0)), (2, .int (0)), (1, .int (-1)), (0, .ref (adr 0))] dX8_idles_5 rfl (Nat.le_of_ble_eq_true rfl) rfl ?_
  exact z_loc [3, 2, 1, 0] _ rfl (tR_idles_6 B N σ (-1) (0) (0) hf)
theorem dX8_idle_0 : decode cX8_idle 0 = .ok (.aload_n 0, 1) := by decide +kernel
theorem dX8_idle_1 : decode cX8_idle 1 = .ok (.iconst 0, 1) := by decide +kernel
theorem dX8_idle_2 : decode cX8_idle 2 = .ok (.putfield 67, 3) := by decide +kernel
theorem dX8_idle_5 : decode cX8_idle 5 = .ok (.iload_n 1, 1) := by decide +kernel
theorem dX8_idle_6 : decode cX8_idle 6 = .ok (.i2l, 1) := by decide +kernel
theorem dX8_idle_7 : decode cX8_idle 7 = .ok (.lconst 1, 1) := by decide +kernel
theorem dX8_idle_8 : decode cX8_idle 8 = .ok (.ldc2_w 208, 3) := by decide +kernel
theorem dX8_idle_11 : decode cX8_idle 11 = .ok (.invokestatic 71, 3) := by decide +kernel
theorem dX8_idle_14 : decode cX8_idle 14 = .ok (.ifCond .ne 5, 3) := by decide +kernel
theorem dX8_idle_17 : decode cX8_idle 17 = .ok (.iconst (-1), 1) := by decide +kernel
theorem dX8_idle_18 : decode cX8_idle 18 = .ok (.ireturn, 1) := by decide +kernel
theorem dX8_idle_19 : decode cX8_idle 19 = .ok (.iconst 0, 1) := by decide +kernel
theorem dX8_idle_20 : decode cX8_idle 20 = .ok (.istore_n 2, 1) := by decide +kernel
theorem dX8_idle_21 : decode cX8_idle 21 = .ok (.iload_n 2, 1) := by decide +kernel
theorem dX8_idle_22 : decode cX8_idle 22 = .ok (.iload_n 1, 1) := by decide +kernel
theorem dX8_idle_23 : decode cX8_idle 23 = .ok (.if_icmp .ge 16, 3) := by decide +kernel
theorem dX8_idle_26 : decode cX8_idle 26 = .ok (.aload_n 0, 1) := by decide +kernel
theorem dX8_idle_27 : decode cX8_idle 27 = .ok (.invokevirtual 210, 3) := by decide +kernel
theorem dX8_idle_30 : decode cX8_idle 30 = .ok (.ifCond .eq 9, 3) := by decide +kernel
theorem dX8_idle_33 : decode cX8_idle 33 = .ok (.iinc 2 1, 3) := by decide +kernel
theorem dX8_idle_36 : decode cX8_idle 36 = .ok (.goto (-15), 3) := by decide +kernel
theorem dX8_idle_39 : decode cX8_idle 39 = .ok (.iload_n 2, 1) := by decide +kernel
theorem dX8_idle_40 : decode cX8_idle 40 = .ok (.ireturn, 1) := by decide +kernel
def mR_idle_39 (N : Nat) (σ : ST) (x1 : Int32) (x2 : Int32) : Option (Int32 × ST) :=
  some (x2, σ)
set_option maxRecDepth 20000 in
set_option maxHeartbeats 2000000 in
theorem tR_idle_39 {adr : Nat → Nat} {cI cZ : ClassId} {X : zX} {q : Int32 × ST} (B : zC X 3 (wdR adr cI cZ) cX8_idle RX8 (some .int) { frames := 6, cells := 0, slots := 0, locals := 140 }) (N : Nat) (σ : ST) (x1 : Int32) (x2 : Int32) (hf : mR_idle_39 N σ x1 x2 = some q) : zJ X 3 (wdR adr cI cZ) (zi q) 39 [(0, .ref (adr 0)), (1, .int x1), (2, .int x2)] [] σ := by
  refine z_iload_n B dX8_idle_39 2 rfl rfl ?_
  exact z_ireturn B dX8_idle_40 hf
def mR_idle_B21 (N : Nat) (hd21 : ST → Int32 → Int32 → Option (Int32 × ST)) (σ : ST) (x1 : Int32) (x2 : Int32) : Option (Int32 × ST) :=
  if (x1 : Int32) ≤ x2 then
    mR_idle_39 N σ x1 x2
  else
    zCall (mR_idles N σ) fun v27 s27 =>
    if (v27 : Int32) = 0 then
      mR_idle_39 N s27 x1 x2
    else
      zLet (x2 + (1)) fun v33 =>
      hd21 s27 x1 v33
def mR_idle_21 (N : Nat) : ST → Int32 → Int32 → Option (Int32 × ST) := zIt (mR_idle_B21 N) (fun _ _ _ => none) N
set_option maxRecDepth 20000 in
set_option maxHeartbeats 2000000 in
theorem tR_idle_21 {adr : Nat → Nat} {cI cZ : ClassId} {X : zX} {q : Int32 × ST} (B : zC X 3 (wdR adr cI cZ) cX8_idle RX8 (some .int) { frames := 6, cells := 0, slots := 0, locals := 140 }) (N : Nat) : ∀ (σ : ST) (x1 : Int32) (x2 : Int32), mR_idle_21 N σ x1 x2 = some q → zJ X 3 (wdR adr cI cZ) (zi q) 21 [(0, .ref (adr 0)), (1, .int x1), (2, .int x2)] [] σ := by
  refine zIt_ind (P := fun (hd : ST → Int32 → Int32 → Option (Int32 × ST)) => ∀ (σ : ST) (x1 : Int32) (x2 : Int32), hd σ x1 x2 = some q → zJ X 3 (wdR adr cI cZ) (zi q) 21 [(0, .ref (adr 0)), (1, .int x1), (2, .int x2)] [] σ) (fun _ _ _ hf => by cases hf) (fun hd21 hh21 => ?_) N
  intro σ x1 x2 hf
  refine z_iload_n B dX8_idle_21 2 rfl rfl ?_
  refine z_iload_n B dX8_idle_22 1 rfl rfl ?_
  refine z_icmp_ge B 39 dX8_idle_23 (by decide) hf (fun hf => ?_) (fun hf => ?_)
  · exact tR_idle_39 B N σ x1 x2 hf
  · refine z_aload_n B dX8_idle_26 0 rfl rfl ?_
    refine z_callVi B (As := []) kcV_X8_210 dX8_idle_27 hf (fun q hq => cR_idles q hq) (wR_o (adr := adr) (cI := cI) (cZ := cZ)) rfl rfl rfl rfl (Nat.le_of_ble_eq_true rfl) rfl rfl ⟨Nat.le_of_ble_eq_true rfl, Nat.le_of_ble_eq_true rfl⟩ (fun v27 s27 hf => ?_)
    refine z_if_eq B 39 dX8_idle_30 (by decide) hf (fun hf => ?_) (fun hf => ?_)
    · exact tR_idle_39 B N s27 x1 x2 hf
    · refine z_iinc B (1) 2 (fun v33 => [(2, .int v33), (0, .ref (adr 0)), (1, .int x1)]) dX8_idle_33 hf zc_iconst_1 rfl (Nat.le_of_ble_eq_true rfl) (fun _ => rfl) (fun v33 hf => ?_)
      refine z_goto B 21 dX8_idle_36 (by decide) ?_
      exact z_loc [1, 2, 0] _ rfl (hh21 s27 x1 v33 hf)
def mR_idle (N : Nat) (σ : ST) (x1 : Int32) : Option (Int32 × ST) :=
  zLet (zUp σ 0 0 (0)) fun s2 =>
  zLet ((x1 : Int32).toInt64) fun v6 =>
  zCall (mR_in N s2 v6 (1) (20)) fun v11 s11 =>
  if (v11 : Int32) = 0 then
    some ((-1), s11)
  else
    mR_idle_21 N s11 x1 (0)
set_option maxRecDepth 20000 in
set_option maxHeartbeats 2000000 in
theorem cR_idle {adr : Nat → Nat} {cI cZ : ClassId} {l : Launch} {D : va_G} {N : Nat} {σ : ST} {x1 : Int32} (q : Int32 × ST) (hf : mR_idle N σ x1 = some q) : zM l D (wdR adr cI cZ) yX8_idle cX8_idle 3 (some .int) ({ frames := 6, cells := 0, slots := 0, locals := 140 }) [.ref (adr 0), .int x1] σ (zi q) := by
  refine zM_of sfR_ok rfl (Nat.le_of_ble_eq_true rfl) [(0, .ref (adr 0)), (1, .int x1)] rfl (fun X hX1 hX2 B => ?_)
  have B : zC X 3 (wdR adr cI cZ) cX8_idle RX8 (some .int) { frames := 6, cells := 0, slots := 0, locals := 140 } := B
  refine z_aload_n B dX8_idle_0 0 rfl rfl ?_
  refine z_iconst B (0) dX8_idle_1 zc_iconst_0 ?_
  refine fR_p_thrown B dX8_idle_2 hf (fun s2 hf => ?_)
  refine z_iload_n B dX8_idle_5 1 rfl rfl ?_
  refine z_i2l B dX8_idle_6 hf (fun v6 hf => ?_)
  refine z_lconst B (1) dX8_idle_7 rfl ?_
  refine z_ldc2 B kw_1141 dX8_idle_8 ?_
  refine z_callSi B (As := [.long v6, .long (1), .long (20)]) kcS_X8_71 dX8_idle_11 hf (fun q hq => cR_in q hq) rfl rfl (Nat.le_of_ble_eq_true rfl) rfl rfl ⟨Nat.le_of_ble_eq_true rfl, Nat.le_of_ble_eq_true rfl⟩ (fun v11 s11 hf => ?_)
  refine z_if_ne B 19 dX8_idle_14 (by decide) hf (fun hf => ?_) (fun hf => ?_)
  · refine z_iconst B (0) dX8_idle_19 zc_iconst_0 ?_
    refine z_istore_n B [(2, .int (0)), (0, .ref (adr 0)), (1, .int x1)] dX8_idle_20 rfl (Nat.le_of_ble_eq_true rfl) rfl ?_
    exact z_loc [1, 2, 0] _ rfl (tR_idle_21 B N s11 x1 (0) hf)
  · refine z_iconst B (-1) dX8_idle_17 zc_iconst_m1 ?_
    exact z_ireturn B dX8_idle_18 hf
