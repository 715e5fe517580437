theorem dX8_mixed_0 : decode cX8_mixed 0 = .ok (.aload_n 0, 1) := by decide +kernel
theorem dX8_mixed_1 : decode cX8_mixed 1 = .ok (.iconst 0, 1) := by decide +kernel
theorem dX8_mixed_2 : decode cX8_mixed 2 = .ok (.putfield 67, 3) := by decide +kernel
theorem dX8_mixed_5 : decode cX8_mixed 5 = .ok (.iload_n 1, 1) := by decide +kernel
theorem dX8_mixed_6 : decode cX8_mixed 6 = .ok (.i2l, 1) := by decide +kernel
theorem dX8_mixed_7 : decode cX8_mixed 7 = .ok (.lconst 0, 1) := by decide +kernel
theorem dX8_mixed_8 : decode cX8_mixed 8 = .ok (.ldc2_w 244, 3) := by decide +kernel
theorem dX8_mixed_11 : decode cX8_mixed 11 = .ok (.invokestatic 71, 3) := by decide +kernel
theorem dX8_mixed_14 : decode cX8_mixed 14 = .ok (.ifCond .ne 5, 3) := by decide +kernel
theorem dX8_mixed_17 : decode cX8_mixed 17 = .ok (.iconst (-1), 1) := by decide +kernel
theorem dX8_mixed_18 : decode cX8_mixed 18 = .ok (.ireturn, 1) := by decide +kernel
theorem dX8_mixed_19 : decode cX8_mixed 19 = .ok (.iconst 0, 1) := by decide +kernel
theorem dX8_mixed_20 : decode cX8_mixed 20 = .ok (.istore_n 2, 1) := by decide +kernel
theorem dX8_mixed_21 : decode cX8_mixed 21 = .ok (.iconst 0, 1) := by decide +kernel
theorem dX8_mixed_22 : decode cX8_mixed 22 = .ok (.istore_n 3, 1) := by decide +kernel
theorem dX8_mixed_23 : decode cX8_mixed 23 = .ok (.iconst 0, 1) := by decide +kernel
theorem dX8_mixed_24 : decode cX8_mixed 24 = .ok (.istore 4, 2) := by decide +kernel
theorem dX8_mixed_26 : decode cX8_mixed 26 = .ok (.iconst 0, 1) := by decide +kernel
theorem dX8_mixed_27 : decode cX8_mixed 27 = .ok (.istore 5, 2) := by decide +kernel
theorem dX8_mixed_29 : decode cX8_mixed 29 = .ok (.iload 5, 2) := by decide +kernel
theorem dX8_mixed_31 : decode cX8_mixed 31 = .ok (.aload_n 0, 1) := by decide +kernel
theorem dX8_mixed_32 : decode cX8_mixed 32 = .ok (.getfield 9, 3) := by decide +kernel
theorem dX8_mixed_35 : decode cX8_mixed 35 = .ok (.bipush 22, 2) := by decide +kernel
theorem dX8_mixed_37 : decode cX8_mixed 37 = .ok (.iaload, 1) := by decide +kernel
theorem dX8_mixed_38 : decode cX8_mixed 38 = .ok (.if_icmp .ge 154, 3) := by decide +kernel
theorem dX8_mixed_41 : decode cX8_mixed 41 = .ok (.iload_n 2, 1) := by decide +kernel
theorem dX8_mixed_42 : decode cX8_mixed 42 = .ok (.iload 5, 2) := by decide +kernel
theorem dX8_mixed_44 : decode cX8_mixed 44 = .ok (.ifCond .le 24, 3) := by decide +kernel
theorem dX8_mixed_47 : decode cX8_mixed 47 = .ok (.aload_n 0, 1) := by decide +kernel
theorem dX8_mixed_48 : decode cX8_mixed 48 = .ok (.iload 5, 2) := by decide +kernel
theorem dX8_mixed_50 : decode cX8_mixed 50 = .ok (.invokevirtual 246, 3) := by decide +kernel
theorem dX8_mixed_53 : decode cX8_mixed 53 = .ok (.aload_n 0, 1) := by decide +kernel
theorem dX8_mixed_54 : decode cX8_mixed 54 = .ok (.iload 5, 2) := by decide +kernel
theorem dX8_mixed_56 : decode cX8_mixed 56 = .ok (.iconst 1, 1) := by decide +kernel
theorem dX8_mixed_57 : decode cX8_mixed 57 = .ok (.isub, 1) := by decide +kernel
theorem dX8_mixed_58 : decode cX8_mixed 58 = .ok (.invokevirtual 246, 3) := by decide +kernel
theorem dX8_mixed_61 : decode cX8_mixed 61 = .ok (.if_icmp .eq 7, 3) := by decide +kernel
theorem dX8_mixed_64 : decode cX8_mixed 64 = .ok (.iconst 1, 1) := by decide +kernel
theorem dX8_mixed_65 : decode cX8_mixed 65 = .ok (.goto 4, 3) := by decide +kernel
theorem dX8_mixed_68 : decode cX8_mixed 68 = .ok (.iconst 0, 1) := by decide +kernel
theorem dX8_mixed_69 : decode cX8_mixed 69 = .ok (.iadd, 1) := by decide +kernel
theorem dX8_mixed_70 : decode cX8_mixed 70 = .ok (.istore_n 2, 1) := by decide +kernel
theorem dX8_mixed_71 : decode cX8_mixed 71 = .ok (.iconst 0, 1) := by decide +kernel
theorem dX8_mixed_72 : decode cX8_mixed 72 = .ok (.istore 6, 2) := by decide +kernel
theorem dX8_mixed_74 : decode cX8_mixed 74 = .ok (.iconst 1, 1) := by decide +kernel
theorem dX8_mixed_75 : decode cX8_mixed 75 = .ok (.istore 7, 2) := by decide +kernel
theorem dX8_mixed_77 : decode cX8_mixed 77 = .ok (.iconst 0, 1) := by decide +kernel
theorem dX8_mixed_78 : decode cX8_mixed 78 = .ok (.istore 8, 2) := by decide +kernel
theorem dX8_mixed_80 : decode cX8_mixed 80 = .ok (.iload 8, 2) := by decide +kernel
theorem dX8_mixed_82 : decode cX8_mixed 82 = .ok (.aload_n 0, 1) := by decide +kernel
theorem dX8_mixed_83 : decode cX8_mixed 83 = .ok (.getfield 9, 3) := by decide +kernel
theorem dX8_mixed_86 : decode cX8_mixed 86 = .ok (.bipush 22, 2) := by decide +kernel
theorem dX8_mixed_88 : decode cX8_mixed 88 = .ok (.iaload, 1) := by decide +kernel
theorem dX8_mixed_89 : decode cX8_mixed 89 = .ok (.if_icmp .ge 68, 3) := by decide +kernel
theorem dX8_mixed_92 : decode cX8_mixed 92 = .ok (.iload 6, 2) := by decide +kernel
theorem dX8_mixed_94 : decode cX8_mixed 94 = .ok (.aload_n 0, 1) := by decide +kernel
theorem dX8_mixed_95 : decode cX8_mixed 95 = .ok (.iload 8, 2) := by decide +kernel
theorem dX8_mixed_97 : decode cX8_mixed 97 = .ok (.invokevirtual 246, 3) := by decide +kernel
theorem dX8_mixed_100 : decode cX8_mixed 100 = .ok (.aload_n 0, 1) := by decide +kernel
theorem dX8_mixed_101 : decode cX8_mixed 101 = .ok (.iload 5, 2) := by decide +kernel
theorem dX8_mixed_103 : decode cX8_mixed 103 = .ok (.invokevirtual 246, 3) := by decide +kernel
theorem dX8_mixed_106 : decode cX8_mixed 106 = .ok (.if_icmp .ne 7, 3) := by decide +kernel
theorem dX8_mixed_109 : decode cX8_mixed 109 = .ok (.iconst 1, 1) := by decide +kernel
theorem dX8_mixed_110 : decode cX8_mixed 110 = .ok (.goto 4, 3) := by decide +kernel
theorem dX8_mixed_113 : decode cX8_mixed 113 = .ok (.iconst 0, 1) := by decide +kernel
theorem dX8_mixed_114 : decode cX8_mixed 114 = .ok (.iadd, 1) := by decide +kernel
theorem dX8_mixed_115 : decode cX8_mixed 115 = .ok (.istore 6, 2) := by decide +kernel
theorem dX8_mixed_117 : decode cX8_mixed 117 = .ok (.iload 7, 2) := by decide +kernel
theorem dX8_mixed_119 : decode cX8_mixed 119 = .ok (.ifCond .eq 29, 3) := by decide +kernel
theorem dX8_mixed_122 : decode cX8_mixed 122 = .ok (.iload 8, 2) := by decide +kernel
theorem dX8_mixed_124 : decode cX8_mixed 124 = .ok (.iload 5, 2) := by decide +kernel
theorem dX8_mixed_126 : decode cX8_mixed 126 = .ok (.if_icmp .ge 18, 3) := by decide +kernel
theorem dX8_mixed_129 : decode cX8_mixed 129 = .ok (.aload_n 0, 1) := by decide +kernel
theorem dX8_mixed_130 : decode cX8_mixed 130 = .ok (.iload 8, 2) := by decide +kernel
theorem dX8_mixed_132 : decode cX8_mixed 132 = .ok (.invokevirtual 246, 3) := by decide +kernel
theorem dX8_mixed_135 : decode cX8_mixed 135 = .ok (.aload_n 0, 1) := by decide +kernel
theorem dX8_mixed_136 : decode cX8_mixed 136 = .ok (.iload 5, 2) := by decide +kernel
theorem dX8_mixed_138 : decode cX8_mixed 138 = .ok (.invokevirtual 246, 3) := by decide +kernel
theorem dX8_mixed_141 : decode cX8_mixed 141 = .ok (.if_icmp .eq 7, 3) := by decide +kernel
theorem dX8_mixed_144 : decode cX8_mixed 144 = .ok (.iconst 1, 1) := by decide +kernel
theorem dX8_mixed_145 : decode cX8_mixed 145 = .ok (.goto 4, 3) := by decide +kernel
theorem dX8_mixed_148 : decode cX8_mixed 148 = .ok (.iconst 0, 1) := by decide +kernel
theorem dX8_mixed_149 : decode cX8_mixed 149 = .ok (.istore 7, 2) := by decide +kernel
theorem dX8_mixed_151 : decode cX8_mixed 151 = .ok (.iinc 8 1, 3) := by decide +kernel
theorem dX8_mixed_154 : decode cX8_mixed 154 = .ok (.goto (-74), 3) := by decide +kernel
theorem dX8_mixed_157 : decode cX8_mixed 157 = .ok (.iload_n 3, 1) := by decide +kernel
theorem dX8_mixed_158 : decode cX8_mixed 158 = .ok (.iload 7, 2) := by decide +kernel
theorem dX8_mixed_160 : decode cX8_mixed 160 = .ok (.ifCond .eq 7, 3) := by decide +kernel
theorem dX8_mixed_163 : decode cX8_mixed 163 = .ok (.iconst 1, 1) := by decide +kernel
theorem dX8_mixed_164 : decode cX8_mixed 164 = .ok (.goto 4, 3) := by decide +kernel
theorem dX8_mixed_167 : decode cX8_mixed 167 = .ok (.iconst 0, 1) := by decide +kernel
theorem dX8_mixed_168 : decode cX8_mixed 168 = .ok (.iadd, 1) := by decide +kernel
theorem dX8_mixed_169 : decode cX8_mixed 169 = .ok (.istore_n 3, 1) := by decide +kernel
theorem dX8_mixed_170 : decode cX8_mixed 170 = .ok (.iload 6, 2) := by decide +kernel
theorem dX8_mixed_172 : decode cX8_mixed 172 = .ok (.iload 4, 2) := by decide +kernel
theorem dX8_mixed_174 : decode cX8_mixed 174 = .ok (.if_icmp .le 8, 3) := by decide +kernel
theorem dX8_mixed_177 : decode cX8_mixed 177 = .ok (.iload 6, 2) := by decide +kernel
theorem dX8_mixed_179 : decode cX8_mixed 179 = .ok (.goto 5, 3) := by decide +kernel
theorem dX8_mixed_182 : decode cX8_mixed 182 = .ok (.iload 4, 2) := by decide +kernel
theorem dX8_mixed_184 : decode cX8_mixed 184 = .ok (.istore 4, 2) := by decide +kernel
theorem dX8_mixed_186 : decode cX8_mixed 186 = .ok (.iinc 5 1, 3) := by decide +kernel
theorem dX8_mixed_189 : decode cX8_mixed 189 = .ok (.goto (-160), 3) := by decide +kernel
theorem dX8_mixed_192 : decode cX8_mixed 192 = .ok (.iload_n 1, 1) := by decide +kernel
theorem dX8_mixed_193 : decode cX8_mixed 193 = .ok (.ifCond .ne 7, 3) := by decide +kernel
theorem dX8_mixed_196 : decode cX8_mixed 196 = .ok (.iload_n 2, 1) := by decide +kernel
theorem dX8_mixed_197 : decode cX8_mixed 197 = .ok (.goto 14, 3) := by decide +kernel
theorem dX8_mixed_200 : decode cX8_mixed 200 = .ok (.iload_n 1, 1) := by decide +kernel
theorem dX8_mixed_201 : decode cX8_mixed 201 = .ok (.iconst 1, 1) := by decide +kernel
theorem dX8_mixed_202 : decode cX8_mixed 202 = .ok (.if_icmp .ne 7, 3) := by decide +kernel
theorem dX8_mixed_205 : decode cX8_mixed 205 = .ok (.iload_n 3, 1) := by decide +kernel
theorem dX8_mixed_206 : decode cX8_mixed 206 = .ok (.goto 5, 3) := by decide +kernel
theorem dX8_mixed_209 : decode cX8_mixed 209 = .ok (.iload 4, 2) := by decide +kernel
theorem dX8_mixed_211 : decode cX8_mixed 211 = .ok (.ireturn, 1) := by decide +kernel
def mR_mixed_211 (N : Nat) (σ : ST) (x1 : Int32) (x2 : Int32) (x3 : Int32) (x4 : Int32) (x5 : Int32) (k0 : Int32) : Option (Int32 × ST) :=
  some (k0, σ)
set_option maxRecDepth 20000 in
set_option maxHeartbeats 2000000 in
theorem tR_mixed_211 {adr : Nat → Nat} {cI cZ : ClassId} {X : zX} {q : Int32 × ST} (B : zC X 9 (wdR adr cI cZ) cX8_mixed RX8 (some .int) { frames := 1, cells := 0, slots := 0, locals := 25 }) (N : Nat) (σ : ST) (x1 : Int32) (x2 : Int32) (x3 : Int32) (x4 : Int32) (x5 : Int32) (k0 : Int32) (hf : mR_mixed_211 N σ x1 x2 x3 x4 x5 k0 = some q) : zJ X 9 (wdR adr cI cZ) (zi q) 211 [(0, .ref (adr 0)), (1, .int x1), (2, .int x2), (3, .int x3), (4, .int x4), (5, .int x5)] [.int k0] σ := by
  exact z_ireturn B dX8_mixed_211 hf
def mR_mixed_184 (N : Nat) (hd29 : ST → Int32 → Int32 → Int32 → Int32 → Int32 → Option (Int32 × ST)) (σ : ST) (x1 : Int32) (x2 : Int32) (x3 : Int32) (x4 : Int32) (x5 : Int32) (x6 : Int32) (x7 : Int32) (x8 : Int32) (k0 : Int32) : Option (Int32 × ST) :=
  zLet (x5 + (1)) fun v186 =>
  hd29 σ x1 x2 x3 k0 v186
set_option maxRecDepth 20000 in
set_option maxHeartbeats 2000000 in
theorem tR_mixed_184 {adr : Nat → Nat} {cI cZ : ClassId} {X : zX} {q : Int32 × ST} (B : zC X 9 (wdR adr cI cZ) cX8_mixed RX8 (some .int) { frames := 1, cells := 0, slots := 0, locals := 25 }) (N : Nat) (hd29 : ST → Int32 → Int32 → Int32 → Int32 → Int32 → Option (Int32 × ST)) (hh29 : ∀ (σ : ST) (x1 : Int32) (x2 : Int32) (x3 : Int32) (x4 : Int32) (x5 : Int32), hd29 σ x1 x2 x3 x4 x5 = some q → zJ X 9 (wdR adr cI cZ) (zi q) 29 [(0, .ref (adr 0)), (1, .int x1), (2, .int x2), (3, .int x3), (4, .int x4), (5, .int x5)] [] σ) (σ : ST) (x1 : Int32) (x2 : Int32) (x3 : Int32) (x4 : Int32) (x5 : Int32) (x6 : Int32) (x7 : Int32) (x8 : Int32) (k0 : Int32) (hf : mR_mixed_184 N hd29 σ x1 x2 x3 x4 x5 x6 x7 x8 k0 = some q) : zJ X 9 (wdR adr cI cZ) (zi q) 184 [(0, .ref (adr 0)), (1, .int x1), (2, .int x2), (3, .int x3), (4, .int x4), (5, .int x5), (6, .int x6), (7, .int x7), (8, .int x8)] [.int k0] σ := by
  refine z_istore B [(4, .int k0), (0, .ref (adr 0)), (1, .int x1), (2, .int x2), (3, .int x3), (5, .int x5), (6, .int x6), (7, .int x7), (8, .int x8)] dX8_mixed_184 (Nat.le_of_ble_eq_true rfl) rfl ?_
  refine z_iinc B (1) 5 (fun v186 => [(5, .int v186), (4, .int k0), (0, .ref (adr 0)), (1, .int x1), (2, .int x2), (3, .int x3), (6, .int x6), (7, .int x7), (8, .int x8)]) dX8_mixed_186 hf zc_iconst_1 rfl (Nat.le_of_ble_eq_true rfl) (fun _ => rfl) (fun v186 hf => ?_)
  refine z_goto B 29 dX8_mixed_189 (by decide) ?_
  exact z_loc [2, 3, 4, 5, 1, 0] _ rfl (hh29 σ x1 x2 x3 k0 v186 hf)
def mR_mixed_168 (N : Nat) (hd29 : ST → Int32 → Int32 → Int32 → Int32 → Int32 → Option (Int32 × ST)) (σ : ST) (x1 : Int32) (x2 : Int32) (x3 : Int32) (x4 : Int32) (x5 : Int32) (x6 : Int32) (x7 : Int32) (x8 : Int32) (k0 : Int32) (k1 : Int32) : Option (Int32 × ST) :=
  zLet ((k0 : Int32) + k1) fun v168 =>
  if (x6 : Int32) ≤ x4 then
    mR_mixed_184 N hd29 σ x1 x2 v168 x4 x5 x6 x7 x8 x4
  else
    mR_mixed_184 N hd29 σ x1 x2 v168 x4 x5 x6 x7 x8 x6
set_option maxRecDepth 20000 in
set_option maxHeartbeats 2000000 in
theorem tR_mixed_168 {adr : Nat → Nat} {cI cZ : ClassId} {X : zX} {q : Int32 × ST} (B : zC X 9 (wdR adr cI cZ) cX8_mixed RX8 (some .int) { frames := 1, cells := 0, slots := 0, locals := 25 }) (N : Nat) (hd29 : ST → Int32 → Int32 → Int32 → Int32 → Int32 → Option (Int32 × ST)) (hh29 : ∀ (σ : ST) (x1 : Int32) (x2 : Int32) (x3 : Int32) (x4 : Int32) (x5 : Int32), hd29 σ x1 x2 x3 x4 x5 = some q → zJ X 9 (wdR adr cI cZ) (zi q) 29 [(0, .ref (adr 0)), (1, .int x1), (2, .int x2), (3, .int x3), (4, .int x4), (5, .int x5)] [] σ) (σ : ST) (x1 : Int32) (x2 : Int32) (x3 : Int32) (x4 : Int32) (x5 : Int32) (x6 : Int32) (x7 : Int32) (x8 : Int32) (k0 : Int32) (k1 : Int32) (hf : mR_mixed_168 N hd29 σ x1 x2 x3 x4 x5 x6 x7 x8 k0 k1 = some q) : zJ X 9 (wdR adr cI cZ) (zi q) 168 [(0, .ref (adr 0)), (1, .int x1), (2, .int x2), (3, .int x3), (4, .int x4), (5, .int x5), (6, .int x6), (7, .int x7), (8, .int x8)] [.int k1, .int k0] σ := by
  refine z_iadd B dX8_mixed_168 hf (fun v168 hf => ?_)
  refine z_istore_n B [(3, .int v168), (0, .ref (adr 0)), (1, .int x1), (2, .int x2), (4, .int x4), (5, .int x5), (6, .int x6), (7, .int x7), (8, .int x8)] dX8_mixed_169 rfl (Nat.le_of_ble_eq_true rfl) rfl ?_
  refine z_iload B dX8_mixed_170 6 rfl ?_
  refine z_iload B dX8_mixed_172 4 rfl ?_
  refine z_icmp_le B 182 dX8_mixed_174 (by decide) hf (fun hf => ?_) (fun hf => ?_)
  · refine z_iload B dX8_mixed_182 4 rfl ?_
    exact z_loc [1, 2, 3, 0, 4, 5, 6, 7, 8] _ rfl (tR_mixed_184 B N hd29 hh29 σ x1 x2 v168 x4 x5 x6 x7 x8 x4 hf)
  · refine z_iload B dX8_mixed_177 6 rfl ?_
    refine z_goto B 184 dX8_mixed_179 (by decide) ?_
    exact z_loc [1, 2, 3, 0, 4, 5, 6, 7, 8] _ rfl (tR_mixed_184 B N hd29 hh29 σ x1 x2 v168 x4 x5 x6 x7 x8 x6 hf)
def mR_mixed_149 (N : Nat) (hd29 : ST → Int32 → Int32 → Int32 → Int32 → Int32 → Option (Int32 × ST)) (hd80 : ST → Int32 → Int32 → Int32 → Int32 → Int32 → Int32 → Int32 → Int32 → Option (Int32 × ST)) (σ : ST) (x1 : Int32) (x2 : Int32) (x3 : Int32) (x4 : Int32) (x5 : Int32) (x6 : Int32) (x7 : Int32) (x8 : Int32) (k0 : Int32) : Option (Int32 × ST) :=
  zLet (x8 + (1)) fun v151 =>
  hd80 σ x1 x2 x3 x4 x5 x6 k0 v151
set_option maxRecDepth 20000 in
set_option maxHeartbeats 2000000 in
theorem tR_mixed_149 {adr : Nat → Nat} {cI cZ : ClassId} {X : zX} {q : Int32 × ST} (B : zC X 9 (wdR adr cI cZ) cX8_mixed RX8 (some .int) { frames := 1, cells := 0, slots := 0, locals := 25 }) (N : Nat) (hd29 : ST → Int32 → Int32 → Int32 → Int32 → Int32 → Option (Int32 × ST)) (hh29 : ∀ (σ : ST) (x1 : Int32) (x2 : Int32) (x3 : Int32) (x4 : Int32) (x5 : Int32), hd29 σ x1 x2 x3 x4 x5 = some q → zJ X 9 (wdR adr cI cZ) (zi q) 29 [(0, .ref (adr 0)), (1, .int x1), (2, .int x2), (3, .int x3), (4, .int x4), (5, .int x5)] [] σ) (hd80 : ST → Int32 → Int32 → Int32 → Int32 → Int32 → Int32 → Int32 → Int32 → Option (Int32 × ST)) (hh80 : ∀ (σ : ST) (x1 : Int32) (x2 : Int32) (x3 : Int32) (x4 : Int32) (x5 : Int32) (x6 : Int32) (x7 : Int32) (x8 : Int32), hd80 σ x1 x2 x3 x4 x5 x6 x7 x8 = some q → zJ X 9 (wdR adr cI cZ) (zi q) 80 [(0, .ref (adr 0)), (1, .int x1), (2, .int x2), (3, .int x3), (4, .int x4), (5, .int x5), (6, .int x6), (7, .int x7), (8, .int x8)] [] σ) (σ : ST) (x1 : Int32) (x2 : Int32) (x3 : Int32) (x4 : Int32) (x5 : Int32) (x6 : Int32) (x7 : Int32) (x8 : Int32) (k0 : Int32) (hf : mR_mixed_149 N hd29 hd80 σ x1 x2 x3 x4 x5 x6 x7 x8 k0 = some q) : zJ X 9 (wdR adr cI cZ) (zi q) 149 [(0, .ref (adr 0)), (1, .int x1), (2, .int x2), (3, .int x3), (4, .int x4), (5, .int x5), (6, .int x6), (7, .int x7), (8, .int x8)] [.int k0] σ := by
  refine z_istore B [(7, .int k0), (0, .ref (adr 0)), (1, .int x1), (2, .int x2), (3, .int x3), (4, .int x4), (5, .int x5), (6, .int x6), (8, .int x8)] dX8_mixed_149 (Nat.le_of_ble_eq_true rfl) rfl ?_
  refine z_iinc B (1) 8 (fun v151 => [(8, .int v151), (7, .int k0), (0, .ref (adr 0)), (1, .int x1), (2, .int x2), (3, .int x3), (4, .int x4), (5, .int x5), (6, .int x6)]) dX8_mixed_151 hf zc_iconst_1 rfl (Nat.le_of_ble_eq_true rfl) (fun _ => rfl) (fun v151 hf => ?_)
  refine z_goto B 80 dX8_mixed_154 (by decide) ?_
  exact z_loc [2, 3, 4, 5, 6, 7, 8, 1, 0] _ rfl (hh80 σ x1 x2 x3 x4 x5 x6 k0 v151 hf)
def mR_mixed_148 (N : Nat) (hd29 : ST → Int32 → Int32 → Int32 → Int32 → Int32 → Option (Int32 × ST)) (hd80 : ST → Int32 → Int32 → Int32 → Int32 → Int32 → Int32 → Int32 → Int32 → Option (Int32 × ST)) (σ : ST) (x1 : Int32) (x2 : Int32) (x3 : Int32) (x4 : Int32) (x5 : Int32) (x6 : Int32) (x7 : Int32) (x8 : Int32) : Option (Int32 × ST) :=
  mR_mixed_149 N hd29 hd80 σ x1 x2 x3 x4 x5 x6 x7 x8 (0)
set_option maxRecDepth 20000 in
set_option maxHeartbeats 2000000 in
theorem tR_mixed_148 {adr : Nat → Nat} {cI cZ : ClassId} {X : zX} {q : Int32 × ST} (B : zC X 9 (wdR adr cI cZ) cX8_mixed RX8 (some .int) { frames := 1, cells := 0, slots := 0, locals := 25 }) (N : Nat) (hd29 : ST → Int32 → Int32 → Int32 → Int32 → Int32 → Option (Int32 × ST)) (hh29 : ∀ (σ : ST) (x1 : Int32) (x2 : Int32) (x3 : Int32) (x4 : Int32) (x5 : Int32), hd29 σ x1 x2 x3 x4 x5 = some q → zJ X 9 (wdR adr cI cZ) (zi q) 29 [(0, .ref (adr 0)), (1, .int x1), (2, .int x2), (3, .int x3), (4, .int x4), (5, .int x5)] [] σ) (hd80 : ST → Int32 → Int32 → Int32 → Int32 → Int32 → Int32 → Int32 → Int32 → Option (Int32 × ST)) (hh80 : ∀ (σ : ST) (x1 : Int32) (x2 : Int32) (x3 : Int32) (x4 : Int32) (x5 : Int32) (x6 : Int32) (x7 : Int32) (x8 : Int32), hd80 σ x1 x2 x3 x4 x5 x6 x7 x8 = some q → zJ X 9 (wdR adr cI cZ) (zi q) 80 [(0, .ref (adr 0)), (1, .int x1), (2, .int x2), (3, .int x3), (4, .int x4), (5, .int x5), (6, .int x6), (7, .int x7), (8, .int x8)] [] σ) (σ : ST) (x1 : Int32) (x2 : Int32) (x3 : Int32) (x4 : Int32) (x5 : Int32) (x6 : Int32) (x7 : Int32) (x8 : Int32) (hf : mR_mixed_148 N hd29 hd80 σ x1 x2 x3 x4 x5 x6 x7 x8 = some q) : zJ X 9 (wdR adr cI cZ) (zi q) 148 [(0, .ref (adr 0)), (1, .int x1), (2, .int x2), (3, .int x3), (4, .int x4), (5, .int x5), (6, .int x6), (7, .int x7), (8, .int x8)] [] σ := by
  refine z_iconst B (0) dX8_mixed_148 zc_iconst_0 ?_
  exact tR_mixed_149 B N hd29 hh29 hd80 hh80 σ x1 x2 x3 x4 x5 x6 x7 x8 (0) hf
def mR_mixed_144 (N : Nat) (hd29 : ST → Int32 → Int32 → Int32 → Int32 → Int32 → Option (Int32 × ST)) (hd80 : ST → Int32 → Int32 → Int32 → Int32 → Int32 → Int32 → Int32 → Int32 → Option (Int32 × ST)) (σ : ST) (x1 : Int32) (x2 : Int32) (x3 : Int32) (x4 : Int32) (x5 : Int32) (x6 : Int32) (x7 : Int32) (x8 : Int32) : Option (Int32 × ST) :=
  mR_mixed_149 N hd29 hd80 σ x1 x2 x3 x4 x5 x6 x7 x8 (1)
set_option maxRecDepth 20000 in
set_option maxHeartbeats 2000000 in
theorem tR_mixed_144 {adr : Nat → Nat} {cI cZ : ClassId} {X : zX} {q : Int32 × ST} (B : zC X 9 (wdR adr cI cZ) cX8_mixed RX8 (some .int) { frames := 1, cells := 0, slots := 0, locals := 25 }) (N : Nat) (hd29 : ST → Int32 → Int32 → Int32 → Int32 → Int32 → Option (Int32 × ST)) (hh29 : ∀ (σ : ST) (x1 : Int32) (x2 : Int32) (x3 : Int32) (x4 : Int32) (x5 : Int32), hd29 σ x1 x2 x3 x4 x5 = some q → zJ X 9 (wdR adr cI cZ) (zi q) 29 [(0, .ref (adr 0)), (1, .int x1), (2, .int x2), (3, .int x3), (4, .int x4), (5, .int x5)] [] σ) (hd80 : ST → Int32 → Int32 → Int32 → Int32 → Int32 → Int32 → Int32 → Int32 → Option (Int32 × ST)) (hh80 : ∀ (σ : ST) (x1 : Int32) (x2 : Int32) (x3 : Int32) (x4 : Int32) (x5 : Int32) (x6 : Int32) (x7 : Int32) (x8 : Int32), hd80 σ x1 x2 x3 x4 x5 x6 x7 x8 = some q → zJ X 9 (wdR adr cI cZ) (zi q) 80 [(0, .ref (adr 0)), (1, .int x1), (2, .int x2), (3, .int x3), (4, .int x4), (5, .int x5), (6, .int x6), (7, .int x7), (8, .int x8)] [] σ) (σ : ST) (x1 : Int32) (x2 : Int32) (x3 : Int32) (x4 : Int32) (x5 : Int32) (x6 : Int32) (x7 : Int32) (x8 : Int32) (hf : mR_mixed_144 N hd29 hd80 σ x1 x2 x3 x4 x5 x6 x7 x8 = some q) : zJ X 9 (wdR adr cI cZ) (zi q) 144 [(0, .ref (adr 0)), (1, .int x1), (2, .int x2), (3, .int x3), (4, .int x4), (5, .int x5), (6, .int x6), (7, .int x7), (8, .int x8)] [] σ := by
  refine z_iconst B (1) dX8_mixed_144 zc_iconst_1 ?_
  refine z_goto B 149 dX8_mixed_145 (by decide) ?_
  exact tR_mixed_149 B N hd29 hh29 hd80 hh80 σ x1 x2 x3 x4 x5 x6 x7 x8 (1) hf
def mR_mixed_114 (N : Nat) (hd29 : ST → Int32 → Int32 → Int32 → Int32 → Int32 → Option (Int32 × ST)) (hd80 : ST → Int32 → Int32 → Int32 → Int32 → Int32 → Int32 → Int32 → Int32 → Option (Int32 × ST)) (σ : ST) (x1 : Int32) (x2 : Int32) (x3 : Int32) (x4 : Int32) (x5 : Int32) (x6 : Int32) (x7 : Int32) (x8 : Int32) (k0 : Int32) (k1 : Int32) : Option (Int32 × ST) :=
  zLet ((k0 : Int32) + k1) fun v114 =>
  if (x7 : Int32) = 0 then
    mR_mixed_148 N hd29 hd80 σ x1 x2 x3 x4 x5 v114 x7 x8
  else
    if (x5 : Int32) ≤ x8 then
      mR_mixed_144 N hd29 hd80 σ x1 x2 x3 x4 x5 v114 x7 x8
    else
      zCall (mR_numberAt N σ x8) fun v132 s132 =>
      zCall (mR_numberAt N s132 x5) fun v138 s138 =>
      if (v132 : Int32) = v138 then
        mR_mixed_148 N hd29 hd80 s138 x1 x2 x3 x4 x5 v114 x7 x8
      else
        mR_mixed_144 N hd29 hd80 s138 x1 x2 x3 x4 x5 v114 x7 x8
set_option maxRecDepth 20000 in
set_option maxHeartbeats 2000000 in
theorem tR_mixed_114 {adr : Nat → Nat} {cI cZ : ClassId} {X : zX} {q : Int32 × ST} (B : zC X 9 (wdR adr cI cZ) cX8_mixed RX8 (some .int) { frames := 1, cells := 0, slots := 0, locals := 25 }) (N : Nat) (hd29 : ST → Int32 → Int32 → Int32 → Int32 → Int32 → Option (Int32 × ST)) (hh29 : ∀ (σ : ST) (x1 : Int32) (x2 : Int32) (x3 : Int32) (x4 : Int32) (x5 : Int32), hd29 σ x1 x2 x3 x4 x5 = some q → zJ X 9 (wdR adr cI cZ) (zi q) 29 [(0, .ref (adr 0)), (1, .int x1), (2, .int x2), (3, .int x3), (4, .int x4), (5, .int x5)] [] σ) (hd80 : ST → Int32 → Int32 → Int32 → Int32 → Int32 → Int32 → Int32 → Int32 → Option (Int32 × ST)) (hh80 : ∀ (σ : ST) (x1 : Int32) (x2 : Int32) (x3 : Int32) (x4 : Int32) (x5 : Int32) (x6 : Int32) (x7 : Int32) (x8 : Int32), hd80 σ x1 x2 x3 x4 x5 x6 x7 x8 = some q → zJ X 9 (wdR adr cI cZ) (zi q) 80 [(0, .ref (adr 0)), (1, .int x1), (2, .int x2), (3, .int x3), (4, .int x4), (5, .int x5), (6, .int x6), (7, .int x7), (8, .int x8)] [] σ) (σ : ST) (x1 : Int32) (x2 : Int32) (x3 : Int32) (x4 : Int32) (x5 : Int32) (x6 : Int32) (x7 : Int32) (x8 : Int32) (k0 : Int32) (k1 : Int32) (hf : mR_mixed_114 N hd29 hd80 σ x1 x2 x3 x4 x5 x6 x7 x8 k0 k1 = some q) : zJ X 9 (wdR adr cI cZ) (zi q) 114 [(0, .ref (adr 0)), (1, .int x1), (2, .int x2), (3, .int x3), (4, .int x4), (5, .int x5), (6, .int x6), (7, .int x7), (8, .int x8)] [.int k1, .int k0] σ := by
  refine z_iadd B dX8_mixed_114 hf (fun v114 hf => ?_)
  refine z_istore B [(6, .int v114), (0, .ref (adr 0)), (1, .int x1), (2, .int x2), (3, .int x3), (4, .int x4), (5, .int x5), (7, .int x7), (8, .int x8)] dX8_mixed_115 (Nat.le_of_ble_eq_true rfl) rfl ?_
  refine z_iload B dX8_mixed_117 7 rfl ?_
  refine z_if_eq B 148 dX8_mixed_119 (by decide) hf (fun hf => ?_) (fun hf => ?_)
  · exact z_loc [1, 2, 3, 4, 5, 6, 0, 7, 8] _ rfl (tR_mixed_148 B N hd29 hh29 hd80 hh80 σ x1 x2 x3 x4 x5 v114 x7 x8 hf)
  · refine z_iload B dX8_mixed_122 8 rfl ?_
    refine z_iload B dX8_mixed_124 6 rfl ?_
    refine z_icmp_ge B 144 dX8_mixed_126 (by decide) hf (fun hf => ?_) (fun hf => ?_)
    · exact z_loc [1, 2, 3, 4, 5, 6, 0, 7, 8] _ rfl (tR_mixed_144 B N hd29 hh29 hd80 hh80 σ x1 x2 x3 x4 x5 v114 x7 x8 hf)
    · refine z_aload_n B dX8_mixed_129 1 rfl rfl ?_
      refine z_iload B dX8_mixed_130 8 rfl ?_
      refine z_callVi B (As := [.int x8]) kcV_X8_246 dX8_mixed_132 hf (fun q hq => cR_numberAt q hq) (wR_o (adr := adr) (cI := cI) (cZ := cZ)) rfl rfl rfl rfl (Nat.le_of_ble_eq_true rfl) rfl rfl ⟨Nat.le_of_ble_eq_true rfl, Nat.le_of_ble_eq_true rfl⟩ (fun v132 s132 hf => ?_)
      refine z_aload_n B dX8_mixed_135 1 rfl rfl ?_
      refine z_iload B dX8_mixed_136 6 rfl ?_
      refine z_callVi B (As := [.int x5]) kcV_X8_246 dX8_mixed_138 hf (fun q hq => cR_numberAt q hq) (wR_o (adr := adr) (cI := cI) (cZ := cZ)) rfl rfl rfl rfl (Nat.le_of_ble_eq_true rfl) rfl rfl ⟨Nat.le_of_ble_eq_true rfl, Nat.le_of_ble_eq_true rfl⟩ (fun v138 s138 hf => ?_)
      refine z_icmp_eq B 148 dX8_mixed_141 (by decide) hf (fun hf => ?_) (fun hf => ?_)
      · exact z_loc [1, 2, 3, 4, 5, 6, 0, 7, 8] _ rfl (tR_mixed_148 B N hd29 hh29 hd80 hh80 s138 x1 x2 x3 x4 x5 v114 x7 x8 hf)
      · exact z_loc [1, 2, 3, 4, 5, 6, 0, 7, 8] _ rfl (tR_mixed_144 B N hd29 hh29 hd80 hh80 s138 x1 x2 x3 x4 x5 v114 x7 x8 hf)
def mR_mixed_B80 (N : Nat) (hd29 : ST → Int32 → Int32 → Int32 → Int32 → Int32 → Option (Int32 × ST)) (hd80 : ST → Int32 → Int32 → Int32 → Int32 → Int32 → Int32 → Int32 → Int32 → Option (Int32 × ST)) (σ : ST) (x1 : Int32) (x2 : Int32) (x3 : Int32) (x4 : Int32) (x5 : Int32) (x6 : Int32) (x7 : Int32) (x8 : Int32) : Option (Int32 × ST) :=
  zGet (σ 1) 1974 (22) fun v88 =>
  if (v88 : Int32) ≤ x8 then
    if (x7 : Int32) = 0 then
      mR_mixed_168 N hd29 σ x1 x2 x3 x4 x5 x6 x7 x8 x3 (0)
    else
      mR_mixed_168 N hd29 σ x1 x2 x3 x4 x5 x6 x7 x8 x3 (1)
  else
    zCall (mR_numberAt N σ x8) fun v97 s97 =>
    zCall (mR_numberAt N s97 x5) fun v103 s103 =>
    if (v97 : Int32) = v103 then
      mR_mixed_114 N hd29 hd80 s103 x1 x2 x3 x4 x5 x6 x7 x8 x6 (1)
    else
      mR_mixed_114 N hd29 hd80 s103 x1 x2 x3 x4 x5 x6 x7 x8 x6 (0)
def mR_mixed_80 (N : Nat) (hd29 : ST → Int32 → Int32 → Int32 → Int32 → Int32 → Option (Int32 × ST)) : ST → Int32 → Int32 → Int32 → Int32 → Int32 → Int32 → Int32 → Int32 → Option (Int32 × ST) := zIt (mR_mixed_B80 N hd29) (fun _ _ _ _ _ _ _ _ _ => none) N
set_option maxRecDepth 20000 in
set_option maxHeartbeats 2000000 in
theorem tR_mixed_80 {adr : Nat → Nat} {cI cZ : ClassId} {X : zX} {q : Int32 × ST} (B : zC X 9 (wdR adr cI cZ) cX8_mixed RX8 (some .int) { frames := 1, cells := 0, slots := 0, locals := 25 }) (N : Nat) (hd29 : ST → Int32 → Int32 → Int32 → Int32 → Int32 → Option (Int32 × ST)) (hh29 : ∀ (σ : ST) (x1 : Int32) (x2 : Int32) (x3 : Int32) (x4 : Int32) (x5 : Int32), hd29 σ x1 x2 x3 x4 x5 = some q → zJ X 9 (wdR adr cI cZ) (zi q) 29 [(0, .ref (adr 0)), (1, .int x1), (2, .int x2), (3, .int x3), (4, .int x4), (5, .int x5)] [] σ) : ∀ (σ : ST) (x1 : Int32) (x2 : Int32) (x3 : Int32) (x4 : Int32) (x5 : Int32) (x6 : Int32) (x7 : Int32) (x8 : Int32), mR_mixed_80 N hd29 σ x1 x2 x3 x4 x5 x6 x7 x8 = some q → zJ X 9 (wdR adr cI cZ) (zi q) 80 [(0, .ref (adr 0)), (1, .int x1), (2, .int x2), (3, .int x3), (4, .int x4), (5, .int x5), (6, .int x6), (7, .int x7), (8, .int x8)] [] σ := by
  refine zIt_ind (P := fun (hd : ST → Int32 → Int32 → Int32 → Int32 → Int32 → Int32 → Int32 → Int32 → Option (Int32 × ST)) => ∀ (σ : ST) (x1 : Int32) (x2 : Int32) (x3 : Int32) (x4 : Int32) (x5 : Int32) (x6 : Int32) (x7 : Int32) (x8 : Int32), hd σ x1 x2 x3 x4 x5 x6 x7 x8 = some q → zJ X 9 (wdR adr cI cZ) (zi q) 80 [(0, .ref (adr 0)), (1, .int x1), (2, .int x2), (3, .int x3), (4, .int x4), (5, .int x5), (6, .int x6), (7, .int x7), (8, .int x8)] [] σ) (fun _ _ _ _ _ _ _ _ _ hf => by cases hf) (fun hd80 hh80 => ?_) N
  intro σ x1 x2 x3 x4 x5 x6 x7 x8 hf
  refine z_iload B dX8_mixed_80 8 rfl ?_
  refine z_aload_n B dX8_mixed_82 0 rfl rfl ?_
  refine fR_g_row B dX8_mixed_83 ?_
  refine z_bipush B (22) dX8_mixed_86 zc_bipush_22 ?_
  refine fR_l_row B dX8_mixed_88 hf (fun v88 hf => ?_)
  refine z_icmp_ge B 157 dX8_mixed_89 (by decide) hf (fun hf => ?_) (fun hf => ?_)
  · refine z_iload_n B dX8_mixed_157 3 rfl rfl ?_
    refine z_iload B dX8_mixed_158 7 rfl ?_
    refine z_if_eq B 167 dX8_mixed_160 (by decide) hf (fun hf => ?_) (fun hf => ?_)
    · refine z_iconst B (0) dX8_mixed_167 zc_iconst_0 ?_
      exact tR_mixed_168 B N hd29 hh29 σ x1 x2 x3 x4 x5 x6 x7 x8 x3 (0) hf
    · refine z_iconst B (1) dX8_mixed_163 zc_iconst_1 ?_
      refine z_goto B 168 dX8_mixed_164 (by decide) ?_
      exact tR_mixed_168 B N hd29 hh29 σ x1 x2 x3 x4 x5 x6 x7 x8 x3 (1) hf
  · refine z_iload B dX8_mixed_92 6 rfl ?_
    refine z_aload_n B dX8_mixed_94 0 rfl rfl ?_
    refine z_iload B dX8_mixed_95 8 rfl ?_
    refine z_callVi B (As := [.int x8]) kcV_X8_246 dX8_mixed_97 hf (fun q hq => cR_numberAt q hq) (wR_o (adr := adr) (cI := cI) (cZ := cZ)) rfl rfl rfl rfl (Nat.le_of_ble_eq_true rfl) rfl rfl ⟨Nat.le_of_ble_eq_true rfl, Nat.le_of_ble_eq_true rfl⟩ (fun v97 s97 hf => ?_)
    refine z_aload_n B dX8_mixed_100 0 rfl rfl ?_
    refine z_iload B dX8_mixed_101 5 rfl ?_
    refine z_callVi B (As := [.int x5]) kcV_X8_246 dX8_mixed_103 hf (fun q hq => cR_numberAt q hq) (wR_o (adr := adr) (cI := cI) (cZ := cZ)) rfl rfl rfl rfl (Nat.le_of_ble_eq_true rfl) rfl rfl ⟨Nat.le_of_ble_eq_true rfl, Nat.le_of_ble_eq_true rfl⟩ (fun v103 s103 hf => ?_)
    refine z_icmp_ne B 113 dX8_mixed_106 (by decide) hf (fun hf => ?_) (fun hf => ?_)
    · refine z_iconst B (0) dX8_mixed_113 zc_iconst_0 ?_
      exact tR_mixed_114 B N hd29 hh29 hd80 hh80 s103 x1 x2 x3 x4 x5 x6 x7 x8 x6 (0) hf
    · refine z_iconst B (1) dX8_mixed_109 zc_iconst_1 ?_
      refine z_goto B 114 dX8_mixed_110 (by decide) ?_
      exact tR_mixed_114 B N hd29 hh29 hd80 hh80 s103 x1 x2 x3 x4 x5 x6 x7 x8 x6 (1) hf
def mR_mixed_69 (N : Nat) (hd29 : ST → Int32 → Int32 → Int32 → Int32 → Int32 → Option (Int32 × ST)) (σ : ST) (x1 : Int32) (x2 : Int32) (x3 : Int32) (x4 : Int32) (x5 : Int32) (k0 : Int32) (k1 : Int32) : Option (Int32 × ST) :=
  zLet ((k0 : Int32) + k1) fun v69 =>
  mR_mixed_80 N hd29 σ x1 v69 x3 x4 x5 (0) (1) (0)
set_option maxRecDepth 20000 in
set_option maxHeartbeats 2000000 in
theorem tR_mixed_69 {adr : Nat → Nat} {cI cZ : ClassId} {X : zX} {q : Int32 × ST} (B : zC X 9 (wdR adr cI cZ) cX8_mixed RX8 (some .int) { frames := 1, cells := 0, slots := 0, locals := 25 }) (N : Nat) (hd29 : ST → Int32 → Int32 → Int32 → Int32 → Int32 → Option (Int32 × ST)) (hh29 : ∀ (σ : ST) (x1 : Int32) (x2 : Int32) (x3 : Int32) (x4 : Int32) (x5 : Int32), hd29 σ x1 x2 x3 x4 x5 = some q → zJ X 9 (wdR adr cI cZ) (zi q) 29 [(0, .ref (adr 0)), (1, .int x1), (2, .int x2), (3, .int x3), (4, .int x4), (5, .int x5)] [] σ) (σ : ST) (x1 : Int32) (x2 : Int32) (x3 : Int32) (x4 : Int32) (x5 : Int32) (k0 : Int32) (k1 : Int32) (hf : mR_mixed_69 N hd29 σ x1 x2 x3 x4 x5 k0 k1 = some q) : zJ X 9 (wdR adr cI cZ) (zi q) 69 [(0, .ref (adr 0)), (1, .int x1), (2, .int x2), (3, .int x3), (4, .int x4), (5, .int x5)] [.int k1, .int k0] σ := by
  refine z_iadd B dX8_mixed_69 hf (fun v69 hf => ?_)
  refine z_istore_n B [(2, .int v69), (0, .ref (adr 0)), (1, .int x1), (3, .int x3), (4, .int x4), (5, .int x5)] dX8_mixed_70 rfl (Nat.le_of_ble_eq_true rfl) rfl ?_
  refine z_iconst B (0) dX8_mixed_71 zc_iconst_0 ?_
  refine z_istore B [(6, .int (0)), (2, .int v69), (0, .ref (adr 0)), (1, .int x1), (3, .int x3), (4, .int x4), (5, .int x5)] dX8_mixed_72 (Nat.le_of_ble_eq_true rfl) rfl ?_
  refine z_iconst B (1) dX8_mixed_74 zc_iconst_1 ?_
  refine z_istore B [(7, .int (1)), (6, .int (0)), (2, .int v69), (0, .ref (adr 0)), (1, .int x1), (3, .int x3), (4, .int x4), (5, .int x5)] dX8_mixed_75 (Nat.le_of_ble_eq_true rfl) rfl ?_
  refine z_iconst B (0) dX8_mixed_77 zc_iconst_0 ?_
  refine z_istore B [(8, .int (0)), (7, .int (1)), (6, .int (0)), (2, .int v69), (0, .ref (adr 0)), (1, .int x1), (3, .int x3), (4, .int x4), (5, .int x5)] dX8_mixed_78 (Nat.le_of_ble_eq_true rfl) rfl ?_
  exact z_loc [4, 5, 3, 6, 7, 8, 2, 1, 0] _ rfl (tR_mixed_80 B N hd29 hh29 σ x1 v69 x3 x4 x5 (0) (1) (0) hf)
def mR_mixed_68 (N : Nat) (hd29 : ST → Int32 → Int32 → Int32 → Int32 → Int32 → Option (Int32 × ST)) (σ : ST) (x1 : Int32) (x2 : Int32) (x3 : Int32) (x4 : Int32) (x5 : Int32) (k0 : Int32) : Option (Int32 × ST) :=
  mR_mixed_69 N hd29 σ x1 x2 x3 x4 x5 k0 (0)
set_option maxRecDepth 20000 in
set_option maxHeartbeats 2000000 in
theorem tR_mixed_68 {adr : Nat → Nat} {cI cZ : ClassId} {X : zX} {q : Int32 × ST} (B : zC X 9 (wdR adr cI cZ) cX8_mixed RX8 (some .int) { frames := 1, cells := 0, slots := 0, locals := 25 }) (N : Nat) (hd29 : ST → Int32 → Int32 → Int32 → Int32 → Int32 → Option (Int32 × ST)) (hh29 : ∀ (σ : ST) (x1 : Int32) (x2 : Int32) (x3 : Int32) (x4 : Int32) (x5 : Int32), hd29 σ x1 x2 x3 x4 x5 = some q → zJ X 9 (wdR adr cI cZ) (zi q) 29 [(0, .ref (adr 0)), (1, .int x1), (2, .int x2), (3, .int x3), (4, .int x4), (5, .int x5)] [] σ) (σ : ST) (x1 : Int32) (x2 : Int32) (x3 : Int32) (x4 : Int32) (x5 : Int32) (k0 : Int32) (hf : mR_mixed_68 N hd29 σ x1 x2 x3 x4 x5 k0 = some q) : zJ X 9 (wdR adr cI cZ) (zi q) 68 [(0, .ref (adr 0)), (1, .int x1), (2, .int x2), (3, .int x3), (4, .int x4), (5, .int x5)] [.int k0] σ := by
  refine z_iconst B (0) dX8_mixed_68 zc_iconst_0 ?_
  exact tR_mixed_69 B N hd29 hh29 σ x1 x2 x3 x4 x5 k0 (0) hf
def mR_mixed_B29 (N : Nat) (hd29 : ST → Int32 → Int32 → Int32 → Int32 → Int32 → Option (Int32 × ST)) (σ : ST) (x1 : Int32) (x2 : Int32) (x3 : Int32) (x4 : Int32) (x5 : Int32) : Option (Int32 × ST) :=
  zGet (σ 1) 1974 (22) fun v37 =>
  if (v37 : Int32) ≤ x5 then
    if (x1 : Int32) = 0 then
      mR_mixed_211 N σ x1 x2 x3 x4 x5 x2
    else
      if (x1 : Int32) = (1) then
        mR_mixed_211 N σ x1 x2 x3 x4 x5 x3
      else
        mR_mixed_211 N σ x1 x2 x3 x4 x5 x4
  else
    if (x5 : Int32) ≤ 0 then
      mR_mixed_68 N hd29 σ x1 x2 x3 x4 x5 x2
    else
      zCall (mR_numberAt N σ x5) fun v50 s50 =>
      zLet ((x5 : Int32) - (1)) fun v57 =>
      zCall (mR_numberAt N s50 v57) fun v58 s58 =>
      if (v50 : Int32) = v58 then
        mR_mixed_68 N hd29 s58 x1 x2 x3 x4 x5 x2
      else
        mR_mixed_69 N hd29 s58 x1 x2 x3 x4 x5 x2 (1)
def mR_mixed_29 (N : Nat) : ST → Int32 → Int32 → Int32 → Int32 → Int32 → Option (Int32 × ST) := zIt (mR_mixed_B29 N) (fun _ _ _ _ _ _ => none) N
set_option maxRecDepth 20000 in
set_option maxHeartbeats 2000000 in
theorem tR_mixed_29 {adr : Nat → Nat} {cI cZ : ClassId} {X : zX} {q : Int32 × ST} (B : zC X 9 (wdR adr cI cZ) cX8_mixed RX8 (some .int) { frames := 1, cells := 0, slots := 0, locals := 25 }) (N : Nat) : ∀ (σ : ST) (x1 : Int32) (x2 : Int32) (x3 : Int32) (x4 : Int32) (x5 : Int32), mR_mixed_29 N σ x1 x2 x3 x4 x5 = some q → zJ X 9 (wdR adr cI cZ) (zi q) 29 [(0, .ref (adr 0)), (1, .int x1), (2, .int x2), (3, .int x3), (4, .int x4), (5, .int x5)] [] σ := by
  refine zIt_ind (P := fun (hd : ST → Int32 → Int32 → Int32 → Int32 → Int32 → Option (Int32 × ST)) => ∀ (σ : ST) (x1 : Int32) (x2 : Int32) (x3 : Int32) (x4 : Int32) (x5 : Int32), hd σ x1 x2 x3 x4 x5 = some q → zJ X 9 (wdR adr cI cZ) (zi q) 29 [(0, .ref (adr 0)), (1, .int x1), (2, .int x2), (3, .int x3), (4, .int x4), (5, .int x5)] [] σ) (fun _ _ _ _ _ _ hf => by cases hf) (fun hd29 hh29 => ?_) N
  intro σ x1 x2 x3 x4 x5 hf
  refine z_iload B dX8_mixed_29 5 rfl ?_
  refine z_aload_n B dX8_mixed_31 0 rfl rfl ?_
  refine fR_g_row B dX8_mixed_32 ?_
  refine z_bipush B (22) dX8_mixed_35 zc_bipush_22 ?_
  refine fR_l_row B dX8_mixed_37 hf (fun v37 hf => ?_)
  refine z_icmp_ge B 192 dX8_mixed_38 (by decide) hf (fun hf => ?_) (fun hf => ?_)
  · refine z_iload_n B dX8_mixed_192 1 rfl rfl ?_
    refine z_if_ne B 200 dX8_mixed_193 (by decide) hf (fun hf => ?_) (fun hf => ?_)
    · refine z_iload_n B dX8_mixed_200 1 rfl rfl ?_
      refine z_iconst B (1) dX8_mixed_201 zc_iconst_1 ?_
      refine z_icmp_ne B 209 dX8_mixed_202 (by decide) hf (fun hf => ?_) (fun hf => ?_)
      · refine z_iload B dX8_mixed_209 4 rfl ?_
        exact tR_mixed_211 B N σ x1 x2 x3 x4 x5 x4 hf
      · refine z_iload_n B dX8_mixed_205 3 rfl rfl ?_
        refine z_goto B 211 dX8_mixed_206 (by decide) ?_
        exact tR_mixed_211 B N σ x1 x2 x3 x4 x5 x3 hf
    · refine z_iload_n B dX8_mixed_196 2 rfl rfl ?_
      refine z_goto B 211 dX8_mixed_197 (by decide) ?_
      exact tR_mixed_211 B N σ x1 x2 x3 x4 x5 x2 hf
  · refine z_iload_n B dX8_mixed_41 2 rfl rfl ?_
    refine z_iload B dX8_mixed_42 5 rfl ?_
    refine z_if_le B 68 dX8_mixed_44 (by decide) hf (fun hf => ?_) (fun hf => ?_)
    · exact tR_mixed_68 B N hd29 hh29 σ x1 x2 x3 x4 x5 x2 hf
    · refine z_aload_n B dX8_mixed_47 0 rfl rfl ?_
      refine z_iload B dX8_mixed_48 5 rfl ?_
      refine z_callVi B (As := [.int x5]) kcV_X8_246 dX8_mixed_50 hf (fun q hq => cR_numberAt q hq) (wR_o (adr := adr) (cI := cI) (cZ := cZ)) rfl rfl rfl rfl (Nat.le_of_ble_eq_true rfl) rfl rfl ⟨Nat.le_of_ble_eq_true rfl, Nat.le_of_ble_eq_true rfl⟩ (fun v50 s50 hf => ?_)
      refine z_aload_n B dX8_mixed_53 0 rfl rfl ?_
      refine z_iload B dX8_mixed_54 5 rfl ?_
      refine z_iconst B (1) dX8_mixed_56 zc_iconst_1 ?_
      refine z_isub B dX8_mixed_57 hf (fun v57 hf => ?_)
      refine z_callVi B (As := [.int v57]) kcV_X8_246 dX8_mixed_58 hf (fun q hq => cR_numberAt q hq) (wR_o (adr := adr) (cI := cI) (cZ := cZ)) rfl rfl rfl rfl (Nat.le_of_ble_eq_true rfl) rfl rfl ⟨Nat.le_of_ble_eq_true rfl, Nat.le_of_ble_eq_true rfl⟩ (fun v58 s58 hf => ?_)
      refine z_icmp_eq B 68 dX8_mixed_61 (by decide) hf (fun hf => ?_) (fun hf => ?_)
      · exact tR_mixed_68 B N hd29 hh29 s58 x1 x2 x3 x4 x5 x2 hf
      · refine z_iconst B (1) dX8_mixed_64 zc_iconst_1 ?_
        refine z_goto B 69 dX8_mixed_65 (by decide) ?_
        exact tR_mixed_69 B N hd29 hh29 s58 x1 x2 x3 x4 x5 x2 (1) hf
def mR_mixed (N : Nat) (σ : ST) (x1 : Int32) : Option (Int32 × ST) :=
  zLet (zUp σ 0 0 (0)) fun s2 =>
  zLet ((x1 : Int32).toInt64) fun v6 =>
  zCall (mR_in N s2 v6 (0) (2)) fun v11 s11 =>
  if (v11 : Int32) = 0 then
    some ((-1), s11)
  else
    mR_mixed_29 N s11 x1 (0) (0) (0) (0)
set_option maxRecDepth 20000 in
set_option maxHeartbeats 2000000 in
theorem cR_mixed {adr : Nat → Nat} {cI cZ : ClassId} {l : Launch} {D : va_G} {N : Nat} {σ : ST} {x1 : Int32} (q : Int32 × ST) (hf : mR_mixed N σ x1 = some q) : zM l D (wdR adr cI cZ) yX8_mixed cX8_mixed 9 (some .int) ({ frames := 1, cells := 0, slots := 0, locals := 25 }) [.ref (adr 0), .int x1] σ (zi q) := by
  refine zM_of sfR_ok rfl (Nat.le_of_ble_eq_true rfl) [(0, .ref (adr 0)), (1, .int x1)] rfl (fun X hX1 hX2 B => ?_)
  have B : zC X 9 (wdR adr cI cZ) cX8_mixed RX8 (some .int) { frames := 1, cells := 0, slots := 0, locals := 25 } := B
  refine z_aload_n B dX8_mixed_0 0 rfl rfl ?_
  refine z_iconst B (0) dX8_mixed_1 zc_iconst_0 ?_
  refine fR_p_thrown B dX8_mixed_2 hf (fun s2 hf => ?_)
  refine z_iload_n B dX8_mixed_5 1 rfl rfl ?_
  refine z_i2l B dX8_mixed_6 hf (fun v6 hf => ?_)
  refine z_lconst B (0) dX8_mixed_7 rfl ?_
  refine z_ldc2 B kw_1238 dX8_mixed_8 ?_
  refine z_callSi B (As := [.long v6, .long (0), .long (2)]) kcS_X8_71 dX8_mixed_11 hf (fun q hq => cR_in q hq) rfl rfl (Nat.le_of_ble_eq_true rfl) rfl rfl ⟨Nat.le_of_ble_eq_true rfl, Nat.le_of_ble_eq_true rfl⟩ (fun v11 s11 hf => ?_)
  refine z_if_ne B 19 dX8_mixed_14 (by decide) hf (fun hf => ?_) (fun hf => ?_)
  · refine z_iconst B (0) dX8_mixed_19 zc_iconst_0 ?_
    refine z_istore_n B [(2, .int (0)), (0, .ref (adr 0)), (1, .int x1)] dX8_mixed_20 rfl (Nat.le_of_ble_eq_true rfl) rfl ?_
    refine z_iconst B (0) dX8_mixed_21 zc_iconst_0 ?_
    refine z_istore_n B [(3, .int (0)), (2, .int (0)), (0, .ref (adr 0)), (1, .int x1)] dX8_mixed_22 rfl (Nat.le_of_ble_eq_true rfl) rfl ?_
    refine z_iconst B (0) dX8_mixed_23 zc_iconst_0 ?_
    refine z_istore B [(4, .int (0)), (3, .int (0)), (2, .int (0)), (0, .ref (adr 0)), (1, .int x1)] dX8_mixed_24 (Nat.le_of_ble_eq_true rfl) rfl ?_
    refine z_iconst B (0) dX8_mixed_26 zc_iconst_0 ?_
    refine z_istore B [(5, .int (0)), (4, .int (0)), (3, .int (0)), (2, .int (0)), (0, .ref (adr 0)), (1, .int x1)] dX8_mixed_27 (Nat.le_of_ble_eq_true rfl) rfl ?_
    exact z_loc [4, 5, 3, 2, 1, 0] _ rfl (tR_mixed_29 B N s11 x1 (0) (0) (0) (0) hf)
  · refine z_iconst B (-1) dX8_mixed_17 zc_iconst_m1 ?_
    exact z_ireturn B dX8_mixed_18 hf
theorem dX8_trace_0 : decode cX8_trace 0 = .ok (.aload_n 0, 1) := by decide +kernel
theorem dX8_trace_1 : decode cX8_trace 1 = .ok (.iconst 0, 1) := by decide +kernel
theorem dX8_trace_2 : decode cX8_trace 2 = .ok (.putfield 67, 3) := by decide +kernel
theorem dX8_trace_5 : decode cX8_trace 5 = .ok (.iload_n 1, 1) := by decide +kernel
theorem dX8_trace_6 : decode cX8_trace 6 = .ok (.i2l, 1) := by decide +kernel
theorem dX8_trace_7 : decode cX8_trace 7 = .ok (.lconst 0, 1) := by decide +kernel
theorem dX8_trace_8 : decode cX8_trace 8 = .ok (.aload_n 0, 1) := by decide +kernel
theorem dX8_trace_9 : decode cX8_trace 9 = .ok (.getfield 9, 3) := by decide +kernel
theorem dX8_trace_12 : decode cX8_trace 12 = .ok (.bipush 22, 2) := by decide +kernel
theorem dX8_trace_14 : decode cX8_trace 14 = .ok (.iaload, 1) := by decide +kernel
theorem dX8_trace_15 : decode cX8_trace 15 = .ok (.i2l, 1) := by decide +kernel
theorem dX8_trace_16 : decode cX8_trace 16 = .ok (.lconst 1, 1) := by decide +kernel
theorem dX8_trace_17 : decode cX8_trace 17 = .ok (.lsub, 1) := by decide +kernel
theorem dX8_trace_18 : decode cX8_trace 18 = .ok (.invokestatic 71, 3) := by decide +kernel
theorem dX8_trace_21 : decode cX8_trace 21 = .ok (.ifCond .eq 21, 3) := by decide +kernel
theorem dX8_trace_24 : decode cX8_trace 24 = .ok (.aload_n 0, 1) := by decide +kernel
theorem dX8_trace_25 : decode cX8_trace 25 = .ok (.aload_n 0, 1) := by decide +kernel
theorem dX8_trace_26 : decode cX8_trace 26 = .ok (.getfield 9, 3) := by decide +kernel
theorem dX8_trace_29 : decode cX8_trace 29 = .ok (.bipush 22, 2) := by decide +kernel
theorem dX8_trace_31 : decode cX8_trace 31 = .ok (.iaload, 1) := by decide +kernel
theorem dX8_trace_32 : decode cX8_trace 32 = .ok (.iconst 1, 1) := by decide +kernel
theorem dX8_trace_33 : decode cX8_trace 33 = .ok (.isub, 1) := by decide +kernel
theorem dX8_trace_34 : decode cX8_trace 34 = .ok (.iload_n 1, 1) := by decide +kernel
theorem dX8_trace_35 : decode cX8_trace 35 = .ok (.isub, 1) := by decide +kernel
theorem dX8_trace_36 : decode cX8_trace 36 = .ok (.invokevirtual 238, 3) := by decide +kernel
theorem dX8_trace_39 : decode cX8_trace 39 = .ok (.goto 4, 3) := by decide +kernel
theorem dX8_trace_42 : decode cX8_trace 42 = .ok (.iconst (-1), 1) := by decide +kernel
theorem dX8_trace_43 : decode cX8_trace 43 = .ok (.ireturn, 1) := by decide +kernel
def mR_trace_43 (N : Nat) (σ : ST) (x1 : Int32) (k0 : Int32) : Option (Int32 × ST) :=
  some (k0, σ)
set_option maxRecDepth 20000 in
set_option maxHeartbeats 2000000 in
theorem tR_trace_43 {adr : Nat → Nat} {cI cZ : ClassId} {X : zX} {q : Int32 × ST} (B : zC X 2 (wdR adr cI cZ) cX8_trace RX8 (some .int) { frames := 1, cells := 0, slots := 0, locals := 25 }) (N : Nat) (σ : ST) (x1 : Int32) (k0 : Int32) (hf : mR_trace_43 N σ x1 k0 = some q) : zJ X 2 (wdR adr cI cZ) (zi q) 43 [(0, .ref (adr 0)), (1, .int x1)] [.int k0] σ := by
  exact z_ireturn B dX8_trace_43 hf
def mR_trace (N : Nat) (σ : ST) (x1 : Int32) : Option (Int32 × ST) :=
  zLet (zUp σ 0 0 (0)) fun s2 =>
  zLet ((x1 : Int32).toInt64) fun v6 =>
  zGet (s2 1) 1974 (22) fun v14 =>
  zLet ((v14 : Int32).toInt64) fun v15 =>
  zLet ((v15 : Int64) - (1)) fun v17 =>
  zCall (mR_in N s2 v6 (0) v17) fun v18 s18 =>
  if (v18 : Int32) = 0 then
    mR_trace_43 N s18 x1 (-1)
  else
    zGet (s18 1) 1974 (22) fun v31 =>
    zLet ((v31 : Int32) - (1)) fun v33 =>
    zLet ((v33 : Int32) - x1) fun v35 =>
    zCall (mR_traced N s18 v35) fun v36 s36 =>
    mR_trace_43 N s36 x1 v36
set_option maxRecDepth 20000 in
set_option maxHeartbeats 2000000 in
theorem cR_trace {adr : Nat → Nat} {cI cZ : ClassId} {l : Launch} {D : va_G} {N : Nat} {σ : ST} {x1 : Int32} (q : Int32 × ST) (hf : mR_trace N σ x1 = some q) : zM l D (wdR adr cI cZ) yX8_trace cX8_trace 2 (some .int) ({ frames := 1, cells := 0, slots := 0, locals := 25 }) [.ref (adr 0), .int x1] σ (zi q) := by
  refine zM_of sfR_ok rfl (Nat.le_of_ble_eq_true rfl) [(0, .ref (adr 0)), (1, .int x1)] rfl (fun X hX1 hX2 B => ?_)
  have B : zC X 2 (wdR adr cI cZ) cX8_trace RX8 (some .int) { frames := 1, cells := 0, slots := 0, locals := 25 } := B
  refine z_aload_n B dX8_trace_0 0 rfl rfl ?_
  refine z_iconst B (0) dX8_trace_1 zc_iconst_0 ?_
  refine fR_p_thrown B dX8_trace_2 hf (fun s2 hf => ?_)
  refine z_iload_n B dX8_trace_5 1 rfl rfl ?_
  refine z_i2l B dX8_trace_6 hf (fun v6 hf => ?_)
  refine z_lconst B (0) dX8_trace_7 rfl ?_
  refine z_aload_n B dX8_trace_8 0 rfl rfl ?_
  refine fR_g_row B dX8_trace_9 ?_
  refine z_bipush B (22) dX8_trace_12 zc_bipush_22 ?_
  refine fR_l_row B dX8_trace_14 hf (fun v14 hf => ?_)
  refine z_i2l B dX8_trace_15 hf (fun v15 hf => ?_)
  refine z_lconst B (1) dX8_trace_16 rfl ?_
  refine z_lsub B dX8_trace_17 hf (fun v17 hf => ?_)
  refine z_callSi B (As := [.long v6, .long (0), .long v17]) kcS_X8_71 dX8_trace_18 hf (fun q hq => cR_in q hq) rfl rfl (Nat.le_of_ble_eq_true rfl) rfl rfl ⟨Nat.le_of_ble_eq_true rfl, Nat.le_of_ble_eq_true rfl⟩ (fun v18 s18 hf => ?_)
  refine z_if_eq B 42 dX8_trace_21 (by decide) hf (fun hf => ?_) (fun hf => ?_)
  · refine z_iconst B (-1) dX8_trace_42 zc_iconst_m1 ?_
    exact tR_trace_43 B N s18 x1 (-1) hf
  · refine z_aload_n B dX8_trace_24 0 rfl rfl ?_
    refine z_aload_n B dX8_trace_25 0 rfl rfl ?_
    refine fR_g_row B dX8_trace_26 ?_
    refine z_bipush B (22) dX8_trace_29 zc_bipush_22 ?_
    refine fR_l_row B dX8_trace_31 hf (fun v31 hf => ?_)
    refine z_iconst B (1) dX8_trace_32 zc_iconst_1 ?_
    refine z_isub B dX8_trace_33 hf (fun v33 hf => ?_)
    refine z_iload_n B dX8_trace_34 1 rfl rfl ?_
    refine z_isub B dX8_trace_35 hf (fun v35 hf => ?_)
    refine z_callVi B (As := [.int v35]) kcV_X8_238 dX8_trace_36 hf (fun q hq => cR_traced q hq) (wR_o (adr := adr) (cI := cI) (cZ := cZ)) rfl rfl rfl rfl (Nat.le_of_ble_eq_true rfl) rfl rfl ⟨Nat.le_of_ble_eq_true rfl, Nat.le_of_ble_eq_true rfl⟩ (fun v36 s36 hf => ?_)
    refine z_goto B 43 dX8_trace_39 (by decide) ?_
    exact tR_trace_43 B N s36 x1 v36 hf
theorem dX8_unlikeBlocks_0 : decode cX8_unlikeBlocks 0 = .ok (.iconst 0, 1) := by decide +kernel
theorem dX8_unlikeBlocks_1 : decode cX8_unlikeBlocks 1 = .ok (.istore_n 1, 1) := by decide +kernel
theorem dX8_unlikeBlocks_2 : decode cX8_unlikeBlocks 2 = .ok (.iconst 0, 1) := by decide +kernel
theorem dX8_unlikeBlocks_3 : decode cX8_unlikeBlocks 3 = .ok (.istore_n 2, 1) := by decide +kernel
theorem dX8_unlikeBlocks_4 : decode cX8_unlikeBlocks 4 = .ok (.iload_n 2, 1) := by decide +kernel
theorem dX8_unlikeBlocks_5 : decode cX8_unlikeBlocks 5 = .ok (.aload_n 0, 1) := by decide +kernel
theorem dX8_unlikeBlocks_6 : decode cX8_unlikeBlocks 6 = .ok (.getfield 9, 3) := by decide +kernel
theorem dX8_unlikeBlocks_9 : decode cX8_unlikeBlocks 9 = .ok (.bipush 22, 2) := by decide +kernel
theorem dX8_unlikeBlocks_11 : decode cX8_unlikeBlocks 11 = .ok (.iaload, 1) := by decide +kernel
theorem dX8_unlikeBlocks_12 : decode cX8_unlikeBlocks 12 = .ok (.if_icmp .ge 62, 3) := by decide +kernel
theorem dX8_unlikeBlocks_15 : decode cX8_unlikeBlocks 15 = .ok (.iconst 1, 1) := by decide +kernel
theorem dX8_unlikeBlocks_16 : decode cX8_unlikeBlocks 16 = .ok (.istore_n 3, 1) := by decide +kernel
theorem dX8_unlikeBlocks_17 : decode cX8_unlikeBlocks 17 = .ok (.iconst 0, 1) := by decide +kernel
theorem dX8_unlikeBlocks_18 : decode cX8_unlikeBlocks 18 = .ok (.istore 4, 2) := by decide +kernel
theorem dX8_unlikeBlocks_20 : decode cX8_unlikeBlocks 20 = .ok (.iload 4, 2) := by decide +kernel
theorem dX8_unlikeBlocks_22 : decode cX8_unlikeBlocks 22 = .ok (.iload_n 2, 1) := by decide +kernel
theorem dX8_unlikeBlocks_23 : decode cX8_unlikeBlocks 23 = .ok (.if_icmp .ge 33, 3) := by decide +kernel
theorem dX8_unlikeBlocks_26 : decode cX8_unlikeBlocks 26 = .ok (.iload_n 3, 1) := by decide +kernel
theorem dX8_unlikeBlocks_27 : decode cX8_unlikeBlocks 27 = .ok (.ifCond .eq 21, 3) := by decide +kernel
theorem dX8_unlikeBlocks_30 : decode cX8_unlikeBlocks 30 = .ok (.aload_n 0, 1) := by decide +kernel
theorem dX8_unlikeBlocks_31 : decode cX8_unlikeBlocks 31 = .ok (.iload 4, 2) := by decide +kernel
theorem dX8_unlikeBlocks_33 : decode cX8_unlikeBlocks 33 = .ok (.invokevirtual 238, 3) := by decide +kernel
theorem dX8_unlikeBlocks_36 : decode cX8_unlikeBlocks 36 = .ok (.aload_n 0, 1) := by decide +kernel
theorem dX8_unlikeBlocks_37 : decode cX8_unlikeBlocks 37 = .ok (.iload_n 2, 1) := by decide +kernel
theorem dX8_unlikeBlocks_38 : decode cX8_unlikeBlocks 38 = .ok (.invokevirtual 238, 3) := by decide +kernel
theorem dX8_unlikeBlocks_41 : decode cX8_unlikeBlocks 41 = .ok (.if_icmp .eq 7, 3) := by decide +kernel
theorem dX8_unlikeBlocks_44 : decode cX8_unlikeBlocks 44 = .ok (.iconst 1, 1) := by decide +kernel
theorem dX8_unlikeBlocks_45 : decode cX8_unlikeBlocks 45 = .ok (.goto 4, 3) := by decide +kernel
theorem dX8_unlikeBlocks_48 : decode cX8_unlikeBlocks 48 = .ok (.iconst 0, 1) := by decide +kernel
theorem dX8_unlikeBlocks_49 : decode cX8_unlikeBlocks 49 = .ok (.istore_n 3, 1) := by decide +kernel
theorem dX8_unlikeBlocks_50 : decode cX8_unlikeBlocks 50 = .ok (.iinc 4 1, 3) := by decide +kernel
theorem dX8_unlikeBlocks_53 : decode cX8_unlikeBlocks 53 = .ok (.goto (-33), 3) := by decide +kernel
theorem dX8_unlikeBlocks_56 : decode cX8_unlikeBlocks 56 = .ok (.iload_n 1, 1) := by decide +kernel
theorem dX8_unlikeBlocks_57 : decode cX8_unlikeBlocks 57 = .ok (.iload_n 3, 1) := by decide +kernel
theorem dX8_unlikeBlocks_58 : decode cX8_unlikeBlocks 58 = .ok (.ifCond .eq 7, 3) := by decide +kernel
theorem dX8_unlikeBlocks_61 : decode cX8_unlikeBlocks 61 = .ok (.iconst 1, 1) := by decide +kernel
theorem dX8_unlikeBlocks_62 : decode cX8_unlikeBlocks 62 = .ok (.goto 4, 3) := by decide +kernel
theorem dX8_unlikeBlocks_65 : decode cX8_unlikeBlocks 65 = .ok (.iconst 0, 1) := by decide +kernel
theorem dX8_unlikeBlocks_66 : decode cX8_unlikeBlocks 66 = .ok (.iadd, 1) := by decide +kernel
theorem dX8_unlikeBlocks_67 : decode cX8_unlikeBlocks 67 = .ok (.istore_n 1, 1) := by decide +kernel
theorem dX8_unlikeBlocks_68 : decode cX8_unlikeBlocks 68 = .ok (.iinc 2 1, 3) := by decide +kernel
theorem dX8_unlikeBlocks_71 : decode cX8_unlikeBlocks 71 = .ok (.goto (-67), 3) := by decide +kernel
theorem dX8_unlikeBlocks_74 : decode cX8_unlikeBlocks 74 = .ok (.iload_n 1, 1) := by decide +kernel
theorem dX8_unlikeBlocks_75 : decode cX8_unlikeBlocks 75 = .ok (.ireturn, 1) := by decide +kernel
def mR_unlikeBlocks_66 (N : Nat) (hd4 : ST → Int32 → Int32 → Option (Int32 × ST)) (σ : ST) (x1 : Int32) (x2 : Int32) (x3 : Int32) (x4 : Int32) (k0 : Int32) (k1 : Int32) : Option (Int32 × ST) :=
  zLet ((k0 : Int32) + k1) fun v66 =>
  zLet (x2 + (1)) fun v68 =>
  hd4 σ v66 v68
set_option maxRecDepth 20000 in
set_option maxHeartbeats 2000000 in
theorem tR_unlikeBlocks_66 {adr : Nat → Nat} {cI cZ : ClassId} {X : zX} {q : Int32 × ST} (B : zC X 5 (wdR adr cI cZ) cX8_unlikeBlocks RX8 (some .int) { frames := 1, cells := 0, slots := 0, locals := 21 }) (N : Nat) (hd4 : ST → Int32 → Int32 → Option (Int32 × ST)) (hh4 : ∀ (σ : ST) (x1 : Int32) (x2 : Int32), hd4 σ x1 x2 = some q → zJ X 5 (wdR adr cI cZ) (zi q) 4 [(0, .ref (adr 0)), (1, .int x1), (2, .int x2)] [] σ) (σ : ST) (x1 : Int32) (x2 : Int32) (x3 : Int32) (x4 : Int32) (k0 : Int32) (k1 : Int32) (hf : mR_unlikeBlocks_66 N hd4 σ x1 x2 x3 x4 k0 k1 = some q) : zJ X 5 (wdR adr cI cZ) (zi q) 66 [(0, .ref (adr 0)), (1, .int x1), (2, .int x2), (3, .int x3), (4, .int x4)] [.int k1, .int k0] σ := by
  refine z_iadd B dX8_unlikeBlocks_66 hf (fun v66 hf => ?_)
  refine z_istore_n B [(1, .int v66), (0, .ref (adr 0)), (2, .int x2), (3, .int x3), (4, .int x4)] dX8_unlikeBlocks_67 rfl (Nat.le_of_ble_eq_true rfl) rfl ?_
  refine z_iinc B (1) 2 (fun v68 => [(2, .int v68), (1, .int v66), (0, .ref (adr 0)), (3, .int x3), (4, .int x4)]) dX8_unlikeBlocks_68 hf zc_iconst_1 rfl (Nat.le_of_ble_eq_true rfl) (fun _ => rfl) (fun v68 hf => ?_)
  refine z_goto B 4 dX8_unlikeBlocks_71 (by decide) ?_
  exact z_loc [2, 1, 0] _ rfl (hh4 σ v66 v68 hf)
def mR_unlikeBlocks_49 (N : Nat) (hd4 : ST → Int32 → Int32 → Option (Int32 × ST)) (hd20 : ST → Int32 → Int32 → Int32 → Int32 → Option (Int32 × ST)) (σ : ST) (x1 : Int32) (x2 : Int32) (x3 : Int32) (x4 : Int32) (k0 : Int32) : Option (Int32 × ST) :=
  zLet (x4 + (1)) fun v50 =>
  hd20 σ x1 x2 k0 v50
set_option maxRecDepth 20000 in
set_option maxHeartbeats 2000000 in
theorem tR_unlikeBlocks_49 {adr : Nat → Nat} {cI cZ : ClassId} {X : zX} {q : Int32 × ST} (B : zC X 5 (wdR adr cI cZ) cX8_unlikeBlocks RX8 (some .int) { frames := 1, cells := 0, slots := 0, locals := 21 }) (N : Nat) (hd4 : ST → Int32 → Int32 → Option (Int32 × ST)) (hh4 : ∀ (σ : ST) (x1 : Int32) (x2 : Int32), hd4 σ x1 x2 = some q → zJ X 5 (wdR adr cI cZ) (zi q) 4 [(0, .ref (adr 0)), (1, .int x1), (2, .int x2)] [] σ) (hd20 : ST → Int32 → Int32 → Int32 → Int32 → Option (Int32 × ST)) (hh20 : ∀ (σ : ST) (x1 : Int32) (x2 : Int32) (x3 : Int32) (x4 : Int32), hd20 σ x1 x2 x3 x4 = some q → zJ X 5 (wdR adr cI cZ) (zi q) 20 [(0, .ref (adr 0)), (1, .int x1), (2, .int x2), (3, .int x3), (4, .int x4)] [] σ) (σ : ST) (x1 : Int32) (x2 : Int32) (x3 : Int32) (x4 : Int32) (k0 : Int32) (hf : mR_unlikeBlocks_49 N hd4 hd20 σ x1 x2 x3 x4 k0 = some q) : zJ X 5 (wdR adr cI cZ) (zi q) 49 [(0, .ref (adr 0)), (1, .int x1), (2, .int x2), (3, .int x3), (4, .int x4)] [.int k0] σ := by
  refine z_istore_n B [(3, .int k0), (0, .ref (adr 0)), (1, .int x1), (2, .int x2), (4, .int x4)] dX8_unlikeBlocks_49 rfl (Nat.le_of_ble_eq_true rfl) rfl ?_
  refine z_iinc B (1) 4 (fun v50 => [(4, .int v50), (3, .int k0), (0, .ref (adr 0)), (1, .int x1), (2, .int x2)]) dX8_unlikeBlocks_50 hf zc_iconst_1 rfl (Nat.le_of_ble_eq_true rfl) (fun _ => rfl) (fun v50 hf => ?_)
  refine z_goto B 20 dX8_unlikeBlocks_53 (by decide) ?_
  exact z_loc [2, 3, 4, 1, 0] _ rfl (hh20 σ x1 x2 k0 v50 hf)
def mR_unlikeBlocks_48 (N : Nat) (hd4 : ST → Int32 → Int32 → Option (Int32 × ST)) (hd20 : ST → Int32 → Int32 → Int32 → Int32 → Option (Int32 × ST)) (σ : ST) (x1 : Int32) (x2 : Int32) (x3 : Int32) (x4 : Int32) : Option (Int32 × ST) :=
  mR_unlikeBlocks_49 N hd4 hd20 σ x1 x2 x3 x4 (0)
set_option maxRecDepth 20000 in
set_option maxHeartbeats 2000000 in
theorem tR_unlikeBlocks_48 {adr : Nat → Nat} {cI cZ : ClassId} {X : zX} {q : Int32 × ST} (B : zC X 5 (wdR adr cI cZ) cX8_unlikeBlocks RX8 (some .int) { frames := 1, cells := 0, slots := 0, locals := 21 }) (N : Nat) (hd4 : ST → Int32 → Int32 → Option (Int32 × ST)) (hh4 : ∀ (σ : ST) (x1 : Int32) (x2 : Int32), hd4 σ x1 x2 = some q → zJ X 5 (wdR adr cI cZ) (zi q) 4 [(0, .ref (adr 0)), (1, .int x1), (2, .int x2)] [] σ) (hd20 : ST → Int32 → Int32 → Int32 → Int32 → Option (Int32 × ST)) (hh20 : ∀ (σ : ST) (x1 : Int32) (x2 : Int32) (x3 : Int32) (x4 : Int32), hd20 σ x1 x2 x3 x4 = some q → zJ X 5 (wdR adr cI cZ) (zi q) 20 [(0, .ref (adr 0)), (1, .int x1), (2, .int x2), (3, .int x3), (4, .int x4)] [] σ) (σ : ST) (x1 : Int32) (x2 : Int32) (x3 : Int32) (x4 : Int32) (hf : mR_unlikeBlocks_48 N hd4 hd20 σ x1 x2 x3 x4 = some q) : zJ X 5 (wdR adr cI cZ) (zi q) 48 [(0, .ref (adr 0)), (1, .int x1), (2, .int x2), (3, .int x3), (4, .int x4)] [] σ := by
  refine z_iconst B (0) dX8_unlikeBlocks_48 zc_iconst_0 ?_
  exact tR_unlikeBlocks_49 B N hd4 hh4 hd20 hh20 σ x1 x2 x3 x4 (0) hf
def mR_unlikeBlocks_B20 (N : Nat) (hd4 : ST → Int32 → Int32 → Option (Int32 × ST)) (hd20 : ST → Int32 → Int32 → Int32 → Int32 → Option (Int32 × ST)) (σ : ST) (x1 : Int32) (x2 : Int32) (x3 : Int32) (x4 : Int32) : Option (Int32 × ST) :=
  if (x2 : Int32) ≤ x4 then
    if (x3 : Int32) = 0 then
      mR_unlikeBlocks_66 N hd4 σ x1 x2 x3 x4 x1 (0)
    else
      mR_unlikeBlocks_66 N hd4 σ x1 x2 x3 x4 x1 (1)
  else
    if (x3 : Int32) = 0 then
      mR_unlikeBlocks_48 N hd4 hd20 σ x1 x2 x3 x4
    else
      zCall (mR_traced N σ x4) fun v33 s33 =>
      zCall (mR_traced N s33 x2) fun v38 s38 =>
      if (v33 : Int32) = v38 then
        mR_unlikeBlocks_48 N hd4 hd20 s38 x1 x2 x3 x4
      else
        mR_unlikeBlocks_49 N hd4 hd20 s38 x1 x2 x3 x4 (1)
def mR_unlikeBlocks_20 (N : Nat) (hd4 : ST → Int32 → Int32 → Option (Int32 × ST)) : ST → Int32 → Int32 → Int32 → Int32 → Option (Int32 × ST) := zIt (mR_unlikeBlocks_B20 N hd4) (fun _ _ _ _ _ => none) N
set_option maxRecDepth 20000 in
set_option maxHeartbeats 2000000 in
theorem tR_unlikeBlocks_20 {adr : Nat → Nat} {cI cZ : ClassId} {X : zX} {q : Int32 × ST} (B : zC X 5 (wdR adr cI cZ) cX8_unlikeBlocks RX8 (some .int) { frames := 1, cells := 0, slots := 0, locals := 21 }) (N : Nat) (hd4 : ST → Int32 → Int32 → Option (Int32 × ST)) (hh4 : ∀ (σ : ST) (x1 : Int32) (x2 : Int32), hd4 σ x1 x2 = some q → zJ X 5 (wdR adr cI cZ) (zi q) 4 [(0, .ref (adr 0)), (1, .int x1), (2, .int x2)] [] σ) : ∀ (σ : ST) (x1 : Int32) (x2 : Int32) (x3 : Int32) (x4 : Int32), mR_unlikeBlocks_20 N hd4 σ x1 x2 x3 x4 = some q → zJ X 5 (wdR adr cI cZ) (zi q) 20 [(0, .ref (adr 0)), (1, .int x1), (2, .int x2), (3, .int x3), (4, .int x4)] [] σ := by
  refine zIt_ind (P := fun (hd : ST → Int32 → Int32 → Int32 → Int32 → Option (Int32 × ST)) => ∀ (σ : ST) (x1 : Int32) (x2 : Int32) (x3 : Int32) (x4 : Int32), hd σ x1 x2 x3 x4 = some q → zJ X 5 (wdR adr cI cZ) (zi q) 20 [(0, .ref (adr 0)), (1, .int x1), (2, .int x2), (3, .int x3), (4, .int x4)] [] σ) (fun _ _ _ _ _ hf => by cases hf) (fun hd20 hh20 => ?_) N
  intro σ x1 x2 x3 x4 hf
  refine z_iload B dX8_unlikeBlocks_20 4 rfl ?_
  refine z_iload_n B dX8_unlikeBlocks_22 2 rfl rfl ?_
  refine z_icmp_ge B 56 dX8_unlikeBlocks_23 (by decide) hf (fun hf => ?_) (fun hf => ?_)
  · refine z_iload_n B dX8_unlikeBlocks_56 1 rfl rfl ?_
    refine z_iload_n B dX8_unlikeBlocks_57 3 rfl rfl ?_
    refine z_if_eq B 65 dX8_unlikeBlocks_58 (by decide) hf (fun hf => ?_) (fun hf => ?_)
    · refine z_iconst B (0) dX8_unlikeBlocks_65 zc_iconst_0 ?_
      exact tR_unlikeBlocks_66 B N hd4 hh4 σ x1 x2 x3 x4 x1 (0) hf
    · refine z_iconst B (1) dX8_unlikeBlocks_61 zc_iconst_1 ?_
      refine z_goto B 66 dX8_unlikeBlocks_62 (by decide) ?_
      exact tR_unlikeBlocks_66 B N hd4 hh4 σ x1 x2 x3 x4 x1 (1) hf
  · refine z_iload_n B dX8_unlikeBlocks_26 3 rfl rfl ?_
    refine z_if_eq B 48 dX8_unlikeBlocks_27 (by decide) hf (fun hf => ?_) (fun hf => ?_)
    · exact tR_unlikeBlocks_48 B N hd4 hh4 hd20 hh20 σ x1 x2 x3 x4 hf
    · refine z_aload_n B dX8_unlikeBlocks_30 0 rfl rfl ?_
      refine z_iload B dX8_unlikeBlocks_31 4 rfl ?_
      refine z_callVi B (As := [.int x4]) kcV_X8_238 dX8_unlikeBlocks_33 hf (fun q hq => cR_traced q hq) (wR_o (adr := adr) (cI := cI) (cZ := cZ)) rfl rfl rfl rfl (Nat.le_of_ble_eq_true rfl) rfl rfl ⟨Nat.le_of_ble_eq_true rfl, Nat.le_of_ble_eq_true rfl⟩ (fun v33 s33 hf => ?_)
      refine z_aload_n B dX8_unlikeBlocks_36 0 rfl rfl ?_
      refine z_iload_n B dX8_unlikeBlocks_37 2 rfl rfl ?_
      refine z_callVi B (As := [.int x2]) kcV_X8_238 dX8_unlikeBlocks_38 hf (fun q hq => cR_traced q hq) (wR_o (adr := adr) (cI := cI) (cZ := cZ)) rfl rfl rfl rfl (Nat.le_of_ble_eq_true rfl) rfl rfl ⟨Nat.le_of_ble_eq_true rfl, Nat.le_of_ble_eq_true rfl⟩ (fun v38 s38 hf => ?_)
      refine z_icmp_eq B 48 dX8_unlikeBlocks_41 (by decide) hf (fun hf => ?_) (fun hf => ?_)
      · exact tR_unlikeBlocks_48 B N hd4 hh4 hd20 hh20 s38 x1 x2 x3 x4 hf
      · refine z_iconst B (1) dX8_unlikeBlocks_44 zc_iconst_1 ?_
        refine z_goto B 49 dX8_unlikeBlocks_45 (by decide) ?_
        exact tR_unlikeBlocks_49 B N hd4 hh4 hd20 hh20 s38 x1 x2 x3 x4 (1) hf
def mR_unlikeBlocks_B4 (N : Nat) (hd4 : ST → Int32 → Int32 → Option (Int32 × ST)) (σ : ST) (x1 : Int32) (x2 : Int32) : Option (Int32 × ST) :=
  zGet (σ 1) 1974 (22) fun v11 =>
  if (v11 : Int32) ≤ x2 then
    some (x1, σ)
  else
    mR_unlikeBlocks_20 N hd4 σ x1 x2 (1) (0)
def mR_unlikeBlocks_4 (N : Nat) : ST → Int32 → Int32 → Option (Int32 × ST) := zIt (mR_unlikeBlocks_B4 N) (fun _ _ _ => none) N
set_option maxRecDepth 20000 in
set_option maxHeartbeats 2000000 in
theorem tR_unlikeBlocks_4 {adr : Nat → Nat} {cI cZ : ClassId} {X : zX} {q : Int32 × ST} (B : zC X 5 (wdR adr cI cZ) cX8_unlikeBlocks RX8 (some .int) { frames := 1, cells := 0, slots := 0, locals := 21 }) (N : Nat) : ∀ (σ : ST) (x1 : Int32) (x2 : Int32), mR_unlikeBlocks_4 N σ x1 x2 = some q → zJ X 5 (wdR adr cI cZ) (zi q) 4 [(0, .ref (adr 0)), (1, .int x1), (2, .int x2)] [] σ := by
  refine zIt_ind (P := fun (hd : ST → Int32 → Int32 → Option (Int32 × ST)) => ∀ (σ : ST) (x1 : Int32) (x2 : Int32), hd σ x1 x2 = some q → zJ X 5 (wdR adr cI cZ) (zi q) 4 [(0, .ref (adr 0)), (1, .int x1), (2, .int x2)] [] σ) (fun _ _ _ hf => by cases hf) (fun hd4 hh4 => ?_) N
  intro σ x1 x2 hf
  refine z_iload_n B dX8_unlikeBlocks_4 2 rfl rfl ?_
  refine z_aload_n B dX8_unlikeBlocks_5 0 rfl rfl ?_
  refine fR_g_row B dX8_unlikeBlocks_6 ?_
  refine z_bipush B (22) dX8_unlikeBlocks_9 zc_bipush_22 ?_
  refine fR_l_row B dX8_unlikeBlocks_11 hf (fun v11 hf => ?_)
  refine z_icmp_ge B 74 dX8_unlikeBlocks_12 (by decide) hf (fun hf => ?_) (fun hf => ?_)
  · refine z_iload_n B dX8_unlikeBlocks_74 1 rfl rfl ?_
    exact z_ireturn B dX8_unlikeBlocks_75 hf
  · refine z_iconst B (1) dX8_unlikeBlocks_15 zc_iconst_1 ?_
    refine z_istore_n B [(3, .int (1)), (0, .ref (adr 0)), (1, .int x1), (2, .int x2)] dX8_unlikeBlocks_16 rfl (Nat.le_of_ble_eq_true rfl) rfl ?_
    refine z_iconst B (0) dX8_unlikeBlocks_17 zc_iconst_0 ?_
    refine z_istore B [(4, .int (0)), (3, .int (1)), (0, .ref (adr 0)), (1, .int x1), (2, .int x2)] dX8_unlikeBlocks_18 (Nat.le_of_ble_eq_true rfl) rfl ?_
    exact z_loc [2, 3, 4, 1, 0] _ rfl (tR_unlikeBlocks_20 B N hd4 hh4 σ x1 x2 (1) (0) hf)
def mR_unlikeBlocks (N : Nat) (σ : ST) : Option (Int32 × ST) :=
  mR_unlikeBlocks_4 N σ (0) (0)
set_option maxRecDepth 20000 in
set_option maxHeartbeats 2000000 in
theorem cR_unlikeBlocks {adr : Nat → Nat} {cI cZ : ClassId} {l : Launch} {D : va_G} {N : Nat} {σ : ST} (q : Int32 × ST) (hf : mR_unlikeBlocks N σ = some q) : zM l D (wdR adr cI cZ) yX8_unlikeBlocks cX8_unlikeBlocks 5 (some .int) ({ frames := 1, cells := 0, slots := 0, locals := 21 }) [.ref (adr 0)] σ (zi q) := by
  refine zM_of sfR_ok rfl (Nat.le_of_ble_eq_true rfl) [(0, .ref (adr 0))] rfl (fun X hX1 hX2 B => ?_)
  have B : zC X 5 (wdR adr cI cZ) cX8_unlikeBlocks RX8 (some .int) { frames := 1, cells := 0, slots := 0, locals := 21 } := B
  refine z_iconst B (0) dX8_unlikeBlocks_0 zc_iconst_0 ?_
  refine z_istore_n B [(1, .int (0)), (0, .ref (adr 0))] dX8_unlikeBlocks_1 rfl (Nat.le_of_ble_eq_true rfl) rfl ?_
  refine z_iconst B (0) dX8_unlikeBlocks_2 zc_iconst_0 ?_
  refine z_istore_n B [(2, .int (0)), (1, .int (0)), (0, .ref (adr 0))] dX8_unlikeBlocks_3 rfl (Nat.le_of_ble_eq_true rfl) rfl ?_
  exact z_loc [2, 1, 0] _ rfl (tR_unlikeBlocks_4 B N σ (0) (0) hf)
theorem dX8_between_0 : decode cX8_between 0 = .ok (.aload_n 0, 1) := by decide +kernel
theorem dX8_between_1 : decode cX8_between 1 = .ok (.getfield 9, 3) := by decide +kernel
theorem dX8_between_4 : decode cX8_between 4 = .ok (.bipush 22, 2) := by decide +kernel
theorem dX8_between_6 : decode cX8_between 6 = .ok (.iaload, 1) := by decide +kernel
theorem dX8_between_7 : decode cX8_between 7 = .ok (.iconst 1, 1) := by decide +kernel
theorem dX8_between_8 : decode cX8_between 8 = .ok (.isub, 1) := by decide +kernel
theorem dX8_between_9 : decode cX8_between 9 = .ok (.istore_n 1, 1) := by decide +kernel
theorem dX8_between_10 : decode cX8_between 10 = .ok (.iload_n 1, 1) := by decide +kernel
theorem dX8_between_11 : decode cX8_between 11 = .ok (.iconst 1, 1) := by decide +kernel
theorem dX8_between_12 : decode cX8_between 12 = .ok (.isub, 1) := by decide +kernel
theorem dX8_between_13 : decode cX8_between 13 = .ok (.istore_n 2, 1) := by decide +kernel
theorem dX8_between_14 : decode cX8_between 14 = .ok (.iload_n 2, 1) := by decide +kernel
theorem dX8_between_15 : decode cX8_between 15 = .ok (.ifCond .lt 28, 3) := by decide +kernel
theorem dX8_between_18 : decode cX8_between 18 = .ok (.aload_n 0, 1) := by decide +kernel
theorem dX8_between_19 : decode cX8_between 19 = .ok (.iload_n 2, 1) := by decide +kernel
theorem dX8_between_20 : decode cX8_between 20 = .ok (.invokevirtual 238, 3) := by decide +kernel
theorem dX8_between_23 : decode cX8_between 23 = .ok (.aload_n 0, 1) := by decide +kernel
theorem dX8_between_24 : decode cX8_between 24 = .ok (.iload_n 1, 1) := by decide +kernel
theorem dX8_between_25 : decode cX8_between 25 = .ok (.invokevirtual 238, 3) := by decide +kernel
theorem dX8_between_28 : decode cX8_between 28 = .ok (.if_icmp .ne 9, 3) := by decide +kernel
theorem dX8_between_31 : decode cX8_between 31 = .ok (.iload_n 1, 1) := by decide +kernel
theorem dX8_between_32 : decode cX8_between 32 = .ok (.iconst 1, 1) := by decide +kernel
theorem dX8_between_33 : decode cX8_between 33 = .ok (.isub, 1) := by decide +kernel
theorem dX8_between_34 : decode cX8_between 34 = .ok (.iload_n 2, 1) := by decide +kernel
theorem dX8_between_35 : decode cX8_between 35 = .ok (.isub, 1) := by decide +kernel
theorem dX8_between_36 : decode cX8_between 36 = .ok (.ireturn, 1) := by decide +kernel
theorem dX8_between_37 : decode cX8_between 37 = .ok (.iinc 2 (-1), 3) := by decide +kernel
theorem dX8_between_40 : decode cX8_between 40 = .ok (.goto (-26), 3) := by decide +kernel
theorem dX8_between_43 : decode cX8_between 43 = .ok (.iconst (-1), 1) := by decide +kernel
theorem dX8_between_44 : decode cX8_between 44 = .ok (.ireturn, 1) := by decide +kernel
def mR_between_B14 (N : Nat) (hd14 : ST → Int32 → Int32 → Option (Int32 × ST)) (σ : ST) (x1 : Int32) (x2 : Int32) : Option (Int32 × ST) :=
  if (x2 : Int32) < 0 then
    some ((-1), σ)
  else
    zCall (mR_traced N σ x2) fun v20 s20 =>
    zCall (mR_traced N s20 x1) fun v25 s25 =>
    if (v20 : Int32) = v25 then
      zLet ((x1 : Int32) - (1)) fun v33 =>
      zLet ((v33 : Int32) - x2) fun v35 =>
      some (v35, s25)
    else
      zLet (x2 + (-1)) fun v37 =>
      hd14 s25 x1 v37
def mR_between_14 (N : Nat) : ST → Int32 → Int32 → Option (Int32 × ST) := zIt (mR_between_B14 N) (fun _ _ _ => none) N
set_option maxRecDepth 20000 in
set_option maxHeartbeats 2000000 in
theorem tR_between_14 {adr : Nat → Nat} {cI cZ : ClassId} {X : zX} {q : Int32 × ST} (B : zC X 3 (wdR adr cI cZ) cX8_between RX8 (some .int) { frames := 1, cells := 0, slots := 0, locals := 21 }) (N : Nat) : ∀ (σ : ST) (x1 : Int32) (x2 : Int32), mR_between_14 N σ x1 x2 = some q → zJ X 3 (wdR adr cI cZ) (zi q) 14 [(0, .ref (adr 0)), (1, .int x1), (2, .int x2)] [] σ := by
  refine zIt_ind (P := fun (hd : ST → Int32 → Int32 → Option (Int32 × ST)) => ∀ (σ : ST) (x1 : Int32) (x2 : Int32), hd σ x1 x2 = some q → zJ X 3 (wdR adr cI cZ) (zi q) 14 [(0, .ref (adr 0)), (1, .int x1), (2, .int x2)] [] σ) (fun _ _ _ hf => by cases hf) (fun hd14 hh14 => ?_) N
  intro σ x1 x2 hf
  refine z_iload_n B dX8_between_14 2 rfl rfl ?_
  refine z_if_lt B 43 dX8_between_15 (by decide) hf (fun hf => ?_) (fun hf => ?_)
  · refine z_iconst B (-1) dX8_between_43 zc_iconst_m1 ?_
    exact z_ireturn B dX8_between_44 hf
  · refine z_aload_n B dX8_between_18 0 rfl rfl ?_
    refine z_iload_n B dX8_between_19 2 rfl rfl ?_
    refine z_callVi B (As := [.int x2]) kcV_X8_238 dX8_between_20 hf (fun q hq => cR_traced q hq) (wR_o (adr := adr) (cI := cI) (cZ := cZ)) rfl rfl rfl rfl (Nat.le_of_ble_eq_true rfl) rfl rfl ⟨Nat.le_of_ble_eq_true rfl, Nat.le_of_ble_eq_true rfl⟩ (fun v20 s20 hf => ?_)
    refine z_aload_n B dX8_between_23 0 rfl rfl ?_
    refine z_iload_n B dX8_between_24 1 rfl rfl ?_
    refine z_callVi B (As := [.int x1]) kcV_X8_238 dX8_between_25 hf (fun q hq => cR_traced q hq) (wR_o (adr := adr) (cI := cI) (cZ := cZ)) rfl rfl rfl rfl (Nat.le_of_ble_eq_true rfl) rfl rfl ⟨Nat.le_of_ble_eq_true rfl, Nat.le_of_ble_eq_true rfl⟩ (fun v25 s25 hf => ?_)
    refine z_icmp_ne B 37 dX8_between_28 (by decide) hf (fun hf => ?_) (fun hf => ?_)
    · refine z_iinc B (-1) 2 (fun v37 => [(2, .int v37), (0, .ref (adr 0)), (1, .int x1)]) dX8_between_37 hf zc_iconst_m1 rfl (Nat.le_of_ble_eq_true rfl) (fun _ => rfl) (fun v37 hf => ?_)
      refine z_goto B 14 dX8_between_40 (by decide) ?_
      exact z_loc [1, 2, 0] _ rfl (hh14 s25 x1 v37 hf)
    · refine z_iload_n B dX8_between_31 1 rfl rfl ?_
      refine z_iconst B (1) dX8_between_32 zc_iconst_1 ?_
      refine z_isub B dX8_between_33 hf (fun v33 hf => ?_)
      refine z_iload_n B dX8_between_34 2 rfl rfl ?_
      refine z_isub B dX8_between_35 hf (fun v35 hf => ?_)
      exact z_ireturn B dX8_between_36 hf
def mR_between (N : Nat) (σ : ST) : Option (Int32 × ST) :=
  zGet (σ 1) 1974 (22) fun v6 =>
  zLet ((v6 : Int32) - (1)) fun v8 =>
  zLet ((v8 : Int32) - (1)) fun v12 =>
  mR_between_14 N σ v8 v12
set_option maxRecDepth 20000 in
set_option maxHeartbeats 2000000 in
theorem cR_between {adr : Nat → Nat} {cI cZ : ClassId} {l : Launch} {D : va_G} {N : Nat} {σ : ST} (q : Int32 × ST) (hf : mR_between N σ = some q) : zM l D (wdR adr cI cZ) yX8_between cX8_between 3 (some .int) ({ frames := 1, cells := 0, slots := 0, locals := 21 }) [.ref (adr 0)] σ (zi q) := by
  refine zM_of sfR_ok rfl (Nat.le_of_ble_eq_true rfl) [(0, .ref (adr 0))] rfl (fun X hX1 hX2 B => ?_)
  have B : zC X 3 (wdR adr cI cZ) cX8_between RX8 (some .int) { frames := 1, cells := 0, slots := 0, locals := 21 } := B
  refine z_aload_n B dX8_between_0 0 rfl rfl ?_
  refine fR_g_row B dX8_between_1 ?_
  refine z_bipush B (22) dX8_between_4 zc_bipush_22 ?_
  refine fR_l_row B dX8_between_6 hf (fun v6 hf => ?_)
  refine z_iconst B (1) dX8_between_7 zc_iconst_1 ?_
  refine z_isub B dX8_between_8 hf (fun v8 hf => ?_)
  refine z_istore_n B [(1, .int v8), (0, .ref (adr 0))] dX8_between_9 rfl (Nat.le_of_ble_eq_true rfl) rfl ?_
  refine z_iload_n B dX8_between_10 0 rfl rfl ?_
  refine z_iconst B (1) dX8_between_11 zc_iconst_1 ?_
  refine z_isub B dX8_between_12 hf (fun v12 hf => ?_)
  refine z_istore_n B [(2, .int v12), (1, .int v8), (0, .ref (adr 0))] dX8_between_13 rfl (Nat.le_of_ble_eq_true rfl) rfl ?_
  exact z_loc [2, 1, 0] _ rfl (tR_between_14 B N σ v8 v12 hf)
theorem dX8_timesRead_0 : decode cX8_timesRead 0 = .ok (.iconst 0, 1) := by decide +kernel
theorem dX8_timesRead_1 : decode cX8_timesRead 1 = .ok (.istore_n 2, 1) := by decide +kernel
theorem dX8_timesRead_2 : decode cX8_timesRead 2 = .ok (.iconst 0, 1) := by decide +kernel
theorem dX8_timesRead_3 : decode cX8_timesRead 3 = .ok (.istore_n 3, 1) := by decide +kernel
theorem dX8_timesRead_4 : decode cX8_timesRead 4 = .ok (.iload_n 3, 1) := by decide +kernel
theorem dX8_timesRead_5 : decode cX8_timesRead 5 = .ok (.aload_n 0, 1) := by decide +kernel
theorem dX8_timesRead_6 : decode cX8_timesRead 6 = .ok (.getfield 9, 3) := by decide +kernel
theorem dX8_timesRead_9 : decode cX8_timesRead 9 = .ok (.bipush 22, 2) := by decide +kernel
theorem dX8_timesRead_11 : decode cX8_timesRead 11 = .ok (.iaload, 1) := by decide +kernel
theorem dX8_timesRead_12 : decode cX8_timesRead 12 = .ok (.if_icmp .ge 26, 3) := by decide +kernel
theorem dX8_timesRead_15 : decode cX8_timesRead 15 = .ok (.iload_n 2, 1) := by decide +kernel
theorem dX8_timesRead_16 : decode cX8_timesRead 16 = .ok (.aload_n 0, 1) := by decide +kernel
theorem dX8_timesRead_17 : decode cX8_timesRead 17 = .ok (.iload_n 3, 1) := by decide +kernel
theorem dX8_timesRead_18 : decode cX8_timesRead 18 = .ok (.invokevirtual 238, 3) := by decide +kernel
theorem dX8_timesRead_21 : decode cX8_timesRead 21 = .ok (.iload_n 1, 1) := by decide +kernel
theorem dX8_timesRead_22 : decode cX8_timesRead 22 = .ok (.if_icmp .ne 7, 3) := by decide +kernel
theorem dX8_timesRead_25 : decode cX8_timesRead 25 = .ok (.iconst 1, 1) := by decide +kernel
theorem dX8_timesRead_26 : decode cX8_timesRead 26 = .ok (.goto 4, 3) := by decide +kernel
theorem dX8_timesRead_29 : decode cX8_timesRead 29 = .ok (.iconst 0, 1) := by decide +kernel
theorem dX8_timesRead_30 : decode cX8_timesRead 30 = .ok (.iadd, 1) := by decide +kernel
theorem dX8_timesRead_31 : decode cX8_timesRead 31 = .ok (.istore_n 2, 1) := by decide +kernel
theorem dX8_timesRead_32 : decode cX8_timesRead 32 = .ok (.iinc 3 1, 3) := by decide +kernel
theorem dX8_timesRead_35 : decode cX8_timesRead 35 = .ok (.goto (-31), 3) := by decide +kernel
theorem dX8_timesRead_38 : decode cX8_timesRead 38 = .ok (.iload_n 2, 1) := by decide +kernel
theorem dX8_timesRead_39 : decode cX8_timesRead 39 = .ok (.ireturn, 1) := by decide +kernel
def mR_timesRead_30 (N : Nat) (hd4 : ST → Int32 → Int32 → Int32 → Option (Int32 × ST)) (σ : ST) (x1 : Int32) (x2 : Int32) (x3 : Int32) (k0 : Int32) (k1 : Int32) : Option (Int32 × ST) :=
  zLet ((k0 : Int32) + k1) fun v30 =>
  zLet (x3 + (1)) fun v32 =>
  hd4 σ x1 v30 v32
set_option maxRecDepth 20000 in
set_option maxHeartbeats 2000000 in
theorem tR_timesRead_30 {adr : Nat → Nat} {cI cZ : ClassId} {X : zX} {q : Int32 × ST} (B : zC X 4 (wdR adr cI cZ) cX8_timesRead RX8 (some .int) { frames := 1, cells := 0, slots := 0, locals := 21 }) (N : Nat) (hd4 : ST → Int32 → Int32 → Int32 → Option (Int32 × ST)) (hh4 : ∀ (σ : ST) (x1 : Int32) (x2 : Int32) (x3 : Int32), hd4 σ x1 x2 x3 = some q → zJ X 4 (wdR adr cI cZ) (zi q) 4 [(0, .ref (adr 0)), (1, .int x1), (2, .int x2), (3, .int x3)] [] σ) (σ : ST) (x1 : Int32) (x2 : Int32) (x3 : Int32) (k0 : Int32) (k1 : Int32) (hf : mR_timesRead_30 N hd4 σ x1 x2 x3 k0 k1 = some q) : zJ X 4 (wdR adr cI cZ) (zi q) 30 [(0, .ref (adr 0)), (1, .int x1), (2, .int x2), (3, .int x3)] [.int k1, .int k0] σ := by
  refine z_iadd B dX8_timesRead_30 hf (fun v30 hf => ?_)
  refine z_istore_n B [(2, .int v30), (0, .ref (adr 0)), (1, .int x1), (3, .int x3)] dX8_timesRead_31 rfl (Nat.le_of_ble_eq_true rfl) rfl ?_
  refine z_iinc B (1) 3 (fun v32 => [(3, .int v32), (2, .int v30), (0, .ref (adr 0)), (1, .int x1)]) dX8_timesRead_32 hf zc_iconst_1 rfl (Nat.le_of_ble_eq_true rfl) (fun _ => rfl) (fun v32 hf => ?_)
  refine z_goto B 4 dX8_timesRead_35 (by decide) ?_
  exact z_loc [2, 3, 1, 0] _ rfl (hh4 σ x1 v30 v32 hf)
def mR_timesRead_B4 (N : Nat) (hd4 : ST → Int32 → Int32 → Int32 → Option (Int32 × ST)) (σ : ST) (x1 : Int32) (x2 : Int32) (x3 : Int32) : Option (Int32 × ST) :=
  zGet (σ 1) 1974 (22) fun v11 =>
  if (v11 : Int32) ≤ x3 then
    some (x2, σ)
  else
    zCall (mR_traced N σ x3) fun v18 s18 =>
    if (v18 : Int32) = x1 then
      mR_timesRead_30 N hd4 s18 x1 x2 x3 x2 (1)
    else
      mR_timesRead_30 N hd4 s18 x1 x2 x3 x2 (0)
def mR_timesRead_4 (N : Nat) : ST → Int32 → Int32 → Int32 → Option (Int32 × ST) := zIt (mR_timesRead_B4 N) (fun _ _ _ _ => none) N
set_option maxRecDepth 20000 in
set_option maxHeartbeats 2000000 in
theorem tR_timesRead_4 {adr : Nat → Nat} {cI cZ : ClassId} {X : zX} {q : Int32 × ST} (B : zC X 4 (wdR adr cI cZ) cX8_timesRead RX8 (some .int) { frames := 1, cells := 0, slots := 0, locals := 21 }) (N : Nat) : ∀ (σ : ST) (x1 : Int32) (x2 : Int32) (x3 : Int32), mR_timesRead_4 N σ x1 x2 x3 = some q → zJ X 4 (wdR adr cI cZ) (zi q) 4 [(0, .ref (adr 0)), (1, .int x1), (2, .int x2), (3, .int x3)] [] σ := by
  refine zIt_ind (P := fun (hd : ST → Int32 → Int32 → Int32 → Option (Int32 × ST)) => ∀ (σ : ST) (x1 : Int32) (x2 : Int32) (x3 : Int32), hd σ x1 x2 x3 = some q → zJ X 4 (wdR adr cI cZ) (zi q) 4 [(0, .ref (adr 0)), (1, .int x1), (2, .int x2), (3, .int x3)] [] σ) (fun _ _ _ _ hf => by cases hf) (fun hd4 hh4 => ?_) N
  intro σ x1 x2 x3 hf
  refine z_iload_n B dX8_timesRead_4 3 rfl rfl ?_
  refine z_aload_n B dX8_timesRead_5 0 rfl rfl ?_
  refine fR_g_row B dX8_timesRead_6 ?_
  refine z_bipush B (22) dX8_timesRead_9 zc_bipush_22 ?_
  refine fR_l_row B dX8_timesRead_11 hf (fun v11 hf => ?_)
  refine z_icmp_ge B 38 dX8_timesRead_12 (by decide) hf (fun hf => ?_) (fun hf => ?_)
  · refine z_iload_n B dX8_timesRead_38 2 rfl rfl ?_
    exact z_ireturn B dX8_timesRead_39 hf
  · refine z_iload_n B dX8_timesRead_15 2 rfl rfl ?_
    refine z_aload_n B dX8_timesRead_16 0 rfl rfl ?_
    refine z_iload_n B dX8_timesRead_17 3 rfl rfl ?_
    refine z_callVi B (As := [.int x3]) kcV_X8_238 dX8_timesRead_18 hf (fun q hq => cR_traced q hq) (wR_o (adr := adr) (cI := cI) (cZ := cZ)) rfl rfl rfl rfl (Nat.le_of_ble_eq_true rfl) rfl rfl ⟨Nat.le_of_ble_eq_true rfl, Nat.le_of_ble_eq_true rfl⟩ (fun v18 s18 hf => ?_)
    refine z_iload_n B dX8_timesRead_21 1 rfl rfl ?_
    refine z_icmp_ne B 29 dX8_timesRead_22 (by decide) hf (fun hf => ?_) (fun hf => ?_)
    · refine z_iconst B (0) dX8_timesRead_29 zc_iconst_0 ?_
      exact tR_timesRead_30 B N hd4 hh4 s18 x1 x2 x3 x2 (0) hf
    · refine z_iconst B (1) dX8_timesRead_25 zc_iconst_1 ?_
      refine z_goto B 30 dX8_timesRead_26 (by decide) ?_
      exact tR_timesRead_30 B N hd4 hh4 s18 x1 x2 x3 x2 (1) hf
def mR_timesRead (N : Nat) (σ : ST) (x1 : Int32) : Option (Int32 × ST) :=
  mR_timesRead_4 N σ x1 (0) (0)
set_option maxRecDepth 20000 in
set_option maxHeartbeats 2000000 in
theorem cR_timesRead {adr : Nat → Nat} {cI cZ : ClassId} {l : Launch} {D : va_G} {N : Nat} {σ : ST} {x1 : Int32} (q : Int32 × ST) (hf : mR_timesRead N σ x1 = some q) : zM l D (wdR adr cI cZ) yX8_timesRead cX8_timesRead 4 (some .int) ({ frames := 1, cells := 0, slots := 0, locals := 21 }) [.ref (adr 0), .int x1] σ (zi q) := by
  refine zM_of sfR_ok rfl (Nat.le_of_ble_eq_true rfl) [(0, .ref (adr 0)), (1, .int x1)] rfl (fun X hX1 hX2 B => ?_)
  have B : zC X 4 (wdR adr cI cZ) cX8_timesRead RX8 (some .int) { frames := 1, cells := 0, slots := 0, locals := 21 } := B
  refine z_iconst B (0) dX8_timesRead_0 zc_iconst_0 ?_
  refine z_istore_n B [(2, .int (0)), (0, .ref (adr 0)), (1, .int x1)] dX8_timesRead_1 rfl (Nat.le_of_ble_eq_true rfl) rfl ?_
  refine z_iconst B (0) dX8_timesRead_2 zc_iconst_0 ?_
  refine z_istore_n B [(3, .int (0)), (2, .int (0)), (0, .ref (adr 0)), (1, .int x1)] dX8_timesRead_3 rfl (Nat.le_of_ble_eq_true rfl) rfl ?_
  exact z_loc [2, 3, 1, 0] _ rfl (tR_timesRead_4 B N σ x1 (0) (0) hf)
theorem dX8_mostRead_0 : decode cX8_mostRead 0 = .ok (.iconst (-1), 1) := by decide +kernel
theorem dX8_mostRead_1 : decode cX8_mostRead 1 = .ok (.istore_n 1, 1) := by decide +kernel
theorem dX8_mostRead_2 : decode cX8_mostRead 2 = .ok (.iconst 0, 1) := by decide +kernel
theorem dX8_mostRead_3 : decode cX8_mostRead 3 = .ok (.istore_n 2, 1) := by decide +kernel
theorem dX8_mostRead_4 : decode cX8_mostRead 4 = .ok (.iconst 0, 1) := by decide +kernel
theorem dX8_mostRead_5 : decode cX8_mostRead 5 = .ok (.istore_n 3, 1) := by decide +kernel
theorem dX8_mostRead_6 : decode cX8_mostRead 6 = .ok (.iload_n 3, 1) := by decide +kernel
theorem dX8_mostRead_7 : decode cX8_mostRead 7 = .ok (.aload_n 0, 1) := by decide +kernel
theorem dX8_mostRead_8 : decode cX8_mostRead 8 = .ok (.getfield 9, 3) := by decide +kernel
theorem dX8_mostRead_11 : decode cX8_mostRead 11 = .ok (.bipush 22, 2) := by decide +kernel
theorem dX8_mostRead_13 : decode cX8_mostRead 13 = .ok (.iaload, 1) := by decide +kernel
theorem dX8_mostRead_14 : decode cX8_mostRead 14 = .ok (.if_icmp .ge 50, 3) := by decide +kernel
theorem dX8_mostRead_17 : decode cX8_mostRead 17 = .ok (.aload_n 0, 1) := by decide +kernel
theorem dX8_mostRead_18 : decode cX8_mostRead 18 = .ok (.aload_n 0, 1) := by decide +kernel
theorem dX8_mostRead_19 : decode cX8_mostRead 19 = .ok (.iload_n 3, 1) := by decide +kernel
theorem dX8_mostRead_20 : decode cX8_mostRead 20 = .ok (.invokevirtual 238, 3) := by decide +kernel
theorem dX8_mostRead_23 : decode cX8_mostRead 23 = .ok (.invokevirtual 249, 3) := by decide +kernel
theorem dX8_mostRead_26 : decode cX8_mostRead 26 = .ok (.istore 4, 2) := by decide +kernel
theorem dX8_mostRead_28 : decode cX8_mostRead 28 = .ok (.iload 4, 2) := by decide +kernel
theorem dX8_mostRead_30 : decode cX8_mostRead 30 = .ok (.iload_n 2, 1) := by decide +kernel
theorem dX8_mostRead_31 : decode cX8_mostRead 31 = .ok (.if_icmp .gt 18, 3) := by decide +kernel
theorem dX8_mostRead_34 : decode cX8_mostRead 34 = .ok (.iload 4, 2) := by decide +kernel
theorem dX8_mostRead_36 : decode cX8_mostRead 36 = .ok (.iload_n 2, 1) := by decide +kernel
theorem dX8_mostRead_37 : decode cX8_mostRead 37 = .ok (.if_icmp .ne 21, 3) := by decide +kernel
theorem dX8_mostRead_40 : decode cX8_mostRead 40 = .ok (.aload_n 0, 1) := by decide +kernel
theorem dX8_mostRead_41 : decode cX8_mostRead 41 = .ok (.iload_n 3, 1) := by decide +kernel
theorem dX8_mostRead_42 : decode cX8_mostRead 42 = .ok (.invokevirtual 238, 3) := by decide +kernel
theorem dX8_mostRead_45 : decode cX8_mostRead 45 = .ok (.iload_n 1, 1) := by decide +kernel
theorem dX8_mostRead_46 : decode cX8_mostRead 46 = .ok (.if_icmp .ge 12, 3) := by decide +kernel
theorem dX8_mostRead_49 : decode cX8_mostRead 49 = .ok (.aload_n 0, 1) := by decide +kernel
theorem dX8_mostRead_50 : decode cX8_mostRead 50 = .ok (.iload_n 3, 1) := by decide +kernel
theorem dX8_mostRead_51 : decode cX8_mostRead 51 = .ok (.invokevirtual 238, 3) := by decide +kernel
theorem dX8_mostRead_54 : decode cX8_mostRead 54 = .ok (.istore_n 1, 1) := by decide +kernel
theorem dX8_mostRead_55 : decode cX8_mostRead 55 = .ok (.iload 4, 2) := by decide +kernel
theorem dX8_mostRead_57 : decode cX8_mostRead 57 = .ok (.istore_n 2, 1) := by decide +kernel
theorem dX8_mostRead_58 : decode cX8_mostRead 58 = .ok (.iinc 3 1, 3) := by decide +kernel
theorem dX8_mostRead_61 : decode cX8_mostRead 61 = .ok (.goto (-55), 3) := by decide +kernel
theorem dX8_mostRead_64 : decode cX8_mostRead 64 = .ok (.iload_n 1, 1) := by decide +kernel
theorem dX8_mostRead_65 : decode cX8_mostRead 65 = .ok (.ireturn, 1) := by decide +kernel
def mR_mostRead_58 (N : Nat) (hd6 : ST → Int32 → Int32 → Int32 → Option (Int32 × ST)) (σ : ST) (x1 : Int32) (x2 : Int32) (x3 : Int32) (x4 : Int32) : Option (Int32 × ST) :=
  zLet (x3 + (1)) fun v58 =>
  hd6 σ x1 x2 v58
set_option maxRecDepth 20000 in
set_option maxHeartbeats 2000000 in
theorem tR_mostRead_58 {adr : Nat → Nat} {cI cZ : ClassId} {X : zX} {q : Int32 × ST} (B : zC X 5 (wdR adr cI cZ) cX8_mostRead RX8 (some .int) { frames := 2, cells := 0, slots := 0, locals := 44 }) (N : Nat) (hd6 : ST → Int32 → Int32 → Int32 → Option (Int32 × ST)) (hh6 : ∀ (σ : ST) (x1 : Int32) (x2 : Int32) (x3 : Int32), hd6 σ x1 x2 x3 = some q → zJ X 5 (wdR adr cI cZ) (zi q) 6 [(0, .ref (adr 0)), (1, .int x1), (2, .int x2), (3, .int x3)] [] σ) (σ : ST) (x1 : Int32) (x2 : Int32) (x3 : Int32) (x4 : Int32) (hf : mR_mostRead_58 N hd6 σ x1 x2 x3 x4 = some q) : zJ X 5 (wdR adr cI cZ) (zi q) 58 [(0, .ref (adr 0)), (1, .int x1), (2, .int x2), (3, .int x3), (4, .int x4)] [] σ := by
  refine z_iinc B (1) 3 (fun v58 => [(3, .int v58), (0, .ref (adr 0)), (1, .int x1), (2, .int x2), (4, .int x4)]) dX8_mostRead_58 hf zc_iconst_1 rfl (Nat.le_of_ble_eq_true rfl) (fun _ => rfl) (fun v58 hf => ?_)
  refine z_goto B 6 dX8_mostRead_61 (by decide) ?_
  exact z_loc [1, 2, 3, 0] _ rfl (hh6 σ x1 x2 v58 hf)
def mR_mostRead_49 (N : Nat) (hd6 : ST → Int32 → Int32 → Int32 → Option (Int32 × ST)) (σ : ST) (x1 : Int32) (x2 : Int32) (x3 : Int32) (x4 : Int32) : Option (Int32 × ST) :=
  zCall (mR_traced N σ x3) fun v51 s51 =>
  mR_mostRead_58 N hd6 s51 v51 x4 x3 x4
set_option maxRecDepth 20000 in
set_option maxHeartbeats 2000000 in
theorem tR_mostRead_49 {adr : Nat → Nat} {cI cZ : ClassId} {X : zX} {q : Int32 × ST} (B : zC X 5 (wdR adr cI cZ) cX8_mostRead RX8 (some .int) { frames := 2, cells := 0, slots := 0, locals := 44 }) (N : Nat) (hd6 : ST → Int32 → Int32 → Int32 → Option (Int32 × ST)) (hh6 : ∀ (σ : ST) (x1 : Int32) (x2 : Int32) (x3 : Int32), hd6 σ x1 x2 x3 = some q → zJ X 5 (wdR adr cI cZ) (zi q) 6 [(0, .ref (adr 0)), (1, .int x1), (2, .int x2), (3, .int x3)] [] σ) (σ : ST) (x1 : Int32) (x2 : Int32) (x3 : Int32) (x4 : Int32) (hf : mR_mostRead_49 N hd6 σ x1 x2 x3 x4 = some q) : zJ X 5 (wdR adr cI cZ) (zi q) 49 [(0, .ref (adr 0)), (1, .int x1), (2, .int x2), (3, .int x3), (4, .int x4)] [] σ := by
  refine z_aload_n B dX8_mostRead_49 0 rfl rfl ?_
  refine z_iload_n B dX8_mostRead_50 3 rfl rfl ?_
  refine z_callVi B (As := [.int x3]) kcV_X8_238 dX8_mostRead_51 hf (fun q hq => cR_traced q hq) (wR_o (adr := adr) (cI := cI) (cZ := cZ)) rfl rfl rfl rfl (Nat.le_of_ble_eq_true rfl) rfl rfl ⟨Nat.le_of_ble_eq_true rfl, Nat.le_of_ble_eq_true rfl⟩ (fun v51 s51 hf => ?_)
  refine z_istore_n B [(1, .int v51), (0, .ref (adr 0)), (2, .int x2), (3, .int x3), (4, .int x4)] dX8_mostRead_54 rfl (Nat.le_of_ble_eq_true rfl) rfl ?_
  refine z_iload B dX8_mostRead_55 4 rfl ?_
  refine z_istore_n B [(2, .int x4), (1, .int v51), (0, .ref (adr 0)), (3, .int x3), (4, .int x4)] dX8_mostRead_57 rfl (Nat.le_of_ble_eq_true rfl) rfl ?_
  exact z_loc [2, 1, 0, 3, 4] _ rfl (tR_mostRead_58 B N hd6 hh6 s51 v51 x4 x3 x4 hf)
def mR_mostRead_B6 (N : Nat) (hd6 : ST → Int32 → Int32 → Int32 → Option (Int32 × ST)) (σ : ST) (x1 : Int32) (x2 : Int32) (x3 : Int32) : Option (Int32 × ST) :=
  zGet (σ 1) 1974 (22) fun v13 =>
  if (v13 : Int32) ≤ x3 then
    some (x1, σ)
  else
    zCall (mR_traced N σ x3) fun v20 s20 =>
    zCall (mR_timesRead N s20 v20) fun v23 s23 =>
    if (x2 : Int32) < v23 then
      mR_mostRead_49 N hd6 s23 x1 x2 x3 v23
    else
      if (v23 : Int32) = x2 then
        zCall (mR_traced N s23 x3) fun v42 s42 =>
        if (x1 : Int32) ≤ v42 then
          mR_mostRead_58 N hd6 s42 x1 x2 x3 v23
        else
          mR_mostRead_49 N hd6 s42 x1 x2 x3 v23
      else
        mR_mostRead_58 N hd6 s23 x1 x2 x3 v23
def mR_mostRead_6 (N : Nat) : ST → Int32 → Int32 → Int32 → Option (Int32 × ST) := zIt (mR_mostRead_B6 N) (fun _ _ _ _ => none) N
set_option maxRecDepth 20000 in
set_option maxHeartbeats 2000000 in
theorem tR_mostRead_6 {adr : Nat → Nat} {cI cZ : ClassId} {X : zX} {q : Int32 × ST} (B : zC X 5 (wdR adr cI cZ) cX8_mostRead RX8 (some .int) { frames := 2, cells := 0, slots := 0, locals := 44 }) (N : Nat) : ∀ (σ : ST) (x1 : Int32) (x2 : Int32) (x3 : Int32), mR_mostRead_6 N σ x1 x2 x3 = some q → zJ X 5 (wdR adr cI cZ) (zi q) 6 [(0, .ref (adr 0)), (1, .int x1), (2, .int x2), (3, .int x3)] [] σ := by
  refine zIt_ind (P := fun (hd : ST → Int32 → Int32 → Int32 → Option (Int32 × ST)) => ∀ (σ : ST) (x1 : Int32) (x2 : Int32) (x3 : Int32), hd σ x1 x2 x3 = some q → zJ X 5 (wdR adr cI cZ) (zi q) 6 [(0, .ref (adr 0)), (1, .int x1), (2, .int x2), (3, .int x3)] [] σ) (fun _ _ _ _ hf => by cases hf) (fun hd6 hh6 => ?_) N
  intro σ x1 x2 x3 hf
  refine z_iload_n B dX8_mostRead_6 3 rfl rfl ?_
  refine z_aload_n B dX8_mostRead_7 0 rfl rfl ?_
  refine fR_g_row B dX8_mostRead_8 ?_
  refine z_bipush B (22) dX8_mostRead_11 zc_bipush_22 ?_
  refine fR_l_row B dX8_mostRead_13 hf (fun v13 hf => ?_)
  refine z_icmp_ge B 64 dX8_mostRead_14 (by decide) hf (fun hf => ?_) (fun hf => ?_)
  · refine z_iload_n B dX8_mostRead_64 1 rfl rfl ?_
    exact z_ireturn B dX8_mostRead_65 hf
  · refine z_aload_n B dX8_mostRead_17 0 rfl rfl ?_
    refine z_aload_n B dX8_mostRead_18 0 rfl rfl ?_
    refine z_iload_n B dX8_mostRead_19 3 rfl rfl ?_
    refine z_callVi B (As := [.int x3]) kcV_X8_238 dX8_mostRead_20 hf (fun q hq => cR_traced q hq) (wR_o (adr := adr) (cI := cI) (cZ := cZ)) rfl rfl rfl rfl (Nat.le_of_ble_eq_true rfl) rfl rfl ⟨Nat.le_of_ble_eq_true rfl, Nat.le_of_ble_eq_true rfl⟩ (fun v20 s20 hf => ?_)
    refine z_callVi B (As := [.int v20]) kcV_X8_249 dX8_mostRead_23 hf (fun q hq => cR_timesRead q hq) (wR_o (adr := adr) (cI := cI) (cZ := cZ)) rfl rfl rfl rfl (Nat.le_of_ble_eq_true rfl) rfl rfl ⟨Nat.le_of_ble_eq_true rfl, Nat.le_of_ble_eq_true rfl⟩ (fun v23 s23 hf => ?_)
    refine z_istore B [(4, .int v23), (0, .ref (adr 0)), (1, .int x1), (2, .int x2), (3, .int x3)] dX8_mostRead_26 (Nat.le_of_ble_eq_true rfl) rfl ?_
    refine z_iload B dX8_mostRead_28 0 rfl ?_
    refine z_iload_n B dX8_mostRead_30 3 rfl rfl ?_
    refine z_icmp_gt B 49 dX8_mostRead_31 (by decide) hf (fun hf => ?_) (fun hf => ?_)
    · exact z_loc [1, 2, 3, 4, 0] _ rfl (tR_mostRead_49 B N hd6 hh6 s23 x1 x2 x3 v23 hf)
    · refine z_iload B dX8_mostRead_34 0 rfl ?_
      refine z_iload_n B dX8_mostRead_36 3 rfl rfl ?_
      refine z_icmp_ne B 58 dX8_mostRead_37 (by decide) hf (fun hf => ?_) (fun hf => ?_)
      · exact z_loc [1, 2, 3, 4, 0] _ rfl (tR_mostRead_58 B N hd6 hh6 s23 x1 x2 x3 v23 hf)
      · refine z_aload_n B dX8_mostRead_40 1 rfl rfl ?_
        refine z_iload_n B dX8_mostRead_41 4 rfl rfl ?_
        refine z_callVi B (As := [.int x3]) kcV_X8_238 dX8_mostRead_42 hf (fun q hq => cR_traced q hq) (wR_o (adr := adr) (cI := cI) (cZ := cZ)) rfl rfl rfl rfl (Nat.le_of_ble_eq_true rfl) rfl rfl ⟨Nat.le_of_ble_eq_true rfl, Nat.le_of_ble_eq_true rfl⟩ (fun v42 s42 hf => ?_)
        refine z_iload_n B dX8_mostRead_45 2 rfl rfl ?_
        refine z_icmp_ge B 58 dX8_mostRead_46 (by decide) hf (fun hf => ?_) (fun hf => ?_)
        · exact z_loc [1, 2, 3, 4, 0] _ rfl (tR_mostRead_58 B N hd6 hh6 s42 x1 x2 x3 v23 hf)
        · exact z_loc [1, 2, 3, 4, 0] _ rfl (tR_mostRead_49 B N hd6 hh6 s42 x1 x2 x3 v23 hf)
def mR_mostRead (N : Nat) (σ : ST) : Option (Int32 × ST) :=
  mR_mostRead_6 N σ (-1) (0) (0)
set_option maxRecDepth 20000 in
set_option maxHeartbeats 2000000 in
theorem cR_mostRead {adr : Nat → Nat} {cI cZ : ClassId} {l : Launch} {D : va_G} {N : Nat} {σ : ST} (q : Int32 × ST) (hf : mR_mostRead N σ = some q) : zM l D (wdR adr cI cZ) yX8_mostRead cX8_mostRead 5 (some .int) ({ frames := 2, cells := 0, slots := 0, locals := 44 }) [.ref (adr 0)] σ (zi q) := by
  refine zM_of sfR_ok rfl (Nat.le_of_ble_eq_true rfl) [(0, .ref (adr 0))] rfl (fun X hX1 hX2 B => ?_)
  have B : zC X 5 (wdR adr cI cZ) cX8_mostRead RX8 (some .int) { frames := 2, cells := 0, slots := 0, locals := 44 } := B
  refine z_iconst B (-1) dX8_mostRead_0 zc_iconst_m1 ?_
  refine z_istore_n B [(1, .int (-1)), (0, .ref (adr 0))] dX8_mostRead_1 rfl (Nat.le_of_ble_eq_true rfl) rfl ?_
  refine z_iconst B (0) dX8_mostRead_2 zc_iconst_0 ?_
  refine z_istore_n B [(2, .int (0)), (1, .int (-1)), (0, .ref (adr 0))] dX8_mostRead_3 rfl (Nat.le_of_ble_eq_true rfl) rfl ?_
  refine z_iconst B (0) dX8_mostRead_4 zc_iconst_0 ?_
  refine z_istore_n B [(3, .int (0)), (2, .int (0)), (1, .int (-1)), (0, .ref (adr 0))] dX8_mostRead_5 rfl (Nat.le_of_ble_eq_true rfl) rfl ?_
  exact z_loc [3, 2, 1, 0] _ rfl (tR_mostRead_6 B N σ (-1) (0) (0) hf)
theorem dX8_habits_0 : decode cX8_habits 0 = .ok (.aload_n 0, 1) := by decide +kernel
theorem dX8_habits_1 : decode cX8_habits 1 = .ok (.iconst 0, 1) := by decide +kernel
theorem dX8_habits_2 : decode cX8_habits 2 = .ok (.putfield 67, 3) := by decide +kernel
theorem dX8_habits_5 : decode cX8_habits 5 = .ok (.aload_n 0, 1) := by decide +kernel
theorem dX8_habits_6 : decode cX8_habits 6 = .ok (.getfield 9, 3) := by decide +kernel
theorem dX8_habits_9 : decode cX8_habits 9 = .ok (.bipush 22, 2) := by decide +kernel
theorem dX8_habits_11 : decode cX8_habits 11 = .ok (.iaload, 1) := by decide +kernel
theorem dX8_habits_12 : decode cX8_habits 12 = .ok (.ifCond .ne 5, 3) := by decide +kernel
theorem dX8_habits_15 : decode cX8_habits 15 = .ok (.iconst (-1), 1) := by decide +kernel
theorem dX8_habits_16 : decode cX8_habits 16 = .ok (.ireturn, 1) := by decide +kernel
theorem dX8_habits_17 : decode cX8_habits 17 = .ok (.iload_n 1, 1) := by decide +kernel
theorem dX8_habits_18 : decode cX8_habits 18 = .ok (.tableswitch 97 0 4 #[34, 39, 44, 49, 58], 34) := by decide +kernel
theorem dX8_habits_52 : decode cX8_habits 52 = .ok (.aload_n 0, 1) := by decide +kernel
theorem dX8_habits_53 : decode cX8_habits 53 = .ok (.invokevirtual 252, 3) := by decide +kernel
theorem dX8_habits_56 : decode cX8_habits 56 = .ok (.ireturn, 1) := by decide +kernel
theorem dX8_habits_57 : decode cX8_habits 57 = .ok (.aload_n 0, 1) := by decide +kernel
theorem dX8_habits_58 : decode cX8_habits 58 = .ok (.invokevirtual 255, 3) := by decide +kernel
theorem dX8_habits_61 : decode cX8_habits 61 = .ok (.ireturn, 1) := by decide +kernel
theorem dX8_habits_62 : decode cX8_habits 62 = .ok (.aload_n 0, 1) := by decide +kernel
theorem dX8_habits_63 : decode cX8_habits 63 = .ok (.invokevirtual 258, 3) := by decide +kernel
theorem dX8_habits_66 : decode cX8_habits 66 = .ok (.ireturn, 1) := by decide +kernel
theorem dX8_habits_67 : decode cX8_habits 67 = .ok (.aload_n 0, 1) := by decide +kernel
theorem dX8_habits_68 : decode cX8_habits 68 = .ok (.aload_n 0, 1) := by decide +kernel
theorem dX8_habits_69 : decode cX8_habits 69 = .ok (.invokevirtual 258, 3) := by decide +kernel
theorem dX8_habits_72 : decode cX8_habits 72 = .ok (.invokevirtual 249, 3) := by decide +kernel
theorem dX8_habits_75 : decode cX8_habits 75 = .ok (.ireturn, 1) := by decide +kernel
theorem dX8_habits_76 : decode cX8_habits 76 = .ok (.iconst 0, 1) := by decide +kernel
theorem dX8_habits_77 : decode cX8_habits 77 = .ok (.istore_n 2, 1) := by decide +kernel
theorem dX8_habits_78 : decode cX8_habits 78 = .ok (.iconst 1, 1) := by decide +kernel
theorem dX8_habits_79 : decode cX8_habits 79 = .ok (.istore_n 3, 1) := by decide +kernel
theorem dX8_habits_80 : decode cX8_habits 80 = .ok (.iload_n 3, 1) := by decide +kernel
theorem dX8_habits_81 : decode cX8_habits 81 = .ok (.aload_n 0, 1) := by decide +kernel
theorem dX8_habits_82 : decode cX8_habits 82 = .ok (.getfield 9, 3) := by decide +kernel
theorem dX8_habits_85 : decode cX8_habits 85 = .ok (.bipush 22, 2) := by decide +kernel
theorem dX8_habits_87 : decode cX8_habits 87 = .ok (.iaload, 1) := by decide +kernel
theorem dX8_habits_88 : decode cX8_habits 88 = .ok (.if_icmp .ge 25, 3) := by decide +kernel
theorem dX8_habits_91 : decode cX8_habits 91 = .ok (.iload_n 2, 1) := by decide +kernel
theorem dX8_habits_92 : decode cX8_habits 92 = .ok (.aload_n 0, 1) := by decide +kernel
theorem dX8_habits_93 : decode cX8_habits 93 = .ok (.iload_n 3, 1) := by decide +kernel
theorem dX8_habits_94 : decode cX8_habits 94 = .ok (.invokevirtual 241, 3) := by decide +kernel
theorem dX8_habits_97 : decode cX8_habits 97 = .ok (.ifCond .eq 7, 3) := by decide +kernel
theorem dX8_habits_100 : decode cX8_habits 100 = .ok (.iconst 1, 1) := by decide +kernel
theorem dX8_habits_101 : decode cX8_habits 101 = .ok (.goto 4, 3) := by decide +kernel
theorem dX8_habits_104 : decode cX8_habits 104 = .ok (.iconst 0, 1) := by decide +kernel
theorem dX8_habits_105 : decode cX8_habits 105 = .ok (.iadd, 1) := by decide +kernel
theorem dX8_habits_106 : decode cX8_habits 106 = .ok (.istore_n 2, 1) := by decide +kernel
theorem dX8_habits_107 : decode cX8_habits 107 = .ok (.iinc 3 1, 3) := by decide +kernel
theorem dX8_habits_110 : decode cX8_habits 110 = .ok (.goto (-30), 3) := by decide +kernel
theorem dX8_habits_113 : decode cX8_habits 113 = .ok (.iload_n 2, 1) := by decide +kernel
theorem dX8_habits_114 : decode cX8_habits 114 = .ok (.ireturn, 1) := by decide +kernel
theorem dX8_habits_115 : decode cX8_habits 115 = .ok (.iconst (-1), 1) := by decide +kernel
theorem dX8_habits_116 : decode cX8_habits 116 = .ok (.ireturn, 1) := by decide +kernel
def mR_habits_105 (N : Nat) (hd80 : ST → Int32 → Int32 → Int32 → Option (Int32 × ST)) (σ : ST) (x1 : Int32) (x2 : Int32) (x3 : Int32) (k0 : Int32) (k1 : Int32) : Option (Int32 × ST) :=
  zLet ((k0 : Int32) + k1) fun v105 =>
  zLet (x3 + (1)) fun v107 =>
  hd80 σ x1 v105 v107
set_option maxRecDepth 20000 in
set_option maxHeartbeats 2000000 in
theorem tR_habits_105 {adr : Nat → Nat} {cI cZ : ClassId} {X : zX} {q : Int32 × ST} (B : zC X 4 (wdR adr cI cZ) cX8_habits RX8 (some .int) { frames := 3, cells := 0, slots := 0, locals := 68 }) (N : Nat) (hd80 : ST → Int32 → Int32 → Int32 → Option (Int32 × ST)) (hh80 : ∀ (σ : ST) (x1 : Int32) (x2 : Int32) (x3 : Int32), hd80 σ x1 x2 x3 = some q → zJ X 4 (wdR adr cI cZ) (zi q) 80 [(0, .ref (adr 0)), (1, .int x1), (2, .int x2), (3, .int x3)] [] σ) (σ : ST) (x1 : Int32) (x2 : Int32) (x3 : Int32) (k0 : Int32) (k1 : Int32) (hf : mR_habits_105 N hd80 σ x1 x2 x3 k0 k1 = some q) : zJ X 4 (wdR adr cI cZ) (zi q) 105 [(0, .ref (adr 0)), (1, .int x1), (2, .int x2), (3, .int x3)] [.int k1, .int k0] σ := by
  refine z_iadd B dX8_habits_105 hf (fun v105 hf => ?_)
  refine z_istore_n B [(2, .int v105), (0, .ref (adr 0)), (1, .int x1), (3, .int x3)] dX8_habits_106 rfl (Nat.le_of_ble_eq_true rfl) rfl ?_
  refine z_iinc B (1) 3 (fun v107 => [(3, .int v107), (2, .int v105), (0, .ref (adr 0)), (1, .int x1)]) dX8_habits_107 hf zc_iconst_1 rfl (Nat.le_of_ble_eq_true rfl) (fun _ => rfl) (fun v107 hf => ?_)
  refine z_goto B 80 dX8_habits_110 (by decide) ?_
  exact z_loc [2, 3, 1, 0] _ rfl (hh80 σ x1 v105 v107 hf)
def mR_habits_B80 (N : Nat) (hd80 : ST → Int32 → Int32 → Int32 → Option (Int32 × ST)) (σ : ST) (x1 : Int32) (x2 : Int32) (x3 : Int32) : Option (Int32 × ST) :=
  zGet (σ 1) 1974 (22) fun v87 =>
  if (v87 : Int32) ≤ x3 then
    some (x2, σ)
  else
    zCall (mR_isNext N σ x3) fun v94 s94 =>
    if (v94 : Int32) = 0 then
      mR_habits_105 N hd80 s94 x1 x2 x3 x2 (0)
    else
      mR_habits_105 N hd80 s94 x1 x2 x3 x2 (1)
def mR_habits_80 (N : Nat) : ST → Int32 → Int32 → Int32 → Option (Int32 × ST) := zIt (mR_habits_B80 N) (fun _ _ _ _ => none) N
set_option maxRecDepth 20000 in
set_option maxHeartbeats 2000000 in
theorem tR_habits_80 {adr : Nat → Nat} {cI cZ : ClassId} {X : zX} {q : Int32 × ST} (B : zC X 4 (wdR adr cI cZ) cX8_habits RX8 (some .int) { frames := 3, cells := 0, slots := 0, locals := 68 }) (N : Nat) : ∀ (σ : ST) (x1 : Int32) (x2 : Int32) (x3 : Int32), mR_habits_80 N σ x1 x2 x3 = some q → zJ X 4 (wdR adr cI cZ) (zi q) 80 [(0, .ref (adr 0)), (1, .int x1), (2, .int x2), (3, .int x3)] [] σ := by
  refine zIt_ind (P := fun (hd : ST → Int32 → Int32 → Int32 → Option (Int32 × ST)) => ∀ (σ : ST) (x1 : Int32) (x2 : Int32) (x3 : Int32), hd σ x1 x2 x3 = some q → zJ X 4 (wdR adr cI cZ) (zi q) 80 [(0, .ref (adr 0)), (1, .int x1), (2, .int x2), (3, .int x3)] [] σ) (fun _ _ _ _ hf => by cases hf) (fun hd80 hh80 => ?_) N
  intro σ x1 x2 x3 hf
  refine z_iload_n B dX8_habits_80 3 rfl rfl ?_
  refine z_aload_n B dX8_habits_81 0 rfl rfl ?_
  refine fR_g_row B dX8_habits_82 ?_
  refine z_bipush B (22) dX8_habits_85 zc_bipush_22 ?_
  refine fR_l_row B dX8_habits_87 hf (fun v87 hf => ?_)
  refine z_icmp_ge B 113 dX8_habits_88 (by decide) hf (fun hf => ?_) (fun hf => ?_)
  · refine z_iload_n B dX8_habits_113 2 rfl rfl ?_
    exact z_ireturn B dX8_habits_114 hf
  · refine z_iload_n B dX8_habits_91 2 rfl rfl ?_
    refine z_aload_n B dX8_habits_92 0 rfl rfl ?_
    refine z_iload_n B dX8_habits_93 3 rfl rfl ?_
    refine z_callVi B (As := [.int x3]) kcV_X8_241 dX8_habits_94 hf (fun q hq => cR_isNext q hq) (wR_o (adr := adr) (cI := cI) (cZ := cZ)) rfl rfl rfl rfl (Nat.le_of_ble_eq_true rfl) rfl rfl ⟨Nat.le_of_ble_eq_true rfl, Nat.le_of_ble_eq_true rfl⟩ (fun v94 s94 hf => ?_)
    refine z_if_eq B 104 dX8_habits_97 (by decide) hf (fun hf => ?_) (fun hf => ?_)
    · refine z_iconst B (0) dX8_habits_104 zc_iconst_0 ?_
      exact tR_habits_105 B N hd80 hh80 s94 x1 x2 x3 x2 (0) hf
    · refine z_iconst B (1) dX8_habits_100 zc_iconst_1 ?_
      refine z_goto B 105 dX8_habits_101 (by decide) ?_
      exact tR_habits_105 B N hd80 hh80 s94 x1 x2 x3 x2 (1) hf
def mR_habits (N : Nat) (σ : ST) (x1 : Int32) : Option (Int32 × ST) :=
  zLet (zUp σ 0 0 (0)) fun s2 =>
  zGet (s2 1) 1974 (22) fun v11 =>
  if (v11 : Int32) = 0 then
    some ((-1), s2)
  else
    if (x1 : Int32) = (0) then
      zCall (mR_unlikeBlocks N s2) fun v53 s53 =>
      some (v53, s53)
    else
    if (x1 : Int32) = (1) then
      zCall (mR_between N s2) fun v58 s58 =>
      some (v58, s58)
    else
    if (x1 : Int32) = (2) then
      zCall (mR_mostRead N s2) fun v63 s63 =>
      some (v63, s63)
    else
    if (x1 : Int32) = (3) then
      zCall (mR_mostRead N s2) fun v69 s69 =>
      zCall (mR_timesRead N s69 v69) fun v72 s72 =>
      some (v72, s72)
    else
    if (x1 : Int32) = (4) then
      mR_habits_80 N s2 x1 (0) (1)
    else
      some ((-1), s2)
set_option maxRecDepth 20000 in
set_option maxHeartbeats 2000000 in
theorem cR_habits {adr : Nat → Nat} {cI cZ : ClassId} {l : Launch} {D : va_G} {N : Nat} {σ : ST} {x1 : Int32} (q : Int32 × ST) (hf : mR_habits N σ x1 = some q) : zM l D (wdR adr cI cZ) yX8_habits cX8_habits 4 (some .int) ({ frames := 3, cells := 0, slots := 0, locals := 68 }) [.ref (adr 0), .int x1] σ (zi q) := by
  refine zM_of sfR_ok rfl (Nat.le_of_ble_eq_true rfl) [(0, .ref (adr 0)), (1, .int x1)] rfl (fun X hX1 hX2 B => ?_)
  have B : zC X 4 (wdR adr cI cZ) cX8_habits RX8 (some .int) { frames := 3, cells := 0, slots := 0, locals := 68 } := B
  refine z_aload_n B dX8_habits_0 0 rfl rfl ?_
  refine z_iconst B (0) dX8_habits_1 zc_iconst_0 ?_
  refine fR_p_thrown B dX8_habits_2 hf (fun s2 hf => ?_)
  refine z_aload_n B dX8_habits_5 0 rfl rfl ?_
  refine fR_g_row B dX8_habits_6 ?_
  refine z_bipush B (22) dX8_habits_9 zc_bipush_22 ?_
  refine fR_l_row B dX8_habits_11 hf (fun v11 hf => ?_)
  refine z_if_ne B 17 dX8_habits_12 (by decide) hf (fun hf => ?_) (fun hf => ?_)
  · refine z_iload_n B dX8_habits_17 1 rfl rfl ?_
    by_cases h18_0 : x1 = (0)
    · replace hf := zIfp h18_0 hf
      refine z_tabIn B (off := 34) 52 dX8_habits_18 (by rw [h18_0]; decide) (by rw [h18_0]; decide) (by rw [h18_0]; decide) (by decide) ?_
      refine z_aload_n B dX8_habits_52 0 rfl rfl ?_
      refine z_callVi B (As := []) kcV_X8_252 dX8_habits_53 hf (fun q hq => cR_unlikeBlocks q hq) (wR_o (adr := adr) (cI := cI) (cZ := cZ)) rfl rfl rfl rfl (Nat.le_of_ble_eq_true rfl) rfl rfl ⟨Nat.le_of_ble_eq_true rfl, Nat.le_of_ble_eq_true rfl⟩ (fun v53 s53 hf => ?_)
      exact z_ireturn B dX8_habits_56 hf
    replace hf := zIfn h18_0 hf
    by_cases h18_1 : x1 = (1)
    · replace hf := zIfp h18_1 hf
      refine z_tabIn B (off := 39) 57 dX8_habits_18 (by rw [h18_1]; decide) (by rw [h18_1]; decide) (by rw [h18_1]; decide) (by decide) ?_
      refine z_aload_n B dX8_habits_57 0 rfl rfl ?_
      refine z_callVi B (As := []) kcV_X8_255 dX8_habits_58 hf (fun q hq => cR_between q hq) (wR_o (adr := adr) (cI := cI) (cZ := cZ)) rfl rfl rfl rfl (Nat.le_of_ble_eq_true rfl) rfl rfl ⟨Nat.le_of_ble_eq_true rfl, Nat.le_of_ble_eq_true rfl⟩ (fun v58 s58 hf => ?_)
      exact z_ireturn B dX8_habits_61 hf
    replace hf := zIfn h18_1 hf
    by_cases h18_2 : x1 = (2)
    · replace hf := zIfp h18_2 hf
      refine z_tabIn B (off := 44) 62 dX8_habits_18 (by rw [h18_2]; decide) (by rw [h18_2]; decide) (by rw [h18_2]; decide) (by decide) ?_
      refine z_aload_n B dX8_habits_62 0 rfl rfl ?_
      refine z_callVi B (As := []) kcV_X8_258 dX8_habits_63 hf (fun q hq => cR_mostRead q hq) (wR_o (adr := adr) (cI := cI) (cZ := cZ)) rfl rfl rfl rfl (Nat.le_of_ble_eq_true rfl) rfl rfl ⟨Nat.le_of_ble_eq_true rfl, Nat.le_of_ble_eq_true rfl⟩ (fun v63 s63 hf => ?_)
      exact z_ireturn B dX8_habits_66 hf
    replace hf := zIfn h18_2 hf
    by_cases h18_3 : x1 = (3)
    · replace hf := zIfp h18_3 hf
      refine z_tabIn B (off := 49) 67 dX8_habits_18 (by rw [h18_3]; decide) (by rw [h18_3]; decide) (by rw [h18_3]; decide) (by decide) ?_
      refine z_aload_n B dX8_habits_67 0 rfl rfl ?_
      refine z_aload_n B dX8_habits_68 0 rfl rfl ?_
      refine z_callVi B (As := []) kcV_X8_258 dX8_habits_69 hf (fun q hq => cR_mostRead q hq) (wR_o (adr := adr) (cI := cI) (cZ := cZ)) rfl rfl rfl rfl (Nat.le_of_ble_eq_true rfl) rfl rfl ⟨Nat.le_of_ble_eq_true rfl, Nat.le_of_ble_eq_true rfl⟩ (fun v69 s69 hf => ?_)
      refine z_callVi B (As := [.int v69]) kcV_X8_249 dX8_habits_72 hf (fun q hq => cR_timesRead q hq) (wR_o (adr := adr) (cI := cI) (cZ := cZ)) rfl rfl rfl rfl (Nat.le_of_ble_eq_true rfl) rfl rfl ⟨Nat.le_of_ble_eq_true rfl, Nat.le_of_ble_eq_true rfl⟩ (fun v72 s72 hf => ?_)
      exact z_ireturn B dX8_habits_75 hf
    replace hf := zIfn h18_3 hf
    by_cases h18_4 : x1 = (4)
    · replace hf := zIfp h18_4 hf
      refine z_tabIn B (off := 58) 76 dX8_habits_18 (by rw [h18_4]; decide) (by rw [h18_4]; decide) (by rw [h18_4]; decide) (by decide) ?_
      refine z_iconst B (0) dX8_habits_76 zc_iconst_0 ?_
      refine z_istore_n B [(2, .int (0)), (0, .ref (adr 0)), (1, .int x1)] dX8_habits_77 rfl (Nat.le_of_ble_eq_true rfl) rfl ?_
      refine z_iconst B (1) dX8_habits_78 zc_iconst_1 ?_
      refine z_istore_n B [(3, .int (1)), (2, .int (0)), (0, .ref (adr 0)), (1, .int x1)] dX8_habits_79 rfl (Nat.le_of_ble_eq_true rfl) rfl ?_
      exact z_loc [2, 3, 1, 0] _ rfl (tR_habits_80 B N s2 x1 (0) (1) hf)
    replace hf := zIfn h18_4 hf
    have kd18 : zJ X 4 (wdR adr cI cZ) (zi q) 115 [(0, .ref (adr 0)), (1, .int x1)] [] s2 := by
      refine z_iconst B (-1) dX8_habits_115 zc_iconst_m1 ?_
      exact z_ireturn B dX8_habits_116 hf
    by_cases ho18 : x1.toInt < 0 ∨ 4 < x1.toInt
    · exact z_tabOut B 115 dX8_habits_18 ho18 (by decide) kd18
    · have e0 : x1.toInt ≠ 0 := z_ne h18_0 (by decide)
      have e1 : x1.toInt ≠ 1 := z_ne h18_1 (by decide)
      have e2 : x1.toInt ≠ 2 := z_ne h18_2 (by decide)
      have e3 : x1.toInt ≠ 3 := z_ne h18_3 (by decide)
      have e4 : x1.toInt ≠ 4 := z_ne h18_4 (by decide)
      exfalso
      omega
  · refine z_iconst B (-1) dX8_habits_15 zc_iconst_m1 ?_
    exact z_ireturn B dX8_habits_16 hf
def mR_copy_aside_row_B3 (N : Nat) (hd3 : ST → Int32 → Int32 → Int32 → Option (ST)) (σ : ST) (x1 : Int32) (x3 : Int32) (x4 : Int32) : Option (ST) :=
  if ((1974) : Int32) ≤ x4 then
    some σ
  else
    zLet ((x3 : Int32) + x4) fun v15 =>
    zLet ((x1 : Int32) + x4) fun v20 =>
    zGet (σ 2) 1974 v20 fun v21 =>
    zSet σ 1 1974 v15 v21 fun s22 =>
    zLet (x4 + (1)) fun v23 =>
    hd3 s22 x1 x3 v23
def mR_copy_aside_row_3 (N : Nat) : ST → Int32 → Int32 → Int32 → Option (ST) := zIt (mR_copy_aside_row_B3 N) (fun _ _ _ _ => none) N
set_option maxRecDepth 20000 in
set_option maxHeartbeats 2000000 in
theorem tR_copy_aside_row_3 {adr : Nat → Nat} {cI cZ : ClassId} {X : zX} {q : ST} (B : zC X 5 (wdR adr cI cZ) cX8_copy RX8 none { frames := 0, cells := 0, slots := 0, locals := 0 }) (N : Nat) : ∀ (σ : ST) (x1 : Int32) (x3 : Int32) (x4 : Int32), mR_copy_aside_row_3 N σ x1 x3 x4 = some q → zJ X 5 (wdR adr cI cZ) (zu q) 3 [(0, .ref (adr 2)), (1, .int x1), (2, .ref (adr 1)), (3, .int x3), (4, .int x4)] [] σ := by
  refine zIt_ind (P := fun (hd : ST → Int32 → Int32 → Int32 → Option (ST)) => ∀ (σ : ST) (x1 : Int32) (x3 : Int32) (x4 : Int32), hd σ x1 x3 x4 = some q → zJ X 5 (wdR adr cI cZ) (zu q) 3 [(0, .ref (adr 2)), (1, .int x1), (2, .ref (adr 1)), (3, .int x3), (4, .int x4)] [] σ) (fun _ _ _ _ hf => by cases hf) (fun hd3 hh3 => ?_) N
  intro σ x1 x3 x4 hf
  refine z_iload B dX8_copy_3 4 rfl ?_
  refine z_sipush B (1974) dX8_copy_5 zc_sipush_1974 ?_
  refine z_icmp_ge B 29 dX8_copy_8 (by decide) hf (fun hf => ?_) (fun hf => ?_)
  · exact z_return B dX8_copy_29 hf
  · refine z_aload_n B dX8_copy_11 2 rfl rfl ?_
    refine z_iload_n B dX8_copy_12 3 rfl rfl ?_
    refine z_iload B dX8_copy_13 4 rfl ?_
    refine z_iadd B dX8_copy_15 hf (fun v15 hf => ?_)
    refine z_aload_n B dX8_copy_16 0 rfl rfl ?_
    refine z_iload_n B dX8_copy_17 1 rfl rfl ?_
    refine z_iload B dX8_copy_18 4 rfl ?_
    refine z_iadd B dX8_copy_20 hf (fun v20 hf => ?_)
    refine fR_l_aside B dX8_copy_21 hf (fun v21 hf => ?_)
    refine fR_s_row B dX8_copy_22 hf (fun s22 hf => ?_)
    refine z_iinc B (1) 4 (fun v23 => [(4, .int v23), (0, .ref (adr 2)), (1, .int x1), (2, .ref (adr 1)), (3, .int x3)]) dX8_copy_23 hf zc_iconst_1 rfl (Nat.le_of_ble_eq_true rfl) (fun _ => rfl) (fun v23 hf => ?_)
    refine z_goto B 3 dX8_copy_26 (by decide) ?_
    exact z_loc [1, 2, 3, 4, 0] _ rfl (hh3 s22 x1 x3 v23 hf)
def mR_copy_aside_row (N : Nat) (σ : ST) (x1 : Int32) (x3 : Int32) : Option (ST) :=
  mR_copy_aside_row_3 N σ x1 x3 (0)
set_option maxRecDepth 20000 in
set_option maxHeartbeats 2000000 in
theorem cR_copy_aside_row {adr : Nat → Nat} {cI cZ : ClassId} {l : Launch} {D : va_G} {N : Nat} {σ : ST} {x1 : Int32} {x3 : Int32} (q : ST) (hf : mR_copy_aside_row N σ x1 x3 = some q) : zM l D (wdR adr cI cZ) yX8_copy cX8_copy 5 none ({ frames := 0, cells := 0, slots := 0, locals := 0 }) [.ref (adr 2), .int x1, .ref (adr 1), .int x3] σ (zu q) := by
  refine zM_of sfR_ok rfl (Nat.le_of_ble_eq_true rfl) [(0, .ref (adr 2)), (1, .int x1), (2, .ref (adr 1)), (3, .int x3)] rfl (fun X hX1 hX2 B => ?_)
  have B : zC X 5 (wdR adr cI cZ) cX8_copy RX8 none { frames := 0, cells := 0, slots := 0, locals := 0 } := B
  refine z_iconst B (0) dX8_copy_0 zc_iconst_0 ?_
  refine z_istore B [(4, .int (0)), (0, .ref (adr 2)), (1, .int x1), (2, .ref (adr 1)), (3, .int x3)] dX8_copy_1 (Nat.le_of_ble_eq_true rfl) rfl ?_
  exact z_loc [1, 2, 3, 4, 0] _ rfl (tR_copy_aside_row_3 B N σ x1 x3 (0) hf)
theorem dX8_endThought_0 : decode cX8_endThought 0 = .ok (.aload_n 0, 1) := by decide +kernel
theorem dX8_endThought_1 : decode cX8_endThought 1 = .ok (.getfield 15, 3) := by decide +kernel
theorem dX8_endThought_4 : decode cX8_endThought 4 = .ok (.iconst 0, 1) := by decide +kernel
theorem dX8_endThought_5 : decode cX8_endThought 5 = .ok (.aload_n 0, 1) := by decide +kernel
theorem dX8_endThought_6 : decode cX8_endThought 6 = .ok (.getfield 9, 3) := by decide +kernel
theorem dX8_endThought_9 : decode cX8_endThought 9 = .ok (.iconst 0, 1) := by decide +kernel
theorem dX8_endThought_10 : decode cX8_endThought 10 = .ok (.invokestatic 75, 3) := by decide +kernel
theorem dX8_endThought_13 : decode cX8_endThought 13 = .ok (.return_, 1) := by decide +kernel
def mR_endThought (N : Nat) (σ : ST) : Option (ST) :=
  zCallu (mR_copy_aside_row N σ (0) (0)) fun s10 =>
  some s10
set_option maxRecDepth 20000 in
set_option maxHeartbeats 2000000 in
theorem cR_endThought {adr : Nat → Nat} {cI cZ : ClassId} {l : Launch} {D : va_G} {N : Nat} {σ : ST} (q : ST) (hf : mR_endThought N σ = some q) : zM l D (wdR adr cI cZ) yX8_endThought cX8_endThought 1 none ({ frames := 1, cells := 0, slots := 0, locals := 24 }) [.ref (adr 0)] σ (zu q) := by
  refine zM_of sfR_ok rfl (Nat.le_of_ble_eq_true rfl) [(0, .ref (adr 0))] rfl (fun X hX1 hX2 B => ?_)
  have B : zC X 1 (wdR adr cI cZ) cX8_endThought RX8 none { frames := 1, cells := 0, slots := 0, locals := 24 } := B
  refine z_aload_n B dX8_endThought_0 0 rfl rfl ?_
  refine fR_g_aside B dX8_endThought_1 ?_
  refine z_iconst B (0) dX8_endThought_4 zc_iconst_0 ?_
  refine z_aload_n B dX8_endThought_5 0 rfl rfl ?_
  refine fR_g_row B dX8_endThought_6 ?_
  refine z_iconst B (0) dX8_endThought_9 zc_iconst_0 ?_
  refine z_callSu B (As := [.ref (adr 2), .int (0), .ref (adr 1), .int (0)]) kcS_X8_75 dX8_endThought_10 hf (fun q hq => cR_copy_aside_row q hq) rfl rfl (Nat.le_of_ble_eq_true rfl) rfl rfl ⟨Nat.le_of_ble_eq_true rfl, Nat.le_of_ble_eq_true rfl⟩ (fun s10 hf => ?_)
  exact z_return B dX8_endThought_13 hf
def mR_copy_row_aside_B3 (N : Nat) (hd3 : ST → Int32 → Int32 → Int32 → Option (ST)) (σ : ST) (x1 : Int32) (x3 : Int32) (x4 : Int32) : Option (ST) :=
  if ((1974) : Int32) ≤ x4 then
    some σ
  else
    zLet ((x3 : Int32) + x4) fun v15 =>
    zLet ((x1 : Int32) + x4) fun v20 =>
    zGet (σ 1) 1974 v20 fun v21 =>
    zSet σ 2 1974 v15 v21 fun s22 =>
    zLet (x4 + (1)) fun v23 =>
    hd3 s22 x1 x3 v23
def mR_copy_row_aside_3 (N : Nat) : ST → Int32 → Int32 → Int32 → Option (ST) := zIt (mR_copy_row_aside_B3 N) (fun _ _ _ _ => none) N
set_option maxRecDepth 20000 in
set_option maxHeartbeats 2000000 in
theorem tR_copy_row_aside_3 {adr : Nat → Nat} {cI cZ : ClassId} {X : zX} {q : ST} (B : zC X 5 (wdR adr cI cZ) cX8_copy RX8 none { frames := 0, cells := 0, slots := 0, locals := 0 }) (N : Nat) : ∀ (σ : ST) (x1 : Int32) (x3 : Int32) (x4 : Int32), mR_copy_row_aside_3 N σ x1 x3 x4 = some q → zJ X 5 (wdR adr cI cZ) (zu q) 3 [(0, .ref (adr 1)), (1, .int x1), (2, .ref (adr 2)), (3, .int x3), (4, .int x4)] [] σ := by
  refine zIt_ind (P := fun (hd : ST → Int32 → Int32 → Int32 → Option (ST)) => ∀ (σ : ST) (x1 : Int32) (x3 : Int32) (x4 : Int32), hd σ x1 x3 x4 = some q → zJ X 5 (wdR adr cI cZ) (zu q) 3 [(0, .ref (adr 1)), (1, .int x1), (2, .ref (adr 2)), (3, .int x3), (4, .int x4)] [] σ) (fun _ _ _ _ hf => by cases hf) (fun hd3 hh3 => ?_) N
  intro σ x1 x3 x4 hf
  refine z_iload B dX8_copy_3 4 rfl ?_
  refine z_sipush B (1974) dX8_copy_5 zc_sipush_1974 ?_
  refine z_icmp_ge B 29 dX8_copy_8 (by decide) hf (fun hf => ?_) (fun hf => ?_)
  · exact z_return B dX8_copy_29 hf
  · refine z_aload_n B dX8_copy_11 2 rfl rfl ?_
    refine z_iload_n B dX8_copy_12 3 rfl rfl ?_
    refine z_iload B dX8_copy_13 4 rfl ?_
    refine z_iadd B dX8_copy_15 hf (fun v15 hf => ?_)
    refine z_aload_n B dX8_copy_16 0 rfl rfl ?_
    refine z_iload_n B dX8_copy_17 1 rfl rfl ?_
    refine z_iload B dX8_copy_18 4 rfl ?_
    refine z_iadd B dX8_copy_20 hf (fun v20 hf => ?_)
    refine fR_l_row B dX8_copy_21 hf (fun v21 hf => ?_)
    refine fR_s_aside B dX8_copy_22 hf (fun s22 hf => ?_)
    refine z_iinc B (1) 4 (fun v23 => [(4, .int v23), (0, .ref (adr 1)), (1, .int x1), (2, .ref (adr 2)), (3, .int x3)]) dX8_copy_23 hf zc_iconst_1 rfl (Nat.le_of_ble_eq_true rfl) (fun _ => rfl) (fun v23 hf => ?_)
    refine z_goto B 3 dX8_copy_26 (by decide) ?_
    exact z_loc [1, 2, 3, 4, 0] _ rfl (hh3 s22 x1 x3 v23 hf)
def mR_copy_row_aside (N : Nat) (σ : ST) (x1 : Int32) (x3 : Int32) : Option (ST) :=
  mR_copy_row_aside_3 N σ x1 x3 (0)
set_option maxRecDepth 20000 in
set_option maxHeartbeats 2000000 in
theorem cR_copy_row_aside {adr : Nat → Nat} {cI cZ : ClassId} {l : Launch} {D : va_G} {N : Nat} {σ : ST} {x1 : Int32} {x3 : Int32} (q : ST) (hf : mR_copy_row_aside N σ x1 x3 = some q) : zM l D (wdR adr cI cZ) yX8_copy cX8_copy 5 none ({ frames := 0, cells := 0, slots := 0, locals := 0 }) [.ref (adr 1), .int x1, .ref (adr 2), .int x3] σ (zu q) := by
  refine zM_of sfR_ok rfl (Nat.le_of_ble_eq_true rfl) [(0, .ref (adr 1)), (1, .int x1), (2, .ref (adr 2)), (3, .int x3)] rfl (fun X hX1 hX2 B => ?_)
  have B : zC X 5 (wdR adr cI cZ) cX8_copy RX8 none { frames := 0, cells := 0, slots := 0, locals := 0 } := B
  refine z_iconst B (0) dX8_copy_0 zc_iconst_0 ?_
  refine z_istore B [(4, .int (0)), (0, .ref (adr 1)), (1, .int x1), (2, .ref (adr 2)), (3, .int x3)] dX8_copy_1 (Nat.le_of_ble_eq_true rfl) rfl ?_
  exact z_loc [1, 2, 3, 4, 0] _ rfl (tR_copy_row_aside_3 B N σ x1 x3 (0) hf)
theorem dX8_think_0 : decode cX8_think 0 = .ok (.aload_n 0, 1) := by decide +kernel
theorem dX8_think_1 : decode cX8_think 1 = .ok (.getfield 9, 3) := by decide +kernel
theorem dX8_think_4 : decode cX8_think 4 = .ok (.iconst 0, 1) := by decide +kernel
theorem dX8_think_5 : decode cX8_think 5 = .ok (.aload_n 0, 1) := by decide +kernel
theorem dX8_think_6 : decode cX8_think 6 = .ok (.getfield 15, 3) := by decide +kernel
theorem dX8_think_9 : decode cX8_think 9 = .ok (.iconst 0, 1) := by decide +kernel
theorem dX8_think_10 : decode cX8_think 10 = .ok (.invokestatic 75, 3) := by decide +kernel
theorem dX8_think_13 : decode cX8_think 13 = .ok (.return_, 1) := by decide +kernel
def mR_think (N : Nat) (σ : ST) : Option (ST) :=
  zCallu (mR_copy_row_aside N σ (0) (0)) fun s10 =>
  some s10
set_option maxRecDepth 20000 in
set_option maxHeartbeats 2000000 in
theorem cR_think {adr : Nat → Nat} {cI cZ : ClassId} {l : Launch} {D : va_G} {N : Nat} {σ : ST} (q : ST) (hf : mR_think N σ = some q) : zM l D (wdR adr cI cZ) yX8_think cX8_think 1 none ({ frames := 1, cells := 0, slots := 0, locals := 24 }) [.ref (adr 0)] σ (zu q) := by
  refine zM_of sfR_ok rfl (Nat.le_of_ble_eq_true rfl) [(0, .ref (adr 0))] rfl (fun X hX1 hX2 B => ?_)
  have B : zC X 1 (wdR adr cI cZ) cX8_think RX8 none { frames := 1, cells := 0, slots := 0, locals := 24 } := B
  refine z_aload_n B dX8_think_0 0 rfl rfl ?_
  refine fR_g_row B dX8_think_1 ?_
  refine z_iconst B (0) dX8_think_4 zc_iconst_0 ?_
  refine z_aload_n B dX8_think_5 0 rfl rfl ?_
  refine fR_g_aside B dX8_think_6 ?_
  refine z_iconst B (0) dX8_think_9 zc_iconst_0 ?_
  refine z_callSu B (As := [.ref (adr 1), .int (0), .ref (adr 2), .int (0)]) kcS_X8_75 dX8_think_10 hf (fun q hq => cR_copy_row_aside q hq) rfl rfl (Nat.le_of_ble_eq_true rfl) rfl rfl ⟨Nat.le_of_ble_eq_true rfl, Nat.le_of_ble_eq_true rfl⟩ (fun s10 hf => ?_)
  exact z_return B dX8_think_13 hf
theorem dX8_would_0 : decode cX8_would 0 = .ok (.aload_n 0, 1) := by decide +kernel
theorem dX8_would_1 : decode cX8_would 1 = .ok (.iconst 0, 1) := by decide +kernel
theorem dX8_would_2 : decode cX8_would 2 = .ok (.putfield 67, 3) := by decide +kernel
theorem dX8_would_5 : decode cX8_would 5 = .ok (.aload_n 0, 1) := by decide +kernel
theorem dX8_would_6 : decode cX8_would 6 = .ok (.iload_n 1, 1) := by decide +kernel
theorem dX8_would_7 : decode cX8_would 7 = .ok (.invokevirtual 132, 3) := by decide +kernel
theorem dX8_would_10 : decode cX8_would 10 = .ok (.ifCond .eq 15, 3) := by decide +kernel
theorem dX8_would_13 : decode cX8_would 13 = .ok (.iload_n 2, 1) := by decide +kernel
theorem dX8_would_14 : decode cX8_would 14 = .ok (.i2l, 1) := by decide +kernel
theorem dX8_would_15 : decode cX8_would 15 = .ok (.lconst 0, 1) := by decide +kernel
theorem dX8_would_16 : decode cX8_would 16 = .ok (.ldc2_w 220, 3) := by decide +kernel
theorem dX8_would_19 : decode cX8_would 19 = .ok (.invokestatic 71, 3) := by decide +kernel
theorem dX8_would_22 : decode cX8_would 22 = .ok (.ifCond .ne 5, 3) := by decide +kernel
theorem dX8_would_25 : decode cX8_would 25 = .ok (.iconst (-1), 1) := by decide +kernel
theorem dX8_would_26 : decode cX8_would 26 = .ok (.ireturn, 1) := by decide +kernel
theorem dX8_would_27 : decode cX8_would 27 = .ok (.aload_n 0, 1) := by decide +kernel
theorem dX8_would_28 : decode cX8_would 28 = .ok (.invokevirtual 261, 3) := by decide +kernel
theorem dX8_would_31 : decode cX8_would 31 = .ok (.aload_n 0, 1) := by decide +kernel
theorem dX8_would_32 : decode cX8_would 32 = .ok (.iload_n 1, 1) := by decide +kernel
theorem dX8_would_33 : decode cX8_would 33 = .ok (.invokevirtual 197, 3) := by decide +kernel
theorem dX8_would_36 : decode cX8_would 36 = .ok (.bipush (-2), 2) := by decide +kernel
theorem dX8_would_38 : decode cX8_would 38 = .ok (.if_icmp .ne 7, 3) := by decide +kernel
theorem dX8_would_41 : decode cX8_would 41 = .ok (.iconst 1, 1) := by decide +kernel
theorem dX8_would_42 : decode cX8_would 42 = .ok (.goto 4, 3) := by decide +kernel
theorem dX8_would_45 : decode cX8_would 45 = .ok (.iconst 0, 1) := by decide +kernel
theorem dX8_would_46 : decode cX8_would 46 = .ok (.istore_n 3, 1) := by decide +kernel
theorem dX8_would_47 : decode cX8_would 47 = .ok (.aload_n 0, 1) := by decide +kernel
theorem dX8_would_48 : decode cX8_would 48 = .ok (.getfield 9, 3) := by decide +kernel
theorem dX8_would_51 : decode cX8_would 51 = .ok (.bipush 11, 2) := by decide +kernel
theorem dX8_would_53 : decode cX8_would 53 = .ok (.iaload, 1) := by decide +kernel
theorem dX8_would_54 : decode cX8_would 54 = .ok (.aload_n 0, 1) := by decide +kernel
theorem dX8_would_55 : decode cX8_would 55 = .ok (.getfield 15, 3) := by decide +kernel
theorem dX8_would_58 : decode cX8_would 58 = .ok (.bipush 11, 2) := by decide +kernel
theorem dX8_would_60 : decode cX8_would 60 = .ok (.iaload, 1) := by decide +kernel
theorem dX8_would_61 : decode cX8_would 61 = .ok (.if_icmp .le 7, 3) := by decide +kernel
theorem dX8_would_64 : decode cX8_would 64 = .ok (.iconst 1, 1) := by decide +kernel
theorem dX8_would_65 : decode cX8_would 65 = .ok (.goto 4, 3) := by decide +kernel
theorem dX8_would_68 : decode cX8_would 68 = .ok (.iconst 0, 1) := by decide +kernel
theorem dX8_would_69 : decode cX8_would 69 = .ok (.istore 4, 2) := by decide +kernel
theorem dX8_would_71 : decode cX8_would 71 = .ok (.aload_n 0, 1) := by decide +kernel
theorem dX8_would_72 : decode cX8_would 72 = .ok (.invokevirtual 264, 3) := by decide +kernel
theorem dX8_would_75 : decode cX8_would 75 = .ok (.iload_n 2, 1) := by decide +kernel
theorem dX8_would_76 : decode cX8_would 76 = .ok (.tableswitch 98 0 4 #[36, 49, 60, 88, 93], 36) := by decide +kernel
theorem dX8_would_112 : decode cX8_would 112 = .ok (.iload_n 3, 1) := by decide +kernel
theorem dX8_would_113 : decode cX8_would 113 = .ok (.ifCond .eq 7, 3) := by decide +kernel
theorem dX8_would_116 : decode cX8_would 116 = .ok (.iconst 0, 1) := by decide +kernel
theorem dX8_would_117 : decode cX8_would 117 = .ok (.goto 7, 3) := by decide +kernel
theorem dX8_would_120 : decode cX8_would 120 = .ok (.aload_n 0, 1) := by decide +kernel
theorem dX8_would_121 : decode cX8_would 121 = .ok (.getfield 170, 3) := by decide +kernel
theorem dX8_would_124 : decode cX8_would 124 = .ok (.ireturn, 1) := by decide +kernel
theorem dX8_would_125 : decode cX8_would 125 = .ok (.iload 4, 2) := by decide +kernel
theorem dX8_would_127 : decode cX8_would 127 = .ok (.ifCond .eq 7, 3) := by decide +kernel
theorem dX8_would_130 : decode cX8_would 130 = .ok (.iconst 1, 1) := by decide +kernel
theorem dX8_would_131 : decode cX8_would 131 = .ok (.goto 4, 3) := by decide +kernel
theorem dX8_would_134 : decode cX8_would 134 = .ok (.iconst 0, 1) := by decide +kernel
theorem dX8_would_135 : decode cX8_would 135 = .ok (.ireturn, 1) := by decide +kernel
theorem dX8_would_136 : decode cX8_would 136 = .ok (.iload_n 3, 1) := by decide +kernel
theorem dX8_would_137 : decode cX8_would 137 = .ok (.ifCond .ne 11, 3) := by decide +kernel
theorem dX8_would_140 : decode cX8_would 140 = .ok (.aload_n 0, 1) := by decide +kernel
theorem dX8_would_141 : decode cX8_would 141 = .ok (.getfield 167, 3) := by decide +kernel
theorem dX8_would_144 : decode cX8_would 144 = .ok (.iconst (-1), 1) := by decide +kernel
theorem dX8_would_145 : decode cX8_would 145 = .ok (.if_icmp .ne 7, 3) := by decide +kernel
theorem dX8_would_148 : decode cX8_would 148 = .ok (.iconst (-1), 1) := by decide +kernel
theorem dX8_would_149 : decode cX8_would 149 = .ok (.goto 14, 3) := by decide +kernel
theorem dX8_would_152 : decode cX8_would 152 = .ok (.aload_n 0, 1) := by decide +kernel
theorem dX8_would_153 : decode cX8_would 153 = .ok (.getfield 167, 3) := by decide +kernel
theorem dX8_would_156 : decode cX8_would 156 = .ok (.sipush 542, 3) := by decide +kernel
theorem dX8_would_159 : decode cX8_would 159 = .ok (.isub, 1) := by decide +kernel
theorem dX8_would_160 : decode cX8_would 160 = .ok (.bipush 12, 2) := by decide +kernel
theorem dX8_would_162 : decode cX8_would 162 = .ok (.idiv, 1) := by decide +kernel
theorem dX8_would_163 : decode cX8_would 163 = .ok (.ireturn, 1) := by decide +kernel
theorem dX8_would_164 : decode cX8_would 164 = .ok (.aload_n 0, 1) := by decide +kernel
theorem dX8_would_165 : decode cX8_would 165 = .ok (.getfield 127, 3) := by decide +kernel
theorem dX8_would_168 : decode cX8_would 168 = .ok (.ireturn, 1) := by decide +kernel
theorem dX8_would_169 : decode cX8_would 169 = .ok (.aload_n 0, 1) := by decide +kernel
theorem dX8_would_170 : decode cX8_would 170 = .ok (.getfield 139, 3) := by decide +kernel
theorem dX8_would_173 : decode cX8_would 173 = .ok (.ireturn, 1) := by decide +kernel
theorem dX8_would_174 : decode cX8_would 174 = .ok (.aload_n 0, 1) := by decide +kernel
theorem dX8_would_175 : decode cX8_would 175 = .ok (.getfield 92, 3) := by decide +kernel
theorem dX8_would_178 : decode cX8_would 178 = .ok (.ireturn, 1) := by decide +kernel
def mR_would_163 (N : Nat) (σ : ST) (x1 : Int32) (x2 : Int32) (x3 : Int32) (x4 : Int32) (k0 : Int32) : Option (Int32 × ST) :=
  some (k0, σ)
set_option maxRecDepth 20000 in
set_option maxHeartbeats 2000000 in
theorem tR_would_163 {adr : Nat → Nat} {cI cZ : ClassId} {X : zX} {q : Int32 × ST} (B : zC X 5 (wdR adr cI cZ) cX8_would RX8 (some .int) { frames := 9, cells := 0, slots := 0, locals := 207 }) (N : Nat) (σ : ST) (x1 : Int32) (x2 : Int32) (x3 : Int32) (x4 : Int32) (k0 : Int32) (hf : mR_would_163 N σ x1 x2 x3 x4 k0 = some q) : zJ X 5 (wdR adr cI cZ) (zi q) 163 [(0, .ref (adr 0)), (1, .int x1), (2, .int x2), (3, .int x3), (4, .int x4)] [.int k0] σ := by
  exact z_ireturn B dX8_would_163 hf
def mR_would_148 (N : Nat) (σ : ST) (x1 : Int32) (x2 : Int32) (x3 : Int32) (x4 : Int32) : Option (Int32 × ST) :=
  mR_would_163 N σ x1 x2 x3 x4 (-1)
set_option maxRecDepth 20000 in
set_option maxHeartbeats 2000000 in
theorem tR_would_148 {adr : Nat → Nat} {cI cZ : ClassId} {X : zX} {q : Int32 × ST} (B : zC X 5 (wdR adr cI cZ) cX8_would RX8 (some .int) { frames := 9, cells := 0, slots := 0, locals := 207 }) (N : Nat) (σ : ST) (x1 : Int32) (x2 : Int32) (x3 : Int32) (x4 : Int32) (hf : mR_would_148 N σ x1 x2 x3 x4 = some q) : zJ X 5 (wdR adr cI cZ) (zi q) 148 [(0, .ref (adr 0)), (1, .int x1), (2, .int x2), (3, .int x3), (4, .int x4)] [] σ := by
  refine z_iconst B (-1) dX8_would_148 zc_iconst_m1 ?_
  refine z_goto B 163 dX8_would_149 (by decide) ?_
  exact tR_would_163 B N σ x1 x2 x3 x4 (-1) hf
def mR_would_135 (N : Nat) (σ : ST) (x1 : Int32) (x2 : Int32) (x3 : Int32) (x4 : Int32) (k0 : Int32) : Option (Int32 × ST) :=
  some (k0, σ)
set_option maxRecDepth 20000 in
set_option maxHeartbeats 2000000 in
theorem tR_would_135 {adr : Nat → Nat} {cI cZ : ClassId} {X : zX} {q : Int32 × ST} (B : zC X 5 (wdR adr cI cZ) cX8_would RX8 (some .int) { frames := 9, cells := 0, slots := 0, locals := 207 }) (N : Nat) (σ : ST) (x1 : Int32) (x2 : Int32) (x3 : Int32) (x4 : Int32) (k0 : Int32) (hf : mR_would_135 N σ x1 x2 x3 x4 k0 = some q) : zJ X 5 (wdR adr cI cZ) (zi q) 135 [(0, .ref (adr 0)), (1, .int x1), (2, .int x2), (3, .int x3), (4, .int x4)] [.int k0] σ := by
  exact z_ireturn B dX8_would_135 hf
def mR_would_124 (N : Nat) (σ : ST) (x1 : Int32) (x2 : Int32) (x3 : Int32) (x4 : Int32) (k0 : Int32) : Option (Int32 × ST) :=
  some (k0, σ)
set_option maxRecDepth 20000 in
set_option maxHeartbeats 2000000 in
theorem tR_would_124 {adr : Nat → Nat} {cI cZ : ClassId} {X : zX} {q : Int32 × ST} (B : zC X 5 (wdR adr cI cZ) cX8_would RX8 (some .int) { frames := 9, cells := 0, slots := 0, locals := 207 }) (N : Nat) (σ : ST) (x1 : Int32) (x2 : Int32) (x3 : Int32) (x4 : Int32) (k0 : Int32) (hf : mR_would_124 N σ x1 x2 x3 x4 k0 = some q) : zJ X 5 (wdR adr cI cZ) (zi q) 124 [(0, .ref (adr 0)), (1, .int x1), (2, .int x2), (3, .int x3), (4, .int x4)] [.int k0] σ := by
  exact z_ireturn B dX8_would_124 hf
def mR_would_69 (N : Nat) (σ : ST) (x1 : Int32) (x2 : Int32) (x3 : Int32) (k0 : Int32) : Option (Int32 × ST) :=
  zCallu (mR_endThought N σ) fun s72 =>
  if (x2 : Int32) = (0) then
    if (x3 : Int32) = 0 then
      zLet (s72 0 11) fun v121 =>
      mR_would_124 N s72 x1 x2 x3 k0 v121
    else
      mR_would_124 N s72 x1 x2 x3 k0 (0)
  else
  if (x2 : Int32) = (1) then
    if (k0 : Int32) = 0 then
      mR_would_135 N s72 x1 x2 x3 k0 (0)
    else
      mR_would_135 N s72 x1 x2 x3 k0 (1)
  else
  if (x2 : Int32) = (2) then
    if (x3 : Int32) = 0 then
      zLet (s72 0 12) fun v141 =>
      if (v141 : Int32) = (-1) then
        mR_would_148 N s72 x1 x2 x3 k0
      else
        zLet (s72 0 12) fun v153 =>
        zLet ((v153 : Int32) - (542)) fun v159 =>
        zDiv v159 (12) fun v162 =>
        mR_would_163 N s72 x1 x2 x3 k0 v162
    else
      mR_would_148 N s72 x1 x2 x3 k0
  else
  if (x2 : Int32) = (3) then
    zLet (s72 0 13) fun v165 =>
    some (v165, s72)
  else
  if (x2 : Int32) = (4) then
    zLet (s72 0 15) fun v170 =>
    some (v170, s72)
  else
    zLet (s72 0 16) fun v175 =>
    some (v175, s72)
set_option maxRecDepth 20000 in
set_option maxHeartbeats 2000000 in
theorem tR_would_69 {adr : Nat → Nat} {cI cZ : ClassId} {X : zX} {q : Int32 × ST} (B : zC X 5 (wdR adr cI cZ) cX8_would RX8 (some .int) { frames := 9, cells := 0, slots := 0, locals := 207 }) (N : Nat) (σ : ST) (x1 : Int32) (x2 : Int32) (x3 : Int32) (k0 : Int32) (hf : mR_would_69 N σ x1 x2 x3 k0 = some q) : zJ X 5 (wdR adr cI cZ) (zi q) 69 [(0, .ref (adr 0)), (1, .int x1), (2, .int x2), (3, .int x3)] [.int k0] σ := by
  refine z_istore B [(4, .int k0), (0, .ref (adr 0)), (1, .int x1), (2, .int x2), (3, .int x3)] dX8_would_69 (Nat.le_of_ble_eq_true rfl) rfl ?_
  refine z_aload_n B dX8_would_71 1 rfl rfl ?_
  refine z_callVu B (As := []) kcV_X8_264 dX8_would_72 hf (fun q hq => cR_endThought q hq) (wR_o (adr := adr) (cI := cI) (cZ := cZ)) rfl rfl rfl rfl (Nat.le_of_ble_eq_true rfl) rfl rfl ⟨Nat.le_of_ble_eq_true rfl, Nat.le_of_ble_eq_true rfl⟩ (fun s72 hf => ?_)
  refine z_iload_n B dX8_would_75 3 rfl rfl ?_
  by_cases h76_0 : x2 = (0)
  · replace hf := zIfp h76_0 hf
    refine z_tabIn B (off := 36) 112 dX8_would_76 (by rw [h76_0]; decide) (by rw [h76_0]; decide) (by rw [h76_0]; decide) (by decide) ?_
    refine z_iload_n B dX8_would_112 4 rfl rfl ?_
    refine z_if_eq B 120 dX8_would_113 (by decide) hf (fun hf => ?_) (fun hf => ?_)
    · refine z_aload_n B dX8_would_120 1 rfl rfl ?_
      refine fR_g_how B dX8_would_121 hf (fun v121 hf => ?_)
      exact z_loc [1, 2, 3, 4, 0] _ rfl (tR_would_124 B N s72 x1 x2 x3 k0 v121 hf)
    · refine z_iconst B (0) dX8_would_116 zc_iconst_0 ?_
      refine z_goto B 124 dX8_would_117 (by decide) ?_
      exact z_loc [1, 2, 3, 4, 0] _ rfl (tR_would_124 B N s72 x1 x2 x3 k0 (0) hf)
  replace hf := zIfn h76_0 hf
  by_cases h76_1 : x2 = (1)
  · replace hf := zIfp h76_1 hf
    refine z_tabIn B (off := 49) 125 dX8_would_76 (by rw [h76_1]; decide) (by rw [h76_1]; decide) (by rw [h76_1]; decide) (by decide) ?_
    refine z_iload B dX8_would_125 0 rfl ?_
    refine z_if_eq B 134 dX8_would_127 (by decide) hf (fun hf => ?_) (fun hf => ?_)
    · refine z_iconst B (0) dX8_would_134 zc_iconst_0 ?_
      exact z_loc [1, 2, 3, 4, 0] _ rfl (tR_would_135 B N s72 x1 x2 x3 k0 (0) hf)
    · refine z_iconst B (1) dX8_would_130 zc_iconst_1 ?_
      refine z_goto B 135 dX8_would_131 (by decide) ?_
      exact z_loc [1, 2, 3, 4, 0] _ rfl (tR_would_135 B N s72 x1 x2 x3 k0 (1) hf)
  replace hf := zIfn h76_1 hf
  by_cases h76_2 : x2 = (2)
  · replace hf := zIfp h76_2 hf
    refine z_tabIn B (off := 60) 136 dX8_would_76 (by rw [h76_2]; decide) (by rw [h76_2]; decide) (by rw [h76_2]; decide) (by decide) ?_
    refine z_iload_n B dX8_would_136 4 rfl rfl ?_
    refine z_if_ne B 148 dX8_would_137 (by decide) hf (fun hf => ?_) (fun hf => ?_)
    · exact z_loc [1, 2, 3, 4, 0] _ rfl (tR_would_148 B N s72 x1 x2 x3 k0 hf)
    · refine z_aload_n B dX8_would_140 1 rfl rfl ?_
      refine fR_g_its B dX8_would_141 hf (fun v141 hf => ?_)
      refine z_iconst B (-1) dX8_would_144 zc_iconst_m1 ?_
      refine z_icmp_ne B 152 dX8_would_145 (by decide) hf (fun hf => ?_) (fun hf => ?_)
      · refine z_aload_n B dX8_would_152 1 rfl rfl ?_
        refine fR_g_its B dX8_would_153 hf (fun v153 hf => ?_)
        refine z_sipush B (542) dX8_would_156 zc_sipush_542 ?_
        refine z_isub B dX8_would_159 hf (fun v159 hf => ?_)
        refine z_bipush B (12) dX8_would_160 zc_bipush_12 ?_
        refine z_idiv B dX8_would_162 hf (fun v162 hf => ?_)
        exact z_loc [1, 2, 3, 4, 0] _ rfl (tR_would_163 B N s72 x1 x2 x3 k0 v162 hf)
      · exact z_loc [1, 2, 3, 4, 0] _ rfl (tR_would_148 B N s72 x1 x2 x3 k0 hf)
  replace hf := zIfn h76_2 hf
  by_cases h76_3 : x2 = (3)
  · replace hf := zIfp h76_3 hf
    refine z_tabIn B (off := 88) 164 dX8_would_76 (by rw [h76_3]; decide) (by rw [h76_3]; decide) (by rw [h76_3]; decide) (by decide) ?_
    refine z_aload_n B dX8_would_164 1 rfl rfl ?_
    refine fR_g_plannedMany B dX8_would_165 hf (fun v165 hf => ?_)
    exact z_ireturn B dX8_would_168 hf
  replace hf := zIfn h76_3 hf
  by_cases h76_4 : x2 = (4)
  · replace hf := zIfp h76_4 hf
    refine z_tabIn B (off := 93) 169 dX8_would_76 (by rw [h76_4]; decide) (by rw [h76_4]; decide) (by rw [h76_4]; decide) (by decide) ?_
    refine z_aload_n B dX8_would_169 1 rfl rfl ?_
    refine fR_g_sharedNow B dX8_would_170 hf (fun v170 hf => ?_)
    exact z_ireturn B dX8_would_173 hf
  replace hf := zIfn h76_4 hf
  have kd76 : zJ X 5 (wdR adr cI cZ) (zi q) 174 [(4, .int k0), (0, .ref (adr 0)), (1, .int x1), (2, .int x2), (3, .int x3)] [] s72 := by
    refine z_aload_n B dX8_would_174 1 rfl rfl ?_
    refine fR_g_wastedNow B dX8_would_175 hf (fun v175 hf => ?_)
    exact z_ireturn B dX8_would_178 hf
  by_cases ho76 : x2.toInt < 0 ∨ 4 < x2.toInt
  · exact z_tabOut B 174 dX8_would_76 ho76 (by decide) kd76
  · have e0 : x2.toInt ≠ 0 := z_ne h76_0 (by decide)
    have e1 : x2.toInt ≠ 1 := z_ne h76_1 (by decide)
    have e2 : x2.toInt ≠ 2 := z_ne h76_2 (by decide)
    have e3 : x2.toInt ≠ 3 := z_ne h76_3 (by decide)
    have e4 : x2.toInt ≠ 4 := z_ne h76_4 (by decide)
    exfalso
    omega
def mR_would_46 (N : Nat) (σ : ST) (x1 : Int32) (x2 : Int32) (k0 : Int32) : Option (Int32 × ST) :=
  zGet (σ 1) 1974 (11) fun v53 =>
  zGet (σ 2) 1974 (11) fun v60 =>
  if (v53 : Int32) ≤ v60 then
    mR_would_69 N σ x1 x2 k0 (0)
  else
    mR_would_69 N σ x1 x2 k0 (1)
set_option maxRecDepth 20000 in
set_option maxHeartbeats 2000000 in
theorem tR_would_46 {adr : Nat → Nat} {cI cZ : ClassId} {X : zX} {q : Int32 × ST} (B : zC X 5 (wdR adr cI cZ) cX8_would RX8 (some .int) { frames := 9, cells := 0, slots := 0, locals := 207 }) (N : Nat) (σ : ST) (x1 : Int32) (x2 : Int32) (k0 : Int32) (hf : mR_would_46 N σ x1 x2 k0 = some q) : zJ X 5 (wdR adr cI cZ) (zi q) 46 [(0, .ref (adr 0)), (1, .int x1), (2, .int x2)] [.int k0] σ := by
  refine z_istore_n B [(3, .int k0), (0, .ref (adr 0)), (1, .int x1), (2, .int x2)] dX8_would_46 rfl (Nat.le_of_ble_eq_true rfl) rfl ?_
  refine z_aload_n B dX8_would_47 1 rfl rfl ?_
  refine fR_g_row B dX8_would_48 ?_
  refine z_bipush B (11) dX8_would_51 zc_bipush_11 ?_
  refine fR_l_row B dX8_would_53 hf (fun v53 hf => ?_)
  refine z_aload_n B dX8_would_54 1 rfl rfl ?_
  refine fR_g_aside B dX8_would_55 ?_
  refine z_bipush B (11) dX8_would_58 zc_bipush_11 ?_
  refine fR_l_aside B dX8_would_60 hf (fun v60 hf => ?_)
  refine z_icmp_le B 68 dX8_would_61 (by decide) hf (fun hf => ?_) (fun hf => ?_)
  · refine z_iconst B (0) dX8_would_68 zc_iconst_0 ?_
    exact z_loc [1, 2, 3, 0] _ rfl (tR_would_69 B N σ x1 x2 k0 (0) hf)
  · refine z_iconst B (1) dX8_would_64 zc_iconst_1 ?_
    refine z_goto B 69 dX8_would_65 (by decide) ?_
    exact z_loc [1, 2, 3, 0] _ rfl (tR_would_69 B N σ x1 x2 k0 (1) hf)
def mR_would_25 (N : Nat) (σ : ST) (x1 : Int32) (x2 : Int32) : Option (Int32 × ST) :=
  some ((-1), σ)
set_option maxRecDepth 20000 in
set_option maxHeartbeats 2000000 in
theorem tR_would_25 {adr : Nat → Nat} {cI cZ : ClassId} {X : zX} {q : Int32 × ST} (B : zC X 5 (wdR adr cI cZ) cX8_would RX8 (some .int) { frames := 9, cells := 0, slots := 0, locals := 207 }) (N : Nat) (σ : ST) (x1 : Int32) (x2 : Int32) (hf : mR_would_25 N σ x1 x2 = some q) : zJ X 5 (wdR adr cI cZ) (zi q) 25 [(0, .ref (adr 0)), (1, .int x1), (2, .int x2)] [] σ := by
  refine z_iconst B (-1) dX8_would_25 zc_iconst_m1 ?_
  exact z_ireturn B dX8_would_26 hf
def mR_would (N : Nat) (σ : ST) (x1 : Int32) (x2 : Int32) : Option (Int32 × ST) :=
  zLet (zUp σ 0 0 (0)) fun s2 =>
  zCall (mR_isBlock N s2 x1) fun v7 s7 =>
  if (v7 : Int32) = 0 then
    mR_would_25 N s7 x1 x2
  else
    zLet ((x2 : Int32).toInt64) fun v14 =>
    zCall (mR_in N s7 v14 (0) (5)) fun v19 s19 =>
    if (v19 : Int32) = 0 then
      mR_would_25 N s19 x1 x2
    else
      zCallu (mR_think N s19) fun s28 =>
      zCall (mR_readOne N s28 x1) fun v33 s33 =>
      if (v33 : Int32) = (-2) then
        mR_would_46 N s33 x1 x2 (1)
      else
        mR_would_46 N s33 x1 x2 (0)
set_option maxRecDepth 20000 in
set_option maxHeartbeats 2000000 in
theorem cR_would {adr : Nat → Nat} {cI cZ : ClassId} {l : Launch} {D : va_G} {N : Nat} {σ : ST} {x1 : Int32} {x2 : Int32} (q : Int32 × ST) (hf : mR_would N σ x1 x2 = some q) : zM l D (wdR adr cI cZ) yX8_would cX8_would 5 (some .int) ({ frames := 9, cells := 0, slots := 0, locals := 207 }) [.ref (adr 0), .int x1, .int x2] σ (zi q) := by
  refine zM_of sfR_ok rfl (Nat.le_of_ble_eq_true rfl) [(0, .ref (adr 0)), (1, .int x1), (2, .int x2)] rfl (fun X hX1 hX2 B => ?_)
  have B : zC X 5 (wdR adr cI cZ) cX8_would RX8 (some .int) { frames := 9, cells := 0, slots := 0, locals := 207 } := B
  refine z_aload_n B dX8_would_0 0 rfl rfl ?_
  refine z_iconst B (0) dX8_would_1 zc_iconst_0 ?_
  refine fR_p_thrown B dX8_would_2 hf (fun s2 hf => ?_)
  refine z_aload_n B dX8_would_5 0 rfl rfl ?_
  refine z_iload_n B dX8_would_6 1 rfl rfl ?_
  refine z_callVi B (As := [.int x1]) kcV_X8_132 dX8_would_7 hf (fun q hq => cR_isBlock q hq) (wR_o (adr := adr) (cI := cI) (cZ := cZ)) rfl rfl rfl rfl (Nat.le_of_ble_eq_true rfl) rfl rfl ⟨Nat.le_of_ble_eq_true rfl, Nat.le_of_ble_eq_true rfl⟩ (fun v7 s7 hf => ?_)
  refine z_if_eq B 25 dX8_would_10 (by decide) hf (fun hf => ?_) (fun hf => ?_)
  · exact tR_would_25 B N s7 x1 x2 hf
  · refine z_iload_n B dX8_would_13 2 rfl rfl ?_
    refine z_i2l B dX8_would_14 hf (fun v14 hf => ?_)
    refine z_lconst B (0) dX8_would_15 rfl ?_
    refine z_ldc2 B kw_1181 dX8_would_16 ?_
    refine z_callSi B (As := [.long v14, .long (0), .long (5)]) kcS_X8_71 dX8_would_19 hf (fun q hq => cR_in q hq) rfl rfl (Nat.le_of_ble_eq_true rfl) rfl rfl ⟨Nat.le_of_ble_eq_true rfl, Nat.le_of_ble_eq_true rfl⟩ (fun v19 s19 hf => ?_)
    refine z_if_ne B 27 dX8_would_22 (by decide) hf (fun hf => ?_) (fun hf => ?_)
    · refine z_aload_n B dX8_would_27 0 rfl rfl ?_
      refine z_callVu B (As := []) kcV_X8_261 dX8_would_28 hf (fun q hq => cR_think q hq) (wR_o (adr := adr) (cI := cI) (cZ := cZ)) rfl rfl rfl rfl (Nat.le_of_ble_eq_true rfl) rfl rfl ⟨Nat.le_of_ble_eq_true rfl, Nat.le_of_ble_eq_true rfl⟩ (fun s28 hf => ?_)
      refine z_aload_n B dX8_would_31 0 rfl rfl ?_
      refine z_iload_n B dX8_would_32 1 rfl rfl ?_
      refine z_callVi B (As := [.int x1]) kcV_X8_197 dX8_would_33 hf (fun q hq => cR_readOne q hq) (wR_o (adr := adr) (cI := cI) (cZ := cZ)) rfl rfl rfl rfl (Nat.le_of_ble_eq_true rfl) rfl rfl ⟨Nat.le_of_ble_eq_true rfl, Nat.le_of_ble_eq_true rfl⟩ (fun v33 s33 hf => ?_)
      refine z_bipush B (-2) dX8_would_36 zc_bipush_m2 ?_
      refine z_icmp_ne B 45 dX8_would_38 (by decide) hf (fun hf => ?_) (fun hf => ?_)
      · refine z_iconst B (0) dX8_would_45 zc_iconst_0 ?_
        exact tR_would_46 B N s33 x1 x2 (0) hf
      · refine z_iconst B (1) dX8_would_41 zc_iconst_1 ?_
        refine z_goto B 46 dX8_would_42 (by decide) ?_
        exact tR_would_46 B N s33 x1 x2 (1) hf
    · exact tR_would_25 B N s19 x1 x2 hf
