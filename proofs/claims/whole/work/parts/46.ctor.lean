theorem zc_sipush_160 : (Int16.ofInt (160)).toInt32 = ((160) : Int32) := by decide
/-! CONSTRUCTORS: what they need of the statics and of nest mates -/
def atF (j : Nat) : Int32 := ([16, 2, 2, 8, 16, 30, 4, 10000, 0, 0] : List Int32).getD j 0
def sfC (tL tH tA : Nat) : (Nat → Prop) → State → Heap → Prop := fun A U H => (sfE tL tH A U H ∧ va_Z "AheadPlanner" "AT_FIRST" "[I" (.ref tA) A U H ∧ va_T .int tA 10 (fun j => .int (atF j)) A U H) ∧ va_Nw (.fieldLinkNest RX2 19 "AheadPlanner" "AT_FIRST" "[I" RX7) U ∧ va_Nw (.methodLinkNest RX7 11 yX1_init RX7) U ∧ va_Nw (.methodLinkNest RX2 33 yX0_init RX7) U ∧ va_Nw (.methodLinkNest RX2 44 yX4_init RX7) U ∧ va_Nw (.methodLinkNest RX2 47 yX3_init RX7) U ∧ va_Nw (.methodLinkNest RX2 54 yX6_init RX7) U ∧ va_AO "AheadPlanner$Stream" U ∧ va_AO "AheadPlanner$Disk" U ∧ va_AO "AheadPlanner$Engine" U
theorem sfC_ok {tL tH tA : Nat} : zSF (sfC tL tH tA) := by
  refine ⟨fun A u U H hW h => ?_, fun A u U H hv h => ?_, fun A U H H1 hk h => ?_, fun A B U H hAB h => ?_⟩
  · exact ⟨⟨sfE_ok.1 _ _ _ _ hW h.1.1, h.1.2.1.moved hW.alike, h.1.2.2.moved hW.alike⟩, va_Nw.warmF hW h.2.1, va_Nw.warmM hW h.2.2.1, va_Nw.warmM hW h.2.2.2.1, va_Nw.warmM hW h.2.2.2.2.1, va_Nw.warmM hW h.2.2.2.2.2.1, va_Nw.warmM hW h.2.2.2.2.2.2.1, h.2.2.2.2.2.2.2.1.moved hW.alike, h.2.2.2.2.2.2.2.2.1.moved hW.alike, h.2.2.2.2.2.2.2.2.2.moved hW.alike⟩
  · exact ⟨⟨sfE_ok.2.1 _ _ _ _ hv h.1.1, h.1.2.1.moved (by rw [hv]; exact Vm.Alike.refl _), h.1.2.2.moved (by rw [hv]; exact Vm.Alike.refl _)⟩, va_Nw.same rfl hv h.2.1, va_Nw.same rfl hv h.2.2.1, va_Nw.same rfl hv h.2.2.2.1, va_Nw.same rfl hv h.2.2.2.2.1, va_Nw.same rfl hv h.2.2.2.2.2.1, va_Nw.same rfl hv h.2.2.2.2.2.2.1, h.2.2.2.2.2.2.2.1.moved (by rw [hv]; exact Vm.Alike.refl _), h.2.2.2.2.2.2.2.2.1.moved (by rw [hv]; exact Vm.Alike.refl _), h.2.2.2.2.2.2.2.2.2.moved (by rw [hv]; exact Vm.Alike.refl _)⟩
  · exact ⟨⟨sfE_ok.2.2.1 _ _ _ _ hk h.1.1, h.1.2.1.kept hk, h.1.2.2.kept hk⟩, h.2⟩
  · exact ⟨⟨sfE_ok.2.2.2 _ _ _ _ hAB h.1.1, h.1.2.1.narrow hAB, h.1.2.2.narrow hAB⟩, h.2⟩
def wdC (cI cZ cS cD cE : ClassId) (tL tH tA : Nat) : zWd := (fun _ => [], [(cI, .int), (cZ, .boolean), (cS, .object "AheadPlanner$Stream"), (cD, .object "AheadPlanner$Disk"), (cE, .object "AheadPlanner$Engine")], sfC tL tH tA)
section FC
variable {X : zX} {nL : Nat} {cc : ByteArray} {own : String} {ret : Option FieldType} {rm : Room} {cI cZ cS cD cE : ClassId} {tL tH tA : Nat}
theorem sfC_ZA (B : zC X nL (wdC cI cZ cS cD cE tL tH tA) cc own ret rm) : va_Z "AheadPlanner" "AT_FIRST" "[I" (.ref tA) X.2.2.2.2.2.2.2.2.2.2.2 X.2.2.2.2.1 X.2.2.2.2.1.heap :=
  have h : sfC tL tH tA X.2.2.2.2.2.2.2.2.2.2.2 X.2.2.2.2.1 X.2.2.2.2.1.heap := B.2.2.2.2.2.2.2.2.2.2.2
  h.1.2.1
theorem sfC_TA (B : zC X nL (wdC cI cZ cS cD cE tL tH tA) cc own ret rm) : va_T .int tA 10 (fun j => .int (atF j)) X.2.2.2.2.2.2.2.2.2.2.2 X.2.2.2.2.1 X.2.2.2.2.1.heap :=
  have h : sfC tL tH tA X.2.2.2.2.2.2.2.2.2.2.2 X.2.2.2.2.1 X.2.2.2.2.1.heap := B.2.2.2.2.2.2.2.2.2.2.2
  h.1.2.2
theorem sfC_NA (B : zC X nL (wdC cI cZ cS cD cE tL tH tA) cc own ret rm) : va_Nw (.fieldLinkNest RX2 19 "AheadPlanner" "AT_FIRST" "[I" RX7) X.2.2.2.2.1 :=
  have h : sfC tL tH tA X.2.2.2.2.2.2.2.2.2.2.2 X.2.2.2.2.1 X.2.2.2.2.1.heap := B.2.2.2.2.2.2.2.2.2.2.2
  h.2.1
theorem sfC_NX7_11 (B : zC X nL (wdC cI cZ cS cD cE tL tH tA) cc own ret rm) : va_Nw (.methodLinkNest RX7 11 yX1_init RX7) X.2.2.2.2.1 :=
  have h : sfC tL tH tA X.2.2.2.2.2.2.2.2.2.2.2 X.2.2.2.2.1 X.2.2.2.2.1.heap := B.2.2.2.2.2.2.2.2.2.2.2
  h.2.2.1
theorem sfC_NX2_33 (B : zC X nL (wdC cI cZ cS cD cE tL tH tA) cc own ret rm) : va_Nw (.methodLinkNest RX2 33 yX0_init RX7) X.2.2.2.2.1 :=
  have h : sfC tL tH tA X.2.2.2.2.2.2.2.2.2.2.2 X.2.2.2.2.1 X.2.2.2.2.1.heap := B.2.2.2.2.2.2.2.2.2.2.2
  h.2.2.2.1
theorem sfC_NX2_44 (B : zC X nL (wdC cI cZ cS cD cE tL tH tA) cc own ret rm) : va_Nw (.methodLinkNest RX2 44 yX4_init RX7) X.2.2.2.2.1 :=
  have h : sfC tL tH tA X.2.2.2.2.2.2.2.2.2.2.2 X.2.2.2.2.1 X.2.2.2.2.1.heap := B.2.2.2.2.2.2.2.2.2.2.2
  h.2.2.2.2.1
theorem sfC_NX2_47 (B : zC X nL (wdC cI cZ cS cD cE tL tH tA) cc own ret rm) : va_Nw (.methodLinkNest RX2 47 yX3_init RX7) X.2.2.2.2.1 :=
  have h : sfC tL tH tA X.2.2.2.2.2.2.2.2.2.2.2 X.2.2.2.2.1 X.2.2.2.2.1.heap := B.2.2.2.2.2.2.2.2.2.2.2
  h.2.2.2.2.2.1
theorem sfC_NX2_54 (B : zC X nL (wdC cI cZ cS cD cE tL tH tA) cc own ret rm) : va_Nw (.methodLinkNest RX2 54 yX6_init RX7) X.2.2.2.2.1 :=
  have h : sfC tL tH tA X.2.2.2.2.2.2.2.2.2.2.2 X.2.2.2.2.1 X.2.2.2.2.1.heap := B.2.2.2.2.2.2.2.2.2.2.2
  h.2.2.2.2.2.2.1
theorem sfC_OS (B : zC X nL (wdC cI cZ cS cD cE tL tH tA) cc own ret rm) : va_AO "AheadPlanner$Stream" X.2.2.2.2.1 :=
  have h : sfC tL tH tA X.2.2.2.2.2.2.2.2.2.2.2 X.2.2.2.2.1 X.2.2.2.2.1.heap := B.2.2.2.2.2.2.2.2.2.2.2
  h.2.2.2.2.2.2.2.1
theorem sfC_OD (B : zC X nL (wdC cI cZ cS cD cE tL tH tA) cc own ret rm) : va_AO "AheadPlanner$Disk" X.2.2.2.2.1 :=
  have h : sfC tL tH tA X.2.2.2.2.2.2.2.2.2.2.2 X.2.2.2.2.1 X.2.2.2.2.1.heap := B.2.2.2.2.2.2.2.2.2.2.2
  h.2.2.2.2.2.2.2.2.1
theorem sfC_OE (B : zC X nL (wdC cI cZ cS cD cE tL tH tA) cc own ret rm) : va_AO "AheadPlanner$Engine" X.2.2.2.2.1 :=
  have h : sfC tL tH tA X.2.2.2.2.2.2.2.2.2.2.2 X.2.2.2.2.1 X.2.2.2.2.1.heap := B.2.2.2.2.2.2.2.2.2.2.2
  h.2.2.2.2.2.2.2.2.2
end FC
set_option maxRecDepth 20000 in
set_option maxHeartbeats 4000000 in
theorem kobjI : Cond.instanceMethod objectInit ∈ zTb := zIn1 19 rfl rfl
set_option maxRecDepth 20000 in
set_option maxHeartbeats 4000000 in
theorem kobjC : Cond.code objectInit ⟨#[0xb1]⟩ 1 none ∈ zTb := zIn1 20 rfl rfl
set_option maxRecDepth 20000 in
set_option maxHeartbeats 4000000 in
theorem kAcI : Cond.arrayClass (newarray.typeOf .int) ∈ zTb := zIn1 31 rfl rfl
set_option maxRecDepth 20000 in
set_option maxHeartbeats 4000000 in
theorem kAcZ : Cond.arrayClass (newarray.typeOf .boolean) ∈ zTb := zIn1 93 rfl rfl
set_option maxRecDepth 20000 in
set_option maxHeartbeats 4000000 in
theorem kw_81 : Cond.methodLink RX1 3 objectInit ∈ zTb := zIn1 26 rfl rfl
set_option maxRecDepth 20000 in
set_option maxHeartbeats 4000000 in
theorem kw_108 : Cond.methodLink RX0 3 objectInit ∈ zTb := zIn1 53 rfl rfl
set_option maxRecDepth 20000 in
set_option maxHeartbeats 4000000 in
theorem kw_155 : Cond.methodLink RX4 3 objectInit ∈ zTb := zIn1 100 rfl rfl
set_option maxRecDepth 20000 in
set_option maxHeartbeats 4000000 in
theorem kw_213 : Cond.methodLink RX3 3 objectInit ∈ zTb := zIn1 158 rfl rfl
set_option maxRecDepth 20000 in
set_option maxHeartbeats 4000000 in
theorem kw_238 : Cond.methodLink RX6 3 objectInit ∈ zTb := zIn1 183 rfl rfl
set_option maxRecDepth 20000 in
set_option maxHeartbeats 4000000 in
theorem kw_291 : Cond.methodLink RX5 3 objectInit ∈ zTb := zIn1 236 rfl rfl
set_option maxRecDepth 20000 in
set_option maxHeartbeats 4000000 in
theorem kw_97 : Cond.methodLink RX2 3 objectInit ∈ zTb := zIn1 42 rfl rfl
set_option maxRecDepth 20000 in
set_option maxHeartbeats 4000000 in
theorem kw_103 : Cond.classLink RX2 31 RX0 ∈ zTb := zIn1 48 rfl rfl
set_option maxRecDepth 20000 in
set_option maxHeartbeats 4000000 in
theorem kw_104 : Cond.instantiable RX0 10 ∈ zTb := zIn1 49 rfl rfl
set_option maxRecDepth 20000 in
set_option maxHeartbeats 4000000 in
theorem kw_60 : Cond.initialized RX0 ∈ zTb := zIn1 5 rfl rfl
set_option maxRecDepth 20000 in
set_option maxHeartbeats 4000000 in
theorem kw_106 : Cond.instanceMethod yX0_init ∈ zTb := zIn1 51 rfl rfl
set_option maxRecDepth 20000 in
set_option maxHeartbeats 4000000 in
theorem kw_149 : Cond.classLink RX2 38 RX4 ∈ zTb := zIn1 94 rfl rfl
set_option maxRecDepth 20000 in
set_option maxHeartbeats 4000000 in
theorem kw_151 : Cond.instantiable RX4 11 ∈ zTb := zIn1 96 rfl rfl
set_option maxRecDepth 20000 in
set_option maxHeartbeats 4000000 in
theorem kw_61 : Cond.initialized RX4 ∈ zTb := zIn1 6 rfl rfl
set_option maxRecDepth 20000 in
set_option maxHeartbeats 4000000 in
theorem kw_153 : Cond.instanceMethod yX4_init ∈ zTb := zIn1 98 rfl rfl
set_option maxRecDepth 20000 in
set_option maxHeartbeats 4000000 in
theorem kw_208 : Cond.classLink RX2 45 RX3 ∈ zTb := zIn1 153 rfl rfl
set_option maxRecDepth 20000 in
set_option maxHeartbeats 4000000 in
theorem kw_209 : Cond.instantiable RX3 5 ∈ zTb := zIn1 154 rfl rfl
set_option maxRecDepth 20000 in
set_option maxHeartbeats 4000000 in
theorem kw_62 : Cond.initialized RX3 ∈ zTb := zIn1 7 rfl rfl
set_option maxRecDepth 20000 in
set_option maxHeartbeats 4000000 in
theorem kw_211 : Cond.instanceMethod yX3_init ∈ zTb := zIn1 156 rfl rfl
set_option maxRecDepth 20000 in
set_option maxHeartbeats 4000000 in
theorem kw_233 : Cond.classLink RX2 52 RX6 ∈ zTb := zIn1 178 rfl rfl
set_option maxRecDepth 20000 in
set_option maxHeartbeats 4000000 in
theorem kw_234 : Cond.instantiable RX6 3 ∈ zTb := zIn1 179 rfl rfl
set_option maxRecDepth 20000 in
set_option maxHeartbeats 4000000 in
theorem kw_63 : Cond.initialized RX6 ∈ zTb := zIn1 8 rfl rfl
set_option maxRecDepth 20000 in
set_option maxHeartbeats 4000000 in
theorem kw_236 : Cond.instanceMethod yX6_init ∈ zTb := zIn1 181 rfl rfl
theorem dX1_init_0 : decode cX1_init 0 = .ok (.aload_n 0, 1) := by decide +kernel
theorem dX1_init_1 : decode cX1_init 1 = .ok (.invokespecial 3, 3) := by decide +kernel
theorem dX1_init_4 : decode cX1_init 4 = .ok (.aload_n 0, 1) := by decide +kernel
theorem dX1_init_5 : decode cX1_init 5 = .ok (.sipush 10000, 3) := by decide +kernel
theorem dX1_init_8 : decode cX1_init 8 = .ok (.newarray .int, 2) := by decide +kernel
theorem dX1_init_10 : decode cX1_init 10 = .ok (.putfield 9, 3) := by decide +kernel
theorem dX1_init_13 : decode cX1_init 13 = .ok (.return_, 1) := by decide +kernel
def po_X1_init (cI cZ cS cD cE : ClassId) (h : Nat) (f : Nat → Nat) : va_W := [(h, .inr (1, [.ref (f 0)])), ((f 0), .inl (cI, 10000, .inl (fun _ => 0)))]
set_option maxRecDepth 20000 in
set_option maxHeartbeats 4000000 in
theorem kt_X1_init : Cond.code yX1_init cX1_init 1 none ∈ zTb := zIn1 25 rfl rfl
set_option maxRecDepth 20000 in
set_option maxHeartbeats 4000000 in
theorem cc_X1_init {cI cZ cS cD cE : ClassId} {tL tH tA : Nat} {l : Launch} {D : va_G} (h : Nat) : zMc l D (wdC cI cZ cS cD cE tL tH tA) yX1_init cX1_init 1 ({ frames := 1, cells := 1, slots := 10000, locals := 12 }) [.ref h] [(h, .inr (1, [.null]))] (po_X1_init cI cZ cS cD cE h) 1 10000 := by
  refine zMc_of sfC_ok rfl rfl (Nat.le_of_ble_eq_true rfl) [(0, .ref h)] rfl (fun X hX1 hX2 hnm B => ?_)
  have B : zC X 1 (wdC cI cZ cS cD cE tL tH tA) cX1_init RX1 none { frames := 1, cells := 1, slots := 10000, locals := 12 } := B
  refine za_aload_n B dX1_init_0 0 rfl rfl ?_
  refine za_objInit B kw_81 kobjI kobjC dX1_init_1 (Nat.le_of_ble_eq_true rfl) (Nat.le_of_ble_eq_true rfl) ?_
  refine za_aload_n B dX1_init_4 0 rfl rfl ?_
  refine za_sipush B (10000) dX1_init_5 zc_sipush_10000 ?_
  refine za_newa B (t0 := 0) (N := 10000) kAcI rfl (Or.inl rfl) rfl (by decide) (by decide) (Nat.le_of_ble_eq_true rfl) (Nat.le_of_ble_eq_true rfl) (Nat.le_of_ble_eq_true rfl) dX1_init_8 (fun q8_5 => ?_)
  refine za_ws [(h, .inr (1, [.null])), (q8_5, .inl (cI, 10000, .inl (fun _ => 0)))] rfl ?_
  refine za_putF B hnm (q0 := 0) (j := 0) iX1 tyX1 tyX1_ok nmX1 rfl rfl (Nat.le_of_ble_eq_true rfl) kw_82 rfl rfl (tyX1_ok 0 (Nat.le_of_ble_eq_true rfl)) rfl rfl (Nat.le_of_ble_eq_true rfl) [(h, .inr (1, [.ref q8_5])), (q8_5, .inl (cI, 10000, .inl (fun _ => 0)))] rfl dX1_init_10 ?_
  exact za_return (post := po_X1_init cI cZ cS cD cE h) B (fun i => ([q8_5] : List Nat).getD i 0) dX1_init_13 rfl
theorem dX0_init_0 : decode cX0_init 0 = .ok (.aload_n 0, 1) := by decide +kernel
theorem dX0_init_1 : decode cX0_init 1 = .ok (.invokespecial 3, 3) := by decide +kernel
theorem dX0_init_4 : decode cX0_init 4 = .ok (.aload_n 0, 1) := by decide +kernel
theorem dX0_init_5 : decode cX0_init 5 = .ok (.bipush 64, 2) := by decide +kernel
theorem dX0_init_7 : decode cX0_init 7 = .ok (.newarray .int, 2) := by decide +kernel
theorem dX0_init_9 : decode cX0_init 9 = .ok (.putfield 9, 3) := by decide +kernel
theorem dX0_init_12 : decode cX0_init 12 = .ok (.aload_n 0, 1) := by decide +kernel
theorem dX0_init_13 : decode cX0_init 13 = .ok (.bipush 64, 2) := by decide +kernel
theorem dX0_init_15 : decode cX0_init 15 = .ok (.newarray .int, 2) := by decide +kernel
theorem dX0_init_17 : decode cX0_init 17 = .ok (.putfield 15, 3) := by decide +kernel
theorem dX0_init_20 : decode cX0_init 20 = .ok (.aload_n 0, 1) := by decide +kernel
theorem dX0_init_21 : decode cX0_init 21 = .ok (.bipush 64, 2) := by decide +kernel
theorem dX0_init_23 : decode cX0_init 23 = .ok (.newarray .int, 2) := by decide +kernel
theorem dX0_init_25 : decode cX0_init 25 = .ok (.putfield 18, 3) := by decide +kernel
theorem dX0_init_28 : decode cX0_init 28 = .ok (.aload_n 0, 1) := by decide +kernel
theorem dX0_init_29 : decode cX0_init 29 = .ok (.bipush 64, 2) := by decide +kernel
theorem dX0_init_31 : decode cX0_init 31 = .ok (.newarray .int, 2) := by decide +kernel
theorem dX0_init_33 : decode cX0_init 33 = .ok (.putfield 21, 3) := by decide +kernel
theorem dX0_init_36 : decode cX0_init 36 = .ok (.aload_n 0, 1) := by decide +kernel
theorem dX0_init_37 : decode cX0_init 37 = .ok (.bipush 64, 2) := by decide +kernel
theorem dX0_init_39 : decode cX0_init 39 = .ok (.newarray .int, 2) := by decide +kernel
theorem dX0_init_41 : decode cX0_init 41 = .ok (.putfield 24, 3) := by decide +kernel
theorem dX0_init_44 : decode cX0_init 44 = .ok (.aload_n 0, 1) := by decide +kernel
theorem dX0_init_45 : decode cX0_init 45 = .ok (.bipush 64, 2) := by decide +kernel
theorem dX0_init_47 : decode cX0_init 47 = .ok (.newarray .boolean, 2) := by decide +kernel
theorem dX0_init_49 : decode cX0_init 49 = .ok (.putfield 27, 3) := by decide +kernel
theorem dX0_init_52 : decode cX0_init 52 = .ok (.aload_n 0, 1) := by decide +kernel
theorem dX0_init_53 : decode cX0_init 53 = .ok (.sipush 10000, 3) := by decide +kernel
theorem dX0_init_56 : decode cX0_init 56 = .ok (.newarray .int, 2) := by decide +kernel
theorem dX0_init_58 : decode cX0_init 58 = .ok (.putfield 31, 3) := by decide +kernel
theorem dX0_init_61 : decode cX0_init 61 = .ok (.return_, 1) := by decide +kernel
def po_X0_init (cI cZ cS cD cE : ClassId) (h : Nat) (f : Nat → Nat) : va_W := [(h, .inr (0, [.ref (f 0), .ref (f 1), .ref (f 2), .ref (f 3), .ref (f 4), .ref (f 5), .ref (f 6), .int 0, .int 0, .int 0])), ((f 0), .inl (cI, 64, .inl (fun _ => 0))), ((f 1), .inl (cI, 64, .inl (fun _ => 0))), ((f 2), .inl (cI, 64, .inl (fun _ => 0))), ((f 3), .inl (cI, 64, .inl (fun _ => 0))), ((f 4), .inl (cI, 64, .inl (fun _ => 0))), ((f 5), .inl (cZ, 64, .inl (fun _ => 0))), ((f 6), .inl (cI, 10000, .inl (fun _ => 0)))]
set_option maxRecDepth 20000 in
set_option maxHeartbeats 4000000 in
theorem kt_X0_init : Cond.code yX0_init cX0_init 1 none ∈ zTb := zIn1 52 rfl rfl
set_option maxRecDepth 20000 in
set_option maxHeartbeats 4000000 in
theorem cc_X0_init {cI cZ cS cD cE : ClassId} {tL tH tA : Nat} {l : Launch} {D : va_G} (h : Nat) : zMc l D (wdC cI cZ cS cD cE tL tH tA) yX0_init cX0_init 1 ({ frames := 1, cells := 7, slots := 10384, locals := 12 }) [.ref h] [(h, .inr (0, [.null, .null, .null, .null, .null, .null, .null, .int 0, .int 0, .int 0]))] (po_X0_init cI cZ cS cD cE h) 7 10384 := by
  refine zMc_of sfC_ok rfl rfl (Nat.le_of_ble_eq_true rfl) [(0, .ref h)] rfl (fun X hX1 hX2 hnm B => ?_)
  have B : zC X 1 (wdC cI cZ cS cD cE tL tH tA) cX0_init RX0 none { frames := 1, cells := 7, slots := 10384, locals := 12 } := B
  refine za_aload_n B dX0_init_0 0 rfl rfl ?_
  refine za_objInit B kw_108 kobjI kobjC dX0_init_1 (Nat.le_of_ble_eq_true rfl) (Nat.le_of_ble_eq_true rfl) ?_
  refine za_aload_n B dX0_init_4 0 rfl rfl ?_
  refine za_bipush B (64) dX0_init_5 zc_bipush_64 ?_
  refine za_newa B (t0 := 0) (N := 64) kAcI rfl (Or.inl rfl) rfl (by decide) (by decide) (Nat.le_of_ble_eq_true rfl) (Nat.le_of_ble_eq_true rfl) (Nat.le_of_ble_eq_true rfl) dX0_init_7 (fun q7_5 => ?_)
  refine za_ws [(h, .inr (0, [.null, .null, .null, .null, .null, .null, .null, .int 0, .int 0, .int 0])), (q7_5, .inl (cI, 64, .inl (fun _ => 0)))] rfl ?_
  refine za_putF B hnm (q0 := 0) (j := 0) iX0 tyX0 tyX0_ok nmX0 rfl rfl (Nat.le_of_ble_eq_true rfl) kw_109 rfl rfl (tyX0_ok 0 (Nat.le_of_ble_eq_true rfl)) rfl rfl (Nat.le_of_ble_eq_true rfl) [(h, .inr (0, [.ref q7_5, .null, .null, .null, .null, .null, .null, .int 0, .int 0, .int 0])), (q7_5, .inl (cI, 64, .inl (fun _ => 0)))] rfl dX0_init_9 ?_
  refine za_aload_n B dX0_init_12 0 rfl rfl ?_
  refine za_bipush B (64) dX0_init_13 zc_bipush_64 ?_
  refine za_newa B (t0 := 0) (N := 64) kAcI rfl (Or.inl rfl) rfl (by decide) (by decide) (Nat.le_of_ble_eq_true rfl) (Nat.le_of_ble_eq_true rfl) (Nat.le_of_ble_eq_true rfl) dX0_init_15 (fun q15_9 => ?_)
  refine za_ws [(h, .inr (0, [.ref q7_5, .null, .null, .null, .null, .null, .null, .int 0, .int 0, .int 0])), (q7_5, .inl (cI, 64, .inl (fun _ => 0))), (q15_9, .inl (cI, 64, .inl (fun _ => 0)))] rfl ?_
  refine za_putF B hnm (q0 := 0) (j := 1) iX0 tyX0 tyX0_ok nmX0 rfl rfl (Nat.le_of_ble_eq_true rfl) kw_110 rfl rfl (tyX0_ok 1 (Nat.le_of_ble_eq_true rfl)) rfl rfl (Nat.le_of_ble_eq_true rfl) [(h, .inr (0, [.ref q7_5, .ref q15_9, .null, .null, .null, .null, .null, .int 0, .int 0, .int 0])), (q7_5, .inl (cI, 64, .inl (fun _ => 0))), (q15_9, .inl (cI, 64, .inl (fun _ => 0)))] rfl dX0_init_17 ?_
  refine za_aload_n B dX0_init_20 0 rfl rfl ?_
  refine za_bipush B (64) dX0_init_21 zc_bipush_64 ?_
  refine za_newa B (t0 := 0) (N := 64) kAcI rfl (Or.inl rfl) rfl (by decide) (by decide) (Nat.le_of_ble_eq_true rfl) (Nat.le_of_ble_eq_true rfl) (Nat.le_of_ble_eq_true rfl) dX0_init_23 (fun q23_13 => ?_)
  refine za_ws [(h, .inr (0, [.ref q7_5, .ref q15_9, .null, .null, .null, .null, .null, .int 0, .int 0, .int 0])), (q7_5, .inl (cI, 64, .inl (fun _ => 0))), (q15_9, .inl (cI, 64, .inl (fun _ => 0))), (q23_13, .inl (cI, 64, .inl (fun _ => 0)))] rfl ?_
  refine za_putF B hnm (q0 := 0) (j := 2) iX0 tyX0 tyX0_ok nmX0 rfl rfl (Nat.le_of_ble_eq_true rfl) kw_112 rfl rfl (tyX0_ok 2 (Nat.le_of_ble_eq_true rfl)) rfl rfl (Nat.le_of_ble_eq_true rfl) [(h, .inr (0, [.ref q7_5, .ref q15_9, .ref q23_13, .null, .null, .null, .null, .int 0, .int 0, .int 0])), (q7_5, .inl (cI, 64, .inl (fun _ => 0))), (q15_9, .inl (cI, 64, .inl (fun _ => 0))), (q23_13, .inl (cI, 64, .inl (fun _ => 0)))] rfl dX0_init_25 ?_
  refine za_aload_n B dX0_init_28 0 rfl rfl ?_
  refine za_bipush B (64) dX0_init_29 zc_bipush_64 ?_
  refine za_newa B (t0 := 0) (N := 64) kAcI rfl (Or.inl rfl) rfl (by decide) (by decide) (Nat.le_of_ble_eq_true rfl) (Nat.le_of_ble_eq_true rfl) (Nat.le_of_ble_eq_true rfl) dX0_init_31 (fun q31_17 => ?_)
  refine za_ws [(h, .inr (0, [.ref q7_5, .ref q15_9, .ref q23_13, .null, .null, .null, .null, .int 0, .int 0, .int 0])), (q7_5, .inl (cI, 64, .inl (fun _ => 0))), (q15_9, .inl (cI, 64, .inl (fun _ => 0))), (q23_13, .inl (cI, 64, .inl (fun _ => 0))), (q31_17, .inl (cI, 64, .inl (fun _ => 0)))] rfl ?_
  refine za_putF B hnm (q0 := 0) (j := 3) iX0 tyX0 tyX0_ok nmX0 rfl rfl (Nat.le_of_ble_eq_true rfl) kw_114 rfl rfl (tyX0_ok 3 (Nat.le_of_ble_eq_true rfl)) rfl rfl (Nat.le_of_ble_eq_true rfl) [(h, .inr (0, [.ref q7_5, .ref q15_9, .ref q23_13, .ref q31_17, .null, .null, .null, .int 0, .int 0, .int 0])), (q7_5, .inl (cI, 64, .inl (fun _ => 0))), (q15_9, .inl (cI, 64, .inl (fun _ => 0))), (q23_13, .inl (cI, 64, .inl (fun _ => 0))), (q31_17, .inl (cI, 64, .inl (fun _ => 0)))] rfl dX0_init_33 ?_
  refine za_aload_n B dX0_init_36 0 rfl rfl ?_
  refine za_bipush B (64) dX0_init_37 zc_bipush_64 ?_
  refine za_newa B (t0 := 0) (N := 64) kAcI rfl (Or.inl rfl) rfl (by decide) (by decide) (Nat.le_of_ble_eq_true rfl) (Nat.le_of_ble_eq_true rfl) (Nat.le_of_ble_eq_true rfl) dX0_init_39 (fun q39_21 => ?_)
  refine za_ws [(h, .inr (0, [.ref q7_5, .ref q15_9, .ref q23_13, .ref q31_17, .null, .null, .null, .int 0, .int 0, .int 0])), (q7_5, .inl (cI, 64, .inl (fun _ => 0))), (q15_9, .inl (cI, 64, .inl (fun _ => 0))), (q23_13, .inl (cI, 64, .inl (fun _ => 0))), (q31_17, .inl (cI, 64, .inl (fun _ => 0))), (q39_21, .inl (cI, 64, .inl (fun _ => 0)))] rfl ?_
  refine za_putF B hnm (q0 := 0) (j := 4) iX0 tyX0 tyX0_ok nmX0 rfl rfl (Nat.le_of_ble_eq_true rfl) kw_117 rfl rfl (tyX0_ok 4 (Nat.le_of_ble_eq_true rfl)) rfl rfl (Nat.le_of_ble_eq_true rfl) [(h, .inr (0, [.ref q7_5, .ref q15_9, .ref q23_13, .ref q31_17, .ref q39_21, .null, .null, .int 0, .int 0, .int 0])), (q7_5, .inl (cI, 64, .inl (fun _ => 0))), (q15_9, .inl (cI, 64, .inl (fun _ => 0))), (q23_13, .inl (cI, 64, .inl (fun _ => 0))), (q31_17, .inl (cI, 64, .inl (fun _ => 0))), (q39_21, .inl (cI, 64, .inl (fun _ => 0)))] rfl dX0_init_41 ?_
  refine za_aload_n B dX0_init_44 0 rfl rfl ?_
  refine za_bipush B (64) dX0_init_45 zc_bipush_64 ?_
  refine za_newa B (t0 := 1) (N := 64) kAcZ rfl (Or.inr rfl) rfl (by decide) (by decide) (Nat.le_of_ble_eq_true rfl) (Nat.le_of_ble_eq_true rfl) (Nat.le_of_ble_eq_true rfl) dX0_init_47 (fun q47_25 => ?_)
  refine za_ws [(h, .inr (0, [.ref q7_5, .ref q15_9, .ref q23_13, .ref q31_17, .ref q39_21, .null, .null, .int 0, .int 0, .int 0])), (q7_5, .inl (cI, 64, .inl (fun _ => 0))), (q15_9, .inl (cI, 64, .inl (fun _ => 0))), (q23_13, .inl (cI, 64, .inl (fun _ => 0))), (q31_17, .inl (cI, 64, .inl (fun _ => 0))), (q39_21, .inl (cI, 64, .inl (fun _ => 0))), (q47_25, .inl (cZ, 64, .inl (fun _ => 0)))] rfl ?_
  refine za_putF B hnm (q0 := 0) (j := 5) iX0 tyX0 tyX0_ok nmX0 rfl rfl (Nat.le_of_ble_eq_true rfl) kw_118 rfl rfl (tyX0_ok 5 (Nat.le_of_ble_eq_true rfl)) rfl rfl (Nat.le_of_ble_eq_true rfl) [(h, .inr (0, [.ref q7_5, .ref q15_9, .ref q23_13, .ref q31_17, .ref q39_21, .ref q47_25, .null, .int 0, .int 0, .int 0])), (q7_5, .inl (cI, 64, .inl (fun _ => 0))), (q15_9, .inl (cI, 64, .inl (fun _ => 0))), (q23_13, .inl (cI, 64, .inl (fun _ => 0))), (q31_17, .inl (cI, 64, .inl (fun _ => 0))), (q39_21, .inl (cI, 64, .inl (fun _ => 0))), (q47_25, .inl (cZ, 64, .inl (fun _ => 0)))] rfl dX0_init_49 ?_
  refine za_aload_n B dX0_init_52 0 rfl rfl ?_
  refine za_sipush B (10000) dX0_init_53 zc_sipush_10000 ?_
  refine za_newa B (t0 := 0) (N := 10000) kAcI rfl (Or.inl rfl) rfl (by decide) (by decide) (Nat.le_of_ble_eq_true rfl) (Nat.le_of_ble_eq_true rfl) (Nat.le_of_ble_eq_true rfl) dX0_init_56 (fun q56_29 => ?_)
  refine za_ws [(h, .inr (0, [.ref q7_5, .ref q15_9, .ref q23_13, .ref q31_17, .ref q39_21, .ref q47_25, .null, .int 0, .int 0, .int 0])), (q7_5, .inl (cI, 64, .inl (fun _ => 0))), (q15_9, .inl (cI, 64, .inl (fun _ => 0))), (q23_13, .inl (cI, 64, .inl (fun _ => 0))), (q31_17, .inl (cI, 64, .inl (fun _ => 0))), (q39_21, .inl (cI, 64, .inl (fun _ => 0))), (q47_25, .inl (cZ, 64, .inl (fun _ => 0))), (q56_29, .inl (cI, 10000, .inl (fun _ => 0)))] rfl ?_
  refine za_putF B hnm (q0 := 0) (j := 6) iX0 tyX0 tyX0_ok nmX0 rfl rfl (Nat.le_of_ble_eq_true rfl) kw_120 rfl rfl (tyX0_ok 6 (Nat.le_of_ble_eq_true rfl)) rfl rfl (Nat.le_of_ble_eq_true rfl) [(h, .inr (0, [.ref q7_5, .ref q15_9, .ref q23_13, .ref q31_17, .ref q39_21, .ref q47_25, .ref q56_29, .int 0, .int 0, .int 0])), (q7_5, .inl (cI, 64, .inl (fun _ => 0))), (q15_9, .inl (cI, 64, .inl (fun _ => 0))), (q23_13, .inl (cI, 64, .inl (fun _ => 0))), (q31_17, .inl (cI, 64, .inl (fun _ => 0))), (q39_21, .inl (cI, 64, .inl (fun _ => 0))), (q47_25, .inl (cZ, 64, .inl (fun _ => 0))), (q56_29, .inl (cI, 10000, .inl (fun _ => 0)))] rfl dX0_init_58 ?_
  exact za_return (post := po_X0_init cI cZ cS cD cE h) B (fun i => ([q7_5, q15_9, q23_13, q31_17, q39_21, q47_25, q56_29] : List Nat).getD i 0) dX0_init_61 rfl
theorem dX4_init_0 : decode cX4_init 0 = .ok (.aload_n 0, 1) := by decide +kernel
theorem dX4_init_1 : decode cX4_init 1 = .ok (.invokespecial 3, 3) := by decide +kernel
theorem dX4_init_4 : decode cX4_init 4 = .ok (.aload_n 0, 1) := by decide +kernel
theorem dX4_init_5 : decode cX4_init 5 = .ok (.iconst (-1), 1) := by decide +kernel
theorem dX4_init_6 : decode cX4_init 6 = .ok (.putfield 9, 3) := by decide +kernel
theorem dX4_init_9 : decode cX4_init 9 = .ok (.aload_n 0, 1) := by decide +kernel
theorem dX4_init_10 : decode cX4_init 10 = .ok (.iconst (-1), 1) := by decide +kernel
theorem dX4_init_11 : decode cX4_init 11 = .ok (.putfield 15, 3) := by decide +kernel
theorem dX4_init_14 : decode cX4_init 14 = .ok (.return_, 1) := by decide +kernel
def po_X4_init (cI cZ cS cD cE : ClassId) (h : Nat) (f : Nat → Nat) : va_W := [(h, .inr (4, [.int (-1), .int 0, .int 0, .int 0, .int 0, .int 0, .int (-1), .int 0, .int 0, .int 0, .int 0]))]
set_option maxRecDepth 20000 in
set_option maxHeartbeats 4000000 in
theorem kt_X4_init : Cond.code yX4_init cX4_init 1 none ∈ zTb := zIn1 99 rfl rfl
set_option maxRecDepth 20000 in
set_option maxHeartbeats 4000000 in
theorem cc_X4_init {cI cZ cS cD cE : ClassId} {tL tH tA : Nat} {l : Launch} {D : va_G} (h : Nat) : zMc l D (wdC cI cZ cS cD cE tL tH tA) yX4_init cX4_init 1 ({ frames := 1, cells := 0, slots := 0, locals := 12 }) [.ref h] [(h, .inr (4, [.int 0, .int 0, .int 0, .int 0, .int 0, .int 0, .int 0, .int 0, .int 0, .int 0, .int 0]))] (po_X4_init cI cZ cS cD cE h) 0 0 := by
  refine zMc_of sfC_ok rfl rfl (Nat.le_of_ble_eq_true rfl) [(0, .ref h)] rfl (fun X hX1 hX2 hnm B => ?_)
  have B : zC X 1 (wdC cI cZ cS cD cE tL tH tA) cX4_init RX4 none { frames := 1, cells := 0, slots := 0, locals := 12 } := B
  refine za_aload_n B dX4_init_0 0 rfl rfl ?_
  refine za_objInit B kw_155 kobjI kobjC dX4_init_1 (Nat.le_of_ble_eq_true rfl) (Nat.le_of_ble_eq_true rfl) ?_
  refine za_aload_n B dX4_init_4 0 rfl rfl ?_
  refine za_iconst B (-1) dX4_init_5 zc_iconst_m1 ?_
  refine za_putI B (q0 := 0) (j := 0) iX4 tyX4 tyX4_ok nmX4 rfl rfl (Nat.le_of_ble_eq_true rfl) kw_156 rfl (tyX4_ok 0 (Nat.le_of_ble_eq_true rfl)) (Nat.le_of_ble_eq_true rfl) [(h, .inr (4, [.int (-1), .int 0, .int 0, .int 0, .int 0, .int 0, .int 0, .int 0, .int 0, .int 0, .int 0]))] rfl dX4_init_6 ?_
  refine za_aload_n B dX4_init_9 0 rfl rfl ?_
  refine za_iconst B (-1) dX4_init_10 zc_iconst_m1 ?_
  refine za_putI B (q0 := 0) (j := 6) iX4 tyX4 tyX4_ok nmX4 rfl rfl (Nat.le_of_ble_eq_true rfl) kw_174 rfl (tyX4_ok 6 (Nat.le_of_ble_eq_true rfl)) (Nat.le_of_ble_eq_true rfl) [(h, .inr (4, [.int (-1), .int 0, .int 0, .int 0, .int 0, .int 0, .int (-1), .int 0, .int 0, .int 0, .int 0]))] rfl dX4_init_11 ?_
  exact za_return (post := po_X4_init cI cZ cS cD cE h) B (fun i => ([] : List Nat).getD i 0) dX4_init_14 rfl
theorem dX3_init_0 : decode cX3_init 0 = .ok (.aload_n 0, 1) := by decide +kernel
theorem dX3_init_1 : decode cX3_init 1 = .ok (.invokespecial 3, 3) := by decide +kernel
theorem dX3_init_4 : decode cX3_init 4 = .ok (.aload_n 0, 1) := by decide +kernel
theorem dX3_init_5 : decode cX3_init 5 = .ok (.sipush 400, 3) := by decide +kernel
theorem dX3_init_8 : decode cX3_init 8 = .ok (.newarray .int, 2) := by decide +kernel
theorem dX3_init_10 : decode cX3_init 10 = .ok (.putfield 9, 3) := by decide +kernel
theorem dX3_init_13 : decode cX3_init 13 = .ok (.aload_n 0, 1) := by decide +kernel
theorem dX3_init_14 : decode cX3_init 14 = .ok (.sipush 400, 3) := by decide +kernel
theorem dX3_init_17 : decode cX3_init 17 = .ok (.newarray .int, 2) := by decide +kernel
theorem dX3_init_19 : decode cX3_init 19 = .ok (.putfield 15, 3) := by decide +kernel
theorem dX3_init_22 : decode cX3_init 22 = .ok (.aload_n 0, 1) := by decide +kernel
theorem dX3_init_23 : decode cX3_init 23 = .ok (.sipush 400, 3) := by decide +kernel
theorem dX3_init_26 : decode cX3_init 26 = .ok (.newarray .int, 2) := by decide +kernel
theorem dX3_init_28 : decode cX3_init 28 = .ok (.putfield 18, 3) := by decide +kernel
theorem dX3_init_31 : decode cX3_init 31 = .ok (.return_, 1) := by decide +kernel
def po_X3_init (cI cZ cS cD cE : ClassId) (h : Nat) (f : Nat → Nat) : va_W := [(h, .inr (3, [.ref (f 0), .ref (f 1), .ref (f 2), .int 0, .int 0])), ((f 0), .inl (cI, 400, .inl (fun _ => 0))), ((f 1), .inl (cI, 400, .inl (fun _ => 0))), ((f 2), .inl (cI, 400, .inl (fun _ => 0)))]
set_option maxRecDepth 20000 in
set_option maxHeartbeats 4000000 in
theorem kt_X3_init : Cond.code yX3_init cX3_init 1 none ∈ zTb := zIn1 157 rfl rfl
set_option maxRecDepth 20000 in
set_option maxHeartbeats 4000000 in
theorem cc_X3_init {cI cZ cS cD cE : ClassId} {tL tH tA : Nat} {l : Launch} {D : va_G} (h : Nat) : zMc l D (wdC cI cZ cS cD cE tL tH tA) yX3_init cX3_init 1 ({ frames := 1, cells := 3, slots := 1200, locals := 12 }) [.ref h] [(h, .inr (3, [.null, .null, .null, .int 0, .int 0]))] (po_X3_init cI cZ cS cD cE h) 3 1200 := by
  refine zMc_of sfC_ok rfl rfl (Nat.le_of_ble_eq_true rfl) [(0, .ref h)] rfl (fun X hX1 hX2 hnm B => ?_)
  have B : zC X 1 (wdC cI cZ cS cD cE tL tH tA) cX3_init RX3 none { frames := 1, cells := 3, slots := 1200, locals := 12 } := B
  refine za_aload_n B dX3_init_0 0 rfl rfl ?_
  refine za_objInit B kw_213 kobjI kobjC dX3_init_1 (Nat.le_of_ble_eq_true rfl) (Nat.le_of_ble_eq_true rfl) ?_
  refine za_aload_n B dX3_init_4 0 rfl rfl ?_
  refine za_sipush B (400) dX3_init_5 zc_sipush_400 ?_
  refine za_newa B (t0 := 0) (N := 400) kAcI rfl (Or.inl rfl) rfl (by decide) (by decide) (Nat.le_of_ble_eq_true rfl) (Nat.le_of_ble_eq_true rfl) (Nat.le_of_ble_eq_true rfl) dX3_init_8 (fun q8_5 => ?_)
  refine za_ws [(h, .inr (3, [.null, .null, .null, .int 0, .int 0])), (q8_5, .inl (cI, 400, .inl (fun _ => 0)))] rfl ?_
  refine za_putF B hnm (q0 := 0) (j := 0) iX3 tyX3 tyX3_ok nmX3 rfl rfl (Nat.le_of_ble_eq_true rfl) kw_214 rfl rfl (tyX3_ok 0 (Nat.le_of_ble_eq_true rfl)) rfl rfl (Nat.le_of_ble_eq_true rfl) [(h, .inr (3, [.ref q8_5, .null, .null, .int 0, .int 0])), (q8_5, .inl (cI, 400, .inl (fun _ => 0)))] rfl dX3_init_10 ?_
  refine za_aload_n B dX3_init_13 0 rfl rfl ?_
  refine za_sipush B (400) dX3_init_14 zc_sipush_400 ?_
  refine za_newa B (t0 := 0) (N := 400) kAcI rfl (Or.inl rfl) rfl (by decide) (by decide) (Nat.le_of_ble_eq_true rfl) (Nat.le_of_ble_eq_true rfl) (Nat.le_of_ble_eq_true rfl) dX3_init_17 (fun q17_9 => ?_)
  refine za_ws [(h, .inr (3, [.ref q8_5, .null, .null, .int 0, .int 0])), (q8_5, .inl (cI, 400, .inl (fun _ => 0))), (q17_9, .inl (cI, 400, .inl (fun _ => 0)))] rfl ?_
  refine za_putF B hnm (q0 := 0) (j := 1) iX3 tyX3 tyX3_ok nmX3 rfl rfl (Nat.le_of_ble_eq_true rfl) kw_215 rfl rfl (tyX3_ok 1 (Nat.le_of_ble_eq_true rfl)) rfl rfl (Nat.le_of_ble_eq_true rfl) [(h, .inr (3, [.ref q8_5, .ref q17_9, .null, .int 0, .int 0])), (q8_5, .inl (cI, 400, .inl (fun _ => 0))), (q17_9, .inl (cI, 400, .inl (fun _ => 0)))] rfl dX3_init_19 ?_
  refine za_aload_n B dX3_init_22 0 rfl rfl ?_
  refine za_sipush B (400) dX3_init_23 zc_sipush_400 ?_
  refine za_newa B (t0 := 0) (N := 400) kAcI rfl (Or.inl rfl) rfl (by decide) (by decide) (Nat.le_of_ble_eq_true rfl) (Nat.le_of_ble_eq_true rfl) (Nat.le_of_ble_eq_true rfl) dX3_init_26 (fun q26_13 => ?_)
  refine za_ws [(h, .inr (3, [.ref q8_5, .ref q17_9, .null, .int 0, .int 0])), (q8_5, .inl (cI, 400, .inl (fun _ => 0))), (q17_9, .inl (cI, 400, .inl (fun _ => 0))), (q26_13, .inl (cI, 400, .inl (fun _ => 0)))] rfl ?_
  refine za_putF B hnm (q0 := 0) (j := 2) iX3 tyX3 tyX3_ok nmX3 rfl rfl (Nat.le_of_ble_eq_true rfl) kw_216 rfl rfl (tyX3_ok 2 (Nat.le_of_ble_eq_true rfl)) rfl rfl (Nat.le_of_ble_eq_true rfl) [(h, .inr (3, [.ref q8_5, .ref q17_9, .ref q26_13, .int 0, .int 0])), (q8_5, .inl (cI, 400, .inl (fun _ => 0))), (q17_9, .inl (cI, 400, .inl (fun _ => 0))), (q26_13, .inl (cI, 400, .inl (fun _ => 0)))] rfl dX3_init_28 ?_
  exact za_return (post := po_X3_init cI cZ cS cD cE h) B (fun i => ([q8_5, q17_9, q26_13] : List Nat).getD i 0) dX3_init_31 rfl
theorem dX6_init_0 : decode cX6_init 0 = .ok (.aload_n 0, 1) := by decide +kernel
theorem dX6_init_1 : decode cX6_init 1 = .ok (.invokespecial 3, 3) := by decide +kernel
theorem dX6_init_4 : decode cX6_init 4 = .ok (.aload_n 0, 1) := by decide +kernel
theorem dX6_init_5 : decode cX6_init 5 = .ok (.sipush 160, 3) := by decide +kernel
theorem dX6_init_8 : decode cX6_init 8 = .ok (.newarray .int, 2) := by decide +kernel
theorem dX6_init_10 : decode cX6_init 10 = .ok (.putfield 9, 3) := by decide +kernel
theorem dX6_init_13 : decode cX6_init 13 = .ok (.return_, 1) := by decide +kernel
def po_X6_init (cI cZ cS cD cE : ClassId) (h : Nat) (f : Nat → Nat) : va_W := [(h, .inr (6, [.ref (f 0), .int 0, .int 0])), ((f 0), .inl (cI, 160, .inl (fun _ => 0)))]
set_option maxRecDepth 20000 in
set_option maxHeartbeats 4000000 in
theorem kt_X6_init : Cond.code yX6_init cX6_init 1 none ∈ zTb := zIn1 182 rfl rfl
set_option maxRecDepth 20000 in
set_option maxHeartbeats 4000000 in
theorem cc_X6_init {cI cZ cS cD cE : ClassId} {tL tH tA : Nat} {l : Launch} {D : va_G} (h : Nat) : zMc l D (wdC cI cZ cS cD cE tL tH tA) yX6_init cX6_init 1 ({ frames := 1, cells := 1, slots := 160, locals := 12 }) [.ref h] [(h, .inr (6, [.null, .int 0, .int 0]))] (po_X6_init cI cZ cS cD cE h) 1 160 := by
  refine zMc_of sfC_ok rfl rfl (Nat.le_of_ble_eq_true rfl) [(0, .ref h)] rfl (fun X hX1 hX2 hnm B => ?_)
  have B : zC X 1 (wdC cI cZ cS cD cE tL tH tA) cX6_init RX6 none { frames := 1, cells := 1, slots := 160, locals := 12 } := B
  refine za_aload_n B dX6_init_0 0 rfl rfl ?_
  refine za_objInit B kw_238 kobjI kobjC dX6_init_1 (Nat.le_of_ble_eq_true rfl) (Nat.le_of_ble_eq_true rfl) ?_
  refine za_aload_n B dX6_init_4 0 rfl rfl ?_
  refine za_sipush B (160) dX6_init_5 zc_sipush_160 ?_
  refine za_newa B (t0 := 0) (N := 160) kAcI rfl (Or.inl rfl) rfl (by decide) (by decide) (Nat.le_of_ble_eq_true rfl) (Nat.le_of_ble_eq_true rfl) (Nat.le_of_ble_eq_true rfl) dX6_init_8 (fun q8_5 => ?_)
  refine za_ws [(h, .inr (6, [.null, .int 0, .int 0])), (q8_5, .inl (cI, 160, .inl (fun _ => 0)))] rfl ?_
  refine za_putF B hnm (q0 := 0) (j := 0) iX6 tyX6 tyX6_ok nmX6 rfl rfl (Nat.le_of_ble_eq_true rfl) kw_239 rfl rfl (tyX6_ok 0 (Nat.le_of_ble_eq_true rfl)) rfl rfl (Nat.le_of_ble_eq_true rfl) [(h, .inr (6, [.ref q8_5, .int 0, .int 0])), (q8_5, .inl (cI, 160, .inl (fun _ => 0)))] rfl dX6_init_10 ?_
  exact za_return (post := po_X6_init cI cZ cS cD cE h) B (fun i => ([q8_5] : List Nat).getD i 0) dX6_init_13 rfl
theorem dX5_init_0 : decode cX5_init 0 = .ok (.aload_n 0, 1) := by decide +kernel
theorem dX5_init_1 : decode cX5_init 1 = .ok (.invokespecial 3, 3) := by decide +kernel
theorem dX5_init_4 : decode cX5_init 4 = .ok (.aload_n 0, 1) := by decide +kernel
theorem dX5_init_5 : decode cX5_init 5 = .ok (.sipush 10000, 3) := by decide +kernel
theorem dX5_init_8 : decode cX5_init 8 = .ok (.newarray .int, 2) := by decide +kernel
theorem dX5_init_10 : decode cX5_init 10 = .ok (.putfield 9, 3) := by decide +kernel
theorem dX5_init_13 : decode cX5_init 13 = .ok (.aload_n 0, 1) := by decide +kernel
theorem dX5_init_14 : decode cX5_init 14 = .ok (.sipush 400, 3) := by decide +kernel
theorem dX5_init_17 : decode cX5_init 17 = .ok (.newarray .int, 2) := by decide +kernel
theorem dX5_init_19 : decode cX5_init 19 = .ok (.putfield 15, 3) := by decide +kernel
theorem dX5_init_22 : decode cX5_init 22 = .ok (.aload_n 0, 1) := by decide +kernel
theorem dX5_init_23 : decode cX5_init 23 = .ok (.bipush 64, 2) := by decide +kernel
theorem dX5_init_25 : decode cX5_init 25 = .ok (.newarray .int, 2) := by decide +kernel
theorem dX5_init_27 : decode cX5_init 27 = .ok (.putfield 18, 3) := by decide +kernel
theorem dX5_init_30 : decode cX5_init 30 = .ok (.aload_n 0, 1) := by decide +kernel
theorem dX5_init_31 : decode cX5_init 31 = .ok (.bipush 64, 2) := by decide +kernel
theorem dX5_init_33 : decode cX5_init 33 = .ok (.newarray .int, 2) := by decide +kernel
theorem dX5_init_35 : decode cX5_init 35 = .ok (.putfield 21, 3) := by decide +kernel
theorem dX5_init_38 : decode cX5_init 38 = .ok (.aload_n 0, 1) := by decide +kernel
theorem dX5_init_39 : decode cX5_init 39 = .ok (.aload_n 1, 1) := by decide +kernel
theorem dX5_init_40 : decode cX5_init 40 = .ok (.putfield 24, 3) := by decide +kernel
theorem dX5_init_43 : decode cX5_init 43 = .ok (.return_, 1) := by decide +kernel
def po_X5_init (cI cZ cS cD cE : ClassId) (h hh : Nat) (f : Nat → Nat) : va_W := [(h, .inr (5, [.ref hh, .ref (f 0), .ref (f 1), .ref (f 2), .ref (f 3), .int 0])), ((f 0), .inl (cI, 10000, .inl (fun _ => 0))), ((f 1), .inl (cI, 400, .inl (fun _ => 0))), ((f 2), .inl (cI, 64, .inl (fun _ => 0))), ((f 3), .inl (cI, 64, .inl (fun _ => 0)))]
set_option maxRecDepth 20000 in
set_option maxHeartbeats 4000000 in
theorem kt_X5_init : Cond.code yX5_init cX5_init 2 none ∈ zTb := zIn1 235 rfl rfl
set_option maxRecDepth 20000 in
set_option maxHeartbeats 4000000 in
theorem cc_X5_init {cI cZ cS cD cE : ClassId} {tL tH tA : Nat} {l : Launch} {D : va_G} (h hh : Nat) : zMc l D (wdC cI cZ cS cD cE tL tH tA) yX5_init cX5_init 2 ({ frames := 1, cells := 4, slots := 10528, locals := 12 }) [.ref h, .ref hh] [(h, .inr (5, [.null, .null, .null, .null, .null, .int 0]))] (po_X5_init cI cZ cS cD cE h hh) 4 10528 := by
  refine zMc_of sfC_ok rfl rfl (Nat.le_of_ble_eq_true rfl) [(0, .ref h), (1, .ref hh)] rfl (fun X hX1 hX2 hnm B => ?_)
  have B : zC X 2 (wdC cI cZ cS cD cE tL tH tA) cX5_init RX5 none { frames := 1, cells := 4, slots := 10528, locals := 12 } := B
  refine za_aload_n B dX5_init_0 0 rfl rfl ?_
  refine za_objInit B kw_291 kobjI kobjC dX5_init_1 (Nat.le_of_ble_eq_true rfl) (Nat.le_of_ble_eq_true rfl) ?_
  refine za_aload_n B dX5_init_4 0 rfl rfl ?_
  refine za_sipush B (10000) dX5_init_5 zc_sipush_10000 ?_
  refine za_newa B (t0 := 0) (N := 10000) kAcI rfl (Or.inl rfl) rfl (by decide) (by decide) (Nat.le_of_ble_eq_true rfl) (Nat.le_of_ble_eq_true rfl) (Nat.le_of_ble_eq_true rfl) dX5_init_8 (fun q8_5 => ?_)
  refine za_ws [(h, .inr (5, [.null, .null, .null, .null, .null, .int 0])), (q8_5, .inl (cI, 10000, .inl (fun _ => 0)))] rfl ?_
  refine za_putF B hnm (q0 := 0) (j := 1) iX5 tyX5 tyX5_ok nmX5 rfl rfl (Nat.le_of_ble_eq_true rfl) kw_293 rfl rfl (tyX5_ok 1 (Nat.le_of_ble_eq_true rfl)) rfl rfl (Nat.le_of_ble_eq_true rfl) [(h, .inr (5, [.null, .ref q8_5, .null, .null, .null, .int 0])), (q8_5, .inl (cI, 10000, .inl (fun _ => 0)))] rfl dX5_init_10 ?_
  refine za_aload_n B dX5_init_13 0 rfl rfl ?_
  refine za_sipush B (400) dX5_init_14 zc_sipush_400 ?_
  refine za_newa B (t0 := 0) (N := 400) kAcI rfl (Or.inl rfl) rfl (by decide) (by decide) (Nat.le_of_ble_eq_true rfl) (Nat.le_of_ble_eq_true rfl) (Nat.le_of_ble_eq_true rfl) dX5_init_17 (fun q17_9 => ?_)
  refine za_ws [(h, .inr (5, [.null, .ref q8_5, .null, .null, .null, .int 0])), (q8_5, .inl (cI, 10000, .inl (fun _ => 0))), (q17_9, .inl (cI, 400, .inl (fun _ => 0)))] rfl ?_
  refine za_putF B hnm (q0 := 0) (j := 2) iX5 tyX5 tyX5_ok nmX5 rfl rfl (Nat.le_of_ble_eq_true rfl) kw_294 rfl rfl (tyX5_ok 2 (Nat.le_of_ble_eq_true rfl)) rfl rfl (Nat.le_of_ble_eq_true rfl) [(h, .inr (5, [.null, .ref q8_5, .ref q17_9, .null, .null, .int 0])), (q8_5, .inl (cI, 10000, .inl (fun _ => 0))), (q17_9, .inl (cI, 400, .inl (fun _ => 0)))] rfl dX5_init_19 ?_
  refine za_aload_n B dX5_init_22 0 rfl rfl ?_
  refine za_bipush B (64) dX5_init_23 zc_bipush_64 ?_
  refine za_newa B (t0 := 0) (N := 64) kAcI rfl (Or.inl rfl) rfl (by decide) (by decide) (Nat.le_of_ble_eq_true rfl) (Nat.le_of_ble_eq_true rfl) (Nat.le_of_ble_eq_true rfl) dX5_init_25 (fun q25_13 => ?_)
  refine za_ws [(h, .inr (5, [.null, .ref q8_5, .ref q17_9, .null, .null, .int 0])), (q8_5, .inl (cI, 10000, .inl (fun _ => 0))), (q17_9, .inl (cI, 400, .inl (fun _ => 0))), (q25_13, .inl (cI, 64, .inl (fun _ => 0)))] rfl ?_
  refine za_putF B hnm (q0 := 0) (j := 3) iX5 tyX5 tyX5_ok nmX5 rfl rfl (Nat.le_of_ble_eq_true rfl) kw_295 rfl rfl (tyX5_ok 3 (Nat.le_of_ble_eq_true rfl)) rfl rfl (Nat.le_of_ble_eq_true rfl) [(h, .inr (5, [.null, .ref q8_5, .ref q17_9, .ref q25_13, .null, .int 0])), (q8_5, .inl (cI, 10000, .inl (fun _ => 0))), (q17_9, .inl (cI, 400, .inl (fun _ => 0))), (q25_13, .inl (cI, 64, .inl (fun _ => 0)))] rfl dX5_init_27 ?_
  refine za_aload_n B dX5_init_30 0 rfl rfl ?_
  refine za_bipush B (64) dX5_init_31 zc_bipush_64 ?_
  refine za_newa B (t0 := 0) (N := 64) kAcI rfl (Or.inl rfl) rfl (by decide) (by decide) (Nat.le_of_ble_eq_true rfl) (Nat.le_of_ble_eq_true rfl) (Nat.le_of_ble_eq_true rfl) dX5_init_33 (fun q33_17 => ?_)
  refine za_ws [(h, .inr (5, [.null, .ref q8_5, .ref q17_9, .ref q25_13, .null, .int 0])), (q8_5, .inl (cI, 10000, .inl (fun _ => 0))), (q17_9, .inl (cI, 400, .inl (fun _ => 0))), (q25_13, .inl (cI, 64, .inl (fun _ => 0))), (q33_17, .inl (cI, 64, .inl (fun _ => 0)))] rfl ?_
  refine za_putF B hnm (q0 := 0) (j := 4) iX5 tyX5 tyX5_ok nmX5 rfl rfl (Nat.le_of_ble_eq_true rfl) kw_296 rfl rfl (tyX5_ok 4 (Nat.le_of_ble_eq_true rfl)) rfl rfl (Nat.le_of_ble_eq_true rfl) [(h, .inr (5, [.null, .ref q8_5, .ref q17_9, .ref q25_13, .ref q33_17, .int 0])), (q8_5, .inl (cI, 10000, .inl (fun _ => 0))), (q17_9, .inl (cI, 400, .inl (fun _ => 0))), (q25_13, .inl (cI, 64, .inl (fun _ => 0))), (q33_17, .inl (cI, 64, .inl (fun _ => 0)))] rfl dX5_init_35 ?_
  refine za_aload_n B dX5_init_38 0 rfl rfl ?_
  refine za_aload_n B dX5_init_39 1 rfl rfl ?_
  refine za_putF B hnm (q0 := 0) (j := 0) iX5 tyX5 tyX5_ok nmX5 rfl rfl (Nat.le_of_ble_eq_true rfl) kw_292 rfl rfl (tyX5_ok 0 (Nat.le_of_ble_eq_true rfl)) rfl rfl (Nat.le_of_ble_eq_true rfl) [(h, .inr (5, [.ref hh, .ref q8_5, .ref q17_9, .ref q25_13, .ref q33_17, .int 0])), (q8_5, .inl (cI, 10000, .inl (fun _ => 0))), (q17_9, .inl (cI, 400, .inl (fun _ => 0))), (q25_13, .inl (cI, 64, .inl (fun _ => 0))), (q33_17, .inl (cI, 64, .inl (fun _ => 0)))] rfl dX5_init_40 ?_
  exact za_return (post := po_X5_init cI cZ cS cD cE h hh) B (fun i => ([q8_5, q17_9, q25_13, q33_17] : List Nat).getD i 0) dX5_init_43 rfl
theorem dX2_init_0 : decode cX2_init 0 = .ok (.aload_n 0, 1) := by decide +kernel
theorem dX2_init_1 : decode cX2_init 1 = .ok (.invokespecial 3, 3) := by decide +kernel
theorem dX2_init_4 : decode cX2_init 4 = .ok (.aload_n 0, 1) := by decide +kernel
theorem dX2_init_5 : decode cX2_init 5 = .ok (.aload_n 1, 1) := by decide +kernel
theorem dX2_init_6 : decode cX2_init 6 = .ok (.putfield 9, 3) := by decide +kernel
theorem dX2_init_9 : decode cX2_init 9 = .ok (.aload_n 0, 1) := by decide +kernel
theorem dX2_init_10 : decode cX2_init 10 = .ok (.bipush 10, 2) := by decide +kernel
theorem dX2_init_12 : decode cX2_init 12 = .ok (.newarray .int, 2) := by decide +kernel
theorem dX2_init_14 : decode cX2_init 14 = .ok (.putfield 15, 3) := by decide +kernel
theorem dX2_init_17 : decode cX2_init 17 = .ok (.getstatic 19, 3) := by decide +kernel
theorem dX2_init_20 : decode cX2_init 20 = .ok (.iconst 0, 1) := by decide +kernel
theorem dX2_init_21 : decode cX2_init 21 = .ok (.aload_n 0, 1) := by decide +kernel
theorem dX2_init_22 : decode cX2_init 22 = .ok (.getfield 15, 3) := by decide +kernel
theorem dX2_init_25 : decode cX2_init 25 = .ok (.iconst 0, 1) := by decide +kernel
theorem dX2_init_26 : decode cX2_init 26 = .ok (.bipush 10, 2) := by decide +kernel
theorem dX2_init_28 : decode cX2_init 28 = .ok (.invokestatic 22, 3) := by decide +kernel
theorem dX2_init_31 : decode cX2_init 31 = .ok (.aload_n 0, 1) := by decide +kernel
theorem dX2_init_32 : decode cX2_init 32 = .ok (.bipush 34, 2) := by decide +kernel
theorem dX2_init_34 : decode cX2_init 34 = .ok (.newarray .int, 2) := by decide +kernel
theorem dX2_init_36 : decode cX2_init 36 = .ok (.putfield 28, 3) := by decide +kernel
theorem dX2_init_39 : decode cX2_init 39 = .ok (.aload_n 0, 1) := by decide +kernel
theorem dX2_init_40 : decode cX2_init 40 = .ok (.new 31, 3) := by decide +kernel
theorem dX2_init_43 : decode cX2_init 43 = .ok (.dup, 1) := by decide +kernel
theorem dX2_init_44 : decode cX2_init 44 = .ok (.invokespecial 33, 3) := by decide +kernel
theorem dX2_init_47 : decode cX2_init 47 = .ok (.putfield 34, 3) := by decide +kernel
theorem dX2_init_50 : decode cX2_init 50 = .ok (.aload_n 0, 1) := by decide +kernel
theorem dX2_init_51 : decode cX2_init 51 = .ok (.bipush 6, 2) := by decide +kernel
theorem dX2_init_53 : decode cX2_init 53 = .ok (.anewarray 38, 3) := by decide +kernel
theorem dX2_init_56 : decode cX2_init 56 = .ok (.putfield 40, 3) := by decide +kernel
theorem dX2_init_59 : decode cX2_init 59 = .ok (.iconst 0, 1) := by decide +kernel
theorem dX2_init_60 : decode cX2_init 60 = .ok (.istore_n 2, 1) := by decide +kernel
theorem dX2_init_61 : decode cX2_init 61 = .ok (.iload_n 2, 1) := by decide +kernel
theorem dX2_init_62 : decode cX2_init 62 = .ok (.bipush 6, 2) := by decide +kernel
theorem dX2_init_64 : decode cX2_init 64 = .ok (.if_icmp .ge 22, 3) := by decide +kernel
theorem dX2_init_67 : decode cX2_init 67 = .ok (.aload_n 0, 1) := by decide +kernel
theorem dX2_init_68 : decode cX2_init 68 = .ok (.getfield 40, 3) := by decide +kernel
theorem dX2_init_71 : decode cX2_init 71 = .ok (.iload_n 2, 1) := by decide +kernel
theorem dX2_init_72 : decode cX2_init 72 = .ok (.new 38, 3) := by decide +kernel
theorem dX2_init_75 : decode cX2_init 75 = .ok (.dup, 1) := by decide +kernel
theorem dX2_init_76 : decode cX2_init 76 = .ok (.invokespecial 44, 3) := by decide +kernel
theorem dX2_init_79 : decode cX2_init 79 = .ok (.aastore, 1) := by decide +kernel
theorem dX2_init_80 : decode cX2_init 80 = .ok (.iinc 2 1, 3) := by decide +kernel
theorem dX2_init_83 : decode cX2_init 83 = .ok (.goto (-22), 3) := by decide +kernel
theorem dX2_init_86 : decode cX2_init 86 = .ok (.aload_n 0, 1) := by decide +kernel
theorem dX2_init_87 : decode cX2_init 87 = .ok (.new 45, 3) := by decide +kernel
theorem dX2_init_90 : decode cX2_init 90 = .ok (.dup, 1) := by decide +kernel
theorem dX2_init_91 : decode cX2_init 91 = .ok (.invokespecial 47, 3) := by decide +kernel
theorem dX2_init_94 : decode cX2_init 94 = .ok (.putfield 48, 3) := by decide +kernel
theorem dX2_init_97 : decode cX2_init 97 = .ok (.aload_n 0, 1) := by decide +kernel
theorem dX2_init_98 : decode cX2_init 98 = .ok (.new 52, 3) := by decide +kernel
theorem dX2_init_101 : decode cX2_init 101 = .ok (.dup, 1) := by decide +kernel
theorem dX2_init_102 : decode cX2_init 102 = .ok (.invokespecial 54, 3) := by decide +kernel
theorem dX2_init_105 : decode cX2_init 105 = .ok (.putfield 55, 3) := by decide +kernel
theorem dX2_init_108 : decode cX2_init 108 = .ok (.aload_n 0, 1) := by decide +kernel
theorem dX2_init_109 : decode cX2_init 109 = .ok (.bipush 32, 2) := by decide +kernel
theorem dX2_init_111 : decode cX2_init 111 = .ok (.newarray .int, 2) := by decide +kernel
theorem dX2_init_113 : decode cX2_init 113 = .ok (.putfield 59, 3) := by decide +kernel
theorem dX2_init_116 : decode cX2_init 116 = .ok (.aload_n 0, 1) := by decide +kernel
theorem dX2_init_117 : decode cX2_init 117 = .ok (.iconst (-1), 1) := by decide +kernel
theorem dX2_init_118 : decode cX2_init 118 = .ok (.putfield 62, 3) := by decide +kernel
theorem dX2_init_121 : decode cX2_init 121 = .ok (.return_, 1) := by decide +kernel
def po_X2_init (cI cZ cS cD cE : ClassId) (h dk : Nat) (f : Nat → Nat) : va_W := [(h, .inr (2, [.ref dk, .ref (f 0), .ref (f 1), .ref (f 2), .ref (f 10), .ref (f 17), .ref (f 21), .ref (f 23), .int 0, .int (-1)])), ((f 0), .inl (cI, 10, .inl (va_cpy atF (fun _ => 0) 0 0 10))), ((f 1), .inl (cI, 34, .inl (fun _ => 0))), ((f 2), .inr (0, [.ref (f 3), .ref (f 4), .ref (f 5), .ref (f 6), .ref (f 7), .ref (f 8), .ref (f 9), .int 0, .int 0, .int 0])), ((f 3), .inl (cI, 64, .inl (fun _ => 0))), ((f 4), .inl (cI, 64, .inl (fun _ => 0))), ((f 5), .inl (cI, 64, .inl (fun _ => 0))), ((f 6), .inl (cI, 64, .inl (fun _ => 0))), ((f 7), .inl (cI, 64, .inl (fun _ => 0))), ((f 8), .inl (cZ, 64, .inl (fun _ => 0))), ((f 9), .inl (cI, 10000, .inl (fun _ => 0))), ((f 10), .inl (cS, 6, .inr (.inr (.inr (.inr (va_up (va_up (va_up (va_up (va_up (va_up (fun _ => none) 0 (some (f 11))) 1 (some (f 12))) 2 (some (f 13))) 3 (some (f 14))) 4 (some (f 15))) 5 (some (f 16)))))))), ((f 11), .inr (4, [.int (-1), .int 0, .int 0, .int 0, .int 0, .int 0, .int (-1), .int 0, .int 0, .int 0, .int 0])), ((f 12), .inr (4, [.int (-1), .int 0, .int 0, .int 0, .int 0, .int 0, .int (-1), .int 0, .int 0, .int 0, .int 0])), ((f 13), .inr (4, [.int (-1), .int 0, .int 0, .int 0, .int 0, .int 0, .int (-1), .int 0, .int 0, .int 0, .int 0])), ((f 14), .inr (4, [.int (-1), .int 0, .int 0, .int 0, .int 0, .int 0, .int (-1), .int 0, .int 0, .int 0, .int 0])), ((f 15), .inr (4, [.int (-1), .int 0, .int 0, .int 0, .int 0, .int 0, .int (-1), .int 0, .int 0, .int 0, .int 0])), ((f 16), .inr (4, [.int (-1), .int 0, .int 0, .int 0, .int 0, .int 0, .int (-1), .int 0, .int 0, .int 0, .int 0])), ((f 17), .inr (3, [.ref (f 18), .ref (f 19), .ref (f 20), .int 0, .int 0])), ((f 18), .inl (cI, 400, .inl (fun _ => 0))), ((f 19), .inl (cI, 400, .inl (fun _ => 0))), ((f 20), .inl (cI, 400, .inl (fun _ => 0))), ((f 21), .inr (6, [.ref (f 22), .int 0, .int 0])), ((f 22), .inl (cI, 160, .inl (fun _ => 0))), ((f 23), .inl (cI, 32, .inl (fun _ => 0)))]
set_option maxRecDepth 20000 in
set_option maxHeartbeats 4000000 in
theorem kt_X2_init : Cond.code yX2_init cX2_init 3 none ∈ zTb := zIn1 41 rfl rfl
set_option maxRecDepth 20000 in
set_option maxHeartbeats 4000000 in
theorem cc_X2_init {cI cZ cS cD cE : ClassId} {tL tH tA : Nat} {l : Launch} {D : va_G} (h dk : Nat) : zMc l D (wdC cI cZ cS cD cE tL tH tA) yX2_init cX2_init 3 ({ frames := 2, cells := 24, slots := 11910, locals := 32 }) [.ref h, .ref dk] [(h, .inr (2, [.null, .null, .null, .null, .null, .null, .null, .null, .int 0, .int 0]))] (po_X2_init cI cZ cS cD cE h dk) 24 11910 := by
  refine zMc_of sfC_ok rfl rfl (Nat.le_of_ble_eq_true rfl) [(0, .ref h), (1, .ref dk)] rfl (fun X hX1 hX2 hnm B => ?_)
  have B : zC X 3 (wdC cI cZ cS cD cE tL tH tA) cX2_init RX2 none { frames := 2, cells := 24, slots := 11910, locals := 32 } := B
  refine za_aload_n B dX2_init_0 0 rfl rfl ?_
  refine za_objInit B kw_97 kobjI kobjC dX2_init_1 (Nat.le_of_ble_eq_true rfl) (Nat.le_of_ble_eq_true rfl) ?_
  refine za_aload_n B dX2_init_4 0 rfl rfl ?_
  refine za_aload_n B dX2_init_5 1 rfl rfl ?_
  refine za_putF B hnm (q0 := 0) (j := 0) iX2 tyX2 tyX2_ok nmX2 rfl rfl (Nat.le_of_ble_eq_true rfl) kw_250 rfl rfl (tyX2_ok 0 (Nat.le_of_ble_eq_true rfl)) rfl rfl (Nat.le_of_ble_eq_true rfl) [(h, .inr (2, [.ref dk, .null, .null, .null, .null, .null, .null, .null, .int 0, .int 0]))] rfl dX2_init_6 ?_
  refine za_aload_n B dX2_init_9 0 rfl rfl ?_
  refine za_bipush B (10) dX2_init_10 zc_bipush_10 ?_
  refine za_newa B (t0 := 0) (N := 10) kAcI rfl (Or.inl rfl) rfl (by decide) (by decide) (Nat.le_of_ble_eq_true rfl) (Nat.le_of_ble_eq_true rfl) (Nat.le_of_ble_eq_true rfl) dX2_init_12 (fun q12_8 => ?_)
  refine za_ws [(h, .inr (2, [.ref dk, .null, .null, .null, .null, .null, .null, .null, .int 0, .int 0])), (q12_8, .inl (cI, 10, .inl (fun _ => 0)))] rfl ?_
  refine za_putF B hnm (q0 := 0) (j := 1) iX2 tyX2 tyX2_ok nmX2 rfl rfl (Nat.le_of_ble_eq_true rfl) kw_251 rfl rfl (tyX2_ok 1 (Nat.le_of_ble_eq_true rfl)) rfl rfl (Nat.le_of_ble_eq_true rfl) [(h, .inr (2, [.ref dk, .ref q12_8, .null, .null, .null, .null, .null, .null, .int 0, .int 0])), (q12_8, .inl (cI, 10, .inl (fun _ => 0)))] rfl dX2_init_14 ?_
  refine za_getsN B (sfC_ZA B) (sfC_NA B) dX2_init_17 ?_
  refine za_iconst B (0) dX2_init_20 zc_iconst_0 ?_
  refine za_aload_n B dX2_init_21 0 rfl rfl ?_
  refine za_get B (q0 := 0) (j := 1) iX2 rfl rfl (Nat.le_of_ble_eq_true rfl) kw_251 rfl dX2_init_22 ?_
  refine za_iconst B (0) dX2_init_25 zc_iconst_0 ?_
  refine za_bipush B (10) dX2_init_26 zc_bipush_10 ?_
  refine za_copyS B (q1 := 1) (t1 := 0) kw_100 kaN kaS kaI (sfC_TA B) rfl rfl (by decide) (by decide) (by decide) (Nat.le_of_ble_eq_true rfl) (Nat.le_of_ble_eq_true rfl) [(h, .inr (2, [.ref dk, .ref q12_8, .null, .null, .null, .null, .null, .null, .int 0, .int 0])), (q12_8, .inl (cI, 10, .inl (va_cpy atF (fun _ => 0) 0 0 10)))] rfl dX2_init_28 ?_
  refine za_aload_n B dX2_init_31 0 rfl rfl ?_
  refine za_bipush B (34) dX2_init_32 zc_bipush_34 ?_
  refine za_newa B (t0 := 0) (N := 34) kAcI rfl (Or.inl rfl) rfl (by decide) (by decide) (Nat.le_of_ble_eq_true rfl) (Nat.le_of_ble_eq_true rfl) (Nat.le_of_ble_eq_true rfl) dX2_init_34 (fun q34_19 => ?_)
  refine za_ws [(h, .inr (2, [.ref dk, .ref q12_8, .null, .null, .null, .null, .null, .null, .int 0, .int 0])), (q12_8, .inl (cI, 10, .inl (va_cpy atF (fun _ => 0) 0 0 10))), (q34_19, .inl (cI, 34, .inl (fun _ => 0)))] rfl ?_
  refine za_putF B hnm (q0 := 0) (j := 2) iX2 tyX2 tyX2_ok nmX2 rfl rfl (Nat.le_of_ble_eq_true rfl) kw_252 rfl rfl (tyX2_ok 2 (Nat.le_of_ble_eq_true rfl)) rfl rfl (Nat.le_of_ble_eq_true rfl) [(h, .inr (2, [.ref dk, .ref q12_8, .ref q34_19, .null, .null, .null, .null, .null, .int 0, .int 0])), (q12_8, .inl (cI, 10, .inl (va_cpy atF (fun _ => 0) 0 0 10))), (q34_19, .inl (cI, 34, .inl (fun _ => 0)))] rfl dX2_init_36 ?_
  refine za_aload_n B dX2_init_39 0 rfl rfl ?_
  refine za_new B (ci := 0) (fs := [.null, .null, .null, .null, .null, .null, .null, .int 0, .int 0, .int 0]) iX0 tyX0 tyX0_ok kw_103 kw_104 kw_60 rfl (by decide +kernel) (Nat.le_of_ble_eq_true rfl) (Nat.le_of_ble_eq_true rfl) dX2_init_40 (fun q40_22 => ?_)
  refine za_dup B dX2_init_43 rfl ?_
  refine za_callIN B (wr := [(h, .inr (2, [.ref dk, .ref q12_8, .ref q34_19, .null, .null, .null, .null, .null, .int 0, .int 0])), (q12_8, .inl (cI, 10, .inl (va_cpy atF (fun _ => 0) 0 0 10))), (q34_19, .inl (cI, 34, .inl (fun _ => 0)))]) (wc := [(q40_22, .inr (0, [.null, .null, .null, .null, .null, .null, .null, .int 0, .int 0, .int 0]))]) (As := []) (sfC_NX2_33 B) kw_106 (show Cond.initialized yX0_init.cls ∈ zTb from kw_60) kt_X0_init ⟨by decide, by decide, by decide⟩ rfl dX2_init_44 (cc_X0_init q40_22) rfl rfl (Nat.le_of_ble_eq_true rfl) rfl rfl ⟨(Nat.le_of_ble_eq_true rfl), (Nat.le_of_ble_eq_true rfl)⟩ ⟨(Nat.le_of_ble_eq_true rfl), (Nat.le_of_ble_eq_true rfl)⟩ (fun f44_24 => ?_)
  refine za_ws [(h, .inr (2, [.ref dk, .ref q12_8, .ref q34_19, .null, .null, .null, .null, .null, .int 0, .int 0])), (q12_8, .inl (cI, 10, .inl (va_cpy atF (fun _ => 0) 0 0 10))), (q34_19, .inl (cI, 34, .inl (fun _ => 0))), (q40_22, .inr (0, [.ref (f44_24 0), .ref (f44_24 1), .ref (f44_24 2), .ref (f44_24 3), .ref (f44_24 4), .ref (f44_24 5), .ref (f44_24 6), .int 0, .int 0, .int 0])), ((f44_24 0), .inl (cI, 64, .inl (fun _ => 0))), ((f44_24 1), .inl (cI, 64, .inl (fun _ => 0))), ((f44_24 2), .inl (cI, 64, .inl (fun _ => 0))), ((f44_24 3), .inl (cI, 64, .inl (fun _ => 0))), ((f44_24 4), .inl (cI, 64, .inl (fun _ => 0))), ((f44_24 5), .inl (cZ, 64, .inl (fun _ => 0))), ((f44_24 6), .inl (cI, 10000, .inl (fun _ => 0)))] rfl ?_
  refine za_putF B hnm (q0 := 0) (j := 3) iX2 tyX2 tyX2_ok nmX2 rfl rfl (Nat.le_of_ble_eq_true rfl) kw_254 rfl rfl (tyX2_ok 3 (Nat.le_of_ble_eq_true rfl)) rfl rfl (Nat.le_of_ble_eq_true rfl) [(h, .inr (2, [.ref dk, .ref q12_8, .ref q34_19, .ref q40_22, .null, .null, .null, .null, .int 0, .int 0])), (q12_8, .inl (cI, 10, .inl (va_cpy atF (fun _ => 0) 0 0 10))), (q34_19, .inl (cI, 34, .inl (fun _ => 0))), (q40_22, .inr (0, [.ref (f44_24 0), .ref (f44_24 1), .ref (f44_24 2), .ref (f44_24 3), .ref (f44_24 4), .ref (f44_24 5), .ref (f44_24 6), .int 0, .int 0, .int 0])), ((f44_24 0), .inl (cI, 64, .inl (fun _ => 0))), ((f44_24 1), .inl (cI, 64, .inl (fun _ => 0))), ((f44_24 2), .inl (cI, 64, .inl (fun _ => 0))), ((f44_24 3), .inl (cI, 64, .inl (fun _ => 0))), ((f44_24 4), .inl (cI, 64, .inl (fun _ => 0))), ((f44_24 5), .inl (cZ, 64, .inl (fun _ => 0))), ((f44_24 6), .inl (cI, 10000, .inl (fun _ => 0)))] rfl dX2_init_47 ?_
  refine za_aload_n B dX2_init_50 0 rfl rfl ?_
  refine za_bipush B (6) dX2_init_51 zc_bipush_6 ?_
  refine za_newq2 B (t0 := 2) (N := 6) kw_149 (sfC_OS B) rfl (by decide) (by decide) (Nat.le_of_ble_eq_true rfl) (Nat.le_of_ble_eq_true rfl) (Nat.le_of_ble_eq_true rfl) dX2_init_53 (fun q53_28 => ?_)
  refine za_ws [(h, .inr (2, [.ref dk, .ref q12_8, .ref q34_19, .ref q40_22, .null, .null, .null, .null, .int 0, .int 0])), (q12_8, .inl (cI, 10, .inl (va_cpy atF (fun _ => 0) 0 0 10))), (q34_19, .inl (cI, 34, .inl (fun _ => 0))), (q40_22, .inr (0, [.ref (f44_24 0), .ref (f44_24 1), .ref (f44_24 2), .ref (f44_24 3), .ref (f44_24 4), .ref (f44_24 5), .ref (f44_24 6), .int 0, .int 0, .int 0])), ((f44_24 0), .inl (cI, 64, .inl (fun _ => 0))), ((f44_24 1), .inl (cI, 64, .inl (fun _ => 0))), ((f44_24 2), .inl (cI, 64, .inl (fun _ => 0))), ((f44_24 3), .inl (cI, 64, .inl (fun _ => 0))), ((f44_24 4), .inl (cI, 64, .inl (fun _ => 0))), ((f44_24 5), .inl (cZ, 64, .inl (fun _ => 0))), ((f44_24 6), .inl (cI, 10000, .inl (fun _ => 0))), (q53_28, .inl (cS, 6, .inr (.inr (.inr (.inr (fun _ => none))))))] rfl ?_
  refine za_putF B hnm (q0 := 0) (j := 4) iX2 tyX2 tyX2_ok nmX2 rfl rfl (Nat.le_of_ble_eq_true rfl) kw_256 rfl rfl (tyX2_ok 4 (Nat.le_of_ble_eq_true rfl)) rfl rfl (Nat.le_of_ble_eq_true rfl) [(h, .inr (2, [.ref dk, .ref q12_8, .ref q34_19, .ref q40_22, .ref q53_28, .null, .null, .null, .int 0, .int 0])), (q12_8, .inl (cI, 10, .inl (va_cpy atF (fun _ => 0) 0 0 10))), (q34_19, .inl (cI, 34, .inl (fun _ => 0))), (q40_22, .inr (0, [.ref (f44_24 0), .ref (f44_24 1), .ref (f44_24 2), .ref (f44_24 3), .ref (f44_24 4), .ref (f44_24 5), .ref (f44_24 6), .int 0, .int 0, .int 0])), ((f44_24 0), .inl (cI, 64, .inl (fun _ => 0))), ((f44_24 1), .inl (cI, 64, .inl (fun _ => 0))), ((f44_24 2), .inl (cI, 64, .inl (fun _ => 0))), ((f44_24 3), .inl (cI, 64, .inl (fun _ => 0))), ((f44_24 4), .inl (cI, 64, .inl (fun _ => 0))), ((f44_24 5), .inl (cZ, 64, .inl (fun _ => 0))), ((f44_24 6), .inl (cI, 10000, .inl (fun _ => 0))), (q53_28, .inl (cS, 6, .inr (.inr (.inr (.inr (fun _ => none))))))] rfl dX2_init_56 ?_
  refine za_iconst B (0) dX2_init_59 zc_iconst_0 ?_
  refine za_istore_n B [(2, .int (0)), (0, .ref h), (1, .ref dk)] dX2_init_60 rfl (Nat.le_of_ble_eq_true rfl) rfl ?_
  refine za_iload_n B dX2_init_61 0 rfl rfl ?_
  refine za_bipush B (6) dX2_init_62 zc_bipush_6 ?_
  refine za_ge_f B 86 dX2_init_64 (by decide) (by decide) ?_
  refine za_aload_n B dX2_init_67 1 rfl rfl ?_
  refine za_get B (q0 := 0) (j := 4) iX2 rfl rfl (Nat.le_of_ble_eq_true rfl) kw_256 rfl dX2_init_68 ?_
  refine za_iload_n B dX2_init_71 0 rfl rfl ?_
  refine za_new B (ci := 4) (fs := [.int 0, .int 0, .int 0, .int 0, .int 0, .int 0, .int 0, .int 0, .int 0, .int 0, .int 0]) iX4 tyX4 tyX4_ok kw_149 kw_151 kw_61 rfl (by decide +kernel) (Nat.le_of_ble_eq_true rfl) (Nat.le_of_ble_eq_true rfl) dX2_init_72 (fun q72_38 => ?_)
  refine za_dup B dX2_init_75 rfl ?_
  refine za_callIN B (wr := [(h, .inr (2, [.ref dk, .ref q12_8, .ref q34_19, .ref q40_22, .ref q53_28, .null, .null, .null, .int 0, .int 0])), (q12_8, .inl (cI, 10, .inl (va_cpy atF (fun _ => 0) 0 0 10))), (q34_19, .inl (cI, 34, .inl (fun _ => 0))), (q40_22, .inr (0, [.ref (f44_24 0), .ref (f44_24 1), .ref (f44_24 2), .ref (f44_24 3), .ref (f44_24 4), .ref (f44_24 5), .ref (f44_24 6), .int 0, .int 0, .int 0])), ((f44_24 0), .inl (cI, 64, .inl (fun _ => 0))), ((f44_24 1), .inl (cI, 64, .inl (fun _ => 0))), ((f44_24 2), .inl (cI, 64, .inl (fun _ => 0))), ((f44_24 3), .inl (cI, 64, .inl (fun _ => 0))), ((f44_24 4), .inl (cI, 64, .inl (fun _ => 0))), ((f44_24 5), .inl (cZ, 64, .inl (fun _ => 0))), ((f44_24 6), .inl (cI, 10000, .inl (fun _ => 0))), (q53_28, .inl (cS, 6, .inr (.inr (.inr (.inr (fun _ => none))))))]) (wc := [(q72_38, .inr (4, [.int 0, .int 0, .int 0, .int 0, .int 0, .int 0, .int 0, .int 0, .int 0, .int 0, .int 0]))]) (As := []) (sfC_NX2_44 B) kw_153 (show Cond.initialized yX4_init.cls ∈ zTb from kw_61) kt_X4_init ⟨by decide, by decide, by decide⟩ rfl dX2_init_76 (cc_X4_init q72_38) rfl rfl (Nat.le_of_ble_eq_true rfl) rfl rfl ⟨(Nat.le_of_ble_eq_true rfl), (Nat.le_of_ble_eq_true rfl)⟩ ⟨(Nat.le_of_ble_eq_true rfl), (Nat.le_of_ble_eq_true rfl)⟩ (fun f76_40 => ?_)
  refine za_ws [(h, .inr (2, [.ref dk, .ref q12_8, .ref q34_19, .ref q40_22, .ref q53_28, .null, .null, .null, .int 0, .int 0])), (q12_8, .inl (cI, 10, .inl (va_cpy atF (fun _ => 0) 0 0 10))), (q34_19, .inl (cI, 34, .inl (fun _ => 0))), (q40_22, .inr (0, [.ref (f44_24 0), .ref (f44_24 1), .ref (f44_24 2), .ref (f44_24 3), .ref (f44_24 4), .ref (f44_24 5), .ref (f44_24 6), .int 0, .int 0, .int 0])), ((f44_24 0), .inl (cI, 64, .inl (fun _ => 0))), ((f44_24 1), .inl (cI, 64, .inl (fun _ => 0))), ((f44_24 2), .inl (cI, 64, .inl (fun _ => 0))), ((f44_24 3), .inl (cI, 64, .inl (fun _ => 0))), ((f44_24 4), .inl (cI, 64, .inl (fun _ => 0))), ((f44_24 5), .inl (cZ, 64, .inl (fun _ => 0))), ((f44_24 6), .inl (cI, 10000, .inl (fun _ => 0))), (q53_28, .inl (cS, 6, .inr (.inr (.inr (.inr (fun _ => none)))))), (q72_38, .inr (4, [.int (-1), .int 0, .int 0, .int 0, .int 0, .int 0, .int (-1), .int 0, .int 0, .int 0, .int 0]))] rfl ?_
  refine za_astq B (q0 := 11) (t0 := 2) (qk := 12) (ci := 4) rfl rfl rfl rfl (by unfold vp_in; decide) [(h, .inr (2, [.ref dk, .ref q12_8, .ref q34_19, .ref q40_22, .ref q53_28, .null, .null, .null, .int 0, .int 0])), (q12_8, .inl (cI, 10, .inl (va_cpy atF (fun _ => 0) 0 0 10))), (q34_19, .inl (cI, 34, .inl (fun _ => 0))), (q40_22, .inr (0, [.ref (f44_24 0), .ref (f44_24 1), .ref (f44_24 2), .ref (f44_24 3), .ref (f44_24 4), .ref (f44_24 5), .ref (f44_24 6), .int 0, .int 0, .int 0])), ((f44_24 0), .inl (cI, 64, .inl (fun _ => 0))), ((f44_24 1), .inl (cI, 64, .inl (fun _ => 0))), ((f44_24 2), .inl (cI, 64, .inl (fun _ => 0))), ((f44_24 3), .inl (cI, 64, .inl (fun _ => 0))), ((f44_24 4), .inl (cI, 64, .inl (fun _ => 0))), ((f44_24 5), .inl (cZ, 64, .inl (fun _ => 0))), ((f44_24 6), .inl (cI, 10000, .inl (fun _ => 0))), (q53_28, .inl (cS, 6, .inr (.inr (.inr (.inr (va_up (fun _ => none) 0 (some q72_38))))))), (q72_38, .inr (4, [.int (-1), .int 0, .int 0, .int 0, .int 0, .int 0, .int (-1), .int 0, .int 0, .int 0, .int 0]))] rfl dX2_init_79 ?_
  refine za_iinc B (1) 0 [(2, .int (1)), (0, .ref h), (1, .ref dk)] dX2_init_80 (by decide) rfl (Nat.le_of_ble_eq_true rfl) rfl ?_
  refine za_goto B 61 dX2_init_83 (by decide) ?_
  refine za_iload_n B dX2_init_61 0 rfl rfl ?_
  refine za_bipush B (6) dX2_init_62 zc_bipush_6 ?_
  refine za_ge_f B 86 dX2_init_64 (by decide) (by decide) ?_
  refine za_aload_n B dX2_init_67 1 rfl rfl ?_
  refine za_get B (q0 := 0) (j := 4) iX2 rfl rfl (Nat.le_of_ble_eq_true rfl) kw_256 rfl dX2_init_68 ?_
  refine za_iload_n B dX2_init_71 0 rfl rfl ?_
  refine za_new B (ci := 4) (fs := [.int 0, .int 0, .int 0, .int 0, .int 0, .int 0, .int 0, .int 0, .int 0, .int 0, .int 0]) iX4 tyX4 tyX4_ok kw_149 kw_151 kw_61 rfl (by decide +kernel) (Nat.le_of_ble_eq_true rfl) (Nat.le_of_ble_eq_true rfl) dX2_init_72 (fun q72_50 => ?_)
  refine za_dup B dX2_init_75 rfl ?_
  refine za_callIN B (wr := [(h, .inr (2, [.ref dk, .ref q12_8, .ref q34_19, .ref q40_22, .ref q53_28, .null, .null, .null, .int 0, .int 0])), (q12_8, .inl (cI, 10, .inl (va_cpy atF (fun _ => 0) 0 0 10))), (q34_19, .inl (cI, 34, .inl (fun _ => 0))), (q40_22, .inr (0, [.ref (f44_24 0), .ref (f44_24 1), .ref (f44_24 2), .ref (f44_24 3), .ref (f44_24 4), .ref (f44_24 5), .ref (f44_24 6), .int 0, .int 0, .int 0])), ((f44_24 0), .inl (cI, 64, .inl (fun _ => 0))), ((f44_24 1), .inl (cI, 64, .inl (fun _ => 0))), ((f44_24 2), .inl (cI, 64, .inl (fun _ => 0))), ((f44_24 3), .inl (cI, 64, .inl (fun _ => 0))), ((f44_24 4), .inl (cI, 64, .inl (fun _ => 0))), ((f44_24 5), .inl (cZ, 64, .inl (fun _ => 0))), ((f44_24 6), .inl (cI, 10000, .inl (fun _ => 0))), (q53_28, .inl (cS, 6, .inr (.inr (.inr (.inr (va_up (fun _ => none) 0 (some q72_38))))))), (q72_38, .inr (4, [.int (-1), .int 0, .int 0, .int 0, .int 0, .int 0, .int (-1), .int 0, .int 0, .int 0, .int 0]))]) (wc := [(q72_50, .inr (4, [.int 0, .int 0, .int 0, .int 0, .int 0, .int 0, .int 0, .int 0, .int 0, .int 0, .int 0]))]) (As := []) (sfC_NX2_44 B) kw_153 (show Cond.initialized yX4_init.cls ∈ zTb from kw_61) kt_X4_init ⟨by decide, by decide, by decide⟩ rfl dX2_init_76 (cc_X4_init q72_50) rfl rfl (Nat.le_of_ble_eq_true rfl) rfl rfl ⟨(Nat.le_of_ble_eq_true rfl), (Nat.le_of_ble_eq_true rfl)⟩ ⟨(Nat.le_of_ble_eq_true rfl), (Nat.le_of_ble_eq_true rfl)⟩ (fun f76_52 => ?_)
  refine za_ws [(h, .inr (2, [.ref dk, .ref q12_8, .ref q34_19, .ref q40_22, .ref q53_28, .null, .null, .null, .int 0, .int 0])), (q12_8, .inl (cI, 10, .inl (va_cpy atF (fun _ => 0) 0 0 10))), (q34_19, .inl (cI, 34, .inl (fun _ => 0))), (q40_22, .inr (0, [.ref (f44_24 0), .ref (f44_24 1), .ref (f44_24 2), .ref (f44_24 3), .ref (f44_24 4), .ref (f44_24 5), .ref (f44_24 6), .int 0, .int 0, .int 0])), ((f44_24 0), .inl (cI, 64, .inl (fun _ => 0))), ((f44_24 1), .inl (cI, 64, .inl (fun _ => 0))), ((f44_24 2), .inl (cI, 64, .inl (fun _ => 0))), ((f44_24 3), .inl (cI, 64, .inl (fun _ => 0))), ((f44_24 4), .inl (cI, 64, .inl (fun _ => 0))), ((f44_24 5), .inl (cZ, 64, .inl (fun _ => 0))), ((f44_24 6), .inl (cI, 10000, .inl (fun _ => 0))), (q53_28, .inl (cS, 6, .inr (.inr (.inr (.inr (va_up (fun _ => none) 0 (some q72_38))))))), (q72_38, .inr (4, [.int (-1), .int 0, .int 0, .int 0, .int 0, .int 0, .int (-1), .int 0, .int 0, .int 0, .int 0])), (q72_50, .inr (4, [.int (-1), .int 0, .int 0, .int 0, .int 0, .int 0, .int (-1), .int 0, .int 0, .int 0, .int 0]))] rfl ?_
  refine za_astq B (q0 := 11) (t0 := 2) (qk := 13) (ci := 4) rfl rfl rfl rfl (by unfold vp_in; decide) [(h, .inr (2, [.ref dk, .ref q12_8, .ref q34_19, .ref q40_22, .ref q53_28, .null, .null, .null, .int 0, .int 0])), (q12_8, .inl (cI, 10, .inl (va_cpy atF (fun _ => 0) 0 0 10))), (q34_19, .inl (cI, 34, .inl (fun _ => 0))), (q40_22, .inr (0, [.ref (f44_24 0), .ref (f44_24 1), .ref (f44_24 2), .ref (f44_24 3), .ref (f44_24 4), .ref (f44_24 5), .ref (f44_24 6), .int 0, .int 0, .int 0])), ((f44_24 0), .inl (cI, 64, .inl (fun _ => 0))), ((f44_24 1), .inl (cI, 64, .inl (fun _ => 0))), ((f44_24 2), .inl (cI, 64, .inl (fun _ => 0))), ((f44_24 3), .inl (cI, 64, .inl (fun _ => 0))), ((f44_24 4), .inl (cI, 64, .inl (fun _ => 0))), ((f44_24 5), .inl (cZ, 64, .inl (fun _ => 0))), ((f44_24 6), .inl (cI, 10000, .inl (fun _ => 0))), (q53_28, .inl (cS, 6, .inr (.inr (.inr (.inr (va_up (va_up (fun _ => none) 0 (some q72_38)) 1 (some q72_50))))))), (q72_38, .inr (4, [.int (-1), .int 0, .int 0, .int 0, .int 0, .int 0, .int (-1), .int 0, .int 0, .int 0, .int 0])), (q72_50, .inr (4, [.int (-1), .int 0, .int 0, .int 0, .int 0, .int 0, .int (-1), .int 0, .int 0, .int 0, .int 0]))] rfl dX2_init_79 ?_
  refine za_iinc B (2) 0 [(2, .int (2)), (0, .ref h), (1, .ref dk)] dX2_init_80 (by decide) rfl (Nat.le_of_ble_eq_true rfl) rfl ?_
  refine za_goto B 61 dX2_init_83 (by decide) ?_
  refine za_iload_n B dX2_init_61 0 rfl rfl ?_
  refine za_bipush B (6) dX2_init_62 zc_bipush_6 ?_
  refine za_ge_f B 86 dX2_init_64 (by decide) (by decide) ?_
  refine za_aload_n B dX2_init_67 1 rfl rfl ?_
  refine za_get B (q0 := 0) (j := 4) iX2 rfl rfl (Nat.le_of_ble_eq_true rfl) kw_256 rfl dX2_init_68 ?_
  refine za_iload_n B dX2_init_71 0 rfl rfl ?_
  refine za_new B (ci := 4) (fs := [.int 0, .int 0, .int 0, .int 0, .int 0, .int 0, .int 0, .int 0, .int 0, .int 0, .int 0]) iX4 tyX4 tyX4_ok kw_149 kw_151 kw_61 rfl (by decide +kernel) (Nat.le_of_ble_eq_true rfl) (Nat.le_of_ble_eq_true rfl) dX2_init_72 (fun q72_62 => ?_)
  refine za_dup B dX2_init_75 rfl ?_
  refine za_callIN B (wr := [(h, .inr (2, [.ref dk, .ref q12_8, .ref q34_19, .ref q40_22, .ref q53_28, .null, .null, .null, .int 0, .int 0])), (q12_8, .inl (cI, 10, .inl (va_cpy atF (fun _ => 0) 0 0 10))), (q34_19, .inl (cI, 34, .inl (fun _ => 0))), (q40_22, .inr (0, [.ref (f44_24 0), .ref (f44_24 1), .ref (f44_24 2), .ref (f44_24 3), .ref (f44_24 4), .ref (f44_24 5), .ref (f44_24 6), .int 0, .int 0, .int 0])), ((f44_24 0), .inl (cI, 64, .inl (fun _ => 0))), ((f44_24 1), .inl (cI, 64, .inl (fun _ => 0))), ((f44_24 2), .inl (cI, 64, .inl (fun _ => 0))), ((f44_24 3), .inl (cI, 64, .inl (fun _ => 0))), ((f44_24 4), .inl (cI, 64, .inl (fun _ => 0))), ((f44_24 5), .inl (cZ, 64, .inl (fun _ => 0))), ((f44_24 6), .inl (cI, 10000, .inl (fun _ => 0))), (q53_28, .inl (cS, 6, .inr (.inr (.inr (.inr (va_up (va_up (fun _ => none) 0 (some q72_38)) 1 (some q72_50))))))), (q72_38, .inr (4, [.int (-1), .int 0, .int 0, .int 0, .int 0, .int 0, .int (-1), .int 0, .int 0, .int 0, .int 0])), (q72_50, .inr (4, [.int (-1), .int 0, .int 0, .int 0, .int 0, .int 0, .int (-1), .int 0, .int 0, .int 0, .int 0]))]) (wc := [(q72_62, .inr (4, [.int 0, .int 0, .int 0, .int 0, .int 0, .int 0, .int 0, .int 0, .int 0, .int 0, .int 0]))]) (As := []) (sfC_NX2_44 B) kw_153 (show Cond.initialized yX4_init.cls ∈ zTb from kw_61) kt_X4_init ⟨by decide, by decide, by decide⟩ rfl dX2_init_76 (cc_X4_init q72_62) rfl rfl (Nat.le_of_ble_eq_true rfl) rfl rfl ⟨(Nat.le_of_ble_eq_true rfl), (Nat.le_of_ble_eq_true rfl)⟩ ⟨(Nat.le_of_ble_eq_true rfl), (Nat.le_of_ble_eq_true rfl)⟩ (fun f76_64 => ?_)
  refine za_ws [(h, .inr (2, [.ref dk, .ref q12_8, .ref q34_19, .ref q40_22, .ref q53_28, .null, .null, .null, .int 0, .int 0])), (q12_8, .inl (cI, 10, .inl (va_cpy atF (fun _ => 0) 0 0 10))), (q34_19, .inl (cI, 34, .inl (fun _ => 0))), (q40_22, .inr (0, [.ref (f44_24 0), .ref (f44_24 1), .ref (f44_24 2), .ref (f44_24 3), .ref (f44_24 4), .ref (f44_24 5), .ref (f44_24 6), .int 0, .int 0, .int 0])), ((f44_24 0), .inl (cI, 64, .inl (fun _ => 0))), ((f44_24 1), .inl (cI, 64, .inl (fun _ => 0))), ((f44_24 2), .inl (cI, 64, .inl (fun _ => 0))), ((f44_24 3), .inl (cI, 64, .inl (fun _ => 0))), ((f44_24 4), .inl (cI, 64, .inl (fun _ => 0))), ((f44_24 5), .inl (cZ, 64, .inl (fun _ => 0))), ((f44_24 6), .inl (cI, 10000, .inl (fun _ => 0))), (q53_28, .inl (cS, 6, .inr (.inr (.inr (.inr (va_up (va_up (fun _ => none) 0 (some q72_38)) 1 (some q72_50))))))), (q72_38, .inr (4, [.int (-1), .int 0, .int 0, .int 0, .int 0, .int 0, .int (-1), .int 0, .int 0, .int 0, .int 0])), (q72_50, .inr (4, [.int (-1), .int 0, .int 0, .int 0, .int 0, .int 0, .int (-1), .int 0, .int 0, .int 0, .int 0])), (q72_62, .inr (4, [.int (-1), .int 0, .int 0, .int 0, .int 0, .int 0, .int (-1), .int 0, .int 0, .int 0, .int 0]))] rfl ?_
  refine za_astq B (q0 := 11) (t0 := 2) (qk := 14) (ci := 4) rfl rfl rfl rfl (by unfold vp_in; decide) [(h, .inr (2, [.ref dk, .ref q12_8, .ref q34_19, .ref q40_22, .ref q53_28, .null, .null, .null, .int 0, .int 0])), (q12_8, .inl (cI, 10, .inl (va_cpy atF (fun _ => 0) 0 0 10))), (q34_19, .inl (cI, 34, .inl (fun _ => 0))), (q40_22, .inr (0, [.ref (f44_24 0), .ref (f44_24 1), .ref (f44_24 2), .ref (f44_24 3), .ref (f44_24 4), .ref (f44_24 5), .ref (f44_24 6), .int 0, .int 0, .int 0])), ((f44_24 0), .inl (cI, 64, .inl (fun _ => 0))), ((f44_24 1), .inl (cI, 64, .inl (fun _ => 0))), ((f44_24 2), .inl (cI, 64, .inl (fun _ => 0))), ((f44_24 3), .inl (cI, 64, .inl (fun _ => 0))), ((f44_24 4), .inl (cI, 64, .inl (fun _ => 0))), ((f44_24 5), .inl (cZ, 64, .inl (fun _ => 0))), ((f44_24 6), .inl (cI, 10000, .inl (fun _ => 0))), (q53_28, .inl (cS, 6, .inr (.inr (.inr (.inr (va_up (va_up (va_up (fun _ => none) 0 (some q72_38)) 1 (some q72_50)) 2 (some q72_62))))))), (q72_38, .inr (4, [.int (-1), .int 0, .int 0, .int 0, .int 0, .int 0, .int (-1), .int 0, .int 0, .int 0, .int 0])), (q72_50, .inr (4, [.int (-1), .int 0, .int 0, .int 0, .int 0, .int 0, .int (-1), .int 0, .int 0, .int 0, .int 0])), (q72_62, .inr (4, [.int (-1), .int 0, .int 0, .int 0, .int 0, .int 0, .int (-1), .int 0, .int 0, .int 0, .int 0]))] rfl dX2_init_79 ?_
  refine za_iinc B (3) 0 [(2, .int (3)), (0, .ref h), (1, .ref dk)] dX2_init_80 (by decide) rfl (Nat.le_of_ble_eq_true rfl) rfl ?_
  refine za_goto B 61 dX2_init_83 (by decide) ?_
  refine za_iload_n B dX2_init_61 0 rfl rfl ?_
  refine za_bipush B (6) dX2_init_62 zc_bipush_6 ?_
  refine za_ge_f B 86 dX2_init_64 (by decide) (by decide) ?_
  refine za_aload_n B dX2_init_67 1 rfl rfl ?_
  refine za_get B (q0 := 0) (j := 4) iX2 rfl rfl (Nat.le_of_ble_eq_true rfl) kw_256 rfl dX2_init_68 ?_
  refine za_iload_n B dX2_init_71 0 rfl rfl ?_
  refine za_new B (ci := 4) (fs := [.int 0, .int 0, .int 0, .int 0, .int 0, .int 0, .int 0, .int 0, .int 0, .int 0, .int 0]) iX4 tyX4 tyX4_ok kw_149 kw_151 kw_61 rfl (by decide +kernel) (Nat.le_of_ble_eq_true rfl) (Nat.le_of_ble_eq_true rfl) dX2_init_72 (fun q72_74 => ?_)
  refine za_dup B dX2_init_75 rfl ?_
  refine za_callIN B (wr := [(h, .inr (2, [.ref dk, .ref q12_8, .ref q34_19, .ref q40_22, .ref q53_28, .null, .null, .null, .int 0, .int 0])), (q12_8, .inl (cI, 10, .inl (va_cpy atF (fun _ => 0) 0 0 10))), (q34_19, .inl (cI, 34, .inl (fun _ => 0))), (q40_22, .inr (0, [.ref (f44_24 0), .ref (f44_24 1), .ref (f44_24 2), .ref (f44_24 3), .ref (f44_24 4), .ref (f44_24 5), .ref (f44_24 6), .int 0, .int 0, .int 0])), ((f44_24 0), .inl (cI, 64, .inl (fun _ => 0))), ((f44_24 1), .inl (cI, 64, .inl (fun _ => 0))), ((f44_24 2), .inl (cI, 64, .inl (fun _ => 0))), ((f44_24 3), .inl (cI, 64, .inl (fun _ => 0))), ((f44_24 4), .inl (cI, 64, .inl (fun _ => 0))), ((f44_24 5), .inl (cZ, 64, .inl (fun _ => 0))), ((f44_24 6), .inl (cI, 10000, .inl (fun _ => 0))), (q53_28, .inl (cS, 6, .inr (.inr (.inr (.inr (va_up (va_up (va_up (fun _ => none) 0 (some q72_38)) 1 (some q72_50)) 2 (some q72_62))))))), (q72_38, .inr (4, [.int (-1), .int 0, .int 0, .int 0, .int 0, .int 0, .int (-1), .int 0, .int 0, .int 0, .int 0])), (q72_50, .inr (4, [.int (-1), .int 0, .int 0, .int 0, .int 0, .int 0, .int (-1), .int 0, .int 0, .int 0, .int 0])), (q72_62, .inr (4, [.int (-1), .int 0, .int 0, .int 0, .int 0, .int 0, .int (-1), .int 0, .int 0, .int 0, .int 0]))]) (wc := [(q72_74, .inr (4, [.int 0, .int 0, .int 0, .int 0, .int 0, .int 0, .int 0, .int 0, .int 0, .int 0, .int 0]))]) (As := []) (sfC_NX2_44 B) kw_153 (show Cond.initialized yX4_init.cls ∈ zTb from kw_61) kt_X4_init ⟨by decide, by decide, by decide⟩ rfl dX2_init_76 (cc_X4_init q72_74) rfl rfl (Nat.le_of_ble_eq_true rfl) rfl rfl ⟨(Nat.le_of_ble_eq_true rfl), (Nat.le_of_ble_eq_true rfl)⟩ ⟨(Nat.le_of_ble_eq_true rfl), (Nat.le_of_ble_eq_true rfl)⟩ (fun f76_76 => ?_)
  refine za_ws [(h, .inr (2, [.ref dk, .ref q12_8, .ref q34_19, .ref q40_22, .ref q53_28, .null, .null, .null, .int 0, .int 0])), (q12_8, .inl (cI, 10, .inl (va_cpy atF (fun _ => 0) 0 0 10))), (q34_19, .inl (cI, 34, .inl (fun _ => 0))), (q40_22, .inr (0, [.ref (f44_24 0), .ref (f44_24 1), .ref (f44_24 2), .ref (f44_24 3), .ref (f44_24 4), .ref (f44_24 5), .ref (f44_24 6), .int 0, .int 0, .int 0])), ((f44_24 0), .inl (cI, 64, .inl (fun _ => 0))), ((f44_24 1), .inl (cI, 64, .inl (fun _ => 0))), ((f44_24 2), .inl (cI, 64, .inl (fun _ => 0))), ((f44_24 3), .inl (cI, 64, .inl (fun _ => 0))), ((f44_24 4), .inl (cI, 64, .inl (fun _ => 0))), ((f44_24 5), .inl (cZ, 64, .inl (fun _ => 0))), ((f44_24 6), .inl (cI, 10000, .inl (fun _ => 0))), (q53_28, .inl (cS, 6, .inr (.inr (.inr (.inr (va_up (va_up (va_up (fun _ => none) 0 (some q72_38)) 1 (some q72_50)) 2 (some q72_62))))))), (q72_38, .inr (4, [.int (-1), .int 0, .int 0, .int 0, .int 0, .int 0, .int (-1), .int 0, .int 0, .int 0, .int 0])), (q72_50, .inr (4, [.int (-1), .int 0, .int 0, .int 0, .int 0, .int 0, .int (-1), .int 0, .int 0, .int 0, .int 0])), (q72_62, .inr (4, [.int (-1), .int 0, .int 0, .int 0, .int 0, .int 0, .int (-1), .int 0, .int 0, .int 0, .int 0])), (q72_74, .inr (4, [.int (-1), .int 0, .int 0, .int 0, .int 0, .int 0, .int (-1), .int 0, .int 0, .int 0, .int 0]))] rfl ?_
  refine za_astq B (q0 := 11) (t0 := 2) (qk := 15) (ci := 4) rfl rfl rfl rfl (by unfold vp_in; decide) [(h, .inr (2, [.ref dk, .ref q12_8, .ref q34_19, .ref q40_22, .ref q53_28, .null, .null, .null, .int 0, .int 0])), (q12_8, .inl (cI, 10, .inl (va_cpy atF (fun _ => 0) 0 0 10))), (q34_19, .inl (cI, 34, .inl (fun _ => 0))), (q40_22, .inr (0, [.ref (f44_24 0), .ref (f44_24 1), .ref (f44_24 2), .ref (f44_24 3), .ref (f44_24 4), .ref (f44_24 5), .ref (f44_24 6), .int 0, .int 0, .int 0])), ((f44_24 0), .inl (cI, 64, .inl (fun _ => 0))), ((f44_24 1), .inl (cI, 64, .inl (fun _ => 0))), ((f44_24 2), .inl (cI, 64, .inl (fun _ => 0))), ((f44_24 3), .inl (cI, 64, .inl (fun _ => 0))), ((f44_24 4), .inl (cI, 64, .inl (fun _ => 0))), ((f44_24 5), .inl (cZ, 64, .inl (fun _ => 0))), ((f44_24 6), .inl (cI, 10000, .inl (fun _ => 0))), (q53_28, .inl (cS, 6, .inr (.inr (.inr (.inr (va_up (va_up (va_up (va_up (fun _ => none) 0 (some q72_38)) 1 (some q72_50)) 2 (some q72_62)) 3 (some q72_74))))))), (q72_38, .inr (4, [.int (-1), .int 0, .int 0, .int 0, .int 0, .int 0, .int (-1), .int 0, .int 0, .int 0, .int 0])), (q72_50, .inr (4, [.int (-1), .int 0, .int 0, .int 0, .int 0, .int 0, .int (-1), .int 0, .int 0, .int 0, .int 0])), (q72_62, .inr (4, [.int (-1), .int 0, .int 0, .int 0, .int 0, .int 0, .int (-1), .int 0, .int 0, .int 0, .int 0])), (q72_74, .inr (4, [.int (-1), .int 0, .int 0, .int 0, .int 0, .int 0, .int (-1), .int 0, .int 0, .int 0, .int 0]))] rfl dX2_init_79 ?_
  refine za_iinc B (4) 0 [(2, .int (4)), (0, .ref h), (1, .ref dk)] dX2_init_80 (by decide) rfl (Nat.le_of_ble_eq_true rfl) rfl ?_
  refine za_goto B 61 dX2_init_83 (by decide) ?_
  refine za_iload_n B dX2_init_61 0 rfl rfl ?_
  refine za_bipush B (6) dX2_init_62 zc_bipush_6 ?_
  refine za_ge_f B 86 dX2_init_64 (by decide) (by decide) ?_
  refine za_aload_n B dX2_init_67 1 rfl rfl ?_
  refine za_get B (q0 := 0) (j := 4) iX2 rfl rfl (Nat.le_of_ble_eq_true rfl) kw_256 rfl dX2_init_68 ?_
  refine za_iload_n B dX2_init_71 0 rfl rfl ?_
  refine za_new B (ci := 4) (fs := [.int 0, .int 0, .int 0, .int 0, .int 0, .int 0, .int 0, .int 0, .int 0, .int 0, .int 0]) iX4 tyX4 tyX4_ok kw_149 kw_151 kw_61 rfl (by decide +kernel) (Nat.le_of_ble_eq_true rfl) (Nat.le_of_ble_eq_true rfl) dX2_init_72 (fun q72_86 => ?_)
  refine za_dup B dX2_init_75 rfl ?_
  refine za_callIN B (wr := [(h, .inr (2, [.ref dk, .ref q12_8, .ref q34_19, .ref q40_22, .ref q53_28, .null, .null, .null, .int 0, .int 0])), (q12_8, .inl (cI, 10, .inl (va_cpy atF (fun _ => 0) 0 0 10))), (q34_19, .inl (cI, 34, .inl (fun _ => 0))), (q40_22, .inr (0, [.ref (f44_24 0), .ref (f44_24 1), .ref (f44_24 2), .ref (f44_24 3), .ref (f44_24 4), .ref (f44_24 5), .ref (f44_24 6), .int 0, .int 0, .int 0])), ((f44_24 0), .inl (cI, 64, .inl (fun _ => 0))), ((f44_24 1), .inl (cI, 64, .inl (fun _ => 0))), ((f44_24 2), .inl (cI, 64, .inl (fun _ => 0))), ((f44_24 3), .inl (cI, 64, .inl (fun _ => 0))), ((f44_24 4), .inl (cI, 64, .inl (fun _ => 0))), ((f44_24 5), .inl (cZ, 64, .inl (fun _ => 0))), ((f44_24 6), .inl (cI, 10000, .inl (fun _ => 0))), (q53_28, .inl (cS, 6, .inr (.inr (.inr (.inr (va_up (va_up (va_up (va_up (fun _ => none) 0 (some q72_38)) 1 (some q72_50)) 2 (some q72_62)) 3 (some q72_74))))))), (q72_38, .inr (4, [.int (-1), .int 0, .int 0, .int 0, .int 0, .int 0, .int (-1), .int 0, .int 0, .int 0, .int 0])), (q72_50, .inr (4, [.int (-1), .int 0, .int 0, .int 0, .int 0, .int 0, .int (-1), .int 0, .int 0, .int 0, .int 0])), (q72_62, .inr (4, [.int (-1), .int 0, .int 0, .int 0, .int 0, .int 0, .int (-1), .int 0, .int 0, .int 0, .int 0])), (q72_74, .inr (4, [.int (-1), .int 0, .int 0, .int 0, .int 0, .int 0, .int (-1), .int 0, .int 0, .int 0, .int 0]))]) (wc := [(q72_86, .inr (4, [.int 0, .int 0, .int 0, .int 0, .int 0, .int 0, .int 0, .int 0, .int 0, .int 0, .int 0]))]) (As := []) (sfC_NX2_44 B) kw_153 (show Cond.initialized yX4_init.cls ∈ zTb from kw_61) kt_X4_init ⟨by decide, by decide, by decide⟩ rfl dX2_init_76 (cc_X4_init q72_86) rfl rfl (Nat.le_of_ble_eq_true rfl) rfl rfl ⟨(Nat.le_of_ble_eq_true rfl), (Nat.le_of_ble_eq_true rfl)⟩ ⟨(Nat.le_of_ble_eq_true rfl), (Nat.le_of_ble_eq_true rfl)⟩ (fun f76_88 => ?_)
  refine za_ws [(h, .inr (2, [.ref dk, .ref q12_8, .ref q34_19, .ref q40_22, .ref q53_28, .null, .null, .null, .int 0, .int 0])), (q12_8, .inl (cI, 10, .inl (va_cpy atF (fun _ => 0) 0 0 10))), (q34_19, .inl (cI, 34, .inl (fun _ => 0))), (q40_22, .inr (0, [.ref (f44_24 0), .ref (f44_24 1), .ref (f44_24 2), .ref (f44_24 3), .ref (f44_24 4), .ref (f44_24 5), .ref (f44_24 6), .int 0, .int 0, .int 0])), ((f44_24 0), .inl (cI, 64, .inl (fun _ => 0))), ((f44_24 1), .inl (cI, 64, .inl (fun _ => 0))), ((f44_24 2), .inl (cI, 64, .inl (fun _ => 0))), ((f44_24 3), .inl (cI, 64, .inl (fun _ => 0))), ((f44_24 4), .inl (cI, 64, .inl (fun _ => 0))), ((f44_24 5), .inl (cZ, 64, .inl (fun _ => 0))), ((f44_24 6), .inl (cI, 10000, .inl (fun _ => 0))), (q53_28, .inl (cS, 6, .inr (.inr (.inr (.inr (va_up (va_up (va_up (va_up (fun _ => none) 0 (some q72_38)) 1 (some q72_50)) 2 (some q72_62)) 3 (some q72_74))))))), (q72_38, .inr (4, [.int (-1), .int 0, .int 0, .int 0, .int 0, .int 0, .int (-1), .int 0, .int 0, .int 0, .int 0])), (q72_50, .inr (4, [.int (-1), .int 0, .int 0, .int 0, .int 0, .int 0, .int (-1), .int 0, .int 0, .int 0, .int 0])), (q72_62, .inr (4, [.int (-1), .int 0, .int 0, .int 0, .int 0, .int 0, .int (-1), .int 0, .int 0, .int 0, .int 0])), (q72_74, .inr (4, [.int (-1), .int 0, .int 0, .int 0, .int 0, .int 0, .int (-1), .int 0, .int 0, .int 0, .int 0])), (q72_86, .inr (4, [.int (-1), .int 0, .int 0, .int 0, .int 0, .int 0, .int (-1), .int 0, .int 0, .int 0, .int 0]))] rfl ?_
  refine za_astq B (q0 := 11) (t0 := 2) (qk := 16) (ci := 4) rfl rfl rfl rfl (by unfold vp_in; decide) [(h, .inr (2, [.ref dk, .ref q12_8, .ref q34_19, .ref q40_22, .ref q53_28, .null, .null, .null, .int 0, .int 0])), (q12_8, .inl (cI, 10, .inl (va_cpy atF (fun _ => 0) 0 0 10))), (q34_19, .inl (cI, 34, .inl (fun _ => 0))), (q40_22, .inr (0, [.ref (f44_24 0), .ref (f44_24 1), .ref (f44_24 2), .ref (f44_24 3), .ref (f44_24 4), .ref (f44_24 5), .ref (f44_24 6), .int 0, .int 0, .int 0])), ((f44_24 0), .inl (cI, 64, .inl (fun _ => 0))), ((f44_24 1), .inl (cI, 64, .inl (fun _ => 0))), ((f44_24 2), .inl (cI, 64, .inl (fun _ => 0))), ((f44_24 3), .inl (cI, 64, .inl (fun _ => 0))), ((f44_24 4), .inl (cI, 64, .inl (fun _ => 0))), ((f44_24 5), .inl (cZ, 64, .inl (fun _ => 0))), ((f44_24 6), .inl (cI, 10000, .inl (fun _ => 0))), (q53_28, .inl (cS, 6, .inr (.inr (.inr (.inr (va_up (va_up (va_up (va_up (va_up (fun _ => none) 0 (some q72_38)) 1 (some q72_50)) 2 (some q72_62)) 3 (some q72_74)) 4 (some q72_86))))))), (q72_38, .inr (4, [.int (-1), .int 0, .int 0, .int 0, .int 0, .int 0, .int (-1), .int 0, .int 0, .int 0, .int 0])), (q72_50, .inr (4, [.int (-1), .int 0, .int 0, .int 0, .int 0, .int 0, .int (-1), .int 0, .int 0, .int 0, .int 0])), (q72_62, .inr (4, [.int (-1), .int 0, .int 0, .int 0, .int 0, .int 0, .int (-1), .int 0, .int 0, .int 0, .int 0])), (q72_74, .inr (4, [.int (-1), .int 0, .int 0, .int 0, .int 0, .int 0, .int (-1), .int 0, .int 0, .int 0, .int 0])), (q72_86, .inr (4, [.int (-1), .int 0, .int 0, .int 0, .int 0, .int 0, .int (-1), .int 0, .int 0, .int 0, .int 0]))] rfl dX2_init_79 ?_
  refine za_iinc B (5) 0 [(2, .int (5)), (0, .ref h), (1, .ref dk)] dX2_init_80 (by decide) rfl (Nat.le_of_ble_eq_true rfl) rfl ?_
  refine za_goto B 61 dX2_init_83 (by decide) ?_
  refine za_iload_n B dX2_init_61 0 rfl rfl ?_
  refine za_bipush B (6) dX2_init_62 zc_bipush_6 ?_
  refine za_ge_f B 86 dX2_init_64 (by decide) (by decide) ?_
  refine za_aload_n B dX2_init_67 1 rfl rfl ?_
  refine za_get B (q0 := 0) (j := 4) iX2 rfl rfl (Nat.le_of_ble_eq_true rfl) kw_256 rfl dX2_init_68 ?_
  refine za_iload_n B dX2_init_71 0 rfl rfl ?_
  refine za_new B (ci := 4) (fs := [.int 0, .int 0, .int 0, .int 0, .int 0, .int 0, .int 0, .int 0, .int 0, .int 0, .int 0]) iX4 tyX4 tyX4_ok kw_149 kw_151 kw_61 rfl (by decide +kernel) (Nat.le_of_ble_eq_true rfl) (Nat.le_of_ble_eq_true rfl) dX2_init_72 (fun q72_98 => ?_)
  refine za_dup B dX2_init_75 rfl ?_
  refine za_callIN B (wr := [(h, .inr (2, [.ref dk, .ref q12_8, .ref q34_19, .ref q40_22, .ref q53_28, .null, .null, .null, .int 0, .int 0])), (q12_8, .inl (cI, 10, .inl (va_cpy atF (fun _ => 0) 0 0 10))), (q34_19, .inl (cI, 34, .inl (fun _ => 0))), (q40_22, .inr (0, [.ref (f44_24 0), .ref (f44_24 1), .ref (f44_24 2), .ref (f44_24 3), .ref (f44_24 4), .ref (f44_24 5), .ref (f44_24 6), .int 0, .int 0, .int 0])), ((f44_24 0), .inl (cI, 64, .inl (fun _ => 0))), ((f44_24 1), .inl (cI, 64, .inl (fun _ => 0))), ((f44_24 2), .inl (cI, 64, .inl (fun _ => 0))), ((f44_24 3), .inl (cI, 64, .inl (fun _ => 0))), ((f44_24 4), .inl (cI, 64, .inl (fun _ => 0))), ((f44_24 5), .inl (cZ, 64, .inl (fun _ => 0))), ((f44_24 6), .inl (cI, 10000, .inl (fun _ => 0))), (q53_28, .inl (cS, 6, .inr (.inr (.inr (.inr (va_up (va_up (va_up (va_up (va_up (fun _ => none) 0 (some q72_38)) 1 (some q72_50)) 2 (some q72_62)) 3 (some q72_74)) 4 (some q72_86))))))), (q72_38, .inr (4, [.int (-1), .int 0, .int 0, .int 0, .int 0, .int 0, .int (-1), .int 0, .int 0, .int 0, .int 0])), (q72_50, .inr (4, [.int (-1), .int 0, .int 0, .int 0, .int 0, .int 0, .int (-1), .int 0, .int 0, .int 0, .int 0])), (q72_62, .inr (4, [.int (-1), .int 0, .int 0, .int 0, .int 0, .int 0, .int (-1), .int 0, .int 0, .int 0, .int 0])), (q72_74, .inr (4, [.int (-1), .int 0, .int 0, .int 0, .int 0, .int 0, .int (-1), .int 0, .int 0, .int 0, .int 0])), (q72_86, .inr (4, [.int (-1), .int 0, .int 0, .int 0, .int 0, .int 0, .int (-1), .int 0, .int 0, .int 0, .int 0]))]) (wc := [(q72_98, .inr (4, [.int 0, .int 0, .int 0, .int 0, .int 0, .int 0, .int 0, .int 0, .int 0, .int 0, .int 0]))]) (As := []) (sfC_NX2_44 B) kw_153 (show Cond.initialized yX4_init.cls ∈ zTb from kw_61) kt_X4_init ⟨by decide, by decide, by decide⟩ rfl dX2_init_76 (cc_X4_init q72_98) rfl rfl (Nat.le_of_ble_eq_true rfl) rfl rfl ⟨(Nat.le_of_ble_eq_true rfl), (Nat.le_of_ble_eq_true rfl)⟩ ⟨(Nat.le_of_ble_eq_true rfl), (Nat.le_of_ble_eq_true rfl)⟩ (fun f76_100 => ?_)
  refine za_ws [(h, .inr (2, [.ref dk, .ref q12_8, .ref q34_19, .ref q40_22, .ref q53_28, .null, .null, .null, .int 0, .int 0])), (q12_8, .inl (cI, 10, .inl (va_cpy atF (fun _ => 0) 0 0 10))), (q34_19, .inl (cI, 34, .inl (fun _ => 0))), (q40_22, .inr (0, [.ref (f44_24 0), .ref (f44_24 1), .ref (f44_24 2), .ref (f44_24 3), .ref (f44_24 4), .ref (f44_24 5), .ref (f44_24 6), .int 0, .int 0, .int 0])), ((f44_24 0), .inl (cI, 64, .inl (fun _ => 0))), ((f44_24 1), .inl (cI, 64, .inl (fun _ => 0))), ((f44_24 2), .inl (cI, 64, .inl (fun _ => 0))), ((f44_24 3), .inl (cI, 64, .inl (fun _ => 0))), ((f44_24 4), .inl (cI, 64, .inl (fun _ => 0))), ((f44_24 5), .inl (cZ, 64, .inl (fun _ => 0))), ((f44_24 6), .inl (cI, 10000, .inl (fun _ => 0))), (q53_28, .inl (cS, 6, .inr (.inr (.inr (.inr (va_up (va_up (va_up (va_up (va_up (fun _ => none) 0 (some q72_38)) 1 (some q72_50)) 2 (some q72_62)) 3 (some q72_74)) 4 (some q72_86))))))), (q72_38, .inr (4, [.int (-1), .int 0, .int 0, .int 0, .int 0, .int 0, .int (-1), .int 0, .int 0, .int 0, .int 0])), (q72_50, .inr (4, [.int (-1), .int 0, .int 0, .int 0, .int 0, .int 0, .int (-1), .int 0, .int 0, .int 0, .int 0])), (q72_62, .inr (4, [.int (-1), .int 0, .int 0, .int 0, .int 0, .int 0, .int (-1), .int 0, .int 0, .int 0, .int 0])), (q72_74, .inr (4, [.int (-1), .int 0, .int 0, .int 0, .int 0, .int 0, .int (-1), .int 0, .int 0, .int 0, .int 0])), (q72_86, .inr (4, [.int (-1), .int 0, .int 0, .int 0, .int 0, .int 0, .int (-1), .int 0, .int 0, .int 0, .int 0])), (q72_98, .inr (4, [.int (-1), .int 0, .int 0, .int 0, .int 0, .int 0, .int (-1), .int 0, .int 0, .int 0, .int 0]))] rfl ?_
  refine za_astq B (q0 := 11) (t0 := 2) (qk := 17) (ci := 4) rfl rfl rfl rfl (by unfold vp_in; decide) [(h, .inr (2, [.ref dk, .ref q12_8, .ref q34_19, .ref q40_22, .ref q53_28, .null, .null, .null, .int 0, .int 0])), (q12_8, .inl (cI, 10, .inl (va_cpy atF (fun _ => 0) 0 0 10))), (q34_19, .inl (cI, 34, .inl (fun _ => 0))), (q40_22, .inr (0, [.ref (f44_24 0), .ref (f44_24 1), .ref (f44_24 2), .ref (f44_24 3), .ref (f44_24 4), .ref (f44_24 5), .ref (f44_24 6), .int 0, .int 0, .int 0])), ((f44_24 0), .inl (cI, 64, .inl (fun _ => 0))), ((f44_24 1), .inl (cI, 64, .inl (fun _ => 0))), ((f44_24 2), .inl (cI, 64, .inl (fun _ => 0))), ((f44_24 3), .inl (cI, 64, .inl (fun _ => 0))), ((f44_24 4), .inl (cI, 64, .inl (fun _ => 0))), ((f44_24 5), .inl (cZ, 64, .inl (fun _ => 0))), ((f44_24 6), .inl (cI, 10000, .inl (fun _ => 0))), (q53_28, .inl (cS, 6, .inr (.inr (.inr (.inr (va_up (va_up (va_up (va_up (va_up (va_up (fun _ => none) 0 (some q72_38)) 1 (some q72_50)) 2 (some q72_62)) 3 (some q72_74)) 4 (some q72_86)) 5 (some q72_98))))))), (q72_38, .inr (4, [.int (-1), .int 0, .int 0, .int 0, .int 0, .int 0, .int (-1), .int 0, .int 0, .int 0, .int 0])), (q72_50, .inr (4, [.int (-1), .int 0, .int 0, .int 0, .int 0, .int 0, .int (-1), .int 0, .int 0, .int 0, .int 0])), (q72_62, .inr (4, [.int (-1), .int 0, .int 0, .int 0, .int 0, .int 0, .int (-1), .int 0, .int 0, .int 0, .int 0])), (q72_74, .inr (4, [.int (-1), .int 0, .int 0, .int 0, .int 0, .int 0, .int (-1), .int 0, .int 0, .int 0, .int 0])), (q72_86, .inr (4, [.int (-1), .int 0, .int 0, .int 0, .int 0, .int 0, .int (-1), .int 0, .int 0, .int 0, .int 0])), (q72_98, .inr (4, [.int (-1), .int 0, .int 0, .int 0, .int 0, .int 0, .int (-1), .int 0, .int 0, .int 0, .int 0]))] rfl dX2_init_79 ?_
  refine za_iinc B (6) 0 [(2, .int (6)), (0, .ref h), (1, .ref dk)] dX2_init_80 (by decide) rfl (Nat.le_of_ble_eq_true rfl) rfl ?_
  refine za_goto B 61 dX2_init_83 (by decide) ?_
  refine za_iload_n B dX2_init_61 0 rfl rfl ?_
  refine za_bipush B (6) dX2_init_62 zc_bipush_6 ?_
  refine za_ge_t B 86 dX2_init_64 (by decide) (by decide) ?_
  refine za_aload_n B dX2_init_86 1 rfl rfl ?_
  refine za_new B (ci := 3) (fs := [.null, .null, .null, .int 0, .int 0]) iX3 tyX3 tyX3_ok kw_208 kw_209 kw_62 rfl (by decide +kernel) (Nat.le_of_ble_eq_true rfl) (Nat.le_of_ble_eq_true rfl) dX2_init_87 (fun q87_108 => ?_)
  refine za_dup B dX2_init_90 rfl ?_
  refine za_callIN B (wr := [(h, .inr (2, [.ref dk, .ref q12_8, .ref q34_19, .ref q40_22, .ref q53_28, .null, .null, .null, .int 0, .int 0])), (q12_8, .inl (cI, 10, .inl (va_cpy atF (fun _ => 0) 0 0 10))), (q34_19, .inl (cI, 34, .inl (fun _ => 0))), (q40_22, .inr (0, [.ref (f44_24 0), .ref (f44_24 1), .ref (f44_24 2), .ref (f44_24 3), .ref (f44_24 4), .ref (f44_24 5), .ref (f44_24 6), .int 0, .int 0, .int 0])), ((f44_24 0), .inl (cI, 64, .inl (fun _ => 0))), ((f44_24 1), .inl (cI, 64, .inl (fun _ => 0))), ((f44_24 2), .inl (cI, 64, .inl (fun _ => 0))), ((f44_24 3), .inl (cI, 64, .inl (fun _ => 0))), ((f44_24 4), .inl (cI, 64, .inl (fun _ => 0))), ((f44_24 5), .inl (cZ, 64, .inl (fun _ => 0))), ((f44_24 6), .inl (cI, 10000, .inl (fun _ => 0))), (q53_28, .inl (cS, 6, .inr (.inr (.inr (.inr (va_up (va_up (va_up (va_up (va_up (va_up (fun _ => none) 0 (some q72_38)) 1 (some q72_50)) 2 (some q72_62)) 3 (some q72_74)) 4 (some q72_86)) 5 (some q72_98))))))), (q72_38, .inr (4, [.int (-1), .int 0, .int 0, .int 0, .int 0, .int 0, .int (-1), .int 0, .int 0, .int 0, .int 0])), (q72_50, .inr (4, [.int (-1), .int 0, .int 0, .int 0, .int 0, .int 0, .int (-1), .int 0, .int 0, .int 0, .int 0])), (q72_62, .inr (4, [.int (-1), .int 0, .int 0, .int 0, .int 0, .int 0, .int (-1), .int 0, .int 0, .int 0, .int 0])), (q72_74, .inr (4, [.int (-1), .int 0, .int 0, .int 0, .int 0, .int 0, .int (-1), .int 0, .int 0, .int 0, .int 0])), (q72_86, .inr (4, [.int (-1), .int 0, .int 0, .int 0, .int 0, .int 0, .int (-1), .int 0, .int 0, .int 0, .int 0])), (q72_98, .inr (4, [.int (-1), .int 0, .int 0, .int 0, .int 0, .int 0, .int (-1), .int 0, .int 0, .int 0, .int 0]))]) (wc := [(q87_108, .inr (3, [.null, .null, .null, .int 0, .int 0]))]) (As := []) (sfC_NX2_47 B) kw_211 (show Cond.initialized yX3_init.cls ∈ zTb from kw_62) kt_X3_init ⟨by decide, by decide, by decide⟩ rfl dX2_init_91 (cc_X3_init q87_108) rfl rfl (Nat.le_of_ble_eq_true rfl) rfl rfl ⟨(Nat.le_of_ble_eq_true rfl), (Nat.le_of_ble_eq_true rfl)⟩ ⟨(Nat.le_of_ble_eq_true rfl), (Nat.le_of_ble_eq_true rfl)⟩ (fun f91_110 => ?_)
  refine za_ws [(h, .inr (2, [.ref dk, .ref q12_8, .ref q34_19, .ref q40_22, .ref q53_28, .null, .null, .null, .int 0, .int 0])), (q12_8, .inl (cI, 10, .inl (va_cpy atF (fun _ => 0) 0 0 10))), (q34_19, .inl (cI, 34, .inl (fun _ => 0))), (q40_22, .inr (0, [.ref (f44_24 0), .ref (f44_24 1), .ref (f44_24 2), .ref (f44_24 3), .ref (f44_24 4), .ref (f44_24 5), .ref (f44_24 6), .int 0, .int 0, .int 0])), ((f44_24 0), .inl (cI, 64, .inl (fun _ => 0))), ((f44_24 1), .inl (cI, 64, .inl (fun _ => 0))), ((f44_24 2), .inl (cI, 64, .inl (fun _ => 0))), ((f44_24 3), .inl (cI, 64, .inl (fun _ => 0))), ((f44_24 4), .inl (cI, 64, .inl (fun _ => 0))), ((f44_24 5), .inl (cZ, 64, .inl (fun _ => 0))), ((f44_24 6), .inl (cI, 10000, .inl (fun _ => 0))), (q53_28, .inl (cS, 6, .inr (.inr (.inr (.inr (va_up (va_up (va_up (va_up (va_up (va_up (fun _ => none) 0 (some q72_38)) 1 (some q72_50)) 2 (some q72_62)) 3 (some q72_74)) 4 (some q72_86)) 5 (some q72_98))))))), (q72_38, .inr (4, [.int (-1), .int 0, .int 0, .int 0, .int 0, .int 0, .int (-1), .int 0, .int 0, .int 0, .int 0])), (q72_50, .inr (4, [.int (-1), .int 0, .int 0, .int 0, .int 0, .int 0, .int (-1), .int 0, .int 0, .int 0, .int 0])), (q72_62, .inr (4, [.int (-1), .int 0, .int 0, .int 0, .int 0, .int 0, .int (-1), .int 0, .int 0, .int 0, .int 0])), (q72_74, .inr (4, [.int (-1), .int 0, .int 0, .int 0, .int 0, .int 0, .int (-1), .int 0, .int 0, .int 0, .int 0])), (q72_86, .inr (4, [.int (-1), .int 0, .int 0, .int 0, .int 0, .int 0, .int (-1), .int 0, .int 0, .int 0, .int 0])), (q72_98, .inr (4, [.int (-1), .int 0, .int 0, .int 0, .int 0, .int 0, .int (-1), .int 0, .int 0, .int 0, .int 0])), (q87_108, .inr (3, [.ref (f91_110 0), .ref (f91_110 1), .ref (f91_110 2), .int 0, .int 0])), ((f91_110 0), .inl (cI, 400, .inl (fun _ => 0))), ((f91_110 1), .inl (cI, 400, .inl (fun _ => 0))), ((f91_110 2), .inl (cI, 400, .inl (fun _ => 0)))] rfl ?_
  refine za_putF B hnm (q0 := 0) (j := 5) iX2 tyX2 tyX2_ok nmX2 rfl rfl (Nat.le_of_ble_eq_true rfl) kw_258 rfl rfl (tyX2_ok 5 (Nat.le_of_ble_eq_true rfl)) rfl rfl (Nat.le_of_ble_eq_true rfl) [(h, .inr (2, [.ref dk, .ref q12_8, .ref q34_19, .ref q40_22, .ref q53_28, .ref q87_108, .null, .null, .int 0, .int 0])), (q12_8, .inl (cI, 10, .inl (va_cpy atF (fun _ => 0) 0 0 10))), (q34_19, .inl (cI, 34, .inl (fun _ => 0))), (q40_22, .inr (0, [.ref (f44_24 0), .ref (f44_24 1), .ref (f44_24 2), .ref (f44_24 3), .ref (f44_24 4), .ref (f44_24 5), .ref (f44_24 6), .int 0, .int 0, .int 0])), ((f44_24 0), .inl (cI, 64, .inl (fun _ => 0))), ((f44_24 1), .inl (cI, 64, .inl (fun _ => 0))), ((f44_24 2), .inl (cI, 64, .inl (fun _ => 0))), ((f44_24 3), .inl (cI, 64, .inl (fun _ => 0))), ((f44_24 4), .inl (cI, 64, .inl (fun _ => 0))), ((f44_24 5), .inl (cZ, 64, .inl (fun _ => 0))), ((f44_24 6), .inl (cI, 10000, .inl (fun _ => 0))), (q53_28, .inl (cS, 6, .inr (.inr (.inr (.inr (va_up (va_up (va_up (va_up (va_up (va_up (fun _ => none) 0 (some q72_38)) 1 (some q72_50)) 2 (some q72_62)) 3 (some q72_74)) 4 (some q72_86)) 5 (some q72_98))))))), (q72_38, .inr (4, [.int (-1), .int 0, .int 0, .int 0, .int 0, .int 0, .int (-1), .int 0, .int 0, .int 0, .int 0])), (q72_50, .inr (4, [.int (-1), .int 0, .int 0, .int 0, .int 0, .int 0, .int (-1), .int 0, .int 0, .int 0, .int 0])), (q72_62, .inr (4, [.int (-1), .int 0, .int 0, .int 0, .int 0, .int 0, .int (-1), .int 0, .int 0, .int 0, .int 0])), (q72_74, .inr (4, [.int (-1), .int 0, .int 0, .int 0, .int 0, .int 0, .int (-1), .int 0, .int 0, .int 0, .int 0])), (q72_86, .inr (4, [.int (-1), .int 0, .int 0, .int 0, .int 0, .int 0, .int (-1), .int 0, .int 0, .int 0, .int 0])), (q72_98, .inr (4, [.int (-1), .int 0, .int 0, .int 0, .int 0, .int 0, .int (-1), .int 0, .int 0, .int 0, .int 0])), (q87_108, .inr (3, [.ref (f91_110 0), .ref (f91_110 1), .ref (f91_110 2), .int 0, .int 0])), ((f91_110 0), .inl (cI, 400, .inl (fun _ => 0))), ((f91_110 1), .inl (cI, 400, .inl (fun _ => 0))), ((f91_110 2), .inl (cI, 400, .inl (fun _ => 0)))] rfl dX2_init_94 ?_
  refine za_aload_n B dX2_init_97 1 rfl rfl ?_
  refine za_new B (ci := 6) (fs := [.null, .int 0, .int 0]) iX6 tyX6 tyX6_ok kw_233 kw_234 kw_63 rfl (by decide +kernel) (Nat.le_of_ble_eq_true rfl) (Nat.le_of_ble_eq_true rfl) dX2_init_98 (fun q98_113 => ?_)
  refine za_dup B dX2_init_101 rfl ?_
  refine za_callIN B (wr := [(h, .inr (2, [.ref dk, .ref q12_8, .ref q34_19, .ref q40_22, .ref q53_28, .ref q87_108, .null, .null, .int 0, .int 0])), (q12_8, .inl (cI, 10, .inl (va_cpy atF (fun _ => 0) 0 0 10))), (q34_19, .inl (cI, 34, .inl (fun _ => 0))), (q40_22, .inr (0, [.ref (f44_24 0), .ref (f44_24 1), .ref (f44_24 2), .ref (f44_24 3), .ref (f44_24 4), .ref (f44_24 5), .ref (f44_24 6), .int 0, .int 0, .int 0])), ((f44_24 0), .inl (cI, 64, .inl (fun _ => 0))), ((f44_24 1), .inl (cI, 64, .inl (fun _ => 0))), ((f44_24 2), .inl (cI, 64, .inl (fun _ => 0))), ((f44_24 3), .inl (cI, 64, .inl (fun _ => 0))), ((f44_24 4), .inl (cI, 64, .inl (fun _ => 0))), ((f44_24 5), .inl (cZ, 64, .inl (fun _ => 0))), ((f44_24 6), .inl (cI, 10000, .inl (fun _ => 0))), (q53_28, .inl (cS, 6, .inr (.inr (.inr (.inr (va_up (va_up (va_up (va_up (va_up (va_up (fun _ => none) 0 (some q72_38)) 1 (some q72_50)) 2 (some q72_62)) 3 (some q72_74)) 4 (some q72_86)) 5 (some q72_98))))))), (q72_38, .inr (4, [.int (-1), .int 0, .int 0, .int 0, .int 0, .int 0, .int (-1), .int 0, .int 0, .int 0, .int 0])), (q72_50, .inr (4, [.int (-1), .int 0, .int 0, .int 0, .int 0, .int 0, .int (-1), .int 0, .int 0, .int 0, .int 0])), (q72_62, .inr (4, [.int (-1), .int 0, .int 0, .int 0, .int 0, .int 0, .int (-1), .int 0, .int 0, .int 0, .int 0])), (q72_74, .inr (4, [.int (-1), .int 0, .int 0, .int 0, .int 0, .int 0, .int (-1), .int 0, .int 0, .int 0, .int 0])), (q72_86, .inr (4, [.int (-1), .int 0, .int 0, .int 0, .int 0, .int 0, .int (-1), .int 0, .int 0, .int 0, .int 0])), (q72_98, .inr (4, [.int (-1), .int 0, .int 0, .int 0, .int 0, .int 0, .int (-1), .int 0, .int 0, .int 0, .int 0])), (q87_108, .inr (3, [.ref (f91_110 0), .ref (f91_110 1), .ref (f91_110 2), .int 0, .int 0])), ((f91_110 0), .inl (cI, 400, .inl (fun _ => 0))), ((f91_110 1), .inl (cI, 400, .inl (fun _ => 0))), ((f91_110 2), .inl (cI, 400, .inl (fun _ => 0)))]) (wc := [(q98_113, .inr (6, [.null, .int 0, .int 0]))]) (As := []) (sfC_NX2_54 B) kw_236 (show Cond.initialized yX6_init.cls ∈ zTb from kw_63) kt_X6_init ⟨by decide, by decide, by decide⟩ rfl dX2_init_102 (cc_X6_init q98_113) rfl rfl (Nat.le_of_ble_eq_true rfl) rfl rfl ⟨(Nat.le_of_ble_eq_true rfl), (Nat.le_of_ble_eq_true rfl)⟩ ⟨(Nat.le_of_ble_eq_true rfl), (Nat.le_of_ble_eq_true rfl)⟩ (fun f102_115 => ?_)
  refine za_ws [(h, .inr (2, [.ref dk, .ref q12_8, .ref q34_19, .ref q40_22, .ref q53_28, .ref q87_108, .null, .null, .int 0, .int 0])), (q12_8, .inl (cI, 10, .inl (va_cpy atF (fun _ => 0) 0 0 10))), (q34_19, .inl (cI, 34, .inl (fun _ => 0))), (q40_22, .inr (0, [.ref (f44_24 0), .ref (f44_24 1), .ref (f44_24 2), .ref (f44_24 3), .ref (f44_24 4), .ref (f44_24 5), .ref (f44_24 6), .int 0, .int 0, .int 0])), ((f44_24 0), .inl (cI, 64, .inl (fun _ => 0))), ((f44_24 1), .inl (cI, 64, .inl (fun _ => 0))), ((f44_24 2), .inl (cI, 64, .inl (fun _ => 0))), ((f44_24 3), .inl (cI, 64, .inl (fun _ => 0))), ((f44_24 4), .inl (cI, 64, .inl (fun _ => 0))), ((f44_24 5), .inl (cZ, 64, .inl (fun _ => 0))), ((f44_24 6), .inl (cI, 10000, .inl (fun _ => 0))), (q53_28, .inl (cS, 6, .inr (.inr (.inr (.inr (va_up (va_up (va_up (va_up (va_up (va_up (fun _ => none) 0 (some q72_38)) 1 (some q72_50)) 2 (some q72_62)) 3 (some q72_74)) 4 (some q72_86)) 5 (some q72_98))))))), (q72_38, .inr (4, [.int (-1), .int 0, .int 0, .int 0, .int 0, .int 0, .int (-1), .int 0, .int 0, .int 0, .int 0])), (q72_50, .inr (4, [.int (-1), .int 0, .int 0, .int 0, .int 0, .int 0, .int (-1), .int 0, .int 0, .int 0, .int 0])), (q72_62, .inr (4, [.int (-1), .int 0, .int 0, .int 0, .int 0, .int 0, .int (-1), .int 0, .int 0, .int 0, .int 0])), (q72_74, .inr (4, [.int (-1), .int 0, .int 0, .int 0, .int 0, .int 0, .int (-1), .int 0, .int 0, .int 0, .int 0])), (q72_86, .inr (4, [.int (-1), .int 0, .int 0, .int 0, .int 0, .int 0, .int (-1), .int 0, .int 0, .int 0, .int 0])), (q72_98, .inr (4, [.int (-1), .int 0, .int 0, .int 0, .int 0, .int 0, .int (-1), .int 0, .int 0, .int 0, .int 0])), (q87_108, .inr (3, [.ref (f91_110 0), .ref (f91_110 1), .ref (f91_110 2), .int 0, .int 0])), ((f91_110 0), .inl (cI, 400, .inl (fun _ => 0))), ((f91_110 1), .inl (cI, 400, .inl (fun _ => 0))), ((f91_110 2), .inl (cI, 400, .inl (fun _ => 0))), (q98_113, .inr (6, [.ref (f102_115 0), .int 0, .int 0])), ((f102_115 0), .inl (cI, 160, .inl (fun _ => 0)))] rfl ?_
  refine za_putF B hnm (q0 := 0) (j := 6) iX2 tyX2 tyX2_ok nmX2 rfl rfl (Nat.le_of_ble_eq_true rfl) kw_259 rfl rfl (tyX2_ok 6 (Nat.le_of_ble_eq_true rfl)) rfl rfl (Nat.le_of_ble_eq_true rfl) [(h, .inr (2, [.ref dk, .ref q12_8, .ref q34_19, .ref q40_22, .ref q53_28, .ref q87_108, .ref q98_113, .null, .int 0, .int 0])), (q12_8, .inl (cI, 10, .inl (va_cpy atF (fun _ => 0) 0 0 10))), (q34_19, .inl (cI, 34, .inl (fun _ => 0))), (q40_22, .inr (0, [.ref (f44_24 0), .ref (f44_24 1), .ref (f44_24 2), .ref (f44_24 3), .ref (f44_24 4), .ref (f44_24 5), .ref (f44_24 6), .int 0, .int 0, .int 0])), ((f44_24 0), .inl (cI, 64, .inl (fun _ => 0))), ((f44_24 1), .inl (cI, 64, .inl (fun _ => 0))), ((f44_24 2), .inl (cI, 64, .inl (fun _ => 0))), ((f44_24 3), .inl (cI, 64, .inl (fun _ => 0))), ((f44_24 4), .inl (cI, 64, .inl (fun _ => 0))), ((f44_24 5), .inl (cZ, 64, .inl (fun _ => 0))), ((f44_24 6), .inl (cI, 10000, .inl (fun _ => 0))), (q53_28, .inl (cS, 6, .inr (.inr (.inr (.inr (va_up (va_up (va_up (va_up (va_up (va_up (fun _ => none) 0 (some q72_38)) 1 (some q72_50)) 2 (some q72_62)) 3 (some q72_74)) 4 (some q72_86)) 5 (some q72_98))))))), (q72_38, .inr (4, [.int (-1), .int 0, .int 0, .int 0, .int 0, .int 0, .int (-1), .int 0, .int 0, .int 0, .int 0])), (q72_50, .inr (4, [.int (-1), .int 0, .int 0, .int 0, .int 0, .int 0, .int (-1), .int 0, .int 0, .int 0, .int 0])), (q72_62, .inr (4, [.int (-1), .int 0, .int 0, .int 0, .int 0, .int 0, .int (-1), .int 0, .int 0, .int 0, .int 0])), (q72_74, .inr (4, [.int (-1), .int 0, .int 0, .int 0, .int 0, .int 0, .int (-1), .int 0, .int 0, .int 0, .int 0])), (q72_86, .inr (4, [.int (-1), .int 0, .int 0, .int 0, .int 0, .int 0, .int (-1), .int 0, .int 0, .int 0, .int 0])), (q72_98, .inr (4, [.int (-1), .int 0, .int 0, .int 0, .int 0, .int 0, .int (-1), .int 0, .int 0, .int 0, .int 0])), (q87_108, .inr (3, [.ref (f91_110 0), .ref (f91_110 1), .ref (f91_110 2), .int 0, .int 0])), ((f91_110 0), .inl (cI, 400, .inl (fun _ => 0))), ((f91_110 1), .inl (cI, 400, .inl (fun _ => 0))), ((f91_110 2), .inl (cI, 400, .inl (fun _ => 0))), (q98_113, .inr (6, [.ref (f102_115 0), .int 0, .int 0])), ((f102_115 0), .inl (cI, 160, .inl (fun _ => 0)))] rfl dX2_init_105 ?_
  refine za_aload_n B dX2_init_108 1 rfl rfl ?_
  refine za_bipush B (32) dX2_init_109 zc_bipush_32 ?_
  refine za_newa B (t0 := 0) (N := 32) kAcI rfl (Or.inl rfl) rfl (by decide) (by decide) (Nat.le_of_ble_eq_true rfl) (Nat.le_of_ble_eq_true rfl) (Nat.le_of_ble_eq_true rfl) dX2_init_111 (fun q111_119 => ?_)
  refine za_ws [(h, .inr (2, [.ref dk, .ref q12_8, .ref q34_19, .ref q40_22, .ref q53_28, .ref q87_108, .ref q98_113, .null, .int 0, .int 0])), (q12_8, .inl (cI, 10, .inl (va_cpy atF (fun _ => 0) 0 0 10))), (q34_19, .inl (cI, 34, .inl (fun _ => 0))), (q40_22, .inr (0, [.ref (f44_24 0), .ref (f44_24 1), .ref (f44_24 2), .ref (f44_24 3), .ref (f44_24 4), .ref (f44_24 5), .ref (f44_24 6), .int 0, .int 0, .int 0])), ((f44_24 0), .inl (cI, 64, .inl (fun _ => 0))), ((f44_24 1), .inl (cI, 64, .inl (fun _ => 0))), ((f44_24 2), .inl (cI, 64, .inl (fun _ => 0))), ((f44_24 3), .inl (cI, 64, .inl (fun _ => 0))), ((f44_24 4), .inl (cI, 64, .inl (fun _ => 0))), ((f44_24 5), .inl (cZ, 64, .inl (fun _ => 0))), ((f44_24 6), .inl (cI, 10000, .inl (fun _ => 0))), (q53_28, .inl (cS, 6, .inr (.inr (.inr (.inr (va_up (va_up (va_up (va_up (va_up (va_up (fun _ => none) 0 (some q72_38)) 1 (some q72_50)) 2 (some q72_62)) 3 (some q72_74)) 4 (some q72_86)) 5 (some q72_98))))))), (q72_38, .inr (4, [.int (-1), .int 0, .int 0, .int 0, .int 0, .int 0, .int (-1), .int 0, .int 0, .int 0, .int 0])), (q72_50, .inr (4, [.int (-1), .int 0, .int 0, .int 0, .int 0, .int 0, .int (-1), .int 0, .int 0, .int 0, .int 0])), (q72_62, .inr (4, [.int (-1), .int 0, .int 0, .int 0, .int 0, .int 0, .int (-1), .int 0, .int 0, .int 0, .int 0])), (q72_74, .inr (4, [.int (-1), .int 0, .int 0, .int 0, .int 0, .int 0, .int (-1), .int 0, .int 0, .int 0, .int 0])), (q72_86, .inr (4, [.int (-1), .int 0, .int 0, .int 0, .int 0, .int 0, .int (-1), .int 0, .int 0, .int 0, .int 0])), (q72_98, .inr (4, [.int (-1), .int 0, .int 0, .int 0, .int 0, .int 0, .int (-1), .int 0, .int 0, .int 0, .int 0])), (q87_108, .inr (3, [.ref (f91_110 0), .ref (f91_110 1), .ref (f91_110 2), .int 0, .int 0])), ((f91_110 0), .inl (cI, 400, .inl (fun _ => 0))), ((f91_110 1), .inl (cI, 400, .inl (fun _ => 0))), ((f91_110 2), .inl (cI, 400, .inl (fun _ => 0))), (q98_113, .inr (6, [.ref (f102_115 0), .int 0, .int 0])), ((f102_115 0), .inl (cI, 160, .inl (fun _ => 0))), (q111_119, .inl (cI, 32, .inl (fun _ => 0)))] rfl ?_
  refine za_putF B hnm (q0 := 0) (j := 7) iX2 tyX2 tyX2_ok nmX2 rfl rfl (Nat.le_of_ble_eq_true rfl) kw_261 rfl rfl (tyX2_ok 7 (Nat.le_of_ble_eq_true rfl)) rfl rfl (Nat.le_of_ble_eq_true rfl) [(h, .inr (2, [.ref dk, .ref q12_8, .ref q34_19, .ref q40_22, .ref q53_28, .ref q87_108, .ref q98_113, .ref q111_119, .int 0, .int 0])), (q12_8, .inl (cI, 10, .inl (va_cpy atF (fun _ => 0) 0 0 10))), (q34_19, .inl (cI, 34, .inl (fun _ => 0))), (q40_22, .inr (0, [.ref (f44_24 0), .ref (f44_24 1), .ref (f44_24 2), .ref (f44_24 3), .ref (f44_24 4), .ref (f44_24 5), .ref (f44_24 6), .int 0, .int 0, .int 0])), ((f44_24 0), .inl (cI, 64, .inl (fun _ => 0))), ((f44_24 1), .inl (cI, 64, .inl (fun _ => 0))), ((f44_24 2), .inl (cI, 64, .inl (fun _ => 0))), ((f44_24 3), .inl (cI, 64, .inl (fun _ => 0))), ((f44_24 4), .inl (cI, 64, .inl (fun _ => 0))), ((f44_24 5), .inl (cZ, 64, .inl (fun _ => 0))), ((f44_24 6), .inl (cI, 10000, .inl (fun _ => 0))), (q53_28, .inl (cS, 6, .inr (.inr (.inr (.inr (va_up (va_up (va_up (va_up (va_up (va_up (fun _ => none) 0 (some q72_38)) 1 (some q72_50)) 2 (some q72_62)) 3 (some q72_74)) 4 (some q72_86)) 5 (some q72_98))))))), (q72_38, .inr (4, [.int (-1), .int 0, .int 0, .int 0, .int 0, .int 0, .int (-1), .int 0, .int 0, .int 0, .int 0])), (q72_50, .inr (4, [.int (-1), .int 0, .int 0, .int 0, .int 0, .int 0, .int (-1), .int 0, .int 0, .int 0, .int 0])), (q72_62, .inr (4, [.int (-1), .int 0, .int 0, .int 0, .int 0, .int 0, .int (-1), .int 0, .int 0, .int 0, .int 0])), (q72_74, .inr (4, [.int (-1), .int 0, .int 0, .int 0, .int 0, .int 0, .int (-1), .int 0, .int 0, .int 0, .int 0])), (q72_86, .inr (4, [.int (-1), .int 0, .int 0, .int 0, .int 0, .int 0, .int (-1), .int 0, .int 0, .int 0, .int 0])), (q72_98, .inr (4, [.int (-1), .int 0, .int 0, .int 0, .int 0, .int 0, .int (-1), .int 0, .int 0, .int 0, .int 0])), (q87_108, .inr (3, [.ref (f91_110 0), .ref (f91_110 1), .ref (f91_110 2), .int 0, .int 0])), ((f91_110 0), .inl (cI, 400, .inl (fun _ => 0))), ((f91_110 1), .inl (cI, 400, .inl (fun _ => 0))), ((f91_110 2), .inl (cI, 400, .inl (fun _ => 0))), (q98_113, .inr (6, [.ref (f102_115 0), .int 0, .int 0])), ((f102_115 0), .inl (cI, 160, .inl (fun _ => 0))), (q111_119, .inl (cI, 32, .inl (fun _ => 0)))] rfl dX2_init_113 ?_
  refine za_aload_n B dX2_init_116 1 rfl rfl ?_
  refine za_iconst B (-1) dX2_init_117 zc_iconst_m1 ?_
  refine za_putI B (q0 := 0) (j := 9) iX2 tyX2 tyX2_ok nmX2 rfl rfl (Nat.le_of_ble_eq_true rfl) kw_263 rfl (tyX2_ok 9 (Nat.le_of_ble_eq_true rfl)) (Nat.le_of_ble_eq_true rfl) [(h, .inr (2, [.ref dk, .ref q12_8, .ref q34_19, .ref q40_22, .ref q53_28, .ref q87_108, .ref q98_113, .ref q111_119, .int 0, .int (-1)])), (q12_8, .inl (cI, 10, .inl (va_cpy atF (fun _ => 0) 0 0 10))), (q34_19, .inl (cI, 34, .inl (fun _ => 0))), (q40_22, .inr (0, [.ref (f44_24 0), .ref (f44_24 1), .ref (f44_24 2), .ref (f44_24 3), .ref (f44_24 4), .ref (f44_24 5), .ref (f44_24 6), .int 0, .int 0, .int 0])), ((f44_24 0), .inl (cI, 64, .inl (fun _ => 0))), ((f44_24 1), .inl (cI, 64, .inl (fun _ => 0))), ((f44_24 2), .inl (cI, 64, .inl (fun _ => 0))), ((f44_24 3), .inl (cI, 64, .inl (fun _ => 0))), ((f44_24 4), .inl (cI, 64, .inl (fun _ => 0))), ((f44_24 5), .inl (cZ, 64, .inl (fun _ => 0))), ((f44_24 6), .inl (cI, 10000, .inl (fun _ => 0))), (q53_28, .inl (cS, 6, .inr (.inr (.inr (.inr (va_up (va_up (va_up (va_up (va_up (va_up (fun _ => none) 0 (some q72_38)) 1 (some q72_50)) 2 (some q72_62)) 3 (some q72_74)) 4 (some q72_86)) 5 (some q72_98))))))), (q72_38, .inr (4, [.int (-1), .int 0, .int 0, .int 0, .int 0, .int 0, .int (-1), .int 0, .int 0, .int 0, .int 0])), (q72_50, .inr (4, [.int (-1), .int 0, .int 0, .int 0, .int 0, .int 0, .int (-1), .int 0, .int 0, .int 0, .int 0])), (q72_62, .inr (4, [.int (-1), .int 0, .int 0, .int 0, .int 0, .int 0, .int (-1), .int 0, .int 0, .int 0, .int 0])), (q72_74, .inr (4, [.int (-1), .int 0, .int 0, .int 0, .int 0, .int 0, .int (-1), .int 0, .int 0, .int 0, .int 0])), (q72_86, .inr (4, [.int (-1), .int 0, .int 0, .int 0, .int 0, .int 0, .int (-1), .int 0, .int 0, .int 0, .int 0])), (q72_98, .inr (4, [.int (-1), .int 0, .int 0, .int 0, .int 0, .int 0, .int (-1), .int 0, .int 0, .int 0, .int 0])), (q87_108, .inr (3, [.ref (f91_110 0), .ref (f91_110 1), .ref (f91_110 2), .int 0, .int 0])), ((f91_110 0), .inl (cI, 400, .inl (fun _ => 0))), ((f91_110 1), .inl (cI, 400, .inl (fun _ => 0))), ((f91_110 2), .inl (cI, 400, .inl (fun _ => 0))), (q98_113, .inr (6, [.ref (f102_115 0), .int 0, .int 0])), ((f102_115 0), .inl (cI, 160, .inl (fun _ => 0))), (q111_119, .inl (cI, 32, .inl (fun _ => 0)))] rfl dX2_init_118 ?_
  exact za_return (post := po_X2_init cI cZ cS cD cE h dk) B (fun i => ([q12_8, q34_19, q40_22, (f44_24 0), (f44_24 1), (f44_24 2), (f44_24 3), (f44_24 4), (f44_24 5), (f44_24 6), q53_28, q72_38, q72_50, q72_62, q72_74, q72_86, q72_98, q87_108, (f91_110 0), (f91_110 1), (f91_110 2), q98_113, (f102_115 0), q111_119] : List Nat).getD i 0) dX2_init_121 rfl
