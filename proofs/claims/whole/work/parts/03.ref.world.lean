theorem zc_iconst_m2 : Int32.ofInt (-2) = ((-2) : Int32) := by decide
theorem zc_iconst_m1 : Int32.ofInt (-1) = ((-1) : Int32) := by decide
theorem zc_iconst_0 : Int32.ofInt (0) = ((0) : Int32) := by decide
theorem zc_iconst_1 : Int32.ofInt (1) = ((1) : Int32) := by decide
theorem zc_iconst_2 : Int32.ofInt (2) = ((2) : Int32) := by decide
theorem zc_iconst_3 : Int32.ofInt (3) = ((3) : Int32) := by decide
theorem zc_iconst_4 : Int32.ofInt (4) = ((4) : Int32) := by decide
theorem zc_iconst_5 : Int32.ofInt (5) = ((5) : Int32) := by decide
theorem zc_iconst_8 : Int32.ofInt (8) = ((8) : Int32) := by decide
theorem zc_bipush_m2 : (Int8.ofInt (-2)).toInt32 = ((-2) : Int32) := by decide
theorem zc_bipush_6 : (Int8.ofInt (6)).toInt32 = ((6) : Int32) := by decide
theorem zc_bipush_7 : (Int8.ofInt (7)).toInt32 = ((7) : Int32) := by decide
theorem zc_bipush_8 : (Int8.ofInt (8)).toInt32 = ((8) : Int32) := by decide
theorem zc_bipush_9 : (Int8.ofInt (9)).toInt32 = ((9) : Int32) := by decide
theorem zc_bipush_10 : (Int8.ofInt (10)).toInt32 = ((10) : Int32) := by decide
theorem zc_bipush_11 : (Int8.ofInt (11)).toInt32 = ((11) : Int32) := by decide
theorem zc_bipush_12 : (Int8.ofInt (12)).toInt32 = ((12) : Int32) := by decide
theorem zc_bipush_13 : (Int8.ofInt (13)).toInt32 = ((13) : Int32) := by decide
theorem zc_bipush_14 : (Int8.ofInt (14)).toInt32 = ((14) : Int32) := by decide
theorem zc_bipush_15 : (Int8.ofInt (15)).toInt32 = ((15) : Int32) := by decide
theorem zc_bipush_16 : (Int8.ofInt (16)).toInt32 = ((16) : Int32) := by decide
theorem zc_bipush_17 : (Int8.ofInt (17)).toInt32 = ((17) : Int32) := by decide
theorem zc_bipush_18 : (Int8.ofInt (18)).toInt32 = ((18) : Int32) := by decide
theorem zc_bipush_19 : (Int8.ofInt (19)).toInt32 = ((19) : Int32) := by decide
theorem zc_bipush_20 : (Int8.ofInt (20)).toInt32 = ((20) : Int32) := by decide
theorem zc_bipush_21 : (Int8.ofInt (21)).toInt32 = ((21) : Int32) := by decide
theorem zc_bipush_22 : (Int8.ofInt (22)).toInt32 = ((22) : Int32) := by decide
theorem zc_bipush_23 : (Int8.ofInt (23)).toInt32 = ((23) : Int32) := by decide
theorem zc_bipush_24 : (Int8.ofInt (24)).toInt32 = ((24) : Int32) := by decide
theorem zc_bipush_25 : (Int8.ofInt (25)).toInt32 = ((25) : Int32) := by decide
theorem zc_bipush_26 : (Int8.ofInt (26)).toInt32 = ((26) : Int32) := by decide
theorem zc_bipush_27 : (Int8.ofInt (27)).toInt32 = ((27) : Int32) := by decide
theorem zc_bipush_28 : (Int8.ofInt (28)).toInt32 = ((28) : Int32) := by decide
theorem zc_bipush_30 : (Int8.ofInt (30)).toInt32 = ((30) : Int32) := by decide
theorem zc_bipush_40 : (Int8.ofInt (40)).toInt32 = ((40) : Int32) := by decide
theorem zc_bipush_64 : (Int8.ofInt (64)).toInt32 = ((64) : Int32) := by decide
theorem zc_bipush_99 : (Int8.ofInt (99)).toInt32 = ((99) : Int32) := by decide
theorem zc_bipush_100 : (Int8.ofInt (100)).toInt32 = ((100) : Int32) := by decide
theorem zc_sipush_400 : (Int16.ofInt (400)).toInt32 = ((400) : Int32) := by decide
theorem zc_sipush_401 : (Int16.ofInt (401)).toInt32 = ((401) : Int32) := by decide
theorem zc_sipush_542 : (Int16.ofInt (542)).toInt32 = ((542) : Int32) := by decide
theorem zc_sipush_614 : (Int16.ofInt (614)).toInt32 = ((614) : Int32) := by decide
theorem zc_sipush_774 : (Int16.ofInt (774)).toInt32 = ((774) : Int32) := by decide
theorem zc_sipush_1974 : (Int16.ofInt (1974)).toInt32 = ((1974) : Int32) := by decide
theorem zc_sipush_10000 : (Int16.ofInt (10000)).toInt32 = ((10000) : Int32) := by decide
/-! THE REFERENCE'S WORLD: cell 0 the object (slots as its fields), cell k the row in field k -/
def fdR (adr : Nat → Nat) (σ : ST) : List Value := [.int (σ 0 0), .ref (adr 1), .ref (adr 2), .ref (adr 3), .ref (adr 4), .ref (adr 5), .ref (adr 6), .ref (adr 7), .ref (adr 8), .ref (adr 9), .ref (adr 10), .int (σ 0 11), .int (σ 0 12), .int (σ 0 13), .ref (adr 14), .int (σ 0 15), .int (σ 0 16), .ref (adr 17), .int (σ 0 18), .ref (adr 19), .ref (adr 20), .ref (adr 21), .int (σ 0 22), .int (σ 0 23)]
def wfR (adr : Nat → Nat) (cI cZ : ClassId) (σ : ST) : va_W := [(adr 0, .inr (8, fdR adr σ)), (adr 1, .inl (cI, 1974, .inl (σ 1))), (adr 2, .inl (cI, 1974, .inl (σ 2))), (adr 3, .inl (cI, 3948, .inl (σ 3))), (adr 4, .inl (cI, 10000, .inl (σ 4))), (adr 5, .inl (cZ, 10000, .inl (σ 5))), (adr 6, .inl (cI, 20000, .inl (σ 6))), (adr 7, .inl (cZ, 20000, .inl (σ 7))), (adr 8, .inl (cZ, 2, .inl (σ 8))), (adr 9, .inl (cI, 10, .inl (σ 9))), (adr 10, .inl (cI, 10, .inl (σ 10))), (adr 14, .inl (cI, 64, .inl (σ 14))), (adr 17, .inl (cI, 400, .inl (σ 17))), (adr 19, .inl (cI, 64, .inl (σ 19))), (adr 20, .inl (cI, 64, .inl (σ 20))), (adr 21, .inl (cI, 10000, .inl (σ 21)))]
def wdR (adr : Nat → Nat) (cI cZ : ClassId) : zWd := (wfR adr cI cZ, [(cI, .int), (cZ, .boolean)], fun _ _ _ => True)
theorem sfR_ok {adr : Nat → Nat} {cI cZ : ClassId} : zSF (wdR adr cI cZ).2.2 := ⟨fun _ _ _ _ _ h => h, fun _ _ _ _ _ h => h, fun _ _ _ _ _ h => h, fun _ _ _ _ _ h => h⟩
theorem iX8 : ∀ w ∈ u_ws RX8 TX8 24, w ∈ zTb := by
  have h : (u_ws RX8 TX8 24).all (fun w => decide (w ∈ zTb)) = true := by decide +kernel
  exact fun w hw => of_decide_eq_true (List.all_eq_true.mp h w hw)
theorem wR_o {adr : Nat → Nat} {cI cZ : ClassId} {σ : ST} : ((wdR adr cI cZ).1 σ)[0]? = some (adr 0, .inr (8, fdR adr σ)) := rfl
section FR
variable {X : zX} {nL : Nat} {z : zV} {pc : Nat} {L : List (Nat × Value)} {st : List Value} {σ : ST} {cc : ByteArray} {ret : Option FieldType} {rm : Room} {β : Type} {r : β} {adr : Nat → Nat} {cI cZ : ClassId}
set_option maxRecDepth 20000 in
set_option maxHeartbeats 2000000 in
theorem kw_915 : Cond.fieldLink RX8 67 (TX8 0).1 (TX8 0).2.1 (TX8 0).2.2.1 ∈ zTb := zIn4 140 rfl rfl
theorem fR_g_thrown (B : zC X nL (wdR adr cI cZ) cc RX8 ret rm) {K : Int32 → Option β} (hd : decode cc pc = .ok (.getfield 67, 3)) (hf : zLet (σ 0 0) K = some r) (kk : ∀ v, K v = some r → zJ X nL (wdR adr cI cZ) z (pc + 3) L (.int v :: st) σ) : zJ X nL (wdR adr cI cZ) z pc L (.ref (adr 0) :: st) σ := z_get B (k := 0) iX8 rfl wR_o (Nat.le_of_ble_eq_true rfl) kw_915 rfl hd (kk _ hf)
theorem fR_p_thrown (B : zC X nL (wdR adr cI cZ) cc RX8 ret rm) {x : Int32} {K : ST → Option β} (hd : decode cc pc = .ok (.putfield 67, 3)) (hf : zLet (zUp σ 0 0 x) K = some r) (kk : ∀ σ1, K σ1 = some r → zJ X nL (wdR adr cI cZ) z (pc + 3) L st σ1) : zJ X nL (wdR adr cI cZ) z pc L (.int x :: .ref (adr 0) :: st) σ := z_put B (k := 0) (ce := 0) (ks := 0) iX8 tyX8 tyX8_ok nmX8 rfl wR_o (Nat.le_of_ble_eq_true rfl) kw_915 rfl rfl (Nat.le_of_ble_eq_true rfl) rfl hd hf kk
set_option maxRecDepth 20000 in
set_option maxHeartbeats 2000000 in
theorem kw_916 : Cond.fieldLink RX8 9 (TX8 1).1 (TX8 1).2.1 (TX8 1).2.2.1 ∈ zTb := zIn4 141 rfl rfl
theorem fR_g_row (B : zC X nL (wdR adr cI cZ) cc RX8 ret rm) (hd : decode cc pc = .ok (.getfield 9, 3)) (kk : zJ X nL (wdR adr cI cZ) z (pc + 3) L (.ref (adr 1) :: st) σ) : zJ X nL (wdR adr cI cZ) z pc L (.ref (adr 0) :: st) σ := z_get B (k := 1) iX8 rfl wR_o (Nat.le_of_ble_eq_true rfl) kw_916 rfl hd kk
theorem wR_g_row : ((wdR adr cI cZ).1 σ)[1]? = some (adr 1, .inl (cI, 1974, .inl (σ 1))) := rfl
theorem wR_s_row (g : Nat → Int32) : ((wdR adr cI cZ).1 σ).set 1 (adr 1, .inl (cI, 1974, .inl g)) = (wdR adr cI cZ).1 (va_up σ 1 g) := rfl
theorem fR_l_row (B : zC X nL (wdR adr cI cZ) cc RX8 ret rm) {i : Int32} {K : Int32 → Option β} (hd : decode cc pc = .ok (.iaload, 1)) (hf : zGet (σ 1) 1974 i K = some r) (kk : ∀ v, K v = some r → zJ X nL (wdR adr cI cZ) z (pc + 1) L (.int v :: st) σ) : zJ X nL (wdR adr cI cZ) z pc L (.int i :: .ref (adr 1) :: st) σ := z_iald B (t0 := 0) wR_g_row rfl hd hf kk
theorem fR_s_row (B : zC X nL (wdR adr cI cZ) cc RX8 ret rm) {i x : Int32} {K : ST → Option β} (hd : decode cc pc = .ok (.iastore, 1)) (hf : zSet σ 1 1974 i x K = some r) (kk : ∀ σ1, K σ1 = some r → zJ X nL (wdR adr cI cZ) z (pc + 1) L st σ1) : zJ X nL (wdR adr cI cZ) z pc L (.int x :: .int i :: .ref (adr 1) :: st) σ := z_iast B (t0 := 0) (ce := 1) wR_g_row wR_s_row rfl hd hf kk
set_option maxRecDepth 20000 in
set_option maxHeartbeats 2000000 in
theorem kw_917 : Cond.fieldLink RX8 15 (TX8 2).1 (TX8 2).2.1 (TX8 2).2.2.1 ∈ zTb := zIn4 142 rfl rfl
theorem fR_g_aside (B : zC X nL (wdR adr cI cZ) cc RX8 ret rm) (hd : decode cc pc = .ok (.getfield 15, 3)) (kk : zJ X nL (wdR adr cI cZ) z (pc + 3) L (.ref (adr 2) :: st) σ) : zJ X nL (wdR adr cI cZ) z pc L (.ref (adr 0) :: st) σ := z_get B (k := 2) iX8 rfl wR_o (Nat.le_of_ble_eq_true rfl) kw_917 rfl hd kk
theorem wR_g_aside : ((wdR adr cI cZ).1 σ)[2]? = some (adr 2, .inl (cI, 1974, .inl (σ 2))) := rfl
theorem wR_s_aside (g : Nat → Int32) : ((wdR adr cI cZ).1 σ).set 2 (adr 2, .inl (cI, 1974, .inl g)) = (wdR adr cI cZ).1 (va_up σ 2 g) := rfl
theorem fR_l_aside (B : zC X nL (wdR adr cI cZ) cc RX8 ret rm) {i : Int32} {K : Int32 → Option β} (hd : decode cc pc = .ok (.iaload, 1)) (hf : zGet (σ 2) 1974 i K = some r) (kk : ∀ v, K v = some r → zJ X nL (wdR adr cI cZ) z (pc + 1) L (.int v :: st) σ) : zJ X nL (wdR adr cI cZ) z pc L (.int i :: .ref (adr 2) :: st) σ := z_iald B (t0 := 0) wR_g_aside rfl hd hf kk
theorem fR_s_aside (B : zC X nL (wdR adr cI cZ) cc RX8 ret rm) {i x : Int32} {K : ST → Option β} (hd : decode cc pc = .ok (.iastore, 1)) (hf : zSet σ 2 1974 i x K = some r) (kk : ∀ σ1, K σ1 = some r → zJ X nL (wdR adr cI cZ) z (pc + 1) L st σ1) : zJ X nL (wdR adr cI cZ) z pc L (.int x :: .int i :: .ref (adr 2) :: st) σ := z_iast B (t0 := 0) (ce := 2) wR_g_aside wR_s_aside rfl hd hf kk
set_option maxRecDepth 20000 in
set_option maxHeartbeats 2000000 in
theorem kw_918 : Cond.fieldLink RX8 18 (TX8 3).1 (TX8 3).2.1 (TX8 3).2.2.1 ∈ zTb := zIn4 143 rfl rfl
theorem fR_g_kept (B : zC X nL (wdR adr cI cZ) cc RX8 ret rm) (hd : decode cc pc = .ok (.getfield 18, 3)) (kk : zJ X nL (wdR adr cI cZ) z (pc + 3) L (.ref (adr 3) :: st) σ) : zJ X nL (wdR adr cI cZ) z pc L (.ref (adr 0) :: st) σ := z_get B (k := 3) iX8 rfl wR_o (Nat.le_of_ble_eq_true rfl) kw_918 rfl hd kk
theorem wR_g_kept : ((wdR adr cI cZ).1 σ)[3]? = some (adr 3, .inl (cI, 3948, .inl (σ 3))) := rfl
theorem wR_s_kept (g : Nat → Int32) : ((wdR adr cI cZ).1 σ).set 3 (adr 3, .inl (cI, 3948, .inl g)) = (wdR adr cI cZ).1 (va_up σ 3 g) := rfl
theorem fR_l_kept (B : zC X nL (wdR adr cI cZ) cc RX8 ret rm) {i : Int32} {K : Int32 → Option β} (hd : decode cc pc = .ok (.iaload, 1)) (hf : zGet (σ 3) 3948 i K = some r) (kk : ∀ v, K v = some r → zJ X nL (wdR adr cI cZ) z (pc + 1) L (.int v :: st) σ) : zJ X nL (wdR adr cI cZ) z pc L (.int i :: .ref (adr 3) :: st) σ := z_iald B (t0 := 0) wR_g_kept rfl hd hf kk
theorem fR_s_kept (B : zC X nL (wdR adr cI cZ) cc RX8 ret rm) {i x : Int32} {K : ST → Option β} (hd : decode cc pc = .ok (.iastore, 1)) (hf : zSet σ 3 3948 i x K = some r) (kk : ∀ σ1, K σ1 = some r → zJ X nL (wdR adr cI cZ) z (pc + 1) L st σ1) : zJ X nL (wdR adr cI cZ) z pc L (.int x :: .int i :: .ref (adr 3) :: st) σ := z_iast B (t0 := 0) (ce := 3) wR_g_kept wR_s_kept rfl hd hf kk
set_option maxRecDepth 20000 in
set_option maxHeartbeats 2000000 in
theorem kw_919 : Cond.fieldLink RX8 21 (TX8 4).1 (TX8 4).2.1 (TX8 4).2.2.1 ∈ zTb := zIn4 144 rfl rfl
theorem fR_g_disk (B : zC X nL (wdR adr cI cZ) cc RX8 ret rm) (hd : decode cc pc = .ok (.getfield 21, 3)) (kk : zJ X nL (wdR adr cI cZ) z (pc + 3) L (.ref (adr 4) :: st) σ) : zJ X nL (wdR adr cI cZ) z pc L (.ref (adr 0) :: st) σ := z_get B (k := 4) iX8 rfl wR_o (Nat.le_of_ble_eq_true rfl) kw_919 rfl hd kk
theorem wR_g_disk : ((wdR adr cI cZ).1 σ)[4]? = some (adr 4, .inl (cI, 10000, .inl (σ 4))) := rfl
theorem wR_s_disk (g : Nat → Int32) : ((wdR adr cI cZ).1 σ).set 4 (adr 4, .inl (cI, 10000, .inl g)) = (wdR adr cI cZ).1 (va_up σ 4 g) := rfl
theorem fR_l_disk (B : zC X nL (wdR adr cI cZ) cc RX8 ret rm) {i : Int32} {K : Int32 → Option β} (hd : decode cc pc = .ok (.iaload, 1)) (hf : zGet (σ 4) 10000 i K = some r) (kk : ∀ v, K v = some r → zJ X nL (wdR adr cI cZ) z (pc + 1) L (.int v :: st) σ) : zJ X nL (wdR adr cI cZ) z pc L (.int i :: .ref (adr 4) :: st) σ := z_iald B (t0 := 0) wR_g_disk rfl hd hf kk
theorem fR_s_disk (B : zC X nL (wdR adr cI cZ) cc RX8 ret rm) {i x : Int32} {K : ST → Option β} (hd : decode cc pc = .ok (.iastore, 1)) (hf : zSet σ 4 10000 i x K = some r) (kk : ∀ σ1, K σ1 = some r → zJ X nL (wdR adr cI cZ) z (pc + 1) L st σ1) : zJ X nL (wdR adr cI cZ) z pc L (.int x :: .int i :: .ref (adr 4) :: st) σ := z_iast B (t0 := 0) (ce := 4) wR_g_disk wR_s_disk rfl hd hf kk
set_option maxRecDepth 20000 in
set_option maxHeartbeats 2000000 in
theorem kw_920 : Cond.fieldLink RX8 24 (TX8 5).1 (TX8 5).2.1 (TX8 5).2.2.1 ∈ zTb := zIn4 145 rfl rfl
theorem fR_g_isBad (B : zC X nL (wdR adr cI cZ) cc RX8 ret rm) (hd : decode cc pc = .ok (.getfield 24, 3)) (kk : zJ X nL (wdR adr cI cZ) z (pc + 3) L (.ref (adr 5) :: st) σ) : zJ X nL (wdR adr cI cZ) z pc L (.ref (adr 0) :: st) σ := z_get B (k := 5) iX8 rfl wR_o (Nat.le_of_ble_eq_true rfl) kw_920 rfl hd kk
theorem wR_g_isBad : ((wdR adr cI cZ).1 σ)[5]? = some (adr 5, .inl (cZ, 10000, .inl (σ 5))) := rfl
theorem wR_s_isBad (g : Nat → Int32) : ((wdR adr cI cZ).1 σ).set 5 (adr 5, .inl (cZ, 10000, .inl g)) = (wdR adr cI cZ).1 (va_up σ 5 g) := rfl
theorem fR_l_isBad (B : zC X nL (wdR adr cI cZ) cc RX8 ret rm) {i : Int32} {K : Int32 → Option β} (hd : decode cc pc = .ok (.baload, 1)) (hf : zGet (σ 5) 10000 i K = some r) (kk : ∀ v, K v = some r → zJ X nL (wdR adr cI cZ) z (pc + 1) L (.int v :: st) σ) : zJ X nL (wdR adr cI cZ) z pc L (.int i :: .ref (adr 5) :: st) σ := z_zald B (t0 := 1) wR_g_isBad rfl hd hf kk
theorem fR_s_isBad (B : zC X nL (wdR adr cI cZ) cc RX8 ret rm) {i x : Int32} {K : ST → Option β} (hd : decode cc pc = .ok (.bastore, 1)) (hf : zSet σ 5 10000 i (vp_nar .boolean x) K = some r) (kk : ∀ σ1, K σ1 = some r → zJ X nL (wdR adr cI cZ) z (pc + 1) L st σ1) : zJ X nL (wdR adr cI cZ) z pc L (.int x :: .int i :: .ref (adr 5) :: st) σ := z_zast B (t0 := 1) (ce := 5) wR_g_isBad wR_s_isBad rfl hd hf kk
set_option maxRecDepth 20000 in
set_option maxHeartbeats 2000000 in
theorem kw_921 : Cond.fieldLink RX8 28 (TX8 6).1 (TX8 6).2.1 (TX8 6).2.2.1 ∈ zTb := zIn4 146 rfl rfl
theorem fR_g_keptDisk (B : zC X nL (wdR adr cI cZ) cc RX8 ret rm) (hd : decode cc pc = .ok (.getfield 28, 3)) (kk : zJ X nL (wdR adr cI cZ) z (pc + 3) L (.ref (adr 6) :: st) σ) : zJ X nL (wdR adr cI cZ) z pc L (.ref (adr 0) :: st) σ := z_get B (k := 6) iX8 rfl wR_o (Nat.le_of_ble_eq_true rfl) kw_921 rfl hd kk
theorem wR_g_keptDisk : ((wdR adr cI cZ).1 σ)[6]? = some (adr 6, .inl (cI, 20000, .inl (σ 6))) := rfl
theorem wR_s_keptDisk (g : Nat → Int32) : ((wdR adr cI cZ).1 σ).set 6 (adr 6, .inl (cI, 20000, .inl g)) = (wdR adr cI cZ).1 (va_up σ 6 g) := rfl
theorem fR_l_keptDisk (B : zC X nL (wdR adr cI cZ) cc RX8 ret rm) {i : Int32} {K : Int32 → Option β} (hd : decode cc pc = .ok (.iaload, 1)) (hf : zGet (σ 6) 20000 i K = some r) (kk : ∀ v, K v = some r → zJ X nL (wdR adr cI cZ) z (pc + 1) L (.int v :: st) σ) : zJ X nL (wdR adr cI cZ) z pc L (.int i :: .ref (adr 6) :: st) σ := z_iald B (t0 := 0) wR_g_keptDisk rfl hd hf kk
theorem fR_s_keptDisk (B : zC X nL (wdR adr cI cZ) cc RX8 ret rm) {i x : Int32} {K : ST → Option β} (hd : decode cc pc = .ok (.iastore, 1)) (hf : zSet σ 6 20000 i x K = some r) (kk : ∀ σ1, K σ1 = some r → zJ X nL (wdR adr cI cZ) z (pc + 1) L st σ1) : zJ X nL (wdR adr cI cZ) z pc L (.int x :: .int i :: .ref (adr 6) :: st) σ := z_iast B (t0 := 0) (ce := 6) wR_g_keptDisk wR_s_keptDisk rfl hd hf kk
set_option maxRecDepth 20000 in
set_option maxHeartbeats 2000000 in
theorem kw_922 : Cond.fieldLink RX8 31 (TX8 7).1 (TX8 7).2.1 (TX8 7).2.2.1 ∈ zTb := zIn4 147 rfl rfl
theorem fR_g_keptBad (B : zC X nL (wdR adr cI cZ) cc RX8 ret rm) (hd : decode cc pc = .ok (.getfield 31, 3)) (kk : zJ X nL (wdR adr cI cZ) z (pc + 3) L (.ref (adr 7) :: st) σ) : zJ X nL (wdR adr cI cZ) z pc L (.ref (adr 0) :: st) σ := z_get B (k := 7) iX8 rfl wR_o (Nat.le_of_ble_eq_true rfl) kw_922 rfl hd kk
theorem wR_g_keptBad : ((wdR adr cI cZ).1 σ)[7]? = some (adr 7, .inl (cZ, 20000, .inl (σ 7))) := rfl
theorem wR_s_keptBad (g : Nat → Int32) : ((wdR adr cI cZ).1 σ).set 7 (adr 7, .inl (cZ, 20000, .inl g)) = (wdR adr cI cZ).1 (va_up σ 7 g) := rfl
theorem fR_l_keptBad (B : zC X nL (wdR adr cI cZ) cc RX8 ret rm) {i : Int32} {K : Int32 → Option β} (hd : decode cc pc = .ok (.baload, 1)) (hf : zGet (σ 7) 20000 i K = some r) (kk : ∀ v, K v = some r → zJ X nL (wdR adr cI cZ) z (pc + 1) L (.int v :: st) σ) : zJ X nL (wdR adr cI cZ) z pc L (.int i :: .ref (adr 7) :: st) σ := z_zald B (t0 := 1) wR_g_keptBad rfl hd hf kk
theorem fR_s_keptBad (B : zC X nL (wdR adr cI cZ) cc RX8 ret rm) {i x : Int32} {K : ST → Option β} (hd : decode cc pc = .ok (.bastore, 1)) (hf : zSet σ 7 20000 i (vp_nar .boolean x) K = some r) (kk : ∀ σ1, K σ1 = some r → zJ X nL (wdR adr cI cZ) z (pc + 1) L st σ1) : zJ X nL (wdR adr cI cZ) z pc L (.int x :: .int i :: .ref (adr 7) :: st) σ := z_zast B (t0 := 1) (ce := 7) wR_g_keptBad wR_s_keptBad rfl hd hf kk
set_option maxRecDepth 20000 in
set_option maxHeartbeats 2000000 in
theorem kw_923 : Cond.fieldLink RX8 34 (TX8 8).1 (TX8 8).2.1 (TX8 8).2.2.1 ∈ zTb := zIn4 148 rfl rfl
theorem fR_g_isKept (B : zC X nL (wdR adr cI cZ) cc RX8 ret rm) (hd : decode cc pc = .ok (.getfield 34, 3)) (kk : zJ X nL (wdR adr cI cZ) z (pc + 3) L (.ref (adr 8) :: st) σ) : zJ X nL (wdR adr cI cZ) z pc L (.ref (adr 0) :: st) σ := z_get B (k := 8) iX8 rfl wR_o (Nat.le_of_ble_eq_true rfl) kw_923 rfl hd kk
theorem wR_g_isKept : ((wdR adr cI cZ).1 σ)[8]? = some (adr 8, .inl (cZ, 2, .inl (σ 8))) := rfl
theorem wR_s_isKept (g : Nat → Int32) : ((wdR adr cI cZ).1 σ).set 8 (adr 8, .inl (cZ, 2, .inl g)) = (wdR adr cI cZ).1 (va_up σ 8 g) := rfl
theorem fR_l_isKept (B : zC X nL (wdR adr cI cZ) cc RX8 ret rm) {i : Int32} {K : Int32 → Option β} (hd : decode cc pc = .ok (.baload, 1)) (hf : zGet (σ 8) 2 i K = some r) (kk : ∀ v, K v = some r → zJ X nL (wdR adr cI cZ) z (pc + 1) L (.int v :: st) σ) : zJ X nL (wdR adr cI cZ) z pc L (.int i :: .ref (adr 8) :: st) σ := z_zald B (t0 := 1) wR_g_isKept rfl hd hf kk
theorem fR_s_isKept (B : zC X nL (wdR adr cI cZ) cc RX8 ret rm) {i x : Int32} {K : ST → Option β} (hd : decode cc pc = .ok (.bastore, 1)) (hf : zSet σ 8 2 i (vp_nar .boolean x) K = some r) (kk : ∀ σ1, K σ1 = some r → zJ X nL (wdR adr cI cZ) z (pc + 1) L st σ1) : zJ X nL (wdR adr cI cZ) z pc L (.int x :: .int i :: .ref (adr 8) :: st) σ := z_zast B (t0 := 1) (ce := 8) wR_g_isKept wR_s_isKept rfl hd hf kk
set_option maxRecDepth 20000 in
set_option maxHeartbeats 2000000 in
theorem kw_924 : Cond.fieldLink RX8 37 (TX8 9).1 (TX8 9).2.1 (TX8 9).2.2.1 ∈ zTb := zIn4 149 rfl rfl
theorem fR_g_leastTerm (B : zC X nL (wdR adr cI cZ) cc RX8 ret rm) (hd : decode cc pc = .ok (.getfield 37, 3)) (kk : zJ X nL (wdR adr cI cZ) z (pc + 3) L (.ref (adr 9) :: st) σ) : zJ X nL (wdR adr cI cZ) z pc L (.ref (adr 0) :: st) σ := z_get B (k := 9) iX8 rfl wR_o (Nat.le_of_ble_eq_true rfl) kw_924 rfl hd kk
theorem wR_g_leastTerm : ((wdR adr cI cZ).1 σ)[9]? = some (adr 9, .inl (cI, 10, .inl (σ 9))) := rfl
theorem wR_s_leastTerm (g : Nat → Int32) : ((wdR adr cI cZ).1 σ).set 9 (adr 9, .inl (cI, 10, .inl g)) = (wdR adr cI cZ).1 (va_up σ 9 g) := rfl
theorem fR_l_leastTerm (B : zC X nL (wdR adr cI cZ) cc RX8 ret rm) {i : Int32} {K : Int32 → Option β} (hd : decode cc pc = .ok (.iaload, 1)) (hf : zGet (σ 9) 10 i K = some r) (kk : ∀ v, K v = some r → zJ X nL (wdR adr cI cZ) z (pc + 1) L (.int v :: st) σ) : zJ X nL (wdR adr cI cZ) z pc L (.int i :: .ref (adr 9) :: st) σ := z_iald B (t0 := 0) wR_g_leastTerm rfl hd hf kk
theorem fR_s_leastTerm (B : zC X nL (wdR adr cI cZ) cc RX8 ret rm) {i x : Int32} {K : ST → Option β} (hd : decode cc pc = .ok (.iastore, 1)) (hf : zSet σ 9 10 i x K = some r) (kk : ∀ σ1, K σ1 = some r → zJ X nL (wdR adr cI cZ) z (pc + 1) L st σ1) : zJ X nL (wdR adr cI cZ) z pc L (.int x :: .int i :: .ref (adr 9) :: st) σ := z_iast B (t0 := 0) (ce := 9) wR_g_leastTerm wR_s_leastTerm rfl hd hf kk
set_option maxRecDepth 20000 in
set_option maxHeartbeats 2000000 in
theorem kw_925 : Cond.fieldLink RX8 40 (TX8 10).1 (TX8 10).2.1 (TX8 10).2.2.1 ∈ zTb := zIn4 150 rfl rfl
theorem fR_g_mostTerm (B : zC X nL (wdR adr cI cZ) cc RX8 ret rm) (hd : decode cc pc = .ok (.getfield 40, 3)) (kk : zJ X nL (wdR adr cI cZ) z (pc + 3) L (.ref (adr 10) :: st) σ) : zJ X nL (wdR adr cI cZ) z pc L (.ref (adr 0) :: st) σ := z_get B (k := 10) iX8 rfl wR_o (Nat.le_of_ble_eq_true rfl) kw_925 rfl hd kk
theorem wR_g_mostTerm : ((wdR adr cI cZ).1 σ)[10]? = some (adr 10, .inl (cI, 10, .inl (σ 10))) := rfl
theorem wR_s_mostTerm (g : Nat → Int32) : ((wdR adr cI cZ).1 σ).set 10 (adr 10, .inl (cI, 10, .inl g)) = (wdR adr cI cZ).1 (va_up σ 10 g) := rfl
theorem fR_l_mostTerm (B : zC X nL (wdR adr cI cZ) cc RX8 ret rm) {i : Int32} {K : Int32 → Option β} (hd : decode cc pc = .ok (.iaload, 1)) (hf : zGet (σ 10) 10 i K = some r) (kk : ∀ v, K v = some r → zJ X nL (wdR adr cI cZ) z (pc + 1) L (.int v :: st) σ) : zJ X nL (wdR adr cI cZ) z pc L (.int i :: .ref (adr 10) :: st) σ := z_iald B (t0 := 0) wR_g_mostTerm rfl hd hf kk
theorem fR_s_mostTerm (B : zC X nL (wdR adr cI cZ) cc RX8 ret rm) {i x : Int32} {K : ST → Option β} (hd : decode cc pc = .ok (.iastore, 1)) (hf : zSet σ 10 10 i x K = some r) (kk : ∀ σ1, K σ1 = some r → zJ X nL (wdR adr cI cZ) z (pc + 1) L st σ1) : zJ X nL (wdR adr cI cZ) z pc L (.int x :: .int i :: .ref (adr 10) :: st) σ := z_iast B (t0 := 0) (ce := 10) wR_g_mostTerm wR_s_mostTerm rfl hd hf kk
set_option maxRecDepth 20000 in
set_option maxHeartbeats 2000000 in
theorem kw_926 : Cond.fieldLink RX8 170 (TX8 11).1 (TX8 11).2.1 (TX8 11).2.2.1 ∈ zTb := zIn4 151 rfl rfl
theorem fR_g_how (B : zC X nL (wdR adr cI cZ) cc RX8 ret rm) {K : Int32 → Option β} (hd : decode cc pc = .ok (.getfield 170, 3)) (hf : zLet (σ 0 11) K = some r) (kk : ∀ v, K v = some r → zJ X nL (wdR adr cI cZ) z (pc + 3) L (.int v :: st) σ) : zJ X nL (wdR adr cI cZ) z pc L (.ref (adr 0) :: st) σ := z_get B (k := 11) iX8 rfl wR_o (Nat.le_of_ble_eq_true rfl) kw_926 rfl hd (kk _ hf)
theorem fR_p_how (B : zC X nL (wdR adr cI cZ) cc RX8 ret rm) {x : Int32} {K : ST → Option β} (hd : decode cc pc = .ok (.putfield 170, 3)) (hf : zLet (zUp σ 0 11 x) K = some r) (kk : ∀ σ1, K σ1 = some r → zJ X nL (wdR adr cI cZ) z (pc + 3) L st σ1) : zJ X nL (wdR adr cI cZ) z pc L (.int x :: .ref (adr 0) :: st) σ := z_put B (k := 11) (ce := 0) (ks := 11) iX8 tyX8 tyX8_ok nmX8 rfl wR_o (Nat.le_of_ble_eq_true rfl) kw_926 rfl rfl (Nat.le_of_ble_eq_true rfl) rfl hd hf kk
set_option maxRecDepth 20000 in
set_option maxHeartbeats 2000000 in
theorem kw_927 : Cond.fieldLink RX8 167 (TX8 12).1 (TX8 12).2.1 (TX8 12).2.2.1 ∈ zTb := zIn4 152 rfl rfl
theorem fR_g_its (B : zC X nL (wdR adr cI cZ) cc RX8 ret rm) {K : Int32 → Option β} (hd : decode cc pc = .ok (.getfield 167, 3)) (hf : zLet (σ 0 12) K = some r) (kk : ∀ v, K v = some r → zJ X nL (wdR adr cI cZ) z (pc + 3) L (.int v :: st) σ) : zJ X nL (wdR adr cI cZ) z pc L (.ref (adr 0) :: st) σ := z_get B (k := 12) iX8 rfl wR_o (Nat.le_of_ble_eq_true rfl) kw_927 rfl hd (kk _ hf)
theorem fR_p_its (B : zC X nL (wdR adr cI cZ) cc RX8 ret rm) {x : Int32} {K : ST → Option β} (hd : decode cc pc = .ok (.putfield 167, 3)) (hf : zLet (zUp σ 0 12 x) K = some r) (kk : ∀ σ1, K σ1 = some r → zJ X nL (wdR adr cI cZ) z (pc + 3) L st σ1) : zJ X nL (wdR adr cI cZ) z pc L (.int x :: .ref (adr 0) :: st) σ := z_put B (k := 12) (ce := 0) (ks := 12) iX8 tyX8 tyX8_ok nmX8 rfl wR_o (Nat.le_of_ble_eq_true rfl) kw_927 rfl rfl (Nat.le_of_ble_eq_true rfl) rfl hd hf kk
set_option maxRecDepth 20000 in
set_option maxHeartbeats 2000000 in
theorem kw_928 : Cond.fieldLink RX8 127 (TX8 13).1 (TX8 13).2.1 (TX8 13).2.2.1 ∈ zTb := zIn4 153 rfl rfl
theorem fR_g_plannedMany (B : zC X nL (wdR adr cI cZ) cc RX8 ret rm) {K : Int32 → Option β} (hd : decode cc pc = .ok (.getfield 127, 3)) (hf : zLet (σ 0 13) K = some r) (kk : ∀ v, K v = some r → zJ X nL (wdR adr cI cZ) z (pc + 3) L (.int v :: st) σ) : zJ X nL (wdR adr cI cZ) z pc L (.ref (adr 0) :: st) σ := z_get B (k := 13) iX8 rfl wR_o (Nat.le_of_ble_eq_true rfl) kw_928 rfl hd (kk _ hf)
theorem fR_p_plannedMany (B : zC X nL (wdR adr cI cZ) cc RX8 ret rm) {x : Int32} {K : ST → Option β} (hd : decode cc pc = .ok (.putfield 127, 3)) (hf : zLet (zUp σ 0 13 x) K = some r) (kk : ∀ σ1, K σ1 = some r → zJ X nL (wdR adr cI cZ) z (pc + 3) L st σ1) : zJ X nL (wdR adr cI cZ) z pc L (.int x :: .ref (adr 0) :: st) σ := z_put B (k := 13) (ce := 0) (ks := 13) iX8 tyX8 tyX8_ok nmX8 rfl wR_o (Nat.le_of_ble_eq_true rfl) kw_928 rfl rfl (Nat.le_of_ble_eq_true rfl) rfl hd hf kk
set_option maxRecDepth 20000 in
set_option maxHeartbeats 2000000 in
theorem kw_929 : Cond.fieldLink RX8 43 (TX8 14).1 (TX8 14).2.1 (TX8 14).2.2.1 ∈ zTb := zIn4 154 rfl rfl
theorem fR_g_planned (B : zC X nL (wdR adr cI cZ) cc RX8 ret rm) (hd : decode cc pc = .ok (.getfield 43, 3)) (kk : zJ X nL (wdR adr cI cZ) z (pc + 3) L (.ref (adr 14) :: st) σ) : zJ X nL (wdR adr cI cZ) z pc L (.ref (adr 0) :: st) σ := z_get B (k := 14) iX8 rfl wR_o (Nat.le_of_ble_eq_true rfl) kw_929 rfl hd kk
theorem wR_g_planned : ((wdR adr cI cZ).1 σ)[11]? = some (adr 14, .inl (cI, 64, .inl (σ 14))) := rfl
theorem wR_s_planned (g : Nat → Int32) : ((wdR adr cI cZ).1 σ).set 11 (adr 14, .inl (cI, 64, .inl g)) = (wdR adr cI cZ).1 (va_up σ 14 g) := rfl
theorem fR_l_planned (B : zC X nL (wdR adr cI cZ) cc RX8 ret rm) {i : Int32} {K : Int32 → Option β} (hd : decode cc pc = .ok (.iaload, 1)) (hf : zGet (σ 14) 64 i K = some r) (kk : ∀ v, K v = some r → zJ X nL (wdR adr cI cZ) z (pc + 1) L (.int v :: st) σ) : zJ X nL (wdR adr cI cZ) z pc L (.int i :: .ref (adr 14) :: st) σ := z_iald B (t0 := 0) wR_g_planned rfl hd hf kk
theorem fR_s_planned (B : zC X nL (wdR adr cI cZ) cc RX8 ret rm) {i x : Int32} {K : ST → Option β} (hd : decode cc pc = .ok (.iastore, 1)) (hf : zSet σ 14 64 i x K = some r) (kk : ∀ σ1, K σ1 = some r → zJ X nL (wdR adr cI cZ) z (pc + 1) L st σ1) : zJ X nL (wdR adr cI cZ) z pc L (.int x :: .int i :: .ref (adr 14) :: st) σ := z_iast B (t0 := 0) (ce := 14) wR_g_planned wR_s_planned rfl hd hf kk
set_option maxRecDepth 20000 in
set_option maxHeartbeats 2000000 in
theorem kw_930 : Cond.fieldLink RX8 139 (TX8 15).1 (TX8 15).2.1 (TX8 15).2.2.1 ∈ zTb := zIn4 155 rfl rfl
theorem fR_g_sharedNow (B : zC X nL (wdR adr cI cZ) cc RX8 ret rm) {K : Int32 → Option β} (hd : decode cc pc = .ok (.getfield 139, 3)) (hf : zLet (σ 0 15) K = some r) (kk : ∀ v, K v = some r → zJ X nL (wdR adr cI cZ) z (pc + 3) L (.int v :: st) σ) : zJ X nL (wdR adr cI cZ) z pc L (.ref (adr 0) :: st) σ := z_get B (k := 15) iX8 rfl wR_o (Nat.le_of_ble_eq_true rfl) kw_930 rfl hd (kk _ hf)
theorem fR_p_sharedNow (B : zC X nL (wdR adr cI cZ) cc RX8 ret rm) {x : Int32} {K : ST → Option β} (hd : decode cc pc = .ok (.putfield 139, 3)) (hf : zLet (zUp σ 0 15 x) K = some r) (kk : ∀ σ1, K σ1 = some r → zJ X nL (wdR adr cI cZ) z (pc + 3) L st σ1) : zJ X nL (wdR adr cI cZ) z pc L (.int x :: .ref (adr 0) :: st) σ := z_put B (k := 15) (ce := 0) (ks := 15) iX8 tyX8 tyX8_ok nmX8 rfl wR_o (Nat.le_of_ble_eq_true rfl) kw_930 rfl rfl (Nat.le_of_ble_eq_true rfl) rfl hd hf kk
set_option maxRecDepth 20000 in
set_option maxHeartbeats 2000000 in
theorem kw_931 : Cond.fieldLink RX8 92 (TX8 16).1 (TX8 16).2.1 (TX8 16).2.2.1 ∈ zTb := zIn4 156 rfl rfl
theorem fR_g_wastedNow (B : zC X nL (wdR adr cI cZ) cc RX8 ret rm) {K : Int32 → Option β} (hd : decode cc pc = .ok (.getfield 92, 3)) (hf : zLet (σ 0 16) K = some r) (kk : ∀ v, K v = some r → zJ X nL (wdR adr cI cZ) z (pc + 3) L (.int v :: st) σ) : zJ X nL (wdR adr cI cZ) z pc L (.ref (adr 0) :: st) σ := z_get B (k := 16) iX8 rfl wR_o (Nat.le_of_ble_eq_true rfl) kw_931 rfl hd (kk _ hf)
theorem fR_p_wastedNow (B : zC X nL (wdR adr cI cZ) cc RX8 ret rm) {x : Int32} {K : ST → Option β} (hd : decode cc pc = .ok (.putfield 92, 3)) (hf : zLet (zUp σ 0 16 x) K = some r) (kk : ∀ σ1, K σ1 = some r → zJ X nL (wdR adr cI cZ) z (pc + 3) L st σ1) : zJ X nL (wdR adr cI cZ) z pc L (.int x :: .ref (adr 0) :: st) σ := z_put B (k := 16) (ce := 0) (ks := 16) iX8 tyX8 tyX8_ok nmX8 rfl wR_o (Nat.le_of_ble_eq_true rfl) kw_931 rfl rfl (Nat.le_of_ble_eq_true rfl) rfl hd hf kk
set_option maxRecDepth 20000 in
set_option maxHeartbeats 2000000 in
theorem kw_932 : Cond.fieldLink RX8 46 (TX8 17).1 (TX8 17).2.1 (TX8 17).2.2.1 ∈ zTb := zIn4 157 rfl rfl
theorem fR_g_anew (B : zC X nL (wdR adr cI cZ) cc RX8 ret rm) (hd : decode cc pc = .ok (.getfield 46, 3)) (kk : zJ X nL (wdR adr cI cZ) z (pc + 3) L (.ref (adr 17) :: st) σ) : zJ X nL (wdR adr cI cZ) z pc L (.ref (adr 0) :: st) σ := z_get B (k := 17) iX8 rfl wR_o (Nat.le_of_ble_eq_true rfl) kw_932 rfl hd kk
theorem wR_g_anew : ((wdR adr cI cZ).1 σ)[12]? = some (adr 17, .inl (cI, 400, .inl (σ 17))) := rfl
theorem wR_s_anew (g : Nat → Int32) : ((wdR adr cI cZ).1 σ).set 12 (adr 17, .inl (cI, 400, .inl g)) = (wdR adr cI cZ).1 (va_up σ 17 g) := rfl
theorem fR_l_anew (B : zC X nL (wdR adr cI cZ) cc RX8 ret rm) {i : Int32} {K : Int32 → Option β} (hd : decode cc pc = .ok (.iaload, 1)) (hf : zGet (σ 17) 400 i K = some r) (kk : ∀ v, K v = some r → zJ X nL (wdR adr cI cZ) z (pc + 1) L (.int v :: st) σ) : zJ X nL (wdR adr cI cZ) z pc L (.int i :: .ref (adr 17) :: st) σ := z_iald B (t0 := 0) wR_g_anew rfl hd hf kk
theorem fR_s_anew (B : zC X nL (wdR adr cI cZ) cc RX8 ret rm) {i x : Int32} {K : ST → Option β} (hd : decode cc pc = .ok (.iastore, 1)) (hf : zSet σ 17 400 i x K = some r) (kk : ∀ σ1, K σ1 = some r → zJ X nL (wdR adr cI cZ) z (pc + 1) L st σ1) : zJ X nL (wdR adr cI cZ) z pc L (.int x :: .int i :: .ref (adr 17) :: st) σ := z_iast B (t0 := 0) (ce := 17) wR_g_anew wR_s_anew rfl hd hf kk
set_option maxRecDepth 20000 in
set_option maxHeartbeats 2000000 in
theorem kw_933 : Cond.fieldLink RX8 267 (TX8 18).1 (TX8 18).2.1 (TX8 18).2.2.1 ∈ zTb := zIn4 158 rfl rfl
theorem fR_g_anewMany (B : zC X nL (wdR adr cI cZ) cc RX8 ret rm) {K : Int32 → Option β} (hd : decode cc pc = .ok (.getfield 267, 3)) (hf : zLet (σ 0 18) K = some r) (kk : ∀ v, K v = some r → zJ X nL (wdR adr cI cZ) z (pc + 3) L (.int v :: st) σ) : zJ X nL (wdR adr cI cZ) z pc L (.ref (adr 0) :: st) σ := z_get B (k := 18) iX8 rfl wR_o (Nat.le_of_ble_eq_true rfl) kw_933 rfl hd (kk _ hf)
theorem fR_p_anewMany (B : zC X nL (wdR adr cI cZ) cc RX8 ret rm) {x : Int32} {K : ST → Option β} (hd : decode cc pc = .ok (.putfield 267, 3)) (hf : zLet (zUp σ 0 18 x) K = some r) (kk : ∀ σ1, K σ1 = some r → zJ X nL (wdR adr cI cZ) z (pc + 3) L st σ1) : zJ X nL (wdR adr cI cZ) z pc L (.int x :: .ref (adr 0) :: st) σ := z_put B (k := 18) (ce := 0) (ks := 18) iX8 tyX8 tyX8_ok nmX8 rfl wR_o (Nat.le_of_ble_eq_true rfl) kw_933 rfl rfl (Nat.le_of_ble_eq_true rfl) rfl hd hf kk
set_option maxRecDepth 20000 in
set_option maxHeartbeats 2000000 in
theorem kw_934 : Cond.fieldLink RX8 49 (TX8 19).1 (TX8 19).2.1 (TX8 19).2.2.1 ∈ zTb := zIn4 159 rfl rfl
theorem fR_g_lies (B : zC X nL (wdR adr cI cZ) cc RX8 ret rm) (hd : decode cc pc = .ok (.getfield 49, 3)) (kk : zJ X nL (wdR adr cI cZ) z (pc + 3) L (.ref (adr 19) :: st) σ) : zJ X nL (wdR adr cI cZ) z pc L (.ref (adr 0) :: st) σ := z_get B (k := 19) iX8 rfl wR_o (Nat.le_of_ble_eq_true rfl) kw_934 rfl hd kk
theorem wR_g_lies : ((wdR adr cI cZ).1 σ)[13]? = some (adr 19, .inl (cI, 64, .inl (σ 19))) := rfl
theorem wR_s_lies (g : Nat → Int32) : ((wdR adr cI cZ).1 σ).set 13 (adr 19, .inl (cI, 64, .inl g)) = (wdR adr cI cZ).1 (va_up σ 19 g) := rfl
theorem fR_l_lies (B : zC X nL (wdR adr cI cZ) cc RX8 ret rm) {i : Int32} {K : Int32 → Option β} (hd : decode cc pc = .ok (.iaload, 1)) (hf : zGet (σ 19) 64 i K = some r) (kk : ∀ v, K v = some r → zJ X nL (wdR adr cI cZ) z (pc + 1) L (.int v :: st) σ) : zJ X nL (wdR adr cI cZ) z pc L (.int i :: .ref (adr 19) :: st) σ := z_iald B (t0 := 0) wR_g_lies rfl hd hf kk
theorem fR_s_lies (B : zC X nL (wdR adr cI cZ) cc RX8 ret rm) {i x : Int32} {K : ST → Option β} (hd : decode cc pc = .ok (.iastore, 1)) (hf : zSet σ 19 64 i x K = some r) (kk : ∀ σ1, K σ1 = some r → zJ X nL (wdR adr cI cZ) z (pc + 1) L st σ1) : zJ X nL (wdR adr cI cZ) z pc L (.int x :: .int i :: .ref (adr 19) :: st) σ := z_iast B (t0 := 0) (ce := 19) wR_g_lies wR_s_lies rfl hd hf kk
set_option maxRecDepth 20000 in
set_option maxHeartbeats 2000000 in
theorem kw_935 : Cond.fieldLink RX8 52 (TX8 20).1 (TX8 20).2.1 (TX8 20).2.2.1 ∈ zTb := zIn4 160 rfl rfl
theorem fR_g_when (B : zC X nL (wdR adr cI cZ) cc RX8 ret rm) (hd : decode cc pc = .ok (.getfield 52, 3)) (kk : zJ X nL (wdR adr cI cZ) z (pc + 3) L (.ref (adr 20) :: st) σ) : zJ X nL (wdR adr cI cZ) z pc L (.ref (adr 0) :: st) σ := z_get B (k := 20) iX8 rfl wR_o (Nat.le_of_ble_eq_true rfl) kw_935 rfl hd kk
theorem wR_g_when : ((wdR adr cI cZ).1 σ)[14]? = some (adr 20, .inl (cI, 64, .inl (σ 20))) := rfl
theorem wR_s_when (g : Nat → Int32) : ((wdR adr cI cZ).1 σ).set 14 (adr 20, .inl (cI, 64, .inl g)) = (wdR adr cI cZ).1 (va_up σ 20 g) := rfl
theorem fR_l_when (B : zC X nL (wdR adr cI cZ) cc RX8 ret rm) {i : Int32} {K : Int32 → Option β} (hd : decode cc pc = .ok (.iaload, 1)) (hf : zGet (σ 20) 64 i K = some r) (kk : ∀ v, K v = some r → zJ X nL (wdR adr cI cZ) z (pc + 1) L (.int v :: st) σ) : zJ X nL (wdR adr cI cZ) z pc L (.int i :: .ref (adr 20) :: st) σ := z_iald B (t0 := 0) wR_g_when rfl hd hf kk
theorem fR_s_when (B : zC X nL (wdR adr cI cZ) cc RX8 ret rm) {i x : Int32} {K : ST → Option β} (hd : decode cc pc = .ok (.iastore, 1)) (hf : zSet σ 20 64 i x K = some r) (kk : ∀ σ1, K σ1 = some r → zJ X nL (wdR adr cI cZ) z (pc + 1) L st σ1) : zJ X nL (wdR adr cI cZ) z pc L (.int x :: .int i :: .ref (adr 20) :: st) σ := z_iast B (t0 := 0) (ce := 20) wR_g_when wR_s_when rfl hd hf kk
set_option maxRecDepth 20000 in
set_option maxHeartbeats 2000000 in
theorem kw_936 : Cond.fieldLink RX8 55 (TX8 21).1 (TX8 21).2.1 (TX8 21).2.2.1 ∈ zTb := zIn4 161 rfl rfl
theorem fR_g_endsBy (B : zC X nL (wdR adr cI cZ) cc RX8 ret rm) (hd : decode cc pc = .ok (.getfield 55, 3)) (kk : zJ X nL (wdR adr cI cZ) z (pc + 3) L (.ref (adr 21) :: st) σ) : zJ X nL (wdR adr cI cZ) z pc L (.ref (adr 0) :: st) σ := z_get B (k := 21) iX8 rfl wR_o (Nat.le_of_ble_eq_true rfl) kw_936 rfl hd kk
theorem wR_g_endsBy : ((wdR adr cI cZ).1 σ)[15]? = some (adr 21, .inl (cI, 10000, .inl (σ 21))) := rfl
theorem wR_s_endsBy (g : Nat → Int32) : ((wdR adr cI cZ).1 σ).set 15 (adr 21, .inl (cI, 10000, .inl g)) = (wdR adr cI cZ).1 (va_up σ 21 g) := rfl
theorem fR_l_endsBy (B : zC X nL (wdR adr cI cZ) cc RX8 ret rm) {i : Int32} {K : Int32 → Option β} (hd : decode cc pc = .ok (.iaload, 1)) (hf : zGet (σ 21) 10000 i K = some r) (kk : ∀ v, K v = some r → zJ X nL (wdR adr cI cZ) z (pc + 1) L (.int v :: st) σ) : zJ X nL (wdR adr cI cZ) z pc L (.int i :: .ref (adr 21) :: st) σ := z_iald B (t0 := 0) wR_g_endsBy rfl hd hf kk
theorem fR_s_endsBy (B : zC X nL (wdR adr cI cZ) cc RX8 ret rm) {i x : Int32} {K : ST → Option β} (hd : decode cc pc = .ok (.iastore, 1)) (hf : zSet σ 21 10000 i x K = some r) (kk : ∀ σ1, K σ1 = some r → zJ X nL (wdR adr cI cZ) z (pc + 1) L st σ1) : zJ X nL (wdR adr cI cZ) z pc L (.int x :: .int i :: .ref (adr 21) :: st) σ := z_iast B (t0 := 0) (ce := 21) wR_g_endsBy wR_s_endsBy rfl hd hf kk
set_option maxRecDepth 20000 in
set_option maxHeartbeats 2000000 in
theorem kw_937 : Cond.fieldLink RX8 291 (TX8 22).1 (TX8 22).2.1 (TX8 22).2.2.1 ∈ zTb := zIn4 162 rfl rfl
theorem fR_g_rowMany (B : zC X nL (wdR adr cI cZ) cc RX8 ret rm) {K : Int32 → Option β} (hd : decode cc pc = .ok (.getfield 291, 3)) (hf : zLet (σ 0 22) K = some r) (kk : ∀ v, K v = some r → zJ X nL (wdR adr cI cZ) z (pc + 3) L (.int v :: st) σ) : zJ X nL (wdR adr cI cZ) z pc L (.ref (adr 0) :: st) σ := z_get B (k := 22) iX8 rfl wR_o (Nat.le_of_ble_eq_true rfl) kw_937 rfl hd (kk _ hf)
theorem fR_p_rowMany (B : zC X nL (wdR adr cI cZ) cc RX8 ret rm) {x : Int32} {K : ST → Option β} (hd : decode cc pc = .ok (.putfield 291, 3)) (hf : zLet (zUp σ 0 22 x) K = some r) (kk : ∀ σ1, K σ1 = some r → zJ X nL (wdR adr cI cZ) z (pc + 3) L st σ1) : zJ X nL (wdR adr cI cZ) z pc L (.int x :: .ref (adr 0) :: st) σ := z_put B (k := 22) (ce := 0) (ks := 22) iX8 tyX8 tyX8_ok nmX8 rfl wR_o (Nat.le_of_ble_eq_true rfl) kw_937 rfl rfl (Nat.le_of_ble_eq_true rfl) rfl hd hf kk
set_option maxRecDepth 20000 in
set_option maxHeartbeats 2000000 in
theorem kw_938 : Cond.fieldLink RX8 297 (TX8 23).1 (TX8 23).2.1 (TX8 23).2.2.1 ∈ zTb := zIn4 163 rfl rfl
theorem fR_g_rowFirst (B : zC X nL (wdR adr cI cZ) cc RX8 ret rm) {K : Int32 → Option β} (hd : decode cc pc = .ok (.getfield 297, 3)) (hf : zLet (σ 0 23) K = some r) (kk : ∀ v, K v = some r → zJ X nL (wdR adr cI cZ) z (pc + 3) L (.int v :: st) σ) : zJ X nL (wdR adr cI cZ) z pc L (.ref (adr 0) :: st) σ := z_get B (k := 23) iX8 rfl wR_o (Nat.le_of_ble_eq_true rfl) kw_938 rfl hd (kk _ hf)
theorem fR_p_rowFirst (B : zC X nL (wdR adr cI cZ) cc RX8 ret rm) {x : Int32} {K : ST → Option β} (hd : decode cc pc = .ok (.putfield 297, 3)) (hf : zLet (zUp σ 0 23 x) K = some r) (kk : ∀ σ1, K σ1 = some r → zJ X nL (wdR adr cI cZ) z (pc + 3) L st σ1) : zJ X nL (wdR adr cI cZ) z pc L (.int x :: .ref (adr 0) :: st) σ := z_put B (k := 23) (ce := 0) (ks := 23) iX8 tyX8 tyX8_ok nmX8 rfl wR_o (Nat.le_of_ble_eq_true rfl) kw_938 rfl rfl (Nat.le_of_ble_eq_true rfl) rfl hd hf kk
end FR
set_option maxRecDepth 20000 in
set_option maxHeartbeats 2000000 in
theorem kw_1010 : Cond.constantLong RX8 79 (9) ∈ zTb := zIn4 235 rfl rfl
set_option maxRecDepth 20000 in
set_option maxHeartbeats 2000000 in
theorem kw_1115 : Cond.constantLong RX8 130 (100) ∈ zTb := zIn5 100 rfl rfl
set_option maxRecDepth 20000 in
set_option maxHeartbeats 2000000 in
theorem kw_1136 : Cond.constantLong RX8 200 (40) ∈ zTb := zIn5 121 rfl rfl
set_option maxRecDepth 20000 in
set_option maxHeartbeats 2000000 in
theorem kw_1141 : Cond.constantLong RX8 208 (20) ∈ zTb := zIn5 126 rfl rfl
set_option maxRecDepth 20000 in
set_option maxHeartbeats 2000000 in
theorem kw_1158 : Cond.constantLong RX8 214 (-64) ∈ zTb := zIn5 143 rfl rfl
set_option maxRecDepth 20000 in
set_option maxHeartbeats 2000000 in
theorem kw_1159 : Cond.constantLong RX8 216 (64) ∈ zTb := zIn5 144 rfl rfl
set_option maxRecDepth 20000 in
set_option maxHeartbeats 2000000 in
theorem kw_1164 : Cond.constantLong RX8 218 (1000002) ∈ zTb := zIn5 149 rfl rfl
set_option maxRecDepth 20000 in
set_option maxHeartbeats 2000000 in
theorem kw_1181 : Cond.constantLong RX8 220 (5) ∈ zTb := zIn5 166 rfl rfl
set_option maxRecDepth 20000 in
set_option maxHeartbeats 2000000 in
theorem kw_1186 : Cond.constantLong RX8 225 (7) ∈ zTb := zIn5 171 rfl rfl
set_option maxRecDepth 20000 in
set_option maxHeartbeats 2000000 in
theorem kw_1208 : Cond.constant RX8 235 (-2147483648) ∈ zTb := zIn5 193 rfl rfl
set_option maxRecDepth 20000 in
set_option maxHeartbeats 2000000 in
theorem kw_1207 : Cond.constantLong RX8 233 (11) ∈ zTb := zIn5 192 rfl rfl
set_option maxRecDepth 20000 in
set_option maxHeartbeats 2000000 in
theorem kw_1217 : Cond.constantLong RX8 236 (3) ∈ zTb := zIn5 202 rfl rfl
set_option maxRecDepth 20000 in
set_option maxHeartbeats 2000000 in
theorem kw_1238 : Cond.constantLong RX8 244 (2) ∈ zTb := zIn5 223 rfl rfl
set_option maxRecDepth 20000 in
set_option maxHeartbeats 2000000 in
theorem kw_1303 : Cond.constantLong RX8 314 (29) ∈ zTb := zIn6 48 rfl rfl
set_option maxRecDepth 20000 in
set_option maxHeartbeats 2000000 in
theorem kw_1348 : Cond.constantLong RX8 300 (-10000) ∈ zTb := zIn6 93 rfl rfl
set_option maxRecDepth 20000 in
set_option maxHeartbeats 2000000 in
theorem kw_1349 : Cond.constantLong RX8 302 (10000) ∈ zTb := zIn6 94 rfl rfl
set_option maxRecDepth 20000 in
set_option maxHeartbeats 2000000 in
theorem kcS_X8_71 : zKS RX8 71 yX8_in cX8_in 6 (some .boolean) 3 := ⟨zIn4 217 rfl rfl, zIn4 218 rfl rfl, zIn1 10 rfl rfl, zIn4 219 rfl rfl, by decide, by decide, by decide⟩
set_option maxRecDepth 20000 in
set_option maxHeartbeats 2000000 in
theorem kcV_X8_81 : zKV RX8 81 yX8_isTerm cX8_isTerm 3 (some .boolean) 2 := ⟨zIn4 231 rfl rfl, zIn4 233 rfl rfl, zIn0 2 rfl rfl, zIn1 10 rfl rfl, zIn4 234 rfl rfl, by decide, by decide, by decide⟩
set_option maxRecDepth 20000 in
set_option maxHeartbeats 2000000 in
theorem kcV_X8_64 : zKV RX8 64 yX8_begin cX8_begin 2 none 0 := ⟨zIn4 136 rfl rfl, zIn4 138 rfl rfl, zIn0 1 rfl rfl, zIn1 10 rfl rfl, zIn4 139 rfl rfl, by decide, by decide, by decide⟩
set_option maxRecDepth 20000 in
set_option maxHeartbeats 2000000 in
theorem kcV_X8_132 : zKV RX8 132 yX8_isBlock cX8_isBlock 2 (some .boolean) 1 := ⟨zIn5 0 rfl rfl, zIn5 2 rfl rfl, zIn0 3 rfl rfl, zIn1 10 rfl rfl, zIn5 3 rfl rfl, by decide, by decide, by decide⟩
set_option maxRecDepth 20000 in
set_option maxHeartbeats 2000000 in
theorem kcV_X8_161 : zKV RX8 161 yX8_isAheadOf cX8_isAheadOf 4 (some .boolean) 2 := ⟨zIn5 105 rfl rfl, zIn5 107 rfl rfl, zIn0 26 rfl rfl, zIn1 10 rfl rfl, zIn5 108 rfl rfl, by decide, by decide, by decide⟩
set_option maxRecDepth 20000 in
set_option maxHeartbeats 2000000 in
theorem kcS_X8_85 : zKS RX8 85 yX8_cacheAt cX8_cacheAt 1 (some .int) 1 := ⟨zIn5 12 rfl rfl, zIn5 13 rfl rfl, zIn1 10 rfl rfl, zIn5 14 rfl rfl, by decide, by decide, by decide⟩
set_option maxRecDepth 20000 in
set_option maxHeartbeats 2000000 in
theorem kcV_X8_136 : zKV RX8 136 yX8_place cX8_place 3 (some .int) 1 := ⟨zIn5 8 rfl rfl, zIn5 10 rfl rfl, zIn0 5 rfl rfl, zIn1 10 rfl rfl, zIn5 11 rfl rfl, by decide, by decide, by decide⟩
set_option maxRecDepth 20000 in
set_option maxHeartbeats 2000000 in
theorem kcV_X8_120 : zKV RX8 120 yX8_stamp cX8_stamp 1 (some .int) 0 := ⟨zIn5 33 rfl rfl, zIn5 35 rfl rfl, zIn0 9 rfl rfl, zIn1 10 rfl rfl, zIn5 36 rfl rfl, by decide, by decide, by decide⟩
set_option maxRecDepth 20000 in
set_option maxHeartbeats 2000000 in
theorem kcV_X8_110 : zKV RX8 110 yX8_many cX8_many 3 (some .int) 0 := ⟨zIn5 41 rfl rfl, zIn5 43 rfl rfl, zIn0 11 rfl rfl, zIn1 10 rfl rfl, zIn5 44 rfl rfl, by decide, by decide, by decide⟩
set_option maxRecDepth 20000 in
set_option maxHeartbeats 2000000 in
theorem kcV_X8_106 : zKV RX8 106 yX8_mayGo cX8_mayGo 4 (some .boolean) 3 := ⟨zIn5 53 rfl rfl, zIn5 55 rfl rfl, zIn0 14 rfl rfl, zIn1 10 rfl rfl, zIn5 56 rfl rfl, by decide, by decide, by decide⟩
set_option maxRecDepth 20000 in
set_option maxHeartbeats 2000000 in
theorem kcV_X8_102 : zKV RX8 102 yX8_manyAhead cX8_manyAhead 3 (some .int) 0 := ⟨zIn5 49 rfl rfl, zIn5 51 rfl rfl, zIn0 13 rfl rfl, zIn1 10 rfl rfl, zIn5 52 rfl rfl, by decide, by decide, by decide⟩
set_option maxRecDepth 20000 in
set_option maxHeartbeats 2000000 in
theorem kcV_X8_113 : zKV RX8 113 yX8_whoGoes cX8_whoGoes 7 (some .int) 1 := ⟨zIn5 45 rfl rfl, zIn5 47 rfl rfl, zIn0 12 rfl rfl, zIn1 10 rfl rfl, zIn5 48 rfl rfl, by decide, by decide, by decide⟩
set_option maxRecDepth 20000 in
set_option maxHeartbeats 2000000 in
theorem kcV_X8_98 : zKV RX8 98 yX8_widens cX8_widens 5 none 2 := ⟨zIn5 29 rfl rfl, zIn5 31 rfl rfl, zIn0 8 rfl rfl, zIn1 10 rfl rfl, zIn5 32 rfl rfl, by decide, by decide, by decide⟩
set_option maxRecDepth 20000 in
set_option maxHeartbeats 2000000 in
theorem kcS_X8_89 : zKS RX8 89 yX8_streamAt cX8_streamAt 1 (some .int) 1 := ⟨zIn5 23 rfl rfl, zIn5 24 rfl rfl, zIn1 10 rfl rfl, zIn5 25 rfl rfl, by decide, by decide, by decide⟩
set_option maxRecDepth 20000 in
set_option maxHeartbeats 2000000 in
theorem kcV_X8_95 : zKV RX8 95 yX8_streamOf cX8_streamOf 3 (some .int) 1 := ⟨zIn5 19 rfl rfl, zIn5 21 rfl rfl, zIn0 7 rfl rfl, zIn1 10 rfl rfl, zIn5 22 rfl rfl, by decide, by decide, by decide⟩
set_option maxRecDepth 20000 in
set_option maxHeartbeats 2000000 in
theorem kcV_X8_116 : zKV RX8 116 yX8_goes cX8_goes 3 none 1 := ⟨zIn5 57 rfl rfl, zIn5 59 rfl rfl, zIn0 15 rfl rfl, zIn1 10 rfl rfl, zIn5 60 rfl rfl, by decide, by decide, by decide⟩
set_option maxRecDepth 20000 in
set_option maxHeartbeats 2000000 in
theorem kcV_X8_123 : zKV RX8 123 yX8_put cX8_put 5 none 3 := ⟨zIn5 37 rfl rfl, zIn5 39 rfl rfl, zIn0 10 rfl rfl, zIn1 10 rfl rfl, zIn5 40 rfl rfl, by decide, by decide, by decide⟩
set_option maxRecDepth 20000 in
set_option maxHeartbeats 2000000 in
theorem kcV_X8_142 : zKV RX8 142 yX8_fetchAhead cX8_fetchAhead 4 none 3 := ⟨zIn5 101 rfl rfl, zIn5 103 rfl rfl, zIn0 25 rfl rfl, zIn1 10 rfl rfl, zIn5 104 rfl rfl, by decide, by decide, by decide⟩
set_option maxRecDepth 20000 in
set_option maxHeartbeats 2000000 in
theorem kcV_X8_158 : zKV RX8 158 yX8_batch cX8_batch 6 none 2 := ⟨zIn5 96 rfl rfl, zIn5 98 rfl rfl, zIn0 24 rfl rfl, zIn1 10 rfl rfl, zIn5 99 rfl rfl, by decide, by decide, by decide⟩
set_option maxRecDepth 20000 in
set_option maxHeartbeats 2000000 in
theorem kcS_X8_151 : zKS RX8 151 yX8_lesser cX8_lesser 2 (some .int) 2 := ⟨zIn5 26 rfl rfl, zIn5 27 rfl rfl, zIn1 10 rfl rfl, zIn5 28 rfl rfl, by decide, by decide, by decide⟩
set_option maxRecDepth 20000 in
set_option maxHeartbeats 2000000 in
theorem kcV_X8_155 : zKV RX8 155 yX8_proves cX8_proves 2 none 1 := ⟨zIn5 92 rfl rfl, zIn5 94 rfl rfl, zIn0 23 rfl rfl, zIn1 10 rfl rfl, zIn5 95 rfl rfl, by decide, by decide, by decide⟩
set_option maxRecDepth 20000 in
set_option maxHeartbeats 2000000 in
theorem kcV_X8_182 : zKV RX8 182 yX8_goesOn cX8_goesOn 3 none 2 := ⟨zIn5 88 rfl rfl, zIn5 90 rfl rfl, zIn0 22 rfl rfl, zIn1 10 rfl rfl, zIn5 91 rfl rfl, by decide, by decide, by decide⟩
set_option maxRecDepth 20000 in
set_option maxHeartbeats 2000000 in
theorem kcV_X8_148 : zKV RX8 148 yX8_newPlace cX8_newPlace 6 (some .int) 0 := ⟨zIn5 84 rfl rfl, zIn5 86 rfl rfl, zIn0 21 rfl rfl, zIn1 10 rfl rfl, zIn5 87 rfl rfl, by decide, by decide, by decide⟩
set_option maxRecDepth 20000 in
set_option maxHeartbeats 2000000 in
theorem kcV_X8_179 : zKV RX8 179 yX8_comes cX8_comes 4 (some .int) 1 := ⟨zIn5 80 rfl rfl, zIn5 82 rfl rfl, zIn0 20 rfl rfl, zIn1 10 rfl rfl, zIn5 83 rfl rfl, by decide, by decide, by decide⟩
set_option maxRecDepth 20000 in
set_option maxHeartbeats 2000000 in
theorem kcS_X8_145 : zKS RX8 145 yX8_size cX8_size 1 (some .int) 1 := ⟨zIn5 77 rfl rfl, zIn5 78 rfl rfl, zIn1 10 rfl rfl, zIn5 79 rfl rfl, by decide, by decide, by decide⟩
set_option maxRecDepth 20000 in
set_option maxHeartbeats 2000000 in
theorem kcV_X8_176 : zKV RX8 176 yX8_pairedBy cX8_pairedBy 6 (some .int) 1 := ⟨zIn5 73 rfl rfl, zIn5 75 rfl rfl, zIn0 19 rfl rfl, zIn1 10 rfl rfl, zIn5 76 rfl rfl, by decide, by decide, by decide⟩
set_option maxRecDepth 20000 in
set_option maxHeartbeats 2000000 in
theorem kcV_X8_164 : zKV RX8 164 yX8_steppedBy cX8_steppedBy 5 (some .int) 1 := ⟨zIn5 65 rfl rfl, zIn5 67 rfl rfl, zIn0 17 rfl rfl, zIn1 10 rfl rfl, zIn5 68 rfl rfl, by decide, by decide, by decide⟩
set_option maxRecDepth 20000 in
set_option maxHeartbeats 2000000 in
theorem kcV_X8_173 : zKV RX8 173 yX8_lastAt cX8_lastAt 3 (some .int) 1 := ⟨zIn5 69 rfl rfl, zIn5 71 rfl rfl, zIn0 18 rfl rfl, zIn1 10 rfl rfl, zIn5 72 rfl rfl, by decide, by decide, by decide⟩
set_option maxRecDepth 20000 in
set_option maxHeartbeats 2000000 in
theorem kcV_X8_188 : zKV RX8 188 yX8_finds cX8_finds 2 none 1 := ⟨zIn5 61 rfl rfl, zIn5 63 rfl rfl, zIn0 16 rfl rfl, zIn1 10 rfl rfl, zIn5 64 rfl rfl, by decide, by decide, by decide⟩
set_option maxRecDepth 20000 in
set_option maxHeartbeats 2000000 in
theorem kcV_X8_191 : zKV RX8 191 yX8_joins cX8_joins 4 none 0 := ⟨zIn5 109 rfl rfl, zIn5 111 rfl rfl, zIn0 27 rfl rfl, zIn1 10 rfl rfl, zIn5 112 rfl rfl, by decide, by decide, by decide⟩
set_option maxRecDepth 20000 in
set_option maxHeartbeats 2000000 in
theorem kcV_X8_194 : zKV RX8 194 yX8_traces cX8_traces 4 none 2 := ⟨zIn5 113 rfl rfl, zIn5 115 rfl rfl, zIn0 28 rfl rfl, zIn1 10 rfl rfl, zIn5 116 rfl rfl, by decide, by decide, by decide⟩
set_option maxRecDepth 20000 in
set_option maxHeartbeats 2000000 in
theorem kcV_X8_185 : zKV RX8 185 yX8_hits cX8_hits 4 none 1 := ⟨zIn5 15 rfl rfl, zIn5 17 rfl rfl, zIn0 6 rfl rfl, zIn1 10 rfl rfl, zIn5 18 rfl rfl, by decide, by decide, by decide⟩
set_option maxRecDepth 20000 in
set_option maxHeartbeats 2000000 in
theorem kcV_X8_197 : zKV RX8 197 yX8_readOne cX8_readOne 5 (some .int) 1 := ⟨zIn5 4 rfl rfl, zIn5 6 rfl rfl, zIn0 4 rfl rfl, zIn1 10 rfl rfl, zIn5 7 rfl rfl, by decide, by decide, by decide⟩
set_option maxRecDepth 20000 in
set_option maxHeartbeats 2000000 in
theorem kcV_X8_205 : zKV RX8 205 yX8_nextOf cX8_nextOf 2 (some .int) 1 := ⟨zIn5 135 rfl rfl, zIn5 137 rfl rfl, zIn0 31 rfl rfl, zIn1 10 rfl rfl, zIn5 138 rfl rfl, by decide, by decide, by decide⟩
set_option maxRecDepth 20000 in
set_option maxHeartbeats 2000000 in
theorem kcV_X8_202 : zKV RX8 202 yX8_aheadFor cX8_aheadFor 5 (some .int) 1 := ⟨zIn5 131 rfl rfl, zIn5 133 rfl rfl, zIn0 30 rfl rfl, zIn1 10 rfl rfl, zIn5 134 rfl rfl, by decide, by decide, by decide⟩
set_option maxRecDepth 20000 in
set_option maxHeartbeats 2000000 in
theorem kcV_X8_210 : zKV RX8 210 yX8_idles cX8_idles 6 (some .boolean) 0 := ⟨zIn5 127 rfl rfl, zIn5 129 rfl rfl, zIn0 29 rfl rfl, zIn1 10 rfl rfl, zIn5 130 rfl rfl, by decide, by decide, by decide⟩
set_option maxRecDepth 20000 in
set_option maxHeartbeats 2000000 in
theorem kcV_X8_222 : zKV RX8 222 yX8_isStream cX8_isStream 2 (some .boolean) 1 := ⟨zIn5 162 rfl rfl, zIn5 164 rfl rfl, zIn0 32 rfl rfl, zIn1 10 rfl rfl, zIn5 165 rfl rfl, by decide, by decide, by decide⟩
set_option maxRecDepth 20000 in
set_option maxHeartbeats 2000000 in
theorem kcS_X8_75 : zKS RX8 75 yX8_copy cX8_copy 5 none 4 := ⟨zIn4 220 rfl rfl, zIn4 221 rfl rfl, zIn1 10 rfl rfl, zIn4 222 rfl rfl, by decide, by decide, by decide⟩
set_option maxRecDepth 20000 in
set_option maxHeartbeats 2000000 in
theorem kcV_X8_227 : zKV RX8 227 yX8_toCome cX8_toCome 3 (some .int) 1 := ⟨zIn5 172 rfl rfl, zIn5 174 rfl rfl, zIn0 33 rfl rfl, zIn1 10 rfl rfl, zIn5 175 rfl rfl, by decide, by decide, by decide⟩
set_option maxRecDepth 20000 in
set_option maxHeartbeats 2000000 in
theorem kcV_X8_230 : zKV RX8 230 yX8_lessThan cX8_lessThan 4 (some .int) 1 := ⟨zIn5 180 rfl rfl, zIn5 182 rfl rfl, zIn0 34 rfl rfl, zIn1 10 rfl rfl, zIn5 183 rfl rfl, by decide, by decide, by decide⟩
set_option maxRecDepth 20000 in
set_option maxHeartbeats 2000000 in
theorem kcV_X8_238 : zKV RX8 238 yX8_traced cX8_traced 2 (some .int) 1 := ⟨zIn5 211 rfl rfl, zIn5 213 rfl rfl, zIn0 36 rfl rfl, zIn1 10 rfl rfl, zIn5 214 rfl rfl, by decide, by decide, by decide⟩
set_option maxRecDepth 20000 in
set_option maxHeartbeats 2000000 in
theorem kcV_X8_241 : zKV RX8 241 yX8_isNext cX8_isNext 2 (some .boolean) 1 := ⟨zIn5 207 rfl rfl, zIn5 209 rfl rfl, zIn0 35 rfl rfl, zIn1 10 rfl rfl, zIn5 210 rfl rfl, by decide, by decide, by decide⟩
set_option maxRecDepth 20000 in
set_option maxHeartbeats 2000000 in
theorem kcV_X8_246 : zKV RX8 246 yX8_numberAt cX8_numberAt 2 (some .int) 1 := ⟨zIn5 224 rfl rfl, zIn5 226 rfl rfl, zIn0 37 rfl rfl, zIn1 10 rfl rfl, zIn5 227 rfl rfl, by decide, by decide, by decide⟩
set_option maxRecDepth 20000 in
set_option maxHeartbeats 2000000 in
theorem kcV_X8_252 : zKV RX8 252 yX8_unlikeBlocks cX8_unlikeBlocks 5 (some .int) 0 := ⟨zIn5 236 rfl rfl, zIn5 238 rfl rfl, zIn0 38 rfl rfl, zIn1 10 rfl rfl, zIn5 239 rfl rfl, by decide, by decide, by decide⟩
set_option maxRecDepth 20000 in
set_option maxHeartbeats 2000000 in
theorem kcV_X8_255 : zKV RX8 255 yX8_between cX8_between 3 (some .int) 0 := ⟨zIn6 0 rfl rfl, zIn6 2 rfl rfl, zIn0 39 rfl rfl, zIn1 10 rfl rfl, zIn6 3 rfl rfl, by decide, by decide, by decide⟩
set_option maxRecDepth 20000 in
set_option maxHeartbeats 2000000 in
theorem kcV_X8_249 : zKV RX8 249 yX8_timesRead cX8_timesRead 4 (some .int) 1 := ⟨zIn6 8 rfl rfl, zIn6 10 rfl rfl, zIn0 41 rfl rfl, zIn1 10 rfl rfl, zIn6 11 rfl rfl, by decide, by decide, by decide⟩
set_option maxRecDepth 20000 in
set_option maxHeartbeats 2000000 in
theorem kcV_X8_258 : zKV RX8 258 yX8_mostRead cX8_mostRead 5 (some .int) 0 := ⟨zIn6 4 rfl rfl, zIn6 6 rfl rfl, zIn0 40 rfl rfl, zIn1 10 rfl rfl, zIn6 7 rfl rfl, by decide, by decide, by decide⟩
set_option maxRecDepth 20000 in
set_option maxHeartbeats 2000000 in
theorem kcV_X8_264 : zKV RX8 264 yX8_endThought cX8_endThought 1 none 0 := ⟨zIn6 20 rfl rfl, zIn6 22 rfl rfl, zIn0 43 rfl rfl, zIn1 10 rfl rfl, zIn6 23 rfl rfl, by decide, by decide, by decide⟩
set_option maxRecDepth 20000 in
set_option maxHeartbeats 2000000 in
theorem kcV_X8_261 : zKV RX8 261 yX8_think cX8_think 1 none 0 := ⟨zIn6 16 rfl rfl, zIn6 18 rfl rfl, zIn0 42 rfl rfl, zIn1 10 rfl rfl, zIn6 19 rfl rfl, by decide, by decide, by decide⟩
set_option maxRecDepth 20000 in
set_option maxHeartbeats 2000000 in
theorem kcV_X8_270 : zKV RX8 270 yX8_canReplay cX8_canReplay 3 (some .boolean) 2 := ⟨zIn6 32 rfl rfl, zIn6 34 rfl rfl, zIn0 44 rfl rfl, zIn1 10 rfl rfl, zIn6 35 rfl rfl, by decide, by decide, by decide⟩
set_option maxRecDepth 20000 in
set_option maxHeartbeats 2000000 in
theorem kcV_X8_307 : zKV RX8 307 yX8_streams cX8_streams 5 (some .int) 1 := ⟨zIn6 40 rfl rfl, zIn6 42 rfl rfl, zIn0 46 rfl rfl, zIn1 10 rfl rfl, zIn6 43 rfl rfl, by decide, by decide, by decide⟩
set_option maxRecDepth 20000 in
set_option maxHeartbeats 2000000 in
theorem kcV_X8_311 : zKV RX8 311 yX8_badOnes cX8_badOnes 3 (some .int) 0 := ⟨zIn6 44 rfl rfl, zIn6 46 rfl rfl, zIn0 47 rfl rfl, zIn1 10 rfl rfl, zIn6 47 rfl rfl, by decide, by decide, by decide⟩
set_option maxRecDepth 20000 in
set_option maxHeartbeats 2000000 in
theorem kcV_X8_273 : zKV RX8 273 yX8_tells cX8_tells 2 (some .int) 1 := ⟨zIn6 36 rfl rfl, zIn6 38 rfl rfl, zIn0 45 rfl rfl, zIn1 10 rfl rfl, zIn6 39 rfl rfl, by decide, by decide, by decide⟩
set_option maxRecDepth 20000 in
set_option maxHeartbeats 2000000 in
theorem kcV_X8_276 : zKV RX8 276 yX8_takeTrace cX8_takeTrace 2 none 0 := ⟨zIn6 49 rfl rfl, zIn6 51 rfl rfl, zIn0 48 rfl rfl, zIn1 10 rfl rfl, zIn6 52 rfl rfl, by decide, by decide, by decide⟩
set_option maxRecDepth 20000 in
set_option maxHeartbeats 2000000 in
theorem kcV_X8_279 : zKV RX8 279 yX8_readAnew cX8_readAnew 2 none 0 := ⟨zIn6 53 rfl rfl, zIn6 55 rfl rfl, zIn0 49 rfl rfl, zIn1 10 rfl rfl, zIn6 56 rfl rfl, by decide, by decide, by decide⟩
set_option maxRecDepth 20000 in
set_option maxHeartbeats 2000000 in
theorem kcV_X8_285 : zKV RX8 285 yX8_againAt cX8_againAt 4 (some .int) 2 := ⟨zIn6 81 rfl rfl, zIn6 83 rfl rfl, zIn0 52 rfl rfl, zIn1 10 rfl rfl, zIn6 84 rfl rfl, by decide, by decide, by decide⟩
set_option maxRecDepth 20000 in
set_option maxHeartbeats 2000000 in
theorem kcV_X8_282 : zKV RX8 282 yX8_outOf cX8_outOf 6 (some .int) 2 := ⟨zIn6 77 rfl rfl, zIn6 79 rfl rfl, zIn0 51 rfl rfl, zIn1 10 rfl rfl, zIn6 80 rfl rfl, by decide, by decide, by decide⟩
set_option maxRecDepth 20000 in
set_option maxHeartbeats 2000000 in
theorem kcV_X8_288 : zKV RX8 288 yX8_missesBy cX8_missesBy 8 (some .int) 2 := ⟨zIn6 73 rfl rfl, zIn6 75 rfl rfl, zIn0 50 rfl rfl, zIn1 10 rfl rfl, zIn6 76 rfl rfl, by decide, by decide, by decide⟩
set_option maxRecDepth 20000 in
set_option maxHeartbeats 2000000 in
theorem kcV_X8_294 : zKV RX8 294 yX8_isRead cX8_isRead 4 (some .boolean) 2 := ⟨zIn6 99 rfl rfl, zIn6 101 rfl rfl, zIn0 54 rfl rfl, zIn1 10 rfl rfl, zIn6 102 rfl rfl, by decide, by decide, by decide⟩
set_option maxRecDepth 20000 in
set_option maxHeartbeats 2000000 in
theorem kcV_X8_304 : zKV RX8 304 yX8_layRow cX8_layRow 4 none 1 := ⟨zIn6 95 rfl rfl, zIn6 97 rfl rfl, zIn0 53 rfl rfl, zIn1 10 rfl rfl, zIn6 98 rfl rfl, by decide, by decide, by decide⟩
