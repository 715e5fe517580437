def fdI_D (adr : Nat → Nat) (σ : ST) : List Value := [.ref (adr 1)]
def wfI (adr : Nat → Nat) (cI cZ cS : ClassId) (σ : ST) : va_W := [(adr 0, .inr (1, fdI_D adr σ)), (adr 1, .inl (cI, 10000, .inl (σ 1)))]
def wdI (adr : Nat → Nat) (cI cZ cS : ClassId) : zWd := (wfI adr cI cZ cS, [(cI, .int), (cZ, .boolean), (cS, .object "AheadPlanner$Stream")], fun _ _ _ => True)
theorem sfI_ok {adr : Nat → Nat} {cI cZ cS : ClassId} : zSF (wdI adr cI cZ cS).2.2 := ⟨fun _ _ _ _ _ h => h, fun _ _ _ _ _ h => h, fun _ _ _ _ _ h => h, fun _ _ _ _ _ h => h⟩
section FI
variable {X : zX} {nL : Nat} {z : zV} {pc : Nat} {L : List (Nat × Value)} {st : List Value} {σ : ST} {cc : ByteArray} {own : String} {ret : Option FieldType} {rm : Room} {β : Type} {r : β} {adr : Nat → Nat} {cI cZ cS : ClassId}
theorem wI_o_D : ((wdI adr cI cZ cS).1 σ)[0]? = some (adr 0, .inr (1, fdI_D adr σ)) := rfl
theorem wI_g_D_cells : ((wdI adr cI cZ cS).1 σ)[1]? = some (adr 1, .inl (cI, 10000, .inl (σ 1))) := rfl
theorem wI_s_D_cells (g : Nat → Int32) : ((wdI adr cI cZ cS).1 σ).set 1 (adr 1, .inl (cI, 10000, .inl g)) = (wdI adr cI cZ cS).1 (va_up σ 1 g) := rfl
theorem fI_l_D_cells (B : zC X nL (wdI adr cI cZ cS) cc own ret rm) {i : Int32} {K : Int32 → Option β} (hd : decode cc pc = .ok (.iaload, 1)) (hf : zGet (σ 1) 10000 i K = some r) (kk : ∀ v, K v = some r → zJ X nL (wdI adr cI cZ cS) z (pc + 1) L (.int v :: st) σ) : zJ X nL (wdI adr cI cZ cS) z pc L (.int i :: .ref (adr 1) :: st) σ := z_iald B (t0 := 0) wI_g_D_cells rfl hd hf kk
theorem fI_s_D_cells (B : zC X nL (wdI adr cI cZ cS) cc own ret rm) {i x : Int32} {K : ST → Option β} (hd : decode cc pc = .ok (.iastore, 1)) (hf : zSet σ 1 10000 i x K = some r) (kk : ∀ σ1, K σ1 = some r → zJ X nL (wdI adr cI cZ cS) z (pc + 1) L st σ1) : zJ X nL (wdI adr cI cZ cS) z pc L (.int x :: .int i :: .ref (adr 1) :: st) σ := z_iast B (t0 := 0) (ce := 1) wI_g_D_cells wI_s_D_cells rfl hd hf kk
theorem fI_g_X1_D_cells (B : zC X nL (wdI adr cI cZ cS) cc RX1 ret rm) (hd : decode cc pc = .ok (.getfield 9, 3)) (kk : zJ X nL (wdI adr cI cZ cS) z (pc + 3) L (.ref (adr 1) :: st) σ) : zJ X nL (wdI adr cI cZ cS) z pc L (.ref (adr 0) :: st) σ := z_get B (k := 0) iX1 rfl wI_o_D (Nat.le_of_ble_eq_true rfl) kw_82 rfl hd kk
end FI
def mI_X1_format_B2 (N : Nat) (hd2 : ST → Int32 → Option (ST)) (σ : ST) (x1 : Int32) : Option (ST) :=
  if ((10000) : Int32) ≤ x1 then
    some σ
  else
    zLet (((7919) : Int32) * x1) fun v18 =>
    zLet ((v18 : Int32) + (13)) fun v21 =>
    zRem v21 (1000003) fun v24 =>
    zSet σ 1 10000 x1 v24 fun s25 =>
    zLet (x1 + (1)) fun v26 =>
    hd2 s25 v26
def mI_X1_format_2 (N : Nat) : ST → Int32 → Option (ST) := zIt (mI_X1_format_B2 N) (fun _ _ => none) N
set_option maxRecDepth 20000 in
set_option maxHeartbeats 2000000 in
theorem tI_X1_format_2 {adr : Nat → Nat} {cI cZ cS : ClassId} {X : zX} {q : ST} (B : zC X 2 (wdI adr cI cZ cS) cX1_format RX1 none { frames := 0, cells := 0, slots := 0, locals := 0 }) (N : Nat) : ∀ (σ : ST) (x1 : Int32), mI_X1_format_2 N σ x1 = some q → zJ X 2 (wdI adr cI cZ cS) (zu q) 2 [(0, .ref (adr 0)), (1, .int x1)] [] σ := by
  refine zIt_ind (P := fun (hd : ST → Int32 → Option (ST)) => ∀ (σ : ST) (x1 : Int32), hd σ x1 = some q → zJ X 2 (wdI adr cI cZ cS) (zu q) 2 [(0, .ref (adr 0)), (1, .int x1)] [] σ) (fun _ _ hf => by cases hf) (fun hd2 hh2 => ?_) N
  intro σ x1 hf
  refine z_iload_n B dX1_format_2 1 rfl rfl ?_
  refine z_sipush B (10000) dX1_format_3 zc_sipush_10000 ?_
  refine z_icmp_ge B 32 dX1_format_6 (by decide) hf (fun hf => ?_) (fun hf => ?_)
  · exact z_return B dX1_format_32 hf
  · refine z_aload_n B dX1_format_9 0 rfl rfl ?_
    refine fI_g_X1_D_cells B dX1_format_10 ?_
    refine z_iload_n B dX1_format_13 1 rfl rfl ?_
    refine z_sipush B (7919) dX1_format_14 zc_sipush_7919 ?_
    refine z_iload_n B dX1_format_17 1 rfl rfl ?_
    refine z_imul B dX1_format_18 hf (fun v18 hf => ?_)
    refine z_bipush B (13) dX1_format_19 zc_bipush_13 ?_
    refine z_iadd B dX1_format_21 hf (fun v21 hf => ?_)
    refine z_ldc B kw_91 dX1_format_22 ?_
    refine z_irem B dX1_format_24 hf (fun v24 hf => ?_)
    refine fI_s_D_cells B dX1_format_25 hf (fun s25 hf => ?_)
    refine z_iinc B (1) 1 (fun v26 => [(1, .int v26), (0, .ref (adr 0))]) dX1_format_26 hf zc_iconst_1 rfl (Nat.le_of_ble_eq_true rfl) (fun _ => rfl) (fun v26 hf => ?_)
    refine z_goto B 2 dX1_format_29 (by decide) ?_
    exact z_loc [1, 0] _ rfl (hh2 s25 v26 hf)
def mI_X1_format (N : Nat) (σ : ST) : Option (ST) :=
  mI_X1_format_2 N σ (0)
set_option maxRecDepth 20000 in
set_option maxHeartbeats 2000000 in
theorem cI_X1_format {adr : Nat → Nat} {cI cZ cS : ClassId} {l : Launch} {D : va_G} {N : Nat} {σ : ST} (q : ST) (hf : mI_X1_format N σ = some q) : zM l D (wdI adr cI cZ cS) yX1_format cX1_format 2 none ({ frames := 0, cells := 0, slots := 0, locals := 0 }) [.ref (adr 0)] σ (zu q) := by
  refine zM_of sfI_ok rfl (Nat.le_of_ble_eq_true rfl) [(0, .ref (adr 0))] rfl (fun X hX1 hX2 B => ?_)
  have B : zC X 2 (wdI adr cI cZ cS) cX1_format RX1 none { frames := 0, cells := 0, slots := 0, locals := 0 } := B
  refine z_iconst B (0) dX1_format_0 zc_iconst_0 ?_
  refine z_istore_n B [(1, .int (0)), (0, .ref (adr 0))] dX1_format_1 rfl (Nat.le_of_ble_eq_true rfl) rfl ?_
  exact z_loc [1, 0] _ rfl (tI_X1_format_2 B N σ (0) hf)
