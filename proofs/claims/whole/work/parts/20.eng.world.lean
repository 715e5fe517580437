theorem zc_bipush_32 : (Int8.ofInt (32)).toInt32 = ((32) : Int32) := by decide
theorem zc_bipush_33 : (Int8.ofInt (33)).toInt32 = ((33) : Int32) := by decide
theorem zc_bipush_34 : (Int8.ofInt (34)).toInt32 = ((34) : Int32) := by decide
theorem zc_sipush_7919 : (Int16.ofInt (7919)).toInt32 = ((7919) : Int32) := by decide
/-! THE ENGINE'S WORLD: cells by number (NOTES.md) -/
def zL6f (adr : Nat → Nat) (b : Nat) : Nat → Option Nat := fun j => ([adr b, adr (b + 1), adr (b + 2), adr (b + 3), adr (b + 4), adr (b + 5)] : List Nat)[j]?
theorem zL6 (adr : Nat → Nat) (b : Nat) (p : Fin 6) : zL6f adr b p.val = some (adr (b + p.val)) := by
  match p with
  | ⟨0, _⟩ => rfl
  | ⟨1, _⟩ => rfl
  | ⟨2, _⟩ => rfl
  | ⟨3, _⟩ => rfl
  | ⟨4, _⟩ => rfl
  | ⟨5, _⟩ => rfl
def lowF (j : Nat) : Int32 := ([4, 1, 1, 1, 1, 0, 1, 1, 0, 0] : List Int32).getD j 0
def highF (j : Nat) : Int32 := ([64, 4, 8, 32, 200, 100, 6, 10000, 2, 8] : List Int32).getD j 0
def fdE_S (σ : ST) (k : Nat) : List Value := [.int (σ k 0), .int (σ k 1), .int (σ k 2), .int (σ k 3), .int (σ k 4), .int (σ k 5), .int (σ k 6), .int (σ k 7), .int (σ k 8), .int (σ k 9), .int (σ k 10)]
def fdE_E (adr : Nat → Nat) (σ : ST) : List Value := [.ref (adr 25), .ref (adr 1), .ref (adr 2), .ref (adr 3), .ref (adr 11), .ref (adr 18), .ref (adr 22), .ref (adr 24), .int (σ 0 8), .int (σ 0 9)]
def fdE_C (adr : Nat → Nat) (σ : ST) : List Value := [.ref (adr 4), .ref (adr 5), .ref (adr 6), .ref (adr 7), .ref (adr 8), .ref (adr 9), .ref (adr 10), .int (σ 3 7), .int (σ 3 8), .int (σ 3 9)]
def fdE_H (adr : Nat → Nat) (σ : ST) : List Value := [.ref (adr 19), .ref (adr 20), .ref (adr 21), .int (σ 18 3), .int (σ 18 4)]
def fdE_G (adr : Nat → Nat) (σ : ST) : List Value := [.ref (adr 23), .int (σ 22 1), .int (σ 22 2)]
def fdE_D (adr : Nat → Nat) (σ : ST) : List Value := [.ref (adr 26)]
def wfE (adr : Nat → Nat) (cI cZ cS : ClassId) (σ : ST) : va_W := [(adr 0, .inr (2, fdE_E adr σ)), (adr 1, .inl (cI, 10, .inl (σ 1))), (adr 2, .inl (cI, 34, .inl (σ 2))), (adr 3, .inr (0, fdE_C adr σ)), (adr 4, .inl (cI, 64, .inl (σ 4))), (adr 5, .inl (cI, 64, .inl (σ 5))), (adr 6, .inl (cI, 64, .inl (σ 6))), (adr 7, .inl (cI, 64, .inl (σ 7))), (adr 8, .inl (cI, 64, .inl (σ 8))), (adr 9, .inl (cZ, 64, .inl (σ 9))), (adr 10, .inl (cI, 10000, .inl (σ 10))), (adr 11, .inl (cS, 6, .inr (.inr (.inr (.inr (zL6f adr 12)))))), (adr 12, .inr (4, fdE_S σ 12)), (adr 13, .inr (4, fdE_S σ 13)), (adr 14, .inr (4, fdE_S σ 14)), (adr 15, .inr (4, fdE_S σ 15)), (adr 16, .inr (4, fdE_S σ 16)), (adr 17, .inr (4, fdE_S σ 17)), (adr 18, .inr (3, fdE_H adr σ)), (adr 19, .inl (cI, 400, .inl (σ 19))), (adr 20, .inl (cI, 400, .inl (σ 20))), (adr 21, .inl (cI, 400, .inl (σ 21))), (adr 22, .inr (6, fdE_G adr σ)), (adr 23, .inl (cI, 160, .inl (σ 23))), (adr 24, .inl (cI, 32, .inl (σ 24))), (adr 25, .inr (1, fdE_D adr σ)), (adr 26, .inl (cI, 10000, .inl (σ 26)))]
def sfE (tL tH : Nat) : (Nat → Prop) → State → Heap → Prop := fun A U H => va_Z "AheadPlanner" "LOWEST" "[I" (.ref tL) A U H ∧ va_T .int tL 10 (fun j => .int (lowF j)) A U H ∧ va_Z "AheadPlanner" "HIGHEST" "[I" (.ref tH) A U H ∧ va_T .int tH 10 (fun j => .int (highF j)) A U H ∧ va_Nw (.methodLinkNest RX2 66 yX7_isTermValue RX7) U
theorem sfE_ok {tL tH : Nat} : zSF (sfE tL tH) := by
  refine ⟨fun A u U H hW h => ?_, fun A u U H hv h => ?_, fun A U H H1 hk h => ?_, fun A B U H hAB h => ?_⟩
  · exact ⟨h.1.moved hW.alike, h.2.1.moved hW.alike, h.2.2.1.moved hW.alike, h.2.2.2.1.moved hW.alike, va_Nw.warmM hW h.2.2.2.2⟩
  · exact ⟨h.1.moved (by rw [hv]; exact Vm.Alike.refl _), h.2.1.moved (by rw [hv]; exact Vm.Alike.refl _), h.2.2.1.moved (by rw [hv]; exact Vm.Alike.refl _), h.2.2.2.1.moved (by rw [hv]; exact Vm.Alike.refl _), va_Nw.same rfl hv h.2.2.2.2⟩
  · exact ⟨h.1.kept hk, h.2.1.kept hk, h.2.2.1.kept hk, h.2.2.2.1.kept hk, h.2.2.2.2⟩
  · exact ⟨h.1.narrow hAB, h.2.1.narrow hAB, h.2.2.1.narrow hAB, h.2.2.2.1.narrow hAB, h.2.2.2.2⟩
def wdE (adr : Nat → Nat) (cI cZ cS : ClassId) (tL tH : Nat) : zWd := (wfE adr cI cZ cS, [(cI, .int), (cZ, .boolean), (cS, .object "AheadPlanner$Stream")], sfE tL tH)
theorem iX0 : ∀ w ∈ u_ws RX0 TX0 10, w ∈ zTb := by
  have h : (u_ws RX0 TX0 10).all (fun w => decide (w ∈ zTb)) = true := by decide +kernel
  exact fun w hw => of_decide_eq_true (List.all_eq_true.mp h w hw)
theorem iX1 : ∀ w ∈ u_ws RX1 TX1 1, w ∈ zTb := by
  have h : (u_ws RX1 TX1 1).all (fun w => decide (w ∈ zTb)) = true := by decide +kernel
  exact fun w hw => of_decide_eq_true (List.all_eq_true.mp h w hw)
theorem iX2 : ∀ w ∈ u_ws RX2 TX2 10, w ∈ zTb := by
  have h : (u_ws RX2 TX2 10).all (fun w => decide (w ∈ zTb)) = true := by decide +kernel
  exact fun w hw => of_decide_eq_true (List.all_eq_true.mp h w hw)
theorem iX3 : ∀ w ∈ u_ws RX3 TX3 5, w ∈ zTb := by
  have h : (u_ws RX3 TX3 5).all (fun w => decide (w ∈ zTb)) = true := by decide +kernel
  exact fun w hw => of_decide_eq_true (List.all_eq_true.mp h w hw)
theorem iX4 : ∀ w ∈ u_ws RX4 TX4 11, w ∈ zTb := by
  have h : (u_ws RX4 TX4 11).all (fun w => decide (w ∈ zTb)) = true := by decide +kernel
  exact fun w hw => of_decide_eq_true (List.all_eq_true.mp h w hw)
theorem iX6 : ∀ w ∈ u_ws RX6 TX6 3, w ∈ zTb := by
  have h : (u_ws RX6 TX6 3).all (fun w => decide (w ∈ zTb)) = true := by decide +kernel
  exact fun w hw => of_decide_eq_true (List.all_eq_true.mp h w hw)
section FE
variable {X : zX} {nL : Nat} {z : zV} {pc : Nat} {L : List (Nat × Value)} {st : List Value} {σ : ST} {cc : ByteArray} {own : String} {ret : Option FieldType} {rm : Room} {β : Type} {r : β} {adr : Nat → Nat} {cI cZ cS : ClassId} {tL tH : Nat}
theorem wE_o_E : ((wdE adr cI cZ cS tL tH).1 σ)[0]? = some (adr 0, .inr (2, fdE_E adr σ)) := rfl
theorem wE_o_C : ((wdE adr cI cZ cS tL tH).1 σ)[3]? = some (adr 3, .inr (0, fdE_C adr σ)) := rfl
theorem wE_o_H : ((wdE adr cI cZ cS tL tH).1 σ)[18]? = some (adr 18, .inr (3, fdE_H adr σ)) := rfl
theorem wE_o_G : ((wdE adr cI cZ cS tL tH).1 σ)[22]? = some (adr 22, .inr (6, fdE_G adr σ)) := rfl
theorem wE_o_D : ((wdE adr cI cZ cS tL tH).1 σ)[25]? = some (adr 25, .inr (1, fdE_D adr σ)) := rfl
theorem wE_o_S (p : Fin 6) : ((wdE adr cI cZ cS tL tH).1 σ)[12 + p.val]? = some (adr (12 + p.val), .inr (4, fdE_S σ (12 + p.val))) := by
  match p with
  | ⟨0, _⟩ => rfl
  | ⟨1, _⟩ => rfl
  | ⟨2, _⟩ => rfl
  | ⟨3, _⟩ => rfl
  | ⟨4, _⟩ => rfl
  | ⟨5, _⟩ => rfl
theorem sfE_ZL (B : zC X nL (wdE adr cI cZ cS tL tH) cc own ret rm) : va_Z "AheadPlanner" "LOWEST" "[I" (.ref tL) X.2.2.2.2.2.2.2.2.2.2.2 X.2.2.2.2.1 X.2.2.2.2.1.heap :=
  have h : sfE tL tH X.2.2.2.2.2.2.2.2.2.2.2 X.2.2.2.2.1 X.2.2.2.2.1.heap := B.2.2.2.2.2.2.2.2.2.2.2
  h.1
theorem sfE_TL (B : zC X nL (wdE adr cI cZ cS tL tH) cc own ret rm) : va_T .int tL 10 (fun j => .int (lowF j)) X.2.2.2.2.2.2.2.2.2.2.2 X.2.2.2.2.1 X.2.2.2.2.1.heap :=
  have h : sfE tL tH X.2.2.2.2.2.2.2.2.2.2.2 X.2.2.2.2.1 X.2.2.2.2.1.heap := B.2.2.2.2.2.2.2.2.2.2.2
  h.2.1
theorem sfE_ZH (B : zC X nL (wdE adr cI cZ cS tL tH) cc own ret rm) : va_Z "AheadPlanner" "HIGHEST" "[I" (.ref tH) X.2.2.2.2.2.2.2.2.2.2.2 X.2.2.2.2.1 X.2.2.2.2.1.heap :=
  have h : sfE tL tH X.2.2.2.2.2.2.2.2.2.2.2 X.2.2.2.2.1 X.2.2.2.2.1.heap := B.2.2.2.2.2.2.2.2.2.2.2
  h.2.2.1
theorem sfE_TH (B : zC X nL (wdE adr cI cZ cS tL tH) cc own ret rm) : va_T .int tH 10 (fun j => .int (highF j)) X.2.2.2.2.2.2.2.2.2.2.2 X.2.2.2.2.1 X.2.2.2.2.1.heap :=
  have h : sfE tL tH X.2.2.2.2.2.2.2.2.2.2.2 X.2.2.2.2.1 X.2.2.2.2.1.heap := B.2.2.2.2.2.2.2.2.2.2.2
  h.2.2.2.1
theorem sfE_N (B : zC X nL (wdE adr cI cZ cS tL tH) cc own ret rm) : va_Nw (.methodLinkNest RX2 66 yX7_isTermValue RX7) X.2.2.2.2.1 :=
  have h : sfE tL tH X.2.2.2.2.2.2.2.2.2.2.2 X.2.2.2.2.1 X.2.2.2.2.1.heap := B.2.2.2.2.2.2.2.2.2.2.2
  h.2.2.2.2
theorem wE_g_E_terms : ((wdE adr cI cZ cS tL tH).1 σ)[1]? = some (adr 1, .inl (cI, 10, .inl (σ 1))) := rfl
theorem wE_s_E_terms (g : Nat → Int32) : ((wdE adr cI cZ cS tL tH).1 σ).set 1 (adr 1, .inl (cI, 10, .inl g)) = (wdE adr cI cZ cS tL tH).1 (va_up σ 1 g) := rfl
theorem fE_l_E_terms (B : zC X nL (wdE adr cI cZ cS tL tH) cc own ret rm) {i : Int32} {K : Int32 → Option β} (hd : decode cc pc = .ok (.iaload, 1)) (hf : zGet (σ 1) 10 i K = some r) (kk : ∀ v, K v = some r → zJ X nL (wdE adr cI cZ cS tL tH) z (pc + 1) L (.int v :: st) σ) : zJ X nL (wdE adr cI cZ cS tL tH) z pc L (.int i :: .ref (adr 1) :: st) σ := z_iald B (t0 := 0) wE_g_E_terms rfl hd hf kk
theorem fE_s_E_terms (B : zC X nL (wdE adr cI cZ cS tL tH) cc own ret rm) {i x : Int32} {K : ST → Option β} (hd : decode cc pc = .ok (.iastore, 1)) (hf : zSet σ 1 10 i x K = some r) (kk : ∀ σ1, K σ1 = some r → zJ X nL (wdE adr cI cZ cS tL tH) z (pc + 1) L st σ1) : zJ X nL (wdE adr cI cZ cS tL tH) z pc L (.int x :: .int i :: .ref (adr 1) :: st) σ := z_iast B (t0 := 0) (ce := 1) wE_g_E_terms wE_s_E_terms rfl hd hf kk
theorem wE_g_E_counts : ((wdE adr cI cZ cS tL tH).1 σ)[2]? = some (adr 2, .inl (cI, 34, .inl (σ 2))) := rfl
theorem wE_s_E_counts (g : Nat → Int32) : ((wdE adr cI cZ cS tL tH).1 σ).set 2 (adr 2, .inl (cI, 34, .inl g)) = (wdE adr cI cZ cS tL tH).1 (va_up σ 2 g) := rfl
theorem fE_l_E_counts (B : zC X nL (wdE adr cI cZ cS tL tH) cc own ret rm) {i : Int32} {K : Int32 → Option β} (hd : decode cc pc = .ok (.iaload, 1)) (hf : zGet (σ 2) 34 i K = some r) (kk : ∀ v, K v = some r → zJ X nL (wdE adr cI cZ cS tL tH) z (pc + 1) L (.int v :: st) σ) : zJ X nL (wdE adr cI cZ cS tL tH) z pc L (.int i :: .ref (adr 2) :: st) σ := z_iald B (t0 := 0) wE_g_E_counts rfl hd hf kk
theorem fE_s_E_counts (B : zC X nL (wdE adr cI cZ cS tL tH) cc own ret rm) {i x : Int32} {K : ST → Option β} (hd : decode cc pc = .ok (.iastore, 1)) (hf : zSet σ 2 34 i x K = some r) (kk : ∀ σ1, K σ1 = some r → zJ X nL (wdE adr cI cZ cS tL tH) z (pc + 1) L st σ1) : zJ X nL (wdE adr cI cZ cS tL tH) z pc L (.int x :: .int i :: .ref (adr 2) :: st) σ := z_iast B (t0 := 0) (ce := 2) wE_g_E_counts wE_s_E_counts rfl hd hf kk
theorem wE_g_C_blocks : ((wdE adr cI cZ cS tL tH).1 σ)[4]? = some (adr 4, .inl (cI, 64, .inl (σ 4))) := rfl
theorem wE_s_C_blocks (g : Nat → Int32) : ((wdE adr cI cZ cS tL tH).1 σ).set 4 (adr 4, .inl (cI, 64, .inl g)) = (wdE adr cI cZ cS tL tH).1 (va_up σ 4 g) := rfl
theorem fE_l_C_blocks (B : zC X nL (wdE adr cI cZ cS tL tH) cc own ret rm) {i : Int32} {K : Int32 → Option β} (hd : decode cc pc = .ok (.iaload, 1)) (hf : zGet (σ 4) 64 i K = some r) (kk : ∀ v, K v = some r → zJ X nL (wdE adr cI cZ cS tL tH) z (pc + 1) L (.int v :: st) σ) : zJ X nL (wdE adr cI cZ cS tL tH) z pc L (.int i :: .ref (adr 4) :: st) σ := z_iald B (t0 := 0) wE_g_C_blocks rfl hd hf kk
theorem fE_s_C_blocks (B : zC X nL (wdE adr cI cZ cS tL tH) cc own ret rm) {i x : Int32} {K : ST → Option β} (hd : decode cc pc = .ok (.iastore, 1)) (hf : zSet σ 4 64 i x K = some r) (kk : ∀ σ1, K σ1 = some r → zJ X nL (wdE adr cI cZ cS tL tH) z (pc + 1) L st σ1) : zJ X nL (wdE adr cI cZ cS tL tH) z pc L (.int x :: .int i :: .ref (adr 4) :: st) σ := z_iast B (t0 := 0) (ce := 4) wE_g_C_blocks wE_s_C_blocks rfl hd hf kk
theorem wE_g_C_stamps : ((wdE adr cI cZ cS tL tH).1 σ)[5]? = some (adr 5, .inl (cI, 64, .inl (σ 5))) := rfl
theorem wE_s_C_stamps (g : Nat → Int32) : ((wdE adr cI cZ cS tL tH).1 σ).set 5 (adr 5, .inl (cI, 64, .inl g)) = (wdE adr cI cZ cS tL tH).1 (va_up σ 5 g) := rfl
theorem fE_l_C_stamps (B : zC X nL (wdE adr cI cZ cS tL tH) cc own ret rm) {i : Int32} {K : Int32 → Option β} (hd : decode cc pc = .ok (.iaload, 1)) (hf : zGet (σ 5) 64 i K = some r) (kk : ∀ v, K v = some r → zJ X nL (wdE adr cI cZ cS tL tH) z (pc + 1) L (.int v :: st) σ) : zJ X nL (wdE adr cI cZ cS tL tH) z pc L (.int i :: .ref (adr 5) :: st) σ := z_iald B (t0 := 0) wE_g_C_stamps rfl hd hf kk
theorem fE_s_C_stamps (B : zC X nL (wdE adr cI cZ cS tL tH) cc own ret rm) {i x : Int32} {K : ST → Option β} (hd : decode cc pc = .ok (.iastore, 1)) (hf : zSet σ 5 64 i x K = some r) (kk : ∀ σ1, K σ1 = some r → zJ X nL (wdE adr cI cZ cS tL tH) z (pc + 1) L st σ1) : zJ X nL (wdE adr cI cZ cS tL tH) z pc L (.int x :: .int i :: .ref (adr 5) :: st) σ := z_iast B (t0 := 0) (ce := 5) wE_g_C_stamps wE_s_C_stamps rfl hd hf kk
theorem wE_g_C_touched : ((wdE adr cI cZ cS tL tH).1 σ)[6]? = some (adr 6, .inl (cI, 64, .inl (σ 6))) := rfl
theorem wE_s_C_touched (g : Nat → Int32) : ((wdE adr cI cZ cS tL tH).1 σ).set 6 (adr 6, .inl (cI, 64, .inl g)) = (wdE adr cI cZ cS tL tH).1 (va_up σ 6 g) := rfl
theorem fE_l_C_touched (B : zC X nL (wdE adr cI cZ cS tL tH) cc own ret rm) {i : Int32} {K : Int32 → Option β} (hd : decode cc pc = .ok (.iaload, 1)) (hf : zGet (σ 6) 64 i K = some r) (kk : ∀ v, K v = some r → zJ X nL (wdE adr cI cZ cS tL tH) z (pc + 1) L (.int v :: st) σ) : zJ X nL (wdE adr cI cZ cS tL tH) z pc L (.int i :: .ref (adr 6) :: st) σ := z_iald B (t0 := 0) wE_g_C_touched rfl hd hf kk
theorem fE_s_C_touched (B : zC X nL (wdE adr cI cZ cS tL tH) cc own ret rm) {i x : Int32} {K : ST → Option β} (hd : decode cc pc = .ok (.iastore, 1)) (hf : zSet σ 6 64 i x K = some r) (kk : ∀ σ1, K σ1 = some r → zJ X nL (wdE adr cI cZ cS tL tH) z (pc + 1) L st σ1) : zJ X nL (wdE adr cI cZ cS tL tH) z pc L (.int x :: .int i :: .ref (adr 6) :: st) σ := z_iast B (t0 := 0) (ce := 6) wE_g_C_touched wE_s_C_touched rfl hd hf kk
theorem wE_g_C_owners : ((wdE adr cI cZ cS tL tH).1 σ)[7]? = some (adr 7, .inl (cI, 64, .inl (σ 7))) := rfl
theorem wE_s_C_owners (g : Nat → Int32) : ((wdE adr cI cZ cS tL tH).1 σ).set 7 (adr 7, .inl (cI, 64, .inl g)) = (wdE adr cI cZ cS tL tH).1 (va_up σ 7 g) := rfl
theorem fE_l_C_owners (B : zC X nL (wdE adr cI cZ cS tL tH) cc own ret rm) {i : Int32} {K : Int32 → Option β} (hd : decode cc pc = .ok (.iaload, 1)) (hf : zGet (σ 7) 64 i K = some r) (kk : ∀ v, K v = some r → zJ X nL (wdE adr cI cZ cS tL tH) z (pc + 1) L (.int v :: st) σ) : zJ X nL (wdE adr cI cZ cS tL tH) z pc L (.int i :: .ref (adr 7) :: st) σ := z_iald B (t0 := 0) wE_g_C_owners rfl hd hf kk
theorem fE_s_C_owners (B : zC X nL (wdE adr cI cZ cS tL tH) cc own ret rm) {i x : Int32} {K : ST → Option β} (hd : decode cc pc = .ok (.iastore, 1)) (hf : zSet σ 7 64 i x K = some r) (kk : ∀ σ1, K σ1 = some r → zJ X nL (wdE adr cI cZ cS tL tH) z (pc + 1) L st σ1) : zJ X nL (wdE adr cI cZ cS tL tH) z pc L (.int x :: .int i :: .ref (adr 7) :: st) σ := z_iast B (t0 := 0) (ce := 7) wE_g_C_owners wE_s_C_owners rfl hd hf kk
theorem wE_g_C_fetchedAt : ((wdE adr cI cZ cS tL tH).1 σ)[8]? = some (adr 8, .inl (cI, 64, .inl (σ 8))) := rfl
theorem wE_s_C_fetchedAt (g : Nat → Int32) : ((wdE adr cI cZ cS tL tH).1 σ).set 8 (adr 8, .inl (cI, 64, .inl g)) = (wdE adr cI cZ cS tL tH).1 (va_up σ 8 g) := rfl
theorem fE_l_C_fetchedAt (B : zC X nL (wdE adr cI cZ cS tL tH) cc own ret rm) {i : Int32} {K : Int32 → Option β} (hd : decode cc pc = .ok (.iaload, 1)) (hf : zGet (σ 8) 64 i K = some r) (kk : ∀ v, K v = some r → zJ X nL (wdE adr cI cZ cS tL tH) z (pc + 1) L (.int v :: st) σ) : zJ X nL (wdE adr cI cZ cS tL tH) z pc L (.int i :: .ref (adr 8) :: st) σ := z_iald B (t0 := 0) wE_g_C_fetchedAt rfl hd hf kk
theorem fE_s_C_fetchedAt (B : zC X nL (wdE adr cI cZ cS tL tH) cc own ret rm) {i x : Int32} {K : ST → Option β} (hd : decode cc pc = .ok (.iastore, 1)) (hf : zSet σ 8 64 i x K = some r) (kk : ∀ σ1, K σ1 = some r → zJ X nL (wdE adr cI cZ cS tL tH) z (pc + 1) L st σ1) : zJ X nL (wdE adr cI cZ cS tL tH) z pc L (.int x :: .int i :: .ref (adr 8) :: st) σ := z_iast B (t0 := 0) (ce := 8) wE_g_C_fetchedAt wE_s_C_fetchedAt rfl hd hf kk
theorem wE_g_C_waiting : ((wdE adr cI cZ cS tL tH).1 σ)[9]? = some (adr 9, .inl (cZ, 64, .inl (σ 9))) := rfl
theorem wE_s_C_waiting (g : Nat → Int32) : ((wdE adr cI cZ cS tL tH).1 σ).set 9 (adr 9, .inl (cZ, 64, .inl g)) = (wdE adr cI cZ cS tL tH).1 (va_up σ 9 g) := rfl
theorem fE_l_C_waiting (B : zC X nL (wdE adr cI cZ cS tL tH) cc own ret rm) {i : Int32} {K : Int32 → Option β} (hd : decode cc pc = .ok (.baload, 1)) (hf : zGet (σ 9) 64 i K = some r) (kk : ∀ v, K v = some r → zJ X nL (wdE adr cI cZ cS tL tH) z (pc + 1) L (.int v :: st) σ) : zJ X nL (wdE adr cI cZ cS tL tH) z pc L (.int i :: .ref (adr 9) :: st) σ := z_zald B (t0 := 1) wE_g_C_waiting rfl hd hf kk
theorem fE_s_C_waiting (B : zC X nL (wdE adr cI cZ cS tL tH) cc own ret rm) {i x : Int32} {K : ST → Option β} (hd : decode cc pc = .ok (.bastore, 1)) (hf : zSet σ 9 64 i (vp_nar .boolean x) K = some r) (kk : ∀ σ1, K σ1 = some r → zJ X nL (wdE adr cI cZ cS tL tH) z (pc + 1) L st σ1) : zJ X nL (wdE adr cI cZ cS tL tH) z pc L (.int x :: .int i :: .ref (adr 9) :: st) σ := z_zast B (t0 := 1) (ce := 9) wE_g_C_waiting wE_s_C_waiting rfl hd hf kk
theorem wE_g_C_where : ((wdE adr cI cZ cS tL tH).1 σ)[10]? = some (adr 10, .inl (cI, 10000, .inl (σ 10))) := rfl
theorem wE_s_C_where (g : Nat → Int32) : ((wdE adr cI cZ cS tL tH).1 σ).set 10 (adr 10, .inl (cI, 10000, .inl g)) = (wdE adr cI cZ cS tL tH).1 (va_up σ 10 g) := rfl
theorem fE_l_C_where (B : zC X nL (wdE adr cI cZ cS tL tH) cc own ret rm) {i : Int32} {K : Int32 → Option β} (hd : decode cc pc = .ok (.iaload, 1)) (hf : zGet (σ 10) 10000 i K = some r) (kk : ∀ v, K v = some r → zJ X nL (wdE adr cI cZ cS tL tH) z (pc + 1) L (.int v :: st) σ) : zJ X nL (wdE adr cI cZ cS tL tH) z pc L (.int i :: .ref (adr 10) :: st) σ := z_iald B (t0 := 0) wE_g_C_where rfl hd hf kk
theorem fE_s_C_where (B : zC X nL (wdE adr cI cZ cS tL tH) cc own ret rm) {i x : Int32} {K : ST → Option β} (hd : decode cc pc = .ok (.iastore, 1)) (hf : zSet σ 10 10000 i x K = some r) (kk : ∀ σ1, K σ1 = some r → zJ X nL (wdE adr cI cZ cS tL tH) z (pc + 1) L st σ1) : zJ X nL (wdE adr cI cZ cS tL tH) z pc L (.int x :: .int i :: .ref (adr 10) :: st) σ := z_iast B (t0 := 0) (ce := 10) wE_g_C_where wE_s_C_where rfl hd hf kk
theorem wE_g_H_blocks : ((wdE adr cI cZ cS tL tH).1 σ)[19]? = some (adr 19, .inl (cI, 400, .inl (σ 19))) := rfl
theorem wE_s_H_blocks (g : Nat → Int32) : ((wdE adr cI cZ cS tL tH).1 σ).set 19 (adr 19, .inl (cI, 400, .inl g)) = (wdE adr cI cZ cS tL tH).1 (va_up σ 19 g) := rfl
theorem fE_l_H_blocks (B : zC X nL (wdE adr cI cZ cS tL tH) cc own ret rm) {i : Int32} {K : Int32 → Option β} (hd : decode cc pc = .ok (.iaload, 1)) (hf : zGet (σ 19) 400 i K = some r) (kk : ∀ v, K v = some r → zJ X nL (wdE adr cI cZ cS tL tH) z (pc + 1) L (.int v :: st) σ) : zJ X nL (wdE adr cI cZ cS tL tH) z pc L (.int i :: .ref (adr 19) :: st) σ := z_iald B (t0 := 0) wE_g_H_blocks rfl hd hf kk
theorem fE_s_H_blocks (B : zC X nL (wdE adr cI cZ cS tL tH) cc own ret rm) {i x : Int32} {K : ST → Option β} (hd : decode cc pc = .ok (.iastore, 1)) (hf : zSet σ 19 400 i x K = some r) (kk : ∀ σ1, K σ1 = some r → zJ X nL (wdE adr cI cZ cS tL tH) z (pc + 1) L st σ1) : zJ X nL (wdE adr cI cZ cS tL tH) z pc L (.int x :: .int i :: .ref (adr 19) :: st) σ := z_iast B (t0 := 0) (ce := 19) wE_g_H_blocks wE_s_H_blocks rfl hd hf kk
theorem wE_g_H_numbers : ((wdE adr cI cZ cS tL tH).1 σ)[20]? = some (adr 20, .inl (cI, 400, .inl (σ 20))) := rfl
theorem wE_s_H_numbers (g : Nat → Int32) : ((wdE adr cI cZ cS tL tH).1 σ).set 20 (adr 20, .inl (cI, 400, .inl g)) = (wdE adr cI cZ cS tL tH).1 (va_up σ 20 g) := rfl
theorem fE_l_H_numbers (B : zC X nL (wdE adr cI cZ cS tL tH) cc own ret rm) {i : Int32} {K : Int32 → Option β} (hd : decode cc pc = .ok (.iaload, 1)) (hf : zGet (σ 20) 400 i K = some r) (kk : ∀ v, K v = some r → zJ X nL (wdE adr cI cZ cS tL tH) z (pc + 1) L (.int v :: st) σ) : zJ X nL (wdE adr cI cZ cS tL tH) z pc L (.int i :: .ref (adr 20) :: st) σ := z_iald B (t0 := 0) wE_g_H_numbers rfl hd hf kk
theorem fE_s_H_numbers (B : zC X nL (wdE adr cI cZ cS tL tH) cc own ret rm) {i x : Int32} {K : ST → Option β} (hd : decode cc pc = .ok (.iastore, 1)) (hf : zSet σ 20 400 i x K = some r) (kk : ∀ σ1, K σ1 = some r → zJ X nL (wdE adr cI cZ cS tL tH) z (pc + 1) L st σ1) : zJ X nL (wdE adr cI cZ cS tL tH) z pc L (.int x :: .int i :: .ref (adr 20) :: st) σ := z_iast B (t0 := 0) (ce := 20) wE_g_H_numbers wE_s_H_numbers rfl hd hf kk
theorem wE_g_H_kinds : ((wdE adr cI cZ cS tL tH).1 σ)[21]? = some (adr 21, .inl (cI, 400, .inl (σ 21))) := rfl
theorem wE_s_H_kinds (g : Nat → Int32) : ((wdE adr cI cZ cS tL tH).1 σ).set 21 (adr 21, .inl (cI, 400, .inl g)) = (wdE adr cI cZ cS tL tH).1 (va_up σ 21 g) := rfl
theorem fE_l_H_kinds (B : zC X nL (wdE adr cI cZ cS tL tH) cc own ret rm) {i : Int32} {K : Int32 → Option β} (hd : decode cc pc = .ok (.iaload, 1)) (hf : zGet (σ 21) 400 i K = some r) (kk : ∀ v, K v = some r → zJ X nL (wdE adr cI cZ cS tL tH) z (pc + 1) L (.int v :: st) σ) : zJ X nL (wdE adr cI cZ cS tL tH) z pc L (.int i :: .ref (adr 21) :: st) σ := z_iald B (t0 := 0) wE_g_H_kinds rfl hd hf kk
theorem fE_s_H_kinds (B : zC X nL (wdE adr cI cZ cS tL tH) cc own ret rm) {i x : Int32} {K : ST → Option β} (hd : decode cc pc = .ok (.iastore, 1)) (hf : zSet σ 21 400 i x K = some r) (kk : ∀ σ1, K σ1 = some r → zJ X nL (wdE adr cI cZ cS tL tH) z (pc + 1) L st σ1) : zJ X nL (wdE adr cI cZ cS tL tH) z pc L (.int x :: .int i :: .ref (adr 21) :: st) σ := z_iast B (t0 := 0) (ce := 21) wE_g_H_kinds wE_s_H_kinds rfl hd hf kk
theorem wE_g_G_cells : ((wdE adr cI cZ cS tL tH).1 σ)[23]? = some (adr 23, .inl (cI, 160, .inl (σ 23))) := rfl
theorem wE_s_G_cells (g : Nat → Int32) : ((wdE adr cI cZ cS tL tH).1 σ).set 23 (adr 23, .inl (cI, 160, .inl g)) = (wdE adr cI cZ cS tL tH).1 (va_up σ 23 g) := rfl
theorem fE_l_G_cells (B : zC X nL (wdE adr cI cZ cS tL tH) cc own ret rm) {i : Int32} {K : Int32 → Option β} (hd : decode cc pc = .ok (.iaload, 1)) (hf : zGet (σ 23) 160 i K = some r) (kk : ∀ v, K v = some r → zJ X nL (wdE adr cI cZ cS tL tH) z (pc + 1) L (.int v :: st) σ) : zJ X nL (wdE adr cI cZ cS tL tH) z pc L (.int i :: .ref (adr 23) :: st) σ := z_iald B (t0 := 0) wE_g_G_cells rfl hd hf kk
theorem fE_s_G_cells (B : zC X nL (wdE adr cI cZ cS tL tH) cc own ret rm) {i x : Int32} {K : ST → Option β} (hd : decode cc pc = .ok (.iastore, 1)) (hf : zSet σ 23 160 i x K = some r) (kk : ∀ σ1, K σ1 = some r → zJ X nL (wdE adr cI cZ cS tL tH) z (pc + 1) L st σ1) : zJ X nL (wdE adr cI cZ cS tL tH) z pc L (.int x :: .int i :: .ref (adr 23) :: st) σ := z_iast B (t0 := 0) (ce := 23) wE_g_G_cells wE_s_G_cells rfl hd hf kk
theorem wE_g_E_planned : ((wdE adr cI cZ cS tL tH).1 σ)[24]? = some (adr 24, .inl (cI, 32, .inl (σ 24))) := rfl
theorem wE_s_E_planned (g : Nat → Int32) : ((wdE adr cI cZ cS tL tH).1 σ).set 24 (adr 24, .inl (cI, 32, .inl g)) = (wdE adr cI cZ cS tL tH).1 (va_up σ 24 g) := rfl
theorem fE_l_E_planned (B : zC X nL (wdE adr cI cZ cS tL tH) cc own ret rm) {i : Int32} {K : Int32 → Option β} (hd : decode cc pc = .ok (.iaload, 1)) (hf : zGet (σ 24) 32 i K = some r) (kk : ∀ v, K v = some r → zJ X nL (wdE adr cI cZ cS tL tH) z (pc + 1) L (.int v :: st) σ) : zJ X nL (wdE adr cI cZ cS tL tH) z pc L (.int i :: .ref (adr 24) :: st) σ := z_iald B (t0 := 0) wE_g_E_planned rfl hd hf kk
theorem fE_s_E_planned (B : zC X nL (wdE adr cI cZ cS tL tH) cc own ret rm) {i x : Int32} {K : ST → Option β} (hd : decode cc pc = .ok (.iastore, 1)) (hf : zSet σ 24 32 i x K = some r) (kk : ∀ σ1, K σ1 = some r → zJ X nL (wdE adr cI cZ cS tL tH) z (pc + 1) L st σ1) : zJ X nL (wdE adr cI cZ cS tL tH) z pc L (.int x :: .int i :: .ref (adr 24) :: st) σ := z_iast B (t0 := 0) (ce := 24) wE_g_E_planned wE_s_E_planned rfl hd hf kk
theorem wE_g_D_cells : ((wdE adr cI cZ cS tL tH).1 σ)[26]? = some (adr 26, .inl (cI, 10000, .inl (σ 26))) := rfl
theorem wE_s_D_cells (g : Nat → Int32) : ((wdE adr cI cZ cS tL tH).1 σ).set 26 (adr 26, .inl (cI, 10000, .inl g)) = (wdE adr cI cZ cS tL tH).1 (va_up σ 26 g) := rfl
theorem fE_l_D_cells (B : zC X nL (wdE adr cI cZ cS tL tH) cc own ret rm) {i : Int32} {K : Int32 → Option β} (hd : decode cc pc = .ok (.iaload, 1)) (hf : zGet (σ 26) 10000 i K = some r) (kk : ∀ v, K v = some r → zJ X nL (wdE adr cI cZ cS tL tH) z (pc + 1) L (.int v :: st) σ) : zJ X nL (wdE adr cI cZ cS tL tH) z pc L (.int i :: .ref (adr 26) :: st) σ := z_iald B (t0 := 0) wE_g_D_cells rfl hd hf kk
theorem fE_s_D_cells (B : zC X nL (wdE adr cI cZ cS tL tH) cc own ret rm) {i x : Int32} {K : ST → Option β} (hd : decode cc pc = .ok (.iastore, 1)) (hf : zSet σ 26 10000 i x K = some r) (kk : ∀ σ1, K σ1 = some r → zJ X nL (wdE adr cI cZ cS tL tH) z (pc + 1) L st σ1) : zJ X nL (wdE adr cI cZ cS tL tH) z pc L (.int x :: .int i :: .ref (adr 26) :: st) σ := z_iast B (t0 := 0) (ce := 26) wE_g_D_cells wE_s_D_cells rfl hd hf kk
theorem fE_streams (B : zC X nL (wdE adr cI cZ cS tL tH) cc own ret rm) {i : Int32} {K : Fin 6 → Option β} (hd : decode cc pc = .ok (.aaload, 1)) (hf : zGet6 i K = some r) (kk : ∀ p, K p = some r → zJ X nL (wdE adr cI cZ cS tL tH) z (pc + 1) L (.ref (adr (12 + p.val)) :: st) σ) : zJ X nL (wdE adr cI cZ cS tL tH) z pc L (.int i :: .ref (adr 11) :: st) σ := by
  obtain ⟨hq, hf⟩ := zGet6_e hf
  have e : zL6f adr 12 i.toNatClampNeg = some (adr (12 + i.toNatClampNeg)) := zL6 adr 12 ⟨i.toNatClampNeg, Nat.not_le.mp fun q => hq (Or.inr q)⟩
  have h0 : zJ X nL (wdE adr cI cZ cS tL tH) z (pc + 1) L (va_rf (zL6f adr 12 i.toNatClampNeg) :: st) σ := by rw [e]; exact kk _ hf
  exact z_aldq B (q0 := 11) (t0 := 2) rfl rfl hq hd h0
theorem fE_acmp (B : zC X nL (wdE adr cI cZ cS tL tH) cc own ret rm) (p q : Fin 6) {a b : Option β} {off : Int} (tgt : Nat) (hd : decode cc pc = .ok (.if_acmp .eq off, 3)) (ht : (pc : Int) + off = (tgt : Int)) (hf : (if p = q then a else b) = some r) (kt : a = some r → zJ X nL (wdE adr cI cZ cS tL tH) z tgt L st σ) (kf : b = some r → zJ X nL (wdE adr cI cZ cS tL tH) z (pc + 3) L st σ) : zJ X nL (wdE adr cI cZ cS tL tH) z pc L (.ref (adr (12 + q.val)) :: .ref (adr (12 + p.val)) :: st) σ := fun H locs ls hl hP hD hS => by
  refine lv_acmp_eq (rx := some (adr (12 + p.val))) (ry := some (adr (12 + q.val))) B.1 B.2.1 hd ht (fun h => ?_) (fun h => ?_)
  · have e : p = q := by
      have h1 := hD.1 _ _ _ _ (wE_o_S (σ := σ) (cI := cI) (cZ := cZ) (cS := cS) (tL := tL) (tH := tH) p) (wE_o_S q) (Option.some.inj h)
      exact Fin.ext (by omega)
    exact kt (zIfp e hf) H locs ls hl hP hD hS
  · have e : ¬ p = q := fun e => h (by rw [e])
    exact kf (zIfn e hf) H locs ls hl hP hD hS
set_option maxRecDepth 20000 in
set_option maxHeartbeats 2000000 in
theorem kw_82 : Cond.fieldLink RX1 9 (TX1 0).1 (TX1 0).2.1 (TX1 0).2.2.1 ∈ zTb := zIn1 27 rfl rfl
theorem fE_g_X1_D_cells (B : zC X nL (wdE adr cI cZ cS tL tH) cc RX1 ret rm) (hd : decode cc pc = .ok (.getfield 9, 3)) (kk : zJ X nL (wdE adr cI cZ cS tL tH) z (pc + 3) L (.ref (adr 26) :: st) σ) : zJ X nL (wdE adr cI cZ cS tL tH) z pc L (.ref (adr 25) :: st) σ := z_get B (k := 0) iX1 rfl wE_o_D (Nat.le_of_ble_eq_true rfl) kw_82 rfl hd kk
set_option maxRecDepth 20000 in
set_option maxHeartbeats 2000000 in
theorem kw_163 : Cond.fieldLink RX4 21 (TX4 2).1 (TX4 2).2.1 (TX4 2).2.2.1 ∈ zTb := zIn1 108 rfl rfl
theorem fE_g_X4_S_stride (B : zC X nL (wdE adr cI cZ cS tL tH) cc RX4 ret rm) (p : Fin 6) {K : Int32 → Option β} (hd : decode cc pc = .ok (.getfield 21, 3)) (hf : zLet (σ (12 + p.val) 2) K = some r) (kk : ∀ v, K v = some r → zJ X nL (wdE adr cI cZ cS tL tH) z (pc + 3) L (.int v :: st) σ) : zJ X nL (wdE adr cI cZ cS tL tH) z pc L (.ref (adr (12 + p.val)) :: st) σ := z_get B (k := 2) iX4 rfl (wE_o_S p) (Nat.le_of_ble_eq_true rfl) kw_163 rfl hd (kk _ hf)
set_option maxRecDepth 20000 in
set_option maxHeartbeats 2000000 in
theorem kw_160 : Cond.fieldLink RX4 18 (TX4 1).1 (TX4 1).2.1 (TX4 1).2.2.1 ∈ zTb := zIn1 105 rfl rfl
theorem fE_g_X4_S_last (B : zC X nL (wdE adr cI cZ cS tL tH) cc RX4 ret rm) (p : Fin 6) {K : Int32 → Option β} (hd : decode cc pc = .ok (.getfield 18, 3)) (hf : zLet (σ (12 + p.val) 1) K = some r) (kk : ∀ v, K v = some r → zJ X nL (wdE adr cI cZ cS tL tH) z (pc + 3) L (.int v :: st) σ) : zJ X nL (wdE adr cI cZ cS tL tH) z pc L (.ref (adr (12 + p.val)) :: st) σ := z_get B (k := 1) iX4 rfl (wE_o_S p) (Nat.le_of_ble_eq_true rfl) kw_160 rfl hd (kk _ hf)
set_option maxRecDepth 20000 in
set_option maxHeartbeats 2000000 in
theorem kw_172 : Cond.fieldLink RX4 30 (TX4 5).1 (TX4 5).2.1 (TX4 5).2.2.1 ∈ zTb := zIn1 117 rfl rfl
theorem fE_g_X4_S_edge (B : zC X nL (wdE adr cI cZ cS tL tH) cc RX4 ret rm) (p : Fin 6) {K : Int32 → Option β} (hd : decode cc pc = .ok (.getfield 30, 3)) (hf : zLet (σ (12 + p.val) 5) K = some r) (kk : ∀ v, K v = some r → zJ X nL (wdE adr cI cZ cS tL tH) z (pc + 3) L (.int v :: st) σ) : zJ X nL (wdE adr cI cZ cS tL tH) z pc L (.ref (adr (12 + p.val)) :: st) σ := z_get B (k := 5) iX4 rfl (wE_o_S p) (Nat.le_of_ble_eq_true rfl) kw_172 rfl hd (kk _ hf)
set_option maxRecDepth 20000 in
set_option maxHeartbeats 2000000 in
theorem kw_156 : Cond.fieldLink RX4 9 (TX4 0).1 (TX4 0).2.1 (TX4 0).2.2.1 ∈ zTb := zIn1 101 rfl rfl
theorem fE_g_X4_S_number (B : zC X nL (wdE adr cI cZ cS tL tH) cc RX4 ret rm) (p : Fin 6) {K : Int32 → Option β} (hd : decode cc pc = .ok (.getfield 9, 3)) (hf : zLet (σ (12 + p.val) 0) K = some r) (kk : ∀ v, K v = some r → zJ X nL (wdE adr cI cZ cS tL tH) z (pc + 3) L (.int v :: st) σ) : zJ X nL (wdE adr cI cZ cS tL tH) z pc L (.ref (adr (12 + p.val)) :: st) σ := z_get B (k := 0) iX4 rfl (wE_o_S p) (Nat.le_of_ble_eq_true rfl) kw_156 rfl hd (kk _ hf)
set_option maxRecDepth 20000 in
set_option maxHeartbeats 2000000 in
theorem kw_166 : Cond.fieldLink RX4 24 (TX4 3).1 (TX4 3).2.1 (TX4 3).2.2.1 ∈ zTb := zIn1 111 rfl rfl
theorem fE_g_X4_S_proof (B : zC X nL (wdE adr cI cZ cS tL tH) cc RX4 ret rm) (p : Fin 6) {K : Int32 → Option β} (hd : decode cc pc = .ok (.getfield 24, 3)) (hf : zLet (σ (12 + p.val) 3) K = some r) (kk : ∀ v, K v = some r → zJ X nL (wdE adr cI cZ cS tL tH) z (pc + 3) L (.int v :: st) σ) : zJ X nL (wdE adr cI cZ cS tL tH) z pc L (.ref (adr (12 + p.val)) :: st) σ := z_get B (k := 3) iX4 rfl (wE_o_S p) (Nat.le_of_ble_eq_true rfl) kw_166 rfl hd (kk _ hf)
set_option maxRecDepth 20000 in
set_option maxHeartbeats 2000000 in
theorem kw_169 : Cond.fieldLink RX4 27 (TX4 4).1 (TX4 4).2.1 (TX4 4).2.2.1 ∈ zTb := zIn1 114 rfl rfl
theorem fE_g_X4_S_window (B : zC X nL (wdE adr cI cZ cS tL tH) cc RX4 ret rm) (p : Fin 6) {K : Int32 → Option β} (hd : decode cc pc = .ok (.getfield 27, 3)) (hf : zLet (σ (12 + p.val) 4) K = some r) (kk : ∀ v, K v = some r → zJ X nL (wdE adr cI cZ cS tL tH) z (pc + 3) L (.int v :: st) σ) : zJ X nL (wdE adr cI cZ cS tL tH) z pc L (.ref (adr (12 + p.val)) :: st) σ := z_get B (k := 4) iX4 rfl (wE_o_S p) (Nat.le_of_ble_eq_true rfl) kw_169 rfl hd (kk _ hf)
set_option maxRecDepth 20000 in
set_option maxHeartbeats 2000000 in
theorem kw_174 : Cond.fieldLink RX4 15 (TX4 6).1 (TX4 6).2.1 (TX4 6).2.2.1 ∈ zTb := zIn1 119 rfl rfl
theorem fE_g_X4_S_marker (B : zC X nL (wdE adr cI cZ cS tL tH) cc RX4 ret rm) (p : Fin 6) {K : Int32 → Option β} (hd : decode cc pc = .ok (.getfield 15, 3)) (hf : zLet (σ (12 + p.val) 6) K = some r) (kk : ∀ v, K v = some r → zJ X nL (wdE adr cI cZ cS tL tH) z (pc + 3) L (.int v :: st) σ) : zJ X nL (wdE adr cI cZ cS tL tH) z pc L (.ref (adr (12 + p.val)) :: st) σ := z_get B (k := 6) iX4 rfl (wE_o_S p) (Nat.le_of_ble_eq_true rfl) kw_174 rfl hd (kk _ hf)
set_option maxRecDepth 20000 in
set_option maxHeartbeats 2000000 in
theorem kw_177 : Cond.fieldLink RX4 33 (TX4 7).1 (TX4 7).2.1 (TX4 7).2.2.1 ∈ zTb := zIn1 122 rfl rfl
theorem fE_g_X4_S_used (B : zC X nL (wdE adr cI cZ cS tL tH) cc RX4 ret rm) (p : Fin 6) {K : Int32 → Option β} (hd : decode cc pc = .ok (.getfield 33, 3)) (hf : zLet (σ (12 + p.val) 7) K = some r) (kk : ∀ v, K v = some r → zJ X nL (wdE adr cI cZ cS tL tH) z (pc + 3) L (.int v :: st) σ) : zJ X nL (wdE adr cI cZ cS tL tH) z pc L (.ref (adr (12 + p.val)) :: st) σ := z_get B (k := 7) iX4 rfl (wE_o_S p) (Nat.le_of_ble_eq_true rfl) kw_177 rfl hd (kk _ hf)
set_option maxRecDepth 20000 in
set_option maxHeartbeats 2000000 in
theorem kw_179 : Cond.fieldLink RX4 36 (TX4 8).1 (TX4 8).2.1 (TX4 8).2.2.1 ∈ zTb := zIn1 124 rfl rfl
theorem fE_g_X4_S_fetched (B : zC X nL (wdE adr cI cZ cS tL tH) cc RX4 ret rm) (p : Fin 6) {K : Int32 → Option β} (hd : decode cc pc = .ok (.getfield 36, 3)) (hf : zLet (σ (12 + p.val) 8) K = some r) (kk : ∀ v, K v = some r → zJ X nL (wdE adr cI cZ cS tL tH) z (pc + 3) L (.int v :: st) σ) : zJ X nL (wdE adr cI cZ cS tL tH) z pc L (.ref (adr (12 + p.val)) :: st) σ := z_get B (k := 8) iX4 rfl (wE_o_S p) (Nat.le_of_ble_eq_true rfl) kw_179 rfl hd (kk _ hf)
set_option maxRecDepth 20000 in
set_option maxHeartbeats 2000000 in
theorem kw_181 : Cond.fieldLink RX4 39 (TX4 9).1 (TX4 9).2.1 (TX4 9).2.2.1 ∈ zTb := zIn1 126 rfl rfl
theorem fE_g_X4_S_hits (B : zC X nL (wdE adr cI cZ cS tL tH) cc RX4 ret rm) (p : Fin 6) {K : Int32 → Option β} (hd : decode cc pc = .ok (.getfield 39, 3)) (hf : zLet (σ (12 + p.val) 9) K = some r) (kk : ∀ v, K v = some r → zJ X nL (wdE adr cI cZ cS tL tH) z (pc + 3) L (.int v :: st) σ) : zJ X nL (wdE adr cI cZ cS tL tH) z pc L (.ref (adr (12 + p.val)) :: st) σ := z_get B (k := 9) iX4 rfl (wE_o_S p) (Nat.le_of_ble_eq_true rfl) kw_181 rfl hd (kk _ hf)
set_option maxRecDepth 20000 in
set_option maxHeartbeats 2000000 in
theorem kw_183 : Cond.fieldLink RX4 42 (TX4 10).1 (TX4 10).2.1 (TX4 10).2.2.1 ∈ zTb := zIn1 128 rfl rfl
theorem fE_g_X4_S_wasted (B : zC X nL (wdE adr cI cZ cS tL tH) cc RX4 ret rm) (p : Fin 6) {K : Int32 → Option β} (hd : decode cc pc = .ok (.getfield 42, 3)) (hf : zLet (σ (12 + p.val) 10) K = some r) (kk : ∀ v, K v = some r → zJ X nL (wdE adr cI cZ cS tL tH) z (pc + 3) L (.int v :: st) σ) : zJ X nL (wdE adr cI cZ cS tL tH) z pc L (.ref (adr (12 + p.val)) :: st) σ := z_get B (k := 10) iX4 rfl (wE_o_S p) (Nat.le_of_ble_eq_true rfl) kw_183 rfl hd (kk _ hf)
set_option maxRecDepth 20000 in
set_option maxHeartbeats 2000000 in
theorem kw_218 : Cond.fieldLink RX3 25 (TX3 4).1 (TX3 4).2.1 (TX3 4).2.2.1 ∈ zTb := zIn1 163 rfl rfl
theorem fE_g_X3_H_length (B : zC X nL (wdE adr cI cZ cS tL tH) cc RX3 ret rm) {K : Int32 → Option β} (hd : decode cc pc = .ok (.getfield 25, 3)) (hf : zLet (σ 18 4) K = some r) (kk : ∀ v, K v = some r → zJ X nL (wdE adr cI cZ cS tL tH) z (pc + 3) L (.int v :: st) σ) : zJ X nL (wdE adr cI cZ cS tL tH) z pc L (.ref (adr 18) :: st) σ := z_get B (k := 4) iX3 rfl wE_o_H (Nat.le_of_ble_eq_true rfl) kw_218 rfl hd (kk _ hf)
set_option maxRecDepth 20000 in
set_option maxHeartbeats 2000000 in
theorem kw_217 : Cond.fieldLink RX3 21 (TX3 3).1 (TX3 3).2.1 (TX3 3).2.2.1 ∈ zTb := zIn1 162 rfl rfl
theorem fE_g_X3_H_eldest (B : zC X nL (wdE adr cI cZ cS tL tH) cc RX3 ret rm) {K : Int32 → Option β} (hd : decode cc pc = .ok (.getfield 21, 3)) (hf : zLet (σ 18 3) K = some r) (kk : ∀ v, K v = some r → zJ X nL (wdE adr cI cZ cS tL tH) z (pc + 3) L (.int v :: st) σ) : zJ X nL (wdE adr cI cZ cS tL tH) z pc L (.ref (adr 18) :: st) σ := z_get B (k := 3) iX3 rfl wE_o_H (Nat.le_of_ble_eq_true rfl) kw_217 rfl hd (kk _ hf)
set_option maxRecDepth 20000 in
set_option maxHeartbeats 2000000 in
theorem kw_214 : Cond.fieldLink RX3 9 (TX3 0).1 (TX3 0).2.1 (TX3 0).2.2.1 ∈ zTb := zIn1 159 rfl rfl
theorem fE_g_X3_H_blocks (B : zC X nL (wdE adr cI cZ cS tL tH) cc RX3 ret rm) (hd : decode cc pc = .ok (.getfield 9, 3)) (kk : zJ X nL (wdE adr cI cZ cS tL tH) z (pc + 3) L (.ref (adr 19) :: st) σ) : zJ X nL (wdE adr cI cZ cS tL tH) z pc L (.ref (adr 18) :: st) σ := z_get B (k := 0) iX3 rfl wE_o_H (Nat.le_of_ble_eq_true rfl) kw_214 rfl hd kk
set_option maxRecDepth 20000 in
set_option maxHeartbeats 2000000 in
theorem kw_215 : Cond.fieldLink RX3 15 (TX3 1).1 (TX3 1).2.1 (TX3 1).2.2.1 ∈ zTb := zIn1 160 rfl rfl
theorem fE_g_X3_H_numbers (B : zC X nL (wdE adr cI cZ cS tL tH) cc RX3 ret rm) (hd : decode cc pc = .ok (.getfield 15, 3)) (kk : zJ X nL (wdE adr cI cZ cS tL tH) z (pc + 3) L (.ref (adr 20) :: st) σ) : zJ X nL (wdE adr cI cZ cS tL tH) z pc L (.ref (adr 18) :: st) σ := z_get B (k := 1) iX3 rfl wE_o_H (Nat.le_of_ble_eq_true rfl) kw_215 rfl hd kk
set_option maxRecDepth 20000 in
set_option maxHeartbeats 2000000 in
theorem kw_216 : Cond.fieldLink RX3 18 (TX3 2).1 (TX3 2).2.1 (TX3 2).2.2.1 ∈ zTb := zIn1 161 rfl rfl
theorem fE_g_X3_H_kinds (B : zC X nL (wdE adr cI cZ cS tL tH) cc RX3 ret rm) (hd : decode cc pc = .ok (.getfield 18, 3)) (kk : zJ X nL (wdE adr cI cZ cS tL tH) z (pc + 3) L (.ref (adr 21) :: st) σ) : zJ X nL (wdE adr cI cZ cS tL tH) z pc L (.ref (adr 18) :: st) σ := z_get B (k := 2) iX3 rfl wE_o_H (Nat.le_of_ble_eq_true rfl) kw_216 rfl hd kk
set_option maxRecDepth 20000 in
set_option maxHeartbeats 2000000 in
theorem kw_241 : Cond.fieldLink RX6 19 (TX6 2).1 (TX6 2).2.1 (TX6 2).2.2.1 ∈ zTb := zIn1 186 rfl rfl
theorem fE_g_X6_G_length (B : zC X nL (wdE adr cI cZ cS tL tH) cc RX6 ret rm) {K : Int32 → Option β} (hd : decode cc pc = .ok (.getfield 19, 3)) (hf : zLet (σ 22 2) K = some r) (kk : ∀ v, K v = some r → zJ X nL (wdE adr cI cZ cS tL tH) z (pc + 3) L (.int v :: st) σ) : zJ X nL (wdE adr cI cZ cS tL tH) z pc L (.ref (adr 22) :: st) σ := z_get B (k := 2) iX6 rfl wE_o_G (Nat.le_of_ble_eq_true rfl) kw_241 rfl hd (kk _ hf)
set_option maxRecDepth 20000 in
set_option maxHeartbeats 2000000 in
theorem kw_240 : Cond.fieldLink RX6 15 (TX6 1).1 (TX6 1).2.1 (TX6 1).2.2.1 ∈ zTb := zIn1 185 rfl rfl
theorem fE_g_X6_G_next (B : zC X nL (wdE adr cI cZ cS tL tH) cc RX6 ret rm) {K : Int32 → Option β} (hd : decode cc pc = .ok (.getfield 15, 3)) (hf : zLet (σ 22 1) K = some r) (kk : ∀ v, K v = some r → zJ X nL (wdE adr cI cZ cS tL tH) z (pc + 3) L (.int v :: st) σ) : zJ X nL (wdE adr cI cZ cS tL tH) z pc L (.ref (adr 22) :: st) σ := z_get B (k := 1) iX6 rfl wE_o_G (Nat.le_of_ble_eq_true rfl) kw_240 rfl hd (kk _ hf)
set_option maxRecDepth 20000 in
set_option maxHeartbeats 2000000 in
theorem kw_239 : Cond.fieldLink RX6 9 (TX6 0).1 (TX6 0).2.1 (TX6 0).2.2.1 ∈ zTb := zIn1 184 rfl rfl
theorem fE_g_X6_G_cells (B : zC X nL (wdE adr cI cZ cS tL tH) cc RX6 ret rm) (hd : decode cc pc = .ok (.getfield 9, 3)) (kk : zJ X nL (wdE adr cI cZ cS tL tH) z (pc + 3) L (.ref (adr 23) :: st) σ) : zJ X nL (wdE adr cI cZ cS tL tH) z pc L (.ref (adr 22) :: st) σ := z_get B (k := 0) iX6 rfl wE_o_G (Nat.le_of_ble_eq_true rfl) kw_239 rfl hd kk
set_option maxRecDepth 20000 in
set_option maxHeartbeats 2000000 in
theorem kw_120 : Cond.fieldLink RX0 31 (TX0 6).1 (TX0 6).2.1 (TX0 6).2.2.1 ∈ zTb := zIn1 65 rfl rfl
theorem fE_g_X0_C_where (B : zC X nL (wdE adr cI cZ cS tL tH) cc RX0 ret rm) (hd : decode cc pc = .ok (.getfield 31, 3)) (kk : zJ X nL (wdE adr cI cZ cS tL tH) z (pc + 3) L (.ref (adr 10) :: st) σ) : zJ X nL (wdE adr cI cZ cS tL tH) z pc L (.ref (adr 3) :: st) σ := z_get B (k := 6) iX0 rfl wE_o_C (Nat.le_of_ble_eq_true rfl) kw_120 rfl hd kk
set_option maxRecDepth 20000 in
set_option maxHeartbeats 2000000 in
theorem kw_121 : Cond.fieldLink RX0 34 (TX0 7).1 (TX0 7).2.1 (TX0 7).2.2.1 ∈ zTb := zIn1 66 rfl rfl
theorem fE_g_X0_C_size (B : zC X nL (wdE adr cI cZ cS tL tH) cc RX0 ret rm) {K : Int32 → Option β} (hd : decode cc pc = .ok (.getfield 34, 3)) (hf : zLet (σ 3 7) K = some r) (kk : ∀ v, K v = some r → zJ X nL (wdE adr cI cZ cS tL tH) z (pc + 3) L (.int v :: st) σ) : zJ X nL (wdE adr cI cZ cS tL tH) z pc L (.ref (adr 3) :: st) σ := z_get B (k := 7) iX0 rfl wE_o_C (Nat.le_of_ble_eq_true rfl) kw_121 rfl hd (kk _ hf)
set_option maxRecDepth 20000 in
set_option maxHeartbeats 2000000 in
theorem kw_118 : Cond.fieldLink RX0 27 (TX0 5).1 (TX0 5).2.1 (TX0 5).2.2.1 ∈ zTb := zIn1 63 rfl rfl
theorem fE_g_X0_C_waiting (B : zC X nL (wdE adr cI cZ cS tL tH) cc RX0 ret rm) (hd : decode cc pc = .ok (.getfield 27, 3)) (kk : zJ X nL (wdE adr cI cZ cS tL tH) z (pc + 3) L (.ref (adr 9) :: st) σ) : zJ X nL (wdE adr cI cZ cS tL tH) z pc L (.ref (adr 3) :: st) σ := z_get B (k := 5) iX0 rfl wE_o_C (Nat.le_of_ble_eq_true rfl) kw_118 rfl hd kk
set_option maxRecDepth 20000 in
set_option maxHeartbeats 2000000 in
theorem kw_114 : Cond.fieldLink RX0 21 (TX0 3).1 (TX0 3).2.1 (TX0 3).2.2.1 ∈ zTb := zIn1 59 rfl rfl
theorem fE_g_X0_C_owners (B : zC X nL (wdE adr cI cZ cS tL tH) cc RX0 ret rm) (hd : decode cc pc = .ok (.getfield 21, 3)) (kk : zJ X nL (wdE adr cI cZ cS tL tH) z (pc + 3) L (.ref (adr 7) :: st) σ) : zJ X nL (wdE adr cI cZ cS tL tH) z pc L (.ref (adr 3) :: st) σ := z_get B (k := 3) iX0 rfl wE_o_C (Nat.le_of_ble_eq_true rfl) kw_114 rfl hd kk
set_option maxRecDepth 20000 in
set_option maxHeartbeats 2000000 in
theorem kw_109 : Cond.fieldLink RX0 9 (TX0 0).1 (TX0 0).2.1 (TX0 0).2.2.1 ∈ zTb := zIn1 54 rfl rfl
theorem fE_g_X0_C_blocks (B : zC X nL (wdE adr cI cZ cS tL tH) cc RX0 ret rm) (hd : decode cc pc = .ok (.getfield 9, 3)) (kk : zJ X nL (wdE adr cI cZ cS tL tH) z (pc + 3) L (.ref (adr 4) :: st) σ) : zJ X nL (wdE adr cI cZ cS tL tH) z pc L (.ref (adr 3) :: st) σ := z_get B (k := 0) iX0 rfl wE_o_C (Nat.le_of_ble_eq_true rfl) kw_109 rfl hd kk
set_option maxRecDepth 20000 in
set_option maxHeartbeats 2000000 in
theorem kw_159 : Cond.fieldLink RX0 71 (TX4 0).1 (TX4 0).2.1 (TX4 0).2.2.1 ∈ zTb := zIn1 104 rfl rfl
theorem fE_g_X0_S_number (B : zC X nL (wdE adr cI cZ cS tL tH) cc RX0 ret rm) (p : Fin 6) {K : Int32 → Option β} (hd : decode cc pc = .ok (.getfield 71, 3)) (hf : zLet (σ (12 + p.val) 0) K = some r) (kk : ∀ v, K v = some r → zJ X nL (wdE adr cI cZ cS tL tH) z (pc + 3) L (.int v :: st) σ) : zJ X nL (wdE adr cI cZ cS tL tH) z pc L (.ref (adr (12 + p.val)) :: st) σ := z_get B (k := 0) iX4 rfl (wE_o_S p) (Nat.le_of_ble_eq_true rfl) kw_159 rfl hd (kk _ hf)
set_option maxRecDepth 20000 in
set_option maxHeartbeats 2000000 in
theorem kw_110 : Cond.fieldLink RX0 15 (TX0 1).1 (TX0 1).2.1 (TX0 1).2.2.1 ∈ zTb := zIn1 55 rfl rfl
theorem fE_g_X0_C_stamps (B : zC X nL (wdE adr cI cZ cS tL tH) cc RX0 ret rm) (hd : decode cc pc = .ok (.getfield 15, 3)) (kk : zJ X nL (wdE adr cI cZ cS tL tH) z (pc + 3) L (.ref (adr 5) :: st) σ) : zJ X nL (wdE adr cI cZ cS tL tH) z pc L (.ref (adr 3) :: st) σ := z_get B (k := 1) iX0 rfl wE_o_C (Nat.le_of_ble_eq_true rfl) kw_110 rfl hd kk
set_option maxRecDepth 20000 in
set_option maxHeartbeats 2000000 in
theorem kw_117 : Cond.fieldLink RX0 24 (TX0 4).1 (TX0 4).2.1 (TX0 4).2.2.1 ∈ zTb := zIn1 62 rfl rfl
theorem fE_g_X0_C_fetchedAt (B : zC X nL (wdE adr cI cZ cS tL tH) cc RX0 ret rm) (hd : decode cc pc = .ok (.getfield 24, 3)) (kk : zJ X nL (wdE adr cI cZ cS tL tH) z (pc + 3) L (.ref (adr 8) :: st) σ) : zJ X nL (wdE adr cI cZ cS tL tH) z pc L (.ref (adr 3) :: st) σ := z_get B (k := 4) iX0 rfl wE_o_C (Nat.le_of_ble_eq_true rfl) kw_117 rfl hd kk
set_option maxRecDepth 20000 in
set_option maxHeartbeats 2000000 in
theorem kw_112 : Cond.fieldLink RX0 18 (TX0 2).1 (TX0 2).2.1 (TX0 2).2.2.1 ∈ zTb := zIn1 57 rfl rfl
theorem fE_g_X0_C_touched (B : zC X nL (wdE adr cI cZ cS tL tH) cc RX0 ret rm) (hd : decode cc pc = .ok (.getfield 18, 3)) (kk : zJ X nL (wdE adr cI cZ cS tL tH) z (pc + 3) L (.ref (adr 6) :: st) σ) : zJ X nL (wdE adr cI cZ cS tL tH) z pc L (.ref (adr 3) :: st) σ := z_get B (k := 2) iX0 rfl wE_o_C (Nat.le_of_ble_eq_true rfl) kw_112 rfl hd kk
set_option maxRecDepth 20000 in
set_option maxHeartbeats 2000000 in
theorem kw_123 : Cond.fieldLink RX0 41 (TX0 8).1 (TX0 8).2.1 (TX0 8).2.2.1 ∈ zTb := zIn1 68 rfl rfl
theorem fE_g_X0_C_waitingSize (B : zC X nL (wdE adr cI cZ cS tL tH) cc RX0 ret rm) {K : Int32 → Option β} (hd : decode cc pc = .ok (.getfield 41, 3)) (hf : zLet (σ 3 8) K = some r) (kk : ∀ v, K v = some r → zJ X nL (wdE adr cI cZ cS tL tH) z (pc + 3) L (.int v :: st) σ) : zJ X nL (wdE adr cI cZ cS tL tH) z pc L (.ref (adr 3) :: st) σ := z_get B (k := 8) iX0 rfl wE_o_C (Nat.le_of_ble_eq_true rfl) kw_123 rfl hd (kk _ hf)
set_option maxRecDepth 20000 in
set_option maxHeartbeats 2000000 in
theorem kw_251 : Cond.fieldLink RX2 15 (TX2 1).1 (TX2 1).2.1 (TX2 1).2.2.1 ∈ zTb := zIn1 196 rfl rfl
theorem fE_g_X2_E_terms (B : zC X nL (wdE adr cI cZ cS tL tH) cc RX2 ret rm) (hd : decode cc pc = .ok (.getfield 15, 3)) (kk : zJ X nL (wdE adr cI cZ cS tL tH) z (pc + 3) L (.ref (adr 1) :: st) σ) : zJ X nL (wdE adr cI cZ cS tL tH) z pc L (.ref (adr 0) :: st) σ := z_get B (k := 1) iX2 rfl wE_o_E (Nat.le_of_ble_eq_true rfl) kw_251 rfl hd kk
set_option maxRecDepth 20000 in
set_option maxHeartbeats 2000000 in
theorem kw_256 : Cond.fieldLink RX2 40 (TX2 4).1 (TX2 4).2.1 (TX2 4).2.2.1 ∈ zTb := zIn1 201 rfl rfl
theorem fE_g_X2_E_streams (B : zC X nL (wdE adr cI cZ cS tL tH) cc RX2 ret rm) (hd : decode cc pc = .ok (.getfield 40, 3)) (kk : zJ X nL (wdE adr cI cZ cS tL tH) z (pc + 3) L (.ref (adr 11) :: st) σ) : zJ X nL (wdE adr cI cZ cS tL tH) z pc L (.ref (adr 0) :: st) σ := z_get B (k := 4) iX2 rfl wE_o_E (Nat.le_of_ble_eq_true rfl) kw_256 rfl hd kk
set_option maxRecDepth 20000 in
set_option maxHeartbeats 2000000 in
theorem kw_157 : Cond.fieldLink RX2 70 (TX4 0).1 (TX4 0).2.1 (TX4 0).2.2.1 ∈ zTb := zIn1 102 rfl rfl
theorem fE_g_X2_S_number (B : zC X nL (wdE adr cI cZ cS tL tH) cc RX2 ret rm) (p : Fin 6) {K : Int32 → Option β} (hd : decode cc pc = .ok (.getfield 70, 3)) (hf : zLet (σ (12 + p.val) 0) K = some r) (kk : ∀ v, K v = some r → zJ X nL (wdE adr cI cZ cS tL tH) z (pc + 3) L (.int v :: st) σ) : zJ X nL (wdE adr cI cZ cS tL tH) z pc L (.ref (adr (12 + p.val)) :: st) σ := z_get B (k := 0) iX4 rfl (wE_o_S p) (Nat.le_of_ble_eq_true rfl) kw_157 rfl hd (kk _ hf)
set_option maxRecDepth 20000 in
set_option maxHeartbeats 2000000 in
theorem kw_258 : Cond.fieldLink RX2 48 (TX2 5).1 (TX2 5).2.1 (TX2 5).2.2.1 ∈ zTb := zIn1 203 rfl rfl
theorem fE_g_X2_E_history (B : zC X nL (wdE adr cI cZ cS tL tH) cc RX2 ret rm) (hd : decode cc pc = .ok (.getfield 48, 3)) (kk : zJ X nL (wdE adr cI cZ cS tL tH) z (pc + 3) L (.ref (adr 18) :: st) σ) : zJ X nL (wdE adr cI cZ cS tL tH) z pc L (.ref (adr 0) :: st) σ := z_get B (k := 5) iX2 rfl wE_o_E (Nat.le_of_ble_eq_true rfl) kw_258 rfl hd kk
set_option maxRecDepth 20000 in
set_option maxHeartbeats 2000000 in
theorem kw_259 : Cond.fieldLink RX2 55 (TX2 6).1 (TX2 6).2.1 (TX2 6).2.2.1 ∈ zTb := zIn1 204 rfl rfl
theorem fE_g_X2_E_log (B : zC X nL (wdE adr cI cZ cS tL tH) cc RX2 ret rm) (hd : decode cc pc = .ok (.getfield 55, 3)) (kk : zJ X nL (wdE adr cI cZ cS tL tH) z (pc + 3) L (.ref (adr 22) :: st) σ) : zJ X nL (wdE adr cI cZ cS tL tH) z pc L (.ref (adr 0) :: st) σ := z_get B (k := 6) iX2 rfl wE_o_E (Nat.le_of_ble_eq_true rfl) kw_259 rfl hd kk
set_option maxRecDepth 20000 in
set_option maxHeartbeats 2000000 in
theorem kw_252 : Cond.fieldLink RX2 28 (TX2 2).1 (TX2 2).2.1 (TX2 2).2.2.1 ∈ zTb := zIn1 197 rfl rfl
theorem fE_g_X2_E_counts (B : zC X nL (wdE adr cI cZ cS tL tH) cc RX2 ret rm) (hd : decode cc pc = .ok (.getfield 28, 3)) (kk : zJ X nL (wdE adr cI cZ cS tL tH) z (pc + 3) L (.ref (adr 2) :: st) σ) : zJ X nL (wdE adr cI cZ cS tL tH) z pc L (.ref (adr 0) :: st) σ := z_get B (k := 2) iX2 rfl wE_o_E (Nat.le_of_ble_eq_true rfl) kw_252 rfl hd kk
set_option maxRecDepth 20000 in
set_option maxHeartbeats 2000000 in
theorem kw_254 : Cond.fieldLink RX2 34 (TX2 3).1 (TX2 3).2.1 (TX2 3).2.2.1 ∈ zTb := zIn1 199 rfl rfl
theorem fE_g_X2_E_cache (B : zC X nL (wdE adr cI cZ cS tL tH) cc RX2 ret rm) (hd : decode cc pc = .ok (.getfield 34, 3)) (kk : zJ X nL (wdE adr cI cZ cS tL tH) z (pc + 3) L (.ref (adr 3) :: st) σ) : zJ X nL (wdE adr cI cZ cS tL tH) z pc L (.ref (adr 0) :: st) σ := z_get B (k := 3) iX2 rfl wE_o_E (Nat.le_of_ble_eq_true rfl) kw_254 rfl hd kk
set_option maxRecDepth 20000 in
set_option maxHeartbeats 2000000 in
theorem kw_126 : Cond.fieldLink RX2 142 (TX0 9).1 (TX0 9).2.1 (TX0 9).2.2.1 ∈ zTb := zIn1 71 rfl rfl
theorem fE_g_X2_C_stamp (B : zC X nL (wdE adr cI cZ cS tL tH) cc RX2 ret rm) {K : Int32 → Option β} (hd : decode cc pc = .ok (.getfield 142, 3)) (hf : zLet (σ 3 9) K = some r) (kk : ∀ v, K v = some r → zJ X nL (wdE adr cI cZ cS tL tH) z (pc + 3) L (.int v :: st) σ) : zJ X nL (wdE adr cI cZ cS tL tH) z pc L (.ref (adr 3) :: st) σ := z_get B (k := 9) iX0 rfl wE_o_C (Nat.le_of_ble_eq_true rfl) kw_126 rfl hd (kk _ hf)
set_option maxRecDepth 20000 in
set_option maxHeartbeats 2000000 in
theorem kw_165 : Cond.fieldLink RX2 227 (TX4 2).1 (TX4 2).2.1 (TX4 2).2.2.1 ∈ zTb := zIn1 110 rfl rfl
theorem fE_g_X2_S_stride (B : zC X nL (wdE adr cI cZ cS tL tH) cc RX2 ret rm) (p : Fin 6) {K : Int32 → Option β} (hd : decode cc pc = .ok (.getfield 227, 3)) (hf : zLet (σ (12 + p.val) 2) K = some r) (kk : ∀ v, K v = some r → zJ X nL (wdE adr cI cZ cS tL tH) z (pc + 3) L (.int v :: st) σ) : zJ X nL (wdE adr cI cZ cS tL tH) z pc L (.ref (adr (12 + p.val)) :: st) σ := z_get B (k := 2) iX4 rfl (wE_o_S p) (Nat.le_of_ble_eq_true rfl) kw_165 rfl hd (kk _ hf)
set_option maxRecDepth 20000 in
set_option maxHeartbeats 2000000 in
theorem kw_161 : Cond.fieldLink RX2 230 (TX4 1).1 (TX4 1).2.1 (TX4 1).2.2.1 ∈ zTb := zIn1 106 rfl rfl
theorem fE_g_X2_S_last (B : zC X nL (wdE adr cI cZ cS tL tH) cc RX2 ret rm) (p : Fin 6) {K : Int32 → Option β} (hd : decode cc pc = .ok (.getfield 230, 3)) (hf : zLet (σ (12 + p.val) 1) K = some r) (kk : ∀ v, K v = some r → zJ X nL (wdE adr cI cZ cS tL tH) z (pc + 3) L (.int v :: st) σ) : zJ X nL (wdE adr cI cZ cS tL tH) z pc L (.ref (adr (12 + p.val)) :: st) σ := z_get B (k := 1) iX4 rfl (wE_o_S p) (Nat.le_of_ble_eq_true rfl) kw_161 rfl hd (kk _ hf)
set_option maxRecDepth 20000 in
set_option maxHeartbeats 2000000 in
theorem kw_170 : Cond.fieldLink RX2 183 (TX4 4).1 (TX4 4).2.1 (TX4 4).2.2.1 ∈ zTb := zIn1 115 rfl rfl
theorem fE_g_X2_S_window (B : zC X nL (wdE adr cI cZ cS tL tH) cc RX2 ret rm) (p : Fin 6) {K : Int32 → Option β} (hd : decode cc pc = .ok (.getfield 183, 3)) (hf : zLet (σ (12 + p.val) 4) K = some r) (kk : ∀ v, K v = some r → zJ X nL (wdE adr cI cZ cS tL tH) z (pc + 3) L (.int v :: st) σ) : zJ X nL (wdE adr cI cZ cS tL tH) z pc L (.ref (adr (12 + p.val)) :: st) σ := z_get B (k := 4) iX4 rfl (wE_o_S p) (Nat.le_of_ble_eq_true rfl) kw_170 rfl hd (kk _ hf)
set_option maxRecDepth 20000 in
set_option maxHeartbeats 2000000 in
theorem kw_175 : Cond.fieldLink RX2 245 (TX4 6).1 (TX4 6).2.1 (TX4 6).2.2.1 ∈ zTb := zIn1 120 rfl rfl
theorem fE_g_X2_S_marker (B : zC X nL (wdE adr cI cZ cS tL tH) cc RX2 ret rm) (p : Fin 6) {K : Int32 → Option β} (hd : decode cc pc = .ok (.getfield 245, 3)) (hf : zLet (σ (12 + p.val) 6) K = some r) (kk : ∀ v, K v = some r → zJ X nL (wdE adr cI cZ cS tL tH) z (pc + 3) L (.int v :: st) σ) : zJ X nL (wdE adr cI cZ cS tL tH) z pc L (.ref (adr (12 + p.val)) :: st) σ := z_get B (k := 6) iX4 rfl (wE_o_S p) (Nat.le_of_ble_eq_true rfl) kw_175 rfl hd (kk _ hf)
set_option maxRecDepth 20000 in
set_option maxHeartbeats 2000000 in
theorem kw_167 : Cond.fieldLink RX2 239 (TX4 3).1 (TX4 3).2.1 (TX4 3).2.2.1 ∈ zTb := zIn1 112 rfl rfl
theorem fE_g_X2_S_proof (B : zC X nL (wdE adr cI cZ cS tL tH) cc RX2 ret rm) (p : Fin 6) {K : Int32 → Option β} (hd : decode cc pc = .ok (.getfield 239, 3)) (hf : zLet (σ (12 + p.val) 3) K = some r) (kk : ∀ v, K v = some r → zJ X nL (wdE adr cI cZ cS tL tH) z (pc + 3) L (.int v :: st) σ) : zJ X nL (wdE adr cI cZ cS tL tH) z pc L (.ref (adr (12 + p.val)) :: st) σ := z_get B (k := 3) iX4 rfl (wE_o_S p) (Nat.le_of_ble_eq_true rfl) kw_167 rfl hd (kk _ hf)
set_option maxRecDepth 20000 in
set_option maxHeartbeats 2000000 in
theorem kw_173 : Cond.fieldLink RX2 242 (TX4 5).1 (TX4 5).2.1 (TX4 5).2.2.1 ∈ zTb := zIn1 118 rfl rfl
theorem fE_g_X2_S_edge (B : zC X nL (wdE adr cI cZ cS tL tH) cc RX2 ret rm) (p : Fin 6) {K : Int32 → Option β} (hd : decode cc pc = .ok (.getfield 242, 3)) (hf : zLet (σ (12 + p.val) 5) K = some r) (kk : ∀ v, K v = some r → zJ X nL (wdE adr cI cZ cS tL tH) z (pc + 3) L (.int v :: st) σ) : zJ X nL (wdE adr cI cZ cS tL tH) z pc L (.ref (adr (12 + p.val)) :: st) σ := z_get B (k := 5) iX4 rfl (wE_o_S p) (Nat.le_of_ble_eq_true rfl) kw_173 rfl hd (kk _ hf)
set_option maxRecDepth 20000 in
set_option maxHeartbeats 2000000 in
theorem kw_125 : Cond.fieldLink RX0 38 (TX0 9).1 (TX0 9).2.1 (TX0 9).2.2.1 ∈ zTb := zIn1 70 rfl rfl
theorem fE_g_X0_C_stamp (B : zC X nL (wdE adr cI cZ cS tL tH) cc RX0 ret rm) {K : Int32 → Option β} (hd : decode cc pc = .ok (.getfield 38, 3)) (hf : zLet (σ 3 9) K = some r) (kk : ∀ v, K v = some r → zJ X nL (wdE adr cI cZ cS tL tH) z (pc + 3) L (.int v :: st) σ) : zJ X nL (wdE adr cI cZ cS tL tH) z pc L (.ref (adr 3) :: st) σ := z_get B (k := 9) iX0 rfl wE_o_C (Nat.le_of_ble_eq_true rfl) kw_125 rfl hd (kk _ hf)
set_option maxRecDepth 20000 in
set_option maxHeartbeats 2000000 in
theorem kw_180 : Cond.fieldLink RX2 261 (TX4 8).1 (TX4 8).2.1 (TX4 8).2.2.1 ∈ zTb := zIn1 125 rfl rfl
theorem fE_g_X2_S_fetched (B : zC X nL (wdE adr cI cZ cS tL tH) cc RX2 ret rm) (p : Fin 6) {K : Int32 → Option β} (hd : decode cc pc = .ok (.getfield 261, 3)) (hf : zLet (σ (12 + p.val) 8) K = some r) (kk : ∀ v, K v = some r → zJ X nL (wdE adr cI cZ cS tL tH) z (pc + 3) L (.int v :: st) σ) : zJ X nL (wdE adr cI cZ cS tL tH) z pc L (.ref (adr (12 + p.val)) :: st) σ := z_get B (k := 8) iX4 rfl (wE_o_S p) (Nat.le_of_ble_eq_true rfl) kw_180 rfl hd (kk _ hf)
set_option maxRecDepth 20000 in
set_option maxHeartbeats 2000000 in
theorem kw_262 : Cond.fieldLink RX2 87 (TX2 8).1 (TX2 8).2.1 (TX2 8).2.2.1 ∈ zTb := zIn1 207 rfl rfl
theorem fE_g_X2_E_plannedSize (B : zC X nL (wdE adr cI cZ cS tL tH) cc RX2 ret rm) {K : Int32 → Option β} (hd : decode cc pc = .ok (.getfield 87, 3)) (hf : zLet (σ 0 8) K = some r) (kk : ∀ v, K v = some r → zJ X nL (wdE adr cI cZ cS tL tH) z (pc + 3) L (.int v :: st) σ) : zJ X nL (wdE adr cI cZ cS tL tH) z pc L (.ref (adr 0) :: st) σ := z_get B (k := 8) iX2 rfl wE_o_E (Nat.le_of_ble_eq_true rfl) kw_262 rfl hd (kk _ hf)
set_option maxRecDepth 20000 in
set_option maxHeartbeats 2000000 in
theorem kw_261 : Cond.fieldLink RX2 59 (TX2 7).1 (TX2 7).2.1 (TX2 7).2.2.1 ∈ zTb := zIn1 206 rfl rfl
theorem fE_g_X2_E_planned (B : zC X nL (wdE adr cI cZ cS tL tH) cc RX2 ret rm) (hd : decode cc pc = .ok (.getfield 59, 3)) (kk : zJ X nL (wdE adr cI cZ cS tL tH) z (pc + 3) L (.ref (adr 24) :: st) σ) : zJ X nL (wdE adr cI cZ cS tL tH) z pc L (.ref (adr 0) :: st) σ := z_get B (k := 7) iX2 rfl wE_o_E (Nat.le_of_ble_eq_true rfl) kw_261 rfl hd kk
set_option maxRecDepth 20000 in
set_option maxHeartbeats 2000000 in
theorem kw_184 : Cond.fieldLink RX2 201 (TX4 10).1 (TX4 10).2.1 (TX4 10).2.2.1 ∈ zTb := zIn1 129 rfl rfl
theorem fE_g_X2_S_wasted (B : zC X nL (wdE adr cI cZ cS tL tH) cc RX2 ret rm) (p : Fin 6) {K : Int32 → Option β} (hd : decode cc pc = .ok (.getfield 201, 3)) (hf : zLet (σ (12 + p.val) 10) K = some r) (kk : ∀ v, K v = some r → zJ X nL (wdE adr cI cZ cS tL tH) z (pc + 3) L (.int v :: st) σ) : zJ X nL (wdE adr cI cZ cS tL tH) z pc L (.ref (adr (12 + p.val)) :: st) σ := z_get B (k := 10) iX4 rfl (wE_o_S p) (Nat.le_of_ble_eq_true rfl) kw_184 rfl hd (kk _ hf)
set_option maxRecDepth 20000 in
set_option maxHeartbeats 2000000 in
theorem kw_124 : Cond.fieldLink RX2 258 (TX0 8).1 (TX0 8).2.1 (TX0 8).2.2.1 ∈ zTb := zIn1 69 rfl rfl
theorem fE_g_X2_C_waitingSize (B : zC X nL (wdE adr cI cZ cS tL tH) cc RX2 ret rm) {K : Int32 → Option β} (hd : decode cc pc = .ok (.getfield 258, 3)) (hf : zLet (σ 3 8) K = some r) (kk : ∀ v, K v = some r → zJ X nL (wdE adr cI cZ cS tL tH) z (pc + 3) L (.int v :: st) σ) : zJ X nL (wdE adr cI cZ cS tL tH) z pc L (.ref (adr 3) :: st) σ := z_get B (k := 8) iX0 rfl wE_o_C (Nat.le_of_ble_eq_true rfl) kw_124 rfl hd (kk _ hf)
set_option maxRecDepth 20000 in
set_option maxHeartbeats 2000000 in
theorem kw_250 : Cond.fieldLink RX2 9 (TX2 0).1 (TX2 0).2.1 (TX2 0).2.2.1 ∈ zTb := zIn1 195 rfl rfl
theorem fE_g_X2_E_disk (B : zC X nL (wdE adr cI cZ cS tL tH) cc RX2 ret rm) (hd : decode cc pc = .ok (.getfield 9, 3)) (kk : zJ X nL (wdE adr cI cZ cS tL tH) z (pc + 3) L (.ref (adr 25) :: st) σ) : zJ X nL (wdE adr cI cZ cS tL tH) z pc L (.ref (adr 0) :: st) σ := z_get B (k := 0) iX2 rfl wE_o_E (Nat.le_of_ble_eq_true rfl) kw_250 rfl hd kk
set_option maxRecDepth 20000 in
set_option maxHeartbeats 2000000 in
theorem kw_263 : Cond.fieldLink RX2 62 (TX2 9).1 (TX2 9).2.1 (TX2 9).2.2.1 ∈ zTb := zIn1 208 rfl rfl
theorem fE_g_X2_E_ownPlace (B : zC X nL (wdE adr cI cZ cS tL tH) cc RX2 ret rm) {K : Int32 → Option β} (hd : decode cc pc = .ok (.getfield 62, 3)) (hf : zLet (σ 0 9) K = some r) (kk : ∀ v, K v = some r → zJ X nL (wdE adr cI cZ cS tL tH) z (pc + 3) L (.int v :: st) σ) : zJ X nL (wdE adr cI cZ cS tL tH) z pc L (.ref (adr 0) :: st) σ := z_get B (k := 9) iX2 rfl wE_o_E (Nat.le_of_ble_eq_true rfl) kw_263 rfl hd (kk _ hf)
set_option maxRecDepth 20000 in
set_option maxHeartbeats 2000000 in
theorem kw_178 : Cond.fieldLink RX2 145 (TX4 7).1 (TX4 7).2.1 (TX4 7).2.2.1 ∈ zTb := zIn1 123 rfl rfl
theorem fE_g_X2_S_used (B : zC X nL (wdE adr cI cZ cS tL tH) cc RX2 ret rm) (p : Fin 6) {K : Int32 → Option β} (hd : decode cc pc = .ok (.getfield 145, 3)) (hf : zLet (σ (12 + p.val) 7) K = some r) (kk : ∀ v, K v = some r → zJ X nL (wdE adr cI cZ cS tL tH) z (pc + 3) L (.int v :: st) σ) : zJ X nL (wdE adr cI cZ cS tL tH) z pc L (.ref (adr (12 + p.val)) :: st) σ := z_get B (k := 7) iX4 rfl (wE_o_S p) (Nat.le_of_ble_eq_true rfl) kw_178 rfl hd (kk _ hf)
set_option maxRecDepth 20000 in
set_option maxHeartbeats 2000000 in
theorem kw_122 : Cond.fieldLink RX2 165 (TX0 7).1 (TX0 7).2.1 (TX0 7).2.2.1 ∈ zTb := zIn1 67 rfl rfl
theorem fE_g_X2_C_size (B : zC X nL (wdE adr cI cZ cS tL tH) cc RX2 ret rm) {K : Int32 → Option β} (hd : decode cc pc = .ok (.getfield 165, 3)) (hf : zLet (σ 3 7) K = some r) (kk : ∀ v, K v = some r → zJ X nL (wdE adr cI cZ cS tL tH) z (pc + 3) L (.int v :: st) σ) : zJ X nL (wdE adr cI cZ cS tL tH) z pc L (.ref (adr 3) :: st) σ := z_get B (k := 7) iX0 rfl wE_o_C (Nat.le_of_ble_eq_true rfl) kw_122 rfl hd (kk _ hf)
set_option maxRecDepth 20000 in
set_option maxHeartbeats 2000000 in
theorem kw_115 : Cond.fieldLink RX2 168 (TX0 3).1 (TX0 3).2.1 (TX0 3).2.2.1 ∈ zTb := zIn1 60 rfl rfl
theorem fE_g_X2_C_owners (B : zC X nL (wdE adr cI cZ cS tL tH) cc RX2 ret rm) (hd : decode cc pc = .ok (.getfield 168, 3)) (kk : zJ X nL (wdE adr cI cZ cS tL tH) z (pc + 3) L (.ref (adr 7) :: st) σ) : zJ X nL (wdE adr cI cZ cS tL tH) z pc L (.ref (adr 3) :: st) σ := z_get B (k := 3) iX0 rfl wE_o_C (Nat.le_of_ble_eq_true rfl) kw_115 rfl hd kk
set_option maxRecDepth 20000 in
set_option maxHeartbeats 2000000 in
theorem kw_182 : Cond.fieldLink RX2 177 (TX4 9).1 (TX4 9).2.1 (TX4 9).2.2.1 ∈ zTb := zIn1 127 rfl rfl
theorem fE_g_X2_S_hits (B : zC X nL (wdE adr cI cZ cS tL tH) cc RX2 ret rm) (p : Fin 6) {K : Int32 → Option β} (hd : decode cc pc = .ok (.getfield 177, 3)) (hf : zLet (σ (12 + p.val) 9) K = some r) (kk : ∀ v, K v = some r → zJ X nL (wdE adr cI cZ cS tL tH) z (pc + 3) L (.int v :: st) σ) : zJ X nL (wdE adr cI cZ cS tL tH) z pc L (.ref (adr (12 + p.val)) :: st) σ := z_get B (k := 9) iX4 rfl (wE_o_S p) (Nat.le_of_ble_eq_true rfl) kw_182 rfl hd (kk _ hf)
set_option maxRecDepth 20000 in
set_option maxHeartbeats 2000000 in
theorem kw_221 : Cond.fieldLink RX2 274 (TX3 4).1 (TX3 4).2.1 (TX3 4).2.2.1 ∈ zTb := zIn1 166 rfl rfl
theorem fE_g_X2_H_length (B : zC X nL (wdE adr cI cZ cS tL tH) cc RX2 ret rm) {K : Int32 → Option β} (hd : decode cc pc = .ok (.getfield 274, 3)) (hf : zLet (σ 18 4) K = some r) (kk : ∀ v, K v = some r → zJ X nL (wdE adr cI cZ cS tL tH) z (pc + 3) L (.int v :: st) σ) : zJ X nL (wdE adr cI cZ cS tL tH) z pc L (.ref (adr 18) :: st) σ := z_get B (k := 4) iX3 rfl wE_o_H (Nat.le_of_ble_eq_true rfl) kw_221 rfl hd (kk _ hf)
set_option maxRecDepth 20000 in
set_option maxHeartbeats 2000000 in
theorem kw_242 : Cond.fieldLink RX2 280 (TX6 2).1 (TX6 2).2.1 (TX6 2).2.2.1 ∈ zTb := zIn1 187 rfl rfl
theorem fE_g_X2_G_length (B : zC X nL (wdE adr cI cZ cS tL tH) cc RX2 ret rm) {K : Int32 → Option β} (hd : decode cc pc = .ok (.getfield 280, 3)) (hf : zLet (σ 22 2) K = some r) (kk : ∀ v, K v = some r → zJ X nL (wdE adr cI cZ cS tL tH) z (pc + 3) L (.int v :: st) σ) : zJ X nL (wdE adr cI cZ cS tL tH) z pc L (.ref (adr 22) :: st) σ := z_get B (k := 2) iX6 rfl wE_o_G (Nat.le_of_ble_eq_true rfl) kw_242 rfl hd (kk _ hf)
theorem fE_p_X4_S_number (B : zC X nL (wdE adr cI cZ cS tL tH) cc RX4 ret rm) (p : Fin 6) {x : Int32} {K : ST → Option β} (hd : decode cc pc = .ok (.putfield 9, 3)) (hf : zLet (zUp σ (12 + p.val) 0 x) K = some r) (kk : ∀ σ1, K σ1 = some r → zJ X nL (wdE adr cI cZ cS tL tH) z (pc + 3) L st σ1) : zJ X nL (wdE adr cI cZ cS tL tH) z pc L (.int x :: .ref (adr (12 + p.val)) :: st) σ :=
  match p, hf with
  | ⟨0, _⟩, hf => z_put B (k := 0) (ce := 12) (ks := 0) iX4 tyX4 tyX4_ok nmX4 rfl (wE_o_S ⟨0, by decide⟩) (Nat.le_of_ble_eq_true rfl) kw_156 rfl rfl (Nat.le_of_ble_eq_true rfl) rfl hd hf kk
  | ⟨1, _⟩, hf => z_put B (k := 0) (ce := 13) (ks := 0) iX4 tyX4 tyX4_ok nmX4 rfl (wE_o_S ⟨1, by decide⟩) (Nat.le_of_ble_eq_true rfl) kw_156 rfl rfl (Nat.le_of_ble_eq_true rfl) rfl hd hf kk
  | ⟨2, _⟩, hf => z_put B (k := 0) (ce := 14) (ks := 0) iX4 tyX4 tyX4_ok nmX4 rfl (wE_o_S ⟨2, by decide⟩) (Nat.le_of_ble_eq_true rfl) kw_156 rfl rfl (Nat.le_of_ble_eq_true rfl) rfl hd hf kk
  | ⟨3, _⟩, hf => z_put B (k := 0) (ce := 15) (ks := 0) iX4 tyX4 tyX4_ok nmX4 rfl (wE_o_S ⟨3, by decide⟩) (Nat.le_of_ble_eq_true rfl) kw_156 rfl rfl (Nat.le_of_ble_eq_true rfl) rfl hd hf kk
  | ⟨4, _⟩, hf => z_put B (k := 0) (ce := 16) (ks := 0) iX4 tyX4 tyX4_ok nmX4 rfl (wE_o_S ⟨4, by decide⟩) (Nat.le_of_ble_eq_true rfl) kw_156 rfl rfl (Nat.le_of_ble_eq_true rfl) rfl hd hf kk
  | ⟨5, _⟩, hf => z_put B (k := 0) (ce := 17) (ks := 0) iX4 tyX4 tyX4_ok nmX4 rfl (wE_o_S ⟨5, by decide⟩) (Nat.le_of_ble_eq_true rfl) kw_156 rfl rfl (Nat.le_of_ble_eq_true rfl) rfl hd hf kk
theorem fE_p_X0_C_size (B : zC X nL (wdE adr cI cZ cS tL tH) cc RX0 ret rm) {x : Int32} {K : ST → Option β} (hd : decode cc pc = .ok (.putfield 34, 3)) (hf : zLet (zUp σ 3 7 x) K = some r) (kk : ∀ σ1, K σ1 = some r → zJ X nL (wdE adr cI cZ cS tL tH) z (pc + 3) L st σ1) : zJ X nL (wdE adr cI cZ cS tL tH) z pc L (.int x :: .ref (adr 3) :: st) σ := z_put B (k := 7) (ce := 3) (ks := 7) iX0 tyX0 tyX0_ok nmX0 rfl wE_o_C (Nat.le_of_ble_eq_true rfl) kw_121 rfl rfl (Nat.le_of_ble_eq_true rfl) rfl hd hf kk
theorem fE_p_X0_C_waitingSize (B : zC X nL (wdE adr cI cZ cS tL tH) cc RX0 ret rm) {x : Int32} {K : ST → Option β} (hd : decode cc pc = .ok (.putfield 41, 3)) (hf : zLet (zUp σ 3 8 x) K = some r) (kk : ∀ σ1, K σ1 = some r → zJ X nL (wdE adr cI cZ cS tL tH) z (pc + 3) L st σ1) : zJ X nL (wdE adr cI cZ cS tL tH) z pc L (.int x :: .ref (adr 3) :: st) σ := z_put B (k := 8) (ce := 3) (ks := 8) iX0 tyX0 tyX0_ok nmX0 rfl wE_o_C (Nat.le_of_ble_eq_true rfl) kw_123 rfl rfl (Nat.le_of_ble_eq_true rfl) rfl hd hf kk
theorem fE_p_X3_H_eldest (B : zC X nL (wdE adr cI cZ cS tL tH) cc RX3 ret rm) {x : Int32} {K : ST → Option β} (hd : decode cc pc = .ok (.putfield 21, 3)) (hf : zLet (zUp σ 18 3 x) K = some r) (kk : ∀ σ1, K σ1 = some r → zJ X nL (wdE adr cI cZ cS tL tH) z (pc + 3) L st σ1) : zJ X nL (wdE adr cI cZ cS tL tH) z pc L (.int x :: .ref (adr 18) :: st) σ := z_put B (k := 3) (ce := 18) (ks := 3) iX3 tyX3 tyX3_ok nmX3 rfl wE_o_H (Nat.le_of_ble_eq_true rfl) kw_217 rfl rfl (Nat.le_of_ble_eq_true rfl) rfl hd hf kk
theorem fE_p_X3_H_length (B : zC X nL (wdE adr cI cZ cS tL tH) cc RX3 ret rm) {x : Int32} {K : ST → Option β} (hd : decode cc pc = .ok (.putfield 25, 3)) (hf : zLet (zUp σ 18 4 x) K = some r) (kk : ∀ σ1, K σ1 = some r → zJ X nL (wdE adr cI cZ cS tL tH) z (pc + 3) L st σ1) : zJ X nL (wdE adr cI cZ cS tL tH) z pc L (.int x :: .ref (adr 18) :: st) σ := z_put B (k := 4) (ce := 18) (ks := 4) iX3 tyX3 tyX3_ok nmX3 rfl wE_o_H (Nat.le_of_ble_eq_true rfl) kw_218 rfl rfl (Nat.le_of_ble_eq_true rfl) rfl hd hf kk
theorem fE_p_X6_G_next (B : zC X nL (wdE adr cI cZ cS tL tH) cc RX6 ret rm) {x : Int32} {K : ST → Option β} (hd : decode cc pc = .ok (.putfield 15, 3)) (hf : zLet (zUp σ 22 1 x) K = some r) (kk : ∀ σ1, K σ1 = some r → zJ X nL (wdE adr cI cZ cS tL tH) z (pc + 3) L st σ1) : zJ X nL (wdE adr cI cZ cS tL tH) z pc L (.int x :: .ref (adr 22) :: st) σ := z_put B (k := 1) (ce := 22) (ks := 1) iX6 tyX6 tyX6_ok nmX6 rfl wE_o_G (Nat.le_of_ble_eq_true rfl) kw_240 rfl rfl (Nat.le_of_ble_eq_true rfl) rfl hd hf kk
theorem fE_p_X6_G_length (B : zC X nL (wdE adr cI cZ cS tL tH) cc RX6 ret rm) {x : Int32} {K : ST → Option β} (hd : decode cc pc = .ok (.putfield 19, 3)) (hf : zLet (zUp σ 22 2 x) K = some r) (kk : ∀ σ1, K σ1 = some r → zJ X nL (wdE adr cI cZ cS tL tH) z (pc + 3) L st σ1) : zJ X nL (wdE adr cI cZ cS tL tH) z pc L (.int x :: .ref (adr 22) :: st) σ := z_put B (k := 2) (ce := 22) (ks := 2) iX6 tyX6 tyX6_ok nmX6 rfl wE_o_G (Nat.le_of_ble_eq_true rfl) kw_241 rfl rfl (Nat.le_of_ble_eq_true rfl) rfl hd hf kk
theorem fE_p_X2_E_plannedSize (B : zC X nL (wdE adr cI cZ cS tL tH) cc RX2 ret rm) {x : Int32} {K : ST → Option β} (hd : decode cc pc = .ok (.putfield 87, 3)) (hf : zLet (zUp σ 0 8 x) K = some r) (kk : ∀ σ1, K σ1 = some r → zJ X nL (wdE adr cI cZ cS tL tH) z (pc + 3) L st σ1) : zJ X nL (wdE adr cI cZ cS tL tH) z pc L (.int x :: .ref (adr 0) :: st) σ := z_put B (k := 8) (ce := 0) (ks := 8) iX2 tyX2 tyX2_ok nmX2 rfl wE_o_E (Nat.le_of_ble_eq_true rfl) kw_262 rfl rfl (Nat.le_of_ble_eq_true rfl) rfl hd hf kk
theorem fE_p_X2_E_ownPlace (B : zC X nL (wdE adr cI cZ cS tL tH) cc RX2 ret rm) {x : Int32} {K : ST → Option β} (hd : decode cc pc = .ok (.putfield 62, 3)) (hf : zLet (zUp σ 0 9 x) K = some r) (kk : ∀ σ1, K σ1 = some r → zJ X nL (wdE adr cI cZ cS tL tH) z (pc + 3) L st σ1) : zJ X nL (wdE adr cI cZ cS tL tH) z pc L (.int x :: .ref (adr 0) :: st) σ := z_put B (k := 9) (ce := 0) (ks := 9) iX2 tyX2 tyX2_ok nmX2 rfl wE_o_E (Nat.le_of_ble_eq_true rfl) kw_263 rfl rfl (Nat.le_of_ble_eq_true rfl) rfl hd hf kk
theorem fE_p_X0_C_stamp (B : zC X nL (wdE adr cI cZ cS tL tH) cc RX0 ret rm) {x : Int32} {K : ST → Option β} (hd : decode cc pc = .ok (.putfield 38, 3)) (hf : zLet (zUp σ 3 9 x) K = some r) (kk : ∀ σ1, K σ1 = some r → zJ X nL (wdE adr cI cZ cS tL tH) z (pc + 3) L st σ1) : zJ X nL (wdE adr cI cZ cS tL tH) z pc L (.int x :: .ref (adr 3) :: st) σ := z_put B (k := 9) (ce := 3) (ks := 9) iX0 tyX0 tyX0_ok nmX0 rfl wE_o_C (Nat.le_of_ble_eq_true rfl) kw_125 rfl rfl (Nat.le_of_ble_eq_true rfl) rfl hd hf kk
theorem fE_p_X2_S_used (B : zC X nL (wdE adr cI cZ cS tL tH) cc RX2 ret rm) (p : Fin 6) {x : Int32} {K : ST → Option β} (hd : decode cc pc = .ok (.putfield 145, 3)) (hf : zLet (zUp σ (12 + p.val) 7 x) K = some r) (kk : ∀ σ1, K σ1 = some r → zJ X nL (wdE adr cI cZ cS tL tH) z (pc + 3) L st σ1) : zJ X nL (wdE adr cI cZ cS tL tH) z pc L (.int x :: .ref (adr (12 + p.val)) :: st) σ :=
  match p, hf with
  | ⟨0, _⟩, hf => z_put B (k := 7) (ce := 12) (ks := 7) iX4 tyX4 tyX4_ok nmX4 rfl (wE_o_S ⟨0, by decide⟩) (Nat.le_of_ble_eq_true rfl) kw_178 rfl rfl (Nat.le_of_ble_eq_true rfl) rfl hd hf kk
  | ⟨1, _⟩, hf => z_put B (k := 7) (ce := 13) (ks := 7) iX4 tyX4 tyX4_ok nmX4 rfl (wE_o_S ⟨1, by decide⟩) (Nat.le_of_ble_eq_true rfl) kw_178 rfl rfl (Nat.le_of_ble_eq_true rfl) rfl hd hf kk
  | ⟨2, _⟩, hf => z_put B (k := 7) (ce := 14) (ks := 7) iX4 tyX4 tyX4_ok nmX4 rfl (wE_o_S ⟨2, by decide⟩) (Nat.le_of_ble_eq_true rfl) kw_178 rfl rfl (Nat.le_of_ble_eq_true rfl) rfl hd hf kk
  | ⟨3, _⟩, hf => z_put B (k := 7) (ce := 15) (ks := 7) iX4 tyX4 tyX4_ok nmX4 rfl (wE_o_S ⟨3, by decide⟩) (Nat.le_of_ble_eq_true rfl) kw_178 rfl rfl (Nat.le_of_ble_eq_true rfl) rfl hd hf kk
  | ⟨4, _⟩, hf => z_put B (k := 7) (ce := 16) (ks := 7) iX4 tyX4 tyX4_ok nmX4 rfl (wE_o_S ⟨4, by decide⟩) (Nat.le_of_ble_eq_true rfl) kw_178 rfl rfl (Nat.le_of_ble_eq_true rfl) rfl hd hf kk
  | ⟨5, _⟩, hf => z_put B (k := 7) (ce := 17) (ks := 7) iX4 tyX4 tyX4_ok nmX4 rfl (wE_o_S ⟨5, by decide⟩) (Nat.le_of_ble_eq_true rfl) kw_178 rfl rfl (Nat.le_of_ble_eq_true rfl) rfl hd hf kk
theorem fE_p_X2_S_edge (B : zC X nL (wdE adr cI cZ cS tL tH) cc RX2 ret rm) (p : Fin 6) {x : Int32} {K : ST → Option β} (hd : decode cc pc = .ok (.putfield 242, 3)) (hf : zLet (zUp σ (12 + p.val) 5 x) K = some r) (kk : ∀ σ1, K σ1 = some r → zJ X nL (wdE adr cI cZ cS tL tH) z (pc + 3) L st σ1) : zJ X nL (wdE adr cI cZ cS tL tH) z pc L (.int x :: .ref (adr (12 + p.val)) :: st) σ :=
  match p, hf with
  | ⟨0, _⟩, hf => z_put B (k := 5) (ce := 12) (ks := 5) iX4 tyX4 tyX4_ok nmX4 rfl (wE_o_S ⟨0, by decide⟩) (Nat.le_of_ble_eq_true rfl) kw_173 rfl rfl (Nat.le_of_ble_eq_true rfl) rfl hd hf kk
  | ⟨1, _⟩, hf => z_put B (k := 5) (ce := 13) (ks := 5) iX4 tyX4 tyX4_ok nmX4 rfl (wE_o_S ⟨1, by decide⟩) (Nat.le_of_ble_eq_true rfl) kw_173 rfl rfl (Nat.le_of_ble_eq_true rfl) rfl hd hf kk
  | ⟨2, _⟩, hf => z_put B (k := 5) (ce := 14) (ks := 5) iX4 tyX4 tyX4_ok nmX4 rfl (wE_o_S ⟨2, by decide⟩) (Nat.le_of_ble_eq_true rfl) kw_173 rfl rfl (Nat.le_of_ble_eq_true rfl) rfl hd hf kk
  | ⟨3, _⟩, hf => z_put B (k := 5) (ce := 15) (ks := 5) iX4 tyX4 tyX4_ok nmX4 rfl (wE_o_S ⟨3, by decide⟩) (Nat.le_of_ble_eq_true rfl) kw_173 rfl rfl (Nat.le_of_ble_eq_true rfl) rfl hd hf kk
  | ⟨4, _⟩, hf => z_put B (k := 5) (ce := 16) (ks := 5) iX4 tyX4 tyX4_ok nmX4 rfl (wE_o_S ⟨4, by decide⟩) (Nat.le_of_ble_eq_true rfl) kw_173 rfl rfl (Nat.le_of_ble_eq_true rfl) rfl hd hf kk
  | ⟨5, _⟩, hf => z_put B (k := 5) (ce := 17) (ks := 5) iX4 tyX4 tyX4_ok nmX4 rfl (wE_o_S ⟨5, by decide⟩) (Nat.le_of_ble_eq_true rfl) kw_173 rfl rfl (Nat.le_of_ble_eq_true rfl) rfl hd hf kk
theorem fE_p_X2_S_window (B : zC X nL (wdE adr cI cZ cS tL tH) cc RX2 ret rm) (p : Fin 6) {x : Int32} {K : ST → Option β} (hd : decode cc pc = .ok (.putfield 183, 3)) (hf : zLet (zUp σ (12 + p.val) 4 x) K = some r) (kk : ∀ σ1, K σ1 = some r → zJ X nL (wdE adr cI cZ cS tL tH) z (pc + 3) L st σ1) : zJ X nL (wdE adr cI cZ cS tL tH) z pc L (.int x :: .ref (adr (12 + p.val)) :: st) σ :=
  match p, hf with
  | ⟨0, _⟩, hf => z_put B (k := 4) (ce := 12) (ks := 4) iX4 tyX4 tyX4_ok nmX4 rfl (wE_o_S ⟨0, by decide⟩) (Nat.le_of_ble_eq_true rfl) kw_170 rfl rfl (Nat.le_of_ble_eq_true rfl) rfl hd hf kk
  | ⟨1, _⟩, hf => z_put B (k := 4) (ce := 13) (ks := 4) iX4 tyX4 tyX4_ok nmX4 rfl (wE_o_S ⟨1, by decide⟩) (Nat.le_of_ble_eq_true rfl) kw_170 rfl rfl (Nat.le_of_ble_eq_true rfl) rfl hd hf kk
  | ⟨2, _⟩, hf => z_put B (k := 4) (ce := 14) (ks := 4) iX4 tyX4 tyX4_ok nmX4 rfl (wE_o_S ⟨2, by decide⟩) (Nat.le_of_ble_eq_true rfl) kw_170 rfl rfl (Nat.le_of_ble_eq_true rfl) rfl hd hf kk
  | ⟨3, _⟩, hf => z_put B (k := 4) (ce := 15) (ks := 4) iX4 tyX4 tyX4_ok nmX4 rfl (wE_o_S ⟨3, by decide⟩) (Nat.le_of_ble_eq_true rfl) kw_170 rfl rfl (Nat.le_of_ble_eq_true rfl) rfl hd hf kk
  | ⟨4, _⟩, hf => z_put B (k := 4) (ce := 16) (ks := 4) iX4 tyX4 tyX4_ok nmX4 rfl (wE_o_S ⟨4, by decide⟩) (Nat.le_of_ble_eq_true rfl) kw_170 rfl rfl (Nat.le_of_ble_eq_true rfl) rfl hd hf kk
  | ⟨5, _⟩, hf => z_put B (k := 4) (ce := 17) (ks := 4) iX4 tyX4 tyX4_ok nmX4 rfl (wE_o_S ⟨5, by decide⟩) (Nat.le_of_ble_eq_true rfl) kw_170 rfl rfl (Nat.le_of_ble_eq_true rfl) rfl hd hf kk
theorem fE_p_X2_S_fetched (B : zC X nL (wdE adr cI cZ cS tL tH) cc RX2 ret rm) (p : Fin 6) {x : Int32} {K : ST → Option β} (hd : decode cc pc = .ok (.putfield 261, 3)) (hf : zLet (zUp σ (12 + p.val) 8 x) K = some r) (kk : ∀ σ1, K σ1 = some r → zJ X nL (wdE adr cI cZ cS tL tH) z (pc + 3) L st σ1) : zJ X nL (wdE adr cI cZ cS tL tH) z pc L (.int x :: .ref (adr (12 + p.val)) :: st) σ :=
  match p, hf with
  | ⟨0, _⟩, hf => z_put B (k := 8) (ce := 12) (ks := 8) iX4 tyX4 tyX4_ok nmX4 rfl (wE_o_S ⟨0, by decide⟩) (Nat.le_of_ble_eq_true rfl) kw_180 rfl rfl (Nat.le_of_ble_eq_true rfl) rfl hd hf kk
  | ⟨1, _⟩, hf => z_put B (k := 8) (ce := 13) (ks := 8) iX4 tyX4 tyX4_ok nmX4 rfl (wE_o_S ⟨1, by decide⟩) (Nat.le_of_ble_eq_true rfl) kw_180 rfl rfl (Nat.le_of_ble_eq_true rfl) rfl hd hf kk
  | ⟨2, _⟩, hf => z_put B (k := 8) (ce := 14) (ks := 8) iX4 tyX4 tyX4_ok nmX4 rfl (wE_o_S ⟨2, by decide⟩) (Nat.le_of_ble_eq_true rfl) kw_180 rfl rfl (Nat.le_of_ble_eq_true rfl) rfl hd hf kk
  | ⟨3, _⟩, hf => z_put B (k := 8) (ce := 15) (ks := 8) iX4 tyX4 tyX4_ok nmX4 rfl (wE_o_S ⟨3, by decide⟩) (Nat.le_of_ble_eq_true rfl) kw_180 rfl rfl (Nat.le_of_ble_eq_true rfl) rfl hd hf kk
  | ⟨4, _⟩, hf => z_put B (k := 8) (ce := 16) (ks := 8) iX4 tyX4 tyX4_ok nmX4 rfl (wE_o_S ⟨4, by decide⟩) (Nat.le_of_ble_eq_true rfl) kw_180 rfl rfl (Nat.le_of_ble_eq_true rfl) rfl hd hf kk
  | ⟨5, _⟩, hf => z_put B (k := 8) (ce := 17) (ks := 8) iX4 tyX4 tyX4_ok nmX4 rfl (wE_o_S ⟨5, by decide⟩) (Nat.le_of_ble_eq_true rfl) kw_180 rfl rfl (Nat.le_of_ble_eq_true rfl) rfl hd hf kk
theorem fE_p_X2_S_wasted (B : zC X nL (wdE adr cI cZ cS tL tH) cc RX2 ret rm) (p : Fin 6) {x : Int32} {K : ST → Option β} (hd : decode cc pc = .ok (.putfield 201, 3)) (hf : zLet (zUp σ (12 + p.val) 10 x) K = some r) (kk : ∀ σ1, K σ1 = some r → zJ X nL (wdE adr cI cZ cS tL tH) z (pc + 3) L st σ1) : zJ X nL (wdE adr cI cZ cS tL tH) z pc L (.int x :: .ref (adr (12 + p.val)) :: st) σ :=
  match p, hf with
  | ⟨0, _⟩, hf => z_put B (k := 10) (ce := 12) (ks := 10) iX4 tyX4 tyX4_ok nmX4 rfl (wE_o_S ⟨0, by decide⟩) (Nat.le_of_ble_eq_true rfl) kw_184 rfl rfl (Nat.le_of_ble_eq_true rfl) rfl hd hf kk
  | ⟨1, _⟩, hf => z_put B (k := 10) (ce := 13) (ks := 10) iX4 tyX4 tyX4_ok nmX4 rfl (wE_o_S ⟨1, by decide⟩) (Nat.le_of_ble_eq_true rfl) kw_184 rfl rfl (Nat.le_of_ble_eq_true rfl) rfl hd hf kk
  | ⟨2, _⟩, hf => z_put B (k := 10) (ce := 14) (ks := 10) iX4 tyX4 tyX4_ok nmX4 rfl (wE_o_S ⟨2, by decide⟩) (Nat.le_of_ble_eq_true rfl) kw_184 rfl rfl (Nat.le_of_ble_eq_true rfl) rfl hd hf kk
  | ⟨3, _⟩, hf => z_put B (k := 10) (ce := 15) (ks := 10) iX4 tyX4 tyX4_ok nmX4 rfl (wE_o_S ⟨3, by decide⟩) (Nat.le_of_ble_eq_true rfl) kw_184 rfl rfl (Nat.le_of_ble_eq_true rfl) rfl hd hf kk
  | ⟨4, _⟩, hf => z_put B (k := 10) (ce := 16) (ks := 10) iX4 tyX4 tyX4_ok nmX4 rfl (wE_o_S ⟨4, by decide⟩) (Nat.le_of_ble_eq_true rfl) kw_184 rfl rfl (Nat.le_of_ble_eq_true rfl) rfl hd hf kk
  | ⟨5, _⟩, hf => z_put B (k := 10) (ce := 17) (ks := 10) iX4 tyX4 tyX4_ok nmX4 rfl (wE_o_S ⟨5, by decide⟩) (Nat.le_of_ble_eq_true rfl) kw_184 rfl rfl (Nat.le_of_ble_eq_true rfl) rfl hd hf kk
theorem fE_p_X2_S_marker (B : zC X nL (wdE adr cI cZ cS tL tH) cc RX2 ret rm) (p : Fin 6) {x : Int32} {K : ST → Option β} (hd : decode cc pc = .ok (.putfield 245, 3)) (hf : zLet (zUp σ (12 + p.val) 6 x) K = some r) (kk : ∀ σ1, K σ1 = some r → zJ X nL (wdE adr cI cZ cS tL tH) z (pc + 3) L st σ1) : zJ X nL (wdE adr cI cZ cS tL tH) z pc L (.int x :: .ref (adr (12 + p.val)) :: st) σ :=
  match p, hf with
  | ⟨0, _⟩, hf => z_put B (k := 6) (ce := 12) (ks := 6) iX4 tyX4 tyX4_ok nmX4 rfl (wE_o_S ⟨0, by decide⟩) (Nat.le_of_ble_eq_true rfl) kw_175 rfl rfl (Nat.le_of_ble_eq_true rfl) rfl hd hf kk
  | ⟨1, _⟩, hf => z_put B (k := 6) (ce := 13) (ks := 6) iX4 tyX4 tyX4_ok nmX4 rfl (wE_o_S ⟨1, by decide⟩) (Nat.le_of_ble_eq_true rfl) kw_175 rfl rfl (Nat.le_of_ble_eq_true rfl) rfl hd hf kk
  | ⟨2, _⟩, hf => z_put B (k := 6) (ce := 14) (ks := 6) iX4 tyX4 tyX4_ok nmX4 rfl (wE_o_S ⟨2, by decide⟩) (Nat.le_of_ble_eq_true rfl) kw_175 rfl rfl (Nat.le_of_ble_eq_true rfl) rfl hd hf kk
  | ⟨3, _⟩, hf => z_put B (k := 6) (ce := 15) (ks := 6) iX4 tyX4 tyX4_ok nmX4 rfl (wE_o_S ⟨3, by decide⟩) (Nat.le_of_ble_eq_true rfl) kw_175 rfl rfl (Nat.le_of_ble_eq_true rfl) rfl hd hf kk
  | ⟨4, _⟩, hf => z_put B (k := 6) (ce := 16) (ks := 6) iX4 tyX4 tyX4_ok nmX4 rfl (wE_o_S ⟨4, by decide⟩) (Nat.le_of_ble_eq_true rfl) kw_175 rfl rfl (Nat.le_of_ble_eq_true rfl) rfl hd hf kk
  | ⟨5, _⟩, hf => z_put B (k := 6) (ce := 17) (ks := 6) iX4 tyX4 tyX4_ok nmX4 rfl (wE_o_S ⟨5, by decide⟩) (Nat.le_of_ble_eq_true rfl) kw_175 rfl rfl (Nat.le_of_ble_eq_true rfl) rfl hd hf kk
theorem fE_p_X4_S_last (B : zC X nL (wdE adr cI cZ cS tL tH) cc RX4 ret rm) (p : Fin 6) {x : Int32} {K : ST → Option β} (hd : decode cc pc = .ok (.putfield 18, 3)) (hf : zLet (zUp σ (12 + p.val) 1 x) K = some r) (kk : ∀ σ1, K σ1 = some r → zJ X nL (wdE adr cI cZ cS tL tH) z (pc + 3) L st σ1) : zJ X nL (wdE adr cI cZ cS tL tH) z pc L (.int x :: .ref (adr (12 + p.val)) :: st) σ :=
  match p, hf with
  | ⟨0, _⟩, hf => z_put B (k := 1) (ce := 12) (ks := 1) iX4 tyX4 tyX4_ok nmX4 rfl (wE_o_S ⟨0, by decide⟩) (Nat.le_of_ble_eq_true rfl) kw_160 rfl rfl (Nat.le_of_ble_eq_true rfl) rfl hd hf kk
  | ⟨1, _⟩, hf => z_put B (k := 1) (ce := 13) (ks := 1) iX4 tyX4 tyX4_ok nmX4 rfl (wE_o_S ⟨1, by decide⟩) (Nat.le_of_ble_eq_true rfl) kw_160 rfl rfl (Nat.le_of_ble_eq_true rfl) rfl hd hf kk
  | ⟨2, _⟩, hf => z_put B (k := 1) (ce := 14) (ks := 1) iX4 tyX4 tyX4_ok nmX4 rfl (wE_o_S ⟨2, by decide⟩) (Nat.le_of_ble_eq_true rfl) kw_160 rfl rfl (Nat.le_of_ble_eq_true rfl) rfl hd hf kk
  | ⟨3, _⟩, hf => z_put B (k := 1) (ce := 15) (ks := 1) iX4 tyX4 tyX4_ok nmX4 rfl (wE_o_S ⟨3, by decide⟩) (Nat.le_of_ble_eq_true rfl) kw_160 rfl rfl (Nat.le_of_ble_eq_true rfl) rfl hd hf kk
  | ⟨4, _⟩, hf => z_put B (k := 1) (ce := 16) (ks := 1) iX4 tyX4 tyX4_ok nmX4 rfl (wE_o_S ⟨4, by decide⟩) (Nat.le_of_ble_eq_true rfl) kw_160 rfl rfl (Nat.le_of_ble_eq_true rfl) rfl hd hf kk
  | ⟨5, _⟩, hf => z_put B (k := 1) (ce := 17) (ks := 1) iX4 tyX4 tyX4_ok nmX4 rfl (wE_o_S ⟨5, by decide⟩) (Nat.le_of_ble_eq_true rfl) kw_160 rfl rfl (Nat.le_of_ble_eq_true rfl) rfl hd hf kk
theorem fE_p_X4_S_stride (B : zC X nL (wdE adr cI cZ cS tL tH) cc RX4 ret rm) (p : Fin 6) {x : Int32} {K : ST → Option β} (hd : decode cc pc = .ok (.putfield 21, 3)) (hf : zLet (zUp σ (12 + p.val) 2 x) K = some r) (kk : ∀ σ1, K σ1 = some r → zJ X nL (wdE adr cI cZ cS tL tH) z (pc + 3) L st σ1) : zJ X nL (wdE adr cI cZ cS tL tH) z pc L (.int x :: .ref (adr (12 + p.val)) :: st) σ :=
  match p, hf with
  | ⟨0, _⟩, hf => z_put B (k := 2) (ce := 12) (ks := 2) iX4 tyX4 tyX4_ok nmX4 rfl (wE_o_S ⟨0, by decide⟩) (Nat.le_of_ble_eq_true rfl) kw_163 rfl rfl (Nat.le_of_ble_eq_true rfl) rfl hd hf kk
  | ⟨1, _⟩, hf => z_put B (k := 2) (ce := 13) (ks := 2) iX4 tyX4 tyX4_ok nmX4 rfl (wE_o_S ⟨1, by decide⟩) (Nat.le_of_ble_eq_true rfl) kw_163 rfl rfl (Nat.le_of_ble_eq_true rfl) rfl hd hf kk
  | ⟨2, _⟩, hf => z_put B (k := 2) (ce := 14) (ks := 2) iX4 tyX4 tyX4_ok nmX4 rfl (wE_o_S ⟨2, by decide⟩) (Nat.le_of_ble_eq_true rfl) kw_163 rfl rfl (Nat.le_of_ble_eq_true rfl) rfl hd hf kk
  | ⟨3, _⟩, hf => z_put B (k := 2) (ce := 15) (ks := 2) iX4 tyX4 tyX4_ok nmX4 rfl (wE_o_S ⟨3, by decide⟩) (Nat.le_of_ble_eq_true rfl) kw_163 rfl rfl (Nat.le_of_ble_eq_true rfl) rfl hd hf kk
  | ⟨4, _⟩, hf => z_put B (k := 2) (ce := 16) (ks := 2) iX4 tyX4 tyX4_ok nmX4 rfl (wE_o_S ⟨4, by decide⟩) (Nat.le_of_ble_eq_true rfl) kw_163 rfl rfl (Nat.le_of_ble_eq_true rfl) rfl hd hf kk
  | ⟨5, _⟩, hf => z_put B (k := 2) (ce := 17) (ks := 2) iX4 tyX4 tyX4_ok nmX4 rfl (wE_o_S ⟨5, by decide⟩) (Nat.le_of_ble_eq_true rfl) kw_163 rfl rfl (Nat.le_of_ble_eq_true rfl) rfl hd hf kk
theorem fE_p_X4_S_proof (B : zC X nL (wdE adr cI cZ cS tL tH) cc RX4 ret rm) (p : Fin 6) {x : Int32} {K : ST → Option β} (hd : decode cc pc = .ok (.putfield 24, 3)) (hf : zLet (zUp σ (12 + p.val) 3 x) K = some r) (kk : ∀ σ1, K σ1 = some r → zJ X nL (wdE adr cI cZ cS tL tH) z (pc + 3) L st σ1) : zJ X nL (wdE adr cI cZ cS tL tH) z pc L (.int x :: .ref (adr (12 + p.val)) :: st) σ :=
  match p, hf with
  | ⟨0, _⟩, hf => z_put B (k := 3) (ce := 12) (ks := 3) iX4 tyX4 tyX4_ok nmX4 rfl (wE_o_S ⟨0, by decide⟩) (Nat.le_of_ble_eq_true rfl) kw_166 rfl rfl (Nat.le_of_ble_eq_true rfl) rfl hd hf kk
  | ⟨1, _⟩, hf => z_put B (k := 3) (ce := 13) (ks := 3) iX4 tyX4 tyX4_ok nmX4 rfl (wE_o_S ⟨1, by decide⟩) (Nat.le_of_ble_eq_true rfl) kw_166 rfl rfl (Nat.le_of_ble_eq_true rfl) rfl hd hf kk
  | ⟨2, _⟩, hf => z_put B (k := 3) (ce := 14) (ks := 3) iX4 tyX4 tyX4_ok nmX4 rfl (wE_o_S ⟨2, by decide⟩) (Nat.le_of_ble_eq_true rfl) kw_166 rfl rfl (Nat.le_of_ble_eq_true rfl) rfl hd hf kk
  | ⟨3, _⟩, hf => z_put B (k := 3) (ce := 15) (ks := 3) iX4 tyX4 tyX4_ok nmX4 rfl (wE_o_S ⟨3, by decide⟩) (Nat.le_of_ble_eq_true rfl) kw_166 rfl rfl (Nat.le_of_ble_eq_true rfl) rfl hd hf kk
  | ⟨4, _⟩, hf => z_put B (k := 3) (ce := 16) (ks := 3) iX4 tyX4 tyX4_ok nmX4 rfl (wE_o_S ⟨4, by decide⟩) (Nat.le_of_ble_eq_true rfl) kw_166 rfl rfl (Nat.le_of_ble_eq_true rfl) rfl hd hf kk
  | ⟨5, _⟩, hf => z_put B (k := 3) (ce := 17) (ks := 3) iX4 tyX4 tyX4_ok nmX4 rfl (wE_o_S ⟨5, by decide⟩) (Nat.le_of_ble_eq_true rfl) kw_166 rfl rfl (Nat.le_of_ble_eq_true rfl) rfl hd hf kk
theorem fE_p_X4_S_window (B : zC X nL (wdE adr cI cZ cS tL tH) cc RX4 ret rm) (p : Fin 6) {x : Int32} {K : ST → Option β} (hd : decode cc pc = .ok (.putfield 27, 3)) (hf : zLet (zUp σ (12 + p.val) 4 x) K = some r) (kk : ∀ σ1, K σ1 = some r → zJ X nL (wdE adr cI cZ cS tL tH) z (pc + 3) L st σ1) : zJ X nL (wdE adr cI cZ cS tL tH) z pc L (.int x :: .ref (adr (12 + p.val)) :: st) σ :=
  match p, hf with
  | ⟨0, _⟩, hf => z_put B (k := 4) (ce := 12) (ks := 4) iX4 tyX4 tyX4_ok nmX4 rfl (wE_o_S ⟨0, by decide⟩) (Nat.le_of_ble_eq_true rfl) kw_169 rfl rfl (Nat.le_of_ble_eq_true rfl) rfl hd hf kk
  | ⟨1, _⟩, hf => z_put B (k := 4) (ce := 13) (ks := 4) iX4 tyX4 tyX4_ok nmX4 rfl (wE_o_S ⟨1, by decide⟩) (Nat.le_of_ble_eq_true rfl) kw_169 rfl rfl (Nat.le_of_ble_eq_true rfl) rfl hd hf kk
  | ⟨2, _⟩, hf => z_put B (k := 4) (ce := 14) (ks := 4) iX4 tyX4 tyX4_ok nmX4 rfl (wE_o_S ⟨2, by decide⟩) (Nat.le_of_ble_eq_true rfl) kw_169 rfl rfl (Nat.le_of_ble_eq_true rfl) rfl hd hf kk
  | ⟨3, _⟩, hf => z_put B (k := 4) (ce := 15) (ks := 4) iX4 tyX4 tyX4_ok nmX4 rfl (wE_o_S ⟨3, by decide⟩) (Nat.le_of_ble_eq_true rfl) kw_169 rfl rfl (Nat.le_of_ble_eq_true rfl) rfl hd hf kk
  | ⟨4, _⟩, hf => z_put B (k := 4) (ce := 16) (ks := 4) iX4 tyX4 tyX4_ok nmX4 rfl (wE_o_S ⟨4, by decide⟩) (Nat.le_of_ble_eq_true rfl) kw_169 rfl rfl (Nat.le_of_ble_eq_true rfl) rfl hd hf kk
  | ⟨5, _⟩, hf => z_put B (k := 4) (ce := 17) (ks := 4) iX4 tyX4 tyX4_ok nmX4 rfl (wE_o_S ⟨5, by decide⟩) (Nat.le_of_ble_eq_true rfl) kw_169 rfl rfl (Nat.le_of_ble_eq_true rfl) rfl hd hf kk
theorem fE_p_X4_S_edge (B : zC X nL (wdE adr cI cZ cS tL tH) cc RX4 ret rm) (p : Fin 6) {x : Int32} {K : ST → Option β} (hd : decode cc pc = .ok (.putfield 30, 3)) (hf : zLet (zUp σ (12 + p.val) 5 x) K = some r) (kk : ∀ σ1, K σ1 = some r → zJ X nL (wdE adr cI cZ cS tL tH) z (pc + 3) L st σ1) : zJ X nL (wdE adr cI cZ cS tL tH) z pc L (.int x :: .ref (adr (12 + p.val)) :: st) σ :=
  match p, hf with
  | ⟨0, _⟩, hf => z_put B (k := 5) (ce := 12) (ks := 5) iX4 tyX4 tyX4_ok nmX4 rfl (wE_o_S ⟨0, by decide⟩) (Nat.le_of_ble_eq_true rfl) kw_172 rfl rfl (Nat.le_of_ble_eq_true rfl) rfl hd hf kk
  | ⟨1, _⟩, hf => z_put B (k := 5) (ce := 13) (ks := 5) iX4 tyX4 tyX4_ok nmX4 rfl (wE_o_S ⟨1, by decide⟩) (Nat.le_of_ble_eq_true rfl) kw_172 rfl rfl (Nat.le_of_ble_eq_true rfl) rfl hd hf kk
  | ⟨2, _⟩, hf => z_put B (k := 5) (ce := 14) (ks := 5) iX4 tyX4 tyX4_ok nmX4 rfl (wE_o_S ⟨2, by decide⟩) (Nat.le_of_ble_eq_true rfl) kw_172 rfl rfl (Nat.le_of_ble_eq_true rfl) rfl hd hf kk
  | ⟨3, _⟩, hf => z_put B (k := 5) (ce := 15) (ks := 5) iX4 tyX4 tyX4_ok nmX4 rfl (wE_o_S ⟨3, by decide⟩) (Nat.le_of_ble_eq_true rfl) kw_172 rfl rfl (Nat.le_of_ble_eq_true rfl) rfl hd hf kk
  | ⟨4, _⟩, hf => z_put B (k := 5) (ce := 16) (ks := 5) iX4 tyX4 tyX4_ok nmX4 rfl (wE_o_S ⟨4, by decide⟩) (Nat.le_of_ble_eq_true rfl) kw_172 rfl rfl (Nat.le_of_ble_eq_true rfl) rfl hd hf kk
  | ⟨5, _⟩, hf => z_put B (k := 5) (ce := 17) (ks := 5) iX4 tyX4 tyX4_ok nmX4 rfl (wE_o_S ⟨5, by decide⟩) (Nat.le_of_ble_eq_true rfl) kw_172 rfl rfl (Nat.le_of_ble_eq_true rfl) rfl hd hf kk
theorem fE_p_X4_S_marker (B : zC X nL (wdE adr cI cZ cS tL tH) cc RX4 ret rm) (p : Fin 6) {x : Int32} {K : ST → Option β} (hd : decode cc pc = .ok (.putfield 15, 3)) (hf : zLet (zUp σ (12 + p.val) 6 x) K = some r) (kk : ∀ σ1, K σ1 = some r → zJ X nL (wdE adr cI cZ cS tL tH) z (pc + 3) L st σ1) : zJ X nL (wdE adr cI cZ cS tL tH) z pc L (.int x :: .ref (adr (12 + p.val)) :: st) σ :=
  match p, hf with
  | ⟨0, _⟩, hf => z_put B (k := 6) (ce := 12) (ks := 6) iX4 tyX4 tyX4_ok nmX4 rfl (wE_o_S ⟨0, by decide⟩) (Nat.le_of_ble_eq_true rfl) kw_174 rfl rfl (Nat.le_of_ble_eq_true rfl) rfl hd hf kk
  | ⟨1, _⟩, hf => z_put B (k := 6) (ce := 13) (ks := 6) iX4 tyX4 tyX4_ok nmX4 rfl (wE_o_S ⟨1, by decide⟩) (Nat.le_of_ble_eq_true rfl) kw_174 rfl rfl (Nat.le_of_ble_eq_true rfl) rfl hd hf kk
  | ⟨2, _⟩, hf => z_put B (k := 6) (ce := 14) (ks := 6) iX4 tyX4 tyX4_ok nmX4 rfl (wE_o_S ⟨2, by decide⟩) (Nat.le_of_ble_eq_true rfl) kw_174 rfl rfl (Nat.le_of_ble_eq_true rfl) rfl hd hf kk
  | ⟨3, _⟩, hf => z_put B (k := 6) (ce := 15) (ks := 6) iX4 tyX4 tyX4_ok nmX4 rfl (wE_o_S ⟨3, by decide⟩) (Nat.le_of_ble_eq_true rfl) kw_174 rfl rfl (Nat.le_of_ble_eq_true rfl) rfl hd hf kk
  | ⟨4, _⟩, hf => z_put B (k := 6) (ce := 16) (ks := 6) iX4 tyX4 tyX4_ok nmX4 rfl (wE_o_S ⟨4, by decide⟩) (Nat.le_of_ble_eq_true rfl) kw_174 rfl rfl (Nat.le_of_ble_eq_true rfl) rfl hd hf kk
  | ⟨5, _⟩, hf => z_put B (k := 6) (ce := 17) (ks := 6) iX4 tyX4 tyX4_ok nmX4 rfl (wE_o_S ⟨5, by decide⟩) (Nat.le_of_ble_eq_true rfl) kw_174 rfl rfl (Nat.le_of_ble_eq_true rfl) rfl hd hf kk
theorem fE_p_X4_S_used (B : zC X nL (wdE adr cI cZ cS tL tH) cc RX4 ret rm) (p : Fin 6) {x : Int32} {K : ST → Option β} (hd : decode cc pc = .ok (.putfield 33, 3)) (hf : zLet (zUp σ (12 + p.val) 7 x) K = some r) (kk : ∀ σ1, K σ1 = some r → zJ X nL (wdE adr cI cZ cS tL tH) z (pc + 3) L st σ1) : zJ X nL (wdE adr cI cZ cS tL tH) z pc L (.int x :: .ref (adr (12 + p.val)) :: st) σ :=
  match p, hf with
  | ⟨0, _⟩, hf => z_put B (k := 7) (ce := 12) (ks := 7) iX4 tyX4 tyX4_ok nmX4 rfl (wE_o_S ⟨0, by decide⟩) (Nat.le_of_ble_eq_true rfl) kw_177 rfl rfl (Nat.le_of_ble_eq_true rfl) rfl hd hf kk
  | ⟨1, _⟩, hf => z_put B (k := 7) (ce := 13) (ks := 7) iX4 tyX4 tyX4_ok nmX4 rfl (wE_o_S ⟨1, by decide⟩) (Nat.le_of_ble_eq_true rfl) kw_177 rfl rfl (Nat.le_of_ble_eq_true rfl) rfl hd hf kk
  | ⟨2, _⟩, hf => z_put B (k := 7) (ce := 14) (ks := 7) iX4 tyX4 tyX4_ok nmX4 rfl (wE_o_S ⟨2, by decide⟩) (Nat.le_of_ble_eq_true rfl) kw_177 rfl rfl (Nat.le_of_ble_eq_true rfl) rfl hd hf kk
  | ⟨3, _⟩, hf => z_put B (k := 7) (ce := 15) (ks := 7) iX4 tyX4 tyX4_ok nmX4 rfl (wE_o_S ⟨3, by decide⟩) (Nat.le_of_ble_eq_true rfl) kw_177 rfl rfl (Nat.le_of_ble_eq_true rfl) rfl hd hf kk
  | ⟨4, _⟩, hf => z_put B (k := 7) (ce := 16) (ks := 7) iX4 tyX4 tyX4_ok nmX4 rfl (wE_o_S ⟨4, by decide⟩) (Nat.le_of_ble_eq_true rfl) kw_177 rfl rfl (Nat.le_of_ble_eq_true rfl) rfl hd hf kk
  | ⟨5, _⟩, hf => z_put B (k := 7) (ce := 17) (ks := 7) iX4 tyX4 tyX4_ok nmX4 rfl (wE_o_S ⟨5, by decide⟩) (Nat.le_of_ble_eq_true rfl) kw_177 rfl rfl (Nat.le_of_ble_eq_true rfl) rfl hd hf kk
theorem fE_p_X4_S_fetched (B : zC X nL (wdE adr cI cZ cS tL tH) cc RX4 ret rm) (p : Fin 6) {x : Int32} {K : ST → Option β} (hd : decode cc pc = .ok (.putfield 36, 3)) (hf : zLet (zUp σ (12 + p.val) 8 x) K = some r) (kk : ∀ σ1, K σ1 = some r → zJ X nL (wdE adr cI cZ cS tL tH) z (pc + 3) L st σ1) : zJ X nL (wdE adr cI cZ cS tL tH) z pc L (.int x :: .ref (adr (12 + p.val)) :: st) σ :=
  match p, hf with
  | ⟨0, _⟩, hf => z_put B (k := 8) (ce := 12) (ks := 8) iX4 tyX4 tyX4_ok nmX4 rfl (wE_o_S ⟨0, by decide⟩) (Nat.le_of_ble_eq_true rfl) kw_179 rfl rfl (Nat.le_of_ble_eq_true rfl) rfl hd hf kk
  | ⟨1, _⟩, hf => z_put B (k := 8) (ce := 13) (ks := 8) iX4 tyX4 tyX4_ok nmX4 rfl (wE_o_S ⟨1, by decide⟩) (Nat.le_of_ble_eq_true rfl) kw_179 rfl rfl (Nat.le_of_ble_eq_true rfl) rfl hd hf kk
  | ⟨2, _⟩, hf => z_put B (k := 8) (ce := 14) (ks := 8) iX4 tyX4 tyX4_ok nmX4 rfl (wE_o_S ⟨2, by decide⟩) (Nat.le_of_ble_eq_true rfl) kw_179 rfl rfl (Nat.le_of_ble_eq_true rfl) rfl hd hf kk
  | ⟨3, _⟩, hf => z_put B (k := 8) (ce := 15) (ks := 8) iX4 tyX4 tyX4_ok nmX4 rfl (wE_o_S ⟨3, by decide⟩) (Nat.le_of_ble_eq_true rfl) kw_179 rfl rfl (Nat.le_of_ble_eq_true rfl) rfl hd hf kk
  | ⟨4, _⟩, hf => z_put B (k := 8) (ce := 16) (ks := 8) iX4 tyX4 tyX4_ok nmX4 rfl (wE_o_S ⟨4, by decide⟩) (Nat.le_of_ble_eq_true rfl) kw_179 rfl rfl (Nat.le_of_ble_eq_true rfl) rfl hd hf kk
  | ⟨5, _⟩, hf => z_put B (k := 8) (ce := 17) (ks := 8) iX4 tyX4 tyX4_ok nmX4 rfl (wE_o_S ⟨5, by decide⟩) (Nat.le_of_ble_eq_true rfl) kw_179 rfl rfl (Nat.le_of_ble_eq_true rfl) rfl hd hf kk
theorem fE_p_X4_S_hits (B : zC X nL (wdE adr cI cZ cS tL tH) cc RX4 ret rm) (p : Fin 6) {x : Int32} {K : ST → Option β} (hd : decode cc pc = .ok (.putfield 39, 3)) (hf : zLet (zUp σ (12 + p.val) 9 x) K = some r) (kk : ∀ σ1, K σ1 = some r → zJ X nL (wdE adr cI cZ cS tL tH) z (pc + 3) L st σ1) : zJ X nL (wdE adr cI cZ cS tL tH) z pc L (.int x :: .ref (adr (12 + p.val)) :: st) σ :=
  match p, hf with
  | ⟨0, _⟩, hf => z_put B (k := 9) (ce := 12) (ks := 9) iX4 tyX4 tyX4_ok nmX4 rfl (wE_o_S ⟨0, by decide⟩) (Nat.le_of_ble_eq_true rfl) kw_181 rfl rfl (Nat.le_of_ble_eq_true rfl) rfl hd hf kk
  | ⟨1, _⟩, hf => z_put B (k := 9) (ce := 13) (ks := 9) iX4 tyX4 tyX4_ok nmX4 rfl (wE_o_S ⟨1, by decide⟩) (Nat.le_of_ble_eq_true rfl) kw_181 rfl rfl (Nat.le_of_ble_eq_true rfl) rfl hd hf kk
  | ⟨2, _⟩, hf => z_put B (k := 9) (ce := 14) (ks := 9) iX4 tyX4 tyX4_ok nmX4 rfl (wE_o_S ⟨2, by decide⟩) (Nat.le_of_ble_eq_true rfl) kw_181 rfl rfl (Nat.le_of_ble_eq_true rfl) rfl hd hf kk
  | ⟨3, _⟩, hf => z_put B (k := 9) (ce := 15) (ks := 9) iX4 tyX4 tyX4_ok nmX4 rfl (wE_o_S ⟨3, by decide⟩) (Nat.le_of_ble_eq_true rfl) kw_181 rfl rfl (Nat.le_of_ble_eq_true rfl) rfl hd hf kk
  | ⟨4, _⟩, hf => z_put B (k := 9) (ce := 16) (ks := 9) iX4 tyX4 tyX4_ok nmX4 rfl (wE_o_S ⟨4, by decide⟩) (Nat.le_of_ble_eq_true rfl) kw_181 rfl rfl (Nat.le_of_ble_eq_true rfl) rfl hd hf kk
  | ⟨5, _⟩, hf => z_put B (k := 9) (ce := 17) (ks := 9) iX4 tyX4 tyX4_ok nmX4 rfl (wE_o_S ⟨5, by decide⟩) (Nat.le_of_ble_eq_true rfl) kw_181 rfl rfl (Nat.le_of_ble_eq_true rfl) rfl hd hf kk
theorem fE_p_X4_S_wasted (B : zC X nL (wdE adr cI cZ cS tL tH) cc RX4 ret rm) (p : Fin 6) {x : Int32} {K : ST → Option β} (hd : decode cc pc = .ok (.putfield 42, 3)) (hf : zLet (zUp σ (12 + p.val) 10 x) K = some r) (kk : ∀ σ1, K σ1 = some r → zJ X nL (wdE adr cI cZ cS tL tH) z (pc + 3) L st σ1) : zJ X nL (wdE adr cI cZ cS tL tH) z pc L (.int x :: .ref (adr (12 + p.val)) :: st) σ :=
  match p, hf with
  | ⟨0, _⟩, hf => z_put B (k := 10) (ce := 12) (ks := 10) iX4 tyX4 tyX4_ok nmX4 rfl (wE_o_S ⟨0, by decide⟩) (Nat.le_of_ble_eq_true rfl) kw_183 rfl rfl (Nat.le_of_ble_eq_true rfl) rfl hd hf kk
  | ⟨1, _⟩, hf => z_put B (k := 10) (ce := 13) (ks := 10) iX4 tyX4 tyX4_ok nmX4 rfl (wE_o_S ⟨1, by decide⟩) (Nat.le_of_ble_eq_true rfl) kw_183 rfl rfl (Nat.le_of_ble_eq_true rfl) rfl hd hf kk
  | ⟨2, _⟩, hf => z_put B (k := 10) (ce := 14) (ks := 10) iX4 tyX4 tyX4_ok nmX4 rfl (wE_o_S ⟨2, by decide⟩) (Nat.le_of_ble_eq_true rfl) kw_183 rfl rfl (Nat.le_of_ble_eq_true rfl) rfl hd hf kk
  | ⟨3, _⟩, hf => z_put B (k := 10) (ce := 15) (ks := 10) iX4 tyX4 tyX4_ok nmX4 rfl (wE_o_S ⟨3, by decide⟩) (Nat.le_of_ble_eq_true rfl) kw_183 rfl rfl (Nat.le_of_ble_eq_true rfl) rfl hd hf kk
  | ⟨4, _⟩, hf => z_put B (k := 10) (ce := 16) (ks := 10) iX4 tyX4 tyX4_ok nmX4 rfl (wE_o_S ⟨4, by decide⟩) (Nat.le_of_ble_eq_true rfl) kw_183 rfl rfl (Nat.le_of_ble_eq_true rfl) rfl hd hf kk
  | ⟨5, _⟩, hf => z_put B (k := 10) (ce := 17) (ks := 10) iX4 tyX4 tyX4_ok nmX4 rfl (wE_o_S ⟨5, by decide⟩) (Nat.le_of_ble_eq_true rfl) kw_183 rfl rfl (Nat.le_of_ble_eq_true rfl) rfl hd hf kk
theorem fE_p_X2_S_hits (B : zC X nL (wdE adr cI cZ cS tL tH) cc RX2 ret rm) (p : Fin 6) {x : Int32} {K : ST → Option β} (hd : decode cc pc = .ok (.putfield 177, 3)) (hf : zLet (zUp σ (12 + p.val) 9 x) K = some r) (kk : ∀ σ1, K σ1 = some r → zJ X nL (wdE adr cI cZ cS tL tH) z (pc + 3) L st σ1) : zJ X nL (wdE adr cI cZ cS tL tH) z pc L (.int x :: .ref (adr (12 + p.val)) :: st) σ :=
  match p, hf with
  | ⟨0, _⟩, hf => z_put B (k := 9) (ce := 12) (ks := 9) iX4 tyX4 tyX4_ok nmX4 rfl (wE_o_S ⟨0, by decide⟩) (Nat.le_of_ble_eq_true rfl) kw_182 rfl rfl (Nat.le_of_ble_eq_true rfl) rfl hd hf kk
  | ⟨1, _⟩, hf => z_put B (k := 9) (ce := 13) (ks := 9) iX4 tyX4 tyX4_ok nmX4 rfl (wE_o_S ⟨1, by decide⟩) (Nat.le_of_ble_eq_true rfl) kw_182 rfl rfl (Nat.le_of_ble_eq_true rfl) rfl hd hf kk
  | ⟨2, _⟩, hf => z_put B (k := 9) (ce := 14) (ks := 9) iX4 tyX4 tyX4_ok nmX4 rfl (wE_o_S ⟨2, by decide⟩) (Nat.le_of_ble_eq_true rfl) kw_182 rfl rfl (Nat.le_of_ble_eq_true rfl) rfl hd hf kk
  | ⟨3, _⟩, hf => z_put B (k := 9) (ce := 15) (ks := 9) iX4 tyX4 tyX4_ok nmX4 rfl (wE_o_S ⟨3, by decide⟩) (Nat.le_of_ble_eq_true rfl) kw_182 rfl rfl (Nat.le_of_ble_eq_true rfl) rfl hd hf kk
  | ⟨4, _⟩, hf => z_put B (k := 9) (ce := 16) (ks := 9) iX4 tyX4 tyX4_ok nmX4 rfl (wE_o_S ⟨4, by decide⟩) (Nat.le_of_ble_eq_true rfl) kw_182 rfl rfl (Nat.le_of_ble_eq_true rfl) rfl hd hf kk
  | ⟨5, _⟩, hf => z_put B (k := 9) (ce := 17) (ks := 9) iX4 tyX4 tyX4_ok nmX4 rfl (wE_o_S ⟨5, by decide⟩) (Nat.le_of_ble_eq_true rfl) kw_182 rfl rfl (Nat.le_of_ble_eq_true rfl) rfl hd hf kk
theorem fE_p_X2_S_stride (B : zC X nL (wdE adr cI cZ cS tL tH) cc RX2 ret rm) (p : Fin 6) {x : Int32} {K : ST → Option β} (hd : decode cc pc = .ok (.putfield 227, 3)) (hf : zLet (zUp σ (12 + p.val) 2 x) K = some r) (kk : ∀ σ1, K σ1 = some r → zJ X nL (wdE adr cI cZ cS tL tH) z (pc + 3) L st σ1) : zJ X nL (wdE adr cI cZ cS tL tH) z pc L (.int x :: .ref (adr (12 + p.val)) :: st) σ :=
  match p, hf with
  | ⟨0, _⟩, hf => z_put B (k := 2) (ce := 12) (ks := 2) iX4 tyX4 tyX4_ok nmX4 rfl (wE_o_S ⟨0, by decide⟩) (Nat.le_of_ble_eq_true rfl) kw_165 rfl rfl (Nat.le_of_ble_eq_true rfl) rfl hd hf kk
  | ⟨1, _⟩, hf => z_put B (k := 2) (ce := 13) (ks := 2) iX4 tyX4 tyX4_ok nmX4 rfl (wE_o_S ⟨1, by decide⟩) (Nat.le_of_ble_eq_true rfl) kw_165 rfl rfl (Nat.le_of_ble_eq_true rfl) rfl hd hf kk
  | ⟨2, _⟩, hf => z_put B (k := 2) (ce := 14) (ks := 2) iX4 tyX4 tyX4_ok nmX4 rfl (wE_o_S ⟨2, by decide⟩) (Nat.le_of_ble_eq_true rfl) kw_165 rfl rfl (Nat.le_of_ble_eq_true rfl) rfl hd hf kk
  | ⟨3, _⟩, hf => z_put B (k := 2) (ce := 15) (ks := 2) iX4 tyX4 tyX4_ok nmX4 rfl (wE_o_S ⟨3, by decide⟩) (Nat.le_of_ble_eq_true rfl) kw_165 rfl rfl (Nat.le_of_ble_eq_true rfl) rfl hd hf kk
  | ⟨4, _⟩, hf => z_put B (k := 2) (ce := 16) (ks := 2) iX4 tyX4 tyX4_ok nmX4 rfl (wE_o_S ⟨4, by decide⟩) (Nat.le_of_ble_eq_true rfl) kw_165 rfl rfl (Nat.le_of_ble_eq_true rfl) rfl hd hf kk
  | ⟨5, _⟩, hf => z_put B (k := 2) (ce := 17) (ks := 2) iX4 tyX4 tyX4_ok nmX4 rfl (wE_o_S ⟨5, by decide⟩) (Nat.le_of_ble_eq_true rfl) kw_165 rfl rfl (Nat.le_of_ble_eq_true rfl) rfl hd hf kk
theorem fE_p_X2_S_proof (B : zC X nL (wdE adr cI cZ cS tL tH) cc RX2 ret rm) (p : Fin 6) {x : Int32} {K : ST → Option β} (hd : decode cc pc = .ok (.putfield 239, 3)) (hf : zLet (zUp σ (12 + p.val) 3 x) K = some r) (kk : ∀ σ1, K σ1 = some r → zJ X nL (wdE adr cI cZ cS tL tH) z (pc + 3) L st σ1) : zJ X nL (wdE adr cI cZ cS tL tH) z pc L (.int x :: .ref (adr (12 + p.val)) :: st) σ :=
  match p, hf with
  | ⟨0, _⟩, hf => z_put B (k := 3) (ce := 12) (ks := 3) iX4 tyX4 tyX4_ok nmX4 rfl (wE_o_S ⟨0, by decide⟩) (Nat.le_of_ble_eq_true rfl) kw_167 rfl rfl (Nat.le_of_ble_eq_true rfl) rfl hd hf kk
  | ⟨1, _⟩, hf => z_put B (k := 3) (ce := 13) (ks := 3) iX4 tyX4 tyX4_ok nmX4 rfl (wE_o_S ⟨1, by decide⟩) (Nat.le_of_ble_eq_true rfl) kw_167 rfl rfl (Nat.le_of_ble_eq_true rfl) rfl hd hf kk
  | ⟨2, _⟩, hf => z_put B (k := 3) (ce := 14) (ks := 3) iX4 tyX4 tyX4_ok nmX4 rfl (wE_o_S ⟨2, by decide⟩) (Nat.le_of_ble_eq_true rfl) kw_167 rfl rfl (Nat.le_of_ble_eq_true rfl) rfl hd hf kk
  | ⟨3, _⟩, hf => z_put B (k := 3) (ce := 15) (ks := 3) iX4 tyX4 tyX4_ok nmX4 rfl (wE_o_S ⟨3, by decide⟩) (Nat.le_of_ble_eq_true rfl) kw_167 rfl rfl (Nat.le_of_ble_eq_true rfl) rfl hd hf kk
  | ⟨4, _⟩, hf => z_put B (k := 3) (ce := 16) (ks := 3) iX4 tyX4 tyX4_ok nmX4 rfl (wE_o_S ⟨4, by decide⟩) (Nat.le_of_ble_eq_true rfl) kw_167 rfl rfl (Nat.le_of_ble_eq_true rfl) rfl hd hf kk
  | ⟨5, _⟩, hf => z_put B (k := 3) (ce := 17) (ks := 3) iX4 tyX4 tyX4_ok nmX4 rfl (wE_o_S ⟨5, by decide⟩) (Nat.le_of_ble_eq_true rfl) kw_167 rfl rfl (Nat.le_of_ble_eq_true rfl) rfl hd hf kk
end FE
set_option maxRecDepth 20000 in
set_option maxHeartbeats 2000000 in
theorem kw_91 : Cond.constant RX1 15 (1000003) ∈ zTb := zIn1 36 rfl rfl
set_option maxRecDepth 20000 in
set_option maxHeartbeats 2000000 in
theorem kw_664 : Cond.constant RX4 51 (-2147483648) ∈ zTb := zIn3 129 rfl rfl
set_option maxRecDepth 20000 in
set_option maxHeartbeats 2000000 in
theorem kw_454 : Cond.methodLink RX0 56 Lib.Math.max.name ∈ zTb := zIn2 159 rfl rfl
set_option maxRecDepth 20000 in
set_option maxHeartbeats 2000000 in
theorem kw_343 : Cond.fieldLink RX7 240 "AheadPlanner" "LOWEST" "[I" ∈ zTb := zIn2 48 rfl rfl
set_option maxRecDepth 20000 in
set_option maxHeartbeats 2000000 in
theorem kw_345 : Cond.fieldLink RX7 243 "AheadPlanner" "HIGHEST" "[I" ∈ zTb := zIn2 50 rfl rfl
set_option maxRecDepth 20000 in
set_option maxHeartbeats 2000000 in
theorem kw_431 : Cond.methodLink RX2 189 Lib.Math.min.name ∈ zTb := zIn2 136 rfl rfl
set_option maxRecDepth 20000 in
set_option maxHeartbeats 2000000 in
theorem kw_424 : Cond.methodLink RX2 198 Lib.Math.max.name ∈ zTb := zIn2 129 rfl rfl
set_option maxRecDepth 20000 in
set_option maxHeartbeats 2000000 in
theorem kw_411 : Cond.constantLong RX0 50 (9223372036854775807) ∈ zTb := zIn2 116 rfl rfl
set_option maxRecDepth 20000 in
set_option maxHeartbeats 2000000 in
theorem kw_480 : Cond.methodLink RX2 233 Lib.Math.abs.name ∈ zTb := zIn2 185 rfl rfl
set_option maxRecDepth 20000 in
set_option maxHeartbeats 2000000 in
theorem kw_471 : Cond.methodLink RX4 45 Lib.Math.min.name ∈ zTb := zIn2 176 rfl rfl
set_option maxRecDepth 20000 in
set_option maxHeartbeats 2000000 in
theorem kcV_X3_28 : zKV RX3 28 yX3_cellOf cX3_cellOf 2 (some .int) 1 := ⟨zIn3 154 rfl rfl, zIn3 155 rfl rfl, zIn3 156 rfl rfl, zIn1 7 rfl rfl, zIn3 157 rfl rfl, by decide, by decide, by decide⟩
set_option maxRecDepth 20000 in
set_option maxHeartbeats 2000000 in
theorem kcV_X0_62 : zKV RX0 62 yX0_isWaitingFor cX0_isWaitingFor 3 (some .boolean) 2 := ⟨zIn3 12 rfl rfl, zIn3 13 rfl rfl, zIn3 14 rfl rfl, zIn1 5 rfl rfl, zIn3 15 rfl rfl, by decide, by decide, by decide⟩
set_option maxRecDepth 20000 in
set_option maxHeartbeats 2000000 in
theorem kcV_X0_66 : zKV RX0 66 yX4_wayTo cX4_wayTo 2 (some .int) 1 := ⟨zIn3 138 rfl rfl, zIn3 139 rfl rfl, zIn3 140 rfl rfl, zIn1 6 rfl rfl, zIn3 141 rfl rfl, by decide, by decide, by decide⟩
set_option maxRecDepth 20000 in
set_option maxHeartbeats 2000000 in
theorem kcV_X0_74 : zKV RX0 74 yX0_rankOf cX0_rankOf 4 (some .int) 1 := ⟨zIn3 115 rfl rfl, zIn3 116 rfl rfl, zIn3 117 rfl rfl, zIn1 5 rfl rfl, zIn3 118 rfl rfl, by decide, by decide, by decide⟩
set_option maxRecDepth 20000 in
set_option maxHeartbeats 2000000 in
theorem kcV_X0_44 : zKV RX0 44 yX0_mark cX0_mark 3 none 2 := ⟨zIn2 72 rfl rfl, zIn2 73 rfl rfl, zIn2 74 rfl rfl, zIn1 5 rfl rfl, zIn2 75 rfl rfl, by decide, by decide, by decide⟩
set_option maxRecDepth 20000 in
set_option maxHeartbeats 2000000 in
theorem kcV_X2_85 : zKV RX2 85 yX3_clear cX3_clear 1 none 0 := ⟨zIn2 80 rfl rfl, zIn2 81 rfl rfl, zIn2 82 rfl rfl, zIn1 7 rfl rfl, zIn2 83 rfl rfl, by decide, by decide, by decide⟩
set_option maxRecDepth 20000 in
set_option maxHeartbeats 2000000 in
theorem kcV_X2_86 : zKV RX2 86 yX6_clear cX6_clear 1 none 0 := ⟨zIn2 84 rfl rfl, zIn2 85 rfl rfl, zIn2 86 rfl rfl, zIn1 8 rfl rfl, zIn2 87 rfl rfl, by decide, by decide, by decide⟩
set_option maxRecDepth 20000 in
set_option maxHeartbeats 2000000 in
theorem kcV_X2_82 : zKV RX2 82 yX4_leave cX4_leave 1 none 0 := ⟨zIn2 76 rfl rfl, zIn2 77 rfl rfl, zIn2 78 rfl rfl, zIn1 6 rfl rfl, zIn2 79 rfl rfl, by decide, by decide, by decide⟩
set_option maxRecDepth 20000 in
set_option maxHeartbeats 2000000 in
theorem kcS_X2_73 : zKS RX2 73 yJ7_fill_53178 cJ7_fill_53178 4 none 2 := ⟨zIn2 65 rfl rfl, zIn2 66 rfl rfl, zIn1 11 rfl rfl, zIn2 67 rfl rfl, by decide, by decide, by decide⟩
set_option maxRecDepth 20000 in
set_option maxHeartbeats 2000000 in
theorem kcV_X2_79 : zKV RX2 79 yX0_clear cX0_clear 2 none 0 := ⟨zIn2 68 rfl rfl, zIn2 69 rfl rfl, zIn2 70 rfl rfl, zIn1 5 rfl rfl, zIn2 71 rfl rfl, by decide, by decide, by decide⟩
set_option maxRecDepth 20000 in
set_option maxHeartbeats 2000000 in
theorem kcV_X2_148 : zKV RX2 148 yX3_add cX3_add 5 none 3 := ⟨zIn2 224 rfl rfl, zIn2 225 rfl rfl, zIn2 226 rfl rfl, zIn1 7 rfl rfl, zIn2 227 rfl rfl, by decide, by decide, by decide⟩
set_option maxRecDepth 20000 in
set_option maxHeartbeats 2000000 in
theorem kcV_X2_152 : zKV RX2 152 yX2_joinOthers cX2_joinOthers 4 none 1 := ⟨zIn2 228 rfl rfl, zIn2 229 rfl rfl, zIn2 230 rfl rfl, zIn1 3 rfl rfl, zIn2 231 rfl rfl, by decide, by decide, by decide⟩
set_option maxRecDepth 20000 in
set_option maxHeartbeats 2000000 in
theorem kcV_X2_248 : zKV RX2 248 yX4_edgeIsBeyond cX4_edgeIsBeyond 2 (some .boolean) 1 := ⟨zIn2 208 rfl rfl, zIn2 209 rfl rfl, zIn2 210 rfl rfl, zIn1 6 rfl rfl, zIn2 211 rfl rfl, by decide, by decide, by decide⟩
set_option maxRecDepth 20000 in
set_option maxHeartbeats 2000000 in
theorem kcV_X2_195 : zKV RX2 195 yX6_add cX6_add 6 none 4 := ⟨zIn2 139 rfl rfl, zIn2 140 rfl rfl, zIn2 141 rfl rfl, zIn1 8 rfl rfl, zIn2 142 rfl rfl, by decide, by decide, by decide⟩
set_option maxRecDepth 20000 in
set_option maxHeartbeats 2000000 in
theorem kcV_X2_186 : zKV RX2 186 yX2_changeWindow cX2_changeWindow 4 none 2 := ⟨zIn2 132 rfl rfl, zIn2 133 rfl rfl, zIn2 134 rfl rfl, zIn1 3 rfl rfl, zIn2 135 rfl rfl, by decide, by decide, by decide⟩
set_option maxRecDepth 20000 in
set_option maxHeartbeats 2000000 in
theorem kcV_X2_134 : zKV RX2 134 yX2_asksForBatch cX2_asksForBatch 2 (some .boolean) 1 := ⟨zIn2 204 rfl rfl, zIn2 205 rfl rfl, zIn2 206 rfl rfl, zIn1 3 rfl rfl, zIn2 207 rfl rfl, by decide, by decide, by decide⟩
set_option maxRecDepth 20000 in
set_option maxHeartbeats 2000000 in
theorem kcV_X2_111 : zKV RX2 111 yX0_slotOf cX0_slotOf 2 (some .int) 1 := ⟨zIn2 100 rfl rfl, zIn2 101 rfl rfl, zIn2 102 rfl rfl, zIn1 5 rfl rfl, zIn2 103 rfl rfl, by decide, by decide, by decide⟩
set_option maxRecDepth 20000 in
set_option maxHeartbeats 2000000 in
theorem kcV_X2_162 : zKV RX2 162 yX0_put cX0_put 5 none 3 := ⟨zIn2 143 rfl rfl, zIn2 144 rfl rfl, zIn2 145 rfl rfl, zIn1 5 rfl rfl, zIn2 146 rfl rfl, by decide, by decide, by decide⟩
set_option maxRecDepth 20000 in
set_option maxHeartbeats 2000000 in
theorem kcV_X0_52 : zKV RX0 52 yX0_takeOut cX0_takeOut 3 (some .int) 1 := ⟨zIn2 117 rfl rfl, zIn2 118 rfl rfl, zIn2 119 rfl rfl, zIn1 5 rfl rfl, zIn2 120 rfl rfl, by decide, by decide, by decide⟩
set_option maxRecDepth 20000 in
set_option maxHeartbeats 2000000 in
theorem kcV_X2_155 : zKV RX2 155 yX0_makeRoom cX0_makeRoom 11 (some .int) 3 := ⟨zIn2 112 rfl rfl, zIn2 113 rfl rfl, zIn2 114 rfl rfl, zIn1 5 rfl rfl, zIn2 115 rfl rfl, by decide, by decide, by decide⟩
set_option maxRecDepth 20000 in
set_option maxHeartbeats 2000000 in
theorem kcV_X2_171 : zKV RX2 171 yX2_streamOf cX2_streamOf 3 (some (.object "AheadPlanner$Stream")) 1 := ⟨zIn2 125 rfl rfl, zIn2 126 rfl rfl, zIn2 127 rfl rfl, zIn1 3 rfl rfl, zIn2 128 rfl rfl, by decide, by decide, by decide⟩
set_option maxRecDepth 20000 in
set_option maxHeartbeats 2000000 in
theorem kcV_X2_159 : zKV RX2 159 yX2_waste cX2_waste 3 none 1 := ⟨zIn2 121 rfl rfl, zIn2 122 rfl rfl, zIn2 123 rfl rfl, zIn1 3 rfl rfl, zIn2 124 rfl rfl, by decide, by decide, by decide⟩
set_option maxRecDepth 20000 in
set_option maxHeartbeats 2000000 in
theorem kcV_X2_254 : zKV RX2 254 yX2_fetchFor cX2_fetchFor 5 none 3 := ⟨zIn2 220 rfl rfl, zIn2 221 rfl rfl, zIn2 222 rfl rfl, zIn1 3 rfl rfl, zIn2 223 rfl rfl, by decide, by decide, by decide⟩
set_option maxRecDepth 20000 in
set_option maxHeartbeats 2000000 in
theorem kcV_X2_107 : zKV RX2 107 yX2_hasBlock cX2_hasBlock 2 (some .boolean) 1 := ⟨zIn2 96 rfl rfl, zIn2 97 rfl rfl, zIn2 98 rfl rfl, zIn1 3 rfl rfl, zIn2 99 rfl rfl, by decide, by decide, by decide⟩
set_option maxRecDepth 20000 in
set_option maxHeartbeats 2000000 in
theorem kcV_X2_115 : zKV RX2 115 yX1_isBad cX1_isBad 2 (some .boolean) 1 := ⟨zIn2 104 rfl rfl, zIn2 105 rfl rfl, zIn2 106 rfl rfl, zIn1 2 rfl rfl, zIn2 107 rfl rfl, by decide, by decide, by decide⟩
set_option maxRecDepth 20000 in
set_option maxHeartbeats 2000000 in
theorem kcV_X2_251 : zKV RX2 251 yX2_mayGoTo cX2_mayGoTo 2 (some .boolean) 1 := ⟨zIn2 216 rfl rfl, zIn2 217 rfl rfl, zIn2 218 rfl rfl, zIn1 3 rfl rfl, zIn2 219 rfl rfl, by decide, by decide, by decide⟩
set_option maxRecDepth 20000 in
set_option maxHeartbeats 2000000 in
theorem kcV_X2_138 : zKV RX2 138 yX2_runBatch cX2_runBatch 5 none 2 := ⟨zIn2 212 rfl rfl, zIn2 213 rfl rfl, zIn2 214 rfl rfl, zIn1 3 rfl rfl, zIn2 215 rfl rfl, by decide, by decide, by decide⟩
set_option maxRecDepth 20000 in
set_option maxHeartbeats 2000000 in
theorem kcV_X2_204 : zKV RX2 204 yX2_steppingPlace cX2_steppingPlace 5 (some .int) 1 := ⟨zIn2 164 rfl rfl, zIn2 165 rfl rfl, zIn2 166 rfl rfl, zIn1 3 rfl rfl, zIn2 167 rfl rfl, by decide, by decide, by decide⟩
set_option maxRecDepth 20000 in
set_option maxHeartbeats 2000000 in
theorem kcV_X2_130 : zKV RX2 130 yX2_streamAt cX2_streamAt 2 (some (.object "AheadPlanner$Stream")) 1 := ⟨zIn2 168 rfl rfl, zIn2 169 rfl rfl, zIn2 170 rfl rfl, zIn1 3 rfl rfl, zIn2 171 rfl rfl, by decide, by decide, by decide⟩
set_option maxRecDepth 20000 in
set_option maxHeartbeats 2000000 in
theorem kcV_X2_210 : zKV RX2 210 yX2_placeWithLast cX2_placeWithLast 3 (some .int) 1 := ⟨zIn2 177 rfl rfl, zIn2 178 rfl rfl, zIn2 179 rfl rfl, zIn1 3 rfl rfl, zIn2 180 rfl rfl, by decide, by decide, by decide⟩
set_option maxRecDepth 20000 in
set_option maxHeartbeats 2000000 in
theorem kcV_X2_213 : zKV RX2 213 yX2_pairingPlace cX2_pairingPlace 7 (some .int) 1 := ⟨zIn2 181 rfl rfl, zIn2 182 rfl rfl, zIn2 183 rfl rfl, zIn1 3 rfl rfl, zIn2 184 rfl rfl, by decide, by decide, by decide⟩
set_option maxRecDepth 20000 in
set_option maxHeartbeats 2000000 in
theorem kcV_X2_219 : zKV RX2 219 yX2_openPlace cX2_openPlace 6 (some .int) 0 := ⟨zIn2 192 rfl rfl, zIn2 193 rfl rfl, zIn2 194 rfl rfl, zIn1 3 rfl rfl, zIn2 195 rfl rfl, by decide, by decide, by decide⟩
set_option maxRecDepth 20000 in
set_option maxHeartbeats 2000000 in
theorem kcV_X2_236 : zKV RX2 236 yX4_begin cX4_begin 3 none 2 := ⟨zIn2 200 rfl rfl, zIn2 201 rfl rfl, zIn2 202 rfl rfl, zIn1 6 rfl rfl, zIn2 203 rfl rfl, by decide, by decide, by decide⟩
set_option maxRecDepth 20000 in
set_option maxHeartbeats 2000000 in
theorem kcV_X2_223 : zKV RX2 223 yX2_settle cX2_settle 3 none 2 := ⟨zIn2 196 rfl rfl, zIn2 197 rfl rfl, zIn2 198 rfl rfl, zIn1 3 rfl rfl, zIn2 199 rfl rfl, by decide, by decide, by decide⟩
set_option maxRecDepth 20000 in
set_option maxHeartbeats 2000000 in
theorem kcV_X2_216 : zKV RX2 216 yX4_pair cX4_pair 2 none 1 := ⟨zIn2 188 rfl rfl, zIn2 189 rfl rfl, zIn2 190 rfl rfl, zIn1 6 rfl rfl, zIn2 191 rfl rfl, by decide, by decide, by decide⟩
set_option maxRecDepth 20000 in
set_option maxHeartbeats 2000000 in
theorem kcV_X2_207 : zKV RX2 207 yX4_step cX4_step 2 none 1 := ⟨zIn2 172 rfl rfl, zIn2 173 rfl rfl, zIn2 174 rfl rfl, zIn1 6 rfl rfl, zIn2 175 rfl rfl, by decide, by decide, by decide⟩
set_option maxRecDepth 20000 in
set_option maxHeartbeats 2000000 in
theorem kcV_X2_127 : zKV RX2 127 yX2_findStream cX2_findStream 4 (some .int) 1 := ⟨zIn2 160 rfl rfl, zIn2 161 rfl rfl, zIn2 162 rfl rfl, zIn1 3 rfl rfl, zIn2 163 rfl rfl, by decide, by decide, by decide⟩
set_option maxRecDepth 20000 in
set_option maxHeartbeats 2000000 in
theorem kcV_X2_180 : zKV RX2 180 yX0_toCome cX0_toCome 4 (some .int) 3 := ⟨zIn2 155 rfl rfl, zIn2 156 rfl rfl, zIn2 157 rfl rfl, zIn1 5 rfl rfl, zIn2 158 rfl rfl, by decide, by decide, by decide⟩
set_option maxRecDepth 20000 in
set_option maxHeartbeats 2000000 in
theorem kcV_X2_174 : zKV RX2 174 yX0_touch cX0_touch 3 (some .boolean) 1 := ⟨zIn2 151 rfl rfl, zIn2 152 rfl rfl, zIn2 153 rfl rfl, zIn1 5 rfl rfl, zIn2 154 rfl rfl, by decide, by decide, by decide⟩
set_option maxRecDepth 20000 in
set_option maxHeartbeats 2000000 in
theorem kcV_X2_124 : zKV RX2 124 yX2_hit cX2_hit 4 none 1 := ⟨zIn2 147 rfl rfl, zIn2 148 rfl rfl, zIn2 149 rfl rfl, zIn1 3 rfl rfl, zIn2 150 rfl rfl, by decide, by decide, by decide⟩
set_option maxRecDepth 20000 in
set_option maxHeartbeats 2000000 in
theorem kcV_X2_120 : zKV RX2 120 yX2_admit cX2_admit 3 none 1 := ⟨zIn2 108 rfl rfl, zIn2 109 rfl rfl, zIn2 110 rfl rfl, zIn1 3 rfl rfl, zIn2 111 rfl rfl, by decide, by decide, by decide⟩
set_option maxRecDepth 20000 in
set_option maxHeartbeats 2000000 in
theorem kcV_X2_267 : zKV RX2 267 yX2_nextToFetch cX2_nextToFetch 2 (some .int) 1 := ⟨zIn3 16 rfl rfl, zIn3 17 rfl rfl, zIn3 18 rfl rfl, zIn1 3 rfl rfl, zIn3 19 rfl rfl, by decide, by decide, by decide⟩
set_option maxRecDepth 20000 in
set_option maxHeartbeats 2000000 in
theorem kcV_X2_264 : zKV RX2 264 yX0_waitingFor cX0_waitingFor 4 (some .int) 1 := ⟨zIn3 8 rfl rfl, zIn3 9 rfl rfl, zIn3 10 rfl rfl, zIn1 5 rfl rfl, zIn3 11 rfl rfl, by decide, by decide, by decide⟩
set_option maxRecDepth 20000 in
set_option maxHeartbeats 2000000 in
theorem kcV_X2_271 : zKV RX2 271 yX2_streamsThere cX2_streamsThere 4 (some .int) 1 := ⟨zIn4 31 rfl rfl, zIn4 32 rfl rfl, zIn4 33 rfl rfl, zIn1 3 rfl rfl, zIn4 34 rfl rfl, by decide, by decide, by decide⟩
set_option maxRecDepth 20000 in
set_option maxHeartbeats 2000000 in
theorem kcV_X2_277 : zKV RX2 277 yX1_badBelow cX1_badBelow 4 (some .int) 1 := ⟨zIn4 35 rfl rfl, zIn4 36 rfl rfl, zIn4 37 rfl rfl, zIn1 2 rfl rfl, zIn4 38 rfl rfl, by decide, by decide, by decide⟩
set_option maxRecDepth 20000 in
set_option maxHeartbeats 2000000 in
theorem kmS_min : Cond.static Lib.Math.min.name ∈ zTb := zIn2 137 rfl rfl
set_option maxRecDepth 20000 in
set_option maxHeartbeats 2000000 in
theorem kmC_min : Cond.code Lib.Math.min.name Lib.Math.min.code 2 (some .int) ∈ zTb := zIn2 138 rfl rfl
set_option maxRecDepth 20000 in
set_option maxHeartbeats 2000000 in
theorem kmS_max : Cond.static Lib.Math.max.name ∈ zTb := zIn2 130 rfl rfl
set_option maxRecDepth 20000 in
set_option maxHeartbeats 2000000 in
theorem kmC_max : Cond.code Lib.Math.max.name Lib.Math.max.code 2 (some .int) ∈ zTb := zIn2 131 rfl rfl
set_option maxRecDepth 20000 in
set_option maxHeartbeats 2000000 in
theorem kmS_abs : Cond.static Lib.Math.abs.name ∈ zTb := zIn2 186 rfl rfl
set_option maxRecDepth 20000 in
set_option maxHeartbeats 2000000 in
theorem kmC_abs : Cond.code Lib.Math.abs.name Lib.Math.abs.code 1 (some .int) ∈ zTb := zIn2 187 rfl rfl
set_option maxRecDepth 20000 in
set_option maxHeartbeats 2000000 in
theorem kmI : Cond.initialized "java/lang/Math" ∈ zTb := zIn1 12 rfl rfl
set_option maxRecDepth 20000 in
set_option maxHeartbeats 2000000 in
theorem kn_static : Cond.static yX7_isTermValue ∈ zTb := zIn2 46 rfl rfl
set_option maxRecDepth 20000 in
set_option maxHeartbeats 2000000 in
theorem kn_init : Cond.initialized yX7_isTermValue.cls ∈ zTb := zIn1 1 rfl rfl
set_option maxRecDepth 20000 in
set_option maxHeartbeats 2000000 in
theorem kn_code : Cond.code yX7_isTermValue cX7_isTermValue 2 (some .boolean) ∈ zTb := zIn2 47 rfl rfl
