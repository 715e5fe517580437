theorem zc_bipush_m64 : (Int8.ofInt (-64)).toInt32 = ((-64) : Int32) := by decide
theorem zc_sipush_m10000 : (Int16.ofInt (-10000)).toInt32 = ((-10000) : Int32) := by decide
theorem zc_sipush_129 : (Int16.ofInt (129)).toInt32 = ((129) : Int32) := by decide
section FT
variable {X : zX} {nL : Nat} {z : zV} {pc : Nat} {L : List (Nat × Value)} {st : List Value} {σ : ST} {cc : ByteArray} {own : String} {ret : Option FieldType} {rm : Room} {β : Type} {r : β} {adr : Nat → Nat} {cI cZ cS cD cE : ClassId} {tL tH : Nat}
theorem sfT_ZL (B : zC X nL (wdT adr cI cZ cS cD cE tL tH) cc own ret rm) : va_Z "AheadPlanner" "LOWEST" "[I" (.ref tL) X.2.2.2.2.2.2.2.2.2.2.2 X.2.2.2.2.1 X.2.2.2.2.1.heap :=
  have h : sfE tL tH X.2.2.2.2.2.2.2.2.2.2.2 X.2.2.2.2.1 X.2.2.2.2.1.heap := B.2.2.2.2.2.2.2.2.2.2.2
  h.1
theorem sfT_TL (B : zC X nL (wdT adr cI cZ cS cD cE tL tH) cc own ret rm) : va_T .int tL 10 (fun j => .int (lowF j)) X.2.2.2.2.2.2.2.2.2.2.2 X.2.2.2.2.1 X.2.2.2.2.1.heap :=
  have h : sfE tL tH X.2.2.2.2.2.2.2.2.2.2.2 X.2.2.2.2.1 X.2.2.2.2.1.heap := B.2.2.2.2.2.2.2.2.2.2.2
  h.2.1
theorem sfT_ZH (B : zC X nL (wdT adr cI cZ cS cD cE tL tH) cc own ret rm) : va_Z "AheadPlanner" "HIGHEST" "[I" (.ref tH) X.2.2.2.2.2.2.2.2.2.2.2 X.2.2.2.2.1 X.2.2.2.2.1.heap :=
  have h : sfE tL tH X.2.2.2.2.2.2.2.2.2.2.2 X.2.2.2.2.1 X.2.2.2.2.1.heap := B.2.2.2.2.2.2.2.2.2.2.2
  h.2.2.1
theorem sfT_TH (B : zC X nL (wdT adr cI cZ cS cD cE tL tH) cc own ret rm) : va_T .int tH 10 (fun j => .int (highF j)) X.2.2.2.2.2.2.2.2.2.2.2 X.2.2.2.2.1 X.2.2.2.2.1.heap :=
  have h : sfE tL tH X.2.2.2.2.2.2.2.2.2.2.2 X.2.2.2.2.1 X.2.2.2.2.1.heap := B.2.2.2.2.2.2.2.2.2.2.2
  h.2.2.2.1
set_option maxRecDepth 20000 in
set_option maxHeartbeats 2000000 in
theorem wT_o_P : ((wdT adr cI cZ cS cD cE tL tH).1 σ)[111]? = some ((adr 600), .inr (7, [.ref (a0 adr 25), .ref (a0 adr 0), .ref (a1 adr 0), .ref (adr 500), .ref (adr 601), .ref (adr 602), .ref (adr 603)])) := rfl
set_option maxRecDepth 20000 in
set_option maxHeartbeats 2000000 in
theorem wT_o_E0 : ((wdT adr cI cZ cS cD cE tL tH).1 σ)[0]? = some ((a0 adr 0), .inr (2, fdE_E (a0 adr) (pE 0 0 σ))) := rfl
set_option maxRecDepth 20000 in
set_option maxHeartbeats 2000000 in
theorem wT_o_C0 : ((wdT adr cI cZ cS cD cE tL tH).1 σ)[3]? = some ((a0 adr 3), .inr (0, fdE_C (a0 adr) (pE 0 0 σ))) := rfl
set_option maxRecDepth 20000 in
set_option maxHeartbeats 2000000 in
theorem wT_o_H0 : ((wdT adr cI cZ cS cD cE tL tH).1 σ)[18]? = some ((a0 adr 18), .inr (3, fdE_H (a0 adr) (pE 0 0 σ))) := rfl
set_option maxRecDepth 20000 in
set_option maxHeartbeats 2000000 in
theorem wT_o_G0 : ((wdT adr cI cZ cS cD cE tL tH).1 σ)[22]? = some ((a0 adr 22), .inr (6, fdE_G (a0 adr) (pE 0 0 σ))) := rfl
set_option maxRecDepth 20000 in
set_option maxHeartbeats 2000000 in
theorem wT_o_D0 : ((wdT adr cI cZ cS cD cE tL tH).1 σ)[25]? = some ((a0 adr 25), .inr (1, fdE_D (a0 adr) (pE 0 0 σ))) := rfl
set_option maxRecDepth 20000 in
set_option maxHeartbeats 2000000 in
theorem wT_o_E1 : ((wdT adr cI cZ cS cD cE tL tH).1 σ)[27]? = some ((a1 adr 0), .inr (2, fdE_E (a1 adr) (pE 1 0 σ))) := rfl
set_option maxRecDepth 20000 in
set_option maxHeartbeats 2000000 in
theorem wT_o_U : ((wdT adr cI cZ cS cD cE tL tH).1 σ)[106]? = some ((adr 500), .inr (5, [.ref (a0 adr 18), .ref (adr 501), .ref (adr 502), .ref (adr 503), .ref (adr 504), .int (σ 500 5)])) := rfl
set_option maxRecDepth 20000 in
set_option maxHeartbeats 2000000 in
theorem wT_o_E2 : ((wdT adr cI cZ cS cD cE tL tH).1 σ)[52]? = some ((a2 adr 0), .inr (2, fdE_E (a2 adr) (pE 2 1 σ))) := rfl
set_option maxRecDepth 20000 in
set_option maxHeartbeats 2000000 in
theorem wT_o_E3 : ((wdT adr cI cZ cS cD cE tL tH).1 σ)[77]? = some ((a3 adr 0), .inr (2, fdE_E (a3 adr) (pE 3 2 σ))) := rfl
set_option maxRecDepth 20000 in
set_option maxHeartbeats 2000000 in
theorem wT_o_D1 : ((wdT adr cI cZ cS cD cE tL tH).1 σ)[102]? = some ((adr 402), .inr (1, [.ref (adr 403)])) := rfl
set_option maxRecDepth 20000 in
set_option maxHeartbeats 2000000 in
theorem wT_o_D2 : ((wdT adr cI cZ cS cD cE tL tH).1 σ)[104]? = some ((adr 404), .inr (1, [.ref (adr 405)])) := rfl
set_option maxRecDepth 20000 in
set_option maxHeartbeats 2000000 in
theorem wT_o_S (p : Fin 6) : ((wdT adr cI cZ cS cD cE tL tH).1 σ)[12 + p.val]? = some (a0 adr (12 + p.val), .inr (4, fdE_S (pE 0 0 σ) (12 + p.val))) := by
  match p with
  | ⟨0, _⟩ => rfl
  | ⟨1, _⟩ => rfl
  | ⟨2, _⟩ => rfl
  | ⟨3, _⟩ => rfl
  | ⟨4, _⟩ => rfl
  | ⟨5, _⟩ => rfl
set_option maxRecDepth 20000 in
set_option maxHeartbeats 2000000 in
theorem wT_o_S2 (p : Fin 6) : ((wdT adr cI cZ cS cD cE tL tH).1 σ)[39 + p.val]? = some (a1 adr (12 + p.val), .inr (4, fdE_S (pE 1 0 σ) (12 + p.val))) := by
  match p with
  | ⟨0, _⟩ => rfl
  | ⟨1, _⟩ => rfl
  | ⟨2, _⟩ => rfl
  | ⟨3, _⟩ => rfl
  | ⟨4, _⟩ => rfl
  | ⟨5, _⟩ => rfl
set_option maxRecDepth 20000 in
set_option maxHeartbeats 2000000 in
theorem wT_g_E0_counts : ((wdT adr cI cZ cS cD cE tL tH).1 σ)[2]? = some ((a0 adr 2), .inl (cI, 34, .inl (σ 2))) := rfl
theorem fT_l_E0_counts (B : zC X nL (wdT adr cI cZ cS cD cE tL tH) cc own ret rm) {i : Int32} {K : Int32 → Option β} (hd : decode cc pc = .ok (.iaload, 1)) (hf : zGet (σ 2) 34 i K = some r) (kk : ∀ v, K v = some r → zJ X nL (wdT adr cI cZ cS cD cE tL tH) z (pc + 1) L (.int v :: st) σ) : zJ X nL (wdT adr cI cZ cS cD cE tL tH) z pc L (.int i :: .ref (a0 adr 2) :: st) σ := z_iald B (t0 := 0) wT_g_E0_counts rfl hd hf kk
set_option maxRecDepth 20000 in
set_option maxHeartbeats 2000000 in
theorem wT_g_E0_terms : ((wdT adr cI cZ cS cD cE tL tH).1 σ)[1]? = some ((a0 adr 1), .inl (cI, 10, .inl (σ 1))) := rfl
theorem fT_l_E0_terms (B : zC X nL (wdT adr cI cZ cS cD cE tL tH) cc own ret rm) {i : Int32} {K : Int32 → Option β} (hd : decode cc pc = .ok (.iaload, 1)) (hf : zGet (σ 1) 10 i K = some r) (kk : ∀ v, K v = some r → zJ X nL (wdT adr cI cZ cS cD cE tL tH) z (pc + 1) L (.int v :: st) σ) : zJ X nL (wdT adr cI cZ cS cD cE tL tH) z pc L (.int i :: .ref (a0 adr 1) :: st) σ := z_iald B (t0 := 0) wT_g_E0_terms rfl hd hf kk
set_option maxRecDepth 20000 in
set_option maxHeartbeats 2000000 in
theorem wT_g_E1_counts : ((wdT adr cI cZ cS cD cE tL tH).1 σ)[29]? = some ((a1 adr 2), .inl (cI, 34, .inl (σ 102))) := rfl
theorem fT_l_E1_counts (B : zC X nL (wdT adr cI cZ cS cD cE tL tH) cc own ret rm) {i : Int32} {K : Int32 → Option β} (hd : decode cc pc = .ok (.iaload, 1)) (hf : zGet (σ 102) 34 i K = some r) (kk : ∀ v, K v = some r → zJ X nL (wdT adr cI cZ cS cD cE tL tH) z (pc + 1) L (.int v :: st) σ) : zJ X nL (wdT adr cI cZ cS cD cE tL tH) z pc L (.int i :: .ref (a1 adr 2) :: st) σ := z_iald B (t0 := 0) wT_g_E1_counts rfl hd hf kk
set_option maxRecDepth 20000 in
set_option maxHeartbeats 2000000 in
theorem wT_g_C0_stamps : ((wdT adr cI cZ cS cD cE tL tH).1 σ)[5]? = some ((a0 adr 5), .inl (cI, 64, .inl (σ 5))) := rfl
theorem fT_l_C0_stamps (B : zC X nL (wdT adr cI cZ cS cD cE tL tH) cc own ret rm) {i : Int32} {K : Int32 → Option β} (hd : decode cc pc = .ok (.iaload, 1)) (hf : zGet (σ 5) 64 i K = some r) (kk : ∀ v, K v = some r → zJ X nL (wdT adr cI cZ cS cD cE tL tH) z (pc + 1) L (.int v :: st) σ) : zJ X nL (wdT adr cI cZ cS cD cE tL tH) z pc L (.int i :: .ref (a0 adr 5) :: st) σ := z_iald B (t0 := 0) wT_g_C0_stamps rfl hd hf kk
set_option maxRecDepth 20000 in
set_option maxHeartbeats 2000000 in
theorem wT_g_C0_touched : ((wdT adr cI cZ cS cD cE tL tH).1 σ)[6]? = some ((a0 adr 6), .inl (cI, 64, .inl (σ 6))) := rfl
theorem fT_l_C0_touched (B : zC X nL (wdT adr cI cZ cS cD cE tL tH) cc own ret rm) {i : Int32} {K : Int32 → Option β} (hd : decode cc pc = .ok (.iaload, 1)) (hf : zGet (σ 6) 64 i K = some r) (kk : ∀ v, K v = some r → zJ X nL (wdT adr cI cZ cS cD cE tL tH) z (pc + 1) L (.int v :: st) σ) : zJ X nL (wdT adr cI cZ cS cD cE tL tH) z pc L (.int i :: .ref (a0 adr 6) :: st) σ := z_iald B (t0 := 0) wT_g_C0_touched rfl hd hf kk
set_option maxRecDepth 20000 in
set_option maxHeartbeats 2000000 in
theorem wT_g_C0_owners : ((wdT adr cI cZ cS cD cE tL tH).1 σ)[7]? = some ((a0 adr 7), .inl (cI, 64, .inl (σ 7))) := rfl
theorem fT_l_C0_owners (B : zC X nL (wdT adr cI cZ cS cD cE tL tH) cc own ret rm) {i : Int32} {K : Int32 → Option β} (hd : decode cc pc = .ok (.iaload, 1)) (hf : zGet (σ 7) 64 i K = some r) (kk : ∀ v, K v = some r → zJ X nL (wdT adr cI cZ cS cD cE tL tH) z (pc + 1) L (.int v :: st) σ) : zJ X nL (wdT adr cI cZ cS cD cE tL tH) z pc L (.int i :: .ref (a0 adr 7) :: st) σ := z_iald B (t0 := 0) wT_g_C0_owners rfl hd hf kk
set_option maxRecDepth 20000 in
set_option maxHeartbeats 2000000 in
theorem wT_g_C0_waiting : ((wdT adr cI cZ cS cD cE tL tH).1 σ)[9]? = some ((a0 adr 9), .inl (cZ, 64, .inl (σ 9))) := rfl
theorem fT_l_C0_waiting (B : zC X nL (wdT adr cI cZ cS cD cE tL tH) cc own ret rm) {i : Int32} {K : Int32 → Option β} (hd : decode cc pc = .ok (.baload, 1)) (hf : zGet (σ 9) 64 i K = some r) (kk : ∀ v, K v = some r → zJ X nL (wdT adr cI cZ cS cD cE tL tH) z (pc + 1) L (.int v :: st) σ) : zJ X nL (wdT adr cI cZ cS cD cE tL tH) z pc L (.int i :: .ref (a0 adr 9) :: st) σ := z_zald B (t0 := 1) wT_g_C0_waiting rfl hd hf kk
set_option maxRecDepth 20000 in
set_option maxHeartbeats 2000000 in
theorem wT_g_P_isKept : ((wdT adr cI cZ cS cD cE tL tH).1 σ)[114]? = some ((adr 603), .inl (cZ, 2, .inl (σ 603))) := rfl
theorem fT_l_P_isKept (B : zC X nL (wdT adr cI cZ cS cD cE tL tH) cc own ret rm) {i : Int32} {K : Int32 → Option β} (hd : decode cc pc = .ok (.baload, 1)) (hf : zGet (σ 603) 2 i K = some r) (kk : ∀ v, K v = some r → zJ X nL (wdT adr cI cZ cS cD cE tL tH) z (pc + 1) L (.int v :: st) σ) : zJ X nL (wdT adr cI cZ cS cD cE tL tH) z pc L (.int i :: .ref (adr 603) :: st) σ := z_zald B (t0 := 1) wT_g_P_isKept rfl hd hf kk
set_option maxRecDepth 20000 in
set_option maxHeartbeats 2000000 in
theorem wT_s_P_isKept (g : Nat → Int32) : ((wdT adr cI cZ cS cD cE tL tH).1 σ).set 114 (adr 603, .inl (cZ, 2, .inl g)) = (wdT adr cI cZ cS cD cE tL tH).1 (va_up σ 603 g) := by
  show (wfT0 adr cI cZ cS cD cE σ ++ ([(adr 603, .inl (cZ, 2, .inl (σ 603)))] : va_W)).set 114 (adr 603, .inl (cZ, 2, .inl g)) = wfT0 adr cI cZ cS cD cE (va_up σ 603 g) ++ ([(adr 603, .inl (cZ, 2, .inl (va_up σ 603 g 603)))] : va_W)
  have e : va_up σ 603 g 603 = g := if_pos rfl
  rw [wfT0_603, e, List.set_append_right _ _ (by show 114 ≤ 114; exact Nat.le_refl _)]
  rfl
theorem fT_s_P_isKept (B : zC X nL (wdT adr cI cZ cS cD cE tL tH) cc own ret rm) {i x : Int32} {K : ST → Option β} (hd : decode cc pc = .ok (.bastore, 1)) (hf : zSet σ 603 2 i (vp_nar .boolean x) K = some r) (kk : ∀ σ1, K σ1 = some r → zJ X nL (wdT adr cI cZ cS cD cE tL tH) z (pc + 1) L st σ1) : zJ X nL (wdT adr cI cZ cS cD cE tL tH) z pc L (.int x :: .int i :: .ref (adr 603) :: st) σ := z_zast B (t0 := 1) (ce := 603) wT_g_P_isKept wT_s_P_isKept rfl hd hf kk
theorem fT_KD (B : zC X nL (wdT adr cI cZ cS cD cE tL tH) cc own ret rm) {i : Int32} {a b : Option β} (hd : decode cc pc = .ok (.aaload, 1)) (hf : (if i = 0 then a else if i = 1 then b else none) = some r) (k0 : a = some r → zJ X nL (wdT adr cI cZ cS cD cE tL tH) z (pc + 1) L (.ref (adr 402) :: st) σ) (k1 : b = some r → zJ X nL (wdT adr cI cZ cS cD cE tL tH) z (pc + 1) L (.ref (adr 404) :: st) σ) : zJ X nL (wdT adr cI cZ cS cD cE tL tH) z pc L (.int i :: .ref (adr 601) :: st) σ := by
  by_cases h0 : i = 0
  · have hf := zIfp h0 hf
    subst h0
    exact z_aldq B (q0 := 112) (t0 := 3) rfl rfl (by unfold vp_in; decide) hd (k0 hf)
  · have hf := zIfn h0 hf
    by_cases h1 : i = 1
    · have hf := zIfp h1 hf
      subst h1
      exact z_aldq B (q0 := 112) (t0 := 3) rfl rfl (by unfold vp_in; decide) hd (k1 hf)
    · have hf := zIfn h1 hf
      cases hf
theorem fT_KE (B : zC X nL (wdT adr cI cZ cS cD cE tL tH) cc own ret rm) {i : Int32} {a b : Option β} (hd : decode cc pc = .ok (.aaload, 1)) (hf : (if i = 0 then a else if i = 1 then b else none) = some r) (k0 : a = some r → zJ X nL (wdT adr cI cZ cS cD cE tL tH) z (pc + 1) L (.ref (a2 adr 0) :: st) σ) (k1 : b = some r → zJ X nL (wdT adr cI cZ cS cD cE tL tH) z (pc + 1) L (.ref (a3 adr 0) :: st) σ) : zJ X nL (wdT adr cI cZ cS cD cE tL tH) z pc L (.int i :: .ref (adr 602) :: st) σ := by
  by_cases h0 : i = 0
  · have hf := zIfp h0 hf
    subst h0
    exact z_aldq B (q0 := 113) (t0 := 4) rfl rfl (by unfold vp_in; decide) hd (k0 hf)
  · have hf := zIfn h0 hf
    by_cases h1 : i = 1
    · have hf := zIfp h1 hf
      subst h1
      exact z_aldq B (q0 := 113) (t0 := 4) rfl rfl (by unfold vp_in; decide) hd (k1 hf)
    · have hf := zIfn h1 hf
      cases hf
set_option maxRecDepth 20000 in
set_option maxHeartbeats 2000000 in
theorem kw_315 : Cond.fieldLink RX7 26 (TX7 1).1 (TX7 1).2.1 (TX7 1).2.2.1 ∈ zTb := zIn2 20 rfl rfl
theorem fT_g_P_now (B : zC X nL (wdT adr cI cZ cS cD cE tL tH) cc RX7 ret rm) (hd : decode cc pc = .ok (.getfield 26, 3)) (kk : zJ X nL (wdT adr cI cZ cS cD cE tL tH) z (pc + 3) L (.ref (a0 adr 0) :: st) σ) : zJ X nL (wdT adr cI cZ cS cD cE tL tH) z pc L (.ref (adr 600) :: st) σ := z_get B (k := 1) iX7 rfl wT_o_P (Nat.le_of_ble_eq_true rfl) kw_315 rfl hd kk
set_option maxRecDepth 20000 in
set_option maxHeartbeats 2000000 in
theorem kw_314 : Cond.fieldLink RX7 12 (TX7 0).1 (TX7 0).2.1 (TX7 0).2.2.1 ∈ zTb := zIn2 19 rfl rfl
theorem fT_g_P_disk (B : zC X nL (wdT adr cI cZ cS cD cE tL tH) cc RX7 ret rm) (hd : decode cc pc = .ok (.getfield 12, 3)) (kk : zJ X nL (wdT adr cI cZ cS cD cE tL tH) z (pc + 3) L (.ref (a0 adr 25) :: st) σ) : zJ X nL (wdT adr cI cZ cS cD cE tL tH) z pc L (.ref (adr 600) :: st) σ := z_get B (k := 0) iX7 rfl wT_o_P (Nat.le_of_ble_eq_true rfl) kw_314 rfl hd kk
set_option maxRecDepth 20000 in
set_option maxHeartbeats 2000000 in
theorem kw_253 : Cond.fieldLink RX7 79 (TX2 2).1 (TX2 2).2.1 (TX2 2).2.2.1 ∈ zTb := zIn1 198 rfl rfl
theorem fT_g_E0_counts (B : zC X nL (wdT adr cI cZ cS cD cE tL tH) cc RX7 ret rm) (hd : decode cc pc = .ok (.getfield 79, 3)) (kk : zJ X nL (wdT adr cI cZ cS cD cE tL tH) z (pc + 3) L (.ref (a0 adr 2) :: st) σ) : zJ X nL (wdT adr cI cZ cS cD cE tL tH) z pc L (.ref (a0 adr 0) :: st) σ := z_get B (k := 2) iX2 rfl wT_o_E0 (Nat.le_of_ble_eq_true rfl) kw_253 rfl hd kk
set_option maxRecDepth 20000 in
set_option maxHeartbeats 2000000 in
theorem kw_255 : Cond.fieldLink RX7 106 (TX2 3).1 (TX2 3).2.1 (TX2 3).2.2.1 ∈ zTb := zIn1 200 rfl rfl
theorem fT_g_E0_cache (B : zC X nL (wdT adr cI cZ cS cD cE tL tH) cc RX7 ret rm) (hd : decode cc pc = .ok (.getfield 106, 3)) (kk : zJ X nL (wdT adr cI cZ cS cD cE tL tH) z (pc + 3) L (.ref (a0 adr 3) :: st) σ) : zJ X nL (wdT adr cI cZ cS cD cE tL tH) z pc L (.ref (a0 adr 0) :: st) σ := z_get B (k := 3) iX2 rfl wT_o_E0 (Nat.le_of_ble_eq_true rfl) kw_255 rfl hd kk
set_option maxRecDepth 20000 in
set_option maxHeartbeats 2000000 in
theorem kw_158 : Cond.fieldLink RX7 125 (TX4 0).1 (TX4 0).2.1 (TX4 0).2.2.1 ∈ zTb := zIn1 103 rfl rfl
theorem fT_g_S_number (B : zC X nL (wdT adr cI cZ cS cD cE tL tH) cc RX7 ret rm) (p : Fin 6) {K : Int32 → Option β} (hd : decode cc pc = .ok (.getfield 125, 3)) (hf : zLet (pE 0 0 σ (12 + p.val) 0) K = some r) (kk : ∀ v, K v = some r → zJ X nL (wdT adr cI cZ cS cD cE tL tH) z (pc + 3) L (.int v :: st) σ) : zJ X nL (wdT adr cI cZ cS cD cE tL tH) z pc L (.ref (a0 adr (12 + p.val)) :: st) σ := z_get B (k := 0) iX4 rfl (wT_o_S p) (Nat.le_of_ble_eq_true rfl) kw_158 rfl hd (kk _ hf)
set_option maxRecDepth 20000 in
set_option maxHeartbeats 2000000 in
theorem kw_318 : Cond.fieldLink RX7 46 (TX7 4).1 (TX7 4).2.1 (TX7 4).2.2.1 ∈ zTb := zIn2 23 rfl rfl
theorem fT_g_P_keptDisks (B : zC X nL (wdT adr cI cZ cS cD cE tL tH) cc RX7 ret rm) (hd : decode cc pc = .ok (.getfield 46, 3)) (kk : zJ X nL (wdT adr cI cZ cS cD cE tL tH) z (pc + 3) L (.ref (adr 601) :: st) σ) : zJ X nL (wdT adr cI cZ cS cD cE tL tH) z pc L (.ref (adr 600) :: st) σ := z_get B (k := 4) iX7 rfl wT_o_P (Nat.le_of_ble_eq_true rfl) kw_318 rfl hd kk
set_option maxRecDepth 20000 in
set_option maxHeartbeats 2000000 in
theorem kw_319 : Cond.fieldLink RX7 50 (TX7 5).1 (TX7 5).2.1 (TX7 5).2.2.1 ∈ zTb := zIn2 24 rfl rfl
theorem fT_g_P_keptEngines (B : zC X nL (wdT adr cI cZ cS cD cE tL tH) cc RX7 ret rm) (hd : decode cc pc = .ok (.getfield 50, 3)) (kk : zJ X nL (wdT adr cI cZ cS cD cE tL tH) z (pc + 3) L (.ref (adr 602) :: st) σ) : zJ X nL (wdT adr cI cZ cS cD cE tL tH) z pc L (.ref (adr 600) :: st) σ := z_get B (k := 5) iX7 rfl wT_o_P (Nat.le_of_ble_eq_true rfl) kw_319 rfl hd kk
set_option maxRecDepth 20000 in
set_option maxHeartbeats 2000000 in
theorem kw_320 : Cond.fieldLink RX7 54 (TX7 6).1 (TX7 6).2.1 (TX7 6).2.2.1 ∈ zTb := zIn2 25 rfl rfl
theorem fT_g_P_isKept (B : zC X nL (wdT adr cI cZ cS cD cE tL tH) cc RX7 ret rm) (hd : decode cc pc = .ok (.getfield 54, 3)) (kk : zJ X nL (wdT adr cI cZ cS cD cE tL tH) z (pc + 3) L (.ref (adr 603) :: st) σ) : zJ X nL (wdT adr cI cZ cS cD cE tL tH) z pc L (.ref (adr 600) :: st) σ := z_get B (k := 6) iX7 rfl wT_o_P (Nat.le_of_ble_eq_true rfl) kw_320 rfl hd kk
set_option maxRecDepth 20000 in
set_option maxHeartbeats 2000000 in
theorem kw_111 : Cond.fieldLink RX7 140 (TX0 1).1 (TX0 1).2.1 (TX0 1).2.2.1 ∈ zTb := zIn1 56 rfl rfl
theorem fT_g_C0_stamps (B : zC X nL (wdT adr cI cZ cS cD cE tL tH) cc RX7 ret rm) (hd : decode cc pc = .ok (.getfield 140, 3)) (kk : zJ X nL (wdT adr cI cZ cS cD cE tL tH) z (pc + 3) L (.ref (a0 adr 5) :: st) σ) : zJ X nL (wdT adr cI cZ cS cD cE tL tH) z pc L (.ref (a0 adr 3) :: st) σ := z_get B (k := 1) iX0 rfl wT_o_C0 (Nat.le_of_ble_eq_true rfl) kw_111 rfl hd kk
set_option maxRecDepth 20000 in
set_option maxHeartbeats 2000000 in
theorem kw_119 : Cond.fieldLink RX7 143 (TX0 5).1 (TX0 5).2.1 (TX0 5).2.2.1 ∈ zTb := zIn1 64 rfl rfl
theorem fT_g_C0_waiting (B : zC X nL (wdT adr cI cZ cS cD cE tL tH) cc RX7 ret rm) (hd : decode cc pc = .ok (.getfield 143, 3)) (kk : zJ X nL (wdT adr cI cZ cS cD cE tL tH) z (pc + 3) L (.ref (a0 adr 9) :: st) σ) : zJ X nL (wdT adr cI cZ cS cD cE tL tH) z pc L (.ref (a0 adr 3) :: st) σ := z_get B (k := 5) iX0 rfl wT_o_C0 (Nat.le_of_ble_eq_true rfl) kw_119 rfl hd kk
set_option maxRecDepth 20000 in
set_option maxHeartbeats 2000000 in
theorem kw_116 : Cond.fieldLink RX7 146 (TX0 3).1 (TX0 3).2.1 (TX0 3).2.2.1 ∈ zTb := zIn1 61 rfl rfl
theorem fT_g_C0_owners (B : zC X nL (wdT adr cI cZ cS cD cE tL tH) cc RX7 ret rm) (hd : decode cc pc = .ok (.getfield 146, 3)) (kk : zJ X nL (wdT adr cI cZ cS cD cE tL tH) z (pc + 3) L (.ref (a0 adr 7) :: st) σ) : zJ X nL (wdT adr cI cZ cS cD cE tL tH) z pc L (.ref (a0 adr 3) :: st) σ := z_get B (k := 3) iX0 rfl wT_o_C0 (Nat.le_of_ble_eq_true rfl) kw_116 rfl hd kk
set_option maxRecDepth 20000 in
set_option maxHeartbeats 2000000 in
theorem kw_113 : Cond.fieldLink RX7 149 (TX0 2).1 (TX0 2).2.1 (TX0 2).2.2.1 ∈ zTb := zIn1 58 rfl rfl
theorem fT_g_C0_touched (B : zC X nL (wdT adr cI cZ cS cD cE tL tH) cc RX7 ret rm) (hd : decode cc pc = .ok (.getfield 149, 3)) (kk : zJ X nL (wdT adr cI cZ cS cD cE tL tH) z (pc + 3) L (.ref (a0 adr 6) :: st) σ) : zJ X nL (wdT adr cI cZ cS cD cE tL tH) z pc L (.ref (a0 adr 3) :: st) σ := z_get B (k := 2) iX0 rfl wT_o_C0 (Nat.le_of_ble_eq_true rfl) kw_113 rfl hd kk
set_option maxRecDepth 20000 in
set_option maxHeartbeats 2000000 in
theorem kw_164 : Cond.fieldLink RX7 166 (TX4 2).1 (TX4 2).2.1 (TX4 2).2.2.1 ∈ zTb := zIn1 109 rfl rfl
theorem fT_g_S_stride (B : zC X nL (wdT adr cI cZ cS cD cE tL tH) cc RX7 ret rm) (p : Fin 6) {K : Int32 → Option β} (hd : decode cc pc = .ok (.getfield 166, 3)) (hf : zLet (pE 0 0 σ (12 + p.val) 2) K = some r) (kk : ∀ v, K v = some r → zJ X nL (wdT adr cI cZ cS cD cE tL tH) z (pc + 3) L (.int v :: st) σ) : zJ X nL (wdT adr cI cZ cS cD cE tL tH) z pc L (.ref (a0 adr (12 + p.val)) :: st) σ := z_get B (k := 2) iX4 rfl (wT_o_S p) (Nat.le_of_ble_eq_true rfl) kw_164 rfl hd (kk _ hf)
set_option maxRecDepth 20000 in
set_option maxHeartbeats 2000000 in
theorem kw_260 : Cond.fieldLink RX7 180 (TX2 6).1 (TX2 6).2.1 (TX2 6).2.2.1 ∈ zTb := zIn1 205 rfl rfl
theorem fT_g_E0_log (B : zC X nL (wdT adr cI cZ cS cD cE tL tH) cc RX7 ret rm) (hd : decode cc pc = .ok (.getfield 180, 3)) (kk : zJ X nL (wdT adr cI cZ cS cD cE tL tH) z (pc + 3) L (.ref (a0 adr 22) :: st) σ) : zJ X nL (wdT adr cI cZ cS cD cE tL tH) z pc L (.ref (a0 adr 0) :: st) σ := z_get B (k := 6) iX2 rfl wT_o_E0 (Nat.le_of_ble_eq_true rfl) kw_260 rfl hd kk
set_option maxRecDepth 20000 in
set_option maxHeartbeats 2000000 in
theorem kw_317 : Cond.fieldLink RX7 42 (TX7 3).1 (TX7 3).2.1 (TX7 3).2.2.1 ∈ zTb := zIn2 22 rfl rfl
theorem fT_g_P_study (B : zC X nL (wdT adr cI cZ cS cD cE tL tH) cc RX7 ret rm) (hd : decode cc pc = .ok (.getfield 42, 3)) (kk : zJ X nL (wdT adr cI cZ cS cD cE tL tH) z (pc + 3) L (.ref (adr 500) :: st) σ) : zJ X nL (wdT adr cI cZ cS cD cE tL tH) z pc L (.ref (adr 600) :: st) σ := z_get B (k := 3) iX7 rfl wT_o_P (Nat.le_of_ble_eq_true rfl) kw_317 rfl hd kk
set_option maxRecDepth 20000 in
set_option maxHeartbeats 2000000 in
theorem kw_257 : Cond.fieldLink RX7 35 (TX2 5).1 (TX2 5).2.1 (TX2 5).2.2.1 ∈ zTb := zIn1 202 rfl rfl
theorem fT_g_E0_history (B : zC X nL (wdT adr cI cZ cS cD cE tL tH) cc RX7 ret rm) (hd : decode cc pc = .ok (.getfield 35, 3)) (kk : zJ X nL (wdT adr cI cZ cS cD cE tL tH) z (pc + 3) L (.ref (a0 adr 18) :: st) σ) : zJ X nL (wdT adr cI cZ cS cD cE tL tH) z pc L (.ref (a0 adr 0) :: st) σ := z_get B (k := 5) iX2 rfl wT_o_E0 (Nat.le_of_ble_eq_true rfl) kw_257 rfl hd kk
set_option maxRecDepth 20000 in
set_option maxHeartbeats 2000000 in
theorem kw_220 : Cond.fieldLink RX7 249 (TX3 4).1 (TX3 4).2.1 (TX3 4).2.2.1 ∈ zTb := zIn1 165 rfl rfl
theorem fT_g_H0_length (B : zC X nL (wdT adr cI cZ cS cD cE tL tH) cc RX7 ret rm) {K : Int32 → Option β} (hd : decode cc pc = .ok (.getfield 249, 3)) (hf : zLet (σ 18 4) K = some r) (kk : ∀ v, K v = some r → zJ X nL (wdT adr cI cZ cS cD cE tL tH) z (pc + 3) L (.int v :: st) σ) : zJ X nL (wdT adr cI cZ cS cD cE tL tH) z pc L (.ref (a0 adr 18) :: st) σ := z_get B (k := 4) iX3 rfl wT_o_H0 (Nat.le_of_ble_eq_true rfl) kw_220 rfl hd (kk _ hf)
set_option maxRecDepth 20000 in
set_option maxHeartbeats 2000000 in
theorem kw_316 : Cond.fieldLink RX7 30 (TX7 2).1 (TX7 2).2.1 (TX7 2).2.2.1 ∈ zTb := zIn2 21 rfl rfl
theorem fT_g_P_paper (B : zC X nL (wdT adr cI cZ cS cD cE tL tH) cc RX7 ret rm) (hd : decode cc pc = .ok (.getfield 30, 3)) (kk : zJ X nL (wdT adr cI cZ cS cD cE tL tH) z (pc + 3) L (.ref (a1 adr 0) :: st) σ) : zJ X nL (wdT adr cI cZ cS cD cE tL tH) z pc L (.ref (adr 600) :: st) σ := z_get B (k := 2) iX7 rfl wT_o_P (Nat.le_of_ble_eq_true rfl) kw_316 rfl hd kk
theorem fT_g_E1_counts (B : zC X nL (wdT adr cI cZ cS cD cE tL tH) cc RX7 ret rm) (hd : decode cc pc = .ok (.getfield 79, 3)) (kk : zJ X nL (wdT adr cI cZ cS cD cE tL tH) z (pc + 3) L (.ref (a1 adr 2) :: st) σ) : zJ X nL (wdT adr cI cZ cS cD cE tL tH) z pc L (.ref (a1 adr 0) :: st) σ := z_get B (k := 2) iX2 rfl wT_o_E1 (Nat.le_of_ble_eq_true rfl) kw_253 rfl hd kk
set_option maxRecDepth 20000 in
set_option maxHeartbeats 2000000 in
theorem kw_264 : Cond.fieldLink RX7 224 (TX2 9).1 (TX2 9).2.1 (TX2 9).2.2.1 ∈ zTb := zIn1 209 rfl rfl
theorem fT_g_E1_ownPlace (B : zC X nL (wdT adr cI cZ cS cD cE tL tH) cc RX7 ret rm) {K : Int32 → Option β} (hd : decode cc pc = .ok (.getfield 224, 3)) (hf : zLet (σ 100 9) K = some r) (kk : ∀ v, K v = some r → zJ X nL (wdT adr cI cZ cS cD cE tL tH) z (pc + 3) L (.int v :: st) σ) : zJ X nL (wdT adr cI cZ cS cD cE tL tH) z pc L (.ref (a1 adr 0) :: st) σ := z_get B (k := 9) iX2 rfl wT_o_E1 (Nat.le_of_ble_eq_true rfl) kw_264 rfl hd (kk _ hf)
set_option maxRecDepth 20000 in
set_option maxHeartbeats 2000000 in
theorem kw_171 : Cond.fieldLink RX7 233 (TX4 4).1 (TX4 4).2.1 (TX4 4).2.2.1 ∈ zTb := zIn1 116 rfl rfl
theorem fT_g_S2_window (B : zC X nL (wdT adr cI cZ cS cD cE tL tH) cc RX7 ret rm) (p : Fin 6) {K : Int32 → Option β} (hd : decode cc pc = .ok (.getfield 233, 3)) (hf : zLet (pE 1 0 σ (12 + p.val) 4) K = some r) (kk : ∀ v, K v = some r → zJ X nL (wdT adr cI cZ cS cD cE tL tH) z (pc + 3) L (.int v :: st) σ) : zJ X nL (wdT adr cI cZ cS cD cE tL tH) z pc L (.ref (a1 adr (12 + p.val)) :: st) σ := z_get B (k := 4) iX4 rfl (wT_o_S2 p) (Nat.le_of_ble_eq_true rfl) kw_171 rfl hd (kk _ hf)
set_option maxRecDepth 20000 in
set_option maxHeartbeats 2000000 in
theorem kw_162 : Cond.fieldLink RX7 236 (TX4 1).1 (TX4 1).2.1 (TX4 1).2.2.1 ∈ zTb := zIn1 107 rfl rfl
theorem fT_g_S2_last (B : zC X nL (wdT adr cI cZ cS cD cE tL tH) cc RX7 ret rm) (p : Fin 6) {K : Int32 → Option β} (hd : decode cc pc = .ok (.getfield 236, 3)) (hf : zLet (pE 1 0 σ (12 + p.val) 1) K = some r) (kk : ∀ v, K v = some r → zJ X nL (wdT adr cI cZ cS cD cE tL tH) z (pc + 3) L (.int v :: st) σ) : zJ X nL (wdT adr cI cZ cS cD cE tL tH) z pc L (.ref (a1 adr (12 + p.val)) :: st) σ := z_get B (k := 1) iX4 rfl (wT_o_S2 p) (Nat.le_of_ble_eq_true rfl) kw_162 rfl hd (kk _ hf)
theorem fT_g_S2_stride (B : zC X nL (wdT adr cI cZ cS cD cE tL tH) cc RX7 ret rm) (p : Fin 6) {K : Int32 → Option β} (hd : decode cc pc = .ok (.getfield 166, 3)) (hf : zLet (pE 1 0 σ (12 + p.val) 2) K = some r) (kk : ∀ v, K v = some r → zJ X nL (wdT adr cI cZ cS cD cE tL tH) z (pc + 3) L (.int v :: st) σ) : zJ X nL (wdT adr cI cZ cS cD cE tL tH) z pc L (.ref (a1 adr (12 + p.val)) :: st) σ := z_get B (k := 2) iX4 rfl (wT_o_S2 p) (Nat.le_of_ble_eq_true rfl) kw_164 rfl hd (kk _ hf)
set_option maxRecDepth 20000 in
set_option maxHeartbeats 2000000 in
theorem kw_298 : Cond.fieldLink RX7 255 (TX5 5).1 (TX5 5).2.1 (TX5 5).2.2.1 ∈ zTb := zIn2 3 rfl rfl
theorem fT_g_U_rowStart (B : zC X nL (wdT adr cI cZ cS cD cE tL tH) cc RX7 ret rm) {K : Int32 → Option β} (hd : decode cc pc = .ok (.getfield 255, 3)) (hf : zLet (σ 500 5) K = some r) (kk : ∀ v, K v = some r → zJ X nL (wdT adr cI cZ cS cD cE tL tH) z (pc + 3) L (.int v :: st) σ) : zJ X nL (wdT adr cI cZ cS cD cE tL tH) z pc L (.ref (adr 500) :: st) σ := z_get B (k := 5) iX5 rfl wT_o_U (Nat.le_of_ble_eq_true rfl) kw_298 rfl hd (kk _ hf)
theorem fT_g_S_window (B : zC X nL (wdT adr cI cZ cS cD cE tL tH) cc RX7 ret rm) (p : Fin 6) {K : Int32 → Option β} (hd : decode cc pc = .ok (.getfield 233, 3)) (hf : zLet (pE 0 0 σ (12 + p.val) 4) K = some r) (kk : ∀ v, K v = some r → zJ X nL (wdT adr cI cZ cS cD cE tL tH) z (pc + 3) L (.int v :: st) σ) : zJ X nL (wdT adr cI cZ cS cD cE tL tH) z pc L (.ref (a0 adr (12 + p.val)) :: st) σ := z_get B (k := 4) iX4 rfl (wT_o_S p) (Nat.le_of_ble_eq_true rfl) kw_171 rfl hd (kk _ hf)
set_option maxRecDepth 20000 in
set_option maxHeartbeats 2000000 in
theorem kw_176 : Cond.fieldLink RX7 261 (TX4 6).1 (TX4 6).2.1 (TX4 6).2.2.1 ∈ zTb := zIn1 121 rfl rfl
theorem fT_g_S_marker (B : zC X nL (wdT adr cI cZ cS cD cE tL tH) cc RX7 ret rm) (p : Fin 6) {K : Int32 → Option β} (hd : decode cc pc = .ok (.getfield 261, 3)) (hf : zLet (pE 0 0 σ (12 + p.val) 6) K = some r) (kk : ∀ v, K v = some r → zJ X nL (wdT adr cI cZ cS cD cE tL tH) z (pc + 3) L (.int v :: st) σ) : zJ X nL (wdT adr cI cZ cS cD cE tL tH) z pc L (.ref (a0 adr (12 + p.val)) :: st) σ := z_get B (k := 6) iX4 rfl (wT_o_S p) (Nat.le_of_ble_eq_true rfl) kw_176 rfl hd (kk _ hf)
set_option maxRecDepth 20000 in
set_option maxHeartbeats 2000000 in
theorem kw_168 : Cond.fieldLink RX7 258 (TX4 3).1 (TX4 3).2.1 (TX4 3).2.2.1 ∈ zTb := zIn1 113 rfl rfl
theorem fT_g_S_proof (B : zC X nL (wdT adr cI cZ cS cD cE tL tH) cc RX7 ret rm) (p : Fin 6) {K : Int32 → Option β} (hd : decode cc pc = .ok (.getfield 258, 3)) (hf : zLet (pE 0 0 σ (12 + p.val) 3) K = some r) (kk : ∀ v, K v = some r → zJ X nL (wdT adr cI cZ cS cD cE tL tH) z (pc + 3) L (.int v :: st) σ) : zJ X nL (wdT adr cI cZ cS cD cE tL tH) z pc L (.ref (a0 adr (12 + p.val)) :: st) σ := z_get B (k := 3) iX4 rfl (wT_o_S p) (Nat.le_of_ble_eq_true rfl) kw_168 rfl hd (kk _ hf)
theorem fT_g_S_last (B : zC X nL (wdT adr cI cZ cS cD cE tL tH) cc RX7 ret rm) (p : Fin 6) {K : Int32 → Option β} (hd : decode cc pc = .ok (.getfield 236, 3)) (hf : zLet (pE 0 0 σ (12 + p.val) 1) K = some r) (kk : ∀ v, K v = some r → zJ X nL (wdT adr cI cZ cS cD cE tL tH) z (pc + 3) L (.int v :: st) σ) : zJ X nL (wdT adr cI cZ cS cD cE tL tH) z pc L (.ref (a0 adr (12 + p.val)) :: st) σ := z_get B (k := 1) iX4 rfl (wT_o_S p) (Nat.le_of_ble_eq_true rfl) kw_162 rfl hd (kk _ hf)
end FT
set_option maxRecDepth 20000 in
set_option maxHeartbeats 2000000 in
theorem kw_568 : Cond.constant RX7 95 (1000003) ∈ zTb := zIn3 33 rfl rfl
set_option maxRecDepth 20000 in
set_option maxHeartbeats 2000000 in
theorem kw_658 : Cond.constant RX7 159 (-2147483648) ∈ zTb := zIn3 123 rfl rfl
set_option maxRecDepth 20000 in
set_option maxHeartbeats 2000000 in
theorem kw_822 : Cond.constant RX7 239 (2147483647) ∈ zTb := zIn4 47 rfl rfl
set_option maxRecDepth 20000 in
set_option maxHeartbeats 2000000 in
theorem kcS_X7_58 : zKS RX7 58 yX7_isTermValue cX7_isTermValue 2 (some .boolean) 2 := ⟨zIn2 45 rfl rfl, zIn2 46 rfl rfl, zIn1 1 rfl rfl, zIn2 47 rfl rfl, by decide, by decide, by decide⟩
set_option maxRecDepth 20000 in
set_option maxHeartbeats 2000000 in
theorem kcV_X7_62 : zKV RX7 62 yX2_term cX2_term 2 (some .int) 1 := ⟨zIn2 52 rfl rfl, zIn2 53 rfl rfl, zIn2 54 rfl rfl, zIn1 3 rfl rfl, zIn2 55 rfl rfl, by decide, by decide, by decide⟩
set_option maxRecDepth 20000 in
set_option maxHeartbeats 2000000 in
theorem kcV_X7_66 : zKV RX7 66 yX2_setTerm cX2_setTerm 3 none 2 := ⟨zIn2 56 rfl rfl, zIn2 57 rfl rfl, zIn2 58 rfl rfl, zIn1 3 rfl rfl, zIn2 59 rfl rfl, by decide, by decide, by decide⟩
set_option maxRecDepth 20000 in
set_option maxHeartbeats 2000000 in
theorem kcV_X7_70 : zKV RX7 70 yX2_restart cX2_restart 2 none 0 := ⟨zIn2 61 rfl rfl, zIn2 62 rfl rfl, zIn2 63 rfl rfl, zIn1 3 rfl rfl, zIn2 64 rfl rfl, by decide, by decide, by decide⟩
set_option maxRecDepth 20000 in
set_option maxHeartbeats 2000000 in
theorem kcV_X7_73 : zKV RX7 73 yX2_take cX2_take 5 (some .int) 1 := ⟨zIn2 92 rfl rfl, zIn2 93 rfl rfl, zIn2 94 rfl rfl, zIn1 3 rfl rfl, zIn2 95 rfl rfl, by decide, by decide, by decide⟩
set_option maxRecDepth 20000 in
set_option maxHeartbeats 2000000 in
theorem kcV_X7_76 : zKV RX7 76 yX1_contentOf cX1_contentOf 2 (some .int) 1 := ⟨zIn2 232 rfl rfl, zIn2 233 rfl rfl, zIn2 234 rfl rfl, zIn1 2 rfl rfl, zIn2 235 rfl rfl, by decide, by decide, by decide⟩
set_option maxRecDepth 20000 in
set_option maxHeartbeats 2000000 in
theorem kcV_X7_83 : zKV RX7 83 yX2_idleOnce cX2_idleOnce 7 (some .boolean) 0 := ⟨zIn3 4 rfl rfl, zIn3 5 rfl rfl, zIn3 6 rfl rfl, zIn1 3 rfl rfl, zIn3 7 rfl rfl, by decide, by decide, by decide⟩
set_option maxRecDepth 20000 in
set_option maxHeartbeats 2000000 in
theorem kcV_X7_87 : zKV RX7 87 yX2_hasBlock cX2_hasBlock 2 (some .boolean) 1 := ⟨zIn3 24 rfl rfl, zIn2 97 rfl rfl, zIn2 98 rfl rfl, zIn1 3 rfl rfl, zIn2 99 rfl rfl, by decide, by decide, by decide⟩
set_option maxRecDepth 20000 in
set_option maxHeartbeats 2000000 in
theorem kcV_X7_91 : zKV RX7 91 yX2_follow cX2_follow 5 (some .int) 2 := ⟨zIn3 25 rfl rfl, zIn3 26 rfl rfl, zIn3 27 rfl rfl, zIn1 3 rfl rfl, zIn3 28 rfl rfl, by decide, by decide, by decide⟩
set_option maxRecDepth 20000 in
set_option maxHeartbeats 2000000 in
theorem kcV_X7_96 : zKV RX7 96 yX1_setContent cX1_setContent 3 none 2 := ⟨zIn3 34 rfl rfl, zIn3 35 rfl rfl, zIn3 36 rfl rfl, zIn1 2 rfl rfl, zIn3 37 rfl rfl, by decide, by decide, by decide⟩
set_option maxRecDepth 20000 in
set_option maxHeartbeats 2000000 in
theorem kcV_X7_99 : zKV RX7 99 yX1_isBad cX1_isBad 2 (some .boolean) 1 := ⟨zIn3 42 rfl rfl, zIn2 105 rfl rfl, zIn2 106 rfl rfl, zIn1 2 rfl rfl, zIn2 107 rfl rfl, by decide, by decide, by decide⟩
set_option maxRecDepth 20000 in
set_option maxHeartbeats 2000000 in
theorem kcV_X7_102 : zKV RX7 102 yX1_turn cX1_turn 2 none 1 := ⟨zIn3 43 rfl rfl, zIn3 44 rfl rfl, zIn3 45 rfl rfl, zIn1 2 rfl rfl, zIn3 46 rfl rfl, by decide, by decide, by decide⟩
set_option maxRecDepth 20000 in
set_option maxHeartbeats 2000000 in
theorem kcV_X7_110 : zKV RX7 110 yX0_slotOf cX0_slotOf 2 (some .int) 1 := ⟨zIn3 51 rfl rfl, zIn2 101 rfl rfl, zIn2 102 rfl rfl, zIn1 5 rfl rfl, zIn2 103 rfl rfl, by decide, by decide, by decide⟩
set_option maxRecDepth 20000 in
set_option maxHeartbeats 2000000 in
theorem kcV_X7_115 : zKV RX7 115 yX0_takeOut cX0_takeOut 3 (some .int) 1 := ⟨zIn3 52 rfl rfl, zIn2 118 rfl rfl, zIn2 119 rfl rfl, zIn1 5 rfl rfl, zIn2 120 rfl rfl, by decide, by decide, by decide⟩
set_option maxRecDepth 20000 in
set_option maxHeartbeats 2000000 in
theorem kcV_X7_118 : zKV RX7 118 yX2_waste cX2_waste 3 none 1 := ⟨zIn3 53 rfl rfl, zIn2 122 rfl rfl, zIn2 123 rfl rfl, zIn1 3 rfl rfl, zIn2 124 rfl rfl, by decide, by decide, by decide⟩
set_option maxRecDepth 20000 in
set_option maxHeartbeats 2000000 in
theorem kcV_X7_121 : zKV RX7 121 yX2_streamAt cX2_streamAt 2 (some (.object "AheadPlanner$Stream")) 1 := ⟨zIn3 58 rfl rfl, zIn2 169 rfl rfl, zIn2 170 rfl rfl, zIn1 3 rfl rfl, zIn2 171 rfl rfl, by decide, by decide, by decide⟩
set_option maxRecDepth 20000 in
set_option maxHeartbeats 2000000 in
theorem kcV_X7_131 : zKV RX7 131 yX4_leave cX4_leave 1 none 0 := ⟨zIn3 59 rfl rfl, zIn2 77 rfl rfl, zIn2 78 rfl rfl, zIn1 6 rfl rfl, zIn2 79 rfl rfl, by decide, by decide, by decide⟩
set_option maxRecDepth 20000 in
set_option maxHeartbeats 2000000 in
theorem kcV_X7_134 : zKV RX7 134 yX1_copyFrom cX1_copyFrom 2 none 1 := ⟨zIn3 64 rfl rfl, zIn3 65 rfl rfl, zIn3 66 rfl rfl, zIn1 2 rfl rfl, zIn3 67 rfl rfl, by decide, by decide, by decide⟩
set_option maxRecDepth 20000 in
set_option maxHeartbeats 2000000 in
theorem kcV_X7_137 : zKV RX7 137 yX2_copyFrom cX2_copyFrom 3 none 1 := ⟨zIn3 69 rfl rfl, zIn3 70 rfl rfl, zIn3 71 rfl rfl, zIn1 3 rfl rfl, zIn3 72 rfl rfl, by decide, by decide, by decide⟩
set_option maxRecDepth 20000 in
set_option maxHeartbeats 2000000 in
theorem kcV_X7_152 : zKV RX7 152 yX0_toCome cX0_toCome 4 (some .int) 3 := ⟨zIn3 106 rfl rfl, zIn2 156 rfl rfl, zIn2 157 rfl rfl, zIn1 5 rfl rfl, zIn2 158 rfl rfl, by decide, by decide, by decide⟩
set_option maxRecDepth 20000 in
set_option maxHeartbeats 2000000 in
theorem kcV_X7_156 : zKV RX7 156 yX0_blockByStamp cX0_blockByStamp 3 (some .int) 1 := ⟨zIn3 111 rfl rfl, zIn3 112 rfl rfl, zIn3 113 rfl rfl, zIn1 5 rfl rfl, zIn3 114 rfl rfl, by decide, by decide, by decide⟩
set_option maxRecDepth 20000 in
set_option maxHeartbeats 2000000 in
theorem kcV_X7_267 : zKV RX7 267 yX0_rankOf cX0_rankOf 4 (some .int) 1 := ⟨zIn4 102 rfl rfl, zIn3 116 rfl rfl, zIn3 117 rfl rfl, zIn1 5 rfl rfl, zIn3 118 rfl rfl, by decide, by decide, by decide⟩
set_option maxRecDepth 20000 in
set_option maxHeartbeats 2000000 in
theorem kcV_X7_163 : zKV RX7 163 yX4_tell cX4_tell 2 (some .int) 1 := ⟨zIn3 125 rfl rfl, zIn3 126 rfl rfl, zIn3 127 rfl rfl, zIn1 6 rfl rfl, zIn3 128 rfl rfl, by decide, by decide, by decide⟩
set_option maxRecDepth 20000 in
set_option maxHeartbeats 2000000 in
theorem kcV_X7_160 : zKV RX7 160 yX0_waitingFor cX0_waitingFor 4 (some .int) 1 := ⟨zIn3 124 rfl rfl, zIn3 9 rfl rfl, zIn3 10 rfl rfl, zIn1 5 rfl rfl, zIn3 11 rfl rfl, by decide, by decide, by decide⟩
set_option maxRecDepth 20000 in
set_option maxHeartbeats 2000000 in
theorem kcV_X7_169 : zKV RX7 169 yX0_waitingBeyond cX0_waitingBeyond 8 (some .int) 2 := ⟨zIn3 134 rfl rfl, zIn3 135 rfl rfl, zIn3 136 rfl rfl, zIn1 5 rfl rfl, zIn3 137 rfl rfl, by decide, by decide, by decide⟩
set_option maxRecDepth 20000 in
set_option maxHeartbeats 2000000 in
theorem kcV_X7_184 : zKV RX7 184 yX6_tell cX6_tell 4 (some .int) 2 := ⟨zIn3 181 rfl rfl, zIn3 182 rfl rfl, zIn3 183 rfl rfl, zIn1 8 rfl rfl, zIn3 184 rfl rfl, by decide, by decide, by decide⟩
set_option maxRecDepth 20000 in
set_option maxHeartbeats 2000000 in
theorem kcV_X7_195 : zKV RX7 195 yX5_pieceStart cX5_pieceStart 4 (some .int) 1 := ⟨zIn3 202 rfl rfl, zIn3 203 rfl rfl, zIn3 204 rfl rfl, zIn1 9 rfl rfl, zIn3 205 rfl rfl, by decide, by decide, by decide⟩
set_option maxRecDepth 20000 in
set_option maxHeartbeats 2000000 in
theorem kcV_X7_201 : zKV RX7 201 yX3_blockAt cX3_blockAt 3 (some .int) 1 := ⟨zIn3 176 rfl rfl, zIn3 151 rfl rfl, zIn3 152 rfl rfl, zIn1 7 rfl rfl, zIn3 153 rfl rfl, by decide, by decide, by decide⟩
set_option maxRecDepth 20000 in
set_option maxHeartbeats 2000000 in
theorem kcV_X7_198 : zKV RX7 198 yX5_pieceLength cX5_pieceLength 3 (some .int) 1 := ⟨zIn3 206 rfl rfl, zIn3 207 rfl rfl, zIn3 208 rfl rfl, zIn1 9 rfl rfl, zIn3 209 rfl rfl, by decide, by decide, by decide⟩
set_option maxRecDepth 20000 in
set_option maxHeartbeats 2000000 in
theorem kcV_X7_192 : zKV RX7 192 yX5_longestPiece cX5_longestPiece 4 (some .int) 0 := ⟨zIn3 197 rfl rfl, zIn3 198 rfl rfl, zIn3 199 rfl rfl, zIn1 9 rfl rfl, zIn3 200 rfl rfl, by decide, by decide, by decide⟩
set_option maxRecDepth 20000 in
set_option maxHeartbeats 2000000 in
theorem kcV_X7_188 : zKV RX7 188 yX5_pieces cX5_pieces 3 (some .int) 0 := ⟨zIn3 189 rfl rfl, zIn3 190 rfl rfl, zIn3 191 rfl rfl, zIn1 9 rfl rfl, zIn3 192 rfl rfl, by decide, by decide, by decide⟩
set_option maxRecDepth 20000 in
set_option maxHeartbeats 2000000 in
theorem kcV_X7_206 : zKV RX7 206 yX3_fromLatest cX3_fromLatest 2 (some .int) 1 := ⟨zIn3 214 rfl rfl, zIn3 215 rfl rfl, zIn3 216 rfl rfl, zIn1 7 rfl rfl, zIn3 217 rfl rfl, by decide, by decide, by decide⟩
set_option maxRecDepth 20000 in
set_option maxHeartbeats 2000000 in
theorem kcV_X7_209 : zKV RX7 209 yX3_numberAt cX3_numberAt 3 (some .int) 1 := ⟨zIn3 218 rfl rfl, zIn3 219 rfl rfl, zIn3 220 rfl rfl, zIn1 7 rfl rfl, zIn3 221 rfl rfl, by decide, by decide, by decide⟩
set_option maxRecDepth 20000 in
set_option maxHeartbeats 2000000 in
theorem kcV_X7_212 : zKV RX7 212 yX3_kindAt cX3_kindAt 3 (some .int) 1 := ⟨zIn3 222 rfl rfl, zIn3 223 rfl rfl, zIn3 224 rfl rfl, zIn1 7 rfl rfl, zIn3 225 rfl rfl, by decide, by decide, by decide⟩
set_option maxRecDepth 20000 in
set_option maxHeartbeats 2000000 in
theorem kcV_X7_215 : zKV RX7 215 yX5_changesOfStream cX5_changesOfStream 3 (some .int) 0 := ⟨zIn3 230 rfl rfl, zIn3 231 rfl rfl, zIn3 232 rfl rfl, zIn1 9 rfl rfl, zIn3 233 rfl rfl, by decide, by decide, by decide⟩
set_option maxRecDepth 20000 in
set_option maxHeartbeats 2000000 in
theorem kcV_X7_218 : zKV RX7 218 yX5_streamsRead cX5_streamsRead 3 (some .int) 0 := ⟨zIn3 235 rfl rfl, zIn3 236 rfl rfl, zIn3 237 rfl rfl, zIn1 9 rfl rfl, zIn3 238 rfl rfl, by decide, by decide, by decide⟩
set_option maxRecDepth 20000 in
set_option maxHeartbeats 2000000 in
theorem kcV_X7_221 : zKV RX7 221 yX5_mostOfOneStream cX5_mostOfOneStream 3 (some .int) 0 := ⟨zIn4 3 rfl rfl, zIn4 4 rfl rfl, zIn4 5 rfl rfl, zIn1 9 rfl rfl, zIn4 6 rfl rfl, by decide, by decide, by decide⟩
set_option maxRecDepth 20000 in
set_option maxHeartbeats 2000000 in
theorem kcV_X7_270 : zKV RX7 270 yX5_unlikeBlocks cX5_unlikeBlocks 4 (some .int) 0 := ⟨zIn4 107 rfl rfl, zIn4 108 rfl rfl, zIn4 109 rfl rfl, zIn1 9 rfl rfl, zIn4 110 rfl rfl, by decide, by decide, by decide⟩
set_option maxRecDepth 20000 in
set_option maxHeartbeats 2000000 in
theorem kcV_X7_273 : zKV RX7 273 yX5_sinceLatestBlock cX5_sinceLatestBlock 3 (some .int) 0 := ⟨zIn4 111 rfl rfl, zIn4 112 rfl rfl, zIn4 113 rfl rfl, zIn1 9 rfl rfl, zIn4 114 rfl rfl, by decide, by decide, by decide⟩
set_option maxRecDepth 20000 in
set_option maxHeartbeats 2000000 in
theorem kcV_X7_276 : zKV RX7 276 yX5_favourite cX5_favourite 6 (some .int) 0 := ⟨zIn4 115 rfl rfl, zIn4 116 rfl rfl, zIn4 117 rfl rfl, zIn1 9 rfl rfl, zIn4 118 rfl rfl, by decide, by decide, by decide⟩
set_option maxRecDepth 20000 in
set_option maxHeartbeats 2000000 in
theorem kcV_X7_279 : zKV RX7 279 yX5_timesRead cX5_timesRead 4 (some .int) 1 := ⟨zIn4 119 rfl rfl, zIn4 120 rfl rfl, zIn4 121 rfl rfl, zIn1 9 rfl rfl, zIn4 122 rfl rfl, by decide, by decide, by decide⟩
set_option maxRecDepth 20000 in
set_option maxHeartbeats 2000000 in
theorem kcV_X7_227 : zKV RX7 227 yX2_plannedAt cX2_plannedAt 2 (some .int) 1 := ⟨zIn4 19 rfl rfl, zIn4 20 rfl rfl, zIn4 21 rfl rfl, zIn1 3 rfl rfl, zIn4 22 rfl rfl, by decide, by decide, by decide⟩
set_option maxRecDepth 20000 in
set_option maxHeartbeats 2000000 in
theorem kcV_X7_282 : zKV RX7 282 yX2_copyTerms cX2_copyTerms 2 none 1 := ⟨zIn3 175 rfl rfl, zIn3 74 rfl rfl, zIn3 75 rfl rfl, zIn1 3 rfl rfl, zIn3 76 rfl rfl, by decide, by decide, by decide⟩
set_option maxRecDepth 20000 in
set_option maxHeartbeats 2000000 in
theorem kcV_X7_176 : zKV RX7 176 yX7_replayWith cX7_replayWith 6 none 4 := ⟨zIn3 171 rfl rfl, zIn3 173 rfl rfl, zIn0 0 rfl rfl, zIn1 1 rfl rfl, zIn3 174 rfl rfl, by decide, by decide, by decide⟩
set_option maxRecDepth 20000 in
set_option maxHeartbeats 2000000 in
theorem kcV_X7_230 : zKV RX7 230 yX2_counted cX2_counted 2 (some .int) 1 := ⟨zIn4 27 rfl rfl, zIn4 28 rfl rfl, zIn4 29 rfl rfl, zIn1 3 rfl rfl, zIn4 30 rfl rfl, by decide, by decide, by decide⟩
set_option maxRecDepth 20000 in
set_option maxHeartbeats 2000000 in
theorem kcV_X7_173 : zKV RX7 173 yX5_missesOfLatest cX5_missesOfLatest 7 (some .int) 1 := ⟨zIn3 146 rfl rfl, zIn3 147 rfl rfl, zIn3 148 rfl rfl, zIn1 9 rfl rfl, zIn3 149 rfl rfl, by decide, by decide, by decide⟩
set_option maxRecDepth 20000 in
set_option maxHeartbeats 2000000 in
theorem kcV_X7_246 : zKV RX7 246 yX5_missesAtBest cX5_missesAtBest 7 (some .int) 1 := ⟨zIn4 56 rfl rfl, zIn4 57 rfl rfl, zIn4 58 rfl rfl, zIn1 9 rfl rfl, zIn4 59 rfl rfl, by decide, by decide, by decide⟩
set_option maxRecDepth 20000 in
set_option maxHeartbeats 2000000 in
theorem kcV_X7_252 : zKV RX7 252 yX5_longestRow cX5_longestRow 6 (some .int) 1 := ⟨zIn4 85 rfl rfl, zIn4 86 rfl rfl, zIn4 87 rfl rfl, zIn1 9 rfl rfl, zIn4 88 rfl rfl, by decide, by decide, by decide⟩
set_option maxRecDepth 20000 in
set_option maxHeartbeats 2000000 in
theorem kcV_X7_264 : zKV RX7 264 yX4_edgeIsBeyond cX4_edgeIsBeyond 2 (some .boolean) 1 := ⟨zIn4 97 rfl rfl, zIn2 209 rfl rfl, zIn2 210 rfl rfl, zIn1 6 rfl rfl, zIn2 211 rfl rfl, by decide, by decide, by decide⟩
