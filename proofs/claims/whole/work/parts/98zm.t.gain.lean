/-! gain, tune, best -/
theorem e_term (N : Nat) (σ : ST) {k : Nat} (hk : k < 10) : mE_X2_term N σ (nI k) = some (σ 1 k, σ) := by
  have := qc_term N (A := σ) (κ := σ) hk
  rw [q_mix_self] at this
  exact this
theorem th_start (N : Nat) (hN : 2000 < N) {κ : Nat} {τ ρ τa ρa A C H : ST} (n1 : EngC (pE 0 0 τ) A C H) (n3 : St (4100 * κ) A C H) (hr : Rs (4100 * κ) τ ρ) (kt : Kt τ τa) (kp : ∀ c, 100 ≤ c → c < 125 → τa c = τ c) (hra : RR ρa false ρa A C H) : ∃ l ρ1 ρ2, mR_think N ρa = some ρ1 ∧ mR_takeTrace N ρ1 = some ρ2 ∧ Bs l τa ρ2 A H ∧ Tr l τa ρ2 τa ρ2 ∧ (∀ k, k < 10 → ρ2 1 k = A 1 k) ∧ (∀ j, j < 1974 → ρ2 2 j = ρa 1 j) ∧ (∀ c, c ≠ 0 → c ≠ 2 → c ≠ 17 → ρ2 c = ρa c) := by
  obtain ⟨ρ1, t1, t2, t3⟩ := r_think N hN ρa
  obtain ⟨l, l1, l2, l3⟩ := hra.2.2.2.2.1
  have k1 : ρ1 1 = ρa 1 := t2 1 (by omega)
  have e22 : ρ1 1 22 = nI l := by rw [k1, hra.2.1.2.2.1, l2]
  obtain ⟨ρ2, u1, u2, u3, u4, u5⟩ := r_takeT N (by omega) (H := H) l1 e22 (by rw [k1]; exact l3)
  have hb13 : 0 ≤ (ρ2 0 13).toInt ∧ (ρ2 0 13).toInt ≤ 64 := by
    rw [u3 13 (by omega), t2 0 (by omega)]
    exact RR_13 hra
  have kk : ∀ c, c < 100 → τa c = τ c := fun c hc => kt c (by omega) (by omega) (by omega) (by omega) (by omega) (by omega)
  refine ⟨l, ρ1, ρ2, t1, u1, ⟨?_, fun k hk => ?_, n3.1.1.1, n3.2.1, n3.2.2.1, fun b hb => ?_, l2, l1, u5, fun b hb => ?_⟩, ⟨Kt_r _, ?_, fun _ _ _ _ => rfl, u4, hb13⟩, fun k hk => ?_, fun j hj => ?_, fun c c0 c2 c17 => ?_⟩
  · exact RKh_k (fun c c1 c2 => by rw [pE_k _ (by omega), pE_k _ (by omega), kk _ (by omega)]) n1.2.2.2
  · rw [kk 1 (by omega), n1.1 1 (by omega)]
    rfl
  · rw [kt 401 (by omega) (by omega) (by omega) (by omega) (by omega) (by omega), n1.1 26 (by omega), pE_26]
  · rw [u2 4 (by omega) (by omega), u2 5 (by omega) (by omega), t2 4 (by omega), t2 5 (by omega)]
    exact hra.2.2.2.2.2.2.1 b hb
  · obtain ⟨A1, C1, H1, hp⟩ := hr.1
    exact ⟨A1, C1, H1, Rp_k (fun c c1 c2 => by rw [pE_k _ (by omega), pE_k _ (by omega), kp _ (by omega) (by omega)]) hp⟩
  · rw [u2 1 (by omega) (by omega), k1]
    exact hra.1 k hk
  · rw [u2 2 (by omega) (by omega), t3 j hj]
  · rw [u2 c c0 c17, t2 c c2]
theorem th_end (N : Nat) (hN : 2000 < N) {κ l : Nat} {τ ρ τa ρa ρ2 τ' ρ' : ST} (hI : II κ τ ρ) (kt : Kt τ τa) (hT : Tr l τa ρ2 τ' ρ') (h2 : ∀ j, j < 1974 → ρ2 2 j = ρa 1 j) (hc : ∀ c, c ≠ 0 → c ≠ 2 → c ≠ 17 → ρ2 c = ρa c) (ha : ∀ c, c ≠ 0 → c ≠ 19 → c ≠ 20 → ρa c = ρ c) : ∃ ρ3, mR_endThought N ρ' = some ρ3 ∧ II (κ + 1) τ' ρ3 := by
  obtain ⟨k1, k2, k3, k4, k5⟩ := hT
  obtain ⟨ρ3, z1, z2, z3⟩ := r_endT N hN ρ'
  refine ⟨ρ3, z1, II_th hI (Kt_t kt k1) k2 (fun j hj => ?_) (fun c c0 c1 c2 c14 c17 c19 c20 => ?_) ?_⟩
  · rw [z3 j hj, k3 2 (by omega) (by omega) (by omega), h2 j hj, ha 1 (by omega) (by omega) (by omega)]
  · rw [z2 c c1, k3 c c0 c1 c14, hc c c0 c2 c17, ha c c0 c19 c20]
  · rw [z2 0 (by omega)]
    exact k5
theorem isT_own {A : ST} (h : GT A) {k : Nat} (hk : k < 10) : isT (nI k) (A 1 k) := by
  have e : (nI k).toNatClampNeg = k := nI_clamp (by omega)
  refine ⟨by rw [nI_toInt (by omega)]; omega, ?_⟩
  rw [e]
  exact h k hk
theorem s_gain (N : Nat) (hN : 2000 < N) (κ : Nat) : Sm_gain N (II κ) (II (κ + 1)) := by
  intro τ ρ x1 hI
  obtain ⟨⟨A, C, H, n1, n2, n3⟩, hr⟩ := id hI
  have hth := RR_thr n2
  have hu := RU_of n1
  have htb := GT_b n3.1.1.1
  have e0 : (0 : Int32).toInt = 0 := by decide
  have e1 : (1 : Int32).toInt = 1 := by decide
  have e2 : (2 : Int32).toInt = 2 := by decide
  have t1 : τ 1 = A 1 := by rw [n1.1 1 (by omega)]; rfl
  have t2 : τ 2 = A 2 := by rw [n1.1 2 (by omega)]; rfl
  have hin := r_in N (zUp ρ 0 0 0) x1 0 2 (m := 0) (n := 2) (by decide) (by decide)
  by_cases c0 : x1 = 0
  · subst c0
    obtain ⟨l, l1, l2, l3⟩ := hth.2.2.2.2.1
    have e22 : zUp ρ 0 0 0 1 22 = nI l := by rw [hth.2.1.2.2.1, l2]
    obtain ⟨d1, d2⟩ := clamp_toInt (x := A 1 0) (by omega)
    obtain ⟨v, u', ρa, v1, v2, v3, v4, v5⟩ := mis_0 N (by omega) hu l1 l2 e22 l3 (c := (A 1 0).toNatClampNeg) (by omega) (by omega)
    rw [← d2] at v1 v2
    have kt : Kt τ (iU τ u') := fun c w1 w2 w3 w4 w5 w6 => iU_c (fun k _ k1 k2 => v3 k k1 k2) c w4 w5 w6
    have kp : ∀ c, 100 ≤ c → c < 125 → iU τ u' c = τ c := fun c w1 w2 => iU_c (fun k _ k1 k2 => v3 k k1 k2) c (by omega) (by omega) (by omega)
    have kp1 : iU τ u' 1 = A 1 := by rw [iU_c (fun k _ k1 k2 => v3 k k1 k2) 1 (by omega) (by omega) (by omega), t1]
    have hra : RR ρa false ρa A C H := RR_frame hth (fun c hc => v4 c (by omega) (by omega)) (by rw [v4 0 (by omega) (by omega)]; exact RR_13 hth)
    obtain ⟨l', ρ1, ρ2, q1, q2, q3, q4, q5, q6, q7⟩ := th_start N hN n1 n3 hr kt kp hra
    obtain ⟨τ', ρ', A', C', H', p1, p2, p3, p4, p5, p6, p7, p8⟩ := p_replay N hN q3 q4 (a := 0) (b := 0) (by omega) (by omega) (isT_own n3.1.1.1 (k := 0) (by omega)) (isT_own n3.1.1.1 (k := 0) (by omega)) (by rw [if_neg (by omega), if_neg (by omega)]) (fun k hk => by
      rw [q5 k hk]
      by_cases g : k = 0
      · rw [if_pos g, g]
      · rw [if_neg g, if_neg g])
    obtain ⟨ρ3, z1, z2⟩ := th_end N hN hI kt p4 q6 q7 (fun c w0 w1 w2 => by rw [v4 c w1 w2, q_uc w0])
    have kt0 : mE_X2_term N (pE 0 0 τ) 0 = some (A 1 0, pE 0 0 τ) := by
      have := e_term N (pE 0 0 τ) (k := 0) (by omega)
      rw [← n1.1 1 (by omega)] at this
      exact this
    have kt1 : mE_X2_term N (pE 0 0 (iU τ u')) 0 = some (A 1 0, pE 0 0 (iU τ u')) := by
      have := e_term N (pE 0 0 (iU τ u')) (k := 0) (by omega)
      rw [pE_k _ (show 1 < 25 by omega), show 100 * 0 + 1 = 1 from rfl, kp1] at this
      exact this
    have p1' : mT_X7_replayWith N (iU τ u') 0 (A 1 0) 0 (A 1 0) = some τ' := p1
    refine ⟨nI v - τ' 102 2, τ', ρ3, ?_, ?_, z2⟩
    · rw [mT_X7_gain, if_pos rfl, zqE kt0, zCallL_eq v1, zqE kt1, zqE kt1, p1', zCallu_some, zGet_at (i := 2) 2 rfl (by decide) (by decide), zLet_eq]
    · rw [mR_gain, zLet_eq, zLet_eq, hin, zCall_some, if_pos (show 0 ≤ (0 : Int32).toInt ∧ (0 : Int32).toInt ≤ 2 by decide), if_neg n10, if_pos (show (0 : Int32) ≤ 0 by decide), zGet_at (i := 0) 0 rfl (by decide) (by decide), hth.1 0 (by omega), v2, zCall_some, q1, zCallu_some, q2, zCallu_some, p2, zCallu_some, zGet_at (i := 12) 12 rfl (by decide) (by decide), z1, zCallu_some, zLet_eq, p6]
  · have e15 : zUp ρ 0 0 0 1 15 = A 2 5 := hth.2.1.1 5 15 (by unfold cmap; omega)
    have e14 : zUp ρ 0 0 0 1 14 = A 2 4 := hth.2.1.1 4 14 (by unfold cmap; omega)
    have e16 : zUp ρ 0 0 0 1 16 = A 2 6 := hth.2.1.1 6 16 (by unfold cmap; omega)
    rw [mT_X7_gain, if_neg c0, mR_gain, zLet_eq, zLet_eq, hin, zCall_some]
    by_cases c12 : x1 = 1 ∨ x1 = 2
    · have hx : 1 ≤ x1.toInt ∧ x1.toInt ≤ 2 := by
        rcases c12 with w | w
        · rw [w, e1]; omega
        · rw [w, e2]; omega
      have h67 : (if x1 = 1 then mT_X7_gain_67 N τ x1 else if x1 = 2 then mT_X7_gain_67 N τ x1 else some (-2147483648, τ)) = mT_X7_gain_67 N τ x1 := by
        by_cases w : x1 = 1
        · rw [if_pos w]
        · rw [if_neg w, if_pos (c12.resolve_left w)]
      rw [h67, if_pos (show 0 ≤ x1.toInt ∧ x1.toInt ≤ 2 by omega), if_neg n10, if_neg (show ¬ x1 ≤ 0 by rw [i_le, e0]; omega), zGet_at (i := 15) 15 rfl (by decide) (by decide), e15, mT_X7_gain_67, zGet_at (i := 5) 5 rfl (by decide) (by decide), t2]
      by_cases z : A 2 5 = 0
      · rw [if_pos z, if_pos z, mR_gain_66]
        exact ⟨_, _, _, rfl, rfl, II_thr hI⟩
      · rw [if_neg z, if_neg z, mR_gain_56, mR_gain_56]
        by_cases w : x1 = 1
        · rw [if_pos w, if_pos w, zGet_at (i := 14) 14 rfl (by decide) (by decide), e14, zLet_eq, zGet_at (i := 15) 15 rfl (by decide) (by decide), e15, zGet_at (i := 4) 4 rfl (by decide) (by decide), mT_X7_gain_110, zLet_eq, zDiv_ok z, zDiv_ok z, mR_gain_66, Int32.mul_comm (A 2 4) 100]
          exact ⟨_, _, _, rfl, rfl, II_thr hI⟩
        · rw [if_neg w, if_neg w, zGet_at (i := 16) 16 rfl (by decide) (by decide), e16, zLet_eq, zGet_at (i := 15) 15 rfl (by decide) (by decide), e15, zGet_at (i := 6) 6 rfl (by decide) (by decide), mT_X7_gain_110, zLet_eq, zDiv_ok z, zDiv_ok z, mR_gain_66, Int32.mul_comm (A 2 6) 100]
          exact ⟨_, _, _, rfl, rfl, II_thr hI⟩
    · have g1 : ¬ x1 = 1 := fun w => c12 (Or.inl w)
      have g2 : ¬ x1 = 2 := fun w => c12 (Or.inr w)
      have hx : ¬ (0 ≤ x1.toInt ∧ x1.toInt ≤ 2) := fun w => by
        have h0 : ¬ x1.toInt = 0 := fun z => c0 (i_eq.mpr (by rw [z, e0]))
        have h1 : ¬ x1.toInt = 1 := fun z => g1 (i_eq.mpr (by rw [z, e1]))
        have h2 : ¬ x1.toInt = 2 := fun z => g2 (i_eq.mpr (by rw [z, e2]))
        omega
      rw [if_neg g1, if_neg g2, if_neg hx, if_pos rfl]
      exact ⟨_, _, _, rfl, rfl, II_thr hI⟩
