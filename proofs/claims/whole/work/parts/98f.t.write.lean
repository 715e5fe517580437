/-! write -/
theorem wr_facts {y v : Int32} (hy : 0 ≤ y.toInt ∧ y.toInt ≤ 1000002) : contF (if 0 ≤ v then y else -1 - y) = y ∧ (0 ≤ (if 0 ≤ v then y else -1 - y) ↔ 0 ≤ v) ∧ -1000003 ≤ (if 0 ≤ v then y else -1 - y).toInt ∧ (if 0 ≤ v then y else -1 - y).toInt ≤ 1000002 := by
  have e0 : (0 : Int32).toInt = 0 := by decide
  have hym := cont_m1 (v := y) (by omega) (by omega)
  have hy0 : 0 ≤ y := by rw [i_le, e0]; omega
  have hcy : contF y = y := by
    unfold contF
    rw [if_neg (show ¬ y < 0 by rw [i_lt, e0]; omega)]
  by_cases c3 : 0 ≤ v
  · rw [if_pos c3]; exact ⟨hcy, ⟨fun _ => c3, fun _ => hy0⟩, by omega, by omega⟩
  · rw [if_neg c3]
    refine ⟨by rw [hym.1]; exact hcy, ⟨fun w => absurd hy0 (hym.2.1.mp w), fun w => absurd w c3⟩, ?_, ?_⟩
    · rw [hym.2.2.1]; omega
    · rw [hym.2.2.1]; omega
theorem qc_setContent (N : Nat) {A κ : ST} {b : Nat} (hb : b < 10000) (y : Int32) : mE_X1_setContent N (qmix A κ) (nI b) y = some (qmix (zUp A 26 b (if 0 ≤ A 26 b then y else -1 - y)) κ) := by
  rw [mE_X1_setContent]
  by_cases c3 : 0 ≤ A 26 b
  · rw [if_pos c3]
    simp -implicitDefEqProofs (disch := first | assumption | omega) only [zLet_eq, zCall_some, zCallu_some, q_cq, zBool_0, zBool_1, q_gn, q_gl, q_sn, q_sl, q_al, q_la, q_ml, q_lm, q_ue, q_un, q_mA, q_mK, q_uA, q_uK, q_g6, q_rm, q_dv, q_ltl, q_lle, if_neg, if_pos, mE_X1_setContent_32, mE_X1_setContent_33]
  · rw [if_neg c3]
    simp -implicitDefEqProofs (disch := first | assumption | omega) only [zLet_eq, zCall_some, zCallu_some, q_cq, zBool_0, zBool_1, q_gn, q_gl, q_sn, q_sl, q_al, q_la, q_ml, q_lm, q_ue, q_un, q_mA, q_mK, q_uA, q_uK, q_g6, q_rm, q_dv, q_ltl, q_lle, if_neg, if_pos, mE_X1_setContent_32, mE_X1_setContent_33]
set_option maxHeartbeats 400000 in
theorem s_write (N : Nat) (hN : 64 < N) (κ : Nat) : Sm_write N (II κ) (II (κ + 1)) := by
  intro τ ρ x y hI
  obtain ⟨⟨A, C, H, n1, n2, n3⟩, hr⟩ := id hI
  have hmx := EngC_mix n1
  have hth := RR_thr n2
  have htb := GT_b n3.1.1.1
  have e0 : (0 : Int32).toInt = 0 := by decide
  have hb1 := qc_has N (A := A) (κ := pE 0 0 τ) (x := x)
  rw [hmx] at hb1
  obtain ⟨K, hK⟩ : ∃ K : Int32, K = 1000003 := ⟨_, rfl⟩
  have em : K.toInt = 1000003 := by rw [hK]; exact nI_toInt (n := 1000003) (by omega)
  rw [mT_X7_write, mR_write, ← hK, zqE hb1, zLet_eq, r_isBlock N hth, zCall_some]
  clear hK
  by_cases hv : 0 ≤ x.toInt ∧ x.toInt < (A 1 7).toInt
  · rw [if_pos hv, if_neg n10, if_neg n10, zLet_eq, r_in N _ y 0 1000002 (m := 0) (n := 1000002) (by decide) (lN_toInt (n := 1000002) (by omega)), zCall_some]
    by_cases hy : 0 ≤ y.toInt ∧ y.toInt ≤ 1000002
    · rw [if_pos hy, if_neg n10, if_neg (show ¬ y < 0 by rw [i_lt, e0]; omega), if_pos (show y < K by rw [i_lt, em]; omega)]
      obtain ⟨c1, c2⟩ := clamp_toInt hv.1
      generalize x.toNatClampNeg = b at c1 c2
      subst c2
      have hb : b < 10000 := by omega
      have kb := qc_content N (A := A) (κ := pE 0 0 τ) hb
      rw [hmx] at kb
      have ks := qc_setContent N (A := A) (κ := pE 0 0 τ) hb y
      rw [hmx] at ks
      rw [zqE kb, zCallLu_eq ks]
      have e4 : zUp ρ 0 0 0 4 b = contF (A 26 b) := (hth.2.2.2.2.2.2.1 b hb).1
      have hcv := wr_facts (v := A 26 b) hy
      generalize hρ0 : zUp ρ 0 0 0 = ρ0 at *
      simp -implicitDefEqProofs (disch := first | assumption | omega) only [zLet_eq, zCall_some, zCallu_some, q_cq, zBool_0, zBool_1, q_gn, q_gl, q_sn, q_sl, q_al, q_la, q_ml, q_lm, q_ue, q_un, q_mA, q_mK, q_uA, q_uK, q_g6, q_rm, q_dv, e4]
      have hII : ∀ ρ', RR ρ' false ρ' (zUp A 26 b (if 0 ≤ A 26 b then y else -1 - y)) C H → (∀ c, c = 3 ∨ c = 6 ∨ c = 7 ∨ c = 8 ∨ c = 9 ∨ c = 10 → ρ' c = ρ0 c) → II (κ + 1) (iE 0 0 τ (qmix (zUp A 26 b (if 0 ≤ A 26 b then y else -1 - y)) (pE 0 0 τ))) ρ' := fun ρ' hR hf => II_e hI (t := 4100 * κ) (by omega) (by simp -implicitDefEqProofs (disch := first | assumption | omega) only [Rp_eq]; exact n1.2) hR (St_26 n3 ⟨hcv.2.2.1, hcv.2.2.2⟩) (fun c hc => by rw [hf c hc, ← hρ0, q_uc (by omega)])
      have hpl : ∀ r, ρ0 1 0 = nI r → r ≤ 64 → mR_place N (zUp ρ0 4 b y) (nI b) = some (fPl (ρ0 1) (nI b) r 0, zUp ρ0 4 b y) := fun r q1 q2 => by
        rw [pR_place N hN (zUp ρ0 4 b y) (nI b) r (by rw [q_un (by omega)]; exact q1) q2, q_uc (by omega)]
      obtain ⟨r, r1, r2, -⟩ := hth.2.2.2.2.2.1
      have er : ρ0 1 0 = nI r := by rw [hth.1 0 (by omega), r2]
      have hp0 := pR_place N hN ρ0 (nI b) r er r1
      rw [hpl r er r1]
      rcases r_place N hN hth hb with ⟨m1, m2⟩ | ⟨m1, i, m2, m3, m4, m5⟩
      · rw [hp0] at m2
        have ef : fPl (ρ0 1) (nI b) r 0 = -1 := by injection m2 with m2; injection m2
        rw [ef]
        simp -implicitDefEqProofs (disch := first | assumption | omega) only [zLet_eq, zCall_some, zCallu_some, q_cq, zBool_0, zBool_1, q_gn, q_gl, q_sn, q_sl, q_al, q_la, q_ml, q_lm, q_ue, q_un, q_mA, q_mK, q_uA, q_uK, q_g6, q_rm, q_dv, if_true, mR_write_64]
        exact ⟨_, _, _, rfl, rfl, hII _ (RR_write hth n3.1 hb hcv.1 hcv.2.1 (Or.inl ⟨m1, rfl⟩)) (fun c hc => q_uc (by omega))⟩
      · rw [hp0] at m5
        have ef : fPl (ρ0 1) (nI b) r 0 = nI (30 + 8 * i) := by injection m5 with m5; injection m5
        rw [ef]
        simp -implicitDefEqProofs (disch := first | assumption | omega) only [zLet_eq, zCall_some, zCallu_some, q_cq, zBool_0, zBool_1, q_gn, q_gl, q_sn, q_sl, q_al, q_la, q_ml, q_lm, q_ue, q_un, q_mA, q_mK, q_uA, q_uK, q_g6, q_rm, q_dv, q_m1F, if_false, mR_write_64]
        refine ⟨_, _, _, rfl, rfl, hII _ (RR_write hth n3.1 hb hcv.1 hcv.2.1 (Or.inr ⟨m1, i, m2, m3, m4, ?_⟩)) (fun c hc => by rw [q_uc (by omega), q_uc (by omega)])⟩
        rw [show 30 + 8 * i + 1 = 31 + 8 * i by omega]
    · rw [if_neg hy, if_pos rfl]
      have : y < 0 ∨ ¬ y < K := by rw [i_lt, i_lt, e0, em]; omega
      rcases this with w | w
      · rw [if_pos w]
        exact ⟨_, _, _, rfl, rfl, II_thr hI⟩
      · by_cases w2 : y < 0
        · rw [if_pos w2]
          exact ⟨_, _, _, rfl, rfl, II_thr hI⟩
        · rw [if_neg w2, if_neg w]
          exact ⟨_, _, _, rfl, rfl, II_thr hI⟩
  · rw [if_neg hv, if_pos rfl, if_pos rfl]
    exact ⟨_, _, _, rfl, rfl, II_thr hI⟩
