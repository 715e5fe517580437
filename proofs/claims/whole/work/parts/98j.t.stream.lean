/-! stream, ahead, cached -/
def qv_tell (A : ST) (p : Nat) (w : Int32) : Int32 := if 0 ≤ w.toInt ∧ w.toInt ≤ 11 then (if w.toInt < 8 then A (12 + p) w.toNatClampNeg else A (12 + p) (w.toNatClampNeg - 1)) else -2147483648
theorem qc_tell (N : Nat) {A κ : ST} {p : Nat} (hp : p < 6) (w : Int32) (h8 : ¬ w = 8) : mE_X4_tell N (qmix A κ) ⟨p, hp⟩ w = some (qv_tell A p w, qmix A κ) := by
  have hm : qmix A κ (12 + p) = A (12 + p) := q_mA (by omega)
  have vt : ∀ k : Nat, k ≤ 11 → qv_tell A p (nI k) = (if k < 8 then A (12 + p) k else A (12 + p) (k - 1)) := fun k hk => by
    unfold qv_tell
    rw [nI_toInt (by omega), nI_clamp (by omega), if_pos (by omega)]
    by_cases c : k < 8
    · rw [if_pos (show (k : Int) < 8 by omega), if_pos c]
    · rw [if_neg (show ¬ (k : Int) < 8 by omega), if_neg c]
  rw [mE_X4_tell]
  simp only [↓zLet_eq]
  rw [show qmix A κ (12 + (⟨p, hp⟩ : Fin 6).val) = A (12 + p) from hm]
  by_cases w0 : w = 0
  · subst w0; rw [if_pos rfl]; exact congrArg (fun z => some (z, qmix A κ)) (vt 0 (by omega)).symm
  · rw [if_neg w0]
    by_cases w1 : w = 1
    · subst w1; rw [if_pos rfl]; exact congrArg (fun z => some (z, qmix A κ)) (vt 1 (by omega)).symm
    · rw [if_neg w1]
      by_cases w2 : w = 2
      · subst w2; rw [if_pos rfl]; exact congrArg (fun z => some (z, qmix A κ)) (vt 2 (by omega)).symm
      · rw [if_neg w2]
        by_cases w3 : w = 3
        · subst w3; rw [if_pos rfl]; exact congrArg (fun z => some (z, qmix A κ)) (vt 3 (by omega)).symm
        · rw [if_neg w3]
          by_cases w4 : w = 4
          · subst w4; rw [if_pos rfl]; exact congrArg (fun z => some (z, qmix A κ)) (vt 4 (by omega)).symm
          · rw [if_neg w4]
            by_cases w5 : w = 5
            · subst w5; rw [if_pos rfl]; exact congrArg (fun z => some (z, qmix A κ)) (vt 5 (by omega)).symm
            · rw [if_neg w5]
              by_cases w6 : w = 6
              · subst w6; rw [if_pos rfl]; exact congrArg (fun z => some (z, qmix A κ)) (vt 6 (by omega)).symm
              · rw [if_neg w6]
                by_cases w7 : w = 7
                · subst w7; rw [if_pos rfl]; exact congrArg (fun z => some (z, qmix A κ)) (vt 7 (by omega)).symm
                · rw [if_neg w7]
                  by_cases w9 : w = 9
                  · subst w9; rw [if_pos rfl]; exact congrArg (fun z => some (z, qmix A κ)) (vt 9 (by omega)).symm
                  · rw [if_neg w9]
                    by_cases w10 : w = 10
                    · subst w10; rw [if_pos rfl]; exact congrArg (fun z => some (z, qmix A κ)) (vt 10 (by omega)).symm
                    · rw [if_neg w10]
                      by_cases w11 : w = 11
                      · subst w11; rw [if_pos rfl]; exact congrArg (fun z => some (z, qmix A κ)) (vt 11 (by omega)).symm
                      · rw [if_neg w11]
                        have ne : ∀ k : Nat, k < 40 → ¬ w = nI k → w.toInt ≠ k := fun k hk hne z => hne (i_eq.mpr (by rw [z, nI_toInt (by omega)]))
                        have f0 := ne 0 (by omega) w0
                        have f1 := ne 1 (by omega) w1
                        have f2 := ne 2 (by omega) w2
                        have f3 := ne 3 (by omega) w3
                        have f4 := ne 4 (by omega) w4
                        have f5 := ne 5 (by omega) w5
                        have f6 := ne 6 (by omega) w6
                        have f7 := ne 7 (by omega) w7
                        have f8 := ne 8 (by omega) h8
                        have f9 := ne 9 (by omega) w9
                        have f10 := ne 10 (by omega) w10
                        have f11 := ne 11 (by omega) w11
                        unfold qv_tell
                        rw [if_neg (by omega)]
theorem s_stream (N : Nat) (hN : 64 < N) (κ : Nat) : Sm_stream N (II κ) (II (κ + 1)) := by
  intro τ ρ x w hI
  obtain ⟨⟨A, C, H, n1, n2, n3⟩, hr⟩ := id hI
  have hmx := EngC_mix n1
  have hth := RR_thr n2
  have e8 : (8 : Int32).toInt = 8 := by decide
  rw [mT_X7_stream, mR_stream]
  rcases strm N n1 hth x with ⟨p, hp, ex, hn, k1, k2⟩ | ⟨k1, k2⟩
  · rw [zqQ k1, zLet_eq, k2, zCall_some, if_neg n10, zLet_eq, r_in N _ w 0 11 (m := 0) (n := 11) (by decide) (by decide), zCall_some]
    subst ex
    dsimp only
    have ep : pE 0 0 τ (12 + p) 0 = A (12 + p) 0 := by rw [n1.1 (12 + p) (by omega)]
    by_cases w8 : w = 8
    · have kw := qc_waitFor N hN (A := A) n1.2.2.1 (A (12 + p) 0)
      rw [hmx] at kw
      subst w8
      rw [if_pos rfl, zLet_eq, ep, zqE kw, mT_X7_stream_44, if_pos (show 0 ≤ (8 : Int32).toInt ∧ (8 : Int32).toInt ≤ 11 by decide), if_neg n10, r_streamAt, zCall_some, if_pos rfl, r_for N hN hth hp hn, zCall_some, mR_stream_67]
      exact ⟨_, _, _, rfl, rfl, II_thr hI⟩
    · have kt := qc_tell N (A := A) (κ := pE 0 0 τ) hp w w8
      rw [hmx] at kt
      rw [if_neg w8, zqE kt, mT_X7_stream_44]
      refine ⟨_, _, zUp ρ 0 0 0, rfl, ?_, II_thr hI⟩
      unfold qv_tell
      by_cases cw : 0 ≤ w.toInt ∧ w.toInt ≤ 11
      · rw [if_pos cw, if_neg n10, r_streamAt, zCall_some, if_neg w8, if_pos cw]
        obtain ⟨d1, d2⟩ := clamp_toInt cw.1
        generalize w.toNatClampNeg = j at *
        subst d2
        by_cases c : 8 ≤ nI j
        · rw [i_le, e8] at c
          rw [if_pos (show (8 : Int32) ≤ nI j by rw [i_le, e8]; exact c), if_neg (by omega), mR_stream_65, zLet_eq, nI_add, zGet_nI (by omega) (by decide), show 542 + 12 * p + j = 542 + 12 * p + (j - 1 + 1) by omega, RR_sr hth (k := j - 1) hp hn (by omega)]
          rfl
        · rw [if_neg c]
          rw [i_le, e8] at c
          rw [if_pos (by omega), zLet_eq, nI_1, mR_stream_65, zLet_eq, nI_add, zGet_nI (by omega) (by decide), RR_sr hth (k := j) hp hn (by omega)]
          rfl
      · rw [if_neg cw, if_pos rfl, if_neg cw]
        rfl
  · rw [zqQ k1, zLet_eq, k2, zCall_some, if_pos rfl]
    exact ⟨_, _, _, rfl, rfl, II_thr hI⟩
/-- how many have a less stamp -/
def qv_less (C : ST) (st : Int32) : Nat := qcnt (fun b => decide (C b 0 = 1) && decide (¬ st ≤ C b 1)) 10000
theorem qc_rank (N : Nat) (hN : 64 < N) {A κ C : ST} (h : RKc κ C) {s b : Nat} (hb : b < 10000) (hc : C b 0 = 1) (hs : κ 10 b = nI (s + 1)) (hs2 : s < 64) : mE_X0_rankOf N (qmix A κ) (nI s) = some (nI (qv_less C (C b 1)), qmix A κ) := by
  obtain ⟨e9, e8, n, hn, e7, hR⟩ := h
  obtain ⟨s', hs', g10, g4, g5, -⟩ := RKs_at hR hb hc
  have : s = s' := by
    have := nI_inj (by omega) (by omega) (hs.symm.trans g10)
    omega
  subst this
  have e := RKs_cnt hR hn (fun c => decide (¬ C b 1 ≤ C c 1))
  unfold qv_less
  rw [← e]
  have key : ∀ m j : Nat, j ≤ n → n - j < m → zIt (mE_X0_rankOf_B16 N) (fun _ _ _ _ => none) m (qmix A κ) (nI s) (nI (qcnt (fun t => decide (¬ C b 1 ≤ C (κ 4 t).toNatClampNeg 1)) j)) (nI j) = some (nI (qcnt (fun t => decide (¬ C b 1 ≤ C (κ 4 t).toNatClampNeg 1)) n), qmix A κ) := by
    intro m
    induction m with
    | zero => intro j h1 h2; omega
    | succ m ih =>
      intro j hj hm
      rw [zIt_s, mE_X0_rankOf_B16]
      by_cases ej : j = n
      · subst ej
        simp -implicitDefEqProofs (disch := first | assumption | omega) only [zLet_eq, zCall_some, zCallu_some, q_cq, zBool_0, zBool_1, q_gn, q_gl, q_sn, q_sl, q_al, q_la, q_ml, q_lm, q_ue, q_un, q_mA, q_mK, q_uA, q_uK, q_g6, q_rm, q_dv, e7, q_le, if_pos, mE_X0_rankOf_48]
      · have ihj := ih (j + 1) (by omega) (by omega)
        rw [qcnt_s] at ihj
        generalize zIt (mE_X0_rankOf_B16 N) (fun _ _ _ _ => none) m = hd at *
        obtain ⟨c, hcb, hcc, f10, f4, f5, -⟩ := hR.1 j (by omega)
        have ecl : (κ 4 j).toNatClampNeg = c := by rw [f4]; exact nI_clamp (by omega)
        rw [ecl] at ihj
        simp -implicitDefEqProofs (disch := first | assumption | omega) only [zLet_eq, zCall_some, zCallu_some, q_cq, zBool_0, zBool_1, q_gn, q_gl, q_sn, q_sl, q_al, q_la, q_ml, q_lm, q_ue, q_un, q_mA, q_mK, q_uA, q_uK, q_g6, q_rm, q_dv, e7, q_le, if_neg, f5, g5]
        by_cases cc : C b 1 ≤ C c 1
        · rw [if_neg (show ¬ decide (¬ C b 1 ≤ C c 1) = true by simp [cc]), Nat.add_zero] at ihj
          rw [if_pos cc, mE_X0_rankOf_42]
          simp -implicitDefEqProofs (disch := first | assumption | omega) only [zLet_eq, zCall_some, zCallu_some, q_cq, zBool_0, zBool_1, q_gn, q_gl, q_sn, q_sl, q_al, q_la, q_ml, q_lm, q_ue, q_un, q_mA, q_mK, q_uA, q_uK, q_g6, q_rm, q_dv]
          exact ihj
        · rw [if_pos (show decide (¬ C b 1 ≤ C c 1) = true by simp [cc])] at ihj
          rw [if_neg cc, mE_X0_rankOf_42]
          simp -implicitDefEqProofs (disch := first | assumption | omega) only [zLet_eq, zCall_some, zCallu_some, q_cq, zBool_0, zBool_1, q_gn, q_gl, q_sn, q_sl, q_al, q_la, q_ml, q_lm, q_ue, q_un, q_mA, q_mK, q_uA, q_uK, q_g6, q_rm, q_dv]
          exact ihj
  rw [mE_X0_rankOf]
  simp -implicitDefEqProofs (disch := first | assumption | omega) only [zLet_eq, zCall_some, zCallu_some, q_cq, zBool_0, zBool_1, q_gn, q_gl, q_sn, q_sl, q_al, q_la, q_ml, q_lm, q_ue, q_un, q_mA, q_mK, q_uA, q_uK, q_g6, q_rm, q_dv, e7, q_ltl, q_le, if_neg]
  exact key N 0 (by omega) (by omega)
theorem r_less (N : Nat) (hN : 64 < N) {F : ST} {q : Bool} {ρ A C H : ST} (h : RR F q ρ A C H) (st : Int32) : mR_lessThan N ρ st = some (nI (qv_less C st), ρ) := by
  obtain ⟨r, r1, r2, r3, r4, r5⟩ := h.2.2.2.2.2.1
  have e0 : ρ 1 0 = nI r := by rw [h.1 0 (by omega), r2]
  have e := RRc_cnt r1 r3 r4 r5 (fun b => decide (¬ st ≤ C b 1))
  unfold qv_less
  rw [← e]
  have key : ∀ m j : Nat, j ≤ r → r - j < m → zIt (mR_lessThan_B4 N) (fun _ _ _ _ => none) m ρ st (nI (qcnt (fun i => decide (¬ ρ 1 (30 + 8 * i) = 0) && decide (¬ st ≤ C ((ρ 1 (30 + 8 * i)).toNatClampNeg - 1) 1)) j)) (nI j) = some (nI (qcnt (fun i => decide (¬ ρ 1 (30 + 8 * i) = 0) && decide (¬ st ≤ C ((ρ 1 (30 + 8 * i)).toNatClampNeg - 1) 1)) r), ρ) := by
    intro m
    induction m with
    | zero => intro j h1 h2; omega
    | succ m ih =>
      intro j hj hm
      rw [zIt_s, mR_lessThan_B4]
      by_cases ej : j = r
      · subst ej
        simp -implicitDefEqProofs (disch := first | assumption | omega) only [zLet_eq, zCall_some, zCallu_some, q_cq, zBool_0, zBool_1, q_gn, q_gl, q_sn, q_sl, q_al, q_la, q_ml, q_lm, q_ue, q_un, q_mA, q_mK, q_uA, q_uK, q_g6, q_rm, q_dv, e0, q_le, if_pos]
      · have ihj := ih (j + 1) (by omega) (by omega)
        rw [qcnt_s] at ihj
        generalize zIt (mR_lessThan_B4 N) (fun _ _ _ _ => none) m = hd at *
        generalize qcnt (fun i => decide (¬ ρ 1 (30 + 8 * i) = 0) && decide (¬ st ≤ C ((ρ 1 (30 + 8 * i)).toNatClampNeg - 1) 1)) j = a at *
        rcases r3 j (by omega) with z | ⟨b, hb, z⟩
        · have z2 : ρ 1 (30 + 8 * j) ≤ 0 := by rw [z]; decide
          rw [if_neg (show ¬ (decide (¬ ρ 1 (30 + 8 * j) = 0) && decide (¬ st ≤ C ((ρ 1 (30 + 8 * j)).toNatClampNeg - 1) 1)) = true by simp [z]), Nat.add_zero] at ihj
          simp -implicitDefEqProofs (disch := first | assumption | omega) only [zLet_eq, zCall_some, zCallu_some, q_cq, zBool_0, zBool_1, q_gn, q_gl, q_sn, q_sl, q_al, q_la, q_ml, q_lm, q_ue, q_un, q_mA, q_mK, q_uA, q_uK, q_g6, q_rm, q_dv, e0, q_le, if_neg, if_pos, pR_cacheAt, mR_lessThan_46, mR_lessThan_47, Nat.add_zero]
          exact ihj
        · have z2 : ¬ ρ 1 (30 + 8 * j) ≤ 0 := by rw [z.1]; exact nI_nle (by omega) (by omega)
          have z3 : ¬ ρ 1 (30 + 8 * j) = 0 := by rw [z.1]; exact nI_ne0 (by omega) (by omega)
          have ecl : (ρ 1 (30 + 8 * j)).toNatClampNeg - 1 = b := by rw [z.1, nI_clamp (by omega)]; omega
          have e32 : ρ 1 (30 + 8 * j + 2) = C b 1 := by rw [show 30 + 8 * j + 2 = 32 + 8 * j by omega]; exact z.2.2.2.1
          rw [ecl] at ihj
          by_cases cc : st ≤ C b 1
          · rw [if_neg (show ¬ (decide (¬ ρ 1 (30 + 8 * j) = 0) && decide (¬ st ≤ C b 1)) = true by simp [cc]), Nat.add_zero] at ihj
            simp -implicitDefEqProofs (disch := first | assumption | omega) only [zLet_eq, zCall_some, zCallu_some, q_cq, zBool_0, zBool_1, q_gn, q_gl, q_sn, q_sl, q_al, q_la, q_ml, q_lm, q_ue, q_un, q_mA, q_mK, q_uA, q_uK, q_g6, q_rm, q_dv, e0, q_le, if_neg, if_pos, pR_cacheAt, e32, mR_lessThan_46, mR_lessThan_47, Nat.add_zero]
            exact ihj
          · rw [if_pos (show (decide (¬ ρ 1 (30 + 8 * j) = 0) && decide (¬ st ≤ C b 1)) = true by simp [z3, cc])] at ihj
            simp -implicitDefEqProofs (disch := first | assumption | omega) only [zLet_eq, zCall_some, zCallu_some, q_cq, zBool_0, zBool_1, q_gn, q_gl, q_sn, q_sl, q_al, q_la, q_ml, q_lm, q_ue, q_un, q_mA, q_mK, q_uA, q_uK, q_g6, q_rm, q_dv, e0, q_le, if_neg, if_pos, pR_cacheAt, e32, mR_lessThan_47]
            exact ihj
  exact key N 0 (by omega) (by omega)
