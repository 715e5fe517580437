/-! count -/
def qv_str (A : ST) (m : Int32) : Nat := qcnt (fun p => decide (¬ A (12 + p) 0 = -1) && decide (¬ A (12 + p) 4 < m)) 6
theorem qc_streams (N : Nat) (hN : 6 < N) {A κ : ST} (m : Int32) : mE_X2_streamsThere N (qmix A κ) m = some (nI (qv_str A m), qmix A κ) := by
  have key : ∀ n j : Nat, j ≤ 6 → 6 - j < n → zIt (mE_X2_streamsThere_B4 N) (fun _ _ _ _ => none) n (qmix A κ) m (nI (qcnt (fun p => decide (¬ A (12 + p) 0 = -1) && decide (¬ A (12 + p) 4 < m)) j)) (nI j) = some (nI (qv_str A m), qmix A κ) := by
    intro n
    induction n with
    | zero => intro j h1 h2; omega
    | succ n ih =>
      intro j hj hn
      rw [zIt_s, mE_X2_streamsThere_B4]
      by_cases e : j = 6
      · subst e
        simp -implicitDefEqProofs (disch := first | assumption | omega) only [zLet_eq, zCall_some, zCallu_some, q_cq, zBool_0, zBool_1, q_gn, q_gl, q_sn, q_sl, q_al, q_la, q_ml, q_lm, q_ue, q_un, q_mA, q_mK, q_uA, q_uK, q_g6, q_rm, q_dv, q_lle, if_pos]
        rfl
      · have ihj := ih (j + 1) (by omega) (by omega)
        rw [qcnt_s] at ihj
        by_cases e1 : A (12 + j) 0 = -1
        · rw [if_neg (show ¬ (decide (¬ A (12 + j) 0 = -1) && decide (¬ A (12 + j) 4 < m)) = true by simp [e1]), Nat.add_zero] at ihj
          simp -implicitDefEqProofs (disch := first | assumption | omega) only [zLet_eq, zCall_some, zCallu_some, q_cq, zBool_0, zBool_1, q_gn, q_gl, q_sn, q_sl, q_al, q_la, q_ml, q_lm, q_ue, q_un, q_mA, q_mK, q_uA, q_uK, q_g6, q_rm, q_dv, q_lle, if_neg, if_pos, mE_X2_streamsThere_39]
          exact ihj
        · by_cases e2 : A (12 + j) 4 < m
          · rw [if_neg (show ¬ (decide (¬ A (12 + j) 0 = -1) && decide (¬ A (12 + j) 4 < m)) = true by simp [e2]), Nat.add_zero] at ihj
            simp -implicitDefEqProofs (disch := first | assumption | omega) only [zLet_eq, zCall_some, zCallu_some, q_cq, zBool_0, zBool_1, q_gn, q_gl, q_sn, q_sl, q_al, q_la, q_ml, q_lm, q_ue, q_un, q_mA, q_mK, q_uA, q_uK, q_g6, q_rm, q_dv, q_lle, if_neg, if_pos, mE_X2_streamsThere_39]
            exact ihj
          · rw [if_pos (show (decide (¬ A (12 + j) 0 = -1) && decide (¬ A (12 + j) 4 < m)) = true by simp [e1, e2])] at ihj
            simp -implicitDefEqProofs (disch := first | assumption | omega) only [zLet_eq, zCall_some, zCallu_some, q_cq, zBool_0, zBool_1, q_gn, q_gl, q_sn, q_sl, q_al, q_la, q_ml, q_lm, q_ue, q_un, q_mA, q_mK, q_uA, q_uK, q_g6, q_rm, q_dv, q_lle, if_neg, if_pos, mE_X2_streamsThere_39]
            exact ihj
  exact key N 0 (by omega) (by omega)
theorem r_streams (N : Nat) (hN : 6 < N) {F : ST} {q : Bool} {ρ A C H : ST} {t : Nat} (h : RR F q ρ A C H) (g : Gd A C t) (m : Int32) (hm : m = 0 ∨ m = 1) : mR_streams N ρ m = some (nI (qv_str A m), ρ) := by
  have e0 : (0 : Int32).toInt = 0 := by decide
  have e1' : (1 : Int32).toInt = 1 := by decide
  have key : ∀ n j : Nat, j ≤ 6 → 6 - j < n → zIt (mR_streams_B4 N) (fun _ _ _ _ => none) n ρ m (nI (qcnt (fun p => decide (¬ A (12 + p) 0 = -1) && decide (¬ A (12 + p) 4 < m)) j)) (nI j) = some (nI (qv_str A m), ρ) := by
    intro n
    induction n with
    | zero => intro j h1 h2; omega
    | succ n ih =>
      intro j hj hn
      rw [zIt_s, mR_streams_B4]
      by_cases e : j = 6
      · subst e
        simp -implicitDefEqProofs (disch := first | assumption | omega) only [zLet_eq, zCall_some, zCallu_some, q_cq, zBool_0, zBool_1, q_gn, q_gl, q_sn, q_sl, q_al, q_la, q_ml, q_lm, q_ue, q_un, q_mA, q_mK, q_uA, q_uK, q_g6, q_rm, q_dv, q_lle, if_pos]
        rfl
      · have hj6 : j < 6 := by omega
        have ihj := ih (j + 1) (by omega) (by omega)
        rw [qcnt_s] at ihj
        generalize zIt (mR_streams_B4 N) (fun _ _ _ _ => none) n = hd at *
        by_cases e1 : A (12 + j) 0 = -1
        · have e2 : ¬ ρ 1 (542 + 12 * j) = 1 := fun w => (RR_s1 h hj6).mp w e1
          rw [if_neg (show ¬ (decide (¬ A (12 + j) 0 = -1) && decide (¬ A (12 + j) 4 < m)) = true by simp [e1]), Nat.add_zero] at ihj
          simp -implicitDefEqProofs (disch := first | assumption | omega) only [zLet_eq, zCall_some, zCallu_some, q_cq, zBool_0, zBool_1, q_gn, q_gl, q_sn, q_sl, q_al, q_la, q_ml, q_lm, q_ue, q_un, q_mA, q_mK, q_uA, q_uK, q_g6, q_rm, q_dv, q_lle, if_neg, r_streamAt, mR_streams_48, mR_streams_49, Nat.add_zero]
          exact ihj
        · have e2 : ρ 1 (542 + 12 * j) = 1 := (RR_s1 h hj6).mpr e1
          have es5 : ρ 1 (542 + 12 * j + 5) = A (12 + j) 4 := RR_sr h (k := 4) hj6 e1 (by omega)
          have hw := (g.1.2.2.1 j hj6 e1).2.2.2.2.2.2.2.2.1
          rcases hm with w | w
          · subst w
            have e3 : ¬ A (12 + j) 4 < 0 := by rw [i_lt, e0]; omega
            rw [if_pos (show (decide (¬ A (12 + j) 0 = -1) && decide (¬ A (12 + j) 4 < 0)) = true by simp [e1, e3])] at ihj
            simp -implicitDefEqProofs (disch := first | assumption | omega) only [zLet_eq, zCall_some, zCallu_some, q_cq, zBool_0, zBool_1, q_gn, q_gl, q_sn, q_sl, q_al, q_la, q_ml, q_lm, q_ue, q_un, q_mA, q_mK, q_uA, q_uK, q_g6, q_rm, q_dv, q_lle, if_neg, if_true, r_streamAt, e2, mR_streams_44, mR_streams_49]
            exact ihj
          · subst w
            by_cases e3 : A (12 + j) 4 ≤ 0
            · have e4 : A (12 + j) 4 < 1 := by rw [i_lt, e1']; rw [i_le, e0] at e3; omega
              rw [if_neg (show ¬ (decide (¬ A (12 + j) 0 = -1) && decide (¬ A (12 + j) 4 < 1)) = true by simp [e4]), Nat.add_zero] at ihj
              simp -implicitDefEqProofs (disch := first | assumption | omega) only [zLet_eq, zCall_some, zCallu_some, q_cq, zBool_0, zBool_1, q_gn, q_gl, q_sn, q_sl, q_al, q_la, q_ml, q_lm, q_ue, q_un, q_mA, q_mK, q_uA, q_uK, q_g6, q_rm, q_dv, q_lle, if_neg, if_pos, if_true, r_streamAt, e2, es5, n10, mR_streams_48, mR_streams_49, Nat.add_zero]
              exact ihj
            · have e4 : ¬ A (12 + j) 4 < 1 := by rw [i_lt, e1']; rw [i_le, e0] at e3; omega
              rw [if_pos (show (decide (¬ A (12 + j) 0 = -1) && decide (¬ A (12 + j) 4 < 1)) = true by simp [e1, e4])] at ihj
              simp -implicitDefEqProofs (disch := first | assumption | omega) only [zLet_eq, zCall_some, zCallu_some, q_cq, zBool_0, zBool_1, q_gn, q_gl, q_sn, q_sl, q_al, q_la, q_ml, q_lm, q_ue, q_un, q_mA, q_mK, q_uA, q_uK, q_g6, q_rm, q_dv, q_lle, if_neg, if_pos, if_true, r_streamAt, e2, es5, n10, mR_streams_44, mR_streams_49]
              exact ihj
  exact key N 0 (by omega) (by omega)
def qv_bad (A : ST) : Nat := qcnt (fun b => decide (¬ 0 ≤ A 26 b)) (A 1 7).toNatClampNeg
theorem qc_badB (N : Nat) (hN : 10000 < N) {A κ : ST} {s : Nat} (hs : s ≤ 10000) (e7 : A 1 7 = nI s) : mE_X1_badBelow N (qmix A κ) (nI s) = some (nI (qcnt (fun b => decide (¬ 0 ≤ A 26 b)) s), qmix A κ) := by
  have key : ∀ n j : Nat, j ≤ s → s - j < n → zIt (mE_X1_badBelow_B4 N) (fun _ _ _ _ => none) n (qmix A κ) (nI s) (nI (qcnt (fun b => decide (¬ 0 ≤ A 26 b)) j)) (nI j) = some (nI (qcnt (fun b => decide (¬ 0 ≤ A 26 b)) s), qmix A κ) := by
    intro n
    induction n with
    | zero => intro j h1 h2; omega
    | succ n ih =>
      intro j hj hn
      rw [zIt_s, mE_X1_badBelow_B4]
      by_cases e : j = s
      · subst e
        simp -implicitDefEqProofs (disch := first | assumption | omega) only [zLet_eq, zCall_some, zCallu_some, q_cq, zBool_0, zBool_1, q_gn, q_gl, q_sn, q_sl, q_al, q_la, q_ml, q_lm, q_ue, q_un, q_mA, q_mK, q_uA, q_uK, q_g6, q_rm, q_dv, q_le, if_pos, mE_X1_badBelow_34]
      · have ihj := ih (j + 1) (by omega) (by omega)
        rw [qcnt_s] at ihj
        generalize zIt (mE_X1_badBelow_B4 N) (fun _ _ _ _ => none) n = hd at *
        rw [if_neg (show ¬ nI s ≤ nI j from nI_ge (by omega) (by omega)), if_neg (show ¬ (10000 : Int32) ≤ nI j from nI_ge (a := j) (b := 10000) (by omega) (by decide)), zGet_nI (by omega) (by decide), q_mA (by omega)]
        by_cases e1 : 0 ≤ A 26 j
        · rw [if_neg (show ¬ decide (¬ 0 ≤ A 26 j) = true by simp [e1]), Nat.add_zero] at ihj
          rw [if_pos e1, mE_X1_badBelow_28, zLet_eq, nI_1]
          exact ihj
        · rw [if_pos (show decide (¬ 0 ≤ A 26 j) = true by simp [e1])] at ihj
          rw [if_neg e1, zLet_eq, nI_1, mE_X1_badBelow_28, zLet_eq, nI_1]
          exact ihj
  exact key N 0 (by omega) (by omega)
theorem r_badB (N : Nat) (hN : 10000 < N) {F : ST} {q : Bool} {ρ A C H : ST} (h : RR F q ρ A C H) {s : Nat} (hs : s ≤ 10000) (e7 : A 1 7 = nI s) : mR_badOnes N ρ = some (nI (qcnt (fun b => decide (¬ 0 ≤ A 26 b)) s), ρ) := by
  have e7' : ρ 1 7 = nI s := by rw [h.1 7 (by omega), e7]
  have key : ∀ n j : Nat, j ≤ s → s - j < n → zIt (mR_badOnes_B4 N) (fun _ _ _ => none) n ρ (nI (qcnt (fun b => decide (¬ 0 ≤ A 26 b)) j)) (nI j) = some (nI (qcnt (fun b => decide (¬ 0 ≤ A 26 b)) s), ρ) := by
    intro n
    induction n with
    | zero => intro j h1 h2; omega
    | succ n ih =>
      intro j hj hn
      rw [zIt_s, mR_badOnes_B4, zGet_at (i := 7) 7 rfl (by decide) (by decide), e7']
      by_cases e : j = s
      · subst e
        rw [if_pos (nI_le (Nat.le_refl _) (by omega))]
      · have ihj := ih (j + 1) (by omega) (by omega)
        rw [qcnt_s] at ihj
        generalize zIt (mR_badOnes_B4 N) (fun _ _ _ => none) n = hd at *
        rw [if_neg (show ¬ nI s ≤ nI j from nI_ge (by omega) (by omega)), zGet_nI (by omega) (by decide), (h.2.2.2.2.2.2.1 j (by omega)).2]
        by_cases e1 : 0 ≤ A 26 j
        · rw [if_neg (show ¬ decide (¬ 0 ≤ A 26 j) = true by simp [e1]), Nat.add_zero] at ihj
          rw [if_pos e1, if_pos rfl, mR_badOnes_30, zLet_eq, zLet_eq, nI_1, show nI (qcnt (fun b => decide (¬ 0 ≤ A 26 b)) j) + 0 = nI (qcnt (fun b => decide (¬ 0 ≤ A 26 b)) j + 0) from nI_add _ 0, Nat.add_zero]
          exact ihj
        · rw [if_pos (show decide (¬ 0 ≤ A 26 j) = true by simp [e1])] at ihj
          rw [if_neg e1, if_neg n10, mR_badOnes_30, zLet_eq, zLet_eq, nI_1, nI_1]
          exact ihj
  exact key N 0 (by omega) (by omega)
/-- what count() tells -/
def qv_count (A C H : ST) (w : Int32) : Int32 := if w = 10 then nI (qin C) else if w = 11 then nI (qah C) else if w = 12 then nI (qv_str A 0) else if w = 13 then nI (qv_str A 1) else if w = 15 then C 10000 0 else if w = 16 then H 18 4 else if w = 18 then nI (qv_bad A) else if w = 31 then A 22 2 else if 20 ≤ w.toInt ∧ w.toInt ≤ 29 then A 1 (w.toNatClampNeg - 20) else if 0 ≤ w.toInt ∧ w.toInt ≤ 33 then A 2 w.toNatClampNeg else -1
theorem qc_counted (N : Nat) (hN : 10000 < N) {A κ C H : ST} {t : Nat} (h : Rp κ A C H) (g : Gd A C t) (w : Int32) : mE_X2_counted N (qmix A κ) w = some (qv_count A C H w, qmix A κ) := by
  have htb := GT_b g.1.1
  obtain ⟨e9, e8, n, hn, e7, hR⟩ := h.2.1
  obtain ⟨el, l, h1, h2, l1, l2, l3, -⟩ := h.2.2
  obtain ⟨nx, ll, -, -, -, k2, k3, -⟩ := h.1
  have e0 : (0 : Int32).toInt = 0 := by decide
  have e20 : (20 : Int32).toInt = 20 := by decide
  have e30 : (30 : Int32).toInt = 30 := by decide
  have e34 : (34 : Int32).toInt = 34 := by decide
  rw [mE_X2_counted]
  unfold qv_count
  by_cases w10 : w = 10
  · rw [if_pos w10, if_pos w10, zLet_eq, q_mK (by omega), e7, RKs_n hR hn]
  · rw [if_neg w10, if_neg w10]
    by_cases w11 : w = 11
    · rw [if_pos w11, if_pos w11, zLet_eq, q_mK (by omega), e8]
    · rw [if_neg w11, if_neg w11]
      by_cases w12 : w = 12
      · rw [if_pos w12, if_pos w12, qc_streams N (by omega), zCall_some]
      · rw [if_neg w12, if_neg w12]
        by_cases w13 : w = 13
        · rw [if_pos w13, if_pos w13, qc_streams N (by omega), zCall_some]
        · rw [if_neg w13, if_neg w13]
          by_cases w15 : w = 15
          · rw [if_pos w15, if_pos w15, zLet_eq, q_mK (by omega), e9]
          · rw [if_neg w15, if_neg w15]
            by_cases w16 : w = 16
            · rw [if_pos w16, if_pos w16, zLet_eq, q_mK (by omega), l2, l3]
            · rw [if_neg w16, if_neg w16]
              by_cases w18 : w = 18
              · rw [if_pos w18, if_pos w18]
                obtain ⟨c1, c2⟩ := clamp_toInt (x := A 1 7) (by omega)
                unfold qv_bad
                generalize (A 1 7).toNatClampNeg = s at *
                rw [zGet_at (i := 7) 7 rfl (by decide) (by decide), q_mA (by omega), c2, qc_badB N hN (by omega) c2, zCall_some]
              · rw [if_neg w18, if_neg w18]
                by_cases w31 : w = 31
                · rw [if_pos w31, if_pos w31, zLet_eq, q_mK (by omega), k2, k3]
                · rw [if_neg w31, if_neg w31]
                  have c193 : ¬ (20 ≤ w.toInt ∧ w.toInt ≤ 29) → mE_X2_counted_193 N (qmix A κ) w = some (if 0 ≤ w.toInt ∧ w.toInt ≤ 33 then A 2 w.toNatClampNeg else -1, qmix A κ) := fun _ => by
                    rw [mE_X2_counted_193]
                    by_cases c1 : w < 0
                    · rw [if_pos c1, if_neg (by rw [i_lt, e0] at c1; omega)]; rfl
                    · rw [if_neg c1]
                      obtain ⟨j, hj, ej⟩ := nI_of c1
                      subst ej
                      by_cases c2 : j < 34
                      · rw [if_pos (show nI j < 34 from nI_lt c2 (by decide)), if_pos (by rw [nI_toInt hj]; omega), zGet_nI c2 (by decide), q_mA (by omega), nI_clamp hj]; rfl
                      · rw [if_neg (show ¬ nI j < 34 from nI_nlt (a := j) (b := 34) (by omega) hj), if_neg (by rw [nI_toInt hj]; omega)]; rfl
                  by_cases c1 : w < 20
                  · have c2 : ¬ (20 ≤ w.toInt ∧ w.toInt ≤ 29) := by rw [i_lt, e20] at c1; omega
                    rw [if_pos c1, if_neg c2, c193 c2]
                  · rw [if_neg c1]
                    rw [i_lt, e20] at c1
                    by_cases c2 : 30 ≤ w
                    · have c3 : ¬ (20 ≤ w.toInt ∧ w.toInt ≤ 29) := by rw [i_le, e30] at c2; omega
                      rw [if_pos c2, if_neg c3, c193 c3]
                    · rw [if_neg c2]
                      rw [i_le, e30] at c2
                      rw [if_pos (show 20 ≤ w.toInt ∧ w.toInt ≤ 29 by omega)]
                      obtain ⟨d1, d2⟩ := clamp_toInt (x := w) (by omega)
                      generalize w.toNatClampNeg = j at *
                      subst d2
                      rw [zLet_eq, show nI j - 20 = nI (j - 20) from pk_sub (a := j) (b := 20) (by omega), zGet_nI (by omega) (by decide), q_mA (by omega)]
