/-! THE REFERENCE: the stream of a read -/
theorem r_stepped_loop (N : Nat) {F : ST} {q : Bool} {ρ A C H : ST} (h : RR F q ρ A C H) (x : Int32) : ∀ (m j : Nat) (f : Option Nat), j ≤ 6 → 6 - j < m → (∀ p, f = some p → p < 6) → zIt (mR_steppedBy_B4 N) (fun _ _ _ _ => none) m ρ x (qa_eR f) (nI j) = some (qa_eR (qa_stepping A x (6 - j) j f), ρ) := by
  intro m
  induction m with
  | zero => intro j f h1 h2; omega
  | succ m ih =>
    intro j f hj hm hf
    rw [zIt_s, mR_steppedBy_B4]
    by_cases e : j = 6
    · subst e
      simp -implicitDefEqProofs (disch := first | assumption | omega) only [zLet_eq, zCall_some, zCallu_some, q_cq, zBool_0, zBool_1, q_gn, q_gl, q_sn, q_sl, q_al, q_la, q_ml, q_lm, q_ue, q_un, q_mA, q_mK, q_uA, q_uK, q_g6, q_rm, q_dv, q_ltl, q_lel, q_llt, q_lle, q_eql, q_lt, q_le, q_eq, q_m1F, if_pos, if_neg, if_true, if_false]
      rfl
    · have hj6 : j < 6 := by omega
      rw [show 6 - j = (6 - (j + 1)) + 1 by omega, qa_stepping]
      by_cases e1 : A (12 + j) 0 = -1
      · have e2 : ¬ ρ 1 (542 + 12 * j) = 1 := fun w => (RR_s1 h hj6).mp w e1
        rw [if_pos (Or.inl e1)]
        simp -implicitDefEqProofs (disch := first | assumption | omega) only [zLet_eq, zCall_some, zCallu_some, q_cq, zBool_0, zBool_1, q_gn, q_gl, q_sn, q_sl, q_al, q_la, q_ml, q_lm, q_ue, q_un, q_mA, q_mK, q_uA, q_uK, q_g6, q_rm, q_dv, q_ltl, q_lel, q_llt, q_lle, q_eql, q_lt, q_le, q_eq, q_m1F, if_pos, if_neg, if_true, if_false, r_streamAt, mR_steppedBy_89]
        exact ih (j + 1) f (by omega) (by omega) hf
      · have e2 : ρ 1 (542 + 12 * j) = 1 := (RR_s1 h hj6).mpr e1
        have es3 : ρ 1 (542 + 12 * j + 3) = A (12 + j) 2 := RR_sr h (k := 2) hj6 e1 (by omega)
        have es2 : ρ 1 (542 + 12 * j + 2) = A (12 + j) 1 := RR_sr h (k := 1) hj6 e1 (by omega)
        have es5 : ρ 1 (542 + 12 * j + 5) = A (12 + j) 4 := RR_sr h (k := 4) hj6 e1 (by omega)
        by_cases e3 : A (12 + j) 2 = 0
        · rw [if_pos (Or.inr (Or.inl e3))]
          simp -implicitDefEqProofs (disch := first | assumption | omega) only [zLet_eq, zCall_some, zCallu_some, q_cq, zBool_0, zBool_1, q_gn, q_gl, q_sn, q_sl, q_al, q_la, q_ml, q_lm, q_ue, q_un, q_mA, q_mK, q_uA, q_uK, q_g6, q_rm, q_dv, q_ltl, q_lel, q_llt, q_lle, q_eql, q_lt, q_le, q_eq, q_m1F, if_pos, if_neg, if_true, if_false, r_streamAt, e2, es3, mR_steppedBy_89]
          exact ih (j + 1) f (by omega) (by omega) hf
        · by_cases e4 : A (12 + j) 1 + A (12 + j) 2 = x
          · rw [if_neg (show ¬ (A (12 + j) 0 = -1 ∨ A (12 + j) 2 = 0 ∨ ¬ A (12 + j) 1 + A (12 + j) 2 = x) from fun w => by rcases w with w | w | w; exact e1 w; exact e3 w; exact w e4)]
            by_cases e5 : A (12 + j) 4 ≤ 0
            · rw [if_pos e5]
              simp -implicitDefEqProofs (disch := first | assumption | omega) only [zLet_eq, zCall_some, zCallu_some, q_cq, zBool_0, zBool_1, q_gn, q_gl, q_sn, q_sl, q_al, q_la, q_ml, q_lm, q_ue, q_un, q_mA, q_mK, q_uA, q_uK, q_g6, q_rm, q_dv, q_ltl, q_lel, q_llt, q_lle, q_eql, q_lt, q_le, q_eq, q_m1F, if_pos, if_neg, if_true, if_false, r_streamAt, e2, es3, es2, es5, mR_steppedBy_89, mR_steppedBy_88]
              cases f with
              | none =>
                rw [if_pos (show qa_eR none = -1 from rfl), if_pos (show (none : Option Nat) = none from rfl)]
                exact ih (j + 1) (some j) (by omega) (by omega) (fun p w => by cases w; omega)
              | some p =>
                have := hf p rfl
                rw [if_neg (show ¬ qa_eR (some p) = -1 from q_m1 (by omega)), if_neg (show ¬ (some p = none) from fun w => by cases w)]
                exact ih (j + 1) (some p) (by omega) (by omega) hf
            · rw [if_neg e5]
              simp -implicitDefEqProofs (disch := first | assumption | omega) only [zLet_eq, zCall_some, zCallu_some, q_cq, zBool_0, zBool_1, q_gn, q_gl, q_sn, q_sl, q_al, q_la, q_ml, q_lm, q_ue, q_un, q_mA, q_mK, q_uA, q_uK, q_g6, q_rm, q_dv, q_ltl, q_lel, q_llt, q_lle, q_eql, q_lt, q_le, q_eq, q_m1F, if_pos, if_neg, if_true, if_false, r_streamAt, e2, es3, es2, es5]
              rfl
          · rw [if_pos (Or.inr (Or.inr e4))]
            simp -implicitDefEqProofs (disch := first | assumption | omega) only [zLet_eq, zCall_some, zCallu_some, q_cq, zBool_0, zBool_1, q_gn, q_gl, q_sn, q_sl, q_al, q_la, q_ml, q_lm, q_ue, q_un, q_mA, q_mK, q_uA, q_uK, q_g6, q_rm, q_dv, q_ltl, q_lel, q_llt, q_lle, q_eql, q_lt, q_le, q_eq, q_m1F, if_pos, if_neg, if_true, if_false, r_streamAt, e2, es3, es2, mR_steppedBy_89]
            exact ih (j + 1) f (by omega) (by omega) hf
theorem r_stepped (N : Nat) (hN : 6 < N) {F : ST} {q : Bool} {ρ A C H : ST} (h : RR F q ρ A C H) (x : Int32) : mR_steppedBy N ρ x = some (qa_eR (qa_stepping A x 6 0 none), ρ) :=
  r_stepped_loop N h x N 0 none (by omega) (by omega) (fun p w => by cases w)
theorem r_lastAt_loop (N : Nat) {F : ST} {q : Bool} {ρ A C H : ST} (h : RR F q ρ A C H) (x : Int32) : ∀ (m j : Nat), j ≤ 6 → 6 - j < m → zIt (mR_lastAt_B2 N) (fun _ _ _ => none) m ρ x (nI j) = some (qa_eR (qa_first (fun p => decide (¬ A (12 + p) 0 = -1) && decide (A (12 + p) 1 = x)) (6 - j) j), ρ) := by
  intro m
  induction m with
  | zero => intro j h1 h2; omega
  | succ m ih =>
    intro j hj hm
    rw [zIt_s, mR_lastAt_B2]
    by_cases e : j = 6
    · subst e
      simp -implicitDefEqProofs (disch := first | assumption | omega) only [zLet_eq, zCall_some, zCallu_some, q_cq, zBool_0, zBool_1, q_gn, q_gl, q_sn, q_sl, q_al, q_la, q_ml, q_lm, q_ue, q_un, q_mA, q_mK, q_uA, q_uK, q_g6, q_rm, q_dv, q_ltl, q_lel, q_llt, q_lle, q_eql, q_lt, q_le, q_eq, q_m1F, if_pos, if_neg, if_true, if_false]
      rfl
    · have hj6 : j < 6 := by omega
      rw [show 6 - j = (6 - (j + 1)) + 1 by omega, qa_first]
      by_cases e1 : A (12 + j) 0 = -1
      · have e2 : ¬ ρ 1 (542 + 12 * j) = 1 := fun w => (RR_s1 h hj6).mp w e1
        rw [if_neg (show ¬ (decide (¬ A (12 + j) 0 = -1) && decide (A (12 + j) 1 = x)) = true by simp [e1])]
        simp -implicitDefEqProofs (disch := first | assumption | omega) only [zLet_eq, zCall_some, zCallu_some, q_cq, zBool_0, zBool_1, q_gn, q_gl, q_sn, q_sl, q_al, q_la, q_ml, q_lm, q_ue, q_un, q_mA, q_mK, q_uA, q_uK, q_g6, q_rm, q_dv, q_ltl, q_lel, q_llt, q_lle, q_eql, q_lt, q_le, q_eq, q_m1F, if_pos, if_neg, if_true, if_false, r_streamAt, mR_lastAt_41]
        exact ih (j + 1) (by omega) (by omega)
      · have e2 : ρ 1 (542 + 12 * j) = 1 := (RR_s1 h hj6).mpr e1
        have es2 : ρ 1 (542 + 12 * j + 2) = A (12 + j) 1 := RR_sr h (k := 1) hj6 e1 (by omega)
        by_cases e3 : A (12 + j) 1 = x
        · rw [if_pos (show (decide (¬ A (12 + j) 0 = -1) && decide (A (12 + j) 1 = x)) = true by simp [e1, e3])]
          simp -implicitDefEqProofs (disch := first | assumption | omega) only [zLet_eq, zCall_some, zCallu_some, q_cq, zBool_0, zBool_1, q_gn, q_gl, q_sn, q_sl, q_al, q_la, q_ml, q_lm, q_ue, q_un, q_mA, q_mK, q_uA, q_uK, q_g6, q_rm, q_dv, q_ltl, q_lel, q_llt, q_lle, q_eql, q_lt, q_le, q_eq, q_m1F, if_pos, if_neg, if_true, if_false, r_streamAt, e2, es2]
          rfl
        · rw [if_neg (show ¬ (decide (¬ A (12 + j) 0 = -1) && decide (A (12 + j) 1 = x)) = true by simp [e3])]
          simp -implicitDefEqProofs (disch := first | assumption | omega) only [zLet_eq, zCall_some, zCallu_some, q_cq, zBool_0, zBool_1, q_gn, q_gl, q_sn, q_sl, q_al, q_la, q_ml, q_lm, q_ue, q_un, q_mA, q_mK, q_uA, q_uK, q_g6, q_rm, q_dv, q_ltl, q_lel, q_llt, q_lle, q_eql, q_lt, q_le, q_eq, q_m1F, if_pos, if_neg, if_true, if_false, r_streamAt, e2, es2, mR_lastAt_41]
          exact ih (j + 1) (by omega) (by omega)
theorem r_lastAt (N : Nat) (hN : 6 < N) {F : ST} {q : Bool} {ρ A C H : ST} (h : RR F q ρ A C H) (x : Int32) : mR_lastAt N ρ x = some (qa_eR (qa_lastAt A x), ρ) :=
  r_lastAt_loop N h x N 0 (by omega) (by omega)
theorem r_size (N : Nat) (ρ : ST) (x : Int32) : mR_size N ρ x = some (if 0 ≤ x then x else 0 - x, ρ) := by
  rw [mR_size]
  by_cases e : 0 ≤ x
  · rw [if_pos e, if_pos e]; rfl
  · rw [if_neg e, if_neg e, zLet_eq, mR_size_10]
    congr 2
theorem r_paired_loop (N : Nat) {F : ST} {q : Bool} {ρ A C H : ST} (h : RR F q ρ A C H) (x : Int32) : ∀ (m j : Nat) (f : Option Nat) (near : Int32), j ≤ 6 → 6 - j < m → zIt (mR_pairedBy_B14 N) (fun _ _ _ _ _ => none) m ρ x (qa_eR f) near (nI j) = some (qa_eR (qa_pairing A x (6 - j) j f near), ρ) := by
  intro m
  induction m with
  | zero => intro j f near h1 h2; omega
  | succ m ih =>
    intro j f near hj hm
    rw [zIt_s, mR_pairedBy_B14]
    by_cases e : j = 6
    · subst e
      simp -implicitDefEqProofs (disch := first | assumption | omega) only [zLet_eq, zCall_some, zCallu_some, q_cq, zBool_0, zBool_1, q_gn, q_gl, q_sn, q_sl, q_al, q_la, q_ml, q_lm, q_ue, q_un, q_mA, q_mK, q_uA, q_uK, q_g6, q_rm, q_dv, q_ltl, q_lel, q_llt, q_lle, q_eql, q_lt, q_le, q_eq, q_m1F, if_pos, if_neg, if_true, if_false]
      rfl
    · have hj6 : j < 6 := by omega
      rw [show 6 - j = (6 - (j + 1)) + 1 by omega, qa_pairing]
      by_cases e1 : A (12 + j) 0 = -1
      · have e2 : ¬ ρ 1 (542 + 12 * j) = 1 := fun w => (RR_s1 h hj6).mp w e1
        rw [if_pos (Or.inl e1)]
        simp -implicitDefEqProofs (disch := first | assumption | omega) only [zLet_eq, zCall_some, zCallu_some, q_cq, zBool_0, zBool_1, q_gn, q_gl, q_sn, q_sl, q_al, q_la, q_ml, q_lm, q_ue, q_un, q_mA, q_mK, q_uA, q_uK, q_g6, q_rm, q_dv, q_ltl, q_lel, q_llt, q_lle, q_eql, q_lt, q_le, q_eq, q_m1F, if_pos, if_neg, if_true, if_false, r_streamAt, mR_pairedBy_87]
        exact ih (j + 1) f near (by omega) (by omega)
      · have e2 : ρ 1 (542 + 12 * j) = 1 := (RR_s1 h hj6).mpr e1
        have es3 : ρ 1 (542 + 12 * j + 3) = A (12 + j) 2 := RR_sr h (k := 2) hj6 e1 (by omega)
        have es2 : ρ 1 (542 + 12 * j + 2) = A (12 + j) 1 := RR_sr h (k := 1) hj6 e1 (by omega)
        by_cases e3 : A (12 + j) 2 = 0
        · by_cases e4 : near ≤ qa_far A x j
          · rw [if_pos (Or.inr (Or.inr e4))]
            unfold qa_far at e4
            simp -implicitDefEqProofs (disch := first | assumption | omega) only [zLet_eq, zCall_some, zCallu_some, q_cq, zBool_0, zBool_1, q_gn, q_gl, q_sn, q_sl, q_al, q_la, q_ml, q_lm, q_ue, q_un, q_mA, q_mK, q_uA, q_uK, q_g6, q_rm, q_dv, q_ltl, q_lel, q_llt, q_lle, q_eql, q_lt, q_le, q_eq, q_m1F, if_pos, if_neg, if_true, if_false, r_streamAt, e2, es3, es2, r_size, mR_pairedBy_87]
            exact ih (j + 1) f near (by omega) (by omega)
          · rw [if_neg (show ¬ (A (12 + j) 0 = -1 ∨ ¬ A (12 + j) 2 = 0 ∨ near ≤ qa_far A x j) from fun w => by rcases w with w | w | w; exact e1 w; exact w e3; exact e4 w)]
            have ih2 := ih (j + 1) (some j) (qa_far A x j) (by omega) (by omega)
            unfold qa_far at e4 ih2
            simp -implicitDefEqProofs (disch := first | assumption | omega) only [zLet_eq, zCall_some, zCallu_some, q_cq, zBool_0, zBool_1, q_gn, q_gl, q_sn, q_sl, q_al, q_la, q_ml, q_lm, q_ue, q_un, q_mA, q_mK, q_uA, q_uK, q_g6, q_rm, q_dv, q_ltl, q_lel, q_llt, q_lle, q_eql, q_lt, q_le, q_eq, q_m1F, if_pos, if_neg, if_true, if_false, r_streamAt, e2, es3, es2, r_size, mR_pairedBy_87]
            exact ih2
        · rw [if_pos (Or.inr (Or.inl e3))]
          simp -implicitDefEqProofs (disch := first | assumption | omega) only [zLet_eq, zCall_some, zCallu_some, q_cq, zBool_0, zBool_1, q_gn, q_gl, q_sn, q_sl, q_al, q_la, q_ml, q_lm, q_ue, q_un, q_mA, q_mK, q_uA, q_uK, q_g6, q_rm, q_dv, q_ltl, q_lel, q_llt, q_lle, q_eql, q_lt, q_le, q_eq, q_m1F, if_pos, if_neg, if_true, if_false, r_streamAt, e2, es3, mR_pairedBy_87]
          exact ih (j + 1) f near (by omega) (by omega)
theorem r_paired (N : Nat) (hN : 6 < N) {F : ST} {q : Bool} {ρ A C H : ST} (h : RR F q ρ A C H) (x : Int32) : mR_pairedBy N ρ x = some (qa_eR (qa_pairing A x 6 0 none (A 1 4 + 1)), ρ) := by
  have e4 : ρ 1 4 = A 1 4 := h.1 4 (by omega)
  rw [mR_pairedBy]
  simp -implicitDefEqProofs (disch := first | assumption | omega) only [zLet_eq, zCall_some, zCallu_some, q_cq, zBool_0, zBool_1, q_gn, q_gl, q_sn, q_sl, q_al, q_la, q_ml, q_lm, q_ue, q_un, q_mA, q_mK, q_uA, q_uK, q_g6, q_rm, q_dv, e4]
  exact r_paired_loop N h x N 0 none (A 1 4 + 1) (by omega) (by omega)
theorem r_new_loop (N : Nat) {F : ST} {q : Bool} {ρ A C H : ST} {tt : Nat} (h : RR F q ρ A C H) (g : Gd A C tt) (t : Nat) (ht : t ≤ 6) (e6 : A 1 6 = nI t) : ∀ (m j f : Nat) (v u : Int32), j ≤ t → t - j < m → 1 ≤ t → ((j = 0 ∧ f = 0 ∧ v = -1 ∧ u = 0) ∨ (1 ≤ j ∧ f < j ∧ v = nI (542 + 12 * f) ∧ ¬ A (12 + f) 0 = -1 ∧ u = (if A (12 + f) 4 ≤ 0 then 1 else 0))) → zIt (mR_newPlace_B6 N) (fun _ _ _ _ => none) m ρ v u (nI j) = some (nI (542 + 12 * qa_open A (t - j) j f), ρ) := by
  have n01 : ¬ (0 : Int32) = 1 := by decide
  have n10 : ¬ (1 : Int32) = 0 := by decide
  intro m
  induction m with
  | zero => intro j f v u h1 h2; omega
  | succ m ih =>
    intro j f v u hj hm ht1 hI
    rw [zIt_s, mR_newPlace_B6]
    have e6' : ρ 1 6 = nI t := by rw [h.1 6 (by omega), e6]
    by_cases e : j = t
    · subst e
      rcases hI with ⟨w1, -⟩ | ⟨w1, w2, w3, w4, w5⟩
      · omega
      · rw [w3, Nat.sub_self]
        simp -implicitDefEqProofs (disch := first | assumption | omega) only [zLet_eq, zCall_some, zCallu_some, q_cq, zBool_0, zBool_1, q_gn, q_gl, q_sn, q_sl, q_al, q_la, q_ml, q_lm, q_ue, q_un, q_mA, q_mK, q_uA, q_uK, q_g6, q_rm, q_dv, q_le, if_pos, e6']
        rfl
    · have hj6 : j < 6 := by omega
      rw [show t - j = (t - (j + 1)) + 1 by omega, qa_open]
      by_cases e1 : A (12 + j) 0 = -1
      · have e2 : ρ 1 (542 + 12 * j) = 0 := (RR_s0 h hj6).mpr e1
        rw [if_pos e1]
        simp -implicitDefEqProofs (disch := first | assumption | omega) only [zLet_eq, zCall_some, zCallu_some, q_cq, zBool_0, zBool_1, q_gn, q_gl, q_sn, q_sl, q_al, q_la, q_ml, q_lm, q_ue, q_un, q_mA, q_mK, q_uA, q_uK, q_g6, q_rm, q_dv, q_le, if_neg, if_true, e6', r_streamAt, e2]
      · have e2 : ¬ ρ 1 (542 + 12 * j) = 0 := fun w => e1 ((RR_s0 h hj6).mp w)
        have es5 : ρ 1 (542 + 12 * j + 5) = A (12 + j) 4 := RR_sr h (k := 4) hj6 e1 (by omega)
        have es8 : ρ 1 (542 + 12 * j + 8) = A (12 + j) 7 := RR_sr h (k := 7) hj6 e1 (by omega)
        have hwj := (g.1.2.2.1 j hj6 e1).2.2.2.2.2.2.2.2.1
        have hz : ∀ p : Nat, 0 ≤ (A (12 + p) 4).toInt → (A (12 + p) 4 = 0 ↔ A (12 + p) 4 ≤ 0) := fun p hp => by
          rw [i_eq, i_le, show (0 : Int32).toInt = 0 from by decide]
          omega
        rw [if_neg e1]
        have tk := fun hh => ih (j + 1) j (nI (542 + 12 * j)) (if A (12 + j) 4 ≤ 0 then 1 else 0) (by omega) (by omega) ht1 (Or.inr ⟨by omega, by omega, rfl, e1, hh⟩)
        have tk := tk rfl
        generalize zIt (mR_newPlace_B6 N) (fun _ _ _ _ => none) m = hd at *
        have body : (if A (12 + j) 4 = 0 then mR_newPlace_53 N hd ρ v u (nI j) (nI (542 + 12 * j)) 1 else mR_newPlace_53 N hd ρ v u (nI j) (nI (542 + 12 * j)) 0) = mR_newPlace_53 N hd ρ v u (nI j) (nI (542 + 12 * j)) (if A (12 + j) 4 ≤ 0 then 1 else 0) := by
          by_cases w : A (12 + j) 4 ≤ 0
          · rw [if_pos ((hz j hwj).mpr w), if_pos w]
          · rw [if_neg (fun y => w ((hz j hwj).mp y)), if_neg w]
        simp -implicitDefEqProofs (disch := first | assumption | omega) only [zLet_eq, zCall_some, zCallu_some, q_cq, zBool_0, zBool_1, q_gn, q_gl, q_sn, q_sl, q_al, q_la, q_ml, q_lm, q_ue, q_un, q_mA, q_mK, q_uA, q_uK, q_g6, q_rm, q_dv, q_le, if_neg, e6', r_streamAt, es5]
        rw [body]
        rcases hI with ⟨w1, w2, w3, w4⟩ | ⟨w1, w2, w3, w4, w5⟩
        · subst w1; subst w2
          rw [mR_newPlace_53, if_pos w3, mR_newPlace_97, mR_newPlace_103]
          simp -implicitDefEqProofs (disch := first | assumption | omega) only [zLet_eq, zCall_some, zCallu_some, q_cq, zBool_0, zBool_1, q_gn, q_gl, q_sn, q_sl, q_al, q_la, q_ml, q_lm, q_ue, q_un, q_mA, q_mK, q_uA, q_uK, q_g6, q_rm, q_dv]
          simp only [ite_self]
          exact tk
        · have hf6 : f < 6 := by omega
          have kp := ih (j + 1) f v u (by omega) (by omega) ht1 (Or.inr ⟨by omega, by omega, w3, w4, w5⟩)
          have ef8 : ρ 1 (542 + 12 * f + 8) = A (12 + f) 7 := RR_sr h (k := 7) hf6 w4 (by omega)
          rw [mR_newPlace_53, if_neg (show ¬ v = -1 by rw [w3]; exact q_m1 (by omega))]
          by_cases c1 : A (12 + j) 4 ≤ 0
          · rw [if_pos c1] at tk ⊢
            rw [if_neg n10]
            by_cases c2 : A (12 + f) 4 ≤ 0
            · rw [if_pos c2] at w5
              rw [if_neg (show ¬ u = 0 by rw [w5]; decide), mR_newPlace_69, if_pos w5.symm, w3]
              simp -implicitDefEqProofs (disch := first | assumption | omega) only [zLet_eq, zCall_some, zCallu_some, q_cq, zBool_0, zBool_1, q_gn, q_gl, q_sn, q_sl, q_al, q_la, q_ml, q_lm, q_ue, q_un, q_mA, q_mK, q_uA, q_uK, q_g6, q_rm, q_dv, es8, ef8]
              by_cases c3 : A (12 + f) 7 ≤ A (12 + j) 7
              · rw [if_pos c3, mR_newPlace_103, if_neg (show ¬ (if (A (12 + j) 4 ≤ 0 ↔ A (12 + f) 4 ≤ 0) then ¬ A (12 + f) 7 ≤ A (12 + j) 7 else ¬ A (12 + f) 4 ≤ 0) by rw [if_pos ⟨fun _ => c2, fun _ => c1⟩]; exact fun w => w c3)]
                simp -implicitDefEqProofs (disch := first | assumption | omega) only [zLet_eq, zCall_some, zCallu_some, q_cq, zBool_0, zBool_1, q_gn, q_gl, q_sn, q_sl, q_al, q_la, q_ml, q_lm, q_ue, q_un, q_mA, q_mK, q_uA, q_uK, q_g6, q_rm, q_dv]
                rw [← w3]
                exact kp
              · rw [if_neg c3, mR_newPlace_97, mR_newPlace_103, if_pos (show (if (A (12 + j) 4 ≤ 0 ↔ A (12 + f) 4 ≤ 0) then ¬ A (12 + f) 7 ≤ A (12 + j) 7 else ¬ A (12 + f) 4 ≤ 0) by rw [if_pos ⟨fun _ => c2, fun _ => c1⟩]; exact c3)]
                simp -implicitDefEqProofs (disch := first | assumption | omega) only [zLet_eq, zCall_some, zCallu_some, q_cq, zBool_0, zBool_1, q_gn, q_gl, q_sn, q_sl, q_al, q_la, q_ml, q_lm, q_ue, q_un, q_mA, q_mK, q_uA, q_uK, q_g6, q_rm, q_dv]
                exact tk
            · rw [if_neg c2] at w5
              rw [if_pos w5, mR_newPlace_97, mR_newPlace_103, if_pos (show (if (A (12 + j) 4 ≤ 0 ↔ A (12 + f) 4 ≤ 0) then ¬ A (12 + f) 7 ≤ A (12 + j) 7 else ¬ A (12 + f) 4 ≤ 0) by rw [if_neg (fun w => c2 (w.mp c1))]; exact c2)]
              simp -implicitDefEqProofs (disch := first | assumption | omega) only [zLet_eq, zCall_some, zCallu_some, q_cq, zBool_0, zBool_1, q_gn, q_gl, q_sn, q_sl, q_al, q_la, q_ml, q_lm, q_ue, q_un, q_mA, q_mK, q_uA, q_uK, q_g6, q_rm, q_dv]
              exact tk
          · rw [if_neg c1] at tk ⊢
            rw [if_pos rfl, mR_newPlace_69]
            by_cases c2 : A (12 + f) 4 ≤ 0
            · rw [if_pos c2] at w5
              rw [if_neg (show ¬ (0 : Int32) = u by rw [w5]; decide), mR_newPlace_103, if_neg (show ¬ (if (A (12 + j) 4 ≤ 0 ↔ A (12 + f) 4 ≤ 0) then ¬ A (12 + f) 7 ≤ A (12 + j) 7 else ¬ A (12 + f) 4 ≤ 0) by rw [if_neg (fun w => c1 (w.mpr c2))]; exact fun w => w c2)]
              simp -implicitDefEqProofs (disch := first | assumption | omega) only [zLet_eq, zCall_some, zCallu_some, q_cq, zBool_0, zBool_1, q_gn, q_gl, q_sn, q_sl, q_al, q_la, q_ml, q_lm, q_ue, q_un, q_mA, q_mK, q_uA, q_uK, q_g6, q_rm, q_dv]
              exact kp
            · rw [if_neg c2] at w5
              rw [if_pos w5.symm, w3]
              simp -implicitDefEqProofs (disch := first | assumption | omega) only [zLet_eq, zCall_some, zCallu_some, q_cq, zBool_0, zBool_1, q_gn, q_gl, q_sn, q_sl, q_al, q_la, q_ml, q_lm, q_ue, q_un, q_mA, q_mK, q_uA, q_uK, q_g6, q_rm, q_dv, es8, ef8]
              by_cases c3 : A (12 + f) 7 ≤ A (12 + j) 7
              · rw [if_pos c3, mR_newPlace_103, if_neg (show ¬ (if (A (12 + j) 4 ≤ 0 ↔ A (12 + f) 4 ≤ 0) then ¬ A (12 + f) 7 ≤ A (12 + j) 7 else ¬ A (12 + f) 4 ≤ 0) by rw [if_pos ⟨fun w => absurd w c1, fun w => absurd w c2⟩]; exact fun w => w c3)]
                simp -implicitDefEqProofs (disch := first | assumption | omega) only [zLet_eq, zCall_some, zCallu_some, q_cq, zBool_0, zBool_1, q_gn, q_gl, q_sn, q_sl, q_al, q_la, q_ml, q_lm, q_ue, q_un, q_mA, q_mK, q_uA, q_uK, q_g6, q_rm, q_dv]
                rw [← w3]
                exact kp
              · rw [if_neg c3, mR_newPlace_97, mR_newPlace_103, if_pos (show (if (A (12 + j) 4 ≤ 0 ↔ A (12 + f) 4 ≤ 0) then ¬ A (12 + f) 7 ≤ A (12 + j) 7 else ¬ A (12 + f) 4 ≤ 0) by rw [if_pos ⟨fun w => absurd w c1, fun w => absurd w c2⟩]; exact c3)]
                simp -implicitDefEqProofs (disch := first | assumption | omega) only [zLet_eq, zCall_some, zCallu_some, q_cq, zBool_0, zBool_1, q_gn, q_gl, q_sn, q_sl, q_al, q_la, q_ml, q_lm, q_ue, q_un, q_mA, q_mK, q_uA, q_uK, q_g6, q_rm, q_dv]
                exact tk
theorem r_new (N : Nat) (hN : 6 < N) {F : ST} {q : Bool} {ρ A C H : ST} {tt : Nat} (h : RR F q ρ A C H) (g : Gd A C tt) (t : Nat) (ht : t ≤ 6) (ht1 : 1 ≤ t) (e6 : A 1 6 = nI t) : mR_newPlace N ρ = some (nI (542 + 12 * qa_open A t 0 0), ρ) :=
  r_new_loop N h g t ht e6 N 0 0 (-1) 0 (by omega) (by omega) ht1 (Or.inl ⟨rfl, rfl, rfl, rfl⟩)
