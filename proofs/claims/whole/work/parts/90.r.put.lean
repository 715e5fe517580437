/-! THE REFERENCE: the cache's counts, where a block lies, which one goes, put -/
theorem RRc_cnt {ρ A C : ST} {r : Nat} (hr : r ≤ 64) (h3 : ∀ i, i < r → ρ 1 (30 + 8 * i) = 0 ∨ ∃ b, b < 10000 ∧ RRe ρ A C i b) (h4 : ∀ b, b < 10000 → C b 0 = 1 → ∃ i, i < r ∧ ρ 1 (30 + 8 * i) = nI (b + 1)) (h5 : ∀ i j, i < r → j < r → ρ 1 (30 + 8 * i) = ρ 1 (30 + 8 * j) → ¬ ρ 1 (30 + 8 * i) = 0 → i = j) (P : Nat → Bool) : qcnt (fun i => decide (¬ ρ 1 (30 + 8 * i) = 0) && P ((ρ 1 (30 + 8 * i)).toNatClampNeg - 1)) r = qcnt (fun b => decide (C b 0 = 1) && P b) 10000 := by
  have hf : ∀ i, i < r → ¬ ρ 1 (30 + 8 * i) = 0 → ∃ b, b < 10000 ∧ C b 0 = 1 ∧ ρ 1 (30 + 8 * i) = nI (b + 1) ∧ (ρ 1 (30 + 8 * i)).toNatClampNeg - 1 = b := fun i hi hz => by
    rcases h3 i hi with e | ⟨b, hb, e⟩
    · exact absurd e hz
    · refine ⟨b, hb, e.2.1, e.1, ?_⟩
      rw [e.1, nI_clamp (by omega)]
      omega
  rw [← qcnt_bij (f := fun i => (ρ 1 (30 + 8 * i)).toNatClampNeg - 1) (occ := fun i => decide (¬ ρ 1 (30 + 8 * i) = 0)) (n := r) (P := fun b => decide (C b 0 = 1) && P b)]
  · apply qcnt_congr
    intro i hi
    by_cases hz : ρ 1 (30 + 8 * i) = 0
    · simp [hz]
    · obtain ⟨b, hb, hc, e1, e2⟩ := hf i hi hz
      simp only [e2]
      simp [hz, hc]
  · intro i hi o
    obtain ⟨b, hb, hc, e1, e2⟩ := hf i hi (of_decide_eq_true o)
    show (ρ 1 (30 + 8 * i)).toNatClampNeg - 1 < 10000
    omega
  · intro i j hi hj oi oj w
    obtain ⟨b, hb, hc, e1, e2⟩ := hf i hi (of_decide_eq_true oi)
    obtain ⟨b', hb', hc', e1', e2'⟩ := hf j hj (of_decide_eq_true oj)
    have : b = b' := by rw [← e2, ← e2']; exact w
    exact h5 i j hi hj (by rw [e1, e1', this]) (of_decide_eq_true oi)
  · intro b hb hp
    simp at hp
    obtain ⟨i, hi, e⟩ := h4 b hb hp.1
    refine ⟨i, hi, decide_eq_true (by rw [e]; exact nI_ne0 (by omega) (by omega)), ?_⟩
    show (ρ 1 (30 + 8 * i)).toNatClampNeg - 1 = b
    rw [e, nI_clamp (by omega)]
    omega
theorem RRc_in {ρ A C : ST} {r : Nat} (hr : r ≤ 64) (h3 : ∀ i, i < r → ρ 1 (30 + 8 * i) = 0 ∨ ∃ b, b < 10000 ∧ RRe ρ A C i b) (h4 : ∀ b, b < 10000 → C b 0 = 1 → ∃ i, i < r ∧ ρ 1 (30 + 8 * i) = nI (b + 1)) (h5 : ∀ i j, i < r → j < r → ρ 1 (30 + 8 * i) = ρ 1 (30 + 8 * j) → ¬ ρ 1 (30 + 8 * i) = 0 → i = j) : qcnt (fun i => decide (¬ ρ 1 (30 + 8 * i) = 0)) r = qin C := by
  have e := RRc_cnt hr h3 h4 h5 (fun _ => true)
  simp only [Bool.and_true] at e
  exact e
theorem RRc_ah {ρ A C : ST} {r : Nat} (hr : r ≤ 64) (h3 : ∀ i, i < r → ρ 1 (30 + 8 * i) = 0 ∨ ∃ b, b < 10000 ∧ RRe ρ A C i b) (h4 : ∀ b, b < 10000 → C b 0 = 1 → ∃ i, i < r ∧ ρ 1 (30 + 8 * i) = nI (b + 1)) (h5 : ∀ i j, i < r → j < r → ρ 1 (30 + 8 * i) = ρ 1 (30 + 8 * j) → ¬ ρ 1 (30 + 8 * i) = 0 → i = j) : qcnt (fun i => decide (¬ ρ 1 (30 + 8 * i) = 0) && decide (ρ 1 (33 + 8 * i) = 1)) r = qah C := by
  have e := RRc_cnt hr h3 h4 h5 (fun b => decide (C b 5 = 1))
  have e2 : qcnt (fun b => decide (C b 0 = 1) && decide (C b 5 = 1)) 10000 = qah C := by
    unfold qah
    exact qcnt_congr (fun i _ => by simp [Bool.decide_and])
  rw [← e2, ← e]
  apply qcnt_congr
  intro i hi
  rcases h3 i hi with z | ⟨b, hb, z⟩
  · simp [z]
  · rw [z.2.2.2.2.1, z.1, nI_clamp (by omega), show b + 1 - 1 = b by omega]
theorem r_many (N : Nat) (hN : 64 < N) {F : ST} {q : Bool} {ρ A C H : ST} (h : RR F q ρ A C H) : mR_many N ρ = some (nI (qin C), ρ) := by
  obtain ⟨r, r1, r2, r3, r4, r5⟩ := h.2.2.2.2.2.1
  have e0 : ρ 1 0 = nI r := by rw [h.1 0 (by omega), r2]
  rw [← RRc_in r1 r3 r4 r5]
  have key : ∀ m j : Nat, j ≤ r → r - j < m → zIt (mR_many_B4 N) (fun _ _ _ => none) m ρ (nI (qcnt (fun i => decide (¬ ρ 1 (30 + 8 * i) = 0)) j)) (nI j) = some (nI (qcnt (fun i => decide (¬ ρ 1 (30 + 8 * i) = 0)) r), ρ) := by
    intro m
    induction m with
    | zero => intro j h1 h2; omega
    | succ m ih =>
      intro j hj hm
      rw [zIt_s, mR_many_B4]
      by_cases e : j = r
      · subst e
        simp -implicitDefEqProofs (disch := first | assumption | omega) only [zLet_eq, zCall_some, zCallu_some, q_cq, zBool_0, zBool_1, q_gn, q_gl, q_sn, q_sl, q_al, q_la, q_ml, q_lm, q_ue, q_un, q_mA, q_mK, q_uA, q_uK, q_g6, q_rm, q_dv, q_ltl, q_lel, q_llt, q_lle, q_eql, q_lt, q_le, q_eq, q_m1F, if_pos, if_neg, if_true, if_false, e0]
      · have ihj := ih (j + 1) (by omega) (by omega)
        rw [qcnt_s] at ihj
        rcases r3 j (by omega) with z | ⟨b, hb, z⟩
        · have z2 : ρ 1 (30 + 8 * j) ≤ 0 := by rw [z]; decide
          rw [if_neg (show ¬ decide (¬ ρ 1 (30 + 8 * j) = 0) = true by simp [z]), Nat.add_zero] at ihj
          simp -implicitDefEqProofs (disch := first | assumption | omega) only [zLet_eq, zCall_some, zCallu_some, q_cq, zBool_0, zBool_1, q_gn, q_gl, q_sn, q_sl, q_al, q_la, q_ml, q_lm, q_ue, q_un, q_mA, q_mK, q_uA, q_uK, q_g6, q_rm, q_dv, q_ltl, q_lel, q_llt, q_lle, q_eql, q_lt, q_le, q_eq, q_m1F, if_pos, if_neg, if_true, if_false, e0, pR_cacheAt, mR_many_32]
          rw [Nat.add_zero]
          exact ihj
        · have z2 : ¬ ρ 1 (30 + 8 * j) ≤ 0 := by rw [z.1]; exact nI_nle (by omega) (by omega)
          rw [if_pos (show decide (¬ ρ 1 (30 + 8 * j) = 0) = true from decide_eq_true (by rw [z.1]; exact nI_ne0 (by omega) (by omega)))] at ihj
          simp -implicitDefEqProofs (disch := first | assumption | omega) only [zLet_eq, zCall_some, zCallu_some, q_cq, zBool_0, zBool_1, q_gn, q_gl, q_sn, q_sl, q_al, q_la, q_ml, q_lm, q_ue, q_un, q_mA, q_mK, q_uA, q_uK, q_g6, q_rm, q_dv, q_ltl, q_lel, q_llt, q_lle, q_eql, q_lt, q_le, q_eq, q_m1F, if_pos, if_neg, if_true, if_false, e0, pR_cacheAt, mR_many_32]
          exact ihj
  exact key N 0 (by omega) (by omega)
theorem r_manyA (N : Nat) (hN : 64 < N) {F : ST} {q : Bool} {ρ A C H : ST} {t : Nat} (h : RR F q ρ A C H) (g : Gd A C t) : mR_manyAhead N ρ = some (nI (qah C), ρ) := by
  obtain ⟨r, r1, r2, r3, r4, r5⟩ := h.2.2.2.2.2.1
  have e0 : ρ 1 0 = nI r := by rw [h.1 0 (by omega), r2]
  rw [← RRc_ah r1 r3 r4 r5]
  have key : ∀ m j : Nat, j ≤ r → r - j < m → zIt (mR_manyAhead_B4 N) (fun _ _ _ => none) m ρ (nI (qcnt (fun i => decide (¬ ρ 1 (30 + 8 * i) = 0) && decide (ρ 1 (33 + 8 * i) = 1)) j)) (nI j) = some (nI (qcnt (fun i => decide (¬ ρ 1 (30 + 8 * i) = 0) && decide (ρ 1 (33 + 8 * i) = 1)) r), ρ) := by
    intro m
    induction m with
    | zero => intro j h1 h2; omega
    | succ m ih =>
      intro j hj hm
      rw [zIt_s, mR_manyAhead_B4]
      by_cases e : j = r
      · subst e
        simp -implicitDefEqProofs (disch := first | assumption | omega) only [zLet_eq, zCall_some, zCallu_some, q_cq, zBool_0, zBool_1, q_gn, q_gl, q_sn, q_sl, q_al, q_la, q_ml, q_lm, q_ue, q_un, q_mA, q_mK, q_uA, q_uK, q_g6, q_rm, q_dv, q_ltl, q_lel, q_llt, q_lle, q_eql, q_lt, q_le, q_eq, q_m1F, if_pos, if_neg, if_true, if_false, e0]
      · have ihj := ih (j + 1) (by omega) (by omega)
        rw [qcnt_s] at ihj
        rcases r3 j (by omega) with z | ⟨b, hb, z⟩
        · have z2 : ρ 1 (30 + 8 * j) ≤ 0 := by rw [z]; decide
          rw [if_neg (show ¬ (decide (¬ ρ 1 (30 + 8 * j) = 0) && decide (ρ 1 (33 + 8 * j) = 1)) = true by simp [z]), Nat.add_zero] at ihj
          simp -implicitDefEqProofs (disch := first | assumption | omega) only [zLet_eq, zCall_some, zCallu_some, q_cq, zBool_0, zBool_1, q_gn, q_gl, q_sn, q_sl, q_al, q_la, q_ml, q_lm, q_ue, q_un, q_mA, q_mK, q_uA, q_uK, q_g6, q_rm, q_dv, q_ltl, q_lel, q_llt, q_lle, q_eql, q_lt, q_le, q_eq, q_m1F, if_pos, if_neg, if_true, if_false, e0, pR_cacheAt, mR_manyAhead_42]
          rw [Nat.add_zero]
          exact ihj
        · have z2 : ¬ ρ 1 (30 + 8 * j) ≤ 0 := by rw [z.1]; exact nI_nle (by omega) (by omega)
          have z3 : ¬ ρ 1 (30 + 8 * j) = 0 := by rw [z.1]; exact nI_ne0 (by omega) (by omega)
          have e33 : ρ 1 (30 + 8 * j + 3) = ρ 1 (33 + 8 * j) := by rw [show 30 + 8 * j + 3 = 33 + 8 * j by omega]
          rcases (g.2.1.2.1 b hb z.2.1).2.2.2.2.1 with w | w
          · have e5 : ρ 1 (33 + 8 * j) = 0 := by rw [z.2.2.2.2.1, w]
            rw [if_neg (show ¬ (decide (¬ ρ 1 (30 + 8 * j) = 0) && decide (ρ 1 (33 + 8 * j) = 1)) = true by simp [e5]), Nat.add_zero] at ihj
            simp -implicitDefEqProofs (disch := first | assumption | omega) only [zLet_eq, zCall_some, zCallu_some, q_cq, zBool_0, zBool_1, q_gn, q_gl, q_sn, q_sl, q_al, q_la, q_ml, q_lm, q_ue, q_un, q_mA, q_mK, q_uA, q_uK, q_g6, q_rm, q_dv, q_ltl, q_lel, q_llt, q_lle, q_eql, q_lt, q_le, q_eq, q_m1F, if_pos, if_neg, if_true, if_false, e0, pR_cacheAt, mR_manyAhead_42, e33, e5]
            rw [Nat.add_zero]
            exact ihj
          · have e5 : ρ 1 (33 + 8 * j) = 1 := by rw [z.2.2.2.2.1, w]
            rw [if_pos (show (decide (¬ ρ 1 (30 + 8 * j) = 0) && decide (ρ 1 (33 + 8 * j) = 1)) = true by simp [e5, z3])] at ihj
            simp -implicitDefEqProofs (disch := first | assumption | omega) only [zLet_eq, zCall_some, zCallu_some, q_cq, zBool_0, zBool_1, q_gn, q_gl, q_sn, q_sl, q_al, q_la, q_ml, q_lm, q_ue, q_un, q_mA, q_mK, q_uA, q_uK, q_g6, q_rm, q_dv, q_ltl, q_lel, q_llt, q_lle, q_eql, q_lt, q_le, q_eq, q_m1F, if_pos, if_neg, if_true, if_false, e0, pR_cacheAt, mR_manyAhead_42, e33, e5]
            exact ihj
  exact key N 0 (by omega) (by omega)
theorem fPl_spec {R : Nat → Int32} {x : Int32} : ∀ (m j : Nat), (fPl R x m j = -1 ∧ ∀ i, j ≤ i → i < j + m → ¬ R (30 + 8 * i) = x + 1) ∨ ∃ i, j ≤ i ∧ i < j + m ∧ R (30 + 8 * i) = x + 1 ∧ fPl R x m j = nI (30 + 8 * i) := by
  intro m
  induction m with
  | zero => intro j; exact Or.inl ⟨rfl, fun i h1 h2 => by omega⟩
  | succ m ih =>
    intro j
    rw [fPl]
    by_cases e : R (30 + 8 * j) = x + 1
    · rw [if_pos e]
      exact Or.inr ⟨j, Nat.le_refl _, by omega, e, rfl⟩
    · rw [if_neg e]
      rcases ih (j + 1) with ⟨h1, h2⟩ | ⟨i, h1, h2, h3, h4⟩
      · refine Or.inl ⟨h1, fun i i1 i2 => ?_⟩
        by_cases ei : i = j
        · subst ei; exact e
        · exact h2 i (by omega) (by omega)
      · exact Or.inr ⟨i, by omega, by omega, h3, h4⟩
theorem r_place (N : Nat) (hN : 64 < N) {F : ST} {q : Bool} {ρ A C H : ST} (h : RR F q ρ A C H) {b : Nat} (hb : b < 10000) : (¬ C b 0 = 1 ∧ mR_place N ρ (nI b) = some (-1, ρ)) ∨ (C b 0 = 1 ∧ ∃ i, i < 64 ∧ nI i < A 1 0 ∧ RRe ρ A C i b ∧ mR_place N ρ (nI b) = some (nI (30 + 8 * i), ρ)) := by
  obtain ⟨r, r1, r2, r3, r4, r5⟩ := h.2.2.2.2.2.1
  have e0 : ρ 1 0 = nI r := by rw [h.1 0 (by omega), r2]
  rw [pR_place N hN ρ (nI b) r e0 r1]
  rcases fPl_spec (R := ρ 1) (x := nI b) r 0 with ⟨h1, h2⟩ | ⟨i, h1, h2, h3, h4⟩
  · refine Or.inl ⟨fun hc => ?_, by rw [h1]⟩
    obtain ⟨i, hi, e⟩ := r4 b hb hc
    exact h2 i (by omega) (by omega) (by rw [e]; exact (nI_1 b).symm)
  · rw [nI_1] at h3
    rcases r3 i (by omega) with z | ⟨c, hc, z⟩
    · rw [z] at h3
      exact absurd h3.symm (nI_ne0 (by omega) (by omega))
    · have : b + 1 = c + 1 := nI_inj (by omega) (by omega) (h3.symm.trans z.1)
      have : b = c := by omega
      subst this
      exact Or.inr ⟨z.2.1, i, by omega, by rw [r2, i_lt, nI_toInt (by omega), nI_toInt (by omega)]; omega, z, by rw [h4]⟩
/-! which one goes -/
def rsc (ρ : ST) (x aho : Int32) (i : Nat) : Prop := ¬ ρ 1 (30 + 8 * i) ≤ 0 ∧ ¬ ρ 1 (30 + 8 * i) = x + 1 ∧ (¬ aho = 0 → ρ 1 (33 + 8 * i) = 1)
def rsw (ρ : ST) (i : Nat) : Int := (if ρ 1 8 = 2 then (ρ 1 (35 + 8 * i)).toInt * 4294967296 else 0) + (ρ 1 (32 + 8 * i)).toInt
def rsI (ρ : ST) (x aho : Int32) (j : Nat) (v : Int32) : Prop := (v = -1 ∧ ∀ i, i < j → ¬ rsc ρ x aho i) ∨ (∃ i0, i0 < j ∧ v = nI (30 + 8 * i0) ∧ rsc ρ x aho i0 ∧ ∀ i, i < j → rsc ρ x aho i → rsw ρ i0 ≤ rsw ρ i)
theorem r_mayGo (N : Nat) (ρ : ST) {i : Nat} (hi : i < 64) (x aho : Int32) : (rsc ρ x aho i ∧ mR_mayGo N ρ (nI (30 + 8 * i)) x aho = some (1, ρ)) ∨ (¬ rsc ρ x aho i ∧ mR_mayGo N ρ (nI (30 + 8 * i)) x aho = some (0, ρ)) := by
  unfold rsc
  rw [mR_mayGo]
  have e33 : ρ 1 (30 + 8 * i + 3) = ρ 1 (33 + 8 * i) := by rw [show 30 + 8 * i + 3 = 33 + 8 * i by omega]
  by_cases c1 : ρ 1 (30 + 8 * i) ≤ 0
  · refine Or.inr ⟨fun w => w.1 c1, ?_⟩
    simp -implicitDefEqProofs (disch := first | assumption | omega) only [zLet_eq, zCall_some, zCallu_some, q_cq, zBool_0, zBool_1, q_gn, q_gl, q_sn, q_sl, q_al, q_la, q_ml, q_lm, q_ue, q_un, q_mA, q_mK, q_uA, q_uK, q_g6, q_rm, q_dv, q_ltl, q_lel, q_llt, q_lle, q_eql, q_lt, q_le, q_eq, q_m1F, if_pos, if_neg, if_true, if_false, mR_mayGo_41, mR_mayGo_42]
  · by_cases c2 : ρ 1 (30 + 8 * i) = x + 1
    · refine Or.inr ⟨fun w => w.2.1 c2, ?_⟩
      simp -implicitDefEqProofs (disch := first | assumption | omega) only [zLet_eq, zCall_some, zCallu_some, q_cq, zBool_0, zBool_1, q_gn, q_gl, q_sn, q_sl, q_al, q_la, q_ml, q_lm, q_ue, q_un, q_mA, q_mK, q_uA, q_uK, q_g6, q_rm, q_dv, q_ltl, q_lel, q_llt, q_lle, q_eql, q_lt, q_le, q_eq, q_m1F, if_pos, if_neg, if_true, if_false, mR_mayGo_41, mR_mayGo_42]
    · by_cases c3 : aho = 0
      · refine Or.inl ⟨⟨c1, c2, fun w => absurd c3 w⟩, ?_⟩
        simp -implicitDefEqProofs (disch := first | assumption | omega) only [zLet_eq, zCall_some, zCallu_some, q_cq, zBool_0, zBool_1, q_gn, q_gl, q_sn, q_sl, q_al, q_la, q_ml, q_lm, q_ue, q_un, q_mA, q_mK, q_uA, q_uK, q_g6, q_rm, q_dv, q_ltl, q_lel, q_llt, q_lle, q_eql, q_lt, q_le, q_eq, q_m1F, if_pos, if_neg, if_true, if_false, mR_mayGo_37, mR_mayGo_42]
      · by_cases c4 : ρ 1 (33 + 8 * i) = 1
        · refine Or.inl ⟨⟨c1, c2, fun _ => c4⟩, ?_⟩
          simp -implicitDefEqProofs (disch := first | assumption | omega) only [zLet_eq, zCall_some, zCallu_some, q_cq, zBool_0, zBool_1, q_gn, q_gl, q_sn, q_sl, q_al, q_la, q_ml, q_lm, q_ue, q_un, q_mA, q_mK, q_uA, q_uK, q_g6, q_rm, q_dv, q_ltl, q_lel, q_llt, q_lle, q_eql, q_lt, q_le, q_eq, q_m1F, if_pos, if_neg, if_true, if_false, mR_mayGo_37, mR_mayGo_42, e33]
        · refine Or.inr ⟨fun w => c4 (w.2.2 c3), ?_⟩
          simp -implicitDefEqProofs (disch := first | assumption | omega) only [zLet_eq, zCall_some, zCallu_some, q_cq, zBool_0, zBool_1, q_gn, q_gl, q_sn, q_sl, q_al, q_la, q_ml, q_lm, q_ue, q_un, q_mA, q_mK, q_uA, q_uK, q_g6, q_rm, q_dv, q_ltl, q_lel, q_llt, q_lle, q_eql, q_lt, q_le, q_eq, q_m1F, if_pos, if_neg, if_true, if_false, mR_mayGo_41, mR_mayGo_42, e33]
theorem r_w161 (N : Nat) (hd : ST → Int32 → Int32 → Int32 → Int32 → Option (Int32 × ST)) (ρ : ST) (x aho v j c k : Int32) : mR_whoGoes_161 N hd ρ x aho v j c k = mR_whoGoes_173 N hd ρ x aho (if k = 0 then v else c) j c := by
  rw [mR_whoGoes_161]
  by_cases e : k = 0
  · rw [if_pos e, if_pos e]; rfl
  · rw [if_neg e, if_neg e]; rfl
theorem r_w96 (N : Nat) (hd : ST → Int32 → Int32 → Int32 → Int32 → Option (Int32 × ST)) (ρ : ST) (x aho k : Int32) {i0 j : Nat} (hi : i0 < 64) (hj : j < 64) : mR_whoGoes_96 N hd ρ x aho (nI (30 + 8 * i0)) (nI j) (nI (30 + 8 * j)) k = mR_whoGoes_173 N hd ρ x aho (if (if ρ 1 8 = 2 ∧ ¬ ρ 1 (35 + 8 * j) = ρ 1 (35 + 8 * i0) then (if ρ 1 (35 + 8 * i0) ≤ ρ 1 (35 + 8 * j) then (0 : Int32) else 1) else k) = 0 then nI (30 + 8 * i0) else nI (30 + 8 * j)) (nI j) (nI (30 + 8 * j)) := by
  have f5 : ρ 1 (30 + 8 * j + 5) = ρ 1 (35 + 8 * j) := by rw [show 30 + 8 * j + 5 = 35 + 8 * j by omega]
  have k5 : ρ 1 (30 + 8 * i0 + 5) = ρ 1 (35 + 8 * i0) := by rw [show 30 + 8 * i0 + 5 = 35 + 8 * i0 by omega]
  rw [mR_whoGoes_96, if_neg (q_m1 (by omega))]
  simp -implicitDefEqProofs (disch := first | assumption | omega) only [zLet_eq, zCall_some, zCallu_some, q_cq, zBool_0, zBool_1, q_gn, q_gl, q_sn, q_sl, q_al, q_la, q_ml, q_lm, q_ue, q_un, q_mA, q_mK, q_uA, q_uK, q_g6, q_rm, q_dv, f5, k5, mR_whoGoes_159, r_w161]
  by_cases c1 : ρ 1 8 = 2
  · by_cases c2 : ρ 1 (35 + 8 * j) = ρ 1 (35 + 8 * i0)
    · rw [if_pos c1, if_pos c2, if_neg (show ¬ (ρ 1 8 = 2 ∧ ¬ ρ 1 (35 + 8 * j) = ρ 1 (35 + 8 * i0)) from fun w => w.2 c2)]
    · rw [if_pos c1, if_neg c2, if_pos (show (ρ 1 8 = 2 ∧ ¬ ρ 1 (35 + 8 * j) = ρ 1 (35 + 8 * i0)) from ⟨c1, c2⟩)]
      by_cases c3 : ρ 1 (35 + 8 * i0) ≤ ρ 1 (35 + 8 * j)
      · rw [if_pos c3, if_pos c3]
        simp
      · rw [if_neg c3, if_neg c3]
  · rw [if_neg c1, if_neg (show ¬ (ρ 1 8 = 2 ∧ ¬ ρ 1 (35 + 8 * j) = ρ 1 (35 + 8 * i0)) from fun w => c1 w.1)]
theorem rsw_le {ρ : ST} {i j : Nat} (b1 : 0 ≤ (ρ 1 (32 + 8 * i)).toInt ∧ (ρ 1 (32 + 8 * i)).toInt < 1073741824) (b2 : 0 ≤ (ρ 1 (32 + 8 * j)).toInt ∧ (ρ 1 (32 + 8 * j)).toInt < 1073741824) : (if (if ρ 1 8 = 2 ∧ ¬ ρ 1 (35 + 8 * j) = ρ 1 (35 + 8 * i) then (if ρ 1 (35 + 8 * i) ≤ ρ 1 (35 + 8 * j) then (0 : Int32) else 1) else (if ρ 1 (32 + 8 * i) ≤ ρ 1 (32 + 8 * j) then 0 else 1)) = 0 then rsw ρ i ≤ rsw ρ j else rsw ρ j ≤ rsw ρ i) := by
  have n1 : ¬ (1 : Int32) = 0 := by decide
  unfold rsw
  by_cases c1 : ρ 1 8 = 2
  · rw [if_pos c1, if_pos c1]
    by_cases c2 : ρ 1 (35 + 8 * j) = ρ 1 (35 + 8 * i)
    · rw [if_neg (show ¬ (ρ 1 8 = 2 ∧ ¬ ρ 1 (35 + 8 * j) = ρ 1 (35 + 8 * i)) from fun w => w.2 c2), c2]
      by_cases c3 : ρ 1 (32 + 8 * i) ≤ ρ 1 (32 + 8 * j)
      · rw [if_pos c3, if_pos rfl]
        rw [i_le] at c3
        omega
      · rw [if_neg c3, if_neg n1]
        rw [i_le] at c3
        omega
    · rw [if_pos (show (ρ 1 8 = 2 ∧ ¬ ρ 1 (35 + 8 * j) = ρ 1 (35 + 8 * i)) from ⟨c1, c2⟩)]
      have c4 : (ρ 1 (35 + 8 * j)).toInt ≠ (ρ 1 (35 + 8 * i)).toInt := fun w => c2 (i_eq.mpr w)
      by_cases c3 : ρ 1 (35 + 8 * i) ≤ ρ 1 (35 + 8 * j)
      · rw [if_pos c3, if_pos rfl]
        rw [i_le] at c3
        omega
      · rw [if_neg c3, if_neg n1]
        rw [i_le] at c3
        omega
  · rw [if_neg c1, if_neg c1, if_neg (show ¬ (ρ 1 8 = 2 ∧ ¬ ρ 1 (35 + 8 * j) = ρ 1 (35 + 8 * i)) from fun w => c1 w.1)]
    by_cases c3 : ρ 1 (32 + 8 * i) ≤ ρ 1 (32 + 8 * j)
    · rw [if_pos c3, if_pos rfl]
      rw [i_le] at c3
      omega
    · rw [if_neg c3, if_neg n1]
      rw [i_le] at c3
      omega
theorem r_who_loop (N : Nat) {ρ : ST} {r : Nat} (hr : r ≤ 64) (e0 : ρ 1 0 = nI r) (x aho : Int32) (hb : ∀ i, i < r → ¬ ρ 1 (30 + 8 * i) ≤ 0 → 0 ≤ (ρ 1 (32 + 8 * i)).toInt ∧ (ρ 1 (32 + 8 * i)).toInt < 1073741824) : ∀ (m j : Nat) (v : Int32), j ≤ r → r - j < m → rsI ρ x aho j v → ∃ v', rsI ρ x aho r v' ∧ zIt (mR_whoGoes_B37 N) (fun _ _ _ _ _ => none) m ρ x aho v (nI j) = some (v', ρ) := by
  intro m
  induction m with
  | zero => intro j v h1 h2; omega
  | succ m ih =>
    intro j v hj hm hI
    rw [zIt_s, mR_whoGoes_B37]
    by_cases e : j = r
    · subst e
      refine ⟨v, hI, ?_⟩
      simp -implicitDefEqProofs (disch := first | assumption | omega) only [zLet_eq, zCall_some, zCallu_some, q_cq, zBool_0, zBool_1, q_gn, q_gl, q_sn, q_sl, q_al, q_la, q_ml, q_lm, q_ue, q_un, q_mA, q_mK, q_uA, q_uK, q_g6, q_rm, q_dv, q_ltl, q_lel, q_llt, q_lle, q_eql, q_lt, q_le, q_eq, q_m1F, if_pos, if_neg, if_true, if_false, e0]
    · have hj64 : j < 64 := by omega
      have next : ∀ v2 x5 : Int32, rsI ρ x aho (j + 1) v2 → ∃ v', rsI ρ x aho r v' ∧ mR_whoGoes_173 N (zIt (mR_whoGoes_B37 N) (fun _ _ _ _ _ => none) m) ρ x aho v2 (nI j) x5 = some (v', ρ) := fun v2 x5 h2 => by
        rw [mR_whoGoes_173]
        simp -implicitDefEqProofs (disch := first | assumption | omega) only [zLet_eq, zCall_some, zCallu_some, q_cq, zBool_0, zBool_1, q_gn, q_gl, q_sn, q_sl, q_al, q_la, q_ml, q_lm, q_ue, q_un, q_mA, q_mK, q_uA, q_uK, q_g6, q_rm, q_dv]
        exact ih (j + 1) v2 (by omega) (by omega) h2
      generalize zIt (mR_whoGoes_B37 N) (fun _ _ _ _ _ => none) m = hd at *
      rcases r_mayGo N ρ hj64 x aho with ⟨hc, em⟩ | ⟨hc, em⟩
      · have take : (∀ i, i < j → rsc ρ x aho i → rsw ρ j ≤ rsw ρ i) → rsI ρ x aho (j + 1) (nI (30 + 8 * j)) := fun hle => Or.inr ⟨j, by omega, rfl, hc, fun i hi hci => by
          by_cases ei : i = j
          · subst ei; exact Int.le_refl _
          · exact hle i (by omega) hci⟩
        have n1 : ¬ (1 : Int32) = 0 := by decide
        simp -implicitDefEqProofs (disch := first | assumption | omega) only [zLet_eq, zCall_some, zCallu_some, q_cq, zBool_0, zBool_1, q_gn, q_gl, q_sn, q_sl, q_al, q_la, q_ml, q_lm, q_ue, q_un, q_mA, q_mK, q_uA, q_uK, q_g6, q_rm, q_dv, e0, q_le, if_neg, pR_cacheAt, em]
        rcases hI with ⟨h1, h2⟩ | ⟨i0, h1, h2, h3, h4⟩
        · have hn := next (nI (30 + 8 * j)) (nI (30 + 8 * j)) (take (fun i hi hci => absurd hci (h2 i hi)))
          rw [if_pos h1, mR_whoGoes_91, mR_whoGoes_96, if_pos h1, r_w161, if_neg n1]
          exact hn
        · subst h2
          have hi0 : i0 < 64 := by omega
          rw [if_neg (q_m1 (by omega))]
          have f2 : ρ 1 (30 + 8 * j + 2) = ρ 1 (32 + 8 * j) := by rw [show 30 + 8 * j + 2 = 32 + 8 * j by omega]
          have k2 : ρ 1 (30 + 8 * i0 + 2) = ρ 1 (32 + 8 * i0) := by rw [show 30 + 8 * i0 + 2 = 32 + 8 * i0 by omega]
          have hle := rsw_le (ρ := ρ) (i := i0) (j := j) (hb i0 (by omega) h3.1) (hb j (by omega) hc.1)
          have fin : ∀ k : Int32, k = (if ρ 1 (32 + 8 * i0) ≤ ρ 1 (32 + 8 * j) then 0 else 1) → ∃ v', rsI ρ x aho r v' ∧ mR_whoGoes_96 N hd ρ x aho (nI (30 + 8 * i0)) (nI j) (nI (30 + 8 * j)) k = some (v', ρ) := fun k hk => by
            rw [r_w96 N hd ρ x aho k hi0 hj64, hk]
            refine next _ _ ?_
            generalize (if ρ 1 8 = 2 ∧ ¬ ρ 1 (35 + 8 * j) = ρ 1 (35 + 8 * i0) then (if ρ 1 (35 + 8 * i0) ≤ ρ 1 (35 + 8 * j) then (0 : Int32) else 1) else (if ρ 1 (32 + 8 * i0) ≤ ρ 1 (32 + 8 * j) then 0 else 1)) = z at hle ⊢
            by_cases hz : z = 0
            · rw [if_pos hz] at hle ⊢
              exact Or.inr ⟨i0, by omega, rfl, h3, fun i hi hci => by
                by_cases ei : i = j
                · subst ei; exact hle
                · exact h4 i (by omega) hci⟩
            · rw [if_neg hz] at hle ⊢
              exact take (fun i hi hci => Int.le_trans hle (h4 i hi hci))
          simp -implicitDefEqProofs (disch := first | assumption | omega) only [zLet_eq, zCall_some, zCallu_some, q_cq, zBool_0, zBool_1, q_gn, q_gl, q_sn, q_sl, q_al, q_la, q_ml, q_lm, q_ue, q_un, q_mA, q_mK, q_uA, q_uK, q_g6, q_rm, q_dv, f2, k2]
          by_cases c2 : ρ 1 (32 + 8 * i0) ≤ ρ 1 (32 + 8 * j)
          · rw [if_pos c2]
            exact fin 0 (by rw [if_pos c2])
          · rw [if_neg c2, mR_whoGoes_91]
            exact fin 1 (by rw [if_neg c2])
      · have hn := next v (nI (30 + 8 * j)) (by
          rcases hI with ⟨h1, h2⟩ | ⟨i0, h1, h2, h3, h4⟩
          · exact Or.inl ⟨h1, fun i hi => by
              by_cases ei : i = j
              · subst ei; exact hc
              · exact h2 i (by omega)⟩
          · exact Or.inr ⟨i0, by omega, h2, h3, fun i hi hci => by
              by_cases ei : i = j
              · subst ei; exact absurd hci hc
              · exact h4 i (by omega) hci⟩)
        simp -implicitDefEqProofs (disch := first | assumption | omega) only [zLet_eq, zCall_some, zCallu_some, q_cq, zBool_0, zBool_1, q_gn, q_gl, q_sn, q_sl, q_al, q_la, q_ml, q_lm, q_ue, q_un, q_mA, q_mK, q_uA, q_uK, q_g6, q_rm, q_dv, q_le, if_neg, if_pos, e0, pR_cacheAt, em]
        exact hn
