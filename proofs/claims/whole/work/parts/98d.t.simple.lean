/-! SIMPLE CALLS -/
theorem zqE {β : Type} {f : Option (Int32 × ST)} {τ : ST} {v : Int32} {k : Int32 → ST → Option β} (e : f = some (v, pE 0 0 τ)) : zCallL f (iE 0 0 τ) k = k v τ := by rw [zCallL_eq e, iE_pE (by omega)]
theorem II_thr {κ : Nat} {τ ρ : ST} (h : II κ τ ρ) : II (κ + 1) τ (zUp ρ 0 0 0) := II_q h (fun c hc => q_uc (by omega)) (q_un (by omega))
/-- in(v, 0, n) of an int -/
theorem r_in (N : Nat) (ρ : ST) (x : Int32) (a b : Int64) {m n : Int} (ha : a.toInt = m) (hb : b.toInt = n) : mR_in N ρ x.toInt64 a b = some (if m ≤ x.toInt ∧ x.toInt ≤ n then 1 else 0, ρ) := by
  rw [pR_in, ha, hb, l_of]
theorem l_m1 {x : Int32} (h : 0 ≤ x.toInt) : (x.toInt64 - 1).toInt = x.toInt - 1 := by
  have h3 : (1 : Int64).toInt = 1 := by decide
  have h4 := l_of x
  have h5 := i_rng x
  rw [l_sub (by rw [h3, h4]; omega) (by rw [h3, h4]; omega), h3, h4]
/-- the log -/
def qv_log (A : ST) (i w : Int32) : Int32 := if (0 ≤ i.toInt ∧ i.toInt ≤ (A 22 2).toInt - 1) ∧ (0 ≤ w.toInt ∧ w.toInt ≤ 3) then A 23 (4 * ((A 22 2).toNatClampNeg - 1 - i.toNatClampNeg) + w.toNatClampNeg) else -1
theorem qc_log (N : Nat) {A κ : ST} (h : RKl κ A) (i w : Int32) : mE_X6_tell N (qmix A κ) i w = some (qv_log A i w, qmix A κ) := by
  obtain ⟨nx, l, h1, h2, e1, e2, e3, h3⟩ := h
  have e0 : (0 : Int32).toInt = 0 := by decide
  have e4 : (4 : Int32).toInt = 4 := by decide
  have el : (A 22 2).toInt = l := by rw [e3, nI_toInt (by omega)]
  unfold qv_log
  rw [mE_X6_tell]
  by_cases c1 : i < 0
  · rw [if_pos c1, if_neg (by rw [i_lt, e0] at c1; omega)]
    rfl
  · rw [if_neg c1]
    obtain ⟨j, hj, ej⟩ := nI_of c1
    subst ej
    simp -implicitDefEqProofs (disch := first | assumption | omega) only [zLet_eq, zCall_some, zCallu_some, q_cq, zBool_0, zBool_1, q_gn, q_gl, q_sn, q_sl, q_al, q_la, q_ml, q_lm, q_ue, q_un, q_mA, q_mK, q_uA, q_uK, q_g6, q_rm, q_dv, e2]
    by_cases c2 : l ≤ j
    · rw [if_pos (show nI l ≤ nI j from nI_le c2 (by omega)), if_neg (by rw [nI_toInt hj]; omega)]
      rfl
    · rw [if_neg (show ¬ nI l ≤ nI j from nI_ge (by omega) (by omega))]
      by_cases c3 : w < 0
      · rw [if_pos c3, if_neg (by rw [i_lt, e0] at c3; omega)]
        rfl
      · rw [if_neg c3]
        obtain ⟨v, hv, ev⟩ := nI_of c3
        subst ev
        by_cases c4 : v < 4
        · rw [if_pos (show nI v < 4 from nI_lt c4 (by decide)), if_pos (by rw [nI_toInt hj, nI_toInt hv]; omega)]
          rw [e3, nI_clamp (by omega), nI_clamp hj, nI_clamp hv, h3 (l - 1 - j) v (by omega) (by omega)]
          simp -implicitDefEqProofs (disch := first | assumption | omega) only [zLet_eq, zCall_some, zCallu_some, q_cq, zBool_0, zBool_1, q_gn, q_gl, q_sn, q_sl, q_al, q_la, q_ml, q_lm, q_ue, q_un, q_mA, q_mK, q_uA, q_uK, q_g6, q_rm, q_dv, e1, q_sb, pk_sub, nI_add, q_ltl, if_pos, if_neg, mE_X6_tell_65]
          rw [show (nx + 40 - 1 - j) % 40 * 4 + v = 4 * ((nx + 40 - l + (l - 1 - j)) % 40) + v by rw [show nx + 40 - l + (l - 1 - j) = nx + 40 - 1 - j by omega]; omega]
        · rw [if_neg (show ¬ nI v < 4 from nI_nlt (a := v) (b := 4) (by omega) (by omega)), if_neg (by rw [nI_toInt hv]; omega)]
          rfl
theorem s_log (N : Nat) (κ : Nat) : Sm_log N (II κ) (II (κ + 1)) := by
  intro τ ρ i w hI
  obtain ⟨⟨A, C, H, n1, n2, n3⟩, hr⟩ := id hI
  have hmx := EngC_mix n1
  have hth := RR_thr n2
  have k1 := qc_log N n1.2.1 i w
  rw [hmx] at k1
  refine ⟨qv_log A i w, τ, zUp ρ 0 0 0, ?_, ?_, II_thr hI⟩
  · rw [mT_X7_log, zqE k1]
  · obtain ⟨l, l1, l2, l3⟩ := hth.2.2.2.1
    have e26 : zUp ρ 0 0 0 1 26 = nI l := by rw [hth.2.1.2.2.2, l2]
    have el : (A 22 2).toInt = l := by rw [l2, nI_toInt (by omega)]
    have hl1 : ((nI l).toInt64 - 1).toInt = (l : Int) - 1 := by rw [l_m1 (by rw [nI_toInt (by omega)]; omega), nI_toInt (by omega)]
    rw [mR_log]
    generalize zUp ρ 0 0 0 = ρ0 at *
    simp -implicitDefEqProofs (disch := first | assumption | omega) only [↓zLet_eq, ↓q_gl, e26]
    rw [r_in N ρ0 i 0 _ (m := 0) (n := (l : Int) - 1) (by decide) hl1, zCall_some]
    unfold qv_log
    rw [el]
    by_cases c1 : 0 ≤ i.toInt ∧ i.toInt ≤ (l : Int) - 1
    · rw [if_pos c1, if_neg (show ¬ ((1 : Int32) = 0) by decide), r_in N ρ0 w 0 3 (m := 0) (n := 3) (by decide) (by decide), zCall_some]
      by_cases c2 : 0 ≤ w.toInt ∧ w.toInt ≤ 3
      · rw [if_pos c2, if_neg (show ¬ ((1 : Int32) = 0) by decide), if_pos ⟨c1, c2⟩]
        obtain ⟨d1, d2⟩ := clamp_toInt c1.1
        obtain ⟨d3, d4⟩ := clamp_toInt c2.1
        generalize i.toNatClampNeg = j at *
        generalize w.toNatClampNeg = v at *
        subst d2; subst d4
        have es : nI l - 1 - nI j = nI (l - 1 - j) := by rw [show (1 : Int32) = nI 1 from rfl, pk_sub (by omega), pk_sub (by omega)]
        have ecl : (A 22 2).toNatClampNeg = l := by rw [l2]; exact nI_clamp (by omega)
        simp -implicitDefEqProofs (disch := first | assumption | omega) only [zLet_eq, zCall_some, zCallu_some, q_cq, zBool_0, zBool_1, q_gn, q_gl, q_sn, q_sl, q_al, q_la, q_ml, q_lm, q_ue, q_un, q_mA, q_mK, q_uA, q_uK, q_g6, q_rm, q_dv, e26, es, nI_add, mR_log_64]
        rw [ecl, ← l3 _ (by omega), show 614 + 4 * (l - 1 - j) + v = 614 + (4 * (l - 1 - j) + v) by omega]
      · rw [if_neg c2, if_pos rfl, if_neg (fun w => c2 w.2)]
        rfl
    · rw [if_neg c1, if_pos rfl, if_neg (fun w => c1 w.1)]
      rfl
/-- the trace -/
theorem qc_fromL (N : Nat) {A κ H : ST} (h : RKh κ H) (i : Int32) : mE_X3_fromLatest N (qmix A κ) i = some (if 0 ≤ i.toInt ∧ i.toInt ≤ (H 18 4).toInt - 1 then nI ((H 18 4).toNatClampNeg - 1 - i.toNatClampNeg) else -1, qmix A κ) := by
  obtain ⟨el, l, h1, h2, e1, e2, e3, h3⟩ := h
  have e0 : (0 : Int32).toInt = 0 := by decide
  have ell : (H 18 4).toInt = l := by rw [e3, nI_toInt (by omega)]
  have ecl : (H 18 4).toNatClampNeg = l := by rw [e3]; exact nI_clamp (by omega)
  rw [mE_X3_fromLatest, ell, ecl]
  by_cases c1 : i < 0
  · rw [if_pos c1, if_neg (by rw [i_lt, e0] at c1; omega)]
    rfl
  · rw [if_neg c1]
    obtain ⟨j, hj, ej⟩ := nI_of c1
    subst ej
    simp -implicitDefEqProofs (disch := first | assumption | omega) only [zLet_eq, zCall_some, zCallu_some, q_cq, zBool_0, zBool_1, q_gn, q_gl, q_sn, q_sl, q_al, q_la, q_ml, q_lm, q_ue, q_un, q_mA, q_mK, q_uA, q_uK, q_g6, q_rm, q_dv, e2]
    by_cases c2 : j < l
    · have es : nI l - 1 - nI j = nI (l - 1 - j) := by rw [show (1 : Int32) = nI 1 from rfl, pk_sub (by omega), pk_sub (by omega)]
      rw [if_pos (show nI j < nI l from nI_lt c2 (by omega)), if_pos (by rw [nI_toInt hj]; omega), es, nI_clamp hj]
      rfl
    · rw [if_neg (show ¬ nI j < nI l from nI_nlt (by omega) hj), if_neg (by rw [nI_toInt hj]; omega)]
      rfl
theorem qc_cell (N : Nat) {A κ H : ST} (h : RKh κ H) {j : Nat} (hj : nI j < H 18 4) (hj2 : j < 400) : ∃ c, c < 400 ∧ mE_X3_cellOf N (qmix A κ) (nI j) = some (nI c, qmix A κ) ∧ H 19 j = κ 19 c ∧ H 20 j = κ 20 c ∧ H 21 j = κ 21 c := by
  obtain ⟨el, l, h1, h2, e1, e2, e3, h3⟩ := h
  have hjl : j < l := by
    rw [e3, i_lt, nI_toInt (by omega), nI_toInt (by omega)] at hj
    omega
  refine ⟨(el + j) % 400, by omega, ?_, h3 j hjl⟩
  rw [mE_X3_cellOf]
  simp -implicitDefEqProofs (disch := first | assumption | omega) only [zLet_eq, zCall_some, zCallu_some, q_cq, zBool_0, zBool_1, q_gn, q_gl, q_sn, q_sl, q_al, q_la, q_ml, q_lm, q_ue, q_un, q_mA, q_mK, q_uA, q_uK, q_g6, q_rm, q_dv, e1, e2, q_ltl, q_lt, if_pos, if_neg, nI_add, mE_X3_cellOf_26]
theorem qc_blockAt (N : Nat) {A κ H : ST} (h : RKh κ H) {j : Nat} (hj : nI j < H 18 4) (hj2 : j < 400) : mE_X3_blockAt N (qmix A κ) (nI j) = some (H 19 j, qmix A κ) := by
  obtain ⟨c, c1, c2, c3, c4, c5⟩ := qc_cell N (A := A) h hj hj2
  rw [mE_X3_blockAt, c2]
  simp -implicitDefEqProofs (disch := first | assumption | omega) only [zLet_eq, zCall_some, zCallu_some, q_cq, zBool_0, zBool_1, q_gn, q_gl, q_sn, q_sl, q_al, q_la, q_ml, q_lm, q_ue, q_un, q_mA, q_mK, q_uA, q_uK, q_g6, q_rm, q_dv, q_lle, if_pos, mE_X3_blockAt_20, c3]
theorem qc_numberAt (N : Nat) {A κ H : ST} (h : RKh κ H) {j : Nat} (hj : nI j < H 18 4) (hj2 : j < 400) : mE_X3_numberAt N (qmix A κ) (nI j) = some (H 20 j, qmix A κ) := by
  obtain ⟨c, c1, c2, c3, c4, c5⟩ := qc_cell N (A := A) h hj hj2
  rw [mE_X3_numberAt, c2]
  simp -implicitDefEqProofs (disch := first | assumption | omega) only [zLet_eq, zCall_some, zCallu_some, q_cq, zBool_0, zBool_1, q_gn, q_gl, q_sn, q_sl, q_al, q_la, q_ml, q_lm, q_ue, q_un, q_mA, q_mK, q_uA, q_uK, q_g6, q_rm, q_dv, q_lle, if_pos, mE_X3_numberAt_20, c4]
theorem qc_kindAt (N : Nat) {A κ H : ST} (h : RKh κ H) {j : Nat} (hj : nI j < H 18 4) (hj2 : j < 400) : mE_X3_kindAt N (qmix A κ) (nI j) = some (H 21 j, qmix A κ) := by
  obtain ⟨c, c1, c2, c3, c4, c5⟩ := qc_cell N (A := A) h hj hj2
  rw [mE_X3_kindAt, c2]
  simp -implicitDefEqProofs (disch := first | assumption | omega) only [zLet_eq, zCall_some, zCallu_some, q_cq, zBool_0, zBool_1, q_gn, q_gl, q_sn, q_sl, q_al, q_la, q_ml, q_lm, q_ue, q_un, q_mA, q_mK, q_uA, q_uK, q_g6, q_rm, q_dv, q_lle, if_pos, mE_X3_kindAt_20, c5]
theorem qc_blockAt_m1 (N : Nat) {σ : ST} : mE_X3_blockAt N σ (-1) = some (-1, σ) := by
  rw [mE_X3_blockAt, mE_X3_cellOf, if_pos (by decide), mE_X3_cellOf_12, mE_X3_cellOf_26, zCall_some, if_neg (by decide)]
  rfl
theorem s_trace (N : Nat) (κ : Nat) : Sm_trace N (II κ) (II (κ + 1)) := by
  intro τ ρ i hI
  obtain ⟨⟨A, C, H, n1, n2, n3⟩, hr⟩ := id hI
  have hmx := EngC_mix n1
  have hth := RR_thr n2
  obtain ⟨l, l1, l2, l3⟩ := hth.2.2.2.2.1
  have el : (H 18 4).toInt = l := by rw [l2, nI_toInt (by omega)]
  have ecl : (H 18 4).toNatClampNeg = l := by rw [l2]; exact nI_clamp (by omega)
  have k1 := qc_fromL N (A := A) n1.2.2.2 i
  rw [hmx, el, ecl] at k1
  have e22 : zUp ρ 0 0 0 1 22 = nI l := by rw [hth.2.1.2.2.1, l2]
  have hl1 : ((nI l).toInt64 - 1).toInt = (l : Int) - 1 := by rw [l_m1 (by rw [nI_toInt (by omega)]; omega), nI_toInt (by omega)]
  have ref : mR_trace N ρ i = some (if 0 ≤ i.toInt ∧ i.toInt ≤ (l : Int) - 1 then H 19 (l - 1 - i.toNatClampNeg) else -1, zUp ρ 0 0 0) := by
    rw [mR_trace]
    generalize zUp ρ 0 0 0 = ρ0 at *
    simp -implicitDefEqProofs (disch := first | assumption | omega) only [↓zLet_eq, ↓q_gl, e22]
    rw [r_in N ρ0 i 0 _ (m := 0) (n := (l : Int) - 1) (by decide) hl1, zCall_some]
    by_cases c1 : 0 ≤ i.toInt ∧ i.toInt ≤ (l : Int) - 1
    · rw [if_pos c1, if_neg (show ¬ ((1 : Int32) = 0) by decide), if_pos c1]
      obtain ⟨d1, d2⟩ := clamp_toInt c1.1
      generalize i.toNatClampNeg = j at *
      subst d2
      have es : nI l - 1 - nI j = nI (l - 1 - j) := by rw [show (1 : Int32) = nI 1 from rfl, pk_sub (by omega), pk_sub (by omega)]
      simp -implicitDefEqProofs (disch := first | assumption | omega) only [zLet_eq, zCall_some, zCallu_some, q_cq, zBool_0, zBool_1, q_gn, q_gl, q_sn, q_sl, q_al, q_la, q_ml, q_lm, q_ue, q_un, q_mA, q_mK, q_uA, q_uK, q_g6, q_rm, q_dv, e22, es, mR_traced, mR_trace_43]
      rw [(l3 _ (by omega)).1]
    · rw [if_neg c1, if_pos rfl, if_neg c1]
      rfl
  refine ⟨_, τ, zUp ρ 0 0 0, ?_, ref, II_thr hI⟩
  rw [mT_X7_trace, zqE k1]
  by_cases c1 : 0 ≤ i.toInt ∧ i.toInt ≤ (l : Int) - 1
  · rw [if_pos c1, if_pos c1]
    have := clamp_toInt c1.1
    have k2 := qc_blockAt N (A := A) n1.2.2.2 (j := l - 1 - i.toNatClampNeg) (by rw [l2]; exact nI_lt (by omega) (by omega)) (by omega)
    rw [hmx] at k2
    rw [zqE k2]
  · rw [if_neg c1, if_neg c1, zqE (qc_blockAt_m1 N)]
theorem s_whose (N : Nat) (κ : Nat) : Sm_whose N (II κ) (II (κ + 1)) := by
  intro τ ρ i w hI
  obtain ⟨⟨A, C, H, n1, n2, n3⟩, hr⟩ := id hI
  have hmx := EngC_mix n1
  have hth := RR_thr n2
  obtain ⟨l, l1, l2, l3⟩ := hth.2.2.2.2.1
  have el : (H 18 4).toInt = l := by rw [l2, nI_toInt (by omega)]
  have ecl : (H 18 4).toNatClampNeg = l := by rw [l2]; exact nI_clamp (by omega)
  have k1 := qc_fromL N (A := A) n1.2.2.2 i
  rw [hmx, el, ecl] at k1
  have e22 : zUp ρ 0 0 0 1 22 = nI l := by rw [hth.2.1.2.2.1, l2]
  have hl1 : ((nI l).toInt64 - 1).toInt = (l : Int) - 1 := by rw [l_m1 (by rw [nI_toInt (by omega)]; omega), nI_toInt (by omega)]
  have e1 : (1 : Int32).toInt = 1 := by decide
  have e0 : (0 : Int32).toInt = 0 := by decide
  have n10 : ¬ ((1 : Int32) = 0) := by decide
  have ref : mR_whose N ρ i w = some (if 0 ≤ i.toInt ∧ i.toInt ≤ (l : Int) - 1 then (if w = 0 then H 20 (l - 1 - i.toNatClampNeg) else if w = 1 then H 21 (l - 1 - i.toNatClampNeg) else -1) else -1, zUp ρ 0 0 0) := by
    rw [mR_whose]
    generalize zUp ρ 0 0 0 = ρ0 at *
    simp -implicitDefEqProofs (disch := first | assumption | omega) only [↓zLet_eq, ↓q_gl, e22]
    rw [r_in N ρ0 i 0 _ (m := 0) (n := (l : Int) - 1) (by decide) hl1, zCall_some]
    by_cases c1 : 0 ≤ i.toInt ∧ i.toInt ≤ (l : Int) - 1
    · rw [if_pos c1, if_neg n10, if_pos c1, r_in N ρ0 w 0 1 (m := 0) (n := 1) (by decide) (by decide), zCall_some]
      obtain ⟨d1, d2⟩ := clamp_toInt c1.1
      generalize i.toNatClampNeg = j at *
      subst d2
      have es : nI l - 1 - nI j = nI (l - 1 - j) := by rw [show (1 : Int32) = nI 1 from rfl, pk_sub (by omega), pk_sub (by omega)]
      by_cases c2 : 0 ≤ w.toInt ∧ w.toInt ≤ 1
      · rw [if_pos c2, if_neg n10]
        by_cases c3 : w = 0
        · subst c3
          rw [if_pos rfl]
          simp -implicitDefEqProofs (disch := first | assumption | omega) only [zLet_eq, zCall_some, zCallu_some, q_cq, zBool_0, zBool_1, q_gn, q_gl, q_sn, q_sl, q_al, q_la, q_ml, q_lm, q_ue, q_un, q_mA, q_mK, q_uA, q_uK, q_g6, q_rm, q_dv, e22, es, mR_whose_64]
          rw [Nat.add_zero, show 774 + 3 * (l - 1 - j) + 1 = 775 + 3 * (l - 1 - j) by omega, (l3 _ (by omega)).2.1]
        · have c4 : w = 1 := i_eq.mpr (by
            have : w.toInt ≠ 0 := fun z => c3 (i_eq.mpr (by rw [z, e0]))
            omega)
          subst c4
          rw [if_neg n10, if_pos rfl]
          simp -implicitDefEqProofs (disch := first | assumption | omega) only [zLet_eq, zCall_some, zCallu_some, q_cq, zBool_0, zBool_1, q_gn, q_gl, q_sn, q_sl, q_al, q_la, q_ml, q_lm, q_ue, q_un, q_mA, q_mK, q_uA, q_uK, q_g6, q_rm, q_dv, e22, es, mR_whose_64]
          rw [show 774 + 3 * (l - 1 - j) + 1 + 1 = 776 + 3 * (l - 1 - j) by omega, (l3 _ (by omega)).2.2]
      · rw [if_neg c2, if_pos rfl, if_neg (fun z => c2 (by rw [z, e0]; omega)), if_neg (fun z => c2 (by rw [z, e1]; omega))]
        rfl
    · rw [if_neg c1, if_pos rfl, if_neg c1]
      rfl
  refine ⟨_, τ, zUp ρ 0 0 0, ?_, ref, II_thr hI⟩
  rw [mT_X7_whose, zqE k1]
  by_cases c1 : 0 ≤ i.toInt ∧ i.toInt ≤ (l : Int) - 1
  · rw [if_pos c1, if_pos c1]
    have := clamp_toInt c1.1
    rw [if_neg (q_m1 (by omega))]
    have k2 := qc_numberAt N (A := A) n1.2.2.2 (j := l - 1 - i.toNatClampNeg) (by rw [l2]; exact nI_lt (by omega) (by omega)) (by omega)
    have k3 := qc_kindAt N (A := A) n1.2.2.2 (j := l - 1 - i.toNatClampNeg) (by rw [l2]; exact nI_lt (by omega) (by omega)) (by omega)
    rw [hmx] at k2 k3
    by_cases c3 : w = 0
    · rw [if_pos c3, if_pos c3, zqE k2]
    · rw [if_neg c3, if_neg c3]
      by_cases c4 : w = 1
      · rw [if_pos c4, if_pos c4, zqE k3]
      · rw [if_neg c4, if_neg c4]
  · rw [if_neg c1, if_neg c1, if_pos rfl]
