/-! THE REFERENCE: hits, a read -/
theorem r_h108 (N : Nat) (hN : 200 < N) {F : ST} {q : Bool} {ρ A C H : ST} {t : Nat} (h : RR F q ρ A C H) {i b : Nat} (hi : i < 64) (hr : nI i < A 1 0) (hb : b < 10000) (he : RRe ρ A C i b) (o : Option Nat) (left l2 : Int32) (ho : ∀ p, o = some p → p < 6 ∧ ¬ A (12 + p) 0 = -1) (hl2 : (left ≤ 0 ∧ l2 ≤ 0) ∨ left = l2) : ∃ ρ', mR_hits_108 N ρ (nI (30 + 8 * i)) (qa_eR o) left = some ρ' ∧ RR F q ρ' (qa_lateA A o l2) (qa_touch C b) H ∧ ρ' 1 (31 + 8 * i) = ρ 1 (31 + 8 * i) := by
  rw [mR_hits_108]
  unfold qa_lateA
  by_cases c1 : left ≤ 0
  · rw [if_pos c1, if_pos (show l2 ≤ 0 by rcases hl2 with w | w; exact w.2; rw [← w]; exact c1)]
    exact r_h163 N h hi hr hb he
  · have el : left = l2 := by rcases hl2 with w | w; exact absurd w.1 c1; exact w
    subst el
    rw [if_neg c1, if_neg c1]
    have e27 : ρ 1 27 = A 2 32 := h.2.1.1 32 27 (by unfold cmap; omega)
    have e28 : ρ 1 28 = A 2 33 := h.2.1.1 33 28 (by unfold cmap; omega)
    have e3 : ρ 1 3 = A 1 3 := h.1 3 (by omega)
    have h1 := RR_n h (k := 32) (i := 27) (by unfold cmap; omega) (by omega) (by omega) (A 2 32 + 1)
    have h2 := RR_n h1 (k := 33) (i := 28) (by unfold cmap; omega) (by omega) (by omega) (A 2 33 + left)
    have he2 : RRe (zUp (zUp ρ 1 27 (A 2 32 + 1)) 1 28 (A 2 33 + left)) (zUp (zUp A 2 32 (A 2 32 + 1)) 2 33 (A 2 33 + left)) C i b := RRe_A he (fun k _ _ => by rw [q_un (by omega), q_un (by omega)]) (by simp -implicitDefEqProofs (disch := first | assumption | omega) only [q_uc])
    have hr2 : nI i < zUp (zUp A 2 32 (A 2 32 + 1)) 2 33 (A 2 33 + left) 1 0 := by simp -implicitDefEqProofs (disch := first | assumption | omega) only [q_un]; exact hr
    simp -implicitDefEqProofs (disch := first | assumption | omega) only [zLet_eq, zCall_some, zCallu_some, q_cq, zBool_0, zBool_1, q_gn, q_gl, q_sn, q_sl, q_al, q_la, q_ml, q_lm, q_ue, q_un, q_mA, q_mK, q_uA, q_uK, q_g6, q_rm, q_dv, e27, e28]
    cases o with
    | none =>
      rw [if_pos (show qa_eR none = -1 from rfl)]
      obtain ⟨ρ1, o1, o2, o3⟩ := r_h163 N h2 hi hr2 hb he2
      exact ⟨ρ1, o1, o2, by rw [o3, q_un (by omega), q_un (by omega)]⟩
    | some p =>
      obtain ⟨hp, hn⟩ := ho p rfl
      have es5 : ρ 1 (542 + 12 * p + 5) = A (12 + p) 4 := RR_sr h (k := 4) hp hn (by omega)
      rw [show qa_eR (some p) = nI (542 + 12 * p) from rfl, if_neg (q_m1 (by omega))]
      simp -implicitDefEqProofs (disch := first | assumption | omega) only [zLet_eq, zCall_some, zCallu_some, q_cq, zBool_0, zBool_1, q_gn, q_gl, q_sn, q_sl, q_al, q_la, q_ml, q_lm, q_ue, q_un, q_mA, q_mK, q_uA, q_uK, q_g6, q_rm, q_dv, es5, e3, pR_lesser]
      obtain ⟨ρ1, w1, w2, w3⟩ := r_widens N hN h2 hp (by simp -implicitDefEqProofs (disch := first | assumption | omega) only [q_un]; exact hn) (if 2 * A (12 + p) 4 < A 1 3 then 2 * A (12 + p) 4 else A 1 3)
      rw [w1, zCallu_some]
      have ech : qa_change (zUp (zUp A 2 32 (A 2 32 + 1)) 2 33 (A 2 33 + left)) p (2 * A (12 + p) 4) = qa_widen (zUp (zUp A 2 32 (A 2 32 + 1)) 2 33 (A 2 33 + left)) p (if 2 * A (12 + p) 4 < A 1 3 then 2 * A (12 + p) 4 else A 1 3) := by
        unfold qa_change
        simp -implicitDefEqProofs (disch := first | assumption | omega) only [q_un]
      rw [ech]
      suffices hh : ∃ ρ', mR_hits_163 N ρ1 (nI (30 + 8 * i)) = some ρ' ∧ RR F q ρ' (qa_widen (zUp (zUp A 2 32 (A 2 32 + 1)) 2 33 (A 2 33 + left)) p (if 2 * A (12 + p) 4 < A 1 3 then 2 * A (12 + p) 4 else A 1 3)) (qa_touch C b) H ∧ ρ' 1 (31 + 8 * i) = ρ1 1 (31 + 8 * i) by
        obtain ⟨ρ2, o1, o2, o3⟩ := hh
        exact ⟨ρ2, o1, o2, by rw [o3, w3 _ (by omega) (by omega), q_un (by omega), q_un (by omega)]⟩
      refine r_h163 N w2 hi ?_ hb ?_
      · rw [qa_widen_c (by omega) (by omega) (by omega) (by omega)]
        exact hr2
      · exact RRe_A he2 (fun k k1 k2 => w3 k (by omega) (by omega)) (qa_widen_c (by omega) (by omega) (by omega) (by omega))
theorem r_hits (N : Nat) (hN : 200 < N) {F : ST} {q : Bool} {ρ A C H : ST} {t : Nat} (h : RR F q ρ A C H) (g : Gd A C t) {i b : Nat} (hi : i < 64) (hr : nI i < A 1 0) (hb : b < 10000) (he : RRe ρ A C i b) : ∃ ρ', mR_hits N ρ (nI (30 + 8 * i)) = some ρ' ∧ RR F q ρ' (qa_hit A C b).1 (qa_hit A C b).2 H ∧ ρ' 1 (31 + 8 * i) = ρ 1 (31 + 8 * i) := by
  obtain ⟨z0, z1, z2, z3, z4, z5, z6, z7, z8⟩ := id he
  obtain ⟨b1, b2, b3, b4, b5, b6, b7, b8, b9⟩ := g.2.1.2.1 b hb z1
  have e11 : ρ 1 11 = A 2 1 := h.2.1.1 1 11 (by unfold cmap; omega)
  have e14 : ρ 1 14 = A 2 4 := h.2.1.1 4 14 (by unfold cmap; omega)
  have e10 : ρ 1 10 = A 2 0 := h.2.1.1 0 10 (by unfold cmap; omega)
  have e9 : ρ 1 9 = A 1 9 := h.1 9 (by omega)
  have e37 : ρ 1 (30 + 8 * i + 7) = (if C b 3 = -1 then 0 else 1) := by rw [show 30 + 8 * i + 7 = 37 + 8 * i by omega]; exact z8
  have e34 : ρ 1 (30 + 8 * i + 4) = C b 3 + 1 := by rw [show 30 + 8 * i + 4 = 34 + 8 * i by omega]; exact z5
  have e36 : ρ 1 (30 + 8 * i + 6) = C b 4 := by rw [show 30 + 8 * i + 6 = 36 + 8 * i by omega]; exact z7
  have e33 : ρ 1 (30 + 8 * i + 3) = C b 5 := by rw [show 30 + 8 * i + 3 = 33 + 8 * i by omega]; exact z4
  have h1 := RR_n h (k := 1) (i := 11) (by unfold cmap; omega) (by omega) (by omega) (A 2 1 + 1)
  have he1 : RRe (zUp ρ 1 11 (A 2 1 + 1)) (zUp A 2 1 (A 2 1 + 1)) C i b := RRe_A he (fun k _ _ => by rw [q_un (by omega)]) (q_uc (by omega))
  have hr1 : nI i < zUp A 2 1 (A 2 1 + 1) 1 0 := by simp -implicitDefEqProofs (disch := first | assumption | omega) only [q_un]; exact hr
  rw [mR_hits]
  unfold qa_hit
  dsimp only
  simp -implicitDefEqProofs (disch := first | assumption | omega) only [zLet_eq, zCall_some, zCallu_some, q_cq, zBool_0, zBool_1, q_gn, q_gl, q_sn, q_sl, q_al, q_la, q_ml, q_lm, q_ue, q_un, q_mA, q_mK, q_uA, q_uK, q_g6, q_rm, q_dv, e11, e37]
  by_cases c3 : C b 3 = -1
  · have c5 : ¬ C b 5 = 1 := fun w => b8 w c3
    have eA : qa_hitA A C b = zUp A 2 1 (A 2 1 + 1) := by unfold qa_hitA; rw [if_neg c5]
    have eL : qa_lateA (zUp A 2 1 (A 2 1 + 1)) (qa_streamOf A (C b 3)) (qa_left A C b (A 2 0 - 1)) = zUp A 2 1 (A 2 1 + 1) := by
      unfold qa_lateA qa_left
      rw [if_pos c3, if_pos (by decide)]
    rw [eA, eL, if_pos c3, if_neg (show ¬ ((0 : Int32) = 1) by decide)]
    obtain ⟨ρ1, o1, o2, o3⟩ := r_h163 N h1 hi hr1 hb he1
    exact ⟨ρ1, o1, o2, by rw [o3, q_un (by omega)]⟩
  · rw [if_neg c3, if_pos rfl]
    have hso := r_streamOf N (by omega) h1 (C b 3) c3
    rw [streamOf_up (by omega)] at hso
    simp -implicitDefEqProofs (disch := first | assumption | omega) only [zLet_eq, zCall_some, zCallu_some, q_cq, zBool_0, zBool_1, q_gn, q_gl, q_sn, q_sl, q_al, q_la, q_ml, q_lm, q_ue, q_un, q_mA, q_mK, q_uA, q_uK, q_g6, q_rm, q_dv, e34, i_add1sub1, hso, e9, e10, e36, e33]
    have ho : ∀ p, qa_streamOf A (C b 3) = some p → p < 6 ∧ ¬ A (12 + p) 0 = -1 := fun p w => by
      obtain ⟨a1, a2, a3⟩ := qa_streamOf_lt w
      exact ⟨a1, by rw [a2]; exact a3⟩
    have hle : (A 1 9 - (A 2 0 - 1 - C b 4) ≤ 0 ∧ qa_left A C b (A 2 0 - 1) ≤ 0) ∨ A 1 9 - (A 2 0 - 1 - C b 4) = qa_left A C b (A 2 0 - 1) := by
      unfold qa_left
      rw [if_neg c3]
      by_cases w : 0 < A 1 9 - (A 2 0 - 1 - C b 4)
      · rw [if_pos w]; exact Or.inr rfl
      · rw [if_neg w]
        refine Or.inl ⟨?_, by decide⟩
        rw [i_lt] at w
        rw [i_le]
        omega
    by_cases c5 : C b 5 = 1
    · rw [if_pos c5]
      have h2 := RR_n h1 (k := 4) (i := 14) (by unfold cmap; omega) (by omega) (by omega) (A 2 4 + 1)
      have he2 : RRe (zUp (zUp ρ 1 11 (A 2 1 + 1)) 1 14 (A 2 4 + 1)) (zUp (zUp A 2 1 (A 2 1 + 1)) 2 4 (A 2 4 + 1)) C i b := RRe_A he1 (fun k _ _ => by rw [q_un (by omega)]) (q_uc (by omega))
      simp -implicitDefEqProofs (disch := first | assumption | omega) only [zLet_eq, zCall_some, zCallu_some, q_cq, zBool_0, zBool_1, q_gn, q_gl, q_sn, q_sl, q_al, q_la, q_ml, q_lm, q_ue, q_un, q_mA, q_mK, q_uA, q_uK, q_g6, q_rm, q_dv, e14]
      cases hq : qa_streamOf A (C b 3) with
      | none =>
        have eA : qa_hitA A C b = zUp (zUp A 2 1 (A 2 1 + 1)) 2 4 (A 2 4 + 1) := by unfold qa_hitA; rw [if_pos c5, hq]
        rw [eA, if_pos (show qa_eR none = -1 from rfl)]
        obtain ⟨ρ1, o1, o2, o3⟩ := r_h108 N hN (t := t) h2 hi (by simp -implicitDefEqProofs (disch := first | assumption | omega) only [q_un]; exact hr) hb he2 none _ _ (fun p w => by cases w) hle
        exact ⟨ρ1, o1, o2, by rw [o3, q_un (by omega), q_un (by omega)]⟩
      | some p =>
        obtain ⟨hp, hn⟩ := ho p hq
        have eA : qa_hitA A C b = zUp (zUp (zUp A 2 1 (A 2 1 + 1)) 2 4 (A 2 4 + 1)) (12 + p) 9 (A (12 + p) 9 + 1) := by unfold qa_hitA; rw [if_pos c5, hq]
        have es10 : ρ 1 (542 + 12 * p + 10) = A (12 + p) 9 := RR_sr h (k := 9) hp hn (by omega)
        have h3 := RR_s h2 (p := p) (k := 9) hp (by omega) (by omega) (A (12 + p) 9 + 1)
        rw [show 543 + 12 * p + 9 = 542 + 12 * p + 10 by omega] at h3
        have he3 : RRe (zUp (zUp (zUp ρ 1 11 (A 2 1 + 1)) 1 14 (A 2 4 + 1)) 1 (542 + 12 * p + 10) (A (12 + p) 9 + 1)) (zUp (zUp (zUp A 2 1 (A 2 1 + 1)) 2 4 (A 2 4 + 1)) (12 + p) 9 (A (12 + p) 9 + 1)) C i b := RRe_A he2 (fun k _ _ => by rw [q_un (by omega)]) (q_uc (by omega))
        rw [eA, if_neg (show ¬ qa_eR (some p) = -1 from q_m1 (by omega)), show qa_eR (some p) = nI (542 + 12 * p) from rfl]
        simp -implicitDefEqProofs (disch := first | assumption | omega) only [zLet_eq, zCall_some, zCallu_some, q_cq, zBool_0, zBool_1, q_gn, q_gl, q_sn, q_sl, q_al, q_la, q_ml, q_lm, q_ue, q_un, q_mA, q_mK, q_uA, q_uK, q_g6, q_rm, q_dv, es10]
        obtain ⟨ρ1, o1, o2, o3⟩ := r_h108 N hN (t := t) h3 hi (by simp -implicitDefEqProofs (disch := first | assumption | omega) only [q_un]; exact hr) hb he3 (some p) _ _ (fun p' w => by cases w; exact ⟨hp, by simp -implicitDefEqProofs (disch := first | assumption | omega) only [q_un]; exact hn⟩) hle
        exact ⟨ρ1, o1, o2, by rw [o3, q_un (by omega), q_un (by omega), q_un (by omega)]⟩
    · rw [if_neg c5]
      have eA : qa_hitA A C b = zUp A 2 1 (A 2 1 + 1) := by unfold qa_hitA; rw [if_neg c5]
      rw [eA]
      obtain ⟨ρ1, o1, o2, o3⟩ := r_h108 N hN (t := t) h1 hi hr1 hb he1 (qa_streamOf A (C b 3)) _ _ (fun p w => by
        obtain ⟨a1, a2⟩ := ho p w
        exact ⟨a1, by simp -implicitDefEqProofs (disch := first | assumption | omega) only [q_un]; exact a2⟩) hle
      exact ⟨ρ1, o1, o2, by rw [o3, q_un (by omega)]⟩
