/-! THE CLASS: a read -/
theorem qc_toCome (N : Nat) {A κ C : ST} {b s : Nat} (h : RKc κ C) (hb : b < 10000) (hc : C b 0 = 1) (hs : κ 10 b = nI (s + 1)) (hs2 : s < 64) (r lag : Int32) : mE_X0_toCome N (qmix A κ) (nI s) r lag = some (if C b 3 = -1 then 0 else if 0 < lag - (r - C b 4) then lag - (r - C b 4) else 0, qmix A κ) := by
  obtain ⟨e9, e8, n, hn, e7, hR⟩ := h
  obtain ⟨s', hs', g10, g4, g5, g6, g7, g8, g9, g⟩ := RKs_at hR hb hc
  have : s = s' := by
    have := nI_inj (by omega) (by omega) (hs.symm.trans g10)
    omega
  subst this
  rw [mE_X0_toCome]
  by_cases e : C b 3 = -1
  · simp -implicitDefEqProofs (disch := first | assumption | omega) only [zLet_eq, zCall_some, zCallu_some, q_cq, zBool_0, zBool_1, q_gn, q_gl, q_sn, q_sl, q_al, q_la, q_ml, q_lm, q_ue, q_un, q_mA, q_mK, q_uA, q_uK, q_g6, q_rm, q_dv, q_ltl, q_lel, q_llt, q_lle, q_eql, q_lt, q_le, q_eq, q_m1F, if_pos, if_neg, if_true, if_false, e7, g7, mE_X0_toCome_22]
  · simp -implicitDefEqProofs (disch := first | assumption | omega) only [zLet_eq, zCall_some, zCallu_some, q_cq, zBool_0, zBool_1, q_gn, q_gl, q_sn, q_sl, q_al, q_la, q_ml, q_lm, q_ue, q_un, q_mA, q_mK, q_uA, q_uK, q_g6, q_rm, q_dv, q_ltl, q_lel, q_llt, q_lle, q_eql, q_lt, q_le, q_eq, q_m1F, if_pos, if_neg, if_true, if_false, e7, g7, g8, mE_X0_toCome_22]
theorem qc_hit (N : Nat) (hN : 64 < N) {A κ C H : ST} {b s t : Nat} (h : Rp κ A C H) (g : Gd A C t) (ht : t < 1073741820) (hb : b < 10000) (hc : C b 0 = 1) (hs : κ 10 b = nI (s + 1)) (hs2 : s < 64) :
    ∃ κ', mE_X2_hit N (qmix A κ) (nI s) = some (qmix (qa_hit A C b).1 κ') ∧ Rp κ' (qa_hit A C b).1 (qa_hit A C b).2 H := by
  obtain ⟨e9, e8, n, hn, e7, hR⟩ := h.2.1
  obtain ⟨s', hs', g10, g4, g5, g6, g7, g8, g9, gg⟩ := RKs_at hR hb hc
  have : s = s' := by
    have := nI_inj (by omega) (by omega) (hs.symm.trans g10)
    omega
  subst this
  have ho : ∀ p, qa_streamOf A (C b 3) = some p → p < 6 := fun p q => (qa_streamOf_lt q).1
  unfold qa_hit
  dsimp only
  have tail : ∀ κ1 : ST, Rp κ1 (qa_hitA A C b) (qa_touch C b) H → κ1 10 b = nI (s + 1) → ∃ κ', mE_X2_hit_75 N (qmix (qa_hitA A C b) κ1) (nI s) (qa_fin (qa_streamOf A (C b 3))) = some (qmix (qa_lateA (qa_hitA A C b) (qa_streamOf A (C b 3)) (qa_left A C b (A 2 0 - 1))) κ') ∧ Rp κ' (qa_lateA (qa_hitA A C b) (qa_streamOf A (C b 3)) (qa_left A C b (A 2 0 - 1))) (qa_touch C b) H := fun κ1 h1 h10 => by
    rw [mE_X2_hit_75]
    have t0 : qa_touch C b b 0 = 1 := by simp [qa_touch, hc]
    have t3 : qa_touch C b b 3 = C b 3 := by simp [qa_touch]
    have t4 : qa_touch C b b 4 = C b 4 := by simp [qa_touch]
    have e20 : qa_hitA A C b 2 0 = A 2 0 := hitA_2 (by omega) (by omega)
    have e19 : qa_hitA A C b 1 9 = A 1 9 := by rw [hitA_c (by omega) (by omega)]
    simp -implicitDefEqProofs (disch := first | assumption | omega) only [zLet_eq, zCall_some, zCallu_some, q_cq, zBool_0, zBool_1, q_gn, q_gl, q_sn, q_sl, q_al, q_la, q_ml, q_lm, q_ue, q_un, q_mA, q_mK, q_uA, q_uK, q_g6, q_rm, q_dv, qc_toCome N h1.2.1 hb t0 h10 hs2, t3, t4, e20, e19]
    unfold qa_lateA qa_left
    generalize (if C b 3 = -1 then 0 else if 0 < A 1 9 - (A 2 0 - 1 - C b 4) then A 1 9 - (A 2 0 - 1 - C b 4) else 0) = left
    by_cases hl : left ≤ 0
    · rw [if_pos hl, if_pos hl]
      exact ⟨κ1, rfl, h1⟩
    · rw [if_neg hl, if_neg hl]
      cases hq : qa_streamOf A (C b 3) with
      | none =>
        refine ⟨κ1, rfl, ?_⟩
        simp -implicitDefEqProofs (disch := first | assumption | omega) only [Rp_eq]
        exact h1
      | some p =>
        have hp := ho p hq
        rw [qa_fin_some hp]
        simp -implicitDefEqProofs (disch := first | assumption | omega) only [zLet_eq, zCall_some, zCallu_some, q_cq, zBool_0, zBool_1, q_gn, q_gl, q_sn, q_sl, q_al, q_la, q_ml, q_lm, q_ue, q_un, q_mA, q_mK, q_uA, q_uK, q_g6, q_rm, q_dv]
        obtain ⟨κ2, c1, c2⟩ := qc_change N (A := zUp (zUp (qa_hitA A C b) 2 32 (qa_hitA A C b 2 32 + 1)) 2 33 (qa_hitA A C b 2 33 + left)) (κ := κ1) (C := qa_touch C b) (H := H) (by simp -implicitDefEqProofs (disch := first | assumption | omega) only [Rp_eq]; exact h1) ⟨p, hp⟩ (2 * qa_hitA A C b (12 + p) 4)
        rw [c1]
        exact ⟨κ2, rfl, c2⟩
  rw [mE_X2_hit]
  simp -implicitDefEqProofs (disch := first | assumption | omega) only [zLet_eq, zCall_some, zCallu_some, q_cq, zBool_0, zBool_1, q_gn, q_gl, q_sn, q_sl, q_al, q_la, q_ml, q_lm, q_ue, q_un, q_mA, q_mK, q_uA, q_uK, q_g6, q_rm, q_dv, q_ltl, q_lel, q_llt, q_lle, q_eql, q_lt, q_le, q_eq, q_m1F, if_pos, if_neg, if_true, if_false, e7, g7, qc_streamOf N (show 6 < N by omega), streamOf_up]
  obtain ⟨κ1, k1, k2, k3⟩ := qc_touch N (A := zUp A 2 1 (A 2 1 + 1)) h.2.1 hb hc hs hs2
  rw [k1]
  have hR1 : Rp κ1 A (qa_touch C b) H := Rp_c h k2 (fun c hc => k3 c (by omega))
  have h10 : κ1 10 b = nI (s + 1) := by rw [k3 10 (by omega)]; exact hs
  simp -implicitDefEqProofs (disch := first | assumption | omega) only [zLet_eq, zCall_some, zCallu_some, q_cq, zBool_0, zBool_1, q_gn, q_gl, q_sn, q_sl, q_al, q_la, q_ml, q_lm, q_ue, q_un, q_mA, q_mK, q_uA, q_uK, q_g6, q_rm, q_dv]
  rcases gg with q | q
  · have hA : qa_hitA A C b = zUp A 2 1 (A 2 1 + 1) := by
      unfold qa_hitA
      rw [if_neg (by rw [q]; decide)]
    rw [hA] at tail
    rw [if_pos q, hA]
    exact tail κ1 (by simp -implicitDefEqProofs (disch := first | assumption | omega) only [Rp_eq]; exact hR1) h10
  · rw [if_neg (by rw [q]; decide)]
    cases hq : qa_streamOf A (C b 3) with
    | none =>
      have hA : qa_hitA A C b = zUp (zUp A 2 1 (A 2 1 + 1)) 2 4 (A 2 4 + 1) := by
        unfold qa_hitA
        rw [if_pos q, hq]
      rw [hA, hq] at tail
      rw [hA]
      exact tail κ1 (by simp -implicitDefEqProofs (disch := first | assumption | omega) only [Rp_eq]; exact hR1) h10
    | some p =>
      have hp := ho p hq
      have hA : qa_hitA A C b = zUp (zUp (zUp A 2 1 (A 2 1 + 1)) 2 4 (A 2 4 + 1)) (12 + p) 9 (A (12 + p) 9 + 1) := by
        unfold qa_hitA
        rw [if_pos q, hq]
      rw [hA, hq, qa_fin_some hp] at tail
      rw [hA, qa_fin_some hp]
      simp -implicitDefEqProofs (disch := first | assumption | omega) only [zLet_eq, zCall_some, zCallu_some, q_cq, zBool_0, zBool_1, q_gn, q_gl, q_sn, q_sl, q_al, q_la, q_ml, q_lm, q_ue, q_un, q_mA, q_mK, q_uA, q_uK, q_g6, q_rm, q_dv]
      exact tail κ1 (by simp -implicitDefEqProofs (disch := first | assumption | omega) only [Rp_eq]; exact hR1) h10
theorem qc_admit (N : Nat) (hN : 64 < N) {A κ C H : ST} {b t : Nat} (h : Rp κ A C H) (g : Gd A C t) (ht : t < 1073741820) (hb : b < 10000) (hc : ¬ C b 0 = 1) :
    ∃ κ', mE_X2_admit N (qmix A κ) (nI b) = some (qmix (qa_admit A C b).1 κ') ∧ Rp κ' (qa_admit A C b).1 (qa_admit A C b).2 H := by
  have htb := GT_b g.1.1
  have g1 : Gd (zUp A 2 2 (A 2 2 + 1)) C (t + 1) := Gd_A g (GA_inc g.1 (by omega) (by omega)) (by omega) (q_uc (by omega)) (by rw [q_un (by omega)]; omega) (fun q hq => ⟨q_un (by omega), q_un (by omega)⟩)
  have hx : XOK C (nI b) := fun c hc' e q => by
    have : c = b := nI_inj (by omega) (by omega) e
    subst this
    exact hc q.1
  obtain ⟨r1, r2, r3, r4, r5, r6, r7, r8⟩ := room_ok g1 (by omega) hx
  rw [q_un (by omega)] at r2
  have tail : ∀ κ1 : ST, Rp κ1 (qa_room (zUp A 2 2 (A 2 2 + 1)) C (nI b)).1 (qa_room (zUp A 2 2 (A 2 2 + 1)) C (nI b)).2 H → ∀ w : Int32, ∃ κ', mE_X2_admit_42 N (qmix (qa_room (zUp A 2 2 (A 2 2 + 1)) C (nI b)).1 κ1) (nI b) w = some (qmix (qa_admit A C b).1 κ') ∧ Rp κ' (qa_admit A C b).1 (qa_admit A C b).2 H := fun κ1 h1 w => by
    rw [mE_X2_admit_42]
    unfold qa_admit
    dsimp only
    generalize (qa_room (zUp A 2 2 (A 2 2 + 1)) C (nI b)).1 = A1 at *
    generalize (qa_room (zUp A 2 2 (A 2 2 + 1)) C (nI b)).2 = C1 at *
    obtain ⟨κ2, p1, p2, p3⟩ := qc_put N (A := A1) h1.2.1 hb (r7 b hb hc) (by omega) (-1) (A1 2 0)
    refine ⟨κ2, ?_, Rp_c h1 p2 p3⟩
    simp -implicitDefEqProofs (disch := first | assumption | omega) only [zLet_eq, zCall_some, zCallu_some, q_cq, zBool_0, zBool_1, q_gn, q_gl, q_sn, q_sl, q_al, q_la, q_ml, q_lm, q_ue, q_un, q_mA, q_mK, q_uA, q_uK, q_g6, q_rm, q_dv, p1]
  rw [mE_X2_admit]
  simp -implicitDefEqProofs (disch := first | assumption | omega) only [zLet_eq, zCall_some, zCallu_some, q_cq, zBool_0, zBool_1, q_gn, q_gl, q_sn, q_sl, q_al, q_la, q_ml, q_lm, q_ue, q_un, q_mA, q_mK, q_uA, q_uK, q_g6, q_rm, q_dv]
  obtain ⟨w, κ1, m1, m2⟩ := qc_room N hN (A := zUp A 2 2 (A 2 2 + 1)) (κ := κ) (H := H) (by simp -implicitDefEqProofs (disch := first | assumption | omega) only [Rp_eq]; exact h) g1 (by omega) (nI b) hx
  rw [q_un (by omega), q_un (by omega)] at m1
  rw [m1]
  simp -implicitDefEqProofs (disch := first | assumption | omega) only [zLet_eq, zCall_some, zCallu_some, q_cq, zBool_0, zBool_1, q_gn, q_gl, q_sn, q_sl, q_al, q_la, q_ml, q_lm, q_ue, q_un, q_mA, q_mK, q_uA, q_uK, q_g6, q_rm, q_dv]
  rcases m2 with ⟨q1, q2, q3⟩ | ⟨q1, κ2, q2, q3⟩
  · rw [if_pos q1]
    have := tail κ1 (by rw [q2]; exact q3) w
    rw [q2] at this
    exact this
  · rw [if_neg q1, q2]
    exact tail κ2 q3 w
theorem qc_join_loop (N : Nat) (p : Fin 6) {κ C H : ST} : ∀ (m q : Nat) {n : Nat} {A : ST}, q + m = 6 → m < n → Rp κ A C H → zIt (mE_X2_joinOthers_B2 N) (fun _ _ _ => none) n (qmix A κ) p (nI q) = some (qmix (qa_join p m q A) κ) ∧ Rp κ (qa_join p m q A) C H := by
  have hp := p.isLt
  intro m
  induction m with
  | zero =>
    intro q n A hq hn h
    obtain ⟨n, rfl⟩ : ∃ k, n = k + 1 := ⟨n - 1, by omega⟩
    have : q = 6 := by omega
    subst this
    rw [zIt_s, mE_X2_joinOthers_B2, qa_join]
    simp -implicitDefEqProofs (disch := first | assumption | omega) only [zLet_eq, zCall_some, zCallu_some, q_cq, zBool_0, zBool_1, q_gn, q_gl, q_sn, q_sl, q_al, q_la, q_ml, q_lm, q_ue, q_un, q_mA, q_mK, q_uA, q_uK, q_g6, q_rm, q_dv, q_ltl, q_lel, q_llt, q_lle, q_eql, q_lt, q_le, q_eq, q_m1F, if_pos, if_neg, if_true, if_false, mE_X2_joinOthers_112]
    exact ⟨trivial, h⟩
  | succ m ih =>
    intro q n A hq hn h
    obtain ⟨n, rfl⟩ : ∃ k, n = k + 1 := ⟨n - 1, by omega⟩
    rw [zIt_s, mE_X2_joinOthers_B2, qa_join]
    have hq6 : q < 6 := by omega
    by_cases e1 : A (12 + p.val) 0 = -1
    · simp -implicitDefEqProofs (disch := first | assumption | omega) only [zLet_eq, zCall_some, zCallu_some, q_cq, zBool_0, zBool_1, q_gn, q_gl, q_sn, q_sl, q_al, q_la, q_ml, q_lm, q_ue, q_un, q_mA, q_mK, q_uA, q_uK, q_g6, q_rm, q_dv, q_ltl, q_lel, q_llt, q_lle, q_eql, q_lt, q_le, q_eq, q_m1F, if_pos, if_neg, if_true, if_false, mE_X2_joinOthers_112]
      exact ⟨trivial, h⟩
    · rw [if_neg e1]
      have nx := ih (q + 1) (n := n) (A := A) (by omega) (by omega) h
      by_cases e2 : q = p.val
      · have e2' : (⟨q, hq6⟩ : Fin 6) = p := Fin.ext e2
        rw [if_pos (Or.inl e2)]
        simp -implicitDefEqProofs (disch := first | assumption | omega) only [zLet_eq, zCall_some, zCallu_some, q_cq, zBool_0, zBool_1, q_gn, q_gl, q_sn, q_sl, q_al, q_la, q_ml, q_lm, q_ue, q_un, q_mA, q_mK, q_uA, q_uK, q_g6, q_rm, q_dv, q_ltl, q_lel, q_llt, q_lle, q_eql, q_lt, q_le, q_eq, q_m1F, if_pos, if_neg, if_true, if_false, mE_X2_joinOthers_106]
        exact nx
      · have e2' : ¬ (⟨q, hq6⟩ : Fin 6) = p := fun w => e2 (congrArg Fin.val w)
        by_cases e3 : A (12 + q) 0 = -1
        · rw [if_pos (Or.inr (Or.inl e3))]
          simp -implicitDefEqProofs (disch := first | assumption | omega) only [zLet_eq, zCall_some, zCallu_some, q_cq, zBool_0, zBool_1, q_gn, q_gl, q_sn, q_sl, q_al, q_la, q_ml, q_lm, q_ue, q_un, q_mA, q_mK, q_uA, q_uK, q_g6, q_rm, q_dv, q_ltl, q_lel, q_llt, q_lle, q_eql, q_lt, q_le, q_eq, q_m1F, if_pos, if_neg, if_true, if_false, mE_X2_joinOthers_106]
          exact nx
        · by_cases e4 : A (12 + p.val) 2 = 0
          · rw [if_pos (Or.inr (Or.inr (Or.inl e4)))]
            simp -implicitDefEqProofs (disch := first | assumption | omega) only [zLet_eq, zCall_some, zCallu_some, q_cq, zBool_0, zBool_1, q_gn, q_gl, q_sn, q_sl, q_al, q_la, q_ml, q_lm, q_ue, q_un, q_mA, q_mK, q_uA, q_uK, q_g6, q_rm, q_dv, q_ltl, q_lel, q_llt, q_lle, q_eql, q_lt, q_le, q_eq, q_m1F, if_pos, if_neg, if_true, if_false, mE_X2_joinOthers_106]
            exact nx
          · by_cases e5 : A (12 + q) 2 = A (12 + p.val) 2
            · by_cases e6 : A (12 + q) 1 = A (12 + p.val) 1
              · rw [if_neg (show ¬ (q = p.val ∨ A (12 + q) 0 = -1 ∨ A (12 + p.val) 2 = 0 ∨ ¬ A (12 + q) 2 = A (12 + p.val) 2 ∨ ¬ A (12 + q) 1 = A (12 + p.val) 1) from fun w => by rcases w with w | w | w | w | w; exact e2 w; exact e3 w; exact e4 w; exact w e5; exact w e6)]
                by_cases e7 : A (12 + q) 0 ≤ A (12 + p.val) 0
                · rw [if_pos e7]
                  simp -implicitDefEqProofs (disch := first | assumption | omega) only [zLet_eq, zCall_some, zCallu_some, q_cq, zBool_0, zBool_1, q_gn, q_gl, q_sn, q_sl, q_al, q_la, q_ml, q_lm, q_ue, q_un, q_mA, q_mK, q_uA, q_uK, q_g6, q_rm, q_dv, q_ltl, q_lel, q_llt, q_lle, q_eql, q_lt, q_le, q_eq, q_m1F, if_pos, if_neg, if_true, if_false, mE_X2_joinOthers_106, mE_X4_leave]
                  exact ih (q + 1) (n := n) (by omega) (by omega) (by simp -implicitDefEqProofs (disch := first | assumption | omega) only [Rp_eq]; exact h)
                · rw [if_neg e7]
                  simp -implicitDefEqProofs (disch := first | assumption | omega) only [zLet_eq, zCall_some, zCallu_some, q_cq, zBool_0, zBool_1, q_gn, q_gl, q_sn, q_sl, q_al, q_la, q_ml, q_lm, q_ue, q_un, q_mA, q_mK, q_uA, q_uK, q_g6, q_rm, q_dv, q_ltl, q_lel, q_llt, q_lle, q_eql, q_lt, q_le, q_eq, q_m1F, if_pos, if_neg, if_true, if_false, mE_X2_joinOthers_106, mE_X4_leave]
                  exact ih (q + 1) (n := n) (by omega) (by omega) (by simp -implicitDefEqProofs (disch := first | assumption | omega) only [Rp_eq]; exact h)
              · rw [if_pos (Or.inr (Or.inr (Or.inr (Or.inr e6))))]
                simp -implicitDefEqProofs (disch := first | assumption | omega) only [zLet_eq, zCall_some, zCallu_some, q_cq, zBool_0, zBool_1, q_gn, q_gl, q_sn, q_sl, q_al, q_la, q_ml, q_lm, q_ue, q_un, q_mA, q_mK, q_uA, q_uK, q_g6, q_rm, q_dv, q_ltl, q_lel, q_llt, q_lle, q_eql, q_lt, q_le, q_eq, q_m1F, if_pos, if_neg, if_true, if_false, mE_X2_joinOthers_106]
                exact nx
            · rw [if_pos (Or.inr (Or.inr (Or.inr (Or.inl e5))))]
              simp -implicitDefEqProofs (disch := first | assumption | omega) only [zLet_eq, zCall_some, zCallu_some, q_cq, zBool_0, zBool_1, q_gn, q_gl, q_sn, q_sl, q_al, q_la, q_ml, q_lm, q_ue, q_un, q_mA, q_mK, q_uA, q_uK, q_g6, q_rm, q_dv, q_ltl, q_lel, q_llt, q_lle, q_eql, q_lt, q_le, q_eq, q_m1F, if_pos, if_neg, if_true, if_false, mE_X2_joinOthers_106]
              exact nx
theorem qc_join (N : Nat) (hN : 6 < N) (p : Fin 6) {A κ C H : ST} (h : Rp κ A C H) : mE_X2_joinOthers N (qmix A κ) p = some (qmix (qa_join p 6 0 A) κ) ∧ Rp κ (qa_join p 6 0 A) C H :=
  qc_join_loop N p 6 0 (n := N) (by omega) hN h
theorem Rp_22 {κ A A' C H : ST} (h : Rp κ A C H) (e1 : A' 22 = A 22) (e2 : A' 23 = A 23) : Rp κ A' C H := by
  refine ⟨?_, h.2⟩
  have := h.1
  unfold RKl at *
  rw [e1, e2]
  exact this
theorem Rp_find {κ A C H : ST} {x : Int32} (h : Rp κ A C H) (hp : (qa_find A x).2.1 < 6) : Rp κ (qa_find A x).2.2 C H := by
  unfold qa_find at *
  cases h1 : qa_stepping A x 6 0 none with
  | some p =>
    rw [h1] at hp
    dsimp only at hp ⊢
    unfold qa_stepA
    simp -implicitDefEqProofs (disch := first | assumption | omega) only [Rp_eq]
    exact h
  | none =>
    rw [h1] at hp
    dsimp only at hp ⊢
    cases h2 : qa_lastAt A x with
    | some p =>
      rw [h2] at hp
      dsimp only at hp ⊢
      simp -implicitDefEqProofs (disch := first | assumption | omega) only [Rp_eq]
      exact h
    | none =>
      rw [h2] at hp
      dsimp only at hp ⊢
      cases h3 : qa_pairing A x 6 0 none (A 1 4 + 1) with
      | some p =>
        rw [h3] at hp
        dsimp only at hp ⊢
        unfold qa_pairA
        simp -implicitDefEqProofs (disch := first | assumption | omega) only [Rp_eq]
        exact h
      | none =>
        rw [h3] at hp
        dsimp only at hp ⊢
        exact Rp_22 h (by rw [begin_q (by omega) (by omega), q_uc (by omega)]) (by rw [begin_q (by omega) (by omega), q_uc (by omega)])
theorem qc_rest (N : Nat) (hN : 64 < N) {A κ C H : ST} {t b s : Nat} {x2 : Int32} (h : Rp κ A C H) (g : Gd A C t) (ht : t < 1073740000) (hx : XIN C (nI b)) (hb : b < 10000) (h2 : (b : Int) < (A 1 7).toInt) :
    ∃ κ', mE_X2_take_85 N (qmix A κ) (nI b) x2 = some ((qa_rest A C H b).1, qmix (qa_rest A C H b).2.1 κ') ∧ Rp κ' (qa_rest A C H b).2.1 (qa_rest A C H b).2.2.1 (qa_rest A C H b).2.2.2 := by
  have htb := GT_b g.1.1
  obtain ⟨f1, f2, f3, f4, f5, f6, f7, f8⟩ := find_ok g (by omega) hb h2
  obtain ⟨c1, c2⟩ := clamp_toInt (x := A 1 6) (by omega)
  rw [mE_X2_take_85, qc_find N (by omega) A κ (nI b) _ (by omega) c2]
  have hRf := Rp_find (x := nI b) h f2
  unfold qa_rest
  dsimp only
  generalize qa_find A (nI b) = f at *
  obtain ⟨kind, p, A1⟩ := f
  dsimp only at *
  simp -implicitDefEqProofs (disch := first | assumption | omega) only [zLet_eq, zCall_some, zCallu_some, q_cq, zBool_0, zBool_1, q_gn, q_gl, q_sn, q_sl, q_al, q_la, q_ml, q_lm, q_ue, q_un, q_mA, q_mK, q_uA, q_uK, q_g6, q_rm, q_dv, f7, qc_streamAt N f2 f3]
  have tail : ∀ (A2 C2 κ2 : ST) (x2 : Int32), Rp κ2 A2 C2 H → ∃ κ', mE_X2_take_134 N (qmix A2 κ2) (nI b) x2 kind ⟨p, f2⟩ = some (kind, qmix (qa_join p 6 0 (zUp A2 (12 + p) 7 (C2 10000 0))) κ') ∧ Rp κ' (qa_join p 6 0 (zUp A2 (12 + p) 7 (C2 10000 0))) C2 (qa_trace H (nI b) (A2 (12 + p) 0) kind) := fun A2 C2 κ2 x2 hr => by
    rw [mE_X2_take_134]
    have e9 := hr.2.1.1
    simp -implicitDefEqProofs (disch := first | assumption | omega) only [zLet_eq, zCall_some, zCallu_some, q_cq, zBool_0, zBool_1, q_gn, q_gl, q_sn, q_sl, q_al, q_la, q_ml, q_lm, q_ue, q_un, q_mA, q_mK, q_uA, q_uK, q_g6, q_rm, q_dv, e9]
    obtain ⟨κ3, a1, a2, a3⟩ := qc_hadd N (A := zUp A2 (12 + p) 7 (C2 10000 0)) hr.2.2 (nI b) (A2 (12 + p) 0) kind
    rw [a1]
    have hr3 : Rp κ3 A2 C2 (qa_trace H (nI b) (A2 (12 + p) 0) kind) := Rp_h hr a2 a3
    obtain ⟨j1, j2⟩ := qc_join N (by omega) ⟨p, f2⟩ (A := zUp A2 (12 + p) 7 (C2 10000 0)) (κ := κ3) (C := C2) (H := qa_trace H (nI b) (A2 (12 + p) 0) kind) (by simp -implicitDefEqProofs (disch := first | assumption | omega) only [Rp_eq]; exact hr3)
    simp -implicitDefEqProofs (disch := first | assumption | omega) only [zLet_eq, zCall_some, zCallu_some, q_cq, zBool_0, zBool_1, q_gn, q_gl, q_sn, q_sl, q_al, q_la, q_ml, q_lm, q_ue, q_un, q_mA, q_mK, q_uA, q_uK, q_g6, q_rm, q_dv, j1]
    exact ⟨κ3, rfl, j2⟩
  have mid : (kind = 1 ∨ kind = 3) → ∀ x2 : Int32, ∃ κ', mE_X2_take_118 N (qmix A1 κ) (nI b) x2 kind ⟨p, f2⟩ = some (kind, qmix (qa_join p 6 0 (zUp (qa_goes A1 C p (nI b)).1 (12 + p) 7 ((qa_goes A1 C p (nI b)).2 10000 0))) κ') ∧ Rp κ' (qa_join p 6 0 (zUp (qa_goes A1 C p (nI b)).1 (12 + p) 7 ((qa_goes A1 C p (nI b)).2 10000 0))) (qa_goes A1 C p (nI b)).2 (qa_trace H (nI b) ((qa_goes A1 C p (nI b)).1 (12 + p) 0) kind) := fun hk x2 => by
    rw [mE_X2_take_118]
    obtain ⟨κ1, q1, q2⟩ := qc_ask N hRf ⟨p, f2⟩
    obtain ⟨a1, a2, a3, a4, a5, a6⟩ := ask_ok f1 f2 f3 (f5 hk)
    rw [q1]
    simp -implicitDefEqProofs (disch := first | assumption | omega) only [zLet_eq, zCall_some, zCallu_some, q_cq, zBool_0, zBool_1, q_gn, q_gl, q_sn, q_sl, q_al, q_la, q_ml, q_lm, q_ue, q_un, q_mA, q_mK, q_uA, q_uK, q_g6, q_rm, q_dv]
    unfold qa_goes
    by_cases e : (qa_ask A1 p).1 = true
    · rw [if_pos e, if_pos e, if_neg (show ¬ ((1 : Int32) = 0) by decide)]
      obtain ⟨κ2, b1, b2⟩ := qc_batch N hN q2 a1 (by omega) (nI b) hx ⟨p, f2⟩ (by show ¬ (qa_ask A1 p).2 (12 + p) 0 = -1; rw [a3 p 0 f2 (by omega) (by omega)]; exact f3) (by show ¬ (qa_ask A1 p).2 (12 + p) 2 = 0; rw [a3 p 2 f2 (by omega) (by omega)]; exact f5 hk)
      rw [b1, zCallu_some]
      exact tail _ _ κ2 x2 b2
    · rw [if_neg e, if_neg e, if_pos rfl]
      exact tail _ _ κ1 x2 q2
  by_cases k1 : kind = 1
  · rw [if_pos k1, if_pos (Or.inl k1)]
    exact mid (Or.inl k1) x2
  · rw [if_neg k1]
    by_cases k3 : kind = 3
    · rw [if_pos k3, if_pos (Or.inr k3)]
      exact mid (Or.inr k3) x2
    · rw [if_neg k3, if_neg (show ¬ (kind = 1 ∨ kind = 3) from fun w => by rcases w with w | w; exact k1 w; exact k3 w)]
      exact tail A1 C κ x2 hRf
theorem qc_take (N : Nat) (hN : 64 < N) {A κ C H : ST} {t b : Nat} (h : Rp κ A C H) (g : Gd A C t) (ht : t < 1073730000) (hb : b < 10000) (h2 : (b : Int) < (A 1 7).toInt) :
    ∃ κ', mE_X2_take N (qmix A κ) (nI b) = some ((qa_take A C H b).1, qmix (qa_take A C H b).2.1 κ') ∧ Rp κ' (qa_take A C H b).2.1 (qa_take A C H b).2.2.1 (qa_take A C H b).2.2.2 := by
  have htb := GT_b g.1.1
  have e1 : qa_clr A 1 = A 1 := by unfold qa_clr; simp -implicitDefEqProofs (disch := first | assumption | omega) only [q_uc]
  have e26 : qa_clr A 26 = A 26 := by unfold qa_clr; simp -implicitDefEqProofs (disch := first | assumption | omega) only [q_uc]
  have hc : Rp κ (qa_clr A) C H := by unfold qa_clr; simp -implicitDefEqProofs (disch := first | assumption | omega) only [Rp_eq]; exact h
  have gc := clr_ok g
  rw [mE_X2_take]
  simp -implicitDefEqProofs (disch := first | assumption | omega) only [zLet_eq, zCall_some, zCallu_some, q_cq, zBool_0, zBool_1, q_gn, q_gl, q_sn, q_sl, q_al, q_la, q_ml, q_lm, q_ue, q_un, q_mA, q_mK, q_uA, q_uK, q_g6, q_rm, q_dv]
  rw [show zUp (zUp A 0 8 0) 0 9 (-1) = qa_clr A from rfl, qc_has]
  rw [e1, if_pos (by rw [nI_toInt (by omega)]; omega)]
  simp -implicitDefEqProofs (disch := first | assumption | omega) only [zLet_eq, zCall_some, zCallu_some, q_cq, zBool_0, zBool_1, q_gn, q_gl, q_sn, q_sl, q_al, q_la, q_ml, q_lm, q_ue, q_un, q_mA, q_mK, q_uA, q_uK, q_g6, q_rm, q_dv, qc_slotOf N hb]
  rw [if_neg (show ¬ ((1 : Int32) = 0) by decide)]
  have go : ∀ x2 : Int32, (x2 = -1 ↔ ¬ C b 0 = 1) → (∀ s, x2 = nI s → s < 64 → κ 10 b = nI (s + 1)) → (¬ x2 = -1 → ∃ s, s < 64 ∧ x2 = nI s) → ∃ κ', mE_X2_take_57 N (qmix (qa_clr A) κ) (nI b) x2 = some ((qa_rest (qa_got (qa_clr A) C b).1 (qa_got (qa_clr A) C b).2 H b).1, qmix (qa_rest (qa_got (qa_clr A) C b).1 (qa_got (qa_clr A) C b).2 H b).2.1 κ') ∧ Rp κ' (qa_rest (qa_got (qa_clr A) C b).1 (qa_got (qa_clr A) C b).2 H b).2.1 (qa_rest (qa_got (qa_clr A) C b).1 (qa_got (qa_clr A) C b).2 H b).2.2.1 (qa_rest (qa_got (qa_clr A) C b).1 (qa_got (qa_clr A) C b).2 H b).2.2.2 := fun x2 i1 i2 i3 => by
    obtain ⟨g1, g2, g3, g4, g5, g6, g7⟩ := got_ok gc (by omega) hb (by rw [e1]; exact h2)
    have gi : Gd (zUp (qa_clr A) 2 0 (qa_clr A 2 0 + 1)) C (t + 1) := Gd_A gc (GA_inc gc.1 (by omega) (by omega)) (by omega) (q_uc (by omega)) (by rw [q_un (by omega)]; omega) (fun q hq => ⟨q_un (by omega), q_un (by omega)⟩)
    have hi : Rp κ (zUp (qa_clr A) 2 0 (qa_clr A 2 0 + 1)) C H := by simp -implicitDefEqProofs (disch := first | assumption | omega) only [Rp_eq]; exact hc
    rw [mE_X2_take_57]
    simp -implicitDefEqProofs (disch := first | assumption | omega) only [zLet_eq, zCall_some, zCallu_some, q_cq, zBool_0, zBool_1, q_gn, q_gl, q_sn, q_sl, q_al, q_la, q_ml, q_lm, q_ue, q_un, q_mA, q_mK, q_uA, q_uK, q_g6, q_rm, q_dv]
    by_cases e : C b 0 = 1
    · have hx : ¬ x2 = -1 := fun q => i1.mp q e
      obtain ⟨s, hs, ex⟩ := i3 hx
      obtain ⟨κ1, m1, m2⟩ := qc_hit N hN hi gi (by omega) hb e (i2 s ex hs) hs
      have eg : qa_got (qa_clr A) C b = qa_hit (zUp (qa_clr A) 2 0 (qa_clr A 2 0 + 1)) C b := by unfold qa_got; rw [if_pos e]
      rw [← eg] at m1 m2
      rw [if_neg hx, ex, m1, zCallu_some]
      exact qc_rest N hN (x2 := nI s) (s := s) m2 g1 (by omega) g2 hb (by rw [g3, e1]; exact h2)
    · obtain ⟨κ1, m1, m2⟩ := qc_admit N hN hi gi (by omega) hb e
      have eg : qa_got (qa_clr A) C b = qa_admit (zUp (qa_clr A) 2 0 (qa_clr A 2 0 + 1)) C b := by unfold qa_got; rw [if_neg e]
      rw [← eg] at m1 m2
      rw [if_pos (i1.mpr e), m1, zCallu_some]
      exact qc_rest N hN (x2 := x2) (s := 0) m2 g1 (by omega) g2 hb (by rw [g3, e1]; exact h2)
  unfold qa_take
  by_cases e : C b 0 = 1
  · obtain ⟨-, -, n, hn, -, hR⟩ := h.2.1
    obtain ⟨s, hs, f10, -⟩ := RKs_at hR hb e
    rw [if_pos (Or.inl e), if_neg (fun q => (slot_m1 h.2.1 hb).mp q e)]
    refine go _ (slot_m1 h.2.1 hb) (fun s' q hs' => ?_) (fun _ => ⟨s, by omega, by rw [f10, nI_pred]⟩)
    rw [f10, nI_pred] at q
    rw [f10, nI_inj (by omega) (by omega) q]
  · rw [if_pos ((slot_m1 h.2.1 hb).mpr e), qc_bad N hb, e26, zCall_some]
    by_cases eb : 0 ≤ A 26 b
    · rw [if_pos eb, if_pos (Or.inr eb), if_pos rfl]
      refine go _ (slot_m1 h.2.1 hb) (fun s' q hs' => ?_) (fun q => absurd ((slot_m1 h.2.1 hb).mpr e) q)
      rw [(slot_m1 h.2.1 hb).mpr e] at q
      exact absurd q.symm (q_m1 (by omega))
    · rw [if_neg eb, if_neg (show ¬ ((1 : Int32) = 0) by decide), if_neg (show ¬ (C b 0 = 1 ∨ 0 ≤ A 26 b) from fun q => by rcases q with q | q; exact e q; exact eb q)]
      have e23 : qa_clr A 2 3 = A 2 3 := by unfold qa_clr; simp -implicitDefEqProofs (disch := first | assumption | omega) only [q_un]
      simp -implicitDefEqProofs (disch := first | assumption | omega) only [zLet_eq, zCall_some, zCallu_some, q_cq, zBool_0, zBool_1, q_gn, q_gl, q_sn, q_sl, q_al, q_la, q_ml, q_lm, q_ue, q_un, q_mA, q_mK, q_uA, q_uK, q_g6, q_rm, q_dv, e23]
      refine ⟨κ, rfl, ?_⟩
      simp -implicitDefEqProofs (disch := first | assumption | omega) only [Rp_eq]
      exact hc
