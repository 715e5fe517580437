/-! THE CLASS: room, fetch, batch -/
theorem qc_room (N : Nat) (hN : 64 < N) {A κ C H : ST} {t : Nat} (h : Rp κ A C H) (g : Gd A C t) (ht : t < 1073741824) (x : Int32) (hx : XOK C x) :
    ∃ w κ1, mE_X0_makeRoom N (qmix A κ) (A 1 0) (A 1 8) x = some (w, qmix A κ1) ∧ ((w = -1 ∧ (qa_room A C x).1 = A ∧ Rp κ1 A (qa_room A C x).2 H) ∨ (¬ w = -1 ∧ ∃ κ2, mE_X2_waste N (qmix A κ1) w = some (qmix (qa_room A C x).1 κ2) ∧ Rp κ2 (qa_room A C x).1 (qa_room A C x).2 H)) := by
  have htb := GT_b g.1.1
  by_cases hf : nI (qin C) < A 1 0
  · obtain ⟨e9, e8, n, hn, e7, hR⟩ := h.2.1
    have hq := RKs_n hR hn
    refine ⟨-1, κ, ?_, Or.inl ⟨rfl, ?_, ?_⟩⟩
    · rw [mE_X0_makeRoom]
      have : ¬ A 1 0 ≤ nI n := by
        rw [hq] at hf
        rw [i_lt] at hf
        rw [i_le]
        omega
      simp (disch := first | assumption | omega) only [zLet_eq, zCall_some, zCallu_some, q_cq, zBool_0, zBool_1, q_gn, q_gl, q_sn, q_sl, q_al, q_la, q_ml, q_lm, q_ue, q_un, q_mA, q_mK, q_uA, q_uK, q_g6, q_rm, q_dv, e7, if_neg]
    · unfold qa_room; rw [if_pos hf]
    · unfold qa_room; rw [if_pos hf]; exact h
  · have hex := qcand_ex g hx hf
    have hv := qvic_of hex
    obtain ⟨κ1, k1, k2, k3⟩ := qc_makeRoom N hN (A := A) h.2.1 g.2.1 ht x hf (by omega) hex
    have hR1 : Rp κ1 A (zUp C (qa_vic A C x) 0 0) H := Rp_c h k2 k3
    refine ⟨_, κ1, k1, ?_⟩
    unfold qa_room
    rw [if_neg hf]
    dsimp only
    by_cases hw : C (qa_vic A C x) 5 = 1
    · rw [if_pos hw, if_pos hw]
      refine Or.inr ⟨(g.2.1.2.1 _ hv.1.1 hv.1.2.1).2.2.2.2.2.2.2.1 hw, ?_⟩
      obtain ⟨κ2, w1, w2⟩ := qc_waste N (by omega) hR1 (C (qa_vic A C x) 3)
      exact ⟨κ2, w1, w2⟩
    · rw [if_neg hw, if_neg hw]
      exact Or.inl ⟨rfl, rfl, hR1⟩
theorem Rp_plan {κ A C H : ST} {b : Nat} (h : Rp κ A C H) : Rp κ (qa_plan A b) C H := by
  unfold qa_plan
  split
  · exact h
  · split
    · exact h
    · simp (disch := first | assumption | omega) only [Rp_eq]
      exact h
theorem qc_fetch (N : Nat) (hN : 64 < N) {A κ C H : ST} {t b : Nat} (h : Rp κ A C H) (g : Gd A C t) (ht : t < 1073741824) (x : Int32) (hx : XOK C x) (p : Fin 6) (hb : b < 10000) (hc : ¬ C b 0 = 1) :
    ∃ κ', mE_X2_fetchFor N (qmix A κ) p (nI b) x = some (qmix (qa_fetch A C p b x).1 κ') ∧ Rp κ' (qa_fetch A C p b x).1 (qa_fetch A C p b x).2 H := by
  have hp := p.isLt
  have htb := GT_b g.1.1
  obtain ⟨r1, r2, r3, r4, r5, r6, r7, r8⟩ := room_ok g ht hx
  have tail : ∀ κ1 : ST, Rp κ1 (qa_room A C x).1 (qa_room A C x).2 H → ∀ w : Int32, ∃ κ', mE_X2_fetchFor_35 N (qmix (qa_room A C x).1 κ1) p (nI b) x w = some (qmix (qa_fetch A C p b x).1 κ') ∧ Rp κ' (qa_fetch A C p b x).1 (qa_fetch A C p b x).2 H := fun κ1 h1 w => by
    rw [mE_X2_fetchFor_35]
    unfold qa_fetch qa_fetched
    dsimp only
    generalize (qa_room A C x).1 = A1 at *
    generalize (qa_room A C x).2 = C1 at *
    obtain ⟨κ2, p1, p2, p3⟩ := qc_put N (A := A1) h1.2.1 hb (r7 b hb hc) (by omega) (A1 (12 + p.val) 0) (A1 2 0)
    have hR := Rp_c h1 p2 p3
    simp (disch := first | assumption | omega) only [zLet_eq, zCall_some, zCallu_some, q_cq, zBool_0, zBool_1, q_gn, q_gl, q_sn, q_sl, q_al, q_la, q_ml, q_lm, q_ue, q_un, q_mA, q_mK, q_uA, q_uK, q_g6, q_rm, q_dv, p1]
    have e08 : zUp (zUp A1 2 5 (A1 2 5 + 1)) (12 + p.val) 8 (A1 (12 + p.val) 8 + 1) 0 8 = A1 0 8 := by simp (disch := first | assumption | omega) only [q_un]
    unfold qa_plan
    rw [e08]
    by_cases q1 : A1 0 8 < 0
    · rw [if_pos q1, if_pos q1]
      refine ⟨κ2, rfl, ?_⟩
      simp (disch := first | assumption | omega) only [Rp_eq]
      exact hR
    · rw [if_neg q1, if_neg q1]
      by_cases q2 : 32 ≤ A1 0 8
      · rw [if_pos q2, if_pos q2]
        refine ⟨κ2, rfl, ?_⟩
        simp (disch := first | assumption | omega) only [Rp_eq]
        exact hR
      · rw [if_neg q2, if_neg q2]
        obtain ⟨j, hj, ej⟩ := nI_of q1
        have hj2 : j < 32 := by
          rw [ej] at q2
          simp (disch := first | assumption | omega) only [q_lle] at q2
          omega
        simp (disch := first | assumption | omega) only [zLet_eq, zCall_some, zCallu_some, q_cq, zBool_0, zBool_1, q_gn, q_gl, q_sn, q_sl, q_al, q_la, q_ml, q_lm, q_ue, q_un, q_mA, q_mK, q_uA, q_uK, q_g6, q_rm, q_dv, ej, mE_X2_fetchFor_112]
        refine ⟨κ2, ?_, ?_⟩
        · rw [nI_clamp hj]
        · simp (disch := first | assumption | omega) only [Rp_eq]
          exact hR
  rw [mE_X2_fetchFor]
  simp (disch := first | assumption | omega) only [zLet_eq, zCall_some, zCallu_some, q_cq, zBool_0, zBool_1, q_gn, q_gl, q_sn, q_sl, q_al, q_la, q_ml, q_lm, q_ue, q_un, q_mA, q_mK, q_uA, q_uK, q_g6, q_rm, q_dv]
  obtain ⟨w, κ1, m1, m2⟩ := qc_room N hN h g ht x hx
  rw [m1]
  simp (disch := first | assumption | omega) only [zLet_eq, zCall_some, zCallu_some, q_cq, zBool_0, zBool_1, q_gn, q_gl, q_sn, q_sl, q_al, q_la, q_ml, q_lm, q_ue, q_un, q_mA, q_mK, q_uA, q_uK, q_g6, q_rm, q_dv]
  rcases m2 with ⟨q1, q2, q3⟩ | ⟨q1, κ2, q2, q3⟩
  · rw [if_pos q1]
    have := tail κ1 (by rw [q2]; exact q3) w
    rw [q2] at this
    exact this
  · rw [if_neg q1, q2]
    exact tail κ2 q3 w
theorem qc_has (N : Nat) {A κ : ST} {x : Int32} : mE_X2_hasBlock N (qmix A κ) x = some (if 0 ≤ x.toInt ∧ x.toInt < (A 1 7).toInt then 1 else 0, qmix A κ) := by
  rw [mE_X2_hasBlock]
  have e0 : (0 : Int32).toInt = 0 := by decide
  simp (disch := first | assumption | omega) only [zLet_eq, zCall_some, zCallu_some, q_cq, zBool_0, zBool_1, q_gn, q_gl, q_sn, q_sl, q_al, q_la, q_ml, q_lm, q_ue, q_un, q_mA, q_mK, q_uA, q_uK, q_g6, q_rm, q_dv, mE_X2_hasBlock_19, mE_X2_hasBlock_20]
  by_cases h1 : x < 0
  · rw [if_pos h1, if_neg (by rw [i_lt, e0] at h1; omega)]
  · rw [if_neg h1]
    rw [i_lt, e0] at h1
    by_cases h2 : A 1 7 ≤ x
    · rw [if_pos h2, if_neg (by rw [i_le] at h2; omega)]
    · rw [if_neg h2]
      rw [i_le] at h2
      rw [if_pos (by omega)]
theorem qc_bad (N : Nat) {A κ : ST} {b : Nat} (hb : b < 10000) : mE_X1_isBad N (qmix A κ) (nI b) = some (if 0 ≤ A 26 b then 0 else 1, qmix A κ) := by
  rw [mE_X1_isBad]
  by_cases h : 0 ≤ A 26 b
  · simp (disch := first | assumption | omega) only [zLet_eq, zCall_some, zCallu_some, q_cq, zBool_0, zBool_1, q_gn, q_gl, q_sn, q_sl, q_al, q_la, q_ml, q_lm, q_ue, q_un, q_mA, q_mK, q_uA, q_uK, q_g6, q_rm, q_dv, q_ltl, q_lel, q_llt, q_lle, q_eql, q_lt, q_le, q_eq, q_m1F, if_pos, if_neg, if_true, if_false, mE_X1_isBad_24, mE_X1_isBad_25]
  · simp (disch := first | assumption | omega) only [zLet_eq, zCall_some, zCallu_some, q_cq, zBool_0, zBool_1, q_gn, q_gl, q_sn, q_sl, q_al, q_la, q_ml, q_lm, q_ue, q_un, q_mA, q_mK, q_uA, q_uK, q_g6, q_rm, q_dv, q_ltl, q_lel, q_llt, q_lle, q_eql, q_lt, q_le, q_eq, q_m1F, if_pos, if_neg, if_true, if_false, mE_X1_isBad_24, mE_X1_isBad_25]
theorem slot_m1 {κ C : ST} {b : Nat} (h : RKc κ C) (hb : b < 10000) : (κ 10 b - 1 = -1) ↔ ¬ C b 0 = 1 := by
  obtain ⟨e9, e8, n, hn, e7, hR⟩ := h
  constructor
  · intro q hc
    obtain ⟨s, hs, e, -⟩ := RKs_at hR hb hc
    rw [e, nI_pred] at q
    exact q_m1 (by omega) q
  · intro hc
    rw [hR.2.2 b hb hc]
    decide
theorem qc_may (N : Nat) {A κ C H : ST} {t : Nat} (h : Rp κ A C H) (g : Gd A C t) (x : Int32) : mE_X2_mayGoTo N (qmix A κ) x = some (if qa_may A C x = true then 1 else 0, qmix A κ) := by
  have htb := GT_b g.1.1
  have e8 := h.2.1.2.1
  have e0 : (0 : Int32).toInt = 0 := by decide
  rw [mE_X2_mayGoTo, qc_has]
  simp (disch := first | assumption | omega) only [zLet_eq, zCall_some, zCallu_some, q_cq, zBool_0, zBool_1, q_gn, q_gl, q_sn, q_sl, q_al, q_la, q_ml, q_lm, q_ue, q_un, q_mA, q_mK, q_uA, q_uK, q_g6, q_rm, q_dv]
  by_cases h1 : 0 ≤ x.toInt ∧ x.toInt < (A 1 7).toInt
  · rw [if_pos h1, if_neg (show ¬ ((1 : Int32) = 0) by decide)]
    obtain ⟨c1, c2⟩ := clamp_toInt h1.1
    generalize hb : x.toNatClampNeg = b at c1 c2
    have hx0 : 0 ≤ x := by rw [i_le, e0]; exact h1.1
    have hx7 : x < A 1 7 := by rw [i_lt]; exact h1.2
    simp (disch := first | assumption | omega) only [zLet_eq, zCall_some, zCallu_some, q_cq, zBool_0, zBool_1, q_gn, q_gl, q_sn, q_sl, q_al, q_la, q_ml, q_lm, q_ue, q_un, q_mA, q_mK, q_uA, q_uK, q_g6, q_rm, q_dv, zDiv2, e8]
    unfold qa_may
    rw [hb]
    by_cases h2 : nI (qah C) < A 1 0 / 2
    · rw [if_pos h2]
      rw [c2, qc_slotOf N (show b < 10000 by omega)]
      rw [← c2]
      simp (disch := first | assumption | omega) only [zLet_eq, zCall_some, zCallu_some, q_cq, zBool_0, zBool_1, q_gn, q_gl, q_sn, q_sl, q_al, q_la, q_ml, q_lm, q_ue, q_un, q_mA, q_mK, q_uA, q_uK, q_g6, q_rm, q_dv]
      by_cases h3 : κ 10 b - 1 = -1
      · rw [if_pos h3]
        have h3' := (slot_m1 h.2.1 (show b < 10000 by omega)).mp h3
        rw [c2, qc_bad N (show b < 10000 by omega)]
        rw [← c2]
        simp (disch := first | assumption | omega) only [zLet_eq, zCall_some, zCallu_some, q_cq, zBool_0, zBool_1, q_gn, q_gl, q_sn, q_sl, q_al, q_la, q_ml, q_lm, q_ue, q_un, q_mA, q_mK, q_uA, q_uK, q_g6, q_rm, q_dv]
        by_cases h4 : 0 ≤ A 26 b
        · rw [if_pos h4, if_pos rfl]
          rw [if_pos (show _ = true by simp [hx0, hx7, h2, h4])]
          rfl
        · rw [if_neg h4, if_neg (show ¬ ((1 : Int32) = 0) by decide)]
          rw [if_neg (show ¬ _ = true by simp [h4, h3'])]
          rfl
      · rw [if_neg h3]
        have h3' : C b 0 = 1 := Classical.byContradiction (fun q => h3 ((slot_m1 h.2.1 (show b < 10000 by omega)).mpr q))
        rw [if_pos (show _ = true by simp [hx0, hx7, h2, h3'])]
        rfl
    · rw [if_neg h2, if_neg (show ¬ _ = true by simp [h2])]
      rfl
  · rw [if_neg h1, if_pos rfl]
    have : ¬ qa_may A C x = true := fun q => h1 ⟨(qa_may_b q).1, (qa_may_b q).2.1⟩
    rw [if_neg this]
    rfl
theorem qc_bloop (N : Nat) (hN : 64 < N) (p : Fin 6) (x : Int32) (w : Nat) (hw : w ≤ 32) {H : ST} : ∀ (m i : Nat) {n : Nat} {A κ C : ST} {t : Nat}, i + m = w → m < n → Rp κ A C H → Gd A C t → t + 3 * m < 1073741820 → XIN C x → ¬ A (12 + p.val) 0 = -1 → ¬ A (12 + p.val) 2 = 0 →
    ∃ κ', zIt (mE_X2_runBatch_B62 N) (fun _ _ _ _ _ => none) n (qmix A κ) p x (nI w) (nI i) = some (qmix (qa_bloop p x m i A C).1 κ') ∧ Rp κ' (qa_bloop p x m i A C).1 (qa_bloop p x m i A C).2 H := by
  have hp := p.isLt
  intro m
  induction m with
  | zero =>
    intro i n A κ C t hi hn h g ht hx hnn hs
    obtain ⟨n, rfl⟩ : ∃ k, n = k + 1 := ⟨n - 1, by omega⟩
    rw [zIt_s, mE_X2_runBatch_B62]
    have e : qa_bloop p.val x 0 i A C = (A, C) := by rw [qa_bloop]
    simp -implicitDefEqProofs (disch := first | assumption | omega) only [zLet_eq, zCall_some, zCallu_some, q_cq, zBool_0, zBool_1, q_gn, q_gl, q_sn, q_sl, q_al, q_la, q_ml, q_lm, q_ue, q_un, q_mA, q_mK, q_uA, q_uK, q_g6, q_rm, q_dv, q_ltl, q_lel, q_llt, q_lle, q_eql, q_lt, q_le, q_eq, q_m1F, if_pos, if_neg, if_true, if_false, mE_X2_runBatch_155]
    rw [e]
    exact ⟨κ, rfl, h⟩
  | succ m ih =>
    intro i n A κ C t hi hn h g ht hx hnn hs
    obtain ⟨n, rfl⟩ : ∃ k, n = k + 1 := ⟨n - 1, by omega⟩
    rw [zIt_s, mE_X2_runBatch_B62, qa_bloop]
    simp -implicitDefEqProofs (disch := first | assumption | omega) only [zLet_eq, zCall_some, zCallu_some, q_cq, zBool_0, zBool_1, q_gn, q_gl, q_sn, q_sl, q_al, q_la, q_ml, q_lm, q_ue, q_un, q_mA, q_mK, q_uA, q_uK, q_g6, q_rm, q_dv, q_ltl, q_lel, q_llt, q_lle, q_eql, q_lt, q_le, q_eq, q_m1F, if_pos, if_neg, if_true, if_false, qc_may N h g]
    by_cases hm : qa_may A C (A (12 + p.val) 5 + A (12 + p.val) 2) = true
    · rw [if_pos hm, if_pos hm, if_neg (show ¬ ((1 : Int32) = 0) by decide)]
      obtain ⟨m1, m2, m3⟩ := qa_may_b hm
      have htb := GT_b g.1.1
      obtain ⟨c1, c2⟩ := clamp_toInt m1
      obtain ⟨b1, b2, b3, b4, b5, b6, b7⟩ := bstep_ok (i := i) g (by omega) hx hp hnn hs hm
      have tail : ∃ κ1, mE_X2_runBatch_110 N (zIt (mE_X2_runBatch_B62 N) (fun _ _ _ _ _ => none) n) (qmix (qa_to A p.val i) κ) p x (nI w) (nI i) = zIt (mE_X2_runBatch_B62 N) (fun _ _ _ _ _ => none) n (qmix (qa_bstep A C p x i).1 κ1) p x (nI w) (nI (i + 1)) ∧ Rp κ1 (qa_bstep A C p x i).1 (qa_bstep A C p x i).2 H := by
        rw [mE_X2_runBatch_110]
        have e5 : qa_to A p.val i (12 + p.val) 5 = nI (A (12 + p.val) 5 + A (12 + p.val) 2).toNatClampNeg := by
          unfold qa_to
          split
          · simp -implicitDefEqProofs (disch := first | assumption | omega) only [q_ue, q_un]
            exact c2
          · simp -implicitDefEqProofs (disch := first | assumption | omega) only [q_ue]
            exact c2
        simp -implicitDefEqProofs (disch := first | assumption | omega) only [zLet_eq, zCall_some, zCallu_some, q_cq, zBool_0, zBool_1, q_gn, q_gl, q_sn, q_sl, q_al, q_la, q_ml, q_lm, q_ue, q_un, q_mA, q_mK, q_uA, q_uK, q_g6, q_rm, q_dv, e5, qc_slotOf]
        have hR : Rp κ (qa_to A p.val i) C H := by
          unfold qa_to
          split <;> simp -implicitDefEqProofs (disch := first | assumption | omega) only [Rp_eq] <;> exact h
        unfold qa_bstep
        by_cases hc : C (A (12 + p.val) 5 + A (12 + p.val) 2).toNatClampNeg 0 = 1
        · rw [if_pos hc, if_neg (fun q => (slot_m1 h.2.1 (by omega)).mp q hc)]
          have e7 : qa_to A p.val i 2 7 = A 2 7 := by rw [qa_to_c (by omega)]
          refine ⟨κ, ?_, ?_⟩
          · simp -implicitDefEqProofs (disch := first | assumption | omega) only [zLet_eq, zCall_some, zCallu_some, q_cq, zBool_0, zBool_1, q_gn, q_gl, q_sn, q_sl, q_al, q_la, q_ml, q_lm, q_ue, q_un, q_mA, q_mK, q_uA, q_uK, q_g6, q_rm, q_dv, e7, mE_X2_runBatch_149]
          · simp -implicitDefEqProofs (disch := first | assumption | omega) only [Rp_eq]
            exact hR
        · rw [if_neg hc, if_pos ((slot_m1 h.2.1 (by omega)).mpr hc)]
          obtain ⟨κ1, f1, f2⟩ := qc_fetch N hN hR (Gd_to (i := i) g hp m1 m2) (by omega) x (XIN_ok hx) p (b := (A (12 + p.val) 5 + A (12 + p.val) 2).toNatClampNeg) (by omega) hc
          refine ⟨κ1, ?_, f2⟩
          rw [f1]
          simp -implicitDefEqProofs (disch := first | assumption | omega) only [zLet_eq, zCall_some, zCallu_some, q_cq, zBool_0, zBool_1, q_gn, q_gl, q_sn, q_sl, q_al, q_la, q_ml, q_lm, q_ue, q_un, q_mA, q_mK, q_uA, q_uK, q_g6, q_rm, q_dv, mE_X2_runBatch_149]
      obtain ⟨κ1, t1, t2⟩ := tail
      obtain ⟨κ2, i1, i2⟩ := ih (i + 1) (n := n) (κ := κ1) (by omega) (by omega) t2 b1 (by omega) b2 (by rw [b4 p.val 0 hp (by omega) (by omega) (by omega) (by omega) (by omega)]; exact hnn) (by rw [b4 p.val 2 hp (by omega) (by omega) (by omega) (by omega) (by omega)]; exact hs)
      refine ⟨κ2, ?_, i2⟩
      rw [← i1, ← t1]
      unfold qa_to
      by_cases hi0 : i = 0
      · subst hi0
        simp -implicitDefEqProofs (disch := first | assumption | omega) only [zLet_eq, zCall_some, zCallu_some, q_cq, zBool_0, zBool_1, q_gn, q_gl, q_sn, q_sl, q_al, q_la, q_ml, q_lm, q_ue, q_un, q_mA, q_mK, q_uA, q_uK, q_g6, q_rm, q_dv, q_ltl, q_lel, q_llt, q_lle, q_eql, q_lt, q_le, q_eq, q_m1F, if_pos, if_neg, if_true, if_false]
      · rw [if_neg hi0, if_neg hi0]
    · rw [if_neg hm, if_neg hm, if_pos rfl, mE_X2_runBatch_155]
      dsimp only
      exact ⟨κ, rfl, h⟩
theorem qc_batch (N : Nat) (hN : 64 < N) {A κ C H : ST} {t : Nat} (h : Rp κ A C H) (g : Gd A C t) (ht : t < 1073741000) (x : Int32) (hx : XIN C x) (p : Fin 6) (hnn : ¬ A (12 + p.val) 0 = -1) (hs : ¬ A (12 + p.val) 2 = 0) :
    ∃ κ', mE_X2_runBatch N (qmix A κ) p x = some (qmix (qa_batch A C p x).1 κ') ∧ Rp κ' (qa_batch A C p x).1 (qa_batch A C p x).2 H := by
  have hp := p.isLt
  have htb := GT_b g.1.1
  have hw := g.1.2.2.1 p.val hp hnn
  obtain ⟨c1, c2⟩ := clamp_toInt hw.2.2.2.2.2.2.2.2.1
  have hw2 := hw.2.2.2.2.2.2.2.2.2.1
  have hR : Rp κ (qa_bat0 A p.val) C H := by
    unfold qa_bat0
    simp -implicitDefEqProofs (disch := first | assumption | omega) only [Rp_eq]
    exact h
  rw [mE_X2_runBatch]
  simp -implicitDefEqProofs (disch := first | assumption | omega) only [zLet_eq, zCall_some, zCallu_some, q_cq, zBool_0, zBool_1, q_gn, q_gl, q_sn, q_sl, q_al, q_la, q_ml, q_lm, q_ue, q_un, q_mA, q_mK, q_uA, q_uK, q_g6, q_rm, q_dv]
  unfold qa_batch
  by_cases hh : A 2 6 * 100 ≤ A 1 5 * A 2 5
  · rw [if_pos hh, if_pos hh]
    have g0 : Gd (qa_bat0 A p.val) C t := by
      unfold qa_bat0
      exact Gd_A g (GA_o (GA_o g.1 (by omega)) (by omega)) (Nat.le_refl _) (by simp -implicitDefEqProofs (disch := first | assumption | omega) only [q_uc]) (by simp -implicitDefEqProofs (disch := first | assumption | omega) only [q_un]; omega) (fun q hq => ⟨by simp -implicitDefEqProofs (disch := first | assumption | omega) only [q_un], by simp -implicitDefEqProofs (disch := first | assumption | omega) only [q_un]⟩)
    have key := qc_bloop N hN p x (A (12 + p.val) 4).toNatClampNeg (by omega) (A (12 + p.val) 4).toNatClampNeg 0 (n := N) (κ := κ) (by omega) (by omega) hR g0 (by omega) hx (by unfold qa_bat0; simp -implicitDefEqProofs (disch := first | assumption | omega) only [q_un]; exact hnn) (by unfold qa_bat0; simp -implicitDefEqProofs (disch := first | assumption | omega) only [q_un]; exact hs)
    rw [← c2] at key
    exact key
  · rw [if_neg hh, if_neg hh]
    refine ⟨κ, rfl, ?_⟩
    simp -implicitDefEqProofs (disch := first | assumption | omega) only [Rp_eq]
    exact hR
