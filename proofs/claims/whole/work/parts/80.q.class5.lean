/-! THE CLASS: the stream of a read, batches -/
theorem qc_begin (N : Nat) {A κ : ST} {p : Nat} (hp : p < 6) (x : Int32) : mE_X2_settle N (qmix A κ) (nI p) x = some (qmix (qa_begin A p x) κ) := by
  rw [mE_X2_settle]
  have e : mE_X4_begin N (qmix A κ) ⟨p, hp⟩ (A 2 14) x = some (qmix (fun c k => if c = 12 + p then (if k = 0 then A 2 14 else if k = 1 then x else if k = 5 then x else if k = 6 then -1 else if k < 11 then 0 else A c k) else A c k) κ) := by
    rw [mE_X4_begin]
    simp (disch := first | assumption | omega) only [zLet_eq, zCall_some, zCallu_some, q_cq, zBool_0, zBool_1, q_gn, q_gl, q_sn, q_sl, q_al, q_la, q_ml, q_lm, q_ue, q_un, q_mA, q_mK, q_uA, q_uK, q_g6, q_rm, q_dv]
    congr 2
    funext c k
    simp only [q_get]
    by_cases hc : c = 12 + p
    · rw [if_pos hc]
      by_cases hk : k < 11
      · rcases (show k = 0 ∨ k = 1 ∨ k = 2 ∨ k = 3 ∨ k = 4 ∨ k = 5 ∨ k = 6 ∨ k = 7 ∨ k = 8 ∨ k = 9 ∨ k = 10 by omega) with rfl | rfl | rfl | rfl | rfl | rfl | rfl | rfl | rfl | rfl | rfl <;> simp [hc]
      · simp (disch := first | assumption | omega) only [q_ltl, q_lel, q_llt, q_lle, q_eql, q_lt, q_le, q_eq, q_m1F, if_pos, if_neg, if_true, if_false]
    · simp (disch := first | assumption | omega) only [q_ltl, q_lel, q_llt, q_lle, q_eql, q_lt, q_le, q_eq, q_m1F, if_pos, if_neg, if_true, if_false]
  simp (disch := first | assumption | omega) only [zLet_eq, zCall_some, zCallu_some, q_cq, zBool_0, zBool_1, q_gn, q_gl, q_sn, q_sl, q_al, q_la, q_ml, q_lm, q_ue, q_un, q_mA, q_mK, q_uA, q_uK, q_g6, q_rm, q_dv, q_ltl, q_lel, q_llt, q_lle, q_eql, q_lt, q_le, q_eq, q_m1F, if_pos, if_neg, if_true, if_false]
  rw [e]
  simp (disch := first | assumption | omega) only [zLet_eq, zCall_some, zCallu_some, q_cq, zBool_0, zBool_1, q_gn, q_gl, q_sn, q_sl, q_al, q_la, q_ml, q_lm, q_ue, q_un, q_mA, q_mK, q_uA, q_uK, q_g6, q_rm, q_dv, q_ltl, q_lel, q_llt, q_lle, q_eql, q_lt, q_le, q_eq, q_m1F, if_pos, if_neg, if_true, if_false, mE_X2_settle_38]
  congr 2
  funext c k
  rw [q_get]
  unfold qa_begin
  by_cases hc : c = 12 + p
  · simp (disch := first | assumption | omega) only [q_ltl, q_lel, q_llt, q_lle, q_eql, q_lt, q_le, q_eq, q_m1F, if_pos, if_neg, if_true, if_false]
  · by_cases hd : c = 2 ∧ k = 14
    · rw [if_pos hd, if_neg hc, if_pos hd]
    · rw [if_neg hd, if_neg hc, if_neg hc, if_neg hd]
theorem qa_stepping_up {A : ST} {v x : Int32} : ∀ {m j : Nat} {f : Option Nat}, qa_stepping (zUp A 0 9 v) x m j f = qa_stepping A x m j f := by
  intro m
  induction m with
  | zero => intro j f; rfl
  | succ m ih =>
    intro j f
    rw [qa_stepping, qa_stepping]
    simp (disch := first | assumption | omega) only [q_un, ih]
theorem qa_pairing_up {A : ST} {v x : Int32} : ∀ {m j : Nat} {f : Option Nat} {near : Int32}, qa_pairing (zUp A 0 9 v) x m j f near = qa_pairing A x m j f near := by
  intro m
  induction m with
  | zero => intro j f near; rfl
  | succ m ih =>
    intro j f near
    rw [qa_pairing, qa_pairing]
    unfold qa_far
    simp (disch := first | assumption | omega) only [q_un, ih]
theorem qa_open_up {A : ST} {v : Int32} : ∀ {m j f : Nat}, qa_open (zUp A 0 9 v) m j f = qa_open A m j f := by
  intro m
  induction m with
  | zero => intro j f; rfl
  | succ m ih =>
    intro j f
    rw [qa_open, qa_open]
    simp (disch := first | assumption | omega) only [q_un, ih]
theorem qa_lastAt_up {A : ST} {v x : Int32} : qa_lastAt (zUp A 0 9 v) x = qa_lastAt A x := by
  unfold qa_lastAt
  simp (disch := first | assumption | omega) only [q_un]
theorem qc_find (N : Nat) (hN : 6 < N) (A κ : ST) (x : Int32) (t : Nat) (ht : t ≤ 6) (e6 : A 1 6 = nI t) : mE_X2_findStream N (qmix A κ) x = some ((qa_find A x).1, qmix (qa_find A x).2.2 κ) := by
  rw [mE_X2_findStream, qc_stepping N hN]
  simp (disch := first | assumption | omega) only [zLet_eq, zCall_some, zCallu_some, q_cq, zBool_0, zBool_1, q_gn, q_gl, q_sn, q_sl, q_al, q_la, q_ml, q_lm, q_ue, q_un, q_mA, q_mK, q_uA, q_uK, q_g6, q_rm, q_dv]
  unfold qa_find
  cases h1 : qa_stepping A x 6 0 none with
  | some p =>
    obtain ⟨hp, g1, g2, g3⟩ := qa_stepping_some (f := none) (fun p q => by cases q) (by omega) h1
    rw [show qa_eC (some p) = nI p from rfl, qc_streamAt N hp (by simp (disch := first | assumption | omega) only [q_un]; exact g1)]
    simp (disch := first | assumption | omega) only [zLet_eq, zCall_some, zCallu_some, q_cq, zBool_0, zBool_1, q_gn, q_gl, q_sn, q_sl, q_al, q_la, q_ml, q_lm, q_ue, q_un, q_mA, q_mK, q_uA, q_uK, q_g6, q_rm, q_dv, mE_X4_step, qa_stepA]
  | none =>
    rw [show qa_eC none = (-1 : Int32) from rfl, qc_streamAt_m1]
    simp (disch := first | assumption | omega) only [zLet_eq, zCall_some, zCallu_some, q_cq, zBool_0, zBool_1, q_gn, q_gl, q_sn, q_sl, q_al, q_la, q_ml, q_lm, q_ue, q_un, q_mA, q_mK, q_uA, q_uK, q_g6, q_rm, q_dv, qc_lastAt, q_upp, qa_lastAt_up]
    cases h2 : qa_lastAt A x with
    | some p =>
      obtain ⟨-, hp, -⟩ := qa_first_some h2
      rw [show qa_eC (some p) = nI p from rfl, if_neg (q_m1 (by omega))]
    | none =>
      rw [show qa_eC none = (-1 : Int32) from rfl, if_pos rfl]
      simp (disch := first | assumption | omega) only [zLet_eq, zCall_some, zCallu_some, q_cq, zBool_0, zBool_1, q_gn, q_gl, q_sn, q_sl, q_al, q_la, q_ml, q_lm, q_ue, q_un, q_mA, q_mK, q_uA, q_uK, q_g6, q_rm, q_dv, qc_pairing, q_upp, qa_pairing_up]
      cases h3 : qa_pairing A x 6 0 none (A 1 4 + 1) with
      | some p =>
        obtain ⟨hp, g1, g2, -⟩ := qa_pairing_some (f := none) (fun p q => by cases q) (by rw [i_le]; omega) (by omega) h3
        rw [show qa_eC (some p) = nI p from rfl, qc_streamAt N hp (by simp (disch := first | assumption | omega) only [q_un]; exact g1)]
        simp (disch := first | assumption | omega) only [zLet_eq, zCall_some, zCallu_some, q_cq, zBool_0, zBool_1, q_gn, q_gl, q_sn, q_sl, q_al, q_la, q_ml, q_lm, q_ue, q_un, q_mA, q_mK, q_uA, q_uK, q_g6, q_rm, q_dv, mE_X4_pair, qa_pairA]
      | none =>
        rw [show qa_eC none = (-1 : Int32) from rfl, qc_streamAt_m1]
        have e6' : (zUp A 0 9 (-1)) 1 6 = nI t := by simp (disch := first | assumption | omega) only [q_un]; exact e6
        have et : (A 1 6).toNatClampNeg = t := by rw [e6]; exact nI_clamp (by omega)
        have ho : qa_open A t 0 0 < 6 := qa_open_lt (by omega) (by omega)
        simp (disch := first | assumption | omega) only [zLet_eq, zCall_some, zCallu_some, q_cq, zBool_0, zBool_1, q_gn, q_gl, q_sn, q_sl, q_al, q_la, q_ml, q_lm, q_ue, q_un, q_mA, q_mK, q_uA, q_uK, q_g6, q_rm, q_dv, qc_open N hN (zUp A 0 9 (-1)) κ t ht e6', q_upp, qa_open_up, qc_begin, et]
theorem qc_beyond (N : Nat) {A κ : ST} (p : Fin 6) (x : Int32) : mE_X4_edgeIsBeyond N (qmix A κ) p x = some (if qa_beyond A p x = true then 1 else 0, qmix A κ) := by
  have hp := p.isLt
  rw [mE_X4_edgeIsBeyond]
  unfold qa_beyond
  simp (disch := first | assumption | omega) only [zLet_eq, zCall_some, zCallu_some, q_cq, zBool_0, zBool_1, q_gn, q_gl, q_sn, q_sl, q_al, q_la, q_ml, q_lm, q_ue, q_un, q_mA, q_mK, q_uA, q_uK, q_g6, q_rm, q_dv, mE_X4_edgeIsBeyond_36]
  by_cases h : 0 ≤ A (12 + p.val) 2
  · rw [if_pos h, if_pos h]
    by_cases h2 : A (12 + p.val) 5 ≤ x
    · simp [h2]
    · simp [h2]
  · rw [if_neg h, if_neg h]
    by_cases h2 : x ≤ A (12 + p.val) 5
    · simp [h2]
    · simp [h2]
theorem qa_widen_c {A : ST} {p c : Nat} {w : Int32} (h : c ≠ 22) (h2 : c ≠ 23) (h3 : c ≠ 2) (h4 : c ≠ 12 + p) : qa_widen A p w c = A c := by
  unfold qa_widen
  split
  · rfl
  · simp (disch := first | assumption | omega) only [q_uc, qa_log_c]
theorem qa_widen_p {A : ST} {p k : Nat} {w : Int32} (hp : p < 6) (h : k ≠ 4) : qa_widen A p w (12 + p) k = A (12 + p) k := by
  unfold qa_widen
  split
  · rfl
  · simp (disch := first | assumption | omega) only [q_un, qa_log_c]
theorem qc_ask (N : Nat) {A κ C H : ST} (h : Rp κ A C H) (p : Fin 6) : ∃ κ', mE_X2_asksForBatch N (qmix A κ) p = some (if (qa_ask A p).1 = true then 1 else 0, qmix (qa_ask A p).2 κ') ∧ Rp κ' (qa_ask A p).2 C H := by
  have hp := p.isLt
  rw [mE_X2_asksForBatch]
  unfold qa_ask
  simp (disch := first | assumption | omega) only [zLet_eq, zCall_some, zCallu_some, q_cq, zBool_0, zBool_1, q_gn, q_gl, q_sn, q_sl, q_al, q_la, q_ml, q_lm, q_ue, q_un, q_mA, q_mK, q_uA, q_uK, q_g6, q_rm, q_dv]
  by_cases h1 : A (12 + p.val) 4 = 0
  · rw [if_pos h1, if_pos h1]
    by_cases h2 : A 1 1 ≤ A (12 + p.val) 3
    · rw [if_pos h2, if_pos h2]
      obtain ⟨κ', e1, e2⟩ := qc_change N h p (A 1 2)
      rw [e1]
      have e3 : qa_change A p (A 1 2) (12 + p.val) 1 = A (12 + p.val) 1 := qa_widen_p hp (by decide)
      simp (disch := first | assumption | omega) only [zLet_eq, zCall_some, zCallu_some, q_cq, zBool_0, zBool_1, q_gn, q_gl, q_sn, q_sl, q_al, q_la, q_ml, q_lm, q_ue, q_un, q_mA, q_mK, q_uA, q_uK, q_g6, q_rm, q_dv, e3, if_true]
      refine ⟨κ', rfl, ?_⟩
      simp (disch := first | assumption | omega) only [Rp_eq]
      exact e2
    · rw [if_neg h2, if_neg h2]
      exact ⟨κ, by simp, h⟩
  · rw [if_neg h1, if_neg h1]
    by_cases h2 : A (12 + p.val) 1 = A (12 + p.val) 6
    · rw [if_pos h2, if_pos h2]
      obtain ⟨κ', e1, e2⟩ := qc_change N h p (2 * A (12 + p.val) 4)
      rw [e1]
      simp (disch := first | assumption | omega) only [zLet_eq, zCall_some, zCallu_some, q_cq, zBool_0, zBool_1, q_gn, q_gl, q_sn, q_sl, q_al, q_la, q_ml, q_lm, q_ue, q_un, q_mA, q_mK, q_uA, q_uK, q_g6, q_rm, q_dv, if_true]
      exact ⟨κ', rfl, e2⟩
    · rw [if_neg h2, if_neg h2, qc_beyond]
      simp (disch := first | assumption | omega) only [zLet_eq, zCall_some, zCallu_some, q_cq, zBool_0, zBool_1, q_gn, q_gl, q_sn, q_sl, q_al, q_la, q_ml, q_lm, q_ue, q_un, q_mA, q_mK, q_uA, q_uK, q_g6, q_rm, q_dv]
      by_cases h3 : qa_beyond A p (A (12 + p.val) 1) = true
      · rw [if_pos h3, if_pos h3, if_neg (show ¬ ((1 : Int32) = 0) by decide)]
        exact ⟨κ, by simp, h⟩
      · rw [if_neg h3, if_neg h3, if_pos rfl]
        refine ⟨κ, by simp, ?_⟩
        simp (disch := first | assumption | omega) only [Rp_eq]
        exact h
