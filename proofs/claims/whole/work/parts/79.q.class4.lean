/-! THE CLASS: streams, windows, waste -/
theorem zDiv2 {β : Type} {x : Int32} {k : Int32 → Option β} : zDiv x 2 k = k (x / 2) := zDiv_ok (by decide)
theorem zDiv4 {β : Type} {x : Int32} {k : Int32 → Option β} : zDiv x 4 k = k (x / 4) := zDiv_ok (by decide)
def Rp (κ A C H : ST) : Prop := RKl κ A ∧ RKc κ C ∧ RKh κ H
theorem RKl_eq {κ A : ST} {c k : Nat} {v : Int32} (h : c ≠ 22) (h2 : c ≠ 23) : RKl κ (zUp A c k v) = RKl κ A := by
  unfold RKl
  rw [q_uc (show 22 ≠ c by omega), q_uc (show 23 ≠ c by omega)]
theorem RKl_k {κ κ' A : ST} (h : κ' 22 = κ 22) (h2 : κ' 23 = κ 23) (hr : RKl κ A) : RKl κ' A := by
  unfold RKl at *
  rw [h, h2]
  exact hr
theorem RKc_k {κ κ' C : ST} (h : ∀ c, 3 ≤ c → c ≤ 10 → κ' c = κ c) (hr : RKc κ C) : RKc κ' C := by
  unfold RKc RKs at *
  rw [h 3 (by decide) (by decide), h 4 (by decide) (by decide), h 5 (by decide) (by decide), h 6 (by decide) (by decide), h 7 (by decide) (by decide), h 8 (by decide) (by decide), h 9 (by decide) (by decide), h 10 (by decide) (by decide)]
  exact hr
theorem RKh_k {κ κ' H : ST} (h : ∀ c, 18 ≤ c → c ≤ 21 → κ' c = κ c) (hr : RKh κ H) : RKh κ' H := by
  unfold RKh at *
  rw [h 18 (by decide) (by decide), h 19 (by decide) (by decide), h 20 (by decide) (by decide), h 21 (by decide) (by decide)]
  exact hr
theorem Rp_c {κ κ' A C C' H : ST} (h : Rp κ A C H) (hc : RKc κ' C') (hk : ∀ c, c < 3 ∨ 10 < c → κ' c = κ c) : Rp κ' A C' H :=
  ⟨RKl_k (hk 22 (by omega)) (hk 23 (by omega)) h.1, hc, RKh_k (fun c _ _ => hk c (by omega)) h.2.2⟩
theorem Rp_h {κ κ' A C H H' : ST} (h : Rp κ A C H) (hc : RKh κ' H') (hk : ∀ c, c < 18 ∨ 21 < c → κ' c = κ c) : Rp κ' A C H' :=
  ⟨RKl_k (hk 22 (by omega)) (hk 23 (by omega)) h.1, RKc_k (fun c _ _ => hk c (by omega)) h.2.1, hc⟩
theorem Rp_l {κ κ' A A' C H : ST} (h : Rp κ A C H) (hc : RKl κ' A') (hk : ∀ c, c ≠ 22 → c ≠ 23 → κ' c = κ c) : Rp κ' A' C H :=
  ⟨hc, RKc_k (fun c _ _ => hk c (by omega) (by omega)) h.2.1, RKh_k (fun c _ _ => hk c (by omega) (by omega)) h.2.2⟩
theorem Rp_eq {κ A C H : ST} {c k : Nat} {v : Int32} (h : c ≠ 22) (h2 : c ≠ 23) : Rp κ (zUp A c k v) C H = Rp κ A C H := by
  unfold Rp
  rw [RKl_eq h h2]
theorem qa_log_c {A : ST} {r n a b : Int32} {c : Nat} (h : c ≠ 22) (h2 : c ≠ 23) : qa_log A r n a b c = A c := by
  unfold qa_log
  split
  · funext k
    show (if c = 23 then _ else _) = _
    rw [if_neg h2]
  · simp (disch := first | assumption | omega) only [q_uc]
theorem qa_first_some {P : Nat → Bool} : ∀ {m j p : Nat}, qa_first P m j = some p → j ≤ p ∧ p < j + m ∧ P p = true := by
  intro m
  induction m with
  | zero => intro j p h; exact absurd h (by simp [qa_first])
  | succ m ih =>
    intro j p h
    rw [qa_first] at h
    by_cases e : P j = true
    · rw [if_pos e] at h
      cases h
      exact ⟨Nat.le_refl _, by omega, e⟩
    · rw [if_neg e] at h
      obtain ⟨a, b, c⟩ := ih h
      exact ⟨by omega, by omega, c⟩
theorem qa_streamOf_lt {A : ST} {num : Int32} {p : Nat} (h : qa_streamOf A num = some p) : p < 6 ∧ A (12 + p) 0 = num ∧ ¬ num = -1 := by
  unfold qa_streamOf at h
  by_cases e : num = -1
  · rw [if_pos e] at h; exact absurd h (by simp)
  · rw [if_neg e] at h
    obtain ⟨a, b, c⟩ := qa_first_some h
    exact ⟨by omega, of_decide_eq_true c, e⟩
theorem qa_fin_some {p : Nat} (h : p < 6) : qa_fin (some p) = some ⟨p, h⟩ := dif_pos h
theorem qc_streamOf_loop (N : Nat) (A κ : ST) (num : Int32) (hn : ¬ num = -1) : ∀ m j : Nat, j ≤ 6 → 6 - j < m → zIt (mE_X2_streamOf_B2 N) (fun _ _ _ => none) m (qmix A κ) num (nI j) = some (qa_fin (qa_first (fun p => decide (A (12 + p) 0 = num)) (6 - j) j), qmix A κ) := by
  intro m
  induction m with
  | zero => intro j h1 h2; omega
  | succ m ih =>
    intro j hj hm
    rw [zIt_s, mE_X2_streamOf_B2]
    by_cases h : j = 6
    · subst h
      simp (disch := first | assumption | omega) only [zLet_eq, zCall_some, zCallu_some, q_cq, zBool_0, zBool_1, q_gn, q_gl, q_sn, q_sl, q_al, q_la, q_ml, q_lm, q_ue, q_un, q_mA, q_mK, q_uA, q_uK, q_g6, q_rm, q_dv, q_ltl, q_lel, q_llt, q_lle, q_eql, q_lt, q_le, q_eq, q_m1F, if_pos, if_neg, if_true, if_false, mE_X2_streamOf_39]
      rfl
    · rw [show 6 - j = (6 - (j + 1)) + 1 by omega, qa_first]
      by_cases e : A (12 + j) 0 = num
      · simp (disch := first | assumption | omega) only [zLet_eq, zCall_some, zCallu_some, q_cq, zBool_0, zBool_1, q_gn, q_gl, q_sn, q_sl, q_al, q_la, q_ml, q_lm, q_ue, q_un, q_mA, q_mK, q_uA, q_uK, q_g6, q_rm, q_dv, q_ltl, q_lel, q_llt, q_lle, q_eql, q_lt, q_le, q_eq, q_m1F, if_pos, if_neg, if_true, if_false, e, decide_true]
        rw [qa_fin_some (show j < 6 by omega)]
      · simp (disch := first | assumption | omega) only [zLet_eq, zCall_some, zCallu_some, q_cq, zBool_0, zBool_1, q_gn, q_gl, q_sn, q_sl, q_al, q_la, q_ml, q_lm, q_ue, q_un, q_mA, q_mK, q_uA, q_uK, q_g6, q_rm, q_dv, q_ltl, q_lel, q_llt, q_lle, q_eql, q_lt, q_le, q_eq, q_m1F, if_pos, if_neg, if_true, if_false, decide_eq_true_eq]
        exact ih (j + 1) (by omega) (by omega)
theorem qc_streamOf (N : Nat) (hN : 6 < N) (A κ : ST) (num : Int32) : mE_X2_streamOf N (qmix A κ) num = some (qa_fin (qa_streamOf A num), qmix A κ) := by
  unfold qa_streamOf
  by_cases e : num = -1
  · rw [if_pos e]
    obtain ⟨m, rfl⟩ : ∃ m, N = m + 1 := ⟨N - 1, by omega⟩
    show zIt (mE_X2_streamOf_B2 (m + 1)) (fun _ _ _ => none) (m + 1) (qmix A κ) num 0 = _
    rw [zIt_s, mE_X2_streamOf_B2, if_pos e]
    rfl
  · rw [if_neg e]
    show zIt (mE_X2_streamOf_B2 N) (fun _ _ _ => none) N (qmix A κ) num (nI 0) = _
    exact qc_streamOf_loop N A κ num e N 0 (by omega) (by omega)
theorem qc_change (N : Nat) {A κ C H : ST} (h : Rp κ A C H) (p : Fin 6) (w : Int32) : ∃ κ', mE_X2_changeWindow N (qmix A κ) p w = some (qmix (qa_change A p w) κ') ∧ Rp κ' (qa_change A p w) C H := by
  have hp := p.isLt
  rw [mE_X2_changeWindow]
  unfold qa_change qa_widen
  simp (disch := first | assumption | omega) only [zLet_eq, zCall_some, zCallu_some, q_cq, zBool_0, zBool_1, q_gn, q_gl, q_sn, q_sl, q_al, q_la, q_ml, q_lm, q_ue, q_un, q_mA, q_mK, q_uA, q_uK, q_g6, q_rm, q_dv]
  by_cases e : (if w < A 1 3 then w else A 1 3) = A (12 + p.val) 4
  · rw [if_pos e, if_pos e]
    exact ⟨κ, rfl, h⟩
  · rw [if_neg e, if_neg e]
    obtain ⟨κ', e1, e2, e3⟩ := qc_add N h.1 (A 2 0) (A (12 + p.val) 0) (A (12 + p.val) 4) (if w < A 1 3 then w else A 1 3)
    rw [e1]
    simp (disch := first | assumption | omega) only [zLet_eq, zCall_some, zCallu_some, q_cq, zBool_0, zBool_1, q_gn, q_gl, q_sn, q_sl, q_al, q_la, q_ml, q_lm, q_ue, q_un, q_mA, q_mK, q_uA, q_uK, q_g6, q_rm, q_dv, qa_log_c, mE_X2_changeWindow_64]
    refine ⟨κ', rfl, ?_⟩
    simp (disch := first | assumption | omega) only [Rp_eq]
    exact Rp_l h e2 e3
theorem qc_waste (N : Nat) (hN : 6 < N) {A κ C H : ST} (h : Rp κ A C H) (num : Int32) : ∃ κ', mE_X2_waste N (qmix A κ) num = some (qmix (qa_waste A num) κ') ∧ Rp κ' (qa_waste A num) C H := by
  rw [mE_X2_waste]
  have es : qa_streamOf (zUp A 2 6 (A 2 6 + 1)) num = qa_streamOf A num := by
    unfold qa_streamOf
    simp (disch := first | assumption | omega) only [q_un]
  simp (disch := first | assumption | omega) only [zLet_eq, zCall_some, zCallu_some, q_cq, zBool_0, zBool_1, q_gn, q_gl, q_sn, q_sl, q_al, q_la, q_ml, q_lm, q_ue, q_un, q_mA, q_mK, q_uA, q_uK, q_g6, q_rm, q_dv, qc_streamOf, es]
  unfold qa_waste
  cases hq : qa_streamOf A num with
  | none =>
    refine ⟨κ, rfl, ?_⟩
    simp (disch := first | assumption | omega) only [Rp_eq]
    exact h
  | some p =>
    obtain ⟨hp, -, -⟩ := qa_streamOf_lt hq
    rw [qa_fin_some hp]
    simp (disch := first | assumption | omega) only [zLet_eq, zCall_some, zCallu_some, q_cq, zBool_0, zBool_1, q_gn, q_gl, q_sn, q_sl, q_al, q_la, q_ml, q_lm, q_ue, q_un, q_mA, q_mK, q_uA, q_uK, q_g6, q_rm, q_dv, zDiv2, mE_X2_waste_46]
    obtain ⟨κ', e1, e2⟩ := qc_change N (A := zUp (zUp A 2 6 (A 2 6 + 1)) (12 + p) 10 (A (12 + p) 10 + 1)) (κ := κ) (C := C) (H := H) (by simp (disch := first | assumption | omega) only [Rp_eq]; exact h) ⟨p, hp⟩ (qa_half (A (12 + p) 4))
    refine ⟨κ', ?_, e2⟩
    unfold qa_half at e1
    rw [e1]
    rfl
/-! finding the stream of a read -/
theorem qc_streamAt (N : Nat) {A κ : ST} {p : Nat} (hp : p < 6) (h : ¬ A (12 + p) 0 = -1) : mE_X2_streamAt N (qmix A κ) (nI p) = some (some ⟨p, hp⟩, qmix A κ) := by
  rw [mE_X2_streamAt]
  simp (disch := first | assumption | omega) only [zLet_eq, zCall_some, zCallu_some, q_cq, zBool_0, zBool_1, q_gn, q_gl, q_sn, q_sl, q_al, q_la, q_ml, q_lm, q_ue, q_un, q_mA, q_mK, q_uA, q_uK, q_g6, q_rm, q_dv, q_ltl, q_lel, q_llt, q_lle, q_eql, q_lt, q_le, q_eq, q_m1F, if_pos, if_neg, if_true, if_false]
theorem qc_streamAt_no (N : Nat) {A κ : ST} {p : Nat} (hp : p < 6) (h : A (12 + p) 0 = -1) : mE_X2_streamAt N (qmix A κ) (nI p) = some (none, qmix A κ) := by
  rw [mE_X2_streamAt]
  simp (disch := first | assumption | omega) only [zLet_eq, zCall_some, zCallu_some, q_cq, zBool_0, zBool_1, q_gn, q_gl, q_sn, q_sl, q_al, q_la, q_ml, q_lm, q_ue, q_un, q_mA, q_mK, q_uA, q_uK, q_g6, q_rm, q_dv, q_ltl, q_lel, q_llt, q_lle, q_eql, q_lt, q_le, q_eq, q_m1F, if_pos, if_neg, if_true, if_false, mE_X2_streamAt_23]
theorem qc_streamAt_m1 (N : Nat) {σ : ST} : mE_X2_streamAt N σ (-1) = some (none, σ) := by
  rw [mE_X2_streamAt, if_pos (by decide)]
  rfl
theorem qa_eC_m1 {o : Option Nat} (h : ∀ p, o = some p → p < 6) : (qa_eC o = -1) ↔ o = none := by
  cases o with
  | none => exact ⟨fun _ => rfl, fun _ => rfl⟩
  | some p =>
    have := h p rfl
    exact ⟨fun q => absurd q (q_m1 (by omega)), fun q => by cases q⟩
theorem qc_stepping_loop (N : Nat) (A κ : ST) (x : Int32) : ∀ (m j : Nat) (f : Option Nat), j ≤ 6 → 6 - j < m → (∀ p, f = some p → p < 6) → zIt (mE_X2_steppingPlace_B4 N) (fun _ _ _ _ => none) m (qmix A κ) x (qa_eC f) (nI j) = some (qa_eC (qa_stepping A x (6 - j) j f), qmix A κ) := by
  intro m
  induction m with
  | zero => intro j f h1 h2; omega
  | succ m ih =>
    intro j f hj hm hf
    rw [zIt_s, mE_X2_steppingPlace_B4]
    by_cases h : j = 6
    · subst h
      simp (disch := first | assumption | omega) only [zLet_eq, zCall_some, zCallu_some, q_cq, zBool_0, zBool_1, q_gn, q_gl, q_sn, q_sl, q_al, q_la, q_ml, q_lm, q_ue, q_un, q_mA, q_mK, q_uA, q_uK, q_g6, q_rm, q_dv, q_ltl, q_lel, q_llt, q_lle, q_eql, q_lt, q_le, q_eq, q_m1F, if_pos, if_neg, if_true, if_false]
      rfl
    · rw [show 6 - j = (6 - (j + 1)) + 1 by omega, qa_stepping]
      by_cases e : A (12 + j) 0 = -1
      · rw [if_pos (Or.inl e)]
        simp (disch := first | assumption | omega) only [zLet_eq, zCall_some, zCallu_some, q_cq, zBool_0, zBool_1, q_gn, q_gl, q_sn, q_sl, q_al, q_la, q_ml, q_lm, q_ue, q_un, q_mA, q_mK, q_uA, q_uK, q_g6, q_rm, q_dv, q_ltl, q_lel, q_llt, q_lle, q_eql, q_lt, q_le, q_eq, q_m1F, if_pos, if_neg, if_true, if_false, mE_X2_steppingPlace_70]
        exact ih (j + 1) f (by omega) (by omega) hf
      · by_cases e2 : A (12 + j) 2 = 0
        · rw [if_pos (Or.inr (Or.inl e2))]
          simp (disch := first | assumption | omega) only [zLet_eq, zCall_some, zCallu_some, q_cq, zBool_0, zBool_1, q_gn, q_gl, q_sn, q_sl, q_al, q_la, q_ml, q_lm, q_ue, q_un, q_mA, q_mK, q_uA, q_uK, q_g6, q_rm, q_dv, q_ltl, q_lel, q_llt, q_lle, q_eql, q_lt, q_le, q_eq, q_m1F, if_pos, if_neg, if_true, if_false, mE_X2_steppingPlace_70]
          exact ih (j + 1) f (by omega) (by omega) hf
        · by_cases e3 : A (12 + j) 1 + A (12 + j) 2 = x
          · rw [if_neg (show ¬ (A (12 + j) 0 = -1 ∨ A (12 + j) 2 = 0 ∨ ¬ A (12 + j) 1 + A (12 + j) 2 = x) from fun q => by rcases q with q | q | q; exact e q; exact e2 q; exact q e3)]
            by_cases e4 : A (12 + j) 4 ≤ 0
            · simp (disch := first | assumption | omega) only [zLet_eq, zCall_some, zCallu_some, q_cq, zBool_0, zBool_1, q_gn, q_gl, q_sn, q_sl, q_al, q_la, q_ml, q_lm, q_ue, q_un, q_mA, q_mK, q_uA, q_uK, q_g6, q_rm, q_dv, q_ltl, q_lel, q_llt, q_lle, q_eql, q_lt, q_le, q_eq, q_m1F, if_pos, if_neg, if_true, if_false, mE_X2_steppingPlace_70]
              cases f with
              | none =>
                rw [if_pos (show qa_eC none = -1 from rfl), if_pos (show (none : Option Nat) = none from rfl)]
                exact ih (j + 1) (some j) (by omega) (by omega) (fun p q => by cases q; omega)
              | some p =>
                have := hf p rfl
                rw [if_neg (show ¬ qa_eC (some p) = -1 from q_m1 (by omega)), if_neg (show ¬ (some p = none) from fun q => by cases q)]
                exact ih (j + 1) (some p) (by omega) (by omega) hf
            · rw [if_neg e4]
              simp (disch := first | assumption | omega) only [zLet_eq, zCall_some, zCallu_some, q_cq, zBool_0, zBool_1, q_gn, q_gl, q_sn, q_sl, q_al, q_la, q_ml, q_lm, q_ue, q_un, q_mA, q_mK, q_uA, q_uK, q_g6, q_rm, q_dv, q_ltl, q_lel, q_llt, q_lle, q_eql, q_lt, q_le, q_eq, q_m1F, if_pos, if_neg, if_true, if_false]
              rfl
          · rw [if_pos (Or.inr (Or.inr e3))]
            simp (disch := first | assumption | omega) only [zLet_eq, zCall_some, zCallu_some, q_cq, zBool_0, zBool_1, q_gn, q_gl, q_sn, q_sl, q_al, q_la, q_ml, q_lm, q_ue, q_un, q_mA, q_mK, q_uA, q_uK, q_g6, q_rm, q_dv, q_ltl, q_lel, q_llt, q_lle, q_eql, q_lt, q_le, q_eq, q_m1F, if_pos, if_neg, if_true, if_false, mE_X2_steppingPlace_70]
            exact ih (j + 1) f (by omega) (by omega) hf
theorem qc_stepping (N : Nat) (hN : 6 < N) (A κ : ST) (x : Int32) : mE_X2_steppingPlace N (qmix A κ) x = some (qa_eC (qa_stepping A x 6 0 none), qmix A κ) :=
  qc_stepping_loop N A κ x N 0 none (by omega) (by omega) (fun p q => by cases q)
theorem qa_stepping_some {A : ST} {x : Int32} : ∀ {m j p : Nat} {f : Option Nat}, (∀ p, f = some p → p < 6 ∧ ¬ A (12 + p) 0 = -1 ∧ ¬ A (12 + p) 2 = 0 ∧ A (12 + p) 1 + A (12 + p) 2 = x) → j + m ≤ 6 → qa_stepping A x m j f = some p → p < 6 ∧ ¬ A (12 + p) 0 = -1 ∧ ¬ A (12 + p) 2 = 0 ∧ A (12 + p) 1 + A (12 + p) 2 = x := by
  intro m
  induction m with
  | zero => intro j p f hf _ h; exact hf p h
  | succ m ih =>
    intro j p f hf hj h
    rw [qa_stepping] at h
    by_cases e : A (12 + j) 0 = -1 ∨ A (12 + j) 2 = 0 ∨ ¬ A (12 + j) 1 + A (12 + j) 2 = x
    · rw [if_pos e] at h
      exact ih hf (by omega) h
    · rw [if_neg e] at h
      have hj2 : j < 6 ∧ ¬ A (12 + j) 0 = -1 ∧ ¬ A (12 + j) 2 = 0 ∧ A (12 + j) 1 + A (12 + j) 2 = x := ⟨by omega, fun q => e (Or.inl q), fun q => e (Or.inr (Or.inl q)), Classical.byContradiction (fun q => e (Or.inr (Or.inr q)))⟩
      by_cases e4 : A (12 + j) 4 ≤ 0
      · rw [if_pos e4] at h
        refine ih (f := if f = none then some j else f) (fun q hq => ?_) (by omega) h
        by_cases e5 : f = none
        · rw [if_pos e5] at hq
          cases hq
          exact hj2
        · rw [if_neg e5] at hq
          exact hf q hq
      · rw [if_neg e4] at h
        cases h
        exact hj2
theorem qc_lastAt_loop (N : Nat) (A κ : ST) (x : Int32) : ∀ (m j : Nat), j ≤ 6 → 6 - j < m → zIt (mE_X2_placeWithLast_B2 N) (fun _ _ _ => none) m (qmix A κ) x (nI j) = some (qa_eC (qa_first (fun p => decide (¬ A (12 + p) 0 = -1) && decide (A (12 + p) 1 = x)) (6 - j) j), qmix A κ) := by
  intro m
  induction m with
  | zero => intro j h1 h2; omega
  | succ m ih =>
    intro j hj hm
    rw [zIt_s, mE_X2_placeWithLast_B2]
    by_cases h : j = 6
    · subst h
      simp (disch := first | assumption | omega) only [zLet_eq, zCall_some, zCallu_some, q_cq, zBool_0, zBool_1, q_gn, q_gl, q_sn, q_sl, q_al, q_la, q_ml, q_lm, q_ue, q_un, q_mA, q_mK, q_uA, q_uK, q_g6, q_rm, q_dv, q_ltl, q_lel, q_llt, q_lle, q_eql, q_lt, q_le, q_eq, q_m1F, if_pos, if_neg, if_true, if_false]
      rfl
    · rw [show 6 - j = (6 - (j + 1)) + 1 by omega, qa_first]
      by_cases e : A (12 + j) 0 = -1
      · rw [if_neg (show ¬ (decide (¬ A (12 + j) 0 = -1) && decide (A (12 + j) 1 = x)) = true by simp [e])]
        simp (disch := first | assumption | omega) only [zLet_eq, zCall_some, zCallu_some, q_cq, zBool_0, zBool_1, q_gn, q_gl, q_sn, q_sl, q_al, q_la, q_ml, q_lm, q_ue, q_un, q_mA, q_mK, q_uA, q_uK, q_g6, q_rm, q_dv, q_ltl, q_lel, q_llt, q_lle, q_eql, q_lt, q_le, q_eq, q_m1F, if_pos, if_neg, if_true, if_false, mE_X2_placeWithLast_36]
        exact ih (j + 1) (by omega) (by omega)
      · by_cases e3 : A (12 + j) 1 = x
        · rw [if_pos (show (decide (¬ A (12 + j) 0 = -1) && decide (A (12 + j) 1 = x)) = true by simp [e, e3])]
          simp (disch := first | assumption | omega) only [zLet_eq, zCall_some, zCallu_some, q_cq, zBool_0, zBool_1, q_gn, q_gl, q_sn, q_sl, q_al, q_la, q_ml, q_lm, q_ue, q_un, q_mA, q_mK, q_uA, q_uK, q_g6, q_rm, q_dv, q_ltl, q_lel, q_llt, q_lle, q_eql, q_lt, q_le, q_eq, q_m1F, if_pos, if_neg, if_true, if_false]
          rfl
        · rw [if_neg (show ¬ (decide (¬ A (12 + j) 0 = -1) && decide (A (12 + j) 1 = x)) = true by simp [e3])]
          simp (disch := first | assumption | omega) only [zLet_eq, zCall_some, zCallu_some, q_cq, zBool_0, zBool_1, q_gn, q_gl, q_sn, q_sl, q_al, q_la, q_ml, q_lm, q_ue, q_un, q_mA, q_mK, q_uA, q_uK, q_g6, q_rm, q_dv, q_ltl, q_lel, q_llt, q_lle, q_eql, q_lt, q_le, q_eq, q_m1F, if_pos, if_neg, if_true, if_false, mE_X2_placeWithLast_36]
          exact ih (j + 1) (by omega) (by omega)
theorem qc_lastAt (N : Nat) (hN : 6 < N) (A κ : ST) (x : Int32) : mE_X2_placeWithLast N (qmix A κ) x = some (qa_eC (qa_lastAt A x), qmix A κ) :=
  qc_lastAt_loop N A κ x N 0 (by omega) (by omega)
theorem qc_pairing_loop (N : Nat) (A κ : ST) (x : Int32) : ∀ (m j : Nat) (f : Option Nat) (near : Int32), j ≤ 6 → 6 - j < m → zIt (mE_X2_pairingPlace_B14 N) (fun _ _ _ _ _ => none) m (qmix A κ) x (qa_eC f) near (nI j) = some (qa_eC (qa_pairing A x (6 - j) j f near), qmix A κ) := by
  intro m
  induction m with
  | zero => intro j f near h1 h2; omega
  | succ m ih =>
    intro j f near hj hm
    rw [zIt_s, mE_X2_pairingPlace_B14]
    by_cases h : j = 6
    · subst h
      simp (disch := first | assumption | omega) only [zLet_eq, zCall_some, zCallu_some, q_cq, zBool_0, zBool_1, q_gn, q_gl, q_sn, q_sl, q_al, q_la, q_ml, q_lm, q_ue, q_un, q_mA, q_mK, q_uA, q_uK, q_g6, q_rm, q_dv, q_ltl, q_lel, q_llt, q_lle, q_eql, q_lt, q_le, q_eq, q_m1F, if_pos, if_neg, if_true, if_false]
      rfl
    · rw [show 6 - j = (6 - (j + 1)) + 1 by omega, qa_pairing]
      by_cases e : A (12 + j) 0 = -1
      · rw [if_pos (Or.inl e)]
        simp (disch := first | assumption | omega) only [zLet_eq, zCall_some, zCallu_some, q_cq, zBool_0, zBool_1, q_gn, q_gl, q_sn, q_sl, q_al, q_la, q_ml, q_lm, q_ue, q_un, q_mA, q_mK, q_uA, q_uK, q_g6, q_rm, q_dv, q_ltl, q_lel, q_llt, q_lle, q_eql, q_lt, q_le, q_eq, q_m1F, if_pos, if_neg, if_true, if_false, mE_X2_pairingPlace_71]
        exact ih (j + 1) f near (by omega) (by omega)
      · by_cases e2 : A (12 + j) 2 = 0
        · by_cases e3 : near ≤ qa_far A x j
          · rw [if_pos (Or.inr (Or.inr e3))]
            unfold qa_far at e3
            simp (disch := first | assumption | omega) only [zLet_eq, zCall_some, zCallu_some, q_cq, zBool_0, zBool_1, q_gn, q_gl, q_sn, q_sl, q_al, q_la, q_ml, q_lm, q_ue, q_un, q_mA, q_mK, q_uA, q_uK, q_g6, q_rm, q_dv, q_ltl, q_lel, q_llt, q_lle, q_eql, q_lt, q_le, q_eq, q_m1F, if_pos, if_neg, if_true, if_false, mE_X2_pairingPlace_71]
            exact ih (j + 1) f near (by omega) (by omega)
          · rw [if_neg (show ¬ (A (12 + j) 0 = -1 ∨ ¬ A (12 + j) 2 = 0 ∨ near ≤ qa_far A x j) from fun q => by rcases q with q | q | q; exact e q; exact q e2; exact e3 q)]
            have e3' := e3
            unfold qa_far at e3
            simp (disch := first | assumption | omega) only [zLet_eq, zCall_some, zCallu_some, q_cq, zBool_0, zBool_1, q_gn, q_gl, q_sn, q_sl, q_al, q_la, q_ml, q_lm, q_ue, q_un, q_mA, q_mK, q_uA, q_uK, q_g6, q_rm, q_dv, q_ltl, q_lel, q_llt, q_lle, q_eql, q_lt, q_le, q_eq, q_m1F, if_pos, if_neg, if_true, if_false, mE_X2_pairingPlace_71]
            exact ih (j + 1) (some j) (qa_far A x j) (by omega) (by omega)
        · rw [if_pos (Or.inr (Or.inl e2))]
          simp (disch := first | assumption | omega) only [zLet_eq, zCall_some, zCallu_some, q_cq, zBool_0, zBool_1, q_gn, q_gl, q_sn, q_sl, q_al, q_la, q_ml, q_lm, q_ue, q_un, q_mA, q_mK, q_uA, q_uK, q_g6, q_rm, q_dv, q_ltl, q_lel, q_llt, q_lle, q_eql, q_lt, q_le, q_eq, q_m1F, if_pos, if_neg, if_true, if_false, mE_X2_pairingPlace_71]
          exact ih (j + 1) f near (by omega) (by omega)
theorem qc_pairing (N : Nat) (hN : 6 < N) (A κ : ST) (x : Int32) : mE_X2_pairingPlace N (qmix A κ) x = some (qa_eC (qa_pairing A x 6 0 none (A 1 4 + 1)), qmix A κ) := by
  rw [mE_X2_pairingPlace]
  simp (disch := first | assumption | omega) only [zLet_eq, zCall_some, zCallu_some, q_cq, zBool_0, zBool_1, q_gn, q_gl, q_sn, q_sl, q_al, q_la, q_ml, q_lm, q_ue, q_un, q_mA, q_mK, q_uA, q_uK, q_g6, q_rm, q_dv]
  exact qc_pairing_loop N A κ x N 0 none (A 1 4 + 1) (by omega) (by omega)
theorem qa_pairing_some {A : ST} {x : Int32} : ∀ {m j p : Nat} {f : Option Nat} {near : Int32}, (∀ p, f = some p → p < 6 ∧ ¬ A (12 + p) 0 = -1 ∧ A (12 + p) 2 = 0 ∧ ¬ (A 1 4 + 1) ≤ qa_far A x p) → near ≤ A 1 4 + 1 → j + m ≤ 6 → qa_pairing A x m j f near = some p → p < 6 ∧ ¬ A (12 + p) 0 = -1 ∧ A (12 + p) 2 = 0 ∧ ¬ (A 1 4 + 1) ≤ qa_far A x p := by
  intro m
  induction m with
  | zero => intro j p f near hf _ _ h; exact hf p h
  | succ m ih =>
    intro j p f near hf hn hj h
    rw [qa_pairing] at h
    by_cases e : A (12 + j) 0 = -1 ∨ ¬ A (12 + j) 2 = 0 ∨ near ≤ qa_far A x j
    · rw [if_pos e] at h
      exact ih hf hn (by omega) h
    · rw [if_neg e] at h
      have e3 : ¬ near ≤ qa_far A x j := fun q => e (Or.inr (Or.inr q))
      refine ih (fun q hq => ?_) ?_ (by omega) h
      · cases hq
        refine ⟨by omega, fun q => e (Or.inl q), Classical.byContradiction (fun q => e (Or.inr (Or.inl q))), ?_⟩
        rw [i_le] at *
        omega
      · rw [i_le] at *
        omega
theorem qc_open_loop (N : Nat) (A κ : ST) (t : Nat) (ht : t ≤ 6) (e6 : A 1 6 = nI t) : ∀ (m j f : Nat), j ≤ t → t - j < m → f < 6 → zIt (mE_X2_openPlace_B4 N) (fun _ _ _ => none) m (qmix A κ) (nI f) (nI j) = some (nI (qa_open A (t - j) j f), qmix A κ) := by
  intro m
  induction m with
  | zero => intro j f h1 h2; omega
  | succ m ih =>
    intro j f hj hm hf
    rw [zIt_s, mE_X2_openPlace_B4]
    by_cases h : j = t
    · subst h
      simp (disch := first | assumption | omega) only [zLet_eq, zCall_some, zCallu_some, q_cq, zBool_0, zBool_1, q_gn, q_gl, q_sn, q_sl, q_al, q_la, q_ml, q_lm, q_ue, q_un, q_mA, q_mK, q_uA, q_uK, q_g6, q_rm, q_dv, q_ltl, q_lel, q_llt, q_lle, q_eql, q_lt, q_le, q_eq, q_m1F, if_pos, if_neg, if_true, if_false, e6, mE_X2_openPlace_110, Nat.sub_self]
      rfl
    · rw [show t - j = (t - (j + 1)) + 1 by omega, qa_open]
      by_cases e : A (12 + j) 0 = -1
      · simp (disch := first | assumption | omega) only [zLet_eq, zCall_some, zCallu_some, q_cq, zBool_0, zBool_1, q_gn, q_gl, q_sn, q_sl, q_al, q_la, q_ml, q_lm, q_ue, q_un, q_mA, q_mK, q_uA, q_uK, q_g6, q_rm, q_dv, q_ltl, q_lel, q_llt, q_lle, q_eql, q_lt, q_le, q_eq, q_m1F, if_pos, if_neg, if_true, if_false, e6]
      · rw [if_neg e]
        have g1 := ih (j + 1) j (by omega) (by omega) (by omega)
        have g2 := ih (j + 1) f (by omega) (by omega) (by omega)
        by_cases e1 : A (12 + j) 4 ≤ 0
        · by_cases e2 : A (12 + f) 4 ≤ 0
          · by_cases e3 : A (12 + f) 7 ≤ A (12 + j) 7
            · rw [if_neg (show ¬ (if (A (12 + j) 4 ≤ 0 ↔ A (12 + f) 4 ≤ 0) then ¬ A (12 + f) 7 ≤ A (12 + j) 7 else ¬ A (12 + f) 4 ≤ 0) by rw [if_pos ⟨fun _ => e2, fun _ => e1⟩]; exact fun q => q e3)]
              simp (disch := first | assumption | omega) only [zLet_eq, zCall_some, zCallu_some, q_cq, zBool_0, zBool_1, q_gn, q_gl, q_sn, q_sl, q_al, q_la, q_ml, q_lm, q_ue, q_un, q_mA, q_mK, q_uA, q_uK, q_g6, q_rm, q_dv, q_ltl, q_lel, q_llt, q_lle, q_eql, q_lt, q_le, q_eq, q_m1F, if_pos, if_neg, if_true, if_false, e6, mE_X2_openPlace_50, mE_X2_openPlace_69, mE_X2_openPlace_104, mE_X2_openPlace_102]
              exact g2
            · rw [if_pos (show (if (A (12 + j) 4 ≤ 0 ↔ A (12 + f) 4 ≤ 0) then ¬ A (12 + f) 7 ≤ A (12 + j) 7 else ¬ A (12 + f) 4 ≤ 0) by rw [if_pos ⟨fun _ => e2, fun _ => e1⟩]; exact e3)]
              simp (disch := first | assumption | omega) only [zLet_eq, zCall_some, zCallu_some, q_cq, zBool_0, zBool_1, q_gn, q_gl, q_sn, q_sl, q_al, q_la, q_ml, q_lm, q_ue, q_un, q_mA, q_mK, q_uA, q_uK, q_g6, q_rm, q_dv, q_ltl, q_lel, q_llt, q_lle, q_eql, q_lt, q_le, q_eq, q_m1F, if_pos, if_neg, if_true, if_false, e6, mE_X2_openPlace_50, mE_X2_openPlace_69, mE_X2_openPlace_104, mE_X2_openPlace_102]
              exact g1
          · rw [if_pos (show (if (A (12 + j) 4 ≤ 0 ↔ A (12 + f) 4 ≤ 0) then ¬ A (12 + f) 7 ≤ A (12 + j) 7 else ¬ A (12 + f) 4 ≤ 0) by rw [if_neg (fun q => e2 (q.mp e1))]; exact e2)]
            simp (disch := first | assumption | omega) only [zLet_eq, zCall_some, zCallu_some, q_cq, zBool_0, zBool_1, q_gn, q_gl, q_sn, q_sl, q_al, q_la, q_ml, q_lm, q_ue, q_un, q_mA, q_mK, q_uA, q_uK, q_g6, q_rm, q_dv, q_ltl, q_lel, q_llt, q_lle, q_eql, q_lt, q_le, q_eq, q_m1F, if_pos, if_neg, if_true, if_false, e6, mE_X2_openPlace_50, mE_X2_openPlace_69, mE_X2_openPlace_104, mE_X2_openPlace_102, show ¬ ((0 : Int32) = 1) by decide, show ¬ ((1 : Int32) = 0) by decide]
            exact g1
        · by_cases e2 : A (12 + f) 4 ≤ 0
          · rw [if_neg (show ¬ (if (A (12 + j) 4 ≤ 0 ↔ A (12 + f) 4 ≤ 0) then ¬ A (12 + f) 7 ≤ A (12 + j) 7 else ¬ A (12 + f) 4 ≤ 0) by rw [if_neg (fun q => e1 (q.mpr e2))]; exact fun q => q e2)]
            simp (disch := first | assumption | omega) only [zLet_eq, zCall_some, zCallu_some, q_cq, zBool_0, zBool_1, q_gn, q_gl, q_sn, q_sl, q_al, q_la, q_ml, q_lm, q_ue, q_un, q_mA, q_mK, q_uA, q_uK, q_g6, q_rm, q_dv, q_ltl, q_lel, q_llt, q_lle, q_eql, q_lt, q_le, q_eq, q_m1F, if_pos, if_neg, if_true, if_false, e6, mE_X2_openPlace_50, mE_X2_openPlace_69, mE_X2_openPlace_104, mE_X2_openPlace_102, show ¬ ((0 : Int32) = 1) by decide, show ¬ ((1 : Int32) = 0) by decide]
            exact g2
          · by_cases e3 : A (12 + f) 7 ≤ A (12 + j) 7
            · rw [if_neg (show ¬ (if (A (12 + j) 4 ≤ 0 ↔ A (12 + f) 4 ≤ 0) then ¬ A (12 + f) 7 ≤ A (12 + j) 7 else ¬ A (12 + f) 4 ≤ 0) by rw [if_pos ⟨fun q => absurd q e1, fun q => absurd q e2⟩]; exact fun q => q e3)]
              simp (disch := first | assumption | omega) only [zLet_eq, zCall_some, zCallu_some, q_cq, zBool_0, zBool_1, q_gn, q_gl, q_sn, q_sl, q_al, q_la, q_ml, q_lm, q_ue, q_un, q_mA, q_mK, q_uA, q_uK, q_g6, q_rm, q_dv, q_ltl, q_lel, q_llt, q_lle, q_eql, q_lt, q_le, q_eq, q_m1F, if_pos, if_neg, if_true, if_false, e6, mE_X2_openPlace_50, mE_X2_openPlace_69, mE_X2_openPlace_104, mE_X2_openPlace_102]
              exact g2
            · rw [if_pos (show (if (A (12 + j) 4 ≤ 0 ↔ A (12 + f) 4 ≤ 0) then ¬ A (12 + f) 7 ≤ A (12 + j) 7 else ¬ A (12 + f) 4 ≤ 0) by rw [if_pos ⟨fun q => absurd q e1, fun q => absurd q e2⟩]; exact e3)]
              simp (disch := first | assumption | omega) only [zLet_eq, zCall_some, zCallu_some, q_cq, zBool_0, zBool_1, q_gn, q_gl, q_sn, q_sl, q_al, q_la, q_ml, q_lm, q_ue, q_un, q_mA, q_mK, q_uA, q_uK, q_g6, q_rm, q_dv, q_ltl, q_lel, q_llt, q_lle, q_eql, q_lt, q_le, q_eq, q_m1F, if_pos, if_neg, if_true, if_false, e6, mE_X2_openPlace_50, mE_X2_openPlace_69, mE_X2_openPlace_104, mE_X2_openPlace_102]
              exact g1
theorem qc_open (N : Nat) (hN : 6 < N) (A κ : ST) (t : Nat) (ht : t ≤ 6) (e6 : A 1 6 = nI t) : mE_X2_openPlace N (qmix A κ) = some (nI (qa_open A t 0 0), qmix A κ) :=
  qc_open_loop N A κ t ht e6 N 0 0 (by omega) (by omega) (by omega)
theorem qa_open_lt {A : ST} : ∀ {m j f : Nat}, j + m ≤ 6 → f < 6 → qa_open A m j f < 6 := by
  intro m
  induction m with
  | zero => intro j f _ h; exact h
  | succ m ih =>
    intro j f hj hf
    rw [qa_open]
    by_cases e : A (12 + j) 0 = -1
    · rw [if_pos e]; omega
    · rw [if_neg e]
      by_cases e2 : (if (A (12 + j) 4 ≤ 0 ↔ A (12 + f) 4 ≤ 0) then ¬ A (12 + f) 7 ≤ A (12 + j) 7 else ¬ A (12 + f) 4 ≤ 0)
      · rw [if_pos e2]
        exact ih (j := j + 1) (by omega) (by omega)
      · rw [if_neg e2]
        exact ih (j := j + 1) (by omega) hf
