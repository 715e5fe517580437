/-! THE CLASS AGAINST THE ABSTRACT PLANNER: log, trace, cache -/
theorem q_rm {β : Type} {a d : Nat} {k : Int32 → Option β} (ha : a < 2 ^ 31) (h0 : 0 < (OfNat.ofNat d : Nat)) (hd : (OfNat.ofNat d : Nat) < 2 ^ 31) : zRem (nI a) (no_index (OfNat.ofNat d)) k = k (nI (a % (OfNat.ofNat d : Nat))) := by
  have e : ¬ (nI d = 0) := nI_ne0 h0 hd
  show zRem (nI a) (nI d) k = _
  rw [zRem_ok e]
  exact congrArg k (pk_rem ha h0 hd)
theorem q_dv {β : Type} {a d : Nat} {k : Int32 → Option β} (ha : a < 2 ^ 31) (h0 : 0 < (OfNat.ofNat d : Nat)) (hd : (OfNat.ofNat d : Nat) < 2 ^ 31) : zDiv (nI a) (no_index (OfNat.ofNat d)) k = k (nI (a / (OfNat.ofNat d : Nat))) := by
  have e : ¬ (nI d = 0) := nI_ne0 h0 hd
  show zDiv (nI a) (nI d) k = _
  rw [zDiv_ok e]
  exact congrArg k (pk_div ha h0 hd)
def RKl (κ A : ST) : Prop := ∃ nx l : Nat, nx < 40 ∧ l ≤ 40 ∧ κ 22 1 = nI nx ∧ κ 22 2 = nI l ∧ A 22 2 = nI l ∧ ∀ i w, i < l → w < 4 → A 23 (4 * i + w) = κ 23 (4 * ((nx + 40 - l + i) % 40) + w)
theorem qmix_log {A κ : ST} {r n a b : Int32} : qmix (qa_log A r n a b) κ = qmix A κ := by
  funext c
  unfold qmix
  by_cases h : c ≤ 2 ∨ (11 ≤ c ∧ c ≤ 17) ∨ (24 ≤ c ∧ c ≤ 26)
  · rw [if_pos h, if_pos h]
    unfold qa_log
    split
    · funext k
      show (if c = 23 then _ else _) = _
      rw [if_neg (by omega)]
    · funext k
      simp (disch := first | assumption | omega) only [q_un]
  · rw [if_neg h, if_neg h]
theorem qc_add (N : Nat) {A κ : ST} (h : RKl κ A) (r n a b : Int32) : ∃ κ', mE_X6_add N (qmix A κ) r n a b = some (qmix (qa_log A r n a b) κ') ∧ RKl κ' (qa_log A r n a b) ∧ ∀ c, c ≠ 22 → c ≠ 23 → κ' c = κ c := by
  obtain ⟨nx, l, h1, h2, e1, e2, e3, h3⟩ := h
  rw [mE_X6_add]
  by_cases hl : l = 40
  · subst hl
    simp (disch := first | assumption | omega) only [zLet_eq, zCall_some, zCallu_some, q_cq, zBool_0, zBool_1, q_gn, q_gl, q_sn, q_sl, q_al, q_la, q_ml, q_lm, q_ue, q_un, q_mA, q_mK, q_uA, q_uK, q_g6, q_rm, q_dv, q_ltl, q_lel, q_llt, q_lle, q_eql, q_lt, q_le, q_eq, q_m1F, if_pos, if_neg, if_true, if_false, e1, e2, mE_X6_add_97, qmix_log]
    refine ⟨_, rfl, ⟨(nx + 1) % 40, 40, by omega, by omega, ?_, ?_, ?_, ?_⟩, ?_⟩
    · simp (disch := first | assumption | omega) only [q_ue, q_un]
    · simp (disch := first | assumption | omega) only [q_ue, q_un, e2]
    · unfold qa_log
      rw [if_pos (show A 22 2 = 40 from e3)]
      exact e3
    · intro i w hi hw
      unfold qa_log
      rw [if_pos (show A 22 2 = 40 from e3)]
      show (if (23 : Nat) = 23 then _ else _) = _
      rw [if_pos rfl]
      by_cases hi2 : i = 39
      · subst hi2
        rcases (show w = 0 ∨ w = 1 ∨ w = 2 ∨ w = 3 by omega) with rfl | rfl | rfl | rfl
        · simp (disch := first | assumption | omega) only [q_ue, q_un, q_ltl, q_lel, q_llt, q_lle, q_eql, q_lt, q_le, q_eq, q_m1F, if_pos, if_neg, if_true, if_false]
        · simp (disch := first | assumption | omega) only [q_ue, q_un, q_ltl, q_lel, q_llt, q_lle, q_eql, q_lt, q_le, q_eq, q_m1F, if_pos, if_neg, if_true, if_false]
        · simp (disch := first | assumption | omega) only [q_ue, q_un, q_ltl, q_lel, q_llt, q_lle, q_eql, q_lt, q_le, q_eq, q_m1F, if_pos, if_neg, if_true, if_false]
        · simp (disch := first | assumption | omega) only [q_ue, q_un, q_ltl, q_lel, q_llt, q_lle, q_eql, q_lt, q_le, q_eq, q_m1F, if_pos, if_neg, if_true, if_false]
      · rw [if_pos (by omega), show 4 * i + w + 4 = 4 * (i + 1) + w by omega, h3 (i + 1) w (by omega) hw]
        simp (disch := first | assumption | omega) only [q_un]
        congr 1
        omega
    · intro c hc hd
      simp (disch := first | assumption | omega) only [q_uc]
  · simp (disch := first | assumption | omega) only [zLet_eq, zCall_some, zCallu_some, q_cq, zBool_0, zBool_1, q_gn, q_gl, q_sn, q_sl, q_al, q_la, q_ml, q_lm, q_ue, q_un, q_mA, q_mK, q_uA, q_uK, q_g6, q_rm, q_dv, q_ltl, q_lel, q_llt, q_lle, q_eql, q_lt, q_le, q_eq, q_m1F, if_pos, if_neg, if_true, if_false, e1, e2, mE_X6_add_97, qmix_log]
    have e4 : ¬ A 22 2 = 40 := fun q => by
      rw [e3] at q
      simp (disch := first | assumption | omega) only [q_eql] at q
      omega
    have e5 : (A 22 2).toNatClampNeg = l := by rw [e3]; exact nI_clamp (by omega)
    refine ⟨_, rfl, ⟨(nx + 1) % 40, l + 1, by omega, by omega, ?_, ?_, ?_, ?_⟩, ?_⟩
    · simp (disch := first | assumption | omega) only [q_ue, q_un]
    · simp (disch := first | assumption | omega) only [q_ue, q_un, e2]
    · unfold qa_log
      rw [if_neg e4]
      simp (disch := first | assumption | omega) only [q_ue, e3, q_al]
    · intro i w hi hw
      unfold qa_log
      rw [if_neg e4]
      simp (disch := first | assumption | omega) only [q_un, e5]
      by_cases hi2 : i = l
      · subst hi2
        rcases (show w = 0 ∨ w = 1 ∨ w = 2 ∨ w = 3 by omega) with rfl | rfl | rfl | rfl
        · simp (disch := first | assumption | omega) only [q_ue, q_un, q_ltl, q_lel, q_llt, q_lle, q_eql, q_lt, q_le, q_eq, q_m1F, if_pos, if_neg, if_true, if_false]
        · simp (disch := first | assumption | omega) only [q_ue, q_un, q_ltl, q_lel, q_llt, q_lle, q_eql, q_lt, q_le, q_eq, q_m1F, if_pos, if_neg, if_true, if_false]
        · simp (disch := first | assumption | omega) only [q_ue, q_un, q_ltl, q_lel, q_llt, q_lle, q_eql, q_lt, q_le, q_eq, q_m1F, if_pos, if_neg, if_true, if_false]
        · simp (disch := first | assumption | omega) only [q_ue, q_un, q_ltl, q_lel, q_llt, q_lle, q_eql, q_lt, q_le, q_eq, q_m1F, if_pos, if_neg, if_true, if_false]
      · simp (disch := first | assumption | omega) only [q_un]
        rw [h3 i w (by omega) hw]
        congr 1
        omega
    · intro c hc hd
      simp (disch := first | assumption | omega) only [q_uc]
