/-! the study's reading of the trace -/
def RU (u H : ST) : Prop := ∃ el l : Nat, el < 400 ∧ l ≤ 400 ∧ u 5 3 = nI el ∧ u 5 4 = nI l ∧ H 18 4 = nI l ∧ ∀ i, i < l → H 19 i = u 6 ((el + i) % 400) ∧ H 20 i = u 7 ((el + i) % 400)
theorem iU_pU (τ : ST) : iU τ (pU τ) = τ := by
  funext c
  unfold iU pU
  by_cases h1 : 500 ≤ c ∧ c < 505
  · rw [if_pos h1, if_pos (by omega), show 500 + (c - 500) = c by omega]
  · rw [if_neg h1]
    by_cases h2 : 18 ≤ c ∧ c < 22
    · rw [if_pos h2, if_neg (by omega), show 18 + (c - 18 + 5 - 5) = c by omega]
    · rw [if_neg h2]
theorem zqU {β : Type} {f : Option (Int32 × ST)} {τ : ST} {v : Int32} {k : Int32 → ST → Option β} (e : f = some (v, pU τ)) : zCallL f (iU τ) k = k v τ := by rw [zCallL_eq e, iU_pU]
theorem RU_of {τ A C H : ST} (n1 : EngC (pE 0 0 τ) A C H) : RU (pU τ) H := by
  obtain ⟨el, l, h1, h2, e1, e2, e3, h3⟩ := n1.2.2.2
  have k : ∀ c, 18 ≤ c → c < 22 → pE 0 0 τ c = τ c := fun c c1 c2 => by
    unfold pE
    rw [if_pos (by omega), show 100 * 0 + c = c by omega]
  rw [k 18 (by omega) (by omega)] at e1 e2
  refine ⟨el, l, h1, h2, e1, e2, e3, fun i hi => ?_⟩
  have := h3 i hi
  rw [k 19 (by omega) (by omega), k 20 (by omega) (by omega)] at this
  exact ⟨this.1, this.2.1⟩
theorem u_cell (N : Nat) {u H : ST} (h : RU u H) {j : Nat} (hj : nI j < H 18 4) (hj2 : j < 400) : ∃ c, c < 400 ∧ mU_X3_cellOf N u (nI j) = some (nI c, u) ∧ H 19 j = u 6 c ∧ H 20 j = u 7 c := by
  obtain ⟨el, l, h1, h2, e1, e2, e3, h3⟩ := h
  have hl : j < l := by
    rw [e3, i_lt, nI_toInt (by omega), nI_toInt (by omega)] at hj
    omega
  refine ⟨(el + j) % 400, Nat.mod_lt _ (by omega), ?_, (h3 j hl).1, (h3 j hl).2⟩
  rw [mU_X3_cellOf]
  simp -implicitDefEqProofs (disch := first | assumption | omega) only [zLet_eq, zCall_some, zCallu_some, q_cq, zBool_0, zBool_1, q_gn, q_gl, q_sn, q_sl, q_al, q_la, q_ml, q_lm, q_ue, q_un, q_mA, q_mK, q_uA, q_uK, q_g6, q_rm, q_dv, e1, e2, q_ltl, q_lt, if_pos, if_neg, nI_add, mU_X3_cellOf_26]
theorem u_blockAt (N : Nat) {u H : ST} (h : RU u H) {j : Nat} (hj : nI j < H 18 4) (hj2 : j < 400) : mU_X3_blockAt N u (nI j) = some (H 19 j, u) := by
  obtain ⟨c, c1, c2, c3, c4⟩ := u_cell N h hj hj2
  rw [mU_X3_blockAt, c2]
  simp -implicitDefEqProofs (disch := first | assumption | omega) only [zLet_eq, zCall_some, zCallu_some, q_cq, zBool_0, zBool_1, q_gn, q_gl, q_sn, q_sl, q_al, q_la, q_ml, q_lm, q_ue, q_un, q_mA, q_mK, q_uA, q_uK, q_g6, q_rm, q_dv, q_lle, if_pos, mU_X3_blockAt_20, c3]
theorem u_numberAt (N : Nat) {u H : ST} (h : RU u H) {j : Nat} (hj : nI j < H 18 4) (hj2 : j < 400) : mU_X3_numberAt N u (nI j) = some (H 20 j, u) := by
  obtain ⟨c, c1, c2, c3, c4⟩ := u_cell N h hj hj2
  rw [mU_X3_numberAt, c2]
  simp -implicitDefEqProofs (disch := first | assumption | omega) only [zLet_eq, zCall_some, zCallu_some, q_cq, zBool_0, zBool_1, q_gn, q_gl, q_sn, q_sl, q_al, q_la, q_ml, q_lm, q_ue, q_un, q_mA, q_mK, q_uA, q_uK, q_g6, q_rm, q_dv, q_lle, if_pos, mU_X3_numberAt_20, c4]
theorem r_traced (N : Nat) {ρ H : ST} {l j : Nat} (hl : l ≤ 400) (h3 : ∀ i, i < l → ρ 1 (774 + 3 * i) = H 19 i ∧ ρ 1 (775 + 3 * i) = H 20 i ∧ ρ 1 (776 + 3 * i) = H 21 i) (hj : j < l) : mR_traced N ρ (nI j) = some (H 19 j, ρ) := by
  rw [mR_traced]
  simp -implicitDefEqProofs (disch := first | assumption | omega) only [zLet_eq, zCall_some, zCallu_some, q_cq, zBool_0, zBool_1, q_gn, q_gl, q_sn, q_sl, q_al, q_la, q_ml, q_lm, q_ue, q_un, q_mA, q_mK, q_uA, q_uK, q_g6, q_rm, q_dv]
  rw [(h3 j hj).1]
theorem r_numberAt (N : Nat) {ρ H : ST} {l j : Nat} (hl : l ≤ 400) (h3 : ∀ i, i < l → ρ 1 (774 + 3 * i) = H 19 i ∧ ρ 1 (775 + 3 * i) = H 20 i ∧ ρ 1 (776 + 3 * i) = H 21 i) (hj : j < l) : mR_numberAt N ρ (nI j) = some (H 20 j, ρ) := by
  have e : nI (774 + 3 * j) + 1 = nI (775 + 3 * j) := by rw [nI_1, show 774 + 3 * j + 1 = 775 + 3 * j by omega]
  rw [mR_numberAt]
  simp -implicitDefEqProofs (disch := first | assumption | omega) only [zLet_eq, zCall_some, zCallu_some, q_cq, zBool_0, zBool_1, q_gn, q_gl, q_sn, q_sl, q_al, q_la, q_ml, q_lm, q_ue, q_un, q_mA, q_mK, q_uA, q_uK, q_g6, q_rm, q_dv, e]
  rw [← (h3 j hj).2.1]
/-- a piece starts at j -/
def qu_st (H : ST) (j : Nat) : Bool := decide (j = 0) || decide (¬ H 19 j = H 19 (j - 1) + 1)
theorem u_starts (N : Nat) {u H : ST} (h : RU u H) {j : Nat} (hj : nI j < H 18 4) (hj2 : j < 400) : mU_X5_startsPiece N u (nI j) = some (if qu_st H j = true then 1 else 0, u) := by
  rw [mU_X5_startsPiece]
  unfold qu_st
  by_cases j0 : j = 0
  · subst j0
    rw [if_pos (show nI 0 = 0 from rfl), mU_X5_startsPiece_27, mU_X5_startsPiece_32]
    rfl
  · have n0 : ¬ nI j = 0 := fun w => j0 (nI_inj (a := j) (b := 0) (by omega) (by omega) w)
    have e1 : nI j - 1 = nI (j - 1) := by rw [show (1 : Int32) = nI 1 from rfl, pk_sub (by omega)]
    have hj' : nI (j - 1) < H 18 4 := by
      rw [i_lt, nI_toInt (by omega)] at hj ⊢
      omega
    rw [if_neg n0, u_blockAt N h hj hj2, zCall_some, zLet_eq, e1, u_blockAt N h hj' (by omega), zCall_some, zLet_eq]
    by_cases c : H 19 j = H 19 (j - 1) + 1
    · rw [if_pos c, mU_X5_startsPiece_32, decide_eq_false j0, decide_eq_false (fun w => w c)]
      rfl
    · rw [if_neg c, mU_X5_startsPiece_27, mU_X5_startsPiece_32, decide_eq_false j0, decide_eq_true c]
      rfl
theorem r_isNext (N : Nat) {ρ H : ST} {l j : Nat} (hl : l ≤ 400) (h3 : ∀ i, i < l → ρ 1 (774 + 3 * i) = H 19 i ∧ ρ 1 (775 + 3 * i) = H 20 i ∧ ρ 1 (776 + 3 * i) = H 21 i) (hj : j < l) : mR_isNext N ρ (nI j) = some (if qu_st H j = true then 0 else 1, ρ) := by
  rw [mR_isNext]
  unfold qu_st
  by_cases j0 : j = 0
  · subst j0
    rw [if_pos (by decide), mR_isNext_25, mR_isNext_26]
    rfl
  · have n0 : ¬ nI j ≤ 0 := by
      rw [i_le, nI_toInt (by omega), show (0 : Int32).toInt = 0 from rfl]
      omega
    have e1 : nI j - 1 = nI (j - 1) := by rw [show (1 : Int32) = nI 1 from rfl, pk_sub (by omega)]
    rw [if_neg n0, r_traced N hl h3 hj, zCall_some, zLet_eq, e1, r_traced N hl h3 (by omega), zCall_some, zLet_eq]
    by_cases c : H 19 j = H 19 (j - 1) + 1
    · rw [if_pos c, mR_isNext_26, decide_eq_false j0, decide_eq_false (fun w => w c)]
      rfl
    · rw [if_neg c, mR_isNext_25, mR_isNext_26, decide_eq_false j0, decide_eq_true c]
      rfl
