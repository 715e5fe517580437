/-! piece -/
def qu_lr (H : ST) : Nat → Nat × Nat
  | 0 => (0, 0)
  | j + 1 => if qu_st H j = true then (max (qu_lr H j).1 1, 1) else (max (qu_lr H j).1 ((qu_lr H j).2 + 1), (qu_lr H j).2 + 1)
def RP (H : ST) (l : Nat) (x1 x2 v : Int32) : Prop :=
  (∃ s i, s < i ∧ i ≤ l ∧ qu_st H s = true ∧ (∀ j, s < j → j < i → qu_st H j = false) ∧ (i = l ∨ qu_st H i = true) ∧ x1 = nI (qcnt (qu_st H) s) ∧ (∀ j, j < s → qu_st H j = true → ¬ x1 = nI (qcnt (qu_st H) j)) ∧ v = if x2 = 0 then nI (i - s) else H 19 s) ∨
  ((∀ j, j < l → qu_st H j = true → ¬ x1 = nI (qcnt (qu_st H) j)) ∧ v = if x1 = -1 then (if x2 = 0 then nI (qcnt (qu_st H) l) else nI (qu_lr H l).1) else -1)
theorem r_piece_end (N : Nat) {ρ : ST} {l : Nat} (hl : l ≤ 400) (e22 : ρ 1 22 = nI l) (x1 x2 x3 x4 x5 : Int32) (hd : ST → Int32 → Int32 → Int32 → Int32 → Int32 → Int32 → Option (Int32 × ST)) : mR_piece_B33 N hd ρ x1 x2 x3 x4 x5 (nI (l + 1)) = some (if x1 = -1 then (if x2 = 0 then x3 else x4) else -1, ρ) := by
  rw [mR_piece_B33, zGet_at (i := 22) 22 rfl (by decide) (by decide), e22, if_pos (show nI l < nI (l + 1) by rw [i_lt, nI_toInt (by omega), nI_toInt (by omega)]; omega)]
  simp only [mR_piece_144]
  by_cases c1 : x1 = -1
  · rw [if_pos c1, if_pos c1]
    by_cases c2 : x2 = 0
    · rw [if_pos c2, if_pos c2]
    · rw [if_neg c2, if_neg c2]
  · rw [if_neg c1, if_neg c1]
theorem r_piece_loop (N : Nat) {ρ H : ST} {l : Nat} (hl : l ≤ 400) (e22 : ρ 1 22 = nI l) (h3 : ∀ i, i < l → ρ 1 (774 + 3 * i) = H 19 i ∧ ρ 1 (775 + 3 * i) = H 20 i ∧ ρ 1 (776 + 3 * i) = H 21 i) (x1 x2 : Int32) :
    ∀ (m i s f : Nat), i ≤ l → s < i → l + 2 - i ≤ m → qu_st H s = true → (∀ j, s < j → j < i → qu_st H j = false) → (∀ j, j < s → qu_st H j = true → ¬ x1 = nI (qcnt (qu_st H) j)) → qcnt (qu_st H) i = qcnt (qu_st H) s + 1 → qu_lr H i = (max f (i - s), i - s) → f ≤ i →
    ∃ v, zIt (mR_piece_B33 N) (fun _ _ _ _ _ _ _ => none) m ρ x1 x2 (nI (qcnt (qu_st H) s)) (nI f) (nI s) (nI i) = some (v, ρ) ∧ RP H l x1 x2 v := by
  intro m
  induction m with
  | zero => intro i s f _ _ _; omega
  | succ m ih =>
    intro i s f hi hs hm q1 q2 q3 q4 q5 q6
    have hend := fun (x3 x4 x5 : Int32) (hm2 : 1 ≤ m) => (show zIt (mR_piece_B33 N) (fun _ _ _ _ _ _ _ => none) m ρ x1 x2 x3 x4 x5 (nI (l + 1)) = some (if x1 = -1 then (if x2 = 0 then x3 else x4) else -1, ρ) by
      obtain ⟨g, rfl⟩ : ∃ g, m = g + 1 := ⟨m - 1, by omega⟩
      rw [zIt_s]
      exact r_piece_end N hl e22 x1 x2 x3 x4 x5 _)
    have nx := fun (s' f' : Nat) => ih (i + 1) s' f'
    rw [zIt_s]
    generalize zIt (mR_piece_B33 N) (fun _ _ _ _ _ _ _ => none) m = hd at *
    have es : nI i - nI s = nI (i - s) := pk_sub (by omega)
    have fin : (i = l ∨ qu_st H i = true) → ∃ v, mR_piece_66 N hd ρ x1 x2 (nI (qcnt (qu_st H) s)) (nI f) (nI s) (nI i) = some (v, ρ) ∧ RP H l x1 x2 v := fun hf => by
      rw [mR_piece_66]
      by_cases c1 : nI (qcnt (qu_st H) s) = x1
      · rw [if_pos c1, r_traced N hl h3 (by omega), zCall_some, zLet_eq, es, mR_piece_89, mR_piece_89]
        refine ⟨if x2 = 0 then nI (i - s) else H 19 s, ?_, Or.inl ⟨s, i, hs, hi, q1, q2, hf, c1.symm, q3, rfl⟩⟩
        by_cases c2 : x2 = 0
        · rw [if_pos c2, if_pos c2]
        · rw [if_neg c2, if_neg c2]
      · have q3' : ∀ j, j < i → qu_st H j = true → ¬ x1 = nI (qcnt (qu_st H) j) := fun j hj hst => by
          by_cases g1 : j < s
          · exact q3 j g1 hst
          · by_cases g2 : j = s
            · subst g2
              exact fun w => c1 w.symm
            · rw [q2 j (by omega) hj] at hst
              cases hst
        have ef : (if nI (i - s) ≤ nI f then mR_piece_113 N hd ρ x1 x2 (nI (qcnt (qu_st H) i)) (nI f) (nI s) (nI i) (nI f) else mR_piece_113 N hd ρ x1 x2 (nI (qcnt (qu_st H) i)) (nI f) (nI s) (nI i) (nI (i - s))) = hd ρ x1 x2 (nI (qcnt (qu_st H) i)) (nI (max f (i - s))) (nI i) (nI (i + 1)) := by
          rw [mR_piece_113, mR_piece_113, mR_piece_119, mR_piece_119, zLet_eq, zLet_eq, nI_1]
          by_cases g : i - s ≤ f
          · rw [if_pos (show nI (i - s) ≤ nI f by rw [i_le, nI_toInt (by omega), nI_toInt (by omega)]; omega), Nat.max_eq_left g]
          · rw [if_neg (show ¬ nI (i - s) ≤ nI f by rw [i_le, nI_toInt (by omega), nI_toInt (by omega)]; omega), Nat.max_eq_right (by omega)]
        rw [if_neg c1, zLet_eq, zLet_eq, zLet_eq, nI_1, ← q4, es, ef]
        by_cases il : i = l
        · subst il
          rw [hend _ _ _ (by omega)]
          refine ⟨_, rfl, Or.inr ⟨q3', ?_⟩⟩
          rw [q5]
        · have hst := hf.resolve_left il
          refine nx i (max f (i - s)) (by omega) (by omega) (by omega) hst (fun j _ _ => by omega) q3' ?_ ?_ (by omega)
          · rw [qcnt_s, if_pos hst]
          · rw [qu_lr, if_pos hst, q5, show i + 1 - i = 1 by omega]
    rw [mR_piece_B33, zGet_at (i := 22) 22 rfl (by decide) (by decide), e22, if_neg (show ¬ nI l < nI i by rw [i_lt, nI_toInt (by omega), nI_toInt (by omega)]; omega), zGet_at (i := 22) 22 rfl (by decide) (by decide), e22]
    by_cases il : i = l
    · rw [if_pos (show nI i = nI l by rw [il])]
      exact fin (Or.inl il)
    · rw [if_neg (show ¬ nI i = nI l from fun w => il (nI_inj (by omega) (by omega) w)), r_isNext N hl h3 (by omega), zCall_some]
      by_cases st : qu_st H i = true
      · rw [if_pos st, if_pos rfl]
        exact fin (Or.inr st)
      · rw [if_neg st, if_neg n10, mR_piece_119, zLet_eq, nI_1]
        refine nx s f (by omega) (by omega) (by omega) q1 (fun j j1 j2 => ?_) q3 ?_ ?_ (by omega)
        · by_cases g : j = i
          · subst g
            exact Bool.eq_false_iff.mpr st
          · exact q2 j j1 (by omega)
        · rw [qcnt_s, if_neg st, Nat.add_zero, q4]
        · rw [qu_lr, if_neg st, q5]
          refine Prod.ext ?_ ?_
          · show max (max f (i - s)) (i - s + 1) = max f (i + 1 - s)
            omega
          · show i - s + 1 = i + 1 - s
            omega
