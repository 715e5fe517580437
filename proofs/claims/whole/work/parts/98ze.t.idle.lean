/-! idle: an edge set before or behind a fetch -/
theorem log_up {A : ST} {p : Nat} {e r n a b : Int32} (hp : p < 6) : qa_log (zUp A (12 + p) 5 e) r n a b = zUp (qa_log A r n a b) (12 + p) 5 e := by
  unfold qa_log
  rw [q_un (by omega)]
  by_cases h : A 22 2 = 40
  · rw [if_pos h, if_pos h]
    have hne : ¬ (23 = 12 + p) := by omega
    funext c k
    simp only [q_get]
    by_cases c23 : c = 23
    · subst c23
      simp [hne]
    · simp [c23]
  · rw [if_neg h, if_neg h]
    rw [q_comm (c := 12 + p) (d := 23) (Or.inl (by omega)), q_comm (c := 12 + p) (d := 23) (Or.inl (by omega)), q_comm (c := 12 + p) (d := 23) (Or.inl (by omega)), q_comm (c := 12 + p) (d := 23) (Or.inl (by omega)), q_comm (c := 12 + p) (d := 22) (Or.inl (by omega))]
theorem widen_up {A : ST} {p q : Nat} {e w : Int32} (hp : p < 6) (hq : q < 6) : qa_widen (zUp A (12 + p) 5 e) q w = zUp (qa_widen A q w) (12 + p) 5 e := by
  unfold qa_widen
  rw [q_un (show 12 + q ≠ 12 + p ∨ 4 ≠ 5 by omega)]
  by_cases h : w = A (12 + q) 4
  · rw [if_pos h, if_pos h]
  · rw [if_neg h, if_neg h, q_un (show 12 + q ≠ 12 + p ∨ 0 ≠ 5 by omega), q_un (show 2 ≠ 12 + p ∨ 0 ≠ 5 by omega), q_un (show 2 ≠ 12 + p ∨ 17 ≠ 5 by omega), log_up hp, q_comm (c := 12 + p) (d := 12 + q) (Or.inr (by omega)), q_comm (c := 12 + p) (d := 2) (Or.inl (by omega))]
theorem change_up {A : ST} {p q : Nat} {e w : Int32} (hp : p < 6) (hq : q < 6) : qa_change (zUp A (12 + p) 5 e) q w = zUp (qa_change A q w) (12 + p) 5 e := by
  unfold qa_change
  rw [q_uc (show 1 ≠ 12 + p by omega), widen_up hp hq]
theorem waste_up {A : ST} {p : Nat} {e num : Int32} (hp : p < 6) : qa_waste (zUp A (12 + p) 5 e) num = zUp (qa_waste A num) (12 + p) 5 e := by
  unfold qa_waste
  rw [streamOf_up (by omega)]
  cases hs : qa_streamOf A num with
  | none =>
    dsimp only
    rw [q_un (by omega), q_comm (c := 12 + p) (d := 2) (Or.inl (by omega))]
  | some q =>
    have hq := (qa_streamOf_lt hs).1
    dsimp only
    rw [q_un (show 2 ≠ 12 + p ∨ 6 ≠ 5 by omega), q_un (show 12 + q ≠ 12 + p ∨ 10 ≠ 5 by omega), q_un (show 12 + q ≠ 12 + p ∨ 4 ≠ 5 by omega), q_comm (c := 12 + p) (d := 2) (Or.inl (by omega)), q_comm (c := 12 + p) (d := 12 + q) (Or.inr (by omega)), change_up hp hq]
theorem vic_up {A A' C : ST} {x : Int32} (h : A' 1 = A 1) : qa_vic A' C x = qa_vic A C x := by
  unfold qa_vic qvic qcand qaho qw
  rw [h]
theorem room_up {A C : ST} {p : Nat} {e x : Int32} (hp : p < 6) : qa_room (zUp A (12 + p) 5 e) C x = (zUp (qa_room A C x).1 (12 + p) 5 e, (qa_room A C x).2) := by
  have e1 : zUp A (12 + p) 5 e 1 = A 1 := q_uc (by omega)
  unfold qa_room
  rw [vic_up e1, e1]
  by_cases h : nI (qin C) < A 1 0
  · rw [if_pos h, if_pos h]
  · rw [if_neg h, if_neg h]
    dsimp only
    by_cases h2 : C (qa_vic A C x) 5 = 1
    · rw [if_pos h2, if_pos h2, waste_up hp]
    · rw [if_neg h2, if_neg h2]
theorem plan_up {A : ST} {p b : Nat} {e : Int32} (hp : p < 6) : qa_plan (zUp A (12 + p) 5 e) b = zUp (qa_plan A b) (12 + p) 5 e := by
  unfold qa_plan
  rw [q_un (by omega)]
  by_cases h : A 0 8 < 0
  · rw [if_pos h, if_pos h]
  · rw [if_neg h, if_neg h]
    by_cases h2 : 32 ≤ A 0 8
    · rw [if_pos h2, if_pos h2]
    · rw [if_neg h2, if_neg h2, q_comm (c := 12 + p) (d := 24) (Or.inl (by omega)), q_comm (c := 12 + p) (d := 0) (Or.inl (by omega))]
theorem fetch_up {A C : ST} {p b : Nat} {e x : Int32} (hp : p < 6) : qa_fetch (zUp A (12 + p) 5 e) C p b x = (zUp (qa_fetch A C p b x).1 (12 + p) 5 e, (qa_fetch A C p b x).2) := by
  unfold qa_fetch
  rw [room_up hp]
  dsimp only
  generalize (qa_room A C x).1 = A1
  generalize (qa_room A C x).2 = C1
  rw [q_un (show 12 + p ≠ 12 + p ∨ 0 ≠ 5 by omega), q_un (show 2 ≠ 12 + p ∨ 0 ≠ 5 by omega)]
  unfold qa_fetched
  rw [q_un (show 2 ≠ 12 + p ∨ 5 ≠ 5 by omega), q_un (show 12 + p ≠ 12 + p ∨ 8 ≠ 5 by omega), q_comm (c := 12 + p) (d := 2) (Or.inl (by omega)), q_comm (c := 12 + p) (d := 12 + p) (Or.inr (by omega)), plan_up hp]
/-! which stream -/
def qi_next (A : ST) (p : Nat) : Int32 := (if qa_beyond A p (A (12 + p) 1) = true then A (12 + p) 5 else A (12 + p) 1) + A (12 + p) 2
def qi_want (A C : ST) (p : Nat) : Int32 := A (12 + p) 4 - nI (qv_for C (A (12 + p) 0))
abbrev qi_fit (A C : ST) (p : Nat) : Prop := (0 ≤ (qi_next A p).toInt ∧ (qi_next A p).toInt < (A 1 7).toInt) ∧ 0 ≤ A 26 (qi_next A p).toNatClampNeg ∧ ¬ C (qi_next A p).toNatClampNeg 0 = 1
def qi (A C : ST) : Nat → Option Nat × Int32
  | 0 => (none, 0)
  | i + 1 => if A (12 + i) 0 = -1 ∨ A (12 + i) 4 = 0 ∨ qi_want A C i ≤ (qi A C i).2 ∨ ¬ qi_fit A C i then qi A C i else (some i, qi_want A C i)
theorem qi_ok (A C : ST) : ∀ i, 0 ≤ (qi A C i).2.toInt ∧ ∀ p, (qi A C i).1 = some p → p < i ∧ ¬ A (12 + p) 0 = -1 ∧ ¬ A (12 + p) 4 = 0 ∧ qi_fit A C p := by
  intro i
  induction i with
  | zero => exact ⟨show (0 : Int) ≤ (0 : Int32).toInt by decide, fun p hp => by cases hp⟩
  | succ i ih =>
    rw [qi]
    by_cases c : A (12 + i) 0 = -1 ∨ A (12 + i) 4 = 0 ∨ qi_want A C i ≤ (qi A C i).2 ∨ ¬ qi_fit A C i
    · rw [if_pos c]
      exact ⟨ih.1, fun p hp => ⟨Nat.lt_succ_of_lt (ih.2 p hp).1, (ih.2 p hp).2⟩⟩
    · rw [if_neg c]
      have c1 : ¬ A (12 + i) 0 = -1 := fun w => c (Or.inl w)
      have c2 : ¬ A (12 + i) 4 = 0 := fun w => c (Or.inr (Or.inl w))
      have c3 : ¬ qi_want A C i ≤ (qi A C i).2 := fun w => c (Or.inr (Or.inr (Or.inl w)))
      have c4 : qi_fit A C i := by
        by_cases w : qi_fit A C i
        · exact w
        · exact absurd (Or.inr (Or.inr (Or.inr w))) c
      rw [i_le] at c3
      have := ih.1
      refine ⟨by dsimp only; omega, fun p hp => ?_⟩
      have : i = p := by
        have := Option.some.inj hp
        exact this
      subst this
      exact ⟨by omega, c1, c2, c4⟩
theorem qc_next (N : Nat) {A κ : ST} (p : Fin 6) : mE_X2_nextToFetch N (qmix A κ) p = some (qi_next A p.val, qmix A κ) := by
  have hp := p.isLt
  rw [mE_X2_nextToFetch, zLet_eq, q_mA (by omega), qc_beyond, zCall_some]
  unfold qi_next
  by_cases c : qa_beyond A p.val (A (12 + p.val) 1) = true
  · rw [if_pos c, if_neg n10, zLet_eq, mE_X2_nextToFetch_22, zLet_eq, zLet_eq, q_mA (by omega), if_pos c]
  · rw [if_neg c, if_pos rfl, zLet_eq, mE_X2_nextToFetch_22, zLet_eq, zLet_eq, q_mA (by omega), if_neg c]
theorem r_next (N : Nat) {F : ST} {q : Bool} {ρ A C H : ST} {t p : Nat} (h : RR F q ρ A C H) (g : Gd A C t) (hp : p < 6) (hnn : ¬ A (12 + p) 0 = -1) (hs : ¬ A (12 + p) 2 = 0) : mR_nextOf N ρ (nI (542 + 12 * p)) = some (qi_next A p, ρ) := by
  have es6 : ρ 1 (542 + 12 * p + 6) = A (12 + p) 5 := RR_sr h (k := 5) hp hnn (by omega)
  have es2 : ρ 1 (542 + 12 * p + 2) = A (12 + p) 1 := RR_sr h (k := 1) hp hnn (by omega)
  have es3 : ρ 1 (542 + 12 * p + 3) = A (12 + p) 2 := RR_sr h (k := 2) hp hnn (by omega)
  have k37 : ∀ v, mR_nextOf_37 N ρ (nI (542 + 12 * p)) v = some (v + A (12 + p) 2, ρ) := fun v => by
    rw [mR_nextOf_37]
    simp -implicitDefEqProofs (disch := first | assumption | omega) only [zLet_eq, zCall_some, zCallu_some, q_cq, zBool_0, zBool_1, q_gn, q_gl, q_sn, q_sl, q_al, q_la, q_ml, q_lm, q_ue, q_un, q_mA, q_mK, q_uA, q_uK, q_g6, q_rm, q_dv, es3]
  rw [mR_nextOf]
  simp -implicitDefEqProofs (disch := first | assumption | omega) only [zLet_eq, zCall_some, zCallu_some, q_cq, zBool_0, zBool_1, q_gn, q_gl, q_sn, q_sl, q_al, q_la, q_ml, q_lm, q_ue, q_un, q_mA, q_mK, q_uA, q_uK, q_g6, q_rm, q_dv, es6, r_aheadOf N h g hp hnn hs]
  unfold qi_next
  by_cases c : qa_beyond A p (A (12 + p) 1) = true
  · rw [if_pos c, if_neg n10, k37, if_pos c]
  · rw [if_neg c, if_pos rfl, es2, k37, if_neg c]
theorem qc_slot (N : Nat) {A κ : ST} {b : Nat} (hb : b < 10000) : mE_X0_slotOf N (qmix A κ) (nI b) = some (κ 10 b - 1, qmix A κ) := by
  rw [mE_X0_slotOf, if_neg (show ¬ nI b < 0 by rw [i_lt, nI_toInt (by omega), show (0 : Int32).toInt = 0 by decide]; omega), if_pos (show nI b < 10000 from nI_lt (b := 10000) hb (by omega)), zGet_nI hb (by omega), zLet_eq, mE_X0_slotOf_23, q_mK (by omega)]
theorem qc_ichoose (N : Nat) (hN : 64 < N) {A κ C H : ST} (h : Rp κ A C H) (h7 : (A 1 7).toInt ≤ 10000) : ∀ m i : Nat, i < 6 → ∀ hd, mE_X2_idleOnce_B26 N hd (qmix A κ) (qa_fin (qi A C i).1) (qi A C i).2 (nI i) = hd (qmix A κ) (qa_fin (qi A C (i + 1)).1) (qi A C (i + 1)).2 (nI (i + 1)) := by
  intro m i hi hd
  have h134 : ∀ (x1 : Option (Fin 6)) (x2 : Int32) (p : Fin 6), mE_X2_idleOnce_134 N hd (qmix A κ) x1 x2 (nI i) p = hd (qmix A κ) x1 x2 (nI (i + 1)) := fun x1 x2 p => by
    rw [mE_X2_idleOnce_134, zLet_eq, nI_1]
  rw [mE_X2_idleOnce_B26.eq_def, if_neg (show ¬ (6 : Int32) ≤ nI i from nI_ge (a := i) (b := 6) hi (by omega)), q_g6 hi, zLet_eq, qi]
  show (if qmix A κ (12 + i) 0 = -1 then _ else _) = _
  rw [q_mA (by omega)]
  by_cases c1 : A (12 + i) 0 = -1
  · rw [if_pos c1, if_pos (Or.inl c1), h134]
  · rw [if_neg c1, zLet_eq]
    by_cases c2 : A (12 + i) 4 = 0
    · rw [if_pos c2, if_pos (Or.inr (Or.inl c2)), h134]
    · have hw := qc_waitFor N hN (A := A) h.2.1 (A (12 + i) 0)
      have hn := qc_next N (A := A) (κ := κ) ⟨i, hi⟩
      rw [if_neg c2, zLet_eq, zLet_eq, hw, zCall_some, zLet_eq, hn, zCall_some]
      show (if A (12 + i) 4 - nI (qv_for C (A (12 + i) 0)) ≤ _ then _ else _) = _
      by_cases c3 : qi_want A C i ≤ (qi A C i).2
      · rw [if_pos (show A (12 + i) 4 - nI (qv_for C (A (12 + i) 0)) ≤ (qi A C i).2 from c3), if_pos (Or.inr (Or.inr (Or.inl c3))), h134]
      · rw [if_neg (show ¬ A (12 + i) 4 - nI (qv_for C (A (12 + i) 0)) ≤ (qi A C i).2 from c3)]
        show zCall (mE_X2_hasBlock N (qmix A κ) (qi_next A i)) _ = _
        rw [qc_has, zCall_some]
        by_cases c4 : 0 ≤ (qi_next A i).toInt ∧ (qi_next A i).toInt < (A 1 7).toInt
        · obtain ⟨d1, d2⟩ := clamp_toInt c4.1
          have hb : (qi_next A i).toNatClampNeg < 10000 := by omega
          have hbad := qc_bad N (A := A) (κ := κ) hb
          rw [← d2] at hbad
          have hsl := qc_slot N (A := A) (κ := κ) hb
          rw [← d2] at hsl
          have hm := slot_m1 h.2.1 hb
          rw [if_pos c4, if_neg n10]
          show zCall (mE_X1_isBad N (qmix A κ) (qi_next A i)) _ = _
          rw [hbad, zCall_some]
          by_cases c5 : 0 ≤ A 26 (qi_next A i).toNatClampNeg
          · rw [if_pos c5, if_pos rfl]
            show zCall (mE_X0_slotOf N (qmix A κ) (qi_next A i)) _ = _
            rw [hsl, zCall_some]
            by_cases c6 : C (qi_next A i).toNatClampNeg 0 = 1
            · rw [if_neg (fun w => hm.mp w c6), h134, if_pos (Or.inr (Or.inr (Or.inr (fun w => w.2.2 c6))))]
            · rw [if_pos (hm.mpr c6), h134, if_neg (fun w => w.elim c1 (fun w => w.elim c2 (fun w => w.elim c3 (fun w => w ⟨c4, c5, c6⟩)))), qa_fin_some hi]
              rfl
          · rw [if_neg c5, if_neg n10, h134, if_pos (Or.inr (Or.inr (Or.inr (fun w => c5 w.2.1))))]
        · rw [if_neg c4, if_pos rfl, h134, if_pos (Or.inr (Or.inr (Or.inr (fun w => c4 w.1))))]
theorem r_ichoose (N : Nat) (hN : 64 < N) {F ρ A C H : ST} {t : Nat} (h : RR F false ρ A C H) (g : Gd A C t) {i : Nat} (hi : i < 6) (hah : nI (qah C) < A 1 0 / 2) (hd : ST → Int32 → Int32 → Int32 → Option (Int32 × ST)) : mR_idles_B6 N hd ρ (qa_eR (qi A C i).1) (qi A C i).2 (nI i) = hd ρ (qa_eR (qi A C (i + 1)).1) (qi A C (i + 1)).2 (nI (i + 1)) := by
  have htb := GT_b g.1.1
  have e0 : (0 : Int32).toInt = 0 := by decide
  have hq := qi_ok A C i
  have h131 : ∀ (x1 x2 x4 k : Int32), mR_idles_131 N hd ρ x1 x2 (nI i) x4 k = hd ρ x1 x2 (nI (i + 1)) := fun x1 x2 x4 k => by
    rw [mR_idles_131, zLet_eq, nI_1]
  have z76 : mR_idles_75 N hd ρ (qa_eR (qi A C i).1) (qi A C i).2 (nI i) (nI (542 + 12 * i)) = hd ρ (qa_eR (qi A C i).1) (qi A C i).2 (nI (i + 1)) := by
    rw [mR_idles_75, mR_idles_76, if_pos (by rw [i_le, e0]; exact hq.1), h131]
  have er : ρ 1 0 = A 1 0 := h.1 0 (by omega)
  rw [mR_idles_B6, if_neg (show ¬ (6 : Int32) ≤ nI i from nI_ge (a := i) (b := 6) hi (by omega)), r_manyA N hN h g, zCall_some, zGet_at (i := 0) 0 rfl (by decide) (by decide), er, zDiv2, if_neg (show ¬ A 1 0 / 2 ≤ nI (qah C) by rw [i_lt] at hah; rw [i_le]; omega), r_streamAt, zCall_some, zGet_nI (by omega) (by omega), qi]
  by_cases c1 : A (12 + i) 0 = -1
  · rw [if_neg (show ¬ ρ 1 (542 + 12 * i) = 1 from fun w => (RR_s1 h hi).mp w c1), z76, if_pos (Or.inl c1)]
  · have es5 : ρ 1 (542 + 12 * i + 5) = A (12 + i) 4 := RR_sr h (k := 4) hi c1 (by omega)
    rw [if_pos ((RR_s1 h hi).mpr c1), zLet_eq, zGet_at (542 + 12 * i + 5) (q_al _ _) (by omega) (by omega), es5]
    obtain ⟨a1, a2, a3, a4, a5, a6, a7, a8, a9, a10, a11, a12, a13⟩ := g.1.2.2.1 i hi c1
    by_cases c2 : A (12 + i) 4 = 0
    · rw [if_pos (show A (12 + i) 4 ≤ 0 by rw [c2]; decide), z76, if_pos (Or.inr (Or.inl c2))]
    · have hs := a11 c2
      have c2' : ¬ A (12 + i) 4 ≤ 0 := fun w => by
        rw [i_le, e0] at w
        exact c2 (i_eq.mpr (by rw [e0]; omega))
      rw [if_neg c2', zLet_eq, zGet_at (542 + 12 * i + 5) (q_al _ _) (by omega) (by omega), es5, r_for N hN h hi c1, zCall_some, zLet_eq]
      show mR_idles_76 N hd ρ _ _ _ _ (qi_want A C i) = _
      rw [mR_idles_76]
      by_cases c3 : qi_want A C i ≤ (qi A C i).2
      · rw [if_pos c3, if_pos (Or.inr (Or.inr (Or.inl c3))), h131]
      · have hnx := r_next N h g hi c1 hs
        rw [if_neg c3, hnx, zCall_some, r_isBlock N h, zCall_some]
        by_cases c4 : 0 ≤ (qi_next A i).toInt ∧ (qi_next A i).toInt < (A 1 7).toInt
        · obtain ⟨d1, d2⟩ := clamp_toInt c4.1
          have hb : (qi_next A i).toNatClampNeg < 10000 := by omega
          rw [if_pos c4, if_neg n10, hnx, zCall_some, zGet_at (qi_next A i).toNatClampNeg d2 hb (by omega), (h.2.2.2.2.2.2.1 _ hb).2]
          by_cases c5 : 0 ≤ A 26 (qi_next A i).toNatClampNeg
          · rw [if_pos c5, if_pos rfl, hnx, zCall_some]
            rcases r_place N hN h hb with ⟨p1, p2⟩ | ⟨p1, j, j1, j2, j3, p2⟩
            · rw [← d2] at p2
              rw [p2, zCall_some, if_pos rfl, h131, if_neg (fun w => w.elim c1 (fun w => w.elim c2 (fun w => w.elim c3 (fun w => w ⟨c4, c5, p1⟩))))]
              rfl
            · rw [← d2] at p2
              rw [p2, zCall_some, if_neg (q_m1 (by omega)), h131, if_pos (Or.inr (Or.inr (Or.inr (fun w => w.2.2 p1))))]
          · rw [if_neg c5, if_neg n10, h131, if_pos (Or.inr (Or.inr (Or.inr (fun w => c5 w.2.1))))]
        · rw [if_neg c4, if_pos rfl, h131, if_pos (Or.inr (Or.inr (Or.inr (fun w => c4 w.1))))]
