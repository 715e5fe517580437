/-! THE REFERENCE: a stream comes; going on; finds -/
def Fr (F : ST) (hw it : Int32) : ST := zUp (zUp F 0 11 hw) 0 12 it
theorem Fr_self (F : ST) : Fr F (F 0 11) (F 0 12) = F := by
  unfold Fr
  rw [q_self F 0 11, q_self]
theorem RR_how {F : ST} {q : Bool} {ρ A C H : ST} {hw it : Int32} (h : RR (Fr F hw it) q ρ A C H) (v : Int32) : RR (Fr F v it) q (zUp ρ 0 11 v) A C H := by
  have := RR_0 h (k := 11) (Or.inl rfl) v
  have e : zUp (Fr F hw it) 0 11 v = Fr F v it := by
    unfold Fr
    rw [q_comm (by omega), q_upp]
  rw [e] at this
  exact this
theorem RR_its {F : ST} {q : Bool} {ρ A C H : ST} {hw it : Int32} (h : RR (Fr F hw it) q ρ A C H) (v : Int32) : RR (Fr F hw v) q (zUp ρ 0 12 v) A C H := by
  have := RR_0 h (k := 12) (Or.inr rfl) v
  have e : zUp (Fr F hw it) 0 12 v = Fr F hw v := by
    unfold Fr
    rw [q_upp]
  rw [e] at this
  exact this
theorem RR_11 {F : ST} {q : Bool} {ρ A C H : ST} {hw it : Int32} (h : RR (Fr F hw it) q ρ A C H) : ρ 0 11 = hw ∧ ρ 0 12 = it := by
  have h8 := h.2.2.2.2.2.2.2.1.2.1
  refine ⟨?_, ?_⟩
  · rw [h8 11 (by omega) (by omega) (by omega)]
    unfold Fr
    rw [q_un (by omega), q_ue rfl rfl]
  · rw [h8 12 (by omega) (by omega) (by omega)]
    unfold Fr
    rw [q_ue rfl rfl]
theorem RR_begin {F : ST} {q : Bool} {ρ ρ' A C H : ST} (h : RR F q ρ A C H) {p : Nat} {x : Int32} (hp : p < 6) (hcm : ¬ A 2 14 = -1) (hc : ∀ c, c ≠ 1 → ρ' c = ρ c) (hk : ∀ k, k ≠ 20 → (k < 542 + 12 * p ∨ 554 + 12 * p ≤ k) → ρ' 1 k = ρ 1 k) (k20 : ρ' 1 20 = A 2 14 + 1) (k0 : ρ' 1 (542 + 12 * p) = 1) (kf : ∀ k, k < 11 → ρ' 1 (543 + 12 * p + k) = qa_begin A p x (12 + p) k) : RR F q ρ' (qa_begin A p x) C H := by
  obtain ⟨h1, h2, h3, h4, h5, h6, h7, h8, h9⟩ := h
  have hA : ∀ c, c ≠ 12 + p → c ≠ 2 → qa_begin A p x c = A c := fun c c1 c2 => begin_q c1 c2
  refine ⟨fun j hj => ?_, ⟨fun j m hj => ?_, ?_, ?_, ?_⟩, fun r hr => ?_, ?_, ?_, ?_, fun b hb => ?_, ⟨fun c c0 c1 c2 => ?_, fun j k1 k2 k3 => ?_, ?_, ?_, ?_⟩, fun hq => ?_⟩
  · rw [hk j (by omega) (by omega), hA 1 (by omega) (by omega)]; exact h1 j hj
  · by_cases e : j = 14
    · have : m = 20 := by unfold cmap at hj; omega
      rw [this, k20, e, begin_14]
    · have : m ≠ 20 ∧ m < 30 := by unfold cmap at hj; omega
      rw [hk m this.1 (by omega), begin_2 e]; exact h2.1 j m hj
  · rw [hk 21 (by omega) (by omega)]; exact h2.2.1
  · rw [hk 22 (by omega) (by omega)]; exact h2.2.2.1
  · rw [hk 26 (by omega) (by omega), hA 22 (by omega) (by omega)]; exact h2.2.2.2
  · by_cases e : r = p
    · subst e
      refine Or.inr ⟨k0, ?_, kf⟩
      rw [begin_p, if_pos rfl]
      exact hcm
    · rw [hk _ (by omega) (by omega), hA (12 + r) (by omega) (by omega)]
      rcases h3 r hr with ⟨a1, a2⟩ | ⟨a1, a2, a3⟩
      · exact Or.inl ⟨a1, a2⟩
      · exact Or.inr ⟨a1, a2, fun j hj => by rw [hk _ (by omega) (by omega)]; exact a3 j hj⟩
  · obtain ⟨l, l1, l2, l3⟩ := h4
    exact ⟨l, l1, by rw [hA 22 (by omega) (by omega)]; exact l2, fun k hk4 => by rw [hk _ (by omega) (by omega), hA 23 (by omega) (by omega)]; exact l3 k hk4⟩
  · obtain ⟨n, n1, n2, n3⟩ := h5
    exact ⟨n, n1, n2, fun j hj => by rw [hk _ (by omega) (by omega), hk _ (by omega) (by omega), hk _ (by omega) (by omega)]; exact n3 j hj⟩
  · obtain ⟨r, r1, r2, r3, r4, r5⟩ := h6
    refine ⟨r, r1, by rw [hA 1 (by omega) (by omega)]; exact r2, fun i hi => ?_, fun b hb hcb => ?_, fun i j hi hj => ?_⟩
    · rw [hk _ (by omega) (by omega)]
      rcases r3 i hi with e | ⟨b, hb, e⟩
      · exact Or.inl e
      · exact Or.inr ⟨b, hb, RRe_A e (fun k k1 k2 => hk k (by omega) (by omega)) (hA 26 (by omega) (by omega))⟩
    · obtain ⟨i, hi, e⟩ := r4 b hb hcb
      exact ⟨i, hi, by rw [hk _ (by omega) (by omega)]; exact e⟩
    · rw [hk _ (by omega) (by omega), hk _ (by omega) (by omega)]
      exact r5 i j hi hj
  · rw [hc 4 (by omega), hc 5 (by omega), hA 26 (by omega) (by omega)]; exact h7 b hb
  · rw [hc c c1]; exact h8.1 c c0 c1 c2
  · rw [hc 0 (by omega)]; exact h8.2.1 j k1 k2 k3
  · rw [hc 0 (by omega), hk 16 (by omega) (by omega)]; exact h8.2.2.1
  · rw [hc 0 (by omega), hk 17 (by omega) (by omega)]; exact h8.2.2.2.1
  · rw [hc 0 (by omega)]; exact h8.2.2.2.2
  · obtain ⟨j, a1, a2, a3, a4⟩ := h9 hq
    exact ⟨j, a1, by rw [hA 0 (by omega) (by omega)]; exact a2, by rw [hc 0 (by omega)]; exact a3, fun m hm => by rw [hc 14 (by omega), hA 24 (by omega) (by omega)]; exact a4 m hm⟩
theorem r_comes_loop (N : Nat) (x : Int32) {p : Nat} (hp : p < 6) : ∀ (m j : Nat) (ρ : ST), j ≤ 12 → 12 - j < m → ∃ ρ', zIt (mR_comes_B7 N) (fun _ _ _ _ => none) m ρ x (nI (542 + 12 * p)) (nI j) = some (nI (542 + 12 * p), ρ') ∧ (∀ c, c ≠ 1 → ρ' c = ρ c) ∧ (∀ k, k ≠ 20 → (k < 542 + 12 * p ∨ 554 + 12 * p ≤ k) → ρ' 1 k = ρ 1 k) ∧ ρ' 1 20 = ρ 1 20 + 1 ∧ ρ' 1 (542 + 12 * p) = 1 ∧ ρ' 1 (542 + 12 * p + 1) = ρ 1 20 ∧ ρ' 1 (542 + 12 * p + 2) = x ∧ ρ' 1 (542 + 12 * p + 6) = x ∧ ρ' 1 (542 + 12 * p + 7) = -1 ∧ (∀ k, (k = 3 ∨ k = 4 ∨ k = 5 ∨ (8 ≤ k ∧ k < 12)) → ρ' 1 (542 + 12 * p + k) = (if j ≤ k then 0 else ρ 1 (542 + 12 * p + k))) := by
  intro m
  induction m with
  | zero => intro j ρ h1 h2; omega
  | succ m ih =>
    intro j ρ hj hm
    rw [zIt_s, mR_comes_B7]
    by_cases e : j = 12
    · subst e
      simp -implicitDefEqProofs (disch := first | assumption | omega) only [zLet_eq, zCall_some, zCallu_some, q_cq, zBool_0, zBool_1, q_gn, q_gl, q_sn, q_sl, q_al, q_la, q_ml, q_lm, q_ue, q_un, q_mA, q_mK, q_uA, q_uK, q_g6, q_rm, q_dv, q_ltl, q_lel, q_llt, q_lle, q_eql, q_lt, q_le, q_eq, q_m1F, if_pos, if_neg, if_true, if_false]
      refine ⟨_, rfl, ?_, ?_, ?_, ?_, ?_, ?_, ?_, ?_, ?_⟩
      · intro c hc; simp -implicitDefEqProofs (disch := first | assumption | omega) only [q_uc]
      · intro k k1 k2; simp -implicitDefEqProofs (disch := first | assumption | omega) only [q_un]
      · simp -implicitDefEqProofs (disch := first | assumption | omega) only [q_un, q_ue]
      · simp -implicitDefEqProofs (disch := first | assumption | omega) only [q_un, q_ue]
      · simp -implicitDefEqProofs (disch := first | assumption | omega) only [q_un, q_ue]
      · simp -implicitDefEqProofs (disch := first | assumption | omega) only [q_un, q_ue]
      · simp -implicitDefEqProofs (disch := first | assumption | omega) only [q_un, q_ue]
      · simp -implicitDefEqProofs (disch := first | assumption | omega) only [q_un, q_ue]
      · intro k hk
        rw [if_neg (by omega)]
        simp -implicitDefEqProofs (disch := first | assumption | omega) only [q_un]
    · simp -implicitDefEqProofs (disch := first | assumption | omega) only [zLet_eq, zCall_some, zCallu_some, q_cq, zBool_0, zBool_1, q_gn, q_gl, q_sn, q_sl, q_al, q_la, q_ml, q_lm, q_ue, q_un, q_mA, q_mK, q_uA, q_uK, q_g6, q_rm, q_dv, q_ltl, q_lel, q_llt, q_lle, q_eql, q_lt, q_le, q_eq, q_m1F, if_pos, if_neg, if_true, if_false, nI_add]
      obtain ⟨ρ', i1, i2, i3, i4, i5, i6, i7, i8, i9, i10⟩ := ih (j + 1) (zUp ρ 1 (542 + 12 * p + j) 0) (by omega) (by omega)
      refine ⟨ρ', i1, ?_, ?_, ?_, i5, ?_, i7, i8, i9, ?_⟩
      · intro c hc; rw [i2 c hc, q_uc hc]
      · intro k k1 k2; rw [i3 k k1 k2, q_un (by omega)]
      · rw [i4, q_un (by omega)]
      · rw [i6, q_un (by omega)]
      · intro k hk
        rw [i10 k hk]
        by_cases e1 : j + 1 ≤ k
        · rw [if_pos e1, if_pos (by omega)]
        · rw [if_neg e1]
          by_cases e2 : k = j
          · rw [if_pos (by omega), q_ue rfl (by omega)]
          · rw [if_neg (by omega), q_un (by omega)]
theorem r_comes (N : Nat) (hN : 200 < N) {F : ST} {q : Bool} {ρ A C H : ST} {t : Nat} (h : RR F q ρ A C H) (g : Gd A C t) (x : Int32) : ∃ ρ', mR_comes N ρ x = some (nI (542 + 12 * qa_open A (A 1 6).toNatClampNeg 0 0), ρ') ∧ RR F q ρ' (qa_begin A (qa_open A (A 1 6).toNatClampNeg 0 0) x) C H := by
  have htb := GT_b g.1.1
  obtain ⟨c1, c2⟩ := clamp_toInt (x := A 1 6) (by omega)
  have hp : qa_open A (A 1 6).toNatClampNeg 0 0 < 6 := qa_open_lt (by omega) (by omega)
  have e20 : ρ 1 20 = A 2 14 := h.2.1.1 14 20 (by unfold cmap; omega)
  have h14 := g.1.2.1 14 (by omega)
  rw [mR_comes, r_new N (by omega) h g _ (by omega) (by omega) c2]
  generalize qa_open A (A 1 6).toNatClampNeg 0 0 = p at *
  simp -implicitDefEqProofs (disch := first | assumption | omega) only [zLet_eq, zCall_some, zCallu_some, q_cq, zBool_0, zBool_1, q_gn, q_gl, q_sn, q_sl, q_al, q_la, q_ml, q_lm, q_ue, q_un, q_mA, q_mK, q_uA, q_uK, q_g6, q_rm, q_dv]
  obtain ⟨ρ', i1, i2, i3, i4, i5, i6, i7, i8, i9, i10⟩ := r_comes_loop N x hp N 0 ρ (by omega) (by omega)
  refine ⟨ρ', i1, RR_begin h hp ?_ i2 i3 (by rw [i4, e20]) i5 ?_⟩
  · intro w
    rw [w, show (-1 : Int32).toInt = -1 from by decide] at h14
    omega
  · intro k hk
    rw [begin_p, show 543 + 12 * p + k = 542 + 12 * p + (k + 1) by omega]
    rcases (show k = 0 ∨ k = 1 ∨ k = 2 ∨ k = 3 ∨ k = 4 ∨ k = 5 ∨ k = 6 ∨ k = 7 ∨ k = 8 ∨ k = 9 ∨ k = 10 by omega) with e | e | e | e | e | e | e | e | e | e | e
    · subst e; rw [i6, e20]; rfl
    · subst e; rw [i7]; rfl
    · subst e; rw [i10 3 (by omega)]; rfl
    · subst e; rw [i10 4 (by omega)]; rfl
    · subst e; rw [i10 5 (by omega)]; rfl
    · subst e; rw [i8]; rfl
    · subst e; rw [i9]; rfl
    · subst e; rw [i10 8 (by omega)]; rfl
    · subst e; rw [i10 9 (by omega)]; rfl
    · subst e; rw [i10 10 (by omega)]; rfl
    · subst e; rw [i10 11 (by omega)]; rfl
theorem r_aheadOf (N : Nat) {F : ST} {q : Bool} {ρ A C H : ST} {t p : Nat} (h : RR F q ρ A C H) (g : Gd A C t) (hp : p < 6) (hnn : ¬ A (12 + p) 0 = -1) (hs : ¬ A (12 + p) 2 = 0) : mR_isAheadOf N ρ (nI (542 + 12 * p)) (A (12 + p) 5) = some (if qa_beyond A p (A (12 + p) 1) = true then 1 else 0, ρ) := by
  have es3 : ρ 1 (542 + 12 * p + 3) = A (12 + p) 2 := RR_sr h (k := 2) hp hnn (by omega)
  have es2 : ρ 1 (542 + 12 * p + 2) = A (12 + p) 1 := RR_sr h (k := 1) hp hnn (by omega)
  have htb := GT_b g.1.1
  obtain ⟨a1, a2, a3, a4, a5, a6, a7, a8, a9, a10, a11, a12, a13⟩ := g.1.2.2.1 p hp hnn
  have e0 : (0 : Int32).toInt = 0 := by decide
  have esub : (A (12 + p) 5 - A (12 + p) 1).toInt = (A (12 + p) 5).toInt - (A (12 + p) 1).toInt := i_sub (by omega) (by omega)
  have hsz : (A (12 + p) 2).toInt ≠ 0 := fun w => hs (i_eq.mpr (by rw [w, e0]))
  rw [mR_isAheadOf]
  simp -implicitDefEqProofs (disch := first | assumption | omega) only [zLet_eq, zCall_some, zCallu_some, q_cq, zBool_0, zBool_1, q_gn, q_gl, q_sn, q_sl, q_al, q_la, q_ml, q_lm, q_ue, q_un, q_mA, q_mK, q_uA, q_uK, q_g6, q_rm, q_dv, es3, es2, mR_isAheadOf_43]
  unfold qa_beyond
  by_cases c1 : A (12 + p) 2 ≤ 0
  · have c2 : ¬ 0 ≤ A (12 + p) 2 := by rw [i_le, e0] at *; omega
    rw [if_pos c1, if_neg c2]
    by_cases c3 : 0 ≤ A (12 + p) 5 - A (12 + p) 1
    · have c4 : A (12 + p) 1 ≤ A (12 + p) 5 := by rw [i_le, e0] at c3; rw [i_le]; omega
      rw [if_pos c3]; simp [c4]
    · have c4 : ¬ A (12 + p) 1 ≤ A (12 + p) 5 := by rw [i_le, e0] at c3; rw [i_le]; omega
      rw [if_neg c3]; simp [c4]
  · have c2 : 0 ≤ A (12 + p) 2 := by rw [i_le, e0] at *; omega
    rw [if_neg c1, if_pos c2]
    by_cases c3 : A (12 + p) 5 - A (12 + p) 1 ≤ 0
    · have c4 : A (12 + p) 5 ≤ A (12 + p) 1 := by rw [i_le, e0] at c3; rw [i_le]; omega
      rw [if_pos c3]; simp [c4]
    · have c4 : ¬ A (12 + p) 5 ≤ A (12 + p) 1 := by rw [i_le, e0] at c3; rw [i_le]; omega
      rw [if_neg c3]; simp [c4]
theorem r_goesOn (N : Nat) (hN : 200 < N) {F : ST} {q : Bool} {ρ A C H : ST} {t p : Nat} (h : RR F q ρ A C H) (g : Gd A C t) (ht : t < 20000000) {x : Int32} (hx : XIN C x) (hp : p < 6) (hnn : ¬ A (12 + p) 0 = -1) (hs : ¬ A (12 + p) 2 = 0) (hl : A (12 + p) 1 = x) (hq : q = true → A 0 8 = 0) :
    ∃ ρ', mR_goesOn N ρ (nI (542 + 12 * p)) x = some ρ' ∧ RR F q ρ' (qa_goes A C p x).1 (qa_goes A C p x).2 H := by
  obtain ⟨k1, k2, k3, k4, k5, k6⟩ := ask_ok g hp hnn hs
  have es5 : ρ 1 (542 + 12 * p + 5) = A (12 + p) 4 := RR_sr h (k := 4) hp hnn (by omega)
  have es4 : ρ 1 (542 + 12 * p + 4) = A (12 + p) 3 := RR_sr h (k := 3) hp hnn (by omega)
  have es7 : ρ 1 (542 + 12 * p + 7) = A (12 + p) 6 := RR_sr h (k := 6) hp hnn (by omega)
  have es6 : ρ 1 (542 + 12 * p + 6) = A (12 + p) 5 := RR_sr h (k := 5) hp hnn (by omega)
  have es2 : ρ 1 (542 + 12 * p + 2) = A (12 + p) 1 := RR_sr h (k := 1) hp hnn (by omega)
  have e1 : ρ 1 1 = A 1 1 := h.1 1 (by omega)
  have e2 : ρ 1 2 = A 1 2 := h.1 2 (by omega)
  have e3 : ρ 1 3 = A 1 3 := h.1 3 (by omega)
  have bt : ∀ ρ1 : ST, (qa_ask A p).1 = true → RR F q ρ1 (qa_ask A p).2 C H → ∃ ρ', mR_batch N ρ1 (nI (542 + 12 * p)) x = some ρ' ∧ RR F q ρ' (qa_goes A C p x).1 (qa_goes A C p x).2 H := fun ρ1 ha hr => by
    unfold qa_goes
    rw [if_pos ha]
    exact r_batch N hN hr k1 ht hx hp (by rw [k3 p 0 hp (by omega) (by omega)]; exact hnn) (by rw [k3 p 2 hp (by omega) (by omega)]; exact hs) (fun w => by rw [k6]; exact hq w)
  have no : (qa_ask A p) = (false, A) → ∃ ρ', some ρ = some ρ' ∧ RR F q ρ' (qa_goes A C p x).1 (qa_goes A C p x).2 H := fun ha => by
    unfold qa_goes
    rw [ha]
    exact ⟨ρ, rfl, h⟩
  have lmin : ∀ a b : Int32, (if a < b then a else b) = (if a < b then a else b) := fun _ _ => rfl
  rw [mR_goesOn]
  simp -implicitDefEqProofs (disch := first | assumption | omega) only [zLet_eq, zCall_some, zCallu_some, q_cq, zBool_0, zBool_1, q_gn, q_gl, q_sn, q_sl, q_al, q_la, q_ml, q_lm, q_ue, q_un, q_mA, q_mK, q_uA, q_uK, q_g6, q_rm, q_dv, es5]
  by_cases h1 : A (12 + p) 4 = 0
  · rw [if_pos h1]
    simp -implicitDefEqProofs (disch := first | assumption | omega) only [zLet_eq, zCall_some, zCallu_some, q_cq, zBool_0, zBool_1, q_gn, q_gl, q_sn, q_sl, q_al, q_la, q_ml, q_lm, q_ue, q_un, q_mA, q_mK, q_uA, q_uK, q_g6, q_rm, q_dv, es4, e1]
    by_cases h2 : A 1 1 ≤ A (12 + p) 3
    · have ha : qa_ask A p = (true, zUp (qa_change A p (A 1 2)) (12 + p) 5 (A (12 + p) 1)) := by
        unfold qa_ask
        rw [if_pos h1, if_pos h2]
      rw [if_neg (show ¬ A (12 + p) 3 < A 1 1 by rw [i_lt]; rw [i_le] at h2; omega), mR_proves]
      simp -implicitDefEqProofs (disch := first | assumption | omega) only [zLet_eq, zCall_some, zCallu_some, q_cq, zBool_0, zBool_1, q_gn, q_gl, q_sn, q_sl, q_al, q_la, q_ml, q_lm, q_ue, q_un, q_mA, q_mK, q_uA, q_uK, q_g6, q_rm, q_dv, e2, e3, pR_lesser]
      obtain ⟨ρ1, w1, w2, w3⟩ := r_widens N hN h hp hnn (if A 1 2 < A 1 3 then A 1 2 else A 1 3)
      have es2' : ρ1 1 (542 + 12 * p + 2) = A (12 + p) 1 := by
        rw [RR_sr w2 (k := 1) hp (by rw [qa_widen_p hp (by omega)]; exact hnn) (by omega), qa_widen_p hp (by omega)]
      have w4 := RR_s w2 (p := p) (k := 5) hp (by omega) (by omega) (A (12 + p) 1)
      rw [show 543 + 12 * p + 5 = 542 + 12 * p + 6 by omega] at w4
      rw [w1]
      simp -implicitDefEqProofs (disch := first | assumption | omega) only [zLet_eq, zCall_some, zCallu_some, q_cq, zBool_0, zBool_1, q_gn, q_gl, q_sn, q_sl, q_al, q_la, q_ml, q_lm, q_ue, q_un, q_mA, q_mK, q_uA, q_uK, q_g6, q_rm, q_dv, es2']
      obtain ⟨ρ2, b1, b2⟩ := bt _ (by rw [ha]) (by rw [ha]; exact w4)
      rw [b1]
      exact ⟨ρ2, rfl, b2⟩
    · rw [if_pos (show A (12 + p) 3 < A 1 1 by rw [i_lt]; rw [i_le] at h2; omega), mR_goesOn_128]
      refine no ?_
      unfold qa_ask
      rw [if_pos h1, if_neg h2]
  · rw [if_neg h1]
    simp -implicitDefEqProofs (disch := first | assumption | omega) only [zLet_eq, zCall_some, zCallu_some, q_cq, zBool_0, zBool_1, q_gn, q_gl, q_sn, q_sl, q_al, q_la, q_ml, q_lm, q_ue, q_un, q_mA, q_mK, q_uA, q_uK, q_g6, q_rm, q_dv, es7]
    by_cases h2 : A (12 + p) 1 = A (12 + p) 6
    · have ha : qa_ask A p = (true, qa_change A p (2 * A (12 + p) 4)) := by
        unfold qa_ask
        rw [if_neg h1, if_pos h2]
      rw [if_pos (show A (12 + p) 6 = x by rw [← h2]; exact hl)]
      simp -implicitDefEqProofs (disch := first | assumption | omega) only [zLet_eq, zCall_some, zCallu_some, q_cq, zBool_0, zBool_1, q_gn, q_gl, q_sn, q_sl, q_al, q_la, q_ml, q_lm, q_ue, q_un, q_mA, q_mK, q_uA, q_uK, q_g6, q_rm, q_dv, es5, e3, pR_lesser]
      obtain ⟨ρ1, w1, w2, w3⟩ := r_widens N hN h hp hnn (if 2 * A (12 + p) 4 < A 1 3 then 2 * A (12 + p) 4 else A 1 3)
      rw [w1, zCallu_some]
      obtain ⟨ρ2, b1, b2⟩ := bt ρ1 (by rw [ha]) (by rw [ha]; exact w2)
      rw [b1]
      exact ⟨ρ2, rfl, b2⟩
    · rw [if_neg (show ¬ A (12 + p) 6 = x from fun w => h2 (by rw [w]; exact hl))]
      simp -implicitDefEqProofs (disch := first | assumption | omega) only [zLet_eq, zCall_some, zCallu_some, q_cq, zBool_0, zBool_1, q_gn, q_gl, q_sn, q_sl, q_al, q_la, q_ml, q_lm, q_ue, q_un, q_mA, q_mK, q_uA, q_uK, q_g6, q_rm, q_dv, es6, r_aheadOf N h g hp hnn hs]
      by_cases h3 : qa_beyond A p (A (12 + p) 1) = true
      · rw [if_pos h3, if_neg (show ¬ ((1 : Int32) = 0) by decide), mR_goesOn_128]
        refine no ?_
        unfold qa_ask
        rw [if_neg h1, if_neg h2, if_pos h3]
      · have ha : qa_ask A p = (true, zUp A (12 + p) 5 (A (12 + p) 1)) := by
          unfold qa_ask
          rw [if_neg h1, if_neg h2, if_neg h3]
        rw [if_neg h3, if_pos rfl]
        have w4 := RR_s h (p := p) (k := 5) hp (by omega) (by omega) (A (12 + p) 1)
        rw [show 543 + 12 * p + 5 = 542 + 12 * p + 6 by omega] at w4
        simp -implicitDefEqProofs (disch := first | assumption | omega) only [zLet_eq, zCall_some, zCallu_some, q_cq, zBool_0, zBool_1, q_gn, q_gl, q_sn, q_sl, q_al, q_la, q_ml, q_lm, q_ue, q_un, q_mA, q_mK, q_uA, q_uK, q_g6, q_rm, q_dv, es2]
        obtain ⟨ρ2, b1, b2⟩ := bt _ (by rw [ha]) (by rw [ha]; exact w4)
        rw [b1]
        exact ⟨ρ2, rfl, b2⟩
