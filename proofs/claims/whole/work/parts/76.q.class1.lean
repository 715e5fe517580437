/-! THE CLASS AGAINST THE ABSTRACT PLANNER: log, trace, cache -/
theorem q_rm {β : Type} {a d : Nat} {k : Int32 → Option β} (ha : a < 2 ^ 31) (h0 : 0 < (OfNat.ofNat d : Nat)) (hd : (OfNat.ofNat d : Nat) < 2 ^ 31) : zRem (nI a) (no_index (OfNat.ofNat d)) k = k (nI (a % (OfNat.ofNat d : Nat))) := by
  have e : ¬ (nI d = 0) := nI_ne0 h0 hd
  show zRem (nI a) (nI d) k = _
  rw [zRem_ok e]
  exact congrArg k (pk_rem ha h0 hd)
theorem q_dv {β : Type} {a d : Nat} {k : Int32 → Option β} (ha : a < 2 ^ 31) (h0 : 0 < (OfNat.ofNat d : Nat)) (hd : (OfNat.ofNat d : Nat) < 2 ^ 31) : zDiv (nI a) (no_index (OfNat.ofNat d)) k = k (nI (a / (OfNat.ofNat d : Nat))) := by
  have e : ¬ (nI d = 0) := nI_ne0 h0 hd
  show zDiv (nI a) (nI d) k = _
  rw [zDiv_ok e]
  exact congrArg k (pk_div ha h0 hd)
def RKl (κ A : ST) : Prop := ∃ nx l : Nat, nx < 40 ∧ l ≤ 40 ∧ κ 22 1 = nI nx ∧ κ 22 2 = nI l ∧ A 22 2 = nI l ∧ ∀ i w, i < l → w < 4 → A 23 (4 * i + w) = κ 23 (4 * ((nx + 40 - l + i) % 40) + w)
theorem qmix_log {A κ : ST} {r n a b : Int32} : qmix (qa_log A r n a b) κ = qmix A κ := by
  funext c
  unfold qmix
  by_cases h : c ≤ 2 ∨ (11 ≤ c ∧ c ≤ 17) ∨ (24 ≤ c ∧ c ≤ 26)
  · rw [if_pos h, if_pos h]
    unfold qa_log
    split
    · funext k
      show (if c = 23 then _ else _) = _
      rw [if_neg (by omega)]
    · funext k
      simp (disch := first | assumption | omega) only [q_un]
  · rw [if_neg h, if_neg h]
theorem qc_add (N : Nat) {A κ : ST} (h : RKl κ A) (r n a b : Int32) : ∃ κ', mE_X6_add N (qmix A κ) r n a b = some (qmix (qa_log A r n a b) κ') ∧ RKl κ' (qa_log A r n a b) ∧ ∀ c, c ≠ 22 → c ≠ 23 → κ' c = κ c := by
  obtain ⟨nx, l, h1, h2, e1, e2, e3, h3⟩ := h
  rw [mE_X6_add]
  by_cases hl : l = 40
  · subst hl
    simp (disch := first | assumption | omega) only [zLet_eq, zCall_some, zCallu_some, q_cq, zBool_0, zBool_1, q_gn, q_gl, q_sn, q_sl, q_al, q_la, q_ml, q_lm, q_ue, q_un, q_mA, q_mK, q_uA, q_uK, q_g6, q_rm, q_dv, q_ltl, q_lel, q_llt, q_lle, q_eql, q_lt, q_le, q_eq, q_m1F, if_pos, if_neg, if_true, if_false, e1, e2, mE_X6_add_97, qmix_log]
    refine ⟨_, rfl, ⟨(nx + 1) % 40, 40, by omega, by omega, ?_, ?_, ?_, ?_⟩, ?_⟩
    · simp (disch := first | assumption | omega) only [q_ue, q_un]
    · simp (disch := first | assumption | omega) only [q_ue, q_un, e2]
    · unfold qa_log
      rw [if_pos (show A 22 2 = 40 from e3)]
      exact e3
    · intro i w hi hw
      unfold qa_log
      rw [if_pos (show A 22 2 = 40 from e3)]
      show (if (23 : Nat) = 23 then _ else _) = _
      rw [if_pos rfl]
      by_cases hi2 : i = 39
      · subst hi2
        rcases (show w = 0 ∨ w = 1 ∨ w = 2 ∨ w = 3 by omega) with rfl | rfl | rfl | rfl
        · simp (disch := first | assumption | omega) only [q_ue, q_un, q_ltl, q_lel, q_llt, q_lle, q_eql, q_lt, q_le, q_eq, q_m1F, if_pos, if_neg, if_true, if_false]
        · simp (disch := first | assumption | omega) only [q_ue, q_un, q_ltl, q_lel, q_llt, q_lle, q_eql, q_lt, q_le, q_eq, q_m1F, if_pos, if_neg, if_true, if_false]
        · simp (disch := first | assumption | omega) only [q_ue, q_un, q_ltl, q_lel, q_llt, q_lle, q_eql, q_lt, q_le, q_eq, q_m1F, if_pos, if_neg, if_true, if_false]
        · simp (disch := first | assumption | omega) only [q_ue, q_un, q_ltl, q_lel, q_llt, q_lle, q_eql, q_lt, q_le, q_eq, q_m1F, if_pos, if_neg, if_true, if_false]
      · rw [if_pos (by omega), show 4 * i + w + 4 = 4 * (i + 1) + w by omega, h3 (i + 1) w (by omega) hw]
        simp (disch := first | assumption | omega) only [q_un]
        congr 1
        omega
    · intro c hc hd
      simp (disch := first | assumption | omega) only [q_uc]
  · simp (disch := first | assumption | omega) only [zLet_eq, zCall_some, zCallu_some, q_cq, zBool_0, zBool_1, q_gn, q_gl, q_sn, q_sl, q_al, q_la, q_ml, q_lm, q_ue, q_un, q_mA, q_mK, q_uA, q_uK, q_g6, q_rm, q_dv, q_ltl, q_lel, q_llt, q_lle, q_eql, q_lt, q_le, q_eq, q_m1F, if_pos, if_neg, if_true, if_false, e1, e2, mE_X6_add_97, qmix_log]
    have e4 : ¬ A 22 2 = 40 := fun q => by
      rw [e3] at q
      simp (disch := first | assumption | omega) only [q_eql] at q
      omega
    have e5 : (A 22 2).toNatClampNeg = l := by rw [e3]; exact nI_clamp (by omega)
    refine ⟨_, rfl, ⟨(nx + 1) % 40, l + 1, by omega, by omega, ?_, ?_, ?_, ?_⟩, ?_⟩
    · simp (disch := first | assumption | omega) only [q_ue, q_un]
    · simp (disch := first | assumption | omega) only [q_ue, q_un, e2]
    · unfold qa_log
      rw [if_neg e4]
      simp (disch := first | assumption | omega) only [q_ue, e3, q_al]
    · intro i w hi hw
      unfold qa_log
      rw [if_neg e4]
      simp (disch := first | assumption | omega) only [q_un, e5]
      by_cases hi2 : i = l
      · subst hi2
        rcases (show w = 0 ∨ w = 1 ∨ w = 2 ∨ w = 3 by omega) with rfl | rfl | rfl | rfl
        · simp (disch := first | assumption | omega) only [q_ue, q_un, q_ltl, q_lel, q_llt, q_lle, q_eql, q_lt, q_le, q_eq, q_m1F, if_pos, if_neg, if_true, if_false]
        · simp (disch := first | assumption | omega) only [q_ue, q_un, q_ltl, q_lel, q_llt, q_lle, q_eql, q_lt, q_le, q_eq, q_m1F, if_pos, if_neg, if_true, if_false]
        · simp (disch := first | assumption | omega) only [q_ue, q_un, q_ltl, q_lel, q_llt, q_lle, q_eql, q_lt, q_le, q_eq, q_m1F, if_pos, if_neg, if_true, if_false]
        · simp (disch := first | assumption | omega) only [q_ue, q_un, q_ltl, q_lel, q_llt, q_lle, q_eql, q_lt, q_le, q_eq, q_m1F, if_pos, if_neg, if_true, if_false]
      · simp (disch := first | assumption | omega) only [q_un]
        rw [h3 i w (by omega) hw]
        congr 1
        omega
    · intro c hc hd
      simp (disch := first | assumption | omega) only [q_uc]
def RKh (κ H : ST) : Prop := ∃ el l : Nat, el < 400 ∧ l ≤ 400 ∧ κ 18 3 = nI el ∧ κ 18 4 = nI l ∧ H 18 4 = nI l ∧ ∀ i, i < l → H 19 i = κ 19 ((el + i) % 400) ∧ H 20 i = κ 20 ((el + i) % 400) ∧ H 21 i = κ 21 ((el + i) % 400)
theorem qc_hadd (N : Nat) {A κ H : ST} (h : RKh κ H) (x num kind : Int32) : ∃ κ', mE_X3_add N (qmix A κ) x num kind = some (qmix A κ') ∧ RKh κ' (qa_trace H x num kind) ∧ ∀ c, c < 18 ∨ 21 < c → κ' c = κ c := by
  obtain ⟨el, l, h1, h2, e1, e2, e3, h3⟩ := h
  rw [mE_X3_add]
  by_cases hl : l = 400
  · subst hl
    have e3' : H 18 4 = 400 := e3
    simp (disch := first | assumption | omega) only [zLet_eq, zCall_some, zCallu_some, q_cq, zBool_0, zBool_1, q_gn, q_gl, q_sn, q_sl, q_al, q_la, q_ml, q_lm, q_ue, q_un, q_mA, q_mK, q_uA, q_uK, q_g6, q_rm, q_dv, q_ltl, q_lel, q_llt, q_lle, q_eql, q_lt, q_le, q_eq, q_m1F, if_pos, if_neg, if_true, if_false, e1, e2, nI_add, mE_X3_add_82]
    refine ⟨_, rfl, ⟨(el + 1) % 400, 400, by omega, by omega, ?_, ?_, ?_, ?_⟩, ?_⟩
    · simp (disch := first | assumption | omega) only [q_ue, q_un]
    · simp (disch := first | assumption | omega) only [q_ue, q_un, e2]
    · unfold qa_trace
      rw [if_pos e3']
      exact e3
    · intro i hi
      unfold qa_trace
      rw [if_pos e3']
      by_cases hi2 : i = 399
      · subst hi2
        simp (disch := first | assumption | omega) only [q_ue, q_un, q_ltl, q_lel, q_llt, q_lle, q_eql, q_lt, q_le, q_eq, q_m1F, if_pos, if_neg, if_true, if_false]
        exact ⟨trivial, trivial, trivial⟩
      · obtain ⟨f1, f2, f3⟩ := h3 (i + 1) (by omega)
        simp (disch := first | assumption | omega) only [q_ue, q_un, q_ltl, q_lel, q_llt, q_lle, q_eql, q_lt, q_le, q_eq, q_m1F, if_pos, if_neg, if_true, if_false]
        rw [f1, f2, f3, show (el + (i + 1)) % 400 = ((el + 1) % 400 + i) % 400 by omega]
        exact ⟨rfl, rfl, rfl⟩
    · intro c hc
      simp (disch := first | assumption | omega) only [q_uc]
  · have e4 : ¬ H 18 4 = 400 := fun q => by
      rw [e3] at q
      simp (disch := first | assumption | omega) only [q_eql] at q
      omega
    have e5 : (H 18 4).toNatClampNeg = l := by rw [e3]; exact nI_clamp (by omega)
    simp (disch := first | assumption | omega) only [zLet_eq, zCall_some, zCallu_some, q_cq, zBool_0, zBool_1, q_gn, q_gl, q_sn, q_sl, q_al, q_la, q_ml, q_lm, q_ue, q_un, q_mA, q_mK, q_uA, q_uK, q_g6, q_rm, q_dv, q_ltl, q_lel, q_llt, q_lle, q_eql, q_lt, q_le, q_eq, q_m1F, if_pos, if_neg, if_true, if_false, e1, e2, nI_add, mE_X3_add_82]
    refine ⟨_, rfl, ⟨el, l + 1, by omega, by omega, ?_, ?_, ?_, ?_⟩, ?_⟩
    · simp (disch := first | assumption | omega) only [q_ue, q_un, e1]
    · simp (disch := first | assumption | omega) only [q_ue, q_un, e2]
    · unfold qa_trace
      rw [if_neg e4]
      simp (disch := first | assumption | omega) only [q_ue, e3, q_al]
    · intro i hi
      unfold qa_trace
      rw [if_neg e4]
      by_cases hi2 : i = l
      · subst hi2
        simp (disch := first | assumption | omega) only [q_ue, q_un, e5]
        exact ⟨trivial, trivial, trivial⟩
      · obtain ⟨f1, f2, f3⟩ := h3 i (by omega)
        simp (disch := first | assumption | omega) only [q_ue, q_un, e5]
        exact ⟨f1, f2, f3⟩
    · intro c hc
      simp (disch := first | assumption | omega) only [q_uc]
/-! the cache -/
def RKs (κ C : ST) (n : Nat) : Prop := (∀ s, s < n → ∃ b, b < 10000 ∧ C b 0 = 1 ∧ κ 10 b = nI (s + 1) ∧ κ 4 s = nI b ∧ κ 5 s = C b 1 ∧ κ 6 s = C b 2 ∧ κ 7 s = C b 3 ∧ κ 8 s = C b 4 ∧ κ 9 s = C b 5 ∧ (C b 5 = 0 ∨ C b 5 = 1)) ∧ (∀ b, b < 10000 → C b 0 = 1 → ∃ s, s < n ∧ κ 4 s = nI b) ∧ (∀ b, b < 10000 → ¬ C b 0 = 1 → κ 10 b = 0)
def RKc (κ C : ST) : Prop := κ 3 9 = C 10000 0 ∧ κ 3 8 = nI (qah C) ∧ ∃ n, n ≤ 64 ∧ κ 3 7 = nI n ∧ RKs κ C n
theorem nI_inj {a b : Nat} (ha : a < 2 ^ 31) (hb : b < 2 ^ 31) (h : nI a = nI b) : a = b := (nI_eq ha hb).mp h
theorem RKs_at {κ C : ST} {n b : Nat} (h : RKs κ C n) (hb : b < 10000) (hc : C b 0 = 1) : ∃ s, s < n ∧ κ 10 b = nI (s + 1) ∧ κ 4 s = nI b ∧ κ 5 s = C b 1 ∧ κ 6 s = C b 2 ∧ κ 7 s = C b 3 ∧ κ 8 s = C b 4 ∧ κ 9 s = C b 5 ∧ (C b 5 = 0 ∨ C b 5 = 1) := by
  obtain ⟨s, hs, e⟩ := h.2.1 b hb hc
  obtain ⟨b', hb', hc', e1, e2, e3⟩ := h.1 s hs
  have : b = b' := nI_inj (by omega) (by omega) (e.symm.trans e2)
  subst this
  exact ⟨s, hs, e1, e2, e3⟩
theorem RKs_cnt {κ C : ST} {n : Nat} (h : RKs κ C n) (hn : n ≤ 64) (P : Nat → Bool) : qcnt (fun s => P (κ 4 s).toNatClampNeg) n = qcnt (fun b => decide (C b 0 = 1) && P b) 10000 := by
  have hf : ∀ i, i < n → ∃ b, b < 10000 ∧ C b 0 = 1 ∧ (κ 4 i).toNatClampNeg = b ∧ κ 10 b = nI (i + 1) := fun i hi => by
    obtain ⟨b, hb, hc, e1, e2, -⟩ := h.1 i hi
    exact ⟨b, hb, hc, by rw [e2]; exact nI_clamp (by omega), e1⟩
  rw [← qcnt_bij (f := fun i => (κ 4 i).toNatClampNeg) (occ := fun _ => true) (n := n) (P := fun b => decide (C b 0 = 1) && P b)]
  · apply qcnt_congr
    intro i hi
    obtain ⟨b, hb, hc, e, -⟩ := hf i hi
    simp [e, hc]
  · intro i hi _
    obtain ⟨b, hb, hc, e, -⟩ := hf i hi
    show (κ 4 i).toNatClampNeg < 10000
    omega
  · intro i j hi hj _ _ q
    obtain ⟨b, hb, hc, e, e2⟩ := hf i hi
    obtain ⟨b', hb', hc', e', e2'⟩ := hf j hj
    have : b = b' := by rw [← e, ← e']; exact q
    subst this
    have := nI_inj (by omega) (by omega) (e2.symm.trans e2')
    omega
  · intro b hb hp
    simp at hp
    obtain ⟨s, hs, -, e, -⟩ := RKs_at h hb hp.1
    exact ⟨s, hs, rfl, by show (κ 4 s).toNatClampNeg = b; rw [e]; exact nI_clamp (by omega)⟩
theorem qcnt_true : ∀ n : Nat, qcnt (fun _ => true) n = n := by
  intro n
  induction n with
  | zero => rfl
  | succ n ih => rw [qcnt_s, ih]; rfl
theorem RKs_n {κ C : ST} {n : Nat} (h : RKs κ C n) (hn : n ≤ 64) : qin C = n := by
  have e := RKs_cnt h hn (fun _ => true)
  rw [qcnt_true] at e
  rw [e]
  unfold qin
  exact qcnt_congr (fun i _ => (Bool.and_true _).symm)
theorem qc_slotOf (N : Nat) {A κ : ST} {b : Nat} (hb : b < 10000) : mE_X0_slotOf N (qmix A κ) (nI b) = some (κ 10 b - 1, qmix A κ) := by
  rw [mE_X0_slotOf]
  simp (disch := first | assumption | omega) only [zLet_eq, zCall_some, zCallu_some, q_cq, zBool_0, zBool_1, q_gn, q_gl, q_sn, q_sl, q_al, q_la, q_ml, q_lm, q_ue, q_un, q_mA, q_mK, q_uA, q_uK, q_g6, q_rm, q_dv, q_ltl, q_lel, q_llt, q_lle, q_eql, q_lt, q_le, q_eq, q_m1F, if_pos, if_neg, if_true, if_false, mE_X0_slotOf_23]
theorem vn_0 : vp_nar .boolean 0 = 0 := by decide
theorem vn_1 : vp_nar .boolean 1 = 1 := by decide
theorem qa_touch_ne {C : ST} {b c : Nat} (h : c ≠ b) (h2 : c ≠ 10000) : qa_touch C b c = C c := by
  funext k
  unfold qa_touch
  rw [if_neg h, if_neg (by omega)]
theorem qa_put_ne {C : ST} {b c : Nat} {own r : Int32} (h : c ≠ b) (h2 : c ≠ 10000) : qa_put C b own r c = C c := by
  funext k
  unfold qa_put
  rw [if_neg h, if_neg (by omega)]
theorem qah_gen {C C' : ST} {b M : Nat} (hb : b < M) (h : ∀ c, c < M → c ≠ b → C' c = C c) (hd : ¬ (C' b 0 = 1 ∧ C' b 5 = 1)) : qcnt (fun b => decide (C' b 0 = 1 ∧ C' b 5 = 1)) M + (if C b 0 = 1 ∧ C b 5 = 1 then 1 else 0) = qcnt (fun b => decide (C b 0 = 1 ∧ C b 5 = 1)) M := by
  by_cases h1 : C b 0 = 1 ∧ C b 5 = 1
  · rw [if_pos h1]
    exact (qcnt_add (P := fun b => decide (C' b 0 = 1 ∧ C' b 5 = 1)) (Q := fun b => decide (C b 0 = 1 ∧ C b 5 = 1)) hb (decide_eq_false hd) (decide_eq_true h1) (fun i hi hne => by show decide (_) = decide (_); rw [h i hi hne])).symm
  · rw [if_neg h1]
    exact qcnt_congr (fun i hi => by
      by_cases e : i = b
      · subst e
        show decide (_) = decide (_)
        rw [decide_eq_false hd, decide_eq_false h1]
      · show decide (_) = decide (_)
        rw [h i hi e])
theorem qah_up {C C' : ST} {b M : Nat} (hb : b < M) (h : ∀ c, c < M → c ≠ b → C' c = C c) (hd : ¬ (C b 0 = 1 ∧ C b 5 = 1)) : qcnt (fun b => decide (C' b 0 = 1 ∧ C' b 5 = 1)) M = qcnt (fun b => decide (C b 0 = 1 ∧ C b 5 = 1)) M + (if C' b 0 = 1 ∧ C' b 5 = 1 then 1 else 0) :=
  (qah_gen (C := C') (C' := C) hb (fun c h1 h2 => (h c h1 h2).symm) hd).symm
theorem qah_touch {C : ST} {b : Nat} (hb : b < 10000) (hc : C b 0 = 1) : qah (qa_touch C b) + (if C b 5 = 1 then 1 else 0) = qah C := by
  have h := qah_gen (C := C) (C' := qa_touch C b) (M := 10000) hb (fun c h1 h2 => qa_touch_ne h2 (by omega)) (by simp [qa_touch])
  simp only [hc, true_and] at h
  exact h
theorem qah_out {C : ST} {b : Nat} (hb : b < 10000) (hc : C b 0 = 1) : qah (zUp C b 0 0) + (if C b 5 = 1 then 1 else 0) = qah C := by
  have h := qah_gen (C := C) (C' := zUp C b 0 0) (M := 10000) hb (fun c h1 h2 => q_uc h2) (by simp [q_get])
  simp only [hc, true_and] at h
  exact h
theorem qah_put {C : ST} {b : Nat} {own r : Int32} (hb : b < 10000) (hc : ¬ C b 0 = 1) : qah (qa_put C b own r) = qah C + (if own = -1 then 0 else 1) := by
  have h := qah_up (C := C) (C' := qa_put C b own r) (M := 10000) hb (fun c h1 h2 => qa_put_ne h2 (by omega)) (fun q => hc q.1)
  have e : (if qa_put C b own r b 0 = 1 ∧ qa_put C b own r b 5 = 1 then 1 else 0) = (if own = -1 then 0 else 1) := by
    by_cases ho : own = -1
    · simp [qa_put, ho]
    · simp [qa_put, ho]
  rw [e] at h
  exact h
theorem qc_touch (N : Nat) {A κ C : ST} {b s : Nat} (h : RKc κ C) (hb : b < 10000) (hc : C b 0 = 1) (hs : κ 10 b = nI (s + 1)) (hs2 : s < 64) : ∃ κ', mE_X0_touch N (qmix A κ) (nI s) = some (C b 5, qmix A κ') ∧ RKc κ' (qa_touch C b) ∧ ∀ c, c < 3 ∨ 9 < c → κ' c = κ c := by
  obtain ⟨e9, e8, n, hn, e7, hR⟩ := h
  obtain ⟨s', hs', g10, g4, g5, g6, g7, g8, g9, g⟩ := RKs_at hR hb hc
  have : s = s' := by
    have := nI_inj (by omega) (by omega) (hs.symm.trans g10)
    omega
  subst this
  have hq := qah_touch hb hc
  have key : ∀ κ' : ST, (∀ c, c ≠ 3 → c ≠ 5 → c ≠ 6 → c ≠ 9 → κ' c = κ c) → κ' 3 7 = nI n → κ' 3 8 = nI (qah (qa_touch C b)) → κ' 3 9 = κ 3 9 + 1 → (∀ t, t ≠ s → κ' 5 t = κ 5 t ∧ κ' 6 t = κ 6 t ∧ κ' 9 t = κ 9 t) → κ' 5 s = κ 3 9 + 1 → κ' 6 s = κ 6 s + 1 → κ' 9 s = 0 → RKc κ' (qa_touch C b) := by
    intro κ' k1 k2 k3 k4 k5 k6 k7 k8
    refine ⟨?_, k3, n, hn, k2, ?_, ?_, ?_⟩
    · rw [k4, e9]
      simp [qa_touch, show ¬ 10000 = b by omega]
    · intro t ht
      by_cases e : t = s
      · subst e
        refine ⟨b, hb, ?_, ?_, ?_, ?_, ?_, ?_, ?_, ?_, ?_⟩
        · simp [qa_touch, hc]
        · rw [k1 10 (by decide) (by decide) (by decide) (by decide), g10]
        · rw [k1 4 (by decide) (by decide) (by decide) (by decide), g4]
        · rw [k6, e9]; simp [qa_touch]
        · rw [k7, g6]; simp [qa_touch]
        · rw [k1 7 (by decide) (by decide) (by decide) (by decide), g7]; simp [qa_touch]
        · rw [k1 8 (by decide) (by decide) (by decide) (by decide), g8]; simp [qa_touch]
        · rw [k8]; simp [qa_touch]
        · simp [qa_touch]
      · obtain ⟨b', hb', hc', f10, f4, f5, f6, f7, f8, f9, f⟩ := hR.1 t ht
        have hne : b' ≠ b := fun q => by
          subst q
          have := nI_inj (by omega) (by omega) (f10.symm.trans g10)
          omega
        obtain ⟨m1, m2, m3⟩ := k5 t e
        refine ⟨b', hb', ?_⟩
        rw [qa_touch_ne hne (by omega), k1 10 (by decide) (by decide) (by decide) (by decide), k1 4 (by decide) (by decide) (by decide) (by decide), k1 7 (by decide) (by decide) (by decide) (by decide), k1 8 (by decide) (by decide) (by decide) (by decide), m1, m2, m3]
        exact ⟨hc', f10, f4, f5, f6, f7, f8, f9, f⟩
    · intro b' hb' hc'
      rw [k1 4 (by decide) (by decide) (by decide) (by decide)]
      by_cases e : b' = b
      · subst e; exact ⟨s, hs', g4⟩
      · rw [qa_touch_ne e (by omega)] at hc'
        exact hR.2.1 b' hb' hc'
    · intro b' hb' hc'
      rw [k1 10 (by decide) (by decide) (by decide) (by decide)]
      by_cases e : b' = b
      · subst e
        exact absurd (by simp [qa_touch, hc]) hc'
      · rw [qa_touch_ne e (by omega)] at hc'
        exact hR.2.2 b' hb' hc'
  rw [mE_X0_touch]
  rcases g with g | g
  · have h9 : κ 9 s = 0 := by rw [g9, g]
    rw [if_neg (by rw [g]; decide)] at hq
    simp (disch := first | assumption | omega) only [zLet_eq, zCall_some, zCallu_some, q_cq, zBool_0, zBool_1, q_gn, q_gl, q_sn, q_sl, q_al, q_la, q_ml, q_lm, q_ue, q_un, q_mA, q_mK, q_uA, q_uK, q_g6, q_rm, q_dv, q_ltl, q_lel, q_llt, q_lle, q_eql, q_lt, q_le, q_eq, q_m1F, if_pos, if_neg, if_true, if_false, e7, h9, mE_X0_touch_72, g]
    refine ⟨_, rfl, key _ ?_ ?_ ?_ ?_ ?_ ?_ ?_ ?_, ?_⟩
    · intro c h1 h2 h3 h4
      simp (disch := first | assumption | omega) only [q_uc]
    · simp (disch := first | assumption | omega) only [q_ue, q_un, e7]
    · simp (disch := first | assumption | omega) only [q_ue, q_un, e8]
      rw [show qah (qa_touch C b) = qah C by omega]
    · simp (disch := first | assumption | omega) only [q_ue, q_un]
    · intro t ht
      simp (disch := first | assumption | omega) only [q_ue, q_un, and_self]
    · simp (disch := first | assumption | omega) only [q_ue, q_un]
    · simp (disch := first | assumption | omega) only [q_ue, q_un]
    · simp (disch := first | assumption | omega) only [q_ue, q_un, h9]
    · intro c hc
      simp (disch := first | assumption | omega) only [q_uc]
  · have h9 : κ 9 s = 1 := by rw [g9, g]
    rw [if_pos g] at hq
    simp (disch := first | assumption | omega) only [zLet_eq, zCall_some, zCallu_some, q_cq, zBool_0, zBool_1, q_gn, q_gl, q_sn, q_sl, q_al, q_la, q_ml, q_lm, q_ue, q_un, q_mA, q_mK, q_uA, q_uK, q_g6, q_rm, q_dv, q_ltl, q_lel, q_llt, q_lle, q_eql, q_lt, q_le, q_eq, q_m1F, if_pos, if_neg, if_true, if_false, e7, h9, mE_X0_touch_72, g, vn_0, show ¬ ((1 : Int32) = 0) by decide]
    refine ⟨_, rfl, key _ ?_ ?_ ?_ ?_ ?_ ?_ ?_ ?_, ?_⟩
    · intro c h1 h2 h3 h4
      simp (disch := first | assumption | omega) only [q_uc]
    · simp (disch := first | assumption | omega) only [q_ue, q_un, e7]
    · simp (disch := first | assumption | omega) only [q_ue, q_un, e8]
      rw [← hq]
      exact nI_pred _
    · simp (disch := first | assumption | omega) only [q_ue, q_un]
    · intro t ht
      simp (disch := first | assumption | omega) only [q_ue, q_un, and_self]
    · simp (disch := first | assumption | omega) only [q_ue, q_un]
    · simp (disch := first | assumption | omega) only [q_ue, q_un]
    · simp (disch := first | assumption | omega) only [q_ue, q_un]
    · intro c hc
      simp (disch := first | assumption | omega) only [q_uc]
