/-! THE REFERENCE: one read -/
theorem RR_self {F : ST} {q : Bool} {ρ A C H : ST} (h : RR F q ρ A C H) : RR ρ q ρ A C H := by
  obtain ⟨h1, h2, h3, h4, h5, h6, h7, h8, h9⟩ := h
  exact ⟨h1, h2, h3, h4, h5, h6, h7, ⟨fun _ _ _ _ => rfl, fun _ _ _ _ => rfl, rfl, rfl, h8.2.2.2.2⟩, h9⟩
theorem i_alg {x y z : Int32} (h : x - y = 0 - z) : x = y - z := by
  have h2 := congrArg Int32.toBitVec h
  apply Int32.toBitVec_inj.mp
  simp at h2 ⊢
  bv_omega
def rho_clr (ρ : ST) : ST := zUp (zUp (zUp (zUp (zUp ρ 0 13 0) 0 15 0) 0 16 0) 0 11 0) 0 12 (-1)
theorem rho_clr_c {ρ : ST} {c : Nat} (h : c ≠ 0) : rho_clr ρ c = ρ c := by unfold rho_clr; simp -implicitDefEqProofs (disch := first | assumption | omega) only [q_uc]
theorem RR_clr {F : ST} {q : Bool} {ρ A C H : ST} (h : RR F q ρ A C H) : RR (rho_clr ρ) true (rho_clr ρ) (qa_clr A) C H := by
  obtain ⟨h1, h2, h3, h4, h5, h6, h7, h8, h9⟩ := h
  have e1 : rho_clr ρ 1 = ρ 1 := rho_clr_c (by omega)
  have hA : ∀ c, c ≠ 0 → qa_clr A c = A c := fun c hc => by unfold qa_clr; simp -implicitDefEqProofs (disch := first | assumption | omega) only [q_uc]
  refine ⟨fun j hj => ?_, ⟨fun j m hj => ?_, ?_, ?_, ?_⟩, fun p hp => ?_, ?_, ?_, ?_, fun b hb => ?_, ⟨fun _ _ _ _ => rfl, fun _ _ _ _ => rfl, rfl, rfl, ?_⟩, fun _ => ⟨0, by omega, ?_, ?_, fun i hi => by omega⟩⟩
  · rw [e1, hA 1 (by omega)]; exact h1 j hj
  · rw [e1, hA 2 (by omega)]; exact h2.1 j m hj
  · rw [e1]; exact h2.2.1
  · rw [e1]; exact h2.2.2.1
  · rw [e1, hA 22 (by omega)]; exact h2.2.2.2
  · rw [e1, hA (12 + p) (by omega)]; exact h3 p hp
  · unfold RRl; rw [e1, hA 22 (by omega), hA 23 (by omega)]; exact h4
  · unfold RRh; rw [e1]; exact h5
  · unfold RRc RRe; rw [e1, hA 1 (by omega), hA 26 (by omega)]; exact h6
  · rw [rho_clr_c (by omega), rho_clr_c (by omega), hA 26 (by omega)]; exact h7 b hb
  · have : rho_clr ρ 0 13 = 0 := by unfold rho_clr; simp -implicitDefEqProofs (disch := first | assumption | omega) only [q_un, q_ue]
    rw [this]
    decide
  · unfold qa_clr; simp -implicitDefEqProofs (disch := first | assumption | omega) only [q_un, q_ue]; rfl
  · unfold rho_clr; simp -implicitDefEqProofs (disch := first | assumption | omega) only [q_un, q_ue]; rfl
theorem join_09 {p : Nat} : ∀ (m r : Nat) {A : ST}, r + m ≤ 6 → p < 6 → ((A 0 9 = nI p ∧ ¬ A (12 + p) 0 = -1) ∨ (A 0 9 = -1 ∧ A (12 + p) 0 = -1)) → (qa_join p m r A 0 9 = nI p ∧ ¬ qa_join p m r A (12 + p) 0 = -1) ∨ (qa_join p m r A 0 9 = -1 ∧ qa_join p m r A (12 + p) 0 = -1) := by
  intro m
  induction m with
  | zero => intro r A _ _ h; exact h
  | succ m ih =>
    intro r A hr hp h
    rw [qa_join]
    by_cases e : A (12 + p) 0 = -1
    · rw [if_pos e]; exact h
    · rw [if_neg e]
      by_cases e2 : r = p ∨ A (12 + r) 0 = -1 ∨ A (12 + p) 2 = 0 ∨ ¬ A (12 + r) 2 = A (12 + p) 2 ∨ ¬ A (12 + r) 1 = A (12 + p) 1
      · rw [if_pos e2]; exact ih (r + 1) (by omega) hp h
      · rw [if_neg e2]
        have hrp : r ≠ p := fun w => e2 (Or.inl w)
        by_cases e3 : A (12 + r) 0 ≤ A (12 + p) 0
        · rw [if_pos e3]
          exact ih (r + 1) (by omega) hp (Or.inr ⟨by simp -implicitDefEqProofs (disch := first | assumption | omega) only [q_un, q_ue], by simp -implicitDefEqProofs (disch := first | assumption | omega) only [q_un, q_ue]⟩)
        · rw [if_neg e3]
          refine ih (r + 1) (by omega) hp ?_
          rcases h with h | h
          · exact Or.inl ⟨by simp -implicitDefEqProofs (disch := first | assumption | omega) only [q_un]; exact h.1, by simp -implicitDefEqProofs (disch := first | assumption | omega) only [q_un]; exact h.2⟩
          · exact absurd h.2 e
theorem r_107 (N : Nat) (hN : 1300 < N) {F : ST} {q : Bool} {ρ A C H : ST} {t b i : Nat} (h : RR F q ρ A C H) (g : Gd A C t) (ht : t < 9000000) (hb : b < 10000) (h2 : (b : Int) < (A 1 7).toInt) (hx : XIN C (nI b)) (hq : q = true → A 0 8 = 0) (hi : i < 64) (he : ρ 1 (31 + 8 * i) = contF (A 26 b)) :
    ∃ ρ' it, mR_readOne_107 N ρ (nI b) (nI (30 + 8 * i)) = some (contF (A 26 b), ρ') ∧ RR (Fr F (qa_rest A C H b).1 it) q ρ' (qa_rest A C H b).2.1 (qa_rest A C H b).2.2.1 (qa_rest A C H b).2.2.2 ∧ (((qa_rest A C H b).2.1 0 9 = -1 ∧ it = -1) ∨ ∃ p, p < 6 ∧ (qa_rest A C H b).2.1 0 9 = nI p ∧ it = nI (542 + 12 * p)) := by
  obtain ⟨f1, f2, f3, f4, f5, f6, f7, f8⟩ := find_ok g (by omega) hb h2
  obtain ⟨ρ1, o1, o2⟩ := r_finds N (by omega) h g (by omega) hb h2 hx hq
  have hct : ρ 1 (30 + 8 * i + 1) = contF (A 26 b) := by rw [show 30 + 8 * i + 1 = 31 + 8 * i by omega]; exact he
  have key : Gd (if (qa_find A (nI b)).1 = 1 ∨ (qa_find A (nI b)).1 = 3 then qa_goes (qa_find A (nI b)).2.2 C (qa_find A (nI b)).2.1 (nI b) else ((qa_find A (nI b)).2.2, C)).1 (if (qa_find A (nI b)).1 = 1 ∨ (qa_find A (nI b)).1 = 3 then qa_goes (qa_find A (nI b)).2.2 C (qa_find A (nI b)).2.1 (nI b) else ((qa_find A (nI b)).2.2, C)).2 (t + 97) ∧ (if (qa_find A (nI b)).1 = 1 ∨ (qa_find A (nI b)).1 = 3 then qa_goes (qa_find A (nI b)).2.2 C (qa_find A (nI b)).2.1 (nI b) else ((qa_find A (nI b)).2.2, C)).1 (12 + (qa_find A (nI b)).2.1) 0 = (qa_find A (nI b)).2.2 (12 + (qa_find A (nI b)).2.1) 0 ∧ (if (qa_find A (nI b)).1 = 1 ∨ (qa_find A (nI b)).1 = 3 then qa_goes (qa_find A (nI b)).2.2 C (qa_find A (nI b)).2.1 (nI b) else ((qa_find A (nI b)).2.2, C)).1 0 9 = (qa_find A (nI b)).2.2 0 9 := by
    by_cases e : (qa_find A (nI b)).1 = 1 ∨ (qa_find A (nI b)).1 = 3
    · rw [if_pos e]
      obtain ⟨g1, g2, g3, g4, g5⟩ := goes_ok f1 (by omega) hx f2 f3 (f5 e)
      exact ⟨Gd_mono g1 (by omega), g3 _ 0 f2 (by omega) (by omega) (by omega) (by omega) (by omega), g5⟩
    · rw [if_neg e]
      exact ⟨Gd_mono f1 (by omega), rfl, rfl⟩
  rw [mR_readOne_107]
  simp -implicitDefEqProofs (disch := first | assumption | omega) only [zLet_eq, zCall_some, zCallu_some, q_cq, zBool_0, zBool_1, q_gn, q_gl, q_sn, q_sl, q_al, q_la, q_ml, q_lm, q_ue, q_un, q_mA, q_mK, q_uA, q_uK, q_g6, q_rm, q_dv, hct]
  rw [o1, zCallu_some]
  unfold qa_rest
  dsimp only
  generalize (if (qa_find A (nI b)).1 = 1 ∨ (qa_find A (nI b)).1 = 3 then qa_goes (qa_find A (nI b)).2.2 C (qa_find A (nI b)).2.1 (nI b) else ((qa_find A (nI b)).2.2, C)) = gg at *
  generalize qa_find A (nI b) = f at *
  obtain ⟨kind, p, A1⟩ := f
  obtain ⟨A2, C2⟩ := gg
  dsimp only at *
  obtain ⟨k1, k2, k3⟩ := key
  have hn2 : ¬ A2 (12 + p) 0 = -1 := by rw [k2]; exact f3
  have e12 := (RR_11 o2).2
  have en : ρ1 1 (542 + 12 * p + 1) = A2 (12 + p) 0 := by
    have := RR_sr o2 (k := 0) f2 (by simp -implicitDefEqProofs (disch := first | assumption | omega) only [q_un]; exact hn2) (by omega)
    rw [this]
    simp -implicitDefEqProofs (disch := first | assumption | omega) only [q_un]
  have ei : itsF (zUp A2 (12 + p) 7 (C2 10000 0)) p = nI (542 + 12 * p) := if_neg (by simp -implicitDefEqProofs (disch := first | assumption | omega) only [q_un]; exact hn2)
  have g3 : Gd (zUp A2 (12 + p) 7 (C2 10000 0)) C2 (t + 97) := Gd_o k1 (by omega)
  obtain ⟨ρ2, j1, j2⟩ := r_join_loop N (F := F) (q := q) (H := H) (hw := kind) f2 6 0 (n := N) (by omega) (by omega) (by rw [ei]; exact o2) g3
  obtain ⟨ρ3, t1, t2⟩ := r_traces N hN (x := nI b) (num := A2 (12 + p) 0) j2 (RR_11 j2).1
  have j1' : mR_joins N ρ1 = some ρ2 := j1
  have j9 := join_09 (p := p) 6 0 (A := zUp A2 (12 + p) 7 (C2 10000 0)) (by omega) f2 (Or.inl ⟨by simp -implicitDefEqProofs (disch := first | assumption | omega) only [q_un]; rw [k3, f7], by simp -implicitDefEqProofs (disch := first | assumption | omega) only [q_un]; exact hn2⟩)
  refine ⟨ρ3, itsF (qa_join p 6 0 (zUp A2 (12 + p) 7 (C2 10000 0))) p, ?_, ?_, ?_⟩
  · simp -implicitDefEqProofs (disch := first | assumption | omega) only [zLet_eq, zCall_some, zCallu_some, q_cq, zBool_0, zBool_1, q_gn, q_gl, q_sn, q_sl, q_al, q_la, q_ml, q_lm, q_ue, q_un, q_mA, q_mK, q_uA, q_uK, q_g6, q_rm, q_dv, e12, en, j1', t1]
  · rw [q_un (by omega)]
    exact t2
  · unfold itsF
    rcases j9 with w | w
    · rw [if_neg w.2]
      exact Or.inr ⟨p, f2, w.1, rfl⟩
    · rw [if_pos w.2]
      exact Or.inl ⟨w.1, rfl⟩
theorem r_read (N : Nat) (hN : 1300 < N) {F : ST} {q : Bool} {ρ A C H : ST} {t b : Nat} (h : RR F q ρ A C H) (g : Gd A C t) (ht : t < 8000000) (hb : b < 10000) (h2 : (b : Int) < (A 1 7).toInt) :
    ∃ ρ', mR_readOne N ρ (nI b) = some (if C b 0 = 1 ∨ 0 ≤ A 26 b then contF (A 26 b) else -2, ρ') ∧ RR ρ' true ρ' (qa_take A C H b).2.1 (qa_take A C H b).2.2.1 (qa_take A C H b).2.2.2 ∧ (∀ c, c ≠ 0 → c ≠ 1 → c ≠ 14 → ρ' c = ρ c) ∧ (∀ k, k ≠ 11 → k ≠ 12 → k ≠ 13 → k ≠ 15 → k ≠ 16 → ρ' 0 k = ρ 0 k) ∧ ρ' 0 11 = (qa_take A C H b).1 ∧ (((qa_take A C H b).2.1 0 9 = -1 ∧ ρ' 0 12 = -1) ∨ ∃ p, p < 6 ∧ (qa_take A C H b).2.1 0 9 = nI p ∧ ρ' 0 12 = nI (542 + 12 * p)) ∧ ρ' 0 16 = (qa_take A C H b).2.1 2 6 - A 2 6 ∧ ρ' 0 15 = (qa_take A C H b).2.1 2 7 - A 2 7 := by
  have hc := RR_clr h
  have gc := clr_ok g
  have e1 : qa_clr A 1 = A 1 := by unfold qa_clr; simp -implicitDefEqProofs (disch := first | assumption | omega) only [q_uc]
  have e2 : qa_clr A 2 = A 2 := by unfold qa_clr; simp -implicitDefEqProofs (disch := first | assumption | omega) only [q_uc]
  have e26 : qa_clr A 26 = A 26 := by unfold qa_clr; simp -implicitDefEqProofs (disch := first | assumption | omega) only [q_uc]
  have e08 : qa_clr A 0 8 = 0 := by unfold qa_clr; simp -implicitDefEqProofs (disch := first | assumption | omega) only [q_un, q_ue]
  have fin : ∀ (kind it : Int32) (ρ' A' C' H' : ST), RR (Fr (rho_clr ρ) kind it) true ρ' A' C' H' → RR ρ' true ρ' A' C' H' ∧ (∀ c, c ≠ 0 → c ≠ 1 → c ≠ 14 → ρ' c = ρ c) ∧ (∀ k, k ≠ 11 → k ≠ 12 → k ≠ 13 → k ≠ 15 → k ≠ 16 → ρ' 0 k = ρ 0 k) ∧ ρ' 0 11 = kind ∧ ρ' 0 12 = it ∧ ρ' 0 16 = A' 2 6 - A 2 6 ∧ ρ' 0 15 = A' 2 7 - A 2 7 := fun kind it ρ' A' C' H' hr => by
    obtain ⟨x1, x2, x3, x4, x5⟩ := hr.2.2.2.2.2.2.2.1
    have e16 : ρ' 1 16 = A' 2 6 := hr.2.1.1 6 16 (by unfold cmap; omega)
    have e17 : ρ' 1 17 = A' 2 7 := hr.2.1.1 7 17 (by unfold cmap; omega)
    have r16 : ρ 1 16 = A 2 6 := h.2.1.1 6 16 (by unfold cmap; omega)
    have r17 : ρ 1 17 = A 2 7 := h.2.1.1 7 17 (by unfold cmap; omega)
    have c16 : rho_clr ρ 0 16 = 0 := by unfold rho_clr; simp -implicitDefEqProofs (disch := first | assumption | omega) only [q_un, q_ue]
    have c15 : rho_clr ρ 0 15 = 0 := by unfold rho_clr; simp -implicitDefEqProofs (disch := first | assumption | omega) only [q_un, q_ue]
    refine ⟨RR_self hr, fun c c0 c1 c2 => ?_, fun k k1 k2 k3 k4 k5 => ?_, (RR_11 hr).1, (RR_11 hr).2, ?_, ?_⟩
    · rw [x1 c c0 c1 c2]
      unfold Fr
      simp -implicitDefEqProofs (disch := first | assumption | omega) only [q_uc]
      exact rho_clr_c c0
    · rw [x2 k k3 k4 k5]
      unfold Fr rho_clr
      simp -implicitDefEqProofs (disch := first | assumption | omega) only [q_un]
    · unfold Fr at x3
      rw [q_un (by omega), q_un (by omega), q_un (by omega), q_un (by omega), c16, rho_clr_c (by omega), e16, r16] at x3
      exact i_alg x3
    · unfold Fr at x4
      rw [q_un (by omega), q_un (by omega), q_un (by omega), q_un (by omega), c15, rho_clr_c (by omega), e17, r17] at x4
      exact i_alg x4
  have go : ∀ v : Int32, (¬ C b 0 = 1 ∧ v = -1) ∨ (C b 0 = 1 ∧ ∃ i, i < 64 ∧ nI i < qa_clr A 1 0 ∧ RRe (rho_clr ρ) (qa_clr A) C i b ∧ v = nI (30 + 8 * i)) → ∃ ρ' it, mR_readOne_59 N (rho_clr ρ) (nI b) v = some (contF (A 26 b), ρ') ∧ RR (Fr (rho_clr ρ) (qa_rest (qa_got (qa_clr A) C b).1 (qa_got (qa_clr A) C b).2 H b).1 it) true ρ' (qa_rest (qa_got (qa_clr A) C b).1 (qa_got (qa_clr A) C b).2 H b).2.1 (qa_rest (qa_got (qa_clr A) C b).1 (qa_got (qa_clr A) C b).2 H b).2.2.1 (qa_rest (qa_got (qa_clr A) C b).1 (qa_got (qa_clr A) C b).2 H b).2.2.2 ∧ (((qa_rest (qa_got (qa_clr A) C b).1 (qa_got (qa_clr A) C b).2 H b).2.1 0 9 = -1 ∧ it = -1) ∨ ∃ p, p < 6 ∧ (qa_rest (qa_got (qa_clr A) C b).1 (qa_got (qa_clr A) C b).2 H b).2.1 0 9 = nI p ∧ it = nI (542 + 12 * p)) := fun v hv => by
    obtain ⟨g1, g2, g3, g4, g5, g6, g7⟩ := got_ok gc (by omega) hb (by rw [e1]; exact h2)
    have gi : Gd (zUp (qa_clr A) 2 0 (qa_clr A 2 0 + 1)) C (t + 1) := Gd_A gc (GA_inc gc.1 (by omega) (by omega)) (by omega) (q_uc (by omega)) (by rw [q_un (by omega)]; omega) (fun q hq => ⟨q_un (by omega), q_un (by omega)⟩)
    have e10 : rho_clr ρ 1 10 = qa_clr A 2 0 := hc.2.1.1 0 10 (by unfold cmap; omega)
    have h1 := RR_n hc (k := 0) (i := 10) (by unfold cmap; omega) (by omega) (by omega) (qa_clr A 2 0 + 1)
    have hq8 : true = true → (qa_got (qa_clr A) C b).1 0 8 = 0 := fun _ => by rw [g7]; exact e08
    rw [mR_readOne_59]
    simp -implicitDefEqProofs (disch := first | assumption | omega) only [zLet_eq, zCall_some, zCallu_some, q_cq, zBool_0, zBool_1, q_gn, q_gl, q_sn, q_sl, q_al, q_la, q_ml, q_lm, q_ue, q_un, q_mA, q_mK, q_uA, q_uK, q_g6, q_rm, q_dv, e10]
    rcases hv with ⟨v1, v2⟩ | ⟨v1, i, v2, v3, v4, v5⟩
    · rw [if_pos v2]
      have e12 : rho_clr ρ 1 12 = qa_clr A 2 2 := hc.2.1.1 2 12 (by unfold cmap; omega)
      have hm := RR_n h1 (k := 2) (i := 12) (by unfold cmap; omega) (by omega) (by omega) (zUp (qa_clr A) 2 0 (qa_clr A 2 0 + 1) 2 2 + 1)
      have gm : Gd (zUp (zUp (qa_clr A) 2 0 (qa_clr A 2 0 + 1)) 2 2 (zUp (qa_clr A) 2 0 (qa_clr A 2 0 + 1) 2 2 + 1)) C (t + 2) := Gd_A gi (GA_inc gi.1 (by omega) (by omega)) (by omega) (q_uc (by omega)) (by simp -implicitDefEqProofs (disch := first | assumption | omega) only [q_un]; omega) (fun q hq => ⟨q_un (by omega), q_un (by omega)⟩)
      have hx : XOK C (nI b) := fun c hc' e w => by
        have : c = b := nI_inj (by omega) (by omega) e
        subst this
        exact v1 w.1
      have eg : qa_got (qa_clr A) C b = qa_admit (zUp (qa_clr A) 2 0 (qa_clr A 2 0 + 1)) C b := by unfold qa_got; rw [if_neg v1]
      obtain ⟨ρ1, p1, p2⟩ := r_put N (by omega) (own := -1) hm gm (by omega) hx (Or.inr ⟨b, hb, rfl⟩) hb v1
      have p3 : RR (rho_clr ρ) true ρ1 (qa_got (qa_clr A) C b).1 (qa_got (qa_clr A) C b).2 H := by rw [eg]; exact p2
      have hin : (qa_got (qa_clr A) C b).2 b 0 = 1 := by
        rcases g2 with w | ⟨br, w1, w2, w3, w4⟩
        · exact absurd w (q_m1 (by omega))
        · have : b = br := nI_inj (by omega) (by omega) w2
          subst this
          exact w3
      rw [q_un (by omega)] at p1
      simp -implicitDefEqProofs (disch := first | assumption | omega) only [zLet_eq, zCall_some, zCallu_some, q_cq, zBool_0, zBool_1, q_gn, q_gl, q_sn, q_sl, q_al, q_la, q_ml, q_lm, q_ue, q_un, q_mA, q_mK, q_uA, q_uK, q_g6, q_rm, q_dv, e12]
      rw [p1, zCallu_some]
      rcases r_place N (by omega) p3 hb with ⟨n1, n2⟩ | ⟨n1, i0, n2, n3, n4, n5⟩
      · exact absurd hin n1
      · rw [n5, zCall_some]
        have key := r_107 N hN p3 g1 (by omega) hb (by rw [g3, e1]; exact h2) g2 hq8 n2 n4.2.2.1
        rw [g6, e26] at key
        exact key
    · rw [v5, if_neg (q_m1 (by omega))]
      have he1 : RRe (zUp (rho_clr ρ) 1 10 (qa_clr A 2 0 + 1)) (zUp (qa_clr A) 2 0 (qa_clr A 2 0 + 1)) C i b := RRe_A v4 (fun k _ _ => by rw [q_un (by omega)]) (q_uc (by omega))
      obtain ⟨ρ1, p1, p2, p4⟩ := r_hits N (by omega) h1 gi v2 (by rw [q_un (by omega)]; exact v3) hb he1
      have eg : qa_got (qa_clr A) C b = qa_hit (zUp (qa_clr A) 2 0 (qa_clr A 2 0 + 1)) C b := by unfold qa_got; rw [if_pos v1]
      rw [← eg] at p2
      rw [p1, zCallu_some]
      have hin : (qa_got (qa_clr A) C b).2 b 0 = 1 := by
        rcases g2 with w | ⟨br, w1, w2, w3, w4⟩
        · exact absurd w (q_m1 (by omega))
        · have : b = br := nI_inj (by omega) (by omega) w2
          subst this
          exact w3
      have hei : ρ1 1 (31 + 8 * i) = contF ((qa_got (qa_clr A) C b).1 26 b) := by
        rw [p4, q_un (by omega), v4.2.2.1, g6]
      have key := r_107 N hN p2 g1 (by omega) hb (by rw [g3, e1]; exact h2) g2 hq8 v2 hei
      rw [g6, e26] at key
      exact key
  have e5 : rho_clr ρ 5 b = (if 0 ≤ A 26 b then 0 else 1) := by rw [rho_clr_c (by omega)]; exact (h.2.2.2.2.2.2.1 b hb).2
  rw [mR_readOne]
  simp -implicitDefEqProofs (disch := first | assumption | omega) only [zLet_eq, zCall_some, zCallu_some, q_cq, zBool_0, zBool_1, q_gn, q_gl, q_sn, q_sl, q_al, q_la, q_ml, q_lm, q_ue, q_un, q_mA, q_mK, q_uA, q_uK, q_g6, q_rm, q_dv]
  rw [show zUp (zUp (zUp (zUp (zUp ρ 0 13 0) 0 15 0) 0 16 0) 0 11 0) 0 12 (-1) = rho_clr ρ from rfl]
  unfold qa_take
  rcases r_place N (by omega) hc hb with ⟨n1, n2⟩ | ⟨n1, i0, n2, n3, n4, n5⟩
  · rw [n2]
    simp -implicitDefEqProofs (disch := first | assumption | omega) only [zLet_eq, zCall_some, zCallu_some, q_cq, zBool_0, zBool_1, q_gn, q_gl, q_sn, q_sl, q_al, q_la, q_ml, q_lm, q_ue, q_un, q_mA, q_mK, q_uA, q_uK, q_g6, q_rm, q_dv, if_true, e5]
    by_cases c1 : 0 ≤ A 26 b
    · rw [if_pos c1, if_pos rfl, if_pos (Or.inr c1), if_pos (Or.inr c1)]
      obtain ⟨ρ', it, k1, k2, k3⟩ := go (-1) (Or.inl ⟨n1, rfl⟩)
      obtain ⟨m1, m2, m3, m4, m5, m6, m7⟩ := fin _ _ _ _ _ _ k2
      exact ⟨ρ', k1, m1, m2, m3, m4, by rw [m5]; exact k3, m6, m7⟩
    · have no : ¬ (C b 0 = 1 ∨ 0 ≤ A 26 b) := fun w => by rcases w with w | w; exact n1 w; exact c1 w
      have e13 : rho_clr ρ 1 13 = A 2 3 := by rw [← e2]; exact hc.2.1.1 3 13 (by unfold cmap; omega)
      rw [if_neg c1, if_neg (show ¬ ((1 : Int32) = 0) by decide), if_neg no, if_neg no]
      simp -implicitDefEqProofs (disch := first | assumption | omega) only [zLet_eq, zCall_some, zCallu_some, q_cq, zBool_0, zBool_1, q_gn, q_gl, q_sn, q_sl, q_al, q_la, q_ml, q_lm, q_ue, q_un, q_mA, q_mK, q_uA, q_uK, q_g6, q_rm, q_dv, e13]
      have h1 := RR_n hc (k := 3) (i := 13) (by unfold cmap; omega) (by omega) (by omega) (A 2 3 + 1)
      have h1' : RR (Fr (rho_clr ρ) 0 (-1)) true (zUp (rho_clr ρ) 1 13 (A 2 3 + 1)) (zUp (qa_clr A) 2 3 (A 2 3 + 1)) C H := by
        have := Fr_self (rho_clr ρ)
        rw [show rho_clr ρ 0 11 = 0 by unfold rho_clr; simp -implicitDefEqProofs (disch := first | assumption | omega) only [q_un, q_ue], show rho_clr ρ 0 12 = -1 by unfold rho_clr; simp -implicitDefEqProofs (disch := first | assumption | omega) only [q_un, q_ue]] at this
        rw [this]
        exact h1
      obtain ⟨m1, m2, m3, m4, m5, m6, m7⟩ := fin _ _ _ _ _ _ h1'
      exact ⟨_, rfl, m1, m2, m3, m4, Or.inl ⟨by unfold qa_clr; simp -implicitDefEqProofs (disch := first | assumption | omega) only [q_un, q_ue], m5⟩, m6, m7⟩
  · rw [n5]
    simp -implicitDefEqProofs (disch := first | assumption | omega) only [zLet_eq, zCall_some, zCallu_some, q_cq, zBool_0, zBool_1, q_gn, q_gl, q_sn, q_sl, q_al, q_la, q_ml, q_lm, q_ue, q_un, q_mA, q_mK, q_uA, q_uK, q_g6, q_rm, q_dv, q_m1F, if_false]
    rw [if_pos (Or.inl n1), if_pos (Or.inl n1)]
    obtain ⟨ρ', it, k1, k2, k3⟩ := go _ (Or.inr ⟨n1, i0, n2, n3, n4, rfl⟩)
    obtain ⟨m1, m2, m3, m4, m5, m6, m7⟩ := fin _ _ _ _ _ _ k2
    exact ⟨ρ', k1, m1, m2, m3, m4, by rw [m5]; exact k3, m6, m7⟩
