/-! THE REFERENCE: put with what goes, fetchAhead, batch -/
theorem hxi_of {x : Int32} (hx : x = -1 ∨ ∃ b, b < 10000 ∧ x = nI b) : ∀ b, b < 10000 → (nI (b + 1) = x + 1 ↔ nI b = x) := by
  intro b hb
  rcases hx with h | ⟨c, hc, h⟩
  · subst h
    constructor
    · intro w
      exact absurd w (nI_ne0 (by omega) (by omega))
    · intro w
      exact absurd w (q_m1 (by omega))
  · subst h
    rw [nI_1]
    constructor
    · intro w
      have := nI_inj (by omega) (by omega) w
      rw [show b = c by omega]
    · intro w
      have := nI_inj (by omega) (by omega) w
      rw [this]
theorem r_put (N : Nat) (hN : 200 < N) {F : ST} {q : Bool} {ρ A C H : ST} {t b : Nat} {x own : Int32} (h : RR F q ρ A C H) (g : Gd A C t) (ht : t < 1073741820) (hx : XOK C x) (hxb : x = -1 ∨ ∃ b, b < 10000 ∧ x = nI b) (hb : b < 10000) (hc0 : ¬ C b 0 = 1) : ∃ ρ', mR_put N ρ (nI b) x own = some ρ' ∧ RR F q ρ' (qa_room A C x).1 (qa_put (qa_room A C x).2 b own ((qa_room A C x).1 2 0)) H := by
  have htb := GT_b g.1.1
  obtain ⟨g1, g2, g3, g4, g5, g6, g7, g8⟩ := room_ok g (by omega) hx
  have tail : ∀ ρ1 : ST, RR F q ρ1 (qa_room A C x).1 (qa_room A C x).2 H → ∃ ρ', mR_put_22 N ρ1 (nI b) x own = some ρ' ∧ RR F q ρ' (qa_room A C x).1 (qa_put (qa_room A C x).2 b own ((qa_room A C x).1 2 0)) H := fun ρ1 h1 => by
    obtain ⟨r, r1, r2, r3, r4, r5⟩ := h1.2.2.2.2.2.1
    have e1 : (qa_room A C x).1 1 = A 1 := g3 1 (by omega) (by omega) (by omega) (by omega)
    have hcnt := RRc_in r1 r3 r4 r5
    have er : (A 1 0).toInt = r := by rw [← e1, r2, nI_toInt (by omega)]
    have hall : ∀ i, i < r → ρ1 1 (30 + 8 * i) = 0 ∨ ¬ ρ1 1 (30 + 8 * i) ≤ 0 := fun i hi => by
      rcases r3 i hi with z | ⟨c, hc, z⟩
      · exact Or.inl z
      · exact Or.inr (by rw [z.1]; exact nI_nle (by omega) (by omega))
    have hfree : ∃ i, 0 ≤ i ∧ i < r ∧ ρ1 1 (30 + 8 * i) = 0 := by
      refine Classical.byContradiction (fun w => ?_)
      have hfull : qcnt (fun i => decide (¬ ρ1 1 (30 + 8 * i) = 0)) r = qcnt (fun _ => true) r := qcnt_congr (fun i hi => decide_eq_true (fun z => w ⟨i, by omega, hi, z⟩))
      rw [qcnt_true] at hfull
      omega
    exact r_put_loop N (x := x) h1 hb (g7 b hb hc0) r1 r2 N 0 (by omega) hfree hall
  rw [mR_put, r_many N (by omega) h]
  have e0 : ρ 1 0 = A 1 0 := h.1 0 (by omega)
  have hq10 : qin C ≤ 10000 := qcnt_le _ _
  have hqr := g.2.1.2.2.2
  simp -implicitDefEqProofs (disch := first | assumption | omega) only [zLet_eq, zCall_some, zCallu_some, q_cq, zBool_0, zBool_1, q_gn, q_gl, q_sn, q_sl, q_al, q_la, q_ml, q_lm, q_ue, q_un, q_mA, q_mK, q_uA, q_uK, q_g6, q_rm, q_dv, e0]
  by_cases hf : nI (qin C) < A 1 0
  · have hne : ¬ nI (qin C) = A 1 0 := fun w => by
      rw [w, i_lt] at hf
      omega
    rw [if_neg hne]
    refine tail ρ ?_
    unfold qa_room
    rw [if_pos hf]
    exact h
  · have heq : nI (qin C) = A 1 0 := i_eq.mpr (by
      rw [i_lt] at hf
      rw [nI_toInt (by omega)] at hf ⊢
      omega)
    rw [if_pos heq]
    obtain ⟨i, i1, i2, i3, i4⟩ := r_who N (by omega) h g (by omega) x (hxi_of hxb) (qcand_ex g hx hf)
    have hv := qvic_of (qcand_ex g hx hf)
    obtain ⟨ρ1, o1, o2⟩ := r_goes N hN h g i1 i2 hv.1.1 i3
    rw [i4]
    simp -implicitDefEqProofs (disch := first | assumption | omega) only [zLet_eq, zCall_some, zCallu_some, q_cq, zBool_0, zBool_1, q_gn, q_gl, q_sn, q_sl, q_al, q_la, q_ml, q_lm, q_ue, q_un, q_mA, q_mK, q_uA, q_uK, q_g6, q_rm, q_dv, o1]
    refine tail ρ1 ?_
    unfold qa_room
    rw [if_neg hf]
    exact o2
/-- planned blocks -/
theorem RR_pl {F : ST} {q : Bool} {ρ A A' C H : ST} (h : RR F q ρ A C H) {k : Nat} {v w : Int32} (hw : 0 ≤ w.toInt ∧ w.toInt ≤ 64) (hA : ∀ c, c ≠ 0 → c ≠ 24 → A' c = A c) (hp : q = true → RRp (zUp (zUp ρ 14 k v) 0 13 w) A') : RR F q (zUp (zUp ρ 14 k v) 0 13 w) A' C H := by
  obtain ⟨h1, h2, h3, h4, h5, h6, h7, h8, h9⟩ := h
  have e1 : zUp (zUp ρ 14 k v) 0 13 w 1 = ρ 1 := by simp -implicitDefEqProofs (disch := first | assumption | omega) only [q_uc]
  refine ⟨fun j hj => ?_, ⟨fun j m hj => ?_, ?_, ?_, ?_⟩, fun p hp => ?_, ?_, ?_, ?_, fun b hb => ?_, ⟨fun c c0 c1 c2 => ?_, fun j k1 k2 k3 => ?_, ?_, ?_, ?_⟩, hp⟩
  · rw [e1, hA 1 (by omega) (by omega)]; exact h1 j hj
  · rw [e1, hA 2 (by omega) (by omega)]; exact h2.1 j m hj
  · rw [e1]; exact h2.2.1
  · rw [e1]; exact h2.2.2.1
  · rw [e1, hA 22 (by omega) (by omega)]; exact h2.2.2.2
  · rw [e1, hA (12 + p) (by omega) (by omega)]; exact h3 p hp
  · unfold RRl; rw [e1, hA 22 (by omega) (by omega), hA 23 (by omega) (by omega)]; exact h4
  · unfold RRh; rw [e1]; exact h5
  · unfold RRc RRe; rw [e1, hA 1 (by omega) (by omega), hA 26 (by omega) (by omega)]; exact h6
  · rw [hA 26 (by omega) (by omega)]; simp -implicitDefEqProofs (disch := first | assumption | omega) only [q_un]; exact h7 b hb
  · simp -implicitDefEqProofs (disch := first | assumption | omega) only [q_uc]; exact h8.1 c c0 c1 c2
  · simp -implicitDefEqProofs (disch := first | assumption | omega) only [q_un]; exact h8.2.1 j k1 k2 k3
  · rw [e1]; simp -implicitDefEqProofs (disch := first | assumption | omega) only [q_un]; exact h8.2.2.1
  · rw [e1]; simp -implicitDefEqProofs (disch := first | assumption | omega) only [q_un]; exact h8.2.2.2.1
  · rw [q_ue rfl rfl]; exact hw
theorem RR_Apl {F : ST} {ρ A A' C H : ST} (h : RR F false ρ A C H) (hA : ∀ c, c ≠ 0 → c ≠ 24 → A' c = A c) : RR F false ρ A' C H := by
  obtain ⟨h1, h2, h3, h4, h5, h6, h7, h8, h9⟩ := h
  refine ⟨fun j hj => ?_, ⟨fun j m hj => ?_, h2.2.1, h2.2.2.1, ?_⟩, fun p hp => ?_, ?_, h5, ?_, fun b hb => ?_, h8, fun w => by cases w⟩
  · rw [hA 1 (by omega) (by omega)]; exact h1 j hj
  · rw [hA 2 (by omega) (by omega)]; exact h2.1 j m hj
  · rw [hA 22 (by omega) (by omega)]; exact h2.2.2.2
  · rw [hA (12 + p) (by omega) (by omega)]; exact h3 p hp
  · unfold RRl; rw [hA 22 (by omega) (by omega), hA 23 (by omega) (by omega)]; exact h4
  · unfold RRc RRe; rw [hA 1 (by omega) (by omega), hA 26 (by omega) (by omega)]; exact h6
  · rw [hA 26 (by omega) (by omega)]; exact h7 b hb
theorem r_fetch (N : Nat) (hN : 200 < N) {F : ST} {q : Bool} {ρ A C H : ST} {t p b : Nat} {x : Int32} (h : RR F q ρ A C H) (g : Gd A C t) (ht : t < 1073741820) (hx : XOK C x) (hxb : x = -1 ∨ ∃ b, b < 10000 ∧ x = nI b) (hp : p < 6) (hn : ¬ A (12 + p) 0 = -1) (hb : b < 10000) (hc0 : ¬ C b 0 = 1) (hq : q = true → (A 0 8).toInt < 32) : ∃ ρ', mR_fetchAhead N ρ (nI b) x (nI (542 + 12 * p)) = some ρ' ∧ RR F q ρ' (qa_fetch A C p b x).1 (qa_fetch A C p b x).2 H := by
  obtain ⟨g1, g2, g3, g4, g5, g6, g7, g8⟩ := room_ok g (by omega) hx
  have es1 : ρ 1 (542 + 12 * p + 1) = A (12 + p) 0 := RR_sr h (k := 0) hp hn (by omega)
  have en : (qa_room A C x).1 (12 + p) 0 = A (12 + p) 0 := g5 p 0 hp (by omega) (by omega)
  have e08 : (qa_room A C x).1 0 = A 0 := g3 0 (by omega) (by omega) (by omega) (by omega)
  obtain ⟨ρ1, p1, p2⟩ := r_put N hN (own := A (12 + p) 0) h g ht hx hxb hb hc0
  rw [mR_fetchAhead]
  simp -implicitDefEqProofs (disch := first | assumption | omega) only [zLet_eq, zCall_some, zCallu_some, q_cq, zBool_0, zBool_1, q_gn, q_gl, q_sn, q_sl, q_al, q_la, q_ml, q_lm, q_ue, q_un, q_mA, q_mK, q_uA, q_uK, q_g6, q_rm, q_dv, es1, p1]
  unfold qa_fetch
  dsimp only
  rw [en]
  generalize hA1 : (qa_room A C x).1 = A1 at *
  generalize hC1 : qa_put (qa_room A C x).2 b (A (12 + p) 0) (A1 2 0) = C1 at *
  have e15 : ρ1 1 15 = A1 2 5 := p2.2.1.1 5 15 (by unfold cmap; omega)
  have e9 : ρ1 1 (542 + 12 * p + 9) = A1 (12 + p) 8 := RR_sr p2 (k := 8) hp (by rw [en]; exact hn) (by omega)
  have h2 := RR_n p2 (k := 5) (i := 15) (by unfold cmap; omega) (by omega) (by omega) (A1 2 5 + 1)
  have h3 := RR_s h2 (p := p) (k := 8) hp (by omega) (by omega) (A1 (12 + p) 8 + 1)
  rw [show 543 + 12 * p + 8 = 542 + 12 * p + 9 by omega] at h3
  have h13 := p2.2.2.2.2.2.2.2.1.2.2.2.2
  simp -implicitDefEqProofs (disch := first | assumption | omega) only [zLet_eq, zCall_some, zCallu_some, q_cq, zBool_0, zBool_1, q_gn, q_gl, q_sn, q_sl, q_al, q_la, q_ml, q_lm, q_ue, q_un, q_mA, q_mK, q_uA, q_uK, q_g6, q_rm, q_dv, e15, e9, mR_fetchAhead_67]
  unfold qa_fetched
  generalize hA2 : zUp (zUp A1 2 5 (A1 2 5 + 1)) (12 + p) 8 (A1 (12 + p) 8 + 1) = A2 at *
  have eA2 : A2 0 8 = A 0 8 := by rw [← hA2]; simp -implicitDefEqProofs (disch := first | assumption | omega) only [q_un]; rw [e08]
  generalize hρ2 : zUp (zUp ρ1 1 15 (A1 2 5 + 1)) 1 (542 + 12 * p + 9) (A1 (12 + p) 8 + 1) = ρ2 at *
  have e13 : ρ1 0 13 = ρ2 0 13 := by rw [← hρ2]; simp -implicitDefEqProofs (disch := first | assumption | omega) only [q_un]
  rw [e13] at h13 ⊢
  by_cases c1 : 64 ≤ ρ2 0 13
  · rw [if_pos c1]
    refine ⟨ρ2, rfl, ?_⟩
    cases q with
    | true =>
      obtain ⟨j, j1, j2, j3, -⟩ := h3.2.2.2.2.2.2.2.2 rfl
      rw [j3] at c1
      simp -implicitDefEqProofs (disch := first | assumption | omega) only [q_lle] at c1
      omega
    | false => exact RR_Apl h3 (fun c c1 c2 => qa_plan_c c1 c2)
  · rw [if_neg c1]
    obtain ⟨j, hj, ej⟩ := nI_of (x := ρ2 0 13) (fun w => by
      rw [i_lt, show (0 : Int32).toInt = 0 from by decide] at w
      omega)
    have hj2 : j < 64 := by
      rw [ej] at c1
      simp -implicitDefEqProofs (disch := first | assumption | omega) only [q_lle] at c1
      omega
    simp -implicitDefEqProofs (disch := first | assumption | omega) only [zLet_eq, zCall_some, zCallu_some, q_cq, zBool_0, zBool_1, q_gn, q_gl, q_sn, q_sl, q_al, q_la, q_ml, q_lm, q_ue, q_un, q_mA, q_mK, q_uA, q_uK, q_g6, q_rm, q_dv, ej]
    refine ⟨_, rfl, RR_pl h3 ?_ (fun c c1 c2 => qa_plan_c c1 c2) (fun hqt => ?_)⟩
    · rw [nI_toInt (by omega)]; omega
    · obtain ⟨j', j1, j2, j3, j4⟩ := h3.2.2.2.2.2.2.2.2 hqt
      have : j' = j := nI_inj (by omega) (by omega) (j3.symm.trans ej)
      subst this
      have hlt := hq hqt
      rw [← eA2, j2, nI_toInt (by omega)] at hlt
      unfold qa_plan
      rw [j2, if_neg (nI_pos (by omega)), if_neg (show ¬ (32 : Int32) ≤ nI j' by simp -implicitDefEqProofs (disch := first | assumption | omega) only [q_lle]; omega), nI_clamp (by omega)]
      refine ⟨j' + 1, by omega, ?_, q_ue rfl rfl, fun i hi => ?_⟩
      · rw [q_ue rfl rfl]; exact nI_1 j'
      · by_cases e : i = j'
        · subst e; simp -implicitDefEqProofs (disch := first | assumption | omega) only [q_un, q_ue]
        · simp -implicitDefEqProofs (disch := first | assumption | omega) only [q_un]
          exact j4 i (by omega)
