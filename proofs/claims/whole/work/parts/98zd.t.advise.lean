/-! advise -/
theorem Gd_adv {A C : ST} {t p : Nat} {x st : Int32} (h : Gd A C t) (ht : t < 1073741824) (hp : p < 6) (h1 : 0 ≤ x.toInt) (h2 : x.toInt < (A 1 7).toInt) (s1 : -64 ≤ st.toInt ∧ st.toInt ≤ 64) (s0 : ¬ st = 0) : Gd (zUp (zUp (qa_begin A p x) (12 + p) 2 st) (12 + p) 3 99) C (t + 1) ∧ ¬ qa_begin A p x (12 + p) 0 = -1 := by
  have hB := Gd_begin h ht hp h1 h2
  have hn : ¬ qa_begin A p x (12 + p) 0 = -1 := by
    rw [begin_p, if_pos rfl]
    intro w
    have := (h.1.2.1 14 (by omega)).1
    rw [w] at this
    exact absurd this (by decide)
  generalize qa_begin A p x = B at hB hn
  refine ⟨?_, hn⟩
  obtain ⟨a1, a2, a3, a4, a5, a6, a7, a8, a9, a10, a11, a12, a13⟩ := hB.1.2.2.1 p hp hn
  refine ⟨?_, ?_, ?_⟩
  · refine GA_s (GA_s hB.1 hp (by omega) ?_) hp (by omega) ?_
    · intro _
      unfold GSr
      simp -implicitDefEqProofs (disch := first | assumption | omega) only [pk_un, pk_us]
      exact ⟨a1, a2, a3, a4, by omega, by omega, a7, a8, a9, a10, fun _ => s0, a12, a13⟩
    · intro _
      unfold GSr
      simp -implicitDefEqProofs (disch := first | assumption | omega) only [pk_un, pk_us, q_un, q_ue]
      exact ⟨a1, a2, a3, a4, by omega, by omega, by decide, by decide, a9, a10, fun _ => s0, a12, a13⟩
  · exact GC_A hB.2.1 (by simp -implicitDefEqProofs (disch := first | assumption | omega) only [q_uc]) (by simp -implicitDefEqProofs (disch := first | assumption | omega) only [q_un]; omega)
  · intro b q hb hq hc hno e
    by_cases eq : q = p
    · subst eq
      simp -implicitDefEqProofs (disch := first | assumption | omega) only [q_un, q_ue]
      exact s0
    · simp -implicitDefEqProofs (disch := first | assumption | omega) only [q_un] at e
      simp -implicitDefEqProofs (disch := first | assumption | omega) only [q_un]
      exact hB.2.2 b q hb hq hc hno e
theorem RR_13w {F ρ A C H : ST} (h : RR F false ρ A C H) {w : Int32} (hw : 0 ≤ w.toInt ∧ w.toInt ≤ 64) : RR F false (zUp ρ 0 13 w) A C H := by
  have := RR_pl h (k := 0) (v := ρ 14 0) (w := w) hw (A' := A) (fun _ _ _ => rfl) (fun z => by cases z)
  rw [q_self] at this
  exact this
noncomputable def qa_adv (A C : ST) (x st : Int32) : Nat × ST × ST :=
  let p := qa_open A (A 1 6).toNatClampNeg 0 0
  let B := qa_change (zUp (zUp (qa_begin A p x) (12 + p) 2 st) (12 + p) 3 99) p (A 1 2)
  let g := qa_batch B C p (-1)
  (p, zUp g.1 (12 + p) 7 (g.2 10000 0), g.2)
theorem adv_base {A C : ST} {t : Nat} {x st : Int32} (h : Gd A C t) (ht : t < 10000000) (h1 : 0 ≤ x.toInt) (h2 : x.toInt < (A 1 7).toInt) (s1 : -64 ≤ st.toInt ∧ st.toInt ≤ 64) (s0 : ¬ st = 0) :
    let p := qa_open A (A 1 6).toNatClampNeg 0 0
    let B := qa_change (zUp (zUp (qa_begin A p x) (12 + p) 2 st) (12 + p) 3 99) p (A 1 2)
    p < 6 ∧ Gd B C (t + 1) ∧ ¬ B (12 + p) 0 = -1 ∧ ¬ B (12 + p) 2 = 0 ∧ B (12 + p) 5 = x ∧ B 1 = A 1 ∧ B 26 = A 26 ∧ qa_begin A p x 1 = A 1 := by
  intro p B
  have htb := GT_b h.1.1
  have hc6 := clamp_toInt (x := A 1 6) (by omega)
  have hp : p < 6 := qa_open_lt (by omega) (by omega)
  obtain ⟨g1, g2⟩ := Gd_adv (p := p) h (by omega) hp h1 h2 s1 s0
  have b1 : qa_begin A p x 1 = A 1 := begin_q (by omega) (by omega)
  have e1 : zUp (zUp (qa_begin A p x) (12 + p) 2 st) (12 + p) 3 99 1 = A 1 := by rw [q_uc (by omega), q_uc (by omega), b1]
  have hB : Gd B C (t + 1) := by
    refine Gd_A g1 (GA_change g1.1 hp (by omega) (fun _ _ => ?_)) (Nat.le_refl _) (qa_change_c (by omega) (by omega) (by omega) (by omega)) ?_ (fun q hq => ?_)
    · rw [q_un (by omega), q_ue rfl rfl]; exact s0
    · show _ ≤ (qa_change _ p _ 2 14).toInt
      rw [qa_change_2 hp (by omega)]
      exact Int.le_refl _
    · show qa_change _ p _ _ _ = _ ∧ qa_change _ p _ _ _ = _
      by_cases e : q = p
      · subst e
        exact ⟨qa_change_p hp (by omega), qa_change_p hp (by omega)⟩
      · rw [qa_change_c (by omega) (by omega) (by omega) (by omega)]
        exact ⟨rfl, rfl⟩
  refine ⟨hp, hB, ?_, ?_, ?_, ?_, ?_, b1⟩
  · show ¬ qa_change _ p _ (12 + p) 0 = -1
    rw [qa_change_p hp (by omega), q_un (by omega), q_un (by omega)]
    exact g2
  · show ¬ qa_change _ p _ (12 + p) 2 = 0
    rw [qa_change_p hp (by omega), q_un (by omega), q_ue rfl rfl]
    exact s0
  · show qa_change _ p _ (12 + p) 5 = x
    rw [qa_change_p hp (by omega), q_un (by omega), q_un (by omega), begin_p]
    rfl
  · show qa_change _ p _ 1 = A 1
    rw [qa_change_c (by omega) (by omega) (by omega) (by omega), e1]
  · show qa_change _ p _ 26 = A 26
    rw [qa_change_c (by omega) (by omega) (by omega) (by omega), q_uc (by omega), q_uc (by omega), begin_q (by omega) (by omega)]
theorem GX_adv {t s : Nat} {A C : ST} {x st : Int32} (h : GX A C t) (g : Gd A C s) (hs : s < 10000000) (ht : t < 10000000) (h1 : 0 ≤ x.toInt) (h2 : x.toInt < (A 1 7).toInt) (s1 : -64 ≤ st.toInt ∧ st.toInt ≤ 64) (s0 : ¬ st = 0) : GX (qa_adv A C x st).2.1 (qa_adv A C x st).2.2 (t + 97) := by
  obtain ⟨hp, hB, b0, b2, b5, b1, b26, bb⟩ := adv_base g hs h1 h2 s1 s0
  have htb := GT_b g.1.1
  unfold qa_adv
  dsimp only
  generalize qa_open A (A 1 6).toNatClampNeg 0 0 = p at *
  have hb := GX_begin (x := x) h g (by omega) hp
  have gb := Gd_begin (x := x) g (by omega) hp h1 h2
  have e2 : qa_begin A p x (12 + p) 2 = 0 := by rw [begin_p]; rfl
  have e5 : qa_begin A p x (12 + p) 5 = qa_begin A p x (12 + p) 1 := by rw [begin_p, begin_p]; rfl
  have hst := GX_stride (v := st) hb gb hp e2 e5
  have h3 : GX (zUp (zUp (qa_begin A p x) (12 + p) 2 st) (12 + p) 3 99) C (t + 1) := ⟨GQ_c hst.1 (fun k _ => q_un (by omega)), GM_o hst.2 (by omega) (by omega)⟩
  have h4 := GX_chg (p := p) (w := A 1 2) h3 hp (by omega) (by rw [q_uc (by omega), q_uc (by omega), bb]; omega)
  have h5 := GX_batch h4 hB (by omega) (by omega) (Or.inl rfl) hp b0 b2
  exact GX_mono ⟨GQ_c h5.1 (fun k _ => q_un (by omega)), GM_o h5.2 (by omega) (by omega)⟩ (by omega)
theorem adv_ok {t : Nat} {A C H : ST} {x st : Int32} (h : St t A C H) (ht : t < 10000000) (h1 : 0 ≤ x.toInt) (h2 : x.toInt < (A 1 7).toInt) (s1 : -64 ≤ st.toInt ∧ st.toInt ≤ 64) (s0 : ¬ st = 0) : St (t + 97) (qa_adv A C x st).2.1 (qa_adv A C x st).2.2 H := by
  obtain ⟨hp, hB, b0, b2, b5, b1, b26, -⟩ := adv_base h.1 ht h1 h2 s1 s0
  obtain ⟨k1, k2, k3, k4, k5, k6, k7⟩ := batch_ok hB (by omega) (Or.inl rfl) hp b0 b2
  have hx := GX_adv h.2.2.2 h.1 ht ht h1 h2 s1 s0
  unfold qa_adv at hx ⊢
  dsimp only at hx ⊢
  refine ⟨Gd_o k1 (by omega), GH_A h.2.1 ?_, fun b hb => ?_, hx⟩
  · rw [q_uc (by omega), k3, b1]
  · rw [q_uc (by omega), k6, b26]
    exact h.2.2.1 b hb
theorem qc_adv (N : Nat) (hN : 64 < N) {A κ C H : ST} {t : Nat} (h : Rp κ A C H) (g : Gd A C t) (ht : t < 10000000) {x st : Int32} (h1 : 0 ≤ x.toInt) (h2 : x.toInt < (A 1 7).toInt) (s1 : -64 ≤ st.toInt ∧ st.toInt ≤ 64) (s0 : ¬ st = 0) : ∃ κ', mE_X2_follow N (qmix A κ) x st = some (nI (qa_adv A C x st).1, qmix (qa_adv A C x st).2.1 κ') ∧ Rp κ' (qa_adv A C x st).2.1 (qa_adv A C x st).2.2 H := by
  obtain ⟨hp, hB, b0, b2, b5, b1, b26, bb⟩ := adv_base g ht h1 h2 s1 s0
  have htb := GT_b g.1.1
  have hc6 := clamp_toInt (x := A 1 6) (by omega)
  obtain ⟨-, gb⟩ := Gd_adv (p := qa_open A (A 1 6).toNatClampNeg 0 0) g (by omega) hp h1 h2 s1 s0
  have ho := qc_open N (by omega) A κ (A 1 6).toNatClampNeg (by omega) hc6.2
  unfold qa_adv
  dsimp only
  generalize qa_open A (A 1 6).toNatClampNeg 0 0 = p at *
  have hR : Rp κ (zUp (zUp (qa_begin A p x) (12 + p) 2 st) (12 + p) 3 99) C H := by
    rw [Rp_eq (by omega) (by omega), Rp_eq (by omega) (by omega)]
    exact Rp_22 h (begin_q (by omega) (by omega)) (begin_q (by omega) (by omega))
  obtain ⟨κ1, w1, w2⟩ := qc_change N hR ⟨p, hp⟩ (A 1 2)
  obtain ⟨κ2, v1, v2⟩ := qc_batch N hN w2 hB (by omega) (-1) (Or.inl rfl) ⟨p, hp⟩ b0 b2
  refine ⟨κ2, ?_, ?_⟩
  · have e2 : zUp (zUp (qa_begin A p x) (12 + p) 2 st) (12 + p) 3 99 1 2 = A 1 2 := by rw [q_uc (by omega), q_uc (by omega), bb]
    rw [mE_X2_follow, ho, zCall_some, qc_begin N hp x, zCallu_some, qc_streamAt N hp gb, q_cq]
    show (zLet (zUp (qmix (qa_begin A p x) κ) (12 + p) 2 st) _) = _
    rw [zLet_eq, zLet_eq, q_uA (by omega), q_uA (by omega), zGet_at (i := 2) 2 rfl (by decide) (by decide), q_mA (by omega), e2]
    dsimp only at w1 v1
    rw [w1, zCallu_some, v1, zCallu_some, zLet_eq, zLet_eq, q_mK (by omega), v2.2.1.1, q_uA (by omega)]
  · rw [Rp_eq (by omega) (by omega)]
    exact v2
theorem r_adv (N : Nat) (hN : 200 < N) {F ρ A C H : ST} {t : Nat} (h : RR F false ρ A C H) (g : Gd A C t) (ht : t < 10000000) {x st : Int32} (h1 : 0 ≤ x.toInt) (h2 : x.toInt < (A 1 7).toInt) (s1 : -64 ≤ st.toInt ∧ st.toInt ≤ 64) (s0 : ¬ st = 0) : ∃ ρ1 ρ2 ρ', mR_comes N ρ x = some (nI (542 + 12 * (qa_adv A C x st).1), ρ1) ∧ mR_proves N (zUp (zUp (zUp ρ1 1 (542 + 12 * (qa_adv A C x st).1 + 3) st) 1 (542 + 12 * (qa_adv A C x st).1 + 4) 99) 0 13 0) (nI (542 + 12 * (qa_adv A C x st).1)) = some ρ2 ∧ mR_batch N ρ2 (nI (542 + 12 * (qa_adv A C x st).1)) (-1) = some ρ' ∧ RR F false (zUp ρ' 1 (542 + 12 * (qa_adv A C x st).1 + 8) (ρ' 1 21)) (qa_adv A C x st).2.1 (qa_adv A C x st).2.2 H ∧ (qa_adv A C x st).1 < 6 := by
  obtain ⟨hp, hB, b0, b2, b5, b1, b26, bb⟩ := adv_base g ht h1 h2 s1 s0
  obtain ⟨ρ1, c1, c2⟩ := r_comes N hN h g x
  obtain ⟨-, gb⟩ := Gd_adv (p := qa_open A (A 1 6).toNatClampNeg 0 0) g (by omega) hp h1 h2 s1 s0
  unfold qa_adv
  dsimp only
  generalize qa_open A (A 1 6).toNatClampNeg 0 0 = p at *
  have d1 := RR_s c2 (p := p) (k := 2) hp (by omega) (by omega) st
  rw [show 543 + 12 * p + 2 = 542 + 12 * p + 3 by omega] at d1
  have d2 := RR_s d1 (p := p) (k := 3) hp (by omega) (by omega) 99
  rw [show 543 + 12 * p + 3 = 542 + 12 * p + 4 by omega] at d2
  have d3 := RR_13w d2 (w := 0) (by decide)
  generalize hσ : zUp (zUp (zUp ρ1 1 (542 + 12 * p + 3) st) 1 (542 + 12 * p + 4) 99) 0 13 0 = σ at d3
  have an : ¬ zUp (zUp (qa_begin A p x) (12 + p) 2 st) (12 + p) 3 99 (12 + p) 0 = -1 := by rw [q_un (by omega), q_un (by omega)]; exact gb
  have e2 : σ 1 2 = A 1 2 := by rw [d3.1 2 (by omega), q_uc (by omega), q_uc (by omega), bb]
  have e3 : σ 1 3 = zUp (zUp (qa_begin A p x) (12 + p) 2 st) (12 + p) 3 99 1 3 := d3.1 3 (by omega)
  generalize hD : zUp (zUp (qa_begin A p x) (12 + p) 2 st) (12 + p) 3 99 = D at *
  obtain ⟨ρ2, w1, w2, w3⟩ := r_widens N hN d3 hp an (if A 1 2 < D 1 3 then A 1 2 else D 1 3)
  have w2' : RR F false ρ2 (qa_change D p (A 1 2)) C H := w2
  have d1' : D (12 + p) 1 = x := by
    rw [← hD, q_un (by omega), q_un (by omega), begin_p]
    rfl
  have es2' : ρ2 1 (542 + 12 * p + 2) = x := by
    rw [RR_sr w2' (k := 1) hp b0 (by omega), qa_change_p hp (by omega), d1']
  have w4 := RR_s w2' (p := p) (k := 5) hp (by omega) (by omega) x
  rw [show 543 + 12 * p + 5 = 542 + 12 * p + 6 by omega, show zUp (qa_change D p (A 1 2)) (12 + p) 5 x = qa_change D p (A 1 2) by rw [← b5, q_self]] at w4
  obtain ⟨ρ3, v1, v2⟩ := r_batch N hN w4 hB (by omega) (Or.inl rfl) hp b0 b2 (fun z => by cases z)
  have w5 := RR_s v2 (p := p) (k := 7) hp (by omega) (by omega) ((qa_batch (qa_change D p (A 1 2)) C p (-1)).2 10000 0)
  rw [show 543 + 12 * p + 7 = 542 + 12 * p + 8 by omega] at w5
  refine ⟨ρ1, _, ρ3, c1, ?_, v1, ?_, hp⟩
  · rw [hσ, mR_proves]
    simp -implicitDefEqProofs (disch := first | assumption | omega) only [zLet_eq, zCall_some, zCallu_some, q_cq, zBool_0, zBool_1, q_gn, q_gl, q_sn, q_sl, q_al, q_la, q_ml, q_lm, q_ue, q_un, q_mA, q_mK, q_uA, q_uK, q_g6, q_rm, q_dv, e2, e3, pR_lesser]
    rw [w1]
    simp -implicitDefEqProofs (disch := first | assumption | omega) only [zLet_eq, zCall_some, zCallu_some, q_cq, zBool_0, zBool_1, q_gn, q_gl, q_sn, q_sl, q_al, q_la, q_ml, q_lm, q_ue, q_un, q_mA, q_mK, q_uA, q_uK, q_g6, q_rm, q_dv, es2']
  · rw [v2.2.1.2.1]
    exact w5
theorem s_advise (N : Nat) (hN : 200 < N) (κ : Nat) (hκ : κ < 512) : Sm_advise N (II κ) (II (κ + 1)) := by
  intro τ ρ x1 x2 hI
  obtain ⟨⟨A, C, H, n1, n2, n3⟩, hr⟩ := id hI
  have hmx := EngC_mix n1
  have hth := RR_thr n2
  have hhas := qc_has N (A := A) (κ := pE 0 0 τ) (x := x1)
  rw [hmx] at hhas
  have e64 : (64 : Int32).toInt = 64 := by decide
  have em : (-64 : Int32).toInt = -64 := by decide
  have hin := r_in N (zUp ρ 0 0 0) x2 (-64) 64 (m := -64) (n := 64) (by decide) (by decide)
  by_cases c : (0 ≤ x1.toInt ∧ x1.toInt < (A 1 7).toInt) ∧ ¬ x2 = 0 ∧ (-64 ≤ x2.toInt ∧ x2.toInt ≤ 64)
  · obtain ⟨c1, c2, c3⟩ := c
    obtain ⟨κ', k1, k2⟩ := qc_adv N (by omega) n1.2 n3.1 (by omega) c1.1 c1.2 c3 c2
    rw [hmx] at k1
    obtain ⟨ρ1, ρ2, ρ3, r1, r2, r3, r4, r5⟩ := r_adv N hN hth n3.1 (by omega) c1.1 c1.2 c3 c2
    have r6 := RR_self r4
    refine ⟨nI (qa_adv A C x1 x2).1, iE 0 0 τ (qmix (qa_adv A C x1 x2).2.1 κ'), _, ?_, ?_, II_e hI (t := 4100 * κ + 97) (by omega) k2 r6 (adv_ok n3 (by omega) c1.1 c1.2 c3 c2) (fun c hc => by
      rw [r4.2.2.2.2.2.2.2.1.1 c (by omega) (by omega) (by omega), q_uc (by omega)])⟩
    · rw [mT_X7_advise, zqE hhas, if_pos c1, if_neg n10, if_neg c2, if_neg (by rw [i_lt, em]; omega), if_pos (by rw [i_le, e64]; omega), zCallL_eq k1]
    · rw [mR_advise, zLet_eq, r_isBlock N hth, zCall_some, if_pos c1, if_neg n10, if_neg c2, zLet_eq, hin, zCall_some, if_pos c3, if_neg n10, r1, zCall_some]
      generalize (qa_adv A C x1 x2).1 = p at *
      simp -implicitDefEqProofs (disch := first | assumption | omega) only [zLet_eq, q_al]
      rw [zSet_nI (by omega) (by omega), zSet_nI (by omega) (by omega), r2, zCallu_some, r3, zCallu_some, zGet_at (i := 21) 21 rfl (by decide) (by decide), zSet_nI (by omega) (by omega)]
      rw [show (542 : Int32) = nI 542 from rfl, pk_sub (by omega), show 542 + 12 * p - 542 = 12 * p by omega, q_dv (by omega) (by decide) (by decide), show 12 * p / 12 = p by omega]
  · refine ⟨-1, τ, zUp ρ 0 0 0, ?_, ?_, II_thr hI⟩
    · rw [mT_X7_advise, zqE hhas]
      by_cases d1 : 0 ≤ x1.toInt ∧ x1.toInt < (A 1 7).toInt
      · rw [if_pos d1, if_neg n10]
        by_cases d2 : x2 = 0
        · rw [if_pos d2, mT_X7_advise_27]
        · rw [if_neg d2]
          by_cases d3 : x2 < -64
          · rw [if_pos d3, mT_X7_advise_27]
          · rw [i_lt, em] at d3
            rw [if_neg (by rw [i_lt, em]; exact d3), if_neg (show ¬ x2 ≤ 64 from fun w => by
              rw [i_le, e64] at w
              exact c ⟨d1, d2, by omega⟩), mT_X7_advise_27]
      · rw [if_neg d1, if_pos rfl, mT_X7_advise_27]
    · rw [mR_advise, zLet_eq, r_isBlock N hth, zCall_some]
      by_cases d1 : 0 ≤ x1.toInt ∧ x1.toInt < (A 1 7).toInt
      · rw [if_pos d1, if_neg n10]
        by_cases d2 : x2 = 0
        · rw [if_pos d2, mR_advise_31]
        · rw [if_neg d2, zLet_eq, hin, zCall_some, if_neg (fun w => c ⟨d1, d2, w⟩), if_pos rfl, mR_advise_31]
      · rw [if_neg d1, if_pos rfl, mR_advise_31]
