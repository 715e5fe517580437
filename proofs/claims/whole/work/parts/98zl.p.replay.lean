/-! the trace read anew -/
/-- what a replay stands on: the planner's own state, and the reference's trace -/
def Bs (l : Nat) (τ0 ρ0 A H : ST) : Prop := RKh (pE 0 0 τ0) H ∧ (∀ k, k < 10 → τ0 1 k = A 1 k) ∧ GT A ∧ GH A H ∧ GK A ∧ (∀ b, b < 10000 → τ0 401 b = A 26 b) ∧ H 18 4 = nI l ∧ l ≤ 400 ∧ (∀ i, i < l → ρ0 17 i = H 19 i) ∧ RRd ρ0 A
def Tr (l : Nat) (τ0 ρ0 τ ρ : ST) : Prop := Kt τ0 τ ∧ (∃ A C H, Rp (pE 1 0 τ) A C H) ∧ (∀ c, c ≠ 0 → c ≠ 1 → c ≠ 14 → ρ c = ρ0 c) ∧ ρ 0 18 = nI l ∧ 0 ≤ (ρ 0 13).toInt ∧ (ρ 0 13).toInt ≤ 64
theorem Kt_iE' {τ σ : ST} (h : ∀ b, σ 26 b = pE 1 0 τ 26 b) : Kt τ (iE 1 0 τ σ) := Kt_iE (funext h)
theorem pE1_1 (τ : ST) : pE 1 0 τ 1 = τ 101 := rfl
theorem own_k {τ0 τ : ST} (h : Kt τ0 τ) {c : Nat} (hc : c < 25) : pE 0 0 τ c = pE 0 0 τ0 c := by
  rw [pE_k _ hc, pE_k _ hc]
  exact h _ (by omega) (by omega) (by omega) (by omega) (by omega) (by omega)
theorem p_begin (N : Nat) (hN : 100 < N) {l : Nat} {τ0 ρ0 A H τ ρ : ST} (hB : Bs l τ0 ρ0 A H) (hT : Tr l τ0 ρ0 τ ρ) {a b : Nat} (ha : a < 10) (hb : b < 10) {v w : Int32} (ta : isT (nI a) v) (tb : isT (nI b) w) : ∃ τ1, (zCallLu (mY_X2_copyTerms N (pY 1 0 τ)) (iY 1 0 τ) fun s8 => zCallLu (mE_X2_setTerm N (pE 1 0 s8) (nI a) v) (iE 1 0 s8) fun s17 => zCallLu (mE_X2_setTerm N (pE 1 0 s17) (nI b) w) (iE 1 0 s17) fun s27 => zCallLu (mE_X2_restart N (pE 1 0 s27)) (iE 1 0 s27) fun s34 => mT_X7_replayWith_40 N s34 (nI a) v (nI b) w 0) = mT_X7_replayWith_40 N τ1 (nI a) v (nI b) w 0 ∧ FrC (pE 1 0 τ1) ∧ Kt τ0 τ1 ∧ ∀ k, k < 10 → pE 1 0 τ1 1 k = if k = b then w else if k = a then v else A 1 k := by
  obtain ⟨k0, ⟨A0, C0, H0, hp⟩, -⟩ := hT
  have hset : ∀ (σ : ST) (i : Nat) (x : Int32), i < 10 → isT (nI i) x → mE_X2_setTerm N σ (nI i) x = some (zUp σ 1 i x) := fun σ i x hi hx => by
    rw [mE_X2_setTerm, e_isTerm, zCall_some, if_pos hx, if_neg n10, zSet_nI hi (by omega), mE_X2_setTerm_15]
  have hct : mY_X2_copyTerms N (pY 1 0 τ) = some (va_up (pY 1 0 τ) 1 (va_cpy (pY 1 0 τ 101) (pY 1 0 τ 1) (0 : Int32).toNatClampNeg (0 : Int32).toNatClampNeg (10 : Int32).toNatClampNeg)) := by rw [mY_X2_copyTerms, zLet_eq]
  generalize hs8 : iY 1 0 τ (va_up (pY 1 0 τ) 1 (va_cpy (pY 1 0 τ 101) (pY 1 0 τ 1) (0 : Int32).toNatClampNeg (0 : Int32).toNatClampNeg (10 : Int32).toNatClampNeg)) = s8
  have s8o : ∀ c, c ≠ 101 → s8 c = τ c := fun c hc => by
    rw [← hs8]
    unfold iY
    by_cases g1 : 100 * 1 ≤ c ∧ c < 100 * 1 + 25
    · rw [if_pos g1, va_n (by omega)]
      unfold pY
      rw [if_pos (by omega)]
      congr 1
      omega
    · rw [if_neg g1]
      by_cases g2 : 100 * 0 ≤ c ∧ c < 100 * 0 + 25
      · rw [if_pos g2, va_n (by omega)]
        unfold pY
        rw [if_neg (by omega)]
        congr 1
        omega
      · rw [if_neg g2]
  have s8t : ∀ k, k < 10 → s8 101 k = A 1 k := fun k hk => by
    have e : ∀ X : ST, iY 1 0 τ X 101 = X 1 := fun X => by
      unfold iY
      rw [if_pos (by omega)]
    rw [← hs8, e, va_s, cpy_0 (show (10 : Int32) = nI 10 from rfl) (by omega) hk]
    show τ 1 k = _
    rw [k0 1 (by omega) (by omega) (by omega) (by omega) (by omega) (by omega), hB.2.1 k hk]
  have kt8 : Kt τ s8 := fun c c1 _ _ _ _ _ => s8o c (by omega)
  have kta : Kt s8 (iE 1 0 s8 (zUp (pE 1 0 s8) 1 a v)) := Kt_iE (by rw [q_uc (by omega)])
  generalize hs17 : iE 1 0 s8 (zUp (pE 1 0 s8) 1 a v) = s17 at kta
  have e17 : ∀ c, c < 27 → pE 1 0 s17 c = zUp (pE 1 0 s8) 1 a v c := fun c hc => by rw [← hs17, pE_iE (by omega) hc]
  have ktb : Kt s17 (iE 1 0 s17 (zUp (pE 1 0 s17) 1 b w)) := Kt_iE (by rw [q_uc (by omega)])
  generalize hs27 : iE 1 0 s17 (zUp (pE 1 0 s17) 1 b w) = s27 at ktb
  have e27 : ∀ c, c < 27 → pE 1 0 s27 c = zUp (pE 1 0 s17) 1 b w c := fun c hc => by rw [← hs27, pE_iE (by omega) hc]
  have hc : RKc (pE 1 0 s27) C0 := RKc_k (fun c c1 c2 => by rw [e27 c (by omega), q_uc (by omega), e17 c (by omega), q_uc (by omega), pE_k _ (by omega), pE_k _ (by omega), s8o _ (by omega)]) hp.2.1
  obtain ⟨σ', r1, r2, r3⟩ := e_restart N hN hc
  have ktc : Kt s27 (iE 1 0 s27 σ') := Kt_iE (r3 26 (by omega))
  have epr : ∀ c, c < 27 → pE 1 0 (iE 1 0 s27 σ') c = σ' c := fun c hc => pE_iE (by omega) hc
  refine ⟨iE 1 0 s27 σ', ?_, ?_, Kt_t k0 (Kt_t kt8 (Kt_t kta (Kt_t ktb ktc))), fun k hk => ?_⟩
  · rw [zCallLu_eq hct, hs8, zCallLu_eq (hset _ a v ha ta), hs17, zCallLu_eq (hset _ b w hb tb), hs27, zCallLu_eq r1]
  · obtain ⟨f1, f2, f3, f4, f5, f6, f7, f8, f9, f10⟩ := r2
    unfold FrC
    rw [epr 2 (by omega), epr 3 (by omega), epr 10 (by omega), epr 18 (by omega), epr 22 (by omega)]
    exact ⟨f1, fun p hp => by rw [epr (12 + p) (by omega)]; exact f2 p hp, f3, f4, f5, f6, f7, f8, f9, f10⟩
  · rw [epr 1 (by omega), r3 1 (by omega), e27 1 (by omega), q_get]
    by_cases g1 : k = b
    · rw [if_pos ⟨rfl, g1⟩, if_pos g1]
    · rw [if_neg (fun z => g1 z.2), if_neg g1, e17 1 (by omega), q_get]
      by_cases g2 : k = a
      · rw [if_pos ⟨rfl, g2⟩, if_pos g2]
      · rw [if_neg (fun z => g2 z.2), if_neg g2, pE1_1, s8t k hk]
theorem p_loop (N : Nat) (hN : 1300 < N) {l : Nat} {τ0 ρ0 B H : ST} (hB : Bs l τ0 ρ0 B H) (x1 x2 x3 x4 : Int32) : ∀ (m i j : Nat) {t : Nat} {τ ρ A C K : ST}, i + j = l → j < m → t + 101 * j < 7000000 → Pw t τ ρ A C K → (A 1 7).toInt = (B 1 7).toInt → Kt τ0 τ → (∀ c, c ≠ 0 → c ≠ 1 → c ≠ 14 → ρ c = ρ0 c) → ρ 0 18 = nI l → ∃ τ' ρ' A' C' K', zIt (mT_X7_replayWith_B40 N) (fun _ _ _ _ _ _ => none) m τ x1 x2 x3 x4 (nI i) = some τ' ∧ zIt (mR_readAnew_B6 N) (fun _ _ => none) m ρ (nI i) = some ρ' ∧ Pw (t + 101 * j) τ' ρ' A' C' K' ∧ A' 1 = A 1 ∧ Kt τ0 τ' ∧ (∀ c, c ≠ 0 → c ≠ 1 → c ≠ 14 → ρ' c = ρ0 c) ∧ ρ' 0 18 = nI l := by
  intro m
  obtain ⟨bh, bt, bg, bgh, bgk, b26, bl, bl4, b17, brd⟩ := hB
  have htb := GT_b bg
  induction m with
  | zero => intro i j t τ ρ A C K _ _ _ _ _ _ _ _; omega
  | succ m ih =>
    intro i j t τ ρ A C K hi hm ht h h7 kt kr k18
    have o18 : RKh (pE 0 0 τ) H := RKh_k (fun c c1 c2 => own_k kt (by omega)) bh
    have el : τ 18 4 = nI l := by
      obtain ⟨e0, l', f1, f2, f3, f4, f5, f6⟩ := o18
      have : pE 0 0 τ 18 4 = τ 18 4 := by rw [pE_k _ (by omega)]
      rw [← this, f4, ← f5, bl]
    rw [zIt_s, zIt_s, mT_X7_replayWith_B40, mR_readAnew_B6, zLet_eq, zLet_eq, el, k18]
    by_cases e : i = l
    · rw [if_pos (nI_le (by omega) (by omega)), if_pos (nI_le (by omega) (by omega))]
      exact ⟨τ, ρ, A, C, K, rfl, rfl, ⟨h.1, h.2.1, St_mono h.2.2 (by omega)⟩, rfl, kt, kr, k18⟩
    · have hil : i < l := by omega
      have kb := qc_blockAt N (A := pE 0 0 τ) o18 (j := i) (u_lt bl4 bl hil) (by omega)
      rw [q_mix_self] at kb
      obtain ⟨l', g1, g2, g3⟩ := bgh
      have hl' : l' = l := nI_inj (by omega) (by omega) (g2.symm.trans bl)
      obtain ⟨v1, v2⟩ := g3 i (by omega)
      obtain ⟨d1, d2⟩ := clamp_toInt v1
      have r17 : ρ 17 i = H 19 i := by rw [kr 17 (by omega) (by omega) (by omega)]; exact b17 i hil
      rw [if_neg (nI_ge (by omega) (by omega)), if_neg (nI_ge (by omega) (by omega)), zqE kb, zGet_nI (by omega) (by omega), r17]
      generalize (H 19 i).toNatClampNeg = b at d1 d2
      rw [d2]
      obtain ⟨κ1, ρ1, p1, p2, p3, p4, p5, p6, p7, p8, p9, p10, p11, p12, p13⟩ := p_take N hN (b := b) h (by omega) (by omega) (by omega)
      rw [zCallL_eq p1, p2, zCall_some, zLet_eq, zLet_eq, nI_1]
      obtain ⟨τ', ρ', A', C', K', s1, s2, s3, s4, s5, s6, s7⟩ := ih (i + 1) (j - 1) (t := t + 101) (by omega) (by omega) (by omega) p3 (by rw [p12]; exact h7) (Kt_t kt p4) (fun c c0 c1 c2 => by rw [p6 c c0 c1 c2, kr c c0 c1 c2]) (by rw [p7 18 (by omega) (by omega) (by omega) (by omega) (by omega)]; exact k18)
      exact ⟨τ', ρ', A', C', K', s1, s2, ⟨s3.1, s3.2.1, St_mono s3.2.2 (by omega)⟩, by rw [s4, p12], s5, s6, s7⟩
/-- one replay -/
theorem p_replay (N : Nat) (hN : 2000 < N) {l : Nat} {τ0 ρ0 A H τ ρ : ST} (hB : Bs l τ0 ρ0 A H) (hT : Tr l τ0 ρ0 τ ρ) {a b : Nat} (ha : a < 10) (hb : b < 10) {v w : Int32} (ta : isT (nI a) v) (tb : isT (nI b) w) (h7 : (if 7 = b then w else if 7 = a then v else A 1 7) = A 1 7) (hρ : ∀ k, k < 10 → ρ 1 k = if k = b then w else if k = a then v else A 1 k) :
    ∃ τ' ρ' A' C' H', mT_X7_replayWith N τ (nI a) v (nI b) w = some τ' ∧ mR_readAnew N ρ = some ρ' ∧ Pw 50000 τ' ρ' A' C' H' ∧ Tr l τ0 ρ0 τ' ρ' ∧ (∀ k, k < 10 → ρ' 1 k = ρ 1 k) ∧ τ' 102 2 = ρ' 1 12 ∧ 0 ≤ (τ' 102 2).toInt ∧ (τ' 102 2).toInt ≤ 50000 := by
  obtain ⟨τ1, q1, q2, q3, q4⟩ := p_begin N (by omega) hB hT ha hb ta tb
  obtain ⟨bh, bt, bg, bgh, bgk, b26, bl, bl4, b17, brd⟩ := id hB
  obtain ⟨k0, -, kr, k18, k13⟩ := hT
  have hbg := pR_begin N (by omega) ρ
  generalize hρ' : (fun c => if c = 1 then (fun j => if 10 ≤ j ∧ j < 1974 then 0 else ρ 1 j) else ρ c : ST) = ρ1 at hbg
  have o : ∀ d, d ≠ 1 → ρ1 d = ρ d := fun d hd => by
    rw [← hρ']
    show (if d = 1 then _ else _) = _
    rw [if_neg hd]
  have o1 : ∀ j, 10 ≤ j → j < 1974 → ρ1 1 j = 0 := fun j j1 j2 => by
    rw [← hρ']
    show (if 10 ≤ j ∧ j < 1974 then _ else _) = _
    rw [if_pos ⟨j1, j2⟩]
  have o2 : ∀ j, j < 10 → ρ1 1 j = pE 1 0 τ1 1 j := fun j hj => by
    rw [← hρ']
    show (if 10 ≤ j ∧ j < 1974 then _ else _) = _
    rw [if_neg (by omega), q4 j hj, hρ j hj]
  have ca : (nI a).toNatClampNeg = a := nI_clamp (by omega)
  have cb : (nI b).toNatClampNeg = b := nI_clamp (by omega)
  have hT2 : ∀ k, k < 10 → (lowF k).toInt ≤ (pE 1 0 τ1 1 k).toInt ∧ (pE 1 0 τ1 1 k).toInt ≤ (highF k).toInt := fun k hk => by
    rw [q4 k hk]
    by_cases g1 : k = b
    · rw [if_pos g1, g1]
      have := tb.2
      rw [cb] at this
      exact this
    · rw [if_neg g1]
      by_cases g2 : k = a
      · rw [if_pos g2, g2]
        have := ta.2
        rw [ca] at this
        exact this
      · rw [if_neg g2]
        exact bg k hk
  have e26 : ∀ b, b < 10000 → pE 1 0 τ1 26 b = A 26 b := fun b hb => by
    rw [pE_26]
    show τ1 401 b = _
    rw [q3 401 (by omega) (by omega) (by omega) (by omega) (by omega) (by omega)]
    exact b26 b hb
  have r4 : ρ1 4 = ρ0 4 := by rw [o 4 (by omega), kr 4 (by omega) (by omega) (by omega)]
  have r5 : ρ1 5 = ρ0 5 := by rw [o 5 (by omega), kr 5 (by omega) (by omega) (by omega)]
  have hP : Pw 0 τ1 ρ1 (qmix (pE 1 0 τ1) Zs) Zs Zs := ⟨fr_eng q2, fr_rr q2 hT2 o2 o1 (fun b hb => by rw [r4, r5, e26 b hb]; exact brd b hb) (by rw [o 0 (by omega)]; exact k13), fr_st q2 hT2 (fun b hb => by rw [e26 b hb]; exact bgk b hb) 0⟩
  have h7' : (qmix (pE 1 0 τ1) Zs 1 7).toInt = (A 1 7).toInt := by rw [q_mA (by omega), q4 7 (by omega), h7]
  obtain ⟨τ', ρ', A', C', K', s1, s2, s3, s4, s5, s6, s7⟩ := p_loop N (by omega) hB (nI a) v (nI b) w N 0 l (t := 0) (by omega) (by omega) (by omega) hP h7' q3 (fun c c0 c1 c2 => by rw [o c c1, kr c c0 c1 c2]) (by rw [o 0 (by omega)]; exact k18)
  have hS : St 50000 A' C' K' := St_mono s3.2.2 (by omega)
  have e12 : ρ' 1 12 = A' 2 2 := s3.2.1.2.1.1 2 12 (by unfold cmap; omega)
  have t12 : τ' 102 2 = A' 2 2 := by rw [s3.1.1 2 (by omega)]; rfl
  have hn := hS.1.1.2.1 2 (by omega)
  refine ⟨τ', ρ', A', C', K', ?_, ?_, ⟨s3.1, s3.2.1, hS⟩, ⟨s5, ⟨_, _, _, s3.1.2⟩, s6, s7, RR_13 s3.2.1⟩, fun k hk => ?_, by rw [e12, t12], by rw [t12]; omega, by rw [t12]; omega⟩
  · rw [mT_X7_replayWith, q1]
    exact s1
  · rw [mR_readAnew, hbg, zCallu_some]
    exact s2
  · rw [s3.2.1.1 k hk, s4, q_mA (by omega), q4 k hk, hρ k hk]
theorem r_takeT (N : Nat) (hN : 401 < N) {ρ H : ST} {l : Nat} (hl : l ≤ 400) (e22 : ρ 1 22 = nI l) (h3 : ∀ i, i < l → ρ 1 (774 + 3 * i) = H 19 i ∧ ρ 1 (775 + 3 * i) = H 20 i ∧ ρ 1 (776 + 3 * i) = H 21 i) : ∃ ρ', mR_takeTrace N ρ = some ρ' ∧ (∀ c, c ≠ 0 → c ≠ 17 → ρ' c = ρ c) ∧ (∀ k, k ≠ 18 → ρ' 0 k = ρ 0 k) ∧ ρ' 0 18 = nI l ∧ ∀ i, i < l → ρ' 17 i = H 19 i := by
  have key : ∀ m i : Nat, ∀ ρ1 : ST, (∀ c, c ≠ 0 → c ≠ 17 → ρ1 c = ρ c) → (∀ k, k ≠ 18 → ρ1 0 k = ρ 0 k) → ρ1 0 18 = nI l → (∀ j, j < i → ρ1 17 j = H 19 j) → i ≤ l → l - i < m → ∃ ρ', zIt (mR_takeTrace_B13 N) (fun _ _ => none) m ρ1 (nI i) = some ρ' ∧ (∀ c, c ≠ 0 → c ≠ 17 → ρ' c = ρ c) ∧ (∀ k, k ≠ 18 → ρ' 0 k = ρ 0 k) ∧ ρ' 0 18 = nI l ∧ ∀ i, i < l → ρ' 17 i = H 19 i := by
    intro m
    induction m with
    | zero => intro i ρ1 _ _ _ _ _ _; omega
    | succ m ih =>
      intro i ρ1 k1 k2 k3 k4 hi hm
      have r1 := k1 1 (by omega) (by omega)
      rw [zIt_s, mR_takeTrace_B13, zLet_eq, k3]
      by_cases e : i = l
      · subst e
        rw [if_pos (nI_le (by omega) (by omega))]
        exact ⟨ρ1, rfl, k1, k2, k3, k4⟩
      · rw [if_neg (nI_ge (by omega) (by omega)), r_traced N hl (by rw [r1]; exact h3) (by omega), zCall_some, zSet_nI (by omega) (by omega), zLet_eq, nI_1]
        refine ih (i + 1) _ (fun c c0 c1 => by rw [q_uc c1]; exact k1 c c0 c1) (fun k hk => by rw [q_uc (by omega)]; exact k2 k hk) (by rw [q_uc (by omega)]; exact k3) (fun j hj => ?_) (by omega) (by omega)
        by_cases g : j = i
        · rw [g, q_ue rfl rfl]
        · rw [q_un (by omega)]; exact k4 j (by omega)
  rw [mR_takeTrace, zGet_at (i := 22) 22 rfl (by decide) (by decide), e22, zLet_eq]
  exact key N 0 _ (fun c c0 _ => q_uc c0) (fun k hk => q_un (by omega)) (q_ue rfl rfl) (fun j hj => by omega) (by omega) (by omega)
