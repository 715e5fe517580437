/-! ON PAPER -/
def Kt (τ τ' : ST) : Prop := ∀ c, (c < 100 ∨ 125 ≤ c) → c ≠ 400 → c ≠ 500 → c ≠ 502 → c ≠ 503 → c ≠ 504 → τ' c = τ c
theorem Kt_r (τ : ST) : Kt τ τ := fun _ _ _ _ _ _ _ => rfl
theorem Kt_t {a b c : ST} (h : Kt a b) (h2 : Kt b c) : Kt a c := fun d d1 d2 d3 d4 d5 d6 => by rw [h2 d d1 d2 d3 d4 d5 d6, h d d1 d2 d3 d4 d5 d6]
def Kq (ρ ρ' : ST) : Prop := ∀ c, c ≠ 0 → c ≠ 1 → c ≠ 2 → c ≠ 14 → c ≠ 17 → c ≠ 19 → c ≠ 20 → ρ' c = ρ c
theorem Kq_r (ρ : ST) : Kq ρ ρ := fun _ _ _ _ _ _ _ _ => rfl
theorem Kq_t {a b c : ST} (h : Kq a b) (h2 : Kq b c) : Kq a c := fun d d1 d2 d3 d4 d5 d6 d7 => by rw [h2 d d1 d2 d3 d4 d5 d6 d7, h d d1 d2 d3 d4 d5 d6 d7]
theorem II_th {κ : Nat} {τ τ' ρ ρ' : ST} (h : II κ τ ρ) (hτ : Kt τ τ') (hp : ∃ A C H, Rp (pE 1 0 τ') A C H) (h1 : ∀ j, j < 1974 → ρ' 1 j = ρ 1 j) (hc : Kq ρ ρ') (h13 : 0 ≤ (ρ' 0 13).toInt ∧ (ρ' 0 13).toInt ≤ 64) : II (κ + 1) τ' ρ' := by
  obtain ⟨⟨A, C, H, n1, n2, n3⟩, hr⟩ := h
  have hc' : ∀ c, c = 3 ∨ c = 4 ∨ c = 5 ∨ c = 6 ∨ c = 7 ∨ c = 8 ∨ c = 9 ∨ c = 10 → ρ' c = ρ c := fun c w => hc c (by omega) (by omega) (by omega) (by omega) (by omega) (by omega) (by omega)
  have hr1 : Rs (4100 * (κ + 1)) τ ρ' := Rs_k (Rs_mono hr (by omega)) (fun _ _ _ _ _ _ _ _ => rfl) (fun c w => hc' c (by omega)) h13
  have hτ' : ∀ c, (c < 100 ∨ 125 ≤ c) → c < 400 ∨ c = 401 ∨ (401 < c ∧ c < 500) ∨ c = 501 ∨ 504 < c → τ' c = τ c := fun c w1 w2 => hτ c w1 (by omega) (by omega) (by omega) (by omega) (by omega)
  have hEq : EqA A (fun c => if c = 25 then τ' 400 else A c) := ⟨fun _ _ => rfl, fun _ _ => rfl, fun p hp k _ => by dsimp only; rw [if_neg (by omega)], rfl, rfl, fun _ _ => rfl⟩
  refine ⟨⟨fun c => if c = 25 then τ' 400 else A c, C, H, ⟨fun c hcc => ?_, ?_⟩, RR_EqA (RR_rho n2 h1 (fun b _ => by rw [hc' 4 (by omega), hc' 5 (by omega)]; exact ⟨rfl, rfl⟩) h13) hEq, St_EqA (St_mono n3 (by omega)) hEq⟩, hp, fun k hk => ?_, hr1.2.2.1, fun b hb => ?_⟩
  · dsimp only
    by_cases g : c = 25
    · rw [if_pos g, g]
      rfl
    · rw [if_neg g, n1.1 c hcc]
      unfold pE
      by_cases g2 : c < 25
      · rw [if_pos g2, if_pos g2, hτ' _ (by omega) (by omega)]
      · rw [if_neg g2, if_neg g2, if_pos (by omega), if_pos (by omega), hτ' _ (by omega) (by omega)]
  · refine Rp_22 (Rp_k (fun c c1 c2 => ?_) n1.2) rfl rfl
    rw [pE_k _ (by omega), pE_k _ (by omega), hτ' _ (by omega) (by omega)]
  · obtain ⟨A1, C1, H1, a1, a2, a3, a4⟩ := hr1.2.1 k hk
    refine ⟨A1, C1, H1, EngC_congr (fun c hcc => ?_) a1, ?_, a3, a4⟩
    · unfold pE
      by_cases g2 : c < 25
      · rw [if_pos g2, if_pos g2, hτ' _ (by omega) (by omega)]
      · rw [if_neg g2, if_neg g2, if_pos (by omega), if_pos (by omega), hτ' _ (by omega) (by omega)]
    · rw [hτ' 603 (by omega) (by omega)]; exact a2
  · rw [hτ' 501 (by omega) (by omega)]
    exact hr1.2.2.2 b hb
/-- the paper engine beside the reference's thought -/
def Pw (t : Nat) (τ ρ A C H : ST) : Prop := EngC (pE 1 0 τ) A C H ∧ RR ρ false ρ A C H ∧ St t A C H
theorem p_copy (N : Nat) (hN : 100 < N) {τ A C H : ST} (hs : EngC (pE 0 0 τ) A C H) (hp : ∃ A C H, Rp (pE 1 0 τ) A C H) : ∃ y A', mY_X2_copyFrom N (pY 1 0 τ) = some y ∧ EqA A A' ∧ EngC (pE 1 0 (iY 1 0 τ y)) A' C H ∧ Kt τ (iY 1 0 τ y) := by
  obtain ⟨A0, C0, H0, hd⟩ := hp
  obtain ⟨y, y1, y2, y3, y4, y5, y6⟩ := t_copy N hN (k := 1) (j := 0) (by omega) (by omega) (by omega) hd hs
  obtain ⟨f1, f2⟩ := EngC_copy y3 (fun i hi => by rw [pE_k _ (by omega)]; exact y4 i hi) (fun i hi => by rw [pE_k _ (by omega)]; exact y5 i hi) (fun p hp i hi => by rw [pE_k _ (by omega)]; exact y6 p hp i hi) (fun b hb => by
    rw [pE_26, y2 _ (by omega), hs.1 26 (by omega), pE_26])
  exact ⟨y, _, y1, f2, f1, fun c c1 _ _ _ _ _ => y2 c (by omega)⟩
theorem Kt_iE {τ σ : ST} (h : σ 26 = pE 1 0 τ 26) : Kt τ (iE 1 0 τ σ) := fun c c1 c2 _ _ _ _ => by
  unfold iE
  rw [if_neg (by omega)]
  by_cases g : c = 400 + 2 * 0 ∨ c = 400 + 2 * 0 + 1
  · have : c = 401 := by omega
    subst this
    rw [if_pos g]
    show σ 26 = _
    rw [h, pE_26]
  · rw [if_neg g]
theorem p_take (N : Nat) (hN : 1300 < N) {t b : Nat} {τ ρ A C H : ST} (h : Pw t τ ρ A C H) (ht : t < 7000000) (hb : b < 10000) (hb7 : (b : Int) < (A 1 7).toInt) :
    ∃ κ1 ρ1, mE_X2_take N (pE 1 0 τ) (nI b) = some ((qa_take A C H b).1, qmix (qa_take A C H b).2.1 κ1) ∧ mR_readOne N ρ (nI b) = some (if C b 0 = 1 ∨ 0 ≤ A 26 b then contF (A 26 b) else -2, ρ1) ∧ Pw (t + 101) (iE 1 0 τ (qmix (qa_take A C H b).2.1 κ1)) ρ1 (qa_take A C H b).2.1 (qa_take A C H b).2.2.1 (qa_take A C H b).2.2.2 ∧ Kt τ (iE 1 0 τ (qmix (qa_take A C H b).2.1 κ1)) ∧ RR ρ1 true ρ1 (qa_take A C H b).2.1 (qa_take A C H b).2.2.1 (qa_take A C H b).2.2.2 ∧ (∀ c, c ≠ 0 → c ≠ 1 → c ≠ 14 → ρ1 c = ρ c) ∧ (∀ k, k ≠ 11 → k ≠ 12 → k ≠ 13 → k ≠ 15 → k ≠ 16 → ρ1 0 k = ρ 0 k) ∧ ρ1 0 11 = (qa_take A C H b).1 ∧ (((qa_take A C H b).2.1 0 9 = -1 ∧ ρ1 0 12 = -1) ∨ ∃ p, p < 6 ∧ (qa_take A C H b).2.1 0 9 = nI p ∧ ρ1 0 12 = nI (542 + 12 * p)) ∧ ρ1 0 16 = (qa_take A C H b).2.1 2 6 - A 2 6 ∧ ρ1 0 15 = (qa_take A C H b).2.1 2 7 - A 2 7 ∧ (qa_take A C H b).2.1 1 = A 1 ∧ (qa_take A C H b).2.1 26 = A 26 := by
  obtain ⟨n1, n2, n3⟩ := h
  have hmx := EngC_mix n1
  obtain ⟨κ1, k1, k2⟩ := qc_take N (by omega) n1.2 n3.1 (by omega) hb hb7
  rw [hmx] at k1
  obtain ⟨ρ1, r1, r2, r3, r4, r5, r6, r7, r8⟩ := r_read N hN n2 n3.1 (by omega) hb hb7
  obtain ⟨s1, s2, s3⟩ := St_take n3 (by omega) hb hb7
  exact ⟨κ1, ρ1, k1, r1, ⟨EngC_i (by omega) k2, RR_w0 r2, s1⟩, Kt_iE (by rw [q_mA (by omega), s3, n1.1 26 (by omega)]), r2, r3, r4, r5, r6, r7, r8, s2, s3⟩
theorem r_think (N : Nat) (hN : 2000 < N) (ρ : ST) : ∃ ρ', mR_think N ρ = some ρ' ∧ (∀ c, c ≠ 2 → ρ' c = ρ c) ∧ ∀ j, j < 1974 → ρ' 2 j = ρ 1 j := by
  obtain ⟨ρ1, r1, r2, r3, r4⟩ := r_cp_row_aside N hN ρ (a := 0) (b := 0) (by omega) (by omega)
  have r1' : mR_copy_row_aside N ρ 0 0 = some ρ1 := r1
  refine ⟨ρ1, by rw [mR_think, r1', zCallu_some], r2, fun j hj => ?_⟩
  have := r3 j hj
  rw [Nat.zero_add] at this
  exact this
theorem r_endT (N : Nat) (hN : 2000 < N) (ρ : ST) : ∃ ρ', mR_endThought N ρ = some ρ' ∧ (∀ c, c ≠ 1 → ρ' c = ρ c) ∧ ∀ j, j < 1974 → ρ' 1 j = ρ 2 j := by
  obtain ⟨ρ1, r1, r2, r3, r4⟩ := r_cp_aside_row N hN ρ (a := 0) (b := 0) (by omega) (by omega)
  have r1' : mR_copy_aside_row N ρ 0 0 = some ρ1 := r1
  refine ⟨ρ1, by rw [mR_endThought, r1', zCallu_some], r2, fun j hj => ?_⟩
  have := r3 j hj
  rw [Nat.zero_add] at this
  exact this
