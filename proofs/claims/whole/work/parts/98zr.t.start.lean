/-! THE START, AND ALL CALLS -/
theorem all_sim (N : Nat) (hN : 10300 < N) (κ : Nat) (hκ : κ < 512) : LawSim N (II κ) (II (κ + 1)) :=
  ⟨s_sets N (by omega) κ, s_read N (by omega) κ hκ, s_reads N (by omega) κ hκ, s_idle N (by omega) κ hκ, s_advise N (by omega) κ hκ, s_write N (by omega) κ, s_bad N κ, s_drop N (by omega) κ hκ, s_stop N κ, s_keep N (by omega) κ, s_again N (by omega) κ, s_block N (by omega) κ, s_cached N (by omega) κ, s_stream N (by omega) κ, s_aheadOf N hN κ, s_gain N (by omega) κ, s_log N κ, s_piece N (by omega) κ, s_whose N κ, s_mixed N (by omega) κ, s_trace N κ, s_would N (by omega) κ hκ, s_plan N (by omega) κ hκ, s_replay N (by omega) κ, s_forecast N (by omega) κ hκ, s_tune N (by omega) κ, s_best N (by omega) κ, s_misses N (by omega) κ, s_row N (by omega) κ, s_pace N (by omega) κ, s_until N (by omega) κ, s_ahead N (by omega) κ, s_habits N (by omega) κ, s_count N (by omega) κ⟩
theorem fst_b (k : Nat) : 0 ≤ (fstF k).toInt ∧ (fstF k).toInt ≤ 1000002 := by
  have h : (7919 * k + 13) % 1000003 < 1000003 := Nat.mod_lt _ (by decide)
  unfold fstF
  rw [nI_toInt (by omega)]
  omega
theorem eng_fr {σ : ST} (h : ∀ c, c < 25 → σ c = engS c) : FrC σ := by
  refine ⟨fun k _ => ?_, fun p hp => ?_, ?_, ?_, ?_, fun b _ => ?_, ?_, ?_, ?_, ?_⟩
  · rw [h 2 (by omega)]; rfl
  · rw [h (12 + p) (by omega)]
    unfold engS
    rw [if_neg (by omega), if_neg (by omega), if_pos (by omega)]
    rfl
  · rw [h 3 (by omega)]; rfl
  · rw [h 3 (by omega)]; rfl
  · rw [h 3 (by omega)]; rfl
  · rw [h 10 (by omega)]; rfl
  · rw [h 18 (by omega)]; rfl
  · rw [h 18 (by omega)]; rfl
  · rw [h 22 (by omega)]; rfl
  · rw [h 22 (by omega)]; rfl
theorem eng_T {k : Nat} (hk : k < 10) : (lowF k).toInt ≤ (engS 1 k).toInt ∧ (engS 1 k).toInt ≤ (highF k).toInt ∧ rho1 1 k = engS 1 k ∧ rho1 9 k = lowF k ∧ rho1 10 k = highF k := by
  rcases (show k = 0 ∨ k = 1 ∨ k = 2 ∨ k = 3 ∨ k = 4 ∨ k = 5 ∨ k = 6 ∨ k = 7 ∨ k = 8 ∨ k = 9 by omega) with w | w | w | w | w | w | w | w | w | w <;> subst w <;> exact ⟨by decide, by decide, by decide, by decide, by decide⟩
theorem II_0 (dq q : ST) (hd : ∀ b, b < 10000 → dq 1 b = fstF b) (q1 : ∀ k, k < 10 → q 1 k = rho1 1 k) (q2 : ∀ k, 10 ≤ k → k < 1974 → q 1 k = 0) (q4 : ∀ b, b < 10000 → q 4 b = fstF b) (q5 : ∀ c, c ≠ 1 → c ≠ 4 → q c = rho1 c) : II 0 (tau0 dq) q := by
  have t : ∀ k c, k < 4 → c < 25 → tau0 dq (100 * k + c) = engS c := fun k c hk hc => by
    unfold tau0
    rcases (show k = 0 ∨ k = 1 ∨ k = 2 ∨ k = 3 by omega) with w | w | w | w <;> subst w
    · rw [if_pos (by omega), show 100 * 0 + c = c by omega]
    · rw [if_neg (by omega), if_pos (by omega), show 100 * 1 + c - 100 = c by omega]
    · rw [if_neg (by omega), if_neg (by omega), if_pos (by omega), show 100 * 2 + c - 200 = c by omega]
    · rw [if_neg (by omega), if_neg (by omega), if_neg (by omega), if_pos (by omega), show 100 * 3 + c - 300 = c by omega]
  have fr : ∀ k d, k < 4 → FrC (pE k d (tau0 dq)) := fun k d hk => eng_fr (fun c hc => by rw [pE_k _ hc, t k c hk hc])
  have e1 : pE 0 0 (tau0 dq) 1 = engS 1 := by rw [pE_k _ (by omega), t 0 1 (by omega) (by omega)]
  have e26 : ∀ b, b < 10000 → pE 0 0 (tau0 dq) 26 b = fstF b := fun b hb => by
    rw [pE_26]
    exact hd b hb
  have z0 : (0 : Int32).toInt = 0 := by decide
  have q0 : q 0 13 = 0 := by rw [q5 0 (by omega) (by omega)]; rfl
  refine ⟨⟨qmix (pE 0 0 (tau0 dq)) Zs, Zs, Zs, fr_eng (fr 0 0 (by omega)), ?_, ?_⟩, ⟨_, _, _, (fr_eng (fr 1 0 (by omega))).2⟩, fun k hk => ?_, fun k hk => ?_, fun b _ => rfl⟩
  · refine fr_rr (fr 0 0 (by omega)) (fun k hk => ?_) (fun k hk => ?_) q2 (fun b hb => ?_) (by rw [q0, z0]; omega)
    · rw [e1]; exact ⟨(eng_T hk).1, (eng_T hk).2.1⟩
    · rw [e1, q1 k hk]; exact (eng_T hk).2.2.1
    · have hb2 := fst_b b
      rw [e26 b hb, q4 b hb, q5 5 (by omega) (by omega)]
      refine ⟨?_, ?_⟩
      · unfold contF
        rw [if_neg (by rw [i_lt, z0]; omega)]
      · rw [if_pos (by rw [i_le, z0]; omega)]
        rfl
  · refine fr_st (fr 0 0 (by omega)) (fun k hk => ?_) (fun b hb => ?_) _
    · rw [e1]; exact ⟨(eng_T hk).1, (eng_T hk).2.1⟩
    · have hb2 := fst_b b
      rw [e26 b hb]
      omega
  · have q8 : q 8 k = 0 := by rw [q5 8 (by omega) (by omega)]; rfl
    exact ⟨_, _, _, fr_eng (fr (2 + k) (1 + k) (by omega)), by rw [q8]; rfl, Or.inl q8, fun w => absurd (q8.symm.trans w) (by decide)⟩
  · rw [q5 9 (by omega) (by omega), q5 10 (by omega) (by omega)]
    exact ⟨(eng_T hk).2.2.2.1, (eng_T hk).2.2.2.2⟩
theorem pure_all : ∃ (N : Nat) (dq q : ST) (I : Nat → ST → ST → Prop), mI_X1_format N (fun _ _ => 0) = some dq ∧ mR_initT N rho1 = some q ∧ (∀ κ, κ < 512 → LawSim N (I κ) (I (κ + 1))) ∧ (∀ κ τ ρ, I κ τ ρ → I (κ + 1) τ ρ) ∧ I 0 (tau0 dq) q := by
  obtain ⟨N, hN⟩ : ∃ N : Nat, 10300 < N := ⟨10301, by decide⟩
  refine ⟨N, _, _, II, pI_format N (by omega), pR_initT N (by omega), fun κ hκ => all_sim N hN κ hκ, II_mono, II_0 _ _ (fun b hb => ?_) (fun k hk => ?_) (fun k k1 k2 => ?_) (fun b hb => ?_) (fun c c1 c4 => ?_)⟩
  · show (if 0 ≤ b ∧ b < 10000 then fstF b else 0) = fstF b
    rw [if_pos ⟨Nat.zero_le _, hb⟩]
  · show (if 10 ≤ k ∧ k < 1974 then 0 else rho1 1 k) = _
    rw [if_neg (by omega)]
  · show (if 10 ≤ k ∧ k < 1974 then 0 else rho1 1 k) = _
    rw [if_pos ⟨k1, k2⟩]
  · show (if 0 ≤ b ∧ b < 10000 then fstF b else rho1 4 b) = _
    rw [if_pos ⟨Nat.zero_le _, hb⟩]
  · rw [if_neg c1, if_neg c4]
