/-! misses: both -/
theorem wT_u2 (u : ST) (f : Nat → Int32) (b : Nat) (v : Int32) : zUp (wT u f) 2 b v = wT (zUp u 2 b v) f := by
  funext c y
  rw [q_get]
  unfold wT
  by_cases h : c = 1
  · rw [if_pos h, if_pos h, if_neg (by omega)]
  · rw [if_neg h, if_neg h, q_get]
theorem u_look (N : Nat) (hN : 401 < N) {u H : ST} (h : RU u H) {l : Nat} (hl : l ≤ 400) (e : H 18 4 = nI l) {bk : Nat → Nat} (hb : BK H l bk) (hz : ∀ b, b < 10000 → u 1 b = 0) : ∃ u', mU_X5_lookAhead N u = some u' ∧ (∀ c, c ≠ 2 → u' c = u c) ∧ ∀ j, j < l → ∀ r, AG H l (H 19 j) (j + 1) r → u' 2 j = nI (phi1 r) := by
  have key : ∀ m i : Nat, ∀ (u1 : ST) (f : Nat → Int32), (∀ c, c ≠ 2 → u1 c = u c) → (∀ b, nT bk 0 l b → f b = u 1 b) → (∀ k, k < l → ∀ r, AG H l (H 19 k) i r → f (bk k) = if r = 401 then 0 else nI (r + 1)) → (∀ j, i ≤ j → j < l → ∀ r, AG H l (H 19 j) (j + 1) r → u1 2 j = nI (phi1 r)) → i ≤ l → i < m → ∃ u', zIt (mU_X5_lookAhead_B16 N) (fun _ _ => none) m (wT u1 f) (nI i - 1) = some u' ∧ (∀ c, c ≠ 2 → u' c = u c) ∧ ∀ j, j < l → ∀ r, AG H l (H 19 j) (j + 1) r → u' 2 j = nI (phi1 r) := by
    intro m
    induction m with
    | zero => intro i u1 f _ _ _ _ _ _; omega
    | succ m ih =>
      intro i u1 f hk hf hg hn hi hm
      have hR : RU u1 H := RU_k h (fun c _ _ => hk c (by omega))
      have k1 := hk 1 (by omega)
      rw [zIt_s, mU_X5_lookAhead_B16]
      by_cases i0 : i = 0
      · subst i0
        rw [if_pos (by decide), u_clear N hN hR hl e hb (by rw [k1]; exact hz) (by rw [k1]; exact hf), zCallu_some]
        exact ⟨u1, rfl, hk, fun j hj => hn j (by omega) hj⟩
      · obtain ⟨a, rfl⟩ : ∃ a, i = a + 1 := ⟨i - 1, by omega⟩
        obtain ⟨b1, b2⟩ := hb a (by omega)
        have e1 : nI (a + 1) - 1 = nI a := by rw [show (1 : Int32) = nI 1 from rfl, pk_sub (by omega), Nat.add_sub_cancel]
        obtain ⟨r, hr⟩ := AG_ex H l (H 19 a) l (a + 1) (by omega)
        have hr2 := AG_le hr hl
        have et : tAt f (nI (bk a)) = if r = 401 then 0 else nI (r + 1) := by rw [tAt_n b1]; exact hg a (by omega) r hr
        have body : ∀ v, v = nI (phi1 r) → ∃ u', mU_X5_lookAhead_50 N (zIt (mU_X5_lookAhead_B16 N) (fun _ _ => none) m) (wT u1 f) (nI a) (nI (bk a)) (tAt f (nI (bk a))) (nI a) v = some u' ∧ (∀ c, c ≠ 2 → u' c = u c) ∧ ∀ j, j < l → ∀ r, AG H l (H 19 j) (j + 1) r → u' 2 j = nI (phi1 r) := by
          intro v hv
          rw [mU_X5_lookAhead_50, zSet_nI (by omega) (by omega), zLet_eq, nI_1, wT_u2, u_setT N _ f b1, zCallu_some, zLet_eq, ← Int32.sub_eq_add_neg]
          refine ih a _ _ (fun c hc => by rw [q_uc hc]; exact hk c hc) (fun b hb2 => ?_) (fun k hk2 r2 hr2 => ?_) (fun j hj1 hj2 r2 hr2 => ?_) (by omega) (by omega)
          · rw [if_neg (fun w => hb2 a (by omega) (by omega) w.symm)]
            exact hf b hb2
          · by_cases g : bk k = bk a
            · have hh := (bk_eq hb hk2 (show a < l by omega)).mpr g
              have : r2 = a := by
                rcases hr2 with ⟨_, q2⟩ | ⟨q1, _, _, q4⟩
                · exact absurd hh.symm (q2 a (by omega) (by omega))
                · apply Classical.byContradiction
                  intro w
                  exact q4 a (by omega) (by omega) hh.symm
              rw [if_pos g, this, if_neg (by omega)]
            · have hh : ¬ H 19 a = H 19 k := fun w => g ((bk_eq hb (show a < l by omega) hk2).mp w).symm
              rw [if_neg g]
              refine hg k hk2 r2 ?_
              rcases hr2 with ⟨q1, q2⟩ | ⟨q1, q2, q3, q4⟩
              · exact Or.inl ⟨q1, fun i i1 i2 => q2 i (by omega) i2⟩
              · refine Or.inr ⟨?_, q2, q3, fun i i1 i2 => q4 i (by omega) i2⟩
                apply Classical.byContradiction
                intro w
                rw [show r2 = a by omega] at q3
                exact hh q3
          · by_cases g : j = a
            · subst g
              have : r2 = r := by
                rcases hr with ⟨p1, p2⟩ | ⟨p1, p2, p3, p4⟩
                · rcases hr2 with ⟨q1, q2⟩ | ⟨q1, q2, q3, q4⟩
                  · omega
                  · exact absurd q3 (p2 r2 q1 q2)
                · rcases hr2 with ⟨q1, q2⟩ | ⟨q1, q2, q3, q4⟩
                  · exact absurd p3 (q2 r p1 p2)
                  · apply Classical.byContradiction
                    intro w
                    by_cases z : r2 < r
                    · exact p4 r2 q1 z q3
                    · exact q4 r p1 (by omega) p3
              rw [q_ue rfl rfl, hv, this]
            · rw [q_un (by omega)]
              exact hn j (by omega) hj2 r2 hr2
        rw [e1, if_neg (show ¬ nI a < 0 by rw [i_lt, nI_toInt (by omega), show (0 : Int32).toInt = 0 by decide]; omega), u_blockAt N (RU_wT hR f) (u_lt hl e (by omega)) (by omega), zCall_some, b2, u_tally, zCall_some]
        by_cases g : r = 401
        · rw [if_pos (show tAt f (nI (bk a)) = 0 by rw [et, if_pos g])]
          exact body _ (by rw [g]; rfl)
        · rw [if_neg (show ¬ tAt f (nI (bk a)) = 0 by rw [et, if_neg g]; exact fun w => absurd (nI_inj (a := r + 1) (b := 0) (by omega) (by omega) w) (by omega))]
          exact body _ (by rw [et, if_neg g]; unfold phi1; rw [if_neg g])
  have e4 := u_len h hl e
  rw [mU_X5_lookAhead, zLet_eq, zLet_eq, zLet_eq, e4, if_neg (show ¬ (400 : Int32) < nI l by rw [i_lt, nI_toInt (by omega), show (400 : Int32).toInt = 400 by decide]; omega)]
  have := key N l u (u 1) (fun _ _ => rfl) (fun _ _ => rfl) (fun k hk r hr => ?_) (fun j h1 h2 => by omega) (by omega) (by omega)
  · rw [wT_self] at this
    exact this
  · rcases hr with ⟨q1, q2⟩ | ⟨q1, q2, q3, q4⟩
    · rw [if_pos q1, hz _ (hb k hk).1]
    · omega
theorem mis_0 (N : Nat) (hN : 401 < N) {u ρ H : ST} (h : RU u H) {l : Nat} (hl : l ≤ 400) (e : H 18 4 = nI l) (e22 : ρ 1 22 = nI l) (h3 : ∀ i, i < l → ρ 1 (774 + 3 * i) = H 19 i ∧ ρ 1 (775 + 3 * i) = H 20 i ∧ ρ 1 (776 + 3 * i) = H 21 i) {c : Nat} (hc : 1 ≤ c) (hc2 : c ≤ 64) : ∃ v u' ρ', mU_X5_missesOfLatest N u (nI c) = some (nI v, u') ∧ mR_missesBy N ρ (nI c) 0 = some (nI v, ρ') ∧ (∀ k, k ≠ 3 → k ≠ 4 → u' k = u k) ∧ (∀ k, k ≠ 19 → k ≠ 20 → ρ' k = ρ k) ∧ v ≤ 400 := by
  have key : ∀ m j n many : Nat, ∀ (w : Nat → Nat) (u1 ρ1 : ST), (∀ k, k ≠ 3 → k ≠ 4 → u1 k = u k) → (∀ k, k ≠ 19 → k ≠ 20 → ρ1 k = ρ k) → MS (fun x => x) n u1 ρ1 w → n ≤ c → (∀ i k, i < n → k < n → w i = w k → i = k) → (∀ k, k < n → w k < j) → j ≤ l → many ≤ j → l - j < m → ∃ v u' ρ', zIt (mU_X5_missesOfLatest_B7 N) (fun _ _ _ _ _ => none) m u1 (nI c) (nI many) (nI n) (nI j) = some (nI v, u') ∧ zIt (mR_missesBy_B8 N) (fun _ _ _ _ _ _ => none) m ρ1 (nI c) 0 (nI n) (nI many) (nI j) = some (nI v, ρ') ∧ (∀ k, k ≠ 3 → k ≠ 4 → u' k = u k) ∧ (∀ k, k ≠ 19 → k ≠ 20 → ρ' k = ρ k) ∧ v ≤ 400 := by
    intro m
    induction m with
    | zero => intro j n many w u1 ρ1 _ _ _ _ _ _ _ _ _; omega
    | succ m ih =>
      intro j n many w u1 ρ1 hk1 hk2 hM hn hw hw2 hj hmany hm
      have hR : RU u1 H := RU_k h (fun c _ _ => hk1 c (by omega) (by omega))
      have r1 := hk2 1 (by omega) (by omega)
      have h3' : ∀ i, i < l → ρ1 1 (774 + 3 * i) = H 19 i ∧ ρ1 1 (775 + 3 * i) = H 20 i ∧ ρ1 1 (776 + 3 * i) = H 21 i := by rw [r1]; exact h3
      have nx := ih (j + 1)
      rw [zIt_s, zIt_s]
      generalize zIt (mU_X5_missesOfLatest_B7 N) (fun _ _ _ _ _ => none) m = hd at *
      generalize zIt (mR_missesBy_B8 N) (fun _ _ _ _ _ _ => none) m = hd2 at *
      rw [mU_X5_missesOfLatest_B7, mR_missesBy_B8, zLet_eq, u_len hR hl e, zGet_at (i := 22) 22 rfl (by decide) (by decide), r1, e22]
      by_cases ej : j = l
      · subst ej
        rw [if_pos (nI_le (by omega) (by omega)), if_pos (nI_le (by omega) (by omega))]
        exact ⟨many, u1, ρ1, rfl, rfl, hk1, hk2, by omega⟩
      · rw [if_neg (nI_ge (by omega) (by omega)), if_neg (nI_ge (by omega) (by omega)), u_blockAt N hR (u_lt hl e (by omega)) (by omega), zCall_some]
        have go : ∀ p n' many' : Nat, p ≤ n → p < 64 → (∀ k, k < n → ρ1 19 k = H 19 j → k = p) → n' = max n (p + 1) → n' ≤ c → many' ≤ j + 1 → ∃ v u' ρ', hd (zUp (zUp u1 3 p (H 19 j)) 4 p (nI j)) (nI c) (nI many') (nI n') (nI (j + 1)) = some (nI v, u') ∧ hd2 (zUp (zUp ρ1 19 p (H 19 j)) 20 p (nI j)) (nI c) 0 (nI n') (nI many') (nI (j + 1)) = some (nI v, ρ') ∧ (∀ k, k ≠ 3 → k ≠ 4 → u' k = u k) ∧ (∀ k, k ≠ 19 → k ≠ 20 → ρ' k = ρ k) ∧ v ≤ 400 := by
          intro p n' many' p1 p2 p3 p4 p5 p6
          refine nx n' many' (fun k => if k = p then j else w k) _ _ (fun k k1 k2 => by rw [q_uc k2, q_uc k1]; exact hk1 k k1 k2) (fun k k1 k2 => by rw [q_uc k2, q_uc k1]; exact hk2 k k1 k2) (MS_put hM p1 p2 p3 (by omega) p4) p5 (fun i k hi hk => ?_) (fun k hk => ?_) (by omega) p6 (by omega)
          · by_cases g1 : i = p
            · rw [if_pos g1]
              by_cases g2 : k = p
              · omega
              · rw [if_neg g2]
                have := hw2 k (by omega)
                omega
            · rw [if_neg g1]
              by_cases g2 : k = p
              · rw [if_pos g2]
                have := hw2 i (by omega)
                omega
              · rw [if_neg g2]
                exact hw i k (by omega) (by omega)
          · by_cases g1 : k = p
            · rw [if_pos g1]; omega
            · rw [if_neg g1]
              have := hw2 k (by omega)
              omega
        have h72 : ∀ (p : Nat) (x2 x3 : Int32), p < 64 → mU_X5_missesOfLatest_72 N hd u1 (nI c) x2 x3 (nI j) (H 19 j) (nI p) = hd (zUp (zUp u1 3 p (H 19 j)) 4 p (nI j)) (nI c) x2 x3 (nI (j + 1)) := fun p x2 x3 hp => by
          rw [mU_X5_missesOfLatest_72, u_hold N hp, zCallu_some, zLet_eq, nI_1]
        have hn64 := hM.1
        by_cases hex : ∃ k, k < n ∧ ρ1 19 k = H 19 j
        · obtain ⟨k, k1, k2⟩ := hex
          have kk : ∀ i, i < n → ρ1 19 i = H 19 j → i = k := fun i hi hx => hM.2.2 i k hi k1 (hx.trans k2.symm)
          rw [u_slot_some N hN hM.1 k1 ((hM.2.1 k k1).1.trans k2) (fun i hi hx => kk i hi ((hM.2.1 i hi).1.symm.trans hx)), zCall_some, if_neg (q_m1 (by omega)), h72 k _ _ (by omega), r_slot_some N hN hl h3' (by omega) hM.1 k1 k2 kk, r_102_0 N hl h3' (by omega) (by omega)]
          exact go k n many (by omega) (by omega) kk (by omega) hn (by omega)
        · have no : ∀ i, i < n → ¬ ρ1 19 i = H 19 j := fun i hi hx => hex ⟨i, hi, hx⟩
          rw [u_slot_none N hN hM.1 (fun i hi hx => no i hi ((hM.2.1 i hi).1.symm.trans hx)), zCall_some, if_pos rfl, zLet_eq, nI_1, r_slot_none N hN hl h3' (by omega) hM.1 no, nI_1]
          by_cases g : c ≤ n
          · obtain ⟨p, p1, p2, p3⟩ := out_0 N hN hM (by omega) hw
            have go' := go p (if n < c then n + 1 else n) (many + 1) (by omega) (by omega) (fun k hk hx => absurd hx (no k hk)) (by rw [if_neg (by omega)]; omega) (by rw [if_neg (by omega)]; omega) (by omega)
            rw [if_pos (nI_le g (by omega)), if_pos (nI_le g (by omega)), p2, zCall_some, p3, zCall_some, mU_X5_missesOfLatest_62, zLet_eq, zLet_eq, nI_1, u_mn hc2 hn, h72 p _ _ (by omega), r_87 N hd2 ρ1 hc2 hn, r_102_0 N hl h3' (by omega) (by omega)]
            exact go'
          · have go' := go n (if n < c then n + 1 else n) (many + 1) (by omega) (by omega) (fun k hk hx => absurd hx (no k hk)) (by rw [if_pos (by omega)]; omega) (by rw [if_pos (by omega)]; omega) (by omega)
            rw [if_neg (nI_ge (by omega) (by omega)), if_neg (nI_ge (by omega) (by omega)), mU_X5_missesOfLatest_62, zLet_eq, zLet_eq, nI_1, u_mn hc2 hn, h72 n _ _ (by omega), r_87 N hd2 ρ1 hc2 hn, r_102_0 N hl h3' (by omega) (by omega)]
            exact go'
  exact key N 0 0 0 (fun _ => 0) u ρ (fun _ _ _ => rfl) (fun _ _ _ => rfl) ⟨by omega, fun k hk => by omega, fun i k hi => by omega⟩ (by omega) (fun i k hi => by omega) (fun k hk => by omega) (by omega) (by omega) (by omega)
theorem mis_1 (N : Nat) (hN : 401 < N) {u ρ H : ST} (h : RU u H) {l : Nat} (hl : l ≤ 400) (e : H 18 4 = nI l) (e22 : ρ 1 22 = nI l) (h3 : ∀ i, i < l → ρ 1 (774 + 3 * i) = H 19 i ∧ ρ 1 (775 + 3 * i) = H 20 i ∧ ρ 1 (776 + 3 * i) = H 21 i) {bk : Nat → Nat} (hb : BK H l bk) (hz : ∀ b, b < 10000 → u 1 b = 0) {c : Nat} (hc : 1 ≤ c) (hc2 : c ≤ 64) : ∃ v u' ρ', mU_X5_missesAtBest N u (nI c) = some (v, u') ∧ mR_missesBy N ρ (nI c) 1 = some (v, ρ') ∧ (∀ k, k ≠ 2 → k ≠ 3 → k ≠ 4 → u' k = u k) ∧ (∀ k, k ≠ 19 → k ≠ 20 → ρ' k = ρ k) := by
  obtain ⟨u0, a1, a2, a3⟩ := u_look N hN h hl e hb hz
  have key : ∀ m j n many : Nat, ∀ (w : Nat → Nat) (u1 ρ1 : ST), (∀ k, k ≠ 3 → k ≠ 4 → u1 k = u0 k) → (∀ k, k ≠ 19 → k ≠ 20 → ρ1 k = ρ k) → MS phi1 n u1 ρ1 w → n ≤ c → (∀ i, i < n → w i = 401 ∨ w i < 400) → j ≤ l → l - j < m → ∃ v u' ρ', zIt (mU_X5_missesAtBest_B11 N) (fun _ _ _ _ _ => none) m u1 (nI c) (nI many) (nI n) (nI j) = some (v, u') ∧ zIt (mR_missesBy_B8 N) (fun _ _ _ _ _ _ => none) m ρ1 (nI c) 1 (nI n) (nI many) (nI j) = some (v, ρ') ∧ (∀ k, k ≠ 2 → k ≠ 3 → k ≠ 4 → u' k = u k) ∧ (∀ k, k ≠ 19 → k ≠ 20 → ρ' k = ρ k) := by
    intro m
    induction m with
    | zero => intro j n many w u1 ρ1 _ _ _ _ _ _ _; omega
    | succ m ih =>
      intro j n many w u1 ρ1 hk1 hk2 hM hn hw hj hm
      have hR : RU u1 H := RU_k h (fun c _ _ => by rw [hk1 c (by omega) (by omega), a2 c (by omega)])
      have r1 := hk2 1 (by omega) (by omega)
      have h3' : ∀ i, i < l → ρ1 1 (774 + 3 * i) = H 19 i ∧ ρ1 1 (775 + 3 * i) = H 20 i ∧ ρ1 1 (776 + 3 * i) = H 21 i := by rw [r1]; exact h3
      have nx := ih (j + 1)
      rw [zIt_s, zIt_s]
      generalize zIt (mU_X5_missesAtBest_B11 N) (fun _ _ _ _ _ => none) m = hd at *
      generalize zIt (mR_missesBy_B8 N) (fun _ _ _ _ _ _ => none) m = hd2 at *
      rw [mU_X5_missesAtBest_B11, mR_missesBy_B8, zLet_eq, u_len hR hl e, zGet_at (i := 22) 22 rfl (by decide) (by decide), r1, e22]
      by_cases ej : j = l
      · subst ej
        rw [if_pos (nI_le (by omega) (by omega)), if_pos (nI_le (by omega) (by omega)), mU_X5_missesAtBest_105]
        exact ⟨_, u1, ρ1, rfl, rfl, fun k k0 k1 k2 => by rw [hk1 k k1 k2, a2 k k0], hk2⟩
      · rw [if_neg (nI_ge (by omega) (by omega)), if_neg (nI_ge (by omega) (by omega)), if_neg (show ¬ (400 : Int32) ≤ nI j from nI_ge (a := j) (b := 400) (by omega) (by omega)), u_blockAt N hR (u_lt hl e (by omega)) (by omega), zCall_some]
        obtain ⟨r, hr⟩ := AG_ex H l (H 19 j) l (j + 1) (by omega)
        have hr2 := AG_le hr hl
        have e2 : u1 2 j = nI (phi1 r) := by rw [hk1 2 (by omega) (by omega)]; exact a3 j (by omega) r hr
        have go : ∀ p n' many' : Nat, p ≤ n → p < 64 → (∀ k, k < n → ρ1 19 k = H 19 j → k = p) → n' = max n (p + 1) → n' ≤ c → ∃ v u' ρ', hd (zUp (zUp u1 3 p (H 19 j)) 4 p (nI (phi1 r))) (nI c) (nI many') (nI n') (nI (j + 1)) = some (v, u') ∧ hd2 (zUp (zUp ρ1 19 p (H 19 j)) 20 p (nI r)) (nI c) 1 (nI n') (nI many') (nI (j + 1)) = some (v, ρ') ∧ (∀ k, k ≠ 2 → k ≠ 3 → k ≠ 4 → u' k = u k) ∧ (∀ k, k ≠ 19 → k ≠ 20 → ρ' k = ρ k) := by
          intro p n' many' p1 p2 p3 p4 p5
          refine nx n' many' (fun k => if k = p then r else w k) _ _ (fun k k1 k2 => by rw [q_uc k2, q_uc k1]; exact hk1 k k1 k2) (fun k k1 k2 => by rw [q_uc k2, q_uc k1]; exact hk2 k k1 k2) (MS_put hM p1 p2 p3 (by omega) p4) p5 (fun k hk => ?_) (by omega) (by omega)
          by_cases g1 : k = p
          · rw [if_pos g1]; exact hr2.2
          · rw [if_neg g1]
            exact hw k (by omega)
        have h84 : ∀ (p : Nat) (x2 x3 : Int32), p < 64 → mU_X5_missesAtBest_84 N hd u1 (nI c) x2 x3 (nI j) (H 19 j) (nI p) = hd (zUp (zUp u1 3 p (H 19 j)) 4 p (nI (phi1 r))) (nI c) x2 x3 (nI (j + 1)) := fun p x2 x3 hp => by
          rw [mU_X5_missesAtBest_84, zGet_nI (by omega) (by omega), e2, u_hold N hp, zCallu_some, zLet_eq, nI_1]
        have hn64 := hM.1
        by_cases hex : ∃ k, k < n ∧ ρ1 19 k = H 19 j
        · obtain ⟨k, k1, k2⟩ := hex
          have kk : ∀ i, i < n → ρ1 19 i = H 19 j → i = k := fun i hi hx => hM.2.2 i k hi k1 (hx.trans k2.symm)
          rw [u_slot_some N hN hM.1 k1 ((hM.2.1 k k1).1.trans k2) (fun i hi hx => kk i hi ((hM.2.1 i hi).1.symm.trans hx)), zCall_some, if_neg (q_m1 (by omega)), h84 k _ _ (by omega), r_slot_some N hN hl h3' (by omega) hM.1 k1 k2 kk, r_102_1 N hN hl (by rw [r1]; exact e22) h3' (by omega) (by omega) hr]
          exact go k n many (by omega) (by omega) kk (by omega) hn
        · have no : ∀ i, i < n → ¬ ρ1 19 i = H 19 j := fun i hi hx => hex ⟨i, hi, hx⟩
          rw [u_slot_none N hN hM.1 (fun i hi hx => no i hi ((hM.2.1 i hi).1.symm.trans hx)), zCall_some, if_pos rfl, zLet_eq, nI_1, r_slot_none N hN hl h3' (by omega) hM.1 no, nI_1]
          by_cases g : c ≤ n
          · obtain ⟨p, p1, p2, p3⟩ := out_1 N hN hM (by omega) hw
            have go' := go p (if n < c then n + 1 else n) (many + 1) (by omega) (by omega) (fun k hk hx => absurd hx (no k hk)) (by rw [if_neg (by omega)]; omega) (by rw [if_neg (by omega)]; omega)
            rw [if_pos (nI_le g (by omega)), if_pos (nI_le g (by omega)), p2, zCall_some, p3, zCall_some, mU_X5_missesAtBest_74, zLet_eq, zLet_eq, nI_1, u_mn hc2 hn, h84 p _ _ (by omega), r_87 N hd2 ρ1 hc2 hn, r_102_1 N hN hl (by rw [r1]; exact e22) h3' (by omega) (by omega) hr]
            exact go'
          · have go' := go n (if n < c then n + 1 else n) (many + 1) (by omega) (by omega) (fun k hk hx => absurd hx (no k hk)) (by rw [if_pos (by omega)]; omega) (by rw [if_pos (by omega)]; omega)
            rw [if_neg (nI_ge (by omega) (by omega)), if_neg (nI_ge (by omega) (by omega)), mU_X5_missesAtBest_74, zLet_eq, zLet_eq, nI_1, u_mn hc2 hn, h84 n _ _ (by omega), r_87 N hd2 ρ1 hc2 hn, r_102_1 N hN hl (by rw [r1]; exact e22) h3' (by omega) (by omega) hr]
            exact go'
  rw [mU_X5_missesAtBest, a1, zCallu_some]
  exact key N 0 0 0 (fun _ => 0) u0 ρ (fun _ _ _ => rfl) (fun _ _ _ => rfl) ⟨by omega, fun k hk => by omega, fun i k hi => by omega⟩ (by omega) (fun i hi => by omega) (by omega) (by omega)
theorem iU_c {τ u : ST} (h : ∀ k, k ≠ 2 → k ≠ 3 → k ≠ 4 → u k = pU τ k) : ∀ c, c ≠ 502 → c ≠ 503 → c ≠ 504 → iU τ u c = τ c := by
  intro c c1 c2 c3
  have e := congrFun (iU_pU τ) c
  rw [← e]
  unfold iU
  by_cases h1 : 500 ≤ c ∧ c < 505
  · rw [if_pos h1, if_pos h1]
    exact h _ (by omega) (by omega) (by omega)
  · rw [if_neg h1, if_neg h1]
    by_cases h2 : 18 ≤ c ∧ c < 22
    · rw [if_pos h2, if_pos h2]
      exact h _ (by omega) (by omega) (by omega)
    · rw [if_neg h2, if_neg h2]
theorem s_misses (N : Nat) (hN : 500 < N) (κ : Nat) : Sm_misses N (II κ) (II (κ + 1)) := by
  intro τ ρ x1 x2 hI
  obtain ⟨⟨A, C, H, n1, n2, n3⟩, hr⟩ := id hI
  have hth := RR_thr n2
  have hu := RU_of n1
  have htb := GT_b n3.1.1.1
  obtain ⟨l, l1, l2, l3⟩ := hth.2.2.2.2.1
  have hb := BK_of n3.2.1 l2 l1 (by omega)
  have hz : ∀ b, b < 10000 → pU τ 1 b = 0 := fun b hb => hr.2.2.2 b hb
  have e22 : zUp ρ 0 0 0 1 22 = nI l := by rw [hth.2.1.2.2.1, l2]
  have e0 : (0 : Int32).toInt = 0 := by decide
  have e1 : (1 : Int32).toInt = 1 := by decide
  have e64 : (64 : Int32).toInt = 64 := by decide
  have hin := r_in N (zUp ρ 0 0 0) x1 1 64 (m := 1) (n := 64) (by decide) (by decide)
  have hin2 := r_in N (zUp ρ 0 0 0) x2 0 1 (m := 0) (n := 1) (by decide) (by decide)
  by_cases c1 : 1 ≤ x1.toInt ∧ x1.toInt ≤ 64
  · obtain ⟨d1, d2⟩ := clamp_toInt (x := x1) (by omega)
    have k1 : ¬ x1 < 1 := by rw [i_lt, e1]; omega
    have k2 : x1 ≤ 64 := by rw [i_le, e64]; omega
    by_cases g0 : x2 = 0
    · subst g0
      obtain ⟨v, u', ρ', v1, v2, v3, v4, -⟩ := mis_0 N (by omega) hu l1 l2 e22 l3 (c := x1.toNatClampNeg) (by omega) (by omega)
      rw [← d2] at v1 v2
      refine ⟨nI v, iU τ u', ρ', ?_, ?_, II_s hI (fun c _ w1 w2 w3 => iU_c (fun k _ k1 k2 => v3 k k1 k2) c w1 w2 w3) (fun c hc => by rw [v4 c (by omega) (by omega), q_uc (by omega)]) (by rw [v4 0 (by omega) (by omega), q_un (by omega)])⟩
      · rw [mT_X7_misses, if_neg k1, if_pos k2, if_pos rfl, zCallL_eq v1]
      · rw [mR_misses, zLet_eq, zLet_eq, hin, zCall_some, if_pos c1, if_neg n10, zLet_eq, hin2, zCall_some, if_pos (show 0 ≤ (0 : Int32).toInt ∧ (0 : Int32).toInt ≤ 1 by decide), if_neg n10, v2, zCall_some, mR_misses_37]
    · by_cases g1 : x2 = 1
      · subst g1
        obtain ⟨v, u', ρ', v1, v2, v3, v4⟩ := mis_1 N (by omega) hu l1 l2 e22 l3 hb hz (c := x1.toNatClampNeg) (by omega) (by omega)
        rw [← d2] at v1 v2
        refine ⟨v, iU τ u', ρ', ?_, ?_, II_s hI (fun c _ w1 w2 w3 => iU_c (fun k k0 k1 k2 => v3 k k0 k1 k2) c w1 w2 w3) (fun c hc => by rw [v4 c (by omega) (by omega), q_uc (by omega)]) (by rw [v4 0 (by omega) (by omega), q_un (by omega)])⟩
        · rw [mT_X7_misses, if_neg k1, if_pos k2, if_neg g0, if_pos rfl, zCallL_eq v1]
        · rw [mR_misses, zLet_eq, zLet_eq, hin, zCall_some, if_pos c1, if_neg n10, zLet_eq, hin2, zCall_some, if_pos (show 0 ≤ (1 : Int32).toInt ∧ (1 : Int32).toInt ≤ 1 by decide), if_neg n10, v2, zCall_some, mR_misses_37]
      · refine ⟨-1, τ, zUp ρ 0 0 0, ?_, ?_, II_thr hI⟩
        · rw [mT_X7_misses, if_neg k1, if_pos k2, if_neg g0, if_neg g1]
        · have : ¬ (0 ≤ x2.toInt ∧ x2.toInt ≤ 1) := fun w => by
            have h0 : ¬ x2.toInt = 0 := fun z => g0 (i_eq.mpr (by rw [z, e0]))
            have h1 : ¬ x2.toInt = 1 := fun z => g1 (i_eq.mpr (by rw [z, e1]))
            omega
          rw [mR_misses, zLet_eq, zLet_eq, hin, zCall_some, if_pos c1, if_neg n10, zLet_eq, hin2, zCall_some, if_neg this, if_pos rfl, mR_misses_36, mR_misses_37]
  · refine ⟨-1, τ, zUp ρ 0 0 0, ?_, ?_, II_thr hI⟩
    · rw [mT_X7_misses, mT_X7_misses_11]
      by_cases k1 : x1 < 1
      · rw [if_pos k1]
      · rw [i_lt, e1] at k1
        rw [if_neg (by rw [i_lt, e1]; omega), if_neg (show ¬ x1 ≤ 64 by rw [i_le, e64]; omega)]
    · rw [mR_misses, zLet_eq, zLet_eq, hin, zCall_some, if_neg c1, if_pos rfl, mR_misses_36, mR_misses_37]
