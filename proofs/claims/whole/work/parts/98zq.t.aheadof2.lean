/-! aheadOf: the reference's walk -/
theorem on_way {x L S : Int} (h : On x L S) : ∃ k, wayZ L S x = k * absZ S := by
  obtain ⟨k, hk⟩ := h
  refine ⟨k, ?_⟩
  unfold wayZ absZ
  by_cases c : 0 ≤ S
  · rw [if_pos c, if_pos c]; omega
  · rw [if_neg c, if_neg c, Int.mul_neg]; omega
theorem mult_eq {k j a : Int} (ha : 0 < a) (h1 : j * a ≤ k * a) (h2 : k * a < j * a + a) : k * a = j * a := by
  have e : (k - j) * a = k * a - j * a := Int.sub_mul _ _ _
  have m : (k - j) * a % a = 0 := Int.mul_emod_left _ _
  have m2 : (k - j) * a % a = (k - j) * a := Int.emod_eq_of_lt (by omega) (by omega)
  omega
theorem absZ_pos {S : Int} (h : ¬ S = 0) : 0 < absZ S := by
  unfold absZ
  split <;> omega
theorem way_inj {L S e f : Int} (h : wayZ L S e = wayZ L S f) : e = f := by
  unfold wayZ at h
  split at h <;> omega
theorem way_next (L S e : Int) : wayZ L S (e + S) = wayZ L S e + absZ S := by
  unfold wayZ absZ
  by_cases c : 0 ≤ S
  · rw [if_pos c, if_pos c, if_pos c]; omega
  · rw [if_neg c, if_neg c, if_neg c]; omega
theorem way_at {L S e : Int} {b : Nat} (hS : ¬ S = 0) (he : On e L S) (hb : On b L S) (h1 : wayZ L S e ≤ wayZ L S b) (h2 : wayZ L S b < wayZ L S e + absZ S) : (b : Int) = e := by
  obtain ⟨k, hk⟩ := on_way he
  obtain ⟨j, hj⟩ := on_way hb
  rw [hk, hj] at h1 h2
  have := mult_eq (absZ_pos hS) h1 h2
  exact way_inj (by rw [hj, hk, this])
theorem wc_0 {C : ST} {num : Int32} {L S : Int} (hS : ¬ S = 0) (hg : ∀ b, b < 10000 → C b 0 = 1 → C b 3 = num → On b L S) : wc C num L S (absZ S) = 0 := by
  unfold wc
  apply qcnt_zero
  intro i hi
  by_cases c : (decide (C i 0 = 1) && wT5 C num L S (absZ S) i) = true
  · simp [wT5] at c
    obtain ⟨c0, c5, c3, c1, c2⟩ := c
    obtain ⟨j, hj⟩ := on_way (hg i hi c0 c3)
    rw [hj] at c1 c2
    have := mult_eq (k := j) (j := 0) (absZ_pos hS) (by rw [Int.zero_mul]; omega) (by rw [Int.zero_mul]; omega)
    rw [Int.zero_mul] at this
    omega
  · simpa using c
theorem wc_yes {C : ST} {num : Int32} {L S : Int} {b : Nat} (hS : ¬ S = 0) (hg : ∀ b, b < 10000 → C b 0 = 1 → C b 3 = num → On b L S) (hb : b < 10000) (h0 : C b 0 = 1) (h5 : C b 5 = 1) (h3 : C b 3 = num) (hw : 0 < wayZ L S b) : wc C num L S (wayZ L S b + absZ S) = wc C num L S (wayZ L S b) + 1 := by
  have hp := absZ_pos hS
  unfold wc
  refine qcnt_add (x := b) hb ?_ ?_ (fun i hi hne => ?_)
  · simp [wT5]
  · simp [wT5, h0, h5, h3, hw]
    omega
  · by_cases c : C i 0 = 1 ∧ C i 3 = num
    · have : ¬ (wayZ L S b ≤ wayZ L S i ∧ wayZ L S i < wayZ L S b + absZ S) := fun z => by
        have := way_at hS (hg b hb h0 h3) (hg i hi c.1 c.2) z.1 z.2
        omega
      have e : (wayZ L S i < wayZ L S b + absZ S) ↔ (wayZ L S i < wayZ L S b) := by omega
      simp [wT5, e]
    · by_cases c0 : C i 0 = 1
      · have c3 : ¬ C i 3 = num := fun z => c ⟨c0, z⟩
        simp [wT5, c3]
      · simp [c0]
theorem wc_no {C : ST} {num : Int32} {L S e : Int} (hS : ¬ S = 0) (hg : ∀ b, b < 10000 → C b 0 = 1 → C b 3 = num → On b L S) (he : On e L S) (hno : ∀ b : Nat, (b : Int) = e → b < 10000 → ¬ (C b 0 = 1 ∧ C b 5 = 1 ∧ C b 3 = num)) : wc C num L S (wayZ L S e + absZ S) = wc C num L S (wayZ L S e) := by
  have hp := absZ_pos hS
  unfold wc
  refine qcnt_congr (fun i hi => ?_)
  by_cases c : C i 0 = 1 ∧ C i 5 = 1 ∧ C i 3 = num
  · have : ¬ (wayZ L S e ≤ wayZ L S i ∧ wayZ L S i < wayZ L S e + absZ S) := fun z => by
      have := way_at hS he (hg i hi c.1 c.2.2) z.1 z.2
      exact hno i this hi c
    have e : (wayZ L S i < wayZ L S e + absZ S) ↔ (wayZ L S i < wayZ L S e) := by omega
    simp [wT5, e]
  · by_cases c0 : C i 0 = 1
    · by_cases c5 : C i 5 = 1
      · have c3 : ¬ C i 3 = num := fun z => c ⟨c0, c5, z⟩
        simp [wT5, c3]
      · simp [wT5, c5]
    · simp [c0]
theorem r_walk (N : Nat) (hN : 64 < N) {F ρ A C H : ST} {t p : Nat} (h : RR F false ρ A C H) (g : Gd A C t) (hp : p < 6) (hn : ¬ A (12 + p) 0 = -1) {num : Int32} {L S : Int} (hnum : A (12 + p) 0 = num) (hLL : (A (12 + p) 1).toInt = L) (hSS : (A (12 + p) 2).toInt = S) (hS : ¬ S = 0) (hS2 : -200 ≤ S ∧ S ≤ 200) (hL2 : 0 ≤ L ∧ L < (A 1 7).toInt) (hg : ∀ b, b < 10000 → C b 0 = 1 → C b 3 = num → On b L S) (x1 x2 : Int32) :
    ∀ (m f : Nat) (e : Int) (x5 : Int64), x5.toInt = e → On e L S → 0 < wayZ L S e → (∀ b, aIs C num L S x2 b → wayZ L S e ≤ wayZ L S b) → (if 0 ≤ S then 10200 - e else e + 201) ≤ f → -201 ≤ e → e ≤ 10200 → f < m → ∃ v, aRes C num L S x2 v ∧ zIt (mR_aheadOf_B48 N) (fun _ _ _ _ _ _ => none) m ρ x1 x2 (nI (542 + 12 * p)) (nI (wc C num L S (wayZ L S e))) x5 = some (v, ρ) := by
  have htb := GT_b g.1.1
  have es3 : ρ 1 (542 + 12 * p + 3) = A (12 + p) 2 := RR_sr h (k := 2) hp hn (by omega)
  have es1 : ρ 1 (542 + 12 * p + 1) = num := by rw [RR_sr h (k := 0) hp hn (by omega), hnum]
  have e7 : ρ 1 7 = A 1 7 := h.1 7 (by omega)
  have a3 : nI (542 + 12 * p) + 3 = nI (542 + 12 * p + 3) := nI_add _ 3
  have a1 : nI (542 + 12 * p) + 1 = nI (542 + 12 * p + 1) := nI_add _ 1
  have hs0 : ¬ A (12 + p) 2 = 0 := fun w => hS (by rw [← hSS, w]; decide)
  have l0 : (0 : Int64).toInt = 0 := by decide
  have haz := absZ_pos hS
  intro m
  induction m with
  | zero => intro f e x5 _ _ _ _ _ _ _ _; omega
  | succ m ih =>
    intro f e x5 hx he hw hinv hf hlo hhi hm
    have nx := ih (f - 1) (e + S)
    rw [zIt_s]
    generalize zIt (mR_aheadOf_B48 N) (fun _ _ _ _ _ _ => none) m = hd at *
    have hin := pR_in N ρ x5 0 ((A 1 7).toInt64 - 1)
    rw [l_m1 (by omega), l0, hx] at hin
    rw [mR_aheadOf_B48, zLet_eq, a3, zGet_nI (by omega) (by omega), es3, if_neg hs0, zGet_at (i := 7) 7 rfl (by decide) (by decide), e7, zLet_eq, zLet_eq, hin, zCall_some, mR_aheadOf_158]
    by_cases c1 : 0 ≤ e ∧ e ≤ (A 1 7).toInt - 1
    · obtain ⟨b, hb⟩ : ∃ b : Nat, e = b := ⟨e.toNat, by omega⟩
      have hbb : b < 10000 := by omega
      have h32 := l_to32 hbb (hx.trans hb)
      have hnext : (x5 + (A (12 + p) 2).toInt64).toInt = e + S := by
        rw [l_add (by rw [hx, l_of, hSS]; omega) (by rw [hx, l_of, hSS]; omega), hx, l_of, hSS]
      have hf2 : (if 0 ≤ S then 10200 - (e + S) else e + S + 201) ≤ ((f - 1 : Nat) : Int) := by
        by_cases z : 0 ≤ S
        · rw [if_pos z] at hf ⊢; omega
        · rw [if_neg z] at hf ⊢; omega
      have hf1 : f - 1 < m := by
        by_cases z : 0 ≤ S
        · rw [if_pos z] at hf; omega
        · rw [if_neg z] at hf; omega
      have k141 : ∀ (x4 x7 : Int32), mR_aheadOf_141 N hd ρ x1 x2 (nI (542 + 12 * p)) x4 x5 x7 = hd ρ x1 x2 (nI (542 + 12 * p)) x4 (x5 + (A (12 + p) 2).toInt64) := fun x4 x7 => by
        rw [mR_aheadOf_141, zLet_eq, a3, zGet_nI (by omega) (by omega), es3, zLet_eq, zLet_eq]
      have go : ¬ aIs C num L S x2 b → ∃ v, aRes C num L S x2 v ∧ hd ρ x1 x2 (nI (542 + 12 * p)) (nI (wc C num L S (wayZ L S e + absZ S))) (x5 + (A (12 + p) 2).toInt64) = some (v, ρ) := fun hno => by
        have nx := nx (x5 + (A (12 + p) 2).toInt64) hnext (On_next he) (by rw [way_next]; omega) (fun b' hb' => by
          have hle := hinv b' hb'
          rw [way_next]
          apply Classical.byContradiction
          intro z
          have := way_at hS he (hg b' hb'.1 hb'.2.1 hb'.2.2.2.1) hle (by omega)
          have : b' = b := by omega
          rw [this] at hb'
          exact hno hb') hf2 (by omega) (by omega) hf1
        rw [way_next] at nx
        exact nx
      have skip : (¬ (C b 0 = 1 ∧ C b 5 = 1 ∧ C b 3 = num)) → ∃ v, aRes C num L S x2 v ∧ hd ρ x1 x2 (nI (542 + 12 * p)) (nI (wc C num L S (wayZ L S e))) (x5 + (A (12 + p) 2).toInt64) = some (v, ρ) := fun hno => by
        have := go (fun z => hno ⟨z.2.1, z.2.2.1, z.2.2.2.1⟩)
        rw [wc_no hS hg he (fun b' e' _ => by
          have : b' = b := by omega
          rw [this]
          exact hno)] at this
        exact this
      rw [if_pos c1, if_neg n10, zLet_eq, h32]
      rcases r_place N hN h hbb with ⟨p1, p2⟩ | ⟨p1, i, i1, i2, i3, p2⟩
      · rw [p2, zCall_some, if_pos rfl, k141]
        exact skip (fun z => p1 z.1)
      · obtain ⟨r1, r2, r3, r4, r5, r6, r7, r8, r9⟩ := i3
        have q3 : nI (30 + 8 * i) + 3 = nI (33 + 8 * i) := by rw [show (3 : Int32) = nI 3 from rfl, nI_add]; congr 1; omega
        have q4 : nI (30 + 8 * i) + 4 = nI (34 + 8 * i) := by rw [show (4 : Int32) = nI 4 from rfl, nI_add]; congr 1; omega
        rw [p2, zCall_some, if_neg (q_m1 (by omega)), zLet_eq, q3, zGet_nI (by omega) (by omega), r5]
        by_cases g5 : C b 5 = 1
        · rw [if_pos g5, zLet_eq, q4, zGet_nI (by omega) (by omega), r6, zLet_eq, i_add1sub1, zLet_eq, a1, zGet_nI (by omega) (by omega), es1]
          by_cases g3 : C b 3 = num
          · rw [if_pos g3]
            have hwb : wayZ L S e = wayZ L S b := by rw [hb]
            by_cases g4 : nI (wc C num L S (wayZ L S e)) = x2
            · rw [if_pos g4, zLet_eq]
              exact ⟨nI b, Or.inl ⟨b, ⟨hbb, p1, g5, g3, by rw [← hwb]; exact hw, by rw [← hwb]; exact g4⟩, rfl⟩, rfl⟩
            · have := go (fun z => g4 (by rw [hwb]; exact z.2.2.2.2.2))
              rw [hwb, wc_yes hS hg hbb p1 g5 g3 (by rw [← hwb]; exact hw)] at this
              rw [if_neg g4, zLet_eq, nI_1, k141, hwb]
              exact this
          · rw [if_neg g3, k141]
            exact skip (fun z => g3 z.2.2)
        · rw [if_neg g5, k141]
          exact skip (fun z => g5 z.2.1)
    · rw [if_neg c1, if_pos rfl]
      refine ⟨-1, Or.inr ⟨rfl, fun b hb => ?_⟩, rfl⟩
      have hle := hinv b hb
      have hbs := (g.2.1.2.1 b hb.1 hb.2.1).2.2.2.2.2.2.2.2
      unfold wayZ at hle hw
      by_cases z : 0 ≤ S
      · rw [if_pos z] at hle hw
        rw [if_pos z] at hle
        omega
      · rw [if_neg z] at hle hw
        rw [if_neg z] at hle
        omega
theorem s_aheadOf (N : Nat) (hN : 10300 < N) (κ : Nat) : Sm_aheadOf N (II κ) (II (κ + 1)) := by
  intro τ ρ x1 x2 hI
  obtain ⟨⟨A, C, H, n1, n2, n3⟩, hr⟩ := id hI
  have hmx := EngC_mix n1
  have hth := RR_thr n2
  have htb := GT_b n3.1.1.1
  have e0 : (0 : Int32).toInt = 0 := by decide
  rw [mT_X7_aheadOf, mR_aheadOf, zLet_eq]
  rcases strm N n1 hth x1 with ⟨p, hp, ex, hn, k1, k2⟩ | ⟨k1, k2⟩
  · have ep : pE 0 0 τ (12 + p) = A (12 + p) := (n1.1 (12 + p) (by omega)).symm
    obtain ⟨a1, a2, a3, a4, a5, a6, a7, a8, a9, a10, a11, a12, a13⟩ := n3.1.1.2.2.1 p hp hn
    subst ex
    rw [zqQ k1, k2, zCall_some, if_neg n10, r_streamAt, zCall_some]
    dsimp only
    rw [zLet_eq, ep, mT_X7_aheadOf_20, mR_aheadOf_17]
    have w2 : zUp ρ 0 0 0 1 (542 + 12 * p + 2) = A (12 + p) 1 := RR_sr hth (k := 1) hp hn (by omega)
    have w3 : zUp ρ 0 0 0 1 (542 + 12 * p + 3) = A (12 + p) 2 := RR_sr hth (k := 2) hp hn (by omega)
    have b3 : nI (542 + 12 * p) + 3 = nI (542 + 12 * p + 3) := nI_add _ 3
    have b2 : nI (542 + 12 * p) + 2 = nI (542 + 12 * p + 2) := nI_add _ 2
    rw [zLet_eq, b2, zGet_nI (by omega) (by omega), w2, zLet_eq, zLet_eq, b3, zGet_nI (by omega) (by omega), w3, zLet_eq, zLet_eq]
    by_cases c2 : A (12 + p) 2 = 0
    · obtain ⟨g', rfl⟩ : ∃ g', N = g' + 1 := ⟨N - 1, by omega⟩
      have hz : mR_aheadOf_48 (g' + 1) (zUp ρ 0 0 0) (nI p) x2 (nI (542 + 12 * p)) 0 ((A (12 + p) 1).toInt64 + (A (12 + p) 2).toInt64) = some (-1, zUp ρ 0 0 0) := by
        rw [mR_aheadOf_48, zIt_s, mR_aheadOf_B48, zLet_eq, b3, zGet_nI (by omega) (by omega), w3, if_pos c2, mR_aheadOf_158]
      rw [if_pos c2, hz, ite_self]
      exact ⟨_, _, _, rfl, rfl, II_thr hI⟩
    · have hS : ¬ (A (12 + p) 2).toInt = 0 := fun w => c2 (i_eq.mpr (by rw [w, e0]))
      obtain ⟨v, v1, v2⟩ := qc_beyondW N (by omega) (A := A) n1.2.2.1 ⟨p, hp⟩ (by dsimp only; omega) x2
      rw [hmx] at v2
      dsimp only at v1
      rw [if_neg c2, zqE v2]
      suffices hv : (if 0 ≤ x2 then mR_aheadOf_48 N (zUp ρ 0 0 0) (nI p) x2 (nI (542 + 12 * p)) 0 ((A (12 + p) 1).toInt64 + (A (12 + p) 2).toInt64) else some (-1, zUp ρ 0 0 0)) = some (v, zUp ρ 0 0 0) by
        exact ⟨v, _, _, rfl, hv, II_thr hI⟩
      by_cases c3 : 0 ≤ x2
      · rw [if_pos c3]
        have hg : ∀ b, b < 10000 → C b 0 = 1 → C b 3 = A (12 + p) 0 → On b (A (12 + p) 1).toInt (A (12 + p) 2).toInt := fun b hb hc ho => n3.2.2.2.2.2.1 b p hb hp hc (by rw [ho]; exact hn) ho
        have hx5 : ((A (12 + p) 1).toInt64 + (A (12 + p) 2).toInt64).toInt = (A (12 + p) 1).toInt + (A (12 + p) 2).toInt := by rw [l_add (by rw [l_of, l_of]; omega) (by rw [l_of, l_of]; omega), l_of, l_of]
        have wself : wayZ (A (12 + p) 1).toInt (A (12 + p) 2).toInt (A (12 + p) 1).toInt = 0 := by
          unfold wayZ
          split <;> omega
        have wz : wayZ (A (12 + p) 1).toInt (A (12 + p) 2).toInt ((A (12 + p) 1).toInt + (A (12 + p) 2).toInt) = absZ (A (12 + p) 2).toInt := by rw [way_next, wself, Int.zero_add]
        have hpos := absZ_pos hS
        obtain ⟨v', r1, r2⟩ := r_walk N (by omega) hth n3.1 hp hn rfl rfl rfl hS ⟨a5, a6⟩ ⟨a3, a4⟩ hg (nI p) x2 N 10201 _ _ hx5 (On_next (On_self _ _)) (by rw [wz]; exact hpos) (fun b hb => by
          rw [wz]
          obtain ⟨k, hk⟩ := on_way (hg b hb.1 hb.2.1 hb.2.2.2.1)
          have hw := hb.2.2.2.2.1
          apply Classical.byContradiction
          intro z
          rw [hk] at hw z
          have := mult_eq (k := k) (j := 0) hpos (by rw [Int.zero_mul]; omega) (by rw [Int.zero_mul]; omega)
          rw [Int.zero_mul] at this
          omega) (by split <;> omega) (by omega) (by omega) (by omega)
        rw [wz, wc_0 hS hg] at r2
        have := aRes_u v1 r1
        rw [this]
        exact r2
      · rw [if_neg c3]
        rcases v1 with ⟨b, hb, -⟩ | ⟨hv, -⟩
        · exfalso
          have hw := hb.2.2.2.2.2
          have l1 : wc C (A (12 + p) 0) (A (12 + p) 1).toInt (A (12 + p) 2).toInt (wayZ (A (12 + p) 1).toInt (A (12 + p) 2).toInt b) ≤ 10000 := qcnt_le _ _
          apply c3
          rw [← hw, i_le, e0, nI_toInt (by omega)]
          omega
        · rw [hv]
  · rw [zqQ k1, k2, zCall_some, if_pos rfl]
    exact ⟨_, _, _, rfl, rfl, II_thr hI⟩
