/-! rows of steps -/
def qrow (bk : Nat → Nat) (d : Int32) : Nat → (Nat → Int32) × Int32 × Int32
  | 0 => (fun _ => 0, 0, 0)
  | j + 1 => (fun y => if y = bk j then tAt (qrow bk d j).1 (nI (bk j) - d) + 1 else (qrow bk d j).1 y, if tAt (qrow bk d j).1 (nI (bk j) - d) + 1 ≤ (qrow bk d j).2.1 then (qrow bk d j).2 else (tAt (qrow bk d j).1 (nI (bk j) - d) + 1, nI (bk j) - (tAt (qrow bk d j).1 (nI (bk j) - d) + 1 - 1) * d))
theorem qrow_0 (bk : Nat → Nat) (d : Int32) : ∀ j y, (∀ i, i < j → ¬ bk i = y) → (qrow bk d j).1 y = 0 := by
  intro j
  induction j with
  | zero => intro y _; rfl
  | succ j ih =>
    intro y hy
    rw [qrow]
    dsimp only
    rw [if_neg (fun w => hy j (by omega) w.symm)]
    exact ih y (fun i hi => hy i (by omega))
theorem tAt_0 (x : Int32) : tAt (fun _ => 0) x = 0 := by
  unfold tAt
  exact ite_self _
theorem qrow_pos (bk : Nat → Nat) (d : Int32) : ∀ j, 0 ≤ (qrow bk d j).2.1.toInt ∧ (0 < j → 0 < (qrow bk d j).2.1.toInt) := by
  intro j
  induction j with
  | zero => exact ⟨show (0 : Int) ≤ (0 : Int32).toInt by decide, fun w => by omega⟩
  | succ j ih =>
    rw [qrow]
    dsimp only
    generalize hn : tAt (qrow bk d j).1 (nI (bk j) - d) + 1 = n
    by_cases c : n ≤ (qrow bk d j).2.1
    · rw [if_pos c]
      refine ⟨ih.1, fun _ => ?_⟩
      by_cases j0 : j = 0
      · subst j0
        rw [show (qrow bk d 0).1 = (fun _ => 0) from rfl, tAt_0] at hn
        rw [← hn] at c
        exact absurd c (show ¬ (0 + 1 : Int32) ≤ 0 by decide)
      · exact ih.2 (by omega)
    · rw [if_neg c]
      rw [i_le] at c
      have := ih.1
      dsimp only
      exact ⟨by omega, fun _ => by omega⟩
theorem tAt_c {f g : Nat → Int32} (h : ∀ b, b < 10000 → f b = g b) (x : Int32) : tAt f x = tAt g x := by
  unfold tAt
  by_cases c : 0 ≤ x.toInt ∧ x.toInt < 10000
  · obtain ⟨d1, d2⟩ := clamp_toInt c.1
    rw [if_pos c, if_pos c, h _ (by omega)]
  · rw [if_neg c, if_neg c]
theorem u_row (N : Nat) (hN : 401 < N) {u H : ST} (h : RU u H) {l : Nat} (hl : l ≤ 400) (e : H 18 4 = nI l) {bk : Nat → Nat} (hb : BK H l bk) (hz : ∀ b, b < 10000 → u 1 b = 0) (d : Int32) : ∃ s, mU_X5_longestRow N u d = some ((qrow bk d l).2.1, zUp u 0 5 s) ∧ (0 < l → s = (qrow bk d l).2.2) := by
  have hR : ∀ s, RU (zUp u 0 5 s) H := fun s => RU_k h (fun c _ _ => q_uc (by omega))
  have key : ∀ m j : Nat, ∀ (f : Nat → Int32) (s : Int32), (∀ b, nT bk 0 l b → f b = u 1 b) → (∀ b, b < 10000 → f b = (qrow bk d j).1 b) → (0 < j → s = (qrow bk d j).2.2) → j ≤ l → l - j < m → ∃ s', zIt (mU_X5_longestRow_B4 N) (fun _ _ _ _ => none) m (wT (zUp u 0 5 s) f) d (qrow bk d j).2.1 (nI j) = some ((qrow bk d l).2.1, zUp u 0 5 s') ∧ (0 < l → s' = (qrow bk d l).2.2) := by
    intro m
    induction m with
    | zero => intro j f s _ _ _ _ _; omega
    | succ m ih =>
      intro j f s hf hg hs hj hm
      rw [zIt_s, mU_X5_longestRow_B4, zLet_eq, u_len (RU_wT (hR s) f) hl e]
      by_cases ej : j = l
      · subst ej
        rw [if_pos (nI_le (by omega) (by omega)), u_clear N hN (hR s) hl e hb (fun b hb => by rw [q_uc (by omega)]; exact hz b hb) (fun b hn => by rw [q_uc (by omega)]; exact hf b hn), zCallu_some]
        exact ⟨s, rfl, hs⟩
      · obtain ⟨b1, b2⟩ := hb j (by omega)
        have hq : qrow bk d (j + 1) = (fun y => if y = bk j then tAt (qrow bk d j).1 (nI (bk j) - d) + 1 else (qrow bk d j).1 y, if tAt (qrow bk d j).1 (nI (bk j) - d) + 1 ≤ (qrow bk d j).2.1 then (qrow bk d j).2 else (tAt (qrow bk d j).1 (nI (bk j) - d) + 1, nI (bk j) - (tAt (qrow bk d j).1 (nI (bk j) - d) + 1 - 1) * d)) := by rw [qrow]
        rw [if_neg (nI_ge (by omega) (by omega)), u_blockAt N (RU_wT (hR s) f) (u_lt hl e (by omega)) (by omega), zCall_some, zLet_eq, u_tally, zCall_some, zLet_eq, b2, tAt_c hg, u_setT N _ f b1, zCallu_some]
        have h1 := fun n => (⟨fun b hn => by
            rw [if_neg (fun w => hn j (by omega) (by omega) w.symm)]
            exact hf b hn, trivial⟩ : (∀ b, nT bk 0 l b → (if b = bk j then n else f b) = u 1 b) ∧ True)
        have h2 : ∀ b, b < 10000 → (if b = bk j then tAt (qrow bk d j).1 (nI (bk j) - d) + 1 else f b) = (qrow bk d (j + 1)).1 b := fun b hb => by
          rw [hq]
          dsimp only
          by_cases g : b = bk j
          · rw [if_pos g, if_pos g]
          · rw [if_neg g, if_neg g]
            exact hg b hb
        by_cases c : tAt (qrow bk d j).1 (nI (bk j) - d) + 1 ≤ (qrow bk d j).2.1
        · have ihj := ih (j + 1) _ s (h1 _).1 h2 (fun _ => by
            rw [hq]
            dsimp only
            rw [if_pos c]
            by_cases j0 : j = 0
            · subst j0
              rw [show (qrow bk d 0).1 = (fun _ => 0) from rfl, tAt_0] at c
              exact absurd c (show ¬ (0 + 1 : Int32) ≤ 0 by decide)
            · exact hs (by omega)) (by omega) (by omega)
          have hL : (qrow bk d (j + 1)).2.1 = (qrow bk d j).2.1 := by rw [hq]; dsimp only; rw [if_pos c]
          rw [hL] at ihj
          rw [if_pos c, mU_X5_longestRow_67, zLet_eq, nI_1]
          exact ihj
        · have ihj := ih (j + 1) _ (nI (bk j) - (tAt (qrow bk d j).1 (nI (bk j) - d) + 1 - 1) * d) (h1 _).1 h2 (fun _ => by
            rw [hq]
            dsimp only
            rw [if_neg c]) (by omega) (by omega)
          have hL : (qrow bk d (j + 1)).2.1 = tAt (qrow bk d j).1 (nI (bk j) - d) + 1 := by rw [hq]; dsimp only; rw [if_neg c]
          rw [hL] at ihj
          rw [if_neg c, zLet_eq, zLet_eq, zLet_eq, zLet_eq, mU_X5_longestRow_67, zLet_eq, nI_1, wT_u0, q_upp]
          exact ihj
  have := key N 0 (u 1) (u 0 5) (fun _ _ => rfl) (fun b hb => by rw [hz b hb]; rfl) (fun w => by omega) (by omega) (by omega)
  rw [q_self, wT_self] at this
  exact this
theorem r_isRead (N : Nat) {ρ H : ST} {l j : Nat} (hl : l ≤ 400) (h3 : ∀ i, i < l → ρ 1 (774 + 3 * i) = H 19 i ∧ ρ 1 (775 + 3 * i) = H 20 i ∧ ρ 1 (776 + 3 * i) = H 21 i) (hj : j ≤ l) (hN : 401 < N) (x : Int32) : mR_isRead N ρ x (nI j) = some (if rd (H 19) x 0 j = 0 then 0 else 1, ρ) := by
  have key : ∀ m i : Nat, i ≤ j → j - i < m → rd (H 19) x 0 i = 0 → zIt (mR_isRead_B2 N) (fun _ _ _ _ => none) m ρ x (nI j) (nI i) = some (if rd (H 19) x 0 j = 0 then 0 else 1, ρ) := by
    intro m
    induction m with
    | zero => intro i _ _ _; omega
    | succ m ih =>
      intro i hi hm hr
      rw [zIt_s, mR_isRead_B2]
      by_cases ei : i = j
      · subst ei
        rw [if_pos (nI_le (by omega) (by omega)), zBool_0, if_pos hr]
      · rw [if_neg (nI_ge (by omega) (by omega)), r_traced N hl h3 (by omega), zCall_some]
        by_cases c : H 19 i = x
        · rw [if_pos c, zBool_1, if_neg (fun w => rd_z.mp w i (Nat.zero_le _) (by omega) c)]
        · rw [if_neg c, zLet_eq, nI_1]
          exact ih (i + 1) (by omega) (by omega) (by rw [rd_s, if_neg (fun w => c w.2), hr])
  exact key N 0 (by omega) (by omega) (rd_0 _ _ _ _ (Nat.le_refl 0))
def Kr (ρ ρ' : ST) : Prop := (∀ c, c ≠ 0 → c ≠ 21 → ρ' c = ρ c) ∧ (∀ k, k ≠ 22 → k ≠ 23 → ρ' 0 k = ρ 0 k)
theorem Kr_r (ρ : ST) : Kr ρ ρ := ⟨fun _ _ _ => rfl, fun _ _ _ => rfl⟩
theorem Kr_t {ρ ρ' ρ'' : ST} (h : Kr ρ ρ') (h2 : Kr ρ' ρ'') : Kr ρ ρ'' := ⟨fun c c1 c2 => by rw [h2.1 c c1 c2, h.1 c c1 c2], fun k k1 k2 => by rw [h2.2 k k1 k2, h.2 k k1 k2]⟩
theorem Kr_21 {ρ ρ' : ST} (h : Kr ρ ρ') (b : Nat) (v : Int32) : Kr ρ (zUp ρ' 21 b v) := ⟨fun c c1 c2 => by rw [q_uc c2]; exact h.1 c c1 c2, fun k k1 k2 => by rw [q_un (by omega)]; exact h.2 k k1 k2⟩
theorem Kr_0 {ρ ρ' : ST} (h : Kr ρ ρ') (k : Nat) (hk : k = 22 ∨ k = 23) (v : Int32) : Kr ρ (zUp ρ' 0 k v) := ⟨fun c c1 c2 => by rw [q_uc c1]; exact h.1 c c1 c2, fun i k1 k2 => by rw [q_un (by omega)]; exact h.2 i k1 k2⟩
theorem r_row2 (N : Nat) (hN : 401 < N) {ρ H : ST} {l : Nat} (hl : l ≤ 400) (e22 : ρ 1 22 = nI l) (h3 : ∀ i, i < l → ρ 1 (774 + 3 * i) = H 19 i ∧ ρ 1 (775 + 3 * i) = H 20 i ∧ ρ 1 (776 + 3 * i) = H 21 i) {bk : Nat → Nat} (hb : BK H l bk) (d : Int32) : ∀ m j : Nat, ∀ ρ' : ST, Kr ρ ρ' → (∀ i, i < l → ρ' 21 (bk i) = (qrow bk d j).1 (bk i)) → ρ' 0 22 = (qrow bk d j).2.1 → (0 < j → ρ' 0 23 = (qrow bk d j).2.2) → j ≤ l → l - j < m → ∃ ρ'', zIt (mR_layRow_B37 N) (fun _ _ _ => none) m ρ' d (nI j) = some ρ'' ∧ Kr ρ ρ'' ∧ ρ'' 0 22 = (qrow bk d l).2.1 ∧ (0 < l → ρ'' 0 23 = (qrow bk d l).2.2) := by
  intro m
  induction m with
  | zero => intro j ρ' _ _ _ _ _ _; omega
  | succ m ih =>
    intro j ρ' hk hg hL hs hj hm
    have k1 := hk.1 1 (by omega) (by omega)
    have h3' : ∀ i, i < l → ρ' 1 (774 + 3 * i) = H 19 i ∧ ρ' 1 (775 + 3 * i) = H 20 i ∧ ρ' 1 (776 + 3 * i) = H 21 i := by rw [k1]; exact h3
    have nx := ih (j + 1)
    rw [zIt_s]
    generalize zIt (mR_layRow_B37 N) (fun _ _ _ => none) m = hd at *
    rw [mR_layRow_B37, zGet_at (i := 22) 22 rfl (by decide) (by decide), k1, e22]
    by_cases ej : j = l
    · subst ej
      rw [if_pos (nI_le (by omega) (by omega))]
      exact ⟨ρ', rfl, hk, hL, hs⟩
    · obtain ⟨b1, b2⟩ := hb j (by omega)
      have hq : qrow bk d (j + 1) = (fun y => if y = bk j then tAt (qrow bk d j).1 (nI (bk j) - d) + 1 else (qrow bk d j).1 y, if tAt (qrow bk d j).1 (nI (bk j) - d) + 1 ≤ (qrow bk d j).2.1 then (qrow bk d j).2 else (tAt (qrow bk d j).1 (nI (bk j) - d) + 1, nI (bk j) - (tAt (qrow bk d j).1 (nI (bk j) - d) + 1 - 1) * d)) := by rw [qrow]
      have body : ∃ ρ'', mR_layRow_84 N hd ρ' d (nI j) (nI (bk j)) (nI (bk j)) (tAt (qrow bk d j).1 (nI (bk j) - d) + 1) = some ρ'' ∧ Kr ρ ρ'' ∧ ρ'' 0 22 = (qrow bk d l).2.1 ∧ (0 < l → ρ'' 0 23 = (qrow bk d l).2.2) := by
        generalize hn : tAt (qrow bk d j).1 (nI (bk j) - d) + 1 = n at *
        have g2 : ∀ σ : ST, σ 21 = zUp ρ' 21 (bk j) n 21 → ∀ i, i < l → σ 21 (bk i) = (qrow bk d (j + 1)).1 (bk i) := fun σ hσ i hi => by
          rw [hσ, hq]
          dsimp only
          by_cases g : bk i = bk j
          · rw [if_pos g, g, q_ue rfl rfl]
          · rw [if_neg g, q_un (by omega)]
            exact hg i hi
        rw [mR_layRow_84, zSet_nI b1 (by omega), zGet_nI b1 (by omega), q_ue rfl rfl, zLet_eq, q_un (by omega), hL]
        by_cases c : n ≤ (qrow bk d j).2.1
        · rw [if_pos c, mR_layRow_122, zLet_eq, nI_1]
          refine nx _ (Kr_21 hk _ _) (g2 _ rfl) ?_ (fun _ => ?_) (by omega) (by omega)
          · rw [q_un (by omega), hL, hq]
            dsimp only
            rw [if_pos c]
          · rw [q_un (by omega), hq]
            dsimp only
            rw [if_pos c]
            by_cases j0 : j = 0
            · subst j0
              rw [show (qrow bk d 0).1 = (fun _ => 0) from rfl, tAt_0] at hn
              rw [← hn] at c
              exact absurd c (show ¬ (0 + 1 : Int32) ≤ 0 by decide)
            · exact hs (by omega)
        · rw [if_neg c, zGet_nI b1 (by omega), q_ue rfl rfl, zLet_eq, zLet_eq, q_ue rfl rfl, zLet_eq, zLet_eq, zLet_eq, zLet_eq, mR_layRow_122, zLet_eq, nI_1]
          refine nx _ (Kr_0 (Kr_0 (Kr_21 hk _ _) 22 (Or.inl rfl) _) 23 (Or.inr rfl) _) (g2 _ (by rw [q_uc (by omega), q_uc (by omega)])) ?_ (fun _ => ?_) (by omega) (by omega)
          · rw [q_un (by omega), q_ue rfl rfl, hq]
            dsimp only
            rw [if_neg c]
          · rw [q_ue rfl rfl, hq]
            dsimp only
            rw [if_neg c]
      rw [if_neg (nI_ge (by omega) (by omega)), r_traced N hl h3' (by omega), zCall_some, b2, zLet_eq, r_isRead N hl h3' (by omega) hN, zCall_some]
      by_cases c : rd (H 19) (nI (bk j) - d) 0 j = 0
      · have et : tAt (qrow bk d j).1 (nI (bk j) - d) = 0 := by
          unfold tAt
          by_cases g : 0 ≤ (nI (bk j) - d).toInt ∧ (nI (bk j) - d).toInt < 10000
          · obtain ⟨d1, d2⟩ := clamp_toInt g.1
            rw [if_pos g]
            refine qrow_0 bk d j _ (fun i hi w => ?_)
            refine rd_z.mp c i (Nat.zero_le _) hi ?_
            rw [(hb i (by omega)).2, w]
            exact d2.symm
          · rw [if_neg g]
        rw [if_pos c, if_pos rfl]
        rw [et] at body
        exact body
      · have hex : ∃ i, i < j ∧ H 19 i = nI (bk j) - d := by
          apply Classical.byContradiction
          intro hno
          exact c (rd_z.mpr (fun i _ hi w => hno ⟨i, hi, w⟩))
        obtain ⟨i, i1, i2⟩ := hex
        obtain ⟨c1, c2⟩ := hb i (by omega)
        have ex : nI (bk j) - d = nI (bk i) := by rw [← i2, c2]
        have et : tAt (qrow bk d j).1 (nI (bk j) - d) = (qrow bk d j).1 (bk i) := by rw [ex, tAt_n c1]
        rw [if_neg c, if_neg n10, zLet_eq, zGet_at (bk i) ex c1 (by omega), zLet_eq, hg i (by omega)]
        rw [et] at body
        exact body
theorem r_layRow (N : Nat) (hN : 401 < N) {ρ H : ST} {l : Nat} (hl : l ≤ 400) (e22 : ρ 1 22 = nI l) (h3 : ∀ i, i < l → ρ 1 (774 + 3 * i) = H 19 i ∧ ρ 1 (775 + 3 * i) = H 20 i ∧ ρ 1 (776 + 3 * i) = H 21 i) {bk : Nat → Nat} (hb : BK H l bk) (d : Int32) : ∃ ρ'', mR_layRow N ρ d = some ρ'' ∧ Kr ρ ρ'' ∧ ρ'' 0 22 = (qrow bk d l).2.1 ∧ (0 < l → ρ'' 0 23 = (qrow bk d l).2.2) := by
  have key : ∀ m j : Nat, ∀ ρ' : ST, Kr ρ ρ' → (∀ i, i < j → ρ' 21 (bk i) = 0) → j ≤ l → l - j < m → ∃ ρ'', zIt (mR_layRow_B2 N) (fun _ _ _ => none) m ρ' d (nI j) = some ρ'' ∧ Kr ρ ρ'' ∧ ρ'' 0 22 = (qrow bk d l).2.1 ∧ (0 < l → ρ'' 0 23 = (qrow bk d l).2.2) := by
    intro m
    induction m with
    | zero => intro j ρ' _ _ _ _; omega
    | succ m ih =>
      intro j ρ' hk hg hj hm
      have k1 := hk.1 1 (by omega) (by omega)
      have h3' : ∀ i, i < l → ρ' 1 (774 + 3 * i) = H 19 i ∧ ρ' 1 (775 + 3 * i) = H 20 i ∧ ρ' 1 (776 + 3 * i) = H 21 i := by rw [k1]; exact h3
      rw [zIt_s, mR_layRow_B2, zGet_at (i := 22) 22 rfl (by decide) (by decide), k1, e22]
      by_cases ej : j = l
      · subst ej
        rw [if_pos (nI_le (by omega) (by omega)), zLet_eq]
        exact r_row2 N hN hl e22 h3 hb d N 0 _ (Kr_0 hk 22 (Or.inl rfl) 0) (fun i hi => by rw [q_uc (by omega)]; exact hg i hi) (q_ue rfl rfl) (fun w => by omega) (by omega) (by omega)
      · obtain ⟨b1, b2⟩ := hb j (by omega)
        rw [if_neg (nI_ge (by omega) (by omega)), r_traced N hl h3' (by omega), zCall_some, b2, zSet_nI b1 (by omega), zLet_eq, nI_1]
        refine ih (j + 1) _ (Kr_21 hk _ _) (fun i hi => ?_) (by omega) (by omega)
        by_cases g : bk i = bk j
        · rw [g, q_ue rfl rfl]
        · rw [q_un (by omega)]
          exact hg i (by
            by_cases w : i = j
            · rw [w] at g; exact absurd rfl g
            · omega)
  exact key N 0 ρ (Kr_r ρ) (fun i hi => by omega) (by omega) (by omega)
/-- the study went on -/
theorem II_s {κ : Nat} {τ τ' ρ ρ' : ST} (h : II κ τ ρ) (ht : ∀ c, c ≠ 500 → c ≠ 502 → c ≠ 503 → c ≠ 504 → τ' c = τ c) (hc : ∀ c, c = 1 ∨ c = 3 ∨ c = 4 ∨ c = 5 ∨ c = 6 ∨ c = 7 ∨ c = 8 ∨ c = 9 ∨ c = 10 → ρ' c = ρ c) (h13 : ρ' 0 13 = ρ 0 13) : II (κ + 1) τ' ρ' := by
  obtain ⟨⟨A, C, H, n1, n2, n3⟩, hr⟩ := h
  have b13 := RR_13 n2
  refine ⟨⟨A, C, H, EngC_congr (fun c hc => ?_) n1, RR_frame n2 (fun c hcc => hc c (by omega)) (by rw [h13]; exact b13), St_mono n3 (by omega)⟩, Rs_k (Rs_mono hr (by omega)) (fun c _ _ _ c1 c2 c3 c4 => ht c c1 c2 c3 c4) (fun c hcc => hc c (by omega)) (by rw [h13]; exact b13)⟩
  unfold pE
  by_cases h1 : c < 25
  · rw [if_pos h1, if_pos h1]
    exact ht _ (by omega) (by omega) (by omega) (by omega)
  · rw [if_neg h1, if_neg h1]
    by_cases h2 : c < 27
    · rw [if_pos h2, if_pos h2]
      exact ht _ (by omega) (by omega) (by omega) (by omega)
    · omega
theorem iU_up (τ : ST) (s : Int32) : iU τ (zUp (pU τ) 0 5 s) = zUp τ 500 5 s := by
  have h := iU_pU τ
  funext c y
  rw [q_get]
  have hc := congrFun (congrFun h c) y
  unfold iU at hc ⊢
  by_cases h1 : 500 ≤ c ∧ c < 505
  · rw [if_pos h1] at hc ⊢
    rw [q_get]
    by_cases g : c = 500 ∧ y = 5
    · rw [if_pos g, if_pos (by omega)]
    · rw [if_neg g, if_neg (by omega)]
      exact hc
  · rw [if_neg h1] at hc ⊢
    by_cases h2 : 18 ≤ c ∧ c < 22
    · rw [if_pos h2] at hc ⊢
      rw [q_un (by omega), if_neg (by omega)]
      exact hc
    · rw [if_neg h2] at hc ⊢
      rw [if_neg (by omega)]
theorem s_row (N : Nat) (hN : 500 < N) (κ : Nat) : Sm_row N (II κ) (II (κ + 1)) := by
  intro τ ρ x1 x2 hI
  obtain ⟨⟨A, C, H, n1, n2, n3⟩, hr⟩ := id hI
  have hth := RR_thr n2
  have hu := RU_of n1
  have htb := GT_b n3.1.1.1
  obtain ⟨l, l1, l2, l3⟩ := hth.2.2.2.2.1
  have hb := BK_of n3.2.1 l2 l1 (by omega)
  have hz : ∀ b, b < 10000 → pU τ 1 b = 0 := fun b hb => hr.2.2.2 b hb
  have e22 : zUp ρ 0 0 0 1 22 = nI l := by rw [hth.2.1.2.2.1, l2]
  have e4 : τ 18 4 = nI l := u_len hu l1 l2
  have e0 : (0 : Int32).toInt = 0 := by decide
  have e1 : (1 : Int32).toInt = 1 := by decide
  have ea : (10000 : Int32).toInt = 10000 := by decide
  have eb : (-10000 : Int32).toInt = -10000 := by decide
  have hin := r_in N (zUp ρ 0 0 0) x1 (-10000) 10000 (m := -10000) (n := 10000) (by decide) (by decide)
  have hin2 := r_in N (zUp ρ 0 0 0) x2 0 1 (m := 0) (n := 1) (by decide) (by decide)
  by_cases c : ¬ l = 0 ∧ ¬ x1 = 0 ∧ (-10000 ≤ x1.toInt ∧ x1.toInt ≤ 10000) ∧ (0 ≤ x2.toInt ∧ x2.toInt ≤ 1)
  · obtain ⟨c1, c2, c3, c4⟩ := c
    have n0 : ¬ nI l = 0 := fun w => c1 (nI_inj (b := 0) (by omega) (by omega) w)
    obtain ⟨s, s1, s2⟩ := u_row N (by omega) hu l1 l2 hb hz x1
    obtain ⟨ρ2, p1, p2, p3, p4⟩ := r_layRow N (by omega) l1 e22 l3 hb x1
    have s2 := s2 (by omega)
    have p4 := p4 (by omega)
    refine ⟨if x2 = 0 then (qrow (fun i => (H 19 i).toNatClampNeg) x1 l).2.1 else (qrow (fun i => (H 19 i).toNatClampNeg) x1 l).2.2, zUp τ 500 5 s, ρ2, ?_, ?_, II_s hI (fun c g _ _ _ => q_uc g) (fun c hc => by rw [p2.1 c (by omega) (by omega), q_uc (by omega)]) (by rw [p2.2 13 (by omega) (by omega), q_un (by omega)])⟩
    · rw [mT_X7_row, if_neg c2, if_neg (by rw [i_lt, eb]; omega), if_neg (by rw [i_lt, ea]; omega), if_neg (by rw [i_lt, e0]; omega), if_neg (by rw [i_lt, e1]; omega), zLet_eq, e4, if_neg n0, zCallL_eq s1, iU_up, zLet_eq, q_ue rfl rfl, s2, mT_X7_row_66, mT_X7_row_66]
      by_cases g : x2 = 0
      · rw [if_pos g, if_pos g]
      · rw [if_neg g, if_neg g]
    · rw [mR_row, zLet_eq, zGet_at (i := 22) 22 rfl (by decide) (by decide), e22, if_neg n0, if_neg c2, zLet_eq, hin, zCall_some, if_pos c3, if_neg n10, zLet_eq, hin2, zCall_some, if_pos c4, if_neg n10, p1, zCallu_some, zLet_eq, zLet_eq, p3, p4, mR_row_65, mR_row_65]
      by_cases g : x2 = 0
      · rw [if_pos g, if_pos g]
      · rw [if_neg g, if_neg g]
  · refine ⟨-1, τ, zUp ρ 0 0 0, ?_, ?_, II_thr hI⟩
    · rw [mT_X7_row, mT_X7_row_40]
      by_cases d1 : x1 = 0
      · rw [if_pos d1]
      · rw [if_neg d1]
        by_cases d2 : x1 < -10000
        · rw [if_pos d2]
        · rw [if_neg d2]
          by_cases d3 : 10000 < x1
          · rw [if_pos d3]
          · rw [if_neg d3]
            by_cases d4 : x2 < 0
            · rw [if_pos d4]
            · rw [if_neg d4]
              by_cases d5 : 1 < x2
              · rw [if_pos d5]
              · rw [if_neg d5, zLet_eq, e4]
                rw [i_lt, eb] at d2
                rw [i_lt, ea] at d3
                rw [i_lt, e0] at d4
                rw [i_lt, e1] at d5
                have : l = 0 := by
                  apply Classical.byContradiction
                  intro w
                  exact c ⟨w, d1, by omega, by omega⟩
                rw [if_pos (by rw [this]; rfl)]
    · rw [mR_row, zLet_eq, zGet_at (i := 22) 22 rfl (by decide) (by decide), e22, mR_row_43]
      by_cases d0 : l = 0
      · rw [if_pos (by rw [d0]; rfl)]
      · have n0 : ¬ nI l = 0 := fun w => d0 (nI_inj (b := 0) (by omega) (by omega) w)
        rw [if_neg n0]
        by_cases d1 : x1 = 0
        · rw [if_pos d1]
        · rw [if_neg d1, zLet_eq, hin, zCall_some, mR_row_43]
          by_cases d2 : -10000 ≤ x1.toInt ∧ x1.toInt ≤ 10000
          · rw [if_pos d2, if_neg n10, zLet_eq, hin2, zCall_some, if_neg (fun w => c ⟨d0, d1, d2, w⟩), if_pos rfl, mR_row_43]
          · rw [if_neg d2, if_pos rfl]
