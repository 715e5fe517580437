/-! the study's tally -/
def BK (H : ST) (l : Nat) (bk : Nat → Nat) : Prop := ∀ i, i < l → bk i < 10000 ∧ H 19 i = nI (bk i)
theorem BK_of {A H : ST} {l : Nat} (g : GH A H) (e : H 18 4 = nI l) (hl : l ≤ 400) (h7 : (A 1 7).toInt ≤ 10000) : BK H l (fun i => (H 19 i).toNatClampNeg) := by
  obtain ⟨l', h1, h2, h3⟩ := g
  have : l' = l := nI_inj (by omega) (by omega) (h2.symm.trans e)
  subst this
  intro i hi
  obtain ⟨a1, a2⟩ := h3 i hi
  obtain ⟨c1, c2⟩ := clamp_toInt a1
  exact ⟨show (H 19 i).toNatClampNeg < 10000 by omega, c2⟩
theorem bk_eq {H : ST} {l : Nat} {bk : Nat → Nat} (h : BK H l bk) {i j : Nat} (hi : i < l) (hj : j < l) : (H 19 i = H 19 j) ↔ bk i = bk j := by
  obtain ⟨a1, a2⟩ := h i hi
  obtain ⟨b1, b2⟩ := h j hj
  rw [a2, b2]
  exact ⟨fun w => nI_inj (by omega) (by omega) w, fun w => by rw [w]⟩
def wT (u : ST) (f : Nat → Int32) : ST := fun c => if c = 1 then f else u c
theorem wT_1 (u : ST) (f : Nat → Int32) : wT u f 1 = f := rfl
theorem wT_n {u : ST} {f : Nat → Int32} {c : Nat} (h : c ≠ 1) : wT u f c = u c := if_neg h
theorem wT_self (u : ST) : wT u (u 1) = u := by
  funext c
  unfold wT
  by_cases h : c = 1
  · rw [if_pos h, h]
  · rw [if_neg h]
theorem wT_up (u : ST) (f : Nat → Int32) (b : Nat) (v : Int32) : zUp (wT u f) 1 b v = wT u (fun y => if y = b then v else f y) := by
  funext c y
  rw [q_get]
  unfold wT
  by_cases h : c = 1
  · rw [if_pos h, if_pos h]
    by_cases h2 : y = b
    · rw [if_pos ⟨h, h2⟩, if_pos h2]
    · rw [if_neg (fun w => h2 w.2), if_neg h2]
  · rw [if_neg h, if_neg h, if_neg (fun w => h w.1)]
theorem wT_u0 (u : ST) (f : Nat → Int32) (b : Nat) (v : Int32) : zUp (wT u f) 0 b v = wT (zUp u 0 b v) f := by
  funext c y
  rw [q_get]
  unfold wT
  by_cases h : c = 1
  · rw [if_pos h, if_pos h, if_neg (by omega)]
  · rw [if_neg h, if_neg h, q_get]
theorem RU_k {u u' H : ST} (h : RU u H) (h1 : ∀ c, 5 ≤ c → c ≤ 7 → u' c = u c) : RU u' H := by
  obtain ⟨el, l, a1, a2, e1, e2, e3, a3⟩ := h
  refine ⟨el, l, a1, a2, ?_, ?_, e3, ?_⟩
  · rw [h1 5 (by omega) (by omega)]; exact e1
  · rw [h1 5 (by omega) (by omega)]; exact e2
  · rw [h1 6 (by omega) (by omega), h1 7 (by omega) (by omega)]; exact a3
theorem RU_wT {u H : ST} (h : RU u H) (f : Nat → Int32) : RU (wT u f) H := RU_k h (fun c _ _ => wT_n (by omega))
theorem u_setT (N : Nat) (u : ST) (f : Nat → Int32) {b : Nat} (hb : b < 10000) (v : Int32) : mU_X5_setTally N (wT u f) (nI b) v = some (wT u (fun y => if y = b then v else f y)) := by
  rw [mU_X5_setTally, if_neg (show ¬ nI b < 0 by rw [i_lt, nI_toInt (by omega), show (0 : Int32).toInt = 0 by decide]; omega), if_neg (show ¬ (10000 : Int32) ≤ nI b from nI_ge (a := b) (b := 10000) (by omega) (by omega)), zSet_nI hb (by omega), mU_X5_setTally_18, wT_up]
def tAt (f : Nat → Int32) (x : Int32) : Int32 := if 0 ≤ x.toInt ∧ x.toInt < 10000 then f x.toNatClampNeg else 0
theorem u_tally (N : Nat) (u : ST) (f : Nat → Int32) (x : Int32) : mU_X5_tallyOf N (wT u f) x = some (tAt f x, wT u f) := by
  have e0 : (0 : Int32).toInt = 0 := by decide
  have e1 : (10000 : Int32).toInt = 10000 := by decide
  unfold tAt
  rw [mU_X5_tallyOf]
  by_cases c : x < 0
  · rw [if_pos c, mU_X5_tallyOf_11, mU_X5_tallyOf_21, if_neg (by rw [i_lt, e0] at c; omega)]
  · rw [if_neg c]
    rw [i_lt, e0] at c
    by_cases c2 : x < 10000
    · rw [if_pos c2]
      rw [i_lt, e1] at c2
      obtain ⟨d1, d2⟩ := clamp_toInt (x := x) (by omega)
      rw [if_pos ⟨by omega, c2⟩, zGet_at x.toNatClampNeg d2 (by omega) (by omega), mU_X5_tallyOf_21, wT_1]
    · rw [if_neg c2, mU_X5_tallyOf_11, mU_X5_tallyOf_21]
      rw [i_lt, e1] at c2
      rw [if_neg (by omega)]
theorem tAt_n {f : Nat → Int32} {b : Nat} (hb : b < 10000) : tAt f (nI b) = f b := by
  unfold tAt
  rw [if_pos (by rw [nI_toInt (by omega)]; omega), nI_clamp (by omega)]
/-- not in the trace -/
def nT (bk : Nat → Nat) (a l : Nat) (b : Nat) : Prop := ∀ i, a ≤ i → i < l → ¬ bk i = b
theorem u_clear (N : Nat) (hN : 401 < N) {u H : ST} (h : RU u H) {l : Nat} (hl : l ≤ 400) (e : H 18 4 = nI l) {bk : Nat → Nat} (hb : BK H l bk) (hz : ∀ b, b < 10000 → u 1 b = 0) {f : Nat → Int32} (hf : ∀ b, nT bk 0 l b → f b = u 1 b) : mU_X5_clearTally N (wT u f) = some u := by
  have key : ∀ m j : Nat, ∀ f : Nat → Int32, (∀ b, nT bk j l b → f b = u 1 b) → j ≤ l → l - j < m → zIt (mU_X5_clearTally_B2 N) (fun _ _ => none) m (wT u f) (nI j) = some u := by
    intro m
    induction m with
    | zero => intro j f _ _ _; omega
    | succ m ih =>
      intro j f hf hj hm
      rw [zIt_s, mU_X5_clearTally_B2, zLet_eq, u_len (RU_wT h f) hl e]
      by_cases ej : j = l
      · subst ej
        have : f = u 1 := funext (fun b => hf b (fun i _ _ => by omega))
        rw [if_pos (nI_le (by omega) (by omega)), this, wT_self]
      · obtain ⟨b1, b2⟩ := hb j (by omega)
        rw [if_neg (nI_ge (by omega) (by omega)), u_blockAt N (RU_wT h f) (u_lt hl e (by omega)) (by omega), zCall_some, b2, u_setT N u f b1, zCallu_some, zLet_eq, nI_1]
        refine ih (j + 1) _ (fun b hn => ?_) (by omega) (by omega)
        by_cases c : b = bk j
        · rw [if_pos c, c, hz _ b1]
        · rw [if_neg c]
          exact hf b (fun i h1 h2 => by
            by_cases g : i = j
            · subst g; exact fun w => c w.symm
            · exact hn i (by omega) h2)
  exact key N 0 f hf (by omega) (by omega)
/-! habits -/
theorem u_unlike (N : Nat) (hN : 401 < N) {u H : ST} (h : RU u H) {l : Nat} (hl : l ≤ 400) (e : H 18 4 = nI l) {bk : Nat → Nat} (hb : BK H l bk) (hz : ∀ b, b < 10000 → u 1 b = 0) : mU_X5_unlikeBlocks N u = some (nI (qcnt (fun j => decide (rd (H 19) (H 19 j) 0 j = 0)) l), u) := by
  have key : ∀ m j : Nat, ∀ f : Nat → Int32, (∀ b, nT bk 0 l b → f b = u 1 b) → (∀ i, i < l → f (bk i) = if rd (H 19) (H 19 i) 0 j = 0 then 0 else 1) → j ≤ l → l - j < m → zIt (mU_X5_unlikeBlocks_B4 N) (fun _ _ _ => none) m (wT u f) (nI (qcnt (fun j => decide (rd (H 19) (H 19 j) 0 j = 0)) j)) (nI j) = some (nI (qcnt (fun j => decide (rd (H 19) (H 19 j) 0 j = 0)) l), u) := by
    intro m
    induction m with
    | zero => intro j f _ _ _ _; omega
    | succ m ih =>
      intro j f hf hg hj hm
      rw [zIt_s, mU_X5_unlikeBlocks_B4, zLet_eq, u_len (RU_wT h f) hl e]
      by_cases ej : j = l
      · subst ej
        rw [if_pos (nI_le (by omega) (by omega)), u_clear N hN h hl e hb hz hf, zCallu_some]
      · obtain ⟨b1, b2⟩ := hb j (by omega)
        have ihj := ih (j + 1)
        rw [qcnt_s] at ihj
        rw [if_neg (nI_ge (by omega) (by omega)), u_blockAt N (RU_wT h f) (u_lt hl e (by omega)) (by omega), zCall_some, u_tally, zCall_some]
        have et : tAt f (H 19 j) = if rd (H 19) (H 19 j) 0 j = 0 then 0 else 1 := by rw [b2, tAt_n b1, ← b2]; exact hg j (by omega)
        rw [et]
        by_cases c : rd (H 19) (H 19 j) 0 j = 0
        · rw [if_pos c, if_pos rfl, zLet_eq, b2, u_setT N u f b1, zCallu_some, mU_X5_unlikeBlocks_41, zLet_eq, nI_1, nI_1]
          rw [if_pos (decide_eq_true c)] at ihj
          refine ihj _ (fun b hn => ?_) (fun i hi => ?_) (by omega) (by omega)
          · rw [if_neg (fun w => hn j (by omega) (by omega) w.symm)]
            exact hf b hn
          · have hs := rd_s (H 19) (H 19 i) 0 j
            by_cases g : bk i = bk j
            · rw [if_pos ⟨Nat.zero_le _, (bk_eq hb (by omega) hi).mpr g.symm⟩] at hs
              rw [if_pos g, if_neg (by omega)]
            · rw [if_neg (fun w => g ((bk_eq hb (by omega) hi).mp w.2).symm), Nat.add_zero] at hs
              rw [if_neg g, hs]
              exact hg i hi
        · rw [if_neg c, if_neg n10, mU_X5_unlikeBlocks_41, zLet_eq, nI_1]
          rw [if_neg (by simpa using c)] at ihj
          refine ihj _ hf (fun i hi => ?_) (by omega) (by omega)
          have hs := rd_s (H 19) (H 19 i) 0 j
          by_cases g : H 19 j = H 19 i
          · rw [if_pos ⟨Nat.zero_le _, g⟩] at hs
            rw [if_neg (by omega), hg i hi, if_neg (by rw [← g]; exact c)]
          · rw [if_neg (fun w => g w.2), Nat.add_zero] at hs
            rw [hs]
            exact hg i hi
  have := key N 0 (u 1) (fun _ _ => rfl) (fun i hi => by rw [hz _ (hb i hi).1, rd_0 _ _ _ _ (Nat.le_refl 0), if_pos rfl]) (by omega) (by omega)
  rw [wT_self] at this
  exact this
theorem r_unlike_in (N : Nat) {ρ H : ST} {l : Nat} (hl : l ≤ 400) (h3 : ∀ i, i < l → ρ 1 (774 + 3 * i) = H 19 i ∧ ρ 1 (775 + 3 * i) = H 20 i ∧ ρ 1 (776 + 3 * i) = H 21 i) (hd : ST → Int32 → Int32 → Option (Int32 × ST)) {j s : Nat} (hj : j < l) :
    ∀ m i : Nat, i ≤ j → j - i < m → zIt (mR_unlikeBlocks_B20 N hd) (fun _ _ _ _ _ => none) m ρ (nI s) (nI j) (if rd (H 19) (H 19 j) 0 i = 0 then 1 else 0) (nI i) = hd ρ (nI (s + (if rd (H 19) (H 19 j) 0 j = 0 then 1 else 0))) (nI (j + 1)) := by
  intro m
  induction m with
  | zero => intro i _ _; omega
  | succ m ih =>
    intro i hi hm
    have nx := ih (i + 1)
    rw [zIt_s]
    generalize zIt (mR_unlikeBlocks_B20 N hd) (fun _ _ _ _ _ => none) m = hd2 at *
    rw [mR_unlikeBlocks_B20]
    by_cases ei : i = j
    · subst ei
      rw [if_pos (nI_le (by omega) (by omega)), mR_unlikeBlocks_66, mR_unlikeBlocks_66, zLet_eq, zLet_eq, zLet_eq, nI_1]
      by_cases c : rd (H 19) (H 19 i) 0 i = 0
      · rw [if_pos c, if_neg n10, if_pos c, zLet_eq, nI_1]
      · rw [if_neg c, if_pos rfl, if_neg c]
        congr 1
        exact Int32.add_zero _
    · have nx := nx (by omega) (by omega)
      rw [if_neg (nI_ge (by omega) (by omega))]
      by_cases c : rd (H 19) (H 19 j) 0 i = 0
      · rw [if_pos c, if_neg n10, r_traced N hl h3 (by omega), zCall_some, r_traced N hl h3 hj, zCall_some]
        by_cases q : H 19 i = H 19 j
        · rw [if_pos q, mR_unlikeBlocks_48, mR_unlikeBlocks_49, zLet_eq, nI_1]
          rw [if_neg (show ¬ rd (H 19) (H 19 j) 0 (i + 1) = 0 by rw [rd_s, if_pos ⟨Nat.zero_le _, q⟩]; omega)] at nx
          exact nx
        · rw [if_neg q, mR_unlikeBlocks_49, zLet_eq, nI_1]
          rw [if_pos (show rd (H 19) (H 19 j) 0 (i + 1) = 0 by rw [rd_s, if_neg (fun w => q w.2), c])] at nx
          exact nx
      · rw [if_neg c, if_pos rfl, mR_unlikeBlocks_48, mR_unlikeBlocks_49, zLet_eq, nI_1]
        have := rd_mono (H 19) (H 19 j) 0 (show i ≤ i + 1 by omega)
        rw [if_neg (show ¬ rd (H 19) (H 19 j) 0 (i + 1) = 0 by omega)] at nx
        exact nx
theorem r_unlike (N : Nat) (hN : 401 < N) {ρ H : ST} {l : Nat} (hl : l ≤ 400) (e22 : ρ 1 22 = nI l) (h3 : ∀ i, i < l → ρ 1 (774 + 3 * i) = H 19 i ∧ ρ 1 (775 + 3 * i) = H 20 i ∧ ρ 1 (776 + 3 * i) = H 21 i) : mR_unlikeBlocks N ρ = some (nI (qcnt (fun j => decide (rd (H 19) (H 19 j) 0 j = 0)) l), ρ) := by
  have key : ∀ m j : Nat, j ≤ l → l - j < m → zIt (mR_unlikeBlocks_B4 N) (fun _ _ _ => none) m ρ (nI (qcnt (fun j => decide (rd (H 19) (H 19 j) 0 j = 0)) j)) (nI j) = some (nI (qcnt (fun j => decide (rd (H 19) (H 19 j) 0 j = 0)) l), ρ) := by
    intro m
    induction m with
    | zero => intro j _ _; omega
    | succ m ih =>
      intro j hj hm
      rw [zIt_s, mR_unlikeBlocks_B4, zGet_at (i := 22) 22 rfl (by decide) (by decide), e22]
      by_cases ej : j = l
      · subst ej
        rw [if_pos (nI_le (by omega) (by omega))]
      · have nx := ih (j + 1) (by omega) (by omega)
        have hin := r_unlike_in N hl h3 (zIt (mR_unlikeBlocks_B4 N) (fun _ _ _ => none) m) (j := j) (s := qcnt (fun j => decide (rd (H 19) (H 19 j) 0 j = 0)) j) (by omega) N 0 (by omega) (by omega)
        rw [rd_0 _ _ _ _ (Nat.le_refl 0), if_pos rfl, show nI 0 = 0 from rfl] at hin
        rw [if_neg (nI_ge (by omega) (by omega)), mR_unlikeBlocks_20, hin, ← nx]
        congr 2
        rw [qcnt_s]
        by_cases c : rd (H 19) (H 19 j) 0 j = 0
        · rw [if_pos c, if_pos (decide_eq_true c)]
        · rw [if_neg c, if_neg (by simpa using c)]
  exact key N 0 (by omega) (by omega)
def qbtw (H : ST) (a : Nat) : Nat → Int32
  | 0 => -1
  | i + 1 => if H 19 i = H 19 a then nI (a - 1 - i) else qbtw H a i
theorem u_between (N : Nat) (hN : 401 < N) {u H : ST} (h : RU u H) {l : Nat} (hl : l ≤ 400) (l0 : 0 < l) (e : H 18 4 = nI l) : mU_X5_sinceLatestBlock N u = some (qbtw H (l - 1) (l - 1), u) := by
  have key : ∀ m i : Nat, i < l → i < m → zIt (mU_X5_sinceLatestBlock_B14 N) (fun _ _ _ => none) m u (nI (l - 1)) (nI i - 1) = some (qbtw H (l - 1) i, u) := by
    intro m
    induction m with
    | zero => intro i _ _; omega
    | succ m ih =>
      intro i hi hm
      rw [zIt_s, mU_X5_sinceLatestBlock_B14]
      by_cases i0 : i = 0
      · subst i0
        rw [if_pos (by decide)]
        rfl
      · obtain ⟨k, rfl⟩ : ∃ k, i = k + 1 := ⟨i - 1, by omega⟩
        have e1 : nI (k + 1) - 1 = nI k := by rw [show (1 : Int32) = nI 1 from rfl, pk_sub (by omega), Nat.add_sub_cancel]
        rw [e1, if_neg (show ¬ nI k < 0 by rw [i_lt, nI_toInt (by omega), show (0 : Int32).toInt = 0 by decide]; omega), u_blockAt N h (u_lt hl e (by omega)) (by omega), zCall_some, u_blockAt N h (u_lt hl e (by omega)) (by omega), zCall_some, qbtw]
        by_cases c : H 19 k = H 19 (l - 1)
        · rw [if_pos c, if_pos c, zLet_eq, zLet_eq, pk_sub (by omega), show (1 : Int32) = nI 1 from rfl, pk_sub (by omega), show l - 1 - k - 1 = l - 1 - 1 - k by omega]
        · rw [if_neg c, if_neg c, zLet_eq, ← Int32.sub_eq_add_neg]
          exact ih k (by omega) (by omega)
  have e1 : nI l - 1 = nI (l - 1) := by rw [show (1 : Int32) = nI 1 from rfl, pk_sub (by omega)]
  rw [mU_X5_sinceLatestBlock, zLet_eq, zLet_eq, zLet_eq, u_len h hl e, e1]
  exact key N (l - 1) (by omega) (by omega)
theorem r_between (N : Nat) (hN : 401 < N) {ρ H : ST} {l : Nat} (hl : l ≤ 400) (l0 : 0 < l) (e22 : ρ 1 22 = nI l) (h3 : ∀ i, i < l → ρ 1 (774 + 3 * i) = H 19 i ∧ ρ 1 (775 + 3 * i) = H 20 i ∧ ρ 1 (776 + 3 * i) = H 21 i) : mR_between N ρ = some (qbtw H (l - 1) (l - 1), ρ) := by
  have key : ∀ m i : Nat, i < l → i < m → zIt (mR_between_B14 N) (fun _ _ _ => none) m ρ (nI (l - 1)) (nI i - 1) = some (qbtw H (l - 1) i, ρ) := by
    intro m
    induction m with
    | zero => intro i _ _; omega
    | succ m ih =>
      intro i hi hm
      rw [zIt_s, mR_between_B14]
      by_cases i0 : i = 0
      · subst i0
        rw [if_pos (by decide)]
        rfl
      · obtain ⟨k, rfl⟩ : ∃ k, i = k + 1 := ⟨i - 1, by omega⟩
        have e1 : nI (k + 1) - 1 = nI k := by rw [show (1 : Int32) = nI 1 from rfl, pk_sub (by omega), Nat.add_sub_cancel]
        rw [e1, if_neg (show ¬ nI k < 0 by rw [i_lt, nI_toInt (by omega), show (0 : Int32).toInt = 0 by decide]; omega), r_traced N hl h3 (by omega), zCall_some, r_traced N hl h3 (by omega), zCall_some, qbtw]
        by_cases c : H 19 k = H 19 (l - 1)
        · rw [if_pos c, if_pos c, zLet_eq, zLet_eq, show (1 : Int32) = nI 1 from rfl, pk_sub (by omega), pk_sub (by omega)]
        · rw [if_neg c, if_neg c, zLet_eq, ← Int32.sub_eq_add_neg]
          exact ih k (by omega) (by omega)
  have e1 : nI l - 1 = nI (l - 1) := by rw [show (1 : Int32) = nI 1 from rfl, pk_sub (by omega)]
  rw [mR_between, zGet_at (i := 22) 22 rfl (by decide) (by decide), e22, zLet_eq, zLet_eq, e1]
  exact key N (l - 1) (by omega) (by omega)
theorem u_times (N : Nat) (hN : 401 < N) {u H : ST} (h : RU u H) {l : Nat} (hl : l ≤ 400) (e : H 18 4 = nI l) (v : Int32) : mU_X5_timesRead N u v = some (nI (rd (H 19) v 0 l), u) := by
  have e4 := u_len h hl e
  have key : ∀ m j : Nat, j ≤ l → l - j < m → zIt (mU_X5_timesRead_B4 N) (fun _ _ _ _ => none) m u v (nI (rd (H 19) v 0 j)) (nI j) = some (nI (rd (H 19) v 0 l), u) := by
    intro m
    induction m with
    | zero => intro j _ _; omega
    | succ m ih =>
      intro j hj hm
      rw [zIt_s, mU_X5_timesRead_B4, zLet_eq, e4]
      by_cases ej : j = l
      · subst ej
        rw [if_pos (nI_le (by omega) (by omega))]
      · have ihj := ih (j + 1) (by omega) (by omega)
        rw [rd_s] at ihj
        rw [if_neg (nI_ge (by omega) (by omega)), u_blockAt N h (u_lt hl e (by omega)) (by omega), zCall_some]
        by_cases c : H 19 j = v
        · rw [if_pos ⟨Nat.zero_le _, c⟩] at ihj
          rw [if_pos c, zLet_eq, mU_X5_timesRead_30, zLet_eq, nI_1, nI_1]
          exact ihj
        · rw [if_neg (fun w => c w.2)] at ihj
          rw [if_neg c, mU_X5_timesRead_30, zLet_eq, nI_1]
          exact ihj
  have := key N 0 (by omega) (by omega)
  rw [rd_0 _ _ _ _ (Nat.le_refl 0)] at this
  exact this
theorem r_times (N : Nat) (hN : 401 < N) {ρ H : ST} {l : Nat} (hl : l ≤ 400) (e22 : ρ 1 22 = nI l) (h3 : ∀ i, i < l → ρ 1 (774 + 3 * i) = H 19 i ∧ ρ 1 (775 + 3 * i) = H 20 i ∧ ρ 1 (776 + 3 * i) = H 21 i) (v : Int32) : mR_timesRead N ρ v = some (nI (rd (H 19) v 0 l), ρ) := by
  have key : ∀ m j : Nat, j ≤ l → l - j < m → zIt (mR_timesRead_B4 N) (fun _ _ _ _ => none) m ρ v (nI (rd (H 19) v 0 j)) (nI j) = some (nI (rd (H 19) v 0 l), ρ) := by
    intro m
    induction m with
    | zero => intro j _ _; omega
    | succ m ih =>
      intro j hj hm
      rw [zIt_s, mR_timesRead_B4, zGet_at (i := 22) 22 rfl (by decide) (by decide), e22]
      by_cases ej : j = l
      · subst ej
        rw [if_pos (nI_le (by omega) (by omega))]
      · have ihj := ih (j + 1) (by omega) (by omega)
        rw [rd_s] at ihj
        rw [if_neg (nI_ge (by omega) (by omega)), r_traced N hl h3 (by omega), zCall_some]
        by_cases c : H 19 j = v
        · rw [if_pos ⟨Nat.zero_le _, c⟩] at ihj
          rw [if_pos c, mR_timesRead_30, zLet_eq, zLet_eq, nI_1, nI_1]
          exact ihj
        · rw [if_neg (fun w => c w.2)] at ihj
          rw [if_neg c, mR_timesRead_30, zLet_eq, zLet_eq, nI_1, Int32.add_zero]
          exact ihj
  have := key N 0 (by omega) (by omega)
  rw [rd_0 _ _ _ _ (Nat.le_refl 0)] at this
  exact this
def qfav (H : ST) (l : Nat) : Nat → Int32 × Int32
  | 0 => (-1, 0)
  | j + 1 => if (qfav H l j).2 < nI (rd (H 19) (H 19 j) 0 l) then (H 19 j, nI (rd (H 19) (H 19 j) 0 l)) else if nI (rd (H 19) (H 19 j) 0 l) = (qfav H l j).2 then (if (qfav H l j).1 ≤ H 19 j then qfav H l j else (H 19 j, nI (rd (H 19) (H 19 j) 0 l))) else qfav H l j
theorem u_fav2 (N : Nat) (hN : 401 < N) {u H : ST} (h : RU u H) {l : Nat} (hl : l ≤ 400) (e : H 18 4 = nI l) {bk : Nat → Nat} (hb : BK H l bk) (hz : ∀ b, b < 10000 → u 1 b = 0) {f : Nat → Int32} (hf : ∀ b, nT bk 0 l b → f b = u 1 b) (hg : ∀ i, i < l → f (bk i) = nI (rd (H 19) (H 19 i) 0 l)) : ∀ m j : Nat, j ≤ l → l - j < m → zIt (mU_X5_favourite_B49 N) (fun _ _ _ _ => none) m (wT u f) (qfav H l j).1 (qfav H l j).2 (nI j) = some ((qfav H l l).1, u) := by
  intro m
  induction m with
  | zero => intro j _ _; omega
  | succ m ih =>
    intro j hj hm
    rw [zIt_s, mU_X5_favourite_B49, zLet_eq, u_len (RU_wT h f) hl e]
    by_cases ej : j = l
    · subst ej
      rw [if_pos (nI_le (by omega) (by omega)), u_clear N hN h hl e hb hz hf, zCallu_some]
    · obtain ⟨b1, b2⟩ := hb j (by omega)
      have ihj := ih (j + 1) (by omega) (by omega)
      rw [qfav] at ihj
      have et : tAt f (H 19 j) = nI (rd (H 19) (H 19 j) 0 l) := by rw [b2, tAt_n b1, ← b2]; exact hg j (by omega)
      rw [if_neg (nI_ge (by omega) (by omega)), u_blockAt N (RU_wT h f) (u_lt hl e (by omega)) (by omega), zCall_some, u_tally, zCall_some, et, mU_X5_favourite_96, mU_X5_favourite_102, mU_X5_favourite_102, zLet_eq, zLet_eq, nI_1]
      by_cases c1 : (qfav H l j).2 < nI (rd (H 19) (H 19 j) 0 l)
      · rw [if_pos c1] at ihj ⊢
        exact ihj
      · rw [if_neg c1] at ihj ⊢
        by_cases c2 : nI (rd (H 19) (H 19 j) 0 l) = (qfav H l j).2
        · rw [if_pos c2] at ihj ⊢
          by_cases c3 : (qfav H l j).1 ≤ H 19 j
          · rw [if_pos c3] at ihj ⊢
            exact ihj
          · rw [if_neg c3] at ihj ⊢
            exact ihj
        · rw [if_neg c2] at ihj ⊢
          exact ihj
theorem u_fav (N : Nat) (hN : 401 < N) {u H : ST} (h : RU u H) {l : Nat} (hl : l ≤ 400) (e : H 18 4 = nI l) {bk : Nat → Nat} (hb : BK H l bk) (hz : ∀ b, b < 10000 → u 1 b = 0) : mU_X5_favourite N u = some ((qfav H l l).1, u) := by
  have key : ∀ m j : Nat, ∀ f : Nat → Int32, (∀ b, nT bk 0 l b → f b = u 1 b) → (∀ i, i < l → f (bk i) = nI (rd (H 19) (H 19 i) 0 j)) → j ≤ l → l - j < m → zIt (mU_X5_favourite_B6 N) (fun _ _ _ _ => none) m (wT u f) (-1) 0 (nI j) = some ((qfav H l l).1, u) := by
    intro m
    induction m with
    | zero => intro j f _ _ _ _; omega
    | succ m ih =>
      intro j f hf hg hj hm
      rw [zIt_s, mU_X5_favourite_B6, zLet_eq, u_len (RU_wT h f) hl e]
      by_cases ej : j = l
      · subst ej
        rw [if_pos (nI_le (by omega) (by omega))]
        exact u_fav2 N hN h hl e hb hz hf hg N 0 (by omega) (by omega)
      · obtain ⟨b1, b2⟩ := hb j (by omega)
        have et : tAt f (H 19 j) = nI (rd (H 19) (H 19 j) 0 j) := by rw [b2, tAt_n b1, ← b2]; exact hg j (by omega)
        rw [if_neg (nI_ge (by omega) (by omega)), u_blockAt N (RU_wT h f) (u_lt hl e (by omega)) (by omega), zCall_some, u_tally, zCall_some, et, zLet_eq, nI_1]
        have hset := u_setT N u f b1 (nI (rd (H 19) (H 19 j) 0 j + 1))
        rw [← b2] at hset
        rw [hset, zCallu_some, zLet_eq, nI_1]
        refine ih (j + 1) _ (fun b hn => ?_) (fun i hi => ?_) (by omega) (by omega)
        · rw [if_neg (fun w => hn j (by omega) (by omega) w.symm)]
          exact hf b hn
        · rw [rd_s]
          by_cases g : bk i = bk j
          · have hq := (bk_eq hb hi (show j < l by omega)).mpr g
            rw [if_pos g, if_pos ⟨Nat.zero_le _, hq.symm⟩, hq]
          · rw [if_neg g, if_neg (fun w => g ((bk_eq hb (by omega) hi).mp w.2).symm), Nat.add_zero]
            exact hg i hi
  have := key N 0 (u 1) (fun _ _ => rfl) (fun i hi => by rw [hz _ (hb i hi).1, rd_0 _ _ _ _ (Nat.le_refl 0)]; rfl) (by omega) (by omega)
  rw [wT_self] at this
  exact this
theorem r_fav (N : Nat) (hN : 401 < N) {ρ H : ST} {l : Nat} (hl : l ≤ 400) (e22 : ρ 1 22 = nI l) (h3 : ∀ i, i < l → ρ 1 (774 + 3 * i) = H 19 i ∧ ρ 1 (775 + 3 * i) = H 20 i ∧ ρ 1 (776 + 3 * i) = H 21 i) : mR_mostRead N ρ = some ((qfav H l l).1, ρ) := by
  have key : ∀ m j : Nat, j ≤ l → l - j < m → zIt (mR_mostRead_B6 N) (fun _ _ _ _ => none) m ρ (qfav H l j).1 (qfav H l j).2 (nI j) = some ((qfav H l l).1, ρ) := by
    intro m
    induction m with
    | zero => intro j _ _; omega
    | succ m ih =>
      intro j hj hm
      rw [zIt_s, mR_mostRead_B6, zGet_at (i := 22) 22 rfl (by decide) (by decide), e22]
      by_cases ej : j = l
      · subst ej
        rw [if_pos (nI_le (by omega) (by omega))]
      · have ihj := ih (j + 1) (by omega) (by omega)
        rw [qfav] at ihj
        have k49 : ∀ x1 x2 x4, mR_mostRead_49 N (zIt (mR_mostRead_B6 N) (fun _ _ _ _ => none) m) ρ x1 x2 (nI j) x4 = zIt (mR_mostRead_B6 N) (fun _ _ _ _ => none) m ρ (H 19 j) x4 (nI (j + 1)) := fun x1 x2 x4 => by
          rw [mR_mostRead_49, r_traced N hl h3 (by omega), zCall_some, mR_mostRead_58, zLet_eq, nI_1]
        rw [if_neg (nI_ge (by omega) (by omega)), r_traced N hl h3 (by omega), zCall_some, r_times N hN hl e22 h3, zCall_some]
        by_cases c1 : (qfav H l j).2 < nI (rd (H 19) (H 19 j) 0 l)
        · rw [if_pos c1] at ihj ⊢
          rw [k49]
          exact ihj
        · rw [if_neg c1] at ihj ⊢
          by_cases c2 : nI (rd (H 19) (H 19 j) 0 l) = (qfav H l j).2
          · rw [if_pos c2] at ihj ⊢
            rw [r_traced N hl h3 (by omega), zCall_some]
            by_cases c3 : (qfav H l j).1 ≤ H 19 j
            · rw [if_pos c3] at ihj ⊢
              rw [mR_mostRead_58, zLet_eq, nI_1]
              exact ihj
            · rw [if_neg c3] at ihj ⊢
              rw [k49]
              exact ihj
          · rw [if_neg c2] at ihj ⊢
            rw [mR_mostRead_58, zLet_eq, nI_1]
            exact ihj
  exact key N 0 (by omega) (by omega)
theorem r_nexts (N : Nat) (hN : 401 < N) {ρ H : ST} {l : Nat} (hl : l ≤ 400) (l0 : 0 < l) (e22 : ρ 1 22 = nI l) (h3 : ∀ i, i < l → ρ 1 (774 + 3 * i) = H 19 i ∧ ρ 1 (775 + 3 * i) = H 20 i ∧ ρ 1 (776 + 3 * i) = H 21 i) (x1 : Int32) : mR_habits_80 N ρ x1 0 1 = some (nI (l - qcnt (qu_st H) l), ρ) := by
  have key : ∀ m j : Nat, j ≤ l → l - j < m → zIt (mR_habits_B80 N) (fun _ _ _ _ => none) m ρ x1 (nI (j - qcnt (qu_st H) j)) (nI j) = some (nI (l - qcnt (qu_st H) l), ρ) := by
    intro m
    induction m with
    | zero => intro j _ _; omega
    | succ m ih =>
      intro j hj hm
      rw [zIt_s, mR_habits_B80, zGet_at (i := 22) 22 rfl (by decide) (by decide), e22]
      by_cases ej : j = l
      · subst ej
        rw [if_pos (nI_le (by omega) (by omega))]
      · have ihj := ih (j + 1) (by omega) (by omega)
        have hq : qcnt (qu_st H) j ≤ j := qcnt_le _ _
        rw [qcnt_s] at ihj
        rw [if_neg (nI_ge (by omega) (by omega)), r_isNext N hl h3 (by omega), zCall_some]
        by_cases c : qu_st H j = true
        · rw [if_pos c] at ihj ⊢
          rw [if_pos rfl, mR_habits_105, zLet_eq, zLet_eq, nI_1, Int32.add_zero]
          rw [show j + 1 - (qcnt (qu_st H) j + 1) = j - qcnt (qu_st H) j by omega] at ihj
          exact ihj
        · rw [if_neg c] at ihj ⊢
          rw [if_neg n10, mR_habits_105, zLet_eq, zLet_eq, nI_1, nI_1]
          rw [show j + 1 - (qcnt (qu_st H) j + 0) = j - qcnt (qu_st H) j + 1 by omega] at ihj
          exact ihj
  have := key N 1 (by omega) (by omega)
  rw [qcnt_s, if_pos (show qu_st H 0 = true from rfl)] at this
  exact this
theorem s_habits (N : Nat) (hN : 500 < N) (κ : Nat) : Sm_habits N (II κ) (II (κ + 1)) := by
  intro τ ρ x1 hI
  obtain ⟨⟨A, C, H, n1, n2, n3⟩, hr⟩ := id hI
  have hth := RR_thr n2
  have hu := RU_of n1
  have htb := GT_b n3.1.1.1
  obtain ⟨l, l1, l2, l3⟩ := hth.2.2.2.2.1
  have hb := BK_of n3.2.1 l2 l1 (by omega)
  have hz : ∀ b, b < 10000 → pU τ 1 b = 0 := fun b hb => hr.2.2.2 b hb
  have e22 : zUp ρ 0 0 0 1 22 = nI l := by rw [hth.2.1.2.2.1, l2]
  have e4 : τ 18 4 = nI l := by
    have := u_len hu l1 l2
    exact this
  suffices hv : ∃ v, mT_X7_habits N τ x1 = some (v, τ) ∧ mR_habits N ρ x1 = some (v, zUp ρ 0 0 0) by
    obtain ⟨v, v1, v2⟩ := hv
    exact ⟨v, _, _, v1, v2, II_thr hI⟩
  rw [mT_X7_habits, mR_habits]
  simp only [zLet_eq]
  rw [zGet_at (i := 22) 22 rfl (by decide) (by decide), e22, e4]
  generalize zUp ρ 0 0 0 = ρ0 at *
  by_cases lz : l = 0
  · subst lz
    rw [if_pos (show nI 0 = 0 from rfl), if_pos (show nI 0 = 0 from rfl)]
    exact ⟨_, rfl, rfl⟩
  · have n0 : ¬ nI l = 0 := fun w => lz (nI_inj (b := 0) (by omega) (by omega) w)
    have hq : qcnt (qu_st H) l ≤ l := qcnt_le _ _
    rw [if_neg n0, if_neg n0, zqU (u_unlike N (by omega) hu l1 l2 hb hz), r_unlike N (by omega) l1 e22 l3, zqU (u_between N (by omega) hu l1 (by omega) l2), r_between N (by omega) l1 (by omega) e22 l3, zqU (u_fav N (by omega) hu l1 l2 hb hz), zqU (u_fav N (by omega) hu l1 l2 hb hz), r_fav N (by omega) l1 e22 l3, zqU (u_times N (by omega) hu l1 l2 _), zqU (u_pieces N (by omega) hu l1 l2), r_nexts N (by omega) l1 (by omega) e22 l3, zCall_some, zCall_some, zCall_some, zCall_some, r_times N (by omega) l1 e22 l3, zCall_some, pk_sub hq]
    by_cases c0 : x1 = 0
    · rw [if_pos c0, if_pos c0]
      exact ⟨_, rfl, rfl⟩
    · rw [if_neg c0, if_neg c0]
      by_cases c1 : x1 = 1
      · rw [if_pos c1, if_pos c1]
        exact ⟨_, rfl, rfl⟩
      · rw [if_neg c1, if_neg c1]
        by_cases c2 : x1 = 2
        · rw [if_pos c2, if_pos c2]
          exact ⟨_, rfl, rfl⟩
        · rw [if_neg c2, if_neg c2]
          by_cases c3 : x1 = 3
          · rw [if_pos c3, if_pos c3]
            exact ⟨_, rfl, rfl⟩
          · rw [if_neg c3, if_neg c3]
            by_cases c4 : x1 = 4
            · rw [if_pos c4, if_pos c4]
              exact ⟨_, rfl, rfl⟩
            · rw [if_neg c4, if_neg c4]
              exact ⟨_, rfl, rfl⟩
