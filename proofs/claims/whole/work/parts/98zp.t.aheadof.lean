/-! aheadOf -/
def wayZ (L S e : Int) : Int := if 0 ≤ S then e - L else L - e
def absZ (S : Int) : Int := if 0 ≤ S then S else -S
def wT5 (C : ST) (num : Int32) (L S D : Int) (b : Nat) : Bool := decide (C b 5 = 1 ∧ C b 3 = num ∧ 0 < wayZ L S b ∧ wayZ L S b < D)
def wc (C : ST) (num : Int32) (L S D : Int) : Nat := qcnt (fun b => decide (C b 0 = 1) && wT5 C num L S D b) 10000
def aIs (C : ST) (num : Int32) (L S : Int) (x : Int32) (b : Nat) : Prop := b < 10000 ∧ C b 0 = 1 ∧ C b 5 = 1 ∧ C b 3 = num ∧ 0 < wayZ L S b ∧ nI (wc C num L S (wayZ L S b)) = x
def aRes (C : ST) (num : Int32) (L S : Int) (x v : Int32) : Prop := (∃ b, aIs C num L S x b ∧ v = nI b) ∨ (v = -1 ∧ ∀ b, ¬ aIs C num L S x b)
theorem wc_lt {C : ST} {num : Int32} {L S : Int} {b : Nat} {D : Int} (hb : b < 10000) (h0 : C b 0 = 1) (h5 : C b 5 = 1) (h3 : C b 3 = num) (hw : 0 < wayZ L S b) (hD : wayZ L S b < D) : wc C num L S (wayZ L S b) < wc C num L S D := by
  unfold wc
  rw [qcnt_rem (P := fun b => decide (C b 0 = 1) && wT5 C num L S D b) hb (by simp [wT5, h0, h5, h3, hw, hD])]
  refine Nat.lt_succ_of_le (qcnt_mono (fun i _ hi => ?_))
  simp [wT5] at hi ⊢
  obtain ⟨i0, i5, i3, i1, i2⟩ := hi
  refine ⟨⟨i0, i5, i3, i1, by omega⟩, fun e => ?_⟩
  subst e
  omega
theorem aIs_u {C : ST} {num : Int32} {L S : Int} {x : Int32} {b b' : Nat} (h : aIs C num L S x b) (h' : aIs C num L S x b') : b = b' := by
  obtain ⟨a1, a2, a3, a4, a5, a6⟩ := h
  obtain ⟨c1, c2, c3, c4, c5, c6⟩ := h'
  have l1 : wc C num L S (wayZ L S b) ≤ 10000 := qcnt_le _ _
  have l2 : wc C num L S (wayZ L S b') ≤ 10000 := qcnt_le _ _
  have e := nI_inj (by omega) (by omega) (a6.trans c6.symm)
  have e2 : wayZ L S b = wayZ L S b' := by
    by_cases g1 : wayZ L S b < wayZ L S b'
    · have := wc_lt a1 a2 a3 a4 a5 g1
      omega
    · by_cases g2 : wayZ L S b' < wayZ L S b
      · have := wc_lt c1 c2 c3 c4 c5 g2
        omega
      · omega
  unfold wayZ at e2
  split at e2 <;> omega
theorem aRes_u {C : ST} {num : Int32} {L S : Int} {x v v' : Int32} (h : aRes C num L S x v) (h' : aRes C num L S x v') : v = v' := by
  rcases h with ⟨b, hb, e⟩ | ⟨e, hn⟩
  · rcases h' with ⟨b', hb', e'⟩ | ⟨e', hn'⟩
    · rw [e, e', aIs_u hb hb']
    · exact absurd hb (hn' b)
  · rcases h' with ⟨b', hb', e'⟩ | ⟨e', hn'⟩
    · exact absurd hb' (hn b')
    · rw [e, e']
theorem qc_isW (N : Nat) {A κ C : ST} {n j : Nat} (e7 : κ 3 7 = nI n) (hn : n ≤ 64) (hR : RKs κ C n) (hj : j < n) (num : Int32) : ∃ b, b < 10000 ∧ C b 0 = 1 ∧ κ 4 j = nI b ∧ mE_X0_isWaitingFor N (qmix A κ) (nI j) num = some (if C b 5 = 1 ∧ C b 3 = num then 1 else 0, qmix A κ) := by
  obtain ⟨b, hb, hc, f10, f4, f5, f6, f7, f8, f9, f⟩ := hR.1 j hj
  refine ⟨b, hb, hc, f4, ?_⟩
  have f9' : qmix A κ 9 j = C b 5 := by rw [q_mK (by omega)]; exact f9
  have f7' : qmix A κ 7 j = C b 3 := by rw [q_mK (by omega)]; exact f7
  have e7' : qmix A κ 3 7 = nI n := by rw [q_mK (by omega)]; exact e7
  rw [mE_X0_isWaitingFor, if_neg (show ¬ nI j < 0 by rw [i_lt, nI_toInt (by omega), show (0 : Int32).toInt = 0 by decide]; omega), zLet_eq, e7', if_neg (nI_ge (by omega) (by omega)), zGet_nI (by omega) (by omega), zGet_nI (by omega) (by omega), f9', f7', mE_X0_isWaitingFor_35, mE_X0_isWaitingFor_36, mE_X0_isWaitingFor_36, zBool_0, zBool_1]
  by_cases w : C b 5 = 1
  · rw [if_neg (show ¬ C b 5 = 0 by rw [w]; decide)]
    by_cases w3 : C b 3 = num
    · rw [if_pos w3, if_pos ⟨w, w3⟩]
    · rw [if_neg w3, if_neg (fun z => w3 z.2)]
  · have w0 : C b 5 = 0 := f.resolve_right w
    rw [if_pos w0, if_neg (fun z => w z.1)]
theorem qc_way (N : Nat) {A κ : ST} (p : Fin 6) {b : Nat} (hb : b < 10000) (hL : 0 ≤ (A (12 + p.val) 1).toInt ∧ (A (12 + p.val) 1).toInt < 10000) : ∃ w, mE_X4_wayTo N (qmix A κ) p (nI b) = some (w, qmix A κ) ∧ w.toInt = wayZ (A (12 + p.val) 1).toInt (A (12 + p.val) 2).toInt b := by
  have hp := p.isLt
  have e0 : (0 : Int32).toInt = 0 := by decide
  have eb : (nI b).toInt = b := nI_toInt (by omega)
  rw [mE_X4_wayTo, zLet_eq, q_mA (by omega)]
  unfold wayZ
  by_cases c : (0 : Int32) ≤ A (12 + p.val) 2
  · refine ⟨nI b - A (12 + p.val) 1, by rw [if_pos c, zLet_eq, zLet_eq, mE_X4_wayTo_22], ?_⟩
    rw [i_le, e0] at c
    rw [if_pos c, i_sub (by omega) (by omega), eb]
  · refine ⟨A (12 + p.val) 1 - nI b, by rw [if_neg c, zLet_eq, zLet_eq, mE_X4_wayTo_22], ?_⟩
    rw [i_le, e0] at c
    rw [if_neg c, i_sub (by omega) (by omega), eb]
theorem qc_beyondW (N : Nat) (hN : 64 < N) {A κ C : ST} (h : RKc κ C) (p : Fin 6) (hL : 0 ≤ (A (12 + p.val) 1).toInt ∧ (A (12 + p.val) 1).toInt < 10000) (x2 : Int32) : ∃ v, aRes C (A (12 + p.val) 0) (A (12 + p.val) 1).toInt (A (12 + p.val) 2).toInt x2 v ∧ mE_X0_waitingBeyond N (qmix A κ) p x2 = some (v, qmix A κ) := by
  have hp := p.isLt
  obtain ⟨-, -, n, hn, e7, hR⟩ := h
  have e0 : (0 : Int32).toInt = 0 := by decide
  have e7' : qmix A κ 3 7 = nI n := by rw [q_mK (by omega)]; exact e7
  have m4 : qmix A κ 4 = κ 4 := q_mK (by omega)
  have mp : qmix A κ (12 + p.val) = A (12 + p.val) := q_mA (by omega)
  generalize hnum : A (12 + p.val) 0 = num
  generalize hLL : (A (12 + p.val) 1).toInt = L at *
  generalize hSS : (A (12 + p.val) 2).toInt = S at *
  have hway : ∀ b, b < 10000 → ∃ w, mE_X4_wayTo N (qmix A κ) p (nI b) = some (w, qmix A κ) ∧ w.toInt = wayZ L S b := fun b hb => by
    have := qc_way N (A := A) (κ := κ) p hb (by rw [hLL]; exact hL)
    rw [hLL, hSS] at this
    exact this
  have inner : ∀ (hd : ST → Fin 6 → Int32 → Int32 → Option (Int32 × ST)) (i b : Nat) (x4 : Int32) (D : Int), i < n → κ 4 i = nI b → x4.toInt = D → ∀ m j, j ≤ n → n - j < m → zIt (mE_X0_waitingBeyond_B48 N hd) (fun _ _ _ _ _ _ _ => none) m (qmix A κ) p x2 (nI i) x4 (nI (qcnt (fun s => wT5 C num L S D (κ 4 s).toNatClampNeg) j)) (nI j) = if nI (wc C num L S D) = x2 then some (nI b, qmix A κ) else hd (qmix A κ) p x2 (nI (i + 1)) := by
    intro hd i b x4 D hi hb hx m
    induction m with
    | zero => intro j _ _; omega
    | succ m ih =>
      intro j hj hm
      have nx := ih (j + 1)
      rw [zIt_s]
      generalize zIt (mE_X0_waitingBeyond_B48 N hd) (fun _ _ _ _ _ _ _ => none) m = hd2 at *
      rw [mE_X0_waitingBeyond_B48, zLet_eq, e7']
      by_cases ej : j = n
      · subst ej
        have ec : qcnt (fun s => wT5 C num L S D (κ 4 s).toNatClampNeg) j = wc C num L S D := RKs_cnt hR hn (wT5 C num L S D)
        rw [if_pos (nI_le (by omega) (by omega)), ec, zGet_nI (by omega) (by omega), m4, hb, mE_X0_waitingBeyond_117, zLet_eq, nI_1]
      · have nx := nx (by omega) (by omega)
        rw [qcnt_s] at nx
        obtain ⟨b', hb', hc', f4, kw⟩ := qc_isW N (A := A) e7 hn hR (show j < n by omega) num
        have ecl : (κ 4 j).toNatClampNeg = b' := by rw [f4]; exact nI_clamp (by omega)
        rw [ecl] at nx
        obtain ⟨w, w1, w2⟩ := hway b' hb'
        have k98 : ∀ (a c : Int32), mE_X0_waitingBeyond_98 N hd hd2 (qmix A κ) p x2 (nI i) x4 a (nI j) c = hd2 (qmix A κ) p x2 (nI i) x4 a (nI (j + 1)) := fun a c => by
          rw [mE_X0_waitingBeyond_98, zLet_eq, nI_1]
        have nope : ¬ wT5 C num L S D b' = true → hd2 (qmix A κ) p x2 (nI i) x4 (nI (qcnt (fun s => wT5 C num L S D (κ 4 s).toNatClampNeg) j)) (nI (j + 1)) = if nI (wc C num L S D) = x2 then some (nI b, qmix A κ) else hd (qmix A κ) p x2 (nI (i + 1)) := fun z => by
          rw [if_neg z, Nat.add_zero] at nx
          exact nx
        rw [if_neg (nI_ge (by omega) (by omega)), zGet_nI (by omega) (by omega), m4, f4, w1, zCall_some]
        by_cases g1 : w ≤ 0
        · rw [if_pos g1, k98]
          refine nope (fun z => ?_)
          simp [wT5] at z
          rw [i_le, e0, w2] at g1
          omega
        · rw [if_neg g1]
          rw [i_le, e0, w2] at g1
          by_cases g2 : x4 ≤ w
          · rw [if_pos g2, k98]
            refine nope (fun z => ?_)
            simp [wT5] at z
            rw [i_le, hx, w2] at g2
            omega
          · rw [if_neg g2, zLet_eq]
            rw [i_le, hx, w2] at g2
            show zCall (mE_X0_isWaitingFor N (qmix A κ) (nI j) (qmix A κ (12 + p.val) 0)) _ = _
            rw [mp, hnum, kw, zCall_some, k98, zLet_eq, k98]
            by_cases g3 : C b' 5 = 1 ∧ C b' 3 = num
            · rw [if_pos (show wT5 C num L S D b' = true by simp [wT5, g3.1, g3.2]; omega)] at nx
              rw [if_pos g3, if_neg n10, nI_1]
              exact nx
            · rw [if_neg g3, if_pos rfl]
              refine nope (fun z => ?_)
              simp [wT5] at z
              exact g3 ⟨z.1, z.2.1⟩
  have key : ∀ m i : Nat, (∀ s, s < i → ∀ b, κ 4 s = nI b → ¬ aIs C num L S x2 b) → i ≤ n → n - i < m → ∃ v, aRes C num L S x2 v ∧ zIt (mE_X0_waitingBeyond_B2 N) (fun _ _ _ _ => none) m (qmix A κ) p x2 (nI i) = some (v, qmix A κ) := by
    intro m
    induction m with
    | zero => intro i _ _ _; omega
    | succ m ih =>
      intro i hno hi hm
      have nx := ih (i + 1)
      rw [zIt_s]
      generalize zIt (mE_X0_waitingBeyond_B2 N) (fun _ _ _ _ => none) m = hd at *
      rw [mE_X0_waitingBeyond_B2, zLet_eq, e7']
      by_cases ei : i = n
      · subst ei
        rw [if_pos (nI_le (by omega) (by omega))]
        refine ⟨-1, Or.inr ⟨rfl, fun b hb => ?_⟩, rfl⟩
        obtain ⟨s, s1, s2⟩ := hR.2.1 b hb.1 hb.2.1
        exact hno s s1 b s2 hb
      · obtain ⟨b, hb, hc, f4, kw⟩ := qc_isW N (A := A) e7 hn hR (show i < n by omega) num
        obtain ⟨w, w1, w2⟩ := hway b hb
        have go : ¬ aIs C num L S x2 b → ∃ v, aRes C num L S x2 v ∧ hd (qmix A κ) p x2 (nI (i + 1)) = some (v, qmix A κ) := fun hn2 => nx (fun s hs b' hb' => by
          by_cases g : s = i
          · subst g
            rw [hb'] at f4
            by_cases hb10 : b' < 10000
            · have : b' = b := nI_inj (by omega) (by omega) f4
              rw [this]
              exact hn2
            · exact fun z => hb10 z.1
          · exact hno s (by omega) b' hb') (by omega) (by omega)
        have k117 : ∀ c : Int32, mE_X0_waitingBeyond_117 N hd (qmix A κ) p x2 (nI i) c = hd (qmix A κ) p x2 (nI (i + 1)) := fun c => by
          rw [mE_X0_waitingBeyond_117, zLet_eq, nI_1]
        rw [if_neg (nI_ge (by omega) (by omega)), zGet_nI (by omega) (by omega), m4, f4, w1, zCall_some]
        by_cases g1 : w ≤ 0
        · rw [if_pos g1, k117]
          rw [i_le, e0, w2] at g1
          exact go (fun z => by have := z.2.2.2.2.1; omega)
        · rw [if_neg g1, zLet_eq]
          rw [i_le, e0, w2] at g1
          show ∃ v, _ ∧ zCall (mE_X0_isWaitingFor N (qmix A κ) (nI i) (qmix A κ (12 + p.val) 0)) _ = _
          rw [mp, hnum, kw, zCall_some, k117]
          by_cases g3 : C b 5 = 1 ∧ C b 3 = num
          · have hin := inner hd i b w (wayZ L S b) (by omega) f4 w2 N 0 (by omega) (by omega)
            have hin' : mE_X0_waitingBeyond_48 N hd (qmix A κ) p x2 (nI i) w 0 0 = _ := hin
            rw [if_pos g3, if_neg n10, hin']
            by_cases g4 : nI (wc C num L S (wayZ L S b)) = x2
            · rw [if_pos g4]
              exact ⟨nI b, Or.inl ⟨b, ⟨hb, hc, g3.1, g3.2, by omega, g4⟩, rfl⟩, rfl⟩
            · rw [if_neg g4]
              exact go (fun z => g4 z.2.2.2.2.2)
          · rw [if_neg g3, if_pos rfl]
            exact go (fun z => g3 ⟨z.2.2.1, z.2.2.2.1⟩)
  exact key N 0 (fun s hs => by omega) (by omega) (by omega)
