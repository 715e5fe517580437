/-! what a read does to its counts -/
theorem goes_2 {A C : ST} {t p : Nat} {x : Int32} (h : Gd A C t) (ht : t < 1073741000) (hx : XIN C x) (hp : p < 6) (hn : ¬ A (12 + p) 0 = -1) (hs : ¬ A (12 + p) 2 = 0) {k : Nat} (h5 : k ≠ 5) (h6 : k ≠ 6) (h7 : k ≠ 7) (h8 : k ≠ 8) (h9 : k ≠ 9) (h17 : k ≠ 17) : (qa_goes A C p x).1 2 k = A 2 k := by
  obtain ⟨a1, a2, a3, a4, a5, a6⟩ := ask_ok h hp hn hs
  unfold qa_goes
  by_cases c : (qa_ask A p).1 = true
  · rw [if_pos c]
    obtain ⟨b1, b2, b3, b4, b5, b6, b7⟩ := batch_ok a1 ht hx hp (by rw [a3 p 0 hp (by omega) (by omega)]; exact hn) (by rw [a3 p 2 hp (by omega) (by omega)]; exact hs)
    rw [b5 k h5 h6 h7 h8 h9 h17, a4 k h17]
  · rw [if_neg c]
    exact a4 k h17
theorem find_2 {A : ST} {x : Int32} {k : Nat} (hk : k ≠ 14) (hp : (qa_find A x).2.1 < 6) : (qa_find A x).2.2 2 k = A 2 k := by
  unfold qa_find at *
  cases h1 : qa_stepping A x 6 0 none with
  | some p =>
    rw [h1] at hp
    dsimp only at hp ⊢
    unfold qa_stepA; simp -implicitDefEqProofs (disch := first | assumption | omega) only [q_un]
  | none =>
    rw [h1] at hp
    dsimp only at hp ⊢
    cases hl : qa_lastAt A x with
    | some p =>
      dsimp only
      rw [q_un (by omega)]
    | none =>
      rw [hl] at hp
      dsimp only at hp ⊢
      cases hr : qa_pairing A x 6 0 none (A 1 4 + 1) with
      | some p =>
        rw [hr] at hp
        dsimp only at hp ⊢
        unfold qa_pairA; simp -implicitDefEqProofs (disch := first | assumption | omega) only [q_un]
      | none =>
        rw [hr] at hp
        dsimp only at hp ⊢
        rw [begin_2 hk, q_un (by omega)]
theorem find_08 {A : ST} {x : Int32} : (qa_find A x).2.2 0 8 = A 0 8 := by
  unfold qa_find
  cases h1 : qa_stepping A x 6 0 none with
  | some p =>
    dsimp only
    unfold qa_stepA; simp -implicitDefEqProofs (disch := first | assumption | omega) only [q_un]
  | none =>
    dsimp only
    cases hl : qa_lastAt A x with
    | some p =>
      dsimp only
      rw [q_un (by omega)]
    | none =>
      dsimp only
      cases hr : qa_pairing A x 6 0 none (A 1 4 + 1) with
      | some p =>
        dsimp only
        unfold qa_pairA; simp -implicitDefEqProofs (disch := first | assumption | omega) only [q_un]
      | none =>
        dsimp only
        rw [begin_q (by omega) (by omega), q_un (by omega)]
theorem join_2 {p : Nat} (hp : p < 6) : ∀ (m q : Nat) {A : ST} {c k : Nat}, q + m ≤ 6 → (c = 2 ∧ k ≠ 19 ∨ c = 0 ∧ k = 8) → qa_join p m q A c k = A c k := by
  intro m
  induction m with
  | zero => intro q A c k _ _; rfl
  | succ m ih =>
    intro q A c k hq hc
    rw [qa_join]
    split
    · rfl
    · split
      · exact ih (q + 1) (by omega) hc
      · split
        · rw [ih (q + 1) (by omega) hc, q_un (by omega), q_un (by omega), q_un (by omega)]
        · rw [ih (q + 1) (by omega) hc, q_un (by omega), q_un (by omega)]
theorem got_1 {A C : ST} {t b : Nat} (h : Gd A C t) (ht : t < 1073741800) (hb : b < 10000) : (qa_got A C b).1 2 1 = (if C b 0 = 1 then A 2 1 + 1 else A 2 1) ∧ (qa_got A C b).1 2 5 = A 2 5 := by
  unfold qa_got
  by_cases c : C b 0 = 1
  · rw [if_pos c, if_pos c]
    have ho1 : ∀ p, qa_streamOf (zUp A 2 0 (A 2 0 + 1)) (C b 3) = some p → p < 6 := fun p q => (qa_streamOf_lt q).1
    unfold qa_hit
    dsimp only
    rw [late_2 ho1 (by omega) (by omega) (by omega), late_2 ho1 (by omega) (by omega) (by omega), hitA_2 (k := 5) (by omega) (by omega), q_un (by omega)]
    refine ⟨?_, rfl⟩
    unfold qa_hitA
    by_cases c5 : C b 5 = 1
    · rw [if_pos c5]
      cases hs : qa_streamOf (zUp A 2 0 (A 2 0 + 1)) (C b 3) with
      | none => dsimp only; simp -implicitDefEqProofs (disch := first | assumption | omega) only [q_un, q_ue]
      | some p =>
        have hp := ho1 p hs
        dsimp only; simp -implicitDefEqProofs (disch := first | assumption | omega) only [q_un, q_ue]
    · rw [if_neg c5]
      simp -implicitDefEqProofs (disch := first | assumption | omega) only [q_un, q_ue]
  · rw [if_neg c, if_neg c]
    have g1 : Gd (zUp A 2 0 (A 2 0 + 1)) C (t + 1) := Gd_A h (GA_inc h.1 (by omega) (by omega)) (by omega) (q_uc (by omega)) (by rw [q_un (by omega)]; omega) (fun q hq => ⟨q_un (by omega), q_un (by omega)⟩)
    have g2 : Gd (zUp (zUp A 2 0 (A 2 0 + 1)) 2 2 (zUp A 2 0 (A 2 0 + 1) 2 2 + 1)) C (t + 2) := Gd_A g1 (GA_inc g1.1 (by omega) (by omega)) (by omega) (q_uc (by omega)) (by rw [q_un (c := 2) (k := 2) (by omega)]; exact Int.le_refl _) (fun q hq => ⟨q_un (by omega), q_un (by omega)⟩)
    have hx : XOK C (nI b) := fun b' hb' e w => by
      have : b' = b := nI_inj (by omega) (by omega) e
      subst this
      exact c w.1
    obtain ⟨r1, r2, r3, r4, -⟩ := room_ok g2 (by omega) hx
    unfold qa_admit
    dsimp only
    rw [r4 1 (by omega) (by omega), r4 5 (by omega) (by omega), q_un (by omega), q_un (by omega), q_un (by omega), q_un (by omega)]
    exact ⟨rfl, rfl⟩
/-- blocks fetched and blocks planned go up together -/
theorem bstep_pf {A C : ST} {t p i : Nat} {x : Int32} (h : Gd A C t) (ht : t < 1073741820) (hx : XOK C x) (hp : p < 6) (h0 : 0 ≤ (A 0 8).toInt) (h1 : (A 0 8).toInt < 32) (hm : qa_may A C (A (12 + p) 5 + A (12 + p) 2) = true) : (qa_bstep A C p x i).1 2 5 - (qa_bstep A C p x i).1 0 8 = A 2 5 - A 0 8 := by
  obtain ⟨m1, m2, m3⟩ := qa_may_b hm
  have eto : qa_to A p i 0 = A 0 := qa_to_c (by omega)
  have eto2 : qa_to A p i 2 = A 2 := qa_to_c (by omega)
  unfold qa_bstep
  split
  · dsimp only
    rw [q_un (by omega), q_un (by omega), eto, eto2]
  · unfold qa_fetch
    dsimp only
    have hg := Gd_to (i := i) h hp m1 m2
    obtain ⟨r1, r2, r3, r4, -⟩ := room_ok hg (by omega) hx
    have e0 : (qa_room (qa_to A p i) C x).1 0 = A 0 := by rw [r3 0 (by omega) (by omega) (by omega) (by omega), eto]
    have e5 : (qa_room (qa_to A p i) C x).1 2 5 = A 2 5 := by rw [r4 5 (by omega) (by omega), eto2]
    have z0 : (0 : Int32).toInt = 0 := by decide
    have e32 : (32 : Int32).toInt = 32 := by decide
    unfold qa_fetched qa_plan
    generalize (qa_room (qa_to A p i) C x).1 = B at *
    have e08 : zUp (zUp B 2 5 (B 2 5 + 1)) (12 + p) 8 (B (12 + p) 8 + 1) 0 8 = A 0 8 := by simp -implicitDefEqProofs (disch := first | assumption | omega) only [q_un]; rw [e0]
    rw [e08, if_neg (show ¬ A 0 8 < 0 by rw [i_lt, z0]; omega), if_neg (show ¬ 32 ≤ A 0 8 by rw [i_le, e32]; omega), q_ue rfl rfl]
    have e25 : zUp (zUp (zUp (zUp B 2 5 (B 2 5 + 1)) (12 + p) 8 (B (12 + p) 8 + 1)) 24 (A 0 8).toNatClampNeg (nI (A (12 + p) 5 + A (12 + p) 2).toNatClampNeg)) 0 8 (A 0 8 + 1) 2 5 = A 2 5 + 1 := by simp -implicitDefEqProofs (disch := first | assumption | omega) only [q_un, q_ue]; rw [e5]
    rw [e25, i_sub11]
theorem bloop_pf {p : Nat} {x : Int32} (hp : p < 6) : ∀ (m i : Nat) {A C : ST} {t : Nat}, Gd A C t → t + 3 * m < 1073741820 → XIN C x → ¬ A (12 + p) 0 = -1 → ¬ A (12 + p) 2 = 0 → 0 ≤ (A 0 8).toInt → (A 0 8).toInt + m ≤ 32 →
    (qa_bloop p x m i A C).1 2 5 - (qa_bloop p x m i A C).1 0 8 = A 2 5 - A 0 8 := by
  intro m
  induction m with
  | zero => intro i A C t _ _ _ _ _ _ _; rfl
  | succ m ih =>
    intro i A C t h ht hx hn hs h0 h1
    rw [qa_bloop]
    by_cases c : qa_may A C (A (12 + p) 5 + A (12 + p) 2) = true
    · rw [if_pos c]
      obtain ⟨b1, b2, b3, b4, b5, b6, b7⟩ := bstep_ok (i := i) h (by omega) hx hp hn hs c
      have b8 := bstep_08 (i := i) h (by omega) (XIN_ok hx) hp h0 (by omega) c
      rw [ih (i + 1) b1 (by omega) b2 (by rw [b4 p 0 hp (by omega) (by omega) (by omega) (by omega) (by omega)]; exact hn) (by rw [b4 p 2 hp (by omega) (by omega) (by omega) (by omega) (by omega)]; exact hs) b8.1 (by omega), bstep_pf h (by omega) (XIN_ok hx) hp h0 (by omega) c]
    · rw [if_neg c]
theorem batch_pf {A C : ST} {t p : Nat} {x : Int32} (h : Gd A C t) (ht : t < 1073741000) (hx : XIN C x) (hp : p < 6) (hn : ¬ A (12 + p) 0 = -1) (hs : ¬ A (12 + p) 2 = 0) (h0 : A 0 8 = 0) : (qa_batch A C p x).1 2 5 - (qa_batch A C p x).1 0 8 = A 2 5 - A 0 8 := by
  have hw := h.1.2.2.1 p hp hn
  have htb := GT_b h.1.1
  have hcl := clamp_toInt hw.2.2.2.2.2.2.2.2.1
  have hw2 := hw.2.2.2.2.2.2.2.2.2.1
  have z0 : (0 : Int32).toInt = 0 := by decide
  have g0 : Gd (qa_bat0 A p) C t := by
    unfold qa_bat0
    exact Gd_A h (GA_o (GA_o h.1 (by omega)) (by omega)) (Nat.le_refl _) (by simp (disch := first | assumption | omega) only [q_uc]) (by simp (disch := first | assumption | omega) only [q_un]; omega) (fun q hq => ⟨by simp (disch := first | assumption | omega) only [q_un], by simp (disch := first | assumption | omega) only [q_un]⟩)
  have e08 : qa_bat0 A p 0 8 = A 0 8 := by unfold qa_bat0; simp (disch := first | assumption | omega) only [q_un]
  have e25 : qa_bat0 A p 2 5 = A 2 5 := by unfold qa_bat0; simp (disch := first | assumption | omega) only [q_un]
  have en : qa_bat0 A p (12 + p) 0 = A (12 + p) 0 := by unfold qa_bat0; simp (disch := first | assumption | omega) only [q_un]
  have es : qa_bat0 A p (12 + p) 2 = A (12 + p) 2 := by unfold qa_bat0; simp (disch := first | assumption | omega) only [q_un]
  unfold qa_batch
  split
  · rw [bloop_pf hp _ 0 g0 (by omega) hx (by rw [en]; exact hn) (by rw [es]; exact hs) (by rw [e08, h0, z0]; omega) (by rw [e08, h0, z0]; omega), e08, e25]
  · dsimp only
    rw [q_un (by omega), q_un (by omega), e08, e25]
theorem goes_pf {A C : ST} {t p : Nat} {x : Int32} (h : Gd A C t) (ht : t < 1073741000) (hx : XIN C x) (hp : p < 6) (hn : ¬ A (12 + p) 0 = -1) (hs : ¬ A (12 + p) 2 = 0) (h0 : A 0 8 = 0) : (qa_goes A C p x).1 2 5 - (qa_goes A C p x).1 0 8 = A 2 5 - A 0 8 := by
  obtain ⟨a1, a2, a3, a4, a5, a6⟩ := ask_ok h hp hn hs
  unfold qa_goes
  by_cases c : (qa_ask A p).1 = true
  · rw [if_pos c, batch_pf a1 ht hx hp (by rw [a3 p 0 hp (by omega) (by omega)]; exact hn) (by rw [a3 p 2 hp (by omega) (by omega)]; exact hs) (by rw [a6]; exact h0), a4 5 (by omega), a6]
  · rw [if_neg c]
    dsimp only
    rw [a4 5 (by omega), a6]
theorem i_sub0 (a : Int32) : a - 0 = a := by
  have e : (0 : Int32).toInt = 0 := by decide
  have := i_rng a
  exact i_eq.mpr (by rw [i_sub (by rw [e]; omega) (by rw [e]; omega), e]; omega)
theorem i_swap {a b c : Int32} (h : a - b = c - 0) : a - c = b := by
  rw [i_sub0] at h
  have h2 : a = c + b := by rw [← h, Int32.sub_add_cancel]
  rw [h2, Int32.add_comm, Int32.add_sub_cancel]
theorem take_cnt {A C H : ST} {t b : Nat} (h : Gd A C t) (ht : t < 1073730000) (hb : b < 10000) (h2 : (b : Int) < (A 1 7).toInt) : (qa_take A C H b).2.1 2 1 = (if C b 0 = 1 then A 2 1 + 1 else A 2 1) ∧ (qa_take A C H b).2.1 2 5 - A 2 5 = (qa_take A C H b).2.1 0 8 ∧ (¬ (C b 0 = 1 ∨ 0 ≤ A 26 b) → (qa_take A C H b).2.1 0 9 = -1) := by
  have e1 : qa_clr A 1 = A 1 := by unfold qa_clr; simp -implicitDefEqProofs (disch := first | assumption | omega) only [q_uc]
  have e2 : qa_clr A 2 = A 2 := by unfold qa_clr; simp -implicitDefEqProofs (disch := first | assumption | omega) only [q_uc]
  have e08 : qa_clr A 0 8 = 0 := by unfold qa_clr; simp -implicitDefEqProofs (disch := first | assumption | omega) only [q_un, q_ue]
  have e09 : qa_clr A 0 9 = -1 := by unfold qa_clr; simp -implicitDefEqProofs (disch := first | assumption | omega) only [q_un, q_ue]
  unfold qa_take
  by_cases e : C b 0 = 1 ∨ 0 ≤ A 26 b
  · rw [if_pos e]
    obtain ⟨g1, g2, g3, g4, g5, g6, g7⟩ := got_ok (clr_ok h) (by omega) hb (by rw [e1]; exact h2)
    obtain ⟨w1, w5⟩ := got_1 (clr_ok h) (by omega) hb
    rw [e2] at w1 w5
    generalize (qa_got (qa_clr A) C b).1 = B at *
    generalize (qa_got (qa_clr A) C b).2 = D at *
    have b08 : B 0 8 = 0 := by rw [g7, e08]
    obtain ⟨f1, f2, f3, f4, f5, f6, f7, f8⟩ := find_ok g1 (by omega) hb (by rw [g3, e1]; exact h2)
    have k08 : (qa_find B (nI b)).2.2 0 8 = 0 := by rw [find_08, b08]
    have k5 := find_2 (A := B) (x := nI b) (k := 5) (by omega) f2
    have k1 := find_2 (A := B) (x := nI b) (k := 1) (by omega) f2
    unfold qa_rest
    dsimp only
    generalize hp : (qa_find B (nI b)).2.1 = p at *
    have tail : ∀ G D' : ST, G 2 1 = B 2 1 → G 2 5 - G 0 8 = B 2 5 - 0 → (qa_join p 6 0 (zUp G (12 + p) 7 (D' 10000 0))) 2 1 = (if C b 0 = 1 then A 2 1 + 1 else A 2 1) ∧ (qa_join p 6 0 (zUp G (12 + p) 7 (D' 10000 0))) 2 5 - A 2 5 = (qa_join p 6 0 (zUp G (12 + p) 7 (D' 10000 0))) 0 8 := fun G D' q1 q2 => by
      rw [join_2 f2 6 0 (by omega) (Or.inl ⟨rfl, by omega⟩), join_2 f2 6 0 (by omega) (Or.inl ⟨rfl, by omega⟩), join_2 f2 6 0 (by omega) (Or.inr ⟨rfl, rfl⟩), q_un (by omega), q_un (by omega), q_un (by omega), q1, w1]
      refine ⟨rfl, ?_⟩
      rw [w5] at q2
      exact i_swap q2
    by_cases cc : (qa_find B (nI b)).1 = 1 ∨ (qa_find B (nI b)).1 = 3
    · rw [if_pos cc]
      have q1 := goes_2 (k := 1) f1 (by omega) g2 f2 f3 (f5 cc) (by omega) (by omega) (by omega) (by omega) (by omega) (by omega)
      have q5 := goes_pf f1 (by omega) g2 f2 f3 (f5 cc) k08
      rw [k5, k08] at q5
      rw [k1] at q1
      obtain ⟨t1, t2⟩ := tail _ (qa_goes (qa_find B (nI b)).2.2 D p (nI b)).2 q1 q5
      exact ⟨t1, t2, fun w => absurd e w⟩
    · rw [if_neg cc]
      obtain ⟨t1, t2⟩ := tail (qa_find B (nI b)).2.2 D k1 (by rw [k5, k08])
      exact ⟨t1, t2, fun w => absurd e w⟩
  · rw [if_neg e]
    dsimp only
    rw [q_un (by omega), q_un (by omega), q_un (by omega), q_un (by omega), e2, e08, e09]
    refine ⟨?_, Int32.sub_self _, fun _ => rfl⟩
    rw [if_neg (fun w => e (Or.inl w))]
