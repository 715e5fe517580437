/-! A READ: going on, joining; the whole of it -/
theorem ask_ok {A C : ST} {t p : Nat} (h : Gd A C t) (hp : p < 6) (hn : ¬ A (12 + p) 0 = -1) (hs : ¬ A (12 + p) 2 = 0) :
    Gd (qa_ask A p).2 C t ∧ (qa_ask A p).2 1 = A 1 ∧ (∀ q k, q < 6 → k ≠ 4 → k ≠ 5 → (qa_ask A p).2 (12 + q) k = A (12 + q) k) ∧ (∀ k, k ≠ 17 → (qa_ask A p).2 2 k = A 2 k) ∧ (qa_ask A p).2 26 = A 26 ∧ (qa_ask A p).2 0 = A 0 := by
  have htb := GT_b h.1.1
  obtain ⟨a1, a2, a3, a4, a5, a6, a7, a8, a9, a10, a11, a12, a13⟩ := h.1.2.2.1 p hp hn
  have ch : ∀ w : Int32, 0 ≤ w.toInt → Gd (qa_change A p w) C t ∧ qa_change A p w 1 = A 1 ∧ (∀ q k, q < 6 → k ≠ 4 → qa_change A p w (12 + q) k = A (12 + q) k) ∧ (∀ k, k ≠ 17 → qa_change A p w 2 k = A 2 k) ∧ qa_change A p w 26 = A 26 ∧ qa_change A p w 0 = A 0 := fun w hw => by
    have e1 : qa_change A p w 1 = A 1 := qa_change_c (by omega) (by omega) (by omega) (by omega)
    have e2 : ∀ k, k ≠ 17 → qa_change A p w 2 k = A 2 k := fun k hk => qa_change_2 hp hk
    have e3 : ∀ q k, q < 6 → k ≠ 4 → qa_change A p w (12 + q) k = A (12 + q) k := fun q k hq hk => by
      by_cases e : q = p
      · subst e; exact qa_change_p hp hk
      · rw [qa_change_c (by omega) (by omega) (by omega) (by omega)]
    exact ⟨Gd_A h (GA_change h.1 hp hw (fun _ _ => hs)) (Nat.le_refl _) e1 (by rw [e2 14 (by omega)]; omega) (fun q hq => ⟨e3 q 0 hq (by omega), e3 q 2 hq (by omega)⟩), e1, e3, e2, qa_change_c (by omega) (by omega) (by omega) (by omega), qa_change_c (by omega) (by omega) (by omega) (by omega)⟩
  have ed : ∀ B : ST, Gd B C t → B 1 = A 1 → (∀ q k, q < 6 → k ≠ 4 → B (12 + q) k = A (12 + q) k) → (∀ k, k ≠ 17 → B 2 k = A 2 k) → B 26 = A 26 → B 0 = A 0 → Gd (zUp B (12 + p) 5 (A (12 + p) 1)) C t ∧ zUp B (12 + p) 5 (A (12 + p) 1) 1 = A 1 ∧ (∀ q k, q < 6 → k ≠ 4 → k ≠ 5 → zUp B (12 + p) 5 (A (12 + p) 1) (12 + q) k = A (12 + q) k) ∧ (∀ k, k ≠ 17 → zUp B (12 + p) 5 (A (12 + p) 1) 2 k = A 2 k) ∧ zUp B (12 + p) 5 (A (12 + p) 1) 26 = A 26 ∧ zUp B (12 + p) 5 (A (12 + p) 1) 0 = A 0 := fun B g e1 e2 e3 e4 e5 => by
    refine ⟨Gd_A g (GA_s g.1 hp (by omega) (fun hb => ?_)) (Nat.le_refl _) (q_uc (by omega)) (by rw [q_un (by omega)]; omega) (fun q hq => ⟨q_un (by omega), q_un (by omega)⟩), by rw [q_uc (by omega), e1], fun q k hq k1 k2 => by rw [q_un (by omega), e2 q k hq k1], fun k hk => by rw [q_un (by omega), e3 k hk], by rw [q_uc (by omega), e4], by rw [q_uc (by omega), e5]⟩
    obtain ⟨b1, b2, b3, b4, b5, b6, b7, b8, b9, b10, b11, b12, b13⟩ := g.1.2.2.1 p hp hb
    unfold GSr
    simp -implicitDefEqProofs (disch := first | assumption | omega) only [pk_un, pk_us]
    rw [e1] at *
    exact ⟨b1, b2, b3, b4, b5, b6, b7, b8, b9, b10, b11, a3, a4⟩
  unfold qa_ask
  by_cases h1 : A (12 + p) 4 = 0
  · rw [if_pos h1]
    by_cases h2 : A 1 1 ≤ A (12 + p) 3
    · rw [if_pos h2]
      obtain ⟨c1, c2, c3, c4, c5, c6⟩ := ch (A 1 2) (by omega)
      exact ed _ c1 c2 c3 c4 c5 c6
    · rw [if_neg h2]
      exact ⟨h, rfl, fun _ _ _ _ _ => rfl, fun _ _ => rfl, rfl, rfl⟩
  · rw [if_neg h1]
    by_cases h2 : A (12 + p) 1 = A (12 + p) 6
    · rw [if_pos h2]
      have e2 : (2 : Int32).toInt = 2 := by decide
      obtain ⟨c1, c2, c3, c4, c5, c6⟩ := ch (2 * A (12 + p) 4) (by rw [i_mul (by rw [e2]; omega) (by rw [e2]; omega), e2]; omega)
      exact ⟨c1, c2, fun q k hq k1 _ => c3 q k hq k1, c4, c5, c6⟩
    · rw [if_neg h2]
      by_cases h3 : qa_beyond A p (A (12 + p) 1) = true
      · rw [if_pos h3]
        exact ⟨h, rfl, fun _ _ _ _ _ => rfl, fun _ _ => rfl, rfl, rfl⟩
      · rw [if_neg h3]
        exact ed A h rfl (fun _ _ _ _ => rfl) (fun _ _ => rfl) rfl rfl
theorem goes_ok {A C : ST} {t p : Nat} {x : Int32} (h : Gd A C t) (ht : t < 1073741000) (hx : XIN C x) (hp : p < 6) (hn : ¬ A (12 + p) 0 = -1) (hs : ¬ A (12 + p) 2 = 0) :
    Gd (qa_goes A C p x).1 (qa_goes A C p x).2 (t + 96) ∧ (qa_goes A C p x).1 1 = A 1 ∧ (∀ q k, q < 6 → k ≠ 4 → k ≠ 5 → k ≠ 6 → k ≠ 8 → k ≠ 10 → (qa_goes A C p x).1 (12 + q) k = A (12 + q) k) ∧ (qa_goes A C p x).1 26 = A 26 ∧ (qa_goes A C p x).1 0 9 = A 0 9 := by
  obtain ⟨a1, a2, a3, a4, a5, a6⟩ := ask_ok h hp hn hs
  unfold qa_goes
  by_cases e : (qa_ask A p).1 = true
  · rw [if_pos e]
    obtain ⟨b1, b2, b3, b4, b5, b6, b7⟩ := batch_ok a1 ht hx hp (by rw [a3 p 0 hp (by omega) (by omega)]; exact hn) (by rw [a3 p 2 hp (by omega) (by omega)]; exact hs)
    exact ⟨b1, by rw [b3, a2], fun q k hq k1 k2 k3 k4 k5 => by rw [b4 q k hq k1 k2 k3 k4 k5, a3 q k hq k1 k2], by rw [b6, a5], by rw [b7, a6]⟩
  · rw [if_neg e]
    exact ⟨Gd_mono a1 (by omega), a2, fun q k hq k1 k2 _ _ _ => a3 q k hq k1 k2, a5, by dsimp only; rw [a6]⟩
theorem leave_ok {A C : ST} {t p : Nat} (h : Gd A C t) (hp : p < 6) : Gd (zUp A (12 + p) 0 (-1)) C t := by
  refine ⟨⟨?_, ?_, ?_, ?_, ?_⟩, GC_A h.2.1 (q_uc (by omega)) (by rw [q_un (by omega)]; omega), ?_⟩
  · intro k hk
    rw [q_un (by omega)]
    exact h.1.1 k hk
  · intro k hk
    rw [q_un (by omega)]
    exact h.1.2.1 k hk
  · intro q hq hn
    by_cases e : q = p
    · subst e
      exact absurd (q_ue rfl rfl) hn
    · rw [q_uc (by omega)] at hn ⊢
      rw [q_un (by omega), q_un (by omega), q_un (by omega)]
      exact h.1.2.2.1 q hq hn
  · intro q r hq hr hn e
    by_cases eq : q = p
    · subst eq
      exact absurd (q_ue rfl rfl) hn
    · rw [q_uc (by omega)] at hn e
      by_cases er : r = p
      · rw [q_ue (by omega) rfl] at e
        exact absurd e hn
      · rw [q_uc (by omega)] at e
        exact h.1.2.2.2.1 q r hq hr hn e
  · rw [GL, q_uc (by omega)]
    exact h.1.2.2.2.2
  · intro b q hb hq hc hno e
    by_cases eq : q = p
    · subst eq
      rw [q_ue rfl rfl] at e
      exact absurd e hno
    · rw [q_uc (by omega)] at e ⊢
      exact h.2.2 b q hb hq hc hno e
theorem Gd_o {A C : ST} {t c k : Nat} {v : Int32} (h : Gd A C t) (hc : c = 0 ∨ c = 11 ∨ c = 23 ∨ 24 ≤ c ∨ (c = 2 ∧ ¬ (k ≤ 2 ∨ k = 5 ∨ k = 6 ∨ k = 14)) ∨ (12 ≤ c ∧ c < 18 ∧ 6 ≤ k)) : Gd (zUp A c k v) C t :=
  Gd_A h (GA_o h.1 hc) (Nat.le_refl _) (q_uc (by omega)) (by rw [q_un (by omega)]; omega) (fun q hq => ⟨q_un (by omega), q_un (by omega)⟩)
theorem join_ok {p : Nat} {C : ST} {t : Nat} (hp : p < 6) : ∀ (m q : Nat) {A : ST}, q + m ≤ 6 → Gd A C t → Gd (qa_join p m q A) C t ∧ qa_join p m q A 1 = A 1 ∧ qa_join p m q A 26 = A 26 := by
  intro m
  induction m with
  | zero => intro q A _ h; exact ⟨h, rfl, rfl⟩
  | succ m ih =>
    intro q A hq h
    rw [qa_join]
    by_cases e : A (12 + p) 0 = -1
    · rw [if_pos e]; exact ⟨h, rfl, rfl⟩
    · rw [if_neg e]
      by_cases e2 : q = p ∨ A (12 + q) 0 = -1 ∨ A (12 + p) 2 = 0 ∨ ¬ A (12 + q) 2 = A (12 + p) 2 ∨ ¬ A (12 + q) 1 = A (12 + p) 1
      · rw [if_pos e2]; exact ih (q + 1) (by omega) h
      · rw [if_neg e2]
        by_cases e3 : A (12 + q) 0 ≤ A (12 + p) 0
        · rw [if_pos e3]
          obtain ⟨i1, i2, i3⟩ := ih (q + 1) (A := zUp (zUp (zUp A 2 19 (A 2 19 + 1)) (12 + p) 0 (-1)) 0 9 (-1)) (by omega) (Gd_o (leave_ok (Gd_o h (by omega)) hp) (by omega))
          exact ⟨i1, by rw [i2]; simp -implicitDefEqProofs (disch := first | assumption | omega) only [q_uc], by rw [i3]; simp -implicitDefEqProofs (disch := first | assumption | omega) only [q_uc]⟩
        · rw [if_neg e3]
          obtain ⟨i1, i2, i3⟩ := ih (q + 1) (A := zUp (zUp A 2 19 (A 2 19 + 1)) (12 + q) 0 (-1)) (by omega) (leave_ok (Gd_o h (by omega)) (by omega))
          exact ⟨i1, by rw [i2]; simp -implicitDefEqProofs (disch := first | assumption | omega) only [q_uc], by rw [i3]; simp -implicitDefEqProofs (disch := first | assumption | omega) only [q_uc]⟩
/-- the trace: how long, which blocks -/
def GH (A H : ST) : Prop := ∃ l, l ≤ 400 ∧ H 18 4 = nI l ∧ ∀ i, i < l → 0 ≤ (H 19 i).toInt ∧ (H 19 i).toInt < (A 1 7).toInt
theorem GH_trace {A H : ST} {x n k : Int32} (h : GH A H) (h1 : 0 ≤ x.toInt) (h2 : x.toInt < (A 1 7).toInt) : GH A (qa_trace H x n k) := by
  obtain ⟨l, hl, e, hb⟩ := h
  unfold qa_trace
  by_cases e4 : H 18 4 = 400
  · have : l = 400 := nI_inj (by omega) (by omega) (e.symm.trans e4)
    subst this
    rw [if_pos e4]
    refine ⟨400, by omega, e, fun i hi => ?_⟩
    dsimp only
    rw [if_pos rfl]
    by_cases ei : i < 399
    · rw [if_pos ei]; exact hb _ (by omega)
    · rw [if_neg ei, if_pos (by omega)]; exact ⟨h1, h2⟩
  · have hne : l ≠ 400 := fun q => e4 (by rw [e, q]; rfl)
    rw [if_neg e4]
    refine ⟨l + 1, by omega, ?_, fun i hi => ?_⟩
    · rw [q_ue rfl rfl, e]
      exact nI_1 l
    · rw [e, nI_clamp (by omega)]
      by_cases ei : i = l
      · simp -implicitDefEqProofs (disch := first | assumption | omega) only [q_un, q_ue]
        exact ⟨h1, h2⟩
      · simp -implicitDefEqProofs (disch := first | assumption | omega) only [q_un]
        exact hb i (by omega)
theorem GH_A {A A' H : ST} (h : GH A H) (e : A' 1 = A 1) : GH A' H := by
  unfold GH at *
  rw [e]
  exact h
theorem rest_ok {A C H : ST} {t b : Nat} (h : Gd A C t) (hh : GH A H) (ht : t < 1073740000) (hx : XIN C (nI b)) (hb : b < 10000) (h2 : (b : Int) < (A 1 7).toInt) :
    Gd (qa_rest A C H b).2.1 (qa_rest A C H b).2.2.1 (t + 97) ∧ GH (qa_rest A C H b).2.1 (qa_rest A C H b).2.2.2 ∧ (qa_rest A C H b).2.1 1 = A 1 ∧ (qa_rest A C H b).2.1 26 = A 26 := by
  obtain ⟨f1, f2, f3, f4, f5, f6, f7, f8⟩ := find_ok h (by omega) hb h2
  have key : Gd (if (qa_find A (nI b)).1 = 1 ∨ (qa_find A (nI b)).1 = 3 then qa_goes (qa_find A (nI b)).2.2 C (qa_find A (nI b)).2.1 (nI b) else ((qa_find A (nI b)).2.2, C)).1 (if (qa_find A (nI b)).1 = 1 ∨ (qa_find A (nI b)).1 = 3 then qa_goes (qa_find A (nI b)).2.2 C (qa_find A (nI b)).2.1 (nI b) else ((qa_find A (nI b)).2.2, C)).2 (t + 97) ∧ (if (qa_find A (nI b)).1 = 1 ∨ (qa_find A (nI b)).1 = 3 then qa_goes (qa_find A (nI b)).2.2 C (qa_find A (nI b)).2.1 (nI b) else ((qa_find A (nI b)).2.2, C)).1 1 = A 1 ∧ (if (qa_find A (nI b)).1 = 1 ∨ (qa_find A (nI b)).1 = 3 then qa_goes (qa_find A (nI b)).2.2 C (qa_find A (nI b)).2.1 (nI b) else ((qa_find A (nI b)).2.2, C)).1 26 = A 26 := by
    by_cases e : (qa_find A (nI b)).1 = 1 ∨ (qa_find A (nI b)).1 = 3
    · rw [if_pos e]
      obtain ⟨g1, g2, g3, g4, g5⟩ := goes_ok f1 (by omega) hx f2 f3 (f5 e)
      exact ⟨Gd_mono g1 (by omega), by rw [g2, f6], by rw [g4, f8]⟩
    · rw [if_neg e]
      exact ⟨Gd_mono f1 (by omega), f6, f8⟩
  obtain ⟨k1, k2, k3⟩ := key
  unfold qa_rest
  dsimp only
  obtain ⟨j1, j2, j3⟩ := join_ok f2 6 0 (by omega) (Gd_o (c := 12 + (qa_find A (nI b)).2.1) (k := 7) (v := (if (qa_find A (nI b)).1 = 1 ∨ (qa_find A (nI b)).1 = 3 then qa_goes (qa_find A (nI b)).2.2 C (qa_find A (nI b)).2.1 (nI b) else ((qa_find A (nI b)).2.2, C)).2 10000 0) k1 (by omega))
  refine ⟨j1, GH_trace (GH_A hh (by rw [j2, q_uc (by omega), k2])) ?_ ?_, by rw [j2, q_uc (by omega), k2], by rw [j3, q_uc (by omega), k3]⟩
  · rw [nI_toInt (by omega)]; omega
  · rw [j2, q_uc (by omega), k2, nI_toInt (by omega)]; exact h2
theorem clr_ok {A C : ST} {t : Nat} (h : Gd A C t) : Gd (qa_clr A) C t := Gd_o (Gd_o h (by omega)) (by omega)
theorem take_ok {A C H : ST} {t b : Nat} (h : Gd A C t) (hh : GH A H) (ht : t < 1073730000) (hb : b < 10000) (h2 : (b : Int) < (A 1 7).toInt) :
    Gd (qa_take A C H b).2.1 (qa_take A C H b).2.2.1 (t + 101) ∧ GH (qa_take A C H b).2.1 (qa_take A C H b).2.2.2 ∧ (qa_take A C H b).2.1 1 = A 1 ∧ (qa_take A C H b).2.1 26 = A 26 := by
  have e1 : qa_clr A 1 = A 1 := by unfold qa_clr; simp -implicitDefEqProofs (disch := first | assumption | omega) only [q_uc]
  have e26 : qa_clr A 26 = A 26 := by unfold qa_clr; simp -implicitDefEqProofs (disch := first | assumption | omega) only [q_uc]
  unfold qa_take
  by_cases e : C b 0 = 1 ∨ 0 ≤ A 26 b
  · rw [if_pos e]
    obtain ⟨g1, g2, g3, g4, g5, g6, g7⟩ := got_ok (clr_ok h) (by omega) hb (by rw [e1]; exact h2)
    obtain ⟨r1, r2, r3, r4⟩ := rest_ok g1 (GH_A hh (by rw [g3, e1])) (by omega) g2 hb (by rw [g3, e1]; exact h2)
    exact ⟨Gd_mono r1 (by omega), r2, by rw [r3, g3, e1], by rw [r4, g6, e26]⟩
  · rw [if_neg e]
    dsimp only
    exact ⟨Gd_mono (Gd_o (clr_ok h) (by omega)) (by omega), GH_A hh (by rw [q_uc (by omega), e1]), by rw [q_uc (by omega), e1], by rw [q_uc (by omega), e26]⟩
