/-! A BATCH: what holds behind it; the class's batch -/
def XIN (C : ST) (x : Int32) : Prop := x = -1 ∨ ∃ br, br < 10000 ∧ x = nI br ∧ C br 0 = 1 ∧ C br 5 = 0
theorem XIN_ok {C : ST} {x : Int32} (h : XIN C x) : XOK C x := by
  intro b hb e hc
  rcases h with h | ⟨br, h1, h2, h3, h4⟩
  · rw [h] at e
    exact q_m1 (by omega) e
  · have : b = br := nI_inj (by omega) (by omega) (e.trans h2)
    subst this
    rw [h4] at hc
    exact absurd hc.2 (by decide)
theorem room_ok {A C : ST} {t : Nat} {x : Int32} (h : Gd A C t) (ht : t < 1073741824) (hx : XOK C x) :
    Gd (qa_room A C x).1 (qa_room A C x).2 (t + 1) ∧ (qin (qa_room A C x).2 : Int) < (A 1 0).toInt ∧ (∀ c, (c < 12 ∨ 18 ≤ c) → c ≠ 2 → c ≠ 22 → c ≠ 23 → (qa_room A C x).1 c = A c) ∧ (∀ k, k ≠ 6 → k ≠ 17 → (qa_room A C x).1 2 k = A 2 k) ∧ (∀ p k, p < 6 → k ≠ 4 → k ≠ 10 → (qa_room A C x).1 (12 + p) k = A (12 + p) k) ∧ (∀ b, nI b = x → (qa_room A C x).2 b = C b) ∧ (∀ b, b < 10000 → ¬ C b 0 = 1 → ¬ (qa_room A C x).2 b 0 = 1) ∧ (qa_room A C x).2 10000 = C 10000 := by
  have hq10 : qin C ≤ 10000 := qcnt_le _ _
  unfold qa_room
  by_cases hf : nI (qin C) < A 1 0
  · rw [if_pos hf]
    rw [i_lt, nI_toInt (by omega)] at hf
    exact ⟨Gd_mono h (by omega), hf, fun _ _ _ _ _ => rfl, fun _ _ _ => rfl, fun _ _ _ _ _ => rfl, fun _ _ => rfl, fun _ _ q => q, rfl⟩
  · rw [if_neg hf]
    have hv := qvic_of (qcand_ex h hx hf)
    have hv1 := hv.1.1
    have hv2 := hv.1.2.1
    have hq := qin_out hv1 hv2
    have hr := h.2.1.2.2.2
    have fC1 : ∀ b, nI b = x → zUp C (qa_vic A C x) 0 0 b = C b := fun b e => q_uc (fun q => hv.1.2.2.1 (by rw [← q]; exact e))
    have fC2 : ∀ b, b < 10000 → ¬ C b 0 = 1 → ¬ zUp C (qa_vic A C x) 0 0 b 0 = 1 := fun b hb hc => by
      by_cases e : b = qa_vic A C x
      · rw [q_ue e rfl]; decide
      · rw [q_uc e]; exact hc
    have fC3 : zUp C (qa_vic A C x) 0 0 10000 = C 10000 := q_uc (by omega)
    by_cases hw : C (qa_vic A C x) 5 = 1
    · rw [if_pos hw]
      dsimp only
      exact ⟨Gd_out (Gd_waste h ht hv1 hv2) hv1 hv2, by omega, fun c h1 h2 h3 h4 => qa_waste_c h3 h4 h2 h1, fun k h1 h2 => qa_waste_2 h2 h1, fun p k h1 h2 h3 => qa_waste_p h1 h2 h3, fC1, fC2, fC3⟩
    · rw [if_neg hw]
      dsimp only
      exact ⟨Gd_mono (Gd_out h hv1 hv2) (by omega), by omega, fun _ _ _ _ _ => rfl, fun _ _ _ => rfl, fun _ _ _ _ _ => rfl, fC1, fC2, fC3⟩
theorem qa_plan_c {A : ST} {b c : Nat} (h : c ≠ 0) (h2 : c ≠ 24) : qa_plan A b c = A c := by
  unfold qa_plan
  split
  · rfl
  · split
    · rfl
    · simp (disch := first | assumption | omega) only [q_uc]
theorem GA_plan {A : ST} {t b : Nat} (h : GA A t) : GA (qa_plan A b) t := by
  unfold qa_plan
  split
  · exact h
  · split
    · exact h
    · exact GA_o (GA_o h (by omega)) (by omega)
theorem fetched_c {A : ST} {p b c : Nat} (h : c ≠ 0) (h2 : c ≠ 24) (h3 : c ≠ 2) (h4 : c ≠ 12 + p) : qa_fetched A p b c = A c := by
  unfold qa_fetched
  simp (disch := first | assumption | omega) only [qa_plan_c, q_uc]
theorem fetched_2 {A : ST} {p b k : Nat} (hp : p < 6) (h : k ≠ 5) : qa_fetched A p b 2 k = A 2 k := by
  unfold qa_fetched
  simp (disch := first | assumption | omega) only [qa_plan_c, q_un]
theorem fetched_p {A : ST} {p q b k : Nat} (hp : p < 6) (hq : q < 6) (h : k ≠ 8) : qa_fetched A p b (12 + q) k = A (12 + q) k := by
  unfold qa_fetched
  simp (disch := first | assumption | omega) only [qa_plan_c, q_un]
theorem GA_fetched {A : ST} {t p b : Nat} (h : GA A t) (ht : t < 1073741824) (hp : p < 6) : GA (qa_fetched A p b) (t + 1) := by
  unfold qa_fetched
  exact GA_plan (GA_o (GA_inc h (by omega) ht) (by omega))
theorem fetch_ok {A C : ST} {t p b : Nat} {x : Int32} (h : Gd A C t) (ht : t < 1073741820) (hx : XIN C x) (hp : p < 6) (hn : ¬ A (12 + p) 0 = -1) (hs : ¬ A (12 + p) 2 = 0) (hb : b < 10000) (hb7 : (b : Int) < (A 1 7).toInt) (hc : ¬ C b 0 = 1) :
    Gd (qa_fetch A C p b x).1 (qa_fetch A C p b x).2 (t + 3) ∧ XIN (qa_fetch A C p b x).2 x ∧ (qa_fetch A C p b x).1 1 = A 1 ∧ (∀ q k, q < 6 → k ≠ 4 → k ≠ 10 → k ≠ 8 → (qa_fetch A C p b x).1 (12 + q) k = A (12 + q) k) ∧ (∀ k, k ≠ 5 → k ≠ 6 → k ≠ 17 → (qa_fetch A C p b x).1 2 k = A 2 k) ∧ (qa_fetch A C p b x).1 26 = A 26 ∧ (qa_fetch A C p b x).1 0 9 = A 0 9 := by
  obtain ⟨r1, r2, r3, r4, r5, r6, r7, r8⟩ := room_ok h (by omega) (XIN_ok hx)
  unfold qa_fetch
  dsimp only
  have e1 : (qa_room A C x).1 1 = A 1 := r3 1 (by omega) (by omega) (by omega) (by omega)
  have hg := h.1.2.2.1 p hp hn
  have e14 : (qa_room A C x).1 2 14 = A 2 14 := r4 14 (by omega) (by omega)
  have ep0 : (qa_room A C x).1 (12 + p) 0 = A (12 + p) 0 := r5 p 0 hp (by omega) (by omega)
  have g1 : Gd (qa_room A C x).1 (qa_put (qa_room A C x).2 b ((qa_room A C x).1 (12 + p) 0) ((qa_room A C x).1 2 0)) (t + 1 + 1) := by
    refine Gd_put r1 (by omega) hb (r7 b hb hc) (by rw [e1]; exact r2) (by rw [e1]; exact hb7) ?_ ?_
    · rw [ep0, e14]
      have := hg.1
      have := hg.2.1
      omega
    · intro q hq _ e
      rw [ep0, r5 q 0 hq (by omega) (by omega)] at e
      rw [r5 q 2 hq (by omega) (by omega)]
      have := h.1.2.2.2.1 p q hp hq hn e
      rw [← this]
      exact hs
  refine ⟨?_, ?_, ?_, ?_, ?_, ?_, ?_⟩
  · refine Gd_A g1 (GA_fetched g1.1 (by omega) hp) (by omega) (fetched_c (by omega) (by omega) (by omega) (by omega)) ?_ (fun q hq => ⟨fetched_p hp hq (by omega), fetched_p hp hq (by omega)⟩)
    rw [fetched_2 hp (by omega)]
    omega
  · rcases hx with hx | ⟨br, h1, h2, h3, h4⟩
    · exact Or.inl hx
    · have hne : br ≠ b := fun q => by
        subst q
        exact hc h3
      refine Or.inr ⟨br, h1, h2, ?_, ?_⟩
      · show qa_put _ _ _ _ br 0 = 1
        rw [qa_put_ne hne (by omega), r6 br h2.symm]
        exact h3
      · show qa_put _ _ _ _ br 5 = 0
        rw [qa_put_ne hne (by omega), r6 br h2.symm]
        exact h4
  · show qa_fetched _ _ _ 1 = _
    rw [fetched_c (by omega) (by omega) (by omega) (by omega), e1]
  · intro q k hq k1 k2 k3
    show qa_fetched _ _ _ (12 + q) k = _
    rw [fetched_p hp hq k3, r5 q k hq k1 k2]
  · intro k k1 k2 k3
    show qa_fetched _ _ _ 2 k = _
    rw [fetched_2 hp k1, r4 k k2 k3]
  · show qa_fetched _ _ _ 26 = _
    rw [fetched_c (by omega) (by omega) (by omega) (by omega), r3 26 (by omega) (by omega) (by omega) (by omega)]
  · have e0 : (qa_room A C x).1 0 = A 0 := r3 0 (by omega) (by omega) (by omega) (by omega)
    show qa_fetched (qa_room A C x).1 p b 0 9 = _
    unfold qa_fetched qa_plan
    split
    · simp (disch := first | assumption | omega) only [q_un]
      rw [e0]
    · split
      · simp (disch := first | assumption | omega) only [q_un]
        rw [e0]
      · simp (disch := first | assumption | omega) only [q_un]
        rw [e0]
theorem qa_may_b {A C : ST} {x : Int32} (h : qa_may A C x = true) : 0 ≤ x.toInt ∧ x.toInt < (A 1 7).toInt ∧ (C x.toNatClampNeg 0 = 1 ∨ 0 ≤ A 26 x.toNatClampNeg) := by
  unfold qa_may at h
  simp only [Bool.and_eq_true, Bool.or_eq_true, decide_eq_true_eq] at h
  obtain ⟨⟨⟨h1, h2⟩, h3⟩, h4⟩ := h
  rw [i_le, show (0 : Int32).toInt = 0 from by decide] at h1
  rw [i_lt] at h2
  exact ⟨h1, h2, h4⟩
theorem clamp_toInt {x : Int32} (h : 0 ≤ x.toInt) : (x.toNatClampNeg : Int) = x.toInt ∧ x = nI x.toNatClampNeg := by
  obtain ⟨j, hj, e⟩ := nI_of (x := x) (fun q => by
    have := i_lt.mp q
    rw [show (0 : Int32).toInt = 0 from by decide] at this
    omega)
  rw [e, nI_clamp hj, nI_toInt hj]
  exact ⟨rfl, rfl⟩
theorem qa_to_c {A : ST} {p i c : Nat} (h : c ≠ 12 + p) : qa_to A p i c = A c := by
  unfold qa_to
  split <;> simp (disch := first | assumption | omega) only [q_uc]
theorem qa_to_p {A : ST} {p i k : Nat} (h : k ≠ 5) (h2 : k ≠ 6) : qa_to A p i (12 + p) k = A (12 + p) k := by
  unfold qa_to
  split <;> simp (disch := first | assumption | omega) only [q_un]
theorem qa_to_q {A : ST} {p q i k : Nat} (h : k ≠ 5) (h2 : k ≠ 6) : qa_to A p i (12 + q) k = A (12 + q) k := by
  unfold qa_to
  split <;> simp (disch := first | assumption | omega) only [q_un]
theorem Gd_to {A C : ST} {t p i : Nat} (h : Gd A C t) (hp : p < 6) (h1 : 0 ≤ (A (12 + p) 5 + A (12 + p) 2).toInt) (h2 : (A (12 + p) 5 + A (12 + p) 2).toInt < (A 1 7).toInt) : Gd (qa_to A p i) C t := by
  have hA : GA (zUp A (12 + p) 5 (A (12 + p) 5 + A (12 + p) 2)) t := by
    refine GA_s h.1 hp (by omega) (fun hn => ?_)
    have := h.1.2.2.1 p hp hn
    unfold GSr at *
    simp (disch := first | assumption | omega) only [pk_un, pk_us]
    obtain ⟨a1, a2, a3, a4, a5, a6, a7, a8, a9, a10, a11, a12, a13⟩ := this
    exact ⟨a1, a2, a3, a4, a5, a6, a7, a8, a9, a10, a11, h1, h2⟩
  refine Gd_A h ?_ (Nat.le_refl _) (qa_to_c (by omega)) (by rw [qa_to_c (by omega)]; omega) (fun q hq => ⟨qa_to_q (by omega) (by omega), qa_to_q (by omega) (by omega)⟩)
  unfold qa_to
  split
  · exact GA_o hA (by omega)
  · exact hA
theorem bstep_ok {A C : ST} {t p i : Nat} {x : Int32} (h : Gd A C t) (ht : t < 1073741820) (hx : XIN C x) (hp : p < 6) (hn : ¬ A (12 + p) 0 = -1) (hs : ¬ A (12 + p) 2 = 0) (hm : qa_may A C (A (12 + p) 5 + A (12 + p) 2) = true) :
    Gd (qa_bstep A C p x i).1 (qa_bstep A C p x i).2 (t + 3) ∧ XIN (qa_bstep A C p x i).2 x ∧ (qa_bstep A C p x i).1 1 = A 1 ∧ (∀ q k, q < 6 → k ≠ 4 → k ≠ 5 → k ≠ 6 → k ≠ 8 → k ≠ 10 → (qa_bstep A C p x i).1 (12 + q) k = A (12 + q) k) ∧ (∀ k, k ≠ 5 → k ≠ 6 → k ≠ 7 → k ≠ 17 → (qa_bstep A C p x i).1 2 k = A 2 k) ∧ (qa_bstep A C p x i).1 26 = A 26 ∧ (qa_bstep A C p x i).1 0 9 = A 0 9 := by
  obtain ⟨m1, m2, m3⟩ := qa_may_b hm
  have ht7 := GT_b h.1.1
  have hcl := clamp_toInt m1
  have g1 := Gd_to (i := i) h hp m1 m2
  unfold qa_bstep
  by_cases hc : C (A (12 + p) 5 + A (12 + p) 2).toNatClampNeg 0 = 1
  · rw [if_pos hc]
    dsimp only
    refine ⟨?_, hx, ?_, ?_, ?_, ?_, ?_⟩
    · refine Gd_mono (Gd_A g1 (GA_o g1.1 (by omega)) (Nat.le_refl _) (q_uc (by omega)) (by rw [q_un (by omega)]; omega) (fun q hq => ⟨q_un (by omega), q_un (by omega)⟩)) (by omega)
    · rw [q_uc (by omega), qa_to_c (by omega)]
    · intro q k hq k1 k2 k3 k4 k5
      simp (disch := first | assumption | omega) only [q_un]
      exact qa_to_q k2 k3
    · intro k k1 k2 k3 k4
      simp (disch := first | assumption | omega) only [q_un]
      rw [qa_to_c (by omega)]
    · rw [q_uc (by omega), qa_to_c (by omega)]
    · rw [q_un (by omega), qa_to_c (by omega)]
  · rw [if_neg hc]
    have e1 : qa_to A p i 1 = A 1 := qa_to_c (by omega)
    obtain ⟨f1, f2, f3, f4, f5, f6, f7⟩ := fetch_ok (b := (A (12 + p) 5 + A (12 + p) 2).toNatClampNeg) g1 ht hx hp (by rw [qa_to_p (by omega) (by omega)]; exact hn) (by rw [qa_to_p (by omega) (by omega)]; exact hs) (by omega) (by rw [e1]; omega) hc
    refine ⟨f1, f2, ?_, ?_, ?_, ?_, ?_⟩
    · rw [f3, e1]
    · intro q k hq k1 k2 k3 k4 k5
      rw [f4 q k hq k1 k5 k4, qa_to_q k2 k3]
    · intro k k1 k2 k3 k4
      rw [f5 k k1 k2 k4, qa_to_c (by omega)]
    · rw [f6, qa_to_c (by omega)]
    · rw [f7, qa_to_c (by omega)]
theorem bloop_ok {p : Nat} {x : Int32} (hp : p < 6) : ∀ (m i : Nat) {A C : ST} {t : Nat}, Gd A C t → t + 3 * m < 1073741820 → XIN C x → ¬ A (12 + p) 0 = -1 → ¬ A (12 + p) 2 = 0 →
    Gd (qa_bloop p x m i A C).1 (qa_bloop p x m i A C).2 (t + 3 * m) ∧ XIN (qa_bloop p x m i A C).2 x ∧ (qa_bloop p x m i A C).1 1 = A 1 ∧ (∀ q k, q < 6 → k ≠ 4 → k ≠ 5 → k ≠ 6 → k ≠ 8 → k ≠ 10 → (qa_bloop p x m i A C).1 (12 + q) k = A (12 + q) k) ∧ (∀ k, k ≠ 5 → k ≠ 6 → k ≠ 7 → k ≠ 17 → (qa_bloop p x m i A C).1 2 k = A 2 k) ∧ (qa_bloop p x m i A C).1 26 = A 26 ∧ (qa_bloop p x m i A C).1 0 9 = A 0 9 := by
  intro m
  induction m with
  | zero =>
    intro i A C t h ht hx hn hs
    exact ⟨h, hx, rfl, fun _ _ _ _ _ _ _ _ => rfl, fun _ _ _ _ _ => rfl, rfl, rfl⟩
  | succ m ih =>
    intro i A C t h ht hx hn hs
    rw [qa_bloop]
    by_cases hm : qa_may A C (A (12 + p) 5 + A (12 + p) 2) = true
    · rw [if_pos hm]
      obtain ⟨f1, f2, f3, f4, f5, f6, f7⟩ := bstep_ok (i := i) h (by omega) hx hp hn hs hm
      obtain ⟨g1, g2, g3, g4, g5, g6, g7⟩ := ih (i + 1) f1 (by omega) f2 (by rw [f4 p 0 hp (by omega) (by omega) (by omega) (by omega) (by omega)]; exact hn) (by rw [f4 p 2 hp (by omega) (by omega) (by omega) (by omega) (by omega)]; exact hs)
      refine ⟨by rw [show t + 3 * (m + 1) = t + 3 + 3 * m by omega]; exact g1, g2, by rw [g3, f3], ?_, ?_, by rw [g6, f6], by rw [g7, f7]⟩
      · intro q k hq k1 k2 k3 k4 k5
        rw [g4 q k hq k1 k2 k3 k4 k5, f4 q k hq k1 k2 k3 k4 k5]
      · intro k k1 k2 k3 k4
        rw [g5 k k1 k2 k3 k4, f5 k k1 k2 k3 k4]
    · rw [if_neg hm]
      exact ⟨Gd_mono h (by omega), hx, rfl, fun _ _ _ _ _ _ _ _ => rfl, fun _ _ _ _ _ => rfl, rfl, rfl⟩
theorem batch_ok {A C : ST} {t p : Nat} {x : Int32} (h : Gd A C t) (ht : t < 1073741000) (hx : XIN C x) (hp : p < 6) (hn : ¬ A (12 + p) 0 = -1) (hs : ¬ A (12 + p) 2 = 0) :
    Gd (qa_batch A C p x).1 (qa_batch A C p x).2 (t + 96) ∧ XIN (qa_batch A C p x).2 x ∧ (qa_batch A C p x).1 1 = A 1 ∧ (∀ q k, q < 6 → k ≠ 4 → k ≠ 5 → k ≠ 6 → k ≠ 8 → k ≠ 10 → (qa_batch A C p x).1 (12 + q) k = A (12 + q) k) ∧ (∀ k, k ≠ 5 → k ≠ 6 → k ≠ 7 → k ≠ 8 → k ≠ 9 → k ≠ 17 → (qa_batch A C p x).1 2 k = A 2 k) ∧ (qa_batch A C p x).1 26 = A 26 ∧ (qa_batch A C p x).1 0 9 = A 0 9 := by
  have hw := h.1.2.2.1 p hp hn
  have htb := GT_b h.1.1
  have hcl := clamp_toInt hw.2.2.2.2.2.2.2.2.1
  have hw2 := hw.2.2.2.2.2.2.2.2.2.1
  have g0 : Gd (qa_bat0 A p) C t := by
    unfold qa_bat0
    exact Gd_A h (GA_o (GA_o h.1 (by omega)) (by omega)) (Nat.le_refl _) (by simp (disch := first | assumption | omega) only [q_uc]) (by simp (disch := first | assumption | omega) only [q_un]; omega) (fun q hq => ⟨by simp (disch := first | assumption | omega) only [q_un], by simp (disch := first | assumption | omega) only [q_un]⟩)
  have e1 : qa_bat0 A p 1 = A 1 := by unfold qa_bat0; simp (disch := first | assumption | omega) only [q_uc]
  have e26 : qa_bat0 A p 26 = A 26 := by unfold qa_bat0; simp (disch := first | assumption | omega) only [q_uc]
  have e09 : qa_bat0 A p 0 9 = A 0 9 := by unfold qa_bat0; simp (disch := first | assumption | omega) only [q_un]
  have eq : ∀ q k, q < 6 → k ≠ 6 → qa_bat0 A p (12 + q) k = A (12 + q) k := fun q k hq hk => by unfold qa_bat0; simp (disch := first | assumption | omega) only [q_un]
  have e2 : ∀ k, k ≠ 9 → qa_bat0 A p 2 k = A 2 k := fun k hk => by unfold qa_bat0; simp (disch := first | assumption | omega) only [q_un]
  unfold qa_batch
  by_cases hh : A 2 6 * 100 ≤ A 1 5 * A 2 5
  · rw [if_pos hh]
    obtain ⟨g1, g2, g3, g4, g5, g6, g7⟩ := bloop_ok hp (A (12 + p) 4).toNatClampNeg 0 (x := x) g0 (by omega) hx (by rw [eq p 0 hp (by omega)]; exact hn) (by rw [eq p 2 hp (by omega)]; exact hs)
    refine ⟨Gd_mono g1 (by omega), g2, by rw [g3, e1], ?_, ?_, by rw [g6, e26], by rw [g7, e09]⟩
    · intro q k hq k1 k2 k3 k4 k5
      rw [g4 q k hq k1 k2 k3 k4 k5, eq q k hq k3]
    · intro k k1 k2 k3 k4 k5 k6
      rw [g5 k k1 k2 k3 k6, e2 k k5]
  · rw [if_neg hh]
    dsimp only
    refine ⟨Gd_mono (Gd_A g0 (GA_o g0.1 (by omega)) (Nat.le_refl _) (q_uc (by omega)) (by rw [q_un (by omega)]; omega) (fun q hq => ⟨q_un (by omega), q_un (by omega)⟩)) (by omega), hx, by rw [q_uc (by omega), e1], ?_, ?_, by rw [q_uc (by omega), e26], by rw [q_un (by omega), e09]⟩
    · intro q k hq k1 k2 k3 k4 k5
      rw [q_un (by omega), eq q k hq k3]
    · intro k k1 k2 k3 k4 k5 k6
      rw [q_un (by omega), e2 k k5]
