/-! A READ: what holds behind it -/
theorem qa_first_congr {P Q : Nat → Bool} : ∀ {m j : Nat}, (∀ i, j ≤ i → i < j + m → P i = Q i) → qa_first P m j = qa_first Q m j := by
  intro m
  induction m with
  | zero => intro j _; rfl
  | succ m ih =>
    intro j h
    rw [qa_first, qa_first, h j (Nat.le_refl _) (by omega), ih (fun i h1 h2 => h i (by omega) (by omega))]
theorem streamOf_congr {A A' : ST} {num : Int32} (h : ∀ p, p < 6 → A' (12 + p) 0 = A (12 + p) 0) : qa_streamOf A' num = qa_streamOf A num := by
  unfold qa_streamOf
  rw [qa_first_congr (Q := fun p => decide (A (12 + p) 0 = num)) (fun i _ h2 => by show decide (_) = decide (_); rw [h i (by omega)])]
theorem streamOf_up {A : ST} {num v : Int32} {c k : Nat} (h : c < 12 ∨ 18 ≤ c ∨ k ≠ 0) : qa_streamOf (zUp A c k v) num = qa_streamOf A num :=
  streamOf_congr (fun p hp => q_un (by omega))
theorem hitA_c {A C : ST} {b c : Nat} (h : c ≠ 2) (h2 : c < 12 ∨ 18 ≤ c) : qa_hitA A C b c = A c := by
  unfold qa_hitA
  split
  · cases hq : qa_streamOf A (C b 3) with
    | none => simp -implicitDefEqProofs (disch := first | assumption | omega) only [q_uc]
    | some p =>
      obtain ⟨hp, -, -⟩ := qa_streamOf_lt hq
      simp -implicitDefEqProofs (disch := first | assumption | omega) only [q_uc]
  · simp -implicitDefEqProofs (disch := first | assumption | omega) only [q_uc]
theorem hitA_2 {A C : ST} {b k : Nat} (h : k ≠ 1) (h2 : k ≠ 4) : qa_hitA A C b 2 k = A 2 k := by
  unfold qa_hitA
  split
  · cases hq : qa_streamOf A (C b 3) with
    | none => simp -implicitDefEqProofs (disch := first | assumption | omega) only [q_un]
    | some p =>
      obtain ⟨hp, -, -⟩ := qa_streamOf_lt hq
      simp -implicitDefEqProofs (disch := first | assumption | omega) only [q_un]
  · simp -implicitDefEqProofs (disch := first | assumption | omega) only [q_un]
theorem hitA_p {A C : ST} {b p k : Nat} (hp : p < 6) (h : k ≠ 9) : qa_hitA A C b (12 + p) k = A (12 + p) k := by
  unfold qa_hitA
  split
  · cases hq : qa_streamOf A (C b 3) with
    | none => simp -implicitDefEqProofs (disch := first | assumption | omega) only [q_un]
    | some q =>
      obtain ⟨hq, -, -⟩ := qa_streamOf_lt hq
      simp -implicitDefEqProofs (disch := first | assumption | omega) only [q_un]
  · simp -implicitDefEqProofs (disch := first | assumption | omega) only [q_un]
theorem GA_hitA {A C : ST} {b t : Nat} (h : GA A t) (ht : t < 1073741824) : GA (qa_hitA A C b) (t + 1) := by
  have h1 := GA_inc h (k := 1) (by omega) ht
  unfold qa_hitA
  split
  · cases hq : qa_streamOf A (C b 3) with
    | none => exact GA_o h1 (by omega)
    | some p =>
      obtain ⟨hp, -, -⟩ := qa_streamOf_lt hq
      exact GA_o (GA_o h1 (by omega)) (by omega)
  · exact h1
theorem late_c {A : ST} {o : Option Nat} {l : Int32} {c : Nat} (ho : ∀ p, o = some p → p < 6) (h : c ≠ 2) (h2 : c < 12 ∨ 18 ≤ c) (h3 : c ≠ 22) (h4 : c ≠ 23) : qa_lateA A o l c = A c := by
  unfold qa_lateA
  split
  · rfl
  · cases o with
    | none => simp -implicitDefEqProofs (disch := first | assumption | omega) only [q_uc]
    | some p =>
      have := ho p rfl
      simp -implicitDefEqProofs (disch := first | assumption | omega) only [qa_change_c, q_uc]
theorem late_2 {A : ST} {o : Option Nat} {l : Int32} {k : Nat} (ho : ∀ p, o = some p → p < 6) (h : k ≠ 17) (h2 : k ≠ 32) (h3 : k ≠ 33) : qa_lateA A o l 2 k = A 2 k := by
  unfold qa_lateA
  split
  · rfl
  · cases o with
    | none => simp -implicitDefEqProofs (disch := first | assumption | omega) only [q_un]
    | some p =>
      have := ho p rfl
      simp -implicitDefEqProofs (disch := first | assumption | omega) only [qa_change_2, q_un]
theorem late_p {A : ST} {o : Option Nat} {l : Int32} {q k : Nat} (ho : ∀ p, o = some p → p < 6) (hq : q < 6) (h : k ≠ 4) : qa_lateA A o l (12 + q) k = A (12 + q) k := by
  unfold qa_lateA
  split
  · rfl
  · cases o with
    | none => simp -implicitDefEqProofs (disch := first | assumption | omega) only [q_un]
    | some p =>
      have := ho p rfl
      by_cases e : q = p
      · subst e
        simp -implicitDefEqProofs (disch := first | assumption | omega) only [qa_change_p, q_un]
      · simp -implicitDefEqProofs (disch := first | assumption | omega) only [qa_change_c, q_un]
theorem GA_late {A : ST} {o : Option Nat} {l : Int32} {t : Nat} (h : GA A t) (ho : ∀ p, o = some p → p < 6 ∧ ¬ A (12 + p) 0 = -1 ∧ ¬ A (12 + p) 2 = 0) : GA (qa_lateA A o l) t := by
  unfold qa_lateA
  split
  · exact h
  · have h1 : GA (zUp (zUp A 2 32 (A 2 32 + 1)) 2 33 (A 2 33 + l)) t := GA_o (GA_o h (by omega)) (by omega)
    cases o with
    | none => exact h1
    | some p =>
      obtain ⟨hp, hn, hs⟩ := ho p rfl
      have hg := h.2.2.1 p hp hn
      have htb := GT_b h.1
      have e2 : (2 : Int32).toInt = 2 := by decide
      have hw := hg.2.2.2.2.2.2.2.2.1
      have hw2 := hg.2.2.2.2.2.2.2.2.2.1
      refine GA_change h1 hp ?_ ?_
      · rw [i_mul (by rw [e2]; omega) (by rw [e2]; omega), e2]
        omega
      · simp -implicitDefEqProofs (disch := first | assumption | omega) only [q_un]
        exact fun _ _ => hs
theorem hit_ok {A C : ST} {t b : Nat} (h : Gd A C t) (ht : t < 1073741820) (hb : b < 10000) (hc : C b 0 = 1) :
    Gd (qa_hit A C b).1 (qa_hit A C b).2 (t + 2) ∧ XIN (qa_hit A C b).2 (nI b) ∧ (qa_hit A C b).1 1 = A 1 ∧ (∀ q k, q < 6 → k ≠ 4 → k ≠ 9 → (qa_hit A C b).1 (12 + q) k = A (12 + q) k) ∧ (qa_hit A C b).1 2 14 = A 2 14 ∧ (qa_hit A C b).1 26 = A 26 ∧ (qa_hit A C b).1 0 = A 0 := by
  have ho : ∀ p, qa_streamOf A (C b 3) = some p → p < 6 ∧ ¬ A (12 + p) 0 = -1 ∧ ¬ A (12 + p) 2 = 0 := fun p q => by
    obtain ⟨a1, a2, a3⟩ := qa_streamOf_lt q
    exact ⟨a1, by rw [a2]; exact a3, h.2.2 b p hb a1 hc a3 a2.symm⟩
  have ho1 : ∀ p, qa_streamOf A (C b 3) = some p → p < 6 := fun p q => (ho p q).1
  unfold qa_hit
  dsimp only
  have g1 : GA (qa_lateA (qa_hitA A C b) (qa_streamOf A (C b 3)) (qa_left A C b (A 2 0 - 1))) (t + 1) := GA_late (GA_hitA h.1 (by omega)) (fun p q => by
    obtain ⟨a1, a2, a3⟩ := ho p q
    rw [hitA_p a1 (by omega), hitA_p a1 (by omega)]
    exact ⟨a1, a2, a3⟩)
  have e1 : qa_lateA (qa_hitA A C b) (qa_streamOf A (C b 3)) (qa_left A C b (A 2 0 - 1)) 1 = A 1 := by rw [late_c ho1 (by omega) (by omega) (by omega) (by omega), hitA_c (by omega) (by omega)]
  have e14 : qa_lateA (qa_hitA A C b) (qa_streamOf A (C b 3)) (qa_left A C b (A 2 0 - 1)) 2 14 = A 2 14 := by rw [late_2 ho1 (by omega) (by omega) (by omega), hitA_2 (by omega) (by omega)]
  have ep : ∀ q k, q < 6 → k ≠ 4 → k ≠ 9 → qa_lateA (qa_hitA A C b) (qa_streamOf A (C b 3)) (qa_left A C b (A 2 0 - 1)) (12 + q) k = A (12 + q) k := fun q k hq k1 k2 => by rw [late_p ho1 hq k1, hitA_p hq k2]
  have g2 := Gd_A h g1 (by omega) e1 (by rw [e14]; omega) (fun q hq => ⟨ep q 0 hq (by omega) (by omega), ep q 2 hq (by omega) (by omega)⟩)
  refine ⟨Gd_touch g2 (by omega) hb hc, Or.inr ⟨b, hb, rfl, ?_, ?_⟩, e1, ep, e14, ?_, ?_⟩
  · simp [qa_touch, hc]
  · simp [qa_touch]
  · rw [late_c ho1 (by omega) (by omega) (by omega) (by omega), hitA_c (by omega) (by omega)]
  · rw [late_c ho1 (by omega) (by omega) (by omega) (by omega), hitA_c (by omega) (by omega)]
theorem admit_ok {A C : ST} {t b : Nat} (h : Gd A C t) (ht : t < 1073741820) (hb : b < 10000) (hb7 : (b : Int) < (A 1 7).toInt) (hc : ¬ C b 0 = 1) :
    Gd (qa_admit A C b).1 (qa_admit A C b).2 (t + 3) ∧ XIN (qa_admit A C b).2 (nI b) ∧ (qa_admit A C b).1 1 = A 1 ∧ (∀ q k, q < 6 → k ≠ 4 → k ≠ 10 → (qa_admit A C b).1 (12 + q) k = A (12 + q) k) ∧ (qa_admit A C b).1 2 14 = A 2 14 ∧ (qa_admit A C b).1 26 = A 26 ∧ (qa_admit A C b).1 0 = A 0 := by
  have g1 : Gd (zUp A 2 2 (A 2 2 + 1)) C (t + 1) := Gd_A h (GA_inc h.1 (by omega) (by omega)) (by omega) (q_uc (by omega)) (by rw [q_un (by omega)]; omega) (fun q hq => ⟨q_un (by omega), q_un (by omega)⟩)
  have hx : XOK C (nI b) := fun c hc' e q => by
    have : c = b := nI_inj (by omega) (by omega) e
    subst this
    exact hc q.1
  obtain ⟨r1, r2, r3, r4, r5, r6, r7, r8⟩ := room_ok g1 (by omega) hx
  unfold qa_admit
  dsimp only
  have e1 : (qa_room (zUp A 2 2 (A 2 2 + 1)) C (nI b)).1 1 = A 1 := by rw [r3 1 (by omega) (by omega) (by omega) (by omega), q_uc (by omega)]
  refine ⟨Gd_put r1 (by omega) hb (r7 b hb hc) ?_ ?_ ?_ (fun p hp q _ => absurd rfl q), Or.inr ⟨b, hb, rfl, ?_, ?_⟩, e1, ?_, ?_, ?_, ?_⟩
  · rw [e1]
    rw [q_un (by omega)] at r2
    exact r2
  · rw [e1]; exact hb7
  · have := r1.1.2.1 14 (by omega)
    rw [show (-1 : Int32).toInt = -1 from by decide]
    omega
  · simp [qa_put]
  · simp [qa_put]
  · intro q k hq k1 k2
    rw [r5 q k hq k1 k2, q_un (by omega)]
  · rw [r4 14 (by omega) (by omega), q_un (by omega)]
  · rw [r3 26 (by omega) (by omega) (by omega) (by omega), q_uc (by omega)]
  · rw [r3 0 (by omega) (by omega) (by omega) (by omega), q_uc (by omega)]
theorem got_ok {A C : ST} {t b : Nat} (h : Gd A C t) (ht : t < 1073741800) (hb : b < 10000) (hb7 : (b : Int) < (A 1 7).toInt) :
    Gd (qa_got A C b).1 (qa_got A C b).2 (t + 4) ∧ XIN (qa_got A C b).2 (nI b) ∧ (qa_got A C b).1 1 = A 1 ∧ (∀ q k, q < 6 → k ≠ 4 → k ≠ 9 → k ≠ 10 → (qa_got A C b).1 (12 + q) k = A (12 + q) k) ∧ (qa_got A C b).1 2 14 = A 2 14 ∧ (qa_got A C b).1 26 = A 26 ∧ (qa_got A C b).1 0 = A 0 := by
  have g1 : Gd (zUp A 2 0 (A 2 0 + 1)) C (t + 1) := Gd_A h (GA_inc h.1 (by omega) (by omega)) (by omega) (q_uc (by omega)) (by rw [q_un (by omega)]; omega) (fun q hq => ⟨q_un (by omega), q_un (by omega)⟩)
  unfold qa_got
  by_cases hc : C b 0 = 1
  · rw [if_pos hc]
    obtain ⟨f1, f2, f3, f4, f5, f6, f7⟩ := hit_ok g1 (by omega) hb hc
    refine ⟨Gd_mono f1 (by omega), f2, by rw [f3, q_uc (by omega)], fun q k hq k1 k2 k3 => by rw [f4 q k hq k1 k2, q_un (by omega)], by rw [f5, q_un (by omega)], by rw [f6, q_uc (by omega)], by rw [f7, q_uc (by omega)]⟩
  · rw [if_neg hc]
    obtain ⟨f1, f2, f3, f4, f5, f6, f7⟩ := admit_ok g1 (by omega) hb (by rw [q_un (by omega)]; exact hb7) hc
    refine ⟨Gd_mono f1 (by omega), f2, by rw [f3, q_uc (by omega)], fun q k hq k1 k2 k3 => by rw [f4 q k hq k1 k3, q_un (by omega)], by rw [f5, q_un (by omega)], by rw [f6, q_uc (by omega)], by rw [f7, q_uc (by omega)]⟩
/-! finding, going on, joining -/
theorem find_p {A : ST} {x : Int32} (ht : 1 ≤ (A 1 6).toInt ∧ (A 1 6).toInt ≤ 6) : (qa_find A x).2.1 < 6 := by
  unfold qa_find
  cases h1 : qa_stepping A x 6 0 none with
  | some p => exact (qa_stepping_some (f := none) (fun p q => by cases q) (by omega) h1).1
  | none =>
    cases h2 : qa_lastAt A x with
    | some p => exact (qa_first_some h2).2.1
    | none =>
      cases h3 : qa_pairing A x 6 0 none (A 1 4 + 1) with
      | some p => exact (qa_pairing_some (f := none) (fun p q => by cases q) (by rw [i_le]; omega) (by omega) h3).1
      | none =>
        have := clamp_toInt (x := A 1 6) (by omega)
        exact qa_open_lt (by omega) (by omega)
theorem far_b {A : ST} {x : Int32} {p : Nat} (h1 : 0 ≤ x.toInt ∧ x.toInt < 10000) (h2 : 0 ≤ (A (12 + p) 1).toInt ∧ (A (12 + p) 1).toInt < 10000) (h3 : 1 ≤ (A 1 4).toInt ∧ (A 1 4).toInt ≤ 200) (h : ¬ (A 1 4 + 1) ≤ qa_far A x p) : -200 ≤ (x - A (12 + p) 1).toInt ∧ (x - A (12 + p) 1).toInt ≤ 200 := by
  have e1 : (1 : Int32).toInt = 1 := by decide
  have e0 : (0 : Int32).toInt = 0 := by decide
  have es : (x - A (12 + p) 1).toInt = x.toInt - (A (12 + p) 1).toInt := i_sub (by omega) (by omega)
  rw [i_le, i_add (by rw [e1]; omega) (by rw [e1]; omega), e1] at h
  unfold qa_far at h
  by_cases e : 0 ≤ x - A (12 + p) 1
  · rw [if_pos e] at h
    rw [i_le, e0] at e
    omega
  · rw [if_neg e] at h
    rw [i_le, e0] at e
    rw [i_sub (by rw [e0]; omega) (by rw [e0]; omega), e0] at h
    omega
theorem Gd_step {A C : ST} {t p : Nat} {x : Int32} (h : Gd A C t) (hp : p < 6) (h1 : 0 ≤ x.toInt) (h2 : x.toInt < (A 1 7).toInt) : Gd (qa_stepA A p x) C t := by
  unfold qa_stepA
  refine Gd_A h (GA_s (GA_s h.1 hp (by omega) ?_) hp (by omega) ?_) (Nat.le_refl _) (by simp -implicitDefEqProofs (disch := first | assumption | omega) only [q_uc]) (by simp -implicitDefEqProofs (disch := first | assumption | omega) only [q_un]; omega) (fun q hq => ⟨by simp -implicitDefEqProofs (disch := first | assumption | omega) only [q_un], by simp -implicitDefEqProofs (disch := first | assumption | omega) only [q_un]⟩)
  · intro hn
    obtain ⟨a1, a2, a3, a4, a5, a6, a7, a8, a9, a10, a11, a12, a13⟩ := h.1.2.2.1 p hp hn
    unfold GSr
    simp -implicitDefEqProofs (disch := first | assumption | omega) only [pk_un, pk_us]
    exact ⟨a1, a2, h1, h2, a5, a6, a7, a8, a9, a10, a11, a12, a13⟩
  · simp -implicitDefEqProofs (disch := first | assumption | omega) only [q_un]
    intro hn
    obtain ⟨a1, a2, a3, a4, a5, a6, a7, a8, a9, a10, a11, a12, a13⟩ := h.1.2.2.1 p hp hn
    unfold GSr
    simp -implicitDefEqProofs (disch := first | assumption | omega) only [pk_un, pk_us, q_un, q_ue]
    have e1 : (1 : Int32).toInt = 1 := by decide
    have e99 : (99 : Int32).toInt = 99 := by decide
    have es : (A (12 + p) 3 + 1).toInt = (A (12 + p) 3).toInt + 1 := by rw [i_add (by rw [e1]; omega) (by rw [e1]; omega), e1]
    refine ⟨a1, a2, h1, h2, a5, a6, ?_, ?_, a9, a10, a11, a12, a13⟩
    · split
      · rw [es]; omega
      · decide
    · by_cases e : A (12 + p) 3 + 1 < 99
      · rw [if_pos e]
        rw [i_lt, e99] at e
        omega
      · rw [if_neg e]
        decide
theorem Gd_pair {A C : ST} {t p : Nat} {x : Int32} (h : Gd A C t) (hp : p < 6) (h1 : 0 ≤ x.toInt) (h2 : x.toInt < (A 1 7).toInt) (hn : ¬ A (12 + p) 0 = -1) (hf : ¬ (A 1 4 + 1) ≤ qa_far A x p) (hne : ¬ A (12 + p) 1 = x) : Gd (qa_pairA A p x) C t ∧ ¬ qa_pairA A p x (12 + p) 2 = 0 := by
  have htb := GT_b h.1.1
  obtain ⟨a1, a2, a3, a4, a5, a6, a7, a8, a9, a10, a11, a12, a13⟩ := h.1.2.2.1 p hp hn
  have hb := far_b (A := A) (p := p) (by omega) (by omega) (by omega) hf
  have hs : (x - A (12 + p) 1).toInt = x.toInt - (A (12 + p) 1).toInt := i_sub (by omega) (by omega)
  have hz : ¬ x - A (12 + p) 1 = 0 := fun q => by
    rw [i_eq, hs, show (0 : Int32).toInt = 0 from by decide] at q
    exact hne (i_eq.mpr (by omega))
  unfold qa_pairA
  refine ⟨⟨?_, ?_, ?_⟩, ?_⟩
  · refine GA_s (GA_s (GA_s h.1 hp (by omega) ?_) hp (by omega) ?_) hp (by omega) ?_
    · intro _
      unfold GSr
      simp -implicitDefEqProofs (disch := first | assumption | omega) only [pk_un, pk_us]
      exact ⟨a1, a2, a3, a4, hb.1, hb.2, a7, a8, a9, a10, fun _ => hz, a12, a13⟩
    · intro _
      unfold GSr
      simp -implicitDefEqProofs (disch := first | assumption | omega) only [pk_un, pk_us, q_un, q_ue]
      exact ⟨a1, a2, a3, a4, hb.1, hb.2, by decide, by decide, a9, a10, fun _ => hz, a12, a13⟩
    · intro _
      unfold GSr
      simp -implicitDefEqProofs (disch := first | assumption | omega) only [pk_un, pk_us, q_un, q_ue]
      exact ⟨a1, a2, h1, h2, hb.1, hb.2, by decide, by decide, a9, a10, fun _ => hz, a12, a13⟩
  · exact GC_A h.2.1 (by simp -implicitDefEqProofs (disch := first | assumption | omega) only [q_uc]) (by simp -implicitDefEqProofs (disch := first | assumption | omega) only [q_un]; omega)
  · intro b q hb hq hc hno e
    by_cases eq : q = p
    · subst eq
      simp -implicitDefEqProofs (disch := first | assumption | omega) only [q_un, q_ue]
      exact hz
    · simp -implicitDefEqProofs (disch := first | assumption | omega) only [q_un] at e
      simp -implicitDefEqProofs (disch := first | assumption | omega) only [q_un]
      exact h.2.2 b q hb hq hc hno e
  · simp -implicitDefEqProofs (disch := first | assumption | omega) only [q_un, q_ue]
    exact hz
theorem begin_p {A : ST} {p k : Nat} {x : Int32} : qa_begin A p x (12 + p) k = (if k = 0 then A 2 14 else if k = 1 then x else if k = 5 then x else if k = 6 then -1 else if k < 11 then 0 else A (12 + p) k) := by
  unfold qa_begin
  rw [if_pos rfl]
theorem begin_q {A : ST} {p c : Nat} {x : Int32} (h : c ≠ 12 + p) (h2 : c ≠ 2) : qa_begin A p x c = A c := by
  funext k
  unfold qa_begin
  rw [if_neg h, if_neg (by omega)]
theorem begin_2 {A : ST} {p k : Nat} {x : Int32} (h : k ≠ 14) : qa_begin A p x 2 k = A 2 k := by
  unfold qa_begin
  rw [if_neg (by omega), if_neg (by omega)]
theorem begin_14 {A : ST} {p : Nat} {x : Int32} : qa_begin A p x 2 14 = A 2 14 + 1 := by
  unfold qa_begin
  rw [if_neg (by omega), if_pos ⟨rfl, rfl⟩]
theorem Gd_begin {A C : ST} {t p : Nat} {x : Int32} (h : Gd A C t) (ht : t < 1073741824) (hp : p < 6) (h1 : 0 ≤ x.toInt) (h2 : x.toInt < (A 1 7).toInt) : Gd (qa_begin A p x) C (t + 1) := by
  have e1 : (1 : Int32).toInt = 1 := by decide
  have e0 : (0 : Int32).toInt = 0 := by decide
  have h14 := h.1.2.1 14 (by omega)
  have htb := GT_b h.1.1
  have es : (A 2 14 + 1).toInt = (A 2 14).toInt + 1 := by rw [i_add (by rw [e1]; omega) (by rw [e1]; omega), e1]
  have eA1 : qa_begin A p x 1 = A 1 := begin_q (by omega) (by omega)
  have e7 : qa_begin A p x (12 + p) 0 = A 2 14 := by rw [begin_p, if_pos rfl]
  refine ⟨⟨?_, ?_, ?_, ?_, ?_⟩, ?_, ?_⟩
  · intro k hk
    rw [eA1]
    exact h.1.1 k hk
  · intro k hk
    by_cases e : k = 14
    · subst e
      rw [begin_14, es]
      omega
    · rw [begin_2 e]
      have := h.1.2.1 k hk
      omega
  · intro q hq hn
    rw [eA1, begin_14, es]
    by_cases e : q = p
    · subst e
      unfold GSr
      rw [begin_p, begin_p, begin_p, begin_p, begin_p, begin_p]
      simp only [if_pos, if_neg, show ¬ (1 = 0) by decide, show ¬ (2 = 0) by decide, show ¬ (2 = 1) by decide, show ¬ (2 = 5) by decide, show ¬ (2 = 6) by decide, show (2 < 11) by decide, show ¬ (3 = 0) by decide, show ¬ (3 = 1) by decide, show ¬ (3 = 5) by decide, show ¬ (3 = 6) by decide, show (3 < 11) by decide, show ¬ (4 = 0) by decide, show ¬ (4 = 1) by decide, show ¬ (4 = 5) by decide, show ¬ (4 = 6) by decide, show (4 < 11) by decide, show ¬ (5 = 0) by decide, show ¬ (5 = 1) by decide, e0, if_true, if_false]
      exact ⟨by omega, by omega, h1, h2, by omega, by omega, by omega, by omega, by omega, by omega, fun q => absurd trivial q, h1, h2⟩
    · rw [begin_q (by omega) (by omega)] at hn ⊢
      obtain ⟨a1, a2, a3⟩ := h.1.2.2.1 q hq hn
      exact ⟨a1, by omega, a3⟩
  · intro q r hq hr hn e
    by_cases eq : q = p
    · by_cases er : r = p
      · omega
      · rw [eq, e7, begin_q (by omega) (by omega)] at e
        by_cases hm : A (12 + r) 0 = -1
        · rw [hm] at e
          rw [e, show (-1 : Int32).toInt = -1 from by decide] at h14
          omega
        · have := (h.1.2.2.1 r hr hm).2.1
          rw [← e] at this
          omega
    · rw [begin_q (by omega) (by omega)] at hn e
      by_cases er : r = p
      · rw [er, e7] at e
        have := (h.1.2.2.1 q hq hn).2.1
        rw [e] at this
        omega
      · rw [begin_q (by omega) (by omega)] at e
        exact h.1.2.2.2.1 q r hq hr hn e
  · rw [GL, begin_q (by omega) (by omega)]
    exact h.1.2.2.2.2
  · exact GC_A (GC_mono h.2.1 (by omega)) eA1 (by rw [begin_14, es]; omega)
  · intro b q hb hq hc hno e
    by_cases eq : q = p
    · subst eq
      rw [e7] at e
      have := (h.2.1.2.1 b hb hc).2.2.2.2.2.2.1
      rw [e] at this
      omega
    · rw [begin_q (by omega) (by omega)] at e ⊢
      exact h.2.2 b q hb hq hc hno e
theorem first_none {P : Nat → Bool} : ∀ {m j : Nat}, qa_first P m j = none → ∀ i, j ≤ i → i < j + m → P i = false := by
  intro m
  induction m with
  | zero => intro j _ i h1 h2; omega
  | succ m ih =>
    intro j h i h1 h2
    rw [qa_first] at h
    by_cases e : P j = true
    · rw [if_pos e] at h; cases h
    · rw [if_neg e] at h
      by_cases ei : i = j
      · subst ei; simpa using e
      · exact ih h i (by omega) (by omega)
/-- what is found: a place, a stream there; what it may do -/
theorem find_ok {A C : ST} {t b : Nat} (h : Gd A C t) (ht : t < 1073741824) (hb : b < 10000) (h2 : (b : Int) < (A 1 7).toInt) :
    Gd (qa_find A (nI b)).2.2 C (t + 1) ∧ (qa_find A (nI b)).2.1 < 6 ∧ ¬ (qa_find A (nI b)).2.2 (12 + (qa_find A (nI b)).2.1) 0 = -1 ∧ ((qa_find A (nI b)).1 = 1 ∨ (qa_find A (nI b)).1 = 2 ∨ (qa_find A (nI b)).1 = 3 ∨ (qa_find A (nI b)).1 = 4) ∧ ((qa_find A (nI b)).1 = 1 ∨ (qa_find A (nI b)).1 = 3 → ¬ (qa_find A (nI b)).2.2 (12 + (qa_find A (nI b)).2.1) 2 = 0) ∧ (qa_find A (nI b)).2.2 1 = A 1 ∧ (qa_find A (nI b)).2.2 0 9 = nI (qa_find A (nI b)).2.1 ∧ (qa_find A (nI b)).2.2 26 = A 26 := by
  have htb := GT_b h.1.1
  have e0 : 0 ≤ (nI b).toInt := by rw [nI_toInt (by omega)]; omega
  have e7 : (nI b).toInt < (A 1 7).toInt := by rw [nI_toInt (by omega)]; exact h2
  have g9 : ∀ v : Int32, Gd (zUp A 0 9 v) C t := fun v => Gd_A h (GA_o h.1 (by omega)) (Nat.le_refl _) (q_uc (by omega)) (by rw [q_un (by omega)]; omega) (fun q hq => ⟨q_un (by omega), q_un (by omega)⟩)
  have hlt := find_p (A := A) (x := nI b) (by omega)
  unfold qa_find at *
  cases h1 : qa_stepping A (nI b) 6 0 none with
  | some p =>
    rw [h1] at hlt
    dsimp only at hlt ⊢
    obtain ⟨a1, a2, a3, a4⟩ := qa_stepping_some (f := none) (fun p q => by cases q) (by omega) h1
    refine ⟨Gd_mono (Gd_step (g9 _) hlt e0 (by rw [q_un (by omega)]; exact e7)) (by omega), hlt, ?_, Or.inl rfl, fun _ => ?_, ?_, ?_, ?_⟩
    · unfold qa_stepA; simp -implicitDefEqProofs (disch := first | assumption | omega) only [q_un]; exact a2
    · unfold qa_stepA; simp -implicitDefEqProofs (disch := first | assumption | omega) only [q_un]; exact a3
    · unfold qa_stepA; simp -implicitDefEqProofs (disch := first | assumption | omega) only [q_uc]
    · unfold qa_stepA; simp -implicitDefEqProofs (disch := first | assumption | omega) only [q_un, q_ue]
    · unfold qa_stepA; simp -implicitDefEqProofs (disch := first | assumption | omega) only [q_uc]
  | none =>
    rw [h1] at hlt
    dsimp only at hlt ⊢
    cases hl : qa_lastAt A (nI b) with
    | some p =>
      rw [hl] at hlt
      dsimp only at hlt ⊢
      obtain ⟨-, -, a3⟩ := qa_first_some hl
      simp only [Bool.and_eq_true, decide_eq_true_eq] at a3
      refine ⟨Gd_mono (g9 _) (by omega), hlt, ?_, Or.inr (Or.inl rfl), fun q => ?_, q_uc (by omega), q_ue rfl rfl, q_uc (by omega)⟩
      · simp -implicitDefEqProofs (disch := first | assumption | omega) only [q_un]; exact a3.1
      · rcases q with q | q <;> exact absurd q (by decide)
    | none =>
      rw [hl] at hlt
      dsimp only at hlt ⊢
      cases hr : qa_pairing A (nI b) 6 0 none (A 1 4 + 1) with
      | some p =>
        rw [hr] at hlt
        dsimp only at hlt ⊢
        obtain ⟨a1, a2, a3, a4⟩ := qa_pairing_some (f := none) (fun p q => by cases q) (by rw [i_le]; omega) (by omega) hr
        have hne : ¬ A (12 + p) 1 = nI b := fun q => by
          have := first_none hl p (by omega) (by omega)
          simp [a2, q] at this
        obtain ⟨g1, g2⟩ := Gd_pair (g9 (nI p)) hlt e0 (by rw [q_un (by omega)]; exact e7) (by rw [q_un (by omega)]; exact a2) (by unfold qa_far at *; simp -implicitDefEqProofs (disch := first | assumption | omega) only [q_un]; exact a4) (by rw [q_un (by omega)]; exact hne)
        refine ⟨Gd_mono g1 (by omega), hlt, ?_, Or.inr (Or.inr (Or.inl rfl)), fun _ => g2, ?_, ?_, ?_⟩
        · unfold qa_pairA; simp -implicitDefEqProofs (disch := first | assumption | omega) only [q_un]; exact a2
        · unfold qa_pairA; simp -implicitDefEqProofs (disch := first | assumption | omega) only [q_uc]
        · unfold qa_pairA; simp -implicitDefEqProofs (disch := first | assumption | omega) only [q_un, q_ue]
        · unfold qa_pairA; simp -implicitDefEqProofs (disch := first | assumption | omega) only [q_uc]
      | none =>
        rw [hr] at hlt
        dsimp only at hlt ⊢
        refine ⟨Gd_begin (g9 _) ht hlt e0 (by rw [q_un (by omega)]; exact e7), hlt, ?_, Or.inr (Or.inr (Or.inr rfl)), fun q => ?_, ?_, ?_, ?_⟩
        · rw [begin_p, if_pos rfl, q_un (by omega)]
          have := h.1.2.1 14 (by omega)
          intro q
          rw [q, show (-1 : Int32).toInt = -1 from by decide] at this
          omega
        · rcases q with q | q <;> exact absurd q (by decide)
        · rw [begin_q (by omega) (by omega), q_uc (by omega)]
        · rw [begin_q (by omega) (by omega), q_ue rfl rfl]
        · rw [begin_q (by omega) (by omega), q_uc (by omega)]
