/-! WHAT HOLDS OF THE ABSTRACT PLANNER; t: a number above all counts -/
def GSr (S : Nat → Int32) (came size most : Int) : Prop := 0 ≤ (S 0).toInt ∧ (S 0).toInt < came ∧ 0 ≤ (S 1).toInt ∧ (S 1).toInt < size ∧ -200 ≤ (S 2).toInt ∧ (S 2).toInt ≤ 200 ∧ 0 ≤ (S 3).toInt ∧ (S 3).toInt ≤ 99 ∧ 0 ≤ (S 4).toInt ∧ (S 4).toInt ≤ most ∧ (¬ S 4 = 0 → ¬ S 2 = 0) ∧ 0 ≤ (S 5).toInt ∧ (S 5).toInt < size
def GT (A : ST) : Prop := ∀ k, k < 10 → (lowF k).toInt ≤ (A 1 k).toInt ∧ (A 1 k).toInt ≤ (highF k).toInt
def GN (A : ST) (t : Nat) : Prop := ∀ k, (k ≤ 2 ∨ k = 5 ∨ k = 6 ∨ k = 14) → 0 ≤ (A 2 k).toInt ∧ (A 2 k).toInt ≤ t
def GSs (A : ST) : Prop := ∀ p, p < 6 → ¬ A (12 + p) 0 = -1 → GSr (A (12 + p)) (A 2 14).toInt (A 1 7).toInt (A 1 3).toInt
def GD (A : ST) : Prop := ∀ p q, p < 6 → q < 6 → ¬ A (12 + p) 0 = -1 → A (12 + p) 0 = A (12 + q) 0 → p = q
def GL (A : ST) : Prop := ∃ l, l ≤ 40 ∧ A 22 2 = nI l
def GA (A : ST) (t : Nat) : Prop := GT A ∧ GN A t ∧ GSs A ∧ GD A ∧ GL A
theorem GT_b {A : ST} (h : GT A) : 4 ≤ (A 1 0).toInt ∧ (A 1 0).toInt ≤ 64 ∧ 1 ≤ (A 1 1).toInt ∧ (A 1 1).toInt ≤ 4 ∧ 1 ≤ (A 1 2).toInt ∧ (A 1 2).toInt ≤ 8 ∧ 1 ≤ (A 1 3).toInt ∧ (A 1 3).toInt ≤ 32 ∧ 1 ≤ (A 1 4).toInt ∧ (A 1 4).toInt ≤ 200 ∧ 0 ≤ (A 1 5).toInt ∧ (A 1 5).toInt ≤ 100 ∧ 1 ≤ (A 1 6).toInt ∧ (A 1 6).toInt ≤ 6 ∧ 1 ≤ (A 1 7).toInt ∧ (A 1 7).toInt ≤ 10000 ∧ 0 ≤ (A 1 8).toInt ∧ (A 1 8).toInt ≤ 2 ∧ 0 ≤ (A 1 9).toInt ∧ (A 1 9).toInt ≤ 8 := by
  have h0 := h 0 (by decide)
  have h1 := h 1 (by decide)
  have h2 := h 2 (by decide)
  have h3 := h 3 (by decide)
  have h4 := h 4 (by decide)
  have h5 := h 5 (by decide)
  have h6 := h 6 (by decide)
  have h7 := h 7 (by decide)
  have h8 := h 8 (by decide)
  have h9 := h 9 (by decide)
  rw [show (lowF 0).toInt = 4 by decide, show (highF 0).toInt = 64 by decide] at h0
  rw [show (lowF 1).toInt = 1 by decide, show (highF 1).toInt = 4 by decide] at h1
  rw [show (lowF 2).toInt = 1 by decide, show (highF 2).toInt = 8 by decide] at h2
  rw [show (lowF 3).toInt = 1 by decide, show (highF 3).toInt = 32 by decide] at h3
  rw [show (lowF 4).toInt = 1 by decide, show (highF 4).toInt = 200 by decide] at h4
  rw [show (lowF 5).toInt = 0 by decide, show (highF 5).toInt = 100 by decide] at h5
  rw [show (lowF 6).toInt = 1 by decide, show (highF 6).toInt = 6 by decide] at h6
  rw [show (lowF 7).toInt = 1 by decide, show (highF 7).toInt = 10000 by decide] at h7
  rw [show (lowF 8).toInt = 0 by decide, show (highF 8).toInt = 2 by decide] at h8
  rw [show (lowF 9).toInt = 0 by decide, show (highF 9).toInt = 8 by decide] at h9
  exact ⟨h0.1, h0.2, h1.1, h1.2, h2.1, h2.2, h3.1, h3.2, h4.1, h4.2, h5.1, h5.2, h6.1, h6.2, h7.1, h7.2, h8.1, h8.2, h9.1, h9.2⟩
theorem GA_mono {A : ST} {t t' : Nat} (h : GA A t) (ht : t ≤ t') : GA A t' := ⟨h.1, fun k hk => by have := h.2.1 k hk; omega, h.2.2⟩
theorem GC_mono {A C : ST} {t t' : Nat} (h : GC A C t) (ht : t ≤ t') : GC A C t' := ⟨by have := h.1; omega, fun b hb hc => by
  obtain ⟨a1, a2, a3, a4, a5⟩ := h.2.1 b hb hc
  exact ⟨a1, a2, a3, by omega, a5⟩, h.2.2⟩
/-- a cell that GA doesn't read -/
theorem GA_o {A : ST} {t c k : Nat} {v : Int32} (h : GA A t) (hc : c = 0 ∨ c = 11 ∨ c = 23 ∨ 24 ≤ c ∨ (c = 2 ∧ ¬ (k ≤ 2 ∨ k = 5 ∨ k = 6 ∨ k = 14)) ∨ (12 ≤ c ∧ c < 18 ∧ 6 ≤ k)) : GA (zUp A c k v) t := by
  obtain ⟨h1, h2, h3, h4, l, h5, h6⟩ := h
  refine ⟨fun j hj => ?_, fun j hj => ?_, fun p hp hn => ?_, fun p q hp hq hn => ?_, l, h5, ?_⟩
  · simp (disch := first | assumption | omega) only [q_un]
    exact h1 j hj
  · simp (disch := first | assumption | omega) only [q_un]
    exact h2 j hj
  · rw [q_un (by omega)] at hn
    have := h3 p hp hn
    unfold GSr at *
    simp (disch := first | assumption | omega) only [q_un]
    exact this
  · rw [q_un (by omega)] at hn
    simp (disch := first | assumption | omega) only [q_un]
    exact h4 p q hp hq hn
  · simp (disch := first | assumption | omega) only [q_un]
    exact h6
/-- a count -/
theorem GA_n {A : ST} {t t' k : Nat} {v : Int32} (h : GA A t) (hk : k ≠ 14) (ht : t ≤ t') (hv : 0 ≤ v.toInt ∧ v.toInt ≤ t') : GA (zUp A 2 k v) t' := by
  obtain ⟨h1, h2, h3, h4, l, h5, h6⟩ := h
  refine ⟨fun j hj => ?_, fun j hj => ?_, fun p hp hn => ?_, fun p q hp hq hn => ?_, l, h5, ?_⟩
  · simp (disch := first | assumption | omega) only [q_un]
    exact h1 j hj
  · by_cases e : j = k
    · rw [q_ue rfl e]; exact hv
    · simp (disch := first | assumption | omega) only [q_un]
      have := h2 j hj
      omega
  · rw [q_un (by omega)] at hn
    have := h3 p hp hn
    unfold GSr at *
    simp (disch := first | assumption | omega) only [q_un]
    exact this
  · rw [q_un (by omega)] at hn
    simp (disch := first | assumption | omega) only [q_un]
    exact h4 p q hp hq hn
  · simp (disch := first | assumption | omega) only [q_un]
    exact h6
theorem GA_inc {A : ST} {t k : Nat} (h : GA A t) (hk : k ≤ 2 ∨ k = 5 ∨ k = 6) (ht : t < 1073741824) : GA (zUp A 2 k (A 2 k + 1)) (t + 1) := by
  have := h.2.1 k (by omega)
  have e : (A 2 k + 1).toInt = (A 2 k).toInt + 1 := by
    have e1 : (1 : Int32).toInt = 1 := by decide
    rw [i_add (by rw [e1]; omega) (by rw [e1]; omega), e1]
  exact GA_n h (by omega) (by omega) (by rw [e]; omega)
/-- a stream's word -/
theorem GA_s {A : ST} {t p k : Nat} {v : Int32} (h : GA A t) (hp : p < 6) (hk : k ≠ 0) (hv : ¬ A (12 + p) 0 = -1 → GSr (upd (A (12 + p)) k v) (A 2 14).toInt (A 1 7).toInt (A 1 3).toInt) : GA (zUp A (12 + p) k v) t := by
  obtain ⟨h1, h2, h3, h4, l, h5, h6⟩ := h
  refine ⟨fun j hj => ?_, fun j hj => ?_, fun q hq hn => ?_, fun q r hq hr hn => ?_, l, h5, ?_⟩
  · simp (disch := first | assumption | omega) only [q_un]
    exact h1 j hj
  · simp (disch := first | assumption | omega) only [q_un]
    exact h2 j hj
  · simp (disch := first | assumption | omega) only [q_un]
    rw [q_un (by omega)] at hn
    by_cases e : q = p
    · subst e
      rw [zUp_r]
      exact hv hn
    · rw [q_uc (by omega)]
      exact h3 q hq hn
  · rw [q_un (by omega)] at hn
    simp (disch := first | assumption | omega) only [q_un]
    exact h4 q r hq hr hn
  · simp (disch := first | assumption | omega) only [q_un]
    exact h6
theorem GA_log {A : ST} {t : Nat} {r n a b : Int32} (h : GA A t) : GA (qa_log A r n a b) t := by
  obtain ⟨h1, h2, h3, h4, l, h5, h6⟩ := h
  refine ⟨fun j hj => ?_, fun j hj => ?_, fun q hq hn => ?_, fun p q hp hq hn => ?_, ?_⟩
  · simp (disch := first | assumption | omega) only [qa_log_c]
    exact h1 j hj
  · simp (disch := first | assumption | omega) only [qa_log_c]
    exact h2 j hj
  · rw [qa_log_c (by omega) (by omega)] at hn
    simp (disch := first | assumption | omega) only [qa_log_c]
    exact h3 q hq hn
  · rw [qa_log_c (by omega) (by omega)] at hn
    simp (disch := first | assumption | omega) only [qa_log_c]
    exact h4 p q hp hq hn
  · unfold qa_log
    by_cases e : A 22 2 = 40
    · rw [if_pos e]
      exact ⟨l, h5, h6⟩
    · rw [if_neg e]
      refine ⟨l + 1, ?_, ?_⟩
      · have : l ≠ 40 := fun q => e (by rw [h6, q]; rfl)
        omega
      · simp (disch := first | assumption | omega) only [q_ue]
        rw [h6]
        exact nI_1 l
theorem GA_widen {A : ST} {t p : Nat} {w : Int32} (h : GA A t) (hp : p < 6) (hw : 0 ≤ w.toInt ∧ w.toInt ≤ (A 1 3).toInt) (hs : ¬ A (12 + p) 0 = -1 → ¬ w = 0 → ¬ A (12 + p) 2 = 0) : GA (qa_widen A p w) t := by
  unfold qa_widen
  by_cases e : w = A (12 + p) 4
  · rw [if_pos e]; exact h
  · rw [if_neg e]
    refine GA_o (GA_s (GA_log h) hp (by decide) ?_) (by omega)
    simp (disch := first | assumption | omega) only [qa_log_c]
    intro hn
    have := h.2.2.1 p hp hn
    unfold GSr at *
    simp (disch := first | assumption | omega) only [pk_un, pk_us]
    obtain ⟨a1, a2, a3, a4, a5, a6, a7, a8, a9, a10, a11, a12, a13⟩ := this
    exact ⟨a1, a2, a3, a4, a5, a6, a7, a8, hw.1, hw.2, hs hn, a12, a13⟩
theorem GC_A {A A' C : ST} {t : Nat} (h : GC A C t) (h1 : A' 1 = A 1) (h2 : (A 2 14).toInt ≤ (A' 2 14).toInt) : GC A' C t := by
  unfold GC at *
  rw [h1]
  refine ⟨h.1, fun b hb hc => ?_, h.2.2⟩
  obtain ⟨a1, a2, a3, a4, a5, a6, a7, a8⟩ := h.2.1 b hb hc
  exact ⟨a1, a2, a3, a4, a5, a6, by omega, a8⟩
theorem qa_change_c {A : ST} {p c : Nat} {w : Int32} (h : c ≠ 22) (h2 : c ≠ 23) (h3 : c ≠ 2) (h4 : c ≠ 12 + p) : qa_change A p w c = A c := qa_widen_c h h2 h3 h4
theorem qa_widen_2 {A : ST} {p k : Nat} {w : Int32} (hp : p < 6) (hk : k ≠ 17) : qa_widen A p w 2 k = A 2 k := by
  unfold qa_widen
  split
  · rfl
  · simp (disch := first | assumption | omega) only [q_un, qa_log_c]
theorem qa_change_2 {A : ST} {p k : Nat} {w : Int32} (hp : p < 6) (hk : k ≠ 17) : qa_change A p w 2 k = A 2 k := qa_widen_2 hp hk
theorem qa_change_p {A : ST} {p k : Nat} {w : Int32} (hp : p < 6) (h : k ≠ 4) : qa_change A p w (12 + p) k = A (12 + p) k := qa_widen_p hp h
theorem GA_change {A : ST} {t p : Nat} {w : Int32} (h : GA A t) (hp : p < 6) (hw : 0 ≤ w.toInt) (hs : ¬ A (12 + p) 0 = -1 → ¬ w = 0 → ¬ A (12 + p) 2 = 0) : GA (qa_change A p w) t := by
  have ht := GT_b h.1
  unfold qa_change
  refine GA_widen h hp ?_ ?_
  · by_cases e : w < A 1 3
    · rw [if_pos e]
      rw [i_lt] at e
      omega
    · rw [if_neg e]
      omega
  · by_cases e : w < A 1 3
    · rw [if_pos e]
      exact hs
    · rw [if_neg e]
      intro hn _
      refine hs hn (fun q => ?_)
      rw [i_lt, q, show (0 : Int32).toInt = 0 from by decide] at e
      omega
theorem half_b {w : Int32} (h0 : 0 ≤ w.toInt) : 1 ≤ (qa_half w).toInt := by
  unfold qa_half
  by_cases e : 1 < w / 2
  · rw [if_pos e]
    rw [i_lt, show (1 : Int32).toInt = 1 from by decide] at e
    omega
  · rw [if_neg e]
    decide
theorem GA_waste {A : ST} {t : Nat} {num : Int32} (h : GA A t) (ht : t < 1073741824) (hw : ∀ p, p < 6 → A (12 + p) 0 = num → ¬ num = -1 → ¬ A (12 + p) 2 = 0) : GA (qa_waste A num) (t + 1) := by
  unfold qa_waste
  have h1 := GA_inc h (k := 6) (by omega) ht
  cases hq : qa_streamOf A num with
  | none => exact h1
  | some p =>
    obtain ⟨hp, e1, e2⟩ := qa_streamOf_lt hq
    have hg := h.2.2.1 p hp (by rw [e1]; exact e2)
    have hb := half_b (w := A (12 + p) 4) hg.2.2.2.2.2.2.2.2.1
    refine GA_change (GA_o h1 (by omega)) hp (by omega) ?_
    simp (disch := first | assumption | omega) only [q_un]
    intro _ _
    exact hw p hp e1 e2
/-- owners of what is cached have a stride -/
def GO (A C : ST) : Prop := ∀ b p, b < 10000 → p < 6 → C b 0 = 1 → ¬ C b 3 = -1 → C b 3 = A (12 + p) 0 → ¬ A (12 + p) 2 = 0
def Gd (A C : ST) (t : Nat) : Prop := GA A t ∧ GC A C t ∧ GO A C
theorem GO_A {A A' C : ST} (h : GO A C) (h1 : ∀ p, p < 6 → A' (12 + p) 0 = A (12 + p) 0 ∧ A' (12 + p) 2 = A (12 + p) 2) : GO A' C := by
  intro b p hb hp hc hn e
  rw [(h1 p hp).1] at e
  rw [(h1 p hp).2]
  exact h b p hb hp hc hn e
theorem Gd_mono {A C : ST} {t t' : Nat} (h : Gd A C t) (ht : t ≤ t') : Gd A C t' := ⟨GA_mono h.1 ht, GC_mono h.2.1 ht, h.2.2⟩
/-- A changes, not what the cache's part reads of it -/
theorem Gd_A {A A' C : ST} {t t' : Nat} (h : Gd A C t) (hA : GA A' t') (ht : t ≤ t') (h1 : A' 1 = A 1) (h2 : (A 2 14).toInt ≤ (A' 2 14).toInt) (h3 : ∀ p, p < 6 → A' (12 + p) 0 = A (12 + p) 0 ∧ A' (12 + p) 2 = A (12 + p) 2) : Gd A' C t' :=
  ⟨hA, GC_A (GC_mono h.2.1 ht) h1 h2, GO_A h.2.2 h3⟩
theorem qa_waste_c {A : ST} {num : Int32} {c : Nat} (h : c ≠ 22) (h2 : c ≠ 23) (h3 : c ≠ 2) (h4 : c < 12 ∨ 18 ≤ c) : qa_waste A num c = A c := by
  unfold qa_waste
  cases hq : qa_streamOf A num with
  | none => exact q_uc h3
  | some p =>
    obtain ⟨hp, -, -⟩ := qa_streamOf_lt hq
    simp (disch := first | assumption | omega) only [qa_change_c, q_uc]
theorem qa_waste_2 {A : ST} {num : Int32} {k : Nat} (h : k ≠ 17) (h2 : k ≠ 6) : qa_waste A num 2 k = A 2 k := by
  unfold qa_waste
  cases hq : qa_streamOf A num with
  | none => simp (disch := first | assumption | omega) only [q_un]
  | some p =>
    obtain ⟨hp, -, -⟩ := qa_streamOf_lt hq
    simp (disch := first | assumption | omega) only [qa_change_2, q_un]
theorem qa_waste_p {A : ST} {num : Int32} {p k : Nat} (hp : p < 6) (h : k ≠ 4) (h2 : k ≠ 10) : qa_waste A num (12 + p) k = A (12 + p) k := by
  unfold qa_waste
  cases hq : qa_streamOf A num with
  | none => simp (disch := first | assumption | omega) only [q_un]
  | some q =>
    obtain ⟨hq, -, -⟩ := qa_streamOf_lt hq
    by_cases e : p = q
    · subst e
      simp (disch := first | assumption | omega) only [qa_change_p, q_un]
    · simp (disch := first | assumption | omega) only [qa_change_c, q_un]
theorem Gd_waste {A C : ST} {t b : Nat} (h : Gd A C t) (ht : t < 1073741824) (hb : b < 10000) (hc : C b 0 = 1) : Gd (qa_waste A (C b 3)) C (t + 1) := by
  refine Gd_A h (GA_waste h.1 ht (fun p hp e hn => h.2.2 b p hb hp hc hn e.symm)) (by omega) (qa_waste_c (by omega) (by omega) (by omega) (by omega)) ?_ (fun p hp => ⟨qa_waste_p hp (by omega) (by omega), qa_waste_p hp (by omega) (by omega)⟩)
  rw [qa_waste_2 (by omega) (by omega)]
  omega
theorem qin_out {C : ST} {b : Nat} (hb : b < 10000) (hc : C b 0 = 1) : qin (zUp C b 0 0) + 1 = qin C := by
  unfold qin
  exact (qcnt_add (P := fun c => decide (zUp C b 0 0 c 0 = 1)) (Q := fun c => decide (C c 0 = 1)) hb (decide_eq_false (by rw [q_ue rfl rfl]; decide)) (decide_eq_true hc) (fun i hi hne => by show decide (_) = decide (_); rw [q_uc hne])).symm
theorem qin_put {C : ST} {b : Nat} {own r : Int32} (hb : b < 10000) (hc : ¬ C b 0 = 1) : qin (qa_put C b own r) = qin C + 1 := by
  unfold qin
  exact qcnt_add (P := fun c => decide (C c 0 = 1)) (Q := fun c => decide (qa_put C b own r c 0 = 1)) hb (decide_eq_false hc) (decide_eq_true (by simp [qa_put])) (fun i hi hne => by show decide (_) = decide (_); rw [qa_put_ne hne (by omega)])
theorem qin_touch {C : ST} {b : Nat} (hb : b < 10000) : qin (qa_touch C b) = qin C := by
  unfold qin
  apply qcnt_congr
  intro i hi
  by_cases e : i = b
  · subst e
    simp [qa_touch]
  · show decide (_) = decide (_)
    rw [qa_touch_ne e (by omega)]
theorem Gd_out {A C : ST} {t b : Nat} (h : Gd A C t) (hb : b < 10000) (hc : C b 0 = 1) : Gd A (zUp C b 0 0) t := by
  have hq := qin_out hb hc
  have hne : ∀ c, zUp C b 0 0 c 0 = 1 → c ≠ b := fun c q e => by
    rw [q_ue e rfl] at q
    exact absurd q (by decide)
  refine ⟨h.1, ⟨?_, fun c hc' h1 => ?_, fun c d hc' hd h1 h2 => ?_, ?_⟩, fun c p hc' hp h1 => ?_⟩
  · rw [q_un (by omega)]
    exact h.2.1.1
  · have := hne c h1
    rw [q_uc this] at h1 ⊢
    rw [q_un (by omega)]
    exact h.2.1.2.1 c hc' h1
  · have a1 := hne c h1
    have a2 := hne d h2
    rw [q_uc a1] at h1 ⊢
    rw [q_uc a2] at h2 ⊢
    exact h.2.1.2.2.1 c d hc' hd h1 h2
  · have := h.2.1.2.2.2
    omega
  · have := hne c h1
    rw [q_uc this] at h1 ⊢
    exact h.2.2 c p hc' hp h1
theorem Gd_touch {A C : ST} {t b : Nat} (h : Gd A C t) (ht : t < 1073741824) (hb : b < 10000) (hc : C b 0 = 1) : Gd A (qa_touch C b) (t + 1) := by
  have hq := qin_touch (C := C) hb
  obtain ⟨h0, h0'⟩ := h.2.1.1
  have e1 : (1 : Int32).toInt = 1 := by decide
  have es : (C 10000 0 + 1).toInt = (C 10000 0).toInt + 1 := by rw [i_add (by rw [e1]; omega) (by rw [e1]; omega), e1]
  have hs : qa_touch C b 10000 0 = C 10000 0 + 1 := by simp [qa_touch, show ¬ 10000 = b by omega]
  have f0 : qa_touch C b b 0 = C b 0 := by simp [qa_touch]
  have f1 : qa_touch C b b 1 = C 10000 0 + 1 := by simp [qa_touch]
  have f2 : qa_touch C b b 2 = C b 2 + 1 := by simp [qa_touch]
  have f3 : qa_touch C b b 3 = C b 3 := by simp [qa_touch]
  have f5 : qa_touch C b b 5 = 0 := by simp [qa_touch]
  refine ⟨GA_mono h.1 (by omega), ⟨?_, fun c hc' h1 => ?_, fun c d hc' hd h1 h2 e => ?_, ?_⟩, fun c p hc' hp h1 => ?_⟩
  · rw [hs]; omega
  · by_cases e : c = b
    · subst e
      obtain ⟨a1, a2, a3, a4, a5, a6, a7, a8, a9⟩ := h.2.1.2.1 c hb hc
      rw [f1, f2, f3, f5, hs]
      have e2 : (C c 2 + 1).toInt = (C c 2).toInt + 1 := by rw [i_add (by rw [e1]; omega) (by rw [e1]; omega), e1]
      rw [es, e2]
      exact ⟨by omega, by omega, by omega, by omega, Or.inl rfl, a6, a7, fun q => absurd q (by decide), a9⟩
    · rw [qa_touch_ne e (by omega)] at h1 ⊢
      rw [hs, es]
      obtain ⟨a1, a2, a3, a4, a5⟩ := h.2.1.2.1 c hc' h1
      exact ⟨a1, by omega, a3, by omega, a5⟩
  · by_cases e3 : c = b
    · by_cases e4 : d = b
      · omega
      · rw [qa_touch_ne e4 (by omega)] at h2 e
        rw [e3, f1] at e
        have := (h.2.1.2.1 d hd h2).2.1
        rw [← e, es] at this
        omega
    · rw [qa_touch_ne e3 (by omega)] at h1 e
      by_cases e4 : d = b
      · rw [e4, f1] at e
        have := (h.2.1.2.1 c hc' h1).2.1
        rw [e, es] at this
        omega
      · rw [qa_touch_ne e4 (by omega)] at h2 e
        exact h.2.1.2.2.1 c d hc' hd h1 h2 e
  · rw [hq]; exact h.2.1.2.2.2
  · by_cases e : c = b
    · subst e
      rw [f3]
      exact h.2.2 c p hc' hp hc
    · rw [qa_touch_ne e (by omega)] at h1 ⊢
      exact h.2.2 c p hc' hp h1
theorem Gd_put {A C : ST} {t b : Nat} {own r : Int32} (h : Gd A C t) (ht : t < 1073741824) (hb : b < 10000) (hc : ¬ C b 0 = 1) (hr : (qin C : Int) < (A 1 0).toInt) (hs7 : (b : Int) < (A 1 7).toInt) (ho : -1 ≤ own.toInt ∧ own.toInt < (A 2 14).toInt) (hg : ∀ p, p < 6 → ¬ own = -1 → own = A (12 + p) 0 → ¬ A (12 + p) 2 = 0) : Gd A (qa_put C b own r) (t + 1) := by
  have hq := qin_put (own := own) (r := r) hb hc
  obtain ⟨h0, h0'⟩ := h.2.1.1
  have e1 : (1 : Int32).toInt = 1 := by decide
  have es : (C 10000 0 + 1).toInt = (C 10000 0).toInt + 1 := by rw [i_add (by rw [e1]; omega) (by rw [e1]; omega), e1]
  have hs : qa_put C b own r 10000 0 = C 10000 0 + 1 := by simp [qa_put, show ¬ 10000 = b by omega]
  have f0 : qa_put C b own r b 0 = 1 := by simp [qa_put]
  have f1 : qa_put C b own r b 1 = C 10000 0 + 1 := by simp [qa_put]
  have f2 : qa_put C b own r b 2 = (if own = -1 then 1 else 0) := by simp [qa_put]
  have f3 : qa_put C b own r b 3 = own := by simp [qa_put]
  have f5 : qa_put C b own r b 5 = (if own = -1 then 0 else 1) := by simp [qa_put]
  refine ⟨GA_mono h.1 (by omega), ⟨?_, fun c hc' h1 => ?_, fun c d hc' hd h1 h2 e => ?_, ?_⟩, fun c p hc' hp h1 => ?_⟩
  · rw [hs]; omega
  · by_cases e : c = b
    · subst e
      rw [f1, f2, f3, f5, hs, es]
      refine ⟨by omega, by omega, ?_, ?_, ?_, ho.1, ho.2, ?_, hs7⟩
      · split <;> decide
      · by_cases eo : own = -1
        · rw [if_pos eo, e1]; omega
        · rw [if_neg eo, show (0 : Int32).toInt = 0 from by decide]; omega
      · by_cases eo : own = -1
        · rw [if_pos eo]; exact Or.inl rfl
        · rw [if_neg eo]; exact Or.inr rfl
      · by_cases eo : own = -1
        · rw [if_pos eo]; intro q; exact absurd q (by decide)
        · intro _; exact eo
    · rw [qa_put_ne e (by omega)] at h1 ⊢
      rw [hs, es]
      obtain ⟨a1, a2, a3, a4, a5⟩ := h.2.1.2.1 c hc' h1
      exact ⟨a1, by omega, a3, by omega, a5⟩
  · by_cases e3 : c = b
    · by_cases e4 : d = b
      · omega
      · rw [qa_put_ne e4 (by omega)] at h2 e
        rw [e3, f1] at e
        have := (h.2.1.2.1 d hd h2).2.1
        rw [← e, es] at this
        omega
    · rw [qa_put_ne e3 (by omega)] at h1 e
      by_cases e4 : d = b
      · rw [e4, f1] at e
        have := (h.2.1.2.1 c hc' h1).2.1
        rw [e, es] at this
        omega
      · rw [qa_put_ne e4 (by omega)] at h2 e
        exact h.2.1.2.2.1 c d hc' hd h1 h2 e
  · rw [hq]; omega
  · by_cases e : c = b
    · subst e
      rw [f3]
      exact hg p hp
    · rw [qa_put_ne e (by omega)] at h1 ⊢
      exact h.2.2 c p hc' hp h1
/-- one may always go -/
def XOK (C : ST) (x : Int32) : Prop := ∀ b, b < 10000 → nI b = x → ¬ (C b 0 = 1 ∧ C b 5 = 1)
theorem qcand_ex {A C : ST} {t : Nat} {x : Int32} (h : Gd A C t) (hx : XOK C x) (hf : ¬ nI (qin C) < A 1 0) : ∃ b, qcand A C x b := by
  have ht := GT_b h.1.1
  have hq10 : qin C ≤ 10000 := qcnt_le _ _
  by_cases ha : qaho A C
  · have h2 : 0 < qah C := by
      by_cases e : qah C = 0
      · have := ha.2
        rw [e] at this
        obtain ⟨rm, hrm, er⟩ := nI_of (x := A 1 0) (fun q => by
          have := i_lt.mp q
          rw [show (0 : Int32).toInt = 0 from by decide] at this
          omega)
        rw [er, show (nI rm) / (4 : Int32) = nI (rm / 4) from pk_div hrm (by decide) (by decide), i_lt, nI_toInt (by omega), nI_toInt (by omega)] at this
        omega
      · omega
    obtain ⟨b, hb, hp⟩ := qcnt_ex h2
    have hp' := of_decide_eq_true hp
    exact ⟨b, hb, hp'.1, fun e => hx b hb e hp', fun _ => hp'.2⟩
  · have h4 : 4 ≤ qin C := by
      rw [i_lt, nI_toInt (by omega)] at hf
      omega
    have main : 0 < qcnt (fun b => decide (C b 0 = 1) && decide (¬ nI b = x)) 10000 := by
      by_cases e : ∃ b, b < 10000 ∧ nI b = x ∧ C b 0 = 1
      · obtain ⟨b, hb, e1, e2⟩ := e
        have := qcnt_rem (P := fun b => decide (C b 0 = 1)) hb (decide_eq_true e2)
        have e3 : qcnt (fun c => decide (C c 0 = 1) && !decide (c = b)) 10000 = qcnt (fun b => decide (C b 0 = 1) && decide (¬ nI b = x)) 10000 := qcnt_congr (fun i hi => by
          by_cases ei : i = b
          · subst ei; simp [e1]
          · have : ¬ nI i = x := fun q => ei (nI_inj (by omega) (by omega) (q.trans e1.symm))
            simp [ei, this])
        unfold qin at h4
        omega
      · have e3 : qcnt (fun c => decide (C c 0 = 1)) 10000 = qcnt (fun b => decide (C b 0 = 1) && decide (¬ nI b = x)) 10000 := qcnt_congr (fun i hi => by
          by_cases ei : C i 0 = 1
          · have : ¬ nI i = x := fun q => e ⟨i, hi, q, ei⟩
            simp [this]
          · simp [ei])
        unfold qin at h4
        omega
    obtain ⟨b, hb, hp⟩ := qcnt_ex main
    simp at hp
    exact ⟨b, hb, hp.1, hp.2, fun q => absurd q ha⟩
theorem qvic_ex {A C : ST} {x : Int32} (M : Nat) (hM : ∃ b, b < M ∧ qcand A C x b) : ∃ b, (b < M ∧ qcand A C x b) ∧ ∀ b', b' < M → qcand A C x b' → qw A C b ≤ qw A C b' := by
  induction M with
  | zero => obtain ⟨b, h, -⟩ := hM; omega
  | succ M ih =>
    by_cases h : ∃ b, b < M ∧ qcand A C x b
    · obtain ⟨b, ⟨h1, h2⟩, h3⟩ := ih h
      by_cases e : qcand A C x M ∧ qw A C M < qw A C b
      · refine ⟨M, ⟨by omega, e.1⟩, fun b' hb' hc => ?_⟩
        by_cases eb : b' = M
        · subst eb; exact Int.le_refl _
        · have := h3 b' (by omega) hc
          omega
      · refine ⟨b, ⟨by omega, h2⟩, fun b' hb' hc => ?_⟩
        by_cases eb : b' = M
        · subst eb
          have : ¬ qw A C b' < qw A C b := fun q => e ⟨hc, q⟩
          omega
        · exact h3 b' (by omega) hc
    · obtain ⟨b, h1, h2⟩ := hM
      have : b = M := by
        by_cases e : b = M
        · exact e
        · exact absurd ⟨b, by omega, h2⟩ h
      subst this
      refine ⟨b, ⟨by omega, h2⟩, fun b' hb' hc => ?_⟩
      by_cases eb : b' = b
      · subst eb; exact Int.le_refl _
      · exact absurd ⟨b', by omega, hc⟩ h
theorem qvic_of {A C : ST} {x : Int32} (h : ∃ b, qcand A C x b) : qvic A C x (qa_vic A C x) := by
  obtain ⟨b, hb⟩ := h
  obtain ⟨v, ⟨h1, h2⟩, h3⟩ := qvic_ex (A := A) (C := C) (x := x) 10000 ⟨b, hb.1, hb⟩
  exact Classical.epsilon_spec (p := fun b => qvic A C x b) ⟨v, h2, fun b' hc => h3 b' hc.1 hc⟩
