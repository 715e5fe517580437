/-! MORE THAT HOLDS THROUGHOUT: every count is small; what is fetched lies on its stream's way -/
def On (x l s : Int) : Prop := ∃ k : Int, x = l + k * s
theorem On_self (l s : Int) : On l l s := ⟨0, by rw [Int.zero_mul]; omega⟩
theorem On_last {x l s : Int} (h : On x l s) : On x (l + s) s := by
  obtain ⟨k, h⟩ := h
  exact ⟨k - 1, by rw [Int.sub_mul, Int.one_mul]; omega⟩
theorem On_next {x l s : Int} (h : On x l s) : On (x + s) l s := by
  obtain ⟨k, h⟩ := h
  exact ⟨k + 1, by rw [Int.add_mul, Int.one_mul]; omega⟩
def GQ (A : ST) (t : Nat) : Prop := ∀ k, k < 34 → 0 ≤ (A 2 k).toInt ∧ (A 2 k).toInt ≤ (t : Int) + 64
def GM (A C : ST) : Prop := (∀ p, p < 6 → ¬ A (12 + p) 0 = -1 → On (A (12 + p) 5).toInt (A (12 + p) 1).toInt (A (12 + p) 2).toInt) ∧ (∀ b p, b < 10000 → p < 6 → C b 0 = 1 → ¬ C b 3 = -1 → C b 3 = A (12 + p) 0 → On b (A (12 + p) 1).toInt (A (12 + p) 2).toInt) ∧ (∀ b, b < 10000 → C b 0 = 1 → 0 ≤ (C b 4).toInt ∧ (C b 4).toInt ≤ (A 2 0).toInt)
def GX (A C : ST) (t : Nat) : Prop := GQ A t ∧ GM A C
theorem GQ_mono {A : ST} {t t' : Nat} (h : GQ A t) (ht : t ≤ t') : GQ A t' := fun k hk => by have := h k hk; omega
theorem GX_mono {A C : ST} {t t' : Nat} (h : GX A C t) (ht : t ≤ t') : GX A C t' := ⟨GQ_mono h.1 ht, h.2⟩
theorem GQ_eq {A A' : ST} {t t' j : Nat} (h : GQ A t) (ht : t ≤ t') (e : ∀ k, k < 34 → k ≠ j → A' 2 k = A 2 k) (hj : 0 ≤ (A' 2 j).toInt ∧ (A' 2 j).toInt ≤ (t' : Int) + 64) : GQ A' t' := fun k hk => by
  by_cases g : k = j
  · rw [g]; exact hj
  · rw [e k hk g]
    have := h k hk
    omega
theorem GQ_c {A A' : ST} {t : Nat} (h : GQ A t) (e : ∀ k, k < 34 → A' 2 k = A 2 k) : GQ A' t := fun k hk => by rw [e k hk]; exact h k hk
theorem GQ_inc {A : ST} {t k : Nat} (h : GQ A t) (ht : t < 1000000000) (hk : k < 34) : GQ (zUp A 2 k (A 2 k + 1)) (t + 1) := by
  have e1 : (1 : Int32).toInt = 1 := by decide
  have := h k hk
  refine GQ_eq h (j := k) (by omega) (fun i _ hi => q_un (by omega)) ?_
  rw [q_ue rfl rfl, i_add (by rw [e1]; omega) (by rw [e1]; omega), e1]
  omega
theorem GQ_widen {A : ST} {t p : Nat} {w : Int32} (h : GQ A t) (hp : p < 6) (hw : 0 ≤ w.toInt ∧ w.toInt ≤ 64) : GQ (qa_widen A p w) t := by
  refine GQ_eq h (j := 17) (Nat.le_refl _) (fun k hk hk2 => qa_widen_2 hp hk2) ?_
  have h17 := h 17 (by omega)
  unfold qa_widen
  by_cases c : w = A (12 + p) 4
  · rw [if_pos c]; exact h17
  · rw [if_neg c, q_ue rfl rfl]
    by_cases c2 : A 2 17 < w
    · rw [if_pos c2]; omega
    · rw [if_neg c2]; exact h17
theorem GQ_change {A : ST} {t p : Nat} {w : Int32} (h : GQ A t) (hp : p < 6) (hw : 0 ≤ w.toInt) (h3 : 1 ≤ (A 1 3).toInt ∧ (A 1 3).toInt ≤ 32) : GQ (qa_change A p w) t := by
  unfold qa_change
  refine GQ_widen h hp ?_
  by_cases c : w < A 1 3
  · rw [if_pos c]; rw [i_lt] at c; omega
  · rw [if_neg c]; omega
theorem GQ_waste {A : ST} {t s : Nat} {num : Int32} (h : GQ A t) (hA : GA A s) (ht : t < 1000000000) : GQ (qa_waste A num) (t + 1) := by
  have htb := GT_b hA.1
  have h1 := GQ_inc h ht (k := 6) (by omega)
  unfold qa_waste
  cases hq : qa_streamOf A num with
  | none => exact h1
  | some p =>
    obtain ⟨hp, e1, e2⟩ := qa_streamOf_lt hq
    have hg := hA.2.2.1 p hp (by rw [e1]; exact e2)
    have hb := half_b (w := A (12 + p) 4) hg.2.2.2.2.2.2.2.2.1
    exact GQ_change (GQ_c h1 (fun k _ => q_un (by omega))) hp (by omega) (by rw [q_uc (by omega), q_uc (by omega)]; omega)
theorem GM_A {A A' C : ST} (h : GM A C) (e : ∀ p, p < 6 → A' (12 + p) 0 = A (12 + p) 0 ∧ A' (12 + p) 1 = A (12 + p) 1 ∧ A' (12 + p) 2 = A (12 + p) 2 ∧ A' (12 + p) 5 = A (12 + p) 5) (h0 : (A 2 0).toInt ≤ (A' 2 0).toInt) : GM A' C := by
  refine ⟨fun p hp hn => ?_, fun b p hb hp hc hn ho => ?_, fun b hb hc => ?_⟩
  · obtain ⟨e0, e1, e2, e5⟩ := e p hp
    rw [e1, e2, e5]
    rw [e0] at hn
    exact h.1 p hp hn
  · obtain ⟨e0, e1, e2, e5⟩ := e p hp
    rw [e1, e2]
    rw [e0] at ho
    exact h.2.1 b p hb hp hc hn ho
  · have := h.2.2 b hb hc
    omega
theorem GM_C {A C C' : ST} (h : GM A C) (e : ∀ b, b < 10000 → C' b 0 = 1 → C b 0 = 1 ∧ C' b 3 = C b 3 ∧ C' b 4 = C b 4) : GM A C' := by
  refine ⟨h.1, fun b p hb hp hc hn ho => ?_, fun b hb hc => ?_⟩
  · obtain ⟨e0, e3, e4⟩ := e b hb hc
    rw [e3] at hn ho
    exact h.2.1 b p hb hp e0 hn ho
  · obtain ⟨e0, e3, e4⟩ := e b hb hc
    rw [e4]
    exact h.2.2 b hb e0
theorem GM_out {A C : ST} (h : GM A C) (b : Nat) : GM A (zUp C b 0 0) := by
  refine GM_C h (fun c hc h1 => ?_)
  by_cases g : c = b
  · subst g
    rw [q_ue rfl rfl] at h1
    exact absurd h1 (by decide)
  · rw [q_uc g] at h1 ⊢
    exact ⟨h1, rfl, rfl⟩
theorem GM_put {A C : ST} {b : Nat} {own : Int32} (h : GM A C) (h0 : 0 ≤ (A 2 0).toInt) (ho : ∀ p, p < 6 → ¬ own = -1 → own = A (12 + p) 0 → On b (A (12 + p) 1).toInt (A (12 + p) 2).toInt) : GM A (qa_put C b own (A 2 0)) := by
  refine ⟨h.1, fun c p hc hp h1 hn hw => ?_, fun c hc h1 => ?_⟩
  · by_cases g : c = b
    · subst g
      have e3 : qa_put C c own (A 2 0) c 3 = own := by unfold qa_put; simp
      rw [e3] at hn hw
      exact ho p hp hn hw
    · have e : ∀ k, qa_put C b own (A 2 0) c k = C c k := fun k => by
        unfold qa_put
        rw [if_neg g, if_neg (by omega)]
      rw [e] at h1 hn hw
      exact h.2.1 c p hc hp h1 hn hw
  · by_cases g : c = b
    · subst g
      have e4 : qa_put C c own (A 2 0) c 4 = A 2 0 := by unfold qa_put; simp
      rw [e4]
      omega
    · have e : ∀ k, qa_put C b own (A 2 0) c k = C c k := fun k => by
        unfold qa_put
        rw [if_neg g, if_neg (by omega)]
      rw [e] at h1
      rw [e]
      exact h.2.2 c hc h1
theorem GM_lv {A C : ST} {p : Nat} (h : GM A C) (hp : p < 6) : GM (zUp A (12 + p) 0 (-1)) C := by
  refine ⟨fun q hq hn => ?_, fun b q hb hq hc hn ho => ?_, fun b hb hc => ?_⟩
  · by_cases g : q = p
    · subst g
      rw [q_ue rfl rfl] at hn
      exact absurd rfl hn
    · rw [q_uc (by omega)] at hn ⊢
      exact h.1 q hq hn
  · by_cases g : q = p
    · subst g
      rw [q_ue rfl rfl] at ho
      exact absurd ho hn
    · rw [q_uc (by omega)] at ho ⊢
      exact h.2.1 b q hb hq hc hn ho
  · rw [q_un (by omega)]
    exact h.2.2 b hb hc
theorem GM_edge {A C : ST} {p : Nat} {e : Int32} (h : GM A C) (hp : p < 6) (he : On e.toInt (A (12 + p) 1).toInt (A (12 + p) 2).toInt) : GM (zUp A (12 + p) 5 e) C := by
  refine ⟨fun q hq hn => ?_, fun b q hb hq hc hn ho => ?_, fun b hb hc => ?_⟩
  · by_cases g : q = p
    · subst g
      rw [q_ue rfl rfl, q_un (by omega), q_un (by omega)]
      exact he
    · rw [q_uc (by omega)] at hn ⊢
      exact h.1 q hq hn
  · rw [q_un (by omega)] at ho
    rw [q_un (by omega), q_un (by omega)]
    exact h.2.1 b q hb hq hc hn ho
  · rw [q_un (by omega)]
    exact h.2.2 b hb hc
theorem GM_o {A C : ST} {c k : Nat} {v : Int32} (h : GM A C) (hc : c < 12 ∨ 18 ≤ c ∨ k = 3 ∨ k = 4 ∨ 6 ≤ k) (h2 : c ≠ 2 ∨ k ≠ 0) : GM (zUp A c k v) C := GM_A h (fun p hp => ⟨q_un (by omega), q_un (by omega), q_un (by omega), q_un (by omega)⟩) (by rw [q_un (by omega)]; exact Int.le_refl _)
theorem GX_waste {A C : ST} {t s : Nat} {num : Int32} (h : GX A C t) (hA : GA A s) (ht : t < 1000000000) : GX (qa_waste A num) C (t + 1) :=
  ⟨GQ_waste h.1 hA ht, GM_A h.2 (fun p hp => ⟨qa_waste_p hp (by omega) (by omega), qa_waste_p hp (by omega) (by omega), qa_waste_p hp (by omega) (by omega), qa_waste_p hp (by omega) (by omega)⟩) (by rw [qa_waste_2 (by omega) (by omega)]; exact Int.le_refl _)⟩
theorem GX_room {A C : ST} {t s : Nat} {x : Int32} (h : GX A C t) (g : Gd A C s) (ht : t < 1000000000) : GX (qa_room A C x).1 (qa_room A C x).2 (t + 1) := by
  unfold qa_room
  by_cases c : nI (qin C) < A 1 0
  · rw [if_pos c]
    exact GX_mono h (by omega)
  · rw [if_neg c]
    dsimp only
    by_cases c2 : C (qa_vic A C x) 5 = 1
    · rw [if_pos c2]
      have := GX_waste (num := C (qa_vic A C x) 3) h g.1 ht
      exact ⟨this.1, GM_out this.2 _⟩
    · rw [if_neg c2]
      exact ⟨GQ_mono h.1 (by omega), GM_out h.2 _⟩
theorem GX_fetch {A C : ST} {t s p b : Nat} {x : Int32} (h : GX A C t) (g : Gd A C s) (hs : s < 1073741820) (ht : t < 900000000) (hx : XIN C x) (hp : p < 6) (hn : ¬ A (12 + p) 0 = -1) (hb : b < 10000) (ho : On b (A (12 + p) 1).toInt (A (12 + p) 2).toInt) : GX (qa_fetch A C p b x).1 (qa_fetch A C p b x).2 (t + 2) := by
  obtain ⟨r1, r2, r3, r4, r5, r6, r7, r8⟩ := room_ok g (by omega) (XIN_ok hx)
  have hr := GX_room (x := x) h g (by omega)
  unfold qa_fetch
  dsimp only
  generalize (qa_room A C x).1 = A1 at *
  generalize (qa_room A C x).2 = C1 at *
  have f25 : qa_fetched A1 p b 2 5 = A1 2 5 + 1 := by
    unfold qa_fetched
    simp -implicitDefEqProofs (disch := first | assumption | omega) only [qa_plan_c, q_un, q_ue]
  have e1 : (1 : Int32).toInt = 1 := by decide
  have h5 := hr.1 5 (by omega)
  have h0 := hr.1 0 (by omega)
  refine ⟨GQ_eq hr.1 (j := 5) (by omega) (fun k hk hk5 => fetched_2 hp hk5) ?_, ?_⟩
  · rw [f25, i_add (by rw [e1]; omega) (by rw [e1]; omega), e1]
    omega
  · refine GM_A (GM_put hr.2 h0.1 (fun q hq hw he => ?_)) (fun q hq => ⟨fetched_p hp hq (by omega), fetched_p hp hq (by omega), fetched_p hp hq (by omega), fetched_p hp hq (by omega)⟩) (by rw [fetched_2 hp (by omega)]; exact Int.le_refl _)
    rw [r5 p 0 hp (by omega) (by omega), r5 q 0 hq (by omega) (by omega)] at he
    have : p = q := g.1.2.2.2.1 p q hp hq hn he
    subst this
    rw [r5 p 1 hp (by omega) (by omega), r5 p 2 hp (by omega) (by omega)]
    exact ho
theorem GX_to {A C : ST} {t s p i : Nat} (h : GX A C t) (g : Gd A C s) (hp : p < 6) (hn : ¬ A (12 + p) 0 = -1) : GX (qa_to A p i) C t ∧ On (A (12 + p) 5 + A (12 + p) 2).toInt (A (12 + p) 1).toInt (A (12 + p) 2).toInt := by
  have htb := GT_b g.1.1
  obtain ⟨a1, a2, a3, a4, a5, a6, a7, a8, a9, a10, a11, a12, a13⟩ := g.1.2.2.1 p hp hn
  have es : (A (12 + p) 5 + A (12 + p) 2).toInt = (A (12 + p) 5).toInt + (A (12 + p) 2).toInt := i_add (by omega) (by omega)
  have ho : On (A (12 + p) 5 + A (12 + p) 2).toInt (A (12 + p) 1).toInt (A (12 + p) 2).toInt := by
    rw [es]
    exact On_next (h.2.1 p hp hn)
  refine ⟨⟨GQ_c h.1 (fun k _ => by rw [qa_to_c (by omega)]), ?_⟩, ho⟩
  unfold qa_to
  split
  · exact GM_o (GM_edge h.2 hp ho) (by omega) (by omega)
  · exact GM_edge h.2 hp ho
theorem GX_bstep {A C : ST} {t s p i : Nat} {x : Int32} (h : GX A C t) (g : Gd A C s) (hs : s < 1073741820) (ht : t < 900000000) (hx : XIN C x) (hp : p < 6) (hn : ¬ A (12 + p) 0 = -1) (hm : qa_may A C (A (12 + p) 5 + A (12 + p) 2) = true) : GX (qa_bstep A C p x i).1 (qa_bstep A C p x i).2 (t + 2) := by
  obtain ⟨m1, m2, m3⟩ := qa_may_b hm
  have htb := GT_b g.1.1
  obtain ⟨h1, ho⟩ := GX_to (i := i) h g hp hn
  have g1 := Gd_to (i := i) g hp m1 m2
  have eto2 : qa_to A p i 2 = A 2 := qa_to_c (by omega)
  obtain ⟨d1, d2⟩ := clamp_toInt m1
  unfold qa_bstep
  split
  · dsimp only
    have := GQ_inc h1.1 (k := 7) (by omega) (by omega)
    rw [eto2] at this
    exact ⟨GQ_mono this (by omega), GM_o h1.2 (by omega) (by omega)⟩
  · refine GX_fetch h1 g1 hs ht hx hp (by rw [qa_to_q (by omega) (by omega)]; exact hn) (by omega) ?_
    rw [qa_to_q (by omega) (by omega), qa_to_q (by omega) (by omega), d1]
    exact ho
theorem GX_bloop {p : Nat} {x : Int32} (hp : p < 6) : ∀ (m i : Nat) {A C : ST} {t s : Nat}, GX A C t → Gd A C s → s + 3 * m < 1073741820 → t + 2 * m < 900000000 → XIN C x → ¬ A (12 + p) 0 = -1 → ¬ A (12 + p) 2 = 0 → GX (qa_bloop p x m i A C).1 (qa_bloop p x m i A C).2 (t + 2 * m) := by
  intro m
  induction m with
  | zero => intro i A C t s h _ _ _ _ _ _; exact h
  | succ m ih =>
    intro i A C t s h g hs ht hx hn hst
    rw [qa_bloop]
    by_cases c : qa_may A C (A (12 + p) 5 + A (12 + p) 2) = true
    · rw [if_pos c]
      obtain ⟨b1, b2, b3, b4, b5, b6, b7⟩ := bstep_ok (i := i) g (by omega) hx hp hn hst c
      have hb := GX_bstep (i := i) h g (by omega) (by omega) hx hp hn c
      exact GX_mono (ih (i + 1) hb b1 (by omega) (by omega) b2 (by rw [b4 p 0 hp (by omega) (by omega) (by omega) (by omega) (by omega)]; exact hn) (by rw [b4 p 2 hp (by omega) (by omega) (by omega) (by omega) (by omega)]; exact hst)) (by omega)
    · rw [if_neg c]
      exact GX_mono h (by omega)
theorem GX_batch {A C : ST} {t s p : Nat} {x : Int32} (h : GX A C t) (g : Gd A C s) (hs : s < 1073741000) (ht : t < 800000000) (hx : XIN C x) (hp : p < 6) (hn : ¬ A (12 + p) 0 = -1) (hst : ¬ A (12 + p) 2 = 0) : GX (qa_batch A C p x).1 (qa_batch A C p x).2 (t + 65) := by
  have hw := g.1.2.2.1 p hp hn
  have htb := GT_b g.1.1
  have hcl := clamp_toInt hw.2.2.2.2.2.2.2.2.1
  have hw2 := hw.2.2.2.2.2.2.2.2.2.1
  have g0 : Gd (qa_bat0 A p) C s := by
    unfold qa_bat0
    exact Gd_A g (GA_o (GA_o g.1 (by omega)) (by omega)) (Nat.le_refl _) (by simp (disch := first | assumption | omega) only [q_uc]) (by simp (disch := first | assumption | omega) only [q_un]; omega) (fun q hq => ⟨by simp (disch := first | assumption | omega) only [q_un], by simp (disch := first | assumption | omega) only [q_un]⟩)
  have h0 : GX (qa_bat0 A p) C (t + 1) := by
    unfold qa_bat0
    have e9 : zUp A (12 + p) 6 (-1) 2 9 = A 2 9 := q_un (by omega)
    have := GQ_inc (A := zUp A (12 + p) 6 (-1)) (k := 9) (GQ_c h.1 (fun k _ => q_un (by omega))) (by omega) (by omega)
    rw [e9] at this
    exact ⟨this, GM_o (GM_o h.2 (by omega) (by omega)) (by omega) (by omega)⟩
  have en : qa_bat0 A p (12 + p) 0 = A (12 + p) 0 := by unfold qa_bat0; simp (disch := first | assumption | omega) only [q_un]
  have es : qa_bat0 A p (12 + p) 2 = A (12 + p) 2 := by unfold qa_bat0; simp (disch := first | assumption | omega) only [q_un]
  have e8 : qa_bat0 A p 2 8 = A 2 8 := by unfold qa_bat0; simp (disch := first | assumption | omega) only [q_un]
  unfold qa_batch
  split
  · exact GX_mono (GX_bloop hp _ 0 h0 g0 (by omega) (by omega) hx (by rw [en]; exact hn) (by rw [es]; exact hst)) (by omega)
  · dsimp only
    have := GQ_inc h0.1 (k := 8) (by omega) (by omega)
    rw [e8] at this
    exact ⟨GQ_mono this (by omega), GM_o h0.2 (by omega) (by omega)⟩
theorem GX_chg {A C : ST} {t p : Nat} {w : Int32} (h : GX A C t) (hp : p < 6) (hw : 0 ≤ w.toInt) (h3 : 1 ≤ (A 1 3).toInt ∧ (A 1 3).toInt ≤ 32) : GX (qa_change A p w) C t := by
  refine ⟨GQ_change h.1 hp hw h3, GM_A h.2 (fun q hq => ?_) (by rw [qa_change_2 hp (by omega)]; exact Int.le_refl _)⟩
  by_cases e : q = p
  · subst e
    exact ⟨qa_change_p hp (by omega), qa_change_p hp (by omega), qa_change_p hp (by omega), qa_change_p hp (by omega)⟩
  · rw [qa_change_c (by omega) (by omega) (by omega) (by omega)]
    exact ⟨rfl, rfl, rfl, rfl⟩
theorem GX_eq {A C : ST} {t p : Nat} {e : Int32} (h : GX A C t) (hp : p < 6) (he : On e.toInt (A (12 + p) 1).toInt (A (12 + p) 2).toInt) : GX (zUp A (12 + p) 5 e) C t := ⟨GQ_c h.1 (fun k _ => q_un (by omega)), GM_edge h.2 hp he⟩
theorem GX_ask {A C : ST} {t s p : Nat} (h : GX A C t) (g : Gd A C s) (hp : p < 6) (hn : ¬ A (12 + p) 0 = -1) : GX (qa_ask A p).2 C t := by
  have htb := GT_b g.1.1
  obtain ⟨a1, a2, a3, a4, a5, a6, a7, a8, a9, a10, a11, a12, a13⟩ := g.1.2.2.1 p hp hn
  unfold qa_ask
  by_cases h1 : A (12 + p) 4 = 0
  · rw [if_pos h1]
    by_cases h2 : A 1 1 ≤ A (12 + p) 3
    · rw [if_pos h2]
      refine GX_eq (GX_chg h hp (by omega) (by omega)) hp ?_
      rw [qa_change_p hp (by omega)]
      exact On_self _ _
    · rw [if_neg h2]; exact h
  · rw [if_neg h1]
    by_cases h2 : A (12 + p) 1 = A (12 + p) 6
    · rw [if_pos h2]
      have e2 : (2 : Int32).toInt = 2 := by decide
      exact GX_chg h hp (by rw [i_mul (by rw [e2]; omega) (by rw [e2]; omega), e2]; omega) (by omega)
    · rw [if_neg h2]
      by_cases h3 : qa_beyond A p (A (12 + p) 1) = true
      · rw [if_pos h3]; exact h
      · rw [if_neg h3]
        exact GX_eq h hp (On_self _ _)
theorem GX_goes {A C : ST} {t s p : Nat} {x : Int32} (h : GX A C t) (g : Gd A C s) (hs : s < 1073741000) (ht : t < 800000000) (hx : XIN C x) (hp : p < 6) (hn : ¬ A (12 + p) 0 = -1) (hst : ¬ A (12 + p) 2 = 0) : GX (qa_goes A C p x).1 (qa_goes A C p x).2 (t + 65) := by
  obtain ⟨a1, a2, a3, a4, a5, a6⟩ := ask_ok g hp hn hst
  have h1 := GX_ask h g hp hn
  unfold qa_goes
  by_cases c : (qa_ask A p).1 = true
  · rw [if_pos c]
    exact GX_batch h1 a1 hs ht hx hp (by rw [a3 p 0 hp (by omega) (by omega)]; exact hn) (by rw [a3 p 2 hp (by omega) (by omega)]; exact hst)
  · rw [if_neg c]
    exact GX_mono h1 (by omega)
theorem GX_0 {A C : ST} {t k : Nat} {v : Int32} (h : GX A C t) : GX (zUp A 0 k v) C t := ⟨GQ_c h.1 (fun k _ => q_un (by omega)), GM_o h.2 (by omega) (by omega)⟩
theorem GX_step {A C : ST} {t p : Nat} {x : Int32} (h : GX A C t) (hp : p < 6) (hx : x.toInt = (A (12 + p) 1).toInt + (A (12 + p) 2).toInt) : GX (qa_stepA A p x) C t := by
  unfold qa_stepA
  refine ⟨GQ_c h.1 (fun k _ => by rw [q_un (by omega), q_un (by omega)]), GM_o ?_ (by omega) (by omega)⟩
  refine ⟨fun q hq hn => ?_, fun b q hb hq hc hn ho => ?_, fun b hb hc => ?_⟩
  · by_cases g : q = p
    · subst g
      rw [q_un (by omega)] at hn
      rw [q_un (show 12 + q ≠ 12 + q ∨ 5 ≠ 1 by omega), q_ue rfl rfl, q_un (show 12 + q ≠ 12 + q ∨ 2 ≠ 1 by omega), hx]
      exact On_last (h.2.1 q hq hn)
    · rw [q_uc (by omega)] at hn ⊢
      exact h.2.1 q hq hn
  · by_cases g : q = p
    · subst g
      rw [q_un (by omega)] at ho
      rw [q_ue rfl rfl, q_un (show 12 + q ≠ 12 + q ∨ 2 ≠ 1 by omega), hx]
      exact On_last (h.2.2.1 b q hb hq hc hn ho)
    · rw [q_uc (by omega)] at ho ⊢
      exact h.2.2.1 b q hb hq hc hn ho
  · rw [q_un (by omega)]
    exact h.2.2.2 b hb hc
theorem GX_pair {A C : ST} {t s p : Nat} {x : Int32} (h : GX A C t) (g : Gd A C s) (hp : p < 6) (hn0 : ¬ A (12 + p) 0 = -1) (hz : A (12 + p) 2 = 0) (hx : (x - A (12 + p) 1).toInt = x.toInt - (A (12 + p) 1).toInt) : GX (qa_pairA A p x) C t := by
  have z0 : (0 : Int32).toInt = 0 := by decide
  unfold qa_pairA
  refine ⟨GQ_c h.1 (fun k _ => by rw [q_un (by omega), q_un (by omega), q_un (by omega)]), ?_⟩
  refine ⟨fun q hq hn => ?_, fun b q hb hq hc hn ho => ?_, fun b hb hc => ?_⟩
  · by_cases e : q = p
    · subst e
      have he := h.2.1 q hq hn0
      rw [hz, z0] at he
      obtain ⟨k, hk⟩ := he
      rw [Int.mul_zero] at hk
      rw [q_un (show 12 + q ≠ 12 + q ∨ 5 ≠ 1 by omega), q_un (show 12 + q ≠ 12 + q ∨ 5 ≠ 3 by omega), q_un (show 12 + q ≠ 12 + q ∨ 5 ≠ 2 by omega), q_ue rfl rfl, q_un (show 12 + q ≠ 12 + q ∨ 2 ≠ 1 by omega), q_un (show 12 + q ≠ 12 + q ∨ 2 ≠ 3 by omega), q_ue rfl rfl, hx]
      exact ⟨-1, by rw [Int.neg_mul, Int.one_mul]; omega⟩
    · rw [q_uc (by omega), q_uc (by omega), q_uc (by omega)] at hn ⊢
      exact h.2.1 q hq hn
  · by_cases e : q = p
    · subst e
      rw [q_un (by omega), q_un (by omega), q_un (by omega)] at ho
      exact absurd hz (g.2.2 b q hb hq hc hn ho)
    · rw [q_uc (by omega), q_uc (by omega), q_uc (by omega)] at ho ⊢
      exact h.2.2.1 b q hb hq hc hn ho
  · rw [q_un (by omega), q_un (by omega), q_un (by omega)]
    exact h.2.2.2 b hb hc
theorem GX_begin {A C : ST} {t s p : Nat} {x : Int32} (h : GX A C t) (g : Gd A C s) (ht : t < 900000000) (hp : p < 6) : GX (qa_begin A p x) C (t + 1) := by
  have e1 : (1 : Int32).toInt = 1 := by decide
  have h14 := h.1 14 (by omega)
  refine ⟨GQ_eq h.1 (j := 14) (by omega) (fun k _ hk => begin_2 hk) ?_, fun q hq hn => ?_, fun b q hb hq hc hn ho => ?_, fun b hb hc => ?_⟩
  · rw [begin_14, i_add (by rw [e1]; omega) (by rw [e1]; omega), e1]
    omega
  · by_cases e : q = p
    · subst e
      rw [begin_p, begin_p, begin_p]
      exact On_self _ _
    · rw [begin_q (by omega) (by omega)] at hn ⊢
      exact h.2.1 q hq hn
  · by_cases e : q = p
    · subst e
      rw [begin_p, if_pos rfl] at ho
      have := (g.2.1.2.1 b hb hc).2.2.2.2.2.2.1
      rw [ho] at this
      omega
    · rw [begin_q (by omega) (by omega)] at ho ⊢
      exact h.2.2.1 b q hb hq hc hn ho
  · rw [begin_2 (by omega)]
    exact h.2.2.2 b hb hc
theorem GX_find {A C : ST} {t s b : Nat} (h : GX A C t) (g : Gd A C s) (hs : s < 1073741824) (ht : t < 900000000) (hb : b < 10000) (h2 : (b : Int) < (A 1 7).toInt) : GX (qa_find A (nI b)).2.2 C (t + 1) := by
  have htb := GT_b g.1.1
  have hlt := find_p (A := A) (x := nI b) (by omega)
  have e0 : (nI b).toInt = b := nI_toInt (by omega)
  have g9 : ∀ v : Int32, Gd (zUp A 0 9 v) C s := fun v => Gd_o g (by omega)
  unfold qa_find at *
  cases h1 : qa_stepping A (nI b) 6 0 none with
  | some p =>
    rw [h1] at hlt
    dsimp only at hlt ⊢
    obtain ⟨a1, a2, a3, a4⟩ := qa_stepping_some (f := none) (fun p q => by cases q) (by omega) h1
    obtain ⟨c1, c2, c3, c4, c5, c6, -⟩ := g.1.2.2.1 p hlt a2
    refine GX_mono (GX_step (GX_0 h) hlt ?_) (by omega)
    rw [q_uc (by omega), ← a4, i_add (by omega) (by omega)]
  | none =>
    rw [h1] at hlt
    dsimp only at hlt ⊢
    cases hl : qa_lastAt A (nI b) with
    | some p =>
      dsimp only
      exact GX_mono (GX_0 h) (by omega)
    | none =>
      rw [hl] at hlt
      dsimp only at hlt ⊢
      cases hr : qa_pairing A (nI b) 6 0 none (A 1 4 + 1) with
      | some p =>
        rw [hr] at hlt
        dsimp only at hlt ⊢
        obtain ⟨a1, a2, a3, a4⟩ := qa_pairing_some (f := none) (fun p q => by cases q) (by rw [i_le]; omega) (by omega) hr
        obtain ⟨c1, c2, c3, c4, -⟩ := g.1.2.2.1 p hlt a2
        refine GX_mono (GX_pair (GX_0 h) (g9 _) hlt (by rw [q_uc (by omega)]; exact a2) (by rw [q_uc (by omega)]; exact a3) ?_) (by omega)
        rw [q_uc (by omega), i_sub (by omega) (by omega)]
      | none =>
        rw [hr] at hlt
        dsimp only at hlt ⊢
        exact GX_begin (GX_0 h) (g9 _) ht hlt
theorem GX_join {p : Nat} (hp : p < 6) {C : ST} : ∀ (m q : Nat) {A : ST} {t : Nat}, q + m ≤ 6 → t + m < 900000000 → GX A C t → GX (qa_join p m q A) C (t + m) := by
  intro m
  induction m with
  | zero => intro q A t _ _ h; exact h
  | succ m ih =>
    intro q A t hq ht h
    have h19 : GX (zUp A 2 19 (A 2 19 + 1)) C (t + 1) := ⟨GQ_inc h.1 (by omega) (by omega), GM_o h.2 (by omega) (by omega)⟩
    have lv : ∀ {A : ST} {r : Nat}, r < 6 → GX A C (t + 1) → GX (zUp A (12 + r) 0 (-1)) C (t + 1) := fun hr h => ⟨GQ_c h.1 (fun k _ => q_un (by omega)), GM_lv h.2 hr⟩
    rw [qa_join]
    split
    · exact GX_mono h (by omega)
    · split
      · exact GX_mono (ih (q + 1) (by omega) (by omega) h) (by omega)
      · split
        · exact GX_mono (ih (q + 1) (by omega) (by omega) (GX_0 (lv hp h19))) (by omega)
        · exact GX_mono (ih (q + 1) (by omega) (by omega) (lv (by omega) h19)) (by omega)
theorem GX_hit {A C : ST} {t s b : Nat} (h : GX A C t) (g : Gd A C s) (ht : t < 900000000) (hb : b < 10000) (hc : C b 0 = 1) (h4 : (C b 4).toInt ≤ (A 2 0 - 1).toInt) (h40 : (A 2 0 - 1).toInt ≤ (A 2 0).toInt) : GX (qa_hit A C b).1 (qa_hit A C b).2 (t + 9) := by
  have htb := GT_b g.1.1
  have e1 : (1 : Int32).toInt = 1 := by decide
  have z0 : (0 : Int32).toInt = 0 := by decide
  have ho : ∀ p, qa_streamOf A (C b 3) = some p → p < 6 ∧ ¬ A (12 + p) 0 = -1 := fun p q => by
    obtain ⟨a1, a2, a3⟩ := qa_streamOf_lt q
    exact ⟨a1, by rw [a2]; exact a3⟩
  have hC4 := h.2.2.2 b hb hc
  have hA0 := h.1 0 (by omega)
  have hl : (qa_left A C b (A 2 0 - 1)).toInt ≤ 8 ∧ 0 ≤ (qa_left A C b (A 2 0 - 1)).toInt := by
    unfold qa_left
    split
    · rw [z0]; omega
    · have es : (A 2 0 - 1 - C b 4).toInt = (A 2 0 - 1).toInt - (C b 4).toInt := i_sub (by omega) (by omega)
      have es2 : (A 1 9 - (A 2 0 - 1 - C b 4)).toInt = (A 1 9).toInt - ((A 2 0 - 1).toInt - (C b 4).toInt) := by rw [i_sub (by rw [es]; omega) (by rw [es]; omega), es]
      split
      · rename_i w
        rw [i_lt, z0, es2] at w
        rw [es2]; omega
      · rw [z0]; omega
  have h1 : GX (qa_hitA A C b) C (t + 1) := by
    have i1 : GX (zUp A 2 1 (A 2 1 + 1)) C (t + 1) := ⟨GQ_inc h.1 (by omega) (by omega), GM_o h.2 (by omega) (by omega)⟩
    have i4 : GX (zUp (zUp A 2 1 (A 2 1 + 1)) 2 4 (A 2 4 + 1)) C (t + 1) := by
      have h4' := h.1 4 (by omega)
      refine ⟨GQ_eq i1.1 (j := 4) (Nat.le_refl _) (fun k _ hk => q_un (by omega)) ?_, GM_o i1.2 (by omega) (by omega)⟩
      rw [q_ue rfl rfl, i_add (by rw [e1]; omega) (by rw [e1]; omega), e1]
      omega
    unfold qa_hitA
    by_cases c5 : C b 5 = 1
    · rw [if_pos c5]
      cases hq : qa_streamOf A (C b 3) with
      | none => exact i4
      | some p =>
        have hp := (ho p hq).1
        exact ⟨GQ_c i4.1 (fun k _ => q_un (by omega)), GM_o i4.2 (by omega) (by omega)⟩
    · rw [if_neg c5]
      exact i1
  have h1A : qa_hitA A C b 1 = A 1 := hitA_c (by omega) (by omega)
  have h1p : ∀ p, p < 6 → qa_hitA A C b (12 + p) 4 = A (12 + p) 4 := fun p hp => hitA_p hp (by omega)
  unfold qa_hit
  dsimp only
  generalize qa_left A C b (A 2 0 - 1) = left at *
  have hlate : GX (qa_lateA (qa_hitA A C b) (qa_streamOf A (C b 3)) left) C (t + 9) := by
    generalize qa_hitA A C b = B at *
    unfold qa_lateA
    by_cases cl : left ≤ 0
    · rw [if_pos cl]
      exact GX_mono h1 (by omega)
    · rw [if_neg cl]
      have h33 := h1.1 33 (by omega)
      have h32 := GQ_inc h1.1 (k := 32) (by omega) (by omega)
      have i33 : GX (zUp (zUp B 2 32 (B 2 32 + 1)) 2 33 (B 2 33 + left)) C (t + 9) := by
        refine ⟨GQ_eq h32 (j := 33) (by omega) (fun k _ hk => q_un (by omega)) ?_, GM_o (GM_o h1.2 (by omega) (by omega)) (by omega) (by omega)⟩
        rw [q_ue rfl rfl, i_add (by omega) (by omega)]
        omega
      cases hq : qa_streamOf A (C b 3) with
      | none => exact i33
      | some p =>
        obtain ⟨hp, hn⟩ := ho p hq
        obtain ⟨a1, a2, a3, a4, a5, a6, a7, a8, a9, a10, -⟩ := g.1.2.2.1 p hp hn
        have e2 : (2 : Int32).toInt = 2 := by decide
        dsimp only
        refine GX_chg i33 hp ?_ (by rw [q_uc (by omega), q_uc (by omega), h1A]; omega)
        rw [h1p p hp, i_mul (by rw [e2]; omega) (by rw [e2]; omega), e2]
        omega
  refine ⟨hlate.1, GM_C hlate.2 (fun c hcc hw => ?_)⟩
  by_cases e : c = b
  · subst e
    unfold qa_touch
    simp [hc]
  · have e : ∀ k, qa_touch C b c k = C c k := fun k => by
      unfold qa_touch
      rw [if_neg e, if_neg (by omega)]
    rw [e] at hw
    rw [e, e]
    exact ⟨hw, rfl, rfl⟩
theorem GX_admit {A C : ST} {t s b : Nat} (h : GX A C t) (g : Gd A C s) (hs : s < 1073741800) (ht : t < 900000000) (hb : b < 10000) (hc : ¬ C b 0 = 1) : GX (qa_admit A C b).1 (qa_admit A C b).2 (t + 2) := by
  have g2 : Gd (zUp A 2 2 (A 2 2 + 1)) C (s + 1) := Gd_A g (GA_inc g.1 (by omega) (by omega)) (by omega) (q_uc (by omega)) (by rw [q_un (by omega)]; omega) (fun q hq => ⟨q_un (by omega), q_un (by omega)⟩)
  have h2 : GX (zUp A 2 2 (A 2 2 + 1)) C (t + 1) := ⟨GQ_inc h.1 (by omega) (by omega), GM_o h.2 (by omega) (by omega)⟩
  have hr := GX_room (x := nI b) h2 g2 (by omega)
  unfold qa_admit
  dsimp only
  exact ⟨hr.1, GM_put hr.2 (hr.1 0 (by omega)).1 (fun p _ hn _ => absurd rfl hn)⟩
theorem GX_got {A C : ST} {t s b : Nat} (h : GX A C t) (g : Gd A C s) (hs : s < 1073741700) (ht : t < 800000000) (hb : b < 10000) : GX (qa_got A C b).1 (qa_got A C b).2 (t + 10) := by
  have e1 : (1 : Int32).toInt = 1 := by decide
  have h0 := h.1 0 (by omega)
  have ea : (A 2 0 + 1).toInt = (A 2 0).toInt + 1 := by rw [i_add (by rw [e1]; omega) (by rw [e1]; omega), e1]
  have eb : A 2 0 + 1 - 1 = A 2 0 := i_add1sub1 _
  have g1 : Gd (zUp A 2 0 (A 2 0 + 1)) C (s + 1) := Gd_A g (GA_inc g.1 (by omega) (by omega)) (by omega) (q_uc (by omega)) (by rw [q_un (by omega)]; omega) (fun q hq => ⟨q_un (by omega), q_un (by omega)⟩)
  have h1 : GX (zUp A 2 0 (A 2 0 + 1)) C (t + 1) := ⟨GQ_inc h.1 (by omega) (by omega), GM_A h.2 (fun p hp => ⟨q_un (by omega), q_un (by omega), q_un (by omega), q_un (by omega)⟩) (by rw [q_ue rfl rfl, ea]; omega)⟩
  unfold qa_got
  by_cases hc : C b 0 = 1
  · rw [if_pos hc]
    have h4 := h.2.2.2 b hb hc
    exact GX_mono (GX_hit h1 g1 (by omega) hb hc (by rw [q_ue rfl rfl, eb]; omega) (by rw [q_ue rfl rfl, eb, ea]; omega)) (by omega)
  · rw [if_neg hc]
    exact GX_mono (GX_admit h1 g1 (by omega) (by omega) hb hc) (by omega)
theorem GX_clr {A C : ST} {t : Nat} (h : GX A C t) : GX (qa_clr A) C t := by
  unfold qa_clr
  exact GX_0 (GX_0 h)
theorem GX_rest {A C H : ST} {t s b : Nat} (h : GX A C t) (g : Gd A C s) (hs : s < 1073740000) (ht : t < 700000000) (hx : XIN C (nI b)) (hb : b < 10000) (h2 : (b : Int) < (A 1 7).toInt) : GX (qa_rest A C H b).2.1 (qa_rest A C H b).2.2.1 (t + 72) := by
  obtain ⟨f1, f2, f3, f4, f5, f6, f7, f8⟩ := find_ok g (by omega) hb h2
  have hf := GX_find h g (by omega) (by omega) hb h2
  unfold qa_rest
  dsimp only
  have u7 : ∀ {A C : ST} {p : Nat} {v : Int32} {t : Nat}, p < 6 → GX A C t → GX (zUp A (12 + p) 7 v) C t := fun hp h => ⟨GQ_c h.1 (fun k _ => q_un (by omega)), GM_o h.2 (by omega) (by omega)⟩
  by_cases e : (qa_find A (nI b)).1 = 1 ∨ (qa_find A (nI b)).1 = 3
  · rw [if_pos e]
    have hg := GX_goes hf f1 (by omega) (by omega) hx f2 f3 (f5 e)
    exact GX_mono (GX_join f2 6 0 (by omega) (by omega) (u7 f2 hg)) (by omega)
  · rw [if_neg e]
    exact GX_mono (GX_join f2 6 0 (by omega) (by omega) (u7 f2 hf)) (by omega)
theorem GX_take {A C H : ST} {t s b : Nat} (h : GX A C t) (g : Gd A C s) (hs : s < 1073730000) (ht : t < 600000000) (hb : b < 10000) (h2 : (b : Int) < (A 1 7).toInt) : GX (qa_take A C H b).2.1 (qa_take A C H b).2.2.1 (t + 101) := by
  have e1 : qa_clr A 1 = A 1 := by unfold qa_clr; simp -implicitDefEqProofs (disch := first | assumption | omega) only [q_uc]
  have e2 : qa_clr A 2 = A 2 := by unfold qa_clr; simp -implicitDefEqProofs (disch := first | assumption | omega) only [q_uc]
  have hc := GX_clr h
  unfold qa_take
  by_cases e : C b 0 = 1 ∨ 0 ≤ A 26 b
  · rw [if_pos e]
    obtain ⟨g1, g2, g3, g4, g5, g6, g7⟩ := got_ok (clr_ok g) (by omega) hb (by rw [e1]; exact h2)
    exact GX_mono (GX_rest (GX_got hc (clr_ok g) (by omega) (by omega) hb) g1 (by omega) (by omega) g2 hb (by rw [g3, e1]; exact h2)) (by omega)
  · rw [if_neg e]
    dsimp only
    have := GQ_inc hc.1 (k := 3) (by omega) (by omega)
    rw [e2] at this
    exact ⟨GQ_mono this (by omega), GM_o hc.2 (by omega) (by omega)⟩
theorem GX_lv {A C : ST} {t p : Nat} (h : GX A C t) (hp : p < 6) : GX (zUp A (12 + p) 0 (-1)) C t := ⟨GQ_c h.1 (fun k _ => q_un (by omega)), GM_lv h.2 hp⟩
theorem GX_26 {A C : ST} {t b : Nat} {v : Int32} (h : GX A C t) : GX (zUp A 26 b v) C t := ⟨GQ_c h.1 (fun k _ => q_un (by omega)), GM_o h.2 (by omega) (by omega)⟩
theorem GX_drop {A C : ST} {t s b : Nat} (h : GX A C t) (g : Gd A C s) (ht : t < 900000000) : GX (if C b 5 = 1 then qa_waste A (C b 3) else A) (zUp C b 0 0) (t + 1) := by
  by_cases e : C b 5 = 1
  · rw [if_pos e]
    have := GX_waste (num := C b 3) h g.1 (by omega)
    exact ⟨this.1, GM_out this.2 _⟩
  · rw [if_neg e]
    exact ⟨GQ_mono h.1 (by omega), GM_out h.2 _⟩
theorem GX_stride {A C : ST} {t s p : Nat} {v : Int32} (h : GX A C t) (g : Gd A C s) (hp : p < 6) (hz : A (12 + p) 2 = 0) (he : A (12 + p) 5 = A (12 + p) 1) : GX (zUp A (12 + p) 2 v) C t := by
  refine ⟨GQ_c h.1 (fun k _ => q_un (by omega)), fun q hq hn => ?_, fun b q hb hq hc hn ho => ?_, fun b hb hc => ?_⟩
  · by_cases e : q = p
    · subst e
      rw [q_un (show 12 + q ≠ 12 + q ∨ 5 ≠ 2 by omega), q_un (show 12 + q ≠ 12 + q ∨ 1 ≠ 2 by omega), he]
      exact On_self _ _
    · rw [q_uc (by omega)] at hn ⊢
      exact h.2.1 q hq hn
  · by_cases e : q = p
    · subst e
      rw [q_un (by omega)] at ho
      exact absurd hz (g.2.2 b q hb hq hc hn ho)
    · rw [q_uc (by omega)] at ho ⊢
      exact h.2.2.1 b q hb hq hc hn ho
  · rw [q_un (by omega)]
    exact h.2.2.2 b hb hc
