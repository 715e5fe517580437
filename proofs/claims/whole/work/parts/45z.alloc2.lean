/-! CONSTRUCTORS, second part: calls, the order of the cells, a copy out of a static row -/
theorem vP_iff {D : va_G} {cl : List vw_C} {ws : va_W} {H : Heap} : va_P D cl ws H ↔ ∀ q ∈ ws, va_at D cl q H := by
  constructor
  · intro h q hq
    obtain ⟨k, hk⟩ := List.getElem?_of_mem hq
    exact h k q hk
  · intro h k q hk
    exact h q (List.mem_of_getElem? hk)
theorem vD_iff {A : Nat → Prop} {ws : va_W} : va_D A ws ↔ (ws.map Prod.fst).Nodup ∧ ∀ q ∈ ws, A q.1 := by
  constructor
  · intro h
    refine ⟨?_, fun q hq => ?_⟩
    · rw [List.nodup_iff_pairwise_ne, List.pairwise_iff_getElem]
      intro i j hi hj hij he
      simp only [List.length_map] at hi hj
      simp only [List.getElem_map] at he
      have := h.1 i j _ _ (List.getElem?_eq_getElem hi) (List.getElem?_eq_getElem hj) he
      omega
    · obtain ⟨k, hk⟩ := List.getElem?_of_mem hq
      exact h.2 k q hk
  · intro h
    refine ⟨fun i j p q hi hj hpq => ?_, fun k q hk => h.2 q (List.mem_of_getElem? hk)⟩
    have h1 := h.1
    rw [List.nodup_iff_pairwise_ne, List.pairwise_iff_getElem] at h1
    obtain ⟨li, ei⟩ := List.getElem?_eq_some_iff.mp hi
    obtain ⟨lj, ej⟩ := List.getElem?_eq_some_iff.mp hj
    rcases Nat.lt_trichotomy i j with c | c | c
    · exact ((h1 i j (by simpa using li) (by simpa using lj) c) (by simp only [List.getElem_map]; rw [ei, ej]; exact hpq)).elim
    · exact c
    · exact ((h1 j i (by simpa using lj) (by simpa using li) c) (by simp only [List.getElem_map]; rw [ei, ej]; exact hpq.symm)).elim
theorem vA_iff {ws : va_W} {sz q : Nat} : va_A ws sz q ↔ (∃ e, (q, e) ∈ ws) ∨ sz ≤ q := by
  constructor
  · rintro (⟨k, e, h⟩ | h)
    · exact Or.inl ⟨e, List.mem_of_getElem? h⟩
    · exact Or.inr h
  · rintro (⟨e, h⟩ | h)
    · obtain ⟨k, hk⟩ := List.getElem?_of_mem h
      exact Or.inl ⟨k, e, hk⟩
    · exact Or.inr h
theorem vP_perm {D : va_G} {cl : List vw_C} {a b : va_W} {H : Heap} (hp : a.Perm b) (h : va_P D cl a H) : va_P D cl b H := vP_iff.mpr (fun q hq => vP_iff.mp h q (hp.mem_iff.mpr hq))
theorem vD_perm {A : Nat → Prop} {a b : va_W} (hp : a.Perm b) (h : va_D A a) : va_D A b := vD_iff.mpr ⟨(hp.map Prod.fst).nodup_iff.mp (vD_iff.mp h).1, fun q hq => (vD_iff.mp h).2 q (hp.mem_iff.mpr hq)⟩
theorem vP_left {D : va_G} {cl : List vw_C} {a b : va_W} {H : Heap} (h : va_P D cl (a ++ b) H) : va_P D cl a H := vP_iff.mpr (fun q hq => vP_iff.mp h q (List.mem_append_left _ hq))
theorem vD_left {A : Nat → Prop} {a b : va_W} (h : va_D A (a ++ b)) : va_D A a := vD_iff.mpr ⟨by have h1 := (vD_iff.mp h).1; rw [List.map_append] at h1; exact (List.nodup_append.mp h1).1, fun q hq => (vD_iff.mp h).2 q (List.mem_append_left _ hq)⟩
theorem v_join {A : Nat → Prop} {D : va_G} {cl : List vw_C} {wc wr w1 : va_W} {H H1 : Heap} (hP : va_P D cl (wc ++ wr) H) (hD : va_D A (wc ++ wr)) (hk : ∀ q : Nat, q < H.size → ¬ va_A wc H.size q → H1[q]? = H[q]?) (hF : ∀ q, va_A wc H.size q → A q) (hP1 : va_P D cl w1 H1) (hD1 : va_D (va_A wc H.size) w1) : va_P D cl (w1 ++ wr) H1 ∧ va_D A (w1 ++ wr) := by
  obtain ⟨hn, hA⟩ := vD_iff.mp hD
  rw [List.map_append, List.nodup_append] at hn
  obtain ⟨hn1, hA1⟩ := vD_iff.mp hD1
  have apart : ∀ q ∈ wr, q.1 < H.size ∧ ¬ va_A wc H.size q.1 := by
    intro q hq
    have hl := (vP_iff.mp hP q (List.mem_append_right _ hq)).lt
    refine ⟨hl, fun h => ?_⟩
    rcases vA_iff.mp h with ⟨e, h⟩ | h
    · exact hn.2.2 q.1 (List.mem_map.mpr ⟨_, h, rfl⟩) q.1 (List.mem_map.mpr ⟨_, hq, rfl⟩) rfl
    · omega
  constructor
  · refine vP_iff.mpr (fun q hq => ?_)
    rcases List.mem_append.mp hq with h | h
    · exact vP_iff.mp hP1 q h
    · exact (vP_iff.mp hP q (List.mem_append_right _ h)).kept (hk q.1 (apart q h).1 (apart q h).2)
  · refine vD_iff.mpr ⟨?_, fun q hq => ?_⟩
    · rw [List.map_append, List.nodup_append]
      refine ⟨hn1, hn.2.1, fun a ha b hb hab => ?_⟩
      obtain ⟨p, hp, rfl⟩ := List.mem_map.mp ha
      obtain ⟨q, hq, rfl⟩ := List.mem_map.mp hb
      exact (apart q hq).2 (hab ▸ hA1 p hp)
    · rcases List.mem_append.mp hq with h | h
      · exact hF _ (hA1 q h)
      · exact hA q (List.mem_append_right _ h)
section ZA2
variable {X : zX} {nL : Nat} {wd : zWd} {Q : State → Prop} {k n pc : Nat} {L : List (Nat × Value)} {st rest : List Value} {ws : va_W} {cc : ByteArray} {own : String} {ret : Option FieldType} {rm : Room}
/-- the cells in another order -/
theorem za_pick (js : List Nat) (ws' : va_W) (h1 : js.map (fun i => ws[i]?) = ws'.map some) (h2 : va_nd js = true) (kk : zA X nL Q k n pc L st ws') : zA X nL Q k n pc L st ws := fun H locs ls hl hP hD hS => kk H locs ls hl (hP.sub js (zmap_filter h1)) (hD.sub js h2 h1) hS
/-- a constructor is called: its cells are the last ones, the others stay -/
theorem za_backC (B : zC X nL wd cc own ret rm) {wc wr : va_W} {post : (Nat → Nat) → va_W} {mc ms : Nat} {a : Array Value} {H : Heap} {locs : List Loc} {ls : Array Slot}
    (hr : va_Run X.1 X.2.1 X.2.2.1 X.2.2.2.1.1 X.2.2.2.2.1 X.2.2.2.2.2.1 X.2.2.2.2.2.2.1 X.2.2.2.2.2.2.2.1 X.2.2.2.2.2.2.2.2.1 X.2.2.2.2.2.2.2.2.2.1 H locs k n mc ms (F0 X.2.2.2.2.2.1 pc ls st) rest (zQc X.2.2.2.2.2.2.2.2.2.2.1 wd.2.1 post (va_A wc H.size) a) (va_A wc H.size))
    (hl : lv_has ls nL L) (hP : va_P X.2.2.2.2.2.2.2.2.2.2.1 vwCl (wr ++ wc) H) (hD : va_D X.2.2.2.2.2.2.2.2.2.2.2 (wr ++ wc)) (hS : va_S X.2.2.2.2.2.2.2.2.2.2.2 X.2.2.2.2.1.heap H locs) (kk : ∀ f : Nat → Nat, zA X nL Q (k + mc) (n + ms) (pc + 3) L rest (wr ++ post f)) :
    W X.1 X.2.1 X.2.2.1 X.2.2.2.1.1 X.2.2.2.2.1 X.2.2.2.2.2.1 X.2.2.2.2.2.2.1 X.2.2.2.2.2.2.2.1 X.2.2.2.2.2.2.2.2.1 X.2.2.2.2.2.2.2.2.2.1 H locs k n Q (F0 X.2.2.2.2.2.1 pc ls st) := by
  intro T hT Xs
  obtain ⟨v', st₀, t, T', L1, h0, X', hL1, e1, e2, ⟨hv, f, hP1, hK1, hD1, hz, hk⟩, stp⟩ := hr T hT Xs
  have hv2 : v' = none := by injection hv
  subst hv2
  have hP0 := vP_perm List.perm_append_comm hP
  have hD0 := vD_perm List.perm_append_comm hD
  have hF : ∀ q, va_A wc H.size q → X.2.2.2.2.2.2.2.2.2.2.2 q := by
    intro q h
    rcases vA_iff.mp h with ⟨e, h⟩ | h
    · exact (vD_iff.mp hD0).2 (q, e) (List.mem_append_left _ h)
    · exact B.2.2.2.2.2.2.1 q (Nat.le_trans hS.1 h)
  rw [h0] at hz hk
  rw [← e1] at hP1
  obtain ⟨jP, jD⟩ := v_join hP0 hD0 (fun q h1 h2 => by rw [e1]; exact hk q h1 h2) hF hP1 hD1
  obtain ⟨t2, a1, b1⟩ := kk f T'.heap (locs ++ L1) ls hl (vP_perm List.perm_append_comm jP) (vD_perm List.perm_append_comm jD)
    ⟨Nat.le_trans hS.1 (by rw [e1]; exact hz), fun q h1 h2 => by rw [e1, hk q (Nat.lt_of_lt_of_le h1 hS.1) (fun zz => h2 (hF q zz))]; exact hS.2.1 q h1 h2, fun q hq => (List.mem_append.mp hq).elim (hS.2.2 q) (fun h => hF _ (hL1 q h))⟩ T' rfl X'
  exact ⟨t2, stp t2 a1, b1⟩
theorem za_preC (B : zC X nL wd cc own ret rm) {wc wr : va_W} {H : Heap} {locs : List Loc} (hP : va_P X.2.2.2.2.2.2.2.2.2.2.1 vwCl (wr ++ wc) H) (hD : va_D X.2.2.2.2.2.2.2.2.2.2.2 (wr ++ wc)) (hS : va_S X.2.2.2.2.2.2.2.2.2.2.2 X.2.2.2.2.1.heap H locs) (av : List Value) (U : State) (hU : U.heap = H) (hW : X.2.2.2.2.1.WarmedH U.vm) : va_Pc av (fun U => U.heap.size = H.size ∧ va_P X.2.2.2.2.2.2.2.2.2.2.1 vwCl wc U.heap ∧ va_K X.2.2.2.2.2.2.2.2.2.2.1 vwCl wd.2.1 U ∧ va_D (fun _ => True) wc ∧ wd.2.2 (va_A wc H.size) U U.heap) av.toArray U := by
  have hP0 := vP_perm List.perm_append_comm hP
  have hD0 := vD_perm List.perm_append_comm hD
  have hF : ∀ q, va_A wc H.size q → X.2.2.2.2.2.2.2.2.2.2.2 q := by
    intro q h
    rcases vA_iff.mp h with ⟨e, h⟩ | h
    · exact (vD_iff.mp hD0).2 (q, e) (List.mem_append_left _ h)
    · exact B.2.2.2.2.2.2.1 q (Nat.le_trans hS.1 h)
  have hsf := B.2.2.2.2.2.2.2.2.2.2.1
  refine ⟨rfl, by rw [hU], by rw [hU]; exact vP_left hP0, va_K.moved hW.alike B.2.2.2.2.2.1, (vD_left hD0).weaken (fun _ _ _ _ => trivial), ?_⟩
  rw [hU]
  exact hsf.2.2.2 _ _ _ _ hF (hsf.1 _ _ _ _ hW (hsf.2.2.1 _ _ _ _ hS.2.1 B.2.2.2.2.2.2.2.2.2.2.2))
theorem za_blind {wc : va_W} (hsf : zSF wd.2.2) {D : va_G} {av : List Value} {sz : Nat} : FrameBlind (va_Pc av (fun U => U.heap.size = sz ∧ va_P D vwCl wc U.heap ∧ va_K D vwCl wd.2.1 U ∧ va_D (fun _ => True) wc ∧ wd.2.2 (va_A wc sz) U U.heap)) := fun a U g mk q => by
  obtain ⟨q0, q1, qP, qK, qD, qF⟩ := q
  exact ⟨q0, q1, qP, va_K.moved (u := U) (U := U.calling g mk a) (Vm.Alike.refl U.vm) qK, qD, hsf.2.1 _ U (U.calling g mk a) _ rfl qF⟩
/-- new C(..): the constructor is no nest mate's private one -/
theorem za_callI (B : zC X nL wd cc own ret rm) {y : MethodName} {bytes : ByteArray} {maxL N idx b mc ms : Nat} {rm' : Room} {As : List Value} {wc wr : va_W} {post : (Nat → Nat) → va_W} (k1 : Cond.methodLink own idx y ∈ zTb) (k2 : Cond.instanceMethod y ∈ zTb) (k3 : Cond.initialized y.cls ∈ zTb) (k4 : Cond.code y bytes maxL none ∈ zTb) (k5 : y.cls ≠ "java/lang/invoke/MethodHandle" ∧ y.cls ≠ "java/lang/invoke/VarHandle" ∧ (parseMethodDescriptor y.desc).map (fun d => d.parameters.length) = some N) (k6 : y.name = "<init>") (hd : decode cc pc = .ok (.invokespecial idx, 3)) (hM : zMc X.2.1 X.2.2.2.2.2.2.2.2.2.2.1 wd y bytes maxL rm' (Value.ref b :: As) wc post mc ms) (hn : As.length = N) (hst : st = As.reverse ++ .ref b :: rest) (hrest : (rest.map fun v => v.category).sum ≤ 8) (hc : rm'.cells = mc) (hs : rm'.slots = ms) (hR : rm'.frames + 1 ≤ rm.frames ∧ 8 + (maxL + 11) + rm'.locals ≤ rm.locals) (hkn : k + mc ≤ rm.cells ∧ n + ms ≤ rm.slots) (kk : ∀ f : Nat → Nat, zA X nL Q (k + mc) (n + ms) (pc + 3) L rest (wr ++ post f)) : zA X nL Q k n pc L st (wr ++ wc) := fun H locs ls hl hP hD hS => by
  have hR2 : rm'.frames + 1 ≤ X.2.2.2.1.1.frames ∧ 8 + (maxL + 11) + rm'.locals ≤ X.2.2.2.1.1.locals := by rw [B.2.2.2.2.2.2.2.2.2.1.1]; exact hR
  have hX := B.2.2.2.2.1
  exact za_backC B (va_runI (As := As) (rest := rest) (Ts := zTb) ⟨B.1, B.2.1, B.2.2.1, B.2.2.2.1, hX⟩ (hM H.size) ⟨callB_of N hX (zGoodIn k4) rfl hc hs (hX _ k3) (hX _ k1) k5 hR2, k6, hX _ k2⟩ ⟨za_blind B.2.2.2.2.2.2.2.2.2.2.1, fun U hU hW => za_preC B hP hD hS (.ref b :: As) U hU hW⟩ rfl hn hl.1 hst (lv_room hrest) hd (by rw [B.2.2.2.2.2.2.2.2.2.1.1]; exact hkn)) hl hP hD hS kk
/-- new C(..): a nest mate's private constructor -/
theorem za_callIN (B : zC X nL wd cc own ret rm) {y : MethodName} {host : String} {bytes : ByteArray} {maxL N idx b mc ms : Nat} {rm' : Room} {As : List Value} {wc wr : va_W} {post : (Nat → Nat) → va_W} (k1 : va_Nw (.methodLinkNest own idx y host) X.2.2.2.2.1) (k2 : Cond.instanceMethod y ∈ zTb) (k3 : Cond.initialized y.cls ∈ zTb) (k4 : Cond.code y bytes maxL none ∈ zTb) (k5 : y.cls ≠ "java/lang/invoke/MethodHandle" ∧ y.cls ≠ "java/lang/invoke/VarHandle" ∧ (parseMethodDescriptor y.desc).map (fun d => d.parameters.length) = some N) (k6 : y.name = "<init>") (hd : decode cc pc = .ok (.invokespecial idx, 3)) (hM : zMc X.2.1 X.2.2.2.2.2.2.2.2.2.2.1 wd y bytes maxL rm' (Value.ref b :: As) wc post mc ms) (hn : As.length = N) (hst : st = As.reverse ++ .ref b :: rest) (hrest : (rest.map fun v => v.category).sum ≤ 8) (hc : rm'.cells = mc) (hs : rm'.slots = ms) (hR : rm'.frames + 1 ≤ rm.frames ∧ 8 + (maxL + 11) + rm'.locals ≤ rm.locals) (hkn : k + mc ≤ rm.cells ∧ n + ms ≤ rm.slots) (kk : ∀ f : Nat → Nat, zA X nL Q (k + mc) (n + ms) (pc + 3) L rest (wr ++ post f)) : zA X nL Q k n pc L st (wr ++ wc) := fun H locs ls hl hP hD hS => by
  have hR2 : rm'.frames + 1 ≤ X.2.2.2.1.1.frames ∧ 8 + (maxL + 11) + rm'.locals ≤ X.2.2.2.1.1.locals := by rw [B.2.2.2.2.2.2.2.2.2.1.1]; exact hR
  have hX := B.2.2.2.2.1
  exact za_backC B (va_runIN (As := As) (rest := rest) (Ts := zTb) ⟨B.1, B.2.1, B.2.2.1, B.2.2.2.1, hX⟩ (hM H.size) ⟨va_cnB N hX (zGoodIn k4) rfl hc hs k1 (hX _ k3) k5 hR2, k6, hX _ k2⟩ ⟨za_blind B.2.2.2.2.2.2.2.2.2.2.1, fun U hU hW => za_preC B hP hD hS (.ref b :: As) U hU hW⟩ rfl hn hl.1 hst (lv_room hrest) hd (by rw [B.2.2.2.2.2.2.2.2.2.1.1]; exact hkn)) hl hP hD hS kk
end ZA2
section ZA3
variable {X : zX} {nL : Nat} {wd : zWd} {Q : State → Prop} {k n pc : Nat} {L : List (Nat × Value)} {st : List Value} {ws : va_W} {cc : ByteArray} {own : String} {ret : Option FieldType} {rm : Room}
theorem za_clamp {z : Int32} (h : ¬ z < 0) : z.toInt = (z.toNatClampNeg : Int) := by
  have h0 : (0 : Int) ≤ z.toInt := by
    have h1 := Int32.le_iff_toInt_le.mp (Int32.not_lt.mp h)
    simpa using h1
  show z.toInt = ((z.toInt.toNat : Nat) : Int)
  omega
/-- System.arraycopy out of a static row of ints, from place 0 to place 0 -/
theorem za_copyS (B : zC X nL wd cc own ret rm) {idx b0 n0 q1 t1 a n1 : Nat} {c1 : ClassId} {f g : Nat → Int32} {z : Int32} (h1 : Cond.methodLink own idx arraycopyName ∈ zTb) (h2 : Cond.native arraycopyName ∈ zTb) (h3 : Cond.static arraycopyName ∈ zTb) (h4 : Cond.initialized "java/lang/System" ∈ zTb) (hT : va_T .int b0 n0 (fun j => .int (f j)) X.2.2.2.2.2.2.2.2.2.2.2 X.2.2.2.2.1 X.2.2.2.2.1.heap) (ha1 : ws[q1]? = some (a, .inl (c1, n1, .inl g))) (ht1 : wd.2.1[t1]? = some (c1, .int)) (hz : ¬ z < 0) (hz0 : z.toNatClampNeg ≤ n0) (hz1 : z.toNatClampNeg ≤ n1) (hfr : 1 ≤ rm.frames) (hlo : (st.map fun v => v.category).sum + (nativeFrameWords "java/lang/System" "arraycopy" 5 + 11) ≤ rm.locals) (ws' : va_W) (hg : ws.set q1 (a, .inl (c1, n1, .inl (va_cpy f g (0 : Int32).toNatClampNeg (0 : Int32).toNatClampNeg z.toNatClampNeg))) = ws') (hd : decode cc pc = .ok (.invokestatic idx, 3)) (kk : zA X nL Q k n (pc + 3) L st ws') : zA X nL Q k n pc L (.int z :: .int 0 :: .ref a :: .int 0 :: .ref b0 :: st) ws := fun H locs ls hl hP hD hS => by
  intro T hTT Xs
  have hX := B.2.2.2.2.1
  obtain ⟨cell, c1', c2', c3', c4', c5', c6', c7'⟩ := hT
  obtain ⟨hobj, k0, hk0, cm0, hkk0⟩ := c2'
  have hsrc : H[b0]? = some cell := by rw [hS.2.1 b0 (Array.getElem?_eq_some_iff.mp c1').1 c7']; exact c1'
  have hdst : H[a]? = some (vp_cell c1 (n1, .inl g)) := hP q1 _ ha1
  obtain ⟨-, k1, hk1, cm1, hkk1⟩ := (B.2.2.2.2.2.1.2 t1 _ ht1).1 n1 (fun j => .int (g j))
  have e0 : (0 : Int32).toInt = 0 := by decide
  have e0n : (0 : Int32).toNatClampNeg = 0 := by decide
  have ez := za_clamp hz
  have hel : ∀ j, j < n0 → cell.slots[j]? = some (.int (f j)) := c6'
  obtain ⟨vm', X', step⟩ := Xs.arraycopy B.1 B.2.2.2.1 (hX _ h1) (hX _ h2) (hX _ h3) (hX _ h4) (src := b0) (dst := a) (cs := cell) (cd := vp_cell c1 (n1, .inl g)) (srcPos := 0) (destPos := 0) (n := z) (by rw [hTT]; exact hsrc) (by rw [hTT]; exact hdst)
    hobj (fun _ h => by cases h) c3' (fun h => by cases h) hk0 hk1 hkk0 hkk1 (by simp [refKind]) (by decide) (by decide) hz
    (by rw [e0, ez]; omega)
    (by rw [e0, ez]; show ¬ _ > ((arrV c1 n1 (fun j => .int (g j))).slots.size : Int); rw [arrV_size]; omega)
    (fun _ _ i hi => by
      have e : cell.slots.getD ((0 : Int32).toNatClampNeg + i) .null = .int (f ((0 : Int32).toNatClampNeg + i)) := by
        rw [Array.getD_eq_getD_getElem?, hel _ (by rw [e0n]; omega)]
        rfl
      rw [e]
      exact ⟨rfl, trivial⟩)
    (g := F0 X.2.2.2.2.2.1 pc ls (.int z :: .int 0 :: .ref a :: .int 0 :: .ref b0 :: st)) rfl (by rw [B.2.2.1]; exact hl.1) (rest := st) rfl (by rw [B.2.1]; exact hd) (by rw [B.2.2.2.2.2.2.2.2.2.1.1]; exact hfr) (by rw [B.2.2.2.2.2.2.2.2.2.1.1]; show 2 * 0 + _ + _ ≤ _; omega)
  have e1 : copied cell (vp_cell c1 (n1, .inl g)) 0 0 z = vp_cell c1 (n1, .inl (va_cpy f g (0 : Int32).toNatClampNeg (0 : Int32).toNatClampNeg z.toNatClampNeg)) := va_copiedX (fun z => .int z) cell c1 f g hel (by rw [e0n]; omega)
  rw [e1] at X' step
  have hla : a < H.size := (Array.getElem?_eq_some_iff.mp hdst).1
  generalize hnew : vp_cell c1 (n1, .inl (va_cpy f g (0 : Int32).toNatClampNeg (0 : Int32).toNatClampNeg z.toNatClampNeg)) = cnew at X' step
  have hheap : ((T.setVm vm').setCell a cnew).heap = H.setIfInBounds a cnew := by rw [← hTT]; rfl
  have oq : ∀ q : Nat, q ≠ a → (H.setIfInBounds a cnew)[q]? = H[q]? := fun q hq => by simp [Array.getElem?_setIfInBounds, Ne.symm hq]
  have hPn : va_P X.2.2.2.2.2.2.2.2.2.2.1 vwCl ws' (H.setIfInBounds a cnew) := by
    rw [← hg]
    exact hP.set hD ha1 (show (H.setIfInBounds a cnew)[a]? = some _ by rw [← hnew]; simp [Array.getElem?_setIfInBounds, hla]) oq
  have hDn : va_D X.2.2.2.2.2.2.2.2.2.2.2 ws' := by rw [← hg]; exact hD.set ha1
  obtain ⟨t, a1, b1⟩ := kk _ _ ls hl hPn hDn ⟨by simp; exact hS.1, fun q g1 g2 => by
      rw [oq q (fun e => g2 (by rw [e]; exact hD.2 q1 _ ha1))]
      exact hS.2.1 q g1 g2, fun q hq => by
      rcases List.mem_append.mp hq with h | h
      · exact hS.2.2 q h
      · obtain ⟨w, -, hw⟩ := List.mem_map.mp h
        rw [← hw]
        exact hD.2 q1 _ ha1⟩ _ hheap X'
  exact ⟨t, step t a1, b1⟩
theorem za_getsN (B : zC X nL wd cc own ret rm) {C nm d host : String} {v : Value} {idx : Nat} (hZ : va_Z C nm d v X.2.2.2.2.2.2.2.2.2.2.2 X.2.2.2.2.1 X.2.2.2.2.1.heap) (hlink : va_Nw (.fieldLinkNest own idx C nm d host) X.2.2.2.2.1) (hd : decode cc pc = .ok (.getstatic idx, 3)) (kk : zA X nL Q k n (pc + 3) L (v :: st) ws) : zA X nL Q k n pc L st ws := fun H locs ls hl hP hD hS => va_getsN B.1 B.2.1 hZ hS B.2.2.2.1 (va_Nw.use rfl hlink) (fun _ h => h) hd (kk H locs ls hl hP hD hS)
theorem za_newq2 (B : zC X nL wd cc own ret rm) {t0 N idx : Nat} {C : String} {cS : ClassId} {v : Int32} (hcl : Cond.classLink own idx C ∈ zTb) (hover : va_AO C X.2.2.2.2.1) (ht : wd.2.1[t0]? = some (cS, .object C)) (hn : ¬ v < 0) (hN : v.toNatClampNeg = N) (hbytes : N * 4 ≤ 536870912) (hcells : k + 1 ≤ rm.cells) (hslots : n + N ≤ rm.slots) (hd : decode cc pc = .ok (.anewarray idx, 3)) (kk : ∀ q : Nat, zA X nL Q (k + 1) (n + N) (pc + 3) L (.ref q :: st) (ws ++ [(q, .inl (cS, N, .inr (.inr (.inr (.inr (fun _ => none))))))])) : zA X nL Q k n pc L (.int v :: st) ws := fun H locs ls hl hP hD hS => by
  refine va_newq B.1 B.2.1 B.2.2.2.1 (B.2.2.2.2.1 _ hcl) hover B.2.2.2.2.2.1 hP hD hS B.2.2.2.2.2.2.1 hn hN hbytes (by rw [B.2.2.2.2.2.2.2.2.2.1.1]; exact hcells) (by rw [B.2.2.2.2.2.2.2.2.2.1.1]; exact hslots) hd (fun q cA H1 hK1 hP1 hD1 hS1 => ?_)
  obtain ⟨k1, c1, -, -, -, e1⟩ := (B.2.2.2.2.2.1.2 t0 _ ht).2
  obtain ⟨k2, c2, -, -, -, e2⟩ := (hK1.2 wd.2.1.length (cA, .object C) (by rw [List.getElem?_append_right (Nat.le_refl _)]; simp)).2
  have e : cA = cS := Option.some.inj (e2.symm.trans e1)
  subst e
  exact kk q H1 locs ls hl hP1 hD1 hS1
end ZA3
section ZA4
variable {X : zX} {nL : Nat} {wd wd' : zWd} {Q : State → Prop} {k n pc : Nat} {L : List (Nat × Value)} {st rest : List Value} {ws wr : va_W} {cc : ByteArray} {own : String} {ret : Option FieldType} {rm : Room} {σ q : ST}
/-- a method that makes nothing is called on the last cells -/
theorem za_callZ (B : zC X nL wd cc own ret rm) {y : MethodName} {bytes : ByteArray} {maxL N idx q0 ci b : Nat} {rm' : Room} {As fs : List Value} {cq : vw_C} (hK : zKV own idx y bytes maxL none N) (hd : decode cc pc = .ok (.invokevirtual idx, 3)) (hM : zM X.2.1 X.2.2.2.2.2.2.2.2.2.2.1 wd' y bytes maxL none rm' (Value.ref b :: As) σ (zu q)) (he : (wd'.1 σ)[q0]? = some (b, .inr (ci, fs))) (hci : vwCl[ci]? = some cq) (hcq : cq.1 = y.cls) (hsf' : zSF wd'.2.2) (hsfi : ∀ (A : Nat → Prop) (U : State) (H : Heap), wd.2.2 A U H → wd'.2.2 A U H) (hKK : ∀ (D : va_G) (U : State), va_K D vwCl wd.2.1 U → va_K D vwCl wd'.2.1 U) (hn : As.length = N) (hst : st = As.reverse ++ .ref b :: rest) (hrest : (rest.map fun v => v.category).sum ≤ 8) (hc : rm'.cells = 0) (hs : rm'.slots = 0) (hR : rm'.frames + 1 ≤ rm.frames ∧ 8 + (maxL + 11) + rm'.locals ≤ rm.locals) (hkn : k ≤ rm.cells ∧ n ≤ rm.slots) (kk : zA X nL Q k n (pc + 3) L rest (wr ++ wd'.1 q)) : zA X nL Q k n pc L st (wr ++ wd'.1 σ) := fun H locs ls hl hP hD hS => by
  obtain ⟨k1, k2, k8, k3, k4, k5, k6, k7⟩ := hK
  have hR2 : rm'.frames + 1 ≤ X.2.2.2.1.1.frames ∧ 8 + (maxL + 11) + rm'.locals ≤ X.2.2.2.1.1.locals := by rw [B.2.2.2.2.2.2.2.2.2.1.1]; exact hR
  have hX := B.2.2.2.2.1
  have hP0 := vP_perm List.perm_append_comm hP
  have hD0 := vD_perm List.perm_append_comm hD
  have hF : ∀ z, va_A (wd'.1 σ) H.size z → X.2.2.2.2.2.2.2.2.2.2.2 z := by
    intro z h
    rcases vA_iff.mp h with ⟨e, h⟩ | h
    · exact (vD_iff.mp hD0).2 (z, e) (List.mem_append_left _ h)
    · exact B.2.2.2.2.2.2.1 z (Nat.le_trans hS.1 h)
  have hsf := B.2.2.2.2.2.2.2.2.2.2.1
  have hr := va_runV (C := y.cls) (As := As) (rest := rest) (Ts := zTb) (g := F0 X.2.2.2.2.2.1 pc ls st) (e := X.2.2.1) (below := X.2.2.2.2.2.2.2.1) (meth := X.2.2.2.2.2.2.2.2.1) (locs := locs) (cells := k) (slots := n) (H := H) ⟨B.1, B.2.1, B.2.2.1, B.2.2.2.1, hX⟩ (hM H.size) ⟨callB_of N hX (zGoodIn k4) rfl hc hs (hX _ k3) (hX _ k1) ⟨k5, k6, k7⟩ hR2, hX _ k2, hX _ k8⟩ ⟨z_pre hsf', hcq ▸ va_recv (hKK _ _ B.2.2.2.2.2.1) (vP_left hP0) hci he, fun U hU hW => ⟨rfl, by rw [hU], by rw [hU]; exact vP_left hP0, va_K.moved hW.alike (hKK _ _ B.2.2.2.2.2.1), (vD_left hD0).weaken (fun _ _ _ _ => trivial), by
    rw [hU]
    exact hsf'.2.2.2 _ _ _ _ hF (hsfi _ _ _ (hsf.1 _ _ _ _ hW (hsf.2.2.1 _ _ _ _ hS.2.1 B.2.2.2.2.2.2.2.2.2.2.2)))⟩⟩ rfl hn hl.1 hst (lv_room hrest) hd (by rw [B.2.2.2.2.2.2.2.2.2.1.1]; exact hkn)
  intro T hT Xs
  obtain ⟨v', st₀, t, T', L1, h0, X', hL1, e1, e2, ⟨hv, hP1, hK1, hD1, hz, hk⟩, stp⟩ := hr T hT Xs
  have hv2 : v' = none := by injection hv
  subst hv2
  rw [h0] at hz hk
  rw [← e1] at hP1
  obtain ⟨jP, jD⟩ := v_join hP0 hD0 (fun z h1 h2 => by rw [e1]; exact hk z h1 h2) hF hP1 hD1
  obtain ⟨t2, a1, b1⟩ := kk T'.heap (locs ++ L1) ls hl (vP_perm List.perm_append_comm jP) (vD_perm List.perm_append_comm jD)
    ⟨Nat.le_trans hS.1 (by rw [e1]; exact hz), fun z h1 h2 => by rw [e1, hk z (Nat.lt_of_lt_of_le h1 hS.1) (fun zz => h2 (hF z zz))]; exact hS.2.1 z h1 h2, fun z hq => (List.mem_append.mp hq).elim (hS.2.2 z) (fun h => hF _ (hL1 z h))⟩ T' rfl X'
  exact ⟨t2, stp t2 a1, b1⟩
end ZA4
