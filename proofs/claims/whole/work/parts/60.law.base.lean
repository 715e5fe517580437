/-! THE LAW: rows of its walk; the world is that of the planner beside that of the reference -/
section ZLAW
variable {X : zX} {nL : Nat} {wd wd' : zWd} {Q : State → Prop} {k n pc : Nat} {L : List (Nat × Value)} {st rest : List Value} {ws wr : va_W} {cc : ByteArray} {own : String} {ret : Option FieldType} {rm : Room} {σ : ST}
theorem za_loc (ks : List Nat) (L' : List (Nat × Value)) (h : lv_pick L ks = L') (kk : zA X nL Q k n pc L' st ws) : zA X nL Q k n pc L st ws := fun H locs ls hl hP hD hS => kk H locs ls (lv_sub hl ks h) hP hD hS
theorem za_astore_n (B : zC X nL wd cc own ret rm) {i4 : Fin 4} {i x : Nat} (L' : List (Nat × Value)) (hd : decode cc pc = .ok (.astore_n i4, 1)) (hi : (i4 : Nat) = i) (hn : i < nL) (hl' : (i, Value.ref x) :: L.filter (fun q => !(q.1 == i) && !(q.1 + 1 == i && q.2.category == 2)) = L') (kk : zA X nL Q k n (pc + 1) L' st ws) : zA X nL Q k n pc L (.ref x :: st) ws := fun H locs ls hl hP hD hS => lv_astore_n B.1 B.2.1 hd hi hl hn hl' (fun ls' h' => kk H locs ls' h' hP hD hS)
theorem za_iadd (B : zC X nL wd cc own ret rm) {x y v : Int32} (hv : x + y = v) (hd : decode cc pc = .ok (.iadd, 1)) (kk : zA X nL Q k n (pc + 1) L (.int v :: st) ws) : zA X nL Q k n pc L (.int y :: .int x :: st) ws := fun H locs ls hl hP hD hS => lv_iadd B.1 B.2.1 hd (by rw [hv]; exact kk H locs ls hl hP hD hS)
theorem za_isub (B : zC X nL wd cc own ret rm) {x y : Int32} (hd : decode cc pc = .ok (.isub, 1)) (kk : zA X nL Q k n (pc + 1) L (.int (x - y) :: st) ws) : zA X nL Q k n pc L (.int y :: .int x :: st) ws := fun H locs ls hl hP hD hS => lv_isub B.1 B.2.1 hd (kk H locs ls hl hP hD hS)
theorem za_iand (B : zC X nL wd cc own ret rm) {x y : Int32} (hd : decode cc pc = .ok (.iand, 1)) (kk : zA X nL Q k n (pc + 1) L (.int (x &&& y) :: st) ws) : zA X nL Q k n pc L (.int y :: .int x :: st) ws := fun H locs ls hl hP hD hS => lv_iand B.1 B.2.1 hd (kk H locs ls hl hP hD hS)
theorem za_gt (B : zC X nL wd cc own ret rm) {x y : Int32} {off : Int} (tgt : Nat) (hd : decode cc pc = .ok (.if_icmp .gt off, 3)) (ht : (pc : Int) + off = (tgt : Int)) (kt : y < x → zA X nL Q k n tgt L st ws) (kf : ¬ y < x → zA X nL Q k n (pc + 3) L st ws) : zA X nL Q k n pc L (.int y :: .int x :: st) ws := fun H locs ls hl hP hD hS => lv_icmp_gt B.1 B.2.1 hd ht (fun h => kt h H locs ls hl hP hD hS) (fun h => kf h H locs ls hl hP hD hS)
theorem za_same (B : zC X nL wd cc own ret rm) {x : Int32} {off : Int} (tgt : Nat) (hd : decode cc pc = .ok (.if_icmp .eq off, 3)) (ht : (pc : Int) + off = (tgt : Int)) (kt : zA X nL Q k n tgt L st ws) : zA X nL Q k n pc L (.int x :: .int x :: st) ws := fun H locs ls hl hP hD hS => lv_icmp_eq B.1 B.2.1 hd ht (fun _ => kt H locs ls hl hP hD hS) (fun h => absurd rfl h)
theorem za_if_eq (B : zC X nL wd cc own ret rm) {x : Int32} {off : Int} (tgt : Nat) (hd : decode cc pc = .ok (.ifCond .eq off, 3)) (ht : (pc : Int) + off = (tgt : Int)) (kt : x = 0 → zA X nL Q k n tgt L st ws) (kf : ¬ x = 0 → zA X nL Q k n (pc + 3) L st ws) : zA X nL Q k n pc L (.int x :: st) ws := fun H locs ls hl hP hD hS => lv_if_eq B.1 B.2.1 hd ht (fun h => kt h H locs ls hl hP hD hS) (fun h => kf h H locs ls hl hP hD hS)
theorem za_tabIn (B : zC X nL wd cc own ret rm) {dflt lo hi off : Int} {offs : Array Int} {len : Nat} {x : Int32} (tgt : Nat) (hd : decode cc pc = .ok (.tableswitch dflt lo hi offs, len)) (h1 : ¬ x.toInt < lo) (h2 : ¬ hi < x.toInt) (ho : offs[(x.toInt - lo).toNat]? = some off) (ht : (pc : Int) + off = (tgt : Int)) (kk : zA X nL Q k n tgt L st ws) : zA X nL Q k n pc L (.int x :: st) ws := fun H locs ls hl hP hD hS => lv_tableIn B.1 B.2.1 hd h1 h2 ho ht (kk H locs ls hl hP hD hS)
theorem za_tabOut (B : zC X nL wd cc own ret rm) {dflt lo hi : Int} {offs : Array Int} {len : Nat} {x : Int32} (tgt : Nat) (hd : decode cc pc = .ok (.tableswitch dflt lo hi offs, len)) (h : x.toInt < lo ∨ hi < x.toInt) (ht : (pc : Int) + dflt = (tgt : Int)) (kk : zA X nL Q k n tgt L st ws) : zA X nL Q k n pc L (.int x :: st) ws := fun H locs ls hl hP hD hS => lv_tableOut B.1 B.2.1 hd h ht (kk H locs ls hl hP hD hS)
theorem za_slen (B : zC X nL wd cc own ret rm) {b N : Nat} {xs : Nat → Int32} (hX : va_X b N xs X.2.2.2.2.1 X.2.2.2.2.1.heap) (hbl : b < X.2.2.2.2.1.heap.size) (hbA : ¬ X.2.2.2.2.2.2.2.2.2.2.2 b) (hd : decode cc pc = .ok (.arraylength, 1)) (kk : zA X nL Q k n (pc + 1) L (.int (nI N) :: st) ws) : zA X nL Q k n pc L (.ref b :: st) ws := fun H locs ls hl hP hD hS => va_slen B.1 B.2.1 hX hbl hbA hS hd (kk H locs ls hl hP hD hS)
theorem za_sld (B : zC X nL wd cc own ret rm) {b N : Nat} {xs : Nat → Int32} (hX : va_X b N xs X.2.2.2.2.1 X.2.2.2.2.1.heap) (hbl : b < X.2.2.2.2.1.heap.size) (hbA : ¬ X.2.2.2.2.2.2.2.2.2.2.2 b) {j : Nat} (hj : j < N) (hN : N < 2 ^ 31) (hd : decode cc pc = .ok (.iaload, 1)) (kk : zA X nL Q k n (pc + 1) L (.int (xs j) :: st) ws) : zA X nL Q k n pc L (.int (nI j) :: .ref b :: st) ws := fun H locs ls hl hP hD hS => va_sld B.1 B.2.1 hX hbl hbA hS (vp_in_nI hj hN) hd (by rw [nI_clamp (by omega)]; exact kk H locs ls hl hP hD hS)
/-- a call whose contract speaks of the first cells (wr behind them), or of the last -/
theorem za_callW (B : zC X nL wd cc own ret rm) {y : MethodName} {bytes : ByteArray} {maxL N idx q0 ci b : Nat} {ret' : Option FieldType} {rm' : Room} {As fs : List Value} {cq : vw_C} {q : Int32 × ST} (hK : zKV own idx y bytes maxL ret' N) (hd : decode cc pc = .ok (.invokevirtual idx, 3)) (hM : zM X.2.1 X.2.2.2.2.2.2.2.2.2.2.1 wd' y bytes maxL ret' rm' (Value.ref b :: As) σ (zi q)) (he : (wd'.1 σ)[q0]? = some (b, .inr (ci, fs))) (hci : vwCl[ci]? = some cq) (hcq : cq.1 = y.cls) (hsf' : zSF wd'.2.2) (hsfi : ∀ (A : Nat → Prop) (U : State) (H : Heap), wd.2.2 A U H → wd'.2.2 A U H) (hKK : ∀ (D : va_G) (U : State), va_K D vwCl wd.2.1 U → va_K D vwCl wd'.2.1 U) (hn : As.length = N) (hst : st = As.reverse ++ .ref b :: rest) (hrest : (rest.map fun v => v.category).sum ≤ 8) (hc : rm'.cells = 0) (hs : rm'.slots = 0) (hR : rm'.frames + 1 ≤ rm.frames ∧ 8 + (maxL + 11) + rm'.locals ≤ rm.locals) (hkn : k ≤ rm.cells ∧ n ≤ rm.slots) {ws1 : va_W} (h0 : ws.Perm (wd'.1 σ ++ wr)) (h1 : (wd'.1 q.2 ++ wr).Perm ws1) (kk : zA X nL Q k n (pc + 3) L (.int q.1 :: rest) ws1) : zA X nL Q k n pc L st ws := fun H locs ls hl hP hD hS => by
  obtain ⟨k1, k2, k8, k3, k4, k5, k6, k7⟩ := hK
  have hR2 : rm'.frames + 1 ≤ X.2.2.2.1.1.frames ∧ 8 + (maxL + 11) + rm'.locals ≤ X.2.2.2.1.1.locals := by rw [B.2.2.2.2.2.2.2.2.2.1.1]; exact hR
  have hX := B.2.2.2.2.1
  have hP0 := vP_perm h0 hP
  have hD0 := vD_perm h0 hD
  have hF : ∀ z, va_A (wd'.1 σ) H.size z → X.2.2.2.2.2.2.2.2.2.2.2 z := by
    intro z h
    rcases vA_iff.mp h with ⟨e, h⟩ | h
    · exact (vD_iff.mp hD0).2 (z, e) (List.mem_append_left _ h)
    · exact B.2.2.2.2.2.2.1 z (Nat.le_trans hS.1 h)
  have hsf := B.2.2.2.2.2.2.2.2.2.2.1
  have hr := va_runV (C := y.cls) (As := As) (rest := rest) (Ts := zTb) (g := F0 X.2.2.2.2.2.1 pc ls st) (e := X.2.2.1) (below := X.2.2.2.2.2.2.2.1) (meth := X.2.2.2.2.2.2.2.2.1) (locs := locs) (cells := k) (slots := n) (H := H) ⟨B.1, B.2.1, B.2.2.1, B.2.2.2.1, hX⟩ (hM H.size) ⟨callB_of N hX (zGoodIn k4) rfl hc hs (hX _ k3) (hX _ k1) ⟨k5, k6, k7⟩ hR2, hX _ k2, hX _ k8⟩ ⟨z_pre hsf', hcq ▸ va_recv (hKK _ _ B.2.2.2.2.2.1) (vP_left hP0) hci he, fun U hU hW => ⟨rfl, by rw [hU], by rw [hU]; exact vP_left hP0, va_K.moved hW.alike (hKK _ _ B.2.2.2.2.2.1), (vD_left hD0).weaken (fun _ _ _ _ => trivial), by
    rw [hU]
    exact hsf'.2.2.2 _ _ _ _ hF (hsfi _ _ _ (hsf.1 _ _ _ _ hW (hsf.2.2.1 _ _ _ _ hS.2.1 B.2.2.2.2.2.2.2.2.2.2.2)))⟩⟩ rfl hn hl.1 hst (lv_room hrest) hd (by rw [B.2.2.2.2.2.2.2.2.2.1.1]; exact hkn)
  intro T hT Xs
  obtain ⟨v', st₀, t, T', L1, h00, X', hL1, e1, e2, ⟨hv, hP1, hK1, hD1, hz, hk⟩, stp⟩ := hr T hT Xs
  have hv2 : v' = some (.int q.1) := by injection hv
  subst hv2
  rw [h00] at hz hk
  rw [← e1] at hP1
  obtain ⟨jP, jD⟩ := v_join hP0 hD0 (fun z h1 h2 => by rw [e1]; exact hk z h1 h2) hF hP1 hD1
  obtain ⟨t2, a1, b1⟩ := kk T'.heap (locs ++ L1) ls hl (vP_perm h1 jP) (vD_perm h1 jD)
    ⟨Nat.le_trans hS.1 (by rw [e1]; exact hz), fun z h1 h2 => by rw [e1, hk z (Nat.lt_of_lt_of_le h1 hS.1) (fun zz => h2 (hF z zz))]; exact hS.2.1 z h1 h2, fun z hq => (List.mem_append.mp hq).elim (hS.2.2 z) (fun h => hF _ (hL1 z h))⟩ T' rfl X'
  exact ⟨t2, stp t2 a1, b1⟩
end ZLAW
