theorem zc_bipush_63 : (Int8.ofInt (63)).toInt32 = ((63) : Int32) := by decide
/-! THE CLAIM OUT OF ONE WALK OF THE LAW'S BODY. Your part is whole_start (and what it stands on); all else here is the same for every law, but numbers. -/
def R_law : String := "AheadPlannerLaw"
def lw_P (b : Addr) (xs : List Int32) (args : Array Value) (s : State) : Prop := args = #[.ref b] ∧ s.IntsAt b xs ∧ xs.length ≤ 2048 ∧ (Jvm.Cond.and given_1 narrow_1).before args s = true
def lw_Q (_ : Array Value) (s : State) (o : Outcome) (t : State) : Prop := o = .returned (some (.int 1)) ∧ Framed s o t [] 600000 7302250
def lw_Z (below : List Frame) (a : Array Value) (s : State) : State → Prop := fun t => ∃ o, t.status = .running ∧ Ended t below o ∧ lw_Q a s o t
/-- the law's own end, with 1 on the stack, nothing written that was there before, its room as the claim has it -/
theorem lw_ret {p : Program} {l : Launch} {e : Env} {s : State} {m : MethodId} {below : List Frame} {meth : Method} {c : Code} {b : Nat} (hx : p.tables.exec = Jvm.exec) (hb : c.code = code) (hr : meth.sig.returnType = ret) (hlocks : meth.locks = false) {pc : Nat} {H : Heap} {ls : Array Slot} (hdg : decode code pc = .ok (.ireturn, 1)) : W p l e room_1 s m #[Value.ref b] below meth c H [] 600000 7302250 (lw_Z below #[Value.ref b] s) (F0 m pc ls [.int 1]) := by
  intro T hT X
  obtain ⟨fs, hret, hrun, hended, hW, hframe⟩ := X.leave (v := some (.int 1)) (hlocks := hlocks) (fun h => by rw [hr] at h; cases h)
  have hmeth' : T.vm.method? m = some meth := X.method'
  refine ⟨T.setFrames fs, ?_, .returned (some (.int 1)), hrun, hended, rfl, ⟨_, rfl⟩, hW, hframe⟩
  jvm_step X.here [X.here.top, hx, hb, hdg, hmeth', hr, ret, narrow_b1]
  (try refine ⟨rfl, ?_⟩); (try refine ⟨rfl, ?_⟩)
  first | (intro acts; rw [hret _ acts rfl rfl rfl]) | rw [hret _ _ rfl rfl rfl]
  exact Steps.refl _
/-- what holds at the law's entry: the machine, the code, the tables' words (any of lw_tbl by 'hts w (by decide +kernel)'), the script of L ints xs at the cell b, what the Statement gives of the start (any of its parts by flat_of_before) -/
def lw_At (p : Program) (s : State) (m : MethodId) (meth : Method) (c : Code) (b L : Nat) (xs : Nat → Int32) : Prop :=
  p.tables.exec = Jvm.exec ∧ c.code = code ∧ meth.sig.returnType = ret ∧ c.maxLocals = 4 ∧ s.vm.findClass R_law = some m.cls ∧ (∀ w ∈ lw_tbl, w.before #[Value.ref b] s = true) ∧ va_X b L xs s s.heap ∧ b < s.heap.size ∧ meth.locks = false ∧ (Jvm.Cond.and given_1 narrow_1).before #[Value.ref b] s = true

/-- the law ends with 1 -/
theorem za_lawend {X : zX} {own : String} {wd : zWd} {b k n pc : Nat} {L : List (Nat × Value)} {ws : va_W} (B : zC X 4 wd cL_law own ret room_1) (ha : X.2.2.2.2.2.2.1 = #[Value.ref b]) (hA : ∀ q : Nat, X.2.2.2.2.2.2.2.2.2.2.2 q → X.2.2.2.2.1.heap.size ≤ q) (hkn : k ≤ room_1.cells ∧ n ≤ room_1.slots) (hd : decode cL_law pc = .ok (.ireturn, 1)) : zA X 4 (lw_Z X.2.2.2.2.2.2.2.1 #[Value.ref b] X.2.2.2.2.1) k n pc L [.int 1] ws := fun H locs ls hl hP hD hS => by
  refine va_forget (fun q hq => hA _ (hS.2.2 q hq)) ?_
  refine W.widen (k := 600000) (n := 7302250) hkn.1 hkn.2 ?_
  rw [B.2.2.2.2.2.2.2.2.2.1.1, ha]
  exact lw_ret B.1 B.2.1 B.2.2.2.2.2.2.2.2.1 B.2.2.2.2.2.2.2.1 hd
set_option maxRecDepth 20000 in
set_option maxHeartbeats 4000000 in
/-- THE LAW'S LOOP, over LawSim: class and reference answer alike, call by call -/
theorem law_loop {X : zX} {adr adrR : Nat → Nat} {cI cZ cS cD cE : ClassId} {tL tH tA b Ls k n N : Nat} {xs : Nat → Int32} {I : Nat → ST → ST → Prop} (hS0 : ∀ κ, κ < 512 → LawSim N (I κ) (I (κ + 1))) (hm : ∀ κ τ ρ, I κ τ ρ → I (κ + 1) τ ρ) (B : zC X 4 (wdC cI cZ cS cD cE tL tH tA) cL_law RL ret room_1) (ha : X.2.2.2.2.2.2.1 = #[Value.ref b]) (hA : ∀ q : Nat, X.2.2.2.2.2.2.2.2.2.2.2 q → X.2.2.2.2.1.heap.size ≤ q) (hX : va_X b Ls xs X.2.2.2.2.1 X.2.2.2.2.1.heap) (hbl : b < X.2.2.2.2.1.heap.size) (hbA : ¬ X.2.2.2.2.2.2.2.2.2.2.2 b) (hkn : k ≤ room_1.cells ∧ n ≤ room_1.slots) (hLs : Ls < 2 ^ 30) (hL2 : Ls ≤ 2048) :
    ∀ (f i : Nat) (τ ρ : ST), i ≤ Ls → Ls < i + f → I (i / 4) τ ρ → zA X 4 (lw_Z X.2.2.2.2.2.2.2.1 #[Value.ref b] X.2.2.2.2.1) k n 18 [(0, .ref b), (1, .ref (adr 600)), (2, .ref (adrR 0)), (3, .int (nI i))] [] ((wfT adr cI cZ cS cD cE τ) ++ (wfR adrR cI cZ ρ)) := by
  intro f
  induction f with
  | zero => intro i τ ρ h1 h2; omega
  | succ f IH =>
    intro i τ ρ hi hf hI
    refine za_iload_n B dL_law_18 3 rfl rfl ?_
    refine za_aload_n B dL_law_19 0 rfl rfl ?_
    refine za_slen B hX hbl hbA dL_law_20 ?_
    refine za_iconst B (4) dL_law_21 zc_iconst_4 ?_
    refine za_isub B dL_law_22 ?_
    have e4 : (nI Ls - 4).toInt = (Ls : Int) - 4 := pk_sub_toInt (b := 4) hLs (by decide)
    have ei : (nI i).toInt = (i : Int) := nI_toInt (by omega)
    refine za_gt B 1188 dL_law_23 (by decide) (fun h => ?_) (fun h => ?_)
    · refine za_iconst B (1) dL_law_1188 zc_iconst_1 ?_
      exact za_lawend B ha hA hkn dL_law_1189
    · have hi4 : i + 4 ≤ Ls := by
        have h2 : ¬ (nI Ls - 4).toInt < (nI i).toInt := fun q => h (Int32.lt_iff_toInt_lt.mpr q)
        omega
      refine za_aload_n B dL_law_26 0 rfl rfl ?_
      refine za_iload_n B dL_law_27 3 rfl rfl ?_
      refine za_sld B hX hbl hbA (j := i) (by omega) (by omega) dL_law_28 ?_
      refine za_bipush B (63) dL_law_29 zc_bipush_63 ?_
      refine za_iand B dL_law_31 ?_
      obtain ⟨j, hj, ej⟩ := pk_andE (xs i) (m := 63) 6 (by decide)
      rw [ej]
      have hS := hS0 (i / 4) (by omega)
      have ih : ∀ τ ρ : ST, I (i / 4 + 1) τ ρ → zA X 4 (lw_Z X.2.2.2.2.2.2.2.1 #[Value.ref b] X.2.2.2.2.1) k n 1182 [(0, .ref b), (1, .ref (adr 600)), (2, .ref (adrR 0)), (3, .int (nI i))] [] ((wfT adr cI cZ cS cD cE τ) ++ (wfR adrR cI cZ ρ)) := by
        intro τ ρ hI
        refine za_iinc B (nI (i + 4)) 3 [(3, .int (nI (i + 4))), (0, .ref b), (1, .ref (adr 600)), (2, .ref (adrR 0))] dL_law_1182 (nI_add i 4) rfl (Nat.le_of_ble_eq_true rfl) rfl ?_
        refine za_goto B 18 dL_law_1185 (by decide) ?_
        exact za_loc [1, 2, 3, 0] _ rfl (IH (i + 4) τ ρ (by omega) (by omega) (by rw [show (i + 4) / 4 = i / 4 + 1 by omega]; exact hI))
      rcases (show j = 0 ∨ j = 1 ∨ j = 2 ∨ j = 3 ∨ j = 4 ∨ j = 5 ∨ j = 6 ∨ j = 7 ∨ j = 8 ∨ j = 9 ∨ j = 10 ∨ j = 11 ∨ j = 12 ∨ j = 13 ∨ j = 14 ∨ j = 15 ∨ j = 16 ∨ j = 17 ∨ j = 18 ∨ j = 19 ∨ j = 20 ∨ j = 21 ∨ j = 22 ∨ j = 23 ∨ j = 24 ∨ j = 25 ∨ j = 26 ∨ j = 27 ∨ j = 28 ∨ j = 29 ∨ j = 30 ∨ j = 31 ∨ j = 32 ∨ j = 33 ∨ 34 ≤ j by omega) with rfl | rfl | rfl | rfl | rfl | rfl | rfl | rfl | rfl | rfl | rfl | rfl | rfl | rfl | rfl | rfl | rfl | rfl | rfl | rfl | rfl | rfl | rfl | rfl | rfl | rfl | rfl | rfl | rfl | rfl | rfl | rfl | rfl | rfl | hge
      · exact za_tabIn B (off := 152) 184 dL_law_32 (by decide) (by decide) (by decide) (by decide) (lw_c0 B hX hbl hbA hkn (by omega) hi4 (hS.1) ih τ ρ hI)
      · exact za_tabIn B (off := 185) 217 dL_law_32 (by decide) (by decide) (by decide) (by decide) (lw_c1 B hX hbl hbA hkn (by omega) hi4 (hS.2.1) ih τ ρ hI)
      · exact za_tabIn B (off := 208) 240 dL_law_32 (by decide) (by decide) (by decide) (by decide) (lw_c2 B hX hbl hbA hkn (by omega) hi4 (hS.2.2.1) ih τ ρ hI)
      · exact za_tabIn B (off := 251) 283 dL_law_32 (by decide) (by decide) (by decide) (by decide) (lw_c3 B hX hbl hbA hkn (by omega) hi4 (hS.2.2.2.1) ih τ ρ hI)
      · exact za_tabIn B (off := 274) 306 dL_law_32 (by decide) (by decide) (by decide) (by decide) (lw_c4 B hX hbl hbA hkn (by omega) hi4 (hS.2.2.2.2.1) ih τ ρ hI)
      · exact za_tabIn B (off := 307) 339 dL_law_32 (by decide) (by decide) (by decide) (by decide) (lw_c5 B hX hbl hbA hkn (by omega) hi4 (hS.2.2.2.2.2.1) ih τ ρ hI)
      · exact za_tabIn B (off := 340) 372 dL_law_32 (by decide) (by decide) (by decide) (by decide) (lw_c6 B hX hbl hbA hkn (by omega) hi4 (hS.2.2.2.2.2.2.1) ih τ ρ hI)
      · exact za_tabIn B (off := 389) 421 dL_law_32 (by decide) (by decide) (by decide) (by decide) (lw_c7 B hX hbl hbA hkn (by omega) hi4 (hS.2.2.2.2.2.2.2.1) ih τ ρ hI)
      · exact za_tabIn B (off := 412) 444 dL_law_32 (by decide) (by decide) (by decide) (by decide) (lw_c8 B hX hbl hbA hkn (by omega) hi4 (hS.2.2.2.2.2.2.2.2.1) ih τ ρ hI)
      · exact za_tabIn B (off := 435) 467 dL_law_32 (by decide) (by decide) (by decide) (by decide) (lw_c9 B hX hbl hbA hkn (by omega) hi4 (hS.2.2.2.2.2.2.2.2.2.1) ih τ ρ hI)
      · exact za_tabIn B (off := 458) 490 dL_law_32 (by decide) (by decide) (by decide) (by decide) (lw_c10 B hX hbl hbA hkn (by omega) hi4 (hS.2.2.2.2.2.2.2.2.2.2.1) ih τ ρ hI)
      · exact za_tabIn B (off := 481) 513 dL_law_32 (by decide) (by decide) (by decide) (by decide) (lw_c11 B hX hbl hbA hkn (by omega) hi4 (hS.2.2.2.2.2.2.2.2.2.2.2.1) ih τ ρ hI)
      · exact za_tabIn B (off := 514) 546 dL_law_32 (by decide) (by decide) (by decide) (by decide) (lw_c12 B hX hbl hbA hkn (by omega) hi4 (hS.2.2.2.2.2.2.2.2.2.2.2.2.1) ih τ ρ hI)
      · exact za_tabIn B (off := 537) 569 dL_law_32 (by decide) (by decide) (by decide) (by decide) (lw_c13 B hX hbl hbA hkn (by omega) hi4 (hS.2.2.2.2.2.2.2.2.2.2.2.2.2.1) ih τ ρ hI)
      · exact za_tabIn B (off := 570) 602 dL_law_32 (by decide) (by decide) (by decide) (by decide) (lw_c14 B hX hbl hbA hkn (by omega) hi4 (hS.2.2.2.2.2.2.2.2.2.2.2.2.2.2.1) ih τ ρ hI)
      · exact za_tabIn B (off := 603) 635 dL_law_32 (by decide) (by decide) (by decide) (by decide) (lw_c15 B hX hbl hbA hkn (by omega) hi4 (hS.2.2.2.2.2.2.2.2.2.2.2.2.2.2.2.1) ih τ ρ hI)
      · exact za_tabIn B (off := 626) 658 dL_law_32 (by decide) (by decide) (by decide) (by decide) (lw_c16 B hX hbl hbA hkn (by omega) hi4 (hS.2.2.2.2.2.2.2.2.2.2.2.2.2.2.2.2.1) ih τ ρ hI)
      · exact za_tabIn B (off := 659) 691 dL_law_32 (by decide) (by decide) (by decide) (by decide) (lw_c17 B hX hbl hbA hkn (by omega) hi4 (hS.2.2.2.2.2.2.2.2.2.2.2.2.2.2.2.2.2.1) ih τ ρ hI)
      · exact za_tabIn B (off := 692) 724 dL_law_32 (by decide) (by decide) (by decide) (by decide) (lw_c18 B hX hbl hbA hkn (by omega) hi4 (hS.2.2.2.2.2.2.2.2.2.2.2.2.2.2.2.2.2.2.1) ih τ ρ hI)
      · exact za_tabIn B (off := 725) 757 dL_law_32 (by decide) (by decide) (by decide) (by decide) (lw_c19 B hX hbl hbA hkn (by omega) hi4 (hS.2.2.2.2.2.2.2.2.2.2.2.2.2.2.2.2.2.2.2.1) ih τ ρ hI)
      · exact za_tabIn B (off := 748) 780 dL_law_32 (by decide) (by decide) (by decide) (by decide) (lw_c20 B hX hbl hbA hkn (by omega) hi4 (hS.2.2.2.2.2.2.2.2.2.2.2.2.2.2.2.2.2.2.2.2.1) ih τ ρ hI)
      · exact za_tabIn B (off := 771) 803 dL_law_32 (by decide) (by decide) (by decide) (by decide) (lw_c21 B hX hbl hbA hkn (by omega) hi4 (hS.2.2.2.2.2.2.2.2.2.2.2.2.2.2.2.2.2.2.2.2.2.1) ih τ ρ hI)
      · exact za_tabIn B (off := 804) 836 dL_law_32 (by decide) (by decide) (by decide) (by decide) (lw_c22 B hX hbl hbA hkn (by omega) hi4 (hS.2.2.2.2.2.2.2.2.2.2.2.2.2.2.2.2.2.2.2.2.2.2.1) ih τ ρ hI)
      · exact za_tabIn B (off := 837) 869 dL_law_32 (by decide) (by decide) (by decide) (by decide) (lw_c23 B hX hbl hbA hkn (by omega) hi4 (hS.2.2.2.2.2.2.2.2.2.2.2.2.2.2.2.2.2.2.2.2.2.2.2.1) ih τ ρ hI)
      · exact za_tabIn B (off := 880) 912 dL_law_32 (by decide) (by decide) (by decide) (by decide) (lw_c24 B hX hbl hbA hkn (by omega) hi4 (hS.2.2.2.2.2.2.2.2.2.2.2.2.2.2.2.2.2.2.2.2.2.2.2.2.1) ih τ ρ hI)
      · exact za_tabIn B (off := 913) 945 dL_law_32 (by decide) (by decide) (by decide) (by decide) (lw_c25 B hX hbl hbA hkn (by omega) hi4 (hS.2.2.2.2.2.2.2.2.2.2.2.2.2.2.2.2.2.2.2.2.2.2.2.2.2.1) ih τ ρ hI)
      · exact za_tabIn B (off := 936) 968 dL_law_32 (by decide) (by decide) (by decide) (by decide) (lw_c26 B hX hbl hbA hkn (by omega) hi4 (hS.2.2.2.2.2.2.2.2.2.2.2.2.2.2.2.2.2.2.2.2.2.2.2.2.2.2.1) ih τ ρ hI)
      · exact za_tabIn B (off := 969) 1001 dL_law_32 (by decide) (by decide) (by decide) (by decide) (lw_c27 B hX hbl hbA hkn (by omega) hi4 (hS.2.2.2.2.2.2.2.2.2.2.2.2.2.2.2.2.2.2.2.2.2.2.2.2.2.2.2.1) ih τ ρ hI)
      · exact za_tabIn B (off := 1002) 1034 dL_law_32 (by decide) (by decide) (by decide) (by decide) (lw_c28 B hX hbl hbA hkn (by omega) hi4 (hS.2.2.2.2.2.2.2.2.2.2.2.2.2.2.2.2.2.2.2.2.2.2.2.2.2.2.2.2.1) ih τ ρ hI)
      · exact za_tabIn B (off := 1035) 1067 dL_law_32 (by decide) (by decide) (by decide) (by decide) (lw_c29 B hX hbl hbA hkn (by omega) hi4 (hS.2.2.2.2.2.2.2.2.2.2.2.2.2.2.2.2.2.2.2.2.2.2.2.2.2.2.2.2.2.1) ih τ ρ hI)
      · exact za_tabIn B (off := 1058) 1090 dL_law_32 (by decide) (by decide) (by decide) (by decide) (lw_c30 B hX hbl hbA hkn (by omega) hi4 (hS.2.2.2.2.2.2.2.2.2.2.2.2.2.2.2.2.2.2.2.2.2.2.2.2.2.2.2.2.2.2.1) ih τ ρ hI)
      · exact za_tabIn B (off := 1081) 1113 dL_law_32 (by decide) (by decide) (by decide) (by decide) (lw_c31 B hX hbl hbA hkn (by omega) hi4 (hS.2.2.2.2.2.2.2.2.2.2.2.2.2.2.2.2.2.2.2.2.2.2.2.2.2.2.2.2.2.2.2.1) ih τ ρ hI)
      · exact za_tabIn B (off := 1104) 1136 dL_law_32 (by decide) (by decide) (by decide) (by decide) (lw_c32 B hX hbl hbA hkn (by omega) hi4 (hS.2.2.2.2.2.2.2.2.2.2.2.2.2.2.2.2.2.2.2.2.2.2.2.2.2.2.2.2.2.2.2.2.1) ih τ ρ hI)
      · exact za_tabIn B (off := 1127) 1159 dL_law_32 (by decide) (by decide) (by decide) (by decide) (lw_c33 B hX hbl hbA hkn (by omega) hi4 (hS.2.2.2.2.2.2.2.2.2.2.2.2.2.2.2.2.2.2.2.2.2.2.2.2.2.2.2.2.2.2.2.2.2) ih τ ρ hI)
      · exact za_tabOut B 1182 dL_law_32 (Or.inr (by rw [nI_toInt (by omega)]; omega)) (by decide) (ih τ ρ (hm _ _ _ hI))
