section
-- ===== PART A: goes FIRST, ahead of the names: the tables' words, and 'selects' of the private methods out of them =====
/-- a private method of a class that the tables say can be made, by its rows of tables_1 -/
def lw_okq (q : MethodName × Nat) : Prop := (q.1.cls ≠ "java/lang/invoke/MethodHandle" ∧ q.1.cls ≠ "java/lang/invoke/VarHandle") ∧ Cond.instantiable q.1.cls q.2 ∈ tables_1 ∧ Cond.privateMethod q.1 ∈ tables_1 ∧ Cond.instanceMethod q.1 ∈ tables_1
theorem lw_p0 : lw_okq (⟨"SlidTokens$Net", "isInShape", "(III)Z"⟩, 2) := ⟨⟨by decide +kernel, by decide +kernel⟩, List.mem_of_getElem? (i := 23) (by decide +kernel), List.mem_of_getElem? (i := 223) (by decide +kernel), List.mem_of_getElem? (i := 224) (by decide +kernel)⟩
theorem lw_p1 : lw_okq (⟨"SlidTokens$Net", "touchesNowhere", "(I)Z"⟩, 2) := ⟨⟨by decide +kernel, by decide +kernel⟩, List.mem_of_getElem? (i := 23) (by decide +kernel), List.mem_of_getElem? (i := 261) (by decide +kernel), List.mem_of_getElem? (i := 262) (by decide +kernel)⟩
theorem lw_p2 : lw_okq (⟨"SlidTokens$Net", "seesAll", "(I)Z"⟩, 2) := ⟨⟨by decide +kernel, by decide +kernel⟩, List.mem_of_getElem? (i := 23) (by decide +kernel), List.mem_of_getElem? (i := 265) (by decide +kernel), List.mem_of_getElem? (i := 266) (by decide +kernel)⟩
theorem lw_p3 : lw_okq (⟨"SlidTokens", "isLawfulSet", "(II)Z"⟩, 8) := ⟨⟨by decide +kernel, by decide +kernel⟩, List.mem_of_getElem? (i := 15) (by decide +kernel), List.mem_of_getElem? (i := 313) (by decide +kernel), List.mem_of_getElem? (i := 314) (by decide +kernel)⟩
theorem lw_p4 : lw_okq (⟨"SlidTokens", "begin", "(II)V"⟩, 8) := ⟨⟨by decide +kernel, by decide +kernel⟩, List.mem_of_getElem? (i := 15) (by decide +kernel), List.mem_of_getElem? (i := 317) (by decide +kernel), List.mem_of_getElem? (i := 318) (by decide +kernel)⟩
theorem lw_p5 : lw_okq (⟨"SlidTokens$Marks", "gatherSwaps", "(II)V"⟩, 9) := ⟨⟨by decide +kernel, by decide +kernel⟩, List.mem_of_getElem? (i := 42) (by decide +kernel), List.mem_of_getElem? (i := 351) (by decide +kernel), List.mem_of_getElem? (i := 352) (by decide +kernel)⟩
theorem lw_p6 : lw_okq (⟨"SlidTokens$Marks", "offer", "(II)V"⟩, 9) := ⟨⟨by decide +kernel, by decide +kernel⟩, List.mem_of_getElem? (i := 42) (by decide +kernel), List.mem_of_getElem? (i := 355) (by decide +kernel), List.mem_of_getElem? (i := 356) (by decide +kernel)⟩
theorem lw_p7 : lw_okq (⟨"SlidTokens$Marks", "forgetSpread", "()V"⟩, 9) := ⟨⟨by decide +kernel, by decide +kernel⟩, List.mem_of_getElem? (i := 42) (by decide +kernel), List.mem_of_getElem? (i := 381) (by decide +kernel), List.mem_of_getElem? (i := 382) (by decide +kernel)⟩
theorem lw_p8 : lw_okq (⟨"SlidTokens$Marks", "settle", "(I)V"⟩, 9) := ⟨⟨by decide +kernel, by decide +kernel⟩, List.mem_of_getElem? (i := 42) (by decide +kernel), List.mem_of_getElem? (i := 385) (by decide +kernel), List.mem_of_getElem? (i := 386) (by decide +kernel)⟩
theorem lw_p9 : lw_okq (⟨"SlidTokens$Marks", "lighten", "(I)V"⟩, 9) := ⟨⟨by decide +kernel, by decide +kernel⟩, List.mem_of_getElem? (i := 42) (by decide +kernel), List.mem_of_getElem? (i := 389) (by decide +kernel), List.mem_of_getElem? (i := 390) (by decide +kernel)⟩
theorem lw_p10 : lw_okq (⟨"SlidTokensModel", "part", "()V"⟩, 10) := ⟨⟨by decide +kernel, by decide +kernel⟩, List.mem_of_getElem? (i := 479) (by decide +kernel), List.mem_of_getElem? (i := 524) (by decide +kernel), List.mem_of_getElem? (i := 525) (by decide +kernel)⟩
theorem lw_p11 : lw_okq (⟨"SlidTokensModel", "isNode", "(I)Z"⟩, 10) := ⟨⟨by decide +kernel, by decide +kernel⟩, List.mem_of_getElem? (i := 479) (by decide +kernel), List.mem_of_getElem? (i := 532) (by decide +kernel), List.mem_of_getElem? (i := 533) (by decide +kernel)⟩
theorem lw_p12 : lw_okq (⟨"SlidTokensModel", "put", "(III)V"⟩, 10) := ⟨⟨by decide +kernel, by decide +kernel⟩, List.mem_of_getElem? (i := 479) (by decide +kernel), List.mem_of_getElem? (i := 536) (by decide +kernel), List.mem_of_getElem? (i := 537) (by decide +kernel)⟩
theorem lw_p13 : lw_okq (⟨"SlidTokensModel", "pairs", "()I"⟩, 10) := ⟨⟨by decide +kernel, by decide +kernel⟩, List.mem_of_getElem? (i := 479) (by decide +kernel), List.mem_of_getElem? (i := 544) (by decide +kernel), List.mem_of_getElem? (i := 545) (by decide +kernel)⟩
theorem lw_p14 : lw_okq (⟨"SlidTokensModel", "isSet", "(I)Z"⟩, 10) := ⟨⟨by decide +kernel, by decide +kernel⟩, List.mem_of_getElem? (i := 479) (by decide +kernel), List.mem_of_getElem? (i := 562) (by decide +kernel), List.mem_of_getElem? (i := 563) (by decide +kernel)⟩
theorem lw_p15 : lw_okq (⟨"SlidTokensModel", "isLawful", "(II)Z"⟩, 10) := ⟨⟨by decide +kernel, by decide +kernel⟩, List.mem_of_getElem? (i := 479) (by decide +kernel), List.mem_of_getElem? (i := 566) (by decide +kernel), List.mem_of_getElem? (i := 567) (by decide +kernel)⟩
def lw_privs_1 : List (MethodName × Nat) := [(⟨"SlidTokens$Net", "isInShape", "(III)Z"⟩, 2), (⟨"SlidTokens$Net", "touchesNowhere", "(I)Z"⟩, 2), (⟨"SlidTokens$Net", "seesAll", "(I)Z"⟩, 2), (⟨"SlidTokens", "isLawfulSet", "(II)Z"⟩, 8), (⟨"SlidTokens", "begin", "(II)V"⟩, 8), (⟨"SlidTokens$Marks", "gatherSwaps", "(II)V"⟩, 9), (⟨"SlidTokens$Marks", "offer", "(II)V"⟩, 9), (⟨"SlidTokens$Marks", "forgetSpread", "()V"⟩, 9), (⟨"SlidTokens$Marks", "settle", "(I)V"⟩, 9), (⟨"SlidTokens$Marks", "lighten", "(I)V"⟩, 9), (⟨"SlidTokensModel", "part", "()V"⟩, 10), (⟨"SlidTokensModel", "isNode", "(I)Z"⟩, 10), (⟨"SlidTokensModel", "put", "(III)V"⟩, 10), (⟨"SlidTokensModel", "pairs", "()I"⟩, 10), (⟨"SlidTokensModel", "isSet", "(I)Z"⟩, 10), (⟨"SlidTokensModel", "isLawful", "(II)Z"⟩, 10)]
theorem lw_r1 : ∀ q ∈ lw_privs_1, lw_okq q := List.forall_mem_cons.mpr ⟨lw_p0, List.forall_mem_cons.mpr ⟨lw_p1, List.forall_mem_cons.mpr ⟨lw_p2, List.forall_mem_cons.mpr ⟨lw_p3, List.forall_mem_cons.mpr ⟨lw_p4, List.forall_mem_cons.mpr ⟨lw_p5, List.forall_mem_cons.mpr ⟨lw_p6, List.forall_mem_cons.mpr ⟨lw_p7, List.forall_mem_cons.mpr ⟨lw_p8, List.forall_mem_cons.mpr ⟨lw_p9, List.forall_mem_cons.mpr ⟨lw_p10, List.forall_mem_cons.mpr ⟨lw_p11, List.forall_mem_cons.mpr ⟨lw_p12, List.forall_mem_cons.mpr ⟨lw_p13, List.forall_mem_cons.mpr ⟨lw_p14, List.forall_mem_cons.mpr ⟨lw_p15, fun _ h => absurd h List.not_mem_nil⟩⟩⟩⟩⟩⟩⟩⟩⟩⟩⟩⟩⟩⟩⟩⟩
theorem lw_p16 : lw_okq (⟨"SlidTokensModel", "weightOf", "(III)I"⟩, 10) := ⟨⟨by decide +kernel, by decide +kernel⟩, List.mem_of_getElem? (i := 479) (by decide +kernel), List.mem_of_getElem? (i := 580) (by decide +kernel), List.mem_of_getElem? (i := 581) (by decide +kernel)⟩
theorem lw_p17 : lw_okq (⟨"SlidTokensModel", "isGood", "(III)Z"⟩, 10) := ⟨⟨by decide +kernel, by decide +kernel⟩, List.mem_of_getElem? (i := 479) (by decide +kernel), List.mem_of_getElem? (i := 588) (by decide +kernel), List.mem_of_getElem? (i := 589) (by decide +kernel)⟩
theorem lw_p18 : lw_okq (⟨"SlidTokensModel", "forget", "()V"⟩, 10) := ⟨⟨by decide +kernel, by decide +kernel⟩, List.mem_of_getElem? (i := 479) (by decide +kernel), List.mem_of_getElem? (i := 592) (by decide +kernel), List.mem_of_getElem? (i := 593) (by decide +kernel)⟩
theorem lw_p19 : lw_okq (⟨"SlidTokensModel", "goFrom", "(IIIZ)V"⟩, 10) := ⟨⟨by decide +kernel, by decide +kernel⟩, List.mem_of_getElem? (i := 479) (by decide +kernel), List.mem_of_getElem? (i := 597) (by decide +kernel), List.mem_of_getElem? (i := 598) (by decide +kernel)⟩
theorem lw_p20 : lw_okq (⟨"SlidTokensModel", "canBe", "(III)Z"⟩, 10) := ⟨⟨by decide +kernel, by decide +kernel⟩, List.mem_of_getElem? (i := 479) (by decide +kernel), List.mem_of_getElem? (i := 601) (by decide +kernel), List.mem_of_getElem? (i := 602) (by decide +kernel)⟩
theorem lw_p21 : lw_okq (⟨"SlidTokensModel", "isColouring", "(I)Z"⟩, 10) := ⟨⟨by decide +kernel, by decide +kernel⟩, List.mem_of_getElem? (i := 479) (by decide +kernel), List.mem_of_getElem? (i := 617) (by decide +kernel), List.mem_of_getElem? (i := 618) (by decide +kernel)⟩
theorem lw_p22 : lw_okq (⟨"SlidTokensModel", "all", "()I"⟩, 10) := ⟨⟨by decide +kernel, by decide +kernel⟩, List.mem_of_getElem? (i := 479) (by decide +kernel), List.mem_of_getElem? (i := 621) (by decide +kernel), List.mem_of_getElem? (i := 622) (by decide +kernel)⟩
theorem lw_p23 : lw_okq (⟨"SlidTokensModel", "isProper", "(I)Z"⟩, 10) := ⟨⟨by decide +kernel, by decide +kernel⟩, List.mem_of_getElem? (i := 479) (by decide +kernel), List.mem_of_getElem? (i := 625) (by decide +kernel), List.mem_of_getElem? (i := 626) (by decide +kernel)⟩
theorem lw_p24 : lw_okq (⟨"SlidTokensModel", "bleach", "()V"⟩, 10) := ⟨⟨by decide +kernel, by decide +kernel⟩, List.mem_of_getElem? (i := 479) (by decide +kernel), List.mem_of_getElem? (i := 633) (by decide +kernel), List.mem_of_getElem? (i := 634) (by decide +kernel)⟩
theorem lw_p25 : lw_okq (⟨"SlidTokensModel", "spread", "(I)I"⟩, 10) := ⟨⟨by decide +kernel, by decide +kernel⟩, List.mem_of_getElem? (i := 479) (by decide +kernel), List.mem_of_getElem? (i := 637) (by decide +kernel), List.mem_of_getElem? (i := 638) (by decide +kernel)⟩
def lw_privs_2 : List (MethodName × Nat) := [(⟨"SlidTokensModel", "weightOf", "(III)I"⟩, 10), (⟨"SlidTokensModel", "isGood", "(III)Z"⟩, 10), (⟨"SlidTokensModel", "forget", "()V"⟩, 10), (⟨"SlidTokensModel", "goFrom", "(IIIZ)V"⟩, 10), (⟨"SlidTokensModel", "canBe", "(III)Z"⟩, 10), (⟨"SlidTokensModel", "isColouring", "(I)Z"⟩, 10), (⟨"SlidTokensModel", "all", "()I"⟩, 10), (⟨"SlidTokensModel", "isProper", "(I)Z"⟩, 10), (⟨"SlidTokensModel", "bleach", "()V"⟩, 10), (⟨"SlidTokensModel", "spread", "(I)I"⟩, 10)]
theorem lw_r2 : ∀ q ∈ lw_privs_2, lw_okq q := List.forall_mem_cons.mpr ⟨lw_p16, List.forall_mem_cons.mpr ⟨lw_p17, List.forall_mem_cons.mpr ⟨lw_p18, List.forall_mem_cons.mpr ⟨lw_p19, List.forall_mem_cons.mpr ⟨lw_p20, List.forall_mem_cons.mpr ⟨lw_p21, List.forall_mem_cons.mpr ⟨lw_p22, List.forall_mem_cons.mpr ⟨lw_p23, List.forall_mem_cons.mpr ⟨lw_p24, List.forall_mem_cons.mpr ⟨lw_p25, fun _ h => absurd h List.not_mem_nil⟩⟩⟩⟩⟩⟩⟩⟩⟩⟩
def lw_privs : List (MethodName × Nat) := lw_privs_1 ++ (lw_privs_2)
/-- a private method of a superclass that can't be made itself: the class's own selection of it is the method itself (its class is no interface, by another selected method of it) -/
theorem lw_selUp {C : String} {y z z2 : MethodName} {s : State} {args : Array Value} (hy : y.cls ≠ "java/lang/invoke/MethodHandle" ∧ y.cls ≠ "java/lang/invoke/VarHandle")
    (hpriv : (Cond.privateMethod y).before args s = true) (hinst : (Cond.instanceMethod y).before args s = true) (hz : (Cond.selects C z z2).before args s = true) (hc : z2.cls = y.cls) :
    (Cond.selects C y y).before args s = true := by
  obtain ⟨mk, methM, hnamed, hmethM, -, -⟩ := Cond.instanceMethod_spec hinst
  have hfound : s.methodFound? y.cls y.name y.desc = some mk := State.methodFound?_of_named hnamed hy
  cases h1 : s.vm.findClass C with
  | none => simp [Cond.before, Cond.holds, Cond.value, h1] at hz
  | some c =>
    cases h2 : s.methodFound? z.cls z.name z.desc with
    | none => simp [Cond.before, Cond.holds, Cond.value, h1, h2] at hz
    | some r =>
      cases h3 : s.methodNamed? z2 with
      | none => simp [Cond.before, Cond.holds, Cond.value, h1, h2, h3] at hz
      | some m2 =>
        have e1 := findClass_of_methodNamed h3
        have e2 := findClass_of_methodNamed hnamed
        rw [hc] at e1
        have e3 : m2.cls = mk.cls := Option.some.inj (e1.symm.trans e2)
        have hsel : selectMethod {} s.vm c mk = .method mk := selectMethod_private hmethM (Cond.privateMethod_at hpriv mk methM hnamed hmethM)
        cases h4 : selectMethod {} s.vm c r with
        | method m' =>
          simp [Cond.before, Cond.holds, Cond.value, h1, h2, h3, h4] at hz
          rw [e3] at hz
          simp [Cond.before, Cond.holds, Cond.value, h1, hfound, hnamed, hsel]
          exact hz.2
        | _ => simp [Cond.before, Cond.holds, Cond.value, h1, h2, h3, h4] at hz
def lw_enter : MethodName := ⟨"SlidTokens$Search", "enter", "(II)V"⟩
def lw_up : List Cond := [.selects "SlidTokens$Marks" lw_enter lw_enter, .selects "SlidTokens$Paints" lw_enter lw_enter]
def lw_tbl : List Cond := lw_up ++ (k2_sels lw_privs ++ tables_1)
theorem lw_hts_up {args : Array Value} {s : State} (h : ∀ w ∈ k2_sels lw_privs ++ tables_1, w.before args s = true) : ∀ w ∈ lw_tbl, w.before args s = true := by
  intro w hw
  have hp : (Cond.privateMethod lw_enter).before args s = true := h _ (List.mem_append_right _ (List.mem_of_getElem? (i := 341) (by decide +kernel)))
  have hi : (Cond.instanceMethod lw_enter).before args s = true := h _ (List.mem_append_right _ (List.mem_of_getElem? (i := 342) (by decide +kernel)))
  rcases List.mem_append.mp hw with hw | hw
  · rcases List.mem_cons.mp hw with rfl | hw
    · exact lw_selUp (z := ⟨"SlidTokens$Search", "spread", "(II)V"⟩) (z2 := ⟨"SlidTokens$Search", "spread", "(II)V"⟩) ⟨by decide, by decide⟩ hp hi (h _ (List.mem_append_right _ (List.mem_of_getElem? (i := 337) (by decide +kernel)))) rfl
    · rcases List.mem_cons.mp hw with rfl | hw
      · exact lw_selUp (z := ⟨"SlidTokens$Search", "spread", "(II)V"⟩) (z2 := ⟨"SlidTokens$Search", "spread", "(II)V"⟩) ⟨by decide, by decide⟩ hp hi (h _ (List.mem_append_right _ (List.mem_of_getElem? (i := 338) (by decide +kernel)))) rfl
      · exact absurd hw List.not_mem_nil
  · exact h w hw
theorem lw_privs_ok : ∀ q ∈ lw_privs, lw_okq q := by
  show ∀ q ∈ lw_privs_1 ++ (lw_privs_2), lw_okq q
  exact List.forall_mem_append.mpr ⟨lw_r1, lw_r2⟩
-- ===== end of PART A; then your names; then what follows =====
/-! THE CLAIM OUT OF ONE WALK OF THE LAW'S BODY. Your part is whole_start (and what it stands on); all else here is the same for every law, but numbers. -/
def R_law : String := "SlidTokensLaw"
def lw_P (b : Addr) (xs : List Int32) (args : Array Value) (s : State) : Prop := args = #[.ref b] ∧ s.IntsAt b xs ∧ xs.length ≤ 3072 ∧ (Jvm.Cond.and given_1 narrow_1).before args s = true
def lw_Q (_ : Array Value) (s : State) (o : Outcome) (t : State) : Prop := o = .returned (some (.int 1)) ∧ Framed s o t [] 600000 7302250
def lw_Z (below : List Frame) (a : Array Value) (s : State) : State → Prop := fun t => ∃ o, t.status = .running ∧ Ended t below o ∧ lw_Q a s o t
/-- the law's own end, with 1 on the stack, nothing written that was there before, its room as the claim has it -/
theorem lw_ret {p : Program} {l : Launch} {e : Env} {s : State} {m : MethodId} {below : List Frame} {meth : Method} {c : Code} {b : Nat} (hx : p.tables.exec = Jvm.exec) (hb : c.code = code) (hr : meth.sig.returnType = ret) (hlocks : meth.locks = false) {pc : Nat} {H : Heap} {ls : Array Slot} (hdg : decode code pc = .ok (.ireturn, 1)) : W p l e room_1 s m #[Value.ref b] below meth c H [] 600000 7302250 (lw_Z below #[Value.ref b] s) (F0 m pc ls [.int 1]) := by
  intro T hT X
  obtain ⟨fs, hret, hrun, hended, hW, hframe⟩ := X.leave (v := some (.int 1)) (hlocks := hlocks) (fun h => by rw [hr] at h; cases h)
  have hmeth' : T.vm.method? m = some meth := X.method'
  refine ⟨T.setFrames fs, ?_, .returned (some (.int 1)), hrun, hended, rfl, ⟨_, rfl⟩, hW, hframe⟩
  jvm_step X.here [X.here.top, hx, hb, hdg, hmeth', hr, ret, narrow_b1]
  (try refine ⟨rfl, ?_⟩); (try refine ⟨rfl, ?_⟩)
  first | (intro acts; rw [hret _ acts rfl rfl rfl]) | rw [hret _ _ rfl rfl rfl]
  exact Steps.refl _
/-- what holds at the law's entry: the machine, the code, the tables' words (any of lw_tbl by 'hts w (by decide +kernel)'), the script of L ints xs at the cell b, what the Statement gives of the start (any of its parts by flat_of_before) -/
def lw_At (p : Program) (s : State) (m : MethodId) (meth : Method) (c : Code) (b L : Nat) (xs : Nat → Int32) : Prop :=
  p.tables.exec = Jvm.exec ∧ c.code = code ∧ meth.sig.returnType = ret ∧ c.maxLocals = 4 ∧ s.vm.findClass R_law = some m.cls ∧ (∀ w ∈ lw_tbl, w.before #[Value.ref b] s = true) ∧ va_X b L xs s s.heap ∧ b < s.heap.size ∧ meth.locks = false ∧ (Jvm.Cond.and given_1 narrow_1).before #[Value.ref b] s = true
end
section
/-! ===== BEGIN words of one list among another's, by their places ===== -/
theorem goodIn_r {big : List Cond} (ws : List Cond) (ps : List Nat) (hp : ws = ps.filterMap (fun i => big[i]?)) (h : ws.all goodWord = true) : GoodIn big ws := by
  intro w hw
  have h1 := List.all_eq_true.mp h w hw
  rw [hp] at hw
  obtain ⟨i, -, hi⟩ := List.mem_filterMap.mp hw
  have hm : w ∈ big := by first | exact List.mem_of_getElem? hi | exact List.getElem?_mem hi
  exact ⟨hm, good_of_word h1⟩
theorem goodIn_app {big a b : List Cond} (ha : GoodIn big a) (hb : GoodIn big b) : GoodIn big (a ++ b) := fun w h => (List.mem_append.mp h).elim (ha w) (hb w)
theorem goodIn_ca {big a b : List Cond} {c : Cond} (ha : GoodIn big (c :: a)) (hb : GoodIn big b) : GoodIn big (c :: (a ++ b)) := fun w h => (List.mem_cons.mp h).elim (fun e => ha w (List.mem_cons.mpr (Or.inl e))) (fun h => (List.mem_append.mp h).elim (fun h => ha w (List.mem_cons.mpr (Or.inr h))) (hb w))
theorem goodIn_sub {big ws : List Cond} (hm : ∀ w ∈ ws, w ∈ big) (h : ws.all goodWord = true) : GoodIn big ws := fun w hw => ⟨hm w hw, good_of_word (List.all_eq_true.mp h w hw)⟩
/-! ===== END ===== -/

/-! ===== BEGIN printed: names, fields, word lists, decode rows ===== -/
def RX0 : String := "SlidTokens$Both"
def TX0 : u_T := fun k => match k with
  | _ => ("", "", "", false)
def tyX0 : Nat → FieldType := fun k => match k with
  | _ => .int
abbrev wsX00 : List Cond := u_ws RX0 TX0 0
theorem nmX0 : ∀ a, a < 0 → ∀ b, b < 0 → a ≠ b → (TX0 a).2.1 ≠ (TX0 b).2.1 := by decide +kernel
theorem tyX0_ok : ∀ k, k < 0 → parseFieldDescriptor (TX0 k).2.2.1 = some (tyX0 k) := by decide +kernel
abbrev cX0_init : ByteArray := prog_2_method_1_code
def yX0_init : MethodName := ⟨RX0, "<init>", "()V"⟩
abbrev cX0_weigh : ByteArray := prog_2_method_2_code
def yX0_weigh : MethodName := ⟨RX0, "weigh", "(LSlidTokens$Net;IILSlidTokens$Tally;)I"⟩
def RX1 : String := "SlidTokens$Jump"
def TX1 : u_T := fun k => match k with
  | _ => ("", "", "", false)
def tyX1 : Nat → FieldType := fun k => match k with
  | _ => .int
abbrev wsX10 : List Cond := u_ws RX1 TX1 0
theorem nmX1 : ∀ a, a < 0 → ∀ b, b < 0 → a ≠ b → (TX1 a).2.1 ≠ (TX1 b).2.1 := by decide +kernel
theorem tyX1_ok : ∀ k, k < 0 → parseFieldDescriptor (TX1 k).2.2.1 = some (tyX1 k) := by decide +kernel
abbrev cX1_init : ByteArray := prog_3_method_1_code
def yX1_init : MethodName := ⟨RX1, "<init>", "()V"⟩
abbrev cX1_weigh : ByteArray := prog_3_method_2_code
def yX1_weigh : MethodName := ⟨RX1, "weigh", "(LSlidTokens$Net;IILSlidTokens$Tally;)I"⟩
def RX2 : String := "SlidTokens$Marks"
def TX2 : u_T := fun k => match k with
  | 0 => ("SlidTokens$Search", "far", "[I", true)
  | 1 => ("SlidTokens$Search", "line", "[I", true)
  | 2 => ("SlidTokens$Search", "next", "[I", true)
  | 3 => ("SlidTokens$Search", "size", "I", false)
  | 4 => ("SlidTokens$Search", "tail", "I", false)
  | 5 => ("SlidTokens$Search", "found", "I", false)
  | 6 => ("SlidTokens$Marks", "net", "LSlidTokens$Net;", true)
  | 7 => ("SlidTokens$Marks", "cost", "[I", true)
  | _ => ("SlidTokens$Marks", "moves", "I", false)
def tyX2 : Nat → FieldType := fun k => match k with
  | 0 => .array .int
  | 1 => .array .int
  | 2 => .array .int
  | 3 => .int
  | 4 => .int
  | 5 => .int
  | 6 => .object "SlidTokens$Net"
  | 7 => .array .int
  | _ => .int
abbrev wsX20 : List Cond := u_ws RX2 TX2 9
theorem nmX2 : ∀ a, a < 9 → ∀ b, b < 9 → a ≠ b → (TX2 a).2.1 ≠ (TX2 b).2.1 := by decide +kernel
theorem tyX2_ok : ∀ k, k < 9 → parseFieldDescriptor (TX2 k).2.2.1 = some (tyX2 k) := by decide +kernel
abbrev cX2_init : ByteArray := prog_4_method_1_code
def yX2_init : MethodName := ⟨RX2, "<init>", "(LSlidTokens$Net;)V"⟩
abbrev cX2_begin : ByteArray := prog_4_method_2_code
def yX2_begin : MethodName := ⟨RX2, "begin", "(IIII)V"⟩
abbrev cX2_gather : ByteArray := prog_4_method_3_code
def yX2_gather : MethodName := ⟨RX2, "gather", "(I)V"⟩
abbrev cX2_gatherSwaps : ByteArray := prog_4_method_4_code
def yX2_gatherSwaps : MethodName := ⟨RX2, "gatherSwaps", "(II)V"⟩
abbrev cX2_offer : ByteArray := prog_4_method_5_code
def yX2_offer : MethodName := ⟨RX2, "offer", "(II)V"⟩
abbrev cX2_following : ByteArray := prog_4_method_6_code
def yX2_following : MethodName := ⟨RX2, "following", "(II)I"⟩
abbrev cX2_lightest : ByteArray := prog_4_method_7_code
def yX2_lightest : MethodName := ⟨RX2, "lightest", "(II)I"⟩
abbrev cX2_forgetSpread : ByteArray := prog_4_method_8_code
def yX2_forgetSpread : MethodName := ⟨RX2, "forgetSpread", "()V"⟩
abbrev cX2_settle : ByteArray := prog_4_method_9_code
def yX2_settle : MethodName := ⟨RX2, "settle", "(I)V"⟩
abbrev cX2_lighten : ByteArray := prog_4_method_10_code
def yX2_lighten : MethodName := ⟨RX2, "lighten", "(I)V"⟩
abbrev cX2_frozen : ByteArray := prog_4_method_11_code
def yX2_frozen : MethodName := ⟨RX2, "frozen", "()I"⟩
abbrev cX2_farthest : ByteArray := prog_4_method_12_code
def yX2_farthest : MethodName := ⟨RX2, "farthest", "()I"⟩
def RX3 : String := "SlidTokens$Net"
def TX3 : u_T := fun k => match k with
  | 0 => ("SlidTokens$Net", "near", "[I", true)
  | _ => ("SlidTokens$Net", "nodes", "I", false)
def tyX3 : Nat → FieldType := fun k => match k with
  | 0 => .array .int
  | _ => .int
abbrev wsX30 : List Cond := u_ws RX3 TX3 2
theorem nmX3 : ∀ a, a < 2 → ∀ b, b < 2 → a ≠ b → (TX3 a).2.1 ≠ (TX3 b).2.1 := by decide +kernel
theorem tyX3_ok : ∀ k, k < 2 → parseFieldDescriptor (TX3 k).2.2.1 = some (tyX3 k) := by decide +kernel
abbrev cX3_init : ByteArray := prog_5_method_1_code
def yX3_init : MethodName := ⟨RX3, "<init>", "()V"⟩
abbrev cX3_restart : ByteArray := prog_5_method_2_code
def yX3_restart : MethodName := ⟨RX3, "restart", "(I)V"⟩
abbrev cX3_all : ByteArray := prog_5_method_3_code
def yX3_all : MethodName := ⟨RX3, "all", "()I"⟩
abbrev cX3_hasNode : ByteArray := prog_5_method_4_code
def yX3_hasNode : MethodName := ⟨RX3, "hasNode", "(I)Z"⟩
abbrev cX3_hasSet : ByteArray := prog_5_method_5_code
def yX3_hasSet : MethodName := ⟨RX3, "hasSet", "(I)Z"⟩
abbrev cX3_areJoined : ByteArray := prog_5_method_6_code
def yX3_areJoined : MethodName := ⟨RX3, "areJoined", "(II)Z"⟩
abbrev cX3_tie : ByteArray := prog_5_method_7_code
def yX3_tie : MethodName := ⟨RX3, "tie", "(IIZ)V"⟩
abbrev cX3_pairs : ByteArray := prog_5_method_8_code
def yX3_pairs : MethodName := ⟨RX3, "pairs", "()I"⟩
abbrev cX3_form : ByteArray := prog_5_method_9_code
def yX3_form : MethodName := ⟨RX3, "form", "(I)V"⟩
abbrev cX3_isInShape : ByteArray := prog_5_method_10_code
def yX3_isInShape : MethodName := ⟨RX3, "isInShape", "(III)Z"⟩
abbrev cX3_isLawful : ByteArray := prog_5_method_11_code
def yX3_isLawful : MethodName := ⟨RX3, "isLawful", "(II)Z"⟩
abbrev cX3_touchesNowhere : ByteArray := prog_5_method_12_code
def yX3_touchesNowhere : MethodName := ⟨RX3, "touchesNowhere", "(I)Z"⟩
abbrev cX3_seesAll : ByteArray := prog_5_method_13_code
def yX3_seesAll : MethodName := ⟨RX3, "seesAll", "(I)Z"⟩
def RX4 : String := "SlidTokens$Paints"
def TX4 : u_T := fun k => match k with
  | 0 => ("SlidTokens$Search", "far", "[I", true)
  | 1 => ("SlidTokens$Search", "line", "[I", true)
  | 2 => ("SlidTokens$Search", "next", "[I", true)
  | 3 => ("SlidTokens$Search", "size", "I", false)
  | 4 => ("SlidTokens$Search", "tail", "I", false)
  | 5 => ("SlidTokens$Search", "found", "I", false)
  | 6 => ("SlidTokens$Paints", "net", "LSlidTokens$Net;", true)
  | _ => ("SlidTokens$Paints", "colours", "I", false)
def tyX4 : Nat → FieldType := fun k => match k with
  | 0 => .array .int
  | 1 => .array .int
  | 2 => .array .int
  | 3 => .int
  | 4 => .int
  | 5 => .int
  | 6 => .object "SlidTokens$Net"
  | _ => .int
abbrev wsX40 : List Cond := u_ws RX4 TX4 8
theorem nmX4 : ∀ a, a < 8 → ∀ b, b < 8 → a ≠ b → (TX4 a).2.1 ≠ (TX4 b).2.1 := by decide +kernel
theorem tyX4_ok : ∀ k, k < 8 → parseFieldDescriptor (TX4 k).2.2.1 = some (tyX4 k) := by decide +kernel
abbrev cX4_init : ByteArray := prog_6_method_1_code
def yX4_init : MethodName := ⟨RX4, "<init>", "(LSlidTokens$Net;)V"⟩
abbrev cX4_begin : ByteArray := prog_6_method_2_code
def yX4_begin : MethodName := ⟨RX4, "begin", "(I)V"⟩
abbrev cX4_isLawful : ByteArray := prog_6_method_3_code
def yX4_isLawful : MethodName := ⟨RX4, "isLawful", "(II)Z"⟩
abbrev cX4_isColouring : ByteArray := prog_6_method_4_code
def yX4_isColouring : MethodName := ⟨RX4, "isColouring", "(II)Z"⟩
abbrev cX4_differs : ByteArray := prog_6_method_5_code
def yX4_differs : MethodName := ⟨RX4, "differs", "(I)Z"⟩
abbrev cX4_colourOf : ByteArray := prog_6_method_6_code
def yX4_colourOf : MethodName := ⟨RX4, "colourOf", "(II)I"⟩
abbrev cX4_gather : ByteArray := prog_6_method_7_code
def yX4_gather : MethodName := ⟨RX4, "gather", "(I)V"⟩
abbrev cX4_many : ByteArray := prog_6_method_8_code
def yX4_many : MethodName := ⟨RX4, "many", "()I"⟩
abbrev cX4_stuck : ByteArray := prog_6_method_9_code
def yX4_stuck : MethodName := ⟨RX4, "stuck", "()I"⟩
def RX5 : String := "SlidTokens$Search"
def TX5 : u_T := fun k => match k with
  | _ => ("", "", "", false)
def tyX5 : Nat → FieldType := fun k => match k with
  | _ => .int
abbrev wsX50 : List Cond := u_ws RX5 TX5 0
theorem nmX5 : ∀ a, a < 0 → ∀ b, b < 0 → a ≠ b → (TX5 a).2.1 ≠ (TX5 b).2.1 := by decide +kernel
theorem tyX5_ok : ∀ k, k < 0 → parseFieldDescriptor (TX5 k).2.2.1 = some (tyX5 k) := by decide +kernel
abbrev cX5_init : ByteArray := prog_7_method_1_code
def yX5_init : MethodName := ⟨RX5, "<init>", "(II)V"⟩
abbrev cX5_spread : ByteArray := prog_7_method_3_code
def yX5_spread : MethodName := ⟨RX5, "spread", "(II)V"⟩
abbrev cX5_enter : ByteArray := prog_7_method_4_code
def yX5_enter : MethodName := ⟨RX5, "enter", "(II)V"⟩
abbrev cX5_note : ByteArray := prog_7_method_5_code
def yX5_note : MethodName := ⟨RX5, "note", "(I)V"⟩
abbrev cX5_fewest : ByteArray := prog_7_method_6_code
def yX5_fewest : MethodName := ⟨RX5, "fewest", "(II)I"⟩
abbrev cX5_components : ByteArray := prog_7_method_7_code
def yX5_components : MethodName := ⟨RX5, "components", "()I"⟩
def RX6 : String := "SlidTokens$Slide"
def TX6 : u_T := fun k => match k with
  | _ => ("", "", "", false)
def tyX6 : Nat → FieldType := fun k => match k with
  | _ => .int
abbrev wsX60 : List Cond := u_ws RX6 TX6 0
theorem nmX6 : ∀ a, a < 0 → ∀ b, b < 0 → a ≠ b → (TX6 a).2.1 ≠ (TX6 b).2.1 := by decide +kernel
theorem tyX6_ok : ∀ k, k < 0 → parseFieldDescriptor (TX6 k).2.2.1 = some (tyX6 k) := by decide +kernel
abbrev cX6_init : ByteArray := prog_8_method_1_code
def yX6_init : MethodName := ⟨RX6, "<init>", "()V"⟩
abbrev cX6_weigh : ByteArray := prog_8_method_2_code
def yX6_weigh : MethodName := ⟨RX6, "weigh", "(LSlidTokens$Net;IILSlidTokens$Tally;)I"⟩
abbrev cX6_isSwap : ByteArray := prog_8_method_3_code
def yX6_isSwap : MethodName := ⟨RX6, "isSwap", "(II)Z"⟩
def RX7 : String := "SlidTokens$Tally"
def TX7 : u_T := fun k => match k with
  | _ => ("SlidTokens$Tally", "sum", "J", false)
def tyX7 : Nat → FieldType := fun k => match k with
  | _ => .long
abbrev wsX70 : List Cond := u_ws RX7 TX7 1
theorem nmX7 : ∀ a, a < 1 → ∀ b, b < 1 → a ≠ b → (TX7 a).2.1 ≠ (TX7 b).2.1 := by decide +kernel
theorem tyX7_ok : ∀ k, k < 1 → parseFieldDescriptor (TX7 k).2.2.1 = some (tyX7 k) := by decide +kernel
abbrev cX7_init : ByteArray := prog_9_method_1_code
def yX7_init : MethodName := ⟨RX7, "<init>", "()V"⟩
def RX8 : String := "SlidTokens"
def TX8 : u_T := fun k => match k with
  | 0 => ("SlidTokens", "graph", "LSlidTokens$Net;", true)
  | 1 => ("SlidTokens", "marks", "LSlidTokens$Marks;", true)
  | 2 => ("SlidTokens", "paints", "LSlidTokens$Paints;", true)
  | 3 => ("SlidTokens", "weighers", "[LSlidTokens$Slide;", true)
  | 4 => ("SlidTokens", "tally", "LSlidTokens$Tally;", true)
  | 5 => ("SlidTokens", "least", "I", false)
  | 6 => ("SlidTokens", "most", "I", false)
  | _ => ("SlidTokens", "colours", "I", false)
def tyX8 : Nat → FieldType := fun k => match k with
  | 0 => .object "SlidTokens$Net"
  | 1 => .object "SlidTokens$Marks"
  | 2 => .object "SlidTokens$Paints"
  | 3 => .array (.object "SlidTokens$Slide")
  | 4 => .object "SlidTokens$Tally"
  | 5 => .int
  | 6 => .int
  | _ => .int
abbrev wsX80 : List Cond := u_ws RX8 TX8 8
theorem nmX8 : ∀ a, a < 8 → ∀ b, b < 8 → a ≠ b → (TX8 a).2.1 ≠ (TX8 b).2.1 := by decide +kernel
theorem tyX8_ok : ∀ k, k < 8 → parseFieldDescriptor (TX8 k).2.2.1 = some (tyX8 k) := by decide +kernel
abbrev cX8_init : ByteArray := prog_1_method_1_code
def yX8_init : MethodName := ⟨RX8, "<init>", "()V"⟩
abbrev cX8_net : ByteArray := prog_1_method_2_code
def yX8_net : MethodName := ⟨RX8, "net", "(I)I"⟩
abbrev cX8_join : ByteArray := prog_1_method_3_code
def yX8_join : MethodName := ⟨RX8, "join", "(III)I"⟩
abbrev cX8_shape : ByteArray := prog_1_method_4_code
def yX8_shape : MethodName := ⟨RX8, "shape", "(I)I"⟩
abbrev cX8_set : ByteArray := prog_1_method_5_code
def yX8_set : MethodName := ⟨RX8, "set", "(II)I"⟩
abbrev cX8_lawful : ByteArray := prog_1_method_6_code
def yX8_lawful : MethodName := ⟨RX8, "lawful", "(II)I"⟩
abbrev cX8_count : ByteArray := prog_1_method_7_code
def yX8_count : MethodName := ⟨RX8, "count", "(II)I"⟩
abbrev cX8_weight : ByteArray := prog_1_method_8_code
def yX8_weight : MethodName := ⟨RX8, "weight", "(III)I"⟩
abbrev cX8_walk : ByteArray := prog_1_method_9_code
def yX8_walk : MethodName := ⟨RX8, "walk", "(IIIII)I"⟩
abbrev cX8_reach : ByteArray := prog_1_method_10_code
def yX8_reach : MethodName := ⟨RX8, "reach", "(IIII)I"⟩
abbrev cX8_parts : ByteArray := prog_1_method_11_code
def yX8_parts : MethodName := ⟨RX8, "parts", "(III)I"⟩
abbrev cX8_proper : ByteArray := prog_1_method_12_code
def yX8_proper : MethodName := ⟨RX8, "proper", "(I)I"⟩
abbrev cX8_shades : ByteArray := prog_1_method_13_code
def yX8_shades : MethodName := ⟨RX8, "shades", "(II)I"⟩
abbrev cX8_heaps : ByteArray := prog_1_method_14_code
def yX8_heaps : MethodName := ⟨RX8, "heaps", "(I)I"⟩
abbrev cX8_told : ByteArray := prog_1_method_15_code
def yX8_told : MethodName := ⟨RX8, "told", "(I)I"⟩
abbrev cX8_trace : ByteArray := prog_1_method_16_code
def yX8_trace : MethodName := ⟨RX8, "trace", "()J"⟩
abbrev cX8_begin : ByteArray := prog_1_method_17_code
def yX8_begin : MethodName := ⟨RX8, "begin", "(II)V"⟩
abbrev cX8_isLawfulSet : ByteArray := prog_1_method_18_code
def yX8_isLawfulSet : MethodName := ⟨RX8, "isLawfulSet", "(II)Z"⟩
abbrev cX8_isKind : ByteArray := prog_1_method_19_code
def yX8_isKind : MethodName := ⟨RX8, "isKind", "(I)Z"⟩
abbrev cX8_areMoves : ByteArray := prog_1_method_20_code
def yX8_areMoves : MethodName := ⟨RX8, "areMoves", "(I)Z"⟩
abbrev cX8_isWithin : ByteArray := prog_1_method_21_code
def yX8_isWithin : MethodName := ⟨RX8, "isWithin", "(III)Z"⟩
abbrev cX8_asNumber : ByteArray := prog_1_method_22_code
def yX8_asNumber : MethodName := ⟨RX8, "asNumber", "(Z)I"⟩
def RX9 : String := "SlidTokensModel"
def TX9 : u_T := fun k => match k with
  | 0 => ("SlidTokensModel", "n", "I", false)
  | 1 => ("SlidTokensModel", "joined", "[I", true)
  | 2 => ("SlidTokensModel", "fewest", "I", false)
  | 3 => ("SlidTokensModel", "most", "I", false)
  | 4 => ("SlidTokensModel", "colours", "I", false)
  | 5 => ("SlidTokensModel", "trace", "J", false)
  | 6 => ("SlidTokensModel", "far", "[I", true)
  | 7 => ("SlidTokensModel", "isDone", "[Z", true)
  | 8 => ("SlidTokensModel", "shade", "[I", true)
  | _ => ("SlidTokensModel", "pile", "[I", true)
def tyX9 : Nat → FieldType := fun k => match k with
  | 0 => .int
  | 1 => .array .int
  | 2 => .int
  | 3 => .int
  | 4 => .int
  | 5 => .long
  | 6 => .array .int
  | 7 => .array .boolean
  | 8 => .array .int
  | _ => .array .int
abbrev wsX90 : List Cond := u_ws RX9 TX9 10
theorem nmX9 : ∀ a, a < 10 → ∀ b, b < 10 → a ≠ b → (TX9 a).2.1 ≠ (TX9 b).2.1 := by decide +kernel
theorem tyX9_ok : ∀ k, k < 10 → parseFieldDescriptor (TX9 k).2.2.1 = some (tyX9 k) := by decide +kernel
abbrev cX9_init : ByteArray := prog_11_method_1_code
def yX9_init : MethodName := ⟨RX9, "<init>", "()V"⟩
abbrev cX9_in : ByteArray := prog_11_method_3_code
def yX9_in : MethodName := ⟨RX9, "in", "(III)Z"⟩
abbrev cX9_isSet : ByteArray := prog_11_method_4_code
def yX9_isSet : MethodName := ⟨RX9, "isSet", "(I)Z"⟩
abbrev cX9_isKind : ByteArray := prog_11_method_5_code
def yX9_isKind : MethodName := ⟨RX9, "isKind", "(I)Z"⟩
abbrev cX9_size : ByteArray := prog_11_method_6_code
def yX9_size : MethodName := ⟨RX9, "size", "(I)I"⟩
abbrev cX9_net : ByteArray := prog_11_method_7_code
def yX9_net : MethodName := ⟨RX9, "net", "(I)I"⟩
abbrev cX9_part : ByteArray := prog_11_method_8_code
def yX9_part : MethodName := ⟨RX9, "part", "()V"⟩
abbrev cX9_isNode : ByteArray := prog_11_method_9_code
def yX9_isNode : MethodName := ⟨RX9, "isNode", "(I)Z"⟩
abbrev cX9_put : ByteArray := prog_11_method_10_code
def yX9_put : MethodName := ⟨RX9, "put", "(III)V"⟩
abbrev cX9_join : ByteArray := prog_11_method_11_code
def yX9_join : MethodName := ⟨RX9, "join", "(III)I"⟩
abbrev cX9_pairs : ByteArray := prog_11_method_12_code
def yX9_pairs : MethodName := ⟨RX9, "pairs", "()I"⟩
abbrev cX9_shape : ByteArray := prog_11_method_13_code
def yX9_shape : MethodName := ⟨RX9, "shape", "(I)I"⟩
abbrev cX9_set : ByteArray := prog_11_method_14_code
def yX9_set : MethodName := ⟨RX9, "set", "(II)I"⟩
abbrev cX9_isLawful : ByteArray := prog_11_method_15_code
def yX9_isLawful : MethodName := ⟨RX9, "isLawful", "(II)Z"⟩
abbrev cX9_lawful : ByteArray := prog_11_method_16_code
def yX9_lawful : MethodName := ⟨RX9, "lawful", "(II)I"⟩
abbrev cX9_count : ByteArray := prog_11_method_17_code
def yX9_count : MethodName := ⟨RX9, "count", "(II)I"⟩
abbrev cX9_weightOf : ByteArray := prog_11_method_18_code
def yX9_weightOf : MethodName := ⟨RX9, "weightOf", "(III)I"⟩
abbrev cX9_weight : ByteArray := prog_11_method_19_code
def yX9_weight : MethodName := ⟨RX9, "weight", "(III)I"⟩
abbrev cX9_canBe : ByteArray := prog_11_method_20_code
def yX9_canBe : MethodName := ⟨RX9, "canBe", "(III)Z"⟩
abbrev cX9_goFrom : ByteArray := prog_11_method_21_code
def yX9_goFrom : MethodName := ⟨RX9, "goFrom", "(IIIZ)V"⟩
abbrev cX9_forget : ByteArray := prog_11_method_22_code
def yX9_forget : MethodName := ⟨RX9, "forget", "()V"⟩
abbrev cX9_isGood : ByteArray := prog_11_method_23_code
def yX9_isGood : MethodName := ⟨RX9, "isGood", "(III)Z"⟩
abbrev cX9_walk : ByteArray := prog_11_method_24_code
def yX9_walk : MethodName := ⟨RX9, "walk", "(IIIII)I"⟩
abbrev cX9_reach : ByteArray := prog_11_method_25_code
def yX9_reach : MethodName := ⟨RX9, "reach", "(IIII)I"⟩
abbrev cX9_parts : ByteArray := prog_11_method_26_code
def yX9_parts : MethodName := ⟨RX9, "parts", "(III)I"⟩
abbrev cX9_all : ByteArray := prog_11_method_27_code
def yX9_all : MethodName := ⟨RX9, "all", "()I"⟩
abbrev cX9_isColouring : ByteArray := prog_11_method_28_code
def yX9_isColouring : MethodName := ⟨RX9, "isColouring", "(I)Z"⟩
abbrev cX9_isProper : ByteArray := prog_11_method_29_code
def yX9_isProper : MethodName := ⟨RX9, "isProper", "(I)Z"⟩
abbrev cX9_proper : ByteArray := prog_11_method_30_code
def yX9_proper : MethodName := ⟨RX9, "proper", "(I)I"⟩
abbrev cX9_spread : ByteArray := prog_11_method_31_code
def yX9_spread : MethodName := ⟨RX9, "spread", "(I)I"⟩
abbrev cX9_bleach : ByteArray := prog_11_method_32_code
def yX9_bleach : MethodName := ⟨RX9, "bleach", "()V"⟩
abbrev cX9_shades : ByteArray := prog_11_method_33_code
def yX9_shades : MethodName := ⟨RX9, "shades", "(II)I"⟩
abbrev cX9_heaps : ByteArray := prog_11_method_34_code
def yX9_heaps : MethodName := ⟨RX9, "heaps", "(I)I"⟩
abbrev cX9_told : ByteArray := prog_11_method_35_code
def yX9_told : MethodName := ⟨RX9, "told", "(I)I"⟩
abbrev cX9_trace : ByteArray := prog_11_method_36_code
def yX9_trace : MethodName := ⟨RX9, "trace", "()J"⟩
def RJ6 : String := "java/lang/Integer"
def TJ6 : u_T := fun k => match k with
  | _ => ("", "", "", false)
def tyJ6 : Nat → FieldType := fun k => match k with
  | _ => .int
abbrev wsJ60 : List Cond := u_ws RJ6 TJ6 0
theorem nmJ6 : ∀ a, a < 0 → ∀ b, b < 0 → a ≠ b → (TJ6 a).2.1 ≠ (TJ6 b).2.1 := by decide +kernel
theorem tyJ6_ok : ∀ k, k < 0 → parseFieldDescriptor (TJ6 k).2.2.1 = some (tyJ6 k) := by decide +kernel
abbrev cJ6_numberOfTrailingZeros_0f7a4 : ByteArray := prog_12_method_48_code
def yJ6_numberOfTrailingZeros_0f7a4 : MethodName := ⟨RJ6, "numberOfTrailingZeros", "(I)I"⟩
abbrev cJ6_bitCount_0f7a4 : ByteArray := prog_12_method_49_code
def yJ6_bitCount_0f7a4 : MethodName := ⟨RJ6, "bitCount", "(I)I"⟩
def RJ9 : String := "java/lang/Math"
def TJ9 : u_T := fun k => match k with
  | _ => ("", "", "", false)
def tyJ9 : Nat → FieldType := fun k => match k with
  | _ => .int
abbrev wsJ90 : List Cond := u_ws RJ9 TJ9 0
theorem nmJ9 : ∀ a, a < 0 → ∀ b, b < 0 → a ≠ b → (TJ9 a).2.1 ≠ (TJ9 b).2.1 := by decide +kernel
theorem tyJ9_ok : ∀ k, k < 0 → parseFieldDescriptor (TJ9 k).2.2.1 = some (tyJ9 k) := by decide +kernel
abbrev cJ9_min_7cf53 : ByteArray := prog_13_method_69_code
def yJ9_min_7cf53 : MethodName := ⟨RJ9, "min", "(II)I"⟩
def RJ7 : String := "java/util/Arrays"
def TJ7 : u_T := fun k => match k with
  | _ => ("", "", "", false)
def tyJ7 : Nat → FieldType := fun k => match k with
  | _ => .int
abbrev wsJ70 : List Cond := u_ws RJ7 TJ7 0
theorem nmJ7 : ∀ a, a < 0 → ∀ b, b < 0 → a ≠ b → (TJ7 a).2.1 ≠ (TJ7 b).2.1 := by decide +kernel
theorem tyJ7_ok : ∀ k, k < 0 → parseFieldDescriptor (TJ7 k).2.2.1 = some (tyJ7 k) := by decide +kernel
abbrev cJ7_fill_53178 : ByteArray := prog_14_method_103_code
def yJ7_fill_53178 : MethodName := ⟨RJ7, "fill", "([II)V"⟩
def RL : String := "SlidTokensLaw"
abbrev cL_law : ByteArray := code
def yL_law : MethodName := ⟨RL, "law", "([I)Z"⟩
def wsX6_init : List Cond := .code yX6_init cX6_init 1 none :: ([.methodLink RX6 3 objectInit, .instanceMethod objectInit, .code objectInit ⟨#[0xb1]⟩ 1 none])
def wsX1_init : List Cond := .code yX1_init cX1_init 1 none :: ([.instanceMethod yX6_init, .initialized RX6, .code yX6_init cX6_init 1 none, .methodLink RX6 3 objectInit, .instanceMethod objectInit, .code objectInit ⟨#[0xb1]⟩ 1 none])
def wsX0_init : List Cond := .code yX0_init cX0_init 1 none :: ([.instanceMethod yX1_init, .initialized RX1, .code yX1_init cX1_init 1 none, .instanceMethod yX6_init, .initialized RX6, .code yX6_init cX6_init 1 none, .methodLink RX6 3 objectInit, .instanceMethod objectInit, .code objectInit ⟨#[0xb1]⟩ 1 none])
def wsJ6_bitCount_0f7a4 : List Cond := .code yJ6_bitCount_0f7a4 cJ6_bitCount_0f7a4 1 (some .int) :: ([.constant RJ6 265 (1431655765), .constant RJ6 266 (858993459), .constant RJ6 267 (252645135)])
def wsX6_isSwap : List Cond := .code yX6_isSwap cX6_isSwap 2 (some .boolean) :: ([.methodLink RX6 32 yJ6_bitCount_0f7a4, .static yJ6_bitCount_0f7a4, .initialized RJ6, .code yJ6_bitCount_0f7a4 cJ6_bitCount_0f7a4 1 (some .int), .constant RJ6 265 (1431655765), .constant RJ6 266 (858993459), .constant RJ6 267 (252645135)])
def wsJ6_numberOfTrailingZeros_0f7a4 : List Cond := .code yJ6_numberOfTrailingZeros_0f7a4 cJ6_numberOfTrailingZeros_0f7a4 2 (some .int) :: ([.constant RJ6 264 (65536)])
def wsX3_hasNode : List Cond := .code yX3_hasNode cX3_hasNode 2 (some .boolean) :: ([.fieldLink RX3 15 "SlidTokens$Net" "nodes" "I"] ++ wsX30)
def wsX3_areJoined : List Cond := .code yX3_areJoined cX3_areJoined 3 (some .boolean) :: ([.fieldLink RX3 9 "SlidTokens$Net" "near" "[I", .methodLink RX3 29 yX3_hasNode, .instanceMethod yX3_hasNode, .selects RX3 yX3_hasNode yX3_hasNode, .initialized RX3, .code yX3_hasNode cX3_hasNode 2 (some .boolean), .fieldLink RX3 15 "SlidTokens$Net" "nodes" "I"] ++ wsX30)
def wsX6_weigh_r1 : List Cond := [Cond.fieldLink RX6 9 "SlidTokens$Tally" "sum" "J", Cond.methodLink RX6 15 yX6_isSwap, Cond.static yX6_isSwap, Cond.initialized RX6, Cond.code yX6_isSwap cX6_isSwap 2 (some .boolean), Cond.methodLink RX6 32 yJ6_bitCount_0f7a4, Cond.static yJ6_bitCount_0f7a4, Cond.initialized RJ6, Cond.code yJ6_bitCount_0f7a4 cJ6_bitCount_0f7a4 1 (some .int), Cond.constant RJ6 265 (1431655765), Cond.constant RJ6 266 (858993459), Cond.constant RJ6 267 (252645135), Cond.methodLink RX6 21 yJ6_numberOfTrailingZeros_0f7a4, Cond.static yJ6_numberOfTrailingZeros_0f7a4, Cond.code yJ6_numberOfTrailingZeros_0f7a4 cJ6_numberOfTrailingZeros_0f7a4 2 (some .int), Cond.constant RJ6 264 (65536), Cond.methodLink RX6 27 yX3_areJoined, Cond.instanceMethod yX3_areJoined, Cond.selects RX3 yX3_areJoined yX3_areJoined, Cond.initialized RX3, Cond.code yX3_areJoined cX3_areJoined 3 (some .boolean), Cond.fieldLink RX3 9 "SlidTokens$Net" "near" "[I", Cond.methodLink RX3 29 yX3_hasNode, Cond.instanceMethod yX3_hasNode]
def wsX6_weigh_r2 : List Cond := [Cond.selects RX3 yX3_hasNode yX3_hasNode, Cond.code yX3_hasNode cX3_hasNode 2 (some .boolean), Cond.fieldLink RX3 15 "SlidTokens$Net" "nodes" "I"]
def wsX6_weigh : List Cond := .code yX6_weigh cX6_weigh 7 (some .int) :: ((wsX6_weigh_r1 ++ wsX6_weigh_r2) ++ wsX70 ++ wsX30)
def wsX1_weigh_r1 : List Cond := [Cond.fieldLink RX1 9 "SlidTokens$Tally" "sum" "J", Cond.constantLong RX1 15 (10), Cond.methodLink RX1 17 yX6_weigh, Cond.sameMethod "SlidTokens$Slide" "SlidTokens$Slide" "weigh" "(LSlidTokens$Net;IILSlidTokens$Tally;)I", Cond.superclass RX1 RX6, Cond.instanceMethod yX6_weigh, Cond.initialized RX6, Cond.code yX6_weigh cX6_weigh 7 (some .int), Cond.fieldLink RX6 9 "SlidTokens$Tally" "sum" "J", Cond.methodLink RX6 15 yX6_isSwap, Cond.static yX6_isSwap, Cond.code yX6_isSwap cX6_isSwap 2 (some .boolean), Cond.methodLink RX6 32 yJ6_bitCount_0f7a4, Cond.static yJ6_bitCount_0f7a4, Cond.initialized RJ6, Cond.code yJ6_bitCount_0f7a4 cJ6_bitCount_0f7a4 1 (some .int), Cond.constant RJ6 265 (1431655765), Cond.constant RJ6 266 (858993459), Cond.constant RJ6 267 (252645135), Cond.methodLink RX6 21 yJ6_numberOfTrailingZeros_0f7a4, Cond.static yJ6_numberOfTrailingZeros_0f7a4, Cond.code yJ6_numberOfTrailingZeros_0f7a4 cJ6_numberOfTrailingZeros_0f7a4 2 (some .int), Cond.constant RJ6 264 (65536), Cond.methodLink RX6 27 yX3_areJoined]
def wsX1_weigh_r2 : List Cond := [Cond.instanceMethod yX3_areJoined, Cond.selects RX3 yX3_areJoined yX3_areJoined, Cond.initialized RX3, Cond.code yX3_areJoined cX3_areJoined 3 (some .boolean), Cond.fieldLink RX3 9 "SlidTokens$Net" "near" "[I", Cond.methodLink RX3 29 yX3_hasNode, Cond.instanceMethod yX3_hasNode, Cond.selects RX3 yX3_hasNode yX3_hasNode, Cond.code yX3_hasNode cX3_hasNode 2 (some .boolean), Cond.fieldLink RX3 15 "SlidTokens$Net" "nodes" "I"]
def wsX1_weigh : List Cond := .code yX1_weigh cX1_weigh 6 (some .int) :: ((wsX1_weigh_r1 ++ wsX1_weigh_r2) ++ wsX70 ++ wsX30)
def wsX0_weigh_r1 : List Cond := [Cond.fieldLink RX0 9 "SlidTokens$Tally" "sum" "J", Cond.constantLong RX0 15 (100), Cond.methodLink RX0 17 yX1_weigh, Cond.sameMethod "SlidTokens$Jump" "SlidTokens$Jump" "weigh" "(LSlidTokens$Net;IILSlidTokens$Tally;)I", Cond.superclass RX0 RX1, Cond.instanceMethod yX1_weigh, Cond.initialized RX1, Cond.code yX1_weigh cX1_weigh 6 (some .int), Cond.fieldLink RX1 9 "SlidTokens$Tally" "sum" "J", Cond.constantLong RX1 15 (10), Cond.methodLink RX1 17 yX6_weigh, Cond.sameMethod "SlidTokens$Slide" "SlidTokens$Slide" "weigh" "(LSlidTokens$Net;IILSlidTokens$Tally;)I", Cond.superclass RX1 RX6, Cond.instanceMethod yX6_weigh, Cond.initialized RX6, Cond.code yX6_weigh cX6_weigh 7 (some .int), Cond.fieldLink RX6 9 "SlidTokens$Tally" "sum" "J", Cond.methodLink RX6 15 yX6_isSwap, Cond.static yX6_isSwap, Cond.code yX6_isSwap cX6_isSwap 2 (some .boolean), Cond.methodLink RX6 32 yJ6_bitCount_0f7a4, Cond.static yJ6_bitCount_0f7a4, Cond.initialized RJ6, Cond.code yJ6_bitCount_0f7a4 cJ6_bitCount_0f7a4 1 (some .int)]
def wsX0_weigh_r2 : List Cond := [Cond.constant RJ6 265 (1431655765), Cond.constant RJ6 266 (858993459), Cond.constant RJ6 267 (252645135), Cond.methodLink RX6 21 yJ6_numberOfTrailingZeros_0f7a4, Cond.static yJ6_numberOfTrailingZeros_0f7a4, Cond.code yJ6_numberOfTrailingZeros_0f7a4 cJ6_numberOfTrailingZeros_0f7a4 2 (some .int), Cond.constant RJ6 264 (65536), Cond.methodLink RX6 27 yX3_areJoined, Cond.instanceMethod yX3_areJoined, Cond.selects RX3 yX3_areJoined yX3_areJoined, Cond.initialized RX3, Cond.code yX3_areJoined cX3_areJoined 3 (some .boolean), Cond.fieldLink RX3 9 "SlidTokens$Net" "near" "[I", Cond.methodLink RX3 29 yX3_hasNode, Cond.instanceMethod yX3_hasNode, Cond.selects RX3 yX3_hasNode yX3_hasNode, Cond.code yX3_hasNode cX3_hasNode 2 (some .boolean), Cond.fieldLink RX3 15 "SlidTokens$Net" "nodes" "I", Cond.methodLink RX0 21 yJ6_bitCount_0f7a4]
def wsX0_weigh : List Cond := .code yX0_weigh cX0_weigh 6 (some .int) :: ((wsX0_weigh_r1 ++ wsX0_weigh_r2) ++ wsX70 ++ wsX30)
def wsX5_init : List Cond := .code yX5_init cX5_init 3 none :: ([.methodLink RX5 3 objectInit, .instanceMethod objectInit, .code objectInit ⟨#[0xb1]⟩ 1 none, .fieldLink RX5 9 "SlidTokens$Search" "size" "I", .fieldLink RX5 15 "SlidTokens$Search" "tail" "I", .fieldLink RX5 18 "SlidTokens$Search" "found" "I", .arrayClass .int, .fieldLink RX5 21 "SlidTokens$Search" "far" "[I", .fieldLink RX5 25 "SlidTokens$Search" "line" "[I", .fieldLink RX5 28 "SlidTokens$Search" "next" "[I"] ++ wsX20 ++ wsX40)
def wsX2_init : List Cond := .code yX2_init cX2_init 2 none :: ([.arrayClass .int, .fieldLink RX2 11 "SlidTokens$Marks" "cost" "[I", .fieldLink RX2 15 "SlidTokens$Marks" "moves" "I", .fieldLink RX2 19 "SlidTokens$Marks" "net" "LSlidTokens$Net;", .methodLink RX2 5 yX5_init, .instanceMethod yX5_init, .initialized RX5, .code yX5_init cX5_init 3 none, .methodLink RX5 3 objectInit, .instanceMethod objectInit, .code objectInit ⟨#[0xb1]⟩ 1 none, .fieldLink RX5 9 "SlidTokens$Search" "size" "I", .fieldLink RX5 15 "SlidTokens$Search" "tail" "I", .fieldLink RX5 18 "SlidTokens$Search" "found" "I", .fieldLink RX5 21 "SlidTokens$Search" "far" "[I", .fieldLink RX5 25 "SlidTokens$Search" "line" "[I", .fieldLink RX5 28 "SlidTokens$Search" "next" "[I"] ++ wsX20 ++ wsX40)
def wsX3_all : List Cond := .code yX3_all cX3_all 1 (some .int) :: ([.fieldLink RX3 15 "SlidTokens$Net" "nodes" "I"] ++ wsX30)
def wsX8_isWithin : List Cond := .code yX8_isWithin cX8_isWithin 3 (some .boolean) :: ([])
def wsX3_touchesNowhere : List Cond := .code yX3_touchesNowhere cX3_touchesNowhere 3 (some .boolean) :: ([.fieldLink RX3 15 "SlidTokens$Net" "nodes" "I", .fieldLink RX3 9 "SlidTokens$Net" "near" "[I"] ++ wsX30)
def wsX3_seesAll : List Cond := .code yX3_seesAll cX3_seesAll 4 (some .boolean) :: ([.fieldLink RX3 15 "SlidTokens$Net" "nodes" "I", .fieldLink RX3 9 "SlidTokens$Net" "near" "[I", .methodLink RX3 25 yX3_all, .instanceMethod yX3_all, .selects RX3 yX3_all yX3_all, .initialized RX3, .code yX3_all cX3_all 1 (some .int)] ++ wsX30)
def wsX3_isLawful : List Cond := .code yX3_isLawful cX3_isLawful 3 (some .boolean) :: ([.methodLink RX3 51 yX3_touchesNowhere, .instanceMethod yX3_touchesNowhere, .selects RX3 yX3_touchesNowhere yX3_touchesNowhere, .initialized RX3, .code yX3_touchesNowhere cX3_touchesNowhere 3 (some .boolean), .fieldLink RX3 15 "SlidTokens$Net" "nodes" "I", .fieldLink RX3 9 "SlidTokens$Net" "near" "[I", .methodLink RX3 25 yX3_all, .instanceMethod yX3_all, .selects RX3 yX3_all yX3_all, .code yX3_all cX3_all 1 (some .int), .methodLink RX3 54 yX3_seesAll, .instanceMethod yX3_seesAll, .selects RX3 yX3_seesAll yX3_seesAll, .code yX3_seesAll cX3_seesAll 4 (some .boolean)] ++ wsX30)
def wsX2_begin_r1 : List Cond := [Cond.fieldLink RX2 15 "SlidTokens$Marks" "moves" "I", Cond.fieldLink RX2 19 "SlidTokens$Marks" "net" "LSlidTokens$Net;", Cond.fieldLink RX2 29 "SlidTokens$Marks" "size" "I", Cond.sameField "SlidTokens$Marks" "SlidTokens$Search" "size" "I", Cond.fieldLink RX2 32 "SlidTokens$Marks" "tail" "I", Cond.sameField "SlidTokens$Marks" "SlidTokens$Search" "tail" "I", Cond.fieldLink RX2 45 "SlidTokens$Marks" "far" "[I", Cond.sameField "SlidTokens$Marks" "SlidTokens$Search" "far" "[I", Cond.methodLink RX2 23 yX3_all, Cond.instanceMethod yX3_all, Cond.selects RX3 yX3_all yX3_all, Cond.initialized RX3, Cond.code yX3_all cX3_all 1 (some .int), Cond.fieldLink RX3 15 "SlidTokens$Net" "nodes" "I", Cond.methodLink RX2 35 yJ6_bitCount_0f7a4, Cond.static yJ6_bitCount_0f7a4, Cond.initialized RJ6, Cond.code yJ6_bitCount_0f7a4 cJ6_bitCount_0f7a4 1 (some .int), Cond.constant RJ6 265 (1431655765), Cond.constant RJ6 266 (858993459), Cond.constant RJ6 267 (252645135), Cond.static yX8_isWithin, Cond.initialized RX8, Cond.code yX8_isWithin cX8_isWithin 3 (some .boolean)]
def wsX2_begin_r2 : List Cond := [Cond.methodLink RX2 48 yX3_isLawful, Cond.instanceMethod yX3_isLawful, Cond.selects RX3 yX3_isLawful yX3_isLawful, Cond.code yX3_isLawful cX3_isLawful 3 (some .boolean), Cond.methodLink RX3 51 yX3_touchesNowhere, Cond.instanceMethod yX3_touchesNowhere, Cond.selects RX3 yX3_touchesNowhere yX3_touchesNowhere, Cond.code yX3_touchesNowhere cX3_touchesNowhere 3 (some .boolean), Cond.fieldLink RX3 9 "SlidTokens$Net" "near" "[I", Cond.methodLink RX3 25 yX3_all, Cond.methodLink RX3 54 yX3_seesAll, Cond.instanceMethod yX3_seesAll, Cond.selects RX3 yX3_seesAll yX3_seesAll, Cond.code yX3_seesAll cX3_seesAll 4 (some .boolean)]
def wsX2_begin : List Cond := .code yX2_begin cX2_begin 7 none :: ((wsX2_begin_r1 ++ wsX2_begin_r2) ++ wsX20 ++ wsX40 ++ wsX30)
def wsX5_note : List Cond := .code yX5_note cX5_note 2 none :: ([.fieldLink RX5 18 "SlidTokens$Search" "found" "I", .fieldLink RX5 28 "SlidTokens$Search" "next" "[I"] ++ wsX20 ++ wsX40)
def wsX2_offer : List Cond := .code yX2_offer cX2_offer 3 none :: ([.fieldLink RX2 45 "SlidTokens$Marks" "far" "[I", .sameField "SlidTokens$Marks" "SlidTokens$Search" "far" "[I", .fieldLink RX2 52 "SlidTokens$Marks" "found" "I", .sameField "SlidTokens$Marks" "SlidTokens$Search" "found" "I", .fieldLink RX2 11 "SlidTokens$Marks" "cost" "[I", .methodLink RX2 67 ⟨"SlidTokens$Marks", "note", "(I)V"⟩, .sameMethod "SlidTokens$Marks" "SlidTokens$Search" "note" "(I)V", .selects RX2 ⟨"SlidTokens$Marks", "note", "(I)V"⟩ yX5_note, .instanceMethod yX5_note, .initialized RX5, .code yX5_note cX5_note 2 none, .fieldLink RX5 18 "SlidTokens$Search" "found" "I", .fieldLink RX5 28 "SlidTokens$Search" "next" "[I"] ++ wsX20 ++ wsX40)
def wsX2_gatherSwaps_r1 : List Cond := [Cond.fieldLink RX2 19 "SlidTokens$Marks" "net" "LSlidTokens$Net;", Cond.fieldLink RX2 64 "SlidTokens$Net" "near" "[I", Cond.fieldLink RX2 15 "SlidTokens$Marks" "moves" "I", Cond.fieldLink RX2 55 "SlidTokens$Net" "nodes" "I", Cond.methodLink RX2 23 yX3_all, Cond.instanceMethod yX3_all, Cond.selects RX3 yX3_all yX3_all, Cond.initialized RX3, Cond.code yX3_all cX3_all 1 (some .int), Cond.fieldLink RX3 15 "SlidTokens$Net" "nodes" "I", Cond.methodLink RX2 61 yX2_offer, Cond.instanceMethod yX2_offer, Cond.selects RX2 yX2_offer yX2_offer, Cond.initialized RX2, Cond.code yX2_offer cX2_offer 3 none, Cond.fieldLink RX2 45 "SlidTokens$Marks" "far" "[I", Cond.sameField "SlidTokens$Marks" "SlidTokens$Search" "far" "[I", Cond.fieldLink RX2 52 "SlidTokens$Marks" "found" "I", Cond.sameField "SlidTokens$Marks" "SlidTokens$Search" "found" "I", Cond.fieldLink RX2 11 "SlidTokens$Marks" "cost" "[I", Cond.methodLink RX2 67 ⟨"SlidTokens$Marks", "note", "(I)V"⟩, Cond.sameMethod "SlidTokens$Marks" "SlidTokens$Search" "note" "(I)V", Cond.selects RX2 ⟨"SlidTokens$Marks", "note", "(I)V"⟩ yX5_note, Cond.instanceMethod yX5_note]
def wsX2_gatherSwaps_r2 : List Cond := [Cond.initialized RX5, Cond.code yX5_note cX5_note 2 none, Cond.fieldLink RX5 18 "SlidTokens$Search" "found" "I", Cond.fieldLink RX5 28 "SlidTokens$Search" "next" "[I"]
def wsX2_gatherSwaps : List Cond := .code yX2_gatherSwaps cX2_gatherSwaps 7 none :: ((wsX2_gatherSwaps_r1 ++ wsX2_gatherSwaps_r2) ++ wsX20 ++ wsX30 ++ wsX40)
def wsX2_gather_r1 : List Cond := [Cond.fieldLink RX2 52 "SlidTokens$Marks" "found" "I", Cond.sameField "SlidTokens$Marks" "SlidTokens$Search" "found" "I", Cond.fieldLink RX2 19 "SlidTokens$Marks" "net" "LSlidTokens$Net;", Cond.fieldLink RX2 55 "SlidTokens$Net" "nodes" "I", Cond.fieldLink RX2 15 "SlidTokens$Marks" "moves" "I", Cond.methodLink RX2 58 yX2_gatherSwaps, Cond.instanceMethod yX2_gatherSwaps, Cond.selects RX2 yX2_gatherSwaps yX2_gatherSwaps, Cond.initialized RX2, Cond.code yX2_gatherSwaps cX2_gatherSwaps 7 none, Cond.fieldLink RX2 64 "SlidTokens$Net" "near" "[I", Cond.methodLink RX2 23 yX3_all, Cond.instanceMethod yX3_all, Cond.selects RX3 yX3_all yX3_all, Cond.initialized RX3, Cond.code yX3_all cX3_all 1 (some .int), Cond.fieldLink RX3 15 "SlidTokens$Net" "nodes" "I", Cond.methodLink RX2 61 yX2_offer, Cond.instanceMethod yX2_offer, Cond.selects RX2 yX2_offer yX2_offer, Cond.code yX2_offer cX2_offer 3 none, Cond.fieldLink RX2 45 "SlidTokens$Marks" "far" "[I", Cond.sameField "SlidTokens$Marks" "SlidTokens$Search" "far" "[I", Cond.fieldLink RX2 11 "SlidTokens$Marks" "cost" "[I"]
def wsX2_gather_r2 : List Cond := [Cond.methodLink RX2 67 ⟨"SlidTokens$Marks", "note", "(I)V"⟩, Cond.sameMethod "SlidTokens$Marks" "SlidTokens$Search" "note" "(I)V", Cond.selects RX2 ⟨"SlidTokens$Marks", "note", "(I)V"⟩ yX5_note, Cond.instanceMethod yX5_note, Cond.initialized RX5, Cond.code yX5_note cX5_note 2 none, Cond.fieldLink RX5 18 "SlidTokens$Search" "found" "I", Cond.fieldLink RX5 28 "SlidTokens$Search" "next" "[I"]
def wsX2_gather : List Cond := .code yX2_gather cX2_gather 3 none :: ((wsX2_gather_r1 ++ wsX2_gather_r2) ++ wsX20 ++ wsX40 ++ wsX30)
def wsX5_enter : List Cond := .code yX5_enter cX5_enter 3 none :: ([.fieldLink RX5 15 "SlidTokens$Search" "tail" "I", .fieldLink RX5 25 "SlidTokens$Search" "line" "[I", .fieldLink RX5 21 "SlidTokens$Search" "far" "[I"] ++ wsX20 ++ wsX40)
def wsX4_gather : List Cond := .code yX4_gather cX4_gather 6 none :: ([.fieldLink RX4 57 "SlidTokens$Paints" "found" "I", .sameField "SlidTokens$Paints" "SlidTokens$Search" "found" "I", .fieldLink RX4 15 "SlidTokens$Paints" "net" "LSlidTokens$Net;", .fieldLink RX4 19 "SlidTokens$Net" "nodes" "I", .fieldLink RX4 9 "SlidTokens$Paints" "colours" "I", .fieldLink RX4 24 "SlidTokens$Paints" "far" "[I", .sameField "SlidTokens$Paints" "SlidTokens$Search" "far" "[I", .methodLink RX4 60 ⟨"SlidTokens$Paints", "note", "(I)V"⟩, .sameMethod "SlidTokens$Paints" "SlidTokens$Search" "note" "(I)V", .selects RX4 ⟨"SlidTokens$Paints", "note", "(I)V"⟩ yX5_note, .instanceMethod yX5_note, .initialized RX5, .code yX5_note cX5_note 2 none, .fieldLink RX5 18 "SlidTokens$Search" "found" "I", .fieldLink RX5 28 "SlidTokens$Search" "next" "[I"] ++ wsX20 ++ wsX40 ++ wsX30)
def wsX5_spread_r1 : List Cond := [Cond.fieldLink RX5 15 "SlidTokens$Search" "tail" "I", Cond.fieldLink RX5 21 "SlidTokens$Search" "far" "[I", Cond.fieldLink RX5 25 "SlidTokens$Search" "line" "[I", Cond.fieldLink RX5 18 "SlidTokens$Search" "found" "I", Cond.fieldLink RX5 28 "SlidTokens$Search" "next" "[I", Cond.methodLink RX5 31 ⟨"SlidTokens$Search", "enter", "(II)V"⟩, Cond.sameMethod "SlidTokens$Search" "SlidTokens$Search" "enter" "(II)V", Cond.selects RX2 ⟨"SlidTokens$Search", "enter", "(II)V"⟩ yX5_enter, Cond.instanceMethod yX5_enter, Cond.initialized RX5, Cond.code yX5_enter cX5_enter 3 none, Cond.selects RX4 ⟨"SlidTokens$Search", "enter", "(II)V"⟩ yX5_enter, Cond.methodLink RX5 35 ⟨"SlidTokens$Search", "gather", "(I)V"⟩, Cond.sameMethod "SlidTokens$Search" "SlidTokens$Search" "gather" "(I)V", Cond.selects RX2 ⟨"SlidTokens$Search", "gather", "(I)V"⟩ yX2_gather, Cond.instanceMethod yX2_gather, Cond.initialized RX2, Cond.code yX2_gather cX2_gather 3 none, Cond.fieldLink RX2 52 "SlidTokens$Marks" "found" "I", Cond.sameField "SlidTokens$Marks" "SlidTokens$Search" "found" "I", Cond.fieldLink RX2 19 "SlidTokens$Marks" "net" "LSlidTokens$Net;", Cond.fieldLink RX2 55 "SlidTokens$Net" "nodes" "I", Cond.fieldLink RX2 15 "SlidTokens$Marks" "moves" "I", Cond.methodLink RX2 58 yX2_gatherSwaps]
def wsX5_spread_r2 : List Cond := [Cond.instanceMethod yX2_gatherSwaps, Cond.selects RX2 yX2_gatherSwaps yX2_gatherSwaps, Cond.code yX2_gatherSwaps cX2_gatherSwaps 7 none, Cond.fieldLink RX2 64 "SlidTokens$Net" "near" "[I", Cond.methodLink RX2 23 yX3_all, Cond.instanceMethod yX3_all, Cond.selects RX3 yX3_all yX3_all, Cond.initialized RX3, Cond.code yX3_all cX3_all 1 (some .int), Cond.fieldLink RX3 15 "SlidTokens$Net" "nodes" "I", Cond.methodLink RX2 61 yX2_offer, Cond.instanceMethod yX2_offer, Cond.selects RX2 yX2_offer yX2_offer, Cond.code yX2_offer cX2_offer 3 none, Cond.fieldLink RX2 45 "SlidTokens$Marks" "far" "[I", Cond.sameField "SlidTokens$Marks" "SlidTokens$Search" "far" "[I", Cond.fieldLink RX2 11 "SlidTokens$Marks" "cost" "[I", Cond.methodLink RX2 67 ⟨"SlidTokens$Marks", "note", "(I)V"⟩, Cond.sameMethod "SlidTokens$Marks" "SlidTokens$Search" "note" "(I)V", Cond.selects RX2 ⟨"SlidTokens$Marks", "note", "(I)V"⟩ yX5_note, Cond.instanceMethod yX5_note, Cond.code yX5_note cX5_note 2 none, Cond.selects RX4 ⟨"SlidTokens$Search", "gather", "(I)V"⟩ yX4_gather, Cond.instanceMethod yX4_gather]
def wsX5_spread_r3 : List Cond := [Cond.initialized RX4, Cond.code yX4_gather cX4_gather 6 none, Cond.fieldLink RX4 57 "SlidTokens$Paints" "found" "I", Cond.sameField "SlidTokens$Paints" "SlidTokens$Search" "found" "I", Cond.fieldLink RX4 15 "SlidTokens$Paints" "net" "LSlidTokens$Net;", Cond.fieldLink RX4 19 "SlidTokens$Net" "nodes" "I", Cond.fieldLink RX4 9 "SlidTokens$Paints" "colours" "I", Cond.fieldLink RX4 24 "SlidTokens$Paints" "far" "[I", Cond.sameField "SlidTokens$Paints" "SlidTokens$Search" "far" "[I", Cond.methodLink RX4 60 ⟨"SlidTokens$Paints", "note", "(I)V"⟩, Cond.sameMethod "SlidTokens$Paints" "SlidTokens$Search" "note" "(I)V", Cond.selects RX4 ⟨"SlidTokens$Paints", "note", "(I)V"⟩ yX5_note]
def wsX5_spread : List Cond := .code yX5_spread cX5_spread 7 none :: ((wsX5_spread_r1 ++ (wsX5_spread_r2 ++ wsX5_spread_r3)) ++ wsX20 ++ wsX40 ++ wsX30)
def wsX5_fewest_r1 : List Cond := [Cond.fieldLink RX5 21 "SlidTokens$Search" "far" "[I", Cond.methodLink RX5 39 ⟨"SlidTokens$Search", "spread", "(II)V"⟩, Cond.sameMethod "SlidTokens$Search" "SlidTokens$Search" "spread" "(II)V", Cond.selects RX2 ⟨"SlidTokens$Search", "spread", "(II)V"⟩ yX5_spread, Cond.instanceMethod yX5_spread, Cond.initialized RX5, Cond.code yX5_spread cX5_spread 7 none, Cond.fieldLink RX5 15 "SlidTokens$Search" "tail" "I", Cond.fieldLink RX5 25 "SlidTokens$Search" "line" "[I", Cond.fieldLink RX5 18 "SlidTokens$Search" "found" "I", Cond.fieldLink RX5 28 "SlidTokens$Search" "next" "[I", Cond.methodLink RX5 31 ⟨"SlidTokens$Search", "enter", "(II)V"⟩, Cond.sameMethod "SlidTokens$Search" "SlidTokens$Search" "enter" "(II)V", Cond.selects RX2 ⟨"SlidTokens$Search", "enter", "(II)V"⟩ yX5_enter, Cond.instanceMethod yX5_enter, Cond.code yX5_enter cX5_enter 3 none, Cond.selects RX4 ⟨"SlidTokens$Search", "enter", "(II)V"⟩ yX5_enter, Cond.methodLink RX5 35 ⟨"SlidTokens$Search", "gather", "(I)V"⟩, Cond.sameMethod "SlidTokens$Search" "SlidTokens$Search" "gather" "(I)V", Cond.selects RX2 ⟨"SlidTokens$Search", "gather", "(I)V"⟩ yX2_gather, Cond.instanceMethod yX2_gather, Cond.initialized RX2, Cond.code yX2_gather cX2_gather 3 none, Cond.fieldLink RX2 52 "SlidTokens$Marks" "found" "I"]
def wsX5_fewest_r2 : List Cond := [Cond.sameField "SlidTokens$Marks" "SlidTokens$Search" "found" "I", Cond.fieldLink RX2 19 "SlidTokens$Marks" "net" "LSlidTokens$Net;", Cond.fieldLink RX2 55 "SlidTokens$Net" "nodes" "I", Cond.fieldLink RX2 15 "SlidTokens$Marks" "moves" "I", Cond.methodLink RX2 58 yX2_gatherSwaps, Cond.instanceMethod yX2_gatherSwaps, Cond.selects RX2 yX2_gatherSwaps yX2_gatherSwaps, Cond.code yX2_gatherSwaps cX2_gatherSwaps 7 none, Cond.fieldLink RX2 64 "SlidTokens$Net" "near" "[I", Cond.methodLink RX2 23 yX3_all, Cond.instanceMethod yX3_all, Cond.selects RX3 yX3_all yX3_all, Cond.initialized RX3, Cond.code yX3_all cX3_all 1 (some .int), Cond.fieldLink RX3 15 "SlidTokens$Net" "nodes" "I", Cond.methodLink RX2 61 yX2_offer, Cond.instanceMethod yX2_offer, Cond.selects RX2 yX2_offer yX2_offer, Cond.code yX2_offer cX2_offer 3 none, Cond.fieldLink RX2 45 "SlidTokens$Marks" "far" "[I", Cond.sameField "SlidTokens$Marks" "SlidTokens$Search" "far" "[I", Cond.fieldLink RX2 11 "SlidTokens$Marks" "cost" "[I", Cond.methodLink RX2 67 ⟨"SlidTokens$Marks", "note", "(I)V"⟩, Cond.sameMethod "SlidTokens$Marks" "SlidTokens$Search" "note" "(I)V"]
def wsX5_fewest_r3 : List Cond := [Cond.selects RX2 ⟨"SlidTokens$Marks", "note", "(I)V"⟩ yX5_note, Cond.instanceMethod yX5_note, Cond.code yX5_note cX5_note 2 none, Cond.selects RX4 ⟨"SlidTokens$Search", "gather", "(I)V"⟩ yX4_gather, Cond.instanceMethod yX4_gather, Cond.initialized RX4, Cond.code yX4_gather cX4_gather 6 none, Cond.fieldLink RX4 57 "SlidTokens$Paints" "found" "I", Cond.sameField "SlidTokens$Paints" "SlidTokens$Search" "found" "I", Cond.fieldLink RX4 15 "SlidTokens$Paints" "net" "LSlidTokens$Net;", Cond.fieldLink RX4 19 "SlidTokens$Net" "nodes" "I", Cond.fieldLink RX4 9 "SlidTokens$Paints" "colours" "I", Cond.fieldLink RX4 24 "SlidTokens$Paints" "far" "[I", Cond.sameField "SlidTokens$Paints" "SlidTokens$Search" "far" "[I", Cond.methodLink RX4 60 ⟨"SlidTokens$Paints", "note", "(I)V"⟩, Cond.sameMethod "SlidTokens$Paints" "SlidTokens$Search" "note" "(I)V", Cond.selects RX4 ⟨"SlidTokens$Paints", "note", "(I)V"⟩ yX5_note, Cond.selects RX4 ⟨"SlidTokens$Search", "spread", "(II)V"⟩ yX5_spread]
def wsX5_fewest : List Cond := .code yX5_fewest cX5_fewest 3 (some .int) :: ((wsX5_fewest_r1 ++ (wsX5_fewest_r2 ++ wsX5_fewest_r3)) ++ wsX20 ++ wsX40 ++ wsX30)
def wsX2_following_r1 : List Cond := [Cond.fieldLink RX2 52 "SlidTokens$Marks" "found" "I", Cond.sameField "SlidTokens$Marks" "SlidTokens$Search" "found" "I", Cond.fieldLink RX2 45 "SlidTokens$Marks" "far" "[I", Cond.sameField "SlidTokens$Marks" "SlidTokens$Search" "far" "[I", Cond.fieldLink RX2 78 "SlidTokens$Marks" "next" "[I", Cond.sameField "SlidTokens$Marks" "SlidTokens$Search" "next" "[I", Cond.methodLink RX2 71 ⟨"SlidTokens$Marks", "fewest", "(II)I"⟩, Cond.sameMethod "SlidTokens$Marks" "SlidTokens$Search" "fewest" "(II)I", Cond.selects RX2 ⟨"SlidTokens$Marks", "fewest", "(II)I"⟩ yX5_fewest, Cond.instanceMethod yX5_fewest, Cond.initialized RX5, Cond.code yX5_fewest cX5_fewest 3 (some .int), Cond.fieldLink RX5 21 "SlidTokens$Search" "far" "[I", Cond.methodLink RX5 39 ⟨"SlidTokens$Search", "spread", "(II)V"⟩, Cond.sameMethod "SlidTokens$Search" "SlidTokens$Search" "spread" "(II)V", Cond.selects RX2 ⟨"SlidTokens$Search", "spread", "(II)V"⟩ yX5_spread, Cond.instanceMethod yX5_spread, Cond.code yX5_spread cX5_spread 7 none, Cond.fieldLink RX5 15 "SlidTokens$Search" "tail" "I", Cond.fieldLink RX5 25 "SlidTokens$Search" "line" "[I", Cond.fieldLink RX5 18 "SlidTokens$Search" "found" "I", Cond.fieldLink RX5 28 "SlidTokens$Search" "next" "[I", Cond.methodLink RX5 31 ⟨"SlidTokens$Search", "enter", "(II)V"⟩, Cond.sameMethod "SlidTokens$Search" "SlidTokens$Search" "enter" "(II)V"]
def wsX2_following_r2 : List Cond := [Cond.selects RX2 ⟨"SlidTokens$Search", "enter", "(II)V"⟩ yX5_enter, Cond.instanceMethod yX5_enter, Cond.code yX5_enter cX5_enter 3 none, Cond.selects RX4 ⟨"SlidTokens$Search", "enter", "(II)V"⟩ yX5_enter, Cond.methodLink RX5 35 ⟨"SlidTokens$Search", "gather", "(I)V"⟩, Cond.sameMethod "SlidTokens$Search" "SlidTokens$Search" "gather" "(I)V", Cond.selects RX2 ⟨"SlidTokens$Search", "gather", "(I)V"⟩ yX2_gather, Cond.instanceMethod yX2_gather, Cond.initialized RX2, Cond.code yX2_gather cX2_gather 3 none, Cond.fieldLink RX2 19 "SlidTokens$Marks" "net" "LSlidTokens$Net;", Cond.fieldLink RX2 55 "SlidTokens$Net" "nodes" "I", Cond.fieldLink RX2 15 "SlidTokens$Marks" "moves" "I", Cond.methodLink RX2 58 yX2_gatherSwaps, Cond.instanceMethod yX2_gatherSwaps, Cond.selects RX2 yX2_gatherSwaps yX2_gatherSwaps, Cond.code yX2_gatherSwaps cX2_gatherSwaps 7 none, Cond.fieldLink RX2 64 "SlidTokens$Net" "near" "[I", Cond.methodLink RX2 23 yX3_all, Cond.instanceMethod yX3_all, Cond.selects RX3 yX3_all yX3_all, Cond.initialized RX3, Cond.code yX3_all cX3_all 1 (some .int), Cond.fieldLink RX3 15 "SlidTokens$Net" "nodes" "I"]
def wsX2_following_r3 : List Cond := [Cond.methodLink RX2 61 yX2_offer, Cond.instanceMethod yX2_offer, Cond.selects RX2 yX2_offer yX2_offer, Cond.code yX2_offer cX2_offer 3 none, Cond.fieldLink RX2 11 "SlidTokens$Marks" "cost" "[I", Cond.methodLink RX2 67 ⟨"SlidTokens$Marks", "note", "(I)V"⟩, Cond.sameMethod "SlidTokens$Marks" "SlidTokens$Search" "note" "(I)V", Cond.selects RX2 ⟨"SlidTokens$Marks", "note", "(I)V"⟩ yX5_note, Cond.instanceMethod yX5_note, Cond.code yX5_note cX5_note 2 none, Cond.selects RX4 ⟨"SlidTokens$Search", "gather", "(I)V"⟩ yX4_gather, Cond.instanceMethod yX4_gather, Cond.initialized RX4, Cond.code yX4_gather cX4_gather 6 none, Cond.fieldLink RX4 57 "SlidTokens$Paints" "found" "I", Cond.sameField "SlidTokens$Paints" "SlidTokens$Search" "found" "I", Cond.fieldLink RX4 15 "SlidTokens$Paints" "net" "LSlidTokens$Net;", Cond.fieldLink RX4 19 "SlidTokens$Net" "nodes" "I", Cond.fieldLink RX4 9 "SlidTokens$Paints" "colours" "I", Cond.fieldLink RX4 24 "SlidTokens$Paints" "far" "[I", Cond.sameField "SlidTokens$Paints" "SlidTokens$Search" "far" "[I", Cond.methodLink RX4 60 ⟨"SlidTokens$Paints", "note", "(I)V"⟩, Cond.sameMethod "SlidTokens$Paints" "SlidTokens$Search" "note" "(I)V", Cond.selects RX4 ⟨"SlidTokens$Paints", "note", "(I)V"⟩ yX5_note]
def wsX2_following_r4 : List Cond := [Cond.selects RX4 ⟨"SlidTokens$Search", "spread", "(II)V"⟩ yX5_spread, Cond.methodLink RX2 75 yX2_gather, Cond.selects RX2 yX2_gather yX2_gather]
def wsX2_following : List Cond := .code yX2_following cX2_following 6 (some .int) :: ((wsX2_following_r1 ++ (wsX2_following_r2 ++ (wsX2_following_r3 ++ wsX2_following_r4))) ++ wsX20 ++ wsX40 ++ wsX30)
def wsX2_forgetSpread : List Cond := .code yX2_forgetSpread cX2_forgetSpread 2 none :: ([.fieldLink RX2 32 "SlidTokens$Marks" "tail" "I", .sameField "SlidTokens$Marks" "SlidTokens$Search" "tail" "I", .fieldLink RX2 45 "SlidTokens$Marks" "far" "[I", .sameField "SlidTokens$Marks" "SlidTokens$Search" "far" "[I", .fieldLink RX2 88 "SlidTokens$Marks" "line" "[I", .sameField "SlidTokens$Marks" "SlidTokens$Search" "line" "[I"] ++ wsX20 ++ wsX40)
def wsX2_lighten : List Cond := .code yX2_lighten cX2_lighten 4 none :: ([.fieldLink RX2 52 "SlidTokens$Marks" "found" "I", .sameField "SlidTokens$Marks" "SlidTokens$Search" "found" "I", .fieldLink RX2 78 "SlidTokens$Marks" "next" "[I", .sameField "SlidTokens$Marks" "SlidTokens$Search" "next" "[I", .fieldLink RX2 45 "SlidTokens$Marks" "far" "[I", .sameField "SlidTokens$Marks" "SlidTokens$Search" "far" "[I", .fieldLink RX2 11 "SlidTokens$Marks" "cost" "[I"] ++ wsX20 ++ wsX40)
def wsX2_settle_r1 : List Cond := [Cond.fieldLink RX2 29 "SlidTokens$Marks" "size" "I", Cond.sameField "SlidTokens$Marks" "SlidTokens$Search" "size" "I", Cond.fieldLink RX2 45 "SlidTokens$Marks" "far" "[I", Cond.sameField "SlidTokens$Marks" "SlidTokens$Search" "far" "[I", Cond.methodLink RX2 75 yX2_gather, Cond.instanceMethod yX2_gather, Cond.selects RX2 yX2_gather yX2_gather, Cond.initialized RX2, Cond.code yX2_gather cX2_gather 3 none, Cond.fieldLink RX2 52 "SlidTokens$Marks" "found" "I", Cond.sameField "SlidTokens$Marks" "SlidTokens$Search" "found" "I", Cond.fieldLink RX2 19 "SlidTokens$Marks" "net" "LSlidTokens$Net;", Cond.fieldLink RX2 55 "SlidTokens$Net" "nodes" "I", Cond.fieldLink RX2 15 "SlidTokens$Marks" "moves" "I", Cond.methodLink RX2 58 yX2_gatherSwaps, Cond.instanceMethod yX2_gatherSwaps, Cond.selects RX2 yX2_gatherSwaps yX2_gatherSwaps, Cond.code yX2_gatherSwaps cX2_gatherSwaps 7 none, Cond.fieldLink RX2 64 "SlidTokens$Net" "near" "[I", Cond.methodLink RX2 23 yX3_all, Cond.instanceMethod yX3_all, Cond.selects RX3 yX3_all yX3_all, Cond.initialized RX3, Cond.code yX3_all cX3_all 1 (some .int)]
def wsX2_settle_r2 : List Cond := [Cond.fieldLink RX3 15 "SlidTokens$Net" "nodes" "I", Cond.methodLink RX2 61 yX2_offer, Cond.instanceMethod yX2_offer, Cond.selects RX2 yX2_offer yX2_offer, Cond.code yX2_offer cX2_offer 3 none, Cond.fieldLink RX2 11 "SlidTokens$Marks" "cost" "[I", Cond.methodLink RX2 67 ⟨"SlidTokens$Marks", "note", "(I)V"⟩, Cond.sameMethod "SlidTokens$Marks" "SlidTokens$Search" "note" "(I)V", Cond.selects RX2 ⟨"SlidTokens$Marks", "note", "(I)V"⟩ yX5_note, Cond.instanceMethod yX5_note, Cond.initialized RX5, Cond.code yX5_note cX5_note 2 none, Cond.fieldLink RX5 18 "SlidTokens$Search" "found" "I", Cond.fieldLink RX5 28 "SlidTokens$Search" "next" "[I", Cond.methodLink RX2 91 yX2_lighten, Cond.instanceMethod yX2_lighten, Cond.selects RX2 yX2_lighten yX2_lighten, Cond.code yX2_lighten cX2_lighten 4 none, Cond.fieldLink RX2 78 "SlidTokens$Marks" "next" "[I", Cond.sameField "SlidTokens$Marks" "SlidTokens$Search" "next" "[I"]
def wsX2_settle : List Cond := .code yX2_settle cX2_settle 3 none :: ((wsX2_settle_r1 ++ wsX2_settle_r2) ++ wsX20 ++ wsX40 ++ wsX30)
def wsX2_lightest_r1 : List Cond := [Cond.fieldLink RX2 45 "SlidTokens$Marks" "far" "[I", Cond.sameField "SlidTokens$Marks" "SlidTokens$Search" "far" "[I", Cond.methodLink RX2 71 ⟨"SlidTokens$Marks", "fewest", "(II)I"⟩, Cond.sameMethod "SlidTokens$Marks" "SlidTokens$Search" "fewest" "(II)I", Cond.selects RX2 ⟨"SlidTokens$Marks", "fewest", "(II)I"⟩ yX5_fewest, Cond.instanceMethod yX5_fewest, Cond.initialized RX5, Cond.code yX5_fewest cX5_fewest 3 (some .int), Cond.fieldLink RX5 21 "SlidTokens$Search" "far" "[I", Cond.methodLink RX5 39 ⟨"SlidTokens$Search", "spread", "(II)V"⟩, Cond.sameMethod "SlidTokens$Search" "SlidTokens$Search" "spread" "(II)V", Cond.selects RX2 ⟨"SlidTokens$Search", "spread", "(II)V"⟩ yX5_spread, Cond.instanceMethod yX5_spread, Cond.code yX5_spread cX5_spread 7 none, Cond.fieldLink RX5 15 "SlidTokens$Search" "tail" "I", Cond.fieldLink RX5 25 "SlidTokens$Search" "line" "[I", Cond.fieldLink RX5 18 "SlidTokens$Search" "found" "I", Cond.fieldLink RX5 28 "SlidTokens$Search" "next" "[I", Cond.methodLink RX5 31 ⟨"SlidTokens$Search", "enter", "(II)V"⟩, Cond.sameMethod "SlidTokens$Search" "SlidTokens$Search" "enter" "(II)V", Cond.selects RX2 ⟨"SlidTokens$Search", "enter", "(II)V"⟩ yX5_enter, Cond.instanceMethod yX5_enter, Cond.code yX5_enter cX5_enter 3 none, Cond.selects RX4 ⟨"SlidTokens$Search", "enter", "(II)V"⟩ yX5_enter]
def wsX2_lightest_r2 : List Cond := [Cond.methodLink RX5 35 ⟨"SlidTokens$Search", "gather", "(I)V"⟩, Cond.sameMethod "SlidTokens$Search" "SlidTokens$Search" "gather" "(I)V", Cond.selects RX2 ⟨"SlidTokens$Search", "gather", "(I)V"⟩ yX2_gather, Cond.instanceMethod yX2_gather, Cond.initialized RX2, Cond.code yX2_gather cX2_gather 3 none, Cond.fieldLink RX2 52 "SlidTokens$Marks" "found" "I", Cond.sameField "SlidTokens$Marks" "SlidTokens$Search" "found" "I", Cond.fieldLink RX2 19 "SlidTokens$Marks" "net" "LSlidTokens$Net;", Cond.fieldLink RX2 55 "SlidTokens$Net" "nodes" "I", Cond.fieldLink RX2 15 "SlidTokens$Marks" "moves" "I", Cond.methodLink RX2 58 yX2_gatherSwaps, Cond.instanceMethod yX2_gatherSwaps, Cond.selects RX2 yX2_gatherSwaps yX2_gatherSwaps, Cond.code yX2_gatherSwaps cX2_gatherSwaps 7 none, Cond.fieldLink RX2 64 "SlidTokens$Net" "near" "[I", Cond.methodLink RX2 23 yX3_all, Cond.instanceMethod yX3_all, Cond.selects RX3 yX3_all yX3_all, Cond.initialized RX3, Cond.code yX3_all cX3_all 1 (some .int), Cond.fieldLink RX3 15 "SlidTokens$Net" "nodes" "I", Cond.methodLink RX2 61 yX2_offer, Cond.instanceMethod yX2_offer]
def wsX2_lightest_r3 : List Cond := [Cond.selects RX2 yX2_offer yX2_offer, Cond.code yX2_offer cX2_offer 3 none, Cond.fieldLink RX2 11 "SlidTokens$Marks" "cost" "[I", Cond.methodLink RX2 67 ⟨"SlidTokens$Marks", "note", "(I)V"⟩, Cond.sameMethod "SlidTokens$Marks" "SlidTokens$Search" "note" "(I)V", Cond.selects RX2 ⟨"SlidTokens$Marks", "note", "(I)V"⟩ yX5_note, Cond.instanceMethod yX5_note, Cond.code yX5_note cX5_note 2 none, Cond.selects RX4 ⟨"SlidTokens$Search", "gather", "(I)V"⟩ yX4_gather, Cond.instanceMethod yX4_gather, Cond.initialized RX4, Cond.code yX4_gather cX4_gather 6 none, Cond.fieldLink RX4 57 "SlidTokens$Paints" "found" "I", Cond.sameField "SlidTokens$Paints" "SlidTokens$Search" "found" "I", Cond.fieldLink RX4 15 "SlidTokens$Paints" "net" "LSlidTokens$Net;", Cond.fieldLink RX4 19 "SlidTokens$Net" "nodes" "I", Cond.fieldLink RX4 9 "SlidTokens$Paints" "colours" "I", Cond.fieldLink RX4 24 "SlidTokens$Paints" "far" "[I", Cond.sameField "SlidTokens$Paints" "SlidTokens$Search" "far" "[I", Cond.methodLink RX4 60 ⟨"SlidTokens$Paints", "note", "(I)V"⟩, Cond.sameMethod "SlidTokens$Paints" "SlidTokens$Search" "note" "(I)V", Cond.selects RX4 ⟨"SlidTokens$Paints", "note", "(I)V"⟩ yX5_note, Cond.selects RX4 ⟨"SlidTokens$Search", "spread", "(II)V"⟩ yX5_spread, Cond.methodLink RX2 81 yX2_forgetSpread]
def wsX2_lightest_r4 : List Cond := [Cond.instanceMethod yX2_forgetSpread, Cond.selects RX2 yX2_forgetSpread yX2_forgetSpread, Cond.code yX2_forgetSpread cX2_forgetSpread 2 none, Cond.fieldLink RX2 32 "SlidTokens$Marks" "tail" "I", Cond.sameField "SlidTokens$Marks" "SlidTokens$Search" "tail" "I", Cond.fieldLink RX2 88 "SlidTokens$Marks" "line" "[I", Cond.sameField "SlidTokens$Marks" "SlidTokens$Search" "line" "[I", Cond.methodLink RX2 85 yX2_settle, Cond.instanceMethod yX2_settle, Cond.selects RX2 yX2_settle yX2_settle, Cond.code yX2_settle cX2_settle 3 none, Cond.fieldLink RX2 29 "SlidTokens$Marks" "size" "I", Cond.sameField "SlidTokens$Marks" "SlidTokens$Search" "size" "I", Cond.methodLink RX2 75 yX2_gather, Cond.selects RX2 yX2_gather yX2_gather, Cond.methodLink RX2 91 yX2_lighten, Cond.instanceMethod yX2_lighten, Cond.selects RX2 yX2_lighten yX2_lighten, Cond.code yX2_lighten cX2_lighten 4 none, Cond.fieldLink RX2 78 "SlidTokens$Marks" "next" "[I", Cond.sameField "SlidTokens$Marks" "SlidTokens$Search" "next" "[I"]
def wsX2_lightest : List Cond := .code yX2_lightest cX2_lightest 5 (some .int) :: ((wsX2_lightest_r1 ++ (wsX2_lightest_r2 ++ (wsX2_lightest_r3 ++ wsX2_lightest_r4))) ++ wsX20 ++ wsX40 ++ wsX30)
def wsX2_frozen : List Cond := .code yX2_frozen cX2_frozen 3 (some .int) :: ([.fieldLink RX2 19 "SlidTokens$Marks" "net" "LSlidTokens$Net;", .fieldLink RX2 32 "SlidTokens$Marks" "tail" "I", .sameField "SlidTokens$Marks" "SlidTokens$Search" "tail" "I", .fieldLink RX2 88 "SlidTokens$Marks" "line" "[I", .sameField "SlidTokens$Marks" "SlidTokens$Search" "line" "[I", .methodLink RX2 23 yX3_all, .instanceMethod yX3_all, .selects RX3 yX3_all yX3_all, .initialized RX3, .code yX3_all cX3_all 1 (some .int), .fieldLink RX3 15 "SlidTokens$Net" "nodes" "I"] ++ wsX20 ++ wsX40 ++ wsX30)
def wsX2_farthest : List Cond := .code yX2_farthest cX2_farthest 1 (some .int) :: ([.fieldLink RX2 32 "SlidTokens$Marks" "tail" "I", .sameField "SlidTokens$Marks" "SlidTokens$Search" "tail" "I", .fieldLink RX2 45 "SlidTokens$Marks" "far" "[I", .sameField "SlidTokens$Marks" "SlidTokens$Search" "far" "[I", .fieldLink RX2 88 "SlidTokens$Marks" "line" "[I", .sameField "SlidTokens$Marks" "SlidTokens$Search" "line" "[I"] ++ wsX20 ++ wsX40)
def wsX3_init : List Cond := .code yX3_init cX3_init 1 none :: ([.methodLink RX3 3 objectInit, .instanceMethod objectInit, .code objectInit ⟨#[0xb1]⟩ 1 none, .arrayClass .int, .fieldLink RX3 9 "SlidTokens$Net" "near" "[I", .fieldLink RX3 15 "SlidTokens$Net" "nodes" "I"] ++ wsX30)
def wsJ7_fill_53178 : List Cond := .code yJ7_fill_53178 cJ7_fill_53178 4 none :: ([])
def wsX3_restart : List Cond := .code yX3_restart cX3_restart 2 none :: ([.fieldLink RX3 9 "SlidTokens$Net" "near" "[I", .fieldLink RX3 15 "SlidTokens$Net" "nodes" "I", .methodLink RX3 19 yJ7_fill_53178, .static yJ7_fill_53178, .initialized RJ7, .code yJ7_fill_53178 cJ7_fill_53178 4 none] ++ wsX30)
def wsX3_hasSet : List Cond := .code yX3_hasSet cX3_hasSet 2 (some .boolean) :: ([.methodLink RX3 25 yX3_all, .instanceMethod yX3_all, .selects RX3 yX3_all yX3_all, .initialized RX3, .code yX3_all cX3_all 1 (some .int), .fieldLink RX3 15 "SlidTokens$Net" "nodes" "I"] ++ wsX30)
def wsX3_tie : List Cond := .code yX3_tie cX3_tie 4 none :: ([.fieldLink RX3 9 "SlidTokens$Net" "near" "[I", .methodLink RX3 29 yX3_hasNode, .instanceMethod yX3_hasNode, .selects RX3 yX3_hasNode yX3_hasNode, .initialized RX3, .code yX3_hasNode cX3_hasNode 2 (some .boolean), .fieldLink RX3 15 "SlidTokens$Net" "nodes" "I"] ++ wsX30)
def wsX3_pairs : List Cond := .code yX3_pairs cX3_pairs 3 (some .int) :: ([.fieldLink RX3 15 "SlidTokens$Net" "nodes" "I", .fieldLink RX3 9 "SlidTokens$Net" "near" "[I", .methodLink RX3 33 yJ6_bitCount_0f7a4, .static yJ6_bitCount_0f7a4, .initialized RJ6, .code yJ6_bitCount_0f7a4 cJ6_bitCount_0f7a4 1 (some .int), .constant RJ6 265 (1431655765), .constant RJ6 266 (858993459), .constant RJ6 267 (252645135)] ++ wsX30)
def wsX3_isInShape : List Cond := .code yX3_isInShape cX3_isInShape 4 (some .boolean) :: ([.fieldLink RX3 15 "SlidTokens$Net" "nodes" "I"] ++ wsX30)
def wsX3_form : List Cond := .code yX3_form cX3_form 4 none :: ([.fieldLink RX3 15 "SlidTokens$Net" "nodes" "I", .methodLink RX3 39 yX3_restart, .instanceMethod yX3_restart, .selects RX3 yX3_restart yX3_restart, .initialized RX3, .code yX3_restart cX3_restart 2 none, .fieldLink RX3 9 "SlidTokens$Net" "near" "[I", .methodLink RX3 19 yJ7_fill_53178, .static yJ7_fill_53178, .initialized RJ7, .code yJ7_fill_53178 cJ7_fill_53178 4 none, .methodLink RX3 43 yX3_isInShape, .instanceMethod yX3_isInShape, .selects RX3 yX3_isInShape yX3_isInShape, .code yX3_isInShape cX3_isInShape 4 (some .boolean), .methodLink RX3 47 yX3_tie, .instanceMethod yX3_tie, .selects RX3 yX3_tie yX3_tie, .code yX3_tie cX3_tie 4 none, .methodLink RX3 29 yX3_hasNode, .instanceMethod yX3_hasNode, .selects RX3 yX3_hasNode yX3_hasNode, .code yX3_hasNode cX3_hasNode 2 (some .boolean)] ++ wsX30)
def wsX4_init : List Cond := .code yX4_init cX4_init 2 none :: ([.fieldLink RX4 9 "SlidTokens$Paints" "colours" "I", .fieldLink RX4 15 "SlidTokens$Paints" "net" "LSlidTokens$Net;", .methodLink RX4 3 yX5_init, .instanceMethod yX5_init, .initialized RX5, .code yX5_init cX5_init 3 none, .methodLink RX5 3 objectInit, .instanceMethod objectInit, .code objectInit ⟨#[0xb1]⟩ 1 none, .fieldLink RX5 9 "SlidTokens$Search" "size" "I", .fieldLink RX5 15 "SlidTokens$Search" "tail" "I", .fieldLink RX5 18 "SlidTokens$Search" "found" "I", .arrayClass .int, .fieldLink RX5 21 "SlidTokens$Search" "far" "[I", .fieldLink RX5 25 "SlidTokens$Search" "line" "[I", .fieldLink RX5 28 "SlidTokens$Search" "next" "[I"] ++ wsX40 ++ wsX20)
def wsX4_colourOf : List Cond := .code yX4_colourOf cX4_colourOf 2 (some .int) :: ([])
def wsX4_isColouring : List Cond := .code yX4_isColouring cX4_isColouring 4 (some .boolean) :: ([.fieldLink RX4 15 "SlidTokens$Paints" "net" "LSlidTokens$Net;", .fieldLink RX4 19 "SlidTokens$Net" "nodes" "I", .methodLink RX4 51 yX4_colourOf, .static yX4_colourOf, .initialized RX4, .code yX4_colourOf cX4_colourOf 2 (some .int)] ++ wsX40 ++ wsX30)
def wsX4_differs : List Cond := .code yX4_differs cX4_differs 5 (some .boolean) :: ([.fieldLink RX4 15 "SlidTokens$Paints" "net" "LSlidTokens$Net;", .fieldLink RX4 19 "SlidTokens$Net" "nodes" "I", .fieldLink RX4 54 "SlidTokens$Net" "near" "[I", .methodLink RX4 51 yX4_colourOf, .static yX4_colourOf, .initialized RX4, .code yX4_colourOf cX4_colourOf 2 (some .int)] ++ wsX40 ++ wsX30)
def wsX4_isLawful : List Cond := .code yX4_isLawful cX4_isLawful 3 (some .boolean) :: ([.methodLink RX4 44 yX4_isColouring, .instanceMethod yX4_isColouring, .selects RX4 yX4_isColouring yX4_isColouring, .initialized RX4, .code yX4_isColouring cX4_isColouring 4 (some .boolean), .fieldLink RX4 15 "SlidTokens$Paints" "net" "LSlidTokens$Net;", .fieldLink RX4 19 "SlidTokens$Net" "nodes" "I", .methodLink RX4 51 yX4_colourOf, .static yX4_colourOf, .code yX4_colourOf cX4_colourOf 2 (some .int), .methodLink RX4 47 yX4_differs, .instanceMethod yX4_differs, .selects RX4 yX4_differs yX4_differs, .code yX4_differs cX4_differs 5 (some .boolean), .fieldLink RX4 54 "SlidTokens$Net" "near" "[I"] ++ wsX40 ++ wsX30)
def wsX4_begin_r1 : List Cond := [Cond.fieldLink RX4 9 "SlidTokens$Paints" "colours" "I", Cond.fieldLink RX4 15 "SlidTokens$Paints" "net" "LSlidTokens$Net;", Cond.fieldLink RX4 19 "SlidTokens$Net" "nodes" "I", Cond.fieldLink RX4 24 "SlidTokens$Paints" "far" "[I", Cond.sameField "SlidTokens$Paints" "SlidTokens$Search" "far" "[I", Cond.methodLink RX4 28 Lib.Math.min.name, Cond.static Lib.Math.min.name, Cond.initialized "java/lang/Math", Cond.code Lib.Math.min.name Lib.Math.min.code 2 (some .int), Cond.fieldLink RX4 34 "SlidTokens$Paints" "size" "I", Cond.sameField "SlidTokens$Paints" "SlidTokens$Search" "size" "I", Cond.fieldLink RX4 37 "SlidTokens$Paints" "tail" "I", Cond.sameField "SlidTokens$Paints" "SlidTokens$Search" "tail" "I", Cond.methodLink RX4 40 yX4_isLawful, Cond.instanceMethod yX4_isLawful, Cond.selects RX4 yX4_isLawful yX4_isLawful, Cond.initialized RX4, Cond.code yX4_isLawful cX4_isLawful 3 (some .boolean), Cond.methodLink RX4 44 yX4_isColouring, Cond.instanceMethod yX4_isColouring, Cond.selects RX4 yX4_isColouring yX4_isColouring, Cond.code yX4_isColouring cX4_isColouring 4 (some .boolean), Cond.methodLink RX4 51 yX4_colourOf, Cond.static yX4_colourOf]
def wsX4_begin_r2 : List Cond := [Cond.code yX4_colourOf cX4_colourOf 2 (some .int), Cond.methodLink RX4 47 yX4_differs, Cond.instanceMethod yX4_differs, Cond.selects RX4 yX4_differs yX4_differs, Cond.code yX4_differs cX4_differs 5 (some .boolean), Cond.fieldLink RX4 54 "SlidTokens$Net" "near" "[I"]
def wsX4_begin : List Cond := .code yX4_begin cX4_begin 3 none :: ((wsX4_begin_r1 ++ wsX4_begin_r2) ++ wsX40 ++ wsX30 ++ wsX20)
def wsX4_many : List Cond := .code yX4_many cX4_many 3 (some .int) :: ([.fieldLink RX4 34 "SlidTokens$Paints" "size" "I", .sameField "SlidTokens$Paints" "SlidTokens$Search" "size" "I", .fieldLink RX4 24 "SlidTokens$Paints" "far" "[I", .sameField "SlidTokens$Paints" "SlidTokens$Search" "far" "[I"] ++ wsX20 ++ wsX40)
def wsX4_stuck : List Cond := .code yX4_stuck cX4_stuck 3 (some .int) :: ([.fieldLink RX4 34 "SlidTokens$Paints" "size" "I", .sameField "SlidTokens$Paints" "SlidTokens$Search" "size" "I", .fieldLink RX4 24 "SlidTokens$Paints" "far" "[I", .sameField "SlidTokens$Paints" "SlidTokens$Search" "far" "[I", .fieldLink RX4 57 "SlidTokens$Paints" "found" "I", .sameField "SlidTokens$Paints" "SlidTokens$Search" "found" "I", .methodLink RX4 64 yX4_gather, .instanceMethod yX4_gather, .selects RX4 yX4_gather yX4_gather, .initialized RX4, .code yX4_gather cX4_gather 6 none, .fieldLink RX4 15 "SlidTokens$Paints" "net" "LSlidTokens$Net;", .fieldLink RX4 19 "SlidTokens$Net" "nodes" "I", .fieldLink RX4 9 "SlidTokens$Paints" "colours" "I", .methodLink RX4 60 ⟨"SlidTokens$Paints", "note", "(I)V"⟩, .sameMethod "SlidTokens$Paints" "SlidTokens$Search" "note" "(I)V", .selects RX4 ⟨"SlidTokens$Paints", "note", "(I)V"⟩ yX5_note, .instanceMethod yX5_note, .initialized RX5, .code yX5_note cX5_note 2 none, .fieldLink RX5 18 "SlidTokens$Search" "found" "I", .fieldLink RX5 28 "SlidTokens$Search" "next" "[I"] ++ wsX20 ++ wsX40 ++ wsX30)
def wsX5_components_r1 : List Cond := [Cond.fieldLink RX5 9 "SlidTokens$Search" "size" "I", Cond.fieldLink RX5 21 "SlidTokens$Search" "far" "[I", Cond.methodLink RX5 39 ⟨"SlidTokens$Search", "spread", "(II)V"⟩, Cond.sameMethod "SlidTokens$Search" "SlidTokens$Search" "spread" "(II)V", Cond.selects RX2 ⟨"SlidTokens$Search", "spread", "(II)V"⟩ yX5_spread, Cond.instanceMethod yX5_spread, Cond.initialized RX5, Cond.code yX5_spread cX5_spread 7 none, Cond.fieldLink RX5 15 "SlidTokens$Search" "tail" "I", Cond.fieldLink RX5 25 "SlidTokens$Search" "line" "[I", Cond.fieldLink RX5 18 "SlidTokens$Search" "found" "I", Cond.fieldLink RX5 28 "SlidTokens$Search" "next" "[I", Cond.methodLink RX5 31 ⟨"SlidTokens$Search", "enter", "(II)V"⟩, Cond.sameMethod "SlidTokens$Search" "SlidTokens$Search" "enter" "(II)V", Cond.selects RX2 ⟨"SlidTokens$Search", "enter", "(II)V"⟩ yX5_enter, Cond.instanceMethod yX5_enter, Cond.code yX5_enter cX5_enter 3 none, Cond.selects RX4 ⟨"SlidTokens$Search", "enter", "(II)V"⟩ yX5_enter, Cond.methodLink RX5 35 ⟨"SlidTokens$Search", "gather", "(I)V"⟩, Cond.sameMethod "SlidTokens$Search" "SlidTokens$Search" "gather" "(I)V", Cond.selects RX2 ⟨"SlidTokens$Search", "gather", "(I)V"⟩ yX2_gather, Cond.instanceMethod yX2_gather, Cond.initialized RX2, Cond.code yX2_gather cX2_gather 3 none]
def wsX5_components_r2 : List Cond := [Cond.fieldLink RX2 52 "SlidTokens$Marks" "found" "I", Cond.sameField "SlidTokens$Marks" "SlidTokens$Search" "found" "I", Cond.fieldLink RX2 19 "SlidTokens$Marks" "net" "LSlidTokens$Net;", Cond.fieldLink RX2 55 "SlidTokens$Net" "nodes" "I", Cond.fieldLink RX2 15 "SlidTokens$Marks" "moves" "I", Cond.methodLink RX2 58 yX2_gatherSwaps, Cond.instanceMethod yX2_gatherSwaps, Cond.selects RX2 yX2_gatherSwaps yX2_gatherSwaps, Cond.code yX2_gatherSwaps cX2_gatherSwaps 7 none, Cond.fieldLink RX2 64 "SlidTokens$Net" "near" "[I", Cond.methodLink RX2 23 yX3_all, Cond.instanceMethod yX3_all, Cond.selects RX3 yX3_all yX3_all, Cond.initialized RX3, Cond.code yX3_all cX3_all 1 (some .int), Cond.fieldLink RX3 15 "SlidTokens$Net" "nodes" "I", Cond.methodLink RX2 61 yX2_offer, Cond.instanceMethod yX2_offer, Cond.selects RX2 yX2_offer yX2_offer, Cond.code yX2_offer cX2_offer 3 none, Cond.fieldLink RX2 45 "SlidTokens$Marks" "far" "[I", Cond.sameField "SlidTokens$Marks" "SlidTokens$Search" "far" "[I", Cond.fieldLink RX2 11 "SlidTokens$Marks" "cost" "[I", Cond.methodLink RX2 67 ⟨"SlidTokens$Marks", "note", "(I)V"⟩]
def wsX5_components_r3 : List Cond := [Cond.sameMethod "SlidTokens$Marks" "SlidTokens$Search" "note" "(I)V", Cond.selects RX2 ⟨"SlidTokens$Marks", "note", "(I)V"⟩ yX5_note, Cond.instanceMethod yX5_note, Cond.code yX5_note cX5_note 2 none, Cond.selects RX4 ⟨"SlidTokens$Search", "gather", "(I)V"⟩ yX4_gather, Cond.instanceMethod yX4_gather, Cond.initialized RX4, Cond.code yX4_gather cX4_gather 6 none, Cond.fieldLink RX4 57 "SlidTokens$Paints" "found" "I", Cond.sameField "SlidTokens$Paints" "SlidTokens$Search" "found" "I", Cond.fieldLink RX4 15 "SlidTokens$Paints" "net" "LSlidTokens$Net;", Cond.fieldLink RX4 19 "SlidTokens$Net" "nodes" "I", Cond.fieldLink RX4 9 "SlidTokens$Paints" "colours" "I", Cond.fieldLink RX4 24 "SlidTokens$Paints" "far" "[I", Cond.sameField "SlidTokens$Paints" "SlidTokens$Search" "far" "[I", Cond.methodLink RX4 60 ⟨"SlidTokens$Paints", "note", "(I)V"⟩, Cond.sameMethod "SlidTokens$Paints" "SlidTokens$Search" "note" "(I)V", Cond.selects RX4 ⟨"SlidTokens$Paints", "note", "(I)V"⟩ yX5_note, Cond.selects RX4 ⟨"SlidTokens$Search", "spread", "(II)V"⟩ yX5_spread]
def wsX5_components : List Cond := .code yX5_components cX5_components 3 (some .int) :: ((wsX5_components_r1 ++ (wsX5_components_r2 ++ wsX5_components_r3)) ++ wsX20 ++ wsX40 ++ wsX30)
def wsX7_init : List Cond := .code yX7_init cX7_init 1 none :: ([.methodLink RX7 1 objectInit, .instanceMethod objectInit, .code objectInit ⟨#[0xb1]⟩ 1 none, .fieldLink RX7 7 "SlidTokens$Tally" "sum" "J"] ++ wsX70)
def wsX8_init_r1 : List Cond := [Cond.methodLink RX8 1 objectInit, Cond.instanceMethod objectInit, Cond.code objectInit ⟨#[0xb1]⟩ 1 none, Cond.classLink RX8 7 RX3, Cond.instantiable RX3 2, Cond.initialized RX3, Cond.fieldLink RX8 10 "SlidTokens" "graph" "LSlidTokens$Net;", Cond.classLink RX8 16 RX2, Cond.instantiable RX2 9, Cond.initialized RX2, Cond.fieldLink RX8 21 "SlidTokens" "marks" "LSlidTokens$Marks;", Cond.classLink RX8 25 RX4, Cond.instantiable RX4 8, Cond.initialized RX4, Cond.fieldLink RX8 28 "SlidTokens" "paints" "LSlidTokens$Paints;", Cond.classLink RX8 32 RX6, Cond.instantiable RX6 0, Cond.initialized RX6, Cond.classLink RX8 35 RX1, Cond.instantiable RX1 0, Cond.initialized RX1, Cond.classLink RX8 38 RX0, Cond.instantiable RX0 0, Cond.initialized RX0]
def wsX8_init_r2 : List Cond := [Cond.fieldLink RX8 41 "SlidTokens" "weighers" "[LSlidTokens$Slide;", Cond.classLink RX8 45 RX7, Cond.instantiable RX7 1, Cond.initialized RX7, Cond.fieldLink RX8 48 "SlidTokens" "tally" "LSlidTokens$Tally;", Cond.fieldLink RX8 52 "SlidTokens" "least" "I", Cond.fieldLink RX8 56 "SlidTokens" "most" "I", Cond.fieldLink RX8 59 "SlidTokens" "colours" "I", Cond.instanceMethod yX3_init, Cond.code yX3_init cX3_init 1 none, Cond.methodLink RX3 3 objectInit, Cond.arrayClass .int, Cond.fieldLink RX3 9 "SlidTokens$Net" "near" "[I", Cond.fieldLink RX3 15 "SlidTokens$Net" "nodes" "I", Cond.methodLink RX8 18 yX2_init, Cond.instanceMethod yX2_init, Cond.code yX2_init cX2_init 2 none, Cond.fieldLink RX2 11 "SlidTokens$Marks" "cost" "[I", Cond.fieldLink RX2 15 "SlidTokens$Marks" "moves" "I", Cond.fieldLink RX2 19 "SlidTokens$Marks" "net" "LSlidTokens$Net;", Cond.methodLink RX2 5 yX5_init, Cond.instanceMethod yX5_init, Cond.initialized RX5, Cond.code yX5_init cX5_init 3 none]
def wsX8_init_r3 : List Cond := [Cond.methodLink RX5 3 objectInit, Cond.fieldLink RX5 9 "SlidTokens$Search" "size" "I", Cond.fieldLink RX5 15 "SlidTokens$Search" "tail" "I", Cond.fieldLink RX5 18 "SlidTokens$Search" "found" "I", Cond.fieldLink RX5 21 "SlidTokens$Search" "far" "[I", Cond.fieldLink RX5 25 "SlidTokens$Search" "line" "[I", Cond.fieldLink RX5 28 "SlidTokens$Search" "next" "[I", Cond.methodLink RX8 27 yX4_init, Cond.instanceMethod yX4_init, Cond.code yX4_init cX4_init 2 none, Cond.fieldLink RX4 9 "SlidTokens$Paints" "colours" "I", Cond.fieldLink RX4 15 "SlidTokens$Paints" "net" "LSlidTokens$Net;", Cond.methodLink RX4 3 yX5_init, Cond.instanceMethod yX6_init, Cond.code yX6_init cX6_init 1 none, Cond.methodLink RX6 3 objectInit, Cond.instanceMethod yX1_init, Cond.code yX1_init cX1_init 1 none, Cond.instanceMethod yX0_init, Cond.code yX0_init cX0_init 1 none, Cond.instanceMethod yX7_init, Cond.code yX7_init cX7_init 1 none, Cond.methodLink RX7 1 objectInit, Cond.fieldLink RX7 7 "SlidTokens$Tally" "sum" "J"]
def wsX8_init : List Cond := .code yX8_init cX8_init 1 none :: ((wsX8_init_r1 ++ (wsX8_init_r2 ++ wsX8_init_r3)) ++ wsX30 ++ wsX80 ++ wsX20 ++ wsX40 ++ wsX60 ++ wsX10 ++ wsX00 ++ wsX70)
def wsX8_net : List Cond := .code yX8_net cX8_net 3 (some .int) :: ([.fieldLink RX8 10 "SlidTokens" "graph" "LSlidTokens$Net;", .fieldLink RX8 66 "SlidTokens$Net" "nodes" "I", .methodLink RX8 62 yX8_isWithin, .static yX8_isWithin, .initialized RX8, .code yX8_isWithin cX8_isWithin 3 (some .boolean), .methodLink RX8 69 yX3_restart, .instanceMethod yX3_restart, .selects RX3 yX3_restart yX3_restart, .initialized RX3, .code yX3_restart cX3_restart 2 none, .fieldLink RX3 9 "SlidTokens$Net" "near" "[I", .fieldLink RX3 15 "SlidTokens$Net" "nodes" "I", .methodLink RX3 19 yJ7_fill_53178, .static yJ7_fill_53178, .initialized RJ7, .code yJ7_fill_53178 cJ7_fill_53178 4 none] ++ wsX80 ++ wsX30)
def wsX8_asNumber : List Cond := .code yX8_asNumber cX8_asNumber 1 (some .int) :: ([])
def wsX8_join : List Cond := .code yX8_join cX8_join 5 (some .int) :: ([.fieldLink RX8 10 "SlidTokens" "graph" "LSlidTokens$Net;", .methodLink RX8 73 yX3_hasNode, .instanceMethod yX3_hasNode, .selects RX3 yX3_hasNode yX3_hasNode, .initialized RX3, .code yX3_hasNode cX3_hasNode 2 (some .boolean), .fieldLink RX3 15 "SlidTokens$Net" "nodes" "I", .methodLink RX8 62 yX8_isWithin, .static yX8_isWithin, .initialized RX8, .code yX8_isWithin cX8_isWithin 3 (some .boolean), .methodLink RX8 77 yX3_areJoined, .instanceMethod yX3_areJoined, .selects RX3 yX3_areJoined yX3_areJoined, .code yX3_areJoined cX3_areJoined 3 (some .boolean), .fieldLink RX3 9 "SlidTokens$Net" "near" "[I", .methodLink RX3 29 yX3_hasNode, .methodLink RX8 81 yX8_asNumber, .static yX8_asNumber, .code yX8_asNumber cX8_asNumber 1 (some .int), .methodLink RX8 85 yX3_tie, .instanceMethod yX3_tie, .selects RX3 yX3_tie yX3_tie, .code yX3_tie cX3_tie 4 none] ++ wsX80 ++ wsX30)
def wsX8_shape_r1 : List Cond := [Cond.fieldLink RX8 10 "SlidTokens" "graph" "LSlidTokens$Net;", Cond.methodLink RX8 62 yX8_isWithin, Cond.static yX8_isWithin, Cond.initialized RX8, Cond.code yX8_isWithin cX8_isWithin 3 (some .boolean), Cond.methodLink RX8 89 yX3_form, Cond.instanceMethod yX3_form, Cond.selects RX3 yX3_form yX3_form, Cond.initialized RX3, Cond.code yX3_form cX3_form 4 none, Cond.fieldLink RX3 15 "SlidTokens$Net" "nodes" "I", Cond.methodLink RX3 39 yX3_restart, Cond.instanceMethod yX3_restart, Cond.selects RX3 yX3_restart yX3_restart, Cond.code yX3_restart cX3_restart 2 none, Cond.fieldLink RX3 9 "SlidTokens$Net" "near" "[I", Cond.methodLink RX3 19 yJ7_fill_53178, Cond.static yJ7_fill_53178, Cond.initialized RJ7, Cond.code yJ7_fill_53178 cJ7_fill_53178 4 none, Cond.methodLink RX3 43 yX3_isInShape, Cond.instanceMethod yX3_isInShape, Cond.selects RX3 yX3_isInShape yX3_isInShape, Cond.code yX3_isInShape cX3_isInShape 4 (some .boolean)]
def wsX8_shape_r2 : List Cond := [Cond.methodLink RX3 47 yX3_tie, Cond.instanceMethod yX3_tie, Cond.selects RX3 yX3_tie yX3_tie, Cond.code yX3_tie cX3_tie 4 none, Cond.methodLink RX3 29 yX3_hasNode, Cond.instanceMethod yX3_hasNode, Cond.selects RX3 yX3_hasNode yX3_hasNode, Cond.code yX3_hasNode cX3_hasNode 2 (some .boolean), Cond.methodLink RX8 92 yX3_pairs, Cond.instanceMethod yX3_pairs, Cond.selects RX3 yX3_pairs yX3_pairs, Cond.code yX3_pairs cX3_pairs 3 (some .int), Cond.methodLink RX3 33 yJ6_bitCount_0f7a4, Cond.static yJ6_bitCount_0f7a4, Cond.initialized RJ6, Cond.code yJ6_bitCount_0f7a4 cJ6_bitCount_0f7a4 1 (some .int), Cond.constant RJ6 265 (1431655765), Cond.constant RJ6 266 (858993459), Cond.constant RJ6 267 (252645135)]
def wsX8_shape : List Cond := .code yX8_shape cX8_shape 2 (some .int) :: ((wsX8_shape_r1 ++ wsX8_shape_r2) ++ wsX80 ++ wsX30)
def wsX8_set : List Cond := .code yX8_set cX8_set 7 (some .int) :: ([.fieldLink RX8 59 "SlidTokens" "colours" "I", .fieldLink RX8 56 "SlidTokens" "most" "I", .fieldLink RX8 52 "SlidTokens" "least" "I", .methodLink RX8 62 yX8_isWithin, .static yX8_isWithin, .initialized RX8, .code yX8_isWithin cX8_isWithin 3 (some .boolean)] ++ wsX80)
def wsX8_isKind : List Cond := .code yX8_isKind cX8_isKind 1 (some .boolean) :: ([.methodLink RX8 62 yX8_isWithin, .static yX8_isWithin, .initialized RX8, .code yX8_isWithin cX8_isWithin 3 (some .boolean)])
def wsX8_lawful_r1 : List Cond := [Cond.fieldLink RX8 10 "SlidTokens" "graph" "LSlidTokens$Net;", Cond.methodLink RX8 96 yX8_isKind, Cond.static yX8_isKind, Cond.initialized RX8, Cond.code yX8_isKind cX8_isKind 1 (some .boolean), Cond.methodLink RX8 62 yX8_isWithin, Cond.static yX8_isWithin, Cond.code yX8_isWithin cX8_isWithin 3 (some .boolean), Cond.methodLink RX8 99 yX3_hasSet, Cond.instanceMethod yX3_hasSet, Cond.selects RX3 yX3_hasSet yX3_hasSet, Cond.initialized RX3, Cond.code yX3_hasSet cX3_hasSet 2 (some .boolean), Cond.methodLink RX3 25 yX3_all, Cond.instanceMethod yX3_all, Cond.selects RX3 yX3_all yX3_all, Cond.code yX3_all cX3_all 1 (some .int), Cond.fieldLink RX3 15 "SlidTokens$Net" "nodes" "I", Cond.methodLink RX8 102 yX3_isLawful, Cond.instanceMethod yX3_isLawful, Cond.selects RX3 yX3_isLawful yX3_isLawful, Cond.code yX3_isLawful cX3_isLawful 3 (some .boolean), Cond.methodLink RX3 51 yX3_touchesNowhere, Cond.instanceMethod yX3_touchesNowhere]
def wsX8_lawful_r2 : List Cond := [Cond.selects RX3 yX3_touchesNowhere yX3_touchesNowhere, Cond.code yX3_touchesNowhere cX3_touchesNowhere 3 (some .boolean), Cond.fieldLink RX3 9 "SlidTokens$Net" "near" "[I", Cond.methodLink RX3 54 yX3_seesAll, Cond.instanceMethod yX3_seesAll, Cond.selects RX3 yX3_seesAll yX3_seesAll, Cond.code yX3_seesAll cX3_seesAll 4 (some .boolean), Cond.methodLink RX8 81 yX8_asNumber, Cond.static yX8_asNumber, Cond.code yX8_asNumber cX8_asNumber 1 (some .int)]
def wsX8_lawful : List Cond := .code yX8_lawful cX8_lawful 3 (some .int) :: ((wsX8_lawful_r1 ++ wsX8_lawful_r2) ++ wsX80 ++ wsX30)
def wsX8_count_r1 : List Cond := [Cond.fieldLink RX8 10 "SlidTokens" "graph" "LSlidTokens$Net;", Cond.fieldLink RX8 66 "SlidTokens$Net" "nodes" "I", Cond.methodLink RX8 96 yX8_isKind, Cond.static yX8_isKind, Cond.initialized RX8, Cond.code yX8_isKind cX8_isKind 1 (some .boolean), Cond.methodLink RX8 62 yX8_isWithin, Cond.static yX8_isWithin, Cond.code yX8_isWithin cX8_isWithin 3 (some .boolean), Cond.methodLink RX8 105 yX3_all, Cond.instanceMethod yX3_all, Cond.selects RX3 yX3_all yX3_all, Cond.initialized RX3, Cond.code yX3_all cX3_all 1 (some .int), Cond.fieldLink RX3 15 "SlidTokens$Net" "nodes" "I", Cond.methodLink RX8 108 yJ6_bitCount_0f7a4, Cond.static yJ6_bitCount_0f7a4, Cond.initialized RJ6, Cond.code yJ6_bitCount_0f7a4 cJ6_bitCount_0f7a4 1 (some .int), Cond.constant RJ6 265 (1431655765), Cond.constant RJ6 266 (858993459), Cond.constant RJ6 267 (252645135), Cond.methodLink RX8 102 yX3_isLawful, Cond.instanceMethod yX3_isLawful]
def wsX8_count_r2 : List Cond := [Cond.selects RX3 yX3_isLawful yX3_isLawful, Cond.code yX3_isLawful cX3_isLawful 3 (some .boolean), Cond.methodLink RX3 51 yX3_touchesNowhere, Cond.instanceMethod yX3_touchesNowhere, Cond.selects RX3 yX3_touchesNowhere yX3_touchesNowhere, Cond.code yX3_touchesNowhere cX3_touchesNowhere 3 (some .boolean), Cond.fieldLink RX3 9 "SlidTokens$Net" "near" "[I", Cond.methodLink RX3 25 yX3_all, Cond.methodLink RX3 54 yX3_seesAll, Cond.instanceMethod yX3_seesAll, Cond.selects RX3 yX3_seesAll yX3_seesAll, Cond.code yX3_seesAll cX3_seesAll 4 (some .boolean)]
def wsX8_count : List Cond := .code yX8_count cX8_count 6 (some .int) :: ((wsX8_count_r1 ++ wsX8_count_r2) ++ wsX80 ++ wsX30)
def wsX8_areMoves : List Cond := .code yX8_areMoves cX8_areMoves 1 (some .boolean) :: ([.methodLink RX8 62 yX8_isWithin, .static yX8_isWithin, .initialized RX8, .code yX8_isWithin cX8_isWithin 3 (some .boolean)])
def wsX8_weight_r1 : List Cond := [Cond.fieldLink RX8 10 "SlidTokens" "graph" "LSlidTokens$Net;", Cond.fieldLink RX8 41 "SlidTokens" "weighers" "[LSlidTokens$Slide;", Cond.fieldLink RX8 48 "SlidTokens" "tally" "LSlidTokens$Tally;", Cond.methodLink RX8 114 yX8_areMoves, Cond.static yX8_areMoves, Cond.initialized RX8, Cond.code yX8_areMoves cX8_areMoves 1 (some .boolean), Cond.methodLink RX8 62 yX8_isWithin, Cond.static yX8_isWithin, Cond.code yX8_isWithin cX8_isWithin 3 (some .boolean), Cond.methodLink RX8 99 yX3_hasSet, Cond.instanceMethod yX3_hasSet, Cond.selects RX3 yX3_hasSet yX3_hasSet, Cond.initialized RX3, Cond.code yX3_hasSet cX3_hasSet 2 (some .boolean), Cond.methodLink RX3 25 yX3_all, Cond.instanceMethod yX3_all, Cond.selects RX3 yX3_all yX3_all, Cond.code yX3_all cX3_all 1 (some .int), Cond.fieldLink RX3 15 "SlidTokens$Net" "nodes" "I", Cond.methodLink RX8 117 ⟨"SlidTokens$Slide", "weigh", "(LSlidTokens$Net;IILSlidTokens$Tally;)I"⟩, Cond.sameMethod "SlidTokens$Slide" "SlidTokens$Slide" "weigh" "(LSlidTokens$Net;IILSlidTokens$Tally;)I", Cond.instanceMethod ⟨"SlidTokens$Slide", "weigh", "(LSlidTokens$Net;IILSlidTokens$Tally;)I"⟩, Cond.selects RX0 ⟨"SlidTokens$Slide", "weigh", "(LSlidTokens$Net;IILSlidTokens$Tally;)I"⟩ yX0_weigh]
def wsX8_weight_r2 : List Cond := [Cond.instanceMethod yX0_weigh, Cond.initialized RX0, Cond.code yX0_weigh cX0_weigh 6 (some .int), Cond.fieldLink RX0 9 "SlidTokens$Tally" "sum" "J", Cond.constantLong RX0 15 (100), Cond.methodLink RX0 17 yX1_weigh, Cond.sameMethod "SlidTokens$Jump" "SlidTokens$Jump" "weigh" "(LSlidTokens$Net;IILSlidTokens$Tally;)I", Cond.superclass RX0 RX1, Cond.instanceMethod yX1_weigh, Cond.initialized RX1, Cond.code yX1_weigh cX1_weigh 6 (some .int), Cond.fieldLink RX1 9 "SlidTokens$Tally" "sum" "J", Cond.constantLong RX1 15 (10), Cond.methodLink RX1 17 yX6_weigh, Cond.superclass RX1 RX6, Cond.instanceMethod yX6_weigh, Cond.initialized RX6, Cond.code yX6_weigh cX6_weigh 7 (some .int), Cond.fieldLink RX6 9 "SlidTokens$Tally" "sum" "J", Cond.methodLink RX6 15 yX6_isSwap, Cond.static yX6_isSwap, Cond.code yX6_isSwap cX6_isSwap 2 (some .boolean), Cond.methodLink RX6 32 yJ6_bitCount_0f7a4, Cond.static yJ6_bitCount_0f7a4]
def wsX8_weight_r3 : List Cond := [Cond.initialized RJ6, Cond.code yJ6_bitCount_0f7a4 cJ6_bitCount_0f7a4 1 (some .int), Cond.constant RJ6 265 (1431655765), Cond.constant RJ6 266 (858993459), Cond.constant RJ6 267 (252645135), Cond.methodLink RX6 21 yJ6_numberOfTrailingZeros_0f7a4, Cond.static yJ6_numberOfTrailingZeros_0f7a4, Cond.code yJ6_numberOfTrailingZeros_0f7a4 cJ6_numberOfTrailingZeros_0f7a4 2 (some .int), Cond.constant RJ6 264 (65536), Cond.methodLink RX6 27 yX3_areJoined, Cond.instanceMethod yX3_areJoined, Cond.selects RX3 yX3_areJoined yX3_areJoined, Cond.code yX3_areJoined cX3_areJoined 3 (some .boolean), Cond.fieldLink RX3 9 "SlidTokens$Net" "near" "[I", Cond.methodLink RX3 29 yX3_hasNode, Cond.instanceMethod yX3_hasNode, Cond.selects RX3 yX3_hasNode yX3_hasNode, Cond.code yX3_hasNode cX3_hasNode 2 (some .boolean), Cond.methodLink RX0 21 yJ6_bitCount_0f7a4, Cond.selects RX1 ⟨"SlidTokens$Slide", "weigh", "(LSlidTokens$Net;IILSlidTokens$Tally;)I"⟩ yX1_weigh, Cond.methodLink RX8 117 yX6_weigh, Cond.selects RX6 yX6_weigh yX6_weigh]
def wsX8_weight : List Cond := .code yX8_weight cX8_weight 4 (some .int) :: ((wsX8_weight_r1 ++ (wsX8_weight_r2 ++ wsX8_weight_r3)) ++ wsX80 ++ wsX30 ++ wsX70)
def wsX8_isLawfulSet : List Cond := .code yX8_isLawfulSet cX8_isLawfulSet 3 (some .boolean) :: ([.fieldLink RX8 10 "SlidTokens" "graph" "LSlidTokens$Net;", .methodLink RX8 99 yX3_hasSet, .instanceMethod yX3_hasSet, .selects RX3 yX3_hasSet yX3_hasSet, .initialized RX3, .code yX3_hasSet cX3_hasSet 2 (some .boolean), .methodLink RX3 25 yX3_all, .instanceMethod yX3_all, .selects RX3 yX3_all yX3_all, .code yX3_all cX3_all 1 (some .int), .fieldLink RX3 15 "SlidTokens$Net" "nodes" "I", .methodLink RX8 102 yX3_isLawful, .instanceMethod yX3_isLawful, .selects RX3 yX3_isLawful yX3_isLawful, .code yX3_isLawful cX3_isLawful 3 (some .boolean), .methodLink RX3 51 yX3_touchesNowhere, .instanceMethod yX3_touchesNowhere, .selects RX3 yX3_touchesNowhere yX3_touchesNowhere, .code yX3_touchesNowhere cX3_touchesNowhere 3 (some .boolean), .fieldLink RX3 9 "SlidTokens$Net" "near" "[I", .methodLink RX3 54 yX3_seesAll, .instanceMethod yX3_seesAll, .selects RX3 yX3_seesAll yX3_seesAll, .code yX3_seesAll cX3_seesAll 4 (some .boolean)] ++ wsX80 ++ wsX30)
def wsX8_begin_r1 : List Cond := [Cond.fieldLink RX8 21 "SlidTokens" "marks" "LSlidTokens$Marks;", Cond.fieldLink RX8 52 "SlidTokens" "least" "I", Cond.fieldLink RX8 56 "SlidTokens" "most" "I", Cond.methodLink RX8 153 yX2_begin, Cond.instanceMethod yX2_begin, Cond.selects RX2 yX2_begin yX2_begin, Cond.initialized RX2, Cond.code yX2_begin cX2_begin 7 none, Cond.fieldLink RX2 15 "SlidTokens$Marks" "moves" "I", Cond.fieldLink RX2 19 "SlidTokens$Marks" "net" "LSlidTokens$Net;", Cond.fieldLink RX2 29 "SlidTokens$Marks" "size" "I", Cond.sameField "SlidTokens$Marks" "SlidTokens$Search" "size" "I", Cond.fieldLink RX2 32 "SlidTokens$Marks" "tail" "I", Cond.sameField "SlidTokens$Marks" "SlidTokens$Search" "tail" "I", Cond.fieldLink RX2 45 "SlidTokens$Marks" "far" "[I", Cond.sameField "SlidTokens$Marks" "SlidTokens$Search" "far" "[I", Cond.methodLink RX2 23 yX3_all, Cond.instanceMethod yX3_all, Cond.selects RX3 yX3_all yX3_all, Cond.initialized RX3, Cond.code yX3_all cX3_all 1 (some .int), Cond.fieldLink RX3 15 "SlidTokens$Net" "nodes" "I", Cond.methodLink RX2 35 yJ6_bitCount_0f7a4, Cond.static yJ6_bitCount_0f7a4]
def wsX8_begin_r2 : List Cond := [Cond.initialized RJ6, Cond.code yJ6_bitCount_0f7a4 cJ6_bitCount_0f7a4 1 (some .int), Cond.constant RJ6 265 (1431655765), Cond.constant RJ6 266 (858993459), Cond.constant RJ6 267 (252645135), Cond.static yX8_isWithin, Cond.initialized RX8, Cond.code yX8_isWithin cX8_isWithin 3 (some .boolean), Cond.methodLink RX2 48 yX3_isLawful, Cond.instanceMethod yX3_isLawful, Cond.selects RX3 yX3_isLawful yX3_isLawful, Cond.code yX3_isLawful cX3_isLawful 3 (some .boolean), Cond.methodLink RX3 51 yX3_touchesNowhere, Cond.instanceMethod yX3_touchesNowhere, Cond.selects RX3 yX3_touchesNowhere yX3_touchesNowhere, Cond.code yX3_touchesNowhere cX3_touchesNowhere 3 (some .boolean), Cond.fieldLink RX3 9 "SlidTokens$Net" "near" "[I", Cond.methodLink RX3 25 yX3_all, Cond.methodLink RX3 54 yX3_seesAll, Cond.instanceMethod yX3_seesAll, Cond.selects RX3 yX3_seesAll yX3_seesAll, Cond.code yX3_seesAll cX3_seesAll 4 (some .boolean)]
def wsX8_begin : List Cond := .code yX8_begin cX8_begin 3 none :: ((wsX8_begin_r1 ++ wsX8_begin_r2) ++ wsX80 ++ wsX20 ++ wsX40 ++ wsX30)
def wsX8_walk_r1 : List Cond := [Cond.fieldLink RX8 21 "SlidTokens" "marks" "LSlidTokens$Marks;", Cond.methodLink RX8 96 yX8_isKind, Cond.static yX8_isKind, Cond.initialized RX8, Cond.code yX8_isKind cX8_isKind 1 (some .boolean), Cond.methodLink RX8 62 yX8_isWithin, Cond.static yX8_isWithin, Cond.code yX8_isWithin cX8_isWithin 3 (some .boolean), Cond.methodLink RX8 114 yX8_areMoves, Cond.static yX8_areMoves, Cond.code yX8_areMoves cX8_areMoves 1 (some .boolean), Cond.methodLink RX8 121 yX8_isLawfulSet, Cond.instanceMethod yX8_isLawfulSet, Cond.selects RX8 yX8_isLawfulSet yX8_isLawfulSet, Cond.code yX8_isLawfulSet cX8_isLawfulSet 3 (some .boolean), Cond.fieldLink RX8 10 "SlidTokens" "graph" "LSlidTokens$Net;", Cond.methodLink RX8 99 yX3_hasSet, Cond.instanceMethod yX3_hasSet, Cond.selects RX3 yX3_hasSet yX3_hasSet, Cond.initialized RX3, Cond.code yX3_hasSet cX3_hasSet 2 (some .boolean), Cond.methodLink RX3 25 yX3_all, Cond.instanceMethod yX3_all, Cond.selects RX3 yX3_all yX3_all]
def wsX8_walk_r2 : List Cond := [Cond.code yX3_all cX3_all 1 (some .int), Cond.fieldLink RX3 15 "SlidTokens$Net" "nodes" "I", Cond.methodLink RX8 102 yX3_isLawful, Cond.instanceMethod yX3_isLawful, Cond.selects RX3 yX3_isLawful yX3_isLawful, Cond.code yX3_isLawful cX3_isLawful 3 (some .boolean), Cond.methodLink RX3 51 yX3_touchesNowhere, Cond.instanceMethod yX3_touchesNowhere, Cond.selects RX3 yX3_touchesNowhere yX3_touchesNowhere, Cond.code yX3_touchesNowhere cX3_touchesNowhere 3 (some .boolean), Cond.fieldLink RX3 9 "SlidTokens$Net" "near" "[I", Cond.methodLink RX3 54 yX3_seesAll, Cond.instanceMethod yX3_seesAll, Cond.selects RX3 yX3_seesAll yX3_seesAll, Cond.code yX3_seesAll cX3_seesAll 4 (some .boolean), Cond.methodLink RX8 124 yX8_begin, Cond.instanceMethod yX8_begin, Cond.selects RX8 yX8_begin yX8_begin, Cond.code yX8_begin cX8_begin 3 none, Cond.fieldLink RX8 52 "SlidTokens" "least" "I", Cond.fieldLink RX8 56 "SlidTokens" "most" "I", Cond.methodLink RX8 153 yX2_begin, Cond.instanceMethod yX2_begin, Cond.selects RX2 yX2_begin yX2_begin]
def wsX8_walk_r3 : List Cond := [Cond.initialized RX2, Cond.code yX2_begin cX2_begin 7 none, Cond.fieldLink RX2 15 "SlidTokens$Marks" "moves" "I", Cond.fieldLink RX2 19 "SlidTokens$Marks" "net" "LSlidTokens$Net;", Cond.fieldLink RX2 29 "SlidTokens$Marks" "size" "I", Cond.sameField "SlidTokens$Marks" "SlidTokens$Search" "size" "I", Cond.fieldLink RX2 32 "SlidTokens$Marks" "tail" "I", Cond.sameField "SlidTokens$Marks" "SlidTokens$Search" "tail" "I", Cond.fieldLink RX2 45 "SlidTokens$Marks" "far" "[I", Cond.sameField "SlidTokens$Marks" "SlidTokens$Search" "far" "[I", Cond.methodLink RX2 23 yX3_all, Cond.methodLink RX2 35 yJ6_bitCount_0f7a4, Cond.static yJ6_bitCount_0f7a4, Cond.initialized RJ6, Cond.code yJ6_bitCount_0f7a4 cJ6_bitCount_0f7a4 1 (some .int), Cond.constant RJ6 265 (1431655765), Cond.constant RJ6 266 (858993459), Cond.constant RJ6 267 (252645135), Cond.methodLink RX2 48 yX3_isLawful, Cond.methodLink RX8 128 ⟨"SlidTokens$Marks", "fewest", "(II)I"⟩, Cond.sameMethod "SlidTokens$Marks" "SlidTokens$Search" "fewest" "(II)I", Cond.selects RX2 ⟨"SlidTokens$Marks", "fewest", "(II)I"⟩ yX5_fewest, Cond.instanceMethod yX5_fewest, Cond.initialized RX5]
def wsX8_walk_r4 : List Cond := [Cond.code yX5_fewest cX5_fewest 3 (some .int), Cond.fieldLink RX5 21 "SlidTokens$Search" "far" "[I", Cond.methodLink RX5 39 ⟨"SlidTokens$Search", "spread", "(II)V"⟩, Cond.sameMethod "SlidTokens$Search" "SlidTokens$Search" "spread" "(II)V", Cond.selects RX2 ⟨"SlidTokens$Search", "spread", "(II)V"⟩ yX5_spread, Cond.instanceMethod yX5_spread, Cond.code yX5_spread cX5_spread 7 none, Cond.fieldLink RX5 15 "SlidTokens$Search" "tail" "I", Cond.fieldLink RX5 25 "SlidTokens$Search" "line" "[I", Cond.fieldLink RX5 18 "SlidTokens$Search" "found" "I", Cond.fieldLink RX5 28 "SlidTokens$Search" "next" "[I", Cond.methodLink RX5 31 ⟨"SlidTokens$Search", "enter", "(II)V"⟩, Cond.sameMethod "SlidTokens$Search" "SlidTokens$Search" "enter" "(II)V", Cond.selects RX2 ⟨"SlidTokens$Search", "enter", "(II)V"⟩ yX5_enter, Cond.instanceMethod yX5_enter, Cond.code yX5_enter cX5_enter 3 none, Cond.selects RX4 ⟨"SlidTokens$Search", "enter", "(II)V"⟩ yX5_enter, Cond.methodLink RX5 35 ⟨"SlidTokens$Search", "gather", "(I)V"⟩, Cond.sameMethod "SlidTokens$Search" "SlidTokens$Search" "gather" "(I)V", Cond.selects RX2 ⟨"SlidTokens$Search", "gather", "(I)V"⟩ yX2_gather, Cond.instanceMethod yX2_gather, Cond.code yX2_gather cX2_gather 3 none, Cond.fieldLink RX2 52 "SlidTokens$Marks" "found" "I", Cond.sameField "SlidTokens$Marks" "SlidTokens$Search" "found" "I"]
def wsX8_walk_r5 : List Cond := [Cond.fieldLink RX2 55 "SlidTokens$Net" "nodes" "I", Cond.methodLink RX2 58 yX2_gatherSwaps, Cond.instanceMethod yX2_gatherSwaps, Cond.selects RX2 yX2_gatherSwaps yX2_gatherSwaps, Cond.code yX2_gatherSwaps cX2_gatherSwaps 7 none, Cond.fieldLink RX2 64 "SlidTokens$Net" "near" "[I", Cond.methodLink RX2 61 yX2_offer, Cond.instanceMethod yX2_offer, Cond.selects RX2 yX2_offer yX2_offer, Cond.code yX2_offer cX2_offer 3 none, Cond.fieldLink RX2 11 "SlidTokens$Marks" "cost" "[I", Cond.methodLink RX2 67 ⟨"SlidTokens$Marks", "note", "(I)V"⟩, Cond.sameMethod "SlidTokens$Marks" "SlidTokens$Search" "note" "(I)V", Cond.selects RX2 ⟨"SlidTokens$Marks", "note", "(I)V"⟩ yX5_note, Cond.instanceMethod yX5_note, Cond.code yX5_note cX5_note 2 none, Cond.selects RX4 ⟨"SlidTokens$Search", "gather", "(I)V"⟩ yX4_gather, Cond.instanceMethod yX4_gather, Cond.initialized RX4, Cond.code yX4_gather cX4_gather 6 none, Cond.fieldLink RX4 57 "SlidTokens$Paints" "found" "I", Cond.sameField "SlidTokens$Paints" "SlidTokens$Search" "found" "I", Cond.fieldLink RX4 15 "SlidTokens$Paints" "net" "LSlidTokens$Net;", Cond.fieldLink RX4 19 "SlidTokens$Net" "nodes" "I"]
def wsX8_walk_r6 : List Cond := [Cond.fieldLink RX4 9 "SlidTokens$Paints" "colours" "I", Cond.fieldLink RX4 24 "SlidTokens$Paints" "far" "[I", Cond.sameField "SlidTokens$Paints" "SlidTokens$Search" "far" "[I", Cond.methodLink RX4 60 ⟨"SlidTokens$Paints", "note", "(I)V"⟩, Cond.sameMethod "SlidTokens$Paints" "SlidTokens$Search" "note" "(I)V", Cond.selects RX4 ⟨"SlidTokens$Paints", "note", "(I)V"⟩ yX5_note, Cond.selects RX4 ⟨"SlidTokens$Search", "spread", "(II)V"⟩ yX5_spread, Cond.methodLink RX8 132 yX2_following, Cond.instanceMethod yX2_following, Cond.selects RX2 yX2_following yX2_following, Cond.code yX2_following cX2_following 6 (some .int), Cond.fieldLink RX2 78 "SlidTokens$Marks" "next" "[I", Cond.sameField "SlidTokens$Marks" "SlidTokens$Search" "next" "[I", Cond.methodLink RX2 71 ⟨"SlidTokens$Marks", "fewest", "(II)I"⟩, Cond.methodLink RX2 75 yX2_gather, Cond.selects RX2 yX2_gather yX2_gather, Cond.methodLink RX8 135 yX2_lightest, Cond.instanceMethod yX2_lightest, Cond.selects RX2 yX2_lightest yX2_lightest, Cond.code yX2_lightest cX2_lightest 5 (some .int), Cond.methodLink RX2 81 yX2_forgetSpread, Cond.instanceMethod yX2_forgetSpread, Cond.selects RX2 yX2_forgetSpread yX2_forgetSpread, Cond.code yX2_forgetSpread cX2_forgetSpread 2 none]
def wsX8_walk_r7 : List Cond := [Cond.fieldLink RX2 88 "SlidTokens$Marks" "line" "[I", Cond.sameField "SlidTokens$Marks" "SlidTokens$Search" "line" "[I", Cond.methodLink RX2 85 yX2_settle, Cond.instanceMethod yX2_settle, Cond.selects RX2 yX2_settle yX2_settle, Cond.code yX2_settle cX2_settle 3 none, Cond.methodLink RX2 91 yX2_lighten, Cond.instanceMethod yX2_lighten, Cond.selects RX2 yX2_lighten yX2_lighten, Cond.code yX2_lighten cX2_lighten 4 none]
def wsX8_walk : List Cond := .code yX8_walk cX8_walk 6 (some .int) :: ((wsX8_walk_r1 ++ (wsX8_walk_r2 ++ (wsX8_walk_r3 ++ (wsX8_walk_r4 ++ (wsX8_walk_r5 ++ (wsX8_walk_r6 ++ wsX8_walk_r7)))))) ++ wsX80 ++ wsX30 ++ wsX20 ++ wsX40)
def wsX8_reach_r1 : List Cond := [Cond.fieldLink RX8 21 "SlidTokens" "marks" "LSlidTokens$Marks;", Cond.fieldLink RX8 141 "SlidTokens$Marks" "tail" "I", Cond.sameField "SlidTokens$Marks" "SlidTokens$Search" "tail" "I", Cond.methodLink RX8 96 yX8_isKind, Cond.static yX8_isKind, Cond.initialized RX8, Cond.code yX8_isKind cX8_isKind 1 (some .boolean), Cond.methodLink RX8 62 yX8_isWithin, Cond.static yX8_isWithin, Cond.code yX8_isWithin cX8_isWithin 3 (some .boolean), Cond.methodLink RX8 114 yX8_areMoves, Cond.static yX8_areMoves, Cond.code yX8_areMoves cX8_areMoves 1 (some .boolean), Cond.methodLink RX8 121 yX8_isLawfulSet, Cond.instanceMethod yX8_isLawfulSet, Cond.selects RX8 yX8_isLawfulSet yX8_isLawfulSet, Cond.code yX8_isLawfulSet cX8_isLawfulSet 3 (some .boolean), Cond.fieldLink RX8 10 "SlidTokens" "graph" "LSlidTokens$Net;", Cond.methodLink RX8 99 yX3_hasSet, Cond.instanceMethod yX3_hasSet, Cond.selects RX3 yX3_hasSet yX3_hasSet, Cond.initialized RX3, Cond.code yX3_hasSet cX3_hasSet 2 (some .boolean), Cond.methodLink RX3 25 yX3_all]
def wsX8_reach_r2 : List Cond := [Cond.instanceMethod yX3_all, Cond.selects RX3 yX3_all yX3_all, Cond.code yX3_all cX3_all 1 (some .int), Cond.fieldLink RX3 15 "SlidTokens$Net" "nodes" "I", Cond.methodLink RX8 102 yX3_isLawful, Cond.instanceMethod yX3_isLawful, Cond.selects RX3 yX3_isLawful yX3_isLawful, Cond.code yX3_isLawful cX3_isLawful 3 (some .boolean), Cond.methodLink RX3 51 yX3_touchesNowhere, Cond.instanceMethod yX3_touchesNowhere, Cond.selects RX3 yX3_touchesNowhere yX3_touchesNowhere, Cond.code yX3_touchesNowhere cX3_touchesNowhere 3 (some .boolean), Cond.fieldLink RX3 9 "SlidTokens$Net" "near" "[I", Cond.methodLink RX3 54 yX3_seesAll, Cond.instanceMethod yX3_seesAll, Cond.selects RX3 yX3_seesAll yX3_seesAll, Cond.code yX3_seesAll cX3_seesAll 4 (some .boolean), Cond.methodLink RX8 124 yX8_begin, Cond.instanceMethod yX8_begin, Cond.selects RX8 yX8_begin yX8_begin, Cond.code yX8_begin cX8_begin 3 none, Cond.fieldLink RX8 52 "SlidTokens" "least" "I", Cond.fieldLink RX8 56 "SlidTokens" "most" "I", Cond.methodLink RX8 153 yX2_begin]
def wsX8_reach_r3 : List Cond := [Cond.instanceMethod yX2_begin, Cond.selects RX2 yX2_begin yX2_begin, Cond.initialized RX2, Cond.code yX2_begin cX2_begin 7 none, Cond.fieldLink RX2 15 "SlidTokens$Marks" "moves" "I", Cond.fieldLink RX2 19 "SlidTokens$Marks" "net" "LSlidTokens$Net;", Cond.fieldLink RX2 29 "SlidTokens$Marks" "size" "I", Cond.sameField "SlidTokens$Marks" "SlidTokens$Search" "size" "I", Cond.fieldLink RX2 32 "SlidTokens$Marks" "tail" "I", Cond.fieldLink RX2 45 "SlidTokens$Marks" "far" "[I", Cond.sameField "SlidTokens$Marks" "SlidTokens$Search" "far" "[I", Cond.methodLink RX2 23 yX3_all, Cond.methodLink RX2 35 yJ6_bitCount_0f7a4, Cond.static yJ6_bitCount_0f7a4, Cond.initialized RJ6, Cond.code yJ6_bitCount_0f7a4 cJ6_bitCount_0f7a4 1 (some .int), Cond.constant RJ6 265 (1431655765), Cond.constant RJ6 266 (858993459), Cond.constant RJ6 267 (252645135), Cond.methodLink RX2 48 yX3_isLawful, Cond.methodLink RX8 138 ⟨"SlidTokens$Marks", "spread", "(II)V"⟩, Cond.sameMethod "SlidTokens$Marks" "SlidTokens$Search" "spread" "(II)V", Cond.selects RX2 ⟨"SlidTokens$Marks", "spread", "(II)V"⟩ yX5_spread, Cond.instanceMethod yX5_spread]
def wsX8_reach_r4 : List Cond := [Cond.initialized RX5, Cond.code yX5_spread cX5_spread 7 none, Cond.fieldLink RX5 15 "SlidTokens$Search" "tail" "I", Cond.fieldLink RX5 21 "SlidTokens$Search" "far" "[I", Cond.fieldLink RX5 25 "SlidTokens$Search" "line" "[I", Cond.fieldLink RX5 18 "SlidTokens$Search" "found" "I", Cond.fieldLink RX5 28 "SlidTokens$Search" "next" "[I", Cond.methodLink RX5 31 ⟨"SlidTokens$Search", "enter", "(II)V"⟩, Cond.sameMethod "SlidTokens$Search" "SlidTokens$Search" "enter" "(II)V", Cond.selects RX2 ⟨"SlidTokens$Search", "enter", "(II)V"⟩ yX5_enter, Cond.instanceMethod yX5_enter, Cond.code yX5_enter cX5_enter 3 none, Cond.selects RX4 ⟨"SlidTokens$Search", "enter", "(II)V"⟩ yX5_enter, Cond.methodLink RX5 35 ⟨"SlidTokens$Search", "gather", "(I)V"⟩, Cond.sameMethod "SlidTokens$Search" "SlidTokens$Search" "gather" "(I)V", Cond.selects RX2 ⟨"SlidTokens$Search", "gather", "(I)V"⟩ yX2_gather, Cond.instanceMethod yX2_gather, Cond.code yX2_gather cX2_gather 3 none, Cond.fieldLink RX2 52 "SlidTokens$Marks" "found" "I", Cond.sameField "SlidTokens$Marks" "SlidTokens$Search" "found" "I", Cond.fieldLink RX2 55 "SlidTokens$Net" "nodes" "I", Cond.methodLink RX2 58 yX2_gatherSwaps, Cond.instanceMethod yX2_gatherSwaps, Cond.selects RX2 yX2_gatherSwaps yX2_gatherSwaps]
def wsX8_reach_r5 : List Cond := [Cond.code yX2_gatherSwaps cX2_gatherSwaps 7 none, Cond.fieldLink RX2 64 "SlidTokens$Net" "near" "[I", Cond.methodLink RX2 61 yX2_offer, Cond.instanceMethod yX2_offer, Cond.selects RX2 yX2_offer yX2_offer, Cond.code yX2_offer cX2_offer 3 none, Cond.fieldLink RX2 11 "SlidTokens$Marks" "cost" "[I", Cond.methodLink RX2 67 ⟨"SlidTokens$Marks", "note", "(I)V"⟩, Cond.sameMethod "SlidTokens$Marks" "SlidTokens$Search" "note" "(I)V", Cond.selects RX2 ⟨"SlidTokens$Marks", "note", "(I)V"⟩ yX5_note, Cond.instanceMethod yX5_note, Cond.code yX5_note cX5_note 2 none, Cond.selects RX4 ⟨"SlidTokens$Search", "gather", "(I)V"⟩ yX4_gather, Cond.instanceMethod yX4_gather, Cond.initialized RX4, Cond.code yX4_gather cX4_gather 6 none, Cond.fieldLink RX4 57 "SlidTokens$Paints" "found" "I", Cond.sameField "SlidTokens$Paints" "SlidTokens$Search" "found" "I", Cond.fieldLink RX4 15 "SlidTokens$Paints" "net" "LSlidTokens$Net;", Cond.fieldLink RX4 19 "SlidTokens$Net" "nodes" "I", Cond.fieldLink RX4 9 "SlidTokens$Paints" "colours" "I", Cond.fieldLink RX4 24 "SlidTokens$Paints" "far" "[I", Cond.sameField "SlidTokens$Paints" "SlidTokens$Search" "far" "[I", Cond.methodLink RX4 60 ⟨"SlidTokens$Paints", "note", "(I)V"⟩]
def wsX8_reach_r6 : List Cond := [Cond.sameMethod "SlidTokens$Paints" "SlidTokens$Search" "note" "(I)V", Cond.selects RX4 ⟨"SlidTokens$Paints", "note", "(I)V"⟩ yX5_note, Cond.methodLink RX8 144 yX2_frozen, Cond.instanceMethod yX2_frozen, Cond.selects RX2 yX2_frozen yX2_frozen, Cond.code yX2_frozen cX2_frozen 3 (some .int), Cond.fieldLink RX2 88 "SlidTokens$Marks" "line" "[I", Cond.sameField "SlidTokens$Marks" "SlidTokens$Search" "line" "[I", Cond.methodLink RX8 147 yX2_farthest, Cond.instanceMethod yX2_farthest, Cond.selects RX2 yX2_farthest yX2_farthest, Cond.code yX2_farthest cX2_farthest 1 (some .int)]
def wsX8_reach : List Cond := .code yX8_reach cX8_reach 5 (some .int) :: ((wsX8_reach_r1 ++ (wsX8_reach_r2 ++ (wsX8_reach_r3 ++ (wsX8_reach_r4 ++ (wsX8_reach_r5 ++ wsX8_reach_r6))))) ++ wsX80 ++ wsX20 ++ wsX40 ++ wsX30)
def wsX8_parts_r1 : List Cond := [Cond.fieldLink RX8 21 "SlidTokens" "marks" "LSlidTokens$Marks;", Cond.fieldLink RX8 10 "SlidTokens" "graph" "LSlidTokens$Net;", Cond.fieldLink RX8 66 "SlidTokens$Net" "nodes" "I", Cond.methodLink RX8 96 yX8_isKind, Cond.static yX8_isKind, Cond.initialized RX8, Cond.code yX8_isKind cX8_isKind 1 (some .boolean), Cond.methodLink RX8 62 yX8_isWithin, Cond.static yX8_isWithin, Cond.code yX8_isWithin cX8_isWithin 3 (some .boolean), Cond.methodLink RX8 114 yX8_areMoves, Cond.static yX8_areMoves, Cond.code yX8_areMoves cX8_areMoves 1 (some .boolean), Cond.methodLink RX8 124 yX8_begin, Cond.instanceMethod yX8_begin, Cond.selects RX8 yX8_begin yX8_begin, Cond.code yX8_begin cX8_begin 3 none, Cond.fieldLink RX8 52 "SlidTokens" "least" "I", Cond.fieldLink RX8 56 "SlidTokens" "most" "I", Cond.methodLink RX8 153 yX2_begin, Cond.instanceMethod yX2_begin, Cond.selects RX2 yX2_begin yX2_begin, Cond.initialized RX2, Cond.code yX2_begin cX2_begin 7 none]
def wsX8_parts_r2 : List Cond := [Cond.fieldLink RX2 15 "SlidTokens$Marks" "moves" "I", Cond.fieldLink RX2 19 "SlidTokens$Marks" "net" "LSlidTokens$Net;", Cond.fieldLink RX2 29 "SlidTokens$Marks" "size" "I", Cond.sameField "SlidTokens$Marks" "SlidTokens$Search" "size" "I", Cond.fieldLink RX2 32 "SlidTokens$Marks" "tail" "I", Cond.sameField "SlidTokens$Marks" "SlidTokens$Search" "tail" "I", Cond.fieldLink RX2 45 "SlidTokens$Marks" "far" "[I", Cond.sameField "SlidTokens$Marks" "SlidTokens$Search" "far" "[I", Cond.methodLink RX2 23 yX3_all, Cond.instanceMethod yX3_all, Cond.selects RX3 yX3_all yX3_all, Cond.initialized RX3, Cond.code yX3_all cX3_all 1 (some .int), Cond.fieldLink RX3 15 "SlidTokens$Net" "nodes" "I", Cond.methodLink RX2 35 yJ6_bitCount_0f7a4, Cond.static yJ6_bitCount_0f7a4, Cond.initialized RJ6, Cond.code yJ6_bitCount_0f7a4 cJ6_bitCount_0f7a4 1 (some .int), Cond.constant RJ6 265 (1431655765), Cond.constant RJ6 266 (858993459), Cond.constant RJ6 267 (252645135), Cond.methodLink RX2 48 yX3_isLawful, Cond.instanceMethod yX3_isLawful, Cond.selects RX3 yX3_isLawful yX3_isLawful]
def wsX8_parts_r3 : List Cond := [Cond.code yX3_isLawful cX3_isLawful 3 (some .boolean), Cond.methodLink RX3 51 yX3_touchesNowhere, Cond.instanceMethod yX3_touchesNowhere, Cond.selects RX3 yX3_touchesNowhere yX3_touchesNowhere, Cond.code yX3_touchesNowhere cX3_touchesNowhere 3 (some .boolean), Cond.fieldLink RX3 9 "SlidTokens$Net" "near" "[I", Cond.methodLink RX3 25 yX3_all, Cond.methodLink RX3 54 yX3_seesAll, Cond.instanceMethod yX3_seesAll, Cond.selects RX3 yX3_seesAll yX3_seesAll, Cond.code yX3_seesAll cX3_seesAll 4 (some .boolean), Cond.methodLink RX8 150 ⟨"SlidTokens$Marks", "components", "()I"⟩, Cond.sameMethod "SlidTokens$Marks" "SlidTokens$Search" "components" "()I", Cond.selects RX2 ⟨"SlidTokens$Marks", "components", "()I"⟩ yX5_components, Cond.instanceMethod yX5_components, Cond.initialized RX5, Cond.code yX5_components cX5_components 3 (some .int), Cond.fieldLink RX5 9 "SlidTokens$Search" "size" "I", Cond.fieldLink RX5 21 "SlidTokens$Search" "far" "[I", Cond.methodLink RX5 39 ⟨"SlidTokens$Search", "spread", "(II)V"⟩, Cond.sameMethod "SlidTokens$Search" "SlidTokens$Search" "spread" "(II)V", Cond.selects RX2 ⟨"SlidTokens$Search", "spread", "(II)V"⟩ yX5_spread, Cond.instanceMethod yX5_spread, Cond.code yX5_spread cX5_spread 7 none]
def wsX8_parts_r4 : List Cond := [Cond.fieldLink RX5 15 "SlidTokens$Search" "tail" "I", Cond.fieldLink RX5 25 "SlidTokens$Search" "line" "[I", Cond.fieldLink RX5 18 "SlidTokens$Search" "found" "I", Cond.fieldLink RX5 28 "SlidTokens$Search" "next" "[I", Cond.methodLink RX5 31 ⟨"SlidTokens$Search", "enter", "(II)V"⟩, Cond.sameMethod "SlidTokens$Search" "SlidTokens$Search" "enter" "(II)V", Cond.selects RX2 ⟨"SlidTokens$Search", "enter", "(II)V"⟩ yX5_enter, Cond.instanceMethod yX5_enter, Cond.code yX5_enter cX5_enter 3 none, Cond.selects RX4 ⟨"SlidTokens$Search", "enter", "(II)V"⟩ yX5_enter, Cond.methodLink RX5 35 ⟨"SlidTokens$Search", "gather", "(I)V"⟩, Cond.sameMethod "SlidTokens$Search" "SlidTokens$Search" "gather" "(I)V", Cond.selects RX2 ⟨"SlidTokens$Search", "gather", "(I)V"⟩ yX2_gather, Cond.instanceMethod yX2_gather, Cond.code yX2_gather cX2_gather 3 none, Cond.fieldLink RX2 52 "SlidTokens$Marks" "found" "I", Cond.sameField "SlidTokens$Marks" "SlidTokens$Search" "found" "I", Cond.fieldLink RX2 55 "SlidTokens$Net" "nodes" "I", Cond.methodLink RX2 58 yX2_gatherSwaps, Cond.instanceMethod yX2_gatherSwaps, Cond.selects RX2 yX2_gatherSwaps yX2_gatherSwaps, Cond.code yX2_gatherSwaps cX2_gatherSwaps 7 none, Cond.fieldLink RX2 64 "SlidTokens$Net" "near" "[I", Cond.methodLink RX2 61 yX2_offer]
def wsX8_parts_r5 : List Cond := [Cond.instanceMethod yX2_offer, Cond.selects RX2 yX2_offer yX2_offer, Cond.code yX2_offer cX2_offer 3 none, Cond.fieldLink RX2 11 "SlidTokens$Marks" "cost" "[I", Cond.methodLink RX2 67 ⟨"SlidTokens$Marks", "note", "(I)V"⟩, Cond.sameMethod "SlidTokens$Marks" "SlidTokens$Search" "note" "(I)V", Cond.selects RX2 ⟨"SlidTokens$Marks", "note", "(I)V"⟩ yX5_note, Cond.instanceMethod yX5_note, Cond.code yX5_note cX5_note 2 none, Cond.selects RX4 ⟨"SlidTokens$Search", "gather", "(I)V"⟩ yX4_gather, Cond.instanceMethod yX4_gather, Cond.initialized RX4, Cond.code yX4_gather cX4_gather 6 none, Cond.fieldLink RX4 57 "SlidTokens$Paints" "found" "I", Cond.sameField "SlidTokens$Paints" "SlidTokens$Search" "found" "I", Cond.fieldLink RX4 15 "SlidTokens$Paints" "net" "LSlidTokens$Net;", Cond.fieldLink RX4 19 "SlidTokens$Net" "nodes" "I", Cond.fieldLink RX4 9 "SlidTokens$Paints" "colours" "I", Cond.fieldLink RX4 24 "SlidTokens$Paints" "far" "[I", Cond.sameField "SlidTokens$Paints" "SlidTokens$Search" "far" "[I", Cond.methodLink RX4 60 ⟨"SlidTokens$Paints", "note", "(I)V"⟩, Cond.sameMethod "SlidTokens$Paints" "SlidTokens$Search" "note" "(I)V", Cond.selects RX4 ⟨"SlidTokens$Paints", "note", "(I)V"⟩ yX5_note, Cond.selects RX4 ⟨"SlidTokens$Search", "spread", "(II)V"⟩ yX5_spread]
def wsX8_parts : List Cond := .code yX8_parts cX8_parts 4 (some .int) :: ((wsX8_parts_r1 ++ (wsX8_parts_r2 ++ (wsX8_parts_r3 ++ (wsX8_parts_r4 ++ wsX8_parts_r5)))) ++ wsX80 ++ wsX30 ++ wsX20 ++ wsX40)
def wsX8_proper : List Cond := .code yX8_proper cX8_proper 2 (some .int) :: ([.fieldLink RX8 10 "SlidTokens" "graph" "LSlidTokens$Net;", .fieldLink RX8 66 "SlidTokens$Net" "nodes" "I", .fieldLink RX8 28 "SlidTokens" "paints" "LSlidTokens$Paints;", .fieldLink RX8 59 "SlidTokens" "colours" "I", .methodLink RX8 156 yX4_isColouring, .instanceMethod yX4_isColouring, .selects RX4 yX4_isColouring yX4_isColouring, .initialized RX4, .code yX4_isColouring cX4_isColouring 4 (some .boolean), .fieldLink RX4 15 "SlidTokens$Paints" "net" "LSlidTokens$Net;", .fieldLink RX4 19 "SlidTokens$Net" "nodes" "I", .methodLink RX4 51 yX4_colourOf, .static yX4_colourOf, .code yX4_colourOf cX4_colourOf 2 (some .int), .methodLink RX8 159 yX4_differs, .instanceMethod yX4_differs, .selects RX4 yX4_differs yX4_differs, .code yX4_differs cX4_differs 5 (some .boolean), .fieldLink RX4 54 "SlidTokens$Net" "near" "[I", .methodLink RX8 81 yX8_asNumber, .static yX8_asNumber, .initialized RX8, .code yX8_asNumber cX8_asNumber 1 (some .int)] ++ wsX80 ++ wsX30 ++ wsX40)
def wsX8_shades_r1 : List Cond := [Cond.fieldLink RX8 10 "SlidTokens" "graph" "LSlidTokens$Net;", Cond.fieldLink RX8 66 "SlidTokens$Net" "nodes" "I", Cond.fieldLink RX8 28 "SlidTokens" "paints" "LSlidTokens$Paints;", Cond.fieldLink RX8 59 "SlidTokens" "colours" "I", Cond.methodLink RX8 162 yX4_isLawful, Cond.instanceMethod yX4_isLawful, Cond.selects RX4 yX4_isLawful yX4_isLawful, Cond.initialized RX4, Cond.code yX4_isLawful cX4_isLawful 3 (some .boolean), Cond.methodLink RX4 44 yX4_isColouring, Cond.instanceMethod yX4_isColouring, Cond.selects RX4 yX4_isColouring yX4_isColouring, Cond.code yX4_isColouring cX4_isColouring 4 (some .boolean), Cond.fieldLink RX4 15 "SlidTokens$Paints" "net" "LSlidTokens$Net;", Cond.fieldLink RX4 19 "SlidTokens$Net" "nodes" "I", Cond.methodLink RX4 51 yX4_colourOf, Cond.static yX4_colourOf, Cond.code yX4_colourOf cX4_colourOf 2 (some .int), Cond.methodLink RX4 47 yX4_differs, Cond.instanceMethod yX4_differs, Cond.selects RX4 yX4_differs yX4_differs, Cond.code yX4_differs cX4_differs 5 (some .boolean), Cond.fieldLink RX4 54 "SlidTokens$Net" "near" "[I", Cond.methodLink RX8 163 yX4_begin]
def wsX8_shades_r2 : List Cond := [Cond.instanceMethod yX4_begin, Cond.selects RX4 yX4_begin yX4_begin, Cond.code yX4_begin cX4_begin 3 none, Cond.fieldLink RX4 9 "SlidTokens$Paints" "colours" "I", Cond.fieldLink RX4 24 "SlidTokens$Paints" "far" "[I", Cond.sameField "SlidTokens$Paints" "SlidTokens$Search" "far" "[I", Cond.methodLink RX4 28 Lib.Math.min.name, Cond.static Lib.Math.min.name, Cond.initialized "java/lang/Math", Cond.code Lib.Math.min.name Lib.Math.min.code 2 (some .int), Cond.fieldLink RX4 34 "SlidTokens$Paints" "size" "I", Cond.sameField "SlidTokens$Paints" "SlidTokens$Search" "size" "I", Cond.fieldLink RX4 37 "SlidTokens$Paints" "tail" "I", Cond.sameField "SlidTokens$Paints" "SlidTokens$Search" "tail" "I", Cond.methodLink RX4 40 yX4_isLawful, Cond.methodLink RX8 165 ⟨"SlidTokens$Paints", "fewest", "(II)I"⟩, Cond.sameMethod "SlidTokens$Paints" "SlidTokens$Search" "fewest" "(II)I", Cond.selects RX4 ⟨"SlidTokens$Paints", "fewest", "(II)I"⟩ yX5_fewest, Cond.instanceMethod yX5_fewest, Cond.initialized RX5, Cond.code yX5_fewest cX5_fewest 3 (some .int), Cond.fieldLink RX5 21 "SlidTokens$Search" "far" "[I", Cond.methodLink RX5 39 ⟨"SlidTokens$Search", "spread", "(II)V"⟩, Cond.sameMethod "SlidTokens$Search" "SlidTokens$Search" "spread" "(II)V"]
def wsX8_shades_r3 : List Cond := [Cond.selects RX2 ⟨"SlidTokens$Search", "spread", "(II)V"⟩ yX5_spread, Cond.instanceMethod yX5_spread, Cond.code yX5_spread cX5_spread 7 none, Cond.fieldLink RX5 15 "SlidTokens$Search" "tail" "I", Cond.fieldLink RX5 25 "SlidTokens$Search" "line" "[I", Cond.fieldLink RX5 18 "SlidTokens$Search" "found" "I", Cond.fieldLink RX5 28 "SlidTokens$Search" "next" "[I", Cond.methodLink RX5 31 ⟨"SlidTokens$Search", "enter", "(II)V"⟩, Cond.sameMethod "SlidTokens$Search" "SlidTokens$Search" "enter" "(II)V", Cond.selects RX2 ⟨"SlidTokens$Search", "enter", "(II)V"⟩ yX5_enter, Cond.instanceMethod yX5_enter, Cond.code yX5_enter cX5_enter 3 none, Cond.selects RX4 ⟨"SlidTokens$Search", "enter", "(II)V"⟩ yX5_enter, Cond.methodLink RX5 35 ⟨"SlidTokens$Search", "gather", "(I)V"⟩, Cond.sameMethod "SlidTokens$Search" "SlidTokens$Search" "gather" "(I)V", Cond.selects RX2 ⟨"SlidTokens$Search", "gather", "(I)V"⟩ yX2_gather, Cond.instanceMethod yX2_gather, Cond.initialized RX2, Cond.code yX2_gather cX2_gather 3 none, Cond.fieldLink RX2 52 "SlidTokens$Marks" "found" "I", Cond.sameField "SlidTokens$Marks" "SlidTokens$Search" "found" "I", Cond.fieldLink RX2 19 "SlidTokens$Marks" "net" "LSlidTokens$Net;", Cond.fieldLink RX2 55 "SlidTokens$Net" "nodes" "I", Cond.fieldLink RX2 15 "SlidTokens$Marks" "moves" "I"]
def wsX8_shades_r4 : List Cond := [Cond.methodLink RX2 58 yX2_gatherSwaps, Cond.instanceMethod yX2_gatherSwaps, Cond.selects RX2 yX2_gatherSwaps yX2_gatherSwaps, Cond.code yX2_gatherSwaps cX2_gatherSwaps 7 none, Cond.fieldLink RX2 64 "SlidTokens$Net" "near" "[I", Cond.methodLink RX2 23 yX3_all, Cond.instanceMethod yX3_all, Cond.selects RX3 yX3_all yX3_all, Cond.initialized RX3, Cond.code yX3_all cX3_all 1 (some .int), Cond.fieldLink RX3 15 "SlidTokens$Net" "nodes" "I", Cond.methodLink RX2 61 yX2_offer, Cond.instanceMethod yX2_offer, Cond.selects RX2 yX2_offer yX2_offer, Cond.code yX2_offer cX2_offer 3 none, Cond.fieldLink RX2 45 "SlidTokens$Marks" "far" "[I", Cond.sameField "SlidTokens$Marks" "SlidTokens$Search" "far" "[I", Cond.fieldLink RX2 11 "SlidTokens$Marks" "cost" "[I", Cond.methodLink RX2 67 ⟨"SlidTokens$Marks", "note", "(I)V"⟩, Cond.sameMethod "SlidTokens$Marks" "SlidTokens$Search" "note" "(I)V", Cond.selects RX2 ⟨"SlidTokens$Marks", "note", "(I)V"⟩ yX5_note, Cond.instanceMethod yX5_note, Cond.code yX5_note cX5_note 2 none, Cond.selects RX4 ⟨"SlidTokens$Search", "gather", "(I)V"⟩ yX4_gather]
def wsX8_shades_r5 : List Cond := [Cond.instanceMethod yX4_gather, Cond.code yX4_gather cX4_gather 6 none, Cond.fieldLink RX4 57 "SlidTokens$Paints" "found" "I", Cond.sameField "SlidTokens$Paints" "SlidTokens$Search" "found" "I", Cond.methodLink RX4 60 ⟨"SlidTokens$Paints", "note", "(I)V"⟩, Cond.sameMethod "SlidTokens$Paints" "SlidTokens$Search" "note" "(I)V", Cond.selects RX4 ⟨"SlidTokens$Paints", "note", "(I)V"⟩ yX5_note, Cond.selects RX4 ⟨"SlidTokens$Search", "spread", "(II)V"⟩ yX5_spread]
def wsX8_shades : List Cond := .code yX8_shades cX8_shades 3 (some .int) :: ((wsX8_shades_r1 ++ (wsX8_shades_r2 ++ (wsX8_shades_r3 ++ (wsX8_shades_r4 ++ wsX8_shades_r5)))) ++ wsX80 ++ wsX30 ++ wsX40 ++ wsX20)
def wsX8_heaps_r1 : List Cond := [Cond.fieldLink RX8 10 "SlidTokens" "graph" "LSlidTokens$Net;", Cond.fieldLink RX8 66 "SlidTokens$Net" "nodes" "I", Cond.fieldLink RX8 28 "SlidTokens" "paints" "LSlidTokens$Paints;", Cond.fieldLink RX8 59 "SlidTokens" "colours" "I", Cond.methodLink RX8 62 yX8_isWithin, Cond.static yX8_isWithin, Cond.initialized RX8, Cond.code yX8_isWithin cX8_isWithin 3 (some .boolean), Cond.methodLink RX8 163 yX4_begin, Cond.instanceMethod yX4_begin, Cond.selects RX4 yX4_begin yX4_begin, Cond.initialized RX4, Cond.code yX4_begin cX4_begin 3 none, Cond.fieldLink RX4 9 "SlidTokens$Paints" "colours" "I", Cond.fieldLink RX4 15 "SlidTokens$Paints" "net" "LSlidTokens$Net;", Cond.fieldLink RX4 19 "SlidTokens$Net" "nodes" "I", Cond.fieldLink RX4 24 "SlidTokens$Paints" "far" "[I", Cond.sameField "SlidTokens$Paints" "SlidTokens$Search" "far" "[I", Cond.methodLink RX4 28 Lib.Math.min.name, Cond.static Lib.Math.min.name, Cond.initialized "java/lang/Math", Cond.code Lib.Math.min.name Lib.Math.min.code 2 (some .int), Cond.fieldLink RX4 34 "SlidTokens$Paints" "size" "I", Cond.sameField "SlidTokens$Paints" "SlidTokens$Search" "size" "I"]
def wsX8_heaps_r2 : List Cond := [Cond.fieldLink RX4 37 "SlidTokens$Paints" "tail" "I", Cond.sameField "SlidTokens$Paints" "SlidTokens$Search" "tail" "I", Cond.methodLink RX4 40 yX4_isLawful, Cond.instanceMethod yX4_isLawful, Cond.selects RX4 yX4_isLawful yX4_isLawful, Cond.code yX4_isLawful cX4_isLawful 3 (some .boolean), Cond.methodLink RX4 44 yX4_isColouring, Cond.instanceMethod yX4_isColouring, Cond.selects RX4 yX4_isColouring yX4_isColouring, Cond.code yX4_isColouring cX4_isColouring 4 (some .boolean), Cond.methodLink RX4 51 yX4_colourOf, Cond.static yX4_colourOf, Cond.code yX4_colourOf cX4_colourOf 2 (some .int), Cond.methodLink RX4 47 yX4_differs, Cond.instanceMethod yX4_differs, Cond.selects RX4 yX4_differs yX4_differs, Cond.code yX4_differs cX4_differs 5 (some .boolean), Cond.fieldLink RX4 54 "SlidTokens$Net" "near" "[I", Cond.methodLink RX8 166 yX4_many, Cond.instanceMethod yX4_many, Cond.selects RX4 yX4_many yX4_many, Cond.code yX4_many cX4_many 3 (some .int), Cond.methodLink RX8 169 yX4_stuck, Cond.instanceMethod yX4_stuck]
def wsX8_heaps_r3 : List Cond := [Cond.selects RX4 yX4_stuck yX4_stuck, Cond.code yX4_stuck cX4_stuck 3 (some .int), Cond.fieldLink RX4 57 "SlidTokens$Paints" "found" "I", Cond.sameField "SlidTokens$Paints" "SlidTokens$Search" "found" "I", Cond.methodLink RX4 64 yX4_gather, Cond.instanceMethod yX4_gather, Cond.selects RX4 yX4_gather yX4_gather, Cond.code yX4_gather cX4_gather 6 none, Cond.methodLink RX4 60 ⟨"SlidTokens$Paints", "note", "(I)V"⟩, Cond.sameMethod "SlidTokens$Paints" "SlidTokens$Search" "note" "(I)V", Cond.selects RX4 ⟨"SlidTokens$Paints", "note", "(I)V"⟩ yX5_note, Cond.instanceMethod yX5_note, Cond.initialized RX5, Cond.code yX5_note cX5_note 2 none, Cond.fieldLink RX5 18 "SlidTokens$Search" "found" "I", Cond.fieldLink RX5 28 "SlidTokens$Search" "next" "[I", Cond.methodLink RX8 172 ⟨"SlidTokens$Paints", "components", "()I"⟩, Cond.sameMethod "SlidTokens$Paints" "SlidTokens$Search" "components" "()I", Cond.selects RX4 ⟨"SlidTokens$Paints", "components", "()I"⟩ yX5_components, Cond.instanceMethod yX5_components, Cond.code yX5_components cX5_components 3 (some .int), Cond.fieldLink RX5 9 "SlidTokens$Search" "size" "I", Cond.fieldLink RX5 21 "SlidTokens$Search" "far" "[I", Cond.methodLink RX5 39 ⟨"SlidTokens$Search", "spread", "(II)V"⟩]
def wsX8_heaps_r4 : List Cond := [Cond.sameMethod "SlidTokens$Search" "SlidTokens$Search" "spread" "(II)V", Cond.selects RX2 ⟨"SlidTokens$Search", "spread", "(II)V"⟩ yX5_spread, Cond.instanceMethod yX5_spread, Cond.code yX5_spread cX5_spread 7 none, Cond.fieldLink RX5 15 "SlidTokens$Search" "tail" "I", Cond.fieldLink RX5 25 "SlidTokens$Search" "line" "[I", Cond.methodLink RX5 31 ⟨"SlidTokens$Search", "enter", "(II)V"⟩, Cond.sameMethod "SlidTokens$Search" "SlidTokens$Search" "enter" "(II)V", Cond.selects RX2 ⟨"SlidTokens$Search", "enter", "(II)V"⟩ yX5_enter, Cond.instanceMethod yX5_enter, Cond.code yX5_enter cX5_enter 3 none, Cond.selects RX4 ⟨"SlidTokens$Search", "enter", "(II)V"⟩ yX5_enter, Cond.methodLink RX5 35 ⟨"SlidTokens$Search", "gather", "(I)V"⟩, Cond.sameMethod "SlidTokens$Search" "SlidTokens$Search" "gather" "(I)V", Cond.selects RX2 ⟨"SlidTokens$Search", "gather", "(I)V"⟩ yX2_gather, Cond.instanceMethod yX2_gather, Cond.initialized RX2, Cond.code yX2_gather cX2_gather 3 none, Cond.fieldLink RX2 52 "SlidTokens$Marks" "found" "I", Cond.sameField "SlidTokens$Marks" "SlidTokens$Search" "found" "I", Cond.fieldLink RX2 19 "SlidTokens$Marks" "net" "LSlidTokens$Net;", Cond.fieldLink RX2 55 "SlidTokens$Net" "nodes" "I", Cond.fieldLink RX2 15 "SlidTokens$Marks" "moves" "I", Cond.methodLink RX2 58 yX2_gatherSwaps]
def wsX8_heaps_r5 : List Cond := [Cond.instanceMethod yX2_gatherSwaps, Cond.selects RX2 yX2_gatherSwaps yX2_gatherSwaps, Cond.code yX2_gatherSwaps cX2_gatherSwaps 7 none, Cond.fieldLink RX2 64 "SlidTokens$Net" "near" "[I", Cond.methodLink RX2 23 yX3_all, Cond.instanceMethod yX3_all, Cond.selects RX3 yX3_all yX3_all, Cond.initialized RX3, Cond.code yX3_all cX3_all 1 (some .int), Cond.fieldLink RX3 15 "SlidTokens$Net" "nodes" "I", Cond.methodLink RX2 61 yX2_offer, Cond.instanceMethod yX2_offer, Cond.selects RX2 yX2_offer yX2_offer, Cond.code yX2_offer cX2_offer 3 none, Cond.fieldLink RX2 45 "SlidTokens$Marks" "far" "[I", Cond.sameField "SlidTokens$Marks" "SlidTokens$Search" "far" "[I", Cond.fieldLink RX2 11 "SlidTokens$Marks" "cost" "[I", Cond.methodLink RX2 67 ⟨"SlidTokens$Marks", "note", "(I)V"⟩, Cond.sameMethod "SlidTokens$Marks" "SlidTokens$Search" "note" "(I)V", Cond.selects RX2 ⟨"SlidTokens$Marks", "note", "(I)V"⟩ yX5_note, Cond.selects RX4 ⟨"SlidTokens$Search", "gather", "(I)V"⟩ yX4_gather, Cond.selects RX4 ⟨"SlidTokens$Search", "spread", "(II)V"⟩ yX5_spread]
def wsX8_heaps : List Cond := .code yX8_heaps cX8_heaps 2 (some .int) :: ((wsX8_heaps_r1 ++ (wsX8_heaps_r2 ++ (wsX8_heaps_r3 ++ (wsX8_heaps_r4 ++ wsX8_heaps_r5)))) ++ wsX80 ++ wsX30 ++ wsX40 ++ wsX20)
def wsX8_told : List Cond := .code yX8_told cX8_told 2 (some .int) :: ([.fieldLink RX8 10 "SlidTokens" "graph" "LSlidTokens$Net;", .fieldLink RX8 66 "SlidTokens$Net" "nodes" "I", .fieldLink RX8 52 "SlidTokens" "least" "I", .fieldLink RX8 56 "SlidTokens" "most" "I", .fieldLink RX8 59 "SlidTokens" "colours" "I", .methodLink RX8 92 yX3_pairs, .instanceMethod yX3_pairs, .selects RX3 yX3_pairs yX3_pairs, .initialized RX3, .code yX3_pairs cX3_pairs 3 (some .int), .fieldLink RX3 15 "SlidTokens$Net" "nodes" "I", .fieldLink RX3 9 "SlidTokens$Net" "near" "[I", .methodLink RX3 33 yJ6_bitCount_0f7a4, .static yJ6_bitCount_0f7a4, .initialized RJ6, .code yJ6_bitCount_0f7a4 cJ6_bitCount_0f7a4 1 (some .int), .constant RJ6 265 (1431655765), .constant RJ6 266 (858993459), .constant RJ6 267 (252645135)] ++ wsX80 ++ wsX30)
def wsX8_trace : List Cond := .code yX8_trace cX8_trace 1 (some .long) :: ([.fieldLink RX8 48 "SlidTokens" "tally" "LSlidTokens$Tally;", .fieldLink RX8 173 "SlidTokens$Tally" "sum" "J"] ++ wsX80 ++ wsX70)
def wsX9_init : List Cond := .code yX9_init cX9_init 1 none :: ([.methodLink RX9 1 objectInit, .instanceMethod objectInit, .code objectInit ⟨#[0xb1]⟩ 1 none, .fieldLink RX9 7 "SlidTokensModel" "n" "I", .arrayClass .int, .fieldLink RX9 13 "SlidTokensModel" "joined" "[I", .fieldLink RX9 17 "SlidTokensModel" "most" "I", .fieldLink RX9 20 "SlidTokensModel" "colours" "I", .fieldLink RX9 23 "SlidTokensModel" "far" "[I", .arrayClass .boolean, .fieldLink RX9 26 "SlidTokensModel" "isDone" "[Z", .fieldLink RX9 30 "SlidTokensModel" "shade" "[I", .fieldLink RX9 33 "SlidTokensModel" "pile" "[I", .fieldLink RX9 36 "SlidTokensModel" "fewest" "I"] ++ wsX90)
def wsX9_in : List Cond := .code yX9_in cX9_in 3 (some .boolean) :: ([])
def wsX9_isSet : List Cond := .code yX9_isSet cX9_isSet 2 (some .boolean) :: ([.fieldLink RX9 7 "SlidTokensModel" "n" "I", .methodLink RX9 39 yX9_in, .static yX9_in, .initialized RX9, .code yX9_in cX9_in 3 (some .boolean)] ++ wsX90)
def wsX9_isKind : List Cond := .code yX9_isKind cX9_isKind 1 (some .boolean) :: ([.methodLink RX9 39 yX9_in, .static yX9_in, .initialized RX9, .code yX9_in cX9_in 3 (some .boolean)])
def wsX9_size : List Cond := .code yX9_size cX9_size 3 (some .int) :: ([])
def wsX9_part : List Cond := .code yX9_part cX9_part 2 none :: ([.fieldLink RX9 13 "SlidTokensModel" "joined" "[I"] ++ wsX90)
def wsX9_net : List Cond := .code yX9_net cX9_net 3 (some .int) :: ([.fieldLink RX9 7 "SlidTokensModel" "n" "I", .methodLink RX9 39 yX9_in, .static yX9_in, .initialized RX9, .code yX9_in cX9_in 3 (some .boolean), .methodLink RX9 43 yX9_part, .instanceMethod yX9_part, .selects RX9 yX9_part yX9_part, .code yX9_part cX9_part 2 none, .fieldLink RX9 13 "SlidTokensModel" "joined" "[I"] ++ wsX90)
def wsX9_isNode : List Cond := .code yX9_isNode cX9_isNode 2 (some .boolean) :: ([.fieldLink RX9 7 "SlidTokensModel" "n" "I", .methodLink RX9 39 yX9_in, .static yX9_in, .initialized RX9, .code yX9_in cX9_in 3 (some .boolean)] ++ wsX90)
def wsX9_put : List Cond := .code yX9_put cX9_put 4 none :: ([.fieldLink RX9 13 "SlidTokensModel" "joined" "[I"] ++ wsX90)
def wsX9_join : List Cond := .code yX9_join cX9_join 5 (some .int) :: ([.fieldLink RX9 13 "SlidTokensModel" "joined" "[I", .methodLink RX9 46 yX9_isNode, .instanceMethod yX9_isNode, .selects RX9 yX9_isNode yX9_isNode, .initialized RX9, .code yX9_isNode cX9_isNode 2 (some .boolean), .fieldLink RX9 7 "SlidTokensModel" "n" "I", .methodLink RX9 39 yX9_in, .static yX9_in, .code yX9_in cX9_in 3 (some .boolean), .methodLink RX9 50 yX9_put, .instanceMethod yX9_put, .selects RX9 yX9_put yX9_put, .code yX9_put cX9_put 4 none] ++ wsX90)
def wsX9_pairs : List Cond := .code yX9_pairs cX9_pairs 3 (some .int) :: ([.fieldLink RX9 7 "SlidTokensModel" "n" "I", .fieldLink RX9 13 "SlidTokensModel" "joined" "[I", .methodLink RX9 54 yX9_size, .static yX9_size, .initialized RX9, .code yX9_size cX9_size 3 (some .int)] ++ wsX90)
def wsX9_shape : List Cond := .code yX9_shape cX9_shape 5 (some .int) :: ([.fieldLink RX9 7 "SlidTokensModel" "n" "I", .methodLink RX9 39 yX9_in, .static yX9_in, .initialized RX9, .code yX9_in cX9_in 3 (some .boolean), .methodLink RX9 43 yX9_part, .instanceMethod yX9_part, .selects RX9 yX9_part yX9_part, .code yX9_part cX9_part 2 none, .fieldLink RX9 13 "SlidTokensModel" "joined" "[I", .methodLink RX9 50 yX9_put, .instanceMethod yX9_put, .selects RX9 yX9_put yX9_put, .code yX9_put cX9_put 4 none, .methodLink RX9 58 yX9_pairs, .instanceMethod yX9_pairs, .selects RX9 yX9_pairs yX9_pairs, .code yX9_pairs cX9_pairs 3 (some .int), .methodLink RX9 54 yX9_size, .static yX9_size, .code yX9_size cX9_size 3 (some .int)] ++ wsX90)
def wsX9_set : List Cond := .code yX9_set cX9_set 4 (some .int) :: ([.fieldLink RX9 36 "SlidTokensModel" "fewest" "I", .fieldLink RX9 17 "SlidTokensModel" "most" "I", .fieldLink RX9 20 "SlidTokensModel" "colours" "I", .methodLink RX9 39 yX9_in, .static yX9_in, .initialized RX9, .code yX9_in cX9_in 3 (some .boolean)] ++ wsX90)
def wsX9_isLawful : List Cond := .code yX9_isLawful cX9_isLawful 7 (some .boolean) :: ([.fieldLink RX9 7 "SlidTokensModel" "n" "I", .fieldLink RX9 13 "SlidTokensModel" "joined" "[I"] ++ wsX90)
def wsX9_lawful : List Cond := .code yX9_lawful cX9_lawful 3 (some .int) :: ([.methodLink RX9 62 yX9_isKind, .static yX9_isKind, .initialized RX9, .code yX9_isKind cX9_isKind 1 (some .boolean), .methodLink RX9 39 yX9_in, .static yX9_in, .code yX9_in cX9_in 3 (some .boolean), .methodLink RX9 65 yX9_isSet, .instanceMethod yX9_isSet, .selects RX9 yX9_isSet yX9_isSet, .code yX9_isSet cX9_isSet 2 (some .boolean), .fieldLink RX9 7 "SlidTokensModel" "n" "I", .methodLink RX9 68 yX9_isLawful, .instanceMethod yX9_isLawful, .selects RX9 yX9_isLawful yX9_isLawful, .code yX9_isLawful cX9_isLawful 7 (some .boolean), .fieldLink RX9 13 "SlidTokensModel" "joined" "[I"] ++ wsX90)
def wsX9_count : List Cond := .code yX9_count cX9_count 5 (some .int) :: ([.fieldLink RX9 7 "SlidTokensModel" "n" "I", .methodLink RX9 62 yX9_isKind, .static yX9_isKind, .initialized RX9, .code yX9_isKind cX9_isKind 1 (some .boolean), .methodLink RX9 39 yX9_in, .static yX9_in, .code yX9_in cX9_in 3 (some .boolean), .methodLink RX9 54 yX9_size, .static yX9_size, .code yX9_size cX9_size 3 (some .int), .methodLink RX9 68 yX9_isLawful, .instanceMethod yX9_isLawful, .selects RX9 yX9_isLawful yX9_isLawful, .code yX9_isLawful cX9_isLawful 7 (some .boolean), .fieldLink RX9 13 "SlidTokensModel" "joined" "[I"] ++ wsX90)
def wsX9_weightOf : List Cond := .code yX9_weightOf cX9_weightOf 7 (some .int) :: ([.fieldLink RX9 13 "SlidTokensModel" "joined" "[I", .methodLink RX9 54 yX9_size, .static yX9_size, .initialized RX9, .code yX9_size cX9_size 3 (some .int)] ++ wsX90)
def wsX9_weight : List Cond := .code yX9_weight cX9_weight 4 (some .int) :: ([.fieldLink RX9 72 "SlidTokensModel" "trace" "J", .constantLong RX9 76 (11), .constantLong RX9 78 (111), .methodLink RX9 62 yX9_isKind, .static yX9_isKind, .initialized RX9, .code yX9_isKind cX9_isKind 1 (some .boolean), .methodLink RX9 39 yX9_in, .static yX9_in, .code yX9_in cX9_in 3 (some .boolean), .methodLink RX9 65 yX9_isSet, .instanceMethod yX9_isSet, .selects RX9 yX9_isSet yX9_isSet, .code yX9_isSet cX9_isSet 2 (some .boolean), .fieldLink RX9 7 "SlidTokensModel" "n" "I", .methodLink RX9 80 yX9_weightOf, .instanceMethod yX9_weightOf, .selects RX9 yX9_weightOf yX9_weightOf, .code yX9_weightOf cX9_weightOf 7 (some .int), .fieldLink RX9 13 "SlidTokensModel" "joined" "[I", .methodLink RX9 54 yX9_size, .static yX9_size, .code yX9_size cX9_size 3 (some .int)] ++ wsX90)
def wsX9_canBe : List Cond := .code yX9_canBe cX9_canBe 4 (some .boolean) :: ([.fieldLink RX9 36 "SlidTokensModel" "fewest" "I", .fieldLink RX9 17 "SlidTokensModel" "most" "I", .methodLink RX9 68 yX9_isLawful, .instanceMethod yX9_isLawful, .selects RX9 yX9_isLawful yX9_isLawful, .initialized RX9, .code yX9_isLawful cX9_isLawful 7 (some .boolean), .fieldLink RX9 7 "SlidTokensModel" "n" "I", .fieldLink RX9 13 "SlidTokensModel" "joined" "[I", .methodLink RX9 54 yX9_size, .static yX9_size, .code yX9_size cX9_size 3 (some .int), .methodLink RX9 39 yX9_in, .static yX9_in, .code yX9_in cX9_in 3 (some .boolean)] ++ wsX90)
def wsX9_goFrom_r1 : List Cond := [Cond.fieldLink RX9 23 "SlidTokensModel" "far" "[I", Cond.fieldLink RX9 26 "SlidTokensModel" "isDone" "[Z", Cond.fieldLink RX9 7 "SlidTokensModel" "n" "I", Cond.constant RX9 87 (1000000), Cond.methodLink RX9 84 yX9_canBe, Cond.instanceMethod yX9_canBe, Cond.selects RX9 yX9_canBe yX9_canBe, Cond.initialized RX9, Cond.code yX9_canBe cX9_canBe 4 (some .boolean), Cond.fieldLink RX9 36 "SlidTokensModel" "fewest" "I", Cond.fieldLink RX9 17 "SlidTokensModel" "most" "I", Cond.methodLink RX9 68 yX9_isLawful, Cond.instanceMethod yX9_isLawful, Cond.selects RX9 yX9_isLawful yX9_isLawful, Cond.code yX9_isLawful cX9_isLawful 7 (some .boolean), Cond.fieldLink RX9 13 "SlidTokensModel" "joined" "[I", Cond.methodLink RX9 54 yX9_size, Cond.static yX9_size, Cond.code yX9_size cX9_size 3 (some .int), Cond.methodLink RX9 39 yX9_in, Cond.static yX9_in, Cond.code yX9_in cX9_in 3 (some .boolean), Cond.methodLink RX9 80 yX9_weightOf, Cond.instanceMethod yX9_weightOf]
def wsX9_goFrom_r2 : List Cond := [Cond.selects RX9 yX9_weightOf yX9_weightOf, Cond.code yX9_weightOf cX9_weightOf 7 (some .int)]
def wsX9_goFrom : List Cond := .code yX9_goFrom cX9_goFrom 9 none :: ((wsX9_goFrom_r1 ++ wsX9_goFrom_r2) ++ wsX90)
def wsX9_forget : List Cond := .code yX9_forget cX9_forget 2 none :: ([.fieldLink RX9 23 "SlidTokensModel" "far" "[I", .constant RX9 87 (1000000), .fieldLink RX9 26 "SlidTokensModel" "isDone" "[Z"] ++ wsX90)
def wsX9_isGood : List Cond := .code yX9_isGood cX9_isGood 4 (some .boolean) :: ([.methodLink RX9 62 yX9_isKind, .static yX9_isKind, .initialized RX9, .code yX9_isKind cX9_isKind 1 (some .boolean), .methodLink RX9 39 yX9_in, .static yX9_in, .code yX9_in cX9_in 3 (some .boolean), .methodLink RX9 65 yX9_isSet, .instanceMethod yX9_isSet, .selects RX9 yX9_isSet yX9_isSet, .code yX9_isSet cX9_isSet 2 (some .boolean), .fieldLink RX9 7 "SlidTokensModel" "n" "I", .methodLink RX9 68 yX9_isLawful, .instanceMethod yX9_isLawful, .selects RX9 yX9_isLawful yX9_isLawful, .code yX9_isLawful cX9_isLawful 7 (some .boolean), .fieldLink RX9 13 "SlidTokensModel" "joined" "[I"] ++ wsX90)
def wsX9_walk_r1 : List Cond := [Cond.fieldLink RX9 23 "SlidTokensModel" "far" "[I", Cond.constant RX9 87 (1000000), Cond.fieldLink RX9 7 "SlidTokensModel" "n" "I", Cond.methodLink RX9 88 yX9_isGood, Cond.instanceMethod yX9_isGood, Cond.selects RX9 yX9_isGood yX9_isGood, Cond.initialized RX9, Cond.code yX9_isGood cX9_isGood 4 (some .boolean), Cond.methodLink RX9 62 yX9_isKind, Cond.static yX9_isKind, Cond.code yX9_isKind cX9_isKind 1 (some .boolean), Cond.methodLink RX9 39 yX9_in, Cond.static yX9_in, Cond.code yX9_in cX9_in 3 (some .boolean), Cond.methodLink RX9 65 yX9_isSet, Cond.instanceMethod yX9_isSet, Cond.selects RX9 yX9_isSet yX9_isSet, Cond.code yX9_isSet cX9_isSet 2 (some .boolean), Cond.methodLink RX9 68 yX9_isLawful, Cond.instanceMethod yX9_isLawful, Cond.selects RX9 yX9_isLawful yX9_isLawful, Cond.code yX9_isLawful cX9_isLawful 7 (some .boolean), Cond.fieldLink RX9 13 "SlidTokensModel" "joined" "[I", Cond.methodLink RX9 91 yX9_forget]
def wsX9_walk_r2 : List Cond := [Cond.instanceMethod yX9_forget, Cond.selects RX9 yX9_forget yX9_forget, Cond.code yX9_forget cX9_forget 2 none, Cond.fieldLink RX9 26 "SlidTokensModel" "isDone" "[Z", Cond.methodLink RX9 94 yX9_goFrom, Cond.instanceMethod yX9_goFrom, Cond.selects RX9 yX9_goFrom yX9_goFrom, Cond.code yX9_goFrom cX9_goFrom 9 none, Cond.methodLink RX9 84 yX9_canBe, Cond.instanceMethod yX9_canBe, Cond.selects RX9 yX9_canBe yX9_canBe, Cond.code yX9_canBe cX9_canBe 4 (some .boolean), Cond.fieldLink RX9 36 "SlidTokensModel" "fewest" "I", Cond.fieldLink RX9 17 "SlidTokensModel" "most" "I", Cond.methodLink RX9 54 yX9_size, Cond.static yX9_size, Cond.code yX9_size cX9_size 3 (some .int), Cond.methodLink RX9 80 yX9_weightOf, Cond.instanceMethod yX9_weightOf, Cond.selects RX9 yX9_weightOf yX9_weightOf, Cond.code yX9_weightOf cX9_weightOf 7 (some .int)]
def wsX9_walk : List Cond := .code yX9_walk cX9_walk 7 (some .int) :: ((wsX9_walk_r1 ++ wsX9_walk_r2) ++ wsX90)
def wsX9_reach_r1 : List Cond := [Cond.fieldLink RX9 7 "SlidTokensModel" "n" "I", Cond.fieldLink RX9 26 "SlidTokensModel" "isDone" "[Z", Cond.fieldLink RX9 23 "SlidTokensModel" "far" "[I", Cond.methodLink RX9 88 yX9_isGood, Cond.instanceMethod yX9_isGood, Cond.selects RX9 yX9_isGood yX9_isGood, Cond.initialized RX9, Cond.code yX9_isGood cX9_isGood 4 (some .boolean), Cond.methodLink RX9 62 yX9_isKind, Cond.static yX9_isKind, Cond.code yX9_isKind cX9_isKind 1 (some .boolean), Cond.methodLink RX9 39 yX9_in, Cond.static yX9_in, Cond.code yX9_in cX9_in 3 (some .boolean), Cond.methodLink RX9 65 yX9_isSet, Cond.instanceMethod yX9_isSet, Cond.selects RX9 yX9_isSet yX9_isSet, Cond.code yX9_isSet cX9_isSet 2 (some .boolean), Cond.methodLink RX9 68 yX9_isLawful, Cond.instanceMethod yX9_isLawful, Cond.selects RX9 yX9_isLawful yX9_isLawful, Cond.code yX9_isLawful cX9_isLawful 7 (some .boolean), Cond.fieldLink RX9 13 "SlidTokensModel" "joined" "[I", Cond.methodLink RX9 91 yX9_forget]
def wsX9_reach_r2 : List Cond := [Cond.instanceMethod yX9_forget, Cond.selects RX9 yX9_forget yX9_forget, Cond.code yX9_forget cX9_forget 2 none, Cond.constant RX9 87 (1000000), Cond.methodLink RX9 94 yX9_goFrom, Cond.instanceMethod yX9_goFrom, Cond.selects RX9 yX9_goFrom yX9_goFrom, Cond.code yX9_goFrom cX9_goFrom 9 none, Cond.methodLink RX9 84 yX9_canBe, Cond.instanceMethod yX9_canBe, Cond.selects RX9 yX9_canBe yX9_canBe, Cond.code yX9_canBe cX9_canBe 4 (some .boolean), Cond.fieldLink RX9 36 "SlidTokensModel" "fewest" "I", Cond.fieldLink RX9 17 "SlidTokensModel" "most" "I", Cond.methodLink RX9 54 yX9_size, Cond.static yX9_size, Cond.code yX9_size cX9_size 3 (some .int), Cond.methodLink RX9 80 yX9_weightOf, Cond.instanceMethod yX9_weightOf, Cond.selects RX9 yX9_weightOf yX9_weightOf, Cond.code yX9_weightOf cX9_weightOf 7 (some .int)]
def wsX9_reach : List Cond := .code yX9_reach cX9_reach 9 (some .int) :: ((wsX9_reach_r1 ++ wsX9_reach_r2) ++ wsX90)
def wsX9_parts_r1 : List Cond := [Cond.fieldLink RX9 7 "SlidTokensModel" "n" "I", Cond.fieldLink RX9 26 "SlidTokensModel" "isDone" "[Z", Cond.methodLink RX9 62 yX9_isKind, Cond.static yX9_isKind, Cond.initialized RX9, Cond.code yX9_isKind cX9_isKind 1 (some .boolean), Cond.methodLink RX9 39 yX9_in, Cond.static yX9_in, Cond.code yX9_in cX9_in 3 (some .boolean), Cond.methodLink RX9 91 yX9_forget, Cond.instanceMethod yX9_forget, Cond.selects RX9 yX9_forget yX9_forget, Cond.code yX9_forget cX9_forget 2 none, Cond.fieldLink RX9 23 "SlidTokensModel" "far" "[I", Cond.constant RX9 87 (1000000), Cond.methodLink RX9 84 yX9_canBe, Cond.instanceMethod yX9_canBe, Cond.selects RX9 yX9_canBe yX9_canBe, Cond.code yX9_canBe cX9_canBe 4 (some .boolean), Cond.fieldLink RX9 36 "SlidTokensModel" "fewest" "I", Cond.fieldLink RX9 17 "SlidTokensModel" "most" "I", Cond.methodLink RX9 68 yX9_isLawful, Cond.instanceMethod yX9_isLawful, Cond.selects RX9 yX9_isLawful yX9_isLawful]
def wsX9_parts_r2 : List Cond := [Cond.code yX9_isLawful cX9_isLawful 7 (some .boolean), Cond.fieldLink RX9 13 "SlidTokensModel" "joined" "[I", Cond.methodLink RX9 54 yX9_size, Cond.static yX9_size, Cond.code yX9_size cX9_size 3 (some .int), Cond.methodLink RX9 94 yX9_goFrom, Cond.instanceMethod yX9_goFrom, Cond.selects RX9 yX9_goFrom yX9_goFrom, Cond.code yX9_goFrom cX9_goFrom 9 none, Cond.methodLink RX9 80 yX9_weightOf, Cond.instanceMethod yX9_weightOf, Cond.selects RX9 yX9_weightOf yX9_weightOf, Cond.code yX9_weightOf cX9_weightOf 7 (some .int)]
def wsX9_parts : List Cond := .code yX9_parts cX9_parts 6 (some .int) :: ((wsX9_parts_r1 ++ wsX9_parts_r2) ++ wsX90)
def wsX9_all : List Cond := .code yX9_all cX9_all 1 (some .int) :: ([.fieldLink RX9 7 "SlidTokensModel" "n" "I"] ++ wsX90)
def wsX9_isColouring : List Cond := .code yX9_isColouring cX9_isColouring 4 (some .boolean) :: ([.fieldLink RX9 7 "SlidTokensModel" "n" "I", .fieldLink RX9 20 "SlidTokensModel" "colours" "I", .methodLink RX9 98 yX9_all, .instanceMethod yX9_all, .selects RX9 yX9_all yX9_all, .initialized RX9, .code yX9_all cX9_all 1 (some .int), .methodLink RX9 39 yX9_in, .static yX9_in, .code yX9_in cX9_in 3 (some .boolean)] ++ wsX90)
def wsX9_isProper : List Cond := .code yX9_isProper cX9_isProper 5 (some .boolean) :: ([.fieldLink RX9 7 "SlidTokensModel" "n" "I", .fieldLink RX9 13 "SlidTokensModel" "joined" "[I", .methodLink RX9 101 yX9_isColouring, .instanceMethod yX9_isColouring, .selects RX9 yX9_isColouring yX9_isColouring, .initialized RX9, .code yX9_isColouring cX9_isColouring 4 (some .boolean), .fieldLink RX9 20 "SlidTokensModel" "colours" "I", .methodLink RX9 98 yX9_all, .instanceMethod yX9_all, .selects RX9 yX9_all yX9_all, .code yX9_all cX9_all 1 (some .int), .methodLink RX9 39 yX9_in, .static yX9_in, .code yX9_in cX9_in 3 (some .boolean)] ++ wsX90)
def wsX9_proper : List Cond := .code yX9_proper cX9_proper 2 (some .int) :: ([.fieldLink RX9 7 "SlidTokensModel" "n" "I", .methodLink RX9 101 yX9_isColouring, .instanceMethod yX9_isColouring, .selects RX9 yX9_isColouring yX9_isColouring, .initialized RX9, .code yX9_isColouring cX9_isColouring 4 (some .boolean), .fieldLink RX9 20 "SlidTokensModel" "colours" "I", .methodLink RX9 98 yX9_all, .instanceMethod yX9_all, .selects RX9 yX9_all yX9_all, .code yX9_all cX9_all 1 (some .int), .methodLink RX9 39 yX9_in, .static yX9_in, .code yX9_in cX9_in 3 (some .boolean), .methodLink RX9 104 yX9_isProper, .instanceMethod yX9_isProper, .selects RX9 yX9_isProper yX9_isProper, .code yX9_isProper cX9_isProper 5 (some .boolean), .fieldLink RX9 13 "SlidTokensModel" "joined" "[I"] ++ wsX90)
def wsX9_spread : List Cond := .code yX9_spread cX9_spread 8 (some .int) :: ([.fieldLink RX9 30 "SlidTokensModel" "shade" "[I", .fieldLink RX9 33 "SlidTokensModel" "pile" "[I", .fieldLink RX9 7 "SlidTokensModel" "n" "I", .fieldLink RX9 20 "SlidTokensModel" "colours" "I", .methodLink RX9 104 yX9_isProper, .instanceMethod yX9_isProper, .selects RX9 yX9_isProper yX9_isProper, .initialized RX9, .code yX9_isProper cX9_isProper 5 (some .boolean), .fieldLink RX9 13 "SlidTokensModel" "joined" "[I", .methodLink RX9 101 yX9_isColouring, .instanceMethod yX9_isColouring, .selects RX9 yX9_isColouring yX9_isColouring, .code yX9_isColouring cX9_isColouring 4 (some .boolean), .methodLink RX9 98 yX9_all, .instanceMethod yX9_all, .selects RX9 yX9_all yX9_all, .code yX9_all cX9_all 1 (some .int), .methodLink RX9 39 yX9_in, .static yX9_in, .code yX9_in cX9_in 3 (some .boolean)] ++ wsX90)
def wsX9_bleach : List Cond := .code yX9_bleach cX9_bleach 2 none :: ([.fieldLink RX9 30 "SlidTokensModel" "shade" "[I"] ++ wsX90)
def wsX9_shades_r1 : List Cond := [Cond.fieldLink RX9 7 "SlidTokensModel" "n" "I", Cond.fieldLink RX9 30 "SlidTokensModel" "shade" "[I", Cond.methodLink RX9 104 yX9_isProper, Cond.instanceMethod yX9_isProper, Cond.selects RX9 yX9_isProper yX9_isProper, Cond.initialized RX9, Cond.code yX9_isProper cX9_isProper 5 (some .boolean), Cond.fieldLink RX9 13 "SlidTokensModel" "joined" "[I", Cond.methodLink RX9 101 yX9_isColouring, Cond.instanceMethod yX9_isColouring, Cond.selects RX9 yX9_isColouring yX9_isColouring, Cond.code yX9_isColouring cX9_isColouring 4 (some .boolean), Cond.fieldLink RX9 20 "SlidTokensModel" "colours" "I", Cond.methodLink RX9 98 yX9_all, Cond.instanceMethod yX9_all, Cond.selects RX9 yX9_all yX9_all, Cond.code yX9_all cX9_all 1 (some .int), Cond.methodLink RX9 39 yX9_in, Cond.static yX9_in, Cond.code yX9_in cX9_in 3 (some .boolean), Cond.methodLink RX9 107 yX9_bleach, Cond.instanceMethod yX9_bleach, Cond.selects RX9 yX9_bleach yX9_bleach, Cond.code yX9_bleach cX9_bleach 2 none]
def wsX9_shades_r2 : List Cond := [Cond.methodLink RX9 110 yX9_spread, Cond.instanceMethod yX9_spread, Cond.selects RX9 yX9_spread yX9_spread, Cond.code yX9_spread cX9_spread 8 (some .int), Cond.fieldLink RX9 33 "SlidTokensModel" "pile" "[I"]
def wsX9_shades : List Cond := .code yX9_shades cX9_shades 4 (some .int) :: ((wsX9_shades_r1 ++ wsX9_shades_r2) ++ wsX90)
def wsX9_heaps_r1 : List Cond := [Cond.fieldLink RX9 7 "SlidTokensModel" "n" "I", Cond.fieldLink RX9 30 "SlidTokensModel" "shade" "[I", Cond.methodLink RX9 39 yX9_in, Cond.static yX9_in, Cond.initialized RX9, Cond.code yX9_in cX9_in 3 (some .boolean), Cond.methodLink RX9 107 yX9_bleach, Cond.instanceMethod yX9_bleach, Cond.selects RX9 yX9_bleach yX9_bleach, Cond.code yX9_bleach cX9_bleach 2 none, Cond.methodLink RX9 98 yX9_all, Cond.instanceMethod yX9_all, Cond.selects RX9 yX9_all yX9_all, Cond.code yX9_all cX9_all 1 (some .int), Cond.methodLink RX9 104 yX9_isProper, Cond.instanceMethod yX9_isProper, Cond.selects RX9 yX9_isProper yX9_isProper, Cond.code yX9_isProper cX9_isProper 5 (some .boolean), Cond.fieldLink RX9 13 "SlidTokensModel" "joined" "[I", Cond.methodLink RX9 101 yX9_isColouring, Cond.instanceMethod yX9_isColouring, Cond.selects RX9 yX9_isColouring yX9_isColouring, Cond.code yX9_isColouring cX9_isColouring 4 (some .boolean), Cond.fieldLink RX9 20 "SlidTokensModel" "colours" "I"]
def wsX9_heaps_r2 : List Cond := [Cond.methodLink RX9 110 yX9_spread, Cond.instanceMethod yX9_spread, Cond.selects RX9 yX9_spread yX9_spread, Cond.code yX9_spread cX9_spread 8 (some .int), Cond.fieldLink RX9 33 "SlidTokensModel" "pile" "[I"]
def wsX9_heaps : List Cond := .code yX9_heaps cX9_heaps 7 (some .int) :: ((wsX9_heaps_r1 ++ wsX9_heaps_r2) ++ wsX90)
def wsX9_told : List Cond := .code yX9_told cX9_told 2 (some .int) :: ([.fieldLink RX9 7 "SlidTokensModel" "n" "I", .fieldLink RX9 36 "SlidTokensModel" "fewest" "I", .fieldLink RX9 17 "SlidTokensModel" "most" "I", .fieldLink RX9 20 "SlidTokensModel" "colours" "I", .methodLink RX9 58 yX9_pairs, .instanceMethod yX9_pairs, .selects RX9 yX9_pairs yX9_pairs, .initialized RX9, .code yX9_pairs cX9_pairs 3 (some .int), .fieldLink RX9 13 "SlidTokensModel" "joined" "[I", .methodLink RX9 54 yX9_size, .static yX9_size, .code yX9_size cX9_size 3 (some .int)] ++ wsX90)
def wsX9_trace : List Cond := .code yX9_trace cX9_trace 1 (some .long) :: ([.fieldLink RX9 72 "SlidTokensModel" "trace" "J"] ++ wsX90)
def wsJ9_min_7cf53 : List Cond := .code yJ9_min_7cf53 cJ9_min_7cf53 2 (some .int) :: ([])
def wsL_law_r1 : List Cond := [Cond.classLink RL 7 RX8, Cond.instantiable RX8 8, Cond.initialized RX8, Cond.classLink RL 10 RX9, Cond.instantiable RX9 10, Cond.initialized RX9, Cond.methodLink RL 9 yX8_init, Cond.instanceMethod yX8_init, Cond.code yX8_init cX8_init 1 none, Cond.methodLink RX8 1 objectInit, Cond.instanceMethod objectInit, Cond.code objectInit ⟨#[0xb1]⟩ 1 none, Cond.classLink RX8 7 RX3, Cond.instantiable RX3 2, Cond.initialized RX3, Cond.fieldLink RX8 10 "SlidTokens" "graph" "LSlidTokens$Net;", Cond.classLink RX8 16 RX2, Cond.instantiable RX2 9, Cond.initialized RX2, Cond.fieldLink RX8 21 "SlidTokens" "marks" "LSlidTokens$Marks;", Cond.classLink RX8 25 RX4, Cond.instantiable RX4 8, Cond.initialized RX4, Cond.fieldLink RX8 28 "SlidTokens" "paints" "LSlidTokens$Paints;"]
def wsL_law_r2 : List Cond := [Cond.classLink RX8 32 RX6, Cond.instantiable RX6 0, Cond.initialized RX6, Cond.classLink RX8 35 RX1, Cond.instantiable RX1 0, Cond.initialized RX1, Cond.classLink RX8 38 RX0, Cond.instantiable RX0 0, Cond.initialized RX0, Cond.fieldLink RX8 41 "SlidTokens" "weighers" "[LSlidTokens$Slide;", Cond.classLink RX8 45 RX7, Cond.instantiable RX7 1, Cond.initialized RX7, Cond.fieldLink RX8 48 "SlidTokens" "tally" "LSlidTokens$Tally;", Cond.fieldLink RX8 52 "SlidTokens" "least" "I", Cond.fieldLink RX8 56 "SlidTokens" "most" "I", Cond.fieldLink RX8 59 "SlidTokens" "colours" "I", Cond.instanceMethod yX3_init, Cond.code yX3_init cX3_init 1 none, Cond.methodLink RX3 3 objectInit, Cond.arrayClass .int, Cond.fieldLink RX3 9 "SlidTokens$Net" "near" "[I", Cond.fieldLink RX3 15 "SlidTokens$Net" "nodes" "I", Cond.methodLink RX8 18 yX2_init]
def wsL_law_r3 : List Cond := [Cond.instanceMethod yX2_init, Cond.code yX2_init cX2_init 2 none, Cond.fieldLink RX2 11 "SlidTokens$Marks" "cost" "[I", Cond.fieldLink RX2 15 "SlidTokens$Marks" "moves" "I", Cond.fieldLink RX2 19 "SlidTokens$Marks" "net" "LSlidTokens$Net;", Cond.methodLink RX2 5 yX5_init, Cond.instanceMethod yX5_init, Cond.initialized RX5, Cond.code yX5_init cX5_init 3 none, Cond.methodLink RX5 3 objectInit, Cond.fieldLink RX5 9 "SlidTokens$Search" "size" "I", Cond.fieldLink RX5 15 "SlidTokens$Search" "tail" "I", Cond.fieldLink RX5 18 "SlidTokens$Search" "found" "I", Cond.fieldLink RX5 21 "SlidTokens$Search" "far" "[I", Cond.fieldLink RX5 25 "SlidTokens$Search" "line" "[I", Cond.fieldLink RX5 28 "SlidTokens$Search" "next" "[I", Cond.methodLink RX8 27 yX4_init, Cond.instanceMethod yX4_init, Cond.code yX4_init cX4_init 2 none, Cond.fieldLink RX4 9 "SlidTokens$Paints" "colours" "I", Cond.fieldLink RX4 15 "SlidTokens$Paints" "net" "LSlidTokens$Net;", Cond.methodLink RX4 3 yX5_init, Cond.instanceMethod yX6_init, Cond.code yX6_init cX6_init 1 none]
def wsL_law_r4 : List Cond := [Cond.methodLink RX6 3 objectInit, Cond.instanceMethod yX1_init, Cond.code yX1_init cX1_init 1 none, Cond.instanceMethod yX0_init, Cond.code yX0_init cX0_init 1 none, Cond.instanceMethod yX7_init, Cond.code yX7_init cX7_init 1 none, Cond.methodLink RX7 1 objectInit, Cond.fieldLink RX7 7 "SlidTokens$Tally" "sum" "J", Cond.methodLink RL 12 yX9_init, Cond.instanceMethod yX9_init, Cond.code yX9_init cX9_init 1 none, Cond.methodLink RX9 1 objectInit, Cond.fieldLink RX9 7 "SlidTokensModel" "n" "I", Cond.fieldLink RX9 13 "SlidTokensModel" "joined" "[I", Cond.fieldLink RX9 17 "SlidTokensModel" "most" "I", Cond.fieldLink RX9 20 "SlidTokensModel" "colours" "I", Cond.fieldLink RX9 23 "SlidTokensModel" "far" "[I", Cond.arrayClass .boolean, Cond.fieldLink RX9 26 "SlidTokensModel" "isDone" "[Z", Cond.fieldLink RX9 30 "SlidTokensModel" "shade" "[I", Cond.fieldLink RX9 33 "SlidTokensModel" "pile" "[I", Cond.fieldLink RX9 36 "SlidTokensModel" "fewest" "I", Cond.methodLink RL 13 yX8_net]
def wsL_law_r5 : List Cond := [Cond.instanceMethod yX8_net, Cond.selects RX8 yX8_net yX8_net, Cond.code yX8_net cX8_net 3 (some .int), Cond.fieldLink RX8 66 "SlidTokens$Net" "nodes" "I", Cond.methodLink RX8 62 yX8_isWithin, Cond.static yX8_isWithin, Cond.code yX8_isWithin cX8_isWithin 3 (some .boolean), Cond.methodLink RX8 69 yX3_restart, Cond.instanceMethod yX3_restart, Cond.selects RX3 yX3_restart yX3_restart, Cond.code yX3_restart cX3_restart 2 none, Cond.methodLink RX3 19 yJ7_fill_53178, Cond.static yJ7_fill_53178, Cond.initialized RJ7, Cond.code yJ7_fill_53178 cJ7_fill_53178 4 none, Cond.methodLink RL 17 yX9_net, Cond.instanceMethod yX9_net, Cond.selects RX9 yX9_net yX9_net, Cond.code yX9_net cX9_net 3 (some .int), Cond.methodLink RX9 39 yX9_in, Cond.static yX9_in, Cond.code yX9_in cX9_in 3 (some .boolean), Cond.methodLink RX9 43 yX9_part, Cond.instanceMethod yX9_part]
def wsL_law_r6 : List Cond := [Cond.selects RX9 yX9_part yX9_part, Cond.code yX9_part cX9_part 2 none, Cond.methodLink RL 18 yX8_join, Cond.instanceMethod yX8_join, Cond.selects RX8 yX8_join yX8_join, Cond.code yX8_join cX8_join 5 (some .int), Cond.methodLink RX8 73 yX3_hasNode, Cond.instanceMethod yX3_hasNode, Cond.selects RX3 yX3_hasNode yX3_hasNode, Cond.code yX3_hasNode cX3_hasNode 2 (some .boolean), Cond.methodLink RX8 77 yX3_areJoined, Cond.instanceMethod yX3_areJoined, Cond.selects RX3 yX3_areJoined yX3_areJoined, Cond.code yX3_areJoined cX3_areJoined 3 (some .boolean), Cond.methodLink RX3 29 yX3_hasNode, Cond.methodLink RX8 81 yX8_asNumber, Cond.static yX8_asNumber, Cond.code yX8_asNumber cX8_asNumber 1 (some .int), Cond.methodLink RX8 85 yX3_tie, Cond.instanceMethod yX3_tie, Cond.selects RX3 yX3_tie yX3_tie, Cond.code yX3_tie cX3_tie 4 none, Cond.methodLink RL 22 yX9_join, Cond.instanceMethod yX9_join]
def wsL_law_r7 : List Cond := [Cond.selects RX9 yX9_join yX9_join, Cond.code yX9_join cX9_join 5 (some .int), Cond.methodLink RX9 46 yX9_isNode, Cond.instanceMethod yX9_isNode, Cond.selects RX9 yX9_isNode yX9_isNode, Cond.code yX9_isNode cX9_isNode 2 (some .boolean), Cond.methodLink RX9 50 yX9_put, Cond.instanceMethod yX9_put, Cond.selects RX9 yX9_put yX9_put, Cond.code yX9_put cX9_put 4 none, Cond.methodLink RL 23 yX8_shape, Cond.instanceMethod yX8_shape, Cond.selects RX8 yX8_shape yX8_shape, Cond.code yX8_shape cX8_shape 2 (some .int), Cond.methodLink RX8 89 yX3_form, Cond.instanceMethod yX3_form, Cond.selects RX3 yX3_form yX3_form, Cond.code yX3_form cX3_form 4 none, Cond.methodLink RX3 39 yX3_restart, Cond.methodLink RX3 43 yX3_isInShape, Cond.instanceMethod yX3_isInShape, Cond.selects RX3 yX3_isInShape yX3_isInShape, Cond.code yX3_isInShape cX3_isInShape 4 (some .boolean), Cond.methodLink RX3 47 yX3_tie]
def wsL_law_r8 : List Cond := [Cond.methodLink RX8 92 yX3_pairs, Cond.instanceMethod yX3_pairs, Cond.selects RX3 yX3_pairs yX3_pairs, Cond.code yX3_pairs cX3_pairs 3 (some .int), Cond.methodLink RX3 33 yJ6_bitCount_0f7a4, Cond.static yJ6_bitCount_0f7a4, Cond.initialized RJ6, Cond.code yJ6_bitCount_0f7a4 cJ6_bitCount_0f7a4 1 (some .int), Cond.constant RJ6 265 (1431655765), Cond.constant RJ6 266 (858993459), Cond.constant RJ6 267 (252645135), Cond.methodLink RL 26 yX9_shape, Cond.instanceMethod yX9_shape, Cond.selects RX9 yX9_shape yX9_shape, Cond.code yX9_shape cX9_shape 5 (some .int), Cond.methodLink RX9 58 yX9_pairs, Cond.instanceMethod yX9_pairs, Cond.selects RX9 yX9_pairs yX9_pairs, Cond.code yX9_pairs cX9_pairs 3 (some .int), Cond.methodLink RX9 54 yX9_size, Cond.static yX9_size, Cond.code yX9_size cX9_size 3 (some .int), Cond.methodLink RL 27 yX8_set, Cond.instanceMethod yX8_set]
def wsL_law_r9 : List Cond := [Cond.selects RX8 yX8_set yX8_set, Cond.code yX8_set cX8_set 7 (some .int), Cond.methodLink RL 31 yX9_set, Cond.instanceMethod yX9_set, Cond.selects RX9 yX9_set yX9_set, Cond.code yX9_set cX9_set 4 (some .int), Cond.methodLink RL 32 yX8_lawful, Cond.instanceMethod yX8_lawful, Cond.selects RX8 yX8_lawful yX8_lawful, Cond.code yX8_lawful cX8_lawful 3 (some .int), Cond.methodLink RX8 96 yX8_isKind, Cond.static yX8_isKind, Cond.code yX8_isKind cX8_isKind 1 (some .boolean), Cond.methodLink RX8 99 yX3_hasSet, Cond.instanceMethod yX3_hasSet, Cond.selects RX3 yX3_hasSet yX3_hasSet, Cond.code yX3_hasSet cX3_hasSet 2 (some .boolean), Cond.methodLink RX3 25 yX3_all, Cond.instanceMethod yX3_all, Cond.selects RX3 yX3_all yX3_all, Cond.code yX3_all cX3_all 1 (some .int), Cond.methodLink RX8 102 yX3_isLawful, Cond.instanceMethod yX3_isLawful, Cond.selects RX3 yX3_isLawful yX3_isLawful]
def wsL_law_r10 : List Cond := [Cond.code yX3_isLawful cX3_isLawful 3 (some .boolean), Cond.methodLink RX3 51 yX3_touchesNowhere, Cond.instanceMethod yX3_touchesNowhere, Cond.selects RX3 yX3_touchesNowhere yX3_touchesNowhere, Cond.code yX3_touchesNowhere cX3_touchesNowhere 3 (some .boolean), Cond.methodLink RX3 54 yX3_seesAll, Cond.instanceMethod yX3_seesAll, Cond.selects RX3 yX3_seesAll yX3_seesAll, Cond.code yX3_seesAll cX3_seesAll 4 (some .boolean), Cond.methodLink RL 35 yX9_lawful, Cond.instanceMethod yX9_lawful, Cond.selects RX9 yX9_lawful yX9_lawful, Cond.code yX9_lawful cX9_lawful 3 (some .int), Cond.methodLink RX9 62 yX9_isKind, Cond.static yX9_isKind, Cond.code yX9_isKind cX9_isKind 1 (some .boolean), Cond.methodLink RX9 65 yX9_isSet, Cond.instanceMethod yX9_isSet, Cond.selects RX9 yX9_isSet yX9_isSet, Cond.code yX9_isSet cX9_isSet 2 (some .boolean), Cond.methodLink RX9 68 yX9_isLawful, Cond.instanceMethod yX9_isLawful, Cond.selects RX9 yX9_isLawful yX9_isLawful, Cond.code yX9_isLawful cX9_isLawful 7 (some .boolean)]
def wsL_law_r11 : List Cond := [Cond.methodLink RL 36 yX8_count, Cond.instanceMethod yX8_count, Cond.selects RX8 yX8_count yX8_count, Cond.code yX8_count cX8_count 6 (some .int), Cond.methodLink RX8 105 yX3_all, Cond.methodLink RX8 108 yJ6_bitCount_0f7a4, Cond.methodLink RL 39 yX9_count, Cond.instanceMethod yX9_count, Cond.selects RX9 yX9_count yX9_count, Cond.code yX9_count cX9_count 5 (some .int), Cond.methodLink RL 40 yX8_weight, Cond.instanceMethod yX8_weight, Cond.selects RX8 yX8_weight yX8_weight, Cond.code yX8_weight cX8_weight 4 (some .int), Cond.methodLink RX8 114 yX8_areMoves, Cond.static yX8_areMoves, Cond.code yX8_areMoves cX8_areMoves 1 (some .boolean), Cond.methodLink RX8 117 ⟨"SlidTokens$Slide", "weigh", "(LSlidTokens$Net;IILSlidTokens$Tally;)I"⟩, Cond.sameMethod "SlidTokens$Slide" "SlidTokens$Slide" "weigh" "(LSlidTokens$Net;IILSlidTokens$Tally;)I", Cond.instanceMethod ⟨"SlidTokens$Slide", "weigh", "(LSlidTokens$Net;IILSlidTokens$Tally;)I"⟩, Cond.selects RX0 ⟨"SlidTokens$Slide", "weigh", "(LSlidTokens$Net;IILSlidTokens$Tally;)I"⟩ yX0_weigh, Cond.instanceMethod yX0_weigh, Cond.code yX0_weigh cX0_weigh 6 (some .int), Cond.fieldLink RX0 9 "SlidTokens$Tally" "sum" "J"]
def wsL_law_r12 : List Cond := [Cond.constantLong RX0 15 (100), Cond.methodLink RX0 17 yX1_weigh, Cond.sameMethod "SlidTokens$Jump" "SlidTokens$Jump" "weigh" "(LSlidTokens$Net;IILSlidTokens$Tally;)I", Cond.superclass RX0 RX1, Cond.instanceMethod yX1_weigh, Cond.code yX1_weigh cX1_weigh 6 (some .int), Cond.fieldLink RX1 9 "SlidTokens$Tally" "sum" "J", Cond.constantLong RX1 15 (10), Cond.methodLink RX1 17 yX6_weigh, Cond.superclass RX1 RX6, Cond.instanceMethod yX6_weigh, Cond.code yX6_weigh cX6_weigh 7 (some .int), Cond.fieldLink RX6 9 "SlidTokens$Tally" "sum" "J", Cond.methodLink RX6 15 yX6_isSwap, Cond.static yX6_isSwap, Cond.code yX6_isSwap cX6_isSwap 2 (some .boolean), Cond.methodLink RX6 32 yJ6_bitCount_0f7a4, Cond.methodLink RX6 21 yJ6_numberOfTrailingZeros_0f7a4, Cond.static yJ6_numberOfTrailingZeros_0f7a4, Cond.code yJ6_numberOfTrailingZeros_0f7a4 cJ6_numberOfTrailingZeros_0f7a4 2 (some .int), Cond.constant RJ6 264 (65536), Cond.methodLink RX6 27 yX3_areJoined, Cond.methodLink RX0 21 yJ6_bitCount_0f7a4, Cond.selects RX1 ⟨"SlidTokens$Slide", "weigh", "(LSlidTokens$Net;IILSlidTokens$Tally;)I"⟩ yX1_weigh]
def wsL_law_r13 : List Cond := [Cond.methodLink RX8 117 yX6_weigh, Cond.selects RX6 yX6_weigh yX6_weigh, Cond.methodLink RL 43 yX9_weight, Cond.instanceMethod yX9_weight, Cond.selects RX9 yX9_weight yX9_weight, Cond.code yX9_weight cX9_weight 4 (some .int), Cond.fieldLink RX9 72 "SlidTokensModel" "trace" "J", Cond.constantLong RX9 76 (11), Cond.constantLong RX9 78 (111), Cond.methodLink RX9 80 yX9_weightOf, Cond.instanceMethod yX9_weightOf, Cond.selects RX9 yX9_weightOf yX9_weightOf, Cond.code yX9_weightOf cX9_weightOf 7 (some .int), Cond.methodLink RL 44 yX8_walk, Cond.instanceMethod yX8_walk, Cond.selects RX8 yX8_walk yX8_walk, Cond.code yX8_walk cX8_walk 6 (some .int), Cond.methodLink RX8 121 yX8_isLawfulSet, Cond.instanceMethod yX8_isLawfulSet, Cond.selects RX8 yX8_isLawfulSet yX8_isLawfulSet, Cond.code yX8_isLawfulSet cX8_isLawfulSet 3 (some .boolean), Cond.methodLink RX8 124 yX8_begin, Cond.instanceMethod yX8_begin, Cond.selects RX8 yX8_begin yX8_begin]
def wsL_law_r14 : List Cond := [Cond.code yX8_begin cX8_begin 3 none, Cond.methodLink RX8 153 yX2_begin, Cond.instanceMethod yX2_begin, Cond.selects RX2 yX2_begin yX2_begin, Cond.code yX2_begin cX2_begin 7 none, Cond.fieldLink RX2 29 "SlidTokens$Marks" "size" "I", Cond.sameField "SlidTokens$Marks" "SlidTokens$Search" "size" "I", Cond.fieldLink RX2 32 "SlidTokens$Marks" "tail" "I", Cond.sameField "SlidTokens$Marks" "SlidTokens$Search" "tail" "I", Cond.fieldLink RX2 45 "SlidTokens$Marks" "far" "[I", Cond.sameField "SlidTokens$Marks" "SlidTokens$Search" "far" "[I", Cond.methodLink RX2 23 yX3_all, Cond.methodLink RX2 35 yJ6_bitCount_0f7a4, Cond.methodLink RX2 48 yX3_isLawful, Cond.methodLink RX8 128 ⟨"SlidTokens$Marks", "fewest", "(II)I"⟩, Cond.sameMethod "SlidTokens$Marks" "SlidTokens$Search" "fewest" "(II)I", Cond.selects RX2 ⟨"SlidTokens$Marks", "fewest", "(II)I"⟩ yX5_fewest, Cond.instanceMethod yX5_fewest, Cond.code yX5_fewest cX5_fewest 3 (some .int), Cond.methodLink RX5 39 ⟨"SlidTokens$Search", "spread", "(II)V"⟩, Cond.sameMethod "SlidTokens$Search" "SlidTokens$Search" "spread" "(II)V", Cond.selects RX2 ⟨"SlidTokens$Search", "spread", "(II)V"⟩ yX5_spread, Cond.instanceMethod yX5_spread, Cond.code yX5_spread cX5_spread 7 none]
def wsL_law_r15 : List Cond := [Cond.methodLink RX5 31 ⟨"SlidTokens$Search", "enter", "(II)V"⟩, Cond.sameMethod "SlidTokens$Search" "SlidTokens$Search" "enter" "(II)V", Cond.selects RX2 ⟨"SlidTokens$Search", "enter", "(II)V"⟩ yX5_enter, Cond.instanceMethod yX5_enter, Cond.code yX5_enter cX5_enter 3 none, Cond.selects RX4 ⟨"SlidTokens$Search", "enter", "(II)V"⟩ yX5_enter, Cond.methodLink RX5 35 ⟨"SlidTokens$Search", "gather", "(I)V"⟩, Cond.sameMethod "SlidTokens$Search" "SlidTokens$Search" "gather" "(I)V", Cond.selects RX2 ⟨"SlidTokens$Search", "gather", "(I)V"⟩ yX2_gather, Cond.instanceMethod yX2_gather, Cond.code yX2_gather cX2_gather 3 none, Cond.fieldLink RX2 52 "SlidTokens$Marks" "found" "I", Cond.sameField "SlidTokens$Marks" "SlidTokens$Search" "found" "I", Cond.fieldLink RX2 55 "SlidTokens$Net" "nodes" "I", Cond.methodLink RX2 58 yX2_gatherSwaps, Cond.instanceMethod yX2_gatherSwaps, Cond.selects RX2 yX2_gatherSwaps yX2_gatherSwaps, Cond.code yX2_gatherSwaps cX2_gatherSwaps 7 none, Cond.fieldLink RX2 64 "SlidTokens$Net" "near" "[I", Cond.methodLink RX2 61 yX2_offer, Cond.instanceMethod yX2_offer, Cond.selects RX2 yX2_offer yX2_offer, Cond.code yX2_offer cX2_offer 3 none, Cond.methodLink RX2 67 ⟨"SlidTokens$Marks", "note", "(I)V"⟩]
def wsL_law_r16 : List Cond := [Cond.sameMethod "SlidTokens$Marks" "SlidTokens$Search" "note" "(I)V", Cond.selects RX2 ⟨"SlidTokens$Marks", "note", "(I)V"⟩ yX5_note, Cond.instanceMethod yX5_note, Cond.code yX5_note cX5_note 2 none, Cond.selects RX4 ⟨"SlidTokens$Search", "gather", "(I)V"⟩ yX4_gather, Cond.instanceMethod yX4_gather, Cond.code yX4_gather cX4_gather 6 none, Cond.fieldLink RX4 57 "SlidTokens$Paints" "found" "I", Cond.sameField "SlidTokens$Paints" "SlidTokens$Search" "found" "I", Cond.fieldLink RX4 19 "SlidTokens$Net" "nodes" "I", Cond.fieldLink RX4 24 "SlidTokens$Paints" "far" "[I", Cond.sameField "SlidTokens$Paints" "SlidTokens$Search" "far" "[I", Cond.methodLink RX4 60 ⟨"SlidTokens$Paints", "note", "(I)V"⟩, Cond.sameMethod "SlidTokens$Paints" "SlidTokens$Search" "note" "(I)V", Cond.selects RX4 ⟨"SlidTokens$Paints", "note", "(I)V"⟩ yX5_note, Cond.selects RX4 ⟨"SlidTokens$Search", "spread", "(II)V"⟩ yX5_spread, Cond.methodLink RX8 132 yX2_following, Cond.instanceMethod yX2_following, Cond.selects RX2 yX2_following yX2_following, Cond.code yX2_following cX2_following 6 (some .int), Cond.fieldLink RX2 78 "SlidTokens$Marks" "next" "[I", Cond.sameField "SlidTokens$Marks" "SlidTokens$Search" "next" "[I", Cond.methodLink RX2 71 ⟨"SlidTokens$Marks", "fewest", "(II)I"⟩, Cond.methodLink RX2 75 yX2_gather]
def wsL_law_r17 : List Cond := [Cond.selects RX2 yX2_gather yX2_gather, Cond.methodLink RX8 135 yX2_lightest, Cond.instanceMethod yX2_lightest, Cond.selects RX2 yX2_lightest yX2_lightest, Cond.code yX2_lightest cX2_lightest 5 (some .int), Cond.methodLink RX2 81 yX2_forgetSpread, Cond.instanceMethod yX2_forgetSpread, Cond.selects RX2 yX2_forgetSpread yX2_forgetSpread, Cond.code yX2_forgetSpread cX2_forgetSpread 2 none, Cond.fieldLink RX2 88 "SlidTokens$Marks" "line" "[I", Cond.sameField "SlidTokens$Marks" "SlidTokens$Search" "line" "[I", Cond.methodLink RX2 85 yX2_settle, Cond.instanceMethod yX2_settle, Cond.selects RX2 yX2_settle yX2_settle, Cond.code yX2_settle cX2_settle 3 none, Cond.methodLink RX2 91 yX2_lighten, Cond.instanceMethod yX2_lighten, Cond.selects RX2 yX2_lighten yX2_lighten, Cond.code yX2_lighten cX2_lighten 4 none, Cond.methodLink RL 48 yX9_walk, Cond.instanceMethod yX9_walk, Cond.selects RX9 yX9_walk yX9_walk, Cond.code yX9_walk cX9_walk 7 (some .int), Cond.constant RX9 87 (1000000)]
def wsL_law_r18 : List Cond := [Cond.methodLink RX9 88 yX9_isGood, Cond.instanceMethod yX9_isGood, Cond.selects RX9 yX9_isGood yX9_isGood, Cond.code yX9_isGood cX9_isGood 4 (some .boolean), Cond.methodLink RX9 91 yX9_forget, Cond.instanceMethod yX9_forget, Cond.selects RX9 yX9_forget yX9_forget, Cond.code yX9_forget cX9_forget 2 none, Cond.methodLink RX9 94 yX9_goFrom, Cond.instanceMethod yX9_goFrom, Cond.selects RX9 yX9_goFrom yX9_goFrom, Cond.code yX9_goFrom cX9_goFrom 9 none, Cond.methodLink RX9 84 yX9_canBe, Cond.instanceMethod yX9_canBe, Cond.selects RX9 yX9_canBe yX9_canBe, Cond.code yX9_canBe cX9_canBe 4 (some .boolean), Cond.methodLink RL 49 yX8_reach, Cond.instanceMethod yX8_reach, Cond.selects RX8 yX8_reach yX8_reach, Cond.code yX8_reach cX8_reach 5 (some .int), Cond.fieldLink RX8 141 "SlidTokens$Marks" "tail" "I", Cond.methodLink RX8 138 ⟨"SlidTokens$Marks", "spread", "(II)V"⟩, Cond.sameMethod "SlidTokens$Marks" "SlidTokens$Search" "spread" "(II)V", Cond.selects RX2 ⟨"SlidTokens$Marks", "spread", "(II)V"⟩ yX5_spread]
def wsL_law_r19 : List Cond := [Cond.methodLink RX8 144 yX2_frozen, Cond.instanceMethod yX2_frozen, Cond.selects RX2 yX2_frozen yX2_frozen, Cond.code yX2_frozen cX2_frozen 3 (some .int), Cond.methodLink RX8 147 yX2_farthest, Cond.instanceMethod yX2_farthest, Cond.selects RX2 yX2_farthest yX2_farthest, Cond.code yX2_farthest cX2_farthest 1 (some .int), Cond.methodLink RL 53 yX9_reach, Cond.instanceMethod yX9_reach, Cond.selects RX9 yX9_reach yX9_reach, Cond.code yX9_reach cX9_reach 9 (some .int), Cond.methodLink RL 54 yX8_parts, Cond.instanceMethod yX8_parts, Cond.selects RX8 yX8_parts yX8_parts, Cond.code yX8_parts cX8_parts 4 (some .int), Cond.methodLink RX8 150 ⟨"SlidTokens$Marks", "components", "()I"⟩, Cond.sameMethod "SlidTokens$Marks" "SlidTokens$Search" "components" "()I", Cond.selects RX2 ⟨"SlidTokens$Marks", "components", "()I"⟩ yX5_components, Cond.instanceMethod yX5_components, Cond.code yX5_components cX5_components 3 (some .int), Cond.methodLink RL 57 yX9_parts, Cond.instanceMethod yX9_parts, Cond.selects RX9 yX9_parts yX9_parts]
def wsL_law_r20 : List Cond := [Cond.code yX9_parts cX9_parts 6 (some .int), Cond.methodLink RL 58 yX8_proper, Cond.instanceMethod yX8_proper, Cond.selects RX8 yX8_proper yX8_proper, Cond.code yX8_proper cX8_proper 2 (some .int), Cond.methodLink RX8 156 yX4_isColouring, Cond.instanceMethod yX4_isColouring, Cond.selects RX4 yX4_isColouring yX4_isColouring, Cond.code yX4_isColouring cX4_isColouring 4 (some .boolean), Cond.methodLink RX4 51 yX4_colourOf, Cond.static yX4_colourOf, Cond.code yX4_colourOf cX4_colourOf 2 (some .int), Cond.methodLink RX8 159 yX4_differs, Cond.instanceMethod yX4_differs, Cond.selects RX4 yX4_differs yX4_differs, Cond.code yX4_differs cX4_differs 5 (some .boolean), Cond.fieldLink RX4 54 "SlidTokens$Net" "near" "[I", Cond.methodLink RL 61 yX9_proper, Cond.instanceMethod yX9_proper, Cond.selects RX9 yX9_proper yX9_proper, Cond.code yX9_proper cX9_proper 2 (some .int), Cond.methodLink RX9 101 yX9_isColouring, Cond.instanceMethod yX9_isColouring, Cond.selects RX9 yX9_isColouring yX9_isColouring]
def wsL_law_r21 : List Cond := [Cond.code yX9_isColouring cX9_isColouring 4 (some .boolean), Cond.methodLink RX9 98 yX9_all, Cond.instanceMethod yX9_all, Cond.selects RX9 yX9_all yX9_all, Cond.code yX9_all cX9_all 1 (some .int), Cond.methodLink RX9 104 yX9_isProper, Cond.instanceMethod yX9_isProper, Cond.selects RX9 yX9_isProper yX9_isProper, Cond.code yX9_isProper cX9_isProper 5 (some .boolean), Cond.methodLink RL 62 yX8_shades, Cond.instanceMethod yX8_shades, Cond.selects RX8 yX8_shades yX8_shades, Cond.code yX8_shades cX8_shades 3 (some .int), Cond.methodLink RX8 162 yX4_isLawful, Cond.instanceMethod yX4_isLawful, Cond.selects RX4 yX4_isLawful yX4_isLawful, Cond.code yX4_isLawful cX4_isLawful 3 (some .boolean), Cond.methodLink RX4 44 yX4_isColouring, Cond.methodLink RX4 47 yX4_differs, Cond.methodLink RX8 163 yX4_begin, Cond.instanceMethod yX4_begin, Cond.selects RX4 yX4_begin yX4_begin, Cond.code yX4_begin cX4_begin 3 none, Cond.methodLink RX4 28 Lib.Math.min.name]
def wsL_law_r22 : List Cond := [Cond.static Lib.Math.min.name, Cond.initialized "java/lang/Math", Cond.code Lib.Math.min.name Lib.Math.min.code 2 (some .int), Cond.fieldLink RX4 34 "SlidTokens$Paints" "size" "I", Cond.sameField "SlidTokens$Paints" "SlidTokens$Search" "size" "I", Cond.fieldLink RX4 37 "SlidTokens$Paints" "tail" "I", Cond.sameField "SlidTokens$Paints" "SlidTokens$Search" "tail" "I", Cond.methodLink RX4 40 yX4_isLawful, Cond.methodLink RX8 165 ⟨"SlidTokens$Paints", "fewest", "(II)I"⟩, Cond.sameMethod "SlidTokens$Paints" "SlidTokens$Search" "fewest" "(II)I", Cond.selects RX4 ⟨"SlidTokens$Paints", "fewest", "(II)I"⟩ yX5_fewest, Cond.methodLink RL 65 yX9_shades, Cond.instanceMethod yX9_shades, Cond.selects RX9 yX9_shades yX9_shades, Cond.code yX9_shades cX9_shades 4 (some .int), Cond.methodLink RX9 107 yX9_bleach, Cond.instanceMethod yX9_bleach, Cond.selects RX9 yX9_bleach yX9_bleach, Cond.code yX9_bleach cX9_bleach 2 none, Cond.methodLink RX9 110 yX9_spread, Cond.instanceMethod yX9_spread, Cond.selects RX9 yX9_spread yX9_spread, Cond.code yX9_spread cX9_spread 8 (some .int), Cond.methodLink RL 66 yX8_heaps]
def wsL_law_r23 : List Cond := [Cond.instanceMethod yX8_heaps, Cond.selects RX8 yX8_heaps yX8_heaps, Cond.code yX8_heaps cX8_heaps 2 (some .int), Cond.methodLink RX8 166 yX4_many, Cond.instanceMethod yX4_many, Cond.selects RX4 yX4_many yX4_many, Cond.code yX4_many cX4_many 3 (some .int), Cond.methodLink RX8 169 yX4_stuck, Cond.instanceMethod yX4_stuck, Cond.selects RX4 yX4_stuck yX4_stuck, Cond.code yX4_stuck cX4_stuck 3 (some .int), Cond.methodLink RX4 64 yX4_gather, Cond.selects RX4 yX4_gather yX4_gather, Cond.methodLink RX8 172 ⟨"SlidTokens$Paints", "components", "()I"⟩, Cond.sameMethod "SlidTokens$Paints" "SlidTokens$Search" "components" "()I", Cond.selects RX4 ⟨"SlidTokens$Paints", "components", "()I"⟩ yX5_components, Cond.methodLink RL 69 yX9_heaps, Cond.instanceMethod yX9_heaps, Cond.selects RX9 yX9_heaps yX9_heaps, Cond.code yX9_heaps cX9_heaps 7 (some .int), Cond.methodLink RL 70 yX8_told, Cond.instanceMethod yX8_told, Cond.selects RX8 yX8_told yX8_told, Cond.code yX8_told cX8_told 2 (some .int)]
def wsL_law_r24 : List Cond := [Cond.methodLink RL 73 yX9_told, Cond.instanceMethod yX9_told, Cond.selects RX9 yX9_told yX9_told, Cond.code yX9_told cX9_told 2 (some .int), Cond.methodLink RL 74 yX8_trace, Cond.instanceMethod yX8_trace, Cond.selects RX8 yX8_trace yX8_trace, Cond.code yX8_trace cX8_trace 1 (some .long), Cond.fieldLink RX8 173 "SlidTokens$Tally" "sum" "J", Cond.methodLink RL 78 yX9_trace, Cond.instanceMethod yX9_trace, Cond.selects RX9 yX9_trace yX9_trace, Cond.code yX9_trace cX9_trace 1 (some .long)]
def wsL_law : List Cond := (wsL_law_r1 ++ (wsL_law_r2 ++ (wsL_law_r3 ++ (wsL_law_r4 ++ (wsL_law_r5 ++ (wsL_law_r6 ++ (wsL_law_r7 ++ (wsL_law_r8 ++ (wsL_law_r9 ++ (wsL_law_r10 ++ (wsL_law_r11 ++ (wsL_law_r12 ++ (wsL_law_r13 ++ (wsL_law_r14 ++ (wsL_law_r15 ++ (wsL_law_r16 ++ (wsL_law_r17 ++ (wsL_law_r18 ++ (wsL_law_r19 ++ (wsL_law_r20 ++ (wsL_law_r21 ++ (wsL_law_r22 ++ (wsL_law_r23 ++ wsL_law_r24))))))))))))))))))))))) ++ wsX80 ++ wsX90 ++ wsX30 ++ wsX20 ++ wsX40 ++ wsX60 ++ wsX10 ++ wsX00 ++ wsX70 ++ ([] : List Cond)
abbrev vwCl : List vw_C := [(RX0, TX0, 0), (RX1, TX1, 0), (RX2, TX2, 9), (RX3, TX3, 2), (RX4, TX4, 8), (RX6, TX6, 0), (RX7, TX7, 1), (RX8, TX8, 8), (RX9, TX9, 10)]
end
section
/-- words by their places -/
theorem mem_pl {big : List Cond} (ws : List Cond) (ps : List Nat) (hp : ws = ps.filterMap (fun i => big[i]?)) : ∀ w ∈ ws, w ∈ big := by
  intro w hw
  rw [hp] at hw
  obtain ⟨i, -, hi⟩ := List.mem_filterMap.mp hw
  exact List.mem_of_getElem? hi
set_option maxRecDepth 20000 in
theorem wsL_i1 : ∀ w ∈ wsL_law_r1, w ∈ lw_tbl := mem_pl _ [42, 43, 29, 506, 507, 38, 44, 45, 46, 47, 48, 49, 50, 51, 30, 182, 69, 70, 32, 183, 127, 128, 33, 184] (by decide +kernel)
set_option maxRecDepth 20000 in
theorem wsL_i2 : ∀ w ∈ wsL_law_r2, w ∈ lw_tbl := mem_pl _ [146, 148, 34, 154, 155, 35, 161, 162, 36, 185, 168, 169, 37, 186, 187, 188, 189, 53, 54, 55, 68, 56, 59, 71] (by decide +kernel)
set_option maxRecDepth 20000 in
theorem wsL_i3 : ∀ w ∈ wsL_law_r3, w ∈ lw_tbl := mem_pl _ [72, 73, 79, 80, 78, 74, 75, 31, 76, 77, 92, 97, 103, 81, 86, 89, 129, 130, 131, 134, 133, 132, 150, 151] (by decide +kernel)
set_option maxRecDepth 20000 in
theorem wsL_i4 : ∀ w ∈ wsL_law_r4, w ∈ lw_tbl := mem_pl _ [152, 157, 158, 164, 165, 171, 172, 173, 174, 508, 509, 510, 511, 512, 513, 515, 516, 518, 543, 519, 520, 521, 514, 207] (by decide +kernel)
set_option maxRecDepth 20000 in
theorem wsL_i5 : ∀ w ∈ wsL_law_r5, w ∈ lw_tbl := mem_pl _ [208, 209, 210, 61, 211, 212, 213, 214, 215, 216, 217, 218, 219, 39, 220, 544, 545, 546, 547, 548, 549, 550, 551, 553] (by decide +kernel)
set_option maxRecDepth 20000 in
theorem wsL_i6 : ∀ w ∈ wsL_law_r6, w ∈ lw_tbl := mem_pl _ [12, 554, 221, 222, 223, 224, 225, 226, 227, 228, 229, 230, 231, 232, 233, 234, 235, 236, 237, 238, 239, 240, 555, 556] (by decide +kernel)
set_option maxRecDepth 20000 in
theorem wsL_i7 : ∀ w ∈ wsL_law_r7, w ∈ lw_tbl := mem_pl _ [557, 558, 559, 561, 13, 562, 563, 565, 14, 566, 241, 242, 243, 244, 245, 246, 247, 248, 249, 250, 252, 2, 253, 254] (by decide +kernel)
set_option maxRecDepth 20000 in
theorem wsL_i8 : ∀ w ∈ wsL_law_r8, w ∈ lw_tbl := mem_pl _ [255, 256, 257, 258, 259, 260, 40, 261, 262, 263, 264, 567, 568, 569, 570, 571, 573, 15, 574, 575, 576, 577, 265, 266] (by decide +kernel)
set_option maxRecDepth 20000 in
theorem wsL_i9 : ∀ w ∈ wsL_law_r9, w ∈ lw_tbl := mem_pl _ [267, 268, 578, 579, 580, 581, 269, 270, 271, 272, 273, 274, 275, 276, 277, 278, 279, 280, 281, 282, 283, 284, 285, 286] (by decide +kernel)
set_option maxRecDepth 20000 in
theorem wsL_i10 : ∀ w ∈ wsL_law_r10, w ∈ lw_tbl := mem_pl _ [287, 288, 290, 3, 291, 292, 294, 4, 295, 582, 583, 584, 585, 586, 587, 588, 589, 591, 16, 592, 593, 595, 17, 596] (by decide +kernel)
set_option maxRecDepth 20000 in
theorem wsL_i11 : ∀ w ∈ wsL_law_r11, w ∈ lw_tbl := mem_pl _ [296, 297, 298, 299, 300, 301, 597, 598, 599, 600, 302, 303, 304, 305, 306, 307, 308, 309, 312, 310, 313, 314, 315, 176] (by decide +kernel)
set_option maxRecDepth 20000 in
theorem wsL_i12 : ∀ w ∈ wsL_law_r12, w ∈ lw_tbl := mem_pl _ [316, 317, 680, 167, 318, 319, 177, 320, 321, 160, 310, 329, 175, 330, 324, 325, 326, 331, 332, 333, 334, 335, 327, 328] (by decide +kernel)
set_option maxRecDepth 20000 in
theorem wsL_i13 : ∀ w ∈ wsL_law_r13, w ∈ lw_tbl := mem_pl _ [309, 311, 601, 602, 603, 604, 517, 605, 606, 607, 609, 18, 610, 336, 337, 338, 339, 340, 342, 5, 343, 344, 346, 6] (by decide +kernel)
set_option maxRecDepth 20000 in
theorem wsL_i14 : ∀ w ∈ wsL_law_r14, w ∈ lw_tbl := mem_pl _ [347, 348, 349, 350, 351, 93, 94, 98, 99, 84, 85, 352, 353, 355, 356, 357, 359, 360, 361, 362, 364, 365, 363, 367] (by decide +kernel)
set_option maxRecDepth 20000 in
theorem wsL_i15 : ∀ w ∈ wsL_law_r15, w ∈ lw_tbl := mem_pl _ [368, 681, 0, 370, 371, 1, 372, 374, 375, 376, 377, 104, 105, 62, 378, 380, 7, 381, 57, 382, 384, 8, 385, 386] (by decide +kernel)
set_option maxRecDepth 20000 in
theorem wsL_i16 : ∀ w ∈ wsL_law_r16, w ∈ lw_tbl := mem_pl _ [387, 389, 390, 391, 392, 393, 394, 106, 107, 60, 82, 83, 395, 396, 397, 366, 398, 399, 400, 401, 90, 91, 402, 403] (by decide +kernel)
set_option maxRecDepth 20000 in
theorem wsL_i17 : ∀ w ∈ wsL_law_r17, w ∈ lw_tbl := mem_pl _ [682, 404, 405, 406, 407, 408, 410, 9, 411, 87, 88, 412, 414, 10, 415, 416, 418, 11, 419, 611, 612, 613, 614, 623] (by decide +kernel)
set_option maxRecDepth 20000 in
theorem wsL_i18 : ∀ w ∈ wsL_law_r18, w ∈ lw_tbl := mem_pl _ [615, 617, 19, 618, 619, 621, 20, 622, 624, 626, 21, 627, 628, 630, 22, 631, 420, 421, 422, 423, 102, 424, 425, 427] (by decide +kernel)
set_option maxRecDepth 20000 in
theorem wsL_i19 : ∀ w ∈ wsL_law_r19, w ∈ lw_tbl := mem_pl _ [428, 429, 430, 431, 432, 433, 434, 435, 632, 633, 634, 635, 436, 437, 438, 439, 440, 441, 443, 444, 445, 636, 637, 638] (by decide +kernel)
set_option maxRecDepth 20000 in
theorem wsL_i20 : ∀ w ∈ wsL_law_r20, w ∈ lw_tbl := mem_pl _ [639, 446, 447, 448, 449, 450, 451, 452, 453, 454, 455, 456, 457, 458, 459, 460, 58, 640, 641, 642, 643, 644, 646, 23] (by decide +kernel)
set_option maxRecDepth 20000 in
theorem wsL_i21 : ∀ w ∈ wsL_law_r21, w ∈ lw_tbl := mem_pl _ [647, 648, 650, 24, 651, 652, 654, 25, 655, 461, 462, 463, 464, 465, 466, 467, 468, 469, 470, 471, 472, 473, 474, 475] (by decide +kernel)
set_option maxRecDepth 20000 in
theorem wsL_i22 : ∀ w ∈ wsL_law_r22, w ∈ lw_tbl := mem_pl _ [476, 41, 477, 95, 96, 100, 101, 478, 479, 480, 481, 656, 657, 658, 659, 660, 662, 26, 663, 664, 666, 27, 667, 482] (by decide +kernel)
set_option maxRecDepth 20000 in
theorem wsL_i23 : ∀ w ∈ wsL_law_r23, w ∈ lw_tbl := mem_pl _ [483, 484, 485, 486, 487, 488, 489, 490, 491, 492, 493, 494, 683, 495, 496, 497, 668, 669, 670, 671, 498, 499, 500, 501] (by decide +kernel)
set_option maxRecDepth 20000 in
theorem wsL_i24 : ∀ w ∈ wsL_law_r24, w ∈ lw_tbl := mem_pl _ [672, 673, 674, 675, 502, 503, 504, 505, 178, 676, 677, 678, 679] (by decide +kernel)
set_option maxRecDepth 20000 in
theorem inX8 : ∀ w ∈ wsX80, w ∈ lw_tbl := by decide +kernel
set_option maxRecDepth 20000 in
theorem inX9 : ∀ w ∈ wsX90, w ∈ lw_tbl := by decide +kernel
set_option maxRecDepth 20000 in
theorem inX3 : ∀ w ∈ wsX30, w ∈ lw_tbl := by decide +kernel
set_option maxRecDepth 20000 in
theorem inX2 : ∀ w ∈ wsX20, w ∈ lw_tbl := by decide +kernel
set_option maxRecDepth 20000 in
theorem inX4 : ∀ w ∈ wsX40, w ∈ lw_tbl := by decide +kernel
set_option maxRecDepth 20000 in
theorem inX6 : ∀ w ∈ wsX60, w ∈ lw_tbl := by decide +kernel
set_option maxRecDepth 20000 in
theorem inX1 : ∀ w ∈ wsX10, w ∈ lw_tbl := by decide +kernel
set_option maxRecDepth 20000 in
theorem inX0 : ∀ w ∈ wsX00, w ∈ lw_tbl := by decide +kernel
set_option maxRecDepth 20000 in
theorem inX7 : ∀ w ∈ wsX70, w ∈ lw_tbl := by decide +kernel
theorem app_in {big a b : List Cond} (ha : ∀ w ∈ a, w ∈ big) (hb : ∀ w ∈ b, w ∈ big) : ∀ w ∈ a ++ b, w ∈ big := fun w h => (List.mem_append.mp h).elim (ha w) (hb w)
theorem wsL_law_in : ∀ w ∈ wsL_law, w ∈ lw_tbl := app_in (app_in (app_in (app_in (app_in (app_in (app_in (app_in (app_in (app_in (app_in wsL_i1 (app_in wsL_i2 (app_in wsL_i3 (app_in wsL_i4 (app_in wsL_i5 (app_in wsL_i6 (app_in wsL_i7 (app_in wsL_i8 (app_in wsL_i9 (app_in wsL_i10 (app_in wsL_i11 (app_in wsL_i12 (app_in wsL_i13 (app_in wsL_i14 (app_in wsL_i15 (app_in wsL_i16 (app_in wsL_i17 (app_in wsL_i18 (app_in wsL_i19 (app_in wsL_i20 (app_in wsL_i21 (app_in wsL_i22 (app_in wsL_i23 wsL_i24))))))))))))))))))))))) inX8) inX9) inX3) inX2) inX4) inX6) inX1) inX0) inX7) (fun w h => absurd h List.not_mem_nil)
end
section
set_option maxRecDepth 20000 in
theorem ggX0_init_X1_init : GoodIn wsX0_init wsX1_init := goodIn_r _ [3, 4, 5, 6, 7, 8, 9] (by decide +kernel) (by decide +kernel)
set_option maxRecDepth 20000 in
theorem gX0_init_X1_init_n3 : GoodIn wsX0_init (wsX1_init) := ggX0_init_X1_init
theorem dX0_init_0 : decode cX0_init 0 = .ok (.aload_n 0, 1) := by decide +kernel
theorem dX0_init_1 : decode cX0_init 1 = .ok (.invokespecial 3, 3) := by decide +kernel
theorem dX0_init_4 : decode cX0_init 4 = .ok (.return_, 1) := by decide +kernel
set_option maxRecDepth 20000 in
theorem ggX0_weigh_X1_weigh : GoodIn wsX0_weigh wsX1_weigh := goodIn_r _ [8, 9, 10, 11, 12, 13, 14, 15, 16, 17, 18, 19, 20, 21, 22, 23, 24, 25, 26, 27, 28, 29, 30, 31, 32, 33, 34, 35, 36, 37, 38, 39, 40, 41, 42, 44, 45, 46] (by decide +kernel) (by decide +kernel)
set_option maxRecDepth 20000 in
theorem gX0_weigh_X1_weigh_s17 : GoodIn wsX0_weigh (va_wsSU RX0 17 yX1_weigh wsX1_weigh) := goodIn_app (goodIn_of _ (by decide +kernel)) ggX0_weigh_X1_weigh
set_option maxRecDepth 20000 in
theorem ggX0_weigh_J6_bitCount_0f7a4 : GoodIn wsX0_weigh wsJ6_bitCount_0f7a4 := goodIn_r _ [24, 25, 26, 27] (by decide +kernel) (by decide +kernel)
set_option maxRecDepth 20000 in
theorem gX0_weigh_J6_bitCount_0f7a4 : GoodIn wsX0_weigh (va_wsS RX0 21 yJ6_bitCount_0f7a4 wsJ6_bitCount_0f7a4) := goodIn_app (goodIn_of _ (by decide +kernel)) ggX0_weigh_J6_bitCount_0f7a4
theorem dX0_weigh_0 : decode cX0_weigh 0 = .ok (.aload 4, 2) := by decide +kernel
theorem dX0_weigh_2 : decode cX0_weigh 2 = .ok (.dup, 1) := by decide +kernel
theorem dX0_weigh_3 : decode cX0_weigh 3 = .ok (.getfield 9, 3) := by decide +kernel
theorem dX0_weigh_6 : decode cX0_weigh 6 = .ok (.ldc2_w 15, 3) := by decide +kernel
theorem dX0_weigh_9 : decode cX0_weigh 9 = .ok (.ladd, 1) := by decide +kernel
theorem dX0_weigh_10 : decode cX0_weigh 10 = .ok (.putfield 9, 3) := by decide +kernel
theorem dX0_weigh_13 : decode cX0_weigh 13 = .ok (.aload_n 0, 1) := by decide +kernel
theorem dX0_weigh_14 : decode cX0_weigh 14 = .ok (.aload_n 1, 1) := by decide +kernel
theorem dX0_weigh_15 : decode cX0_weigh 15 = .ok (.iload_n 2, 1) := by decide +kernel
theorem dX0_weigh_16 : decode cX0_weigh 16 = .ok (.iload_n 3, 1) := by decide +kernel
theorem dX0_weigh_17 : decode cX0_weigh 17 = .ok (.aload 4, 2) := by decide +kernel
theorem dX0_weigh_19 : decode cX0_weigh 19 = .ok (.invokespecial 17, 3) := by decide +kernel
theorem dX0_weigh_22 : decode cX0_weigh 22 = .ok (.istore 5, 2) := by decide +kernel
theorem dX0_weigh_24 : decode cX0_weigh 24 = .ok (.iload 5, 2) := by decide +kernel
theorem dX0_weigh_26 : decode cX0_weigh 26 = .ok (.ifCond .eq 6, 3) := by decide +kernel
theorem dX0_weigh_29 : decode cX0_weigh 29 = .ok (.iload 5, 2) := by decide +kernel
theorem dX0_weigh_31 : decode cX0_weigh 31 = .ok (.ireturn, 1) := by decide +kernel
theorem dX0_weigh_32 : decode cX0_weigh 32 = .ok (.iload_n 2, 1) := by decide +kernel
theorem dX0_weigh_33 : decode cX0_weigh 33 = .ok (.invokestatic 21, 3) := by decide +kernel
theorem dX0_weigh_36 : decode cX0_weigh 36 = .ok (.iload_n 3, 1) := by decide +kernel
theorem dX0_weigh_37 : decode cX0_weigh 37 = .ok (.invokestatic 21, 3) := by decide +kernel
theorem dX0_weigh_40 : decode cX0_weigh 40 = .ok (.iadd, 1) := by decide +kernel
theorem dX0_weigh_41 : decode cX0_weigh 41 = .ok (.iconst 1, 1) := by decide +kernel
theorem dX0_weigh_42 : decode cX0_weigh 42 = .ok (.if_icmp .ne 7, 3) := by decide +kernel
theorem dX0_weigh_45 : decode cX0_weigh 45 = .ok (.iconst 3, 1) := by decide +kernel
theorem dX0_weigh_46 : decode cX0_weigh 46 = .ok (.goto 4, 3) := by decide +kernel
theorem dX0_weigh_49 : decode cX0_weigh 49 = .ok (.iconst 0, 1) := by decide +kernel
theorem dX0_weigh_50 : decode cX0_weigh 50 = .ok (.ireturn, 1) := by decide +kernel
set_option maxRecDepth 20000 in
theorem ggX1_init_X6_init : GoodIn wsX1_init wsX6_init := goodIn_r _ [3, 4, 5, 6] (by decide +kernel) (by decide +kernel)
set_option maxRecDepth 20000 in
theorem gX1_init_X6_init_n3 : GoodIn wsX1_init (wsX6_init) := ggX1_init_X6_init
theorem dX1_init_0 : decode cX1_init 0 = .ok (.aload_n 0, 1) := by decide +kernel
theorem dX1_init_1 : decode cX1_init 1 = .ok (.invokespecial 3, 3) := by decide +kernel
theorem dX1_init_4 : decode cX1_init 4 = .ok (.return_, 1) := by decide +kernel
set_option maxRecDepth 20000 in
theorem ggX1_weigh_X6_weigh : GoodIn wsX1_weigh wsX6_weigh := goodIn_r _ [8, 9, 10, 11, 7, 12, 13, 14, 15, 16, 17, 18, 19, 20, 21, 22, 23, 24, 25, 26, 27, 28, 29, 30, 31, 32, 33, 34, 35, 36, 37] (by decide +kernel) (by decide +kernel)
set_option maxRecDepth 20000 in
theorem gX1_weigh_X6_weigh_s17 : GoodIn wsX1_weigh (va_wsSU RX1 17 yX6_weigh wsX6_weigh) := goodIn_app (goodIn_of _ (by decide +kernel)) ggX1_weigh_X6_weigh
theorem dX1_weigh_0 : decode cX1_weigh 0 = .ok (.aload 4, 2) := by decide +kernel
theorem dX1_weigh_2 : decode cX1_weigh 2 = .ok (.dup, 1) := by decide +kernel
theorem dX1_weigh_3 : decode cX1_weigh 3 = .ok (.getfield 9, 3) := by decide +kernel
theorem dX1_weigh_6 : decode cX1_weigh 6 = .ok (.ldc2_w 15, 3) := by decide +kernel
theorem dX1_weigh_9 : decode cX1_weigh 9 = .ok (.ladd, 1) := by decide +kernel
theorem dX1_weigh_10 : decode cX1_weigh 10 = .ok (.putfield 9, 3) := by decide +kernel
theorem dX1_weigh_13 : decode cX1_weigh 13 = .ok (.aload_n 0, 1) := by decide +kernel
theorem dX1_weigh_14 : decode cX1_weigh 14 = .ok (.aload_n 1, 1) := by decide +kernel
theorem dX1_weigh_15 : decode cX1_weigh 15 = .ok (.iload_n 2, 1) := by decide +kernel
theorem dX1_weigh_16 : decode cX1_weigh 16 = .ok (.iload_n 3, 1) := by decide +kernel
theorem dX1_weigh_17 : decode cX1_weigh 17 = .ok (.aload 4, 2) := by decide +kernel
theorem dX1_weigh_19 : decode cX1_weigh 19 = .ok (.invokespecial 17, 3) := by decide +kernel
theorem dX1_weigh_22 : decode cX1_weigh 22 = .ok (.istore 5, 2) := by decide +kernel
theorem dX1_weigh_24 : decode cX1_weigh 24 = .ok (.iload 5, 2) := by decide +kernel
theorem dX1_weigh_26 : decode cX1_weigh 26 = .ok (.ifCond .eq 6, 3) := by decide +kernel
theorem dX1_weigh_29 : decode cX1_weigh 29 = .ok (.iload 5, 2) := by decide +kernel
theorem dX1_weigh_31 : decode cX1_weigh 31 = .ok (.ireturn, 1) := by decide +kernel
theorem dX1_weigh_32 : decode cX1_weigh 32 = .ok (.iload_n 2, 1) := by decide +kernel
theorem dX1_weigh_33 : decode cX1_weigh 33 = .ok (.iload_n 3, 1) := by decide +kernel
theorem dX1_weigh_34 : decode cX1_weigh 34 = .ok (.invokestatic 21, 3) := by decide +kernel
theorem dX1_weigh_37 : decode cX1_weigh 37 = .ok (.ifCond .eq 7, 3) := by decide +kernel
theorem dX1_weigh_40 : decode cX1_weigh 40 = .ok (.iconst 2, 1) := by decide +kernel
theorem dX1_weigh_41 : decode cX1_weigh 41 = .ok (.goto 4, 3) := by decide +kernel
theorem dX1_weigh_44 : decode cX1_weigh 44 = .ok (.iconst 0, 1) := by decide +kernel
theorem dX1_weigh_45 : decode cX1_weigh 45 = .ok (.ireturn, 1) := by decide +kernel
set_option maxRecDepth 20000 in
theorem ggX2_init_X5_init : GoodIn wsX2_init wsX5_init := goodIn_r _ [8, 9, 10, 11, 12, 13, 14, 1, 15, 16, 17, 18, 19, 20, 21, 22, 23, 24, 25, 26, 27, 28, 29, 30, 31, 32, 33, 34] (by decide +kernel) (by decide +kernel)
set_option maxRecDepth 20000 in
theorem gX2_init_X5_init : GoodIn wsX2_init (wsX5_init) := ggX2_init_X5_init
theorem dX2_init_0 : decode cX2_init 0 = .ok (.aload_n 0, 1) := by decide +kernel
theorem dX2_init_1 : decode cX2_init 1 = .ok (.sipush 512, 3) := by decide +kernel
theorem dX2_init_4 : decode cX2_init 4 = .ok (.bipush 81, 2) := by decide +kernel
theorem dX2_init_6 : decode cX2_init 6 = .ok (.invokespecial 5, 3) := by decide +kernel
theorem dX2_init_9 : decode cX2_init 9 = .ok (.aload_n 0, 1) := by decide +kernel
theorem dX2_init_10 : decode cX2_init 10 = .ok (.bipush 81, 2) := by decide +kernel
theorem dX2_init_12 : decode cX2_init 12 = .ok (.newarray .int, 2) := by decide +kernel
theorem dX2_init_14 : decode cX2_init 14 = .ok (.putfield 11, 3) := by decide +kernel
theorem dX2_init_17 : decode cX2_init 17 = .ok (.aload_n 0, 1) := by decide +kernel
theorem dX2_init_18 : decode cX2_init 18 = .ok (.iconst 0, 1) := by decide +kernel
theorem dX2_init_19 : decode cX2_init 19 = .ok (.putfield 15, 3) := by decide +kernel
theorem dX2_init_22 : decode cX2_init 22 = .ok (.aload_n 0, 1) := by decide +kernel
theorem dX2_init_23 : decode cX2_init 23 = .ok (.aload_n 1, 1) := by decide +kernel
theorem dX2_init_24 : decode cX2_init 24 = .ok (.putfield 19, 3) := by decide +kernel
theorem dX2_init_27 : decode cX2_init 27 = .ok (.return_, 1) := by decide +kernel
set_option maxRecDepth 20000 in
theorem ggX2_begin_X3_all : GoodIn wsX2_begin wsX3_all := goodIn_r _ [13, 14, 56, 57] (by decide +kernel) (by decide +kernel)
set_option maxRecDepth 20000 in
theorem gX2_begin_X3_all : GoodIn wsX2_begin (wsV RX2 23 RX3 yX3_all wsX3_all) := goodIn_app (goodIn_of _ (by decide +kernel)) ggX2_begin_X3_all
set_option maxRecDepth 20000 in
theorem ggX2_begin_J6_bitCount_0f7a4 : GoodIn wsX2_begin wsJ6_bitCount_0f7a4 := goodIn_r _ [18, 19, 20, 21] (by decide +kernel) (by decide +kernel)
set_option maxRecDepth 20000 in
theorem gX2_begin_J6_bitCount_0f7a4 : GoodIn wsX2_begin (va_wsS RX2 35 yJ6_bitCount_0f7a4 wsJ6_bitCount_0f7a4) := goodIn_app (goodIn_of _ (by decide +kernel)) ggX2_begin_J6_bitCount_0f7a4
set_option maxRecDepth 20000 in
theorem ggX2_begin_X8_isWithin : GoodIn wsX2_begin wsX8_isWithin := goodIn_r _ [24] (by decide +kernel) (by decide +kernel)
set_option maxRecDepth 20000 in
theorem gX2_begin_X8_isWithin_n41 : GoodIn wsX2_begin (wsX8_isWithin) := ggX2_begin_X8_isWithin
set_option maxRecDepth 20000 in
theorem ggX2_begin_X3_isLawful : GoodIn wsX2_begin wsX3_isLawful := goodIn_r _ [28, 29, 30, 31, 12, 32, 14, 33, 34, 10, 11, 13, 35, 36, 37, 38, 56, 57] (by decide +kernel) (by decide +kernel)
set_option maxRecDepth 20000 in
theorem gX2_begin_X3_isLawful : GoodIn wsX2_begin (wsV RX2 48 RX3 yX3_isLawful wsX3_isLawful) := goodIn_app (goodIn_of _ (by decide +kernel)) ggX2_begin_X3_isLawful
theorem dX2_begin_0 : decode cX2_begin 0 = .ok (.aload_n 0, 1) := by decide +kernel
theorem dX2_begin_1 : decode cX2_begin 1 = .ok (.iload_n 2, 1) := by decide +kernel
theorem dX2_begin_2 : decode cX2_begin 2 = .ok (.putfield 15, 3) := by decide +kernel
theorem dX2_begin_5 : decode cX2_begin 5 = .ok (.aload_n 0, 1) := by decide +kernel
theorem dX2_begin_6 : decode cX2_begin 6 = .ok (.aload_n 0, 1) := by decide +kernel
theorem dX2_begin_7 : decode cX2_begin 7 = .ok (.getfield 19, 3) := by decide +kernel
theorem dX2_begin_10 : decode cX2_begin 10 = .ok (.invokevirtual 23, 3) := by decide +kernel
theorem dX2_begin_13 : decode cX2_begin 13 = .ok (.iconst 1, 1) := by decide +kernel
theorem dX2_begin_14 : decode cX2_begin 14 = .ok (.iadd, 1) := by decide +kernel
theorem dX2_begin_15 : decode cX2_begin 15 = .ok (.putfield 29, 3) := by decide +kernel
theorem dX2_begin_18 : decode cX2_begin 18 = .ok (.aload_n 0, 1) := by decide +kernel
theorem dX2_begin_19 : decode cX2_begin 19 = .ok (.iconst 0, 1) := by decide +kernel
theorem dX2_begin_20 : decode cX2_begin 20 = .ok (.putfield 32, 3) := by decide +kernel
theorem dX2_begin_23 : decode cX2_begin 23 = .ok (.iconst 0, 1) := by decide +kernel
theorem dX2_begin_24 : decode cX2_begin 24 = .ok (.istore 5, 2) := by decide +kernel
theorem dX2_begin_26 : decode cX2_begin 26 = .ok (.iload 5, 2) := by decide +kernel
theorem dX2_begin_28 : decode cX2_begin 28 = .ok (.aload_n 0, 1) := by decide +kernel
theorem dX2_begin_29 : decode cX2_begin 29 = .ok (.getfield 29, 3) := by decide +kernel
theorem dX2_begin_32 : decode cX2_begin 32 = .ok (.if_icmp .ge 53, 3) := by decide +kernel
theorem dX2_begin_35 : decode cX2_begin 35 = .ok (.iload 5, 2) := by decide +kernel
theorem dX2_begin_37 : decode cX2_begin 37 = .ok (.invokestatic 35, 3) := by decide +kernel
theorem dX2_begin_40 : decode cX2_begin 40 = .ok (.iload_n 3, 1) := by decide +kernel
theorem dX2_begin_41 : decode cX2_begin 41 = .ok (.iload 4, 2) := by decide +kernel
theorem dX2_begin_43 : decode cX2_begin 43 = .ok (.invokestatic 41, 3) := by decide +kernel
theorem dX2_begin_46 : decode cX2_begin 46 = .ok (.istore 6, 2) := by decide +kernel
theorem dX2_begin_48 : decode cX2_begin 48 = .ok (.aload_n 0, 1) := by decide +kernel
theorem dX2_begin_49 : decode cX2_begin 49 = .ok (.getfield 45, 3) := by decide +kernel
theorem dX2_begin_52 : decode cX2_begin 52 = .ok (.iload 5, 2) := by decide +kernel
theorem dX2_begin_54 : decode cX2_begin 54 = .ok (.iload 6, 2) := by decide +kernel
theorem dX2_begin_56 : decode cX2_begin 56 = .ok (.ifCond .eq 20, 3) := by decide +kernel
theorem dX2_begin_59 : decode cX2_begin 59 = .ok (.aload_n 0, 1) := by decide +kernel
theorem dX2_begin_60 : decode cX2_begin 60 = .ok (.getfield 19, 3) := by decide +kernel
theorem dX2_begin_63 : decode cX2_begin 63 = .ok (.iload_n 1, 1) := by decide +kernel
theorem dX2_begin_64 : decode cX2_begin 64 = .ok (.iload 5, 2) := by decide +kernel
theorem dX2_begin_66 : decode cX2_begin 66 = .ok (.invokevirtual 48, 3) := by decide +kernel
theorem dX2_begin_69 : decode cX2_begin 69 = .ok (.ifCond .eq 7, 3) := by decide +kernel
theorem dX2_begin_72 : decode cX2_begin 72 = .ok (.iconst (-1), 1) := by decide +kernel
theorem dX2_begin_73 : decode cX2_begin 73 = .ok (.goto 5, 3) := by decide +kernel
theorem dX2_begin_76 : decode cX2_begin 76 = .ok (.bipush (-2), 2) := by decide +kernel
theorem dX2_begin_78 : decode cX2_begin 78 = .ok (.iastore, 1) := by decide +kernel
theorem dX2_begin_79 : decode cX2_begin 79 = .ok (.iinc 5 1, 3) := by decide +kernel
theorem dX2_begin_82 : decode cX2_begin 82 = .ok (.goto (-56), 3) := by decide +kernel
theorem dX2_begin_85 : decode cX2_begin 85 = .ok (.return_, 1) := by decide +kernel
set_option maxRecDepth 20000 in
theorem ggX2_gather_X2_gatherSwaps : GoodIn wsX2_gather wsX2_gatherSwaps := goodIn_r _ [10, 3, 11, 5, 4, 12, 13, 14, 15, 16, 17, 18, 19, 20, 9, 21, 22, 23, 1, 2, 24, 25, 26, 27, 28, 29, 30, 31, 32, 33, 34, 35, 36, 37, 38, 39, 40, 41, 50, 51, 42, 43, 44, 45, 46, 47, 48, 49] (by decide +kernel) (by decide +kernel)
set_option maxRecDepth 20000 in
theorem gX2_gather_X2_gatherSwaps : GoodIn wsX2_gather (wsV RX2 58 RX2 yX2_gatherSwaps wsX2_gatherSwaps) := goodIn_app (goodIn_of _ (by decide +kernel)) ggX2_gather_X2_gatherSwaps
set_option maxRecDepth 20000 in
theorem ggX2_gather_X2_offer : GoodIn wsX2_gather wsX2_offer := goodIn_r _ [21, 22, 23, 1, 2, 24, 25, 26, 27, 28, 29, 30, 31, 32, 33, 34, 35, 36, 37, 38, 39, 40, 41, 42, 43, 44, 45, 46, 47, 48, 49] (by decide +kernel) (by decide +kernel)
set_option maxRecDepth 20000 in
theorem gX2_gather_X2_offer : GoodIn wsX2_gather (wsV RX2 61 RX2 yX2_offer wsX2_offer) := goodIn_app (goodIn_of _ (by decide +kernel)) ggX2_gather_X2_offer
theorem dX2_gather_0 : decode cX2_gather 0 = .ok (.aload_n 0, 1) := by decide +kernel
theorem dX2_gather_1 : decode cX2_gather 1 = .ok (.iconst 0, 1) := by decide +kernel
theorem dX2_gather_2 : decode cX2_gather 2 = .ok (.putfield 52, 3) := by decide +kernel
theorem dX2_gather_5 : decode cX2_gather 5 = .ok (.iconst 0, 1) := by decide +kernel
theorem dX2_gather_6 : decode cX2_gather 6 = .ok (.istore_n 2, 1) := by decide +kernel
theorem dX2_gather_7 : decode cX2_gather 7 = .ok (.iload_n 2, 1) := by decide +kernel
theorem dX2_gather_8 : decode cX2_gather 8 = .ok (.aload_n 0, 1) := by decide +kernel
theorem dX2_gather_9 : decode cX2_gather 9 = .ok (.getfield 19, 3) := by decide +kernel
theorem dX2_gather_12 : decode cX2_gather 12 = .ok (.getfield 55, 3) := by decide +kernel
theorem dX2_gather_15 : decode cX2_gather 15 = .ok (.if_icmp .ge 24, 3) := by decide +kernel
theorem dX2_gather_18 : decode cX2_gather 18 = .ok (.iload_n 1, 1) := by decide +kernel
theorem dX2_gather_19 : decode cX2_gather 19 = .ok (.iload_n 2, 1) := by decide +kernel
theorem dX2_gather_20 : decode cX2_gather 20 = .ok (.ishr, 1) := by decide +kernel
theorem dX2_gather_21 : decode cX2_gather 21 = .ok (.iconst 1, 1) := by decide +kernel
theorem dX2_gather_22 : decode cX2_gather 22 = .ok (.iand, 1) := by decide +kernel
theorem dX2_gather_23 : decode cX2_gather 23 = .ok (.iconst 1, 1) := by decide +kernel
theorem dX2_gather_24 : decode cX2_gather 24 = .ok (.if_icmp .ne 9, 3) := by decide +kernel
theorem dX2_gather_27 : decode cX2_gather 27 = .ok (.aload_n 0, 1) := by decide +kernel
theorem dX2_gather_28 : decode cX2_gather 28 = .ok (.iload_n 1, 1) := by decide +kernel
theorem dX2_gather_29 : decode cX2_gather 29 = .ok (.iload_n 2, 1) := by decide +kernel
theorem dX2_gather_30 : decode cX2_gather 30 = .ok (.invokevirtual 58, 3) := by decide +kernel
theorem dX2_gather_33 : decode cX2_gather 33 = .ok (.iinc 2 1, 3) := by decide +kernel
theorem dX2_gather_36 : decode cX2_gather 36 = .ok (.goto (-29), 3) := by decide +kernel
theorem dX2_gather_39 : decode cX2_gather 39 = .ok (.aload_n 0, 1) := by decide +kernel
theorem dX2_gather_40 : decode cX2_gather 40 = .ok (.getfield 15, 3) := by decide +kernel
theorem dX2_gather_43 : decode cX2_gather 43 = .ok (.iconst 2, 1) := by decide +kernel
theorem dX2_gather_44 : decode cX2_gather 44 = .ok (.if_icmp .ne 32, 3) := by decide +kernel
theorem dX2_gather_47 : decode cX2_gather 47 = .ok (.iconst 0, 1) := by decide +kernel
theorem dX2_gather_48 : decode cX2_gather 48 = .ok (.istore_n 2, 1) := by decide +kernel
theorem dX2_gather_49 : decode cX2_gather 49 = .ok (.iload_n 2, 1) := by decide +kernel
theorem dX2_gather_50 : decode cX2_gather 50 = .ok (.aload_n 0, 1) := by decide +kernel
theorem dX2_gather_51 : decode cX2_gather 51 = .ok (.getfield 19, 3) := by decide +kernel
theorem dX2_gather_54 : decode cX2_gather 54 = .ok (.getfield 55, 3) := by decide +kernel
theorem dX2_gather_57 : decode cX2_gather 57 = .ok (.if_icmp .ge 19, 3) := by decide +kernel
theorem dX2_gather_60 : decode cX2_gather 60 = .ok (.aload_n 0, 1) := by decide +kernel
theorem dX2_gather_61 : decode cX2_gather 61 = .ok (.iload_n 1, 1) := by decide +kernel
theorem dX2_gather_62 : decode cX2_gather 62 = .ok (.iconst 1, 1) := by decide +kernel
theorem dX2_gather_63 : decode cX2_gather 63 = .ok (.iload_n 2, 1) := by decide +kernel
theorem dX2_gather_64 : decode cX2_gather 64 = .ok (.ishl, 1) := by decide +kernel
theorem dX2_gather_65 : decode cX2_gather 65 = .ok (.ixor, 1) := by decide +kernel
theorem dX2_gather_66 : decode cX2_gather 66 = .ok (.iconst 3, 1) := by decide +kernel
theorem dX2_gather_67 : decode cX2_gather 67 = .ok (.invokevirtual 61, 3) := by decide +kernel
theorem dX2_gather_70 : decode cX2_gather 70 = .ok (.iinc 2 1, 3) := by decide +kernel
theorem dX2_gather_73 : decode cX2_gather 73 = .ok (.goto (-24), 3) := by decide +kernel
theorem dX2_gather_76 : decode cX2_gather 76 = .ok (.return_, 1) := by decide +kernel
set_option maxRecDepth 20000 in
theorem ggX2_gatherSwaps_X3_all : GoodIn wsX2_gatherSwaps wsX3_all := goodIn_r _ [9, 10, 38, 39] (by decide +kernel) (by decide +kernel)
set_option maxRecDepth 20000 in
theorem gX2_gatherSwaps_X3_all : GoodIn wsX2_gatherSwaps (wsV RX2 23 RX3 yX3_all wsX3_all) := goodIn_app (goodIn_of _ (by decide +kernel)) ggX2_gatherSwaps_X3_all
set_option maxRecDepth 20000 in
theorem ggX2_gatherSwaps_X2_offer : GoodIn wsX2_gatherSwaps wsX2_offer := goodIn_r _ [15, 16, 17, 18, 19, 20, 21, 22, 23, 24, 25, 26, 27, 28, 29, 30, 31, 32, 33, 34, 35, 36, 37, 40, 41, 42, 43, 44, 45, 46, 47] (by decide +kernel) (by decide +kernel)
set_option maxRecDepth 20000 in
theorem gX2_gatherSwaps_X2_offer : GoodIn wsX2_gatherSwaps (wsV RX2 61 RX2 yX2_offer wsX2_offer) := goodIn_app (goodIn_of _ (by decide +kernel)) ggX2_gatherSwaps_X2_offer
theorem dX2_gatherSwaps_0 : decode cX2_gatherSwaps 0 = .ok (.iload_n 1, 1) := by decide +kernel
theorem dX2_gatherSwaps_1 : decode cX2_gatherSwaps 1 = .ok (.iconst 1, 1) := by decide +kernel
theorem dX2_gatherSwaps_2 : decode cX2_gatherSwaps 2 = .ok (.iload_n 2, 1) := by decide +kernel
theorem dX2_gatherSwaps_3 : decode cX2_gatherSwaps 3 = .ok (.ishl, 1) := by decide +kernel
theorem dX2_gatherSwaps_4 : decode cX2_gatherSwaps 4 = .ok (.ixor, 1) := by decide +kernel
theorem dX2_gatherSwaps_5 : decode cX2_gatherSwaps 5 = .ok (.istore_n 3, 1) := by decide +kernel
theorem dX2_gatherSwaps_6 : decode cX2_gatherSwaps 6 = .ok (.aload_n 0, 1) := by decide +kernel
theorem dX2_gatherSwaps_7 : decode cX2_gatherSwaps 7 = .ok (.getfield 19, 3) := by decide +kernel
theorem dX2_gatherSwaps_10 : decode cX2_gatherSwaps 10 = .ok (.getfield 64, 3) := by decide +kernel
theorem dX2_gatherSwaps_13 : decode cX2_gatherSwaps 13 = .ok (.iload_n 2, 1) := by decide +kernel
theorem dX2_gatherSwaps_14 : decode cX2_gatherSwaps 14 = .ok (.iaload, 1) := by decide +kernel
theorem dX2_gatherSwaps_15 : decode cX2_gatherSwaps 15 = .ok (.istore 4, 2) := by decide +kernel
theorem dX2_gatherSwaps_17 : decode cX2_gatherSwaps 17 = .ok (.aload_n 0, 1) := by decide +kernel
theorem dX2_gatherSwaps_18 : decode cX2_gatherSwaps 18 = .ok (.getfield 15, 3) := by decide +kernel
theorem dX2_gatherSwaps_21 : decode cX2_gatherSwaps 21 = .ok (.ifCond .ne 12, 3) := by decide +kernel
theorem dX2_gatherSwaps_24 : decode cX2_gatherSwaps 24 = .ok (.iload 4, 2) := by decide +kernel
theorem dX2_gatherSwaps_26 : decode cX2_gatherSwaps 26 = .ok (.iload_n 1, 1) := by decide +kernel
theorem dX2_gatherSwaps_27 : decode cX2_gatherSwaps 27 = .ok (.iconst (-1), 1) := by decide +kernel
theorem dX2_gatherSwaps_28 : decode cX2_gatherSwaps 28 = .ok (.ixor, 1) := by decide +kernel
theorem dX2_gatherSwaps_29 : decode cX2_gatherSwaps 29 = .ok (.iand, 1) := by decide +kernel
theorem dX2_gatherSwaps_30 : decode cX2_gatherSwaps 30 = .ok (.goto 14, 3) := by decide +kernel
theorem dX2_gatherSwaps_33 : decode cX2_gatherSwaps 33 = .ok (.aload_n 0, 1) := by decide +kernel
theorem dX2_gatherSwaps_34 : decode cX2_gatherSwaps 34 = .ok (.getfield 19, 3) := by decide +kernel
theorem dX2_gatherSwaps_37 : decode cX2_gatherSwaps 37 = .ok (.invokevirtual 23, 3) := by decide +kernel
theorem dX2_gatherSwaps_40 : decode cX2_gatherSwaps 40 = .ok (.iload_n 1, 1) := by decide +kernel
theorem dX2_gatherSwaps_41 : decode cX2_gatherSwaps 41 = .ok (.iconst (-1), 1) := by decide +kernel
theorem dX2_gatherSwaps_42 : decode cX2_gatherSwaps 42 = .ok (.ixor, 1) := by decide +kernel
theorem dX2_gatherSwaps_43 : decode cX2_gatherSwaps 43 = .ok (.iand, 1) := by decide +kernel
theorem dX2_gatherSwaps_44 : decode cX2_gatherSwaps 44 = .ok (.istore 5, 2) := by decide +kernel
theorem dX2_gatherSwaps_46 : decode cX2_gatherSwaps 46 = .ok (.iconst 0, 1) := by decide +kernel
theorem dX2_gatherSwaps_47 : decode cX2_gatherSwaps 47 = .ok (.istore 6, 2) := by decide +kernel
theorem dX2_gatherSwaps_49 : decode cX2_gatherSwaps 49 = .ok (.iload 6, 2) := by decide +kernel
theorem dX2_gatherSwaps_51 : decode cX2_gatherSwaps 51 = .ok (.aload_n 0, 1) := by decide +kernel
theorem dX2_gatherSwaps_52 : decode cX2_gatherSwaps 52 = .ok (.getfield 19, 3) := by decide +kernel
theorem dX2_gatherSwaps_55 : decode cX2_gatherSwaps 55 = .ok (.getfield 55, 3) := by decide +kernel
theorem dX2_gatherSwaps_58 : decode cX2_gatherSwaps 58 = .ok (.if_icmp .ge 46, 3) := by decide +kernel
theorem dX2_gatherSwaps_61 : decode cX2_gatherSwaps 61 = .ok (.iload 5, 2) := by decide +kernel
theorem dX2_gatherSwaps_63 : decode cX2_gatherSwaps 63 = .ok (.iload 6, 2) := by decide +kernel
theorem dX2_gatherSwaps_65 : decode cX2_gatherSwaps 65 = .ok (.ishr, 1) := by decide +kernel
theorem dX2_gatherSwaps_66 : decode cX2_gatherSwaps 66 = .ok (.iconst 1, 1) := by decide +kernel
theorem dX2_gatherSwaps_67 : decode cX2_gatherSwaps 67 = .ok (.iand, 1) := by decide +kernel
theorem dX2_gatherSwaps_68 : decode cX2_gatherSwaps 68 = .ok (.iconst 1, 1) := by decide +kernel
theorem dX2_gatherSwaps_69 : decode cX2_gatherSwaps 69 = .ok (.if_icmp .ne 29, 3) := by decide +kernel
theorem dX2_gatherSwaps_72 : decode cX2_gatherSwaps 72 = .ok (.aload_n 0, 1) := by decide +kernel
theorem dX2_gatherSwaps_73 : decode cX2_gatherSwaps 73 = .ok (.iload_n 3, 1) := by decide +kernel
theorem dX2_gatherSwaps_74 : decode cX2_gatherSwaps 74 = .ok (.iconst 1, 1) := by decide +kernel
theorem dX2_gatherSwaps_75 : decode cX2_gatherSwaps 75 = .ok (.iload 6, 2) := by decide +kernel
theorem dX2_gatherSwaps_77 : decode cX2_gatherSwaps 77 = .ok (.ishl, 1) := by decide +kernel
theorem dX2_gatherSwaps_78 : decode cX2_gatherSwaps 78 = .ok (.ior, 1) := by decide +kernel
theorem dX2_gatherSwaps_79 : decode cX2_gatherSwaps 79 = .ok (.iload 4, 2) := by decide +kernel
theorem dX2_gatherSwaps_81 : decode cX2_gatherSwaps 81 = .ok (.iload 6, 2) := by decide +kernel
theorem dX2_gatherSwaps_83 : decode cX2_gatherSwaps 83 = .ok (.ishr, 1) := by decide +kernel
theorem dX2_gatherSwaps_84 : decode cX2_gatherSwaps 84 = .ok (.iconst 1, 1) := by decide +kernel
theorem dX2_gatherSwaps_85 : decode cX2_gatherSwaps 85 = .ok (.iand, 1) := by decide +kernel
theorem dX2_gatherSwaps_86 : decode cX2_gatherSwaps 86 = .ok (.iconst 1, 1) := by decide +kernel
theorem dX2_gatherSwaps_87 : decode cX2_gatherSwaps 87 = .ok (.if_icmp .ne 7, 3) := by decide +kernel
theorem dX2_gatherSwaps_90 : decode cX2_gatherSwaps 90 = .ok (.iconst 1, 1) := by decide +kernel
theorem dX2_gatherSwaps_91 : decode cX2_gatherSwaps 91 = .ok (.goto 4, 3) := by decide +kernel
theorem dX2_gatherSwaps_94 : decode cX2_gatherSwaps 94 = .ok (.iconst 2, 1) := by decide +kernel
theorem dX2_gatherSwaps_95 : decode cX2_gatherSwaps 95 = .ok (.invokevirtual 61, 3) := by decide +kernel
theorem dX2_gatherSwaps_98 : decode cX2_gatherSwaps 98 = .ok (.iinc 6 1, 3) := by decide +kernel
theorem dX2_gatherSwaps_101 : decode cX2_gatherSwaps 101 = .ok (.goto (-52), 3) := by decide +kernel
theorem dX2_gatherSwaps_104 : decode cX2_gatherSwaps 104 = .ok (.return_, 1) := by decide +kernel
set_option maxRecDepth 20000 in
theorem ggX2_offer_X5_note : GoodIn wsX2_offer wsX5_note := goodIn_r _ [11, 12, 13, 14, 15, 16, 17, 18, 19, 20, 21, 22, 23, 24, 25, 26, 27, 28, 29, 30] (by decide +kernel) (by decide +kernel)
set_option maxRecDepth 20000 in
theorem gX2_offer_X5_note_u67X2 : GoodIn wsX2_offer (va_wsU RX2 67 RX2 "SlidTokens$Search" ⟨"SlidTokens$Marks", "note", "(I)V"⟩ yX5_note wsX5_note) := goodIn_app (goodIn_of _ (by decide +kernel)) ggX2_offer_X5_note
theorem dX2_offer_0 : decode cX2_offer 0 = .ok (.aload_n 0, 1) := by decide +kernel
theorem dX2_offer_1 : decode cX2_offer 1 = .ok (.getfield 45, 3) := by decide +kernel
theorem dX2_offer_4 : decode cX2_offer 4 = .ok (.iload_n 1, 1) := by decide +kernel
theorem dX2_offer_5 : decode cX2_offer 5 = .ok (.iaload, 1) := by decide +kernel
theorem dX2_offer_6 : decode cX2_offer 6 = .ok (.bipush (-2), 2) := by decide +kernel
theorem dX2_offer_8 : decode cX2_offer 8 = .ok (.if_icmp .eq 30, 3) := by decide +kernel
theorem dX2_offer_11 : decode cX2_offer 11 = .ok (.aload_n 0, 1) := by decide +kernel
theorem dX2_offer_12 : decode cX2_offer 12 = .ok (.getfield 52, 3) := by decide +kernel
theorem dX2_offer_15 : decode cX2_offer 15 = .ok (.aload_n 0, 1) := by decide +kernel
theorem dX2_offer_16 : decode cX2_offer 16 = .ok (.getfield 11, 3) := by decide +kernel
theorem dX2_offer_19 : decode cX2_offer 19 = .ok (.arraylength, 1) := by decide +kernel
theorem dX2_offer_20 : decode cX2_offer 20 = .ok (.if_icmp .ge 18, 3) := by decide +kernel
theorem dX2_offer_23 : decode cX2_offer 23 = .ok (.aload_n 0, 1) := by decide +kernel
theorem dX2_offer_24 : decode cX2_offer 24 = .ok (.getfield 11, 3) := by decide +kernel
theorem dX2_offer_27 : decode cX2_offer 27 = .ok (.aload_n 0, 1) := by decide +kernel
theorem dX2_offer_28 : decode cX2_offer 28 = .ok (.getfield 52, 3) := by decide +kernel
theorem dX2_offer_31 : decode cX2_offer 31 = .ok (.iload_n 2, 1) := by decide +kernel
theorem dX2_offer_32 : decode cX2_offer 32 = .ok (.iastore, 1) := by decide +kernel
theorem dX2_offer_33 : decode cX2_offer 33 = .ok (.aload_n 0, 1) := by decide +kernel
theorem dX2_offer_34 : decode cX2_offer 34 = .ok (.iload_n 1, 1) := by decide +kernel
theorem dX2_offer_35 : decode cX2_offer 35 = .ok (.invokevirtual 67, 3) := by decide +kernel
theorem dX2_offer_38 : decode cX2_offer 38 = .ok (.return_, 1) := by decide +kernel
set_option maxRecDepth 20000 in
theorem ggX2_following_X5_fewest : GoodIn wsX2_following wsX5_fewest := goodIn_r _ [12, 13, 14, 15, 16, 17, 11, 18, 19, 20, 21, 22, 23, 24, 25, 26, 27, 28, 29, 30, 31, 32, 33, 34, 1, 2, 35, 36, 37, 38, 39, 40, 41, 42, 43, 44, 45, 46, 47, 48, 49, 50, 51, 52, 3, 4, 53, 54, 55, 56, 57, 58, 59, 60, 61, 62, 63, 64, 65, 66, 67, 68, 69, 70, 71, 72, 73, 76, 77, 78, 79, 80, 81, 82, 83, 84, 85, 86, 87, 88, 89, 90, 91, 92, 93, 94] (by decide +kernel) (by decide +kernel)
set_option maxRecDepth 20000 in
theorem gX2_following_X5_fewest_u71X2 : GoodIn wsX2_following (va_wsU RX2 71 RX2 "SlidTokens$Search" ⟨"SlidTokens$Marks", "fewest", "(II)I"⟩ yX5_fewest wsX5_fewest) := goodIn_app (goodIn_of _ (by decide +kernel)) ggX2_following_X5_fewest
set_option maxRecDepth 20000 in
theorem ggX2_following_X2_gather : GoodIn wsX2_following wsX2_gather := goodIn_r _ [34, 1, 2, 35, 36, 37, 38, 39, 40, 33, 41, 42, 43, 44, 45, 46, 47, 48, 49, 50, 51, 52, 3, 4, 53, 54, 55, 56, 57, 11, 58, 21, 22, 76, 77, 78, 79, 80, 81, 82, 83, 84, 85, 86, 87, 88, 89, 90, 91, 92, 93, 94] (by decide +kernel) (by decide +kernel)
set_option maxRecDepth 20000 in
theorem gX2_following_X2_gather : GoodIn wsX2_following (wsV RX2 75 RX2 yX2_gather wsX2_gather) := goodIn_app (goodIn_of _ (by decide +kernel)) ggX2_following_X2_gather
theorem dX2_following_0 : decode cX2_following 0 = .ok (.aload_n 0, 1) := by decide +kernel
theorem dX2_following_1 : decode cX2_following 1 = .ok (.iload_n 1, 1) := by decide +kernel
theorem dX2_following_2 : decode cX2_following 2 = .ok (.iload_n 2, 1) := by decide +kernel
theorem dX2_following_3 : decode cX2_following 3 = .ok (.invokevirtual 71, 3) := by decide +kernel
theorem dX2_following_6 : decode cX2_following 6 = .ok (.istore_n 3, 1) := by decide +kernel
theorem dX2_following_7 : decode cX2_following 7 = .ok (.iload_n 3, 1) := by decide +kernel
theorem dX2_following_8 : decode cX2_following 8 = .ok (.ifCond .gt 6, 3) := by decide +kernel
theorem dX2_following_11 : decode cX2_following 11 = .ok (.bipush (-9), 2) := by decide +kernel
theorem dX2_following_13 : decode cX2_following 13 = .ok (.ireturn, 1) := by decide +kernel
theorem dX2_following_14 : decode cX2_following 14 = .ok (.aload_n 0, 1) := by decide +kernel
theorem dX2_following_15 : decode cX2_following 15 = .ok (.iload_n 1, 1) := by decide +kernel
theorem dX2_following_16 : decode cX2_following 16 = .ok (.invokevirtual 75, 3) := by decide +kernel
theorem dX2_following_19 : decode cX2_following 19 = .ok (.bipush (-9), 2) := by decide +kernel
theorem dX2_following_21 : decode cX2_following 21 = .ok (.istore 4, 2) := by decide +kernel
theorem dX2_following_23 : decode cX2_following 23 = .ok (.iconst 0, 1) := by decide +kernel
theorem dX2_following_24 : decode cX2_following 24 = .ok (.istore 5, 2) := by decide +kernel
theorem dX2_following_26 : decode cX2_following 26 = .ok (.iload 5, 2) := by decide +kernel
theorem dX2_following_28 : decode cX2_following 28 = .ok (.aload_n 0, 1) := by decide +kernel
theorem dX2_following_29 : decode cX2_following 29 = .ok (.getfield 52, 3) := by decide +kernel
theorem dX2_following_32 : decode cX2_following 32 = .ok (.if_icmp .ge 55, 3) := by decide +kernel
theorem dX2_following_35 : decode cX2_following 35 = .ok (.aload_n 0, 1) := by decide +kernel
theorem dX2_following_36 : decode cX2_following 36 = .ok (.getfield 45, 3) := by decide +kernel
theorem dX2_following_39 : decode cX2_following 39 = .ok (.aload_n 0, 1) := by decide +kernel
theorem dX2_following_40 : decode cX2_following 40 = .ok (.getfield 78, 3) := by decide +kernel
theorem dX2_following_43 : decode cX2_following 43 = .ok (.iload 5, 2) := by decide +kernel
theorem dX2_following_45 : decode cX2_following 45 = .ok (.iaload, 1) := by decide +kernel
theorem dX2_following_46 : decode cX2_following 46 = .ok (.iaload, 1) := by decide +kernel
theorem dX2_following_47 : decode cX2_following 47 = .ok (.iload_n 3, 1) := by decide +kernel
theorem dX2_following_48 : decode cX2_following 48 = .ok (.iconst 1, 1) := by decide +kernel
theorem dX2_following_49 : decode cX2_following 49 = .ok (.isub, 1) := by decide +kernel
theorem dX2_following_50 : decode cX2_following 50 = .ok (.if_icmp .ne 31, 3) := by decide +kernel
theorem dX2_following_53 : decode cX2_following 53 = .ok (.iload 4, 2) := by decide +kernel
theorem dX2_following_55 : decode cX2_following 55 = .ok (.bipush (-9), 2) := by decide +kernel
theorem dX2_following_57 : decode cX2_following 57 = .ok (.if_icmp .eq 15, 3) := by decide +kernel
theorem dX2_following_60 : decode cX2_following 60 = .ok (.aload_n 0, 1) := by decide +kernel
theorem dX2_following_61 : decode cX2_following 61 = .ok (.getfield 78, 3) := by decide +kernel
theorem dX2_following_64 : decode cX2_following 64 = .ok (.iload 5, 2) := by decide +kernel
theorem dX2_following_66 : decode cX2_following 66 = .ok (.iaload, 1) := by decide +kernel
theorem dX2_following_67 : decode cX2_following 67 = .ok (.iload 4, 2) := by decide +kernel
theorem dX2_following_69 : decode cX2_following 69 = .ok (.if_icmp .ge 12, 3) := by decide +kernel
theorem dX2_following_72 : decode cX2_following 72 = .ok (.aload_n 0, 1) := by decide +kernel
theorem dX2_following_73 : decode cX2_following 73 = .ok (.getfield 78, 3) := by decide +kernel
theorem dX2_following_76 : decode cX2_following 76 = .ok (.iload 5, 2) := by decide +kernel
theorem dX2_following_78 : decode cX2_following 78 = .ok (.iaload, 1) := by decide +kernel
theorem dX2_following_79 : decode cX2_following 79 = .ok (.istore 4, 2) := by decide +kernel
theorem dX2_following_81 : decode cX2_following 81 = .ok (.iinc 5 1, 3) := by decide +kernel
theorem dX2_following_84 : decode cX2_following 84 = .ok (.goto (-58), 3) := by decide +kernel
theorem dX2_following_87 : decode cX2_following 87 = .ok (.iload 4, 2) := by decide +kernel
theorem dX2_following_89 : decode cX2_following 89 = .ok (.ireturn, 1) := by decide +kernel
set_option maxRecDepth 20000 in
theorem ggX2_lightest_X5_fewest : GoodIn wsX2_lightest wsX5_fewest := goodIn_r _ [8, 9, 10, 11, 12, 13, 7, 14, 15, 16, 17, 18, 19, 20, 21, 22, 23, 24, 25, 26, 27, 28, 29, 30, 31, 32, 33, 34, 35, 36, 37, 38, 39, 40, 41, 42, 43, 44, 45, 46, 47, 48, 49, 50, 1, 2, 51, 52, 53, 54, 55, 56, 57, 58, 59, 60, 61, 62, 63, 64, 65, 66, 67, 68, 69, 70, 71, 94, 95, 96, 97, 98, 99, 100, 101, 102, 103, 104, 105, 106, 107, 108, 109, 110, 111, 112] (by decide +kernel) (by decide +kernel)
set_option maxRecDepth 20000 in
theorem gX2_lightest_X5_fewest_u71X2 : GoodIn wsX2_lightest (va_wsU RX2 71 RX2 "SlidTokens$Search" ⟨"SlidTokens$Marks", "fewest", "(II)I"⟩ yX5_fewest wsX5_fewest) := goodIn_app (goodIn_of _ (by decide +kernel)) ggX2_lightest_X5_fewest
set_option maxRecDepth 20000 in
theorem ggX2_lightest_X2_forgetSpread : GoodIn wsX2_lightest wsX2_forgetSpread := goodIn_r _ [75, 76, 77, 1, 2, 78, 79, 94, 95, 96, 97, 98, 99, 100, 101, 102, 103, 104, 105, 106, 107, 108, 109, 110] (by decide +kernel) (by decide +kernel)
set_option maxRecDepth 20000 in
theorem gX2_lightest_X2_forgetSpread : GoodIn wsX2_lightest (wsV RX2 81 RX2 yX2_forgetSpread wsX2_forgetSpread) := goodIn_app (goodIn_of _ (by decide +kernel)) ggX2_lightest_X2_forgetSpread
set_option maxRecDepth 20000 in
theorem ggX2_lightest_X2_settle : GoodIn wsX2_lightest wsX2_settle := goodIn_r _ [83, 84, 85, 1, 2, 86, 28, 87, 29, 30, 31, 32, 33, 34, 35, 36, 37, 38, 39, 40, 41, 42, 43, 44, 45, 46, 47, 48, 49, 50, 51, 52, 53, 54, 55, 7, 56, 17, 18, 88, 89, 90, 91, 92, 93, 94, 95, 96, 97, 98, 99, 100, 101, 102, 103, 104, 105, 106, 107, 108, 109, 110, 111, 112] (by decide +kernel) (by decide +kernel)
set_option maxRecDepth 20000 in
theorem gX2_lightest_X2_settle : GoodIn wsX2_lightest (wsV RX2 85 RX2 yX2_settle wsX2_settle) := goodIn_app (goodIn_of _ (by decide +kernel)) ggX2_lightest_X2_settle
theorem dX2_lightest_0 : decode cX2_lightest 0 = .ok (.aload_n 0, 1) := by decide +kernel
theorem dX2_lightest_1 : decode cX2_lightest 1 = .ok (.iload_n 1, 1) := by decide +kernel
theorem dX2_lightest_2 : decode cX2_lightest 2 = .ok (.iload_n 2, 1) := by decide +kernel
theorem dX2_lightest_3 : decode cX2_lightest 3 = .ok (.invokevirtual 71, 3) := by decide +kernel
theorem dX2_lightest_6 : decode cX2_lightest 6 = .ok (.istore_n 3, 1) := by decide +kernel
theorem dX2_lightest_7 : decode cX2_lightest 7 = .ok (.iload_n 3, 1) := by decide +kernel
theorem dX2_lightest_8 : decode cX2_lightest 8 = .ok (.ifCond .gt 5, 3) := by decide +kernel
theorem dX2_lightest_11 : decode cX2_lightest 11 = .ok (.iload_n 3, 1) := by decide +kernel
theorem dX2_lightest_12 : decode cX2_lightest 12 = .ok (.ireturn, 1) := by decide +kernel
theorem dX2_lightest_13 : decode cX2_lightest 13 = .ok (.aload_n 0, 1) := by decide +kernel
theorem dX2_lightest_14 : decode cX2_lightest 14 = .ok (.invokevirtual 81, 3) := by decide +kernel
theorem dX2_lightest_17 : decode cX2_lightest 17 = .ok (.aload_n 0, 1) := by decide +kernel
theorem dX2_lightest_18 : decode cX2_lightest 18 = .ok (.getfield 45, 3) := by decide +kernel
theorem dX2_lightest_21 : decode cX2_lightest 21 = .ok (.iload_n 1, 1) := by decide +kernel
theorem dX2_lightest_22 : decode cX2_lightest 22 = .ok (.iconst 0, 1) := by decide +kernel
theorem dX2_lightest_23 : decode cX2_lightest 23 = .ok (.iastore, 1) := by decide +kernel
theorem dX2_lightest_24 : decode cX2_lightest 24 = .ok (.iconst 0, 1) := by decide +kernel
theorem dX2_lightest_25 : decode cX2_lightest 25 = .ok (.istore 4, 2) := by decide +kernel
theorem dX2_lightest_27 : decode cX2_lightest 27 = .ok (.iload 4, 2) := by decide +kernel
theorem dX2_lightest_29 : decode cX2_lightest 29 = .ok (.iload_n 3, 1) := by decide +kernel
theorem dX2_lightest_30 : decode cX2_lightest 30 = .ok (.iconst 3, 1) := by decide +kernel
theorem dX2_lightest_31 : decode cX2_lightest 31 = .ok (.imul, 1) := by decide +kernel
theorem dX2_lightest_32 : decode cX2_lightest 32 = .ok (.if_icmp .ge 26, 3) := by decide +kernel
theorem dX2_lightest_35 : decode cX2_lightest 35 = .ok (.aload_n 0, 1) := by decide +kernel
theorem dX2_lightest_36 : decode cX2_lightest 36 = .ok (.getfield 45, 3) := by decide +kernel
theorem dX2_lightest_39 : decode cX2_lightest 39 = .ok (.iload_n 2, 1) := by decide +kernel
theorem dX2_lightest_40 : decode cX2_lightest 40 = .ok (.iaload, 1) := by decide +kernel
theorem dX2_lightest_41 : decode cX2_lightest 41 = .ok (.iload 4, 2) := by decide +kernel
theorem dX2_lightest_43 : decode cX2_lightest 43 = .ok (.if_icmp .eq 15, 3) := by decide +kernel
theorem dX2_lightest_46 : decode cX2_lightest 46 = .ok (.aload_n 0, 1) := by decide +kernel
theorem dX2_lightest_47 : decode cX2_lightest 47 = .ok (.iload 4, 2) := by decide +kernel
theorem dX2_lightest_49 : decode cX2_lightest 49 = .ok (.invokevirtual 85, 3) := by decide +kernel
theorem dX2_lightest_52 : decode cX2_lightest 52 = .ok (.iinc 4 1, 3) := by decide +kernel
theorem dX2_lightest_55 : decode cX2_lightest 55 = .ok (.goto (-28), 3) := by decide +kernel
theorem dX2_lightest_58 : decode cX2_lightest 58 = .ok (.aload_n 0, 1) := by decide +kernel
theorem dX2_lightest_59 : decode cX2_lightest 59 = .ok (.getfield 45, 3) := by decide +kernel
theorem dX2_lightest_62 : decode cX2_lightest 62 = .ok (.iload_n 2, 1) := by decide +kernel
theorem dX2_lightest_63 : decode cX2_lightest 63 = .ok (.iaload, 1) := by decide +kernel
theorem dX2_lightest_64 : decode cX2_lightest 64 = .ok (.ireturn, 1) := by decide +kernel
theorem dX2_forgetSpread_0 : decode cX2_forgetSpread 0 = .ok (.iconst 0, 1) := by decide +kernel
theorem dX2_forgetSpread_1 : decode cX2_forgetSpread 1 = .ok (.istore_n 1, 1) := by decide +kernel
theorem dX2_forgetSpread_2 : decode cX2_forgetSpread 2 = .ok (.iload_n 1, 1) := by decide +kernel
theorem dX2_forgetSpread_3 : decode cX2_forgetSpread 3 = .ok (.aload_n 0, 1) := by decide +kernel
theorem dX2_forgetSpread_4 : decode cX2_forgetSpread 4 = .ok (.getfield 32, 3) := by decide +kernel
theorem dX2_forgetSpread_7 : decode cX2_forgetSpread 7 = .ok (.if_icmp .ge 21, 3) := by decide +kernel
theorem dX2_forgetSpread_10 : decode cX2_forgetSpread 10 = .ok (.aload_n 0, 1) := by decide +kernel
theorem dX2_forgetSpread_11 : decode cX2_forgetSpread 11 = .ok (.getfield 45, 3) := by decide +kernel
theorem dX2_forgetSpread_14 : decode cX2_forgetSpread 14 = .ok (.aload_n 0, 1) := by decide +kernel
theorem dX2_forgetSpread_15 : decode cX2_forgetSpread 15 = .ok (.getfield 88, 3) := by decide +kernel
theorem dX2_forgetSpread_18 : decode cX2_forgetSpread 18 = .ok (.iload_n 1, 1) := by decide +kernel
theorem dX2_forgetSpread_19 : decode cX2_forgetSpread 19 = .ok (.iaload, 1) := by decide +kernel
theorem dX2_forgetSpread_20 : decode cX2_forgetSpread 20 = .ok (.iconst (-1), 1) := by decide +kernel
theorem dX2_forgetSpread_21 : decode cX2_forgetSpread 21 = .ok (.iastore, 1) := by decide +kernel
theorem dX2_forgetSpread_22 : decode cX2_forgetSpread 22 = .ok (.iinc 1 1, 3) := by decide +kernel
theorem dX2_forgetSpread_25 : decode cX2_forgetSpread 25 = .ok (.goto (-23), 3) := by decide +kernel
theorem dX2_forgetSpread_28 : decode cX2_forgetSpread 28 = .ok (.aload_n 0, 1) := by decide +kernel
theorem dX2_forgetSpread_29 : decode cX2_forgetSpread 29 = .ok (.iconst 0, 1) := by decide +kernel
theorem dX2_forgetSpread_30 : decode cX2_forgetSpread 30 = .ok (.putfield 32, 3) := by decide +kernel
theorem dX2_forgetSpread_33 : decode cX2_forgetSpread 33 = .ok (.return_, 1) := by decide +kernel
set_option maxRecDepth 20000 in
theorem ggX2_settle_X2_gather : GoodIn wsX2_settle wsX2_gather := goodIn_r _ [9, 10, 11, 12, 13, 14, 15, 16, 17, 8, 18, 19, 20, 21, 22, 23, 24, 25, 26, 27, 28, 29, 3, 4, 30, 31, 32, 33, 34, 35, 36, 37, 38, 45, 46, 47, 48, 49, 50, 51, 52, 53, 54, 55, 56, 57, 58, 59, 60, 61, 62, 63] (by decide +kernel) (by decide +kernel)
set_option maxRecDepth 20000 in
theorem gX2_settle_X2_gather : GoodIn wsX2_settle (wsV RX2 75 RX2 yX2_gather wsX2_gather) := goodIn_app (goodIn_of _ (by decide +kernel)) ggX2_settle_X2_gather
set_option maxRecDepth 20000 in
theorem ggX2_settle_X2_lighten : GoodIn wsX2_settle wsX2_lighten := goodIn_r _ [42, 10, 11, 43, 44, 3, 4, 30, 45, 46, 47, 48, 49, 50, 51, 52, 53, 54, 55, 56, 57, 58, 59, 60, 61] (by decide +kernel) (by decide +kernel)
set_option maxRecDepth 20000 in
theorem gX2_settle_X2_lighten : GoodIn wsX2_settle (wsV RX2 91 RX2 yX2_lighten wsX2_lighten) := goodIn_app (goodIn_of _ (by decide +kernel)) ggX2_settle_X2_lighten
theorem dX2_settle_0 : decode cX2_settle 0 = .ok (.iconst 0, 1) := by decide +kernel
theorem dX2_settle_1 : decode cX2_settle 1 = .ok (.istore_n 2, 1) := by decide +kernel
theorem dX2_settle_2 : decode cX2_settle 2 = .ok (.iload_n 2, 1) := by decide +kernel
theorem dX2_settle_3 : decode cX2_settle 3 = .ok (.aload_n 0, 1) := by decide +kernel
theorem dX2_settle_4 : decode cX2_settle 4 = .ok (.getfield 29, 3) := by decide +kernel
theorem dX2_settle_7 : decode cX2_settle 7 = .ok (.if_icmp .ge 29, 3) := by decide +kernel
theorem dX2_settle_10 : decode cX2_settle 10 = .ok (.aload_n 0, 1) := by decide +kernel
theorem dX2_settle_11 : decode cX2_settle 11 = .ok (.getfield 45, 3) := by decide +kernel
theorem dX2_settle_14 : decode cX2_settle 14 = .ok (.iload_n 2, 1) := by decide +kernel
theorem dX2_settle_15 : decode cX2_settle 15 = .ok (.iaload, 1) := by decide +kernel
theorem dX2_settle_16 : decode cX2_settle 16 = .ok (.iload_n 1, 1) := by decide +kernel
theorem dX2_settle_17 : decode cX2_settle 17 = .ok (.if_icmp .ne 13, 3) := by decide +kernel
theorem dX2_settle_20 : decode cX2_settle 20 = .ok (.aload_n 0, 1) := by decide +kernel
theorem dX2_settle_21 : decode cX2_settle 21 = .ok (.iload_n 2, 1) := by decide +kernel
theorem dX2_settle_22 : decode cX2_settle 22 = .ok (.invokevirtual 75, 3) := by decide +kernel
theorem dX2_settle_25 : decode cX2_settle 25 = .ok (.aload_n 0, 1) := by decide +kernel
theorem dX2_settle_26 : decode cX2_settle 26 = .ok (.iload_n 1, 1) := by decide +kernel
theorem dX2_settle_27 : decode cX2_settle 27 = .ok (.invokevirtual 91, 3) := by decide +kernel
theorem dX2_settle_30 : decode cX2_settle 30 = .ok (.iinc 2 1, 3) := by decide +kernel
theorem dX2_settle_33 : decode cX2_settle 33 = .ok (.goto (-31), 3) := by decide +kernel
theorem dX2_settle_36 : decode cX2_settle 36 = .ok (.return_, 1) := by decide +kernel
theorem dX2_lighten_0 : decode cX2_lighten 0 = .ok (.iconst 0, 1) := by decide +kernel
theorem dX2_lighten_1 : decode cX2_lighten 1 = .ok (.istore_n 2, 1) := by decide +kernel
theorem dX2_lighten_2 : decode cX2_lighten 2 = .ok (.iload_n 2, 1) := by decide +kernel
theorem dX2_lighten_3 : decode cX2_lighten 3 = .ok (.aload_n 0, 1) := by decide +kernel
theorem dX2_lighten_4 : decode cX2_lighten 4 = .ok (.getfield 52, 3) := by decide +kernel
theorem dX2_lighten_7 : decode cX2_lighten 7 = .ok (.if_icmp .ge 57, 3) := by decide +kernel
theorem dX2_lighten_10 : decode cX2_lighten 10 = .ok (.aload_n 0, 1) := by decide +kernel
theorem dX2_lighten_11 : decode cX2_lighten 11 = .ok (.getfield 78, 3) := by decide +kernel
theorem dX2_lighten_14 : decode cX2_lighten 14 = .ok (.iload_n 2, 1) := by decide +kernel
theorem dX2_lighten_15 : decode cX2_lighten 15 = .ok (.iaload, 1) := by decide +kernel
theorem dX2_lighten_16 : decode cX2_lighten 16 = .ok (.istore_n 3, 1) := by decide +kernel
theorem dX2_lighten_17 : decode cX2_lighten 17 = .ok (.aload_n 0, 1) := by decide +kernel
theorem dX2_lighten_18 : decode cX2_lighten 18 = .ok (.getfield 45, 3) := by decide +kernel
theorem dX2_lighten_21 : decode cX2_lighten 21 = .ok (.iload_n 3, 1) := by decide +kernel
theorem dX2_lighten_22 : decode cX2_lighten 22 = .ok (.iaload, 1) := by decide +kernel
theorem dX2_lighten_23 : decode cX2_lighten 23 = .ok (.iconst (-1), 1) := by decide +kernel
theorem dX2_lighten_24 : decode cX2_lighten 24 = .ok (.if_icmp .eq 20, 3) := by decide +kernel
theorem dX2_lighten_27 : decode cX2_lighten 27 = .ok (.aload_n 0, 1) := by decide +kernel
theorem dX2_lighten_28 : decode cX2_lighten 28 = .ok (.getfield 45, 3) := by decide +kernel
theorem dX2_lighten_31 : decode cX2_lighten 31 = .ok (.iload_n 3, 1) := by decide +kernel
theorem dX2_lighten_32 : decode cX2_lighten 32 = .ok (.iaload, 1) := by decide +kernel
theorem dX2_lighten_33 : decode cX2_lighten 33 = .ok (.iload_n 1, 1) := by decide +kernel
theorem dX2_lighten_34 : decode cX2_lighten 34 = .ok (.aload_n 0, 1) := by decide +kernel
theorem dX2_lighten_35 : decode cX2_lighten 35 = .ok (.getfield 11, 3) := by decide +kernel
theorem dX2_lighten_38 : decode cX2_lighten 38 = .ok (.iload_n 2, 1) := by decide +kernel
theorem dX2_lighten_39 : decode cX2_lighten 39 = .ok (.iaload, 1) := by decide +kernel
theorem dX2_lighten_40 : decode cX2_lighten 40 = .ok (.iadd, 1) := by decide +kernel
theorem dX2_lighten_41 : decode cX2_lighten 41 = .ok (.if_icmp .le 17, 3) := by decide +kernel
theorem dX2_lighten_44 : decode cX2_lighten 44 = .ok (.aload_n 0, 1) := by decide +kernel
theorem dX2_lighten_45 : decode cX2_lighten 45 = .ok (.getfield 45, 3) := by decide +kernel
theorem dX2_lighten_48 : decode cX2_lighten 48 = .ok (.iload_n 3, 1) := by decide +kernel
theorem dX2_lighten_49 : decode cX2_lighten 49 = .ok (.iload_n 1, 1) := by decide +kernel
theorem dX2_lighten_50 : decode cX2_lighten 50 = .ok (.aload_n 0, 1) := by decide +kernel
theorem dX2_lighten_51 : decode cX2_lighten 51 = .ok (.getfield 11, 3) := by decide +kernel
theorem dX2_lighten_54 : decode cX2_lighten 54 = .ok (.iload_n 2, 1) := by decide +kernel
theorem dX2_lighten_55 : decode cX2_lighten 55 = .ok (.iaload, 1) := by decide +kernel
theorem dX2_lighten_56 : decode cX2_lighten 56 = .ok (.iadd, 1) := by decide +kernel
theorem dX2_lighten_57 : decode cX2_lighten 57 = .ok (.iastore, 1) := by decide +kernel
theorem dX2_lighten_58 : decode cX2_lighten 58 = .ok (.iinc 2 1, 3) := by decide +kernel
theorem dX2_lighten_61 : decode cX2_lighten 61 = .ok (.goto (-59), 3) := by decide +kernel
theorem dX2_lighten_64 : decode cX2_lighten 64 = .ok (.return_, 1) := by decide +kernel
set_option maxRecDepth 20000 in
theorem ggX2_frozen_X3_all : GoodIn wsX2_frozen wsX3_all := goodIn_r _ [10, 11, 29, 30] (by decide +kernel) (by decide +kernel)
set_option maxRecDepth 20000 in
theorem gX2_frozen_X3_all : GoodIn wsX2_frozen (wsV RX2 23 RX3 yX3_all wsX3_all) := goodIn_app (goodIn_of _ (by decide +kernel)) ggX2_frozen_X3_all
theorem dX2_frozen_0 : decode cX2_frozen 0 = .ok (.aload_n 0, 1) := by decide +kernel
theorem dX2_frozen_1 : decode cX2_frozen 1 = .ok (.getfield 19, 3) := by decide +kernel
theorem dX2_frozen_4 : decode cX2_frozen 4 = .ok (.invokevirtual 23, 3) := by decide +kernel
theorem dX2_frozen_7 : decode cX2_frozen 7 = .ok (.istore_n 1, 1) := by decide +kernel
theorem dX2_frozen_8 : decode cX2_frozen 8 = .ok (.iconst 0, 1) := by decide +kernel
theorem dX2_frozen_9 : decode cX2_frozen 9 = .ok (.istore_n 2, 1) := by decide +kernel
theorem dX2_frozen_10 : decode cX2_frozen 10 = .ok (.iload_n 2, 1) := by decide +kernel
theorem dX2_frozen_11 : decode cX2_frozen 11 = .ok (.aload_n 0, 1) := by decide +kernel
theorem dX2_frozen_12 : decode cX2_frozen 12 = .ok (.getfield 32, 3) := by decide +kernel
theorem dX2_frozen_15 : decode cX2_frozen 15 = .ok (.if_icmp .ge 18, 3) := by decide +kernel
theorem dX2_frozen_18 : decode cX2_frozen 18 = .ok (.iload_n 1, 1) := by decide +kernel
theorem dX2_frozen_19 : decode cX2_frozen 19 = .ok (.aload_n 0, 1) := by decide +kernel
theorem dX2_frozen_20 : decode cX2_frozen 20 = .ok (.getfield 88, 3) := by decide +kernel
theorem dX2_frozen_23 : decode cX2_frozen 23 = .ok (.iload_n 2, 1) := by decide +kernel
theorem dX2_frozen_24 : decode cX2_frozen 24 = .ok (.iaload, 1) := by decide +kernel
theorem dX2_frozen_25 : decode cX2_frozen 25 = .ok (.iand, 1) := by decide +kernel
theorem dX2_frozen_26 : decode cX2_frozen 26 = .ok (.istore_n 1, 1) := by decide +kernel
theorem dX2_frozen_27 : decode cX2_frozen 27 = .ok (.iinc 2 1, 3) := by decide +kernel
theorem dX2_frozen_30 : decode cX2_frozen 30 = .ok (.goto (-20), 3) := by decide +kernel
theorem dX2_frozen_33 : decode cX2_frozen 33 = .ok (.iload_n 1, 1) := by decide +kernel
theorem dX2_frozen_34 : decode cX2_frozen 34 = .ok (.ireturn, 1) := by decide +kernel
theorem dX2_farthest_0 : decode cX2_farthest 0 = .ok (.aload_n 0, 1) := by decide +kernel
theorem dX2_farthest_1 : decode cX2_farthest 1 = .ok (.getfield 32, 3) := by decide +kernel
theorem dX2_farthest_4 : decode cX2_farthest 4 = .ok (.ifCond .ne 7, 3) := by decide +kernel
theorem dX2_farthest_7 : decode cX2_farthest 7 = .ok (.iconst 0, 1) := by decide +kernel
theorem dX2_farthest_8 : decode cX2_farthest 8 = .ok (.goto 19, 3) := by decide +kernel
theorem dX2_farthest_11 : decode cX2_farthest 11 = .ok (.aload_n 0, 1) := by decide +kernel
theorem dX2_farthest_12 : decode cX2_farthest 12 = .ok (.getfield 45, 3) := by decide +kernel
theorem dX2_farthest_15 : decode cX2_farthest 15 = .ok (.aload_n 0, 1) := by decide +kernel
theorem dX2_farthest_16 : decode cX2_farthest 16 = .ok (.getfield 88, 3) := by decide +kernel
theorem dX2_farthest_19 : decode cX2_farthest 19 = .ok (.aload_n 0, 1) := by decide +kernel
theorem dX2_farthest_20 : decode cX2_farthest 20 = .ok (.getfield 32, 3) := by decide +kernel
theorem dX2_farthest_23 : decode cX2_farthest 23 = .ok (.iconst 1, 1) := by decide +kernel
theorem dX2_farthest_24 : decode cX2_farthest 24 = .ok (.isub, 1) := by decide +kernel
theorem dX2_farthest_25 : decode cX2_farthest 25 = .ok (.iaload, 1) := by decide +kernel
theorem dX2_farthest_26 : decode cX2_farthest 26 = .ok (.iaload, 1) := by decide +kernel
theorem dX2_farthest_27 : decode cX2_farthest 27 = .ok (.ireturn, 1) := by decide +kernel
theorem dX3_init_0 : decode cX3_init 0 = .ok (.aload_n 0, 1) := by decide +kernel
theorem dX3_init_1 : decode cX3_init 1 = .ok (.invokespecial 3, 3) := by decide +kernel
theorem dX3_init_4 : decode cX3_init 4 = .ok (.aload_n 0, 1) := by decide +kernel
theorem dX3_init_5 : decode cX3_init 5 = .ok (.bipush 9, 2) := by decide +kernel
theorem dX3_init_7 : decode cX3_init 7 = .ok (.newarray .int, 2) := by decide +kernel
theorem dX3_init_9 : decode cX3_init 9 = .ok (.putfield 9, 3) := by decide +kernel
theorem dX3_init_12 : decode cX3_init 12 = .ok (.aload_n 0, 1) := by decide +kernel
theorem dX3_init_13 : decode cX3_init 13 = .ok (.iconst 5, 1) := by decide +kernel
theorem dX3_init_14 : decode cX3_init 14 = .ok (.putfield 15, 3) := by decide +kernel
theorem dX3_init_17 : decode cX3_init 17 = .ok (.return_, 1) := by decide +kernel
set_option maxRecDepth 20000 in
theorem ggX3_restart_J7_fill_53178 : GoodIn wsX3_restart wsJ7_fill_53178 := goodIn_r _ [6] (by decide +kernel) (by decide +kernel)
set_option maxRecDepth 20000 in
theorem gX3_restart_J7_fill_53178 : GoodIn wsX3_restart (va_wsS RX3 19 yJ7_fill_53178 wsJ7_fill_53178) := goodIn_app (goodIn_of _ (by decide +kernel)) ggX3_restart_J7_fill_53178
theorem dX3_restart_0 : decode cX3_restart 0 = .ok (.aload_n 0, 1) := by decide +kernel
theorem dX3_restart_1 : decode cX3_restart 1 = .ok (.getfield 9, 3) := by decide +kernel
theorem dX3_restart_4 : decode cX3_restart 4 = .ok (.iconst 0, 1) := by decide +kernel
theorem dX3_restart_5 : decode cX3_restart 5 = .ok (.invokestatic 19, 3) := by decide +kernel
theorem dX3_restart_8 : decode cX3_restart 8 = .ok (.aload_n 0, 1) := by decide +kernel
theorem dX3_restart_9 : decode cX3_restart 9 = .ok (.iload_n 1, 1) := by decide +kernel
theorem dX3_restart_10 : decode cX3_restart 10 = .ok (.putfield 15, 3) := by decide +kernel
theorem dX3_restart_13 : decode cX3_restart 13 = .ok (.return_, 1) := by decide +kernel
theorem dX3_all_0 : decode cX3_all 0 = .ok (.iconst 1, 1) := by decide +kernel
theorem dX3_all_1 : decode cX3_all 1 = .ok (.aload_n 0, 1) := by decide +kernel
theorem dX3_all_2 : decode cX3_all 2 = .ok (.getfield 15, 3) := by decide +kernel
theorem dX3_all_5 : decode cX3_all 5 = .ok (.ishl, 1) := by decide +kernel
theorem dX3_all_6 : decode cX3_all 6 = .ok (.iconst 1, 1) := by decide +kernel
theorem dX3_all_7 : decode cX3_all 7 = .ok (.isub, 1) := by decide +kernel
theorem dX3_all_8 : decode cX3_all 8 = .ok (.ireturn, 1) := by decide +kernel
theorem dX3_hasNode_0 : decode cX3_hasNode 0 = .ok (.iload_n 1, 1) := by decide +kernel
theorem dX3_hasNode_1 : decode cX3_hasNode 1 = .ok (.ifCond .lt 15, 3) := by decide +kernel
theorem dX3_hasNode_4 : decode cX3_hasNode 4 = .ok (.iload_n 1, 1) := by decide +kernel
theorem dX3_hasNode_5 : decode cX3_hasNode 5 = .ok (.aload_n 0, 1) := by decide +kernel
theorem dX3_hasNode_6 : decode cX3_hasNode 6 = .ok (.getfield 15, 3) := by decide +kernel
theorem dX3_hasNode_9 : decode cX3_hasNode 9 = .ok (.if_icmp .ge 7, 3) := by decide +kernel
theorem dX3_hasNode_12 : decode cX3_hasNode 12 = .ok (.iconst 1, 1) := by decide +kernel
theorem dX3_hasNode_13 : decode cX3_hasNode 13 = .ok (.goto 4, 3) := by decide +kernel
theorem dX3_hasNode_16 : decode cX3_hasNode 16 = .ok (.iconst 0, 1) := by decide +kernel
theorem dX3_hasNode_17 : decode cX3_hasNode 17 = .ok (.ireturn, 1) := by decide +kernel
set_option maxRecDepth 20000 in
theorem ggX3_hasSet_X3_all : GoodIn wsX3_hasSet wsX3_all := goodIn_r _ [5, 6, 7, 8] (by decide +kernel) (by decide +kernel)
set_option maxRecDepth 20000 in
theorem gX3_hasSet_X3_all : GoodIn wsX3_hasSet (wsV RX3 25 RX3 yX3_all wsX3_all) := goodIn_app (goodIn_of _ (by decide +kernel)) ggX3_hasSet_X3_all
theorem dX3_hasSet_0 : decode cX3_hasSet 0 = .ok (.iload_n 1, 1) := by decide +kernel
theorem dX3_hasSet_1 : decode cX3_hasSet 1 = .ok (.ifCond .lt 15, 3) := by decide +kernel
theorem dX3_hasSet_4 : decode cX3_hasSet 4 = .ok (.iload_n 1, 1) := by decide +kernel
theorem dX3_hasSet_5 : decode cX3_hasSet 5 = .ok (.aload_n 0, 1) := by decide +kernel
theorem dX3_hasSet_6 : decode cX3_hasSet 6 = .ok (.invokevirtual 25, 3) := by decide +kernel
theorem dX3_hasSet_9 : decode cX3_hasSet 9 = .ok (.if_icmp .gt 7, 3) := by decide +kernel
theorem dX3_hasSet_12 : decode cX3_hasSet 12 = .ok (.iconst 1, 1) := by decide +kernel
theorem dX3_hasSet_13 : decode cX3_hasSet 13 = .ok (.goto 4, 3) := by decide +kernel
theorem dX3_hasSet_16 : decode cX3_hasSet 16 = .ok (.iconst 0, 1) := by decide +kernel
theorem dX3_hasSet_17 : decode cX3_hasSet 17 = .ok (.ireturn, 1) := by decide +kernel
set_option maxRecDepth 20000 in
theorem ggX3_areJoined_X3_hasNode : GoodIn wsX3_areJoined wsX3_hasNode := goodIn_r _ [6, 7, 8, 9] (by decide +kernel) (by decide +kernel)
set_option maxRecDepth 20000 in
theorem gX3_areJoined_X3_hasNode : GoodIn wsX3_areJoined (wsV RX3 29 RX3 yX3_hasNode wsX3_hasNode) := goodIn_app (goodIn_of _ (by decide +kernel)) ggX3_areJoined_X3_hasNode
theorem dX3_areJoined_0 : decode cX3_areJoined 0 = .ok (.aload_n 0, 1) := by decide +kernel
theorem dX3_areJoined_1 : decode cX3_areJoined 1 = .ok (.iload_n 1, 1) := by decide +kernel
theorem dX3_areJoined_2 : decode cX3_areJoined 2 = .ok (.invokevirtual 29, 3) := by decide +kernel
theorem dX3_areJoined_5 : decode cX3_areJoined 5 = .ok (.ifCond .eq 29, 3) := by decide +kernel
theorem dX3_areJoined_8 : decode cX3_areJoined 8 = .ok (.aload_n 0, 1) := by decide +kernel
theorem dX3_areJoined_9 : decode cX3_areJoined 9 = .ok (.iload_n 2, 1) := by decide +kernel
theorem dX3_areJoined_10 : decode cX3_areJoined 10 = .ok (.invokevirtual 29, 3) := by decide +kernel
theorem dX3_areJoined_13 : decode cX3_areJoined 13 = .ok (.ifCond .eq 21, 3) := by decide +kernel
theorem dX3_areJoined_16 : decode cX3_areJoined 16 = .ok (.aload_n 0, 1) := by decide +kernel
theorem dX3_areJoined_17 : decode cX3_areJoined 17 = .ok (.getfield 9, 3) := by decide +kernel
theorem dX3_areJoined_20 : decode cX3_areJoined 20 = .ok (.iload_n 1, 1) := by decide +kernel
theorem dX3_areJoined_21 : decode cX3_areJoined 21 = .ok (.iaload, 1) := by decide +kernel
theorem dX3_areJoined_22 : decode cX3_areJoined 22 = .ok (.iload_n 2, 1) := by decide +kernel
theorem dX3_areJoined_23 : decode cX3_areJoined 23 = .ok (.ishr, 1) := by decide +kernel
theorem dX3_areJoined_24 : decode cX3_areJoined 24 = .ok (.iconst 1, 1) := by decide +kernel
theorem dX3_areJoined_25 : decode cX3_areJoined 25 = .ok (.iand, 1) := by decide +kernel
theorem dX3_areJoined_26 : decode cX3_areJoined 26 = .ok (.iconst 1, 1) := by decide +kernel
theorem dX3_areJoined_27 : decode cX3_areJoined 27 = .ok (.if_icmp .ne 7, 3) := by decide +kernel
theorem dX3_areJoined_30 : decode cX3_areJoined 30 = .ok (.iconst 1, 1) := by decide +kernel
theorem dX3_areJoined_31 : decode cX3_areJoined 31 = .ok (.goto 4, 3) := by decide +kernel
theorem dX3_areJoined_34 : decode cX3_areJoined 34 = .ok (.iconst 0, 1) := by decide +kernel
theorem dX3_areJoined_35 : decode cX3_areJoined 35 = .ok (.ireturn, 1) := by decide +kernel
set_option maxRecDepth 20000 in
theorem ggX3_tie_X3_hasNode : GoodIn wsX3_tie wsX3_hasNode := goodIn_r _ [6, 7, 8, 9] (by decide +kernel) (by decide +kernel)
set_option maxRecDepth 20000 in
theorem gX3_tie_X3_hasNode : GoodIn wsX3_tie (wsV RX3 29 RX3 yX3_hasNode wsX3_hasNode) := goodIn_app (goodIn_of _ (by decide +kernel)) ggX3_tie_X3_hasNode
theorem dX3_tie_0 : decode cX3_tie 0 = .ok (.aload_n 0, 1) := by decide +kernel
theorem dX3_tie_1 : decode cX3_tie 1 = .ok (.iload_n 1, 1) := by decide +kernel
theorem dX3_tie_2 : decode cX3_tie 2 = .ok (.invokevirtual 29, 3) := by decide +kernel
theorem dX3_tie_5 : decode cX3_tie 5 = .ok (.ifCond .eq 11, 3) := by decide +kernel
theorem dX3_tie_8 : decode cX3_tie 8 = .ok (.aload_n 0, 1) := by decide +kernel
theorem dX3_tie_9 : decode cX3_tie 9 = .ok (.iload_n 2, 1) := by decide +kernel
theorem dX3_tie_10 : decode cX3_tie 10 = .ok (.invokevirtual 29, 3) := by decide +kernel
theorem dX3_tie_13 : decode cX3_tie 13 = .ok (.ifCond .ne 4, 3) := by decide +kernel
theorem dX3_tie_16 : decode cX3_tie 16 = .ok (.return_, 1) := by decide +kernel
theorem dX3_tie_17 : decode cX3_tie 17 = .ok (.aload_n 0, 1) := by decide +kernel
theorem dX3_tie_18 : decode cX3_tie 18 = .ok (.getfield 9, 3) := by decide +kernel
theorem dX3_tie_21 : decode cX3_tie 21 = .ok (.iload_n 1, 1) := by decide +kernel
theorem dX3_tie_22 : decode cX3_tie 22 = .ok (.iload_n 3, 1) := by decide +kernel
theorem dX3_tie_23 : decode cX3_tie 23 = .ok (.ifCond .eq 16, 3) := by decide +kernel
theorem dX3_tie_26 : decode cX3_tie 26 = .ok (.aload_n 0, 1) := by decide +kernel
theorem dX3_tie_27 : decode cX3_tie 27 = .ok (.getfield 9, 3) := by decide +kernel
theorem dX3_tie_30 : decode cX3_tie 30 = .ok (.iload_n 1, 1) := by decide +kernel
theorem dX3_tie_31 : decode cX3_tie 31 = .ok (.iaload, 1) := by decide +kernel
theorem dX3_tie_32 : decode cX3_tie 32 = .ok (.iconst 1, 1) := by decide +kernel
theorem dX3_tie_33 : decode cX3_tie 33 = .ok (.iload_n 2, 1) := by decide +kernel
theorem dX3_tie_34 : decode cX3_tie 34 = .ok (.ishl, 1) := by decide +kernel
theorem dX3_tie_35 : decode cX3_tie 35 = .ok (.ior, 1) := by decide +kernel
theorem dX3_tie_36 : decode cX3_tie 36 = .ok (.goto 15, 3) := by decide +kernel
theorem dX3_tie_39 : decode cX3_tie 39 = .ok (.aload_n 0, 1) := by decide +kernel
theorem dX3_tie_40 : decode cX3_tie 40 = .ok (.getfield 9, 3) := by decide +kernel
theorem dX3_tie_43 : decode cX3_tie 43 = .ok (.iload_n 1, 1) := by decide +kernel
theorem dX3_tie_44 : decode cX3_tie 44 = .ok (.iaload, 1) := by decide +kernel
theorem dX3_tie_45 : decode cX3_tie 45 = .ok (.iconst 1, 1) := by decide +kernel
theorem dX3_tie_46 : decode cX3_tie 46 = .ok (.iload_n 2, 1) := by decide +kernel
theorem dX3_tie_47 : decode cX3_tie 47 = .ok (.ishl, 1) := by decide +kernel
theorem dX3_tie_48 : decode cX3_tie 48 = .ok (.iconst (-1), 1) := by decide +kernel
theorem dX3_tie_49 : decode cX3_tie 49 = .ok (.ixor, 1) := by decide +kernel
theorem dX3_tie_50 : decode cX3_tie 50 = .ok (.iand, 1) := by decide +kernel
theorem dX3_tie_51 : decode cX3_tie 51 = .ok (.iastore, 1) := by decide +kernel
theorem dX3_tie_52 : decode cX3_tie 52 = .ok (.aload_n 0, 1) := by decide +kernel
theorem dX3_tie_53 : decode cX3_tie 53 = .ok (.getfield 9, 3) := by decide +kernel
theorem dX3_tie_56 : decode cX3_tie 56 = .ok (.iload_n 2, 1) := by decide +kernel
theorem dX3_tie_57 : decode cX3_tie 57 = .ok (.iload_n 3, 1) := by decide +kernel
theorem dX3_tie_58 : decode cX3_tie 58 = .ok (.ifCond .eq 16, 3) := by decide +kernel
theorem dX3_tie_61 : decode cX3_tie 61 = .ok (.aload_n 0, 1) := by decide +kernel
theorem dX3_tie_62 : decode cX3_tie 62 = .ok (.getfield 9, 3) := by decide +kernel
theorem dX3_tie_65 : decode cX3_tie 65 = .ok (.iload_n 2, 1) := by decide +kernel
theorem dX3_tie_66 : decode cX3_tie 66 = .ok (.iaload, 1) := by decide +kernel
theorem dX3_tie_67 : decode cX3_tie 67 = .ok (.iconst 1, 1) := by decide +kernel
theorem dX3_tie_68 : decode cX3_tie 68 = .ok (.iload_n 1, 1) := by decide +kernel
theorem dX3_tie_69 : decode cX3_tie 69 = .ok (.ishl, 1) := by decide +kernel
theorem dX3_tie_70 : decode cX3_tie 70 = .ok (.ior, 1) := by decide +kernel
theorem dX3_tie_71 : decode cX3_tie 71 = .ok (.goto 15, 3) := by decide +kernel
theorem dX3_tie_74 : decode cX3_tie 74 = .ok (.aload_n 0, 1) := by decide +kernel
theorem dX3_tie_75 : decode cX3_tie 75 = .ok (.getfield 9, 3) := by decide +kernel
theorem dX3_tie_78 : decode cX3_tie 78 = .ok (.iload_n 2, 1) := by decide +kernel
theorem dX3_tie_79 : decode cX3_tie 79 = .ok (.iaload, 1) := by decide +kernel
theorem dX3_tie_80 : decode cX3_tie 80 = .ok (.iconst 1, 1) := by decide +kernel
theorem dX3_tie_81 : decode cX3_tie 81 = .ok (.iload_n 1, 1) := by decide +kernel
theorem dX3_tie_82 : decode cX3_tie 82 = .ok (.ishl, 1) := by decide +kernel
theorem dX3_tie_83 : decode cX3_tie 83 = .ok (.iconst (-1), 1) := by decide +kernel
theorem dX3_tie_84 : decode cX3_tie 84 = .ok (.ixor, 1) := by decide +kernel
theorem dX3_tie_85 : decode cX3_tie 85 = .ok (.iand, 1) := by decide +kernel
theorem dX3_tie_86 : decode cX3_tie 86 = .ok (.iastore, 1) := by decide +kernel
theorem dX3_tie_87 : decode cX3_tie 87 = .ok (.return_, 1) := by decide +kernel
set_option maxRecDepth 20000 in
theorem ggX3_pairs_J6_bitCount_0f7a4 : GoodIn wsX3_pairs wsJ6_bitCount_0f7a4 := goodIn_r _ [6, 7, 8, 9] (by decide +kernel) (by decide +kernel)
set_option maxRecDepth 20000 in
theorem gX3_pairs_J6_bitCount_0f7a4 : GoodIn wsX3_pairs (va_wsS RX3 33 yJ6_bitCount_0f7a4 wsJ6_bitCount_0f7a4) := goodIn_app (goodIn_of _ (by decide +kernel)) ggX3_pairs_J6_bitCount_0f7a4
theorem dX3_pairs_0 : decode cX3_pairs 0 = .ok (.iconst 0, 1) := by decide +kernel
theorem dX3_pairs_1 : decode cX3_pairs 1 = .ok (.istore_n 1, 1) := by decide +kernel
theorem dX3_pairs_2 : decode cX3_pairs 2 = .ok (.iconst 0, 1) := by decide +kernel
theorem dX3_pairs_3 : decode cX3_pairs 3 = .ok (.istore_n 2, 1) := by decide +kernel
theorem dX3_pairs_4 : decode cX3_pairs 4 = .ok (.iload_n 2, 1) := by decide +kernel
theorem dX3_pairs_5 : decode cX3_pairs 5 = .ok (.aload_n 0, 1) := by decide +kernel
theorem dX3_pairs_6 : decode cX3_pairs 6 = .ok (.getfield 15, 3) := by decide +kernel
theorem dX3_pairs_9 : decode cX3_pairs 9 = .ok (.if_icmp .ge 21, 3) := by decide +kernel
theorem dX3_pairs_12 : decode cX3_pairs 12 = .ok (.iload_n 1, 1) := by decide +kernel
theorem dX3_pairs_13 : decode cX3_pairs 13 = .ok (.aload_n 0, 1) := by decide +kernel
theorem dX3_pairs_14 : decode cX3_pairs 14 = .ok (.getfield 9, 3) := by decide +kernel
theorem dX3_pairs_17 : decode cX3_pairs 17 = .ok (.iload_n 2, 1) := by decide +kernel
theorem dX3_pairs_18 : decode cX3_pairs 18 = .ok (.iaload, 1) := by decide +kernel
theorem dX3_pairs_19 : decode cX3_pairs 19 = .ok (.invokestatic 33, 3) := by decide +kernel
theorem dX3_pairs_22 : decode cX3_pairs 22 = .ok (.iadd, 1) := by decide +kernel
theorem dX3_pairs_23 : decode cX3_pairs 23 = .ok (.istore_n 1, 1) := by decide +kernel
theorem dX3_pairs_24 : decode cX3_pairs 24 = .ok (.iinc 2 1, 3) := by decide +kernel
theorem dX3_pairs_27 : decode cX3_pairs 27 = .ok (.goto (-23), 3) := by decide +kernel
theorem dX3_pairs_30 : decode cX3_pairs 30 = .ok (.iload_n 1, 1) := by decide +kernel
theorem dX3_pairs_31 : decode cX3_pairs 31 = .ok (.iconst 1, 1) := by decide +kernel
theorem dX3_pairs_32 : decode cX3_pairs 32 = .ok (.ishr, 1) := by decide +kernel
theorem dX3_pairs_33 : decode cX3_pairs 33 = .ok (.ireturn, 1) := by decide +kernel
set_option maxRecDepth 20000 in
theorem ggX3_form_X3_restart : GoodIn wsX3_form wsX3_restart := goodIn_r _ [6, 7, 1, 8, 9, 10, 11, 24, 25] (by decide +kernel) (by decide +kernel)
set_option maxRecDepth 20000 in
theorem gX3_form_X3_restart : GoodIn wsX3_form (wsV RX3 39 RX3 yX3_restart wsX3_restart) := goodIn_app (goodIn_of _ (by decide +kernel)) ggX3_form_X3_restart
set_option maxRecDepth 20000 in
theorem ggX3_form_X3_isInShape : GoodIn wsX3_form wsX3_isInShape := goodIn_r _ [15, 1, 24, 25] (by decide +kernel) (by decide +kernel)
set_option maxRecDepth 20000 in
theorem gX3_form_X3_isInShape : GoodIn wsX3_form (wsV RX3 43 RX3 yX3_isInShape wsX3_isInShape) := goodIn_app (goodIn_of _ (by decide +kernel)) ggX3_form_X3_isInShape
set_option maxRecDepth 20000 in
theorem ggX3_form_X3_tie : GoodIn wsX3_form wsX3_tie := goodIn_r _ [19, 7, 20, 21, 22, 5, 23, 1, 24, 25] (by decide +kernel) (by decide +kernel)
set_option maxRecDepth 20000 in
theorem gX3_form_X3_tie : GoodIn wsX3_form (wsV RX3 47 RX3 yX3_tie wsX3_tie) := goodIn_app (goodIn_of _ (by decide +kernel)) ggX3_form_X3_tie
theorem dX3_form_0 : decode cX3_form 0 = .ok (.aload_n 0, 1) := by decide +kernel
theorem dX3_form_1 : decode cX3_form 1 = .ok (.aload_n 0, 1) := by decide +kernel
theorem dX3_form_2 : decode cX3_form 2 = .ok (.getfield 15, 3) := by decide +kernel
theorem dX3_form_5 : decode cX3_form 5 = .ok (.invokevirtual 39, 3) := by decide +kernel
theorem dX3_form_8 : decode cX3_form 8 = .ok (.iconst 0, 1) := by decide +kernel
theorem dX3_form_9 : decode cX3_form 9 = .ok (.istore_n 2, 1) := by decide +kernel
theorem dX3_form_10 : decode cX3_form 10 = .ok (.iload_n 2, 1) := by decide +kernel
theorem dX3_form_11 : decode cX3_form 11 = .ok (.aload_n 0, 1) := by decide +kernel
theorem dX3_form_12 : decode cX3_form 12 = .ok (.getfield 15, 3) := by decide +kernel
theorem dX3_form_15 : decode cX3_form 15 = .ok (.if_icmp .ge 40, 3) := by decide +kernel
theorem dX3_form_18 : decode cX3_form 18 = .ok (.iload_n 2, 1) := by decide +kernel
theorem dX3_form_19 : decode cX3_form 19 = .ok (.iconst 1, 1) := by decide +kernel
theorem dX3_form_20 : decode cX3_form 20 = .ok (.iadd, 1) := by decide +kernel
theorem dX3_form_21 : decode cX3_form 21 = .ok (.istore_n 3, 1) := by decide +kernel
theorem dX3_form_22 : decode cX3_form 22 = .ok (.iload_n 3, 1) := by decide +kernel
theorem dX3_form_23 : decode cX3_form 23 = .ok (.aload_n 0, 1) := by decide +kernel
theorem dX3_form_24 : decode cX3_form 24 = .ok (.getfield 15, 3) := by decide +kernel
theorem dX3_form_27 : decode cX3_form 27 = .ok (.if_icmp .ge 22, 3) := by decide +kernel
theorem dX3_form_30 : decode cX3_form 30 = .ok (.aload_n 0, 1) := by decide +kernel
theorem dX3_form_31 : decode cX3_form 31 = .ok (.iload_n 2, 1) := by decide +kernel
theorem dX3_form_32 : decode cX3_form 32 = .ok (.iload_n 3, 1) := by decide +kernel
theorem dX3_form_33 : decode cX3_form 33 = .ok (.aload_n 0, 1) := by decide +kernel
theorem dX3_form_34 : decode cX3_form 34 = .ok (.iload_n 1, 1) := by decide +kernel
theorem dX3_form_35 : decode cX3_form 35 = .ok (.iload_n 2, 1) := by decide +kernel
theorem dX3_form_36 : decode cX3_form 36 = .ok (.iload_n 3, 1) := by decide +kernel
theorem dX3_form_37 : decode cX3_form 37 = .ok (.invokevirtual 43, 3) := by decide +kernel
theorem dX3_form_40 : decode cX3_form 40 = .ok (.invokevirtual 47, 3) := by decide +kernel
theorem dX3_form_43 : decode cX3_form 43 = .ok (.iinc 3 1, 3) := by decide +kernel
theorem dX3_form_46 : decode cX3_form 46 = .ok (.goto (-24), 3) := by decide +kernel
theorem dX3_form_49 : decode cX3_form 49 = .ok (.iinc 2 1, 3) := by decide +kernel
theorem dX3_form_52 : decode cX3_form 52 = .ok (.goto (-42), 3) := by decide +kernel
theorem dX3_form_55 : decode cX3_form 55 = .ok (.return_, 1) := by decide +kernel
theorem dX3_isInShape_0 : decode cX3_isInShape 0 = .ok (.iload_n 1, 1) := by decide +kernel
theorem dX3_isInShape_1 : decode cX3_isInShape 1 = .ok (.tableswitch 69 0 2 #[27, 40, 67], 27) := by decide +kernel
theorem dX3_isInShape_28 : decode cX3_isInShape 28 = .ok (.iload_n 3, 1) := by decide +kernel
theorem dX3_isInShape_29 : decode cX3_isInShape 29 = .ok (.iload_n 2, 1) := by decide +kernel
theorem dX3_isInShape_30 : decode cX3_isInShape 30 = .ok (.iconst 1, 1) := by decide +kernel
theorem dX3_isInShape_31 : decode cX3_isInShape 31 = .ok (.iadd, 1) := by decide +kernel
theorem dX3_isInShape_32 : decode cX3_isInShape 32 = .ok (.if_icmp .ne 7, 3) := by decide +kernel
theorem dX3_isInShape_35 : decode cX3_isInShape 35 = .ok (.iconst 1, 1) := by decide +kernel
theorem dX3_isInShape_36 : decode cX3_isInShape 36 = .ok (.goto 4, 3) := by decide +kernel
theorem dX3_isInShape_39 : decode cX3_isInShape 39 = .ok (.iconst 0, 1) := by decide +kernel
theorem dX3_isInShape_40 : decode cX3_isInShape 40 = .ok (.ireturn, 1) := by decide +kernel
theorem dX3_isInShape_41 : decode cX3_isInShape 41 = .ok (.iload_n 3, 1) := by decide +kernel
theorem dX3_isInShape_42 : decode cX3_isInShape 42 = .ok (.iload_n 2, 1) := by decide +kernel
theorem dX3_isInShape_43 : decode cX3_isInShape 43 = .ok (.iconst 1, 1) := by decide +kernel
theorem dX3_isInShape_44 : decode cX3_isInShape 44 = .ok (.iadd, 1) := by decide +kernel
theorem dX3_isInShape_45 : decode cX3_isInShape 45 = .ok (.if_icmp .eq 17, 3) := by decide +kernel
theorem dX3_isInShape_48 : decode cX3_isInShape 48 = .ok (.iload_n 2, 1) := by decide +kernel
theorem dX3_isInShape_49 : decode cX3_isInShape 49 = .ok (.ifCond .ne 17, 3) := by decide +kernel
theorem dX3_isInShape_52 : decode cX3_isInShape 52 = .ok (.iload_n 3, 1) := by decide +kernel
theorem dX3_isInShape_53 : decode cX3_isInShape 53 = .ok (.aload_n 0, 1) := by decide +kernel
theorem dX3_isInShape_54 : decode cX3_isInShape 54 = .ok (.getfield 15, 3) := by decide +kernel
theorem dX3_isInShape_57 : decode cX3_isInShape 57 = .ok (.iconst 1, 1) := by decide +kernel
theorem dX3_isInShape_58 : decode cX3_isInShape 58 = .ok (.isub, 1) := by decide +kernel
theorem dX3_isInShape_59 : decode cX3_isInShape 59 = .ok (.if_icmp .ne 7, 3) := by decide +kernel
theorem dX3_isInShape_62 : decode cX3_isInShape 62 = .ok (.iconst 1, 1) := by decide +kernel
theorem dX3_isInShape_63 : decode cX3_isInShape 63 = .ok (.goto 4, 3) := by decide +kernel
theorem dX3_isInShape_66 : decode cX3_isInShape 66 = .ok (.iconst 0, 1) := by decide +kernel
theorem dX3_isInShape_67 : decode cX3_isInShape 67 = .ok (.ireturn, 1) := by decide +kernel
theorem dX3_isInShape_68 : decode cX3_isInShape 68 = .ok (.iconst 1, 1) := by decide +kernel
theorem dX3_isInShape_69 : decode cX3_isInShape 69 = .ok (.ireturn, 1) := by decide +kernel
theorem dX3_isInShape_70 : decode cX3_isInShape 70 = .ok (.iload_n 2, 1) := by decide +kernel
theorem dX3_isInShape_71 : decode cX3_isInShape 71 = .ok (.ifCond .ne 7, 3) := by decide +kernel
theorem dX3_isInShape_74 : decode cX3_isInShape 74 = .ok (.iconst 1, 1) := by decide +kernel
theorem dX3_isInShape_75 : decode cX3_isInShape 75 = .ok (.goto 4, 3) := by decide +kernel
theorem dX3_isInShape_78 : decode cX3_isInShape 78 = .ok (.iconst 0, 1) := by decide +kernel
theorem dX3_isInShape_79 : decode cX3_isInShape 79 = .ok (.ireturn, 1) := by decide +kernel
set_option maxRecDepth 20000 in
theorem ggX3_isLawful_X3_touchesNowhere : GoodIn wsX3_isLawful wsX3_touchesNowhere := goodIn_r _ [5, 6, 7, 16, 17] (by decide +kernel) (by decide +kernel)
set_option maxRecDepth 20000 in
theorem gX3_isLawful_X3_touchesNowhere : GoodIn wsX3_isLawful (wsV RX3 51 RX3 yX3_touchesNowhere wsX3_touchesNowhere) := goodIn_app (goodIn_of _ (by decide +kernel)) ggX3_isLawful_X3_touchesNowhere
set_option maxRecDepth 20000 in
theorem ggX3_isLawful_X3_all : GoodIn wsX3_isLawful wsX3_all := goodIn_r _ [11, 6, 16, 17] (by decide +kernel) (by decide +kernel)
set_option maxRecDepth 20000 in
theorem gX3_isLawful_X3_all : GoodIn wsX3_isLawful (wsV RX3 25 RX3 yX3_all wsX3_all) := goodIn_app (goodIn_of _ (by decide +kernel)) ggX3_isLawful_X3_all
set_option maxRecDepth 20000 in
theorem ggX3_isLawful_X3_seesAll : GoodIn wsX3_isLawful wsX3_seesAll := goodIn_r _ [15, 6, 7, 8, 9, 10, 4, 11, 16, 17] (by decide +kernel) (by decide +kernel)
set_option maxRecDepth 20000 in
theorem gX3_isLawful_X3_seesAll : GoodIn wsX3_isLawful (wsV RX3 54 RX3 yX3_seesAll wsX3_seesAll) := goodIn_app (goodIn_of _ (by decide +kernel)) ggX3_isLawful_X3_seesAll
theorem dX3_isLawful_0 : decode cX3_isLawful 0 = .ok (.iload_n 1, 1) := by decide +kernel
theorem dX3_isLawful_1 : decode cX3_isLawful 1 = .ok (.lookupswitch 46 #[(0, 27), (1, 33)], 27) := by decide +kernel
theorem dX3_isLawful_28 : decode cX3_isLawful 28 = .ok (.aload_n 0, 1) := by decide +kernel
theorem dX3_isLawful_29 : decode cX3_isLawful 29 = .ok (.iload_n 2, 1) := by decide +kernel
theorem dX3_isLawful_30 : decode cX3_isLawful 30 = .ok (.invokevirtual 51, 3) := by decide +kernel
theorem dX3_isLawful_33 : decode cX3_isLawful 33 = .ok (.ireturn, 1) := by decide +kernel
theorem dX3_isLawful_34 : decode cX3_isLawful 34 = .ok (.aload_n 0, 1) := by decide +kernel
theorem dX3_isLawful_35 : decode cX3_isLawful 35 = .ok (.aload_n 0, 1) := by decide +kernel
theorem dX3_isLawful_36 : decode cX3_isLawful 36 = .ok (.invokevirtual 25, 3) := by decide +kernel
theorem dX3_isLawful_39 : decode cX3_isLawful 39 = .ok (.iload_n 2, 1) := by decide +kernel
theorem dX3_isLawful_40 : decode cX3_isLawful 40 = .ok (.iconst (-1), 1) := by decide +kernel
theorem dX3_isLawful_41 : decode cX3_isLawful 41 = .ok (.ixor, 1) := by decide +kernel
theorem dX3_isLawful_42 : decode cX3_isLawful 42 = .ok (.iand, 1) := by decide +kernel
theorem dX3_isLawful_43 : decode cX3_isLawful 43 = .ok (.invokevirtual 51, 3) := by decide +kernel
theorem dX3_isLawful_46 : decode cX3_isLawful 46 = .ok (.ireturn, 1) := by decide +kernel
theorem dX3_isLawful_47 : decode cX3_isLawful 47 = .ok (.aload_n 0, 1) := by decide +kernel
theorem dX3_isLawful_48 : decode cX3_isLawful 48 = .ok (.iload_n 2, 1) := by decide +kernel
theorem dX3_isLawful_49 : decode cX3_isLawful 49 = .ok (.invokevirtual 54, 3) := by decide +kernel
theorem dX3_isLawful_52 : decode cX3_isLawful 52 = .ok (.ireturn, 1) := by decide +kernel
theorem dX3_touchesNowhere_0 : decode cX3_touchesNowhere 0 = .ok (.iconst 0, 1) := by decide +kernel
theorem dX3_touchesNowhere_1 : decode cX3_touchesNowhere 1 = .ok (.istore_n 2, 1) := by decide +kernel
theorem dX3_touchesNowhere_2 : decode cX3_touchesNowhere 2 = .ok (.iload_n 2, 1) := by decide +kernel
theorem dX3_touchesNowhere_3 : decode cX3_touchesNowhere 3 = .ok (.aload_n 0, 1) := by decide +kernel
theorem dX3_touchesNowhere_4 : decode cX3_touchesNowhere 4 = .ok (.getfield 15, 3) := by decide +kernel
theorem dX3_touchesNowhere_7 : decode cX3_touchesNowhere 7 = .ok (.if_icmp .ge 31, 3) := by decide +kernel
theorem dX3_touchesNowhere_10 : decode cX3_touchesNowhere 10 = .ok (.iload_n 1, 1) := by decide +kernel
theorem dX3_touchesNowhere_11 : decode cX3_touchesNowhere 11 = .ok (.iload_n 2, 1) := by decide +kernel
theorem dX3_touchesNowhere_12 : decode cX3_touchesNowhere 12 = .ok (.ishr, 1) := by decide +kernel
theorem dX3_touchesNowhere_13 : decode cX3_touchesNowhere 13 = .ok (.iconst 1, 1) := by decide +kernel
theorem dX3_touchesNowhere_14 : decode cX3_touchesNowhere 14 = .ok (.iand, 1) := by decide +kernel
theorem dX3_touchesNowhere_15 : decode cX3_touchesNowhere 15 = .ok (.iconst 1, 1) := by decide +kernel
theorem dX3_touchesNowhere_16 : decode cX3_touchesNowhere 16 = .ok (.if_icmp .ne 16, 3) := by decide +kernel
theorem dX3_touchesNowhere_19 : decode cX3_touchesNowhere 19 = .ok (.aload_n 0, 1) := by decide +kernel
theorem dX3_touchesNowhere_20 : decode cX3_touchesNowhere 20 = .ok (.getfield 9, 3) := by decide +kernel
theorem dX3_touchesNowhere_23 : decode cX3_touchesNowhere 23 = .ok (.iload_n 2, 1) := by decide +kernel
theorem dX3_touchesNowhere_24 : decode cX3_touchesNowhere 24 = .ok (.iaload, 1) := by decide +kernel
theorem dX3_touchesNowhere_25 : decode cX3_touchesNowhere 25 = .ok (.iload_n 1, 1) := by decide +kernel
theorem dX3_touchesNowhere_26 : decode cX3_touchesNowhere 26 = .ok (.iand, 1) := by decide +kernel
theorem dX3_touchesNowhere_27 : decode cX3_touchesNowhere 27 = .ok (.ifCond .eq 5, 3) := by decide +kernel
theorem dX3_touchesNowhere_30 : decode cX3_touchesNowhere 30 = .ok (.iconst 0, 1) := by decide +kernel
theorem dX3_touchesNowhere_31 : decode cX3_touchesNowhere 31 = .ok (.ireturn, 1) := by decide +kernel
theorem dX3_touchesNowhere_32 : decode cX3_touchesNowhere 32 = .ok (.iinc 2 1, 3) := by decide +kernel
theorem dX3_touchesNowhere_35 : decode cX3_touchesNowhere 35 = .ok (.goto (-33), 3) := by decide +kernel
theorem dX3_touchesNowhere_38 : decode cX3_touchesNowhere 38 = .ok (.iconst 1, 1) := by decide +kernel
theorem dX3_touchesNowhere_39 : decode cX3_touchesNowhere 39 = .ok (.ireturn, 1) := by decide +kernel
set_option maxRecDepth 20000 in
theorem ggX3_seesAll_X3_all : GoodIn wsX3_seesAll wsX3_all := goodIn_r _ [7, 1, 8, 9] (by decide +kernel) (by decide +kernel)
set_option maxRecDepth 20000 in
theorem gX3_seesAll_X3_all : GoodIn wsX3_seesAll (wsV RX3 25 RX3 yX3_all wsX3_all) := goodIn_app (goodIn_of _ (by decide +kernel)) ggX3_seesAll_X3_all
theorem dX3_seesAll_0 : decode cX3_seesAll 0 = .ok (.iload_n 1, 1) := by decide +kernel
theorem dX3_seesAll_1 : decode cX3_seesAll 1 = .ok (.istore_n 2, 1) := by decide +kernel
theorem dX3_seesAll_2 : decode cX3_seesAll 2 = .ok (.iconst 0, 1) := by decide +kernel
theorem dX3_seesAll_3 : decode cX3_seesAll 3 = .ok (.istore_n 3, 1) := by decide +kernel
theorem dX3_seesAll_4 : decode cX3_seesAll 4 = .ok (.iload_n 3, 1) := by decide +kernel
theorem dX3_seesAll_5 : decode cX3_seesAll 5 = .ok (.aload_n 0, 1) := by decide +kernel
theorem dX3_seesAll_6 : decode cX3_seesAll 6 = .ok (.getfield 15, 3) := by decide +kernel
theorem dX3_seesAll_9 : decode cX3_seesAll 9 = .ok (.if_icmp .ge 27, 3) := by decide +kernel
theorem dX3_seesAll_12 : decode cX3_seesAll 12 = .ok (.iload_n 1, 1) := by decide +kernel
theorem dX3_seesAll_13 : decode cX3_seesAll 13 = .ok (.iload_n 3, 1) := by decide +kernel
theorem dX3_seesAll_14 : decode cX3_seesAll 14 = .ok (.ishr, 1) := by decide +kernel
theorem dX3_seesAll_15 : decode cX3_seesAll 15 = .ok (.iconst 1, 1) := by decide +kernel
theorem dX3_seesAll_16 : decode cX3_seesAll 16 = .ok (.iand, 1) := by decide +kernel
theorem dX3_seesAll_17 : decode cX3_seesAll 17 = .ok (.iconst 1, 1) := by decide +kernel
theorem dX3_seesAll_18 : decode cX3_seesAll 18 = .ok (.if_icmp .ne 12, 3) := by decide +kernel
theorem dX3_seesAll_21 : decode cX3_seesAll 21 = .ok (.iload_n 2, 1) := by decide +kernel
theorem dX3_seesAll_22 : decode cX3_seesAll 22 = .ok (.aload_n 0, 1) := by decide +kernel
theorem dX3_seesAll_23 : decode cX3_seesAll 23 = .ok (.getfield 9, 3) := by decide +kernel
theorem dX3_seesAll_26 : decode cX3_seesAll 26 = .ok (.iload_n 3, 1) := by decide +kernel
theorem dX3_seesAll_27 : decode cX3_seesAll 27 = .ok (.iaload, 1) := by decide +kernel
theorem dX3_seesAll_28 : decode cX3_seesAll 28 = .ok (.ior, 1) := by decide +kernel
theorem dX3_seesAll_29 : decode cX3_seesAll 29 = .ok (.istore_n 2, 1) := by decide +kernel
theorem dX3_seesAll_30 : decode cX3_seesAll 30 = .ok (.iinc 3 1, 3) := by decide +kernel
theorem dX3_seesAll_33 : decode cX3_seesAll 33 = .ok (.goto (-29), 3) := by decide +kernel
theorem dX3_seesAll_36 : decode cX3_seesAll 36 = .ok (.iload_n 2, 1) := by decide +kernel
theorem dX3_seesAll_37 : decode cX3_seesAll 37 = .ok (.aload_n 0, 1) := by decide +kernel
theorem dX3_seesAll_38 : decode cX3_seesAll 38 = .ok (.invokevirtual 25, 3) := by decide +kernel
theorem dX3_seesAll_41 : decode cX3_seesAll 41 = .ok (.if_icmp .ne 7, 3) := by decide +kernel
theorem dX3_seesAll_44 : decode cX3_seesAll 44 = .ok (.iconst 1, 1) := by decide +kernel
theorem dX3_seesAll_45 : decode cX3_seesAll 45 = .ok (.goto 4, 3) := by decide +kernel
theorem dX3_seesAll_48 : decode cX3_seesAll 48 = .ok (.iconst 0, 1) := by decide +kernel
theorem dX3_seesAll_49 : decode cX3_seesAll 49 = .ok (.ireturn, 1) := by decide +kernel
set_option maxRecDepth 20000 in
theorem ggX4_init_X5_init : GoodIn wsX4_init wsX5_init := goodIn_r _ [6, 7, 8, 9, 10, 11, 12, 13, 14, 15, 16, 25, 26, 27, 28, 29, 30, 31, 32, 33, 17, 18, 19, 20, 21, 22, 23, 24] (by decide +kernel) (by decide +kernel)
set_option maxRecDepth 20000 in
theorem gX4_init_X5_init : GoodIn wsX4_init (wsX5_init) := ggX4_init_X5_init
theorem dX4_init_0 : decode cX4_init 0 = .ok (.aload_n 0, 1) := by decide +kernel
theorem dX4_init_1 : decode cX4_init 1 = .ok (.sipush 4096, 3) := by decide +kernel
theorem dX4_init_4 : decode cX4_init 4 = .ok (.bipush 24, 2) := by decide +kernel
theorem dX4_init_6 : decode cX4_init 6 = .ok (.invokespecial 3, 3) := by decide +kernel
theorem dX4_init_9 : decode cX4_init 9 = .ok (.aload_n 0, 1) := by decide +kernel
theorem dX4_init_10 : decode cX4_init 10 = .ok (.iconst 3, 1) := by decide +kernel
theorem dX4_init_11 : decode cX4_init 11 = .ok (.putfield 9, 3) := by decide +kernel
theorem dX4_init_14 : decode cX4_init 14 = .ok (.aload_n 0, 1) := by decide +kernel
end
section
theorem dX4_init_15 : decode cX4_init 15 = .ok (.aload_n 1, 1) := by decide +kernel
theorem dX4_init_16 : decode cX4_init 16 = .ok (.putfield 15, 3) := by decide +kernel
theorem dX4_init_19 : decode cX4_init 19 = .ok (.return_, 1) := by decide +kernel
set_option maxRecDepth 20000 in
theorem ggX4_begin_X4_isLawful : GoodIn wsX4_begin wsX4_isLawful := goodIn_r _ [18, 19, 20, 21, 17, 22, 2, 3, 23, 24, 25, 26, 27, 28, 29, 30, 31, 32, 33, 34, 35, 36, 37, 38, 39, 40] (by decide +kernel) (by decide +kernel)
set_option maxRecDepth 20000 in
theorem gX4_begin_X4_isLawful : GoodIn wsX4_begin (wsV RX4 40 RX4 yX4_isLawful wsX4_isLawful) := goodIn_app (goodIn_of _ (by decide +kernel)) ggX4_begin_X4_isLawful
theorem dX4_begin_0 : decode cX4_begin 0 = .ok (.aload_n 0, 1) := by decide +kernel
theorem dX4_begin_1 : decode cX4_begin 1 = .ok (.iload_n 1, 1) := by decide +kernel
theorem dX4_begin_2 : decode cX4_begin 2 = .ok (.putfield 9, 3) := by decide +kernel
theorem dX4_begin_5 : decode cX4_begin 5 = .ok (.aload_n 0, 1) := by decide +kernel
theorem dX4_begin_6 : decode cX4_begin 6 = .ok (.iconst 1, 1) := by decide +kernel
theorem dX4_begin_7 : decode cX4_begin 7 = .ok (.iconst 2, 1) := by decide +kernel
theorem dX4_begin_8 : decode cX4_begin 8 = .ok (.aload_n 0, 1) := by decide +kernel
theorem dX4_begin_9 : decode cX4_begin 9 = .ok (.getfield 15, 3) := by decide +kernel
theorem dX4_begin_12 : decode cX4_begin 12 = .ok (.getfield 19, 3) := by decide +kernel
theorem dX4_begin_15 : decode cX4_begin 15 = .ok (.imul, 1) := by decide +kernel
theorem dX4_begin_16 : decode cX4_begin 16 = .ok (.ishl, 1) := by decide +kernel
theorem dX4_begin_17 : decode cX4_begin 17 = .ok (.aload_n 0, 1) := by decide +kernel
theorem dX4_begin_18 : decode cX4_begin 18 = .ok (.getfield 24, 3) := by decide +kernel
theorem dX4_begin_21 : decode cX4_begin 21 = .ok (.arraylength, 1) := by decide +kernel
theorem dX4_begin_22 : decode cX4_begin 22 = .ok (.invokestatic 28, 3) := by decide +kernel
theorem dX4_begin_25 : decode cX4_begin 25 = .ok (.putfield 34, 3) := by decide +kernel
theorem dX4_begin_28 : decode cX4_begin 28 = .ok (.aload_n 0, 1) := by decide +kernel
theorem dX4_begin_29 : decode cX4_begin 29 = .ok (.iconst 0, 1) := by decide +kernel
theorem dX4_begin_30 : decode cX4_begin 30 = .ok (.putfield 37, 3) := by decide +kernel
theorem dX4_begin_33 : decode cX4_begin 33 = .ok (.iconst 0, 1) := by decide +kernel
theorem dX4_begin_34 : decode cX4_begin 34 = .ok (.istore_n 2, 1) := by decide +kernel
theorem dX4_begin_35 : decode cX4_begin 35 = .ok (.iload_n 2, 1) := by decide +kernel
theorem dX4_begin_36 : decode cX4_begin 36 = .ok (.aload_n 0, 1) := by decide +kernel
theorem dX4_begin_37 : decode cX4_begin 37 = .ok (.getfield 34, 3) := by decide +kernel
theorem dX4_begin_40 : decode cX4_begin 40 = .ok (.if_icmp .ge 33, 3) := by decide +kernel
theorem dX4_begin_43 : decode cX4_begin 43 = .ok (.aload_n 0, 1) := by decide +kernel
theorem dX4_begin_44 : decode cX4_begin 44 = .ok (.getfield 24, 3) := by decide +kernel
theorem dX4_begin_47 : decode cX4_begin 47 = .ok (.iload_n 2, 1) := by decide +kernel
theorem dX4_begin_48 : decode cX4_begin 48 = .ok (.aload_n 0, 1) := by decide +kernel
theorem dX4_begin_49 : decode cX4_begin 49 = .ok (.iload_n 2, 1) := by decide +kernel
theorem dX4_begin_50 : decode cX4_begin 50 = .ok (.aload_n 0, 1) := by decide +kernel
theorem dX4_begin_51 : decode cX4_begin 51 = .ok (.getfield 9, 3) := by decide +kernel
theorem dX4_begin_54 : decode cX4_begin 54 = .ok (.invokevirtual 40, 3) := by decide +kernel
theorem dX4_begin_57 : decode cX4_begin 57 = .ok (.ifCond .eq 7, 3) := by decide +kernel
theorem dX4_begin_60 : decode cX4_begin 60 = .ok (.iconst (-1), 1) := by decide +kernel
theorem dX4_begin_61 : decode cX4_begin 61 = .ok (.goto 5, 3) := by decide +kernel
theorem dX4_begin_64 : decode cX4_begin 64 = .ok (.bipush (-2), 2) := by decide +kernel
theorem dX4_begin_66 : decode cX4_begin 66 = .ok (.iastore, 1) := by decide +kernel
theorem dX4_begin_67 : decode cX4_begin 67 = .ok (.iinc 2 1, 3) := by decide +kernel
theorem dX4_begin_70 : decode cX4_begin 70 = .ok (.goto (-35), 3) := by decide +kernel
theorem dX4_begin_73 : decode cX4_begin 73 = .ok (.return_, 1) := by decide +kernel
set_option maxRecDepth 20000 in
theorem ggX4_isLawful_X4_isColouring : GoodIn wsX4_isLawful wsX4_isColouring := goodIn_r _ [5, 6, 7, 8, 9, 4, 10, 16, 17, 18, 19, 20, 21, 22, 23, 24, 25] (by decide +kernel) (by decide +kernel)
set_option maxRecDepth 20000 in
theorem gX4_isLawful_X4_isColouring : GoodIn wsX4_isLawful (wsV RX4 44 RX4 yX4_isColouring wsX4_isColouring) := goodIn_app (goodIn_of _ (by decide +kernel)) ggX4_isLawful_X4_isColouring
set_option maxRecDepth 20000 in
theorem ggX4_isLawful_X4_differs : GoodIn wsX4_isLawful wsX4_differs := goodIn_r _ [14, 6, 7, 15, 8, 9, 4, 10, 16, 17, 18, 19, 20, 21, 22, 23, 24, 25] (by decide +kernel) (by decide +kernel)
set_option maxRecDepth 20000 in
theorem gX4_isLawful_X4_differs : GoodIn wsX4_isLawful (wsV RX4 47 RX4 yX4_differs wsX4_differs) := goodIn_app (goodIn_of _ (by decide +kernel)) ggX4_isLawful_X4_differs
theorem dX4_isLawful_0 : decode cX4_isLawful 0 = .ok (.aload_n 0, 1) := by decide +kernel
theorem dX4_isLawful_1 : decode cX4_isLawful 1 = .ok (.iload_n 1, 1) := by decide +kernel
theorem dX4_isLawful_2 : decode cX4_isLawful 2 = .ok (.iload_n 2, 1) := by decide +kernel
theorem dX4_isLawful_3 : decode cX4_isLawful 3 = .ok (.invokevirtual 44, 3) := by decide +kernel
theorem dX4_isLawful_6 : decode cX4_isLawful 6 = .ok (.ifCond .eq 15, 3) := by decide +kernel
theorem dX4_isLawful_9 : decode cX4_isLawful 9 = .ok (.aload_n 0, 1) := by decide +kernel
theorem dX4_isLawful_10 : decode cX4_isLawful 10 = .ok (.iload_n 1, 1) := by decide +kernel
theorem dX4_isLawful_11 : decode cX4_isLawful 11 = .ok (.invokevirtual 47, 3) := by decide +kernel
theorem dX4_isLawful_14 : decode cX4_isLawful 14 = .ok (.ifCond .eq 7, 3) := by decide +kernel
theorem dX4_isLawful_17 : decode cX4_isLawful 17 = .ok (.iconst 1, 1) := by decide +kernel
theorem dX4_isLawful_18 : decode cX4_isLawful 18 = .ok (.goto 4, 3) := by decide +kernel
theorem dX4_isLawful_21 : decode cX4_isLawful 21 = .ok (.iconst 0, 1) := by decide +kernel
theorem dX4_isLawful_22 : decode cX4_isLawful 22 = .ok (.ireturn, 1) := by decide +kernel
set_option maxRecDepth 20000 in
theorem ggX4_isColouring_X4_colourOf : GoodIn wsX4_isColouring wsX4_colourOf := goodIn_r _ [6] (by decide +kernel) (by decide +kernel)
set_option maxRecDepth 20000 in
theorem gX4_isColouring_X4_colourOf : GoodIn wsX4_isColouring (va_wsS RX4 51 yX4_colourOf wsX4_colourOf) := goodIn_app (goodIn_of _ (by decide +kernel)) ggX4_isColouring_X4_colourOf
theorem dX4_isColouring_0 : decode cX4_isColouring 0 = .ok (.iload_n 1, 1) := by decide +kernel
theorem dX4_isColouring_1 : decode cX4_isColouring 1 = .ok (.ifCond .lt 18, 3) := by decide +kernel
theorem dX4_isColouring_4 : decode cX4_isColouring 4 = .ok (.iload_n 1, 1) := by decide +kernel
theorem dX4_isColouring_5 : decode cX4_isColouring 5 = .ok (.iconst 1, 1) := by decide +kernel
theorem dX4_isColouring_6 : decode cX4_isColouring 6 = .ok (.iconst 2, 1) := by decide +kernel
theorem dX4_isColouring_7 : decode cX4_isColouring 7 = .ok (.aload_n 0, 1) := by decide +kernel
theorem dX4_isColouring_8 : decode cX4_isColouring 8 = .ok (.getfield 15, 3) := by decide +kernel
theorem dX4_isColouring_11 : decode cX4_isColouring 11 = .ok (.getfield 19, 3) := by decide +kernel
theorem dX4_isColouring_14 : decode cX4_isColouring 14 = .ok (.imul, 1) := by decide +kernel
theorem dX4_isColouring_15 : decode cX4_isColouring 15 = .ok (.ishl, 1) := by decide +kernel
theorem dX4_isColouring_16 : decode cX4_isColouring 16 = .ok (.if_icmp .lt 5, 3) := by decide +kernel
theorem dX4_isColouring_19 : decode cX4_isColouring 19 = .ok (.iconst 0, 1) := by decide +kernel
theorem dX4_isColouring_20 : decode cX4_isColouring 20 = .ok (.ireturn, 1) := by decide +kernel
theorem dX4_isColouring_21 : decode cX4_isColouring 21 = .ok (.iconst 0, 1) := by decide +kernel
theorem dX4_isColouring_22 : decode cX4_isColouring 22 = .ok (.istore_n 3, 1) := by decide +kernel
theorem dX4_isColouring_23 : decode cX4_isColouring 23 = .ok (.iload_n 3, 1) := by decide +kernel
theorem dX4_isColouring_24 : decode cX4_isColouring 24 = .ok (.aload_n 0, 1) := by decide +kernel
theorem dX4_isColouring_25 : decode cX4_isColouring 25 = .ok (.getfield 15, 3) := by decide +kernel
theorem dX4_isColouring_28 : decode cX4_isColouring 28 = .ok (.getfield 19, 3) := by decide +kernel
theorem dX4_isColouring_31 : decode cX4_isColouring 31 = .ok (.if_icmp .ge 20, 3) := by decide +kernel
theorem dX4_isColouring_34 : decode cX4_isColouring 34 = .ok (.iload_n 1, 1) := by decide +kernel
theorem dX4_isColouring_35 : decode cX4_isColouring 35 = .ok (.iload_n 3, 1) := by decide +kernel
theorem dX4_isColouring_36 : decode cX4_isColouring 36 = .ok (.invokestatic 51, 3) := by decide +kernel
theorem dX4_isColouring_39 : decode cX4_isColouring 39 = .ok (.iload_n 2, 1) := by decide +kernel
theorem dX4_isColouring_40 : decode cX4_isColouring 40 = .ok (.if_icmp .lt 5, 3) := by decide +kernel
theorem dX4_isColouring_43 : decode cX4_isColouring 43 = .ok (.iconst 0, 1) := by decide +kernel
theorem dX4_isColouring_44 : decode cX4_isColouring 44 = .ok (.ireturn, 1) := by decide +kernel
theorem dX4_isColouring_45 : decode cX4_isColouring 45 = .ok (.iinc 3 1, 3) := by decide +kernel
theorem dX4_isColouring_48 : decode cX4_isColouring 48 = .ok (.goto (-25), 3) := by decide +kernel
theorem dX4_isColouring_51 : decode cX4_isColouring 51 = .ok (.iconst 1, 1) := by decide +kernel
theorem dX4_isColouring_52 : decode cX4_isColouring 52 = .ok (.ireturn, 1) := by decide +kernel
set_option maxRecDepth 20000 in
theorem ggX4_differs_X4_colourOf : GoodIn wsX4_differs wsX4_colourOf := goodIn_r _ [7] (by decide +kernel) (by decide +kernel)
set_option maxRecDepth 20000 in
theorem gX4_differs_X4_colourOf : GoodIn wsX4_differs (va_wsS RX4 51 yX4_colourOf wsX4_colourOf) := goodIn_app (goodIn_of _ (by decide +kernel)) ggX4_differs_X4_colourOf
theorem dX4_differs_0 : decode cX4_differs 0 = .ok (.iconst 0, 1) := by decide +kernel
theorem dX4_differs_1 : decode cX4_differs 1 = .ok (.istore_n 2, 1) := by decide +kernel
theorem dX4_differs_2 : decode cX4_differs 2 = .ok (.iload_n 2, 1) := by decide +kernel
theorem dX4_differs_3 : decode cX4_differs 3 = .ok (.aload_n 0, 1) := by decide +kernel
theorem dX4_differs_4 : decode cX4_differs 4 = .ok (.getfield 15, 3) := by decide +kernel
theorem dX4_differs_7 : decode cX4_differs 7 = .ok (.getfield 19, 3) := by decide +kernel
theorem dX4_differs_10 : decode cX4_differs 10 = .ok (.if_icmp .ge 75, 3) := by decide +kernel
theorem dX4_differs_13 : decode cX4_differs 13 = .ok (.aload_n 0, 1) := by decide +kernel
theorem dX4_differs_14 : decode cX4_differs 14 = .ok (.getfield 15, 3) := by decide +kernel
theorem dX4_differs_17 : decode cX4_differs 17 = .ok (.getfield 54, 3) := by decide +kernel
theorem dX4_differs_20 : decode cX4_differs 20 = .ok (.iload_n 2, 1) := by decide +kernel
theorem dX4_differs_21 : decode cX4_differs 21 = .ok (.iaload, 1) := by decide +kernel
theorem dX4_differs_22 : decode cX4_differs 22 = .ok (.istore_n 3, 1) := by decide +kernel
theorem dX4_differs_23 : decode cX4_differs 23 = .ok (.iload_n 2, 1) := by decide +kernel
theorem dX4_differs_24 : decode cX4_differs 24 = .ok (.iconst 1, 1) := by decide +kernel
theorem dX4_differs_25 : decode cX4_differs 25 = .ok (.iadd, 1) := by decide +kernel
theorem dX4_differs_26 : decode cX4_differs 26 = .ok (.istore 4, 2) := by decide +kernel
theorem dX4_differs_28 : decode cX4_differs 28 = .ok (.iload 4, 2) := by decide +kernel
theorem dX4_differs_30 : decode cX4_differs 30 = .ok (.aload_n 0, 1) := by decide +kernel
theorem dX4_differs_31 : decode cX4_differs 31 = .ok (.getfield 15, 3) := by decide +kernel
theorem dX4_differs_34 : decode cX4_differs 34 = .ok (.getfield 19, 3) := by decide +kernel
theorem dX4_differs_37 : decode cX4_differs 37 = .ok (.if_icmp .ge 42, 3) := by decide +kernel
theorem dX4_differs_40 : decode cX4_differs 40 = .ok (.iload_n 3, 1) := by decide +kernel
theorem dX4_differs_41 : decode cX4_differs 41 = .ok (.iload 4, 2) := by decide +kernel
theorem dX4_differs_43 : decode cX4_differs 43 = .ok (.ishr, 1) := by decide +kernel
theorem dX4_differs_44 : decode cX4_differs 44 = .ok (.ifCond .eq 35, 3) := by decide +kernel
theorem dX4_differs_47 : decode cX4_differs 47 = .ok (.iload_n 3, 1) := by decide +kernel
theorem dX4_differs_48 : decode cX4_differs 48 = .ok (.iload 4, 2) := by decide +kernel
theorem dX4_differs_50 : decode cX4_differs 50 = .ok (.ishr, 1) := by decide +kernel
theorem dX4_differs_51 : decode cX4_differs 51 = .ok (.iconst 1, 1) := by decide +kernel
theorem dX4_differs_52 : decode cX4_differs 52 = .ok (.iand, 1) := by decide +kernel
theorem dX4_differs_53 : decode cX4_differs 53 = .ok (.iconst 1, 1) := by decide +kernel
theorem dX4_differs_54 : decode cX4_differs 54 = .ok (.if_icmp .ne 19, 3) := by decide +kernel
theorem dX4_differs_57 : decode cX4_differs 57 = .ok (.iload_n 1, 1) := by decide +kernel
theorem dX4_differs_58 : decode cX4_differs 58 = .ok (.iload_n 2, 1) := by decide +kernel
theorem dX4_differs_59 : decode cX4_differs 59 = .ok (.invokestatic 51, 3) := by decide +kernel
theorem dX4_differs_62 : decode cX4_differs 62 = .ok (.iload_n 1, 1) := by decide +kernel
theorem dX4_differs_63 : decode cX4_differs 63 = .ok (.iload 4, 2) := by decide +kernel
theorem dX4_differs_65 : decode cX4_differs 65 = .ok (.invokestatic 51, 3) := by decide +kernel
theorem dX4_differs_68 : decode cX4_differs 68 = .ok (.if_icmp .ne 5, 3) := by decide +kernel
theorem dX4_differs_71 : decode cX4_differs 71 = .ok (.iconst 0, 1) := by decide +kernel
theorem dX4_differs_72 : decode cX4_differs 72 = .ok (.ireturn, 1) := by decide +kernel
theorem dX4_differs_73 : decode cX4_differs 73 = .ok (.iinc 4 1, 3) := by decide +kernel
theorem dX4_differs_76 : decode cX4_differs 76 = .ok (.goto (-48), 3) := by decide +kernel
theorem dX4_differs_79 : decode cX4_differs 79 = .ok (.iinc 2 1, 3) := by decide +kernel
theorem dX4_differs_82 : decode cX4_differs 82 = .ok (.goto (-80), 3) := by decide +kernel
theorem dX4_differs_85 : decode cX4_differs 85 = .ok (.iconst 1, 1) := by decide +kernel
theorem dX4_differs_86 : decode cX4_differs 86 = .ok (.ireturn, 1) := by decide +kernel
theorem dX4_colourOf_0 : decode cX4_colourOf 0 = .ok (.iload_n 0, 1) := by decide +kernel
theorem dX4_colourOf_1 : decode cX4_colourOf 1 = .ok (.iconst 2, 1) := by decide +kernel
theorem dX4_colourOf_2 : decode cX4_colourOf 2 = .ok (.iload_n 1, 1) := by decide +kernel
theorem dX4_colourOf_3 : decode cX4_colourOf 3 = .ok (.imul, 1) := by decide +kernel
theorem dX4_colourOf_4 : decode cX4_colourOf 4 = .ok (.ishr, 1) := by decide +kernel
theorem dX4_colourOf_5 : decode cX4_colourOf 5 = .ok (.iconst 3, 1) := by decide +kernel
theorem dX4_colourOf_6 : decode cX4_colourOf 6 = .ok (.iand, 1) := by decide +kernel
theorem dX4_colourOf_7 : decode cX4_colourOf 7 = .ok (.ireturn, 1) := by decide +kernel
set_option maxRecDepth 20000 in
theorem ggX4_gather_X5_note : GoodIn wsX4_gather wsX5_note := goodIn_r _ [13, 14, 15, 16, 17, 18, 19, 20, 21, 22, 23, 24, 25, 26, 27, 28, 29, 30, 31, 32] (by decide +kernel) (by decide +kernel)
set_option maxRecDepth 20000 in
theorem gX4_gather_X5_note_u60X4 : GoodIn wsX4_gather (va_wsU RX4 60 RX4 "SlidTokens$Search" ⟨"SlidTokens$Paints", "note", "(I)V"⟩ yX5_note wsX5_note) := goodIn_app (goodIn_of _ (by decide +kernel)) ggX4_gather_X5_note
theorem dX4_gather_0 : decode cX4_gather 0 = .ok (.aload_n 0, 1) := by decide +kernel
theorem dX4_gather_1 : decode cX4_gather 1 = .ok (.iconst 0, 1) := by decide +kernel
theorem dX4_gather_2 : decode cX4_gather 2 = .ok (.putfield 57, 3) := by decide +kernel
theorem dX4_gather_5 : decode cX4_gather 5 = .ok (.iconst 0, 1) := by decide +kernel
theorem dX4_gather_6 : decode cX4_gather 6 = .ok (.istore_n 2, 1) := by decide +kernel
theorem dX4_gather_7 : decode cX4_gather 7 = .ok (.iload_n 2, 1) := by decide +kernel
theorem dX4_gather_8 : decode cX4_gather 8 = .ok (.aload_n 0, 1) := by decide +kernel
theorem dX4_gather_9 : decode cX4_gather 9 = .ok (.getfield 15, 3) := by decide +kernel
theorem dX4_gather_12 : decode cX4_gather 12 = .ok (.getfield 19, 3) := by decide +kernel
theorem dX4_gather_15 : decode cX4_gather 15 = .ok (.if_icmp .ge 71, 3) := by decide +kernel
theorem dX4_gather_18 : decode cX4_gather 18 = .ok (.iload_n 1, 1) := by decide +kernel
theorem dX4_gather_19 : decode cX4_gather 19 = .ok (.iconst 3, 1) := by decide +kernel
theorem dX4_gather_20 : decode cX4_gather 20 = .ok (.iconst 2, 1) := by decide +kernel
theorem dX4_gather_21 : decode cX4_gather 21 = .ok (.iload_n 2, 1) := by decide +kernel
theorem dX4_gather_22 : decode cX4_gather 22 = .ok (.imul, 1) := by decide +kernel
theorem dX4_gather_23 : decode cX4_gather 23 = .ok (.ishl, 1) := by decide +kernel
theorem dX4_gather_24 : decode cX4_gather 24 = .ok (.iconst (-1), 1) := by decide +kernel
theorem dX4_gather_25 : decode cX4_gather 25 = .ok (.ixor, 1) := by decide +kernel
theorem dX4_gather_26 : decode cX4_gather 26 = .ok (.iand, 1) := by decide +kernel
theorem dX4_gather_27 : decode cX4_gather 27 = .ok (.istore_n 3, 1) := by decide +kernel
theorem dX4_gather_28 : decode cX4_gather 28 = .ok (.iconst 0, 1) := by decide +kernel
theorem dX4_gather_29 : decode cX4_gather 29 = .ok (.istore 4, 2) := by decide +kernel
theorem dX4_gather_31 : decode cX4_gather 31 = .ok (.iload 4, 2) := by decide +kernel
theorem dX4_gather_33 : decode cX4_gather 33 = .ok (.aload_n 0, 1) := by decide +kernel
theorem dX4_gather_34 : decode cX4_gather 34 = .ok (.getfield 9, 3) := by decide +kernel
theorem dX4_gather_37 : decode cX4_gather 37 = .ok (.if_icmp .ge 43, 3) := by decide +kernel
theorem dX4_gather_40 : decode cX4_gather 40 = .ok (.iload_n 3, 1) := by decide +kernel
theorem dX4_gather_41 : decode cX4_gather 41 = .ok (.iload 4, 2) := by decide +kernel
theorem dX4_gather_43 : decode cX4_gather 43 = .ok (.iconst 2, 1) := by decide +kernel
theorem dX4_gather_44 : decode cX4_gather 44 = .ok (.iload_n 2, 1) := by decide +kernel
theorem dX4_gather_45 : decode cX4_gather 45 = .ok (.imul, 1) := by decide +kernel
theorem dX4_gather_46 : decode cX4_gather 46 = .ok (.ishl, 1) := by decide +kernel
theorem dX4_gather_47 : decode cX4_gather 47 = .ok (.ior, 1) := by decide +kernel
theorem dX4_gather_48 : decode cX4_gather 48 = .ok (.istore 5, 2) := by decide +kernel
theorem dX4_gather_50 : decode cX4_gather 50 = .ok (.iload 5, 2) := by decide +kernel
theorem dX4_gather_52 : decode cX4_gather 52 = .ok (.iload_n 1, 1) := by decide +kernel
theorem dX4_gather_53 : decode cX4_gather 53 = .ok (.if_icmp .eq 21, 3) := by decide +kernel
theorem dX4_gather_56 : decode cX4_gather 56 = .ok (.aload_n 0, 1) := by decide +kernel
theorem dX4_gather_57 : decode cX4_gather 57 = .ok (.getfield 24, 3) := by decide +kernel
theorem dX4_gather_60 : decode cX4_gather 60 = .ok (.iload 5, 2) := by decide +kernel
theorem dX4_gather_62 : decode cX4_gather 62 = .ok (.iaload, 1) := by decide +kernel
theorem dX4_gather_63 : decode cX4_gather 63 = .ok (.bipush (-2), 2) := by decide +kernel
theorem dX4_gather_65 : decode cX4_gather 65 = .ok (.if_icmp .eq 9, 3) := by decide +kernel
theorem dX4_gather_68 : decode cX4_gather 68 = .ok (.aload_n 0, 1) := by decide +kernel
theorem dX4_gather_69 : decode cX4_gather 69 = .ok (.iload 5, 2) := by decide +kernel
theorem dX4_gather_71 : decode cX4_gather 71 = .ok (.invokevirtual 60, 3) := by decide +kernel
theorem dX4_gather_74 : decode cX4_gather 74 = .ok (.iinc 4 1, 3) := by decide +kernel
theorem dX4_gather_77 : decode cX4_gather 77 = .ok (.goto (-46), 3) := by decide +kernel
theorem dX4_gather_80 : decode cX4_gather 80 = .ok (.iinc 2 1, 3) := by decide +kernel
theorem dX4_gather_83 : decode cX4_gather 83 = .ok (.goto (-76), 3) := by decide +kernel
theorem dX4_gather_86 : decode cX4_gather 86 = .ok (.return_, 1) := by decide +kernel
theorem dX4_many_0 : decode cX4_many 0 = .ok (.iconst 0, 1) := by decide +kernel
theorem dX4_many_1 : decode cX4_many 1 = .ok (.istore_n 1, 1) := by decide +kernel
theorem dX4_many_2 : decode cX4_many 2 = .ok (.iconst 0, 1) := by decide +kernel
theorem dX4_many_3 : decode cX4_many 3 = .ok (.istore_n 2, 1) := by decide +kernel
theorem dX4_many_4 : decode cX4_many 4 = .ok (.iload_n 2, 1) := by decide +kernel
theorem dX4_many_5 : decode cX4_many 5 = .ok (.aload_n 0, 1) := by decide +kernel
theorem dX4_many_6 : decode cX4_many 6 = .ok (.getfield 34, 3) := by decide +kernel
theorem dX4_many_9 : decode cX4_many 9 = .ok (.if_icmp .ge 23, 3) := by decide +kernel
theorem dX4_many_12 : decode cX4_many 12 = .ok (.aload_n 0, 1) := by decide +kernel
theorem dX4_many_13 : decode cX4_many 13 = .ok (.getfield 24, 3) := by decide +kernel
theorem dX4_many_16 : decode cX4_many 16 = .ok (.iload_n 2, 1) := by decide +kernel
theorem dX4_many_17 : decode cX4_many 17 = .ok (.iaload, 1) := by decide +kernel
theorem dX4_many_18 : decode cX4_many 18 = .ok (.bipush (-2), 2) := by decide +kernel
theorem dX4_many_20 : decode cX4_many 20 = .ok (.if_icmp .eq 6, 3) := by decide +kernel
theorem dX4_many_23 : decode cX4_many 23 = .ok (.iinc 1 1, 3) := by decide +kernel
theorem dX4_many_26 : decode cX4_many 26 = .ok (.iinc 2 1, 3) := by decide +kernel
theorem dX4_many_29 : decode cX4_many 29 = .ok (.goto (-25), 3) := by decide +kernel
theorem dX4_many_32 : decode cX4_many 32 = .ok (.iload_n 1, 1) := by decide +kernel
theorem dX4_many_33 : decode cX4_many 33 = .ok (.ireturn, 1) := by decide +kernel
set_option maxRecDepth 20000 in
theorem ggX4_stuck_X4_gather : GoodIn wsX4_stuck wsX4_gather := goodIn_r _ [11, 5, 6, 12, 13, 14, 3, 4, 15, 16, 17, 18, 19, 20, 21, 22, 23, 24, 25, 26, 27, 28, 29, 30, 31, 32, 33, 34, 35, 36, 37, 38, 39, 40, 41] (by decide +kernel) (by decide +kernel)
set_option maxRecDepth 20000 in
theorem gX4_stuck_X4_gather : GoodIn wsX4_stuck (wsV RX4 64 RX4 yX4_gather wsX4_gather) := goodIn_app (goodIn_of _ (by decide +kernel)) ggX4_stuck_X4_gather
theorem dX4_stuck_0 : decode cX4_stuck 0 = .ok (.iconst 0, 1) := by decide +kernel
theorem dX4_stuck_1 : decode cX4_stuck 1 = .ok (.istore_n 1, 1) := by decide +kernel
theorem dX4_stuck_2 : decode cX4_stuck 2 = .ok (.iconst 0, 1) := by decide +kernel
theorem dX4_stuck_3 : decode cX4_stuck 3 = .ok (.istore_n 2, 1) := by decide +kernel
theorem dX4_stuck_4 : decode cX4_stuck 4 = .ok (.iload_n 2, 1) := by decide +kernel
theorem dX4_stuck_5 : decode cX4_stuck 5 = .ok (.aload_n 0, 1) := by decide +kernel
theorem dX4_stuck_6 : decode cX4_stuck 6 = .ok (.getfield 34, 3) := by decide +kernel
theorem dX4_stuck_9 : decode cX4_stuck 9 = .ok (.if_icmp .ge 40, 3) := by decide +kernel
theorem dX4_stuck_12 : decode cX4_stuck 12 = .ok (.aload_n 0, 1) := by decide +kernel
theorem dX4_stuck_13 : decode cX4_stuck 13 = .ok (.getfield 24, 3) := by decide +kernel
theorem dX4_stuck_16 : decode cX4_stuck 16 = .ok (.iload_n 2, 1) := by decide +kernel
theorem dX4_stuck_17 : decode cX4_stuck 17 = .ok (.iaload, 1) := by decide +kernel
theorem dX4_stuck_18 : decode cX4_stuck 18 = .ok (.bipush (-2), 2) := by decide +kernel
theorem dX4_stuck_20 : decode cX4_stuck 20 = .ok (.if_icmp .eq 23, 3) := by decide +kernel
theorem dX4_stuck_23 : decode cX4_stuck 23 = .ok (.aload_n 0, 1) := by decide +kernel
theorem dX4_stuck_24 : decode cX4_stuck 24 = .ok (.iload_n 2, 1) := by decide +kernel
theorem dX4_stuck_25 : decode cX4_stuck 25 = .ok (.invokevirtual 64, 3) := by decide +kernel
theorem dX4_stuck_28 : decode cX4_stuck 28 = .ok (.iload_n 1, 1) := by decide +kernel
theorem dX4_stuck_29 : decode cX4_stuck 29 = .ok (.aload_n 0, 1) := by decide +kernel
theorem dX4_stuck_30 : decode cX4_stuck 30 = .ok (.getfield 57, 3) := by decide +kernel
theorem dX4_stuck_33 : decode cX4_stuck 33 = .ok (.ifCond .ne 7, 3) := by decide +kernel
theorem dX4_stuck_36 : decode cX4_stuck 36 = .ok (.iconst 1, 1) := by decide +kernel
theorem dX4_stuck_37 : decode cX4_stuck 37 = .ok (.goto 4, 3) := by decide +kernel
theorem dX4_stuck_40 : decode cX4_stuck 40 = .ok (.iconst 0, 1) := by decide +kernel
theorem dX4_stuck_41 : decode cX4_stuck 41 = .ok (.iadd, 1) := by decide +kernel
theorem dX4_stuck_42 : decode cX4_stuck 42 = .ok (.istore_n 1, 1) := by decide +kernel
theorem dX4_stuck_43 : decode cX4_stuck 43 = .ok (.iinc 2 1, 3) := by decide +kernel
theorem dX4_stuck_46 : decode cX4_stuck 46 = .ok (.goto (-42), 3) := by decide +kernel
theorem dX4_stuck_49 : decode cX4_stuck 49 = .ok (.iload_n 1, 1) := by decide +kernel
theorem dX4_stuck_50 : decode cX4_stuck 50 = .ok (.ireturn, 1) := by decide +kernel
theorem dX5_init_0 : decode cX5_init 0 = .ok (.aload_n 0, 1) := by decide +kernel
theorem dX5_init_1 : decode cX5_init 1 = .ok (.invokespecial 3, 3) := by decide +kernel
theorem dX5_init_4 : decode cX5_init 4 = .ok (.aload_n 0, 1) := by decide +kernel
theorem dX5_init_5 : decode cX5_init 5 = .ok (.iconst 0, 1) := by decide +kernel
theorem dX5_init_6 : decode cX5_init 6 = .ok (.putfield 9, 3) := by decide +kernel
theorem dX5_init_9 : decode cX5_init 9 = .ok (.aload_n 0, 1) := by decide +kernel
theorem dX5_init_10 : decode cX5_init 10 = .ok (.iconst 0, 1) := by decide +kernel
theorem dX5_init_11 : decode cX5_init 11 = .ok (.putfield 15, 3) := by decide +kernel
theorem dX5_init_14 : decode cX5_init 14 = .ok (.aload_n 0, 1) := by decide +kernel
theorem dX5_init_15 : decode cX5_init 15 = .ok (.iconst 0, 1) := by decide +kernel
theorem dX5_init_16 : decode cX5_init 16 = .ok (.putfield 18, 3) := by decide +kernel
theorem dX5_init_19 : decode cX5_init 19 = .ok (.aload_n 0, 1) := by decide +kernel
theorem dX5_init_20 : decode cX5_init 20 = .ok (.iload_n 1, 1) := by decide +kernel
theorem dX5_init_21 : decode cX5_init 21 = .ok (.newarray .int, 2) := by decide +kernel
theorem dX5_init_23 : decode cX5_init 23 = .ok (.putfield 21, 3) := by decide +kernel
theorem dX5_init_26 : decode cX5_init 26 = .ok (.aload_n 0, 1) := by decide +kernel
theorem dX5_init_27 : decode cX5_init 27 = .ok (.iload_n 1, 1) := by decide +kernel
theorem dX5_init_28 : decode cX5_init 28 = .ok (.newarray .int, 2) := by decide +kernel
theorem dX5_init_30 : decode cX5_init 30 = .ok (.putfield 25, 3) := by decide +kernel
theorem dX5_init_33 : decode cX5_init 33 = .ok (.aload_n 0, 1) := by decide +kernel
theorem dX5_init_34 : decode cX5_init 34 = .ok (.iload_n 2, 1) := by decide +kernel
theorem dX5_init_35 : decode cX5_init 35 = .ok (.newarray .int, 2) := by decide +kernel
theorem dX5_init_37 : decode cX5_init 37 = .ok (.putfield 28, 3) := by decide +kernel
theorem dX5_init_40 : decode cX5_init 40 = .ok (.return_, 1) := by decide +kernel
set_option maxRecDepth 20000 in
theorem ggX5_spread_X5_enter : GoodIn wsX5_spread wsX5_enter := goodIn_r _ [11, 1, 3, 2, 61, 62, 63, 64, 65, 66, 67, 68, 69, 70, 71, 72, 73, 74, 75, 76, 77] (by decide +kernel) (by decide +kernel)
set_option maxRecDepth 20000 in
theorem gX5_spread_X5_enter_u31X2 : GoodIn wsX5_spread (va_wsU RX5 31 RX2 "SlidTokens$Search" ⟨"SlidTokens$Search", "enter", "(II)V"⟩ yX5_enter wsX5_enter) := goodIn_app (goodIn_of _ (by decide +kernel)) ggX5_spread_X5_enter
set_option maxRecDepth 20000 in
theorem gX5_spread_X5_enter_u31X4 : GoodIn wsX5_spread (va_wsU RX5 31 RX4 "SlidTokens$Search" ⟨"SlidTokens$Search", "enter", "(II)V"⟩ yX5_enter wsX5_enter) := goodIn_app (goodIn_of _ (by decide +kernel)) ggX5_spread_X5_enter
set_option maxRecDepth 20000 in
theorem ggX5_spread_X2_gather : GoodIn wsX5_spread wsX2_gather := goodIn_r _ [18, 19, 20, 21, 22, 23, 24, 25, 26, 17, 27, 28, 29, 30, 31, 32, 33, 34, 35, 36, 37, 38, 39, 40, 41, 42, 43, 44, 45, 10, 46, 4, 5, 61, 62, 63, 64, 65, 66, 67, 68, 69, 70, 71, 72, 73, 74, 75, 76, 77, 78, 79] (by decide +kernel) (by decide +kernel)
set_option maxRecDepth 20000 in
theorem gX5_spread_X2_gather_u35X2 : GoodIn wsX5_spread (va_wsU RX5 35 RX2 "SlidTokens$Search" ⟨"SlidTokens$Search", "gather", "(I)V"⟩ yX2_gather wsX2_gather) := goodIn_app (goodIn_of _ (by decide +kernel)) ggX5_spread_X2_gather
set_option maxRecDepth 20000 in
theorem ggX5_spread_X4_gather : GoodIn wsX5_spread wsX4_gather := goodIn_r _ [50, 51, 52, 53, 54, 55, 56, 57, 58, 59, 60, 45, 10, 46, 4, 5, 61, 62, 63, 64, 65, 66, 67, 68, 69, 70, 71, 72, 73, 74, 75, 76, 77, 78, 79] (by decide +kernel) (by decide +kernel)
set_option maxRecDepth 20000 in
theorem gX5_spread_X4_gather_u35X4 : GoodIn wsX5_spread (va_wsU RX5 35 RX4 "SlidTokens$Search" ⟨"SlidTokens$Search", "gather", "(I)V"⟩ yX4_gather wsX4_gather) := goodIn_app (goodIn_of _ (by decide +kernel)) ggX5_spread_X4_gather
theorem dX5_spread_0 : decode cX5_spread 0 = .ok (.aload_n 0, 1) := by decide +kernel
theorem dX5_spread_1 : decode cX5_spread 1 = .ok (.getfield 15, 3) := by decide +kernel
theorem dX5_spread_4 : decode cX5_spread 4 = .ok (.istore_n 3, 1) := by decide +kernel
theorem dX5_spread_5 : decode cX5_spread 5 = .ok (.aload_n 0, 1) := by decide +kernel
theorem dX5_spread_6 : decode cX5_spread 6 = .ok (.getfield 21, 3) := by decide +kernel
theorem dX5_spread_9 : decode cX5_spread 9 = .ok (.iload_n 1, 1) := by decide +kernel
theorem dX5_spread_10 : decode cX5_spread 10 = .ok (.iaload, 1) := by decide +kernel
theorem dX5_spread_11 : decode cX5_spread 11 = .ok (.bipush (-2), 2) := by decide +kernel
theorem dX5_spread_13 : decode cX5_spread 13 = .ok (.if_icmp .eq 7, 3) := by decide +kernel
theorem dX5_spread_16 : decode cX5_spread 16 = .ok (.iconst 1, 1) := by decide +kernel
theorem dX5_spread_17 : decode cX5_spread 17 = .ok (.goto 4, 3) := by decide +kernel
theorem dX5_spread_20 : decode cX5_spread 20 = .ok (.iconst 0, 1) := by decide +kernel
theorem dX5_spread_21 : decode cX5_spread 21 = .ok (.istore 4, 2) := by decide +kernel
theorem dX5_spread_23 : decode cX5_spread 23 = .ok (.aload_n 0, 1) := by decide +kernel
theorem dX5_spread_24 : decode cX5_spread 24 = .ok (.iload_n 1, 1) := by decide +kernel
theorem dX5_spread_25 : decode cX5_spread 25 = .ok (.iconst 0, 1) := by decide +kernel
theorem dX5_spread_26 : decode cX5_spread 26 = .ok (.invokevirtual 31, 3) := by decide +kernel
theorem dX5_spread_29 : decode cX5_spread 29 = .ok (.iload 4, 2) := by decide +kernel
theorem dX5_spread_31 : decode cX5_spread 31 = .ok (.ifCond .eq 109, 3) := by decide +kernel
theorem dX5_spread_34 : decode cX5_spread 34 = .ok (.iload_n 3, 1) := by decide +kernel
theorem dX5_spread_35 : decode cX5_spread 35 = .ok (.aload_n 0, 1) := by decide +kernel
theorem dX5_spread_36 : decode cX5_spread 36 = .ok (.getfield 15, 3) := by decide +kernel
theorem dX5_spread_39 : decode cX5_spread 39 = .ok (.if_icmp .ge 101, 3) := by decide +kernel
theorem dX5_spread_42 : decode cX5_spread 42 = .ok (.iload_n 3, 1) := by decide +kernel
theorem dX5_spread_43 : decode cX5_spread 43 = .ok (.aload_n 0, 1) := by decide +kernel
theorem dX5_spread_44 : decode cX5_spread 44 = .ok (.getfield 25, 3) := by decide +kernel
theorem dX5_spread_47 : decode cX5_spread 47 = .ok (.arraylength, 1) := by decide +kernel
theorem dX5_spread_48 : decode cX5_spread 48 = .ok (.if_icmp .ge 92, 3) := by decide +kernel
theorem dX5_spread_51 : decode cX5_spread 51 = .ok (.iload_n 2, 1) := by decide +kernel
theorem dX5_spread_52 : decode cX5_spread 52 = .ok (.iconst (-1), 1) := by decide +kernel
theorem dX5_spread_53 : decode cX5_spread 53 = .ok (.if_icmp .eq 13, 3) := by decide +kernel
theorem dX5_spread_56 : decode cX5_spread 56 = .ok (.aload_n 0, 1) := by decide +kernel
theorem dX5_spread_57 : decode cX5_spread 57 = .ok (.getfield 21, 3) := by decide +kernel
theorem dX5_spread_60 : decode cX5_spread 60 = .ok (.iload_n 2, 1) := by decide +kernel
theorem dX5_spread_61 : decode cX5_spread 61 = .ok (.iaload, 1) := by decide +kernel
theorem dX5_spread_62 : decode cX5_spread 62 = .ok (.ifCond .lt 4, 3) := by decide +kernel
theorem dX5_spread_65 : decode cX5_spread 65 = .ok (.return_, 1) := by decide +kernel
theorem dX5_spread_66 : decode cX5_spread 66 = .ok (.aload_n 0, 1) := by decide +kernel
theorem dX5_spread_67 : decode cX5_spread 67 = .ok (.getfield 25, 3) := by decide +kernel
theorem dX5_spread_70 : decode cX5_spread 70 = .ok (.iload_n 3, 1) := by decide +kernel
theorem dX5_spread_71 : decode cX5_spread 71 = .ok (.iaload, 1) := by decide +kernel
theorem dX5_spread_72 : decode cX5_spread 72 = .ok (.istore 5, 2) := by decide +kernel
theorem dX5_spread_74 : decode cX5_spread 74 = .ok (.aload_n 0, 1) := by decide +kernel
theorem dX5_spread_75 : decode cX5_spread 75 = .ok (.iload 5, 2) := by decide +kernel
theorem dX5_spread_77 : decode cX5_spread 77 = .ok (.invokevirtual 35, 3) := by decide +kernel
theorem dX5_spread_80 : decode cX5_spread 80 = .ok (.iconst 0, 1) := by decide +kernel
theorem dX5_spread_81 : decode cX5_spread 81 = .ok (.istore 6, 2) := by decide +kernel
theorem dX5_spread_83 : decode cX5_spread 83 = .ok (.iload 6, 2) := by decide +kernel
theorem dX5_spread_85 : decode cX5_spread 85 = .ok (.aload_n 0, 1) := by decide +kernel
theorem dX5_spread_86 : decode cX5_spread 86 = .ok (.getfield 18, 3) := by decide +kernel
theorem dX5_spread_89 : decode cX5_spread 89 = .ok (.if_icmp .ge 45, 3) := by decide +kernel
theorem dX5_spread_92 : decode cX5_spread 92 = .ok (.aload_n 0, 1) := by decide +kernel
theorem dX5_spread_93 : decode cX5_spread 93 = .ok (.getfield 21, 3) := by decide +kernel
theorem dX5_spread_96 : decode cX5_spread 96 = .ok (.aload_n 0, 1) := by decide +kernel
theorem dX5_spread_97 : decode cX5_spread 97 = .ok (.getfield 28, 3) := by decide +kernel
theorem dX5_spread_100 : decode cX5_spread 100 = .ok (.iload 6, 2) := by decide +kernel
theorem dX5_spread_102 : decode cX5_spread 102 = .ok (.iaload, 1) := by decide +kernel
theorem dX5_spread_103 : decode cX5_spread 103 = .ok (.iaload, 1) := by decide +kernel
theorem dX5_spread_104 : decode cX5_spread 104 = .ok (.iconst (-1), 1) := by decide +kernel
theorem dX5_spread_105 : decode cX5_spread 105 = .ok (.if_icmp .ne 23, 3) := by decide +kernel
theorem dX5_spread_108 : decode cX5_spread 108 = .ok (.aload_n 0, 1) := by decide +kernel
theorem dX5_spread_109 : decode cX5_spread 109 = .ok (.aload_n 0, 1) := by decide +kernel
theorem dX5_spread_110 : decode cX5_spread 110 = .ok (.getfield 28, 3) := by decide +kernel
theorem dX5_spread_113 : decode cX5_spread 113 = .ok (.iload 6, 2) := by decide +kernel
theorem dX5_spread_115 : decode cX5_spread 115 = .ok (.iaload, 1) := by decide +kernel
theorem dX5_spread_116 : decode cX5_spread 116 = .ok (.aload_n 0, 1) := by decide +kernel
theorem dX5_spread_117 : decode cX5_spread 117 = .ok (.getfield 21, 3) := by decide +kernel
theorem dX5_spread_120 : decode cX5_spread 120 = .ok (.iload 5, 2) := by decide +kernel
theorem dX5_spread_122 : decode cX5_spread 122 = .ok (.iaload, 1) := by decide +kernel
theorem dX5_spread_123 : decode cX5_spread 123 = .ok (.iconst 1, 1) := by decide +kernel
theorem dX5_spread_124 : decode cX5_spread 124 = .ok (.iadd, 1) := by decide +kernel
theorem dX5_spread_125 : decode cX5_spread 125 = .ok (.invokevirtual 31, 3) := by decide +kernel
theorem dX5_spread_128 : decode cX5_spread 128 = .ok (.iinc 6 1, 3) := by decide +kernel
theorem dX5_spread_131 : decode cX5_spread 131 = .ok (.goto (-48), 3) := by decide +kernel
theorem dX5_spread_134 : decode cX5_spread 134 = .ok (.iinc 3 1, 3) := by decide +kernel
theorem dX5_spread_137 : decode cX5_spread 137 = .ok (.goto (-108), 3) := by decide +kernel
theorem dX5_spread_140 : decode cX5_spread 140 = .ok (.return_, 1) := by decide +kernel
theorem dX5_enter_0 : decode cX5_enter 0 = .ok (.aload_n 0, 1) := by decide +kernel
theorem dX5_enter_1 : decode cX5_enter 1 = .ok (.getfield 15, 3) := by decide +kernel
theorem dX5_enter_4 : decode cX5_enter 4 = .ok (.aload_n 0, 1) := by decide +kernel
theorem dX5_enter_5 : decode cX5_enter 5 = .ok (.getfield 25, 3) := by decide +kernel
theorem dX5_enter_8 : decode cX5_enter 8 = .ok (.arraylength, 1) := by decide +kernel
theorem dX5_enter_9 : decode cX5_enter 9 = .ok (.if_icmp .ge 30, 3) := by decide +kernel
theorem dX5_enter_12 : decode cX5_enter 12 = .ok (.aload_n 0, 1) := by decide +kernel
theorem dX5_enter_13 : decode cX5_enter 13 = .ok (.getfield 21, 3) := by decide +kernel
theorem dX5_enter_16 : decode cX5_enter 16 = .ok (.iload_n 1, 1) := by decide +kernel
theorem dX5_enter_17 : decode cX5_enter 17 = .ok (.iload_n 2, 1) := by decide +kernel
theorem dX5_enter_18 : decode cX5_enter 18 = .ok (.iastore, 1) := by decide +kernel
theorem dX5_enter_19 : decode cX5_enter 19 = .ok (.aload_n 0, 1) := by decide +kernel
theorem dX5_enter_20 : decode cX5_enter 20 = .ok (.getfield 25, 3) := by decide +kernel
theorem dX5_enter_23 : decode cX5_enter 23 = .ok (.aload_n 0, 1) := by decide +kernel
theorem dX5_enter_24 : decode cX5_enter 24 = .ok (.getfield 15, 3) := by decide +kernel
theorem dX5_enter_27 : decode cX5_enter 27 = .ok (.iload_n 1, 1) := by decide +kernel
theorem dX5_enter_28 : decode cX5_enter 28 = .ok (.iastore, 1) := by decide +kernel
theorem dX5_enter_29 : decode cX5_enter 29 = .ok (.aload_n 0, 1) := by decide +kernel
theorem dX5_enter_30 : decode cX5_enter 30 = .ok (.dup, 1) := by decide +kernel
theorem dX5_enter_31 : decode cX5_enter 31 = .ok (.getfield 15, 3) := by decide +kernel
theorem dX5_enter_34 : decode cX5_enter 34 = .ok (.iconst 1, 1) := by decide +kernel
theorem dX5_enter_35 : decode cX5_enter 35 = .ok (.iadd, 1) := by decide +kernel
theorem dX5_enter_36 : decode cX5_enter 36 = .ok (.putfield 15, 3) := by decide +kernel
theorem dX5_enter_39 : decode cX5_enter 39 = .ok (.return_, 1) := by decide +kernel
theorem dX5_note_0 : decode cX5_note 0 = .ok (.aload_n 0, 1) := by decide +kernel
theorem dX5_note_1 : decode cX5_note 1 = .ok (.getfield 18, 3) := by decide +kernel
theorem dX5_note_4 : decode cX5_note 4 = .ok (.aload_n 0, 1) := by decide +kernel
theorem dX5_note_5 : decode cX5_note 5 = .ok (.getfield 28, 3) := by decide +kernel
theorem dX5_note_8 : decode cX5_note 8 = .ok (.arraylength, 1) := by decide +kernel
theorem dX5_note_9 : decode cX5_note 9 = .ok (.if_icmp .ge 23, 3) := by decide +kernel
theorem dX5_note_12 : decode cX5_note 12 = .ok (.aload_n 0, 1) := by decide +kernel
theorem dX5_note_13 : decode cX5_note 13 = .ok (.getfield 28, 3) := by decide +kernel
theorem dX5_note_16 : decode cX5_note 16 = .ok (.aload_n 0, 1) := by decide +kernel
theorem dX5_note_17 : decode cX5_note 17 = .ok (.getfield 18, 3) := by decide +kernel
theorem dX5_note_20 : decode cX5_note 20 = .ok (.iload_n 1, 1) := by decide +kernel
theorem dX5_note_21 : decode cX5_note 21 = .ok (.iastore, 1) := by decide +kernel
theorem dX5_note_22 : decode cX5_note 22 = .ok (.aload_n 0, 1) := by decide +kernel
theorem dX5_note_23 : decode cX5_note 23 = .ok (.dup, 1) := by decide +kernel
theorem dX5_note_24 : decode cX5_note 24 = .ok (.getfield 18, 3) := by decide +kernel
theorem dX5_note_27 : decode cX5_note 27 = .ok (.iconst 1, 1) := by decide +kernel
theorem dX5_note_28 : decode cX5_note 28 = .ok (.iadd, 1) := by decide +kernel
theorem dX5_note_29 : decode cX5_note 29 = .ok (.putfield 18, 3) := by decide +kernel
theorem dX5_note_32 : decode cX5_note 32 = .ok (.return_, 1) := by decide +kernel
set_option maxRecDepth 20000 in
theorem ggX5_fewest_X5_spread : GoodIn wsX5_fewest wsX5_spread := goodIn_r _ [7, 8, 1, 9, 10, 11, 12, 13, 14, 15, 6, 16, 17, 18, 19, 20, 21, 22, 23, 24, 25, 26, 27, 28, 29, 30, 31, 32, 33, 34, 35, 36, 37, 38, 39, 40, 41, 42, 43, 44, 45, 46, 47, 48, 49, 50, 51, 52, 53, 54, 55, 56, 57, 58, 59, 60, 61, 62, 63, 64, 65, 67, 68, 69, 70, 71, 72, 73, 74, 75, 76, 77, 78, 79, 80, 81, 82, 83, 84, 85] (by decide +kernel) (by decide +kernel)
set_option maxRecDepth 20000 in
theorem gX5_fewest_X5_spread_u39X2 : GoodIn wsX5_fewest (va_wsU RX5 39 RX2 "SlidTokens$Search" ⟨"SlidTokens$Search", "spread", "(II)V"⟩ yX5_spread wsX5_spread) := goodIn_app (goodIn_of _ (by decide +kernel)) ggX5_fewest_X5_spread
set_option maxRecDepth 20000 in
theorem gX5_fewest_X5_spread_u39X4 : GoodIn wsX5_fewest (va_wsU RX5 39 RX4 "SlidTokens$Search" ⟨"SlidTokens$Search", "spread", "(II)V"⟩ yX5_spread wsX5_spread) := goodIn_app (goodIn_of _ (by decide +kernel)) ggX5_fewest_X5_spread
theorem dX5_fewest_0 : decode cX5_fewest 0 = .ok (.iload_n 1, 1) := by decide +kernel
theorem dX5_fewest_1 : decode cX5_fewest 1 = .ok (.iload_n 2, 1) := by decide +kernel
theorem dX5_fewest_2 : decode cX5_fewest 2 = .ok (.if_icmp .ne 5, 3) := by decide +kernel
theorem dX5_fewest_5 : decode cX5_fewest 5 = .ok (.iconst 0, 1) := by decide +kernel
theorem dX5_fewest_6 : decode cX5_fewest 6 = .ok (.ireturn, 1) := by decide +kernel
theorem dX5_fewest_7 : decode cX5_fewest 7 = .ok (.aload_n 0, 1) := by decide +kernel
theorem dX5_fewest_8 : decode cX5_fewest 8 = .ok (.getfield 21, 3) := by decide +kernel
theorem dX5_fewest_11 : decode cX5_fewest 11 = .ok (.iload_n 1, 1) := by decide +kernel
theorem dX5_fewest_12 : decode cX5_fewest 12 = .ok (.iaload, 1) := by decide +kernel
theorem dX5_fewest_13 : decode cX5_fewest 13 = .ok (.bipush (-2), 2) := by decide +kernel
theorem dX5_fewest_15 : decode cX5_fewest 15 = .ok (.if_icmp .eq 14, 3) := by decide +kernel
theorem dX5_fewest_18 : decode cX5_fewest 18 = .ok (.aload_n 0, 1) := by decide +kernel
theorem dX5_fewest_19 : decode cX5_fewest 19 = .ok (.getfield 21, 3) := by decide +kernel
theorem dX5_fewest_22 : decode cX5_fewest 22 = .ok (.iload_n 2, 1) := by decide +kernel
theorem dX5_fewest_23 : decode cX5_fewest 23 = .ok (.iaload, 1) := by decide +kernel
theorem dX5_fewest_24 : decode cX5_fewest 24 = .ok (.bipush (-2), 2) := by decide +kernel
theorem dX5_fewest_26 : decode cX5_fewest 26 = .ok (.if_icmp .ne 6, 3) := by decide +kernel
theorem dX5_fewest_29 : decode cX5_fewest 29 = .ok (.bipush (-9), 2) := by decide +kernel
theorem dX5_fewest_31 : decode cX5_fewest 31 = .ok (.ireturn, 1) := by decide +kernel
theorem dX5_fewest_32 : decode cX5_fewest 32 = .ok (.aload_n 0, 1) := by decide +kernel
theorem dX5_fewest_33 : decode cX5_fewest 33 = .ok (.iload_n 2, 1) := by decide +kernel
theorem dX5_fewest_34 : decode cX5_fewest 34 = .ok (.iload_n 1, 1) := by decide +kernel
theorem dX5_fewest_35 : decode cX5_fewest 35 = .ok (.invokevirtual 39, 3) := by decide +kernel
theorem dX5_fewest_38 : decode cX5_fewest 38 = .ok (.aload_n 0, 1) := by decide +kernel
theorem dX5_fewest_39 : decode cX5_fewest 39 = .ok (.getfield 21, 3) := by decide +kernel
theorem dX5_fewest_42 : decode cX5_fewest 42 = .ok (.iload_n 1, 1) := by decide +kernel
theorem dX5_fewest_43 : decode cX5_fewest 43 = .ok (.iaload, 1) := by decide +kernel
theorem dX5_fewest_44 : decode cX5_fewest 44 = .ok (.iconst (-1), 1) := by decide +kernel
theorem dX5_fewest_45 : decode cX5_fewest 45 = .ok (.if_icmp .ne 8, 3) := by decide +kernel
theorem dX5_fewest_48 : decode cX5_fewest 48 = .ok (.bipush (-9), 2) := by decide +kernel
theorem dX5_fewest_50 : decode cX5_fewest 50 = .ok (.goto 9, 3) := by decide +kernel
theorem dX5_fewest_53 : decode cX5_fewest 53 = .ok (.aload_n 0, 1) := by decide +kernel
theorem dX5_fewest_54 : decode cX5_fewest 54 = .ok (.getfield 21, 3) := by decide +kernel
theorem dX5_fewest_57 : decode cX5_fewest 57 = .ok (.iload_n 1, 1) := by decide +kernel
theorem dX5_fewest_58 : decode cX5_fewest 58 = .ok (.iaload, 1) := by decide +kernel
theorem dX5_fewest_59 : decode cX5_fewest 59 = .ok (.ireturn, 1) := by decide +kernel
set_option maxRecDepth 20000 in
theorem ggX5_components_X5_spread : GoodIn wsX5_components wsX5_spread := goodIn_r _ [8, 9, 2, 10, 11, 12, 13, 14, 15, 16, 7, 17, 18, 19, 20, 21, 22, 23, 24, 25, 26, 27, 28, 29, 30, 31, 32, 33, 34, 35, 36, 37, 38, 39, 40, 41, 42, 43, 44, 45, 46, 47, 48, 49, 50, 51, 52, 53, 54, 55, 56, 57, 58, 59, 60, 61, 62, 63, 64, 65, 66, 68, 69, 70, 71, 72, 73, 74, 75, 76, 77, 78, 79, 80, 81, 82, 83, 84, 85, 86] (by decide +kernel) (by decide +kernel)
set_option maxRecDepth 20000 in
theorem gX5_components_X5_spread_u39X2 : GoodIn wsX5_components (va_wsU RX5 39 RX2 "SlidTokens$Search" ⟨"SlidTokens$Search", "spread", "(II)V"⟩ yX5_spread wsX5_spread) := goodIn_app (goodIn_of _ (by decide +kernel)) ggX5_components_X5_spread
set_option maxRecDepth 20000 in
theorem gX5_components_X5_spread_u39X4 : GoodIn wsX5_components (va_wsU RX5 39 RX4 "SlidTokens$Search" ⟨"SlidTokens$Search", "spread", "(II)V"⟩ yX5_spread wsX5_spread) := goodIn_app (goodIn_of _ (by decide +kernel)) ggX5_components_X5_spread
theorem dX5_components_0 : decode cX5_components 0 = .ok (.iconst 0, 1) := by decide +kernel
theorem dX5_components_1 : decode cX5_components 1 = .ok (.istore_n 1, 1) := by decide +kernel
theorem dX5_components_2 : decode cX5_components 2 = .ok (.iconst 0, 1) := by decide +kernel
theorem dX5_components_3 : decode cX5_components 3 = .ok (.istore_n 2, 1) := by decide +kernel
theorem dX5_components_4 : decode cX5_components 4 = .ok (.iload_n 2, 1) := by decide +kernel
theorem dX5_components_5 : decode cX5_components 5 = .ok (.aload_n 0, 1) := by decide +kernel
theorem dX5_components_6 : decode cX5_components 6 = .ok (.getfield 9, 3) := by decide +kernel
theorem dX5_components_9 : decode cX5_components 9 = .ok (.if_icmp .ge 28, 3) := by decide +kernel
theorem dX5_components_12 : decode cX5_components 12 = .ok (.aload_n 0, 1) := by decide +kernel
theorem dX5_components_13 : decode cX5_components 13 = .ok (.getfield 21, 3) := by decide +kernel
theorem dX5_components_16 : decode cX5_components 16 = .ok (.iload_n 2, 1) := by decide +kernel
theorem dX5_components_17 : decode cX5_components 17 = .ok (.iaload, 1) := by decide +kernel
theorem dX5_components_18 : decode cX5_components 18 = .ok (.iconst (-1), 1) := by decide +kernel
theorem dX5_components_19 : decode cX5_components 19 = .ok (.if_icmp .ne 12, 3) := by decide +kernel
theorem dX5_components_22 : decode cX5_components 22 = .ok (.aload_n 0, 1) := by decide +kernel
theorem dX5_components_23 : decode cX5_components 23 = .ok (.iload_n 2, 1) := by decide +kernel
theorem dX5_components_24 : decode cX5_components 24 = .ok (.iconst (-1), 1) := by decide +kernel
theorem dX5_components_25 : decode cX5_components 25 = .ok (.invokevirtual 39, 3) := by decide +kernel
theorem dX5_components_28 : decode cX5_components 28 = .ok (.iinc 1 1, 3) := by decide +kernel
theorem dX5_components_31 : decode cX5_components 31 = .ok (.iinc 2 1, 3) := by decide +kernel
theorem dX5_components_34 : decode cX5_components 34 = .ok (.goto (-30), 3) := by decide +kernel
theorem dX5_components_37 : decode cX5_components 37 = .ok (.iload_n 1, 1) := by decide +kernel
theorem dX5_components_38 : decode cX5_components 38 = .ok (.ireturn, 1) := by decide +kernel
theorem dX6_init_0 : decode cX6_init 0 = .ok (.aload_n 0, 1) := by decide +kernel
theorem dX6_init_1 : decode cX6_init 1 = .ok (.invokespecial 3, 3) := by decide +kernel
theorem dX6_init_4 : decode cX6_init 4 = .ok (.return_, 1) := by decide +kernel
set_option maxRecDepth 20000 in
theorem ggX6_weigh_X6_isSwap : GoodIn wsX6_weigh wsX6_isSwap := goodIn_r _ [5, 6, 7, 8, 9, 10, 11, 12] (by decide +kernel) (by decide +kernel)
set_option maxRecDepth 20000 in
theorem gX6_weigh_X6_isSwap : GoodIn wsX6_weigh (va_wsS RX6 15 yX6_isSwap wsX6_isSwap) := goodIn_app (goodIn_of _ (by decide +kernel)) ggX6_weigh_X6_isSwap
set_option maxRecDepth 20000 in
theorem ggX6_weigh_J6_numberOfTrailingZeros_0f7a4 : GoodIn wsX6_weigh wsJ6_numberOfTrailingZeros_0f7a4 := goodIn_r _ [15, 16] (by decide +kernel) (by decide +kernel)
set_option maxRecDepth 20000 in
theorem gX6_weigh_J6_numberOfTrailingZeros_0f7a4 : GoodIn wsX6_weigh (va_wsS RX6 21 yJ6_numberOfTrailingZeros_0f7a4 wsJ6_numberOfTrailingZeros_0f7a4) := goodIn_app (goodIn_of _ (by decide +kernel)) ggX6_weigh_J6_numberOfTrailingZeros_0f7a4
set_option maxRecDepth 20000 in
theorem ggX6_weigh_X3_areJoined : GoodIn wsX6_weigh wsX3_areJoined := goodIn_r _ [21, 22, 23, 24, 25, 20, 26, 27, 29, 30] (by decide +kernel) (by decide +kernel)
set_option maxRecDepth 20000 in
theorem gX6_weigh_X3_areJoined : GoodIn wsX6_weigh (wsV RX6 27 RX3 yX3_areJoined wsX3_areJoined) := goodIn_app (goodIn_of _ (by decide +kernel)) ggX6_weigh_X3_areJoined
theorem dX6_weigh_0 : decode cX6_weigh 0 = .ok (.aload 4, 2) := by decide +kernel
theorem dX6_weigh_2 : decode cX6_weigh 2 = .ok (.dup, 1) := by decide +kernel
theorem dX6_weigh_3 : decode cX6_weigh 3 = .ok (.getfield 9, 3) := by decide +kernel
theorem dX6_weigh_6 : decode cX6_weigh 6 = .ok (.lconst 1, 1) := by decide +kernel
theorem dX6_weigh_7 : decode cX6_weigh 7 = .ok (.ladd, 1) := by decide +kernel
theorem dX6_weigh_8 : decode cX6_weigh 8 = .ok (.putfield 9, 3) := by decide +kernel
theorem dX6_weigh_11 : decode cX6_weigh 11 = .ok (.iload_n 2, 1) := by decide +kernel
theorem dX6_weigh_12 : decode cX6_weigh 12 = .ok (.iload_n 3, 1) := by decide +kernel
theorem dX6_weigh_13 : decode cX6_weigh 13 = .ok (.invokestatic 15, 3) := by decide +kernel
theorem dX6_weigh_16 : decode cX6_weigh 16 = .ok (.ifCond .ne 5, 3) := by decide +kernel
theorem dX6_weigh_19 : decode cX6_weigh 19 = .ok (.iconst 0, 1) := by decide +kernel
theorem dX6_weigh_20 : decode cX6_weigh 20 = .ok (.ireturn, 1) := by decide +kernel
theorem dX6_weigh_21 : decode cX6_weigh 21 = .ok (.iload_n 2, 1) := by decide +kernel
theorem dX6_weigh_22 : decode cX6_weigh 22 = .ok (.invokestatic 21, 3) := by decide +kernel
theorem dX6_weigh_25 : decode cX6_weigh 25 = .ok (.istore 5, 2) := by decide +kernel
theorem dX6_weigh_27 : decode cX6_weigh 27 = .ok (.iload_n 3, 1) := by decide +kernel
theorem dX6_weigh_28 : decode cX6_weigh 28 = .ok (.invokestatic 21, 3) := by decide +kernel
theorem dX6_weigh_31 : decode cX6_weigh 31 = .ok (.istore 6, 2) := by decide +kernel
theorem dX6_weigh_33 : decode cX6_weigh 33 = .ok (.aload_n 1, 1) := by decide +kernel
theorem dX6_weigh_34 : decode cX6_weigh 34 = .ok (.iload 5, 2) := by decide +kernel
theorem dX6_weigh_36 : decode cX6_weigh 36 = .ok (.iload 6, 2) := by decide +kernel
theorem dX6_weigh_38 : decode cX6_weigh 38 = .ok (.invokevirtual 27, 3) := by decide +kernel
theorem dX6_weigh_41 : decode cX6_weigh 41 = .ok (.ifCond .eq 7, 3) := by decide +kernel
theorem dX6_weigh_44 : decode cX6_weigh 44 = .ok (.iconst 1, 1) := by decide +kernel
theorem dX6_weigh_45 : decode cX6_weigh 45 = .ok (.goto 4, 3) := by decide +kernel
theorem dX6_weigh_48 : decode cX6_weigh 48 = .ok (.iconst 0, 1) := by decide +kernel
theorem dX6_weigh_49 : decode cX6_weigh 49 = .ok (.ireturn, 1) := by decide +kernel
set_option maxRecDepth 20000 in
theorem ggX6_isSwap_J6_bitCount_0f7a4 : GoodIn wsX6_isSwap wsJ6_bitCount_0f7a4 := goodIn_r _ [4, 5, 6, 7] (by decide +kernel) (by decide +kernel)
set_option maxRecDepth 20000 in
theorem gX6_isSwap_J6_bitCount_0f7a4 : GoodIn wsX6_isSwap (va_wsS RX6 32 yJ6_bitCount_0f7a4 wsJ6_bitCount_0f7a4) := goodIn_app (goodIn_of _ (by decide +kernel)) ggX6_isSwap_J6_bitCount_0f7a4
theorem dX6_isSwap_0 : decode cX6_isSwap 0 = .ok (.iload_n 0, 1) := by decide +kernel
theorem dX6_isSwap_1 : decode cX6_isSwap 1 = .ok (.invokestatic 32, 3) := by decide +kernel
theorem dX6_isSwap_4 : decode cX6_isSwap 4 = .ok (.iconst 1, 1) := by decide +kernel
theorem dX6_isSwap_5 : decode cX6_isSwap 5 = .ok (.if_icmp .ne 15, 3) := by decide +kernel
theorem dX6_isSwap_8 : decode cX6_isSwap 8 = .ok (.iload_n 1, 1) := by decide +kernel
theorem dX6_isSwap_9 : decode cX6_isSwap 9 = .ok (.invokestatic 32, 3) := by decide +kernel
theorem dX6_isSwap_12 : decode cX6_isSwap 12 = .ok (.iconst 1, 1) := by decide +kernel
theorem dX6_isSwap_13 : decode cX6_isSwap 13 = .ok (.if_icmp .ne 7, 3) := by decide +kernel
theorem dX6_isSwap_16 : decode cX6_isSwap 16 = .ok (.iconst 1, 1) := by decide +kernel
theorem dX6_isSwap_17 : decode cX6_isSwap 17 = .ok (.goto 4, 3) := by decide +kernel
theorem dX6_isSwap_20 : decode cX6_isSwap 20 = .ok (.iconst 0, 1) := by decide +kernel
theorem dX6_isSwap_21 : decode cX6_isSwap 21 = .ok (.ireturn, 1) := by decide +kernel
theorem dX7_init_0 : decode cX7_init 0 = .ok (.aload_n 0, 1) := by decide +kernel
theorem dX7_init_1 : decode cX7_init 1 = .ok (.invokespecial 1, 3) := by decide +kernel
theorem dX7_init_4 : decode cX7_init 4 = .ok (.aload_n 0, 1) := by decide +kernel
theorem dX7_init_5 : decode cX7_init 5 = .ok (.lconst 0, 1) := by decide +kernel
theorem dX7_init_6 : decode cX7_init 6 = .ok (.putfield 7, 3) := by decide +kernel
theorem dX7_init_9 : decode cX7_init 9 = .ok (.return_, 1) := by decide +kernel
set_option maxRecDepth 20000 in
theorem ggX8_init_X3_init : GoodIn wsX8_init wsX3_init := goodIn_r _ [34, 35, 2, 3, 36, 37, 38, 73, 74] (by decide +kernel) (by decide +kernel)
set_option maxRecDepth 20000 in
theorem gX8_init_X3_init_n9 : GoodIn wsX8_init (wsX3_init) := ggX8_init_X3_init
set_option maxRecDepth 20000 in
theorem ggX8_init_X2_init : GoodIn wsX8_init wsX2_init := goodIn_r _ [41, 36, 42, 43, 44, 45, 46, 47, 48, 49, 2, 3, 50, 51, 52, 53, 54, 55, 83, 84, 85, 86, 87, 88, 89, 90, 91, 92, 93, 94, 95, 96, 97, 98, 99] (by decide +kernel) (by decide +kernel)
set_option maxRecDepth 20000 in
theorem gX8_init_X2_init : GoodIn wsX8_init (wsX2_init) := ggX8_init_X2_init
set_option maxRecDepth 20000 in
theorem ggX8_init_X4_init : GoodIn wsX8_init wsX4_init := goodIn_r _ [58, 59, 60, 61, 46, 47, 48, 49, 2, 3, 50, 51, 52, 36, 53, 54, 55, 92, 93, 94, 95, 96, 97, 98, 99, 83, 84, 85, 86, 87, 88, 89, 90, 91] (by decide +kernel) (by decide +kernel)
set_option maxRecDepth 20000 in
theorem gX8_init_X4_init : GoodIn wsX8_init (wsX4_init) := ggX8_init_X4_init
set_option maxRecDepth 20000 in
theorem ggX8_init_X6_init : GoodIn wsX8_init wsX6_init := goodIn_r _ [63, 64, 2, 3] (by decide +kernel) (by decide +kernel)
set_option maxRecDepth 20000 in
theorem gX8_init_X6_init_n34 : GoodIn wsX8_init (wsX6_init) := ggX8_init_X6_init
set_option maxRecDepth 20000 in
theorem ggX8_init_X1_init : GoodIn wsX8_init wsX1_init := goodIn_r _ [66, 62, 18, 63, 64, 2, 3] (by decide +kernel) (by decide +kernel)
set_option maxRecDepth 20000 in
theorem gX8_init_X1_init_n37 : GoodIn wsX8_init (wsX1_init) := ggX8_init_X1_init
set_option maxRecDepth 20000 in
theorem ggX8_init_X0_init : GoodIn wsX8_init wsX0_init := goodIn_r _ [68, 65, 21, 66, 62, 18, 63, 64, 2, 3] (by decide +kernel) (by decide +kernel)
set_option maxRecDepth 20000 in
theorem gX8_init_X0_init_n40 : GoodIn wsX8_init (wsX0_init) := ggX8_init_X0_init
set_option maxRecDepth 20000 in
theorem ggX8_init_X7_init : GoodIn wsX8_init wsX7_init := goodIn_r _ [70, 71, 2, 3, 72, 100] (by decide +kernel) (by decide +kernel)
set_option maxRecDepth 20000 in
theorem gX8_init_X7_init_n47 : GoodIn wsX8_init (wsX7_init) := ggX8_init_X7_init
theorem dX8_init_0 : decode cX8_init 0 = .ok (.aload_n 0, 1) := by decide +kernel
theorem dX8_init_1 : decode cX8_init 1 = .ok (.invokespecial 1, 3) := by decide +kernel
theorem dX8_init_4 : decode cX8_init 4 = .ok (.aload_n 0, 1) := by decide +kernel
theorem dX8_init_5 : decode cX8_init 5 = .ok (.new 7, 3) := by decide +kernel
theorem dX8_init_8 : decode cX8_init 8 = .ok (.dup, 1) := by decide +kernel
theorem dX8_init_9 : decode cX8_init 9 = .ok (.invokespecial 9, 3) := by decide +kernel
theorem dX8_init_12 : decode cX8_init 12 = .ok (.putfield 10, 3) := by decide +kernel
theorem dX8_init_15 : decode cX8_init 15 = .ok (.aload_n 0, 1) := by decide +kernel
theorem dX8_init_16 : decode cX8_init 16 = .ok (.new 16, 3) := by decide +kernel
theorem dX8_init_19 : decode cX8_init 19 = .ok (.dup, 1) := by decide +kernel
theorem dX8_init_20 : decode cX8_init 20 = .ok (.aload_n 0, 1) := by decide +kernel
theorem dX8_init_21 : decode cX8_init 21 = .ok (.getfield 10, 3) := by decide +kernel
theorem dX8_init_24 : decode cX8_init 24 = .ok (.invokespecial 18, 3) := by decide +kernel
theorem dX8_init_27 : decode cX8_init 27 = .ok (.putfield 21, 3) := by decide +kernel
theorem dX8_init_30 : decode cX8_init 30 = .ok (.aload_n 0, 1) := by decide +kernel
theorem dX8_init_31 : decode cX8_init 31 = .ok (.new 25, 3) := by decide +kernel
theorem dX8_init_34 : decode cX8_init 34 = .ok (.dup, 1) := by decide +kernel
theorem dX8_init_35 : decode cX8_init 35 = .ok (.aload_n 0, 1) := by decide +kernel
theorem dX8_init_36 : decode cX8_init 36 = .ok (.getfield 10, 3) := by decide +kernel
theorem dX8_init_39 : decode cX8_init 39 = .ok (.invokespecial 27, 3) := by decide +kernel
theorem dX8_init_42 : decode cX8_init 42 = .ok (.putfield 28, 3) := by decide +kernel
theorem dX8_init_45 : decode cX8_init 45 = .ok (.aload_n 0, 1) := by decide +kernel
theorem dX8_init_46 : decode cX8_init 46 = .ok (.iconst 3, 1) := by decide +kernel
theorem dX8_init_47 : decode cX8_init 47 = .ok (.anewarray 32, 3) := by decide +kernel
theorem dX8_init_50 : decode cX8_init 50 = .ok (.dup, 1) := by decide +kernel
theorem dX8_init_51 : decode cX8_init 51 = .ok (.iconst 0, 1) := by decide +kernel
theorem dX8_init_52 : decode cX8_init 52 = .ok (.new 32, 3) := by decide +kernel
theorem dX8_init_55 : decode cX8_init 55 = .ok (.dup, 1) := by decide +kernel
theorem dX8_init_56 : decode cX8_init 56 = .ok (.invokespecial 34, 3) := by decide +kernel
theorem dX8_init_59 : decode cX8_init 59 = .ok (.aastore, 1) := by decide +kernel
theorem dX8_init_60 : decode cX8_init 60 = .ok (.dup, 1) := by decide +kernel
theorem dX8_init_61 : decode cX8_init 61 = .ok (.iconst 1, 1) := by decide +kernel
theorem dX8_init_62 : decode cX8_init 62 = .ok (.new 35, 3) := by decide +kernel
theorem dX8_init_65 : decode cX8_init 65 = .ok (.dup, 1) := by decide +kernel
theorem dX8_init_66 : decode cX8_init 66 = .ok (.invokespecial 37, 3) := by decide +kernel
theorem dX8_init_69 : decode cX8_init 69 = .ok (.aastore, 1) := by decide +kernel
theorem dX8_init_70 : decode cX8_init 70 = .ok (.dup, 1) := by decide +kernel
theorem dX8_init_71 : decode cX8_init 71 = .ok (.iconst 2, 1) := by decide +kernel
theorem dX8_init_72 : decode cX8_init 72 = .ok (.new 38, 3) := by decide +kernel
theorem dX8_init_75 : decode cX8_init 75 = .ok (.dup, 1) := by decide +kernel
theorem dX8_init_76 : decode cX8_init 76 = .ok (.invokespecial 40, 3) := by decide +kernel
theorem dX8_init_79 : decode cX8_init 79 = .ok (.aastore, 1) := by decide +kernel
theorem dX8_init_80 : decode cX8_init 80 = .ok (.putfield 41, 3) := by decide +kernel
theorem dX8_init_83 : decode cX8_init 83 = .ok (.aload_n 0, 1) := by decide +kernel
theorem dX8_init_84 : decode cX8_init 84 = .ok (.new 45, 3) := by decide +kernel
theorem dX8_init_87 : decode cX8_init 87 = .ok (.dup, 1) := by decide +kernel
theorem dX8_init_88 : decode cX8_init 88 = .ok (.invokespecial 47, 3) := by decide +kernel
theorem dX8_init_91 : decode cX8_init 91 = .ok (.putfield 48, 3) := by decide +kernel
theorem dX8_init_94 : decode cX8_init 94 = .ok (.aload_n 0, 1) := by decide +kernel
theorem dX8_init_95 : decode cX8_init 95 = .ok (.iconst 0, 1) := by decide +kernel
theorem dX8_init_96 : decode cX8_init 96 = .ok (.putfield 52, 3) := by decide +kernel
theorem dX8_init_99 : decode cX8_init 99 = .ok (.aload_n 0, 1) := by decide +kernel
theorem dX8_init_100 : decode cX8_init 100 = .ok (.bipush 9, 2) := by decide +kernel
theorem dX8_init_102 : decode cX8_init 102 = .ok (.putfield 56, 3) := by decide +kernel
theorem dX8_init_105 : decode cX8_init 105 = .ok (.aload_n 0, 1) := by decide +kernel
theorem dX8_init_106 : decode cX8_init 106 = .ok (.iconst 3, 1) := by decide +kernel
theorem dX8_init_107 : decode cX8_init 107 = .ok (.putfield 59, 3) := by decide +kernel
theorem dX8_init_110 : decode cX8_init 110 = .ok (.return_, 1) := by decide +kernel
set_option maxRecDepth 20000 in
theorem ggX8_net_X8_isWithin : GoodIn wsX8_net wsX8_isWithin := goodIn_r _ [6] (by decide +kernel) (by decide +kernel)
set_option maxRecDepth 20000 in
theorem gX8_net_X8_isWithin : GoodIn wsX8_net (va_wsS RX8 62 yX8_isWithin wsX8_isWithin) := goodIn_app (goodIn_of _ (by decide +kernel)) ggX8_net_X8_isWithin
set_option maxRecDepth 20000 in
theorem ggX8_net_X3_restart : GoodIn wsX8_net wsX3_restart := goodIn_r _ [11, 12, 13, 14, 15, 16, 17, 26, 27] (by decide +kernel) (by decide +kernel)
set_option maxRecDepth 20000 in
theorem gX8_net_X3_restart : GoodIn wsX8_net (wsV RX8 69 RX3 yX3_restart wsX3_restart) := goodIn_app (goodIn_of _ (by decide +kernel)) ggX8_net_X3_restart
theorem dX8_net_0 : decode cX8_net 0 = .ok (.iload_n 1, 1) := by decide +kernel
theorem dX8_net_1 : decode cX8_net 1 = .ok (.iconst 1, 1) := by decide +kernel
theorem dX8_net_2 : decode cX8_net 2 = .ok (.bipush 9, 2) := by decide +kernel
theorem dX8_net_4 : decode cX8_net 4 = .ok (.invokestatic 62, 3) := by decide +kernel
theorem dX8_net_7 : decode cX8_net 7 = .ok (.ifCond .ne 5, 3) := by decide +kernel
theorem dX8_net_10 : decode cX8_net 10 = .ok (.iconst (-1), 1) := by decide +kernel
theorem dX8_net_11 : decode cX8_net 11 = .ok (.ireturn, 1) := by decide +kernel
theorem dX8_net_12 : decode cX8_net 12 = .ok (.aload_n 0, 1) := by decide +kernel
theorem dX8_net_13 : decode cX8_net 13 = .ok (.getfield 10, 3) := by decide +kernel
theorem dX8_net_16 : decode cX8_net 16 = .ok (.getfield 66, 3) := by decide +kernel
theorem dX8_net_19 : decode cX8_net 19 = .ok (.istore_n 2, 1) := by decide +kernel
theorem dX8_net_20 : decode cX8_net 20 = .ok (.aload_n 0, 1) := by decide +kernel
theorem dX8_net_21 : decode cX8_net 21 = .ok (.getfield 10, 3) := by decide +kernel
theorem dX8_net_24 : decode cX8_net 24 = .ok (.iload_n 1, 1) := by decide +kernel
theorem dX8_net_25 : decode cX8_net 25 = .ok (.invokevirtual 69, 3) := by decide +kernel
theorem dX8_net_28 : decode cX8_net 28 = .ok (.iload_n 2, 1) := by decide +kernel
theorem dX8_net_29 : decode cX8_net 29 = .ok (.ireturn, 1) := by decide +kernel
set_option maxRecDepth 20000 in
theorem ggX8_join_X3_hasNode : GoodIn wsX8_join wsX3_hasNode := goodIn_r _ [6, 7, 33, 34] (by decide +kernel) (by decide +kernel)
set_option maxRecDepth 20000 in
theorem gX8_join_X3_hasNode : GoodIn wsX8_join (wsV RX8 73 RX3 yX3_hasNode wsX3_hasNode) := goodIn_app (goodIn_of _ (by decide +kernel)) ggX8_join_X3_hasNode
set_option maxRecDepth 20000 in
theorem ggX8_join_X8_isWithin : GoodIn wsX8_join wsX8_isWithin := goodIn_r _ [11] (by decide +kernel) (by decide +kernel)
set_option maxRecDepth 20000 in
theorem gX8_join_X8_isWithin : GoodIn wsX8_join (va_wsS RX8 62 yX8_isWithin wsX8_isWithin) := goodIn_app (goodIn_of _ (by decide +kernel)) ggX8_join_X8_isWithin
set_option maxRecDepth 20000 in
theorem ggX8_join_X3_areJoined : GoodIn wsX8_join wsX3_areJoined := goodIn_r _ [15, 16, 17, 3, 4, 5, 6, 7, 33, 34] (by decide +kernel) (by decide +kernel)
set_option maxRecDepth 20000 in
theorem gX8_join_X3_areJoined : GoodIn wsX8_join (wsV RX8 77 RX3 yX3_areJoined wsX3_areJoined) := goodIn_app (goodIn_of _ (by decide +kernel)) ggX8_join_X3_areJoined
set_option maxRecDepth 20000 in
theorem ggX8_join_X8_asNumber : GoodIn wsX8_join wsX8_asNumber := goodIn_r _ [20] (by decide +kernel) (by decide +kernel)
set_option maxRecDepth 20000 in
theorem gX8_join_X8_asNumber : GoodIn wsX8_join (va_wsS RX8 81 yX8_asNumber wsX8_asNumber) := goodIn_app (goodIn_of _ (by decide +kernel)) ggX8_join_X8_asNumber
set_option maxRecDepth 20000 in
theorem ggX8_join_X3_tie : GoodIn wsX8_join wsX3_tie := goodIn_r _ [24, 16, 17, 3, 4, 5, 6, 7, 33, 34] (by decide +kernel) (by decide +kernel)
set_option maxRecDepth 20000 in
theorem gX8_join_X3_tie : GoodIn wsX8_join (wsV RX8 85 RX3 yX3_tie wsX3_tie) := goodIn_app (goodIn_of _ (by decide +kernel)) ggX8_join_X3_tie
theorem dX8_join_0 : decode cX8_join 0 = .ok (.aload_n 0, 1) := by decide +kernel
theorem dX8_join_1 : decode cX8_join 1 = .ok (.getfield 10, 3) := by decide +kernel
theorem dX8_join_4 : decode cX8_join 4 = .ok (.iload_n 1, 1) := by decide +kernel
theorem dX8_join_5 : decode cX8_join 5 = .ok (.invokevirtual 73, 3) := by decide +kernel
theorem dX8_join_8 : decode cX8_join 8 = .ok (.ifCond .eq 28, 3) := by decide +kernel
theorem dX8_join_11 : decode cX8_join 11 = .ok (.aload_n 0, 1) := by decide +kernel
theorem dX8_join_12 : decode cX8_join 12 = .ok (.getfield 10, 3) := by decide +kernel
theorem dX8_join_15 : decode cX8_join 15 = .ok (.iload_n 2, 1) := by decide +kernel
theorem dX8_join_16 : decode cX8_join 16 = .ok (.invokevirtual 73, 3) := by decide +kernel
theorem dX8_join_19 : decode cX8_join 19 = .ok (.ifCond .eq 17, 3) := by decide +kernel
theorem dX8_join_22 : decode cX8_join 22 = .ok (.iload_n 1, 1) := by decide +kernel
theorem dX8_join_23 : decode cX8_join 23 = .ok (.iload_n 2, 1) := by decide +kernel
theorem dX8_join_24 : decode cX8_join 24 = .ok (.if_icmp .eq 12, 3) := by decide +kernel
theorem dX8_join_27 : decode cX8_join 27 = .ok (.iload_n 3, 1) := by decide +kernel
theorem dX8_join_28 : decode cX8_join 28 = .ok (.iconst 0, 1) := by decide +kernel
theorem dX8_join_29 : decode cX8_join 29 = .ok (.iconst 1, 1) := by decide +kernel
theorem dX8_join_30 : decode cX8_join 30 = .ok (.invokestatic 62, 3) := by decide +kernel
theorem dX8_join_33 : decode cX8_join 33 = .ok (.ifCond .ne 5, 3) := by decide +kernel
theorem dX8_join_36 : decode cX8_join 36 = .ok (.iconst (-1), 1) := by decide +kernel
theorem dX8_join_37 : decode cX8_join 37 = .ok (.ireturn, 1) := by decide +kernel
theorem dX8_join_38 : decode cX8_join 38 = .ok (.aload_n 0, 1) := by decide +kernel
theorem dX8_join_39 : decode cX8_join 39 = .ok (.getfield 10, 3) := by decide +kernel
theorem dX8_join_42 : decode cX8_join 42 = .ok (.iload_n 1, 1) := by decide +kernel
theorem dX8_join_43 : decode cX8_join 43 = .ok (.iload_n 2, 1) := by decide +kernel
theorem dX8_join_44 : decode cX8_join 44 = .ok (.invokevirtual 77, 3) := by decide +kernel
theorem dX8_join_47 : decode cX8_join 47 = .ok (.invokestatic 81, 3) := by decide +kernel
theorem dX8_join_50 : decode cX8_join 50 = .ok (.istore 4, 2) := by decide +kernel
theorem dX8_join_52 : decode cX8_join 52 = .ok (.aload_n 0, 1) := by decide +kernel
theorem dX8_join_53 : decode cX8_join 53 = .ok (.getfield 10, 3) := by decide +kernel
theorem dX8_join_56 : decode cX8_join 56 = .ok (.iload_n 1, 1) := by decide +kernel
theorem dX8_join_57 : decode cX8_join 57 = .ok (.iload_n 2, 1) := by decide +kernel
theorem dX8_join_58 : decode cX8_join 58 = .ok (.iload_n 3, 1) := by decide +kernel
theorem dX8_join_59 : decode cX8_join 59 = .ok (.iconst 1, 1) := by decide +kernel
theorem dX8_join_60 : decode cX8_join 60 = .ok (.if_icmp .ne 7, 3) := by decide +kernel
theorem dX8_join_63 : decode cX8_join 63 = .ok (.iconst 1, 1) := by decide +kernel
theorem dX8_join_64 : decode cX8_join 64 = .ok (.goto 4, 3) := by decide +kernel
theorem dX8_join_67 : decode cX8_join 67 = .ok (.iconst 0, 1) := by decide +kernel
theorem dX8_join_68 : decode cX8_join 68 = .ok (.invokevirtual 85, 3) := by decide +kernel
theorem dX8_join_71 : decode cX8_join 71 = .ok (.iload 4, 2) := by decide +kernel
theorem dX8_join_73 : decode cX8_join 73 = .ok (.ireturn, 1) := by decide +kernel
set_option maxRecDepth 20000 in
theorem ggX8_shape_X8_isWithin : GoodIn wsX8_shape wsX8_isWithin := goodIn_r _ [5] (by decide +kernel) (by decide +kernel)
set_option maxRecDepth 20000 in
theorem gX8_shape_X8_isWithin : GoodIn wsX8_shape (va_wsS RX8 62 yX8_isWithin wsX8_isWithin) := goodIn_app (goodIn_of _ (by decide +kernel)) ggX8_shape_X8_isWithin
set_option maxRecDepth 20000 in
theorem ggX8_shape_X3_form : GoodIn wsX8_shape wsX3_form := goodIn_r _ [10, 11, 12, 13, 14, 9, 15, 16, 17, 18, 19, 20, 21, 22, 23, 24, 25, 26, 27, 28, 29, 30, 31, 32, 52, 53] (by decide +kernel) (by decide +kernel)
set_option maxRecDepth 20000 in
theorem gX8_shape_X3_form : GoodIn wsX8_shape (wsV RX8 89 RX3 yX3_form wsX3_form) := goodIn_app (goodIn_of _ (by decide +kernel)) ggX8_shape_X3_form
set_option maxRecDepth 20000 in
theorem ggX8_shape_X3_pairs : GoodIn wsX8_shape wsX3_pairs := goodIn_r _ [36, 11, 16, 37, 38, 39, 40, 41, 42, 43, 52, 53] (by decide +kernel) (by decide +kernel)
set_option maxRecDepth 20000 in
theorem gX8_shape_X3_pairs : GoodIn wsX8_shape (wsV RX8 92 RX3 yX3_pairs wsX3_pairs) := goodIn_app (goodIn_of _ (by decide +kernel)) ggX8_shape_X3_pairs
theorem dX8_shape_0 : decode cX8_shape 0 = .ok (.iload_n 1, 1) := by decide +kernel
theorem dX8_shape_1 : decode cX8_shape 1 = .ok (.iconst 0, 1) := by decide +kernel
theorem dX8_shape_2 : decode cX8_shape 2 = .ok (.iconst 3, 1) := by decide +kernel
theorem dX8_shape_3 : decode cX8_shape 3 = .ok (.invokestatic 62, 3) := by decide +kernel
theorem dX8_shape_6 : decode cX8_shape 6 = .ok (.ifCond .ne 5, 3) := by decide +kernel
theorem dX8_shape_9 : decode cX8_shape 9 = .ok (.iconst (-1), 1) := by decide +kernel
theorem dX8_shape_10 : decode cX8_shape 10 = .ok (.ireturn, 1) := by decide +kernel
theorem dX8_shape_11 : decode cX8_shape 11 = .ok (.aload_n 0, 1) := by decide +kernel
theorem dX8_shape_12 : decode cX8_shape 12 = .ok (.getfield 10, 3) := by decide +kernel
theorem dX8_shape_15 : decode cX8_shape 15 = .ok (.iload_n 1, 1) := by decide +kernel
theorem dX8_shape_16 : decode cX8_shape 16 = .ok (.invokevirtual 89, 3) := by decide +kernel
theorem dX8_shape_19 : decode cX8_shape 19 = .ok (.aload_n 0, 1) := by decide +kernel
theorem dX8_shape_20 : decode cX8_shape 20 = .ok (.getfield 10, 3) := by decide +kernel
theorem dX8_shape_23 : decode cX8_shape 23 = .ok (.invokevirtual 92, 3) := by decide +kernel
theorem dX8_shape_26 : decode cX8_shape 26 = .ok (.ireturn, 1) := by decide +kernel
set_option maxRecDepth 20000 in
theorem ggX8_set_X8_isWithin : GoodIn wsX8_set wsX8_isWithin := goodIn_r _ [7] (by decide +kernel) (by decide +kernel)
set_option maxRecDepth 20000 in
theorem gX8_set_X8_isWithin : GoodIn wsX8_set (va_wsS RX8 62 yX8_isWithin wsX8_isWithin) := goodIn_app (goodIn_of _ (by decide +kernel)) ggX8_set_X8_isWithin
theorem dX8_set_0 : decode cX8_set 0 = .ok (.iload_n 1, 1) := by decide +kernel
theorem dX8_set_1 : decode cX8_set 1 = .ok (.iconst 2, 1) := by decide +kernel
theorem dX8_set_2 : decode cX8_set 2 = .ok (.if_icmp .ne 7, 3) := by decide +kernel
theorem dX8_set_5 : decode cX8_set 5 = .ok (.iconst 1, 1) := by decide +kernel
theorem dX8_set_6 : decode cX8_set 6 = .ok (.goto 4, 3) := by decide +kernel
theorem dX8_set_9 : decode cX8_set 9 = .ok (.iconst 0, 1) := by decide +kernel
theorem dX8_set_10 : decode cX8_set 10 = .ok (.istore_n 3, 1) := by decide +kernel
theorem dX8_set_11 : decode cX8_set 11 = .ok (.iload_n 3, 1) := by decide +kernel
theorem dX8_set_12 : decode cX8_set 12 = .ok (.ifCond .eq 7, 3) := by decide +kernel
theorem dX8_set_15 : decode cX8_set 15 = .ok (.iconst 1, 1) := by decide +kernel
theorem dX8_set_16 : decode cX8_set 16 = .ok (.goto 4, 3) := by decide +kernel
theorem dX8_set_19 : decode cX8_set 19 = .ok (.iconst 0, 1) := by decide +kernel
theorem dX8_set_20 : decode cX8_set 20 = .ok (.istore 4, 2) := by decide +kernel
theorem dX8_set_22 : decode cX8_set 22 = .ok (.iload_n 3, 1) := by decide +kernel
theorem dX8_set_23 : decode cX8_set 23 = .ok (.ifCond .eq 7, 3) := by decide +kernel
theorem dX8_set_26 : decode cX8_set 26 = .ok (.iconst 4, 1) := by decide +kernel
theorem dX8_set_27 : decode cX8_set 27 = .ok (.goto 5, 3) := by decide +kernel
theorem dX8_set_30 : decode cX8_set 30 = .ok (.bipush 9, 2) := by decide +kernel
theorem dX8_set_32 : decode cX8_set 32 = .ok (.istore 5, 2) := by decide +kernel
theorem dX8_set_34 : decode cX8_set 34 = .ok (.iload_n 1, 1) := by decide +kernel
theorem dX8_set_35 : decode cX8_set 35 = .ok (.iconst 0, 1) := by decide +kernel
theorem dX8_set_36 : decode cX8_set 36 = .ok (.iconst 2, 1) := by decide +kernel
theorem dX8_set_37 : decode cX8_set 37 = .ok (.invokestatic 62, 3) := by decide +kernel
theorem dX8_set_40 : decode cX8_set 40 = .ok (.ifCond .eq 14, 3) := by decide +kernel
theorem dX8_set_43 : decode cX8_set 43 = .ok (.iload_n 2, 1) := by decide +kernel
theorem dX8_set_44 : decode cX8_set 44 = .ok (.iload 4, 2) := by decide +kernel
theorem dX8_set_46 : decode cX8_set 46 = .ok (.iload 5, 2) := by decide +kernel
theorem dX8_set_48 : decode cX8_set 48 = .ok (.invokestatic 62, 3) := by decide +kernel
theorem dX8_set_51 : decode cX8_set 51 = .ok (.ifCond .ne 5, 3) := by decide +kernel
theorem dX8_set_54 : decode cX8_set 54 = .ok (.iconst (-1), 1) := by decide +kernel
theorem dX8_set_55 : decode cX8_set 55 = .ok (.ireturn, 1) := by decide +kernel
theorem dX8_set_56 : decode cX8_set 56 = .ok (.iload_n 3, 1) := by decide +kernel
theorem dX8_set_57 : decode cX8_set 57 = .ok (.ifCond .eq 17, 3) := by decide +kernel
theorem dX8_set_60 : decode cX8_set 60 = .ok (.aload_n 0, 1) := by decide +kernel
theorem dX8_set_61 : decode cX8_set 61 = .ok (.getfield 59, 3) := by decide +kernel
theorem dX8_set_64 : decode cX8_set 64 = .ok (.istore 6, 2) := by decide +kernel
theorem dX8_set_66 : decode cX8_set 66 = .ok (.aload_n 0, 1) := by decide +kernel
theorem dX8_set_67 : decode cX8_set 67 = .ok (.iload_n 2, 1) := by decide +kernel
theorem dX8_set_68 : decode cX8_set 68 = .ok (.putfield 59, 3) := by decide +kernel
theorem dX8_set_71 : decode cX8_set 71 = .ok (.goto 33, 3) := by decide +kernel
theorem dX8_set_74 : decode cX8_set 74 = .ok (.iload_n 1, 1) := by decide +kernel
theorem dX8_set_75 : decode cX8_set 75 = .ok (.iconst 1, 1) := by decide +kernel
theorem dX8_set_76 : decode cX8_set 76 = .ok (.if_icmp .ne 17, 3) := by decide +kernel
theorem dX8_set_79 : decode cX8_set 79 = .ok (.aload_n 0, 1) := by decide +kernel
theorem dX8_set_80 : decode cX8_set 80 = .ok (.getfield 56, 3) := by decide +kernel
theorem dX8_set_83 : decode cX8_set 83 = .ok (.istore 6, 2) := by decide +kernel
theorem dX8_set_85 : decode cX8_set 85 = .ok (.aload_n 0, 1) := by decide +kernel
theorem dX8_set_86 : decode cX8_set 86 = .ok (.iload_n 2, 1) := by decide +kernel
theorem dX8_set_87 : decode cX8_set 87 = .ok (.putfield 56, 3) := by decide +kernel
theorem dX8_set_90 : decode cX8_set 90 = .ok (.goto 14, 3) := by decide +kernel
theorem dX8_set_93 : decode cX8_set 93 = .ok (.aload_n 0, 1) := by decide +kernel
theorem dX8_set_94 : decode cX8_set 94 = .ok (.getfield 52, 3) := by decide +kernel
theorem dX8_set_97 : decode cX8_set 97 = .ok (.istore 6, 2) := by decide +kernel
theorem dX8_set_99 : decode cX8_set 99 = .ok (.aload_n 0, 1) := by decide +kernel
theorem dX8_set_100 : decode cX8_set 100 = .ok (.iload_n 2, 1) := by decide +kernel
theorem dX8_set_101 : decode cX8_set 101 = .ok (.putfield 52, 3) := by decide +kernel
theorem dX8_set_104 : decode cX8_set 104 = .ok (.iload 6, 2) := by decide +kernel
theorem dX8_set_106 : decode cX8_set 106 = .ok (.ireturn, 1) := by decide +kernel
set_option maxRecDepth 20000 in
theorem ggX8_lawful_X8_isKind : GoodIn wsX8_lawful wsX8_isKind := goodIn_r _ [5, 6, 7, 4, 8] (by decide +kernel) (by decide +kernel)
set_option maxRecDepth 20000 in
theorem gX8_lawful_X8_isKind : GoodIn wsX8_lawful (va_wsS RX8 96 yX8_isKind wsX8_isKind) := goodIn_app (goodIn_of _ (by decide +kernel)) ggX8_lawful_X8_isKind
set_option maxRecDepth 20000 in
theorem ggX8_lawful_X3_hasSet : GoodIn wsX8_lawful wsX3_hasSet := goodIn_r _ [13, 14, 15, 16, 12, 17, 18, 43, 44] (by decide +kernel) (by decide +kernel)
set_option maxRecDepth 20000 in
theorem gX8_lawful_X3_hasSet : GoodIn wsX8_lawful (wsV RX8 99 RX3 yX3_hasSet wsX3_hasSet) := goodIn_app (goodIn_of _ (by decide +kernel)) ggX8_lawful_X3_hasSet
set_option maxRecDepth 20000 in
theorem ggX8_lawful_X3_isLawful : GoodIn wsX8_lawful wsX3_isLawful := goodIn_r _ [22, 23, 24, 25, 12, 26, 18, 27, 14, 15, 16, 17, 28, 29, 30, 31, 43, 44] (by decide +kernel) (by decide +kernel)
set_option maxRecDepth 20000 in
theorem gX8_lawful_X3_isLawful : GoodIn wsX8_lawful (wsV RX8 102 RX3 yX3_isLawful wsX3_isLawful) := goodIn_app (goodIn_of _ (by decide +kernel)) ggX8_lawful_X3_isLawful
set_option maxRecDepth 20000 in
theorem ggX8_lawful_X8_asNumber : GoodIn wsX8_lawful wsX8_asNumber := goodIn_r _ [34] (by decide +kernel) (by decide +kernel)
set_option maxRecDepth 20000 in
theorem gX8_lawful_X8_asNumber : GoodIn wsX8_lawful (va_wsS RX8 81 yX8_asNumber wsX8_asNumber) := goodIn_app (goodIn_of _ (by decide +kernel)) ggX8_lawful_X8_asNumber
theorem dX8_lawful_0 : decode cX8_lawful 0 = .ok (.iload_n 1, 1) := by decide +kernel
theorem dX8_lawful_1 : decode cX8_lawful 1 = .ok (.invokestatic 96, 3) := by decide +kernel
theorem dX8_lawful_4 : decode cX8_lawful 4 = .ok (.ifCond .eq 14, 3) := by decide +kernel
theorem dX8_lawful_7 : decode cX8_lawful 7 = .ok (.aload_n 0, 1) := by decide +kernel
theorem dX8_lawful_8 : decode cX8_lawful 8 = .ok (.getfield 10, 3) := by decide +kernel
theorem dX8_lawful_11 : decode cX8_lawful 11 = .ok (.iload_n 2, 1) := by decide +kernel
theorem dX8_lawful_12 : decode cX8_lawful 12 = .ok (.invokevirtual 99, 3) := by decide +kernel
theorem dX8_lawful_15 : decode cX8_lawful 15 = .ok (.ifCond .ne 5, 3) := by decide +kernel
theorem dX8_lawful_18 : decode cX8_lawful 18 = .ok (.iconst (-1), 1) := by decide +kernel
theorem dX8_lawful_19 : decode cX8_lawful 19 = .ok (.ireturn, 1) := by decide +kernel
theorem dX8_lawful_20 : decode cX8_lawful 20 = .ok (.aload_n 0, 1) := by decide +kernel
theorem dX8_lawful_21 : decode cX8_lawful 21 = .ok (.getfield 10, 3) := by decide +kernel
theorem dX8_lawful_24 : decode cX8_lawful 24 = .ok (.iload_n 1, 1) := by decide +kernel
theorem dX8_lawful_25 : decode cX8_lawful 25 = .ok (.iload_n 2, 1) := by decide +kernel
theorem dX8_lawful_26 : decode cX8_lawful 26 = .ok (.invokevirtual 102, 3) := by decide +kernel
theorem dX8_lawful_29 : decode cX8_lawful 29 = .ok (.invokestatic 81, 3) := by decide +kernel
theorem dX8_lawful_32 : decode cX8_lawful 32 = .ok (.ireturn, 1) := by decide +kernel
set_option maxRecDepth 20000 in
theorem ggX8_count_X8_isKind : GoodIn wsX8_count wsX8_isKind := goodIn_r _ [6, 7, 8, 5, 9] (by decide +kernel) (by decide +kernel)
set_option maxRecDepth 20000 in
theorem gX8_count_X8_isKind : GoodIn wsX8_count (va_wsS RX8 96 yX8_isKind wsX8_isKind) := goodIn_app (goodIn_of _ (by decide +kernel)) ggX8_count_X8_isKind
set_option maxRecDepth 20000 in
theorem ggX8_count_X8_isWithin : GoodIn wsX8_count wsX8_isWithin := goodIn_r _ [9] (by decide +kernel) (by decide +kernel)
set_option maxRecDepth 20000 in
theorem gX8_count_X8_isWithin : GoodIn wsX8_count (va_wsS RX8 62 yX8_isWithin wsX8_isWithin) := goodIn_app (goodIn_of _ (by decide +kernel)) ggX8_count_X8_isWithin
set_option maxRecDepth 20000 in
theorem ggX8_count_X3_all : GoodIn wsX8_count wsX3_all := goodIn_r _ [14, 15, 45, 46] (by decide +kernel) (by decide +kernel)
set_option maxRecDepth 20000 in
theorem gX8_count_X3_all : GoodIn wsX8_count (wsV RX8 105 RX3 yX3_all wsX3_all) := goodIn_app (goodIn_of _ (by decide +kernel)) ggX8_count_X3_all
set_option maxRecDepth 20000 in
theorem ggX8_count_J6_bitCount_0f7a4 : GoodIn wsX8_count wsJ6_bitCount_0f7a4 := goodIn_r _ [19, 20, 21, 22] (by decide +kernel) (by decide +kernel)
set_option maxRecDepth 20000 in
theorem gX8_count_J6_bitCount_0f7a4 : GoodIn wsX8_count (va_wsS RX8 108 yJ6_bitCount_0f7a4 wsJ6_bitCount_0f7a4) := goodIn_app (goodIn_of _ (by decide +kernel)) ggX8_count_J6_bitCount_0f7a4
set_option maxRecDepth 20000 in
theorem ggX8_count_X3_isLawful : GoodIn wsX8_count wsX3_isLawful := goodIn_r _ [26, 27, 28, 29, 13, 30, 15, 31, 32, 11, 12, 14, 33, 34, 35, 36, 45, 46] (by decide +kernel) (by decide +kernel)
set_option maxRecDepth 20000 in
theorem gX8_count_X3_isLawful : GoodIn wsX8_count (wsV RX8 102 RX3 yX3_isLawful wsX3_isLawful) := goodIn_app (goodIn_of _ (by decide +kernel)) ggX8_count_X3_isLawful
theorem dX8_count_0 : decode cX8_count 0 = .ok (.iload_n 1, 1) := by decide +kernel
theorem dX8_count_1 : decode cX8_count 1 = .ok (.invokestatic 96, 3) := by decide +kernel
theorem dX8_count_4 : decode cX8_count 4 = .ok (.ifCond .eq 18, 3) := by decide +kernel
theorem dX8_count_7 : decode cX8_count 7 = .ok (.iload_n 2, 1) := by decide +kernel
theorem dX8_count_8 : decode cX8_count 8 = .ok (.iconst (-1), 1) := by decide +kernel
theorem dX8_count_9 : decode cX8_count 9 = .ok (.aload_n 0, 1) := by decide +kernel
theorem dX8_count_10 : decode cX8_count 10 = .ok (.getfield 10, 3) := by decide +kernel
theorem dX8_count_13 : decode cX8_count 13 = .ok (.getfield 66, 3) := by decide +kernel
theorem dX8_count_16 : decode cX8_count 16 = .ok (.invokestatic 62, 3) := by decide +kernel
theorem dX8_count_19 : decode cX8_count 19 = .ok (.ifCond .ne 5, 3) := by decide +kernel
theorem dX8_count_22 : decode cX8_count 22 = .ok (.iconst (-1), 1) := by decide +kernel
theorem dX8_count_23 : decode cX8_count 23 = .ok (.ireturn, 1) := by decide +kernel
theorem dX8_count_24 : decode cX8_count 24 = .ok (.iconst 0, 1) := by decide +kernel
theorem dX8_count_25 : decode cX8_count 25 = .ok (.istore_n 3, 1) := by decide +kernel
theorem dX8_count_26 : decode cX8_count 26 = .ok (.iconst 0, 1) := by decide +kernel
theorem dX8_count_27 : decode cX8_count 27 = .ok (.istore 4, 2) := by decide +kernel
theorem dX8_count_29 : decode cX8_count 29 = .ok (.iload 4, 2) := by decide +kernel
theorem dX8_count_31 : decode cX8_count 31 = .ok (.aload_n 0, 1) := by decide +kernel
theorem dX8_count_32 : decode cX8_count 32 = .ok (.getfield 10, 3) := by decide +kernel
theorem dX8_count_35 : decode cX8_count 35 = .ok (.invokevirtual 105, 3) := by decide +kernel
theorem dX8_count_38 : decode cX8_count 38 = .ok (.if_icmp .gt 51, 3) := by decide +kernel
theorem dX8_count_41 : decode cX8_count 41 = .ok (.iload_n 2, 1) := by decide +kernel
end
section
theorem dX8_count_42 : decode cX8_count 42 = .ok (.iconst (-1), 1) := by decide +kernel
theorem dX8_count_43 : decode cX8_count 43 = .ok (.if_icmp .eq 12, 3) := by decide +kernel
theorem dX8_count_46 : decode cX8_count 46 = .ok (.iload 4, 2) := by decide +kernel
theorem dX8_count_48 : decode cX8_count 48 = .ok (.invokestatic 108, 3) := by decide +kernel
theorem dX8_count_51 : decode cX8_count 51 = .ok (.iload_n 2, 1) := by decide +kernel
theorem dX8_count_52 : decode cX8_count 52 = .ok (.if_icmp .ne 7, 3) := by decide +kernel
theorem dX8_count_55 : decode cX8_count 55 = .ok (.iconst 1, 1) := by decide +kernel
theorem dX8_count_56 : decode cX8_count 56 = .ok (.goto 4, 3) := by decide +kernel
theorem dX8_count_59 : decode cX8_count 59 = .ok (.iconst 0, 1) := by decide +kernel
theorem dX8_count_60 : decode cX8_count 60 = .ok (.istore 5, 2) := by decide +kernel
theorem dX8_count_62 : decode cX8_count 62 = .ok (.iload 5, 2) := by decide +kernel
theorem dX8_count_64 : decode cX8_count 64 = .ok (.ifCond .eq 19, 3) := by decide +kernel
theorem dX8_count_67 : decode cX8_count 67 = .ok (.aload_n 0, 1) := by decide +kernel
theorem dX8_count_68 : decode cX8_count 68 = .ok (.getfield 10, 3) := by decide +kernel
theorem dX8_count_71 : decode cX8_count 71 = .ok (.iload_n 1, 1) := by decide +kernel
theorem dX8_count_72 : decode cX8_count 72 = .ok (.iload 4, 2) := by decide +kernel
theorem dX8_count_74 : decode cX8_count 74 = .ok (.invokevirtual 102, 3) := by decide +kernel
theorem dX8_count_77 : decode cX8_count 77 = .ok (.ifCond .eq 6, 3) := by decide +kernel
theorem dX8_count_80 : decode cX8_count 80 = .ok (.iinc 3 1, 3) := by decide +kernel
theorem dX8_count_83 : decode cX8_count 83 = .ok (.iinc 4 1, 3) := by decide +kernel
theorem dX8_count_86 : decode cX8_count 86 = .ok (.goto (-57), 3) := by decide +kernel
theorem dX8_count_89 : decode cX8_count 89 = .ok (.iload_n 3, 1) := by decide +kernel
theorem dX8_count_90 : decode cX8_count 90 = .ok (.ireturn, 1) := by decide +kernel
set_option maxRecDepth 20000 in
theorem ggX8_weight_X8_areMoves : GoodIn wsX8_weight wsX8_areMoves := goodIn_r _ [7, 8, 9, 6, 10] (by decide +kernel) (by decide +kernel)
set_option maxRecDepth 20000 in
theorem gX8_weight_X8_areMoves : GoodIn wsX8_weight (va_wsS RX8 114 yX8_areMoves wsX8_areMoves) := goodIn_app (goodIn_of _ (by decide +kernel)) ggX8_weight_X8_areMoves
set_option maxRecDepth 20000 in
theorem ggX8_weight_X3_hasSet : GoodIn wsX8_weight wsX3_hasSet := goodIn_r _ [15, 16, 17, 18, 14, 19, 20, 79, 80] (by decide +kernel) (by decide +kernel)
set_option maxRecDepth 20000 in
theorem gX8_weight_X3_hasSet : GoodIn wsX8_weight (wsV RX8 99 RX3 yX3_hasSet wsX3_hasSet) := goodIn_app (goodIn_of _ (by decide +kernel)) ggX8_weight_X3_hasSet
set_option maxRecDepth 20000 in
theorem ggX8_weight_X0_weigh : GoodIn wsX8_weight wsX0_weigh := goodIn_r _ [27, 28, 29, 30, 31, 32, 33, 34, 35, 36, 37, 38, 22, 39, 40, 41, 42, 43, 44, 45, 46, 47, 48, 49, 50, 51, 52, 53, 54, 55, 56, 57, 58, 59, 60, 14, 61, 62, 63, 64, 65, 66, 20, 67, 81, 79, 80] (by decide +kernel) (by decide +kernel)
set_option maxRecDepth 20000 in
theorem gX8_weight_X0_weigh_u117X0 : GoodIn wsX8_weight (va_wsO RX8 117 RX0 "SlidTokens$Slide" ⟨"SlidTokens$Slide", "weigh", "(LSlidTokens$Net;IILSlidTokens$Tally;)I"⟩ yX0_weigh wsX0_weigh) := goodIn_app (goodIn_of _ (by decide +kernel)) ggX8_weight_X0_weigh
set_option maxRecDepth 20000 in
theorem ggX8_weight_X1_weigh : GoodIn wsX8_weight wsX1_weigh := goodIn_r _ [35, 36, 37, 38, 22, 39, 40, 41, 42, 43, 44, 45, 46, 47, 48, 49, 50, 51, 52, 53, 54, 55, 56, 57, 58, 59, 60, 14, 61, 62, 63, 64, 65, 66, 20, 81, 79, 80] (by decide +kernel) (by decide +kernel)
set_option maxRecDepth 20000 in
theorem gX8_weight_X1_weigh_u117X1 : GoodIn wsX8_weight (va_wsO RX8 117 RX1 "SlidTokens$Slide" ⟨"SlidTokens$Slide", "weigh", "(LSlidTokens$Net;IILSlidTokens$Tally;)I"⟩ yX1_weigh wsX1_weigh) := goodIn_app (goodIn_of _ (by decide +kernel)) ggX8_weight_X1_weigh
set_option maxRecDepth 20000 in
theorem ggX8_weight_X6_weigh : GoodIn wsX8_weight wsX6_weigh := goodIn_r _ [42, 43, 44, 45, 41, 46, 47, 48, 49, 50, 51, 52, 53, 54, 55, 56, 57, 58, 59, 60, 14, 61, 62, 63, 64, 65, 66, 20, 81, 79, 80] (by decide +kernel) (by decide +kernel)
set_option maxRecDepth 20000 in
theorem gX8_weight_X6_weigh : GoodIn wsX8_weight (wsV RX8 117 RX6 yX6_weigh wsX6_weigh) := goodIn_app (goodIn_of _ (by decide +kernel)) ggX8_weight_X6_weigh
theorem dX8_weight_0 : decode cX8_weight 0 = .ok (.iload_n 1, 1) := by decide +kernel
theorem dX8_weight_1 : decode cX8_weight 1 = .ok (.invokestatic 114, 3) := by decide +kernel
theorem dX8_weight_4 : decode cX8_weight 4 = .ok (.ifCond .eq 25, 3) := by decide +kernel
theorem dX8_weight_7 : decode cX8_weight 7 = .ok (.aload_n 0, 1) := by decide +kernel
theorem dX8_weight_8 : decode cX8_weight 8 = .ok (.getfield 10, 3) := by decide +kernel
theorem dX8_weight_11 : decode cX8_weight 11 = .ok (.iload_n 2, 1) := by decide +kernel
theorem dX8_weight_12 : decode cX8_weight 12 = .ok (.invokevirtual 99, 3) := by decide +kernel
theorem dX8_weight_15 : decode cX8_weight 15 = .ok (.ifCond .eq 14, 3) := by decide +kernel
theorem dX8_weight_18 : decode cX8_weight 18 = .ok (.aload_n 0, 1) := by decide +kernel
theorem dX8_weight_19 : decode cX8_weight 19 = .ok (.getfield 10, 3) := by decide +kernel
theorem dX8_weight_22 : decode cX8_weight 22 = .ok (.iload_n 3, 1) := by decide +kernel
theorem dX8_weight_23 : decode cX8_weight 23 = .ok (.invokevirtual 99, 3) := by decide +kernel
theorem dX8_weight_26 : decode cX8_weight 26 = .ok (.ifCond .ne 5, 3) := by decide +kernel
theorem dX8_weight_29 : decode cX8_weight 29 = .ok (.iconst (-1), 1) := by decide +kernel
theorem dX8_weight_30 : decode cX8_weight 30 = .ok (.ireturn, 1) := by decide +kernel
theorem dX8_weight_31 : decode cX8_weight 31 = .ok (.aload_n 0, 1) := by decide +kernel
theorem dX8_weight_32 : decode cX8_weight 32 = .ok (.getfield 41, 3) := by decide +kernel
theorem dX8_weight_35 : decode cX8_weight 35 = .ok (.iload_n 1, 1) := by decide +kernel
theorem dX8_weight_36 : decode cX8_weight 36 = .ok (.aaload, 1) := by decide +kernel
theorem dX8_weight_37 : decode cX8_weight 37 = .ok (.aload_n 0, 1) := by decide +kernel
theorem dX8_weight_38 : decode cX8_weight 38 = .ok (.getfield 10, 3) := by decide +kernel
theorem dX8_weight_41 : decode cX8_weight 41 = .ok (.iload_n 2, 1) := by decide +kernel
theorem dX8_weight_42 : decode cX8_weight 42 = .ok (.iload_n 3, 1) := by decide +kernel
theorem dX8_weight_43 : decode cX8_weight 43 = .ok (.iconst (-1), 1) := by decide +kernel
theorem dX8_weight_44 : decode cX8_weight 44 = .ok (.ixor, 1) := by decide +kernel
theorem dX8_weight_45 : decode cX8_weight 45 = .ok (.iand, 1) := by decide +kernel
theorem dX8_weight_46 : decode cX8_weight 46 = .ok (.iload_n 3, 1) := by decide +kernel
theorem dX8_weight_47 : decode cX8_weight 47 = .ok (.iload_n 2, 1) := by decide +kernel
theorem dX8_weight_48 : decode cX8_weight 48 = .ok (.iconst (-1), 1) := by decide +kernel
theorem dX8_weight_49 : decode cX8_weight 49 = .ok (.ixor, 1) := by decide +kernel
theorem dX8_weight_50 : decode cX8_weight 50 = .ok (.iand, 1) := by decide +kernel
theorem dX8_weight_51 : decode cX8_weight 51 = .ok (.aload_n 0, 1) := by decide +kernel
theorem dX8_weight_52 : decode cX8_weight 52 = .ok (.getfield 48, 3) := by decide +kernel
theorem dX8_weight_55 : decode cX8_weight 55 = .ok (.invokevirtual 117, 3) := by decide +kernel
theorem dX8_weight_58 : decode cX8_weight 58 = .ok (.ireturn, 1) := by decide +kernel
set_option maxRecDepth 20000 in
theorem ggX8_walk_X8_isKind : GoodIn wsX8_walk wsX8_isKind := goodIn_r _ [5, 6, 7, 4, 8] (by decide +kernel) (by decide +kernel)
set_option maxRecDepth 20000 in
theorem gX8_walk_X8_isKind : GoodIn wsX8_walk (va_wsS RX8 96 yX8_isKind wsX8_isKind) := goodIn_app (goodIn_of _ (by decide +kernel)) ggX8_walk_X8_isKind
set_option maxRecDepth 20000 in
theorem ggX8_walk_X8_areMoves : GoodIn wsX8_walk wsX8_areMoves := goodIn_r _ [11, 6, 7, 4, 8] (by decide +kernel) (by decide +kernel)
set_option maxRecDepth 20000 in
theorem gX8_walk_X8_areMoves : GoodIn wsX8_walk (va_wsS RX8 114 yX8_areMoves wsX8_areMoves) := goodIn_app (goodIn_of _ (by decide +kernel)) ggX8_walk_X8_areMoves
set_option maxRecDepth 20000 in
theorem ggX8_walk_X8_isWithin : GoodIn wsX8_walk wsX8_isWithin := goodIn_r _ [8] (by decide +kernel) (by decide +kernel)
set_option maxRecDepth 20000 in
theorem gX8_walk_X8_isWithin : GoodIn wsX8_walk (va_wsS RX8 62 yX8_isWithin wsX8_isWithin) := goodIn_app (goodIn_of _ (by decide +kernel)) ggX8_walk_X8_isWithin
set_option maxRecDepth 20000 in
theorem ggX8_walk_X8_isLawfulSet : GoodIn wsX8_walk wsX8_isLawfulSet := goodIn_r _ [15, 16, 17, 18, 19, 20, 21, 22, 23, 24, 25, 26, 27, 28, 29, 30, 31, 32, 33, 34, 35, 36, 37, 38, 39, 155, 156, 157, 158, 159, 160, 161, 162, 163, 164] (by decide +kernel) (by decide +kernel)
set_option maxRecDepth 20000 in
theorem gX8_walk_X8_isLawfulSet : GoodIn wsX8_walk (wsV RX8 121 RX8 yX8_isLawfulSet wsX8_isLawfulSet) := goodIn_app (goodIn_of _ (by decide +kernel)) ggX8_walk_X8_isLawfulSet
set_option maxRecDepth 20000 in
theorem ggX8_walk_X8_begin : GoodIn wsX8_walk wsX8_begin := goodIn_r _ [43, 1, 44, 45, 46, 47, 48, 49, 50, 51, 52, 53, 54, 55, 56, 57, 58, 59, 23, 24, 20, 25, 26, 60, 61, 62, 63, 64, 65, 66, 7, 4, 8, 67, 28, 29, 30, 31, 32, 33, 34, 35, 22, 36, 37, 38, 39, 155, 156, 157, 158, 159, 160, 161, 162, 165, 166, 167, 168, 169, 170, 171, 172, 173, 174, 175, 176, 177, 178, 179, 180, 181, 163, 164] (by decide +kernel) (by decide +kernel)
set_option maxRecDepth 20000 in
theorem gX8_walk_X8_begin : GoodIn wsX8_walk (wsV RX8 124 RX8 yX8_begin wsX8_begin) := goodIn_app (goodIn_of _ (by decide +kernel)) ggX8_walk_X8_begin
set_option maxRecDepth 20000 in
theorem ggX8_walk_X5_fewest : GoodIn wsX8_walk wsX5_fewest := goodIn_r _ [73, 74, 75, 76, 77, 78, 72, 79, 80, 81, 82, 83, 84, 85, 86, 87, 88, 89, 90, 91, 92, 93, 49, 94, 95, 96, 52, 97, 51, 98, 99, 100, 101, 102, 59, 23, 24, 20, 25, 26, 103, 104, 105, 106, 57, 58, 107, 108, 109, 110, 111, 112, 113, 114, 115, 116, 117, 118, 119, 120, 121, 122, 123, 124, 125, 126, 127, 165, 166, 167, 168, 169, 170, 171, 172, 173, 174, 175, 176, 177, 178, 179, 180, 181, 163, 164] (by decide +kernel) (by decide +kernel)
set_option maxRecDepth 20000 in
theorem gX8_walk_X5_fewest_u128X2 : GoodIn wsX8_walk (va_wsU RX8 128 RX2 "SlidTokens$Search" ⟨"SlidTokens$Marks", "fewest", "(II)I"⟩ yX5_fewest wsX5_fewest) := goodIn_app (goodIn_of _ (by decide +kernel)) ggX8_walk_X5_fewest
set_option maxRecDepth 20000 in
theorem ggX8_walk_X2_following : GoodIn wsX8_walk wsX2_following := goodIn_r _ [131, 95, 96, 57, 58, 132, 133, 134, 69, 70, 71, 72, 73, 74, 75, 76, 77, 78, 79, 80, 81, 82, 83, 84, 85, 86, 87, 88, 89, 90, 91, 92, 93, 49, 94, 52, 97, 51, 98, 99, 100, 101, 102, 59, 23, 24, 20, 25, 26, 103, 104, 105, 106, 107, 108, 109, 110, 111, 112, 113, 114, 115, 116, 117, 118, 119, 120, 121, 122, 123, 124, 125, 126, 127, 135, 136, 165, 166, 167, 168, 169, 170, 171, 172, 173, 174, 175, 176, 177, 178, 179, 180, 181, 163, 164] (by decide +kernel) (by decide +kernel)
set_option maxRecDepth 20000 in
theorem gX8_walk_X2_following : GoodIn wsX8_walk (wsV RX8 132 RX2 yX2_following wsX2_following) := goodIn_app (goodIn_of _ (by decide +kernel)) ggX8_walk_X2_following
set_option maxRecDepth 20000 in
theorem ggX8_walk_X2_lightest : GoodIn wsX8_walk wsX2_lightest := goodIn_r _ [140, 57, 58, 134, 69, 70, 71, 72, 73, 74, 75, 76, 77, 78, 79, 80, 81, 82, 83, 84, 85, 86, 87, 88, 89, 90, 91, 92, 93, 49, 94, 95, 96, 52, 97, 51, 98, 99, 100, 101, 102, 59, 23, 24, 20, 25, 26, 103, 104, 105, 106, 107, 108, 109, 110, 111, 112, 113, 114, 115, 116, 117, 118, 119, 120, 121, 122, 123, 124, 125, 126, 127, 141, 142, 143, 144, 55, 56, 145, 146, 147, 148, 149, 150, 53, 54, 135, 136, 151, 152, 153, 154, 132, 133, 165, 166, 167, 168, 169, 170, 171, 172, 173, 174, 175, 176, 177, 178, 179, 180, 181, 163, 164] (by decide +kernel) (by decide +kernel)
set_option maxRecDepth 20000 in
theorem gX8_walk_X2_lightest : GoodIn wsX8_walk (wsV RX8 135 RX2 yX2_lightest wsX2_lightest) := goodIn_app (goodIn_of _ (by decide +kernel)) ggX8_walk_X2_lightest
theorem dX8_walk_0 : decode cX8_walk 0 = .ok (.iload_n 1, 1) := by decide +kernel
theorem dX8_walk_1 : decode cX8_walk 1 = .ok (.invokestatic 96, 3) := by decide +kernel
theorem dX8_walk_4 : decode cX8_walk 4 = .ok (.ifCond .eq 20, 3) := by decide +kernel
theorem dX8_walk_7 : decode cX8_walk 7 = .ok (.iload_n 2, 1) := by decide +kernel
theorem dX8_walk_8 : decode cX8_walk 8 = .ok (.invokestatic 114, 3) := by decide +kernel
theorem dX8_walk_11 : decode cX8_walk 11 = .ok (.ifCond .eq 13, 3) := by decide +kernel
theorem dX8_walk_14 : decode cX8_walk 14 = .ok (.iload 5, 2) := by decide +kernel
theorem dX8_walk_16 : decode cX8_walk 16 = .ok (.iconst 0, 1) := by decide +kernel
theorem dX8_walk_17 : decode cX8_walk 17 = .ok (.iconst 2, 1) := by decide +kernel
theorem dX8_walk_18 : decode cX8_walk 18 = .ok (.invokestatic 62, 3) := by decide +kernel
theorem dX8_walk_21 : decode cX8_walk 21 = .ok (.ifCond .ne 5, 3) := by decide +kernel
theorem dX8_walk_24 : decode cX8_walk 24 = .ok (.iconst (-1), 1) := by decide +kernel
theorem dX8_walk_25 : decode cX8_walk 25 = .ok (.ireturn, 1) := by decide +kernel
theorem dX8_walk_26 : decode cX8_walk 26 = .ok (.aload_n 0, 1) := by decide +kernel
theorem dX8_walk_27 : decode cX8_walk 27 = .ok (.iload_n 1, 1) := by decide +kernel
theorem dX8_walk_28 : decode cX8_walk 28 = .ok (.iload_n 3, 1) := by decide +kernel
theorem dX8_walk_29 : decode cX8_walk 29 = .ok (.invokevirtual 121, 3) := by decide +kernel
theorem dX8_walk_32 : decode cX8_walk 32 = .ok (.ifCond .eq 13, 3) := by decide +kernel
theorem dX8_walk_35 : decode cX8_walk 35 = .ok (.aload_n 0, 1) := by decide +kernel
theorem dX8_walk_36 : decode cX8_walk 36 = .ok (.iload_n 1, 1) := by decide +kernel
theorem dX8_walk_37 : decode cX8_walk 37 = .ok (.iload 4, 2) := by decide +kernel
theorem dX8_walk_39 : decode cX8_walk 39 = .ok (.invokevirtual 121, 3) := by decide +kernel
theorem dX8_walk_42 : decode cX8_walk 42 = .ok (.ifCond .ne 5, 3) := by decide +kernel
theorem dX8_walk_45 : decode cX8_walk 45 = .ok (.iconst (-1), 1) := by decide +kernel
theorem dX8_walk_46 : decode cX8_walk 46 = .ok (.ireturn, 1) := by decide +kernel
theorem dX8_walk_47 : decode cX8_walk 47 = .ok (.aload_n 0, 1) := by decide +kernel
theorem dX8_walk_48 : decode cX8_walk 48 = .ok (.iload_n 1, 1) := by decide +kernel
theorem dX8_walk_49 : decode cX8_walk 49 = .ok (.iload_n 2, 1) := by decide +kernel
theorem dX8_walk_50 : decode cX8_walk 50 = .ok (.invokevirtual 124, 3) := by decide +kernel
theorem dX8_walk_53 : decode cX8_walk 53 = .ok (.iload 5, 2) := by decide +kernel
theorem dX8_walk_55 : decode cX8_walk 55 = .ok (.lookupswitch 47 #[(0, 25), (1, 36)], 25) := by decide +kernel
theorem dX8_walk_80 : decode cX8_walk 80 = .ok (.aload_n 0, 1) := by decide +kernel
theorem dX8_walk_81 : decode cX8_walk 81 = .ok (.getfield 21, 3) := by decide +kernel
theorem dX8_walk_84 : decode cX8_walk 84 = .ok (.iload_n 3, 1) := by decide +kernel
theorem dX8_walk_85 : decode cX8_walk 85 = .ok (.iload 4, 2) := by decide +kernel
theorem dX8_walk_87 : decode cX8_walk 87 = .ok (.invokevirtual 128, 3) := by decide +kernel
theorem dX8_walk_90 : decode cX8_walk 90 = .ok (.ireturn, 1) := by decide +kernel
theorem dX8_walk_91 : decode cX8_walk 91 = .ok (.aload_n 0, 1) := by decide +kernel
theorem dX8_walk_92 : decode cX8_walk 92 = .ok (.getfield 21, 3) := by decide +kernel
theorem dX8_walk_95 : decode cX8_walk 95 = .ok (.iload_n 3, 1) := by decide +kernel
theorem dX8_walk_96 : decode cX8_walk 96 = .ok (.iload 4, 2) := by decide +kernel
theorem dX8_walk_98 : decode cX8_walk 98 = .ok (.invokevirtual 132, 3) := by decide +kernel
theorem dX8_walk_101 : decode cX8_walk 101 = .ok (.ireturn, 1) := by decide +kernel
theorem dX8_walk_102 : decode cX8_walk 102 = .ok (.aload_n 0, 1) := by decide +kernel
theorem dX8_walk_103 : decode cX8_walk 103 = .ok (.getfield 21, 3) := by decide +kernel
theorem dX8_walk_106 : decode cX8_walk 106 = .ok (.iload_n 3, 1) := by decide +kernel
theorem dX8_walk_107 : decode cX8_walk 107 = .ok (.iload 4, 2) := by decide +kernel
theorem dX8_walk_109 : decode cX8_walk 109 = .ok (.invokevirtual 135, 3) := by decide +kernel
theorem dX8_walk_112 : decode cX8_walk 112 = .ok (.ireturn, 1) := by decide +kernel
set_option maxRecDepth 20000 in
theorem ggX8_reach_X8_isKind : GoodIn wsX8_reach wsX8_isKind := goodIn_r _ [7, 8, 9, 6, 10] (by decide +kernel) (by decide +kernel)
set_option maxRecDepth 20000 in
theorem gX8_reach_X8_isKind : GoodIn wsX8_reach (va_wsS RX8 96 yX8_isKind wsX8_isKind) := goodIn_app (goodIn_of _ (by decide +kernel)) ggX8_reach_X8_isKind
set_option maxRecDepth 20000 in
theorem ggX8_reach_X8_areMoves : GoodIn wsX8_reach wsX8_areMoves := goodIn_r _ [13, 8, 9, 6, 10] (by decide +kernel) (by decide +kernel)
set_option maxRecDepth 20000 in
theorem gX8_reach_X8_areMoves : GoodIn wsX8_reach (va_wsS RX8 114 yX8_areMoves wsX8_areMoves) := goodIn_app (goodIn_of _ (by decide +kernel)) ggX8_reach_X8_areMoves
set_option maxRecDepth 20000 in
theorem ggX8_reach_X8_isWithin : GoodIn wsX8_reach wsX8_isWithin := goodIn_r _ [10] (by decide +kernel) (by decide +kernel)
set_option maxRecDepth 20000 in
theorem gX8_reach_X8_isWithin : GoodIn wsX8_reach (va_wsS RX8 62 yX8_isWithin wsX8_isWithin) := goodIn_app (goodIn_of _ (by decide +kernel)) ggX8_reach_X8_isWithin
set_option maxRecDepth 20000 in
theorem ggX8_reach_X8_isLawfulSet : GoodIn wsX8_reach wsX8_isLawfulSet := goodIn_r _ [17, 18, 19, 20, 21, 22, 23, 24, 25, 26, 27, 28, 29, 30, 31, 32, 33, 34, 35, 36, 37, 38, 39, 40, 41, 133, 134, 135, 136, 137, 138, 139, 140, 158, 159] (by decide +kernel) (by decide +kernel)
set_option maxRecDepth 20000 in
theorem gX8_reach_X8_isLawfulSet : GoodIn wsX8_reach (wsV RX8 121 RX8 yX8_isLawfulSet wsX8_isLawfulSet) := goodIn_app (goodIn_of _ (by decide +kernel)) ggX8_reach_X8_isLawfulSet
set_option maxRecDepth 20000 in
theorem ggX8_reach_X8_begin : GoodIn wsX8_reach wsX8_begin := goodIn_r _ [45, 1, 46, 47, 48, 49, 50, 51, 52, 53, 54, 55, 56, 57, 3, 58, 59, 60, 25, 26, 22, 27, 28, 61, 62, 63, 64, 65, 66, 67, 9, 6, 10, 68, 30, 31, 32, 33, 34, 35, 36, 37, 24, 38, 39, 40, 41, 133, 134, 135, 136, 137, 138, 139, 140, 141, 142, 143, 144, 145, 146, 147, 148, 149, 150, 151, 152, 153, 154, 155, 156, 157, 158, 159] (by decide +kernel) (by decide +kernel)
set_option maxRecDepth 20000 in
theorem gX8_reach_X8_begin : GoodIn wsX8_reach (wsV RX8 124 RX8 yX8_begin wsX8_begin) := goodIn_app (goodIn_of _ (by decide +kernel)) ggX8_reach_X8_begin
set_option maxRecDepth 20000 in
theorem ggX8_reach_X5_spread : GoodIn wsX8_reach wsX5_spread := goodIn_r _ [74, 75, 76, 77, 78, 79, 80, 81, 82, 83, 73, 84, 85, 86, 87, 88, 89, 51, 90, 91, 92, 54, 93, 53, 94, 95, 96, 97, 98, 60, 25, 26, 22, 27, 28, 99, 100, 101, 102, 58, 59, 103, 104, 105, 106, 107, 108, 109, 110, 111, 112, 113, 114, 115, 116, 117, 118, 119, 120, 121, 122, 141, 142, 143, 144, 145, 146, 147, 148, 149, 150, 151, 152, 153, 154, 155, 156, 157, 158, 159] (by decide +kernel) (by decide +kernel)
set_option maxRecDepth 20000 in
theorem gX8_reach_X5_spread_u138X2 : GoodIn wsX8_reach (va_wsU RX8 138 RX2 "SlidTokens$Search" ⟨"SlidTokens$Marks", "spread", "(II)V"⟩ yX5_spread wsX5_spread) := goodIn_app (goodIn_of _ (by decide +kernel)) ggX8_reach_X5_spread
set_option maxRecDepth 20000 in
theorem ggX8_reach_X2_frozen : GoodIn wsX8_reach wsX2_frozen := goodIn_r _ [126, 54, 57, 3, 127, 128, 60, 25, 26, 22, 27, 28, 141, 142, 143, 144, 145, 146, 147, 148, 149, 150, 151, 152, 153, 154, 155, 156, 157, 158, 159] (by decide +kernel) (by decide +kernel)
set_option maxRecDepth 20000 in
theorem gX8_reach_X2_frozen : GoodIn wsX8_reach (wsV RX8 144 RX2 yX2_frozen wsX2_frozen) := goodIn_app (goodIn_of _ (by decide +kernel)) ggX8_reach_X2_frozen
set_option maxRecDepth 20000 in
theorem ggX8_reach_X2_farthest : GoodIn wsX8_reach wsX2_farthest := goodIn_r _ [132, 57, 3, 58, 59, 127, 128, 141, 142, 143, 144, 145, 146, 147, 148, 149, 150, 151, 152, 153, 154, 155, 156, 157] (by decide +kernel) (by decide +kernel)
set_option maxRecDepth 20000 in
theorem gX8_reach_X2_farthest : GoodIn wsX8_reach (wsV RX8 147 RX2 yX2_farthest wsX2_farthest) := goodIn_app (goodIn_of _ (by decide +kernel)) ggX8_reach_X2_farthest
theorem dX8_reach_0 : decode cX8_reach 0 = .ok (.iload_n 1, 1) := by decide +kernel
theorem dX8_reach_1 : decode cX8_reach 1 = .ok (.invokestatic 96, 3) := by decide +kernel
theorem dX8_reach_4 : decode cX8_reach 4 = .ok (.ifCond .eq 29, 3) := by decide +kernel
theorem dX8_reach_7 : decode cX8_reach 7 = .ok (.iload_n 2, 1) := by decide +kernel
theorem dX8_reach_8 : decode cX8_reach 8 = .ok (.invokestatic 114, 3) := by decide +kernel
theorem dX8_reach_11 : decode cX8_reach 11 = .ok (.ifCond .eq 22, 3) := by decide +kernel
theorem dX8_reach_14 : decode cX8_reach 14 = .ok (.iload 4, 2) := by decide +kernel
theorem dX8_reach_16 : decode cX8_reach 16 = .ok (.iconst 0, 1) := by decide +kernel
theorem dX8_reach_17 : decode cX8_reach 17 = .ok (.iconst 2, 1) := by decide +kernel
theorem dX8_reach_18 : decode cX8_reach 18 = .ok (.invokestatic 62, 3) := by decide +kernel
theorem dX8_reach_21 : decode cX8_reach 21 = .ok (.ifCond .eq 12, 3) := by decide +kernel
theorem dX8_reach_24 : decode cX8_reach 24 = .ok (.aload_n 0, 1) := by decide +kernel
theorem dX8_reach_25 : decode cX8_reach 25 = .ok (.iload_n 1, 1) := by decide +kernel
theorem dX8_reach_26 : decode cX8_reach 26 = .ok (.iload_n 3, 1) := by decide +kernel
theorem dX8_reach_27 : decode cX8_reach 27 = .ok (.invokevirtual 121, 3) := by decide +kernel
theorem dX8_reach_30 : decode cX8_reach 30 = .ok (.ifCond .ne 5, 3) := by decide +kernel
theorem dX8_reach_33 : decode cX8_reach 33 = .ok (.iconst (-1), 1) := by decide +kernel
theorem dX8_reach_34 : decode cX8_reach 34 = .ok (.ireturn, 1) := by decide +kernel
theorem dX8_reach_35 : decode cX8_reach 35 = .ok (.aload_n 0, 1) := by decide +kernel
theorem dX8_reach_36 : decode cX8_reach 36 = .ok (.iload_n 1, 1) := by decide +kernel
theorem dX8_reach_37 : decode cX8_reach 37 = .ok (.iload_n 2, 1) := by decide +kernel
theorem dX8_reach_38 : decode cX8_reach 38 = .ok (.invokevirtual 124, 3) := by decide +kernel
theorem dX8_reach_41 : decode cX8_reach 41 = .ok (.aload_n 0, 1) := by decide +kernel
theorem dX8_reach_42 : decode cX8_reach 42 = .ok (.getfield 21, 3) := by decide +kernel
theorem dX8_reach_45 : decode cX8_reach 45 = .ok (.iload_n 3, 1) := by decide +kernel
theorem dX8_reach_46 : decode cX8_reach 46 = .ok (.iconst (-1), 1) := by decide +kernel
theorem dX8_reach_47 : decode cX8_reach 47 = .ok (.invokevirtual 138, 3) := by decide +kernel
theorem dX8_reach_50 : decode cX8_reach 50 = .ok (.iload 4, 2) := by decide +kernel
theorem dX8_reach_52 : decode cX8_reach 52 = .ok (.lookupswitch 44 #[(0, 28), (1, 36)], 28) := by decide +kernel
theorem dX8_reach_80 : decode cX8_reach 80 = .ok (.aload_n 0, 1) := by decide +kernel
theorem dX8_reach_81 : decode cX8_reach 81 = .ok (.getfield 21, 3) := by decide +kernel
theorem dX8_reach_84 : decode cX8_reach 84 = .ok (.getfield 141, 3) := by decide +kernel
theorem dX8_reach_87 : decode cX8_reach 87 = .ok (.ireturn, 1) := by decide +kernel
theorem dX8_reach_88 : decode cX8_reach 88 = .ok (.aload_n 0, 1) := by decide +kernel
theorem dX8_reach_89 : decode cX8_reach 89 = .ok (.getfield 21, 3) := by decide +kernel
theorem dX8_reach_92 : decode cX8_reach 92 = .ok (.invokevirtual 144, 3) := by decide +kernel
theorem dX8_reach_95 : decode cX8_reach 95 = .ok (.ireturn, 1) := by decide +kernel
theorem dX8_reach_96 : decode cX8_reach 96 = .ok (.aload_n 0, 1) := by decide +kernel
theorem dX8_reach_97 : decode cX8_reach 97 = .ok (.getfield 21, 3) := by decide +kernel
theorem dX8_reach_100 : decode cX8_reach 100 = .ok (.invokevirtual 147, 3) := by decide +kernel
theorem dX8_reach_103 : decode cX8_reach 103 = .ok (.ireturn, 1) := by decide +kernel
set_option maxRecDepth 20000 in
theorem ggX8_parts_X8_isKind : GoodIn wsX8_parts wsX8_isKind := goodIn_r _ [7, 8, 9, 6, 10] (by decide +kernel) (by decide +kernel)
set_option maxRecDepth 20000 in
theorem gX8_parts_X8_isKind : GoodIn wsX8_parts (va_wsS RX8 96 yX8_isKind wsX8_isKind) := goodIn_app (goodIn_of _ (by decide +kernel)) ggX8_parts_X8_isKind
set_option maxRecDepth 20000 in
theorem ggX8_parts_X8_areMoves : GoodIn wsX8_parts wsX8_areMoves := goodIn_r _ [13, 8, 9, 6, 10] (by decide +kernel) (by decide +kernel)
set_option maxRecDepth 20000 in
theorem gX8_parts_X8_areMoves : GoodIn wsX8_parts (va_wsS RX8 114 yX8_areMoves wsX8_areMoves) := goodIn_app (goodIn_of _ (by decide +kernel)) ggX8_parts_X8_areMoves
set_option maxRecDepth 20000 in
theorem ggX8_parts_X8_begin : GoodIn wsX8_parts wsX8_begin := goodIn_r _ [17, 1, 18, 19, 20, 21, 22, 23, 24, 25, 26, 27, 28, 29, 30, 31, 32, 33, 34, 35, 36, 37, 38, 39, 40, 41, 42, 43, 44, 45, 9, 6, 10, 46, 47, 48, 49, 50, 51, 52, 53, 54, 55, 56, 57, 58, 59, 121, 122, 123, 124, 125, 126, 127, 128, 131, 132, 133, 134, 135, 136, 137, 138, 139, 140, 141, 142, 143, 144, 145, 146, 147, 129, 130] (by decide +kernel) (by decide +kernel)
set_option maxRecDepth 20000 in
theorem gX8_parts_X8_begin : GoodIn wsX8_parts (wsV RX8 124 RX8 yX8_begin wsX8_begin) := goodIn_app (goodIn_of _ (by decide +kernel)) ggX8_parts_X8_begin
set_option maxRecDepth 20000 in
theorem ggX8_parts_X5_components : GoodIn wsX8_parts wsX5_components := goodIn_r _ [65, 66, 67, 68, 69, 70, 71, 64, 72, 73, 74, 75, 76, 77, 78, 79, 80, 81, 82, 83, 84, 85, 86, 23, 87, 88, 89, 26, 90, 25, 91, 92, 93, 94, 95, 33, 34, 35, 36, 37, 38, 96, 97, 98, 99, 31, 32, 100, 101, 102, 103, 104, 105, 106, 107, 108, 109, 110, 111, 112, 113, 114, 115, 116, 117, 118, 119, 120, 131, 132, 133, 134, 135, 136, 137, 138, 139, 140, 141, 142, 143, 144, 145, 146, 147, 129, 130] (by decide +kernel) (by decide +kernel)
set_option maxRecDepth 20000 in
theorem gX8_parts_X5_components_u150X2 : GoodIn wsX8_parts (va_wsU RX8 150 RX2 "SlidTokens$Search" ⟨"SlidTokens$Marks", "components", "()I"⟩ yX5_components wsX5_components) := goodIn_app (goodIn_of _ (by decide +kernel)) ggX8_parts_X5_components
set_option maxRecDepth 20000 in
theorem ggX8_parts_X8_isWithin : GoodIn wsX8_parts wsX8_isWithin := goodIn_r _ [10] (by decide +kernel) (by decide +kernel)
set_option maxRecDepth 20000 in
theorem gX8_parts_X8_isWithin : GoodIn wsX8_parts (va_wsS RX8 62 yX8_isWithin wsX8_isWithin) := goodIn_app (goodIn_of _ (by decide +kernel)) ggX8_parts_X8_isWithin
set_option maxRecDepth 20000 in
theorem ggX8_parts_X2_begin : GoodIn wsX8_parts wsX2_begin := goodIn_r _ [24, 25, 26, 27, 28, 29, 30, 31, 32, 33, 34, 35, 36, 37, 38, 39, 40, 41, 42, 43, 44, 45, 9, 6, 10, 46, 47, 48, 49, 50, 51, 52, 53, 54, 55, 56, 57, 58, 59, 131, 132, 133, 134, 135, 136, 137, 138, 139, 140, 141, 142, 143, 144, 145, 146, 147, 129, 130] (by decide +kernel) (by decide +kernel)
set_option maxRecDepth 20000 in
theorem gX8_parts_X2_begin : GoodIn wsX8_parts (wsV RX8 153 RX2 yX2_begin wsX2_begin) := goodIn_app (goodIn_of _ (by decide +kernel)) ggX8_parts_X2_begin
theorem dX8_parts_0 : decode cX8_parts 0 = .ok (.iload_n 1, 1) := by decide +kernel
theorem dX8_parts_1 : decode cX8_parts 1 = .ok (.invokestatic 96, 3) := by decide +kernel
theorem dX8_parts_4 : decode cX8_parts 4 = .ok (.ifCond .eq 10, 3) := by decide +kernel
theorem dX8_parts_7 : decode cX8_parts 7 = .ok (.iload_n 2, 1) := by decide +kernel
theorem dX8_parts_8 : decode cX8_parts 8 = .ok (.invokestatic 114, 3) := by decide +kernel
theorem dX8_parts_11 : decode cX8_parts 11 = .ok (.ifCond .ne 5, 3) := by decide +kernel
theorem dX8_parts_14 : decode cX8_parts 14 = .ok (.iconst (-1), 1) := by decide +kernel
theorem dX8_parts_15 : decode cX8_parts 15 = .ok (.ireturn, 1) := by decide +kernel
theorem dX8_parts_16 : decode cX8_parts 16 = .ok (.iload_n 2, 1) := by decide +kernel
theorem dX8_parts_17 : decode cX8_parts 17 = .ok (.iconst 2, 1) := by decide +kernel
theorem dX8_parts_18 : decode cX8_parts 18 = .ok (.if_icmp .ne 17, 3) := by decide +kernel
theorem dX8_parts_21 : decode cX8_parts 21 = .ok (.aload_n 0, 1) := by decide +kernel
theorem dX8_parts_22 : decode cX8_parts 22 = .ok (.iload_n 1, 1) := by decide +kernel
theorem dX8_parts_23 : decode cX8_parts 23 = .ok (.iload_n 2, 1) := by decide +kernel
theorem dX8_parts_24 : decode cX8_parts 24 = .ok (.invokevirtual 124, 3) := by decide +kernel
theorem dX8_parts_27 : decode cX8_parts 27 = .ok (.aload_n 0, 1) := by decide +kernel
theorem dX8_parts_28 : decode cX8_parts 28 = .ok (.getfield 21, 3) := by decide +kernel
theorem dX8_parts_31 : decode cX8_parts 31 = .ok (.invokevirtual 150, 3) := by decide +kernel
theorem dX8_parts_34 : decode cX8_parts 34 = .ok (.ireturn, 1) := by decide +kernel
theorem dX8_parts_35 : decode cX8_parts 35 = .ok (.iload_n 3, 1) := by decide +kernel
theorem dX8_parts_36 : decode cX8_parts 36 = .ok (.iconst 0, 1) := by decide +kernel
theorem dX8_parts_37 : decode cX8_parts 37 = .ok (.aload_n 0, 1) := by decide +kernel
theorem dX8_parts_38 : decode cX8_parts 38 = .ok (.getfield 10, 3) := by decide +kernel
theorem dX8_parts_41 : decode cX8_parts 41 = .ok (.getfield 66, 3) := by decide +kernel
theorem dX8_parts_44 : decode cX8_parts 44 = .ok (.invokestatic 62, 3) := by decide +kernel
theorem dX8_parts_47 : decode cX8_parts 47 = .ok (.ifCond .ne 5, 3) := by decide +kernel
theorem dX8_parts_50 : decode cX8_parts 50 = .ok (.iconst (-1), 1) := by decide +kernel
theorem dX8_parts_51 : decode cX8_parts 51 = .ok (.ireturn, 1) := by decide +kernel
theorem dX8_parts_52 : decode cX8_parts 52 = .ok (.aload_n 0, 1) := by decide +kernel
theorem dX8_parts_53 : decode cX8_parts 53 = .ok (.getfield 21, 3) := by decide +kernel
theorem dX8_parts_56 : decode cX8_parts 56 = .ok (.iload_n 1, 1) := by decide +kernel
theorem dX8_parts_57 : decode cX8_parts 57 = .ok (.iload_n 2, 1) := by decide +kernel
theorem dX8_parts_58 : decode cX8_parts 58 = .ok (.iload_n 3, 1) := by decide +kernel
theorem dX8_parts_59 : decode cX8_parts 59 = .ok (.iload_n 3, 1) := by decide +kernel
theorem dX8_parts_60 : decode cX8_parts 60 = .ok (.invokevirtual 153, 3) := by decide +kernel
theorem dX8_parts_63 : decode cX8_parts 63 = .ok (.aload_n 0, 1) := by decide +kernel
theorem dX8_parts_64 : decode cX8_parts 64 = .ok (.getfield 21, 3) := by decide +kernel
theorem dX8_parts_67 : decode cX8_parts 67 = .ok (.invokevirtual 150, 3) := by decide +kernel
theorem dX8_parts_70 : decode cX8_parts 70 = .ok (.ireturn, 1) := by decide +kernel
set_option maxRecDepth 20000 in
theorem ggX8_proper_X4_isColouring : GoodIn wsX8_proper wsX4_isColouring := goodIn_r _ [9, 10, 11, 12, 13, 8, 14, 34, 35, 36, 37, 38, 39, 40, 41, 32, 33] (by decide +kernel) (by decide +kernel)
set_option maxRecDepth 20000 in
theorem gX8_proper_X4_isColouring : GoodIn wsX8_proper (wsV RX8 156 RX4 yX4_isColouring wsX4_isColouring) := goodIn_app (goodIn_of _ (by decide +kernel)) ggX8_proper_X4_isColouring
set_option maxRecDepth 20000 in
theorem ggX8_proper_X4_differs : GoodIn wsX8_proper wsX4_differs := goodIn_r _ [18, 10, 11, 19, 12, 13, 8, 14, 34, 35, 36, 37, 38, 39, 40, 41, 32, 33] (by decide +kernel) (by decide +kernel)
set_option maxRecDepth 20000 in
theorem gX8_proper_X4_differs : GoodIn wsX8_proper (wsV RX8 159 RX4 yX4_differs wsX4_differs) := goodIn_app (goodIn_of _ (by decide +kernel)) ggX8_proper_X4_differs
set_option maxRecDepth 20000 in
theorem ggX8_proper_X8_asNumber : GoodIn wsX8_proper wsX8_asNumber := goodIn_r _ [23] (by decide +kernel) (by decide +kernel)
set_option maxRecDepth 20000 in
theorem gX8_proper_X8_asNumber : GoodIn wsX8_proper (va_wsS RX8 81 yX8_asNumber wsX8_asNumber) := goodIn_app (goodIn_of _ (by decide +kernel)) ggX8_proper_X8_asNumber
theorem dX8_proper_0 : decode cX8_proper 0 = .ok (.aload_n 0, 1) := by decide +kernel
theorem dX8_proper_1 : decode cX8_proper 1 = .ok (.getfield 10, 3) := by decide +kernel
theorem dX8_proper_4 : decode cX8_proper 4 = .ok (.getfield 66, 3) := by decide +kernel
theorem dX8_proper_7 : decode cX8_proper 7 = .ok (.bipush 6, 2) := by decide +kernel
theorem dX8_proper_9 : decode cX8_proper 9 = .ok (.if_icmp .le 6, 3) := by decide +kernel
theorem dX8_proper_12 : decode cX8_proper 12 = .ok (.bipush (-2), 2) := by decide +kernel
theorem dX8_proper_14 : decode cX8_proper 14 = .ok (.ireturn, 1) := by decide +kernel
theorem dX8_proper_15 : decode cX8_proper 15 = .ok (.aload_n 0, 1) := by decide +kernel
theorem dX8_proper_16 : decode cX8_proper 16 = .ok (.getfield 28, 3) := by decide +kernel
theorem dX8_proper_19 : decode cX8_proper 19 = .ok (.iload_n 1, 1) := by decide +kernel
theorem dX8_proper_20 : decode cX8_proper 20 = .ok (.aload_n 0, 1) := by decide +kernel
theorem dX8_proper_21 : decode cX8_proper 21 = .ok (.getfield 59, 3) := by decide +kernel
theorem dX8_proper_24 : decode cX8_proper 24 = .ok (.invokevirtual 156, 3) := by decide +kernel
theorem dX8_proper_27 : decode cX8_proper 27 = .ok (.ifCond .ne 5, 3) := by decide +kernel
theorem dX8_proper_30 : decode cX8_proper 30 = .ok (.iconst (-1), 1) := by decide +kernel
theorem dX8_proper_31 : decode cX8_proper 31 = .ok (.ireturn, 1) := by decide +kernel
theorem dX8_proper_32 : decode cX8_proper 32 = .ok (.aload_n 0, 1) := by decide +kernel
theorem dX8_proper_33 : decode cX8_proper 33 = .ok (.getfield 28, 3) := by decide +kernel
theorem dX8_proper_36 : decode cX8_proper 36 = .ok (.iload_n 1, 1) := by decide +kernel
theorem dX8_proper_37 : decode cX8_proper 37 = .ok (.invokevirtual 159, 3) := by decide +kernel
theorem dX8_proper_40 : decode cX8_proper 40 = .ok (.invokestatic 81, 3) := by decide +kernel
theorem dX8_proper_43 : decode cX8_proper 43 = .ok (.ireturn, 1) := by decide +kernel
set_option maxRecDepth 20000 in
theorem ggX8_shades_X4_isLawful : GoodIn wsX8_shades wsX4_isLawful := goodIn_r _ [9, 10, 11, 12, 8, 13, 14, 15, 16, 17, 18, 19, 20, 21, 22, 23, 115, 116, 117, 118, 119, 120, 121, 122, 113, 114] (by decide +kernel) (by decide +kernel)
set_option maxRecDepth 20000 in
theorem gX8_shades_X4_isLawful : GoodIn wsX8_shades (wsV RX8 162 RX4 yX4_isLawful wsX4_isLawful) := goodIn_app (goodIn_of _ (by decide +kernel)) ggX8_shades_X4_isLawful
set_option maxRecDepth 20000 in
theorem ggX8_shades_X4_begin : GoodIn wsX8_shades wsX4_begin := goodIn_r _ [27, 28, 14, 15, 29, 30, 31, 32, 33, 34, 35, 36, 37, 38, 39, 6, 7, 8, 9, 10, 11, 12, 13, 16, 17, 18, 19, 20, 21, 22, 23, 115, 116, 117, 118, 119, 120, 121, 122, 113, 114, 123, 124, 125, 126, 127, 128, 129, 130, 131] (by decide +kernel) (by decide +kernel)
set_option maxRecDepth 20000 in
theorem gX8_shades_X4_begin : GoodIn wsX8_shades (wsV RX8 163 RX4 yX4_begin wsX4_begin) := goodIn_app (goodIn_of _ (by decide +kernel)) ggX8_shades_X4_begin
set_option maxRecDepth 20000 in
theorem ggX8_shades_X5_fewest : GoodIn wsX8_shades wsX5_fewest := goodIn_r _ [45, 46, 47, 48, 49, 50, 44, 51, 52, 53, 54, 55, 56, 57, 58, 59, 60, 61, 62, 63, 64, 65, 66, 67, 68, 69, 70, 71, 72, 73, 74, 75, 76, 77, 78, 79, 80, 81, 82, 83, 84, 85, 86, 87, 88, 89, 90, 91, 92, 93, 94, 95, 96, 97, 8, 98, 99, 100, 14, 15, 28, 29, 30, 101, 102, 103, 104, 123, 124, 125, 126, 127, 128, 129, 130, 131, 115, 116, 117, 118, 119, 120, 121, 122, 113, 114] (by decide +kernel) (by decide +kernel)
set_option maxRecDepth 20000 in
theorem gX8_shades_X5_fewest_u165X4 : GoodIn wsX8_shades (va_wsU RX8 165 RX4 "SlidTokens$Search" ⟨"SlidTokens$Paints", "fewest", "(II)I"⟩ yX5_fewest wsX5_fewest) := goodIn_app (goodIn_of _ (by decide +kernel)) ggX8_shades_X5_fewest
theorem dX8_shades_0 : decode cX8_shades 0 = .ok (.aload_n 0, 1) := by decide +kernel
theorem dX8_shades_1 : decode cX8_shades 1 = .ok (.getfield 10, 3) := by decide +kernel
theorem dX8_shades_4 : decode cX8_shades 4 = .ok (.getfield 66, 3) := by decide +kernel
theorem dX8_shades_7 : decode cX8_shades 7 = .ok (.bipush 6, 2) := by decide +kernel
theorem dX8_shades_9 : decode cX8_shades 9 = .ok (.if_icmp .le 6, 3) := by decide +kernel
theorem dX8_shades_12 : decode cX8_shades 12 = .ok (.bipush (-2), 2) := by decide +kernel
theorem dX8_shades_14 : decode cX8_shades 14 = .ok (.ireturn, 1) := by decide +kernel
theorem dX8_shades_15 : decode cX8_shades 15 = .ok (.aload_n 0, 1) := by decide +kernel
theorem dX8_shades_16 : decode cX8_shades 16 = .ok (.getfield 28, 3) := by decide +kernel
theorem dX8_shades_19 : decode cX8_shades 19 = .ok (.iload_n 1, 1) := by decide +kernel
theorem dX8_shades_20 : decode cX8_shades 20 = .ok (.aload_n 0, 1) := by decide +kernel
theorem dX8_shades_21 : decode cX8_shades 21 = .ok (.getfield 59, 3) := by decide +kernel
theorem dX8_shades_24 : decode cX8_shades 24 = .ok (.invokevirtual 162, 3) := by decide +kernel
theorem dX8_shades_27 : decode cX8_shades 27 = .ok (.ifCond .eq 18, 3) := by decide +kernel
theorem dX8_shades_30 : decode cX8_shades 30 = .ok (.aload_n 0, 1) := by decide +kernel
theorem dX8_shades_31 : decode cX8_shades 31 = .ok (.getfield 28, 3) := by decide +kernel
theorem dX8_shades_34 : decode cX8_shades 34 = .ok (.iload_n 2, 1) := by decide +kernel
theorem dX8_shades_35 : decode cX8_shades 35 = .ok (.aload_n 0, 1) := by decide +kernel
theorem dX8_shades_36 : decode cX8_shades 36 = .ok (.getfield 59, 3) := by decide +kernel
theorem dX8_shades_39 : decode cX8_shades 39 = .ok (.invokevirtual 162, 3) := by decide +kernel
theorem dX8_shades_42 : decode cX8_shades 42 = .ok (.ifCond .ne 5, 3) := by decide +kernel
theorem dX8_shades_45 : decode cX8_shades 45 = .ok (.iconst (-1), 1) := by decide +kernel
theorem dX8_shades_46 : decode cX8_shades 46 = .ok (.ireturn, 1) := by decide +kernel
theorem dX8_shades_47 : decode cX8_shades 47 = .ok (.aload_n 0, 1) := by decide +kernel
theorem dX8_shades_48 : decode cX8_shades 48 = .ok (.getfield 28, 3) := by decide +kernel
theorem dX8_shades_51 : decode cX8_shades 51 = .ok (.aload_n 0, 1) := by decide +kernel
theorem dX8_shades_52 : decode cX8_shades 52 = .ok (.getfield 59, 3) := by decide +kernel
theorem dX8_shades_55 : decode cX8_shades 55 = .ok (.invokevirtual 163, 3) := by decide +kernel
theorem dX8_shades_58 : decode cX8_shades 58 = .ok (.aload_n 0, 1) := by decide +kernel
theorem dX8_shades_59 : decode cX8_shades 59 = .ok (.getfield 28, 3) := by decide +kernel
theorem dX8_shades_62 : decode cX8_shades 62 = .ok (.iload_n 1, 1) := by decide +kernel
theorem dX8_shades_63 : decode cX8_shades 63 = .ok (.iload_n 2, 1) := by decide +kernel
theorem dX8_shades_64 : decode cX8_shades 64 = .ok (.invokevirtual 165, 3) := by decide +kernel
theorem dX8_shades_67 : decode cX8_shades 67 = .ok (.ireturn, 1) := by decide +kernel
set_option maxRecDepth 20000 in
theorem ggX8_heaps_X8_isWithin : GoodIn wsX8_heaps wsX8_isWithin := goodIn_r _ [8] (by decide +kernel) (by decide +kernel)
set_option maxRecDepth 20000 in
theorem gX8_heaps_X8_isWithin : GoodIn wsX8_heaps (va_wsS RX8 62 yX8_isWithin wsX8_isWithin) := goodIn_app (goodIn_of _ (by decide +kernel)) ggX8_heaps_X8_isWithin
set_option maxRecDepth 20000 in
theorem ggX8_heaps_X4_begin : GoodIn wsX8_heaps wsX4_begin := goodIn_r _ [13, 14, 15, 16, 17, 18, 19, 20, 21, 22, 23, 24, 25, 26, 27, 28, 29, 12, 30, 31, 32, 33, 34, 35, 36, 37, 38, 39, 40, 41, 42, 129, 130, 131, 132, 133, 134, 135, 136, 127, 128, 137, 138, 139, 140, 141, 142, 143, 144, 145] (by decide +kernel) (by decide +kernel)
set_option maxRecDepth 20000 in
theorem gX8_heaps_X4_begin : GoodIn wsX8_heaps (wsV RX8 163 RX4 yX4_begin wsX4_begin) := goodIn_app (goodIn_of _ (by decide +kernel)) ggX8_heaps_X4_begin
set_option maxRecDepth 20000 in
theorem ggX8_heaps_X4_many : GoodIn wsX8_heaps wsX4_many := goodIn_r _ [46, 23, 24, 17, 18, 137, 138, 139, 140, 141, 142, 143, 144, 145, 129, 130, 131, 132, 133, 134, 135, 136] (by decide +kernel) (by decide +kernel)
set_option maxRecDepth 20000 in
theorem gX8_heaps_X4_many : GoodIn wsX8_heaps (wsV RX8 166 RX4 yX4_many wsX4_many) := goodIn_app (goodIn_of _ (by decide +kernel)) ggX8_heaps_X4_many
set_option maxRecDepth 20000 in
theorem ggX8_heaps_X4_stuck : GoodIn wsX8_heaps wsX4_stuck := goodIn_r _ [50, 23, 24, 17, 18, 51, 52, 53, 54, 55, 12, 56, 15, 16, 14, 57, 58, 59, 60, 61, 62, 63, 64, 137, 138, 139, 140, 141, 142, 143, 144, 145, 129, 130, 131, 132, 133, 134, 135, 136, 127, 128] (by decide +kernel) (by decide +kernel)
set_option maxRecDepth 20000 in
theorem gX8_heaps_X4_stuck : GoodIn wsX8_heaps (wsV RX8 169 RX4 yX4_stuck wsX4_stuck) := goodIn_app (goodIn_of _ (by decide +kernel)) ggX8_heaps_X4_stuck
set_option maxRecDepth 20000 in
theorem ggX8_heaps_X5_components : GoodIn wsX8_heaps wsX5_components := goodIn_r _ [69, 70, 71, 72, 73, 74, 75, 61, 76, 77, 78, 63, 64, 79, 80, 81, 82, 83, 84, 85, 86, 87, 88, 89, 90, 91, 92, 93, 94, 95, 96, 97, 98, 99, 100, 101, 102, 103, 104, 105, 106, 107, 108, 109, 110, 111, 112, 113, 114, 115, 116, 60, 62, 117, 54, 12, 56, 51, 52, 15, 16, 14, 17, 18, 57, 58, 59, 118, 137, 138, 139, 140, 141, 142, 143, 144, 145, 129, 130, 131, 132, 133, 134, 135, 136, 127, 128] (by decide +kernel) (by decide +kernel)
set_option maxRecDepth 20000 in
theorem gX8_heaps_X5_components_u172X4 : GoodIn wsX8_heaps (va_wsU RX8 172 RX4 "SlidTokens$Search" ⟨"SlidTokens$Paints", "components", "()I"⟩ yX5_components wsX5_components) := goodIn_app (goodIn_of _ (by decide +kernel)) ggX8_heaps_X5_components
theorem dX8_heaps_0 : decode cX8_heaps 0 = .ok (.iload_n 1, 1) := by decide +kernel
theorem dX8_heaps_1 : decode cX8_heaps 1 = .ok (.iconst 0, 1) := by decide +kernel
theorem dX8_heaps_2 : decode cX8_heaps 2 = .ok (.iconst 2, 1) := by decide +kernel
theorem dX8_heaps_3 : decode cX8_heaps 3 = .ok (.invokestatic 62, 3) := by decide +kernel
theorem dX8_heaps_6 : decode cX8_heaps 6 = .ok (.ifCond .ne 5, 3) := by decide +kernel
theorem dX8_heaps_9 : decode cX8_heaps 9 = .ok (.iconst (-1), 1) := by decide +kernel
theorem dX8_heaps_10 : decode cX8_heaps 10 = .ok (.ireturn, 1) := by decide +kernel
theorem dX8_heaps_11 : decode cX8_heaps 11 = .ok (.aload_n 0, 1) := by decide +kernel
theorem dX8_heaps_12 : decode cX8_heaps 12 = .ok (.getfield 10, 3) := by decide +kernel
theorem dX8_heaps_15 : decode cX8_heaps 15 = .ok (.getfield 66, 3) := by decide +kernel
theorem dX8_heaps_18 : decode cX8_heaps 18 = .ok (.bipush 6, 2) := by decide +kernel
theorem dX8_heaps_20 : decode cX8_heaps 20 = .ok (.if_icmp .le 6, 3) := by decide +kernel
theorem dX8_heaps_23 : decode cX8_heaps 23 = .ok (.bipush (-2), 2) := by decide +kernel
theorem dX8_heaps_25 : decode cX8_heaps 25 = .ok (.ireturn, 1) := by decide +kernel
theorem dX8_heaps_26 : decode cX8_heaps 26 = .ok (.aload_n 0, 1) := by decide +kernel
theorem dX8_heaps_27 : decode cX8_heaps 27 = .ok (.getfield 28, 3) := by decide +kernel
theorem dX8_heaps_30 : decode cX8_heaps 30 = .ok (.aload_n 0, 1) := by decide +kernel
theorem dX8_heaps_31 : decode cX8_heaps 31 = .ok (.getfield 59, 3) := by decide +kernel
theorem dX8_heaps_34 : decode cX8_heaps 34 = .ok (.invokevirtual 163, 3) := by decide +kernel
theorem dX8_heaps_37 : decode cX8_heaps 37 = .ok (.iload_n 1, 1) := by decide +kernel
theorem dX8_heaps_38 : decode cX8_heaps 38 = .ok (.lookupswitch 42 #[(0, 26), (1, 34)], 26) := by decide +kernel
theorem dX8_heaps_64 : decode cX8_heaps 64 = .ok (.aload_n 0, 1) := by decide +kernel
theorem dX8_heaps_65 : decode cX8_heaps 65 = .ok (.getfield 28, 3) := by decide +kernel
theorem dX8_heaps_68 : decode cX8_heaps 68 = .ok (.invokevirtual 166, 3) := by decide +kernel
theorem dX8_heaps_71 : decode cX8_heaps 71 = .ok (.ireturn, 1) := by decide +kernel
theorem dX8_heaps_72 : decode cX8_heaps 72 = .ok (.aload_n 0, 1) := by decide +kernel
theorem dX8_heaps_73 : decode cX8_heaps 73 = .ok (.getfield 28, 3) := by decide +kernel
theorem dX8_heaps_76 : decode cX8_heaps 76 = .ok (.invokevirtual 169, 3) := by decide +kernel
theorem dX8_heaps_79 : decode cX8_heaps 79 = .ok (.ireturn, 1) := by decide +kernel
theorem dX8_heaps_80 : decode cX8_heaps 80 = .ok (.aload_n 0, 1) := by decide +kernel
theorem dX8_heaps_81 : decode cX8_heaps 81 = .ok (.getfield 28, 3) := by decide +kernel
theorem dX8_heaps_84 : decode cX8_heaps 84 = .ok (.invokevirtual 172, 3) := by decide +kernel
theorem dX8_heaps_87 : decode cX8_heaps 87 = .ok (.ireturn, 1) := by decide +kernel
set_option maxRecDepth 20000 in
theorem ggX8_told_X3_pairs : GoodIn wsX8_told wsX3_pairs := goodIn_r _ [10, 11, 12, 13, 14, 15, 16, 17, 18, 19, 28, 29] (by decide +kernel) (by decide +kernel)
set_option maxRecDepth 20000 in
theorem gX8_told_X3_pairs : GoodIn wsX8_told (wsV RX8 92 RX3 yX3_pairs wsX3_pairs) := goodIn_app (goodIn_of _ (by decide +kernel)) ggX8_told_X3_pairs
theorem dX8_told_0 : decode cX8_told 0 = .ok (.iload_n 1, 1) := by decide +kernel
theorem dX8_told_1 : decode cX8_told 1 = .ok (.tableswitch 66 0 4 #[35, 43, 51, 56, 61], 35) := by decide +kernel
theorem dX8_told_36 : decode cX8_told 36 = .ok (.aload_n 0, 1) := by decide +kernel
theorem dX8_told_37 : decode cX8_told 37 = .ok (.getfield 10, 3) := by decide +kernel
theorem dX8_told_40 : decode cX8_told 40 = .ok (.getfield 66, 3) := by decide +kernel
theorem dX8_told_43 : decode cX8_told 43 = .ok (.ireturn, 1) := by decide +kernel
theorem dX8_told_44 : decode cX8_told 44 = .ok (.aload_n 0, 1) := by decide +kernel
theorem dX8_told_45 : decode cX8_told 45 = .ok (.getfield 10, 3) := by decide +kernel
theorem dX8_told_48 : decode cX8_told 48 = .ok (.invokevirtual 92, 3) := by decide +kernel
theorem dX8_told_51 : decode cX8_told 51 = .ok (.ireturn, 1) := by decide +kernel
theorem dX8_told_52 : decode cX8_told 52 = .ok (.aload_n 0, 1) := by decide +kernel
theorem dX8_told_53 : decode cX8_told 53 = .ok (.getfield 52, 3) := by decide +kernel
theorem dX8_told_56 : decode cX8_told 56 = .ok (.ireturn, 1) := by decide +kernel
theorem dX8_told_57 : decode cX8_told 57 = .ok (.aload_n 0, 1) := by decide +kernel
theorem dX8_told_58 : decode cX8_told 58 = .ok (.getfield 56, 3) := by decide +kernel
theorem dX8_told_61 : decode cX8_told 61 = .ok (.ireturn, 1) := by decide +kernel
theorem dX8_told_62 : decode cX8_told 62 = .ok (.aload_n 0, 1) := by decide +kernel
theorem dX8_told_63 : decode cX8_told 63 = .ok (.getfield 59, 3) := by decide +kernel
theorem dX8_told_66 : decode cX8_told 66 = .ok (.ireturn, 1) := by decide +kernel
theorem dX8_told_67 : decode cX8_told 67 = .ok (.iconst (-1), 1) := by decide +kernel
theorem dX8_told_68 : decode cX8_told 68 = .ok (.ireturn, 1) := by decide +kernel
theorem dX8_trace_0 : decode cX8_trace 0 = .ok (.aload_n 0, 1) := by decide +kernel
theorem dX8_trace_1 : decode cX8_trace 1 = .ok (.getfield 48, 3) := by decide +kernel
theorem dX8_trace_4 : decode cX8_trace 4 = .ok (.getfield 173, 3) := by decide +kernel
theorem dX8_trace_7 : decode cX8_trace 7 = .ok (.lreturn, 1) := by decide +kernel
set_option maxRecDepth 20000 in
theorem ggX8_begin_X2_begin : GoodIn wsX8_begin wsX2_begin := goodIn_r _ [8, 9, 10, 11, 12, 13, 14, 15, 16, 17, 18, 19, 20, 21, 22, 23, 24, 25, 26, 27, 28, 29, 30, 31, 32, 33, 34, 35, 36, 37, 38, 39, 40, 41, 42, 43, 44, 45, 46, 55, 56, 57, 58, 59, 60, 61, 62, 63, 64, 65, 66, 67, 68, 69, 70, 71, 72, 73] (by decide +kernel) (by decide +kernel)
set_option maxRecDepth 20000 in
theorem gX8_begin_X2_begin : GoodIn wsX8_begin (wsV RX8 153 RX2 yX2_begin wsX2_begin) := goodIn_app (goodIn_of _ (by decide +kernel)) ggX8_begin_X2_begin
theorem dX8_begin_0 : decode cX8_begin 0 = .ok (.iload_n 2, 1) := by decide +kernel
theorem dX8_begin_1 : decode cX8_begin 1 = .ok (.iconst 2, 1) := by decide +kernel
theorem dX8_begin_2 : decode cX8_begin 2 = .ok (.if_icmp .ne 23, 3) := by decide +kernel
theorem dX8_begin_5 : decode cX8_begin 5 = .ok (.aload_n 0, 1) := by decide +kernel
theorem dX8_begin_6 : decode cX8_begin 6 = .ok (.getfield 21, 3) := by decide +kernel
theorem dX8_begin_9 : decode cX8_begin 9 = .ok (.iload_n 1, 1) := by decide +kernel
theorem dX8_begin_10 : decode cX8_begin 10 = .ok (.iload_n 2, 1) := by decide +kernel
theorem dX8_begin_11 : decode cX8_begin 11 = .ok (.aload_n 0, 1) := by decide +kernel
theorem dX8_begin_12 : decode cX8_begin 12 = .ok (.getfield 52, 3) := by decide +kernel
theorem dX8_begin_15 : decode cX8_begin 15 = .ok (.aload_n 0, 1) := by decide +kernel
theorem dX8_begin_16 : decode cX8_begin 16 = .ok (.getfield 56, 3) := by decide +kernel
theorem dX8_begin_19 : decode cX8_begin 19 = .ok (.invokevirtual 153, 3) := by decide +kernel
theorem dX8_begin_22 : decode cX8_begin 22 = .ok (.goto 15, 3) := by decide +kernel
theorem dX8_begin_25 : decode cX8_begin 25 = .ok (.aload_n 0, 1) := by decide +kernel
theorem dX8_begin_26 : decode cX8_begin 26 = .ok (.getfield 21, 3) := by decide +kernel
theorem dX8_begin_29 : decode cX8_begin 29 = .ok (.iload_n 1, 1) := by decide +kernel
theorem dX8_begin_30 : decode cX8_begin 30 = .ok (.iload_n 2, 1) := by decide +kernel
theorem dX8_begin_31 : decode cX8_begin 31 = .ok (.iconst 0, 1) := by decide +kernel
theorem dX8_begin_32 : decode cX8_begin 32 = .ok (.bipush 9, 2) := by decide +kernel
theorem dX8_begin_34 : decode cX8_begin 34 = .ok (.invokevirtual 153, 3) := by decide +kernel
theorem dX8_begin_37 : decode cX8_begin 37 = .ok (.return_, 1) := by decide +kernel
set_option maxRecDepth 20000 in
theorem ggX8_isLawfulSet_X3_hasSet : GoodIn wsX8_isLawfulSet wsX3_hasSet := goodIn_r _ [6, 7, 8, 9, 5, 10, 11, 33, 34] (by decide +kernel) (by decide +kernel)
set_option maxRecDepth 20000 in
theorem gX8_isLawfulSet_X3_hasSet : GoodIn wsX8_isLawfulSet (wsV RX8 99 RX3 yX3_hasSet wsX3_hasSet) := goodIn_app (goodIn_of _ (by decide +kernel)) ggX8_isLawfulSet_X3_hasSet
set_option maxRecDepth 20000 in
theorem ggX8_isLawfulSet_X3_isLawful : GoodIn wsX8_isLawfulSet wsX3_isLawful := goodIn_r _ [15, 16, 17, 18, 5, 19, 11, 20, 7, 8, 9, 10, 21, 22, 23, 24, 33, 34] (by decide +kernel) (by decide +kernel)
set_option maxRecDepth 20000 in
theorem gX8_isLawfulSet_X3_isLawful : GoodIn wsX8_isLawfulSet (wsV RX8 102 RX3 yX3_isLawful wsX3_isLawful) := goodIn_app (goodIn_of _ (by decide +kernel)) ggX8_isLawfulSet_X3_isLawful
theorem dX8_isLawfulSet_0 : decode cX8_isLawfulSet 0 = .ok (.aload_n 0, 1) := by decide +kernel
theorem dX8_isLawfulSet_1 : decode cX8_isLawfulSet 1 = .ok (.getfield 10, 3) := by decide +kernel
theorem dX8_isLawfulSet_4 : decode cX8_isLawfulSet 4 = .ok (.iload_n 2, 1) := by decide +kernel
theorem dX8_isLawfulSet_5 : decode cX8_isLawfulSet 5 = .ok (.invokevirtual 99, 3) := by decide +kernel
theorem dX8_isLawfulSet_8 : decode cX8_isLawfulSet 8 = .ok (.ifCond .eq 19, 3) := by decide +kernel
theorem dX8_isLawfulSet_11 : decode cX8_isLawfulSet 11 = .ok (.aload_n 0, 1) := by decide +kernel
theorem dX8_isLawfulSet_12 : decode cX8_isLawfulSet 12 = .ok (.getfield 10, 3) := by decide +kernel
theorem dX8_isLawfulSet_15 : decode cX8_isLawfulSet 15 = .ok (.iload_n 1, 1) := by decide +kernel
theorem dX8_isLawfulSet_16 : decode cX8_isLawfulSet 16 = .ok (.iload_n 2, 1) := by decide +kernel
theorem dX8_isLawfulSet_17 : decode cX8_isLawfulSet 17 = .ok (.invokevirtual 102, 3) := by decide +kernel
theorem dX8_isLawfulSet_20 : decode cX8_isLawfulSet 20 = .ok (.ifCond .eq 7, 3) := by decide +kernel
theorem dX8_isLawfulSet_23 : decode cX8_isLawfulSet 23 = .ok (.iconst 1, 1) := by decide +kernel
theorem dX8_isLawfulSet_24 : decode cX8_isLawfulSet 24 = .ok (.goto 4, 3) := by decide +kernel
theorem dX8_isLawfulSet_27 : decode cX8_isLawfulSet 27 = .ok (.iconst 0, 1) := by decide +kernel
theorem dX8_isLawfulSet_28 : decode cX8_isLawfulSet 28 = .ok (.ireturn, 1) := by decide +kernel
set_option maxRecDepth 20000 in
theorem ggX8_isKind_X8_isWithin : GoodIn wsX8_isKind wsX8_isWithin := goodIn_r _ [4] (by decide +kernel) (by decide +kernel)
set_option maxRecDepth 20000 in
theorem gX8_isKind_X8_isWithin : GoodIn wsX8_isKind (va_wsS RX8 62 yX8_isWithin wsX8_isWithin) := goodIn_app (goodIn_of _ (by decide +kernel)) ggX8_isKind_X8_isWithin
theorem dX8_isKind_0 : decode cX8_isKind 0 = .ok (.iload_n 0, 1) := by decide +kernel
theorem dX8_isKind_1 : decode cX8_isKind 1 = .ok (.iconst 0, 1) := by decide +kernel
theorem dX8_isKind_2 : decode cX8_isKind 2 = .ok (.iconst 2, 1) := by decide +kernel
theorem dX8_isKind_3 : decode cX8_isKind 3 = .ok (.invokestatic 62, 3) := by decide +kernel
theorem dX8_isKind_6 : decode cX8_isKind 6 = .ok (.ireturn, 1) := by decide +kernel
set_option maxRecDepth 20000 in
theorem ggX8_areMoves_X8_isWithin : GoodIn wsX8_areMoves wsX8_isWithin := goodIn_r _ [4] (by decide +kernel) (by decide +kernel)
set_option maxRecDepth 20000 in
theorem gX8_areMoves_X8_isWithin : GoodIn wsX8_areMoves (va_wsS RX8 62 yX8_isWithin wsX8_isWithin) := goodIn_app (goodIn_of _ (by decide +kernel)) ggX8_areMoves_X8_isWithin
theorem dX8_areMoves_0 : decode cX8_areMoves 0 = .ok (.iload_n 0, 1) := by decide +kernel
theorem dX8_areMoves_1 : decode cX8_areMoves 1 = .ok (.iconst 0, 1) := by decide +kernel
theorem dX8_areMoves_2 : decode cX8_areMoves 2 = .ok (.iconst 2, 1) := by decide +kernel
theorem dX8_areMoves_3 : decode cX8_areMoves 3 = .ok (.invokestatic 62, 3) := by decide +kernel
theorem dX8_areMoves_6 : decode cX8_areMoves 6 = .ok (.ireturn, 1) := by decide +kernel
theorem dX8_isWithin_0 : decode cX8_isWithin 0 = .ok (.iload_n 0, 1) := by decide +kernel
theorem dX8_isWithin_1 : decode cX8_isWithin 1 = .ok (.iload_n 1, 1) := by decide +kernel
theorem dX8_isWithin_2 : decode cX8_isWithin 2 = .ok (.if_icmp .lt 12, 3) := by decide +kernel
theorem dX8_isWithin_5 : decode cX8_isWithin 5 = .ok (.iload_n 0, 1) := by decide +kernel
theorem dX8_isWithin_6 : decode cX8_isWithin 6 = .ok (.iload_n 2, 1) := by decide +kernel
theorem dX8_isWithin_7 : decode cX8_isWithin 7 = .ok (.if_icmp .gt 7, 3) := by decide +kernel
theorem dX8_isWithin_10 : decode cX8_isWithin 10 = .ok (.iconst 1, 1) := by decide +kernel
theorem dX8_isWithin_11 : decode cX8_isWithin 11 = .ok (.goto 4, 3) := by decide +kernel
theorem dX8_isWithin_14 : decode cX8_isWithin 14 = .ok (.iconst 0, 1) := by decide +kernel
theorem dX8_isWithin_15 : decode cX8_isWithin 15 = .ok (.ireturn, 1) := by decide +kernel
theorem dX8_asNumber_0 : decode cX8_asNumber 0 = .ok (.iload_n 0, 1) := by decide +kernel
theorem dX8_asNumber_1 : decode cX8_asNumber 1 = .ok (.ifCond .eq 7, 3) := by decide +kernel
theorem dX8_asNumber_4 : decode cX8_asNumber 4 = .ok (.iconst 1, 1) := by decide +kernel
theorem dX8_asNumber_5 : decode cX8_asNumber 5 = .ok (.goto 4, 3) := by decide +kernel
theorem dX8_asNumber_8 : decode cX8_asNumber 8 = .ok (.iconst 0, 1) := by decide +kernel
theorem dX8_asNumber_9 : decode cX8_asNumber 9 = .ok (.ireturn, 1) := by decide +kernel
theorem dX9_init_0 : decode cX9_init 0 = .ok (.aload_n 0, 1) := by decide +kernel
theorem dX9_init_1 : decode cX9_init 1 = .ok (.invokespecial 1, 3) := by decide +kernel
theorem dX9_init_4 : decode cX9_init 4 = .ok (.aload_n 0, 1) := by decide +kernel
theorem dX9_init_5 : decode cX9_init 5 = .ok (.iconst 5, 1) := by decide +kernel
theorem dX9_init_6 : decode cX9_init 6 = .ok (.putfield 7, 3) := by decide +kernel
theorem dX9_init_9 : decode cX9_init 9 = .ok (.aload_n 0, 1) := by decide +kernel
theorem dX9_init_10 : decode cX9_init 10 = .ok (.bipush 9, 2) := by decide +kernel
theorem dX9_init_12 : decode cX9_init 12 = .ok (.newarray .int, 2) := by decide +kernel
theorem dX9_init_14 : decode cX9_init 14 = .ok (.putfield 13, 3) := by decide +kernel
theorem dX9_init_17 : decode cX9_init 17 = .ok (.aload_n 0, 1) := by decide +kernel
theorem dX9_init_18 : decode cX9_init 18 = .ok (.bipush 9, 2) := by decide +kernel
theorem dX9_init_20 : decode cX9_init 20 = .ok (.putfield 17, 3) := by decide +kernel
theorem dX9_init_23 : decode cX9_init 23 = .ok (.aload_n 0, 1) := by decide +kernel
theorem dX9_init_24 : decode cX9_init 24 = .ok (.iconst 3, 1) := by decide +kernel
theorem dX9_init_25 : decode cX9_init 25 = .ok (.putfield 20, 3) := by decide +kernel
theorem dX9_init_28 : decode cX9_init 28 = .ok (.aload_n 0, 1) := by decide +kernel
theorem dX9_init_29 : decode cX9_init 29 = .ok (.sipush 512, 3) := by decide +kernel
theorem dX9_init_32 : decode cX9_init 32 = .ok (.newarray .int, 2) := by decide +kernel
theorem dX9_init_34 : decode cX9_init 34 = .ok (.putfield 23, 3) := by decide +kernel
theorem dX9_init_37 : decode cX9_init 37 = .ok (.aload_n 0, 1) := by decide +kernel
theorem dX9_init_38 : decode cX9_init 38 = .ok (.sipush 512, 3) := by decide +kernel
theorem dX9_init_41 : decode cX9_init 41 = .ok (.newarray .boolean, 2) := by decide +kernel
theorem dX9_init_43 : decode cX9_init 43 = .ok (.putfield 26, 3) := by decide +kernel
theorem dX9_init_46 : decode cX9_init 46 = .ok (.aload_n 0, 1) := by decide +kernel
theorem dX9_init_47 : decode cX9_init 47 = .ok (.sipush 4096, 3) := by decide +kernel
theorem dX9_init_50 : decode cX9_init 50 = .ok (.newarray .int, 2) := by decide +kernel
theorem dX9_init_52 : decode cX9_init 52 = .ok (.putfield 30, 3) := by decide +kernel
theorem dX9_init_55 : decode cX9_init 55 = .ok (.aload_n 0, 1) := by decide +kernel
theorem dX9_init_56 : decode cX9_init 56 = .ok (.sipush 4096, 3) := by decide +kernel
theorem dX9_init_59 : decode cX9_init 59 = .ok (.newarray .int, 2) := by decide +kernel
theorem dX9_init_61 : decode cX9_init 61 = .ok (.putfield 33, 3) := by decide +kernel
theorem dX9_init_64 : decode cX9_init 64 = .ok (.aload_n 0, 1) := by decide +kernel
theorem dX9_init_65 : decode cX9_init 65 = .ok (.iconst 0, 1) := by decide +kernel
theorem dX9_init_66 : decode cX9_init 66 = .ok (.putfield 36, 3) := by decide +kernel
theorem dX9_init_69 : decode cX9_init 69 = .ok (.return_, 1) := by decide +kernel
theorem dX9_in_0 : decode cX9_in 0 = .ok (.iload_n 0, 1) := by decide +kernel
theorem dX9_in_1 : decode cX9_in 1 = .ok (.iload_n 1, 1) := by decide +kernel
theorem dX9_in_2 : decode cX9_in 2 = .ok (.if_icmp .lt 12, 3) := by decide +kernel
theorem dX9_in_5 : decode cX9_in 5 = .ok (.iload_n 0, 1) := by decide +kernel
theorem dX9_in_6 : decode cX9_in 6 = .ok (.iload_n 2, 1) := by decide +kernel
theorem dX9_in_7 : decode cX9_in 7 = .ok (.if_icmp .gt 7, 3) := by decide +kernel
theorem dX9_in_10 : decode cX9_in 10 = .ok (.iconst 1, 1) := by decide +kernel
theorem dX9_in_11 : decode cX9_in 11 = .ok (.goto 4, 3) := by decide +kernel
theorem dX9_in_14 : decode cX9_in 14 = .ok (.iconst 0, 1) := by decide +kernel
theorem dX9_in_15 : decode cX9_in 15 = .ok (.ireturn, 1) := by decide +kernel
set_option maxRecDepth 20000 in
theorem ggX9_isSet_X9_in : GoodIn wsX9_isSet wsX9_in := goodIn_r _ [5] (by decide +kernel) (by decide +kernel)
set_option maxRecDepth 20000 in
theorem gX9_isSet_X9_in : GoodIn wsX9_isSet (va_wsS RX9 39 yX9_in wsX9_in) := goodIn_app (goodIn_of _ (by decide +kernel)) ggX9_isSet_X9_in
theorem dX9_isSet_0 : decode cX9_isSet 0 = .ok (.iload_n 1, 1) := by decide +kernel
theorem dX9_isSet_1 : decode cX9_isSet 1 = .ok (.iconst 0, 1) := by decide +kernel
theorem dX9_isSet_2 : decode cX9_isSet 2 = .ok (.iconst 1, 1) := by decide +kernel
theorem dX9_isSet_3 : decode cX9_isSet 3 = .ok (.aload_n 0, 1) := by decide +kernel
theorem dX9_isSet_4 : decode cX9_isSet 4 = .ok (.getfield 7, 3) := by decide +kernel
theorem dX9_isSet_7 : decode cX9_isSet 7 = .ok (.ishl, 1) := by decide +kernel
theorem dX9_isSet_8 : decode cX9_isSet 8 = .ok (.iconst 1, 1) := by decide +kernel
theorem dX9_isSet_9 : decode cX9_isSet 9 = .ok (.isub, 1) := by decide +kernel
theorem dX9_isSet_10 : decode cX9_isSet 10 = .ok (.invokestatic 39, 3) := by decide +kernel
theorem dX9_isSet_13 : decode cX9_isSet 13 = .ok (.ireturn, 1) := by decide +kernel
set_option maxRecDepth 20000 in
theorem ggX9_isKind_X9_in : GoodIn wsX9_isKind wsX9_in := goodIn_r _ [4] (by decide +kernel) (by decide +kernel)
set_option maxRecDepth 20000 in
theorem gX9_isKind_X9_in : GoodIn wsX9_isKind (va_wsS RX9 39 yX9_in wsX9_in) := goodIn_app (goodIn_of _ (by decide +kernel)) ggX9_isKind_X9_in
theorem dX9_isKind_0 : decode cX9_isKind 0 = .ok (.iload_n 0, 1) := by decide +kernel
theorem dX9_isKind_1 : decode cX9_isKind 1 = .ok (.iconst 0, 1) := by decide +kernel
theorem dX9_isKind_2 : decode cX9_isKind 2 = .ok (.iconst 2, 1) := by decide +kernel
theorem dX9_isKind_3 : decode cX9_isKind 3 = .ok (.invokestatic 39, 3) := by decide +kernel
theorem dX9_isKind_6 : decode cX9_isKind 6 = .ok (.ireturn, 1) := by decide +kernel
theorem dX9_size_0 : decode cX9_size 0 = .ok (.iconst 0, 1) := by decide +kernel
theorem dX9_size_1 : decode cX9_size 1 = .ok (.istore_n 1, 1) := by decide +kernel
theorem dX9_size_2 : decode cX9_size 2 = .ok (.iconst 0, 1) := by decide +kernel
theorem dX9_size_3 : decode cX9_size 3 = .ok (.istore_n 2, 1) := by decide +kernel
theorem dX9_size_4 : decode cX9_size 4 = .ok (.iload_n 2, 1) := by decide +kernel
theorem dX9_size_5 : decode cX9_size 5 = .ok (.bipush 9, 2) := by decide +kernel
theorem dX9_size_7 : decode cX9_size 7 = .ok (.if_icmp .ge 17, 3) := by decide +kernel
theorem dX9_size_10 : decode cX9_size 10 = .ok (.iload_n 1, 1) := by decide +kernel
theorem dX9_size_11 : decode cX9_size 11 = .ok (.iload_n 0, 1) := by decide +kernel
theorem dX9_size_12 : decode cX9_size 12 = .ok (.iload_n 2, 1) := by decide +kernel
theorem dX9_size_13 : decode cX9_size 13 = .ok (.ishr, 1) := by decide +kernel
theorem dX9_size_14 : decode cX9_size 14 = .ok (.iconst 1, 1) := by decide +kernel
theorem dX9_size_15 : decode cX9_size 15 = .ok (.iand, 1) := by decide +kernel
theorem dX9_size_16 : decode cX9_size 16 = .ok (.iadd, 1) := by decide +kernel
theorem dX9_size_17 : decode cX9_size 17 = .ok (.istore_n 1, 1) := by decide +kernel
theorem dX9_size_18 : decode cX9_size 18 = .ok (.iinc 2 1, 3) := by decide +kernel
theorem dX9_size_21 : decode cX9_size 21 = .ok (.goto (-17), 3) := by decide +kernel
theorem dX9_size_24 : decode cX9_size 24 = .ok (.iload_n 1, 1) := by decide +kernel
theorem dX9_size_25 : decode cX9_size 25 = .ok (.ireturn, 1) := by decide +kernel
set_option maxRecDepth 20000 in
theorem ggX9_net_X9_in : GoodIn wsX9_net wsX9_in := goodIn_r _ [5] (by decide +kernel) (by decide +kernel)
set_option maxRecDepth 20000 in
theorem gX9_net_X9_in : GoodIn wsX9_net (va_wsS RX9 39 yX9_in wsX9_in) := goodIn_app (goodIn_of _ (by decide +kernel)) ggX9_net_X9_in
set_option maxRecDepth 20000 in
theorem ggX9_net_X9_part : GoodIn wsX9_net wsX9_part := goodIn_r _ [9, 10, 11, 12, 13, 14, 15, 16, 17, 18, 19, 20] (by decide +kernel) (by decide +kernel)
set_option maxRecDepth 20000 in
theorem gX9_net_X9_part : GoodIn wsX9_net (wsV RX9 43 RX9 yX9_part wsX9_part) := goodIn_app (goodIn_of _ (by decide +kernel)) ggX9_net_X9_part
theorem dX9_net_0 : decode cX9_net 0 = .ok (.iload_n 1, 1) := by decide +kernel
theorem dX9_net_1 : decode cX9_net 1 = .ok (.iconst 1, 1) := by decide +kernel
theorem dX9_net_2 : decode cX9_net 2 = .ok (.bipush 9, 2) := by decide +kernel
theorem dX9_net_4 : decode cX9_net 4 = .ok (.invokestatic 39, 3) := by decide +kernel
theorem dX9_net_7 : decode cX9_net 7 = .ok (.ifCond .ne 5, 3) := by decide +kernel
theorem dX9_net_10 : decode cX9_net 10 = .ok (.iconst (-1), 1) := by decide +kernel
theorem dX9_net_11 : decode cX9_net 11 = .ok (.ireturn, 1) := by decide +kernel
theorem dX9_net_12 : decode cX9_net 12 = .ok (.aload_n 0, 1) := by decide +kernel
theorem dX9_net_13 : decode cX9_net 13 = .ok (.getfield 7, 3) := by decide +kernel
theorem dX9_net_16 : decode cX9_net 16 = .ok (.istore_n 2, 1) := by decide +kernel
theorem dX9_net_17 : decode cX9_net 17 = .ok (.aload_n 0, 1) := by decide +kernel
theorem dX9_net_18 : decode cX9_net 18 = .ok (.iload_n 1, 1) := by decide +kernel
theorem dX9_net_19 : decode cX9_net 19 = .ok (.putfield 7, 3) := by decide +kernel
theorem dX9_net_22 : decode cX9_net 22 = .ok (.aload_n 0, 1) := by decide +kernel
theorem dX9_net_23 : decode cX9_net 23 = .ok (.invokevirtual 43, 3) := by decide +kernel
theorem dX9_net_26 : decode cX9_net 26 = .ok (.iload_n 2, 1) := by decide +kernel
theorem dX9_net_27 : decode cX9_net 27 = .ok (.ireturn, 1) := by decide +kernel
theorem dX9_part_0 : decode cX9_part 0 = .ok (.iconst 0, 1) := by decide +kernel
theorem dX9_part_1 : decode cX9_part 1 = .ok (.istore_n 1, 1) := by decide +kernel
theorem dX9_part_2 : decode cX9_part 2 = .ok (.iload_n 1, 1) := by decide +kernel
theorem dX9_part_3 : decode cX9_part 3 = .ok (.bipush 9, 2) := by decide +kernel
theorem dX9_part_5 : decode cX9_part 5 = .ok (.if_icmp .ge 16, 3) := by decide +kernel
theorem dX9_part_8 : decode cX9_part 8 = .ok (.aload_n 0, 1) := by decide +kernel
theorem dX9_part_9 : decode cX9_part 9 = .ok (.getfield 13, 3) := by decide +kernel
theorem dX9_part_12 : decode cX9_part 12 = .ok (.iload_n 1, 1) := by decide +kernel
theorem dX9_part_13 : decode cX9_part 13 = .ok (.iconst 0, 1) := by decide +kernel
theorem dX9_part_14 : decode cX9_part 14 = .ok (.iastore, 1) := by decide +kernel
theorem dX9_part_15 : decode cX9_part 15 = .ok (.iinc 1 1, 3) := by decide +kernel
theorem dX9_part_18 : decode cX9_part 18 = .ok (.goto (-16), 3) := by decide +kernel
theorem dX9_part_21 : decode cX9_part 21 = .ok (.return_, 1) := by decide +kernel
set_option maxRecDepth 20000 in
theorem ggX9_isNode_X9_in : GoodIn wsX9_isNode wsX9_in := goodIn_r _ [5] (by decide +kernel) (by decide +kernel)
set_option maxRecDepth 20000 in
theorem gX9_isNode_X9_in : GoodIn wsX9_isNode (va_wsS RX9 39 yX9_in wsX9_in) := goodIn_app (goodIn_of _ (by decide +kernel)) ggX9_isNode_X9_in
theorem dX9_isNode_0 : decode cX9_isNode 0 = .ok (.iload_n 1, 1) := by decide +kernel
theorem dX9_isNode_1 : decode cX9_isNode 1 = .ok (.iconst 0, 1) := by decide +kernel
theorem dX9_isNode_2 : decode cX9_isNode 2 = .ok (.aload_n 0, 1) := by decide +kernel
theorem dX9_isNode_3 : decode cX9_isNode 3 = .ok (.getfield 7, 3) := by decide +kernel
theorem dX9_isNode_6 : decode cX9_isNode 6 = .ok (.iconst 1, 1) := by decide +kernel
theorem dX9_isNode_7 : decode cX9_isNode 7 = .ok (.isub, 1) := by decide +kernel
theorem dX9_isNode_8 : decode cX9_isNode 8 = .ok (.invokestatic 39, 3) := by decide +kernel
theorem dX9_isNode_11 : decode cX9_isNode 11 = .ok (.ireturn, 1) := by decide +kernel
theorem dX9_put_0 : decode cX9_put 0 = .ok (.aload_n 0, 1) := by decide +kernel
theorem dX9_put_1 : decode cX9_put 1 = .ok (.getfield 13, 3) := by decide +kernel
theorem dX9_put_4 : decode cX9_put 4 = .ok (.iload_n 1, 1) := by decide +kernel
theorem dX9_put_5 : decode cX9_put 5 = .ok (.iload_n 3, 1) := by decide +kernel
theorem dX9_put_6 : decode cX9_put 6 = .ok (.iconst 1, 1) := by decide +kernel
theorem dX9_put_7 : decode cX9_put 7 = .ok (.if_icmp .ne 16, 3) := by decide +kernel
theorem dX9_put_10 : decode cX9_put 10 = .ok (.aload_n 0, 1) := by decide +kernel
theorem dX9_put_11 : decode cX9_put 11 = .ok (.getfield 13, 3) := by decide +kernel
theorem dX9_put_14 : decode cX9_put 14 = .ok (.iload_n 1, 1) := by decide +kernel
theorem dX9_put_15 : decode cX9_put 15 = .ok (.iaload, 1) := by decide +kernel
theorem dX9_put_16 : decode cX9_put 16 = .ok (.iconst 1, 1) := by decide +kernel
theorem dX9_put_17 : decode cX9_put 17 = .ok (.iload_n 2, 1) := by decide +kernel
theorem dX9_put_18 : decode cX9_put 18 = .ok (.ishl, 1) := by decide +kernel
theorem dX9_put_19 : decode cX9_put 19 = .ok (.ior, 1) := by decide +kernel
theorem dX9_put_20 : decode cX9_put 20 = .ok (.goto 15, 3) := by decide +kernel
theorem dX9_put_23 : decode cX9_put 23 = .ok (.aload_n 0, 1) := by decide +kernel
theorem dX9_put_24 : decode cX9_put 24 = .ok (.getfield 13, 3) := by decide +kernel
theorem dX9_put_27 : decode cX9_put 27 = .ok (.iload_n 1, 1) := by decide +kernel
theorem dX9_put_28 : decode cX9_put 28 = .ok (.iaload, 1) := by decide +kernel
theorem dX9_put_29 : decode cX9_put 29 = .ok (.iconst 1, 1) := by decide +kernel
theorem dX9_put_30 : decode cX9_put 30 = .ok (.iload_n 2, 1) := by decide +kernel
theorem dX9_put_31 : decode cX9_put 31 = .ok (.ishl, 1) := by decide +kernel
theorem dX9_put_32 : decode cX9_put 32 = .ok (.iconst (-1), 1) := by decide +kernel
theorem dX9_put_33 : decode cX9_put 33 = .ok (.ixor, 1) := by decide +kernel
theorem dX9_put_34 : decode cX9_put 34 = .ok (.iand, 1) := by decide +kernel
theorem dX9_put_35 : decode cX9_put 35 = .ok (.iastore, 1) := by decide +kernel
theorem dX9_put_36 : decode cX9_put 36 = .ok (.aload_n 0, 1) := by decide +kernel
theorem dX9_put_37 : decode cX9_put 37 = .ok (.getfield 13, 3) := by decide +kernel
theorem dX9_put_40 : decode cX9_put 40 = .ok (.iload_n 2, 1) := by decide +kernel
theorem dX9_put_41 : decode cX9_put 41 = .ok (.iload_n 3, 1) := by decide +kernel
theorem dX9_put_42 : decode cX9_put 42 = .ok (.iconst 1, 1) := by decide +kernel
theorem dX9_put_43 : decode cX9_put 43 = .ok (.if_icmp .ne 16, 3) := by decide +kernel
theorem dX9_put_46 : decode cX9_put 46 = .ok (.aload_n 0, 1) := by decide +kernel
theorem dX9_put_47 : decode cX9_put 47 = .ok (.getfield 13, 3) := by decide +kernel
theorem dX9_put_50 : decode cX9_put 50 = .ok (.iload_n 2, 1) := by decide +kernel
theorem dX9_put_51 : decode cX9_put 51 = .ok (.iaload, 1) := by decide +kernel
theorem dX9_put_52 : decode cX9_put 52 = .ok (.iconst 1, 1) := by decide +kernel
theorem dX9_put_53 : decode cX9_put 53 = .ok (.iload_n 1, 1) := by decide +kernel
theorem dX9_put_54 : decode cX9_put 54 = .ok (.ishl, 1) := by decide +kernel
theorem dX9_put_55 : decode cX9_put 55 = .ok (.ior, 1) := by decide +kernel
theorem dX9_put_56 : decode cX9_put 56 = .ok (.goto 15, 3) := by decide +kernel
theorem dX9_put_59 : decode cX9_put 59 = .ok (.aload_n 0, 1) := by decide +kernel
theorem dX9_put_60 : decode cX9_put 60 = .ok (.getfield 13, 3) := by decide +kernel
theorem dX9_put_63 : decode cX9_put 63 = .ok (.iload_n 2, 1) := by decide +kernel
theorem dX9_put_64 : decode cX9_put 64 = .ok (.iaload, 1) := by decide +kernel
theorem dX9_put_65 : decode cX9_put 65 = .ok (.iconst 1, 1) := by decide +kernel
theorem dX9_put_66 : decode cX9_put 66 = .ok (.iload_n 1, 1) := by decide +kernel
theorem dX9_put_67 : decode cX9_put 67 = .ok (.ishl, 1) := by decide +kernel
theorem dX9_put_68 : decode cX9_put 68 = .ok (.iconst (-1), 1) := by decide +kernel
theorem dX9_put_69 : decode cX9_put 69 = .ok (.ixor, 1) := by decide +kernel
theorem dX9_put_70 : decode cX9_put 70 = .ok (.iand, 1) := by decide +kernel
theorem dX9_put_71 : decode cX9_put 71 = .ok (.iastore, 1) := by decide +kernel
theorem dX9_put_72 : decode cX9_put 72 = .ok (.return_, 1) := by decide +kernel
set_option maxRecDepth 20000 in
theorem ggX9_join_X9_isNode : GoodIn wsX9_join wsX9_isNode := goodIn_r _ [6, 7, 8, 9, 5, 10, 15, 16, 17, 18, 19, 20, 21, 22, 23, 24] (by decide +kernel) (by decide +kernel)
set_option maxRecDepth 20000 in
theorem gX9_join_X9_isNode : GoodIn wsX9_join (wsV RX9 46 RX9 yX9_isNode wsX9_isNode) := goodIn_app (goodIn_of _ (by decide +kernel)) ggX9_join_X9_isNode
set_option maxRecDepth 20000 in
theorem ggX9_join_X9_in : GoodIn wsX9_join wsX9_in := goodIn_r _ [10] (by decide +kernel) (by decide +kernel)
set_option maxRecDepth 20000 in
theorem gX9_join_X9_in : GoodIn wsX9_join (va_wsS RX9 39 yX9_in wsX9_in) := goodIn_app (goodIn_of _ (by decide +kernel)) ggX9_join_X9_in
set_option maxRecDepth 20000 in
theorem ggX9_join_X9_put : GoodIn wsX9_join wsX9_put := goodIn_r _ [14, 1, 15, 16, 17, 18, 19, 20, 21, 22, 23, 24] (by decide +kernel) (by decide +kernel)
set_option maxRecDepth 20000 in
theorem gX9_join_X9_put : GoodIn wsX9_join (wsV RX9 50 RX9 yX9_put wsX9_put) := goodIn_app (goodIn_of _ (by decide +kernel)) ggX9_join_X9_put
theorem dX9_join_0 : decode cX9_join 0 = .ok (.aload_n 0, 1) := by decide +kernel
theorem dX9_join_1 : decode cX9_join 1 = .ok (.iload_n 1, 1) := by decide +kernel
theorem dX9_join_2 : decode cX9_join 2 = .ok (.invokevirtual 46, 3) := by decide +kernel
theorem dX9_join_5 : decode cX9_join 5 = .ok (.ifCond .eq 25, 3) := by decide +kernel
theorem dX9_join_8 : decode cX9_join 8 = .ok (.aload_n 0, 1) := by decide +kernel
theorem dX9_join_9 : decode cX9_join 9 = .ok (.iload_n 2, 1) := by decide +kernel
theorem dX9_join_10 : decode cX9_join 10 = .ok (.invokevirtual 46, 3) := by decide +kernel
theorem dX9_join_13 : decode cX9_join 13 = .ok (.ifCond .eq 17, 3) := by decide +kernel
theorem dX9_join_16 : decode cX9_join 16 = .ok (.iload_n 1, 1) := by decide +kernel
theorem dX9_join_17 : decode cX9_join 17 = .ok (.iload_n 2, 1) := by decide +kernel
theorem dX9_join_18 : decode cX9_join 18 = .ok (.if_icmp .eq 12, 3) := by decide +kernel
theorem dX9_join_21 : decode cX9_join 21 = .ok (.iload_n 3, 1) := by decide +kernel
theorem dX9_join_22 : decode cX9_join 22 = .ok (.iconst 0, 1) := by decide +kernel
theorem dX9_join_23 : decode cX9_join 23 = .ok (.iconst 1, 1) := by decide +kernel
theorem dX9_join_24 : decode cX9_join 24 = .ok (.invokestatic 39, 3) := by decide +kernel
theorem dX9_join_27 : decode cX9_join 27 = .ok (.ifCond .ne 5, 3) := by decide +kernel
theorem dX9_join_30 : decode cX9_join 30 = .ok (.iconst (-1), 1) := by decide +kernel
theorem dX9_join_31 : decode cX9_join 31 = .ok (.ireturn, 1) := by decide +kernel
theorem dX9_join_32 : decode cX9_join 32 = .ok (.aload_n 0, 1) := by decide +kernel
theorem dX9_join_33 : decode cX9_join 33 = .ok (.getfield 13, 3) := by decide +kernel
theorem dX9_join_36 : decode cX9_join 36 = .ok (.iload_n 1, 1) := by decide +kernel
theorem dX9_join_37 : decode cX9_join 37 = .ok (.iaload, 1) := by decide +kernel
theorem dX9_join_38 : decode cX9_join 38 = .ok (.iload_n 2, 1) := by decide +kernel
theorem dX9_join_39 : decode cX9_join 39 = .ok (.ishr, 1) := by decide +kernel
theorem dX9_join_40 : decode cX9_join 40 = .ok (.iconst 1, 1) := by decide +kernel
theorem dX9_join_41 : decode cX9_join 41 = .ok (.iand, 1) := by decide +kernel
theorem dX9_join_42 : decode cX9_join 42 = .ok (.istore 4, 2) := by decide +kernel
theorem dX9_join_44 : decode cX9_join 44 = .ok (.aload_n 0, 1) := by decide +kernel
theorem dX9_join_45 : decode cX9_join 45 = .ok (.iload_n 1, 1) := by decide +kernel
theorem dX9_join_46 : decode cX9_join 46 = .ok (.iload_n 2, 1) := by decide +kernel
theorem dX9_join_47 : decode cX9_join 47 = .ok (.iload_n 3, 1) := by decide +kernel
theorem dX9_join_48 : decode cX9_join 48 = .ok (.invokevirtual 50, 3) := by decide +kernel
theorem dX9_join_51 : decode cX9_join 51 = .ok (.iload 4, 2) := by decide +kernel
theorem dX9_join_53 : decode cX9_join 53 = .ok (.ireturn, 1) := by decide +kernel
set_option maxRecDepth 20000 in
theorem ggX9_pairs_X9_size : GoodIn wsX9_pairs wsX9_size := goodIn_r _ [6] (by decide +kernel) (by decide +kernel)
set_option maxRecDepth 20000 in
theorem gX9_pairs_X9_size : GoodIn wsX9_pairs (va_wsS RX9 54 yX9_size wsX9_size) := goodIn_app (goodIn_of _ (by decide +kernel)) ggX9_pairs_X9_size
theorem dX9_pairs_0 : decode cX9_pairs 0 = .ok (.iconst 0, 1) := by decide +kernel
theorem dX9_pairs_1 : decode cX9_pairs 1 = .ok (.istore_n 1, 1) := by decide +kernel
theorem dX9_pairs_2 : decode cX9_pairs 2 = .ok (.iconst 0, 1) := by decide +kernel
theorem dX9_pairs_3 : decode cX9_pairs 3 = .ok (.istore_n 2, 1) := by decide +kernel
theorem dX9_pairs_4 : decode cX9_pairs 4 = .ok (.iload_n 2, 1) := by decide +kernel
theorem dX9_pairs_5 : decode cX9_pairs 5 = .ok (.aload_n 0, 1) := by decide +kernel
theorem dX9_pairs_6 : decode cX9_pairs 6 = .ok (.getfield 7, 3) := by decide +kernel
theorem dX9_pairs_9 : decode cX9_pairs 9 = .ok (.if_icmp .ge 21, 3) := by decide +kernel
theorem dX9_pairs_12 : decode cX9_pairs 12 = .ok (.iload_n 1, 1) := by decide +kernel
theorem dX9_pairs_13 : decode cX9_pairs 13 = .ok (.aload_n 0, 1) := by decide +kernel
theorem dX9_pairs_14 : decode cX9_pairs 14 = .ok (.getfield 13, 3) := by decide +kernel
theorem dX9_pairs_17 : decode cX9_pairs 17 = .ok (.iload_n 2, 1) := by decide +kernel
theorem dX9_pairs_18 : decode cX9_pairs 18 = .ok (.iaload, 1) := by decide +kernel
theorem dX9_pairs_19 : decode cX9_pairs 19 = .ok (.invokestatic 54, 3) := by decide +kernel
theorem dX9_pairs_22 : decode cX9_pairs 22 = .ok (.iadd, 1) := by decide +kernel
theorem dX9_pairs_23 : decode cX9_pairs 23 = .ok (.istore_n 1, 1) := by decide +kernel
theorem dX9_pairs_24 : decode cX9_pairs 24 = .ok (.iinc 2 1, 3) := by decide +kernel
theorem dX9_pairs_27 : decode cX9_pairs 27 = .ok (.goto (-23), 3) := by decide +kernel
theorem dX9_pairs_30 : decode cX9_pairs 30 = .ok (.iload_n 1, 1) := by decide +kernel
theorem dX9_pairs_31 : decode cX9_pairs 31 = .ok (.iconst 2, 1) := by decide +kernel
theorem dX9_pairs_32 : decode cX9_pairs 32 = .ok (.idiv, 1) := by decide +kernel
theorem dX9_pairs_33 : decode cX9_pairs 33 = .ok (.ireturn, 1) := by decide +kernel
set_option maxRecDepth 20000 in
theorem ggX9_shape_X9_in : GoodIn wsX9_shape wsX9_in := goodIn_r _ [5] (by decide +kernel) (by decide +kernel)
set_option maxRecDepth 20000 in
theorem gX9_shape_X9_in : GoodIn wsX9_shape (va_wsS RX9 39 yX9_in wsX9_in) := goodIn_app (goodIn_of _ (by decide +kernel)) ggX9_shape_X9_in
set_option maxRecDepth 20000 in
theorem ggX9_shape_X9_part : GoodIn wsX9_shape wsX9_part := goodIn_r _ [9, 10, 22, 23, 24, 25, 26, 27, 28, 29, 30, 31] (by decide +kernel) (by decide +kernel)
set_option maxRecDepth 20000 in
theorem gX9_shape_X9_part : GoodIn wsX9_shape (wsV RX9 43 RX9 yX9_part wsX9_part) := goodIn_app (goodIn_of _ (by decide +kernel)) ggX9_shape_X9_part
set_option maxRecDepth 20000 in
theorem ggX9_shape_X9_put : GoodIn wsX9_shape wsX9_put := goodIn_r _ [14, 10, 22, 23, 24, 25, 26, 27, 28, 29, 30, 31] (by decide +kernel) (by decide +kernel)
set_option maxRecDepth 20000 in
theorem gX9_shape_X9_put : GoodIn wsX9_shape (wsV RX9 50 RX9 yX9_put wsX9_put) := goodIn_app (goodIn_of _ (by decide +kernel)) ggX9_shape_X9_put
set_option maxRecDepth 20000 in
theorem ggX9_shape_X9_pairs : GoodIn wsX9_shape wsX9_pairs := goodIn_r _ [18, 1, 10, 19, 20, 4, 21, 22, 23, 24, 25, 26, 27, 28, 29, 30, 31] (by decide +kernel) (by decide +kernel)
set_option maxRecDepth 20000 in
theorem gX9_shape_X9_pairs : GoodIn wsX9_shape (wsV RX9 58 RX9 yX9_pairs wsX9_pairs) := goodIn_app (goodIn_of _ (by decide +kernel)) ggX9_shape_X9_pairs
theorem dX9_shape_0 : decode cX9_shape 0 = .ok (.iload_n 1, 1) := by decide +kernel
theorem dX9_shape_1 : decode cX9_shape 1 = .ok (.iconst 0, 1) := by decide +kernel
theorem dX9_shape_2 : decode cX9_shape 2 = .ok (.iconst 3, 1) := by decide +kernel
theorem dX9_shape_3 : decode cX9_shape 3 = .ok (.invokestatic 39, 3) := by decide +kernel
theorem dX9_shape_6 : decode cX9_shape 6 = .ok (.ifCond .ne 5, 3) := by decide +kernel
theorem dX9_shape_9 : decode cX9_shape 9 = .ok (.iconst (-1), 1) := by decide +kernel
theorem dX9_shape_10 : decode cX9_shape 10 = .ok (.ireturn, 1) := by decide +kernel
theorem dX9_shape_11 : decode cX9_shape 11 = .ok (.aload_n 0, 1) := by decide +kernel
theorem dX9_shape_12 : decode cX9_shape 12 = .ok (.invokevirtual 43, 3) := by decide +kernel
theorem dX9_shape_15 : decode cX9_shape 15 = .ok (.iconst 0, 1) := by decide +kernel
theorem dX9_shape_16 : decode cX9_shape 16 = .ok (.istore_n 2, 1) := by decide +kernel
theorem dX9_shape_17 : decode cX9_shape 17 = .ok (.iload_n 2, 1) := by decide +kernel
theorem dX9_shape_18 : decode cX9_shape 18 = .ok (.aload_n 0, 1) := by decide +kernel
theorem dX9_shape_19 : decode cX9_shape 19 = .ok (.getfield 7, 3) := by decide +kernel
theorem dX9_shape_22 : decode cX9_shape 22 = .ok (.if_icmp .ge 92, 3) := by decide +kernel
theorem dX9_shape_25 : decode cX9_shape 25 = .ok (.iconst 0, 1) := by decide +kernel
theorem dX9_shape_26 : decode cX9_shape 26 = .ok (.istore_n 3, 1) := by decide +kernel
theorem dX9_shape_27 : decode cX9_shape 27 = .ok (.iload_n 3, 1) := by decide +kernel
theorem dX9_shape_28 : decode cX9_shape 28 = .ok (.iload_n 2, 1) := by decide +kernel
theorem dX9_shape_29 : decode cX9_shape 29 = .ok (.if_icmp .ge 79, 3) := by decide +kernel
theorem dX9_shape_32 : decode cX9_shape 32 = .ok (.iload_n 3, 1) := by decide +kernel
theorem dX9_shape_33 : decode cX9_shape 33 = .ok (.iload_n 2, 1) := by decide +kernel
theorem dX9_shape_34 : decode cX9_shape 34 = .ok (.iconst 1, 1) := by decide +kernel
theorem dX9_shape_35 : decode cX9_shape 35 = .ok (.isub, 1) := by decide +kernel
theorem dX9_shape_36 : decode cX9_shape 36 = .ok (.if_icmp .eq 30, 3) := by decide +kernel
theorem dX9_shape_39 : decode cX9_shape 39 = .ok (.iload_n 1, 1) := by decide +kernel
theorem dX9_shape_40 : decode cX9_shape 40 = .ok (.iconst 1, 1) := by decide +kernel
theorem dX9_shape_41 : decode cX9_shape 41 = .ok (.if_icmp .ne 29, 3) := by decide +kernel
theorem dX9_shape_44 : decode cX9_shape 44 = .ok (.aload_n 0, 1) := by decide +kernel
theorem dX9_shape_45 : decode cX9_shape 45 = .ok (.getfield 7, 3) := by decide +kernel
theorem dX9_shape_48 : decode cX9_shape 48 = .ok (.iconst 2, 1) := by decide +kernel
theorem dX9_shape_49 : decode cX9_shape 49 = .ok (.if_icmp .le 21, 3) := by decide +kernel
theorem dX9_shape_52 : decode cX9_shape 52 = .ok (.iload_n 2, 1) := by decide +kernel
theorem dX9_shape_53 : decode cX9_shape 53 = .ok (.aload_n 0, 1) := by decide +kernel
theorem dX9_shape_54 : decode cX9_shape 54 = .ok (.getfield 7, 3) := by decide +kernel
theorem dX9_shape_57 : decode cX9_shape 57 = .ok (.iconst 1, 1) := by decide +kernel
theorem dX9_shape_58 : decode cX9_shape 58 = .ok (.isub, 1) := by decide +kernel
theorem dX9_shape_59 : decode cX9_shape 59 = .ok (.if_icmp .ne 11, 3) := by decide +kernel
theorem dX9_shape_62 : decode cX9_shape 62 = .ok (.iload_n 3, 1) := by decide +kernel
theorem dX9_shape_63 : decode cX9_shape 63 = .ok (.ifCond .ne 7, 3) := by decide +kernel
theorem dX9_shape_66 : decode cX9_shape 66 = .ok (.iconst 1, 1) := by decide +kernel
theorem dX9_shape_67 : decode cX9_shape 67 = .ok (.goto 4, 3) := by decide +kernel
theorem dX9_shape_70 : decode cX9_shape 70 = .ok (.iconst 0, 1) := by decide +kernel
theorem dX9_shape_71 : decode cX9_shape 71 = .ok (.istore 4, 2) := by decide +kernel
theorem dX9_shape_73 : decode cX9_shape 73 = .ok (.iload_n 1, 1) := by decide +kernel
theorem dX9_shape_74 : decode cX9_shape 74 = .ok (.iconst 2, 1) := by decide +kernel
theorem dX9_shape_75 : decode cX9_shape 75 = .ok (.if_icmp .ge 11, 3) := by decide +kernel
theorem dX9_shape_78 : decode cX9_shape 78 = .ok (.iload 4, 2) := by decide +kernel
theorem dX9_shape_80 : decode cX9_shape 80 = .ok (.ifCond .eq 22, 3) := by decide +kernel
theorem dX9_shape_83 : decode cX9_shape 83 = .ok (.goto 12, 3) := by decide +kernel
theorem dX9_shape_86 : decode cX9_shape 86 = .ok (.iload_n 1, 1) := by decide +kernel
theorem dX9_shape_87 : decode cX9_shape 87 = .ok (.iconst 2, 1) := by decide +kernel
theorem dX9_shape_88 : decode cX9_shape 88 = .ok (.if_icmp .eq 7, 3) := by decide +kernel
theorem dX9_shape_91 : decode cX9_shape 91 = .ok (.iload_n 3, 1) := by decide +kernel
theorem dX9_shape_92 : decode cX9_shape 92 = .ok (.ifCond .ne 10, 3) := by decide +kernel
theorem dX9_shape_95 : decode cX9_shape 95 = .ok (.aload_n 0, 1) := by decide +kernel
theorem dX9_shape_96 : decode cX9_shape 96 = .ok (.iload_n 2, 1) := by decide +kernel
theorem dX9_shape_97 : decode cX9_shape 97 = .ok (.iload_n 3, 1) := by decide +kernel
theorem dX9_shape_98 : decode cX9_shape 98 = .ok (.iconst 1, 1) := by decide +kernel
theorem dX9_shape_99 : decode cX9_shape 99 = .ok (.invokevirtual 50, 3) := by decide +kernel
theorem dX9_shape_102 : decode cX9_shape 102 = .ok (.iinc 3 1, 3) := by decide +kernel
theorem dX9_shape_105 : decode cX9_shape 105 = .ok (.goto (-78), 3) := by decide +kernel
theorem dX9_shape_108 : decode cX9_shape 108 = .ok (.iinc 2 1, 3) := by decide +kernel
theorem dX9_shape_111 : decode cX9_shape 111 = .ok (.goto (-94), 3) := by decide +kernel
theorem dX9_shape_114 : decode cX9_shape 114 = .ok (.aload_n 0, 1) := by decide +kernel
theorem dX9_shape_115 : decode cX9_shape 115 = .ok (.invokevirtual 58, 3) := by decide +kernel
theorem dX9_shape_118 : decode cX9_shape 118 = .ok (.ireturn, 1) := by decide +kernel
set_option maxRecDepth 20000 in
theorem ggX9_set_X9_in : GoodIn wsX9_set wsX9_in := goodIn_r _ [7] (by decide +kernel) (by decide +kernel)
set_option maxRecDepth 20000 in
theorem gX9_set_X9_in : GoodIn wsX9_set (va_wsS RX9 39 yX9_in wsX9_in) := goodIn_app (goodIn_of _ (by decide +kernel)) ggX9_set_X9_in
theorem dX9_set_0 : decode cX9_set 0 = .ok (.iconst (-1), 1) := by decide +kernel
theorem dX9_set_1 : decode cX9_set 1 = .ok (.istore_n 3, 1) := by decide +kernel
theorem dX9_set_2 : decode cX9_set 2 = .ok (.iload_n 1, 1) := by decide +kernel
theorem dX9_set_3 : decode cX9_set 3 = .ok (.ifCond .ne 26, 3) := by decide +kernel
theorem dX9_set_6 : decode cX9_set 6 = .ok (.iload_n 2, 1) := by decide +kernel
theorem dX9_set_7 : decode cX9_set 7 = .ok (.iconst 0, 1) := by decide +kernel
theorem dX9_set_8 : decode cX9_set 8 = .ok (.bipush 9, 2) := by decide +kernel
theorem dX9_set_10 : decode cX9_set 10 = .ok (.invokestatic 39, 3) := by decide +kernel
theorem dX9_set_13 : decode cX9_set 13 = .ok (.ifCond .eq 16, 3) := by decide +kernel
theorem dX9_set_16 : decode cX9_set 16 = .ok (.aload_n 0, 1) := by decide +kernel
theorem dX9_set_17 : decode cX9_set 17 = .ok (.getfield 36, 3) := by decide +kernel
theorem dX9_set_20 : decode cX9_set 20 = .ok (.istore_n 3, 1) := by decide +kernel
end
section
theorem dX9_set_21 : decode cX9_set 21 = .ok (.aload_n 0, 1) := by decide +kernel
theorem dX9_set_22 : decode cX9_set 22 = .ok (.iload_n 2, 1) := by decide +kernel
theorem dX9_set_23 : decode cX9_set 23 = .ok (.putfield 36, 3) := by decide +kernel
theorem dX9_set_26 : decode cX9_set 26 = .ok (.goto 55, 3) := by decide +kernel
theorem dX9_set_29 : decode cX9_set 29 = .ok (.iload_n 1, 1) := by decide +kernel
theorem dX9_set_30 : decode cX9_set 30 = .ok (.iconst 1, 1) := by decide +kernel
theorem dX9_set_31 : decode cX9_set 31 = .ok (.if_icmp .ne 26, 3) := by decide +kernel
theorem dX9_set_34 : decode cX9_set 34 = .ok (.iload_n 2, 1) := by decide +kernel
theorem dX9_set_35 : decode cX9_set 35 = .ok (.iconst 0, 1) := by decide +kernel
theorem dX9_set_36 : decode cX9_set 36 = .ok (.bipush 9, 2) := by decide +kernel
theorem dX9_set_38 : decode cX9_set 38 = .ok (.invokestatic 39, 3) := by decide +kernel
theorem dX9_set_41 : decode cX9_set 41 = .ok (.ifCond .eq 16, 3) := by decide +kernel
theorem dX9_set_44 : decode cX9_set 44 = .ok (.aload_n 0, 1) := by decide +kernel
theorem dX9_set_45 : decode cX9_set 45 = .ok (.getfield 17, 3) := by decide +kernel
theorem dX9_set_48 : decode cX9_set 48 = .ok (.istore_n 3, 1) := by decide +kernel
theorem dX9_set_49 : decode cX9_set 49 = .ok (.aload_n 0, 1) := by decide +kernel
theorem dX9_set_50 : decode cX9_set 50 = .ok (.iload_n 2, 1) := by decide +kernel
theorem dX9_set_51 : decode cX9_set 51 = .ok (.putfield 17, 3) := by decide +kernel
theorem dX9_set_54 : decode cX9_set 54 = .ok (.goto 27, 3) := by decide +kernel
theorem dX9_set_57 : decode cX9_set 57 = .ok (.iload_n 1, 1) := by decide +kernel
theorem dX9_set_58 : decode cX9_set 58 = .ok (.iconst 2, 1) := by decide +kernel
theorem dX9_set_59 : decode cX9_set 59 = .ok (.if_icmp .ne 22, 3) := by decide +kernel
theorem dX9_set_62 : decode cX9_set 62 = .ok (.iload_n 2, 1) := by decide +kernel
theorem dX9_set_63 : decode cX9_set 63 = .ok (.iconst 1, 1) := by decide +kernel
theorem dX9_set_64 : decode cX9_set 64 = .ok (.iconst 4, 1) := by decide +kernel
theorem dX9_set_65 : decode cX9_set 65 = .ok (.invokestatic 39, 3) := by decide +kernel
theorem dX9_set_68 : decode cX9_set 68 = .ok (.ifCond .eq 13, 3) := by decide +kernel
theorem dX9_set_71 : decode cX9_set 71 = .ok (.aload_n 0, 1) := by decide +kernel
theorem dX9_set_72 : decode cX9_set 72 = .ok (.getfield 20, 3) := by decide +kernel
theorem dX9_set_75 : decode cX9_set 75 = .ok (.istore_n 3, 1) := by decide +kernel
theorem dX9_set_76 : decode cX9_set 76 = .ok (.aload_n 0, 1) := by decide +kernel
theorem dX9_set_77 : decode cX9_set 77 = .ok (.iload_n 2, 1) := by decide +kernel
theorem dX9_set_78 : decode cX9_set 78 = .ok (.putfield 20, 3) := by decide +kernel
theorem dX9_set_81 : decode cX9_set 81 = .ok (.iload_n 3, 1) := by decide +kernel
theorem dX9_set_82 : decode cX9_set 82 = .ok (.ireturn, 1) := by decide +kernel
theorem dX9_isLawful_0 : decode cX9_isLawful 0 = .ok (.iconst 1, 1) := by decide +kernel
theorem dX9_isLawful_1 : decode cX9_isLawful 1 = .ok (.istore_n 3, 1) := by decide +kernel
theorem dX9_isLawful_2 : decode cX9_isLawful 2 = .ok (.iconst 0, 1) := by decide +kernel
theorem dX9_isLawful_3 : decode cX9_isLawful 3 = .ok (.istore 4, 2) := by decide +kernel
theorem dX9_isLawful_5 : decode cX9_isLawful 5 = .ok (.iload 4, 2) := by decide +kernel
theorem dX9_isLawful_7 : decode cX9_isLawful 7 = .ok (.aload_n 0, 1) := by decide +kernel
theorem dX9_isLawful_8 : decode cX9_isLawful 8 = .ok (.getfield 7, 3) := by decide +kernel
theorem dX9_isLawful_11 : decode cX9_isLawful 11 = .ok (.if_icmp .ge 98, 3) := by decide +kernel
theorem dX9_isLawful_14 : decode cX9_isLawful 14 = .ok (.iload_n 2, 1) := by decide +kernel
theorem dX9_isLawful_15 : decode cX9_isLawful 15 = .ok (.iload 4, 2) := by decide +kernel
theorem dX9_isLawful_17 : decode cX9_isLawful 17 = .ok (.ishr, 1) := by decide +kernel
theorem dX9_isLawful_18 : decode cX9_isLawful 18 = .ok (.iconst 1, 1) := by decide +kernel
theorem dX9_isLawful_19 : decode cX9_isLawful 19 = .ok (.iand, 1) := by decide +kernel
theorem dX9_isLawful_20 : decode cX9_isLawful 20 = .ok (.iconst 1, 1) := by decide +kernel
theorem dX9_isLawful_21 : decode cX9_isLawful 21 = .ok (.if_icmp .ne 7, 3) := by decide +kernel
theorem dX9_isLawful_24 : decode cX9_isLawful 24 = .ok (.iconst 1, 1) := by decide +kernel
theorem dX9_isLawful_25 : decode cX9_isLawful 25 = .ok (.goto 4, 3) := by decide +kernel
theorem dX9_isLawful_28 : decode cX9_isLawful 28 = .ok (.iconst 0, 1) := by decide +kernel
theorem dX9_isLawful_29 : decode cX9_isLawful 29 = .ok (.istore 5, 2) := by decide +kernel
theorem dX9_isLawful_31 : decode cX9_isLawful 31 = .ok (.aload_n 0, 1) := by decide +kernel
theorem dX9_isLawful_32 : decode cX9_isLawful 32 = .ok (.getfield 13, 3) := by decide +kernel
theorem dX9_isLawful_35 : decode cX9_isLawful 35 = .ok (.iload 4, 2) := by decide +kernel
theorem dX9_isLawful_37 : decode cX9_isLawful 37 = .ok (.iaload, 1) := by decide +kernel
theorem dX9_isLawful_38 : decode cX9_isLawful 38 = .ok (.istore 6, 2) := by decide +kernel
theorem dX9_isLawful_40 : decode cX9_isLawful 40 = .ok (.iload_n 3, 1) := by decide +kernel
theorem dX9_isLawful_41 : decode cX9_isLawful 41 = .ok (.ifCond .eq 60, 3) := by decide +kernel
theorem dX9_isLawful_44 : decode cX9_isLawful 44 = .ok (.iload_n 1, 1) := by decide +kernel
theorem dX9_isLawful_45 : decode cX9_isLawful 45 = .ok (.ifCond .ne 18, 3) := by decide +kernel
theorem dX9_isLawful_48 : decode cX9_isLawful 48 = .ok (.iload 5, 2) := by decide +kernel
theorem dX9_isLawful_50 : decode cX9_isLawful 50 = .ok (.ifCond .eq 47, 3) := by decide +kernel
theorem dX9_isLawful_53 : decode cX9_isLawful 53 = .ok (.iload 6, 2) := by decide +kernel
theorem dX9_isLawful_55 : decode cX9_isLawful 55 = .ok (.iload_n 2, 1) := by decide +kernel
theorem dX9_isLawful_56 : decode cX9_isLawful 56 = .ok (.iand, 1) := by decide +kernel
theorem dX9_isLawful_57 : decode cX9_isLawful 57 = .ok (.ifCond .ne 44, 3) := by decide +kernel
theorem dX9_isLawful_60 : decode cX9_isLawful 60 = .ok (.goto 37, 3) := by decide +kernel
theorem dX9_isLawful_63 : decode cX9_isLawful 63 = .ok (.iload_n 1, 1) := by decide +kernel
theorem dX9_isLawful_64 : decode cX9_isLawful 64 = .ok (.iconst 1, 1) := by decide +kernel
theorem dX9_isLawful_65 : decode cX9_isLawful 65 = .ok (.if_icmp .ne 20, 3) := by decide +kernel
theorem dX9_isLawful_68 : decode cX9_isLawful 68 = .ok (.iload 5, 2) := by decide +kernel
theorem dX9_isLawful_70 : decode cX9_isLawful 70 = .ok (.ifCond .ne 27, 3) := by decide +kernel
theorem dX9_isLawful_73 : decode cX9_isLawful 73 = .ok (.iload 6, 2) := by decide +kernel
theorem dX9_isLawful_75 : decode cX9_isLawful 75 = .ok (.iload_n 2, 1) := by decide +kernel
theorem dX9_isLawful_76 : decode cX9_isLawful 76 = .ok (.iconst (-1), 1) := by decide +kernel
theorem dX9_isLawful_77 : decode cX9_isLawful 77 = .ok (.ixor, 1) := by decide +kernel
theorem dX9_isLawful_78 : decode cX9_isLawful 78 = .ok (.iand, 1) := by decide +kernel
theorem dX9_isLawful_79 : decode cX9_isLawful 79 = .ok (.ifCond .ne 22, 3) := by decide +kernel
theorem dX9_isLawful_82 : decode cX9_isLawful 82 = .ok (.goto 15, 3) := by decide +kernel
theorem dX9_isLawful_85 : decode cX9_isLawful 85 = .ok (.iload 5, 2) := by decide +kernel
theorem dX9_isLawful_87 : decode cX9_isLawful 87 = .ok (.ifCond .ne 10, 3) := by decide +kernel
theorem dX9_isLawful_90 : decode cX9_isLawful 90 = .ok (.iload 6, 2) := by decide +kernel
theorem dX9_isLawful_92 : decode cX9_isLawful 92 = .ok (.iload_n 2, 1) := by decide +kernel
theorem dX9_isLawful_93 : decode cX9_isLawful 93 = .ok (.iand, 1) := by decide +kernel
theorem dX9_isLawful_94 : decode cX9_isLawful 94 = .ok (.ifCond .eq 7, 3) := by decide +kernel
theorem dX9_isLawful_97 : decode cX9_isLawful 97 = .ok (.iconst 1, 1) := by decide +kernel
theorem dX9_isLawful_98 : decode cX9_isLawful 98 = .ok (.goto 4, 3) := by decide +kernel
theorem dX9_isLawful_101 : decode cX9_isLawful 101 = .ok (.iconst 0, 1) := by decide +kernel
theorem dX9_isLawful_102 : decode cX9_isLawful 102 = .ok (.istore_n 3, 1) := by decide +kernel
theorem dX9_isLawful_103 : decode cX9_isLawful 103 = .ok (.iinc 4 1, 3) := by decide +kernel
theorem dX9_isLawful_106 : decode cX9_isLawful 106 = .ok (.goto (-101), 3) := by decide +kernel
theorem dX9_isLawful_109 : decode cX9_isLawful 109 = .ok (.iload_n 3, 1) := by decide +kernel
theorem dX9_isLawful_110 : decode cX9_isLawful 110 = .ok (.ireturn, 1) := by decide +kernel
set_option maxRecDepth 20000 in
theorem ggX9_lawful_X9_isKind : GoodIn wsX9_lawful wsX9_isKind := goodIn_r _ [4, 5, 6, 3, 7] (by decide +kernel) (by decide +kernel)
set_option maxRecDepth 20000 in
theorem gX9_lawful_X9_isKind : GoodIn wsX9_lawful (va_wsS RX9 62 yX9_isKind wsX9_isKind) := goodIn_app (goodIn_of _ (by decide +kernel)) ggX9_lawful_X9_isKind
set_option maxRecDepth 20000 in
theorem ggX9_lawful_X9_isSet : GoodIn wsX9_lawful wsX9_isSet := goodIn_r _ [11, 12, 5, 6, 3, 7, 18, 19, 20, 21, 22, 23, 24, 25, 26, 27] (by decide +kernel) (by decide +kernel)
set_option maxRecDepth 20000 in
theorem gX9_lawful_X9_isSet : GoodIn wsX9_lawful (wsV RX9 65 RX9 yX9_isSet wsX9_isSet) := goodIn_app (goodIn_of _ (by decide +kernel)) ggX9_lawful_X9_isSet
set_option maxRecDepth 20000 in
theorem ggX9_lawful_X9_isLawful : GoodIn wsX9_lawful wsX9_isLawful := goodIn_r _ [16, 12, 17, 18, 19, 20, 21, 22, 23, 24, 25, 26, 27] (by decide +kernel) (by decide +kernel)
set_option maxRecDepth 20000 in
theorem gX9_lawful_X9_isLawful : GoodIn wsX9_lawful (wsV RX9 68 RX9 yX9_isLawful wsX9_isLawful) := goodIn_app (goodIn_of _ (by decide +kernel)) ggX9_lawful_X9_isLawful
theorem dX9_lawful_0 : decode cX9_lawful 0 = .ok (.iload_n 1, 1) := by decide +kernel
theorem dX9_lawful_1 : decode cX9_lawful 1 = .ok (.invokestatic 62, 3) := by decide +kernel
theorem dX9_lawful_4 : decode cX9_lawful 4 = .ok (.ifCond .eq 11, 3) := by decide +kernel
theorem dX9_lawful_7 : decode cX9_lawful 7 = .ok (.aload_n 0, 1) := by decide +kernel
theorem dX9_lawful_8 : decode cX9_lawful 8 = .ok (.iload_n 2, 1) := by decide +kernel
theorem dX9_lawful_9 : decode cX9_lawful 9 = .ok (.invokevirtual 65, 3) := by decide +kernel
theorem dX9_lawful_12 : decode cX9_lawful 12 = .ok (.ifCond .ne 7, 3) := by decide +kernel
theorem dX9_lawful_15 : decode cX9_lawful 15 = .ok (.iconst (-1), 1) := by decide +kernel
theorem dX9_lawful_16 : decode cX9_lawful 16 = .ok (.goto 17, 3) := by decide +kernel
theorem dX9_lawful_19 : decode cX9_lawful 19 = .ok (.aload_n 0, 1) := by decide +kernel
theorem dX9_lawful_20 : decode cX9_lawful 20 = .ok (.iload_n 1, 1) := by decide +kernel
theorem dX9_lawful_21 : decode cX9_lawful 21 = .ok (.iload_n 2, 1) := by decide +kernel
theorem dX9_lawful_22 : decode cX9_lawful 22 = .ok (.invokevirtual 68, 3) := by decide +kernel
theorem dX9_lawful_25 : decode cX9_lawful 25 = .ok (.ifCond .eq 7, 3) := by decide +kernel
theorem dX9_lawful_28 : decode cX9_lawful 28 = .ok (.iconst 1, 1) := by decide +kernel
theorem dX9_lawful_29 : decode cX9_lawful 29 = .ok (.goto 4, 3) := by decide +kernel
theorem dX9_lawful_32 : decode cX9_lawful 32 = .ok (.iconst 0, 1) := by decide +kernel
theorem dX9_lawful_33 : decode cX9_lawful 33 = .ok (.ireturn, 1) := by decide +kernel
set_option maxRecDepth 20000 in
theorem ggX9_count_X9_isKind : GoodIn wsX9_count wsX9_isKind := goodIn_r _ [5, 6, 7, 4, 8] (by decide +kernel) (by decide +kernel)
set_option maxRecDepth 20000 in
theorem gX9_count_X9_isKind : GoodIn wsX9_count (va_wsS RX9 62 yX9_isKind wsX9_isKind) := goodIn_app (goodIn_of _ (by decide +kernel)) ggX9_count_X9_isKind
set_option maxRecDepth 20000 in
theorem ggX9_count_X9_in : GoodIn wsX9_count wsX9_in := goodIn_r _ [8] (by decide +kernel) (by decide +kernel)
set_option maxRecDepth 20000 in
theorem gX9_count_X9_in : GoodIn wsX9_count (va_wsS RX9 39 yX9_in wsX9_in) := goodIn_app (goodIn_of _ (by decide +kernel)) ggX9_count_X9_in
set_option maxRecDepth 20000 in
theorem ggX9_count_X9_size : GoodIn wsX9_count wsX9_size := goodIn_r _ [11] (by decide +kernel) (by decide +kernel)
set_option maxRecDepth 20000 in
theorem gX9_count_X9_size : GoodIn wsX9_count (va_wsS RX9 54 yX9_size wsX9_size) := goodIn_app (goodIn_of _ (by decide +kernel)) ggX9_count_X9_size
set_option maxRecDepth 20000 in
theorem ggX9_count_X9_isLawful : GoodIn wsX9_count wsX9_isLawful := goodIn_r _ [15, 1, 16, 17, 18, 19, 20, 21, 22, 23, 24, 25, 26] (by decide +kernel) (by decide +kernel)
set_option maxRecDepth 20000 in
theorem gX9_count_X9_isLawful : GoodIn wsX9_count (wsV RX9 68 RX9 yX9_isLawful wsX9_isLawful) := goodIn_app (goodIn_of _ (by decide +kernel)) ggX9_count_X9_isLawful
theorem dX9_count_0 : decode cX9_count 0 = .ok (.iload_n 1, 1) := by decide +kernel
theorem dX9_count_1 : decode cX9_count 1 = .ok (.invokestatic 62, 3) := by decide +kernel
theorem dX9_count_4 : decode cX9_count 4 = .ok (.ifCond .eq 15, 3) := by decide +kernel
theorem dX9_count_7 : decode cX9_count 7 = .ok (.iload_n 2, 1) := by decide +kernel
theorem dX9_count_8 : decode cX9_count 8 = .ok (.iconst (-1), 1) := by decide +kernel
theorem dX9_count_9 : decode cX9_count 9 = .ok (.aload_n 0, 1) := by decide +kernel
theorem dX9_count_10 : decode cX9_count 10 = .ok (.getfield 7, 3) := by decide +kernel
theorem dX9_count_13 : decode cX9_count 13 = .ok (.invokestatic 39, 3) := by decide +kernel
theorem dX9_count_16 : decode cX9_count 16 = .ok (.ifCond .ne 5, 3) := by decide +kernel
theorem dX9_count_19 : decode cX9_count 19 = .ok (.iconst (-1), 1) := by decide +kernel
theorem dX9_count_20 : decode cX9_count 20 = .ok (.ireturn, 1) := by decide +kernel
theorem dX9_count_21 : decode cX9_count 21 = .ok (.iconst 0, 1) := by decide +kernel
theorem dX9_count_22 : decode cX9_count 22 = .ok (.istore_n 3, 1) := by decide +kernel
theorem dX9_count_23 : decode cX9_count 23 = .ok (.iconst 0, 1) := by decide +kernel
theorem dX9_count_24 : decode cX9_count 24 = .ok (.istore 4, 2) := by decide +kernel
theorem dX9_count_26 : decode cX9_count 26 = .ok (.iload 4, 2) := by decide +kernel
theorem dX9_count_28 : decode cX9_count 28 = .ok (.iconst 1, 1) := by decide +kernel
theorem dX9_count_29 : decode cX9_count 29 = .ok (.aload_n 0, 1) := by decide +kernel
theorem dX9_count_30 : decode cX9_count 30 = .ok (.getfield 7, 3) := by decide +kernel
theorem dX9_count_33 : decode cX9_count 33 = .ok (.ishl, 1) := by decide +kernel
theorem dX9_count_34 : decode cX9_count 34 = .ok (.if_icmp .ge 40, 3) := by decide +kernel
theorem dX9_count_37 : decode cX9_count 37 = .ok (.iload_n 3, 1) := by decide +kernel
theorem dX9_count_38 : decode cX9_count 38 = .ok (.iload_n 2, 1) := by decide +kernel
theorem dX9_count_39 : decode cX9_count 39 = .ok (.ifCond .lt 12, 3) := by decide +kernel
theorem dX9_count_42 : decode cX9_count 42 = .ok (.iload 4, 2) := by decide +kernel
theorem dX9_count_44 : decode cX9_count 44 = .ok (.invokestatic 54, 3) := by decide +kernel
theorem dX9_count_47 : decode cX9_count 47 = .ok (.iload_n 2, 1) := by decide +kernel
theorem dX9_count_48 : decode cX9_count 48 = .ok (.if_icmp .ne 17, 3) := by decide +kernel
theorem dX9_count_51 : decode cX9_count 51 = .ok (.aload_n 0, 1) := by decide +kernel
theorem dX9_count_52 : decode cX9_count 52 = .ok (.iload_n 1, 1) := by decide +kernel
theorem dX9_count_53 : decode cX9_count 53 = .ok (.iload 4, 2) := by decide +kernel
theorem dX9_count_55 : decode cX9_count 55 = .ok (.invokevirtual 68, 3) := by decide +kernel
theorem dX9_count_58 : decode cX9_count 58 = .ok (.ifCond .eq 7, 3) := by decide +kernel
theorem dX9_count_61 : decode cX9_count 61 = .ok (.iconst 1, 1) := by decide +kernel
theorem dX9_count_62 : decode cX9_count 62 = .ok (.goto 4, 3) := by decide +kernel
theorem dX9_count_65 : decode cX9_count 65 = .ok (.iconst 0, 1) := by decide +kernel
theorem dX9_count_66 : decode cX9_count 66 = .ok (.iadd, 1) := by decide +kernel
theorem dX9_count_67 : decode cX9_count 67 = .ok (.istore_n 3, 1) := by decide +kernel
theorem dX9_count_68 : decode cX9_count 68 = .ok (.iinc 4 1, 3) := by decide +kernel
theorem dX9_count_71 : decode cX9_count 71 = .ok (.goto (-45), 3) := by decide +kernel
theorem dX9_count_74 : decode cX9_count 74 = .ok (.iload_n 3, 1) := by decide +kernel
theorem dX9_count_75 : decode cX9_count 75 = .ok (.ireturn, 1) := by decide +kernel
set_option maxRecDepth 20000 in
theorem ggX9_weightOf_X9_size : GoodIn wsX9_weightOf wsX9_size := goodIn_r _ [5] (by decide +kernel) (by decide +kernel)
set_option maxRecDepth 20000 in
theorem gX9_weightOf_X9_size : GoodIn wsX9_weightOf (va_wsS RX9 54 yX9_size wsX9_size) := goodIn_app (goodIn_of _ (by decide +kernel)) ggX9_weightOf_X9_size
theorem dX9_weightOf_0 : decode cX9_weightOf 0 = .ok (.iload_n 2, 1) := by decide +kernel
theorem dX9_weightOf_1 : decode cX9_weightOf 1 = .ok (.iload_n 3, 1) := by decide +kernel
theorem dX9_weightOf_2 : decode cX9_weightOf 2 = .ok (.iconst (-1), 1) := by decide +kernel
theorem dX9_weightOf_3 : decode cX9_weightOf 3 = .ok (.ixor, 1) := by decide +kernel
theorem dX9_weightOf_4 : decode cX9_weightOf 4 = .ok (.iand, 1) := by decide +kernel
theorem dX9_weightOf_5 : decode cX9_weightOf 5 = .ok (.istore 4, 2) := by decide +kernel
theorem dX9_weightOf_7 : decode cX9_weightOf 7 = .ok (.iload_n 3, 1) := by decide +kernel
theorem dX9_weightOf_8 : decode cX9_weightOf 8 = .ok (.iload_n 2, 1) := by decide +kernel
theorem dX9_weightOf_9 : decode cX9_weightOf 9 = .ok (.iconst (-1), 1) := by decide +kernel
theorem dX9_weightOf_10 : decode cX9_weightOf 10 = .ok (.ixor, 1) := by decide +kernel
theorem dX9_weightOf_11 : decode cX9_weightOf 11 = .ok (.iand, 1) := by decide +kernel
theorem dX9_weightOf_12 : decode cX9_weightOf 12 = .ok (.istore 5, 2) := by decide +kernel
theorem dX9_weightOf_14 : decode cX9_weightOf 14 = .ok (.iload 4, 2) := by decide +kernel
theorem dX9_weightOf_16 : decode cX9_weightOf 16 = .ok (.invokestatic 54, 3) := by decide +kernel
theorem dX9_weightOf_19 : decode cX9_weightOf 19 = .ok (.iconst 1, 1) := by decide +kernel
theorem dX9_weightOf_20 : decode cX9_weightOf 20 = .ok (.if_icmp .ne 58, 3) := by decide +kernel
theorem dX9_weightOf_23 : decode cX9_weightOf 23 = .ok (.iload 5, 2) := by decide +kernel
theorem dX9_weightOf_25 : decode cX9_weightOf 25 = .ok (.invokestatic 54, 3) := by decide +kernel
theorem dX9_weightOf_28 : decode cX9_weightOf 28 = .ok (.iconst 1, 1) := by decide +kernel
theorem dX9_weightOf_29 : decode cX9_weightOf 29 = .ok (.if_icmp .ne 49, 3) := by decide +kernel
theorem dX9_weightOf_32 : decode cX9_weightOf 32 = .ok (.iconst 0, 1) := by decide +kernel
theorem dX9_weightOf_33 : decode cX9_weightOf 33 = .ok (.istore 6, 2) := by decide +kernel
theorem dX9_weightOf_35 : decode cX9_weightOf 35 = .ok (.iload 4, 2) := by decide +kernel
theorem dX9_weightOf_37 : decode cX9_weightOf 37 = .ok (.iload 6, 2) := by decide +kernel
theorem dX9_weightOf_39 : decode cX9_weightOf 39 = .ok (.ishr, 1) := by decide +kernel
theorem dX9_weightOf_40 : decode cX9_weightOf 40 = .ok (.iconst 1, 1) := by decide +kernel
theorem dX9_weightOf_41 : decode cX9_weightOf 41 = .ok (.iand, 1) := by decide +kernel
theorem dX9_weightOf_42 : decode cX9_weightOf 42 = .ok (.ifCond .ne 9, 3) := by decide +kernel
theorem dX9_weightOf_45 : decode cX9_weightOf 45 = .ok (.iinc 6 1, 3) := by decide +kernel
theorem dX9_weightOf_48 : decode cX9_weightOf 48 = .ok (.goto (-13), 3) := by decide +kernel
theorem dX9_weightOf_51 : decode cX9_weightOf 51 = .ok (.aload_n 0, 1) := by decide +kernel
theorem dX9_weightOf_52 : decode cX9_weightOf 52 = .ok (.getfield 13, 3) := by decide +kernel
theorem dX9_weightOf_55 : decode cX9_weightOf 55 = .ok (.iload 6, 2) := by decide +kernel
theorem dX9_weightOf_57 : decode cX9_weightOf 57 = .ok (.iaload, 1) := by decide +kernel
theorem dX9_weightOf_58 : decode cX9_weightOf 58 = .ok (.iload 5, 2) := by decide +kernel
theorem dX9_weightOf_60 : decode cX9_weightOf 60 = .ok (.iand, 1) := by decide +kernel
theorem dX9_weightOf_61 : decode cX9_weightOf 61 = .ok (.ifCond .eq 7, 3) := by decide +kernel
theorem dX9_weightOf_64 : decode cX9_weightOf 64 = .ok (.iconst 1, 1) := by decide +kernel
theorem dX9_weightOf_65 : decode cX9_weightOf 65 = .ok (.goto 12, 3) := by decide +kernel
theorem dX9_weightOf_68 : decode cX9_weightOf 68 = .ok (.iload_n 1, 1) := by decide +kernel
theorem dX9_weightOf_69 : decode cX9_weightOf 69 = .ok (.ifCond .le 7, 3) := by decide +kernel
theorem dX9_weightOf_72 : decode cX9_weightOf 72 = .ok (.iconst 2, 1) := by decide +kernel
theorem dX9_weightOf_73 : decode cX9_weightOf 73 = .ok (.goto 4, 3) := by decide +kernel
theorem dX9_weightOf_76 : decode cX9_weightOf 76 = .ok (.iconst 0, 1) := by decide +kernel
theorem dX9_weightOf_77 : decode cX9_weightOf 77 = .ok (.ireturn, 1) := by decide +kernel
theorem dX9_weightOf_78 : decode cX9_weightOf 78 = .ok (.iload_n 1, 1) := by decide +kernel
theorem dX9_weightOf_79 : decode cX9_weightOf 79 = .ok (.iconst 2, 1) := by decide +kernel
theorem dX9_weightOf_80 : decode cX9_weightOf 80 = .ok (.if_icmp .ne 22, 3) := by decide +kernel
theorem dX9_weightOf_83 : decode cX9_weightOf 83 = .ok (.iload 4, 2) := by decide +kernel
theorem dX9_weightOf_85 : decode cX9_weightOf 85 = .ok (.invokestatic 54, 3) := by decide +kernel
theorem dX9_weightOf_88 : decode cX9_weightOf 88 = .ok (.iload 5, 2) := by decide +kernel
theorem dX9_weightOf_90 : decode cX9_weightOf 90 = .ok (.invokestatic 54, 3) := by decide +kernel
theorem dX9_weightOf_93 : decode cX9_weightOf 93 = .ok (.iadd, 1) := by decide +kernel
theorem dX9_weightOf_94 : decode cX9_weightOf 94 = .ok (.iconst 1, 1) := by decide +kernel
theorem dX9_weightOf_95 : decode cX9_weightOf 95 = .ok (.if_icmp .ne 7, 3) := by decide +kernel
theorem dX9_weightOf_98 : decode cX9_weightOf 98 = .ok (.iconst 3, 1) := by decide +kernel
theorem dX9_weightOf_99 : decode cX9_weightOf 99 = .ok (.goto 4, 3) := by decide +kernel
theorem dX9_weightOf_102 : decode cX9_weightOf 102 = .ok (.iconst 0, 1) := by decide +kernel
theorem dX9_weightOf_103 : decode cX9_weightOf 103 = .ok (.ireturn, 1) := by decide +kernel
set_option maxRecDepth 20000 in
theorem ggX9_weight_X9_isKind : GoodIn wsX9_weight wsX9_isKind := goodIn_r _ [7, 8, 9, 6, 10] (by decide +kernel) (by decide +kernel)
set_option maxRecDepth 20000 in
theorem gX9_weight_X9_isKind : GoodIn wsX9_weight (va_wsS RX9 62 yX9_isKind wsX9_isKind) := goodIn_app (goodIn_of _ (by decide +kernel)) ggX9_weight_X9_isKind
set_option maxRecDepth 20000 in
theorem ggX9_weight_X9_isSet : GoodIn wsX9_weight wsX9_isSet := goodIn_r _ [14, 15, 8, 9, 6, 10, 24, 25, 26, 27, 28, 29, 30, 31, 32, 33] (by decide +kernel) (by decide +kernel)
set_option maxRecDepth 20000 in
theorem gX9_weight_X9_isSet : GoodIn wsX9_weight (wsV RX9 65 RX9 yX9_isSet wsX9_isSet) := goodIn_app (goodIn_of _ (by decide +kernel)) ggX9_weight_X9_isSet
set_option maxRecDepth 20000 in
theorem ggX9_weight_X9_weightOf : GoodIn wsX9_weight wsX9_weightOf := goodIn_r _ [19, 20, 21, 22, 6, 23, 24, 25, 26, 27, 28, 29, 30, 31, 32, 33] (by decide +kernel) (by decide +kernel)
set_option maxRecDepth 20000 in
theorem gX9_weight_X9_weightOf : GoodIn wsX9_weight (wsV RX9 80 RX9 yX9_weightOf wsX9_weightOf) := goodIn_app (goodIn_of _ (by decide +kernel)) ggX9_weight_X9_weightOf
theorem dX9_weight_0 : decode cX9_weight 0 = .ok (.iload_n 1, 1) := by decide +kernel
theorem dX9_weight_1 : decode cX9_weight 1 = .ok (.invokestatic 62, 3) := by decide +kernel
theorem dX9_weight_4 : decode cX9_weight 4 = .ok (.ifCond .eq 19, 3) := by decide +kernel
theorem dX9_weight_7 : decode cX9_weight 7 = .ok (.aload_n 0, 1) := by decide +kernel
theorem dX9_weight_8 : decode cX9_weight 8 = .ok (.iload_n 2, 1) := by decide +kernel
theorem dX9_weight_9 : decode cX9_weight 9 = .ok (.invokevirtual 65, 3) := by decide +kernel
theorem dX9_weight_12 : decode cX9_weight 12 = .ok (.ifCond .eq 11, 3) := by decide +kernel
theorem dX9_weight_15 : decode cX9_weight 15 = .ok (.aload_n 0, 1) := by decide +kernel
theorem dX9_weight_16 : decode cX9_weight 16 = .ok (.iload_n 3, 1) := by decide +kernel
theorem dX9_weight_17 : decode cX9_weight 17 = .ok (.invokevirtual 65, 3) := by decide +kernel
theorem dX9_weight_20 : decode cX9_weight 20 = .ok (.ifCond .ne 5, 3) := by decide +kernel
theorem dX9_weight_23 : decode cX9_weight 23 = .ok (.iconst (-1), 1) := by decide +kernel
theorem dX9_weight_24 : decode cX9_weight 24 = .ok (.ireturn, 1) := by decide +kernel
theorem dX9_weight_25 : decode cX9_weight 25 = .ok (.aload_n 0, 1) := by decide +kernel
theorem dX9_weight_26 : decode cX9_weight 26 = .ok (.dup, 1) := by decide +kernel
theorem dX9_weight_27 : decode cX9_weight 27 = .ok (.getfield 72, 3) := by decide +kernel
theorem dX9_weight_30 : decode cX9_weight 30 = .ok (.iload_n 1, 1) := by decide +kernel
theorem dX9_weight_31 : decode cX9_weight 31 = .ok (.ifCond .ne 7, 3) := by decide +kernel
theorem dX9_weight_34 : decode cX9_weight 34 = .ok (.lconst 1, 1) := by decide +kernel
theorem dX9_weight_35 : decode cX9_weight 35 = .ok (.goto 17, 3) := by decide +kernel
theorem dX9_weight_38 : decode cX9_weight 38 = .ok (.iload_n 1, 1) := by decide +kernel
theorem dX9_weight_39 : decode cX9_weight 39 = .ok (.iconst 1, 1) := by decide +kernel
theorem dX9_weight_40 : decode cX9_weight 40 = .ok (.if_icmp .ne 9, 3) := by decide +kernel
theorem dX9_weight_43 : decode cX9_weight 43 = .ok (.ldc2_w 76, 3) := by decide +kernel
theorem dX9_weight_46 : decode cX9_weight 46 = .ok (.goto 6, 3) := by decide +kernel
theorem dX9_weight_49 : decode cX9_weight 49 = .ok (.ldc2_w 78, 3) := by decide +kernel
theorem dX9_weight_52 : decode cX9_weight 52 = .ok (.ladd, 1) := by decide +kernel
theorem dX9_weight_53 : decode cX9_weight 53 = .ok (.putfield 72, 3) := by decide +kernel
theorem dX9_weight_56 : decode cX9_weight 56 = .ok (.aload_n 0, 1) := by decide +kernel
theorem dX9_weight_57 : decode cX9_weight 57 = .ok (.iload_n 1, 1) := by decide +kernel
theorem dX9_weight_58 : decode cX9_weight 58 = .ok (.iload_n 2, 1) := by decide +kernel
theorem dX9_weight_59 : decode cX9_weight 59 = .ok (.iload_n 3, 1) := by decide +kernel
theorem dX9_weight_60 : decode cX9_weight 60 = .ok (.invokevirtual 80, 3) := by decide +kernel
theorem dX9_weight_63 : decode cX9_weight 63 = .ok (.ireturn, 1) := by decide +kernel
set_option maxRecDepth 20000 in
theorem ggX9_canBe_X9_isLawful : GoodIn wsX9_canBe wsX9_isLawful := goodIn_r _ [7, 8, 9, 16, 17, 18, 19, 20, 21, 22, 23, 24, 25] (by decide +kernel) (by decide +kernel)
set_option maxRecDepth 20000 in
theorem gX9_canBe_X9_isLawful : GoodIn wsX9_canBe (wsV RX9 68 RX9 yX9_isLawful wsX9_isLawful) := goodIn_app (goodIn_of _ (by decide +kernel)) ggX9_canBe_X9_isLawful
set_option maxRecDepth 20000 in
theorem ggX9_canBe_X9_size : GoodIn wsX9_canBe wsX9_size := goodIn_r _ [12] (by decide +kernel) (by decide +kernel)
set_option maxRecDepth 20000 in
theorem gX9_canBe_X9_size : GoodIn wsX9_canBe (va_wsS RX9 54 yX9_size wsX9_size) := goodIn_app (goodIn_of _ (by decide +kernel)) ggX9_canBe_X9_size
set_option maxRecDepth 20000 in
theorem ggX9_canBe_X9_in : GoodIn wsX9_canBe wsX9_in := goodIn_r _ [15] (by decide +kernel) (by decide +kernel)
set_option maxRecDepth 20000 in
theorem gX9_canBe_X9_in : GoodIn wsX9_canBe (va_wsS RX9 39 yX9_in wsX9_in) := goodIn_app (goodIn_of _ (by decide +kernel)) ggX9_canBe_X9_in
theorem dX9_canBe_0 : decode cX9_canBe 0 = .ok (.aload_n 0, 1) := by decide +kernel
theorem dX9_canBe_1 : decode cX9_canBe 1 = .ok (.iload_n 1, 1) := by decide +kernel
theorem dX9_canBe_2 : decode cX9_canBe 2 = .ok (.iload_n 3, 1) := by decide +kernel
theorem dX9_canBe_3 : decode cX9_canBe 3 = .ok (.invokevirtual 68, 3) := by decide +kernel
theorem dX9_canBe_6 : decode cX9_canBe 6 = .ok (.ifCond .eq 30, 3) := by decide +kernel
theorem dX9_canBe_9 : decode cX9_canBe 9 = .ok (.iload_n 2, 1) := by decide +kernel
theorem dX9_canBe_10 : decode cX9_canBe 10 = .ok (.iconst 2, 1) := by decide +kernel
theorem dX9_canBe_11 : decode cX9_canBe 11 = .ok (.if_icmp .lt 21, 3) := by decide +kernel
theorem dX9_canBe_14 : decode cX9_canBe 14 = .ok (.iload_n 3, 1) := by decide +kernel
theorem dX9_canBe_15 : decode cX9_canBe 15 = .ok (.invokestatic 54, 3) := by decide +kernel
theorem dX9_canBe_18 : decode cX9_canBe 18 = .ok (.aload_n 0, 1) := by decide +kernel
theorem dX9_canBe_19 : decode cX9_canBe 19 = .ok (.getfield 36, 3) := by decide +kernel
theorem dX9_canBe_22 : decode cX9_canBe 22 = .ok (.aload_n 0, 1) := by decide +kernel
theorem dX9_canBe_23 : decode cX9_canBe 23 = .ok (.getfield 17, 3) := by decide +kernel
theorem dX9_canBe_26 : decode cX9_canBe 26 = .ok (.invokestatic 39, 3) := by decide +kernel
theorem dX9_canBe_29 : decode cX9_canBe 29 = .ok (.ifCond .eq 7, 3) := by decide +kernel
theorem dX9_canBe_32 : decode cX9_canBe 32 = .ok (.iconst 1, 1) := by decide +kernel
theorem dX9_canBe_33 : decode cX9_canBe 33 = .ok (.goto 4, 3) := by decide +kernel
theorem dX9_canBe_36 : decode cX9_canBe 36 = .ok (.iconst 0, 1) := by decide +kernel
theorem dX9_canBe_37 : decode cX9_canBe 37 = .ok (.ireturn, 1) := by decide +kernel
set_option maxRecDepth 20000 in
theorem ggX9_goFrom_X9_canBe : GoodIn wsX9_goFrom wsX9_canBe := goodIn_r _ [9, 10, 11, 12, 13, 14, 8, 15, 3, 16, 17, 18, 19, 20, 21, 22, 27, 28, 29, 30, 31, 32, 33, 34, 35, 36] (by decide +kernel) (by decide +kernel)
set_option maxRecDepth 20000 in
theorem gX9_goFrom_X9_canBe : GoodIn wsX9_goFrom (wsV RX9 84 RX9 yX9_canBe wsX9_canBe) := goodIn_app (goodIn_of _ (by decide +kernel)) ggX9_goFrom_X9_canBe
set_option maxRecDepth 20000 in
theorem ggX9_goFrom_X9_weightOf : GoodIn wsX9_goFrom wsX9_weightOf := goodIn_r _ [26, 16, 17, 18, 8, 19, 27, 28, 29, 30, 31, 32, 33, 34, 35, 36] (by decide +kernel) (by decide +kernel)
set_option maxRecDepth 20000 in
theorem gX9_goFrom_X9_weightOf : GoodIn wsX9_goFrom (wsV RX9 80 RX9 yX9_weightOf wsX9_weightOf) := goodIn_app (goodIn_of _ (by decide +kernel)) ggX9_goFrom_X9_weightOf
theorem dX9_goFrom_0 : decode cX9_goFrom 0 = .ok (.aload_n 0, 1) := by decide +kernel
theorem dX9_goFrom_1 : decode cX9_goFrom 1 = .ok (.getfield 23, 3) := by decide +kernel
theorem dX9_goFrom_4 : decode cX9_goFrom 4 = .ok (.iload_n 3, 1) := by decide +kernel
theorem dX9_goFrom_5 : decode cX9_goFrom 5 = .ok (.iconst 0, 1) := by decide +kernel
theorem dX9_goFrom_6 : decode cX9_goFrom 6 = .ok (.iastore, 1) := by decide +kernel
theorem dX9_goFrom_7 : decode cX9_goFrom 7 = .ok (.aload_n 0, 1) := by decide +kernel
theorem dX9_goFrom_8 : decode cX9_goFrom 8 = .ok (.iload_n 1, 1) := by decide +kernel
theorem dX9_goFrom_9 : decode cX9_goFrom 9 = .ok (.iload_n 2, 1) := by decide +kernel
theorem dX9_goFrom_10 : decode cX9_goFrom 10 = .ok (.iload_n 3, 1) := by decide +kernel
theorem dX9_goFrom_11 : decode cX9_goFrom 11 = .ok (.invokevirtual 84, 3) := by decide +kernel
theorem dX9_goFrom_14 : decode cX9_goFrom 14 = .ok (.ifCond .eq 7, 3) := by decide +kernel
theorem dX9_goFrom_17 : decode cX9_goFrom 17 = .ok (.iload_n 3, 1) := by decide +kernel
theorem dX9_goFrom_18 : decode cX9_goFrom 18 = .ok (.goto 4, 3) := by decide +kernel
theorem dX9_goFrom_21 : decode cX9_goFrom 21 = .ok (.iconst (-1), 1) := by decide +kernel
theorem dX9_goFrom_22 : decode cX9_goFrom 22 = .ok (.istore 5, 2) := by decide +kernel
theorem dX9_goFrom_24 : decode cX9_goFrom 24 = .ok (.aload_n 0, 1) := by decide +kernel
theorem dX9_goFrom_25 : decode cX9_goFrom 25 = .ok (.getfield 26, 3) := by decide +kernel
theorem dX9_goFrom_28 : decode cX9_goFrom 28 = .ok (.iload_n 3, 1) := by decide +kernel
theorem dX9_goFrom_29 : decode cX9_goFrom 29 = .ok (.iconst 1, 1) := by decide +kernel
theorem dX9_goFrom_30 : decode cX9_goFrom 30 = .ok (.bastore, 1) := by decide +kernel
theorem dX9_goFrom_31 : decode cX9_goFrom 31 = .ok (.iload 5, 2) := by decide +kernel
theorem dX9_goFrom_33 : decode cX9_goFrom 33 = .ok (.ifCond .lt 208, 3) := by decide +kernel
theorem dX9_goFrom_36 : decode cX9_goFrom 36 = .ok (.iconst 0, 1) := by decide +kernel
theorem dX9_goFrom_37 : decode cX9_goFrom 37 = .ok (.istore 6, 2) := by decide +kernel
theorem dX9_goFrom_39 : decode cX9_goFrom 39 = .ok (.iload 6, 2) := by decide +kernel
theorem dX9_goFrom_41 : decode cX9_goFrom 41 = .ok (.iconst 1, 1) := by decide +kernel
theorem dX9_goFrom_42 : decode cX9_goFrom 42 = .ok (.aload_n 0, 1) := by decide +kernel
theorem dX9_goFrom_43 : decode cX9_goFrom 43 = .ok (.getfield 7, 3) := by decide +kernel
theorem dX9_goFrom_46 : decode cX9_goFrom 46 = .ok (.ishl, 1) := by decide +kernel
theorem dX9_goFrom_47 : decode cX9_goFrom 47 = .ok (.if_icmp .ge 102, 3) := by decide +kernel
theorem dX9_goFrom_50 : decode cX9_goFrom 50 = .ok (.aload_n 0, 1) := by decide +kernel
theorem dX9_goFrom_51 : decode cX9_goFrom 51 = .ok (.getfield 26, 3) := by decide +kernel
theorem dX9_goFrom_54 : decode cX9_goFrom 54 = .ok (.iload 6, 2) := by decide +kernel
theorem dX9_goFrom_56 : decode cX9_goFrom 56 = .ok (.baload, 1) := by decide +kernel
theorem dX9_goFrom_57 : decode cX9_goFrom 57 = .ok (.ifCond .eq 7, 3) := by decide +kernel
theorem dX9_goFrom_60 : decode cX9_goFrom 60 = .ok (.iconst 0, 1) := by decide +kernel
theorem dX9_goFrom_61 : decode cX9_goFrom 61 = .ok (.goto 12, 3) := by decide +kernel
theorem dX9_goFrom_64 : decode cX9_goFrom 64 = .ok (.aload_n 0, 1) := by decide +kernel
theorem dX9_goFrom_65 : decode cX9_goFrom 65 = .ok (.iload_n 2, 1) := by decide +kernel
theorem dX9_goFrom_66 : decode cX9_goFrom 66 = .ok (.iload 5, 2) := by decide +kernel
theorem dX9_goFrom_68 : decode cX9_goFrom 68 = .ok (.iload 6, 2) := by decide +kernel
theorem dX9_goFrom_70 : decode cX9_goFrom 70 = .ok (.invokevirtual 80, 3) := by decide +kernel
theorem dX9_goFrom_73 : decode cX9_goFrom 73 = .ok (.istore 7, 2) := by decide +kernel
theorem dX9_goFrom_75 : decode cX9_goFrom 75 = .ok (.aload_n 0, 1) := by decide +kernel
theorem dX9_goFrom_76 : decode cX9_goFrom 76 = .ok (.getfield 23, 3) := by decide +kernel
theorem dX9_goFrom_79 : decode cX9_goFrom 79 = .ok (.iload 5, 2) := by decide +kernel
theorem dX9_goFrom_81 : decode cX9_goFrom 81 = .ok (.iaload, 1) := by decide +kernel
theorem dX9_goFrom_82 : decode cX9_goFrom 82 = .ok (.iload 4, 2) := by decide +kernel
theorem dX9_goFrom_84 : decode cX9_goFrom 84 = .ok (.ifCond .eq 8, 3) := by decide +kernel
theorem dX9_goFrom_87 : decode cX9_goFrom 87 = .ok (.iload 7, 2) := by decide +kernel
theorem dX9_goFrom_89 : decode cX9_goFrom 89 = .ok (.goto 4, 3) := by decide +kernel
theorem dX9_goFrom_92 : decode cX9_goFrom 92 = .ok (.iconst 1, 1) := by decide +kernel
theorem dX9_goFrom_93 : decode cX9_goFrom 93 = .ok (.iadd, 1) := by decide +kernel
theorem dX9_goFrom_94 : decode cX9_goFrom 94 = .ok (.istore 8, 2) := by decide +kernel
theorem dX9_goFrom_96 : decode cX9_goFrom 96 = .ok (.aload_n 0, 1) := by decide +kernel
theorem dX9_goFrom_97 : decode cX9_goFrom 97 = .ok (.getfield 23, 3) := by decide +kernel
theorem dX9_goFrom_100 : decode cX9_goFrom 100 = .ok (.iload 6, 2) := by decide +kernel
theorem dX9_goFrom_102 : decode cX9_goFrom 102 = .ok (.iload 7, 2) := by decide +kernel
theorem dX9_goFrom_104 : decode cX9_goFrom 104 = .ok (.ifCond .le 31, 3) := by decide +kernel
theorem dX9_goFrom_107 : decode cX9_goFrom 107 = .ok (.iload 8, 2) := by decide +kernel
theorem dX9_goFrom_109 : decode cX9_goFrom 109 = .ok (.aload_n 0, 1) := by decide +kernel
theorem dX9_goFrom_110 : decode cX9_goFrom 110 = .ok (.getfield 23, 3) := by decide +kernel
theorem dX9_goFrom_113 : decode cX9_goFrom 113 = .ok (.iload 6, 2) := by decide +kernel
theorem dX9_goFrom_115 : decode cX9_goFrom 115 = .ok (.iaload, 1) := by decide +kernel
theorem dX9_goFrom_116 : decode cX9_goFrom 116 = .ok (.if_icmp .ge 19, 3) := by decide +kernel
theorem dX9_goFrom_119 : decode cX9_goFrom 119 = .ok (.aload_n 0, 1) := by decide +kernel
theorem dX9_goFrom_120 : decode cX9_goFrom 120 = .ok (.iload_n 1, 1) := by decide +kernel
theorem dX9_goFrom_121 : decode cX9_goFrom 121 = .ok (.iload_n 2, 1) := by decide +kernel
theorem dX9_goFrom_122 : decode cX9_goFrom 122 = .ok (.iload 6, 2) := by decide +kernel
theorem dX9_goFrom_124 : decode cX9_goFrom 124 = .ok (.invokevirtual 84, 3) := by decide +kernel
theorem dX9_goFrom_127 : decode cX9_goFrom 127 = .ok (.ifCond .eq 8, 3) := by decide +kernel
theorem dX9_goFrom_130 : decode cX9_goFrom 130 = .ok (.iload 8, 2) := by decide +kernel
theorem dX9_goFrom_132 : decode cX9_goFrom 132 = .ok (.goto 10, 3) := by decide +kernel
theorem dX9_goFrom_135 : decode cX9_goFrom 135 = .ok (.aload_n 0, 1) := by decide +kernel
theorem dX9_goFrom_136 : decode cX9_goFrom 136 = .ok (.getfield 23, 3) := by decide +kernel
theorem dX9_goFrom_139 : decode cX9_goFrom 139 = .ok (.iload 6, 2) := by decide +kernel
theorem dX9_goFrom_141 : decode cX9_goFrom 141 = .ok (.iaload, 1) := by decide +kernel
theorem dX9_goFrom_142 : decode cX9_goFrom 142 = .ok (.iastore, 1) := by decide +kernel
theorem dX9_goFrom_143 : decode cX9_goFrom 143 = .ok (.iinc 6 1, 3) := by decide +kernel
theorem dX9_goFrom_146 : decode cX9_goFrom 146 = .ok (.goto (-107), 3) := by decide +kernel
theorem dX9_goFrom_149 : decode cX9_goFrom 149 = .ok (.iconst (-1), 1) := by decide +kernel
theorem dX9_goFrom_150 : decode cX9_goFrom 150 = .ok (.istore 5, 2) := by decide +kernel
theorem dX9_goFrom_152 : decode cX9_goFrom 152 = .ok (.iconst 0, 1) := by decide +kernel
theorem dX9_goFrom_153 : decode cX9_goFrom 153 = .ok (.istore 6, 2) := by decide +kernel
theorem dX9_goFrom_155 : decode cX9_goFrom 155 = .ok (.iload 6, 2) := by decide +kernel
theorem dX9_goFrom_157 : decode cX9_goFrom 157 = .ok (.iconst 1, 1) := by decide +kernel
theorem dX9_goFrom_158 : decode cX9_goFrom 158 = .ok (.aload_n 0, 1) := by decide +kernel
theorem dX9_goFrom_159 : decode cX9_goFrom 159 = .ok (.getfield 7, 3) := by decide +kernel
theorem dX9_goFrom_162 : decode cX9_goFrom 162 = .ok (.ishl, 1) := by decide +kernel
theorem dX9_goFrom_163 : decode cX9_goFrom 163 = .ok (.if_icmp .ge 62, 3) := by decide +kernel
theorem dX9_goFrom_166 : decode cX9_goFrom 166 = .ok (.aload_n 0, 1) := by decide +kernel
theorem dX9_goFrom_167 : decode cX9_goFrom 167 = .ok (.getfield 26, 3) := by decide +kernel
theorem dX9_goFrom_170 : decode cX9_goFrom 170 = .ok (.iload 6, 2) := by decide +kernel
theorem dX9_goFrom_172 : decode cX9_goFrom 172 = .ok (.baload, 1) := by decide +kernel
theorem dX9_goFrom_173 : decode cX9_goFrom 173 = .ok (.ifCond .ne 42, 3) := by decide +kernel
theorem dX9_goFrom_176 : decode cX9_goFrom 176 = .ok (.aload_n 0, 1) := by decide +kernel
theorem dX9_goFrom_177 : decode cX9_goFrom 177 = .ok (.getfield 23, 3) := by decide +kernel
theorem dX9_goFrom_180 : decode cX9_goFrom 180 = .ok (.iload 6, 2) := by decide +kernel
theorem dX9_goFrom_182 : decode cX9_goFrom 182 = .ok (.iaload, 1) := by decide +kernel
theorem dX9_goFrom_183 : decode cX9_goFrom 183 = .ok (.ldc 87, 2) := by decide +kernel
theorem dX9_goFrom_185 : decode cX9_goFrom 185 = .ok (.if_icmp .ge 30, 3) := by decide +kernel
theorem dX9_goFrom_188 : decode cX9_goFrom 188 = .ok (.iload 5, 2) := by decide +kernel
theorem dX9_goFrom_190 : decode cX9_goFrom 190 = .ok (.ifCond .lt 20, 3) := by decide +kernel
theorem dX9_goFrom_193 : decode cX9_goFrom 193 = .ok (.aload_n 0, 1) := by decide +kernel
theorem dX9_goFrom_194 : decode cX9_goFrom 194 = .ok (.getfield 23, 3) := by decide +kernel
theorem dX9_goFrom_197 : decode cX9_goFrom 197 = .ok (.iload 6, 2) := by decide +kernel
theorem dX9_goFrom_199 : decode cX9_goFrom 199 = .ok (.iaload, 1) := by decide +kernel
theorem dX9_goFrom_200 : decode cX9_goFrom 200 = .ok (.aload_n 0, 1) := by decide +kernel
theorem dX9_goFrom_201 : decode cX9_goFrom 201 = .ok (.getfield 23, 3) := by decide +kernel
theorem dX9_goFrom_204 : decode cX9_goFrom 204 = .ok (.iload 5, 2) := by decide +kernel
theorem dX9_goFrom_206 : decode cX9_goFrom 206 = .ok (.iaload, 1) := by decide +kernel
theorem dX9_goFrom_207 : decode cX9_goFrom 207 = .ok (.if_icmp .ge 8, 3) := by decide +kernel
theorem dX9_goFrom_210 : decode cX9_goFrom 210 = .ok (.iload 6, 2) := by decide +kernel
theorem dX9_goFrom_212 : decode cX9_goFrom 212 = .ok (.goto 5, 3) := by decide +kernel
theorem dX9_goFrom_215 : decode cX9_goFrom 215 = .ok (.iload 5, 2) := by decide +kernel
theorem dX9_goFrom_217 : decode cX9_goFrom 217 = .ok (.istore 5, 2) := by decide +kernel
theorem dX9_goFrom_219 : decode cX9_goFrom 219 = .ok (.iinc 6 1, 3) := by decide +kernel
theorem dX9_goFrom_222 : decode cX9_goFrom 222 = .ok (.goto (-67), 3) := by decide +kernel
theorem dX9_goFrom_225 : decode cX9_goFrom 225 = .ok (.iload 5, 2) := by decide +kernel
theorem dX9_goFrom_227 : decode cX9_goFrom 227 = .ok (.ifCond .lt (-196), 3) := by decide +kernel
theorem dX9_goFrom_230 : decode cX9_goFrom 230 = .ok (.aload_n 0, 1) := by decide +kernel
theorem dX9_goFrom_231 : decode cX9_goFrom 231 = .ok (.getfield 26, 3) := by decide +kernel
theorem dX9_goFrom_234 : decode cX9_goFrom 234 = .ok (.iload 5, 2) := by decide +kernel
theorem dX9_goFrom_236 : decode cX9_goFrom 236 = .ok (.iconst 1, 1) := by decide +kernel
theorem dX9_goFrom_237 : decode cX9_goFrom 237 = .ok (.bastore, 1) := by decide +kernel
theorem dX9_goFrom_238 : decode cX9_goFrom 238 = .ok (.goto (-207), 3) := by decide +kernel
theorem dX9_goFrom_241 : decode cX9_goFrom 241 = .ok (.return_, 1) := by decide +kernel
theorem dX9_forget_0 : decode cX9_forget 0 = .ok (.iconst 0, 1) := by decide +kernel
theorem dX9_forget_1 : decode cX9_forget 1 = .ok (.istore_n 1, 1) := by decide +kernel
theorem dX9_forget_2 : decode cX9_forget 2 = .ok (.iload_n 1, 1) := by decide +kernel
theorem dX9_forget_3 : decode cX9_forget 3 = .ok (.sipush 512, 3) := by decide +kernel
theorem dX9_forget_6 : decode cX9_forget 6 = .ok (.if_icmp .ge 24, 3) := by decide +kernel
theorem dX9_forget_9 : decode cX9_forget 9 = .ok (.aload_n 0, 1) := by decide +kernel
theorem dX9_forget_10 : decode cX9_forget 10 = .ok (.getfield 23, 3) := by decide +kernel
theorem dX9_forget_13 : decode cX9_forget 13 = .ok (.iload_n 1, 1) := by decide +kernel
theorem dX9_forget_14 : decode cX9_forget 14 = .ok (.ldc 87, 2) := by decide +kernel
theorem dX9_forget_16 : decode cX9_forget 16 = .ok (.iastore, 1) := by decide +kernel
theorem dX9_forget_17 : decode cX9_forget 17 = .ok (.aload_n 0, 1) := by decide +kernel
theorem dX9_forget_18 : decode cX9_forget 18 = .ok (.getfield 26, 3) := by decide +kernel
theorem dX9_forget_21 : decode cX9_forget 21 = .ok (.iload_n 1, 1) := by decide +kernel
theorem dX9_forget_22 : decode cX9_forget 22 = .ok (.iconst 0, 1) := by decide +kernel
theorem dX9_forget_23 : decode cX9_forget 23 = .ok (.bastore, 1) := by decide +kernel
theorem dX9_forget_24 : decode cX9_forget 24 = .ok (.iinc 1 1, 3) := by decide +kernel
theorem dX9_forget_27 : decode cX9_forget 27 = .ok (.goto (-25), 3) := by decide +kernel
theorem dX9_forget_30 : decode cX9_forget 30 = .ok (.return_, 1) := by decide +kernel
set_option maxRecDepth 20000 in
theorem ggX9_isGood_X9_isKind : GoodIn wsX9_isGood wsX9_isKind := goodIn_r _ [4, 5, 6, 3, 7] (by decide +kernel) (by decide +kernel)
set_option maxRecDepth 20000 in
theorem gX9_isGood_X9_isKind : GoodIn wsX9_isGood (va_wsS RX9 62 yX9_isKind wsX9_isKind) := goodIn_app (goodIn_of _ (by decide +kernel)) ggX9_isGood_X9_isKind
set_option maxRecDepth 20000 in
theorem ggX9_isGood_X9_isSet : GoodIn wsX9_isGood wsX9_isSet := goodIn_r _ [11, 12, 5, 6, 3, 7, 18, 19, 20, 21, 22, 23, 24, 25, 26, 27] (by decide +kernel) (by decide +kernel)
set_option maxRecDepth 20000 in
theorem gX9_isGood_X9_isSet : GoodIn wsX9_isGood (wsV RX9 65 RX9 yX9_isSet wsX9_isSet) := goodIn_app (goodIn_of _ (by decide +kernel)) ggX9_isGood_X9_isSet
set_option maxRecDepth 20000 in
theorem ggX9_isGood_X9_isLawful : GoodIn wsX9_isGood wsX9_isLawful := goodIn_r _ [16, 12, 17, 18, 19, 20, 21, 22, 23, 24, 25, 26, 27] (by decide +kernel) (by decide +kernel)
set_option maxRecDepth 20000 in
theorem gX9_isGood_X9_isLawful : GoodIn wsX9_isGood (wsV RX9 68 RX9 yX9_isLawful wsX9_isLawful) := goodIn_app (goodIn_of _ (by decide +kernel)) ggX9_isGood_X9_isLawful
theorem dX9_isGood_0 : decode cX9_isGood 0 = .ok (.iload_n 1, 1) := by decide +kernel
theorem dX9_isGood_1 : decode cX9_isGood 1 = .ok (.invokestatic 62, 3) := by decide +kernel
theorem dX9_isGood_4 : decode cX9_isGood 4 = .ok (.ifCond .eq 31, 3) := by decide +kernel
theorem dX9_isGood_7 : decode cX9_isGood 7 = .ok (.iload_n 2, 1) := by decide +kernel
theorem dX9_isGood_8 : decode cX9_isGood 8 = .ok (.invokestatic 62, 3) := by decide +kernel
theorem dX9_isGood_11 : decode cX9_isGood 11 = .ok (.ifCond .eq 24, 3) := by decide +kernel
theorem dX9_isGood_14 : decode cX9_isGood 14 = .ok (.aload_n 0, 1) := by decide +kernel
theorem dX9_isGood_15 : decode cX9_isGood 15 = .ok (.iload_n 3, 1) := by decide +kernel
theorem dX9_isGood_16 : decode cX9_isGood 16 = .ok (.invokevirtual 65, 3) := by decide +kernel
theorem dX9_isGood_19 : decode cX9_isGood 19 = .ok (.ifCond .eq 16, 3) := by decide +kernel
theorem dX9_isGood_22 : decode cX9_isGood 22 = .ok (.aload_n 0, 1) := by decide +kernel
theorem dX9_isGood_23 : decode cX9_isGood 23 = .ok (.iload_n 1, 1) := by decide +kernel
theorem dX9_isGood_24 : decode cX9_isGood 24 = .ok (.iload_n 3, 1) := by decide +kernel
theorem dX9_isGood_25 : decode cX9_isGood 25 = .ok (.invokevirtual 68, 3) := by decide +kernel
theorem dX9_isGood_28 : decode cX9_isGood 28 = .ok (.ifCond .eq 7, 3) := by decide +kernel
theorem dX9_isGood_31 : decode cX9_isGood 31 = .ok (.iconst 1, 1) := by decide +kernel
theorem dX9_isGood_32 : decode cX9_isGood 32 = .ok (.goto 4, 3) := by decide +kernel
theorem dX9_isGood_35 : decode cX9_isGood 35 = .ok (.iconst 0, 1) := by decide +kernel
theorem dX9_isGood_36 : decode cX9_isGood 36 = .ok (.ireturn, 1) := by decide +kernel
set_option maxRecDepth 20000 in
theorem ggX9_walk_X9_isGood : GoodIn wsX9_walk wsX9_isGood := goodIn_r _ [8, 9, 10, 7, 11, 12, 13, 14, 15, 16, 17, 18, 3, 19, 20, 21, 22, 23, 46, 47, 48, 49, 50, 51, 52, 53, 54, 55] (by decide +kernel) (by decide +kernel)
set_option maxRecDepth 20000 in
theorem gX9_walk_X9_isGood : GoodIn wsX9_walk (wsV RX9 88 RX9 yX9_isGood wsX9_isGood) := goodIn_app (goodIn_of _ (by decide +kernel)) ggX9_walk_X9_isGood
set_option maxRecDepth 20000 in
theorem ggX9_walk_X9_in : GoodIn wsX9_walk wsX9_in := goodIn_r _ [14] (by decide +kernel) (by decide +kernel)
set_option maxRecDepth 20000 in
theorem gX9_walk_X9_in : GoodIn wsX9_walk (va_wsS RX9 39 yX9_in wsX9_in) := goodIn_app (goodIn_of _ (by decide +kernel)) ggX9_walk_X9_in
set_option maxRecDepth 20000 in
theorem ggX9_walk_X9_forget : GoodIn wsX9_walk wsX9_forget := goodIn_r _ [27, 1, 2, 28, 46, 47, 48, 49, 50, 51, 52, 53, 54, 55] (by decide +kernel) (by decide +kernel)
set_option maxRecDepth 20000 in
theorem gX9_walk_X9_forget : GoodIn wsX9_walk (wsV RX9 91 RX9 yX9_forget wsX9_forget) := goodIn_app (goodIn_of _ (by decide +kernel)) ggX9_walk_X9_forget
set_option maxRecDepth 20000 in
theorem ggX9_walk_X9_goFrom : GoodIn wsX9_walk wsX9_goFrom := goodIn_r _ [32, 1, 28, 3, 2, 33, 34, 35, 7, 36, 37, 38, 19, 20, 21, 22, 23, 39, 40, 41, 12, 13, 14, 42, 43, 44, 45, 46, 47, 48, 49, 50, 51, 52, 53, 54, 55] (by decide +kernel) (by decide +kernel)
set_option maxRecDepth 20000 in
theorem gX9_walk_X9_goFrom : GoodIn wsX9_walk (wsV RX9 94 RX9 yX9_goFrom wsX9_goFrom) := goodIn_app (goodIn_of _ (by decide +kernel)) ggX9_walk_X9_goFrom
set_option maxRecDepth 20000 in
theorem ggX9_walk_X9_weightOf : GoodIn wsX9_walk wsX9_weightOf := goodIn_r _ [45, 23, 39, 40, 7, 41, 46, 47, 48, 49, 50, 51, 52, 53, 54, 55] (by decide +kernel) (by decide +kernel)
set_option maxRecDepth 20000 in
theorem gX9_walk_X9_weightOf : GoodIn wsX9_walk (wsV RX9 80 RX9 yX9_weightOf wsX9_weightOf) := goodIn_app (goodIn_of _ (by decide +kernel)) ggX9_walk_X9_weightOf
theorem dX9_walk_0 : decode cX9_walk 0 = .ok (.aload_n 0, 1) := by decide +kernel
theorem dX9_walk_1 : decode cX9_walk 1 = .ok (.iload_n 1, 1) := by decide +kernel
theorem dX9_walk_2 : decode cX9_walk 2 = .ok (.iload_n 2, 1) := by decide +kernel
theorem dX9_walk_3 : decode cX9_walk 3 = .ok (.iload_n 3, 1) := by decide +kernel
theorem dX9_walk_4 : decode cX9_walk 4 = .ok (.invokevirtual 88, 3) := by decide +kernel
theorem dX9_walk_7 : decode cX9_walk 7 = .ok (.ifCond .eq 24, 3) := by decide +kernel
theorem dX9_walk_10 : decode cX9_walk 10 = .ok (.aload_n 0, 1) := by decide +kernel
theorem dX9_walk_11 : decode cX9_walk 11 = .ok (.iload_n 1, 1) := by decide +kernel
theorem dX9_walk_12 : decode cX9_walk 12 = .ok (.iload_n 2, 1) := by decide +kernel
theorem dX9_walk_13 : decode cX9_walk 13 = .ok (.iload 4, 2) := by decide +kernel
theorem dX9_walk_15 : decode cX9_walk 15 = .ok (.invokevirtual 88, 3) := by decide +kernel
theorem dX9_walk_18 : decode cX9_walk 18 = .ok (.ifCond .eq 13, 3) := by decide +kernel
theorem dX9_walk_21 : decode cX9_walk 21 = .ok (.iload 5, 2) := by decide +kernel
theorem dX9_walk_23 : decode cX9_walk 23 = .ok (.iconst 0, 1) := by decide +kernel
theorem dX9_walk_24 : decode cX9_walk 24 = .ok (.iconst 2, 1) := by decide +kernel
theorem dX9_walk_25 : decode cX9_walk 25 = .ok (.invokestatic 39, 3) := by decide +kernel
theorem dX9_walk_28 : decode cX9_walk 28 = .ok (.ifCond .ne 5, 3) := by decide +kernel
theorem dX9_walk_31 : decode cX9_walk 31 = .ok (.iconst (-1), 1) := by decide +kernel
theorem dX9_walk_32 : decode cX9_walk 32 = .ok (.ireturn, 1) := by decide +kernel
theorem dX9_walk_33 : decode cX9_walk 33 = .ok (.aload_n 0, 1) := by decide +kernel
theorem dX9_walk_34 : decode cX9_walk 34 = .ok (.invokevirtual 91, 3) := by decide +kernel
theorem dX9_walk_37 : decode cX9_walk 37 = .ok (.aload_n 0, 1) := by decide +kernel
theorem dX9_walk_38 : decode cX9_walk 38 = .ok (.iload_n 1, 1) := by decide +kernel
theorem dX9_walk_39 : decode cX9_walk 39 = .ok (.iload_n 2, 1) := by decide +kernel
theorem dX9_walk_40 : decode cX9_walk 40 = .ok (.iload 4, 2) := by decide +kernel
theorem dX9_walk_42 : decode cX9_walk 42 = .ok (.iload 5, 2) := by decide +kernel
theorem dX9_walk_44 : decode cX9_walk 44 = .ok (.iconst 2, 1) := by decide +kernel
theorem dX9_walk_45 : decode cX9_walk 45 = .ok (.if_icmp .ne 7, 3) := by decide +kernel
theorem dX9_walk_48 : decode cX9_walk 48 = .ok (.iconst 1, 1) := by decide +kernel
theorem dX9_walk_49 : decode cX9_walk 49 = .ok (.goto 4, 3) := by decide +kernel
theorem dX9_walk_52 : decode cX9_walk 52 = .ok (.iconst 0, 1) := by decide +kernel
theorem dX9_walk_53 : decode cX9_walk 53 = .ok (.invokevirtual 94, 3) := by decide +kernel
theorem dX9_walk_56 : decode cX9_walk 56 = .ok (.iload 5, 2) := by decide +kernel
theorem dX9_walk_58 : decode cX9_walk 58 = .ok (.iconst 1, 1) := by decide +kernel
theorem dX9_walk_59 : decode cX9_walk 59 = .ok (.if_icmp .eq 26, 3) := by decide +kernel
theorem dX9_walk_62 : decode cX9_walk 62 = .ok (.aload_n 0, 1) := by decide +kernel
theorem dX9_walk_63 : decode cX9_walk 63 = .ok (.getfield 23, 3) := by decide +kernel
theorem dX9_walk_66 : decode cX9_walk 66 = .ok (.iload_n 3, 1) := by decide +kernel
theorem dX9_walk_67 : decode cX9_walk 67 = .ok (.iaload, 1) := by decide +kernel
theorem dX9_walk_68 : decode cX9_walk 68 = .ok (.ldc 87, 2) := by decide +kernel
theorem dX9_walk_70 : decode cX9_walk 70 = .ok (.if_icmp .ge 12, 3) := by decide +kernel
theorem dX9_walk_73 : decode cX9_walk 73 = .ok (.aload_n 0, 1) := by decide +kernel
theorem dX9_walk_74 : decode cX9_walk 74 = .ok (.getfield 23, 3) := by decide +kernel
theorem dX9_walk_77 : decode cX9_walk 77 = .ok (.iload_n 3, 1) := by decide +kernel
theorem dX9_walk_78 : decode cX9_walk 78 = .ok (.iaload, 1) := by decide +kernel
theorem dX9_walk_79 : decode cX9_walk 79 = .ok (.goto 5, 3) := by decide +kernel
theorem dX9_walk_82 : decode cX9_walk 82 = .ok (.bipush (-9), 2) := by decide +kernel
theorem dX9_walk_84 : decode cX9_walk 84 = .ok (.ireturn, 1) := by decide +kernel
theorem dX9_walk_85 : decode cX9_walk 85 = .ok (.iconst 0, 1) := by decide +kernel
theorem dX9_walk_86 : decode cX9_walk 86 = .ok (.istore 6, 2) := by decide +kernel
theorem dX9_walk_88 : decode cX9_walk 88 = .ok (.iload 6, 2) := by decide +kernel
theorem dX9_walk_90 : decode cX9_walk 90 = .ok (.iconst 1, 1) := by decide +kernel
theorem dX9_walk_91 : decode cX9_walk 91 = .ok (.aload_n 0, 1) := by decide +kernel
theorem dX9_walk_92 : decode cX9_walk 92 = .ok (.getfield 7, 3) := by decide +kernel
theorem dX9_walk_95 : decode cX9_walk 95 = .ok (.ishl, 1) := by decide +kernel
theorem dX9_walk_96 : decode cX9_walk 96 = .ok (.if_icmp .ge 58, 3) := by decide +kernel
theorem dX9_walk_99 : decode cX9_walk 99 = .ok (.aload_n 0, 1) := by decide +kernel
theorem dX9_walk_100 : decode cX9_walk 100 = .ok (.getfield 23, 3) := by decide +kernel
theorem dX9_walk_103 : decode cX9_walk 103 = .ok (.iload_n 3, 1) := by decide +kernel
theorem dX9_walk_104 : decode cX9_walk 104 = .ok (.iaload, 1) := by decide +kernel
theorem dX9_walk_105 : decode cX9_walk 105 = .ok (.ldc 87, 2) := by decide +kernel
theorem dX9_walk_107 : decode cX9_walk 107 = .ok (.if_icmp .ge 41, 3) := by decide +kernel
theorem dX9_walk_110 : decode cX9_walk 110 = .ok (.iload_n 3, 1) := by decide +kernel
theorem dX9_walk_111 : decode cX9_walk 111 = .ok (.iload 4, 2) := by decide +kernel
theorem dX9_walk_113 : decode cX9_walk 113 = .ok (.if_icmp .eq 35, 3) := by decide +kernel
theorem dX9_walk_116 : decode cX9_walk 116 = .ok (.aload_n 0, 1) := by decide +kernel
theorem dX9_walk_117 : decode cX9_walk 117 = .ok (.getfield 23, 3) := by decide +kernel
theorem dX9_walk_120 : decode cX9_walk 120 = .ok (.iload 6, 2) := by decide +kernel
theorem dX9_walk_122 : decode cX9_walk 122 = .ok (.iaload, 1) := by decide +kernel
theorem dX9_walk_123 : decode cX9_walk 123 = .ok (.aload_n 0, 1) := by decide +kernel
theorem dX9_walk_124 : decode cX9_walk 124 = .ok (.getfield 23, 3) := by decide +kernel
theorem dX9_walk_127 : decode cX9_walk 127 = .ok (.iload_n 3, 1) := by decide +kernel
theorem dX9_walk_128 : decode cX9_walk 128 = .ok (.iaload, 1) := by decide +kernel
theorem dX9_walk_129 : decode cX9_walk 129 = .ok (.iconst 1, 1) := by decide +kernel
theorem dX9_walk_130 : decode cX9_walk 130 = .ok (.isub, 1) := by decide +kernel
theorem dX9_walk_131 : decode cX9_walk 131 = .ok (.if_icmp .ne 17, 3) := by decide +kernel
theorem dX9_walk_134 : decode cX9_walk 134 = .ok (.aload_n 0, 1) := by decide +kernel
theorem dX9_walk_135 : decode cX9_walk 135 = .ok (.iload_n 2, 1) := by decide +kernel
theorem dX9_walk_136 : decode cX9_walk 136 = .ok (.iload_n 3, 1) := by decide +kernel
theorem dX9_walk_137 : decode cX9_walk 137 = .ok (.iload 6, 2) := by decide +kernel
theorem dX9_walk_139 : decode cX9_walk 139 = .ok (.invokevirtual 80, 3) := by decide +kernel
theorem dX9_walk_142 : decode cX9_walk 142 = .ok (.ifCond .le 6, 3) := by decide +kernel
theorem dX9_walk_145 : decode cX9_walk 145 = .ok (.iload 6, 2) := by decide +kernel
theorem dX9_walk_147 : decode cX9_walk 147 = .ok (.ireturn, 1) := by decide +kernel
theorem dX9_walk_148 : decode cX9_walk 148 = .ok (.iinc 6 1, 3) := by decide +kernel
theorem dX9_walk_151 : decode cX9_walk 151 = .ok (.goto (-63), 3) := by decide +kernel
theorem dX9_walk_154 : decode cX9_walk 154 = .ok (.bipush (-9), 2) := by decide +kernel
theorem dX9_walk_156 : decode cX9_walk 156 = .ok (.ireturn, 1) := by decide +kernel
set_option maxRecDepth 20000 in
theorem ggX9_reach_X9_isGood : GoodIn wsX9_reach wsX9_isGood := goodIn_r _ [8, 9, 10, 7, 11, 12, 13, 14, 15, 16, 17, 18, 1, 19, 20, 21, 22, 23, 46, 47, 48, 49, 50, 51, 52, 53, 54, 55] (by decide +kernel) (by decide +kernel)
set_option maxRecDepth 20000 in
theorem gX9_reach_X9_isGood : GoodIn wsX9_reach (wsV RX9 88 RX9 yX9_isGood wsX9_isGood) := goodIn_app (goodIn_of _ (by decide +kernel)) ggX9_reach_X9_isGood
set_option maxRecDepth 20000 in
theorem ggX9_reach_X9_in : GoodIn wsX9_reach wsX9_in := goodIn_r _ [14] (by decide +kernel) (by decide +kernel)
set_option maxRecDepth 20000 in
theorem gX9_reach_X9_in : GoodIn wsX9_reach (va_wsS RX9 39 yX9_in wsX9_in) := goodIn_app (goodIn_of _ (by decide +kernel)) ggX9_reach_X9_in
set_option maxRecDepth 20000 in
theorem ggX9_reach_X9_forget : GoodIn wsX9_reach wsX9_forget := goodIn_r _ [27, 3, 28, 2, 46, 47, 48, 49, 50, 51, 52, 53, 54, 55] (by decide +kernel) (by decide +kernel)
set_option maxRecDepth 20000 in
theorem gX9_reach_X9_forget : GoodIn wsX9_reach (wsV RX9 91 RX9 yX9_forget wsX9_forget) := goodIn_app (goodIn_of _ (by decide +kernel)) ggX9_reach_X9_forget
set_option maxRecDepth 20000 in
theorem ggX9_reach_X9_goFrom : GoodIn wsX9_reach wsX9_goFrom := goodIn_r _ [32, 3, 2, 1, 28, 33, 34, 35, 7, 36, 37, 38, 19, 20, 21, 22, 23, 39, 40, 41, 12, 13, 14, 42, 43, 44, 45, 46, 47, 48, 49, 50, 51, 52, 53, 54, 55] (by decide +kernel) (by decide +kernel)
set_option maxRecDepth 20000 in
theorem gX9_reach_X9_goFrom : GoodIn wsX9_reach (wsV RX9 94 RX9 yX9_goFrom wsX9_goFrom) := goodIn_app (goodIn_of _ (by decide +kernel)) ggX9_reach_X9_goFrom
theorem dX9_reach_0 : decode cX9_reach 0 = .ok (.aload_n 0, 1) := by decide +kernel
theorem dX9_reach_1 : decode cX9_reach 1 = .ok (.iload_n 1, 1) := by decide +kernel
theorem dX9_reach_2 : decode cX9_reach 2 = .ok (.iload_n 2, 1) := by decide +kernel
theorem dX9_reach_3 : decode cX9_reach 3 = .ok (.iload_n 3, 1) := by decide +kernel
theorem dX9_reach_4 : decode cX9_reach 4 = .ok (.invokevirtual 88, 3) := by decide +kernel
theorem dX9_reach_7 : decode cX9_reach 7 = .ok (.ifCond .eq 13, 3) := by decide +kernel
theorem dX9_reach_10 : decode cX9_reach 10 = .ok (.iload 4, 2) := by decide +kernel
theorem dX9_reach_12 : decode cX9_reach 12 = .ok (.iconst 0, 1) := by decide +kernel
theorem dX9_reach_13 : decode cX9_reach 13 = .ok (.iconst 2, 1) := by decide +kernel
theorem dX9_reach_14 : decode cX9_reach 14 = .ok (.invokestatic 39, 3) := by decide +kernel
theorem dX9_reach_17 : decode cX9_reach 17 = .ok (.ifCond .ne 5, 3) := by decide +kernel
theorem dX9_reach_20 : decode cX9_reach 20 = .ok (.iconst (-1), 1) := by decide +kernel
theorem dX9_reach_21 : decode cX9_reach 21 = .ok (.ireturn, 1) := by decide +kernel
theorem dX9_reach_22 : decode cX9_reach 22 = .ok (.aload_n 0, 1) := by decide +kernel
theorem dX9_reach_23 : decode cX9_reach 23 = .ok (.invokevirtual 91, 3) := by decide +kernel
theorem dX9_reach_26 : decode cX9_reach 26 = .ok (.aload_n 0, 1) := by decide +kernel
theorem dX9_reach_27 : decode cX9_reach 27 = .ok (.iload_n 1, 1) := by decide +kernel
theorem dX9_reach_28 : decode cX9_reach 28 = .ok (.iload_n 2, 1) := by decide +kernel
theorem dX9_reach_29 : decode cX9_reach 29 = .ok (.iload_n 3, 1) := by decide +kernel
theorem dX9_reach_30 : decode cX9_reach 30 = .ok (.iconst 0, 1) := by decide +kernel
theorem dX9_reach_31 : decode cX9_reach 31 = .ok (.invokevirtual 94, 3) := by decide +kernel
theorem dX9_reach_34 : decode cX9_reach 34 = .ok (.iconst 0, 1) := by decide +kernel
theorem dX9_reach_35 : decode cX9_reach 35 = .ok (.istore 5, 2) := by decide +kernel
theorem dX9_reach_37 : decode cX9_reach 37 = .ok (.iload_n 3, 1) := by decide +kernel
theorem dX9_reach_38 : decode cX9_reach 38 = .ok (.istore 6, 2) := by decide +kernel
theorem dX9_reach_40 : decode cX9_reach 40 = .ok (.iconst 0, 1) := by decide +kernel
theorem dX9_reach_41 : decode cX9_reach 41 = .ok (.istore 7, 2) := by decide +kernel
theorem dX9_reach_43 : decode cX9_reach 43 = .ok (.iconst 0, 1) := by decide +kernel
theorem dX9_reach_44 : decode cX9_reach 44 = .ok (.istore 8, 2) := by decide +kernel
theorem dX9_reach_46 : decode cX9_reach 46 = .ok (.iload 8, 2) := by decide +kernel
theorem dX9_reach_48 : decode cX9_reach 48 = .ok (.iconst 1, 1) := by decide +kernel
theorem dX9_reach_49 : decode cX9_reach 49 = .ok (.aload_n 0, 1) := by decide +kernel
theorem dX9_reach_50 : decode cX9_reach 50 = .ok (.getfield 7, 3) := by decide +kernel
theorem dX9_reach_53 : decode cX9_reach 53 = .ok (.ishl, 1) := by decide +kernel
theorem dX9_reach_54 : decode cX9_reach 54 = .ok (.if_icmp .ge 55, 3) := by decide +kernel
theorem dX9_reach_57 : decode cX9_reach 57 = .ok (.aload_n 0, 1) := by decide +kernel
theorem dX9_reach_58 : decode cX9_reach 58 = .ok (.getfield 26, 3) := by decide +kernel
theorem dX9_reach_61 : decode cX9_reach 61 = .ok (.iload 8, 2) := by decide +kernel
theorem dX9_reach_63 : decode cX9_reach 63 = .ok (.baload, 1) := by decide +kernel
theorem dX9_reach_64 : decode cX9_reach 64 = .ok (.ifCond .eq 39, 3) := by decide +kernel
theorem dX9_reach_67 : decode cX9_reach 67 = .ok (.iinc 5 1, 3) := by decide +kernel
theorem dX9_reach_70 : decode cX9_reach 70 = .ok (.iload 6, 2) := by decide +kernel
theorem dX9_reach_72 : decode cX9_reach 72 = .ok (.iload 8, 2) := by decide +kernel
theorem dX9_reach_74 : decode cX9_reach 74 = .ok (.iand, 1) := by decide +kernel
theorem dX9_reach_75 : decode cX9_reach 75 = .ok (.istore 6, 2) := by decide +kernel
theorem dX9_reach_77 : decode cX9_reach 77 = .ok (.aload_n 0, 1) := by decide +kernel
theorem dX9_reach_78 : decode cX9_reach 78 = .ok (.getfield 23, 3) := by decide +kernel
theorem dX9_reach_81 : decode cX9_reach 81 = .ok (.iload 8, 2) := by decide +kernel
theorem dX9_reach_83 : decode cX9_reach 83 = .ok (.iaload, 1) := by decide +kernel
theorem dX9_reach_84 : decode cX9_reach 84 = .ok (.iload 7, 2) := by decide +kernel
theorem dX9_reach_86 : decode cX9_reach 86 = .ok (.if_icmp .le 13, 3) := by decide +kernel
theorem dX9_reach_89 : decode cX9_reach 89 = .ok (.aload_n 0, 1) := by decide +kernel
theorem dX9_reach_90 : decode cX9_reach 90 = .ok (.getfield 23, 3) := by decide +kernel
theorem dX9_reach_93 : decode cX9_reach 93 = .ok (.iload 8, 2) := by decide +kernel
theorem dX9_reach_95 : decode cX9_reach 95 = .ok (.iaload, 1) := by decide +kernel
theorem dX9_reach_96 : decode cX9_reach 96 = .ok (.goto 5, 3) := by decide +kernel
theorem dX9_reach_99 : decode cX9_reach 99 = .ok (.iload 7, 2) := by decide +kernel
theorem dX9_reach_101 : decode cX9_reach 101 = .ok (.istore 7, 2) := by decide +kernel
theorem dX9_reach_103 : decode cX9_reach 103 = .ok (.iinc 8 1, 3) := by decide +kernel
theorem dX9_reach_106 : decode cX9_reach 106 = .ok (.goto (-60), 3) := by decide +kernel
theorem dX9_reach_109 : decode cX9_reach 109 = .ok (.iload 4, 2) := by decide +kernel
theorem dX9_reach_111 : decode cX9_reach 111 = .ok (.ifCond .ne 8, 3) := by decide +kernel
theorem dX9_reach_114 : decode cX9_reach 114 = .ok (.iload 5, 2) := by decide +kernel
theorem dX9_reach_116 : decode cX9_reach 116 = .ok (.goto 16, 3) := by decide +kernel
theorem dX9_reach_119 : decode cX9_reach 119 = .ok (.iload 4, 2) := by decide +kernel
theorem dX9_reach_121 : decode cX9_reach 121 = .ok (.iconst 1, 1) := by decide +kernel
theorem dX9_reach_122 : decode cX9_reach 122 = .ok (.if_icmp .ne 8, 3) := by decide +kernel
theorem dX9_reach_125 : decode cX9_reach 125 = .ok (.iload 6, 2) := by decide +kernel
theorem dX9_reach_127 : decode cX9_reach 127 = .ok (.goto 5, 3) := by decide +kernel
theorem dX9_reach_130 : decode cX9_reach 130 = .ok (.iload 7, 2) := by decide +kernel
theorem dX9_reach_132 : decode cX9_reach 132 = .ok (.ireturn, 1) := by decide +kernel
set_option maxRecDepth 20000 in
theorem ggX9_parts_X9_isKind : GoodIn wsX9_parts wsX9_isKind := goodIn_r _ [6, 7, 8, 5, 9] (by decide +kernel) (by decide +kernel)
set_option maxRecDepth 20000 in
theorem gX9_parts_X9_isKind : GoodIn wsX9_parts (va_wsS RX9 62 yX9_isKind wsX9_isKind) := goodIn_app (goodIn_of _ (by decide +kernel)) ggX9_parts_X9_isKind
set_option maxRecDepth 20000 in
theorem ggX9_parts_X9_in : GoodIn wsX9_parts wsX9_in := goodIn_r _ [9] (by decide +kernel) (by decide +kernel)
set_option maxRecDepth 20000 in
theorem gX9_parts_X9_in : GoodIn wsX9_parts (va_wsS RX9 39 yX9_in wsX9_in) := goodIn_app (goodIn_of _ (by decide +kernel)) ggX9_parts_X9_in
set_option maxRecDepth 20000 in
theorem ggX9_parts_X9_forget : GoodIn wsX9_parts wsX9_forget := goodIn_r _ [13, 14, 15, 2, 38, 39, 40, 41, 42, 43, 44, 45, 46, 47] (by decide +kernel) (by decide +kernel)
set_option maxRecDepth 20000 in
theorem gX9_parts_X9_forget : GoodIn wsX9_parts (wsV RX9 91 RX9 yX9_forget wsX9_forget) := goodIn_app (goodIn_of _ (by decide +kernel)) ggX9_parts_X9_forget
set_option maxRecDepth 20000 in
theorem ggX9_parts_X9_canBe : GoodIn wsX9_parts wsX9_canBe := goodIn_r _ [19, 20, 21, 22, 23, 24, 5, 25, 1, 26, 27, 28, 29, 7, 8, 9, 38, 39, 40, 41, 42, 43, 44, 45, 46, 47] (by decide +kernel) (by decide +kernel)
set_option maxRecDepth 20000 in
theorem gX9_parts_X9_canBe : GoodIn wsX9_parts (wsV RX9 84 RX9 yX9_canBe wsX9_canBe) := goodIn_app (goodIn_of _ (by decide +kernel)) ggX9_parts_X9_canBe
set_option maxRecDepth 20000 in
theorem ggX9_parts_X9_size : GoodIn wsX9_parts wsX9_size := goodIn_r _ [29] (by decide +kernel) (by decide +kernel)
set_option maxRecDepth 20000 in
theorem gX9_parts_X9_size : GoodIn wsX9_parts (va_wsS RX9 54 yX9_size wsX9_size) := goodIn_app (goodIn_of _ (by decide +kernel)) ggX9_parts_X9_size
set_option maxRecDepth 20000 in
theorem ggX9_parts_X9_goFrom : GoodIn wsX9_parts wsX9_goFrom := goodIn_r _ [33, 14, 2, 1, 15, 16, 17, 18, 5, 19, 20, 21, 22, 23, 24, 25, 26, 27, 28, 29, 7, 8, 9, 34, 35, 36, 37, 38, 39, 40, 41, 42, 43, 44, 45, 46, 47] (by decide +kernel) (by decide +kernel)
set_option maxRecDepth 20000 in
theorem gX9_parts_X9_goFrom : GoodIn wsX9_parts (wsV RX9 94 RX9 yX9_goFrom wsX9_goFrom) := goodIn_app (goodIn_of _ (by decide +kernel)) ggX9_parts_X9_goFrom
theorem dX9_parts_0 : decode cX9_parts 0 = .ok (.iload_n 1, 1) := by decide +kernel
theorem dX9_parts_1 : decode cX9_parts 1 = .ok (.invokestatic 62, 3) := by decide +kernel
theorem dX9_parts_4 : decode cX9_parts 4 = .ok (.ifCond .eq 27, 3) := by decide +kernel
theorem dX9_parts_7 : decode cX9_parts 7 = .ok (.iload_n 2, 1) := by decide +kernel
theorem dX9_parts_8 : decode cX9_parts 8 = .ok (.invokestatic 62, 3) := by decide +kernel
theorem dX9_parts_11 : decode cX9_parts 11 = .ok (.ifCond .eq 20, 3) := by decide +kernel
theorem dX9_parts_14 : decode cX9_parts 14 = .ok (.iload_n 2, 1) := by decide +kernel
theorem dX9_parts_15 : decode cX9_parts 15 = .ok (.iconst 2, 1) := by decide +kernel
theorem dX9_parts_16 : decode cX9_parts 16 = .ok (.if_icmp .ge 17, 3) := by decide +kernel
theorem dX9_parts_19 : decode cX9_parts 19 = .ok (.iload_n 3, 1) := by decide +kernel
theorem dX9_parts_20 : decode cX9_parts 20 = .ok (.iconst 0, 1) := by decide +kernel
theorem dX9_parts_21 : decode cX9_parts 21 = .ok (.aload_n 0, 1) := by decide +kernel
theorem dX9_parts_22 : decode cX9_parts 22 = .ok (.getfield 7, 3) := by decide +kernel
theorem dX9_parts_25 : decode cX9_parts 25 = .ok (.invokestatic 39, 3) := by decide +kernel
theorem dX9_parts_28 : decode cX9_parts 28 = .ok (.ifCond .ne 5, 3) := by decide +kernel
theorem dX9_parts_31 : decode cX9_parts 31 = .ok (.iconst (-1), 1) := by decide +kernel
theorem dX9_parts_32 : decode cX9_parts 32 = .ok (.ireturn, 1) := by decide +kernel
theorem dX9_parts_33 : decode cX9_parts 33 = .ok (.aload_n 0, 1) := by decide +kernel
theorem dX9_parts_34 : decode cX9_parts 34 = .ok (.invokevirtual 91, 3) := by decide +kernel
theorem dX9_parts_37 : decode cX9_parts 37 = .ok (.iconst 0, 1) := by decide +kernel
theorem dX9_parts_38 : decode cX9_parts 38 = .ok (.istore 4, 2) := by decide +kernel
theorem dX9_parts_40 : decode cX9_parts 40 = .ok (.iconst 0, 1) := by decide +kernel
theorem dX9_parts_41 : decode cX9_parts 41 = .ok (.istore 5, 2) := by decide +kernel
theorem dX9_parts_43 : decode cX9_parts 43 = .ok (.iload 5, 2) := by decide +kernel
theorem dX9_parts_45 : decode cX9_parts 45 = .ok (.iconst 1, 1) := by decide +kernel
theorem dX9_parts_46 : decode cX9_parts 46 = .ok (.aload_n 0, 1) := by decide +kernel
theorem dX9_parts_47 : decode cX9_parts 47 = .ok (.getfield 7, 3) := by decide +kernel
theorem dX9_parts_50 : decode cX9_parts 50 = .ok (.ishl, 1) := by decide +kernel
theorem dX9_parts_51 : decode cX9_parts 51 = .ok (.if_icmp .ge 56, 3) := by decide +kernel
theorem dX9_parts_54 : decode cX9_parts 54 = .ok (.aload_n 0, 1) := by decide +kernel
theorem dX9_parts_55 : decode cX9_parts 55 = .ok (.getfield 26, 3) := by decide +kernel
theorem dX9_parts_58 : decode cX9_parts 58 = .ok (.iload 5, 2) := by decide +kernel
theorem dX9_parts_60 : decode cX9_parts 60 = .ok (.baload, 1) := by decide +kernel
theorem dX9_parts_61 : decode cX9_parts 61 = .ok (.ifCond .ne 40, 3) := by decide +kernel
theorem dX9_parts_64 : decode cX9_parts 64 = .ok (.aload_n 0, 1) := by decide +kernel
theorem dX9_parts_65 : decode cX9_parts 65 = .ok (.iload_n 1, 1) := by decide +kernel
theorem dX9_parts_66 : decode cX9_parts 66 = .ok (.iload_n 2, 1) := by decide +kernel
theorem dX9_parts_67 : decode cX9_parts 67 = .ok (.iload 5, 2) := by decide +kernel
theorem dX9_parts_69 : decode cX9_parts 69 = .ok (.invokevirtual 84, 3) := by decide +kernel
theorem dX9_parts_72 : decode cX9_parts 72 = .ok (.ifCond .eq 29, 3) := by decide +kernel
theorem dX9_parts_75 : decode cX9_parts 75 = .ok (.iload_n 2, 1) := by decide +kernel
theorem dX9_parts_76 : decode cX9_parts 76 = .ok (.iconst 2, 1) := by decide +kernel
theorem dX9_parts_77 : decode cX9_parts 77 = .ok (.if_icmp .eq 12, 3) := by decide +kernel
theorem dX9_parts_80 : decode cX9_parts 80 = .ok (.iload 5, 2) := by decide +kernel
theorem dX9_parts_82 : decode cX9_parts 82 = .ok (.invokestatic 54, 3) := by decide +kernel
theorem dX9_parts_85 : decode cX9_parts 85 = .ok (.iload_n 3, 1) := by decide +kernel
theorem dX9_parts_86 : decode cX9_parts 86 = .ok (.if_icmp .ne 15, 3) := by decide +kernel
theorem dX9_parts_89 : decode cX9_parts 89 = .ok (.aload_n 0, 1) := by decide +kernel
theorem dX9_parts_90 : decode cX9_parts 90 = .ok (.iload_n 1, 1) := by decide +kernel
theorem dX9_parts_91 : decode cX9_parts 91 = .ok (.iload_n 2, 1) := by decide +kernel
theorem dX9_parts_92 : decode cX9_parts 92 = .ok (.iload 5, 2) := by decide +kernel
theorem dX9_parts_94 : decode cX9_parts 94 = .ok (.iconst 0, 1) := by decide +kernel
theorem dX9_parts_95 : decode cX9_parts 95 = .ok (.invokevirtual 94, 3) := by decide +kernel
theorem dX9_parts_98 : decode cX9_parts 98 = .ok (.iinc 4 1, 3) := by decide +kernel
theorem dX9_parts_101 : decode cX9_parts 101 = .ok (.iinc 5 1, 3) := by decide +kernel
theorem dX9_parts_104 : decode cX9_parts 104 = .ok (.goto (-61), 3) := by decide +kernel
theorem dX9_parts_107 : decode cX9_parts 107 = .ok (.iload 4, 2) := by decide +kernel
theorem dX9_parts_109 : decode cX9_parts 109 = .ok (.ireturn, 1) := by decide +kernel
theorem dX9_all_0 : decode cX9_all 0 = .ok (.iconst 1, 1) := by decide +kernel
theorem dX9_all_1 : decode cX9_all 1 = .ok (.iconst 2, 1) := by decide +kernel
theorem dX9_all_2 : decode cX9_all 2 = .ok (.aload_n 0, 1) := by decide +kernel
theorem dX9_all_3 : decode cX9_all 3 = .ok (.getfield 7, 3) := by decide +kernel
theorem dX9_all_6 : decode cX9_all 6 = .ok (.imul, 1) := by decide +kernel
theorem dX9_all_7 : decode cX9_all 7 = .ok (.ishl, 1) := by decide +kernel
theorem dX9_all_8 : decode cX9_all 8 = .ok (.ireturn, 1) := by decide +kernel
set_option maxRecDepth 20000 in
theorem ggX9_isColouring_X9_all : GoodIn wsX9_isColouring wsX9_all := goodIn_r _ [7, 1, 11, 12, 13, 14, 15, 16, 17, 18, 19, 20] (by decide +kernel) (by decide +kernel)
set_option maxRecDepth 20000 in
theorem gX9_isColouring_X9_all : GoodIn wsX9_isColouring (wsV RX9 98 RX9 yX9_all wsX9_all) := goodIn_app (goodIn_of _ (by decide +kernel)) ggX9_isColouring_X9_all
set_option maxRecDepth 20000 in
theorem ggX9_isColouring_X9_in : GoodIn wsX9_isColouring wsX9_in := goodIn_r _ [10] (by decide +kernel) (by decide +kernel)
set_option maxRecDepth 20000 in
theorem gX9_isColouring_X9_in : GoodIn wsX9_isColouring (va_wsS RX9 39 yX9_in wsX9_in) := goodIn_app (goodIn_of _ (by decide +kernel)) ggX9_isColouring_X9_in
theorem dX9_isColouring_0 : decode cX9_isColouring 0 = .ok (.iload_n 1, 1) := by decide +kernel
theorem dX9_isColouring_1 : decode cX9_isColouring 1 = .ok (.iconst 0, 1) := by decide +kernel
theorem dX9_isColouring_2 : decode cX9_isColouring 2 = .ok (.aload_n 0, 1) := by decide +kernel
theorem dX9_isColouring_3 : decode cX9_isColouring 3 = .ok (.invokevirtual 98, 3) := by decide +kernel
theorem dX9_isColouring_6 : decode cX9_isColouring 6 = .ok (.iconst 1, 1) := by decide +kernel
theorem dX9_isColouring_7 : decode cX9_isColouring 7 = .ok (.isub, 1) := by decide +kernel
theorem dX9_isColouring_8 : decode cX9_isColouring 8 = .ok (.invokestatic 39, 3) := by decide +kernel
theorem dX9_isColouring_11 : decode cX9_isColouring 11 = .ok (.istore_n 2, 1) := by decide +kernel
theorem dX9_isColouring_12 : decode cX9_isColouring 12 = .ok (.iconst 0, 1) := by decide +kernel
theorem dX9_isColouring_13 : decode cX9_isColouring 13 = .ok (.istore_n 3, 1) := by decide +kernel
theorem dX9_isColouring_14 : decode cX9_isColouring 14 = .ok (.iload_n 3, 1) := by decide +kernel
theorem dX9_isColouring_15 : decode cX9_isColouring 15 = .ok (.aload_n 0, 1) := by decide +kernel
theorem dX9_isColouring_16 : decode cX9_isColouring 16 = .ok (.getfield 7, 3) := by decide +kernel
theorem dX9_isColouring_19 : decode cX9_isColouring 19 = .ok (.if_icmp .ge 33, 3) := by decide +kernel
theorem dX9_isColouring_22 : decode cX9_isColouring 22 = .ok (.iload_n 2, 1) := by decide +kernel
theorem dX9_isColouring_23 : decode cX9_isColouring 23 = .ok (.ifCond .eq 29, 3) := by decide +kernel
theorem dX9_isColouring_26 : decode cX9_isColouring 26 = .ok (.iload_n 1, 1) := by decide +kernel
theorem dX9_isColouring_27 : decode cX9_isColouring 27 = .ok (.iconst 2, 1) := by decide +kernel
theorem dX9_isColouring_28 : decode cX9_isColouring 28 = .ok (.iload_n 3, 1) := by decide +kernel
theorem dX9_isColouring_29 : decode cX9_isColouring 29 = .ok (.imul, 1) := by decide +kernel
theorem dX9_isColouring_30 : decode cX9_isColouring 30 = .ok (.ishr, 1) := by decide +kernel
theorem dX9_isColouring_31 : decode cX9_isColouring 31 = .ok (.iconst 3, 1) := by decide +kernel
theorem dX9_isColouring_32 : decode cX9_isColouring 32 = .ok (.iand, 1) := by decide +kernel
theorem dX9_isColouring_33 : decode cX9_isColouring 33 = .ok (.aload_n 0, 1) := by decide +kernel
theorem dX9_isColouring_34 : decode cX9_isColouring 34 = .ok (.getfield 20, 3) := by decide +kernel
theorem dX9_isColouring_37 : decode cX9_isColouring 37 = .ok (.if_icmp .ge 7, 3) := by decide +kernel
theorem dX9_isColouring_40 : decode cX9_isColouring 40 = .ok (.iconst 1, 1) := by decide +kernel
theorem dX9_isColouring_41 : decode cX9_isColouring 41 = .ok (.goto 4, 3) := by decide +kernel
theorem dX9_isColouring_44 : decode cX9_isColouring 44 = .ok (.iconst 0, 1) := by decide +kernel
theorem dX9_isColouring_45 : decode cX9_isColouring 45 = .ok (.istore_n 2, 1) := by decide +kernel
theorem dX9_isColouring_46 : decode cX9_isColouring 46 = .ok (.iinc 3 1, 3) := by decide +kernel
theorem dX9_isColouring_49 : decode cX9_isColouring 49 = .ok (.goto (-35), 3) := by decide +kernel
theorem dX9_isColouring_52 : decode cX9_isColouring 52 = .ok (.iload_n 2, 1) := by decide +kernel
theorem dX9_isColouring_53 : decode cX9_isColouring 53 = .ok (.ireturn, 1) := by decide +kernel
set_option maxRecDepth 20000 in
theorem ggX9_isProper_X9_isColouring : GoodIn wsX9_isProper wsX9_isColouring := goodIn_r _ [7, 1, 8, 9, 10, 11, 6, 12, 13, 14, 15, 16, 17, 18, 19, 20, 21, 22, 23, 24, 25] (by decide +kernel) (by decide +kernel)
set_option maxRecDepth 20000 in
theorem gX9_isProper_X9_isColouring : GoodIn wsX9_isProper (wsV RX9 101 RX9 yX9_isColouring wsX9_isColouring) := goodIn_app (goodIn_of _ (by decide +kernel)) ggX9_isProper_X9_isColouring
theorem dX9_isProper_0 : decode cX9_isProper 0 = .ok (.aload_n 0, 1) := by decide +kernel
theorem dX9_isProper_1 : decode cX9_isProper 1 = .ok (.iload_n 1, 1) := by decide +kernel
theorem dX9_isProper_2 : decode cX9_isProper 2 = .ok (.invokevirtual 101, 3) := by decide +kernel
theorem dX9_isProper_5 : decode cX9_isProper 5 = .ok (.istore_n 2, 1) := by decide +kernel
theorem dX9_isProper_6 : decode cX9_isProper 6 = .ok (.iconst 0, 1) := by decide +kernel
theorem dX9_isProper_7 : decode cX9_isProper 7 = .ok (.istore_n 3, 1) := by decide +kernel
theorem dX9_isProper_8 : decode cX9_isProper 8 = .ok (.iload_n 3, 1) := by decide +kernel
theorem dX9_isProper_9 : decode cX9_isProper 9 = .ok (.aload_n 0, 1) := by decide +kernel
theorem dX9_isProper_10 : decode cX9_isProper 10 = .ok (.getfield 7, 3) := by decide +kernel
theorem dX9_isProper_13 : decode cX9_isProper 13 = .ok (.if_icmp .ge 66, 3) := by decide +kernel
theorem dX9_isProper_16 : decode cX9_isProper 16 = .ok (.iconst 0, 1) := by decide +kernel
theorem dX9_isProper_17 : decode cX9_isProper 17 = .ok (.istore 4, 2) := by decide +kernel
theorem dX9_isProper_19 : decode cX9_isProper 19 = .ok (.iload 4, 2) := by decide +kernel
theorem dX9_isProper_21 : decode cX9_isProper 21 = .ok (.iload_n 3, 1) := by decide +kernel
theorem dX9_isProper_22 : decode cX9_isProper 22 = .ok (.if_icmp .ge 51, 3) := by decide +kernel
theorem dX9_isProper_25 : decode cX9_isProper 25 = .ok (.iload_n 2, 1) := by decide +kernel
theorem dX9_isProper_26 : decode cX9_isProper 26 = .ok (.ifCond .eq 39, 3) := by decide +kernel
theorem dX9_isProper_29 : decode cX9_isProper 29 = .ok (.aload_n 0, 1) := by decide +kernel
theorem dX9_isProper_30 : decode cX9_isProper 30 = .ok (.getfield 13, 3) := by decide +kernel
theorem dX9_isProper_33 : decode cX9_isProper 33 = .ok (.iload_n 3, 1) := by decide +kernel
theorem dX9_isProper_34 : decode cX9_isProper 34 = .ok (.iaload, 1) := by decide +kernel
theorem dX9_isProper_35 : decode cX9_isProper 35 = .ok (.iload 4, 2) := by decide +kernel
theorem dX9_isProper_37 : decode cX9_isProper 37 = .ok (.ishr, 1) := by decide +kernel
theorem dX9_isProper_38 : decode cX9_isProper 38 = .ok (.iconst 1, 1) := by decide +kernel
theorem dX9_isProper_39 : decode cX9_isProper 39 = .ok (.iand, 1) := by decide +kernel
theorem dX9_isProper_40 : decode cX9_isProper 40 = .ok (.ifCond .eq 21, 3) := by decide +kernel
theorem dX9_isProper_43 : decode cX9_isProper 43 = .ok (.iload_n 1, 1) := by decide +kernel
theorem dX9_isProper_44 : decode cX9_isProper 44 = .ok (.iconst 2, 1) := by decide +kernel
theorem dX9_isProper_45 : decode cX9_isProper 45 = .ok (.iload_n 3, 1) := by decide +kernel
theorem dX9_isProper_46 : decode cX9_isProper 46 = .ok (.imul, 1) := by decide +kernel
theorem dX9_isProper_47 : decode cX9_isProper 47 = .ok (.ishr, 1) := by decide +kernel
theorem dX9_isProper_48 : decode cX9_isProper 48 = .ok (.iconst 3, 1) := by decide +kernel
theorem dX9_isProper_49 : decode cX9_isProper 49 = .ok (.iand, 1) := by decide +kernel
theorem dX9_isProper_50 : decode cX9_isProper 50 = .ok (.iload_n 1, 1) := by decide +kernel
theorem dX9_isProper_51 : decode cX9_isProper 51 = .ok (.iconst 2, 1) := by decide +kernel
theorem dX9_isProper_52 : decode cX9_isProper 52 = .ok (.iload 4, 2) := by decide +kernel
theorem dX9_isProper_54 : decode cX9_isProper 54 = .ok (.imul, 1) := by decide +kernel
theorem dX9_isProper_55 : decode cX9_isProper 55 = .ok (.ishr, 1) := by decide +kernel
theorem dX9_isProper_56 : decode cX9_isProper 56 = .ok (.iconst 3, 1) := by decide +kernel
theorem dX9_isProper_57 : decode cX9_isProper 57 = .ok (.iand, 1) := by decide +kernel
theorem dX9_isProper_58 : decode cX9_isProper 58 = .ok (.if_icmp .eq 7, 3) := by decide +kernel
theorem dX9_isProper_61 : decode cX9_isProper 61 = .ok (.iconst 1, 1) := by decide +kernel
theorem dX9_isProper_62 : decode cX9_isProper 62 = .ok (.goto 4, 3) := by decide +kernel
theorem dX9_isProper_65 : decode cX9_isProper 65 = .ok (.iconst 0, 1) := by decide +kernel
theorem dX9_isProper_66 : decode cX9_isProper 66 = .ok (.istore_n 2, 1) := by decide +kernel
theorem dX9_isProper_67 : decode cX9_isProper 67 = .ok (.iinc 4 1, 3) := by decide +kernel
theorem dX9_isProper_70 : decode cX9_isProper 70 = .ok (.goto (-51), 3) := by decide +kernel
theorem dX9_isProper_73 : decode cX9_isProper 73 = .ok (.iinc 3 1, 3) := by decide +kernel
theorem dX9_isProper_76 : decode cX9_isProper 76 = .ok (.goto (-68), 3) := by decide +kernel
theorem dX9_isProper_79 : decode cX9_isProper 79 = .ok (.iload_n 2, 1) := by decide +kernel
theorem dX9_isProper_80 : decode cX9_isProper 80 = .ok (.ireturn, 1) := by decide +kernel
set_option maxRecDepth 20000 in
theorem ggX9_proper_X9_isColouring : GoodIn wsX9_proper wsX9_isColouring := goodIn_r _ [6, 1, 7, 8, 9, 10, 5, 11, 12, 13, 14, 20, 21, 22, 23, 24, 25, 26, 27, 28, 29] (by decide +kernel) (by decide +kernel)
set_option maxRecDepth 20000 in
theorem gX9_proper_X9_isColouring : GoodIn wsX9_proper (wsV RX9 101 RX9 yX9_isColouring wsX9_isColouring) := goodIn_app (goodIn_of _ (by decide +kernel)) ggX9_proper_X9_isColouring
set_option maxRecDepth 20000 in
theorem ggX9_proper_X9_isProper : GoodIn wsX9_proper wsX9_isProper := goodIn_r _ [18, 1, 19, 2, 3, 4, 5, 6, 7, 8, 9, 10, 11, 12, 13, 14, 20, 21, 22, 23, 24, 25, 26, 27, 28, 29] (by decide +kernel) (by decide +kernel)
set_option maxRecDepth 20000 in
theorem gX9_proper_X9_isProper : GoodIn wsX9_proper (wsV RX9 104 RX9 yX9_isProper wsX9_isProper) := goodIn_app (goodIn_of _ (by decide +kernel)) ggX9_proper_X9_isProper
theorem dX9_proper_0 : decode cX9_proper 0 = .ok (.aload_n 0, 1) := by decide +kernel
theorem dX9_proper_1 : decode cX9_proper 1 = .ok (.getfield 7, 3) := by decide +kernel
end
section
theorem dX9_proper_4 : decode cX9_proper 4 = .ok (.bipush 6, 2) := by decide +kernel
theorem dX9_proper_6 : decode cX9_proper 6 = .ok (.if_icmp .le 8, 3) := by decide +kernel
theorem dX9_proper_9 : decode cX9_proper 9 = .ok (.bipush (-2), 2) := by decide +kernel
theorem dX9_proper_11 : decode cX9_proper 11 = .ok (.goto 28, 3) := by decide +kernel
theorem dX9_proper_14 : decode cX9_proper 14 = .ok (.aload_n 0, 1) := by decide +kernel
theorem dX9_proper_15 : decode cX9_proper 15 = .ok (.iload_n 1, 1) := by decide +kernel
theorem dX9_proper_16 : decode cX9_proper 16 = .ok (.invokevirtual 101, 3) := by decide +kernel
theorem dX9_proper_19 : decode cX9_proper 19 = .ok (.ifCond .ne 7, 3) := by decide +kernel
theorem dX9_proper_22 : decode cX9_proper 22 = .ok (.iconst (-1), 1) := by decide +kernel
theorem dX9_proper_23 : decode cX9_proper 23 = .ok (.goto 16, 3) := by decide +kernel
theorem dX9_proper_26 : decode cX9_proper 26 = .ok (.aload_n 0, 1) := by decide +kernel
theorem dX9_proper_27 : decode cX9_proper 27 = .ok (.iload_n 1, 1) := by decide +kernel
theorem dX9_proper_28 : decode cX9_proper 28 = .ok (.invokevirtual 104, 3) := by decide +kernel
theorem dX9_proper_31 : decode cX9_proper 31 = .ok (.ifCond .eq 7, 3) := by decide +kernel
theorem dX9_proper_34 : decode cX9_proper 34 = .ok (.iconst 1, 1) := by decide +kernel
theorem dX9_proper_35 : decode cX9_proper 35 = .ok (.goto 4, 3) := by decide +kernel
theorem dX9_proper_38 : decode cX9_proper 38 = .ok (.iconst 0, 1) := by decide +kernel
theorem dX9_proper_39 : decode cX9_proper 39 = .ok (.ireturn, 1) := by decide +kernel
set_option maxRecDepth 20000 in
theorem ggX9_spread_X9_isProper : GoodIn wsX9_spread wsX9_isProper := goodIn_r _ [9, 3, 10, 11, 12, 13, 8, 14, 4, 15, 16, 17, 18, 19, 20, 21, 22, 23, 24, 25, 26, 27, 28, 29, 30, 31] (by decide +kernel) (by decide +kernel)
set_option maxRecDepth 20000 in
theorem gX9_spread_X9_isProper : GoodIn wsX9_spread (wsV RX9 104 RX9 yX9_isProper wsX9_isProper) := goodIn_app (goodIn_of _ (by decide +kernel)) ggX9_spread_X9_isProper
theorem dX9_spread_0 : decode cX9_spread 0 = .ok (.iconst 1, 1) := by decide +kernel
theorem dX9_spread_1 : decode cX9_spread 1 = .ok (.istore_n 2, 1) := by decide +kernel
theorem dX9_spread_2 : decode cX9_spread 2 = .ok (.aload_n 0, 1) := by decide +kernel
theorem dX9_spread_3 : decode cX9_spread 3 = .ok (.getfield 30, 3) := by decide +kernel
theorem dX9_spread_6 : decode cX9_spread 6 = .ok (.iload_n 1, 1) := by decide +kernel
theorem dX9_spread_7 : decode cX9_spread 7 = .ok (.iconst 0, 1) := by decide +kernel
theorem dX9_spread_8 : decode cX9_spread 8 = .ok (.iastore, 1) := by decide +kernel
theorem dX9_spread_9 : decode cX9_spread 9 = .ok (.aload_n 0, 1) := by decide +kernel
theorem dX9_spread_10 : decode cX9_spread 10 = .ok (.getfield 33, 3) := by decide +kernel
theorem dX9_spread_13 : decode cX9_spread 13 = .ok (.iconst 0, 1) := by decide +kernel
theorem dX9_spread_14 : decode cX9_spread 14 = .ok (.iload_n 1, 1) := by decide +kernel
theorem dX9_spread_15 : decode cX9_spread 15 = .ok (.iastore, 1) := by decide +kernel
theorem dX9_spread_16 : decode cX9_spread 16 = .ok (.iconst 0, 1) := by decide +kernel
theorem dX9_spread_17 : decode cX9_spread 17 = .ok (.istore_n 3, 1) := by decide +kernel
theorem dX9_spread_18 : decode cX9_spread 18 = .ok (.iload_n 3, 1) := by decide +kernel
theorem dX9_spread_19 : decode cX9_spread 19 = .ok (.iload_n 2, 1) := by decide +kernel
theorem dX9_spread_20 : decode cX9_spread 20 = .ok (.if_icmp .ge 120, 3) := by decide +kernel
theorem dX9_spread_23 : decode cX9_spread 23 = .ok (.aload_n 0, 1) := by decide +kernel
theorem dX9_spread_24 : decode cX9_spread 24 = .ok (.getfield 33, 3) := by decide +kernel
theorem dX9_spread_27 : decode cX9_spread 27 = .ok (.iload_n 3, 1) := by decide +kernel
theorem dX9_spread_28 : decode cX9_spread 28 = .ok (.iaload, 1) := by decide +kernel
theorem dX9_spread_29 : decode cX9_spread 29 = .ok (.istore 4, 2) := by decide +kernel
theorem dX9_spread_31 : decode cX9_spread 31 = .ok (.iconst 0, 1) := by decide +kernel
theorem dX9_spread_32 : decode cX9_spread 32 = .ok (.istore 5, 2) := by decide +kernel
theorem dX9_spread_34 : decode cX9_spread 34 = .ok (.iload 5, 2) := by decide +kernel
theorem dX9_spread_36 : decode cX9_spread 36 = .ok (.aload_n 0, 1) := by decide +kernel
theorem dX9_spread_37 : decode cX9_spread 37 = .ok (.getfield 7, 3) := by decide +kernel
theorem dX9_spread_40 : decode cX9_spread 40 = .ok (.if_icmp .ge 94, 3) := by decide +kernel
theorem dX9_spread_43 : decode cX9_spread 43 = .ok (.iconst 0, 1) := by decide +kernel
theorem dX9_spread_44 : decode cX9_spread 44 = .ok (.istore 6, 2) := by decide +kernel
theorem dX9_spread_46 : decode cX9_spread 46 = .ok (.iload 6, 2) := by decide +kernel
theorem dX9_spread_48 : decode cX9_spread 48 = .ok (.aload_n 0, 1) := by decide +kernel
theorem dX9_spread_49 : decode cX9_spread 49 = .ok (.getfield 20, 3) := by decide +kernel
theorem dX9_spread_52 : decode cX9_spread 52 = .ok (.if_icmp .ge 76, 3) := by decide +kernel
theorem dX9_spread_55 : decode cX9_spread 55 = .ok (.iload 4, 2) := by decide +kernel
theorem dX9_spread_57 : decode cX9_spread 57 = .ok (.iconst 3, 1) := by decide +kernel
theorem dX9_spread_58 : decode cX9_spread 58 = .ok (.iconst 2, 1) := by decide +kernel
theorem dX9_spread_59 : decode cX9_spread 59 = .ok (.iload 5, 2) := by decide +kernel
theorem dX9_spread_61 : decode cX9_spread 61 = .ok (.imul, 1) := by decide +kernel
theorem dX9_spread_62 : decode cX9_spread 62 = .ok (.ishl, 1) := by decide +kernel
theorem dX9_spread_63 : decode cX9_spread 63 = .ok (.iconst (-1), 1) := by decide +kernel
theorem dX9_spread_64 : decode cX9_spread 64 = .ok (.ixor, 1) := by decide +kernel
theorem dX9_spread_65 : decode cX9_spread 65 = .ok (.iand, 1) := by decide +kernel
theorem dX9_spread_66 : decode cX9_spread 66 = .ok (.iload 6, 2) := by decide +kernel
theorem dX9_spread_68 : decode cX9_spread 68 = .ok (.iconst 2, 1) := by decide +kernel
theorem dX9_spread_69 : decode cX9_spread 69 = .ok (.iload 5, 2) := by decide +kernel
theorem dX9_spread_71 : decode cX9_spread 71 = .ok (.imul, 1) := by decide +kernel
theorem dX9_spread_72 : decode cX9_spread 72 = .ok (.ishl, 1) := by decide +kernel
theorem dX9_spread_73 : decode cX9_spread 73 = .ok (.ior, 1) := by decide +kernel
theorem dX9_spread_74 : decode cX9_spread 74 = .ok (.istore 7, 2) := by decide +kernel
theorem dX9_spread_76 : decode cX9_spread 76 = .ok (.aload_n 0, 1) := by decide +kernel
theorem dX9_spread_77 : decode cX9_spread 77 = .ok (.getfield 30, 3) := by decide +kernel
theorem dX9_spread_80 : decode cX9_spread 80 = .ok (.iload 7, 2) := by decide +kernel
theorem dX9_spread_82 : decode cX9_spread 82 = .ok (.iaload, 1) := by decide +kernel
theorem dX9_spread_83 : decode cX9_spread 83 = .ok (.ifCond .ge 39, 3) := by decide +kernel
theorem dX9_spread_86 : decode cX9_spread 86 = .ok (.aload_n 0, 1) := by decide +kernel
theorem dX9_spread_87 : decode cX9_spread 87 = .ok (.iload 7, 2) := by decide +kernel
theorem dX9_spread_89 : decode cX9_spread 89 = .ok (.invokevirtual 104, 3) := by decide +kernel
theorem dX9_spread_92 : decode cX9_spread 92 = .ok (.ifCond .eq 30, 3) := by decide +kernel
theorem dX9_spread_95 : decode cX9_spread 95 = .ok (.aload_n 0, 1) := by decide +kernel
theorem dX9_spread_96 : decode cX9_spread 96 = .ok (.getfield 30, 3) := by decide +kernel
theorem dX9_spread_99 : decode cX9_spread 99 = .ok (.iload 7, 2) := by decide +kernel
theorem dX9_spread_101 : decode cX9_spread 101 = .ok (.aload_n 0, 1) := by decide +kernel
theorem dX9_spread_102 : decode cX9_spread 102 = .ok (.getfield 30, 3) := by decide +kernel
theorem dX9_spread_105 : decode cX9_spread 105 = .ok (.iload 4, 2) := by decide +kernel
theorem dX9_spread_107 : decode cX9_spread 107 = .ok (.iaload, 1) := by decide +kernel
theorem dX9_spread_108 : decode cX9_spread 108 = .ok (.iconst 1, 1) := by decide +kernel
theorem dX9_spread_109 : decode cX9_spread 109 = .ok (.iadd, 1) := by decide +kernel
theorem dX9_spread_110 : decode cX9_spread 110 = .ok (.iastore, 1) := by decide +kernel
theorem dX9_spread_111 : decode cX9_spread 111 = .ok (.aload_n 0, 1) := by decide +kernel
theorem dX9_spread_112 : decode cX9_spread 112 = .ok (.getfield 33, 3) := by decide +kernel
theorem dX9_spread_115 : decode cX9_spread 115 = .ok (.iload_n 2, 1) := by decide +kernel
theorem dX9_spread_116 : decode cX9_spread 116 = .ok (.iload 7, 2) := by decide +kernel
theorem dX9_spread_118 : decode cX9_spread 118 = .ok (.iastore, 1) := by decide +kernel
theorem dX9_spread_119 : decode cX9_spread 119 = .ok (.iinc 2 1, 3) := by decide +kernel
theorem dX9_spread_122 : decode cX9_spread 122 = .ok (.iinc 6 1, 3) := by decide +kernel
theorem dX9_spread_125 : decode cX9_spread 125 = .ok (.goto (-79), 3) := by decide +kernel
theorem dX9_spread_128 : decode cX9_spread 128 = .ok (.iinc 5 1, 3) := by decide +kernel
theorem dX9_spread_131 : decode cX9_spread 131 = .ok (.goto (-97), 3) := by decide +kernel
theorem dX9_spread_134 : decode cX9_spread 134 = .ok (.iinc 3 1, 3) := by decide +kernel
theorem dX9_spread_137 : decode cX9_spread 137 = .ok (.goto (-119), 3) := by decide +kernel
theorem dX9_spread_140 : decode cX9_spread 140 = .ok (.iload_n 2, 1) := by decide +kernel
theorem dX9_spread_141 : decode cX9_spread 141 = .ok (.ireturn, 1) := by decide +kernel
theorem dX9_bleach_0 : decode cX9_bleach 0 = .ok (.iconst 0, 1) := by decide +kernel
theorem dX9_bleach_1 : decode cX9_bleach 1 = .ok (.istore_n 1, 1) := by decide +kernel
theorem dX9_bleach_2 : decode cX9_bleach 2 = .ok (.iload_n 1, 1) := by decide +kernel
theorem dX9_bleach_3 : decode cX9_bleach 3 = .ok (.sipush 4096, 3) := by decide +kernel
theorem dX9_bleach_6 : decode cX9_bleach 6 = .ok (.if_icmp .ge 17, 3) := by decide +kernel
theorem dX9_bleach_9 : decode cX9_bleach 9 = .ok (.aload_n 0, 1) := by decide +kernel
theorem dX9_bleach_10 : decode cX9_bleach 10 = .ok (.getfield 30, 3) := by decide +kernel
theorem dX9_bleach_13 : decode cX9_bleach 13 = .ok (.iload_n 1, 1) := by decide +kernel
theorem dX9_bleach_14 : decode cX9_bleach 14 = .ok (.bipush (-9), 2) := by decide +kernel
theorem dX9_bleach_16 : decode cX9_bleach 16 = .ok (.iastore, 1) := by decide +kernel
theorem dX9_bleach_17 : decode cX9_bleach 17 = .ok (.iinc 1 1, 3) := by decide +kernel
theorem dX9_bleach_20 : decode cX9_bleach 20 = .ok (.goto (-18), 3) := by decide +kernel
theorem dX9_bleach_23 : decode cX9_bleach 23 = .ok (.return_, 1) := by decide +kernel
set_option maxRecDepth 20000 in
theorem ggX9_shades_X9_isProper : GoodIn wsX9_shades wsX9_isProper := goodIn_r _ [7, 1, 8, 9, 10, 11, 6, 12, 13, 14, 15, 16, 17, 18, 19, 20, 30, 31, 32, 33, 34, 35, 36, 37, 38, 39] (by decide +kernel) (by decide +kernel)
set_option maxRecDepth 20000 in
theorem gX9_shades_X9_isProper : GoodIn wsX9_shades (wsV RX9 104 RX9 yX9_isProper wsX9_isProper) := goodIn_app (goodIn_of _ (by decide +kernel)) ggX9_shades_X9_isProper
set_option maxRecDepth 20000 in
theorem ggX9_shades_X9_bleach : GoodIn wsX9_shades wsX9_bleach := goodIn_r _ [24, 2, 30, 31, 32, 33, 34, 35, 36, 37, 38, 39] (by decide +kernel) (by decide +kernel)
set_option maxRecDepth 20000 in
theorem gX9_shades_X9_bleach : GoodIn wsX9_shades (wsV RX9 107 RX9 yX9_bleach wsX9_bleach) := goodIn_app (goodIn_of _ (by decide +kernel)) ggX9_shades_X9_bleach
set_option maxRecDepth 20000 in
theorem ggX9_shades_X9_spread : GoodIn wsX9_shades wsX9_spread := goodIn_r _ [28, 2, 29, 1, 13, 3, 4, 5, 6, 7, 8, 9, 10, 11, 12, 14, 15, 16, 17, 18, 19, 20, 30, 31, 32, 33, 34, 35, 36, 37, 38, 39] (by decide +kernel) (by decide +kernel)
set_option maxRecDepth 20000 in
theorem gX9_shades_X9_spread : GoodIn wsX9_shades (wsV RX9 110 RX9 yX9_spread wsX9_spread) := goodIn_app (goodIn_of _ (by decide +kernel)) ggX9_shades_X9_spread
theorem dX9_shades_0 : decode cX9_shades 0 = .ok (.aload_n 0, 1) := by decide +kernel
theorem dX9_shades_1 : decode cX9_shades 1 = .ok (.getfield 7, 3) := by decide +kernel
theorem dX9_shades_4 : decode cX9_shades 4 = .ok (.bipush 6, 2) := by decide +kernel
theorem dX9_shades_6 : decode cX9_shades 6 = .ok (.if_icmp .le 6, 3) := by decide +kernel
theorem dX9_shades_9 : decode cX9_shades 9 = .ok (.bipush (-2), 2) := by decide +kernel
theorem dX9_shades_11 : decode cX9_shades 11 = .ok (.ireturn, 1) := by decide +kernel
theorem dX9_shades_12 : decode cX9_shades 12 = .ok (.aload_n 0, 1) := by decide +kernel
theorem dX9_shades_13 : decode cX9_shades 13 = .ok (.iload_n 1, 1) := by decide +kernel
theorem dX9_shades_14 : decode cX9_shades 14 = .ok (.invokevirtual 104, 3) := by decide +kernel
theorem dX9_shades_17 : decode cX9_shades 17 = .ok (.ifCond .eq 11, 3) := by decide +kernel
theorem dX9_shades_20 : decode cX9_shades 20 = .ok (.aload_n 0, 1) := by decide +kernel
theorem dX9_shades_21 : decode cX9_shades 21 = .ok (.iload_n 2, 1) := by decide +kernel
theorem dX9_shades_22 : decode cX9_shades 22 = .ok (.invokevirtual 104, 3) := by decide +kernel
theorem dX9_shades_25 : decode cX9_shades 25 = .ok (.ifCond .ne 5, 3) := by decide +kernel
theorem dX9_shades_28 : decode cX9_shades 28 = .ok (.iconst (-1), 1) := by decide +kernel
theorem dX9_shades_29 : decode cX9_shades 29 = .ok (.ireturn, 1) := by decide +kernel
theorem dX9_shades_30 : decode cX9_shades 30 = .ok (.aload_n 0, 1) := by decide +kernel
theorem dX9_shades_31 : decode cX9_shades 31 = .ok (.invokevirtual 107, 3) := by decide +kernel
theorem dX9_shades_34 : decode cX9_shades 34 = .ok (.aload_n 0, 1) := by decide +kernel
theorem dX9_shades_35 : decode cX9_shades 35 = .ok (.iload_n 1, 1) := by decide +kernel
theorem dX9_shades_36 : decode cX9_shades 36 = .ok (.invokevirtual 110, 3) := by decide +kernel
theorem dX9_shades_39 : decode cX9_shades 39 = .ok (.istore_n 3, 1) := by decide +kernel
theorem dX9_shades_40 : decode cX9_shades 40 = .ok (.aload_n 0, 1) := by decide +kernel
theorem dX9_shades_41 : decode cX9_shades 41 = .ok (.getfield 30, 3) := by decide +kernel
theorem dX9_shades_44 : decode cX9_shades 44 = .ok (.iload_n 2, 1) := by decide +kernel
theorem dX9_shades_45 : decode cX9_shades 45 = .ok (.iaload, 1) := by decide +kernel
theorem dX9_shades_46 : decode cX9_shades 46 = .ok (.ireturn, 1) := by decide +kernel
set_option maxRecDepth 20000 in
theorem ggX9_heaps_X9_in : GoodIn wsX9_heaps wsX9_in := goodIn_r _ [6] (by decide +kernel) (by decide +kernel)
set_option maxRecDepth 20000 in
theorem gX9_heaps_X9_in : GoodIn wsX9_heaps (va_wsS RX9 39 yX9_in wsX9_in) := goodIn_app (goodIn_of _ (by decide +kernel)) ggX9_heaps_X9_in
set_option maxRecDepth 20000 in
theorem ggX9_heaps_X9_bleach : GoodIn wsX9_heaps wsX9_bleach := goodIn_r _ [10, 2, 30, 31, 32, 33, 34, 35, 36, 37, 38, 39] (by decide +kernel) (by decide +kernel)
set_option maxRecDepth 20000 in
theorem gX9_heaps_X9_bleach : GoodIn wsX9_heaps (wsV RX9 107 RX9 yX9_bleach wsX9_bleach) := goodIn_app (goodIn_of _ (by decide +kernel)) ggX9_heaps_X9_bleach
set_option maxRecDepth 20000 in
theorem ggX9_heaps_X9_all : GoodIn wsX9_heaps wsX9_all := goodIn_r _ [14, 1, 30, 31, 32, 33, 34, 35, 36, 37, 38, 39] (by decide +kernel) (by decide +kernel)
set_option maxRecDepth 20000 in
theorem gX9_heaps_X9_all : GoodIn wsX9_heaps (wsV RX9 98 RX9 yX9_all wsX9_all) := goodIn_app (goodIn_of _ (by decide +kernel)) ggX9_heaps_X9_all
set_option maxRecDepth 20000 in
theorem ggX9_heaps_X9_isProper : GoodIn wsX9_heaps wsX9_isProper := goodIn_r _ [18, 1, 19, 20, 21, 22, 5, 23, 24, 11, 12, 13, 14, 3, 4, 6, 30, 31, 32, 33, 34, 35, 36, 37, 38, 39] (by decide +kernel) (by decide +kernel)
set_option maxRecDepth 20000 in
theorem gX9_heaps_X9_isProper : GoodIn wsX9_heaps (wsV RX9 104 RX9 yX9_isProper wsX9_isProper) := goodIn_app (goodIn_of _ (by decide +kernel)) ggX9_heaps_X9_isProper
set_option maxRecDepth 20000 in
theorem ggX9_heaps_X9_spread : GoodIn wsX9_heaps wsX9_spread := goodIn_r _ [28, 2, 29, 1, 24, 15, 16, 17, 5, 18, 19, 20, 21, 22, 23, 11, 12, 13, 14, 3, 4, 6, 30, 31, 32, 33, 34, 35, 36, 37, 38, 39] (by decide +kernel) (by decide +kernel)
set_option maxRecDepth 20000 in
theorem gX9_heaps_X9_spread : GoodIn wsX9_heaps (wsV RX9 110 RX9 yX9_spread wsX9_spread) := goodIn_app (goodIn_of _ (by decide +kernel)) ggX9_heaps_X9_spread
theorem dX9_heaps_0 : decode cX9_heaps 0 = .ok (.iload_n 1, 1) := by decide +kernel
theorem dX9_heaps_1 : decode cX9_heaps 1 = .ok (.iconst 0, 1) := by decide +kernel
theorem dX9_heaps_2 : decode cX9_heaps 2 = .ok (.iconst 2, 1) := by decide +kernel
theorem dX9_heaps_3 : decode cX9_heaps 3 = .ok (.invokestatic 39, 3) := by decide +kernel
theorem dX9_heaps_6 : decode cX9_heaps 6 = .ok (.ifCond .ne 5, 3) := by decide +kernel
theorem dX9_heaps_9 : decode cX9_heaps 9 = .ok (.iconst (-1), 1) := by decide +kernel
theorem dX9_heaps_10 : decode cX9_heaps 10 = .ok (.ireturn, 1) := by decide +kernel
theorem dX9_heaps_11 : decode cX9_heaps 11 = .ok (.aload_n 0, 1) := by decide +kernel
theorem dX9_heaps_12 : decode cX9_heaps 12 = .ok (.getfield 7, 3) := by decide +kernel
theorem dX9_heaps_15 : decode cX9_heaps 15 = .ok (.bipush 6, 2) := by decide +kernel
theorem dX9_heaps_17 : decode cX9_heaps 17 = .ok (.if_icmp .le 6, 3) := by decide +kernel
theorem dX9_heaps_20 : decode cX9_heaps 20 = .ok (.bipush (-2), 2) := by decide +kernel
theorem dX9_heaps_22 : decode cX9_heaps 22 = .ok (.ireturn, 1) := by decide +kernel
theorem dX9_heaps_23 : decode cX9_heaps 23 = .ok (.aload_n 0, 1) := by decide +kernel
theorem dX9_heaps_24 : decode cX9_heaps 24 = .ok (.invokevirtual 107, 3) := by decide +kernel
theorem dX9_heaps_27 : decode cX9_heaps 27 = .ok (.iconst 0, 1) := by decide +kernel
theorem dX9_heaps_28 : decode cX9_heaps 28 = .ok (.istore_n 2, 1) := by decide +kernel
theorem dX9_heaps_29 : decode cX9_heaps 29 = .ok (.iconst 0, 1) := by decide +kernel
theorem dX9_heaps_30 : decode cX9_heaps 30 = .ok (.istore_n 3, 1) := by decide +kernel
theorem dX9_heaps_31 : decode cX9_heaps 31 = .ok (.iconst 0, 1) := by decide +kernel
theorem dX9_heaps_32 : decode cX9_heaps 32 = .ok (.istore 4, 2) := by decide +kernel
theorem dX9_heaps_34 : decode cX9_heaps 34 = .ok (.iconst 0, 1) := by decide +kernel
theorem dX9_heaps_35 : decode cX9_heaps 35 = .ok (.istore 5, 2) := by decide +kernel
theorem dX9_heaps_37 : decode cX9_heaps 37 = .ok (.iload 5, 2) := by decide +kernel
theorem dX9_heaps_39 : decode cX9_heaps 39 = .ok (.aload_n 0, 1) := by decide +kernel
theorem dX9_heaps_40 : decode cX9_heaps 40 = .ok (.invokevirtual 98, 3) := by decide +kernel
theorem dX9_heaps_43 : decode cX9_heaps 43 = .ok (.if_icmp .ge 60, 3) := by decide +kernel
theorem dX9_heaps_46 : decode cX9_heaps 46 = .ok (.aload_n 0, 1) := by decide +kernel
theorem dX9_heaps_47 : decode cX9_heaps 47 = .ok (.getfield 30, 3) := by decide +kernel
theorem dX9_heaps_50 : decode cX9_heaps 50 = .ok (.iload 5, 2) := by decide +kernel
theorem dX9_heaps_52 : decode cX9_heaps 52 = .ok (.iaload, 1) := by decide +kernel
theorem dX9_heaps_53 : decode cX9_heaps 53 = .ok (.ifCond .ge 44, 3) := by decide +kernel
theorem dX9_heaps_56 : decode cX9_heaps 56 = .ok (.aload_n 0, 1) := by decide +kernel
theorem dX9_heaps_57 : decode cX9_heaps 57 = .ok (.iload 5, 2) := by decide +kernel
theorem dX9_heaps_59 : decode cX9_heaps 59 = .ok (.invokevirtual 104, 3) := by decide +kernel
theorem dX9_heaps_62 : decode cX9_heaps 62 = .ok (.ifCond .eq 35, 3) := by decide +kernel
theorem dX9_heaps_65 : decode cX9_heaps 65 = .ok (.aload_n 0, 1) := by decide +kernel
theorem dX9_heaps_66 : decode cX9_heaps 66 = .ok (.iload 5, 2) := by decide +kernel
theorem dX9_heaps_68 : decode cX9_heaps 68 = .ok (.invokevirtual 110, 3) := by decide +kernel
theorem dX9_heaps_71 : decode cX9_heaps 71 = .ok (.istore 6, 2) := by decide +kernel
theorem dX9_heaps_73 : decode cX9_heaps 73 = .ok (.iinc 2 1, 3) := by decide +kernel
theorem dX9_heaps_76 : decode cX9_heaps 76 = .ok (.iload_n 3, 1) := by decide +kernel
theorem dX9_heaps_77 : decode cX9_heaps 77 = .ok (.iload 6, 2) := by decide +kernel
theorem dX9_heaps_79 : decode cX9_heaps 79 = .ok (.iconst 1, 1) := by decide +kernel
theorem dX9_heaps_80 : decode cX9_heaps 80 = .ok (.if_icmp .ne 7, 3) := by decide +kernel
theorem dX9_heaps_83 : decode cX9_heaps 83 = .ok (.iconst 1, 1) := by decide +kernel
theorem dX9_heaps_84 : decode cX9_heaps 84 = .ok (.goto 4, 3) := by decide +kernel
theorem dX9_heaps_87 : decode cX9_heaps 87 = .ok (.iconst 0, 1) := by decide +kernel
theorem dX9_heaps_88 : decode cX9_heaps 88 = .ok (.iadd, 1) := by decide +kernel
theorem dX9_heaps_89 : decode cX9_heaps 89 = .ok (.istore_n 3, 1) := by decide +kernel
theorem dX9_heaps_90 : decode cX9_heaps 90 = .ok (.iload 4, 2) := by decide +kernel
theorem dX9_heaps_92 : decode cX9_heaps 92 = .ok (.iload 6, 2) := by decide +kernel
theorem dX9_heaps_94 : decode cX9_heaps 94 = .ok (.iadd, 1) := by decide +kernel
theorem dX9_heaps_95 : decode cX9_heaps 95 = .ok (.istore 4, 2) := by decide +kernel
theorem dX9_heaps_97 : decode cX9_heaps 97 = .ok (.iinc 5 1, 3) := by decide +kernel
theorem dX9_heaps_100 : decode cX9_heaps 100 = .ok (.goto (-63), 3) := by decide +kernel
theorem dX9_heaps_103 : decode cX9_heaps 103 = .ok (.iload_n 1, 1) := by decide +kernel
theorem dX9_heaps_104 : decode cX9_heaps 104 = .ok (.ifCond .ne 8, 3) := by decide +kernel
theorem dX9_heaps_107 : decode cX9_heaps 107 = .ok (.iload 4, 2) := by decide +kernel
theorem dX9_heaps_109 : decode cX9_heaps 109 = .ok (.goto 13, 3) := by decide +kernel
theorem dX9_heaps_112 : decode cX9_heaps 112 = .ok (.iload_n 1, 1) := by decide +kernel
theorem dX9_heaps_113 : decode cX9_heaps 113 = .ok (.iconst 1, 1) := by decide +kernel
theorem dX9_heaps_114 : decode cX9_heaps 114 = .ok (.if_icmp .ne 7, 3) := by decide +kernel
theorem dX9_heaps_117 : decode cX9_heaps 117 = .ok (.iload_n 3, 1) := by decide +kernel
theorem dX9_heaps_118 : decode cX9_heaps 118 = .ok (.goto 4, 3) := by decide +kernel
theorem dX9_heaps_121 : decode cX9_heaps 121 = .ok (.iload_n 2, 1) := by decide +kernel
theorem dX9_heaps_122 : decode cX9_heaps 122 = .ok (.ireturn, 1) := by decide +kernel
set_option maxRecDepth 20000 in
theorem ggX9_told_X9_pairs : GoodIn wsX9_told wsX9_pairs := goodIn_r _ [9, 1, 10, 11, 12, 8, 13, 14, 15, 16, 17, 18, 19, 20, 21, 22, 23] (by decide +kernel) (by decide +kernel)
set_option maxRecDepth 20000 in
theorem gX9_told_X9_pairs : GoodIn wsX9_told (wsV RX9 58 RX9 yX9_pairs wsX9_pairs) := goodIn_app (goodIn_of _ (by decide +kernel)) ggX9_told_X9_pairs
theorem dX9_told_0 : decode cX9_told 0 = .ok (.iload_n 1, 1) := by decide +kernel
theorem dX9_told_1 : decode cX9_told 1 = .ok (.tableswitch 60 0 4 #[35, 40, 45, 50, 55], 35) := by decide +kernel
theorem dX9_told_36 : decode cX9_told 36 = .ok (.aload_n 0, 1) := by decide +kernel
theorem dX9_told_37 : decode cX9_told 37 = .ok (.getfield 7, 3) := by decide +kernel
theorem dX9_told_40 : decode cX9_told 40 = .ok (.ireturn, 1) := by decide +kernel
theorem dX9_told_41 : decode cX9_told 41 = .ok (.aload_n 0, 1) := by decide +kernel
theorem dX9_told_42 : decode cX9_told 42 = .ok (.invokevirtual 58, 3) := by decide +kernel
theorem dX9_told_45 : decode cX9_told 45 = .ok (.ireturn, 1) := by decide +kernel
theorem dX9_told_46 : decode cX9_told 46 = .ok (.aload_n 0, 1) := by decide +kernel
theorem dX9_told_47 : decode cX9_told 47 = .ok (.getfield 36, 3) := by decide +kernel
theorem dX9_told_50 : decode cX9_told 50 = .ok (.ireturn, 1) := by decide +kernel
theorem dX9_told_51 : decode cX9_told 51 = .ok (.aload_n 0, 1) := by decide +kernel
theorem dX9_told_52 : decode cX9_told 52 = .ok (.getfield 17, 3) := by decide +kernel
theorem dX9_told_55 : decode cX9_told 55 = .ok (.ireturn, 1) := by decide +kernel
theorem dX9_told_56 : decode cX9_told 56 = .ok (.aload_n 0, 1) := by decide +kernel
theorem dX9_told_57 : decode cX9_told 57 = .ok (.getfield 20, 3) := by decide +kernel
theorem dX9_told_60 : decode cX9_told 60 = .ok (.ireturn, 1) := by decide +kernel
theorem dX9_told_61 : decode cX9_told 61 = .ok (.iconst (-1), 1) := by decide +kernel
theorem dX9_told_62 : decode cX9_told 62 = .ok (.ireturn, 1) := by decide +kernel
theorem dX9_trace_0 : decode cX9_trace 0 = .ok (.aload_n 0, 1) := by decide +kernel
theorem dX9_trace_1 : decode cX9_trace 1 = .ok (.getfield 72, 3) := by decide +kernel
theorem dX9_trace_4 : decode cX9_trace 4 = .ok (.lreturn, 1) := by decide +kernel
theorem dJ6_numberOfTrailingZeros_0f7a4_0 : decode cJ6_numberOfTrailingZeros_0f7a4 0 = .ok (.iload_n 0, 1) := by decide +kernel
theorem dJ6_numberOfTrailingZeros_0f7a4_1 : decode cJ6_numberOfTrailingZeros_0f7a4 1 = .ok (.iconst (-1), 1) := by decide +kernel
theorem dJ6_numberOfTrailingZeros_0f7a4_2 : decode cJ6_numberOfTrailingZeros_0f7a4 2 = .ok (.ixor, 1) := by decide +kernel
theorem dJ6_numberOfTrailingZeros_0f7a4_3 : decode cJ6_numberOfTrailingZeros_0f7a4 3 = .ok (.iload_n 0, 1) := by decide +kernel
theorem dJ6_numberOfTrailingZeros_0f7a4_4 : decode cJ6_numberOfTrailingZeros_0f7a4 4 = .ok (.iconst 1, 1) := by decide +kernel
theorem dJ6_numberOfTrailingZeros_0f7a4_5 : decode cJ6_numberOfTrailingZeros_0f7a4 5 = .ok (.isub, 1) := by decide +kernel
theorem dJ6_numberOfTrailingZeros_0f7a4_6 : decode cJ6_numberOfTrailingZeros_0f7a4 6 = .ok (.iand, 1) := by decide +kernel
theorem dJ6_numberOfTrailingZeros_0f7a4_7 : decode cJ6_numberOfTrailingZeros_0f7a4 7 = .ok (.istore_n 0, 1) := by decide +kernel
theorem dJ6_numberOfTrailingZeros_0f7a4_8 : decode cJ6_numberOfTrailingZeros_0f7a4 8 = .ok (.iload_n 0, 1) := by decide +kernel
theorem dJ6_numberOfTrailingZeros_0f7a4_9 : decode cJ6_numberOfTrailingZeros_0f7a4 9 = .ok (.ifCond .gt 8, 3) := by decide +kernel
theorem dJ6_numberOfTrailingZeros_0f7a4_12 : decode cJ6_numberOfTrailingZeros_0f7a4 12 = .ok (.iload_n 0, 1) := by decide +kernel
theorem dJ6_numberOfTrailingZeros_0f7a4_13 : decode cJ6_numberOfTrailingZeros_0f7a4 13 = .ok (.bipush 32, 2) := by decide +kernel
theorem dJ6_numberOfTrailingZeros_0f7a4_15 : decode cJ6_numberOfTrailingZeros_0f7a4 15 = .ok (.iand, 1) := by decide +kernel
theorem dJ6_numberOfTrailingZeros_0f7a4_16 : decode cJ6_numberOfTrailingZeros_0f7a4 16 = .ok (.ireturn, 1) := by decide +kernel
theorem dJ6_numberOfTrailingZeros_0f7a4_17 : decode cJ6_numberOfTrailingZeros_0f7a4 17 = .ok (.iconst 1, 1) := by decide +kernel
theorem dJ6_numberOfTrailingZeros_0f7a4_18 : decode cJ6_numberOfTrailingZeros_0f7a4 18 = .ok (.istore_n 1, 1) := by decide +kernel
theorem dJ6_numberOfTrailingZeros_0f7a4_19 : decode cJ6_numberOfTrailingZeros_0f7a4 19 = .ok (.iload_n 0, 1) := by decide +kernel
theorem dJ6_numberOfTrailingZeros_0f7a4_20 : decode cJ6_numberOfTrailingZeros_0f7a4 20 = .ok (.ldc_w 264, 3) := by decide +kernel
theorem dJ6_numberOfTrailingZeros_0f7a4_23 : decode cJ6_numberOfTrailingZeros_0f7a4 23 = .ok (.if_icmp .le 11, 3) := by decide +kernel
theorem dJ6_numberOfTrailingZeros_0f7a4_26 : decode cJ6_numberOfTrailingZeros_0f7a4 26 = .ok (.iinc 1 16, 3) := by decide +kernel
theorem dJ6_numberOfTrailingZeros_0f7a4_29 : decode cJ6_numberOfTrailingZeros_0f7a4 29 = .ok (.iload_n 0, 1) := by decide +kernel
theorem dJ6_numberOfTrailingZeros_0f7a4_30 : decode cJ6_numberOfTrailingZeros_0f7a4 30 = .ok (.bipush 16, 2) := by decide +kernel
theorem dJ6_numberOfTrailingZeros_0f7a4_32 : decode cJ6_numberOfTrailingZeros_0f7a4 32 = .ok (.iushr, 1) := by decide +kernel
theorem dJ6_numberOfTrailingZeros_0f7a4_33 : decode cJ6_numberOfTrailingZeros_0f7a4 33 = .ok (.istore_n 0, 1) := by decide +kernel
theorem dJ6_numberOfTrailingZeros_0f7a4_34 : decode cJ6_numberOfTrailingZeros_0f7a4 34 = .ok (.iload_n 0, 1) := by decide +kernel
theorem dJ6_numberOfTrailingZeros_0f7a4_35 : decode cJ6_numberOfTrailingZeros_0f7a4 35 = .ok (.sipush 256, 3) := by decide +kernel
theorem dJ6_numberOfTrailingZeros_0f7a4_38 : decode cJ6_numberOfTrailingZeros_0f7a4 38 = .ok (.if_icmp .le 11, 3) := by decide +kernel
theorem dJ6_numberOfTrailingZeros_0f7a4_41 : decode cJ6_numberOfTrailingZeros_0f7a4 41 = .ok (.iinc 1 8, 3) := by decide +kernel
theorem dJ6_numberOfTrailingZeros_0f7a4_44 : decode cJ6_numberOfTrailingZeros_0f7a4 44 = .ok (.iload_n 0, 1) := by decide +kernel
theorem dJ6_numberOfTrailingZeros_0f7a4_45 : decode cJ6_numberOfTrailingZeros_0f7a4 45 = .ok (.bipush 8, 2) := by decide +kernel
theorem dJ6_numberOfTrailingZeros_0f7a4_47 : decode cJ6_numberOfTrailingZeros_0f7a4 47 = .ok (.iushr, 1) := by decide +kernel
theorem dJ6_numberOfTrailingZeros_0f7a4_48 : decode cJ6_numberOfTrailingZeros_0f7a4 48 = .ok (.istore_n 0, 1) := by decide +kernel
theorem dJ6_numberOfTrailingZeros_0f7a4_49 : decode cJ6_numberOfTrailingZeros_0f7a4 49 = .ok (.iload_n 0, 1) := by decide +kernel
theorem dJ6_numberOfTrailingZeros_0f7a4_50 : decode cJ6_numberOfTrailingZeros_0f7a4 50 = .ok (.bipush 16, 2) := by decide +kernel
theorem dJ6_numberOfTrailingZeros_0f7a4_52 : decode cJ6_numberOfTrailingZeros_0f7a4 52 = .ok (.if_icmp .le 10, 3) := by decide +kernel
theorem dJ6_numberOfTrailingZeros_0f7a4_55 : decode cJ6_numberOfTrailingZeros_0f7a4 55 = .ok (.iinc 1 4, 3) := by decide +kernel
theorem dJ6_numberOfTrailingZeros_0f7a4_58 : decode cJ6_numberOfTrailingZeros_0f7a4 58 = .ok (.iload_n 0, 1) := by decide +kernel
theorem dJ6_numberOfTrailingZeros_0f7a4_59 : decode cJ6_numberOfTrailingZeros_0f7a4 59 = .ok (.iconst 4, 1) := by decide +kernel
theorem dJ6_numberOfTrailingZeros_0f7a4_60 : decode cJ6_numberOfTrailingZeros_0f7a4 60 = .ok (.iushr, 1) := by decide +kernel
theorem dJ6_numberOfTrailingZeros_0f7a4_61 : decode cJ6_numberOfTrailingZeros_0f7a4 61 = .ok (.istore_n 0, 1) := by decide +kernel
theorem dJ6_numberOfTrailingZeros_0f7a4_62 : decode cJ6_numberOfTrailingZeros_0f7a4 62 = .ok (.iload_n 0, 1) := by decide +kernel
theorem dJ6_numberOfTrailingZeros_0f7a4_63 : decode cJ6_numberOfTrailingZeros_0f7a4 63 = .ok (.iconst 4, 1) := by decide +kernel
theorem dJ6_numberOfTrailingZeros_0f7a4_64 : decode cJ6_numberOfTrailingZeros_0f7a4 64 = .ok (.if_icmp .le 10, 3) := by decide +kernel
theorem dJ6_numberOfTrailingZeros_0f7a4_67 : decode cJ6_numberOfTrailingZeros_0f7a4 67 = .ok (.iinc 1 2, 3) := by decide +kernel
theorem dJ6_numberOfTrailingZeros_0f7a4_70 : decode cJ6_numberOfTrailingZeros_0f7a4 70 = .ok (.iload_n 0, 1) := by decide +kernel
theorem dJ6_numberOfTrailingZeros_0f7a4_71 : decode cJ6_numberOfTrailingZeros_0f7a4 71 = .ok (.iconst 2, 1) := by decide +kernel
theorem dJ6_numberOfTrailingZeros_0f7a4_72 : decode cJ6_numberOfTrailingZeros_0f7a4 72 = .ok (.iushr, 1) := by decide +kernel
theorem dJ6_numberOfTrailingZeros_0f7a4_73 : decode cJ6_numberOfTrailingZeros_0f7a4 73 = .ok (.istore_n 0, 1) := by decide +kernel
theorem dJ6_numberOfTrailingZeros_0f7a4_74 : decode cJ6_numberOfTrailingZeros_0f7a4 74 = .ok (.iload_n 1, 1) := by decide +kernel
theorem dJ6_numberOfTrailingZeros_0f7a4_75 : decode cJ6_numberOfTrailingZeros_0f7a4 75 = .ok (.iload_n 0, 1) := by decide +kernel
theorem dJ6_numberOfTrailingZeros_0f7a4_76 : decode cJ6_numberOfTrailingZeros_0f7a4 76 = .ok (.iconst 1, 1) := by decide +kernel
theorem dJ6_numberOfTrailingZeros_0f7a4_77 : decode cJ6_numberOfTrailingZeros_0f7a4 77 = .ok (.iushr, 1) := by decide +kernel
theorem dJ6_numberOfTrailingZeros_0f7a4_78 : decode cJ6_numberOfTrailingZeros_0f7a4 78 = .ok (.iadd, 1) := by decide +kernel
theorem dJ6_numberOfTrailingZeros_0f7a4_79 : decode cJ6_numberOfTrailingZeros_0f7a4 79 = .ok (.ireturn, 1) := by decide +kernel
theorem dJ6_bitCount_0f7a4_0 : decode cJ6_bitCount_0f7a4 0 = .ok (.iload_n 0, 1) := by decide +kernel
theorem dJ6_bitCount_0f7a4_1 : decode cJ6_bitCount_0f7a4 1 = .ok (.iload_n 0, 1) := by decide +kernel
theorem dJ6_bitCount_0f7a4_2 : decode cJ6_bitCount_0f7a4 2 = .ok (.iconst 1, 1) := by decide +kernel
theorem dJ6_bitCount_0f7a4_3 : decode cJ6_bitCount_0f7a4 3 = .ok (.iushr, 1) := by decide +kernel
theorem dJ6_bitCount_0f7a4_4 : decode cJ6_bitCount_0f7a4 4 = .ok (.ldc_w 265, 3) := by decide +kernel
theorem dJ6_bitCount_0f7a4_7 : decode cJ6_bitCount_0f7a4 7 = .ok (.iand, 1) := by decide +kernel
theorem dJ6_bitCount_0f7a4_8 : decode cJ6_bitCount_0f7a4 8 = .ok (.isub, 1) := by decide +kernel
theorem dJ6_bitCount_0f7a4_9 : decode cJ6_bitCount_0f7a4 9 = .ok (.istore_n 0, 1) := by decide +kernel
theorem dJ6_bitCount_0f7a4_10 : decode cJ6_bitCount_0f7a4 10 = .ok (.iload_n 0, 1) := by decide +kernel
theorem dJ6_bitCount_0f7a4_11 : decode cJ6_bitCount_0f7a4 11 = .ok (.ldc_w 266, 3) := by decide +kernel
theorem dJ6_bitCount_0f7a4_14 : decode cJ6_bitCount_0f7a4 14 = .ok (.iand, 1) := by decide +kernel
theorem dJ6_bitCount_0f7a4_15 : decode cJ6_bitCount_0f7a4 15 = .ok (.iload_n 0, 1) := by decide +kernel
theorem dJ6_bitCount_0f7a4_16 : decode cJ6_bitCount_0f7a4 16 = .ok (.iconst 2, 1) := by decide +kernel
theorem dJ6_bitCount_0f7a4_17 : decode cJ6_bitCount_0f7a4 17 = .ok (.iushr, 1) := by decide +kernel
theorem dJ6_bitCount_0f7a4_18 : decode cJ6_bitCount_0f7a4 18 = .ok (.ldc_w 266, 3) := by decide +kernel
theorem dJ6_bitCount_0f7a4_21 : decode cJ6_bitCount_0f7a4 21 = .ok (.iand, 1) := by decide +kernel
theorem dJ6_bitCount_0f7a4_22 : decode cJ6_bitCount_0f7a4 22 = .ok (.iadd, 1) := by decide +kernel
theorem dJ6_bitCount_0f7a4_23 : decode cJ6_bitCount_0f7a4 23 = .ok (.istore_n 0, 1) := by decide +kernel
theorem dJ6_bitCount_0f7a4_24 : decode cJ6_bitCount_0f7a4 24 = .ok (.iload_n 0, 1) := by decide +kernel
theorem dJ6_bitCount_0f7a4_25 : decode cJ6_bitCount_0f7a4 25 = .ok (.iload_n 0, 1) := by decide +kernel
theorem dJ6_bitCount_0f7a4_26 : decode cJ6_bitCount_0f7a4 26 = .ok (.iconst 4, 1) := by decide +kernel
theorem dJ6_bitCount_0f7a4_27 : decode cJ6_bitCount_0f7a4 27 = .ok (.iushr, 1) := by decide +kernel
theorem dJ6_bitCount_0f7a4_28 : decode cJ6_bitCount_0f7a4 28 = .ok (.iadd, 1) := by decide +kernel
theorem dJ6_bitCount_0f7a4_29 : decode cJ6_bitCount_0f7a4 29 = .ok (.ldc_w 267, 3) := by decide +kernel
theorem dJ6_bitCount_0f7a4_32 : decode cJ6_bitCount_0f7a4 32 = .ok (.iand, 1) := by decide +kernel
theorem dJ6_bitCount_0f7a4_33 : decode cJ6_bitCount_0f7a4 33 = .ok (.istore_n 0, 1) := by decide +kernel
theorem dJ6_bitCount_0f7a4_34 : decode cJ6_bitCount_0f7a4 34 = .ok (.iload_n 0, 1) := by decide +kernel
theorem dJ6_bitCount_0f7a4_35 : decode cJ6_bitCount_0f7a4 35 = .ok (.iload_n 0, 1) := by decide +kernel
theorem dJ6_bitCount_0f7a4_36 : decode cJ6_bitCount_0f7a4 36 = .ok (.bipush 8, 2) := by decide +kernel
theorem dJ6_bitCount_0f7a4_38 : decode cJ6_bitCount_0f7a4 38 = .ok (.iushr, 1) := by decide +kernel
theorem dJ6_bitCount_0f7a4_39 : decode cJ6_bitCount_0f7a4 39 = .ok (.iadd, 1) := by decide +kernel
theorem dJ6_bitCount_0f7a4_40 : decode cJ6_bitCount_0f7a4 40 = .ok (.istore_n 0, 1) := by decide +kernel
theorem dJ6_bitCount_0f7a4_41 : decode cJ6_bitCount_0f7a4 41 = .ok (.iload_n 0, 1) := by decide +kernel
theorem dJ6_bitCount_0f7a4_42 : decode cJ6_bitCount_0f7a4 42 = .ok (.iload_n 0, 1) := by decide +kernel
theorem dJ6_bitCount_0f7a4_43 : decode cJ6_bitCount_0f7a4 43 = .ok (.bipush 16, 2) := by decide +kernel
theorem dJ6_bitCount_0f7a4_45 : decode cJ6_bitCount_0f7a4 45 = .ok (.iushr, 1) := by decide +kernel
theorem dJ6_bitCount_0f7a4_46 : decode cJ6_bitCount_0f7a4 46 = .ok (.iadd, 1) := by decide +kernel
theorem dJ6_bitCount_0f7a4_47 : decode cJ6_bitCount_0f7a4 47 = .ok (.istore_n 0, 1) := by decide +kernel
theorem dJ6_bitCount_0f7a4_48 : decode cJ6_bitCount_0f7a4 48 = .ok (.iload_n 0, 1) := by decide +kernel
theorem dJ6_bitCount_0f7a4_49 : decode cJ6_bitCount_0f7a4 49 = .ok (.bipush 63, 2) := by decide +kernel
theorem dJ6_bitCount_0f7a4_51 : decode cJ6_bitCount_0f7a4 51 = .ok (.iand, 1) := by decide +kernel
theorem dJ6_bitCount_0f7a4_52 : decode cJ6_bitCount_0f7a4 52 = .ok (.ireturn, 1) := by decide +kernel
theorem dJ9_min_7cf53_0 : decode cJ9_min_7cf53 0 = .ok (.iload_n 0, 1) := by decide +kernel
theorem dJ9_min_7cf53_1 : decode cJ9_min_7cf53 1 = .ok (.iload_n 1, 1) := by decide +kernel
theorem dJ9_min_7cf53_2 : decode cJ9_min_7cf53 2 = .ok (.if_icmp .gt 7, 3) := by decide +kernel
theorem dJ9_min_7cf53_5 : decode cJ9_min_7cf53 5 = .ok (.iload_n 0, 1) := by decide +kernel
theorem dJ9_min_7cf53_6 : decode cJ9_min_7cf53 6 = .ok (.goto 4, 3) := by decide +kernel
theorem dJ9_min_7cf53_9 : decode cJ9_min_7cf53 9 = .ok (.iload_n 1, 1) := by decide +kernel
theorem dJ9_min_7cf53_10 : decode cJ9_min_7cf53 10 = .ok (.ireturn, 1) := by decide +kernel
theorem dJ7_fill_53178_0 : decode cJ7_fill_53178 0 = .ok (.iconst 0, 1) := by decide +kernel
theorem dJ7_fill_53178_1 : decode cJ7_fill_53178 1 = .ok (.istore_n 2, 1) := by decide +kernel
theorem dJ7_fill_53178_2 : decode cJ7_fill_53178 2 = .ok (.aload_n 0, 1) := by decide +kernel
theorem dJ7_fill_53178_3 : decode cJ7_fill_53178 3 = .ok (.arraylength, 1) := by decide +kernel
theorem dJ7_fill_53178_4 : decode cJ7_fill_53178 4 = .ok (.istore_n 3, 1) := by decide +kernel
theorem dJ7_fill_53178_5 : decode cJ7_fill_53178 5 = .ok (.iload_n 2, 1) := by decide +kernel
theorem dJ7_fill_53178_6 : decode cJ7_fill_53178 6 = .ok (.iload_n 3, 1) := by decide +kernel
theorem dJ7_fill_53178_7 : decode cJ7_fill_53178 7 = .ok (.if_icmp .ge 13, 3) := by decide +kernel
theorem dJ7_fill_53178_10 : decode cJ7_fill_53178 10 = .ok (.aload_n 0, 1) := by decide +kernel
theorem dJ7_fill_53178_11 : decode cJ7_fill_53178 11 = .ok (.iload_n 2, 1) := by decide +kernel
theorem dJ7_fill_53178_12 : decode cJ7_fill_53178 12 = .ok (.iload_n 1, 1) := by decide +kernel
theorem dJ7_fill_53178_13 : decode cJ7_fill_53178 13 = .ok (.iastore, 1) := by decide +kernel
theorem dJ7_fill_53178_14 : decode cJ7_fill_53178 14 = .ok (.iinc 2 1, 3) := by decide +kernel
theorem dJ7_fill_53178_17 : decode cJ7_fill_53178 17 = .ok (.goto (-12), 3) := by decide +kernel
theorem dJ7_fill_53178_20 : decode cJ7_fill_53178 20 = .ok (.return_, 1) := by decide +kernel
set_option maxRecDepth 20000 in
theorem ggL_law_X8_init : GoodIn wsL_law wsX8_init := goodIn_r _ [8, 9, 10, 11, 12, 13, 14, 15, 16, 17, 18, 19, 20, 21, 22, 23, 24, 25, 26, 27, 28, 29, 30, 31, 32, 33, 34, 35, 36, 37, 38, 39, 40, 41, 42, 43, 44, 45, 46, 47, 48, 49, 50, 51, 52, 53, 54, 55, 56, 57, 58, 59, 60, 61, 62, 63, 64, 65, 66, 67, 68, 69, 70, 71, 72, 73, 74, 75, 76, 77, 78, 79, 80, 583, 584, 565, 566, 567, 568, 569, 570, 571, 572, 585, 586, 587, 588, 589, 590, 591, 592, 593, 594, 595, 596, 597, 598, 599, 600, 601, 602] (by decide +kernel) (by decide +kernel)
set_option maxRecDepth 20000 in
theorem gL_law_X8_init : GoodIn wsL_law (wsX8_init) := ggL_law_X8_init
set_option maxRecDepth 20000 in
theorem ggL_law_X9_init : GoodIn wsL_law wsX9_init := goodIn_r _ [83, 84, 10, 11, 85, 44, 86, 87, 88, 89, 90, 91, 92, 93, 94, 573, 574, 575, 576, 577, 578, 579, 580, 581, 582] (by decide +kernel) (by decide +kernel)
set_option maxRecDepth 20000 in
theorem gL_law_X9_init : GoodIn wsL_law (wsX9_init) := ggL_law_X9_init
set_option maxRecDepth 20000 in
theorem ggL_law_X8_net : GoodIn wsL_law wsX8_net := goodIn_r _ [98, 15, 99, 100, 101, 2, 102, 103, 104, 105, 14, 106, 45, 46, 107, 108, 109, 110, 565, 566, 567, 568, 569, 570, 571, 572, 583, 584] (by decide +kernel) (by decide +kernel)
set_option maxRecDepth 20000 in
theorem gL_law_X8_net : GoodIn wsL_law (wsV RL 13 RX8 yX8_net wsX8_net) := goodIn_app (goodIn_of _ (by decide +kernel)) ggL_law_X8_net
set_option maxRecDepth 20000 in
theorem ggL_law_X9_net : GoodIn wsL_law wsX9_net := goodIn_r _ [114, 85, 115, 116, 5, 117, 118, 119, 120, 121, 86, 573, 574, 575, 576, 577, 578, 579, 580, 581, 582] (by decide +kernel) (by decide +kernel)
set_option maxRecDepth 20000 in
theorem gL_law_X9_net : GoodIn wsL_law (wsV RL 17 RX9 yX9_net wsX9_net) := goodIn_app (goodIn_of _ (by decide +kernel)) ggL_law_X9_net
set_option maxRecDepth 20000 in
theorem ggL_law_X8_join : GoodIn wsL_law wsX8_join := goodIn_r _ [125, 15, 126, 127, 128, 14, 129, 46, 100, 101, 2, 102, 130, 131, 132, 133, 45, 134, 135, 136, 137, 138, 139, 140, 141, 565, 566, 567, 568, 569, 570, 571, 572, 583, 584] (by decide +kernel) (by decide +kernel)
set_option maxRecDepth 20000 in
theorem gL_law_X8_join : GoodIn wsL_law (wsV RL 18 RX8 yX8_join wsX8_join) := goodIn_app (goodIn_of _ (by decide +kernel)) ggL_law_X8_join
set_option maxRecDepth 20000 in
theorem ggL_law_X9_join : GoodIn wsL_law wsX9_join := goodIn_r _ [145, 86, 146, 147, 148, 5, 149, 85, 115, 116, 117, 150, 151, 152, 153, 573, 574, 575, 576, 577, 578, 579, 580, 581, 582] (by decide +kernel) (by decide +kernel)
set_option maxRecDepth 20000 in
theorem gL_law_X9_join : GoodIn wsL_law (wsV RL 22 RX9 yX9_join wsX9_join) := goodIn_app (goodIn_of _ (by decide +kernel)) ggL_law_X9_join
set_option maxRecDepth 20000 in
theorem ggL_law_X8_shape : GoodIn wsL_law wsX8_shape := goodIn_r _ [157, 15, 100, 101, 2, 102, 158, 159, 160, 14, 161, 46, 162, 104, 105, 106, 45, 107, 108, 109, 110, 163, 164, 165, 166, 167, 139, 140, 141, 134, 127, 128, 129, 168, 169, 170, 171, 172, 173, 174, 175, 176, 177, 178, 565, 566, 567, 568, 569, 570, 571, 572, 583, 584] (by decide +kernel) (by decide +kernel)
set_option maxRecDepth 20000 in
theorem gL_law_X8_shape : GoodIn wsL_law (wsV RL 23 RX8 yX8_shape wsX8_shape) := goodIn_app (goodIn_of _ (by decide +kernel)) ggL_law_X8_shape
set_option maxRecDepth 20000 in
theorem ggL_law_X9_shape : GoodIn wsL_law wsX9_shape := goodIn_r _ [182, 85, 115, 116, 5, 117, 118, 119, 120, 121, 86, 150, 151, 152, 153, 183, 184, 185, 186, 187, 188, 189, 573, 574, 575, 576, 577, 578, 579, 580, 581, 582] (by decide +kernel) (by decide +kernel)
set_option maxRecDepth 20000 in
theorem gL_law_X9_shape : GoodIn wsL_law (wsV RL 26 RX9 yX9_shape wsX9_shape) := goodIn_app (goodIn_of _ (by decide +kernel)) ggL_law_X9_shape
set_option maxRecDepth 20000 in
theorem ggL_law_X8_set : GoodIn wsL_law wsX8_set := goodIn_r _ [193, 40, 39, 38, 100, 101, 2, 102, 565, 566, 567, 568, 569, 570, 571, 572] (by decide +kernel) (by decide +kernel)
set_option maxRecDepth 20000 in
theorem gL_law_X8_set : GoodIn wsL_law (wsV RL 27 RX8 yX8_set wsX8_set) := goodIn_app (goodIn_of _ (by decide +kernel)) ggL_law_X8_set
set_option maxRecDepth 20000 in
theorem ggL_law_X9_set : GoodIn wsL_law wsX9_set := goodIn_r _ [197, 94, 87, 88, 115, 116, 5, 117, 573, 574, 575, 576, 577, 578, 579, 580, 581, 582] (by decide +kernel) (by decide +kernel)
set_option maxRecDepth 20000 in
theorem gL_law_X9_set : GoodIn wsL_law (wsV RL 31 RX9 yX9_set wsX9_set) := goodIn_app (goodIn_of _ (by decide +kernel)) ggL_law_X9_set
set_option maxRecDepth 20000 in
theorem ggL_law_X8_lawful : GoodIn wsL_law wsX8_lawful := goodIn_r _ [201, 15, 202, 203, 2, 204, 100, 101, 102, 205, 206, 207, 14, 208, 209, 210, 211, 212, 46, 213, 214, 215, 216, 217, 218, 219, 220, 45, 221, 222, 223, 224, 135, 136, 137, 565, 566, 567, 568, 569, 570, 571, 572, 583, 584] (by decide +kernel) (by decide +kernel)
set_option maxRecDepth 20000 in
theorem gL_law_X8_lawful : GoodIn wsL_law (wsV RL 32 RX8 yX8_lawful wsX8_lawful) := goodIn_app (goodIn_of _ (by decide +kernel)) ggL_law_X8_lawful
set_option maxRecDepth 20000 in
theorem ggL_law_X9_lawful : GoodIn wsL_law wsX9_lawful := goodIn_r _ [228, 229, 230, 5, 231, 115, 116, 117, 232, 233, 234, 235, 85, 236, 237, 238, 239, 86, 573, 574, 575, 576, 577, 578, 579, 580, 581, 582] (by decide +kernel) (by decide +kernel)
set_option maxRecDepth 20000 in
theorem gL_law_X9_lawful : GoodIn wsL_law (wsV RL 35 RX9 yX9_lawful wsX9_lawful) := goodIn_app (goodIn_of _ (by decide +kernel)) ggL_law_X9_lawful
set_option maxRecDepth 20000 in
theorem ggL_law_X8_count : GoodIn wsL_law wsX8_count := goodIn_r _ [243, 15, 99, 202, 203, 2, 204, 100, 101, 102, 244, 210, 211, 14, 212, 46, 245, 173, 174, 175, 176, 177, 178, 213, 214, 215, 216, 217, 218, 219, 220, 45, 209, 221, 222, 223, 224, 565, 566, 567, 568, 569, 570, 571, 572, 583, 584] (by decide +kernel) (by decide +kernel)
set_option maxRecDepth 20000 in
theorem gL_law_X8_count : GoodIn wsL_law (wsV RL 36 RX8 yX8_count wsX8_count) := goodIn_app (goodIn_of _ (by decide +kernel)) ggL_law_X8_count
set_option maxRecDepth 20000 in
theorem ggL_law_X9_count : GoodIn wsL_law wsX9_count := goodIn_r _ [249, 85, 229, 230, 5, 231, 115, 116, 117, 187, 188, 189, 236, 237, 238, 239, 86, 573, 574, 575, 576, 577, 578, 579, 580, 581, 582] (by decide +kernel) (by decide +kernel)
set_option maxRecDepth 20000 in
theorem gL_law_X9_count : GoodIn wsL_law (wsV RL 39 RX9 yX9_count wsX9_count) := goodIn_app (goodIn_of _ (by decide +kernel)) ggL_law_X9_count
set_option maxRecDepth 20000 in
theorem ggL_law_X8_weight : GoodIn wsL_law wsX8_weight := goodIn_r _ [253, 15, 33, 37, 254, 255, 2, 256, 100, 101, 102, 205, 206, 207, 14, 208, 209, 210, 211, 212, 46, 257, 258, 259, 260, 261, 32, 262, 263, 264, 265, 266, 267, 268, 29, 269, 270, 271, 272, 273, 274, 26, 275, 276, 277, 278, 279, 280, 173, 174, 175, 176, 177, 178, 281, 282, 283, 284, 285, 131, 132, 133, 45, 134, 127, 128, 129, 286, 287, 288, 289, 565, 566, 567, 568, 569, 570, 571, 572, 583, 584, 602] (by decide +kernel) (by decide +kernel)
set_option maxRecDepth 20000 in
theorem gL_law_X8_weight : GoodIn wsL_law (wsV RL 40 RX8 yX8_weight wsX8_weight) := goodIn_app (goodIn_of _ (by decide +kernel)) ggL_law_X8_weight
set_option maxRecDepth 20000 in
theorem ggL_law_X9_weight : GoodIn wsL_law wsX9_weight := goodIn_r _ [293, 294, 295, 296, 229, 230, 5, 231, 115, 116, 117, 232, 233, 234, 235, 85, 297, 298, 299, 300, 86, 187, 188, 189, 573, 574, 575, 576, 577, 578, 579, 580, 581, 582] (by decide +kernel) (by decide +kernel)
set_option maxRecDepth 20000 in
theorem gL_law_X9_weight : GoodIn wsL_law (wsV RL 43 RX9 yX9_weight wsX9_weight) := goodIn_app (goodIn_of _ (by decide +kernel)) ggL_law_X9_weight
set_option maxRecDepth 20000 in
theorem ggL_law_X8_walk : GoodIn wsL_law wsX8_walk := goodIn_r _ [304, 19, 202, 203, 2, 204, 100, 101, 102, 254, 255, 256, 305, 306, 307, 308, 15, 205, 206, 207, 14, 208, 209, 210, 211, 212, 46, 213, 214, 215, 216, 217, 218, 219, 220, 45, 221, 222, 223, 224, 309, 310, 311, 312, 38, 39, 313, 314, 315, 18, 316, 51, 52, 317, 318, 319, 320, 321, 322, 323, 324, 173, 174, 175, 176, 177, 178, 325, 326, 327, 328, 329, 55, 330, 61, 331, 332, 333, 334, 335, 59, 62, 60, 63, 336, 337, 338, 339, 340, 341, 342, 343, 344, 345, 346, 347, 348, 349, 350, 351, 352, 353, 354, 355, 356, 357, 358, 50, 359, 360, 361, 362, 363, 364, 365, 22, 366, 367, 368, 68, 369, 67, 370, 371, 372, 373, 374, 375, 376, 377, 378, 379, 380, 381, 382, 383, 384, 385, 386, 387, 388, 389, 390, 391, 392, 393, 394, 395, 396, 397, 398, 399, 400, 401, 402, 565, 566, 567, 568, 569, 570, 571, 572, 583, 584, 585, 586, 587, 588, 589, 590, 591, 592, 593, 594, 595, 596, 597, 598, 599, 600, 601] (by decide +kernel) (by decide +kernel)
set_option maxRecDepth 20000 in
theorem gL_law_X8_walk : GoodIn wsL_law (wsV RL 44 RX8 yX8_walk wsX8_walk) := goodIn_app (goodIn_of _ (by decide +kernel)) ggL_law_X8_walk
set_option maxRecDepth 20000 in
theorem ggL_law_X9_walk : GoodIn wsL_law wsX9_walk := goodIn_r _ [406, 89, 407, 85, 408, 409, 410, 5, 411, 229, 230, 231, 115, 116, 117, 232, 233, 234, 235, 236, 237, 238, 239, 86, 412, 413, 414, 415, 91, 416, 417, 418, 419, 420, 421, 422, 423, 94, 87, 187, 188, 189, 297, 298, 299, 300, 573, 574, 575, 576, 577, 578, 579, 580, 581, 582] (by decide +kernel) (by decide +kernel)
set_option maxRecDepth 20000 in
theorem gL_law_X9_walk : GoodIn wsL_law (wsV RL 48 RX9 yX9_walk wsX9_walk) := goodIn_app (goodIn_of _ (by decide +kernel)) ggL_law_X9_walk
set_option maxRecDepth 20000 in
theorem ggL_law_X8_reach : GoodIn wsL_law wsX8_reach := goodIn_r _ [427, 19, 428, 320, 202, 203, 2, 204, 100, 101, 102, 254, 255, 256, 305, 306, 307, 308, 15, 205, 206, 207, 14, 208, 209, 210, 211, 212, 46, 213, 214, 215, 216, 217, 218, 219, 220, 45, 221, 222, 223, 224, 309, 310, 311, 312, 38, 39, 313, 314, 315, 18, 316, 51, 52, 317, 318, 319, 321, 322, 323, 324, 173, 174, 175, 176, 177, 178, 325, 429, 430, 431, 334, 55, 335, 59, 61, 62, 60, 63, 336, 337, 338, 339, 340, 341, 342, 343, 344, 345, 346, 347, 348, 349, 350, 351, 352, 353, 354, 355, 356, 357, 358, 50, 359, 360, 361, 362, 363, 364, 365, 22, 366, 367, 368, 68, 369, 67, 370, 371, 372, 373, 374, 432, 433, 434, 435, 393, 394, 436, 437, 438, 439, 565, 566, 567, 568, 569, 570, 571, 572, 585, 586, 587, 588, 589, 590, 591, 592, 593, 594, 595, 596, 597, 598, 599, 600, 601, 583, 584] (by decide +kernel) (by decide +kernel)
set_option maxRecDepth 20000 in
theorem gL_law_X8_reach : GoodIn wsL_law (wsV RL 49 RX8 yX8_reach wsX8_reach) := goodIn_app (goodIn_of _ (by decide +kernel)) ggL_law_X8_reach
set_option maxRecDepth 20000 in
theorem ggL_law_X9_reach : GoodIn wsL_law wsX9_reach := goodIn_r _ [443, 85, 91, 89, 408, 409, 410, 5, 411, 229, 230, 231, 115, 116, 117, 232, 233, 234, 235, 236, 237, 238, 239, 86, 412, 413, 414, 415, 407, 416, 417, 418, 419, 420, 421, 422, 423, 94, 87, 187, 188, 189, 297, 298, 299, 300, 573, 574, 575, 576, 577, 578, 579, 580, 581, 582] (by decide +kernel) (by decide +kernel)
set_option maxRecDepth 20000 in
theorem gL_law_X9_reach : GoodIn wsL_law (wsV RL 53 RX9 yX9_reach wsX9_reach) := goodIn_app (goodIn_of _ (by decide +kernel)) ggL_law_X9_reach
set_option maxRecDepth 20000 in
theorem ggL_law_X8_parts : GoodIn wsL_law wsX8_parts := goodIn_r _ [447, 19, 15, 99, 202, 203, 2, 204, 100, 101, 102, 254, 255, 256, 309, 310, 311, 312, 38, 39, 313, 314, 315, 18, 316, 51, 52, 317, 318, 319, 320, 321, 322, 323, 210, 211, 14, 212, 46, 324, 173, 174, 175, 176, 177, 178, 325, 214, 215, 216, 217, 218, 219, 220, 45, 209, 221, 222, 223, 224, 448, 449, 450, 451, 55, 452, 58, 61, 331, 332, 333, 334, 335, 59, 62, 60, 63, 336, 337, 338, 339, 340, 341, 342, 343, 344, 345, 346, 347, 348, 349, 350, 351, 352, 353, 354, 355, 356, 357, 358, 50, 359, 360, 361, 362, 363, 364, 365, 22, 366, 367, 368, 68, 369, 67, 370, 371, 372, 373, 374, 375, 565, 566, 567, 568, 569, 570, 571, 572, 583, 584, 585, 586, 587, 588, 589, 590, 591, 592, 593, 594, 595, 596, 597, 598, 599, 600, 601] (by decide +kernel) (by decide +kernel)
set_option maxRecDepth 20000 in
theorem gL_law_X8_parts : GoodIn wsL_law (wsV RL 54 RX8 yX8_parts wsX8_parts) := goodIn_app (goodIn_of _ (by decide +kernel)) ggL_law_X8_parts
set_option maxRecDepth 20000 in
theorem ggL_law_X9_parts : GoodIn wsL_law wsX9_parts := goodIn_r _ [456, 85, 91, 229, 230, 5, 231, 115, 116, 117, 412, 413, 414, 415, 89, 407, 420, 421, 422, 423, 94, 87, 236, 237, 238, 239, 86, 187, 188, 189, 416, 417, 418, 419, 297, 298, 299, 300, 573, 574, 575, 576, 577, 578, 579, 580, 581, 582] (by decide +kernel) (by decide +kernel)
set_option maxRecDepth 20000 in
theorem gL_law_X9_parts : GoodIn wsL_law (wsV RL 57 RX9 yX9_parts wsX9_parts) := goodIn_app (goodIn_of _ (by decide +kernel)) ggL_law_X9_parts
set_option maxRecDepth 20000 in
theorem ggL_law_X8_proper : GoodIn wsL_law wsX8_proper := goodIn_r _ [460, 15, 99, 23, 40, 461, 462, 463, 22, 464, 68, 369, 465, 466, 467, 468, 469, 470, 471, 472, 135, 136, 2, 137, 565, 566, 567, 568, 569, 570, 571, 572, 583, 584, 594, 595, 596, 597, 598, 599, 600, 601] (by decide +kernel) (by decide +kernel)
set_option maxRecDepth 20000 in
theorem gL_law_X8_proper : GoodIn wsL_law (wsV RL 58 RX8 yX8_proper wsX8_proper) := goodIn_app (goodIn_of _ (by decide +kernel)) ggL_law_X8_proper
set_option maxRecDepth 20000 in
theorem ggL_law_X9_proper : GoodIn wsL_law wsX9_proper := goodIn_r _ [476, 85, 477, 478, 479, 5, 480, 88, 481, 482, 483, 484, 115, 116, 117, 485, 486, 487, 488, 86, 573, 574, 575, 576, 577, 578, 579, 580, 581, 582] (by decide +kernel) (by decide +kernel)
set_option maxRecDepth 20000 in
theorem gL_law_X9_proper : GoodIn wsL_law (wsV RL 61 RX9 yX9_proper wsX9_proper) := goodIn_app (goodIn_of _ (by decide +kernel)) ggL_law_X9_proper
set_option maxRecDepth 20000 in
theorem ggL_law_X8_shades : GoodIn wsL_law wsX8_shades := goodIn_r _ [492, 15, 99, 23, 40, 493, 494, 495, 22, 496, 497, 462, 463, 464, 68, 369, 465, 466, 467, 498, 469, 470, 471, 472, 499, 500, 501, 502, 67, 370, 371, 503, 504, 505, 506, 507, 508, 509, 510, 511, 512, 513, 514, 329, 55, 330, 61, 331, 332, 333, 334, 335, 59, 62, 60, 63, 336, 337, 338, 339, 340, 341, 342, 343, 344, 345, 18, 346, 347, 348, 52, 349, 51, 350, 351, 352, 353, 354, 323, 210, 211, 14, 212, 46, 355, 356, 357, 358, 321, 322, 50, 359, 360, 361, 362, 363, 364, 365, 366, 367, 368, 372, 373, 374, 375, 565, 566, 567, 568, 569, 570, 571, 572, 583, 584, 594, 595, 596, 597, 598, 599, 600, 601, 585, 586, 587, 588, 589, 590, 591, 592, 593] (by decide +kernel) (by decide +kernel)
set_option maxRecDepth 20000 in
theorem gL_law_X8_shades : GoodIn wsL_law (wsV RL 62 RX8 yX8_shades wsX8_shades) := goodIn_app (goodIn_of _ (by decide +kernel)) ggL_law_X8_shades
set_option maxRecDepth 20000 in
theorem ggL_law_X9_shades : GoodIn wsL_law wsX9_shades := goodIn_r _ [518, 85, 92, 485, 486, 487, 5, 488, 86, 477, 478, 479, 480, 88, 481, 482, 483, 484, 115, 116, 117, 519, 520, 521, 522, 523, 524, 525, 526, 93, 573, 574, 575, 576, 577, 578, 579, 580, 581, 582] (by decide +kernel) (by decide +kernel)
set_option maxRecDepth 20000 in
theorem gL_law_X9_shades : GoodIn wsL_law (wsV RL 65 RX9 yX9_shades wsX9_shades) := goodIn_app (goodIn_of _ (by decide +kernel)) ggL_law_X9_shades
set_option maxRecDepth 20000 in
theorem ggL_law_X8_heaps : GoodIn wsL_law wsX8_heaps := goodIn_r _ [530, 15, 99, 23, 40, 100, 101, 2, 102, 499, 500, 501, 22, 502, 67, 68, 369, 370, 371, 503, 504, 505, 506, 507, 508, 509, 510, 511, 494, 495, 496, 497, 462, 463, 464, 465, 466, 467, 498, 469, 470, 471, 472, 531, 532, 533, 534, 535, 536, 537, 538, 367, 368, 539, 365, 540, 366, 372, 373, 374, 362, 55, 363, 60, 63, 541, 542, 543, 451, 452, 58, 61, 331, 332, 333, 334, 335, 59, 62, 336, 337, 338, 339, 340, 341, 342, 343, 344, 345, 18, 346, 347, 348, 52, 349, 51, 350, 351, 352, 353, 354, 323, 210, 211, 14, 212, 46, 355, 356, 357, 358, 321, 322, 50, 359, 360, 361, 364, 375, 565, 566, 567, 568, 569, 570, 571, 572, 583, 584, 594, 595, 596, 597, 598, 599, 600, 601, 585, 586, 587, 588, 589, 590, 591, 592, 593] (by decide +kernel) (by decide +kernel)
set_option maxRecDepth 20000 in
theorem gL_law_X8_heaps : GoodIn wsL_law (wsV RL 66 RX8 yX8_heaps wsX8_heaps) := goodIn_app (goodIn_of _ (by decide +kernel)) ggL_law_X8_heaps
set_option maxRecDepth 20000 in
theorem ggL_law_X9_heaps : GoodIn wsL_law wsX9_heaps := goodIn_r _ [547, 85, 92, 115, 116, 5, 117, 519, 520, 521, 522, 481, 482, 483, 484, 485, 486, 487, 488, 86, 477, 478, 479, 480, 88, 523, 524, 525, 526, 93, 573, 574, 575, 576, 577, 578, 579, 580, 581, 582] (by decide +kernel) (by decide +kernel)
set_option maxRecDepth 20000 in
theorem gL_law_X9_heaps : GoodIn wsL_law (wsV RL 69 RX9 yX9_heaps wsX9_heaps) := goodIn_app (goodIn_of _ (by decide +kernel)) ggL_law_X9_heaps
set_option maxRecDepth 20000 in
theorem ggL_law_X8_told : GoodIn wsL_law wsX8_told := goodIn_r _ [551, 15, 99, 38, 39, 40, 168, 169, 170, 14, 171, 46, 45, 172, 173, 174, 175, 176, 177, 178, 565, 566, 567, 568, 569, 570, 571, 572, 583, 584] (by decide +kernel) (by decide +kernel)
set_option maxRecDepth 20000 in
theorem gL_law_X8_told : GoodIn wsL_law (wsV RL 70 RX8 yX8_told wsX8_told) := goodIn_app (goodIn_of _ (by decide +kernel)) ggL_law_X8_told
set_option maxRecDepth 20000 in
theorem ggL_law_X9_told : GoodIn wsL_law wsX9_told := goodIn_r _ [555, 85, 94, 87, 88, 183, 184, 185, 5, 186, 86, 187, 188, 189, 573, 574, 575, 576, 577, 578, 579, 580, 581, 582] (by decide +kernel) (by decide +kernel)
set_option maxRecDepth 20000 in
theorem gL_law_X9_told : GoodIn wsL_law (wsV RL 73 RX9 yX9_told wsX9_told) := goodIn_app (goodIn_of _ (by decide +kernel)) ggL_law_X9_told
set_option maxRecDepth 20000 in
theorem ggL_law_X8_trace : GoodIn wsL_law wsX8_trace := goodIn_r _ [559, 37, 560, 565, 566, 567, 568, 569, 570, 571, 572, 602] (by decide +kernel) (by decide +kernel)
set_option maxRecDepth 20000 in
theorem gL_law_X8_trace : GoodIn wsL_law (wsV RL 74 RX8 yX8_trace wsX8_trace) := goodIn_app (goodIn_of _ (by decide +kernel)) ggL_law_X8_trace
set_option maxRecDepth 20000 in
theorem ggL_law_X9_trace : GoodIn wsL_law wsX9_trace := goodIn_r _ [564, 294, 573, 574, 575, 576, 577, 578, 579, 580, 581, 582] (by decide +kernel) (by decide +kernel)
set_option maxRecDepth 20000 in
theorem gL_law_X9_trace : GoodIn wsL_law (wsV RL 78 RX9 yX9_trace wsX9_trace) := goodIn_app (goodIn_of _ (by decide +kernel)) ggL_law_X9_trace
theorem dL_law_0 : decode cL_law 0 = .ok (.new 7, 3) := by decide +kernel
theorem dL_law_3 : decode cL_law 3 = .ok (.dup, 1) := by decide +kernel
theorem dL_law_4 : decode cL_law 4 = .ok (.invokespecial 9, 3) := by decide +kernel
theorem dL_law_7 : decode cL_law 7 = .ok (.astore_n 1, 1) := by decide +kernel
theorem dL_law_8 : decode cL_law 8 = .ok (.new 10, 3) := by decide +kernel
theorem dL_law_11 : decode cL_law 11 = .ok (.dup, 1) := by decide +kernel
theorem dL_law_12 : decode cL_law 12 = .ok (.invokespecial 12, 3) := by decide +kernel
theorem dL_law_15 : decode cL_law 15 = .ok (.astore_n 2, 1) := by decide +kernel
theorem dL_law_16 : decode cL_law 16 = .ok (.iconst 0, 1) := by decide +kernel
theorem dL_law_17 : decode cL_law 17 = .ok (.istore_n 3, 1) := by decide +kernel
theorem dL_law_18 : decode cL_law 18 = .ok (.iload_n 3, 1) := by decide +kernel
theorem dL_law_19 : decode cL_law 19 = .ok (.aload_n 0, 1) := by decide +kernel
theorem dL_law_20 : decode cL_law 20 = .ok (.arraylength, 1) := by decide +kernel
theorem dL_law_21 : decode cL_law 21 = .ok (.bipush 6, 2) := by decide +kernel
theorem dL_law_23 : decode cL_law 23 = .ok (.isub, 1) := by decide +kernel
theorem dL_law_24 : decode cL_law 24 = .ok (.if_icmp .gt 596, 3) := by decide +kernel
theorem dL_law_27 : decode cL_law 27 = .ok (.aload_n 0, 1) := by decide +kernel
theorem dL_law_28 : decode cL_law 28 = .ok (.iload_n 3, 1) := by decide +kernel
theorem dL_law_29 : decode cL_law 29 = .ok (.iaload, 1) := by decide +kernel
theorem dL_law_30 : decode cL_law 30 = .ok (.bipush 15, 2) := by decide +kernel
theorem dL_law_32 : decode cL_law 32 = .ok (.iand, 1) := by decide +kernel
theorem dL_law_33 : decode cL_law 33 = .ok (.tableswitch 581 0 14 #[75, 98, 141, 164, 197, 230, 263, 306, 369, 422, 465, 488, 521, 544, 567], 75) := by decide +kernel
theorem dL_law_108 : decode cL_law 108 = .ok (.aload_n 1, 1) := by decide +kernel
theorem dL_law_109 : decode cL_law 109 = .ok (.aload_n 0, 1) := by decide +kernel
theorem dL_law_110 : decode cL_law 110 = .ok (.iload_n 3, 1) := by decide +kernel
theorem dL_law_111 : decode cL_law 111 = .ok (.iconst 1, 1) := by decide +kernel
theorem dL_law_112 : decode cL_law 112 = .ok (.iadd, 1) := by decide +kernel
theorem dL_law_113 : decode cL_law 113 = .ok (.iaload, 1) := by decide +kernel
theorem dL_law_114 : decode cL_law 114 = .ok (.invokevirtual 13, 3) := by decide +kernel
theorem dL_law_117 : decode cL_law 117 = .ok (.aload_n 2, 1) := by decide +kernel
theorem dL_law_118 : decode cL_law 118 = .ok (.aload_n 0, 1) := by decide +kernel
theorem dL_law_119 : decode cL_law 119 = .ok (.iload_n 3, 1) := by decide +kernel
theorem dL_law_120 : decode cL_law 120 = .ok (.iconst 1, 1) := by decide +kernel
theorem dL_law_121 : decode cL_law 121 = .ok (.iadd, 1) := by decide +kernel
theorem dL_law_122 : decode cL_law 122 = .ok (.iaload, 1) := by decide +kernel
theorem dL_law_123 : decode cL_law 123 = .ok (.invokevirtual 17, 3) := by decide +kernel
theorem dL_law_126 : decode cL_law 126 = .ok (.if_icmp .eq 488, 3) := by decide +kernel
theorem dL_law_129 : decode cL_law 129 = .ok (.iconst 0, 1) := by decide +kernel
theorem dL_law_130 : decode cL_law 130 = .ok (.ireturn, 1) := by decide +kernel
theorem dL_law_131 : decode cL_law 131 = .ok (.aload_n 1, 1) := by decide +kernel
theorem dL_law_132 : decode cL_law 132 = .ok (.aload_n 0, 1) := by decide +kernel
theorem dL_law_133 : decode cL_law 133 = .ok (.iload_n 3, 1) := by decide +kernel
theorem dL_law_134 : decode cL_law 134 = .ok (.iconst 1, 1) := by decide +kernel
theorem dL_law_135 : decode cL_law 135 = .ok (.iadd, 1) := by decide +kernel
theorem dL_law_136 : decode cL_law 136 = .ok (.iaload, 1) := by decide +kernel
theorem dL_law_137 : decode cL_law 137 = .ok (.aload_n 0, 1) := by decide +kernel
theorem dL_law_138 : decode cL_law 138 = .ok (.iload_n 3, 1) := by decide +kernel
theorem dL_law_139 : decode cL_law 139 = .ok (.iconst 2, 1) := by decide +kernel
theorem dL_law_140 : decode cL_law 140 = .ok (.iadd, 1) := by decide +kernel
theorem dL_law_141 : decode cL_law 141 = .ok (.iaload, 1) := by decide +kernel
theorem dL_law_142 : decode cL_law 142 = .ok (.aload_n 0, 1) := by decide +kernel
theorem dL_law_143 : decode cL_law 143 = .ok (.iload_n 3, 1) := by decide +kernel
theorem dL_law_144 : decode cL_law 144 = .ok (.iconst 3, 1) := by decide +kernel
theorem dL_law_145 : decode cL_law 145 = .ok (.iadd, 1) := by decide +kernel
theorem dL_law_146 : decode cL_law 146 = .ok (.iaload, 1) := by decide +kernel
theorem dL_law_147 : decode cL_law 147 = .ok (.invokevirtual 18, 3) := by decide +kernel
theorem dL_law_150 : decode cL_law 150 = .ok (.aload_n 2, 1) := by decide +kernel
theorem dL_law_151 : decode cL_law 151 = .ok (.aload_n 0, 1) := by decide +kernel
theorem dL_law_152 : decode cL_law 152 = .ok (.iload_n 3, 1) := by decide +kernel
theorem dL_law_153 : decode cL_law 153 = .ok (.iconst 1, 1) := by decide +kernel
theorem dL_law_154 : decode cL_law 154 = .ok (.iadd, 1) := by decide +kernel
theorem dL_law_155 : decode cL_law 155 = .ok (.iaload, 1) := by decide +kernel
theorem dL_law_156 : decode cL_law 156 = .ok (.aload_n 0, 1) := by decide +kernel
theorem dL_law_157 : decode cL_law 157 = .ok (.iload_n 3, 1) := by decide +kernel
theorem dL_law_158 : decode cL_law 158 = .ok (.iconst 2, 1) := by decide +kernel
theorem dL_law_159 : decode cL_law 159 = .ok (.iadd, 1) := by decide +kernel
theorem dL_law_160 : decode cL_law 160 = .ok (.iaload, 1) := by decide +kernel
theorem dL_law_161 : decode cL_law 161 = .ok (.aload_n 0, 1) := by decide +kernel
theorem dL_law_162 : decode cL_law 162 = .ok (.iload_n 3, 1) := by decide +kernel
theorem dL_law_163 : decode cL_law 163 = .ok (.iconst 3, 1) := by decide +kernel
theorem dL_law_164 : decode cL_law 164 = .ok (.iadd, 1) := by decide +kernel
theorem dL_law_165 : decode cL_law 165 = .ok (.iaload, 1) := by decide +kernel
theorem dL_law_166 : decode cL_law 166 = .ok (.invokevirtual 22, 3) := by decide +kernel
theorem dL_law_169 : decode cL_law 169 = .ok (.if_icmp .eq 445, 3) := by decide +kernel
theorem dL_law_172 : decode cL_law 172 = .ok (.iconst 0, 1) := by decide +kernel
theorem dL_law_173 : decode cL_law 173 = .ok (.ireturn, 1) := by decide +kernel
theorem dL_law_174 : decode cL_law 174 = .ok (.aload_n 1, 1) := by decide +kernel
theorem dL_law_175 : decode cL_law 175 = .ok (.aload_n 0, 1) := by decide +kernel
theorem dL_law_176 : decode cL_law 176 = .ok (.iload_n 3, 1) := by decide +kernel
theorem dL_law_177 : decode cL_law 177 = .ok (.iconst 1, 1) := by decide +kernel
theorem dL_law_178 : decode cL_law 178 = .ok (.iadd, 1) := by decide +kernel
theorem dL_law_179 : decode cL_law 179 = .ok (.iaload, 1) := by decide +kernel
theorem dL_law_180 : decode cL_law 180 = .ok (.invokevirtual 23, 3) := by decide +kernel
theorem dL_law_183 : decode cL_law 183 = .ok (.aload_n 2, 1) := by decide +kernel
theorem dL_law_184 : decode cL_law 184 = .ok (.aload_n 0, 1) := by decide +kernel
theorem dL_law_185 : decode cL_law 185 = .ok (.iload_n 3, 1) := by decide +kernel
theorem dL_law_186 : decode cL_law 186 = .ok (.iconst 1, 1) := by decide +kernel
theorem dL_law_187 : decode cL_law 187 = .ok (.iadd, 1) := by decide +kernel
theorem dL_law_188 : decode cL_law 188 = .ok (.iaload, 1) := by decide +kernel
theorem dL_law_189 : decode cL_law 189 = .ok (.invokevirtual 26, 3) := by decide +kernel
theorem dL_law_192 : decode cL_law 192 = .ok (.if_icmp .eq 422, 3) := by decide +kernel
theorem dL_law_195 : decode cL_law 195 = .ok (.iconst 0, 1) := by decide +kernel
theorem dL_law_196 : decode cL_law 196 = .ok (.ireturn, 1) := by decide +kernel
theorem dL_law_197 : decode cL_law 197 = .ok (.aload_n 1, 1) := by decide +kernel
theorem dL_law_198 : decode cL_law 198 = .ok (.aload_n 0, 1) := by decide +kernel
theorem dL_law_199 : decode cL_law 199 = .ok (.iload_n 3, 1) := by decide +kernel
theorem dL_law_200 : decode cL_law 200 = .ok (.iconst 1, 1) := by decide +kernel
theorem dL_law_201 : decode cL_law 201 = .ok (.iadd, 1) := by decide +kernel
theorem dL_law_202 : decode cL_law 202 = .ok (.iaload, 1) := by decide +kernel
theorem dL_law_203 : decode cL_law 203 = .ok (.aload_n 0, 1) := by decide +kernel
theorem dL_law_204 : decode cL_law 204 = .ok (.iload_n 3, 1) := by decide +kernel
theorem dL_law_205 : decode cL_law 205 = .ok (.iconst 2, 1) := by decide +kernel
theorem dL_law_206 : decode cL_law 206 = .ok (.iadd, 1) := by decide +kernel
theorem dL_law_207 : decode cL_law 207 = .ok (.iaload, 1) := by decide +kernel
theorem dL_law_208 : decode cL_law 208 = .ok (.invokevirtual 27, 3) := by decide +kernel
theorem dL_law_211 : decode cL_law 211 = .ok (.aload_n 2, 1) := by decide +kernel
theorem dL_law_212 : decode cL_law 212 = .ok (.aload_n 0, 1) := by decide +kernel
theorem dL_law_213 : decode cL_law 213 = .ok (.iload_n 3, 1) := by decide +kernel
theorem dL_law_214 : decode cL_law 214 = .ok (.iconst 1, 1) := by decide +kernel
theorem dL_law_215 : decode cL_law 215 = .ok (.iadd, 1) := by decide +kernel
theorem dL_law_216 : decode cL_law 216 = .ok (.iaload, 1) := by decide +kernel
theorem dL_law_217 : decode cL_law 217 = .ok (.aload_n 0, 1) := by decide +kernel
theorem dL_law_218 : decode cL_law 218 = .ok (.iload_n 3, 1) := by decide +kernel
theorem dL_law_219 : decode cL_law 219 = .ok (.iconst 2, 1) := by decide +kernel
theorem dL_law_220 : decode cL_law 220 = .ok (.iadd, 1) := by decide +kernel
theorem dL_law_221 : decode cL_law 221 = .ok (.iaload, 1) := by decide +kernel
theorem dL_law_222 : decode cL_law 222 = .ok (.invokevirtual 31, 3) := by decide +kernel
theorem dL_law_225 : decode cL_law 225 = .ok (.if_icmp .eq 389, 3) := by decide +kernel
theorem dL_law_228 : decode cL_law 228 = .ok (.iconst 0, 1) := by decide +kernel
theorem dL_law_229 : decode cL_law 229 = .ok (.ireturn, 1) := by decide +kernel
theorem dL_law_230 : decode cL_law 230 = .ok (.aload_n 1, 1) := by decide +kernel
theorem dL_law_231 : decode cL_law 231 = .ok (.aload_n 0, 1) := by decide +kernel
theorem dL_law_232 : decode cL_law 232 = .ok (.iload_n 3, 1) := by decide +kernel
theorem dL_law_233 : decode cL_law 233 = .ok (.iconst 1, 1) := by decide +kernel
theorem dL_law_234 : decode cL_law 234 = .ok (.iadd, 1) := by decide +kernel
theorem dL_law_235 : decode cL_law 235 = .ok (.iaload, 1) := by decide +kernel
theorem dL_law_236 : decode cL_law 236 = .ok (.aload_n 0, 1) := by decide +kernel
theorem dL_law_237 : decode cL_law 237 = .ok (.iload_n 3, 1) := by decide +kernel
theorem dL_law_238 : decode cL_law 238 = .ok (.iconst 2, 1) := by decide +kernel
theorem dL_law_239 : decode cL_law 239 = .ok (.iadd, 1) := by decide +kernel
theorem dL_law_240 : decode cL_law 240 = .ok (.iaload, 1) := by decide +kernel
theorem dL_law_241 : decode cL_law 241 = .ok (.invokevirtual 32, 3) := by decide +kernel
theorem dL_law_244 : decode cL_law 244 = .ok (.aload_n 2, 1) := by decide +kernel
theorem dL_law_245 : decode cL_law 245 = .ok (.aload_n 0, 1) := by decide +kernel
theorem dL_law_246 : decode cL_law 246 = .ok (.iload_n 3, 1) := by decide +kernel
theorem dL_law_247 : decode cL_law 247 = .ok (.iconst 1, 1) := by decide +kernel
theorem dL_law_248 : decode cL_law 248 = .ok (.iadd, 1) := by decide +kernel
theorem dL_law_249 : decode cL_law 249 = .ok (.iaload, 1) := by decide +kernel
theorem dL_law_250 : decode cL_law 250 = .ok (.aload_n 0, 1) := by decide +kernel
theorem dL_law_251 : decode cL_law 251 = .ok (.iload_n 3, 1) := by decide +kernel
theorem dL_law_252 : decode cL_law 252 = .ok (.iconst 2, 1) := by decide +kernel
theorem dL_law_253 : decode cL_law 253 = .ok (.iadd, 1) := by decide +kernel
theorem dL_law_254 : decode cL_law 254 = .ok (.iaload, 1) := by decide +kernel
theorem dL_law_255 : decode cL_law 255 = .ok (.invokevirtual 35, 3) := by decide +kernel
theorem dL_law_258 : decode cL_law 258 = .ok (.if_icmp .eq 356, 3) := by decide +kernel
theorem dL_law_261 : decode cL_law 261 = .ok (.iconst 0, 1) := by decide +kernel
theorem dL_law_262 : decode cL_law 262 = .ok (.ireturn, 1) := by decide +kernel
theorem dL_law_263 : decode cL_law 263 = .ok (.aload_n 1, 1) := by decide +kernel
theorem dL_law_264 : decode cL_law 264 = .ok (.aload_n 0, 1) := by decide +kernel
theorem dL_law_265 : decode cL_law 265 = .ok (.iload_n 3, 1) := by decide +kernel
theorem dL_law_266 : decode cL_law 266 = .ok (.iconst 1, 1) := by decide +kernel
theorem dL_law_267 : decode cL_law 267 = .ok (.iadd, 1) := by decide +kernel
theorem dL_law_268 : decode cL_law 268 = .ok (.iaload, 1) := by decide +kernel
theorem dL_law_269 : decode cL_law 269 = .ok (.aload_n 0, 1) := by decide +kernel
theorem dL_law_270 : decode cL_law 270 = .ok (.iload_n 3, 1) := by decide +kernel
theorem dL_law_271 : decode cL_law 271 = .ok (.iconst 2, 1) := by decide +kernel
theorem dL_law_272 : decode cL_law 272 = .ok (.iadd, 1) := by decide +kernel
theorem dL_law_273 : decode cL_law 273 = .ok (.iaload, 1) := by decide +kernel
theorem dL_law_274 : decode cL_law 274 = .ok (.invokevirtual 36, 3) := by decide +kernel
theorem dL_law_277 : decode cL_law 277 = .ok (.aload_n 2, 1) := by decide +kernel
theorem dL_law_278 : decode cL_law 278 = .ok (.aload_n 0, 1) := by decide +kernel
theorem dL_law_279 : decode cL_law 279 = .ok (.iload_n 3, 1) := by decide +kernel
theorem dL_law_280 : decode cL_law 280 = .ok (.iconst 1, 1) := by decide +kernel
theorem dL_law_281 : decode cL_law 281 = .ok (.iadd, 1) := by decide +kernel
theorem dL_law_282 : decode cL_law 282 = .ok (.iaload, 1) := by decide +kernel
theorem dL_law_283 : decode cL_law 283 = .ok (.aload_n 0, 1) := by decide +kernel
theorem dL_law_284 : decode cL_law 284 = .ok (.iload_n 3, 1) := by decide +kernel
theorem dL_law_285 : decode cL_law 285 = .ok (.iconst 2, 1) := by decide +kernel
theorem dL_law_286 : decode cL_law 286 = .ok (.iadd, 1) := by decide +kernel
theorem dL_law_287 : decode cL_law 287 = .ok (.iaload, 1) := by decide +kernel
theorem dL_law_288 : decode cL_law 288 = .ok (.invokevirtual 39, 3) := by decide +kernel
theorem dL_law_291 : decode cL_law 291 = .ok (.if_icmp .eq 323, 3) := by decide +kernel
theorem dL_law_294 : decode cL_law 294 = .ok (.iconst 0, 1) := by decide +kernel
theorem dL_law_295 : decode cL_law 295 = .ok (.ireturn, 1) := by decide +kernel
theorem dL_law_296 : decode cL_law 296 = .ok (.aload_n 1, 1) := by decide +kernel
theorem dL_law_297 : decode cL_law 297 = .ok (.aload_n 0, 1) := by decide +kernel
theorem dL_law_298 : decode cL_law 298 = .ok (.iload_n 3, 1) := by decide +kernel
theorem dL_law_299 : decode cL_law 299 = .ok (.iconst 1, 1) := by decide +kernel
theorem dL_law_300 : decode cL_law 300 = .ok (.iadd, 1) := by decide +kernel
theorem dL_law_301 : decode cL_law 301 = .ok (.iaload, 1) := by decide +kernel
theorem dL_law_302 : decode cL_law 302 = .ok (.aload_n 0, 1) := by decide +kernel
theorem dL_law_303 : decode cL_law 303 = .ok (.iload_n 3, 1) := by decide +kernel
theorem dL_law_304 : decode cL_law 304 = .ok (.iconst 2, 1) := by decide +kernel
theorem dL_law_305 : decode cL_law 305 = .ok (.iadd, 1) := by decide +kernel
theorem dL_law_306 : decode cL_law 306 = .ok (.iaload, 1) := by decide +kernel
theorem dL_law_307 : decode cL_law 307 = .ok (.aload_n 0, 1) := by decide +kernel
theorem dL_law_308 : decode cL_law 308 = .ok (.iload_n 3, 1) := by decide +kernel
theorem dL_law_309 : decode cL_law 309 = .ok (.iconst 3, 1) := by decide +kernel
theorem dL_law_310 : decode cL_law 310 = .ok (.iadd, 1) := by decide +kernel
theorem dL_law_311 : decode cL_law 311 = .ok (.iaload, 1) := by decide +kernel
theorem dL_law_312 : decode cL_law 312 = .ok (.invokevirtual 40, 3) := by decide +kernel
theorem dL_law_315 : decode cL_law 315 = .ok (.aload_n 2, 1) := by decide +kernel
theorem dL_law_316 : decode cL_law 316 = .ok (.aload_n 0, 1) := by decide +kernel
theorem dL_law_317 : decode cL_law 317 = .ok (.iload_n 3, 1) := by decide +kernel
theorem dL_law_318 : decode cL_law 318 = .ok (.iconst 1, 1) := by decide +kernel
theorem dL_law_319 : decode cL_law 319 = .ok (.iadd, 1) := by decide +kernel
theorem dL_law_320 : decode cL_law 320 = .ok (.iaload, 1) := by decide +kernel
theorem dL_law_321 : decode cL_law 321 = .ok (.aload_n 0, 1) := by decide +kernel
theorem dL_law_322 : decode cL_law 322 = .ok (.iload_n 3, 1) := by decide +kernel
theorem dL_law_323 : decode cL_law 323 = .ok (.iconst 2, 1) := by decide +kernel
theorem dL_law_324 : decode cL_law 324 = .ok (.iadd, 1) := by decide +kernel
theorem dL_law_325 : decode cL_law 325 = .ok (.iaload, 1) := by decide +kernel
theorem dL_law_326 : decode cL_law 326 = .ok (.aload_n 0, 1) := by decide +kernel
theorem dL_law_327 : decode cL_law 327 = .ok (.iload_n 3, 1) := by decide +kernel
theorem dL_law_328 : decode cL_law 328 = .ok (.iconst 3, 1) := by decide +kernel
theorem dL_law_329 : decode cL_law 329 = .ok (.iadd, 1) := by decide +kernel
theorem dL_law_330 : decode cL_law 330 = .ok (.iaload, 1) := by decide +kernel
theorem dL_law_331 : decode cL_law 331 = .ok (.invokevirtual 43, 3) := by decide +kernel
theorem dL_law_334 : decode cL_law 334 = .ok (.if_icmp .eq 280, 3) := by decide +kernel
theorem dL_law_337 : decode cL_law 337 = .ok (.iconst 0, 1) := by decide +kernel
theorem dL_law_338 : decode cL_law 338 = .ok (.ireturn, 1) := by decide +kernel
theorem dL_law_339 : decode cL_law 339 = .ok (.aload_n 1, 1) := by decide +kernel
theorem dL_law_340 : decode cL_law 340 = .ok (.aload_n 0, 1) := by decide +kernel
theorem dL_law_341 : decode cL_law 341 = .ok (.iload_n 3, 1) := by decide +kernel
theorem dL_law_342 : decode cL_law 342 = .ok (.iconst 1, 1) := by decide +kernel
theorem dL_law_343 : decode cL_law 343 = .ok (.iadd, 1) := by decide +kernel
theorem dL_law_344 : decode cL_law 344 = .ok (.iaload, 1) := by decide +kernel
theorem dL_law_345 : decode cL_law 345 = .ok (.aload_n 0, 1) := by decide +kernel
theorem dL_law_346 : decode cL_law 346 = .ok (.iload_n 3, 1) := by decide +kernel
theorem dL_law_347 : decode cL_law 347 = .ok (.iconst 2, 1) := by decide +kernel
theorem dL_law_348 : decode cL_law 348 = .ok (.iadd, 1) := by decide +kernel
theorem dL_law_349 : decode cL_law 349 = .ok (.iaload, 1) := by decide +kernel
theorem dL_law_350 : decode cL_law 350 = .ok (.aload_n 0, 1) := by decide +kernel
theorem dL_law_351 : decode cL_law 351 = .ok (.iload_n 3, 1) := by decide +kernel
theorem dL_law_352 : decode cL_law 352 = .ok (.iconst 3, 1) := by decide +kernel
theorem dL_law_353 : decode cL_law 353 = .ok (.iadd, 1) := by decide +kernel
theorem dL_law_354 : decode cL_law 354 = .ok (.iaload, 1) := by decide +kernel
theorem dL_law_355 : decode cL_law 355 = .ok (.aload_n 0, 1) := by decide +kernel
theorem dL_law_356 : decode cL_law 356 = .ok (.iload_n 3, 1) := by decide +kernel
theorem dL_law_357 : decode cL_law 357 = .ok (.iconst 4, 1) := by decide +kernel
theorem dL_law_358 : decode cL_law 358 = .ok (.iadd, 1) := by decide +kernel
theorem dL_law_359 : decode cL_law 359 = .ok (.iaload, 1) := by decide +kernel
theorem dL_law_360 : decode cL_law 360 = .ok (.aload_n 0, 1) := by decide +kernel
theorem dL_law_361 : decode cL_law 361 = .ok (.iload_n 3, 1) := by decide +kernel
theorem dL_law_362 : decode cL_law 362 = .ok (.iconst 5, 1) := by decide +kernel
theorem dL_law_363 : decode cL_law 363 = .ok (.iadd, 1) := by decide +kernel
theorem dL_law_364 : decode cL_law 364 = .ok (.iaload, 1) := by decide +kernel
theorem dL_law_365 : decode cL_law 365 = .ok (.invokevirtual 44, 3) := by decide +kernel
theorem dL_law_368 : decode cL_law 368 = .ok (.aload_n 2, 1) := by decide +kernel
theorem dL_law_369 : decode cL_law 369 = .ok (.aload_n 0, 1) := by decide +kernel
theorem dL_law_370 : decode cL_law 370 = .ok (.iload_n 3, 1) := by decide +kernel
theorem dL_law_371 : decode cL_law 371 = .ok (.iconst 1, 1) := by decide +kernel
theorem dL_law_372 : decode cL_law 372 = .ok (.iadd, 1) := by decide +kernel
theorem dL_law_373 : decode cL_law 373 = .ok (.iaload, 1) := by decide +kernel
theorem dL_law_374 : decode cL_law 374 = .ok (.aload_n 0, 1) := by decide +kernel
theorem dL_law_375 : decode cL_law 375 = .ok (.iload_n 3, 1) := by decide +kernel
theorem dL_law_376 : decode cL_law 376 = .ok (.iconst 2, 1) := by decide +kernel
theorem dL_law_377 : decode cL_law 377 = .ok (.iadd, 1) := by decide +kernel
theorem dL_law_378 : decode cL_law 378 = .ok (.iaload, 1) := by decide +kernel
theorem dL_law_379 : decode cL_law 379 = .ok (.aload_n 0, 1) := by decide +kernel
theorem dL_law_380 : decode cL_law 380 = .ok (.iload_n 3, 1) := by decide +kernel
theorem dL_law_381 : decode cL_law 381 = .ok (.iconst 3, 1) := by decide +kernel
theorem dL_law_382 : decode cL_law 382 = .ok (.iadd, 1) := by decide +kernel
theorem dL_law_383 : decode cL_law 383 = .ok (.iaload, 1) := by decide +kernel
theorem dL_law_384 : decode cL_law 384 = .ok (.aload_n 0, 1) := by decide +kernel
theorem dL_law_385 : decode cL_law 385 = .ok (.iload_n 3, 1) := by decide +kernel
theorem dL_law_386 : decode cL_law 386 = .ok (.iconst 4, 1) := by decide +kernel
theorem dL_law_387 : decode cL_law 387 = .ok (.iadd, 1) := by decide +kernel
theorem dL_law_388 : decode cL_law 388 = .ok (.iaload, 1) := by decide +kernel
theorem dL_law_389 : decode cL_law 389 = .ok (.aload_n 0, 1) := by decide +kernel
theorem dL_law_390 : decode cL_law 390 = .ok (.iload_n 3, 1) := by decide +kernel
theorem dL_law_391 : decode cL_law 391 = .ok (.iconst 5, 1) := by decide +kernel
theorem dL_law_392 : decode cL_law 392 = .ok (.iadd, 1) := by decide +kernel
theorem dL_law_393 : decode cL_law 393 = .ok (.iaload, 1) := by decide +kernel
theorem dL_law_394 : decode cL_law 394 = .ok (.invokevirtual 48, 3) := by decide +kernel
theorem dL_law_397 : decode cL_law 397 = .ok (.if_icmp .eq 217, 3) := by decide +kernel
theorem dL_law_400 : decode cL_law 400 = .ok (.iconst 0, 1) := by decide +kernel
theorem dL_law_401 : decode cL_law 401 = .ok (.ireturn, 1) := by decide +kernel
theorem dL_law_402 : decode cL_law 402 = .ok (.aload_n 1, 1) := by decide +kernel
theorem dL_law_403 : decode cL_law 403 = .ok (.aload_n 0, 1) := by decide +kernel
theorem dL_law_404 : decode cL_law 404 = .ok (.iload_n 3, 1) := by decide +kernel
theorem dL_law_405 : decode cL_law 405 = .ok (.iconst 1, 1) := by decide +kernel
theorem dL_law_406 : decode cL_law 406 = .ok (.iadd, 1) := by decide +kernel
theorem dL_law_407 : decode cL_law 407 = .ok (.iaload, 1) := by decide +kernel
theorem dL_law_408 : decode cL_law 408 = .ok (.aload_n 0, 1) := by decide +kernel
theorem dL_law_409 : decode cL_law 409 = .ok (.iload_n 3, 1) := by decide +kernel
theorem dL_law_410 : decode cL_law 410 = .ok (.iconst 2, 1) := by decide +kernel
theorem dL_law_411 : decode cL_law 411 = .ok (.iadd, 1) := by decide +kernel
theorem dL_law_412 : decode cL_law 412 = .ok (.iaload, 1) := by decide +kernel
theorem dL_law_413 : decode cL_law 413 = .ok (.aload_n 0, 1) := by decide +kernel
theorem dL_law_414 : decode cL_law 414 = .ok (.iload_n 3, 1) := by decide +kernel
theorem dL_law_415 : decode cL_law 415 = .ok (.iconst 3, 1) := by decide +kernel
theorem dL_law_416 : decode cL_law 416 = .ok (.iadd, 1) := by decide +kernel
theorem dL_law_417 : decode cL_law 417 = .ok (.iaload, 1) := by decide +kernel
theorem dL_law_418 : decode cL_law 418 = .ok (.aload_n 0, 1) := by decide +kernel
theorem dL_law_419 : decode cL_law 419 = .ok (.iload_n 3, 1) := by decide +kernel
theorem dL_law_420 : decode cL_law 420 = .ok (.iconst 4, 1) := by decide +kernel
theorem dL_law_421 : decode cL_law 421 = .ok (.iadd, 1) := by decide +kernel
theorem dL_law_422 : decode cL_law 422 = .ok (.iaload, 1) := by decide +kernel
theorem dL_law_423 : decode cL_law 423 = .ok (.invokevirtual 49, 3) := by decide +kernel
theorem dL_law_426 : decode cL_law 426 = .ok (.aload_n 2, 1) := by decide +kernel
theorem dL_law_427 : decode cL_law 427 = .ok (.aload_n 0, 1) := by decide +kernel
theorem dL_law_428 : decode cL_law 428 = .ok (.iload_n 3, 1) := by decide +kernel
theorem dL_law_429 : decode cL_law 429 = .ok (.iconst 1, 1) := by decide +kernel
theorem dL_law_430 : decode cL_law 430 = .ok (.iadd, 1) := by decide +kernel
theorem dL_law_431 : decode cL_law 431 = .ok (.iaload, 1) := by decide +kernel
theorem dL_law_432 : decode cL_law 432 = .ok (.aload_n 0, 1) := by decide +kernel
theorem dL_law_433 : decode cL_law 433 = .ok (.iload_n 3, 1) := by decide +kernel
theorem dL_law_434 : decode cL_law 434 = .ok (.iconst 2, 1) := by decide +kernel
theorem dL_law_435 : decode cL_law 435 = .ok (.iadd, 1) := by decide +kernel
theorem dL_law_436 : decode cL_law 436 = .ok (.iaload, 1) := by decide +kernel
theorem dL_law_437 : decode cL_law 437 = .ok (.aload_n 0, 1) := by decide +kernel
theorem dL_law_438 : decode cL_law 438 = .ok (.iload_n 3, 1) := by decide +kernel
theorem dL_law_439 : decode cL_law 439 = .ok (.iconst 3, 1) := by decide +kernel
theorem dL_law_440 : decode cL_law 440 = .ok (.iadd, 1) := by decide +kernel
theorem dL_law_441 : decode cL_law 441 = .ok (.iaload, 1) := by decide +kernel
theorem dL_law_442 : decode cL_law 442 = .ok (.aload_n 0, 1) := by decide +kernel
theorem dL_law_443 : decode cL_law 443 = .ok (.iload_n 3, 1) := by decide +kernel
theorem dL_law_444 : decode cL_law 444 = .ok (.iconst 4, 1) := by decide +kernel
theorem dL_law_445 : decode cL_law 445 = .ok (.iadd, 1) := by decide +kernel
theorem dL_law_446 : decode cL_law 446 = .ok (.iaload, 1) := by decide +kernel
theorem dL_law_447 : decode cL_law 447 = .ok (.invokevirtual 53, 3) := by decide +kernel
theorem dL_law_450 : decode cL_law 450 = .ok (.if_icmp .eq 164, 3) := by decide +kernel
theorem dL_law_453 : decode cL_law 453 = .ok (.iconst 0, 1) := by decide +kernel
theorem dL_law_454 : decode cL_law 454 = .ok (.ireturn, 1) := by decide +kernel
theorem dL_law_455 : decode cL_law 455 = .ok (.aload_n 1, 1) := by decide +kernel
theorem dL_law_456 : decode cL_law 456 = .ok (.aload_n 0, 1) := by decide +kernel
theorem dL_law_457 : decode cL_law 457 = .ok (.iload_n 3, 1) := by decide +kernel
theorem dL_law_458 : decode cL_law 458 = .ok (.iconst 1, 1) := by decide +kernel
theorem dL_law_459 : decode cL_law 459 = .ok (.iadd, 1) := by decide +kernel
theorem dL_law_460 : decode cL_law 460 = .ok (.iaload, 1) := by decide +kernel
theorem dL_law_461 : decode cL_law 461 = .ok (.aload_n 0, 1) := by decide +kernel
theorem dL_law_462 : decode cL_law 462 = .ok (.iload_n 3, 1) := by decide +kernel
theorem dL_law_463 : decode cL_law 463 = .ok (.iconst 2, 1) := by decide +kernel
theorem dL_law_464 : decode cL_law 464 = .ok (.iadd, 1) := by decide +kernel
theorem dL_law_465 : decode cL_law 465 = .ok (.iaload, 1) := by decide +kernel
theorem dL_law_466 : decode cL_law 466 = .ok (.aload_n 0, 1) := by decide +kernel
theorem dL_law_467 : decode cL_law 467 = .ok (.iload_n 3, 1) := by decide +kernel
theorem dL_law_468 : decode cL_law 468 = .ok (.iconst 3, 1) := by decide +kernel
theorem dL_law_469 : decode cL_law 469 = .ok (.iadd, 1) := by decide +kernel
theorem dL_law_470 : decode cL_law 470 = .ok (.iaload, 1) := by decide +kernel
theorem dL_law_471 : decode cL_law 471 = .ok (.invokevirtual 54, 3) := by decide +kernel
theorem dL_law_474 : decode cL_law 474 = .ok (.aload_n 2, 1) := by decide +kernel
theorem dL_law_475 : decode cL_law 475 = .ok (.aload_n 0, 1) := by decide +kernel
theorem dL_law_476 : decode cL_law 476 = .ok (.iload_n 3, 1) := by decide +kernel
theorem dL_law_477 : decode cL_law 477 = .ok (.iconst 1, 1) := by decide +kernel
theorem dL_law_478 : decode cL_law 478 = .ok (.iadd, 1) := by decide +kernel
theorem dL_law_479 : decode cL_law 479 = .ok (.iaload, 1) := by decide +kernel
theorem dL_law_480 : decode cL_law 480 = .ok (.aload_n 0, 1) := by decide +kernel
theorem dL_law_481 : decode cL_law 481 = .ok (.iload_n 3, 1) := by decide +kernel
theorem dL_law_482 : decode cL_law 482 = .ok (.iconst 2, 1) := by decide +kernel
theorem dL_law_483 : decode cL_law 483 = .ok (.iadd, 1) := by decide +kernel
theorem dL_law_484 : decode cL_law 484 = .ok (.iaload, 1) := by decide +kernel
theorem dL_law_485 : decode cL_law 485 = .ok (.aload_n 0, 1) := by decide +kernel
theorem dL_law_486 : decode cL_law 486 = .ok (.iload_n 3, 1) := by decide +kernel
theorem dL_law_487 : decode cL_law 487 = .ok (.iconst 3, 1) := by decide +kernel
theorem dL_law_488 : decode cL_law 488 = .ok (.iadd, 1) := by decide +kernel
theorem dL_law_489 : decode cL_law 489 = .ok (.iaload, 1) := by decide +kernel
theorem dL_law_490 : decode cL_law 490 = .ok (.invokevirtual 57, 3) := by decide +kernel
theorem dL_law_493 : decode cL_law 493 = .ok (.if_icmp .eq 121, 3) := by decide +kernel
theorem dL_law_496 : decode cL_law 496 = .ok (.iconst 0, 1) := by decide +kernel
theorem dL_law_497 : decode cL_law 497 = .ok (.ireturn, 1) := by decide +kernel
theorem dL_law_498 : decode cL_law 498 = .ok (.aload_n 1, 1) := by decide +kernel
theorem dL_law_499 : decode cL_law 499 = .ok (.aload_n 0, 1) := by decide +kernel
theorem dL_law_500 : decode cL_law 500 = .ok (.iload_n 3, 1) := by decide +kernel
theorem dL_law_501 : decode cL_law 501 = .ok (.iconst 1, 1) := by decide +kernel
theorem dL_law_502 : decode cL_law 502 = .ok (.iadd, 1) := by decide +kernel
theorem dL_law_503 : decode cL_law 503 = .ok (.iaload, 1) := by decide +kernel
theorem dL_law_504 : decode cL_law 504 = .ok (.invokevirtual 58, 3) := by decide +kernel
theorem dL_law_507 : decode cL_law 507 = .ok (.aload_n 2, 1) := by decide +kernel
theorem dL_law_508 : decode cL_law 508 = .ok (.aload_n 0, 1) := by decide +kernel
theorem dL_law_509 : decode cL_law 509 = .ok (.iload_n 3, 1) := by decide +kernel
theorem dL_law_510 : decode cL_law 510 = .ok (.iconst 1, 1) := by decide +kernel
theorem dL_law_511 : decode cL_law 511 = .ok (.iadd, 1) := by decide +kernel
theorem dL_law_512 : decode cL_law 512 = .ok (.iaload, 1) := by decide +kernel
theorem dL_law_513 : decode cL_law 513 = .ok (.invokevirtual 61, 3) := by decide +kernel
theorem dL_law_516 : decode cL_law 516 = .ok (.if_icmp .eq 98, 3) := by decide +kernel
theorem dL_law_519 : decode cL_law 519 = .ok (.iconst 0, 1) := by decide +kernel
theorem dL_law_520 : decode cL_law 520 = .ok (.ireturn, 1) := by decide +kernel
theorem dL_law_521 : decode cL_law 521 = .ok (.aload_n 1, 1) := by decide +kernel
theorem dL_law_522 : decode cL_law 522 = .ok (.aload_n 0, 1) := by decide +kernel
theorem dL_law_523 : decode cL_law 523 = .ok (.iload_n 3, 1) := by decide +kernel
theorem dL_law_524 : decode cL_law 524 = .ok (.iconst 1, 1) := by decide +kernel
theorem dL_law_525 : decode cL_law 525 = .ok (.iadd, 1) := by decide +kernel
theorem dL_law_526 : decode cL_law 526 = .ok (.iaload, 1) := by decide +kernel
theorem dL_law_527 : decode cL_law 527 = .ok (.aload_n 0, 1) := by decide +kernel
theorem dL_law_528 : decode cL_law 528 = .ok (.iload_n 3, 1) := by decide +kernel
theorem dL_law_529 : decode cL_law 529 = .ok (.iconst 2, 1) := by decide +kernel
theorem dL_law_530 : decode cL_law 530 = .ok (.iadd, 1) := by decide +kernel
theorem dL_law_531 : decode cL_law 531 = .ok (.iaload, 1) := by decide +kernel
theorem dL_law_532 : decode cL_law 532 = .ok (.invokevirtual 62, 3) := by decide +kernel
theorem dL_law_535 : decode cL_law 535 = .ok (.aload_n 2, 1) := by decide +kernel
theorem dL_law_536 : decode cL_law 536 = .ok (.aload_n 0, 1) := by decide +kernel
theorem dL_law_537 : decode cL_law 537 = .ok (.iload_n 3, 1) := by decide +kernel
end
section
theorem dL_law_538 : decode cL_law 538 = .ok (.iconst 1, 1) := by decide +kernel
theorem dL_law_539 : decode cL_law 539 = .ok (.iadd, 1) := by decide +kernel
theorem dL_law_540 : decode cL_law 540 = .ok (.iaload, 1) := by decide +kernel
theorem dL_law_541 : decode cL_law 541 = .ok (.aload_n 0, 1) := by decide +kernel
theorem dL_law_542 : decode cL_law 542 = .ok (.iload_n 3, 1) := by decide +kernel
theorem dL_law_543 : decode cL_law 543 = .ok (.iconst 2, 1) := by decide +kernel
theorem dL_law_544 : decode cL_law 544 = .ok (.iadd, 1) := by decide +kernel
theorem dL_law_545 : decode cL_law 545 = .ok (.iaload, 1) := by decide +kernel
theorem dL_law_546 : decode cL_law 546 = .ok (.invokevirtual 65, 3) := by decide +kernel
theorem dL_law_549 : decode cL_law 549 = .ok (.if_icmp .eq 65, 3) := by decide +kernel
theorem dL_law_552 : decode cL_law 552 = .ok (.iconst 0, 1) := by decide +kernel
theorem dL_law_553 : decode cL_law 553 = .ok (.ireturn, 1) := by decide +kernel
theorem dL_law_554 : decode cL_law 554 = .ok (.aload_n 1, 1) := by decide +kernel
theorem dL_law_555 : decode cL_law 555 = .ok (.aload_n 0, 1) := by decide +kernel
theorem dL_law_556 : decode cL_law 556 = .ok (.iload_n 3, 1) := by decide +kernel
theorem dL_law_557 : decode cL_law 557 = .ok (.iconst 1, 1) := by decide +kernel
theorem dL_law_558 : decode cL_law 558 = .ok (.iadd, 1) := by decide +kernel
theorem dL_law_559 : decode cL_law 559 = .ok (.iaload, 1) := by decide +kernel
theorem dL_law_560 : decode cL_law 560 = .ok (.invokevirtual 66, 3) := by decide +kernel
theorem dL_law_563 : decode cL_law 563 = .ok (.aload_n 2, 1) := by decide +kernel
theorem dL_law_564 : decode cL_law 564 = .ok (.aload_n 0, 1) := by decide +kernel
theorem dL_law_565 : decode cL_law 565 = .ok (.iload_n 3, 1) := by decide +kernel
theorem dL_law_566 : decode cL_law 566 = .ok (.iconst 1, 1) := by decide +kernel
theorem dL_law_567 : decode cL_law 567 = .ok (.iadd, 1) := by decide +kernel
theorem dL_law_568 : decode cL_law 568 = .ok (.iaload, 1) := by decide +kernel
theorem dL_law_569 : decode cL_law 569 = .ok (.invokevirtual 69, 3) := by decide +kernel
theorem dL_law_572 : decode cL_law 572 = .ok (.if_icmp .eq 42, 3) := by decide +kernel
theorem dL_law_575 : decode cL_law 575 = .ok (.iconst 0, 1) := by decide +kernel
theorem dL_law_576 : decode cL_law 576 = .ok (.ireturn, 1) := by decide +kernel
theorem dL_law_577 : decode cL_law 577 = .ok (.aload_n 1, 1) := by decide +kernel
theorem dL_law_578 : decode cL_law 578 = .ok (.aload_n 0, 1) := by decide +kernel
theorem dL_law_579 : decode cL_law 579 = .ok (.iload_n 3, 1) := by decide +kernel
theorem dL_law_580 : decode cL_law 580 = .ok (.iconst 1, 1) := by decide +kernel
theorem dL_law_581 : decode cL_law 581 = .ok (.iadd, 1) := by decide +kernel
theorem dL_law_582 : decode cL_law 582 = .ok (.iaload, 1) := by decide +kernel
theorem dL_law_583 : decode cL_law 583 = .ok (.invokevirtual 70, 3) := by decide +kernel
theorem dL_law_586 : decode cL_law 586 = .ok (.aload_n 2, 1) := by decide +kernel
theorem dL_law_587 : decode cL_law 587 = .ok (.aload_n 0, 1) := by decide +kernel
theorem dL_law_588 : decode cL_law 588 = .ok (.iload_n 3, 1) := by decide +kernel
theorem dL_law_589 : decode cL_law 589 = .ok (.iconst 1, 1) := by decide +kernel
theorem dL_law_590 : decode cL_law 590 = .ok (.iadd, 1) := by decide +kernel
theorem dL_law_591 : decode cL_law 591 = .ok (.iaload, 1) := by decide +kernel
theorem dL_law_592 : decode cL_law 592 = .ok (.invokevirtual 73, 3) := by decide +kernel
theorem dL_law_595 : decode cL_law 595 = .ok (.if_icmp .eq 19, 3) := by decide +kernel
theorem dL_law_598 : decode cL_law 598 = .ok (.iconst 0, 1) := by decide +kernel
theorem dL_law_599 : decode cL_law 599 = .ok (.ireturn, 1) := by decide +kernel
theorem dL_law_600 : decode cL_law 600 = .ok (.aload_n 1, 1) := by decide +kernel
theorem dL_law_601 : decode cL_law 601 = .ok (.invokevirtual 74, 3) := by decide +kernel
theorem dL_law_604 : decode cL_law 604 = .ok (.aload_n 2, 1) := by decide +kernel
theorem dL_law_605 : decode cL_law 605 = .ok (.invokevirtual 78, 3) := by decide +kernel
theorem dL_law_608 : decode cL_law 608 = .ok (.lcmp, 1) := by decide +kernel
theorem dL_law_609 : decode cL_law 609 = .ok (.ifCond .eq 5, 3) := by decide +kernel
theorem dL_law_612 : decode cL_law 612 = .ok (.iconst 0, 1) := by decide +kernel
theorem dL_law_613 : decode cL_law 613 = .ok (.ireturn, 1) := by decide +kernel
theorem dL_law_614 : decode cL_law 614 = .ok (.iinc 3 6, 3) := by decide +kernel
theorem dL_law_617 : decode cL_law 617 = .ok (.goto (-599), 3) := by decide +kernel
theorem dL_law_620 : decode cL_law 620 = .ok (.iconst 1, 1) := by decide +kernel
theorem dL_law_621 : decode cL_law 621 = .ok (.ireturn, 1) := by decide +kernel
end
section
/-! THE BASE: one shape of contract for methods that only read, one for those that write; calls and their frame in one row each -/
abbrev TY (cy : Nat → ClassId) : List (ClassId × FieldType) := [(cy 0, .int), (cy 1, .boolean), (cy 2, .object RX6)]
abbrev nWi : Cond := .methodLinkNest RX2 41 yX8_isWithin "SlidTokens"
abbrev nWg : Cond := .declares ⟨"SlidTokens$Search", "gather", "(I)V"⟩
/-- what the tables say, at any state of the run -/
def KK (G : va_G) (cy : Nat → ClassId) (U : State) : Prop := va_K G vwCl (TY cy) U ∧ va_Nw nWi U ∧ va_Nw nWg U
theorem KK.warm {G : va_G} {cy : Nat → ClassId} {s U : State} (hW : s.WarmedH U.vm) (h : KK G cy s) : KK G cy U := ⟨va_K.moved hW.alike h.1, va_Nw.warmM hW h.2.1, va_Nw.warmD hW h.2.2⟩
theorem KK.call {G : va_G} {cy : Nat → ClassId} {U : State} (g : JFrame) (mk : MethodId) (a : Array Value) (h : KK G cy U) : KK G cy (U.calling g mk a) := ⟨va_K.moved (u := U) (U := U.calling g mk a) (Vm.Alike.refl U.vm) h.1, va_Nw.same rfl rfl h.2.1, va_Nw.same rfl rfl h.2.2⟩
/-- the start of a method that only reads the cells ws -/
def rP (G : va_G) (cy : Nat → ClassId) (ws : va_W) (U : State) : Prop := va_P G vwCl ws U.heap ∧ KK G cy U
/-- the start of a method that writes the cells ws -/
def wP (G : va_G) (cy : Nat → ClassId) (sz : Nat) (ws : va_W) (U : State) : Prop := U.heap.size = sz ∧ va_P G vwCl ws U.heap ∧ KK G cy U ∧ va_D (fun _ => True) ws
theorem rP_bl {G : va_G} {cy : Nat → ClassId} {ws : va_W} {av : List Value} : FrameBlind (va_Pc av (rP G cy ws)) := fun a U g mk q => ⟨q.1, q.2.1, KK.call g mk a q.2.2⟩
theorem wP_bl {G : va_G} {cy : Nat → ClassId} {ws : va_W} {sz : Nat} {av : List Value} : FrameBlind (va_Pc av (wP G cy sz ws)) := fun a U g mk q => ⟨q.1, q.2.1, q.2.2.1, KK.call g mk a q.2.2.2.1, q.2.2.2.2⟩
theorem rP_V {G : va_G} {cy : Nat → ClassId} {ws wr : va_W} {s : State} {H : Heap} {b ci q0 : Nat} {q : vw_C} {fs As : List Value} (hK : KK G cy s) (hR : va_P G vwCl wr H) (hc : vwCl[ci]? = some q) (he : wr[q0]? = some (b, .inr (ci, fs))) (hP : va_P G vwCl ws H) : PreV s H q.1 b (va_Pc (.ref b :: As) (rP G cy ws)) As :=
  ⟨rP_bl, va_recv hK.1 hR hc he, fun U hU hW => ⟨rfl, by rw [hU]; exact hP, KK.warm hW hK⟩⟩
theorem rP_S {G : va_G} {cy : Nat → ClassId} {ws : va_W} {s : State} {H : Heap} {As : List Value} (hK : KK G cy s) (hP : va_P G vwCl ws H) : PreS s H (va_Pc As (rP G cy ws)) As :=
  ⟨rP_bl, fun U hU hW => ⟨rfl, by rw [hU]; exact hP, KK.warm hW hK⟩⟩
theorem wP_V {G : va_G} {cy : Nat → ClassId} {ws wr : va_W} {A : Nat → Prop} {s : State} {H : Heap} {b ci q0 : Nat} {q : vw_C} {fs As : List Value} (hK : KK G cy s) (hR : va_P G vwCl wr H) (hc : vwCl[ci]? = some q) (he : wr[q0]? = some (b, .inr (ci, fs))) (hP : va_P G vwCl ws H) (hD : va_D A ws) : PreV s H q.1 b (va_Pc (.ref b :: As) (wP G cy H.size ws)) As :=
  ⟨wP_bl, va_recv hK.1 hR hc he, fun U hU hW => ⟨rfl, by rw [hU], by rw [hU]; exact hP, KK.warm hW hK, hD.weaken (fun _ _ _ _ => trivial)⟩⟩
theorem wP_S {G : va_G} {cy : Nat → ClassId} {ws : va_W} {A : Nat → Prop} {s : State} {H : Heap} {As : List Value} (hK : KK G cy s) (hP : va_P G vwCl ws H) (hD : va_D A ws) : PreS s H (va_Pc As (wP G cy H.size ws)) As :=
  ⟨wP_bl, fun U hU hW => ⟨rfl, by rw [hU], by rw [hU]; exact hP, KK.warm hW hK, hD.weaken (fun _ _ _ _ => trivial)⟩⟩
theorem P_nil {G : va_G} {H : Heap} : va_P G vwCl [] H := fun k q h => by simp at h
theorem D_same {A : Nat → Prop} {ws ws' : va_W} (hD : va_D A ws) (h : ws'.map (fun x => x.1) = ws.map (fun x => x.1)) : va_D A ws' := by
  have at' : ∀ (k : Nat) (q : Nat × va_E), ws'[k]? = some q → ∃ e, ws[k]? = some (q.1, e) := by
    intro k q hq
    have h1 : (ws'.map (fun x => x.1))[k]? = some q.1 := by rw [List.getElem?_map, hq]; rfl
    rw [h, List.getElem?_map] at h1
    cases h2 : ws[k]? with
    | none => rw [h2] at h1; cases h1
    | some z =>
      rw [h2] at h1
      obtain ⟨z1, z2⟩ := z
      cases h1
      exact ⟨z2, rfl⟩
  refine ⟨fun i j p q hp hq e => ?_, fun k q hk => ?_⟩
  · obtain ⟨e1, h1⟩ := at' i p hp
    obtain ⟨e2, h2⟩ := at' j q hq
    exact hD.1 i j _ _ h1 h2 e
  · obtain ⟨e1, h1⟩ := at' k q hk
    exact hD.2 k _ h1
/-- behind a call that wrote the cells wc (now w1): the caller's own list, in its order -/
theorem P_back {A0 : Nat → Prop} {G : va_G} {ws wc ws' w1 : va_W} {H H1 : Heap} (isC isR : List Nat) (n : Nat) (hP : va_P G vwCl ws H) (hD : va_D A0 ws)
    (hC : isC.map (fun i => ws[i]?) = wc.map some) (hC' : isC.map (fun i => ws'[i]?) = w1.map some) (hR : isR.map (fun i => ws'[i]?) = isR.map (fun i => ws[i]?))
    (hn : ws'.length = n) (hcov : ∀ i, i < n → i ∈ isC ∨ i ∈ isR) (hdis : ∀ i ∈ isR, i ∉ isC)
    (hk : ∀ q : Nat, q < H.size → ¬ va_A wc H.size q → H1[q]? = H[q]?) (hP1 : va_P G vwCl w1 H1) : va_P G vwCl ws' H1 := by
  intro k q hq
  have hlt : k < n := by rw [← hn]; exact (List.getElem?_eq_some_iff.mp hq).1
  rcases hcov k hlt with hc | hc
  · obtain ⟨j, hj⟩ := List.getElem?_of_mem hc
    have h1 : (isC.map (fun i => ws'[i]?))[j]? = some (some q) := by rw [List.getElem?_map, hj]; exact congrArg some hq
    rw [hC', List.getElem?_map] at h1
    cases h2 : w1[j]? with
    | none => rw [h2] at h1; cases h1
    | some z =>
      rw [h2] at h1
      cases h1
      exact hP1 j q h2
  · obtain ⟨j, hj⟩ := List.getElem?_of_mem hc
    have h1 : (isR.map (fun i => ws'[i]?))[j]? = some (some q) := by rw [List.getElem?_map, hj]; exact congrArg some hq
    rw [hR, List.getElem?_map, hj] at h1
    have h2 : ws[k]? = some q := Option.some.inj h1
    refine (hP k q h2).kept (hk q.1 (hP k q h2).lt ?_)
    intro h
    rcases h with ⟨k2, e, h⟩ | h
    · have h3 : (isC.map (fun i => ws[i]?))[k2]? = some (some (q.1, e)) := by rw [hC, List.getElem?_map, h]; rfl
      rw [List.getElem?_map] at h3
      cases h4 : isC[k2]? with
      | none => rw [h4] at h3; cases h3
      | some i =>
        rw [h4] at h3
        have h5 : ws[i]? = some (q.1, e) := Option.some.inj h3
        have h6 : k = i := hD.1 k i q (q.1, e) h2 h5 rfl
        subst h6
        exact hdis k hc (List.mem_of_getElem? h4)
    · have h7 := (hP k q h2).lt
      omega
theorem vp_b1 : vp_nar .boolean 1 = 1 := by decide
theorem vp_b0 : vp_nar .boolean 0 = 0 := by decide
theorem nar_b {r : Int32} (h : r = 0 ∨ r = 1) : narrow .boolean (.int r) = .int r := by
  rcases h with rfl | rfl <;> rfl
end
section
theorem zz_end : True := trivial
end
