/-! A STATIC METHOD THAT A SUPERCLASS DECLARES (Jump's weigh asks isSwap, which Slide declares): its call, and the words that the printed lists leave out -/
theorem st_coldUp {Q : Unit → Pre} {E : CtlPost} {e : Env} {d : Bool} {acts : List Action} {s s₀ : State} {f : JFrame} {index ci n cN : Nat} {m : MethodId} {dk ck : Class} {cf : ClassFile} {name desc : String} {via : Bool} (hs : s.topJava?.isSome) (hp : e.platform.polymorphicOnlyByInvokevirtual = true)
    (hW : s₀.WarmedH s.vm) (hE : s₀.MethodEntryUp e s.vm f.method.cls index cN m ci) (h1 : s₀.vm.classes[f.method.cls]? = some dk) (h2 : dk.cf = some cf)
    (h3 : cf.constantPool[index]? = some (if via then .interfaceMethodref ci n else .methodref ci n)) (h4 : cf.constantPool.nameAndType? n = some (name, desc))
    (hck : s₀.vm.classes[cN]? = some ck) (hnone : (ck.methods.any fun x => x.name == name && !x.isStatic && signaturePolymorphic ck x) = false) :
    wp (invokestatic.sem index) Q E e d acts (s.setTop f) ↔ wp (invokestatic.sem index) Q E e d acts ((s.setVm (s.vm.calledUp f.method.cls ci index cN m)).setTop f) := by
  obtain ⟨hgc, hrc, hW₁, hgm⟩ := hE.classFirst
  obtain ⟨k₀, hk₀, he₀⟩ := hW.alike.2.2 _ _ h1
  obtain ⟨k₂, hk₂, he₂⟩ := hE.warmed.alike.2.2 _ _ h1
  obtain ⟨c₁, hc₁, hec₁⟩ := hW₁.alike.2.2 _ _ hck
  obtain ⟨c₂, hc₂, hec₂⟩ := hE.warmed.alike.2.2 _ _ hck
  have hb₀ := memberRef_ask_via (e := e) hk₀ (by rw [he₀]; exact h2) h3 h4
  have hb₂ := memberRef_ask_via (e := e) hk₂ (by rw [he₂]; exact h2) h3 h4
  have hn₁ : (c₁.methods.any fun x => x.name == name && !x.isStatic && signaturePolymorphic c₁ x) = false := by rw [hec₁]; exact hnone
  have hn₂ : (c₂.methods.any fun x => x.name == name && !x.isStatic && signaturePolymorphic c₂ x) = false := by rw [hec₂]; exact hnone
  have hs₁ : (s.setVm (s.vm.noted f.method.cls ci (.cls cN))).topJava?.isSome := hs
  have hs₂ : (s.setVm (s.vm.calledUp f.method.cls ci index cN m)).topJava?.isSome := hs
  have hL : ∀ {Q' : ClassId → Pre} {d' : Bool} {acts' : List Action}, wp (Jvm.resolveClassAt ci) Q' E e d' acts' (s.setTop f) ↔ Q' cN d' acts' ((s.setVm (s.vm.noted f.method.cls ci (.cls cN))).setTop f) :=
    W.resolveClassAt_links (t := s.setTop f) (State.method?_setTop f hs) hgc
  have hM : ∀ {Q' : MethodId → Pre} {d' : Bool} {acts' : List Action}, wp (Jvm.resolveMethodAt index) Q' E e d' acts' ((s.setVm (s.vm.noted f.method.cls ci (.cls cN))).setTop f) ↔ Q' m d' acts' ((s.setVm (s.vm.calledUp f.method.cls ci index cN m)).setTop f) :=
    W.resolveMethodAt_links (t := (s.setVm (s.vm.noted f.method.cls ci (.cls cN))).setTop f) (State.method?_setTop f hs₁) hgm
  simp [invokestatic.sem, hp, Seam.memberRefOf, State.method?_setTop f hs, State.method?_setTop f hs₂, hb₀, hb₂, hL, W.resolveClassAt_ready (s := (s.setVm (s.vm.calledUp f.method.cls ci index cN m)).setTop f) (State.method?_setTop f hs₂) hE.classReady,
    hc₁, hc₂, hn₁, hn₂, hM, W.resolveMethodAt_ready (s := (s.setVm (s.vm.calledUp f.method.cls ci index cN m)).setTop f) (State.method?_setTop f hs₂) hE.ready, -Array.any_eq_true]
theorem st_up {p : Program} {l : Launch} {e : Env} {R : Room} {s : State} {m : MethodId} {args : Array Value} {below : List Frame} {meth : Method} {c : Code} {T : State} {locs : List Loc} {cells slots : Nat} (X : Stand p l e R s m args below meth c T locs cells slots) (hexec : p.tables.exec = Jvm.exec)
    {own owner : String} {index : Nat} {x : MethodName} (hown : s.vm.findClass own = some m.cls) (hlink : (Cond.methodLink own index x).before args s = true)
    (hsame : (Cond.sameMethod x.cls owner x.name x.desc).before args s = true) (howner : owner ≠ "java/lang/invoke/MethodHandle" ∧ owner ≠ "java/lang/invoke/VarHandle")
    {r0 : MethodId} {r : Method} {kr : Class} (hn : s.methodNamed? ⟨owner, x.name, x.desc⟩ = some r0) (hrm : s.vm.method? r0 = some r) (hstatic : r.isStatic = true)
    (hkr : s.vm.classes[r0.cls]? = some kr) (hinit : kr.init = .initialized)
    {g : JFrame} (hg : g.method = m) {argsL rest : List Value} (hlen : argsL.length = r.sig.parameters.length) (hstack : g.stack = argsL.reverse ++ rest)
    (hdg : decode c.code g.pc = .ok (.invokestatic index, 3)) :
    ∃ vm', Stand p l e R s m args below meth c (T.setVm vm') locs cells slots ∧
      ∀ target, (∀ acts, Steps p.tables e below (doInvoke e ((T.setVm vm').setTop { g with stack := rest }) acts r0 argsL.toArray).1 target) → Steps p.tables e below (T.setTop g) target := by
  have hpl : e.platform.magicAccessors = ({} : Platform).magicAccessors := by rw [X.admits.platform]
  have hpv : e.platform.polymorphicOnlyByInvokevirtual = true := by rw [X.admits.platform]
  obtain ⟨cn, ck, r1, hcn, hck, hni, hf, hn1⟩ := Cond.sameMethod_found hsame
  cases hn.symm.trans hn1
  obtain ⟨ci, hl, hright⟩ := Cond.methodLink_specUp hown hcn hck hni hf hlink e.platform hpl (by rw [X.admits.platform])
  have hE : s.MethodEntryUp e T.vm m.cls index cn r0 ci := State.methodEntryUp X.warmed hl hright
  obtain ⟨k1, hk1, hnr⟩ := className_of_methodNamed hn
  cases hkr.symm.trans hk1
  obtain ⟨dk, cfile, nt, mname, mdesc, ck1, _, _, hd, hcf, hcp, hnt, -, -, hck1, -, hnopoly, -⟩ := hl.here
  cases hck.symm.trans hck1
  have alike := hE.warmed.alike
  obtain ⟨dk₂, hdk₂, hed₂⟩ := alike.2.2 _ _ hd
  obtain ⟨ck₂, hck₂, hec₂⟩ := alike.2.2 _ _ hck
  obtain ⟨kr₂, hkr₂, her₂⟩ := alike.2.2 _ _ hkr
  have hnone : (ck.methods.any fun y => y.name == mname && !y.isStatic && signaturePolymorphic ck y) = false := by simp [hnopoly]
  have hnone₂ : (ck₂.methods.any fun y => y.name == mname && !y.isStatic && signaturePolymorphic ck₂ y) = false := by rw [hec₂]; exact hnone
  have hcp' : cfile.constantPool[index]? = some (if false then .interfaceMethodref ci nt else .methodref ci nt) := by simpa using hcp
  refine ⟨T.vm.calledUp m.cls ci index cn r0, X.noted hE.warmed, fun target hrest => ?_⟩
  subst hg
  jvm_step X.here [hexec, hdg, st_coldUp (e := e) (s := T) (s₀ := s) (f := g) (via := false) X.here.top hpv X.warmed hE hd hcf hcp' hnt hck hnone,
    invokestatic.wp_ready (e := e) (s := T.setVm (T.vm.calledUp g.method.cls ci index cn r0)) (k := kr₂) (meth := r) (m := r0) (args := argsL) (rest := rest) (f := g)
      X.here.top ⟨ci, mname, mdesc, false, cn, ck₂, memberRef_ask_via (e := e) hdk₂ (by rw [hed₂]; exact hcf) hcp' hnt, hE.classReady, hck₂, hnone₂⟩ hE.ready hkr₂
      (by show (T.vm.calledUp g.method.cls ci index cn r0).method? r0 = some r; rw [alike.method?]; exact hrm) (by rw [her₂]; show signaturePolymorphic kr r = false; simp [signaturePolymorphic, hnr, howner.1, howner.2]) hstatic (by rw [her₂]; exact hinit) hlen hstack]
  exact fun acts => hrest _
theorem st_run {p : Program} {l : Launch} {e : Env} {R : Room} {s : State} {m : MethodId} {args : Array Value} {below : List Frame} {meth : Method} {c : Code} {H : Heap} {locs : List Loc} {cells slots : Nat} {x y : MethodName} {bytes cc : ByteArray} {maxL nL mc ms n index : Nat} {ret : Option FieldType} {ws : List Cond} {rm : Room} {Pc : Array Value → State → Prop} {Qc : Array Value → State → Outcome → State → Prop} {free : Addr → Prop} {Ts ws' : List Cond} {own : String} {As rest : List Value} {g : JFrame}
    (S : CallFix p m c cc nL s args Ts own) (hM : Met l y ws rm Pc Qc mc ms free) (hG : GoodIn Ts ws) (hw : ws = Cond.code y bytes maxL ret :: ws') (hrc : rm.cells = mc) (hrs : rm.slots = ms)
    (hlink : (Cond.methodLink own index x).before args s = true) (hsame : (Cond.sameMethod x.cls y.cls x.name x.desc).before args s = true) (hyx : y = ⟨y.cls, x.name, x.desc⟩) (hstat : (Cond.static y).before args s = true) (hini : (Cond.initialized y.cls).before args s = true)
    (hd : y.cls ≠ "java/lang/invoke/MethodHandle" ∧ y.cls ≠ "java/lang/invoke/VarHandle" ∧ (parseMethodDescriptor y.desc).map (fun d => d.parameters.length) = some n) (hR : rm.frames + 1 ≤ R.frames ∧ 8 + (maxL + 11) + rm.locals ≤ R.locals)
    (hp : PreS s H Pc As)
    (hg : g.method = m) (hn : As.length = n) (hsize : g.locals.size = nL) (hstack : g.stack = As.reverse ++ rest) (hW : 2 * g.monitorRoom + (rest.map fun v => v.category).sum ≤ 8) (hdg : decode cc g.pc = .ok (.invokestatic index, 3)) (hf : cells + mc ≤ R.cells ∧ slots + ms ≤ R.slots) :
    va_Run p l e R s m args below meth c H locs cells slots mc ms g rest (Qc As.toArray) (free) := by
  obtain ⟨hx, hb, hml, ho, ht⟩ := S
  have hc : Cond.code y bytes maxL ret ∈ ws := by rw [hw]; exact List.mem_cons_self
  have hcode : (Cond.code y bytes maxL ret).before args s = true := ht _ (hG _ hc).1
  have hK : Back l R p e below s args y 3 8 (PreOf R mc ms Pc) (PostOf Qc mc ms free) := back_of (bytes := bytes) (maxL := maxL) (ret := ret) hM hp.1 hrc hrs hR.1 hR.2 (pay_in ht hG) hc (fun a' U hW => word_at hW (Or.inl (by first | rfl | simp [Cond.onTables, Cond.keeps, Cond.steady])) hini)
  have hlen : ∀ sig, parseMethodDescriptor y.desc = some sig → n = sig.parameters.length := fun sig h => by
    have h2 := hd.2.2
    rw [h] at h2
    exact (Option.some.inj h2).symm
  intro T hT X
  obtain ⟨mk, hnamed⟩ := Cond.code_named hcode
  obtain ⟨methM, cM, hmethM, -, -, -, -, -, -, hsigM⟩ := Cond.code_spec hnamed hcode
  have hstatic : methM.isStatic = true := Cond.static_spec hnamed hmethM hstat
  obtain ⟨kP, hkP, -⟩ := className_of_methodNamed hnamed
  have hinitP : kP.init = .initialized := Cond.initialized_spec (findClass_of_methodNamed hnamed) hkP hini
  obtain ⟨vm₁, X₁, hstep₁⟩ := st_up X hx ho hlink hsame ⟨hd.1, hd.2.1⟩ (by rw [← hyx]; exact hnamed) hmethM hstatic hkP hinitP (g := g) hg (argsL := As) (rest := rest) (hn.trans (hlen _ hsigM)) hstack (by rw [hb]; exact hdg)
  obtain ⟨v, B, X', hpost, hsteps⟩ := hK m meth c ⟨T.setVm vm₁, locs, cells, slots⟩ { g with stack := rest } (.invokestatic index) mk As.toArray X₁ hg (hsize.trans hml.symm) (by rw [hb]; exact hdg) hW (X₁.named hnamed) ⟨hf.1, hf.2, hp.2 (T.setVm vm₁) hT X₁.warmed⟩
  obtain ⟨U', l2, c2, s2⟩ := B
  obtain ⟨g', mk', t, L, e1, e2, hq, h1, hL, h2, h3⟩ := hpost
  dsimp only [Pt.U, Pt.locs, Pt.cells, Pt.slots] at X' e1 e2 h1 h2 h3 hsteps
  subst h1; subst h2; subst h3
  exact ⟨v, (T.setVm vm₁).calling g' mk' As.toArray, t, U', L, hT, X', hL, e1, e2, hq, fun target h => hstep₁ _ fun acts => by rw [doInvoke_state]; exact hsteps.trans h⟩
abbrev x_isSwap : MethodName := ⟨"SlidTokens$Jump", "isSwap", "(II)Z"⟩
def wsEx : List Cond := [.methodLink RX1 21 x_isSwap, .sameMethod "SlidTokens$Jump" "SlidTokens$Slide" "isSwap" "(II)Z"]
theorem good_tr {a b d : List Cond} (h1 : GoodIn a b) (h2 : GoodIn b d) : GoodIn a d := fun w h => ⟨(h1 w (h2 w h).1).1, (h2 w h).2⟩
theorem good_big {a b : List Cond} (ex : List Cond) (h : GoodIn a b) : GoodIn (a ++ ex) b := fun w hw => ⟨List.mem_append_left _ (h w hw).1, (h w hw).2⟩
theorem wsEx_ok : wsEx.all goodWord = true := by decide +kernel
theorem good_ex {a b : List Cond} (h : GoodIn a b) : GoodIn (a ++ wsEx) (b ++ wsEx) := fun w hw => (List.mem_append.mp hw).elim (fun h1 => ⟨List.mem_append_left _ (h w h1).1, (h w h1).2⟩) (fun h1 => ⟨List.mem_append_right _ h1, good_of_word (List.all_eq_true.mp wsEx_ok w h1)⟩)
def wsX1_weighE : List Cond := wsX1_weigh ++ wsEx
def wsX0_weighE : List Cond := wsX0_weigh ++ wsEx
def wsX8_weightE : List Cond := wsX8_weight ++ wsEx
theorem gX1_weigh_X6_weigh_s17E : GoodIn wsX1_weighE (va_wsSU RX1 17 yX6_weigh wsX6_weigh) := by
  have h := good_big wsEx gX1_weigh_X6_weigh_s17
  exact h
theorem gX1_weigh_X6_isSwapE : GoodIn wsX1_weighE wsX6_isSwap := by
  have h := good_big wsEx (good_tr ggX1_weigh_X6_weigh ggX6_weigh_X6_isSwap)
  exact h
theorem gX0_weigh_X1_weigh_s17E : GoodIn wsX0_weighE (va_wsSU RX0 17 yX1_weigh wsX1_weighE) := by
  have h := good_ex gX0_weigh_X1_weigh_s17
  exact h
theorem gX0_weigh_J6_bitCount_0f7a4E : GoodIn wsX0_weighE (va_wsS RX0 21 yJ6_bitCount_0f7a4 wsJ6_bitCount_0f7a4) := by
  have h := good_big wsEx gX0_weigh_J6_bitCount_0f7a4
  exact h
theorem gX8_weight_X8_areMovesE : GoodIn wsX8_weightE (va_wsS RX8 114 yX8_areMoves wsX8_areMoves) := by
  have h := good_big wsEx gX8_weight_X8_areMoves
  exact h
theorem gX8_weight_X3_hasSetE : GoodIn wsX8_weightE (wsV RX8 99 RX3 yX3_hasSet wsX3_hasSet) := by
  have h := good_big wsEx gX8_weight_X3_hasSet
  exact h
theorem gX8_weight_X6_weighE : GoodIn wsX8_weightE (wsV RX8 117 RX6 yX6_weigh wsX6_weigh) := by
  have h := good_big wsEx gX8_weight_X6_weigh
  exact h
theorem gX8_weight_X1_weigh_u117X1E : GoodIn wsX8_weightE (va_wsO RX8 117 RX1 "SlidTokens$Slide" ⟨"SlidTokens$Slide", "weigh", "(LSlidTokens$Net;IILSlidTokens$Tally;)I"⟩ yX1_weigh wsX1_weighE) := by
  have h := good_ex gX8_weight_X1_weigh_u117X1
  exact h
theorem gX8_weight_X0_weigh_u117X0E : GoodIn wsX8_weightE (va_wsO RX8 117 RX0 "SlidTokens$Slide" ⟨"SlidTokens$Slide", "weigh", "(LSlidTokens$Net;IILSlidTokens$Tally;)I"⟩ yX0_weigh wsX0_weighE) := by
  have h := good_ex gX8_weight_X0_weigh_u117X0
  exact h
