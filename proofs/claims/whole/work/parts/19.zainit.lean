/-! THE CONSTRUCTORS -/
/-- what the tables say, and what the constructors alone ask -/
def KX (G : va_G) (cy : Nat → ClassId) (U : State) : Prop := KK G cy U ∧ va_AO RX6 U ∧ va_Nw (.methodLinkNest RX8 9 yX3_init "SlidTokens") U ∧ va_Nw (.methodLinkNest RX8 34 yX6_init "SlidTokens") U ∧ va_Nw (.methodLinkNest RX8 37 yX1_init "SlidTokens") U ∧ va_Nw (.methodLinkNest RX1 3 yX6_init "SlidTokens") U ∧ va_Nw (.methodLinkNest RX8 40 yX0_init "SlidTokens") U ∧ va_Nw (.methodLinkNest RX0 3 yX1_init "SlidTokens") U ∧ va_Nw (.methodLinkNest RX8 47 yX7_init "SlidTokens") U ∧ va_Nw (.castable RX1 RX6) U ∧ va_Nw (.castable RX0 RX6) U
theorem KX.warm {G : va_G} {cy : Nat → ClassId} {s U : State} (hW : s.WarmedH U.vm) (h : KX G cy s) : KX G cy U := ⟨KK.warm hW h.1, va_AO.moved hW.alike h.2.1, va_Nw.warmM hW h.2.2.1, va_Nw.warmM hW h.2.2.2.1, va_Nw.warmM hW h.2.2.2.2.1, va_Nw.warmM hW h.2.2.2.2.2.1, va_Nw.warmM hW h.2.2.2.2.2.2.1, va_Nw.warmM hW h.2.2.2.2.2.2.2.1, va_Nw.warmM hW h.2.2.2.2.2.2.2.2.1, va_Nw.warmC hW h.2.2.2.2.2.2.2.2.2.1, va_Nw.warmC hW h.2.2.2.2.2.2.2.2.2.2⟩
theorem KX.call {G : va_G} {cy : Nat → ClassId} {U : State} (g : JFrame) (mk : MethodId) (a : Array Value) (h : KX G cy U) : KX G cy (U.calling g mk a) := ⟨KK.call g mk a h.1, va_AO.moved (u := U) (U := U.calling g mk a) (Vm.Alike.refl U.vm) h.2.1, va_Nw.same rfl rfl h.2.2.1, va_Nw.same rfl rfl h.2.2.2.1, va_Nw.same rfl rfl h.2.2.2.2.1, va_Nw.same rfl rfl h.2.2.2.2.2.1, va_Nw.same rfl rfl h.2.2.2.2.2.2.1, va_Nw.same rfl rfl h.2.2.2.2.2.2.2.1, va_Nw.same rfl rfl h.2.2.2.2.2.2.2.2.1, va_Nw.same rfl rfl h.2.2.2.2.2.2.2.2.2.1, va_Nw.same rfl rfl h.2.2.2.2.2.2.2.2.2.2⟩
def wX (G : va_G) (cy : Nat → ClassId) (sz : Nat) (ws : va_W) (U : State) : Prop := U.heap.size = sz ∧ va_P G vwCl ws U.heap ∧ KX G cy U ∧ va_D (fun _ => True) ws
theorem wX_bl {G : va_G} {cy : Nat → ClassId} {ws : va_W} {sz : Nat} {av : List Value} : FrameBlind (va_Pc av (wX G cy sz ws)) := fun a U g mk q => ⟨q.1, q.2.1, q.2.2.1, KX.call g mk a q.2.2.2.1, q.2.2.2.2⟩
theorem wX_S {G : va_G} {cy : Nat → ClassId} {ws : va_W} {A : Nat → Prop} {s : State} {H : Heap} {As : List Value} (hK : KX G cy s) (hP : va_P G vwCl ws H) (hD : va_D A ws) : PreS s H (va_Pc As (wX G cy H.size ws)) As :=
  ⟨wX_bl, fun U hU hW => ⟨rfl, by rw [hU], by rw [hU]; exact hP, KX.warm hW hK, hD.weaken (fun _ _ _ _ => trivial)⟩⟩
theorem in0_3 : vp_in 0 3 := vp_in_nI (n := 0) (by decide) (by decide)
theorem in1_3 : vp_in 1 3 := vp_in_nI (n := 1) (by decide) (by decide)
theorem in2_3 : vp_in 2 3 := vp_in_nI (n := 2) (by decide) (by decide)
theorem D_nil {A : Nat → Prop} : va_D A [] := ⟨fun i j p q h => by simp at h, fun k q h => by simp at h⟩
theorem ra_int {G : va_G} {cy : Nat → ClassId} {s : State} {cA : ClassId} (h : va_K G vwCl (TY cy ++ [(cA, .int)]) s) : cA = cy 0 := by
  have h1 : s.vm.findClass ("[" ++ FieldType.int.toString) = some cA := (h.2 3 (cA, .int) rfl).2
  have h2 : s.vm.findClass ("[" ++ FieldType.int.toString) = some (cy 0) := (h.2 0 (cy 0, .int) rfl).2
  exact Option.some.inj (h1.symm.trans h2)
theorem ra_boolean {G : va_G} {cy : Nat → ClassId} {s : State} {cA : ClassId} (h : va_K G vwCl (TY cy ++ [(cA, .boolean)]) s) : cA = cy 1 := by
  have h1 : s.vm.findClass ("[" ++ FieldType.boolean.toString) = some cA := (h.2 3 (cA, .boolean) rfl).2
  have h2 : s.vm.findClass ("[" ++ FieldType.boolean.toString) = some (cy 1) := (h.2 1 (cy 1, .boolean) rfl).2
  exact Option.some.inj (h1.symm.trans h2)
theorem ra_obj {G : va_G} {cy : Nat → ClassId} {s : State} {cA : ClassId} (h : va_K G vwCl (TY cy ++ [(cA, .object RX6)]) s) : cA = cy 2 := by
  obtain ⟨_, _, _, _, _, h1⟩ := (h.2 3 (cA, .object RX6) rfl).2
  obtain ⟨_, _, _, _, _, h2⟩ := (h.2 2 (cy 2, .object RX6) rfl).2
  exact Option.some.inj (h1.symm.trans h2)
abbrev rmX6_init : Room := { frames := 1, cells := 0, slots := 0, locals := 12 }
set_option maxHeartbeats 4000000 in
set_option maxRecDepth 100000 in
theorem ct_X6_init (l : Launch) (G : va_G) (cy : Nat → ClassId) (aQ : Nat) (sz : Nat) : Met l yX6_init wsX6_init rmX6_init (va_Pc [.ref aQ] (wX G cy sz [])) (va_Qv (fun (u : Unit) => True) (fun (u : Unit) (t : State) => va_P G vwCl [] t.heap ∧ va_D (va_A [] sz) []) (va_A [] sz)) 0 0 (va_A [] sz) := by
  refine Met.ofW (cc := cX6_init) (maxL := 1) (ret := none) (by decide) rfl ?_
  intro p e s m args below meth c s₁ B hml hv
  obtain ⟨hav, hsz, hP, hK, hD0⟩ := hv
  have hx := B.exec
  have hb := B.bytes
  have hr := B.returns
  have hts := atoms_spec (ws := wsX6_init) B.pre
  have hown : s.vm.findClass RX6 = some m.cls := findClass_of_methodNamed B.named
  have hlocks := B.notSynchronized
  have hin : meth.name = "<init>" := (name_of_methodNamed B.named B.method).1
  subst hsz
  have hD := hD0.self (sz := s.heap.size)
  generalize hAe : va_A [] s.heap.size = A at hD ⊢
  have hA : ∀ q : Nat, s.heap.size ≤ q → A q := fun q h9 => by rw [← hAe]; exact Or.inr h9
  have hS : va_S A s.heap s.heap [] := va_S.rf
  have hl := lv_entry ([.ref aQ]) (n := 1) (Nat.le_of_ble_eq_true rfl)
  rw [show entryFrame m args 1 = entryFrame m ([.ref aQ] : List Value).toArray 1 by rw [hav], lg_entry_eq]
  generalize (lg_sl ([.ref aQ]) ++ List.replicate (1 - (lg_sl ([.ref aQ])).length) Slot.unset).toArray = ls at hl ⊢
  have hl : lv_has ls 1 [(0, .ref aQ)] := hl
  generalize hQe : MQ below _ _ _ _ _ _ = QM
  have hP : va_P G vwCl [] s.heap := hP
  suffices K9 : ∀ (H : Heap) (locs : List Loc), va_P G vwCl [] H → va_D A [] → va_S A s.heap H locs → W p l e (headSpec wsX6_init rmX6_init).room s m args below meth c H locs 0 0 QM (F0 m 0 ls []) from K9 _ _ hP hD hS
  clear hP hD hS
  intro H locs hP hD hS
  refine lv_aload_n hx hb dX6_init_0 rfl (lv_at hl 0 rfl) ?_
  refine W.objInit hx hb hown (hts (.methodLink RX6 3 objectInit) (by decide +kernel)) (hts (.instanceMethod objectInit) (by decide +kernel)) (hts (.code objectInit ⟨#[0xb1]⟩ 1 none) (by decide +kernel)) rfl (by rw [hml]; exact hl.1) rfl dX6_init_1 (Nat.le_of_ble_eq_true rfl) (Nat.le_of_ble_eq_true rfl) ?_
  refine W.eq (g2 := F0 m 4 ls []) rfl ?_
  rw [← hQe]
  have hP9 := hP.sub (ws' := []) [] rfl
  have hD9 := hD.sub (ws' := []) [] (by decide) rfl
  exact W.vret hx hb hr (fun t ht hW => ⟨⟨(), rfl, trivial, by (try dsimp only); rw [ht]; exact hP9, hD9⟩, hS.F ht⟩) hS.2.2 dX6_init_4

abbrev rmX1_init : Room := { frames := 2, cells := 0, slots := 0, locals := 32 }
set_option maxHeartbeats 4000000 in
set_option maxRecDepth 100000 in
theorem ct_X1_init (l : Launch) (G : va_G) (cy : Nat → ClassId) (aQ : Nat) (sz : Nat) : Met l yX1_init wsX1_init rmX1_init (va_Pc [.ref aQ] (wX G cy sz [])) (va_Qv (fun (u : Unit) => True) (fun (u : Unit) (t : State) => va_P G vwCl [] t.heap ∧ va_D (va_A [] sz) []) (va_A [] sz)) 0 0 (va_A [] sz) := by
  refine Met.ofW (cc := cX1_init) (maxL := 1) (ret := none) (by decide) rfl ?_
  intro p e s m args below meth c s₁ B hml hv
  obtain ⟨hav, hsz, hP, hK, hD0⟩ := hv
  have hx := B.exec
  have hb := B.bytes
  have hr := B.returns
  have hts := atoms_spec (ws := wsX1_init) B.pre
  have hown : s.vm.findClass RX1 = some m.cls := findClass_of_methodNamed B.named
  have hlocks := B.notSynchronized
  have hin : meth.name = "<init>" := (name_of_methodNamed B.named B.method).1
  subst hsz
  have hD := hD0.self (sz := s.heap.size)
  generalize hAe : va_A [] s.heap.size = A at hD ⊢
  have hA : ∀ q : Nat, s.heap.size ≤ q → A q := fun q h9 => by rw [← hAe]; exact Or.inr h9
  have hS : va_S A s.heap s.heap [] := va_S.rf
  have hl := lv_entry ([.ref aQ]) (n := 1) (Nat.le_of_ble_eq_true rfl)
  rw [show entryFrame m args 1 = entryFrame m ([.ref aQ] : List Value).toArray 1 by rw [hav], lg_entry_eq]
  generalize (lg_sl ([.ref aQ]) ++ List.replicate (1 - (lg_sl ([.ref aQ])).length) Slot.unset).toArray = ls at hl ⊢
  have hl : lv_has ls 1 [(0, .ref aQ)] := hl
  generalize hQe : MQ below _ _ _ _ _ _ = QM
  have hP : va_P G vwCl [] s.heap := hP
  suffices K9 : ∀ (H : Heap) (locs : List Loc), va_P G vwCl [] H → va_D A [] → va_S A s.heap H locs → W p l e (headSpec wsX1_init rmX1_init).room s m args below meth c H locs 0 0 QM (F0 m 0 ls []) from K9 _ _ hP hD hS
  clear hP hD hS
  intro H locs hP hD hS
  refine lv_aload_n hx hb dX1_init_0 rfl (lv_at hl 0 rfl) ?_
  have hPc : va_P G vwCl [] H := P_nil
  have hDc : va_D A [] := D_nil
  have hFc := va_free (wc := []) hD hS hA [] rfl
  refine va_callv (va_runIN (host := "SlidTokens") (As := []) (rest := []) ⟨hx, hb, hml, hown, hts⟩ (ct_X6_init l G cy aQ H.size) ⟨va_cnB 0 hts gX1_init_X6_init_n3 rfl rfl rfl hK.2.2.2.2.2.1 (hts (.initialized RX6) (by decide +kernel)) (by decide +kernel) ⟨Nat.le_of_ble_eq_true rfl, Nat.le_of_ble_eq_true rfl⟩, rfl, hts (.instanceMethod yX6_init) (by decide +kernel)⟩ (wX_S hK hPc hDc) rfl rfl hl.1 rfl (lv_room (Nat.le_of_ble_eq_true rfl)) dX1_init_1 ⟨Nat.le_of_ble_eq_true rfl, Nat.le_of_ble_eq_true rfl⟩) hS (fun q9 _ h9 => hFc q9 h9) hFc (fun u9 t9 H locs ht9 hvm9 hw9 hB9 hz9 hk9 hS => ?_)
  obtain ⟨hP, hD⟩ := va_join (wr := []) (w1 := []) hP hD [] [] rfl rfl (by decide) (by decide) hk9 hFc (by rw [← ht9]; exact hB9.1) hB9.2
  have hP : va_P G vwCl [] H := hP
  have hD : va_D A [] := hD
  rw [← hQe]
  have hP9 := hP.sub (ws' := []) [] rfl
  have hD9 := hD.sub (ws' := []) [] (by decide) rfl
  exact W.vret hx hb hr (fun t ht hW => ⟨⟨(), rfl, trivial, by (try dsimp only); rw [ht]; exact hP9, hD9⟩, hS.F ht⟩) hS.2.2 dX1_init_4

abbrev rmX0_init : Room := { frames := 3, cells := 0, slots := 0, locals := 52 }
set_option maxHeartbeats 4000000 in
set_option maxRecDepth 100000 in
theorem ct_X0_init (l : Launch) (G : va_G) (cy : Nat → ClassId) (aQ : Nat) (sz : Nat) : Met l yX0_init wsX0_init rmX0_init (va_Pc [.ref aQ] (wX G cy sz [])) (va_Qv (fun (u : Unit) => True) (fun (u : Unit) (t : State) => va_P G vwCl [] t.heap ∧ va_D (va_A [] sz) []) (va_A [] sz)) 0 0 (va_A [] sz) := by
  refine Met.ofW (cc := cX0_init) (maxL := 1) (ret := none) (by decide) rfl ?_
  intro p e s m args below meth c s₁ B hml hv
  obtain ⟨hav, hsz, hP, hK, hD0⟩ := hv
  have hx := B.exec
  have hb := B.bytes
  have hr := B.returns
  have hts := atoms_spec (ws := wsX0_init) B.pre
  have hown : s.vm.findClass RX0 = some m.cls := findClass_of_methodNamed B.named
  have hlocks := B.notSynchronized
  have hin : meth.name = "<init>" := (name_of_methodNamed B.named B.method).1
  subst hsz
  have hD := hD0.self (sz := s.heap.size)
  generalize hAe : va_A [] s.heap.size = A at hD ⊢
  have hA : ∀ q : Nat, s.heap.size ≤ q → A q := fun q h9 => by rw [← hAe]; exact Or.inr h9
  have hS : va_S A s.heap s.heap [] := va_S.rf
  have hl := lv_entry ([.ref aQ]) (n := 1) (Nat.le_of_ble_eq_true rfl)
  rw [show entryFrame m args 1 = entryFrame m ([.ref aQ] : List Value).toArray 1 by rw [hav], lg_entry_eq]
  generalize (lg_sl ([.ref aQ]) ++ List.replicate (1 - (lg_sl ([.ref aQ])).length) Slot.unset).toArray = ls at hl ⊢
  have hl : lv_has ls 1 [(0, .ref aQ)] := hl
  generalize hQe : MQ below _ _ _ _ _ _ = QM
  have hP : va_P G vwCl [] s.heap := hP
  suffices K9 : ∀ (H : Heap) (locs : List Loc), va_P G vwCl [] H → va_D A [] → va_S A s.heap H locs → W p l e (headSpec wsX0_init rmX0_init).room s m args below meth c H locs 0 0 QM (F0 m 0 ls []) from K9 _ _ hP hD hS
  clear hP hD hS
  intro H locs hP hD hS
  refine lv_aload_n hx hb dX0_init_0 rfl (lv_at hl 0 rfl) ?_
  have hPc : va_P G vwCl [] H := P_nil
  have hDc : va_D A [] := D_nil
  have hFc := va_free (wc := []) hD hS hA [] rfl
  refine va_callv (va_runIN (host := "SlidTokens") (As := []) (rest := []) ⟨hx, hb, hml, hown, hts⟩ (ct_X1_init l G cy aQ H.size) ⟨va_cnB 0 hts gX0_init_X1_init_n3 rfl rfl rfl hK.2.2.2.2.2.2.2.1 (hts (.initialized RX1) (by decide +kernel)) (by decide +kernel) ⟨Nat.le_of_ble_eq_true rfl, Nat.le_of_ble_eq_true rfl⟩, rfl, hts (.instanceMethod yX1_init) (by decide +kernel)⟩ (wX_S hK hPc hDc) rfl rfl hl.1 rfl (lv_room (Nat.le_of_ble_eq_true rfl)) dX0_init_1 ⟨Nat.le_of_ble_eq_true rfl, Nat.le_of_ble_eq_true rfl⟩) hS (fun q9 _ h9 => hFc q9 h9) hFc (fun u9 t9 H locs ht9 hvm9 hw9 hB9 hz9 hk9 hS => ?_)
  obtain ⟨hP, hD⟩ := va_join (wr := []) (w1 := []) hP hD [] [] rfl rfl (by decide) (by decide) hk9 hFc (by rw [← ht9]; exact hB9.1) hB9.2
  have hP : va_P G vwCl [] H := hP
  have hD : va_D A [] := hD
  rw [← hQe]
  have hP9 := hP.sub (ws' := []) [] rfl
  have hD9 := hD.sub (ws' := []) [] (by decide) rfl
  exact W.vret hx hb hr (fun t ht hW => ⟨⟨(), rfl, trivial, by (try dsimp only); rw [ht]; exact hP9, hD9⟩, hS.F ht⟩) hS.2.2 dX0_init_4

abbrev rmX7_init : Room := { frames := 1, cells := 0, slots := 0, locals := 12 }
set_option maxHeartbeats 4000000 in
set_option maxRecDepth 100000 in
theorem ct_X7_init (l : Launch) (G : va_G) (cy : Nat → ClassId) (aT : Nat) (sz : Nat) : Met l yX7_init wsX7_init rmX7_init (va_Pc [.ref aT] (wX G cy sz [(aT, .inr (6, [.long 0]))])) (va_Qv (fun (u : Unit) => True) (fun (u : Unit) (t : State) => va_P G vwCl [(aT, .inr (6, [.long 0]))] t.heap ∧ va_D (va_A [(aT, .inr (6, [.long 0]))] sz) [(aT, .inr (6, [.long 0]))]) (va_A [(aT, .inr (6, [.long 0]))] sz)) 0 0 (va_A [(aT, .inr (6, [.long 0]))] sz) := by
  refine Met.ofW (cc := cX7_init) (maxL := 1) (ret := none) (by decide) rfl ?_
  intro p e s m args below meth c s₁ B hml hv
  obtain ⟨hav, hsz, hP, hK, hD0⟩ := hv
  have hx := B.exec
  have hb := B.bytes
  have hr := B.returns
  have hts := atoms_spec (ws := wsX7_init) B.pre
  have hown : s.vm.findClass RX7 = some m.cls := findClass_of_methodNamed B.named
  have hlocks := B.notSynchronized
  have hin : meth.name = "<init>" := (name_of_methodNamed B.named B.method).1
  subst hsz
  have hD := hD0.self (sz := s.heap.size)
  generalize hAe : va_A [(aT, .inr (6, [.long 0]))] s.heap.size = A at hD ⊢
  have hA : ∀ q : Nat, s.heap.size ≤ q → A q := fun q h9 => by rw [← hAe]; exact Or.inr h9
  have hS : va_S A s.heap s.heap [] := va_S.rf
  have hl := lv_entry ([.ref aT]) (n := 1) (Nat.le_of_ble_eq_true rfl)
  rw [show entryFrame m args 1 = entryFrame m ([.ref aT] : List Value).toArray 1 by rw [hav], lg_entry_eq]
  generalize (lg_sl ([.ref aT]) ++ List.replicate (1 - (lg_sl ([.ref aT])).length) Slot.unset).toArray = ls at hl ⊢
  have hl : lv_has ls 1 [(0, .ref aT)] := hl
  generalize hQe : MQ below _ _ _ _ _ _ = QM
  have hP : va_P G vwCl [(aT, .inr (6, [.long 0]))] s.heap := hP
  have fl7 := hts (.fieldLink RX7 7 "SlidTokens$Tally" "sum" "J") (by decide +kernel)
  have iwX7 : ∀ w ∈ wsX70, w ∈ wsX7_init := by decide +kernel
  suffices K9 : ∀ (H : Heap) (locs : List Loc), va_P G vwCl [(aT, .inr (6, [.long 0]))] H → va_D A [(aT, .inr (6, [.long 0]))] → va_S A s.heap H locs → W p l e (headSpec wsX7_init rmX7_init).room s m args below meth c H locs 0 0 QM (F0 m 0 ls []) from K9 _ _ hP hD hS
  clear hP hD hS
  intro H locs hP hD hS
  refine lv_aload_n hx hb dX7_init_0 rfl (lv_at hl 0 rfl) ?_
  refine W.objInit hx hb hown (hts (.methodLink RX7 1 objectInit) (by decide +kernel)) (hts (.instanceMethod objectInit) (by decide +kernel)) (hts (.code objectInit ⟨#[0xb1]⟩ 1 none) (by decide +kernel)) rfl (by rw [hml]; exact hl.1) rfl dX7_init_1 (Nat.le_of_ble_eq_true rfl) (Nat.le_of_ble_eq_true rfl) ?_
  refine W.eq (g2 := F0 m 4 ls []) rfl ?_
  refine lv_aload_n hx hb dX7_init_4 rfl (lv_at hl 0 rfl) ?_
  refine lv_lconst (v := 0) hx hb dX7_init_5 (by decide) ?_
  refine va_put (D := G) (ci := 6) (v := .long 0) (ty := .long) (C := RX7) (T := TX7) (N := 1) hx hb hts iwX7 tyX7 tyX7_ok nmX7 hown hK.1.1 hP hD hS 0 rfl rfl 0 (by decide) fl7 (fun _ h9 => h9) rfl (by decide +kernel) rfl rfl (Nat.le_of_ble_eq_true rfl) dX7_init_6 (fun H locs hP hD hS => ?_)
  have hP : va_P G vwCl [(aT, .inr (6, [.long 0]))] H := hP
  have hD : va_D A [(aT, .inr (6, [.long 0]))] := hD
  rw [← hQe]
  have hP9 := hP.sub (ws' := [(aT, .inr (6, [.long 0]))]) [0] rfl
  have hD9 := hD.sub (ws' := [(aT, .inr (6, [.long 0]))]) [0] (by decide) rfl
  exact W.vret hx hb hr (fun t ht hW => ⟨⟨(), rfl, trivial, by (try dsimp only); rw [ht]; exact hP9, hD9⟩, hS.F ht⟩) hS.2.2 dX7_init_9

abbrev rmX3_init : Room := { frames := 1, cells := 1, slots := 9, locals := 12 }
set_option maxHeartbeats 4000000 in
set_option maxRecDepth 100000 in
theorem ct_X3_init (l : Launch) (G : va_G) (cy : Nat → ClassId) (aN : Nat) (sz : Nat) : Met l yX3_init wsX3_init rmX3_init (va_Pc [.ref aN] (wX G cy sz [(aN, .inr (3, [.null, .int 0]))])) (va_Qv (fun (u : Nat) => True) (fun (u : Nat) (t : State) => va_P G vwCl [(aN, .inr (3, [.ref u, .int 5])), (u, .inl (cy 0, 9, .inl (fun _ => 0)))] t.heap ∧ va_D (va_A [(aN, .inr (3, [.null, .int 0]))] sz) [(aN, .inr (3, [.ref u, .int 5])), (u, .inl (cy 0, 9, .inl (fun _ => 0)))]) (va_A [(aN, .inr (3, [.null, .int 0]))] sz)) 1 9 (va_A [(aN, .inr (3, [.null, .int 0]))] sz) := by
  refine Met.ofW (cc := cX3_init) (maxL := 1) (ret := none) (by decide) rfl ?_
  intro p e s m args below meth c s₁ B hml hv
  obtain ⟨hav, hsz, hP, hK, hD0⟩ := hv
  have hx := B.exec
  have hb := B.bytes
  have hr := B.returns
  have hts := atoms_spec (ws := wsX3_init) B.pre
  have hown : s.vm.findClass RX3 = some m.cls := findClass_of_methodNamed B.named
  have hlocks := B.notSynchronized
  have hin : meth.name = "<init>" := (name_of_methodNamed B.named B.method).1
  subst hsz
  have hD := hD0.self (sz := s.heap.size)
  generalize hAe : va_A [(aN, .inr (3, [.null, .int 0]))] s.heap.size = A at hD ⊢
  have hA : ∀ q : Nat, s.heap.size ≤ q → A q := fun q h9 => by rw [← hAe]; exact Or.inr h9
  have hS : va_S A s.heap s.heap [] := va_S.rf
  have hl := lv_entry ([.ref aN]) (n := 1) (Nat.le_of_ble_eq_true rfl)
  rw [show entryFrame m args 1 = entryFrame m ([.ref aN] : List Value).toArray 1 by rw [hav], lg_entry_eq]
  generalize (lg_sl ([.ref aN]) ++ List.replicate (1 - (lg_sl ([.ref aN])).length) Slot.unset).toArray = ls at hl ⊢
  have hl : lv_has ls 1 [(0, .ref aN)] := hl
  generalize hQe : MQ below _ _ _ _ _ _ = QM
  have hP : va_P G vwCl [(aN, .inr (3, [.null, .int 0]))] s.heap := hP
  have fl9 := hts (.fieldLink RX3 9 "SlidTokens$Net" "near" "[I") (by decide +kernel)
  have iwX3 : ∀ w ∈ wsX30, w ∈ wsX3_init := by decide +kernel
  have fl15 := hts (.fieldLink RX3 15 "SlidTokens$Net" "nodes" "I") (by decide +kernel)
  suffices K9 : ∀ (H : Heap) (locs : List Loc), va_P G vwCl [(aN, .inr (3, [.null, .int 0]))] H → va_D A [(aN, .inr (3, [.null, .int 0]))] → va_S A s.heap H locs → W p l e (headSpec wsX3_init rmX3_init).room s m args below meth c H locs 0 0 QM (F0 m 0 ls []) from K9 _ _ hP hD hS
  clear hP hD hS
  intro H locs hP hD hS
  refine lv_aload_n hx hb dX3_init_0 rfl (lv_at hl 0 rfl) ?_
  refine W.objInit hx hb hown (hts (.methodLink RX3 3 objectInit) (by decide +kernel)) (hts (.instanceMethod objectInit) (by decide +kernel)) (hts (.code objectInit ⟨#[0xb1]⟩ 1 none) (by decide +kernel)) rfl (by rw [hml]; exact hl.1) rfl dX3_init_1 (Nat.le_of_ble_eq_true rfl) (Nat.le_of_ble_eq_true rfl) ?_
  refine W.eq (g2 := F0 m 4 ls []) rfl ?_
  refine lv_aload_n hx hb dX3_init_4 rfl (lv_at hl 0 rfl) ?_
  refine lv_bipush (v := 9) hx hb dX3_init_5 (by decide) ?_
  refine va_newa (atype := .int) (ty := .int) (N' := 9) (a0 := (9, .inl (fun _ => 0))) hx hb (hts (.arrayClass .int) (by decide +kernel)) rfl hK.1.1 hP hD hS hA (fun cA => rfl) (by decide) (by decide) (by decide) (Nat.le_of_ble_eq_true rfl) (Nat.le_of_ble_eq_true rfl) dX3_init_7 (fun n0 cA H hKn hP hD hS => ?_)
  obtain rfl : cA = cy 0 := ra_int hKn
  have hP : va_P G vwCl [(aN, .inr (3, [.null, .int 0])), (n0, .inl (cy 0, 9, .inl (fun _ => 0)))] H := hP
  have hD : va_D A [(aN, .inr (3, [.null, .int 0])), (n0, .inl (cy 0, 9, .inl (fun _ => 0)))] := hD
  refine va_putF (D := G) (ci := 3) (v := .ref n0) (ty := .array .int) (C := RX3) (T := TX3) (N := 2) hx hb hts iwX3 tyX3 tyX3_ok nmX3 hown hK.1.1 hP hD hS 0 rfl rfl 0 (by decide) fl9 (fun _ h9 => h9) rfl hin rfl (by decide +kernel) rfl rfl (Nat.le_of_ble_eq_true rfl) dX3_init_9 (fun H locs hP hD hS => ?_)
  have hP : va_P G vwCl [(aN, .inr (3, [.ref n0, .int 0])), (n0, .inl (cy 0, 9, .inl (fun _ => 0)))] H := hP
  have hD : va_D A [(aN, .inr (3, [.ref n0, .int 0])), (n0, .inl (cy 0, 9, .inl (fun _ => 0)))] := hD
  refine lv_aload_n hx hb dX3_init_12 rfl (lv_at hl 0 rfl) ?_
  refine lv_iconst (v := 5) hx hb dX3_init_13 (by decide) ?_
  refine va_put (D := G) (ci := 3) (v := .int 5) (ty := .int) (C := RX3) (T := TX3) (N := 2) hx hb hts iwX3 tyX3 tyX3_ok nmX3 hown hK.1.1 hP hD hS 0 rfl rfl 1 (by decide) fl15 (fun _ h9 => h9) rfl (by decide +kernel) rfl rfl (Nat.le_of_ble_eq_true rfl) dX3_init_14 (fun H locs hP hD hS => ?_)
  have hP : va_P G vwCl [(aN, .inr (3, [.ref n0, .int 5])), (n0, .inl (cy 0, 9, .inl (fun _ => 0)))] H := hP
  have hD : va_D A [(aN, .inr (3, [.ref n0, .int 5])), (n0, .inl (cy 0, 9, .inl (fun _ => 0)))] := hD
  rw [← hQe]
  have hP9 := hP.sub (ws' := [(aN, .inr (3, [.ref n0, .int 5])), (n0, .inl (cy 0, 9, .inl (fun _ => 0)))]) [0, 1] rfl
  have hD9 := hD.sub (ws' := [(aN, .inr (3, [.ref n0, .int 5])), (n0, .inl (cy 0, 9, .inl (fun _ => 0)))]) [0, 1] (by decide) rfl
  exact W.vret hx hb hr (fun t ht hW => ⟨⟨n0, rfl, trivial, by (try dsimp only); rw [ht]; exact hP9, hD9⟩, hS.F ht⟩) hS.2.2 dX3_init_17

abbrev rmX5_init_M : Room := { frames := 1, cells := 4, slots := 1186, locals := 12 }
set_option maxHeartbeats 4000000 in
set_option maxRecDepth 100000 in
theorem ct_X5_init_M (l : Launch) (G : va_G) (cy : Nat → ClassId) (aM : Nat) (sz : Nat) : Met l yX5_init wsX5_init rmX5_init_M (va_Pc [.ref aM, .int 512, .int 81] (wX G cy sz [(aM, .inr (2, [.null, .null, .null, .null, .int 0, .int 0, .int 0, .null, .int 0]))])) (va_Qv (fun (u : Nat × Nat × Nat × Nat) => True) (fun (u : Nat × Nat × Nat × Nat) (t : State) => va_P G vwCl [(aM, .inr (2, [.ref u.1, .ref u.2.1, .ref u.2.2.1, .ref u.2.2.2, .int 0, .int 0, .int 0, .null, .int 0])), (u.1, .inl (cy 0, 512, .inl (fun _ => 0))), (u.2.1, .inl (cy 0, 512, .inl (fun _ => 0))), (u.2.2.1, .inl (cy 0, 81, .inl (fun _ => 0))), (u.2.2.2, .inl (cy 0, 81, .inl (fun _ => 0)))] t.heap ∧ va_D (va_A [(aM, .inr (2, [.null, .null, .null, .null, .int 0, .int 0, .int 0, .null, .int 0]))] sz) [(aM, .inr (2, [.ref u.1, .ref u.2.1, .ref u.2.2.1, .ref u.2.2.2, .int 0, .int 0, .int 0, .null, .int 0])), (u.1, .inl (cy 0, 512, .inl (fun _ => 0))), (u.2.1, .inl (cy 0, 512, .inl (fun _ => 0))), (u.2.2.1, .inl (cy 0, 81, .inl (fun _ => 0))), (u.2.2.2, .inl (cy 0, 81, .inl (fun _ => 0)))]) (va_A [(aM, .inr (2, [.null, .null, .null, .null, .int 0, .int 0, .int 0, .null, .int 0]))] sz)) 4 1186 (va_A [(aM, .inr (2, [.null, .null, .null, .null, .int 0, .int 0, .int 0, .null, .int 0]))] sz) := by
  refine Met.ofW (cc := cX5_init) (maxL := 3) (ret := none) (by decide) rfl ?_
  intro p e s m args below meth c s₁ B hml hv
  obtain ⟨hav, hsz, hP, hK, hD0⟩ := hv
  have hx := B.exec
  have hb := B.bytes
  have hr := B.returns
  have hts := atoms_spec (ws := wsX5_init) B.pre
  have hown : s.vm.findClass RX5 = some m.cls := findClass_of_methodNamed B.named
  have hlocks := B.notSynchronized
  have hin : meth.name = "<init>" := (name_of_methodNamed B.named B.method).1
  subst hsz
  have hD := hD0.self (sz := s.heap.size)
  generalize hAe : va_A [(aM, .inr (2, [.null, .null, .null, .null, .int 0, .int 0, .int 0, .null, .int 0]))] s.heap.size = A at hD ⊢
  have hA : ∀ q : Nat, s.heap.size ≤ q → A q := fun q h9 => by rw [← hAe]; exact Or.inr h9
  have hS : va_S A s.heap s.heap [] := va_S.rf
  have hl := lv_entry ([.ref aM, .int 512, .int 81]) (n := 3) (Nat.le_of_ble_eq_true rfl)
  rw [show entryFrame m args 3 = entryFrame m ([.ref aM, .int 512, .int 81] : List Value).toArray 3 by rw [hav], lg_entry_eq]
  generalize (lg_sl ([.ref aM, .int 512, .int 81]) ++ List.replicate (3 - (lg_sl ([.ref aM, .int 512, .int 81])).length) Slot.unset).toArray = ls at hl ⊢
  have hl : lv_has ls 3 [(0, .ref aM), (1, .int 512), (2, .int 81)] := hl
  generalize hQe : MQ below _ _ _ _ _ _ = QM
  have hP : va_P G vwCl [(aM, .inr (2, [.null, .null, .null, .null, .int 0, .int 0, .int 0, .null, .int 0]))] s.heap := hP
  have fl9 := hts (.fieldLink RX5 9 "SlidTokens$Search" "size" "I") (by decide +kernel)
  have iwX2 : ∀ w ∈ wsX20, w ∈ wsX5_init := by decide +kernel
  have fl15 := hts (.fieldLink RX5 15 "SlidTokens$Search" "tail" "I") (by decide +kernel)
  have fl18 := hts (.fieldLink RX5 18 "SlidTokens$Search" "found" "I") (by decide +kernel)
  have fl21 := hts (.fieldLink RX5 21 "SlidTokens$Search" "far" "[I") (by decide +kernel)
  have fl25 := hts (.fieldLink RX5 25 "SlidTokens$Search" "line" "[I") (by decide +kernel)
  have fl28 := hts (.fieldLink RX5 28 "SlidTokens$Search" "next" "[I") (by decide +kernel)
  have fl31 := hts (.fieldLink RX5 31 "SlidTokens$Search" "cost" "[I") (by decide +kernel)
  suffices K9 : ∀ (H : Heap) (locs : List Loc), va_P G vwCl [(aM, .inr (2, [.null, .null, .null, .null, .int 0, .int 0, .int 0, .null, .int 0]))] H → va_D A [(aM, .inr (2, [.null, .null, .null, .null, .int 0, .int 0, .int 0, .null, .int 0]))] → va_S A s.heap H locs → W p l e (headSpec wsX5_init rmX5_init_M).room s m args below meth c H locs 0 0 QM (F0 m 0 ls []) from K9 _ _ hP hD hS
  clear hP hD hS
  intro H locs hP hD hS
  refine lv_aload_n hx hb dX5_init_0 rfl (lv_at hl 0 rfl) ?_
  refine W.objInit hx hb hown (hts (.methodLink RX5 3 objectInit) (by decide +kernel)) (hts (.instanceMethod objectInit) (by decide +kernel)) (hts (.code objectInit ⟨#[0xb1]⟩ 1 none) (by decide +kernel)) rfl (by rw [hml]; exact hl.1) rfl dX5_init_1 (Nat.le_of_ble_eq_true rfl) (Nat.le_of_ble_eq_true rfl) ?_
  refine W.eq (g2 := F0 m 4 ls []) rfl ?_
  refine lv_aload_n hx hb dX5_init_4 rfl (lv_at hl 0 rfl) ?_
  refine lv_iconst (v := 0) hx hb dX5_init_5 (by decide) ?_
  refine va_put (D := G) (ci := 2) (v := .int 0) (ty := .int) (C := RX2) (T := TX2) (N := 9) hx hb hts iwX2 tyX2 tyX2_ok nmX2 hown hK.1.1 hP hD hS 0 rfl rfl 4 (by decide) fl9 (fun _ h9 => h9) rfl (by decide +kernel) rfl rfl (Nat.le_of_ble_eq_true rfl) dX5_init_6 (fun H locs hP hD hS => ?_)
  have hP : va_P G vwCl [(aM, .inr (2, [.null, .null, .null, .null, .int 0, .int 0, .int 0, .null, .int 0]))] H := hP
  have hD : va_D A [(aM, .inr (2, [.null, .null, .null, .null, .int 0, .int 0, .int 0, .null, .int 0]))] := hD
  refine lv_aload_n hx hb dX5_init_9 rfl (lv_at hl 0 rfl) ?_
  refine lv_iconst (v := 0) hx hb dX5_init_10 (by decide) ?_
  refine va_put (D := G) (ci := 2) (v := .int 0) (ty := .int) (C := RX2) (T := TX2) (N := 9) hx hb hts iwX2 tyX2 tyX2_ok nmX2 hown hK.1.1 hP hD hS 0 rfl rfl 5 (by decide) fl15 (fun _ h9 => h9) rfl (by decide +kernel) rfl rfl (Nat.le_of_ble_eq_true rfl) dX5_init_11 (fun H locs hP hD hS => ?_)
  have hP : va_P G vwCl [(aM, .inr (2, [.null, .null, .null, .null, .int 0, .int 0, .int 0, .null, .int 0]))] H := hP
  have hD : va_D A [(aM, .inr (2, [.null, .null, .null, .null, .int 0, .int 0, .int 0, .null, .int 0]))] := hD
  refine lv_aload_n hx hb dX5_init_14 rfl (lv_at hl 0 rfl) ?_
  refine lv_iconst (v := 0) hx hb dX5_init_15 (by decide) ?_
  refine va_put (D := G) (ci := 2) (v := .int 0) (ty := .int) (C := RX2) (T := TX2) (N := 9) hx hb hts iwX2 tyX2 tyX2_ok nmX2 hown hK.1.1 hP hD hS 0 rfl rfl 6 (by decide) fl18 (fun _ h9 => h9) rfl (by decide +kernel) rfl rfl (Nat.le_of_ble_eq_true rfl) dX5_init_16 (fun H locs hP hD hS => ?_)
  have hP : va_P G vwCl [(aM, .inr (2, [.null, .null, .null, .null, .int 0, .int 0, .int 0, .null, .int 0]))] H := hP
  have hD : va_D A [(aM, .inr (2, [.null, .null, .null, .null, .int 0, .int 0, .int 0, .null, .int 0]))] := hD
  refine lv_aload_n hx hb dX5_init_19 rfl (lv_at hl 0 rfl) ?_
  refine lv_iload_n hx hb dX5_init_20 rfl (lv_at hl 1 rfl) ?_
  refine va_newa (atype := .int) (ty := .int) (N' := 512) (a0 := (512, .inl (fun _ => 0))) hx hb (hts (.arrayClass .int) (by decide +kernel)) rfl hK.1.1 hP hD hS hA (fun cA => rfl) (by decide) (by decide) (by decide) (Nat.le_of_ble_eq_true rfl) (Nat.le_of_ble_eq_true rfl) dX5_init_21 (fun n0 cA H hKn hP hD hS => ?_)
  obtain rfl : cA = cy 0 := ra_int hKn
  have hP : va_P G vwCl [(aM, .inr (2, [.null, .null, .null, .null, .int 0, .int 0, .int 0, .null, .int 0])), (n0, .inl (cy 0, 512, .inl (fun _ => 0)))] H := hP
  have hD : va_D A [(aM, .inr (2, [.null, .null, .null, .null, .int 0, .int 0, .int 0, .null, .int 0])), (n0, .inl (cy 0, 512, .inl (fun _ => 0)))] := hD
  refine va_putF (D := G) (ci := 2) (v := .ref n0) (ty := .array .int) (C := RX2) (T := TX2) (N := 9) hx hb hts iwX2 tyX2 tyX2_ok nmX2 hown hK.1.1 hP hD hS 0 rfl rfl 0 (by decide) fl21 (fun _ h9 => h9) rfl hin rfl (by decide +kernel) rfl rfl (Nat.le_of_ble_eq_true rfl) dX5_init_23 (fun H locs hP hD hS => ?_)
  have hP : va_P G vwCl [(aM, .inr (2, [.ref n0, .null, .null, .null, .int 0, .int 0, .int 0, .null, .int 0])), (n0, .inl (cy 0, 512, .inl (fun _ => 0)))] H := hP
  have hD : va_D A [(aM, .inr (2, [.ref n0, .null, .null, .null, .int 0, .int 0, .int 0, .null, .int 0])), (n0, .inl (cy 0, 512, .inl (fun _ => 0)))] := hD
  refine lv_aload_n hx hb dX5_init_26 rfl (lv_at hl 0 rfl) ?_
  refine lv_iload_n hx hb dX5_init_27 rfl (lv_at hl 1 rfl) ?_
  refine va_newa (atype := .int) (ty := .int) (N' := 512) (a0 := (512, .inl (fun _ => 0))) hx hb (hts (.arrayClass .int) (by decide +kernel)) rfl hK.1.1 hP hD hS hA (fun cA => rfl) (by decide) (by decide) (by decide) (Nat.le_of_ble_eq_true rfl) (Nat.le_of_ble_eq_true rfl) dX5_init_28 (fun n1 cA H hKn hP hD hS => ?_)
  obtain rfl : cA = cy 0 := ra_int hKn
  have hP : va_P G vwCl [(aM, .inr (2, [.ref n0, .null, .null, .null, .int 0, .int 0, .int 0, .null, .int 0])), (n0, .inl (cy 0, 512, .inl (fun _ => 0))), (n1, .inl (cy 0, 512, .inl (fun _ => 0)))] H := hP
  have hD : va_D A [(aM, .inr (2, [.ref n0, .null, .null, .null, .int 0, .int 0, .int 0, .null, .int 0])), (n0, .inl (cy 0, 512, .inl (fun _ => 0))), (n1, .inl (cy 0, 512, .inl (fun _ => 0)))] := hD
  refine va_putF (D := G) (ci := 2) (v := .ref n1) (ty := .array .int) (C := RX2) (T := TX2) (N := 9) hx hb hts iwX2 tyX2 tyX2_ok nmX2 hown hK.1.1 hP hD hS 0 rfl rfl 1 (by decide) fl25 (fun _ h9 => h9) rfl hin rfl (by decide +kernel) rfl rfl (Nat.le_of_ble_eq_true rfl) dX5_init_30 (fun H locs hP hD hS => ?_)
  have hP : va_P G vwCl [(aM, .inr (2, [.ref n0, .ref n1, .null, .null, .int 0, .int 0, .int 0, .null, .int 0])), (n0, .inl (cy 0, 512, .inl (fun _ => 0))), (n1, .inl (cy 0, 512, .inl (fun _ => 0)))] H := hP
  have hD : va_D A [(aM, .inr (2, [.ref n0, .ref n1, .null, .null, .int 0, .int 0, .int 0, .null, .int 0])), (n0, .inl (cy 0, 512, .inl (fun _ => 0))), (n1, .inl (cy 0, 512, .inl (fun _ => 0)))] := hD
  refine lv_aload_n hx hb dX5_init_33 rfl (lv_at hl 0 rfl) ?_
  refine lv_iload_n hx hb dX5_init_34 rfl (lv_at hl 2 rfl) ?_
  refine va_newa (atype := .int) (ty := .int) (N' := 81) (a0 := (81, .inl (fun _ => 0))) hx hb (hts (.arrayClass .int) (by decide +kernel)) rfl hK.1.1 hP hD hS hA (fun cA => rfl) (by decide) (by decide) (by decide) (Nat.le_of_ble_eq_true rfl) (Nat.le_of_ble_eq_true rfl) dX5_init_35 (fun n2 cA H hKn hP hD hS => ?_)
  obtain rfl : cA = cy 0 := ra_int hKn
  have hP : va_P G vwCl [(aM, .inr (2, [.ref n0, .ref n1, .null, .null, .int 0, .int 0, .int 0, .null, .int 0])), (n0, .inl (cy 0, 512, .inl (fun _ => 0))), (n1, .inl (cy 0, 512, .inl (fun _ => 0))), (n2, .inl (cy 0, 81, .inl (fun _ => 0)))] H := hP
  have hD : va_D A [(aM, .inr (2, [.ref n0, .ref n1, .null, .null, .int 0, .int 0, .int 0, .null, .int 0])), (n0, .inl (cy 0, 512, .inl (fun _ => 0))), (n1, .inl (cy 0, 512, .inl (fun _ => 0))), (n2, .inl (cy 0, 81, .inl (fun _ => 0)))] := hD
  refine va_putF (D := G) (ci := 2) (v := .ref n2) (ty := .array .int) (C := RX2) (T := TX2) (N := 9) hx hb hts iwX2 tyX2 tyX2_ok nmX2 hown hK.1.1 hP hD hS 0 rfl rfl 2 (by decide) fl28 (fun _ h9 => h9) rfl hin rfl (by decide +kernel) rfl rfl (Nat.le_of_ble_eq_true rfl) dX5_init_37 (fun H locs hP hD hS => ?_)
  have hP : va_P G vwCl [(aM, .inr (2, [.ref n0, .ref n1, .ref n2, .null, .int 0, .int 0, .int 0, .null, .int 0])), (n0, .inl (cy 0, 512, .inl (fun _ => 0))), (n1, .inl (cy 0, 512, .inl (fun _ => 0))), (n2, .inl (cy 0, 81, .inl (fun _ => 0)))] H := hP
  have hD : va_D A [(aM, .inr (2, [.ref n0, .ref n1, .ref n2, .null, .int 0, .int 0, .int 0, .null, .int 0])), (n0, .inl (cy 0, 512, .inl (fun _ => 0))), (n1, .inl (cy 0, 512, .inl (fun _ => 0))), (n2, .inl (cy 0, 81, .inl (fun _ => 0)))] := hD
  refine lv_aload_n hx hb dX5_init_40 rfl (lv_at hl 0 rfl) ?_
  refine lv_iload_n hx hb dX5_init_41 rfl (lv_at hl 2 rfl) ?_
  refine va_newa (atype := .int) (ty := .int) (N' := 81) (a0 := (81, .inl (fun _ => 0))) hx hb (hts (.arrayClass .int) (by decide +kernel)) rfl hK.1.1 hP hD hS hA (fun cA => rfl) (by decide) (by decide) (by decide) (Nat.le_of_ble_eq_true rfl) (Nat.le_of_ble_eq_true rfl) dX5_init_42 (fun n3 cA H hKn hP hD hS => ?_)
  obtain rfl : cA = cy 0 := ra_int hKn
  have hP : va_P G vwCl [(aM, .inr (2, [.ref n0, .ref n1, .ref n2, .null, .int 0, .int 0, .int 0, .null, .int 0])), (n0, .inl (cy 0, 512, .inl (fun _ => 0))), (n1, .inl (cy 0, 512, .inl (fun _ => 0))), (n2, .inl (cy 0, 81, .inl (fun _ => 0))), (n3, .inl (cy 0, 81, .inl (fun _ => 0)))] H := hP
  have hD : va_D A [(aM, .inr (2, [.ref n0, .ref n1, .ref n2, .null, .int 0, .int 0, .int 0, .null, .int 0])), (n0, .inl (cy 0, 512, .inl (fun _ => 0))), (n1, .inl (cy 0, 512, .inl (fun _ => 0))), (n2, .inl (cy 0, 81, .inl (fun _ => 0))), (n3, .inl (cy 0, 81, .inl (fun _ => 0)))] := hD
  refine va_putF (D := G) (ci := 2) (v := .ref n3) (ty := .array .int) (C := RX2) (T := TX2) (N := 9) hx hb hts iwX2 tyX2 tyX2_ok nmX2 hown hK.1.1 hP hD hS 0 rfl rfl 3 (by decide) fl31 (fun _ h9 => h9) rfl hin rfl (by decide +kernel) rfl rfl (Nat.le_of_ble_eq_true rfl) dX5_init_44 (fun H locs hP hD hS => ?_)
  have hP : va_P G vwCl [(aM, .inr (2, [.ref n0, .ref n1, .ref n2, .ref n3, .int 0, .int 0, .int 0, .null, .int 0])), (n0, .inl (cy 0, 512, .inl (fun _ => 0))), (n1, .inl (cy 0, 512, .inl (fun _ => 0))), (n2, .inl (cy 0, 81, .inl (fun _ => 0))), (n3, .inl (cy 0, 81, .inl (fun _ => 0)))] H := hP
  have hD : va_D A [(aM, .inr (2, [.ref n0, .ref n1, .ref n2, .ref n3, .int 0, .int 0, .int 0, .null, .int 0])), (n0, .inl (cy 0, 512, .inl (fun _ => 0))), (n1, .inl (cy 0, 512, .inl (fun _ => 0))), (n2, .inl (cy 0, 81, .inl (fun _ => 0))), (n3, .inl (cy 0, 81, .inl (fun _ => 0)))] := hD
  rw [← hQe]
  have hP9 := hP.sub (ws' := [(aM, .inr (2, [.ref n0, .ref n1, .ref n2, .ref n3, .int 0, .int 0, .int 0, .null, .int 0])), (n0, .inl (cy 0, 512, .inl (fun _ => 0))), (n1, .inl (cy 0, 512, .inl (fun _ => 0))), (n2, .inl (cy 0, 81, .inl (fun _ => 0))), (n3, .inl (cy 0, 81, .inl (fun _ => 0)))]) [0, 1, 2, 3, 4] rfl
  have hD9 := hD.sub (ws' := [(aM, .inr (2, [.ref n0, .ref n1, .ref n2, .ref n3, .int 0, .int 0, .int 0, .null, .int 0])), (n0, .inl (cy 0, 512, .inl (fun _ => 0))), (n1, .inl (cy 0, 512, .inl (fun _ => 0))), (n2, .inl (cy 0, 81, .inl (fun _ => 0))), (n3, .inl (cy 0, 81, .inl (fun _ => 0)))]) [0, 1, 2, 3, 4] (by decide) rfl
  exact W.vret hx hb hr (fun t ht hW => ⟨⟨(n0, n1, n2, n3), rfl, trivial, by (try dsimp only); rw [ht]; exact hP9, hD9⟩, hS.F ht⟩) hS.2.2 dX5_init_47

abbrev rmX5_init_P : Room := { frames := 1, cells := 4, slots := 8240, locals := 12 }
set_option maxHeartbeats 4000000 in
set_option maxRecDepth 100000 in
theorem ct_X5_init_P (l : Launch) (G : va_G) (cy : Nat → ClassId) (aP : Nat) (sz : Nat) : Met l yX5_init wsX5_init rmX5_init_P (va_Pc [.ref aP, .int 4096, .int 24] (wX G cy sz [(aP, .inr (4, [.null, .null, .null, .null, .int 0, .int 0, .int 0, .null, .int 0]))])) (va_Qv (fun (u : Nat × Nat × Nat × Nat) => True) (fun (u : Nat × Nat × Nat × Nat) (t : State) => va_P G vwCl [(aP, .inr (4, [.ref u.1, .ref u.2.1, .ref u.2.2.1, .ref u.2.2.2, .int 0, .int 0, .int 0, .null, .int 0])), (u.1, .inl (cy 0, 4096, .inl (fun _ => 0))), (u.2.1, .inl (cy 0, 4096, .inl (fun _ => 0))), (u.2.2.1, .inl (cy 0, 24, .inl (fun _ => 0))), (u.2.2.2, .inl (cy 0, 24, .inl (fun _ => 0)))] t.heap ∧ va_D (va_A [(aP, .inr (4, [.null, .null, .null, .null, .int 0, .int 0, .int 0, .null, .int 0]))] sz) [(aP, .inr (4, [.ref u.1, .ref u.2.1, .ref u.2.2.1, .ref u.2.2.2, .int 0, .int 0, .int 0, .null, .int 0])), (u.1, .inl (cy 0, 4096, .inl (fun _ => 0))), (u.2.1, .inl (cy 0, 4096, .inl (fun _ => 0))), (u.2.2.1, .inl (cy 0, 24, .inl (fun _ => 0))), (u.2.2.2, .inl (cy 0, 24, .inl (fun _ => 0)))]) (va_A [(aP, .inr (4, [.null, .null, .null, .null, .int 0, .int 0, .int 0, .null, .int 0]))] sz)) 4 8240 (va_A [(aP, .inr (4, [.null, .null, .null, .null, .int 0, .int 0, .int 0, .null, .int 0]))] sz) := by
  refine Met.ofW (cc := cX5_init) (maxL := 3) (ret := none) (by decide) rfl ?_
  intro p e s m args below meth c s₁ B hml hv
  obtain ⟨hav, hsz, hP, hK, hD0⟩ := hv
  have hx := B.exec
  have hb := B.bytes
  have hr := B.returns
  have hts := atoms_spec (ws := wsX5_init) B.pre
  have hown : s.vm.findClass RX5 = some m.cls := findClass_of_methodNamed B.named
  have hlocks := B.notSynchronized
  have hin : meth.name = "<init>" := (name_of_methodNamed B.named B.method).1
  subst hsz
  have hD := hD0.self (sz := s.heap.size)
  generalize hAe : va_A [(aP, .inr (4, [.null, .null, .null, .null, .int 0, .int 0, .int 0, .null, .int 0]))] s.heap.size = A at hD ⊢
  have hA : ∀ q : Nat, s.heap.size ≤ q → A q := fun q h9 => by rw [← hAe]; exact Or.inr h9
  have hS : va_S A s.heap s.heap [] := va_S.rf
  have hl := lv_entry ([.ref aP, .int 4096, .int 24]) (n := 3) (Nat.le_of_ble_eq_true rfl)
  rw [show entryFrame m args 3 = entryFrame m ([.ref aP, .int 4096, .int 24] : List Value).toArray 3 by rw [hav], lg_entry_eq]
  generalize (lg_sl ([.ref aP, .int 4096, .int 24]) ++ List.replicate (3 - (lg_sl ([.ref aP, .int 4096, .int 24])).length) Slot.unset).toArray = ls at hl ⊢
  have hl : lv_has ls 3 [(0, .ref aP), (1, .int 4096), (2, .int 24)] := hl
  generalize hQe : MQ below _ _ _ _ _ _ = QM
  have hP : va_P G vwCl [(aP, .inr (4, [.null, .null, .null, .null, .int 0, .int 0, .int 0, .null, .int 0]))] s.heap := hP
  have fl9 := hts (.fieldLink RX5 9 "SlidTokens$Search" "size" "I") (by decide +kernel)
  have iwX4 : ∀ w ∈ wsX40, w ∈ wsX5_init := by decide +kernel
  have fl15 := hts (.fieldLink RX5 15 "SlidTokens$Search" "tail" "I") (by decide +kernel)
  have fl18 := hts (.fieldLink RX5 18 "SlidTokens$Search" "found" "I") (by decide +kernel)
  have fl21 := hts (.fieldLink RX5 21 "SlidTokens$Search" "far" "[I") (by decide +kernel)
  have fl25 := hts (.fieldLink RX5 25 "SlidTokens$Search" "line" "[I") (by decide +kernel)
  have fl28 := hts (.fieldLink RX5 28 "SlidTokens$Search" "next" "[I") (by decide +kernel)
  have fl31 := hts (.fieldLink RX5 31 "SlidTokens$Search" "cost" "[I") (by decide +kernel)
  suffices K9 : ∀ (H : Heap) (locs : List Loc), va_P G vwCl [(aP, .inr (4, [.null, .null, .null, .null, .int 0, .int 0, .int 0, .null, .int 0]))] H → va_D A [(aP, .inr (4, [.null, .null, .null, .null, .int 0, .int 0, .int 0, .null, .int 0]))] → va_S A s.heap H locs → W p l e (headSpec wsX5_init rmX5_init_P).room s m args below meth c H locs 0 0 QM (F0 m 0 ls []) from K9 _ _ hP hD hS
  clear hP hD hS
  intro H locs hP hD hS
  refine lv_aload_n hx hb dX5_init_0 rfl (lv_at hl 0 rfl) ?_
  refine W.objInit hx hb hown (hts (.methodLink RX5 3 objectInit) (by decide +kernel)) (hts (.instanceMethod objectInit) (by decide +kernel)) (hts (.code objectInit ⟨#[0xb1]⟩ 1 none) (by decide +kernel)) rfl (by rw [hml]; exact hl.1) rfl dX5_init_1 (Nat.le_of_ble_eq_true rfl) (Nat.le_of_ble_eq_true rfl) ?_
  refine W.eq (g2 := F0 m 4 ls []) rfl ?_
  refine lv_aload_n hx hb dX5_init_4 rfl (lv_at hl 0 rfl) ?_
  refine lv_iconst (v := 0) hx hb dX5_init_5 (by decide) ?_
  refine va_put (D := G) (ci := 4) (v := .int 0) (ty := .int) (C := RX4) (T := TX4) (N := 9) hx hb hts iwX4 tyX4 tyX4_ok nmX4 hown hK.1.1 hP hD hS 0 rfl rfl 4 (by decide) fl9 (fun _ h9 => h9) rfl (by decide +kernel) rfl rfl (Nat.le_of_ble_eq_true rfl) dX5_init_6 (fun H locs hP hD hS => ?_)
  have hP : va_P G vwCl [(aP, .inr (4, [.null, .null, .null, .null, .int 0, .int 0, .int 0, .null, .int 0]))] H := hP
  have hD : va_D A [(aP, .inr (4, [.null, .null, .null, .null, .int 0, .int 0, .int 0, .null, .int 0]))] := hD
  refine lv_aload_n hx hb dX5_init_9 rfl (lv_at hl 0 rfl) ?_
  refine lv_iconst (v := 0) hx hb dX5_init_10 (by decide) ?_
  refine va_put (D := G) (ci := 4) (v := .int 0) (ty := .int) (C := RX4) (T := TX4) (N := 9) hx hb hts iwX4 tyX4 tyX4_ok nmX4 hown hK.1.1 hP hD hS 0 rfl rfl 5 (by decide) fl15 (fun _ h9 => h9) rfl (by decide +kernel) rfl rfl (Nat.le_of_ble_eq_true rfl) dX5_init_11 (fun H locs hP hD hS => ?_)
  have hP : va_P G vwCl [(aP, .inr (4, [.null, .null, .null, .null, .int 0, .int 0, .int 0, .null, .int 0]))] H := hP
  have hD : va_D A [(aP, .inr (4, [.null, .null, .null, .null, .int 0, .int 0, .int 0, .null, .int 0]))] := hD
  refine lv_aload_n hx hb dX5_init_14 rfl (lv_at hl 0 rfl) ?_
  refine lv_iconst (v := 0) hx hb dX5_init_15 (by decide) ?_
  refine va_put (D := G) (ci := 4) (v := .int 0) (ty := .int) (C := RX4) (T := TX4) (N := 9) hx hb hts iwX4 tyX4 tyX4_ok nmX4 hown hK.1.1 hP hD hS 0 rfl rfl 6 (by decide) fl18 (fun _ h9 => h9) rfl (by decide +kernel) rfl rfl (Nat.le_of_ble_eq_true rfl) dX5_init_16 (fun H locs hP hD hS => ?_)
  have hP : va_P G vwCl [(aP, .inr (4, [.null, .null, .null, .null, .int 0, .int 0, .int 0, .null, .int 0]))] H := hP
  have hD : va_D A [(aP, .inr (4, [.null, .null, .null, .null, .int 0, .int 0, .int 0, .null, .int 0]))] := hD
  refine lv_aload_n hx hb dX5_init_19 rfl (lv_at hl 0 rfl) ?_
  refine lv_iload_n hx hb dX5_init_20 rfl (lv_at hl 1 rfl) ?_
  refine va_newa (atype := .int) (ty := .int) (N' := 4096) (a0 := (4096, .inl (fun _ => 0))) hx hb (hts (.arrayClass .int) (by decide +kernel)) rfl hK.1.1 hP hD hS hA (fun cA => rfl) (by decide) (by decide) (by decide) (Nat.le_of_ble_eq_true rfl) (Nat.le_of_ble_eq_true rfl) dX5_init_21 (fun n0 cA H hKn hP hD hS => ?_)
  obtain rfl : cA = cy 0 := ra_int hKn
  have hP : va_P G vwCl [(aP, .inr (4, [.null, .null, .null, .null, .int 0, .int 0, .int 0, .null, .int 0])), (n0, .inl (cy 0, 4096, .inl (fun _ => 0)))] H := hP
  have hD : va_D A [(aP, .inr (4, [.null, .null, .null, .null, .int 0, .int 0, .int 0, .null, .int 0])), (n0, .inl (cy 0, 4096, .inl (fun _ => 0)))] := hD
  refine va_putF (D := G) (ci := 4) (v := .ref n0) (ty := .array .int) (C := RX4) (T := TX4) (N := 9) hx hb hts iwX4 tyX4 tyX4_ok nmX4 hown hK.1.1 hP hD hS 0 rfl rfl 0 (by decide) fl21 (fun _ h9 => h9) rfl hin rfl (by decide +kernel) rfl rfl (Nat.le_of_ble_eq_true rfl) dX5_init_23 (fun H locs hP hD hS => ?_)
  have hP : va_P G vwCl [(aP, .inr (4, [.ref n0, .null, .null, .null, .int 0, .int 0, .int 0, .null, .int 0])), (n0, .inl (cy 0, 4096, .inl (fun _ => 0)))] H := hP
  have hD : va_D A [(aP, .inr (4, [.ref n0, .null, .null, .null, .int 0, .int 0, .int 0, .null, .int 0])), (n0, .inl (cy 0, 4096, .inl (fun _ => 0)))] := hD
  refine lv_aload_n hx hb dX5_init_26 rfl (lv_at hl 0 rfl) ?_
  refine lv_iload_n hx hb dX5_init_27 rfl (lv_at hl 1 rfl) ?_
  refine va_newa (atype := .int) (ty := .int) (N' := 4096) (a0 := (4096, .inl (fun _ => 0))) hx hb (hts (.arrayClass .int) (by decide +kernel)) rfl hK.1.1 hP hD hS hA (fun cA => rfl) (by decide) (by decide) (by decide) (Nat.le_of_ble_eq_true rfl) (Nat.le_of_ble_eq_true rfl) dX5_init_28 (fun n1 cA H hKn hP hD hS => ?_)
  obtain rfl : cA = cy 0 := ra_int hKn
  have hP : va_P G vwCl [(aP, .inr (4, [.ref n0, .null, .null, .null, .int 0, .int 0, .int 0, .null, .int 0])), (n0, .inl (cy 0, 4096, .inl (fun _ => 0))), (n1, .inl (cy 0, 4096, .inl (fun _ => 0)))] H := hP
  have hD : va_D A [(aP, .inr (4, [.ref n0, .null, .null, .null, .int 0, .int 0, .int 0, .null, .int 0])), (n0, .inl (cy 0, 4096, .inl (fun _ => 0))), (n1, .inl (cy 0, 4096, .inl (fun _ => 0)))] := hD
  refine va_putF (D := G) (ci := 4) (v := .ref n1) (ty := .array .int) (C := RX4) (T := TX4) (N := 9) hx hb hts iwX4 tyX4 tyX4_ok nmX4 hown hK.1.1 hP hD hS 0 rfl rfl 1 (by decide) fl25 (fun _ h9 => h9) rfl hin rfl (by decide +kernel) rfl rfl (Nat.le_of_ble_eq_true rfl) dX5_init_30 (fun H locs hP hD hS => ?_)
  have hP : va_P G vwCl [(aP, .inr (4, [.ref n0, .ref n1, .null, .null, .int 0, .int 0, .int 0, .null, .int 0])), (n0, .inl (cy 0, 4096, .inl (fun _ => 0))), (n1, .inl (cy 0, 4096, .inl (fun _ => 0)))] H := hP
  have hD : va_D A [(aP, .inr (4, [.ref n0, .ref n1, .null, .null, .int 0, .int 0, .int 0, .null, .int 0])), (n0, .inl (cy 0, 4096, .inl (fun _ => 0))), (n1, .inl (cy 0, 4096, .inl (fun _ => 0)))] := hD
  refine lv_aload_n hx hb dX5_init_33 rfl (lv_at hl 0 rfl) ?_
  refine lv_iload_n hx hb dX5_init_34 rfl (lv_at hl 2 rfl) ?_
  refine va_newa (atype := .int) (ty := .int) (N' := 24) (a0 := (24, .inl (fun _ => 0))) hx hb (hts (.arrayClass .int) (by decide +kernel)) rfl hK.1.1 hP hD hS hA (fun cA => rfl) (by decide) (by decide) (by decide) (Nat.le_of_ble_eq_true rfl) (Nat.le_of_ble_eq_true rfl) dX5_init_35 (fun n2 cA H hKn hP hD hS => ?_)
  obtain rfl : cA = cy 0 := ra_int hKn
  have hP : va_P G vwCl [(aP, .inr (4, [.ref n0, .ref n1, .null, .null, .int 0, .int 0, .int 0, .null, .int 0])), (n0, .inl (cy 0, 4096, .inl (fun _ => 0))), (n1, .inl (cy 0, 4096, .inl (fun _ => 0))), (n2, .inl (cy 0, 24, .inl (fun _ => 0)))] H := hP
  have hD : va_D A [(aP, .inr (4, [.ref n0, .ref n1, .null, .null, .int 0, .int 0, .int 0, .null, .int 0])), (n0, .inl (cy 0, 4096, .inl (fun _ => 0))), (n1, .inl (cy 0, 4096, .inl (fun _ => 0))), (n2, .inl (cy 0, 24, .inl (fun _ => 0)))] := hD
  refine va_putF (D := G) (ci := 4) (v := .ref n2) (ty := .array .int) (C := RX4) (T := TX4) (N := 9) hx hb hts iwX4 tyX4 tyX4_ok nmX4 hown hK.1.1 hP hD hS 0 rfl rfl 2 (by decide) fl28 (fun _ h9 => h9) rfl hin rfl (by decide +kernel) rfl rfl (Nat.le_of_ble_eq_true rfl) dX5_init_37 (fun H locs hP hD hS => ?_)
  have hP : va_P G vwCl [(aP, .inr (4, [.ref n0, .ref n1, .ref n2, .null, .int 0, .int 0, .int 0, .null, .int 0])), (n0, .inl (cy 0, 4096, .inl (fun _ => 0))), (n1, .inl (cy 0, 4096, .inl (fun _ => 0))), (n2, .inl (cy 0, 24, .inl (fun _ => 0)))] H := hP
  have hD : va_D A [(aP, .inr (4, [.ref n0, .ref n1, .ref n2, .null, .int 0, .int 0, .int 0, .null, .int 0])), (n0, .inl (cy 0, 4096, .inl (fun _ => 0))), (n1, .inl (cy 0, 4096, .inl (fun _ => 0))), (n2, .inl (cy 0, 24, .inl (fun _ => 0)))] := hD
  refine lv_aload_n hx hb dX5_init_40 rfl (lv_at hl 0 rfl) ?_
  refine lv_iload_n hx hb dX5_init_41 rfl (lv_at hl 2 rfl) ?_
  refine va_newa (atype := .int) (ty := .int) (N' := 24) (a0 := (24, .inl (fun _ => 0))) hx hb (hts (.arrayClass .int) (by decide +kernel)) rfl hK.1.1 hP hD hS hA (fun cA => rfl) (by decide) (by decide) (by decide) (Nat.le_of_ble_eq_true rfl) (Nat.le_of_ble_eq_true rfl) dX5_init_42 (fun n3 cA H hKn hP hD hS => ?_)
  obtain rfl : cA = cy 0 := ra_int hKn
  have hP : va_P G vwCl [(aP, .inr (4, [.ref n0, .ref n1, .ref n2, .null, .int 0, .int 0, .int 0, .null, .int 0])), (n0, .inl (cy 0, 4096, .inl (fun _ => 0))), (n1, .inl (cy 0, 4096, .inl (fun _ => 0))), (n2, .inl (cy 0, 24, .inl (fun _ => 0))), (n3, .inl (cy 0, 24, .inl (fun _ => 0)))] H := hP
  have hD : va_D A [(aP, .inr (4, [.ref n0, .ref n1, .ref n2, .null, .int 0, .int 0, .int 0, .null, .int 0])), (n0, .inl (cy 0, 4096, .inl (fun _ => 0))), (n1, .inl (cy 0, 4096, .inl (fun _ => 0))), (n2, .inl (cy 0, 24, .inl (fun _ => 0))), (n3, .inl (cy 0, 24, .inl (fun _ => 0)))] := hD
  refine va_putF (D := G) (ci := 4) (v := .ref n3) (ty := .array .int) (C := RX4) (T := TX4) (N := 9) hx hb hts iwX4 tyX4 tyX4_ok nmX4 hown hK.1.1 hP hD hS 0 rfl rfl 3 (by decide) fl31 (fun _ h9 => h9) rfl hin rfl (by decide +kernel) rfl rfl (Nat.le_of_ble_eq_true rfl) dX5_init_44 (fun H locs hP hD hS => ?_)
  have hP : va_P G vwCl [(aP, .inr (4, [.ref n0, .ref n1, .ref n2, .ref n3, .int 0, .int 0, .int 0, .null, .int 0])), (n0, .inl (cy 0, 4096, .inl (fun _ => 0))), (n1, .inl (cy 0, 4096, .inl (fun _ => 0))), (n2, .inl (cy 0, 24, .inl (fun _ => 0))), (n3, .inl (cy 0, 24, .inl (fun _ => 0)))] H := hP
  have hD : va_D A [(aP, .inr (4, [.ref n0, .ref n1, .ref n2, .ref n3, .int 0, .int 0, .int 0, .null, .int 0])), (n0, .inl (cy 0, 4096, .inl (fun _ => 0))), (n1, .inl (cy 0, 4096, .inl (fun _ => 0))), (n2, .inl (cy 0, 24, .inl (fun _ => 0))), (n3, .inl (cy 0, 24, .inl (fun _ => 0)))] := hD
  rw [← hQe]
  have hP9 := hP.sub (ws' := [(aP, .inr (4, [.ref n0, .ref n1, .ref n2, .ref n3, .int 0, .int 0, .int 0, .null, .int 0])), (n0, .inl (cy 0, 4096, .inl (fun _ => 0))), (n1, .inl (cy 0, 4096, .inl (fun _ => 0))), (n2, .inl (cy 0, 24, .inl (fun _ => 0))), (n3, .inl (cy 0, 24, .inl (fun _ => 0)))]) [0, 1, 2, 3, 4] rfl
  have hD9 := hD.sub (ws' := [(aP, .inr (4, [.ref n0, .ref n1, .ref n2, .ref n3, .int 0, .int 0, .int 0, .null, .int 0])), (n0, .inl (cy 0, 4096, .inl (fun _ => 0))), (n1, .inl (cy 0, 4096, .inl (fun _ => 0))), (n2, .inl (cy 0, 24, .inl (fun _ => 0))), (n3, .inl (cy 0, 24, .inl (fun _ => 0)))]) [0, 1, 2, 3, 4] (by decide) rfl
  exact W.vret hx hb hr (fun t ht hW => ⟨⟨(n0, n1, n2, n3), rfl, trivial, by (try dsimp only); rw [ht]; exact hP9, hD9⟩, hS.F ht⟩) hS.2.2 dX5_init_47

abbrev rmX2_init : Room := { frames := 2, cells := 4, slots := 1186, locals := 34 }
set_option maxHeartbeats 4000000 in
set_option maxRecDepth 100000 in
theorem ct_X2_init (l : Launch) (G : va_G) (cy : Nat → ClassId) (aM aN : Nat) (sz : Nat) : Met l yX2_init wsX2_init rmX2_init (va_Pc [.ref aM, .ref aN] (wX G cy sz [(aM, .inr (2, [.null, .null, .null, .null, .int 0, .int 0, .int 0, .null, .int 0]))])) (va_Qv (fun (u : Nat × Nat × Nat × Nat) => True) (fun (u : Nat × Nat × Nat × Nat) (t : State) => va_P G vwCl [(aM, .inr (2, [.ref u.1, .ref u.2.1, .ref u.2.2.1, .ref u.2.2.2, .int 0, .int 0, .int 0, .ref aN, .int 0])), (u.1, .inl (cy 0, 512, .inl (fun _ => 0))), (u.2.1, .inl (cy 0, 512, .inl (fun _ => 0))), (u.2.2.1, .inl (cy 0, 81, .inl (fun _ => 0))), (u.2.2.2, .inl (cy 0, 81, .inl (fun _ => 0)))] t.heap ∧ va_D (va_A [(aM, .inr (2, [.null, .null, .null, .null, .int 0, .int 0, .int 0, .null, .int 0]))] sz) [(aM, .inr (2, [.ref u.1, .ref u.2.1, .ref u.2.2.1, .ref u.2.2.2, .int 0, .int 0, .int 0, .ref aN, .int 0])), (u.1, .inl (cy 0, 512, .inl (fun _ => 0))), (u.2.1, .inl (cy 0, 512, .inl (fun _ => 0))), (u.2.2.1, .inl (cy 0, 81, .inl (fun _ => 0))), (u.2.2.2, .inl (cy 0, 81, .inl (fun _ => 0)))]) (va_A [(aM, .inr (2, [.null, .null, .null, .null, .int 0, .int 0, .int 0, .null, .int 0]))] sz)) 4 1186 (va_A [(aM, .inr (2, [.null, .null, .null, .null, .int 0, .int 0, .int 0, .null, .int 0]))] sz) := by
  refine Met.ofW (cc := cX2_init) (maxL := 2) (ret := none) (by decide) rfl ?_
  intro p e s m args below meth c s₁ B hml hv
  obtain ⟨hav, hsz, hP, hK, hD0⟩ := hv
  have hx := B.exec
  have hb := B.bytes
  have hr := B.returns
  have hts := atoms_spec (ws := wsX2_init) B.pre
  have hown : s.vm.findClass RX2 = some m.cls := findClass_of_methodNamed B.named
  have hlocks := B.notSynchronized
  have hin : meth.name = "<init>" := (name_of_methodNamed B.named B.method).1
  subst hsz
  have hD := hD0.self (sz := s.heap.size)
  generalize hAe : va_A [(aM, .inr (2, [.null, .null, .null, .null, .int 0, .int 0, .int 0, .null, .int 0]))] s.heap.size = A at hD ⊢
  have hA : ∀ q : Nat, s.heap.size ≤ q → A q := fun q h9 => by rw [← hAe]; exact Or.inr h9
  have hS : va_S A s.heap s.heap [] := va_S.rf
  have hl := lv_entry ([.ref aM, .ref aN]) (n := 2) (Nat.le_of_ble_eq_true rfl)
  rw [show entryFrame m args 2 = entryFrame m ([.ref aM, .ref aN] : List Value).toArray 2 by rw [hav], lg_entry_eq]
  generalize (lg_sl ([.ref aM, .ref aN]) ++ List.replicate (2 - (lg_sl ([.ref aM, .ref aN])).length) Slot.unset).toArray = ls at hl ⊢
  have hl : lv_has ls 2 [(0, .ref aM), (1, .ref aN)] := hl
  generalize hQe : MQ below _ _ _ _ _ _ = QM
  have hP : va_P G vwCl [(aM, .inr (2, [.null, .null, .null, .null, .int 0, .int 0, .int 0, .null, .int 0]))] s.heap := hP
  have fl9 := hts (.fieldLink RX2 9 "SlidTokens$Marks" "moves" "I") (by decide +kernel)
  have iwX2 : ∀ w ∈ wsX20, w ∈ wsX2_init := by decide +kernel
  have fl15 := hts (.fieldLink RX2 15 "SlidTokens$Marks" "net" "LSlidTokens$Net;") (by decide +kernel)
  suffices K9 : ∀ (H : Heap) (locs : List Loc), va_P G vwCl [(aM, .inr (2, [.null, .null, .null, .null, .int 0, .int 0, .int 0, .null, .int 0]))] H → va_D A [(aM, .inr (2, [.null, .null, .null, .null, .int 0, .int 0, .int 0, .null, .int 0]))] → va_S A s.heap H locs → W p l e (headSpec wsX2_init rmX2_init).room s m args below meth c H locs 0 0 QM (F0 m 0 ls []) from K9 _ _ hP hD hS
  clear hP hD hS
  intro H locs hP hD hS
  refine lv_aload_n hx hb dX2_init_0 rfl (lv_at hl 0 rfl) ?_
  refine lv_sipush (v := 512) hx hb dX2_init_1 (by decide) ?_
  refine lv_bipush (v := 81) hx hb dX2_init_4 (by decide) ?_
  have hPc : va_P G vwCl [(aM, .inr (2, [.null, .null, .null, .null, .int 0, .int 0, .int 0, .null, .int 0]))] H := hP.sub [0] rfl
  have hDc : va_D A [(aM, .inr (2, [.null, .null, .null, .null, .int 0, .int 0, .int 0, .null, .int 0]))] := hD.sub [0] (by decide) rfl
  have hFc := va_free (wc := [(aM, .inr (2, [.null, .null, .null, .null, .int 0, .int 0, .int 0, .null, .int 0]))]) hD hS hA [0] rfl
  refine va_callv (va_runI (As := [.int 512, .int 81]) (rest := []) ⟨hx, hb, hml, hown, hts⟩ (ct_X5_init_M l G cy aM H.size) (cwI 2 hts gX2_init_X5_init rfl rfl rfl (hts (.initialized RX5) (by decide +kernel)) (hts (.methodLink RX2 3 yX5_init) (by decide +kernel)) (hts (.instanceMethod yX5_init) (by decide +kernel)) rfl (by decide +kernel) ⟨Nat.le_of_ble_eq_true rfl, Nat.le_of_ble_eq_true rfl⟩) (wX_S hK hPc hDc) rfl rfl hl.1 rfl (lv_room (Nat.le_of_ble_eq_true rfl)) dX2_init_6 ⟨Nat.le_of_ble_eq_true rfl, Nat.le_of_ble_eq_true rfl⟩) hS (fun q9 _ h9 => hFc q9 h9) hFc (fun u9 t9 H locs ht9 hvm9 hw9 hB9 hz9 hk9 hS => ?_)
  obtain ⟨n0, n1, n2, n3⟩ := u9
  obtain ⟨hP, hD⟩ := va_join (wr := []) (w1 := [(aM, .inr (2, [.ref n0, .ref n1, .ref n2, .ref n3, .int 0, .int 0, .int 0, .null, .int 0])), (n0, .inl (cy 0, 512, .inl (fun _ => 0))), (n1, .inl (cy 0, 512, .inl (fun _ => 0))), (n2, .inl (cy 0, 81, .inl (fun _ => 0))), (n3, .inl (cy 0, 81, .inl (fun _ => 0)))]) hP hD [0] [] rfl rfl (by decide) (by decide) hk9 hFc (by rw [← ht9]; exact hB9.1) hB9.2
  have hP : va_P G vwCl [(aM, .inr (2, [.ref n0, .ref n1, .ref n2, .ref n3, .int 0, .int 0, .int 0, .null, .int 0])), (n0, .inl (cy 0, 512, .inl (fun _ => 0))), (n1, .inl (cy 0, 512, .inl (fun _ => 0))), (n2, .inl (cy 0, 81, .inl (fun _ => 0))), (n3, .inl (cy 0, 81, .inl (fun _ => 0)))] H := hP
  have hD : va_D A [(aM, .inr (2, [.ref n0, .ref n1, .ref n2, .ref n3, .int 0, .int 0, .int 0, .null, .int 0])), (n0, .inl (cy 0, 512, .inl (fun _ => 0))), (n1, .inl (cy 0, 512, .inl (fun _ => 0))), (n2, .inl (cy 0, 81, .inl (fun _ => 0))), (n3, .inl (cy 0, 81, .inl (fun _ => 0)))] := hD
  refine lv_aload_n hx hb dX2_init_9 rfl (lv_at hl 0 rfl) ?_
  refine lv_iconst (v := 0) hx hb dX2_init_10 (by decide) ?_
  refine va_put (D := G) (ci := 2) (v := .int 0) (ty := .int) (C := RX2) (T := TX2) (N := 9) hx hb hts iwX2 tyX2 tyX2_ok nmX2 hown hK.1.1 hP hD hS 0 rfl rfl 8 (by decide) fl9 (fun _ h9 => h9) rfl (by decide +kernel) rfl rfl (Nat.le_of_ble_eq_true rfl) dX2_init_11 (fun H locs hP hD hS => ?_)
  have hP : va_P G vwCl [(aM, .inr (2, [.ref n0, .ref n1, .ref n2, .ref n3, .int 0, .int 0, .int 0, .null, .int 0])), (n0, .inl (cy 0, 512, .inl (fun _ => 0))), (n1, .inl (cy 0, 512, .inl (fun _ => 0))), (n2, .inl (cy 0, 81, .inl (fun _ => 0))), (n3, .inl (cy 0, 81, .inl (fun _ => 0)))] H := hP
  have hD : va_D A [(aM, .inr (2, [.ref n0, .ref n1, .ref n2, .ref n3, .int 0, .int 0, .int 0, .null, .int 0])), (n0, .inl (cy 0, 512, .inl (fun _ => 0))), (n1, .inl (cy 0, 512, .inl (fun _ => 0))), (n2, .inl (cy 0, 81, .inl (fun _ => 0))), (n3, .inl (cy 0, 81, .inl (fun _ => 0)))] := hD
  refine lv_aload_n hx hb dX2_init_14 rfl (lv_at hl 0 rfl) ?_
  refine lv_aload_n hx hb dX2_init_15 rfl (lv_at hl 1 rfl) ?_
  refine va_putF (D := G) (ci := 2) (v := .ref aN) (ty := .object "SlidTokens$Net") (C := RX2) (T := TX2) (N := 9) hx hb hts iwX2 tyX2 tyX2_ok nmX2 hown hK.1.1 hP hD hS 0 rfl rfl 7 (by decide) fl15 (fun _ h9 => h9) rfl hin rfl (by decide +kernel) rfl rfl (Nat.le_of_ble_eq_true rfl) dX2_init_16 (fun H locs hP hD hS => ?_)
  have hP : va_P G vwCl [(aM, .inr (2, [.ref n0, .ref n1, .ref n2, .ref n3, .int 0, .int 0, .int 0, .ref aN, .int 0])), (n0, .inl (cy 0, 512, .inl (fun _ => 0))), (n1, .inl (cy 0, 512, .inl (fun _ => 0))), (n2, .inl (cy 0, 81, .inl (fun _ => 0))), (n3, .inl (cy 0, 81, .inl (fun _ => 0)))] H := hP
  have hD : va_D A [(aM, .inr (2, [.ref n0, .ref n1, .ref n2, .ref n3, .int 0, .int 0, .int 0, .ref aN, .int 0])), (n0, .inl (cy 0, 512, .inl (fun _ => 0))), (n1, .inl (cy 0, 512, .inl (fun _ => 0))), (n2, .inl (cy 0, 81, .inl (fun _ => 0))), (n3, .inl (cy 0, 81, .inl (fun _ => 0)))] := hD
  rw [← hQe]
  have hP9 := hP.sub (ws' := [(aM, .inr (2, [.ref n0, .ref n1, .ref n2, .ref n3, .int 0, .int 0, .int 0, .ref aN, .int 0])), (n0, .inl (cy 0, 512, .inl (fun _ => 0))), (n1, .inl (cy 0, 512, .inl (fun _ => 0))), (n2, .inl (cy 0, 81, .inl (fun _ => 0))), (n3, .inl (cy 0, 81, .inl (fun _ => 0)))]) [0, 1, 2, 3, 4] rfl
  have hD9 := hD.sub (ws' := [(aM, .inr (2, [.ref n0, .ref n1, .ref n2, .ref n3, .int 0, .int 0, .int 0, .ref aN, .int 0])), (n0, .inl (cy 0, 512, .inl (fun _ => 0))), (n1, .inl (cy 0, 512, .inl (fun _ => 0))), (n2, .inl (cy 0, 81, .inl (fun _ => 0))), (n3, .inl (cy 0, 81, .inl (fun _ => 0)))]) [0, 1, 2, 3, 4] (by decide) rfl
  exact W.vret hx hb hr (fun t ht hW => ⟨⟨(n0, n1, n2, n3), rfl, trivial, by (try dsimp only); rw [ht]; exact hP9, hD9⟩, hS.F ht⟩) hS.2.2 dX2_init_19

abbrev rmX4_init : Room := { frames := 2, cells := 4, slots := 8240, locals := 34 }
set_option maxHeartbeats 4000000 in
set_option maxRecDepth 100000 in
theorem ct_X4_init (l : Launch) (G : va_G) (cy : Nat → ClassId) (aP aN : Nat) (sz : Nat) : Met l yX4_init wsX4_init rmX4_init (va_Pc [.ref aP, .ref aN] (wX G cy sz [(aP, .inr (4, [.null, .null, .null, .null, .int 0, .int 0, .int 0, .null, .int 0]))])) (va_Qv (fun (u : Nat × Nat × Nat × Nat) => True) (fun (u : Nat × Nat × Nat × Nat) (t : State) => va_P G vwCl [(aP, .inr (4, [.ref u.1, .ref u.2.1, .ref u.2.2.1, .ref u.2.2.2, .int 0, .int 0, .int 0, .ref aN, .int 3])), (u.1, .inl (cy 0, 4096, .inl (fun _ => 0))), (u.2.1, .inl (cy 0, 4096, .inl (fun _ => 0))), (u.2.2.1, .inl (cy 0, 24, .inl (fun _ => 0))), (u.2.2.2, .inl (cy 0, 24, .inl (fun _ => 0)))] t.heap ∧ va_D (va_A [(aP, .inr (4, [.null, .null, .null, .null, .int 0, .int 0, .int 0, .null, .int 0]))] sz) [(aP, .inr (4, [.ref u.1, .ref u.2.1, .ref u.2.2.1, .ref u.2.2.2, .int 0, .int 0, .int 0, .ref aN, .int 3])), (u.1, .inl (cy 0, 4096, .inl (fun _ => 0))), (u.2.1, .inl (cy 0, 4096, .inl (fun _ => 0))), (u.2.2.1, .inl (cy 0, 24, .inl (fun _ => 0))), (u.2.2.2, .inl (cy 0, 24, .inl (fun _ => 0)))]) (va_A [(aP, .inr (4, [.null, .null, .null, .null, .int 0, .int 0, .int 0, .null, .int 0]))] sz)) 4 8240 (va_A [(aP, .inr (4, [.null, .null, .null, .null, .int 0, .int 0, .int 0, .null, .int 0]))] sz) := by
  refine Met.ofW (cc := cX4_init) (maxL := 2) (ret := none) (by decide) rfl ?_
  intro p e s m args below meth c s₁ B hml hv
  obtain ⟨hav, hsz, hP, hK, hD0⟩ := hv
  have hx := B.exec
  have hb := B.bytes
  have hr := B.returns
  have hts := atoms_spec (ws := wsX4_init) B.pre
  have hown : s.vm.findClass RX4 = some m.cls := findClass_of_methodNamed B.named
  have hlocks := B.notSynchronized
  have hin : meth.name = "<init>" := (name_of_methodNamed B.named B.method).1
  subst hsz
  have hD := hD0.self (sz := s.heap.size)
  generalize hAe : va_A [(aP, .inr (4, [.null, .null, .null, .null, .int 0, .int 0, .int 0, .null, .int 0]))] s.heap.size = A at hD ⊢
  have hA : ∀ q : Nat, s.heap.size ≤ q → A q := fun q h9 => by rw [← hAe]; exact Or.inr h9
  have hS : va_S A s.heap s.heap [] := va_S.rf
  have hl := lv_entry ([.ref aP, .ref aN]) (n := 2) (Nat.le_of_ble_eq_true rfl)
  rw [show entryFrame m args 2 = entryFrame m ([.ref aP, .ref aN] : List Value).toArray 2 by rw [hav], lg_entry_eq]
  generalize (lg_sl ([.ref aP, .ref aN]) ++ List.replicate (2 - (lg_sl ([.ref aP, .ref aN])).length) Slot.unset).toArray = ls at hl ⊢
  have hl : lv_has ls 2 [(0, .ref aP), (1, .ref aN)] := hl
  generalize hQe : MQ below _ _ _ _ _ _ = QM
  have hP : va_P G vwCl [(aP, .inr (4, [.null, .null, .null, .null, .int 0, .int 0, .int 0, .null, .int 0]))] s.heap := hP
  have fl9 := hts (.fieldLink RX4 9 "SlidTokens$Paints" "colours" "I") (by decide +kernel)
  have iwX4 : ∀ w ∈ wsX40, w ∈ wsX4_init := by decide +kernel
  have fl15 := hts (.fieldLink RX4 15 "SlidTokens$Paints" "net" "LSlidTokens$Net;") (by decide +kernel)
  suffices K9 : ∀ (H : Heap) (locs : List Loc), va_P G vwCl [(aP, .inr (4, [.null, .null, .null, .null, .int 0, .int 0, .int 0, .null, .int 0]))] H → va_D A [(aP, .inr (4, [.null, .null, .null, .null, .int 0, .int 0, .int 0, .null, .int 0]))] → va_S A s.heap H locs → W p l e (headSpec wsX4_init rmX4_init).room s m args below meth c H locs 0 0 QM (F0 m 0 ls []) from K9 _ _ hP hD hS
  clear hP hD hS
  intro H locs hP hD hS
  refine lv_aload_n hx hb dX4_init_0 rfl (lv_at hl 0 rfl) ?_
  refine lv_sipush (v := 4096) hx hb dX4_init_1 (by decide) ?_
  refine lv_bipush (v := 24) hx hb dX4_init_4 (by decide) ?_
  have hPc : va_P G vwCl [(aP, .inr (4, [.null, .null, .null, .null, .int 0, .int 0, .int 0, .null, .int 0]))] H := hP.sub [0] rfl
  have hDc : va_D A [(aP, .inr (4, [.null, .null, .null, .null, .int 0, .int 0, .int 0, .null, .int 0]))] := hD.sub [0] (by decide) rfl
  have hFc := va_free (wc := [(aP, .inr (4, [.null, .null, .null, .null, .int 0, .int 0, .int 0, .null, .int 0]))]) hD hS hA [0] rfl
  refine va_callv (va_runI (As := [.int 4096, .int 24]) (rest := []) ⟨hx, hb, hml, hown, hts⟩ (ct_X5_init_P l G cy aP H.size) (cwI 2 hts gX4_init_X5_init rfl rfl rfl (hts (.initialized RX5) (by decide +kernel)) (hts (.methodLink RX4 3 yX5_init) (by decide +kernel)) (hts (.instanceMethod yX5_init) (by decide +kernel)) rfl (by decide +kernel) ⟨Nat.le_of_ble_eq_true rfl, Nat.le_of_ble_eq_true rfl⟩) (wX_S hK hPc hDc) rfl rfl hl.1 rfl (lv_room (Nat.le_of_ble_eq_true rfl)) dX4_init_6 ⟨Nat.le_of_ble_eq_true rfl, Nat.le_of_ble_eq_true rfl⟩) hS (fun q9 _ h9 => hFc q9 h9) hFc (fun u9 t9 H locs ht9 hvm9 hw9 hB9 hz9 hk9 hS => ?_)
  obtain ⟨n0, n1, n2, n3⟩ := u9
  obtain ⟨hP, hD⟩ := va_join (wr := []) (w1 := [(aP, .inr (4, [.ref n0, .ref n1, .ref n2, .ref n3, .int 0, .int 0, .int 0, .null, .int 0])), (n0, .inl (cy 0, 4096, .inl (fun _ => 0))), (n1, .inl (cy 0, 4096, .inl (fun _ => 0))), (n2, .inl (cy 0, 24, .inl (fun _ => 0))), (n3, .inl (cy 0, 24, .inl (fun _ => 0)))]) hP hD [0] [] rfl rfl (by decide) (by decide) hk9 hFc (by rw [← ht9]; exact hB9.1) hB9.2
  have hP : va_P G vwCl [(aP, .inr (4, [.ref n0, .ref n1, .ref n2, .ref n3, .int 0, .int 0, .int 0, .null, .int 0])), (n0, .inl (cy 0, 4096, .inl (fun _ => 0))), (n1, .inl (cy 0, 4096, .inl (fun _ => 0))), (n2, .inl (cy 0, 24, .inl (fun _ => 0))), (n3, .inl (cy 0, 24, .inl (fun _ => 0)))] H := hP
  have hD : va_D A [(aP, .inr (4, [.ref n0, .ref n1, .ref n2, .ref n3, .int 0, .int 0, .int 0, .null, .int 0])), (n0, .inl (cy 0, 4096, .inl (fun _ => 0))), (n1, .inl (cy 0, 4096, .inl (fun _ => 0))), (n2, .inl (cy 0, 24, .inl (fun _ => 0))), (n3, .inl (cy 0, 24, .inl (fun _ => 0)))] := hD
  refine lv_aload_n hx hb dX4_init_9 rfl (lv_at hl 0 rfl) ?_
  refine lv_iconst (v := 3) hx hb dX4_init_10 (by decide) ?_
  refine va_put (D := G) (ci := 4) (v := .int 3) (ty := .int) (C := RX4) (T := TX4) (N := 9) hx hb hts iwX4 tyX4 tyX4_ok nmX4 hown hK.1.1 hP hD hS 0 rfl rfl 8 (by decide) fl9 (fun _ h9 => h9) rfl (by decide +kernel) rfl rfl (Nat.le_of_ble_eq_true rfl) dX4_init_11 (fun H locs hP hD hS => ?_)
  have hP : va_P G vwCl [(aP, .inr (4, [.ref n0, .ref n1, .ref n2, .ref n3, .int 0, .int 0, .int 0, .null, .int 3])), (n0, .inl (cy 0, 4096, .inl (fun _ => 0))), (n1, .inl (cy 0, 4096, .inl (fun _ => 0))), (n2, .inl (cy 0, 24, .inl (fun _ => 0))), (n3, .inl (cy 0, 24, .inl (fun _ => 0)))] H := hP
  have hD : va_D A [(aP, .inr (4, [.ref n0, .ref n1, .ref n2, .ref n3, .int 0, .int 0, .int 0, .null, .int 3])), (n0, .inl (cy 0, 4096, .inl (fun _ => 0))), (n1, .inl (cy 0, 4096, .inl (fun _ => 0))), (n2, .inl (cy 0, 24, .inl (fun _ => 0))), (n3, .inl (cy 0, 24, .inl (fun _ => 0)))] := hD
  refine lv_aload_n hx hb dX4_init_14 rfl (lv_at hl 0 rfl) ?_
  refine lv_aload_n hx hb dX4_init_15 rfl (lv_at hl 1 rfl) ?_
  refine va_putF (D := G) (ci := 4) (v := .ref aN) (ty := .object "SlidTokens$Net") (C := RX4) (T := TX4) (N := 9) hx hb hts iwX4 tyX4 tyX4_ok nmX4 hown hK.1.1 hP hD hS 0 rfl rfl 7 (by decide) fl15 (fun _ h9 => h9) rfl hin rfl (by decide +kernel) rfl rfl (Nat.le_of_ble_eq_true rfl) dX4_init_16 (fun H locs hP hD hS => ?_)
  have hP : va_P G vwCl [(aP, .inr (4, [.ref n0, .ref n1, .ref n2, .ref n3, .int 0, .int 0, .int 0, .ref aN, .int 3])), (n0, .inl (cy 0, 4096, .inl (fun _ => 0))), (n1, .inl (cy 0, 4096, .inl (fun _ => 0))), (n2, .inl (cy 0, 24, .inl (fun _ => 0))), (n3, .inl (cy 0, 24, .inl (fun _ => 0)))] H := hP
  have hD : va_D A [(aP, .inr (4, [.ref n0, .ref n1, .ref n2, .ref n3, .int 0, .int 0, .int 0, .ref aN, .int 3])), (n0, .inl (cy 0, 4096, .inl (fun _ => 0))), (n1, .inl (cy 0, 4096, .inl (fun _ => 0))), (n2, .inl (cy 0, 24, .inl (fun _ => 0))), (n3, .inl (cy 0, 24, .inl (fun _ => 0)))] := hD
  rw [← hQe]
  have hP9 := hP.sub (ws' := [(aP, .inr (4, [.ref n0, .ref n1, .ref n2, .ref n3, .int 0, .int 0, .int 0, .ref aN, .int 3])), (n0, .inl (cy 0, 4096, .inl (fun _ => 0))), (n1, .inl (cy 0, 4096, .inl (fun _ => 0))), (n2, .inl (cy 0, 24, .inl (fun _ => 0))), (n3, .inl (cy 0, 24, .inl (fun _ => 0)))]) [0, 1, 2, 3, 4] rfl
  have hD9 := hD.sub (ws' := [(aP, .inr (4, [.ref n0, .ref n1, .ref n2, .ref n3, .int 0, .int 0, .int 0, .ref aN, .int 3])), (n0, .inl (cy 0, 4096, .inl (fun _ => 0))), (n1, .inl (cy 0, 4096, .inl (fun _ => 0))), (n2, .inl (cy 0, 24, .inl (fun _ => 0))), (n3, .inl (cy 0, 24, .inl (fun _ => 0)))]) [0, 1, 2, 3, 4] (by decide) rfl
  exact W.vret hx hb hr (fun t ht hW => ⟨⟨(n0, n1, n2, n3), rfl, trivial, by (try dsimp only); rw [ht]; exact hP9, hD9⟩, hS.F ht⟩) hS.2.2 dX4_init_19

abbrev rmX8_init : Room := { frames := 4, cells := 17, slots := 9459, locals := 72 }
set_option maxHeartbeats 4000000 in
set_option maxRecDepth 100000 in
theorem ct_X8_init (l : Launch) (G : va_G) (cy : Nat → ClassId) (a0 : Nat) (sz : Nat) : Met l yX8_init wsX8_init rmX8_init (va_Pc [.ref a0] (wX G cy sz [(a0, .inr (7, [.null, .null, .null, .null, .null, .int 0, .int 0, .int 0]))])) (va_Qv (fun (u : Nat × Nat × Nat × Nat × Nat × Nat × Nat × Nat × Nat × Nat × Nat × Nat × Nat × Nat × Nat × Nat × Nat) => True) (fun (u : Nat × Nat × Nat × Nat × Nat × Nat × Nat × Nat × Nat × Nat × Nat × Nat × Nat × Nat × Nat × Nat × Nat) (t : State) => va_P G vwCl [(a0, .inr (7, [.ref u.1, .ref u.2.2.1, .ref u.2.2.2.2.2.2.2.1, .ref u.2.2.2.2.2.2.2.2.2.2.2.2.1, .ref u.2.2.2.2.2.2.2.2.2.2.2.2.2.2.2.2, .int 0, .int 9, .int 3])), (u.1, .inr (3, [.ref u.2.1, .int 5])), (u.2.1, .inl (cy 0, 9, .inl (fun _ => 0))), (u.2.2.1, .inr (2, [.ref u.2.2.2.1, .ref u.2.2.2.2.1, .ref u.2.2.2.2.2.1, .ref u.2.2.2.2.2.2.1, .int 0, .int 0, .int 0, .ref u.1, .int 0])), (u.2.2.2.1, .inl (cy 0, 512, .inl (fun _ => 0))), (u.2.2.2.2.1, .inl (cy 0, 512, .inl (fun _ => 0))), (u.2.2.2.2.2.1, .inl (cy 0, 81, .inl (fun _ => 0))), (u.2.2.2.2.2.2.1, .inl (cy 0, 81, .inl (fun _ => 0))), (u.2.2.2.2.2.2.2.1, .inr (4, [.ref u.2.2.2.2.2.2.2.2.1, .ref u.2.2.2.2.2.2.2.2.2.1, .ref u.2.2.2.2.2.2.2.2.2.2.1, .ref u.2.2.2.2.2.2.2.2.2.2.2.1, .int 0, .int 0, .int 0, .ref u.1, .int 3])), (u.2.2.2.2.2.2.2.2.1, .inl (cy 0, 4096, .inl (fun _ => 0))), (u.2.2.2.2.2.2.2.2.2.1, .inl (cy 0, 4096, .inl (fun _ => 0))), (u.2.2.2.2.2.2.2.2.2.2.1, .inl (cy 0, 24, .inl (fun _ => 0))), (u.2.2.2.2.2.2.2.2.2.2.2.1, .inl (cy 0, 24, .inl (fun _ => 0))), (u.2.2.2.2.2.2.2.2.2.2.2.2.1, .inl (cy 2, 3, .inr (.inr (.inr (.inr (va_up (va_up (va_up (fun _ => none) (0 : Int32).toNatClampNeg (some u.2.2.2.2.2.2.2.2.2.2.2.2.2.1)) (1 : Int32).toNatClampNeg (some u.2.2.2.2.2.2.2.2.2.2.2.2.2.2.1)) (2 : Int32).toNatClampNeg (some u.2.2.2.2.2.2.2.2.2.2.2.2.2.2.2.1))))))), (u.2.2.2.2.2.2.2.2.2.2.2.2.2.1, .inr (5, [])), (u.2.2.2.2.2.2.2.2.2.2.2.2.2.2.1, .inr (1, [])), (u.2.2.2.2.2.2.2.2.2.2.2.2.2.2.2.1, .inr (0, [])), (u.2.2.2.2.2.2.2.2.2.2.2.2.2.2.2.2, .inr (6, [.long 0]))] t.heap ∧ va_D (va_A [(a0, .inr (7, [.null, .null, .null, .null, .null, .int 0, .int 0, .int 0]))] sz) [(a0, .inr (7, [.ref u.1, .ref u.2.2.1, .ref u.2.2.2.2.2.2.2.1, .ref u.2.2.2.2.2.2.2.2.2.2.2.2.1, .ref u.2.2.2.2.2.2.2.2.2.2.2.2.2.2.2.2, .int 0, .int 9, .int 3])), (u.1, .inr (3, [.ref u.2.1, .int 5])), (u.2.1, .inl (cy 0, 9, .inl (fun _ => 0))), (u.2.2.1, .inr (2, [.ref u.2.2.2.1, .ref u.2.2.2.2.1, .ref u.2.2.2.2.2.1, .ref u.2.2.2.2.2.2.1, .int 0, .int 0, .int 0, .ref u.1, .int 0])), (u.2.2.2.1, .inl (cy 0, 512, .inl (fun _ => 0))), (u.2.2.2.2.1, .inl (cy 0, 512, .inl (fun _ => 0))), (u.2.2.2.2.2.1, .inl (cy 0, 81, .inl (fun _ => 0))), (u.2.2.2.2.2.2.1, .inl (cy 0, 81, .inl (fun _ => 0))), (u.2.2.2.2.2.2.2.1, .inr (4, [.ref u.2.2.2.2.2.2.2.2.1, .ref u.2.2.2.2.2.2.2.2.2.1, .ref u.2.2.2.2.2.2.2.2.2.2.1, .ref u.2.2.2.2.2.2.2.2.2.2.2.1, .int 0, .int 0, .int 0, .ref u.1, .int 3])), (u.2.2.2.2.2.2.2.2.1, .inl (cy 0, 4096, .inl (fun _ => 0))), (u.2.2.2.2.2.2.2.2.2.1, .inl (cy 0, 4096, .inl (fun _ => 0))), (u.2.2.2.2.2.2.2.2.2.2.1, .inl (cy 0, 24, .inl (fun _ => 0))), (u.2.2.2.2.2.2.2.2.2.2.2.1, .inl (cy 0, 24, .inl (fun _ => 0))), (u.2.2.2.2.2.2.2.2.2.2.2.2.1, .inl (cy 2, 3, .inr (.inr (.inr (.inr (va_up (va_up (va_up (fun _ => none) (0 : Int32).toNatClampNeg (some u.2.2.2.2.2.2.2.2.2.2.2.2.2.1)) (1 : Int32).toNatClampNeg (some u.2.2.2.2.2.2.2.2.2.2.2.2.2.2.1)) (2 : Int32).toNatClampNeg (some u.2.2.2.2.2.2.2.2.2.2.2.2.2.2.2.1))))))), (u.2.2.2.2.2.2.2.2.2.2.2.2.2.1, .inr (5, [])), (u.2.2.2.2.2.2.2.2.2.2.2.2.2.2.1, .inr (1, [])), (u.2.2.2.2.2.2.2.2.2.2.2.2.2.2.2.1, .inr (0, [])), (u.2.2.2.2.2.2.2.2.2.2.2.2.2.2.2.2, .inr (6, [.long 0]))]) (va_A [(a0, .inr (7, [.null, .null, .null, .null, .null, .int 0, .int 0, .int 0]))] sz)) 17 9459 (va_A [(a0, .inr (7, [.null, .null, .null, .null, .null, .int 0, .int 0, .int 0]))] sz) := by
  refine Met.ofW (cc := cX8_init) (maxL := 1) (ret := none) (by decide) rfl ?_
  intro p e s m args below meth c s₁ B hml hv
  obtain ⟨hav, hsz, hP, hK, hD0⟩ := hv
  have hx := B.exec
  have hb := B.bytes
  have hr := B.returns
  have hts := atoms_spec (ws := wsX8_init) B.pre
  have hown : s.vm.findClass RX8 = some m.cls := findClass_of_methodNamed B.named
  have hlocks := B.notSynchronized
  have hin : meth.name = "<init>" := (name_of_methodNamed B.named B.method).1
  subst hsz
  have hD := hD0.self (sz := s.heap.size)
  generalize hAe : va_A [(a0, .inr (7, [.null, .null, .null, .null, .null, .int 0, .int 0, .int 0]))] s.heap.size = A at hD ⊢
  have hA : ∀ q : Nat, s.heap.size ≤ q → A q := fun q h9 => by rw [← hAe]; exact Or.inr h9
  have hS : va_S A s.heap s.heap [] := va_S.rf
  have hl := lv_entry ([.ref a0]) (n := 1) (Nat.le_of_ble_eq_true rfl)
  rw [show entryFrame m args 1 = entryFrame m ([.ref a0] : List Value).toArray 1 by rw [hav], lg_entry_eq]
  generalize (lg_sl ([.ref a0]) ++ List.replicate (1 - (lg_sl ([.ref a0])).length) Slot.unset).toArray = ls at hl ⊢
  have hl : lv_has ls 1 [(0, .ref a0)] := hl
  generalize hQe : MQ below _ _ _ _ _ _ = QM
  have hP : va_P G vwCl [(a0, .inr (7, [.null, .null, .null, .null, .null, .int 0, .int 0, .int 0]))] s.heap := hP
  have iwX3 : ∀ w ∈ wsX30, w ∈ wsX8_init := by decide +kernel
  have fl10 := hts (.fieldLink RX8 10 "SlidTokens" "graph" "LSlidTokens$Net;") (by decide +kernel)
  have iwX8 : ∀ w ∈ wsX80, w ∈ wsX8_init := by decide +kernel
  have iwX2 : ∀ w ∈ wsX20, w ∈ wsX8_init := by decide +kernel
  have fl21 := hts (.fieldLink RX8 21 "SlidTokens" "marks" "LSlidTokens$Marks;") (by decide +kernel)
  have iwX4 : ∀ w ∈ wsX40, w ∈ wsX8_init := by decide +kernel
  have fl28 := hts (.fieldLink RX8 28 "SlidTokens" "paints" "LSlidTokens$Paints;") (by decide +kernel)
  have iwX6 : ∀ w ∈ wsX60, w ∈ wsX8_init := by decide +kernel
  have iwX1 : ∀ w ∈ wsX10, w ∈ wsX8_init := by decide +kernel
  have iwX0 : ∀ w ∈ wsX00, w ∈ wsX8_init := by decide +kernel
  have fl41 := hts (.fieldLink RX8 41 "SlidTokens" "weighers" "[LSlidTokens$Slide;") (by decide +kernel)
  have iwX7 : ∀ w ∈ wsX70, w ∈ wsX8_init := by decide +kernel
  have fl48 := hts (.fieldLink RX8 48 "SlidTokens" "tally" "LSlidTokens$Tally;") (by decide +kernel)
  have fl52 := hts (.fieldLink RX8 52 "SlidTokens" "least" "I") (by decide +kernel)
  have fl56 := hts (.fieldLink RX8 56 "SlidTokens" "most" "I") (by decide +kernel)
  have fl59 := hts (.fieldLink RX8 59 "SlidTokens" "colours" "I") (by decide +kernel)
  suffices K9 : ∀ (H : Heap) (locs : List Loc), va_P G vwCl [(a0, .inr (7, [.null, .null, .null, .null, .null, .int 0, .int 0, .int 0]))] H → va_D A [(a0, .inr (7, [.null, .null, .null, .null, .null, .int 0, .int 0, .int 0]))] → va_S A s.heap H locs → W p l e (headSpec wsX8_init rmX8_init).room s m args below meth c H locs 0 0 QM (F0 m 0 ls []) from K9 _ _ hP hD hS
  clear hP hD hS
  intro H locs hP hD hS
  refine lv_aload_n hx hb dX8_init_0 rfl (lv_at hl 0 rfl) ?_
  refine W.objInit hx hb hown (hts (.methodLink RX8 1 objectInit) (by decide +kernel)) (hts (.instanceMethod objectInit) (by decide +kernel)) (hts (.code objectInit ⟨#[0xb1]⟩ 1 none) (by decide +kernel)) rfl (by rw [hml]; exact hl.1) rfl dX8_init_1 (Nat.le_of_ble_eq_true rfl) (Nat.le_of_ble_eq_true rfl) ?_
  refine W.eq (g2 := F0 m 4 ls []) rfl ?_
  refine lv_aload_n hx hb dX8_init_4 rfl (lv_at hl 0 rfl) ?_
  refine va_new (ci := 3) (fs := [.null, .int 0]) (C := RX3) (T := TX3) (N := 2) hx hb hts iwX3 tyX3 tyX3_ok hown (hts (.classLink RX8 7 RX3) (by decide +kernel)) (hts (.instantiable RX3 2) (by decide +kernel)) (hts (.initialized RX3) (by decide +kernel)) hK.1.1 hP hD hS hA rfl (fun j hj => by rcases (show j = 0 ∨ j = 1 by omega) with rfl | rfl <;> rfl) (Nat.le_of_ble_eq_true rfl) (Nat.le_of_ble_eq_true rfl) dX8_init_5 (fun n0 H hP hD hS => ?_)
  have hP : va_P G vwCl [(a0, .inr (7, [.null, .null, .null, .null, .null, .int 0, .int 0, .int 0])), (n0, .inr (3, [.null, .int 0]))] H := hP
  have hD : va_D A [(a0, .inr (7, [.null, .null, .null, .null, .null, .int 0, .int 0, .int 0])), (n0, .inr (3, [.null, .int 0]))] := hD
  refine lv_dup hx hb dX8_init_8 rfl ?_
  have hPc : va_P G vwCl [(n0, .inr (3, [.null, .int 0]))] H := hP.sub [1] rfl
  have hDc : va_D A [(n0, .inr (3, [.null, .int 0]))] := hD.sub [1] (by decide) rfl
  have hFc := va_free (wc := [(n0, .inr (3, [.null, .int 0]))]) hD hS hA [1] rfl
  refine va_callv (va_runIN (host := "SlidTokens") (As := []) (rest := [.ref n0, .ref a0]) ⟨hx, hb, hml, hown, hts⟩ (ct_X3_init l G cy n0 H.size) ⟨va_cnB 0 hts gX8_init_X3_init_n9 rfl rfl rfl hK.2.2.1 (hts (.initialized RX3) (by decide +kernel)) (by decide +kernel) ⟨Nat.le_of_ble_eq_true rfl, Nat.le_of_ble_eq_true rfl⟩, rfl, hts (.instanceMethod yX3_init) (by decide +kernel)⟩ (wX_S hK hPc hDc) rfl rfl hl.1 rfl (lv_room (Nat.le_of_ble_eq_true rfl)) dX8_init_9 ⟨Nat.le_of_ble_eq_true rfl, Nat.le_of_ble_eq_true rfl⟩) hS (fun q9 _ h9 => hFc q9 h9) hFc (fun u9 t9 H locs ht9 hvm9 hw9 hB9 hz9 hk9 hS => ?_)
  obtain ⟨n1, rfl⟩ : ∃ z9, z9 = u9 := ⟨_, rfl⟩
  obtain ⟨hP, hD⟩ := va_join (wr := [(a0, .inr (7, [.null, .null, .null, .null, .null, .int 0, .int 0, .int 0]))]) (w1 := [(n0, .inr (3, [.ref n1, .int 5])), (n1, .inl (cy 0, 9, .inl (fun _ => 0)))]) hP hD [1] [0] rfl rfl (by decide) (by decide) hk9 hFc (by rw [← ht9]; exact hB9.1) hB9.2
  have hP : va_P G vwCl [(a0, .inr (7, [.null, .null, .null, .null, .null, .int 0, .int 0, .int 0])), (n0, .inr (3, [.ref n1, .int 5])), (n1, .inl (cy 0, 9, .inl (fun _ => 0)))] H := hP
  have hD : va_D A [(a0, .inr (7, [.null, .null, .null, .null, .null, .int 0, .int 0, .int 0])), (n0, .inr (3, [.ref n1, .int 5])), (n1, .inl (cy 0, 9, .inl (fun _ => 0)))] := hD
  refine va_putF (D := G) (ci := 7) (v := .ref n0) (ty := .object "SlidTokens$Net") (C := RX8) (T := TX8) (N := 8) hx hb hts iwX8 tyX8 tyX8_ok nmX8 hown hK.1.1 hP hD hS 0 rfl rfl 0 (by decide) fl10 (fun _ h9 => h9) rfl hin rfl (by decide +kernel) rfl rfl (Nat.le_of_ble_eq_true rfl) dX8_init_12 (fun H locs hP hD hS => ?_)
  have hP : va_P G vwCl [(a0, .inr (7, [.ref n0, .null, .null, .null, .null, .int 0, .int 0, .int 0])), (n0, .inr (3, [.ref n1, .int 5])), (n1, .inl (cy 0, 9, .inl (fun _ => 0)))] H := hP
  have hD : va_D A [(a0, .inr (7, [.ref n0, .null, .null, .null, .null, .int 0, .int 0, .int 0])), (n0, .inr (3, [.ref n1, .int 5])), (n1, .inl (cy 0, 9, .inl (fun _ => 0)))] := hD
  refine lv_aload_n hx hb dX8_init_15 rfl (lv_at hl 0 rfl) ?_
  refine va_new (ci := 2) (fs := [.null, .null, .null, .null, .int 0, .int 0, .int 0, .null, .int 0]) (C := RX2) (T := TX2) (N := 9) hx hb hts iwX2 tyX2 tyX2_ok hown (hts (.classLink RX8 16 RX2) (by decide +kernel)) (hts (.instantiable RX2 9) (by decide +kernel)) (hts (.initialized RX2) (by decide +kernel)) hK.1.1 hP hD hS hA rfl (fun j hj => by rcases (show j = 0 ∨ j = 1 ∨ j = 2 ∨ j = 3 ∨ j = 4 ∨ j = 5 ∨ j = 6 ∨ j = 7 ∨ j = 8 by omega) with rfl | rfl | rfl | rfl | rfl | rfl | rfl | rfl | rfl <;> rfl) (Nat.le_of_ble_eq_true rfl) (Nat.le_of_ble_eq_true rfl) dX8_init_16 (fun n2 H hP hD hS => ?_)
  have hP : va_P G vwCl [(a0, .inr (7, [.ref n0, .null, .null, .null, .null, .int 0, .int 0, .int 0])), (n0, .inr (3, [.ref n1, .int 5])), (n1, .inl (cy 0, 9, .inl (fun _ => 0))), (n2, .inr (2, [.null, .null, .null, .null, .int 0, .int 0, .int 0, .null, .int 0]))] H := hP
  have hD : va_D A [(a0, .inr (7, [.ref n0, .null, .null, .null, .null, .int 0, .int 0, .int 0])), (n0, .inr (3, [.ref n1, .int 5])), (n1, .inl (cy 0, 9, .inl (fun _ => 0))), (n2, .inr (2, [.null, .null, .null, .null, .int 0, .int 0, .int 0, .null, .int 0]))] := hD
  refine lv_dup hx hb dX8_init_19 rfl ?_
  refine lv_aload_n hx hb dX8_init_20 rfl (lv_at hl 0 rfl) ?_
  refine va_get (D := G) (ci := 7) (v := .ref n0) (C := RX8) (T := TX8) (N := 8) hx hb hts iwX8 hown hK.1.1 hP 0 rfl rfl 0 (by decide) fl10 (fun _ h9 => h9) rfl dX8_init_21 ?_
  have hPc : va_P G vwCl [(n2, .inr (2, [.null, .null, .null, .null, .int 0, .int 0, .int 0, .null, .int 0]))] H := hP.sub [3] rfl
  have hDc : va_D A [(n2, .inr (2, [.null, .null, .null, .null, .int 0, .int 0, .int 0, .null, .int 0]))] := hD.sub [3] (by decide) rfl
  have hFc := va_free (wc := [(n2, .inr (2, [.null, .null, .null, .null, .int 0, .int 0, .int 0, .null, .int 0]))]) hD hS hA [3] rfl
  refine va_callv (va_runI (As := [.ref n0]) (rest := [.ref n2, .ref a0]) ⟨hx, hb, hml, hown, hts⟩ (ct_X2_init l G cy n2 n0 H.size) (cwI 1 hts gX8_init_X2_init rfl rfl rfl (hts (.initialized RX2) (by decide +kernel)) (hts (.methodLink RX8 18 yX2_init) (by decide +kernel)) (hts (.instanceMethod yX2_init) (by decide +kernel)) rfl (by decide +kernel) ⟨Nat.le_of_ble_eq_true rfl, Nat.le_of_ble_eq_true rfl⟩) (wX_S hK hPc hDc) rfl rfl hl.1 rfl (lv_room (Nat.le_of_ble_eq_true rfl)) dX8_init_24 ⟨Nat.le_of_ble_eq_true rfl, Nat.le_of_ble_eq_true rfl⟩) hS (fun q9 _ h9 => hFc q9 h9) hFc (fun u9 t9 H locs ht9 hvm9 hw9 hB9 hz9 hk9 hS => ?_)
  obtain ⟨n3, n4, n5, n6⟩ := u9
  obtain ⟨hP, hD⟩ := va_join (wr := [(a0, .inr (7, [.ref n0, .null, .null, .null, .null, .int 0, .int 0, .int 0])), (n0, .inr (3, [.ref n1, .int 5])), (n1, .inl (cy 0, 9, .inl (fun _ => 0)))]) (w1 := [(n2, .inr (2, [.ref n3, .ref n4, .ref n5, .ref n6, .int 0, .int 0, .int 0, .ref n0, .int 0])), (n3, .inl (cy 0, 512, .inl (fun _ => 0))), (n4, .inl (cy 0, 512, .inl (fun _ => 0))), (n5, .inl (cy 0, 81, .inl (fun _ => 0))), (n6, .inl (cy 0, 81, .inl (fun _ => 0)))]) hP hD [3] [0, 1, 2] rfl rfl (by decide) (by decide) hk9 hFc (by rw [← ht9]; exact hB9.1) hB9.2
  have hP : va_P G vwCl [(a0, .inr (7, [.ref n0, .null, .null, .null, .null, .int 0, .int 0, .int 0])), (n0, .inr (3, [.ref n1, .int 5])), (n1, .inl (cy 0, 9, .inl (fun _ => 0))), (n2, .inr (2, [.ref n3, .ref n4, .ref n5, .ref n6, .int 0, .int 0, .int 0, .ref n0, .int 0])), (n3, .inl (cy 0, 512, .inl (fun _ => 0))), (n4, .inl (cy 0, 512, .inl (fun _ => 0))), (n5, .inl (cy 0, 81, .inl (fun _ => 0))), (n6, .inl (cy 0, 81, .inl (fun _ => 0)))] H := hP
  have hD : va_D A [(a0, .inr (7, [.ref n0, .null, .null, .null, .null, .int 0, .int 0, .int 0])), (n0, .inr (3, [.ref n1, .int 5])), (n1, .inl (cy 0, 9, .inl (fun _ => 0))), (n2, .inr (2, [.ref n3, .ref n4, .ref n5, .ref n6, .int 0, .int 0, .int 0, .ref n0, .int 0])), (n3, .inl (cy 0, 512, .inl (fun _ => 0))), (n4, .inl (cy 0, 512, .inl (fun _ => 0))), (n5, .inl (cy 0, 81, .inl (fun _ => 0))), (n6, .inl (cy 0, 81, .inl (fun _ => 0)))] := hD
  refine va_putF (D := G) (ci := 7) (v := .ref n2) (ty := .object "SlidTokens$Marks") (C := RX8) (T := TX8) (N := 8) hx hb hts iwX8 tyX8 tyX8_ok nmX8 hown hK.1.1 hP hD hS 0 rfl rfl 1 (by decide) fl21 (fun _ h9 => h9) rfl hin rfl (by decide +kernel) rfl rfl (Nat.le_of_ble_eq_true rfl) dX8_init_27 (fun H locs hP hD hS => ?_)
  have hP : va_P G vwCl [(a0, .inr (7, [.ref n0, .ref n2, .null, .null, .null, .int 0, .int 0, .int 0])), (n0, .inr (3, [.ref n1, .int 5])), (n1, .inl (cy 0, 9, .inl (fun _ => 0))), (n2, .inr (2, [.ref n3, .ref n4, .ref n5, .ref n6, .int 0, .int 0, .int 0, .ref n0, .int 0])), (n3, .inl (cy 0, 512, .inl (fun _ => 0))), (n4, .inl (cy 0, 512, .inl (fun _ => 0))), (n5, .inl (cy 0, 81, .inl (fun _ => 0))), (n6, .inl (cy 0, 81, .inl (fun _ => 0)))] H := hP
  have hD : va_D A [(a0, .inr (7, [.ref n0, .ref n2, .null, .null, .null, .int 0, .int 0, .int 0])), (n0, .inr (3, [.ref n1, .int 5])), (n1, .inl (cy 0, 9, .inl (fun _ => 0))), (n2, .inr (2, [.ref n3, .ref n4, .ref n5, .ref n6, .int 0, .int 0, .int 0, .ref n0, .int 0])), (n3, .inl (cy 0, 512, .inl (fun _ => 0))), (n4, .inl (cy 0, 512, .inl (fun _ => 0))), (n5, .inl (cy 0, 81, .inl (fun _ => 0))), (n6, .inl (cy 0, 81, .inl (fun _ => 0)))] := hD
  refine lv_aload_n hx hb dX8_init_30 rfl (lv_at hl 0 rfl) ?_
  refine va_new (ci := 4) (fs := [.null, .null, .null, .null, .int 0, .int 0, .int 0, .null, .int 0]) (C := RX4) (T := TX4) (N := 9) hx hb hts iwX4 tyX4 tyX4_ok hown (hts (.classLink RX8 25 RX4) (by decide +kernel)) (hts (.instantiable RX4 9) (by decide +kernel)) (hts (.initialized RX4) (by decide +kernel)) hK.1.1 hP hD hS hA rfl (fun j hj => by rcases (show j = 0 ∨ j = 1 ∨ j = 2 ∨ j = 3 ∨ j = 4 ∨ j = 5 ∨ j = 6 ∨ j = 7 ∨ j = 8 by omega) with rfl | rfl | rfl | rfl | rfl | rfl | rfl | rfl | rfl <;> rfl) (Nat.le_of_ble_eq_true rfl) (Nat.le_of_ble_eq_true rfl) dX8_init_31 (fun n7 H hP hD hS => ?_)
  have hP : va_P G vwCl [(a0, .inr (7, [.ref n0, .ref n2, .null, .null, .null, .int 0, .int 0, .int 0])), (n0, .inr (3, [.ref n1, .int 5])), (n1, .inl (cy 0, 9, .inl (fun _ => 0))), (n2, .inr (2, [.ref n3, .ref n4, .ref n5, .ref n6, .int 0, .int 0, .int 0, .ref n0, .int 0])), (n3, .inl (cy 0, 512, .inl (fun _ => 0))), (n4, .inl (cy 0, 512, .inl (fun _ => 0))), (n5, .inl (cy 0, 81, .inl (fun _ => 0))), (n6, .inl (cy 0, 81, .inl (fun _ => 0))), (n7, .inr (4, [.null, .null, .null, .null, .int 0, .int 0, .int 0, .null, .int 0]))] H := hP
  have hD : va_D A [(a0, .inr (7, [.ref n0, .ref n2, .null, .null, .null, .int 0, .int 0, .int 0])), (n0, .inr (3, [.ref n1, .int 5])), (n1, .inl (cy 0, 9, .inl (fun _ => 0))), (n2, .inr (2, [.ref n3, .ref n4, .ref n5, .ref n6, .int 0, .int 0, .int 0, .ref n0, .int 0])), (n3, .inl (cy 0, 512, .inl (fun _ => 0))), (n4, .inl (cy 0, 512, .inl (fun _ => 0))), (n5, .inl (cy 0, 81, .inl (fun _ => 0))), (n6, .inl (cy 0, 81, .inl (fun _ => 0))), (n7, .inr (4, [.null, .null, .null, .null, .int 0, .int 0, .int 0, .null, .int 0]))] := hD
  refine lv_dup hx hb dX8_init_34 rfl ?_
  refine lv_aload_n hx hb dX8_init_35 rfl (lv_at hl 0 rfl) ?_
  refine va_get (D := G) (ci := 7) (v := .ref n0) (C := RX8) (T := TX8) (N := 8) hx hb hts iwX8 hown hK.1.1 hP 0 rfl rfl 0 (by decide) fl10 (fun _ h9 => h9) rfl dX8_init_36 ?_
  have hPc : va_P G vwCl [(n7, .inr (4, [.null, .null, .null, .null, .int 0, .int 0, .int 0, .null, .int 0]))] H := hP.sub [8] rfl
  have hDc : va_D A [(n7, .inr (4, [.null, .null, .null, .null, .int 0, .int 0, .int 0, .null, .int 0]))] := hD.sub [8] (by decide) rfl
  have hFc := va_free (wc := [(n7, .inr (4, [.null, .null, .null, .null, .int 0, .int 0, .int 0, .null, .int 0]))]) hD hS hA [8] rfl
  refine va_callv (va_runI (As := [.ref n0]) (rest := [.ref n7, .ref a0]) ⟨hx, hb, hml, hown, hts⟩ (ct_X4_init l G cy n7 n0 H.size) (cwI 1 hts gX8_init_X4_init rfl rfl rfl (hts (.initialized RX4) (by decide +kernel)) (hts (.methodLink RX8 27 yX4_init) (by decide +kernel)) (hts (.instanceMethod yX4_init) (by decide +kernel)) rfl (by decide +kernel) ⟨Nat.le_of_ble_eq_true rfl, Nat.le_of_ble_eq_true rfl⟩) (wX_S hK hPc hDc) rfl rfl hl.1 rfl (lv_room (Nat.le_of_ble_eq_true rfl)) dX8_init_39 ⟨Nat.le_of_ble_eq_true rfl, Nat.le_of_ble_eq_true rfl⟩) hS (fun q9 _ h9 => hFc q9 h9) hFc (fun u9 t9 H locs ht9 hvm9 hw9 hB9 hz9 hk9 hS => ?_)
  obtain ⟨n8, n9, n10, n11⟩ := u9
  obtain ⟨hP, hD⟩ := va_join (wr := [(a0, .inr (7, [.ref n0, .ref n2, .null, .null, .null, .int 0, .int 0, .int 0])), (n0, .inr (3, [.ref n1, .int 5])), (n1, .inl (cy 0, 9, .inl (fun _ => 0))), (n2, .inr (2, [.ref n3, .ref n4, .ref n5, .ref n6, .int 0, .int 0, .int 0, .ref n0, .int 0])), (n3, .inl (cy 0, 512, .inl (fun _ => 0))), (n4, .inl (cy 0, 512, .inl (fun _ => 0))), (n5, .inl (cy 0, 81, .inl (fun _ => 0))), (n6, .inl (cy 0, 81, .inl (fun _ => 0)))]) (w1 := [(n7, .inr (4, [.ref n8, .ref n9, .ref n10, .ref n11, .int 0, .int 0, .int 0, .ref n0, .int 3])), (n8, .inl (cy 0, 4096, .inl (fun _ => 0))), (n9, .inl (cy 0, 4096, .inl (fun _ => 0))), (n10, .inl (cy 0, 24, .inl (fun _ => 0))), (n11, .inl (cy 0, 24, .inl (fun _ => 0)))]) hP hD [8] [0, 1, 2, 3, 4, 5, 6, 7] rfl rfl (by decide) (by decide) hk9 hFc (by rw [← ht9]; exact hB9.1) hB9.2
  have hP : va_P G vwCl [(a0, .inr (7, [.ref n0, .ref n2, .null, .null, .null, .int 0, .int 0, .int 0])), (n0, .inr (3, [.ref n1, .int 5])), (n1, .inl (cy 0, 9, .inl (fun _ => 0))), (n2, .inr (2, [.ref n3, .ref n4, .ref n5, .ref n6, .int 0, .int 0, .int 0, .ref n0, .int 0])), (n3, .inl (cy 0, 512, .inl (fun _ => 0))), (n4, .inl (cy 0, 512, .inl (fun _ => 0))), (n5, .inl (cy 0, 81, .inl (fun _ => 0))), (n6, .inl (cy 0, 81, .inl (fun _ => 0))), (n7, .inr (4, [.ref n8, .ref n9, .ref n10, .ref n11, .int 0, .int 0, .int 0, .ref n0, .int 3])), (n8, .inl (cy 0, 4096, .inl (fun _ => 0))), (n9, .inl (cy 0, 4096, .inl (fun _ => 0))), (n10, .inl (cy 0, 24, .inl (fun _ => 0))), (n11, .inl (cy 0, 24, .inl (fun _ => 0)))] H := hP
  have hD : va_D A [(a0, .inr (7, [.ref n0, .ref n2, .null, .null, .null, .int 0, .int 0, .int 0])), (n0, .inr (3, [.ref n1, .int 5])), (n1, .inl (cy 0, 9, .inl (fun _ => 0))), (n2, .inr (2, [.ref n3, .ref n4, .ref n5, .ref n6, .int 0, .int 0, .int 0, .ref n0, .int 0])), (n3, .inl (cy 0, 512, .inl (fun _ => 0))), (n4, .inl (cy 0, 512, .inl (fun _ => 0))), (n5, .inl (cy 0, 81, .inl (fun _ => 0))), (n6, .inl (cy 0, 81, .inl (fun _ => 0))), (n7, .inr (4, [.ref n8, .ref n9, .ref n10, .ref n11, .int 0, .int 0, .int 0, .ref n0, .int 3])), (n8, .inl (cy 0, 4096, .inl (fun _ => 0))), (n9, .inl (cy 0, 4096, .inl (fun _ => 0))), (n10, .inl (cy 0, 24, .inl (fun _ => 0))), (n11, .inl (cy 0, 24, .inl (fun _ => 0)))] := hD
  refine va_putF (D := G) (ci := 7) (v := .ref n7) (ty := .object "SlidTokens$Paints") (C := RX8) (T := TX8) (N := 8) hx hb hts iwX8 tyX8 tyX8_ok nmX8 hown hK.1.1 hP hD hS 0 rfl rfl 2 (by decide) fl28 (fun _ h9 => h9) rfl hin rfl (by decide +kernel) rfl rfl (Nat.le_of_ble_eq_true rfl) dX8_init_42 (fun H locs hP hD hS => ?_)
  have hP : va_P G vwCl [(a0, .inr (7, [.ref n0, .ref n2, .ref n7, .null, .null, .int 0, .int 0, .int 0])), (n0, .inr (3, [.ref n1, .int 5])), (n1, .inl (cy 0, 9, .inl (fun _ => 0))), (n2, .inr (2, [.ref n3, .ref n4, .ref n5, .ref n6, .int 0, .int 0, .int 0, .ref n0, .int 0])), (n3, .inl (cy 0, 512, .inl (fun _ => 0))), (n4, .inl (cy 0, 512, .inl (fun _ => 0))), (n5, .inl (cy 0, 81, .inl (fun _ => 0))), (n6, .inl (cy 0, 81, .inl (fun _ => 0))), (n7, .inr (4, [.ref n8, .ref n9, .ref n10, .ref n11, .int 0, .int 0, .int 0, .ref n0, .int 3])), (n8, .inl (cy 0, 4096, .inl (fun _ => 0))), (n9, .inl (cy 0, 4096, .inl (fun _ => 0))), (n10, .inl (cy 0, 24, .inl (fun _ => 0))), (n11, .inl (cy 0, 24, .inl (fun _ => 0)))] H := hP
  have hD : va_D A [(a0, .inr (7, [.ref n0, .ref n2, .ref n7, .null, .null, .int 0, .int 0, .int 0])), (n0, .inr (3, [.ref n1, .int 5])), (n1, .inl (cy 0, 9, .inl (fun _ => 0))), (n2, .inr (2, [.ref n3, .ref n4, .ref n5, .ref n6, .int 0, .int 0, .int 0, .ref n0, .int 0])), (n3, .inl (cy 0, 512, .inl (fun _ => 0))), (n4, .inl (cy 0, 512, .inl (fun _ => 0))), (n5, .inl (cy 0, 81, .inl (fun _ => 0))), (n6, .inl (cy 0, 81, .inl (fun _ => 0))), (n7, .inr (4, [.ref n8, .ref n9, .ref n10, .ref n11, .int 0, .int 0, .int 0, .ref n0, .int 3])), (n8, .inl (cy 0, 4096, .inl (fun _ => 0))), (n9, .inl (cy 0, 4096, .inl (fun _ => 0))), (n10, .inl (cy 0, 24, .inl (fun _ => 0))), (n11, .inl (cy 0, 24, .inl (fun _ => 0)))] := hD
  refine lv_aload_n hx hb dX8_init_45 rfl (lv_at hl 0 rfl) ?_
  refine lv_iconst (v := 3) hx hb dX8_init_46 (by decide) ?_
  refine va_newq (C := RX6) (N' := 3) hx hb hown (hts (.classLink RX8 32 RX6) (by decide +kernel)) hK.2.1 hK.1.1 hP hD hS hA (by decide) (by decide) (by decide) (Nat.le_of_ble_eq_true rfl) (Nat.le_of_ble_eq_true rfl) dX8_init_47 (fun n12 cA H hKn hP hD hS => ?_)
  obtain rfl : cA = cy 2 := ra_obj hKn
  have hP : va_P G vwCl [(a0, .inr (7, [.ref n0, .ref n2, .ref n7, .null, .null, .int 0, .int 0, .int 0])), (n0, .inr (3, [.ref n1, .int 5])), (n1, .inl (cy 0, 9, .inl (fun _ => 0))), (n2, .inr (2, [.ref n3, .ref n4, .ref n5, .ref n6, .int 0, .int 0, .int 0, .ref n0, .int 0])), (n3, .inl (cy 0, 512, .inl (fun _ => 0))), (n4, .inl (cy 0, 512, .inl (fun _ => 0))), (n5, .inl (cy 0, 81, .inl (fun _ => 0))), (n6, .inl (cy 0, 81, .inl (fun _ => 0))), (n7, .inr (4, [.ref n8, .ref n9, .ref n10, .ref n11, .int 0, .int 0, .int 0, .ref n0, .int 3])), (n8, .inl (cy 0, 4096, .inl (fun _ => 0))), (n9, .inl (cy 0, 4096, .inl (fun _ => 0))), (n10, .inl (cy 0, 24, .inl (fun _ => 0))), (n11, .inl (cy 0, 24, .inl (fun _ => 0))), (n12, .inl (cy 2, 3, .inr (.inr (.inr (.inr (fun _ => none))))))] H := hP
  have hD : va_D A [(a0, .inr (7, [.ref n0, .ref n2, .ref n7, .null, .null, .int 0, .int 0, .int 0])), (n0, .inr (3, [.ref n1, .int 5])), (n1, .inl (cy 0, 9, .inl (fun _ => 0))), (n2, .inr (2, [.ref n3, .ref n4, .ref n5, .ref n6, .int 0, .int 0, .int 0, .ref n0, .int 0])), (n3, .inl (cy 0, 512, .inl (fun _ => 0))), (n4, .inl (cy 0, 512, .inl (fun _ => 0))), (n5, .inl (cy 0, 81, .inl (fun _ => 0))), (n6, .inl (cy 0, 81, .inl (fun _ => 0))), (n7, .inr (4, [.ref n8, .ref n9, .ref n10, .ref n11, .int 0, .int 0, .int 0, .ref n0, .int 3])), (n8, .inl (cy 0, 4096, .inl (fun _ => 0))), (n9, .inl (cy 0, 4096, .inl (fun _ => 0))), (n10, .inl (cy 0, 24, .inl (fun _ => 0))), (n11, .inl (cy 0, 24, .inl (fun _ => 0))), (n12, .inl (cy 2, 3, .inr (.inr (.inr (.inr (fun _ => none))))))] := hD
  refine lv_dup hx hb dX8_init_50 rfl ?_
  refine lv_iconst (v := 0) hx hb dX8_init_51 (by decide) ?_
  refine va_new (ci := 5) (fs := []) (C := RX6) (T := TX6) (N := 0) hx hb hts iwX6 tyX6 tyX6_ok hown (hts (.classLink RX8 32 RX6) (by decide +kernel)) (hts (.instantiable RX6 0) (by decide +kernel)) (hts (.initialized RX6) (by decide +kernel)) hK.1.1 hP hD hS hA rfl (fun j hj => absurd hj (Nat.not_lt_zero j)) (Nat.le_of_ble_eq_true rfl) (Nat.le_of_ble_eq_true rfl) dX8_init_52 (fun n13 H hP hD hS => ?_)
  have hP : va_P G vwCl [(a0, .inr (7, [.ref n0, .ref n2, .ref n7, .null, .null, .int 0, .int 0, .int 0])), (n0, .inr (3, [.ref n1, .int 5])), (n1, .inl (cy 0, 9, .inl (fun _ => 0))), (n2, .inr (2, [.ref n3, .ref n4, .ref n5, .ref n6, .int 0, .int 0, .int 0, .ref n0, .int 0])), (n3, .inl (cy 0, 512, .inl (fun _ => 0))), (n4, .inl (cy 0, 512, .inl (fun _ => 0))), (n5, .inl (cy 0, 81, .inl (fun _ => 0))), (n6, .inl (cy 0, 81, .inl (fun _ => 0))), (n7, .inr (4, [.ref n8, .ref n9, .ref n10, .ref n11, .int 0, .int 0, .int 0, .ref n0, .int 3])), (n8, .inl (cy 0, 4096, .inl (fun _ => 0))), (n9, .inl (cy 0, 4096, .inl (fun _ => 0))), (n10, .inl (cy 0, 24, .inl (fun _ => 0))), (n11, .inl (cy 0, 24, .inl (fun _ => 0))), (n12, .inl (cy 2, 3, .inr (.inr (.inr (.inr (fun _ => none)))))), (n13, .inr (5, []))] H := hP
  have hD : va_D A [(a0, .inr (7, [.ref n0, .ref n2, .ref n7, .null, .null, .int 0, .int 0, .int 0])), (n0, .inr (3, [.ref n1, .int 5])), (n1, .inl (cy 0, 9, .inl (fun _ => 0))), (n2, .inr (2, [.ref n3, .ref n4, .ref n5, .ref n6, .int 0, .int 0, .int 0, .ref n0, .int 0])), (n3, .inl (cy 0, 512, .inl (fun _ => 0))), (n4, .inl (cy 0, 512, .inl (fun _ => 0))), (n5, .inl (cy 0, 81, .inl (fun _ => 0))), (n6, .inl (cy 0, 81, .inl (fun _ => 0))), (n7, .inr (4, [.ref n8, .ref n9, .ref n10, .ref n11, .int 0, .int 0, .int 0, .ref n0, .int 3])), (n8, .inl (cy 0, 4096, .inl (fun _ => 0))), (n9, .inl (cy 0, 4096, .inl (fun _ => 0))), (n10, .inl (cy 0, 24, .inl (fun _ => 0))), (n11, .inl (cy 0, 24, .inl (fun _ => 0))), (n12, .inl (cy 2, 3, .inr (.inr (.inr (.inr (fun _ => none)))))), (n13, .inr (5, []))] := hD
  refine lv_dup hx hb dX8_init_55 rfl ?_
  have hPc : va_P G vwCl [] H := P_nil
  have hDc : va_D A [] := D_nil
  have hFc := va_free (wc := []) hD hS hA [] rfl
  refine va_callv (va_runIN (host := "SlidTokens") (As := []) (rest := [.ref n13, .int 0, .ref n12, .ref n12, .ref a0]) ⟨hx, hb, hml, hown, hts⟩ (ct_X6_init l G cy n13 H.size) ⟨va_cnB 0 hts gX8_init_X6_init_n34 rfl rfl rfl hK.2.2.2.1 (hts (.initialized RX6) (by decide +kernel)) (by decide +kernel) ⟨Nat.le_of_ble_eq_true rfl, Nat.le_of_ble_eq_true rfl⟩, rfl, hts (.instanceMethod yX6_init) (by decide +kernel)⟩ (wX_S hK hPc hDc) rfl rfl hl.1 rfl (lv_room (Nat.le_of_ble_eq_true rfl)) dX8_init_56 ⟨Nat.le_of_ble_eq_true rfl, Nat.le_of_ble_eq_true rfl⟩) hS (fun q9 _ h9 => hFc q9 h9) hFc (fun u9 t9 H locs ht9 hvm9 hw9 hB9 hz9 hk9 hS => ?_)
  obtain ⟨hP, hD⟩ := va_join (wr := [(a0, .inr (7, [.ref n0, .ref n2, .ref n7, .null, .null, .int 0, .int 0, .int 0])), (n0, .inr (3, [.ref n1, .int 5])), (n1, .inl (cy 0, 9, .inl (fun _ => 0))), (n2, .inr (2, [.ref n3, .ref n4, .ref n5, .ref n6, .int 0, .int 0, .int 0, .ref n0, .int 0])), (n3, .inl (cy 0, 512, .inl (fun _ => 0))), (n4, .inl (cy 0, 512, .inl (fun _ => 0))), (n5, .inl (cy 0, 81, .inl (fun _ => 0))), (n6, .inl (cy 0, 81, .inl (fun _ => 0))), (n7, .inr (4, [.ref n8, .ref n9, .ref n10, .ref n11, .int 0, .int 0, .int 0, .ref n0, .int 3])), (n8, .inl (cy 0, 4096, .inl (fun _ => 0))), (n9, .inl (cy 0, 4096, .inl (fun _ => 0))), (n10, .inl (cy 0, 24, .inl (fun _ => 0))), (n11, .inl (cy 0, 24, .inl (fun _ => 0))), (n12, .inl (cy 2, 3, .inr (.inr (.inr (.inr (fun _ => none)))))), (n13, .inr (5, []))]) (w1 := []) hP hD [] [0, 1, 2, 3, 4, 5, 6, 7, 8, 9, 10, 11, 12, 13, 14] rfl rfl (by decide) (by decide) hk9 hFc (by rw [← ht9]; exact hB9.1) hB9.2
  have hP : va_P G vwCl [(a0, .inr (7, [.ref n0, .ref n2, .ref n7, .null, .null, .int 0, .int 0, .int 0])), (n0, .inr (3, [.ref n1, .int 5])), (n1, .inl (cy 0, 9, .inl (fun _ => 0))), (n2, .inr (2, [.ref n3, .ref n4, .ref n5, .ref n6, .int 0, .int 0, .int 0, .ref n0, .int 0])), (n3, .inl (cy 0, 512, .inl (fun _ => 0))), (n4, .inl (cy 0, 512, .inl (fun _ => 0))), (n5, .inl (cy 0, 81, .inl (fun _ => 0))), (n6, .inl (cy 0, 81, .inl (fun _ => 0))), (n7, .inr (4, [.ref n8, .ref n9, .ref n10, .ref n11, .int 0, .int 0, .int 0, .ref n0, .int 3])), (n8, .inl (cy 0, 4096, .inl (fun _ => 0))), (n9, .inl (cy 0, 4096, .inl (fun _ => 0))), (n10, .inl (cy 0, 24, .inl (fun _ => 0))), (n11, .inl (cy 0, 24, .inl (fun _ => 0))), (n12, .inl (cy 2, 3, .inr (.inr (.inr (.inr (fun _ => none)))))), (n13, .inr (5, []))] H := hP
  have hD : va_D A [(a0, .inr (7, [.ref n0, .ref n2, .ref n7, .null, .null, .int 0, .int 0, .int 0])), (n0, .inr (3, [.ref n1, .int 5])), (n1, .inl (cy 0, 9, .inl (fun _ => 0))), (n2, .inr (2, [.ref n3, .ref n4, .ref n5, .ref n6, .int 0, .int 0, .int 0, .ref n0, .int 0])), (n3, .inl (cy 0, 512, .inl (fun _ => 0))), (n4, .inl (cy 0, 512, .inl (fun _ => 0))), (n5, .inl (cy 0, 81, .inl (fun _ => 0))), (n6, .inl (cy 0, 81, .inl (fun _ => 0))), (n7, .inr (4, [.ref n8, .ref n9, .ref n10, .ref n11, .int 0, .int 0, .int 0, .ref n0, .int 3])), (n8, .inl (cy 0, 4096, .inl (fun _ => 0))), (n9, .inl (cy 0, 4096, .inl (fun _ => 0))), (n10, .inl (cy 0, 24, .inl (fun _ => 0))), (n11, .inl (cy 0, 24, .inl (fun _ => 0))), (n12, .inl (cy 2, 3, .inr (.inr (.inr (.inr (fun _ => none)))))), (n13, .inr (5, []))] := hD
  refine va_astq hx hb hK.1.1 hP hD hS 13 2 14 5 rfl rfl rfl rfl in0_3 dX8_init_59 (fun H locs hP hD hS => ?_)
  have hP : va_P G vwCl [(a0, .inr (7, [.ref n0, .ref n2, .ref n7, .null, .null, .int 0, .int 0, .int 0])), (n0, .inr (3, [.ref n1, .int 5])), (n1, .inl (cy 0, 9, .inl (fun _ => 0))), (n2, .inr (2, [.ref n3, .ref n4, .ref n5, .ref n6, .int 0, .int 0, .int 0, .ref n0, .int 0])), (n3, .inl (cy 0, 512, .inl (fun _ => 0))), (n4, .inl (cy 0, 512, .inl (fun _ => 0))), (n5, .inl (cy 0, 81, .inl (fun _ => 0))), (n6, .inl (cy 0, 81, .inl (fun _ => 0))), (n7, .inr (4, [.ref n8, .ref n9, .ref n10, .ref n11, .int 0, .int 0, .int 0, .ref n0, .int 3])), (n8, .inl (cy 0, 4096, .inl (fun _ => 0))), (n9, .inl (cy 0, 4096, .inl (fun _ => 0))), (n10, .inl (cy 0, 24, .inl (fun _ => 0))), (n11, .inl (cy 0, 24, .inl (fun _ => 0))), (n12, .inl (cy 2, 3, .inr (.inr (.inr (.inr (va_up (fun _ => none) (0 : Int32).toNatClampNeg (some n13))))))), (n13, .inr (5, []))] H := hP
  have hD : va_D A [(a0, .inr (7, [.ref n0, .ref n2, .ref n7, .null, .null, .int 0, .int 0, .int 0])), (n0, .inr (3, [.ref n1, .int 5])), (n1, .inl (cy 0, 9, .inl (fun _ => 0))), (n2, .inr (2, [.ref n3, .ref n4, .ref n5, .ref n6, .int 0, .int 0, .int 0, .ref n0, .int 0])), (n3, .inl (cy 0, 512, .inl (fun _ => 0))), (n4, .inl (cy 0, 512, .inl (fun _ => 0))), (n5, .inl (cy 0, 81, .inl (fun _ => 0))), (n6, .inl (cy 0, 81, .inl (fun _ => 0))), (n7, .inr (4, [.ref n8, .ref n9, .ref n10, .ref n11, .int 0, .int 0, .int 0, .ref n0, .int 3])), (n8, .inl (cy 0, 4096, .inl (fun _ => 0))), (n9, .inl (cy 0, 4096, .inl (fun _ => 0))), (n10, .inl (cy 0, 24, .inl (fun _ => 0))), (n11, .inl (cy 0, 24, .inl (fun _ => 0))), (n12, .inl (cy 2, 3, .inr (.inr (.inr (.inr (va_up (fun _ => none) (0 : Int32).toNatClampNeg (some n13))))))), (n13, .inr (5, []))] := hD
  refine lv_dup hx hb dX8_init_60 rfl ?_
  refine lv_iconst (v := 1) hx hb dX8_init_61 (by decide) ?_
  refine va_new (ci := 1) (fs := []) (C := RX1) (T := TX1) (N := 0) hx hb hts iwX1 tyX1 tyX1_ok hown (hts (.classLink RX8 35 RX1) (by decide +kernel)) (hts (.instantiable RX1 0) (by decide +kernel)) (hts (.initialized RX1) (by decide +kernel)) hK.1.1 hP hD hS hA rfl (fun j hj => absurd hj (Nat.not_lt_zero j)) (Nat.le_of_ble_eq_true rfl) (Nat.le_of_ble_eq_true rfl) dX8_init_62 (fun n14 H hP hD hS => ?_)
  have hP : va_P G vwCl [(a0, .inr (7, [.ref n0, .ref n2, .ref n7, .null, .null, .int 0, .int 0, .int 0])), (n0, .inr (3, [.ref n1, .int 5])), (n1, .inl (cy 0, 9, .inl (fun _ => 0))), (n2, .inr (2, [.ref n3, .ref n4, .ref n5, .ref n6, .int 0, .int 0, .int 0, .ref n0, .int 0])), (n3, .inl (cy 0, 512, .inl (fun _ => 0))), (n4, .inl (cy 0, 512, .inl (fun _ => 0))), (n5, .inl (cy 0, 81, .inl (fun _ => 0))), (n6, .inl (cy 0, 81, .inl (fun _ => 0))), (n7, .inr (4, [.ref n8, .ref n9, .ref n10, .ref n11, .int 0, .int 0, .int 0, .ref n0, .int 3])), (n8, .inl (cy 0, 4096, .inl (fun _ => 0))), (n9, .inl (cy 0, 4096, .inl (fun _ => 0))), (n10, .inl (cy 0, 24, .inl (fun _ => 0))), (n11, .inl (cy 0, 24, .inl (fun _ => 0))), (n12, .inl (cy 2, 3, .inr (.inr (.inr (.inr (va_up (fun _ => none) (0 : Int32).toNatClampNeg (some n13))))))), (n13, .inr (5, [])), (n14, .inr (1, []))] H := hP
  have hD : va_D A [(a0, .inr (7, [.ref n0, .ref n2, .ref n7, .null, .null, .int 0, .int 0, .int 0])), (n0, .inr (3, [.ref n1, .int 5])), (n1, .inl (cy 0, 9, .inl (fun _ => 0))), (n2, .inr (2, [.ref n3, .ref n4, .ref n5, .ref n6, .int 0, .int 0, .int 0, .ref n0, .int 0])), (n3, .inl (cy 0, 512, .inl (fun _ => 0))), (n4, .inl (cy 0, 512, .inl (fun _ => 0))), (n5, .inl (cy 0, 81, .inl (fun _ => 0))), (n6, .inl (cy 0, 81, .inl (fun _ => 0))), (n7, .inr (4, [.ref n8, .ref n9, .ref n10, .ref n11, .int 0, .int 0, .int 0, .ref n0, .int 3])), (n8, .inl (cy 0, 4096, .inl (fun _ => 0))), (n9, .inl (cy 0, 4096, .inl (fun _ => 0))), (n10, .inl (cy 0, 24, .inl (fun _ => 0))), (n11, .inl (cy 0, 24, .inl (fun _ => 0))), (n12, .inl (cy 2, 3, .inr (.inr (.inr (.inr (va_up (fun _ => none) (0 : Int32).toNatClampNeg (some n13))))))), (n13, .inr (5, [])), (n14, .inr (1, []))] := hD
  refine lv_dup hx hb dX8_init_65 rfl ?_
  have hPc : va_P G vwCl [] H := P_nil
  have hDc : va_D A [] := D_nil
  have hFc := va_free (wc := []) hD hS hA [] rfl
  refine va_callv (va_runIN (host := "SlidTokens") (As := []) (rest := [.ref n14, .int 1, .ref n12, .ref n12, .ref a0]) ⟨hx, hb, hml, hown, hts⟩ (ct_X1_init l G cy n14 H.size) ⟨va_cnB 0 hts gX8_init_X1_init_n37 rfl rfl rfl hK.2.2.2.2.1 (hts (.initialized RX1) (by decide +kernel)) (by decide +kernel) ⟨Nat.le_of_ble_eq_true rfl, Nat.le_of_ble_eq_true rfl⟩, rfl, hts (.instanceMethod yX1_init) (by decide +kernel)⟩ (wX_S hK hPc hDc) rfl rfl hl.1 rfl (lv_room (Nat.le_of_ble_eq_true rfl)) dX8_init_66 ⟨Nat.le_of_ble_eq_true rfl, Nat.le_of_ble_eq_true rfl⟩) hS (fun q9 _ h9 => hFc q9 h9) hFc (fun u9 t9 H locs ht9 hvm9 hw9 hB9 hz9 hk9 hS => ?_)
  obtain ⟨hP, hD⟩ := va_join (wr := [(a0, .inr (7, [.ref n0, .ref n2, .ref n7, .null, .null, .int 0, .int 0, .int 0])), (n0, .inr (3, [.ref n1, .int 5])), (n1, .inl (cy 0, 9, .inl (fun _ => 0))), (n2, .inr (2, [.ref n3, .ref n4, .ref n5, .ref n6, .int 0, .int 0, .int 0, .ref n0, .int 0])), (n3, .inl (cy 0, 512, .inl (fun _ => 0))), (n4, .inl (cy 0, 512, .inl (fun _ => 0))), (n5, .inl (cy 0, 81, .inl (fun _ => 0))), (n6, .inl (cy 0, 81, .inl (fun _ => 0))), (n7, .inr (4, [.ref n8, .ref n9, .ref n10, .ref n11, .int 0, .int 0, .int 0, .ref n0, .int 3])), (n8, .inl (cy 0, 4096, .inl (fun _ => 0))), (n9, .inl (cy 0, 4096, .inl (fun _ => 0))), (n10, .inl (cy 0, 24, .inl (fun _ => 0))), (n11, .inl (cy 0, 24, .inl (fun _ => 0))), (n12, .inl (cy 2, 3, .inr (.inr (.inr (.inr (va_up (fun _ => none) (0 : Int32).toNatClampNeg (some n13))))))), (n13, .inr (5, [])), (n14, .inr (1, []))]) (w1 := []) hP hD [] [0, 1, 2, 3, 4, 5, 6, 7, 8, 9, 10, 11, 12, 13, 14, 15] rfl rfl (by decide) (by decide) hk9 hFc (by rw [← ht9]; exact hB9.1) hB9.2
  have hP : va_P G vwCl [(a0, .inr (7, [.ref n0, .ref n2, .ref n7, .null, .null, .int 0, .int 0, .int 0])), (n0, .inr (3, [.ref n1, .int 5])), (n1, .inl (cy 0, 9, .inl (fun _ => 0))), (n2, .inr (2, [.ref n3, .ref n4, .ref n5, .ref n6, .int 0, .int 0, .int 0, .ref n0, .int 0])), (n3, .inl (cy 0, 512, .inl (fun _ => 0))), (n4, .inl (cy 0, 512, .inl (fun _ => 0))), (n5, .inl (cy 0, 81, .inl (fun _ => 0))), (n6, .inl (cy 0, 81, .inl (fun _ => 0))), (n7, .inr (4, [.ref n8, .ref n9, .ref n10, .ref n11, .int 0, .int 0, .int 0, .ref n0, .int 3])), (n8, .inl (cy 0, 4096, .inl (fun _ => 0))), (n9, .inl (cy 0, 4096, .inl (fun _ => 0))), (n10, .inl (cy 0, 24, .inl (fun _ => 0))), (n11, .inl (cy 0, 24, .inl (fun _ => 0))), (n12, .inl (cy 2, 3, .inr (.inr (.inr (.inr (va_up (fun _ => none) (0 : Int32).toNatClampNeg (some n13))))))), (n13, .inr (5, [])), (n14, .inr (1, []))] H := hP
  have hD : va_D A [(a0, .inr (7, [.ref n0, .ref n2, .ref n7, .null, .null, .int 0, .int 0, .int 0])), (n0, .inr (3, [.ref n1, .int 5])), (n1, .inl (cy 0, 9, .inl (fun _ => 0))), (n2, .inr (2, [.ref n3, .ref n4, .ref n5, .ref n6, .int 0, .int 0, .int 0, .ref n0, .int 0])), (n3, .inl (cy 0, 512, .inl (fun _ => 0))), (n4, .inl (cy 0, 512, .inl (fun _ => 0))), (n5, .inl (cy 0, 81, .inl (fun _ => 0))), (n6, .inl (cy 0, 81, .inl (fun _ => 0))), (n7, .inr (4, [.ref n8, .ref n9, .ref n10, .ref n11, .int 0, .int 0, .int 0, .ref n0, .int 3])), (n8, .inl (cy 0, 4096, .inl (fun _ => 0))), (n9, .inl (cy 0, 4096, .inl (fun _ => 0))), (n10, .inl (cy 0, 24, .inl (fun _ => 0))), (n11, .inl (cy 0, 24, .inl (fun _ => 0))), (n12, .inl (cy 2, 3, .inr (.inr (.inr (.inr (va_up (fun _ => none) (0 : Int32).toNatClampNeg (some n13))))))), (n13, .inr (5, [])), (n14, .inr (1, []))] := hD
  refine va_astqO (E := RX6) hx hb hK.1.1 hP hD hS 13 2 15 1 rfl rfl hK.2.2.2.2.2.2.2.2.2.1 rfl rfl in1_3 dX8_init_69 (fun H locs hP hD hS => ?_)
  have hP : va_P G vwCl [(a0, .inr (7, [.ref n0, .ref n2, .ref n7, .null, .null, .int 0, .int 0, .int 0])), (n0, .inr (3, [.ref n1, .int 5])), (n1, .inl (cy 0, 9, .inl (fun _ => 0))), (n2, .inr (2, [.ref n3, .ref n4, .ref n5, .ref n6, .int 0, .int 0, .int 0, .ref n0, .int 0])), (n3, .inl (cy 0, 512, .inl (fun _ => 0))), (n4, .inl (cy 0, 512, .inl (fun _ => 0))), (n5, .inl (cy 0, 81, .inl (fun _ => 0))), (n6, .inl (cy 0, 81, .inl (fun _ => 0))), (n7, .inr (4, [.ref n8, .ref n9, .ref n10, .ref n11, .int 0, .int 0, .int 0, .ref n0, .int 3])), (n8, .inl (cy 0, 4096, .inl (fun _ => 0))), (n9, .inl (cy 0, 4096, .inl (fun _ => 0))), (n10, .inl (cy 0, 24, .inl (fun _ => 0))), (n11, .inl (cy 0, 24, .inl (fun _ => 0))), (n12, .inl (cy 2, 3, .inr (.inr (.inr (.inr (va_up (va_up (fun _ => none) (0 : Int32).toNatClampNeg (some n13)) (1 : Int32).toNatClampNeg (some n14))))))), (n13, .inr (5, [])), (n14, .inr (1, []))] H := hP
  have hD : va_D A [(a0, .inr (7, [.ref n0, .ref n2, .ref n7, .null, .null, .int 0, .int 0, .int 0])), (n0, .inr (3, [.ref n1, .int 5])), (n1, .inl (cy 0, 9, .inl (fun _ => 0))), (n2, .inr (2, [.ref n3, .ref n4, .ref n5, .ref n6, .int 0, .int 0, .int 0, .ref n0, .int 0])), (n3, .inl (cy 0, 512, .inl (fun _ => 0))), (n4, .inl (cy 0, 512, .inl (fun _ => 0))), (n5, .inl (cy 0, 81, .inl (fun _ => 0))), (n6, .inl (cy 0, 81, .inl (fun _ => 0))), (n7, .inr (4, [.ref n8, .ref n9, .ref n10, .ref n11, .int 0, .int 0, .int 0, .ref n0, .int 3])), (n8, .inl (cy 0, 4096, .inl (fun _ => 0))), (n9, .inl (cy 0, 4096, .inl (fun _ => 0))), (n10, .inl (cy 0, 24, .inl (fun _ => 0))), (n11, .inl (cy 0, 24, .inl (fun _ => 0))), (n12, .inl (cy 2, 3, .inr (.inr (.inr (.inr (va_up (va_up (fun _ => none) (0 : Int32).toNatClampNeg (some n13)) (1 : Int32).toNatClampNeg (some n14))))))), (n13, .inr (5, [])), (n14, .inr (1, []))] := hD
  refine lv_dup hx hb dX8_init_70 rfl ?_
  refine lv_iconst (v := 2) hx hb dX8_init_71 (by decide) ?_
  refine va_new (ci := 0) (fs := []) (C := RX0) (T := TX0) (N := 0) hx hb hts iwX0 tyX0 tyX0_ok hown (hts (.classLink RX8 38 RX0) (by decide +kernel)) (hts (.instantiable RX0 0) (by decide +kernel)) (hts (.initialized RX0) (by decide +kernel)) hK.1.1 hP hD hS hA rfl (fun j hj => absurd hj (Nat.not_lt_zero j)) (Nat.le_of_ble_eq_true rfl) (Nat.le_of_ble_eq_true rfl) dX8_init_72 (fun n15 H hP hD hS => ?_)
  have hP : va_P G vwCl [(a0, .inr (7, [.ref n0, .ref n2, .ref n7, .null, .null, .int 0, .int 0, .int 0])), (n0, .inr (3, [.ref n1, .int 5])), (n1, .inl (cy 0, 9, .inl (fun _ => 0))), (n2, .inr (2, [.ref n3, .ref n4, .ref n5, .ref n6, .int 0, .int 0, .int 0, .ref n0, .int 0])), (n3, .inl (cy 0, 512, .inl (fun _ => 0))), (n4, .inl (cy 0, 512, .inl (fun _ => 0))), (n5, .inl (cy 0, 81, .inl (fun _ => 0))), (n6, .inl (cy 0, 81, .inl (fun _ => 0))), (n7, .inr (4, [.ref n8, .ref n9, .ref n10, .ref n11, .int 0, .int 0, .int 0, .ref n0, .int 3])), (n8, .inl (cy 0, 4096, .inl (fun _ => 0))), (n9, .inl (cy 0, 4096, .inl (fun _ => 0))), (n10, .inl (cy 0, 24, .inl (fun _ => 0))), (n11, .inl (cy 0, 24, .inl (fun _ => 0))), (n12, .inl (cy 2, 3, .inr (.inr (.inr (.inr (va_up (va_up (fun _ => none) (0 : Int32).toNatClampNeg (some n13)) (1 : Int32).toNatClampNeg (some n14))))))), (n13, .inr (5, [])), (n14, .inr (1, [])), (n15, .inr (0, []))] H := hP
  have hD : va_D A [(a0, .inr (7, [.ref n0, .ref n2, .ref n7, .null, .null, .int 0, .int 0, .int 0])), (n0, .inr (3, [.ref n1, .int 5])), (n1, .inl (cy 0, 9, .inl (fun _ => 0))), (n2, .inr (2, [.ref n3, .ref n4, .ref n5, .ref n6, .int 0, .int 0, .int 0, .ref n0, .int 0])), (n3, .inl (cy 0, 512, .inl (fun _ => 0))), (n4, .inl (cy 0, 512, .inl (fun _ => 0))), (n5, .inl (cy 0, 81, .inl (fun _ => 0))), (n6, .inl (cy 0, 81, .inl (fun _ => 0))), (n7, .inr (4, [.ref n8, .ref n9, .ref n10, .ref n11, .int 0, .int 0, .int 0, .ref n0, .int 3])), (n8, .inl (cy 0, 4096, .inl (fun _ => 0))), (n9, .inl (cy 0, 4096, .inl (fun _ => 0))), (n10, .inl (cy 0, 24, .inl (fun _ => 0))), (n11, .inl (cy 0, 24, .inl (fun _ => 0))), (n12, .inl (cy 2, 3, .inr (.inr (.inr (.inr (va_up (va_up (fun _ => none) (0 : Int32).toNatClampNeg (some n13)) (1 : Int32).toNatClampNeg (some n14))))))), (n13, .inr (5, [])), (n14, .inr (1, [])), (n15, .inr (0, []))] := hD
  refine lv_dup hx hb dX8_init_75 rfl ?_
  have hPc : va_P G vwCl [] H := P_nil
  have hDc : va_D A [] := D_nil
  have hFc := va_free (wc := []) hD hS hA [] rfl
  refine va_callv (va_runIN (host := "SlidTokens") (As := []) (rest := [.ref n15, .int 2, .ref n12, .ref n12, .ref a0]) ⟨hx, hb, hml, hown, hts⟩ (ct_X0_init l G cy n15 H.size) ⟨va_cnB 0 hts gX8_init_X0_init_n40 rfl rfl rfl hK.2.2.2.2.2.2.1 (hts (.initialized RX0) (by decide +kernel)) (by decide +kernel) ⟨Nat.le_of_ble_eq_true rfl, Nat.le_of_ble_eq_true rfl⟩, rfl, hts (.instanceMethod yX0_init) (by decide +kernel)⟩ (wX_S hK hPc hDc) rfl rfl hl.1 rfl (lv_room (Nat.le_of_ble_eq_true rfl)) dX8_init_76 ⟨Nat.le_of_ble_eq_true rfl, Nat.le_of_ble_eq_true rfl⟩) hS (fun q9 _ h9 => hFc q9 h9) hFc (fun u9 t9 H locs ht9 hvm9 hw9 hB9 hz9 hk9 hS => ?_)
  obtain ⟨hP, hD⟩ := va_join (wr := [(a0, .inr (7, [.ref n0, .ref n2, .ref n7, .null, .null, .int 0, .int 0, .int 0])), (n0, .inr (3, [.ref n1, .int 5])), (n1, .inl (cy 0, 9, .inl (fun _ => 0))), (n2, .inr (2, [.ref n3, .ref n4, .ref n5, .ref n6, .int 0, .int 0, .int 0, .ref n0, .int 0])), (n3, .inl (cy 0, 512, .inl (fun _ => 0))), (n4, .inl (cy 0, 512, .inl (fun _ => 0))), (n5, .inl (cy 0, 81, .inl (fun _ => 0))), (n6, .inl (cy 0, 81, .inl (fun _ => 0))), (n7, .inr (4, [.ref n8, .ref n9, .ref n10, .ref n11, .int 0, .int 0, .int 0, .ref n0, .int 3])), (n8, .inl (cy 0, 4096, .inl (fun _ => 0))), (n9, .inl (cy 0, 4096, .inl (fun _ => 0))), (n10, .inl (cy 0, 24, .inl (fun _ => 0))), (n11, .inl (cy 0, 24, .inl (fun _ => 0))), (n12, .inl (cy 2, 3, .inr (.inr (.inr (.inr (va_up (va_up (fun _ => none) (0 : Int32).toNatClampNeg (some n13)) (1 : Int32).toNatClampNeg (some n14))))))), (n13, .inr (5, [])), (n14, .inr (1, [])), (n15, .inr (0, []))]) (w1 := []) hP hD [] [0, 1, 2, 3, 4, 5, 6, 7, 8, 9, 10, 11, 12, 13, 14, 15, 16] rfl rfl (by decide) (by decide) hk9 hFc (by rw [← ht9]; exact hB9.1) hB9.2
  have hP : va_P G vwCl [(a0, .inr (7, [.ref n0, .ref n2, .ref n7, .null, .null, .int 0, .int 0, .int 0])), (n0, .inr (3, [.ref n1, .int 5])), (n1, .inl (cy 0, 9, .inl (fun _ => 0))), (n2, .inr (2, [.ref n3, .ref n4, .ref n5, .ref n6, .int 0, .int 0, .int 0, .ref n0, .int 0])), (n3, .inl (cy 0, 512, .inl (fun _ => 0))), (n4, .inl (cy 0, 512, .inl (fun _ => 0))), (n5, .inl (cy 0, 81, .inl (fun _ => 0))), (n6, .inl (cy 0, 81, .inl (fun _ => 0))), (n7, .inr (4, [.ref n8, .ref n9, .ref n10, .ref n11, .int 0, .int 0, .int 0, .ref n0, .int 3])), (n8, .inl (cy 0, 4096, .inl (fun _ => 0))), (n9, .inl (cy 0, 4096, .inl (fun _ => 0))), (n10, .inl (cy 0, 24, .inl (fun _ => 0))), (n11, .inl (cy 0, 24, .inl (fun _ => 0))), (n12, .inl (cy 2, 3, .inr (.inr (.inr (.inr (va_up (va_up (fun _ => none) (0 : Int32).toNatClampNeg (some n13)) (1 : Int32).toNatClampNeg (some n14))))))), (n13, .inr (5, [])), (n14, .inr (1, [])), (n15, .inr (0, []))] H := hP
  have hD : va_D A [(a0, .inr (7, [.ref n0, .ref n2, .ref n7, .null, .null, .int 0, .int 0, .int 0])), (n0, .inr (3, [.ref n1, .int 5])), (n1, .inl (cy 0, 9, .inl (fun _ => 0))), (n2, .inr (2, [.ref n3, .ref n4, .ref n5, .ref n6, .int 0, .int 0, .int 0, .ref n0, .int 0])), (n3, .inl (cy 0, 512, .inl (fun _ => 0))), (n4, .inl (cy 0, 512, .inl (fun _ => 0))), (n5, .inl (cy 0, 81, .inl (fun _ => 0))), (n6, .inl (cy 0, 81, .inl (fun _ => 0))), (n7, .inr (4, [.ref n8, .ref n9, .ref n10, .ref n11, .int 0, .int 0, .int 0, .ref n0, .int 3])), (n8, .inl (cy 0, 4096, .inl (fun _ => 0))), (n9, .inl (cy 0, 4096, .inl (fun _ => 0))), (n10, .inl (cy 0, 24, .inl (fun _ => 0))), (n11, .inl (cy 0, 24, .inl (fun _ => 0))), (n12, .inl (cy 2, 3, .inr (.inr (.inr (.inr (va_up (va_up (fun _ => none) (0 : Int32).toNatClampNeg (some n13)) (1 : Int32).toNatClampNeg (some n14))))))), (n13, .inr (5, [])), (n14, .inr (1, [])), (n15, .inr (0, []))] := hD
  refine va_astqO (E := RX6) hx hb hK.1.1 hP hD hS 13 2 16 0 rfl rfl hK.2.2.2.2.2.2.2.2.2.2 rfl rfl in2_3 dX8_init_79 (fun H locs hP hD hS => ?_)
  have hP : va_P G vwCl [(a0, .inr (7, [.ref n0, .ref n2, .ref n7, .null, .null, .int 0, .int 0, .int 0])), (n0, .inr (3, [.ref n1, .int 5])), (n1, .inl (cy 0, 9, .inl (fun _ => 0))), (n2, .inr (2, [.ref n3, .ref n4, .ref n5, .ref n6, .int 0, .int 0, .int 0, .ref n0, .int 0])), (n3, .inl (cy 0, 512, .inl (fun _ => 0))), (n4, .inl (cy 0, 512, .inl (fun _ => 0))), (n5, .inl (cy 0, 81, .inl (fun _ => 0))), (n6, .inl (cy 0, 81, .inl (fun _ => 0))), (n7, .inr (4, [.ref n8, .ref n9, .ref n10, .ref n11, .int 0, .int 0, .int 0, .ref n0, .int 3])), (n8, .inl (cy 0, 4096, .inl (fun _ => 0))), (n9, .inl (cy 0, 4096, .inl (fun _ => 0))), (n10, .inl (cy 0, 24, .inl (fun _ => 0))), (n11, .inl (cy 0, 24, .inl (fun _ => 0))), (n12, .inl (cy 2, 3, .inr (.inr (.inr (.inr (va_up (va_up (va_up (fun _ => none) (0 : Int32).toNatClampNeg (some n13)) (1 : Int32).toNatClampNeg (some n14)) (2 : Int32).toNatClampNeg (some n15))))))), (n13, .inr (5, [])), (n14, .inr (1, [])), (n15, .inr (0, []))] H := hP
  have hD : va_D A [(a0, .inr (7, [.ref n0, .ref n2, .ref n7, .null, .null, .int 0, .int 0, .int 0])), (n0, .inr (3, [.ref n1, .int 5])), (n1, .inl (cy 0, 9, .inl (fun _ => 0))), (n2, .inr (2, [.ref n3, .ref n4, .ref n5, .ref n6, .int 0, .int 0, .int 0, .ref n0, .int 0])), (n3, .inl (cy 0, 512, .inl (fun _ => 0))), (n4, .inl (cy 0, 512, .inl (fun _ => 0))), (n5, .inl (cy 0, 81, .inl (fun _ => 0))), (n6, .inl (cy 0, 81, .inl (fun _ => 0))), (n7, .inr (4, [.ref n8, .ref n9, .ref n10, .ref n11, .int 0, .int 0, .int 0, .ref n0, .int 3])), (n8, .inl (cy 0, 4096, .inl (fun _ => 0))), (n9, .inl (cy 0, 4096, .inl (fun _ => 0))), (n10, .inl (cy 0, 24, .inl (fun _ => 0))), (n11, .inl (cy 0, 24, .inl (fun _ => 0))), (n12, .inl (cy 2, 3, .inr (.inr (.inr (.inr (va_up (va_up (va_up (fun _ => none) (0 : Int32).toNatClampNeg (some n13)) (1 : Int32).toNatClampNeg (some n14)) (2 : Int32).toNatClampNeg (some n15))))))), (n13, .inr (5, [])), (n14, .inr (1, [])), (n15, .inr (0, []))] := hD
  refine va_putF (D := G) (ci := 7) (v := .ref n12) (ty := .array (.object "SlidTokens$Slide")) (C := RX8) (T := TX8) (N := 8) hx hb hts iwX8 tyX8 tyX8_ok nmX8 hown hK.1.1 hP hD hS 0 rfl rfl 3 (by decide) fl41 (fun _ h9 => h9) rfl hin rfl (by decide +kernel) rfl rfl (Nat.le_of_ble_eq_true rfl) dX8_init_80 (fun H locs hP hD hS => ?_)
  have hP : va_P G vwCl [(a0, .inr (7, [.ref n0, .ref n2, .ref n7, .ref n12, .null, .int 0, .int 0, .int 0])), (n0, .inr (3, [.ref n1, .int 5])), (n1, .inl (cy 0, 9, .inl (fun _ => 0))), (n2, .inr (2, [.ref n3, .ref n4, .ref n5, .ref n6, .int 0, .int 0, .int 0, .ref n0, .int 0])), (n3, .inl (cy 0, 512, .inl (fun _ => 0))), (n4, .inl (cy 0, 512, .inl (fun _ => 0))), (n5, .inl (cy 0, 81, .inl (fun _ => 0))), (n6, .inl (cy 0, 81, .inl (fun _ => 0))), (n7, .inr (4, [.ref n8, .ref n9, .ref n10, .ref n11, .int 0, .int 0, .int 0, .ref n0, .int 3])), (n8, .inl (cy 0, 4096, .inl (fun _ => 0))), (n9, .inl (cy 0, 4096, .inl (fun _ => 0))), (n10, .inl (cy 0, 24, .inl (fun _ => 0))), (n11, .inl (cy 0, 24, .inl (fun _ => 0))), (n12, .inl (cy 2, 3, .inr (.inr (.inr (.inr (va_up (va_up (va_up (fun _ => none) (0 : Int32).toNatClampNeg (some n13)) (1 : Int32).toNatClampNeg (some n14)) (2 : Int32).toNatClampNeg (some n15))))))), (n13, .inr (5, [])), (n14, .inr (1, [])), (n15, .inr (0, []))] H := hP
  have hD : va_D A [(a0, .inr (7, [.ref n0, .ref n2, .ref n7, .ref n12, .null, .int 0, .int 0, .int 0])), (n0, .inr (3, [.ref n1, .int 5])), (n1, .inl (cy 0, 9, .inl (fun _ => 0))), (n2, .inr (2, [.ref n3, .ref n4, .ref n5, .ref n6, .int 0, .int 0, .int 0, .ref n0, .int 0])), (n3, .inl (cy 0, 512, .inl (fun _ => 0))), (n4, .inl (cy 0, 512, .inl (fun _ => 0))), (n5, .inl (cy 0, 81, .inl (fun _ => 0))), (n6, .inl (cy 0, 81, .inl (fun _ => 0))), (n7, .inr (4, [.ref n8, .ref n9, .ref n10, .ref n11, .int 0, .int 0, .int 0, .ref n0, .int 3])), (n8, .inl (cy 0, 4096, .inl (fun _ => 0))), (n9, .inl (cy 0, 4096, .inl (fun _ => 0))), (n10, .inl (cy 0, 24, .inl (fun _ => 0))), (n11, .inl (cy 0, 24, .inl (fun _ => 0))), (n12, .inl (cy 2, 3, .inr (.inr (.inr (.inr (va_up (va_up (va_up (fun _ => none) (0 : Int32).toNatClampNeg (some n13)) (1 : Int32).toNatClampNeg (some n14)) (2 : Int32).toNatClampNeg (some n15))))))), (n13, .inr (5, [])), (n14, .inr (1, [])), (n15, .inr (0, []))] := hD
  refine lv_aload_n hx hb dX8_init_83 rfl (lv_at hl 0 rfl) ?_
  refine va_new (ci := 6) (fs := [.long 0]) (C := RX7) (T := TX7) (N := 1) hx hb hts iwX7 tyX7 tyX7_ok hown (hts (.classLink RX8 45 RX7) (by decide +kernel)) (hts (.instantiable RX7 1) (by decide +kernel)) (hts (.initialized RX7) (by decide +kernel)) hK.1.1 hP hD hS hA rfl (fun j hj => by rcases (show j = 0 by omega) with rfl <;> rfl) (Nat.le_of_ble_eq_true rfl) (Nat.le_of_ble_eq_true rfl) dX8_init_84 (fun n16 H hP hD hS => ?_)
  have hP : va_P G vwCl [(a0, .inr (7, [.ref n0, .ref n2, .ref n7, .ref n12, .null, .int 0, .int 0, .int 0])), (n0, .inr (3, [.ref n1, .int 5])), (n1, .inl (cy 0, 9, .inl (fun _ => 0))), (n2, .inr (2, [.ref n3, .ref n4, .ref n5, .ref n6, .int 0, .int 0, .int 0, .ref n0, .int 0])), (n3, .inl (cy 0, 512, .inl (fun _ => 0))), (n4, .inl (cy 0, 512, .inl (fun _ => 0))), (n5, .inl (cy 0, 81, .inl (fun _ => 0))), (n6, .inl (cy 0, 81, .inl (fun _ => 0))), (n7, .inr (4, [.ref n8, .ref n9, .ref n10, .ref n11, .int 0, .int 0, .int 0, .ref n0, .int 3])), (n8, .inl (cy 0, 4096, .inl (fun _ => 0))), (n9, .inl (cy 0, 4096, .inl (fun _ => 0))), (n10, .inl (cy 0, 24, .inl (fun _ => 0))), (n11, .inl (cy 0, 24, .inl (fun _ => 0))), (n12, .inl (cy 2, 3, .inr (.inr (.inr (.inr (va_up (va_up (va_up (fun _ => none) (0 : Int32).toNatClampNeg (some n13)) (1 : Int32).toNatClampNeg (some n14)) (2 : Int32).toNatClampNeg (some n15))))))), (n13, .inr (5, [])), (n14, .inr (1, [])), (n15, .inr (0, [])), (n16, .inr (6, [.long 0]))] H := hP
  have hD : va_D A [(a0, .inr (7, [.ref n0, .ref n2, .ref n7, .ref n12, .null, .int 0, .int 0, .int 0])), (n0, .inr (3, [.ref n1, .int 5])), (n1, .inl (cy 0, 9, .inl (fun _ => 0))), (n2, .inr (2, [.ref n3, .ref n4, .ref n5, .ref n6, .int 0, .int 0, .int 0, .ref n0, .int 0])), (n3, .inl (cy 0, 512, .inl (fun _ => 0))), (n4, .inl (cy 0, 512, .inl (fun _ => 0))), (n5, .inl (cy 0, 81, .inl (fun _ => 0))), (n6, .inl (cy 0, 81, .inl (fun _ => 0))), (n7, .inr (4, [.ref n8, .ref n9, .ref n10, .ref n11, .int 0, .int 0, .int 0, .ref n0, .int 3])), (n8, .inl (cy 0, 4096, .inl (fun _ => 0))), (n9, .inl (cy 0, 4096, .inl (fun _ => 0))), (n10, .inl (cy 0, 24, .inl (fun _ => 0))), (n11, .inl (cy 0, 24, .inl (fun _ => 0))), (n12, .inl (cy 2, 3, .inr (.inr (.inr (.inr (va_up (va_up (va_up (fun _ => none) (0 : Int32).toNatClampNeg (some n13)) (1 : Int32).toNatClampNeg (some n14)) (2 : Int32).toNatClampNeg (some n15))))))), (n13, .inr (5, [])), (n14, .inr (1, [])), (n15, .inr (0, [])), (n16, .inr (6, [.long 0]))] := hD
  refine lv_dup hx hb dX8_init_87 rfl ?_
  have hPc : va_P G vwCl [(n16, .inr (6, [.long 0]))] H := hP.sub [17] rfl
  have hDc : va_D A [(n16, .inr (6, [.long 0]))] := hD.sub [17] (by decide) rfl
  have hFc := va_free (wc := [(n16, .inr (6, [.long 0]))]) hD hS hA [17] rfl
  refine va_callv (va_runIN (host := "SlidTokens") (As := []) (rest := [.ref n16, .ref a0]) ⟨hx, hb, hml, hown, hts⟩ (ct_X7_init l G cy n16 H.size) ⟨va_cnB 0 hts gX8_init_X7_init_n47 rfl rfl rfl hK.2.2.2.2.2.2.2.2.1 (hts (.initialized RX7) (by decide +kernel)) (by decide +kernel) ⟨Nat.le_of_ble_eq_true rfl, Nat.le_of_ble_eq_true rfl⟩, rfl, hts (.instanceMethod yX7_init) (by decide +kernel)⟩ (wX_S hK hPc hDc) rfl rfl hl.1 rfl (lv_room (Nat.le_of_ble_eq_true rfl)) dX8_init_88 ⟨Nat.le_of_ble_eq_true rfl, Nat.le_of_ble_eq_true rfl⟩) hS (fun q9 _ h9 => hFc q9 h9) hFc (fun u9 t9 H locs ht9 hvm9 hw9 hB9 hz9 hk9 hS => ?_)
  obtain ⟨hP, hD⟩ := va_join (wr := [(a0, .inr (7, [.ref n0, .ref n2, .ref n7, .ref n12, .null, .int 0, .int 0, .int 0])), (n0, .inr (3, [.ref n1, .int 5])), (n1, .inl (cy 0, 9, .inl (fun _ => 0))), (n2, .inr (2, [.ref n3, .ref n4, .ref n5, .ref n6, .int 0, .int 0, .int 0, .ref n0, .int 0])), (n3, .inl (cy 0, 512, .inl (fun _ => 0))), (n4, .inl (cy 0, 512, .inl (fun _ => 0))), (n5, .inl (cy 0, 81, .inl (fun _ => 0))), (n6, .inl (cy 0, 81, .inl (fun _ => 0))), (n7, .inr (4, [.ref n8, .ref n9, .ref n10, .ref n11, .int 0, .int 0, .int 0, .ref n0, .int 3])), (n8, .inl (cy 0, 4096, .inl (fun _ => 0))), (n9, .inl (cy 0, 4096, .inl (fun _ => 0))), (n10, .inl (cy 0, 24, .inl (fun _ => 0))), (n11, .inl (cy 0, 24, .inl (fun _ => 0))), (n12, .inl (cy 2, 3, .inr (.inr (.inr (.inr (va_up (va_up (va_up (fun _ => none) (0 : Int32).toNatClampNeg (some n13)) (1 : Int32).toNatClampNeg (some n14)) (2 : Int32).toNatClampNeg (some n15))))))), (n13, .inr (5, [])), (n14, .inr (1, [])), (n15, .inr (0, []))]) (w1 := [(n16, .inr (6, [.long 0]))]) hP hD [17] [0, 1, 2, 3, 4, 5, 6, 7, 8, 9, 10, 11, 12, 13, 14, 15, 16] rfl rfl (by decide) (by decide) hk9 hFc (by rw [← ht9]; exact hB9.1) hB9.2
  have hP : va_P G vwCl [(a0, .inr (7, [.ref n0, .ref n2, .ref n7, .ref n12, .null, .int 0, .int 0, .int 0])), (n0, .inr (3, [.ref n1, .int 5])), (n1, .inl (cy 0, 9, .inl (fun _ => 0))), (n2, .inr (2, [.ref n3, .ref n4, .ref n5, .ref n6, .int 0, .int 0, .int 0, .ref n0, .int 0])), (n3, .inl (cy 0, 512, .inl (fun _ => 0))), (n4, .inl (cy 0, 512, .inl (fun _ => 0))), (n5, .inl (cy 0, 81, .inl (fun _ => 0))), (n6, .inl (cy 0, 81, .inl (fun _ => 0))), (n7, .inr (4, [.ref n8, .ref n9, .ref n10, .ref n11, .int 0, .int 0, .int 0, .ref n0, .int 3])), (n8, .inl (cy 0, 4096, .inl (fun _ => 0))), (n9, .inl (cy 0, 4096, .inl (fun _ => 0))), (n10, .inl (cy 0, 24, .inl (fun _ => 0))), (n11, .inl (cy 0, 24, .inl (fun _ => 0))), (n12, .inl (cy 2, 3, .inr (.inr (.inr (.inr (va_up (va_up (va_up (fun _ => none) (0 : Int32).toNatClampNeg (some n13)) (1 : Int32).toNatClampNeg (some n14)) (2 : Int32).toNatClampNeg (some n15))))))), (n13, .inr (5, [])), (n14, .inr (1, [])), (n15, .inr (0, [])), (n16, .inr (6, [.long 0]))] H := hP
  have hD : va_D A [(a0, .inr (7, [.ref n0, .ref n2, .ref n7, .ref n12, .null, .int 0, .int 0, .int 0])), (n0, .inr (3, [.ref n1, .int 5])), (n1, .inl (cy 0, 9, .inl (fun _ => 0))), (n2, .inr (2, [.ref n3, .ref n4, .ref n5, .ref n6, .int 0, .int 0, .int 0, .ref n0, .int 0])), (n3, .inl (cy 0, 512, .inl (fun _ => 0))), (n4, .inl (cy 0, 512, .inl (fun _ => 0))), (n5, .inl (cy 0, 81, .inl (fun _ => 0))), (n6, .inl (cy 0, 81, .inl (fun _ => 0))), (n7, .inr (4, [.ref n8, .ref n9, .ref n10, .ref n11, .int 0, .int 0, .int 0, .ref n0, .int 3])), (n8, .inl (cy 0, 4096, .inl (fun _ => 0))), (n9, .inl (cy 0, 4096, .inl (fun _ => 0))), (n10, .inl (cy 0, 24, .inl (fun _ => 0))), (n11, .inl (cy 0, 24, .inl (fun _ => 0))), (n12, .inl (cy 2, 3, .inr (.inr (.inr (.inr (va_up (va_up (va_up (fun _ => none) (0 : Int32).toNatClampNeg (some n13)) (1 : Int32).toNatClampNeg (some n14)) (2 : Int32).toNatClampNeg (some n15))))))), (n13, .inr (5, [])), (n14, .inr (1, [])), (n15, .inr (0, [])), (n16, .inr (6, [.long 0]))] := hD
  refine va_putF (D := G) (ci := 7) (v := .ref n16) (ty := .object "SlidTokens$Tally") (C := RX8) (T := TX8) (N := 8) hx hb hts iwX8 tyX8 tyX8_ok nmX8 hown hK.1.1 hP hD hS 0 rfl rfl 4 (by decide) fl48 (fun _ h9 => h9) rfl hin rfl (by decide +kernel) rfl rfl (Nat.le_of_ble_eq_true rfl) dX8_init_91 (fun H locs hP hD hS => ?_)
  have hP : va_P G vwCl [(a0, .inr (7, [.ref n0, .ref n2, .ref n7, .ref n12, .ref n16, .int 0, .int 0, .int 0])), (n0, .inr (3, [.ref n1, .int 5])), (n1, .inl (cy 0, 9, .inl (fun _ => 0))), (n2, .inr (2, [.ref n3, .ref n4, .ref n5, .ref n6, .int 0, .int 0, .int 0, .ref n0, .int 0])), (n3, .inl (cy 0, 512, .inl (fun _ => 0))), (n4, .inl (cy 0, 512, .inl (fun _ => 0))), (n5, .inl (cy 0, 81, .inl (fun _ => 0))), (n6, .inl (cy 0, 81, .inl (fun _ => 0))), (n7, .inr (4, [.ref n8, .ref n9, .ref n10, .ref n11, .int 0, .int 0, .int 0, .ref n0, .int 3])), (n8, .inl (cy 0, 4096, .inl (fun _ => 0))), (n9, .inl (cy 0, 4096, .inl (fun _ => 0))), (n10, .inl (cy 0, 24, .inl (fun _ => 0))), (n11, .inl (cy 0, 24, .inl (fun _ => 0))), (n12, .inl (cy 2, 3, .inr (.inr (.inr (.inr (va_up (va_up (va_up (fun _ => none) (0 : Int32).toNatClampNeg (some n13)) (1 : Int32).toNatClampNeg (some n14)) (2 : Int32).toNatClampNeg (some n15))))))), (n13, .inr (5, [])), (n14, .inr (1, [])), (n15, .inr (0, [])), (n16, .inr (6, [.long 0]))] H := hP
  have hD : va_D A [(a0, .inr (7, [.ref n0, .ref n2, .ref n7, .ref n12, .ref n16, .int 0, .int 0, .int 0])), (n0, .inr (3, [.ref n1, .int 5])), (n1, .inl (cy 0, 9, .inl (fun _ => 0))), (n2, .inr (2, [.ref n3, .ref n4, .ref n5, .ref n6, .int 0, .int 0, .int 0, .ref n0, .int 0])), (n3, .inl (cy 0, 512, .inl (fun _ => 0))), (n4, .inl (cy 0, 512, .inl (fun _ => 0))), (n5, .inl (cy 0, 81, .inl (fun _ => 0))), (n6, .inl (cy 0, 81, .inl (fun _ => 0))), (n7, .inr (4, [.ref n8, .ref n9, .ref n10, .ref n11, .int 0, .int 0, .int 0, .ref n0, .int 3])), (n8, .inl (cy 0, 4096, .inl (fun _ => 0))), (n9, .inl (cy 0, 4096, .inl (fun _ => 0))), (n10, .inl (cy 0, 24, .inl (fun _ => 0))), (n11, .inl (cy 0, 24, .inl (fun _ => 0))), (n12, .inl (cy 2, 3, .inr (.inr (.inr (.inr (va_up (va_up (va_up (fun _ => none) (0 : Int32).toNatClampNeg (some n13)) (1 : Int32).toNatClampNeg (some n14)) (2 : Int32).toNatClampNeg (some n15))))))), (n13, .inr (5, [])), (n14, .inr (1, [])), (n15, .inr (0, [])), (n16, .inr (6, [.long 0]))] := hD
  refine lv_aload_n hx hb dX8_init_94 rfl (lv_at hl 0 rfl) ?_
  refine lv_iconst (v := 0) hx hb dX8_init_95 (by decide) ?_
  refine va_put (D := G) (ci := 7) (v := .int 0) (ty := .int) (C := RX8) (T := TX8) (N := 8) hx hb hts iwX8 tyX8 tyX8_ok nmX8 hown hK.1.1 hP hD hS 0 rfl rfl 5 (by decide) fl52 (fun _ h9 => h9) rfl (by decide +kernel) rfl rfl (Nat.le_of_ble_eq_true rfl) dX8_init_96 (fun H locs hP hD hS => ?_)
  have hP : va_P G vwCl [(a0, .inr (7, [.ref n0, .ref n2, .ref n7, .ref n12, .ref n16, .int 0, .int 0, .int 0])), (n0, .inr (3, [.ref n1, .int 5])), (n1, .inl (cy 0, 9, .inl (fun _ => 0))), (n2, .inr (2, [.ref n3, .ref n4, .ref n5, .ref n6, .int 0, .int 0, .int 0, .ref n0, .int 0])), (n3, .inl (cy 0, 512, .inl (fun _ => 0))), (n4, .inl (cy 0, 512, .inl (fun _ => 0))), (n5, .inl (cy 0, 81, .inl (fun _ => 0))), (n6, .inl (cy 0, 81, .inl (fun _ => 0))), (n7, .inr (4, [.ref n8, .ref n9, .ref n10, .ref n11, .int 0, .int 0, .int 0, .ref n0, .int 3])), (n8, .inl (cy 0, 4096, .inl (fun _ => 0))), (n9, .inl (cy 0, 4096, .inl (fun _ => 0))), (n10, .inl (cy 0, 24, .inl (fun _ => 0))), (n11, .inl (cy 0, 24, .inl (fun _ => 0))), (n12, .inl (cy 2, 3, .inr (.inr (.inr (.inr (va_up (va_up (va_up (fun _ => none) (0 : Int32).toNatClampNeg (some n13)) (1 : Int32).toNatClampNeg (some n14)) (2 : Int32).toNatClampNeg (some n15))))))), (n13, .inr (5, [])), (n14, .inr (1, [])), (n15, .inr (0, [])), (n16, .inr (6, [.long 0]))] H := hP
  have hD : va_D A [(a0, .inr (7, [.ref n0, .ref n2, .ref n7, .ref n12, .ref n16, .int 0, .int 0, .int 0])), (n0, .inr (3, [.ref n1, .int 5])), (n1, .inl (cy 0, 9, .inl (fun _ => 0))), (n2, .inr (2, [.ref n3, .ref n4, .ref n5, .ref n6, .int 0, .int 0, .int 0, .ref n0, .int 0])), (n3, .inl (cy 0, 512, .inl (fun _ => 0))), (n4, .inl (cy 0, 512, .inl (fun _ => 0))), (n5, .inl (cy 0, 81, .inl (fun _ => 0))), (n6, .inl (cy 0, 81, .inl (fun _ => 0))), (n7, .inr (4, [.ref n8, .ref n9, .ref n10, .ref n11, .int 0, .int 0, .int 0, .ref n0, .int 3])), (n8, .inl (cy 0, 4096, .inl (fun _ => 0))), (n9, .inl (cy 0, 4096, .inl (fun _ => 0))), (n10, .inl (cy 0, 24, .inl (fun _ => 0))), (n11, .inl (cy 0, 24, .inl (fun _ => 0))), (n12, .inl (cy 2, 3, .inr (.inr (.inr (.inr (va_up (va_up (va_up (fun _ => none) (0 : Int32).toNatClampNeg (some n13)) (1 : Int32).toNatClampNeg (some n14)) (2 : Int32).toNatClampNeg (some n15))))))), (n13, .inr (5, [])), (n14, .inr (1, [])), (n15, .inr (0, [])), (n16, .inr (6, [.long 0]))] := hD
  refine lv_aload_n hx hb dX8_init_99 rfl (lv_at hl 0 rfl) ?_
  refine lv_bipush (v := 9) hx hb dX8_init_100 (by decide) ?_
  refine va_put (D := G) (ci := 7) (v := .int 9) (ty := .int) (C := RX8) (T := TX8) (N := 8) hx hb hts iwX8 tyX8 tyX8_ok nmX8 hown hK.1.1 hP hD hS 0 rfl rfl 6 (by decide) fl56 (fun _ h9 => h9) rfl (by decide +kernel) rfl rfl (Nat.le_of_ble_eq_true rfl) dX8_init_102 (fun H locs hP hD hS => ?_)
  have hP : va_P G vwCl [(a0, .inr (7, [.ref n0, .ref n2, .ref n7, .ref n12, .ref n16, .int 0, .int 9, .int 0])), (n0, .inr (3, [.ref n1, .int 5])), (n1, .inl (cy 0, 9, .inl (fun _ => 0))), (n2, .inr (2, [.ref n3, .ref n4, .ref n5, .ref n6, .int 0, .int 0, .int 0, .ref n0, .int 0])), (n3, .inl (cy 0, 512, .inl (fun _ => 0))), (n4, .inl (cy 0, 512, .inl (fun _ => 0))), (n5, .inl (cy 0, 81, .inl (fun _ => 0))), (n6, .inl (cy 0, 81, .inl (fun _ => 0))), (n7, .inr (4, [.ref n8, .ref n9, .ref n10, .ref n11, .int 0, .int 0, .int 0, .ref n0, .int 3])), (n8, .inl (cy 0, 4096, .inl (fun _ => 0))), (n9, .inl (cy 0, 4096, .inl (fun _ => 0))), (n10, .inl (cy 0, 24, .inl (fun _ => 0))), (n11, .inl (cy 0, 24, .inl (fun _ => 0))), (n12, .inl (cy 2, 3, .inr (.inr (.inr (.inr (va_up (va_up (va_up (fun _ => none) (0 : Int32).toNatClampNeg (some n13)) (1 : Int32).toNatClampNeg (some n14)) (2 : Int32).toNatClampNeg (some n15))))))), (n13, .inr (5, [])), (n14, .inr (1, [])), (n15, .inr (0, [])), (n16, .inr (6, [.long 0]))] H := hP
  have hD : va_D A [(a0, .inr (7, [.ref n0, .ref n2, .ref n7, .ref n12, .ref n16, .int 0, .int 9, .int 0])), (n0, .inr (3, [.ref n1, .int 5])), (n1, .inl (cy 0, 9, .inl (fun _ => 0))), (n2, .inr (2, [.ref n3, .ref n4, .ref n5, .ref n6, .int 0, .int 0, .int 0, .ref n0, .int 0])), (n3, .inl (cy 0, 512, .inl (fun _ => 0))), (n4, .inl (cy 0, 512, .inl (fun _ => 0))), (n5, .inl (cy 0, 81, .inl (fun _ => 0))), (n6, .inl (cy 0, 81, .inl (fun _ => 0))), (n7, .inr (4, [.ref n8, .ref n9, .ref n10, .ref n11, .int 0, .int 0, .int 0, .ref n0, .int 3])), (n8, .inl (cy 0, 4096, .inl (fun _ => 0))), (n9, .inl (cy 0, 4096, .inl (fun _ => 0))), (n10, .inl (cy 0, 24, .inl (fun _ => 0))), (n11, .inl (cy 0, 24, .inl (fun _ => 0))), (n12, .inl (cy 2, 3, .inr (.inr (.inr (.inr (va_up (va_up (va_up (fun _ => none) (0 : Int32).toNatClampNeg (some n13)) (1 : Int32).toNatClampNeg (some n14)) (2 : Int32).toNatClampNeg (some n15))))))), (n13, .inr (5, [])), (n14, .inr (1, [])), (n15, .inr (0, [])), (n16, .inr (6, [.long 0]))] := hD
  refine lv_aload_n hx hb dX8_init_105 rfl (lv_at hl 0 rfl) ?_
  refine lv_iconst (v := 3) hx hb dX8_init_106 (by decide) ?_
  refine va_put (D := G) (ci := 7) (v := .int 3) (ty := .int) (C := RX8) (T := TX8) (N := 8) hx hb hts iwX8 tyX8 tyX8_ok nmX8 hown hK.1.1 hP hD hS 0 rfl rfl 7 (by decide) fl59 (fun _ h9 => h9) rfl (by decide +kernel) rfl rfl (Nat.le_of_ble_eq_true rfl) dX8_init_107 (fun H locs hP hD hS => ?_)
  have hP : va_P G vwCl [(a0, .inr (7, [.ref n0, .ref n2, .ref n7, .ref n12, .ref n16, .int 0, .int 9, .int 3])), (n0, .inr (3, [.ref n1, .int 5])), (n1, .inl (cy 0, 9, .inl (fun _ => 0))), (n2, .inr (2, [.ref n3, .ref n4, .ref n5, .ref n6, .int 0, .int 0, .int 0, .ref n0, .int 0])), (n3, .inl (cy 0, 512, .inl (fun _ => 0))), (n4, .inl (cy 0, 512, .inl (fun _ => 0))), (n5, .inl (cy 0, 81, .inl (fun _ => 0))), (n6, .inl (cy 0, 81, .inl (fun _ => 0))), (n7, .inr (4, [.ref n8, .ref n9, .ref n10, .ref n11, .int 0, .int 0, .int 0, .ref n0, .int 3])), (n8, .inl (cy 0, 4096, .inl (fun _ => 0))), (n9, .inl (cy 0, 4096, .inl (fun _ => 0))), (n10, .inl (cy 0, 24, .inl (fun _ => 0))), (n11, .inl (cy 0, 24, .inl (fun _ => 0))), (n12, .inl (cy 2, 3, .inr (.inr (.inr (.inr (va_up (va_up (va_up (fun _ => none) (0 : Int32).toNatClampNeg (some n13)) (1 : Int32).toNatClampNeg (some n14)) (2 : Int32).toNatClampNeg (some n15))))))), (n13, .inr (5, [])), (n14, .inr (1, [])), (n15, .inr (0, [])), (n16, .inr (6, [.long 0]))] H := hP
  have hD : va_D A [(a0, .inr (7, [.ref n0, .ref n2, .ref n7, .ref n12, .ref n16, .int 0, .int 9, .int 3])), (n0, .inr (3, [.ref n1, .int 5])), (n1, .inl (cy 0, 9, .inl (fun _ => 0))), (n2, .inr (2, [.ref n3, .ref n4, .ref n5, .ref n6, .int 0, .int 0, .int 0, .ref n0, .int 0])), (n3, .inl (cy 0, 512, .inl (fun _ => 0))), (n4, .inl (cy 0, 512, .inl (fun _ => 0))), (n5, .inl (cy 0, 81, .inl (fun _ => 0))), (n6, .inl (cy 0, 81, .inl (fun _ => 0))), (n7, .inr (4, [.ref n8, .ref n9, .ref n10, .ref n11, .int 0, .int 0, .int 0, .ref n0, .int 3])), (n8, .inl (cy 0, 4096, .inl (fun _ => 0))), (n9, .inl (cy 0, 4096, .inl (fun _ => 0))), (n10, .inl (cy 0, 24, .inl (fun _ => 0))), (n11, .inl (cy 0, 24, .inl (fun _ => 0))), (n12, .inl (cy 2, 3, .inr (.inr (.inr (.inr (va_up (va_up (va_up (fun _ => none) (0 : Int32).toNatClampNeg (some n13)) (1 : Int32).toNatClampNeg (some n14)) (2 : Int32).toNatClampNeg (some n15))))))), (n13, .inr (5, [])), (n14, .inr (1, [])), (n15, .inr (0, [])), (n16, .inr (6, [.long 0]))] := hD
  rw [← hQe]
  have hP9 := hP.sub (ws' := [(a0, .inr (7, [.ref n0, .ref n2, .ref n7, .ref n12, .ref n16, .int 0, .int 9, .int 3])), (n0, .inr (3, [.ref n1, .int 5])), (n1, .inl (cy 0, 9, .inl (fun _ => 0))), (n2, .inr (2, [.ref n3, .ref n4, .ref n5, .ref n6, .int 0, .int 0, .int 0, .ref n0, .int 0])), (n3, .inl (cy 0, 512, .inl (fun _ => 0))), (n4, .inl (cy 0, 512, .inl (fun _ => 0))), (n5, .inl (cy 0, 81, .inl (fun _ => 0))), (n6, .inl (cy 0, 81, .inl (fun _ => 0))), (n7, .inr (4, [.ref n8, .ref n9, .ref n10, .ref n11, .int 0, .int 0, .int 0, .ref n0, .int 3])), (n8, .inl (cy 0, 4096, .inl (fun _ => 0))), (n9, .inl (cy 0, 4096, .inl (fun _ => 0))), (n10, .inl (cy 0, 24, .inl (fun _ => 0))), (n11, .inl (cy 0, 24, .inl (fun _ => 0))), (n12, .inl (cy 2, 3, .inr (.inr (.inr (.inr (va_up (va_up (va_up (fun _ => none) (0 : Int32).toNatClampNeg (some n13)) (1 : Int32).toNatClampNeg (some n14)) (2 : Int32).toNatClampNeg (some n15))))))), (n13, .inr (5, [])), (n14, .inr (1, [])), (n15, .inr (0, [])), (n16, .inr (6, [.long 0]))]) [0, 1, 2, 3, 4, 5, 6, 7, 8, 9, 10, 11, 12, 13, 14, 15, 16, 17] rfl
  have hD9 := hD.sub (ws' := [(a0, .inr (7, [.ref n0, .ref n2, .ref n7, .ref n12, .ref n16, .int 0, .int 9, .int 3])), (n0, .inr (3, [.ref n1, .int 5])), (n1, .inl (cy 0, 9, .inl (fun _ => 0))), (n2, .inr (2, [.ref n3, .ref n4, .ref n5, .ref n6, .int 0, .int 0, .int 0, .ref n0, .int 0])), (n3, .inl (cy 0, 512, .inl (fun _ => 0))), (n4, .inl (cy 0, 512, .inl (fun _ => 0))), (n5, .inl (cy 0, 81, .inl (fun _ => 0))), (n6, .inl (cy 0, 81, .inl (fun _ => 0))), (n7, .inr (4, [.ref n8, .ref n9, .ref n10, .ref n11, .int 0, .int 0, .int 0, .ref n0, .int 3])), (n8, .inl (cy 0, 4096, .inl (fun _ => 0))), (n9, .inl (cy 0, 4096, .inl (fun _ => 0))), (n10, .inl (cy 0, 24, .inl (fun _ => 0))), (n11, .inl (cy 0, 24, .inl (fun _ => 0))), (n12, .inl (cy 2, 3, .inr (.inr (.inr (.inr (va_up (va_up (va_up (fun _ => none) (0 : Int32).toNatClampNeg (some n13)) (1 : Int32).toNatClampNeg (some n14)) (2 : Int32).toNatClampNeg (some n15))))))), (n13, .inr (5, [])), (n14, .inr (1, [])), (n15, .inr (0, [])), (n16, .inr (6, [.long 0]))]) [0, 1, 2, 3, 4, 5, 6, 7, 8, 9, 10, 11, 12, 13, 14, 15, 16, 17] (by decide) rfl
  exact W.vret hx hb hr (fun t ht hW => ⟨⟨(n0, n1, n2, n3, n4, n5, n6, n7, n8, n9, n10, n11, n12, n13, n14, n15, n16), rfl, trivial, by (try dsimp only); rw [ht]; exact hP9, hD9⟩, hS.F ht⟩) hS.2.2 dX8_init_110

abbrev rmX9_init : Room := { frames := 1, cells := 5, slots := 9225, locals := 12 }
set_option maxHeartbeats 4000000 in
set_option maxRecDepth 100000 in
theorem ct_X9_init (l : Launch) (G : va_G) (cy : Nat → ClassId) (m0 : Nat) (sz : Nat) : Met l yX9_init wsX9_init rmX9_init (va_Pc [.ref m0] (wX G cy sz [(m0, .inr (8, [.int 0, .null, .int 0, .int 0, .int 0, .long 0, .null, .null, .null, .null]))])) (va_Qv (fun (u : Nat × Nat × Nat × Nat × Nat) => True) (fun (u : Nat × Nat × Nat × Nat × Nat) (t : State) => va_P G vwCl [(m0, .inr (8, [.int 5, .ref u.1, .int 0, .int 9, .int 3, .long 0, .ref u.2.1, .ref u.2.2.1, .ref u.2.2.2.1, .ref u.2.2.2.2])), (u.1, .inl (cy 0, 9, .inl (fun _ => 0))), (u.2.1, .inl (cy 0, 512, .inl (fun _ => 0))), (u.2.2.1, .inl (cy 1, 512, .inl (fun _ => 0))), (u.2.2.2.1, .inl (cy 0, 4096, .inl (fun _ => 0))), (u.2.2.2.2, .inl (cy 0, 4096, .inl (fun _ => 0)))] t.heap ∧ va_D (va_A [(m0, .inr (8, [.int 0, .null, .int 0, .int 0, .int 0, .long 0, .null, .null, .null, .null]))] sz) [(m0, .inr (8, [.int 5, .ref u.1, .int 0, .int 9, .int 3, .long 0, .ref u.2.1, .ref u.2.2.1, .ref u.2.2.2.1, .ref u.2.2.2.2])), (u.1, .inl (cy 0, 9, .inl (fun _ => 0))), (u.2.1, .inl (cy 0, 512, .inl (fun _ => 0))), (u.2.2.1, .inl (cy 1, 512, .inl (fun _ => 0))), (u.2.2.2.1, .inl (cy 0, 4096, .inl (fun _ => 0))), (u.2.2.2.2, .inl (cy 0, 4096, .inl (fun _ => 0)))]) (va_A [(m0, .inr (8, [.int 0, .null, .int 0, .int 0, .int 0, .long 0, .null, .null, .null, .null]))] sz)) 5 9225 (va_A [(m0, .inr (8, [.int 0, .null, .int 0, .int 0, .int 0, .long 0, .null, .null, .null, .null]))] sz) := by
  refine Met.ofW (cc := cX9_init) (maxL := 1) (ret := none) (by decide) rfl ?_
  intro p e s m args below meth c s₁ B hml hv
  obtain ⟨hav, hsz, hP, hK, hD0⟩ := hv
  have hx := B.exec
  have hb := B.bytes
  have hr := B.returns
  have hts := atoms_spec (ws := wsX9_init) B.pre
  have hown : s.vm.findClass RX9 = some m.cls := findClass_of_methodNamed B.named
  have hlocks := B.notSynchronized
  have hin : meth.name = "<init>" := (name_of_methodNamed B.named B.method).1
  subst hsz
  have hD := hD0.self (sz := s.heap.size)
  generalize hAe : va_A [(m0, .inr (8, [.int 0, .null, .int 0, .int 0, .int 0, .long 0, .null, .null, .null, .null]))] s.heap.size = A at hD ⊢
  have hA : ∀ q : Nat, s.heap.size ≤ q → A q := fun q h9 => by rw [← hAe]; exact Or.inr h9
  have hS : va_S A s.heap s.heap [] := va_S.rf
  have hl := lv_entry ([.ref m0]) (n := 1) (Nat.le_of_ble_eq_true rfl)
  rw [show entryFrame m args 1 = entryFrame m ([.ref m0] : List Value).toArray 1 by rw [hav], lg_entry_eq]
  generalize (lg_sl ([.ref m0]) ++ List.replicate (1 - (lg_sl ([.ref m0])).length) Slot.unset).toArray = ls at hl ⊢
  have hl : lv_has ls 1 [(0, .ref m0)] := hl
  generalize hQe : MQ below _ _ _ _ _ _ = QM
  have hP : va_P G vwCl [(m0, .inr (8, [.int 0, .null, .int 0, .int 0, .int 0, .long 0, .null, .null, .null, .null]))] s.heap := hP
  have fl7 := hts (.fieldLink RX9 7 "SlidTokensModel" "n" "I") (by decide +kernel)
  have iwX9 : ∀ w ∈ wsX90, w ∈ wsX9_init := by decide +kernel
  have fl13 := hts (.fieldLink RX9 13 "SlidTokensModel" "joined" "[I") (by decide +kernel)
  have fl17 := hts (.fieldLink RX9 17 "SlidTokensModel" "most" "I") (by decide +kernel)
  have fl20 := hts (.fieldLink RX9 20 "SlidTokensModel" "colours" "I") (by decide +kernel)
  have fl23 := hts (.fieldLink RX9 23 "SlidTokensModel" "far" "[I") (by decide +kernel)
  have fl26 := hts (.fieldLink RX9 26 "SlidTokensModel" "isDone" "[Z") (by decide +kernel)
  have fl30 := hts (.fieldLink RX9 30 "SlidTokensModel" "shade" "[I") (by decide +kernel)
  have fl33 := hts (.fieldLink RX9 33 "SlidTokensModel" "pile" "[I") (by decide +kernel)
  have fl36 := hts (.fieldLink RX9 36 "SlidTokensModel" "fewest" "I") (by decide +kernel)
  suffices K9 : ∀ (H : Heap) (locs : List Loc), va_P G vwCl [(m0, .inr (8, [.int 0, .null, .int 0, .int 0, .int 0, .long 0, .null, .null, .null, .null]))] H → va_D A [(m0, .inr (8, [.int 0, .null, .int 0, .int 0, .int 0, .long 0, .null, .null, .null, .null]))] → va_S A s.heap H locs → W p l e (headSpec wsX9_init rmX9_init).room s m args below meth c H locs 0 0 QM (F0 m 0 ls []) from K9 _ _ hP hD hS
  clear hP hD hS
  intro H locs hP hD hS
  refine lv_aload_n hx hb dX9_init_0 rfl (lv_at hl 0 rfl) ?_
  refine W.objInit hx hb hown (hts (.methodLink RX9 1 objectInit) (by decide +kernel)) (hts (.instanceMethod objectInit) (by decide +kernel)) (hts (.code objectInit ⟨#[0xb1]⟩ 1 none) (by decide +kernel)) rfl (by rw [hml]; exact hl.1) rfl dX9_init_1 (Nat.le_of_ble_eq_true rfl) (Nat.le_of_ble_eq_true rfl) ?_
  refine W.eq (g2 := F0 m 4 ls []) rfl ?_
  refine lv_aload_n hx hb dX9_init_4 rfl (lv_at hl 0 rfl) ?_
  refine lv_iconst (v := 5) hx hb dX9_init_5 (by decide) ?_
  refine va_put (D := G) (ci := 8) (v := .int 5) (ty := .int) (C := RX9) (T := TX9) (N := 10) hx hb hts iwX9 tyX9 tyX9_ok nmX9 hown hK.1.1 hP hD hS 0 rfl rfl 0 (by decide) fl7 (fun _ h9 => h9) rfl (by decide +kernel) rfl rfl (Nat.le_of_ble_eq_true rfl) dX9_init_6 (fun H locs hP hD hS => ?_)
  have hP : va_P G vwCl [(m0, .inr (8, [.int 5, .null, .int 0, .int 0, .int 0, .long 0, .null, .null, .null, .null]))] H := hP
  have hD : va_D A [(m0, .inr (8, [.int 5, .null, .int 0, .int 0, .int 0, .long 0, .null, .null, .null, .null]))] := hD
  refine lv_aload_n hx hb dX9_init_9 rfl (lv_at hl 0 rfl) ?_
  refine lv_bipush (v := 9) hx hb dX9_init_10 (by decide) ?_
  refine va_newa (atype := .int) (ty := .int) (N' := 9) (a0 := (9, .inl (fun _ => 0))) hx hb (hts (.arrayClass .int) (by decide +kernel)) rfl hK.1.1 hP hD hS hA (fun cA => rfl) (by decide) (by decide) (by decide) (Nat.le_of_ble_eq_true rfl) (Nat.le_of_ble_eq_true rfl) dX9_init_12 (fun n0 cA H hKn hP hD hS => ?_)
  obtain rfl : cA = cy 0 := ra_int hKn
  have hP : va_P G vwCl [(m0, .inr (8, [.int 5, .null, .int 0, .int 0, .int 0, .long 0, .null, .null, .null, .null])), (n0, .inl (cy 0, 9, .inl (fun _ => 0)))] H := hP
  have hD : va_D A [(m0, .inr (8, [.int 5, .null, .int 0, .int 0, .int 0, .long 0, .null, .null, .null, .null])), (n0, .inl (cy 0, 9, .inl (fun _ => 0)))] := hD
  refine va_putF (D := G) (ci := 8) (v := .ref n0) (ty := .array .int) (C := RX9) (T := TX9) (N := 10) hx hb hts iwX9 tyX9 tyX9_ok nmX9 hown hK.1.1 hP hD hS 0 rfl rfl 1 (by decide) fl13 (fun _ h9 => h9) rfl hin rfl (by decide +kernel) rfl rfl (Nat.le_of_ble_eq_true rfl) dX9_init_14 (fun H locs hP hD hS => ?_)
  have hP : va_P G vwCl [(m0, .inr (8, [.int 5, .ref n0, .int 0, .int 0, .int 0, .long 0, .null, .null, .null, .null])), (n0, .inl (cy 0, 9, .inl (fun _ => 0)))] H := hP
  have hD : va_D A [(m0, .inr (8, [.int 5, .ref n0, .int 0, .int 0, .int 0, .long 0, .null, .null, .null, .null])), (n0, .inl (cy 0, 9, .inl (fun _ => 0)))] := hD
  refine lv_aload_n hx hb dX9_init_17 rfl (lv_at hl 0 rfl) ?_
  refine lv_bipush (v := 9) hx hb dX9_init_18 (by decide) ?_
  refine va_put (D := G) (ci := 8) (v := .int 9) (ty := .int) (C := RX9) (T := TX9) (N := 10) hx hb hts iwX9 tyX9 tyX9_ok nmX9 hown hK.1.1 hP hD hS 0 rfl rfl 3 (by decide) fl17 (fun _ h9 => h9) rfl (by decide +kernel) rfl rfl (Nat.le_of_ble_eq_true rfl) dX9_init_20 (fun H locs hP hD hS => ?_)
  have hP : va_P G vwCl [(m0, .inr (8, [.int 5, .ref n0, .int 0, .int 9, .int 0, .long 0, .null, .null, .null, .null])), (n0, .inl (cy 0, 9, .inl (fun _ => 0)))] H := hP
  have hD : va_D A [(m0, .inr (8, [.int 5, .ref n0, .int 0, .int 9, .int 0, .long 0, .null, .null, .null, .null])), (n0, .inl (cy 0, 9, .inl (fun _ => 0)))] := hD
  refine lv_aload_n hx hb dX9_init_23 rfl (lv_at hl 0 rfl) ?_
  refine lv_iconst (v := 3) hx hb dX9_init_24 (by decide) ?_
  refine va_put (D := G) (ci := 8) (v := .int 3) (ty := .int) (C := RX9) (T := TX9) (N := 10) hx hb hts iwX9 tyX9 tyX9_ok nmX9 hown hK.1.1 hP hD hS 0 rfl rfl 4 (by decide) fl20 (fun _ h9 => h9) rfl (by decide +kernel) rfl rfl (Nat.le_of_ble_eq_true rfl) dX9_init_25 (fun H locs hP hD hS => ?_)
  have hP : va_P G vwCl [(m0, .inr (8, [.int 5, .ref n0, .int 0, .int 9, .int 3, .long 0, .null, .null, .null, .null])), (n0, .inl (cy 0, 9, .inl (fun _ => 0)))] H := hP
  have hD : va_D A [(m0, .inr (8, [.int 5, .ref n0, .int 0, .int 9, .int 3, .long 0, .null, .null, .null, .null])), (n0, .inl (cy 0, 9, .inl (fun _ => 0)))] := hD
  refine lv_aload_n hx hb dX9_init_28 rfl (lv_at hl 0 rfl) ?_
  refine lv_sipush (v := 512) hx hb dX9_init_29 (by decide) ?_
  refine va_newa (atype := .int) (ty := .int) (N' := 512) (a0 := (512, .inl (fun _ => 0))) hx hb (hts (.arrayClass .int) (by decide +kernel)) rfl hK.1.1 hP hD hS hA (fun cA => rfl) (by decide) (by decide) (by decide) (Nat.le_of_ble_eq_true rfl) (Nat.le_of_ble_eq_true rfl) dX9_init_32 (fun n1 cA H hKn hP hD hS => ?_)
  obtain rfl : cA = cy 0 := ra_int hKn
  have hP : va_P G vwCl [(m0, .inr (8, [.int 5, .ref n0, .int 0, .int 9, .int 3, .long 0, .null, .null, .null, .null])), (n0, .inl (cy 0, 9, .inl (fun _ => 0))), (n1, .inl (cy 0, 512, .inl (fun _ => 0)))] H := hP
  have hD : va_D A [(m0, .inr (8, [.int 5, .ref n0, .int 0, .int 9, .int 3, .long 0, .null, .null, .null, .null])), (n0, .inl (cy 0, 9, .inl (fun _ => 0))), (n1, .inl (cy 0, 512, .inl (fun _ => 0)))] := hD
  refine va_putF (D := G) (ci := 8) (v := .ref n1) (ty := .array .int) (C := RX9) (T := TX9) (N := 10) hx hb hts iwX9 tyX9 tyX9_ok nmX9 hown hK.1.1 hP hD hS 0 rfl rfl 6 (by decide) fl23 (fun _ h9 => h9) rfl hin rfl (by decide +kernel) rfl rfl (Nat.le_of_ble_eq_true rfl) dX9_init_34 (fun H locs hP hD hS => ?_)
  have hP : va_P G vwCl [(m0, .inr (8, [.int 5, .ref n0, .int 0, .int 9, .int 3, .long 0, .ref n1, .null, .null, .null])), (n0, .inl (cy 0, 9, .inl (fun _ => 0))), (n1, .inl (cy 0, 512, .inl (fun _ => 0)))] H := hP
  have hD : va_D A [(m0, .inr (8, [.int 5, .ref n0, .int 0, .int 9, .int 3, .long 0, .ref n1, .null, .null, .null])), (n0, .inl (cy 0, 9, .inl (fun _ => 0))), (n1, .inl (cy 0, 512, .inl (fun _ => 0)))] := hD
  refine lv_aload_n hx hb dX9_init_37 rfl (lv_at hl 0 rfl) ?_
  refine lv_sipush (v := 512) hx hb dX9_init_38 (by decide) ?_
  refine va_newa (atype := .boolean) (ty := .boolean) (N' := 512) (a0 := (512, .inl (fun _ => 0))) hx hb (hts (.arrayClass .boolean) (by decide +kernel)) rfl hK.1.1 hP hD hS hA (fun cA => rfl) (by decide) (by decide) (by decide) (Nat.le_of_ble_eq_true rfl) (Nat.le_of_ble_eq_true rfl) dX9_init_41 (fun n2 cA H hKn hP hD hS => ?_)
  obtain rfl : cA = cy 1 := ra_boolean hKn
  have hP : va_P G vwCl [(m0, .inr (8, [.int 5, .ref n0, .int 0, .int 9, .int 3, .long 0, .ref n1, .null, .null, .null])), (n0, .inl (cy 0, 9, .inl (fun _ => 0))), (n1, .inl (cy 0, 512, .inl (fun _ => 0))), (n2, .inl (cy 1, 512, .inl (fun _ => 0)))] H := hP
  have hD : va_D A [(m0, .inr (8, [.int 5, .ref n0, .int 0, .int 9, .int 3, .long 0, .ref n1, .null, .null, .null])), (n0, .inl (cy 0, 9, .inl (fun _ => 0))), (n1, .inl (cy 0, 512, .inl (fun _ => 0))), (n2, .inl (cy 1, 512, .inl (fun _ => 0)))] := hD
  refine va_putF (D := G) (ci := 8) (v := .ref n2) (ty := .array .boolean) (C := RX9) (T := TX9) (N := 10) hx hb hts iwX9 tyX9 tyX9_ok nmX9 hown hK.1.1 hP hD hS 0 rfl rfl 7 (by decide) fl26 (fun _ h9 => h9) rfl hin rfl (by decide +kernel) rfl rfl (Nat.le_of_ble_eq_true rfl) dX9_init_43 (fun H locs hP hD hS => ?_)
  have hP : va_P G vwCl [(m0, .inr (8, [.int 5, .ref n0, .int 0, .int 9, .int 3, .long 0, .ref n1, .ref n2, .null, .null])), (n0, .inl (cy 0, 9, .inl (fun _ => 0))), (n1, .inl (cy 0, 512, .inl (fun _ => 0))), (n2, .inl (cy 1, 512, .inl (fun _ => 0)))] H := hP
  have hD : va_D A [(m0, .inr (8, [.int 5, .ref n0, .int 0, .int 9, .int 3, .long 0, .ref n1, .ref n2, .null, .null])), (n0, .inl (cy 0, 9, .inl (fun _ => 0))), (n1, .inl (cy 0, 512, .inl (fun _ => 0))), (n2, .inl (cy 1, 512, .inl (fun _ => 0)))] := hD
  refine lv_aload_n hx hb dX9_init_46 rfl (lv_at hl 0 rfl) ?_
  refine lv_sipush (v := 4096) hx hb dX9_init_47 (by decide) ?_
  refine va_newa (atype := .int) (ty := .int) (N' := 4096) (a0 := (4096, .inl (fun _ => 0))) hx hb (hts (.arrayClass .int) (by decide +kernel)) rfl hK.1.1 hP hD hS hA (fun cA => rfl) (by decide) (by decide) (by decide) (Nat.le_of_ble_eq_true rfl) (Nat.le_of_ble_eq_true rfl) dX9_init_50 (fun n3 cA H hKn hP hD hS => ?_)
  obtain rfl : cA = cy 0 := ra_int hKn
  have hP : va_P G vwCl [(m0, .inr (8, [.int 5, .ref n0, .int 0, .int 9, .int 3, .long 0, .ref n1, .ref n2, .null, .null])), (n0, .inl (cy 0, 9, .inl (fun _ => 0))), (n1, .inl (cy 0, 512, .inl (fun _ => 0))), (n2, .inl (cy 1, 512, .inl (fun _ => 0))), (n3, .inl (cy 0, 4096, .inl (fun _ => 0)))] H := hP
  have hD : va_D A [(m0, .inr (8, [.int 5, .ref n0, .int 0, .int 9, .int 3, .long 0, .ref n1, .ref n2, .null, .null])), (n0, .inl (cy 0, 9, .inl (fun _ => 0))), (n1, .inl (cy 0, 512, .inl (fun _ => 0))), (n2, .inl (cy 1, 512, .inl (fun _ => 0))), (n3, .inl (cy 0, 4096, .inl (fun _ => 0)))] := hD
  refine va_putF (D := G) (ci := 8) (v := .ref n3) (ty := .array .int) (C := RX9) (T := TX9) (N := 10) hx hb hts iwX9 tyX9 tyX9_ok nmX9 hown hK.1.1 hP hD hS 0 rfl rfl 8 (by decide) fl30 (fun _ h9 => h9) rfl hin rfl (by decide +kernel) rfl rfl (Nat.le_of_ble_eq_true rfl) dX9_init_52 (fun H locs hP hD hS => ?_)
  have hP : va_P G vwCl [(m0, .inr (8, [.int 5, .ref n0, .int 0, .int 9, .int 3, .long 0, .ref n1, .ref n2, .ref n3, .null])), (n0, .inl (cy 0, 9, .inl (fun _ => 0))), (n1, .inl (cy 0, 512, .inl (fun _ => 0))), (n2, .inl (cy 1, 512, .inl (fun _ => 0))), (n3, .inl (cy 0, 4096, .inl (fun _ => 0)))] H := hP
  have hD : va_D A [(m0, .inr (8, [.int 5, .ref n0, .int 0, .int 9, .int 3, .long 0, .ref n1, .ref n2, .ref n3, .null])), (n0, .inl (cy 0, 9, .inl (fun _ => 0))), (n1, .inl (cy 0, 512, .inl (fun _ => 0))), (n2, .inl (cy 1, 512, .inl (fun _ => 0))), (n3, .inl (cy 0, 4096, .inl (fun _ => 0)))] := hD
  refine lv_aload_n hx hb dX9_init_55 rfl (lv_at hl 0 rfl) ?_
  refine lv_sipush (v := 4096) hx hb dX9_init_56 (by decide) ?_
  refine va_newa (atype := .int) (ty := .int) (N' := 4096) (a0 := (4096, .inl (fun _ => 0))) hx hb (hts (.arrayClass .int) (by decide +kernel)) rfl hK.1.1 hP hD hS hA (fun cA => rfl) (by decide) (by decide) (by decide) (Nat.le_of_ble_eq_true rfl) (Nat.le_of_ble_eq_true rfl) dX9_init_59 (fun n4 cA H hKn hP hD hS => ?_)
  obtain rfl : cA = cy 0 := ra_int hKn
  have hP : va_P G vwCl [(m0, .inr (8, [.int 5, .ref n0, .int 0, .int 9, .int 3, .long 0, .ref n1, .ref n2, .ref n3, .null])), (n0, .inl (cy 0, 9, .inl (fun _ => 0))), (n1, .inl (cy 0, 512, .inl (fun _ => 0))), (n2, .inl (cy 1, 512, .inl (fun _ => 0))), (n3, .inl (cy 0, 4096, .inl (fun _ => 0))), (n4, .inl (cy 0, 4096, .inl (fun _ => 0)))] H := hP
  have hD : va_D A [(m0, .inr (8, [.int 5, .ref n0, .int 0, .int 9, .int 3, .long 0, .ref n1, .ref n2, .ref n3, .null])), (n0, .inl (cy 0, 9, .inl (fun _ => 0))), (n1, .inl (cy 0, 512, .inl (fun _ => 0))), (n2, .inl (cy 1, 512, .inl (fun _ => 0))), (n3, .inl (cy 0, 4096, .inl (fun _ => 0))), (n4, .inl (cy 0, 4096, .inl (fun _ => 0)))] := hD
  refine va_putF (D := G) (ci := 8) (v := .ref n4) (ty := .array .int) (C := RX9) (T := TX9) (N := 10) hx hb hts iwX9 tyX9 tyX9_ok nmX9 hown hK.1.1 hP hD hS 0 rfl rfl 9 (by decide) fl33 (fun _ h9 => h9) rfl hin rfl (by decide +kernel) rfl rfl (Nat.le_of_ble_eq_true rfl) dX9_init_61 (fun H locs hP hD hS => ?_)
  have hP : va_P G vwCl [(m0, .inr (8, [.int 5, .ref n0, .int 0, .int 9, .int 3, .long 0, .ref n1, .ref n2, .ref n3, .ref n4])), (n0, .inl (cy 0, 9, .inl (fun _ => 0))), (n1, .inl (cy 0, 512, .inl (fun _ => 0))), (n2, .inl (cy 1, 512, .inl (fun _ => 0))), (n3, .inl (cy 0, 4096, .inl (fun _ => 0))), (n4, .inl (cy 0, 4096, .inl (fun _ => 0)))] H := hP
  have hD : va_D A [(m0, .inr (8, [.int 5, .ref n0, .int 0, .int 9, .int 3, .long 0, .ref n1, .ref n2, .ref n3, .ref n4])), (n0, .inl (cy 0, 9, .inl (fun _ => 0))), (n1, .inl (cy 0, 512, .inl (fun _ => 0))), (n2, .inl (cy 1, 512, .inl (fun _ => 0))), (n3, .inl (cy 0, 4096, .inl (fun _ => 0))), (n4, .inl (cy 0, 4096, .inl (fun _ => 0)))] := hD
  refine lv_aload_n hx hb dX9_init_64 rfl (lv_at hl 0 rfl) ?_
  refine lv_iconst (v := 0) hx hb dX9_init_65 (by decide) ?_
  refine va_put (D := G) (ci := 8) (v := .int 0) (ty := .int) (C := RX9) (T := TX9) (N := 10) hx hb hts iwX9 tyX9 tyX9_ok nmX9 hown hK.1.1 hP hD hS 0 rfl rfl 2 (by decide) fl36 (fun _ h9 => h9) rfl (by decide +kernel) rfl rfl (Nat.le_of_ble_eq_true rfl) dX9_init_66 (fun H locs hP hD hS => ?_)
  have hP : va_P G vwCl [(m0, .inr (8, [.int 5, .ref n0, .int 0, .int 9, .int 3, .long 0, .ref n1, .ref n2, .ref n3, .ref n4])), (n0, .inl (cy 0, 9, .inl (fun _ => 0))), (n1, .inl (cy 0, 512, .inl (fun _ => 0))), (n2, .inl (cy 1, 512, .inl (fun _ => 0))), (n3, .inl (cy 0, 4096, .inl (fun _ => 0))), (n4, .inl (cy 0, 4096, .inl (fun _ => 0)))] H := hP
  have hD : va_D A [(m0, .inr (8, [.int 5, .ref n0, .int 0, .int 9, .int 3, .long 0, .ref n1, .ref n2, .ref n3, .ref n4])), (n0, .inl (cy 0, 9, .inl (fun _ => 0))), (n1, .inl (cy 0, 512, .inl (fun _ => 0))), (n2, .inl (cy 1, 512, .inl (fun _ => 0))), (n3, .inl (cy 0, 4096, .inl (fun _ => 0))), (n4, .inl (cy 0, 4096, .inl (fun _ => 0)))] := hD
  rw [← hQe]
  have hP9 := hP.sub (ws' := [(m0, .inr (8, [.int 5, .ref n0, .int 0, .int 9, .int 3, .long 0, .ref n1, .ref n2, .ref n3, .ref n4])), (n0, .inl (cy 0, 9, .inl (fun _ => 0))), (n1, .inl (cy 0, 512, .inl (fun _ => 0))), (n2, .inl (cy 1, 512, .inl (fun _ => 0))), (n3, .inl (cy 0, 4096, .inl (fun _ => 0))), (n4, .inl (cy 0, 4096, .inl (fun _ => 0)))]) [0, 1, 2, 3, 4, 5] rfl
  have hD9 := hD.sub (ws' := [(m0, .inr (8, [.int 5, .ref n0, .int 0, .int 9, .int 3, .long 0, .ref n1, .ref n2, .ref n3, .ref n4])), (n0, .inl (cy 0, 9, .inl (fun _ => 0))), (n1, .inl (cy 0, 512, .inl (fun _ => 0))), (n2, .inl (cy 1, 512, .inl (fun _ => 0))), (n3, .inl (cy 0, 4096, .inl (fun _ => 0))), (n4, .inl (cy 0, 4096, .inl (fun _ => 0)))]) [0, 1, 2, 3, 4, 5] (by decide) rfl
  exact W.vret hx hb hr (fun t ht hW => ⟨⟨(n0, n1, n2, n3, n4), rfl, trivial, by (try dsimp only); rw [ht]; exact hP9, hD9⟩, hS.F ht⟩) hS.2.2 dX9_init_69
