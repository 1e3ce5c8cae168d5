set_option maxHeartbeats 4000000 in
set_option maxRecDepth 100000 in
theorem ct_X6_weigh (l : Launch) (G : va_G) (cy : Nat → ClassId) (aQ aN aR aT : Nat) (sz : Nat) (vn : Int32) (fN : Nat → Int32) (vT : Int64) (p2 : Int32) (p3 : Int32) (Q : Int32 → Int64 → Prop) (h : wp_X6_weigh vn fN vT p2 p3 Q) : Met l yX6_weigh wsX6_weigh rmX6_weigh (va_Pc [.ref aQ, .ref aN, .int p2, .int p3, .ref aT] (wP G cy sz [(aN, .inr (3, [.ref aR, .int vn])), (aR, .inl (cy 0, 9, .inl fN)), (aT, .inr (6, [.long vT]))])) (va_Qi (fun (r : Int32) (u : Int64) => Q r u) (fun (u : Int64) (t : State) => va_P G vwCl [(aN, .inr (3, [.ref aR, .int vn])), (aR, .inl (cy 0, 9, .inl fN)), (aT, .inr (6, [.long u]))] t.heap) (va_A [(aN, .inr (3, [.ref aR, .int vn])), (aR, .inl (cy 0, 9, .inl fN)), (aT, .inr (6, [.long vT]))] sz)) 0 0 (va_A [(aN, .inr (3, [.ref aR, .int vn])), (aR, .inl (cy 0, 9, .inl fN)), (aT, .inr (6, [.long vT]))] sz) := by
  unfold wp_X6_weigh at h
  refine Met.ofW (cc := cX6_weigh) (maxL := 7) (ret := (some .int)) (by decide) rfl ?_
  intro p e s m args below meth c s₁ B hml hv
  obtain ⟨hav, hsz, hP, hK, hD0⟩ := hv
  have hx := B.exec
  have hb := B.bytes
  have hr := B.returns
  have hts := atoms_spec (ws := wsX6_weigh) B.pre
  have hown : s.vm.findClass RX6 = some m.cls := findClass_of_methodNamed B.named
  have hlocks := B.notSynchronized
  subst hsz
  have hD := hD0.self (sz := s.heap.size)
  generalize hAe : va_A [(aN, .inr (3, [.ref aR, .int vn])), (aR, .inl (cy 0, 9, .inl fN)), (aT, .inr (6, [.long vT]))] s.heap.size = A at hD ⊢
  have hA : ∀ q : Nat, s.heap.size ≤ q → A q := fun q h9 => by rw [← hAe]; exact Or.inr h9
  have hS : va_S A s.heap s.heap [] := va_S.rf
  have hl := lv_entry ([.ref aQ, .ref aN, .int p2, .int p3, .ref aT]) (n := 7) (Nat.le_of_ble_eq_true rfl)
  rw [show entryFrame m args 7 = entryFrame m ([.ref aQ, .ref aN, .int p2, .int p3, .ref aT] : List Value).toArray 7 by rw [hav], lg_entry_eq]
  generalize (lg_sl ([.ref aQ, .ref aN, .int p2, .int p3, .ref aT]) ++ List.replicate (7 - (lg_sl ([.ref aQ, .ref aN, .int p2, .int p3, .ref aT])).length) Slot.unset).toArray = ls at hl ⊢
  have hl : lv_has ls 7 [(0, .ref aQ), (1, .ref aN), (2, .int p2), (3, .int p3), (4, .ref aT)] := hl
  generalize hQe : MQ below _ _ _ _ _ _ = QM
  have hP : va_P G vwCl [(aN, .inr (3, [.ref aR, .int vn])), (aR, .inl (cy 0, 9, .inl fN)), (aT, .inr (6, [.long vT]))] s.heap := hP
  have iwX7 : ∀ w ∈ wsX70, w ∈ wsX6_weigh := by decide +kernel
  have fl9 := hts (.fieldLink RX6 9 "SlidTokens$Tally" "sum" "J") (by decide +kernel)
  suffices K9 : ∀ (H : Heap) (locs : List Loc), va_P G vwCl [(aN, .inr (3, [.ref aR, .int vn])), (aR, .inl (cy 0, 9, .inl fN)), (aT, .inr (6, [.long vT]))] H → va_D A [(aN, .inr (3, [.ref aR, .int vn])), (aR, .inl (cy 0, 9, .inl fN)), (aT, .inr (6, [.long vT]))] → va_S A s.heap H locs → W p l e (headSpec wsX6_weigh rmX6_weigh).room s m args below meth c H locs 0 0 QM (F0 m 0 ls []) from K9 _ _ hP hD hS
  clear hP hD hS
  intro H locs hP hD hS
  refine lv_aload hx hb dX6_weigh_0 (lv_at hl 4 rfl) ?_
  refine lv_dup hx hb dX6_weigh_2 rfl ?_
  refine va_get (D := G) (ci := 6) (v := .long vT) (C := RX7) (T := TX7) (N := 1) hx hb hts iwX7 hown hK.1 hP 2 rfl rfl 0 (by decide) fl9 (fun _ h9 => h9) rfl dX6_weigh_3 ?_
  refine lv_lconst (v := 1) hx hb dX6_weigh_6 (by decide) ?_
  refine lv_ladd hx hb dX6_weigh_7 ?_
  refine lv_topl (fun x1 ex1 => ?_)
  specialize h x1 ex1
  refine va_put (D := G) (ci := 6) (v := .long x1) (ty := .long) (C := RX7) (T := TX7) (N := 1) hx hb hts iwX7 tyX7 tyX7_ok nmX7 hown hK.1 hP hD hS 2 rfl rfl 0 (by decide) fl9 (fun _ h9 => h9) rfl (by decide +kernel) rfl rfl (Nat.le_of_ble_eq_true rfl) dX6_weigh_8 (fun H locs hP hD hS => ?_)
  have hP : va_P G vwCl [(aN, .inr (3, [.ref aR, .int vn])), (aR, .inl (cy 0, 9, .inl fN)), (aT, .inr (6, [.long x1]))] H := hP
  have hD : va_D A [(aN, .inr (3, [.ref aR, .int vn])), (aR, .inl (cy 0, 9, .inl fN)), (aT, .inr (6, [.long x1]))] := hD
  refine lv_iload_n hx hb dX6_weigh_11 rfl (lv_at hl 2 rfl) ?_
  refine lv_iload_n hx hb dX6_weigh_12 rfl (lv_at hl 3 rfl) ?_
  obtain ⟨Q2, hw9, h⟩ := h
  have hPc : va_P G vwCl [] H := P_nil
  refine vp_callSi (va_Run.run (va_runS (As := [.int p2, .int p3]) (rest := []) ⟨hx, hb, hml, hown, hts⟩ (ct_X6_isSwap l G cy p2 p3 Q2 hw9) (va_cwS 2 hts gX6_weigh_X6_isSwap rfl rfl rfl (by decide +kernel) ⟨Nat.le_of_ble_eq_true rfl, Nat.le_of_ble_eq_true rfl⟩) (rP_S hK hPc) rfl rfl hl.1 rfl (lv_room (Nat.le_of_ble_eq_true rfl)) dX6_weigh_13 ⟨Nat.le_of_ble_eq_true rfl, Nat.le_of_ble_eq_true rfl⟩)) (fun r3 er3 => ?_)
  specialize h r3 er3
  refine lv_if_ne (tgt := 21) hx hb dX6_weigh_16 (by decide) (fun c4 => ?_) (fun c4 => ?_)
  · obtain ⟨-, h⟩ := h
    specialize h c4
    refine lv_iload_n hx hb dX6_weigh_21 rfl (lv_at hl 2 rfl) ?_
    obtain ⟨Q5, hw9, h⟩ := h
    have hPc : va_P G vwCl [] H := P_nil
    refine vp_callSi (va_Run.run (va_runS (As := [.int p2]) (rest := []) ⟨hx, hb, hml, hown, hts⟩ (ct_J6_numberOfTrailingZeros_0f7a4 l G cy p2 Q5 hw9) (va_cwS 1 hts gX6_weigh_J6_numberOfTrailingZeros_0f7a4 rfl rfl rfl (by decide +kernel) ⟨Nat.le_of_ble_eq_true rfl, Nat.le_of_ble_eq_true rfl⟩) (rP_S hK hPc) rfl rfl hl.1 rfl (lv_room (Nat.le_of_ble_eq_true rfl)) dX6_weigh_22 ⟨Nat.le_of_ble_eq_true rfl, Nat.le_of_ble_eq_true rfl⟩)) (fun r6 er6 => ?_)
    specialize h r6 er6
    refine lv_istore (lv' := [(5, .int r6), (0, .ref aQ), (1, .ref aN), (2, .int p2), (3, .int p3), (4, .ref aT)]) hx hb dX6_weigh_25 hl (by decide) rfl (fun ls hl => ?_)
    refine lv_iload_n hx hb dX6_weigh_27 rfl (lv_at hl 4 rfl) ?_
    obtain ⟨Q7, hw9, h⟩ := h
    have hPc : va_P G vwCl [] H := P_nil
    refine vp_callSi (va_Run.run (va_runS (As := [.int p3]) (rest := []) ⟨hx, hb, hml, hown, hts⟩ (ct_J6_numberOfTrailingZeros_0f7a4 l G cy p3 Q7 hw9) (va_cwS 1 hts gX6_weigh_J6_numberOfTrailingZeros_0f7a4 rfl rfl rfl (by decide +kernel) ⟨Nat.le_of_ble_eq_true rfl, Nat.le_of_ble_eq_true rfl⟩) (rP_S hK hPc) rfl rfl hl.1 rfl (lv_room (Nat.le_of_ble_eq_true rfl)) dX6_weigh_28 ⟨Nat.le_of_ble_eq_true rfl, Nat.le_of_ble_eq_true rfl⟩)) (fun r8 er8 => ?_)
    specialize h r8 er8
    refine lv_istore (lv' := [(6, .int r8), (5, .int r6), (0, .ref aQ), (1, .ref aN), (2, .int p2), (3, .int p3), (4, .ref aT)]) hx hb dX6_weigh_31 hl (by decide) rfl (fun ls hl => ?_)
    refine lv_aload_n hx hb dX6_weigh_33 rfl (lv_at hl 3 rfl) ?_
    refine lv_iload hx hb dX6_weigh_34 (lv_at hl 1 rfl) ?_
    refine lv_iload hx hb dX6_weigh_36 (lv_at hl 0 rfl) ?_
    obtain ⟨Q9, hw9, h⟩ := h
    have hPc : va_P G vwCl [(aN, .inr (3, [.ref aR, .int vn])), (aR, .inl (cy 0, 9, .inl fN))] H := hP.sub [0, 1] rfl
    refine vp_callSi (va_Run.run (va_runV (As := [.int r6, .int r8]) (rest := []) ⟨hx, hb, hml, hown, hts⟩ (ct_X3_areJoined l G cy aN aR vn fN r6 r8 Q9 hw9) (cwV 2 hts gX6_weigh_X3_areJoined rfl rfl rfl (by decide +kernel) ⟨Nat.le_of_ble_eq_true rfl, Nat.le_of_ble_eq_true rfl⟩) (rP_V hK hP (ci := 3) (q0 := 0) rfl rfl hPc) rfl rfl hl.1 rfl (lv_room (Nat.le_of_ble_eq_true rfl)) dX6_weigh_38 ⟨Nat.le_of_ble_eq_true rfl, Nat.le_of_ble_eq_true rfl⟩)) (fun r10 er10 => ?_)
    specialize h r10 er10
    refine lv_if_eq (tgt := 48) hx hb dX6_weigh_41 (by decide) (fun c11 => ?_) (fun c11 => ?_)
    · obtain ⟨h, -⟩ := h
      specialize h c11
      refine lv_iconst (v := 0) hx hb dX6_weigh_48 (by decide) ?_
      rw [← hQe]
      exact W.iret (v := 0) hx hb hr (fun t ht hW => ⟨⟨0, x1, rfl, h, by dsimp only; rw [ht]; exact hP⟩, hS.F ht⟩) hS.2.2 dX6_weigh_49
    · obtain ⟨-, h⟩ := h
      specialize h c11
      refine lv_iconst (v := 1) hx hb dX6_weigh_44 (by decide) ?_
      refine lv_goto (tgt := 49) hx hb dX6_weigh_45 (by decide) ?_
      rw [← hQe]
      exact W.iret (v := 1) hx hb hr (fun t ht hW => ⟨⟨1, x1, rfl, h, by dsimp only; rw [ht]; exact hP⟩, hS.F ht⟩) hS.2.2 dX6_weigh_49
  · obtain ⟨h, -⟩ := h
    specialize h c4
    refine lv_iconst (v := 0) hx hb dX6_weigh_19 (by decide) ?_
    rw [← hQe]
    exact W.iret (v := 0) hx hb hr (fun t ht hW => ⟨⟨0, x1, rfl, h, by dsimp only; rw [ht]; exact hP⟩, hS.F ht⟩) hS.2.2 dX6_weigh_20

set_option maxHeartbeats 4000000 in
set_option maxRecDepth 100000 in
theorem ct_X1_weigh_J (l : Launch) (G : va_G) (cy : Nat → ClassId) (aJ aN aR aT : Nat) (sz : Nat) (vn : Int32) (fN : Nat → Int32) (vT : Int64) (p2 : Int32) (p3 : Int32) (Q : Int32 → Int64 → Prop) (h : wp_X1_weigh_J vn fN vT p2 p3 Q) : Met l yX1_weigh wsX1_weighE rmX1_weigh_J (va_Pc [.ref aJ, .ref aN, .int p2, .int p3, .ref aT] (wP G cy sz [(aJ, .inr (1, [])), (aN, .inr (3, [.ref aR, .int vn])), (aR, .inl (cy 0, 9, .inl fN)), (aT, .inr (6, [.long vT]))])) (va_Qi (fun (r : Int32) (u : Int64) => Q r u) (fun (u : Int64) (t : State) => va_P G vwCl [(aJ, .inr (1, [])), (aN, .inr (3, [.ref aR, .int vn])), (aR, .inl (cy 0, 9, .inl fN)), (aT, .inr (6, [.long u]))] t.heap) (va_A [(aJ, .inr (1, [])), (aN, .inr (3, [.ref aR, .int vn])), (aR, .inl (cy 0, 9, .inl fN)), (aT, .inr (6, [.long vT]))] sz)) 0 0 (va_A [(aJ, .inr (1, [])), (aN, .inr (3, [.ref aR, .int vn])), (aR, .inl (cy 0, 9, .inl fN)), (aT, .inr (6, [.long vT]))] sz) := by
  unfold wp_X1_weigh_J at h
  refine Met.ofW (cc := cX1_weigh) (maxL := 6) (ret := (some .int)) (by decide) rfl ?_
  intro p e s m args below meth c s₁ B hml hv
  obtain ⟨hav, hsz, hP, hK, hD0⟩ := hv
  have hx := B.exec
  have hb := B.bytes
  have hr := B.returns
  have hts := atoms_spec (ws := wsX1_weighE) B.pre
  have hown : s.vm.findClass RX1 = some m.cls := findClass_of_methodNamed B.named
  have hlocks := B.notSynchronized
  subst hsz
  have hD := hD0.self (sz := s.heap.size)
  generalize hAe : va_A [(aJ, .inr (1, [])), (aN, .inr (3, [.ref aR, .int vn])), (aR, .inl (cy 0, 9, .inl fN)), (aT, .inr (6, [.long vT]))] s.heap.size = A at hD ⊢
  have hA : ∀ q : Nat, s.heap.size ≤ q → A q := fun q h9 => by rw [← hAe]; exact Or.inr h9
  have hS : va_S A s.heap s.heap [] := va_S.rf
  have hl := lv_entry ([.ref aJ, .ref aN, .int p2, .int p3, .ref aT]) (n := 6) (Nat.le_of_ble_eq_true rfl)
  rw [show entryFrame m args 6 = entryFrame m ([.ref aJ, .ref aN, .int p2, .int p3, .ref aT] : List Value).toArray 6 by rw [hav], lg_entry_eq]
  generalize (lg_sl ([.ref aJ, .ref aN, .int p2, .int p3, .ref aT]) ++ List.replicate (6 - (lg_sl ([.ref aJ, .ref aN, .int p2, .int p3, .ref aT])).length) Slot.unset).toArray = ls at hl ⊢
  have hl : lv_has ls 6 [(0, .ref aJ), (1, .ref aN), (2, .int p2), (3, .int p3), (4, .ref aT)] := hl
  generalize hQe : MQ below _ _ _ _ _ _ = QM
  have hP : va_P G vwCl [(aJ, .inr (1, [])), (aN, .inr (3, [.ref aR, .int vn])), (aR, .inl (cy 0, 9, .inl fN)), (aT, .inr (6, [.long vT]))] s.heap := hP
  have iwX7 : ∀ w ∈ wsX70, w ∈ wsX1_weighE := by decide +kernel
  have fl9 := hts (.fieldLink RX1 9 "SlidTokens$Tally" "sum" "J") (by decide +kernel)
  have kn15 := hts (.constantLong RX1 15 (10)) (by decide +kernel)
  suffices K9 : ∀ (H : Heap) (locs : List Loc), va_P G vwCl [(aJ, .inr (1, [])), (aN, .inr (3, [.ref aR, .int vn])), (aR, .inl (cy 0, 9, .inl fN)), (aT, .inr (6, [.long vT]))] H → va_D A [(aJ, .inr (1, [])), (aN, .inr (3, [.ref aR, .int vn])), (aR, .inl (cy 0, 9, .inl fN)), (aT, .inr (6, [.long vT]))] → va_S A s.heap H locs → W p l e (headSpec wsX1_weighE rmX1_weigh_J).room s m args below meth c H locs 0 0 QM (F0 m 0 ls []) from K9 _ _ hP hD hS
  clear hP hD hS
  intro H locs hP hD hS
  refine lv_aload hx hb dX1_weigh_0 (lv_at hl 4 rfl) ?_
  refine lv_dup hx hb dX1_weigh_2 rfl ?_
  refine va_get (D := G) (ci := 6) (v := .long vT) (C := RX7) (T := TX7) (N := 1) hx hb hts iwX7 hown hK.1 hP 3 rfl rfl 0 (by decide) fl9 (fun _ h9 => h9) rfl dX1_weigh_3 ?_
  refine lv_ldc2 hx hb hown kn15 dX1_weigh_6 ?_
  refine lv_ladd hx hb dX1_weigh_9 ?_
  refine lv_topl (fun x1 ex1 => ?_)
  specialize h x1 ex1
  refine va_put (D := G) (ci := 6) (v := .long x1) (ty := .long) (C := RX7) (T := TX7) (N := 1) hx hb hts iwX7 tyX7 tyX7_ok nmX7 hown hK.1 hP hD hS 3 rfl rfl 0 (by decide) fl9 (fun _ h9 => h9) rfl (by decide +kernel) rfl rfl (Nat.le_of_ble_eq_true rfl) dX1_weigh_10 (fun H locs hP hD hS => ?_)
  have hP : va_P G vwCl [(aJ, .inr (1, [])), (aN, .inr (3, [.ref aR, .int vn])), (aR, .inl (cy 0, 9, .inl fN)), (aT, .inr (6, [.long x1]))] H := hP
  have hD : va_D A [(aJ, .inr (1, [])), (aN, .inr (3, [.ref aR, .int vn])), (aR, .inl (cy 0, 9, .inl fN)), (aT, .inr (6, [.long x1]))] := hD
  refine lv_aload_n hx hb dX1_weigh_13 rfl (lv_at hl 0 rfl) ?_
  refine lv_aload_n hx hb dX1_weigh_14 rfl (lv_at hl 1 rfl) ?_
  refine lv_iload_n hx hb dX1_weigh_15 rfl (lv_at hl 2 rfl) ?_
  refine lv_iload_n hx hb dX1_weigh_16 rfl (lv_at hl 3 rfl) ?_
  refine lv_aload hx hb dX1_weigh_17 (lv_at hl 4 rfl) ?_
  obtain ⟨Q2, hw9, h⟩ := h
  have hPc : va_P G vwCl [(aN, .inr (3, [.ref aR, .int vn])), (aR, .inl (cy 0, 9, .inl fN)), (aT, .inr (6, [.long x1]))] H := hP.sub [1, 2, 3] rfl
  have hDc : va_D A [(aN, .inr (3, [.ref aR, .int vn])), (aR, .inl (cy 0, 9, .inl fN)), (aT, .inr (6, [.long x1]))] := hD.sub [1, 2, 3] (by decide) rfl
  have hFc := va_free (wc := [(aN, .inr (3, [.ref aR, .int vn])), (aR, .inl (cy 0, 9, .inl fN)), (aT, .inr (6, [.long x1]))]) hD hS hA [1, 2, 3] rfl
  refine va_calli (va_runSU (As := [.ref aN, .int p2, .int p3, .ref aT]) (rest := []) (hK.1.1 1 _ rfl).2 ⟨hx, hb, hml, hown, hts⟩ (ct_X6_weigh l G cy aJ aN aR aT H.size vn fN x1 p2 p3 Q2 hw9) (va_cwSU 4 hts gX1_weigh_X6_weigh_s17E rfl rfl rfl (by decide +kernel) ⟨Nat.le_of_ble_eq_true rfl, Nat.le_of_ble_eq_true rfl⟩) (wP_V hK hP (ci := 1) (q0 := 0) rfl rfl hPc hDc) rfl rfl hl.1 rfl (lv_room (Nat.le_of_ble_eq_true rfl)) dX1_weigh_19 ⟨Nat.le_of_ble_eq_true rfl, Nat.le_of_ble_eq_true rfl⟩) hS (fun q9 _ h9 => hFc q9 h9) hFc (fun r3 u9 t9 H locs ht9 hvm9 hw9 hB9 hz9 hk9 hS => ?_)
  obtain ⟨z4, rfl⟩ : ∃ z9, z9 = u9 := ⟨_, rfl⟩
  have hP : va_P G vwCl [(aJ, .inr (1, [])), (aN, .inr (3, [.ref aR, .int vn])), (aR, .inl (cy 0, 9, .inl fN)), (aT, .inr (6, [.long z4]))] H := P_back [1, 2, 3] [0] 4 hP hD rfl rfl rfl rfl (by decide) (by decide) hk9 (by rw [← ht9]; exact hB9)
  have hD : va_D A [(aJ, .inr (1, [])), (aN, .inr (3, [.ref aR, .int vn])), (aR, .inl (cy 0, 9, .inl fN)), (aT, .inr (6, [.long z4]))] := D_same hD rfl
  specialize h r3 z4 hw9
  refine lv_istore (lv' := [(5, .int r3), (0, .ref aJ), (1, .ref aN), (2, .int p2), (3, .int p3), (4, .ref aT)]) hx hb dX1_weigh_22 hl (by decide) rfl (fun ls hl => ?_)
  refine lv_iload hx hb dX1_weigh_24 (lv_at hl 0 rfl) ?_
  refine lv_if_eq (tgt := 32) hx hb dX1_weigh_26 (by decide) (fun c5 => ?_) (fun c5 => ?_)
  · obtain ⟨h, -⟩ := h
    specialize h c5
    refine lv_iload_n hx hb dX1_weigh_32 rfl (lv_at hl 3 rfl) ?_
    refine lv_iload_n hx hb dX1_weigh_33 rfl (lv_at hl 4 rfl) ?_
    obtain ⟨Q6, hw9, h⟩ := h
    have hPc : va_P G vwCl [] H := P_nil
    refine vp_callSi (va_Run.run (st_run (n := 2) (x := x_isSwap) (As := [.int p2, .int p3]) (rest := []) ⟨hx, hb, hml, hown, hts⟩ (ct_X6_isSwap l G cy p2 p3 Q6 hw9) gX1_weigh_X6_isSwapE rfl rfl rfl (hts (.methodLink RX1 21 x_isSwap) (by decide +kernel)) (hts (.sameMethod "SlidTokens$Jump" "SlidTokens$Slide" "isSwap" "(II)Z") (by decide +kernel)) rfl (hts (.static yX6_isSwap) (by decide +kernel)) (hts (.initialized RX6) (by decide +kernel)) (by decide +kernel) ⟨Nat.le_of_ble_eq_true rfl, Nat.le_of_ble_eq_true rfl⟩ (rP_S hK hPc) rfl rfl hl.1 rfl (lv_room (Nat.le_of_ble_eq_true rfl)) dX1_weigh_34 ⟨Nat.le_of_ble_eq_true rfl, Nat.le_of_ble_eq_true rfl⟩)) (fun r7 er7 => ?_)
    specialize h r7 er7
    refine lv_if_eq (tgt := 44) hx hb dX1_weigh_37 (by decide) (fun c8 => ?_) (fun c8 => ?_)
    · obtain ⟨h, -⟩ := h
      specialize h c8
      refine lv_iconst (v := 0) hx hb dX1_weigh_44 (by decide) ?_
      rw [← hQe]
      exact W.iret (v := 0) hx hb hr (fun t ht hW => ⟨⟨0, z4, rfl, h, by dsimp only; rw [ht]; exact hP⟩, hS.F ht⟩) hS.2.2 dX1_weigh_45
    · obtain ⟨-, h⟩ := h
      specialize h c8
      refine lv_iconst (v := 2) hx hb dX1_weigh_40 (by decide) ?_
      refine lv_goto (tgt := 45) hx hb dX1_weigh_41 (by decide) ?_
      rw [← hQe]
      exact W.iret (v := 2) hx hb hr (fun t ht hW => ⟨⟨2, z4, rfl, h, by dsimp only; rw [ht]; exact hP⟩, hS.F ht⟩) hS.2.2 dX1_weigh_45
  · obtain ⟨-, h⟩ := h
    specialize h c5
    refine lv_iload hx hb dX1_weigh_29 (lv_at hl 0 rfl) ?_
    rw [← hQe]
    exact W.iret (v := r3) hx hb hr (fun t ht hW => ⟨⟨r3, z4, rfl, h, by dsimp only; rw [ht]; exact hP⟩, hS.F ht⟩) hS.2.2 dX1_weigh_31

set_option maxHeartbeats 4000000 in
set_option maxRecDepth 100000 in
theorem ct_X1_weigh_B (l : Launch) (G : va_G) (cy : Nat → ClassId) (aB aN aR aT : Nat) (sz : Nat) (vn : Int32) (fN : Nat → Int32) (vT : Int64) (p2 : Int32) (p3 : Int32) (Q : Int32 → Int64 → Prop) (h : wp_X1_weigh_B vn fN vT p2 p3 Q) : Met l yX1_weigh wsX1_weighE rmX1_weigh_B (va_Pc [.ref aB, .ref aN, .int p2, .int p3, .ref aT] (wP G cy sz [(aB, .inr (0, [])), (aN, .inr (3, [.ref aR, .int vn])), (aR, .inl (cy 0, 9, .inl fN)), (aT, .inr (6, [.long vT]))])) (va_Qi (fun (r : Int32) (u : Int64) => Q r u) (fun (u : Int64) (t : State) => va_P G vwCl [(aB, .inr (0, [])), (aN, .inr (3, [.ref aR, .int vn])), (aR, .inl (cy 0, 9, .inl fN)), (aT, .inr (6, [.long u]))] t.heap) (va_A [(aB, .inr (0, [])), (aN, .inr (3, [.ref aR, .int vn])), (aR, .inl (cy 0, 9, .inl fN)), (aT, .inr (6, [.long vT]))] sz)) 0 0 (va_A [(aB, .inr (0, [])), (aN, .inr (3, [.ref aR, .int vn])), (aR, .inl (cy 0, 9, .inl fN)), (aT, .inr (6, [.long vT]))] sz) := by
  unfold wp_X1_weigh_B at h
  refine Met.ofW (cc := cX1_weigh) (maxL := 6) (ret := (some .int)) (by decide) rfl ?_
  intro p e s m args below meth c s₁ B hml hv
  obtain ⟨hav, hsz, hP, hK, hD0⟩ := hv
  have hx := B.exec
  have hb := B.bytes
  have hr := B.returns
  have hts := atoms_spec (ws := wsX1_weighE) B.pre
  have hown : s.vm.findClass RX1 = some m.cls := findClass_of_methodNamed B.named
  have hlocks := B.notSynchronized
  subst hsz
  have hD := hD0.self (sz := s.heap.size)
  generalize hAe : va_A [(aB, .inr (0, [])), (aN, .inr (3, [.ref aR, .int vn])), (aR, .inl (cy 0, 9, .inl fN)), (aT, .inr (6, [.long vT]))] s.heap.size = A at hD ⊢
  have hA : ∀ q : Nat, s.heap.size ≤ q → A q := fun q h9 => by rw [← hAe]; exact Or.inr h9
  have hS : va_S A s.heap s.heap [] := va_S.rf
  have hl := lv_entry ([.ref aB, .ref aN, .int p2, .int p3, .ref aT]) (n := 6) (Nat.le_of_ble_eq_true rfl)
  rw [show entryFrame m args 6 = entryFrame m ([.ref aB, .ref aN, .int p2, .int p3, .ref aT] : List Value).toArray 6 by rw [hav], lg_entry_eq]
  generalize (lg_sl ([.ref aB, .ref aN, .int p2, .int p3, .ref aT]) ++ List.replicate (6 - (lg_sl ([.ref aB, .ref aN, .int p2, .int p3, .ref aT])).length) Slot.unset).toArray = ls at hl ⊢
  have hl : lv_has ls 6 [(0, .ref aB), (1, .ref aN), (2, .int p2), (3, .int p3), (4, .ref aT)] := hl
  generalize hQe : MQ below _ _ _ _ _ _ = QM
  have hP : va_P G vwCl [(aB, .inr (0, [])), (aN, .inr (3, [.ref aR, .int vn])), (aR, .inl (cy 0, 9, .inl fN)), (aT, .inr (6, [.long vT]))] s.heap := hP
  have iwX7 : ∀ w ∈ wsX70, w ∈ wsX1_weighE := by decide +kernel
  have fl9 := hts (.fieldLink RX1 9 "SlidTokens$Tally" "sum" "J") (by decide +kernel)
  have kn15 := hts (.constantLong RX1 15 (10)) (by decide +kernel)
  suffices K9 : ∀ (H : Heap) (locs : List Loc), va_P G vwCl [(aB, .inr (0, [])), (aN, .inr (3, [.ref aR, .int vn])), (aR, .inl (cy 0, 9, .inl fN)), (aT, .inr (6, [.long vT]))] H → va_D A [(aB, .inr (0, [])), (aN, .inr (3, [.ref aR, .int vn])), (aR, .inl (cy 0, 9, .inl fN)), (aT, .inr (6, [.long vT]))] → va_S A s.heap H locs → W p l e (headSpec wsX1_weighE rmX1_weigh_B).room s m args below meth c H locs 0 0 QM (F0 m 0 ls []) from K9 _ _ hP hD hS
  clear hP hD hS
  intro H locs hP hD hS
  refine lv_aload hx hb dX1_weigh_0 (lv_at hl 4 rfl) ?_
  refine lv_dup hx hb dX1_weigh_2 rfl ?_
  refine va_get (D := G) (ci := 6) (v := .long vT) (C := RX7) (T := TX7) (N := 1) hx hb hts iwX7 hown hK.1 hP 3 rfl rfl 0 (by decide) fl9 (fun _ h9 => h9) rfl dX1_weigh_3 ?_
  refine lv_ldc2 hx hb hown kn15 dX1_weigh_6 ?_
  refine lv_ladd hx hb dX1_weigh_9 ?_
  refine lv_topl (fun x1 ex1 => ?_)
  specialize h x1 ex1
  refine va_put (D := G) (ci := 6) (v := .long x1) (ty := .long) (C := RX7) (T := TX7) (N := 1) hx hb hts iwX7 tyX7 tyX7_ok nmX7 hown hK.1 hP hD hS 3 rfl rfl 0 (by decide) fl9 (fun _ h9 => h9) rfl (by decide +kernel) rfl rfl (Nat.le_of_ble_eq_true rfl) dX1_weigh_10 (fun H locs hP hD hS => ?_)
  have hP : va_P G vwCl [(aB, .inr (0, [])), (aN, .inr (3, [.ref aR, .int vn])), (aR, .inl (cy 0, 9, .inl fN)), (aT, .inr (6, [.long x1]))] H := hP
  have hD : va_D A [(aB, .inr (0, [])), (aN, .inr (3, [.ref aR, .int vn])), (aR, .inl (cy 0, 9, .inl fN)), (aT, .inr (6, [.long x1]))] := hD
  refine lv_aload_n hx hb dX1_weigh_13 rfl (lv_at hl 0 rfl) ?_
  refine lv_aload_n hx hb dX1_weigh_14 rfl (lv_at hl 1 rfl) ?_
  refine lv_iload_n hx hb dX1_weigh_15 rfl (lv_at hl 2 rfl) ?_
  refine lv_iload_n hx hb dX1_weigh_16 rfl (lv_at hl 3 rfl) ?_
  refine lv_aload hx hb dX1_weigh_17 (lv_at hl 4 rfl) ?_
  obtain ⟨Q2, hw9, h⟩ := h
  have hPc : va_P G vwCl [(aN, .inr (3, [.ref aR, .int vn])), (aR, .inl (cy 0, 9, .inl fN)), (aT, .inr (6, [.long x1]))] H := hP.sub [1, 2, 3] rfl
  have hDc : va_D A [(aN, .inr (3, [.ref aR, .int vn])), (aR, .inl (cy 0, 9, .inl fN)), (aT, .inr (6, [.long x1]))] := hD.sub [1, 2, 3] (by decide) rfl
  have hFc := va_free (wc := [(aN, .inr (3, [.ref aR, .int vn])), (aR, .inl (cy 0, 9, .inl fN)), (aT, .inr (6, [.long x1]))]) hD hS hA [1, 2, 3] rfl
  refine va_calli (va_runSU (As := [.ref aN, .int p2, .int p3, .ref aT]) (rest := []) (hK.1.1 0 _ rfl).2 ⟨hx, hb, hml, hown, hts⟩ (ct_X6_weigh l G cy aB aN aR aT H.size vn fN x1 p2 p3 Q2 hw9) (va_cwSU 4 hts gX1_weigh_X6_weigh_s17E rfl rfl rfl (by decide +kernel) ⟨Nat.le_of_ble_eq_true rfl, Nat.le_of_ble_eq_true rfl⟩) (wP_V hK hP (ci := 0) (q0 := 0) rfl rfl hPc hDc) rfl rfl hl.1 rfl (lv_room (Nat.le_of_ble_eq_true rfl)) dX1_weigh_19 ⟨Nat.le_of_ble_eq_true rfl, Nat.le_of_ble_eq_true rfl⟩) hS (fun q9 _ h9 => hFc q9 h9) hFc (fun r3 u9 t9 H locs ht9 hvm9 hw9 hB9 hz9 hk9 hS => ?_)
  obtain ⟨z4, rfl⟩ : ∃ z9, z9 = u9 := ⟨_, rfl⟩
  have hP : va_P G vwCl [(aB, .inr (0, [])), (aN, .inr (3, [.ref aR, .int vn])), (aR, .inl (cy 0, 9, .inl fN)), (aT, .inr (6, [.long z4]))] H := P_back [1, 2, 3] [0] 4 hP hD rfl rfl rfl rfl (by decide) (by decide) hk9 (by rw [← ht9]; exact hB9)
  have hD : va_D A [(aB, .inr (0, [])), (aN, .inr (3, [.ref aR, .int vn])), (aR, .inl (cy 0, 9, .inl fN)), (aT, .inr (6, [.long z4]))] := D_same hD rfl
  specialize h r3 z4 hw9
  refine lv_istore (lv' := [(5, .int r3), (0, .ref aB), (1, .ref aN), (2, .int p2), (3, .int p3), (4, .ref aT)]) hx hb dX1_weigh_22 hl (by decide) rfl (fun ls hl => ?_)
  refine lv_iload hx hb dX1_weigh_24 (lv_at hl 0 rfl) ?_
  refine lv_if_eq (tgt := 32) hx hb dX1_weigh_26 (by decide) (fun c5 => ?_) (fun c5 => ?_)
  · obtain ⟨h, -⟩ := h
    specialize h c5
    refine lv_iload_n hx hb dX1_weigh_32 rfl (lv_at hl 3 rfl) ?_
    refine lv_iload_n hx hb dX1_weigh_33 rfl (lv_at hl 4 rfl) ?_
    obtain ⟨Q6, hw9, h⟩ := h
    have hPc : va_P G vwCl [] H := P_nil
    refine vp_callSi (va_Run.run (st_run (n := 2) (x := x_isSwap) (As := [.int p2, .int p3]) (rest := []) ⟨hx, hb, hml, hown, hts⟩ (ct_X6_isSwap l G cy p2 p3 Q6 hw9) gX1_weigh_X6_isSwapE rfl rfl rfl (hts (.methodLink RX1 21 x_isSwap) (by decide +kernel)) (hts (.sameMethod "SlidTokens$Jump" "SlidTokens$Slide" "isSwap" "(II)Z") (by decide +kernel)) rfl (hts (.static yX6_isSwap) (by decide +kernel)) (hts (.initialized RX6) (by decide +kernel)) (by decide +kernel) ⟨Nat.le_of_ble_eq_true rfl, Nat.le_of_ble_eq_true rfl⟩ (rP_S hK hPc) rfl rfl hl.1 rfl (lv_room (Nat.le_of_ble_eq_true rfl)) dX1_weigh_34 ⟨Nat.le_of_ble_eq_true rfl, Nat.le_of_ble_eq_true rfl⟩)) (fun r7 er7 => ?_)
    specialize h r7 er7
    refine lv_if_eq (tgt := 44) hx hb dX1_weigh_37 (by decide) (fun c8 => ?_) (fun c8 => ?_)
    · obtain ⟨h, -⟩ := h
      specialize h c8
      refine lv_iconst (v := 0) hx hb dX1_weigh_44 (by decide) ?_
      rw [← hQe]
      exact W.iret (v := 0) hx hb hr (fun t ht hW => ⟨⟨0, z4, rfl, h, by dsimp only; rw [ht]; exact hP⟩, hS.F ht⟩) hS.2.2 dX1_weigh_45
    · obtain ⟨-, h⟩ := h
      specialize h c8
      refine lv_iconst (v := 2) hx hb dX1_weigh_40 (by decide) ?_
      refine lv_goto (tgt := 45) hx hb dX1_weigh_41 (by decide) ?_
      rw [← hQe]
      exact W.iret (v := 2) hx hb hr (fun t ht hW => ⟨⟨2, z4, rfl, h, by dsimp only; rw [ht]; exact hP⟩, hS.F ht⟩) hS.2.2 dX1_weigh_45
  · obtain ⟨-, h⟩ := h
    specialize h c5
    refine lv_iload hx hb dX1_weigh_29 (lv_at hl 0 rfl) ?_
    rw [← hQe]
    exact W.iret (v := r3) hx hb hr (fun t ht hW => ⟨⟨r3, z4, rfl, h, by dsimp only; rw [ht]; exact hP⟩, hS.F ht⟩) hS.2.2 dX1_weigh_31

set_option maxHeartbeats 4000000 in
set_option maxRecDepth 100000 in
theorem ct_X0_weigh (l : Launch) (G : va_G) (cy : Nat → ClassId) (aB aN aR aT : Nat) (sz : Nat) (vn : Int32) (fN : Nat → Int32) (vT : Int64) (p2 : Int32) (p3 : Int32) (Q : Int32 → Int64 → Prop) (h : wp_X0_weigh vn fN vT p2 p3 Q) : Met l yX0_weigh wsX0_weighE rmX0_weigh (va_Pc [.ref aB, .ref aN, .int p2, .int p3, .ref aT] (wP G cy sz [(aB, .inr (0, [])), (aN, .inr (3, [.ref aR, .int vn])), (aR, .inl (cy 0, 9, .inl fN)), (aT, .inr (6, [.long vT]))])) (va_Qi (fun (r : Int32) (u : Int64) => Q r u) (fun (u : Int64) (t : State) => va_P G vwCl [(aB, .inr (0, [])), (aN, .inr (3, [.ref aR, .int vn])), (aR, .inl (cy 0, 9, .inl fN)), (aT, .inr (6, [.long u]))] t.heap) (va_A [(aB, .inr (0, [])), (aN, .inr (3, [.ref aR, .int vn])), (aR, .inl (cy 0, 9, .inl fN)), (aT, .inr (6, [.long vT]))] sz)) 0 0 (va_A [(aB, .inr (0, [])), (aN, .inr (3, [.ref aR, .int vn])), (aR, .inl (cy 0, 9, .inl fN)), (aT, .inr (6, [.long vT]))] sz) := by
  unfold wp_X0_weigh at h
  refine Met.ofW (cc := cX0_weigh) (maxL := 6) (ret := (some .int)) (by decide) rfl ?_
  intro p e s m args below meth c s₁ B hml hv
  obtain ⟨hav, hsz, hP, hK, hD0⟩ := hv
  have hx := B.exec
  have hb := B.bytes
  have hr := B.returns
  have hts := atoms_spec (ws := wsX0_weighE) B.pre
  have hown : s.vm.findClass RX0 = some m.cls := findClass_of_methodNamed B.named
  have hlocks := B.notSynchronized
  subst hsz
  have hD := hD0.self (sz := s.heap.size)
  generalize hAe : va_A [(aB, .inr (0, [])), (aN, .inr (3, [.ref aR, .int vn])), (aR, .inl (cy 0, 9, .inl fN)), (aT, .inr (6, [.long vT]))] s.heap.size = A at hD ⊢
  have hA : ∀ q : Nat, s.heap.size ≤ q → A q := fun q h9 => by rw [← hAe]; exact Or.inr h9
  have hS : va_S A s.heap s.heap [] := va_S.rf
  have hl := lv_entry ([.ref aB, .ref aN, .int p2, .int p3, .ref aT]) (n := 6) (Nat.le_of_ble_eq_true rfl)
  rw [show entryFrame m args 6 = entryFrame m ([.ref aB, .ref aN, .int p2, .int p3, .ref aT] : List Value).toArray 6 by rw [hav], lg_entry_eq]
  generalize (lg_sl ([.ref aB, .ref aN, .int p2, .int p3, .ref aT]) ++ List.replicate (6 - (lg_sl ([.ref aB, .ref aN, .int p2, .int p3, .ref aT])).length) Slot.unset).toArray = ls at hl ⊢
  have hl : lv_has ls 6 [(0, .ref aB), (1, .ref aN), (2, .int p2), (3, .int p3), (4, .ref aT)] := hl
  generalize hQe : MQ below _ _ _ _ _ _ = QM
  have hP : va_P G vwCl [(aB, .inr (0, [])), (aN, .inr (3, [.ref aR, .int vn])), (aR, .inl (cy 0, 9, .inl fN)), (aT, .inr (6, [.long vT]))] s.heap := hP
  have iwX7 : ∀ w ∈ wsX70, w ∈ wsX0_weighE := by decide +kernel
  have fl9 := hts (.fieldLink RX0 9 "SlidTokens$Tally" "sum" "J") (by decide +kernel)
  have kn15 := hts (.constantLong RX0 15 (100)) (by decide +kernel)
  suffices K9 : ∀ (H : Heap) (locs : List Loc), va_P G vwCl [(aB, .inr (0, [])), (aN, .inr (3, [.ref aR, .int vn])), (aR, .inl (cy 0, 9, .inl fN)), (aT, .inr (6, [.long vT]))] H → va_D A [(aB, .inr (0, [])), (aN, .inr (3, [.ref aR, .int vn])), (aR, .inl (cy 0, 9, .inl fN)), (aT, .inr (6, [.long vT]))] → va_S A s.heap H locs → W p l e (headSpec wsX0_weighE rmX0_weigh).room s m args below meth c H locs 0 0 QM (F0 m 0 ls []) from K9 _ _ hP hD hS
  clear hP hD hS
  intro H locs hP hD hS
  refine lv_aload hx hb dX0_weigh_0 (lv_at hl 4 rfl) ?_
  refine lv_dup hx hb dX0_weigh_2 rfl ?_
  refine va_get (D := G) (ci := 6) (v := .long vT) (C := RX7) (T := TX7) (N := 1) hx hb hts iwX7 hown hK.1 hP 3 rfl rfl 0 (by decide) fl9 (fun _ h9 => h9) rfl dX0_weigh_3 ?_
  refine lv_ldc2 hx hb hown kn15 dX0_weigh_6 ?_
  refine lv_ladd hx hb dX0_weigh_9 ?_
  refine lv_topl (fun x1 ex1 => ?_)
  specialize h x1 ex1
  refine va_put (D := G) (ci := 6) (v := .long x1) (ty := .long) (C := RX7) (T := TX7) (N := 1) hx hb hts iwX7 tyX7 tyX7_ok nmX7 hown hK.1 hP hD hS 3 rfl rfl 0 (by decide) fl9 (fun _ h9 => h9) rfl (by decide +kernel) rfl rfl (Nat.le_of_ble_eq_true rfl) dX0_weigh_10 (fun H locs hP hD hS => ?_)
  have hP : va_P G vwCl [(aB, .inr (0, [])), (aN, .inr (3, [.ref aR, .int vn])), (aR, .inl (cy 0, 9, .inl fN)), (aT, .inr (6, [.long x1]))] H := hP
  have hD : va_D A [(aB, .inr (0, [])), (aN, .inr (3, [.ref aR, .int vn])), (aR, .inl (cy 0, 9, .inl fN)), (aT, .inr (6, [.long x1]))] := hD
  refine lv_aload_n hx hb dX0_weigh_13 rfl (lv_at hl 0 rfl) ?_
  refine lv_aload_n hx hb dX0_weigh_14 rfl (lv_at hl 1 rfl) ?_
  refine lv_iload_n hx hb dX0_weigh_15 rfl (lv_at hl 2 rfl) ?_
  refine lv_iload_n hx hb dX0_weigh_16 rfl (lv_at hl 3 rfl) ?_
  refine lv_aload hx hb dX0_weigh_17 (lv_at hl 4 rfl) ?_
  obtain ⟨Q2, hw9, h⟩ := h
  have hPc : va_P G vwCl [(aB, .inr (0, [])), (aN, .inr (3, [.ref aR, .int vn])), (aR, .inl (cy 0, 9, .inl fN)), (aT, .inr (6, [.long x1]))] H := hP.sub [0, 1, 2, 3] rfl
  have hDc : va_D A [(aB, .inr (0, [])), (aN, .inr (3, [.ref aR, .int vn])), (aR, .inl (cy 0, 9, .inl fN)), (aT, .inr (6, [.long x1]))] := hD.sub [0, 1, 2, 3] (by decide) rfl
  have hFc := va_free (wc := [(aB, .inr (0, [])), (aN, .inr (3, [.ref aR, .int vn])), (aR, .inl (cy 0, 9, .inl fN)), (aT, .inr (6, [.long x1]))]) hD hS hA [0, 1, 2, 3] rfl
  refine va_calli (va_runSU (As := [.ref aN, .int p2, .int p3, .ref aT]) (rest := []) (hK.1.1 0 _ rfl).2 ⟨hx, hb, hml, hown, hts⟩ (ct_X1_weigh_B l G cy aB aN aR aT H.size vn fN x1 p2 p3 Q2 hw9) (va_cwSU 4 hts gX0_weigh_X1_weigh_s17E rfl rfl rfl (by decide +kernel) ⟨Nat.le_of_ble_eq_true rfl, Nat.le_of_ble_eq_true rfl⟩) (wP_V hK hP (ci := 0) (q0 := 0) rfl rfl hPc hDc) rfl rfl hl.1 rfl (lv_room (Nat.le_of_ble_eq_true rfl)) dX0_weigh_19 ⟨Nat.le_of_ble_eq_true rfl, Nat.le_of_ble_eq_true rfl⟩) hS (fun q9 _ h9 => hFc q9 h9) hFc (fun r3 u9 t9 H locs ht9 hvm9 hw9 hB9 hz9 hk9 hS => ?_)
  obtain ⟨z4, rfl⟩ : ∃ z9, z9 = u9 := ⟨_, rfl⟩
  have hP : va_P G vwCl [(aB, .inr (0, [])), (aN, .inr (3, [.ref aR, .int vn])), (aR, .inl (cy 0, 9, .inl fN)), (aT, .inr (6, [.long z4]))] H := P_back [0, 1, 2, 3] [] 4 hP hD rfl rfl rfl rfl (by decide) (by decide) hk9 (by rw [← ht9]; exact hB9)
  have hD : va_D A [(aB, .inr (0, [])), (aN, .inr (3, [.ref aR, .int vn])), (aR, .inl (cy 0, 9, .inl fN)), (aT, .inr (6, [.long z4]))] := D_same hD rfl
  specialize h r3 z4 hw9
  refine lv_istore (lv' := [(5, .int r3), (0, .ref aB), (1, .ref aN), (2, .int p2), (3, .int p3), (4, .ref aT)]) hx hb dX0_weigh_22 hl (by decide) rfl (fun ls hl => ?_)
  refine lv_iload hx hb dX0_weigh_24 (lv_at hl 0 rfl) ?_
  refine lv_if_eq (tgt := 32) hx hb dX0_weigh_26 (by decide) (fun c5 => ?_) (fun c5 => ?_)
  · obtain ⟨h, -⟩ := h
    specialize h c5
    refine lv_iload_n hx hb dX0_weigh_32 rfl (lv_at hl 3 rfl) ?_
    obtain ⟨Q6, hw9, h⟩ := h
    have hPc : va_P G vwCl [] H := P_nil
    refine vp_callSi (va_Run.run (va_runS (As := [.int p2]) (rest := []) ⟨hx, hb, hml, hown, hts⟩ (ct_J6_bitCount_0f7a4 l G cy p2 Q6 hw9) (va_cwS 1 hts gX0_weigh_J6_bitCount_0f7a4E rfl rfl rfl (by decide +kernel) ⟨Nat.le_of_ble_eq_true rfl, Nat.le_of_ble_eq_true rfl⟩) (rP_S hK hPc) rfl rfl hl.1 rfl (lv_room (Nat.le_of_ble_eq_true rfl)) dX0_weigh_33 ⟨Nat.le_of_ble_eq_true rfl, Nat.le_of_ble_eq_true rfl⟩)) (fun r7 er7 => ?_)
    specialize h r7 er7
    refine lv_iload_n hx hb dX0_weigh_36 rfl (lv_at hl 4 rfl) ?_
    obtain ⟨Q8, hw9, h⟩ := h
    have hPc : va_P G vwCl [] H := P_nil
    refine vp_callSi (va_Run.run (va_runS (As := [.int p3]) (rest := [.int r7]) ⟨hx, hb, hml, hown, hts⟩ (ct_J6_bitCount_0f7a4 l G cy p3 Q8 hw9) (va_cwS 1 hts gX0_weigh_J6_bitCount_0f7a4E rfl rfl rfl (by decide +kernel) ⟨Nat.le_of_ble_eq_true rfl, Nat.le_of_ble_eq_true rfl⟩) (rP_S hK hPc) rfl rfl hl.1 rfl (lv_room (Nat.le_of_ble_eq_true rfl)) dX0_weigh_37 ⟨Nat.le_of_ble_eq_true rfl, Nat.le_of_ble_eq_true rfl⟩)) (fun r9 er9 => ?_)
    specialize h r9 er9
    refine lv_iadd hx hb dX0_weigh_40 ?_
    refine lv_iconst (v := 1) hx hb dX0_weigh_41 (by decide) ?_
    refine lv_icmp_ne (tgt := 49) hx hb dX0_weigh_42 (by decide) (fun c10 => ?_) (fun c10 => ?_)
    · obtain ⟨-, h⟩ := h
      specialize h c10
      refine lv_iconst (v := 0) hx hb dX0_weigh_49 (by decide) ?_
      rw [← hQe]
      exact W.iret (v := 0) hx hb hr (fun t ht hW => ⟨⟨0, z4, rfl, h, by dsimp only; rw [ht]; exact hP⟩, hS.F ht⟩) hS.2.2 dX0_weigh_50
    · obtain ⟨h, -⟩ := h
      specialize h c10
      refine lv_iconst (v := 3) hx hb dX0_weigh_45 (by decide) ?_
      refine lv_goto (tgt := 50) hx hb dX0_weigh_46 (by decide) ?_
      rw [← hQe]
      exact W.iret (v := 3) hx hb hr (fun t ht hW => ⟨⟨3, z4, rfl, h, by dsimp only; rw [ht]; exact hP⟩, hS.F ht⟩) hS.2.2 dX0_weigh_50
  · obtain ⟨-, h⟩ := h
    specialize h c5
    refine lv_iload hx hb dX0_weigh_29 (lv_at hl 0 rfl) ?_
    rw [← hQe]
    exact W.iret (v := r3) hx hb hr (fun t ht hW => ⟨⟨r3, z4, rfl, h, by dsimp only; rw [ht]; exact hP⟩, hS.F ht⟩) hS.2.2 dX0_weigh_31

set_option maxHeartbeats 4000000 in
set_option maxRecDepth 100000 in
theorem ct_X8_weight (l : Launch) (G : va_G) (cy : Nat → ClassId) (a0 aN aR aW aS aJ aB aT aM aP : Nat) (sz : Nat) (vLe : Int32) (vMo : Int32) (vCo : Int32) (vn : Int32) (fN : Nat → Int32) (vT : Int64) (p1 : Int32) (p2 : Int32) (p3 : Int32) (Q : Int32 → Int64 → Prop) (h : wp_X8_weight vn fN vT p1 p2 p3 Q) : Met l yX8_weight wsX8_weightE rmX8_weight (va_Pc [.ref a0, .int p1, .int p2, .int p3] (wP G cy sz [(a0, .inr (7, [.ref aN, .ref aM, .ref aP, .ref aW, .ref aT, .int vLe, .int vMo, .int vCo])), (aN, .inr (3, [.ref aR, .int vn])), (aR, .inl (cy 0, 9, .inl fN)), (aW, .inl (cy 2, 3, .inr (.inr (.inr (.inr (wgh aS aJ aB)))))), (aS, .inr (5, [])), (aJ, .inr (1, [])), (aB, .inr (0, [])), (aT, .inr (6, [.long vT]))])) (va_Qi (fun (r : Int32) (u : Int64) => Q r u) (fun (u : Int64) (t : State) => va_P G vwCl [(a0, .inr (7, [.ref aN, .ref aM, .ref aP, .ref aW, .ref aT, .int vLe, .int vMo, .int vCo])), (aN, .inr (3, [.ref aR, .int vn])), (aR, .inl (cy 0, 9, .inl fN)), (aW, .inl (cy 2, 3, .inr (.inr (.inr (.inr (wgh aS aJ aB)))))), (aS, .inr (5, [])), (aJ, .inr (1, [])), (aB, .inr (0, [])), (aT, .inr (6, [.long u]))] t.heap) (va_A [(a0, .inr (7, [.ref aN, .ref aM, .ref aP, .ref aW, .ref aT, .int vLe, .int vMo, .int vCo])), (aN, .inr (3, [.ref aR, .int vn])), (aR, .inl (cy 0, 9, .inl fN)), (aW, .inl (cy 2, 3, .inr (.inr (.inr (.inr (wgh aS aJ aB)))))), (aS, .inr (5, [])), (aJ, .inr (1, [])), (aB, .inr (0, [])), (aT, .inr (6, [.long vT]))] sz)) 0 0 (va_A [(a0, .inr (7, [.ref aN, .ref aM, .ref aP, .ref aW, .ref aT, .int vLe, .int vMo, .int vCo])), (aN, .inr (3, [.ref aR, .int vn])), (aR, .inl (cy 0, 9, .inl fN)), (aW, .inl (cy 2, 3, .inr (.inr (.inr (.inr (wgh aS aJ aB)))))), (aS, .inr (5, [])), (aJ, .inr (1, [])), (aB, .inr (0, [])), (aT, .inr (6, [.long vT]))] sz) := by
  unfold wp_X8_weight at h
  refine Met.ofW (cc := cX8_weight) (maxL := 4) (ret := (some .int)) (by decide) rfl ?_
  intro p e s m args below meth c s₁ B hml hv
  obtain ⟨hav, hsz, hP, hK, hD0⟩ := hv
  have hx := B.exec
  have hb := B.bytes
  have hr := B.returns
  have hts := atoms_spec (ws := wsX8_weightE) B.pre
  have hown : s.vm.findClass RX8 = some m.cls := findClass_of_methodNamed B.named
  have hlocks := B.notSynchronized
  subst hsz
  have hD := hD0.self (sz := s.heap.size)
  generalize hAe : va_A [(a0, .inr (7, [.ref aN, .ref aM, .ref aP, .ref aW, .ref aT, .int vLe, .int vMo, .int vCo])), (aN, .inr (3, [.ref aR, .int vn])), (aR, .inl (cy 0, 9, .inl fN)), (aW, .inl (cy 2, 3, .inr (.inr (.inr (.inr (wgh aS aJ aB)))))), (aS, .inr (5, [])), (aJ, .inr (1, [])), (aB, .inr (0, [])), (aT, .inr (6, [.long vT]))] s.heap.size = A at hD ⊢
  have hA : ∀ q : Nat, s.heap.size ≤ q → A q := fun q h9 => by rw [← hAe]; exact Or.inr h9
  have hS : va_S A s.heap s.heap [] := va_S.rf
  have hl := lv_entry ([.ref a0, .int p1, .int p2, .int p3]) (n := 4) (Nat.le_of_ble_eq_true rfl)
  rw [show entryFrame m args 4 = entryFrame m ([.ref a0, .int p1, .int p2, .int p3] : List Value).toArray 4 by rw [hav], lg_entry_eq]
  generalize (lg_sl ([.ref a0, .int p1, .int p2, .int p3]) ++ List.replicate (4 - (lg_sl ([.ref a0, .int p1, .int p2, .int p3])).length) Slot.unset).toArray = ls at hl ⊢
  have hl : lv_has ls 4 [(0, .ref a0), (1, .int p1), (2, .int p2), (3, .int p3)] := hl
  generalize hQe : MQ below _ _ _ _ _ _ = QM
  have hP : va_P G vwCl [(a0, .inr (7, [.ref aN, .ref aM, .ref aP, .ref aW, .ref aT, .int vLe, .int vMo, .int vCo])), (aN, .inr (3, [.ref aR, .int vn])), (aR, .inl (cy 0, 9, .inl fN)), (aW, .inl (cy 2, 3, .inr (.inr (.inr (.inr (wgh aS aJ aB)))))), (aS, .inr (5, [])), (aJ, .inr (1, [])), (aB, .inr (0, [])), (aT, .inr (6, [.long vT]))] s.heap := hP
  have iwX8 : ∀ w ∈ wsX80, w ∈ wsX8_weightE := by decide +kernel
  have fl10 := hts (.fieldLink RX8 10 "SlidTokens" "graph" "LSlidTokens$Net;") (by decide +kernel)
  have fl41 := hts (.fieldLink RX8 41 "SlidTokens" "weighers" "[LSlidTokens$Slide;") (by decide +kernel)
  have fl48 := hts (.fieldLink RX8 48 "SlidTokens" "tally" "LSlidTokens$Tally;") (by decide +kernel)
  suffices K9 : ∀ (H : Heap) (locs : List Loc), va_P G vwCl [(a0, .inr (7, [.ref aN, .ref aM, .ref aP, .ref aW, .ref aT, .int vLe, .int vMo, .int vCo])), (aN, .inr (3, [.ref aR, .int vn])), (aR, .inl (cy 0, 9, .inl fN)), (aW, .inl (cy 2, 3, .inr (.inr (.inr (.inr (wgh aS aJ aB)))))), (aS, .inr (5, [])), (aJ, .inr (1, [])), (aB, .inr (0, [])), (aT, .inr (6, [.long vT]))] H → va_D A [(a0, .inr (7, [.ref aN, .ref aM, .ref aP, .ref aW, .ref aT, .int vLe, .int vMo, .int vCo])), (aN, .inr (3, [.ref aR, .int vn])), (aR, .inl (cy 0, 9, .inl fN)), (aW, .inl (cy 2, 3, .inr (.inr (.inr (.inr (wgh aS aJ aB)))))), (aS, .inr (5, [])), (aJ, .inr (1, [])), (aB, .inr (0, [])), (aT, .inr (6, [.long vT]))] → va_S A s.heap H locs → W p l e (headSpec wsX8_weightE rmX8_weight).room s m args below meth c H locs 0 0 QM (F0 m 0 ls []) from K9 _ _ hP hD hS
  clear hP hD hS
  intro H locs hP hD hS
  refine lv_iload_n hx hb dX8_weight_0 rfl (lv_at hl 1 rfl) ?_
  obtain ⟨Q1, hw9, h⟩ := h
  have hPc : va_P G vwCl [] H := P_nil
  refine vp_callSi (va_Run.run (va_runS (As := [.int p1]) (rest := []) ⟨hx, hb, hml, hown, hts⟩ (ct_X8_areMoves l G cy p1 Q1 hw9) (va_cwS 1 hts gX8_weight_X8_areMovesE rfl rfl rfl (by decide +kernel) ⟨Nat.le_of_ble_eq_true rfl, Nat.le_of_ble_eq_true rfl⟩) (rP_S hK hPc) rfl rfl hl.1 rfl (lv_room (Nat.le_of_ble_eq_true rfl)) dX8_weight_1 ⟨Nat.le_of_ble_eq_true rfl, Nat.le_of_ble_eq_true rfl⟩)) (fun r2 er2 => ?_)
  specialize h r2 er2
  refine lv_if_eq (tgt := 29) hx hb dX8_weight_4 (by decide) (fun c3 => ?_) (fun c3 => ?_)
  · obtain ⟨h, -⟩ := h
    specialize h c3
    refine lv_iconst (v := (-1)) hx hb dX8_weight_29 (by decide) ?_
    rw [← hQe]
    exact W.iret (v := (-1)) hx hb hr (fun t ht hW => ⟨⟨(-1), vT, rfl, h, by dsimp only; rw [ht]; exact hP⟩, hS.F ht⟩) hS.2.2 dX8_weight_30
  · obtain ⟨-, h⟩ := h
    specialize h c3
    refine lv_aload_n hx hb dX8_weight_7 rfl (lv_at hl 0 rfl) ?_
    refine va_get (D := G) (ci := 7) (v := .ref aN) (C := RX8) (T := TX8) (N := 8) hx hb hts iwX8 hown hK.1 hP 0 rfl rfl 0 (by decide) fl10 (fun _ h9 => h9) rfl dX8_weight_8 ?_
    refine lv_iload_n hx hb dX8_weight_11 rfl (lv_at hl 2 rfl) ?_
    obtain ⟨Q4, hw9, h⟩ := h
    have hPc : va_P G vwCl [(aN, .inr (3, [.ref aR, .int vn])), (aR, .inl (cy 0, 9, .inl fN))] H := hP.sub [1, 2] rfl
    refine vp_callSi (va_Run.run (va_runV (As := [.int p2]) (rest := []) ⟨hx, hb, hml, hown, hts⟩ (ct_X3_hasSet l G cy aN aR vn fN p2 Q4 hw9) (cwV 1 hts gX8_weight_X3_hasSetE rfl rfl rfl (by decide +kernel) ⟨Nat.le_of_ble_eq_true rfl, Nat.le_of_ble_eq_true rfl⟩) (rP_V hK hP (ci := 3) (q0 := 1) rfl rfl hPc) rfl rfl hl.1 rfl (lv_room (Nat.le_of_ble_eq_true rfl)) dX8_weight_12 ⟨Nat.le_of_ble_eq_true rfl, Nat.le_of_ble_eq_true rfl⟩)) (fun r5 er5 => ?_)
    specialize h r5 er5
    refine lv_if_eq (tgt := 29) hx hb dX8_weight_15 (by decide) (fun c6 => ?_) (fun c6 => ?_)
    · obtain ⟨h, -⟩ := h
      specialize h c6
      refine lv_iconst (v := (-1)) hx hb dX8_weight_29 (by decide) ?_
      rw [← hQe]
      exact W.iret (v := (-1)) hx hb hr (fun t ht hW => ⟨⟨(-1), vT, rfl, h, by dsimp only; rw [ht]; exact hP⟩, hS.F ht⟩) hS.2.2 dX8_weight_30
    · obtain ⟨-, h⟩ := h
      specialize h c6
      refine lv_aload_n hx hb dX8_weight_18 rfl (lv_at hl 0 rfl) ?_
      refine va_get (D := G) (ci := 7) (v := .ref aN) (C := RX8) (T := TX8) (N := 8) hx hb hts iwX8 hown hK.1 hP 0 rfl rfl 0 (by decide) fl10 (fun _ h9 => h9) rfl dX8_weight_19 ?_
      refine lv_iload_n hx hb dX8_weight_22 rfl (lv_at hl 3 rfl) ?_
      obtain ⟨Q7, hw9, h⟩ := h
      have hPc : va_P G vwCl [(aN, .inr (3, [.ref aR, .int vn])), (aR, .inl (cy 0, 9, .inl fN))] H := hP.sub [1, 2] rfl
      refine vp_callSi (va_Run.run (va_runV (As := [.int p3]) (rest := []) ⟨hx, hb, hml, hown, hts⟩ (ct_X3_hasSet l G cy aN aR vn fN p3 Q7 hw9) (cwV 1 hts gX8_weight_X3_hasSetE rfl rfl rfl (by decide +kernel) ⟨Nat.le_of_ble_eq_true rfl, Nat.le_of_ble_eq_true rfl⟩) (rP_V hK hP (ci := 3) (q0 := 1) rfl rfl hPc) rfl rfl hl.1 rfl (lv_room (Nat.le_of_ble_eq_true rfl)) dX8_weight_23 ⟨Nat.le_of_ble_eq_true rfl, Nat.le_of_ble_eq_true rfl⟩)) (fun r8 er8 => ?_)
      specialize h r8 er8
      refine lv_if_ne (tgt := 31) hx hb dX8_weight_26 (by decide) (fun c9 => ?_) (fun c9 => ?_)
      · obtain ⟨-, h⟩ := h
        specialize h c9
        refine lv_aload_n hx hb dX8_weight_31 rfl (lv_at hl 0 rfl) ?_
        refine va_get (D := G) (ci := 7) (v := .ref aW) (C := RX8) (T := TX8) (N := 8) hx hb hts iwX8 hown hK.1 hP 0 rfl rfl 3 (by decide) fl41 (fun _ h9 => h9) rfl dX8_weight_32 ?_
        refine lv_iload_n hx hb dX8_weight_35 rfl (lv_at hl 1 rfl) ?_
        obtain ⟨hi, h⟩ := h
        refine va_aldq hx hb hK.1 hP 3 2 rfl rfl hi dX8_weight_36 ?_
        have hc9 : p1 = 0 ∨ p1 = 1 ∨ p1 = 2 := in3 hi
        rcases hc9 with c10 | c11 | c12
        · have h := h.1 c10
          refine W.eq (g2 := F0 m 37 ls [.ref aS]) (by rw [c10]; rfl) ?_
          refine lv_aload_n hx hb dX8_weight_37 rfl (lv_at hl 0 rfl) ?_
          refine va_get (D := G) (ci := 7) (v := .ref aN) (C := RX8) (T := TX8) (N := 8) hx hb hts iwX8 hown hK.1 hP 0 rfl rfl 0 (by decide) fl10 (fun _ h9 => h9) rfl dX8_weight_38 ?_
          refine lv_iload_n hx hb dX8_weight_41 rfl (lv_at hl 2 rfl) ?_
          refine lv_iload_n hx hb dX8_weight_42 rfl (lv_at hl 3 rfl) ?_
          refine lv_iconst (v := (-1)) hx hb dX8_weight_43 (by decide) ?_
          refine lv_ixor hx hb dX8_weight_44 ?_
          refine lv_iand hx hb dX8_weight_45 ?_
          refine lv_iload_n hx hb dX8_weight_46 rfl (lv_at hl 3 rfl) ?_
          refine lv_iload_n hx hb dX8_weight_47 rfl (lv_at hl 2 rfl) ?_
          refine lv_iconst (v := (-1)) hx hb dX8_weight_48 (by decide) ?_
          refine lv_ixor hx hb dX8_weight_49 ?_
          refine lv_iand hx hb dX8_weight_50 ?_
          refine lv_aload_n hx hb dX8_weight_51 rfl (lv_at hl 0 rfl) ?_
          refine va_get (D := G) (ci := 7) (v := .ref aT) (C := RX8) (T := TX8) (N := 8) hx hb hts iwX8 hown hK.1 hP 0 rfl rfl 4 (by decide) fl48 (fun _ h9 => h9) rfl dX8_weight_52 ?_
          obtain ⟨Q13, hw9, h⟩ := h
          have hPc : va_P G vwCl [(aN, .inr (3, [.ref aR, .int vn])), (aR, .inl (cy 0, 9, .inl fN)), (aT, .inr (6, [.long vT]))] H := hP.sub [1, 2, 7] rfl
          have hDc : va_D A [(aN, .inr (3, [.ref aR, .int vn])), (aR, .inl (cy 0, 9, .inl fN)), (aT, .inr (6, [.long vT]))] := hD.sub [1, 2, 7] (by decide) rfl
          have hFc := va_free (wc := [(aN, .inr (3, [.ref aR, .int vn])), (aR, .inl (cy 0, 9, .inl fN)), (aT, .inr (6, [.long vT]))]) hD hS hA [1, 2, 7] rfl
          refine va_calli (va_runV (As := [.ref aN, .int (p2 &&& (p3 ^^^ (-1 : Int32))), .int (p3 &&& (p2 ^^^ (-1 : Int32))), .ref aT]) (rest := []) ⟨hx, hb, hml, hown, hts⟩ (ct_X6_weigh l G cy aS aN aR aT H.size vn fN vT (p2 &&& (p3 ^^^ (-1 : Int32))) (p3 &&& (p2 ^^^ (-1 : Int32))) Q13 hw9) (cwV 4 hts gX8_weight_X6_weighE rfl rfl rfl (by decide +kernel) ⟨Nat.le_of_ble_eq_true rfl, Nat.le_of_ble_eq_true rfl⟩) (wP_V hK hP (ci := 5) (q0 := 4) rfl rfl hPc hDc) rfl rfl hl.1 rfl (lv_room (Nat.le_of_ble_eq_true rfl)) dX8_weight_55 ⟨Nat.le_of_ble_eq_true rfl, Nat.le_of_ble_eq_true rfl⟩) hS (fun q9 _ h9 => hFc q9 h9) hFc (fun r14 u9 t9 H locs ht9 hvm9 hw9 hB9 hz9 hk9 hS => ?_)
          obtain ⟨z15, rfl⟩ : ∃ z9, z9 = u9 := ⟨_, rfl⟩
          have hP : va_P G vwCl [(a0, .inr (7, [.ref aN, .ref aM, .ref aP, .ref aW, .ref aT, .int vLe, .int vMo, .int vCo])), (aN, .inr (3, [.ref aR, .int vn])), (aR, .inl (cy 0, 9, .inl fN)), (aW, .inl (cy 2, 3, .inr (.inr (.inr (.inr (wgh aS aJ aB)))))), (aS, .inr (5, [])), (aJ, .inr (1, [])), (aB, .inr (0, [])), (aT, .inr (6, [.long z15]))] H := P_back [1, 2, 7] [0, 3, 4, 5, 6] 8 hP hD rfl rfl rfl rfl (by decide) (by decide) hk9 (by rw [← ht9]; exact hB9)
          have hD : va_D A [(a0, .inr (7, [.ref aN, .ref aM, .ref aP, .ref aW, .ref aT, .int vLe, .int vMo, .int vCo])), (aN, .inr (3, [.ref aR, .int vn])), (aR, .inl (cy 0, 9, .inl fN)), (aW, .inl (cy 2, 3, .inr (.inr (.inr (.inr (wgh aS aJ aB)))))), (aS, .inr (5, [])), (aJ, .inr (1, [])), (aB, .inr (0, [])), (aT, .inr (6, [.long z15]))] := D_same hD rfl
          specialize h r14 z15 hw9
          rw [← hQe]
          exact W.iret (v := r14) hx hb hr (fun t ht hW => ⟨⟨r14, z15, rfl, h, by dsimp only; rw [ht]; exact hP⟩, hS.F ht⟩) hS.2.2 dX8_weight_58
        · have h := h.2.1 c11
          refine W.eq (g2 := F0 m 37 ls [.ref aJ]) (by rw [c11]; rfl) ?_
          refine lv_aload_n hx hb dX8_weight_37 rfl (lv_at hl 0 rfl) ?_
          refine va_get (D := G) (ci := 7) (v := .ref aN) (C := RX8) (T := TX8) (N := 8) hx hb hts iwX8 hown hK.1 hP 0 rfl rfl 0 (by decide) fl10 (fun _ h9 => h9) rfl dX8_weight_38 ?_
          refine lv_iload_n hx hb dX8_weight_41 rfl (lv_at hl 2 rfl) ?_
          refine lv_iload_n hx hb dX8_weight_42 rfl (lv_at hl 3 rfl) ?_
          refine lv_iconst (v := (-1)) hx hb dX8_weight_43 (by decide) ?_
          refine lv_ixor hx hb dX8_weight_44 ?_
          refine lv_iand hx hb dX8_weight_45 ?_
          refine lv_iload_n hx hb dX8_weight_46 rfl (lv_at hl 3 rfl) ?_
          refine lv_iload_n hx hb dX8_weight_47 rfl (lv_at hl 2 rfl) ?_
          refine lv_iconst (v := (-1)) hx hb dX8_weight_48 (by decide) ?_
          refine lv_ixor hx hb dX8_weight_49 ?_
          refine lv_iand hx hb dX8_weight_50 ?_
          refine lv_aload_n hx hb dX8_weight_51 rfl (lv_at hl 0 rfl) ?_
          refine va_get (D := G) (ci := 7) (v := .ref aT) (C := RX8) (T := TX8) (N := 8) hx hb hts iwX8 hown hK.1 hP 0 rfl rfl 4 (by decide) fl48 (fun _ h9 => h9) rfl dX8_weight_52 ?_
          obtain ⟨Q16, hw9, h⟩ := h
          have hPc : va_P G vwCl [(aJ, .inr (1, [])), (aN, .inr (3, [.ref aR, .int vn])), (aR, .inl (cy 0, 9, .inl fN)), (aT, .inr (6, [.long vT]))] H := hP.sub [5, 1, 2, 7] rfl
          have hDc : va_D A [(aJ, .inr (1, [])), (aN, .inr (3, [.ref aR, .int vn])), (aR, .inl (cy 0, 9, .inl fN)), (aT, .inr (6, [.long vT]))] := hD.sub [5, 1, 2, 7] (by decide) rfl
          have hFc := va_free (wc := [(aJ, .inr (1, [])), (aN, .inr (3, [.ref aR, .int vn])), (aR, .inl (cy 0, 9, .inl fN)), (aT, .inr (6, [.long vT]))]) hD hS hA [5, 1, 2, 7] rfl
          refine va_calli (va_runU (As := [.ref aN, .int (p2 &&& (p3 ^^^ (-1 : Int32))), .int (p3 &&& (p2 ^^^ (-1 : Int32))), .ref aT]) (rest := []) ⟨hx, hb, hml, hown, hts⟩ (ct_X1_weigh_J l G cy aJ aN aR aT H.size vn fN vT (p2 &&& (p3 ^^^ (-1 : Int32))) (p3 &&& (p2 ^^^ (-1 : Int32))) Q16 hw9) (va_cwO 4 hts gX8_weight_X1_weigh_u117X1E rfl rfl rfl (b0 := cX6_weigh) (m0 := 7) (r0 := some .int) (by decide +kernel) (by decide +kernel) ⟨Nat.le_of_ble_eq_true rfl, Nat.le_of_ble_eq_true rfl⟩) (wP_V hK hP (ci := 1) (q0 := 5) rfl rfl hPc hDc) rfl rfl hl.1 rfl (lv_room (Nat.le_of_ble_eq_true rfl)) dX8_weight_55 ⟨Nat.le_of_ble_eq_true rfl, Nat.le_of_ble_eq_true rfl⟩) hS (fun q9 _ h9 => hFc q9 h9) hFc (fun r17 u9 t9 H locs ht9 hvm9 hw9 hB9 hz9 hk9 hS => ?_)
          obtain ⟨z18, rfl⟩ : ∃ z9, z9 = u9 := ⟨_, rfl⟩
          have hP : va_P G vwCl [(a0, .inr (7, [.ref aN, .ref aM, .ref aP, .ref aW, .ref aT, .int vLe, .int vMo, .int vCo])), (aN, .inr (3, [.ref aR, .int vn])), (aR, .inl (cy 0, 9, .inl fN)), (aW, .inl (cy 2, 3, .inr (.inr (.inr (.inr (wgh aS aJ aB)))))), (aS, .inr (5, [])), (aJ, .inr (1, [])), (aB, .inr (0, [])), (aT, .inr (6, [.long z18]))] H := P_back [5, 1, 2, 7] [0, 3, 4, 6] 8 hP hD rfl rfl rfl rfl (by decide) (by decide) hk9 (by rw [← ht9]; exact hB9)
          have hD : va_D A [(a0, .inr (7, [.ref aN, .ref aM, .ref aP, .ref aW, .ref aT, .int vLe, .int vMo, .int vCo])), (aN, .inr (3, [.ref aR, .int vn])), (aR, .inl (cy 0, 9, .inl fN)), (aW, .inl (cy 2, 3, .inr (.inr (.inr (.inr (wgh aS aJ aB)))))), (aS, .inr (5, [])), (aJ, .inr (1, [])), (aB, .inr (0, [])), (aT, .inr (6, [.long z18]))] := D_same hD rfl
          specialize h r17 z18 hw9
          rw [← hQe]
          exact W.iret (v := r17) hx hb hr (fun t ht hW => ⟨⟨r17, z18, rfl, h, by dsimp only; rw [ht]; exact hP⟩, hS.F ht⟩) hS.2.2 dX8_weight_58
        · have h := h.2.2 c12
          refine W.eq (g2 := F0 m 37 ls [.ref aB]) (by rw [c12]; rfl) ?_
          refine lv_aload_n hx hb dX8_weight_37 rfl (lv_at hl 0 rfl) ?_
          refine va_get (D := G) (ci := 7) (v := .ref aN) (C := RX8) (T := TX8) (N := 8) hx hb hts iwX8 hown hK.1 hP 0 rfl rfl 0 (by decide) fl10 (fun _ h9 => h9) rfl dX8_weight_38 ?_
          refine lv_iload_n hx hb dX8_weight_41 rfl (lv_at hl 2 rfl) ?_
          refine lv_iload_n hx hb dX8_weight_42 rfl (lv_at hl 3 rfl) ?_
          refine lv_iconst (v := (-1)) hx hb dX8_weight_43 (by decide) ?_
          refine lv_ixor hx hb dX8_weight_44 ?_
          refine lv_iand hx hb dX8_weight_45 ?_
          refine lv_iload_n hx hb dX8_weight_46 rfl (lv_at hl 3 rfl) ?_
          refine lv_iload_n hx hb dX8_weight_47 rfl (lv_at hl 2 rfl) ?_
          refine lv_iconst (v := (-1)) hx hb dX8_weight_48 (by decide) ?_
          refine lv_ixor hx hb dX8_weight_49 ?_
          refine lv_iand hx hb dX8_weight_50 ?_
          refine lv_aload_n hx hb dX8_weight_51 rfl (lv_at hl 0 rfl) ?_
          refine va_get (D := G) (ci := 7) (v := .ref aT) (C := RX8) (T := TX8) (N := 8) hx hb hts iwX8 hown hK.1 hP 0 rfl rfl 4 (by decide) fl48 (fun _ h9 => h9) rfl dX8_weight_52 ?_
          obtain ⟨Q19, hw9, h⟩ := h
          have hPc : va_P G vwCl [(aB, .inr (0, [])), (aN, .inr (3, [.ref aR, .int vn])), (aR, .inl (cy 0, 9, .inl fN)), (aT, .inr (6, [.long vT]))] H := hP.sub [6, 1, 2, 7] rfl
          have hDc : va_D A [(aB, .inr (0, [])), (aN, .inr (3, [.ref aR, .int vn])), (aR, .inl (cy 0, 9, .inl fN)), (aT, .inr (6, [.long vT]))] := hD.sub [6, 1, 2, 7] (by decide) rfl
          have hFc := va_free (wc := [(aB, .inr (0, [])), (aN, .inr (3, [.ref aR, .int vn])), (aR, .inl (cy 0, 9, .inl fN)), (aT, .inr (6, [.long vT]))]) hD hS hA [6, 1, 2, 7] rfl
          refine va_calli (va_runU (As := [.ref aN, .int (p2 &&& (p3 ^^^ (-1 : Int32))), .int (p3 &&& (p2 ^^^ (-1 : Int32))), .ref aT]) (rest := []) ⟨hx, hb, hml, hown, hts⟩ (ct_X0_weigh l G cy aB aN aR aT H.size vn fN vT (p2 &&& (p3 ^^^ (-1 : Int32))) (p3 &&& (p2 ^^^ (-1 : Int32))) Q19 hw9) (va_cwO 4 hts gX8_weight_X0_weigh_u117X0E rfl rfl rfl (b0 := cX6_weigh) (m0 := 7) (r0 := some .int) (by decide +kernel) (by decide +kernel) ⟨Nat.le_of_ble_eq_true rfl, Nat.le_of_ble_eq_true rfl⟩) (wP_V hK hP (ci := 0) (q0 := 6) rfl rfl hPc hDc) rfl rfl hl.1 rfl (lv_room (Nat.le_of_ble_eq_true rfl)) dX8_weight_55 ⟨Nat.le_of_ble_eq_true rfl, Nat.le_of_ble_eq_true rfl⟩) hS (fun q9 _ h9 => hFc q9 h9) hFc (fun r20 u9 t9 H locs ht9 hvm9 hw9 hB9 hz9 hk9 hS => ?_)
          obtain ⟨z21, rfl⟩ : ∃ z9, z9 = u9 := ⟨_, rfl⟩
          have hP : va_P G vwCl [(a0, .inr (7, [.ref aN, .ref aM, .ref aP, .ref aW, .ref aT, .int vLe, .int vMo, .int vCo])), (aN, .inr (3, [.ref aR, .int vn])), (aR, .inl (cy 0, 9, .inl fN)), (aW, .inl (cy 2, 3, .inr (.inr (.inr (.inr (wgh aS aJ aB)))))), (aS, .inr (5, [])), (aJ, .inr (1, [])), (aB, .inr (0, [])), (aT, .inr (6, [.long z21]))] H := P_back [6, 1, 2, 7] [0, 3, 4, 5] 8 hP hD rfl rfl rfl rfl (by decide) (by decide) hk9 (by rw [← ht9]; exact hB9)
          have hD : va_D A [(a0, .inr (7, [.ref aN, .ref aM, .ref aP, .ref aW, .ref aT, .int vLe, .int vMo, .int vCo])), (aN, .inr (3, [.ref aR, .int vn])), (aR, .inl (cy 0, 9, .inl fN)), (aW, .inl (cy 2, 3, .inr (.inr (.inr (.inr (wgh aS aJ aB)))))), (aS, .inr (5, [])), (aJ, .inr (1, [])), (aB, .inr (0, [])), (aT, .inr (6, [.long z21]))] := D_same hD rfl
          specialize h r20 z21 hw9
          rw [← hQe]
          exact W.iret (v := r20) hx hb hr (fun t ht hW => ⟨⟨r20, z21, rfl, h, by dsimp only; rw [ht]; exact hP⟩, hS.F ht⟩) hS.2.2 dX8_weight_58
      · obtain ⟨h, -⟩ := h
        specialize h c9
        refine lv_iconst (v := (-1)) hx hb dX8_weight_29 (by decide) ?_
        rw [← hQe]
        exact W.iret (v := (-1)) hx hb hr (fun t ht hW => ⟨⟨(-1), vT, rfl, h, by dsimp only; rw [ht]; exact hP⟩, hS.F ht⟩) hS.2.2 dX8_weight_30
