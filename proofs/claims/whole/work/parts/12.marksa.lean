set_option maxHeartbeats 4000000 in
set_option maxRecDepth 100000 in
theorem ct_X5_isState_M (l : Launch) (G : va_G) (cy : Nat → ClassId) (aM aF aL aX aC aN aR : Nat) (vSz : Int32) (vTl : Int32) (vFo : Int32) (vMv : Int32) (fF : Nat → Int32) (fL : Nat → Int32) (fX : Nat → Int32) (fC : Nat → Int32) (vn : Int32) (fN : Nat → Int32) (p1 : Int32) (Q : Int32 → Prop) (h : wp_X5_isState_M vSz p1 Q) : Met l yX5_isState wsX5_isState rmX5_isState_M (va_Pc [.ref aM, .int p1] (rP G cy [(aM, .inr (2, [.ref aF, .ref aL, .ref aX, .ref aC, .int vSz, .int vTl, .int vFo, .ref aN, .int vMv])), (aF, .inl (cy 0, 512, .inl fF)), (aL, .inl (cy 0, 512, .inl fL)), (aX, .inl (cy 0, 81, .inl fX)), (aC, .inl (cy 0, 81, .inl fC)), (aN, .inr (3, [.ref aR, .int vn])), (aR, .inl (cy 0, 9, .inl fN))])) (vp_Si Q) 0 0 (fun _ => False) := by
  unfold wp_X5_isState_M at h
  refine Met.ofW (cc := cX5_isState) (maxL := 2) (ret := (some .boolean)) (by decide) rfl ?_
  intro p e s m args below meth c s₁ B hml hv
  obtain ⟨hav, hP, hK⟩ := hv
  have hx := B.exec
  have hb := B.bytes
  have hr := B.returns
  have hts := atoms_spec (ws := wsX5_isState) B.pre
  have hown : s.vm.findClass RX5 = some m.cls := findClass_of_methodNamed B.named
  have hlocks := B.notSynchronized
  have hl := lv_entry ([.ref aM, .int p1]) (n := 2) (Nat.le_of_ble_eq_true rfl)
  rw [show entryFrame m args 2 = entryFrame m ([.ref aM, .int p1] : List Value).toArray 2 by rw [hav], lg_entry_eq]
  generalize (lg_sl ([.ref aM, .int p1]) ++ List.replicate (2 - (lg_sl ([.ref aM, .int p1])).length) Slot.unset).toArray = ls at hl ⊢
  have hl : lv_has ls 2 [(0, .ref aM), (1, .int p1)] := hl
  generalize hQe : MQ below _ _ _ _ _ _ = QM
  have iwX2 : ∀ w ∈ wsX20, w ∈ wsX5_isState := by decide +kernel
  have fl9 := hts (.fieldLink RX5 9 "SlidTokens$Search" "size" "I") (by decide +kernel)
  have fl21 := hts (.fieldLink RX5 21 "SlidTokens$Search" "far" "[I") (by decide +kernel)
  refine lv_iload_n hx hb dX5_isState_0 rfl (lv_at hl 1 rfl) ?_
  refine lv_if_lt (tgt := 25) hx hb dX5_isState_1 (by decide) (fun c1 => ?_) (fun c1 => ?_)
  · obtain ⟨h, -⟩ := h
    specialize h c1
    refine lv_iconst (v := 0) hx hb dX5_isState_25 (by decide) ?_
    rw [← hQe]
    exact W.zret (v := 0) hx hb hr rfl (fun t ht hW => ⟨0, rfl, h, ht⟩) (fun q9 h9 => by cases h9) dX5_isState_26
  · obtain ⟨-, h⟩ := h
    specialize h c1
    refine lv_iload_n hx hb dX5_isState_4 rfl (lv_at hl 1 rfl) ?_
    refine lv_aload_n hx hb dX5_isState_5 rfl (lv_at hl 0 rfl) ?_
    refine va_get (D := G) (ci := 2) (v := .int vSz) (C := RX2) (T := TX2) (N := 9) hx hb hts iwX2 hown hK.1 hP 0 rfl rfl 4 (by decide) fl9 (fun _ h9 => h9) rfl dX5_isState_6 ?_
    refine lv_icmp_ge (tgt := 25) hx hb dX5_isState_9 (by decide) (fun c2 => ?_) (fun c2 => ?_)
    · obtain ⟨h, -⟩ := h
      specialize h c2
      refine lv_iconst (v := 0) hx hb dX5_isState_25 (by decide) ?_
      rw [← hQe]
      exact W.zret (v := 0) hx hb hr rfl (fun t ht hW => ⟨0, rfl, h, ht⟩) (fun q9 h9 => by cases h9) dX5_isState_26
    · obtain ⟨-, h⟩ := h
      specialize h c2
      refine lv_iload_n hx hb dX5_isState_12 rfl (lv_at hl 1 rfl) ?_
      refine lv_aload_n hx hb dX5_isState_13 rfl (lv_at hl 0 rfl) ?_
      refine va_get (D := G) (ci := 2) (v := .ref aF) (C := RX2) (T := TX2) (N := 9) hx hb hts iwX2 hown hK.1 hP 0 rfl rfl 0 (by decide) fl21 (fun _ h9 => h9) rfl dX5_isState_14 ?_
      refine va_alen hx hb hK.1 hP 1 0 rfl rfl (v := 512) rfl dX5_isState_17 ?_
      refine lv_icmp_ge (tgt := 25) hx hb dX5_isState_18 (by decide) (fun c3 => ?_) (fun c3 => ?_)
      · obtain ⟨h, -⟩ := h
        specialize h c3
        refine lv_iconst (v := 0) hx hb dX5_isState_25 (by decide) ?_
        rw [← hQe]
        exact W.zret (v := 0) hx hb hr rfl (fun t ht hW => ⟨0, rfl, h, ht⟩) (fun q9 h9 => by cases h9) dX5_isState_26
      · obtain ⟨-, h⟩ := h
        specialize h c3
        refine lv_iconst (v := 1) hx hb dX5_isState_21 (by decide) ?_
        refine lv_goto (tgt := 26) hx hb dX5_isState_22 (by decide) ?_
        rw [← hQe]
        exact W.zret (v := 1) hx hb hr rfl (fun t ht hW => ⟨1, rfl, h, ht⟩) (fun q9 h9 => by cases h9) dX5_isState_26

set_option maxHeartbeats 4000000 in
set_option maxRecDepth 100000 in
theorem ct_X5_enter_M (l : Launch) (G : va_G) (cy : Nat → ClassId) (aM aF aL aX aC aN aR : Nat) (sz : Nat) (vSz : Int32) (vTl : Int32) (vFo : Int32) (vMv : Int32) (fF : Nat → Int32) (fL : Nat → Int32) (fX : Nat → Int32) (fC : Nat → Int32) (vn : Int32) (fN : Nat → Int32) (p1 : Int32) (p2 : Int32) (Q : Int32 → (Nat → Int32) → (Nat → Int32) → Prop) (h : wp_X5_enter_M vTl fF fL p1 p2 Q) : Met l yX5_enter wsX5_enter rmX5_enter_M (va_Pc [.ref aM, .int p1, .int p2] (wP G cy sz [(aM, .inr (2, [.ref aF, .ref aL, .ref aX, .ref aC, .int vSz, .int vTl, .int vFo, .ref aN, .int vMv])), (aF, .inl (cy 0, 512, .inl fF)), (aL, .inl (cy 0, 512, .inl fL)), (aX, .inl (cy 0, 81, .inl fX)), (aC, .inl (cy 0, 81, .inl fC)), (aN, .inr (3, [.ref aR, .int vn])), (aR, .inl (cy 0, 9, .inl fN))])) (va_Qv (fun (u : Int32 × (Nat → Int32) × (Nat → Int32)) => Q u.1 u.2.1 u.2.2) (fun (u : Int32 × (Nat → Int32) × (Nat → Int32)) (t : State) => va_P G vwCl [(aM, .inr (2, [.ref aF, .ref aL, .ref aX, .ref aC, .int vSz, .int u.1, .int vFo, .ref aN, .int vMv])), (aF, .inl (cy 0, 512, .inl u.2.1)), (aL, .inl (cy 0, 512, .inl u.2.2)), (aX, .inl (cy 0, 81, .inl fX)), (aC, .inl (cy 0, 81, .inl fC)), (aN, .inr (3, [.ref aR, .int vn])), (aR, .inl (cy 0, 9, .inl fN))] t.heap) (va_A [(aM, .inr (2, [.ref aF, .ref aL, .ref aX, .ref aC, .int vSz, .int vTl, .int vFo, .ref aN, .int vMv])), (aF, .inl (cy 0, 512, .inl fF)), (aL, .inl (cy 0, 512, .inl fL)), (aX, .inl (cy 0, 81, .inl fX)), (aC, .inl (cy 0, 81, .inl fC)), (aN, .inr (3, [.ref aR, .int vn])), (aR, .inl (cy 0, 9, .inl fN))] sz)) 0 0 (va_A [(aM, .inr (2, [.ref aF, .ref aL, .ref aX, .ref aC, .int vSz, .int vTl, .int vFo, .ref aN, .int vMv])), (aF, .inl (cy 0, 512, .inl fF)), (aL, .inl (cy 0, 512, .inl fL)), (aX, .inl (cy 0, 81, .inl fX)), (aC, .inl (cy 0, 81, .inl fC)), (aN, .inr (3, [.ref aR, .int vn])), (aR, .inl (cy 0, 9, .inl fN))] sz) := by
  unfold wp_X5_enter_M at h
  refine Met.ofW (cc := cX5_enter) (maxL := 3) (ret := none) (by decide) rfl ?_
  intro p e s m args below meth c s₁ B hml hv
  obtain ⟨hav, hsz, hP, hK, hD0⟩ := hv
  have hx := B.exec
  have hb := B.bytes
  have hr := B.returns
  have hts := atoms_spec (ws := wsX5_enter) B.pre
  have hown : s.vm.findClass RX5 = some m.cls := findClass_of_methodNamed B.named
  have hlocks := B.notSynchronized
  subst hsz
  have hD := hD0.self (sz := s.heap.size)
  generalize hAe : va_A [(aM, .inr (2, [.ref aF, .ref aL, .ref aX, .ref aC, .int vSz, .int vTl, .int vFo, .ref aN, .int vMv])), (aF, .inl (cy 0, 512, .inl fF)), (aL, .inl (cy 0, 512, .inl fL)), (aX, .inl (cy 0, 81, .inl fX)), (aC, .inl (cy 0, 81, .inl fC)), (aN, .inr (3, [.ref aR, .int vn])), (aR, .inl (cy 0, 9, .inl fN))] s.heap.size = A at hD ⊢
  have hA : ∀ q : Nat, s.heap.size ≤ q → A q := fun q h9 => by rw [← hAe]; exact Or.inr h9
  have hS : va_S A s.heap s.heap [] := va_S.rf
  have hl := lv_entry ([.ref aM, .int p1, .int p2]) (n := 3) (Nat.le_of_ble_eq_true rfl)
  rw [show entryFrame m args 3 = entryFrame m ([.ref aM, .int p1, .int p2] : List Value).toArray 3 by rw [hav], lg_entry_eq]
  generalize (lg_sl ([.ref aM, .int p1, .int p2]) ++ List.replicate (3 - (lg_sl ([.ref aM, .int p1, .int p2])).length) Slot.unset).toArray = ls at hl ⊢
  have hl : lv_has ls 3 [(0, .ref aM), (1, .int p1), (2, .int p2)] := hl
  generalize hQe : MQ below _ _ _ _ _ _ = QM
  have hP : va_P G vwCl [(aM, .inr (2, [.ref aF, .ref aL, .ref aX, .ref aC, .int vSz, .int vTl, .int vFo, .ref aN, .int vMv])), (aF, .inl (cy 0, 512, .inl fF)), (aL, .inl (cy 0, 512, .inl fL)), (aX, .inl (cy 0, 81, .inl fX)), (aC, .inl (cy 0, 81, .inl fC)), (aN, .inr (3, [.ref aR, .int vn])), (aR, .inl (cy 0, 9, .inl fN))] s.heap := hP
  have iwX2 : ∀ w ∈ wsX20, w ∈ wsX5_enter := by decide +kernel
  have fl15 := hts (.fieldLink RX5 15 "SlidTokens$Search" "tail" "I") (by decide +kernel)
  have fl25 := hts (.fieldLink RX5 25 "SlidTokens$Search" "line" "[I") (by decide +kernel)
  have fl21 := hts (.fieldLink RX5 21 "SlidTokens$Search" "far" "[I") (by decide +kernel)
  suffices K9 : ∀ (H : Heap) (locs : List Loc), va_P G vwCl [(aM, .inr (2, [.ref aF, .ref aL, .ref aX, .ref aC, .int vSz, .int vTl, .int vFo, .ref aN, .int vMv])), (aF, .inl (cy 0, 512, .inl fF)), (aL, .inl (cy 0, 512, .inl fL)), (aX, .inl (cy 0, 81, .inl fX)), (aC, .inl (cy 0, 81, .inl fC)), (aN, .inr (3, [.ref aR, .int vn])), (aR, .inl (cy 0, 9, .inl fN))] H → va_D A [(aM, .inr (2, [.ref aF, .ref aL, .ref aX, .ref aC, .int vSz, .int vTl, .int vFo, .ref aN, .int vMv])), (aF, .inl (cy 0, 512, .inl fF)), (aL, .inl (cy 0, 512, .inl fL)), (aX, .inl (cy 0, 81, .inl fX)), (aC, .inl (cy 0, 81, .inl fC)), (aN, .inr (3, [.ref aR, .int vn])), (aR, .inl (cy 0, 9, .inl fN))] → va_S A s.heap H locs → W p l e (headSpec wsX5_enter rmX5_enter_M).room s m args below meth c H locs 0 0 QM (F0 m 0 ls []) from K9 _ _ hP hD hS
  clear hP hD hS
  intro H locs hP hD hS
  refine lv_aload_n hx hb dX5_enter_0 rfl (lv_at hl 0 rfl) ?_
  refine va_get (D := G) (ci := 2) (v := .int vTl) (C := RX2) (T := TX2) (N := 9) hx hb hts iwX2 hown hK.1 hP 0 rfl rfl 5 (by decide) fl15 (fun _ h9 => h9) rfl dX5_enter_1 ?_
  refine lv_aload_n hx hb dX5_enter_4 rfl (lv_at hl 0 rfl) ?_
  refine va_get (D := G) (ci := 2) (v := .ref aL) (C := RX2) (T := TX2) (N := 9) hx hb hts iwX2 hown hK.1 hP 0 rfl rfl 1 (by decide) fl25 (fun _ h9 => h9) rfl dX5_enter_5 ?_
  refine va_alen hx hb hK.1 hP 2 0 rfl rfl (v := 512) rfl dX5_enter_8 ?_
  refine lv_icmp_ge (tgt := 39) hx hb dX5_enter_9 (by decide) (fun c1 => ?_) (fun c1 => ?_)
  · obtain ⟨h, -⟩ := h
    specialize h c1
    rw [← hQe]
    exact W.vret hx hb hr (fun t ht hW => ⟨⟨(vTl, fF, fL), rfl, h, by dsimp only; rw [ht]; exact hP⟩, hS.F ht⟩) hS.2.2 dX5_enter_39
  · obtain ⟨-, h⟩ := h
    specialize h c1
    refine lv_aload_n hx hb dX5_enter_12 rfl (lv_at hl 0 rfl) ?_
    refine va_get (D := G) (ci := 2) (v := .ref aF) (C := RX2) (T := TX2) (N := 9) hx hb hts iwX2 hown hK.1 hP 0 rfl rfl 0 (by decide) fl21 (fun _ h9 => h9) rfl dX5_enter_13 ?_
    refine lv_iload_n hx hb dX5_enter_16 rfl (lv_at hl 1 rfl) ?_
    refine lv_iload_n hx hb dX5_enter_17 rfl (lv_at hl 2 rfl) ?_
    obtain ⟨hi, h⟩ := h
    refine va_iast hx hb hK.1 hP hD hS 1 0 rfl rfl hi dX5_enter_18 (fun H locs hP hD hS => ?_)
    obtain ⟨f2, ef2⟩ : ∃ z9 : Nat → Int32, z9 = upd fF (p1 : Int32).toNatClampNeg p2 := ⟨_, rfl⟩
    specialize h f2 ef2
    have hP : va_P G vwCl [(aM, .inr (2, [.ref aF, .ref aL, .ref aX, .ref aC, .int vSz, .int vTl, .int vFo, .ref aN, .int vMv])), (aF, .inl (cy 0, 512, .inl f2)), (aL, .inl (cy 0, 512, .inl fL)), (aX, .inl (cy 0, 81, .inl fX)), (aC, .inl (cy 0, 81, .inl fC)), (aN, .inr (3, [.ref aR, .int vn])), (aR, .inl (cy 0, 9, .inl fN))] H := by rw [ef2]; exact hP
    have hD : va_D A [(aM, .inr (2, [.ref aF, .ref aL, .ref aX, .ref aC, .int vSz, .int vTl, .int vFo, .ref aN, .int vMv])), (aF, .inl (cy 0, 512, .inl f2)), (aL, .inl (cy 0, 512, .inl fL)), (aX, .inl (cy 0, 81, .inl fX)), (aC, .inl (cy 0, 81, .inl fC)), (aN, .inr (3, [.ref aR, .int vn])), (aR, .inl (cy 0, 9, .inl fN))] := D_same hD rfl
    refine lv_aload_n hx hb dX5_enter_19 rfl (lv_at hl 0 rfl) ?_
    refine va_get (D := G) (ci := 2) (v := .ref aL) (C := RX2) (T := TX2) (N := 9) hx hb hts iwX2 hown hK.1 hP 0 rfl rfl 1 (by decide) fl25 (fun _ h9 => h9) rfl dX5_enter_20 ?_
    refine lv_aload_n hx hb dX5_enter_23 rfl (lv_at hl 0 rfl) ?_
    refine va_get (D := G) (ci := 2) (v := .int vTl) (C := RX2) (T := TX2) (N := 9) hx hb hts iwX2 hown hK.1 hP 0 rfl rfl 5 (by decide) fl15 (fun _ h9 => h9) rfl dX5_enter_24 ?_
    refine lv_iload_n hx hb dX5_enter_27 rfl (lv_at hl 1 rfl) ?_
    obtain ⟨hi, h⟩ := h
    refine va_iast hx hb hK.1 hP hD hS 2 0 rfl rfl hi dX5_enter_28 (fun H locs hP hD hS => ?_)
    obtain ⟨f3, ef3⟩ : ∃ z9 : Nat → Int32, z9 = upd fL (vTl : Int32).toNatClampNeg p1 := ⟨_, rfl⟩
    specialize h f3 ef3
    have hP : va_P G vwCl [(aM, .inr (2, [.ref aF, .ref aL, .ref aX, .ref aC, .int vSz, .int vTl, .int vFo, .ref aN, .int vMv])), (aF, .inl (cy 0, 512, .inl f2)), (aL, .inl (cy 0, 512, .inl f3)), (aX, .inl (cy 0, 81, .inl fX)), (aC, .inl (cy 0, 81, .inl fC)), (aN, .inr (3, [.ref aR, .int vn])), (aR, .inl (cy 0, 9, .inl fN))] H := by rw [ef3]; exact hP
    have hD : va_D A [(aM, .inr (2, [.ref aF, .ref aL, .ref aX, .ref aC, .int vSz, .int vTl, .int vFo, .ref aN, .int vMv])), (aF, .inl (cy 0, 512, .inl f2)), (aL, .inl (cy 0, 512, .inl f3)), (aX, .inl (cy 0, 81, .inl fX)), (aC, .inl (cy 0, 81, .inl fC)), (aN, .inr (3, [.ref aR, .int vn])), (aR, .inl (cy 0, 9, .inl fN))] := D_same hD rfl
    refine lv_aload_n hx hb dX5_enter_29 rfl (lv_at hl 0 rfl) ?_
    refine lv_dup hx hb dX5_enter_30 rfl ?_
    refine va_get (D := G) (ci := 2) (v := .int vTl) (C := RX2) (T := TX2) (N := 9) hx hb hts iwX2 hown hK.1 hP 0 rfl rfl 5 (by decide) fl15 (fun _ h9 => h9) rfl dX5_enter_31 ?_
    refine lv_iconst (v := 1) hx hb dX5_enter_34 (by decide) ?_
    refine lv_iadd hx hb dX5_enter_35 ?_
    refine lv_topi (fun x4 ex4 => ?_)
    specialize h x4 ex4
    refine va_put (D := G) (ci := 2) (v := .int x4) (ty := .int) (C := RX2) (T := TX2) (N := 9) hx hb hts iwX2 tyX2 tyX2_ok nmX2 hown hK.1 hP hD hS 0 rfl rfl 5 (by decide) fl15 (fun _ h9 => h9) rfl (by decide +kernel) rfl rfl (Nat.le_of_ble_eq_true rfl) dX5_enter_36 (fun H locs hP hD hS => ?_)
    have hP : va_P G vwCl [(aM, .inr (2, [.ref aF, .ref aL, .ref aX, .ref aC, .int vSz, .int x4, .int vFo, .ref aN, .int vMv])), (aF, .inl (cy 0, 512, .inl f2)), (aL, .inl (cy 0, 512, .inl f3)), (aX, .inl (cy 0, 81, .inl fX)), (aC, .inl (cy 0, 81, .inl fC)), (aN, .inr (3, [.ref aR, .int vn])), (aR, .inl (cy 0, 9, .inl fN))] H := hP
    have hD : va_D A [(aM, .inr (2, [.ref aF, .ref aL, .ref aX, .ref aC, .int vSz, .int x4, .int vFo, .ref aN, .int vMv])), (aF, .inl (cy 0, 512, .inl f2)), (aL, .inl (cy 0, 512, .inl f3)), (aX, .inl (cy 0, 81, .inl fX)), (aC, .inl (cy 0, 81, .inl fC)), (aN, .inr (3, [.ref aR, .int vn])), (aR, .inl (cy 0, 9, .inl fN))] := hD
    rw [← hQe]
    exact W.vret hx hb hr (fun t ht hW => ⟨⟨(x4, f2, f3), rfl, h, by dsimp only; rw [ht]; exact hP⟩, hS.F ht⟩) hS.2.2 dX5_enter_39

set_option maxHeartbeats 4000000 in
set_option maxRecDepth 100000 in
theorem ct_X5_offer_M (l : Launch) (G : va_G) (cy : Nat → ClassId) (aM aF aL aX aC aN aR : Nat) (sz : Nat) (vSz : Int32) (vTl : Int32) (vFo : Int32) (vMv : Int32) (fF : Nat → Int32) (fL : Nat → Int32) (fX : Nat → Int32) (fC : Nat → Int32) (vn : Int32) (fN : Nat → Int32) (p1 : Int32) (p2 : Int32) (Q : Int32 → (Nat → Int32) → (Nat → Int32) → Prop) (h : wp_X5_offer_M vSz vFo fF fX fC p1 p2 Q) : Met l yX5_offer wsX5_offer rmX5_offer_M (va_Pc [.ref aM, .int p1, .int p2] (wP G cy sz [(aM, .inr (2, [.ref aF, .ref aL, .ref aX, .ref aC, .int vSz, .int vTl, .int vFo, .ref aN, .int vMv])), (aF, .inl (cy 0, 512, .inl fF)), (aL, .inl (cy 0, 512, .inl fL)), (aX, .inl (cy 0, 81, .inl fX)), (aC, .inl (cy 0, 81, .inl fC)), (aN, .inr (3, [.ref aR, .int vn])), (aR, .inl (cy 0, 9, .inl fN))])) (va_Qv (fun (u : Int32 × (Nat → Int32) × (Nat → Int32)) => Q u.1 u.2.1 u.2.2) (fun (u : Int32 × (Nat → Int32) × (Nat → Int32)) (t : State) => va_P G vwCl [(aM, .inr (2, [.ref aF, .ref aL, .ref aX, .ref aC, .int vSz, .int vTl, .int u.1, .ref aN, .int vMv])), (aF, .inl (cy 0, 512, .inl fF)), (aL, .inl (cy 0, 512, .inl fL)), (aX, .inl (cy 0, 81, .inl u.2.1)), (aC, .inl (cy 0, 81, .inl u.2.2)), (aN, .inr (3, [.ref aR, .int vn])), (aR, .inl (cy 0, 9, .inl fN))] t.heap) (va_A [(aM, .inr (2, [.ref aF, .ref aL, .ref aX, .ref aC, .int vSz, .int vTl, .int vFo, .ref aN, .int vMv])), (aF, .inl (cy 0, 512, .inl fF)), (aL, .inl (cy 0, 512, .inl fL)), (aX, .inl (cy 0, 81, .inl fX)), (aC, .inl (cy 0, 81, .inl fC)), (aN, .inr (3, [.ref aR, .int vn])), (aR, .inl (cy 0, 9, .inl fN))] sz)) 0 0 (va_A [(aM, .inr (2, [.ref aF, .ref aL, .ref aX, .ref aC, .int vSz, .int vTl, .int vFo, .ref aN, .int vMv])), (aF, .inl (cy 0, 512, .inl fF)), (aL, .inl (cy 0, 512, .inl fL)), (aX, .inl (cy 0, 81, .inl fX)), (aC, .inl (cy 0, 81, .inl fC)), (aN, .inr (3, [.ref aR, .int vn])), (aR, .inl (cy 0, 9, .inl fN))] sz) := by
  unfold wp_X5_offer_M at h
  refine Met.ofW (cc := cX5_offer) (maxL := 3) (ret := none) (by decide) rfl ?_
  intro p e s m args below meth c s₁ B hml hv
  obtain ⟨hav, hsz, hP, hK, hD0⟩ := hv
  have hx := B.exec
  have hb := B.bytes
  have hr := B.returns
  have hts := atoms_spec (ws := wsX5_offer) B.pre
  have hown : s.vm.findClass RX5 = some m.cls := findClass_of_methodNamed B.named
  have hlocks := B.notSynchronized
  subst hsz
  have hD := hD0.self (sz := s.heap.size)
  generalize hAe : va_A [(aM, .inr (2, [.ref aF, .ref aL, .ref aX, .ref aC, .int vSz, .int vTl, .int vFo, .ref aN, .int vMv])), (aF, .inl (cy 0, 512, .inl fF)), (aL, .inl (cy 0, 512, .inl fL)), (aX, .inl (cy 0, 81, .inl fX)), (aC, .inl (cy 0, 81, .inl fC)), (aN, .inr (3, [.ref aR, .int vn])), (aR, .inl (cy 0, 9, .inl fN))] s.heap.size = A at hD ⊢
  have hA : ∀ q : Nat, s.heap.size ≤ q → A q := fun q h9 => by rw [← hAe]; exact Or.inr h9
  have hS : va_S A s.heap s.heap [] := va_S.rf
  have hl := lv_entry ([.ref aM, .int p1, .int p2]) (n := 3) (Nat.le_of_ble_eq_true rfl)
  rw [show entryFrame m args 3 = entryFrame m ([.ref aM, .int p1, .int p2] : List Value).toArray 3 by rw [hav], lg_entry_eq]
  generalize (lg_sl ([.ref aM, .int p1, .int p2]) ++ List.replicate (3 - (lg_sl ([.ref aM, .int p1, .int p2])).length) Slot.unset).toArray = ls at hl ⊢
  have hl : lv_has ls 3 [(0, .ref aM), (1, .int p1), (2, .int p2)] := hl
  generalize hQe : MQ below _ _ _ _ _ _ = QM
  have hP : va_P G vwCl [(aM, .inr (2, [.ref aF, .ref aL, .ref aX, .ref aC, .int vSz, .int vTl, .int vFo, .ref aN, .int vMv])), (aF, .inl (cy 0, 512, .inl fF)), (aL, .inl (cy 0, 512, .inl fL)), (aX, .inl (cy 0, 81, .inl fX)), (aC, .inl (cy 0, 81, .inl fC)), (aN, .inr (3, [.ref aR, .int vn])), (aR, .inl (cy 0, 9, .inl fN))] s.heap := hP
  have iwX2 : ∀ w ∈ wsX20, w ∈ wsX5_offer := by decide +kernel
  have fl21 := hts (.fieldLink RX5 21 "SlidTokens$Search" "far" "[I") (by decide +kernel)
  have fl18 := hts (.fieldLink RX5 18 "SlidTokens$Search" "found" "I") (by decide +kernel)
  have fl28 := hts (.fieldLink RX5 28 "SlidTokens$Search" "next" "[I") (by decide +kernel)
  have fl31 := hts (.fieldLink RX5 31 "SlidTokens$Search" "cost" "[I") (by decide +kernel)
  suffices K9 : ∀ (H : Heap) (locs : List Loc), va_P G vwCl [(aM, .inr (2, [.ref aF, .ref aL, .ref aX, .ref aC, .int vSz, .int vTl, .int vFo, .ref aN, .int vMv])), (aF, .inl (cy 0, 512, .inl fF)), (aL, .inl (cy 0, 512, .inl fL)), (aX, .inl (cy 0, 81, .inl fX)), (aC, .inl (cy 0, 81, .inl fC)), (aN, .inr (3, [.ref aR, .int vn])), (aR, .inl (cy 0, 9, .inl fN))] H → va_D A [(aM, .inr (2, [.ref aF, .ref aL, .ref aX, .ref aC, .int vSz, .int vTl, .int vFo, .ref aN, .int vMv])), (aF, .inl (cy 0, 512, .inl fF)), (aL, .inl (cy 0, 512, .inl fL)), (aX, .inl (cy 0, 81, .inl fX)), (aC, .inl (cy 0, 81, .inl fC)), (aN, .inr (3, [.ref aR, .int vn])), (aR, .inl (cy 0, 9, .inl fN))] → va_S A s.heap H locs → W p l e (headSpec wsX5_offer rmX5_offer_M).room s m args below meth c H locs 0 0 QM (F0 m 0 ls []) from K9 _ _ hP hD hS
  clear hP hD hS
  intro H locs hP hD hS
  refine lv_aload_n hx hb dX5_offer_0 rfl (lv_at hl 0 rfl) ?_
  refine lv_iload_n hx hb dX5_offer_1 rfl (lv_at hl 1 rfl) ?_
  obtain ⟨Q1, hw9, h⟩ := h
  have hPc : va_P G vwCl [(aM, .inr (2, [.ref aF, .ref aL, .ref aX, .ref aC, .int vSz, .int vTl, .int vFo, .ref aN, .int vMv])), (aF, .inl (cy 0, 512, .inl fF)), (aL, .inl (cy 0, 512, .inl fL)), (aX, .inl (cy 0, 81, .inl fX)), (aC, .inl (cy 0, 81, .inl fC)), (aN, .inr (3, [.ref aR, .int vn])), (aR, .inl (cy 0, 9, .inl fN))] H := hP.sub [0, 1, 2, 3, 4, 5, 6] rfl
  refine vp_callSi (va_Run.run (va_runU (As := [.int p1]) (rest := []) ⟨hx, hb, hml, hown, hts⟩ (ct_X5_isState_M l G cy aM aF aL aX aC aN aR vSz vTl vFo vMv fF fL fX fC vn fN p1 Q1 hw9) (va_cwU 1 hts gX5_offer_X5_isState_u34X2 rfl rfl rfl rfl (by decide +kernel) ⟨Nat.le_of_ble_eq_true rfl, Nat.le_of_ble_eq_true rfl⟩) (rP_V hK hP (ci := 2) (q0 := 0) rfl rfl hPc) rfl rfl hl.1 rfl (lv_room (Nat.le_of_ble_eq_true rfl)) dX5_offer_2 ⟨Nat.le_of_ble_eq_true rfl, Nat.le_of_ble_eq_true rfl⟩)) (fun r2 er2 => ?_)
  specialize h r2 er2
  refine lv_if_eq (tgt := 61) hx hb dX5_offer_5 (by decide) (fun c3 => ?_) (fun c3 => ?_)
  · obtain ⟨h, -⟩ := h
    specialize h c3
    rw [← hQe]
    exact W.vret hx hb hr (fun t ht hW => ⟨⟨(vFo, fX, fC), rfl, h, by dsimp only; rw [ht]; exact hP⟩, hS.F ht⟩) hS.2.2 dX5_offer_61
  · obtain ⟨-, h⟩ := h
    specialize h c3
    refine lv_aload_n hx hb dX5_offer_8 rfl (lv_at hl 0 rfl) ?_
    refine va_get (D := G) (ci := 2) (v := .ref aF) (C := RX2) (T := TX2) (N := 9) hx hb hts iwX2 hown hK.1 hP 0 rfl rfl 0 (by decide) fl21 (fun _ h9 => h9) rfl dX5_offer_9 ?_
    refine lv_iload_n hx hb dX5_offer_12 rfl (lv_at hl 1 rfl) ?_
    obtain ⟨hi, h⟩ := h
    refine va_iald hx hb hK.1 hP 1 0 rfl rfl hi dX5_offer_13 ?_
    refine lv_bipush (v := (-2)) hx hb dX5_offer_14 (by decide) ?_
    refine lv_icmp_eq (tgt := 61) hx hb dX5_offer_16 (by decide) (fun c4 => ?_) (fun c4 => ?_)
    · obtain ⟨h, -⟩ := h
      specialize h c4
      rw [← hQe]
      exact W.vret hx hb hr (fun t ht hW => ⟨⟨(vFo, fX, fC), rfl, h, by dsimp only; rw [ht]; exact hP⟩, hS.F ht⟩) hS.2.2 dX5_offer_61
    · obtain ⟨-, h⟩ := h
      specialize h c4
      refine lv_aload_n hx hb dX5_offer_19 rfl (lv_at hl 0 rfl) ?_
      refine va_get (D := G) (ci := 2) (v := .int vFo) (C := RX2) (T := TX2) (N := 9) hx hb hts iwX2 hown hK.1 hP 0 rfl rfl 6 (by decide) fl18 (fun _ h9 => h9) rfl dX5_offer_20 ?_
      refine lv_aload_n hx hb dX5_offer_23 rfl (lv_at hl 0 rfl) ?_
      refine va_get (D := G) (ci := 2) (v := .ref aX) (C := RX2) (T := TX2) (N := 9) hx hb hts iwX2 hown hK.1 hP 0 rfl rfl 2 (by decide) fl28 (fun _ h9 => h9) rfl dX5_offer_24 ?_
      refine va_alen hx hb hK.1 hP 3 0 rfl rfl (v := 81) rfl dX5_offer_27 ?_
      refine lv_icmp_ge (tgt := 61) hx hb dX5_offer_28 (by decide) (fun c5 => ?_) (fun c5 => ?_)
      · obtain ⟨h, -⟩ := h
        specialize h c5
        rw [← hQe]
        exact W.vret hx hb hr (fun t ht hW => ⟨⟨(vFo, fX, fC), rfl, h, by dsimp only; rw [ht]; exact hP⟩, hS.F ht⟩) hS.2.2 dX5_offer_61
      · obtain ⟨-, h⟩ := h
        specialize h c5
        refine lv_aload_n hx hb dX5_offer_31 rfl (lv_at hl 0 rfl) ?_
        refine va_get (D := G) (ci := 2) (v := .ref aX) (C := RX2) (T := TX2) (N := 9) hx hb hts iwX2 hown hK.1 hP 0 rfl rfl 2 (by decide) fl28 (fun _ h9 => h9) rfl dX5_offer_32 ?_
        refine lv_aload_n hx hb dX5_offer_35 rfl (lv_at hl 0 rfl) ?_
        refine va_get (D := G) (ci := 2) (v := .int vFo) (C := RX2) (T := TX2) (N := 9) hx hb hts iwX2 hown hK.1 hP 0 rfl rfl 6 (by decide) fl18 (fun _ h9 => h9) rfl dX5_offer_36 ?_
        refine lv_iload_n hx hb dX5_offer_39 rfl (lv_at hl 1 rfl) ?_
        obtain ⟨hi, h⟩ := h
        refine va_iast hx hb hK.1 hP hD hS 3 0 rfl rfl hi dX5_offer_40 (fun H locs hP hD hS => ?_)
        obtain ⟨f6, ef6⟩ : ∃ z9 : Nat → Int32, z9 = upd fX (vFo : Int32).toNatClampNeg p1 := ⟨_, rfl⟩
        specialize h f6 ef6
        have hP : va_P G vwCl [(aM, .inr (2, [.ref aF, .ref aL, .ref aX, .ref aC, .int vSz, .int vTl, .int vFo, .ref aN, .int vMv])), (aF, .inl (cy 0, 512, .inl fF)), (aL, .inl (cy 0, 512, .inl fL)), (aX, .inl (cy 0, 81, .inl f6)), (aC, .inl (cy 0, 81, .inl fC)), (aN, .inr (3, [.ref aR, .int vn])), (aR, .inl (cy 0, 9, .inl fN))] H := by rw [ef6]; exact hP
        have hD : va_D A [(aM, .inr (2, [.ref aF, .ref aL, .ref aX, .ref aC, .int vSz, .int vTl, .int vFo, .ref aN, .int vMv])), (aF, .inl (cy 0, 512, .inl fF)), (aL, .inl (cy 0, 512, .inl fL)), (aX, .inl (cy 0, 81, .inl f6)), (aC, .inl (cy 0, 81, .inl fC)), (aN, .inr (3, [.ref aR, .int vn])), (aR, .inl (cy 0, 9, .inl fN))] := D_same hD rfl
        refine lv_aload_n hx hb dX5_offer_41 rfl (lv_at hl 0 rfl) ?_
        refine va_get (D := G) (ci := 2) (v := .ref aC) (C := RX2) (T := TX2) (N := 9) hx hb hts iwX2 hown hK.1 hP 0 rfl rfl 3 (by decide) fl31 (fun _ h9 => h9) rfl dX5_offer_42 ?_
        refine lv_aload_n hx hb dX5_offer_45 rfl (lv_at hl 0 rfl) ?_
        refine va_get (D := G) (ci := 2) (v := .int vFo) (C := RX2) (T := TX2) (N := 9) hx hb hts iwX2 hown hK.1 hP 0 rfl rfl 6 (by decide) fl18 (fun _ h9 => h9) rfl dX5_offer_46 ?_
        refine lv_iload_n hx hb dX5_offer_49 rfl (lv_at hl 2 rfl) ?_
        obtain ⟨hi, h⟩ := h
        refine va_iast hx hb hK.1 hP hD hS 4 0 rfl rfl hi dX5_offer_50 (fun H locs hP hD hS => ?_)
        obtain ⟨f7, ef7⟩ : ∃ z9 : Nat → Int32, z9 = upd fC (vFo : Int32).toNatClampNeg p2 := ⟨_, rfl⟩
        specialize h f7 ef7
        have hP : va_P G vwCl [(aM, .inr (2, [.ref aF, .ref aL, .ref aX, .ref aC, .int vSz, .int vTl, .int vFo, .ref aN, .int vMv])), (aF, .inl (cy 0, 512, .inl fF)), (aL, .inl (cy 0, 512, .inl fL)), (aX, .inl (cy 0, 81, .inl f6)), (aC, .inl (cy 0, 81, .inl f7)), (aN, .inr (3, [.ref aR, .int vn])), (aR, .inl (cy 0, 9, .inl fN))] H := by rw [ef7]; exact hP
        have hD : va_D A [(aM, .inr (2, [.ref aF, .ref aL, .ref aX, .ref aC, .int vSz, .int vTl, .int vFo, .ref aN, .int vMv])), (aF, .inl (cy 0, 512, .inl fF)), (aL, .inl (cy 0, 512, .inl fL)), (aX, .inl (cy 0, 81, .inl f6)), (aC, .inl (cy 0, 81, .inl f7)), (aN, .inr (3, [.ref aR, .int vn])), (aR, .inl (cy 0, 9, .inl fN))] := D_same hD rfl
        refine lv_aload_n hx hb dX5_offer_51 rfl (lv_at hl 0 rfl) ?_
        refine lv_dup hx hb dX5_offer_52 rfl ?_
        refine va_get (D := G) (ci := 2) (v := .int vFo) (C := RX2) (T := TX2) (N := 9) hx hb hts iwX2 hown hK.1 hP 0 rfl rfl 6 (by decide) fl18 (fun _ h9 => h9) rfl dX5_offer_53 ?_
        refine lv_iconst (v := 1) hx hb dX5_offer_56 (by decide) ?_
        refine lv_iadd hx hb dX5_offer_57 ?_
        refine lv_topi (fun x8 ex8 => ?_)
        specialize h x8 ex8
        refine va_put (D := G) (ci := 2) (v := .int x8) (ty := .int) (C := RX2) (T := TX2) (N := 9) hx hb hts iwX2 tyX2 tyX2_ok nmX2 hown hK.1 hP hD hS 0 rfl rfl 6 (by decide) fl18 (fun _ h9 => h9) rfl (by decide +kernel) rfl rfl (Nat.le_of_ble_eq_true rfl) dX5_offer_58 (fun H locs hP hD hS => ?_)
        have hP : va_P G vwCl [(aM, .inr (2, [.ref aF, .ref aL, .ref aX, .ref aC, .int vSz, .int vTl, .int x8, .ref aN, .int vMv])), (aF, .inl (cy 0, 512, .inl fF)), (aL, .inl (cy 0, 512, .inl fL)), (aX, .inl (cy 0, 81, .inl f6)), (aC, .inl (cy 0, 81, .inl f7)), (aN, .inr (3, [.ref aR, .int vn])), (aR, .inl (cy 0, 9, .inl fN))] H := hP
        have hD : va_D A [(aM, .inr (2, [.ref aF, .ref aL, .ref aX, .ref aC, .int vSz, .int vTl, .int x8, .ref aN, .int vMv])), (aF, .inl (cy 0, 512, .inl fF)), (aL, .inl (cy 0, 512, .inl fL)), (aX, .inl (cy 0, 81, .inl f6)), (aC, .inl (cy 0, 81, .inl f7)), (aN, .inr (3, [.ref aR, .int vn])), (aR, .inl (cy 0, 9, .inl fN))] := hD
        rw [← hQe]
        exact W.vret hx hb hr (fun t ht hW => ⟨⟨(x8, f6, f7), rfl, h, by dsimp only; rw [ht]; exact hP⟩, hS.F ht⟩) hS.2.2 dX5_offer_61

set_option maxHeartbeats 4000000 in
set_option maxRecDepth 100000 in
theorem ct_X2_gatherSwaps (l : Launch) (G : va_G) (cy : Nat → ClassId) (aM aF aL aX aC aN aR : Nat) (sz : Nat) (vSz : Int32) (vTl : Int32) (vFo : Int32) (vMv : Int32) (fF : Nat → Int32) (fL : Nat → Int32) (fX : Nat → Int32) (fC : Nat → Int32) (vn : Int32) (fN : Nat → Int32) (p1 : Int32) (p2 : Int32) (Q : Int32 → (Nat → Int32) → (Nat → Int32) → Prop) (h : wp_X2_gatherSwaps vSz vFo vMv fF fX fC vn fN p1 p2 Q) : Met l yX2_gatherSwaps wsX2_gatherSwaps rmX2_gatherSwaps (va_Pc [.ref aM, .int p1, .int p2] (wP G cy sz [(aM, .inr (2, [.ref aF, .ref aL, .ref aX, .ref aC, .int vSz, .int vTl, .int vFo, .ref aN, .int vMv])), (aF, .inl (cy 0, 512, .inl fF)), (aL, .inl (cy 0, 512, .inl fL)), (aX, .inl (cy 0, 81, .inl fX)), (aC, .inl (cy 0, 81, .inl fC)), (aN, .inr (3, [.ref aR, .int vn])), (aR, .inl (cy 0, 9, .inl fN))])) (va_Qv (fun (u : Int32 × (Nat → Int32) × (Nat → Int32)) => Q u.1 u.2.1 u.2.2) (fun (u : Int32 × (Nat → Int32) × (Nat → Int32)) (t : State) => va_P G vwCl [(aM, .inr (2, [.ref aF, .ref aL, .ref aX, .ref aC, .int vSz, .int vTl, .int u.1, .ref aN, .int vMv])), (aF, .inl (cy 0, 512, .inl fF)), (aL, .inl (cy 0, 512, .inl fL)), (aX, .inl (cy 0, 81, .inl u.2.1)), (aC, .inl (cy 0, 81, .inl u.2.2)), (aN, .inr (3, [.ref aR, .int vn])), (aR, .inl (cy 0, 9, .inl fN))] t.heap) (va_A [(aM, .inr (2, [.ref aF, .ref aL, .ref aX, .ref aC, .int vSz, .int vTl, .int vFo, .ref aN, .int vMv])), (aF, .inl (cy 0, 512, .inl fF)), (aL, .inl (cy 0, 512, .inl fL)), (aX, .inl (cy 0, 81, .inl fX)), (aC, .inl (cy 0, 81, .inl fC)), (aN, .inr (3, [.ref aR, .int vn])), (aR, .inl (cy 0, 9, .inl fN))] sz)) 0 0 (va_A [(aM, .inr (2, [.ref aF, .ref aL, .ref aX, .ref aC, .int vSz, .int vTl, .int vFo, .ref aN, .int vMv])), (aF, .inl (cy 0, 512, .inl fF)), (aL, .inl (cy 0, 512, .inl fL)), (aX, .inl (cy 0, 81, .inl fX)), (aC, .inl (cy 0, 81, .inl fC)), (aN, .inr (3, [.ref aR, .int vn])), (aR, .inl (cy 0, 9, .inl fN))] sz) := by
  unfold wp_X2_gatherSwaps at h
  refine Met.ofW (cc := cX2_gatherSwaps) (maxL := 7) (ret := none) (by decide) rfl ?_
  intro p e s m args below meth c s₁ B hml hv
  obtain ⟨hav, hsz, hP, hK, hD0⟩ := hv
  have hx := B.exec
  have hb := B.bytes
  have hr := B.returns
  have hts := atoms_spec (ws := wsX2_gatherSwaps) B.pre
  have hown : s.vm.findClass RX2 = some m.cls := findClass_of_methodNamed B.named
  have hlocks := B.notSynchronized
  subst hsz
  have hD := hD0.self (sz := s.heap.size)
  generalize hAe : va_A [(aM, .inr (2, [.ref aF, .ref aL, .ref aX, .ref aC, .int vSz, .int vTl, .int vFo, .ref aN, .int vMv])), (aF, .inl (cy 0, 512, .inl fF)), (aL, .inl (cy 0, 512, .inl fL)), (aX, .inl (cy 0, 81, .inl fX)), (aC, .inl (cy 0, 81, .inl fC)), (aN, .inr (3, [.ref aR, .int vn])), (aR, .inl (cy 0, 9, .inl fN))] s.heap.size = A at hD ⊢
  have hA : ∀ q : Nat, s.heap.size ≤ q → A q := fun q h9 => by rw [← hAe]; exact Or.inr h9
  have hS : va_S A s.heap s.heap [] := va_S.rf
  have hl := lv_entry ([.ref aM, .int p1, .int p2]) (n := 7) (Nat.le_of_ble_eq_true rfl)
  rw [show entryFrame m args 7 = entryFrame m ([.ref aM, .int p1, .int p2] : List Value).toArray 7 by rw [hav], lg_entry_eq]
  generalize (lg_sl ([.ref aM, .int p1, .int p2]) ++ List.replicate (7 - (lg_sl ([.ref aM, .int p1, .int p2])).length) Slot.unset).toArray = ls at hl ⊢
  have hl : lv_has ls 7 [(0, .ref aM), (1, .int p1), (2, .int p2)] := hl
  generalize hQe : MQ below _ _ _ _ _ _ = QM
  have hP : va_P G vwCl [(aM, .inr (2, [.ref aF, .ref aL, .ref aX, .ref aC, .int vSz, .int vTl, .int vFo, .ref aN, .int vMv])), (aF, .inl (cy 0, 512, .inl fF)), (aL, .inl (cy 0, 512, .inl fL)), (aX, .inl (cy 0, 81, .inl fX)), (aC, .inl (cy 0, 81, .inl fC)), (aN, .inr (3, [.ref aR, .int vn])), (aR, .inl (cy 0, 9, .inl fN))] s.heap := hP
  have iwX2 : ∀ w ∈ wsX20, w ∈ wsX2_gatherSwaps := by decide +kernel
  have fl15 := hts (.fieldLink RX2 15 "SlidTokens$Marks" "net" "LSlidTokens$Net;") (by decide +kernel)
  have iwX3 : ∀ w ∈ wsX30, w ∈ wsX2_gatherSwaps := by decide +kernel
  have fl61 := hts (.fieldLink RX2 61 "SlidTokens$Net" "near" "[I") (by decide +kernel)
  have fl9 := hts (.fieldLink RX2 9 "SlidTokens$Marks" "moves" "I") (by decide +kernel)
  have fl52 := hts (.fieldLink RX2 52 "SlidTokens$Net" "nodes" "I") (by decide +kernel)
  suffices K9 : ∀ (H : Heap) (locs : List Loc), va_P G vwCl [(aM, .inr (2, [.ref aF, .ref aL, .ref aX, .ref aC, .int vSz, .int vTl, .int vFo, .ref aN, .int vMv])), (aF, .inl (cy 0, 512, .inl fF)), (aL, .inl (cy 0, 512, .inl fL)), (aX, .inl (cy 0, 81, .inl fX)), (aC, .inl (cy 0, 81, .inl fC)), (aN, .inr (3, [.ref aR, .int vn])), (aR, .inl (cy 0, 9, .inl fN))] H → va_D A [(aM, .inr (2, [.ref aF, .ref aL, .ref aX, .ref aC, .int vSz, .int vTl, .int vFo, .ref aN, .int vMv])), (aF, .inl (cy 0, 512, .inl fF)), (aL, .inl (cy 0, 512, .inl fL)), (aX, .inl (cy 0, 81, .inl fX)), (aC, .inl (cy 0, 81, .inl fC)), (aN, .inr (3, [.ref aR, .int vn])), (aR, .inl (cy 0, 9, .inl fN))] → va_S A s.heap H locs → W p l e (headSpec wsX2_gatherSwaps rmX2_gatherSwaps).room s m args below meth c H locs 0 0 QM (F0 m 0 ls []) from K9 _ _ hP hD hS
  clear hP hD hS
  intro H locs hP hD hS
  refine lv_iload_n hx hb dX2_gatherSwaps_0 rfl (lv_at hl 1 rfl) ?_
  refine lv_iconst (v := 1) hx hb dX2_gatherSwaps_1 (by decide) ?_
  refine lv_iload_n hx hb dX2_gatherSwaps_2 rfl (lv_at hl 2 rfl) ?_
  refine lv_ishl hx hb dX2_gatherSwaps_3 ?_
  refine lv_ixor hx hb dX2_gatherSwaps_4 ?_
  refine lv_topi (fun x1 ex1 => ?_)
  specialize h x1 ex1
  refine lv_istore_n (lv' := [(3, .int x1), (0, .ref aM), (1, .int p1), (2, .int p2)]) hx hb dX2_gatherSwaps_5 rfl hl (by decide) rfl (fun ls hl => ?_)
  refine lv_aload_n hx hb dX2_gatherSwaps_6 rfl (lv_at hl 1 rfl) ?_
  refine va_get (D := G) (ci := 2) (v := .ref aN) (C := RX2) (T := TX2) (N := 9) hx hb hts iwX2 hown hK.1 hP 0 rfl rfl 7 (by decide) fl15 (fun _ h9 => h9) rfl dX2_gatherSwaps_7 ?_
  refine va_get (D := G) (ci := 3) (v := .ref aR) (C := RX3) (T := TX3) (N := 2) hx hb hts iwX3 hown hK.1 hP 5 rfl rfl 0 (by decide) fl61 (fun _ h9 => h9) rfl dX2_gatherSwaps_10 ?_
  refine lv_iload_n hx hb dX2_gatherSwaps_13 rfl (lv_at hl 3 rfl) ?_
  obtain ⟨hi, h⟩ := h
  refine va_iald hx hb hK.1 hP 6 0 rfl rfl hi dX2_gatherSwaps_14 ?_
  refine lv_topi (fun x2 ex2 => ?_)
  specialize h x2 ex2
  refine lv_istore (lv' := [(4, .int x2), (3, .int x1), (0, .ref aM), (1, .int p1), (2, .int p2)]) hx hb dX2_gatherSwaps_15 hl (by decide) rfl (fun ls hl => ?_)
  refine lv_aload_n hx hb dX2_gatherSwaps_17 rfl (lv_at hl 2 rfl) ?_
  refine va_get (D := G) (ci := 2) (v := .int vMv) (C := RX2) (T := TX2) (N := 9) hx hb hts iwX2 hown hK.1 hP 0 rfl rfl 8 (by decide) fl9 (fun _ h9 => h9) rfl dX2_gatherSwaps_18 ?_
  obtain ⟨J44_3, h, hJ44⟩ := h
  have jn44 : ∀ (t3 : Int32), J44_3 t3 → ∀ (H : Heap) (locs : List Loc), va_P G vwCl [(aM, .inr (2, [.ref aF, .ref aL, .ref aX, .ref aC, .int vSz, .int vTl, .int vFo, .ref aN, .int vMv])), (aF, .inl (cy 0, 512, .inl fF)), (aL, .inl (cy 0, 512, .inl fL)), (aX, .inl (cy 0, 81, .inl fX)), (aC, .inl (cy 0, 81, .inl fC)), (aN, .inr (3, [.ref aR, .int vn])), (aR, .inl (cy 0, 9, .inl fN))] H → va_D A [(aM, .inr (2, [.ref aF, .ref aL, .ref aX, .ref aC, .int vSz, .int vTl, .int vFo, .ref aN, .int vMv])), (aF, .inl (cy 0, 512, .inl fF)), (aL, .inl (cy 0, 512, .inl fL)), (aX, .inl (cy 0, 81, .inl fX)), (aC, .inl (cy 0, 81, .inl fC)), (aN, .inr (3, [.ref aR, .int vn])), (aR, .inl (cy 0, 9, .inl fN))] → va_S A s.heap H locs → ∀ (ls : Array Slot), lv_has ls 7 [(0, .ref aM), (3, .int x1), (4, .int x2)] → W p l e (headSpec wsX2_gatherSwaps rmX2_gatherSwaps).room s m args below meth c H locs 0 0 QM (F0 m 44 ls [.int t3]) := by
    intro t3 hj9 H locs hP hD hS ls hl
    have h := hJ44 t3 hj9
    refine lv_istore (lv' := [(5, .int t3), (0, .ref aM), (3, .int x1), (4, .int x2)]) hx hb dX2_gatherSwaps_44 hl (by decide) rfl (fun ls hl => ?_)
    refine lv_iconst (v := 0) hx hb dX2_gatherSwaps_46 (by decide) ?_
    refine lv_istore (lv' := [(6, .int 0), (5, .int t3), (0, .ref aM), (3, .int x1), (4, .int x2)]) hx hb dX2_gatherSwaps_47 hl (by decide) rfl (fun ls hl => ?_)
    obtain ⟨I49_10, u49_10, h049, hst49⟩ := h
    have key49 : ∀ (k9 : Nat) (y7 : Int32) (z8 : Int32) (f9 : Nat → Int32) (f10 : Nat → Int32), I49_10 y7 z8 f9 f10 → u49_10 y7 z8 f9 f10 < k9 → ∀ (H : Heap) (locs : List Loc), va_P G vwCl [(aM, .inr (2, [.ref aF, .ref aL, .ref aX, .ref aC, .int vSz, .int vTl, .int z8, .ref aN, .int vMv])), (aF, .inl (cy 0, 512, .inl fF)), (aL, .inl (cy 0, 512, .inl fL)), (aX, .inl (cy 0, 81, .inl f9)), (aC, .inl (cy 0, 81, .inl f10)), (aN, .inr (3, [.ref aR, .int vn])), (aR, .inl (cy 0, 9, .inl fN))] H → va_D A [(aM, .inr (2, [.ref aF, .ref aL, .ref aX, .ref aC, .int vSz, .int vTl, .int z8, .ref aN, .int vMv])), (aF, .inl (cy 0, 512, .inl fF)), (aL, .inl (cy 0, 512, .inl fL)), (aX, .inl (cy 0, 81, .inl f9)), (aC, .inl (cy 0, 81, .inl f10)), (aN, .inr (3, [.ref aR, .int vn])), (aR, .inl (cy 0, 9, .inl fN))] → va_S A s.heap H locs → ∀ (ls : Array Slot), lv_has ls 7 [(0, .ref aM), (3, .int x1), (4, .int x2), (5, .int t3), (6, .int y7)] → W p l e (headSpec wsX2_gatherSwaps rmX2_gatherSwaps).room s m args below meth c H locs 0 0 QM (F0 m 49 ls []) := by
      intro k9
      induction k9 with
      | zero =>
        intro y7 z8 f9 f10 hI9 hk9
        exact absurd hk9 (Nat.not_lt_zero _)
      | succ k9 ih49 =>
        intro y7 z8 f9 f10 hI9 hk49 H locs hP hD hS ls hl
        have h := hst49 y7 z8 f9 f10 hI9
        refine lv_iload hx hb dX2_gatherSwaps_49 (lv_at hl 4 rfl) ?_
        refine lv_aload_n hx hb dX2_gatherSwaps_51 rfl (lv_at hl 0 rfl) ?_
        refine va_get (D := G) (ci := 2) (v := .ref aN) (C := RX2) (T := TX2) (N := 9) hx hb hts iwX2 hown hK.1 hP 0 rfl rfl 7 (by decide) fl15 (fun _ h9 => h9) rfl dX2_gatherSwaps_52 ?_
        refine va_get (D := G) (ci := 3) (v := .int vn) (C := RX3) (T := TX3) (N := 2) hx hb hts iwX3 hown hK.1 hP 5 rfl rfl 1 (by decide) fl52 (fun _ h9 => h9) rfl dX2_gatherSwaps_55 ?_
        refine lv_icmp_ge (tgt := 104) hx hb dX2_gatherSwaps_58 (by decide) (fun c11 => ?_) (fun c11 => ?_)
        · obtain ⟨h, -⟩ := h
          specialize h c11
          rw [← hQe]
          exact W.vret hx hb hr (fun t ht hW => ⟨⟨(z8, f9, f10), rfl, h, by dsimp only; rw [ht]; exact hP⟩, hS.F ht⟩) hS.2.2 dX2_gatherSwaps_104
        · obtain ⟨-, h⟩ := h
          specialize h c11
          refine lv_iload hx hb dX2_gatherSwaps_61 (lv_at hl 3 rfl) ?_
          refine lv_iload hx hb dX2_gatherSwaps_63 (lv_at hl 4 rfl) ?_
          refine lv_ishr hx hb dX2_gatherSwaps_65 ?_
          refine lv_iconst (v := 1) hx hb dX2_gatherSwaps_66 (by decide) ?_
          refine lv_iand hx hb dX2_gatherSwaps_67 ?_
          refine lv_iconst (v := 1) hx hb dX2_gatherSwaps_68 (by decide) ?_
          refine lv_icmp_ne (tgt := 98) hx hb dX2_gatherSwaps_69 (by decide) (fun c12 => ?_) (fun c12 => ?_)
          · obtain ⟨-, h⟩ := h
            specialize h c12
            obtain ⟨x13, ex13⟩ : ∃ y : Int32, y = y7 + 1 := ⟨_, rfl⟩
            specialize h x13 ex13
            refine lv_iinc (v := x13) (lv' := [(6, .int x13), (0, .ref aM), (3, .int x1), (4, .int x2), (5, .int t3)]) hx hb dX2_gatherSwaps_98 hl (k := 4) rfl (by rw [ex13]; rfl) (by decide) rfl (fun ls hl => ?_)
            refine lv_goto (tgt := 49) hx hb dX2_gatherSwaps_101 (by decide) ?_
            exact ih49 x13 z8 f9 f10 h.1 (Nat.lt_of_lt_of_le h.2 (Nat.le_of_lt_succ hk49)) _ _ hP hD hS _ (lv_sub hl [1, 2, 3, 4, 0] rfl)
          · obtain ⟨h, -⟩ := h
            specialize h c12
            refine lv_aload_n hx hb dX2_gatherSwaps_72 rfl (lv_at hl 0 rfl) ?_
            refine lv_iload_n hx hb dX2_gatherSwaps_73 rfl (lv_at hl 1 rfl) ?_
            refine lv_iconst (v := 1) hx hb dX2_gatherSwaps_74 (by decide) ?_
            refine lv_iload hx hb dX2_gatherSwaps_75 (lv_at hl 4 rfl) ?_
            refine lv_ishl hx hb dX2_gatherSwaps_77 ?_
            refine lv_ior hx hb dX2_gatherSwaps_78 ?_
            refine lv_iload hx hb dX2_gatherSwaps_79 (lv_at hl 2 rfl) ?_
            refine lv_iload hx hb dX2_gatherSwaps_81 (lv_at hl 4 rfl) ?_
            refine lv_ishr hx hb dX2_gatherSwaps_83 ?_
            refine lv_iconst (v := 1) hx hb dX2_gatherSwaps_84 (by decide) ?_
            refine lv_iand hx hb dX2_gatherSwaps_85 ?_
            refine lv_iconst (v := 1) hx hb dX2_gatherSwaps_86 (by decide) ?_
            refine lv_icmp_ne (tgt := 94) hx hb dX2_gatherSwaps_87 (by decide) (fun c14 => ?_) (fun c14 => ?_)
            · obtain ⟨-, h⟩ := h
              specialize h c14
              refine lv_iconst (v := 2) hx hb dX2_gatherSwaps_94 (by decide) ?_
              obtain ⟨Q15, hw9, h⟩ := h
              have hPc : va_P G vwCl [(aM, .inr (2, [.ref aF, .ref aL, .ref aX, .ref aC, .int vSz, .int vTl, .int z8, .ref aN, .int vMv])), (aF, .inl (cy 0, 512, .inl fF)), (aL, .inl (cy 0, 512, .inl fL)), (aX, .inl (cy 0, 81, .inl f9)), (aC, .inl (cy 0, 81, .inl f10)), (aN, .inr (3, [.ref aR, .int vn])), (aR, .inl (cy 0, 9, .inl fN))] H := hP.sub [0, 1, 2, 3, 4, 5, 6] rfl
              have hDc : va_D A [(aM, .inr (2, [.ref aF, .ref aL, .ref aX, .ref aC, .int vSz, .int vTl, .int z8, .ref aN, .int vMv])), (aF, .inl (cy 0, 512, .inl fF)), (aL, .inl (cy 0, 512, .inl fL)), (aX, .inl (cy 0, 81, .inl f9)), (aC, .inl (cy 0, 81, .inl f10)), (aN, .inr (3, [.ref aR, .int vn])), (aR, .inl (cy 0, 9, .inl fN))] := hD.sub [0, 1, 2, 3, 4, 5, 6] (by decide) rfl
              have hFc := va_free (wc := [(aM, .inr (2, [.ref aF, .ref aL, .ref aX, .ref aC, .int vSz, .int vTl, .int z8, .ref aN, .int vMv])), (aF, .inl (cy 0, 512, .inl fF)), (aL, .inl (cy 0, 512, .inl fL)), (aX, .inl (cy 0, 81, .inl f9)), (aC, .inl (cy 0, 81, .inl f10)), (aN, .inr (3, [.ref aR, .int vn])), (aR, .inl (cy 0, 9, .inl fN))]) hD hS hA [0, 1, 2, 3, 4, 5, 6] rfl
              refine va_callv (va_runU (As := [.int (x1 ||| ((1 : Int32) <<< (y7 &&& 31))), .int 2]) (rest := []) ⟨hx, hb, hml, hown, hts⟩ (ct_X5_offer_M l G cy aM aF aL aX aC aN aR H.size vSz vTl z8 vMv fF fL f9 f10 vn fN (x1 ||| ((1 : Int32) <<< (y7 &&& 31))) 2 Q15 hw9) (va_cwU 2 hts gX2_gatherSwaps_X5_offer_u58X2 rfl rfl rfl rfl (by decide +kernel) ⟨Nat.le_of_ble_eq_true rfl, Nat.le_of_ble_eq_true rfl⟩) (wP_V hK hP (ci := 2) (q0 := 0) rfl rfl hPc hDc) rfl rfl hl.1 rfl (lv_room (Nat.le_of_ble_eq_true rfl)) dX2_gatherSwaps_95 ⟨Nat.le_of_ble_eq_true rfl, Nat.le_of_ble_eq_true rfl⟩) hS (fun q9 _ h9 => hFc q9 h9) hFc (fun u9 t9 H locs ht9 hvm9 hw9 hB9 hz9 hk9 hS => ?_)
              obtain ⟨z17, f18, f19⟩ := u9
              have hP : va_P G vwCl [(aM, .inr (2, [.ref aF, .ref aL, .ref aX, .ref aC, .int vSz, .int vTl, .int z17, .ref aN, .int vMv])), (aF, .inl (cy 0, 512, .inl fF)), (aL, .inl (cy 0, 512, .inl fL)), (aX, .inl (cy 0, 81, .inl f18)), (aC, .inl (cy 0, 81, .inl f19)), (aN, .inr (3, [.ref aR, .int vn])), (aR, .inl (cy 0, 9, .inl fN))] H := P_back [0, 1, 2, 3, 4, 5, 6] [] 7 hP hD rfl rfl rfl rfl (by decide) (by decide) hk9 (by rw [← ht9]; exact hB9)
              have hD : va_D A [(aM, .inr (2, [.ref aF, .ref aL, .ref aX, .ref aC, .int vSz, .int vTl, .int z17, .ref aN, .int vMv])), (aF, .inl (cy 0, 512, .inl fF)), (aL, .inl (cy 0, 512, .inl fL)), (aX, .inl (cy 0, 81, .inl f18)), (aC, .inl (cy 0, 81, .inl f19)), (aN, .inr (3, [.ref aR, .int vn])), (aR, .inl (cy 0, 9, .inl fN))] := D_same hD rfl
              specialize h z17 f18 f19 hw9
              obtain ⟨x20, ex20⟩ : ∃ y : Int32, y = y7 + 1 := ⟨_, rfl⟩
              specialize h x20 ex20
              refine lv_iinc (v := x20) (lv' := [(6, .int x20), (0, .ref aM), (3, .int x1), (4, .int x2), (5, .int t3)]) hx hb dX2_gatherSwaps_98 hl (k := 4) rfl (by rw [ex20]; rfl) (by decide) rfl (fun ls hl => ?_)
              refine lv_goto (tgt := 49) hx hb dX2_gatherSwaps_101 (by decide) ?_
              exact ih49 x20 z17 f18 f19 h.1 (Nat.lt_of_lt_of_le h.2 (Nat.le_of_lt_succ hk49)) _ _ hP hD hS _ (lv_sub hl [1, 2, 3, 4, 0] rfl)
            · obtain ⟨h, -⟩ := h
              specialize h c14
              refine lv_iconst (v := 1) hx hb dX2_gatherSwaps_90 (by decide) ?_
              refine lv_goto (tgt := 95) hx hb dX2_gatherSwaps_91 (by decide) ?_
              obtain ⟨Q21, hw9, h⟩ := h
              have hPc : va_P G vwCl [(aM, .inr (2, [.ref aF, .ref aL, .ref aX, .ref aC, .int vSz, .int vTl, .int z8, .ref aN, .int vMv])), (aF, .inl (cy 0, 512, .inl fF)), (aL, .inl (cy 0, 512, .inl fL)), (aX, .inl (cy 0, 81, .inl f9)), (aC, .inl (cy 0, 81, .inl f10)), (aN, .inr (3, [.ref aR, .int vn])), (aR, .inl (cy 0, 9, .inl fN))] H := hP.sub [0, 1, 2, 3, 4, 5, 6] rfl
              have hDc : va_D A [(aM, .inr (2, [.ref aF, .ref aL, .ref aX, .ref aC, .int vSz, .int vTl, .int z8, .ref aN, .int vMv])), (aF, .inl (cy 0, 512, .inl fF)), (aL, .inl (cy 0, 512, .inl fL)), (aX, .inl (cy 0, 81, .inl f9)), (aC, .inl (cy 0, 81, .inl f10)), (aN, .inr (3, [.ref aR, .int vn])), (aR, .inl (cy 0, 9, .inl fN))] := hD.sub [0, 1, 2, 3, 4, 5, 6] (by decide) rfl
              have hFc := va_free (wc := [(aM, .inr (2, [.ref aF, .ref aL, .ref aX, .ref aC, .int vSz, .int vTl, .int z8, .ref aN, .int vMv])), (aF, .inl (cy 0, 512, .inl fF)), (aL, .inl (cy 0, 512, .inl fL)), (aX, .inl (cy 0, 81, .inl f9)), (aC, .inl (cy 0, 81, .inl f10)), (aN, .inr (3, [.ref aR, .int vn])), (aR, .inl (cy 0, 9, .inl fN))]) hD hS hA [0, 1, 2, 3, 4, 5, 6] rfl
              refine va_callv (va_runU (As := [.int (x1 ||| ((1 : Int32) <<< (y7 &&& 31))), .int 1]) (rest := []) ⟨hx, hb, hml, hown, hts⟩ (ct_X5_offer_M l G cy aM aF aL aX aC aN aR H.size vSz vTl z8 vMv fF fL f9 f10 vn fN (x1 ||| ((1 : Int32) <<< (y7 &&& 31))) 1 Q21 hw9) (va_cwU 2 hts gX2_gatherSwaps_X5_offer_u58X2 rfl rfl rfl rfl (by decide +kernel) ⟨Nat.le_of_ble_eq_true rfl, Nat.le_of_ble_eq_true rfl⟩) (wP_V hK hP (ci := 2) (q0 := 0) rfl rfl hPc hDc) rfl rfl hl.1 rfl (lv_room (Nat.le_of_ble_eq_true rfl)) dX2_gatherSwaps_95 ⟨Nat.le_of_ble_eq_true rfl, Nat.le_of_ble_eq_true rfl⟩) hS (fun q9 _ h9 => hFc q9 h9) hFc (fun u9 t9 H locs ht9 hvm9 hw9 hB9 hz9 hk9 hS => ?_)
              obtain ⟨z23, f24, f25⟩ := u9
              have hP : va_P G vwCl [(aM, .inr (2, [.ref aF, .ref aL, .ref aX, .ref aC, .int vSz, .int vTl, .int z23, .ref aN, .int vMv])), (aF, .inl (cy 0, 512, .inl fF)), (aL, .inl (cy 0, 512, .inl fL)), (aX, .inl (cy 0, 81, .inl f24)), (aC, .inl (cy 0, 81, .inl f25)), (aN, .inr (3, [.ref aR, .int vn])), (aR, .inl (cy 0, 9, .inl fN))] H := P_back [0, 1, 2, 3, 4, 5, 6] [] 7 hP hD rfl rfl rfl rfl (by decide) (by decide) hk9 (by rw [← ht9]; exact hB9)
              have hD : va_D A [(aM, .inr (2, [.ref aF, .ref aL, .ref aX, .ref aC, .int vSz, .int vTl, .int z23, .ref aN, .int vMv])), (aF, .inl (cy 0, 512, .inl fF)), (aL, .inl (cy 0, 512, .inl fL)), (aX, .inl (cy 0, 81, .inl f24)), (aC, .inl (cy 0, 81, .inl f25)), (aN, .inr (3, [.ref aR, .int vn])), (aR, .inl (cy 0, 9, .inl fN))] := D_same hD rfl
              specialize h z23 f24 f25 hw9
              obtain ⟨x26, ex26⟩ : ∃ y : Int32, y = y7 + 1 := ⟨_, rfl⟩
              specialize h x26 ex26
              refine lv_iinc (v := x26) (lv' := [(6, .int x26), (0, .ref aM), (3, .int x1), (4, .int x2), (5, .int t3)]) hx hb dX2_gatherSwaps_98 hl (k := 4) rfl (by rw [ex26]; rfl) (by decide) rfl (fun ls hl => ?_)
              refine lv_goto (tgt := 49) hx hb dX2_gatherSwaps_101 (by decide) ?_
              exact ih49 x26 z23 f24 f25 h.1 (Nat.lt_of_lt_of_le h.2 (Nat.le_of_lt_succ hk49)) _ _ hP hD hS _ (lv_sub hl [1, 2, 3, 4, 0] rfl)
    exact key49 _ 0 vFo fX fC h049 (Nat.lt_succ_self _) _ _ hP hD hS _ (lv_sub hl [2, 3, 4, 1, 0] rfl)
  refine lv_if_ne (tgt := 33) hx hb dX2_gatherSwaps_21 (by decide) (fun c4 => ?_) (fun c4 => ?_)
  · obtain ⟨-, h⟩ := h
    specialize h c4
    refine lv_aload_n hx hb dX2_gatherSwaps_33 rfl (lv_at hl 2 rfl) ?_
    refine va_get (D := G) (ci := 2) (v := .ref aN) (C := RX2) (T := TX2) (N := 9) hx hb hts iwX2 hown hK.1 hP 0 rfl rfl 7 (by decide) fl15 (fun _ h9 => h9) rfl dX2_gatherSwaps_34 ?_
    obtain ⟨Q5, hw9, h⟩ := h
    have hPc : va_P G vwCl [(aN, .inr (3, [.ref aR, .int vn])), (aR, .inl (cy 0, 9, .inl fN))] H := hP.sub [5, 6] rfl
    refine vp_callSi (va_Run.run (va_runV (As := []) (rest := []) ⟨hx, hb, hml, hown, hts⟩ (ct_X3_all l G cy aN aR vn fN Q5 hw9) (cwV 0 hts gX2_gatherSwaps_X3_all rfl rfl rfl (by decide +kernel) ⟨Nat.le_of_ble_eq_true rfl, Nat.le_of_ble_eq_true rfl⟩) (rP_V hK hP (ci := 3) (q0 := 5) rfl rfl hPc) rfl rfl hl.1 rfl (lv_room (Nat.le_of_ble_eq_true rfl)) dX2_gatherSwaps_37 ⟨Nat.le_of_ble_eq_true rfl, Nat.le_of_ble_eq_true rfl⟩)) (fun r6 er6 => ?_)
    specialize h r6 er6
    refine lv_iload_n hx hb dX2_gatherSwaps_40 rfl (lv_at hl 3 rfl) ?_
    refine lv_iconst (v := (-1)) hx hb dX2_gatherSwaps_41 (by decide) ?_
    refine lv_ixor hx hb dX2_gatherSwaps_42 ?_
    refine lv_iand hx hb dX2_gatherSwaps_43 ?_
    exact jn44 (r6 &&& (p1 ^^^ (-1 : Int32))) h _ _ hP hD hS _ (lv_sub hl [2, 1, 0] rfl)
  · obtain ⟨h, -⟩ := h
    specialize h c4
    refine lv_iload hx hb dX2_gatherSwaps_24 (lv_at hl 0 rfl) ?_
    refine lv_iload_n hx hb dX2_gatherSwaps_26 rfl (lv_at hl 3 rfl) ?_
    refine lv_iconst (v := (-1)) hx hb dX2_gatherSwaps_27 (by decide) ?_
    refine lv_ixor hx hb dX2_gatherSwaps_28 ?_
    refine lv_iand hx hb dX2_gatherSwaps_29 ?_
    refine lv_goto (tgt := 44) hx hb dX2_gatherSwaps_30 (by decide) ?_
    exact jn44 (x2 &&& (p1 ^^^ (-1 : Int32))) h _ _ hP hD hS _ (lv_sub hl [2, 1, 0] rfl)

set_option maxHeartbeats 4000000 in
set_option maxRecDepth 100000 in
theorem ct_X2_gather (l : Launch) (G : va_G) (cy : Nat → ClassId) (aM aF aL aX aC aN aR : Nat) (sz : Nat) (vSz : Int32) (vTl : Int32) (vFo : Int32) (vMv : Int32) (fF : Nat → Int32) (fL : Nat → Int32) (fX : Nat → Int32) (fC : Nat → Int32) (vn : Int32) (fN : Nat → Int32) (p1 : Int32) (Q : Int32 → (Nat → Int32) → (Nat → Int32) → Prop) (h : wp_X2_gather vSz vFo vMv fF fX fC vn fN p1 Q) : Met l yX2_gather wsX2_gather rmX2_gather (va_Pc [.ref aM, .int p1] (wP G cy sz [(aM, .inr (2, [.ref aF, .ref aL, .ref aX, .ref aC, .int vSz, .int vTl, .int vFo, .ref aN, .int vMv])), (aF, .inl (cy 0, 512, .inl fF)), (aL, .inl (cy 0, 512, .inl fL)), (aX, .inl (cy 0, 81, .inl fX)), (aC, .inl (cy 0, 81, .inl fC)), (aN, .inr (3, [.ref aR, .int vn])), (aR, .inl (cy 0, 9, .inl fN))])) (va_Qv (fun (u : Int32 × (Nat → Int32) × (Nat → Int32)) => Q u.1 u.2.1 u.2.2) (fun (u : Int32 × (Nat → Int32) × (Nat → Int32)) (t : State) => va_P G vwCl [(aM, .inr (2, [.ref aF, .ref aL, .ref aX, .ref aC, .int vSz, .int vTl, .int u.1, .ref aN, .int vMv])), (aF, .inl (cy 0, 512, .inl fF)), (aL, .inl (cy 0, 512, .inl fL)), (aX, .inl (cy 0, 81, .inl u.2.1)), (aC, .inl (cy 0, 81, .inl u.2.2)), (aN, .inr (3, [.ref aR, .int vn])), (aR, .inl (cy 0, 9, .inl fN))] t.heap) (va_A [(aM, .inr (2, [.ref aF, .ref aL, .ref aX, .ref aC, .int vSz, .int vTl, .int vFo, .ref aN, .int vMv])), (aF, .inl (cy 0, 512, .inl fF)), (aL, .inl (cy 0, 512, .inl fL)), (aX, .inl (cy 0, 81, .inl fX)), (aC, .inl (cy 0, 81, .inl fC)), (aN, .inr (3, [.ref aR, .int vn])), (aR, .inl (cy 0, 9, .inl fN))] sz)) 0 0 (va_A [(aM, .inr (2, [.ref aF, .ref aL, .ref aX, .ref aC, .int vSz, .int vTl, .int vFo, .ref aN, .int vMv])), (aF, .inl (cy 0, 512, .inl fF)), (aL, .inl (cy 0, 512, .inl fL)), (aX, .inl (cy 0, 81, .inl fX)), (aC, .inl (cy 0, 81, .inl fC)), (aN, .inr (3, [.ref aR, .int vn])), (aR, .inl (cy 0, 9, .inl fN))] sz) := by
  unfold wp_X2_gather at h
  refine Met.ofW (cc := cX2_gather) (maxL := 3) (ret := none) (by decide) rfl ?_
  intro p e s m args below meth c s₁ B hml hv
  obtain ⟨hav, hsz, hP, hK, hD0⟩ := hv
  have hx := B.exec
  have hb := B.bytes
  have hr := B.returns
  have hts := atoms_spec (ws := wsX2_gather) B.pre
  have hown : s.vm.findClass RX2 = some m.cls := findClass_of_methodNamed B.named
  have hlocks := B.notSynchronized
  subst hsz
  have hD := hD0.self (sz := s.heap.size)
  generalize hAe : va_A [(aM, .inr (2, [.ref aF, .ref aL, .ref aX, .ref aC, .int vSz, .int vTl, .int vFo, .ref aN, .int vMv])), (aF, .inl (cy 0, 512, .inl fF)), (aL, .inl (cy 0, 512, .inl fL)), (aX, .inl (cy 0, 81, .inl fX)), (aC, .inl (cy 0, 81, .inl fC)), (aN, .inr (3, [.ref aR, .int vn])), (aR, .inl (cy 0, 9, .inl fN))] s.heap.size = A at hD ⊢
  have hA : ∀ q : Nat, s.heap.size ≤ q → A q := fun q h9 => by rw [← hAe]; exact Or.inr h9
  have hS : va_S A s.heap s.heap [] := va_S.rf
  have hl := lv_entry ([.ref aM, .int p1]) (n := 3) (Nat.le_of_ble_eq_true rfl)
  rw [show entryFrame m args 3 = entryFrame m ([.ref aM, .int p1] : List Value).toArray 3 by rw [hav], lg_entry_eq]
  generalize (lg_sl ([.ref aM, .int p1]) ++ List.replicate (3 - (lg_sl ([.ref aM, .int p1])).length) Slot.unset).toArray = ls at hl ⊢
  have hl : lv_has ls 3 [(0, .ref aM), (1, .int p1)] := hl
  generalize hQe : MQ below _ _ _ _ _ _ = QM
  have hP : va_P G vwCl [(aM, .inr (2, [.ref aF, .ref aL, .ref aX, .ref aC, .int vSz, .int vTl, .int vFo, .ref aN, .int vMv])), (aF, .inl (cy 0, 512, .inl fF)), (aL, .inl (cy 0, 512, .inl fL)), (aX, .inl (cy 0, 81, .inl fX)), (aC, .inl (cy 0, 81, .inl fC)), (aN, .inr (3, [.ref aR, .int vn])), (aR, .inl (cy 0, 9, .inl fN))] s.heap := hP
  have iwX2 : ∀ w ∈ wsX20, w ∈ wsX2_gather := by decide +kernel
  have fl49 := hts (.fieldLink RX2 49 "SlidTokens$Marks" "found" "I") (by decide +kernel)
  have sf49 := hts (.sameField "SlidTokens$Marks" "SlidTokens$Search" "found" "I") (by decide +kernel)
  have fl15 := hts (.fieldLink RX2 15 "SlidTokens$Marks" "net" "LSlidTokens$Net;") (by decide +kernel)
  have iwX3 : ∀ w ∈ wsX30, w ∈ wsX2_gather := by decide +kernel
  have fl52 := hts (.fieldLink RX2 52 "SlidTokens$Net" "nodes" "I") (by decide +kernel)
  have fl9 := hts (.fieldLink RX2 9 "SlidTokens$Marks" "moves" "I") (by decide +kernel)
  suffices K9 : ∀ (H : Heap) (locs : List Loc), va_P G vwCl [(aM, .inr (2, [.ref aF, .ref aL, .ref aX, .ref aC, .int vSz, .int vTl, .int vFo, .ref aN, .int vMv])), (aF, .inl (cy 0, 512, .inl fF)), (aL, .inl (cy 0, 512, .inl fL)), (aX, .inl (cy 0, 81, .inl fX)), (aC, .inl (cy 0, 81, .inl fC)), (aN, .inr (3, [.ref aR, .int vn])), (aR, .inl (cy 0, 9, .inl fN))] H → va_D A [(aM, .inr (2, [.ref aF, .ref aL, .ref aX, .ref aC, .int vSz, .int vTl, .int vFo, .ref aN, .int vMv])), (aF, .inl (cy 0, 512, .inl fF)), (aL, .inl (cy 0, 512, .inl fL)), (aX, .inl (cy 0, 81, .inl fX)), (aC, .inl (cy 0, 81, .inl fC)), (aN, .inr (3, [.ref aR, .int vn])), (aR, .inl (cy 0, 9, .inl fN))] → va_S A s.heap H locs → W p l e (headSpec wsX2_gather rmX2_gather).room s m args below meth c H locs 0 0 QM (F0 m 0 ls []) from K9 _ _ hP hD hS
  clear hP hD hS
  intro H locs hP hD hS
  refine lv_aload_n hx hb dX2_gather_0 rfl (lv_at hl 0 rfl) ?_
  refine lv_iconst (v := 0) hx hb dX2_gather_1 (by decide) ?_
  refine va_put (D := G) (ci := 2) (v := .int 0) (ty := .int) (C := RX2) (T := TX2) (N := 9) hx hb hts iwX2 tyX2 tyX2_ok nmX2 hown hK.1 hP hD hS 0 rfl rfl 6 (by decide) fl49 (fun x9 h9 => u_same sf49 x9 h9) rfl (by decide +kernel) rfl rfl (Nat.le_of_ble_eq_true rfl) dX2_gather_2 (fun H locs hP hD hS => ?_)
  have hP : va_P G vwCl [(aM, .inr (2, [.ref aF, .ref aL, .ref aX, .ref aC, .int vSz, .int vTl, .int 0, .ref aN, .int vMv])), (aF, .inl (cy 0, 512, .inl fF)), (aL, .inl (cy 0, 512, .inl fL)), (aX, .inl (cy 0, 81, .inl fX)), (aC, .inl (cy 0, 81, .inl fC)), (aN, .inr (3, [.ref aR, .int vn])), (aR, .inl (cy 0, 9, .inl fN))] H := hP
  have hD : va_D A [(aM, .inr (2, [.ref aF, .ref aL, .ref aX, .ref aC, .int vSz, .int vTl, .int 0, .ref aN, .int vMv])), (aF, .inl (cy 0, 512, .inl fF)), (aL, .inl (cy 0, 512, .inl fL)), (aX, .inl (cy 0, 81, .inl fX)), (aC, .inl (cy 0, 81, .inl fC)), (aN, .inr (3, [.ref aR, .int vn])), (aR, .inl (cy 0, 9, .inl fN))] := hD
  refine lv_iconst (v := 0) hx hb dX2_gather_5 (by decide) ?_
  refine lv_istore_n (lv' := [(2, .int 0), (0, .ref aM), (1, .int p1)]) hx hb dX2_gather_6 rfl hl (by decide) rfl (fun ls hl => ?_)
  obtain ⟨I7_4, u7_4, h07, hst7⟩ := h
  have key7 : ∀ (k9 : Nat) (y1 : Int32) (z2 : Int32) (f3 : Nat → Int32) (f4 : Nat → Int32), I7_4 y1 z2 f3 f4 → u7_4 y1 z2 f3 f4 < k9 → ∀ (H : Heap) (locs : List Loc), va_P G vwCl [(aM, .inr (2, [.ref aF, .ref aL, .ref aX, .ref aC, .int vSz, .int vTl, .int z2, .ref aN, .int vMv])), (aF, .inl (cy 0, 512, .inl fF)), (aL, .inl (cy 0, 512, .inl fL)), (aX, .inl (cy 0, 81, .inl f3)), (aC, .inl (cy 0, 81, .inl f4)), (aN, .inr (3, [.ref aR, .int vn])), (aR, .inl (cy 0, 9, .inl fN))] H → va_D A [(aM, .inr (2, [.ref aF, .ref aL, .ref aX, .ref aC, .int vSz, .int vTl, .int z2, .ref aN, .int vMv])), (aF, .inl (cy 0, 512, .inl fF)), (aL, .inl (cy 0, 512, .inl fL)), (aX, .inl (cy 0, 81, .inl f3)), (aC, .inl (cy 0, 81, .inl f4)), (aN, .inr (3, [.ref aR, .int vn])), (aR, .inl (cy 0, 9, .inl fN))] → va_S A s.heap H locs → ∀ (ls : Array Slot), lv_has ls 3 [(0, .ref aM), (1, .int p1), (2, .int y1)] → W p l e (headSpec wsX2_gather rmX2_gather).room s m args below meth c H locs 0 0 QM (F0 m 7 ls []) := by
    intro k9
    induction k9 with
    | zero =>
      intro y1 z2 f3 f4 hI9 hk9
      exact absurd hk9 (Nat.not_lt_zero _)
    | succ k9 ih7 =>
      intro y1 z2 f3 f4 hI9 hk7 H locs hP hD hS ls hl
      have h := hst7 y1 z2 f3 f4 hI9
      refine lv_iload_n hx hb dX2_gather_7 rfl (lv_at hl 2 rfl) ?_
      refine lv_aload_n hx hb dX2_gather_8 rfl (lv_at hl 0 rfl) ?_
      refine va_get (D := G) (ci := 2) (v := .ref aN) (C := RX2) (T := TX2) (N := 9) hx hb hts iwX2 hown hK.1 hP 0 rfl rfl 7 (by decide) fl15 (fun _ h9 => h9) rfl dX2_gather_9 ?_
      refine va_get (D := G) (ci := 3) (v := .int vn) (C := RX3) (T := TX3) (N := 2) hx hb hts iwX3 hown hK.1 hP 5 rfl rfl 1 (by decide) fl52 (fun _ h9 => h9) rfl dX2_gather_12 ?_
      refine lv_icmp_ge (tgt := 39) hx hb dX2_gather_15 (by decide) (fun c5 => ?_) (fun c5 => ?_)
      · obtain ⟨h, -⟩ := h
        specialize h c5
        refine lv_aload_n hx hb dX2_gather_39 rfl (lv_at hl 0 rfl) ?_
        refine va_get (D := G) (ci := 2) (v := .int vMv) (C := RX2) (T := TX2) (N := 9) hx hb hts iwX2 hown hK.1 hP 0 rfl rfl 8 (by decide) fl9 (fun _ h9 => h9) rfl dX2_gather_40 ?_
        refine lv_iconst (v := 2) hx hb dX2_gather_43 (by decide) ?_
        refine lv_icmp_ne (tgt := 76) hx hb dX2_gather_44 (by decide) (fun c6 => ?_) (fun c6 => ?_)
        · obtain ⟨-, h⟩ := h
          specialize h c6
          rw [← hQe]
          exact W.vret hx hb hr (fun t ht hW => ⟨⟨(z2, f3, f4), rfl, h, by dsimp only; rw [ht]; exact hP⟩, hS.F ht⟩) hS.2.2 dX2_gather_76
        · obtain ⟨h, -⟩ := h
          specialize h c6
          refine lv_iconst (v := 0) hx hb dX2_gather_47 (by decide) ?_
          refine lv_istore_n (lv' := [(2, .int 0), (0, .ref aM), (1, .int p1)]) hx hb dX2_gather_48 rfl hl (by decide) rfl (fun ls hl => ?_)
          obtain ⟨I49_10, u49_10, h049, hst49⟩ := h
          have key49 : ∀ (k9 : Nat) (y7 : Int32) (z8 : Int32) (f9 : Nat → Int32) (f10 : Nat → Int32), I49_10 y7 z8 f9 f10 → u49_10 y7 z8 f9 f10 < k9 → ∀ (H : Heap) (locs : List Loc), va_P G vwCl [(aM, .inr (2, [.ref aF, .ref aL, .ref aX, .ref aC, .int vSz, .int vTl, .int z8, .ref aN, .int vMv])), (aF, .inl (cy 0, 512, .inl fF)), (aL, .inl (cy 0, 512, .inl fL)), (aX, .inl (cy 0, 81, .inl f9)), (aC, .inl (cy 0, 81, .inl f10)), (aN, .inr (3, [.ref aR, .int vn])), (aR, .inl (cy 0, 9, .inl fN))] H → va_D A [(aM, .inr (2, [.ref aF, .ref aL, .ref aX, .ref aC, .int vSz, .int vTl, .int z8, .ref aN, .int vMv])), (aF, .inl (cy 0, 512, .inl fF)), (aL, .inl (cy 0, 512, .inl fL)), (aX, .inl (cy 0, 81, .inl f9)), (aC, .inl (cy 0, 81, .inl f10)), (aN, .inr (3, [.ref aR, .int vn])), (aR, .inl (cy 0, 9, .inl fN))] → va_S A s.heap H locs → ∀ (ls : Array Slot), lv_has ls 3 [(0, .ref aM), (1, .int p1), (2, .int y7)] → W p l e (headSpec wsX2_gather rmX2_gather).room s m args below meth c H locs 0 0 QM (F0 m 49 ls []) := by
            intro k9
            induction k9 with
            | zero =>
              intro y7 z8 f9 f10 hI9 hk9
              exact absurd hk9 (Nat.not_lt_zero _)
            | succ k9 ih49 =>
              intro y7 z8 f9 f10 hI9 hk49 H locs hP hD hS ls hl
              have h := hst49 y7 z8 f9 f10 hI9
              refine lv_iload_n hx hb dX2_gather_49 rfl (lv_at hl 2 rfl) ?_
              refine lv_aload_n hx hb dX2_gather_50 rfl (lv_at hl 0 rfl) ?_
              refine va_get (D := G) (ci := 2) (v := .ref aN) (C := RX2) (T := TX2) (N := 9) hx hb hts iwX2 hown hK.1 hP 0 rfl rfl 7 (by decide) fl15 (fun _ h9 => h9) rfl dX2_gather_51 ?_
              refine va_get (D := G) (ci := 3) (v := .int vn) (C := RX3) (T := TX3) (N := 2) hx hb hts iwX3 hown hK.1 hP 5 rfl rfl 1 (by decide) fl52 (fun _ h9 => h9) rfl dX2_gather_54 ?_
              refine lv_icmp_ge (tgt := 76) hx hb dX2_gather_57 (by decide) (fun c11 => ?_) (fun c11 => ?_)
              · obtain ⟨h, -⟩ := h
                specialize h c11
                rw [← hQe]
                exact W.vret hx hb hr (fun t ht hW => ⟨⟨(z8, f9, f10), rfl, h, by dsimp only; rw [ht]; exact hP⟩, hS.F ht⟩) hS.2.2 dX2_gather_76
              · obtain ⟨-, h⟩ := h
                specialize h c11
                refine lv_aload_n hx hb dX2_gather_60 rfl (lv_at hl 0 rfl) ?_
                refine lv_iload_n hx hb dX2_gather_61 rfl (lv_at hl 1 rfl) ?_
                refine lv_iconst (v := 1) hx hb dX2_gather_62 (by decide) ?_
                refine lv_iload_n hx hb dX2_gather_63 rfl (lv_at hl 2 rfl) ?_
                refine lv_ishl hx hb dX2_gather_64 ?_
                refine lv_ixor hx hb dX2_gather_65 ?_
                refine lv_iconst (v := 3) hx hb dX2_gather_66 (by decide) ?_
                obtain ⟨Q12, hw9, h⟩ := h
                have hPc : va_P G vwCl [(aM, .inr (2, [.ref aF, .ref aL, .ref aX, .ref aC, .int vSz, .int vTl, .int z8, .ref aN, .int vMv])), (aF, .inl (cy 0, 512, .inl fF)), (aL, .inl (cy 0, 512, .inl fL)), (aX, .inl (cy 0, 81, .inl f9)), (aC, .inl (cy 0, 81, .inl f10)), (aN, .inr (3, [.ref aR, .int vn])), (aR, .inl (cy 0, 9, .inl fN))] H := hP.sub [0, 1, 2, 3, 4, 5, 6] rfl
                have hDc : va_D A [(aM, .inr (2, [.ref aF, .ref aL, .ref aX, .ref aC, .int vSz, .int vTl, .int z8, .ref aN, .int vMv])), (aF, .inl (cy 0, 512, .inl fF)), (aL, .inl (cy 0, 512, .inl fL)), (aX, .inl (cy 0, 81, .inl f9)), (aC, .inl (cy 0, 81, .inl f10)), (aN, .inr (3, [.ref aR, .int vn])), (aR, .inl (cy 0, 9, .inl fN))] := hD.sub [0, 1, 2, 3, 4, 5, 6] (by decide) rfl
                have hFc := va_free (wc := [(aM, .inr (2, [.ref aF, .ref aL, .ref aX, .ref aC, .int vSz, .int vTl, .int z8, .ref aN, .int vMv])), (aF, .inl (cy 0, 512, .inl fF)), (aL, .inl (cy 0, 512, .inl fL)), (aX, .inl (cy 0, 81, .inl f9)), (aC, .inl (cy 0, 81, .inl f10)), (aN, .inr (3, [.ref aR, .int vn])), (aR, .inl (cy 0, 9, .inl fN))]) hD hS hA [0, 1, 2, 3, 4, 5, 6] rfl
                refine va_callv (va_runU (As := [.int (p1 ^^^ ((1 : Int32) <<< (y7 &&& 31))), .int 3]) (rest := []) ⟨hx, hb, hml, hown, hts⟩ (ct_X5_offer_M l G cy aM aF aL aX aC aN aR H.size vSz vTl z8 vMv fF fL f9 f10 vn fN (p1 ^^^ ((1 : Int32) <<< (y7 &&& 31))) 3 Q12 hw9) (va_cwU 2 hts gX2_gather_X5_offer_u58X2 rfl rfl rfl rfl (by decide +kernel) ⟨Nat.le_of_ble_eq_true rfl, Nat.le_of_ble_eq_true rfl⟩) (wP_V hK hP (ci := 2) (q0 := 0) rfl rfl hPc hDc) rfl rfl hl.1 rfl (lv_room (Nat.le_of_ble_eq_true rfl)) dX2_gather_67 ⟨Nat.le_of_ble_eq_true rfl, Nat.le_of_ble_eq_true rfl⟩) hS (fun q9 _ h9 => hFc q9 h9) hFc (fun u9 t9 H locs ht9 hvm9 hw9 hB9 hz9 hk9 hS => ?_)
                obtain ⟨z14, f15, f16⟩ := u9
                have hP : va_P G vwCl [(aM, .inr (2, [.ref aF, .ref aL, .ref aX, .ref aC, .int vSz, .int vTl, .int z14, .ref aN, .int vMv])), (aF, .inl (cy 0, 512, .inl fF)), (aL, .inl (cy 0, 512, .inl fL)), (aX, .inl (cy 0, 81, .inl f15)), (aC, .inl (cy 0, 81, .inl f16)), (aN, .inr (3, [.ref aR, .int vn])), (aR, .inl (cy 0, 9, .inl fN))] H := P_back [0, 1, 2, 3, 4, 5, 6] [] 7 hP hD rfl rfl rfl rfl (by decide) (by decide) hk9 (by rw [← ht9]; exact hB9)
                have hD : va_D A [(aM, .inr (2, [.ref aF, .ref aL, .ref aX, .ref aC, .int vSz, .int vTl, .int z14, .ref aN, .int vMv])), (aF, .inl (cy 0, 512, .inl fF)), (aL, .inl (cy 0, 512, .inl fL)), (aX, .inl (cy 0, 81, .inl f15)), (aC, .inl (cy 0, 81, .inl f16)), (aN, .inr (3, [.ref aR, .int vn])), (aR, .inl (cy 0, 9, .inl fN))] := D_same hD rfl
                specialize h z14 f15 f16 hw9
                obtain ⟨x17, ex17⟩ : ∃ y : Int32, y = y7 + 1 := ⟨_, rfl⟩
                specialize h x17 ex17
                refine lv_iinc (v := x17) (lv' := [(2, .int x17), (0, .ref aM), (1, .int p1)]) hx hb dX2_gather_70 hl (k := 2) rfl (by rw [ex17]; rfl) (by decide) rfl (fun ls hl => ?_)
                refine lv_goto (tgt := 49) hx hb dX2_gather_73 (by decide) ?_
                exact ih49 x17 z14 f15 f16 h.1 (Nat.lt_of_lt_of_le h.2 (Nat.le_of_lt_succ hk49)) _ _ hP hD hS _ (lv_sub hl [1, 2, 0] rfl)
          exact key49 _ 0 z2 f3 f4 h049 (Nat.lt_succ_self _) _ _ hP hD hS _ (lv_sub hl [1, 2, 0] rfl)
      · obtain ⟨-, h⟩ := h
        specialize h c5
        refine lv_iload_n hx hb dX2_gather_18 rfl (lv_at hl 1 rfl) ?_
        refine lv_iload_n hx hb dX2_gather_19 rfl (lv_at hl 2 rfl) ?_
        refine lv_ishr hx hb dX2_gather_20 ?_
        refine lv_iconst (v := 1) hx hb dX2_gather_21 (by decide) ?_
        refine lv_iand hx hb dX2_gather_22 ?_
        refine lv_iconst (v := 1) hx hb dX2_gather_23 (by decide) ?_
        refine lv_icmp_ne (tgt := 33) hx hb dX2_gather_24 (by decide) (fun c18 => ?_) (fun c18 => ?_)
        · obtain ⟨-, h⟩ := h
          specialize h c18
          obtain ⟨x19, ex19⟩ : ∃ y : Int32, y = y1 + 1 := ⟨_, rfl⟩
          specialize h x19 ex19
          refine lv_iinc (v := x19) (lv' := [(2, .int x19), (0, .ref aM), (1, .int p1)]) hx hb dX2_gather_33 hl (k := 2) rfl (by rw [ex19]; rfl) (by decide) rfl (fun ls hl => ?_)
          refine lv_goto (tgt := 7) hx hb dX2_gather_36 (by decide) ?_
          exact ih7 x19 z2 f3 f4 h.1 (Nat.lt_of_lt_of_le h.2 (Nat.le_of_lt_succ hk7)) _ _ hP hD hS _ (lv_sub hl [1, 2, 0] rfl)
        · obtain ⟨h, -⟩ := h
          specialize h c18
          refine lv_aload_n hx hb dX2_gather_27 rfl (lv_at hl 0 rfl) ?_
          refine lv_iload_n hx hb dX2_gather_28 rfl (lv_at hl 1 rfl) ?_
          refine lv_iload_n hx hb dX2_gather_29 rfl (lv_at hl 2 rfl) ?_
          obtain ⟨Q20, hw9, h⟩ := h
          have hPc : va_P G vwCl [(aM, .inr (2, [.ref aF, .ref aL, .ref aX, .ref aC, .int vSz, .int vTl, .int z2, .ref aN, .int vMv])), (aF, .inl (cy 0, 512, .inl fF)), (aL, .inl (cy 0, 512, .inl fL)), (aX, .inl (cy 0, 81, .inl f3)), (aC, .inl (cy 0, 81, .inl f4)), (aN, .inr (3, [.ref aR, .int vn])), (aR, .inl (cy 0, 9, .inl fN))] H := hP.sub [0, 1, 2, 3, 4, 5, 6] rfl
          have hDc : va_D A [(aM, .inr (2, [.ref aF, .ref aL, .ref aX, .ref aC, .int vSz, .int vTl, .int z2, .ref aN, .int vMv])), (aF, .inl (cy 0, 512, .inl fF)), (aL, .inl (cy 0, 512, .inl fL)), (aX, .inl (cy 0, 81, .inl f3)), (aC, .inl (cy 0, 81, .inl f4)), (aN, .inr (3, [.ref aR, .int vn])), (aR, .inl (cy 0, 9, .inl fN))] := hD.sub [0, 1, 2, 3, 4, 5, 6] (by decide) rfl
          have hFc := va_free (wc := [(aM, .inr (2, [.ref aF, .ref aL, .ref aX, .ref aC, .int vSz, .int vTl, .int z2, .ref aN, .int vMv])), (aF, .inl (cy 0, 512, .inl fF)), (aL, .inl (cy 0, 512, .inl fL)), (aX, .inl (cy 0, 81, .inl f3)), (aC, .inl (cy 0, 81, .inl f4)), (aN, .inr (3, [.ref aR, .int vn])), (aR, .inl (cy 0, 9, .inl fN))]) hD hS hA [0, 1, 2, 3, 4, 5, 6] rfl
          refine va_callv (va_runV (As := [.int p1, .int y1]) (rest := []) ⟨hx, hb, hml, hown, hts⟩ (ct_X2_gatherSwaps l G cy aM aF aL aX aC aN aR H.size vSz vTl z2 vMv fF fL f3 f4 vn fN p1 y1 Q20 hw9) (cwV 2 hts gX2_gather_X2_gatherSwaps rfl rfl rfl (by decide +kernel) ⟨Nat.le_of_ble_eq_true rfl, Nat.le_of_ble_eq_true rfl⟩) (wP_V hK hP (ci := 2) (q0 := 0) rfl rfl hPc hDc) rfl rfl hl.1 rfl (lv_room (Nat.le_of_ble_eq_true rfl)) dX2_gather_30 ⟨Nat.le_of_ble_eq_true rfl, Nat.le_of_ble_eq_true rfl⟩) hS (fun q9 _ h9 => hFc q9 h9) hFc (fun u9 t9 H locs ht9 hvm9 hw9 hB9 hz9 hk9 hS => ?_)
          obtain ⟨z22, f23, f24⟩ := u9
          have hP : va_P G vwCl [(aM, .inr (2, [.ref aF, .ref aL, .ref aX, .ref aC, .int vSz, .int vTl, .int z22, .ref aN, .int vMv])), (aF, .inl (cy 0, 512, .inl fF)), (aL, .inl (cy 0, 512, .inl fL)), (aX, .inl (cy 0, 81, .inl f23)), (aC, .inl (cy 0, 81, .inl f24)), (aN, .inr (3, [.ref aR, .int vn])), (aR, .inl (cy 0, 9, .inl fN))] H := P_back [0, 1, 2, 3, 4, 5, 6] [] 7 hP hD rfl rfl rfl rfl (by decide) (by decide) hk9 (by rw [← ht9]; exact hB9)
          have hD : va_D A [(aM, .inr (2, [.ref aF, .ref aL, .ref aX, .ref aC, .int vSz, .int vTl, .int z22, .ref aN, .int vMv])), (aF, .inl (cy 0, 512, .inl fF)), (aL, .inl (cy 0, 512, .inl fL)), (aX, .inl (cy 0, 81, .inl f23)), (aC, .inl (cy 0, 81, .inl f24)), (aN, .inr (3, [.ref aR, .int vn])), (aR, .inl (cy 0, 9, .inl fN))] := D_same hD rfl
          specialize h z22 f23 f24 hw9
          obtain ⟨x25, ex25⟩ : ∃ y : Int32, y = y1 + 1 := ⟨_, rfl⟩
          specialize h x25 ex25
          refine lv_iinc (v := x25) (lv' := [(2, .int x25), (0, .ref aM), (1, .int p1)]) hx hb dX2_gather_33 hl (k := 2) rfl (by rw [ex25]; rfl) (by decide) rfl (fun ls hl => ?_)
          refine lv_goto (tgt := 7) hx hb dX2_gather_36 (by decide) ?_
          exact ih7 x25 z22 f23 f24 h.1 (Nat.lt_of_lt_of_le h.2 (Nat.le_of_lt_succ hk7)) _ _ hP hD hS _ (lv_sub hl [1, 2, 0] rfl)
  exact key7 _ 0 0 fX fC h07 (Nat.lt_succ_self _) _ _ hP hD hS _ (lv_sub hl [1, 2, 0] rfl)
