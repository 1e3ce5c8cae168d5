set_option maxHeartbeats 4000000 in
set_option maxRecDepth 100000 in
theorem ct_X3_all (l : Launch) (G : va_G) (cy : Nat → ClassId) (aN aR : Nat) (vn : Int32) (fN : Nat → Int32) (Q : Int32 → Prop) (h : wp_X3_all vn Q) : Met l yX3_all wsX3_all rmX3_all (va_Pc [.ref aN] (rP G cy [(aN, .inr (3, [.ref aR, .int vn])), (aR, .inl (cy 0, 9, .inl fN))])) (vp_Si Q) 0 0 (fun _ => False) := by
  unfold wp_X3_all at h
  refine Met.ofW (cc := cX3_all) (maxL := 1) (ret := (some .int)) (by decide) rfl ?_
  intro p e s m args below meth c s₁ B hml hv
  obtain ⟨hav, hP, hK⟩ := hv
  have hx := B.exec
  have hb := B.bytes
  have hr := B.returns
  have hts := atoms_spec (ws := wsX3_all) B.pre
  have hown : s.vm.findClass RX3 = some m.cls := findClass_of_methodNamed B.named
  have hlocks := B.notSynchronized
  have hl := lv_entry ([.ref aN]) (n := 1) (Nat.le_of_ble_eq_true rfl)
  rw [show entryFrame m args 1 = entryFrame m ([.ref aN] : List Value).toArray 1 by rw [hav], lg_entry_eq]
  generalize (lg_sl ([.ref aN]) ++ List.replicate (1 - (lg_sl ([.ref aN])).length) Slot.unset).toArray = ls at hl ⊢
  have hl : lv_has ls 1 [(0, .ref aN)] := hl
  generalize hQe : MQ below _ _ _ _ _ _ = QM
  have iwX3 : ∀ w ∈ wsX30, w ∈ wsX3_all := by decide +kernel
  have fl15 := hts (.fieldLink RX3 15 "SlidTokens$Net" "nodes" "I") (by decide +kernel)
  refine lv_iconst (v := 1) hx hb dX3_all_0 (by decide) ?_
  refine lv_aload_n hx hb dX3_all_1 rfl (lv_at hl 0 rfl) ?_
  refine va_get (D := G) (ci := 3) (v := .int vn) (C := RX3) (T := TX3) (N := 2) hx hb hts iwX3 hown hK.1 hP 0 rfl rfl 1 (by decide) fl15 (fun _ h9 => h9) rfl dX3_all_2 ?_
  refine lv_ishl hx hb dX3_all_5 ?_
  refine lv_iconst (v := 1) hx hb dX3_all_6 (by decide) ?_
  refine lv_isub hx hb dX3_all_7 ?_
  rw [← hQe]
  exact W.iret (v := (((1 : Int32) <<< (vn &&& 31)) - (1 : Int32))) hx hb hr (fun t ht hW => ⟨(((1 : Int32) <<< (vn &&& 31)) - (1 : Int32)), rfl, h, ht⟩) (fun q9 h9 => by cases h9) dX3_all_8

set_option maxHeartbeats 4000000 in
set_option maxRecDepth 100000 in
theorem ct_X3_hasNode (l : Launch) (G : va_G) (cy : Nat → ClassId) (aN aR : Nat) (vn : Int32) (fN : Nat → Int32) (p1 : Int32) (Q : Int32 → Prop) (h : wp_X3_hasNode vn p1 Q) : Met l yX3_hasNode wsX3_hasNode rmX3_hasNode (va_Pc [.ref aN, .int p1] (rP G cy [(aN, .inr (3, [.ref aR, .int vn])), (aR, .inl (cy 0, 9, .inl fN))])) (vp_Si Q) 0 0 (fun _ => False) := by
  unfold wp_X3_hasNode at h
  refine Met.ofW (cc := cX3_hasNode) (maxL := 2) (ret := (some .boolean)) (by decide) rfl ?_
  intro p e s m args below meth c s₁ B hml hv
  obtain ⟨hav, hP, hK⟩ := hv
  have hx := B.exec
  have hb := B.bytes
  have hr := B.returns
  have hts := atoms_spec (ws := wsX3_hasNode) B.pre
  have hown : s.vm.findClass RX3 = some m.cls := findClass_of_methodNamed B.named
  have hlocks := B.notSynchronized
  have hl := lv_entry ([.ref aN, .int p1]) (n := 2) (Nat.le_of_ble_eq_true rfl)
  rw [show entryFrame m args 2 = entryFrame m ([.ref aN, .int p1] : List Value).toArray 2 by rw [hav], lg_entry_eq]
  generalize (lg_sl ([.ref aN, .int p1]) ++ List.replicate (2 - (lg_sl ([.ref aN, .int p1])).length) Slot.unset).toArray = ls at hl ⊢
  have hl : lv_has ls 2 [(0, .ref aN), (1, .int p1)] := hl
  generalize hQe : MQ below _ _ _ _ _ _ = QM
  have iwX3 : ∀ w ∈ wsX30, w ∈ wsX3_hasNode := by decide +kernel
  have fl15 := hts (.fieldLink RX3 15 "SlidTokens$Net" "nodes" "I") (by decide +kernel)
  refine lv_iload_n hx hb dX3_hasNode_0 rfl (lv_at hl 1 rfl) ?_
  refine lv_if_lt (tgt := 16) hx hb dX3_hasNode_1 (by decide) (fun c1 => ?_) (fun c1 => ?_)
  · obtain ⟨h, -⟩ := h
    specialize h c1
    refine lv_iconst (v := 0) hx hb dX3_hasNode_16 (by decide) ?_
    rw [← hQe]
    exact W.zret (v := 0) hx hb hr rfl (fun t ht hW => ⟨0, rfl, h, ht⟩) (fun q9 h9 => by cases h9) dX3_hasNode_17
  · obtain ⟨-, h⟩ := h
    specialize h c1
    refine lv_iload_n hx hb dX3_hasNode_4 rfl (lv_at hl 1 rfl) ?_
    refine lv_aload_n hx hb dX3_hasNode_5 rfl (lv_at hl 0 rfl) ?_
    refine va_get (D := G) (ci := 3) (v := .int vn) (C := RX3) (T := TX3) (N := 2) hx hb hts iwX3 hown hK.1 hP 0 rfl rfl 1 (by decide) fl15 (fun _ h9 => h9) rfl dX3_hasNode_6 ?_
    refine lv_icmp_ge (tgt := 16) hx hb dX3_hasNode_9 (by decide) (fun c2 => ?_) (fun c2 => ?_)
    · obtain ⟨h, -⟩ := h
      specialize h c2
      refine lv_iconst (v := 0) hx hb dX3_hasNode_16 (by decide) ?_
      rw [← hQe]
      exact W.zret (v := 0) hx hb hr rfl (fun t ht hW => ⟨0, rfl, h, ht⟩) (fun q9 h9 => by cases h9) dX3_hasNode_17
    · obtain ⟨-, h⟩ := h
      specialize h c2
      refine lv_iconst (v := 1) hx hb dX3_hasNode_12 (by decide) ?_
      refine lv_goto (tgt := 17) hx hb dX3_hasNode_13 (by decide) ?_
      rw [← hQe]
      exact W.zret (v := 1) hx hb hr rfl (fun t ht hW => ⟨1, rfl, h, ht⟩) (fun q9 h9 => by cases h9) dX3_hasNode_17

set_option maxHeartbeats 4000000 in
set_option maxRecDepth 100000 in
theorem ct_X3_hasSet (l : Launch) (G : va_G) (cy : Nat → ClassId) (aN aR : Nat) (vn : Int32) (fN : Nat → Int32) (p1 : Int32) (Q : Int32 → Prop) (h : wp_X3_hasSet vn p1 Q) : Met l yX3_hasSet wsX3_hasSet rmX3_hasSet (va_Pc [.ref aN, .int p1] (rP G cy [(aN, .inr (3, [.ref aR, .int vn])), (aR, .inl (cy 0, 9, .inl fN))])) (vp_Si Q) 0 0 (fun _ => False) := by
  unfold wp_X3_hasSet at h
  refine Met.ofW (cc := cX3_hasSet) (maxL := 2) (ret := (some .boolean)) (by decide) rfl ?_
  intro p e s m args below meth c s₁ B hml hv
  obtain ⟨hav, hP, hK⟩ := hv
  have hx := B.exec
  have hb := B.bytes
  have hr := B.returns
  have hts := atoms_spec (ws := wsX3_hasSet) B.pre
  have hown : s.vm.findClass RX3 = some m.cls := findClass_of_methodNamed B.named
  have hlocks := B.notSynchronized
  have hl := lv_entry ([.ref aN, .int p1]) (n := 2) (Nat.le_of_ble_eq_true rfl)
  rw [show entryFrame m args 2 = entryFrame m ([.ref aN, .int p1] : List Value).toArray 2 by rw [hav], lg_entry_eq]
  generalize (lg_sl ([.ref aN, .int p1]) ++ List.replicate (2 - (lg_sl ([.ref aN, .int p1])).length) Slot.unset).toArray = ls at hl ⊢
  have hl : lv_has ls 2 [(0, .ref aN), (1, .int p1)] := hl
  generalize hQe : MQ below _ _ _ _ _ _ = QM
  refine lv_iload_n hx hb dX3_hasSet_0 rfl (lv_at hl 1 rfl) ?_
  refine lv_if_lt (tgt := 16) hx hb dX3_hasSet_1 (by decide) (fun c1 => ?_) (fun c1 => ?_)
  · obtain ⟨h, -⟩ := h
    specialize h c1
    refine lv_iconst (v := 0) hx hb dX3_hasSet_16 (by decide) ?_
    rw [← hQe]
    exact W.zret (v := 0) hx hb hr rfl (fun t ht hW => ⟨0, rfl, h, ht⟩) (fun q9 h9 => by cases h9) dX3_hasSet_17
  · obtain ⟨-, h⟩ := h
    specialize h c1
    refine lv_iload_n hx hb dX3_hasSet_4 rfl (lv_at hl 1 rfl) ?_
    refine lv_aload_n hx hb dX3_hasSet_5 rfl (lv_at hl 0 rfl) ?_
    obtain ⟨Q2, hw9, h⟩ := h
    have hPc : va_P G vwCl [(aN, .inr (3, [.ref aR, .int vn])), (aR, .inl (cy 0, 9, .inl fN))] s.heap := hP.sub [0, 1] rfl
    refine vp_callSi (va_Run.run (va_runV (As := []) (rest := [.int p1]) ⟨hx, hb, hml, hown, hts⟩ (ct_X3_all l G cy aN aR vn fN Q2 hw9) (cwV 0 hts gX3_hasSet_X3_all rfl rfl rfl (by decide +kernel) ⟨Nat.le_of_ble_eq_true rfl, Nat.le_of_ble_eq_true rfl⟩) (rP_V hK hP (ci := 3) (q0 := 0) rfl rfl hPc) rfl rfl hl.1 rfl (lv_room (Nat.le_of_ble_eq_true rfl)) dX3_hasSet_6 ⟨Nat.le_of_ble_eq_true rfl, Nat.le_of_ble_eq_true rfl⟩)) (fun r3 er3 => ?_)
    specialize h r3 er3
    refine lv_icmp_gt (tgt := 16) hx hb dX3_hasSet_9 (by decide) (fun c4 => ?_) (fun c4 => ?_)
    · obtain ⟨h, -⟩ := h
      specialize h c4
      refine lv_iconst (v := 0) hx hb dX3_hasSet_16 (by decide) ?_
      rw [← hQe]
      exact W.zret (v := 0) hx hb hr rfl (fun t ht hW => ⟨0, rfl, h, ht⟩) (fun q9 h9 => by cases h9) dX3_hasSet_17
    · obtain ⟨-, h⟩ := h
      specialize h c4
      refine lv_iconst (v := 1) hx hb dX3_hasSet_12 (by decide) ?_
      refine lv_goto (tgt := 17) hx hb dX3_hasSet_13 (by decide) ?_
      rw [← hQe]
      exact W.zret (v := 1) hx hb hr rfl (fun t ht hW => ⟨1, rfl, h, ht⟩) (fun q9 h9 => by cases h9) dX3_hasSet_17

set_option maxHeartbeats 4000000 in
set_option maxRecDepth 100000 in
theorem ct_X3_areJoined (l : Launch) (G : va_G) (cy : Nat → ClassId) (aN aR : Nat) (vn : Int32) (fN : Nat → Int32) (p1 : Int32) (p2 : Int32) (Q : Int32 → Prop) (h : wp_X3_areJoined vn fN p1 p2 Q) : Met l yX3_areJoined wsX3_areJoined rmX3_areJoined (va_Pc [.ref aN, .int p1, .int p2] (rP G cy [(aN, .inr (3, [.ref aR, .int vn])), (aR, .inl (cy 0, 9, .inl fN))])) (vp_Si Q) 0 0 (fun _ => False) := by
  unfold wp_X3_areJoined at h
  refine Met.ofW (cc := cX3_areJoined) (maxL := 3) (ret := (some .boolean)) (by decide) rfl ?_
  intro p e s m args below meth c s₁ B hml hv
  obtain ⟨hav, hP, hK⟩ := hv
  have hx := B.exec
  have hb := B.bytes
  have hr := B.returns
  have hts := atoms_spec (ws := wsX3_areJoined) B.pre
  have hown : s.vm.findClass RX3 = some m.cls := findClass_of_methodNamed B.named
  have hlocks := B.notSynchronized
  have hl := lv_entry ([.ref aN, .int p1, .int p2]) (n := 3) (Nat.le_of_ble_eq_true rfl)
  rw [show entryFrame m args 3 = entryFrame m ([.ref aN, .int p1, .int p2] : List Value).toArray 3 by rw [hav], lg_entry_eq]
  generalize (lg_sl ([.ref aN, .int p1, .int p2]) ++ List.replicate (3 - (lg_sl ([.ref aN, .int p1, .int p2])).length) Slot.unset).toArray = ls at hl ⊢
  have hl : lv_has ls 3 [(0, .ref aN), (1, .int p1), (2, .int p2)] := hl
  generalize hQe : MQ below _ _ _ _ _ _ = QM
  have iwX3 : ∀ w ∈ wsX30, w ∈ wsX3_areJoined := by decide +kernel
  have fl9 := hts (.fieldLink RX3 9 "SlidTokens$Net" "near" "[I") (by decide +kernel)
  refine lv_aload_n hx hb dX3_areJoined_0 rfl (lv_at hl 0 rfl) ?_
  refine lv_iload_n hx hb dX3_areJoined_1 rfl (lv_at hl 1 rfl) ?_
  obtain ⟨Q1, hw9, h⟩ := h
  have hPc : va_P G vwCl [(aN, .inr (3, [.ref aR, .int vn])), (aR, .inl (cy 0, 9, .inl fN))] s.heap := hP.sub [0, 1] rfl
  refine vp_callSi (va_Run.run (va_runV (As := [.int p1]) (rest := []) ⟨hx, hb, hml, hown, hts⟩ (ct_X3_hasNode l G cy aN aR vn fN p1 Q1 hw9) (cwV 1 hts gX3_areJoined_X3_hasNode rfl rfl rfl (by decide +kernel) ⟨Nat.le_of_ble_eq_true rfl, Nat.le_of_ble_eq_true rfl⟩) (rP_V hK hP (ci := 3) (q0 := 0) rfl rfl hPc) rfl rfl hl.1 rfl (lv_room (Nat.le_of_ble_eq_true rfl)) dX3_areJoined_2 ⟨Nat.le_of_ble_eq_true rfl, Nat.le_of_ble_eq_true rfl⟩)) (fun r2 er2 => ?_)
  specialize h r2 er2
  refine lv_if_eq (tgt := 34) hx hb dX3_areJoined_5 (by decide) (fun c3 => ?_) (fun c3 => ?_)
  · obtain ⟨h, -⟩ := h
    specialize h c3
    refine lv_iconst (v := 0) hx hb dX3_areJoined_34 (by decide) ?_
    rw [← hQe]
    exact W.zret (v := 0) hx hb hr rfl (fun t ht hW => ⟨0, rfl, h, ht⟩) (fun q9 h9 => by cases h9) dX3_areJoined_35
  · obtain ⟨-, h⟩ := h
    specialize h c3
    refine lv_aload_n hx hb dX3_areJoined_8 rfl (lv_at hl 0 rfl) ?_
    refine lv_iload_n hx hb dX3_areJoined_9 rfl (lv_at hl 2 rfl) ?_
    obtain ⟨Q4, hw9, h⟩ := h
    have hPc : va_P G vwCl [(aN, .inr (3, [.ref aR, .int vn])), (aR, .inl (cy 0, 9, .inl fN))] s.heap := hP.sub [0, 1] rfl
    refine vp_callSi (va_Run.run (va_runV (As := [.int p2]) (rest := []) ⟨hx, hb, hml, hown, hts⟩ (ct_X3_hasNode l G cy aN aR vn fN p2 Q4 hw9) (cwV 1 hts gX3_areJoined_X3_hasNode rfl rfl rfl (by decide +kernel) ⟨Nat.le_of_ble_eq_true rfl, Nat.le_of_ble_eq_true rfl⟩) (rP_V hK hP (ci := 3) (q0 := 0) rfl rfl hPc) rfl rfl hl.1 rfl (lv_room (Nat.le_of_ble_eq_true rfl)) dX3_areJoined_10 ⟨Nat.le_of_ble_eq_true rfl, Nat.le_of_ble_eq_true rfl⟩)) (fun r5 er5 => ?_)
    specialize h r5 er5
    refine lv_if_eq (tgt := 34) hx hb dX3_areJoined_13 (by decide) (fun c6 => ?_) (fun c6 => ?_)
    · obtain ⟨h, -⟩ := h
      specialize h c6
      refine lv_iconst (v := 0) hx hb dX3_areJoined_34 (by decide) ?_
      rw [← hQe]
      exact W.zret (v := 0) hx hb hr rfl (fun t ht hW => ⟨0, rfl, h, ht⟩) (fun q9 h9 => by cases h9) dX3_areJoined_35
    · obtain ⟨-, h⟩ := h
      specialize h c6
      refine lv_aload_n hx hb dX3_areJoined_16 rfl (lv_at hl 0 rfl) ?_
      refine va_get (D := G) (ci := 3) (v := .ref aR) (C := RX3) (T := TX3) (N := 2) hx hb hts iwX3 hown hK.1 hP 0 rfl rfl 0 (by decide) fl9 (fun _ h9 => h9) rfl dX3_areJoined_17 ?_
      refine lv_iload_n hx hb dX3_areJoined_20 rfl (lv_at hl 1 rfl) ?_
      obtain ⟨hi, h⟩ := h
      refine va_iald hx hb hK.1 hP 1 0 rfl rfl hi dX3_areJoined_21 ?_
      refine lv_iload_n hx hb dX3_areJoined_22 rfl (lv_at hl 2 rfl) ?_
      refine lv_ishr hx hb dX3_areJoined_23 ?_
      refine lv_iconst (v := 1) hx hb dX3_areJoined_24 (by decide) ?_
      refine lv_iand hx hb dX3_areJoined_25 ?_
      refine lv_iconst (v := 1) hx hb dX3_areJoined_26 (by decide) ?_
      refine lv_icmp_ne (tgt := 34) hx hb dX3_areJoined_27 (by decide) (fun c7 => ?_) (fun c7 => ?_)
      · obtain ⟨-, h⟩ := h
        specialize h c7
        refine lv_iconst (v := 0) hx hb dX3_areJoined_34 (by decide) ?_
        rw [← hQe]
        exact W.zret (v := 0) hx hb hr rfl (fun t ht hW => ⟨0, rfl, h, ht⟩) (fun q9 h9 => by cases h9) dX3_areJoined_35
      · obtain ⟨h, -⟩ := h
        specialize h c7
        refine lv_iconst (v := 1) hx hb dX3_areJoined_30 (by decide) ?_
        refine lv_goto (tgt := 35) hx hb dX3_areJoined_31 (by decide) ?_
        rw [← hQe]
        exact W.zret (v := 1) hx hb hr rfl (fun t ht hW => ⟨1, rfl, h, ht⟩) (fun q9 h9 => by cases h9) dX3_areJoined_35

set_option maxHeartbeats 4000000 in
set_option maxRecDepth 100000 in
theorem ct_X3_touchesNowhere (l : Launch) (G : va_G) (cy : Nat → ClassId) (aN aR : Nat) (vn : Int32) (fN : Nat → Int32) (p1 : Int32) (Q : Int32 → Prop) (h : wp_X3_touchesNowhere vn fN p1 Q) : Met l yX3_touchesNowhere wsX3_touchesNowhere rmX3_touchesNowhere (va_Pc [.ref aN, .int p1] (rP G cy [(aN, .inr (3, [.ref aR, .int vn])), (aR, .inl (cy 0, 9, .inl fN))])) (vp_Si Q) 0 0 (fun _ => False) := by
  unfold wp_X3_touchesNowhere at h
  refine Met.ofW (cc := cX3_touchesNowhere) (maxL := 3) (ret := (some .boolean)) (by decide) rfl ?_
  intro p e s m args below meth c s₁ B hml hv
  obtain ⟨hav, hP, hK⟩ := hv
  have hx := B.exec
  have hb := B.bytes
  have hr := B.returns
  have hts := atoms_spec (ws := wsX3_touchesNowhere) B.pre
  have hown : s.vm.findClass RX3 = some m.cls := findClass_of_methodNamed B.named
  have hlocks := B.notSynchronized
  have hl := lv_entry ([.ref aN, .int p1]) (n := 3) (Nat.le_of_ble_eq_true rfl)
  rw [show entryFrame m args 3 = entryFrame m ([.ref aN, .int p1] : List Value).toArray 3 by rw [hav], lg_entry_eq]
  generalize (lg_sl ([.ref aN, .int p1]) ++ List.replicate (3 - (lg_sl ([.ref aN, .int p1])).length) Slot.unset).toArray = ls at hl ⊢
  have hl : lv_has ls 3 [(0, .ref aN), (1, .int p1)] := hl
  generalize hQe : MQ below _ _ _ _ _ _ = QM
  have iwX3 : ∀ w ∈ wsX30, w ∈ wsX3_touchesNowhere := by decide +kernel
  have fl15 := hts (.fieldLink RX3 15 "SlidTokens$Net" "nodes" "I") (by decide +kernel)
  have fl9 := hts (.fieldLink RX3 9 "SlidTokens$Net" "near" "[I") (by decide +kernel)
  refine lv_iconst (v := 0) hx hb dX3_touchesNowhere_0 (by decide) ?_
  refine lv_istore_n (lv' := [(2, .int 0), (0, .ref aN), (1, .int p1)]) hx hb dX3_touchesNowhere_1 rfl hl (by decide) rfl (fun ls hl => ?_)
  obtain ⟨I2_1, u2_1, h02, hst2⟩ := h
  have key2 : ∀ (k9 : Nat) (y1 : Int32), I2_1 y1 → u2_1 y1 < k9 → ∀ (ls : Array Slot), lv_has ls 3 [(0, .ref aN), (1, .int p1), (2, .int y1)] → W p l e (headSpec wsX3_touchesNowhere rmX3_touchesNowhere).room s m args below meth c s.heap [] 0 0 QM (F0 m 2 ls []) := by
    intro k9
    induction k9 with
    | zero =>
      intro y1 hI9 hk9
      exact absurd hk9 (Nat.not_lt_zero _)
    | succ k9 ih2 =>
      intro y1 hI9 hk2 ls hl
      have h := hst2 y1 hI9
      refine lv_iload_n hx hb dX3_touchesNowhere_2 rfl (lv_at hl 2 rfl) ?_
      refine lv_aload_n hx hb dX3_touchesNowhere_3 rfl (lv_at hl 0 rfl) ?_
      refine va_get (D := G) (ci := 3) (v := .int vn) (C := RX3) (T := TX3) (N := 2) hx hb hts iwX3 hown hK.1 hP 0 rfl rfl 1 (by decide) fl15 (fun _ h9 => h9) rfl dX3_touchesNowhere_4 ?_
      refine lv_icmp_ge (tgt := 38) hx hb dX3_touchesNowhere_7 (by decide) (fun c2 => ?_) (fun c2 => ?_)
      · obtain ⟨h, -⟩ := h
        specialize h c2
        refine lv_iconst (v := 1) hx hb dX3_touchesNowhere_38 (by decide) ?_
        rw [← hQe]
        exact W.zret (v := 1) hx hb hr rfl (fun t ht hW => ⟨1, rfl, h, ht⟩) (fun q9 h9 => by cases h9) dX3_touchesNowhere_39
      · obtain ⟨-, h⟩ := h
        specialize h c2
        refine lv_iload_n hx hb dX3_touchesNowhere_10 rfl (lv_at hl 1 rfl) ?_
        refine lv_iload_n hx hb dX3_touchesNowhere_11 rfl (lv_at hl 2 rfl) ?_
        refine lv_ishr hx hb dX3_touchesNowhere_12 ?_
        refine lv_iconst (v := 1) hx hb dX3_touchesNowhere_13 (by decide) ?_
        refine lv_iand hx hb dX3_touchesNowhere_14 ?_
        refine lv_iconst (v := 1) hx hb dX3_touchesNowhere_15 (by decide) ?_
        refine lv_icmp_ne (tgt := 32) hx hb dX3_touchesNowhere_16 (by decide) (fun c3 => ?_) (fun c3 => ?_)
        · obtain ⟨-, h⟩ := h
          specialize h c3
          obtain ⟨x4, ex4⟩ : ∃ y : Int32, y = y1 + 1 := ⟨_, rfl⟩
          specialize h x4 ex4
          refine lv_iinc (v := x4) (lv' := [(2, .int x4), (0, .ref aN), (1, .int p1)]) hx hb dX3_touchesNowhere_32 hl (k := 2) rfl (by rw [ex4]; rfl) (by decide) rfl (fun ls hl => ?_)
          refine lv_goto (tgt := 2) hx hb dX3_touchesNowhere_35 (by decide) ?_
          exact ih2 x4 h.1 (Nat.lt_of_lt_of_le h.2 (Nat.le_of_lt_succ hk2)) _ (lv_sub hl [1, 2, 0] rfl)
        · obtain ⟨h, -⟩ := h
          specialize h c3
          refine lv_aload_n hx hb dX3_touchesNowhere_19 rfl (lv_at hl 0 rfl) ?_
          refine va_get (D := G) (ci := 3) (v := .ref aR) (C := RX3) (T := TX3) (N := 2) hx hb hts iwX3 hown hK.1 hP 0 rfl rfl 0 (by decide) fl9 (fun _ h9 => h9) rfl dX3_touchesNowhere_20 ?_
          refine lv_iload_n hx hb dX3_touchesNowhere_23 rfl (lv_at hl 2 rfl) ?_
          obtain ⟨hi, h⟩ := h
          refine va_iald hx hb hK.1 hP 1 0 rfl rfl hi dX3_touchesNowhere_24 ?_
          refine lv_iload_n hx hb dX3_touchesNowhere_25 rfl (lv_at hl 1 rfl) ?_
          refine lv_iand hx hb dX3_touchesNowhere_26 ?_
          refine lv_if_eq (tgt := 32) hx hb dX3_touchesNowhere_27 (by decide) (fun c5 => ?_) (fun c5 => ?_)
          · obtain ⟨h, -⟩ := h
            specialize h c5
            obtain ⟨x6, ex6⟩ : ∃ y : Int32, y = y1 + 1 := ⟨_, rfl⟩
            specialize h x6 ex6
            refine lv_iinc (v := x6) (lv' := [(2, .int x6), (0, .ref aN), (1, .int p1)]) hx hb dX3_touchesNowhere_32 hl (k := 2) rfl (by rw [ex6]; rfl) (by decide) rfl (fun ls hl => ?_)
            refine lv_goto (tgt := 2) hx hb dX3_touchesNowhere_35 (by decide) ?_
            exact ih2 x6 h.1 (Nat.lt_of_lt_of_le h.2 (Nat.le_of_lt_succ hk2)) _ (lv_sub hl [1, 2, 0] rfl)
          · obtain ⟨-, h⟩ := h
            specialize h c5
            refine lv_iconst (v := 0) hx hb dX3_touchesNowhere_30 (by decide) ?_
            rw [← hQe]
            exact W.zret (v := 0) hx hb hr rfl (fun t ht hW => ⟨0, rfl, h, ht⟩) (fun q9 h9 => by cases h9) dX3_touchesNowhere_31
  exact key2 _ 0 h02 (Nat.lt_succ_self _) _ (lv_sub hl [1, 2, 0] rfl)

set_option maxHeartbeats 4000000 in
set_option maxRecDepth 100000 in
theorem ct_X3_seesAll (l : Launch) (G : va_G) (cy : Nat → ClassId) (aN aR : Nat) (vn : Int32) (fN : Nat → Int32) (p1 : Int32) (Q : Int32 → Prop) (h : wp_X3_seesAll vn fN p1 Q) : Met l yX3_seesAll wsX3_seesAll rmX3_seesAll (va_Pc [.ref aN, .int p1] (rP G cy [(aN, .inr (3, [.ref aR, .int vn])), (aR, .inl (cy 0, 9, .inl fN))])) (vp_Si Q) 0 0 (fun _ => False) := by
  unfold wp_X3_seesAll at h
  refine Met.ofW (cc := cX3_seesAll) (maxL := 4) (ret := (some .boolean)) (by decide) rfl ?_
  intro p e s m args below meth c s₁ B hml hv
  obtain ⟨hav, hP, hK⟩ := hv
  have hx := B.exec
  have hb := B.bytes
  have hr := B.returns
  have hts := atoms_spec (ws := wsX3_seesAll) B.pre
  have hown : s.vm.findClass RX3 = some m.cls := findClass_of_methodNamed B.named
  have hlocks := B.notSynchronized
  have hl := lv_entry ([.ref aN, .int p1]) (n := 4) (Nat.le_of_ble_eq_true rfl)
  rw [show entryFrame m args 4 = entryFrame m ([.ref aN, .int p1] : List Value).toArray 4 by rw [hav], lg_entry_eq]
  generalize (lg_sl ([.ref aN, .int p1]) ++ List.replicate (4 - (lg_sl ([.ref aN, .int p1])).length) Slot.unset).toArray = ls at hl ⊢
  have hl : lv_has ls 4 [(0, .ref aN), (1, .int p1)] := hl
  generalize hQe : MQ below _ _ _ _ _ _ = QM
  have iwX3 : ∀ w ∈ wsX30, w ∈ wsX3_seesAll := by decide +kernel
  have fl15 := hts (.fieldLink RX3 15 "SlidTokens$Net" "nodes" "I") (by decide +kernel)
  have fl9 := hts (.fieldLink RX3 9 "SlidTokens$Net" "near" "[I") (by decide +kernel)
  refine lv_iload_n hx hb dX3_seesAll_0 rfl (lv_at hl 1 rfl) ?_
  refine lv_istore_n (lv' := [(2, .int p1), (0, .ref aN), (1, .int p1)]) hx hb dX3_seesAll_1 rfl hl (by decide) rfl (fun ls hl => ?_)
  refine lv_iconst (v := 0) hx hb dX3_seesAll_2 (by decide) ?_
  refine lv_istore_n (lv' := [(3, .int 0), (2, .int p1), (0, .ref aN), (1, .int p1)]) hx hb dX3_seesAll_3 rfl hl (by decide) rfl (fun ls hl => ?_)
  obtain ⟨I4_2, u4_2, h04, hst4⟩ := h
  have key4 : ∀ (k9 : Nat) (y1 : Int32) (y2 : Int32), I4_2 y1 y2 → u4_2 y1 y2 < k9 → ∀ (ls : Array Slot), lv_has ls 4 [(0, .ref aN), (1, .int p1), (2, .int y1), (3, .int y2)] → W p l e (headSpec wsX3_seesAll rmX3_seesAll).room s m args below meth c s.heap [] 0 0 QM (F0 m 4 ls []) := by
    intro k9
    induction k9 with
    | zero =>
      intro y1 y2 hI9 hk9
      exact absurd hk9 (Nat.not_lt_zero _)
    | succ k9 ih4 =>
      intro y1 y2 hI9 hk4 ls hl
      have h := hst4 y1 y2 hI9
      refine lv_iload_n hx hb dX3_seesAll_4 rfl (lv_at hl 3 rfl) ?_
      refine lv_aload_n hx hb dX3_seesAll_5 rfl (lv_at hl 0 rfl) ?_
      refine va_get (D := G) (ci := 3) (v := .int vn) (C := RX3) (T := TX3) (N := 2) hx hb hts iwX3 hown hK.1 hP 0 rfl rfl 1 (by decide) fl15 (fun _ h9 => h9) rfl dX3_seesAll_6 ?_
      refine lv_icmp_ge (tgt := 36) hx hb dX3_seesAll_9 (by decide) (fun c3 => ?_) (fun c3 => ?_)
      · obtain ⟨h, -⟩ := h
        specialize h c3
        refine lv_iload_n hx hb dX3_seesAll_36 rfl (lv_at hl 2 rfl) ?_
        refine lv_aload_n hx hb dX3_seesAll_37 rfl (lv_at hl 0 rfl) ?_
        obtain ⟨Q4, hw9, h⟩ := h
        have hPc : va_P G vwCl [(aN, .inr (3, [.ref aR, .int vn])), (aR, .inl (cy 0, 9, .inl fN))] s.heap := hP.sub [0, 1] rfl
        refine vp_callSi (va_Run.run (va_runV (As := []) (rest := [.int y1]) ⟨hx, hb, hml, hown, hts⟩ (ct_X3_all l G cy aN aR vn fN Q4 hw9) (cwV 0 hts gX3_seesAll_X3_all rfl rfl rfl (by decide +kernel) ⟨Nat.le_of_ble_eq_true rfl, Nat.le_of_ble_eq_true rfl⟩) (rP_V hK hP (ci := 3) (q0 := 0) rfl rfl hPc) rfl rfl hl.1 rfl (lv_room (Nat.le_of_ble_eq_true rfl)) dX3_seesAll_38 ⟨Nat.le_of_ble_eq_true rfl, Nat.le_of_ble_eq_true rfl⟩)) (fun r5 er5 => ?_)
        specialize h r5 er5
        refine lv_icmp_ne (tgt := 48) hx hb dX3_seesAll_41 (by decide) (fun c6 => ?_) (fun c6 => ?_)
        · obtain ⟨-, h⟩ := h
          specialize h c6
          refine lv_iconst (v := 0) hx hb dX3_seesAll_48 (by decide) ?_
          rw [← hQe]
          exact W.zret (v := 0) hx hb hr rfl (fun t ht hW => ⟨0, rfl, h, ht⟩) (fun q9 h9 => by cases h9) dX3_seesAll_49
        · obtain ⟨h, -⟩ := h
          specialize h c6
          refine lv_iconst (v := 1) hx hb dX3_seesAll_44 (by decide) ?_
          refine lv_goto (tgt := 49) hx hb dX3_seesAll_45 (by decide) ?_
          rw [← hQe]
          exact W.zret (v := 1) hx hb hr rfl (fun t ht hW => ⟨1, rfl, h, ht⟩) (fun q9 h9 => by cases h9) dX3_seesAll_49
      · obtain ⟨-, h⟩ := h
        specialize h c3
        refine lv_iload_n hx hb dX3_seesAll_12 rfl (lv_at hl 1 rfl) ?_
        refine lv_iload_n hx hb dX3_seesAll_13 rfl (lv_at hl 3 rfl) ?_
        refine lv_ishr hx hb dX3_seesAll_14 ?_
        refine lv_iconst (v := 1) hx hb dX3_seesAll_15 (by decide) ?_
        refine lv_iand hx hb dX3_seesAll_16 ?_
        refine lv_iconst (v := 1) hx hb dX3_seesAll_17 (by decide) ?_
        refine lv_icmp_ne (tgt := 30) hx hb dX3_seesAll_18 (by decide) (fun c7 => ?_) (fun c7 => ?_)
        · obtain ⟨-, h⟩ := h
          specialize h c7
          obtain ⟨x8, ex8⟩ : ∃ y : Int32, y = y2 + 1 := ⟨_, rfl⟩
          specialize h x8 ex8
          refine lv_iinc (v := x8) (lv' := [(3, .int x8), (0, .ref aN), (1, .int p1), (2, .int y1)]) hx hb dX3_seesAll_30 hl (k := 3) rfl (by rw [ex8]; rfl) (by decide) rfl (fun ls hl => ?_)
          refine lv_goto (tgt := 4) hx hb dX3_seesAll_33 (by decide) ?_
          exact ih4 y1 x8 h.1 (Nat.lt_of_lt_of_le h.2 (Nat.le_of_lt_succ hk4)) _ (lv_sub hl [1, 2, 3, 0] rfl)
        · obtain ⟨h, -⟩ := h
          specialize h c7
          refine lv_iload_n hx hb dX3_seesAll_21 rfl (lv_at hl 2 rfl) ?_
          refine lv_aload_n hx hb dX3_seesAll_22 rfl (lv_at hl 0 rfl) ?_
          refine va_get (D := G) (ci := 3) (v := .ref aR) (C := RX3) (T := TX3) (N := 2) hx hb hts iwX3 hown hK.1 hP 0 rfl rfl 0 (by decide) fl9 (fun _ h9 => h9) rfl dX3_seesAll_23 ?_
          refine lv_iload_n hx hb dX3_seesAll_26 rfl (lv_at hl 3 rfl) ?_
          obtain ⟨hi, h⟩ := h
          refine va_iald hx hb hK.1 hP 1 0 rfl rfl hi dX3_seesAll_27 ?_
          refine lv_ior hx hb dX3_seesAll_28 ?_
          refine lv_topi (fun x9 ex9 => ?_)
          specialize h x9 ex9
          refine lv_istore_n (lv' := [(2, .int x9), (0, .ref aN), (1, .int p1), (3, .int y2)]) hx hb dX3_seesAll_29 rfl hl (by decide) rfl (fun ls hl => ?_)
          obtain ⟨x10, ex10⟩ : ∃ y : Int32, y = y2 + 1 := ⟨_, rfl⟩
          specialize h x10 ex10
          refine lv_iinc (v := x10) (lv' := [(3, .int x10), (2, .int x9), (0, .ref aN), (1, .int p1)]) hx hb dX3_seesAll_30 hl (k := 3) rfl (by rw [ex10]; rfl) (by decide) rfl (fun ls hl => ?_)
          refine lv_goto (tgt := 4) hx hb dX3_seesAll_33 (by decide) ?_
          exact ih4 x9 x10 h.1 (Nat.lt_of_lt_of_le h.2 (Nat.le_of_lt_succ hk4)) _ (lv_sub hl [2, 3, 1, 0] rfl)
  exact key4 _ p1 0 h04 (Nat.lt_succ_self _) _ (lv_sub hl [2, 3, 1, 0] rfl)

set_option maxHeartbeats 4000000 in
set_option maxRecDepth 100000 in
theorem ct_X3_isLawful (l : Launch) (G : va_G) (cy : Nat → ClassId) (aN aR : Nat) (vn : Int32) (fN : Nat → Int32) (p1 : Int32) (p2 : Int32) (Q : Int32 → Prop) (h : wp_X3_isLawful vn fN p1 p2 Q) : Met l yX3_isLawful wsX3_isLawful rmX3_isLawful (va_Pc [.ref aN, .int p1, .int p2] (rP G cy [(aN, .inr (3, [.ref aR, .int vn])), (aR, .inl (cy 0, 9, .inl fN))])) (vp_Si Q) 0 0 (fun _ => False) := by
  unfold wp_X3_isLawful at h
  refine Met.ofW (cc := cX3_isLawful) (maxL := 3) (ret := (some .boolean)) (by decide) rfl ?_
  intro p e s m args below meth c s₁ B hml hv
  obtain ⟨hav, hP, hK⟩ := hv
  have hx := B.exec
  have hb := B.bytes
  have hr := B.returns
  have hts := atoms_spec (ws := wsX3_isLawful) B.pre
  have hown : s.vm.findClass RX3 = some m.cls := findClass_of_methodNamed B.named
  have hlocks := B.notSynchronized
  have hl := lv_entry ([.ref aN, .int p1, .int p2]) (n := 3) (Nat.le_of_ble_eq_true rfl)
  rw [show entryFrame m args 3 = entryFrame m ([.ref aN, .int p1, .int p2] : List Value).toArray 3 by rw [hav], lg_entry_eq]
  generalize (lg_sl ([.ref aN, .int p1, .int p2]) ++ List.replicate (3 - (lg_sl ([.ref aN, .int p1, .int p2])).length) Slot.unset).toArray = ls at hl ⊢
  have hl : lv_has ls 3 [(0, .ref aN), (1, .int p1), (2, .int p2)] := hl
  generalize hQe : MQ below _ _ _ _ _ _ = QM
  refine lv_iload_n hx hb dX3_isLawful_0 rfl (lv_at hl 1 rfl) ?_
  by_cases c1 : p1 = 0
  · obtain ⟨h, -⟩ := h
    specialize h c1
    refine lv_lookup (off := 27) (tgt := 28) hx hb dX3_isLawful_1 (by decide) (by rw [c1]; decide) (by decide) ?_
    refine lv_aload_n hx hb dX3_isLawful_28 rfl (lv_at hl 0 rfl) ?_
    refine lv_iload_n hx hb dX3_isLawful_29 rfl (lv_at hl 2 rfl) ?_
    obtain ⟨Q2, hw9, h⟩ := h
    have hPc : va_P G vwCl [(aN, .inr (3, [.ref aR, .int vn])), (aR, .inl (cy 0, 9, .inl fN))] s.heap := hP.sub [0, 1] rfl
    refine vp_callSi (va_Run.run (va_runV (As := [.int p2]) (rest := []) ⟨hx, hb, hml, hown, hts⟩ (ct_X3_touchesNowhere l G cy aN aR vn fN p2 Q2 hw9) (cwV 1 hts gX3_isLawful_X3_touchesNowhere rfl rfl rfl (by decide +kernel) ⟨Nat.le_of_ble_eq_true rfl, Nat.le_of_ble_eq_true rfl⟩) (rP_V hK hP (ci := 3) (q0 := 0) rfl rfl hPc) rfl rfl hl.1 rfl (lv_room (Nat.le_of_ble_eq_true rfl)) dX3_isLawful_30 ⟨Nat.le_of_ble_eq_true rfl, Nat.le_of_ble_eq_true rfl⟩)) (fun r3 er3 => ?_)
    specialize h r3 er3
    rw [← hQe]
    exact W.zret (v := r3) hx hb hr h.1 (fun t ht hW => ⟨r3, rfl, h.2, ht⟩) (fun q9 h9 => by cases h9) dX3_isLawful_33
  · obtain ⟨-, h⟩ := h
    by_cases c4 : p1 = 1
    · obtain ⟨h, -⟩ := h
      specialize h c4
      refine lv_lookup (off := 33) (tgt := 34) hx hb dX3_isLawful_1 (by decide) (by rw [c4]; decide) (by decide) ?_
      refine lv_aload_n hx hb dX3_isLawful_34 rfl (lv_at hl 0 rfl) ?_
      refine lv_aload_n hx hb dX3_isLawful_35 rfl (lv_at hl 0 rfl) ?_
      obtain ⟨Q5, hw9, h⟩ := h
      have hPc : va_P G vwCl [(aN, .inr (3, [.ref aR, .int vn])), (aR, .inl (cy 0, 9, .inl fN))] s.heap := hP.sub [0, 1] rfl
      refine vp_callSi (va_Run.run (va_runV (As := []) (rest := [.ref aN]) ⟨hx, hb, hml, hown, hts⟩ (ct_X3_all l G cy aN aR vn fN Q5 hw9) (cwV 0 hts gX3_isLawful_X3_all rfl rfl rfl (by decide +kernel) ⟨Nat.le_of_ble_eq_true rfl, Nat.le_of_ble_eq_true rfl⟩) (rP_V hK hP (ci := 3) (q0 := 0) rfl rfl hPc) rfl rfl hl.1 rfl (lv_room (Nat.le_of_ble_eq_true rfl)) dX3_isLawful_36 ⟨Nat.le_of_ble_eq_true rfl, Nat.le_of_ble_eq_true rfl⟩)) (fun r6 er6 => ?_)
      specialize h r6 er6
      refine lv_iload_n hx hb dX3_isLawful_39 rfl (lv_at hl 2 rfl) ?_
      refine lv_iconst (v := (-1)) hx hb dX3_isLawful_40 (by decide) ?_
      refine lv_ixor hx hb dX3_isLawful_41 ?_
      refine lv_iand hx hb dX3_isLawful_42 ?_
      obtain ⟨Q7, hw9, h⟩ := h
      have hPc : va_P G vwCl [(aN, .inr (3, [.ref aR, .int vn])), (aR, .inl (cy 0, 9, .inl fN))] s.heap := hP.sub [0, 1] rfl
      refine vp_callSi (va_Run.run (va_runV (As := [.int (r6 &&& (p2 ^^^ (-1 : Int32)))]) (rest := []) ⟨hx, hb, hml, hown, hts⟩ (ct_X3_touchesNowhere l G cy aN aR vn fN (r6 &&& (p2 ^^^ (-1 : Int32))) Q7 hw9) (cwV 1 hts gX3_isLawful_X3_touchesNowhere rfl rfl rfl (by decide +kernel) ⟨Nat.le_of_ble_eq_true rfl, Nat.le_of_ble_eq_true rfl⟩) (rP_V hK hP (ci := 3) (q0 := 0) rfl rfl hPc) rfl rfl hl.1 rfl (lv_room (Nat.le_of_ble_eq_true rfl)) dX3_isLawful_43 ⟨Nat.le_of_ble_eq_true rfl, Nat.le_of_ble_eq_true rfl⟩)) (fun r8 er8 => ?_)
      specialize h r8 er8
      rw [← hQe]
      exact W.zret (v := r8) hx hb hr h.1 (fun t ht hW => ⟨r8, rfl, h.2, ht⟩) (fun q9 h9 => by cases h9) dX3_isLawful_46
    · obtain ⟨-, h⟩ := h
      specialize h c1 c4
      refine lv_lookup (off := 46) (tgt := 47) hx hb dX3_isLawful_1 (by decide) (by rw [lv_osw (k := 0) c1 (by decide)]; rw [lv_osw (k := 1) c4 (by decide)]; rfl) (by decide) ?_
      refine lv_aload_n hx hb dX3_isLawful_47 rfl (lv_at hl 0 rfl) ?_
      refine lv_iload_n hx hb dX3_isLawful_48 rfl (lv_at hl 2 rfl) ?_
      obtain ⟨Q9, hw9, h⟩ := h
      have hPc : va_P G vwCl [(aN, .inr (3, [.ref aR, .int vn])), (aR, .inl (cy 0, 9, .inl fN))] s.heap := hP.sub [0, 1] rfl
      refine vp_callSi (va_Run.run (va_runV (As := [.int p2]) (rest := []) ⟨hx, hb, hml, hown, hts⟩ (ct_X3_seesAll l G cy aN aR vn fN p2 Q9 hw9) (cwV 1 hts gX3_isLawful_X3_seesAll rfl rfl rfl (by decide +kernel) ⟨Nat.le_of_ble_eq_true rfl, Nat.le_of_ble_eq_true rfl⟩) (rP_V hK hP (ci := 3) (q0 := 0) rfl rfl hPc) rfl rfl hl.1 rfl (lv_room (Nat.le_of_ble_eq_true rfl)) dX3_isLawful_49 ⟨Nat.le_of_ble_eq_true rfl, Nat.le_of_ble_eq_true rfl⟩)) (fun r10 er10 => ?_)
      specialize h r10 er10
      rw [← hQe]
      exact W.zret (v := r10) hx hb hr h.1 (fun t ht hW => ⟨r10, rfl, h.2, ht⟩) (fun q9 h9 => by cases h9) dX3_isLawful_52

set_option maxHeartbeats 4000000 in
set_option maxRecDepth 100000 in
theorem ct_X3_pairs (l : Launch) (G : va_G) (cy : Nat → ClassId) (aN aR : Nat) (vn : Int32) (fN : Nat → Int32) (Q : Int32 → Prop) (h : wp_X3_pairs vn fN Q) : Met l yX3_pairs wsX3_pairs rmX3_pairs (va_Pc [.ref aN] (rP G cy [(aN, .inr (3, [.ref aR, .int vn])), (aR, .inl (cy 0, 9, .inl fN))])) (vp_Si Q) 0 0 (fun _ => False) := by
  unfold wp_X3_pairs at h
  refine Met.ofW (cc := cX3_pairs) (maxL := 3) (ret := (some .int)) (by decide) rfl ?_
  intro p e s m args below meth c s₁ B hml hv
  obtain ⟨hav, hP, hK⟩ := hv
  have hx := B.exec
  have hb := B.bytes
  have hr := B.returns
  have hts := atoms_spec (ws := wsX3_pairs) B.pre
  have hown : s.vm.findClass RX3 = some m.cls := findClass_of_methodNamed B.named
  have hlocks := B.notSynchronized
  have hl := lv_entry ([.ref aN]) (n := 3) (Nat.le_of_ble_eq_true rfl)
  rw [show entryFrame m args 3 = entryFrame m ([.ref aN] : List Value).toArray 3 by rw [hav], lg_entry_eq]
  generalize (lg_sl ([.ref aN]) ++ List.replicate (3 - (lg_sl ([.ref aN])).length) Slot.unset).toArray = ls at hl ⊢
  have hl : lv_has ls 3 [(0, .ref aN)] := hl
  generalize hQe : MQ below _ _ _ _ _ _ = QM
  have iwX3 : ∀ w ∈ wsX30, w ∈ wsX3_pairs := by decide +kernel
  have fl15 := hts (.fieldLink RX3 15 "SlidTokens$Net" "nodes" "I") (by decide +kernel)
  have fl9 := hts (.fieldLink RX3 9 "SlidTokens$Net" "near" "[I") (by decide +kernel)
  refine lv_iconst (v := 0) hx hb dX3_pairs_0 (by decide) ?_
  refine lv_istore_n (lv' := [(1, .int 0), (0, .ref aN)]) hx hb dX3_pairs_1 rfl hl (by decide) rfl (fun ls hl => ?_)
  refine lv_iconst (v := 0) hx hb dX3_pairs_2 (by decide) ?_
  refine lv_istore_n (lv' := [(2, .int 0), (1, .int 0), (0, .ref aN)]) hx hb dX3_pairs_3 rfl hl (by decide) rfl (fun ls hl => ?_)
  obtain ⟨I4_2, u4_2, h04, hst4⟩ := h
  have key4 : ∀ (k9 : Nat) (y1 : Int32) (y2 : Int32), I4_2 y1 y2 → u4_2 y1 y2 < k9 → ∀ (ls : Array Slot), lv_has ls 3 [(0, .ref aN), (1, .int y1), (2, .int y2)] → W p l e (headSpec wsX3_pairs rmX3_pairs).room s m args below meth c s.heap [] 0 0 QM (F0 m 4 ls []) := by
    intro k9
    induction k9 with
    | zero =>
      intro y1 y2 hI9 hk9
      exact absurd hk9 (Nat.not_lt_zero _)
    | succ k9 ih4 =>
      intro y1 y2 hI9 hk4 ls hl
      have h := hst4 y1 y2 hI9
      refine lv_iload_n hx hb dX3_pairs_4 rfl (lv_at hl 2 rfl) ?_
      refine lv_aload_n hx hb dX3_pairs_5 rfl (lv_at hl 0 rfl) ?_
      refine va_get (D := G) (ci := 3) (v := .int vn) (C := RX3) (T := TX3) (N := 2) hx hb hts iwX3 hown hK.1 hP 0 rfl rfl 1 (by decide) fl15 (fun _ h9 => h9) rfl dX3_pairs_6 ?_
      refine lv_icmp_ge (tgt := 30) hx hb dX3_pairs_9 (by decide) (fun c3 => ?_) (fun c3 => ?_)
      · obtain ⟨h, -⟩ := h
        specialize h c3
        refine lv_iload_n hx hb dX3_pairs_30 rfl (lv_at hl 1 rfl) ?_
        refine lv_iconst (v := 1) hx hb dX3_pairs_31 (by decide) ?_
        refine lv_ishr hx hb dX3_pairs_32 ?_
        rw [← hQe]
        exact W.iret (v := (y1 >>> ((1 : Int32) &&& 31))) hx hb hr (fun t ht hW => ⟨(y1 >>> ((1 : Int32) &&& 31)), rfl, h, ht⟩) (fun q9 h9 => by cases h9) dX3_pairs_33
      · obtain ⟨-, h⟩ := h
        specialize h c3
        refine lv_iload_n hx hb dX3_pairs_12 rfl (lv_at hl 1 rfl) ?_
        refine lv_aload_n hx hb dX3_pairs_13 rfl (lv_at hl 0 rfl) ?_
        refine va_get (D := G) (ci := 3) (v := .ref aR) (C := RX3) (T := TX3) (N := 2) hx hb hts iwX3 hown hK.1 hP 0 rfl rfl 0 (by decide) fl9 (fun _ h9 => h9) rfl dX3_pairs_14 ?_
        refine lv_iload_n hx hb dX3_pairs_17 rfl (lv_at hl 2 rfl) ?_
        obtain ⟨hi, h⟩ := h
        refine va_iald hx hb hK.1 hP 1 0 rfl rfl hi dX3_pairs_18 ?_
        obtain ⟨Q4, hw9, h⟩ := h
        have hPc : va_P G vwCl [] s.heap := P_nil
        refine vp_callSi (va_Run.run (va_runS (As := [.int (fN (y2 : Int32).toNatClampNeg)]) (rest := [.int y1]) ⟨hx, hb, hml, hown, hts⟩ (ct_J6_bitCount_0f7a4 l G cy (fN (y2 : Int32).toNatClampNeg) Q4 hw9) (va_cwS 1 hts gX3_pairs_J6_bitCount_0f7a4 rfl rfl rfl (by decide +kernel) ⟨Nat.le_of_ble_eq_true rfl, Nat.le_of_ble_eq_true rfl⟩) (rP_S hK hPc) rfl rfl hl.1 rfl (lv_room (Nat.le_of_ble_eq_true rfl)) dX3_pairs_19 ⟨Nat.le_of_ble_eq_true rfl, Nat.le_of_ble_eq_true rfl⟩)) (fun r5 er5 => ?_)
        specialize h r5 er5
        refine lv_iadd hx hb dX3_pairs_22 ?_
        refine lv_topi (fun x6 ex6 => ?_)
        specialize h x6 ex6
        refine lv_istore_n (lv' := [(1, .int x6), (0, .ref aN), (2, .int y2)]) hx hb dX3_pairs_23 rfl hl (by decide) rfl (fun ls hl => ?_)
        obtain ⟨x7, ex7⟩ : ∃ y : Int32, y = y2 + 1 := ⟨_, rfl⟩
        specialize h x7 ex7
        refine lv_iinc (v := x7) (lv' := [(2, .int x7), (1, .int x6), (0, .ref aN)]) hx hb dX3_pairs_24 hl (k := 2) rfl (by rw [ex7]; rfl) (by decide) rfl (fun ls hl => ?_)
        refine lv_goto (tgt := 4) hx hb dX3_pairs_27 (by decide) ?_
        exact ih4 x6 x7 h.1 (Nat.lt_of_lt_of_le h.2 (Nat.le_of_lt_succ hk4)) _ (lv_sub hl [2, 1, 0] rfl)
  exact key4 _ 0 0 h04 (Nat.lt_succ_self _) _ (lv_sub hl [2, 1, 0] rfl)

set_option maxHeartbeats 4000000 in
set_option maxRecDepth 100000 in
theorem ct_X3_isInShape (l : Launch) (G : va_G) (cy : Nat → ClassId) (aN aR : Nat) (vn : Int32) (fN : Nat → Int32) (p1 : Int32) (p2 : Int32) (p3 : Int32) (Q : Int32 → Prop) (h : wp_X3_isInShape vn p1 p2 p3 Q) : Met l yX3_isInShape wsX3_isInShape rmX3_isInShape (va_Pc [.ref aN, .int p1, .int p2, .int p3] (rP G cy [(aN, .inr (3, [.ref aR, .int vn])), (aR, .inl (cy 0, 9, .inl fN))])) (vp_Si Q) 0 0 (fun _ => False) := by
  unfold wp_X3_isInShape at h
  refine Met.ofW (cc := cX3_isInShape) (maxL := 4) (ret := (some .boolean)) (by decide) rfl ?_
  intro p e s m args below meth c s₁ B hml hv
  obtain ⟨hav, hP, hK⟩ := hv
  have hx := B.exec
  have hb := B.bytes
  have hr := B.returns
  have hts := atoms_spec (ws := wsX3_isInShape) B.pre
  have hown : s.vm.findClass RX3 = some m.cls := findClass_of_methodNamed B.named
  have hlocks := B.notSynchronized
  have hl := lv_entry ([.ref aN, .int p1, .int p2, .int p3]) (n := 4) (Nat.le_of_ble_eq_true rfl)
  rw [show entryFrame m args 4 = entryFrame m ([.ref aN, .int p1, .int p2, .int p3] : List Value).toArray 4 by rw [hav], lg_entry_eq]
  generalize (lg_sl ([.ref aN, .int p1, .int p2, .int p3]) ++ List.replicate (4 - (lg_sl ([.ref aN, .int p1, .int p2, .int p3])).length) Slot.unset).toArray = ls at hl ⊢
  have hl : lv_has ls 4 [(0, .ref aN), (1, .int p1), (2, .int p2), (3, .int p3)] := hl
  generalize hQe : MQ below _ _ _ _ _ _ = QM
  have iwX3 : ∀ w ∈ wsX30, w ∈ wsX3_isInShape := by decide +kernel
  have fl15 := hts (.fieldLink RX3 15 "SlidTokens$Net" "nodes" "I") (by decide +kernel)
  refine lv_iload_n hx hb dX3_isInShape_0 rfl (lv_at hl 1 rfl) ?_
  by_cases c1 : p1 = 0
  · obtain ⟨h, -⟩ := h
    specialize h c1
    refine lv_tableIn (off := 27) (tgt := 28) hx hb dX3_isInShape_1 (by rw [c1]; decide) (by rw [c1]; decide) (by rw [c1]; rfl) (by decide) ?_
    refine lv_iload_n hx hb dX3_isInShape_28 rfl (lv_at hl 3 rfl) ?_
    refine lv_iload_n hx hb dX3_isInShape_29 rfl (lv_at hl 2 rfl) ?_
    refine lv_iconst (v := 1) hx hb dX3_isInShape_30 (by decide) ?_
    refine lv_iadd hx hb dX3_isInShape_31 ?_
    refine lv_icmp_ne (tgt := 39) hx hb dX3_isInShape_32 (by decide) (fun c2 => ?_) (fun c2 => ?_)
    · obtain ⟨-, h⟩ := h
      specialize h c2
      refine lv_iconst (v := 0) hx hb dX3_isInShape_39 (by decide) ?_
      rw [← hQe]
      exact W.zret (v := 0) hx hb hr rfl (fun t ht hW => ⟨0, rfl, h, ht⟩) (fun q9 h9 => by cases h9) dX3_isInShape_40
    · obtain ⟨h, -⟩ := h
      specialize h c2
      refine lv_iconst (v := 1) hx hb dX3_isInShape_35 (by decide) ?_
      refine lv_goto (tgt := 40) hx hb dX3_isInShape_36 (by decide) ?_
      rw [← hQe]
      exact W.zret (v := 1) hx hb hr rfl (fun t ht hW => ⟨1, rfl, h, ht⟩) (fun q9 h9 => by cases h9) dX3_isInShape_40
  · obtain ⟨-, h⟩ := h
    by_cases c3 : p1 = 1
    · obtain ⟨h, -⟩ := h
      specialize h c3
      refine lv_tableIn (off := 40) (tgt := 41) hx hb dX3_isInShape_1 (by rw [c3]; decide) (by rw [c3]; decide) (by rw [c3]; rfl) (by decide) ?_
      refine lv_iload_n hx hb dX3_isInShape_41 rfl (lv_at hl 3 rfl) ?_
      refine lv_iload_n hx hb dX3_isInShape_42 rfl (lv_at hl 2 rfl) ?_
      refine lv_iconst (v := 1) hx hb dX3_isInShape_43 (by decide) ?_
      refine lv_iadd hx hb dX3_isInShape_44 ?_
      refine lv_icmp_eq (tgt := 62) hx hb dX3_isInShape_45 (by decide) (fun c4 => ?_) (fun c4 => ?_)
      · obtain ⟨h, -⟩ := h
        specialize h c4
        refine lv_iconst (v := 1) hx hb dX3_isInShape_62 (by decide) ?_
        refine lv_goto (tgt := 67) hx hb dX3_isInShape_63 (by decide) ?_
        rw [← hQe]
        exact W.zret (v := 1) hx hb hr rfl (fun t ht hW => ⟨1, rfl, h, ht⟩) (fun q9 h9 => by cases h9) dX3_isInShape_67
      · obtain ⟨-, h⟩ := h
        specialize h c4
        refine lv_iload_n hx hb dX3_isInShape_48 rfl (lv_at hl 2 rfl) ?_
        refine lv_if_ne (tgt := 66) hx hb dX3_isInShape_49 (by decide) (fun c5 => ?_) (fun c5 => ?_)
        · obtain ⟨-, h⟩ := h
          specialize h c5
          refine lv_iconst (v := 0) hx hb dX3_isInShape_66 (by decide) ?_
          rw [← hQe]
          exact W.zret (v := 0) hx hb hr rfl (fun t ht hW => ⟨0, rfl, h, ht⟩) (fun q9 h9 => by cases h9) dX3_isInShape_67
        · obtain ⟨h, -⟩ := h
          specialize h c5
          refine lv_iload_n hx hb dX3_isInShape_52 rfl (lv_at hl 3 rfl) ?_
          refine lv_aload_n hx hb dX3_isInShape_53 rfl (lv_at hl 0 rfl) ?_
          refine va_get (D := G) (ci := 3) (v := .int vn) (C := RX3) (T := TX3) (N := 2) hx hb hts iwX3 hown hK.1 hP 0 rfl rfl 1 (by decide) fl15 (fun _ h9 => h9) rfl dX3_isInShape_54 ?_
          refine lv_iconst (v := 1) hx hb dX3_isInShape_57 (by decide) ?_
          refine lv_isub hx hb dX3_isInShape_58 ?_
          refine lv_icmp_ne (tgt := 66) hx hb dX3_isInShape_59 (by decide) (fun c6 => ?_) (fun c6 => ?_)
          · obtain ⟨-, h⟩ := h
            specialize h c6
            refine lv_iconst (v := 0) hx hb dX3_isInShape_66 (by decide) ?_
            rw [← hQe]
            exact W.zret (v := 0) hx hb hr rfl (fun t ht hW => ⟨0, rfl, h, ht⟩) (fun q9 h9 => by cases h9) dX3_isInShape_67
          · obtain ⟨h, -⟩ := h
            specialize h c6
            refine lv_iconst (v := 1) hx hb dX3_isInShape_62 (by decide) ?_
            refine lv_goto (tgt := 67) hx hb dX3_isInShape_63 (by decide) ?_
            rw [← hQe]
            exact W.zret (v := 1) hx hb hr rfl (fun t ht hW => ⟨1, rfl, h, ht⟩) (fun q9 h9 => by cases h9) dX3_isInShape_67
    · obtain ⟨-, h⟩ := h
      by_cases c7 : p1 = 2
      · obtain ⟨h, -⟩ := h
        specialize h c7
        refine lv_tableIn (off := 67) (tgt := 68) hx hb dX3_isInShape_1 (by rw [c7]; decide) (by rw [c7]; decide) (by rw [c7]; rfl) (by decide) ?_
        refine lv_iconst (v := 1) hx hb dX3_isInShape_68 (by decide) ?_
        rw [← hQe]
        exact W.zret (v := 1) hx hb hr rfl (fun t ht hW => ⟨1, rfl, h, ht⟩) (fun q9 h9 => by cases h9) dX3_isInShape_69
      · obtain ⟨-, h⟩ := h
        specialize h c1 c3 c7
        refine lv_tableOut (tgt := 70) hx hb dX3_isInShape_1 (by have nc1 := lv_neT (a := 0) c1 (by decide); have nc3 := lv_neT (a := 1) c3 (by decide); have nc7 := lv_neT (a := 2) c7 (by decide); omega) (by decide) ?_
        refine lv_iload_n hx hb dX3_isInShape_70 rfl (lv_at hl 2 rfl) ?_
        refine lv_if_ne (tgt := 78) hx hb dX3_isInShape_71 (by decide) (fun c8 => ?_) (fun c8 => ?_)
        · obtain ⟨-, h⟩ := h
          specialize h c8
          refine lv_iconst (v := 0) hx hb dX3_isInShape_78 (by decide) ?_
          rw [← hQe]
          exact W.zret (v := 0) hx hb hr rfl (fun t ht hW => ⟨0, rfl, h, ht⟩) (fun q9 h9 => by cases h9) dX3_isInShape_79
        · obtain ⟨h, -⟩ := h
          specialize h c8
          refine lv_iconst (v := 1) hx hb dX3_isInShape_74 (by decide) ?_
          refine lv_goto (tgt := 79) hx hb dX3_isInShape_75 (by decide) ?_
          rw [← hQe]
          exact W.zret (v := 1) hx hb hr rfl (fun t ht hW => ⟨1, rfl, h, ht⟩) (fun q9 h9 => by cases h9) dX3_isInShape_79

set_option maxHeartbeats 4000000 in
set_option maxRecDepth 100000 in
theorem ct_X3_restart (l : Launch) (G : va_G) (cy : Nat → ClassId) (aN aR : Nat) (sz : Nat) (vn : Int32) (fN : Nat → Int32) (p1 : Int32) (Q : Int32 → (Nat → Int32) → Prop) (h : wp_X3_restart vn fN p1 Q) : Met l yX3_restart wsX3_restart rmX3_restart (va_Pc [.ref aN, .int p1] (wP G cy sz [(aN, .inr (3, [.ref aR, .int vn])), (aR, .inl (cy 0, 9, .inl fN))])) (va_Qv (fun (u : Int32 × (Nat → Int32)) => Q u.1 u.2) (fun (u : Int32 × (Nat → Int32)) (t : State) => va_P G vwCl [(aN, .inr (3, [.ref aR, .int u.1])), (aR, .inl (cy 0, 9, .inl u.2))] t.heap) (va_A [(aN, .inr (3, [.ref aR, .int vn])), (aR, .inl (cy 0, 9, .inl fN))] sz)) 0 0 (va_A [(aN, .inr (3, [.ref aR, .int vn])), (aR, .inl (cy 0, 9, .inl fN))] sz) := by
  unfold wp_X3_restart at h
  refine Met.ofW (cc := cX3_restart) (maxL := 2) (ret := none) (by decide) rfl ?_
  intro p e s m args below meth c s₁ B hml hv
  obtain ⟨hav, hsz, hP, hK, hD0⟩ := hv
  have hx := B.exec
  have hb := B.bytes
  have hr := B.returns
  have hts := atoms_spec (ws := wsX3_restart) B.pre
  have hown : s.vm.findClass RX3 = some m.cls := findClass_of_methodNamed B.named
  have hlocks := B.notSynchronized
  subst hsz
  have hD := hD0.self (sz := s.heap.size)
  generalize hAe : va_A [(aN, .inr (3, [.ref aR, .int vn])), (aR, .inl (cy 0, 9, .inl fN))] s.heap.size = A at hD ⊢
  have hA : ∀ q : Nat, s.heap.size ≤ q → A q := fun q h9 => by rw [← hAe]; exact Or.inr h9
  have hS : va_S A s.heap s.heap [] := va_S.rf
  have hl := lv_entry ([.ref aN, .int p1]) (n := 2) (Nat.le_of_ble_eq_true rfl)
  rw [show entryFrame m args 2 = entryFrame m ([.ref aN, .int p1] : List Value).toArray 2 by rw [hav], lg_entry_eq]
  generalize (lg_sl ([.ref aN, .int p1]) ++ List.replicate (2 - (lg_sl ([.ref aN, .int p1])).length) Slot.unset).toArray = ls at hl ⊢
  have hl : lv_has ls 2 [(0, .ref aN), (1, .int p1)] := hl
  generalize hQe : MQ below _ _ _ _ _ _ = QM
  have hP : va_P G vwCl [(aN, .inr (3, [.ref aR, .int vn])), (aR, .inl (cy 0, 9, .inl fN))] s.heap := hP
  have iwX3 : ∀ w ∈ wsX30, w ∈ wsX3_restart := by decide +kernel
  have fl9 := hts (.fieldLink RX3 9 "SlidTokens$Net" "near" "[I") (by decide +kernel)
  have fl15 := hts (.fieldLink RX3 15 "SlidTokens$Net" "nodes" "I") (by decide +kernel)
  suffices K9 : ∀ (H : Heap) (locs : List Loc), va_P G vwCl [(aN, .inr (3, [.ref aR, .int vn])), (aR, .inl (cy 0, 9, .inl fN))] H → va_D A [(aN, .inr (3, [.ref aR, .int vn])), (aR, .inl (cy 0, 9, .inl fN))] → va_S A s.heap H locs → W p l e (headSpec wsX3_restart rmX3_restart).room s m args below meth c H locs 0 0 QM (F0 m 0 ls []) from K9 _ _ hP hD hS
  clear hP hD hS
  intro H locs hP hD hS
  refine lv_aload_n hx hb dX3_restart_0 rfl (lv_at hl 0 rfl) ?_
  refine va_get (D := G) (ci := 3) (v := .ref aR) (C := RX3) (T := TX3) (N := 2) hx hb hts iwX3 hown hK.1 hP 0 rfl rfl 0 (by decide) fl9 (fun _ h9 => h9) rfl dX3_restart_1 ?_
  refine lv_iconst (v := 0) hx hb dX3_restart_4 (by decide) ?_
  obtain ⟨Q1, hw9, h⟩ := h
  have hPc : va_P G vwCl [(aR, .inl (cy 0, 9, .inl fN))] H := hP.sub [1] rfl
  have hDc : va_D A [(aR, .inl (cy 0, 9, .inl fN))] := hD.sub [1] (by decide) rfl
  have hFc := va_free (wc := [(aR, .inl (cy 0, 9, .inl fN))]) hD hS hA [1] rfl
  refine va_callv (va_runS (As := [.ref aR, .int 0]) (rest := []) ⟨hx, hb, hml, hown, hts⟩ (ct_J7_fill_53178 l G cy aR H.size fN 0 Q1 hw9) (va_cwS 2 hts gX3_restart_J7_fill_53178 rfl rfl rfl (by decide +kernel) ⟨Nat.le_of_ble_eq_true rfl, Nat.le_of_ble_eq_true rfl⟩) (wP_S hK hPc hDc) rfl rfl hl.1 rfl (lv_room (Nat.le_of_ble_eq_true rfl)) dX3_restart_5 ⟨Nat.le_of_ble_eq_true rfl, Nat.le_of_ble_eq_true rfl⟩) hS (fun q9 _ h9 => hFc q9 h9) hFc (fun u9 t9 H locs ht9 hvm9 hw9 hB9 hz9 hk9 hS => ?_)
  obtain ⟨f3, rfl⟩ : ∃ z9, z9 = u9 := ⟨_, rfl⟩
  have hP : va_P G vwCl [(aN, .inr (3, [.ref aR, .int vn])), (aR, .inl (cy 0, 9, .inl f3))] H := P_back [1] [0] 2 hP hD rfl rfl rfl rfl (by decide) (by decide) hk9 (by rw [← ht9]; exact hB9)
  have hD : va_D A [(aN, .inr (3, [.ref aR, .int vn])), (aR, .inl (cy 0, 9, .inl f3))] := D_same hD rfl
  specialize h f3 hw9
  refine lv_aload_n hx hb dX3_restart_8 rfl (lv_at hl 0 rfl) ?_
  refine lv_iload_n hx hb dX3_restart_9 rfl (lv_at hl 1 rfl) ?_
  refine va_put (D := G) (ci := 3) (v := .int p1) (ty := .int) (C := RX3) (T := TX3) (N := 2) hx hb hts iwX3 tyX3 tyX3_ok nmX3 hown hK.1 hP hD hS 0 rfl rfl 1 (by decide) fl15 (fun _ h9 => h9) rfl (by decide +kernel) rfl rfl (Nat.le_of_ble_eq_true rfl) dX3_restart_10 (fun H locs hP hD hS => ?_)
  have hP : va_P G vwCl [(aN, .inr (3, [.ref aR, .int p1])), (aR, .inl (cy 0, 9, .inl f3))] H := hP
  have hD : va_D A [(aN, .inr (3, [.ref aR, .int p1])), (aR, .inl (cy 0, 9, .inl f3))] := hD
  rw [← hQe]
  exact W.vret hx hb hr (fun t ht hW => ⟨⟨(p1, f3), rfl, h, by dsimp only; rw [ht]; exact hP⟩, hS.F ht⟩) hS.2.2 dX3_restart_13

set_option maxHeartbeats 4000000 in
set_option maxRecDepth 100000 in
theorem ct_X3_tie (l : Launch) (G : va_G) (cy : Nat → ClassId) (aN aR : Nat) (sz : Nat) (vn : Int32) (fN : Nat → Int32) (p1 : Int32) (p2 : Int32) (p3 : Int32) (Q : (Nat → Int32) → Prop) (h : wp_X3_tie vn fN p1 p2 p3 Q) : Met l yX3_tie wsX3_tie rmX3_tie (va_Pc [.ref aN, .int p1, .int p2, .int p3] (wP G cy sz [(aN, .inr (3, [.ref aR, .int vn])), (aR, .inl (cy 0, 9, .inl fN))])) (va_Qv (fun (u : (Nat → Int32)) => Q u) (fun (u : (Nat → Int32)) (t : State) => va_P G vwCl [(aN, .inr (3, [.ref aR, .int vn])), (aR, .inl (cy 0, 9, .inl u))] t.heap) (va_A [(aN, .inr (3, [.ref aR, .int vn])), (aR, .inl (cy 0, 9, .inl fN))] sz)) 0 0 (va_A [(aN, .inr (3, [.ref aR, .int vn])), (aR, .inl (cy 0, 9, .inl fN))] sz) := by
  unfold wp_X3_tie at h
  refine Met.ofW (cc := cX3_tie) (maxL := 4) (ret := none) (by decide) rfl ?_
  intro p e s m args below meth c s₁ B hml hv
  obtain ⟨hav, hsz, hP, hK, hD0⟩ := hv
  have hx := B.exec
  have hb := B.bytes
  have hr := B.returns
  have hts := atoms_spec (ws := wsX3_tie) B.pre
  have hown : s.vm.findClass RX3 = some m.cls := findClass_of_methodNamed B.named
  have hlocks := B.notSynchronized
  subst hsz
  have hD := hD0.self (sz := s.heap.size)
  generalize hAe : va_A [(aN, .inr (3, [.ref aR, .int vn])), (aR, .inl (cy 0, 9, .inl fN))] s.heap.size = A at hD ⊢
  have hA : ∀ q : Nat, s.heap.size ≤ q → A q := fun q h9 => by rw [← hAe]; exact Or.inr h9
  have hS : va_S A s.heap s.heap [] := va_S.rf
  have hl := lv_entry ([.ref aN, .int p1, .int p2, .int p3]) (n := 4) (Nat.le_of_ble_eq_true rfl)
  rw [show entryFrame m args 4 = entryFrame m ([.ref aN, .int p1, .int p2, .int p3] : List Value).toArray 4 by rw [hav], lg_entry_eq]
  generalize (lg_sl ([.ref aN, .int p1, .int p2, .int p3]) ++ List.replicate (4 - (lg_sl ([.ref aN, .int p1, .int p2, .int p3])).length) Slot.unset).toArray = ls at hl ⊢
  have hl : lv_has ls 4 [(0, .ref aN), (1, .int p1), (2, .int p2), (3, .int p3)] := hl
  generalize hQe : MQ below _ _ _ _ _ _ = QM
  have hP : va_P G vwCl [(aN, .inr (3, [.ref aR, .int vn])), (aR, .inl (cy 0, 9, .inl fN))] s.heap := hP
  have iwX3 : ∀ w ∈ wsX30, w ∈ wsX3_tie := by decide +kernel
  have fl9 := hts (.fieldLink RX3 9 "SlidTokens$Net" "near" "[I") (by decide +kernel)
  suffices K9 : ∀ (H : Heap) (locs : List Loc), va_P G vwCl [(aN, .inr (3, [.ref aR, .int vn])), (aR, .inl (cy 0, 9, .inl fN))] H → va_D A [(aN, .inr (3, [.ref aR, .int vn])), (aR, .inl (cy 0, 9, .inl fN))] → va_S A s.heap H locs → W p l e (headSpec wsX3_tie rmX3_tie).room s m args below meth c H locs 0 0 QM (F0 m 0 ls []) from K9 _ _ hP hD hS
  clear hP hD hS
  intro H locs hP hD hS
  refine lv_aload_n hx hb dX3_tie_0 rfl (lv_at hl 0 rfl) ?_
  refine lv_iload_n hx hb dX3_tie_1 rfl (lv_at hl 1 rfl) ?_
  obtain ⟨Q1, hw9, h⟩ := h
  have hPc : va_P G vwCl [(aN, .inr (3, [.ref aR, .int vn])), (aR, .inl (cy 0, 9, .inl fN))] H := hP.sub [0, 1] rfl
  refine vp_callSi (va_Run.run (va_runV (As := [.int p1]) (rest := []) ⟨hx, hb, hml, hown, hts⟩ (ct_X3_hasNode l G cy aN aR vn fN p1 Q1 hw9) (cwV 1 hts gX3_tie_X3_hasNode rfl rfl rfl (by decide +kernel) ⟨Nat.le_of_ble_eq_true rfl, Nat.le_of_ble_eq_true rfl⟩) (rP_V hK hP (ci := 3) (q0 := 0) rfl rfl hPc) rfl rfl hl.1 rfl (lv_room (Nat.le_of_ble_eq_true rfl)) dX3_tie_2 ⟨Nat.le_of_ble_eq_true rfl, Nat.le_of_ble_eq_true rfl⟩)) (fun r2 er2 => ?_)
  specialize h r2 er2
  refine lv_if_eq (tgt := 16) hx hb dX3_tie_5 (by decide) (fun c3 => ?_) (fun c3 => ?_)
  · obtain ⟨h, -⟩ := h
    specialize h c3
    rw [← hQe]
    exact W.vret hx hb hr (fun t ht hW => ⟨⟨fN, rfl, h, by dsimp only; rw [ht]; exact hP⟩, hS.F ht⟩) hS.2.2 dX3_tie_16
  · obtain ⟨-, h⟩ := h
    specialize h c3
    refine lv_aload_n hx hb dX3_tie_8 rfl (lv_at hl 0 rfl) ?_
    refine lv_iload_n hx hb dX3_tie_9 rfl (lv_at hl 2 rfl) ?_
    obtain ⟨Q4, hw9, h⟩ := h
    have hPc : va_P G vwCl [(aN, .inr (3, [.ref aR, .int vn])), (aR, .inl (cy 0, 9, .inl fN))] H := hP.sub [0, 1] rfl
    refine vp_callSi (va_Run.run (va_runV (As := [.int p2]) (rest := []) ⟨hx, hb, hml, hown, hts⟩ (ct_X3_hasNode l G cy aN aR vn fN p2 Q4 hw9) (cwV 1 hts gX3_tie_X3_hasNode rfl rfl rfl (by decide +kernel) ⟨Nat.le_of_ble_eq_true rfl, Nat.le_of_ble_eq_true rfl⟩) (rP_V hK hP (ci := 3) (q0 := 0) rfl rfl hPc) rfl rfl hl.1 rfl (lv_room (Nat.le_of_ble_eq_true rfl)) dX3_tie_10 ⟨Nat.le_of_ble_eq_true rfl, Nat.le_of_ble_eq_true rfl⟩)) (fun r5 er5 => ?_)
    specialize h r5 er5
    refine lv_if_ne (tgt := 17) hx hb dX3_tie_13 (by decide) (fun c6 => ?_) (fun c6 => ?_)
    · obtain ⟨-, h⟩ := h
      specialize h c6
      refine lv_aload_n hx hb dX3_tie_17 rfl (lv_at hl 0 rfl) ?_
      refine va_get (D := G) (ci := 3) (v := .ref aR) (C := RX3) (T := TX3) (N := 2) hx hb hts iwX3 hown hK.1 hP 0 rfl rfl 0 (by decide) fl9 (fun _ h9 => h9) rfl dX3_tie_18 ?_
      refine lv_iload_n hx hb dX3_tie_21 rfl (lv_at hl 1 rfl) ?_
      refine lv_iload_n hx hb dX3_tie_22 rfl (lv_at hl 3 rfl) ?_
      refine lv_if_eq (tgt := 39) hx hb dX3_tie_23 (by decide) (fun c7 => ?_) (fun c7 => ?_)
      · obtain ⟨h, -⟩ := h
        specialize h c7
        refine lv_aload_n hx hb dX3_tie_39 rfl (lv_at hl 0 rfl) ?_
        refine va_get (D := G) (ci := 3) (v := .ref aR) (C := RX3) (T := TX3) (N := 2) hx hb hts iwX3 hown hK.1 hP 0 rfl rfl 0 (by decide) fl9 (fun _ h9 => h9) rfl dX3_tie_40 ?_
        refine lv_iload_n hx hb dX3_tie_43 rfl (lv_at hl 1 rfl) ?_
        obtain ⟨hi, h⟩ := h
        refine va_iald hx hb hK.1 hP 1 0 rfl rfl hi dX3_tie_44 ?_
        refine lv_iconst (v := 1) hx hb dX3_tie_45 (by decide) ?_
        refine lv_iload_n hx hb dX3_tie_46 rfl (lv_at hl 2 rfl) ?_
        refine lv_ishl hx hb dX3_tie_47 ?_
        refine lv_iconst (v := (-1)) hx hb dX3_tie_48 (by decide) ?_
        refine lv_ixor hx hb dX3_tie_49 ?_
        refine lv_iand hx hb dX3_tie_50 ?_
        refine lv_topi (fun x8 ex8 => ?_)
        specialize h x8 ex8
        obtain ⟨hi, h⟩ := h
        refine va_iast hx hb hK.1 hP hD hS 1 0 rfl rfl hi dX3_tie_51 (fun H locs hP hD hS => ?_)
        obtain ⟨f9, ef9⟩ : ∃ z9 : Nat → Int32, z9 = upd fN (p1 : Int32).toNatClampNeg x8 := ⟨_, rfl⟩
        specialize h f9 ef9
        have hP : va_P G vwCl [(aN, .inr (3, [.ref aR, .int vn])), (aR, .inl (cy 0, 9, .inl f9))] H := by rw [ef9]; exact hP
        have hD : va_D A [(aN, .inr (3, [.ref aR, .int vn])), (aR, .inl (cy 0, 9, .inl f9))] := D_same hD rfl
        refine lv_aload_n hx hb dX3_tie_52 rfl (lv_at hl 0 rfl) ?_
        refine va_get (D := G) (ci := 3) (v := .ref aR) (C := RX3) (T := TX3) (N := 2) hx hb hts iwX3 hown hK.1 hP 0 rfl rfl 0 (by decide) fl9 (fun _ h9 => h9) rfl dX3_tie_53 ?_
        refine lv_iload_n hx hb dX3_tie_56 rfl (lv_at hl 2 rfl) ?_
        refine lv_iload_n hx hb dX3_tie_57 rfl (lv_at hl 3 rfl) ?_
        refine lv_if_eq (tgt := 74) hx hb dX3_tie_58 (by decide) (fun c10 => ?_) (fun c10 => ?_)
        · obtain ⟨h, -⟩ := h
          specialize h c10
          refine lv_aload_n hx hb dX3_tie_74 rfl (lv_at hl 0 rfl) ?_
          refine va_get (D := G) (ci := 3) (v := .ref aR) (C := RX3) (T := TX3) (N := 2) hx hb hts iwX3 hown hK.1 hP 0 rfl rfl 0 (by decide) fl9 (fun _ h9 => h9) rfl dX3_tie_75 ?_
          refine lv_iload_n hx hb dX3_tie_78 rfl (lv_at hl 2 rfl) ?_
          obtain ⟨hi, h⟩ := h
          refine va_iald hx hb hK.1 hP 1 0 rfl rfl hi dX3_tie_79 ?_
          refine lv_iconst (v := 1) hx hb dX3_tie_80 (by decide) ?_
          refine lv_iload_n hx hb dX3_tie_81 rfl (lv_at hl 1 rfl) ?_
          refine lv_ishl hx hb dX3_tie_82 ?_
          refine lv_iconst (v := (-1)) hx hb dX3_tie_83 (by decide) ?_
          refine lv_ixor hx hb dX3_tie_84 ?_
          refine lv_iand hx hb dX3_tie_85 ?_
          refine lv_topi (fun x11 ex11 => ?_)
          specialize h x11 ex11
          obtain ⟨hi, h⟩ := h
          refine va_iast hx hb hK.1 hP hD hS 1 0 rfl rfl hi dX3_tie_86 (fun H locs hP hD hS => ?_)
          obtain ⟨f12, ef12⟩ : ∃ z9 : Nat → Int32, z9 = upd f9 (p2 : Int32).toNatClampNeg x11 := ⟨_, rfl⟩
          specialize h f12 ef12
          have hP : va_P G vwCl [(aN, .inr (3, [.ref aR, .int vn])), (aR, .inl (cy 0, 9, .inl f12))] H := by rw [ef12]; exact hP
          have hD : va_D A [(aN, .inr (3, [.ref aR, .int vn])), (aR, .inl (cy 0, 9, .inl f12))] := D_same hD rfl
          rw [← hQe]
          exact W.vret hx hb hr (fun t ht hW => ⟨⟨f12, rfl, h, by dsimp only; rw [ht]; exact hP⟩, hS.F ht⟩) hS.2.2 dX3_tie_87
        · obtain ⟨-, h⟩ := h
          specialize h c10
          refine lv_aload_n hx hb dX3_tie_61 rfl (lv_at hl 0 rfl) ?_
          refine va_get (D := G) (ci := 3) (v := .ref aR) (C := RX3) (T := TX3) (N := 2) hx hb hts iwX3 hown hK.1 hP 0 rfl rfl 0 (by decide) fl9 (fun _ h9 => h9) rfl dX3_tie_62 ?_
          refine lv_iload_n hx hb dX3_tie_65 rfl (lv_at hl 2 rfl) ?_
          obtain ⟨hi, h⟩ := h
          refine va_iald hx hb hK.1 hP 1 0 rfl rfl hi dX3_tie_66 ?_
          refine lv_iconst (v := 1) hx hb dX3_tie_67 (by decide) ?_
          refine lv_iload_n hx hb dX3_tie_68 rfl (lv_at hl 1 rfl) ?_
          refine lv_ishl hx hb dX3_tie_69 ?_
          refine lv_ior hx hb dX3_tie_70 ?_
          refine lv_goto (tgt := 86) hx hb dX3_tie_71 (by decide) ?_
          refine lv_topi (fun x13 ex13 => ?_)
          specialize h x13 ex13
          obtain ⟨hi, h⟩ := h
          refine va_iast hx hb hK.1 hP hD hS 1 0 rfl rfl hi dX3_tie_86 (fun H locs hP hD hS => ?_)
          obtain ⟨f14, ef14⟩ : ∃ z9 : Nat → Int32, z9 = upd f9 (p2 : Int32).toNatClampNeg x13 := ⟨_, rfl⟩
          specialize h f14 ef14
          have hP : va_P G vwCl [(aN, .inr (3, [.ref aR, .int vn])), (aR, .inl (cy 0, 9, .inl f14))] H := by rw [ef14]; exact hP
          have hD : va_D A [(aN, .inr (3, [.ref aR, .int vn])), (aR, .inl (cy 0, 9, .inl f14))] := D_same hD rfl
          rw [← hQe]
          exact W.vret hx hb hr (fun t ht hW => ⟨⟨f14, rfl, h, by dsimp only; rw [ht]; exact hP⟩, hS.F ht⟩) hS.2.2 dX3_tie_87
      · obtain ⟨-, h⟩ := h
        specialize h c7
        refine lv_aload_n hx hb dX3_tie_26 rfl (lv_at hl 0 rfl) ?_
        refine va_get (D := G) (ci := 3) (v := .ref aR) (C := RX3) (T := TX3) (N := 2) hx hb hts iwX3 hown hK.1 hP 0 rfl rfl 0 (by decide) fl9 (fun _ h9 => h9) rfl dX3_tie_27 ?_
        refine lv_iload_n hx hb dX3_tie_30 rfl (lv_at hl 1 rfl) ?_
        obtain ⟨hi, h⟩ := h
        refine va_iald hx hb hK.1 hP 1 0 rfl rfl hi dX3_tie_31 ?_
        refine lv_iconst (v := 1) hx hb dX3_tie_32 (by decide) ?_
        refine lv_iload_n hx hb dX3_tie_33 rfl (lv_at hl 2 rfl) ?_
        refine lv_ishl hx hb dX3_tie_34 ?_
        refine lv_ior hx hb dX3_tie_35 ?_
        refine lv_goto (tgt := 51) hx hb dX3_tie_36 (by decide) ?_
        refine lv_topi (fun x15 ex15 => ?_)
        specialize h x15 ex15
        obtain ⟨hi, h⟩ := h
        refine va_iast hx hb hK.1 hP hD hS 1 0 rfl rfl hi dX3_tie_51 (fun H locs hP hD hS => ?_)
        obtain ⟨f16, ef16⟩ : ∃ z9 : Nat → Int32, z9 = upd fN (p1 : Int32).toNatClampNeg x15 := ⟨_, rfl⟩
        specialize h f16 ef16
        have hP : va_P G vwCl [(aN, .inr (3, [.ref aR, .int vn])), (aR, .inl (cy 0, 9, .inl f16))] H := by rw [ef16]; exact hP
        have hD : va_D A [(aN, .inr (3, [.ref aR, .int vn])), (aR, .inl (cy 0, 9, .inl f16))] := D_same hD rfl
        refine lv_aload_n hx hb dX3_tie_52 rfl (lv_at hl 0 rfl) ?_
        refine va_get (D := G) (ci := 3) (v := .ref aR) (C := RX3) (T := TX3) (N := 2) hx hb hts iwX3 hown hK.1 hP 0 rfl rfl 0 (by decide) fl9 (fun _ h9 => h9) rfl dX3_tie_53 ?_
        refine lv_iload_n hx hb dX3_tie_56 rfl (lv_at hl 2 rfl) ?_
        refine lv_iload_n hx hb dX3_tie_57 rfl (lv_at hl 3 rfl) ?_
        refine lv_if_eq (tgt := 74) hx hb dX3_tie_58 (by decide) (fun c17 => ?_) (fun c17 => ?_)
        · obtain ⟨h, -⟩ := h
          specialize h c17
          refine lv_aload_n hx hb dX3_tie_74 rfl (lv_at hl 0 rfl) ?_
          refine va_get (D := G) (ci := 3) (v := .ref aR) (C := RX3) (T := TX3) (N := 2) hx hb hts iwX3 hown hK.1 hP 0 rfl rfl 0 (by decide) fl9 (fun _ h9 => h9) rfl dX3_tie_75 ?_
          refine lv_iload_n hx hb dX3_tie_78 rfl (lv_at hl 2 rfl) ?_
          obtain ⟨hi, h⟩ := h
          refine va_iald hx hb hK.1 hP 1 0 rfl rfl hi dX3_tie_79 ?_
          refine lv_iconst (v := 1) hx hb dX3_tie_80 (by decide) ?_
          refine lv_iload_n hx hb dX3_tie_81 rfl (lv_at hl 1 rfl) ?_
          refine lv_ishl hx hb dX3_tie_82 ?_
          refine lv_iconst (v := (-1)) hx hb dX3_tie_83 (by decide) ?_
          refine lv_ixor hx hb dX3_tie_84 ?_
          refine lv_iand hx hb dX3_tie_85 ?_
          refine lv_topi (fun x18 ex18 => ?_)
          specialize h x18 ex18
          obtain ⟨hi, h⟩ := h
          refine va_iast hx hb hK.1 hP hD hS 1 0 rfl rfl hi dX3_tie_86 (fun H locs hP hD hS => ?_)
          obtain ⟨f19, ef19⟩ : ∃ z9 : Nat → Int32, z9 = upd f16 (p2 : Int32).toNatClampNeg x18 := ⟨_, rfl⟩
          specialize h f19 ef19
          have hP : va_P G vwCl [(aN, .inr (3, [.ref aR, .int vn])), (aR, .inl (cy 0, 9, .inl f19))] H := by rw [ef19]; exact hP
          have hD : va_D A [(aN, .inr (3, [.ref aR, .int vn])), (aR, .inl (cy 0, 9, .inl f19))] := D_same hD rfl
          rw [← hQe]
          exact W.vret hx hb hr (fun t ht hW => ⟨⟨f19, rfl, h, by dsimp only; rw [ht]; exact hP⟩, hS.F ht⟩) hS.2.2 dX3_tie_87
        · obtain ⟨-, h⟩ := h
          specialize h c17
          refine lv_aload_n hx hb dX3_tie_61 rfl (lv_at hl 0 rfl) ?_
          refine va_get (D := G) (ci := 3) (v := .ref aR) (C := RX3) (T := TX3) (N := 2) hx hb hts iwX3 hown hK.1 hP 0 rfl rfl 0 (by decide) fl9 (fun _ h9 => h9) rfl dX3_tie_62 ?_
          refine lv_iload_n hx hb dX3_tie_65 rfl (lv_at hl 2 rfl) ?_
          obtain ⟨hi, h⟩ := h
          refine va_iald hx hb hK.1 hP 1 0 rfl rfl hi dX3_tie_66 ?_
          refine lv_iconst (v := 1) hx hb dX3_tie_67 (by decide) ?_
          refine lv_iload_n hx hb dX3_tie_68 rfl (lv_at hl 1 rfl) ?_
          refine lv_ishl hx hb dX3_tie_69 ?_
          refine lv_ior hx hb dX3_tie_70 ?_
          refine lv_goto (tgt := 86) hx hb dX3_tie_71 (by decide) ?_
          refine lv_topi (fun x20 ex20 => ?_)
          specialize h x20 ex20
          obtain ⟨hi, h⟩ := h
          refine va_iast hx hb hK.1 hP hD hS 1 0 rfl rfl hi dX3_tie_86 (fun H locs hP hD hS => ?_)
          obtain ⟨f21, ef21⟩ : ∃ z9 : Nat → Int32, z9 = upd f16 (p2 : Int32).toNatClampNeg x20 := ⟨_, rfl⟩
          specialize h f21 ef21
          have hP : va_P G vwCl [(aN, .inr (3, [.ref aR, .int vn])), (aR, .inl (cy 0, 9, .inl f21))] H := by rw [ef21]; exact hP
          have hD : va_D A [(aN, .inr (3, [.ref aR, .int vn])), (aR, .inl (cy 0, 9, .inl f21))] := D_same hD rfl
          rw [← hQe]
          exact W.vret hx hb hr (fun t ht hW => ⟨⟨f21, rfl, h, by dsimp only; rw [ht]; exact hP⟩, hS.F ht⟩) hS.2.2 dX3_tie_87
    · obtain ⟨h, -⟩ := h
      specialize h c6
      rw [← hQe]
      exact W.vret hx hb hr (fun t ht hW => ⟨⟨fN, rfl, h, by dsimp only; rw [ht]; exact hP⟩, hS.F ht⟩) hS.2.2 dX3_tie_16

set_option maxHeartbeats 4000000 in
set_option maxRecDepth 100000 in
theorem ct_X3_form (l : Launch) (G : va_G) (cy : Nat → ClassId) (aN aR : Nat) (sz : Nat) (vn : Int32) (fN : Nat → Int32) (p1 : Int32) (Q : Int32 → (Nat → Int32) → Prop) (h : wp_X3_form vn fN p1 Q) : Met l yX3_form wsX3_form rmX3_form (va_Pc [.ref aN, .int p1] (wP G cy sz [(aN, .inr (3, [.ref aR, .int vn])), (aR, .inl (cy 0, 9, .inl fN))])) (va_Qv (fun (u : Int32 × (Nat → Int32)) => Q u.1 u.2) (fun (u : Int32 × (Nat → Int32)) (t : State) => va_P G vwCl [(aN, .inr (3, [.ref aR, .int u.1])), (aR, .inl (cy 0, 9, .inl u.2))] t.heap) (va_A [(aN, .inr (3, [.ref aR, .int vn])), (aR, .inl (cy 0, 9, .inl fN))] sz)) 0 0 (va_A [(aN, .inr (3, [.ref aR, .int vn])), (aR, .inl (cy 0, 9, .inl fN))] sz) := by
  unfold wp_X3_form at h
  refine Met.ofW (cc := cX3_form) (maxL := 4) (ret := none) (by decide) rfl ?_
  intro p e s m args below meth c s₁ B hml hv
  obtain ⟨hav, hsz, hP, hK, hD0⟩ := hv
  have hx := B.exec
  have hb := B.bytes
  have hr := B.returns
  have hts := atoms_spec (ws := wsX3_form) B.pre
  have hown : s.vm.findClass RX3 = some m.cls := findClass_of_methodNamed B.named
  have hlocks := B.notSynchronized
  subst hsz
  have hD := hD0.self (sz := s.heap.size)
  generalize hAe : va_A [(aN, .inr (3, [.ref aR, .int vn])), (aR, .inl (cy 0, 9, .inl fN))] s.heap.size = A at hD ⊢
  have hA : ∀ q : Nat, s.heap.size ≤ q → A q := fun q h9 => by rw [← hAe]; exact Or.inr h9
  have hS : va_S A s.heap s.heap [] := va_S.rf
  have hl := lv_entry ([.ref aN, .int p1]) (n := 4) (Nat.le_of_ble_eq_true rfl)
  rw [show entryFrame m args 4 = entryFrame m ([.ref aN, .int p1] : List Value).toArray 4 by rw [hav], lg_entry_eq]
  generalize (lg_sl ([.ref aN, .int p1]) ++ List.replicate (4 - (lg_sl ([.ref aN, .int p1])).length) Slot.unset).toArray = ls at hl ⊢
  have hl : lv_has ls 4 [(0, .ref aN), (1, .int p1)] := hl
  generalize hQe : MQ below _ _ _ _ _ _ = QM
  have hP : va_P G vwCl [(aN, .inr (3, [.ref aR, .int vn])), (aR, .inl (cy 0, 9, .inl fN))] s.heap := hP
  have iwX3 : ∀ w ∈ wsX30, w ∈ wsX3_form := by decide +kernel
  have fl15 := hts (.fieldLink RX3 15 "SlidTokens$Net" "nodes" "I") (by decide +kernel)
  suffices K9 : ∀ (H : Heap) (locs : List Loc), va_P G vwCl [(aN, .inr (3, [.ref aR, .int vn])), (aR, .inl (cy 0, 9, .inl fN))] H → va_D A [(aN, .inr (3, [.ref aR, .int vn])), (aR, .inl (cy 0, 9, .inl fN))] → va_S A s.heap H locs → W p l e (headSpec wsX3_form rmX3_form).room s m args below meth c H locs 0 0 QM (F0 m 0 ls []) from K9 _ _ hP hD hS
  clear hP hD hS
  intro H locs hP hD hS
  refine lv_aload_n hx hb dX3_form_0 rfl (lv_at hl 0 rfl) ?_
  refine lv_aload_n hx hb dX3_form_1 rfl (lv_at hl 0 rfl) ?_
  refine va_get (D := G) (ci := 3) (v := .int vn) (C := RX3) (T := TX3) (N := 2) hx hb hts iwX3 hown hK.1 hP 0 rfl rfl 1 (by decide) fl15 (fun _ h9 => h9) rfl dX3_form_2 ?_
  obtain ⟨Q1, hw9, h⟩ := h
  have hPc : va_P G vwCl [(aN, .inr (3, [.ref aR, .int vn])), (aR, .inl (cy 0, 9, .inl fN))] H := hP.sub [0, 1] rfl
  have hDc : va_D A [(aN, .inr (3, [.ref aR, .int vn])), (aR, .inl (cy 0, 9, .inl fN))] := hD.sub [0, 1] (by decide) rfl
  have hFc := va_free (wc := [(aN, .inr (3, [.ref aR, .int vn])), (aR, .inl (cy 0, 9, .inl fN))]) hD hS hA [0, 1] rfl
  refine va_callv (va_runV (As := [.int vn]) (rest := []) ⟨hx, hb, hml, hown, hts⟩ (ct_X3_restart l G cy aN aR H.size vn fN vn Q1 hw9) (cwV 1 hts gX3_form_X3_restart rfl rfl rfl (by decide +kernel) ⟨Nat.le_of_ble_eq_true rfl, Nat.le_of_ble_eq_true rfl⟩) (wP_V hK hP (ci := 3) (q0 := 0) rfl rfl hPc hDc) rfl rfl hl.1 rfl (lv_room (Nat.le_of_ble_eq_true rfl)) dX3_form_5 ⟨Nat.le_of_ble_eq_true rfl, Nat.le_of_ble_eq_true rfl⟩) hS (fun q9 _ h9 => hFc q9 h9) hFc (fun u9 t9 H locs ht9 hvm9 hw9 hB9 hz9 hk9 hS => ?_)
  obtain ⟨z3, f4⟩ := u9
  have hP : va_P G vwCl [(aN, .inr (3, [.ref aR, .int z3])), (aR, .inl (cy 0, 9, .inl f4))] H := P_back [0, 1] [] 2 hP hD rfl rfl rfl rfl (by decide) (by decide) hk9 (by rw [← ht9]; exact hB9)
  have hD : va_D A [(aN, .inr (3, [.ref aR, .int z3])), (aR, .inl (cy 0, 9, .inl f4))] := D_same hD rfl
  specialize h z3 f4 hw9
  refine lv_iconst (v := 0) hx hb dX3_form_8 (by decide) ?_
  refine lv_istore_n (lv' := [(2, .int 0), (0, .ref aN), (1, .int p1)]) hx hb dX3_form_9 rfl hl (by decide) rfl (fun ls hl => ?_)
  obtain ⟨I10_6, u10_6, h010, hst10⟩ := h
  have key10 : ∀ (k9 : Nat) (y5 : Int32) (f6 : Nat → Int32), I10_6 y5 f6 → u10_6 y5 f6 < k9 → ∀ (H : Heap) (locs : List Loc), va_P G vwCl [(aN, .inr (3, [.ref aR, .int z3])), (aR, .inl (cy 0, 9, .inl f6))] H → va_D A [(aN, .inr (3, [.ref aR, .int z3])), (aR, .inl (cy 0, 9, .inl f6))] → va_S A s.heap H locs → ∀ (ls : Array Slot), lv_has ls 4 [(0, .ref aN), (1, .int p1), (2, .int y5)] → W p l e (headSpec wsX3_form rmX3_form).room s m args below meth c H locs 0 0 QM (F0 m 10 ls []) := by
    intro k9
    induction k9 with
    | zero =>
      intro y5 f6 hI9 hk9
      exact absurd hk9 (Nat.not_lt_zero _)
    | succ k9 ih10 =>
      intro y5 f6 hI9 hk10 H locs hP hD hS ls hl
      have h := hst10 y5 f6 hI9
      refine lv_iload_n hx hb dX3_form_10 rfl (lv_at hl 2 rfl) ?_
      refine lv_aload_n hx hb dX3_form_11 rfl (lv_at hl 0 rfl) ?_
      refine va_get (D := G) (ci := 3) (v := .int z3) (C := RX3) (T := TX3) (N := 2) hx hb hts iwX3 hown hK.1 hP 0 rfl rfl 1 (by decide) fl15 (fun _ h9 => h9) rfl dX3_form_12 ?_
      refine lv_icmp_ge (tgt := 55) hx hb dX3_form_15 (by decide) (fun c7 => ?_) (fun c7 => ?_)
      · obtain ⟨h, -⟩ := h
        specialize h c7
        rw [← hQe]
        exact W.vret hx hb hr (fun t ht hW => ⟨⟨(z3, f6), rfl, h, by dsimp only; rw [ht]; exact hP⟩, hS.F ht⟩) hS.2.2 dX3_form_55
      · obtain ⟨-, h⟩ := h
        specialize h c7
        refine lv_iload_n hx hb dX3_form_18 rfl (lv_at hl 2 rfl) ?_
        refine lv_iconst (v := 1) hx hb dX3_form_19 (by decide) ?_
        refine lv_iadd hx hb dX3_form_20 ?_
        refine lv_topi (fun x8 ex8 => ?_)
        specialize h x8 ex8
        refine lv_istore_n (lv' := [(3, .int x8), (0, .ref aN), (1, .int p1), (2, .int y5)]) hx hb dX3_form_21 rfl hl (by decide) rfl (fun ls hl => ?_)
        obtain ⟨I22_10, u22_10, h022, hst22⟩ := h
        have key22 : ∀ (k9 : Nat) (y9 : Int32) (f10 : Nat → Int32), I22_10 y9 f10 → u22_10 y9 f10 < k9 → ∀ (H : Heap) (locs : List Loc), va_P G vwCl [(aN, .inr (3, [.ref aR, .int z3])), (aR, .inl (cy 0, 9, .inl f10))] H → va_D A [(aN, .inr (3, [.ref aR, .int z3])), (aR, .inl (cy 0, 9, .inl f10))] → va_S A s.heap H locs → ∀ (ls : Array Slot), lv_has ls 4 [(0, .ref aN), (1, .int p1), (2, .int y5), (3, .int y9)] → W p l e (headSpec wsX3_form rmX3_form).room s m args below meth c H locs 0 0 QM (F0 m 22 ls []) := by
          intro k9
          induction k9 with
          | zero =>
            intro y9 f10 hI9 hk9
            exact absurd hk9 (Nat.not_lt_zero _)
          | succ k9 ih22 =>
            intro y9 f10 hI9 hk22 H locs hP hD hS ls hl
            have h := hst22 y9 f10 hI9
            refine lv_iload_n hx hb dX3_form_22 rfl (lv_at hl 3 rfl) ?_
            refine lv_aload_n hx hb dX3_form_23 rfl (lv_at hl 0 rfl) ?_
            refine va_get (D := G) (ci := 3) (v := .int z3) (C := RX3) (T := TX3) (N := 2) hx hb hts iwX3 hown hK.1 hP 0 rfl rfl 1 (by decide) fl15 (fun _ h9 => h9) rfl dX3_form_24 ?_
            refine lv_icmp_ge (tgt := 49) hx hb dX3_form_27 (by decide) (fun c11 => ?_) (fun c11 => ?_)
            · obtain ⟨h, -⟩ := h
              specialize h c11
              obtain ⟨x12, ex12⟩ : ∃ y : Int32, y = y5 + 1 := ⟨_, rfl⟩
              specialize h x12 ex12
              refine lv_iinc (v := x12) (lv' := [(2, .int x12), (0, .ref aN), (1, .int p1), (3, .int y9)]) hx hb dX3_form_49 hl (k := 2) rfl (by rw [ex12]; rfl) (by decide) rfl (fun ls hl => ?_)
              refine lv_goto (tgt := 10) hx hb dX3_form_52 (by decide) ?_
              exact ih10 x12 f10 h.1 (Nat.lt_of_lt_of_le h.2 (Nat.le_of_lt_succ hk10)) _ _ hP hD hS _ (lv_sub hl [1, 2, 0] rfl)
            · obtain ⟨-, h⟩ := h
              specialize h c11
              refine lv_aload_n hx hb dX3_form_30 rfl (lv_at hl 0 rfl) ?_
              refine lv_iload_n hx hb dX3_form_31 rfl (lv_at hl 2 rfl) ?_
              refine lv_iload_n hx hb dX3_form_32 rfl (lv_at hl 3 rfl) ?_
              refine lv_aload_n hx hb dX3_form_33 rfl (lv_at hl 0 rfl) ?_
              refine lv_iload_n hx hb dX3_form_34 rfl (lv_at hl 1 rfl) ?_
              refine lv_iload_n hx hb dX3_form_35 rfl (lv_at hl 2 rfl) ?_
              refine lv_iload_n hx hb dX3_form_36 rfl (lv_at hl 3 rfl) ?_
              obtain ⟨Q13, hw9, h⟩ := h
              have hPc : va_P G vwCl [(aN, .inr (3, [.ref aR, .int z3])), (aR, .inl (cy 0, 9, .inl f10))] H := hP.sub [0, 1] rfl
              refine vp_callSi (va_Run.run (va_runV (As := [.int p1, .int y5, .int y9]) (rest := [.int y9, .int y5, .ref aN]) ⟨hx, hb, hml, hown, hts⟩ (ct_X3_isInShape l G cy aN aR z3 f10 p1 y5 y9 Q13 hw9) (cwV 3 hts gX3_form_X3_isInShape rfl rfl rfl (by decide +kernel) ⟨Nat.le_of_ble_eq_true rfl, Nat.le_of_ble_eq_true rfl⟩) (rP_V hK hP (ci := 3) (q0 := 0) rfl rfl hPc) rfl rfl hl.1 rfl (lv_room (Nat.le_of_ble_eq_true rfl)) dX3_form_37 ⟨Nat.le_of_ble_eq_true rfl, Nat.le_of_ble_eq_true rfl⟩)) (fun r14 er14 => ?_)
              specialize h r14 er14
              obtain ⟨Q15, hw9, h⟩ := h
              have hPc : va_P G vwCl [(aN, .inr (3, [.ref aR, .int z3])), (aR, .inl (cy 0, 9, .inl f10))] H := hP.sub [0, 1] rfl
              have hDc : va_D A [(aN, .inr (3, [.ref aR, .int z3])), (aR, .inl (cy 0, 9, .inl f10))] := hD.sub [0, 1] (by decide) rfl
              have hFc := va_free (wc := [(aN, .inr (3, [.ref aR, .int z3])), (aR, .inl (cy 0, 9, .inl f10))]) hD hS hA [0, 1] rfl
              refine va_callv (va_runV (As := [.int y5, .int y9, .int r14]) (rest := []) ⟨hx, hb, hml, hown, hts⟩ (ct_X3_tie l G cy aN aR H.size z3 f10 y5 y9 r14 Q15 hw9) (cwV 3 hts gX3_form_X3_tie rfl rfl rfl (by decide +kernel) ⟨Nat.le_of_ble_eq_true rfl, Nat.le_of_ble_eq_true rfl⟩) (wP_V hK hP (ci := 3) (q0 := 0) rfl rfl hPc hDc) rfl rfl hl.1 rfl (lv_room (Nat.le_of_ble_eq_true rfl)) dX3_form_40 ⟨Nat.le_of_ble_eq_true rfl, Nat.le_of_ble_eq_true rfl⟩) hS (fun q9 _ h9 => hFc q9 h9) hFc (fun u9 t9 H locs ht9 hvm9 hw9 hB9 hz9 hk9 hS => ?_)
              obtain ⟨f17, rfl⟩ : ∃ z9, z9 = u9 := ⟨_, rfl⟩
              have hP : va_P G vwCl [(aN, .inr (3, [.ref aR, .int z3])), (aR, .inl (cy 0, 9, .inl f17))] H := P_back [0, 1] [] 2 hP hD rfl rfl rfl rfl (by decide) (by decide) hk9 (by rw [← ht9]; exact hB9)
              have hD : va_D A [(aN, .inr (3, [.ref aR, .int z3])), (aR, .inl (cy 0, 9, .inl f17))] := D_same hD rfl
              specialize h f17 hw9
              obtain ⟨x18, ex18⟩ : ∃ y : Int32, y = y9 + 1 := ⟨_, rfl⟩
              specialize h x18 ex18
              refine lv_iinc (v := x18) (lv' := [(3, .int x18), (0, .ref aN), (1, .int p1), (2, .int y5)]) hx hb dX3_form_43 hl (k := 3) rfl (by rw [ex18]; rfl) (by decide) rfl (fun ls hl => ?_)
              refine lv_goto (tgt := 22) hx hb dX3_form_46 (by decide) ?_
              exact ih22 x18 f17 h.1 (Nat.lt_of_lt_of_le h.2 (Nat.le_of_lt_succ hk22)) _ _ hP hD hS _ (lv_sub hl [1, 2, 3, 0] rfl)
        exact key22 _ x8 f6 h022 (Nat.lt_succ_self _) _ _ hP hD hS _ (lv_sub hl [1, 2, 3, 0] rfl)
  exact key10 _ 0 f4 h010 (Nat.lt_succ_self _) _ _ hP hD hS _ (lv_sub hl [1, 2, 0] rfl)
