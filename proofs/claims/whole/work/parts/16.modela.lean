set_option maxHeartbeats 4000000 in
set_option maxRecDepth 100000 in
theorem ct_X9_isSet (l : Launch) (G : va_G) (cy : Nat → ClassId) (m0 mJ mF mD mS mP : Nat) (kn : Int32) (kFe : Int32) (kMo : Int32) (kCo : Int32) (kT : Int64) (jJ : Nat → Int32) (p1 : Int32) (Q : Int32 → Prop) (h : wp_X9_isSet kn p1 Q) : Met l yX9_isSet wsX9_isSet rmX9_isSet (va_Pc [.ref m0, .int p1] (rP G cy [(m0, .inr (8, [.int kn, .ref mJ, .int kFe, .int kMo, .int kCo, .long kT, .ref mF, .ref mD, .ref mS, .ref mP])), (mJ, .inl (cy 0, 9, .inl jJ))])) (vp_Si Q) 0 0 (fun _ => False) := by
  unfold wp_X9_isSet at h
  refine Met.ofW (cc := cX9_isSet) (maxL := 2) (ret := (some .boolean)) (by decide) rfl ?_
  intro p e s m args below meth c s₁ B hml hv
  obtain ⟨hav, hP, hK⟩ := hv
  have hx := B.exec
  have hb := B.bytes
  have hr := B.returns
  have hts := atoms_spec (ws := wsX9_isSet) B.pre
  have hown : s.vm.findClass RX9 = some m.cls := findClass_of_methodNamed B.named
  have hlocks := B.notSynchronized
  have hl := lv_entry ([.ref m0, .int p1]) (n := 2) (Nat.le_of_ble_eq_true rfl)
  rw [show entryFrame m args 2 = entryFrame m ([.ref m0, .int p1] : List Value).toArray 2 by rw [hav], lg_entry_eq]
  generalize (lg_sl ([.ref m0, .int p1]) ++ List.replicate (2 - (lg_sl ([.ref m0, .int p1])).length) Slot.unset).toArray = ls at hl ⊢
  have hl : lv_has ls 2 [(0, .ref m0), (1, .int p1)] := hl
  generalize hQe : MQ below _ _ _ _ _ _ = QM
  have iwX9 : ∀ w ∈ wsX90, w ∈ wsX9_isSet := by decide +kernel
  have fl7 := hts (.fieldLink RX9 7 "SlidTokensModel" "n" "I") (by decide +kernel)
  refine lv_iload_n hx hb dX9_isSet_0 rfl (lv_at hl 1 rfl) ?_
  refine lv_iconst (v := 0) hx hb dX9_isSet_1 (by decide) ?_
  refine lv_iconst (v := 1) hx hb dX9_isSet_2 (by decide) ?_
  refine lv_aload_n hx hb dX9_isSet_3 rfl (lv_at hl 0 rfl) ?_
  refine va_get (D := G) (ci := 8) (v := .int kn) (C := RX9) (T := TX9) (N := 10) hx hb hts iwX9 hown hK.1 hP 0 rfl rfl 0 (by decide) fl7 (fun _ h9 => h9) rfl dX9_isSet_4 ?_
  refine lv_ishl hx hb dX9_isSet_7 ?_
  refine lv_iconst (v := 1) hx hb dX9_isSet_8 (by decide) ?_
  refine lv_isub hx hb dX9_isSet_9 ?_
  obtain ⟨Q1, hw9, h⟩ := h
  have hPc : va_P G vwCl [] s.heap := P_nil
  refine vp_callSi (va_Run.run (va_runS (As := [.int p1, .int 0, .int (((1 : Int32) <<< (kn &&& 31)) - (1 : Int32))]) (rest := []) ⟨hx, hb, hml, hown, hts⟩ (ct_X9_in l G cy p1 0 (((1 : Int32) <<< (kn &&& 31)) - (1 : Int32)) Q1 hw9) (va_cwS 3 hts gX9_isSet_X9_in rfl rfl rfl (by decide +kernel) ⟨Nat.le_of_ble_eq_true rfl, Nat.le_of_ble_eq_true rfl⟩) (rP_S hK hPc) rfl rfl hl.1 rfl (lv_room (Nat.le_of_ble_eq_true rfl)) dX9_isSet_10 ⟨Nat.le_of_ble_eq_true rfl, Nat.le_of_ble_eq_true rfl⟩)) (fun r2 er2 => ?_)
  specialize h r2 er2
  rw [← hQe]
  exact W.zret (v := r2) hx hb hr h.1 (fun t ht hW => ⟨r2, rfl, h.2, ht⟩) (fun q9 h9 => by cases h9) dX9_isSet_13

set_option maxHeartbeats 4000000 in
set_option maxRecDepth 100000 in
theorem ct_X9_isNode (l : Launch) (G : va_G) (cy : Nat → ClassId) (m0 mJ mF mD mS mP : Nat) (kn : Int32) (kFe : Int32) (kMo : Int32) (kCo : Int32) (kT : Int64) (jJ : Nat → Int32) (p1 : Int32) (Q : Int32 → Prop) (h : wp_X9_isNode kn p1 Q) : Met l yX9_isNode wsX9_isNode rmX9_isNode (va_Pc [.ref m0, .int p1] (rP G cy [(m0, .inr (8, [.int kn, .ref mJ, .int kFe, .int kMo, .int kCo, .long kT, .ref mF, .ref mD, .ref mS, .ref mP])), (mJ, .inl (cy 0, 9, .inl jJ))])) (vp_Si Q) 0 0 (fun _ => False) := by
  unfold wp_X9_isNode at h
  refine Met.ofW (cc := cX9_isNode) (maxL := 2) (ret := (some .boolean)) (by decide) rfl ?_
  intro p e s m args below meth c s₁ B hml hv
  obtain ⟨hav, hP, hK⟩ := hv
  have hx := B.exec
  have hb := B.bytes
  have hr := B.returns
  have hts := atoms_spec (ws := wsX9_isNode) B.pre
  have hown : s.vm.findClass RX9 = some m.cls := findClass_of_methodNamed B.named
  have hlocks := B.notSynchronized
  have hl := lv_entry ([.ref m0, .int p1]) (n := 2) (Nat.le_of_ble_eq_true rfl)
  rw [show entryFrame m args 2 = entryFrame m ([.ref m0, .int p1] : List Value).toArray 2 by rw [hav], lg_entry_eq]
  generalize (lg_sl ([.ref m0, .int p1]) ++ List.replicate (2 - (lg_sl ([.ref m0, .int p1])).length) Slot.unset).toArray = ls at hl ⊢
  have hl : lv_has ls 2 [(0, .ref m0), (1, .int p1)] := hl
  generalize hQe : MQ below _ _ _ _ _ _ = QM
  have iwX9 : ∀ w ∈ wsX90, w ∈ wsX9_isNode := by decide +kernel
  have fl7 := hts (.fieldLink RX9 7 "SlidTokensModel" "n" "I") (by decide +kernel)
  refine lv_iload_n hx hb dX9_isNode_0 rfl (lv_at hl 1 rfl) ?_
  refine lv_iconst (v := 0) hx hb dX9_isNode_1 (by decide) ?_
  refine lv_aload_n hx hb dX9_isNode_2 rfl (lv_at hl 0 rfl) ?_
  refine va_get (D := G) (ci := 8) (v := .int kn) (C := RX9) (T := TX9) (N := 10) hx hb hts iwX9 hown hK.1 hP 0 rfl rfl 0 (by decide) fl7 (fun _ h9 => h9) rfl dX9_isNode_3 ?_
  refine lv_iconst (v := 1) hx hb dX9_isNode_6 (by decide) ?_
  refine lv_isub hx hb dX9_isNode_7 ?_
  obtain ⟨Q1, hw9, h⟩ := h
  have hPc : va_P G vwCl [] s.heap := P_nil
  refine vp_callSi (va_Run.run (va_runS (As := [.int p1, .int 0, .int (kn - (1 : Int32))]) (rest := []) ⟨hx, hb, hml, hown, hts⟩ (ct_X9_in l G cy p1 0 (kn - (1 : Int32)) Q1 hw9) (va_cwS 3 hts gX9_isNode_X9_in rfl rfl rfl (by decide +kernel) ⟨Nat.le_of_ble_eq_true rfl, Nat.le_of_ble_eq_true rfl⟩) (rP_S hK hPc) rfl rfl hl.1 rfl (lv_room (Nat.le_of_ble_eq_true rfl)) dX9_isNode_8 ⟨Nat.le_of_ble_eq_true rfl, Nat.le_of_ble_eq_true rfl⟩)) (fun r2 er2 => ?_)
  specialize h r2 er2
  rw [← hQe]
  exact W.zret (v := r2) hx hb hr h.1 (fun t ht hW => ⟨r2, rfl, h.2, ht⟩) (fun q9 h9 => by cases h9) dX9_isNode_11

set_option maxHeartbeats 4000000 in
set_option maxRecDepth 100000 in
theorem ct_X9_pairs (l : Launch) (G : va_G) (cy : Nat → ClassId) (m0 mJ mF mD mS mP : Nat) (kn : Int32) (kFe : Int32) (kMo : Int32) (kCo : Int32) (kT : Int64) (jJ : Nat → Int32) (Q : Int32 → Prop) (h : wp_X9_pairs kn jJ Q) : Met l yX9_pairs wsX9_pairs rmX9_pairs (va_Pc [.ref m0] (rP G cy [(m0, .inr (8, [.int kn, .ref mJ, .int kFe, .int kMo, .int kCo, .long kT, .ref mF, .ref mD, .ref mS, .ref mP])), (mJ, .inl (cy 0, 9, .inl jJ))])) (vp_Si Q) 0 0 (fun _ => False) := by
  unfold wp_X9_pairs at h
  refine Met.ofW (cc := cX9_pairs) (maxL := 3) (ret := (some .int)) (by decide) rfl ?_
  intro p e s m args below meth c s₁ B hml hv
  obtain ⟨hav, hP, hK⟩ := hv
  have hx := B.exec
  have hb := B.bytes
  have hr := B.returns
  have hts := atoms_spec (ws := wsX9_pairs) B.pre
  have hown : s.vm.findClass RX9 = some m.cls := findClass_of_methodNamed B.named
  have hlocks := B.notSynchronized
  have hl := lv_entry ([.ref m0]) (n := 3) (Nat.le_of_ble_eq_true rfl)
  rw [show entryFrame m args 3 = entryFrame m ([.ref m0] : List Value).toArray 3 by rw [hav], lg_entry_eq]
  generalize (lg_sl ([.ref m0]) ++ List.replicate (3 - (lg_sl ([.ref m0])).length) Slot.unset).toArray = ls at hl ⊢
  have hl : lv_has ls 3 [(0, .ref m0)] := hl
  generalize hQe : MQ below _ _ _ _ _ _ = QM
  have iwX9 : ∀ w ∈ wsX90, w ∈ wsX9_pairs := by decide +kernel
  have fl7 := hts (.fieldLink RX9 7 "SlidTokensModel" "n" "I") (by decide +kernel)
  have fl13 := hts (.fieldLink RX9 13 "SlidTokensModel" "joined" "[I") (by decide +kernel)
  refine lv_iconst (v := 0) hx hb dX9_pairs_0 (by decide) ?_
  refine lv_istore_n (lv' := [(1, .int 0), (0, .ref m0)]) hx hb dX9_pairs_1 rfl hl (by decide) rfl (fun ls hl => ?_)
  refine lv_iconst (v := 0) hx hb dX9_pairs_2 (by decide) ?_
  refine lv_istore_n (lv' := [(2, .int 0), (1, .int 0), (0, .ref m0)]) hx hb dX9_pairs_3 rfl hl (by decide) rfl (fun ls hl => ?_)
  obtain ⟨I4_2, u4_2, h04, hst4⟩ := h
  have key4 : ∀ (k9 : Nat) (y1 : Int32) (y2 : Int32), I4_2 y1 y2 → u4_2 y1 y2 < k9 → ∀ (ls : Array Slot), lv_has ls 3 [(0, .ref m0), (1, .int y1), (2, .int y2)] → W p l e (headSpec wsX9_pairs rmX9_pairs).room s m args below meth c s.heap [] 0 0 QM (F0 m 4 ls []) := by
    intro k9
    induction k9 with
    | zero =>
      intro y1 y2 hI9 hk9
      exact absurd hk9 (Nat.not_lt_zero _)
    | succ k9 ih4 =>
      intro y1 y2 hI9 hk4 ls hl
      have h := hst4 y1 y2 hI9
      refine lv_iload_n hx hb dX9_pairs_4 rfl (lv_at hl 2 rfl) ?_
      refine lv_aload_n hx hb dX9_pairs_5 rfl (lv_at hl 0 rfl) ?_
      refine va_get (D := G) (ci := 8) (v := .int kn) (C := RX9) (T := TX9) (N := 10) hx hb hts iwX9 hown hK.1 hP 0 rfl rfl 0 (by decide) fl7 (fun _ h9 => h9) rfl dX9_pairs_6 ?_
      refine lv_icmp_ge (tgt := 30) hx hb dX9_pairs_9 (by decide) (fun c3 => ?_) (fun c3 => ?_)
      · obtain ⟨h, -⟩ := h
        specialize h c3
        refine lv_iload_n hx hb dX9_pairs_30 rfl (lv_at hl 1 rfl) ?_
        refine lv_iconst (v := 2) hx hb dX9_pairs_31 (by decide) ?_
        refine lv_idiv hx hb dX9_pairs_32 (by decide) ?_
        rw [← hQe]
        exact W.iret (v := (y1 / (2 : Int32))) hx hb hr (fun t ht hW => ⟨(y1 / (2 : Int32)), rfl, h, ht⟩) (fun q9 h9 => by cases h9) dX9_pairs_33
      · obtain ⟨-, h⟩ := h
        specialize h c3
        refine lv_iload_n hx hb dX9_pairs_12 rfl (lv_at hl 1 rfl) ?_
        refine lv_aload_n hx hb dX9_pairs_13 rfl (lv_at hl 0 rfl) ?_
        refine va_get (D := G) (ci := 8) (v := .ref mJ) (C := RX9) (T := TX9) (N := 10) hx hb hts iwX9 hown hK.1 hP 0 rfl rfl 1 (by decide) fl13 (fun _ h9 => h9) rfl dX9_pairs_14 ?_
        refine lv_iload_n hx hb dX9_pairs_17 rfl (lv_at hl 2 rfl) ?_
        obtain ⟨hi, h⟩ := h
        refine va_iald hx hb hK.1 hP 1 0 rfl rfl hi dX9_pairs_18 ?_
        obtain ⟨Q4, hw9, h⟩ := h
        have hPc : va_P G vwCl [] s.heap := P_nil
        refine vp_callSi (va_Run.run (va_runS (As := [.int (jJ (y2 : Int32).toNatClampNeg)]) (rest := [.int y1]) ⟨hx, hb, hml, hown, hts⟩ (ct_X9_size l G cy (jJ (y2 : Int32).toNatClampNeg) Q4 hw9) (va_cwS 1 hts gX9_pairs_X9_size rfl rfl rfl (by decide +kernel) ⟨Nat.le_of_ble_eq_true rfl, Nat.le_of_ble_eq_true rfl⟩) (rP_S hK hPc) rfl rfl hl.1 rfl (lv_room (Nat.le_of_ble_eq_true rfl)) dX9_pairs_19 ⟨Nat.le_of_ble_eq_true rfl, Nat.le_of_ble_eq_true rfl⟩)) (fun r5 er5 => ?_)
        specialize h r5 er5
        refine lv_iadd hx hb dX9_pairs_22 ?_
        refine lv_topi (fun x6 ex6 => ?_)
        specialize h x6 ex6
        refine lv_istore_n (lv' := [(1, .int x6), (0, .ref m0), (2, .int y2)]) hx hb dX9_pairs_23 rfl hl (by decide) rfl (fun ls hl => ?_)
        obtain ⟨x7, ex7⟩ : ∃ y : Int32, y = y2 + 1 := ⟨_, rfl⟩
        specialize h x7 ex7
        refine lv_iinc (v := x7) (lv' := [(2, .int x7), (1, .int x6), (0, .ref m0)]) hx hb dX9_pairs_24 hl (k := 2) rfl (by rw [ex7]; rfl) (by decide) rfl (fun ls hl => ?_)
        refine lv_goto (tgt := 4) hx hb dX9_pairs_27 (by decide) ?_
        exact ih4 x6 x7 h.1 (Nat.lt_of_lt_of_le h.2 (Nat.le_of_lt_succ hk4)) _ (lv_sub hl [2, 1, 0] rfl)
  exact key4 _ 0 0 h04 (Nat.lt_succ_self _) _ (lv_sub hl [2, 1, 0] rfl)

set_option maxHeartbeats 4000000 in
set_option maxRecDepth 100000 in
theorem ct_X9_isLawful (l : Launch) (G : va_G) (cy : Nat → ClassId) (m0 mJ mF mD mS mP : Nat) (kn : Int32) (kFe : Int32) (kMo : Int32) (kCo : Int32) (kT : Int64) (jJ : Nat → Int32) (p1 : Int32) (p2 : Int32) (Q : Int32 → Prop) (h : wp_X9_isLawful kn jJ p1 p2 Q) : Met l yX9_isLawful wsX9_isLawful rmX9_isLawful (va_Pc [.ref m0, .int p1, .int p2] (rP G cy [(m0, .inr (8, [.int kn, .ref mJ, .int kFe, .int kMo, .int kCo, .long kT, .ref mF, .ref mD, .ref mS, .ref mP])), (mJ, .inl (cy 0, 9, .inl jJ))])) (vp_Si Q) 0 0 (fun _ => False) := by
  unfold wp_X9_isLawful at h
  refine Met.ofW (cc := cX9_isLawful) (maxL := 7) (ret := (some .boolean)) (by decide) rfl ?_
  intro p e s m args below meth c s₁ B hml hv
  obtain ⟨hav, hP, hK⟩ := hv
  have hx := B.exec
  have hb := B.bytes
  have hr := B.returns
  have hts := atoms_spec (ws := wsX9_isLawful) B.pre
  have hown : s.vm.findClass RX9 = some m.cls := findClass_of_methodNamed B.named
  have hlocks := B.notSynchronized
  have hl := lv_entry ([.ref m0, .int p1, .int p2]) (n := 7) (Nat.le_of_ble_eq_true rfl)
  rw [show entryFrame m args 7 = entryFrame m ([.ref m0, .int p1, .int p2] : List Value).toArray 7 by rw [hav], lg_entry_eq]
  generalize (lg_sl ([.ref m0, .int p1, .int p2]) ++ List.replicate (7 - (lg_sl ([.ref m0, .int p1, .int p2])).length) Slot.unset).toArray = ls at hl ⊢
  have hl : lv_has ls 7 [(0, .ref m0), (1, .int p1), (2, .int p2)] := hl
  generalize hQe : MQ below _ _ _ _ _ _ = QM
  have iwX9 : ∀ w ∈ wsX90, w ∈ wsX9_isLawful := by decide +kernel
  have fl7 := hts (.fieldLink RX9 7 "SlidTokensModel" "n" "I") (by decide +kernel)
  have fl13 := hts (.fieldLink RX9 13 "SlidTokensModel" "joined" "[I") (by decide +kernel)
  refine lv_iconst (v := 1) hx hb dX9_isLawful_0 (by decide) ?_
  refine lv_istore_n (lv' := [(3, .int 1), (0, .ref m0), (1, .int p1), (2, .int p2)]) hx hb dX9_isLawful_1 rfl hl (by decide) rfl (fun ls hl => ?_)
  refine lv_iconst (v := 0) hx hb dX9_isLawful_2 (by decide) ?_
  refine lv_istore (lv' := [(4, .int 0), (3, .int 1), (0, .ref m0), (1, .int p1), (2, .int p2)]) hx hb dX9_isLawful_3 hl (by decide) rfl (fun ls hl => ?_)
  obtain ⟨I5_2, u5_2, h05, hst5⟩ := h
  have key5 : ∀ (k9 : Nat) (y1 : Int32) (y2 : Int32), I5_2 y1 y2 → u5_2 y1 y2 < k9 → ∀ (ls : Array Slot), lv_has ls 7 [(0, .ref m0), (1, .int p1), (2, .int p2), (3, .int y1), (4, .int y2)] → W p l e (headSpec wsX9_isLawful rmX9_isLawful).room s m args below meth c s.heap [] 0 0 QM (F0 m 5 ls []) := by
    intro k9
    induction k9 with
    | zero =>
      intro y1 y2 hI9 hk9
      exact absurd hk9 (Nat.not_lt_zero _)
    | succ k9 ih5 =>
      intro y1 y2 hI9 hk5 ls hl
      have h := hst5 y1 y2 hI9
      refine lv_iload hx hb dX9_isLawful_5 (lv_at hl 4 rfl) ?_
      refine lv_aload_n hx hb dX9_isLawful_7 rfl (lv_at hl 0 rfl) ?_
      refine va_get (D := G) (ci := 8) (v := .int kn) (C := RX9) (T := TX9) (N := 10) hx hb hts iwX9 hown hK.1 hP 0 rfl rfl 0 (by decide) fl7 (fun _ h9 => h9) rfl dX9_isLawful_8 ?_
      refine lv_icmp_ge (tgt := 109) hx hb dX9_isLawful_11 (by decide) (fun c3 => ?_) (fun c3 => ?_)
      · obtain ⟨h, -⟩ := h
        specialize h c3
        refine lv_iload_n hx hb dX9_isLawful_109 rfl (lv_at hl 3 rfl) ?_
        rw [← hQe]
        exact W.zret (v := y1) hx hb hr h.1 (fun t ht hW => ⟨y1, rfl, h.2, ht⟩) (fun q9 h9 => by cases h9) dX9_isLawful_110
      · obtain ⟨-, h⟩ := h
        specialize h c3
        refine lv_iload_n hx hb dX9_isLawful_14 rfl (lv_at hl 2 rfl) ?_
        refine lv_iload hx hb dX9_isLawful_15 (lv_at hl 4 rfl) ?_
        refine lv_ishr hx hb dX9_isLawful_17 ?_
        refine lv_iconst (v := 1) hx hb dX9_isLawful_18 (by decide) ?_
        refine lv_iand hx hb dX9_isLawful_19 ?_
        refine lv_iconst (v := 1) hx hb dX9_isLawful_20 (by decide) ?_
        refine lv_icmp_ne (tgt := 28) hx hb dX9_isLawful_21 (by decide) (fun c4 => ?_) (fun c4 => ?_)
        · obtain ⟨-, h⟩ := h
          specialize h c4
          refine lv_iconst (v := 0) hx hb dX9_isLawful_28 (by decide) ?_
          refine lv_istore (lv' := [(5, .int 0), (0, .ref m0), (1, .int p1), (2, .int p2), (3, .int y1), (4, .int y2)]) hx hb dX9_isLawful_29 hl (by decide) rfl (fun ls hl => ?_)
          refine lv_aload_n hx hb dX9_isLawful_31 rfl (lv_at hl 1 rfl) ?_
          refine va_get (D := G) (ci := 8) (v := .ref mJ) (C := RX9) (T := TX9) (N := 10) hx hb hts iwX9 hown hK.1 hP 0 rfl rfl 1 (by decide) fl13 (fun _ h9 => h9) rfl dX9_isLawful_32 ?_
          refine lv_iload hx hb dX9_isLawful_35 (lv_at hl 5 rfl) ?_
          obtain ⟨hi, h⟩ := h
          refine va_iald hx hb hK.1 hP 1 0 rfl rfl hi dX9_isLawful_37 ?_
          refine lv_topi (fun x5 ex5 => ?_)
          specialize h x5 ex5
          refine lv_istore (lv' := [(6, .int x5), (5, .int 0), (0, .ref m0), (1, .int p1), (2, .int p2), (3, .int y1), (4, .int y2)]) hx hb dX9_isLawful_38 hl (by decide) rfl (fun ls hl => ?_)
          refine lv_iload_n hx hb dX9_isLawful_40 rfl (lv_at hl 5 rfl) ?_
          refine lv_if_eq (tgt := 101) hx hb dX9_isLawful_41 (by decide) (fun c6 => ?_) (fun c6 => ?_)
          · obtain ⟨h, -⟩ := h
            specialize h c6
            refine lv_iconst (v := 0) hx hb dX9_isLawful_101 (by decide) ?_
            refine lv_istore_n (lv' := [(3, .int 0), (6, .int x5), (5, .int 0), (0, .ref m0), (1, .int p1), (2, .int p2), (4, .int y2)]) hx hb dX9_isLawful_102 rfl hl (by decide) rfl (fun ls hl => ?_)
            obtain ⟨x7, ex7⟩ : ∃ y : Int32, y = y2 + 1 := ⟨_, rfl⟩
            specialize h x7 ex7
            refine lv_iinc (v := x7) (lv' := [(4, .int x7), (3, .int 0), (6, .int x5), (5, .int 0), (0, .ref m0), (1, .int p1), (2, .int p2)]) hx hb dX9_isLawful_103 hl (k := 6) rfl (by rw [ex7]; rfl) (by decide) rfl (fun ls hl => ?_)
            refine lv_goto (tgt := 5) hx hb dX9_isLawful_106 (by decide) ?_
            exact ih5 0 x7 h.1 (Nat.lt_of_lt_of_le h.2 (Nat.le_of_lt_succ hk5)) _ (lv_sub hl [4, 5, 6, 1, 0] rfl)
          · obtain ⟨-, h⟩ := h
            specialize h c6
            refine lv_iload_n hx hb dX9_isLawful_44 rfl (lv_at hl 3 rfl) ?_
            refine lv_if_ne (tgt := 63) hx hb dX9_isLawful_45 (by decide) (fun c8 => ?_) (fun c8 => ?_)
            · obtain ⟨-, h⟩ := h
              specialize h c8
              refine lv_iload_n hx hb dX9_isLawful_63 rfl (lv_at hl 3 rfl) ?_
              refine lv_iconst (v := 1) hx hb dX9_isLawful_64 (by decide) ?_
              refine lv_icmp_ne (tgt := 85) hx hb dX9_isLawful_65 (by decide) (fun c9 => ?_) (fun c9 => ?_)
              · obtain ⟨-, h⟩ := h
                specialize h c9
                refine lv_iload hx hb dX9_isLawful_85 (lv_at hl 1 rfl) ?_
                refine lv_if_ne (tgt := 97) hx hb dX9_isLawful_87 (by decide) (fun c10 => ?_) (fun c10 => ?_)
                · obtain ⟨-, h⟩ := h
                  specialize h c10
                  refine lv_iconst (v := 1) hx hb dX9_isLawful_97 (by decide) ?_
                  refine lv_goto (tgt := 102) hx hb dX9_isLawful_98 (by decide) ?_
                  refine lv_istore_n (lv' := [(3, .int 1), (6, .int x5), (5, .int 0), (0, .ref m0), (1, .int p1), (2, .int p2), (4, .int y2)]) hx hb dX9_isLawful_102 rfl hl (by decide) rfl (fun ls hl => ?_)
                  obtain ⟨x11, ex11⟩ : ∃ y : Int32, y = y2 + 1 := ⟨_, rfl⟩
                  specialize h x11 ex11
                  refine lv_iinc (v := x11) (lv' := [(4, .int x11), (3, .int 1), (6, .int x5), (5, .int 0), (0, .ref m0), (1, .int p1), (2, .int p2)]) hx hb dX9_isLawful_103 hl (k := 6) rfl (by rw [ex11]; rfl) (by decide) rfl (fun ls hl => ?_)
                  refine lv_goto (tgt := 5) hx hb dX9_isLawful_106 (by decide) ?_
                  exact ih5 1 x11 h.1 (Nat.lt_of_lt_of_le h.2 (Nat.le_of_lt_succ hk5)) _ (lv_sub hl [4, 5, 6, 1, 0] rfl)
                · obtain ⟨h, -⟩ := h
                  specialize h c10
                  refine lv_iload hx hb dX9_isLawful_90 (lv_at hl 0 rfl) ?_
                  refine lv_iload_n hx hb dX9_isLawful_92 rfl (lv_at hl 4 rfl) ?_
                  refine lv_iand hx hb dX9_isLawful_93 ?_
                  refine lv_if_eq (tgt := 101) hx hb dX9_isLawful_94 (by decide) (fun c12 => ?_) (fun c12 => ?_)
                  · obtain ⟨h, -⟩ := h
                    specialize h c12
                    refine lv_iconst (v := 0) hx hb dX9_isLawful_101 (by decide) ?_
                    refine lv_istore_n (lv' := [(3, .int 0), (6, .int x5), (5, .int 0), (0, .ref m0), (1, .int p1), (2, .int p2), (4, .int y2)]) hx hb dX9_isLawful_102 rfl hl (by decide) rfl (fun ls hl => ?_)
                    obtain ⟨x13, ex13⟩ : ∃ y : Int32, y = y2 + 1 := ⟨_, rfl⟩
                    specialize h x13 ex13
                    refine lv_iinc (v := x13) (lv' := [(4, .int x13), (3, .int 0), (6, .int x5), (5, .int 0), (0, .ref m0), (1, .int p1), (2, .int p2)]) hx hb dX9_isLawful_103 hl (k := 6) rfl (by rw [ex13]; rfl) (by decide) rfl (fun ls hl => ?_)
                    refine lv_goto (tgt := 5) hx hb dX9_isLawful_106 (by decide) ?_
                    exact ih5 0 x13 h.1 (Nat.lt_of_lt_of_le h.2 (Nat.le_of_lt_succ hk5)) _ (lv_sub hl [4, 5, 6, 1, 0] rfl)
                  · obtain ⟨-, h⟩ := h
                    specialize h c12
                    refine lv_iconst (v := 1) hx hb dX9_isLawful_97 (by decide) ?_
                    refine lv_goto (tgt := 102) hx hb dX9_isLawful_98 (by decide) ?_
                    refine lv_istore_n (lv' := [(3, .int 1), (6, .int x5), (5, .int 0), (0, .ref m0), (1, .int p1), (2, .int p2), (4, .int y2)]) hx hb dX9_isLawful_102 rfl hl (by decide) rfl (fun ls hl => ?_)
                    obtain ⟨x14, ex14⟩ : ∃ y : Int32, y = y2 + 1 := ⟨_, rfl⟩
                    specialize h x14 ex14
                    refine lv_iinc (v := x14) (lv' := [(4, .int x14), (3, .int 1), (6, .int x5), (5, .int 0), (0, .ref m0), (1, .int p1), (2, .int p2)]) hx hb dX9_isLawful_103 hl (k := 6) rfl (by rw [ex14]; rfl) (by decide) rfl (fun ls hl => ?_)
                    refine lv_goto (tgt := 5) hx hb dX9_isLawful_106 (by decide) ?_
                    exact ih5 1 x14 h.1 (Nat.lt_of_lt_of_le h.2 (Nat.le_of_lt_succ hk5)) _ (lv_sub hl [4, 5, 6, 1, 0] rfl)
              · obtain ⟨h, -⟩ := h
                specialize h c9
                refine lv_iload hx hb dX9_isLawful_68 (lv_at hl 1 rfl) ?_
                refine lv_if_ne (tgt := 97) hx hb dX9_isLawful_70 (by decide) (fun c15 => ?_) (fun c15 => ?_)
                · obtain ⟨-, h⟩ := h
                  specialize h c15
                  refine lv_iconst (v := 1) hx hb dX9_isLawful_97 (by decide) ?_
                  refine lv_goto (tgt := 102) hx hb dX9_isLawful_98 (by decide) ?_
                  refine lv_istore_n (lv' := [(3, .int 1), (6, .int x5), (5, .int 0), (0, .ref m0), (1, .int p1), (2, .int p2), (4, .int y2)]) hx hb dX9_isLawful_102 rfl hl (by decide) rfl (fun ls hl => ?_)
                  obtain ⟨x16, ex16⟩ : ∃ y : Int32, y = y2 + 1 := ⟨_, rfl⟩
                  specialize h x16 ex16
                  refine lv_iinc (v := x16) (lv' := [(4, .int x16), (3, .int 1), (6, .int x5), (5, .int 0), (0, .ref m0), (1, .int p1), (2, .int p2)]) hx hb dX9_isLawful_103 hl (k := 6) rfl (by rw [ex16]; rfl) (by decide) rfl (fun ls hl => ?_)
                  refine lv_goto (tgt := 5) hx hb dX9_isLawful_106 (by decide) ?_
                  exact ih5 1 x16 h.1 (Nat.lt_of_lt_of_le h.2 (Nat.le_of_lt_succ hk5)) _ (lv_sub hl [4, 5, 6, 1, 0] rfl)
                · obtain ⟨h, -⟩ := h
                  specialize h c15
                  refine lv_iload hx hb dX9_isLawful_73 (lv_at hl 0 rfl) ?_
                  refine lv_iload_n hx hb dX9_isLawful_75 rfl (lv_at hl 4 rfl) ?_
                  refine lv_iconst (v := (-1)) hx hb dX9_isLawful_76 (by decide) ?_
                  refine lv_ixor hx hb dX9_isLawful_77 ?_
                  refine lv_iand hx hb dX9_isLawful_78 ?_
                  refine lv_if_ne (tgt := 101) hx hb dX9_isLawful_79 (by decide) (fun c17 => ?_) (fun c17 => ?_)
                  · obtain ⟨-, h⟩ := h
                    specialize h c17
                    refine lv_iconst (v := 0) hx hb dX9_isLawful_101 (by decide) ?_
                    refine lv_istore_n (lv' := [(3, .int 0), (6, .int x5), (5, .int 0), (0, .ref m0), (1, .int p1), (2, .int p2), (4, .int y2)]) hx hb dX9_isLawful_102 rfl hl (by decide) rfl (fun ls hl => ?_)
                    obtain ⟨x18, ex18⟩ : ∃ y : Int32, y = y2 + 1 := ⟨_, rfl⟩
                    specialize h x18 ex18
                    refine lv_iinc (v := x18) (lv' := [(4, .int x18), (3, .int 0), (6, .int x5), (5, .int 0), (0, .ref m0), (1, .int p1), (2, .int p2)]) hx hb dX9_isLawful_103 hl (k := 6) rfl (by rw [ex18]; rfl) (by decide) rfl (fun ls hl => ?_)
                    refine lv_goto (tgt := 5) hx hb dX9_isLawful_106 (by decide) ?_
                    exact ih5 0 x18 h.1 (Nat.lt_of_lt_of_le h.2 (Nat.le_of_lt_succ hk5)) _ (lv_sub hl [4, 5, 6, 1, 0] rfl)
                  · obtain ⟨h, -⟩ := h
                    specialize h c17
                    refine lv_goto (tgt := 97) hx hb dX9_isLawful_82 (by decide) ?_
                    refine lv_iconst (v := 1) hx hb dX9_isLawful_97 (by decide) ?_
                    refine lv_goto (tgt := 102) hx hb dX9_isLawful_98 (by decide) ?_
                    refine lv_istore_n (lv' := [(3, .int 1), (6, .int x5), (5, .int 0), (0, .ref m0), (1, .int p1), (2, .int p2), (4, .int y2)]) hx hb dX9_isLawful_102 rfl hl (by decide) rfl (fun ls hl => ?_)
                    obtain ⟨x19, ex19⟩ : ∃ y : Int32, y = y2 + 1 := ⟨_, rfl⟩
                    specialize h x19 ex19
                    refine lv_iinc (v := x19) (lv' := [(4, .int x19), (3, .int 1), (6, .int x5), (5, .int 0), (0, .ref m0), (1, .int p1), (2, .int p2)]) hx hb dX9_isLawful_103 hl (k := 6) rfl (by rw [ex19]; rfl) (by decide) rfl (fun ls hl => ?_)
                    refine lv_goto (tgt := 5) hx hb dX9_isLawful_106 (by decide) ?_
                    exact ih5 1 x19 h.1 (Nat.lt_of_lt_of_le h.2 (Nat.le_of_lt_succ hk5)) _ (lv_sub hl [4, 5, 6, 1, 0] rfl)
            · obtain ⟨h, -⟩ := h
              specialize h c8
              refine lv_iload hx hb dX9_isLawful_48 (lv_at hl 1 rfl) ?_
              refine lv_if_eq (tgt := 97) hx hb dX9_isLawful_50 (by decide) (fun c20 => ?_) (fun c20 => ?_)
              · obtain ⟨h, -⟩ := h
                specialize h c20
                refine lv_iconst (v := 1) hx hb dX9_isLawful_97 (by decide) ?_
                refine lv_goto (tgt := 102) hx hb dX9_isLawful_98 (by decide) ?_
                refine lv_istore_n (lv' := [(3, .int 1), (6, .int x5), (5, .int 0), (0, .ref m0), (1, .int p1), (2, .int p2), (4, .int y2)]) hx hb dX9_isLawful_102 rfl hl (by decide) rfl (fun ls hl => ?_)
                obtain ⟨x21, ex21⟩ : ∃ y : Int32, y = y2 + 1 := ⟨_, rfl⟩
                specialize h x21 ex21
                refine lv_iinc (v := x21) (lv' := [(4, .int x21), (3, .int 1), (6, .int x5), (5, .int 0), (0, .ref m0), (1, .int p1), (2, .int p2)]) hx hb dX9_isLawful_103 hl (k := 6) rfl (by rw [ex21]; rfl) (by decide) rfl (fun ls hl => ?_)
                refine lv_goto (tgt := 5) hx hb dX9_isLawful_106 (by decide) ?_
                exact ih5 1 x21 h.1 (Nat.lt_of_lt_of_le h.2 (Nat.le_of_lt_succ hk5)) _ (lv_sub hl [4, 5, 6, 1, 0] rfl)
              · obtain ⟨-, h⟩ := h
                specialize h c20
                refine lv_iload hx hb dX9_isLawful_53 (lv_at hl 0 rfl) ?_
                refine lv_iload_n hx hb dX9_isLawful_55 rfl (lv_at hl 4 rfl) ?_
                refine lv_iand hx hb dX9_isLawful_56 ?_
                refine lv_if_ne (tgt := 101) hx hb dX9_isLawful_57 (by decide) (fun c22 => ?_) (fun c22 => ?_)
                · obtain ⟨-, h⟩ := h
                  specialize h c22
                  refine lv_iconst (v := 0) hx hb dX9_isLawful_101 (by decide) ?_
                  refine lv_istore_n (lv' := [(3, .int 0), (6, .int x5), (5, .int 0), (0, .ref m0), (1, .int p1), (2, .int p2), (4, .int y2)]) hx hb dX9_isLawful_102 rfl hl (by decide) rfl (fun ls hl => ?_)
                  obtain ⟨x23, ex23⟩ : ∃ y : Int32, y = y2 + 1 := ⟨_, rfl⟩
                  specialize h x23 ex23
                  refine lv_iinc (v := x23) (lv' := [(4, .int x23), (3, .int 0), (6, .int x5), (5, .int 0), (0, .ref m0), (1, .int p1), (2, .int p2)]) hx hb dX9_isLawful_103 hl (k := 6) rfl (by rw [ex23]; rfl) (by decide) rfl (fun ls hl => ?_)
                  refine lv_goto (tgt := 5) hx hb dX9_isLawful_106 (by decide) ?_
                  exact ih5 0 x23 h.1 (Nat.lt_of_lt_of_le h.2 (Nat.le_of_lt_succ hk5)) _ (lv_sub hl [4, 5, 6, 1, 0] rfl)
                · obtain ⟨h, -⟩ := h
                  specialize h c22
                  refine lv_goto (tgt := 97) hx hb dX9_isLawful_60 (by decide) ?_
                  refine lv_iconst (v := 1) hx hb dX9_isLawful_97 (by decide) ?_
                  refine lv_goto (tgt := 102) hx hb dX9_isLawful_98 (by decide) ?_
                  refine lv_istore_n (lv' := [(3, .int 1), (6, .int x5), (5, .int 0), (0, .ref m0), (1, .int p1), (2, .int p2), (4, .int y2)]) hx hb dX9_isLawful_102 rfl hl (by decide) rfl (fun ls hl => ?_)
                  obtain ⟨x24, ex24⟩ : ∃ y : Int32, y = y2 + 1 := ⟨_, rfl⟩
                  specialize h x24 ex24
                  refine lv_iinc (v := x24) (lv' := [(4, .int x24), (3, .int 1), (6, .int x5), (5, .int 0), (0, .ref m0), (1, .int p1), (2, .int p2)]) hx hb dX9_isLawful_103 hl (k := 6) rfl (by rw [ex24]; rfl) (by decide) rfl (fun ls hl => ?_)
                  refine lv_goto (tgt := 5) hx hb dX9_isLawful_106 (by decide) ?_
                  exact ih5 1 x24 h.1 (Nat.lt_of_lt_of_le h.2 (Nat.le_of_lt_succ hk5)) _ (lv_sub hl [4, 5, 6, 1, 0] rfl)
        · obtain ⟨h, -⟩ := h
          specialize h c4
          refine lv_iconst (v := 1) hx hb dX9_isLawful_24 (by decide) ?_
          refine lv_goto (tgt := 29) hx hb dX9_isLawful_25 (by decide) ?_
          refine lv_istore (lv' := [(5, .int 1), (0, .ref m0), (1, .int p1), (2, .int p2), (3, .int y1), (4, .int y2)]) hx hb dX9_isLawful_29 hl (by decide) rfl (fun ls hl => ?_)
          refine lv_aload_n hx hb dX9_isLawful_31 rfl (lv_at hl 1 rfl) ?_
          refine va_get (D := G) (ci := 8) (v := .ref mJ) (C := RX9) (T := TX9) (N := 10) hx hb hts iwX9 hown hK.1 hP 0 rfl rfl 1 (by decide) fl13 (fun _ h9 => h9) rfl dX9_isLawful_32 ?_
          refine lv_iload hx hb dX9_isLawful_35 (lv_at hl 5 rfl) ?_
          obtain ⟨hi, h⟩ := h
          refine va_iald hx hb hK.1 hP 1 0 rfl rfl hi dX9_isLawful_37 ?_
          refine lv_topi (fun x25 ex25 => ?_)
          specialize h x25 ex25
          refine lv_istore (lv' := [(6, .int x25), (5, .int 1), (0, .ref m0), (1, .int p1), (2, .int p2), (3, .int y1), (4, .int y2)]) hx hb dX9_isLawful_38 hl (by decide) rfl (fun ls hl => ?_)
          refine lv_iload_n hx hb dX9_isLawful_40 rfl (lv_at hl 5 rfl) ?_
          refine lv_if_eq (tgt := 101) hx hb dX9_isLawful_41 (by decide) (fun c26 => ?_) (fun c26 => ?_)
          · obtain ⟨h, -⟩ := h
            specialize h c26
            refine lv_iconst (v := 0) hx hb dX9_isLawful_101 (by decide) ?_
            refine lv_istore_n (lv' := [(3, .int 0), (6, .int x25), (5, .int 1), (0, .ref m0), (1, .int p1), (2, .int p2), (4, .int y2)]) hx hb dX9_isLawful_102 rfl hl (by decide) rfl (fun ls hl => ?_)
            obtain ⟨x27, ex27⟩ : ∃ y : Int32, y = y2 + 1 := ⟨_, rfl⟩
            specialize h x27 ex27
            refine lv_iinc (v := x27) (lv' := [(4, .int x27), (3, .int 0), (6, .int x25), (5, .int 1), (0, .ref m0), (1, .int p1), (2, .int p2)]) hx hb dX9_isLawful_103 hl (k := 6) rfl (by rw [ex27]; rfl) (by decide) rfl (fun ls hl => ?_)
            refine lv_goto (tgt := 5) hx hb dX9_isLawful_106 (by decide) ?_
            exact ih5 0 x27 h.1 (Nat.lt_of_lt_of_le h.2 (Nat.le_of_lt_succ hk5)) _ (lv_sub hl [4, 5, 6, 1, 0] rfl)
          · obtain ⟨-, h⟩ := h
            specialize h c26
            refine lv_iload_n hx hb dX9_isLawful_44 rfl (lv_at hl 3 rfl) ?_
            refine lv_if_ne (tgt := 63) hx hb dX9_isLawful_45 (by decide) (fun c28 => ?_) (fun c28 => ?_)
            · obtain ⟨-, h⟩ := h
              specialize h c28
              refine lv_iload_n hx hb dX9_isLawful_63 rfl (lv_at hl 3 rfl) ?_
              refine lv_iconst (v := 1) hx hb dX9_isLawful_64 (by decide) ?_
              refine lv_icmp_ne (tgt := 85) hx hb dX9_isLawful_65 (by decide) (fun c29 => ?_) (fun c29 => ?_)
              · obtain ⟨-, h⟩ := h
                specialize h c29
                refine lv_iload hx hb dX9_isLawful_85 (lv_at hl 1 rfl) ?_
                refine lv_if_ne (tgt := 97) hx hb dX9_isLawful_87 (by decide) (fun c30 => ?_) (fun c30 => ?_)
                · obtain ⟨-, h⟩ := h
                  specialize h c30
                  refine lv_iconst (v := 1) hx hb dX9_isLawful_97 (by decide) ?_
                  refine lv_goto (tgt := 102) hx hb dX9_isLawful_98 (by decide) ?_
                  refine lv_istore_n (lv' := [(3, .int 1), (6, .int x25), (5, .int 1), (0, .ref m0), (1, .int p1), (2, .int p2), (4, .int y2)]) hx hb dX9_isLawful_102 rfl hl (by decide) rfl (fun ls hl => ?_)
                  obtain ⟨x31, ex31⟩ : ∃ y : Int32, y = y2 + 1 := ⟨_, rfl⟩
                  specialize h x31 ex31
                  refine lv_iinc (v := x31) (lv' := [(4, .int x31), (3, .int 1), (6, .int x25), (5, .int 1), (0, .ref m0), (1, .int p1), (2, .int p2)]) hx hb dX9_isLawful_103 hl (k := 6) rfl (by rw [ex31]; rfl) (by decide) rfl (fun ls hl => ?_)
                  refine lv_goto (tgt := 5) hx hb dX9_isLawful_106 (by decide) ?_
                  exact ih5 1 x31 h.1 (Nat.lt_of_lt_of_le h.2 (Nat.le_of_lt_succ hk5)) _ (lv_sub hl [4, 5, 6, 1, 0] rfl)
                · obtain ⟨h, -⟩ := h
                  specialize h c30
                  refine lv_iload hx hb dX9_isLawful_90 (lv_at hl 0 rfl) ?_
                  refine lv_iload_n hx hb dX9_isLawful_92 rfl (lv_at hl 4 rfl) ?_
                  refine lv_iand hx hb dX9_isLawful_93 ?_
                  refine lv_if_eq (tgt := 101) hx hb dX9_isLawful_94 (by decide) (fun c32 => ?_) (fun c32 => ?_)
                  · obtain ⟨h, -⟩ := h
                    specialize h c32
                    refine lv_iconst (v := 0) hx hb dX9_isLawful_101 (by decide) ?_
                    refine lv_istore_n (lv' := [(3, .int 0), (6, .int x25), (5, .int 1), (0, .ref m0), (1, .int p1), (2, .int p2), (4, .int y2)]) hx hb dX9_isLawful_102 rfl hl (by decide) rfl (fun ls hl => ?_)
                    obtain ⟨x33, ex33⟩ : ∃ y : Int32, y = y2 + 1 := ⟨_, rfl⟩
                    specialize h x33 ex33
                    refine lv_iinc (v := x33) (lv' := [(4, .int x33), (3, .int 0), (6, .int x25), (5, .int 1), (0, .ref m0), (1, .int p1), (2, .int p2)]) hx hb dX9_isLawful_103 hl (k := 6) rfl (by rw [ex33]; rfl) (by decide) rfl (fun ls hl => ?_)
                    refine lv_goto (tgt := 5) hx hb dX9_isLawful_106 (by decide) ?_
                    exact ih5 0 x33 h.1 (Nat.lt_of_lt_of_le h.2 (Nat.le_of_lt_succ hk5)) _ (lv_sub hl [4, 5, 6, 1, 0] rfl)
                  · obtain ⟨-, h⟩ := h
                    specialize h c32
                    refine lv_iconst (v := 1) hx hb dX9_isLawful_97 (by decide) ?_
                    refine lv_goto (tgt := 102) hx hb dX9_isLawful_98 (by decide) ?_
                    refine lv_istore_n (lv' := [(3, .int 1), (6, .int x25), (5, .int 1), (0, .ref m0), (1, .int p1), (2, .int p2), (4, .int y2)]) hx hb dX9_isLawful_102 rfl hl (by decide) rfl (fun ls hl => ?_)
                    obtain ⟨x34, ex34⟩ : ∃ y : Int32, y = y2 + 1 := ⟨_, rfl⟩
                    specialize h x34 ex34
                    refine lv_iinc (v := x34) (lv' := [(4, .int x34), (3, .int 1), (6, .int x25), (5, .int 1), (0, .ref m0), (1, .int p1), (2, .int p2)]) hx hb dX9_isLawful_103 hl (k := 6) rfl (by rw [ex34]; rfl) (by decide) rfl (fun ls hl => ?_)
                    refine lv_goto (tgt := 5) hx hb dX9_isLawful_106 (by decide) ?_
                    exact ih5 1 x34 h.1 (Nat.lt_of_lt_of_le h.2 (Nat.le_of_lt_succ hk5)) _ (lv_sub hl [4, 5, 6, 1, 0] rfl)
              · obtain ⟨h, -⟩ := h
                specialize h c29
                refine lv_iload hx hb dX9_isLawful_68 (lv_at hl 1 rfl) ?_
                refine lv_if_ne (tgt := 97) hx hb dX9_isLawful_70 (by decide) (fun c35 => ?_) (fun c35 => ?_)
                · obtain ⟨-, h⟩ := h
                  specialize h c35
                  refine lv_iconst (v := 1) hx hb dX9_isLawful_97 (by decide) ?_
                  refine lv_goto (tgt := 102) hx hb dX9_isLawful_98 (by decide) ?_
                  refine lv_istore_n (lv' := [(3, .int 1), (6, .int x25), (5, .int 1), (0, .ref m0), (1, .int p1), (2, .int p2), (4, .int y2)]) hx hb dX9_isLawful_102 rfl hl (by decide) rfl (fun ls hl => ?_)
                  obtain ⟨x36, ex36⟩ : ∃ y : Int32, y = y2 + 1 := ⟨_, rfl⟩
                  specialize h x36 ex36
                  refine lv_iinc (v := x36) (lv' := [(4, .int x36), (3, .int 1), (6, .int x25), (5, .int 1), (0, .ref m0), (1, .int p1), (2, .int p2)]) hx hb dX9_isLawful_103 hl (k := 6) rfl (by rw [ex36]; rfl) (by decide) rfl (fun ls hl => ?_)
                  refine lv_goto (tgt := 5) hx hb dX9_isLawful_106 (by decide) ?_
                  exact ih5 1 x36 h.1 (Nat.lt_of_lt_of_le h.2 (Nat.le_of_lt_succ hk5)) _ (lv_sub hl [4, 5, 6, 1, 0] rfl)
                · obtain ⟨h, -⟩ := h
                  specialize h c35
                  refine lv_iload hx hb dX9_isLawful_73 (lv_at hl 0 rfl) ?_
                  refine lv_iload_n hx hb dX9_isLawful_75 rfl (lv_at hl 4 rfl) ?_
                  refine lv_iconst (v := (-1)) hx hb dX9_isLawful_76 (by decide) ?_
                  refine lv_ixor hx hb dX9_isLawful_77 ?_
                  refine lv_iand hx hb dX9_isLawful_78 ?_
                  refine lv_if_ne (tgt := 101) hx hb dX9_isLawful_79 (by decide) (fun c37 => ?_) (fun c37 => ?_)
                  · obtain ⟨-, h⟩ := h
                    specialize h c37
                    refine lv_iconst (v := 0) hx hb dX9_isLawful_101 (by decide) ?_
                    refine lv_istore_n (lv' := [(3, .int 0), (6, .int x25), (5, .int 1), (0, .ref m0), (1, .int p1), (2, .int p2), (4, .int y2)]) hx hb dX9_isLawful_102 rfl hl (by decide) rfl (fun ls hl => ?_)
                    obtain ⟨x38, ex38⟩ : ∃ y : Int32, y = y2 + 1 := ⟨_, rfl⟩
                    specialize h x38 ex38
                    refine lv_iinc (v := x38) (lv' := [(4, .int x38), (3, .int 0), (6, .int x25), (5, .int 1), (0, .ref m0), (1, .int p1), (2, .int p2)]) hx hb dX9_isLawful_103 hl (k := 6) rfl (by rw [ex38]; rfl) (by decide) rfl (fun ls hl => ?_)
                    refine lv_goto (tgt := 5) hx hb dX9_isLawful_106 (by decide) ?_
                    exact ih5 0 x38 h.1 (Nat.lt_of_lt_of_le h.2 (Nat.le_of_lt_succ hk5)) _ (lv_sub hl [4, 5, 6, 1, 0] rfl)
                  · obtain ⟨h, -⟩ := h
                    specialize h c37
                    refine lv_goto (tgt := 97) hx hb dX9_isLawful_82 (by decide) ?_
                    refine lv_iconst (v := 1) hx hb dX9_isLawful_97 (by decide) ?_
                    refine lv_goto (tgt := 102) hx hb dX9_isLawful_98 (by decide) ?_
                    refine lv_istore_n (lv' := [(3, .int 1), (6, .int x25), (5, .int 1), (0, .ref m0), (1, .int p1), (2, .int p2), (4, .int y2)]) hx hb dX9_isLawful_102 rfl hl (by decide) rfl (fun ls hl => ?_)
                    obtain ⟨x39, ex39⟩ : ∃ y : Int32, y = y2 + 1 := ⟨_, rfl⟩
                    specialize h x39 ex39
                    refine lv_iinc (v := x39) (lv' := [(4, .int x39), (3, .int 1), (6, .int x25), (5, .int 1), (0, .ref m0), (1, .int p1), (2, .int p2)]) hx hb dX9_isLawful_103 hl (k := 6) rfl (by rw [ex39]; rfl) (by decide) rfl (fun ls hl => ?_)
                    refine lv_goto (tgt := 5) hx hb dX9_isLawful_106 (by decide) ?_
                    exact ih5 1 x39 h.1 (Nat.lt_of_lt_of_le h.2 (Nat.le_of_lt_succ hk5)) _ (lv_sub hl [4, 5, 6, 1, 0] rfl)
            · obtain ⟨h, -⟩ := h
              specialize h c28
              refine lv_iload hx hb dX9_isLawful_48 (lv_at hl 1 rfl) ?_
              refine lv_if_eq (tgt := 97) hx hb dX9_isLawful_50 (by decide) (fun c40 => ?_) (fun c40 => ?_)
              · obtain ⟨h, -⟩ := h
                specialize h c40
                refine lv_iconst (v := 1) hx hb dX9_isLawful_97 (by decide) ?_
                refine lv_goto (tgt := 102) hx hb dX9_isLawful_98 (by decide) ?_
                refine lv_istore_n (lv' := [(3, .int 1), (6, .int x25), (5, .int 1), (0, .ref m0), (1, .int p1), (2, .int p2), (4, .int y2)]) hx hb dX9_isLawful_102 rfl hl (by decide) rfl (fun ls hl => ?_)
                obtain ⟨x41, ex41⟩ : ∃ y : Int32, y = y2 + 1 := ⟨_, rfl⟩
                specialize h x41 ex41
                refine lv_iinc (v := x41) (lv' := [(4, .int x41), (3, .int 1), (6, .int x25), (5, .int 1), (0, .ref m0), (1, .int p1), (2, .int p2)]) hx hb dX9_isLawful_103 hl (k := 6) rfl (by rw [ex41]; rfl) (by decide) rfl (fun ls hl => ?_)
                refine lv_goto (tgt := 5) hx hb dX9_isLawful_106 (by decide) ?_
                exact ih5 1 x41 h.1 (Nat.lt_of_lt_of_le h.2 (Nat.le_of_lt_succ hk5)) _ (lv_sub hl [4, 5, 6, 1, 0] rfl)
              · obtain ⟨-, h⟩ := h
                specialize h c40
                refine lv_iload hx hb dX9_isLawful_53 (lv_at hl 0 rfl) ?_
                refine lv_iload_n hx hb dX9_isLawful_55 rfl (lv_at hl 4 rfl) ?_
                refine lv_iand hx hb dX9_isLawful_56 ?_
                refine lv_if_ne (tgt := 101) hx hb dX9_isLawful_57 (by decide) (fun c42 => ?_) (fun c42 => ?_)
                · obtain ⟨-, h⟩ := h
                  specialize h c42
                  refine lv_iconst (v := 0) hx hb dX9_isLawful_101 (by decide) ?_
                  refine lv_istore_n (lv' := [(3, .int 0), (6, .int x25), (5, .int 1), (0, .ref m0), (1, .int p1), (2, .int p2), (4, .int y2)]) hx hb dX9_isLawful_102 rfl hl (by decide) rfl (fun ls hl => ?_)
                  obtain ⟨x43, ex43⟩ : ∃ y : Int32, y = y2 + 1 := ⟨_, rfl⟩
                  specialize h x43 ex43
                  refine lv_iinc (v := x43) (lv' := [(4, .int x43), (3, .int 0), (6, .int x25), (5, .int 1), (0, .ref m0), (1, .int p1), (2, .int p2)]) hx hb dX9_isLawful_103 hl (k := 6) rfl (by rw [ex43]; rfl) (by decide) rfl (fun ls hl => ?_)
                  refine lv_goto (tgt := 5) hx hb dX9_isLawful_106 (by decide) ?_
                  exact ih5 0 x43 h.1 (Nat.lt_of_lt_of_le h.2 (Nat.le_of_lt_succ hk5)) _ (lv_sub hl [4, 5, 6, 1, 0] rfl)
                · obtain ⟨h, -⟩ := h
                  specialize h c42
                  refine lv_goto (tgt := 97) hx hb dX9_isLawful_60 (by decide) ?_
                  refine lv_iconst (v := 1) hx hb dX9_isLawful_97 (by decide) ?_
                  refine lv_goto (tgt := 102) hx hb dX9_isLawful_98 (by decide) ?_
                  refine lv_istore_n (lv' := [(3, .int 1), (6, .int x25), (5, .int 1), (0, .ref m0), (1, .int p1), (2, .int p2), (4, .int y2)]) hx hb dX9_isLawful_102 rfl hl (by decide) rfl (fun ls hl => ?_)
                  obtain ⟨x44, ex44⟩ : ∃ y : Int32, y = y2 + 1 := ⟨_, rfl⟩
                  specialize h x44 ex44
                  refine lv_iinc (v := x44) (lv' := [(4, .int x44), (3, .int 1), (6, .int x25), (5, .int 1), (0, .ref m0), (1, .int p1), (2, .int p2)]) hx hb dX9_isLawful_103 hl (k := 6) rfl (by rw [ex44]; rfl) (by decide) rfl (fun ls hl => ?_)
                  refine lv_goto (tgt := 5) hx hb dX9_isLawful_106 (by decide) ?_
                  exact ih5 1 x44 h.1 (Nat.lt_of_lt_of_le h.2 (Nat.le_of_lt_succ hk5)) _ (lv_sub hl [4, 5, 6, 1, 0] rfl)
  exact key5 _ 1 0 h05 (Nat.lt_succ_self _) _ (lv_sub hl [2, 3, 4, 1, 0] rfl)

set_option maxHeartbeats 4000000 in
set_option maxRecDepth 100000 in
theorem ct_X9_lawful (l : Launch) (G : va_G) (cy : Nat → ClassId) (m0 mJ mF mD mS mP : Nat) (kn : Int32) (kFe : Int32) (kMo : Int32) (kCo : Int32) (kT : Int64) (jJ : Nat → Int32) (p1 : Int32) (p2 : Int32) (Q : Int32 → Prop) (h : wp_X9_lawful kn jJ p1 p2 Q) : Met l yX9_lawful wsX9_lawful rmX9_lawful (va_Pc [.ref m0, .int p1, .int p2] (rP G cy [(m0, .inr (8, [.int kn, .ref mJ, .int kFe, .int kMo, .int kCo, .long kT, .ref mF, .ref mD, .ref mS, .ref mP])), (mJ, .inl (cy 0, 9, .inl jJ))])) (vp_Si Q) 0 0 (fun _ => False) := by
  unfold wp_X9_lawful at h
  refine Met.ofW (cc := cX9_lawful) (maxL := 3) (ret := (some .int)) (by decide) rfl ?_
  intro p e s m args below meth c s₁ B hml hv
  obtain ⟨hav, hP, hK⟩ := hv
  have hx := B.exec
  have hb := B.bytes
  have hr := B.returns
  have hts := atoms_spec (ws := wsX9_lawful) B.pre
  have hown : s.vm.findClass RX9 = some m.cls := findClass_of_methodNamed B.named
  have hlocks := B.notSynchronized
  have hl := lv_entry ([.ref m0, .int p1, .int p2]) (n := 3) (Nat.le_of_ble_eq_true rfl)
  rw [show entryFrame m args 3 = entryFrame m ([.ref m0, .int p1, .int p2] : List Value).toArray 3 by rw [hav], lg_entry_eq]
  generalize (lg_sl ([.ref m0, .int p1, .int p2]) ++ List.replicate (3 - (lg_sl ([.ref m0, .int p1, .int p2])).length) Slot.unset).toArray = ls at hl ⊢
  have hl : lv_has ls 3 [(0, .ref m0), (1, .int p1), (2, .int p2)] := hl
  generalize hQe : MQ below _ _ _ _ _ _ = QM
  refine lv_iload_n hx hb dX9_lawful_0 rfl (lv_at hl 1 rfl) ?_
  obtain ⟨Q1, hw9, h⟩ := h
  have hPc : va_P G vwCl [] s.heap := P_nil
  refine vp_callSi (va_Run.run (va_runS (As := [.int p1]) (rest := []) ⟨hx, hb, hml, hown, hts⟩ (ct_X9_isKind l G cy p1 Q1 hw9) (va_cwS 1 hts gX9_lawful_X9_isKind rfl rfl rfl (by decide +kernel) ⟨Nat.le_of_ble_eq_true rfl, Nat.le_of_ble_eq_true rfl⟩) (rP_S hK hPc) rfl rfl hl.1 rfl (lv_room (Nat.le_of_ble_eq_true rfl)) dX9_lawful_1 ⟨Nat.le_of_ble_eq_true rfl, Nat.le_of_ble_eq_true rfl⟩)) (fun r2 er2 => ?_)
  specialize h r2 er2
  refine lv_if_eq (tgt := 15) hx hb dX9_lawful_4 (by decide) (fun c3 => ?_) (fun c3 => ?_)
  · obtain ⟨h, -⟩ := h
    specialize h c3
    refine lv_iconst (v := (-1)) hx hb dX9_lawful_15 (by decide) ?_
    refine lv_goto (tgt := 33) hx hb dX9_lawful_16 (by decide) ?_
    rw [← hQe]
    exact W.iret (v := (-1)) hx hb hr (fun t ht hW => ⟨(-1), rfl, h, ht⟩) (fun q9 h9 => by cases h9) dX9_lawful_33
  · obtain ⟨-, h⟩ := h
    specialize h c3
    refine lv_aload_n hx hb dX9_lawful_7 rfl (lv_at hl 0 rfl) ?_
    refine lv_iload_n hx hb dX9_lawful_8 rfl (lv_at hl 2 rfl) ?_
    obtain ⟨Q4, hw9, h⟩ := h
    have hPc : va_P G vwCl [(m0, .inr (8, [.int kn, .ref mJ, .int kFe, .int kMo, .int kCo, .long kT, .ref mF, .ref mD, .ref mS, .ref mP])), (mJ, .inl (cy 0, 9, .inl jJ))] s.heap := hP.sub [0, 1] rfl
    refine vp_callSi (va_Run.run (va_runV (As := [.int p2]) (rest := []) ⟨hx, hb, hml, hown, hts⟩ (ct_X9_isSet l G cy m0 mJ mF mD mS mP kn kFe kMo kCo kT jJ p2 Q4 hw9) (cwV 1 hts gX9_lawful_X9_isSet rfl rfl rfl (by decide +kernel) ⟨Nat.le_of_ble_eq_true rfl, Nat.le_of_ble_eq_true rfl⟩) (rP_V hK hP (ci := 8) (q0 := 0) rfl rfl hPc) rfl rfl hl.1 rfl (lv_room (Nat.le_of_ble_eq_true rfl)) dX9_lawful_9 ⟨Nat.le_of_ble_eq_true rfl, Nat.le_of_ble_eq_true rfl⟩)) (fun r5 er5 => ?_)
    specialize h r5 er5
    refine lv_if_ne (tgt := 19) hx hb dX9_lawful_12 (by decide) (fun c6 => ?_) (fun c6 => ?_)
    · obtain ⟨-, h⟩ := h
      specialize h c6
      refine lv_aload_n hx hb dX9_lawful_19 rfl (lv_at hl 0 rfl) ?_
      refine lv_iload_n hx hb dX9_lawful_20 rfl (lv_at hl 1 rfl) ?_
      refine lv_iload_n hx hb dX9_lawful_21 rfl (lv_at hl 2 rfl) ?_
      obtain ⟨Q7, hw9, h⟩ := h
      have hPc : va_P G vwCl [(m0, .inr (8, [.int kn, .ref mJ, .int kFe, .int kMo, .int kCo, .long kT, .ref mF, .ref mD, .ref mS, .ref mP])), (mJ, .inl (cy 0, 9, .inl jJ))] s.heap := hP.sub [0, 1] rfl
      refine vp_callSi (va_Run.run (va_runV (As := [.int p1, .int p2]) (rest := []) ⟨hx, hb, hml, hown, hts⟩ (ct_X9_isLawful l G cy m0 mJ mF mD mS mP kn kFe kMo kCo kT jJ p1 p2 Q7 hw9) (cwV 2 hts gX9_lawful_X9_isLawful rfl rfl rfl (by decide +kernel) ⟨Nat.le_of_ble_eq_true rfl, Nat.le_of_ble_eq_true rfl⟩) (rP_V hK hP (ci := 8) (q0 := 0) rfl rfl hPc) rfl rfl hl.1 rfl (lv_room (Nat.le_of_ble_eq_true rfl)) dX9_lawful_22 ⟨Nat.le_of_ble_eq_true rfl, Nat.le_of_ble_eq_true rfl⟩)) (fun r8 er8 => ?_)
      specialize h r8 er8
      refine lv_if_eq (tgt := 32) hx hb dX9_lawful_25 (by decide) (fun c9 => ?_) (fun c9 => ?_)
      · obtain ⟨h, -⟩ := h
        specialize h c9
        refine lv_iconst (v := 0) hx hb dX9_lawful_32 (by decide) ?_
        rw [← hQe]
        exact W.iret (v := 0) hx hb hr (fun t ht hW => ⟨0, rfl, h, ht⟩) (fun q9 h9 => by cases h9) dX9_lawful_33
      · obtain ⟨-, h⟩ := h
        specialize h c9
        refine lv_iconst (v := 1) hx hb dX9_lawful_28 (by decide) ?_
        refine lv_goto (tgt := 33) hx hb dX9_lawful_29 (by decide) ?_
        rw [← hQe]
        exact W.iret (v := 1) hx hb hr (fun t ht hW => ⟨1, rfl, h, ht⟩) (fun q9 h9 => by cases h9) dX9_lawful_33
    · obtain ⟨h, -⟩ := h
      specialize h c6
      refine lv_iconst (v := (-1)) hx hb dX9_lawful_15 (by decide) ?_
      refine lv_goto (tgt := 33) hx hb dX9_lawful_16 (by decide) ?_
      rw [← hQe]
      exact W.iret (v := (-1)) hx hb hr (fun t ht hW => ⟨(-1), rfl, h, ht⟩) (fun q9 h9 => by cases h9) dX9_lawful_33

set_option maxHeartbeats 4000000 in
set_option maxRecDepth 100000 in
theorem ct_X9_count (l : Launch) (G : va_G) (cy : Nat → ClassId) (m0 mJ mF mD mS mP : Nat) (kn : Int32) (kFe : Int32) (kMo : Int32) (kCo : Int32) (kT : Int64) (jJ : Nat → Int32) (p1 : Int32) (p2 : Int32) (Q : Int32 → Prop) (h : wp_X9_count kn jJ p1 p2 Q) : Met l yX9_count wsX9_count rmX9_count (va_Pc [.ref m0, .int p1, .int p2] (rP G cy [(m0, .inr (8, [.int kn, .ref mJ, .int kFe, .int kMo, .int kCo, .long kT, .ref mF, .ref mD, .ref mS, .ref mP])), (mJ, .inl (cy 0, 9, .inl jJ))])) (vp_Si Q) 0 0 (fun _ => False) := by
  unfold wp_X9_count at h
  refine Met.ofW (cc := cX9_count) (maxL := 5) (ret := (some .int)) (by decide) rfl ?_
  intro p e s m args below meth c s₁ B hml hv
  obtain ⟨hav, hP, hK⟩ := hv
  have hx := B.exec
  have hb := B.bytes
  have hr := B.returns
  have hts := atoms_spec (ws := wsX9_count) B.pre
  have hown : s.vm.findClass RX9 = some m.cls := findClass_of_methodNamed B.named
  have hlocks := B.notSynchronized
  have hl := lv_entry ([.ref m0, .int p1, .int p2]) (n := 5) (Nat.le_of_ble_eq_true rfl)
  rw [show entryFrame m args 5 = entryFrame m ([.ref m0, .int p1, .int p2] : List Value).toArray 5 by rw [hav], lg_entry_eq]
  generalize (lg_sl ([.ref m0, .int p1, .int p2]) ++ List.replicate (5 - (lg_sl ([.ref m0, .int p1, .int p2])).length) Slot.unset).toArray = ls at hl ⊢
  have hl : lv_has ls 5 [(0, .ref m0), (1, .int p1), (2, .int p2)] := hl
  generalize hQe : MQ below _ _ _ _ _ _ = QM
  have iwX9 : ∀ w ∈ wsX90, w ∈ wsX9_count := by decide +kernel
  have fl7 := hts (.fieldLink RX9 7 "SlidTokensModel" "n" "I") (by decide +kernel)
  refine lv_iload_n hx hb dX9_count_0 rfl (lv_at hl 1 rfl) ?_
  obtain ⟨Q1, hw9, h⟩ := h
  have hPc : va_P G vwCl [] s.heap := P_nil
  refine vp_callSi (va_Run.run (va_runS (As := [.int p1]) (rest := []) ⟨hx, hb, hml, hown, hts⟩ (ct_X9_isKind l G cy p1 Q1 hw9) (va_cwS 1 hts gX9_count_X9_isKind rfl rfl rfl (by decide +kernel) ⟨Nat.le_of_ble_eq_true rfl, Nat.le_of_ble_eq_true rfl⟩) (rP_S hK hPc) rfl rfl hl.1 rfl (lv_room (Nat.le_of_ble_eq_true rfl)) dX9_count_1 ⟨Nat.le_of_ble_eq_true rfl, Nat.le_of_ble_eq_true rfl⟩)) (fun r2 er2 => ?_)
  specialize h r2 er2
  refine lv_if_eq (tgt := 19) hx hb dX9_count_4 (by decide) (fun c3 => ?_) (fun c3 => ?_)
  · obtain ⟨h, -⟩ := h
    specialize h c3
    refine lv_iconst (v := (-1)) hx hb dX9_count_19 (by decide) ?_
    rw [← hQe]
    exact W.iret (v := (-1)) hx hb hr (fun t ht hW => ⟨(-1), rfl, h, ht⟩) (fun q9 h9 => by cases h9) dX9_count_20
  · obtain ⟨-, h⟩ := h
    specialize h c3
    refine lv_iload_n hx hb dX9_count_7 rfl (lv_at hl 2 rfl) ?_
    refine lv_iconst (v := (-1)) hx hb dX9_count_8 (by decide) ?_
    refine lv_aload_n hx hb dX9_count_9 rfl (lv_at hl 0 rfl) ?_
    refine va_get (D := G) (ci := 8) (v := .int kn) (C := RX9) (T := TX9) (N := 10) hx hb hts iwX9 hown hK.1 hP 0 rfl rfl 0 (by decide) fl7 (fun _ h9 => h9) rfl dX9_count_10 ?_
    obtain ⟨Q4, hw9, h⟩ := h
    have hPc : va_P G vwCl [] s.heap := P_nil
    refine vp_callSi (va_Run.run (va_runS (As := [.int p2, .int (-1), .int kn]) (rest := []) ⟨hx, hb, hml, hown, hts⟩ (ct_X9_in l G cy p2 (-1) kn Q4 hw9) (va_cwS 3 hts gX9_count_X9_in rfl rfl rfl (by decide +kernel) ⟨Nat.le_of_ble_eq_true rfl, Nat.le_of_ble_eq_true rfl⟩) (rP_S hK hPc) rfl rfl hl.1 rfl (lv_room (Nat.le_of_ble_eq_true rfl)) dX9_count_13 ⟨Nat.le_of_ble_eq_true rfl, Nat.le_of_ble_eq_true rfl⟩)) (fun r5 er5 => ?_)
    specialize h r5 er5
    refine lv_if_ne (tgt := 21) hx hb dX9_count_16 (by decide) (fun c6 => ?_) (fun c6 => ?_)
    · obtain ⟨-, h⟩ := h
      specialize h c6
      refine lv_iconst (v := 0) hx hb dX9_count_21 (by decide) ?_
      refine lv_istore_n (lv' := [(3, .int 0), (0, .ref m0), (1, .int p1), (2, .int p2)]) hx hb dX9_count_22 rfl hl (by decide) rfl (fun ls hl => ?_)
      refine lv_iconst (v := 0) hx hb dX9_count_23 (by decide) ?_
      refine lv_istore (lv' := [(4, .int 0), (3, .int 0), (0, .ref m0), (1, .int p1), (2, .int p2)]) hx hb dX9_count_24 hl (by decide) rfl (fun ls hl => ?_)
      obtain ⟨I26_8, u26_8, h026, hst26⟩ := h
      have key26 : ∀ (k9 : Nat) (y7 : Int32) (y8 : Int32), I26_8 y7 y8 → u26_8 y7 y8 < k9 → ∀ (ls : Array Slot), lv_has ls 5 [(0, .ref m0), (1, .int p1), (2, .int p2), (3, .int y7), (4, .int y8)] → W p l e (headSpec wsX9_count rmX9_count).room s m args below meth c s.heap [] 0 0 QM (F0 m 26 ls []) := by
        intro k9
        induction k9 with
        | zero =>
          intro y7 y8 hI9 hk9
          exact absurd hk9 (Nat.not_lt_zero _)
        | succ k9 ih26 =>
          intro y7 y8 hI9 hk26 ls hl
          have h := hst26 y7 y8 hI9
          refine lv_iload hx hb dX9_count_26 (lv_at hl 4 rfl) ?_
          refine lv_iconst (v := 1) hx hb dX9_count_28 (by decide) ?_
          refine lv_aload_n hx hb dX9_count_29 rfl (lv_at hl 0 rfl) ?_
          refine va_get (D := G) (ci := 8) (v := .int kn) (C := RX9) (T := TX9) (N := 10) hx hb hts iwX9 hown hK.1 hP 0 rfl rfl 0 (by decide) fl7 (fun _ h9 => h9) rfl dX9_count_30 ?_
          refine lv_ishl hx hb dX9_count_33 ?_
          refine lv_icmp_ge (tgt := 74) hx hb dX9_count_34 (by decide) (fun c9 => ?_) (fun c9 => ?_)
          · obtain ⟨h, -⟩ := h
            specialize h c9
            refine lv_iload_n hx hb dX9_count_74 rfl (lv_at hl 3 rfl) ?_
            rw [← hQe]
            exact W.iret (v := y7) hx hb hr (fun t ht hW => ⟨y7, rfl, h, ht⟩) (fun q9 h9 => by cases h9) dX9_count_75
          · obtain ⟨-, h⟩ := h
            specialize h c9
            refine lv_iload_n hx hb dX9_count_37 rfl (lv_at hl 3 rfl) ?_
            refine lv_iload_n hx hb dX9_count_38 rfl (lv_at hl 2 rfl) ?_
            refine lv_if_lt (tgt := 51) hx hb dX9_count_39 (by decide) (fun c10 => ?_) (fun c10 => ?_)
            · obtain ⟨h, -⟩ := h
              specialize h c10
              refine lv_aload_n hx hb dX9_count_51 rfl (lv_at hl 0 rfl) ?_
              refine lv_iload_n hx hb dX9_count_52 rfl (lv_at hl 1 rfl) ?_
              refine lv_iload hx hb dX9_count_53 (lv_at hl 4 rfl) ?_
              obtain ⟨Q11, hw9, h⟩ := h
              have hPc : va_P G vwCl [(m0, .inr (8, [.int kn, .ref mJ, .int kFe, .int kMo, .int kCo, .long kT, .ref mF, .ref mD, .ref mS, .ref mP])), (mJ, .inl (cy 0, 9, .inl jJ))] s.heap := hP.sub [0, 1] rfl
              refine vp_callSi (va_Run.run (va_runV (As := [.int p1, .int y8]) (rest := [.int y7]) ⟨hx, hb, hml, hown, hts⟩ (ct_X9_isLawful l G cy m0 mJ mF mD mS mP kn kFe kMo kCo kT jJ p1 y8 Q11 hw9) (cwV 2 hts gX9_count_X9_isLawful rfl rfl rfl (by decide +kernel) ⟨Nat.le_of_ble_eq_true rfl, Nat.le_of_ble_eq_true rfl⟩) (rP_V hK hP (ci := 8) (q0 := 0) rfl rfl hPc) rfl rfl hl.1 rfl (lv_room (Nat.le_of_ble_eq_true rfl)) dX9_count_55 ⟨Nat.le_of_ble_eq_true rfl, Nat.le_of_ble_eq_true rfl⟩)) (fun r12 er12 => ?_)
              specialize h r12 er12
              refine lv_if_eq (tgt := 65) hx hb dX9_count_58 (by decide) (fun c13 => ?_) (fun c13 => ?_)
              · obtain ⟨h, -⟩ := h
                specialize h c13
                refine lv_iconst (v := 0) hx hb dX9_count_65 (by decide) ?_
                refine lv_iadd hx hb dX9_count_66 ?_
                refine lv_topi (fun x14 ex14 => ?_)
                specialize h x14 ex14
                refine lv_istore_n (lv' := [(3, .int x14), (0, .ref m0), (1, .int p1), (2, .int p2), (4, .int y8)]) hx hb dX9_count_67 rfl hl (by decide) rfl (fun ls hl => ?_)
                obtain ⟨x15, ex15⟩ : ∃ y : Int32, y = y8 + 1 := ⟨_, rfl⟩
                specialize h x15 ex15
                refine lv_iinc (v := x15) (lv' := [(4, .int x15), (3, .int x14), (0, .ref m0), (1, .int p1), (2, .int p2)]) hx hb dX9_count_68 hl (k := 4) rfl (by rw [ex15]; rfl) (by decide) rfl (fun ls hl => ?_)
                refine lv_goto (tgt := 26) hx hb dX9_count_71 (by decide) ?_
                exact ih26 x14 x15 h.1 (Nat.lt_of_lt_of_le h.2 (Nat.le_of_lt_succ hk26)) _ (lv_sub hl [2, 3, 4, 1, 0] rfl)
              · obtain ⟨-, h⟩ := h
                specialize h c13
                refine lv_iconst (v := 1) hx hb dX9_count_61 (by decide) ?_
                refine lv_goto (tgt := 66) hx hb dX9_count_62 (by decide) ?_
                refine lv_iadd hx hb dX9_count_66 ?_
                refine lv_topi (fun x16 ex16 => ?_)
                specialize h x16 ex16
                refine lv_istore_n (lv' := [(3, .int x16), (0, .ref m0), (1, .int p1), (2, .int p2), (4, .int y8)]) hx hb dX9_count_67 rfl hl (by decide) rfl (fun ls hl => ?_)
                obtain ⟨x17, ex17⟩ : ∃ y : Int32, y = y8 + 1 := ⟨_, rfl⟩
                specialize h x17 ex17
                refine lv_iinc (v := x17) (lv' := [(4, .int x17), (3, .int x16), (0, .ref m0), (1, .int p1), (2, .int p2)]) hx hb dX9_count_68 hl (k := 4) rfl (by rw [ex17]; rfl) (by decide) rfl (fun ls hl => ?_)
                refine lv_goto (tgt := 26) hx hb dX9_count_71 (by decide) ?_
                exact ih26 x16 x17 h.1 (Nat.lt_of_lt_of_le h.2 (Nat.le_of_lt_succ hk26)) _ (lv_sub hl [2, 3, 4, 1, 0] rfl)
            · obtain ⟨-, h⟩ := h
              specialize h c10
              refine lv_iload hx hb dX9_count_42 (lv_at hl 4 rfl) ?_
              obtain ⟨Q18, hw9, h⟩ := h
              have hPc : va_P G vwCl [] s.heap := P_nil
              refine vp_callSi (va_Run.run (va_runS (As := [.int y8]) (rest := [.int y7]) ⟨hx, hb, hml, hown, hts⟩ (ct_X9_size l G cy y8 Q18 hw9) (va_cwS 1 hts gX9_count_X9_size rfl rfl rfl (by decide +kernel) ⟨Nat.le_of_ble_eq_true rfl, Nat.le_of_ble_eq_true rfl⟩) (rP_S hK hPc) rfl rfl hl.1 rfl (lv_room (Nat.le_of_ble_eq_true rfl)) dX9_count_44 ⟨Nat.le_of_ble_eq_true rfl, Nat.le_of_ble_eq_true rfl⟩)) (fun r19 er19 => ?_)
              specialize h r19 er19
              refine lv_iload_n hx hb dX9_count_47 rfl (lv_at hl 2 rfl) ?_
              refine lv_icmp_ne (tgt := 65) hx hb dX9_count_48 (by decide) (fun c20 => ?_) (fun c20 => ?_)
              · obtain ⟨-, h⟩ := h
                specialize h c20
                refine lv_iconst (v := 0) hx hb dX9_count_65 (by decide) ?_
                refine lv_iadd hx hb dX9_count_66 ?_
                refine lv_topi (fun x21 ex21 => ?_)
                specialize h x21 ex21
                refine lv_istore_n (lv' := [(3, .int x21), (0, .ref m0), (1, .int p1), (2, .int p2), (4, .int y8)]) hx hb dX9_count_67 rfl hl (by decide) rfl (fun ls hl => ?_)
                obtain ⟨x22, ex22⟩ : ∃ y : Int32, y = y8 + 1 := ⟨_, rfl⟩
                specialize h x22 ex22
                refine lv_iinc (v := x22) (lv' := [(4, .int x22), (3, .int x21), (0, .ref m0), (1, .int p1), (2, .int p2)]) hx hb dX9_count_68 hl (k := 4) rfl (by rw [ex22]; rfl) (by decide) rfl (fun ls hl => ?_)
                refine lv_goto (tgt := 26) hx hb dX9_count_71 (by decide) ?_
                exact ih26 x21 x22 h.1 (Nat.lt_of_lt_of_le h.2 (Nat.le_of_lt_succ hk26)) _ (lv_sub hl [2, 3, 4, 1, 0] rfl)
              · obtain ⟨h, -⟩ := h
                specialize h c20
                refine lv_aload_n hx hb dX9_count_51 rfl (lv_at hl 0 rfl) ?_
                refine lv_iload_n hx hb dX9_count_52 rfl (lv_at hl 1 rfl) ?_
                refine lv_iload hx hb dX9_count_53 (lv_at hl 4 rfl) ?_
                obtain ⟨Q23, hw9, h⟩ := h
                have hPc : va_P G vwCl [(m0, .inr (8, [.int kn, .ref mJ, .int kFe, .int kMo, .int kCo, .long kT, .ref mF, .ref mD, .ref mS, .ref mP])), (mJ, .inl (cy 0, 9, .inl jJ))] s.heap := hP.sub [0, 1] rfl
                refine vp_callSi (va_Run.run (va_runV (As := [.int p1, .int y8]) (rest := [.int y7]) ⟨hx, hb, hml, hown, hts⟩ (ct_X9_isLawful l G cy m0 mJ mF mD mS mP kn kFe kMo kCo kT jJ p1 y8 Q23 hw9) (cwV 2 hts gX9_count_X9_isLawful rfl rfl rfl (by decide +kernel) ⟨Nat.le_of_ble_eq_true rfl, Nat.le_of_ble_eq_true rfl⟩) (rP_V hK hP (ci := 8) (q0 := 0) rfl rfl hPc) rfl rfl hl.1 rfl (lv_room (Nat.le_of_ble_eq_true rfl)) dX9_count_55 ⟨Nat.le_of_ble_eq_true rfl, Nat.le_of_ble_eq_true rfl⟩)) (fun r24 er24 => ?_)
                specialize h r24 er24
                refine lv_if_eq (tgt := 65) hx hb dX9_count_58 (by decide) (fun c25 => ?_) (fun c25 => ?_)
                · obtain ⟨h, -⟩ := h
                  specialize h c25
                  refine lv_iconst (v := 0) hx hb dX9_count_65 (by decide) ?_
                  refine lv_iadd hx hb dX9_count_66 ?_
                  refine lv_topi (fun x26 ex26 => ?_)
                  specialize h x26 ex26
                  refine lv_istore_n (lv' := [(3, .int x26), (0, .ref m0), (1, .int p1), (2, .int p2), (4, .int y8)]) hx hb dX9_count_67 rfl hl (by decide) rfl (fun ls hl => ?_)
                  obtain ⟨x27, ex27⟩ : ∃ y : Int32, y = y8 + 1 := ⟨_, rfl⟩
                  specialize h x27 ex27
                  refine lv_iinc (v := x27) (lv' := [(4, .int x27), (3, .int x26), (0, .ref m0), (1, .int p1), (2, .int p2)]) hx hb dX9_count_68 hl (k := 4) rfl (by rw [ex27]; rfl) (by decide) rfl (fun ls hl => ?_)
                  refine lv_goto (tgt := 26) hx hb dX9_count_71 (by decide) ?_
                  exact ih26 x26 x27 h.1 (Nat.lt_of_lt_of_le h.2 (Nat.le_of_lt_succ hk26)) _ (lv_sub hl [2, 3, 4, 1, 0] rfl)
                · obtain ⟨-, h⟩ := h
                  specialize h c25
                  refine lv_iconst (v := 1) hx hb dX9_count_61 (by decide) ?_
                  refine lv_goto (tgt := 66) hx hb dX9_count_62 (by decide) ?_
                  refine lv_iadd hx hb dX9_count_66 ?_
                  refine lv_topi (fun x28 ex28 => ?_)
                  specialize h x28 ex28
                  refine lv_istore_n (lv' := [(3, .int x28), (0, .ref m0), (1, .int p1), (2, .int p2), (4, .int y8)]) hx hb dX9_count_67 rfl hl (by decide) rfl (fun ls hl => ?_)
                  obtain ⟨x29, ex29⟩ : ∃ y : Int32, y = y8 + 1 := ⟨_, rfl⟩
                  specialize h x29 ex29
                  refine lv_iinc (v := x29) (lv' := [(4, .int x29), (3, .int x28), (0, .ref m0), (1, .int p1), (2, .int p2)]) hx hb dX9_count_68 hl (k := 4) rfl (by rw [ex29]; rfl) (by decide) rfl (fun ls hl => ?_)
                  refine lv_goto (tgt := 26) hx hb dX9_count_71 (by decide) ?_
                  exact ih26 x28 x29 h.1 (Nat.lt_of_lt_of_le h.2 (Nat.le_of_lt_succ hk26)) _ (lv_sub hl [2, 3, 4, 1, 0] rfl)
      exact key26 _ 0 0 h026 (Nat.lt_succ_self _) _ (lv_sub hl [2, 3, 4, 1, 0] rfl)
    · obtain ⟨h, -⟩ := h
      specialize h c6
      refine lv_iconst (v := (-1)) hx hb dX9_count_19 (by decide) ?_
      rw [← hQe]
      exact W.iret (v := (-1)) hx hb hr (fun t ht hW => ⟨(-1), rfl, h, ht⟩) (fun q9 h9 => by cases h9) dX9_count_20

set_option maxHeartbeats 4000000 in
set_option maxRecDepth 100000 in
theorem ct_X9_weightOf (l : Launch) (G : va_G) (cy : Nat → ClassId) (m0 mJ mF mD mS mP : Nat) (kn : Int32) (kFe : Int32) (kMo : Int32) (kCo : Int32) (kT : Int64) (jJ : Nat → Int32) (p1 : Int32) (p2 : Int32) (p3 : Int32) (Q : Int32 → Prop) (h : wp_X9_weightOf jJ p1 p2 p3 Q) : Met l yX9_weightOf wsX9_weightOf rmX9_weightOf (va_Pc [.ref m0, .int p1, .int p2, .int p3] (rP G cy [(m0, .inr (8, [.int kn, .ref mJ, .int kFe, .int kMo, .int kCo, .long kT, .ref mF, .ref mD, .ref mS, .ref mP])), (mJ, .inl (cy 0, 9, .inl jJ))])) (vp_Si Q) 0 0 (fun _ => False) := by
  unfold wp_X9_weightOf at h
  refine Met.ofW (cc := cX9_weightOf) (maxL := 7) (ret := (some .int)) (by decide) rfl ?_
  intro p e s m args below meth c s₁ B hml hv
  obtain ⟨hav, hP, hK⟩ := hv
  have hx := B.exec
  have hb := B.bytes
  have hr := B.returns
  have hts := atoms_spec (ws := wsX9_weightOf) B.pre
  have hown : s.vm.findClass RX9 = some m.cls := findClass_of_methodNamed B.named
  have hlocks := B.notSynchronized
  have hl := lv_entry ([.ref m0, .int p1, .int p2, .int p3]) (n := 7) (Nat.le_of_ble_eq_true rfl)
  rw [show entryFrame m args 7 = entryFrame m ([.ref m0, .int p1, .int p2, .int p3] : List Value).toArray 7 by rw [hav], lg_entry_eq]
  generalize (lg_sl ([.ref m0, .int p1, .int p2, .int p3]) ++ List.replicate (7 - (lg_sl ([.ref m0, .int p1, .int p2, .int p3])).length) Slot.unset).toArray = ls at hl ⊢
  have hl : lv_has ls 7 [(0, .ref m0), (1, .int p1), (2, .int p2), (3, .int p3)] := hl
  generalize hQe : MQ below _ _ _ _ _ _ = QM
  have iwX9 : ∀ w ∈ wsX90, w ∈ wsX9_weightOf := by decide +kernel
  have fl13 := hts (.fieldLink RX9 13 "SlidTokensModel" "joined" "[I") (by decide +kernel)
  refine lv_iload_n hx hb dX9_weightOf_0 rfl (lv_at hl 2 rfl) ?_
  refine lv_iload_n hx hb dX9_weightOf_1 rfl (lv_at hl 3 rfl) ?_
  refine lv_iconst (v := (-1)) hx hb dX9_weightOf_2 (by decide) ?_
  refine lv_ixor hx hb dX9_weightOf_3 ?_
  refine lv_iand hx hb dX9_weightOf_4 ?_
  refine lv_topi (fun x1 ex1 => ?_)
  specialize h x1 ex1
  refine lv_istore (lv' := [(4, .int x1), (0, .ref m0), (1, .int p1), (2, .int p2), (3, .int p3)]) hx hb dX9_weightOf_5 hl (by decide) rfl (fun ls hl => ?_)
  refine lv_iload_n hx hb dX9_weightOf_7 rfl (lv_at hl 4 rfl) ?_
  refine lv_iload_n hx hb dX9_weightOf_8 rfl (lv_at hl 3 rfl) ?_
  refine lv_iconst (v := (-1)) hx hb dX9_weightOf_9 (by decide) ?_
  refine lv_ixor hx hb dX9_weightOf_10 ?_
  refine lv_iand hx hb dX9_weightOf_11 ?_
  refine lv_topi (fun x2 ex2 => ?_)
  specialize h x2 ex2
  refine lv_istore (lv' := [(5, .int x2), (4, .int x1), (0, .ref m0), (1, .int p1), (2, .int p2), (3, .int p3)]) hx hb dX9_weightOf_12 hl (by decide) rfl (fun ls hl => ?_)
  refine lv_iload hx hb dX9_weightOf_14 (lv_at hl 1 rfl) ?_
  obtain ⟨Q3, hw9, h⟩ := h
  have hPc : va_P G vwCl [] s.heap := P_nil
  refine vp_callSi (va_Run.run (va_runS (As := [.int x1]) (rest := []) ⟨hx, hb, hml, hown, hts⟩ (ct_X9_size l G cy x1 Q3 hw9) (va_cwS 1 hts gX9_weightOf_X9_size rfl rfl rfl (by decide +kernel) ⟨Nat.le_of_ble_eq_true rfl, Nat.le_of_ble_eq_true rfl⟩) (rP_S hK hPc) rfl rfl hl.1 rfl (lv_room (Nat.le_of_ble_eq_true rfl)) dX9_weightOf_16 ⟨Nat.le_of_ble_eq_true rfl, Nat.le_of_ble_eq_true rfl⟩)) (fun r4 er4 => ?_)
  specialize h r4 er4
  refine lv_iconst (v := 1) hx hb dX9_weightOf_19 (by decide) ?_
  refine lv_icmp_ne (tgt := 78) hx hb dX9_weightOf_20 (by decide) (fun c5 => ?_) (fun c5 => ?_)
  · obtain ⟨-, h⟩ := h
    specialize h c5
    refine lv_iload_n hx hb dX9_weightOf_78 rfl (lv_at hl 3 rfl) ?_
    refine lv_iconst (v := 2) hx hb dX9_weightOf_79 (by decide) ?_
    refine lv_icmp_ne (tgt := 102) hx hb dX9_weightOf_80 (by decide) (fun c6 => ?_) (fun c6 => ?_)
    · obtain ⟨-, h⟩ := h
      specialize h c6
      refine lv_iconst (v := 0) hx hb dX9_weightOf_102 (by decide) ?_
      rw [← hQe]
      exact W.iret (v := 0) hx hb hr (fun t ht hW => ⟨0, rfl, h, ht⟩) (fun q9 h9 => by cases h9) dX9_weightOf_103
    · obtain ⟨h, -⟩ := h
      specialize h c6
      refine lv_iload hx hb dX9_weightOf_83 (lv_at hl 1 rfl) ?_
      obtain ⟨Q7, hw9, h⟩ := h
      have hPc : va_P G vwCl [] s.heap := P_nil
      refine vp_callSi (va_Run.run (va_runS (As := [.int x1]) (rest := []) ⟨hx, hb, hml, hown, hts⟩ (ct_X9_size l G cy x1 Q7 hw9) (va_cwS 1 hts gX9_weightOf_X9_size rfl rfl rfl (by decide +kernel) ⟨Nat.le_of_ble_eq_true rfl, Nat.le_of_ble_eq_true rfl⟩) (rP_S hK hPc) rfl rfl hl.1 rfl (lv_room (Nat.le_of_ble_eq_true rfl)) dX9_weightOf_85 ⟨Nat.le_of_ble_eq_true rfl, Nat.le_of_ble_eq_true rfl⟩)) (fun r8 er8 => ?_)
      specialize h r8 er8
      refine lv_iload hx hb dX9_weightOf_88 (lv_at hl 0 rfl) ?_
      obtain ⟨Q9, hw9, h⟩ := h
      have hPc : va_P G vwCl [] s.heap := P_nil
      refine vp_callSi (va_Run.run (va_runS (As := [.int x2]) (rest := [.int r8]) ⟨hx, hb, hml, hown, hts⟩ (ct_X9_size l G cy x2 Q9 hw9) (va_cwS 1 hts gX9_weightOf_X9_size rfl rfl rfl (by decide +kernel) ⟨Nat.le_of_ble_eq_true rfl, Nat.le_of_ble_eq_true rfl⟩) (rP_S hK hPc) rfl rfl hl.1 rfl (lv_room (Nat.le_of_ble_eq_true rfl)) dX9_weightOf_90 ⟨Nat.le_of_ble_eq_true rfl, Nat.le_of_ble_eq_true rfl⟩)) (fun r10 er10 => ?_)
      specialize h r10 er10
      refine lv_iadd hx hb dX9_weightOf_93 ?_
      refine lv_iconst (v := 1) hx hb dX9_weightOf_94 (by decide) ?_
      refine lv_icmp_ne (tgt := 102) hx hb dX9_weightOf_95 (by decide) (fun c11 => ?_) (fun c11 => ?_)
      · obtain ⟨-, h⟩ := h
        specialize h c11
        refine lv_iconst (v := 0) hx hb dX9_weightOf_102 (by decide) ?_
        rw [← hQe]
        exact W.iret (v := 0) hx hb hr (fun t ht hW => ⟨0, rfl, h, ht⟩) (fun q9 h9 => by cases h9) dX9_weightOf_103
      · obtain ⟨h, -⟩ := h
        specialize h c11
        refine lv_iconst (v := 3) hx hb dX9_weightOf_98 (by decide) ?_
        refine lv_goto (tgt := 103) hx hb dX9_weightOf_99 (by decide) ?_
        rw [← hQe]
        exact W.iret (v := 3) hx hb hr (fun t ht hW => ⟨3, rfl, h, ht⟩) (fun q9 h9 => by cases h9) dX9_weightOf_103
  · obtain ⟨h, -⟩ := h
    specialize h c5
    refine lv_iload hx hb dX9_weightOf_23 (lv_at hl 0 rfl) ?_
    obtain ⟨Q12, hw9, h⟩ := h
    have hPc : va_P G vwCl [] s.heap := P_nil
    refine vp_callSi (va_Run.run (va_runS (As := [.int x2]) (rest := []) ⟨hx, hb, hml, hown, hts⟩ (ct_X9_size l G cy x2 Q12 hw9) (va_cwS 1 hts gX9_weightOf_X9_size rfl rfl rfl (by decide +kernel) ⟨Nat.le_of_ble_eq_true rfl, Nat.le_of_ble_eq_true rfl⟩) (rP_S hK hPc) rfl rfl hl.1 rfl (lv_room (Nat.le_of_ble_eq_true rfl)) dX9_weightOf_25 ⟨Nat.le_of_ble_eq_true rfl, Nat.le_of_ble_eq_true rfl⟩)) (fun r13 er13 => ?_)
    specialize h r13 er13
    refine lv_iconst (v := 1) hx hb dX9_weightOf_28 (by decide) ?_
    refine lv_icmp_ne (tgt := 78) hx hb dX9_weightOf_29 (by decide) (fun c14 => ?_) (fun c14 => ?_)
    · obtain ⟨-, h⟩ := h
      specialize h c14
      refine lv_iload_n hx hb dX9_weightOf_78 rfl (lv_at hl 3 rfl) ?_
      refine lv_iconst (v := 2) hx hb dX9_weightOf_79 (by decide) ?_
      refine lv_icmp_ne (tgt := 102) hx hb dX9_weightOf_80 (by decide) (fun c15 => ?_) (fun c15 => ?_)
      · obtain ⟨-, h⟩ := h
        specialize h c15
        refine lv_iconst (v := 0) hx hb dX9_weightOf_102 (by decide) ?_
        rw [← hQe]
        exact W.iret (v := 0) hx hb hr (fun t ht hW => ⟨0, rfl, h, ht⟩) (fun q9 h9 => by cases h9) dX9_weightOf_103
      · obtain ⟨h, -⟩ := h
        specialize h c15
        refine lv_iload hx hb dX9_weightOf_83 (lv_at hl 1 rfl) ?_
        obtain ⟨Q16, hw9, h⟩ := h
        have hPc : va_P G vwCl [] s.heap := P_nil
        refine vp_callSi (va_Run.run (va_runS (As := [.int x1]) (rest := []) ⟨hx, hb, hml, hown, hts⟩ (ct_X9_size l G cy x1 Q16 hw9) (va_cwS 1 hts gX9_weightOf_X9_size rfl rfl rfl (by decide +kernel) ⟨Nat.le_of_ble_eq_true rfl, Nat.le_of_ble_eq_true rfl⟩) (rP_S hK hPc) rfl rfl hl.1 rfl (lv_room (Nat.le_of_ble_eq_true rfl)) dX9_weightOf_85 ⟨Nat.le_of_ble_eq_true rfl, Nat.le_of_ble_eq_true rfl⟩)) (fun r17 er17 => ?_)
        specialize h r17 er17
        refine lv_iload hx hb dX9_weightOf_88 (lv_at hl 0 rfl) ?_
        obtain ⟨Q18, hw9, h⟩ := h
        have hPc : va_P G vwCl [] s.heap := P_nil
        refine vp_callSi (va_Run.run (va_runS (As := [.int x2]) (rest := [.int r17]) ⟨hx, hb, hml, hown, hts⟩ (ct_X9_size l G cy x2 Q18 hw9) (va_cwS 1 hts gX9_weightOf_X9_size rfl rfl rfl (by decide +kernel) ⟨Nat.le_of_ble_eq_true rfl, Nat.le_of_ble_eq_true rfl⟩) (rP_S hK hPc) rfl rfl hl.1 rfl (lv_room (Nat.le_of_ble_eq_true rfl)) dX9_weightOf_90 ⟨Nat.le_of_ble_eq_true rfl, Nat.le_of_ble_eq_true rfl⟩)) (fun r19 er19 => ?_)
        specialize h r19 er19
        refine lv_iadd hx hb dX9_weightOf_93 ?_
        refine lv_iconst (v := 1) hx hb dX9_weightOf_94 (by decide) ?_
        refine lv_icmp_ne (tgt := 102) hx hb dX9_weightOf_95 (by decide) (fun c20 => ?_) (fun c20 => ?_)
        · obtain ⟨-, h⟩ := h
          specialize h c20
          refine lv_iconst (v := 0) hx hb dX9_weightOf_102 (by decide) ?_
          rw [← hQe]
          exact W.iret (v := 0) hx hb hr (fun t ht hW => ⟨0, rfl, h, ht⟩) (fun q9 h9 => by cases h9) dX9_weightOf_103
        · obtain ⟨h, -⟩ := h
          specialize h c20
          refine lv_iconst (v := 3) hx hb dX9_weightOf_98 (by decide) ?_
          refine lv_goto (tgt := 103) hx hb dX9_weightOf_99 (by decide) ?_
          rw [← hQe]
          exact W.iret (v := 3) hx hb hr (fun t ht hW => ⟨3, rfl, h, ht⟩) (fun q9 h9 => by cases h9) dX9_weightOf_103
    · obtain ⟨h, -⟩ := h
      specialize h c14
      refine lv_iconst (v := 0) hx hb dX9_weightOf_32 (by decide) ?_
      refine lv_istore (lv' := [(6, .int 0), (5, .int x2), (4, .int x1), (0, .ref m0), (1, .int p1), (2, .int p2), (3, .int p3)]) hx hb dX9_weightOf_33 hl (by decide) rfl (fun ls hl => ?_)
      obtain ⟨I35_21, u35_21, h035, hst35⟩ := h
      have key35 : ∀ (k9 : Nat) (y21 : Int32), I35_21 y21 → u35_21 y21 < k9 → ∀ (ls : Array Slot), lv_has ls 7 [(0, .ref m0), (1, .int p1), (4, .int x1), (5, .int x2), (6, .int y21)] → W p l e (headSpec wsX9_weightOf rmX9_weightOf).room s m args below meth c s.heap [] 0 0 QM (F0 m 35 ls []) := by
        intro k9
        induction k9 with
        | zero =>
          intro y21 hI9 hk9
          exact absurd hk9 (Nat.not_lt_zero _)
        | succ k9 ih35 =>
          intro y21 hI9 hk35 ls hl
          have h := hst35 y21 hI9
          refine lv_iload hx hb dX9_weightOf_35 (lv_at hl 2 rfl) ?_
          refine lv_iload hx hb dX9_weightOf_37 (lv_at hl 4 rfl) ?_
          refine lv_ishr hx hb dX9_weightOf_39 ?_
          refine lv_iconst (v := 1) hx hb dX9_weightOf_40 (by decide) ?_
          refine lv_iand hx hb dX9_weightOf_41 ?_
          refine lv_if_ne (tgt := 51) hx hb dX9_weightOf_42 (by decide) (fun c22 => ?_) (fun c22 => ?_)
          · obtain ⟨-, h⟩ := h
            specialize h c22
            refine lv_aload_n hx hb dX9_weightOf_51 rfl (lv_at hl 0 rfl) ?_
            refine va_get (D := G) (ci := 8) (v := .ref mJ) (C := RX9) (T := TX9) (N := 10) hx hb hts iwX9 hown hK.1 hP 0 rfl rfl 1 (by decide) fl13 (fun _ h9 => h9) rfl dX9_weightOf_52 ?_
            refine lv_iload hx hb dX9_weightOf_55 (lv_at hl 4 rfl) ?_
            obtain ⟨hi, h⟩ := h
            refine va_iald hx hb hK.1 hP 1 0 rfl rfl hi dX9_weightOf_57 ?_
            refine lv_iload hx hb dX9_weightOf_58 (lv_at hl 3 rfl) ?_
            refine lv_iand hx hb dX9_weightOf_60 ?_
            refine lv_if_eq (tgt := 68) hx hb dX9_weightOf_61 (by decide) (fun c23 => ?_) (fun c23 => ?_)
            · obtain ⟨h, -⟩ := h
              specialize h c23
              refine lv_iload_n hx hb dX9_weightOf_68 rfl (lv_at hl 1 rfl) ?_
              refine lv_if_le (tgt := 76) hx hb dX9_weightOf_69 (by decide) (fun c24 => ?_) (fun c24 => ?_)
              · obtain ⟨h, -⟩ := h
                specialize h c24
                refine lv_iconst (v := 0) hx hb dX9_weightOf_76 (by decide) ?_
                rw [← hQe]
                exact W.iret (v := 0) hx hb hr (fun t ht hW => ⟨0, rfl, h, ht⟩) (fun q9 h9 => by cases h9) dX9_weightOf_77
              · obtain ⟨-, h⟩ := h
                specialize h c24
                refine lv_iconst (v := 2) hx hb dX9_weightOf_72 (by decide) ?_
                refine lv_goto (tgt := 77) hx hb dX9_weightOf_73 (by decide) ?_
                rw [← hQe]
                exact W.iret (v := 2) hx hb hr (fun t ht hW => ⟨2, rfl, h, ht⟩) (fun q9 h9 => by cases h9) dX9_weightOf_77
            · obtain ⟨-, h⟩ := h
              specialize h c23
              refine lv_iconst (v := 1) hx hb dX9_weightOf_64 (by decide) ?_
              refine lv_goto (tgt := 77) hx hb dX9_weightOf_65 (by decide) ?_
              rw [← hQe]
              exact W.iret (v := 1) hx hb hr (fun t ht hW => ⟨1, rfl, h, ht⟩) (fun q9 h9 => by cases h9) dX9_weightOf_77
          · obtain ⟨h, -⟩ := h
            specialize h c22
            obtain ⟨x25, ex25⟩ : ∃ y : Int32, y = y21 + 1 := ⟨_, rfl⟩
            specialize h x25 ex25
            refine lv_iinc (v := x25) (lv' := [(6, .int x25), (0, .ref m0), (1, .int p1), (4, .int x1), (5, .int x2)]) hx hb dX9_weightOf_45 hl (k := 4) rfl (by rw [ex25]; rfl) (by decide) rfl (fun ls hl => ?_)
            refine lv_goto (tgt := 35) hx hb dX9_weightOf_48 (by decide) ?_
            exact ih35 x25 h.1 (Nat.lt_of_lt_of_le h.2 (Nat.le_of_lt_succ hk35)) _ (lv_sub hl [1, 2, 3, 4, 0] rfl)
      exact key35 _ 0 h035 (Nat.lt_succ_self _) _ (lv_sub hl [3, 4, 2, 1, 0] rfl)

set_option maxHeartbeats 4000000 in
set_option maxRecDepth 100000 in
theorem ct_X9_canBe (l : Launch) (G : va_G) (cy : Nat → ClassId) (m0 mJ mF mD mS mP : Nat) (kn : Int32) (kFe : Int32) (kMo : Int32) (kCo : Int32) (kT : Int64) (jJ : Nat → Int32) (p1 : Int32) (p2 : Int32) (p3 : Int32) (Q : Int32 → Prop) (h : wp_X9_canBe kn kFe kMo jJ p1 p2 p3 Q) : Met l yX9_canBe wsX9_canBe rmX9_canBe (va_Pc [.ref m0, .int p1, .int p2, .int p3] (rP G cy [(m0, .inr (8, [.int kn, .ref mJ, .int kFe, .int kMo, .int kCo, .long kT, .ref mF, .ref mD, .ref mS, .ref mP])), (mJ, .inl (cy 0, 9, .inl jJ))])) (vp_Si Q) 0 0 (fun _ => False) := by
  unfold wp_X9_canBe at h
  refine Met.ofW (cc := cX9_canBe) (maxL := 4) (ret := (some .boolean)) (by decide) rfl ?_
  intro p e s m args below meth c s₁ B hml hv
  obtain ⟨hav, hP, hK⟩ := hv
  have hx := B.exec
  have hb := B.bytes
  have hr := B.returns
  have hts := atoms_spec (ws := wsX9_canBe) B.pre
  have hown : s.vm.findClass RX9 = some m.cls := findClass_of_methodNamed B.named
  have hlocks := B.notSynchronized
  have hl := lv_entry ([.ref m0, .int p1, .int p2, .int p3]) (n := 4) (Nat.le_of_ble_eq_true rfl)
  rw [show entryFrame m args 4 = entryFrame m ([.ref m0, .int p1, .int p2, .int p3] : List Value).toArray 4 by rw [hav], lg_entry_eq]
  generalize (lg_sl ([.ref m0, .int p1, .int p2, .int p3]) ++ List.replicate (4 - (lg_sl ([.ref m0, .int p1, .int p2, .int p3])).length) Slot.unset).toArray = ls at hl ⊢
  have hl : lv_has ls 4 [(0, .ref m0), (1, .int p1), (2, .int p2), (3, .int p3)] := hl
  generalize hQe : MQ below _ _ _ _ _ _ = QM
  have iwX9 : ∀ w ∈ wsX90, w ∈ wsX9_canBe := by decide +kernel
  have fl36 := hts (.fieldLink RX9 36 "SlidTokensModel" "fewest" "I") (by decide +kernel)
  have fl17 := hts (.fieldLink RX9 17 "SlidTokensModel" "most" "I") (by decide +kernel)
  refine lv_aload_n hx hb dX9_canBe_0 rfl (lv_at hl 0 rfl) ?_
  refine lv_iload_n hx hb dX9_canBe_1 rfl (lv_at hl 1 rfl) ?_
  refine lv_iload_n hx hb dX9_canBe_2 rfl (lv_at hl 3 rfl) ?_
  obtain ⟨Q1, hw9, h⟩ := h
  have hPc : va_P G vwCl [(m0, .inr (8, [.int kn, .ref mJ, .int kFe, .int kMo, .int kCo, .long kT, .ref mF, .ref mD, .ref mS, .ref mP])), (mJ, .inl (cy 0, 9, .inl jJ))] s.heap := hP.sub [0, 1] rfl
  refine vp_callSi (va_Run.run (va_runV (As := [.int p1, .int p3]) (rest := []) ⟨hx, hb, hml, hown, hts⟩ (ct_X9_isLawful l G cy m0 mJ mF mD mS mP kn kFe kMo kCo kT jJ p1 p3 Q1 hw9) (cwV 2 hts gX9_canBe_X9_isLawful rfl rfl rfl (by decide +kernel) ⟨Nat.le_of_ble_eq_true rfl, Nat.le_of_ble_eq_true rfl⟩) (rP_V hK hP (ci := 8) (q0 := 0) rfl rfl hPc) rfl rfl hl.1 rfl (lv_room (Nat.le_of_ble_eq_true rfl)) dX9_canBe_3 ⟨Nat.le_of_ble_eq_true rfl, Nat.le_of_ble_eq_true rfl⟩)) (fun r2 er2 => ?_)
  specialize h r2 er2
  refine lv_if_eq (tgt := 36) hx hb dX9_canBe_6 (by decide) (fun c3 => ?_) (fun c3 => ?_)
  · obtain ⟨h, -⟩ := h
    specialize h c3
    refine lv_iconst (v := 0) hx hb dX9_canBe_36 (by decide) ?_
    rw [← hQe]
    exact W.zret (v := 0) hx hb hr rfl (fun t ht hW => ⟨0, rfl, h, ht⟩) (fun q9 h9 => by cases h9) dX9_canBe_37
  · obtain ⟨-, h⟩ := h
    specialize h c3
    refine lv_iload_n hx hb dX9_canBe_9 rfl (lv_at hl 2 rfl) ?_
    refine lv_iconst (v := 2) hx hb dX9_canBe_10 (by decide) ?_
    refine lv_icmp_lt (tgt := 32) hx hb dX9_canBe_11 (by decide) (fun c4 => ?_) (fun c4 => ?_)
    · obtain ⟨h, -⟩ := h
      specialize h c4
      refine lv_iconst (v := 1) hx hb dX9_canBe_32 (by decide) ?_
      refine lv_goto (tgt := 37) hx hb dX9_canBe_33 (by decide) ?_
      rw [← hQe]
      exact W.zret (v := 1) hx hb hr rfl (fun t ht hW => ⟨1, rfl, h, ht⟩) (fun q9 h9 => by cases h9) dX9_canBe_37
    · obtain ⟨-, h⟩ := h
      specialize h c4
      refine lv_iload_n hx hb dX9_canBe_14 rfl (lv_at hl 3 rfl) ?_
      obtain ⟨Q5, hw9, h⟩ := h
      have hPc : va_P G vwCl [] s.heap := P_nil
      refine vp_callSi (va_Run.run (va_runS (As := [.int p3]) (rest := []) ⟨hx, hb, hml, hown, hts⟩ (ct_X9_size l G cy p3 Q5 hw9) (va_cwS 1 hts gX9_canBe_X9_size rfl rfl rfl (by decide +kernel) ⟨Nat.le_of_ble_eq_true rfl, Nat.le_of_ble_eq_true rfl⟩) (rP_S hK hPc) rfl rfl hl.1 rfl (lv_room (Nat.le_of_ble_eq_true rfl)) dX9_canBe_15 ⟨Nat.le_of_ble_eq_true rfl, Nat.le_of_ble_eq_true rfl⟩)) (fun r6 er6 => ?_)
      specialize h r6 er6
      refine lv_aload_n hx hb dX9_canBe_18 rfl (lv_at hl 0 rfl) ?_
      refine va_get (D := G) (ci := 8) (v := .int kFe) (C := RX9) (T := TX9) (N := 10) hx hb hts iwX9 hown hK.1 hP 0 rfl rfl 2 (by decide) fl36 (fun _ h9 => h9) rfl dX9_canBe_19 ?_
      refine lv_aload_n hx hb dX9_canBe_22 rfl (lv_at hl 0 rfl) ?_
      refine va_get (D := G) (ci := 8) (v := .int kMo) (C := RX9) (T := TX9) (N := 10) hx hb hts iwX9 hown hK.1 hP 0 rfl rfl 3 (by decide) fl17 (fun _ h9 => h9) rfl dX9_canBe_23 ?_
      obtain ⟨Q7, hw9, h⟩ := h
      have hPc : va_P G vwCl [] s.heap := P_nil
      refine vp_callSi (va_Run.run (va_runS (As := [.int r6, .int kFe, .int kMo]) (rest := []) ⟨hx, hb, hml, hown, hts⟩ (ct_X9_in l G cy r6 kFe kMo Q7 hw9) (va_cwS 3 hts gX9_canBe_X9_in rfl rfl rfl (by decide +kernel) ⟨Nat.le_of_ble_eq_true rfl, Nat.le_of_ble_eq_true rfl⟩) (rP_S hK hPc) rfl rfl hl.1 rfl (lv_room (Nat.le_of_ble_eq_true rfl)) dX9_canBe_26 ⟨Nat.le_of_ble_eq_true rfl, Nat.le_of_ble_eq_true rfl⟩)) (fun r8 er8 => ?_)
      specialize h r8 er8
      refine lv_if_eq (tgt := 36) hx hb dX9_canBe_29 (by decide) (fun c9 => ?_) (fun c9 => ?_)
      · obtain ⟨h, -⟩ := h
        specialize h c9
        refine lv_iconst (v := 0) hx hb dX9_canBe_36 (by decide) ?_
        rw [← hQe]
        exact W.zret (v := 0) hx hb hr rfl (fun t ht hW => ⟨0, rfl, h, ht⟩) (fun q9 h9 => by cases h9) dX9_canBe_37
      · obtain ⟨-, h⟩ := h
        specialize h c9
        refine lv_iconst (v := 1) hx hb dX9_canBe_32 (by decide) ?_
        refine lv_goto (tgt := 37) hx hb dX9_canBe_33 (by decide) ?_
        rw [← hQe]
        exact W.zret (v := 1) hx hb hr rfl (fun t ht hW => ⟨1, rfl, h, ht⟩) (fun q9 h9 => by cases h9) dX9_canBe_37

set_option maxHeartbeats 4000000 in
set_option maxRecDepth 100000 in
theorem ct_X9_isGood (l : Launch) (G : va_G) (cy : Nat → ClassId) (m0 mJ mF mD mS mP : Nat) (kn : Int32) (kFe : Int32) (kMo : Int32) (kCo : Int32) (kT : Int64) (jJ : Nat → Int32) (p1 : Int32) (p2 : Int32) (p3 : Int32) (Q : Int32 → Prop) (h : wp_X9_isGood kn jJ p1 p2 p3 Q) : Met l yX9_isGood wsX9_isGood rmX9_isGood (va_Pc [.ref m0, .int p1, .int p2, .int p3] (rP G cy [(m0, .inr (8, [.int kn, .ref mJ, .int kFe, .int kMo, .int kCo, .long kT, .ref mF, .ref mD, .ref mS, .ref mP])), (mJ, .inl (cy 0, 9, .inl jJ))])) (vp_Si Q) 0 0 (fun _ => False) := by
  unfold wp_X9_isGood at h
  refine Met.ofW (cc := cX9_isGood) (maxL := 4) (ret := (some .boolean)) (by decide) rfl ?_
  intro p e s m args below meth c s₁ B hml hv
  obtain ⟨hav, hP, hK⟩ := hv
  have hx := B.exec
  have hb := B.bytes
  have hr := B.returns
  have hts := atoms_spec (ws := wsX9_isGood) B.pre
  have hown : s.vm.findClass RX9 = some m.cls := findClass_of_methodNamed B.named
  have hlocks := B.notSynchronized
  have hl := lv_entry ([.ref m0, .int p1, .int p2, .int p3]) (n := 4) (Nat.le_of_ble_eq_true rfl)
  rw [show entryFrame m args 4 = entryFrame m ([.ref m0, .int p1, .int p2, .int p3] : List Value).toArray 4 by rw [hav], lg_entry_eq]
  generalize (lg_sl ([.ref m0, .int p1, .int p2, .int p3]) ++ List.replicate (4 - (lg_sl ([.ref m0, .int p1, .int p2, .int p3])).length) Slot.unset).toArray = ls at hl ⊢
  have hl : lv_has ls 4 [(0, .ref m0), (1, .int p1), (2, .int p2), (3, .int p3)] := hl
  generalize hQe : MQ below _ _ _ _ _ _ = QM
  refine lv_iload_n hx hb dX9_isGood_0 rfl (lv_at hl 1 rfl) ?_
  obtain ⟨Q1, hw9, h⟩ := h
  have hPc : va_P G vwCl [] s.heap := P_nil
  refine vp_callSi (va_Run.run (va_runS (As := [.int p1]) (rest := []) ⟨hx, hb, hml, hown, hts⟩ (ct_X9_isKind l G cy p1 Q1 hw9) (va_cwS 1 hts gX9_isGood_X9_isKind rfl rfl rfl (by decide +kernel) ⟨Nat.le_of_ble_eq_true rfl, Nat.le_of_ble_eq_true rfl⟩) (rP_S hK hPc) rfl rfl hl.1 rfl (lv_room (Nat.le_of_ble_eq_true rfl)) dX9_isGood_1 ⟨Nat.le_of_ble_eq_true rfl, Nat.le_of_ble_eq_true rfl⟩)) (fun r2 er2 => ?_)
  specialize h r2 er2
  refine lv_if_eq (tgt := 35) hx hb dX9_isGood_4 (by decide) (fun c3 => ?_) (fun c3 => ?_)
  · obtain ⟨h, -⟩ := h
    specialize h c3
    refine lv_iconst (v := 0) hx hb dX9_isGood_35 (by decide) ?_
    rw [← hQe]
    exact W.zret (v := 0) hx hb hr rfl (fun t ht hW => ⟨0, rfl, h, ht⟩) (fun q9 h9 => by cases h9) dX9_isGood_36
  · obtain ⟨-, h⟩ := h
    specialize h c3
    refine lv_iload_n hx hb dX9_isGood_7 rfl (lv_at hl 2 rfl) ?_
    obtain ⟨Q4, hw9, h⟩ := h
    have hPc : va_P G vwCl [] s.heap := P_nil
    refine vp_callSi (va_Run.run (va_runS (As := [.int p2]) (rest := []) ⟨hx, hb, hml, hown, hts⟩ (ct_X9_isKind l G cy p2 Q4 hw9) (va_cwS 1 hts gX9_isGood_X9_isKind rfl rfl rfl (by decide +kernel) ⟨Nat.le_of_ble_eq_true rfl, Nat.le_of_ble_eq_true rfl⟩) (rP_S hK hPc) rfl rfl hl.1 rfl (lv_room (Nat.le_of_ble_eq_true rfl)) dX9_isGood_8 ⟨Nat.le_of_ble_eq_true rfl, Nat.le_of_ble_eq_true rfl⟩)) (fun r5 er5 => ?_)
    specialize h r5 er5
    refine lv_if_eq (tgt := 35) hx hb dX9_isGood_11 (by decide) (fun c6 => ?_) (fun c6 => ?_)
    · obtain ⟨h, -⟩ := h
      specialize h c6
      refine lv_iconst (v := 0) hx hb dX9_isGood_35 (by decide) ?_
      rw [← hQe]
      exact W.zret (v := 0) hx hb hr rfl (fun t ht hW => ⟨0, rfl, h, ht⟩) (fun q9 h9 => by cases h9) dX9_isGood_36
    · obtain ⟨-, h⟩ := h
      specialize h c6
      refine lv_aload_n hx hb dX9_isGood_14 rfl (lv_at hl 0 rfl) ?_
      refine lv_iload_n hx hb dX9_isGood_15 rfl (lv_at hl 3 rfl) ?_
      obtain ⟨Q7, hw9, h⟩ := h
      have hPc : va_P G vwCl [(m0, .inr (8, [.int kn, .ref mJ, .int kFe, .int kMo, .int kCo, .long kT, .ref mF, .ref mD, .ref mS, .ref mP])), (mJ, .inl (cy 0, 9, .inl jJ))] s.heap := hP.sub [0, 1] rfl
      refine vp_callSi (va_Run.run (va_runV (As := [.int p3]) (rest := []) ⟨hx, hb, hml, hown, hts⟩ (ct_X9_isSet l G cy m0 mJ mF mD mS mP kn kFe kMo kCo kT jJ p3 Q7 hw9) (cwV 1 hts gX9_isGood_X9_isSet rfl rfl rfl (by decide +kernel) ⟨Nat.le_of_ble_eq_true rfl, Nat.le_of_ble_eq_true rfl⟩) (rP_V hK hP (ci := 8) (q0 := 0) rfl rfl hPc) rfl rfl hl.1 rfl (lv_room (Nat.le_of_ble_eq_true rfl)) dX9_isGood_16 ⟨Nat.le_of_ble_eq_true rfl, Nat.le_of_ble_eq_true rfl⟩)) (fun r8 er8 => ?_)
      specialize h r8 er8
      refine lv_if_eq (tgt := 35) hx hb dX9_isGood_19 (by decide) (fun c9 => ?_) (fun c9 => ?_)
      · obtain ⟨h, -⟩ := h
        specialize h c9
        refine lv_iconst (v := 0) hx hb dX9_isGood_35 (by decide) ?_
        rw [← hQe]
        exact W.zret (v := 0) hx hb hr rfl (fun t ht hW => ⟨0, rfl, h, ht⟩) (fun q9 h9 => by cases h9) dX9_isGood_36
      · obtain ⟨-, h⟩ := h
        specialize h c9
        refine lv_aload_n hx hb dX9_isGood_22 rfl (lv_at hl 0 rfl) ?_
        refine lv_iload_n hx hb dX9_isGood_23 rfl (lv_at hl 1 rfl) ?_
        refine lv_iload_n hx hb dX9_isGood_24 rfl (lv_at hl 3 rfl) ?_
        obtain ⟨Q10, hw9, h⟩ := h
        have hPc : va_P G vwCl [(m0, .inr (8, [.int kn, .ref mJ, .int kFe, .int kMo, .int kCo, .long kT, .ref mF, .ref mD, .ref mS, .ref mP])), (mJ, .inl (cy 0, 9, .inl jJ))] s.heap := hP.sub [0, 1] rfl
        refine vp_callSi (va_Run.run (va_runV (As := [.int p1, .int p3]) (rest := []) ⟨hx, hb, hml, hown, hts⟩ (ct_X9_isLawful l G cy m0 mJ mF mD mS mP kn kFe kMo kCo kT jJ p1 p3 Q10 hw9) (cwV 2 hts gX9_isGood_X9_isLawful rfl rfl rfl (by decide +kernel) ⟨Nat.le_of_ble_eq_true rfl, Nat.le_of_ble_eq_true rfl⟩) (rP_V hK hP (ci := 8) (q0 := 0) rfl rfl hPc) rfl rfl hl.1 rfl (lv_room (Nat.le_of_ble_eq_true rfl)) dX9_isGood_25 ⟨Nat.le_of_ble_eq_true rfl, Nat.le_of_ble_eq_true rfl⟩)) (fun r11 er11 => ?_)
        specialize h r11 er11
        refine lv_if_eq (tgt := 35) hx hb dX9_isGood_28 (by decide) (fun c12 => ?_) (fun c12 => ?_)
        · obtain ⟨h, -⟩ := h
          specialize h c12
          refine lv_iconst (v := 0) hx hb dX9_isGood_35 (by decide) ?_
          rw [← hQe]
          exact W.zret (v := 0) hx hb hr rfl (fun t ht hW => ⟨0, rfl, h, ht⟩) (fun q9 h9 => by cases h9) dX9_isGood_36
        · obtain ⟨-, h⟩ := h
          specialize h c12
          refine lv_iconst (v := 1) hx hb dX9_isGood_31 (by decide) ?_
          refine lv_goto (tgt := 36) hx hb dX9_isGood_32 (by decide) ?_
          rw [← hQe]
          exact W.zret (v := 1) hx hb hr rfl (fun t ht hW => ⟨1, rfl, h, ht⟩) (fun q9 h9 => by cases h9) dX9_isGood_36

set_option maxHeartbeats 4000000 in
set_option maxRecDepth 100000 in
theorem ct_X9_all (l : Launch) (G : va_G) (cy : Nat → ClassId) (m0 mJ mF mD mS mP : Nat) (kn : Int32) (kFe : Int32) (kMo : Int32) (kCo : Int32) (kT : Int64) (jJ : Nat → Int32) (Q : Int32 → Prop) (h : wp_X9_all kn Q) : Met l yX9_all wsX9_all rmX9_all (va_Pc [.ref m0] (rP G cy [(m0, .inr (8, [.int kn, .ref mJ, .int kFe, .int kMo, .int kCo, .long kT, .ref mF, .ref mD, .ref mS, .ref mP])), (mJ, .inl (cy 0, 9, .inl jJ))])) (vp_Si Q) 0 0 (fun _ => False) := by
  unfold wp_X9_all at h
  refine Met.ofW (cc := cX9_all) (maxL := 1) (ret := (some .int)) (by decide) rfl ?_
  intro p e s m args below meth c s₁ B hml hv
  obtain ⟨hav, hP, hK⟩ := hv
  have hx := B.exec
  have hb := B.bytes
  have hr := B.returns
  have hts := atoms_spec (ws := wsX9_all) B.pre
  have hown : s.vm.findClass RX9 = some m.cls := findClass_of_methodNamed B.named
  have hlocks := B.notSynchronized
  have hl := lv_entry ([.ref m0]) (n := 1) (Nat.le_of_ble_eq_true rfl)
  rw [show entryFrame m args 1 = entryFrame m ([.ref m0] : List Value).toArray 1 by rw [hav], lg_entry_eq]
  generalize (lg_sl ([.ref m0]) ++ List.replicate (1 - (lg_sl ([.ref m0])).length) Slot.unset).toArray = ls at hl ⊢
  have hl : lv_has ls 1 [(0, .ref m0)] := hl
  generalize hQe : MQ below _ _ _ _ _ _ = QM
  have iwX9 : ∀ w ∈ wsX90, w ∈ wsX9_all := by decide +kernel
  have fl7 := hts (.fieldLink RX9 7 "SlidTokensModel" "n" "I") (by decide +kernel)
  refine lv_iconst (v := 1) hx hb dX9_all_0 (by decide) ?_
  refine lv_iconst (v := 2) hx hb dX9_all_1 (by decide) ?_
  refine lv_aload_n hx hb dX9_all_2 rfl (lv_at hl 0 rfl) ?_
  refine va_get (D := G) (ci := 8) (v := .int kn) (C := RX9) (T := TX9) (N := 10) hx hb hts iwX9 hown hK.1 hP 0 rfl rfl 0 (by decide) fl7 (fun _ h9 => h9) rfl dX9_all_3 ?_
  refine lv_imul hx hb dX9_all_6 ?_
  refine lv_ishl hx hb dX9_all_7 ?_
  rw [← hQe]
  exact W.iret (v := ((1 : Int32) <<< (((2 : Int32) * kn) &&& 31))) hx hb hr (fun t ht hW => ⟨((1 : Int32) <<< (((2 : Int32) * kn) &&& 31)), rfl, h, ht⟩) (fun q9 h9 => by cases h9) dX9_all_8

set_option maxHeartbeats 4000000 in
set_option maxRecDepth 100000 in
theorem ct_X9_isColouring (l : Launch) (G : va_G) (cy : Nat → ClassId) (m0 mJ mF mD mS mP : Nat) (kn : Int32) (kFe : Int32) (kMo : Int32) (kCo : Int32) (kT : Int64) (jJ : Nat → Int32) (p1 : Int32) (Q : Int32 → Prop) (h : wp_X9_isColouring kn kCo p1 Q) : Met l yX9_isColouring wsX9_isColouring rmX9_isColouring (va_Pc [.ref m0, .int p1] (rP G cy [(m0, .inr (8, [.int kn, .ref mJ, .int kFe, .int kMo, .int kCo, .long kT, .ref mF, .ref mD, .ref mS, .ref mP])), (mJ, .inl (cy 0, 9, .inl jJ))])) (vp_Si Q) 0 0 (fun _ => False) := by
  unfold wp_X9_isColouring at h
  refine Met.ofW (cc := cX9_isColouring) (maxL := 4) (ret := (some .boolean)) (by decide) rfl ?_
  intro p e s m args below meth c s₁ B hml hv
  obtain ⟨hav, hP, hK⟩ := hv
  have hx := B.exec
  have hb := B.bytes
  have hr := B.returns
  have hts := atoms_spec (ws := wsX9_isColouring) B.pre
  have hown : s.vm.findClass RX9 = some m.cls := findClass_of_methodNamed B.named
  have hlocks := B.notSynchronized
  have hl := lv_entry ([.ref m0, .int p1]) (n := 4) (Nat.le_of_ble_eq_true rfl)
  rw [show entryFrame m args 4 = entryFrame m ([.ref m0, .int p1] : List Value).toArray 4 by rw [hav], lg_entry_eq]
  generalize (lg_sl ([.ref m0, .int p1]) ++ List.replicate (4 - (lg_sl ([.ref m0, .int p1])).length) Slot.unset).toArray = ls at hl ⊢
  have hl : lv_has ls 4 [(0, .ref m0), (1, .int p1)] := hl
  generalize hQe : MQ below _ _ _ _ _ _ = QM
  have iwX9 : ∀ w ∈ wsX90, w ∈ wsX9_isColouring := by decide +kernel
  have fl7 := hts (.fieldLink RX9 7 "SlidTokensModel" "n" "I") (by decide +kernel)
  have fl20 := hts (.fieldLink RX9 20 "SlidTokensModel" "colours" "I") (by decide +kernel)
  refine lv_iload_n hx hb dX9_isColouring_0 rfl (lv_at hl 1 rfl) ?_
  refine lv_iconst (v := 0) hx hb dX9_isColouring_1 (by decide) ?_
  refine lv_aload_n hx hb dX9_isColouring_2 rfl (lv_at hl 0 rfl) ?_
  obtain ⟨Q1, hw9, h⟩ := h
  have hPc : va_P G vwCl [(m0, .inr (8, [.int kn, .ref mJ, .int kFe, .int kMo, .int kCo, .long kT, .ref mF, .ref mD, .ref mS, .ref mP])), (mJ, .inl (cy 0, 9, .inl jJ))] s.heap := hP.sub [0, 1] rfl
  refine vp_callSi (va_Run.run (va_runV (As := []) (rest := [.int 0, .int p1]) ⟨hx, hb, hml, hown, hts⟩ (ct_X9_all l G cy m0 mJ mF mD mS mP kn kFe kMo kCo kT jJ Q1 hw9) (cwV 0 hts gX9_isColouring_X9_all rfl rfl rfl (by decide +kernel) ⟨Nat.le_of_ble_eq_true rfl, Nat.le_of_ble_eq_true rfl⟩) (rP_V hK hP (ci := 8) (q0 := 0) rfl rfl hPc) rfl rfl hl.1 rfl (lv_room (Nat.le_of_ble_eq_true rfl)) dX9_isColouring_3 ⟨Nat.le_of_ble_eq_true rfl, Nat.le_of_ble_eq_true rfl⟩)) (fun r2 er2 => ?_)
  specialize h r2 er2
  refine lv_iconst (v := 1) hx hb dX9_isColouring_6 (by decide) ?_
  refine lv_isub hx hb dX9_isColouring_7 ?_
  obtain ⟨Q3, hw9, h⟩ := h
  have hPc : va_P G vwCl [] s.heap := P_nil
  refine vp_callSi (va_Run.run (va_runS (As := [.int p1, .int 0, .int (r2 - (1 : Int32))]) (rest := []) ⟨hx, hb, hml, hown, hts⟩ (ct_X9_in l G cy p1 0 (r2 - (1 : Int32)) Q3 hw9) (va_cwS 3 hts gX9_isColouring_X9_in rfl rfl rfl (by decide +kernel) ⟨Nat.le_of_ble_eq_true rfl, Nat.le_of_ble_eq_true rfl⟩) (rP_S hK hPc) rfl rfl hl.1 rfl (lv_room (Nat.le_of_ble_eq_true rfl)) dX9_isColouring_8 ⟨Nat.le_of_ble_eq_true rfl, Nat.le_of_ble_eq_true rfl⟩)) (fun r4 er4 => ?_)
  specialize h r4 er4
  refine lv_istore_n (lv' := [(2, .int r4), (0, .ref m0), (1, .int p1)]) hx hb dX9_isColouring_11 rfl hl (by decide) rfl (fun ls hl => ?_)
  refine lv_iconst (v := 0) hx hb dX9_isColouring_12 (by decide) ?_
  refine lv_istore_n (lv' := [(3, .int 0), (2, .int r4), (0, .ref m0), (1, .int p1)]) hx hb dX9_isColouring_13 rfl hl (by decide) rfl (fun ls hl => ?_)
  obtain ⟨I14_6, u14_6, h014, hst14⟩ := h
  have key14 : ∀ (k9 : Nat) (y5 : Int32) (y6 : Int32), I14_6 y5 y6 → u14_6 y5 y6 < k9 → ∀ (ls : Array Slot), lv_has ls 4 [(0, .ref m0), (1, .int p1), (2, .int y5), (3, .int y6)] → W p l e (headSpec wsX9_isColouring rmX9_isColouring).room s m args below meth c s.heap [] 0 0 QM (F0 m 14 ls []) := by
    intro k9
    induction k9 with
    | zero =>
      intro y5 y6 hI9 hk9
      exact absurd hk9 (Nat.not_lt_zero _)
    | succ k9 ih14 =>
      intro y5 y6 hI9 hk14 ls hl
      have h := hst14 y5 y6 hI9
      refine lv_iload_n hx hb dX9_isColouring_14 rfl (lv_at hl 3 rfl) ?_
      refine lv_aload_n hx hb dX9_isColouring_15 rfl (lv_at hl 0 rfl) ?_
      refine va_get (D := G) (ci := 8) (v := .int kn) (C := RX9) (T := TX9) (N := 10) hx hb hts iwX9 hown hK.1 hP 0 rfl rfl 0 (by decide) fl7 (fun _ h9 => h9) rfl dX9_isColouring_16 ?_
      refine lv_icmp_ge (tgt := 52) hx hb dX9_isColouring_19 (by decide) (fun c7 => ?_) (fun c7 => ?_)
      · obtain ⟨h, -⟩ := h
        specialize h c7
        refine lv_iload_n hx hb dX9_isColouring_52 rfl (lv_at hl 2 rfl) ?_
        rw [← hQe]
        exact W.zret (v := y5) hx hb hr h.1 (fun t ht hW => ⟨y5, rfl, h.2, ht⟩) (fun q9 h9 => by cases h9) dX9_isColouring_53
      · obtain ⟨-, h⟩ := h
        specialize h c7
        refine lv_iload_n hx hb dX9_isColouring_22 rfl (lv_at hl 2 rfl) ?_
        refine lv_if_eq (tgt := 52) hx hb dX9_isColouring_23 (by decide) (fun c8 => ?_) (fun c8 => ?_)
        · obtain ⟨h, -⟩ := h
          specialize h c8
          refine lv_iload_n hx hb dX9_isColouring_52 rfl (lv_at hl 2 rfl) ?_
          rw [← hQe]
          exact W.zret (v := y5) hx hb hr h.1 (fun t ht hW => ⟨y5, rfl, h.2, ht⟩) (fun q9 h9 => by cases h9) dX9_isColouring_53
        · obtain ⟨-, h⟩ := h
          specialize h c8
          refine lv_iload_n hx hb dX9_isColouring_26 rfl (lv_at hl 1 rfl) ?_
          refine lv_iconst (v := 2) hx hb dX9_isColouring_27 (by decide) ?_
          refine lv_iload_n hx hb dX9_isColouring_28 rfl (lv_at hl 3 rfl) ?_
          refine lv_imul hx hb dX9_isColouring_29 ?_
          refine lv_ishr hx hb dX9_isColouring_30 ?_
          refine lv_iconst (v := 3) hx hb dX9_isColouring_31 (by decide) ?_
          refine lv_iand hx hb dX9_isColouring_32 ?_
          refine lv_aload_n hx hb dX9_isColouring_33 rfl (lv_at hl 0 rfl) ?_
          refine va_get (D := G) (ci := 8) (v := .int kCo) (C := RX9) (T := TX9) (N := 10) hx hb hts iwX9 hown hK.1 hP 0 rfl rfl 4 (by decide) fl20 (fun _ h9 => h9) rfl dX9_isColouring_34 ?_
          refine lv_icmp_ge (tgt := 44) hx hb dX9_isColouring_37 (by decide) (fun c9 => ?_) (fun c9 => ?_)
          · obtain ⟨h, -⟩ := h
            specialize h c9
            refine lv_iconst (v := 0) hx hb dX9_isColouring_44 (by decide) ?_
            refine lv_istore_n (lv' := [(2, .int 0), (0, .ref m0), (1, .int p1), (3, .int y6)]) hx hb dX9_isColouring_45 rfl hl (by decide) rfl (fun ls hl => ?_)
            obtain ⟨x10, ex10⟩ : ∃ y : Int32, y = y6 + 1 := ⟨_, rfl⟩
            specialize h x10 ex10
            refine lv_iinc (v := x10) (lv' := [(3, .int x10), (2, .int 0), (0, .ref m0), (1, .int p1)]) hx hb dX9_isColouring_46 hl (k := 3) rfl (by rw [ex10]; rfl) (by decide) rfl (fun ls hl => ?_)
            refine lv_goto (tgt := 14) hx hb dX9_isColouring_49 (by decide) ?_
            exact ih14 0 x10 h.1 (Nat.lt_of_lt_of_le h.2 (Nat.le_of_lt_succ hk14)) _ (lv_sub hl [2, 3, 1, 0] rfl)
          · obtain ⟨-, h⟩ := h
            specialize h c9
            refine lv_iconst (v := 1) hx hb dX9_isColouring_40 (by decide) ?_
            refine lv_goto (tgt := 45) hx hb dX9_isColouring_41 (by decide) ?_
            refine lv_istore_n (lv' := [(2, .int 1), (0, .ref m0), (1, .int p1), (3, .int y6)]) hx hb dX9_isColouring_45 rfl hl (by decide) rfl (fun ls hl => ?_)
            obtain ⟨x11, ex11⟩ : ∃ y : Int32, y = y6 + 1 := ⟨_, rfl⟩
            specialize h x11 ex11
            refine lv_iinc (v := x11) (lv' := [(3, .int x11), (2, .int 1), (0, .ref m0), (1, .int p1)]) hx hb dX9_isColouring_46 hl (k := 3) rfl (by rw [ex11]; rfl) (by decide) rfl (fun ls hl => ?_)
            refine lv_goto (tgt := 14) hx hb dX9_isColouring_49 (by decide) ?_
            exact ih14 1 x11 h.1 (Nat.lt_of_lt_of_le h.2 (Nat.le_of_lt_succ hk14)) _ (lv_sub hl [2, 3, 1, 0] rfl)
  exact key14 _ r4 0 h014 (Nat.lt_succ_self _) _ (lv_sub hl [2, 3, 1, 0] rfl)

set_option maxHeartbeats 4000000 in
set_option maxRecDepth 100000 in
theorem ct_X9_isProper (l : Launch) (G : va_G) (cy : Nat → ClassId) (m0 mJ mF mD mS mP : Nat) (kn : Int32) (kFe : Int32) (kMo : Int32) (kCo : Int32) (kT : Int64) (jJ : Nat → Int32) (p1 : Int32) (Q : Int32 → Prop) (h : wp_X9_isProper kn kCo jJ p1 Q) : Met l yX9_isProper wsX9_isProper rmX9_isProper (va_Pc [.ref m0, .int p1] (rP G cy [(m0, .inr (8, [.int kn, .ref mJ, .int kFe, .int kMo, .int kCo, .long kT, .ref mF, .ref mD, .ref mS, .ref mP])), (mJ, .inl (cy 0, 9, .inl jJ))])) (vp_Si Q) 0 0 (fun _ => False) := by
  unfold wp_X9_isProper at h
  refine Met.ofW (cc := cX9_isProper) (maxL := 5) (ret := (some .boolean)) (by decide) rfl ?_
  intro p e s m args below meth c s₁ B hml hv
  obtain ⟨hav, hP, hK⟩ := hv
  have hx := B.exec
  have hb := B.bytes
  have hr := B.returns
  have hts := atoms_spec (ws := wsX9_isProper) B.pre
  have hown : s.vm.findClass RX9 = some m.cls := findClass_of_methodNamed B.named
  have hlocks := B.notSynchronized
  have hl := lv_entry ([.ref m0, .int p1]) (n := 5) (Nat.le_of_ble_eq_true rfl)
  rw [show entryFrame m args 5 = entryFrame m ([.ref m0, .int p1] : List Value).toArray 5 by rw [hav], lg_entry_eq]
  generalize (lg_sl ([.ref m0, .int p1]) ++ List.replicate (5 - (lg_sl ([.ref m0, .int p1])).length) Slot.unset).toArray = ls at hl ⊢
  have hl : lv_has ls 5 [(0, .ref m0), (1, .int p1)] := hl
  generalize hQe : MQ below _ _ _ _ _ _ = QM
  have iwX9 : ∀ w ∈ wsX90, w ∈ wsX9_isProper := by decide +kernel
  have fl7 := hts (.fieldLink RX9 7 "SlidTokensModel" "n" "I") (by decide +kernel)
  have fl13 := hts (.fieldLink RX9 13 "SlidTokensModel" "joined" "[I") (by decide +kernel)
  refine lv_aload_n hx hb dX9_isProper_0 rfl (lv_at hl 0 rfl) ?_
  refine lv_iload_n hx hb dX9_isProper_1 rfl (lv_at hl 1 rfl) ?_
  obtain ⟨Q1, hw9, h⟩ := h
  have hPc : va_P G vwCl [(m0, .inr (8, [.int kn, .ref mJ, .int kFe, .int kMo, .int kCo, .long kT, .ref mF, .ref mD, .ref mS, .ref mP])), (mJ, .inl (cy 0, 9, .inl jJ))] s.heap := hP.sub [0, 1] rfl
  refine vp_callSi (va_Run.run (va_runV (As := [.int p1]) (rest := []) ⟨hx, hb, hml, hown, hts⟩ (ct_X9_isColouring l G cy m0 mJ mF mD mS mP kn kFe kMo kCo kT jJ p1 Q1 hw9) (cwV 1 hts gX9_isProper_X9_isColouring rfl rfl rfl (by decide +kernel) ⟨Nat.le_of_ble_eq_true rfl, Nat.le_of_ble_eq_true rfl⟩) (rP_V hK hP (ci := 8) (q0 := 0) rfl rfl hPc) rfl rfl hl.1 rfl (lv_room (Nat.le_of_ble_eq_true rfl)) dX9_isProper_2 ⟨Nat.le_of_ble_eq_true rfl, Nat.le_of_ble_eq_true rfl⟩)) (fun r2 er2 => ?_)
  specialize h r2 er2
  refine lv_istore_n (lv' := [(2, .int r2), (0, .ref m0), (1, .int p1)]) hx hb dX9_isProper_5 rfl hl (by decide) rfl (fun ls hl => ?_)
  refine lv_iconst (v := 0) hx hb dX9_isProper_6 (by decide) ?_
  refine lv_istore_n (lv' := [(3, .int 0), (2, .int r2), (0, .ref m0), (1, .int p1)]) hx hb dX9_isProper_7 rfl hl (by decide) rfl (fun ls hl => ?_)
  obtain ⟨I8_4, u8_4, h08, hst8⟩ := h
  have key8 : ∀ (k9 : Nat) (y3 : Int32) (y4 : Int32), I8_4 y3 y4 → u8_4 y3 y4 < k9 → ∀ (ls : Array Slot), lv_has ls 5 [(0, .ref m0), (1, .int p1), (2, .int y3), (3, .int y4)] → W p l e (headSpec wsX9_isProper rmX9_isProper).room s m args below meth c s.heap [] 0 0 QM (F0 m 8 ls []) := by
    intro k9
    induction k9 with
    | zero =>
      intro y3 y4 hI9 hk9
      exact absurd hk9 (Nat.not_lt_zero _)
    | succ k9 ih8 =>
      intro y3 y4 hI9 hk8 ls hl
      have h := hst8 y3 y4 hI9
      refine lv_iload_n hx hb dX9_isProper_8 rfl (lv_at hl 3 rfl) ?_
      refine lv_aload_n hx hb dX9_isProper_9 rfl (lv_at hl 0 rfl) ?_
      refine va_get (D := G) (ci := 8) (v := .int kn) (C := RX9) (T := TX9) (N := 10) hx hb hts iwX9 hown hK.1 hP 0 rfl rfl 0 (by decide) fl7 (fun _ h9 => h9) rfl dX9_isProper_10 ?_
      refine lv_icmp_ge (tgt := 79) hx hb dX9_isProper_13 (by decide) (fun c5 => ?_) (fun c5 => ?_)
      · obtain ⟨h, -⟩ := h
        specialize h c5
        refine lv_iload_n hx hb dX9_isProper_79 rfl (lv_at hl 2 rfl) ?_
        rw [← hQe]
        exact W.zret (v := y3) hx hb hr h.1 (fun t ht hW => ⟨y3, rfl, h.2, ht⟩) (fun q9 h9 => by cases h9) dX9_isProper_80
      · obtain ⟨-, h⟩ := h
        specialize h c5
        refine lv_iconst (v := 0) hx hb dX9_isProper_16 (by decide) ?_
        refine lv_istore (lv' := [(4, .int 0), (0, .ref m0), (1, .int p1), (2, .int y3), (3, .int y4)]) hx hb dX9_isProper_17 hl (by decide) rfl (fun ls hl => ?_)
        obtain ⟨I19_7, u19_7, h019, hst19⟩ := h
        have key19 : ∀ (k9 : Nat) (y6 : Int32) (y7 : Int32), I19_7 y6 y7 → u19_7 y6 y7 < k9 → ∀ (ls : Array Slot), lv_has ls 5 [(0, .ref m0), (1, .int p1), (2, .int y6), (3, .int y4), (4, .int y7)] → W p l e (headSpec wsX9_isProper rmX9_isProper).room s m args below meth c s.heap [] 0 0 QM (F0 m 19 ls []) := by
          intro k9
          induction k9 with
          | zero =>
            intro y6 y7 hI9 hk9
            exact absurd hk9 (Nat.not_lt_zero _)
          | succ k9 ih19 =>
            intro y6 y7 hI9 hk19 ls hl
            have h := hst19 y6 y7 hI9
            refine lv_iload hx hb dX9_isProper_19 (lv_at hl 4 rfl) ?_
            refine lv_iload_n hx hb dX9_isProper_21 rfl (lv_at hl 3 rfl) ?_
            refine lv_icmp_ge (tgt := 73) hx hb dX9_isProper_22 (by decide) (fun c8 => ?_) (fun c8 => ?_)
            · obtain ⟨h, -⟩ := h
              specialize h c8
              obtain ⟨x9, ex9⟩ : ∃ y : Int32, y = y4 + 1 := ⟨_, rfl⟩
              specialize h x9 ex9
              refine lv_iinc (v := x9) (lv' := [(3, .int x9), (0, .ref m0), (1, .int p1), (2, .int y6), (4, .int y7)]) hx hb dX9_isProper_73 hl (k := 3) rfl (by rw [ex9]; rfl) (by decide) rfl (fun ls hl => ?_)
              refine lv_goto (tgt := 8) hx hb dX9_isProper_76 (by decide) ?_
              exact ih8 y6 x9 h.1 (Nat.lt_of_lt_of_le h.2 (Nat.le_of_lt_succ hk8)) _ (lv_sub hl [1, 2, 3, 0] rfl)
            · obtain ⟨-, h⟩ := h
              specialize h c8
              refine lv_iload_n hx hb dX9_isProper_25 rfl (lv_at hl 2 rfl) ?_
              refine lv_if_eq (tgt := 65) hx hb dX9_isProper_26 (by decide) (fun c10 => ?_) (fun c10 => ?_)
              · obtain ⟨h, -⟩ := h
                specialize h c10
                refine lv_iconst (v := 0) hx hb dX9_isProper_65 (by decide) ?_
                refine lv_istore_n (lv' := [(2, .int 0), (0, .ref m0), (1, .int p1), (3, .int y4), (4, .int y7)]) hx hb dX9_isProper_66 rfl hl (by decide) rfl (fun ls hl => ?_)
                obtain ⟨x11, ex11⟩ : ∃ y : Int32, y = y7 + 1 := ⟨_, rfl⟩
                specialize h x11 ex11
                refine lv_iinc (v := x11) (lv' := [(4, .int x11), (2, .int 0), (0, .ref m0), (1, .int p1), (3, .int y4)]) hx hb dX9_isProper_67 hl (k := 4) rfl (by rw [ex11]; rfl) (by decide) rfl (fun ls hl => ?_)
                refine lv_goto (tgt := 19) hx hb dX9_isProper_70 (by decide) ?_
                exact ih19 0 x11 h.1 (Nat.lt_of_lt_of_le h.2 (Nat.le_of_lt_succ hk19)) _ (lv_sub hl [2, 3, 1, 4, 0] rfl)
              · obtain ⟨-, h⟩ := h
                specialize h c10
                refine lv_aload_n hx hb dX9_isProper_29 rfl (lv_at hl 0 rfl) ?_
                refine va_get (D := G) (ci := 8) (v := .ref mJ) (C := RX9) (T := TX9) (N := 10) hx hb hts iwX9 hown hK.1 hP 0 rfl rfl 1 (by decide) fl13 (fun _ h9 => h9) rfl dX9_isProper_30 ?_
                refine lv_iload_n hx hb dX9_isProper_33 rfl (lv_at hl 3 rfl) ?_
                obtain ⟨hi, h⟩ := h
                refine va_iald hx hb hK.1 hP 1 0 rfl rfl hi dX9_isProper_34 ?_
                refine lv_iload hx hb dX9_isProper_35 (lv_at hl 4 rfl) ?_
                refine lv_ishr hx hb dX9_isProper_37 ?_
                refine lv_iconst (v := 1) hx hb dX9_isProper_38 (by decide) ?_
                refine lv_iand hx hb dX9_isProper_39 ?_
                refine lv_if_eq (tgt := 61) hx hb dX9_isProper_40 (by decide) (fun c12 => ?_) (fun c12 => ?_)
                · obtain ⟨h, -⟩ := h
                  specialize h c12
                  refine lv_iconst (v := 1) hx hb dX9_isProper_61 (by decide) ?_
                  refine lv_goto (tgt := 66) hx hb dX9_isProper_62 (by decide) ?_
                  refine lv_istore_n (lv' := [(2, .int 1), (0, .ref m0), (1, .int p1), (3, .int y4), (4, .int y7)]) hx hb dX9_isProper_66 rfl hl (by decide) rfl (fun ls hl => ?_)
                  obtain ⟨x13, ex13⟩ : ∃ y : Int32, y = y7 + 1 := ⟨_, rfl⟩
                  specialize h x13 ex13
                  refine lv_iinc (v := x13) (lv' := [(4, .int x13), (2, .int 1), (0, .ref m0), (1, .int p1), (3, .int y4)]) hx hb dX9_isProper_67 hl (k := 4) rfl (by rw [ex13]; rfl) (by decide) rfl (fun ls hl => ?_)
                  refine lv_goto (tgt := 19) hx hb dX9_isProper_70 (by decide) ?_
                  exact ih19 1 x13 h.1 (Nat.lt_of_lt_of_le h.2 (Nat.le_of_lt_succ hk19)) _ (lv_sub hl [2, 3, 1, 4, 0] rfl)
                · obtain ⟨-, h⟩ := h
                  specialize h c12
                  refine lv_iload_n hx hb dX9_isProper_43 rfl (lv_at hl 1 rfl) ?_
                  refine lv_iconst (v := 2) hx hb dX9_isProper_44 (by decide) ?_
                  refine lv_iload_n hx hb dX9_isProper_45 rfl (lv_at hl 3 rfl) ?_
                  refine lv_imul hx hb dX9_isProper_46 ?_
                  refine lv_ishr hx hb dX9_isProper_47 ?_
                  refine lv_iconst (v := 3) hx hb dX9_isProper_48 (by decide) ?_
                  refine lv_iand hx hb dX9_isProper_49 ?_
                  refine lv_iload_n hx hb dX9_isProper_50 rfl (lv_at hl 1 rfl) ?_
                  refine lv_iconst (v := 2) hx hb dX9_isProper_51 (by decide) ?_
                  refine lv_iload hx hb dX9_isProper_52 (lv_at hl 4 rfl) ?_
                  refine lv_imul hx hb dX9_isProper_54 ?_
                  refine lv_ishr hx hb dX9_isProper_55 ?_
                  refine lv_iconst (v := 3) hx hb dX9_isProper_56 (by decide) ?_
                  refine lv_iand hx hb dX9_isProper_57 ?_
                  refine lv_icmp_eq (tgt := 65) hx hb dX9_isProper_58 (by decide) (fun c14 => ?_) (fun c14 => ?_)
                  · obtain ⟨h, -⟩ := h
                    specialize h c14
                    refine lv_iconst (v := 0) hx hb dX9_isProper_65 (by decide) ?_
                    refine lv_istore_n (lv' := [(2, .int 0), (0, .ref m0), (1, .int p1), (3, .int y4), (4, .int y7)]) hx hb dX9_isProper_66 rfl hl (by decide) rfl (fun ls hl => ?_)
                    obtain ⟨x15, ex15⟩ : ∃ y : Int32, y = y7 + 1 := ⟨_, rfl⟩
                    specialize h x15 ex15
                    refine lv_iinc (v := x15) (lv' := [(4, .int x15), (2, .int 0), (0, .ref m0), (1, .int p1), (3, .int y4)]) hx hb dX9_isProper_67 hl (k := 4) rfl (by rw [ex15]; rfl) (by decide) rfl (fun ls hl => ?_)
                    refine lv_goto (tgt := 19) hx hb dX9_isProper_70 (by decide) ?_
                    exact ih19 0 x15 h.1 (Nat.lt_of_lt_of_le h.2 (Nat.le_of_lt_succ hk19)) _ (lv_sub hl [2, 3, 1, 4, 0] rfl)
                  · obtain ⟨-, h⟩ := h
                    specialize h c14
                    refine lv_iconst (v := 1) hx hb dX9_isProper_61 (by decide) ?_
                    refine lv_goto (tgt := 66) hx hb dX9_isProper_62 (by decide) ?_
                    refine lv_istore_n (lv' := [(2, .int 1), (0, .ref m0), (1, .int p1), (3, .int y4), (4, .int y7)]) hx hb dX9_isProper_66 rfl hl (by decide) rfl (fun ls hl => ?_)
                    obtain ⟨x16, ex16⟩ : ∃ y : Int32, y = y7 + 1 := ⟨_, rfl⟩
                    specialize h x16 ex16
                    refine lv_iinc (v := x16) (lv' := [(4, .int x16), (2, .int 1), (0, .ref m0), (1, .int p1), (3, .int y4)]) hx hb dX9_isProper_67 hl (k := 4) rfl (by rw [ex16]; rfl) (by decide) rfl (fun ls hl => ?_)
                    refine lv_goto (tgt := 19) hx hb dX9_isProper_70 (by decide) ?_
                    exact ih19 1 x16 h.1 (Nat.lt_of_lt_of_le h.2 (Nat.le_of_lt_succ hk19)) _ (lv_sub hl [2, 3, 1, 4, 0] rfl)
        exact key19 _ y3 0 h019 (Nat.lt_succ_self _) _ (lv_sub hl [1, 2, 3, 4, 0] rfl)
  exact key8 _ r2 0 h08 (Nat.lt_succ_self _) _ (lv_sub hl [2, 3, 1, 0] rfl)

set_option maxHeartbeats 4000000 in
set_option maxRecDepth 100000 in
theorem ct_X9_proper (l : Launch) (G : va_G) (cy : Nat → ClassId) (m0 mJ mF mD mS mP : Nat) (kn : Int32) (kFe : Int32) (kMo : Int32) (kCo : Int32) (kT : Int64) (jJ : Nat → Int32) (p1 : Int32) (Q : Int32 → Prop) (h : wp_X9_proper kn kCo jJ p1 Q) : Met l yX9_proper wsX9_proper rmX9_proper (va_Pc [.ref m0, .int p1] (rP G cy [(m0, .inr (8, [.int kn, .ref mJ, .int kFe, .int kMo, .int kCo, .long kT, .ref mF, .ref mD, .ref mS, .ref mP])), (mJ, .inl (cy 0, 9, .inl jJ))])) (vp_Si Q) 0 0 (fun _ => False) := by
  unfold wp_X9_proper at h
  refine Met.ofW (cc := cX9_proper) (maxL := 2) (ret := (some .int)) (by decide) rfl ?_
  intro p e s m args below meth c s₁ B hml hv
  obtain ⟨hav, hP, hK⟩ := hv
  have hx := B.exec
  have hb := B.bytes
  have hr := B.returns
  have hts := atoms_spec (ws := wsX9_proper) B.pre
  have hown : s.vm.findClass RX9 = some m.cls := findClass_of_methodNamed B.named
  have hlocks := B.notSynchronized
  have hl := lv_entry ([.ref m0, .int p1]) (n := 2) (Nat.le_of_ble_eq_true rfl)
  rw [show entryFrame m args 2 = entryFrame m ([.ref m0, .int p1] : List Value).toArray 2 by rw [hav], lg_entry_eq]
  generalize (lg_sl ([.ref m0, .int p1]) ++ List.replicate (2 - (lg_sl ([.ref m0, .int p1])).length) Slot.unset).toArray = ls at hl ⊢
  have hl : lv_has ls 2 [(0, .ref m0), (1, .int p1)] := hl
  generalize hQe : MQ below _ _ _ _ _ _ = QM
  have iwX9 : ∀ w ∈ wsX90, w ∈ wsX9_proper := by decide +kernel
  have fl7 := hts (.fieldLink RX9 7 "SlidTokensModel" "n" "I") (by decide +kernel)
  refine lv_aload_n hx hb dX9_proper_0 rfl (lv_at hl 0 rfl) ?_
  refine va_get (D := G) (ci := 8) (v := .int kn) (C := RX9) (T := TX9) (N := 10) hx hb hts iwX9 hown hK.1 hP 0 rfl rfl 0 (by decide) fl7 (fun _ h9 => h9) rfl dX9_proper_1 ?_
  refine lv_bipush (v := 6) hx hb dX9_proper_4 (by decide) ?_
  refine lv_icmp_le (tgt := 14) hx hb dX9_proper_6 (by decide) (fun c1 => ?_) (fun c1 => ?_)
  · obtain ⟨h, -⟩ := h
    specialize h c1
    refine lv_aload_n hx hb dX9_proper_14 rfl (lv_at hl 0 rfl) ?_
    refine lv_iload_n hx hb dX9_proper_15 rfl (lv_at hl 1 rfl) ?_
    obtain ⟨Q2, hw9, h⟩ := h
    have hPc : va_P G vwCl [(m0, .inr (8, [.int kn, .ref mJ, .int kFe, .int kMo, .int kCo, .long kT, .ref mF, .ref mD, .ref mS, .ref mP])), (mJ, .inl (cy 0, 9, .inl jJ))] s.heap := hP.sub [0, 1] rfl
    refine vp_callSi (va_Run.run (va_runV (As := [.int p1]) (rest := []) ⟨hx, hb, hml, hown, hts⟩ (ct_X9_isColouring l G cy m0 mJ mF mD mS mP kn kFe kMo kCo kT jJ p1 Q2 hw9) (cwV 1 hts gX9_proper_X9_isColouring rfl rfl rfl (by decide +kernel) ⟨Nat.le_of_ble_eq_true rfl, Nat.le_of_ble_eq_true rfl⟩) (rP_V hK hP (ci := 8) (q0 := 0) rfl rfl hPc) rfl rfl hl.1 rfl (lv_room (Nat.le_of_ble_eq_true rfl)) dX9_proper_16 ⟨Nat.le_of_ble_eq_true rfl, Nat.le_of_ble_eq_true rfl⟩)) (fun r3 er3 => ?_)
    specialize h r3 er3
    refine lv_if_ne (tgt := 26) hx hb dX9_proper_19 (by decide) (fun c4 => ?_) (fun c4 => ?_)
    · obtain ⟨-, h⟩ := h
      specialize h c4
      refine lv_aload_n hx hb dX9_proper_26 rfl (lv_at hl 0 rfl) ?_
      refine lv_iload_n hx hb dX9_proper_27 rfl (lv_at hl 1 rfl) ?_
      obtain ⟨Q5, hw9, h⟩ := h
      have hPc : va_P G vwCl [(m0, .inr (8, [.int kn, .ref mJ, .int kFe, .int kMo, .int kCo, .long kT, .ref mF, .ref mD, .ref mS, .ref mP])), (mJ, .inl (cy 0, 9, .inl jJ))] s.heap := hP.sub [0, 1] rfl
      refine vp_callSi (va_Run.run (va_runV (As := [.int p1]) (rest := []) ⟨hx, hb, hml, hown, hts⟩ (ct_X9_isProper l G cy m0 mJ mF mD mS mP kn kFe kMo kCo kT jJ p1 Q5 hw9) (cwV 1 hts gX9_proper_X9_isProper rfl rfl rfl (by decide +kernel) ⟨Nat.le_of_ble_eq_true rfl, Nat.le_of_ble_eq_true rfl⟩) (rP_V hK hP (ci := 8) (q0 := 0) rfl rfl hPc) rfl rfl hl.1 rfl (lv_room (Nat.le_of_ble_eq_true rfl)) dX9_proper_28 ⟨Nat.le_of_ble_eq_true rfl, Nat.le_of_ble_eq_true rfl⟩)) (fun r6 er6 => ?_)
      specialize h r6 er6
      refine lv_if_eq (tgt := 38) hx hb dX9_proper_31 (by decide) (fun c7 => ?_) (fun c7 => ?_)
      · obtain ⟨h, -⟩ := h
        specialize h c7
        refine lv_iconst (v := 0) hx hb dX9_proper_38 (by decide) ?_
        rw [← hQe]
        exact W.iret (v := 0) hx hb hr (fun t ht hW => ⟨0, rfl, h, ht⟩) (fun q9 h9 => by cases h9) dX9_proper_39
      · obtain ⟨-, h⟩ := h
        specialize h c7
        refine lv_iconst (v := 1) hx hb dX9_proper_34 (by decide) ?_
        refine lv_goto (tgt := 39) hx hb dX9_proper_35 (by decide) ?_
        rw [← hQe]
        exact W.iret (v := 1) hx hb hr (fun t ht hW => ⟨1, rfl, h, ht⟩) (fun q9 h9 => by cases h9) dX9_proper_39
    · obtain ⟨h, -⟩ := h
      specialize h c4
      refine lv_iconst (v := (-1)) hx hb dX9_proper_22 (by decide) ?_
      refine lv_goto (tgt := 39) hx hb dX9_proper_23 (by decide) ?_
      rw [← hQe]
      exact W.iret (v := (-1)) hx hb hr (fun t ht hW => ⟨(-1), rfl, h, ht⟩) (fun q9 h9 => by cases h9) dX9_proper_39
  · obtain ⟨-, h⟩ := h
    specialize h c1
    refine lv_bipush (v := (-2)) hx hb dX9_proper_9 (by decide) ?_
    refine lv_goto (tgt := 39) hx hb dX9_proper_11 (by decide) ?_
    rw [← hQe]
    exact W.iret (v := (-2)) hx hb hr (fun t ht hW => ⟨(-2), rfl, h, ht⟩) (fun q9 h9 => by cases h9) dX9_proper_39

set_option maxHeartbeats 4000000 in
set_option maxRecDepth 100000 in
theorem ct_X9_told (l : Launch) (G : va_G) (cy : Nat → ClassId) (m0 mJ mF mD mS mP : Nat) (kn : Int32) (kFe : Int32) (kMo : Int32) (kCo : Int32) (kT : Int64) (jJ : Nat → Int32) (p1 : Int32) (Q : Int32 → Prop) (h : wp_X9_told kn kFe kMo kCo jJ p1 Q) : Met l yX9_told wsX9_told rmX9_told (va_Pc [.ref m0, .int p1] (rP G cy [(m0, .inr (8, [.int kn, .ref mJ, .int kFe, .int kMo, .int kCo, .long kT, .ref mF, .ref mD, .ref mS, .ref mP])), (mJ, .inl (cy 0, 9, .inl jJ))])) (vp_Si Q) 0 0 (fun _ => False) := by
  unfold wp_X9_told at h
  refine Met.ofW (cc := cX9_told) (maxL := 2) (ret := (some .int)) (by decide) rfl ?_
  intro p e s m args below meth c s₁ B hml hv
  obtain ⟨hav, hP, hK⟩ := hv
  have hx := B.exec
  have hb := B.bytes
  have hr := B.returns
  have hts := atoms_spec (ws := wsX9_told) B.pre
  have hown : s.vm.findClass RX9 = some m.cls := findClass_of_methodNamed B.named
  have hlocks := B.notSynchronized
  have hl := lv_entry ([.ref m0, .int p1]) (n := 2) (Nat.le_of_ble_eq_true rfl)
  rw [show entryFrame m args 2 = entryFrame m ([.ref m0, .int p1] : List Value).toArray 2 by rw [hav], lg_entry_eq]
  generalize (lg_sl ([.ref m0, .int p1]) ++ List.replicate (2 - (lg_sl ([.ref m0, .int p1])).length) Slot.unset).toArray = ls at hl ⊢
  have hl : lv_has ls 2 [(0, .ref m0), (1, .int p1)] := hl
  generalize hQe : MQ below _ _ _ _ _ _ = QM
  have iwX9 : ∀ w ∈ wsX90, w ∈ wsX9_told := by decide +kernel
  have fl7 := hts (.fieldLink RX9 7 "SlidTokensModel" "n" "I") (by decide +kernel)
  have fl36 := hts (.fieldLink RX9 36 "SlidTokensModel" "fewest" "I") (by decide +kernel)
  have fl17 := hts (.fieldLink RX9 17 "SlidTokensModel" "most" "I") (by decide +kernel)
  have fl20 := hts (.fieldLink RX9 20 "SlidTokensModel" "colours" "I") (by decide +kernel)
  refine lv_iload_n hx hb dX9_told_0 rfl (lv_at hl 1 rfl) ?_
  by_cases c1 : p1 = 0
  · obtain ⟨h, -⟩ := h
    specialize h c1
    refine lv_tableIn (off := 35) (tgt := 36) hx hb dX9_told_1 (by rw [c1]; decide) (by rw [c1]; decide) (by rw [c1]; rfl) (by decide) ?_
    refine lv_aload_n hx hb dX9_told_36 rfl (lv_at hl 0 rfl) ?_
    refine va_get (D := G) (ci := 8) (v := .int kn) (C := RX9) (T := TX9) (N := 10) hx hb hts iwX9 hown hK.1 hP 0 rfl rfl 0 (by decide) fl7 (fun _ h9 => h9) rfl dX9_told_37 ?_
    rw [← hQe]
    exact W.iret (v := kn) hx hb hr (fun t ht hW => ⟨kn, rfl, h, ht⟩) (fun q9 h9 => by cases h9) dX9_told_40
  · obtain ⟨-, h⟩ := h
    by_cases c2 : p1 = 1
    · obtain ⟨h, -⟩ := h
      specialize h c2
      refine lv_tableIn (off := 40) (tgt := 41) hx hb dX9_told_1 (by rw [c2]; decide) (by rw [c2]; decide) (by rw [c2]; rfl) (by decide) ?_
      refine lv_aload_n hx hb dX9_told_41 rfl (lv_at hl 0 rfl) ?_
      obtain ⟨Q3, hw9, h⟩ := h
      have hPc : va_P G vwCl [(m0, .inr (8, [.int kn, .ref mJ, .int kFe, .int kMo, .int kCo, .long kT, .ref mF, .ref mD, .ref mS, .ref mP])), (mJ, .inl (cy 0, 9, .inl jJ))] s.heap := hP.sub [0, 1] rfl
      refine vp_callSi (va_Run.run (va_runV (As := []) (rest := []) ⟨hx, hb, hml, hown, hts⟩ (ct_X9_pairs l G cy m0 mJ mF mD mS mP kn kFe kMo kCo kT jJ Q3 hw9) (cwV 0 hts gX9_told_X9_pairs rfl rfl rfl (by decide +kernel) ⟨Nat.le_of_ble_eq_true rfl, Nat.le_of_ble_eq_true rfl⟩) (rP_V hK hP (ci := 8) (q0 := 0) rfl rfl hPc) rfl rfl hl.1 rfl (lv_room (Nat.le_of_ble_eq_true rfl)) dX9_told_42 ⟨Nat.le_of_ble_eq_true rfl, Nat.le_of_ble_eq_true rfl⟩)) (fun r4 er4 => ?_)
      specialize h r4 er4
      rw [← hQe]
      exact W.iret (v := r4) hx hb hr (fun t ht hW => ⟨r4, rfl, h, ht⟩) (fun q9 h9 => by cases h9) dX9_told_45
    · obtain ⟨-, h⟩ := h
      by_cases c5 : p1 = 2
      · obtain ⟨h, -⟩ := h
        specialize h c5
        refine lv_tableIn (off := 45) (tgt := 46) hx hb dX9_told_1 (by rw [c5]; decide) (by rw [c5]; decide) (by rw [c5]; rfl) (by decide) ?_
        refine lv_aload_n hx hb dX9_told_46 rfl (lv_at hl 0 rfl) ?_
        refine va_get (D := G) (ci := 8) (v := .int kFe) (C := RX9) (T := TX9) (N := 10) hx hb hts iwX9 hown hK.1 hP 0 rfl rfl 2 (by decide) fl36 (fun _ h9 => h9) rfl dX9_told_47 ?_
        rw [← hQe]
        exact W.iret (v := kFe) hx hb hr (fun t ht hW => ⟨kFe, rfl, h, ht⟩) (fun q9 h9 => by cases h9) dX9_told_50
      · obtain ⟨-, h⟩ := h
        by_cases c6 : p1 = 3
        · obtain ⟨h, -⟩ := h
          specialize h c6
          refine lv_tableIn (off := 50) (tgt := 51) hx hb dX9_told_1 (by rw [c6]; decide) (by rw [c6]; decide) (by rw [c6]; rfl) (by decide) ?_
          refine lv_aload_n hx hb dX9_told_51 rfl (lv_at hl 0 rfl) ?_
          refine va_get (D := G) (ci := 8) (v := .int kMo) (C := RX9) (T := TX9) (N := 10) hx hb hts iwX9 hown hK.1 hP 0 rfl rfl 3 (by decide) fl17 (fun _ h9 => h9) rfl dX9_told_52 ?_
          rw [← hQe]
          exact W.iret (v := kMo) hx hb hr (fun t ht hW => ⟨kMo, rfl, h, ht⟩) (fun q9 h9 => by cases h9) dX9_told_55
        · obtain ⟨-, h⟩ := h
          by_cases c7 : p1 = 4
          · obtain ⟨h, -⟩ := h
            specialize h c7
            refine lv_tableIn (off := 55) (tgt := 56) hx hb dX9_told_1 (by rw [c7]; decide) (by rw [c7]; decide) (by rw [c7]; rfl) (by decide) ?_
            refine lv_aload_n hx hb dX9_told_56 rfl (lv_at hl 0 rfl) ?_
            refine va_get (D := G) (ci := 8) (v := .int kCo) (C := RX9) (T := TX9) (N := 10) hx hb hts iwX9 hown hK.1 hP 0 rfl rfl 4 (by decide) fl20 (fun _ h9 => h9) rfl dX9_told_57 ?_
            rw [← hQe]
            exact W.iret (v := kCo) hx hb hr (fun t ht hW => ⟨kCo, rfl, h, ht⟩) (fun q9 h9 => by cases h9) dX9_told_60
          · obtain ⟨-, h⟩ := h
            specialize h c1 c2 c5 c6 c7
            refine lv_tableOut (tgt := 61) hx hb dX9_told_1 (by have nc1 := lv_neT (a := 0) c1 (by decide); have nc2 := lv_neT (a := 1) c2 (by decide); have nc5 := lv_neT (a := 2) c5 (by decide); have nc6 := lv_neT (a := 3) c6 (by decide); have nc7 := lv_neT (a := 4) c7 (by decide); omega) (by decide) ?_
            refine lv_iconst (v := (-1)) hx hb dX9_told_61 (by decide) ?_
            rw [← hQe]
            exact W.iret (v := (-1)) hx hb hr (fun t ht hW => ⟨(-1), rfl, h, ht⟩) (fun q9 h9 => by cases h9) dX9_told_62

set_option maxHeartbeats 4000000 in
set_option maxRecDepth 100000 in
theorem ct_X9_trace (l : Launch) (G : va_G) (cy : Nat → ClassId) (m0 mJ mF mD mS mP : Nat) (kn : Int32) (kFe : Int32) (kMo : Int32) (kCo : Int32) (kT : Int64) (jJ : Nat → Int32) (Q : Int64 → Prop) (h : wp_X9_trace kT Q) : Met l yX9_trace wsX9_trace rmX9_trace (va_Pc [.ref m0] (rP G cy [(m0, .inr (8, [.int kn, .ref mJ, .int kFe, .int kMo, .int kCo, .long kT, .ref mF, .ref mD, .ref mS, .ref mP])), (mJ, .inl (cy 0, 9, .inl jJ))])) (vp_Sl Q) 0 0 (fun _ => False) := by
  unfold wp_X9_trace at h
  refine Met.ofW (cc := cX9_trace) (maxL := 1) (ret := (some .long)) (by decide) rfl ?_
  intro p e s m args below meth c s₁ B hml hv
  obtain ⟨hav, hP, hK⟩ := hv
  have hx := B.exec
  have hb := B.bytes
  have hr := B.returns
  have hts := atoms_spec (ws := wsX9_trace) B.pre
  have hown : s.vm.findClass RX9 = some m.cls := findClass_of_methodNamed B.named
  have hlocks := B.notSynchronized
  have hl := lv_entry ([.ref m0]) (n := 1) (Nat.le_of_ble_eq_true rfl)
  rw [show entryFrame m args 1 = entryFrame m ([.ref m0] : List Value).toArray 1 by rw [hav], lg_entry_eq]
  generalize (lg_sl ([.ref m0]) ++ List.replicate (1 - (lg_sl ([.ref m0])).length) Slot.unset).toArray = ls at hl ⊢
  have hl : lv_has ls 1 [(0, .ref m0)] := hl
  generalize hQe : MQ below _ _ _ _ _ _ = QM
  have iwX9 : ∀ w ∈ wsX90, w ∈ wsX9_trace := by decide +kernel
  have fl72 := hts (.fieldLink RX9 72 "SlidTokensModel" "trace" "J") (by decide +kernel)
  refine lv_aload_n hx hb dX9_trace_0 rfl (lv_at hl 0 rfl) ?_
  refine va_get (D := G) (ci := 8) (v := .long kT) (C := RX9) (T := TX9) (N := 10) hx hb hts iwX9 hown hK.1 hP 0 rfl rfl 5 (by decide) fl72 (fun _ h9 => h9) rfl dX9_trace_1 ?_
  rw [← hQe]
  exact W.lret (v := kT) hx hb hr (fun t ht hW => ⟨kT, rfl, h, ht⟩) (fun q9 h9 => by cases h9) dX9_trace_4

set_option maxHeartbeats 4000000 in
set_option maxRecDepth 100000 in
theorem ct_X9_part (l : Launch) (G : va_G) (cy : Nat → ClassId) (m0 mJ mF mD mS mP : Nat) (sz : Nat) (kn : Int32) (kFe : Int32) (kMo : Int32) (kCo : Int32) (kT : Int64) (jJ : Nat → Int32) (Q : (Nat → Int32) → Prop) (h : wp_X9_part jJ Q) : Met l yX9_part wsX9_part rmX9_part (va_Pc [.ref m0] (wP G cy sz [(m0, .inr (8, [.int kn, .ref mJ, .int kFe, .int kMo, .int kCo, .long kT, .ref mF, .ref mD, .ref mS, .ref mP])), (mJ, .inl (cy 0, 9, .inl jJ))])) (va_Qv (fun (u : (Nat → Int32)) => Q u) (fun (u : (Nat → Int32)) (t : State) => va_P G vwCl [(m0, .inr (8, [.int kn, .ref mJ, .int kFe, .int kMo, .int kCo, .long kT, .ref mF, .ref mD, .ref mS, .ref mP])), (mJ, .inl (cy 0, 9, .inl u))] t.heap) (va_A [(m0, .inr (8, [.int kn, .ref mJ, .int kFe, .int kMo, .int kCo, .long kT, .ref mF, .ref mD, .ref mS, .ref mP])), (mJ, .inl (cy 0, 9, .inl jJ))] sz)) 0 0 (va_A [(m0, .inr (8, [.int kn, .ref mJ, .int kFe, .int kMo, .int kCo, .long kT, .ref mF, .ref mD, .ref mS, .ref mP])), (mJ, .inl (cy 0, 9, .inl jJ))] sz) := by
  unfold wp_X9_part at h
  refine Met.ofW (cc := cX9_part) (maxL := 2) (ret := none) (by decide) rfl ?_
  intro p e s m args below meth c s₁ B hml hv
  obtain ⟨hav, hsz, hP, hK, hD0⟩ := hv
  have hx := B.exec
  have hb := B.bytes
  have hr := B.returns
  have hts := atoms_spec (ws := wsX9_part) B.pre
  have hown : s.vm.findClass RX9 = some m.cls := findClass_of_methodNamed B.named
  have hlocks := B.notSynchronized
  subst hsz
  have hD := hD0.self (sz := s.heap.size)
  generalize hAe : va_A [(m0, .inr (8, [.int kn, .ref mJ, .int kFe, .int kMo, .int kCo, .long kT, .ref mF, .ref mD, .ref mS, .ref mP])), (mJ, .inl (cy 0, 9, .inl jJ))] s.heap.size = A at hD ⊢
  have hA : ∀ q : Nat, s.heap.size ≤ q → A q := fun q h9 => by rw [← hAe]; exact Or.inr h9
  have hS : va_S A s.heap s.heap [] := va_S.rf
  have hl := lv_entry ([.ref m0]) (n := 2) (Nat.le_of_ble_eq_true rfl)
  rw [show entryFrame m args 2 = entryFrame m ([.ref m0] : List Value).toArray 2 by rw [hav], lg_entry_eq]
  generalize (lg_sl ([.ref m0]) ++ List.replicate (2 - (lg_sl ([.ref m0])).length) Slot.unset).toArray = ls at hl ⊢
  have hl : lv_has ls 2 [(0, .ref m0)] := hl
  generalize hQe : MQ below _ _ _ _ _ _ = QM
  have hP : va_P G vwCl [(m0, .inr (8, [.int kn, .ref mJ, .int kFe, .int kMo, .int kCo, .long kT, .ref mF, .ref mD, .ref mS, .ref mP])), (mJ, .inl (cy 0, 9, .inl jJ))] s.heap := hP
  have iwX9 : ∀ w ∈ wsX90, w ∈ wsX9_part := by decide +kernel
  have fl13 := hts (.fieldLink RX9 13 "SlidTokensModel" "joined" "[I") (by decide +kernel)
  suffices K9 : ∀ (H : Heap) (locs : List Loc), va_P G vwCl [(m0, .inr (8, [.int kn, .ref mJ, .int kFe, .int kMo, .int kCo, .long kT, .ref mF, .ref mD, .ref mS, .ref mP])), (mJ, .inl (cy 0, 9, .inl jJ))] H → va_D A [(m0, .inr (8, [.int kn, .ref mJ, .int kFe, .int kMo, .int kCo, .long kT, .ref mF, .ref mD, .ref mS, .ref mP])), (mJ, .inl (cy 0, 9, .inl jJ))] → va_S A s.heap H locs → W p l e (headSpec wsX9_part rmX9_part).room s m args below meth c H locs 0 0 QM (F0 m 0 ls []) from K9 _ _ hP hD hS
  clear hP hD hS
  intro H locs hP hD hS
  refine lv_iconst (v := 0) hx hb dX9_part_0 (by decide) ?_
  refine lv_istore_n (lv' := [(1, .int 0), (0, .ref m0)]) hx hb dX9_part_1 rfl hl (by decide) rfl (fun ls hl => ?_)
  obtain ⟨I2_2, u2_2, h02, hst2⟩ := h
  have key2 : ∀ (k9 : Nat) (y1 : Int32) (f2 : Nat → Int32), I2_2 y1 f2 → u2_2 y1 f2 < k9 → ∀ (H : Heap) (locs : List Loc), va_P G vwCl [(m0, .inr (8, [.int kn, .ref mJ, .int kFe, .int kMo, .int kCo, .long kT, .ref mF, .ref mD, .ref mS, .ref mP])), (mJ, .inl (cy 0, 9, .inl f2))] H → va_D A [(m0, .inr (8, [.int kn, .ref mJ, .int kFe, .int kMo, .int kCo, .long kT, .ref mF, .ref mD, .ref mS, .ref mP])), (mJ, .inl (cy 0, 9, .inl f2))] → va_S A s.heap H locs → ∀ (ls : Array Slot), lv_has ls 2 [(0, .ref m0), (1, .int y1)] → W p l e (headSpec wsX9_part rmX9_part).room s m args below meth c H locs 0 0 QM (F0 m 2 ls []) := by
    intro k9
    induction k9 with
    | zero =>
      intro y1 f2 hI9 hk9
      exact absurd hk9 (Nat.not_lt_zero _)
    | succ k9 ih2 =>
      intro y1 f2 hI9 hk2 H locs hP hD hS ls hl
      have h := hst2 y1 f2 hI9
      refine lv_iload_n hx hb dX9_part_2 rfl (lv_at hl 1 rfl) ?_
      refine lv_bipush (v := 9) hx hb dX9_part_3 (by decide) ?_
      refine lv_icmp_ge (tgt := 21) hx hb dX9_part_5 (by decide) (fun c3 => ?_) (fun c3 => ?_)
      · obtain ⟨h, -⟩ := h
        specialize h c3
        rw [← hQe]
        exact W.vret hx hb hr (fun t ht hW => ⟨⟨f2, rfl, h, by dsimp only; rw [ht]; exact hP⟩, hS.F ht⟩) hS.2.2 dX9_part_21
      · obtain ⟨-, h⟩ := h
        specialize h c3
        refine lv_aload_n hx hb dX9_part_8 rfl (lv_at hl 0 rfl) ?_
        refine va_get (D := G) (ci := 8) (v := .ref mJ) (C := RX9) (T := TX9) (N := 10) hx hb hts iwX9 hown hK.1 hP 0 rfl rfl 1 (by decide) fl13 (fun _ h9 => h9) rfl dX9_part_9 ?_
        refine lv_iload_n hx hb dX9_part_12 rfl (lv_at hl 1 rfl) ?_
        refine lv_iconst (v := 0) hx hb dX9_part_13 (by decide) ?_
        obtain ⟨hi, h⟩ := h
        refine va_iast hx hb hK.1 hP hD hS 1 0 rfl rfl hi dX9_part_14 (fun H locs hP hD hS => ?_)
        obtain ⟨f4, ef4⟩ : ∃ z9 : Nat → Int32, z9 = upd f2 (y1 : Int32).toNatClampNeg 0 := ⟨_, rfl⟩
        specialize h f4 ef4
        have hP : va_P G vwCl [(m0, .inr (8, [.int kn, .ref mJ, .int kFe, .int kMo, .int kCo, .long kT, .ref mF, .ref mD, .ref mS, .ref mP])), (mJ, .inl (cy 0, 9, .inl f4))] H := by rw [ef4]; exact hP
        have hD : va_D A [(m0, .inr (8, [.int kn, .ref mJ, .int kFe, .int kMo, .int kCo, .long kT, .ref mF, .ref mD, .ref mS, .ref mP])), (mJ, .inl (cy 0, 9, .inl f4))] := D_same hD rfl
        obtain ⟨x5, ex5⟩ : ∃ y : Int32, y = y1 + 1 := ⟨_, rfl⟩
        specialize h x5 ex5
        refine lv_iinc (v := x5) (lv' := [(1, .int x5), (0, .ref m0)]) hx hb dX9_part_15 hl (k := 1) rfl (by rw [ex5]; rfl) (by decide) rfl (fun ls hl => ?_)
        refine lv_goto (tgt := 2) hx hb dX9_part_18 (by decide) ?_
        exact ih2 x5 f4 h.1 (Nat.lt_of_lt_of_le h.2 (Nat.le_of_lt_succ hk2)) _ _ hP hD hS _ (lv_sub hl [1, 0] rfl)
  exact key2 _ 0 jJ h02 (Nat.lt_succ_self _) _ _ hP hD hS _ (lv_sub hl [1, 0] rfl)

set_option maxHeartbeats 4000000 in
set_option maxRecDepth 100000 in
theorem ct_X9_net (l : Launch) (G : va_G) (cy : Nat → ClassId) (m0 mJ mF mD mS mP : Nat) (sz : Nat) (kn : Int32) (kFe : Int32) (kMo : Int32) (kCo : Int32) (kT : Int64) (jJ : Nat → Int32) (p1 : Int32) (Q : Int32 → Int32 → (Nat → Int32) → Prop) (h : wp_X9_net kn jJ p1 Q) : Met l yX9_net wsX9_net rmX9_net (va_Pc [.ref m0, .int p1] (wP G cy sz [(m0, .inr (8, [.int kn, .ref mJ, .int kFe, .int kMo, .int kCo, .long kT, .ref mF, .ref mD, .ref mS, .ref mP])), (mJ, .inl (cy 0, 9, .inl jJ))])) (va_Qi (fun (r : Int32) (u : Int32 × (Nat → Int32)) => Q r u.1 u.2) (fun (u : Int32 × (Nat → Int32)) (t : State) => va_P G vwCl [(m0, .inr (8, [.int u.1, .ref mJ, .int kFe, .int kMo, .int kCo, .long kT, .ref mF, .ref mD, .ref mS, .ref mP])), (mJ, .inl (cy 0, 9, .inl u.2))] t.heap) (va_A [(m0, .inr (8, [.int kn, .ref mJ, .int kFe, .int kMo, .int kCo, .long kT, .ref mF, .ref mD, .ref mS, .ref mP])), (mJ, .inl (cy 0, 9, .inl jJ))] sz)) 0 0 (va_A [(m0, .inr (8, [.int kn, .ref mJ, .int kFe, .int kMo, .int kCo, .long kT, .ref mF, .ref mD, .ref mS, .ref mP])), (mJ, .inl (cy 0, 9, .inl jJ))] sz) := by
  unfold wp_X9_net at h
  refine Met.ofW (cc := cX9_net) (maxL := 3) (ret := (some .int)) (by decide) rfl ?_
  intro p e s m args below meth c s₁ B hml hv
  obtain ⟨hav, hsz, hP, hK, hD0⟩ := hv
  have hx := B.exec
  have hb := B.bytes
  have hr := B.returns
  have hts := atoms_spec (ws := wsX9_net) B.pre
  have hown : s.vm.findClass RX9 = some m.cls := findClass_of_methodNamed B.named
  have hlocks := B.notSynchronized
  subst hsz
  have hD := hD0.self (sz := s.heap.size)
  generalize hAe : va_A [(m0, .inr (8, [.int kn, .ref mJ, .int kFe, .int kMo, .int kCo, .long kT, .ref mF, .ref mD, .ref mS, .ref mP])), (mJ, .inl (cy 0, 9, .inl jJ))] s.heap.size = A at hD ⊢
  have hA : ∀ q : Nat, s.heap.size ≤ q → A q := fun q h9 => by rw [← hAe]; exact Or.inr h9
  have hS : va_S A s.heap s.heap [] := va_S.rf
  have hl := lv_entry ([.ref m0, .int p1]) (n := 3) (Nat.le_of_ble_eq_true rfl)
  rw [show entryFrame m args 3 = entryFrame m ([.ref m0, .int p1] : List Value).toArray 3 by rw [hav], lg_entry_eq]
  generalize (lg_sl ([.ref m0, .int p1]) ++ List.replicate (3 - (lg_sl ([.ref m0, .int p1])).length) Slot.unset).toArray = ls at hl ⊢
  have hl : lv_has ls 3 [(0, .ref m0), (1, .int p1)] := hl
  generalize hQe : MQ below _ _ _ _ _ _ = QM
  have hP : va_P G vwCl [(m0, .inr (8, [.int kn, .ref mJ, .int kFe, .int kMo, .int kCo, .long kT, .ref mF, .ref mD, .ref mS, .ref mP])), (mJ, .inl (cy 0, 9, .inl jJ))] s.heap := hP
  have iwX9 : ∀ w ∈ wsX90, w ∈ wsX9_net := by decide +kernel
  have fl7 := hts (.fieldLink RX9 7 "SlidTokensModel" "n" "I") (by decide +kernel)
  suffices K9 : ∀ (H : Heap) (locs : List Loc), va_P G vwCl [(m0, .inr (8, [.int kn, .ref mJ, .int kFe, .int kMo, .int kCo, .long kT, .ref mF, .ref mD, .ref mS, .ref mP])), (mJ, .inl (cy 0, 9, .inl jJ))] H → va_D A [(m0, .inr (8, [.int kn, .ref mJ, .int kFe, .int kMo, .int kCo, .long kT, .ref mF, .ref mD, .ref mS, .ref mP])), (mJ, .inl (cy 0, 9, .inl jJ))] → va_S A s.heap H locs → W p l e (headSpec wsX9_net rmX9_net).room s m args below meth c H locs 0 0 QM (F0 m 0 ls []) from K9 _ _ hP hD hS
  clear hP hD hS
  intro H locs hP hD hS
  refine lv_iload_n hx hb dX9_net_0 rfl (lv_at hl 1 rfl) ?_
  refine lv_iconst (v := 1) hx hb dX9_net_1 (by decide) ?_
  refine lv_bipush (v := 9) hx hb dX9_net_2 (by decide) ?_
  obtain ⟨Q1, hw9, h⟩ := h
  have hPc : va_P G vwCl [] H := P_nil
  refine vp_callSi (va_Run.run (va_runS (As := [.int p1, .int 1, .int 9]) (rest := []) ⟨hx, hb, hml, hown, hts⟩ (ct_X9_in l G cy p1 1 9 Q1 hw9) (va_cwS 3 hts gX9_net_X9_in rfl rfl rfl (by decide +kernel) ⟨Nat.le_of_ble_eq_true rfl, Nat.le_of_ble_eq_true rfl⟩) (rP_S hK hPc) rfl rfl hl.1 rfl (lv_room (Nat.le_of_ble_eq_true rfl)) dX9_net_4 ⟨Nat.le_of_ble_eq_true rfl, Nat.le_of_ble_eq_true rfl⟩)) (fun r2 er2 => ?_)
  specialize h r2 er2
  refine lv_if_ne (tgt := 12) hx hb dX9_net_7 (by decide) (fun c3 => ?_) (fun c3 => ?_)
  · obtain ⟨-, h⟩ := h
    specialize h c3
    refine lv_aload_n hx hb dX9_net_12 rfl (lv_at hl 0 rfl) ?_
    refine va_get (D := G) (ci := 8) (v := .int kn) (C := RX9) (T := TX9) (N := 10) hx hb hts iwX9 hown hK.1 hP 0 rfl rfl 0 (by decide) fl7 (fun _ h9 => h9) rfl dX9_net_13 ?_
    refine lv_istore_n (lv' := [(2, .int kn), (0, .ref m0), (1, .int p1)]) hx hb dX9_net_16 rfl hl (by decide) rfl (fun ls hl => ?_)
    refine lv_aload_n hx hb dX9_net_17 rfl (lv_at hl 1 rfl) ?_
    refine lv_iload_n hx hb dX9_net_18 rfl (lv_at hl 2 rfl) ?_
    refine va_put (D := G) (ci := 8) (v := .int p1) (ty := .int) (C := RX9) (T := TX9) (N := 10) hx hb hts iwX9 tyX9 tyX9_ok nmX9 hown hK.1 hP hD hS 0 rfl rfl 0 (by decide) fl7 (fun _ h9 => h9) rfl (by decide +kernel) rfl rfl (Nat.le_of_ble_eq_true rfl) dX9_net_19 (fun H locs hP hD hS => ?_)
    have hP : va_P G vwCl [(m0, .inr (8, [.int p1, .ref mJ, .int kFe, .int kMo, .int kCo, .long kT, .ref mF, .ref mD, .ref mS, .ref mP])), (mJ, .inl (cy 0, 9, .inl jJ))] H := hP
    have hD : va_D A [(m0, .inr (8, [.int p1, .ref mJ, .int kFe, .int kMo, .int kCo, .long kT, .ref mF, .ref mD, .ref mS, .ref mP])), (mJ, .inl (cy 0, 9, .inl jJ))] := hD
    refine lv_aload_n hx hb dX9_net_22 rfl (lv_at hl 1 rfl) ?_
    obtain ⟨Q4, hw9, h⟩ := h
    have hPc : va_P G vwCl [(m0, .inr (8, [.int p1, .ref mJ, .int kFe, .int kMo, .int kCo, .long kT, .ref mF, .ref mD, .ref mS, .ref mP])), (mJ, .inl (cy 0, 9, .inl jJ))] H := hP.sub [0, 1] rfl
    have hDc : va_D A [(m0, .inr (8, [.int p1, .ref mJ, .int kFe, .int kMo, .int kCo, .long kT, .ref mF, .ref mD, .ref mS, .ref mP])), (mJ, .inl (cy 0, 9, .inl jJ))] := hD.sub [0, 1] (by decide) rfl
    have hFc := va_free (wc := [(m0, .inr (8, [.int p1, .ref mJ, .int kFe, .int kMo, .int kCo, .long kT, .ref mF, .ref mD, .ref mS, .ref mP])), (mJ, .inl (cy 0, 9, .inl jJ))]) hD hS hA [0, 1] rfl
    refine va_callv (va_runV (As := []) (rest := []) ⟨hx, hb, hml, hown, hts⟩ (ct_X9_part l G cy m0 mJ mF mD mS mP H.size p1 kFe kMo kCo kT jJ Q4 hw9) (cwV 0 hts gX9_net_X9_part rfl rfl rfl (by decide +kernel) ⟨Nat.le_of_ble_eq_true rfl, Nat.le_of_ble_eq_true rfl⟩) (wP_V hK hP (ci := 8) (q0 := 0) rfl rfl hPc hDc) rfl rfl hl.1 rfl (lv_room (Nat.le_of_ble_eq_true rfl)) dX9_net_23 ⟨Nat.le_of_ble_eq_true rfl, Nat.le_of_ble_eq_true rfl⟩) hS (fun q9 _ h9 => hFc q9 h9) hFc (fun u9 t9 H locs ht9 hvm9 hw9 hB9 hz9 hk9 hS => ?_)
    obtain ⟨f6, rfl⟩ : ∃ z9, z9 = u9 := ⟨_, rfl⟩
    have hP : va_P G vwCl [(m0, .inr (8, [.int p1, .ref mJ, .int kFe, .int kMo, .int kCo, .long kT, .ref mF, .ref mD, .ref mS, .ref mP])), (mJ, .inl (cy 0, 9, .inl f6))] H := P_back [0, 1] [] 2 hP hD rfl rfl rfl rfl (by decide) (by decide) hk9 (by rw [← ht9]; exact hB9)
    have hD : va_D A [(m0, .inr (8, [.int p1, .ref mJ, .int kFe, .int kMo, .int kCo, .long kT, .ref mF, .ref mD, .ref mS, .ref mP])), (mJ, .inl (cy 0, 9, .inl f6))] := D_same hD rfl
    specialize h f6 hw9
    refine lv_iload_n hx hb dX9_net_26 rfl (lv_at hl 0 rfl) ?_
    rw [← hQe]
    exact W.iret (v := kn) hx hb hr (fun t ht hW => ⟨⟨kn, (p1, f6), rfl, h, by dsimp only; rw [ht]; exact hP⟩, hS.F ht⟩) hS.2.2 dX9_net_27
  · obtain ⟨h, -⟩ := h
    specialize h c3
    refine lv_iconst (v := (-1)) hx hb dX9_net_10 (by decide) ?_
    rw [← hQe]
    exact W.iret (v := (-1)) hx hb hr (fun t ht hW => ⟨⟨(-1), (kn, jJ), rfl, h, by dsimp only; rw [ht]; exact hP⟩, hS.F ht⟩) hS.2.2 dX9_net_11

set_option maxHeartbeats 4000000 in
set_option maxRecDepth 100000 in
theorem ct_X9_put (l : Launch) (G : va_G) (cy : Nat → ClassId) (m0 mJ mF mD mS mP : Nat) (sz : Nat) (kn : Int32) (kFe : Int32) (kMo : Int32) (kCo : Int32) (kT : Int64) (jJ : Nat → Int32) (p1 : Int32) (p2 : Int32) (p3 : Int32) (Q : (Nat → Int32) → Prop) (h : wp_X9_put jJ p1 p2 p3 Q) : Met l yX9_put wsX9_put rmX9_put (va_Pc [.ref m0, .int p1, .int p2, .int p3] (wP G cy sz [(m0, .inr (8, [.int kn, .ref mJ, .int kFe, .int kMo, .int kCo, .long kT, .ref mF, .ref mD, .ref mS, .ref mP])), (mJ, .inl (cy 0, 9, .inl jJ))])) (va_Qv (fun (u : (Nat → Int32)) => Q u) (fun (u : (Nat → Int32)) (t : State) => va_P G vwCl [(m0, .inr (8, [.int kn, .ref mJ, .int kFe, .int kMo, .int kCo, .long kT, .ref mF, .ref mD, .ref mS, .ref mP])), (mJ, .inl (cy 0, 9, .inl u))] t.heap) (va_A [(m0, .inr (8, [.int kn, .ref mJ, .int kFe, .int kMo, .int kCo, .long kT, .ref mF, .ref mD, .ref mS, .ref mP])), (mJ, .inl (cy 0, 9, .inl jJ))] sz)) 0 0 (va_A [(m0, .inr (8, [.int kn, .ref mJ, .int kFe, .int kMo, .int kCo, .long kT, .ref mF, .ref mD, .ref mS, .ref mP])), (mJ, .inl (cy 0, 9, .inl jJ))] sz) := by
  unfold wp_X9_put at h
  refine Met.ofW (cc := cX9_put) (maxL := 4) (ret := none) (by decide) rfl ?_
  intro p e s m args below meth c s₁ B hml hv
  obtain ⟨hav, hsz, hP, hK, hD0⟩ := hv
  have hx := B.exec
  have hb := B.bytes
  have hr := B.returns
  have hts := atoms_spec (ws := wsX9_put) B.pre
  have hown : s.vm.findClass RX9 = some m.cls := findClass_of_methodNamed B.named
  have hlocks := B.notSynchronized
  subst hsz
  have hD := hD0.self (sz := s.heap.size)
  generalize hAe : va_A [(m0, .inr (8, [.int kn, .ref mJ, .int kFe, .int kMo, .int kCo, .long kT, .ref mF, .ref mD, .ref mS, .ref mP])), (mJ, .inl (cy 0, 9, .inl jJ))] s.heap.size = A at hD ⊢
  have hA : ∀ q : Nat, s.heap.size ≤ q → A q := fun q h9 => by rw [← hAe]; exact Or.inr h9
  have hS : va_S A s.heap s.heap [] := va_S.rf
  have hl := lv_entry ([.ref m0, .int p1, .int p2, .int p3]) (n := 4) (Nat.le_of_ble_eq_true rfl)
  rw [show entryFrame m args 4 = entryFrame m ([.ref m0, .int p1, .int p2, .int p3] : List Value).toArray 4 by rw [hav], lg_entry_eq]
  generalize (lg_sl ([.ref m0, .int p1, .int p2, .int p3]) ++ List.replicate (4 - (lg_sl ([.ref m0, .int p1, .int p2, .int p3])).length) Slot.unset).toArray = ls at hl ⊢
  have hl : lv_has ls 4 [(0, .ref m0), (1, .int p1), (2, .int p2), (3, .int p3)] := hl
  generalize hQe : MQ below _ _ _ _ _ _ = QM
  have hP : va_P G vwCl [(m0, .inr (8, [.int kn, .ref mJ, .int kFe, .int kMo, .int kCo, .long kT, .ref mF, .ref mD, .ref mS, .ref mP])), (mJ, .inl (cy 0, 9, .inl jJ))] s.heap := hP
  have iwX9 : ∀ w ∈ wsX90, w ∈ wsX9_put := by decide +kernel
  have fl13 := hts (.fieldLink RX9 13 "SlidTokensModel" "joined" "[I") (by decide +kernel)
  suffices K9 : ∀ (H : Heap) (locs : List Loc), va_P G vwCl [(m0, .inr (8, [.int kn, .ref mJ, .int kFe, .int kMo, .int kCo, .long kT, .ref mF, .ref mD, .ref mS, .ref mP])), (mJ, .inl (cy 0, 9, .inl jJ))] H → va_D A [(m0, .inr (8, [.int kn, .ref mJ, .int kFe, .int kMo, .int kCo, .long kT, .ref mF, .ref mD, .ref mS, .ref mP])), (mJ, .inl (cy 0, 9, .inl jJ))] → va_S A s.heap H locs → W p l e (headSpec wsX9_put rmX9_put).room s m args below meth c H locs 0 0 QM (F0 m 0 ls []) from K9 _ _ hP hD hS
  clear hP hD hS
  intro H locs hP hD hS
  refine lv_aload_n hx hb dX9_put_0 rfl (lv_at hl 0 rfl) ?_
  refine va_get (D := G) (ci := 8) (v := .ref mJ) (C := RX9) (T := TX9) (N := 10) hx hb hts iwX9 hown hK.1 hP 0 rfl rfl 1 (by decide) fl13 (fun _ h9 => h9) rfl dX9_put_1 ?_
  refine lv_iload_n hx hb dX9_put_4 rfl (lv_at hl 1 rfl) ?_
  refine lv_iload_n hx hb dX9_put_5 rfl (lv_at hl 3 rfl) ?_
  refine lv_iconst (v := 1) hx hb dX9_put_6 (by decide) ?_
  refine lv_icmp_ne (tgt := 23) hx hb dX9_put_7 (by decide) (fun c1 => ?_) (fun c1 => ?_)
  · obtain ⟨-, h⟩ := h
    specialize h c1
    refine lv_aload_n hx hb dX9_put_23 rfl (lv_at hl 0 rfl) ?_
    refine va_get (D := G) (ci := 8) (v := .ref mJ) (C := RX9) (T := TX9) (N := 10) hx hb hts iwX9 hown hK.1 hP 0 rfl rfl 1 (by decide) fl13 (fun _ h9 => h9) rfl dX9_put_24 ?_
    refine lv_iload_n hx hb dX9_put_27 rfl (lv_at hl 1 rfl) ?_
    obtain ⟨hi, h⟩ := h
    refine va_iald hx hb hK.1 hP 1 0 rfl rfl hi dX9_put_28 ?_
    refine lv_iconst (v := 1) hx hb dX9_put_29 (by decide) ?_
    refine lv_iload_n hx hb dX9_put_30 rfl (lv_at hl 2 rfl) ?_
    refine lv_ishl hx hb dX9_put_31 ?_
    refine lv_iconst (v := (-1)) hx hb dX9_put_32 (by decide) ?_
    refine lv_ixor hx hb dX9_put_33 ?_
    refine lv_iand hx hb dX9_put_34 ?_
    refine lv_topi (fun x2 ex2 => ?_)
    specialize h x2 ex2
    obtain ⟨hi, h⟩ := h
    refine va_iast hx hb hK.1 hP hD hS 1 0 rfl rfl hi dX9_put_35 (fun H locs hP hD hS => ?_)
    obtain ⟨f3, ef3⟩ : ∃ z9 : Nat → Int32, z9 = upd jJ (p1 : Int32).toNatClampNeg x2 := ⟨_, rfl⟩
    specialize h f3 ef3
    have hP : va_P G vwCl [(m0, .inr (8, [.int kn, .ref mJ, .int kFe, .int kMo, .int kCo, .long kT, .ref mF, .ref mD, .ref mS, .ref mP])), (mJ, .inl (cy 0, 9, .inl f3))] H := by rw [ef3]; exact hP
    have hD : va_D A [(m0, .inr (8, [.int kn, .ref mJ, .int kFe, .int kMo, .int kCo, .long kT, .ref mF, .ref mD, .ref mS, .ref mP])), (mJ, .inl (cy 0, 9, .inl f3))] := D_same hD rfl
    refine lv_aload_n hx hb dX9_put_36 rfl (lv_at hl 0 rfl) ?_
    refine va_get (D := G) (ci := 8) (v := .ref mJ) (C := RX9) (T := TX9) (N := 10) hx hb hts iwX9 hown hK.1 hP 0 rfl rfl 1 (by decide) fl13 (fun _ h9 => h9) rfl dX9_put_37 ?_
    refine lv_iload_n hx hb dX9_put_40 rfl (lv_at hl 2 rfl) ?_
    refine lv_iload_n hx hb dX9_put_41 rfl (lv_at hl 3 rfl) ?_
    refine lv_iconst (v := 1) hx hb dX9_put_42 (by decide) ?_
    refine lv_icmp_ne (tgt := 59) hx hb dX9_put_43 (by decide) (fun c4 => ?_) (fun c4 => ?_)
    · obtain ⟨-, h⟩ := h
      specialize h c4
      refine lv_aload_n hx hb dX9_put_59 rfl (lv_at hl 0 rfl) ?_
      refine va_get (D := G) (ci := 8) (v := .ref mJ) (C := RX9) (T := TX9) (N := 10) hx hb hts iwX9 hown hK.1 hP 0 rfl rfl 1 (by decide) fl13 (fun _ h9 => h9) rfl dX9_put_60 ?_
      refine lv_iload_n hx hb dX9_put_63 rfl (lv_at hl 2 rfl) ?_
      obtain ⟨hi, h⟩ := h
      refine va_iald hx hb hK.1 hP 1 0 rfl rfl hi dX9_put_64 ?_
      refine lv_iconst (v := 1) hx hb dX9_put_65 (by decide) ?_
      refine lv_iload_n hx hb dX9_put_66 rfl (lv_at hl 1 rfl) ?_
      refine lv_ishl hx hb dX9_put_67 ?_
      refine lv_iconst (v := (-1)) hx hb dX9_put_68 (by decide) ?_
      refine lv_ixor hx hb dX9_put_69 ?_
      refine lv_iand hx hb dX9_put_70 ?_
      refine lv_topi (fun x5 ex5 => ?_)
      specialize h x5 ex5
      obtain ⟨hi, h⟩ := h
      refine va_iast hx hb hK.1 hP hD hS 1 0 rfl rfl hi dX9_put_71 (fun H locs hP hD hS => ?_)
      obtain ⟨f6, ef6⟩ : ∃ z9 : Nat → Int32, z9 = upd f3 (p2 : Int32).toNatClampNeg x5 := ⟨_, rfl⟩
      specialize h f6 ef6
      have hP : va_P G vwCl [(m0, .inr (8, [.int kn, .ref mJ, .int kFe, .int kMo, .int kCo, .long kT, .ref mF, .ref mD, .ref mS, .ref mP])), (mJ, .inl (cy 0, 9, .inl f6))] H := by rw [ef6]; exact hP
      have hD : va_D A [(m0, .inr (8, [.int kn, .ref mJ, .int kFe, .int kMo, .int kCo, .long kT, .ref mF, .ref mD, .ref mS, .ref mP])), (mJ, .inl (cy 0, 9, .inl f6))] := D_same hD rfl
      rw [← hQe]
      exact W.vret hx hb hr (fun t ht hW => ⟨⟨f6, rfl, h, by dsimp only; rw [ht]; exact hP⟩, hS.F ht⟩) hS.2.2 dX9_put_72
    · obtain ⟨h, -⟩ := h
      specialize h c4
      refine lv_aload_n hx hb dX9_put_46 rfl (lv_at hl 0 rfl) ?_
      refine va_get (D := G) (ci := 8) (v := .ref mJ) (C := RX9) (T := TX9) (N := 10) hx hb hts iwX9 hown hK.1 hP 0 rfl rfl 1 (by decide) fl13 (fun _ h9 => h9) rfl dX9_put_47 ?_
      refine lv_iload_n hx hb dX9_put_50 rfl (lv_at hl 2 rfl) ?_
      obtain ⟨hi, h⟩ := h
      refine va_iald hx hb hK.1 hP 1 0 rfl rfl hi dX9_put_51 ?_
      refine lv_iconst (v := 1) hx hb dX9_put_52 (by decide) ?_
      refine lv_iload_n hx hb dX9_put_53 rfl (lv_at hl 1 rfl) ?_
      refine lv_ishl hx hb dX9_put_54 ?_
      refine lv_ior hx hb dX9_put_55 ?_
      refine lv_goto (tgt := 71) hx hb dX9_put_56 (by decide) ?_
      refine lv_topi (fun x7 ex7 => ?_)
      specialize h x7 ex7
      obtain ⟨hi, h⟩ := h
      refine va_iast hx hb hK.1 hP hD hS 1 0 rfl rfl hi dX9_put_71 (fun H locs hP hD hS => ?_)
      obtain ⟨f8, ef8⟩ : ∃ z9 : Nat → Int32, z9 = upd f3 (p2 : Int32).toNatClampNeg x7 := ⟨_, rfl⟩
      specialize h f8 ef8
      have hP : va_P G vwCl [(m0, .inr (8, [.int kn, .ref mJ, .int kFe, .int kMo, .int kCo, .long kT, .ref mF, .ref mD, .ref mS, .ref mP])), (mJ, .inl (cy 0, 9, .inl f8))] H := by rw [ef8]; exact hP
      have hD : va_D A [(m0, .inr (8, [.int kn, .ref mJ, .int kFe, .int kMo, .int kCo, .long kT, .ref mF, .ref mD, .ref mS, .ref mP])), (mJ, .inl (cy 0, 9, .inl f8))] := D_same hD rfl
      rw [← hQe]
      exact W.vret hx hb hr (fun t ht hW => ⟨⟨f8, rfl, h, by dsimp only; rw [ht]; exact hP⟩, hS.F ht⟩) hS.2.2 dX9_put_72
  · obtain ⟨h, -⟩ := h
    specialize h c1
    refine lv_aload_n hx hb dX9_put_10 rfl (lv_at hl 0 rfl) ?_
    refine va_get (D := G) (ci := 8) (v := .ref mJ) (C := RX9) (T := TX9) (N := 10) hx hb hts iwX9 hown hK.1 hP 0 rfl rfl 1 (by decide) fl13 (fun _ h9 => h9) rfl dX9_put_11 ?_
    refine lv_iload_n hx hb dX9_put_14 rfl (lv_at hl 1 rfl) ?_
    obtain ⟨hi, h⟩ := h
    refine va_iald hx hb hK.1 hP 1 0 rfl rfl hi dX9_put_15 ?_
    refine lv_iconst (v := 1) hx hb dX9_put_16 (by decide) ?_
    refine lv_iload_n hx hb dX9_put_17 rfl (lv_at hl 2 rfl) ?_
    refine lv_ishl hx hb dX9_put_18 ?_
    refine lv_ior hx hb dX9_put_19 ?_
    refine lv_goto (tgt := 35) hx hb dX9_put_20 (by decide) ?_
    refine lv_topi (fun x9 ex9 => ?_)
    specialize h x9 ex9
    obtain ⟨hi, h⟩ := h
    refine va_iast hx hb hK.1 hP hD hS 1 0 rfl rfl hi dX9_put_35 (fun H locs hP hD hS => ?_)
    obtain ⟨f10, ef10⟩ : ∃ z9 : Nat → Int32, z9 = upd jJ (p1 : Int32).toNatClampNeg x9 := ⟨_, rfl⟩
    specialize h f10 ef10
    have hP : va_P G vwCl [(m0, .inr (8, [.int kn, .ref mJ, .int kFe, .int kMo, .int kCo, .long kT, .ref mF, .ref mD, .ref mS, .ref mP])), (mJ, .inl (cy 0, 9, .inl f10))] H := by rw [ef10]; exact hP
    have hD : va_D A [(m0, .inr (8, [.int kn, .ref mJ, .int kFe, .int kMo, .int kCo, .long kT, .ref mF, .ref mD, .ref mS, .ref mP])), (mJ, .inl (cy 0, 9, .inl f10))] := D_same hD rfl
    refine lv_aload_n hx hb dX9_put_36 rfl (lv_at hl 0 rfl) ?_
    refine va_get (D := G) (ci := 8) (v := .ref mJ) (C := RX9) (T := TX9) (N := 10) hx hb hts iwX9 hown hK.1 hP 0 rfl rfl 1 (by decide) fl13 (fun _ h9 => h9) rfl dX9_put_37 ?_
    refine lv_iload_n hx hb dX9_put_40 rfl (lv_at hl 2 rfl) ?_
    refine lv_iload_n hx hb dX9_put_41 rfl (lv_at hl 3 rfl) ?_
    refine lv_iconst (v := 1) hx hb dX9_put_42 (by decide) ?_
    refine lv_icmp_ne (tgt := 59) hx hb dX9_put_43 (by decide) (fun c11 => ?_) (fun c11 => ?_)
    · obtain ⟨-, h⟩ := h
      specialize h c11
      refine lv_aload_n hx hb dX9_put_59 rfl (lv_at hl 0 rfl) ?_
      refine va_get (D := G) (ci := 8) (v := .ref mJ) (C := RX9) (T := TX9) (N := 10) hx hb hts iwX9 hown hK.1 hP 0 rfl rfl 1 (by decide) fl13 (fun _ h9 => h9) rfl dX9_put_60 ?_
      refine lv_iload_n hx hb dX9_put_63 rfl (lv_at hl 2 rfl) ?_
      obtain ⟨hi, h⟩ := h
      refine va_iald hx hb hK.1 hP 1 0 rfl rfl hi dX9_put_64 ?_
      refine lv_iconst (v := 1) hx hb dX9_put_65 (by decide) ?_
      refine lv_iload_n hx hb dX9_put_66 rfl (lv_at hl 1 rfl) ?_
      refine lv_ishl hx hb dX9_put_67 ?_
      refine lv_iconst (v := (-1)) hx hb dX9_put_68 (by decide) ?_
      refine lv_ixor hx hb dX9_put_69 ?_
      refine lv_iand hx hb dX9_put_70 ?_
      refine lv_topi (fun x12 ex12 => ?_)
      specialize h x12 ex12
      obtain ⟨hi, h⟩ := h
      refine va_iast hx hb hK.1 hP hD hS 1 0 rfl rfl hi dX9_put_71 (fun H locs hP hD hS => ?_)
      obtain ⟨f13, ef13⟩ : ∃ z9 : Nat → Int32, z9 = upd f10 (p2 : Int32).toNatClampNeg x12 := ⟨_, rfl⟩
      specialize h f13 ef13
      have hP : va_P G vwCl [(m0, .inr (8, [.int kn, .ref mJ, .int kFe, .int kMo, .int kCo, .long kT, .ref mF, .ref mD, .ref mS, .ref mP])), (mJ, .inl (cy 0, 9, .inl f13))] H := by rw [ef13]; exact hP
      have hD : va_D A [(m0, .inr (8, [.int kn, .ref mJ, .int kFe, .int kMo, .int kCo, .long kT, .ref mF, .ref mD, .ref mS, .ref mP])), (mJ, .inl (cy 0, 9, .inl f13))] := D_same hD rfl
      rw [← hQe]
      exact W.vret hx hb hr (fun t ht hW => ⟨⟨f13, rfl, h, by dsimp only; rw [ht]; exact hP⟩, hS.F ht⟩) hS.2.2 dX9_put_72
    · obtain ⟨h, -⟩ := h
      specialize h c11
      refine lv_aload_n hx hb dX9_put_46 rfl (lv_at hl 0 rfl) ?_
      refine va_get (D := G) (ci := 8) (v := .ref mJ) (C := RX9) (T := TX9) (N := 10) hx hb hts iwX9 hown hK.1 hP 0 rfl rfl 1 (by decide) fl13 (fun _ h9 => h9) rfl dX9_put_47 ?_
      refine lv_iload_n hx hb dX9_put_50 rfl (lv_at hl 2 rfl) ?_
      obtain ⟨hi, h⟩ := h
      refine va_iald hx hb hK.1 hP 1 0 rfl rfl hi dX9_put_51 ?_
      refine lv_iconst (v := 1) hx hb dX9_put_52 (by decide) ?_
      refine lv_iload_n hx hb dX9_put_53 rfl (lv_at hl 1 rfl) ?_
      refine lv_ishl hx hb dX9_put_54 ?_
      refine lv_ior hx hb dX9_put_55 ?_
      refine lv_goto (tgt := 71) hx hb dX9_put_56 (by decide) ?_
      refine lv_topi (fun x14 ex14 => ?_)
      specialize h x14 ex14
      obtain ⟨hi, h⟩ := h
      refine va_iast hx hb hK.1 hP hD hS 1 0 rfl rfl hi dX9_put_71 (fun H locs hP hD hS => ?_)
      obtain ⟨f15, ef15⟩ : ∃ z9 : Nat → Int32, z9 = upd f10 (p2 : Int32).toNatClampNeg x14 := ⟨_, rfl⟩
      specialize h f15 ef15
      have hP : va_P G vwCl [(m0, .inr (8, [.int kn, .ref mJ, .int kFe, .int kMo, .int kCo, .long kT, .ref mF, .ref mD, .ref mS, .ref mP])), (mJ, .inl (cy 0, 9, .inl f15))] H := by rw [ef15]; exact hP
      have hD : va_D A [(m0, .inr (8, [.int kn, .ref mJ, .int kFe, .int kMo, .int kCo, .long kT, .ref mF, .ref mD, .ref mS, .ref mP])), (mJ, .inl (cy 0, 9, .inl f15))] := D_same hD rfl
      rw [← hQe]
      exact W.vret hx hb hr (fun t ht hW => ⟨⟨f15, rfl, h, by dsimp only; rw [ht]; exact hP⟩, hS.F ht⟩) hS.2.2 dX9_put_72

set_option maxHeartbeats 4000000 in
set_option maxRecDepth 100000 in
theorem ct_X9_join (l : Launch) (G : va_G) (cy : Nat → ClassId) (m0 mJ mF mD mS mP : Nat) (sz : Nat) (kn : Int32) (kFe : Int32) (kMo : Int32) (kCo : Int32) (kT : Int64) (jJ : Nat → Int32) (p1 : Int32) (p2 : Int32) (p3 : Int32) (Q : Int32 → (Nat → Int32) → Prop) (h : wp_X9_join kn jJ p1 p2 p3 Q) : Met l yX9_join wsX9_join rmX9_join (va_Pc [.ref m0, .int p1, .int p2, .int p3] (wP G cy sz [(m0, .inr (8, [.int kn, .ref mJ, .int kFe, .int kMo, .int kCo, .long kT, .ref mF, .ref mD, .ref mS, .ref mP])), (mJ, .inl (cy 0, 9, .inl jJ))])) (va_Qi (fun (r : Int32) (u : (Nat → Int32)) => Q r u) (fun (u : (Nat → Int32)) (t : State) => va_P G vwCl [(m0, .inr (8, [.int kn, .ref mJ, .int kFe, .int kMo, .int kCo, .long kT, .ref mF, .ref mD, .ref mS, .ref mP])), (mJ, .inl (cy 0, 9, .inl u))] t.heap) (va_A [(m0, .inr (8, [.int kn, .ref mJ, .int kFe, .int kMo, .int kCo, .long kT, .ref mF, .ref mD, .ref mS, .ref mP])), (mJ, .inl (cy 0, 9, .inl jJ))] sz)) 0 0 (va_A [(m0, .inr (8, [.int kn, .ref mJ, .int kFe, .int kMo, .int kCo, .long kT, .ref mF, .ref mD, .ref mS, .ref mP])), (mJ, .inl (cy 0, 9, .inl jJ))] sz) := by
  unfold wp_X9_join at h
  refine Met.ofW (cc := cX9_join) (maxL := 5) (ret := (some .int)) (by decide) rfl ?_
  intro p e s m args below meth c s₁ B hml hv
  obtain ⟨hav, hsz, hP, hK, hD0⟩ := hv
  have hx := B.exec
  have hb := B.bytes
  have hr := B.returns
  have hts := atoms_spec (ws := wsX9_join) B.pre
  have hown : s.vm.findClass RX9 = some m.cls := findClass_of_methodNamed B.named
  have hlocks := B.notSynchronized
  subst hsz
  have hD := hD0.self (sz := s.heap.size)
  generalize hAe : va_A [(m0, .inr (8, [.int kn, .ref mJ, .int kFe, .int kMo, .int kCo, .long kT, .ref mF, .ref mD, .ref mS, .ref mP])), (mJ, .inl (cy 0, 9, .inl jJ))] s.heap.size = A at hD ⊢
  have hA : ∀ q : Nat, s.heap.size ≤ q → A q := fun q h9 => by rw [← hAe]; exact Or.inr h9
  have hS : va_S A s.heap s.heap [] := va_S.rf
  have hl := lv_entry ([.ref m0, .int p1, .int p2, .int p3]) (n := 5) (Nat.le_of_ble_eq_true rfl)
  rw [show entryFrame m args 5 = entryFrame m ([.ref m0, .int p1, .int p2, .int p3] : List Value).toArray 5 by rw [hav], lg_entry_eq]
  generalize (lg_sl ([.ref m0, .int p1, .int p2, .int p3]) ++ List.replicate (5 - (lg_sl ([.ref m0, .int p1, .int p2, .int p3])).length) Slot.unset).toArray = ls at hl ⊢
  have hl : lv_has ls 5 [(0, .ref m0), (1, .int p1), (2, .int p2), (3, .int p3)] := hl
  generalize hQe : MQ below _ _ _ _ _ _ = QM
  have hP : va_P G vwCl [(m0, .inr (8, [.int kn, .ref mJ, .int kFe, .int kMo, .int kCo, .long kT, .ref mF, .ref mD, .ref mS, .ref mP])), (mJ, .inl (cy 0, 9, .inl jJ))] s.heap := hP
  have iwX9 : ∀ w ∈ wsX90, w ∈ wsX9_join := by decide +kernel
  have fl13 := hts (.fieldLink RX9 13 "SlidTokensModel" "joined" "[I") (by decide +kernel)
  suffices K9 : ∀ (H : Heap) (locs : List Loc), va_P G vwCl [(m0, .inr (8, [.int kn, .ref mJ, .int kFe, .int kMo, .int kCo, .long kT, .ref mF, .ref mD, .ref mS, .ref mP])), (mJ, .inl (cy 0, 9, .inl jJ))] H → va_D A [(m0, .inr (8, [.int kn, .ref mJ, .int kFe, .int kMo, .int kCo, .long kT, .ref mF, .ref mD, .ref mS, .ref mP])), (mJ, .inl (cy 0, 9, .inl jJ))] → va_S A s.heap H locs → W p l e (headSpec wsX9_join rmX9_join).room s m args below meth c H locs 0 0 QM (F0 m 0 ls []) from K9 _ _ hP hD hS
  clear hP hD hS
  intro H locs hP hD hS
  refine lv_aload_n hx hb dX9_join_0 rfl (lv_at hl 0 rfl) ?_
  refine lv_iload_n hx hb dX9_join_1 rfl (lv_at hl 1 rfl) ?_
  obtain ⟨Q1, hw9, h⟩ := h
  have hPc : va_P G vwCl [(m0, .inr (8, [.int kn, .ref mJ, .int kFe, .int kMo, .int kCo, .long kT, .ref mF, .ref mD, .ref mS, .ref mP])), (mJ, .inl (cy 0, 9, .inl jJ))] H := hP.sub [0, 1] rfl
  refine vp_callSi (va_Run.run (va_runV (As := [.int p1]) (rest := []) ⟨hx, hb, hml, hown, hts⟩ (ct_X9_isNode l G cy m0 mJ mF mD mS mP kn kFe kMo kCo kT jJ p1 Q1 hw9) (cwV 1 hts gX9_join_X9_isNode rfl rfl rfl (by decide +kernel) ⟨Nat.le_of_ble_eq_true rfl, Nat.le_of_ble_eq_true rfl⟩) (rP_V hK hP (ci := 8) (q0 := 0) rfl rfl hPc) rfl rfl hl.1 rfl (lv_room (Nat.le_of_ble_eq_true rfl)) dX9_join_2 ⟨Nat.le_of_ble_eq_true rfl, Nat.le_of_ble_eq_true rfl⟩)) (fun r2 er2 => ?_)
  specialize h r2 er2
  refine lv_if_eq (tgt := 30) hx hb dX9_join_5 (by decide) (fun c3 => ?_) (fun c3 => ?_)
  · obtain ⟨h, -⟩ := h
    specialize h c3
    refine lv_iconst (v := (-1)) hx hb dX9_join_30 (by decide) ?_
    rw [← hQe]
    exact W.iret (v := (-1)) hx hb hr (fun t ht hW => ⟨⟨(-1), jJ, rfl, h, by dsimp only; rw [ht]; exact hP⟩, hS.F ht⟩) hS.2.2 dX9_join_31
  · obtain ⟨-, h⟩ := h
    specialize h c3
    refine lv_aload_n hx hb dX9_join_8 rfl (lv_at hl 0 rfl) ?_
    refine lv_iload_n hx hb dX9_join_9 rfl (lv_at hl 2 rfl) ?_
    obtain ⟨Q4, hw9, h⟩ := h
    have hPc : va_P G vwCl [(m0, .inr (8, [.int kn, .ref mJ, .int kFe, .int kMo, .int kCo, .long kT, .ref mF, .ref mD, .ref mS, .ref mP])), (mJ, .inl (cy 0, 9, .inl jJ))] H := hP.sub [0, 1] rfl
    refine vp_callSi (va_Run.run (va_runV (As := [.int p2]) (rest := []) ⟨hx, hb, hml, hown, hts⟩ (ct_X9_isNode l G cy m0 mJ mF mD mS mP kn kFe kMo kCo kT jJ p2 Q4 hw9) (cwV 1 hts gX9_join_X9_isNode rfl rfl rfl (by decide +kernel) ⟨Nat.le_of_ble_eq_true rfl, Nat.le_of_ble_eq_true rfl⟩) (rP_V hK hP (ci := 8) (q0 := 0) rfl rfl hPc) rfl rfl hl.1 rfl (lv_room (Nat.le_of_ble_eq_true rfl)) dX9_join_10 ⟨Nat.le_of_ble_eq_true rfl, Nat.le_of_ble_eq_true rfl⟩)) (fun r5 er5 => ?_)
    specialize h r5 er5
    refine lv_if_eq (tgt := 30) hx hb dX9_join_13 (by decide) (fun c6 => ?_) (fun c6 => ?_)
    · obtain ⟨h, -⟩ := h
      specialize h c6
      refine lv_iconst (v := (-1)) hx hb dX9_join_30 (by decide) ?_
      rw [← hQe]
      exact W.iret (v := (-1)) hx hb hr (fun t ht hW => ⟨⟨(-1), jJ, rfl, h, by dsimp only; rw [ht]; exact hP⟩, hS.F ht⟩) hS.2.2 dX9_join_31
    · obtain ⟨-, h⟩ := h
      specialize h c6
      refine lv_iload_n hx hb dX9_join_16 rfl (lv_at hl 1 rfl) ?_
      refine lv_iload_n hx hb dX9_join_17 rfl (lv_at hl 2 rfl) ?_
      refine lv_icmp_eq (tgt := 30) hx hb dX9_join_18 (by decide) (fun c7 => ?_) (fun c7 => ?_)
      · obtain ⟨h, -⟩ := h
        specialize h c7
        refine lv_iconst (v := (-1)) hx hb dX9_join_30 (by decide) ?_
        rw [← hQe]
        exact W.iret (v := (-1)) hx hb hr (fun t ht hW => ⟨⟨(-1), jJ, rfl, h, by dsimp only; rw [ht]; exact hP⟩, hS.F ht⟩) hS.2.2 dX9_join_31
      · obtain ⟨-, h⟩ := h
        specialize h c7
        refine lv_iload_n hx hb dX9_join_21 rfl (lv_at hl 3 rfl) ?_
        refine lv_iconst (v := 0) hx hb dX9_join_22 (by decide) ?_
        refine lv_iconst (v := 1) hx hb dX9_join_23 (by decide) ?_
        obtain ⟨Q8, hw9, h⟩ := h
        have hPc : va_P G vwCl [] H := P_nil
        refine vp_callSi (va_Run.run (va_runS (As := [.int p3, .int 0, .int 1]) (rest := []) ⟨hx, hb, hml, hown, hts⟩ (ct_X9_in l G cy p3 0 1 Q8 hw9) (va_cwS 3 hts gX9_join_X9_in rfl rfl rfl (by decide +kernel) ⟨Nat.le_of_ble_eq_true rfl, Nat.le_of_ble_eq_true rfl⟩) (rP_S hK hPc) rfl rfl hl.1 rfl (lv_room (Nat.le_of_ble_eq_true rfl)) dX9_join_24 ⟨Nat.le_of_ble_eq_true rfl, Nat.le_of_ble_eq_true rfl⟩)) (fun r9 er9 => ?_)
        specialize h r9 er9
        refine lv_if_ne (tgt := 32) hx hb dX9_join_27 (by decide) (fun c10 => ?_) (fun c10 => ?_)
        · obtain ⟨-, h⟩ := h
          specialize h c10
          refine lv_aload_n hx hb dX9_join_32 rfl (lv_at hl 0 rfl) ?_
          refine va_get (D := G) (ci := 8) (v := .ref mJ) (C := RX9) (T := TX9) (N := 10) hx hb hts iwX9 hown hK.1 hP 0 rfl rfl 1 (by decide) fl13 (fun _ h9 => h9) rfl dX9_join_33 ?_
          refine lv_iload_n hx hb dX9_join_36 rfl (lv_at hl 1 rfl) ?_
          obtain ⟨hi, h⟩ := h
          refine va_iald hx hb hK.1 hP 1 0 rfl rfl hi dX9_join_37 ?_
          refine lv_iload_n hx hb dX9_join_38 rfl (lv_at hl 2 rfl) ?_
          refine lv_ishr hx hb dX9_join_39 ?_
          refine lv_iconst (v := 1) hx hb dX9_join_40 (by decide) ?_
          refine lv_iand hx hb dX9_join_41 ?_
          refine lv_topi (fun x11 ex11 => ?_)
          specialize h x11 ex11
          refine lv_istore (lv' := [(4, .int x11), (0, .ref m0), (1, .int p1), (2, .int p2), (3, .int p3)]) hx hb dX9_join_42 hl (by decide) rfl (fun ls hl => ?_)
          refine lv_aload_n hx hb dX9_join_44 rfl (lv_at hl 1 rfl) ?_
          refine lv_iload_n hx hb dX9_join_45 rfl (lv_at hl 2 rfl) ?_
          refine lv_iload_n hx hb dX9_join_46 rfl (lv_at hl 3 rfl) ?_
          refine lv_iload_n hx hb dX9_join_47 rfl (lv_at hl 4 rfl) ?_
          obtain ⟨Q12, hw9, h⟩ := h
          have hPc : va_P G vwCl [(m0, .inr (8, [.int kn, .ref mJ, .int kFe, .int kMo, .int kCo, .long kT, .ref mF, .ref mD, .ref mS, .ref mP])), (mJ, .inl (cy 0, 9, .inl jJ))] H := hP.sub [0, 1] rfl
          have hDc : va_D A [(m0, .inr (8, [.int kn, .ref mJ, .int kFe, .int kMo, .int kCo, .long kT, .ref mF, .ref mD, .ref mS, .ref mP])), (mJ, .inl (cy 0, 9, .inl jJ))] := hD.sub [0, 1] (by decide) rfl
          have hFc := va_free (wc := [(m0, .inr (8, [.int kn, .ref mJ, .int kFe, .int kMo, .int kCo, .long kT, .ref mF, .ref mD, .ref mS, .ref mP])), (mJ, .inl (cy 0, 9, .inl jJ))]) hD hS hA [0, 1] rfl
          refine va_callv (va_runV (As := [.int p1, .int p2, .int p3]) (rest := []) ⟨hx, hb, hml, hown, hts⟩ (ct_X9_put l G cy m0 mJ mF mD mS mP H.size kn kFe kMo kCo kT jJ p1 p2 p3 Q12 hw9) (cwV 3 hts gX9_join_X9_put rfl rfl rfl (by decide +kernel) ⟨Nat.le_of_ble_eq_true rfl, Nat.le_of_ble_eq_true rfl⟩) (wP_V hK hP (ci := 8) (q0 := 0) rfl rfl hPc hDc) rfl rfl hl.1 rfl (lv_room (Nat.le_of_ble_eq_true rfl)) dX9_join_48 ⟨Nat.le_of_ble_eq_true rfl, Nat.le_of_ble_eq_true rfl⟩) hS (fun q9 _ h9 => hFc q9 h9) hFc (fun u9 t9 H locs ht9 hvm9 hw9 hB9 hz9 hk9 hS => ?_)
          obtain ⟨f14, rfl⟩ : ∃ z9, z9 = u9 := ⟨_, rfl⟩
          have hP : va_P G vwCl [(m0, .inr (8, [.int kn, .ref mJ, .int kFe, .int kMo, .int kCo, .long kT, .ref mF, .ref mD, .ref mS, .ref mP])), (mJ, .inl (cy 0, 9, .inl f14))] H := P_back [0, 1] [] 2 hP hD rfl rfl rfl rfl (by decide) (by decide) hk9 (by rw [← ht9]; exact hB9)
          have hD : va_D A [(m0, .inr (8, [.int kn, .ref mJ, .int kFe, .int kMo, .int kCo, .long kT, .ref mF, .ref mD, .ref mS, .ref mP])), (mJ, .inl (cy 0, 9, .inl f14))] := D_same hD rfl
          specialize h f14 hw9
          refine lv_iload hx hb dX9_join_51 (lv_at hl 0 rfl) ?_
          rw [← hQe]
          exact W.iret (v := x11) hx hb hr (fun t ht hW => ⟨⟨x11, f14, rfl, h, by dsimp only; rw [ht]; exact hP⟩, hS.F ht⟩) hS.2.2 dX9_join_53
        · obtain ⟨h, -⟩ := h
          specialize h c10
          refine lv_iconst (v := (-1)) hx hb dX9_join_30 (by decide) ?_
          rw [← hQe]
          exact W.iret (v := (-1)) hx hb hr (fun t ht hW => ⟨⟨(-1), jJ, rfl, h, by dsimp only; rw [ht]; exact hP⟩, hS.F ht⟩) hS.2.2 dX9_join_31

set_option maxHeartbeats 4000000 in
set_option maxRecDepth 100000 in
theorem ct_X9_shape (l : Launch) (G : va_G) (cy : Nat → ClassId) (m0 mJ mF mD mS mP : Nat) (sz : Nat) (kn : Int32) (kFe : Int32) (kMo : Int32) (kCo : Int32) (kT : Int64) (jJ : Nat → Int32) (p1 : Int32) (Q : Int32 → (Nat → Int32) → Prop) (h : wp_X9_shape kn jJ p1 Q) : Met l yX9_shape wsX9_shape rmX9_shape (va_Pc [.ref m0, .int p1] (wP G cy sz [(m0, .inr (8, [.int kn, .ref mJ, .int kFe, .int kMo, .int kCo, .long kT, .ref mF, .ref mD, .ref mS, .ref mP])), (mJ, .inl (cy 0, 9, .inl jJ))])) (va_Qi (fun (r : Int32) (u : (Nat → Int32)) => Q r u) (fun (u : (Nat → Int32)) (t : State) => va_P G vwCl [(m0, .inr (8, [.int kn, .ref mJ, .int kFe, .int kMo, .int kCo, .long kT, .ref mF, .ref mD, .ref mS, .ref mP])), (mJ, .inl (cy 0, 9, .inl u))] t.heap) (va_A [(m0, .inr (8, [.int kn, .ref mJ, .int kFe, .int kMo, .int kCo, .long kT, .ref mF, .ref mD, .ref mS, .ref mP])), (mJ, .inl (cy 0, 9, .inl jJ))] sz)) 0 0 (va_A [(m0, .inr (8, [.int kn, .ref mJ, .int kFe, .int kMo, .int kCo, .long kT, .ref mF, .ref mD, .ref mS, .ref mP])), (mJ, .inl (cy 0, 9, .inl jJ))] sz) := by
  unfold wp_X9_shape at h
  refine Met.ofW (cc := cX9_shape) (maxL := 5) (ret := (some .int)) (by decide) rfl ?_
  intro p e s m args below meth c s₁ B hml hv
  obtain ⟨hav, hsz, hP, hK, hD0⟩ := hv
  have hx := B.exec
  have hb := B.bytes
  have hr := B.returns
  have hts := atoms_spec (ws := wsX9_shape) B.pre
  have hown : s.vm.findClass RX9 = some m.cls := findClass_of_methodNamed B.named
  have hlocks := B.notSynchronized
  subst hsz
  have hD := hD0.self (sz := s.heap.size)
  generalize hAe : va_A [(m0, .inr (8, [.int kn, .ref mJ, .int kFe, .int kMo, .int kCo, .long kT, .ref mF, .ref mD, .ref mS, .ref mP])), (mJ, .inl (cy 0, 9, .inl jJ))] s.heap.size = A at hD ⊢
  have hA : ∀ q : Nat, s.heap.size ≤ q → A q := fun q h9 => by rw [← hAe]; exact Or.inr h9
  have hS : va_S A s.heap s.heap [] := va_S.rf
  have hl := lv_entry ([.ref m0, .int p1]) (n := 5) (Nat.le_of_ble_eq_true rfl)
  rw [show entryFrame m args 5 = entryFrame m ([.ref m0, .int p1] : List Value).toArray 5 by rw [hav], lg_entry_eq]
  generalize (lg_sl ([.ref m0, .int p1]) ++ List.replicate (5 - (lg_sl ([.ref m0, .int p1])).length) Slot.unset).toArray = ls at hl ⊢
  have hl : lv_has ls 5 [(0, .ref m0), (1, .int p1)] := hl
  generalize hQe : MQ below _ _ _ _ _ _ = QM
  have hP : va_P G vwCl [(m0, .inr (8, [.int kn, .ref mJ, .int kFe, .int kMo, .int kCo, .long kT, .ref mF, .ref mD, .ref mS, .ref mP])), (mJ, .inl (cy 0, 9, .inl jJ))] s.heap := hP
  have iwX9 : ∀ w ∈ wsX90, w ∈ wsX9_shape := by decide +kernel
  have fl7 := hts (.fieldLink RX9 7 "SlidTokensModel" "n" "I") (by decide +kernel)
  suffices K9 : ∀ (H : Heap) (locs : List Loc), va_P G vwCl [(m0, .inr (8, [.int kn, .ref mJ, .int kFe, .int kMo, .int kCo, .long kT, .ref mF, .ref mD, .ref mS, .ref mP])), (mJ, .inl (cy 0, 9, .inl jJ))] H → va_D A [(m0, .inr (8, [.int kn, .ref mJ, .int kFe, .int kMo, .int kCo, .long kT, .ref mF, .ref mD, .ref mS, .ref mP])), (mJ, .inl (cy 0, 9, .inl jJ))] → va_S A s.heap H locs → W p l e (headSpec wsX9_shape rmX9_shape).room s m args below meth c H locs 0 0 QM (F0 m 0 ls []) from K9 _ _ hP hD hS
  clear hP hD hS
  intro H locs hP hD hS
  refine lv_iload_n hx hb dX9_shape_0 rfl (lv_at hl 1 rfl) ?_
  refine lv_iconst (v := 0) hx hb dX9_shape_1 (by decide) ?_
  refine lv_iconst (v := 3) hx hb dX9_shape_2 (by decide) ?_
  obtain ⟨Q1, hw9, h⟩ := h
  have hPc : va_P G vwCl [] H := P_nil
  refine vp_callSi (va_Run.run (va_runS (As := [.int p1, .int 0, .int 3]) (rest := []) ⟨hx, hb, hml, hown, hts⟩ (ct_X9_in l G cy p1 0 3 Q1 hw9) (va_cwS 3 hts gX9_shape_X9_in rfl rfl rfl (by decide +kernel) ⟨Nat.le_of_ble_eq_true rfl, Nat.le_of_ble_eq_true rfl⟩) (rP_S hK hPc) rfl rfl hl.1 rfl (lv_room (Nat.le_of_ble_eq_true rfl)) dX9_shape_3 ⟨Nat.le_of_ble_eq_true rfl, Nat.le_of_ble_eq_true rfl⟩)) (fun r2 er2 => ?_)
  specialize h r2 er2
  refine lv_if_ne (tgt := 11) hx hb dX9_shape_6 (by decide) (fun c3 => ?_) (fun c3 => ?_)
  · obtain ⟨-, h⟩ := h
    specialize h c3
    refine lv_aload_n hx hb dX9_shape_11 rfl (lv_at hl 0 rfl) ?_
    obtain ⟨Q4, hw9, h⟩ := h
    have hPc : va_P G vwCl [(m0, .inr (8, [.int kn, .ref mJ, .int kFe, .int kMo, .int kCo, .long kT, .ref mF, .ref mD, .ref mS, .ref mP])), (mJ, .inl (cy 0, 9, .inl jJ))] H := hP.sub [0, 1] rfl
    have hDc : va_D A [(m0, .inr (8, [.int kn, .ref mJ, .int kFe, .int kMo, .int kCo, .long kT, .ref mF, .ref mD, .ref mS, .ref mP])), (mJ, .inl (cy 0, 9, .inl jJ))] := hD.sub [0, 1] (by decide) rfl
    have hFc := va_free (wc := [(m0, .inr (8, [.int kn, .ref mJ, .int kFe, .int kMo, .int kCo, .long kT, .ref mF, .ref mD, .ref mS, .ref mP])), (mJ, .inl (cy 0, 9, .inl jJ))]) hD hS hA [0, 1] rfl
    refine va_callv (va_runV (As := []) (rest := []) ⟨hx, hb, hml, hown, hts⟩ (ct_X9_part l G cy m0 mJ mF mD mS mP H.size kn kFe kMo kCo kT jJ Q4 hw9) (cwV 0 hts gX9_shape_X9_part rfl rfl rfl (by decide +kernel) ⟨Nat.le_of_ble_eq_true rfl, Nat.le_of_ble_eq_true rfl⟩) (wP_V hK hP (ci := 8) (q0 := 0) rfl rfl hPc hDc) rfl rfl hl.1 rfl (lv_room (Nat.le_of_ble_eq_true rfl)) dX9_shape_12 ⟨Nat.le_of_ble_eq_true rfl, Nat.le_of_ble_eq_true rfl⟩) hS (fun q9 _ h9 => hFc q9 h9) hFc (fun u9 t9 H locs ht9 hvm9 hw9 hB9 hz9 hk9 hS => ?_)
    obtain ⟨f6, rfl⟩ : ∃ z9, z9 = u9 := ⟨_, rfl⟩
    have hP : va_P G vwCl [(m0, .inr (8, [.int kn, .ref mJ, .int kFe, .int kMo, .int kCo, .long kT, .ref mF, .ref mD, .ref mS, .ref mP])), (mJ, .inl (cy 0, 9, .inl f6))] H := P_back [0, 1] [] 2 hP hD rfl rfl rfl rfl (by decide) (by decide) hk9 (by rw [← ht9]; exact hB9)
    have hD : va_D A [(m0, .inr (8, [.int kn, .ref mJ, .int kFe, .int kMo, .int kCo, .long kT, .ref mF, .ref mD, .ref mS, .ref mP])), (mJ, .inl (cy 0, 9, .inl f6))] := D_same hD rfl
    specialize h f6 hw9
    refine lv_iconst (v := 0) hx hb dX9_shape_15 (by decide) ?_
    refine lv_istore_n (lv' := [(2, .int 0), (0, .ref m0), (1, .int p1)]) hx hb dX9_shape_16 rfl hl (by decide) rfl (fun ls hl => ?_)
    obtain ⟨I17_8, u17_8, h017, hst17⟩ := h
    have key17 : ∀ (k9 : Nat) (y7 : Int32) (f8 : Nat → Int32), I17_8 y7 f8 → u17_8 y7 f8 < k9 → ∀ (H : Heap) (locs : List Loc), va_P G vwCl [(m0, .inr (8, [.int kn, .ref mJ, .int kFe, .int kMo, .int kCo, .long kT, .ref mF, .ref mD, .ref mS, .ref mP])), (mJ, .inl (cy 0, 9, .inl f8))] H → va_D A [(m0, .inr (8, [.int kn, .ref mJ, .int kFe, .int kMo, .int kCo, .long kT, .ref mF, .ref mD, .ref mS, .ref mP])), (mJ, .inl (cy 0, 9, .inl f8))] → va_S A s.heap H locs → ∀ (ls : Array Slot), lv_has ls 5 [(0, .ref m0), (1, .int p1), (2, .int y7)] → W p l e (headSpec wsX9_shape rmX9_shape).room s m args below meth c H locs 0 0 QM (F0 m 17 ls []) := by
      intro k9
      induction k9 with
      | zero =>
        intro y7 f8 hI9 hk9
        exact absurd hk9 (Nat.not_lt_zero _)
      | succ k9 ih17 =>
        intro y7 f8 hI9 hk17 H locs hP hD hS ls hl
        have h := hst17 y7 f8 hI9
        refine lv_iload_n hx hb dX9_shape_17 rfl (lv_at hl 2 rfl) ?_
        refine lv_aload_n hx hb dX9_shape_18 rfl (lv_at hl 0 rfl) ?_
        refine va_get (D := G) (ci := 8) (v := .int kn) (C := RX9) (T := TX9) (N := 10) hx hb hts iwX9 hown hK.1 hP 0 rfl rfl 0 (by decide) fl7 (fun _ h9 => h9) rfl dX9_shape_19 ?_
        refine lv_icmp_ge (tgt := 114) hx hb dX9_shape_22 (by decide) (fun c9 => ?_) (fun c9 => ?_)
        · obtain ⟨h, -⟩ := h
          specialize h c9
          refine lv_aload_n hx hb dX9_shape_114 rfl (lv_at hl 0 rfl) ?_
          obtain ⟨Q10, hw9, h⟩ := h
          have hPc : va_P G vwCl [(m0, .inr (8, [.int kn, .ref mJ, .int kFe, .int kMo, .int kCo, .long kT, .ref mF, .ref mD, .ref mS, .ref mP])), (mJ, .inl (cy 0, 9, .inl f8))] H := hP.sub [0, 1] rfl
          refine vp_callSi (va_Run.run (va_runV (As := []) (rest := []) ⟨hx, hb, hml, hown, hts⟩ (ct_X9_pairs l G cy m0 mJ mF mD mS mP kn kFe kMo kCo kT f8 Q10 hw9) (cwV 0 hts gX9_shape_X9_pairs rfl rfl rfl (by decide +kernel) ⟨Nat.le_of_ble_eq_true rfl, Nat.le_of_ble_eq_true rfl⟩) (rP_V hK hP (ci := 8) (q0 := 0) rfl rfl hPc) rfl rfl hl.1 rfl (lv_room (Nat.le_of_ble_eq_true rfl)) dX9_shape_115 ⟨Nat.le_of_ble_eq_true rfl, Nat.le_of_ble_eq_true rfl⟩)) (fun r11 er11 => ?_)
          specialize h r11 er11
          rw [← hQe]
          exact W.iret (v := r11) hx hb hr (fun t ht hW => ⟨⟨r11, f8, rfl, h, by dsimp only; rw [ht]; exact hP⟩, hS.F ht⟩) hS.2.2 dX9_shape_118
        · obtain ⟨-, h⟩ := h
          specialize h c9
          refine lv_iconst (v := 0) hx hb dX9_shape_25 (by decide) ?_
          refine lv_istore_n (lv' := [(3, .int 0), (0, .ref m0), (1, .int p1), (2, .int y7)]) hx hb dX9_shape_26 rfl hl (by decide) rfl (fun ls hl => ?_)
          obtain ⟨I27_13, u27_13, h027, hst27⟩ := h
          have key27 : ∀ (k9 : Nat) (y12 : Int32) (f13 : Nat → Int32), I27_13 y12 f13 → u27_13 y12 f13 < k9 → ∀ (H : Heap) (locs : List Loc), va_P G vwCl [(m0, .inr (8, [.int kn, .ref mJ, .int kFe, .int kMo, .int kCo, .long kT, .ref mF, .ref mD, .ref mS, .ref mP])), (mJ, .inl (cy 0, 9, .inl f13))] H → va_D A [(m0, .inr (8, [.int kn, .ref mJ, .int kFe, .int kMo, .int kCo, .long kT, .ref mF, .ref mD, .ref mS, .ref mP])), (mJ, .inl (cy 0, 9, .inl f13))] → va_S A s.heap H locs → ∀ (ls : Array Slot), lv_has ls 5 [(0, .ref m0), (1, .int p1), (2, .int y7), (3, .int y12)] → W p l e (headSpec wsX9_shape rmX9_shape).room s m args below meth c H locs 0 0 QM (F0 m 27 ls []) := by
            intro k9
            induction k9 with
            | zero =>
              intro y12 f13 hI9 hk9
              exact absurd hk9 (Nat.not_lt_zero _)
            | succ k9 ih27 =>
              intro y12 f13 hI9 hk27 H locs hP hD hS ls hl
              have h := hst27 y12 f13 hI9
              refine lv_iload_n hx hb dX9_shape_27 rfl (lv_at hl 3 rfl) ?_
              refine lv_iload_n hx hb dX9_shape_28 rfl (lv_at hl 2 rfl) ?_
              refine lv_icmp_ge (tgt := 108) hx hb dX9_shape_29 (by decide) (fun c14 => ?_) (fun c14 => ?_)
              · obtain ⟨h, -⟩ := h
                specialize h c14
                obtain ⟨x15, ex15⟩ : ∃ y : Int32, y = y7 + 1 := ⟨_, rfl⟩
                specialize h x15 ex15
                refine lv_iinc (v := x15) (lv' := [(2, .int x15), (0, .ref m0), (1, .int p1), (3, .int y12)]) hx hb dX9_shape_108 hl (k := 2) rfl (by rw [ex15]; rfl) (by decide) rfl (fun ls hl => ?_)
                refine lv_goto (tgt := 17) hx hb dX9_shape_111 (by decide) ?_
                exact ih17 x15 f13 h.1 (Nat.lt_of_lt_of_le h.2 (Nat.le_of_lt_succ hk17)) _ _ hP hD hS _ (lv_sub hl [1, 2, 0] rfl)
              · obtain ⟨-, h⟩ := h
                specialize h c14
                refine lv_iload_n hx hb dX9_shape_32 rfl (lv_at hl 3 rfl) ?_
                refine lv_iload_n hx hb dX9_shape_33 rfl (lv_at hl 2 rfl) ?_
                refine lv_iconst (v := 1) hx hb dX9_shape_34 (by decide) ?_
                refine lv_isub hx hb dX9_shape_35 ?_
                obtain ⟨J71_16, h, hJ71⟩ := h
                have jn71 : ∀ (t16 : Int32), J71_16 t16 → ∀ (H : Heap) (locs : List Loc), va_P G vwCl [(m0, .inr (8, [.int kn, .ref mJ, .int kFe, .int kMo, .int kCo, .long kT, .ref mF, .ref mD, .ref mS, .ref mP])), (mJ, .inl (cy 0, 9, .inl f13))] H → va_D A [(m0, .inr (8, [.int kn, .ref mJ, .int kFe, .int kMo, .int kCo, .long kT, .ref mF, .ref mD, .ref mS, .ref mP])), (mJ, .inl (cy 0, 9, .inl f13))] → va_S A s.heap H locs → ∀ (ls : Array Slot), lv_has ls 5 [(0, .ref m0), (1, .int p1), (2, .int y7), (3, .int y12)] → W p l e (headSpec wsX9_shape rmX9_shape).room s m args below meth c H locs 0 0 QM (F0 m 71 ls [.int t16]) := by
                  intro t16 hj9 H locs hP hD hS ls hl
                  have h := hJ71 t16 hj9
                  refine lv_istore (lv' := [(4, .int t16), (0, .ref m0), (1, .int p1), (2, .int y7), (3, .int y12)]) hx hb dX9_shape_71 hl (by decide) rfl (fun ls hl => ?_)
                  refine lv_iload_n hx hb dX9_shape_73 rfl (lv_at hl 2 rfl) ?_
                  refine lv_iconst (v := 2) hx hb dX9_shape_74 (by decide) ?_
                  refine lv_icmp_ge (tgt := 86) hx hb dX9_shape_75 (by decide) (fun c22 => ?_) (fun c22 => ?_)
                  · obtain ⟨h, -⟩ := h
                    specialize h c22
                    refine lv_iload_n hx hb dX9_shape_86 rfl (lv_at hl 2 rfl) ?_
                    refine lv_iconst (v := 2) hx hb dX9_shape_87 (by decide) ?_
                    refine lv_icmp_eq (tgt := 95) hx hb dX9_shape_88 (by decide) (fun c23 => ?_) (fun c23 => ?_)
                    · obtain ⟨h, -⟩ := h
                      specialize h c23
                      refine lv_aload_n hx hb dX9_shape_95 rfl (lv_at hl 1 rfl) ?_
                      refine lv_iload_n hx hb dX9_shape_96 rfl (lv_at hl 3 rfl) ?_
                      refine lv_iload_n hx hb dX9_shape_97 rfl (lv_at hl 4 rfl) ?_
                      refine lv_iconst (v := 1) hx hb dX9_shape_98 (by decide) ?_
                      obtain ⟨Q24, hw9, h⟩ := h
                      have hPc : va_P G vwCl [(m0, .inr (8, [.int kn, .ref mJ, .int kFe, .int kMo, .int kCo, .long kT, .ref mF, .ref mD, .ref mS, .ref mP])), (mJ, .inl (cy 0, 9, .inl f13))] H := hP.sub [0, 1] rfl
                      have hDc : va_D A [(m0, .inr (8, [.int kn, .ref mJ, .int kFe, .int kMo, .int kCo, .long kT, .ref mF, .ref mD, .ref mS, .ref mP])), (mJ, .inl (cy 0, 9, .inl f13))] := hD.sub [0, 1] (by decide) rfl
                      have hFc := va_free (wc := [(m0, .inr (8, [.int kn, .ref mJ, .int kFe, .int kMo, .int kCo, .long kT, .ref mF, .ref mD, .ref mS, .ref mP])), (mJ, .inl (cy 0, 9, .inl f13))]) hD hS hA [0, 1] rfl
                      refine va_callv (va_runV (As := [.int y7, .int y12, .int 1]) (rest := []) ⟨hx, hb, hml, hown, hts⟩ (ct_X9_put l G cy m0 mJ mF mD mS mP H.size kn kFe kMo kCo kT f13 y7 y12 1 Q24 hw9) (cwV 3 hts gX9_shape_X9_put rfl rfl rfl (by decide +kernel) ⟨Nat.le_of_ble_eq_true rfl, Nat.le_of_ble_eq_true rfl⟩) (wP_V hK hP (ci := 8) (q0 := 0) rfl rfl hPc hDc) rfl rfl hl.1 rfl (lv_room (Nat.le_of_ble_eq_true rfl)) dX9_shape_99 ⟨Nat.le_of_ble_eq_true rfl, Nat.le_of_ble_eq_true rfl⟩) hS (fun q9 _ h9 => hFc q9 h9) hFc (fun u9 t9 H locs ht9 hvm9 hw9 hB9 hz9 hk9 hS => ?_)
                      obtain ⟨f26, rfl⟩ : ∃ z9, z9 = u9 := ⟨_, rfl⟩
                      have hP : va_P G vwCl [(m0, .inr (8, [.int kn, .ref mJ, .int kFe, .int kMo, .int kCo, .long kT, .ref mF, .ref mD, .ref mS, .ref mP])), (mJ, .inl (cy 0, 9, .inl f26))] H := P_back [0, 1] [] 2 hP hD rfl rfl rfl rfl (by decide) (by decide) hk9 (by rw [← ht9]; exact hB9)
                      have hD : va_D A [(m0, .inr (8, [.int kn, .ref mJ, .int kFe, .int kMo, .int kCo, .long kT, .ref mF, .ref mD, .ref mS, .ref mP])), (mJ, .inl (cy 0, 9, .inl f26))] := D_same hD rfl
                      specialize h f26 hw9
                      obtain ⟨x27, ex27⟩ : ∃ y : Int32, y = y12 + 1 := ⟨_, rfl⟩
                      specialize h x27 ex27
                      refine lv_iinc (v := x27) (lv' := [(3, .int x27), (4, .int t16), (0, .ref m0), (1, .int p1), (2, .int y7)]) hx hb dX9_shape_102 hl (k := 4) rfl (by rw [ex27]; rfl) (by decide) rfl (fun ls hl => ?_)
                      refine lv_goto (tgt := 27) hx hb dX9_shape_105 (by decide) ?_
                      exact ih27 x27 f26 h.1 (Nat.lt_of_lt_of_le h.2 (Nat.le_of_lt_succ hk27)) _ _ hP hD hS _ (lv_sub hl [2, 3, 4, 0] rfl)
                    · obtain ⟨-, h⟩ := h
                      specialize h c23
                      refine lv_iload_n hx hb dX9_shape_91 rfl (lv_at hl 4 rfl) ?_
                      refine lv_if_ne (tgt := 102) hx hb dX9_shape_92 (by decide) (fun c28 => ?_) (fun c28 => ?_)
                      · obtain ⟨-, h⟩ := h
                        specialize h c28
                        obtain ⟨x29, ex29⟩ : ∃ y : Int32, y = y12 + 1 := ⟨_, rfl⟩
                        specialize h x29 ex29
                        refine lv_iinc (v := x29) (lv' := [(3, .int x29), (4, .int t16), (0, .ref m0), (1, .int p1), (2, .int y7)]) hx hb dX9_shape_102 hl (k := 4) rfl (by rw [ex29]; rfl) (by decide) rfl (fun ls hl => ?_)
                        refine lv_goto (tgt := 27) hx hb dX9_shape_105 (by decide) ?_
                        exact ih27 x29 f13 h.1 (Nat.lt_of_lt_of_le h.2 (Nat.le_of_lt_succ hk27)) _ _ hP hD hS _ (lv_sub hl [2, 3, 4, 0] rfl)
                      · obtain ⟨h, -⟩ := h
                        specialize h c28
                        refine lv_aload_n hx hb dX9_shape_95 rfl (lv_at hl 1 rfl) ?_
                        refine lv_iload_n hx hb dX9_shape_96 rfl (lv_at hl 3 rfl) ?_
                        refine lv_iload_n hx hb dX9_shape_97 rfl (lv_at hl 4 rfl) ?_
                        refine lv_iconst (v := 1) hx hb dX9_shape_98 (by decide) ?_
                        obtain ⟨Q30, hw9, h⟩ := h
                        have hPc : va_P G vwCl [(m0, .inr (8, [.int kn, .ref mJ, .int kFe, .int kMo, .int kCo, .long kT, .ref mF, .ref mD, .ref mS, .ref mP])), (mJ, .inl (cy 0, 9, .inl f13))] H := hP.sub [0, 1] rfl
                        have hDc : va_D A [(m0, .inr (8, [.int kn, .ref mJ, .int kFe, .int kMo, .int kCo, .long kT, .ref mF, .ref mD, .ref mS, .ref mP])), (mJ, .inl (cy 0, 9, .inl f13))] := hD.sub [0, 1] (by decide) rfl
                        have hFc := va_free (wc := [(m0, .inr (8, [.int kn, .ref mJ, .int kFe, .int kMo, .int kCo, .long kT, .ref mF, .ref mD, .ref mS, .ref mP])), (mJ, .inl (cy 0, 9, .inl f13))]) hD hS hA [0, 1] rfl
                        refine va_callv (va_runV (As := [.int y7, .int y12, .int 1]) (rest := []) ⟨hx, hb, hml, hown, hts⟩ (ct_X9_put l G cy m0 mJ mF mD mS mP H.size kn kFe kMo kCo kT f13 y7 y12 1 Q30 hw9) (cwV 3 hts gX9_shape_X9_put rfl rfl rfl (by decide +kernel) ⟨Nat.le_of_ble_eq_true rfl, Nat.le_of_ble_eq_true rfl⟩) (wP_V hK hP (ci := 8) (q0 := 0) rfl rfl hPc hDc) rfl rfl hl.1 rfl (lv_room (Nat.le_of_ble_eq_true rfl)) dX9_shape_99 ⟨Nat.le_of_ble_eq_true rfl, Nat.le_of_ble_eq_true rfl⟩) hS (fun q9 _ h9 => hFc q9 h9) hFc (fun u9 t9 H locs ht9 hvm9 hw9 hB9 hz9 hk9 hS => ?_)
                        obtain ⟨f32, rfl⟩ : ∃ z9, z9 = u9 := ⟨_, rfl⟩
                        have hP : va_P G vwCl [(m0, .inr (8, [.int kn, .ref mJ, .int kFe, .int kMo, .int kCo, .long kT, .ref mF, .ref mD, .ref mS, .ref mP])), (mJ, .inl (cy 0, 9, .inl f32))] H := P_back [0, 1] [] 2 hP hD rfl rfl rfl rfl (by decide) (by decide) hk9 (by rw [← ht9]; exact hB9)
                        have hD : va_D A [(m0, .inr (8, [.int kn, .ref mJ, .int kFe, .int kMo, .int kCo, .long kT, .ref mF, .ref mD, .ref mS, .ref mP])), (mJ, .inl (cy 0, 9, .inl f32))] := D_same hD rfl
                        specialize h f32 hw9
                        obtain ⟨x33, ex33⟩ : ∃ y : Int32, y = y12 + 1 := ⟨_, rfl⟩
                        specialize h x33 ex33
                        refine lv_iinc (v := x33) (lv' := [(3, .int x33), (4, .int t16), (0, .ref m0), (1, .int p1), (2, .int y7)]) hx hb dX9_shape_102 hl (k := 4) rfl (by rw [ex33]; rfl) (by decide) rfl (fun ls hl => ?_)
                        refine lv_goto (tgt := 27) hx hb dX9_shape_105 (by decide) ?_
                        exact ih27 x33 f32 h.1 (Nat.lt_of_lt_of_le h.2 (Nat.le_of_lt_succ hk27)) _ _ hP hD hS _ (lv_sub hl [2, 3, 4, 0] rfl)
                  · obtain ⟨-, h⟩ := h
                    specialize h c22
                    refine lv_iload hx hb dX9_shape_78 (lv_at hl 0 rfl) ?_
                    refine lv_if_eq (tgt := 102) hx hb dX9_shape_80 (by decide) (fun c34 => ?_) (fun c34 => ?_)
                    · obtain ⟨h, -⟩ := h
                      specialize h c34
                      obtain ⟨x35, ex35⟩ : ∃ y : Int32, y = y12 + 1 := ⟨_, rfl⟩
                      specialize h x35 ex35
                      refine lv_iinc (v := x35) (lv' := [(3, .int x35), (4, .int t16), (0, .ref m0), (1, .int p1), (2, .int y7)]) hx hb dX9_shape_102 hl (k := 4) rfl (by rw [ex35]; rfl) (by decide) rfl (fun ls hl => ?_)
                      refine lv_goto (tgt := 27) hx hb dX9_shape_105 (by decide) ?_
                      exact ih27 x35 f13 h.1 (Nat.lt_of_lt_of_le h.2 (Nat.le_of_lt_succ hk27)) _ _ hP hD hS _ (lv_sub hl [2, 3, 4, 0] rfl)
                    · obtain ⟨-, h⟩ := h
                      specialize h c34
                      refine lv_goto (tgt := 95) hx hb dX9_shape_83 (by decide) ?_
                      refine lv_aload_n hx hb dX9_shape_95 rfl (lv_at hl 1 rfl) ?_
                      refine lv_iload_n hx hb dX9_shape_96 rfl (lv_at hl 3 rfl) ?_
                      refine lv_iload_n hx hb dX9_shape_97 rfl (lv_at hl 4 rfl) ?_
                      refine lv_iconst (v := 1) hx hb dX9_shape_98 (by decide) ?_
                      obtain ⟨Q36, hw9, h⟩ := h
                      have hPc : va_P G vwCl [(m0, .inr (8, [.int kn, .ref mJ, .int kFe, .int kMo, .int kCo, .long kT, .ref mF, .ref mD, .ref mS, .ref mP])), (mJ, .inl (cy 0, 9, .inl f13))] H := hP.sub [0, 1] rfl
                      have hDc : va_D A [(m0, .inr (8, [.int kn, .ref mJ, .int kFe, .int kMo, .int kCo, .long kT, .ref mF, .ref mD, .ref mS, .ref mP])), (mJ, .inl (cy 0, 9, .inl f13))] := hD.sub [0, 1] (by decide) rfl
                      have hFc := va_free (wc := [(m0, .inr (8, [.int kn, .ref mJ, .int kFe, .int kMo, .int kCo, .long kT, .ref mF, .ref mD, .ref mS, .ref mP])), (mJ, .inl (cy 0, 9, .inl f13))]) hD hS hA [0, 1] rfl
                      refine va_callv (va_runV (As := [.int y7, .int y12, .int 1]) (rest := []) ⟨hx, hb, hml, hown, hts⟩ (ct_X9_put l G cy m0 mJ mF mD mS mP H.size kn kFe kMo kCo kT f13 y7 y12 1 Q36 hw9) (cwV 3 hts gX9_shape_X9_put rfl rfl rfl (by decide +kernel) ⟨Nat.le_of_ble_eq_true rfl, Nat.le_of_ble_eq_true rfl⟩) (wP_V hK hP (ci := 8) (q0 := 0) rfl rfl hPc hDc) rfl rfl hl.1 rfl (lv_room (Nat.le_of_ble_eq_true rfl)) dX9_shape_99 ⟨Nat.le_of_ble_eq_true rfl, Nat.le_of_ble_eq_true rfl⟩) hS (fun q9 _ h9 => hFc q9 h9) hFc (fun u9 t9 H locs ht9 hvm9 hw9 hB9 hz9 hk9 hS => ?_)
                      obtain ⟨f38, rfl⟩ : ∃ z9, z9 = u9 := ⟨_, rfl⟩
                      have hP : va_P G vwCl [(m0, .inr (8, [.int kn, .ref mJ, .int kFe, .int kMo, .int kCo, .long kT, .ref mF, .ref mD, .ref mS, .ref mP])), (mJ, .inl (cy 0, 9, .inl f38))] H := P_back [0, 1] [] 2 hP hD rfl rfl rfl rfl (by decide) (by decide) hk9 (by rw [← ht9]; exact hB9)
                      have hD : va_D A [(m0, .inr (8, [.int kn, .ref mJ, .int kFe, .int kMo, .int kCo, .long kT, .ref mF, .ref mD, .ref mS, .ref mP])), (mJ, .inl (cy 0, 9, .inl f38))] := D_same hD rfl
                      specialize h f38 hw9
                      obtain ⟨x39, ex39⟩ : ∃ y : Int32, y = y12 + 1 := ⟨_, rfl⟩
                      specialize h x39 ex39
                      refine lv_iinc (v := x39) (lv' := [(3, .int x39), (4, .int t16), (0, .ref m0), (1, .int p1), (2, .int y7)]) hx hb dX9_shape_102 hl (k := 4) rfl (by rw [ex39]; rfl) (by decide) rfl (fun ls hl => ?_)
                      refine lv_goto (tgt := 27) hx hb dX9_shape_105 (by decide) ?_
                      exact ih27 x39 f38 h.1 (Nat.lt_of_lt_of_le h.2 (Nat.le_of_lt_succ hk27)) _ _ hP hD hS _ (lv_sub hl [2, 3, 4, 0] rfl)
                obtain ⟨J66_16, h, hJ66⟩ := h
                have jn66 : J66_16 → ∀ (H : Heap) (locs : List Loc), va_P G vwCl [(m0, .inr (8, [.int kn, .ref mJ, .int kFe, .int kMo, .int kCo, .long kT, .ref mF, .ref mD, .ref mS, .ref mP])), (mJ, .inl (cy 0, 9, .inl f13))] H → va_D A [(m0, .inr (8, [.int kn, .ref mJ, .int kFe, .int kMo, .int kCo, .long kT, .ref mF, .ref mD, .ref mS, .ref mP])), (mJ, .inl (cy 0, 9, .inl f13))] → va_S A s.heap H locs → ∀ (ls : Array Slot), lv_has ls 5 [(0, .ref m0), (1, .int p1), (2, .int y7), (3, .int y12)] → W p l e (headSpec wsX9_shape rmX9_shape).room s m args below meth c H locs 0 0 QM (F0 m 66 ls []) := by
                  intro  hj9 H locs hP hD hS ls hl
                  have h := hJ66  hj9
                  refine lv_iconst (v := 1) hx hb dX9_shape_66 (by decide) ?_
                  refine lv_goto (tgt := 71) hx hb dX9_shape_67 (by decide) ?_
                  exact jn71 1 h _ _ hP hD hS _ (lv_sub hl [0, 1, 2, 3] rfl)
                refine lv_icmp_eq (tgt := 66) hx hb dX9_shape_36 (by decide) (fun c17 => ?_) (fun c17 => ?_)
                · obtain ⟨h, -⟩ := h
                  specialize h c17
                  exact jn66  h _ _ hP hD hS _ (lv_sub hl [0, 1, 2, 3] rfl)
                · obtain ⟨-, h⟩ := h
                  specialize h c17
                  refine lv_iload_n hx hb dX9_shape_39 rfl (lv_at hl 1 rfl) ?_
                  refine lv_iconst (v := 1) hx hb dX9_shape_40 (by decide) ?_
                  obtain ⟨J70_17, h, hJ70⟩ := h
                  have jn70 : J70_17 → ∀ (H : Heap) (locs : List Loc), va_P G vwCl [(m0, .inr (8, [.int kn, .ref mJ, .int kFe, .int kMo, .int kCo, .long kT, .ref mF, .ref mD, .ref mS, .ref mP])), (mJ, .inl (cy 0, 9, .inl f13))] H → va_D A [(m0, .inr (8, [.int kn, .ref mJ, .int kFe, .int kMo, .int kCo, .long kT, .ref mF, .ref mD, .ref mS, .ref mP])), (mJ, .inl (cy 0, 9, .inl f13))] → va_S A s.heap H locs → ∀ (ls : Array Slot), lv_has ls 5 [(0, .ref m0), (1, .int p1), (2, .int y7), (3, .int y12)] → W p l e (headSpec wsX9_shape rmX9_shape).room s m args below meth c H locs 0 0 QM (F0 m 70 ls []) := by
                    intro  hj9 H locs hP hD hS ls hl
                    have h := hJ70  hj9
                    refine lv_iconst (v := 0) hx hb dX9_shape_70 (by decide) ?_
                    exact jn71 0 h _ _ hP hD hS _ (lv_sub hl [0, 1, 2, 3] rfl)
                  refine lv_icmp_ne (tgt := 70) hx hb dX9_shape_41 (by decide) (fun c18 => ?_) (fun c18 => ?_)
                  · obtain ⟨-, h⟩ := h
                    specialize h c18
                    exact jn70  h _ _ hP hD hS _ (lv_sub hl [0, 1, 2, 3] rfl)
                  · obtain ⟨h, -⟩ := h
                    specialize h c18
                    refine lv_aload_n hx hb dX9_shape_44 rfl (lv_at hl 0 rfl) ?_
                    refine va_get (D := G) (ci := 8) (v := .int kn) (C := RX9) (T := TX9) (N := 10) hx hb hts iwX9 hown hK.1 hP 0 rfl rfl 0 (by decide) fl7 (fun _ h9 => h9) rfl dX9_shape_45 ?_
                    refine lv_iconst (v := 2) hx hb dX9_shape_48 (by decide) ?_
                    refine lv_icmp_le (tgt := 70) hx hb dX9_shape_49 (by decide) (fun c19 => ?_) (fun c19 => ?_)
                    · obtain ⟨h, -⟩ := h
                      specialize h c19
                      exact jn70  h _ _ hP hD hS _ (lv_sub hl [0, 1, 2, 3] rfl)
                    · obtain ⟨-, h⟩ := h
                      specialize h c19
                      refine lv_iload_n hx hb dX9_shape_52 rfl (lv_at hl 2 rfl) ?_
                      refine lv_aload_n hx hb dX9_shape_53 rfl (lv_at hl 0 rfl) ?_
                      refine va_get (D := G) (ci := 8) (v := .int kn) (C := RX9) (T := TX9) (N := 10) hx hb hts iwX9 hown hK.1 hP 0 rfl rfl 0 (by decide) fl7 (fun _ h9 => h9) rfl dX9_shape_54 ?_
                      refine lv_iconst (v := 1) hx hb dX9_shape_57 (by decide) ?_
                      refine lv_isub hx hb dX9_shape_58 ?_
                      refine lv_icmp_ne (tgt := 70) hx hb dX9_shape_59 (by decide) (fun c20 => ?_) (fun c20 => ?_)
                      · obtain ⟨-, h⟩ := h
                        specialize h c20
                        exact jn70  h _ _ hP hD hS _ (lv_sub hl [0, 1, 2, 3] rfl)
                      · obtain ⟨h, -⟩ := h
                        specialize h c20
                        refine lv_iload_n hx hb dX9_shape_62 rfl (lv_at hl 3 rfl) ?_
                        refine lv_if_ne (tgt := 70) hx hb dX9_shape_63 (by decide) (fun c21 => ?_) (fun c21 => ?_)
                        · obtain ⟨-, h⟩ := h
                          specialize h c21
                          exact jn70  h _ _ hP hD hS _ (lv_sub hl [0, 1, 2, 3] rfl)
                        · obtain ⟨h, -⟩ := h
                          specialize h c21
                          exact jn66  h _ _ hP hD hS _ (lv_sub hl [0, 1, 2, 3] rfl)
          exact key27 _ 0 f8 h027 (Nat.lt_succ_self _) _ _ hP hD hS _ (lv_sub hl [1, 2, 3, 0] rfl)
    exact key17 _ 0 f6 h017 (Nat.lt_succ_self _) _ _ hP hD hS _ (lv_sub hl [1, 2, 0] rfl)
  · obtain ⟨h, -⟩ := h
    specialize h c3
    refine lv_iconst (v := (-1)) hx hb dX9_shape_9 (by decide) ?_
    rw [← hQe]
    exact W.iret (v := (-1)) hx hb hr (fun t ht hW => ⟨⟨(-1), jJ, rfl, h, by dsimp only; rw [ht]; exact hP⟩, hS.F ht⟩) hS.2.2 dX9_shape_10

set_option maxHeartbeats 4000000 in
set_option maxRecDepth 100000 in
theorem ct_X9_weight (l : Launch) (G : va_G) (cy : Nat → ClassId) (m0 mJ mF mD mS mP : Nat) (sz : Nat) (kn : Int32) (kFe : Int32) (kMo : Int32) (kCo : Int32) (kT : Int64) (jJ : Nat → Int32) (p1 : Int32) (p2 : Int32) (p3 : Int32) (Q : Int32 → Int64 → Prop) (h : wp_X9_weight kn kT jJ p1 p2 p3 Q) : Met l yX9_weight wsX9_weight rmX9_weight (va_Pc [.ref m0, .int p1, .int p2, .int p3] (wP G cy sz [(m0, .inr (8, [.int kn, .ref mJ, .int kFe, .int kMo, .int kCo, .long kT, .ref mF, .ref mD, .ref mS, .ref mP])), (mJ, .inl (cy 0, 9, .inl jJ))])) (va_Qi (fun (r : Int32) (u : Int64) => Q r u) (fun (u : Int64) (t : State) => va_P G vwCl [(m0, .inr (8, [.int kn, .ref mJ, .int kFe, .int kMo, .int kCo, .long u, .ref mF, .ref mD, .ref mS, .ref mP])), (mJ, .inl (cy 0, 9, .inl jJ))] t.heap) (va_A [(m0, .inr (8, [.int kn, .ref mJ, .int kFe, .int kMo, .int kCo, .long kT, .ref mF, .ref mD, .ref mS, .ref mP])), (mJ, .inl (cy 0, 9, .inl jJ))] sz)) 0 0 (va_A [(m0, .inr (8, [.int kn, .ref mJ, .int kFe, .int kMo, .int kCo, .long kT, .ref mF, .ref mD, .ref mS, .ref mP])), (mJ, .inl (cy 0, 9, .inl jJ))] sz) := by
  unfold wp_X9_weight at h
  refine Met.ofW (cc := cX9_weight) (maxL := 4) (ret := (some .int)) (by decide) rfl ?_
  intro p e s m args below meth c s₁ B hml hv
  obtain ⟨hav, hsz, hP, hK, hD0⟩ := hv
  have hx := B.exec
  have hb := B.bytes
  have hr := B.returns
  have hts := atoms_spec (ws := wsX9_weight) B.pre
  have hown : s.vm.findClass RX9 = some m.cls := findClass_of_methodNamed B.named
  have hlocks := B.notSynchronized
  subst hsz
  have hD := hD0.self (sz := s.heap.size)
  generalize hAe : va_A [(m0, .inr (8, [.int kn, .ref mJ, .int kFe, .int kMo, .int kCo, .long kT, .ref mF, .ref mD, .ref mS, .ref mP])), (mJ, .inl (cy 0, 9, .inl jJ))] s.heap.size = A at hD ⊢
  have hA : ∀ q : Nat, s.heap.size ≤ q → A q := fun q h9 => by rw [← hAe]; exact Or.inr h9
  have hS : va_S A s.heap s.heap [] := va_S.rf
  have hl := lv_entry ([.ref m0, .int p1, .int p2, .int p3]) (n := 4) (Nat.le_of_ble_eq_true rfl)
  rw [show entryFrame m args 4 = entryFrame m ([.ref m0, .int p1, .int p2, .int p3] : List Value).toArray 4 by rw [hav], lg_entry_eq]
  generalize (lg_sl ([.ref m0, .int p1, .int p2, .int p3]) ++ List.replicate (4 - (lg_sl ([.ref m0, .int p1, .int p2, .int p3])).length) Slot.unset).toArray = ls at hl ⊢
  have hl : lv_has ls 4 [(0, .ref m0), (1, .int p1), (2, .int p2), (3, .int p3)] := hl
  generalize hQe : MQ below _ _ _ _ _ _ = QM
  have hP : va_P G vwCl [(m0, .inr (8, [.int kn, .ref mJ, .int kFe, .int kMo, .int kCo, .long kT, .ref mF, .ref mD, .ref mS, .ref mP])), (mJ, .inl (cy 0, 9, .inl jJ))] s.heap := hP
  have iwX9 : ∀ w ∈ wsX90, w ∈ wsX9_weight := by decide +kernel
  have fl72 := hts (.fieldLink RX9 72 "SlidTokensModel" "trace" "J") (by decide +kernel)
  have kn78 := hts (.constantLong RX9 78 (111)) (by decide +kernel)
  have kn76 := hts (.constantLong RX9 76 (11)) (by decide +kernel)
  suffices K9 : ∀ (H : Heap) (locs : List Loc), va_P G vwCl [(m0, .inr (8, [.int kn, .ref mJ, .int kFe, .int kMo, .int kCo, .long kT, .ref mF, .ref mD, .ref mS, .ref mP])), (mJ, .inl (cy 0, 9, .inl jJ))] H → va_D A [(m0, .inr (8, [.int kn, .ref mJ, .int kFe, .int kMo, .int kCo, .long kT, .ref mF, .ref mD, .ref mS, .ref mP])), (mJ, .inl (cy 0, 9, .inl jJ))] → va_S A s.heap H locs → W p l e (headSpec wsX9_weight rmX9_weight).room s m args below meth c H locs 0 0 QM (F0 m 0 ls []) from K9 _ _ hP hD hS
  clear hP hD hS
  intro H locs hP hD hS
  refine lv_iload_n hx hb dX9_weight_0 rfl (lv_at hl 1 rfl) ?_
  obtain ⟨Q1, hw9, h⟩ := h
  have hPc : va_P G vwCl [] H := P_nil
  refine vp_callSi (va_Run.run (va_runS (As := [.int p1]) (rest := []) ⟨hx, hb, hml, hown, hts⟩ (ct_X9_isKind l G cy p1 Q1 hw9) (va_cwS 1 hts gX9_weight_X9_isKind rfl rfl rfl (by decide +kernel) ⟨Nat.le_of_ble_eq_true rfl, Nat.le_of_ble_eq_true rfl⟩) (rP_S hK hPc) rfl rfl hl.1 rfl (lv_room (Nat.le_of_ble_eq_true rfl)) dX9_weight_1 ⟨Nat.le_of_ble_eq_true rfl, Nat.le_of_ble_eq_true rfl⟩)) (fun r2 er2 => ?_)
  specialize h r2 er2
  refine lv_if_eq (tgt := 23) hx hb dX9_weight_4 (by decide) (fun c3 => ?_) (fun c3 => ?_)
  · obtain ⟨h, -⟩ := h
    specialize h c3
    refine lv_iconst (v := (-1)) hx hb dX9_weight_23 (by decide) ?_
    rw [← hQe]
    exact W.iret (v := (-1)) hx hb hr (fun t ht hW => ⟨⟨(-1), kT, rfl, h, by dsimp only; rw [ht]; exact hP⟩, hS.F ht⟩) hS.2.2 dX9_weight_24
  · obtain ⟨-, h⟩ := h
    specialize h c3
    refine lv_aload_n hx hb dX9_weight_7 rfl (lv_at hl 0 rfl) ?_
    refine lv_iload_n hx hb dX9_weight_8 rfl (lv_at hl 2 rfl) ?_
    obtain ⟨Q4, hw9, h⟩ := h
    have hPc : va_P G vwCl [(m0, .inr (8, [.int kn, .ref mJ, .int kFe, .int kMo, .int kCo, .long kT, .ref mF, .ref mD, .ref mS, .ref mP])), (mJ, .inl (cy 0, 9, .inl jJ))] H := hP.sub [0, 1] rfl
    refine vp_callSi (va_Run.run (va_runV (As := [.int p2]) (rest := []) ⟨hx, hb, hml, hown, hts⟩ (ct_X9_isSet l G cy m0 mJ mF mD mS mP kn kFe kMo kCo kT jJ p2 Q4 hw9) (cwV 1 hts gX9_weight_X9_isSet rfl rfl rfl (by decide +kernel) ⟨Nat.le_of_ble_eq_true rfl, Nat.le_of_ble_eq_true rfl⟩) (rP_V hK hP (ci := 8) (q0 := 0) rfl rfl hPc) rfl rfl hl.1 rfl (lv_room (Nat.le_of_ble_eq_true rfl)) dX9_weight_9 ⟨Nat.le_of_ble_eq_true rfl, Nat.le_of_ble_eq_true rfl⟩)) (fun r5 er5 => ?_)
    specialize h r5 er5
    refine lv_if_eq (tgt := 23) hx hb dX9_weight_12 (by decide) (fun c6 => ?_) (fun c6 => ?_)
    · obtain ⟨h, -⟩ := h
      specialize h c6
      refine lv_iconst (v := (-1)) hx hb dX9_weight_23 (by decide) ?_
      rw [← hQe]
      exact W.iret (v := (-1)) hx hb hr (fun t ht hW => ⟨⟨(-1), kT, rfl, h, by dsimp only; rw [ht]; exact hP⟩, hS.F ht⟩) hS.2.2 dX9_weight_24
    · obtain ⟨-, h⟩ := h
      specialize h c6
      refine lv_aload_n hx hb dX9_weight_15 rfl (lv_at hl 0 rfl) ?_
      refine lv_iload_n hx hb dX9_weight_16 rfl (lv_at hl 3 rfl) ?_
      obtain ⟨Q7, hw9, h⟩ := h
      have hPc : va_P G vwCl [(m0, .inr (8, [.int kn, .ref mJ, .int kFe, .int kMo, .int kCo, .long kT, .ref mF, .ref mD, .ref mS, .ref mP])), (mJ, .inl (cy 0, 9, .inl jJ))] H := hP.sub [0, 1] rfl
      refine vp_callSi (va_Run.run (va_runV (As := [.int p3]) (rest := []) ⟨hx, hb, hml, hown, hts⟩ (ct_X9_isSet l G cy m0 mJ mF mD mS mP kn kFe kMo kCo kT jJ p3 Q7 hw9) (cwV 1 hts gX9_weight_X9_isSet rfl rfl rfl (by decide +kernel) ⟨Nat.le_of_ble_eq_true rfl, Nat.le_of_ble_eq_true rfl⟩) (rP_V hK hP (ci := 8) (q0 := 0) rfl rfl hPc) rfl rfl hl.1 rfl (lv_room (Nat.le_of_ble_eq_true rfl)) dX9_weight_17 ⟨Nat.le_of_ble_eq_true rfl, Nat.le_of_ble_eq_true rfl⟩)) (fun r8 er8 => ?_)
      specialize h r8 er8
      refine lv_if_ne (tgt := 25) hx hb dX9_weight_20 (by decide) (fun c9 => ?_) (fun c9 => ?_)
      · obtain ⟨-, h⟩ := h
        specialize h c9
        refine lv_aload_n hx hb dX9_weight_25 rfl (lv_at hl 0 rfl) ?_
        refine lv_dup hx hb dX9_weight_26 rfl ?_
        refine va_get (D := G) (ci := 8) (v := .long kT) (C := RX9) (T := TX9) (N := 10) hx hb hts iwX9 hown hK.1 hP 0 rfl rfl 5 (by decide) fl72 (fun _ h9 => h9) rfl dX9_weight_27 ?_
        refine lv_iload_n hx hb dX9_weight_30 rfl (lv_at hl 1 rfl) ?_
        refine lv_if_ne (tgt := 38) hx hb dX9_weight_31 (by decide) (fun c10 => ?_) (fun c10 => ?_)
        · obtain ⟨-, h⟩ := h
          specialize h c10
          refine lv_iload_n hx hb dX9_weight_38 rfl (lv_at hl 1 rfl) ?_
          refine lv_iconst (v := 1) hx hb dX9_weight_39 (by decide) ?_
          refine lv_icmp_ne (tgt := 49) hx hb dX9_weight_40 (by decide) (fun c11 => ?_) (fun c11 => ?_)
          · obtain ⟨-, h⟩ := h
            specialize h c11
            refine lv_ldc2 hx hb hown kn78 dX9_weight_49 ?_
            refine lv_ladd hx hb dX9_weight_52 ?_
            refine lv_topl (fun x12 ex12 => ?_)
            specialize h x12 ex12
            refine va_put (D := G) (ci := 8) (v := .long x12) (ty := .long) (C := RX9) (T := TX9) (N := 10) hx hb hts iwX9 tyX9 tyX9_ok nmX9 hown hK.1 hP hD hS 0 rfl rfl 5 (by decide) fl72 (fun _ h9 => h9) rfl (by decide +kernel) rfl rfl (Nat.le_of_ble_eq_true rfl) dX9_weight_53 (fun H locs hP hD hS => ?_)
            have hP : va_P G vwCl [(m0, .inr (8, [.int kn, .ref mJ, .int kFe, .int kMo, .int kCo, .long x12, .ref mF, .ref mD, .ref mS, .ref mP])), (mJ, .inl (cy 0, 9, .inl jJ))] H := hP
            have hD : va_D A [(m0, .inr (8, [.int kn, .ref mJ, .int kFe, .int kMo, .int kCo, .long x12, .ref mF, .ref mD, .ref mS, .ref mP])), (mJ, .inl (cy 0, 9, .inl jJ))] := hD
            refine lv_aload_n hx hb dX9_weight_56 rfl (lv_at hl 0 rfl) ?_
            refine lv_iload_n hx hb dX9_weight_57 rfl (lv_at hl 1 rfl) ?_
            refine lv_iload_n hx hb dX9_weight_58 rfl (lv_at hl 2 rfl) ?_
            refine lv_iload_n hx hb dX9_weight_59 rfl (lv_at hl 3 rfl) ?_
            obtain ⟨Q13, hw9, h⟩ := h
            have hPc : va_P G vwCl [(m0, .inr (8, [.int kn, .ref mJ, .int kFe, .int kMo, .int kCo, .long x12, .ref mF, .ref mD, .ref mS, .ref mP])), (mJ, .inl (cy 0, 9, .inl jJ))] H := hP.sub [0, 1] rfl
            refine vp_callSi (va_Run.run (va_runV (As := [.int p1, .int p2, .int p3]) (rest := []) ⟨hx, hb, hml, hown, hts⟩ (ct_X9_weightOf l G cy m0 mJ mF mD mS mP kn kFe kMo kCo x12 jJ p1 p2 p3 Q13 hw9) (cwV 3 hts gX9_weight_X9_weightOf rfl rfl rfl (by decide +kernel) ⟨Nat.le_of_ble_eq_true rfl, Nat.le_of_ble_eq_true rfl⟩) (rP_V hK hP (ci := 8) (q0 := 0) rfl rfl hPc) rfl rfl hl.1 rfl (lv_room (Nat.le_of_ble_eq_true rfl)) dX9_weight_60 ⟨Nat.le_of_ble_eq_true rfl, Nat.le_of_ble_eq_true rfl⟩)) (fun r14 er14 => ?_)
            specialize h r14 er14
            rw [← hQe]
            exact W.iret (v := r14) hx hb hr (fun t ht hW => ⟨⟨r14, x12, rfl, h, by dsimp only; rw [ht]; exact hP⟩, hS.F ht⟩) hS.2.2 dX9_weight_63
          · obtain ⟨h, -⟩ := h
            specialize h c11
            refine lv_ldc2 hx hb hown kn76 dX9_weight_43 ?_
            refine lv_goto (tgt := 52) hx hb dX9_weight_46 (by decide) ?_
            refine lv_ladd hx hb dX9_weight_52 ?_
            refine lv_topl (fun x15 ex15 => ?_)
            specialize h x15 ex15
            refine va_put (D := G) (ci := 8) (v := .long x15) (ty := .long) (C := RX9) (T := TX9) (N := 10) hx hb hts iwX9 tyX9 tyX9_ok nmX9 hown hK.1 hP hD hS 0 rfl rfl 5 (by decide) fl72 (fun _ h9 => h9) rfl (by decide +kernel) rfl rfl (Nat.le_of_ble_eq_true rfl) dX9_weight_53 (fun H locs hP hD hS => ?_)
            have hP : va_P G vwCl [(m0, .inr (8, [.int kn, .ref mJ, .int kFe, .int kMo, .int kCo, .long x15, .ref mF, .ref mD, .ref mS, .ref mP])), (mJ, .inl (cy 0, 9, .inl jJ))] H := hP
            have hD : va_D A [(m0, .inr (8, [.int kn, .ref mJ, .int kFe, .int kMo, .int kCo, .long x15, .ref mF, .ref mD, .ref mS, .ref mP])), (mJ, .inl (cy 0, 9, .inl jJ))] := hD
            refine lv_aload_n hx hb dX9_weight_56 rfl (lv_at hl 0 rfl) ?_
            refine lv_iload_n hx hb dX9_weight_57 rfl (lv_at hl 1 rfl) ?_
            refine lv_iload_n hx hb dX9_weight_58 rfl (lv_at hl 2 rfl) ?_
            refine lv_iload_n hx hb dX9_weight_59 rfl (lv_at hl 3 rfl) ?_
            obtain ⟨Q16, hw9, h⟩ := h
            have hPc : va_P G vwCl [(m0, .inr (8, [.int kn, .ref mJ, .int kFe, .int kMo, .int kCo, .long x15, .ref mF, .ref mD, .ref mS, .ref mP])), (mJ, .inl (cy 0, 9, .inl jJ))] H := hP.sub [0, 1] rfl
            refine vp_callSi (va_Run.run (va_runV (As := [.int p1, .int p2, .int p3]) (rest := []) ⟨hx, hb, hml, hown, hts⟩ (ct_X9_weightOf l G cy m0 mJ mF mD mS mP kn kFe kMo kCo x15 jJ p1 p2 p3 Q16 hw9) (cwV 3 hts gX9_weight_X9_weightOf rfl rfl rfl (by decide +kernel) ⟨Nat.le_of_ble_eq_true rfl, Nat.le_of_ble_eq_true rfl⟩) (rP_V hK hP (ci := 8) (q0 := 0) rfl rfl hPc) rfl rfl hl.1 rfl (lv_room (Nat.le_of_ble_eq_true rfl)) dX9_weight_60 ⟨Nat.le_of_ble_eq_true rfl, Nat.le_of_ble_eq_true rfl⟩)) (fun r17 er17 => ?_)
            specialize h r17 er17
            rw [← hQe]
            exact W.iret (v := r17) hx hb hr (fun t ht hW => ⟨⟨r17, x15, rfl, h, by dsimp only; rw [ht]; exact hP⟩, hS.F ht⟩) hS.2.2 dX9_weight_63
        · obtain ⟨h, -⟩ := h
          specialize h c10
          refine lv_lconst (v := 1) hx hb dX9_weight_34 (by decide) ?_
          refine lv_goto (tgt := 52) hx hb dX9_weight_35 (by decide) ?_
          refine lv_ladd hx hb dX9_weight_52 ?_
          refine lv_topl (fun x18 ex18 => ?_)
          specialize h x18 ex18
          refine va_put (D := G) (ci := 8) (v := .long x18) (ty := .long) (C := RX9) (T := TX9) (N := 10) hx hb hts iwX9 tyX9 tyX9_ok nmX9 hown hK.1 hP hD hS 0 rfl rfl 5 (by decide) fl72 (fun _ h9 => h9) rfl (by decide +kernel) rfl rfl (Nat.le_of_ble_eq_true rfl) dX9_weight_53 (fun H locs hP hD hS => ?_)
          have hP : va_P G vwCl [(m0, .inr (8, [.int kn, .ref mJ, .int kFe, .int kMo, .int kCo, .long x18, .ref mF, .ref mD, .ref mS, .ref mP])), (mJ, .inl (cy 0, 9, .inl jJ))] H := hP
          have hD : va_D A [(m0, .inr (8, [.int kn, .ref mJ, .int kFe, .int kMo, .int kCo, .long x18, .ref mF, .ref mD, .ref mS, .ref mP])), (mJ, .inl (cy 0, 9, .inl jJ))] := hD
          refine lv_aload_n hx hb dX9_weight_56 rfl (lv_at hl 0 rfl) ?_
          refine lv_iload_n hx hb dX9_weight_57 rfl (lv_at hl 1 rfl) ?_
          refine lv_iload_n hx hb dX9_weight_58 rfl (lv_at hl 2 rfl) ?_
          refine lv_iload_n hx hb dX9_weight_59 rfl (lv_at hl 3 rfl) ?_
          obtain ⟨Q19, hw9, h⟩ := h
          have hPc : va_P G vwCl [(m0, .inr (8, [.int kn, .ref mJ, .int kFe, .int kMo, .int kCo, .long x18, .ref mF, .ref mD, .ref mS, .ref mP])), (mJ, .inl (cy 0, 9, .inl jJ))] H := hP.sub [0, 1] rfl
          refine vp_callSi (va_Run.run (va_runV (As := [.int p1, .int p2, .int p3]) (rest := []) ⟨hx, hb, hml, hown, hts⟩ (ct_X9_weightOf l G cy m0 mJ mF mD mS mP kn kFe kMo kCo x18 jJ p1 p2 p3 Q19 hw9) (cwV 3 hts gX9_weight_X9_weightOf rfl rfl rfl (by decide +kernel) ⟨Nat.le_of_ble_eq_true rfl, Nat.le_of_ble_eq_true rfl⟩) (rP_V hK hP (ci := 8) (q0 := 0) rfl rfl hPc) rfl rfl hl.1 rfl (lv_room (Nat.le_of_ble_eq_true rfl)) dX9_weight_60 ⟨Nat.le_of_ble_eq_true rfl, Nat.le_of_ble_eq_true rfl⟩)) (fun r20 er20 => ?_)
          specialize h r20 er20
          rw [← hQe]
          exact W.iret (v := r20) hx hb hr (fun t ht hW => ⟨⟨r20, x18, rfl, h, by dsimp only; rw [ht]; exact hP⟩, hS.F ht⟩) hS.2.2 dX9_weight_63
      · obtain ⟨h, -⟩ := h
        specialize h c9
        refine lv_iconst (v := (-1)) hx hb dX9_weight_23 (by decide) ?_
        rw [← hQe]
        exact W.iret (v := (-1)) hx hb hr (fun t ht hW => ⟨⟨(-1), kT, rfl, h, by dsimp only; rw [ht]; exact hP⟩, hS.F ht⟩) hS.2.2 dX9_weight_24

set_option maxHeartbeats 4000000 in
set_option maxRecDepth 100000 in
theorem ct_X9_set (l : Launch) (G : va_G) (cy : Nat → ClassId) (m0 mJ mF mD mS mP : Nat) (sz : Nat) (kn : Int32) (kFe : Int32) (kMo : Int32) (kCo : Int32) (kT : Int64) (p1 : Int32) (p2 : Int32) (Q : Int32 → Int32 → Int32 → Int32 → Prop) (h : wp_X9_set kFe kMo kCo p1 p2 Q) : Met l yX9_set wsX9_set rmX9_set (va_Pc [.ref m0, .int p1, .int p2] (wP G cy sz [(m0, .inr (8, [.int kn, .ref mJ, .int kFe, .int kMo, .int kCo, .long kT, .ref mF, .ref mD, .ref mS, .ref mP]))])) (va_Qi (fun (r : Int32) (u : Int32 × Int32 × Int32) => Q r u.1 u.2.1 u.2.2) (fun (u : Int32 × Int32 × Int32) (t : State) => va_P G vwCl [(m0, .inr (8, [.int kn, .ref mJ, .int u.1, .int u.2.1, .int u.2.2, .long kT, .ref mF, .ref mD, .ref mS, .ref mP]))] t.heap) (va_A [(m0, .inr (8, [.int kn, .ref mJ, .int kFe, .int kMo, .int kCo, .long kT, .ref mF, .ref mD, .ref mS, .ref mP]))] sz)) 0 0 (va_A [(m0, .inr (8, [.int kn, .ref mJ, .int kFe, .int kMo, .int kCo, .long kT, .ref mF, .ref mD, .ref mS, .ref mP]))] sz) := by
  unfold wp_X9_set at h
  refine Met.ofW (cc := cX9_set) (maxL := 4) (ret := (some .int)) (by decide) rfl ?_
  intro p e s m args below meth c s₁ B hml hv
  obtain ⟨hav, hsz, hP, hK, hD0⟩ := hv
  have hx := B.exec
  have hb := B.bytes
  have hr := B.returns
  have hts := atoms_spec (ws := wsX9_set) B.pre
  have hown : s.vm.findClass RX9 = some m.cls := findClass_of_methodNamed B.named
  have hlocks := B.notSynchronized
  subst hsz
  have hD := hD0.self (sz := s.heap.size)
  generalize hAe : va_A [(m0, .inr (8, [.int kn, .ref mJ, .int kFe, .int kMo, .int kCo, .long kT, .ref mF, .ref mD, .ref mS, .ref mP]))] s.heap.size = A at hD ⊢
  have hA : ∀ q : Nat, s.heap.size ≤ q → A q := fun q h9 => by rw [← hAe]; exact Or.inr h9
  have hS : va_S A s.heap s.heap [] := va_S.rf
  have hl := lv_entry ([.ref m0, .int p1, .int p2]) (n := 4) (Nat.le_of_ble_eq_true rfl)
  rw [show entryFrame m args 4 = entryFrame m ([.ref m0, .int p1, .int p2] : List Value).toArray 4 by rw [hav], lg_entry_eq]
  generalize (lg_sl ([.ref m0, .int p1, .int p2]) ++ List.replicate (4 - (lg_sl ([.ref m0, .int p1, .int p2])).length) Slot.unset).toArray = ls at hl ⊢
  have hl : lv_has ls 4 [(0, .ref m0), (1, .int p1), (2, .int p2)] := hl
  generalize hQe : MQ below _ _ _ _ _ _ = QM
  have hP : va_P G vwCl [(m0, .inr (8, [.int kn, .ref mJ, .int kFe, .int kMo, .int kCo, .long kT, .ref mF, .ref mD, .ref mS, .ref mP]))] s.heap := hP
  have iwX9 : ∀ w ∈ wsX90, w ∈ wsX9_set := by decide +kernel
  have fl20 := hts (.fieldLink RX9 20 "SlidTokensModel" "colours" "I") (by decide +kernel)
  have fl17 := hts (.fieldLink RX9 17 "SlidTokensModel" "most" "I") (by decide +kernel)
  have fl36 := hts (.fieldLink RX9 36 "SlidTokensModel" "fewest" "I") (by decide +kernel)
  suffices K9 : ∀ (H : Heap) (locs : List Loc), va_P G vwCl [(m0, .inr (8, [.int kn, .ref mJ, .int kFe, .int kMo, .int kCo, .long kT, .ref mF, .ref mD, .ref mS, .ref mP]))] H → va_D A [(m0, .inr (8, [.int kn, .ref mJ, .int kFe, .int kMo, .int kCo, .long kT, .ref mF, .ref mD, .ref mS, .ref mP]))] → va_S A s.heap H locs → W p l e (headSpec wsX9_set rmX9_set).room s m args below meth c H locs 0 0 QM (F0 m 0 ls []) from K9 _ _ hP hD hS
  clear hP hD hS
  intro H locs hP hD hS
  refine lv_iconst (v := (-1)) hx hb dX9_set_0 (by decide) ?_
  refine lv_istore_n (lv' := [(3, .int (-1)), (0, .ref m0), (1, .int p1), (2, .int p2)]) hx hb dX9_set_1 rfl hl (by decide) rfl (fun ls hl => ?_)
  refine lv_iload_n hx hb dX9_set_2 rfl (lv_at hl 2 rfl) ?_
  refine lv_if_ne (tgt := 29) hx hb dX9_set_3 (by decide) (fun c1 => ?_) (fun c1 => ?_)
  · obtain ⟨-, h⟩ := h
    specialize h c1
    refine lv_iload_n hx hb dX9_set_29 rfl (lv_at hl 2 rfl) ?_
    refine lv_iconst (v := 1) hx hb dX9_set_30 (by decide) ?_
    refine lv_icmp_ne (tgt := 57) hx hb dX9_set_31 (by decide) (fun c2 => ?_) (fun c2 => ?_)
    · obtain ⟨-, h⟩ := h
      specialize h c2
      refine lv_iload_n hx hb dX9_set_57 rfl (lv_at hl 2 rfl) ?_
      refine lv_iconst (v := 2) hx hb dX9_set_58 (by decide) ?_
      refine lv_icmp_ne (tgt := 81) hx hb dX9_set_59 (by decide) (fun c3 => ?_) (fun c3 => ?_)
      · obtain ⟨-, h⟩ := h
        specialize h c3
        refine lv_iload_n hx hb dX9_set_81 rfl (lv_at hl 0 rfl) ?_
        rw [← hQe]
        exact W.iret (v := (-1)) hx hb hr (fun t ht hW => ⟨⟨(-1), (kFe, kMo, kCo), rfl, h, by dsimp only; rw [ht]; exact hP⟩, hS.F ht⟩) hS.2.2 dX9_set_82
      · obtain ⟨h, -⟩ := h
        specialize h c3
        refine lv_iload_n hx hb dX9_set_62 rfl (lv_at hl 3 rfl) ?_
        refine lv_iconst (v := 1) hx hb dX9_set_63 (by decide) ?_
        refine lv_iconst (v := 4) hx hb dX9_set_64 (by decide) ?_
        obtain ⟨Q4, hw9, h⟩ := h
        have hPc : va_P G vwCl [] H := P_nil
        refine vp_callSi (va_Run.run (va_runS (As := [.int p2, .int 1, .int 4]) (rest := []) ⟨hx, hb, hml, hown, hts⟩ (ct_X9_in l G cy p2 1 4 Q4 hw9) (va_cwS 3 hts gX9_set_X9_in rfl rfl rfl (by decide +kernel) ⟨Nat.le_of_ble_eq_true rfl, Nat.le_of_ble_eq_true rfl⟩) (rP_S hK hPc) rfl rfl hl.1 rfl (lv_room (Nat.le_of_ble_eq_true rfl)) dX9_set_65 ⟨Nat.le_of_ble_eq_true rfl, Nat.le_of_ble_eq_true rfl⟩)) (fun r5 er5 => ?_)
        specialize h r5 er5
        refine lv_if_eq (tgt := 81) hx hb dX9_set_68 (by decide) (fun c6 => ?_) (fun c6 => ?_)
        · obtain ⟨h, -⟩ := h
          specialize h c6
          refine lv_iload_n hx hb dX9_set_81 rfl (lv_at hl 0 rfl) ?_
          rw [← hQe]
          exact W.iret (v := (-1)) hx hb hr (fun t ht hW => ⟨⟨(-1), (kFe, kMo, kCo), rfl, h, by dsimp only; rw [ht]; exact hP⟩, hS.F ht⟩) hS.2.2 dX9_set_82
        · obtain ⟨-, h⟩ := h
          specialize h c6
          refine lv_aload_n hx hb dX9_set_71 rfl (lv_at hl 1 rfl) ?_
          refine va_get (D := G) (ci := 8) (v := .int kCo) (C := RX9) (T := TX9) (N := 10) hx hb hts iwX9 hown hK.1 hP 0 rfl rfl 4 (by decide) fl20 (fun _ h9 => h9) rfl dX9_set_72 ?_
          refine lv_istore_n (lv' := [(3, .int kCo), (0, .ref m0), (1, .int p1), (2, .int p2)]) hx hb dX9_set_75 rfl hl (by decide) rfl (fun ls hl => ?_)
          refine lv_aload_n hx hb dX9_set_76 rfl (lv_at hl 1 rfl) ?_
          refine lv_iload_n hx hb dX9_set_77 rfl (lv_at hl 3 rfl) ?_
          refine va_put (D := G) (ci := 8) (v := .int p2) (ty := .int) (C := RX9) (T := TX9) (N := 10) hx hb hts iwX9 tyX9 tyX9_ok nmX9 hown hK.1 hP hD hS 0 rfl rfl 4 (by decide) fl20 (fun _ h9 => h9) rfl (by decide +kernel) rfl rfl (Nat.le_of_ble_eq_true rfl) dX9_set_78 (fun H locs hP hD hS => ?_)
          have hP : va_P G vwCl [(m0, .inr (8, [.int kn, .ref mJ, .int kFe, .int kMo, .int p2, .long kT, .ref mF, .ref mD, .ref mS, .ref mP]))] H := hP
          have hD : va_D A [(m0, .inr (8, [.int kn, .ref mJ, .int kFe, .int kMo, .int p2, .long kT, .ref mF, .ref mD, .ref mS, .ref mP]))] := hD
          refine lv_iload_n hx hb dX9_set_81 rfl (lv_at hl 0 rfl) ?_
          rw [← hQe]
          exact W.iret (v := kCo) hx hb hr (fun t ht hW => ⟨⟨kCo, (kFe, kMo, p2), rfl, h, by dsimp only; rw [ht]; exact hP⟩, hS.F ht⟩) hS.2.2 dX9_set_82
    · obtain ⟨h, -⟩ := h
      specialize h c2
      refine lv_iload_n hx hb dX9_set_34 rfl (lv_at hl 3 rfl) ?_
      refine lv_iconst (v := 0) hx hb dX9_set_35 (by decide) ?_
      refine lv_bipush (v := 9) hx hb dX9_set_36 (by decide) ?_
      obtain ⟨Q7, hw9, h⟩ := h
      have hPc : va_P G vwCl [] H := P_nil
      refine vp_callSi (va_Run.run (va_runS (As := [.int p2, .int 0, .int 9]) (rest := []) ⟨hx, hb, hml, hown, hts⟩ (ct_X9_in l G cy p2 0 9 Q7 hw9) (va_cwS 3 hts gX9_set_X9_in rfl rfl rfl (by decide +kernel) ⟨Nat.le_of_ble_eq_true rfl, Nat.le_of_ble_eq_true rfl⟩) (rP_S hK hPc) rfl rfl hl.1 rfl (lv_room (Nat.le_of_ble_eq_true rfl)) dX9_set_38 ⟨Nat.le_of_ble_eq_true rfl, Nat.le_of_ble_eq_true rfl⟩)) (fun r8 er8 => ?_)
      specialize h r8 er8
      refine lv_if_eq (tgt := 57) hx hb dX9_set_41 (by decide) (fun c9 => ?_) (fun c9 => ?_)
      · obtain ⟨h, -⟩ := h
        specialize h c9
        refine lv_iload_n hx hb dX9_set_57 rfl (lv_at hl 2 rfl) ?_
        refine lv_iconst (v := 2) hx hb dX9_set_58 (by decide) ?_
        refine lv_icmp_ne (tgt := 81) hx hb dX9_set_59 (by decide) (fun c10 => ?_) (fun c10 => ?_)
        · obtain ⟨-, h⟩ := h
          specialize h c10
          refine lv_iload_n hx hb dX9_set_81 rfl (lv_at hl 0 rfl) ?_
          rw [← hQe]
          exact W.iret (v := (-1)) hx hb hr (fun t ht hW => ⟨⟨(-1), (kFe, kMo, kCo), rfl, h, by dsimp only; rw [ht]; exact hP⟩, hS.F ht⟩) hS.2.2 dX9_set_82
        · obtain ⟨h, -⟩ := h
          specialize h c10
          refine lv_iload_n hx hb dX9_set_62 rfl (lv_at hl 3 rfl) ?_
          refine lv_iconst (v := 1) hx hb dX9_set_63 (by decide) ?_
          refine lv_iconst (v := 4) hx hb dX9_set_64 (by decide) ?_
          obtain ⟨Q11, hw9, h⟩ := h
          have hPc : va_P G vwCl [] H := P_nil
          refine vp_callSi (va_Run.run (va_runS (As := [.int p2, .int 1, .int 4]) (rest := []) ⟨hx, hb, hml, hown, hts⟩ (ct_X9_in l G cy p2 1 4 Q11 hw9) (va_cwS 3 hts gX9_set_X9_in rfl rfl rfl (by decide +kernel) ⟨Nat.le_of_ble_eq_true rfl, Nat.le_of_ble_eq_true rfl⟩) (rP_S hK hPc) rfl rfl hl.1 rfl (lv_room (Nat.le_of_ble_eq_true rfl)) dX9_set_65 ⟨Nat.le_of_ble_eq_true rfl, Nat.le_of_ble_eq_true rfl⟩)) (fun r12 er12 => ?_)
          specialize h r12 er12
          refine lv_if_eq (tgt := 81) hx hb dX9_set_68 (by decide) (fun c13 => ?_) (fun c13 => ?_)
          · obtain ⟨h, -⟩ := h
            specialize h c13
            refine lv_iload_n hx hb dX9_set_81 rfl (lv_at hl 0 rfl) ?_
            rw [← hQe]
            exact W.iret (v := (-1)) hx hb hr (fun t ht hW => ⟨⟨(-1), (kFe, kMo, kCo), rfl, h, by dsimp only; rw [ht]; exact hP⟩, hS.F ht⟩) hS.2.2 dX9_set_82
          · obtain ⟨-, h⟩ := h
            specialize h c13
            refine lv_aload_n hx hb dX9_set_71 rfl (lv_at hl 1 rfl) ?_
            refine va_get (D := G) (ci := 8) (v := .int kCo) (C := RX9) (T := TX9) (N := 10) hx hb hts iwX9 hown hK.1 hP 0 rfl rfl 4 (by decide) fl20 (fun _ h9 => h9) rfl dX9_set_72 ?_
            refine lv_istore_n (lv' := [(3, .int kCo), (0, .ref m0), (1, .int p1), (2, .int p2)]) hx hb dX9_set_75 rfl hl (by decide) rfl (fun ls hl => ?_)
            refine lv_aload_n hx hb dX9_set_76 rfl (lv_at hl 1 rfl) ?_
            refine lv_iload_n hx hb dX9_set_77 rfl (lv_at hl 3 rfl) ?_
            refine va_put (D := G) (ci := 8) (v := .int p2) (ty := .int) (C := RX9) (T := TX9) (N := 10) hx hb hts iwX9 tyX9 tyX9_ok nmX9 hown hK.1 hP hD hS 0 rfl rfl 4 (by decide) fl20 (fun _ h9 => h9) rfl (by decide +kernel) rfl rfl (Nat.le_of_ble_eq_true rfl) dX9_set_78 (fun H locs hP hD hS => ?_)
            have hP : va_P G vwCl [(m0, .inr (8, [.int kn, .ref mJ, .int kFe, .int kMo, .int p2, .long kT, .ref mF, .ref mD, .ref mS, .ref mP]))] H := hP
            have hD : va_D A [(m0, .inr (8, [.int kn, .ref mJ, .int kFe, .int kMo, .int p2, .long kT, .ref mF, .ref mD, .ref mS, .ref mP]))] := hD
            refine lv_iload_n hx hb dX9_set_81 rfl (lv_at hl 0 rfl) ?_
            rw [← hQe]
            exact W.iret (v := kCo) hx hb hr (fun t ht hW => ⟨⟨kCo, (kFe, kMo, p2), rfl, h, by dsimp only; rw [ht]; exact hP⟩, hS.F ht⟩) hS.2.2 dX9_set_82
      · obtain ⟨-, h⟩ := h
        specialize h c9
        refine lv_aload_n hx hb dX9_set_44 rfl (lv_at hl 1 rfl) ?_
        refine va_get (D := G) (ci := 8) (v := .int kMo) (C := RX9) (T := TX9) (N := 10) hx hb hts iwX9 hown hK.1 hP 0 rfl rfl 3 (by decide) fl17 (fun _ h9 => h9) rfl dX9_set_45 ?_
        refine lv_istore_n (lv' := [(3, .int kMo), (0, .ref m0), (1, .int p1), (2, .int p2)]) hx hb dX9_set_48 rfl hl (by decide) rfl (fun ls hl => ?_)
        refine lv_aload_n hx hb dX9_set_49 rfl (lv_at hl 1 rfl) ?_
        refine lv_iload_n hx hb dX9_set_50 rfl (lv_at hl 3 rfl) ?_
        refine va_put (D := G) (ci := 8) (v := .int p2) (ty := .int) (C := RX9) (T := TX9) (N := 10) hx hb hts iwX9 tyX9 tyX9_ok nmX9 hown hK.1 hP hD hS 0 rfl rfl 3 (by decide) fl17 (fun _ h9 => h9) rfl (by decide +kernel) rfl rfl (Nat.le_of_ble_eq_true rfl) dX9_set_51 (fun H locs hP hD hS => ?_)
        have hP : va_P G vwCl [(m0, .inr (8, [.int kn, .ref mJ, .int kFe, .int p2, .int kCo, .long kT, .ref mF, .ref mD, .ref mS, .ref mP]))] H := hP
        have hD : va_D A [(m0, .inr (8, [.int kn, .ref mJ, .int kFe, .int p2, .int kCo, .long kT, .ref mF, .ref mD, .ref mS, .ref mP]))] := hD
        refine lv_goto (tgt := 81) hx hb dX9_set_54 (by decide) ?_
        refine lv_iload_n hx hb dX9_set_81 rfl (lv_at hl 0 rfl) ?_
        rw [← hQe]
        exact W.iret (v := kMo) hx hb hr (fun t ht hW => ⟨⟨kMo, (kFe, p2, kCo), rfl, h, by dsimp only; rw [ht]; exact hP⟩, hS.F ht⟩) hS.2.2 dX9_set_82
  · obtain ⟨h, -⟩ := h
    specialize h c1
    refine lv_iload_n hx hb dX9_set_6 rfl (lv_at hl 3 rfl) ?_
    refine lv_iconst (v := 0) hx hb dX9_set_7 (by decide) ?_
    refine lv_bipush (v := 9) hx hb dX9_set_8 (by decide) ?_
    obtain ⟨Q14, hw9, h⟩ := h
    have hPc : va_P G vwCl [] H := P_nil
    refine vp_callSi (va_Run.run (va_runS (As := [.int p2, .int 0, .int 9]) (rest := []) ⟨hx, hb, hml, hown, hts⟩ (ct_X9_in l G cy p2 0 9 Q14 hw9) (va_cwS 3 hts gX9_set_X9_in rfl rfl rfl (by decide +kernel) ⟨Nat.le_of_ble_eq_true rfl, Nat.le_of_ble_eq_true rfl⟩) (rP_S hK hPc) rfl rfl hl.1 rfl (lv_room (Nat.le_of_ble_eq_true rfl)) dX9_set_10 ⟨Nat.le_of_ble_eq_true rfl, Nat.le_of_ble_eq_true rfl⟩)) (fun r15 er15 => ?_)
    specialize h r15 er15
    refine lv_if_eq (tgt := 29) hx hb dX9_set_13 (by decide) (fun c16 => ?_) (fun c16 => ?_)
    · obtain ⟨h, -⟩ := h
      specialize h c16
      refine lv_iload_n hx hb dX9_set_29 rfl (lv_at hl 2 rfl) ?_
      refine lv_iconst (v := 1) hx hb dX9_set_30 (by decide) ?_
      refine lv_icmp_ne (tgt := 57) hx hb dX9_set_31 (by decide) (fun c17 => ?_) (fun c17 => ?_)
      · obtain ⟨-, h⟩ := h
        specialize h c17
        refine lv_iload_n hx hb dX9_set_57 rfl (lv_at hl 2 rfl) ?_
        refine lv_iconst (v := 2) hx hb dX9_set_58 (by decide) ?_
        refine lv_icmp_ne (tgt := 81) hx hb dX9_set_59 (by decide) (fun c18 => ?_) (fun c18 => ?_)
        · obtain ⟨-, h⟩ := h
          specialize h c18
          refine lv_iload_n hx hb dX9_set_81 rfl (lv_at hl 0 rfl) ?_
          rw [← hQe]
          exact W.iret (v := (-1)) hx hb hr (fun t ht hW => ⟨⟨(-1), (kFe, kMo, kCo), rfl, h, by dsimp only; rw [ht]; exact hP⟩, hS.F ht⟩) hS.2.2 dX9_set_82
        · obtain ⟨h, -⟩ := h
          specialize h c18
          refine lv_iload_n hx hb dX9_set_62 rfl (lv_at hl 3 rfl) ?_
          refine lv_iconst (v := 1) hx hb dX9_set_63 (by decide) ?_
          refine lv_iconst (v := 4) hx hb dX9_set_64 (by decide) ?_
          obtain ⟨Q19, hw9, h⟩ := h
          have hPc : va_P G vwCl [] H := P_nil
          refine vp_callSi (va_Run.run (va_runS (As := [.int p2, .int 1, .int 4]) (rest := []) ⟨hx, hb, hml, hown, hts⟩ (ct_X9_in l G cy p2 1 4 Q19 hw9) (va_cwS 3 hts gX9_set_X9_in rfl rfl rfl (by decide +kernel) ⟨Nat.le_of_ble_eq_true rfl, Nat.le_of_ble_eq_true rfl⟩) (rP_S hK hPc) rfl rfl hl.1 rfl (lv_room (Nat.le_of_ble_eq_true rfl)) dX9_set_65 ⟨Nat.le_of_ble_eq_true rfl, Nat.le_of_ble_eq_true rfl⟩)) (fun r20 er20 => ?_)
          specialize h r20 er20
          refine lv_if_eq (tgt := 81) hx hb dX9_set_68 (by decide) (fun c21 => ?_) (fun c21 => ?_)
          · obtain ⟨h, -⟩ := h
            specialize h c21
            refine lv_iload_n hx hb dX9_set_81 rfl (lv_at hl 0 rfl) ?_
            rw [← hQe]
            exact W.iret (v := (-1)) hx hb hr (fun t ht hW => ⟨⟨(-1), (kFe, kMo, kCo), rfl, h, by dsimp only; rw [ht]; exact hP⟩, hS.F ht⟩) hS.2.2 dX9_set_82
          · obtain ⟨-, h⟩ := h
            specialize h c21
            refine lv_aload_n hx hb dX9_set_71 rfl (lv_at hl 1 rfl) ?_
            refine va_get (D := G) (ci := 8) (v := .int kCo) (C := RX9) (T := TX9) (N := 10) hx hb hts iwX9 hown hK.1 hP 0 rfl rfl 4 (by decide) fl20 (fun _ h9 => h9) rfl dX9_set_72 ?_
            refine lv_istore_n (lv' := [(3, .int kCo), (0, .ref m0), (1, .int p1), (2, .int p2)]) hx hb dX9_set_75 rfl hl (by decide) rfl (fun ls hl => ?_)
            refine lv_aload_n hx hb dX9_set_76 rfl (lv_at hl 1 rfl) ?_
            refine lv_iload_n hx hb dX9_set_77 rfl (lv_at hl 3 rfl) ?_
            refine va_put (D := G) (ci := 8) (v := .int p2) (ty := .int) (C := RX9) (T := TX9) (N := 10) hx hb hts iwX9 tyX9 tyX9_ok nmX9 hown hK.1 hP hD hS 0 rfl rfl 4 (by decide) fl20 (fun _ h9 => h9) rfl (by decide +kernel) rfl rfl (Nat.le_of_ble_eq_true rfl) dX9_set_78 (fun H locs hP hD hS => ?_)
            have hP : va_P G vwCl [(m0, .inr (8, [.int kn, .ref mJ, .int kFe, .int kMo, .int p2, .long kT, .ref mF, .ref mD, .ref mS, .ref mP]))] H := hP
            have hD : va_D A [(m0, .inr (8, [.int kn, .ref mJ, .int kFe, .int kMo, .int p2, .long kT, .ref mF, .ref mD, .ref mS, .ref mP]))] := hD
            refine lv_iload_n hx hb dX9_set_81 rfl (lv_at hl 0 rfl) ?_
            rw [← hQe]
            exact W.iret (v := kCo) hx hb hr (fun t ht hW => ⟨⟨kCo, (kFe, kMo, p2), rfl, h, by dsimp only; rw [ht]; exact hP⟩, hS.F ht⟩) hS.2.2 dX9_set_82
      · obtain ⟨h, -⟩ := h
        specialize h c17
        refine lv_iload_n hx hb dX9_set_34 rfl (lv_at hl 3 rfl) ?_
        refine lv_iconst (v := 0) hx hb dX9_set_35 (by decide) ?_
        refine lv_bipush (v := 9) hx hb dX9_set_36 (by decide) ?_
        obtain ⟨Q22, hw9, h⟩ := h
        have hPc : va_P G vwCl [] H := P_nil
        refine vp_callSi (va_Run.run (va_runS (As := [.int p2, .int 0, .int 9]) (rest := []) ⟨hx, hb, hml, hown, hts⟩ (ct_X9_in l G cy p2 0 9 Q22 hw9) (va_cwS 3 hts gX9_set_X9_in rfl rfl rfl (by decide +kernel) ⟨Nat.le_of_ble_eq_true rfl, Nat.le_of_ble_eq_true rfl⟩) (rP_S hK hPc) rfl rfl hl.1 rfl (lv_room (Nat.le_of_ble_eq_true rfl)) dX9_set_38 ⟨Nat.le_of_ble_eq_true rfl, Nat.le_of_ble_eq_true rfl⟩)) (fun r23 er23 => ?_)
        specialize h r23 er23
        refine lv_if_eq (tgt := 57) hx hb dX9_set_41 (by decide) (fun c24 => ?_) (fun c24 => ?_)
        · obtain ⟨h, -⟩ := h
          specialize h c24
          refine lv_iload_n hx hb dX9_set_57 rfl (lv_at hl 2 rfl) ?_
          refine lv_iconst (v := 2) hx hb dX9_set_58 (by decide) ?_
          refine lv_icmp_ne (tgt := 81) hx hb dX9_set_59 (by decide) (fun c25 => ?_) (fun c25 => ?_)
          · obtain ⟨-, h⟩ := h
            specialize h c25
            refine lv_iload_n hx hb dX9_set_81 rfl (lv_at hl 0 rfl) ?_
            rw [← hQe]
            exact W.iret (v := (-1)) hx hb hr (fun t ht hW => ⟨⟨(-1), (kFe, kMo, kCo), rfl, h, by dsimp only; rw [ht]; exact hP⟩, hS.F ht⟩) hS.2.2 dX9_set_82
          · obtain ⟨h, -⟩ := h
            specialize h c25
            refine lv_iload_n hx hb dX9_set_62 rfl (lv_at hl 3 rfl) ?_
            refine lv_iconst (v := 1) hx hb dX9_set_63 (by decide) ?_
            refine lv_iconst (v := 4) hx hb dX9_set_64 (by decide) ?_
            obtain ⟨Q26, hw9, h⟩ := h
            have hPc : va_P G vwCl [] H := P_nil
            refine vp_callSi (va_Run.run (va_runS (As := [.int p2, .int 1, .int 4]) (rest := []) ⟨hx, hb, hml, hown, hts⟩ (ct_X9_in l G cy p2 1 4 Q26 hw9) (va_cwS 3 hts gX9_set_X9_in rfl rfl rfl (by decide +kernel) ⟨Nat.le_of_ble_eq_true rfl, Nat.le_of_ble_eq_true rfl⟩) (rP_S hK hPc) rfl rfl hl.1 rfl (lv_room (Nat.le_of_ble_eq_true rfl)) dX9_set_65 ⟨Nat.le_of_ble_eq_true rfl, Nat.le_of_ble_eq_true rfl⟩)) (fun r27 er27 => ?_)
            specialize h r27 er27
            refine lv_if_eq (tgt := 81) hx hb dX9_set_68 (by decide) (fun c28 => ?_) (fun c28 => ?_)
            · obtain ⟨h, -⟩ := h
              specialize h c28
              refine lv_iload_n hx hb dX9_set_81 rfl (lv_at hl 0 rfl) ?_
              rw [← hQe]
              exact W.iret (v := (-1)) hx hb hr (fun t ht hW => ⟨⟨(-1), (kFe, kMo, kCo), rfl, h, by dsimp only; rw [ht]; exact hP⟩, hS.F ht⟩) hS.2.2 dX9_set_82
            · obtain ⟨-, h⟩ := h
              specialize h c28
              refine lv_aload_n hx hb dX9_set_71 rfl (lv_at hl 1 rfl) ?_
              refine va_get (D := G) (ci := 8) (v := .int kCo) (C := RX9) (T := TX9) (N := 10) hx hb hts iwX9 hown hK.1 hP 0 rfl rfl 4 (by decide) fl20 (fun _ h9 => h9) rfl dX9_set_72 ?_
              refine lv_istore_n (lv' := [(3, .int kCo), (0, .ref m0), (1, .int p1), (2, .int p2)]) hx hb dX9_set_75 rfl hl (by decide) rfl (fun ls hl => ?_)
              refine lv_aload_n hx hb dX9_set_76 rfl (lv_at hl 1 rfl) ?_
              refine lv_iload_n hx hb dX9_set_77 rfl (lv_at hl 3 rfl) ?_
              refine va_put (D := G) (ci := 8) (v := .int p2) (ty := .int) (C := RX9) (T := TX9) (N := 10) hx hb hts iwX9 tyX9 tyX9_ok nmX9 hown hK.1 hP hD hS 0 rfl rfl 4 (by decide) fl20 (fun _ h9 => h9) rfl (by decide +kernel) rfl rfl (Nat.le_of_ble_eq_true rfl) dX9_set_78 (fun H locs hP hD hS => ?_)
              have hP : va_P G vwCl [(m0, .inr (8, [.int kn, .ref mJ, .int kFe, .int kMo, .int p2, .long kT, .ref mF, .ref mD, .ref mS, .ref mP]))] H := hP
              have hD : va_D A [(m0, .inr (8, [.int kn, .ref mJ, .int kFe, .int kMo, .int p2, .long kT, .ref mF, .ref mD, .ref mS, .ref mP]))] := hD
              refine lv_iload_n hx hb dX9_set_81 rfl (lv_at hl 0 rfl) ?_
              rw [← hQe]
              exact W.iret (v := kCo) hx hb hr (fun t ht hW => ⟨⟨kCo, (kFe, kMo, p2), rfl, h, by dsimp only; rw [ht]; exact hP⟩, hS.F ht⟩) hS.2.2 dX9_set_82
        · obtain ⟨-, h⟩ := h
          specialize h c24
          refine lv_aload_n hx hb dX9_set_44 rfl (lv_at hl 1 rfl) ?_
          refine va_get (D := G) (ci := 8) (v := .int kMo) (C := RX9) (T := TX9) (N := 10) hx hb hts iwX9 hown hK.1 hP 0 rfl rfl 3 (by decide) fl17 (fun _ h9 => h9) rfl dX9_set_45 ?_
          refine lv_istore_n (lv' := [(3, .int kMo), (0, .ref m0), (1, .int p1), (2, .int p2)]) hx hb dX9_set_48 rfl hl (by decide) rfl (fun ls hl => ?_)
          refine lv_aload_n hx hb dX9_set_49 rfl (lv_at hl 1 rfl) ?_
          refine lv_iload_n hx hb dX9_set_50 rfl (lv_at hl 3 rfl) ?_
          refine va_put (D := G) (ci := 8) (v := .int p2) (ty := .int) (C := RX9) (T := TX9) (N := 10) hx hb hts iwX9 tyX9 tyX9_ok nmX9 hown hK.1 hP hD hS 0 rfl rfl 3 (by decide) fl17 (fun _ h9 => h9) rfl (by decide +kernel) rfl rfl (Nat.le_of_ble_eq_true rfl) dX9_set_51 (fun H locs hP hD hS => ?_)
          have hP : va_P G vwCl [(m0, .inr (8, [.int kn, .ref mJ, .int kFe, .int p2, .int kCo, .long kT, .ref mF, .ref mD, .ref mS, .ref mP]))] H := hP
          have hD : va_D A [(m0, .inr (8, [.int kn, .ref mJ, .int kFe, .int p2, .int kCo, .long kT, .ref mF, .ref mD, .ref mS, .ref mP]))] := hD
          refine lv_goto (tgt := 81) hx hb dX9_set_54 (by decide) ?_
          refine lv_iload_n hx hb dX9_set_81 rfl (lv_at hl 0 rfl) ?_
          rw [← hQe]
          exact W.iret (v := kMo) hx hb hr (fun t ht hW => ⟨⟨kMo, (kFe, p2, kCo), rfl, h, by dsimp only; rw [ht]; exact hP⟩, hS.F ht⟩) hS.2.2 dX9_set_82
    · obtain ⟨-, h⟩ := h
      specialize h c16
      refine lv_aload_n hx hb dX9_set_16 rfl (lv_at hl 1 rfl) ?_
      refine va_get (D := G) (ci := 8) (v := .int kFe) (C := RX9) (T := TX9) (N := 10) hx hb hts iwX9 hown hK.1 hP 0 rfl rfl 2 (by decide) fl36 (fun _ h9 => h9) rfl dX9_set_17 ?_
      refine lv_istore_n (lv' := [(3, .int kFe), (0, .ref m0), (1, .int p1), (2, .int p2)]) hx hb dX9_set_20 rfl hl (by decide) rfl (fun ls hl => ?_)
      refine lv_aload_n hx hb dX9_set_21 rfl (lv_at hl 1 rfl) ?_
      refine lv_iload_n hx hb dX9_set_22 rfl (lv_at hl 3 rfl) ?_
      refine va_put (D := G) (ci := 8) (v := .int p2) (ty := .int) (C := RX9) (T := TX9) (N := 10) hx hb hts iwX9 tyX9 tyX9_ok nmX9 hown hK.1 hP hD hS 0 rfl rfl 2 (by decide) fl36 (fun _ h9 => h9) rfl (by decide +kernel) rfl rfl (Nat.le_of_ble_eq_true rfl) dX9_set_23 (fun H locs hP hD hS => ?_)
      have hP : va_P G vwCl [(m0, .inr (8, [.int kn, .ref mJ, .int p2, .int kMo, .int kCo, .long kT, .ref mF, .ref mD, .ref mS, .ref mP]))] H := hP
      have hD : va_D A [(m0, .inr (8, [.int kn, .ref mJ, .int p2, .int kMo, .int kCo, .long kT, .ref mF, .ref mD, .ref mS, .ref mP]))] := hD
      refine lv_goto (tgt := 81) hx hb dX9_set_26 (by decide) ?_
      refine lv_iload_n hx hb dX9_set_81 rfl (lv_at hl 0 rfl) ?_
      rw [← hQe]
      exact W.iret (v := kFe) hx hb hr (fun t ht hW => ⟨⟨kFe, (p2, kMo, kCo), rfl, h, by dsimp only; rw [ht]; exact hP⟩, hS.F ht⟩) hS.2.2 dX9_set_82
