set_option maxHeartbeats 4000000 in
set_option maxRecDepth 100000 in
theorem ct_X8_lawful (l : Launch) (G : va_G) (cy : Nat → ClassId) (a0 aN aR aM aP aW aT : Nat) (vLe : Int32) (vMo : Int32) (vCo : Int32) (vn : Int32) (fN : Nat → Int32) (p1 : Int32) (p2 : Int32) (Q : Int32 → Prop) (h : wp_X8_lawful vn fN p1 p2 Q) : Met l yX8_lawful wsX8_lawful rmX8_lawful (va_Pc [.ref a0, .int p1, .int p2] (rP G cy [(a0, .inr (7, [.ref aN, .ref aM, .ref aP, .ref aW, .ref aT, .int vLe, .int vMo, .int vCo])), (aN, .inr (3, [.ref aR, .int vn])), (aR, .inl (cy 0, 9, .inl fN))])) (vp_Si Q) 0 0 (fun _ => False) := by
  unfold wp_X8_lawful at h
  refine Met.ofW (cc := cX8_lawful) (maxL := 3) (ret := (some .int)) (by decide) rfl ?_
  intro p e s m args below meth c s₁ B hml hv
  obtain ⟨hav, hP, hK⟩ := hv
  have hx := B.exec
  have hb := B.bytes
  have hr := B.returns
  have hts := atoms_spec (ws := wsX8_lawful) B.pre
  have hown : s.vm.findClass RX8 = some m.cls := findClass_of_methodNamed B.named
  have hlocks := B.notSynchronized
  have hl := lv_entry ([.ref a0, .int p1, .int p2]) (n := 3) (Nat.le_of_ble_eq_true rfl)
  rw [show entryFrame m args 3 = entryFrame m ([.ref a0, .int p1, .int p2] : List Value).toArray 3 by rw [hav], lg_entry_eq]
  generalize (lg_sl ([.ref a0, .int p1, .int p2]) ++ List.replicate (3 - (lg_sl ([.ref a0, .int p1, .int p2])).length) Slot.unset).toArray = ls at hl ⊢
  have hl : lv_has ls 3 [(0, .ref a0), (1, .int p1), (2, .int p2)] := hl
  generalize hQe : MQ below _ _ _ _ _ _ = QM
  have iwX8 : ∀ w ∈ wsX80, w ∈ wsX8_lawful := by decide +kernel
  have fl10 := hts (.fieldLink RX8 10 "SlidTokens" "graph" "LSlidTokens$Net;") (by decide +kernel)
  refine lv_iload_n hx hb dX8_lawful_0 rfl (lv_at hl 1 rfl) ?_
  obtain ⟨Q1, hw9, h⟩ := h
  have hPc : va_P G vwCl [] s.heap := P_nil
  refine vp_callSi (va_Run.run (va_runS (As := [.int p1]) (rest := []) ⟨hx, hb, hml, hown, hts⟩ (ct_X8_isKind l G cy p1 Q1 hw9) (va_cwS 1 hts gX8_lawful_X8_isKind rfl rfl rfl (by decide +kernel) ⟨Nat.le_of_ble_eq_true rfl, Nat.le_of_ble_eq_true rfl⟩) (rP_S hK hPc) rfl rfl hl.1 rfl (lv_room (Nat.le_of_ble_eq_true rfl)) dX8_lawful_1 ⟨Nat.le_of_ble_eq_true rfl, Nat.le_of_ble_eq_true rfl⟩)) (fun r2 er2 => ?_)
  specialize h r2 er2
  refine lv_if_eq (tgt := 18) hx hb dX8_lawful_4 (by decide) (fun c3 => ?_) (fun c3 => ?_)
  · obtain ⟨h, -⟩ := h
    specialize h c3
    refine lv_iconst (v := (-1)) hx hb dX8_lawful_18 (by decide) ?_
    rw [← hQe]
    exact W.iret (v := (-1)) hx hb hr (fun t ht hW => ⟨(-1), rfl, h, ht⟩) (fun q9 h9 => by cases h9) dX8_lawful_19
  · obtain ⟨-, h⟩ := h
    specialize h c3
    refine lv_aload_n hx hb dX8_lawful_7 rfl (lv_at hl 0 rfl) ?_
    refine va_get (D := G) (ci := 7) (v := .ref aN) (C := RX8) (T := TX8) (N := 8) hx hb hts iwX8 hown hK.1 hP 0 rfl rfl 0 (by decide) fl10 (fun _ h9 => h9) rfl dX8_lawful_8 ?_
    refine lv_iload_n hx hb dX8_lawful_11 rfl (lv_at hl 2 rfl) ?_
    obtain ⟨Q4, hw9, h⟩ := h
    have hPc : va_P G vwCl [(aN, .inr (3, [.ref aR, .int vn])), (aR, .inl (cy 0, 9, .inl fN))] s.heap := hP.sub [1, 2] rfl
    refine vp_callSi (va_Run.run (va_runV (As := [.int p2]) (rest := []) ⟨hx, hb, hml, hown, hts⟩ (ct_X3_hasSet l G cy aN aR vn fN p2 Q4 hw9) (cwV 1 hts gX8_lawful_X3_hasSet rfl rfl rfl (by decide +kernel) ⟨Nat.le_of_ble_eq_true rfl, Nat.le_of_ble_eq_true rfl⟩) (rP_V hK hP (ci := 3) (q0 := 1) rfl rfl hPc) rfl rfl hl.1 rfl (lv_room (Nat.le_of_ble_eq_true rfl)) dX8_lawful_12 ⟨Nat.le_of_ble_eq_true rfl, Nat.le_of_ble_eq_true rfl⟩)) (fun r5 er5 => ?_)
    specialize h r5 er5
    refine lv_if_ne (tgt := 20) hx hb dX8_lawful_15 (by decide) (fun c6 => ?_) (fun c6 => ?_)
    · obtain ⟨-, h⟩ := h
      specialize h c6
      refine lv_aload_n hx hb dX8_lawful_20 rfl (lv_at hl 0 rfl) ?_
      refine va_get (D := G) (ci := 7) (v := .ref aN) (C := RX8) (T := TX8) (N := 8) hx hb hts iwX8 hown hK.1 hP 0 rfl rfl 0 (by decide) fl10 (fun _ h9 => h9) rfl dX8_lawful_21 ?_
      refine lv_iload_n hx hb dX8_lawful_24 rfl (lv_at hl 1 rfl) ?_
      refine lv_iload_n hx hb dX8_lawful_25 rfl (lv_at hl 2 rfl) ?_
      obtain ⟨Q7, hw9, h⟩ := h
      have hPc : va_P G vwCl [(aN, .inr (3, [.ref aR, .int vn])), (aR, .inl (cy 0, 9, .inl fN))] s.heap := hP.sub [1, 2] rfl
      refine vp_callSi (va_Run.run (va_runV (As := [.int p1, .int p2]) (rest := []) ⟨hx, hb, hml, hown, hts⟩ (ct_X3_isLawful l G cy aN aR vn fN p1 p2 Q7 hw9) (cwV 2 hts gX8_lawful_X3_isLawful rfl rfl rfl (by decide +kernel) ⟨Nat.le_of_ble_eq_true rfl, Nat.le_of_ble_eq_true rfl⟩) (rP_V hK hP (ci := 3) (q0 := 1) rfl rfl hPc) rfl rfl hl.1 rfl (lv_room (Nat.le_of_ble_eq_true rfl)) dX8_lawful_26 ⟨Nat.le_of_ble_eq_true rfl, Nat.le_of_ble_eq_true rfl⟩)) (fun r8 er8 => ?_)
      specialize h r8 er8
      obtain ⟨Q9, hw9, h⟩ := h
      have hPc : va_P G vwCl [] s.heap := P_nil
      refine vp_callSi (va_Run.run (va_runS (As := [.int r8]) (rest := []) ⟨hx, hb, hml, hown, hts⟩ (ct_X8_asNumber l G cy r8 Q9 hw9) (va_cwS 1 hts gX8_lawful_X8_asNumber rfl rfl rfl (by decide +kernel) ⟨Nat.le_of_ble_eq_true rfl, Nat.le_of_ble_eq_true rfl⟩) (rP_S hK hPc) rfl rfl hl.1 rfl (lv_room (Nat.le_of_ble_eq_true rfl)) dX8_lawful_29 ⟨Nat.le_of_ble_eq_true rfl, Nat.le_of_ble_eq_true rfl⟩)) (fun r10 er10 => ?_)
      specialize h r10 er10
      rw [← hQe]
      exact W.iret (v := r10) hx hb hr (fun t ht hW => ⟨r10, rfl, h, ht⟩) (fun q9 h9 => by cases h9) dX8_lawful_32
    · obtain ⟨h, -⟩ := h
      specialize h c6
      refine lv_iconst (v := (-1)) hx hb dX8_lawful_18 (by decide) ?_
      rw [← hQe]
      exact W.iret (v := (-1)) hx hb hr (fun t ht hW => ⟨(-1), rfl, h, ht⟩) (fun q9 h9 => by cases h9) dX8_lawful_19

set_option maxHeartbeats 4000000 in
set_option maxRecDepth 100000 in
theorem ct_X8_count (l : Launch) (G : va_G) (cy : Nat → ClassId) (a0 aN aR aM aP aW aT : Nat) (vLe : Int32) (vMo : Int32) (vCo : Int32) (vn : Int32) (fN : Nat → Int32) (p1 : Int32) (p2 : Int32) (Q : Int32 → Prop) (h : wp_X8_count vn fN p1 p2 Q) : Met l yX8_count wsX8_count rmX8_count (va_Pc [.ref a0, .int p1, .int p2] (rP G cy [(a0, .inr (7, [.ref aN, .ref aM, .ref aP, .ref aW, .ref aT, .int vLe, .int vMo, .int vCo])), (aN, .inr (3, [.ref aR, .int vn])), (aR, .inl (cy 0, 9, .inl fN))])) (vp_Si Q) 0 0 (fun _ => False) := by
  unfold wp_X8_count at h
  refine Met.ofW (cc := cX8_count) (maxL := 6) (ret := (some .int)) (by decide) rfl ?_
  intro p e s m args below meth c s₁ B hml hv
  obtain ⟨hav, hP, hK⟩ := hv
  have hx := B.exec
  have hb := B.bytes
  have hr := B.returns
  have hts := atoms_spec (ws := wsX8_count) B.pre
  have hown : s.vm.findClass RX8 = some m.cls := findClass_of_methodNamed B.named
  have hlocks := B.notSynchronized
  have hl := lv_entry ([.ref a0, .int p1, .int p2]) (n := 6) (Nat.le_of_ble_eq_true rfl)
  rw [show entryFrame m args 6 = entryFrame m ([.ref a0, .int p1, .int p2] : List Value).toArray 6 by rw [hav], lg_entry_eq]
  generalize (lg_sl ([.ref a0, .int p1, .int p2]) ++ List.replicate (6 - (lg_sl ([.ref a0, .int p1, .int p2])).length) Slot.unset).toArray = ls at hl ⊢
  have hl : lv_has ls 6 [(0, .ref a0), (1, .int p1), (2, .int p2)] := hl
  generalize hQe : MQ below _ _ _ _ _ _ = QM
  have iwX8 : ∀ w ∈ wsX80, w ∈ wsX8_count := by decide +kernel
  have fl10 := hts (.fieldLink RX8 10 "SlidTokens" "graph" "LSlidTokens$Net;") (by decide +kernel)
  have iwX3 : ∀ w ∈ wsX30, w ∈ wsX8_count := by decide +kernel
  have fl66 := hts (.fieldLink RX8 66 "SlidTokens$Net" "nodes" "I") (by decide +kernel)
  refine lv_iload_n hx hb dX8_count_0 rfl (lv_at hl 1 rfl) ?_
  obtain ⟨Q1, hw9, h⟩ := h
  have hPc : va_P G vwCl [] s.heap := P_nil
  refine vp_callSi (va_Run.run (va_runS (As := [.int p1]) (rest := []) ⟨hx, hb, hml, hown, hts⟩ (ct_X8_isKind l G cy p1 Q1 hw9) (va_cwS 1 hts gX8_count_X8_isKind rfl rfl rfl (by decide +kernel) ⟨Nat.le_of_ble_eq_true rfl, Nat.le_of_ble_eq_true rfl⟩) (rP_S hK hPc) rfl rfl hl.1 rfl (lv_room (Nat.le_of_ble_eq_true rfl)) dX8_count_1 ⟨Nat.le_of_ble_eq_true rfl, Nat.le_of_ble_eq_true rfl⟩)) (fun r2 er2 => ?_)
  specialize h r2 er2
  refine lv_if_eq (tgt := 22) hx hb dX8_count_4 (by decide) (fun c3 => ?_) (fun c3 => ?_)
  · obtain ⟨h, -⟩ := h
    specialize h c3
    refine lv_iconst (v := (-1)) hx hb dX8_count_22 (by decide) ?_
    rw [← hQe]
    exact W.iret (v := (-1)) hx hb hr (fun t ht hW => ⟨(-1), rfl, h, ht⟩) (fun q9 h9 => by cases h9) dX8_count_23
  · obtain ⟨-, h⟩ := h
    specialize h c3
    refine lv_iload_n hx hb dX8_count_7 rfl (lv_at hl 2 rfl) ?_
    refine lv_iconst (v := (-1)) hx hb dX8_count_8 (by decide) ?_
    refine lv_aload_n hx hb dX8_count_9 rfl (lv_at hl 0 rfl) ?_
    refine va_get (D := G) (ci := 7) (v := .ref aN) (C := RX8) (T := TX8) (N := 8) hx hb hts iwX8 hown hK.1 hP 0 rfl rfl 0 (by decide) fl10 (fun _ h9 => h9) rfl dX8_count_10 ?_
    refine va_get (D := G) (ci := 3) (v := .int vn) (C := RX3) (T := TX3) (N := 2) hx hb hts iwX3 hown hK.1 hP 1 rfl rfl 1 (by decide) fl66 (fun _ h9 => h9) rfl dX8_count_13 ?_
    obtain ⟨Q4, hw9, h⟩ := h
    have hPc : va_P G vwCl [] s.heap := P_nil
    refine vp_callSi (va_Run.run (va_runS (As := [.int p2, .int (-1), .int vn]) (rest := []) ⟨hx, hb, hml, hown, hts⟩ (ct_X8_isWithin l G cy p2 (-1) vn Q4 hw9) (va_cwS 3 hts gX8_count_X8_isWithin rfl rfl rfl (by decide +kernel) ⟨Nat.le_of_ble_eq_true rfl, Nat.le_of_ble_eq_true rfl⟩) (rP_S hK hPc) rfl rfl hl.1 rfl (lv_room (Nat.le_of_ble_eq_true rfl)) dX8_count_16 ⟨Nat.le_of_ble_eq_true rfl, Nat.le_of_ble_eq_true rfl⟩)) (fun r5 er5 => ?_)
    specialize h r5 er5
    refine lv_if_ne (tgt := 24) hx hb dX8_count_19 (by decide) (fun c6 => ?_) (fun c6 => ?_)
    · obtain ⟨-, h⟩ := h
      specialize h c6
      refine lv_iconst (v := 0) hx hb dX8_count_24 (by decide) ?_
      refine lv_istore_n (lv' := [(3, .int 0), (0, .ref a0), (1, .int p1), (2, .int p2)]) hx hb dX8_count_25 rfl hl (by decide) rfl (fun ls hl => ?_)
      refine lv_iconst (v := 0) hx hb dX8_count_26 (by decide) ?_
      refine lv_istore (lv' := [(4, .int 0), (3, .int 0), (0, .ref a0), (1, .int p1), (2, .int p2)]) hx hb dX8_count_27 hl (by decide) rfl (fun ls hl => ?_)
      obtain ⟨I29_8, u29_8, h029, hst29⟩ := h
      have key29 : ∀ (k9 : Nat) (y7 : Int32) (y8 : Int32), I29_8 y7 y8 → u29_8 y7 y8 < k9 → ∀ (ls : Array Slot), lv_has ls 6 [(0, .ref a0), (1, .int p1), (2, .int p2), (3, .int y7), (4, .int y8)] → W p l e (headSpec wsX8_count rmX8_count).room s m args below meth c s.heap [] 0 0 QM (F0 m 29 ls []) := by
        intro k9
        induction k9 with
        | zero =>
          intro y7 y8 hI9 hk9
          exact absurd hk9 (Nat.not_lt_zero _)
        | succ k9 ih29 =>
          intro y7 y8 hI9 hk29 ls hl
          have h := hst29 y7 y8 hI9
          refine lv_iload hx hb dX8_count_29 (lv_at hl 4 rfl) ?_
          refine lv_aload_n hx hb dX8_count_31 rfl (lv_at hl 0 rfl) ?_
          refine va_get (D := G) (ci := 7) (v := .ref aN) (C := RX8) (T := TX8) (N := 8) hx hb hts iwX8 hown hK.1 hP 0 rfl rfl 0 (by decide) fl10 (fun _ h9 => h9) rfl dX8_count_32 ?_
          obtain ⟨Q9, hw9, h⟩ := h
          have hPc : va_P G vwCl [(aN, .inr (3, [.ref aR, .int vn])), (aR, .inl (cy 0, 9, .inl fN))] s.heap := hP.sub [1, 2] rfl
          refine vp_callSi (va_Run.run (va_runV (As := []) (rest := [.int y8]) ⟨hx, hb, hml, hown, hts⟩ (ct_X3_all l G cy aN aR vn fN Q9 hw9) (cwV 0 hts gX8_count_X3_all rfl rfl rfl (by decide +kernel) ⟨Nat.le_of_ble_eq_true rfl, Nat.le_of_ble_eq_true rfl⟩) (rP_V hK hP (ci := 3) (q0 := 1) rfl rfl hPc) rfl rfl hl.1 rfl (lv_room (Nat.le_of_ble_eq_true rfl)) dX8_count_35 ⟨Nat.le_of_ble_eq_true rfl, Nat.le_of_ble_eq_true rfl⟩)) (fun r10 er10 => ?_)
          specialize h r10 er10
          refine lv_icmp_gt (tgt := 89) hx hb dX8_count_38 (by decide) (fun c11 => ?_) (fun c11 => ?_)
          · obtain ⟨h, -⟩ := h
            specialize h c11
            refine lv_iload_n hx hb dX8_count_89 rfl (lv_at hl 3 rfl) ?_
            rw [← hQe]
            exact W.iret (v := y7) hx hb hr (fun t ht hW => ⟨y7, rfl, h, ht⟩) (fun q9 h9 => by cases h9) dX8_count_90
          · obtain ⟨-, h⟩ := h
            specialize h c11
            refine lv_iload_n hx hb dX8_count_41 rfl (lv_at hl 2 rfl) ?_
            refine lv_iconst (v := (-1)) hx hb dX8_count_42 (by decide) ?_
            refine lv_icmp_eq (tgt := 55) hx hb dX8_count_43 (by decide) (fun c12 => ?_) (fun c12 => ?_)
            · obtain ⟨h, -⟩ := h
              specialize h c12
              refine lv_iconst (v := 1) hx hb dX8_count_55 (by decide) ?_
              refine lv_goto (tgt := 60) hx hb dX8_count_56 (by decide) ?_
              refine lv_istore (lv' := [(5, .int 1), (0, .ref a0), (1, .int p1), (2, .int p2), (3, .int y7), (4, .int y8)]) hx hb dX8_count_60 hl (by decide) rfl (fun ls hl => ?_)
              refine lv_iload hx hb dX8_count_62 (lv_at hl 0 rfl) ?_
              refine lv_if_eq (tgt := 83) hx hb dX8_count_64 (by decide) (fun c13 => ?_) (fun c13 => ?_)
              · obtain ⟨h, -⟩ := h
                specialize h c13
                obtain ⟨x14, ex14⟩ : ∃ y : Int32, y = y8 + 1 := ⟨_, rfl⟩
                specialize h x14 ex14
                refine lv_iinc (v := x14) (lv' := [(4, .int x14), (5, .int 1), (0, .ref a0), (1, .int p1), (2, .int p2), (3, .int y7)]) hx hb dX8_count_83 hl (k := 5) rfl (by rw [ex14]; rfl) (by decide) rfl (fun ls hl => ?_)
                refine lv_goto (tgt := 29) hx hb dX8_count_86 (by decide) ?_
                exact ih29 y7 x14 h.1 (Nat.lt_of_lt_of_le h.2 (Nat.le_of_lt_succ hk29)) _ (lv_sub hl [2, 3, 4, 5, 0] rfl)
              · obtain ⟨-, h⟩ := h
                specialize h c13
                refine lv_aload_n hx hb dX8_count_67 rfl (lv_at hl 1 rfl) ?_
                refine va_get (D := G) (ci := 7) (v := .ref aN) (C := RX8) (T := TX8) (N := 8) hx hb hts iwX8 hown hK.1 hP 0 rfl rfl 0 (by decide) fl10 (fun _ h9 => h9) rfl dX8_count_68 ?_
                refine lv_iload_n hx hb dX8_count_71 rfl (lv_at hl 2 rfl) ?_
                refine lv_iload hx hb dX8_count_72 (lv_at hl 5 rfl) ?_
                obtain ⟨Q15, hw9, h⟩ := h
                have hPc : va_P G vwCl [(aN, .inr (3, [.ref aR, .int vn])), (aR, .inl (cy 0, 9, .inl fN))] s.heap := hP.sub [1, 2] rfl
                refine vp_callSi (va_Run.run (va_runV (As := [.int p1, .int y8]) (rest := []) ⟨hx, hb, hml, hown, hts⟩ (ct_X3_isLawful l G cy aN aR vn fN p1 y8 Q15 hw9) (cwV 2 hts gX8_count_X3_isLawful rfl rfl rfl (by decide +kernel) ⟨Nat.le_of_ble_eq_true rfl, Nat.le_of_ble_eq_true rfl⟩) (rP_V hK hP (ci := 3) (q0 := 1) rfl rfl hPc) rfl rfl hl.1 rfl (lv_room (Nat.le_of_ble_eq_true rfl)) dX8_count_74 ⟨Nat.le_of_ble_eq_true rfl, Nat.le_of_ble_eq_true rfl⟩)) (fun r16 er16 => ?_)
                specialize h r16 er16
                refine lv_if_eq (tgt := 83) hx hb dX8_count_77 (by decide) (fun c17 => ?_) (fun c17 => ?_)
                · obtain ⟨h, -⟩ := h
                  specialize h c17
                  obtain ⟨x18, ex18⟩ : ∃ y : Int32, y = y8 + 1 := ⟨_, rfl⟩
                  specialize h x18 ex18
                  refine lv_iinc (v := x18) (lv' := [(4, .int x18), (5, .int 1), (0, .ref a0), (1, .int p1), (2, .int p2), (3, .int y7)]) hx hb dX8_count_83 hl (k := 5) rfl (by rw [ex18]; rfl) (by decide) rfl (fun ls hl => ?_)
                  refine lv_goto (tgt := 29) hx hb dX8_count_86 (by decide) ?_
                  exact ih29 y7 x18 h.1 (Nat.lt_of_lt_of_le h.2 (Nat.le_of_lt_succ hk29)) _ (lv_sub hl [2, 3, 4, 5, 0] rfl)
                · obtain ⟨-, h⟩ := h
                  specialize h c17
                  obtain ⟨x19, ex19⟩ : ∃ y : Int32, y = y7 + 1 := ⟨_, rfl⟩
                  specialize h x19 ex19
                  refine lv_iinc (v := x19) (lv' := [(3, .int x19), (5, .int 1), (0, .ref a0), (1, .int p1), (2, .int p2), (4, .int y8)]) hx hb dX8_count_80 hl (k := 4) rfl (by rw [ex19]; rfl) (by decide) rfl (fun ls hl => ?_)
                  obtain ⟨x20, ex20⟩ : ∃ y : Int32, y = y8 + 1 := ⟨_, rfl⟩
                  specialize h x20 ex20
                  refine lv_iinc (v := x20) (lv' := [(4, .int x20), (3, .int x19), (5, .int 1), (0, .ref a0), (1, .int p1), (2, .int p2)]) hx hb dX8_count_83 hl (k := 5) rfl (by rw [ex20]; rfl) (by decide) rfl (fun ls hl => ?_)
                  refine lv_goto (tgt := 29) hx hb dX8_count_86 (by decide) ?_
                  exact ih29 x19 x20 h.1 (Nat.lt_of_lt_of_le h.2 (Nat.le_of_lt_succ hk29)) _ (lv_sub hl [3, 4, 5, 1, 0] rfl)
            · obtain ⟨-, h⟩ := h
              specialize h c12
              refine lv_iload hx hb dX8_count_46 (lv_at hl 4 rfl) ?_
              obtain ⟨Q21, hw9, h⟩ := h
              have hPc : va_P G vwCl [] s.heap := P_nil
              refine vp_callSi (va_Run.run (va_runS (As := [.int y8]) (rest := []) ⟨hx, hb, hml, hown, hts⟩ (ct_J6_bitCount_0f7a4 l G cy y8 Q21 hw9) (va_cwS 1 hts gX8_count_J6_bitCount_0f7a4 rfl rfl rfl (by decide +kernel) ⟨Nat.le_of_ble_eq_true rfl, Nat.le_of_ble_eq_true rfl⟩) (rP_S hK hPc) rfl rfl hl.1 rfl (lv_room (Nat.le_of_ble_eq_true rfl)) dX8_count_48 ⟨Nat.le_of_ble_eq_true rfl, Nat.le_of_ble_eq_true rfl⟩)) (fun r22 er22 => ?_)
              specialize h r22 er22
              refine lv_iload_n hx hb dX8_count_51 rfl (lv_at hl 2 rfl) ?_
              refine lv_icmp_ne (tgt := 59) hx hb dX8_count_52 (by decide) (fun c23 => ?_) (fun c23 => ?_)
              · obtain ⟨-, h⟩ := h
                specialize h c23
                refine lv_iconst (v := 0) hx hb dX8_count_59 (by decide) ?_
                refine lv_istore (lv' := [(5, .int 0), (0, .ref a0), (1, .int p1), (2, .int p2), (3, .int y7), (4, .int y8)]) hx hb dX8_count_60 hl (by decide) rfl (fun ls hl => ?_)
                refine lv_iload hx hb dX8_count_62 (lv_at hl 0 rfl) ?_
                refine lv_if_eq (tgt := 83) hx hb dX8_count_64 (by decide) (fun c24 => ?_) (fun c24 => ?_)
                · obtain ⟨h, -⟩ := h
                  specialize h c24
                  obtain ⟨x25, ex25⟩ : ∃ y : Int32, y = y8 + 1 := ⟨_, rfl⟩
                  specialize h x25 ex25
                  refine lv_iinc (v := x25) (lv' := [(4, .int x25), (5, .int 0), (0, .ref a0), (1, .int p1), (2, .int p2), (3, .int y7)]) hx hb dX8_count_83 hl (k := 5) rfl (by rw [ex25]; rfl) (by decide) rfl (fun ls hl => ?_)
                  refine lv_goto (tgt := 29) hx hb dX8_count_86 (by decide) ?_
                  exact ih29 y7 x25 h.1 (Nat.lt_of_lt_of_le h.2 (Nat.le_of_lt_succ hk29)) _ (lv_sub hl [2, 3, 4, 5, 0] rfl)
                · obtain ⟨-, h⟩ := h
                  specialize h c24
                  refine lv_aload_n hx hb dX8_count_67 rfl (lv_at hl 1 rfl) ?_
                  refine va_get (D := G) (ci := 7) (v := .ref aN) (C := RX8) (T := TX8) (N := 8) hx hb hts iwX8 hown hK.1 hP 0 rfl rfl 0 (by decide) fl10 (fun _ h9 => h9) rfl dX8_count_68 ?_
                  refine lv_iload_n hx hb dX8_count_71 rfl (lv_at hl 2 rfl) ?_
                  refine lv_iload hx hb dX8_count_72 (lv_at hl 5 rfl) ?_
                  obtain ⟨Q26, hw9, h⟩ := h
                  have hPc : va_P G vwCl [(aN, .inr (3, [.ref aR, .int vn])), (aR, .inl (cy 0, 9, .inl fN))] s.heap := hP.sub [1, 2] rfl
                  refine vp_callSi (va_Run.run (va_runV (As := [.int p1, .int y8]) (rest := []) ⟨hx, hb, hml, hown, hts⟩ (ct_X3_isLawful l G cy aN aR vn fN p1 y8 Q26 hw9) (cwV 2 hts gX8_count_X3_isLawful rfl rfl rfl (by decide +kernel) ⟨Nat.le_of_ble_eq_true rfl, Nat.le_of_ble_eq_true rfl⟩) (rP_V hK hP (ci := 3) (q0 := 1) rfl rfl hPc) rfl rfl hl.1 rfl (lv_room (Nat.le_of_ble_eq_true rfl)) dX8_count_74 ⟨Nat.le_of_ble_eq_true rfl, Nat.le_of_ble_eq_true rfl⟩)) (fun r27 er27 => ?_)
                  specialize h r27 er27
                  refine lv_if_eq (tgt := 83) hx hb dX8_count_77 (by decide) (fun c28 => ?_) (fun c28 => ?_)
                  · obtain ⟨h, -⟩ := h
                    specialize h c28
                    obtain ⟨x29, ex29⟩ : ∃ y : Int32, y = y8 + 1 := ⟨_, rfl⟩
                    specialize h x29 ex29
                    refine lv_iinc (v := x29) (lv' := [(4, .int x29), (5, .int 0), (0, .ref a0), (1, .int p1), (2, .int p2), (3, .int y7)]) hx hb dX8_count_83 hl (k := 5) rfl (by rw [ex29]; rfl) (by decide) rfl (fun ls hl => ?_)
                    refine lv_goto (tgt := 29) hx hb dX8_count_86 (by decide) ?_
                    exact ih29 y7 x29 h.1 (Nat.lt_of_lt_of_le h.2 (Nat.le_of_lt_succ hk29)) _ (lv_sub hl [2, 3, 4, 5, 0] rfl)
                  · obtain ⟨-, h⟩ := h
                    specialize h c28
                    obtain ⟨x30, ex30⟩ : ∃ y : Int32, y = y7 + 1 := ⟨_, rfl⟩
                    specialize h x30 ex30
                    refine lv_iinc (v := x30) (lv' := [(3, .int x30), (5, .int 0), (0, .ref a0), (1, .int p1), (2, .int p2), (4, .int y8)]) hx hb dX8_count_80 hl (k := 4) rfl (by rw [ex30]; rfl) (by decide) rfl (fun ls hl => ?_)
                    obtain ⟨x31, ex31⟩ : ∃ y : Int32, y = y8 + 1 := ⟨_, rfl⟩
                    specialize h x31 ex31
                    refine lv_iinc (v := x31) (lv' := [(4, .int x31), (3, .int x30), (5, .int 0), (0, .ref a0), (1, .int p1), (2, .int p2)]) hx hb dX8_count_83 hl (k := 5) rfl (by rw [ex31]; rfl) (by decide) rfl (fun ls hl => ?_)
                    refine lv_goto (tgt := 29) hx hb dX8_count_86 (by decide) ?_
                    exact ih29 x30 x31 h.1 (Nat.lt_of_lt_of_le h.2 (Nat.le_of_lt_succ hk29)) _ (lv_sub hl [3, 4, 5, 1, 0] rfl)
              · obtain ⟨h, -⟩ := h
                specialize h c23
                refine lv_iconst (v := 1) hx hb dX8_count_55 (by decide) ?_
                refine lv_goto (tgt := 60) hx hb dX8_count_56 (by decide) ?_
                refine lv_istore (lv' := [(5, .int 1), (0, .ref a0), (1, .int p1), (2, .int p2), (3, .int y7), (4, .int y8)]) hx hb dX8_count_60 hl (by decide) rfl (fun ls hl => ?_)
                refine lv_iload hx hb dX8_count_62 (lv_at hl 0 rfl) ?_
                refine lv_if_eq (tgt := 83) hx hb dX8_count_64 (by decide) (fun c32 => ?_) (fun c32 => ?_)
                · obtain ⟨h, -⟩ := h
                  specialize h c32
                  obtain ⟨x33, ex33⟩ : ∃ y : Int32, y = y8 + 1 := ⟨_, rfl⟩
                  specialize h x33 ex33
                  refine lv_iinc (v := x33) (lv' := [(4, .int x33), (5, .int 1), (0, .ref a0), (1, .int p1), (2, .int p2), (3, .int y7)]) hx hb dX8_count_83 hl (k := 5) rfl (by rw [ex33]; rfl) (by decide) rfl (fun ls hl => ?_)
                  refine lv_goto (tgt := 29) hx hb dX8_count_86 (by decide) ?_
                  exact ih29 y7 x33 h.1 (Nat.lt_of_lt_of_le h.2 (Nat.le_of_lt_succ hk29)) _ (lv_sub hl [2, 3, 4, 5, 0] rfl)
                · obtain ⟨-, h⟩ := h
                  specialize h c32
                  refine lv_aload_n hx hb dX8_count_67 rfl (lv_at hl 1 rfl) ?_
                  refine va_get (D := G) (ci := 7) (v := .ref aN) (C := RX8) (T := TX8) (N := 8) hx hb hts iwX8 hown hK.1 hP 0 rfl rfl 0 (by decide) fl10 (fun _ h9 => h9) rfl dX8_count_68 ?_
                  refine lv_iload_n hx hb dX8_count_71 rfl (lv_at hl 2 rfl) ?_
                  refine lv_iload hx hb dX8_count_72 (lv_at hl 5 rfl) ?_
                  obtain ⟨Q34, hw9, h⟩ := h
                  have hPc : va_P G vwCl [(aN, .inr (3, [.ref aR, .int vn])), (aR, .inl (cy 0, 9, .inl fN))] s.heap := hP.sub [1, 2] rfl
                  refine vp_callSi (va_Run.run (va_runV (As := [.int p1, .int y8]) (rest := []) ⟨hx, hb, hml, hown, hts⟩ (ct_X3_isLawful l G cy aN aR vn fN p1 y8 Q34 hw9) (cwV 2 hts gX8_count_X3_isLawful rfl rfl rfl (by decide +kernel) ⟨Nat.le_of_ble_eq_true rfl, Nat.le_of_ble_eq_true rfl⟩) (rP_V hK hP (ci := 3) (q0 := 1) rfl rfl hPc) rfl rfl hl.1 rfl (lv_room (Nat.le_of_ble_eq_true rfl)) dX8_count_74 ⟨Nat.le_of_ble_eq_true rfl, Nat.le_of_ble_eq_true rfl⟩)) (fun r35 er35 => ?_)
                  specialize h r35 er35
                  refine lv_if_eq (tgt := 83) hx hb dX8_count_77 (by decide) (fun c36 => ?_) (fun c36 => ?_)
                  · obtain ⟨h, -⟩ := h
                    specialize h c36
                    obtain ⟨x37, ex37⟩ : ∃ y : Int32, y = y8 + 1 := ⟨_, rfl⟩
                    specialize h x37 ex37
                    refine lv_iinc (v := x37) (lv' := [(4, .int x37), (5, .int 1), (0, .ref a0), (1, .int p1), (2, .int p2), (3, .int y7)]) hx hb dX8_count_83 hl (k := 5) rfl (by rw [ex37]; rfl) (by decide) rfl (fun ls hl => ?_)
                    refine lv_goto (tgt := 29) hx hb dX8_count_86 (by decide) ?_
                    exact ih29 y7 x37 h.1 (Nat.lt_of_lt_of_le h.2 (Nat.le_of_lt_succ hk29)) _ (lv_sub hl [2, 3, 4, 5, 0] rfl)
                  · obtain ⟨-, h⟩ := h
                    specialize h c36
                    obtain ⟨x38, ex38⟩ : ∃ y : Int32, y = y7 + 1 := ⟨_, rfl⟩
                    specialize h x38 ex38
                    refine lv_iinc (v := x38) (lv' := [(3, .int x38), (5, .int 1), (0, .ref a0), (1, .int p1), (2, .int p2), (4, .int y8)]) hx hb dX8_count_80 hl (k := 4) rfl (by rw [ex38]; rfl) (by decide) rfl (fun ls hl => ?_)
                    obtain ⟨x39, ex39⟩ : ∃ y : Int32, y = y8 + 1 := ⟨_, rfl⟩
                    specialize h x39 ex39
                    refine lv_iinc (v := x39) (lv' := [(4, .int x39), (3, .int x38), (5, .int 1), (0, .ref a0), (1, .int p1), (2, .int p2)]) hx hb dX8_count_83 hl (k := 5) rfl (by rw [ex39]; rfl) (by decide) rfl (fun ls hl => ?_)
                    refine lv_goto (tgt := 29) hx hb dX8_count_86 (by decide) ?_
                    exact ih29 x38 x39 h.1 (Nat.lt_of_lt_of_le h.2 (Nat.le_of_lt_succ hk29)) _ (lv_sub hl [3, 4, 5, 1, 0] rfl)
      exact key29 _ 0 0 h029 (Nat.lt_succ_self _) _ (lv_sub hl [2, 3, 4, 1, 0] rfl)
    · obtain ⟨h, -⟩ := h
      specialize h c6
      refine lv_iconst (v := (-1)) hx hb dX8_count_22 (by decide) ?_
      rw [← hQe]
      exact W.iret (v := (-1)) hx hb hr (fun t ht hW => ⟨(-1), rfl, h, ht⟩) (fun q9 h9 => by cases h9) dX8_count_23

set_option maxHeartbeats 4000000 in
set_option maxRecDepth 100000 in
theorem ct_X8_isLawfulSet (l : Launch) (G : va_G) (cy : Nat → ClassId) (a0 aN aR aM aP aW aT : Nat) (vLe : Int32) (vMo : Int32) (vCo : Int32) (vn : Int32) (fN : Nat → Int32) (p1 : Int32) (p2 : Int32) (Q : Int32 → Prop) (h : wp_X8_isLawfulSet vn fN p1 p2 Q) : Met l yX8_isLawfulSet wsX8_isLawfulSet rmX8_isLawfulSet (va_Pc [.ref a0, .int p1, .int p2] (rP G cy [(a0, .inr (7, [.ref aN, .ref aM, .ref aP, .ref aW, .ref aT, .int vLe, .int vMo, .int vCo])), (aN, .inr (3, [.ref aR, .int vn])), (aR, .inl (cy 0, 9, .inl fN))])) (vp_Si Q) 0 0 (fun _ => False) := by
  unfold wp_X8_isLawfulSet at h
  refine Met.ofW (cc := cX8_isLawfulSet) (maxL := 3) (ret := (some .boolean)) (by decide) rfl ?_
  intro p e s m args below meth c s₁ B hml hv
  obtain ⟨hav, hP, hK⟩ := hv
  have hx := B.exec
  have hb := B.bytes
  have hr := B.returns
  have hts := atoms_spec (ws := wsX8_isLawfulSet) B.pre
  have hown : s.vm.findClass RX8 = some m.cls := findClass_of_methodNamed B.named
  have hlocks := B.notSynchronized
  have hl := lv_entry ([.ref a0, .int p1, .int p2]) (n := 3) (Nat.le_of_ble_eq_true rfl)
  rw [show entryFrame m args 3 = entryFrame m ([.ref a0, .int p1, .int p2] : List Value).toArray 3 by rw [hav], lg_entry_eq]
  generalize (lg_sl ([.ref a0, .int p1, .int p2]) ++ List.replicate (3 - (lg_sl ([.ref a0, .int p1, .int p2])).length) Slot.unset).toArray = ls at hl ⊢
  have hl : lv_has ls 3 [(0, .ref a0), (1, .int p1), (2, .int p2)] := hl
  generalize hQe : MQ below _ _ _ _ _ _ = QM
  have iwX8 : ∀ w ∈ wsX80, w ∈ wsX8_isLawfulSet := by decide +kernel
  have fl10 := hts (.fieldLink RX8 10 "SlidTokens" "graph" "LSlidTokens$Net;") (by decide +kernel)
  refine lv_aload_n hx hb dX8_isLawfulSet_0 rfl (lv_at hl 0 rfl) ?_
  refine va_get (D := G) (ci := 7) (v := .ref aN) (C := RX8) (T := TX8) (N := 8) hx hb hts iwX8 hown hK.1 hP 0 rfl rfl 0 (by decide) fl10 (fun _ h9 => h9) rfl dX8_isLawfulSet_1 ?_
  refine lv_iload_n hx hb dX8_isLawfulSet_4 rfl (lv_at hl 2 rfl) ?_
  obtain ⟨Q1, hw9, h⟩ := h
  have hPc : va_P G vwCl [(aN, .inr (3, [.ref aR, .int vn])), (aR, .inl (cy 0, 9, .inl fN))] s.heap := hP.sub [1, 2] rfl
  refine vp_callSi (va_Run.run (va_runV (As := [.int p2]) (rest := []) ⟨hx, hb, hml, hown, hts⟩ (ct_X3_hasSet l G cy aN aR vn fN p2 Q1 hw9) (cwV 1 hts gX8_isLawfulSet_X3_hasSet rfl rfl rfl (by decide +kernel) ⟨Nat.le_of_ble_eq_true rfl, Nat.le_of_ble_eq_true rfl⟩) (rP_V hK hP (ci := 3) (q0 := 1) rfl rfl hPc) rfl rfl hl.1 rfl (lv_room (Nat.le_of_ble_eq_true rfl)) dX8_isLawfulSet_5 ⟨Nat.le_of_ble_eq_true rfl, Nat.le_of_ble_eq_true rfl⟩)) (fun r2 er2 => ?_)
  specialize h r2 er2
  refine lv_if_eq (tgt := 27) hx hb dX8_isLawfulSet_8 (by decide) (fun c3 => ?_) (fun c3 => ?_)
  · obtain ⟨h, -⟩ := h
    specialize h c3
    refine lv_iconst (v := 0) hx hb dX8_isLawfulSet_27 (by decide) ?_
    rw [← hQe]
    exact W.zret (v := 0) hx hb hr rfl (fun t ht hW => ⟨0, rfl, h, ht⟩) (fun q9 h9 => by cases h9) dX8_isLawfulSet_28
  · obtain ⟨-, h⟩ := h
    specialize h c3
    refine lv_aload_n hx hb dX8_isLawfulSet_11 rfl (lv_at hl 0 rfl) ?_
    refine va_get (D := G) (ci := 7) (v := .ref aN) (C := RX8) (T := TX8) (N := 8) hx hb hts iwX8 hown hK.1 hP 0 rfl rfl 0 (by decide) fl10 (fun _ h9 => h9) rfl dX8_isLawfulSet_12 ?_
    refine lv_iload_n hx hb dX8_isLawfulSet_15 rfl (lv_at hl 1 rfl) ?_
    refine lv_iload_n hx hb dX8_isLawfulSet_16 rfl (lv_at hl 2 rfl) ?_
    obtain ⟨Q4, hw9, h⟩ := h
    have hPc : va_P G vwCl [(aN, .inr (3, [.ref aR, .int vn])), (aR, .inl (cy 0, 9, .inl fN))] s.heap := hP.sub [1, 2] rfl
    refine vp_callSi (va_Run.run (va_runV (As := [.int p1, .int p2]) (rest := []) ⟨hx, hb, hml, hown, hts⟩ (ct_X3_isLawful l G cy aN aR vn fN p1 p2 Q4 hw9) (cwV 2 hts gX8_isLawfulSet_X3_isLawful rfl rfl rfl (by decide +kernel) ⟨Nat.le_of_ble_eq_true rfl, Nat.le_of_ble_eq_true rfl⟩) (rP_V hK hP (ci := 3) (q0 := 1) rfl rfl hPc) rfl rfl hl.1 rfl (lv_room (Nat.le_of_ble_eq_true rfl)) dX8_isLawfulSet_17 ⟨Nat.le_of_ble_eq_true rfl, Nat.le_of_ble_eq_true rfl⟩)) (fun r5 er5 => ?_)
    specialize h r5 er5
    refine lv_if_eq (tgt := 27) hx hb dX8_isLawfulSet_20 (by decide) (fun c6 => ?_) (fun c6 => ?_)
    · obtain ⟨h, -⟩ := h
      specialize h c6
      refine lv_iconst (v := 0) hx hb dX8_isLawfulSet_27 (by decide) ?_
      rw [← hQe]
      exact W.zret (v := 0) hx hb hr rfl (fun t ht hW => ⟨0, rfl, h, ht⟩) (fun q9 h9 => by cases h9) dX8_isLawfulSet_28
    · obtain ⟨-, h⟩ := h
      specialize h c6
      refine lv_iconst (v := 1) hx hb dX8_isLawfulSet_23 (by decide) ?_
      refine lv_goto (tgt := 28) hx hb dX8_isLawfulSet_24 (by decide) ?_
      rw [← hQe]
      exact W.zret (v := 1) hx hb hr rfl (fun t ht hW => ⟨1, rfl, h, ht⟩) (fun q9 h9 => by cases h9) dX8_isLawfulSet_28

set_option maxHeartbeats 4000000 in
set_option maxRecDepth 100000 in
theorem ct_X8_told (l : Launch) (G : va_G) (cy : Nat → ClassId) (a0 aN aR aM aP aW aT : Nat) (vLe : Int32) (vMo : Int32) (vCo : Int32) (vn : Int32) (fN : Nat → Int32) (p1 : Int32) (Q : Int32 → Prop) (h : wp_X8_told vLe vMo vCo vn fN p1 Q) : Met l yX8_told wsX8_told rmX8_told (va_Pc [.ref a0, .int p1] (rP G cy [(a0, .inr (7, [.ref aN, .ref aM, .ref aP, .ref aW, .ref aT, .int vLe, .int vMo, .int vCo])), (aN, .inr (3, [.ref aR, .int vn])), (aR, .inl (cy 0, 9, .inl fN))])) (vp_Si Q) 0 0 (fun _ => False) := by
  unfold wp_X8_told at h
  refine Met.ofW (cc := cX8_told) (maxL := 2) (ret := (some .int)) (by decide) rfl ?_
  intro p e s m args below meth c s₁ B hml hv
  obtain ⟨hav, hP, hK⟩ := hv
  have hx := B.exec
  have hb := B.bytes
  have hr := B.returns
  have hts := atoms_spec (ws := wsX8_told) B.pre
  have hown : s.vm.findClass RX8 = some m.cls := findClass_of_methodNamed B.named
  have hlocks := B.notSynchronized
  have hl := lv_entry ([.ref a0, .int p1]) (n := 2) (Nat.le_of_ble_eq_true rfl)
  rw [show entryFrame m args 2 = entryFrame m ([.ref a0, .int p1] : List Value).toArray 2 by rw [hav], lg_entry_eq]
  generalize (lg_sl ([.ref a0, .int p1]) ++ List.replicate (2 - (lg_sl ([.ref a0, .int p1])).length) Slot.unset).toArray = ls at hl ⊢
  have hl : lv_has ls 2 [(0, .ref a0), (1, .int p1)] := hl
  generalize hQe : MQ below _ _ _ _ _ _ = QM
  have iwX8 : ∀ w ∈ wsX80, w ∈ wsX8_told := by decide +kernel
  have fl10 := hts (.fieldLink RX8 10 "SlidTokens" "graph" "LSlidTokens$Net;") (by decide +kernel)
  have iwX3 : ∀ w ∈ wsX30, w ∈ wsX8_told := by decide +kernel
  have fl66 := hts (.fieldLink RX8 66 "SlidTokens$Net" "nodes" "I") (by decide +kernel)
  have fl52 := hts (.fieldLink RX8 52 "SlidTokens" "least" "I") (by decide +kernel)
  have fl56 := hts (.fieldLink RX8 56 "SlidTokens" "most" "I") (by decide +kernel)
  have fl59 := hts (.fieldLink RX8 59 "SlidTokens" "colours" "I") (by decide +kernel)
  refine lv_iload_n hx hb dX8_told_0 rfl (lv_at hl 1 rfl) ?_
  by_cases c1 : p1 = 0
  · obtain ⟨h, -⟩ := h
    specialize h c1
    refine lv_tableIn (off := 35) (tgt := 36) hx hb dX8_told_1 (by rw [c1]; decide) (by rw [c1]; decide) (by rw [c1]; rfl) (by decide) ?_
    refine lv_aload_n hx hb dX8_told_36 rfl (lv_at hl 0 rfl) ?_
    refine va_get (D := G) (ci := 7) (v := .ref aN) (C := RX8) (T := TX8) (N := 8) hx hb hts iwX8 hown hK.1 hP 0 rfl rfl 0 (by decide) fl10 (fun _ h9 => h9) rfl dX8_told_37 ?_
    refine va_get (D := G) (ci := 3) (v := .int vn) (C := RX3) (T := TX3) (N := 2) hx hb hts iwX3 hown hK.1 hP 1 rfl rfl 1 (by decide) fl66 (fun _ h9 => h9) rfl dX8_told_40 ?_
    rw [← hQe]
    exact W.iret (v := vn) hx hb hr (fun t ht hW => ⟨vn, rfl, h, ht⟩) (fun q9 h9 => by cases h9) dX8_told_43
  · obtain ⟨-, h⟩ := h
    by_cases c2 : p1 = 1
    · obtain ⟨h, -⟩ := h
      specialize h c2
      refine lv_tableIn (off := 43) (tgt := 44) hx hb dX8_told_1 (by rw [c2]; decide) (by rw [c2]; decide) (by rw [c2]; rfl) (by decide) ?_
      refine lv_aload_n hx hb dX8_told_44 rfl (lv_at hl 0 rfl) ?_
      refine va_get (D := G) (ci := 7) (v := .ref aN) (C := RX8) (T := TX8) (N := 8) hx hb hts iwX8 hown hK.1 hP 0 rfl rfl 0 (by decide) fl10 (fun _ h9 => h9) rfl dX8_told_45 ?_
      obtain ⟨Q3, hw9, h⟩ := h
      have hPc : va_P G vwCl [(aN, .inr (3, [.ref aR, .int vn])), (aR, .inl (cy 0, 9, .inl fN))] s.heap := hP.sub [1, 2] rfl
      refine vp_callSi (va_Run.run (va_runV (As := []) (rest := []) ⟨hx, hb, hml, hown, hts⟩ (ct_X3_pairs l G cy aN aR vn fN Q3 hw9) (cwV 0 hts gX8_told_X3_pairs rfl rfl rfl (by decide +kernel) ⟨Nat.le_of_ble_eq_true rfl, Nat.le_of_ble_eq_true rfl⟩) (rP_V hK hP (ci := 3) (q0 := 1) rfl rfl hPc) rfl rfl hl.1 rfl (lv_room (Nat.le_of_ble_eq_true rfl)) dX8_told_48 ⟨Nat.le_of_ble_eq_true rfl, Nat.le_of_ble_eq_true rfl⟩)) (fun r4 er4 => ?_)
      specialize h r4 er4
      rw [← hQe]
      exact W.iret (v := r4) hx hb hr (fun t ht hW => ⟨r4, rfl, h, ht⟩) (fun q9 h9 => by cases h9) dX8_told_51
    · obtain ⟨-, h⟩ := h
      by_cases c5 : p1 = 2
      · obtain ⟨h, -⟩ := h
        specialize h c5
        refine lv_tableIn (off := 51) (tgt := 52) hx hb dX8_told_1 (by rw [c5]; decide) (by rw [c5]; decide) (by rw [c5]; rfl) (by decide) ?_
        refine lv_aload_n hx hb dX8_told_52 rfl (lv_at hl 0 rfl) ?_
        refine va_get (D := G) (ci := 7) (v := .int vLe) (C := RX8) (T := TX8) (N := 8) hx hb hts iwX8 hown hK.1 hP 0 rfl rfl 5 (by decide) fl52 (fun _ h9 => h9) rfl dX8_told_53 ?_
        rw [← hQe]
        exact W.iret (v := vLe) hx hb hr (fun t ht hW => ⟨vLe, rfl, h, ht⟩) (fun q9 h9 => by cases h9) dX8_told_56
      · obtain ⟨-, h⟩ := h
        by_cases c6 : p1 = 3
        · obtain ⟨h, -⟩ := h
          specialize h c6
          refine lv_tableIn (off := 56) (tgt := 57) hx hb dX8_told_1 (by rw [c6]; decide) (by rw [c6]; decide) (by rw [c6]; rfl) (by decide) ?_
          refine lv_aload_n hx hb dX8_told_57 rfl (lv_at hl 0 rfl) ?_
          refine va_get (D := G) (ci := 7) (v := .int vMo) (C := RX8) (T := TX8) (N := 8) hx hb hts iwX8 hown hK.1 hP 0 rfl rfl 6 (by decide) fl56 (fun _ h9 => h9) rfl dX8_told_58 ?_
          rw [← hQe]
          exact W.iret (v := vMo) hx hb hr (fun t ht hW => ⟨vMo, rfl, h, ht⟩) (fun q9 h9 => by cases h9) dX8_told_61
        · obtain ⟨-, h⟩ := h
          by_cases c7 : p1 = 4
          · obtain ⟨h, -⟩ := h
            specialize h c7
            refine lv_tableIn (off := 61) (tgt := 62) hx hb dX8_told_1 (by rw [c7]; decide) (by rw [c7]; decide) (by rw [c7]; rfl) (by decide) ?_
            refine lv_aload_n hx hb dX8_told_62 rfl (lv_at hl 0 rfl) ?_
            refine va_get (D := G) (ci := 7) (v := .int vCo) (C := RX8) (T := TX8) (N := 8) hx hb hts iwX8 hown hK.1 hP 0 rfl rfl 7 (by decide) fl59 (fun _ h9 => h9) rfl dX8_told_63 ?_
            rw [← hQe]
            exact W.iret (v := vCo) hx hb hr (fun t ht hW => ⟨vCo, rfl, h, ht⟩) (fun q9 h9 => by cases h9) dX8_told_66
          · obtain ⟨-, h⟩ := h
            specialize h c1 c2 c5 c6 c7
            refine lv_tableOut (tgt := 67) hx hb dX8_told_1 (by have nc1 := lv_neT (a := 0) c1 (by decide); have nc2 := lv_neT (a := 1) c2 (by decide); have nc5 := lv_neT (a := 2) c5 (by decide); have nc6 := lv_neT (a := 3) c6 (by decide); have nc7 := lv_neT (a := 4) c7 (by decide); omega) (by decide) ?_
            refine lv_iconst (v := (-1)) hx hb dX8_told_67 (by decide) ?_
            rw [← hQe]
            exact W.iret (v := (-1)) hx hb hr (fun t ht hW => ⟨(-1), rfl, h, ht⟩) (fun q9 h9 => by cases h9) dX8_told_68

set_option maxHeartbeats 4000000 in
set_option maxRecDepth 100000 in
theorem ct_X8_trace (l : Launch) (G : va_G) (cy : Nat → ClassId) (a0 aT aN aM aP aW : Nat) (vLe : Int32) (vMo : Int32) (vCo : Int32) (vT : Int64) (Q : Int64 → Prop) (h : wp_X8_trace vT Q) : Met l yX8_trace wsX8_trace rmX8_trace (va_Pc [.ref a0] (rP G cy [(a0, .inr (7, [.ref aN, .ref aM, .ref aP, .ref aW, .ref aT, .int vLe, .int vMo, .int vCo])), (aT, .inr (6, [.long vT]))])) (vp_Sl Q) 0 0 (fun _ => False) := by
  unfold wp_X8_trace at h
  refine Met.ofW (cc := cX8_trace) (maxL := 1) (ret := (some .long)) (by decide) rfl ?_
  intro p e s m args below meth c s₁ B hml hv
  obtain ⟨hav, hP, hK⟩ := hv
  have hx := B.exec
  have hb := B.bytes
  have hr := B.returns
  have hts := atoms_spec (ws := wsX8_trace) B.pre
  have hown : s.vm.findClass RX8 = some m.cls := findClass_of_methodNamed B.named
  have hlocks := B.notSynchronized
  have hl := lv_entry ([.ref a0]) (n := 1) (Nat.le_of_ble_eq_true rfl)
  rw [show entryFrame m args 1 = entryFrame m ([.ref a0] : List Value).toArray 1 by rw [hav], lg_entry_eq]
  generalize (lg_sl ([.ref a0]) ++ List.replicate (1 - (lg_sl ([.ref a0])).length) Slot.unset).toArray = ls at hl ⊢
  have hl : lv_has ls 1 [(0, .ref a0)] := hl
  generalize hQe : MQ below _ _ _ _ _ _ = QM
  have iwX8 : ∀ w ∈ wsX80, w ∈ wsX8_trace := by decide +kernel
  have fl48 := hts (.fieldLink RX8 48 "SlidTokens" "tally" "LSlidTokens$Tally;") (by decide +kernel)
  have iwX7 : ∀ w ∈ wsX70, w ∈ wsX8_trace := by decide +kernel
  have fl173 := hts (.fieldLink RX8 173 "SlidTokens$Tally" "sum" "J") (by decide +kernel)
  refine lv_aload_n hx hb dX8_trace_0 rfl (lv_at hl 0 rfl) ?_
  refine va_get (D := G) (ci := 7) (v := .ref aT) (C := RX8) (T := TX8) (N := 8) hx hb hts iwX8 hown hK.1 hP 0 rfl rfl 4 (by decide) fl48 (fun _ h9 => h9) rfl dX8_trace_1 ?_
  refine va_get (D := G) (ci := 6) (v := .long vT) (C := RX7) (T := TX7) (N := 1) hx hb hts iwX7 hown hK.1 hP 1 rfl rfl 0 (by decide) fl173 (fun _ h9 => h9) rfl dX8_trace_4 ?_
  rw [← hQe]
  exact W.lret (v := vT) hx hb hr (fun t ht hW => ⟨vT, rfl, h, ht⟩) (fun q9 h9 => by cases h9) dX8_trace_7

set_option maxHeartbeats 4000000 in
set_option maxRecDepth 100000 in
theorem ct_X8_proper (l : Launch) (G : va_G) (cy : Nat → ClassId) (a0 aP bF bL bX bC aN aR aM aW aT : Nat) (vLe : Int32) (vMo : Int32) (vCo : Int32) (wSz : Int32) (wTl : Int32) (wFo : Int32) (wCo : Int32) (gF : Nat → Int32) (gL : Nat → Int32) (gX : Nat → Int32) (gC : Nat → Int32) (vn : Int32) (fN : Nat → Int32) (p1 : Int32) (Q : Int32 → Prop) (h : wp_X8_proper vCo vn fN p1 Q) : Met l yX8_proper wsX8_proper rmX8_proper (va_Pc [.ref a0, .int p1] (rP G cy [(a0, .inr (7, [.ref aN, .ref aM, .ref aP, .ref aW, .ref aT, .int vLe, .int vMo, .int vCo])), (aP, .inr (4, [.ref bF, .ref bL, .ref bX, .ref bC, .int wSz, .int wTl, .int wFo, .ref aN, .int wCo])), (bF, .inl (cy 0, 4096, .inl gF)), (bL, .inl (cy 0, 4096, .inl gL)), (bX, .inl (cy 0, 24, .inl gX)), (bC, .inl (cy 0, 24, .inl gC)), (aN, .inr (3, [.ref aR, .int vn])), (aR, .inl (cy 0, 9, .inl fN))])) (vp_Si Q) 0 0 (fun _ => False) := by
  unfold wp_X8_proper at h
  refine Met.ofW (cc := cX8_proper) (maxL := 2) (ret := (some .int)) (by decide) rfl ?_
  intro p e s m args below meth c s₁ B hml hv
  obtain ⟨hav, hP, hK⟩ := hv
  have hx := B.exec
  have hb := B.bytes
  have hr := B.returns
  have hts := atoms_spec (ws := wsX8_proper) B.pre
  have hown : s.vm.findClass RX8 = some m.cls := findClass_of_methodNamed B.named
  have hlocks := B.notSynchronized
  have hl := lv_entry ([.ref a0, .int p1]) (n := 2) (Nat.le_of_ble_eq_true rfl)
  rw [show entryFrame m args 2 = entryFrame m ([.ref a0, .int p1] : List Value).toArray 2 by rw [hav], lg_entry_eq]
  generalize (lg_sl ([.ref a0, .int p1]) ++ List.replicate (2 - (lg_sl ([.ref a0, .int p1])).length) Slot.unset).toArray = ls at hl ⊢
  have hl : lv_has ls 2 [(0, .ref a0), (1, .int p1)] := hl
  generalize hQe : MQ below _ _ _ _ _ _ = QM
  have iwX8 : ∀ w ∈ wsX80, w ∈ wsX8_proper := by decide +kernel
  have fl10 := hts (.fieldLink RX8 10 "SlidTokens" "graph" "LSlidTokens$Net;") (by decide +kernel)
  have iwX3 : ∀ w ∈ wsX30, w ∈ wsX8_proper := by decide +kernel
  have fl66 := hts (.fieldLink RX8 66 "SlidTokens$Net" "nodes" "I") (by decide +kernel)
  have fl28 := hts (.fieldLink RX8 28 "SlidTokens" "paints" "LSlidTokens$Paints;") (by decide +kernel)
  have fl59 := hts (.fieldLink RX8 59 "SlidTokens" "colours" "I") (by decide +kernel)
  refine lv_aload_n hx hb dX8_proper_0 rfl (lv_at hl 0 rfl) ?_
  refine va_get (D := G) (ci := 7) (v := .ref aN) (C := RX8) (T := TX8) (N := 8) hx hb hts iwX8 hown hK.1 hP 0 rfl rfl 0 (by decide) fl10 (fun _ h9 => h9) rfl dX8_proper_1 ?_
  refine va_get (D := G) (ci := 3) (v := .int vn) (C := RX3) (T := TX3) (N := 2) hx hb hts iwX3 hown hK.1 hP 6 rfl rfl 1 (by decide) fl66 (fun _ h9 => h9) rfl dX8_proper_4 ?_
  refine lv_bipush (v := 6) hx hb dX8_proper_7 (by decide) ?_
  refine lv_icmp_le (tgt := 15) hx hb dX8_proper_9 (by decide) (fun c1 => ?_) (fun c1 => ?_)
  · obtain ⟨h, -⟩ := h
    specialize h c1
    refine lv_aload_n hx hb dX8_proper_15 rfl (lv_at hl 0 rfl) ?_
    refine va_get (D := G) (ci := 7) (v := .ref aP) (C := RX8) (T := TX8) (N := 8) hx hb hts iwX8 hown hK.1 hP 0 rfl rfl 2 (by decide) fl28 (fun _ h9 => h9) rfl dX8_proper_16 ?_
    refine lv_iload_n hx hb dX8_proper_19 rfl (lv_at hl 1 rfl) ?_
    refine lv_aload_n hx hb dX8_proper_20 rfl (lv_at hl 0 rfl) ?_
    refine va_get (D := G) (ci := 7) (v := .int vCo) (C := RX8) (T := TX8) (N := 8) hx hb hts iwX8 hown hK.1 hP 0 rfl rfl 7 (by decide) fl59 (fun _ h9 => h9) rfl dX8_proper_21 ?_
    obtain ⟨Q2, hw9, h⟩ := h
    have hPc : va_P G vwCl [(aP, .inr (4, [.ref bF, .ref bL, .ref bX, .ref bC, .int wSz, .int wTl, .int wFo, .ref aN, .int wCo])), (bF, .inl (cy 0, 4096, .inl gF)), (bL, .inl (cy 0, 4096, .inl gL)), (bX, .inl (cy 0, 24, .inl gX)), (bC, .inl (cy 0, 24, .inl gC)), (aN, .inr (3, [.ref aR, .int vn])), (aR, .inl (cy 0, 9, .inl fN))] s.heap := hP.sub [1, 2, 3, 4, 5, 6, 7] rfl
    refine vp_callSi (va_Run.run (va_runV (As := [.int p1, .int vCo]) (rest := []) ⟨hx, hb, hml, hown, hts⟩ (ct_X4_isColouring l G cy aP bF bL bX bC aN aR wSz wTl wFo wCo gF gL gX gC vn fN p1 vCo Q2 hw9) (cwV 2 hts gX8_proper_X4_isColouring rfl rfl rfl (by decide +kernel) ⟨Nat.le_of_ble_eq_true rfl, Nat.le_of_ble_eq_true rfl⟩) (rP_V hK hP (ci := 4) (q0 := 1) rfl rfl hPc) rfl rfl hl.1 rfl (lv_room (Nat.le_of_ble_eq_true rfl)) dX8_proper_24 ⟨Nat.le_of_ble_eq_true rfl, Nat.le_of_ble_eq_true rfl⟩)) (fun r3 er3 => ?_)
    specialize h r3 er3
    refine lv_if_ne (tgt := 32) hx hb dX8_proper_27 (by decide) (fun c4 => ?_) (fun c4 => ?_)
    · obtain ⟨-, h⟩ := h
      specialize h c4
      refine lv_aload_n hx hb dX8_proper_32 rfl (lv_at hl 0 rfl) ?_
      refine va_get (D := G) (ci := 7) (v := .ref aP) (C := RX8) (T := TX8) (N := 8) hx hb hts iwX8 hown hK.1 hP 0 rfl rfl 2 (by decide) fl28 (fun _ h9 => h9) rfl dX8_proper_33 ?_
      refine lv_iload_n hx hb dX8_proper_36 rfl (lv_at hl 1 rfl) ?_
      obtain ⟨Q5, hw9, h⟩ := h
      have hPc : va_P G vwCl [(aP, .inr (4, [.ref bF, .ref bL, .ref bX, .ref bC, .int wSz, .int wTl, .int wFo, .ref aN, .int wCo])), (bF, .inl (cy 0, 4096, .inl gF)), (bL, .inl (cy 0, 4096, .inl gL)), (bX, .inl (cy 0, 24, .inl gX)), (bC, .inl (cy 0, 24, .inl gC)), (aN, .inr (3, [.ref aR, .int vn])), (aR, .inl (cy 0, 9, .inl fN))] s.heap := hP.sub [1, 2, 3, 4, 5, 6, 7] rfl
      refine vp_callSi (va_Run.run (va_runV (As := [.int p1]) (rest := []) ⟨hx, hb, hml, hown, hts⟩ (ct_X4_differs l G cy aP bF bL bX bC aN aR wSz wTl wFo wCo gF gL gX gC vn fN p1 Q5 hw9) (cwV 1 hts gX8_proper_X4_differs rfl rfl rfl (by decide +kernel) ⟨Nat.le_of_ble_eq_true rfl, Nat.le_of_ble_eq_true rfl⟩) (rP_V hK hP (ci := 4) (q0 := 1) rfl rfl hPc) rfl rfl hl.1 rfl (lv_room (Nat.le_of_ble_eq_true rfl)) dX8_proper_37 ⟨Nat.le_of_ble_eq_true rfl, Nat.le_of_ble_eq_true rfl⟩)) (fun r6 er6 => ?_)
      specialize h r6 er6
      obtain ⟨Q7, hw9, h⟩ := h
      have hPc : va_P G vwCl [] s.heap := P_nil
      refine vp_callSi (va_Run.run (va_runS (As := [.int r6]) (rest := []) ⟨hx, hb, hml, hown, hts⟩ (ct_X8_asNumber l G cy r6 Q7 hw9) (va_cwS 1 hts gX8_proper_X8_asNumber rfl rfl rfl (by decide +kernel) ⟨Nat.le_of_ble_eq_true rfl, Nat.le_of_ble_eq_true rfl⟩) (rP_S hK hPc) rfl rfl hl.1 rfl (lv_room (Nat.le_of_ble_eq_true rfl)) dX8_proper_40 ⟨Nat.le_of_ble_eq_true rfl, Nat.le_of_ble_eq_true rfl⟩)) (fun r8 er8 => ?_)
      specialize h r8 er8
      rw [← hQe]
      exact W.iret (v := r8) hx hb hr (fun t ht hW => ⟨r8, rfl, h, ht⟩) (fun q9 h9 => by cases h9) dX8_proper_43
    · obtain ⟨h, -⟩ := h
      specialize h c4
      refine lv_iconst (v := (-1)) hx hb dX8_proper_30 (by decide) ?_
      rw [← hQe]
      exact W.iret (v := (-1)) hx hb hr (fun t ht hW => ⟨(-1), rfl, h, ht⟩) (fun q9 h9 => by cases h9) dX8_proper_31
  · obtain ⟨-, h⟩ := h
    specialize h c1
    refine lv_bipush (v := (-2)) hx hb dX8_proper_12 (by decide) ?_
    rw [← hQe]
    exact W.iret (v := (-2)) hx hb hr (fun t ht hW => ⟨(-2), rfl, h, ht⟩) (fun q9 h9 => by cases h9) dX8_proper_14

set_option maxHeartbeats 4000000 in
set_option maxRecDepth 100000 in
theorem ct_X8_net (l : Launch) (G : va_G) (cy : Nat → ClassId) (a0 aN aR aM aP aW aT : Nat) (sz : Nat) (vLe : Int32) (vMo : Int32) (vCo : Int32) (vn : Int32) (fN : Nat → Int32) (p1 : Int32) (Q : Int32 → Int32 → (Nat → Int32) → Prop) (h : wp_X8_net vn fN p1 Q) : Met l yX8_net wsX8_net rmX8_net (va_Pc [.ref a0, .int p1] (wP G cy sz [(a0, .inr (7, [.ref aN, .ref aM, .ref aP, .ref aW, .ref aT, .int vLe, .int vMo, .int vCo])), (aN, .inr (3, [.ref aR, .int vn])), (aR, .inl (cy 0, 9, .inl fN))])) (va_Qi (fun (r : Int32) (u : Int32 × (Nat → Int32)) => Q r u.1 u.2) (fun (u : Int32 × (Nat → Int32)) (t : State) => va_P G vwCl [(a0, .inr (7, [.ref aN, .ref aM, .ref aP, .ref aW, .ref aT, .int vLe, .int vMo, .int vCo])), (aN, .inr (3, [.ref aR, .int u.1])), (aR, .inl (cy 0, 9, .inl u.2))] t.heap) (va_A [(a0, .inr (7, [.ref aN, .ref aM, .ref aP, .ref aW, .ref aT, .int vLe, .int vMo, .int vCo])), (aN, .inr (3, [.ref aR, .int vn])), (aR, .inl (cy 0, 9, .inl fN))] sz)) 0 0 (va_A [(a0, .inr (7, [.ref aN, .ref aM, .ref aP, .ref aW, .ref aT, .int vLe, .int vMo, .int vCo])), (aN, .inr (3, [.ref aR, .int vn])), (aR, .inl (cy 0, 9, .inl fN))] sz) := by
  unfold wp_X8_net at h
  refine Met.ofW (cc := cX8_net) (maxL := 3) (ret := (some .int)) (by decide) rfl ?_
  intro p e s m args below meth c s₁ B hml hv
  obtain ⟨hav, hsz, hP, hK, hD0⟩ := hv
  have hx := B.exec
  have hb := B.bytes
  have hr := B.returns
  have hts := atoms_spec (ws := wsX8_net) B.pre
  have hown : s.vm.findClass RX8 = some m.cls := findClass_of_methodNamed B.named
  have hlocks := B.notSynchronized
  subst hsz
  have hD := hD0.self (sz := s.heap.size)
  generalize hAe : va_A [(a0, .inr (7, [.ref aN, .ref aM, .ref aP, .ref aW, .ref aT, .int vLe, .int vMo, .int vCo])), (aN, .inr (3, [.ref aR, .int vn])), (aR, .inl (cy 0, 9, .inl fN))] s.heap.size = A at hD ⊢
  have hA : ∀ q : Nat, s.heap.size ≤ q → A q := fun q h9 => by rw [← hAe]; exact Or.inr h9
  have hS : va_S A s.heap s.heap [] := va_S.rf
  have hl := lv_entry ([.ref a0, .int p1]) (n := 3) (Nat.le_of_ble_eq_true rfl)
  rw [show entryFrame m args 3 = entryFrame m ([.ref a0, .int p1] : List Value).toArray 3 by rw [hav], lg_entry_eq]
  generalize (lg_sl ([.ref a0, .int p1]) ++ List.replicate (3 - (lg_sl ([.ref a0, .int p1])).length) Slot.unset).toArray = ls at hl ⊢
  have hl : lv_has ls 3 [(0, .ref a0), (1, .int p1)] := hl
  generalize hQe : MQ below _ _ _ _ _ _ = QM
  have hP : va_P G vwCl [(a0, .inr (7, [.ref aN, .ref aM, .ref aP, .ref aW, .ref aT, .int vLe, .int vMo, .int vCo])), (aN, .inr (3, [.ref aR, .int vn])), (aR, .inl (cy 0, 9, .inl fN))] s.heap := hP
  have iwX8 : ∀ w ∈ wsX80, w ∈ wsX8_net := by decide +kernel
  have fl10 := hts (.fieldLink RX8 10 "SlidTokens" "graph" "LSlidTokens$Net;") (by decide +kernel)
  have iwX3 : ∀ w ∈ wsX30, w ∈ wsX8_net := by decide +kernel
  have fl66 := hts (.fieldLink RX8 66 "SlidTokens$Net" "nodes" "I") (by decide +kernel)
  suffices K9 : ∀ (H : Heap) (locs : List Loc), va_P G vwCl [(a0, .inr (7, [.ref aN, .ref aM, .ref aP, .ref aW, .ref aT, .int vLe, .int vMo, .int vCo])), (aN, .inr (3, [.ref aR, .int vn])), (aR, .inl (cy 0, 9, .inl fN))] H → va_D A [(a0, .inr (7, [.ref aN, .ref aM, .ref aP, .ref aW, .ref aT, .int vLe, .int vMo, .int vCo])), (aN, .inr (3, [.ref aR, .int vn])), (aR, .inl (cy 0, 9, .inl fN))] → va_S A s.heap H locs → W p l e (headSpec wsX8_net rmX8_net).room s m args below meth c H locs 0 0 QM (F0 m 0 ls []) from K9 _ _ hP hD hS
  clear hP hD hS
  intro H locs hP hD hS
  refine lv_iload_n hx hb dX8_net_0 rfl (lv_at hl 1 rfl) ?_
  refine lv_iconst (v := 1) hx hb dX8_net_1 (by decide) ?_
  refine lv_bipush (v := 9) hx hb dX8_net_2 (by decide) ?_
  obtain ⟨Q1, hw9, h⟩ := h
  have hPc : va_P G vwCl [] H := P_nil
  refine vp_callSi (va_Run.run (va_runS (As := [.int p1, .int 1, .int 9]) (rest := []) ⟨hx, hb, hml, hown, hts⟩ (ct_X8_isWithin l G cy p1 1 9 Q1 hw9) (va_cwS 3 hts gX8_net_X8_isWithin rfl rfl rfl (by decide +kernel) ⟨Nat.le_of_ble_eq_true rfl, Nat.le_of_ble_eq_true rfl⟩) (rP_S hK hPc) rfl rfl hl.1 rfl (lv_room (Nat.le_of_ble_eq_true rfl)) dX8_net_4 ⟨Nat.le_of_ble_eq_true rfl, Nat.le_of_ble_eq_true rfl⟩)) (fun r2 er2 => ?_)
  specialize h r2 er2
  refine lv_if_ne (tgt := 12) hx hb dX8_net_7 (by decide) (fun c3 => ?_) (fun c3 => ?_)
  · obtain ⟨-, h⟩ := h
    specialize h c3
    refine lv_aload_n hx hb dX8_net_12 rfl (lv_at hl 0 rfl) ?_
    refine va_get (D := G) (ci := 7) (v := .ref aN) (C := RX8) (T := TX8) (N := 8) hx hb hts iwX8 hown hK.1 hP 0 rfl rfl 0 (by decide) fl10 (fun _ h9 => h9) rfl dX8_net_13 ?_
    refine va_get (D := G) (ci := 3) (v := .int vn) (C := RX3) (T := TX3) (N := 2) hx hb hts iwX3 hown hK.1 hP 1 rfl rfl 1 (by decide) fl66 (fun _ h9 => h9) rfl dX8_net_16 ?_
    refine lv_istore_n (lv' := [(2, .int vn), (0, .ref a0), (1, .int p1)]) hx hb dX8_net_19 rfl hl (by decide) rfl (fun ls hl => ?_)
    refine lv_aload_n hx hb dX8_net_20 rfl (lv_at hl 1 rfl) ?_
    refine va_get (D := G) (ci := 7) (v := .ref aN) (C := RX8) (T := TX8) (N := 8) hx hb hts iwX8 hown hK.1 hP 0 rfl rfl 0 (by decide) fl10 (fun _ h9 => h9) rfl dX8_net_21 ?_
    refine lv_iload_n hx hb dX8_net_24 rfl (lv_at hl 2 rfl) ?_
    obtain ⟨Q4, hw9, h⟩ := h
    have hPc : va_P G vwCl [(aN, .inr (3, [.ref aR, .int vn])), (aR, .inl (cy 0, 9, .inl fN))] H := hP.sub [1, 2] rfl
    have hDc : va_D A [(aN, .inr (3, [.ref aR, .int vn])), (aR, .inl (cy 0, 9, .inl fN))] := hD.sub [1, 2] (by decide) rfl
    have hFc := va_free (wc := [(aN, .inr (3, [.ref aR, .int vn])), (aR, .inl (cy 0, 9, .inl fN))]) hD hS hA [1, 2] rfl
    refine va_callv (va_runV (As := [.int p1]) (rest := []) ⟨hx, hb, hml, hown, hts⟩ (ct_X3_restart l G cy aN aR H.size vn fN p1 Q4 hw9) (cwV 1 hts gX8_net_X3_restart rfl rfl rfl (by decide +kernel) ⟨Nat.le_of_ble_eq_true rfl, Nat.le_of_ble_eq_true rfl⟩) (wP_V hK hP (ci := 3) (q0 := 1) rfl rfl hPc hDc) rfl rfl hl.1 rfl (lv_room (Nat.le_of_ble_eq_true rfl)) dX8_net_25 ⟨Nat.le_of_ble_eq_true rfl, Nat.le_of_ble_eq_true rfl⟩) hS (fun q9 _ h9 => hFc q9 h9) hFc (fun u9 t9 H locs ht9 hvm9 hw9 hB9 hz9 hk9 hS => ?_)
    obtain ⟨z6, f7⟩ := u9
    have hP : va_P G vwCl [(a0, .inr (7, [.ref aN, .ref aM, .ref aP, .ref aW, .ref aT, .int vLe, .int vMo, .int vCo])), (aN, .inr (3, [.ref aR, .int z6])), (aR, .inl (cy 0, 9, .inl f7))] H := P_back [1, 2] [0] 3 hP hD rfl rfl rfl rfl (by decide) (by decide) hk9 (by rw [← ht9]; exact hB9)
    have hD : va_D A [(a0, .inr (7, [.ref aN, .ref aM, .ref aP, .ref aW, .ref aT, .int vLe, .int vMo, .int vCo])), (aN, .inr (3, [.ref aR, .int z6])), (aR, .inl (cy 0, 9, .inl f7))] := D_same hD rfl
    specialize h z6 f7 hw9
    refine lv_iload_n hx hb dX8_net_28 rfl (lv_at hl 0 rfl) ?_
    rw [← hQe]
    exact W.iret (v := vn) hx hb hr (fun t ht hW => ⟨⟨vn, (z6, f7), rfl, h, by dsimp only; rw [ht]; exact hP⟩, hS.F ht⟩) hS.2.2 dX8_net_29
  · obtain ⟨h, -⟩ := h
    specialize h c3
    refine lv_iconst (v := (-1)) hx hb dX8_net_10 (by decide) ?_
    rw [← hQe]
    exact W.iret (v := (-1)) hx hb hr (fun t ht hW => ⟨⟨(-1), (vn, fN), rfl, h, by dsimp only; rw [ht]; exact hP⟩, hS.F ht⟩) hS.2.2 dX8_net_11

set_option maxHeartbeats 4000000 in
set_option maxRecDepth 100000 in
theorem ct_X8_join (l : Launch) (G : va_G) (cy : Nat → ClassId) (a0 aN aR aM aP aW aT : Nat) (sz : Nat) (vLe : Int32) (vMo : Int32) (vCo : Int32) (vn : Int32) (fN : Nat → Int32) (p1 : Int32) (p2 : Int32) (p3 : Int32) (Q : Int32 → (Nat → Int32) → Prop) (h : wp_X8_join vn fN p1 p2 p3 Q) : Met l yX8_join wsX8_join rmX8_join (va_Pc [.ref a0, .int p1, .int p2, .int p3] (wP G cy sz [(a0, .inr (7, [.ref aN, .ref aM, .ref aP, .ref aW, .ref aT, .int vLe, .int vMo, .int vCo])), (aN, .inr (3, [.ref aR, .int vn])), (aR, .inl (cy 0, 9, .inl fN))])) (va_Qi (fun (r : Int32) (u : (Nat → Int32)) => Q r u) (fun (u : (Nat → Int32)) (t : State) => va_P G vwCl [(a0, .inr (7, [.ref aN, .ref aM, .ref aP, .ref aW, .ref aT, .int vLe, .int vMo, .int vCo])), (aN, .inr (3, [.ref aR, .int vn])), (aR, .inl (cy 0, 9, .inl u))] t.heap) (va_A [(a0, .inr (7, [.ref aN, .ref aM, .ref aP, .ref aW, .ref aT, .int vLe, .int vMo, .int vCo])), (aN, .inr (3, [.ref aR, .int vn])), (aR, .inl (cy 0, 9, .inl fN))] sz)) 0 0 (va_A [(a0, .inr (7, [.ref aN, .ref aM, .ref aP, .ref aW, .ref aT, .int vLe, .int vMo, .int vCo])), (aN, .inr (3, [.ref aR, .int vn])), (aR, .inl (cy 0, 9, .inl fN))] sz) := by
  unfold wp_X8_join at h
  refine Met.ofW (cc := cX8_join) (maxL := 5) (ret := (some .int)) (by decide) rfl ?_
  intro p e s m args below meth c s₁ B hml hv
  obtain ⟨hav, hsz, hP, hK, hD0⟩ := hv
  have hx := B.exec
  have hb := B.bytes
  have hr := B.returns
  have hts := atoms_spec (ws := wsX8_join) B.pre
  have hown : s.vm.findClass RX8 = some m.cls := findClass_of_methodNamed B.named
  have hlocks := B.notSynchronized
  subst hsz
  have hD := hD0.self (sz := s.heap.size)
  generalize hAe : va_A [(a0, .inr (7, [.ref aN, .ref aM, .ref aP, .ref aW, .ref aT, .int vLe, .int vMo, .int vCo])), (aN, .inr (3, [.ref aR, .int vn])), (aR, .inl (cy 0, 9, .inl fN))] s.heap.size = A at hD ⊢
  have hA : ∀ q : Nat, s.heap.size ≤ q → A q := fun q h9 => by rw [← hAe]; exact Or.inr h9
  have hS : va_S A s.heap s.heap [] := va_S.rf
  have hl := lv_entry ([.ref a0, .int p1, .int p2, .int p3]) (n := 5) (Nat.le_of_ble_eq_true rfl)
  rw [show entryFrame m args 5 = entryFrame m ([.ref a0, .int p1, .int p2, .int p3] : List Value).toArray 5 by rw [hav], lg_entry_eq]
  generalize (lg_sl ([.ref a0, .int p1, .int p2, .int p3]) ++ List.replicate (5 - (lg_sl ([.ref a0, .int p1, .int p2, .int p3])).length) Slot.unset).toArray = ls at hl ⊢
  have hl : lv_has ls 5 [(0, .ref a0), (1, .int p1), (2, .int p2), (3, .int p3)] := hl
  generalize hQe : MQ below _ _ _ _ _ _ = QM
  have hP : va_P G vwCl [(a0, .inr (7, [.ref aN, .ref aM, .ref aP, .ref aW, .ref aT, .int vLe, .int vMo, .int vCo])), (aN, .inr (3, [.ref aR, .int vn])), (aR, .inl (cy 0, 9, .inl fN))] s.heap := hP
  have iwX8 : ∀ w ∈ wsX80, w ∈ wsX8_join := by decide +kernel
  have fl10 := hts (.fieldLink RX8 10 "SlidTokens" "graph" "LSlidTokens$Net;") (by decide +kernel)
  suffices K9 : ∀ (H : Heap) (locs : List Loc), va_P G vwCl [(a0, .inr (7, [.ref aN, .ref aM, .ref aP, .ref aW, .ref aT, .int vLe, .int vMo, .int vCo])), (aN, .inr (3, [.ref aR, .int vn])), (aR, .inl (cy 0, 9, .inl fN))] H → va_D A [(a0, .inr (7, [.ref aN, .ref aM, .ref aP, .ref aW, .ref aT, .int vLe, .int vMo, .int vCo])), (aN, .inr (3, [.ref aR, .int vn])), (aR, .inl (cy 0, 9, .inl fN))] → va_S A s.heap H locs → W p l e (headSpec wsX8_join rmX8_join).room s m args below meth c H locs 0 0 QM (F0 m 0 ls []) from K9 _ _ hP hD hS
  clear hP hD hS
  intro H locs hP hD hS
  refine lv_aload_n hx hb dX8_join_0 rfl (lv_at hl 0 rfl) ?_
  refine va_get (D := G) (ci := 7) (v := .ref aN) (C := RX8) (T := TX8) (N := 8) hx hb hts iwX8 hown hK.1 hP 0 rfl rfl 0 (by decide) fl10 (fun _ h9 => h9) rfl dX8_join_1 ?_
  refine lv_iload_n hx hb dX8_join_4 rfl (lv_at hl 1 rfl) ?_
  obtain ⟨Q1, hw9, h⟩ := h
  have hPc : va_P G vwCl [(aN, .inr (3, [.ref aR, .int vn])), (aR, .inl (cy 0, 9, .inl fN))] H := hP.sub [1, 2] rfl
  refine vp_callSi (va_Run.run (va_runV (As := [.int p1]) (rest := []) ⟨hx, hb, hml, hown, hts⟩ (ct_X3_hasNode l G cy aN aR vn fN p1 Q1 hw9) (cwV 1 hts gX8_join_X3_hasNode rfl rfl rfl (by decide +kernel) ⟨Nat.le_of_ble_eq_true rfl, Nat.le_of_ble_eq_true rfl⟩) (rP_V hK hP (ci := 3) (q0 := 1) rfl rfl hPc) rfl rfl hl.1 rfl (lv_room (Nat.le_of_ble_eq_true rfl)) dX8_join_5 ⟨Nat.le_of_ble_eq_true rfl, Nat.le_of_ble_eq_true rfl⟩)) (fun r2 er2 => ?_)
  specialize h r2 er2
  refine lv_if_eq (tgt := 36) hx hb dX8_join_8 (by decide) (fun c3 => ?_) (fun c3 => ?_)
  · obtain ⟨h, -⟩ := h
    specialize h c3
    refine lv_iconst (v := (-1)) hx hb dX8_join_36 (by decide) ?_
    rw [← hQe]
    exact W.iret (v := (-1)) hx hb hr (fun t ht hW => ⟨⟨(-1), fN, rfl, h, by dsimp only; rw [ht]; exact hP⟩, hS.F ht⟩) hS.2.2 dX8_join_37
  · obtain ⟨-, h⟩ := h
    specialize h c3
    refine lv_aload_n hx hb dX8_join_11 rfl (lv_at hl 0 rfl) ?_
    refine va_get (D := G) (ci := 7) (v := .ref aN) (C := RX8) (T := TX8) (N := 8) hx hb hts iwX8 hown hK.1 hP 0 rfl rfl 0 (by decide) fl10 (fun _ h9 => h9) rfl dX8_join_12 ?_
    refine lv_iload_n hx hb dX8_join_15 rfl (lv_at hl 2 rfl) ?_
    obtain ⟨Q4, hw9, h⟩ := h
    have hPc : va_P G vwCl [(aN, .inr (3, [.ref aR, .int vn])), (aR, .inl (cy 0, 9, .inl fN))] H := hP.sub [1, 2] rfl
    refine vp_callSi (va_Run.run (va_runV (As := [.int p2]) (rest := []) ⟨hx, hb, hml, hown, hts⟩ (ct_X3_hasNode l G cy aN aR vn fN p2 Q4 hw9) (cwV 1 hts gX8_join_X3_hasNode rfl rfl rfl (by decide +kernel) ⟨Nat.le_of_ble_eq_true rfl, Nat.le_of_ble_eq_true rfl⟩) (rP_V hK hP (ci := 3) (q0 := 1) rfl rfl hPc) rfl rfl hl.1 rfl (lv_room (Nat.le_of_ble_eq_true rfl)) dX8_join_16 ⟨Nat.le_of_ble_eq_true rfl, Nat.le_of_ble_eq_true rfl⟩)) (fun r5 er5 => ?_)
    specialize h r5 er5
    refine lv_if_eq (tgt := 36) hx hb dX8_join_19 (by decide) (fun c6 => ?_) (fun c6 => ?_)
    · obtain ⟨h, -⟩ := h
      specialize h c6
      refine lv_iconst (v := (-1)) hx hb dX8_join_36 (by decide) ?_
      rw [← hQe]
      exact W.iret (v := (-1)) hx hb hr (fun t ht hW => ⟨⟨(-1), fN, rfl, h, by dsimp only; rw [ht]; exact hP⟩, hS.F ht⟩) hS.2.2 dX8_join_37
    · obtain ⟨-, h⟩ := h
      specialize h c6
      refine lv_iload_n hx hb dX8_join_22 rfl (lv_at hl 1 rfl) ?_
      refine lv_iload_n hx hb dX8_join_23 rfl (lv_at hl 2 rfl) ?_
      refine lv_icmp_eq (tgt := 36) hx hb dX8_join_24 (by decide) (fun c7 => ?_) (fun c7 => ?_)
      · obtain ⟨h, -⟩ := h
        specialize h c7
        refine lv_iconst (v := (-1)) hx hb dX8_join_36 (by decide) ?_
        rw [← hQe]
        exact W.iret (v := (-1)) hx hb hr (fun t ht hW => ⟨⟨(-1), fN, rfl, h, by dsimp only; rw [ht]; exact hP⟩, hS.F ht⟩) hS.2.2 dX8_join_37
      · obtain ⟨-, h⟩ := h
        specialize h c7
        refine lv_iload_n hx hb dX8_join_27 rfl (lv_at hl 3 rfl) ?_
        refine lv_iconst (v := 0) hx hb dX8_join_28 (by decide) ?_
        refine lv_iconst (v := 1) hx hb dX8_join_29 (by decide) ?_
        obtain ⟨Q8, hw9, h⟩ := h
        have hPc : va_P G vwCl [] H := P_nil
        refine vp_callSi (va_Run.run (va_runS (As := [.int p3, .int 0, .int 1]) (rest := []) ⟨hx, hb, hml, hown, hts⟩ (ct_X8_isWithin l G cy p3 0 1 Q8 hw9) (va_cwS 3 hts gX8_join_X8_isWithin rfl rfl rfl (by decide +kernel) ⟨Nat.le_of_ble_eq_true rfl, Nat.le_of_ble_eq_true rfl⟩) (rP_S hK hPc) rfl rfl hl.1 rfl (lv_room (Nat.le_of_ble_eq_true rfl)) dX8_join_30 ⟨Nat.le_of_ble_eq_true rfl, Nat.le_of_ble_eq_true rfl⟩)) (fun r9 er9 => ?_)
        specialize h r9 er9
        refine lv_if_ne (tgt := 38) hx hb dX8_join_33 (by decide) (fun c10 => ?_) (fun c10 => ?_)
        · obtain ⟨-, h⟩ := h
          specialize h c10
          refine lv_aload_n hx hb dX8_join_38 rfl (lv_at hl 0 rfl) ?_
          refine va_get (D := G) (ci := 7) (v := .ref aN) (C := RX8) (T := TX8) (N := 8) hx hb hts iwX8 hown hK.1 hP 0 rfl rfl 0 (by decide) fl10 (fun _ h9 => h9) rfl dX8_join_39 ?_
          refine lv_iload_n hx hb dX8_join_42 rfl (lv_at hl 1 rfl) ?_
          refine lv_iload_n hx hb dX8_join_43 rfl (lv_at hl 2 rfl) ?_
          obtain ⟨Q11, hw9, h⟩ := h
          have hPc : va_P G vwCl [(aN, .inr (3, [.ref aR, .int vn])), (aR, .inl (cy 0, 9, .inl fN))] H := hP.sub [1, 2] rfl
          refine vp_callSi (va_Run.run (va_runV (As := [.int p1, .int p2]) (rest := []) ⟨hx, hb, hml, hown, hts⟩ (ct_X3_areJoined l G cy aN aR vn fN p1 p2 Q11 hw9) (cwV 2 hts gX8_join_X3_areJoined rfl rfl rfl (by decide +kernel) ⟨Nat.le_of_ble_eq_true rfl, Nat.le_of_ble_eq_true rfl⟩) (rP_V hK hP (ci := 3) (q0 := 1) rfl rfl hPc) rfl rfl hl.1 rfl (lv_room (Nat.le_of_ble_eq_true rfl)) dX8_join_44 ⟨Nat.le_of_ble_eq_true rfl, Nat.le_of_ble_eq_true rfl⟩)) (fun r12 er12 => ?_)
          specialize h r12 er12
          obtain ⟨Q13, hw9, h⟩ := h
          have hPc : va_P G vwCl [] H := P_nil
          refine vp_callSi (va_Run.run (va_runS (As := [.int r12]) (rest := []) ⟨hx, hb, hml, hown, hts⟩ (ct_X8_asNumber l G cy r12 Q13 hw9) (va_cwS 1 hts gX8_join_X8_asNumber rfl rfl rfl (by decide +kernel) ⟨Nat.le_of_ble_eq_true rfl, Nat.le_of_ble_eq_true rfl⟩) (rP_S hK hPc) rfl rfl hl.1 rfl (lv_room (Nat.le_of_ble_eq_true rfl)) dX8_join_47 ⟨Nat.le_of_ble_eq_true rfl, Nat.le_of_ble_eq_true rfl⟩)) (fun r14 er14 => ?_)
          specialize h r14 er14
          refine lv_istore (lv' := [(4, .int r14), (0, .ref a0), (1, .int p1), (2, .int p2), (3, .int p3)]) hx hb dX8_join_50 hl (by decide) rfl (fun ls hl => ?_)
          refine lv_aload_n hx hb dX8_join_52 rfl (lv_at hl 1 rfl) ?_
          refine va_get (D := G) (ci := 7) (v := .ref aN) (C := RX8) (T := TX8) (N := 8) hx hb hts iwX8 hown hK.1 hP 0 rfl rfl 0 (by decide) fl10 (fun _ h9 => h9) rfl dX8_join_53 ?_
          refine lv_iload_n hx hb dX8_join_56 rfl (lv_at hl 2 rfl) ?_
          refine lv_iload_n hx hb dX8_join_57 rfl (lv_at hl 3 rfl) ?_
          refine lv_iload_n hx hb dX8_join_58 rfl (lv_at hl 4 rfl) ?_
          refine lv_iconst (v := 1) hx hb dX8_join_59 (by decide) ?_
          refine lv_icmp_ne (tgt := 67) hx hb dX8_join_60 (by decide) (fun c15 => ?_) (fun c15 => ?_)
          · obtain ⟨-, h⟩ := h
            specialize h c15
            refine lv_iconst (v := 0) hx hb dX8_join_67 (by decide) ?_
            obtain ⟨Q16, hw9, h⟩ := h
            have hPc : va_P G vwCl [(aN, .inr (3, [.ref aR, .int vn])), (aR, .inl (cy 0, 9, .inl fN))] H := hP.sub [1, 2] rfl
            have hDc : va_D A [(aN, .inr (3, [.ref aR, .int vn])), (aR, .inl (cy 0, 9, .inl fN))] := hD.sub [1, 2] (by decide) rfl
            have hFc := va_free (wc := [(aN, .inr (3, [.ref aR, .int vn])), (aR, .inl (cy 0, 9, .inl fN))]) hD hS hA [1, 2] rfl
            refine va_callv (va_runV (As := [.int p1, .int p2, .int 0]) (rest := []) ⟨hx, hb, hml, hown, hts⟩ (ct_X3_tie l G cy aN aR H.size vn fN p1 p2 0 Q16 hw9) (cwV 3 hts gX8_join_X3_tie rfl rfl rfl (by decide +kernel) ⟨Nat.le_of_ble_eq_true rfl, Nat.le_of_ble_eq_true rfl⟩) (wP_V hK hP (ci := 3) (q0 := 1) rfl rfl hPc hDc) rfl rfl hl.1 rfl (lv_room (Nat.le_of_ble_eq_true rfl)) dX8_join_68 ⟨Nat.le_of_ble_eq_true rfl, Nat.le_of_ble_eq_true rfl⟩) hS (fun q9 _ h9 => hFc q9 h9) hFc (fun u9 t9 H locs ht9 hvm9 hw9 hB9 hz9 hk9 hS => ?_)
            obtain ⟨f18, rfl⟩ : ∃ z9, z9 = u9 := ⟨_, rfl⟩
            have hP : va_P G vwCl [(a0, .inr (7, [.ref aN, .ref aM, .ref aP, .ref aW, .ref aT, .int vLe, .int vMo, .int vCo])), (aN, .inr (3, [.ref aR, .int vn])), (aR, .inl (cy 0, 9, .inl f18))] H := P_back [1, 2] [0] 3 hP hD rfl rfl rfl rfl (by decide) (by decide) hk9 (by rw [← ht9]; exact hB9)
            have hD : va_D A [(a0, .inr (7, [.ref aN, .ref aM, .ref aP, .ref aW, .ref aT, .int vLe, .int vMo, .int vCo])), (aN, .inr (3, [.ref aR, .int vn])), (aR, .inl (cy 0, 9, .inl f18))] := D_same hD rfl
            specialize h f18 hw9
            refine lv_iload hx hb dX8_join_71 (lv_at hl 0 rfl) ?_
            rw [← hQe]
            exact W.iret (v := r14) hx hb hr (fun t ht hW => ⟨⟨r14, f18, rfl, h, by dsimp only; rw [ht]; exact hP⟩, hS.F ht⟩) hS.2.2 dX8_join_73
          · obtain ⟨h, -⟩ := h
            specialize h c15
            refine lv_iconst (v := 1) hx hb dX8_join_63 (by decide) ?_
            refine lv_goto (tgt := 68) hx hb dX8_join_64 (by decide) ?_
            obtain ⟨Q19, hw9, h⟩ := h
            have hPc : va_P G vwCl [(aN, .inr (3, [.ref aR, .int vn])), (aR, .inl (cy 0, 9, .inl fN))] H := hP.sub [1, 2] rfl
            have hDc : va_D A [(aN, .inr (3, [.ref aR, .int vn])), (aR, .inl (cy 0, 9, .inl fN))] := hD.sub [1, 2] (by decide) rfl
            have hFc := va_free (wc := [(aN, .inr (3, [.ref aR, .int vn])), (aR, .inl (cy 0, 9, .inl fN))]) hD hS hA [1, 2] rfl
            refine va_callv (va_runV (As := [.int p1, .int p2, .int 1]) (rest := []) ⟨hx, hb, hml, hown, hts⟩ (ct_X3_tie l G cy aN aR H.size vn fN p1 p2 1 Q19 hw9) (cwV 3 hts gX8_join_X3_tie rfl rfl rfl (by decide +kernel) ⟨Nat.le_of_ble_eq_true rfl, Nat.le_of_ble_eq_true rfl⟩) (wP_V hK hP (ci := 3) (q0 := 1) rfl rfl hPc hDc) rfl rfl hl.1 rfl (lv_room (Nat.le_of_ble_eq_true rfl)) dX8_join_68 ⟨Nat.le_of_ble_eq_true rfl, Nat.le_of_ble_eq_true rfl⟩) hS (fun q9 _ h9 => hFc q9 h9) hFc (fun u9 t9 H locs ht9 hvm9 hw9 hB9 hz9 hk9 hS => ?_)
            obtain ⟨f21, rfl⟩ : ∃ z9, z9 = u9 := ⟨_, rfl⟩
            have hP : va_P G vwCl [(a0, .inr (7, [.ref aN, .ref aM, .ref aP, .ref aW, .ref aT, .int vLe, .int vMo, .int vCo])), (aN, .inr (3, [.ref aR, .int vn])), (aR, .inl (cy 0, 9, .inl f21))] H := P_back [1, 2] [0] 3 hP hD rfl rfl rfl rfl (by decide) (by decide) hk9 (by rw [← ht9]; exact hB9)
            have hD : va_D A [(a0, .inr (7, [.ref aN, .ref aM, .ref aP, .ref aW, .ref aT, .int vLe, .int vMo, .int vCo])), (aN, .inr (3, [.ref aR, .int vn])), (aR, .inl (cy 0, 9, .inl f21))] := D_same hD rfl
            specialize h f21 hw9
            refine lv_iload hx hb dX8_join_71 (lv_at hl 0 rfl) ?_
            rw [← hQe]
            exact W.iret (v := r14) hx hb hr (fun t ht hW => ⟨⟨r14, f21, rfl, h, by dsimp only; rw [ht]; exact hP⟩, hS.F ht⟩) hS.2.2 dX8_join_73
        · obtain ⟨h, -⟩ := h
          specialize h c10
          refine lv_iconst (v := (-1)) hx hb dX8_join_36 (by decide) ?_
          rw [← hQe]
          exact W.iret (v := (-1)) hx hb hr (fun t ht hW => ⟨⟨(-1), fN, rfl, h, by dsimp only; rw [ht]; exact hP⟩, hS.F ht⟩) hS.2.2 dX8_join_37

set_option maxHeartbeats 4000000 in
set_option maxRecDepth 100000 in
theorem ct_X8_shape (l : Launch) (G : va_G) (cy : Nat → ClassId) (a0 aN aR aM aP aW aT : Nat) (sz : Nat) (vLe : Int32) (vMo : Int32) (vCo : Int32) (vn : Int32) (fN : Nat → Int32) (p1 : Int32) (Q : Int32 → Int32 → (Nat → Int32) → Prop) (h : wp_X8_shape vn fN p1 Q) : Met l yX8_shape wsX8_shape rmX8_shape (va_Pc [.ref a0, .int p1] (wP G cy sz [(a0, .inr (7, [.ref aN, .ref aM, .ref aP, .ref aW, .ref aT, .int vLe, .int vMo, .int vCo])), (aN, .inr (3, [.ref aR, .int vn])), (aR, .inl (cy 0, 9, .inl fN))])) (va_Qi (fun (r : Int32) (u : Int32 × (Nat → Int32)) => Q r u.1 u.2) (fun (u : Int32 × (Nat → Int32)) (t : State) => va_P G vwCl [(a0, .inr (7, [.ref aN, .ref aM, .ref aP, .ref aW, .ref aT, .int vLe, .int vMo, .int vCo])), (aN, .inr (3, [.ref aR, .int u.1])), (aR, .inl (cy 0, 9, .inl u.2))] t.heap) (va_A [(a0, .inr (7, [.ref aN, .ref aM, .ref aP, .ref aW, .ref aT, .int vLe, .int vMo, .int vCo])), (aN, .inr (3, [.ref aR, .int vn])), (aR, .inl (cy 0, 9, .inl fN))] sz)) 0 0 (va_A [(a0, .inr (7, [.ref aN, .ref aM, .ref aP, .ref aW, .ref aT, .int vLe, .int vMo, .int vCo])), (aN, .inr (3, [.ref aR, .int vn])), (aR, .inl (cy 0, 9, .inl fN))] sz) := by
  unfold wp_X8_shape at h
  refine Met.ofW (cc := cX8_shape) (maxL := 2) (ret := (some .int)) (by decide) rfl ?_
  intro p e s m args below meth c s₁ B hml hv
  obtain ⟨hav, hsz, hP, hK, hD0⟩ := hv
  have hx := B.exec
  have hb := B.bytes
  have hr := B.returns
  have hts := atoms_spec (ws := wsX8_shape) B.pre
  have hown : s.vm.findClass RX8 = some m.cls := findClass_of_methodNamed B.named
  have hlocks := B.notSynchronized
  subst hsz
  have hD := hD0.self (sz := s.heap.size)
  generalize hAe : va_A [(a0, .inr (7, [.ref aN, .ref aM, .ref aP, .ref aW, .ref aT, .int vLe, .int vMo, .int vCo])), (aN, .inr (3, [.ref aR, .int vn])), (aR, .inl (cy 0, 9, .inl fN))] s.heap.size = A at hD ⊢
  have hA : ∀ q : Nat, s.heap.size ≤ q → A q := fun q h9 => by rw [← hAe]; exact Or.inr h9
  have hS : va_S A s.heap s.heap [] := va_S.rf
  have hl := lv_entry ([.ref a0, .int p1]) (n := 2) (Nat.le_of_ble_eq_true rfl)
  rw [show entryFrame m args 2 = entryFrame m ([.ref a0, .int p1] : List Value).toArray 2 by rw [hav], lg_entry_eq]
  generalize (lg_sl ([.ref a0, .int p1]) ++ List.replicate (2 - (lg_sl ([.ref a0, .int p1])).length) Slot.unset).toArray = ls at hl ⊢
  have hl : lv_has ls 2 [(0, .ref a0), (1, .int p1)] := hl
  generalize hQe : MQ below _ _ _ _ _ _ = QM
  have hP : va_P G vwCl [(a0, .inr (7, [.ref aN, .ref aM, .ref aP, .ref aW, .ref aT, .int vLe, .int vMo, .int vCo])), (aN, .inr (3, [.ref aR, .int vn])), (aR, .inl (cy 0, 9, .inl fN))] s.heap := hP
  have iwX8 : ∀ w ∈ wsX80, w ∈ wsX8_shape := by decide +kernel
  have fl10 := hts (.fieldLink RX8 10 "SlidTokens" "graph" "LSlidTokens$Net;") (by decide +kernel)
  suffices K9 : ∀ (H : Heap) (locs : List Loc), va_P G vwCl [(a0, .inr (7, [.ref aN, .ref aM, .ref aP, .ref aW, .ref aT, .int vLe, .int vMo, .int vCo])), (aN, .inr (3, [.ref aR, .int vn])), (aR, .inl (cy 0, 9, .inl fN))] H → va_D A [(a0, .inr (7, [.ref aN, .ref aM, .ref aP, .ref aW, .ref aT, .int vLe, .int vMo, .int vCo])), (aN, .inr (3, [.ref aR, .int vn])), (aR, .inl (cy 0, 9, .inl fN))] → va_S A s.heap H locs → W p l e (headSpec wsX8_shape rmX8_shape).room s m args below meth c H locs 0 0 QM (F0 m 0 ls []) from K9 _ _ hP hD hS
  clear hP hD hS
  intro H locs hP hD hS
  refine lv_iload_n hx hb dX8_shape_0 rfl (lv_at hl 1 rfl) ?_
  refine lv_iconst (v := 0) hx hb dX8_shape_1 (by decide) ?_
  refine lv_iconst (v := 3) hx hb dX8_shape_2 (by decide) ?_
  obtain ⟨Q1, hw9, h⟩ := h
  have hPc : va_P G vwCl [] H := P_nil
  refine vp_callSi (va_Run.run (va_runS (As := [.int p1, .int 0, .int 3]) (rest := []) ⟨hx, hb, hml, hown, hts⟩ (ct_X8_isWithin l G cy p1 0 3 Q1 hw9) (va_cwS 3 hts gX8_shape_X8_isWithin rfl rfl rfl (by decide +kernel) ⟨Nat.le_of_ble_eq_true rfl, Nat.le_of_ble_eq_true rfl⟩) (rP_S hK hPc) rfl rfl hl.1 rfl (lv_room (Nat.le_of_ble_eq_true rfl)) dX8_shape_3 ⟨Nat.le_of_ble_eq_true rfl, Nat.le_of_ble_eq_true rfl⟩)) (fun r2 er2 => ?_)
  specialize h r2 er2
  refine lv_if_ne (tgt := 11) hx hb dX8_shape_6 (by decide) (fun c3 => ?_) (fun c3 => ?_)
  · obtain ⟨-, h⟩ := h
    specialize h c3
    refine lv_aload_n hx hb dX8_shape_11 rfl (lv_at hl 0 rfl) ?_
    refine va_get (D := G) (ci := 7) (v := .ref aN) (C := RX8) (T := TX8) (N := 8) hx hb hts iwX8 hown hK.1 hP 0 rfl rfl 0 (by decide) fl10 (fun _ h9 => h9) rfl dX8_shape_12 ?_
    refine lv_iload_n hx hb dX8_shape_15 rfl (lv_at hl 1 rfl) ?_
    obtain ⟨Q4, hw9, h⟩ := h
    have hPc : va_P G vwCl [(aN, .inr (3, [.ref aR, .int vn])), (aR, .inl (cy 0, 9, .inl fN))] H := hP.sub [1, 2] rfl
    have hDc : va_D A [(aN, .inr (3, [.ref aR, .int vn])), (aR, .inl (cy 0, 9, .inl fN))] := hD.sub [1, 2] (by decide) rfl
    have hFc := va_free (wc := [(aN, .inr (3, [.ref aR, .int vn])), (aR, .inl (cy 0, 9, .inl fN))]) hD hS hA [1, 2] rfl
    refine va_callv (va_runV (As := [.int p1]) (rest := []) ⟨hx, hb, hml, hown, hts⟩ (ct_X3_form l G cy aN aR H.size vn fN p1 Q4 hw9) (cwV 1 hts gX8_shape_X3_form rfl rfl rfl (by decide +kernel) ⟨Nat.le_of_ble_eq_true rfl, Nat.le_of_ble_eq_true rfl⟩) (wP_V hK hP (ci := 3) (q0 := 1) rfl rfl hPc hDc) rfl rfl hl.1 rfl (lv_room (Nat.le_of_ble_eq_true rfl)) dX8_shape_16 ⟨Nat.le_of_ble_eq_true rfl, Nat.le_of_ble_eq_true rfl⟩) hS (fun q9 _ h9 => hFc q9 h9) hFc (fun u9 t9 H locs ht9 hvm9 hw9 hB9 hz9 hk9 hS => ?_)
    obtain ⟨z6, f7⟩ := u9
    have hP : va_P G vwCl [(a0, .inr (7, [.ref aN, .ref aM, .ref aP, .ref aW, .ref aT, .int vLe, .int vMo, .int vCo])), (aN, .inr (3, [.ref aR, .int z6])), (aR, .inl (cy 0, 9, .inl f7))] H := P_back [1, 2] [0] 3 hP hD rfl rfl rfl rfl (by decide) (by decide) hk9 (by rw [← ht9]; exact hB9)
    have hD : va_D A [(a0, .inr (7, [.ref aN, .ref aM, .ref aP, .ref aW, .ref aT, .int vLe, .int vMo, .int vCo])), (aN, .inr (3, [.ref aR, .int z6])), (aR, .inl (cy 0, 9, .inl f7))] := D_same hD rfl
    specialize h z6 f7 hw9
    refine lv_aload_n hx hb dX8_shape_19 rfl (lv_at hl 0 rfl) ?_
    refine va_get (D := G) (ci := 7) (v := .ref aN) (C := RX8) (T := TX8) (N := 8) hx hb hts iwX8 hown hK.1 hP 0 rfl rfl 0 (by decide) fl10 (fun _ h9 => h9) rfl dX8_shape_20 ?_
    obtain ⟨Q8, hw9, h⟩ := h
    have hPc : va_P G vwCl [(aN, .inr (3, [.ref aR, .int z6])), (aR, .inl (cy 0, 9, .inl f7))] H := hP.sub [1, 2] rfl
    refine vp_callSi (va_Run.run (va_runV (As := []) (rest := []) ⟨hx, hb, hml, hown, hts⟩ (ct_X3_pairs l G cy aN aR z6 f7 Q8 hw9) (cwV 0 hts gX8_shape_X3_pairs rfl rfl rfl (by decide +kernel) ⟨Nat.le_of_ble_eq_true rfl, Nat.le_of_ble_eq_true rfl⟩) (rP_V hK hP (ci := 3) (q0 := 1) rfl rfl hPc) rfl rfl hl.1 rfl (lv_room (Nat.le_of_ble_eq_true rfl)) dX8_shape_23 ⟨Nat.le_of_ble_eq_true rfl, Nat.le_of_ble_eq_true rfl⟩)) (fun r9 er9 => ?_)
    specialize h r9 er9
    rw [← hQe]
    exact W.iret (v := r9) hx hb hr (fun t ht hW => ⟨⟨r9, (z6, f7), rfl, h, by dsimp only; rw [ht]; exact hP⟩, hS.F ht⟩) hS.2.2 dX8_shape_26
  · obtain ⟨h, -⟩ := h
    specialize h c3
    refine lv_iconst (v := (-1)) hx hb dX8_shape_9 (by decide) ?_
    rw [← hQe]
    exact W.iret (v := (-1)) hx hb hr (fun t ht hW => ⟨⟨(-1), (vn, fN), rfl, h, by dsimp only; rw [ht]; exact hP⟩, hS.F ht⟩) hS.2.2 dX8_shape_10

set_option maxHeartbeats 4000000 in
set_option maxRecDepth 100000 in
theorem ct_X8_set (l : Launch) (G : va_G) (cy : Nat → ClassId) (a0 aN aM aP aW aT : Nat) (sz : Nat) (vLe : Int32) (vMo : Int32) (vCo : Int32) (p1 : Int32) (p2 : Int32) (Q : Int32 → Int32 → Int32 → Int32 → Prop) (h : wp_X8_set vLe vMo vCo p1 p2 Q) : Met l yX8_set wsX8_set rmX8_set (va_Pc [.ref a0, .int p1, .int p2] (wP G cy sz [(a0, .inr (7, [.ref aN, .ref aM, .ref aP, .ref aW, .ref aT, .int vLe, .int vMo, .int vCo]))])) (va_Qi (fun (r : Int32) (u : Int32 × Int32 × Int32) => Q r u.1 u.2.1 u.2.2) (fun (u : Int32 × Int32 × Int32) (t : State) => va_P G vwCl [(a0, .inr (7, [.ref aN, .ref aM, .ref aP, .ref aW, .ref aT, .int u.1, .int u.2.1, .int u.2.2]))] t.heap) (va_A [(a0, .inr (7, [.ref aN, .ref aM, .ref aP, .ref aW, .ref aT, .int vLe, .int vMo, .int vCo]))] sz)) 0 0 (va_A [(a0, .inr (7, [.ref aN, .ref aM, .ref aP, .ref aW, .ref aT, .int vLe, .int vMo, .int vCo]))] sz) := by
  unfold wp_X8_set at h
  refine Met.ofW (cc := cX8_set) (maxL := 7) (ret := (some .int)) (by decide) rfl ?_
  intro p e s m args below meth c s₁ B hml hv
  obtain ⟨hav, hsz, hP, hK, hD0⟩ := hv
  have hx := B.exec
  have hb := B.bytes
  have hr := B.returns
  have hts := atoms_spec (ws := wsX8_set) B.pre
  have hown : s.vm.findClass RX8 = some m.cls := findClass_of_methodNamed B.named
  have hlocks := B.notSynchronized
  subst hsz
  have hD := hD0.self (sz := s.heap.size)
  generalize hAe : va_A [(a0, .inr (7, [.ref aN, .ref aM, .ref aP, .ref aW, .ref aT, .int vLe, .int vMo, .int vCo]))] s.heap.size = A at hD ⊢
  have hA : ∀ q : Nat, s.heap.size ≤ q → A q := fun q h9 => by rw [← hAe]; exact Or.inr h9
  have hS : va_S A s.heap s.heap [] := va_S.rf
  have hl := lv_entry ([.ref a0, .int p1, .int p2]) (n := 7) (Nat.le_of_ble_eq_true rfl)
  rw [show entryFrame m args 7 = entryFrame m ([.ref a0, .int p1, .int p2] : List Value).toArray 7 by rw [hav], lg_entry_eq]
  generalize (lg_sl ([.ref a0, .int p1, .int p2]) ++ List.replicate (7 - (lg_sl ([.ref a0, .int p1, .int p2])).length) Slot.unset).toArray = ls at hl ⊢
  have hl : lv_has ls 7 [(0, .ref a0), (1, .int p1), (2, .int p2)] := hl
  generalize hQe : MQ below _ _ _ _ _ _ = QM
  have hP : va_P G vwCl [(a0, .inr (7, [.ref aN, .ref aM, .ref aP, .ref aW, .ref aT, .int vLe, .int vMo, .int vCo]))] s.heap := hP
  have iwX8 : ∀ w ∈ wsX80, w ∈ wsX8_set := by decide +kernel
  have fl52 := hts (.fieldLink RX8 52 "SlidTokens" "least" "I") (by decide +kernel)
  have fl56 := hts (.fieldLink RX8 56 "SlidTokens" "most" "I") (by decide +kernel)
  have fl59 := hts (.fieldLink RX8 59 "SlidTokens" "colours" "I") (by decide +kernel)
  suffices K9 : ∀ (H : Heap) (locs : List Loc), va_P G vwCl [(a0, .inr (7, [.ref aN, .ref aM, .ref aP, .ref aW, .ref aT, .int vLe, .int vMo, .int vCo]))] H → va_D A [(a0, .inr (7, [.ref aN, .ref aM, .ref aP, .ref aW, .ref aT, .int vLe, .int vMo, .int vCo]))] → va_S A s.heap H locs → W p l e (headSpec wsX8_set rmX8_set).room s m args below meth c H locs 0 0 QM (F0 m 0 ls []) from K9 _ _ hP hD hS
  clear hP hD hS
  intro H locs hP hD hS
  refine lv_iload_n hx hb dX8_set_0 rfl (lv_at hl 1 rfl) ?_
  refine lv_iconst (v := 2) hx hb dX8_set_1 (by decide) ?_
  refine lv_icmp_ne (tgt := 9) hx hb dX8_set_2 (by decide) (fun c1 => ?_) (fun c1 => ?_)
  · obtain ⟨-, h⟩ := h
    specialize h c1
    refine lv_iconst (v := 0) hx hb dX8_set_9 (by decide) ?_
    refine lv_istore_n (lv' := [(3, .int 0), (0, .ref a0), (1, .int p1), (2, .int p2)]) hx hb dX8_set_10 rfl hl (by decide) rfl (fun ls hl => ?_)
    refine lv_iload_n hx hb dX8_set_11 rfl (lv_at hl 0 rfl) ?_
    refine lv_if_eq (tgt := 19) hx hb dX8_set_12 (by decide) (fun c2 => ?_) (fun c2 => ?_)
    · obtain ⟨h, -⟩ := h
      specialize h c2
      refine lv_iconst (v := 0) hx hb dX8_set_19 (by decide) ?_
      refine lv_istore (lv' := [(4, .int 0), (3, .int 0), (0, .ref a0), (1, .int p1), (2, .int p2)]) hx hb dX8_set_20 hl (by decide) rfl (fun ls hl => ?_)
      refine lv_iload_n hx hb dX8_set_22 rfl (lv_at hl 1 rfl) ?_
      refine lv_if_eq (tgt := 30) hx hb dX8_set_23 (by decide) (fun c3 => ?_) (fun c3 => ?_)
      · obtain ⟨h, -⟩ := h
        specialize h c3
        refine lv_bipush (v := 9) hx hb dX8_set_30 (by decide) ?_
        refine lv_istore (lv' := [(5, .int 9), (4, .int 0), (3, .int 0), (0, .ref a0), (1, .int p1), (2, .int p2)]) hx hb dX8_set_32 hl (by decide) rfl (fun ls hl => ?_)
        refine lv_iload_n hx hb dX8_set_34 rfl (lv_at hl 4 rfl) ?_
        refine lv_iconst (v := 0) hx hb dX8_set_35 (by decide) ?_
        refine lv_iconst (v := 2) hx hb dX8_set_36 (by decide) ?_
        obtain ⟨Q4, hw9, h⟩ := h
        have hPc : va_P G vwCl [] H := P_nil
        refine vp_callSi (va_Run.run (va_runS (As := [.int p1, .int 0, .int 2]) (rest := []) ⟨hx, hb, hml, hown, hts⟩ (ct_X8_isWithin l G cy p1 0 2 Q4 hw9) (va_cwS 3 hts gX8_set_X8_isWithin rfl rfl rfl (by decide +kernel) ⟨Nat.le_of_ble_eq_true rfl, Nat.le_of_ble_eq_true rfl⟩) (rP_S hK hPc) rfl rfl hl.1 rfl (lv_room (Nat.le_of_ble_eq_true rfl)) dX8_set_37 ⟨Nat.le_of_ble_eq_true rfl, Nat.le_of_ble_eq_true rfl⟩)) (fun r5 er5 => ?_)
        specialize h r5 er5
        refine lv_if_eq (tgt := 54) hx hb dX8_set_40 (by decide) (fun c6 => ?_) (fun c6 => ?_)
        · obtain ⟨h, -⟩ := h
          specialize h c6
          refine lv_iconst (v := (-1)) hx hb dX8_set_54 (by decide) ?_
          rw [← hQe]
          exact W.iret (v := (-1)) hx hb hr (fun t ht hW => ⟨⟨(-1), (vLe, vMo, vCo), rfl, h, by dsimp only; rw [ht]; exact hP⟩, hS.F ht⟩) hS.2.2 dX8_set_55
        · obtain ⟨-, h⟩ := h
          specialize h c6
          refine lv_iload_n hx hb dX8_set_43 rfl (lv_at hl 5 rfl) ?_
          refine lv_iload hx hb dX8_set_44 (lv_at hl 1 rfl) ?_
          refine lv_iload hx hb dX8_set_46 (lv_at hl 0 rfl) ?_
          obtain ⟨Q7, hw9, h⟩ := h
          have hPc : va_P G vwCl [] H := P_nil
          refine vp_callSi (va_Run.run (va_runS (As := [.int p2, .int 0, .int 9]) (rest := []) ⟨hx, hb, hml, hown, hts⟩ (ct_X8_isWithin l G cy p2 0 9 Q7 hw9) (va_cwS 3 hts gX8_set_X8_isWithin rfl rfl rfl (by decide +kernel) ⟨Nat.le_of_ble_eq_true rfl, Nat.le_of_ble_eq_true rfl⟩) (rP_S hK hPc) rfl rfl hl.1 rfl (lv_room (Nat.le_of_ble_eq_true rfl)) dX8_set_48 ⟨Nat.le_of_ble_eq_true rfl, Nat.le_of_ble_eq_true rfl⟩)) (fun r8 er8 => ?_)
          specialize h r8 er8
          refine lv_if_ne (tgt := 56) hx hb dX8_set_51 (by decide) (fun c9 => ?_) (fun c9 => ?_)
          · obtain ⟨-, h⟩ := h
            specialize h c9
            refine lv_iload_n hx hb dX8_set_56 rfl (lv_at hl 2 rfl) ?_
            refine lv_if_eq (tgt := 74) hx hb dX8_set_57 (by decide) (fun c10 => ?_) (fun c10 => ?_)
            · obtain ⟨h, -⟩ := h
              specialize h c10
              refine lv_iload_n hx hb dX8_set_74 rfl (lv_at hl 4 rfl) ?_
              refine lv_iconst (v := 1) hx hb dX8_set_75 (by decide) ?_
              refine lv_icmp_ne (tgt := 93) hx hb dX8_set_76 (by decide) (fun c11 => ?_) (fun c11 => ?_)
              · obtain ⟨-, h⟩ := h
                specialize h c11
                refine lv_aload_n hx hb dX8_set_93 rfl (lv_at hl 3 rfl) ?_
                refine va_get (D := G) (ci := 7) (v := .int vLe) (C := RX8) (T := TX8) (N := 8) hx hb hts iwX8 hown hK.1 hP 0 rfl rfl 5 (by decide) fl52 (fun _ h9 => h9) rfl dX8_set_94 ?_
                refine lv_istore (lv' := [(6, .int vLe), (5, .int 9), (4, .int 0), (3, .int 0), (0, .ref a0), (1, .int p1), (2, .int p2)]) hx hb dX8_set_97 hl (by decide) rfl (fun ls hl => ?_)
                refine lv_aload_n hx hb dX8_set_99 rfl (lv_at hl 4 rfl) ?_
                refine lv_iload_n hx hb dX8_set_100 rfl (lv_at hl 6 rfl) ?_
                refine va_put (D := G) (ci := 7) (v := .int p2) (ty := .int) (C := RX8) (T := TX8) (N := 8) hx hb hts iwX8 tyX8 tyX8_ok nmX8 hown hK.1 hP hD hS 0 rfl rfl 5 (by decide) fl52 (fun _ h9 => h9) rfl (by decide +kernel) rfl rfl (Nat.le_of_ble_eq_true rfl) dX8_set_101 (fun H locs hP hD hS => ?_)
                have hP : va_P G vwCl [(a0, .inr (7, [.ref aN, .ref aM, .ref aP, .ref aW, .ref aT, .int p2, .int vMo, .int vCo]))] H := hP
                have hD : va_D A [(a0, .inr (7, [.ref aN, .ref aM, .ref aP, .ref aW, .ref aT, .int p2, .int vMo, .int vCo]))] := hD
                refine lv_iload hx hb dX8_set_104 (lv_at hl 0 rfl) ?_
                rw [← hQe]
                exact W.iret (v := vLe) hx hb hr (fun t ht hW => ⟨⟨vLe, (p2, vMo, vCo), rfl, h, by dsimp only; rw [ht]; exact hP⟩, hS.F ht⟩) hS.2.2 dX8_set_106
              · obtain ⟨h, -⟩ := h
                specialize h c11
                refine lv_aload_n hx hb dX8_set_79 rfl (lv_at hl 3 rfl) ?_
                refine va_get (D := G) (ci := 7) (v := .int vMo) (C := RX8) (T := TX8) (N := 8) hx hb hts iwX8 hown hK.1 hP 0 rfl rfl 6 (by decide) fl56 (fun _ h9 => h9) rfl dX8_set_80 ?_
                refine lv_istore (lv' := [(6, .int vMo), (5, .int 9), (4, .int 0), (3, .int 0), (0, .ref a0), (1, .int p1), (2, .int p2)]) hx hb dX8_set_83 hl (by decide) rfl (fun ls hl => ?_)
                refine lv_aload_n hx hb dX8_set_85 rfl (lv_at hl 4 rfl) ?_
                refine lv_iload_n hx hb dX8_set_86 rfl (lv_at hl 6 rfl) ?_
                refine va_put (D := G) (ci := 7) (v := .int p2) (ty := .int) (C := RX8) (T := TX8) (N := 8) hx hb hts iwX8 tyX8 tyX8_ok nmX8 hown hK.1 hP hD hS 0 rfl rfl 6 (by decide) fl56 (fun _ h9 => h9) rfl (by decide +kernel) rfl rfl (Nat.le_of_ble_eq_true rfl) dX8_set_87 (fun H locs hP hD hS => ?_)
                have hP : va_P G vwCl [(a0, .inr (7, [.ref aN, .ref aM, .ref aP, .ref aW, .ref aT, .int vLe, .int p2, .int vCo]))] H := hP
                have hD : va_D A [(a0, .inr (7, [.ref aN, .ref aM, .ref aP, .ref aW, .ref aT, .int vLe, .int p2, .int vCo]))] := hD
                refine lv_goto (tgt := 104) hx hb dX8_set_90 (by decide) ?_
                refine lv_iload hx hb dX8_set_104 (lv_at hl 0 rfl) ?_
                rw [← hQe]
                exact W.iret (v := vMo) hx hb hr (fun t ht hW => ⟨⟨vMo, (vLe, p2, vCo), rfl, h, by dsimp only; rw [ht]; exact hP⟩, hS.F ht⟩) hS.2.2 dX8_set_106
            · obtain ⟨-, h⟩ := h
              specialize h c10
              refine lv_aload_n hx hb dX8_set_60 rfl (lv_at hl 3 rfl) ?_
              refine va_get (D := G) (ci := 7) (v := .int vCo) (C := RX8) (T := TX8) (N := 8) hx hb hts iwX8 hown hK.1 hP 0 rfl rfl 7 (by decide) fl59 (fun _ h9 => h9) rfl dX8_set_61 ?_
              refine lv_istore (lv' := [(6, .int vCo), (5, .int 9), (4, .int 0), (3, .int 0), (0, .ref a0), (1, .int p1), (2, .int p2)]) hx hb dX8_set_64 hl (by decide) rfl (fun ls hl => ?_)
              refine lv_aload_n hx hb dX8_set_66 rfl (lv_at hl 4 rfl) ?_
              refine lv_iload_n hx hb dX8_set_67 rfl (lv_at hl 6 rfl) ?_
              refine va_put (D := G) (ci := 7) (v := .int p2) (ty := .int) (C := RX8) (T := TX8) (N := 8) hx hb hts iwX8 tyX8 tyX8_ok nmX8 hown hK.1 hP hD hS 0 rfl rfl 7 (by decide) fl59 (fun _ h9 => h9) rfl (by decide +kernel) rfl rfl (Nat.le_of_ble_eq_true rfl) dX8_set_68 (fun H locs hP hD hS => ?_)
              have hP : va_P G vwCl [(a0, .inr (7, [.ref aN, .ref aM, .ref aP, .ref aW, .ref aT, .int vLe, .int vMo, .int p2]))] H := hP
              have hD : va_D A [(a0, .inr (7, [.ref aN, .ref aM, .ref aP, .ref aW, .ref aT, .int vLe, .int vMo, .int p2]))] := hD
              refine lv_goto (tgt := 104) hx hb dX8_set_71 (by decide) ?_
              refine lv_iload hx hb dX8_set_104 (lv_at hl 0 rfl) ?_
              rw [← hQe]
              exact W.iret (v := vCo) hx hb hr (fun t ht hW => ⟨⟨vCo, (vLe, vMo, p2), rfl, h, by dsimp only; rw [ht]; exact hP⟩, hS.F ht⟩) hS.2.2 dX8_set_106
          · obtain ⟨h, -⟩ := h
            specialize h c9
            refine lv_iconst (v := (-1)) hx hb dX8_set_54 (by decide) ?_
            rw [← hQe]
            exact W.iret (v := (-1)) hx hb hr (fun t ht hW => ⟨⟨(-1), (vLe, vMo, vCo), rfl, h, by dsimp only; rw [ht]; exact hP⟩, hS.F ht⟩) hS.2.2 dX8_set_55
      · obtain ⟨-, h⟩ := h
        specialize h c3
        refine lv_iconst (v := 4) hx hb dX8_set_26 (by decide) ?_
        refine lv_goto (tgt := 32) hx hb dX8_set_27 (by decide) ?_
        refine lv_istore (lv' := [(5, .int 4), (4, .int 0), (3, .int 0), (0, .ref a0), (1, .int p1), (2, .int p2)]) hx hb dX8_set_32 hl (by decide) rfl (fun ls hl => ?_)
        refine lv_iload_n hx hb dX8_set_34 rfl (lv_at hl 4 rfl) ?_
        refine lv_iconst (v := 0) hx hb dX8_set_35 (by decide) ?_
        refine lv_iconst (v := 2) hx hb dX8_set_36 (by decide) ?_
        obtain ⟨Q12, hw9, h⟩ := h
        have hPc : va_P G vwCl [] H := P_nil
        refine vp_callSi (va_Run.run (va_runS (As := [.int p1, .int 0, .int 2]) (rest := []) ⟨hx, hb, hml, hown, hts⟩ (ct_X8_isWithin l G cy p1 0 2 Q12 hw9) (va_cwS 3 hts gX8_set_X8_isWithin rfl rfl rfl (by decide +kernel) ⟨Nat.le_of_ble_eq_true rfl, Nat.le_of_ble_eq_true rfl⟩) (rP_S hK hPc) rfl rfl hl.1 rfl (lv_room (Nat.le_of_ble_eq_true rfl)) dX8_set_37 ⟨Nat.le_of_ble_eq_true rfl, Nat.le_of_ble_eq_true rfl⟩)) (fun r13 er13 => ?_)
        specialize h r13 er13
        refine lv_if_eq (tgt := 54) hx hb dX8_set_40 (by decide) (fun c14 => ?_) (fun c14 => ?_)
        · obtain ⟨h, -⟩ := h
          specialize h c14
          refine lv_iconst (v := (-1)) hx hb dX8_set_54 (by decide) ?_
          rw [← hQe]
          exact W.iret (v := (-1)) hx hb hr (fun t ht hW => ⟨⟨(-1), (vLe, vMo, vCo), rfl, h, by dsimp only; rw [ht]; exact hP⟩, hS.F ht⟩) hS.2.2 dX8_set_55
        · obtain ⟨-, h⟩ := h
          specialize h c14
          refine lv_iload_n hx hb dX8_set_43 rfl (lv_at hl 5 rfl) ?_
          refine lv_iload hx hb dX8_set_44 (lv_at hl 1 rfl) ?_
          refine lv_iload hx hb dX8_set_46 (lv_at hl 0 rfl) ?_
          obtain ⟨Q15, hw9, h⟩ := h
          have hPc : va_P G vwCl [] H := P_nil
          refine vp_callSi (va_Run.run (va_runS (As := [.int p2, .int 0, .int 4]) (rest := []) ⟨hx, hb, hml, hown, hts⟩ (ct_X8_isWithin l G cy p2 0 4 Q15 hw9) (va_cwS 3 hts gX8_set_X8_isWithin rfl rfl rfl (by decide +kernel) ⟨Nat.le_of_ble_eq_true rfl, Nat.le_of_ble_eq_true rfl⟩) (rP_S hK hPc) rfl rfl hl.1 rfl (lv_room (Nat.le_of_ble_eq_true rfl)) dX8_set_48 ⟨Nat.le_of_ble_eq_true rfl, Nat.le_of_ble_eq_true rfl⟩)) (fun r16 er16 => ?_)
          specialize h r16 er16
          refine lv_if_ne (tgt := 56) hx hb dX8_set_51 (by decide) (fun c17 => ?_) (fun c17 => ?_)
          · obtain ⟨-, h⟩ := h
            specialize h c17
            refine lv_iload_n hx hb dX8_set_56 rfl (lv_at hl 2 rfl) ?_
            refine lv_if_eq (tgt := 74) hx hb dX8_set_57 (by decide) (fun c18 => ?_) (fun c18 => ?_)
            · obtain ⟨h, -⟩ := h
              specialize h c18
              refine lv_iload_n hx hb dX8_set_74 rfl (lv_at hl 4 rfl) ?_
              refine lv_iconst (v := 1) hx hb dX8_set_75 (by decide) ?_
              refine lv_icmp_ne (tgt := 93) hx hb dX8_set_76 (by decide) (fun c19 => ?_) (fun c19 => ?_)
              · obtain ⟨-, h⟩ := h
                specialize h c19
                refine lv_aload_n hx hb dX8_set_93 rfl (lv_at hl 3 rfl) ?_
                refine va_get (D := G) (ci := 7) (v := .int vLe) (C := RX8) (T := TX8) (N := 8) hx hb hts iwX8 hown hK.1 hP 0 rfl rfl 5 (by decide) fl52 (fun _ h9 => h9) rfl dX8_set_94 ?_
                refine lv_istore (lv' := [(6, .int vLe), (5, .int 4), (4, .int 0), (3, .int 0), (0, .ref a0), (1, .int p1), (2, .int p2)]) hx hb dX8_set_97 hl (by decide) rfl (fun ls hl => ?_)
                refine lv_aload_n hx hb dX8_set_99 rfl (lv_at hl 4 rfl) ?_
                refine lv_iload_n hx hb dX8_set_100 rfl (lv_at hl 6 rfl) ?_
                refine va_put (D := G) (ci := 7) (v := .int p2) (ty := .int) (C := RX8) (T := TX8) (N := 8) hx hb hts iwX8 tyX8 tyX8_ok nmX8 hown hK.1 hP hD hS 0 rfl rfl 5 (by decide) fl52 (fun _ h9 => h9) rfl (by decide +kernel) rfl rfl (Nat.le_of_ble_eq_true rfl) dX8_set_101 (fun H locs hP hD hS => ?_)
                have hP : va_P G vwCl [(a0, .inr (7, [.ref aN, .ref aM, .ref aP, .ref aW, .ref aT, .int p2, .int vMo, .int vCo]))] H := hP
                have hD : va_D A [(a0, .inr (7, [.ref aN, .ref aM, .ref aP, .ref aW, .ref aT, .int p2, .int vMo, .int vCo]))] := hD
                refine lv_iload hx hb dX8_set_104 (lv_at hl 0 rfl) ?_
                rw [← hQe]
                exact W.iret (v := vLe) hx hb hr (fun t ht hW => ⟨⟨vLe, (p2, vMo, vCo), rfl, h, by dsimp only; rw [ht]; exact hP⟩, hS.F ht⟩) hS.2.2 dX8_set_106
              · obtain ⟨h, -⟩ := h
                specialize h c19
                refine lv_aload_n hx hb dX8_set_79 rfl (lv_at hl 3 rfl) ?_
                refine va_get (D := G) (ci := 7) (v := .int vMo) (C := RX8) (T := TX8) (N := 8) hx hb hts iwX8 hown hK.1 hP 0 rfl rfl 6 (by decide) fl56 (fun _ h9 => h9) rfl dX8_set_80 ?_
                refine lv_istore (lv' := [(6, .int vMo), (5, .int 4), (4, .int 0), (3, .int 0), (0, .ref a0), (1, .int p1), (2, .int p2)]) hx hb dX8_set_83 hl (by decide) rfl (fun ls hl => ?_)
                refine lv_aload_n hx hb dX8_set_85 rfl (lv_at hl 4 rfl) ?_
                refine lv_iload_n hx hb dX8_set_86 rfl (lv_at hl 6 rfl) ?_
                refine va_put (D := G) (ci := 7) (v := .int p2) (ty := .int) (C := RX8) (T := TX8) (N := 8) hx hb hts iwX8 tyX8 tyX8_ok nmX8 hown hK.1 hP hD hS 0 rfl rfl 6 (by decide) fl56 (fun _ h9 => h9) rfl (by decide +kernel) rfl rfl (Nat.le_of_ble_eq_true rfl) dX8_set_87 (fun H locs hP hD hS => ?_)
                have hP : va_P G vwCl [(a0, .inr (7, [.ref aN, .ref aM, .ref aP, .ref aW, .ref aT, .int vLe, .int p2, .int vCo]))] H := hP
                have hD : va_D A [(a0, .inr (7, [.ref aN, .ref aM, .ref aP, .ref aW, .ref aT, .int vLe, .int p2, .int vCo]))] := hD
                refine lv_goto (tgt := 104) hx hb dX8_set_90 (by decide) ?_
                refine lv_iload hx hb dX8_set_104 (lv_at hl 0 rfl) ?_
                rw [← hQe]
                exact W.iret (v := vMo) hx hb hr (fun t ht hW => ⟨⟨vMo, (vLe, p2, vCo), rfl, h, by dsimp only; rw [ht]; exact hP⟩, hS.F ht⟩) hS.2.2 dX8_set_106
            · obtain ⟨-, h⟩ := h
              specialize h c18
              refine lv_aload_n hx hb dX8_set_60 rfl (lv_at hl 3 rfl) ?_
              refine va_get (D := G) (ci := 7) (v := .int vCo) (C := RX8) (T := TX8) (N := 8) hx hb hts iwX8 hown hK.1 hP 0 rfl rfl 7 (by decide) fl59 (fun _ h9 => h9) rfl dX8_set_61 ?_
              refine lv_istore (lv' := [(6, .int vCo), (5, .int 4), (4, .int 0), (3, .int 0), (0, .ref a0), (1, .int p1), (2, .int p2)]) hx hb dX8_set_64 hl (by decide) rfl (fun ls hl => ?_)
              refine lv_aload_n hx hb dX8_set_66 rfl (lv_at hl 4 rfl) ?_
              refine lv_iload_n hx hb dX8_set_67 rfl (lv_at hl 6 rfl) ?_
              refine va_put (D := G) (ci := 7) (v := .int p2) (ty := .int) (C := RX8) (T := TX8) (N := 8) hx hb hts iwX8 tyX8 tyX8_ok nmX8 hown hK.1 hP hD hS 0 rfl rfl 7 (by decide) fl59 (fun _ h9 => h9) rfl (by decide +kernel) rfl rfl (Nat.le_of_ble_eq_true rfl) dX8_set_68 (fun H locs hP hD hS => ?_)
              have hP : va_P G vwCl [(a0, .inr (7, [.ref aN, .ref aM, .ref aP, .ref aW, .ref aT, .int vLe, .int vMo, .int p2]))] H := hP
              have hD : va_D A [(a0, .inr (7, [.ref aN, .ref aM, .ref aP, .ref aW, .ref aT, .int vLe, .int vMo, .int p2]))] := hD
              refine lv_goto (tgt := 104) hx hb dX8_set_71 (by decide) ?_
              refine lv_iload hx hb dX8_set_104 (lv_at hl 0 rfl) ?_
              rw [← hQe]
              exact W.iret (v := vCo) hx hb hr (fun t ht hW => ⟨⟨vCo, (vLe, vMo, p2), rfl, h, by dsimp only; rw [ht]; exact hP⟩, hS.F ht⟩) hS.2.2 dX8_set_106
          · obtain ⟨h, -⟩ := h
            specialize h c17
            refine lv_iconst (v := (-1)) hx hb dX8_set_54 (by decide) ?_
            rw [← hQe]
            exact W.iret (v := (-1)) hx hb hr (fun t ht hW => ⟨⟨(-1), (vLe, vMo, vCo), rfl, h, by dsimp only; rw [ht]; exact hP⟩, hS.F ht⟩) hS.2.2 dX8_set_55
    · obtain ⟨-, h⟩ := h
      specialize h c2
      refine lv_iconst (v := 1) hx hb dX8_set_15 (by decide) ?_
      refine lv_goto (tgt := 20) hx hb dX8_set_16 (by decide) ?_
      refine lv_istore (lv' := [(4, .int 1), (3, .int 0), (0, .ref a0), (1, .int p1), (2, .int p2)]) hx hb dX8_set_20 hl (by decide) rfl (fun ls hl => ?_)
      refine lv_iload_n hx hb dX8_set_22 rfl (lv_at hl 1 rfl) ?_
      refine lv_if_eq (tgt := 30) hx hb dX8_set_23 (by decide) (fun c20 => ?_) (fun c20 => ?_)
      · obtain ⟨h, -⟩ := h
        specialize h c20
        refine lv_bipush (v := 9) hx hb dX8_set_30 (by decide) ?_
        refine lv_istore (lv' := [(5, .int 9), (4, .int 1), (3, .int 0), (0, .ref a0), (1, .int p1), (2, .int p2)]) hx hb dX8_set_32 hl (by decide) rfl (fun ls hl => ?_)
        refine lv_iload_n hx hb dX8_set_34 rfl (lv_at hl 4 rfl) ?_
        refine lv_iconst (v := 0) hx hb dX8_set_35 (by decide) ?_
        refine lv_iconst (v := 2) hx hb dX8_set_36 (by decide) ?_
        obtain ⟨Q21, hw9, h⟩ := h
        have hPc : va_P G vwCl [] H := P_nil
        refine vp_callSi (va_Run.run (va_runS (As := [.int p1, .int 0, .int 2]) (rest := []) ⟨hx, hb, hml, hown, hts⟩ (ct_X8_isWithin l G cy p1 0 2 Q21 hw9) (va_cwS 3 hts gX8_set_X8_isWithin rfl rfl rfl (by decide +kernel) ⟨Nat.le_of_ble_eq_true rfl, Nat.le_of_ble_eq_true rfl⟩) (rP_S hK hPc) rfl rfl hl.1 rfl (lv_room (Nat.le_of_ble_eq_true rfl)) dX8_set_37 ⟨Nat.le_of_ble_eq_true rfl, Nat.le_of_ble_eq_true rfl⟩)) (fun r22 er22 => ?_)
        specialize h r22 er22
        refine lv_if_eq (tgt := 54) hx hb dX8_set_40 (by decide) (fun c23 => ?_) (fun c23 => ?_)
        · obtain ⟨h, -⟩ := h
          specialize h c23
          refine lv_iconst (v := (-1)) hx hb dX8_set_54 (by decide) ?_
          rw [← hQe]
          exact W.iret (v := (-1)) hx hb hr (fun t ht hW => ⟨⟨(-1), (vLe, vMo, vCo), rfl, h, by dsimp only; rw [ht]; exact hP⟩, hS.F ht⟩) hS.2.2 dX8_set_55
        · obtain ⟨-, h⟩ := h
          specialize h c23
          refine lv_iload_n hx hb dX8_set_43 rfl (lv_at hl 5 rfl) ?_
          refine lv_iload hx hb dX8_set_44 (lv_at hl 1 rfl) ?_
          refine lv_iload hx hb dX8_set_46 (lv_at hl 0 rfl) ?_
          obtain ⟨Q24, hw9, h⟩ := h
          have hPc : va_P G vwCl [] H := P_nil
          refine vp_callSi (va_Run.run (va_runS (As := [.int p2, .int 1, .int 9]) (rest := []) ⟨hx, hb, hml, hown, hts⟩ (ct_X8_isWithin l G cy p2 1 9 Q24 hw9) (va_cwS 3 hts gX8_set_X8_isWithin rfl rfl rfl (by decide +kernel) ⟨Nat.le_of_ble_eq_true rfl, Nat.le_of_ble_eq_true rfl⟩) (rP_S hK hPc) rfl rfl hl.1 rfl (lv_room (Nat.le_of_ble_eq_true rfl)) dX8_set_48 ⟨Nat.le_of_ble_eq_true rfl, Nat.le_of_ble_eq_true rfl⟩)) (fun r25 er25 => ?_)
          specialize h r25 er25
          refine lv_if_ne (tgt := 56) hx hb dX8_set_51 (by decide) (fun c26 => ?_) (fun c26 => ?_)
          · obtain ⟨-, h⟩ := h
            specialize h c26
            refine lv_iload_n hx hb dX8_set_56 rfl (lv_at hl 2 rfl) ?_
            refine lv_if_eq (tgt := 74) hx hb dX8_set_57 (by decide) (fun c27 => ?_) (fun c27 => ?_)
            · obtain ⟨h, -⟩ := h
              specialize h c27
              refine lv_iload_n hx hb dX8_set_74 rfl (lv_at hl 4 rfl) ?_
              refine lv_iconst (v := 1) hx hb dX8_set_75 (by decide) ?_
              refine lv_icmp_ne (tgt := 93) hx hb dX8_set_76 (by decide) (fun c28 => ?_) (fun c28 => ?_)
              · obtain ⟨-, h⟩ := h
                specialize h c28
                refine lv_aload_n hx hb dX8_set_93 rfl (lv_at hl 3 rfl) ?_
                refine va_get (D := G) (ci := 7) (v := .int vLe) (C := RX8) (T := TX8) (N := 8) hx hb hts iwX8 hown hK.1 hP 0 rfl rfl 5 (by decide) fl52 (fun _ h9 => h9) rfl dX8_set_94 ?_
                refine lv_istore (lv' := [(6, .int vLe), (5, .int 9), (4, .int 1), (3, .int 0), (0, .ref a0), (1, .int p1), (2, .int p2)]) hx hb dX8_set_97 hl (by decide) rfl (fun ls hl => ?_)
                refine lv_aload_n hx hb dX8_set_99 rfl (lv_at hl 4 rfl) ?_
                refine lv_iload_n hx hb dX8_set_100 rfl (lv_at hl 6 rfl) ?_
                refine va_put (D := G) (ci := 7) (v := .int p2) (ty := .int) (C := RX8) (T := TX8) (N := 8) hx hb hts iwX8 tyX8 tyX8_ok nmX8 hown hK.1 hP hD hS 0 rfl rfl 5 (by decide) fl52 (fun _ h9 => h9) rfl (by decide +kernel) rfl rfl (Nat.le_of_ble_eq_true rfl) dX8_set_101 (fun H locs hP hD hS => ?_)
                have hP : va_P G vwCl [(a0, .inr (7, [.ref aN, .ref aM, .ref aP, .ref aW, .ref aT, .int p2, .int vMo, .int vCo]))] H := hP
                have hD : va_D A [(a0, .inr (7, [.ref aN, .ref aM, .ref aP, .ref aW, .ref aT, .int p2, .int vMo, .int vCo]))] := hD
                refine lv_iload hx hb dX8_set_104 (lv_at hl 0 rfl) ?_
                rw [← hQe]
                exact W.iret (v := vLe) hx hb hr (fun t ht hW => ⟨⟨vLe, (p2, vMo, vCo), rfl, h, by dsimp only; rw [ht]; exact hP⟩, hS.F ht⟩) hS.2.2 dX8_set_106
              · obtain ⟨h, -⟩ := h
                specialize h c28
                refine lv_aload_n hx hb dX8_set_79 rfl (lv_at hl 3 rfl) ?_
                refine va_get (D := G) (ci := 7) (v := .int vMo) (C := RX8) (T := TX8) (N := 8) hx hb hts iwX8 hown hK.1 hP 0 rfl rfl 6 (by decide) fl56 (fun _ h9 => h9) rfl dX8_set_80 ?_
                refine lv_istore (lv' := [(6, .int vMo), (5, .int 9), (4, .int 1), (3, .int 0), (0, .ref a0), (1, .int p1), (2, .int p2)]) hx hb dX8_set_83 hl (by decide) rfl (fun ls hl => ?_)
                refine lv_aload_n hx hb dX8_set_85 rfl (lv_at hl 4 rfl) ?_
                refine lv_iload_n hx hb dX8_set_86 rfl (lv_at hl 6 rfl) ?_
                refine va_put (D := G) (ci := 7) (v := .int p2) (ty := .int) (C := RX8) (T := TX8) (N := 8) hx hb hts iwX8 tyX8 tyX8_ok nmX8 hown hK.1 hP hD hS 0 rfl rfl 6 (by decide) fl56 (fun _ h9 => h9) rfl (by decide +kernel) rfl rfl (Nat.le_of_ble_eq_true rfl) dX8_set_87 (fun H locs hP hD hS => ?_)
                have hP : va_P G vwCl [(a0, .inr (7, [.ref aN, .ref aM, .ref aP, .ref aW, .ref aT, .int vLe, .int p2, .int vCo]))] H := hP
                have hD : va_D A [(a0, .inr (7, [.ref aN, .ref aM, .ref aP, .ref aW, .ref aT, .int vLe, .int p2, .int vCo]))] := hD
                refine lv_goto (tgt := 104) hx hb dX8_set_90 (by decide) ?_
                refine lv_iload hx hb dX8_set_104 (lv_at hl 0 rfl) ?_
                rw [← hQe]
                exact W.iret (v := vMo) hx hb hr (fun t ht hW => ⟨⟨vMo, (vLe, p2, vCo), rfl, h, by dsimp only; rw [ht]; exact hP⟩, hS.F ht⟩) hS.2.2 dX8_set_106
            · obtain ⟨-, h⟩ := h
              specialize h c27
              refine lv_aload_n hx hb dX8_set_60 rfl (lv_at hl 3 rfl) ?_
              refine va_get (D := G) (ci := 7) (v := .int vCo) (C := RX8) (T := TX8) (N := 8) hx hb hts iwX8 hown hK.1 hP 0 rfl rfl 7 (by decide) fl59 (fun _ h9 => h9) rfl dX8_set_61 ?_
              refine lv_istore (lv' := [(6, .int vCo), (5, .int 9), (4, .int 1), (3, .int 0), (0, .ref a0), (1, .int p1), (2, .int p2)]) hx hb dX8_set_64 hl (by decide) rfl (fun ls hl => ?_)
              refine lv_aload_n hx hb dX8_set_66 rfl (lv_at hl 4 rfl) ?_
              refine lv_iload_n hx hb dX8_set_67 rfl (lv_at hl 6 rfl) ?_
              refine va_put (D := G) (ci := 7) (v := .int p2) (ty := .int) (C := RX8) (T := TX8) (N := 8) hx hb hts iwX8 tyX8 tyX8_ok nmX8 hown hK.1 hP hD hS 0 rfl rfl 7 (by decide) fl59 (fun _ h9 => h9) rfl (by decide +kernel) rfl rfl (Nat.le_of_ble_eq_true rfl) dX8_set_68 (fun H locs hP hD hS => ?_)
              have hP : va_P G vwCl [(a0, .inr (7, [.ref aN, .ref aM, .ref aP, .ref aW, .ref aT, .int vLe, .int vMo, .int p2]))] H := hP
              have hD : va_D A [(a0, .inr (7, [.ref aN, .ref aM, .ref aP, .ref aW, .ref aT, .int vLe, .int vMo, .int p2]))] := hD
              refine lv_goto (tgt := 104) hx hb dX8_set_71 (by decide) ?_
              refine lv_iload hx hb dX8_set_104 (lv_at hl 0 rfl) ?_
              rw [← hQe]
              exact W.iret (v := vCo) hx hb hr (fun t ht hW => ⟨⟨vCo, (vLe, vMo, p2), rfl, h, by dsimp only; rw [ht]; exact hP⟩, hS.F ht⟩) hS.2.2 dX8_set_106
          · obtain ⟨h, -⟩ := h
            specialize h c26
            refine lv_iconst (v := (-1)) hx hb dX8_set_54 (by decide) ?_
            rw [← hQe]
            exact W.iret (v := (-1)) hx hb hr (fun t ht hW => ⟨⟨(-1), (vLe, vMo, vCo), rfl, h, by dsimp only; rw [ht]; exact hP⟩, hS.F ht⟩) hS.2.2 dX8_set_55
      · obtain ⟨-, h⟩ := h
        specialize h c20
        refine lv_iconst (v := 4) hx hb dX8_set_26 (by decide) ?_
        refine lv_goto (tgt := 32) hx hb dX8_set_27 (by decide) ?_
        refine lv_istore (lv' := [(5, .int 4), (4, .int 1), (3, .int 0), (0, .ref a0), (1, .int p1), (2, .int p2)]) hx hb dX8_set_32 hl (by decide) rfl (fun ls hl => ?_)
        refine lv_iload_n hx hb dX8_set_34 rfl (lv_at hl 4 rfl) ?_
        refine lv_iconst (v := 0) hx hb dX8_set_35 (by decide) ?_
        refine lv_iconst (v := 2) hx hb dX8_set_36 (by decide) ?_
        obtain ⟨Q29, hw9, h⟩ := h
        have hPc : va_P G vwCl [] H := P_nil
        refine vp_callSi (va_Run.run (va_runS (As := [.int p1, .int 0, .int 2]) (rest := []) ⟨hx, hb, hml, hown, hts⟩ (ct_X8_isWithin l G cy p1 0 2 Q29 hw9) (va_cwS 3 hts gX8_set_X8_isWithin rfl rfl rfl (by decide +kernel) ⟨Nat.le_of_ble_eq_true rfl, Nat.le_of_ble_eq_true rfl⟩) (rP_S hK hPc) rfl rfl hl.1 rfl (lv_room (Nat.le_of_ble_eq_true rfl)) dX8_set_37 ⟨Nat.le_of_ble_eq_true rfl, Nat.le_of_ble_eq_true rfl⟩)) (fun r30 er30 => ?_)
        specialize h r30 er30
        refine lv_if_eq (tgt := 54) hx hb dX8_set_40 (by decide) (fun c31 => ?_) (fun c31 => ?_)
        · obtain ⟨h, -⟩ := h
          specialize h c31
          refine lv_iconst (v := (-1)) hx hb dX8_set_54 (by decide) ?_
          rw [← hQe]
          exact W.iret (v := (-1)) hx hb hr (fun t ht hW => ⟨⟨(-1), (vLe, vMo, vCo), rfl, h, by dsimp only; rw [ht]; exact hP⟩, hS.F ht⟩) hS.2.2 dX8_set_55
        · obtain ⟨-, h⟩ := h
          specialize h c31
          refine lv_iload_n hx hb dX8_set_43 rfl (lv_at hl 5 rfl) ?_
          refine lv_iload hx hb dX8_set_44 (lv_at hl 1 rfl) ?_
          refine lv_iload hx hb dX8_set_46 (lv_at hl 0 rfl) ?_
          obtain ⟨Q32, hw9, h⟩ := h
          have hPc : va_P G vwCl [] H := P_nil
          refine vp_callSi (va_Run.run (va_runS (As := [.int p2, .int 1, .int 4]) (rest := []) ⟨hx, hb, hml, hown, hts⟩ (ct_X8_isWithin l G cy p2 1 4 Q32 hw9) (va_cwS 3 hts gX8_set_X8_isWithin rfl rfl rfl (by decide +kernel) ⟨Nat.le_of_ble_eq_true rfl, Nat.le_of_ble_eq_true rfl⟩) (rP_S hK hPc) rfl rfl hl.1 rfl (lv_room (Nat.le_of_ble_eq_true rfl)) dX8_set_48 ⟨Nat.le_of_ble_eq_true rfl, Nat.le_of_ble_eq_true rfl⟩)) (fun r33 er33 => ?_)
          specialize h r33 er33
          refine lv_if_ne (tgt := 56) hx hb dX8_set_51 (by decide) (fun c34 => ?_) (fun c34 => ?_)
          · obtain ⟨-, h⟩ := h
            specialize h c34
            refine lv_iload_n hx hb dX8_set_56 rfl (lv_at hl 2 rfl) ?_
            refine lv_if_eq (tgt := 74) hx hb dX8_set_57 (by decide) (fun c35 => ?_) (fun c35 => ?_)
            · obtain ⟨h, -⟩ := h
              specialize h c35
              refine lv_iload_n hx hb dX8_set_74 rfl (lv_at hl 4 rfl) ?_
              refine lv_iconst (v := 1) hx hb dX8_set_75 (by decide) ?_
              refine lv_icmp_ne (tgt := 93) hx hb dX8_set_76 (by decide) (fun c36 => ?_) (fun c36 => ?_)
              · obtain ⟨-, h⟩ := h
                specialize h c36
                refine lv_aload_n hx hb dX8_set_93 rfl (lv_at hl 3 rfl) ?_
                refine va_get (D := G) (ci := 7) (v := .int vLe) (C := RX8) (T := TX8) (N := 8) hx hb hts iwX8 hown hK.1 hP 0 rfl rfl 5 (by decide) fl52 (fun _ h9 => h9) rfl dX8_set_94 ?_
                refine lv_istore (lv' := [(6, .int vLe), (5, .int 4), (4, .int 1), (3, .int 0), (0, .ref a0), (1, .int p1), (2, .int p2)]) hx hb dX8_set_97 hl (by decide) rfl (fun ls hl => ?_)
                refine lv_aload_n hx hb dX8_set_99 rfl (lv_at hl 4 rfl) ?_
                refine lv_iload_n hx hb dX8_set_100 rfl (lv_at hl 6 rfl) ?_
                refine va_put (D := G) (ci := 7) (v := .int p2) (ty := .int) (C := RX8) (T := TX8) (N := 8) hx hb hts iwX8 tyX8 tyX8_ok nmX8 hown hK.1 hP hD hS 0 rfl rfl 5 (by decide) fl52 (fun _ h9 => h9) rfl (by decide +kernel) rfl rfl (Nat.le_of_ble_eq_true rfl) dX8_set_101 (fun H locs hP hD hS => ?_)
                have hP : va_P G vwCl [(a0, .inr (7, [.ref aN, .ref aM, .ref aP, .ref aW, .ref aT, .int p2, .int vMo, .int vCo]))] H := hP
                have hD : va_D A [(a0, .inr (7, [.ref aN, .ref aM, .ref aP, .ref aW, .ref aT, .int p2, .int vMo, .int vCo]))] := hD
                refine lv_iload hx hb dX8_set_104 (lv_at hl 0 rfl) ?_
                rw [← hQe]
                exact W.iret (v := vLe) hx hb hr (fun t ht hW => ⟨⟨vLe, (p2, vMo, vCo), rfl, h, by dsimp only; rw [ht]; exact hP⟩, hS.F ht⟩) hS.2.2 dX8_set_106
              · obtain ⟨h, -⟩ := h
                specialize h c36
                refine lv_aload_n hx hb dX8_set_79 rfl (lv_at hl 3 rfl) ?_
                refine va_get (D := G) (ci := 7) (v := .int vMo) (C := RX8) (T := TX8) (N := 8) hx hb hts iwX8 hown hK.1 hP 0 rfl rfl 6 (by decide) fl56 (fun _ h9 => h9) rfl dX8_set_80 ?_
                refine lv_istore (lv' := [(6, .int vMo), (5, .int 4), (4, .int 1), (3, .int 0), (0, .ref a0), (1, .int p1), (2, .int p2)]) hx hb dX8_set_83 hl (by decide) rfl (fun ls hl => ?_)
                refine lv_aload_n hx hb dX8_set_85 rfl (lv_at hl 4 rfl) ?_
                refine lv_iload_n hx hb dX8_set_86 rfl (lv_at hl 6 rfl) ?_
                refine va_put (D := G) (ci := 7) (v := .int p2) (ty := .int) (C := RX8) (T := TX8) (N := 8) hx hb hts iwX8 tyX8 tyX8_ok nmX8 hown hK.1 hP hD hS 0 rfl rfl 6 (by decide) fl56 (fun _ h9 => h9) rfl (by decide +kernel) rfl rfl (Nat.le_of_ble_eq_true rfl) dX8_set_87 (fun H locs hP hD hS => ?_)
                have hP : va_P G vwCl [(a0, .inr (7, [.ref aN, .ref aM, .ref aP, .ref aW, .ref aT, .int vLe, .int p2, .int vCo]))] H := hP
                have hD : va_D A [(a0, .inr (7, [.ref aN, .ref aM, .ref aP, .ref aW, .ref aT, .int vLe, .int p2, .int vCo]))] := hD
                refine lv_goto (tgt := 104) hx hb dX8_set_90 (by decide) ?_
                refine lv_iload hx hb dX8_set_104 (lv_at hl 0 rfl) ?_
                rw [← hQe]
                exact W.iret (v := vMo) hx hb hr (fun t ht hW => ⟨⟨vMo, (vLe, p2, vCo), rfl, h, by dsimp only; rw [ht]; exact hP⟩, hS.F ht⟩) hS.2.2 dX8_set_106
            · obtain ⟨-, h⟩ := h
              specialize h c35
              refine lv_aload_n hx hb dX8_set_60 rfl (lv_at hl 3 rfl) ?_
              refine va_get (D := G) (ci := 7) (v := .int vCo) (C := RX8) (T := TX8) (N := 8) hx hb hts iwX8 hown hK.1 hP 0 rfl rfl 7 (by decide) fl59 (fun _ h9 => h9) rfl dX8_set_61 ?_
              refine lv_istore (lv' := [(6, .int vCo), (5, .int 4), (4, .int 1), (3, .int 0), (0, .ref a0), (1, .int p1), (2, .int p2)]) hx hb dX8_set_64 hl (by decide) rfl (fun ls hl => ?_)
              refine lv_aload_n hx hb dX8_set_66 rfl (lv_at hl 4 rfl) ?_
              refine lv_iload_n hx hb dX8_set_67 rfl (lv_at hl 6 rfl) ?_
              refine va_put (D := G) (ci := 7) (v := .int p2) (ty := .int) (C := RX8) (T := TX8) (N := 8) hx hb hts iwX8 tyX8 tyX8_ok nmX8 hown hK.1 hP hD hS 0 rfl rfl 7 (by decide) fl59 (fun _ h9 => h9) rfl (by decide +kernel) rfl rfl (Nat.le_of_ble_eq_true rfl) dX8_set_68 (fun H locs hP hD hS => ?_)
              have hP : va_P G vwCl [(a0, .inr (7, [.ref aN, .ref aM, .ref aP, .ref aW, .ref aT, .int vLe, .int vMo, .int p2]))] H := hP
              have hD : va_D A [(a0, .inr (7, [.ref aN, .ref aM, .ref aP, .ref aW, .ref aT, .int vLe, .int vMo, .int p2]))] := hD
              refine lv_goto (tgt := 104) hx hb dX8_set_71 (by decide) ?_
              refine lv_iload hx hb dX8_set_104 (lv_at hl 0 rfl) ?_
              rw [← hQe]
              exact W.iret (v := vCo) hx hb hr (fun t ht hW => ⟨⟨vCo, (vLe, vMo, p2), rfl, h, by dsimp only; rw [ht]; exact hP⟩, hS.F ht⟩) hS.2.2 dX8_set_106
          · obtain ⟨h, -⟩ := h
            specialize h c34
            refine lv_iconst (v := (-1)) hx hb dX8_set_54 (by decide) ?_
            rw [← hQe]
            exact W.iret (v := (-1)) hx hb hr (fun t ht hW => ⟨⟨(-1), (vLe, vMo, vCo), rfl, h, by dsimp only; rw [ht]; exact hP⟩, hS.F ht⟩) hS.2.2 dX8_set_55
  · obtain ⟨h, -⟩ := h
    specialize h c1
    refine lv_iconst (v := 1) hx hb dX8_set_5 (by decide) ?_
    refine lv_goto (tgt := 10) hx hb dX8_set_6 (by decide) ?_
    refine lv_istore_n (lv' := [(3, .int 1), (0, .ref a0), (1, .int p1), (2, .int p2)]) hx hb dX8_set_10 rfl hl (by decide) rfl (fun ls hl => ?_)
    refine lv_iload_n hx hb dX8_set_11 rfl (lv_at hl 0 rfl) ?_
    refine lv_if_eq (tgt := 19) hx hb dX8_set_12 (by decide) (fun c37 => ?_) (fun c37 => ?_)
    · obtain ⟨h, -⟩ := h
      specialize h c37
      refine lv_iconst (v := 0) hx hb dX8_set_19 (by decide) ?_
      refine lv_istore (lv' := [(4, .int 0), (3, .int 1), (0, .ref a0), (1, .int p1), (2, .int p2)]) hx hb dX8_set_20 hl (by decide) rfl (fun ls hl => ?_)
      refine lv_iload_n hx hb dX8_set_22 rfl (lv_at hl 1 rfl) ?_
      refine lv_if_eq (tgt := 30) hx hb dX8_set_23 (by decide) (fun c38 => ?_) (fun c38 => ?_)
      · obtain ⟨h, -⟩ := h
        specialize h c38
        refine lv_bipush (v := 9) hx hb dX8_set_30 (by decide) ?_
        refine lv_istore (lv' := [(5, .int 9), (4, .int 0), (3, .int 1), (0, .ref a0), (1, .int p1), (2, .int p2)]) hx hb dX8_set_32 hl (by decide) rfl (fun ls hl => ?_)
        refine lv_iload_n hx hb dX8_set_34 rfl (lv_at hl 4 rfl) ?_
        refine lv_iconst (v := 0) hx hb dX8_set_35 (by decide) ?_
        refine lv_iconst (v := 2) hx hb dX8_set_36 (by decide) ?_
        obtain ⟨Q39, hw9, h⟩ := h
        have hPc : va_P G vwCl [] H := P_nil
        refine vp_callSi (va_Run.run (va_runS (As := [.int p1, .int 0, .int 2]) (rest := []) ⟨hx, hb, hml, hown, hts⟩ (ct_X8_isWithin l G cy p1 0 2 Q39 hw9) (va_cwS 3 hts gX8_set_X8_isWithin rfl rfl rfl (by decide +kernel) ⟨Nat.le_of_ble_eq_true rfl, Nat.le_of_ble_eq_true rfl⟩) (rP_S hK hPc) rfl rfl hl.1 rfl (lv_room (Nat.le_of_ble_eq_true rfl)) dX8_set_37 ⟨Nat.le_of_ble_eq_true rfl, Nat.le_of_ble_eq_true rfl⟩)) (fun r40 er40 => ?_)
        specialize h r40 er40
        refine lv_if_eq (tgt := 54) hx hb dX8_set_40 (by decide) (fun c41 => ?_) (fun c41 => ?_)
        · obtain ⟨h, -⟩ := h
          specialize h c41
          refine lv_iconst (v := (-1)) hx hb dX8_set_54 (by decide) ?_
          rw [← hQe]
          exact W.iret (v := (-1)) hx hb hr (fun t ht hW => ⟨⟨(-1), (vLe, vMo, vCo), rfl, h, by dsimp only; rw [ht]; exact hP⟩, hS.F ht⟩) hS.2.2 dX8_set_55
        · obtain ⟨-, h⟩ := h
          specialize h c41
          refine lv_iload_n hx hb dX8_set_43 rfl (lv_at hl 5 rfl) ?_
          refine lv_iload hx hb dX8_set_44 (lv_at hl 1 rfl) ?_
          refine lv_iload hx hb dX8_set_46 (lv_at hl 0 rfl) ?_
          obtain ⟨Q42, hw9, h⟩ := h
          have hPc : va_P G vwCl [] H := P_nil
          refine vp_callSi (va_Run.run (va_runS (As := [.int p2, .int 0, .int 9]) (rest := []) ⟨hx, hb, hml, hown, hts⟩ (ct_X8_isWithin l G cy p2 0 9 Q42 hw9) (va_cwS 3 hts gX8_set_X8_isWithin rfl rfl rfl (by decide +kernel) ⟨Nat.le_of_ble_eq_true rfl, Nat.le_of_ble_eq_true rfl⟩) (rP_S hK hPc) rfl rfl hl.1 rfl (lv_room (Nat.le_of_ble_eq_true rfl)) dX8_set_48 ⟨Nat.le_of_ble_eq_true rfl, Nat.le_of_ble_eq_true rfl⟩)) (fun r43 er43 => ?_)
          specialize h r43 er43
          refine lv_if_ne (tgt := 56) hx hb dX8_set_51 (by decide) (fun c44 => ?_) (fun c44 => ?_)
          · obtain ⟨-, h⟩ := h
            specialize h c44
            refine lv_iload_n hx hb dX8_set_56 rfl (lv_at hl 2 rfl) ?_
            refine lv_if_eq (tgt := 74) hx hb dX8_set_57 (by decide) (fun c45 => ?_) (fun c45 => ?_)
            · obtain ⟨h, -⟩ := h
              specialize h c45
              refine lv_iload_n hx hb dX8_set_74 rfl (lv_at hl 4 rfl) ?_
              refine lv_iconst (v := 1) hx hb dX8_set_75 (by decide) ?_
              refine lv_icmp_ne (tgt := 93) hx hb dX8_set_76 (by decide) (fun c46 => ?_) (fun c46 => ?_)
              · obtain ⟨-, h⟩ := h
                specialize h c46
                refine lv_aload_n hx hb dX8_set_93 rfl (lv_at hl 3 rfl) ?_
                refine va_get (D := G) (ci := 7) (v := .int vLe) (C := RX8) (T := TX8) (N := 8) hx hb hts iwX8 hown hK.1 hP 0 rfl rfl 5 (by decide) fl52 (fun _ h9 => h9) rfl dX8_set_94 ?_
                refine lv_istore (lv' := [(6, .int vLe), (5, .int 9), (4, .int 0), (3, .int 1), (0, .ref a0), (1, .int p1), (2, .int p2)]) hx hb dX8_set_97 hl (by decide) rfl (fun ls hl => ?_)
                refine lv_aload_n hx hb dX8_set_99 rfl (lv_at hl 4 rfl) ?_
                refine lv_iload_n hx hb dX8_set_100 rfl (lv_at hl 6 rfl) ?_
                refine va_put (D := G) (ci := 7) (v := .int p2) (ty := .int) (C := RX8) (T := TX8) (N := 8) hx hb hts iwX8 tyX8 tyX8_ok nmX8 hown hK.1 hP hD hS 0 rfl rfl 5 (by decide) fl52 (fun _ h9 => h9) rfl (by decide +kernel) rfl rfl (Nat.le_of_ble_eq_true rfl) dX8_set_101 (fun H locs hP hD hS => ?_)
                have hP : va_P G vwCl [(a0, .inr (7, [.ref aN, .ref aM, .ref aP, .ref aW, .ref aT, .int p2, .int vMo, .int vCo]))] H := hP
                have hD : va_D A [(a0, .inr (7, [.ref aN, .ref aM, .ref aP, .ref aW, .ref aT, .int p2, .int vMo, .int vCo]))] := hD
                refine lv_iload hx hb dX8_set_104 (lv_at hl 0 rfl) ?_
                rw [← hQe]
                exact W.iret (v := vLe) hx hb hr (fun t ht hW => ⟨⟨vLe, (p2, vMo, vCo), rfl, h, by dsimp only; rw [ht]; exact hP⟩, hS.F ht⟩) hS.2.2 dX8_set_106
              · obtain ⟨h, -⟩ := h
                specialize h c46
                refine lv_aload_n hx hb dX8_set_79 rfl (lv_at hl 3 rfl) ?_
                refine va_get (D := G) (ci := 7) (v := .int vMo) (C := RX8) (T := TX8) (N := 8) hx hb hts iwX8 hown hK.1 hP 0 rfl rfl 6 (by decide) fl56 (fun _ h9 => h9) rfl dX8_set_80 ?_
                refine lv_istore (lv' := [(6, .int vMo), (5, .int 9), (4, .int 0), (3, .int 1), (0, .ref a0), (1, .int p1), (2, .int p2)]) hx hb dX8_set_83 hl (by decide) rfl (fun ls hl => ?_)
                refine lv_aload_n hx hb dX8_set_85 rfl (lv_at hl 4 rfl) ?_
                refine lv_iload_n hx hb dX8_set_86 rfl (lv_at hl 6 rfl) ?_
                refine va_put (D := G) (ci := 7) (v := .int p2) (ty := .int) (C := RX8) (T := TX8) (N := 8) hx hb hts iwX8 tyX8 tyX8_ok nmX8 hown hK.1 hP hD hS 0 rfl rfl 6 (by decide) fl56 (fun _ h9 => h9) rfl (by decide +kernel) rfl rfl (Nat.le_of_ble_eq_true rfl) dX8_set_87 (fun H locs hP hD hS => ?_)
                have hP : va_P G vwCl [(a0, .inr (7, [.ref aN, .ref aM, .ref aP, .ref aW, .ref aT, .int vLe, .int p2, .int vCo]))] H := hP
                have hD : va_D A [(a0, .inr (7, [.ref aN, .ref aM, .ref aP, .ref aW, .ref aT, .int vLe, .int p2, .int vCo]))] := hD
                refine lv_goto (tgt := 104) hx hb dX8_set_90 (by decide) ?_
                refine lv_iload hx hb dX8_set_104 (lv_at hl 0 rfl) ?_
                rw [← hQe]
                exact W.iret (v := vMo) hx hb hr (fun t ht hW => ⟨⟨vMo, (vLe, p2, vCo), rfl, h, by dsimp only; rw [ht]; exact hP⟩, hS.F ht⟩) hS.2.2 dX8_set_106
            · obtain ⟨-, h⟩ := h
              specialize h c45
              refine lv_aload_n hx hb dX8_set_60 rfl (lv_at hl 3 rfl) ?_
              refine va_get (D := G) (ci := 7) (v := .int vCo) (C := RX8) (T := TX8) (N := 8) hx hb hts iwX8 hown hK.1 hP 0 rfl rfl 7 (by decide) fl59 (fun _ h9 => h9) rfl dX8_set_61 ?_
              refine lv_istore (lv' := [(6, .int vCo), (5, .int 9), (4, .int 0), (3, .int 1), (0, .ref a0), (1, .int p1), (2, .int p2)]) hx hb dX8_set_64 hl (by decide) rfl (fun ls hl => ?_)
              refine lv_aload_n hx hb dX8_set_66 rfl (lv_at hl 4 rfl) ?_
              refine lv_iload_n hx hb dX8_set_67 rfl (lv_at hl 6 rfl) ?_
              refine va_put (D := G) (ci := 7) (v := .int p2) (ty := .int) (C := RX8) (T := TX8) (N := 8) hx hb hts iwX8 tyX8 tyX8_ok nmX8 hown hK.1 hP hD hS 0 rfl rfl 7 (by decide) fl59 (fun _ h9 => h9) rfl (by decide +kernel) rfl rfl (Nat.le_of_ble_eq_true rfl) dX8_set_68 (fun H locs hP hD hS => ?_)
              have hP : va_P G vwCl [(a0, .inr (7, [.ref aN, .ref aM, .ref aP, .ref aW, .ref aT, .int vLe, .int vMo, .int p2]))] H := hP
              have hD : va_D A [(a0, .inr (7, [.ref aN, .ref aM, .ref aP, .ref aW, .ref aT, .int vLe, .int vMo, .int p2]))] := hD
              refine lv_goto (tgt := 104) hx hb dX8_set_71 (by decide) ?_
              refine lv_iload hx hb dX8_set_104 (lv_at hl 0 rfl) ?_
              rw [← hQe]
              exact W.iret (v := vCo) hx hb hr (fun t ht hW => ⟨⟨vCo, (vLe, vMo, p2), rfl, h, by dsimp only; rw [ht]; exact hP⟩, hS.F ht⟩) hS.2.2 dX8_set_106
          · obtain ⟨h, -⟩ := h
            specialize h c44
            refine lv_iconst (v := (-1)) hx hb dX8_set_54 (by decide) ?_
            rw [← hQe]
            exact W.iret (v := (-1)) hx hb hr (fun t ht hW => ⟨⟨(-1), (vLe, vMo, vCo), rfl, h, by dsimp only; rw [ht]; exact hP⟩, hS.F ht⟩) hS.2.2 dX8_set_55
      · obtain ⟨-, h⟩ := h
        specialize h c38
        refine lv_iconst (v := 4) hx hb dX8_set_26 (by decide) ?_
        refine lv_goto (tgt := 32) hx hb dX8_set_27 (by decide) ?_
        refine lv_istore (lv' := [(5, .int 4), (4, .int 0), (3, .int 1), (0, .ref a0), (1, .int p1), (2, .int p2)]) hx hb dX8_set_32 hl (by decide) rfl (fun ls hl => ?_)
        refine lv_iload_n hx hb dX8_set_34 rfl (lv_at hl 4 rfl) ?_
        refine lv_iconst (v := 0) hx hb dX8_set_35 (by decide) ?_
        refine lv_iconst (v := 2) hx hb dX8_set_36 (by decide) ?_
        obtain ⟨Q47, hw9, h⟩ := h
        have hPc : va_P G vwCl [] H := P_nil
        refine vp_callSi (va_Run.run (va_runS (As := [.int p1, .int 0, .int 2]) (rest := []) ⟨hx, hb, hml, hown, hts⟩ (ct_X8_isWithin l G cy p1 0 2 Q47 hw9) (va_cwS 3 hts gX8_set_X8_isWithin rfl rfl rfl (by decide +kernel) ⟨Nat.le_of_ble_eq_true rfl, Nat.le_of_ble_eq_true rfl⟩) (rP_S hK hPc) rfl rfl hl.1 rfl (lv_room (Nat.le_of_ble_eq_true rfl)) dX8_set_37 ⟨Nat.le_of_ble_eq_true rfl, Nat.le_of_ble_eq_true rfl⟩)) (fun r48 er48 => ?_)
        specialize h r48 er48
        refine lv_if_eq (tgt := 54) hx hb dX8_set_40 (by decide) (fun c49 => ?_) (fun c49 => ?_)
        · obtain ⟨h, -⟩ := h
          specialize h c49
          refine lv_iconst (v := (-1)) hx hb dX8_set_54 (by decide) ?_
          rw [← hQe]
          exact W.iret (v := (-1)) hx hb hr (fun t ht hW => ⟨⟨(-1), (vLe, vMo, vCo), rfl, h, by dsimp only; rw [ht]; exact hP⟩, hS.F ht⟩) hS.2.2 dX8_set_55
        · obtain ⟨-, h⟩ := h
          specialize h c49
          refine lv_iload_n hx hb dX8_set_43 rfl (lv_at hl 5 rfl) ?_
          refine lv_iload hx hb dX8_set_44 (lv_at hl 1 rfl) ?_
          refine lv_iload hx hb dX8_set_46 (lv_at hl 0 rfl) ?_
          obtain ⟨Q50, hw9, h⟩ := h
          have hPc : va_P G vwCl [] H := P_nil
          refine vp_callSi (va_Run.run (va_runS (As := [.int p2, .int 0, .int 4]) (rest := []) ⟨hx, hb, hml, hown, hts⟩ (ct_X8_isWithin l G cy p2 0 4 Q50 hw9) (va_cwS 3 hts gX8_set_X8_isWithin rfl rfl rfl (by decide +kernel) ⟨Nat.le_of_ble_eq_true rfl, Nat.le_of_ble_eq_true rfl⟩) (rP_S hK hPc) rfl rfl hl.1 rfl (lv_room (Nat.le_of_ble_eq_true rfl)) dX8_set_48 ⟨Nat.le_of_ble_eq_true rfl, Nat.le_of_ble_eq_true rfl⟩)) (fun r51 er51 => ?_)
          specialize h r51 er51
          refine lv_if_ne (tgt := 56) hx hb dX8_set_51 (by decide) (fun c52 => ?_) (fun c52 => ?_)
          · obtain ⟨-, h⟩ := h
            specialize h c52
            refine lv_iload_n hx hb dX8_set_56 rfl (lv_at hl 2 rfl) ?_
            refine lv_if_eq (tgt := 74) hx hb dX8_set_57 (by decide) (fun c53 => ?_) (fun c53 => ?_)
            · obtain ⟨h, -⟩ := h
              specialize h c53
              refine lv_iload_n hx hb dX8_set_74 rfl (lv_at hl 4 rfl) ?_
              refine lv_iconst (v := 1) hx hb dX8_set_75 (by decide) ?_
              refine lv_icmp_ne (tgt := 93) hx hb dX8_set_76 (by decide) (fun c54 => ?_) (fun c54 => ?_)
              · obtain ⟨-, h⟩ := h
                specialize h c54
                refine lv_aload_n hx hb dX8_set_93 rfl (lv_at hl 3 rfl) ?_
                refine va_get (D := G) (ci := 7) (v := .int vLe) (C := RX8) (T := TX8) (N := 8) hx hb hts iwX8 hown hK.1 hP 0 rfl rfl 5 (by decide) fl52 (fun _ h9 => h9) rfl dX8_set_94 ?_
                refine lv_istore (lv' := [(6, .int vLe), (5, .int 4), (4, .int 0), (3, .int 1), (0, .ref a0), (1, .int p1), (2, .int p2)]) hx hb dX8_set_97 hl (by decide) rfl (fun ls hl => ?_)
                refine lv_aload_n hx hb dX8_set_99 rfl (lv_at hl 4 rfl) ?_
                refine lv_iload_n hx hb dX8_set_100 rfl (lv_at hl 6 rfl) ?_
                refine va_put (D := G) (ci := 7) (v := .int p2) (ty := .int) (C := RX8) (T := TX8) (N := 8) hx hb hts iwX8 tyX8 tyX8_ok nmX8 hown hK.1 hP hD hS 0 rfl rfl 5 (by decide) fl52 (fun _ h9 => h9) rfl (by decide +kernel) rfl rfl (Nat.le_of_ble_eq_true rfl) dX8_set_101 (fun H locs hP hD hS => ?_)
                have hP : va_P G vwCl [(a0, .inr (7, [.ref aN, .ref aM, .ref aP, .ref aW, .ref aT, .int p2, .int vMo, .int vCo]))] H := hP
                have hD : va_D A [(a0, .inr (7, [.ref aN, .ref aM, .ref aP, .ref aW, .ref aT, .int p2, .int vMo, .int vCo]))] := hD
                refine lv_iload hx hb dX8_set_104 (lv_at hl 0 rfl) ?_
                rw [← hQe]
                exact W.iret (v := vLe) hx hb hr (fun t ht hW => ⟨⟨vLe, (p2, vMo, vCo), rfl, h, by dsimp only; rw [ht]; exact hP⟩, hS.F ht⟩) hS.2.2 dX8_set_106
              · obtain ⟨h, -⟩ := h
                specialize h c54
                refine lv_aload_n hx hb dX8_set_79 rfl (lv_at hl 3 rfl) ?_
                refine va_get (D := G) (ci := 7) (v := .int vMo) (C := RX8) (T := TX8) (N := 8) hx hb hts iwX8 hown hK.1 hP 0 rfl rfl 6 (by decide) fl56 (fun _ h9 => h9) rfl dX8_set_80 ?_
                refine lv_istore (lv' := [(6, .int vMo), (5, .int 4), (4, .int 0), (3, .int 1), (0, .ref a0), (1, .int p1), (2, .int p2)]) hx hb dX8_set_83 hl (by decide) rfl (fun ls hl => ?_)
                refine lv_aload_n hx hb dX8_set_85 rfl (lv_at hl 4 rfl) ?_
                refine lv_iload_n hx hb dX8_set_86 rfl (lv_at hl 6 rfl) ?_
                refine va_put (D := G) (ci := 7) (v := .int p2) (ty := .int) (C := RX8) (T := TX8) (N := 8) hx hb hts iwX8 tyX8 tyX8_ok nmX8 hown hK.1 hP hD hS 0 rfl rfl 6 (by decide) fl56 (fun _ h9 => h9) rfl (by decide +kernel) rfl rfl (Nat.le_of_ble_eq_true rfl) dX8_set_87 (fun H locs hP hD hS => ?_)
                have hP : va_P G vwCl [(a0, .inr (7, [.ref aN, .ref aM, .ref aP, .ref aW, .ref aT, .int vLe, .int p2, .int vCo]))] H := hP
                have hD : va_D A [(a0, .inr (7, [.ref aN, .ref aM, .ref aP, .ref aW, .ref aT, .int vLe, .int p2, .int vCo]))] := hD
                refine lv_goto (tgt := 104) hx hb dX8_set_90 (by decide) ?_
                refine lv_iload hx hb dX8_set_104 (lv_at hl 0 rfl) ?_
                rw [← hQe]
                exact W.iret (v := vMo) hx hb hr (fun t ht hW => ⟨⟨vMo, (vLe, p2, vCo), rfl, h, by dsimp only; rw [ht]; exact hP⟩, hS.F ht⟩) hS.2.2 dX8_set_106
            · obtain ⟨-, h⟩ := h
              specialize h c53
              refine lv_aload_n hx hb dX8_set_60 rfl (lv_at hl 3 rfl) ?_
              refine va_get (D := G) (ci := 7) (v := .int vCo) (C := RX8) (T := TX8) (N := 8) hx hb hts iwX8 hown hK.1 hP 0 rfl rfl 7 (by decide) fl59 (fun _ h9 => h9) rfl dX8_set_61 ?_
              refine lv_istore (lv' := [(6, .int vCo), (5, .int 4), (4, .int 0), (3, .int 1), (0, .ref a0), (1, .int p1), (2, .int p2)]) hx hb dX8_set_64 hl (by decide) rfl (fun ls hl => ?_)
              refine lv_aload_n hx hb dX8_set_66 rfl (lv_at hl 4 rfl) ?_
              refine lv_iload_n hx hb dX8_set_67 rfl (lv_at hl 6 rfl) ?_
              refine va_put (D := G) (ci := 7) (v := .int p2) (ty := .int) (C := RX8) (T := TX8) (N := 8) hx hb hts iwX8 tyX8 tyX8_ok nmX8 hown hK.1 hP hD hS 0 rfl rfl 7 (by decide) fl59 (fun _ h9 => h9) rfl (by decide +kernel) rfl rfl (Nat.le_of_ble_eq_true rfl) dX8_set_68 (fun H locs hP hD hS => ?_)
              have hP : va_P G vwCl [(a0, .inr (7, [.ref aN, .ref aM, .ref aP, .ref aW, .ref aT, .int vLe, .int vMo, .int p2]))] H := hP
              have hD : va_D A [(a0, .inr (7, [.ref aN, .ref aM, .ref aP, .ref aW, .ref aT, .int vLe, .int vMo, .int p2]))] := hD
              refine lv_goto (tgt := 104) hx hb dX8_set_71 (by decide) ?_
              refine lv_iload hx hb dX8_set_104 (lv_at hl 0 rfl) ?_
              rw [← hQe]
              exact W.iret (v := vCo) hx hb hr (fun t ht hW => ⟨⟨vCo, (vLe, vMo, p2), rfl, h, by dsimp only; rw [ht]; exact hP⟩, hS.F ht⟩) hS.2.2 dX8_set_106
          · obtain ⟨h, -⟩ := h
            specialize h c52
            refine lv_iconst (v := (-1)) hx hb dX8_set_54 (by decide) ?_
            rw [← hQe]
            exact W.iret (v := (-1)) hx hb hr (fun t ht hW => ⟨⟨(-1), (vLe, vMo, vCo), rfl, h, by dsimp only; rw [ht]; exact hP⟩, hS.F ht⟩) hS.2.2 dX8_set_55
    · obtain ⟨-, h⟩ := h
      specialize h c37
      refine lv_iconst (v := 1) hx hb dX8_set_15 (by decide) ?_
      refine lv_goto (tgt := 20) hx hb dX8_set_16 (by decide) ?_
      refine lv_istore (lv' := [(4, .int 1), (3, .int 1), (0, .ref a0), (1, .int p1), (2, .int p2)]) hx hb dX8_set_20 hl (by decide) rfl (fun ls hl => ?_)
      refine lv_iload_n hx hb dX8_set_22 rfl (lv_at hl 1 rfl) ?_
      refine lv_if_eq (tgt := 30) hx hb dX8_set_23 (by decide) (fun c55 => ?_) (fun c55 => ?_)
      · obtain ⟨h, -⟩ := h
        specialize h c55
        refine lv_bipush (v := 9) hx hb dX8_set_30 (by decide) ?_
        refine lv_istore (lv' := [(5, .int 9), (4, .int 1), (3, .int 1), (0, .ref a0), (1, .int p1), (2, .int p2)]) hx hb dX8_set_32 hl (by decide) rfl (fun ls hl => ?_)
        refine lv_iload_n hx hb dX8_set_34 rfl (lv_at hl 4 rfl) ?_
        refine lv_iconst (v := 0) hx hb dX8_set_35 (by decide) ?_
        refine lv_iconst (v := 2) hx hb dX8_set_36 (by decide) ?_
        obtain ⟨Q56, hw9, h⟩ := h
        have hPc : va_P G vwCl [] H := P_nil
        refine vp_callSi (va_Run.run (va_runS (As := [.int p1, .int 0, .int 2]) (rest := []) ⟨hx, hb, hml, hown, hts⟩ (ct_X8_isWithin l G cy p1 0 2 Q56 hw9) (va_cwS 3 hts gX8_set_X8_isWithin rfl rfl rfl (by decide +kernel) ⟨Nat.le_of_ble_eq_true rfl, Nat.le_of_ble_eq_true rfl⟩) (rP_S hK hPc) rfl rfl hl.1 rfl (lv_room (Nat.le_of_ble_eq_true rfl)) dX8_set_37 ⟨Nat.le_of_ble_eq_true rfl, Nat.le_of_ble_eq_true rfl⟩)) (fun r57 er57 => ?_)
        specialize h r57 er57
        refine lv_if_eq (tgt := 54) hx hb dX8_set_40 (by decide) (fun c58 => ?_) (fun c58 => ?_)
        · obtain ⟨h, -⟩ := h
          specialize h c58
          refine lv_iconst (v := (-1)) hx hb dX8_set_54 (by decide) ?_
          rw [← hQe]
          exact W.iret (v := (-1)) hx hb hr (fun t ht hW => ⟨⟨(-1), (vLe, vMo, vCo), rfl, h, by dsimp only; rw [ht]; exact hP⟩, hS.F ht⟩) hS.2.2 dX8_set_55
        · obtain ⟨-, h⟩ := h
          specialize h c58
          refine lv_iload_n hx hb dX8_set_43 rfl (lv_at hl 5 rfl) ?_
          refine lv_iload hx hb dX8_set_44 (lv_at hl 1 rfl) ?_
          refine lv_iload hx hb dX8_set_46 (lv_at hl 0 rfl) ?_
          obtain ⟨Q59, hw9, h⟩ := h
          have hPc : va_P G vwCl [] H := P_nil
          refine vp_callSi (va_Run.run (va_runS (As := [.int p2, .int 1, .int 9]) (rest := []) ⟨hx, hb, hml, hown, hts⟩ (ct_X8_isWithin l G cy p2 1 9 Q59 hw9) (va_cwS 3 hts gX8_set_X8_isWithin rfl rfl rfl (by decide +kernel) ⟨Nat.le_of_ble_eq_true rfl, Nat.le_of_ble_eq_true rfl⟩) (rP_S hK hPc) rfl rfl hl.1 rfl (lv_room (Nat.le_of_ble_eq_true rfl)) dX8_set_48 ⟨Nat.le_of_ble_eq_true rfl, Nat.le_of_ble_eq_true rfl⟩)) (fun r60 er60 => ?_)
          specialize h r60 er60
          refine lv_if_ne (tgt := 56) hx hb dX8_set_51 (by decide) (fun c61 => ?_) (fun c61 => ?_)
          · obtain ⟨-, h⟩ := h
            specialize h c61
            refine lv_iload_n hx hb dX8_set_56 rfl (lv_at hl 2 rfl) ?_
            refine lv_if_eq (tgt := 74) hx hb dX8_set_57 (by decide) (fun c62 => ?_) (fun c62 => ?_)
            · obtain ⟨h, -⟩ := h
              specialize h c62
              refine lv_iload_n hx hb dX8_set_74 rfl (lv_at hl 4 rfl) ?_
              refine lv_iconst (v := 1) hx hb dX8_set_75 (by decide) ?_
              refine lv_icmp_ne (tgt := 93) hx hb dX8_set_76 (by decide) (fun c63 => ?_) (fun c63 => ?_)
              · obtain ⟨-, h⟩ := h
                specialize h c63
                refine lv_aload_n hx hb dX8_set_93 rfl (lv_at hl 3 rfl) ?_
                refine va_get (D := G) (ci := 7) (v := .int vLe) (C := RX8) (T := TX8) (N := 8) hx hb hts iwX8 hown hK.1 hP 0 rfl rfl 5 (by decide) fl52 (fun _ h9 => h9) rfl dX8_set_94 ?_
                refine lv_istore (lv' := [(6, .int vLe), (5, .int 9), (4, .int 1), (3, .int 1), (0, .ref a0), (1, .int p1), (2, .int p2)]) hx hb dX8_set_97 hl (by decide) rfl (fun ls hl => ?_)
                refine lv_aload_n hx hb dX8_set_99 rfl (lv_at hl 4 rfl) ?_
                refine lv_iload_n hx hb dX8_set_100 rfl (lv_at hl 6 rfl) ?_
                refine va_put (D := G) (ci := 7) (v := .int p2) (ty := .int) (C := RX8) (T := TX8) (N := 8) hx hb hts iwX8 tyX8 tyX8_ok nmX8 hown hK.1 hP hD hS 0 rfl rfl 5 (by decide) fl52 (fun _ h9 => h9) rfl (by decide +kernel) rfl rfl (Nat.le_of_ble_eq_true rfl) dX8_set_101 (fun H locs hP hD hS => ?_)
                have hP : va_P G vwCl [(a0, .inr (7, [.ref aN, .ref aM, .ref aP, .ref aW, .ref aT, .int p2, .int vMo, .int vCo]))] H := hP
                have hD : va_D A [(a0, .inr (7, [.ref aN, .ref aM, .ref aP, .ref aW, .ref aT, .int p2, .int vMo, .int vCo]))] := hD
                refine lv_iload hx hb dX8_set_104 (lv_at hl 0 rfl) ?_
                rw [← hQe]
                exact W.iret (v := vLe) hx hb hr (fun t ht hW => ⟨⟨vLe, (p2, vMo, vCo), rfl, h, by dsimp only; rw [ht]; exact hP⟩, hS.F ht⟩) hS.2.2 dX8_set_106
              · obtain ⟨h, -⟩ := h
                specialize h c63
                refine lv_aload_n hx hb dX8_set_79 rfl (lv_at hl 3 rfl) ?_
                refine va_get (D := G) (ci := 7) (v := .int vMo) (C := RX8) (T := TX8) (N := 8) hx hb hts iwX8 hown hK.1 hP 0 rfl rfl 6 (by decide) fl56 (fun _ h9 => h9) rfl dX8_set_80 ?_
                refine lv_istore (lv' := [(6, .int vMo), (5, .int 9), (4, .int 1), (3, .int 1), (0, .ref a0), (1, .int p1), (2, .int p2)]) hx hb dX8_set_83 hl (by decide) rfl (fun ls hl => ?_)
                refine lv_aload_n hx hb dX8_set_85 rfl (lv_at hl 4 rfl) ?_
                refine lv_iload_n hx hb dX8_set_86 rfl (lv_at hl 6 rfl) ?_
                refine va_put (D := G) (ci := 7) (v := .int p2) (ty := .int) (C := RX8) (T := TX8) (N := 8) hx hb hts iwX8 tyX8 tyX8_ok nmX8 hown hK.1 hP hD hS 0 rfl rfl 6 (by decide) fl56 (fun _ h9 => h9) rfl (by decide +kernel) rfl rfl (Nat.le_of_ble_eq_true rfl) dX8_set_87 (fun H locs hP hD hS => ?_)
                have hP : va_P G vwCl [(a0, .inr (7, [.ref aN, .ref aM, .ref aP, .ref aW, .ref aT, .int vLe, .int p2, .int vCo]))] H := hP
                have hD : va_D A [(a0, .inr (7, [.ref aN, .ref aM, .ref aP, .ref aW, .ref aT, .int vLe, .int p2, .int vCo]))] := hD
                refine lv_goto (tgt := 104) hx hb dX8_set_90 (by decide) ?_
                refine lv_iload hx hb dX8_set_104 (lv_at hl 0 rfl) ?_
                rw [← hQe]
                exact W.iret (v := vMo) hx hb hr (fun t ht hW => ⟨⟨vMo, (vLe, p2, vCo), rfl, h, by dsimp only; rw [ht]; exact hP⟩, hS.F ht⟩) hS.2.2 dX8_set_106
            · obtain ⟨-, h⟩ := h
              specialize h c62
              refine lv_aload_n hx hb dX8_set_60 rfl (lv_at hl 3 rfl) ?_
              refine va_get (D := G) (ci := 7) (v := .int vCo) (C := RX8) (T := TX8) (N := 8) hx hb hts iwX8 hown hK.1 hP 0 rfl rfl 7 (by decide) fl59 (fun _ h9 => h9) rfl dX8_set_61 ?_
              refine lv_istore (lv' := [(6, .int vCo), (5, .int 9), (4, .int 1), (3, .int 1), (0, .ref a0), (1, .int p1), (2, .int p2)]) hx hb dX8_set_64 hl (by decide) rfl (fun ls hl => ?_)
              refine lv_aload_n hx hb dX8_set_66 rfl (lv_at hl 4 rfl) ?_
              refine lv_iload_n hx hb dX8_set_67 rfl (lv_at hl 6 rfl) ?_
              refine va_put (D := G) (ci := 7) (v := .int p2) (ty := .int) (C := RX8) (T := TX8) (N := 8) hx hb hts iwX8 tyX8 tyX8_ok nmX8 hown hK.1 hP hD hS 0 rfl rfl 7 (by decide) fl59 (fun _ h9 => h9) rfl (by decide +kernel) rfl rfl (Nat.le_of_ble_eq_true rfl) dX8_set_68 (fun H locs hP hD hS => ?_)
              have hP : va_P G vwCl [(a0, .inr (7, [.ref aN, .ref aM, .ref aP, .ref aW, .ref aT, .int vLe, .int vMo, .int p2]))] H := hP
              have hD : va_D A [(a0, .inr (7, [.ref aN, .ref aM, .ref aP, .ref aW, .ref aT, .int vLe, .int vMo, .int p2]))] := hD
              refine lv_goto (tgt := 104) hx hb dX8_set_71 (by decide) ?_
              refine lv_iload hx hb dX8_set_104 (lv_at hl 0 rfl) ?_
              rw [← hQe]
              exact W.iret (v := vCo) hx hb hr (fun t ht hW => ⟨⟨vCo, (vLe, vMo, p2), rfl, h, by dsimp only; rw [ht]; exact hP⟩, hS.F ht⟩) hS.2.2 dX8_set_106
          · obtain ⟨h, -⟩ := h
            specialize h c61
            refine lv_iconst (v := (-1)) hx hb dX8_set_54 (by decide) ?_
            rw [← hQe]
            exact W.iret (v := (-1)) hx hb hr (fun t ht hW => ⟨⟨(-1), (vLe, vMo, vCo), rfl, h, by dsimp only; rw [ht]; exact hP⟩, hS.F ht⟩) hS.2.2 dX8_set_55
      · obtain ⟨-, h⟩ := h
        specialize h c55
        refine lv_iconst (v := 4) hx hb dX8_set_26 (by decide) ?_
        refine lv_goto (tgt := 32) hx hb dX8_set_27 (by decide) ?_
        refine lv_istore (lv' := [(5, .int 4), (4, .int 1), (3, .int 1), (0, .ref a0), (1, .int p1), (2, .int p2)]) hx hb dX8_set_32 hl (by decide) rfl (fun ls hl => ?_)
        refine lv_iload_n hx hb dX8_set_34 rfl (lv_at hl 4 rfl) ?_
        refine lv_iconst (v := 0) hx hb dX8_set_35 (by decide) ?_
        refine lv_iconst (v := 2) hx hb dX8_set_36 (by decide) ?_
        obtain ⟨Q64, hw9, h⟩ := h
        have hPc : va_P G vwCl [] H := P_nil
        refine vp_callSi (va_Run.run (va_runS (As := [.int p1, .int 0, .int 2]) (rest := []) ⟨hx, hb, hml, hown, hts⟩ (ct_X8_isWithin l G cy p1 0 2 Q64 hw9) (va_cwS 3 hts gX8_set_X8_isWithin rfl rfl rfl (by decide +kernel) ⟨Nat.le_of_ble_eq_true rfl, Nat.le_of_ble_eq_true rfl⟩) (rP_S hK hPc) rfl rfl hl.1 rfl (lv_room (Nat.le_of_ble_eq_true rfl)) dX8_set_37 ⟨Nat.le_of_ble_eq_true rfl, Nat.le_of_ble_eq_true rfl⟩)) (fun r65 er65 => ?_)
        specialize h r65 er65
        refine lv_if_eq (tgt := 54) hx hb dX8_set_40 (by decide) (fun c66 => ?_) (fun c66 => ?_)
        · obtain ⟨h, -⟩ := h
          specialize h c66
          refine lv_iconst (v := (-1)) hx hb dX8_set_54 (by decide) ?_
          rw [← hQe]
          exact W.iret (v := (-1)) hx hb hr (fun t ht hW => ⟨⟨(-1), (vLe, vMo, vCo), rfl, h, by dsimp only; rw [ht]; exact hP⟩, hS.F ht⟩) hS.2.2 dX8_set_55
        · obtain ⟨-, h⟩ := h
          specialize h c66
          refine lv_iload_n hx hb dX8_set_43 rfl (lv_at hl 5 rfl) ?_
          refine lv_iload hx hb dX8_set_44 (lv_at hl 1 rfl) ?_
          refine lv_iload hx hb dX8_set_46 (lv_at hl 0 rfl) ?_
          obtain ⟨Q67, hw9, h⟩ := h
          have hPc : va_P G vwCl [] H := P_nil
          refine vp_callSi (va_Run.run (va_runS (As := [.int p2, .int 1, .int 4]) (rest := []) ⟨hx, hb, hml, hown, hts⟩ (ct_X8_isWithin l G cy p2 1 4 Q67 hw9) (va_cwS 3 hts gX8_set_X8_isWithin rfl rfl rfl (by decide +kernel) ⟨Nat.le_of_ble_eq_true rfl, Nat.le_of_ble_eq_true rfl⟩) (rP_S hK hPc) rfl rfl hl.1 rfl (lv_room (Nat.le_of_ble_eq_true rfl)) dX8_set_48 ⟨Nat.le_of_ble_eq_true rfl, Nat.le_of_ble_eq_true rfl⟩)) (fun r68 er68 => ?_)
          specialize h r68 er68
          refine lv_if_ne (tgt := 56) hx hb dX8_set_51 (by decide) (fun c69 => ?_) (fun c69 => ?_)
          · obtain ⟨-, h⟩ := h
            specialize h c69
            refine lv_iload_n hx hb dX8_set_56 rfl (lv_at hl 2 rfl) ?_
            refine lv_if_eq (tgt := 74) hx hb dX8_set_57 (by decide) (fun c70 => ?_) (fun c70 => ?_)
            · obtain ⟨h, -⟩ := h
              specialize h c70
              refine lv_iload_n hx hb dX8_set_74 rfl (lv_at hl 4 rfl) ?_
              refine lv_iconst (v := 1) hx hb dX8_set_75 (by decide) ?_
              refine lv_icmp_ne (tgt := 93) hx hb dX8_set_76 (by decide) (fun c71 => ?_) (fun c71 => ?_)
              · obtain ⟨-, h⟩ := h
                specialize h c71
                refine lv_aload_n hx hb dX8_set_93 rfl (lv_at hl 3 rfl) ?_
                refine va_get (D := G) (ci := 7) (v := .int vLe) (C := RX8) (T := TX8) (N := 8) hx hb hts iwX8 hown hK.1 hP 0 rfl rfl 5 (by decide) fl52 (fun _ h9 => h9) rfl dX8_set_94 ?_
                refine lv_istore (lv' := [(6, .int vLe), (5, .int 4), (4, .int 1), (3, .int 1), (0, .ref a0), (1, .int p1), (2, .int p2)]) hx hb dX8_set_97 hl (by decide) rfl (fun ls hl => ?_)
                refine lv_aload_n hx hb dX8_set_99 rfl (lv_at hl 4 rfl) ?_
                refine lv_iload_n hx hb dX8_set_100 rfl (lv_at hl 6 rfl) ?_
                refine va_put (D := G) (ci := 7) (v := .int p2) (ty := .int) (C := RX8) (T := TX8) (N := 8) hx hb hts iwX8 tyX8 tyX8_ok nmX8 hown hK.1 hP hD hS 0 rfl rfl 5 (by decide) fl52 (fun _ h9 => h9) rfl (by decide +kernel) rfl rfl (Nat.le_of_ble_eq_true rfl) dX8_set_101 (fun H locs hP hD hS => ?_)
                have hP : va_P G vwCl [(a0, .inr (7, [.ref aN, .ref aM, .ref aP, .ref aW, .ref aT, .int p2, .int vMo, .int vCo]))] H := hP
                have hD : va_D A [(a0, .inr (7, [.ref aN, .ref aM, .ref aP, .ref aW, .ref aT, .int p2, .int vMo, .int vCo]))] := hD
                refine lv_iload hx hb dX8_set_104 (lv_at hl 0 rfl) ?_
                rw [← hQe]
                exact W.iret (v := vLe) hx hb hr (fun t ht hW => ⟨⟨vLe, (p2, vMo, vCo), rfl, h, by dsimp only; rw [ht]; exact hP⟩, hS.F ht⟩) hS.2.2 dX8_set_106
              · obtain ⟨h, -⟩ := h
                specialize h c71
                refine lv_aload_n hx hb dX8_set_79 rfl (lv_at hl 3 rfl) ?_
                refine va_get (D := G) (ci := 7) (v := .int vMo) (C := RX8) (T := TX8) (N := 8) hx hb hts iwX8 hown hK.1 hP 0 rfl rfl 6 (by decide) fl56 (fun _ h9 => h9) rfl dX8_set_80 ?_
                refine lv_istore (lv' := [(6, .int vMo), (5, .int 4), (4, .int 1), (3, .int 1), (0, .ref a0), (1, .int p1), (2, .int p2)]) hx hb dX8_set_83 hl (by decide) rfl (fun ls hl => ?_)
                refine lv_aload_n hx hb dX8_set_85 rfl (lv_at hl 4 rfl) ?_
                refine lv_iload_n hx hb dX8_set_86 rfl (lv_at hl 6 rfl) ?_
                refine va_put (D := G) (ci := 7) (v := .int p2) (ty := .int) (C := RX8) (T := TX8) (N := 8) hx hb hts iwX8 tyX8 tyX8_ok nmX8 hown hK.1 hP hD hS 0 rfl rfl 6 (by decide) fl56 (fun _ h9 => h9) rfl (by decide +kernel) rfl rfl (Nat.le_of_ble_eq_true rfl) dX8_set_87 (fun H locs hP hD hS => ?_)
                have hP : va_P G vwCl [(a0, .inr (7, [.ref aN, .ref aM, .ref aP, .ref aW, .ref aT, .int vLe, .int p2, .int vCo]))] H := hP
                have hD : va_D A [(a0, .inr (7, [.ref aN, .ref aM, .ref aP, .ref aW, .ref aT, .int vLe, .int p2, .int vCo]))] := hD
                refine lv_goto (tgt := 104) hx hb dX8_set_90 (by decide) ?_
                refine lv_iload hx hb dX8_set_104 (lv_at hl 0 rfl) ?_
                rw [← hQe]
                exact W.iret (v := vMo) hx hb hr (fun t ht hW => ⟨⟨vMo, (vLe, p2, vCo), rfl, h, by dsimp only; rw [ht]; exact hP⟩, hS.F ht⟩) hS.2.2 dX8_set_106
            · obtain ⟨-, h⟩ := h
              specialize h c70
              refine lv_aload_n hx hb dX8_set_60 rfl (lv_at hl 3 rfl) ?_
              refine va_get (D := G) (ci := 7) (v := .int vCo) (C := RX8) (T := TX8) (N := 8) hx hb hts iwX8 hown hK.1 hP 0 rfl rfl 7 (by decide) fl59 (fun _ h9 => h9) rfl dX8_set_61 ?_
              refine lv_istore (lv' := [(6, .int vCo), (5, .int 4), (4, .int 1), (3, .int 1), (0, .ref a0), (1, .int p1), (2, .int p2)]) hx hb dX8_set_64 hl (by decide) rfl (fun ls hl => ?_)
              refine lv_aload_n hx hb dX8_set_66 rfl (lv_at hl 4 rfl) ?_
              refine lv_iload_n hx hb dX8_set_67 rfl (lv_at hl 6 rfl) ?_
              refine va_put (D := G) (ci := 7) (v := .int p2) (ty := .int) (C := RX8) (T := TX8) (N := 8) hx hb hts iwX8 tyX8 tyX8_ok nmX8 hown hK.1 hP hD hS 0 rfl rfl 7 (by decide) fl59 (fun _ h9 => h9) rfl (by decide +kernel) rfl rfl (Nat.le_of_ble_eq_true rfl) dX8_set_68 (fun H locs hP hD hS => ?_)
              have hP : va_P G vwCl [(a0, .inr (7, [.ref aN, .ref aM, .ref aP, .ref aW, .ref aT, .int vLe, .int vMo, .int p2]))] H := hP
              have hD : va_D A [(a0, .inr (7, [.ref aN, .ref aM, .ref aP, .ref aW, .ref aT, .int vLe, .int vMo, .int p2]))] := hD
              refine lv_goto (tgt := 104) hx hb dX8_set_71 (by decide) ?_
              refine lv_iload hx hb dX8_set_104 (lv_at hl 0 rfl) ?_
              rw [← hQe]
              exact W.iret (v := vCo) hx hb hr (fun t ht hW => ⟨⟨vCo, (vLe, vMo, p2), rfl, h, by dsimp only; rw [ht]; exact hP⟩, hS.F ht⟩) hS.2.2 dX8_set_106
          · obtain ⟨h, -⟩ := h
            specialize h c69
            refine lv_iconst (v := (-1)) hx hb dX8_set_54 (by decide) ?_
            rw [← hQe]
            exact W.iret (v := (-1)) hx hb hr (fun t ht hW => ⟨⟨(-1), (vLe, vMo, vCo), rfl, h, by dsimp only; rw [ht]; exact hP⟩, hS.F ht⟩) hS.2.2 dX8_set_55

set_option maxHeartbeats 4000000 in
set_option maxRecDepth 100000 in
theorem ct_X8_begin (l : Launch) (G : va_G) (cy : Nat → ClassId) (a0 aM aF aL aX aC aN aR aP aW aT : Nat) (sz : Nat) (vLe : Int32) (vMo : Int32) (vCo : Int32) (vSz : Int32) (vTl : Int32) (vFo : Int32) (vMv : Int32) (fF : Nat → Int32) (fL : Nat → Int32) (fX : Nat → Int32) (fC : Nat → Int32) (vn : Int32) (fN : Nat → Int32) (p1 : Int32) (p2 : Int32) (Q : Int32 → Int32 → Int32 → (Nat → Int32) → Prop) (h : wp_X8_begin vLe vMo vSz vTl vMv fF vn fN p1 p2 Q) : Met l yX8_begin wsX8_begin rmX8_begin (va_Pc [.ref a0, .int p1, .int p2] (wP G cy sz [(a0, .inr (7, [.ref aN, .ref aM, .ref aP, .ref aW, .ref aT, .int vLe, .int vMo, .int vCo])), (aM, .inr (2, [.ref aF, .ref aL, .ref aX, .ref aC, .int vSz, .int vTl, .int vFo, .ref aN, .int vMv])), (aF, .inl (cy 0, 512, .inl fF)), (aL, .inl (cy 0, 512, .inl fL)), (aX, .inl (cy 0, 81, .inl fX)), (aC, .inl (cy 0, 81, .inl fC)), (aN, .inr (3, [.ref aR, .int vn])), (aR, .inl (cy 0, 9, .inl fN))])) (va_Qv (fun (u : Int32 × Int32 × Int32 × (Nat → Int32)) => Q u.1 u.2.1 u.2.2.1 u.2.2.2) (fun (u : Int32 × Int32 × Int32 × (Nat → Int32)) (t : State) => va_P G vwCl [(a0, .inr (7, [.ref aN, .ref aM, .ref aP, .ref aW, .ref aT, .int vLe, .int vMo, .int vCo])), (aM, .inr (2, [.ref aF, .ref aL, .ref aX, .ref aC, .int u.1, .int u.2.1, .int vFo, .ref aN, .int u.2.2.1])), (aF, .inl (cy 0, 512, .inl u.2.2.2)), (aL, .inl (cy 0, 512, .inl fL)), (aX, .inl (cy 0, 81, .inl fX)), (aC, .inl (cy 0, 81, .inl fC)), (aN, .inr (3, [.ref aR, .int vn])), (aR, .inl (cy 0, 9, .inl fN))] t.heap) (va_A [(a0, .inr (7, [.ref aN, .ref aM, .ref aP, .ref aW, .ref aT, .int vLe, .int vMo, .int vCo])), (aM, .inr (2, [.ref aF, .ref aL, .ref aX, .ref aC, .int vSz, .int vTl, .int vFo, .ref aN, .int vMv])), (aF, .inl (cy 0, 512, .inl fF)), (aL, .inl (cy 0, 512, .inl fL)), (aX, .inl (cy 0, 81, .inl fX)), (aC, .inl (cy 0, 81, .inl fC)), (aN, .inr (3, [.ref aR, .int vn])), (aR, .inl (cy 0, 9, .inl fN))] sz)) 0 0 (va_A [(a0, .inr (7, [.ref aN, .ref aM, .ref aP, .ref aW, .ref aT, .int vLe, .int vMo, .int vCo])), (aM, .inr (2, [.ref aF, .ref aL, .ref aX, .ref aC, .int vSz, .int vTl, .int vFo, .ref aN, .int vMv])), (aF, .inl (cy 0, 512, .inl fF)), (aL, .inl (cy 0, 512, .inl fL)), (aX, .inl (cy 0, 81, .inl fX)), (aC, .inl (cy 0, 81, .inl fC)), (aN, .inr (3, [.ref aR, .int vn])), (aR, .inl (cy 0, 9, .inl fN))] sz) := by
  unfold wp_X8_begin at h
  refine Met.ofW (cc := cX8_begin) (maxL := 3) (ret := none) (by decide) rfl ?_
  intro p e s m args below meth c s₁ B hml hv
  obtain ⟨hav, hsz, hP, hK, hD0⟩ := hv
  have hx := B.exec
  have hb := B.bytes
  have hr := B.returns
  have hts := atoms_spec (ws := wsX8_begin) B.pre
  have hown : s.vm.findClass RX8 = some m.cls := findClass_of_methodNamed B.named
  have hlocks := B.notSynchronized
  subst hsz
  have hD := hD0.self (sz := s.heap.size)
  generalize hAe : va_A [(a0, .inr (7, [.ref aN, .ref aM, .ref aP, .ref aW, .ref aT, .int vLe, .int vMo, .int vCo])), (aM, .inr (2, [.ref aF, .ref aL, .ref aX, .ref aC, .int vSz, .int vTl, .int vFo, .ref aN, .int vMv])), (aF, .inl (cy 0, 512, .inl fF)), (aL, .inl (cy 0, 512, .inl fL)), (aX, .inl (cy 0, 81, .inl fX)), (aC, .inl (cy 0, 81, .inl fC)), (aN, .inr (3, [.ref aR, .int vn])), (aR, .inl (cy 0, 9, .inl fN))] s.heap.size = A at hD ⊢
  have hA : ∀ q : Nat, s.heap.size ≤ q → A q := fun q h9 => by rw [← hAe]; exact Or.inr h9
  have hS : va_S A s.heap s.heap [] := va_S.rf
  have hl := lv_entry ([.ref a0, .int p1, .int p2]) (n := 3) (Nat.le_of_ble_eq_true rfl)
  rw [show entryFrame m args 3 = entryFrame m ([.ref a0, .int p1, .int p2] : List Value).toArray 3 by rw [hav], lg_entry_eq]
  generalize (lg_sl ([.ref a0, .int p1, .int p2]) ++ List.replicate (3 - (lg_sl ([.ref a0, .int p1, .int p2])).length) Slot.unset).toArray = ls at hl ⊢
  have hl : lv_has ls 3 [(0, .ref a0), (1, .int p1), (2, .int p2)] := hl
  generalize hQe : MQ below _ _ _ _ _ _ = QM
  have hP : va_P G vwCl [(a0, .inr (7, [.ref aN, .ref aM, .ref aP, .ref aW, .ref aT, .int vLe, .int vMo, .int vCo])), (aM, .inr (2, [.ref aF, .ref aL, .ref aX, .ref aC, .int vSz, .int vTl, .int vFo, .ref aN, .int vMv])), (aF, .inl (cy 0, 512, .inl fF)), (aL, .inl (cy 0, 512, .inl fL)), (aX, .inl (cy 0, 81, .inl fX)), (aC, .inl (cy 0, 81, .inl fC)), (aN, .inr (3, [.ref aR, .int vn])), (aR, .inl (cy 0, 9, .inl fN))] s.heap := hP
  have iwX8 : ∀ w ∈ wsX80, w ∈ wsX8_begin := by decide +kernel
  have fl21 := hts (.fieldLink RX8 21 "SlidTokens" "marks" "LSlidTokens$Marks;") (by decide +kernel)
  have fl52 := hts (.fieldLink RX8 52 "SlidTokens" "least" "I") (by decide +kernel)
  have fl56 := hts (.fieldLink RX8 56 "SlidTokens" "most" "I") (by decide +kernel)
  suffices K9 : ∀ (H : Heap) (locs : List Loc), va_P G vwCl [(a0, .inr (7, [.ref aN, .ref aM, .ref aP, .ref aW, .ref aT, .int vLe, .int vMo, .int vCo])), (aM, .inr (2, [.ref aF, .ref aL, .ref aX, .ref aC, .int vSz, .int vTl, .int vFo, .ref aN, .int vMv])), (aF, .inl (cy 0, 512, .inl fF)), (aL, .inl (cy 0, 512, .inl fL)), (aX, .inl (cy 0, 81, .inl fX)), (aC, .inl (cy 0, 81, .inl fC)), (aN, .inr (3, [.ref aR, .int vn])), (aR, .inl (cy 0, 9, .inl fN))] H → va_D A [(a0, .inr (7, [.ref aN, .ref aM, .ref aP, .ref aW, .ref aT, .int vLe, .int vMo, .int vCo])), (aM, .inr (2, [.ref aF, .ref aL, .ref aX, .ref aC, .int vSz, .int vTl, .int vFo, .ref aN, .int vMv])), (aF, .inl (cy 0, 512, .inl fF)), (aL, .inl (cy 0, 512, .inl fL)), (aX, .inl (cy 0, 81, .inl fX)), (aC, .inl (cy 0, 81, .inl fC)), (aN, .inr (3, [.ref aR, .int vn])), (aR, .inl (cy 0, 9, .inl fN))] → va_S A s.heap H locs → W p l e (headSpec wsX8_begin rmX8_begin).room s m args below meth c H locs 0 0 QM (F0 m 0 ls []) from K9 _ _ hP hD hS
  clear hP hD hS
  intro H locs hP hD hS
  refine lv_iload_n hx hb dX8_begin_0 rfl (lv_at hl 2 rfl) ?_
  refine lv_iconst (v := 2) hx hb dX8_begin_1 (by decide) ?_
  refine lv_icmp_ne (tgt := 25) hx hb dX8_begin_2 (by decide) (fun c1 => ?_) (fun c1 => ?_)
  · obtain ⟨-, h⟩ := h
    specialize h c1
    refine lv_aload_n hx hb dX8_begin_25 rfl (lv_at hl 0 rfl) ?_
    refine va_get (D := G) (ci := 7) (v := .ref aM) (C := RX8) (T := TX8) (N := 8) hx hb hts iwX8 hown hK.1 hP 0 rfl rfl 1 (by decide) fl21 (fun _ h9 => h9) rfl dX8_begin_26 ?_
    refine lv_iload_n hx hb dX8_begin_29 rfl (lv_at hl 1 rfl) ?_
    refine lv_iload_n hx hb dX8_begin_30 rfl (lv_at hl 2 rfl) ?_
    refine lv_iconst (v := 0) hx hb dX8_begin_31 (by decide) ?_
    refine lv_bipush (v := 9) hx hb dX8_begin_32 (by decide) ?_
    obtain ⟨Q2, hw9, h⟩ := h
    have hPc : va_P G vwCl [(aM, .inr (2, [.ref aF, .ref aL, .ref aX, .ref aC, .int vSz, .int vTl, .int vFo, .ref aN, .int vMv])), (aF, .inl (cy 0, 512, .inl fF)), (aL, .inl (cy 0, 512, .inl fL)), (aX, .inl (cy 0, 81, .inl fX)), (aC, .inl (cy 0, 81, .inl fC)), (aN, .inr (3, [.ref aR, .int vn])), (aR, .inl (cy 0, 9, .inl fN))] H := hP.sub [1, 2, 3, 4, 5, 6, 7] rfl
    have hDc : va_D A [(aM, .inr (2, [.ref aF, .ref aL, .ref aX, .ref aC, .int vSz, .int vTl, .int vFo, .ref aN, .int vMv])), (aF, .inl (cy 0, 512, .inl fF)), (aL, .inl (cy 0, 512, .inl fL)), (aX, .inl (cy 0, 81, .inl fX)), (aC, .inl (cy 0, 81, .inl fC)), (aN, .inr (3, [.ref aR, .int vn])), (aR, .inl (cy 0, 9, .inl fN))] := hD.sub [1, 2, 3, 4, 5, 6, 7] (by decide) rfl
    have hFc := va_free (wc := [(aM, .inr (2, [.ref aF, .ref aL, .ref aX, .ref aC, .int vSz, .int vTl, .int vFo, .ref aN, .int vMv])), (aF, .inl (cy 0, 512, .inl fF)), (aL, .inl (cy 0, 512, .inl fL)), (aX, .inl (cy 0, 81, .inl fX)), (aC, .inl (cy 0, 81, .inl fC)), (aN, .inr (3, [.ref aR, .int vn])), (aR, .inl (cy 0, 9, .inl fN))]) hD hS hA [1, 2, 3, 4, 5, 6, 7] rfl
    refine va_callv (va_runV (As := [.int p1, .int p2, .int 0, .int 9]) (rest := []) ⟨hx, hb, hml, hown, hts⟩ (ct_X2_begin l G cy aM aF aL aX aC aN aR H.size vSz vTl vFo vMv fF fL fX fC vn fN p1 p2 0 9 Q2 hw9) (cwV 4 hts gX8_begin_X2_begin rfl rfl rfl (by decide +kernel) ⟨Nat.le_of_ble_eq_true rfl, Nat.le_of_ble_eq_true rfl⟩) (wP_V hK hP (ci := 2) (q0 := 1) rfl rfl hPc hDc) rfl rfl hl.1 rfl (lv_room (Nat.le_of_ble_eq_true rfl)) dX8_begin_34 ⟨Nat.le_of_ble_eq_true rfl, Nat.le_of_ble_eq_true rfl⟩) hS (fun q9 _ h9 => hFc q9 h9) hFc (fun u9 t9 H locs ht9 hvm9 hw9 hB9 hz9 hk9 hS => ?_)
    obtain ⟨z4, z5, z6, f7⟩ := u9
    have hP : va_P G vwCl [(a0, .inr (7, [.ref aN, .ref aM, .ref aP, .ref aW, .ref aT, .int vLe, .int vMo, .int vCo])), (aM, .inr (2, [.ref aF, .ref aL, .ref aX, .ref aC, .int z4, .int z5, .int vFo, .ref aN, .int z6])), (aF, .inl (cy 0, 512, .inl f7)), (aL, .inl (cy 0, 512, .inl fL)), (aX, .inl (cy 0, 81, .inl fX)), (aC, .inl (cy 0, 81, .inl fC)), (aN, .inr (3, [.ref aR, .int vn])), (aR, .inl (cy 0, 9, .inl fN))] H := P_back [1, 2, 3, 4, 5, 6, 7] [0] 8 hP hD rfl rfl rfl rfl (by decide) (by decide) hk9 (by rw [← ht9]; exact hB9)
    have hD : va_D A [(a0, .inr (7, [.ref aN, .ref aM, .ref aP, .ref aW, .ref aT, .int vLe, .int vMo, .int vCo])), (aM, .inr (2, [.ref aF, .ref aL, .ref aX, .ref aC, .int z4, .int z5, .int vFo, .ref aN, .int z6])), (aF, .inl (cy 0, 512, .inl f7)), (aL, .inl (cy 0, 512, .inl fL)), (aX, .inl (cy 0, 81, .inl fX)), (aC, .inl (cy 0, 81, .inl fC)), (aN, .inr (3, [.ref aR, .int vn])), (aR, .inl (cy 0, 9, .inl fN))] := D_same hD rfl
    specialize h z4 z5 z6 f7 hw9
    rw [← hQe]
    exact W.vret hx hb hr (fun t ht hW => ⟨⟨(z4, z5, z6, f7), rfl, h, by dsimp only; rw [ht]; exact hP⟩, hS.F ht⟩) hS.2.2 dX8_begin_37
  · obtain ⟨h, -⟩ := h
    specialize h c1
    refine lv_aload_n hx hb dX8_begin_5 rfl (lv_at hl 0 rfl) ?_
    refine va_get (D := G) (ci := 7) (v := .ref aM) (C := RX8) (T := TX8) (N := 8) hx hb hts iwX8 hown hK.1 hP 0 rfl rfl 1 (by decide) fl21 (fun _ h9 => h9) rfl dX8_begin_6 ?_
    refine lv_iload_n hx hb dX8_begin_9 rfl (lv_at hl 1 rfl) ?_
    refine lv_iload_n hx hb dX8_begin_10 rfl (lv_at hl 2 rfl) ?_
    refine lv_aload_n hx hb dX8_begin_11 rfl (lv_at hl 0 rfl) ?_
    refine va_get (D := G) (ci := 7) (v := .int vLe) (C := RX8) (T := TX8) (N := 8) hx hb hts iwX8 hown hK.1 hP 0 rfl rfl 5 (by decide) fl52 (fun _ h9 => h9) rfl dX8_begin_12 ?_
    refine lv_aload_n hx hb dX8_begin_15 rfl (lv_at hl 0 rfl) ?_
    refine va_get (D := G) (ci := 7) (v := .int vMo) (C := RX8) (T := TX8) (N := 8) hx hb hts iwX8 hown hK.1 hP 0 rfl rfl 6 (by decide) fl56 (fun _ h9 => h9) rfl dX8_begin_16 ?_
    obtain ⟨Q8, hw9, h⟩ := h
    have hPc : va_P G vwCl [(aM, .inr (2, [.ref aF, .ref aL, .ref aX, .ref aC, .int vSz, .int vTl, .int vFo, .ref aN, .int vMv])), (aF, .inl (cy 0, 512, .inl fF)), (aL, .inl (cy 0, 512, .inl fL)), (aX, .inl (cy 0, 81, .inl fX)), (aC, .inl (cy 0, 81, .inl fC)), (aN, .inr (3, [.ref aR, .int vn])), (aR, .inl (cy 0, 9, .inl fN))] H := hP.sub [1, 2, 3, 4, 5, 6, 7] rfl
    have hDc : va_D A [(aM, .inr (2, [.ref aF, .ref aL, .ref aX, .ref aC, .int vSz, .int vTl, .int vFo, .ref aN, .int vMv])), (aF, .inl (cy 0, 512, .inl fF)), (aL, .inl (cy 0, 512, .inl fL)), (aX, .inl (cy 0, 81, .inl fX)), (aC, .inl (cy 0, 81, .inl fC)), (aN, .inr (3, [.ref aR, .int vn])), (aR, .inl (cy 0, 9, .inl fN))] := hD.sub [1, 2, 3, 4, 5, 6, 7] (by decide) rfl
    have hFc := va_free (wc := [(aM, .inr (2, [.ref aF, .ref aL, .ref aX, .ref aC, .int vSz, .int vTl, .int vFo, .ref aN, .int vMv])), (aF, .inl (cy 0, 512, .inl fF)), (aL, .inl (cy 0, 512, .inl fL)), (aX, .inl (cy 0, 81, .inl fX)), (aC, .inl (cy 0, 81, .inl fC)), (aN, .inr (3, [.ref aR, .int vn])), (aR, .inl (cy 0, 9, .inl fN))]) hD hS hA [1, 2, 3, 4, 5, 6, 7] rfl
    refine va_callv (va_runV (As := [.int p1, .int p2, .int vLe, .int vMo]) (rest := []) ⟨hx, hb, hml, hown, hts⟩ (ct_X2_begin l G cy aM aF aL aX aC aN aR H.size vSz vTl vFo vMv fF fL fX fC vn fN p1 p2 vLe vMo Q8 hw9) (cwV 4 hts gX8_begin_X2_begin rfl rfl rfl (by decide +kernel) ⟨Nat.le_of_ble_eq_true rfl, Nat.le_of_ble_eq_true rfl⟩) (wP_V hK hP (ci := 2) (q0 := 1) rfl rfl hPc hDc) rfl rfl hl.1 rfl (lv_room (Nat.le_of_ble_eq_true rfl)) dX8_begin_19 ⟨Nat.le_of_ble_eq_true rfl, Nat.le_of_ble_eq_true rfl⟩) hS (fun q9 _ h9 => hFc q9 h9) hFc (fun u9 t9 H locs ht9 hvm9 hw9 hB9 hz9 hk9 hS => ?_)
    obtain ⟨z10, z11, z12, f13⟩ := u9
    have hP : va_P G vwCl [(a0, .inr (7, [.ref aN, .ref aM, .ref aP, .ref aW, .ref aT, .int vLe, .int vMo, .int vCo])), (aM, .inr (2, [.ref aF, .ref aL, .ref aX, .ref aC, .int z10, .int z11, .int vFo, .ref aN, .int z12])), (aF, .inl (cy 0, 512, .inl f13)), (aL, .inl (cy 0, 512, .inl fL)), (aX, .inl (cy 0, 81, .inl fX)), (aC, .inl (cy 0, 81, .inl fC)), (aN, .inr (3, [.ref aR, .int vn])), (aR, .inl (cy 0, 9, .inl fN))] H := P_back [1, 2, 3, 4, 5, 6, 7] [0] 8 hP hD rfl rfl rfl rfl (by decide) (by decide) hk9 (by rw [← ht9]; exact hB9)
    have hD : va_D A [(a0, .inr (7, [.ref aN, .ref aM, .ref aP, .ref aW, .ref aT, .int vLe, .int vMo, .int vCo])), (aM, .inr (2, [.ref aF, .ref aL, .ref aX, .ref aC, .int z10, .int z11, .int vFo, .ref aN, .int z12])), (aF, .inl (cy 0, 512, .inl f13)), (aL, .inl (cy 0, 512, .inl fL)), (aX, .inl (cy 0, 81, .inl fX)), (aC, .inl (cy 0, 81, .inl fC)), (aN, .inr (3, [.ref aR, .int vn])), (aR, .inl (cy 0, 9, .inl fN))] := D_same hD rfl
    specialize h z10 z11 z12 f13 hw9
    refine lv_goto (tgt := 37) hx hb dX8_begin_22 (by decide) ?_
    rw [← hQe]
    exact W.vret hx hb hr (fun t ht hW => ⟨⟨(z10, z11, z12, f13), rfl, h, by dsimp only; rw [ht]; exact hP⟩, hS.F ht⟩) hS.2.2 dX8_begin_37

set_option maxHeartbeats 4000000 in
set_option maxRecDepth 100000 in
theorem ct_X8_walk (l : Launch) (G : va_G) (cy : Nat → ClassId) (a0 aM aF aL aX aC aN aR aP aW aT : Nat) (sz : Nat) (vLe : Int32) (vMo : Int32) (vCo : Int32) (vSz : Int32) (vTl : Int32) (vFo : Int32) (vMv : Int32) (fF : Nat → Int32) (fL : Nat → Int32) (fX : Nat → Int32) (fC : Nat → Int32) (vn : Int32) (fN : Nat → Int32) (p1 : Int32) (p2 : Int32) (p3 : Int32) (p4 : Int32) (p5 : Int32) (Q : Int32 → Int32 → Int32 → Int32 → Int32 → (Nat → Int32) → (Nat → Int32) → (Nat → Int32) → (Nat → Int32) → Prop) (h : wp_X8_walk vLe vMo vSz vTl vFo vMv fF fL fX fC vn fN p1 p2 p3 p4 p5 Q) : Met l yX8_walk wsX8_walk rmX8_walk (va_Pc [.ref a0, .int p1, .int p2, .int p3, .int p4, .int p5] (wP G cy sz [(a0, .inr (7, [.ref aN, .ref aM, .ref aP, .ref aW, .ref aT, .int vLe, .int vMo, .int vCo])), (aM, .inr (2, [.ref aF, .ref aL, .ref aX, .ref aC, .int vSz, .int vTl, .int vFo, .ref aN, .int vMv])), (aF, .inl (cy 0, 512, .inl fF)), (aL, .inl (cy 0, 512, .inl fL)), (aX, .inl (cy 0, 81, .inl fX)), (aC, .inl (cy 0, 81, .inl fC)), (aN, .inr (3, [.ref aR, .int vn])), (aR, .inl (cy 0, 9, .inl fN))])) (va_Qi (fun (r : Int32) (u : Int32 × Int32 × Int32 × Int32 × (Nat → Int32) × (Nat → Int32) × (Nat → Int32) × (Nat → Int32)) => Q r u.1 u.2.1 u.2.2.1 u.2.2.2.1 u.2.2.2.2.1 u.2.2.2.2.2.1 u.2.2.2.2.2.2.1 u.2.2.2.2.2.2.2) (fun (u : Int32 × Int32 × Int32 × Int32 × (Nat → Int32) × (Nat → Int32) × (Nat → Int32) × (Nat → Int32)) (t : State) => va_P G vwCl [(a0, .inr (7, [.ref aN, .ref aM, .ref aP, .ref aW, .ref aT, .int vLe, .int vMo, .int vCo])), (aM, .inr (2, [.ref aF, .ref aL, .ref aX, .ref aC, .int u.1, .int u.2.1, .int u.2.2.1, .ref aN, .int u.2.2.2.1])), (aF, .inl (cy 0, 512, .inl u.2.2.2.2.1)), (aL, .inl (cy 0, 512, .inl u.2.2.2.2.2.1)), (aX, .inl (cy 0, 81, .inl u.2.2.2.2.2.2.1)), (aC, .inl (cy 0, 81, .inl u.2.2.2.2.2.2.2)), (aN, .inr (3, [.ref aR, .int vn])), (aR, .inl (cy 0, 9, .inl fN))] t.heap) (va_A [(a0, .inr (7, [.ref aN, .ref aM, .ref aP, .ref aW, .ref aT, .int vLe, .int vMo, .int vCo])), (aM, .inr (2, [.ref aF, .ref aL, .ref aX, .ref aC, .int vSz, .int vTl, .int vFo, .ref aN, .int vMv])), (aF, .inl (cy 0, 512, .inl fF)), (aL, .inl (cy 0, 512, .inl fL)), (aX, .inl (cy 0, 81, .inl fX)), (aC, .inl (cy 0, 81, .inl fC)), (aN, .inr (3, [.ref aR, .int vn])), (aR, .inl (cy 0, 9, .inl fN))] sz)) 0 0 (va_A [(a0, .inr (7, [.ref aN, .ref aM, .ref aP, .ref aW, .ref aT, .int vLe, .int vMo, .int vCo])), (aM, .inr (2, [.ref aF, .ref aL, .ref aX, .ref aC, .int vSz, .int vTl, .int vFo, .ref aN, .int vMv])), (aF, .inl (cy 0, 512, .inl fF)), (aL, .inl (cy 0, 512, .inl fL)), (aX, .inl (cy 0, 81, .inl fX)), (aC, .inl (cy 0, 81, .inl fC)), (aN, .inr (3, [.ref aR, .int vn])), (aR, .inl (cy 0, 9, .inl fN))] sz) := by
  unfold wp_X8_walk at h
  refine Met.ofW (cc := cX8_walk) (maxL := 6) (ret := (some .int)) (by decide) rfl ?_
  intro p e s m args below meth c s₁ B hml hv
  obtain ⟨hav, hsz, hP, hK, hD0⟩ := hv
  have hx := B.exec
  have hb := B.bytes
  have hr := B.returns
  have hts := atoms_spec (ws := wsX8_walk) B.pre
  have hown : s.vm.findClass RX8 = some m.cls := findClass_of_methodNamed B.named
  have hlocks := B.notSynchronized
  subst hsz
  have hD := hD0.self (sz := s.heap.size)
  generalize hAe : va_A [(a0, .inr (7, [.ref aN, .ref aM, .ref aP, .ref aW, .ref aT, .int vLe, .int vMo, .int vCo])), (aM, .inr (2, [.ref aF, .ref aL, .ref aX, .ref aC, .int vSz, .int vTl, .int vFo, .ref aN, .int vMv])), (aF, .inl (cy 0, 512, .inl fF)), (aL, .inl (cy 0, 512, .inl fL)), (aX, .inl (cy 0, 81, .inl fX)), (aC, .inl (cy 0, 81, .inl fC)), (aN, .inr (3, [.ref aR, .int vn])), (aR, .inl (cy 0, 9, .inl fN))] s.heap.size = A at hD ⊢
  have hA : ∀ q : Nat, s.heap.size ≤ q → A q := fun q h9 => by rw [← hAe]; exact Or.inr h9
  have hS : va_S A s.heap s.heap [] := va_S.rf
  have hl := lv_entry ([.ref a0, .int p1, .int p2, .int p3, .int p4, .int p5]) (n := 6) (Nat.le_of_ble_eq_true rfl)
  rw [show entryFrame m args 6 = entryFrame m ([.ref a0, .int p1, .int p2, .int p3, .int p4, .int p5] : List Value).toArray 6 by rw [hav], lg_entry_eq]
  generalize (lg_sl ([.ref a0, .int p1, .int p2, .int p3, .int p4, .int p5]) ++ List.replicate (6 - (lg_sl ([.ref a0, .int p1, .int p2, .int p3, .int p4, .int p5])).length) Slot.unset).toArray = ls at hl ⊢
  have hl : lv_has ls 6 [(0, .ref a0), (1, .int p1), (2, .int p2), (3, .int p3), (4, .int p4), (5, .int p5)] := hl
  generalize hQe : MQ below _ _ _ _ _ _ = QM
  have hP : va_P G vwCl [(a0, .inr (7, [.ref aN, .ref aM, .ref aP, .ref aW, .ref aT, .int vLe, .int vMo, .int vCo])), (aM, .inr (2, [.ref aF, .ref aL, .ref aX, .ref aC, .int vSz, .int vTl, .int vFo, .ref aN, .int vMv])), (aF, .inl (cy 0, 512, .inl fF)), (aL, .inl (cy 0, 512, .inl fL)), (aX, .inl (cy 0, 81, .inl fX)), (aC, .inl (cy 0, 81, .inl fC)), (aN, .inr (3, [.ref aR, .int vn])), (aR, .inl (cy 0, 9, .inl fN))] s.heap := hP
  have iwX8 : ∀ w ∈ wsX80, w ∈ wsX8_walk := by decide +kernel
  have fl21 := hts (.fieldLink RX8 21 "SlidTokens" "marks" "LSlidTokens$Marks;") (by decide +kernel)
  suffices K9 : ∀ (H : Heap) (locs : List Loc), va_P G vwCl [(a0, .inr (7, [.ref aN, .ref aM, .ref aP, .ref aW, .ref aT, .int vLe, .int vMo, .int vCo])), (aM, .inr (2, [.ref aF, .ref aL, .ref aX, .ref aC, .int vSz, .int vTl, .int vFo, .ref aN, .int vMv])), (aF, .inl (cy 0, 512, .inl fF)), (aL, .inl (cy 0, 512, .inl fL)), (aX, .inl (cy 0, 81, .inl fX)), (aC, .inl (cy 0, 81, .inl fC)), (aN, .inr (3, [.ref aR, .int vn])), (aR, .inl (cy 0, 9, .inl fN))] H → va_D A [(a0, .inr (7, [.ref aN, .ref aM, .ref aP, .ref aW, .ref aT, .int vLe, .int vMo, .int vCo])), (aM, .inr (2, [.ref aF, .ref aL, .ref aX, .ref aC, .int vSz, .int vTl, .int vFo, .ref aN, .int vMv])), (aF, .inl (cy 0, 512, .inl fF)), (aL, .inl (cy 0, 512, .inl fL)), (aX, .inl (cy 0, 81, .inl fX)), (aC, .inl (cy 0, 81, .inl fC)), (aN, .inr (3, [.ref aR, .int vn])), (aR, .inl (cy 0, 9, .inl fN))] → va_S A s.heap H locs → W p l e (headSpec wsX8_walk rmX8_walk).room s m args below meth c H locs 0 0 QM (F0 m 0 ls []) from K9 _ _ hP hD hS
  clear hP hD hS
  intro H locs hP hD hS
  refine lv_iload_n hx hb dX8_walk_0 rfl (lv_at hl 1 rfl) ?_
  obtain ⟨Q1, hw9, h⟩ := h
  have hPc : va_P G vwCl [] H := P_nil
  refine vp_callSi (va_Run.run (va_runS (As := [.int p1]) (rest := []) ⟨hx, hb, hml, hown, hts⟩ (ct_X8_isKind l G cy p1 Q1 hw9) (va_cwS 1 hts gX8_walk_X8_isKind rfl rfl rfl (by decide +kernel) ⟨Nat.le_of_ble_eq_true rfl, Nat.le_of_ble_eq_true rfl⟩) (rP_S hK hPc) rfl rfl hl.1 rfl (lv_room (Nat.le_of_ble_eq_true rfl)) dX8_walk_1 ⟨Nat.le_of_ble_eq_true rfl, Nat.le_of_ble_eq_true rfl⟩)) (fun r2 er2 => ?_)
  specialize h r2 er2
  refine lv_if_eq (tgt := 24) hx hb dX8_walk_4 (by decide) (fun c3 => ?_) (fun c3 => ?_)
  · obtain ⟨h, -⟩ := h
    specialize h c3
    refine lv_iconst (v := (-1)) hx hb dX8_walk_24 (by decide) ?_
    rw [← hQe]
    exact W.iret (v := (-1)) hx hb hr (fun t ht hW => ⟨⟨(-1), (vSz, vTl, vFo, vMv, fF, fL, fX, fC), rfl, h, by dsimp only; rw [ht]; exact hP⟩, hS.F ht⟩) hS.2.2 dX8_walk_25
  · obtain ⟨-, h⟩ := h
    specialize h c3
    refine lv_iload_n hx hb dX8_walk_7 rfl (lv_at hl 2 rfl) ?_
    obtain ⟨Q4, hw9, h⟩ := h
    have hPc : va_P G vwCl [] H := P_nil
    refine vp_callSi (va_Run.run (va_runS (As := [.int p2]) (rest := []) ⟨hx, hb, hml, hown, hts⟩ (ct_X8_areMoves l G cy p2 Q4 hw9) (va_cwS 1 hts gX8_walk_X8_areMoves rfl rfl rfl (by decide +kernel) ⟨Nat.le_of_ble_eq_true rfl, Nat.le_of_ble_eq_true rfl⟩) (rP_S hK hPc) rfl rfl hl.1 rfl (lv_room (Nat.le_of_ble_eq_true rfl)) dX8_walk_8 ⟨Nat.le_of_ble_eq_true rfl, Nat.le_of_ble_eq_true rfl⟩)) (fun r5 er5 => ?_)
    specialize h r5 er5
    refine lv_if_eq (tgt := 24) hx hb dX8_walk_11 (by decide) (fun c6 => ?_) (fun c6 => ?_)
    · obtain ⟨h, -⟩ := h
      specialize h c6
      refine lv_iconst (v := (-1)) hx hb dX8_walk_24 (by decide) ?_
      rw [← hQe]
      exact W.iret (v := (-1)) hx hb hr (fun t ht hW => ⟨⟨(-1), (vSz, vTl, vFo, vMv, fF, fL, fX, fC), rfl, h, by dsimp only; rw [ht]; exact hP⟩, hS.F ht⟩) hS.2.2 dX8_walk_25
    · obtain ⟨-, h⟩ := h
      specialize h c6
      refine lv_iload hx hb dX8_walk_14 (lv_at hl 5 rfl) ?_
      refine lv_iconst (v := 0) hx hb dX8_walk_16 (by decide) ?_
      refine lv_iconst (v := 2) hx hb dX8_walk_17 (by decide) ?_
      obtain ⟨Q7, hw9, h⟩ := h
      have hPc : va_P G vwCl [] H := P_nil
      refine vp_callSi (va_Run.run (va_runS (As := [.int p5, .int 0, .int 2]) (rest := []) ⟨hx, hb, hml, hown, hts⟩ (ct_X8_isWithin l G cy p5 0 2 Q7 hw9) (va_cwS 3 hts gX8_walk_X8_isWithin rfl rfl rfl (by decide +kernel) ⟨Nat.le_of_ble_eq_true rfl, Nat.le_of_ble_eq_true rfl⟩) (rP_S hK hPc) rfl rfl hl.1 rfl (lv_room (Nat.le_of_ble_eq_true rfl)) dX8_walk_18 ⟨Nat.le_of_ble_eq_true rfl, Nat.le_of_ble_eq_true rfl⟩)) (fun r8 er8 => ?_)
      specialize h r8 er8
      refine lv_if_ne (tgt := 26) hx hb dX8_walk_21 (by decide) (fun c9 => ?_) (fun c9 => ?_)
      · obtain ⟨-, h⟩ := h
        specialize h c9
        refine lv_aload_n hx hb dX8_walk_26 rfl (lv_at hl 0 rfl) ?_
        refine lv_iload_n hx hb dX8_walk_27 rfl (lv_at hl 1 rfl) ?_
        refine lv_iload_n hx hb dX8_walk_28 rfl (lv_at hl 3 rfl) ?_
        obtain ⟨Q10, hw9, h⟩ := h
        have hPc : va_P G vwCl [(a0, .inr (7, [.ref aN, .ref aM, .ref aP, .ref aW, .ref aT, .int vLe, .int vMo, .int vCo])), (aN, .inr (3, [.ref aR, .int vn])), (aR, .inl (cy 0, 9, .inl fN))] H := hP.sub [0, 6, 7] rfl
        refine vp_callSi (va_Run.run (va_runV (As := [.int p1, .int p3]) (rest := []) ⟨hx, hb, hml, hown, hts⟩ (ct_X8_isLawfulSet l G cy a0 aN aR aM aP aW aT vLe vMo vCo vn fN p1 p3 Q10 hw9) (cwV 2 hts gX8_walk_X8_isLawfulSet rfl rfl rfl (by decide +kernel) ⟨Nat.le_of_ble_eq_true rfl, Nat.le_of_ble_eq_true rfl⟩) (rP_V hK hP (ci := 7) (q0 := 0) rfl rfl hPc) rfl rfl hl.1 rfl (lv_room (Nat.le_of_ble_eq_true rfl)) dX8_walk_29 ⟨Nat.le_of_ble_eq_true rfl, Nat.le_of_ble_eq_true rfl⟩)) (fun r11 er11 => ?_)
        specialize h r11 er11
        refine lv_if_eq (tgt := 45) hx hb dX8_walk_32 (by decide) (fun c12 => ?_) (fun c12 => ?_)
        · obtain ⟨h, -⟩ := h
          specialize h c12
          refine lv_iconst (v := (-1)) hx hb dX8_walk_45 (by decide) ?_
          rw [← hQe]
          exact W.iret (v := (-1)) hx hb hr (fun t ht hW => ⟨⟨(-1), (vSz, vTl, vFo, vMv, fF, fL, fX, fC), rfl, h, by dsimp only; rw [ht]; exact hP⟩, hS.F ht⟩) hS.2.2 dX8_walk_46
        · obtain ⟨-, h⟩ := h
          specialize h c12
          refine lv_aload_n hx hb dX8_walk_35 rfl (lv_at hl 0 rfl) ?_
          refine lv_iload_n hx hb dX8_walk_36 rfl (lv_at hl 1 rfl) ?_
          refine lv_iload hx hb dX8_walk_37 (lv_at hl 4 rfl) ?_
          obtain ⟨Q13, hw9, h⟩ := h
          have hPc : va_P G vwCl [(a0, .inr (7, [.ref aN, .ref aM, .ref aP, .ref aW, .ref aT, .int vLe, .int vMo, .int vCo])), (aN, .inr (3, [.ref aR, .int vn])), (aR, .inl (cy 0, 9, .inl fN))] H := hP.sub [0, 6, 7] rfl
          refine vp_callSi (va_Run.run (va_runV (As := [.int p1, .int p4]) (rest := []) ⟨hx, hb, hml, hown, hts⟩ (ct_X8_isLawfulSet l G cy a0 aN aR aM aP aW aT vLe vMo vCo vn fN p1 p4 Q13 hw9) (cwV 2 hts gX8_walk_X8_isLawfulSet rfl rfl rfl (by decide +kernel) ⟨Nat.le_of_ble_eq_true rfl, Nat.le_of_ble_eq_true rfl⟩) (rP_V hK hP (ci := 7) (q0 := 0) rfl rfl hPc) rfl rfl hl.1 rfl (lv_room (Nat.le_of_ble_eq_true rfl)) dX8_walk_39 ⟨Nat.le_of_ble_eq_true rfl, Nat.le_of_ble_eq_true rfl⟩)) (fun r14 er14 => ?_)
          specialize h r14 er14
          refine lv_if_ne (tgt := 47) hx hb dX8_walk_42 (by decide) (fun c15 => ?_) (fun c15 => ?_)
          · obtain ⟨-, h⟩ := h
            specialize h c15
            refine lv_aload_n hx hb dX8_walk_47 rfl (lv_at hl 0 rfl) ?_
            refine lv_iload_n hx hb dX8_walk_48 rfl (lv_at hl 1 rfl) ?_
            refine lv_iload_n hx hb dX8_walk_49 rfl (lv_at hl 2 rfl) ?_
            obtain ⟨Q16, hw9, h⟩ := h
            have hPc : va_P G vwCl [(a0, .inr (7, [.ref aN, .ref aM, .ref aP, .ref aW, .ref aT, .int vLe, .int vMo, .int vCo])), (aM, .inr (2, [.ref aF, .ref aL, .ref aX, .ref aC, .int vSz, .int vTl, .int vFo, .ref aN, .int vMv])), (aF, .inl (cy 0, 512, .inl fF)), (aL, .inl (cy 0, 512, .inl fL)), (aX, .inl (cy 0, 81, .inl fX)), (aC, .inl (cy 0, 81, .inl fC)), (aN, .inr (3, [.ref aR, .int vn])), (aR, .inl (cy 0, 9, .inl fN))] H := hP.sub [0, 1, 2, 3, 4, 5, 6, 7] rfl
            have hDc : va_D A [(a0, .inr (7, [.ref aN, .ref aM, .ref aP, .ref aW, .ref aT, .int vLe, .int vMo, .int vCo])), (aM, .inr (2, [.ref aF, .ref aL, .ref aX, .ref aC, .int vSz, .int vTl, .int vFo, .ref aN, .int vMv])), (aF, .inl (cy 0, 512, .inl fF)), (aL, .inl (cy 0, 512, .inl fL)), (aX, .inl (cy 0, 81, .inl fX)), (aC, .inl (cy 0, 81, .inl fC)), (aN, .inr (3, [.ref aR, .int vn])), (aR, .inl (cy 0, 9, .inl fN))] := hD.sub [0, 1, 2, 3, 4, 5, 6, 7] (by decide) rfl
            have hFc := va_free (wc := [(a0, .inr (7, [.ref aN, .ref aM, .ref aP, .ref aW, .ref aT, .int vLe, .int vMo, .int vCo])), (aM, .inr (2, [.ref aF, .ref aL, .ref aX, .ref aC, .int vSz, .int vTl, .int vFo, .ref aN, .int vMv])), (aF, .inl (cy 0, 512, .inl fF)), (aL, .inl (cy 0, 512, .inl fL)), (aX, .inl (cy 0, 81, .inl fX)), (aC, .inl (cy 0, 81, .inl fC)), (aN, .inr (3, [.ref aR, .int vn])), (aR, .inl (cy 0, 9, .inl fN))]) hD hS hA [0, 1, 2, 3, 4, 5, 6, 7] rfl
            refine va_callv (va_runV (As := [.int p1, .int p2]) (rest := []) ⟨hx, hb, hml, hown, hts⟩ (ct_X8_begin l G cy a0 aM aF aL aX aC aN aR aP aW aT H.size vLe vMo vCo vSz vTl vFo vMv fF fL fX fC vn fN p1 p2 Q16 hw9) (cwV 2 hts gX8_walk_X8_begin rfl rfl rfl (by decide +kernel) ⟨Nat.le_of_ble_eq_true rfl, Nat.le_of_ble_eq_true rfl⟩) (wP_V hK hP (ci := 7) (q0 := 0) rfl rfl hPc hDc) rfl rfl hl.1 rfl (lv_room (Nat.le_of_ble_eq_true rfl)) dX8_walk_50 ⟨Nat.le_of_ble_eq_true rfl, Nat.le_of_ble_eq_true rfl⟩) hS (fun q9 _ h9 => hFc q9 h9) hFc (fun u9 t9 H locs ht9 hvm9 hw9 hB9 hz9 hk9 hS => ?_)
            obtain ⟨z18, z19, z20, f21⟩ := u9
            have hP : va_P G vwCl [(a0, .inr (7, [.ref aN, .ref aM, .ref aP, .ref aW, .ref aT, .int vLe, .int vMo, .int vCo])), (aM, .inr (2, [.ref aF, .ref aL, .ref aX, .ref aC, .int z18, .int z19, .int vFo, .ref aN, .int z20])), (aF, .inl (cy 0, 512, .inl f21)), (aL, .inl (cy 0, 512, .inl fL)), (aX, .inl (cy 0, 81, .inl fX)), (aC, .inl (cy 0, 81, .inl fC)), (aN, .inr (3, [.ref aR, .int vn])), (aR, .inl (cy 0, 9, .inl fN))] H := P_back [0, 1, 2, 3, 4, 5, 6, 7] [] 8 hP hD rfl rfl rfl rfl (by decide) (by decide) hk9 (by rw [← ht9]; exact hB9)
            have hD : va_D A [(a0, .inr (7, [.ref aN, .ref aM, .ref aP, .ref aW, .ref aT, .int vLe, .int vMo, .int vCo])), (aM, .inr (2, [.ref aF, .ref aL, .ref aX, .ref aC, .int z18, .int z19, .int vFo, .ref aN, .int z20])), (aF, .inl (cy 0, 512, .inl f21)), (aL, .inl (cy 0, 512, .inl fL)), (aX, .inl (cy 0, 81, .inl fX)), (aC, .inl (cy 0, 81, .inl fC)), (aN, .inr (3, [.ref aR, .int vn])), (aR, .inl (cy 0, 9, .inl fN))] := D_same hD rfl
            specialize h z18 z19 z20 f21 hw9
            refine lv_iload hx hb dX8_walk_53 (lv_at hl 5 rfl) ?_
            by_cases c22 : p5 = 0
            · obtain ⟨h, -⟩ := h
              specialize h c22
              refine lv_lookup (off := 25) (tgt := 80) hx hb dX8_walk_55 (by decide) (by rw [c22]; decide) (by decide) ?_
              refine lv_aload_n hx hb dX8_walk_80 rfl (lv_at hl 0 rfl) ?_
              refine va_get (D := G) (ci := 7) (v := .ref aM) (C := RX8) (T := TX8) (N := 8) hx hb hts iwX8 hown hK.1 hP 0 rfl rfl 1 (by decide) fl21 (fun _ h9 => h9) rfl dX8_walk_81 ?_
              refine lv_iload_n hx hb dX8_walk_84 rfl (lv_at hl 3 rfl) ?_
              refine lv_iload hx hb dX8_walk_85 (lv_at hl 4 rfl) ?_
              obtain ⟨Q23, hw9, h⟩ := h
              have hPc : va_P G vwCl [(aM, .inr (2, [.ref aF, .ref aL, .ref aX, .ref aC, .int z18, .int z19, .int vFo, .ref aN, .int z20])), (aF, .inl (cy 0, 512, .inl f21)), (aL, .inl (cy 0, 512, .inl fL)), (aX, .inl (cy 0, 81, .inl fX)), (aC, .inl (cy 0, 81, .inl fC)), (aN, .inr (3, [.ref aR, .int vn])), (aR, .inl (cy 0, 9, .inl fN))] H := hP.sub [1, 2, 3, 4, 5, 6, 7] rfl
              have hDc : va_D A [(aM, .inr (2, [.ref aF, .ref aL, .ref aX, .ref aC, .int z18, .int z19, .int vFo, .ref aN, .int z20])), (aF, .inl (cy 0, 512, .inl f21)), (aL, .inl (cy 0, 512, .inl fL)), (aX, .inl (cy 0, 81, .inl fX)), (aC, .inl (cy 0, 81, .inl fC)), (aN, .inr (3, [.ref aR, .int vn])), (aR, .inl (cy 0, 9, .inl fN))] := hD.sub [1, 2, 3, 4, 5, 6, 7] (by decide) rfl
              have hFc := va_free (wc := [(aM, .inr (2, [.ref aF, .ref aL, .ref aX, .ref aC, .int z18, .int z19, .int vFo, .ref aN, .int z20])), (aF, .inl (cy 0, 512, .inl f21)), (aL, .inl (cy 0, 512, .inl fL)), (aX, .inl (cy 0, 81, .inl fX)), (aC, .inl (cy 0, 81, .inl fC)), (aN, .inr (3, [.ref aR, .int vn])), (aR, .inl (cy 0, 9, .inl fN))]) hD hS hA [1, 2, 3, 4, 5, 6, 7] rfl
              refine va_calli (va_runU (As := [.int p3, .int p4]) (rest := []) ⟨hx, hb, hml, hown, hts⟩ (ct_X5_fewest_M l G cy aM aF aL aX aC aN aR H.size z18 z19 vFo z20 f21 fL fX fC vn fN p3 p4 Q23 hw9) (va_cwU 2 hts gX8_walk_X5_fewest_u128X2 rfl rfl rfl rfl (by decide +kernel) ⟨Nat.le_of_ble_eq_true rfl, Nat.le_of_ble_eq_true rfl⟩) (wP_V hK hP (ci := 2) (q0 := 1) rfl rfl hPc hDc) rfl rfl hl.1 rfl (lv_room (Nat.le_of_ble_eq_true rfl)) dX8_walk_87 ⟨Nat.le_of_ble_eq_true rfl, Nat.le_of_ble_eq_true rfl⟩) hS (fun q9 _ h9 => hFc q9 h9) hFc (fun r24 u9 t9 H locs ht9 hvm9 hw9 hB9 hz9 hk9 hS => ?_)
              obtain ⟨z25, z26, f27, f28, f29, f30⟩ := u9
              have hP : va_P G vwCl [(a0, .inr (7, [.ref aN, .ref aM, .ref aP, .ref aW, .ref aT, .int vLe, .int vMo, .int vCo])), (aM, .inr (2, [.ref aF, .ref aL, .ref aX, .ref aC, .int z18, .int z25, .int z26, .ref aN, .int z20])), (aF, .inl (cy 0, 512, .inl f27)), (aL, .inl (cy 0, 512, .inl f28)), (aX, .inl (cy 0, 81, .inl f29)), (aC, .inl (cy 0, 81, .inl f30)), (aN, .inr (3, [.ref aR, .int vn])), (aR, .inl (cy 0, 9, .inl fN))] H := P_back [1, 2, 3, 4, 5, 6, 7] [0] 8 hP hD rfl rfl rfl rfl (by decide) (by decide) hk9 (by rw [← ht9]; exact hB9)
              have hD : va_D A [(a0, .inr (7, [.ref aN, .ref aM, .ref aP, .ref aW, .ref aT, .int vLe, .int vMo, .int vCo])), (aM, .inr (2, [.ref aF, .ref aL, .ref aX, .ref aC, .int z18, .int z25, .int z26, .ref aN, .int z20])), (aF, .inl (cy 0, 512, .inl f27)), (aL, .inl (cy 0, 512, .inl f28)), (aX, .inl (cy 0, 81, .inl f29)), (aC, .inl (cy 0, 81, .inl f30)), (aN, .inr (3, [.ref aR, .int vn])), (aR, .inl (cy 0, 9, .inl fN))] := D_same hD rfl
              specialize h r24 z25 z26 f27 f28 f29 f30 hw9
              rw [← hQe]
              exact W.iret (v := r24) hx hb hr (fun t ht hW => ⟨⟨r24, (z18, z25, z26, z20, f27, f28, f29, f30), rfl, h, by dsimp only; rw [ht]; exact hP⟩, hS.F ht⟩) hS.2.2 dX8_walk_90
            · obtain ⟨-, h⟩ := h
              by_cases c31 : p5 = 1
              · obtain ⟨h, -⟩ := h
                specialize h c31
                refine lv_lookup (off := 36) (tgt := 91) hx hb dX8_walk_55 (by decide) (by rw [c31]; decide) (by decide) ?_
                refine lv_aload_n hx hb dX8_walk_91 rfl (lv_at hl 0 rfl) ?_
                refine va_get (D := G) (ci := 7) (v := .ref aM) (C := RX8) (T := TX8) (N := 8) hx hb hts iwX8 hown hK.1 hP 0 rfl rfl 1 (by decide) fl21 (fun _ h9 => h9) rfl dX8_walk_92 ?_
                refine lv_iload_n hx hb dX8_walk_95 rfl (lv_at hl 3 rfl) ?_
                refine lv_iload hx hb dX8_walk_96 (lv_at hl 4 rfl) ?_
                obtain ⟨Q32, hw9, h⟩ := h
                have hPc : va_P G vwCl [(aM, .inr (2, [.ref aF, .ref aL, .ref aX, .ref aC, .int z18, .int z19, .int vFo, .ref aN, .int z20])), (aF, .inl (cy 0, 512, .inl f21)), (aL, .inl (cy 0, 512, .inl fL)), (aX, .inl (cy 0, 81, .inl fX)), (aC, .inl (cy 0, 81, .inl fC)), (aN, .inr (3, [.ref aR, .int vn])), (aR, .inl (cy 0, 9, .inl fN))] H := hP.sub [1, 2, 3, 4, 5, 6, 7] rfl
                have hDc : va_D A [(aM, .inr (2, [.ref aF, .ref aL, .ref aX, .ref aC, .int z18, .int z19, .int vFo, .ref aN, .int z20])), (aF, .inl (cy 0, 512, .inl f21)), (aL, .inl (cy 0, 512, .inl fL)), (aX, .inl (cy 0, 81, .inl fX)), (aC, .inl (cy 0, 81, .inl fC)), (aN, .inr (3, [.ref aR, .int vn])), (aR, .inl (cy 0, 9, .inl fN))] := hD.sub [1, 2, 3, 4, 5, 6, 7] (by decide) rfl
                have hFc := va_free (wc := [(aM, .inr (2, [.ref aF, .ref aL, .ref aX, .ref aC, .int z18, .int z19, .int vFo, .ref aN, .int z20])), (aF, .inl (cy 0, 512, .inl f21)), (aL, .inl (cy 0, 512, .inl fL)), (aX, .inl (cy 0, 81, .inl fX)), (aC, .inl (cy 0, 81, .inl fC)), (aN, .inr (3, [.ref aR, .int vn])), (aR, .inl (cy 0, 9, .inl fN))]) hD hS hA [1, 2, 3, 4, 5, 6, 7] rfl
                refine va_calli (va_runV (As := [.int p3, .int p4]) (rest := []) ⟨hx, hb, hml, hown, hts⟩ (ct_X2_following l G cy aM aF aL aX aC aN aR H.size z18 z19 vFo z20 f21 fL fX fC vn fN p3 p4 Q32 hw9) (cwV 2 hts gX8_walk_X2_following rfl rfl rfl (by decide +kernel) ⟨Nat.le_of_ble_eq_true rfl, Nat.le_of_ble_eq_true rfl⟩) (wP_V hK hP (ci := 2) (q0 := 1) rfl rfl hPc hDc) rfl rfl hl.1 rfl (lv_room (Nat.le_of_ble_eq_true rfl)) dX8_walk_98 ⟨Nat.le_of_ble_eq_true rfl, Nat.le_of_ble_eq_true rfl⟩) hS (fun q9 _ h9 => hFc q9 h9) hFc (fun r33 u9 t9 H locs ht9 hvm9 hw9 hB9 hz9 hk9 hS => ?_)
                obtain ⟨z34, z35, f36, f37, f38, f39⟩ := u9
                have hP : va_P G vwCl [(a0, .inr (7, [.ref aN, .ref aM, .ref aP, .ref aW, .ref aT, .int vLe, .int vMo, .int vCo])), (aM, .inr (2, [.ref aF, .ref aL, .ref aX, .ref aC, .int z18, .int z34, .int z35, .ref aN, .int z20])), (aF, .inl (cy 0, 512, .inl f36)), (aL, .inl (cy 0, 512, .inl f37)), (aX, .inl (cy 0, 81, .inl f38)), (aC, .inl (cy 0, 81, .inl f39)), (aN, .inr (3, [.ref aR, .int vn])), (aR, .inl (cy 0, 9, .inl fN))] H := P_back [1, 2, 3, 4, 5, 6, 7] [0] 8 hP hD rfl rfl rfl rfl (by decide) (by decide) hk9 (by rw [← ht9]; exact hB9)
                have hD : va_D A [(a0, .inr (7, [.ref aN, .ref aM, .ref aP, .ref aW, .ref aT, .int vLe, .int vMo, .int vCo])), (aM, .inr (2, [.ref aF, .ref aL, .ref aX, .ref aC, .int z18, .int z34, .int z35, .ref aN, .int z20])), (aF, .inl (cy 0, 512, .inl f36)), (aL, .inl (cy 0, 512, .inl f37)), (aX, .inl (cy 0, 81, .inl f38)), (aC, .inl (cy 0, 81, .inl f39)), (aN, .inr (3, [.ref aR, .int vn])), (aR, .inl (cy 0, 9, .inl fN))] := D_same hD rfl
                specialize h r33 z34 z35 f36 f37 f38 f39 hw9
                rw [← hQe]
                exact W.iret (v := r33) hx hb hr (fun t ht hW => ⟨⟨r33, (z18, z34, z35, z20, f36, f37, f38, f39), rfl, h, by dsimp only; rw [ht]; exact hP⟩, hS.F ht⟩) hS.2.2 dX8_walk_101
              · obtain ⟨-, h⟩ := h
                specialize h c22 c31
                refine lv_lookup (off := 47) (tgt := 102) hx hb dX8_walk_55 (by decide) (by rw [lv_osw (k := 0) c22 (by decide)]; rw [lv_osw (k := 1) c31 (by decide)]; rfl) (by decide) ?_
                refine lv_aload_n hx hb dX8_walk_102 rfl (lv_at hl 0 rfl) ?_
                refine va_get (D := G) (ci := 7) (v := .ref aM) (C := RX8) (T := TX8) (N := 8) hx hb hts iwX8 hown hK.1 hP 0 rfl rfl 1 (by decide) fl21 (fun _ h9 => h9) rfl dX8_walk_103 ?_
                refine lv_iload_n hx hb dX8_walk_106 rfl (lv_at hl 3 rfl) ?_
                refine lv_iload hx hb dX8_walk_107 (lv_at hl 4 rfl) ?_
                obtain ⟨Q40, hw9, h⟩ := h
                have hPc : va_P G vwCl [(aM, .inr (2, [.ref aF, .ref aL, .ref aX, .ref aC, .int z18, .int z19, .int vFo, .ref aN, .int z20])), (aF, .inl (cy 0, 512, .inl f21)), (aL, .inl (cy 0, 512, .inl fL)), (aX, .inl (cy 0, 81, .inl fX)), (aC, .inl (cy 0, 81, .inl fC)), (aN, .inr (3, [.ref aR, .int vn])), (aR, .inl (cy 0, 9, .inl fN))] H := hP.sub [1, 2, 3, 4, 5, 6, 7] rfl
                have hDc : va_D A [(aM, .inr (2, [.ref aF, .ref aL, .ref aX, .ref aC, .int z18, .int z19, .int vFo, .ref aN, .int z20])), (aF, .inl (cy 0, 512, .inl f21)), (aL, .inl (cy 0, 512, .inl fL)), (aX, .inl (cy 0, 81, .inl fX)), (aC, .inl (cy 0, 81, .inl fC)), (aN, .inr (3, [.ref aR, .int vn])), (aR, .inl (cy 0, 9, .inl fN))] := hD.sub [1, 2, 3, 4, 5, 6, 7] (by decide) rfl
                have hFc := va_free (wc := [(aM, .inr (2, [.ref aF, .ref aL, .ref aX, .ref aC, .int z18, .int z19, .int vFo, .ref aN, .int z20])), (aF, .inl (cy 0, 512, .inl f21)), (aL, .inl (cy 0, 512, .inl fL)), (aX, .inl (cy 0, 81, .inl fX)), (aC, .inl (cy 0, 81, .inl fC)), (aN, .inr (3, [.ref aR, .int vn])), (aR, .inl (cy 0, 9, .inl fN))]) hD hS hA [1, 2, 3, 4, 5, 6, 7] rfl
                refine va_calli (va_runV (As := [.int p3, .int p4]) (rest := []) ⟨hx, hb, hml, hown, hts⟩ (ct_X2_lightest l G cy aM aF aL aX aC aN aR H.size z18 z19 vFo z20 f21 fL fX fC vn fN p3 p4 Q40 hw9) (cwV 2 hts gX8_walk_X2_lightest rfl rfl rfl (by decide +kernel) ⟨Nat.le_of_ble_eq_true rfl, Nat.le_of_ble_eq_true rfl⟩) (wP_V hK hP (ci := 2) (q0 := 1) rfl rfl hPc hDc) rfl rfl hl.1 rfl (lv_room (Nat.le_of_ble_eq_true rfl)) dX8_walk_109 ⟨Nat.le_of_ble_eq_true rfl, Nat.le_of_ble_eq_true rfl⟩) hS (fun q9 _ h9 => hFc q9 h9) hFc (fun r41 u9 t9 H locs ht9 hvm9 hw9 hB9 hz9 hk9 hS => ?_)
                obtain ⟨z42, z43, f44, f45, f46, f47⟩ := u9
                have hP : va_P G vwCl [(a0, .inr (7, [.ref aN, .ref aM, .ref aP, .ref aW, .ref aT, .int vLe, .int vMo, .int vCo])), (aM, .inr (2, [.ref aF, .ref aL, .ref aX, .ref aC, .int z18, .int z42, .int z43, .ref aN, .int z20])), (aF, .inl (cy 0, 512, .inl f44)), (aL, .inl (cy 0, 512, .inl f45)), (aX, .inl (cy 0, 81, .inl f46)), (aC, .inl (cy 0, 81, .inl f47)), (aN, .inr (3, [.ref aR, .int vn])), (aR, .inl (cy 0, 9, .inl fN))] H := P_back [1, 2, 3, 4, 5, 6, 7] [0] 8 hP hD rfl rfl rfl rfl (by decide) (by decide) hk9 (by rw [← ht9]; exact hB9)
                have hD : va_D A [(a0, .inr (7, [.ref aN, .ref aM, .ref aP, .ref aW, .ref aT, .int vLe, .int vMo, .int vCo])), (aM, .inr (2, [.ref aF, .ref aL, .ref aX, .ref aC, .int z18, .int z42, .int z43, .ref aN, .int z20])), (aF, .inl (cy 0, 512, .inl f44)), (aL, .inl (cy 0, 512, .inl f45)), (aX, .inl (cy 0, 81, .inl f46)), (aC, .inl (cy 0, 81, .inl f47)), (aN, .inr (3, [.ref aR, .int vn])), (aR, .inl (cy 0, 9, .inl fN))] := D_same hD rfl
                specialize h r41 z42 z43 f44 f45 f46 f47 hw9
                rw [← hQe]
                exact W.iret (v := r41) hx hb hr (fun t ht hW => ⟨⟨r41, (z18, z42, z43, z20, f44, f45, f46, f47), rfl, h, by dsimp only; rw [ht]; exact hP⟩, hS.F ht⟩) hS.2.2 dX8_walk_112
          · obtain ⟨h, -⟩ := h
            specialize h c15
            refine lv_iconst (v := (-1)) hx hb dX8_walk_45 (by decide) ?_
            rw [← hQe]
            exact W.iret (v := (-1)) hx hb hr (fun t ht hW => ⟨⟨(-1), (vSz, vTl, vFo, vMv, fF, fL, fX, fC), rfl, h, by dsimp only; rw [ht]; exact hP⟩, hS.F ht⟩) hS.2.2 dX8_walk_46
      · obtain ⟨h, -⟩ := h
        specialize h c9
        refine lv_iconst (v := (-1)) hx hb dX8_walk_24 (by decide) ?_
        rw [← hQe]
        exact W.iret (v := (-1)) hx hb hr (fun t ht hW => ⟨⟨(-1), (vSz, vTl, vFo, vMv, fF, fL, fX, fC), rfl, h, by dsimp only; rw [ht]; exact hP⟩, hS.F ht⟩) hS.2.2 dX8_walk_25

set_option maxHeartbeats 4000000 in
set_option maxRecDepth 100000 in
theorem ct_X8_reach (l : Launch) (G : va_G) (cy : Nat → ClassId) (a0 aM aF aL aX aC aN aR aP aW aT : Nat) (sz : Nat) (vLe : Int32) (vMo : Int32) (vCo : Int32) (vSz : Int32) (vTl : Int32) (vFo : Int32) (vMv : Int32) (fF : Nat → Int32) (fL : Nat → Int32) (fX : Nat → Int32) (fC : Nat → Int32) (vn : Int32) (fN : Nat → Int32) (p1 : Int32) (p2 : Int32) (p3 : Int32) (p4 : Int32) (Q : Int32 → Int32 → Int32 → Int32 → Int32 → (Nat → Int32) → (Nat → Int32) → (Nat → Int32) → (Nat → Int32) → Prop) (h : wp_X8_reach vLe vMo vSz vTl vFo vMv fF fL fX fC vn fN p1 p2 p3 p4 Q) : Met l yX8_reach wsX8_reach rmX8_reach (va_Pc [.ref a0, .int p1, .int p2, .int p3, .int p4] (wP G cy sz [(a0, .inr (7, [.ref aN, .ref aM, .ref aP, .ref aW, .ref aT, .int vLe, .int vMo, .int vCo])), (aM, .inr (2, [.ref aF, .ref aL, .ref aX, .ref aC, .int vSz, .int vTl, .int vFo, .ref aN, .int vMv])), (aF, .inl (cy 0, 512, .inl fF)), (aL, .inl (cy 0, 512, .inl fL)), (aX, .inl (cy 0, 81, .inl fX)), (aC, .inl (cy 0, 81, .inl fC)), (aN, .inr (3, [.ref aR, .int vn])), (aR, .inl (cy 0, 9, .inl fN))])) (va_Qi (fun (r : Int32) (u : Int32 × Int32 × Int32 × Int32 × (Nat → Int32) × (Nat → Int32) × (Nat → Int32) × (Nat → Int32)) => Q r u.1 u.2.1 u.2.2.1 u.2.2.2.1 u.2.2.2.2.1 u.2.2.2.2.2.1 u.2.2.2.2.2.2.1 u.2.2.2.2.2.2.2) (fun (u : Int32 × Int32 × Int32 × Int32 × (Nat → Int32) × (Nat → Int32) × (Nat → Int32) × (Nat → Int32)) (t : State) => va_P G vwCl [(a0, .inr (7, [.ref aN, .ref aM, .ref aP, .ref aW, .ref aT, .int vLe, .int vMo, .int vCo])), (aM, .inr (2, [.ref aF, .ref aL, .ref aX, .ref aC, .int u.1, .int u.2.1, .int u.2.2.1, .ref aN, .int u.2.2.2.1])), (aF, .inl (cy 0, 512, .inl u.2.2.2.2.1)), (aL, .inl (cy 0, 512, .inl u.2.2.2.2.2.1)), (aX, .inl (cy 0, 81, .inl u.2.2.2.2.2.2.1)), (aC, .inl (cy 0, 81, .inl u.2.2.2.2.2.2.2)), (aN, .inr (3, [.ref aR, .int vn])), (aR, .inl (cy 0, 9, .inl fN))] t.heap) (va_A [(a0, .inr (7, [.ref aN, .ref aM, .ref aP, .ref aW, .ref aT, .int vLe, .int vMo, .int vCo])), (aM, .inr (2, [.ref aF, .ref aL, .ref aX, .ref aC, .int vSz, .int vTl, .int vFo, .ref aN, .int vMv])), (aF, .inl (cy 0, 512, .inl fF)), (aL, .inl (cy 0, 512, .inl fL)), (aX, .inl (cy 0, 81, .inl fX)), (aC, .inl (cy 0, 81, .inl fC)), (aN, .inr (3, [.ref aR, .int vn])), (aR, .inl (cy 0, 9, .inl fN))] sz)) 0 0 (va_A [(a0, .inr (7, [.ref aN, .ref aM, .ref aP, .ref aW, .ref aT, .int vLe, .int vMo, .int vCo])), (aM, .inr (2, [.ref aF, .ref aL, .ref aX, .ref aC, .int vSz, .int vTl, .int vFo, .ref aN, .int vMv])), (aF, .inl (cy 0, 512, .inl fF)), (aL, .inl (cy 0, 512, .inl fL)), (aX, .inl (cy 0, 81, .inl fX)), (aC, .inl (cy 0, 81, .inl fC)), (aN, .inr (3, [.ref aR, .int vn])), (aR, .inl (cy 0, 9, .inl fN))] sz) := by
  unfold wp_X8_reach at h
  refine Met.ofW (cc := cX8_reach) (maxL := 5) (ret := (some .int)) (by decide) rfl ?_
  intro p e s m args below meth c s₁ B hml hv
  obtain ⟨hav, hsz, hP, hK, hD0⟩ := hv
  have hx := B.exec
  have hb := B.bytes
  have hr := B.returns
  have hts := atoms_spec (ws := wsX8_reach) B.pre
  have hown : s.vm.findClass RX8 = some m.cls := findClass_of_methodNamed B.named
  have hlocks := B.notSynchronized
  subst hsz
  have hD := hD0.self (sz := s.heap.size)
  generalize hAe : va_A [(a0, .inr (7, [.ref aN, .ref aM, .ref aP, .ref aW, .ref aT, .int vLe, .int vMo, .int vCo])), (aM, .inr (2, [.ref aF, .ref aL, .ref aX, .ref aC, .int vSz, .int vTl, .int vFo, .ref aN, .int vMv])), (aF, .inl (cy 0, 512, .inl fF)), (aL, .inl (cy 0, 512, .inl fL)), (aX, .inl (cy 0, 81, .inl fX)), (aC, .inl (cy 0, 81, .inl fC)), (aN, .inr (3, [.ref aR, .int vn])), (aR, .inl (cy 0, 9, .inl fN))] s.heap.size = A at hD ⊢
  have hA : ∀ q : Nat, s.heap.size ≤ q → A q := fun q h9 => by rw [← hAe]; exact Or.inr h9
  have hS : va_S A s.heap s.heap [] := va_S.rf
  have hl := lv_entry ([.ref a0, .int p1, .int p2, .int p3, .int p4]) (n := 5) (Nat.le_of_ble_eq_true rfl)
  rw [show entryFrame m args 5 = entryFrame m ([.ref a0, .int p1, .int p2, .int p3, .int p4] : List Value).toArray 5 by rw [hav], lg_entry_eq]
  generalize (lg_sl ([.ref a0, .int p1, .int p2, .int p3, .int p4]) ++ List.replicate (5 - (lg_sl ([.ref a0, .int p1, .int p2, .int p3, .int p4])).length) Slot.unset).toArray = ls at hl ⊢
  have hl : lv_has ls 5 [(0, .ref a0), (1, .int p1), (2, .int p2), (3, .int p3), (4, .int p4)] := hl
  generalize hQe : MQ below _ _ _ _ _ _ = QM
  have hP : va_P G vwCl [(a0, .inr (7, [.ref aN, .ref aM, .ref aP, .ref aW, .ref aT, .int vLe, .int vMo, .int vCo])), (aM, .inr (2, [.ref aF, .ref aL, .ref aX, .ref aC, .int vSz, .int vTl, .int vFo, .ref aN, .int vMv])), (aF, .inl (cy 0, 512, .inl fF)), (aL, .inl (cy 0, 512, .inl fL)), (aX, .inl (cy 0, 81, .inl fX)), (aC, .inl (cy 0, 81, .inl fC)), (aN, .inr (3, [.ref aR, .int vn])), (aR, .inl (cy 0, 9, .inl fN))] s.heap := hP
  have iwX8 : ∀ w ∈ wsX80, w ∈ wsX8_reach := by decide +kernel
  have fl21 := hts (.fieldLink RX8 21 "SlidTokens" "marks" "LSlidTokens$Marks;") (by decide +kernel)
  have iwX2 : ∀ w ∈ wsX20, w ∈ wsX8_reach := by decide +kernel
  have fl141 := hts (.fieldLink RX8 141 "SlidTokens$Marks" "tail" "I") (by decide +kernel)
  have sf141 := hts (.sameField "SlidTokens$Marks" "SlidTokens$Search" "tail" "I") (by decide +kernel)
  suffices K9 : ∀ (H : Heap) (locs : List Loc), va_P G vwCl [(a0, .inr (7, [.ref aN, .ref aM, .ref aP, .ref aW, .ref aT, .int vLe, .int vMo, .int vCo])), (aM, .inr (2, [.ref aF, .ref aL, .ref aX, .ref aC, .int vSz, .int vTl, .int vFo, .ref aN, .int vMv])), (aF, .inl (cy 0, 512, .inl fF)), (aL, .inl (cy 0, 512, .inl fL)), (aX, .inl (cy 0, 81, .inl fX)), (aC, .inl (cy 0, 81, .inl fC)), (aN, .inr (3, [.ref aR, .int vn])), (aR, .inl (cy 0, 9, .inl fN))] H → va_D A [(a0, .inr (7, [.ref aN, .ref aM, .ref aP, .ref aW, .ref aT, .int vLe, .int vMo, .int vCo])), (aM, .inr (2, [.ref aF, .ref aL, .ref aX, .ref aC, .int vSz, .int vTl, .int vFo, .ref aN, .int vMv])), (aF, .inl (cy 0, 512, .inl fF)), (aL, .inl (cy 0, 512, .inl fL)), (aX, .inl (cy 0, 81, .inl fX)), (aC, .inl (cy 0, 81, .inl fC)), (aN, .inr (3, [.ref aR, .int vn])), (aR, .inl (cy 0, 9, .inl fN))] → va_S A s.heap H locs → W p l e (headSpec wsX8_reach rmX8_reach).room s m args below meth c H locs 0 0 QM (F0 m 0 ls []) from K9 _ _ hP hD hS
  clear hP hD hS
  intro H locs hP hD hS
  refine lv_iload_n hx hb dX8_reach_0 rfl (lv_at hl 1 rfl) ?_
  obtain ⟨Q1, hw9, h⟩ := h
  have hPc : va_P G vwCl [] H := P_nil
  refine vp_callSi (va_Run.run (va_runS (As := [.int p1]) (rest := []) ⟨hx, hb, hml, hown, hts⟩ (ct_X8_isKind l G cy p1 Q1 hw9) (va_cwS 1 hts gX8_reach_X8_isKind rfl rfl rfl (by decide +kernel) ⟨Nat.le_of_ble_eq_true rfl, Nat.le_of_ble_eq_true rfl⟩) (rP_S hK hPc) rfl rfl hl.1 rfl (lv_room (Nat.le_of_ble_eq_true rfl)) dX8_reach_1 ⟨Nat.le_of_ble_eq_true rfl, Nat.le_of_ble_eq_true rfl⟩)) (fun r2 er2 => ?_)
  specialize h r2 er2
  refine lv_if_eq (tgt := 33) hx hb dX8_reach_4 (by decide) (fun c3 => ?_) (fun c3 => ?_)
  · obtain ⟨h, -⟩ := h
    specialize h c3
    refine lv_iconst (v := (-1)) hx hb dX8_reach_33 (by decide) ?_
    rw [← hQe]
    exact W.iret (v := (-1)) hx hb hr (fun t ht hW => ⟨⟨(-1), (vSz, vTl, vFo, vMv, fF, fL, fX, fC), rfl, h, by dsimp only; rw [ht]; exact hP⟩, hS.F ht⟩) hS.2.2 dX8_reach_34
  · obtain ⟨-, h⟩ := h
    specialize h c3
    refine lv_iload_n hx hb dX8_reach_7 rfl (lv_at hl 2 rfl) ?_
    obtain ⟨Q4, hw9, h⟩ := h
    have hPc : va_P G vwCl [] H := P_nil
    refine vp_callSi (va_Run.run (va_runS (As := [.int p2]) (rest := []) ⟨hx, hb, hml, hown, hts⟩ (ct_X8_areMoves l G cy p2 Q4 hw9) (va_cwS 1 hts gX8_reach_X8_areMoves rfl rfl rfl (by decide +kernel) ⟨Nat.le_of_ble_eq_true rfl, Nat.le_of_ble_eq_true rfl⟩) (rP_S hK hPc) rfl rfl hl.1 rfl (lv_room (Nat.le_of_ble_eq_true rfl)) dX8_reach_8 ⟨Nat.le_of_ble_eq_true rfl, Nat.le_of_ble_eq_true rfl⟩)) (fun r5 er5 => ?_)
    specialize h r5 er5
    refine lv_if_eq (tgt := 33) hx hb dX8_reach_11 (by decide) (fun c6 => ?_) (fun c6 => ?_)
    · obtain ⟨h, -⟩ := h
      specialize h c6
      refine lv_iconst (v := (-1)) hx hb dX8_reach_33 (by decide) ?_
      rw [← hQe]
      exact W.iret (v := (-1)) hx hb hr (fun t ht hW => ⟨⟨(-1), (vSz, vTl, vFo, vMv, fF, fL, fX, fC), rfl, h, by dsimp only; rw [ht]; exact hP⟩, hS.F ht⟩) hS.2.2 dX8_reach_34
    · obtain ⟨-, h⟩ := h
      specialize h c6
      refine lv_iload hx hb dX8_reach_14 (lv_at hl 4 rfl) ?_
      refine lv_iconst (v := 0) hx hb dX8_reach_16 (by decide) ?_
      refine lv_iconst (v := 2) hx hb dX8_reach_17 (by decide) ?_
      obtain ⟨Q7, hw9, h⟩ := h
      have hPc : va_P G vwCl [] H := P_nil
      refine vp_callSi (va_Run.run (va_runS (As := [.int p4, .int 0, .int 2]) (rest := []) ⟨hx, hb, hml, hown, hts⟩ (ct_X8_isWithin l G cy p4 0 2 Q7 hw9) (va_cwS 3 hts gX8_reach_X8_isWithin rfl rfl rfl (by decide +kernel) ⟨Nat.le_of_ble_eq_true rfl, Nat.le_of_ble_eq_true rfl⟩) (rP_S hK hPc) rfl rfl hl.1 rfl (lv_room (Nat.le_of_ble_eq_true rfl)) dX8_reach_18 ⟨Nat.le_of_ble_eq_true rfl, Nat.le_of_ble_eq_true rfl⟩)) (fun r8 er8 => ?_)
      specialize h r8 er8
      refine lv_if_eq (tgt := 33) hx hb dX8_reach_21 (by decide) (fun c9 => ?_) (fun c9 => ?_)
      · obtain ⟨h, -⟩ := h
        specialize h c9
        refine lv_iconst (v := (-1)) hx hb dX8_reach_33 (by decide) ?_
        rw [← hQe]
        exact W.iret (v := (-1)) hx hb hr (fun t ht hW => ⟨⟨(-1), (vSz, vTl, vFo, vMv, fF, fL, fX, fC), rfl, h, by dsimp only; rw [ht]; exact hP⟩, hS.F ht⟩) hS.2.2 dX8_reach_34
      · obtain ⟨-, h⟩ := h
        specialize h c9
        refine lv_aload_n hx hb dX8_reach_24 rfl (lv_at hl 0 rfl) ?_
        refine lv_iload_n hx hb dX8_reach_25 rfl (lv_at hl 1 rfl) ?_
        refine lv_iload_n hx hb dX8_reach_26 rfl (lv_at hl 3 rfl) ?_
        obtain ⟨Q10, hw9, h⟩ := h
        have hPc : va_P G vwCl [(a0, .inr (7, [.ref aN, .ref aM, .ref aP, .ref aW, .ref aT, .int vLe, .int vMo, .int vCo])), (aN, .inr (3, [.ref aR, .int vn])), (aR, .inl (cy 0, 9, .inl fN))] H := hP.sub [0, 6, 7] rfl
        refine vp_callSi (va_Run.run (va_runV (As := [.int p1, .int p3]) (rest := []) ⟨hx, hb, hml, hown, hts⟩ (ct_X8_isLawfulSet l G cy a0 aN aR aM aP aW aT vLe vMo vCo vn fN p1 p3 Q10 hw9) (cwV 2 hts gX8_reach_X8_isLawfulSet rfl rfl rfl (by decide +kernel) ⟨Nat.le_of_ble_eq_true rfl, Nat.le_of_ble_eq_true rfl⟩) (rP_V hK hP (ci := 7) (q0 := 0) rfl rfl hPc) rfl rfl hl.1 rfl (lv_room (Nat.le_of_ble_eq_true rfl)) dX8_reach_27 ⟨Nat.le_of_ble_eq_true rfl, Nat.le_of_ble_eq_true rfl⟩)) (fun r11 er11 => ?_)
        specialize h r11 er11
        refine lv_if_ne (tgt := 35) hx hb dX8_reach_30 (by decide) (fun c12 => ?_) (fun c12 => ?_)
        · obtain ⟨-, h⟩ := h
          specialize h c12
          refine lv_aload_n hx hb dX8_reach_35 rfl (lv_at hl 0 rfl) ?_
          refine lv_iload_n hx hb dX8_reach_36 rfl (lv_at hl 1 rfl) ?_
          refine lv_iload_n hx hb dX8_reach_37 rfl (lv_at hl 2 rfl) ?_
          obtain ⟨Q13, hw9, h⟩ := h
          have hPc : va_P G vwCl [(a0, .inr (7, [.ref aN, .ref aM, .ref aP, .ref aW, .ref aT, .int vLe, .int vMo, .int vCo])), (aM, .inr (2, [.ref aF, .ref aL, .ref aX, .ref aC, .int vSz, .int vTl, .int vFo, .ref aN, .int vMv])), (aF, .inl (cy 0, 512, .inl fF)), (aL, .inl (cy 0, 512, .inl fL)), (aX, .inl (cy 0, 81, .inl fX)), (aC, .inl (cy 0, 81, .inl fC)), (aN, .inr (3, [.ref aR, .int vn])), (aR, .inl (cy 0, 9, .inl fN))] H := hP.sub [0, 1, 2, 3, 4, 5, 6, 7] rfl
          have hDc : va_D A [(a0, .inr (7, [.ref aN, .ref aM, .ref aP, .ref aW, .ref aT, .int vLe, .int vMo, .int vCo])), (aM, .inr (2, [.ref aF, .ref aL, .ref aX, .ref aC, .int vSz, .int vTl, .int vFo, .ref aN, .int vMv])), (aF, .inl (cy 0, 512, .inl fF)), (aL, .inl (cy 0, 512, .inl fL)), (aX, .inl (cy 0, 81, .inl fX)), (aC, .inl (cy 0, 81, .inl fC)), (aN, .inr (3, [.ref aR, .int vn])), (aR, .inl (cy 0, 9, .inl fN))] := hD.sub [0, 1, 2, 3, 4, 5, 6, 7] (by decide) rfl
          have hFc := va_free (wc := [(a0, .inr (7, [.ref aN, .ref aM, .ref aP, .ref aW, .ref aT, .int vLe, .int vMo, .int vCo])), (aM, .inr (2, [.ref aF, .ref aL, .ref aX, .ref aC, .int vSz, .int vTl, .int vFo, .ref aN, .int vMv])), (aF, .inl (cy 0, 512, .inl fF)), (aL, .inl (cy 0, 512, .inl fL)), (aX, .inl (cy 0, 81, .inl fX)), (aC, .inl (cy 0, 81, .inl fC)), (aN, .inr (3, [.ref aR, .int vn])), (aR, .inl (cy 0, 9, .inl fN))]) hD hS hA [0, 1, 2, 3, 4, 5, 6, 7] rfl
          refine va_callv (va_runV (As := [.int p1, .int p2]) (rest := []) ⟨hx, hb, hml, hown, hts⟩ (ct_X8_begin l G cy a0 aM aF aL aX aC aN aR aP aW aT H.size vLe vMo vCo vSz vTl vFo vMv fF fL fX fC vn fN p1 p2 Q13 hw9) (cwV 2 hts gX8_reach_X8_begin rfl rfl rfl (by decide +kernel) ⟨Nat.le_of_ble_eq_true rfl, Nat.le_of_ble_eq_true rfl⟩) (wP_V hK hP (ci := 7) (q0 := 0) rfl rfl hPc hDc) rfl rfl hl.1 rfl (lv_room (Nat.le_of_ble_eq_true rfl)) dX8_reach_38 ⟨Nat.le_of_ble_eq_true rfl, Nat.le_of_ble_eq_true rfl⟩) hS (fun q9 _ h9 => hFc q9 h9) hFc (fun u9 t9 H locs ht9 hvm9 hw9 hB9 hz9 hk9 hS => ?_)
          obtain ⟨z15, z16, z17, f18⟩ := u9
          have hP : va_P G vwCl [(a0, .inr (7, [.ref aN, .ref aM, .ref aP, .ref aW, .ref aT, .int vLe, .int vMo, .int vCo])), (aM, .inr (2, [.ref aF, .ref aL, .ref aX, .ref aC, .int z15, .int z16, .int vFo, .ref aN, .int z17])), (aF, .inl (cy 0, 512, .inl f18)), (aL, .inl (cy 0, 512, .inl fL)), (aX, .inl (cy 0, 81, .inl fX)), (aC, .inl (cy 0, 81, .inl fC)), (aN, .inr (3, [.ref aR, .int vn])), (aR, .inl (cy 0, 9, .inl fN))] H := P_back [0, 1, 2, 3, 4, 5, 6, 7] [] 8 hP hD rfl rfl rfl rfl (by decide) (by decide) hk9 (by rw [← ht9]; exact hB9)
          have hD : va_D A [(a0, .inr (7, [.ref aN, .ref aM, .ref aP, .ref aW, .ref aT, .int vLe, .int vMo, .int vCo])), (aM, .inr (2, [.ref aF, .ref aL, .ref aX, .ref aC, .int z15, .int z16, .int vFo, .ref aN, .int z17])), (aF, .inl (cy 0, 512, .inl f18)), (aL, .inl (cy 0, 512, .inl fL)), (aX, .inl (cy 0, 81, .inl fX)), (aC, .inl (cy 0, 81, .inl fC)), (aN, .inr (3, [.ref aR, .int vn])), (aR, .inl (cy 0, 9, .inl fN))] := D_same hD rfl
          specialize h z15 z16 z17 f18 hw9
          refine lv_aload_n hx hb dX8_reach_41 rfl (lv_at hl 0 rfl) ?_
          refine va_get (D := G) (ci := 7) (v := .ref aM) (C := RX8) (T := TX8) (N := 8) hx hb hts iwX8 hown hK.1 hP 0 rfl rfl 1 (by decide) fl21 (fun _ h9 => h9) rfl dX8_reach_42 ?_
          refine lv_iload_n hx hb dX8_reach_45 rfl (lv_at hl 3 rfl) ?_
          refine lv_iconst (v := (-1)) hx hb dX8_reach_46 (by decide) ?_
          obtain ⟨Q19, hw9, h⟩ := h
          have hPc : va_P G vwCl [(aM, .inr (2, [.ref aF, .ref aL, .ref aX, .ref aC, .int z15, .int z16, .int vFo, .ref aN, .int z17])), (aF, .inl (cy 0, 512, .inl f18)), (aL, .inl (cy 0, 512, .inl fL)), (aX, .inl (cy 0, 81, .inl fX)), (aC, .inl (cy 0, 81, .inl fC)), (aN, .inr (3, [.ref aR, .int vn])), (aR, .inl (cy 0, 9, .inl fN))] H := hP.sub [1, 2, 3, 4, 5, 6, 7] rfl
          have hDc : va_D A [(aM, .inr (2, [.ref aF, .ref aL, .ref aX, .ref aC, .int z15, .int z16, .int vFo, .ref aN, .int z17])), (aF, .inl (cy 0, 512, .inl f18)), (aL, .inl (cy 0, 512, .inl fL)), (aX, .inl (cy 0, 81, .inl fX)), (aC, .inl (cy 0, 81, .inl fC)), (aN, .inr (3, [.ref aR, .int vn])), (aR, .inl (cy 0, 9, .inl fN))] := hD.sub [1, 2, 3, 4, 5, 6, 7] (by decide) rfl
          have hFc := va_free (wc := [(aM, .inr (2, [.ref aF, .ref aL, .ref aX, .ref aC, .int z15, .int z16, .int vFo, .ref aN, .int z17])), (aF, .inl (cy 0, 512, .inl f18)), (aL, .inl (cy 0, 512, .inl fL)), (aX, .inl (cy 0, 81, .inl fX)), (aC, .inl (cy 0, 81, .inl fC)), (aN, .inr (3, [.ref aR, .int vn])), (aR, .inl (cy 0, 9, .inl fN))]) hD hS hA [1, 2, 3, 4, 5, 6, 7] rfl
          refine va_callv (va_runU (As := [.int p3, .int (-1)]) (rest := []) ⟨hx, hb, hml, hown, hts⟩ (ct_X5_spread_M l G cy aM aF aL aX aC aN aR H.size z15 z16 vFo z17 f18 fL fX fC vn fN p3 (-1) Q19 hw9) (va_cwU 2 hts gX8_reach_X5_spread_u138X2 rfl rfl rfl rfl (by decide +kernel) ⟨Nat.le_of_ble_eq_true rfl, Nat.le_of_ble_eq_true rfl⟩) (wP_V hK hP (ci := 2) (q0 := 1) rfl rfl hPc hDc) rfl rfl hl.1 rfl (lv_room (Nat.le_of_ble_eq_true rfl)) dX8_reach_47 ⟨Nat.le_of_ble_eq_true rfl, Nat.le_of_ble_eq_true rfl⟩) hS (fun q9 _ h9 => hFc q9 h9) hFc (fun u9 t9 H locs ht9 hvm9 hw9 hB9 hz9 hk9 hS => ?_)
          obtain ⟨z21, z22, f23, f24, f25, f26⟩ := u9
          have hP : va_P G vwCl [(a0, .inr (7, [.ref aN, .ref aM, .ref aP, .ref aW, .ref aT, .int vLe, .int vMo, .int vCo])), (aM, .inr (2, [.ref aF, .ref aL, .ref aX, .ref aC, .int z15, .int z21, .int z22, .ref aN, .int z17])), (aF, .inl (cy 0, 512, .inl f23)), (aL, .inl (cy 0, 512, .inl f24)), (aX, .inl (cy 0, 81, .inl f25)), (aC, .inl (cy 0, 81, .inl f26)), (aN, .inr (3, [.ref aR, .int vn])), (aR, .inl (cy 0, 9, .inl fN))] H := P_back [1, 2, 3, 4, 5, 6, 7] [0] 8 hP hD rfl rfl rfl rfl (by decide) (by decide) hk9 (by rw [← ht9]; exact hB9)
          have hD : va_D A [(a0, .inr (7, [.ref aN, .ref aM, .ref aP, .ref aW, .ref aT, .int vLe, .int vMo, .int vCo])), (aM, .inr (2, [.ref aF, .ref aL, .ref aX, .ref aC, .int z15, .int z21, .int z22, .ref aN, .int z17])), (aF, .inl (cy 0, 512, .inl f23)), (aL, .inl (cy 0, 512, .inl f24)), (aX, .inl (cy 0, 81, .inl f25)), (aC, .inl (cy 0, 81, .inl f26)), (aN, .inr (3, [.ref aR, .int vn])), (aR, .inl (cy 0, 9, .inl fN))] := D_same hD rfl
          specialize h z21 z22 f23 f24 f25 f26 hw9
          refine lv_iload hx hb dX8_reach_50 (lv_at hl 4 rfl) ?_
          by_cases c27 : p4 = 0
          · obtain ⟨h, -⟩ := h
            specialize h c27
            refine lv_lookup (off := 28) (tgt := 80) hx hb dX8_reach_52 (by decide) (by rw [c27]; decide) (by decide) ?_
            refine lv_aload_n hx hb dX8_reach_80 rfl (lv_at hl 0 rfl) ?_
            refine va_get (D := G) (ci := 7) (v := .ref aM) (C := RX8) (T := TX8) (N := 8) hx hb hts iwX8 hown hK.1 hP 0 rfl rfl 1 (by decide) fl21 (fun _ h9 => h9) rfl dX8_reach_81 ?_
            refine va_get (D := G) (ci := 2) (v := .int z21) (C := RX2) (T := TX2) (N := 9) hx hb hts iwX2 hown hK.1 hP 1 rfl rfl 5 (by decide) fl141 (fun x9 h9 => u_same sf141 x9 h9) rfl dX8_reach_84 ?_
            rw [← hQe]
            exact W.iret (v := z21) hx hb hr (fun t ht hW => ⟨⟨z21, (z15, z21, z22, z17, f23, f24, f25, f26), rfl, h, by dsimp only; rw [ht]; exact hP⟩, hS.F ht⟩) hS.2.2 dX8_reach_87
          · obtain ⟨-, h⟩ := h
            by_cases c28 : p4 = 1
            · obtain ⟨h, -⟩ := h
              specialize h c28
              refine lv_lookup (off := 36) (tgt := 88) hx hb dX8_reach_52 (by decide) (by rw [c28]; decide) (by decide) ?_
              refine lv_aload_n hx hb dX8_reach_88 rfl (lv_at hl 0 rfl) ?_
              refine va_get (D := G) (ci := 7) (v := .ref aM) (C := RX8) (T := TX8) (N := 8) hx hb hts iwX8 hown hK.1 hP 0 rfl rfl 1 (by decide) fl21 (fun _ h9 => h9) rfl dX8_reach_89 ?_
              obtain ⟨Q29, hw9, h⟩ := h
              have hPc : va_P G vwCl [(aM, .inr (2, [.ref aF, .ref aL, .ref aX, .ref aC, .int z15, .int z21, .int z22, .ref aN, .int z17])), (aF, .inl (cy 0, 512, .inl f23)), (aL, .inl (cy 0, 512, .inl f24)), (aX, .inl (cy 0, 81, .inl f25)), (aC, .inl (cy 0, 81, .inl f26)), (aN, .inr (3, [.ref aR, .int vn])), (aR, .inl (cy 0, 9, .inl fN))] H := hP.sub [1, 2, 3, 4, 5, 6, 7] rfl
              refine vp_callSi (va_Run.run (va_runV (As := []) (rest := []) ⟨hx, hb, hml, hown, hts⟩ (ct_X2_frozen l G cy aM aF aL aX aC aN aR z15 z21 z22 z17 f23 f24 f25 f26 vn fN Q29 hw9) (cwV 0 hts gX8_reach_X2_frozen rfl rfl rfl (by decide +kernel) ⟨Nat.le_of_ble_eq_true rfl, Nat.le_of_ble_eq_true rfl⟩) (rP_V hK hP (ci := 2) (q0 := 1) rfl rfl hPc) rfl rfl hl.1 rfl (lv_room (Nat.le_of_ble_eq_true rfl)) dX8_reach_92 ⟨Nat.le_of_ble_eq_true rfl, Nat.le_of_ble_eq_true rfl⟩)) (fun r30 er30 => ?_)
              specialize h r30 er30
              rw [← hQe]
              exact W.iret (v := r30) hx hb hr (fun t ht hW => ⟨⟨r30, (z15, z21, z22, z17, f23, f24, f25, f26), rfl, h, by dsimp only; rw [ht]; exact hP⟩, hS.F ht⟩) hS.2.2 dX8_reach_95
            · obtain ⟨-, h⟩ := h
              specialize h c27 c28
              refine lv_lookup (off := 44) (tgt := 96) hx hb dX8_reach_52 (by decide) (by rw [lv_osw (k := 0) c27 (by decide)]; rw [lv_osw (k := 1) c28 (by decide)]; rfl) (by decide) ?_
              refine lv_aload_n hx hb dX8_reach_96 rfl (lv_at hl 0 rfl) ?_
              refine va_get (D := G) (ci := 7) (v := .ref aM) (C := RX8) (T := TX8) (N := 8) hx hb hts iwX8 hown hK.1 hP 0 rfl rfl 1 (by decide) fl21 (fun _ h9 => h9) rfl dX8_reach_97 ?_
              obtain ⟨Q31, hw9, h⟩ := h
              have hPc : va_P G vwCl [(aM, .inr (2, [.ref aF, .ref aL, .ref aX, .ref aC, .int z15, .int z21, .int z22, .ref aN, .int z17])), (aF, .inl (cy 0, 512, .inl f23)), (aL, .inl (cy 0, 512, .inl f24)), (aX, .inl (cy 0, 81, .inl f25)), (aC, .inl (cy 0, 81, .inl f26)), (aN, .inr (3, [.ref aR, .int vn])), (aR, .inl (cy 0, 9, .inl fN))] H := hP.sub [1, 2, 3, 4, 5, 6, 7] rfl
              refine vp_callSi (va_Run.run (va_runV (As := []) (rest := []) ⟨hx, hb, hml, hown, hts⟩ (ct_X2_farthest l G cy aM aF aL aX aC aN aR z15 z21 z22 z17 f23 f24 f25 f26 vn fN Q31 hw9) (cwV 0 hts gX8_reach_X2_farthest rfl rfl rfl (by decide +kernel) ⟨Nat.le_of_ble_eq_true rfl, Nat.le_of_ble_eq_true rfl⟩) (rP_V hK hP (ci := 2) (q0 := 1) rfl rfl hPc) rfl rfl hl.1 rfl (lv_room (Nat.le_of_ble_eq_true rfl)) dX8_reach_100 ⟨Nat.le_of_ble_eq_true rfl, Nat.le_of_ble_eq_true rfl⟩)) (fun r32 er32 => ?_)
              specialize h r32 er32
              rw [← hQe]
              exact W.iret (v := r32) hx hb hr (fun t ht hW => ⟨⟨r32, (z15, z21, z22, z17, f23, f24, f25, f26), rfl, h, by dsimp only; rw [ht]; exact hP⟩, hS.F ht⟩) hS.2.2 dX8_reach_103
        · obtain ⟨h, -⟩ := h
          specialize h c12
          refine lv_iconst (v := (-1)) hx hb dX8_reach_33 (by decide) ?_
          rw [← hQe]
          exact W.iret (v := (-1)) hx hb hr (fun t ht hW => ⟨⟨(-1), (vSz, vTl, vFo, vMv, fF, fL, fX, fC), rfl, h, by dsimp only; rw [ht]; exact hP⟩, hS.F ht⟩) hS.2.2 dX8_reach_34

set_option maxHeartbeats 4000000 in
set_option maxRecDepth 100000 in
theorem ct_X8_parts (l : Launch) (G : va_G) (cy : Nat → ClassId) (a0 aM aF aL aX aC aN aR aP aW aT : Nat) (sz : Nat) (vLe : Int32) (vMo : Int32) (vCo : Int32) (vSz : Int32) (vTl : Int32) (vFo : Int32) (vMv : Int32) (fF : Nat → Int32) (fL : Nat → Int32) (fX : Nat → Int32) (fC : Nat → Int32) (vn : Int32) (fN : Nat → Int32) (p1 : Int32) (p2 : Int32) (p3 : Int32) (Q : Int32 → Int32 → Int32 → Int32 → Int32 → (Nat → Int32) → (Nat → Int32) → (Nat → Int32) → (Nat → Int32) → Prop) (h : wp_X8_parts vLe vMo vSz vTl vFo vMv fF fL fX fC vn fN p1 p2 p3 Q) : Met l yX8_parts wsX8_parts rmX8_parts (va_Pc [.ref a0, .int p1, .int p2, .int p3] (wP G cy sz [(a0, .inr (7, [.ref aN, .ref aM, .ref aP, .ref aW, .ref aT, .int vLe, .int vMo, .int vCo])), (aM, .inr (2, [.ref aF, .ref aL, .ref aX, .ref aC, .int vSz, .int vTl, .int vFo, .ref aN, .int vMv])), (aF, .inl (cy 0, 512, .inl fF)), (aL, .inl (cy 0, 512, .inl fL)), (aX, .inl (cy 0, 81, .inl fX)), (aC, .inl (cy 0, 81, .inl fC)), (aN, .inr (3, [.ref aR, .int vn])), (aR, .inl (cy 0, 9, .inl fN))])) (va_Qi (fun (r : Int32) (u : Int32 × Int32 × Int32 × Int32 × (Nat → Int32) × (Nat → Int32) × (Nat → Int32) × (Nat → Int32)) => Q r u.1 u.2.1 u.2.2.1 u.2.2.2.1 u.2.2.2.2.1 u.2.2.2.2.2.1 u.2.2.2.2.2.2.1 u.2.2.2.2.2.2.2) (fun (u : Int32 × Int32 × Int32 × Int32 × (Nat → Int32) × (Nat → Int32) × (Nat → Int32) × (Nat → Int32)) (t : State) => va_P G vwCl [(a0, .inr (7, [.ref aN, .ref aM, .ref aP, .ref aW, .ref aT, .int vLe, .int vMo, .int vCo])), (aM, .inr (2, [.ref aF, .ref aL, .ref aX, .ref aC, .int u.1, .int u.2.1, .int u.2.2.1, .ref aN, .int u.2.2.2.1])), (aF, .inl (cy 0, 512, .inl u.2.2.2.2.1)), (aL, .inl (cy 0, 512, .inl u.2.2.2.2.2.1)), (aX, .inl (cy 0, 81, .inl u.2.2.2.2.2.2.1)), (aC, .inl (cy 0, 81, .inl u.2.2.2.2.2.2.2)), (aN, .inr (3, [.ref aR, .int vn])), (aR, .inl (cy 0, 9, .inl fN))] t.heap) (va_A [(a0, .inr (7, [.ref aN, .ref aM, .ref aP, .ref aW, .ref aT, .int vLe, .int vMo, .int vCo])), (aM, .inr (2, [.ref aF, .ref aL, .ref aX, .ref aC, .int vSz, .int vTl, .int vFo, .ref aN, .int vMv])), (aF, .inl (cy 0, 512, .inl fF)), (aL, .inl (cy 0, 512, .inl fL)), (aX, .inl (cy 0, 81, .inl fX)), (aC, .inl (cy 0, 81, .inl fC)), (aN, .inr (3, [.ref aR, .int vn])), (aR, .inl (cy 0, 9, .inl fN))] sz)) 0 0 (va_A [(a0, .inr (7, [.ref aN, .ref aM, .ref aP, .ref aW, .ref aT, .int vLe, .int vMo, .int vCo])), (aM, .inr (2, [.ref aF, .ref aL, .ref aX, .ref aC, .int vSz, .int vTl, .int vFo, .ref aN, .int vMv])), (aF, .inl (cy 0, 512, .inl fF)), (aL, .inl (cy 0, 512, .inl fL)), (aX, .inl (cy 0, 81, .inl fX)), (aC, .inl (cy 0, 81, .inl fC)), (aN, .inr (3, [.ref aR, .int vn])), (aR, .inl (cy 0, 9, .inl fN))] sz) := by
  unfold wp_X8_parts at h
  refine Met.ofW (cc := cX8_parts) (maxL := 4) (ret := (some .int)) (by decide) rfl ?_
  intro p e s m args below meth c s₁ B hml hv
  obtain ⟨hav, hsz, hP, hK, hD0⟩ := hv
  have hx := B.exec
  have hb := B.bytes
  have hr := B.returns
  have hts := atoms_spec (ws := wsX8_parts) B.pre
  have hown : s.vm.findClass RX8 = some m.cls := findClass_of_methodNamed B.named
  have hlocks := B.notSynchronized
  subst hsz
  have hD := hD0.self (sz := s.heap.size)
  generalize hAe : va_A [(a0, .inr (7, [.ref aN, .ref aM, .ref aP, .ref aW, .ref aT, .int vLe, .int vMo, .int vCo])), (aM, .inr (2, [.ref aF, .ref aL, .ref aX, .ref aC, .int vSz, .int vTl, .int vFo, .ref aN, .int vMv])), (aF, .inl (cy 0, 512, .inl fF)), (aL, .inl (cy 0, 512, .inl fL)), (aX, .inl (cy 0, 81, .inl fX)), (aC, .inl (cy 0, 81, .inl fC)), (aN, .inr (3, [.ref aR, .int vn])), (aR, .inl (cy 0, 9, .inl fN))] s.heap.size = A at hD ⊢
  have hA : ∀ q : Nat, s.heap.size ≤ q → A q := fun q h9 => by rw [← hAe]; exact Or.inr h9
  have hS : va_S A s.heap s.heap [] := va_S.rf
  have hl := lv_entry ([.ref a0, .int p1, .int p2, .int p3]) (n := 4) (Nat.le_of_ble_eq_true rfl)
  rw [show entryFrame m args 4 = entryFrame m ([.ref a0, .int p1, .int p2, .int p3] : List Value).toArray 4 by rw [hav], lg_entry_eq]
  generalize (lg_sl ([.ref a0, .int p1, .int p2, .int p3]) ++ List.replicate (4 - (lg_sl ([.ref a0, .int p1, .int p2, .int p3])).length) Slot.unset).toArray = ls at hl ⊢
  have hl : lv_has ls 4 [(0, .ref a0), (1, .int p1), (2, .int p2), (3, .int p3)] := hl
  generalize hQe : MQ below _ _ _ _ _ _ = QM
  have hP : va_P G vwCl [(a0, .inr (7, [.ref aN, .ref aM, .ref aP, .ref aW, .ref aT, .int vLe, .int vMo, .int vCo])), (aM, .inr (2, [.ref aF, .ref aL, .ref aX, .ref aC, .int vSz, .int vTl, .int vFo, .ref aN, .int vMv])), (aF, .inl (cy 0, 512, .inl fF)), (aL, .inl (cy 0, 512, .inl fL)), (aX, .inl (cy 0, 81, .inl fX)), (aC, .inl (cy 0, 81, .inl fC)), (aN, .inr (3, [.ref aR, .int vn])), (aR, .inl (cy 0, 9, .inl fN))] s.heap := hP
  have iwX8 : ∀ w ∈ wsX80, w ∈ wsX8_parts := by decide +kernel
  have fl10 := hts (.fieldLink RX8 10 "SlidTokens" "graph" "LSlidTokens$Net;") (by decide +kernel)
  have iwX3 : ∀ w ∈ wsX30, w ∈ wsX8_parts := by decide +kernel
  have fl66 := hts (.fieldLink RX8 66 "SlidTokens$Net" "nodes" "I") (by decide +kernel)
  have fl21 := hts (.fieldLink RX8 21 "SlidTokens" "marks" "LSlidTokens$Marks;") (by decide +kernel)
  suffices K9 : ∀ (H : Heap) (locs : List Loc), va_P G vwCl [(a0, .inr (7, [.ref aN, .ref aM, .ref aP, .ref aW, .ref aT, .int vLe, .int vMo, .int vCo])), (aM, .inr (2, [.ref aF, .ref aL, .ref aX, .ref aC, .int vSz, .int vTl, .int vFo, .ref aN, .int vMv])), (aF, .inl (cy 0, 512, .inl fF)), (aL, .inl (cy 0, 512, .inl fL)), (aX, .inl (cy 0, 81, .inl fX)), (aC, .inl (cy 0, 81, .inl fC)), (aN, .inr (3, [.ref aR, .int vn])), (aR, .inl (cy 0, 9, .inl fN))] H → va_D A [(a0, .inr (7, [.ref aN, .ref aM, .ref aP, .ref aW, .ref aT, .int vLe, .int vMo, .int vCo])), (aM, .inr (2, [.ref aF, .ref aL, .ref aX, .ref aC, .int vSz, .int vTl, .int vFo, .ref aN, .int vMv])), (aF, .inl (cy 0, 512, .inl fF)), (aL, .inl (cy 0, 512, .inl fL)), (aX, .inl (cy 0, 81, .inl fX)), (aC, .inl (cy 0, 81, .inl fC)), (aN, .inr (3, [.ref aR, .int vn])), (aR, .inl (cy 0, 9, .inl fN))] → va_S A s.heap H locs → W p l e (headSpec wsX8_parts rmX8_parts).room s m args below meth c H locs 0 0 QM (F0 m 0 ls []) from K9 _ _ hP hD hS
  clear hP hD hS
  intro H locs hP hD hS
  refine lv_iload_n hx hb dX8_parts_0 rfl (lv_at hl 1 rfl) ?_
  obtain ⟨Q1, hw9, h⟩ := h
  have hPc : va_P G vwCl [] H := P_nil
  refine vp_callSi (va_Run.run (va_runS (As := [.int p1]) (rest := []) ⟨hx, hb, hml, hown, hts⟩ (ct_X8_isKind l G cy p1 Q1 hw9) (va_cwS 1 hts gX8_parts_X8_isKind rfl rfl rfl (by decide +kernel) ⟨Nat.le_of_ble_eq_true rfl, Nat.le_of_ble_eq_true rfl⟩) (rP_S hK hPc) rfl rfl hl.1 rfl (lv_room (Nat.le_of_ble_eq_true rfl)) dX8_parts_1 ⟨Nat.le_of_ble_eq_true rfl, Nat.le_of_ble_eq_true rfl⟩)) (fun r2 er2 => ?_)
  specialize h r2 er2
  refine lv_if_eq (tgt := 14) hx hb dX8_parts_4 (by decide) (fun c3 => ?_) (fun c3 => ?_)
  · obtain ⟨h, -⟩ := h
    specialize h c3
    refine lv_iconst (v := (-1)) hx hb dX8_parts_14 (by decide) ?_
    rw [← hQe]
    exact W.iret (v := (-1)) hx hb hr (fun t ht hW => ⟨⟨(-1), (vSz, vTl, vFo, vMv, fF, fL, fX, fC), rfl, h, by dsimp only; rw [ht]; exact hP⟩, hS.F ht⟩) hS.2.2 dX8_parts_15
  · obtain ⟨-, h⟩ := h
    specialize h c3
    refine lv_iload_n hx hb dX8_parts_7 rfl (lv_at hl 2 rfl) ?_
    obtain ⟨Q4, hw9, h⟩ := h
    have hPc : va_P G vwCl [] H := P_nil
    refine vp_callSi (va_Run.run (va_runS (As := [.int p2]) (rest := []) ⟨hx, hb, hml, hown, hts⟩ (ct_X8_areMoves l G cy p2 Q4 hw9) (va_cwS 1 hts gX8_parts_X8_areMoves rfl rfl rfl (by decide +kernel) ⟨Nat.le_of_ble_eq_true rfl, Nat.le_of_ble_eq_true rfl⟩) (rP_S hK hPc) rfl rfl hl.1 rfl (lv_room (Nat.le_of_ble_eq_true rfl)) dX8_parts_8 ⟨Nat.le_of_ble_eq_true rfl, Nat.le_of_ble_eq_true rfl⟩)) (fun r5 er5 => ?_)
    specialize h r5 er5
    refine lv_if_ne (tgt := 16) hx hb dX8_parts_11 (by decide) (fun c6 => ?_) (fun c6 => ?_)
    · obtain ⟨-, h⟩ := h
      specialize h c6
      refine lv_iload_n hx hb dX8_parts_16 rfl (lv_at hl 2 rfl) ?_
      refine lv_iconst (v := 2) hx hb dX8_parts_17 (by decide) ?_
      refine lv_icmp_ne (tgt := 35) hx hb dX8_parts_18 (by decide) (fun c7 => ?_) (fun c7 => ?_)
      · obtain ⟨-, h⟩ := h
        specialize h c7
        refine lv_iload_n hx hb dX8_parts_35 rfl (lv_at hl 3 rfl) ?_
        refine lv_iconst (v := 0) hx hb dX8_parts_36 (by decide) ?_
        refine lv_aload_n hx hb dX8_parts_37 rfl (lv_at hl 0 rfl) ?_
        refine va_get (D := G) (ci := 7) (v := .ref aN) (C := RX8) (T := TX8) (N := 8) hx hb hts iwX8 hown hK.1 hP 0 rfl rfl 0 (by decide) fl10 (fun _ h9 => h9) rfl dX8_parts_38 ?_
        refine va_get (D := G) (ci := 3) (v := .int vn) (C := RX3) (T := TX3) (N := 2) hx hb hts iwX3 hown hK.1 hP 6 rfl rfl 1 (by decide) fl66 (fun _ h9 => h9) rfl dX8_parts_41 ?_
        obtain ⟨Q8, hw9, h⟩ := h
        have hPc : va_P G vwCl [] H := P_nil
        refine vp_callSi (va_Run.run (va_runS (As := [.int p3, .int 0, .int vn]) (rest := []) ⟨hx, hb, hml, hown, hts⟩ (ct_X8_isWithin l G cy p3 0 vn Q8 hw9) (va_cwS 3 hts gX8_parts_X8_isWithin rfl rfl rfl (by decide +kernel) ⟨Nat.le_of_ble_eq_true rfl, Nat.le_of_ble_eq_true rfl⟩) (rP_S hK hPc) rfl rfl hl.1 rfl (lv_room (Nat.le_of_ble_eq_true rfl)) dX8_parts_44 ⟨Nat.le_of_ble_eq_true rfl, Nat.le_of_ble_eq_true rfl⟩)) (fun r9 er9 => ?_)
        specialize h r9 er9
        refine lv_if_ne (tgt := 52) hx hb dX8_parts_47 (by decide) (fun c10 => ?_) (fun c10 => ?_)
        · obtain ⟨-, h⟩ := h
          specialize h c10
          refine lv_aload_n hx hb dX8_parts_52 rfl (lv_at hl 0 rfl) ?_
          refine va_get (D := G) (ci := 7) (v := .ref aM) (C := RX8) (T := TX8) (N := 8) hx hb hts iwX8 hown hK.1 hP 0 rfl rfl 1 (by decide) fl21 (fun _ h9 => h9) rfl dX8_parts_53 ?_
          refine lv_iload_n hx hb dX8_parts_56 rfl (lv_at hl 1 rfl) ?_
          refine lv_iload_n hx hb dX8_parts_57 rfl (lv_at hl 2 rfl) ?_
          refine lv_iload_n hx hb dX8_parts_58 rfl (lv_at hl 3 rfl) ?_
          refine lv_iload_n hx hb dX8_parts_59 rfl (lv_at hl 3 rfl) ?_
          obtain ⟨Q11, hw9, h⟩ := h
          have hPc : va_P G vwCl [(aM, .inr (2, [.ref aF, .ref aL, .ref aX, .ref aC, .int vSz, .int vTl, .int vFo, .ref aN, .int vMv])), (aF, .inl (cy 0, 512, .inl fF)), (aL, .inl (cy 0, 512, .inl fL)), (aX, .inl (cy 0, 81, .inl fX)), (aC, .inl (cy 0, 81, .inl fC)), (aN, .inr (3, [.ref aR, .int vn])), (aR, .inl (cy 0, 9, .inl fN))] H := hP.sub [1, 2, 3, 4, 5, 6, 7] rfl
          have hDc : va_D A [(aM, .inr (2, [.ref aF, .ref aL, .ref aX, .ref aC, .int vSz, .int vTl, .int vFo, .ref aN, .int vMv])), (aF, .inl (cy 0, 512, .inl fF)), (aL, .inl (cy 0, 512, .inl fL)), (aX, .inl (cy 0, 81, .inl fX)), (aC, .inl (cy 0, 81, .inl fC)), (aN, .inr (3, [.ref aR, .int vn])), (aR, .inl (cy 0, 9, .inl fN))] := hD.sub [1, 2, 3, 4, 5, 6, 7] (by decide) rfl
          have hFc := va_free (wc := [(aM, .inr (2, [.ref aF, .ref aL, .ref aX, .ref aC, .int vSz, .int vTl, .int vFo, .ref aN, .int vMv])), (aF, .inl (cy 0, 512, .inl fF)), (aL, .inl (cy 0, 512, .inl fL)), (aX, .inl (cy 0, 81, .inl fX)), (aC, .inl (cy 0, 81, .inl fC)), (aN, .inr (3, [.ref aR, .int vn])), (aR, .inl (cy 0, 9, .inl fN))]) hD hS hA [1, 2, 3, 4, 5, 6, 7] rfl
          refine va_callv (va_runV (As := [.int p1, .int p2, .int p3, .int p3]) (rest := []) ⟨hx, hb, hml, hown, hts⟩ (ct_X2_begin l G cy aM aF aL aX aC aN aR H.size vSz vTl vFo vMv fF fL fX fC vn fN p1 p2 p3 p3 Q11 hw9) (cwV 4 hts gX8_parts_X2_begin rfl rfl rfl (by decide +kernel) ⟨Nat.le_of_ble_eq_true rfl, Nat.le_of_ble_eq_true rfl⟩) (wP_V hK hP (ci := 2) (q0 := 1) rfl rfl hPc hDc) rfl rfl hl.1 rfl (lv_room (Nat.le_of_ble_eq_true rfl)) dX8_parts_60 ⟨Nat.le_of_ble_eq_true rfl, Nat.le_of_ble_eq_true rfl⟩) hS (fun q9 _ h9 => hFc q9 h9) hFc (fun u9 t9 H locs ht9 hvm9 hw9 hB9 hz9 hk9 hS => ?_)
          obtain ⟨z13, z14, z15, f16⟩ := u9
          have hP : va_P G vwCl [(a0, .inr (7, [.ref aN, .ref aM, .ref aP, .ref aW, .ref aT, .int vLe, .int vMo, .int vCo])), (aM, .inr (2, [.ref aF, .ref aL, .ref aX, .ref aC, .int z13, .int z14, .int vFo, .ref aN, .int z15])), (aF, .inl (cy 0, 512, .inl f16)), (aL, .inl (cy 0, 512, .inl fL)), (aX, .inl (cy 0, 81, .inl fX)), (aC, .inl (cy 0, 81, .inl fC)), (aN, .inr (3, [.ref aR, .int vn])), (aR, .inl (cy 0, 9, .inl fN))] H := P_back [1, 2, 3, 4, 5, 6, 7] [0] 8 hP hD rfl rfl rfl rfl (by decide) (by decide) hk9 (by rw [← ht9]; exact hB9)
          have hD : va_D A [(a0, .inr (7, [.ref aN, .ref aM, .ref aP, .ref aW, .ref aT, .int vLe, .int vMo, .int vCo])), (aM, .inr (2, [.ref aF, .ref aL, .ref aX, .ref aC, .int z13, .int z14, .int vFo, .ref aN, .int z15])), (aF, .inl (cy 0, 512, .inl f16)), (aL, .inl (cy 0, 512, .inl fL)), (aX, .inl (cy 0, 81, .inl fX)), (aC, .inl (cy 0, 81, .inl fC)), (aN, .inr (3, [.ref aR, .int vn])), (aR, .inl (cy 0, 9, .inl fN))] := D_same hD rfl
          specialize h z13 z14 z15 f16 hw9
          refine lv_aload_n hx hb dX8_parts_63 rfl (lv_at hl 0 rfl) ?_
          refine va_get (D := G) (ci := 7) (v := .ref aM) (C := RX8) (T := TX8) (N := 8) hx hb hts iwX8 hown hK.1 hP 0 rfl rfl 1 (by decide) fl21 (fun _ h9 => h9) rfl dX8_parts_64 ?_
          obtain ⟨Q17, hw9, h⟩ := h
          have hPc : va_P G vwCl [(aM, .inr (2, [.ref aF, .ref aL, .ref aX, .ref aC, .int z13, .int z14, .int vFo, .ref aN, .int z15])), (aF, .inl (cy 0, 512, .inl f16)), (aL, .inl (cy 0, 512, .inl fL)), (aX, .inl (cy 0, 81, .inl fX)), (aC, .inl (cy 0, 81, .inl fC)), (aN, .inr (3, [.ref aR, .int vn])), (aR, .inl (cy 0, 9, .inl fN))] H := hP.sub [1, 2, 3, 4, 5, 6, 7] rfl
          have hDc : va_D A [(aM, .inr (2, [.ref aF, .ref aL, .ref aX, .ref aC, .int z13, .int z14, .int vFo, .ref aN, .int z15])), (aF, .inl (cy 0, 512, .inl f16)), (aL, .inl (cy 0, 512, .inl fL)), (aX, .inl (cy 0, 81, .inl fX)), (aC, .inl (cy 0, 81, .inl fC)), (aN, .inr (3, [.ref aR, .int vn])), (aR, .inl (cy 0, 9, .inl fN))] := hD.sub [1, 2, 3, 4, 5, 6, 7] (by decide) rfl
          have hFc := va_free (wc := [(aM, .inr (2, [.ref aF, .ref aL, .ref aX, .ref aC, .int z13, .int z14, .int vFo, .ref aN, .int z15])), (aF, .inl (cy 0, 512, .inl f16)), (aL, .inl (cy 0, 512, .inl fL)), (aX, .inl (cy 0, 81, .inl fX)), (aC, .inl (cy 0, 81, .inl fC)), (aN, .inr (3, [.ref aR, .int vn])), (aR, .inl (cy 0, 9, .inl fN))]) hD hS hA [1, 2, 3, 4, 5, 6, 7] rfl
          refine va_calli (va_runU (As := []) (rest := []) ⟨hx, hb, hml, hown, hts⟩ (ct_X5_components_M l G cy aM aF aL aX aC aN aR H.size z13 z14 vFo z15 f16 fL fX fC vn fN Q17 hw9) (va_cwU 0 hts gX8_parts_X5_components_u150X2 rfl rfl rfl rfl (by decide +kernel) ⟨Nat.le_of_ble_eq_true rfl, Nat.le_of_ble_eq_true rfl⟩) (wP_V hK hP (ci := 2) (q0 := 1) rfl rfl hPc hDc) rfl rfl hl.1 rfl (lv_room (Nat.le_of_ble_eq_true rfl)) dX8_parts_67 ⟨Nat.le_of_ble_eq_true rfl, Nat.le_of_ble_eq_true rfl⟩) hS (fun q9 _ h9 => hFc q9 h9) hFc (fun r18 u9 t9 H locs ht9 hvm9 hw9 hB9 hz9 hk9 hS => ?_)
          obtain ⟨z19, z20, f21, f22, f23, f24⟩ := u9
          have hP : va_P G vwCl [(a0, .inr (7, [.ref aN, .ref aM, .ref aP, .ref aW, .ref aT, .int vLe, .int vMo, .int vCo])), (aM, .inr (2, [.ref aF, .ref aL, .ref aX, .ref aC, .int z13, .int z19, .int z20, .ref aN, .int z15])), (aF, .inl (cy 0, 512, .inl f21)), (aL, .inl (cy 0, 512, .inl f22)), (aX, .inl (cy 0, 81, .inl f23)), (aC, .inl (cy 0, 81, .inl f24)), (aN, .inr (3, [.ref aR, .int vn])), (aR, .inl (cy 0, 9, .inl fN))] H := P_back [1, 2, 3, 4, 5, 6, 7] [0] 8 hP hD rfl rfl rfl rfl (by decide) (by decide) hk9 (by rw [← ht9]; exact hB9)
          have hD : va_D A [(a0, .inr (7, [.ref aN, .ref aM, .ref aP, .ref aW, .ref aT, .int vLe, .int vMo, .int vCo])), (aM, .inr (2, [.ref aF, .ref aL, .ref aX, .ref aC, .int z13, .int z19, .int z20, .ref aN, .int z15])), (aF, .inl (cy 0, 512, .inl f21)), (aL, .inl (cy 0, 512, .inl f22)), (aX, .inl (cy 0, 81, .inl f23)), (aC, .inl (cy 0, 81, .inl f24)), (aN, .inr (3, [.ref aR, .int vn])), (aR, .inl (cy 0, 9, .inl fN))] := D_same hD rfl
          specialize h r18 z19 z20 f21 f22 f23 f24 hw9
          rw [← hQe]
          exact W.iret (v := r18) hx hb hr (fun t ht hW => ⟨⟨r18, (z13, z19, z20, z15, f21, f22, f23, f24), rfl, h, by dsimp only; rw [ht]; exact hP⟩, hS.F ht⟩) hS.2.2 dX8_parts_70
        · obtain ⟨h, -⟩ := h
          specialize h c10
          refine lv_iconst (v := (-1)) hx hb dX8_parts_50 (by decide) ?_
          rw [← hQe]
          exact W.iret (v := (-1)) hx hb hr (fun t ht hW => ⟨⟨(-1), (vSz, vTl, vFo, vMv, fF, fL, fX, fC), rfl, h, by dsimp only; rw [ht]; exact hP⟩, hS.F ht⟩) hS.2.2 dX8_parts_51
      · obtain ⟨h, -⟩ := h
        specialize h c7
        refine lv_aload_n hx hb dX8_parts_21 rfl (lv_at hl 0 rfl) ?_
        refine lv_iload_n hx hb dX8_parts_22 rfl (lv_at hl 1 rfl) ?_
        refine lv_iload_n hx hb dX8_parts_23 rfl (lv_at hl 2 rfl) ?_
        obtain ⟨Q25, hw9, h⟩ := h
        have hPc : va_P G vwCl [(a0, .inr (7, [.ref aN, .ref aM, .ref aP, .ref aW, .ref aT, .int vLe, .int vMo, .int vCo])), (aM, .inr (2, [.ref aF, .ref aL, .ref aX, .ref aC, .int vSz, .int vTl, .int vFo, .ref aN, .int vMv])), (aF, .inl (cy 0, 512, .inl fF)), (aL, .inl (cy 0, 512, .inl fL)), (aX, .inl (cy 0, 81, .inl fX)), (aC, .inl (cy 0, 81, .inl fC)), (aN, .inr (3, [.ref aR, .int vn])), (aR, .inl (cy 0, 9, .inl fN))] H := hP.sub [0, 1, 2, 3, 4, 5, 6, 7] rfl
        have hDc : va_D A [(a0, .inr (7, [.ref aN, .ref aM, .ref aP, .ref aW, .ref aT, .int vLe, .int vMo, .int vCo])), (aM, .inr (2, [.ref aF, .ref aL, .ref aX, .ref aC, .int vSz, .int vTl, .int vFo, .ref aN, .int vMv])), (aF, .inl (cy 0, 512, .inl fF)), (aL, .inl (cy 0, 512, .inl fL)), (aX, .inl (cy 0, 81, .inl fX)), (aC, .inl (cy 0, 81, .inl fC)), (aN, .inr (3, [.ref aR, .int vn])), (aR, .inl (cy 0, 9, .inl fN))] := hD.sub [0, 1, 2, 3, 4, 5, 6, 7] (by decide) rfl
        have hFc := va_free (wc := [(a0, .inr (7, [.ref aN, .ref aM, .ref aP, .ref aW, .ref aT, .int vLe, .int vMo, .int vCo])), (aM, .inr (2, [.ref aF, .ref aL, .ref aX, .ref aC, .int vSz, .int vTl, .int vFo, .ref aN, .int vMv])), (aF, .inl (cy 0, 512, .inl fF)), (aL, .inl (cy 0, 512, .inl fL)), (aX, .inl (cy 0, 81, .inl fX)), (aC, .inl (cy 0, 81, .inl fC)), (aN, .inr (3, [.ref aR, .int vn])), (aR, .inl (cy 0, 9, .inl fN))]) hD hS hA [0, 1, 2, 3, 4, 5, 6, 7] rfl
        refine va_callv (va_runV (As := [.int p1, .int p2]) (rest := []) ⟨hx, hb, hml, hown, hts⟩ (ct_X8_begin l G cy a0 aM aF aL aX aC aN aR aP aW aT H.size vLe vMo vCo vSz vTl vFo vMv fF fL fX fC vn fN p1 p2 Q25 hw9) (cwV 2 hts gX8_parts_X8_begin rfl rfl rfl (by decide +kernel) ⟨Nat.le_of_ble_eq_true rfl, Nat.le_of_ble_eq_true rfl⟩) (wP_V hK hP (ci := 7) (q0 := 0) rfl rfl hPc hDc) rfl rfl hl.1 rfl (lv_room (Nat.le_of_ble_eq_true rfl)) dX8_parts_24 ⟨Nat.le_of_ble_eq_true rfl, Nat.le_of_ble_eq_true rfl⟩) hS (fun q9 _ h9 => hFc q9 h9) hFc (fun u9 t9 H locs ht9 hvm9 hw9 hB9 hz9 hk9 hS => ?_)
        obtain ⟨z27, z28, z29, f30⟩ := u9
        have hP : va_P G vwCl [(a0, .inr (7, [.ref aN, .ref aM, .ref aP, .ref aW, .ref aT, .int vLe, .int vMo, .int vCo])), (aM, .inr (2, [.ref aF, .ref aL, .ref aX, .ref aC, .int z27, .int z28, .int vFo, .ref aN, .int z29])), (aF, .inl (cy 0, 512, .inl f30)), (aL, .inl (cy 0, 512, .inl fL)), (aX, .inl (cy 0, 81, .inl fX)), (aC, .inl (cy 0, 81, .inl fC)), (aN, .inr (3, [.ref aR, .int vn])), (aR, .inl (cy 0, 9, .inl fN))] H := P_back [0, 1, 2, 3, 4, 5, 6, 7] [] 8 hP hD rfl rfl rfl rfl (by decide) (by decide) hk9 (by rw [← ht9]; exact hB9)
        have hD : va_D A [(a0, .inr (7, [.ref aN, .ref aM, .ref aP, .ref aW, .ref aT, .int vLe, .int vMo, .int vCo])), (aM, .inr (2, [.ref aF, .ref aL, .ref aX, .ref aC, .int z27, .int z28, .int vFo, .ref aN, .int z29])), (aF, .inl (cy 0, 512, .inl f30)), (aL, .inl (cy 0, 512, .inl fL)), (aX, .inl (cy 0, 81, .inl fX)), (aC, .inl (cy 0, 81, .inl fC)), (aN, .inr (3, [.ref aR, .int vn])), (aR, .inl (cy 0, 9, .inl fN))] := D_same hD rfl
        specialize h z27 z28 z29 f30 hw9
        refine lv_aload_n hx hb dX8_parts_27 rfl (lv_at hl 0 rfl) ?_
        refine va_get (D := G) (ci := 7) (v := .ref aM) (C := RX8) (T := TX8) (N := 8) hx hb hts iwX8 hown hK.1 hP 0 rfl rfl 1 (by decide) fl21 (fun _ h9 => h9) rfl dX8_parts_28 ?_
        obtain ⟨Q31, hw9, h⟩ := h
        have hPc : va_P G vwCl [(aM, .inr (2, [.ref aF, .ref aL, .ref aX, .ref aC, .int z27, .int z28, .int vFo, .ref aN, .int z29])), (aF, .inl (cy 0, 512, .inl f30)), (aL, .inl (cy 0, 512, .inl fL)), (aX, .inl (cy 0, 81, .inl fX)), (aC, .inl (cy 0, 81, .inl fC)), (aN, .inr (3, [.ref aR, .int vn])), (aR, .inl (cy 0, 9, .inl fN))] H := hP.sub [1, 2, 3, 4, 5, 6, 7] rfl
        have hDc : va_D A [(aM, .inr (2, [.ref aF, .ref aL, .ref aX, .ref aC, .int z27, .int z28, .int vFo, .ref aN, .int z29])), (aF, .inl (cy 0, 512, .inl f30)), (aL, .inl (cy 0, 512, .inl fL)), (aX, .inl (cy 0, 81, .inl fX)), (aC, .inl (cy 0, 81, .inl fC)), (aN, .inr (3, [.ref aR, .int vn])), (aR, .inl (cy 0, 9, .inl fN))] := hD.sub [1, 2, 3, 4, 5, 6, 7] (by decide) rfl
        have hFc := va_free (wc := [(aM, .inr (2, [.ref aF, .ref aL, .ref aX, .ref aC, .int z27, .int z28, .int vFo, .ref aN, .int z29])), (aF, .inl (cy 0, 512, .inl f30)), (aL, .inl (cy 0, 512, .inl fL)), (aX, .inl (cy 0, 81, .inl fX)), (aC, .inl (cy 0, 81, .inl fC)), (aN, .inr (3, [.ref aR, .int vn])), (aR, .inl (cy 0, 9, .inl fN))]) hD hS hA [1, 2, 3, 4, 5, 6, 7] rfl
        refine va_calli (va_runU (As := []) (rest := []) ⟨hx, hb, hml, hown, hts⟩ (ct_X5_components_M l G cy aM aF aL aX aC aN aR H.size z27 z28 vFo z29 f30 fL fX fC vn fN Q31 hw9) (va_cwU 0 hts gX8_parts_X5_components_u150X2 rfl rfl rfl rfl (by decide +kernel) ⟨Nat.le_of_ble_eq_true rfl, Nat.le_of_ble_eq_true rfl⟩) (wP_V hK hP (ci := 2) (q0 := 1) rfl rfl hPc hDc) rfl rfl hl.1 rfl (lv_room (Nat.le_of_ble_eq_true rfl)) dX8_parts_31 ⟨Nat.le_of_ble_eq_true rfl, Nat.le_of_ble_eq_true rfl⟩) hS (fun q9 _ h9 => hFc q9 h9) hFc (fun r32 u9 t9 H locs ht9 hvm9 hw9 hB9 hz9 hk9 hS => ?_)
        obtain ⟨z33, z34, f35, f36, f37, f38⟩ := u9
        have hP : va_P G vwCl [(a0, .inr (7, [.ref aN, .ref aM, .ref aP, .ref aW, .ref aT, .int vLe, .int vMo, .int vCo])), (aM, .inr (2, [.ref aF, .ref aL, .ref aX, .ref aC, .int z27, .int z33, .int z34, .ref aN, .int z29])), (aF, .inl (cy 0, 512, .inl f35)), (aL, .inl (cy 0, 512, .inl f36)), (aX, .inl (cy 0, 81, .inl f37)), (aC, .inl (cy 0, 81, .inl f38)), (aN, .inr (3, [.ref aR, .int vn])), (aR, .inl (cy 0, 9, .inl fN))] H := P_back [1, 2, 3, 4, 5, 6, 7] [0] 8 hP hD rfl rfl rfl rfl (by decide) (by decide) hk9 (by rw [← ht9]; exact hB9)
        have hD : va_D A [(a0, .inr (7, [.ref aN, .ref aM, .ref aP, .ref aW, .ref aT, .int vLe, .int vMo, .int vCo])), (aM, .inr (2, [.ref aF, .ref aL, .ref aX, .ref aC, .int z27, .int z33, .int z34, .ref aN, .int z29])), (aF, .inl (cy 0, 512, .inl f35)), (aL, .inl (cy 0, 512, .inl f36)), (aX, .inl (cy 0, 81, .inl f37)), (aC, .inl (cy 0, 81, .inl f38)), (aN, .inr (3, [.ref aR, .int vn])), (aR, .inl (cy 0, 9, .inl fN))] := D_same hD rfl
        specialize h r32 z33 z34 f35 f36 f37 f38 hw9
        rw [← hQe]
        exact W.iret (v := r32) hx hb hr (fun t ht hW => ⟨⟨r32, (z27, z33, z34, z29, f35, f36, f37, f38), rfl, h, by dsimp only; rw [ht]; exact hP⟩, hS.F ht⟩) hS.2.2 dX8_parts_34
    · obtain ⟨h, -⟩ := h
      specialize h c6
      refine lv_iconst (v := (-1)) hx hb dX8_parts_14 (by decide) ?_
      rw [← hQe]
      exact W.iret (v := (-1)) hx hb hr (fun t ht hW => ⟨⟨(-1), (vSz, vTl, vFo, vMv, fF, fL, fX, fC), rfl, h, by dsimp only; rw [ht]; exact hP⟩, hS.F ht⟩) hS.2.2 dX8_parts_15

set_option maxHeartbeats 4000000 in
set_option maxRecDepth 100000 in
theorem ct_X8_shades (l : Launch) (G : va_G) (cy : Nat → ClassId) (a0 aP bF bL bX bC aN aR aM aW aT : Nat) (sz : Nat) (vLe : Int32) (vMo : Int32) (vCo : Int32) (wSz : Int32) (wTl : Int32) (wFo : Int32) (wCo : Int32) (gF : Nat → Int32) (gL : Nat → Int32) (gX : Nat → Int32) (gC : Nat → Int32) (vn : Int32) (fN : Nat → Int32) (p1 : Int32) (p2 : Int32) (Q : Int32 → Int32 → Int32 → Int32 → Int32 → (Nat → Int32) → (Nat → Int32) → (Nat → Int32) → (Nat → Int32) → Prop) (h : wp_X8_shades vCo wSz wTl wFo wCo gF gL gX gC vn fN p1 p2 Q) : Met l yX8_shades wsX8_shades rmX8_shades (va_Pc [.ref a0, .int p1, .int p2] (wP G cy sz [(a0, .inr (7, [.ref aN, .ref aM, .ref aP, .ref aW, .ref aT, .int vLe, .int vMo, .int vCo])), (aP, .inr (4, [.ref bF, .ref bL, .ref bX, .ref bC, .int wSz, .int wTl, .int wFo, .ref aN, .int wCo])), (bF, .inl (cy 0, 4096, .inl gF)), (bL, .inl (cy 0, 4096, .inl gL)), (bX, .inl (cy 0, 24, .inl gX)), (bC, .inl (cy 0, 24, .inl gC)), (aN, .inr (3, [.ref aR, .int vn])), (aR, .inl (cy 0, 9, .inl fN))])) (va_Qi (fun (r : Int32) (u : Int32 × Int32 × Int32 × Int32 × (Nat → Int32) × (Nat → Int32) × (Nat → Int32) × (Nat → Int32)) => Q r u.1 u.2.1 u.2.2.1 u.2.2.2.1 u.2.2.2.2.1 u.2.2.2.2.2.1 u.2.2.2.2.2.2.1 u.2.2.2.2.2.2.2) (fun (u : Int32 × Int32 × Int32 × Int32 × (Nat → Int32) × (Nat → Int32) × (Nat → Int32) × (Nat → Int32)) (t : State) => va_P G vwCl [(a0, .inr (7, [.ref aN, .ref aM, .ref aP, .ref aW, .ref aT, .int vLe, .int vMo, .int vCo])), (aP, .inr (4, [.ref bF, .ref bL, .ref bX, .ref bC, .int u.1, .int u.2.1, .int u.2.2.1, .ref aN, .int u.2.2.2.1])), (bF, .inl (cy 0, 4096, .inl u.2.2.2.2.1)), (bL, .inl (cy 0, 4096, .inl u.2.2.2.2.2.1)), (bX, .inl (cy 0, 24, .inl u.2.2.2.2.2.2.1)), (bC, .inl (cy 0, 24, .inl u.2.2.2.2.2.2.2)), (aN, .inr (3, [.ref aR, .int vn])), (aR, .inl (cy 0, 9, .inl fN))] t.heap) (va_A [(a0, .inr (7, [.ref aN, .ref aM, .ref aP, .ref aW, .ref aT, .int vLe, .int vMo, .int vCo])), (aP, .inr (4, [.ref bF, .ref bL, .ref bX, .ref bC, .int wSz, .int wTl, .int wFo, .ref aN, .int wCo])), (bF, .inl (cy 0, 4096, .inl gF)), (bL, .inl (cy 0, 4096, .inl gL)), (bX, .inl (cy 0, 24, .inl gX)), (bC, .inl (cy 0, 24, .inl gC)), (aN, .inr (3, [.ref aR, .int vn])), (aR, .inl (cy 0, 9, .inl fN))] sz)) 0 0 (va_A [(a0, .inr (7, [.ref aN, .ref aM, .ref aP, .ref aW, .ref aT, .int vLe, .int vMo, .int vCo])), (aP, .inr (4, [.ref bF, .ref bL, .ref bX, .ref bC, .int wSz, .int wTl, .int wFo, .ref aN, .int wCo])), (bF, .inl (cy 0, 4096, .inl gF)), (bL, .inl (cy 0, 4096, .inl gL)), (bX, .inl (cy 0, 24, .inl gX)), (bC, .inl (cy 0, 24, .inl gC)), (aN, .inr (3, [.ref aR, .int vn])), (aR, .inl (cy 0, 9, .inl fN))] sz) := by
  unfold wp_X8_shades at h
  refine Met.ofW (cc := cX8_shades) (maxL := 3) (ret := (some .int)) (by decide) rfl ?_
  intro p e s m args below meth c s₁ B hml hv
  obtain ⟨hav, hsz, hP, hK, hD0⟩ := hv
  have hx := B.exec
  have hb := B.bytes
  have hr := B.returns
  have hts := atoms_spec (ws := wsX8_shades) B.pre
  have hown : s.vm.findClass RX8 = some m.cls := findClass_of_methodNamed B.named
  have hlocks := B.notSynchronized
  subst hsz
  have hD := hD0.self (sz := s.heap.size)
  generalize hAe : va_A [(a0, .inr (7, [.ref aN, .ref aM, .ref aP, .ref aW, .ref aT, .int vLe, .int vMo, .int vCo])), (aP, .inr (4, [.ref bF, .ref bL, .ref bX, .ref bC, .int wSz, .int wTl, .int wFo, .ref aN, .int wCo])), (bF, .inl (cy 0, 4096, .inl gF)), (bL, .inl (cy 0, 4096, .inl gL)), (bX, .inl (cy 0, 24, .inl gX)), (bC, .inl (cy 0, 24, .inl gC)), (aN, .inr (3, [.ref aR, .int vn])), (aR, .inl (cy 0, 9, .inl fN))] s.heap.size = A at hD ⊢
  have hA : ∀ q : Nat, s.heap.size ≤ q → A q := fun q h9 => by rw [← hAe]; exact Or.inr h9
  have hS : va_S A s.heap s.heap [] := va_S.rf
  have hl := lv_entry ([.ref a0, .int p1, .int p2]) (n := 3) (Nat.le_of_ble_eq_true rfl)
  rw [show entryFrame m args 3 = entryFrame m ([.ref a0, .int p1, .int p2] : List Value).toArray 3 by rw [hav], lg_entry_eq]
  generalize (lg_sl ([.ref a0, .int p1, .int p2]) ++ List.replicate (3 - (lg_sl ([.ref a0, .int p1, .int p2])).length) Slot.unset).toArray = ls at hl ⊢
  have hl : lv_has ls 3 [(0, .ref a0), (1, .int p1), (2, .int p2)] := hl
  generalize hQe : MQ below _ _ _ _ _ _ = QM
  have hP : va_P G vwCl [(a0, .inr (7, [.ref aN, .ref aM, .ref aP, .ref aW, .ref aT, .int vLe, .int vMo, .int vCo])), (aP, .inr (4, [.ref bF, .ref bL, .ref bX, .ref bC, .int wSz, .int wTl, .int wFo, .ref aN, .int wCo])), (bF, .inl (cy 0, 4096, .inl gF)), (bL, .inl (cy 0, 4096, .inl gL)), (bX, .inl (cy 0, 24, .inl gX)), (bC, .inl (cy 0, 24, .inl gC)), (aN, .inr (3, [.ref aR, .int vn])), (aR, .inl (cy 0, 9, .inl fN))] s.heap := hP
  have iwX8 : ∀ w ∈ wsX80, w ∈ wsX8_shades := by decide +kernel
  have fl10 := hts (.fieldLink RX8 10 "SlidTokens" "graph" "LSlidTokens$Net;") (by decide +kernel)
  have iwX3 : ∀ w ∈ wsX30, w ∈ wsX8_shades := by decide +kernel
  have fl66 := hts (.fieldLink RX8 66 "SlidTokens$Net" "nodes" "I") (by decide +kernel)
  have fl28 := hts (.fieldLink RX8 28 "SlidTokens" "paints" "LSlidTokens$Paints;") (by decide +kernel)
  have fl59 := hts (.fieldLink RX8 59 "SlidTokens" "colours" "I") (by decide +kernel)
  suffices K9 : ∀ (H : Heap) (locs : List Loc), va_P G vwCl [(a0, .inr (7, [.ref aN, .ref aM, .ref aP, .ref aW, .ref aT, .int vLe, .int vMo, .int vCo])), (aP, .inr (4, [.ref bF, .ref bL, .ref bX, .ref bC, .int wSz, .int wTl, .int wFo, .ref aN, .int wCo])), (bF, .inl (cy 0, 4096, .inl gF)), (bL, .inl (cy 0, 4096, .inl gL)), (bX, .inl (cy 0, 24, .inl gX)), (bC, .inl (cy 0, 24, .inl gC)), (aN, .inr (3, [.ref aR, .int vn])), (aR, .inl (cy 0, 9, .inl fN))] H → va_D A [(a0, .inr (7, [.ref aN, .ref aM, .ref aP, .ref aW, .ref aT, .int vLe, .int vMo, .int vCo])), (aP, .inr (4, [.ref bF, .ref bL, .ref bX, .ref bC, .int wSz, .int wTl, .int wFo, .ref aN, .int wCo])), (bF, .inl (cy 0, 4096, .inl gF)), (bL, .inl (cy 0, 4096, .inl gL)), (bX, .inl (cy 0, 24, .inl gX)), (bC, .inl (cy 0, 24, .inl gC)), (aN, .inr (3, [.ref aR, .int vn])), (aR, .inl (cy 0, 9, .inl fN))] → va_S A s.heap H locs → W p l e (headSpec wsX8_shades rmX8_shades).room s m args below meth c H locs 0 0 QM (F0 m 0 ls []) from K9 _ _ hP hD hS
  clear hP hD hS
  intro H locs hP hD hS
  refine lv_aload_n hx hb dX8_shades_0 rfl (lv_at hl 0 rfl) ?_
  refine va_get (D := G) (ci := 7) (v := .ref aN) (C := RX8) (T := TX8) (N := 8) hx hb hts iwX8 hown hK.1 hP 0 rfl rfl 0 (by decide) fl10 (fun _ h9 => h9) rfl dX8_shades_1 ?_
  refine va_get (D := G) (ci := 3) (v := .int vn) (C := RX3) (T := TX3) (N := 2) hx hb hts iwX3 hown hK.1 hP 6 rfl rfl 1 (by decide) fl66 (fun _ h9 => h9) rfl dX8_shades_4 ?_
  refine lv_bipush (v := 6) hx hb dX8_shades_7 (by decide) ?_
  refine lv_icmp_le (tgt := 15) hx hb dX8_shades_9 (by decide) (fun c1 => ?_) (fun c1 => ?_)
  · obtain ⟨h, -⟩ := h
    specialize h c1
    refine lv_aload_n hx hb dX8_shades_15 rfl (lv_at hl 0 rfl) ?_
    refine va_get (D := G) (ci := 7) (v := .ref aP) (C := RX8) (T := TX8) (N := 8) hx hb hts iwX8 hown hK.1 hP 0 rfl rfl 2 (by decide) fl28 (fun _ h9 => h9) rfl dX8_shades_16 ?_
    refine lv_iload_n hx hb dX8_shades_19 rfl (lv_at hl 1 rfl) ?_
    refine lv_aload_n hx hb dX8_shades_20 rfl (lv_at hl 0 rfl) ?_
    refine va_get (D := G) (ci := 7) (v := .int vCo) (C := RX8) (T := TX8) (N := 8) hx hb hts iwX8 hown hK.1 hP 0 rfl rfl 7 (by decide) fl59 (fun _ h9 => h9) rfl dX8_shades_21 ?_
    obtain ⟨Q2, hw9, h⟩ := h
    have hPc : va_P G vwCl [(aP, .inr (4, [.ref bF, .ref bL, .ref bX, .ref bC, .int wSz, .int wTl, .int wFo, .ref aN, .int wCo])), (bF, .inl (cy 0, 4096, .inl gF)), (bL, .inl (cy 0, 4096, .inl gL)), (bX, .inl (cy 0, 24, .inl gX)), (bC, .inl (cy 0, 24, .inl gC)), (aN, .inr (3, [.ref aR, .int vn])), (aR, .inl (cy 0, 9, .inl fN))] H := hP.sub [1, 2, 3, 4, 5, 6, 7] rfl
    refine vp_callSi (va_Run.run (va_runV (As := [.int p1, .int vCo]) (rest := []) ⟨hx, hb, hml, hown, hts⟩ (ct_X4_isLawful l G cy aP bF bL bX bC aN aR wSz wTl wFo wCo gF gL gX gC vn fN p1 vCo Q2 hw9) (cwV 2 hts gX8_shades_X4_isLawful rfl rfl rfl (by decide +kernel) ⟨Nat.le_of_ble_eq_true rfl, Nat.le_of_ble_eq_true rfl⟩) (rP_V hK hP (ci := 4) (q0 := 1) rfl rfl hPc) rfl rfl hl.1 rfl (lv_room (Nat.le_of_ble_eq_true rfl)) dX8_shades_24 ⟨Nat.le_of_ble_eq_true rfl, Nat.le_of_ble_eq_true rfl⟩)) (fun r3 er3 => ?_)
    specialize h r3 er3
    refine lv_if_eq (tgt := 45) hx hb dX8_shades_27 (by decide) (fun c4 => ?_) (fun c4 => ?_)
    · obtain ⟨h, -⟩ := h
      specialize h c4
      refine lv_iconst (v := (-1)) hx hb dX8_shades_45 (by decide) ?_
      rw [← hQe]
      exact W.iret (v := (-1)) hx hb hr (fun t ht hW => ⟨⟨(-1), (wSz, wTl, wFo, wCo, gF, gL, gX, gC), rfl, h, by dsimp only; rw [ht]; exact hP⟩, hS.F ht⟩) hS.2.2 dX8_shades_46
    · obtain ⟨-, h⟩ := h
      specialize h c4
      refine lv_aload_n hx hb dX8_shades_30 rfl (lv_at hl 0 rfl) ?_
      refine va_get (D := G) (ci := 7) (v := .ref aP) (C := RX8) (T := TX8) (N := 8) hx hb hts iwX8 hown hK.1 hP 0 rfl rfl 2 (by decide) fl28 (fun _ h9 => h9) rfl dX8_shades_31 ?_
      refine lv_iload_n hx hb dX8_shades_34 rfl (lv_at hl 2 rfl) ?_
      refine lv_aload_n hx hb dX8_shades_35 rfl (lv_at hl 0 rfl) ?_
      refine va_get (D := G) (ci := 7) (v := .int vCo) (C := RX8) (T := TX8) (N := 8) hx hb hts iwX8 hown hK.1 hP 0 rfl rfl 7 (by decide) fl59 (fun _ h9 => h9) rfl dX8_shades_36 ?_
      obtain ⟨Q5, hw9, h⟩ := h
      have hPc : va_P G vwCl [(aP, .inr (4, [.ref bF, .ref bL, .ref bX, .ref bC, .int wSz, .int wTl, .int wFo, .ref aN, .int wCo])), (bF, .inl (cy 0, 4096, .inl gF)), (bL, .inl (cy 0, 4096, .inl gL)), (bX, .inl (cy 0, 24, .inl gX)), (bC, .inl (cy 0, 24, .inl gC)), (aN, .inr (3, [.ref aR, .int vn])), (aR, .inl (cy 0, 9, .inl fN))] H := hP.sub [1, 2, 3, 4, 5, 6, 7] rfl
      refine vp_callSi (va_Run.run (va_runV (As := [.int p2, .int vCo]) (rest := []) ⟨hx, hb, hml, hown, hts⟩ (ct_X4_isLawful l G cy aP bF bL bX bC aN aR wSz wTl wFo wCo gF gL gX gC vn fN p2 vCo Q5 hw9) (cwV 2 hts gX8_shades_X4_isLawful rfl rfl rfl (by decide +kernel) ⟨Nat.le_of_ble_eq_true rfl, Nat.le_of_ble_eq_true rfl⟩) (rP_V hK hP (ci := 4) (q0 := 1) rfl rfl hPc) rfl rfl hl.1 rfl (lv_room (Nat.le_of_ble_eq_true rfl)) dX8_shades_39 ⟨Nat.le_of_ble_eq_true rfl, Nat.le_of_ble_eq_true rfl⟩)) (fun r6 er6 => ?_)
      specialize h r6 er6
      refine lv_if_ne (tgt := 47) hx hb dX8_shades_42 (by decide) (fun c7 => ?_) (fun c7 => ?_)
      · obtain ⟨-, h⟩ := h
        specialize h c7
        refine lv_aload_n hx hb dX8_shades_47 rfl (lv_at hl 0 rfl) ?_
        refine va_get (D := G) (ci := 7) (v := .ref aP) (C := RX8) (T := TX8) (N := 8) hx hb hts iwX8 hown hK.1 hP 0 rfl rfl 2 (by decide) fl28 (fun _ h9 => h9) rfl dX8_shades_48 ?_
        refine lv_aload_n hx hb dX8_shades_51 rfl (lv_at hl 0 rfl) ?_
        refine va_get (D := G) (ci := 7) (v := .int vCo) (C := RX8) (T := TX8) (N := 8) hx hb hts iwX8 hown hK.1 hP 0 rfl rfl 7 (by decide) fl59 (fun _ h9 => h9) rfl dX8_shades_52 ?_
        obtain ⟨Q8, hw9, h⟩ := h
        have hPc : va_P G vwCl [(aP, .inr (4, [.ref bF, .ref bL, .ref bX, .ref bC, .int wSz, .int wTl, .int wFo, .ref aN, .int wCo])), (bF, .inl (cy 0, 4096, .inl gF)), (bL, .inl (cy 0, 4096, .inl gL)), (bX, .inl (cy 0, 24, .inl gX)), (bC, .inl (cy 0, 24, .inl gC)), (aN, .inr (3, [.ref aR, .int vn])), (aR, .inl (cy 0, 9, .inl fN))] H := hP.sub [1, 2, 3, 4, 5, 6, 7] rfl
        have hDc : va_D A [(aP, .inr (4, [.ref bF, .ref bL, .ref bX, .ref bC, .int wSz, .int wTl, .int wFo, .ref aN, .int wCo])), (bF, .inl (cy 0, 4096, .inl gF)), (bL, .inl (cy 0, 4096, .inl gL)), (bX, .inl (cy 0, 24, .inl gX)), (bC, .inl (cy 0, 24, .inl gC)), (aN, .inr (3, [.ref aR, .int vn])), (aR, .inl (cy 0, 9, .inl fN))] := hD.sub [1, 2, 3, 4, 5, 6, 7] (by decide) rfl
        have hFc := va_free (wc := [(aP, .inr (4, [.ref bF, .ref bL, .ref bX, .ref bC, .int wSz, .int wTl, .int wFo, .ref aN, .int wCo])), (bF, .inl (cy 0, 4096, .inl gF)), (bL, .inl (cy 0, 4096, .inl gL)), (bX, .inl (cy 0, 24, .inl gX)), (bC, .inl (cy 0, 24, .inl gC)), (aN, .inr (3, [.ref aR, .int vn])), (aR, .inl (cy 0, 9, .inl fN))]) hD hS hA [1, 2, 3, 4, 5, 6, 7] rfl
        refine va_callv (va_runV (As := [.int vCo]) (rest := []) ⟨hx, hb, hml, hown, hts⟩ (ct_X4_begin l G cy aP bF bL bX bC aN aR H.size wSz wTl wFo wCo gF gL gX gC vn fN vCo Q8 hw9) (cwV 1 hts gX8_shades_X4_begin rfl rfl rfl (by decide +kernel) ⟨Nat.le_of_ble_eq_true rfl, Nat.le_of_ble_eq_true rfl⟩) (wP_V hK hP (ci := 4) (q0 := 1) rfl rfl hPc hDc) rfl rfl hl.1 rfl (lv_room (Nat.le_of_ble_eq_true rfl)) dX8_shades_55 ⟨Nat.le_of_ble_eq_true rfl, Nat.le_of_ble_eq_true rfl⟩) hS (fun q9 _ h9 => hFc q9 h9) hFc (fun u9 t9 H locs ht9 hvm9 hw9 hB9 hz9 hk9 hS => ?_)
        obtain ⟨z10, z11, z12, f13⟩ := u9
        have hP : va_P G vwCl [(a0, .inr (7, [.ref aN, .ref aM, .ref aP, .ref aW, .ref aT, .int vLe, .int vMo, .int vCo])), (aP, .inr (4, [.ref bF, .ref bL, .ref bX, .ref bC, .int z10, .int z11, .int wFo, .ref aN, .int z12])), (bF, .inl (cy 0, 4096, .inl f13)), (bL, .inl (cy 0, 4096, .inl gL)), (bX, .inl (cy 0, 24, .inl gX)), (bC, .inl (cy 0, 24, .inl gC)), (aN, .inr (3, [.ref aR, .int vn])), (aR, .inl (cy 0, 9, .inl fN))] H := P_back [1, 2, 3, 4, 5, 6, 7] [0] 8 hP hD rfl rfl rfl rfl (by decide) (by decide) hk9 (by rw [← ht9]; exact hB9)
        have hD : va_D A [(a0, .inr (7, [.ref aN, .ref aM, .ref aP, .ref aW, .ref aT, .int vLe, .int vMo, .int vCo])), (aP, .inr (4, [.ref bF, .ref bL, .ref bX, .ref bC, .int z10, .int z11, .int wFo, .ref aN, .int z12])), (bF, .inl (cy 0, 4096, .inl f13)), (bL, .inl (cy 0, 4096, .inl gL)), (bX, .inl (cy 0, 24, .inl gX)), (bC, .inl (cy 0, 24, .inl gC)), (aN, .inr (3, [.ref aR, .int vn])), (aR, .inl (cy 0, 9, .inl fN))] := D_same hD rfl
        specialize h z10 z11 z12 f13 hw9
        refine lv_aload_n hx hb dX8_shades_58 rfl (lv_at hl 0 rfl) ?_
        refine va_get (D := G) (ci := 7) (v := .ref aP) (C := RX8) (T := TX8) (N := 8) hx hb hts iwX8 hown hK.1 hP 0 rfl rfl 2 (by decide) fl28 (fun _ h9 => h9) rfl dX8_shades_59 ?_
        refine lv_iload_n hx hb dX8_shades_62 rfl (lv_at hl 1 rfl) ?_
        refine lv_iload_n hx hb dX8_shades_63 rfl (lv_at hl 2 rfl) ?_
        obtain ⟨Q14, hw9, h⟩ := h
        have hPc : va_P G vwCl [(aP, .inr (4, [.ref bF, .ref bL, .ref bX, .ref bC, .int z10, .int z11, .int wFo, .ref aN, .int z12])), (bF, .inl (cy 0, 4096, .inl f13)), (bL, .inl (cy 0, 4096, .inl gL)), (bX, .inl (cy 0, 24, .inl gX)), (bC, .inl (cy 0, 24, .inl gC)), (aN, .inr (3, [.ref aR, .int vn])), (aR, .inl (cy 0, 9, .inl fN))] H := hP.sub [1, 2, 3, 4, 5, 6, 7] rfl
        have hDc : va_D A [(aP, .inr (4, [.ref bF, .ref bL, .ref bX, .ref bC, .int z10, .int z11, .int wFo, .ref aN, .int z12])), (bF, .inl (cy 0, 4096, .inl f13)), (bL, .inl (cy 0, 4096, .inl gL)), (bX, .inl (cy 0, 24, .inl gX)), (bC, .inl (cy 0, 24, .inl gC)), (aN, .inr (3, [.ref aR, .int vn])), (aR, .inl (cy 0, 9, .inl fN))] := hD.sub [1, 2, 3, 4, 5, 6, 7] (by decide) rfl
        have hFc := va_free (wc := [(aP, .inr (4, [.ref bF, .ref bL, .ref bX, .ref bC, .int z10, .int z11, .int wFo, .ref aN, .int z12])), (bF, .inl (cy 0, 4096, .inl f13)), (bL, .inl (cy 0, 4096, .inl gL)), (bX, .inl (cy 0, 24, .inl gX)), (bC, .inl (cy 0, 24, .inl gC)), (aN, .inr (3, [.ref aR, .int vn])), (aR, .inl (cy 0, 9, .inl fN))]) hD hS hA [1, 2, 3, 4, 5, 6, 7] rfl
        refine va_calli (va_runU (As := [.int p1, .int p2]) (rest := []) ⟨hx, hb, hml, hown, hts⟩ (ct_X5_fewest_P l G cy aP bF bL bX bC aN aR H.size z10 z11 wFo z12 f13 gL gX gC vn fN p1 p2 Q14 hw9) (va_cwU 2 hts gX8_shades_X5_fewest_u165X4 rfl rfl rfl rfl (by decide +kernel) ⟨Nat.le_of_ble_eq_true rfl, Nat.le_of_ble_eq_true rfl⟩) (wP_V hK hP (ci := 4) (q0 := 1) rfl rfl hPc hDc) rfl rfl hl.1 rfl (lv_room (Nat.le_of_ble_eq_true rfl)) dX8_shades_64 ⟨Nat.le_of_ble_eq_true rfl, Nat.le_of_ble_eq_true rfl⟩) hS (fun q9 _ h9 => hFc q9 h9) hFc (fun r15 u9 t9 H locs ht9 hvm9 hw9 hB9 hz9 hk9 hS => ?_)
        obtain ⟨z16, z17, f18, f19, f20, f21⟩ := u9
        have hP : va_P G vwCl [(a0, .inr (7, [.ref aN, .ref aM, .ref aP, .ref aW, .ref aT, .int vLe, .int vMo, .int vCo])), (aP, .inr (4, [.ref bF, .ref bL, .ref bX, .ref bC, .int z10, .int z16, .int z17, .ref aN, .int z12])), (bF, .inl (cy 0, 4096, .inl f18)), (bL, .inl (cy 0, 4096, .inl f19)), (bX, .inl (cy 0, 24, .inl f20)), (bC, .inl (cy 0, 24, .inl f21)), (aN, .inr (3, [.ref aR, .int vn])), (aR, .inl (cy 0, 9, .inl fN))] H := P_back [1, 2, 3, 4, 5, 6, 7] [0] 8 hP hD rfl rfl rfl rfl (by decide) (by decide) hk9 (by rw [← ht9]; exact hB9)
        have hD : va_D A [(a0, .inr (7, [.ref aN, .ref aM, .ref aP, .ref aW, .ref aT, .int vLe, .int vMo, .int vCo])), (aP, .inr (4, [.ref bF, .ref bL, .ref bX, .ref bC, .int z10, .int z16, .int z17, .ref aN, .int z12])), (bF, .inl (cy 0, 4096, .inl f18)), (bL, .inl (cy 0, 4096, .inl f19)), (bX, .inl (cy 0, 24, .inl f20)), (bC, .inl (cy 0, 24, .inl f21)), (aN, .inr (3, [.ref aR, .int vn])), (aR, .inl (cy 0, 9, .inl fN))] := D_same hD rfl
        specialize h r15 z16 z17 f18 f19 f20 f21 hw9
        rw [← hQe]
        exact W.iret (v := r15) hx hb hr (fun t ht hW => ⟨⟨r15, (z10, z16, z17, z12, f18, f19, f20, f21), rfl, h, by dsimp only; rw [ht]; exact hP⟩, hS.F ht⟩) hS.2.2 dX8_shades_67
      · obtain ⟨h, -⟩ := h
        specialize h c7
        refine lv_iconst (v := (-1)) hx hb dX8_shades_45 (by decide) ?_
        rw [← hQe]
        exact W.iret (v := (-1)) hx hb hr (fun t ht hW => ⟨⟨(-1), (wSz, wTl, wFo, wCo, gF, gL, gX, gC), rfl, h, by dsimp only; rw [ht]; exact hP⟩, hS.F ht⟩) hS.2.2 dX8_shades_46
  · obtain ⟨-, h⟩ := h
    specialize h c1
    refine lv_bipush (v := (-2)) hx hb dX8_shades_12 (by decide) ?_
    rw [← hQe]
    exact W.iret (v := (-2)) hx hb hr (fun t ht hW => ⟨⟨(-2), (wSz, wTl, wFo, wCo, gF, gL, gX, gC), rfl, h, by dsimp only; rw [ht]; exact hP⟩, hS.F ht⟩) hS.2.2 dX8_shades_14

set_option maxHeartbeats 4000000 in
set_option maxRecDepth 100000 in
theorem ct_X8_heaps (l : Launch) (G : va_G) (cy : Nat → ClassId) (a0 aP bF bL bX bC aN aR aM aW aT : Nat) (sz : Nat) (vLe : Int32) (vMo : Int32) (vCo : Int32) (wSz : Int32) (wTl : Int32) (wFo : Int32) (wCo : Int32) (gF : Nat → Int32) (gL : Nat → Int32) (gX : Nat → Int32) (gC : Nat → Int32) (vn : Int32) (fN : Nat → Int32) (p1 : Int32) (Q : Int32 → Int32 → Int32 → Int32 → Int32 → (Nat → Int32) → (Nat → Int32) → (Nat → Int32) → (Nat → Int32) → Prop) (h : wp_X8_heaps vCo wSz wTl wFo wCo gF gL gX gC vn fN p1 Q) : Met l yX8_heaps wsX8_heaps rmX8_heaps (va_Pc [.ref a0, .int p1] (wP G cy sz [(a0, .inr (7, [.ref aN, .ref aM, .ref aP, .ref aW, .ref aT, .int vLe, .int vMo, .int vCo])), (aP, .inr (4, [.ref bF, .ref bL, .ref bX, .ref bC, .int wSz, .int wTl, .int wFo, .ref aN, .int wCo])), (bF, .inl (cy 0, 4096, .inl gF)), (bL, .inl (cy 0, 4096, .inl gL)), (bX, .inl (cy 0, 24, .inl gX)), (bC, .inl (cy 0, 24, .inl gC)), (aN, .inr (3, [.ref aR, .int vn])), (aR, .inl (cy 0, 9, .inl fN))])) (va_Qi (fun (r : Int32) (u : Int32 × Int32 × Int32 × Int32 × (Nat → Int32) × (Nat → Int32) × (Nat → Int32) × (Nat → Int32)) => Q r u.1 u.2.1 u.2.2.1 u.2.2.2.1 u.2.2.2.2.1 u.2.2.2.2.2.1 u.2.2.2.2.2.2.1 u.2.2.2.2.2.2.2) (fun (u : Int32 × Int32 × Int32 × Int32 × (Nat → Int32) × (Nat → Int32) × (Nat → Int32) × (Nat → Int32)) (t : State) => va_P G vwCl [(a0, .inr (7, [.ref aN, .ref aM, .ref aP, .ref aW, .ref aT, .int vLe, .int vMo, .int vCo])), (aP, .inr (4, [.ref bF, .ref bL, .ref bX, .ref bC, .int u.1, .int u.2.1, .int u.2.2.1, .ref aN, .int u.2.2.2.1])), (bF, .inl (cy 0, 4096, .inl u.2.2.2.2.1)), (bL, .inl (cy 0, 4096, .inl u.2.2.2.2.2.1)), (bX, .inl (cy 0, 24, .inl u.2.2.2.2.2.2.1)), (bC, .inl (cy 0, 24, .inl u.2.2.2.2.2.2.2)), (aN, .inr (3, [.ref aR, .int vn])), (aR, .inl (cy 0, 9, .inl fN))] t.heap) (va_A [(a0, .inr (7, [.ref aN, .ref aM, .ref aP, .ref aW, .ref aT, .int vLe, .int vMo, .int vCo])), (aP, .inr (4, [.ref bF, .ref bL, .ref bX, .ref bC, .int wSz, .int wTl, .int wFo, .ref aN, .int wCo])), (bF, .inl (cy 0, 4096, .inl gF)), (bL, .inl (cy 0, 4096, .inl gL)), (bX, .inl (cy 0, 24, .inl gX)), (bC, .inl (cy 0, 24, .inl gC)), (aN, .inr (3, [.ref aR, .int vn])), (aR, .inl (cy 0, 9, .inl fN))] sz)) 0 0 (va_A [(a0, .inr (7, [.ref aN, .ref aM, .ref aP, .ref aW, .ref aT, .int vLe, .int vMo, .int vCo])), (aP, .inr (4, [.ref bF, .ref bL, .ref bX, .ref bC, .int wSz, .int wTl, .int wFo, .ref aN, .int wCo])), (bF, .inl (cy 0, 4096, .inl gF)), (bL, .inl (cy 0, 4096, .inl gL)), (bX, .inl (cy 0, 24, .inl gX)), (bC, .inl (cy 0, 24, .inl gC)), (aN, .inr (3, [.ref aR, .int vn])), (aR, .inl (cy 0, 9, .inl fN))] sz) := by
  unfold wp_X8_heaps at h
  refine Met.ofW (cc := cX8_heaps) (maxL := 2) (ret := (some .int)) (by decide) rfl ?_
  intro p e s m args below meth c s₁ B hml hv
  obtain ⟨hav, hsz, hP, hK, hD0⟩ := hv
  have hx := B.exec
  have hb := B.bytes
  have hr := B.returns
  have hts := atoms_spec (ws := wsX8_heaps) B.pre
  have hown : s.vm.findClass RX8 = some m.cls := findClass_of_methodNamed B.named
  have hlocks := B.notSynchronized
  subst hsz
  have hD := hD0.self (sz := s.heap.size)
  generalize hAe : va_A [(a0, .inr (7, [.ref aN, .ref aM, .ref aP, .ref aW, .ref aT, .int vLe, .int vMo, .int vCo])), (aP, .inr (4, [.ref bF, .ref bL, .ref bX, .ref bC, .int wSz, .int wTl, .int wFo, .ref aN, .int wCo])), (bF, .inl (cy 0, 4096, .inl gF)), (bL, .inl (cy 0, 4096, .inl gL)), (bX, .inl (cy 0, 24, .inl gX)), (bC, .inl (cy 0, 24, .inl gC)), (aN, .inr (3, [.ref aR, .int vn])), (aR, .inl (cy 0, 9, .inl fN))] s.heap.size = A at hD ⊢
  have hA : ∀ q : Nat, s.heap.size ≤ q → A q := fun q h9 => by rw [← hAe]; exact Or.inr h9
  have hS : va_S A s.heap s.heap [] := va_S.rf
  have hl := lv_entry ([.ref a0, .int p1]) (n := 2) (Nat.le_of_ble_eq_true rfl)
  rw [show entryFrame m args 2 = entryFrame m ([.ref a0, .int p1] : List Value).toArray 2 by rw [hav], lg_entry_eq]
  generalize (lg_sl ([.ref a0, .int p1]) ++ List.replicate (2 - (lg_sl ([.ref a0, .int p1])).length) Slot.unset).toArray = ls at hl ⊢
  have hl : lv_has ls 2 [(0, .ref a0), (1, .int p1)] := hl
  generalize hQe : MQ below _ _ _ _ _ _ = QM
  have hP : va_P G vwCl [(a0, .inr (7, [.ref aN, .ref aM, .ref aP, .ref aW, .ref aT, .int vLe, .int vMo, .int vCo])), (aP, .inr (4, [.ref bF, .ref bL, .ref bX, .ref bC, .int wSz, .int wTl, .int wFo, .ref aN, .int wCo])), (bF, .inl (cy 0, 4096, .inl gF)), (bL, .inl (cy 0, 4096, .inl gL)), (bX, .inl (cy 0, 24, .inl gX)), (bC, .inl (cy 0, 24, .inl gC)), (aN, .inr (3, [.ref aR, .int vn])), (aR, .inl (cy 0, 9, .inl fN))] s.heap := hP
  have iwX8 : ∀ w ∈ wsX80, w ∈ wsX8_heaps := by decide +kernel
  have fl10 := hts (.fieldLink RX8 10 "SlidTokens" "graph" "LSlidTokens$Net;") (by decide +kernel)
  have iwX3 : ∀ w ∈ wsX30, w ∈ wsX8_heaps := by decide +kernel
  have fl66 := hts (.fieldLink RX8 66 "SlidTokens$Net" "nodes" "I") (by decide +kernel)
  have fl28 := hts (.fieldLink RX8 28 "SlidTokens" "paints" "LSlidTokens$Paints;") (by decide +kernel)
  have fl59 := hts (.fieldLink RX8 59 "SlidTokens" "colours" "I") (by decide +kernel)
  suffices K9 : ∀ (H : Heap) (locs : List Loc), va_P G vwCl [(a0, .inr (7, [.ref aN, .ref aM, .ref aP, .ref aW, .ref aT, .int vLe, .int vMo, .int vCo])), (aP, .inr (4, [.ref bF, .ref bL, .ref bX, .ref bC, .int wSz, .int wTl, .int wFo, .ref aN, .int wCo])), (bF, .inl (cy 0, 4096, .inl gF)), (bL, .inl (cy 0, 4096, .inl gL)), (bX, .inl (cy 0, 24, .inl gX)), (bC, .inl (cy 0, 24, .inl gC)), (aN, .inr (3, [.ref aR, .int vn])), (aR, .inl (cy 0, 9, .inl fN))] H → va_D A [(a0, .inr (7, [.ref aN, .ref aM, .ref aP, .ref aW, .ref aT, .int vLe, .int vMo, .int vCo])), (aP, .inr (4, [.ref bF, .ref bL, .ref bX, .ref bC, .int wSz, .int wTl, .int wFo, .ref aN, .int wCo])), (bF, .inl (cy 0, 4096, .inl gF)), (bL, .inl (cy 0, 4096, .inl gL)), (bX, .inl (cy 0, 24, .inl gX)), (bC, .inl (cy 0, 24, .inl gC)), (aN, .inr (3, [.ref aR, .int vn])), (aR, .inl (cy 0, 9, .inl fN))] → va_S A s.heap H locs → W p l e (headSpec wsX8_heaps rmX8_heaps).room s m args below meth c H locs 0 0 QM (F0 m 0 ls []) from K9 _ _ hP hD hS
  clear hP hD hS
  intro H locs hP hD hS
  refine lv_iload_n hx hb dX8_heaps_0 rfl (lv_at hl 1 rfl) ?_
  refine lv_iconst (v := 0) hx hb dX8_heaps_1 (by decide) ?_
  refine lv_iconst (v := 2) hx hb dX8_heaps_2 (by decide) ?_
  obtain ⟨Q1, hw9, h⟩ := h
  have hPc : va_P G vwCl [] H := P_nil
  refine vp_callSi (va_Run.run (va_runS (As := [.int p1, .int 0, .int 2]) (rest := []) ⟨hx, hb, hml, hown, hts⟩ (ct_X8_isWithin l G cy p1 0 2 Q1 hw9) (va_cwS 3 hts gX8_heaps_X8_isWithin rfl rfl rfl (by decide +kernel) ⟨Nat.le_of_ble_eq_true rfl, Nat.le_of_ble_eq_true rfl⟩) (rP_S hK hPc) rfl rfl hl.1 rfl (lv_room (Nat.le_of_ble_eq_true rfl)) dX8_heaps_3 ⟨Nat.le_of_ble_eq_true rfl, Nat.le_of_ble_eq_true rfl⟩)) (fun r2 er2 => ?_)
  specialize h r2 er2
  refine lv_if_ne (tgt := 11) hx hb dX8_heaps_6 (by decide) (fun c3 => ?_) (fun c3 => ?_)
  · obtain ⟨-, h⟩ := h
    specialize h c3
    refine lv_aload_n hx hb dX8_heaps_11 rfl (lv_at hl 0 rfl) ?_
    refine va_get (D := G) (ci := 7) (v := .ref aN) (C := RX8) (T := TX8) (N := 8) hx hb hts iwX8 hown hK.1 hP 0 rfl rfl 0 (by decide) fl10 (fun _ h9 => h9) rfl dX8_heaps_12 ?_
    refine va_get (D := G) (ci := 3) (v := .int vn) (C := RX3) (T := TX3) (N := 2) hx hb hts iwX3 hown hK.1 hP 6 rfl rfl 1 (by decide) fl66 (fun _ h9 => h9) rfl dX8_heaps_15 ?_
    refine lv_bipush (v := 6) hx hb dX8_heaps_18 (by decide) ?_
    refine lv_icmp_le (tgt := 26) hx hb dX8_heaps_20 (by decide) (fun c4 => ?_) (fun c4 => ?_)
    · obtain ⟨h, -⟩ := h
      specialize h c4
      refine lv_aload_n hx hb dX8_heaps_26 rfl (lv_at hl 0 rfl) ?_
      refine va_get (D := G) (ci := 7) (v := .ref aP) (C := RX8) (T := TX8) (N := 8) hx hb hts iwX8 hown hK.1 hP 0 rfl rfl 2 (by decide) fl28 (fun _ h9 => h9) rfl dX8_heaps_27 ?_
      refine lv_aload_n hx hb dX8_heaps_30 rfl (lv_at hl 0 rfl) ?_
      refine va_get (D := G) (ci := 7) (v := .int vCo) (C := RX8) (T := TX8) (N := 8) hx hb hts iwX8 hown hK.1 hP 0 rfl rfl 7 (by decide) fl59 (fun _ h9 => h9) rfl dX8_heaps_31 ?_
      obtain ⟨Q5, hw9, h⟩ := h
      have hPc : va_P G vwCl [(aP, .inr (4, [.ref bF, .ref bL, .ref bX, .ref bC, .int wSz, .int wTl, .int wFo, .ref aN, .int wCo])), (bF, .inl (cy 0, 4096, .inl gF)), (bL, .inl (cy 0, 4096, .inl gL)), (bX, .inl (cy 0, 24, .inl gX)), (bC, .inl (cy 0, 24, .inl gC)), (aN, .inr (3, [.ref aR, .int vn])), (aR, .inl (cy 0, 9, .inl fN))] H := hP.sub [1, 2, 3, 4, 5, 6, 7] rfl
      have hDc : va_D A [(aP, .inr (4, [.ref bF, .ref bL, .ref bX, .ref bC, .int wSz, .int wTl, .int wFo, .ref aN, .int wCo])), (bF, .inl (cy 0, 4096, .inl gF)), (bL, .inl (cy 0, 4096, .inl gL)), (bX, .inl (cy 0, 24, .inl gX)), (bC, .inl (cy 0, 24, .inl gC)), (aN, .inr (3, [.ref aR, .int vn])), (aR, .inl (cy 0, 9, .inl fN))] := hD.sub [1, 2, 3, 4, 5, 6, 7] (by decide) rfl
      have hFc := va_free (wc := [(aP, .inr (4, [.ref bF, .ref bL, .ref bX, .ref bC, .int wSz, .int wTl, .int wFo, .ref aN, .int wCo])), (bF, .inl (cy 0, 4096, .inl gF)), (bL, .inl (cy 0, 4096, .inl gL)), (bX, .inl (cy 0, 24, .inl gX)), (bC, .inl (cy 0, 24, .inl gC)), (aN, .inr (3, [.ref aR, .int vn])), (aR, .inl (cy 0, 9, .inl fN))]) hD hS hA [1, 2, 3, 4, 5, 6, 7] rfl
      refine va_callv (va_runV (As := [.int vCo]) (rest := []) ⟨hx, hb, hml, hown, hts⟩ (ct_X4_begin l G cy aP bF bL bX bC aN aR H.size wSz wTl wFo wCo gF gL gX gC vn fN vCo Q5 hw9) (cwV 1 hts gX8_heaps_X4_begin rfl rfl rfl (by decide +kernel) ⟨Nat.le_of_ble_eq_true rfl, Nat.le_of_ble_eq_true rfl⟩) (wP_V hK hP (ci := 4) (q0 := 1) rfl rfl hPc hDc) rfl rfl hl.1 rfl (lv_room (Nat.le_of_ble_eq_true rfl)) dX8_heaps_34 ⟨Nat.le_of_ble_eq_true rfl, Nat.le_of_ble_eq_true rfl⟩) hS (fun q9 _ h9 => hFc q9 h9) hFc (fun u9 t9 H locs ht9 hvm9 hw9 hB9 hz9 hk9 hS => ?_)
      obtain ⟨z7, z8, z9, f10⟩ := u9
      have hP : va_P G vwCl [(a0, .inr (7, [.ref aN, .ref aM, .ref aP, .ref aW, .ref aT, .int vLe, .int vMo, .int vCo])), (aP, .inr (4, [.ref bF, .ref bL, .ref bX, .ref bC, .int z7, .int z8, .int wFo, .ref aN, .int z9])), (bF, .inl (cy 0, 4096, .inl f10)), (bL, .inl (cy 0, 4096, .inl gL)), (bX, .inl (cy 0, 24, .inl gX)), (bC, .inl (cy 0, 24, .inl gC)), (aN, .inr (3, [.ref aR, .int vn])), (aR, .inl (cy 0, 9, .inl fN))] H := P_back [1, 2, 3, 4, 5, 6, 7] [0] 8 hP hD rfl rfl rfl rfl (by decide) (by decide) hk9 (by rw [← ht9]; exact hB9)
      have hD : va_D A [(a0, .inr (7, [.ref aN, .ref aM, .ref aP, .ref aW, .ref aT, .int vLe, .int vMo, .int vCo])), (aP, .inr (4, [.ref bF, .ref bL, .ref bX, .ref bC, .int z7, .int z8, .int wFo, .ref aN, .int z9])), (bF, .inl (cy 0, 4096, .inl f10)), (bL, .inl (cy 0, 4096, .inl gL)), (bX, .inl (cy 0, 24, .inl gX)), (bC, .inl (cy 0, 24, .inl gC)), (aN, .inr (3, [.ref aR, .int vn])), (aR, .inl (cy 0, 9, .inl fN))] := D_same hD rfl
      specialize h z7 z8 z9 f10 hw9
      refine lv_iload_n hx hb dX8_heaps_37 rfl (lv_at hl 1 rfl) ?_
      by_cases c11 : p1 = 0
      · obtain ⟨h, -⟩ := h
        specialize h c11
        refine lv_lookup (off := 26) (tgt := 64) hx hb dX8_heaps_38 (by decide) (by rw [c11]; decide) (by decide) ?_
        refine lv_aload_n hx hb dX8_heaps_64 rfl (lv_at hl 0 rfl) ?_
        refine va_get (D := G) (ci := 7) (v := .ref aP) (C := RX8) (T := TX8) (N := 8) hx hb hts iwX8 hown hK.1 hP 0 rfl rfl 2 (by decide) fl28 (fun _ h9 => h9) rfl dX8_heaps_65 ?_
        obtain ⟨Q12, hw9, h⟩ := h
        have hPc : va_P G vwCl [(aP, .inr (4, [.ref bF, .ref bL, .ref bX, .ref bC, .int z7, .int z8, .int wFo, .ref aN, .int z9])), (bF, .inl (cy 0, 4096, .inl f10)), (bL, .inl (cy 0, 4096, .inl gL)), (bX, .inl (cy 0, 24, .inl gX)), (bC, .inl (cy 0, 24, .inl gC)), (aN, .inr (3, [.ref aR, .int vn])), (aR, .inl (cy 0, 9, .inl fN))] H := hP.sub [1, 2, 3, 4, 5, 6, 7] rfl
        refine vp_callSi (va_Run.run (va_runV (As := []) (rest := []) ⟨hx, hb, hml, hown, hts⟩ (ct_X4_many l G cy aP bF bL bX bC aN aR z7 z8 wFo z9 f10 gL gX gC vn fN Q12 hw9) (cwV 0 hts gX8_heaps_X4_many rfl rfl rfl (by decide +kernel) ⟨Nat.le_of_ble_eq_true rfl, Nat.le_of_ble_eq_true rfl⟩) (rP_V hK hP (ci := 4) (q0 := 1) rfl rfl hPc) rfl rfl hl.1 rfl (lv_room (Nat.le_of_ble_eq_true rfl)) dX8_heaps_68 ⟨Nat.le_of_ble_eq_true rfl, Nat.le_of_ble_eq_true rfl⟩)) (fun r13 er13 => ?_)
        specialize h r13 er13
        rw [← hQe]
        exact W.iret (v := r13) hx hb hr (fun t ht hW => ⟨⟨r13, (z7, z8, wFo, z9, f10, gL, gX, gC), rfl, h, by dsimp only; rw [ht]; exact hP⟩, hS.F ht⟩) hS.2.2 dX8_heaps_71
      · obtain ⟨-, h⟩ := h
        by_cases c14 : p1 = 1
        · obtain ⟨h, -⟩ := h
          specialize h c14
          refine lv_lookup (off := 34) (tgt := 72) hx hb dX8_heaps_38 (by decide) (by rw [c14]; decide) (by decide) ?_
          refine lv_aload_n hx hb dX8_heaps_72 rfl (lv_at hl 0 rfl) ?_
          refine va_get (D := G) (ci := 7) (v := .ref aP) (C := RX8) (T := TX8) (N := 8) hx hb hts iwX8 hown hK.1 hP 0 rfl rfl 2 (by decide) fl28 (fun _ h9 => h9) rfl dX8_heaps_73 ?_
          obtain ⟨Q15, hw9, h⟩ := h
          have hPc : va_P G vwCl [(aP, .inr (4, [.ref bF, .ref bL, .ref bX, .ref bC, .int z7, .int z8, .int wFo, .ref aN, .int z9])), (bF, .inl (cy 0, 4096, .inl f10)), (bL, .inl (cy 0, 4096, .inl gL)), (bX, .inl (cy 0, 24, .inl gX)), (bC, .inl (cy 0, 24, .inl gC)), (aN, .inr (3, [.ref aR, .int vn])), (aR, .inl (cy 0, 9, .inl fN))] H := hP.sub [1, 2, 3, 4, 5, 6, 7] rfl
          have hDc : va_D A [(aP, .inr (4, [.ref bF, .ref bL, .ref bX, .ref bC, .int z7, .int z8, .int wFo, .ref aN, .int z9])), (bF, .inl (cy 0, 4096, .inl f10)), (bL, .inl (cy 0, 4096, .inl gL)), (bX, .inl (cy 0, 24, .inl gX)), (bC, .inl (cy 0, 24, .inl gC)), (aN, .inr (3, [.ref aR, .int vn])), (aR, .inl (cy 0, 9, .inl fN))] := hD.sub [1, 2, 3, 4, 5, 6, 7] (by decide) rfl
          have hFc := va_free (wc := [(aP, .inr (4, [.ref bF, .ref bL, .ref bX, .ref bC, .int z7, .int z8, .int wFo, .ref aN, .int z9])), (bF, .inl (cy 0, 4096, .inl f10)), (bL, .inl (cy 0, 4096, .inl gL)), (bX, .inl (cy 0, 24, .inl gX)), (bC, .inl (cy 0, 24, .inl gC)), (aN, .inr (3, [.ref aR, .int vn])), (aR, .inl (cy 0, 9, .inl fN))]) hD hS hA [1, 2, 3, 4, 5, 6, 7] rfl
          refine va_calli (va_runV (As := []) (rest := []) ⟨hx, hb, hml, hown, hts⟩ (ct_X4_stuck l G cy aP bF bL bX bC aN aR H.size z7 z8 wFo z9 f10 gL gX gC vn fN Q15 hw9) (cwV 0 hts gX8_heaps_X4_stuck rfl rfl rfl (by decide +kernel) ⟨Nat.le_of_ble_eq_true rfl, Nat.le_of_ble_eq_true rfl⟩) (wP_V hK hP (ci := 4) (q0 := 1) rfl rfl hPc hDc) rfl rfl hl.1 rfl (lv_room (Nat.le_of_ble_eq_true rfl)) dX8_heaps_76 ⟨Nat.le_of_ble_eq_true rfl, Nat.le_of_ble_eq_true rfl⟩) hS (fun q9 _ h9 => hFc q9 h9) hFc (fun r16 u9 t9 H locs ht9 hvm9 hw9 hB9 hz9 hk9 hS => ?_)
          obtain ⟨z17, f18, f19⟩ := u9
          have hP : va_P G vwCl [(a0, .inr (7, [.ref aN, .ref aM, .ref aP, .ref aW, .ref aT, .int vLe, .int vMo, .int vCo])), (aP, .inr (4, [.ref bF, .ref bL, .ref bX, .ref bC, .int z7, .int z8, .int z17, .ref aN, .int z9])), (bF, .inl (cy 0, 4096, .inl f10)), (bL, .inl (cy 0, 4096, .inl gL)), (bX, .inl (cy 0, 24, .inl f18)), (bC, .inl (cy 0, 24, .inl f19)), (aN, .inr (3, [.ref aR, .int vn])), (aR, .inl (cy 0, 9, .inl fN))] H := P_back [1, 2, 3, 4, 5, 6, 7] [0] 8 hP hD rfl rfl rfl rfl (by decide) (by decide) hk9 (by rw [← ht9]; exact hB9)
          have hD : va_D A [(a0, .inr (7, [.ref aN, .ref aM, .ref aP, .ref aW, .ref aT, .int vLe, .int vMo, .int vCo])), (aP, .inr (4, [.ref bF, .ref bL, .ref bX, .ref bC, .int z7, .int z8, .int z17, .ref aN, .int z9])), (bF, .inl (cy 0, 4096, .inl f10)), (bL, .inl (cy 0, 4096, .inl gL)), (bX, .inl (cy 0, 24, .inl f18)), (bC, .inl (cy 0, 24, .inl f19)), (aN, .inr (3, [.ref aR, .int vn])), (aR, .inl (cy 0, 9, .inl fN))] := D_same hD rfl
          specialize h r16 z17 f18 f19 hw9
          rw [← hQe]
          exact W.iret (v := r16) hx hb hr (fun t ht hW => ⟨⟨r16, (z7, z8, z17, z9, f10, gL, f18, f19), rfl, h, by dsimp only; rw [ht]; exact hP⟩, hS.F ht⟩) hS.2.2 dX8_heaps_79
        · obtain ⟨-, h⟩ := h
          specialize h c11 c14
          refine lv_lookup (off := 42) (tgt := 80) hx hb dX8_heaps_38 (by decide) (by rw [lv_osw (k := 0) c11 (by decide)]; rw [lv_osw (k := 1) c14 (by decide)]; rfl) (by decide) ?_
          refine lv_aload_n hx hb dX8_heaps_80 rfl (lv_at hl 0 rfl) ?_
          refine va_get (D := G) (ci := 7) (v := .ref aP) (C := RX8) (T := TX8) (N := 8) hx hb hts iwX8 hown hK.1 hP 0 rfl rfl 2 (by decide) fl28 (fun _ h9 => h9) rfl dX8_heaps_81 ?_
          obtain ⟨Q20, hw9, h⟩ := h
          have hPc : va_P G vwCl [(aP, .inr (4, [.ref bF, .ref bL, .ref bX, .ref bC, .int z7, .int z8, .int wFo, .ref aN, .int z9])), (bF, .inl (cy 0, 4096, .inl f10)), (bL, .inl (cy 0, 4096, .inl gL)), (bX, .inl (cy 0, 24, .inl gX)), (bC, .inl (cy 0, 24, .inl gC)), (aN, .inr (3, [.ref aR, .int vn])), (aR, .inl (cy 0, 9, .inl fN))] H := hP.sub [1, 2, 3, 4, 5, 6, 7] rfl
          have hDc : va_D A [(aP, .inr (4, [.ref bF, .ref bL, .ref bX, .ref bC, .int z7, .int z8, .int wFo, .ref aN, .int z9])), (bF, .inl (cy 0, 4096, .inl f10)), (bL, .inl (cy 0, 4096, .inl gL)), (bX, .inl (cy 0, 24, .inl gX)), (bC, .inl (cy 0, 24, .inl gC)), (aN, .inr (3, [.ref aR, .int vn])), (aR, .inl (cy 0, 9, .inl fN))] := hD.sub [1, 2, 3, 4, 5, 6, 7] (by decide) rfl
          have hFc := va_free (wc := [(aP, .inr (4, [.ref bF, .ref bL, .ref bX, .ref bC, .int z7, .int z8, .int wFo, .ref aN, .int z9])), (bF, .inl (cy 0, 4096, .inl f10)), (bL, .inl (cy 0, 4096, .inl gL)), (bX, .inl (cy 0, 24, .inl gX)), (bC, .inl (cy 0, 24, .inl gC)), (aN, .inr (3, [.ref aR, .int vn])), (aR, .inl (cy 0, 9, .inl fN))]) hD hS hA [1, 2, 3, 4, 5, 6, 7] rfl
          refine va_calli (va_runU (As := []) (rest := []) ⟨hx, hb, hml, hown, hts⟩ (ct_X5_components_P l G cy aP bF bL bX bC aN aR H.size z7 z8 wFo z9 f10 gL gX gC vn fN Q20 hw9) (va_cwU 0 hts gX8_heaps_X5_components_u172X4 rfl rfl rfl rfl (by decide +kernel) ⟨Nat.le_of_ble_eq_true rfl, Nat.le_of_ble_eq_true rfl⟩) (wP_V hK hP (ci := 4) (q0 := 1) rfl rfl hPc hDc) rfl rfl hl.1 rfl (lv_room (Nat.le_of_ble_eq_true rfl)) dX8_heaps_84 ⟨Nat.le_of_ble_eq_true rfl, Nat.le_of_ble_eq_true rfl⟩) hS (fun q9 _ h9 => hFc q9 h9) hFc (fun r21 u9 t9 H locs ht9 hvm9 hw9 hB9 hz9 hk9 hS => ?_)
          obtain ⟨z22, z23, f24, f25, f26, f27⟩ := u9
          have hP : va_P G vwCl [(a0, .inr (7, [.ref aN, .ref aM, .ref aP, .ref aW, .ref aT, .int vLe, .int vMo, .int vCo])), (aP, .inr (4, [.ref bF, .ref bL, .ref bX, .ref bC, .int z7, .int z22, .int z23, .ref aN, .int z9])), (bF, .inl (cy 0, 4096, .inl f24)), (bL, .inl (cy 0, 4096, .inl f25)), (bX, .inl (cy 0, 24, .inl f26)), (bC, .inl (cy 0, 24, .inl f27)), (aN, .inr (3, [.ref aR, .int vn])), (aR, .inl (cy 0, 9, .inl fN))] H := P_back [1, 2, 3, 4, 5, 6, 7] [0] 8 hP hD rfl rfl rfl rfl (by decide) (by decide) hk9 (by rw [← ht9]; exact hB9)
          have hD : va_D A [(a0, .inr (7, [.ref aN, .ref aM, .ref aP, .ref aW, .ref aT, .int vLe, .int vMo, .int vCo])), (aP, .inr (4, [.ref bF, .ref bL, .ref bX, .ref bC, .int z7, .int z22, .int z23, .ref aN, .int z9])), (bF, .inl (cy 0, 4096, .inl f24)), (bL, .inl (cy 0, 4096, .inl f25)), (bX, .inl (cy 0, 24, .inl f26)), (bC, .inl (cy 0, 24, .inl f27)), (aN, .inr (3, [.ref aR, .int vn])), (aR, .inl (cy 0, 9, .inl fN))] := D_same hD rfl
          specialize h r21 z22 z23 f24 f25 f26 f27 hw9
          rw [← hQe]
          exact W.iret (v := r21) hx hb hr (fun t ht hW => ⟨⟨r21, (z7, z22, z23, z9, f24, f25, f26, f27), rfl, h, by dsimp only; rw [ht]; exact hP⟩, hS.F ht⟩) hS.2.2 dX8_heaps_87
    · obtain ⟨-, h⟩ := h
      specialize h c4
      refine lv_bipush (v := (-2)) hx hb dX8_heaps_23 (by decide) ?_
      rw [← hQe]
      exact W.iret (v := (-2)) hx hb hr (fun t ht hW => ⟨⟨(-2), (wSz, wTl, wFo, wCo, gF, gL, gX, gC), rfl, h, by dsimp only; rw [ht]; exact hP⟩, hS.F ht⟩) hS.2.2 dX8_heaps_25
  · obtain ⟨h, -⟩ := h
    specialize h c3
    refine lv_iconst (v := (-1)) hx hb dX8_heaps_9 (by decide) ?_
    rw [← hQe]
    exact W.iret (v := (-1)) hx hb hr (fun t ht hW => ⟨⟨(-1), (wSz, wTl, wFo, wCo, gF, gL, gX, gC), rfl, h, by dsimp only; rw [ht]; exact hP⟩, hS.F ht⟩) hS.2.2 dX8_heaps_10
