set_option maxHeartbeats 4000000 in
set_option maxRecDepth 100000 in
theorem ct_X4_isColouring (l : Launch) (G : va_G) (cy : Nat → ClassId) (aP bF bL bX aN aR : Nat) (wSz : Int32) (wTl : Int32) (wFo : Int32) (wCo : Int32) (gF : Nat → Int32) (gL : Nat → Int32) (gX : Nat → Int32) (vn : Int32) (fN : Nat → Int32) (p1 : Int32) (p2 : Int32) (Q : Int32 → Prop) (h : wp_X4_isColouring vn p1 p2 Q) : Met l yX4_isColouring wsX4_isColouring rmX4_isColouring (va_Pc [.ref aP, .int p1, .int p2] (rP G cy [(aP, .inr (4, [.ref bF, .ref bL, .ref bX, .int wSz, .int wTl, .int wFo, .ref aN, .int wCo])), (bF, .inl (cy 0, 4096, .inl gF)), (bL, .inl (cy 0, 4096, .inl gL)), (bX, .inl (cy 0, 24, .inl gX)), (aN, .inr (3, [.ref aR, .int vn])), (aR, .inl (cy 0, 9, .inl fN))])) (vp_Si Q) 0 0 (fun _ => False) := by
  unfold wp_X4_isColouring at h
  refine Met.ofW (cc := cX4_isColouring) (maxL := 4) (ret := (some .boolean)) (by decide) rfl ?_
  intro p e s m args below meth c s₁ B hml hv
  obtain ⟨hav, hP, hK⟩ := hv
  have hx := B.exec
  have hb := B.bytes
  have hr := B.returns
  have hts := atoms_spec (ws := wsX4_isColouring) B.pre
  have hown : s.vm.findClass RX4 = some m.cls := findClass_of_methodNamed B.named
  have hlocks := B.notSynchronized
  have hl := lv_entry ([.ref aP, .int p1, .int p2]) (n := 4) (Nat.le_of_ble_eq_true rfl)
  rw [show entryFrame m args 4 = entryFrame m ([.ref aP, .int p1, .int p2] : List Value).toArray 4 by rw [hav], lg_entry_eq]
  generalize (lg_sl ([.ref aP, .int p1, .int p2]) ++ List.replicate (4 - (lg_sl ([.ref aP, .int p1, .int p2])).length) Slot.unset).toArray = ls at hl ⊢
  have hl : lv_has ls 4 [(0, .ref aP), (1, .int p1), (2, .int p2)] := hl
  generalize hQe : MQ below _ _ _ _ _ _ = QM
  have iwX4 : ∀ w ∈ wsX40, w ∈ wsX4_isColouring := by decide +kernel
  have fl15 := hts (.fieldLink RX4 15 "SlidTokens$Paints" "net" "LSlidTokens$Net;") (by decide +kernel)
  have iwX3 : ∀ w ∈ wsX30, w ∈ wsX4_isColouring := by decide +kernel
  have fl19 := hts (.fieldLink RX4 19 "SlidTokens$Net" "nodes" "I") (by decide +kernel)
  refine lv_iload_n hx hb dX4_isColouring_0 rfl (lv_at hl 1 rfl) ?_
  refine lv_if_lt (tgt := 19) hx hb dX4_isColouring_1 (by decide) (fun c1 => ?_) (fun c1 => ?_)
  · obtain ⟨h, -⟩ := h
    specialize h c1
    refine lv_iconst (v := 0) hx hb dX4_isColouring_19 (by decide) ?_
    rw [← hQe]
    exact W.zret (v := 0) hx hb hr rfl (fun t ht hW => ⟨0, rfl, h, ht⟩) (fun q9 h9 => by cases h9) dX4_isColouring_20
  · obtain ⟨-, h⟩ := h
    specialize h c1
    refine lv_iload_n hx hb dX4_isColouring_4 rfl (lv_at hl 1 rfl) ?_
    refine lv_iconst (v := 1) hx hb dX4_isColouring_5 (by decide) ?_
    refine lv_iconst (v := 2) hx hb dX4_isColouring_6 (by decide) ?_
    refine lv_aload_n hx hb dX4_isColouring_7 rfl (lv_at hl 0 rfl) ?_
    refine va_get (D := G) (ci := 4) (v := .ref aN) (C := RX4) (T := TX4) (N := 8) hx hb hts iwX4 hown hK.1 hP 0 rfl rfl 6 (by decide) fl15 (fun _ h9 => h9) rfl dX4_isColouring_8 ?_
    refine va_get (D := G) (ci := 3) (v := .int vn) (C := RX3) (T := TX3) (N := 2) hx hb hts iwX3 hown hK.1 hP 4 rfl rfl 1 (by decide) fl19 (fun _ h9 => h9) rfl dX4_isColouring_11 ?_
    refine lv_imul hx hb dX4_isColouring_14 ?_
    refine lv_ishl hx hb dX4_isColouring_15 ?_
    refine lv_icmp_lt (tgt := 21) hx hb dX4_isColouring_16 (by decide) (fun c2 => ?_) (fun c2 => ?_)
    · obtain ⟨h, -⟩ := h
      specialize h c2
      refine lv_iconst (v := 0) hx hb dX4_isColouring_21 (by decide) ?_
      refine lv_istore_n (lv' := [(3, .int 0), (0, .ref aP), (1, .int p1), (2, .int p2)]) hx hb dX4_isColouring_22 rfl hl (by decide) rfl (fun ls hl => ?_)
      obtain ⟨I23_3, u23_3, h023, hst23⟩ := h
      have key23 : ∀ (k9 : Nat) (y3 : Int32), I23_3 y3 → u23_3 y3 < k9 → ∀ (ls : Array Slot), lv_has ls 4 [(0, .ref aP), (1, .int p1), (2, .int p2), (3, .int y3)] → W p l e (headSpec wsX4_isColouring rmX4_isColouring).room s m args below meth c s.heap [] 0 0 QM (F0 m 23 ls []) := by
        intro k9
        induction k9 with
        | zero =>
          intro y3 hI9 hk9
          exact absurd hk9 (Nat.not_lt_zero _)
        | succ k9 ih23 =>
          intro y3 hI9 hk23 ls hl
          have h := hst23 y3 hI9
          refine lv_iload_n hx hb dX4_isColouring_23 rfl (lv_at hl 3 rfl) ?_
          refine lv_aload_n hx hb dX4_isColouring_24 rfl (lv_at hl 0 rfl) ?_
          refine va_get (D := G) (ci := 4) (v := .ref aN) (C := RX4) (T := TX4) (N := 8) hx hb hts iwX4 hown hK.1 hP 0 rfl rfl 6 (by decide) fl15 (fun _ h9 => h9) rfl dX4_isColouring_25 ?_
          refine va_get (D := G) (ci := 3) (v := .int vn) (C := RX3) (T := TX3) (N := 2) hx hb hts iwX3 hown hK.1 hP 4 rfl rfl 1 (by decide) fl19 (fun _ h9 => h9) rfl dX4_isColouring_28 ?_
          refine lv_icmp_ge (tgt := 51) hx hb dX4_isColouring_31 (by decide) (fun c4 => ?_) (fun c4 => ?_)
          · obtain ⟨h, -⟩ := h
            specialize h c4
            refine lv_iconst (v := 1) hx hb dX4_isColouring_51 (by decide) ?_
            rw [← hQe]
            exact W.zret (v := 1) hx hb hr rfl (fun t ht hW => ⟨1, rfl, h, ht⟩) (fun q9 h9 => by cases h9) dX4_isColouring_52
          · obtain ⟨-, h⟩ := h
            specialize h c4
            refine lv_iload_n hx hb dX4_isColouring_34 rfl (lv_at hl 1 rfl) ?_
            refine lv_iload_n hx hb dX4_isColouring_35 rfl (lv_at hl 3 rfl) ?_
            obtain ⟨Q5, hw9, h⟩ := h
            have hPc : va_P G vwCl [] s.heap := P_nil
            refine vp_callSi (va_Run.run (va_runS (As := [.int p1, .int y3]) (rest := []) ⟨hx, hb, hml, hown, hts⟩ (ct_X4_colourOf l G cy p1 y3 Q5 hw9) (va_cwS 2 hts gX4_isColouring_X4_colourOf rfl rfl rfl (by decide +kernel) ⟨Nat.le_of_ble_eq_true rfl, Nat.le_of_ble_eq_true rfl⟩) (rP_S hK hPc) rfl rfl hl.1 rfl (lv_room (Nat.le_of_ble_eq_true rfl)) dX4_isColouring_36 ⟨Nat.le_of_ble_eq_true rfl, Nat.le_of_ble_eq_true rfl⟩)) (fun r6 er6 => ?_)
            specialize h r6 er6
            refine lv_iload_n hx hb dX4_isColouring_39 rfl (lv_at hl 2 rfl) ?_
            refine lv_icmp_lt (tgt := 45) hx hb dX4_isColouring_40 (by decide) (fun c7 => ?_) (fun c7 => ?_)
            · obtain ⟨h, -⟩ := h
              specialize h c7
              obtain ⟨x8, ex8⟩ : ∃ y : Int32, y = y3 + 1 := ⟨_, rfl⟩
              specialize h x8 ex8
              refine lv_iinc (v := x8) (lv' := [(3, .int x8), (0, .ref aP), (1, .int p1), (2, .int p2)]) hx hb dX4_isColouring_45 hl (k := 3) rfl (by rw [ex8]; rfl) (by decide) rfl (fun ls hl => ?_)
              refine lv_goto (tgt := 23) hx hb dX4_isColouring_48 (by decide) ?_
              exact ih23 x8 h.1 (Nat.lt_of_lt_of_le h.2 (Nat.le_of_lt_succ hk23)) _ (lv_sub hl [1, 2, 3, 0] rfl)
            · obtain ⟨-, h⟩ := h
              specialize h c7
              refine lv_iconst (v := 0) hx hb dX4_isColouring_43 (by decide) ?_
              rw [← hQe]
              exact W.zret (v := 0) hx hb hr rfl (fun t ht hW => ⟨0, rfl, h, ht⟩) (fun q9 h9 => by cases h9) dX4_isColouring_44
      exact key23 _ 0 h023 (Nat.lt_succ_self _) _ (lv_sub hl [1, 2, 3, 0] rfl)
    · obtain ⟨-, h⟩ := h
      specialize h c2
      refine lv_iconst (v := 0) hx hb dX4_isColouring_19 (by decide) ?_
      rw [← hQe]
      exact W.zret (v := 0) hx hb hr rfl (fun t ht hW => ⟨0, rfl, h, ht⟩) (fun q9 h9 => by cases h9) dX4_isColouring_20

set_option maxHeartbeats 4000000 in
set_option maxRecDepth 100000 in
theorem ct_X4_differs (l : Launch) (G : va_G) (cy : Nat → ClassId) (aP bF bL bX aN aR : Nat) (wSz : Int32) (wTl : Int32) (wFo : Int32) (wCo : Int32) (gF : Nat → Int32) (gL : Nat → Int32) (gX : Nat → Int32) (vn : Int32) (fN : Nat → Int32) (p1 : Int32) (Q : Int32 → Prop) (h : wp_X4_differs vn fN p1 Q) : Met l yX4_differs wsX4_differs rmX4_differs (va_Pc [.ref aP, .int p1] (rP G cy [(aP, .inr (4, [.ref bF, .ref bL, .ref bX, .int wSz, .int wTl, .int wFo, .ref aN, .int wCo])), (bF, .inl (cy 0, 4096, .inl gF)), (bL, .inl (cy 0, 4096, .inl gL)), (bX, .inl (cy 0, 24, .inl gX)), (aN, .inr (3, [.ref aR, .int vn])), (aR, .inl (cy 0, 9, .inl fN))])) (vp_Si Q) 0 0 (fun _ => False) := by
  unfold wp_X4_differs at h
  refine Met.ofW (cc := cX4_differs) (maxL := 5) (ret := (some .boolean)) (by decide) rfl ?_
  intro p e s m args below meth c s₁ B hml hv
  obtain ⟨hav, hP, hK⟩ := hv
  have hx := B.exec
  have hb := B.bytes
  have hr := B.returns
  have hts := atoms_spec (ws := wsX4_differs) B.pre
  have hown : s.vm.findClass RX4 = some m.cls := findClass_of_methodNamed B.named
  have hlocks := B.notSynchronized
  have hl := lv_entry ([.ref aP, .int p1]) (n := 5) (Nat.le_of_ble_eq_true rfl)
  rw [show entryFrame m args 5 = entryFrame m ([.ref aP, .int p1] : List Value).toArray 5 by rw [hav], lg_entry_eq]
  generalize (lg_sl ([.ref aP, .int p1]) ++ List.replicate (5 - (lg_sl ([.ref aP, .int p1])).length) Slot.unset).toArray = ls at hl ⊢
  have hl : lv_has ls 5 [(0, .ref aP), (1, .int p1)] := hl
  generalize hQe : MQ below _ _ _ _ _ _ = QM
  have iwX4 : ∀ w ∈ wsX40, w ∈ wsX4_differs := by decide +kernel
  have fl15 := hts (.fieldLink RX4 15 "SlidTokens$Paints" "net" "LSlidTokens$Net;") (by decide +kernel)
  have iwX3 : ∀ w ∈ wsX30, w ∈ wsX4_differs := by decide +kernel
  have fl19 := hts (.fieldLink RX4 19 "SlidTokens$Net" "nodes" "I") (by decide +kernel)
  have fl54 := hts (.fieldLink RX4 54 "SlidTokens$Net" "near" "[I") (by decide +kernel)
  refine lv_iconst (v := 0) hx hb dX4_differs_0 (by decide) ?_
  refine lv_istore_n (lv' := [(2, .int 0), (0, .ref aP), (1, .int p1)]) hx hb dX4_differs_1 rfl hl (by decide) rfl (fun ls hl => ?_)
  obtain ⟨I2_1, u2_1, h02, hst2⟩ := h
  have key2 : ∀ (k9 : Nat) (y1 : Int32), I2_1 y1 → u2_1 y1 < k9 → ∀ (ls : Array Slot), lv_has ls 5 [(0, .ref aP), (1, .int p1), (2, .int y1)] → W p l e (headSpec wsX4_differs rmX4_differs).room s m args below meth c s.heap [] 0 0 QM (F0 m 2 ls []) := by
    intro k9
    induction k9 with
    | zero =>
      intro y1 hI9 hk9
      exact absurd hk9 (Nat.not_lt_zero _)
    | succ k9 ih2 =>
      intro y1 hI9 hk2 ls hl
      have h := hst2 y1 hI9
      refine lv_iload_n hx hb dX4_differs_2 rfl (lv_at hl 2 rfl) ?_
      refine lv_aload_n hx hb dX4_differs_3 rfl (lv_at hl 0 rfl) ?_
      refine va_get (D := G) (ci := 4) (v := .ref aN) (C := RX4) (T := TX4) (N := 8) hx hb hts iwX4 hown hK.1 hP 0 rfl rfl 6 (by decide) fl15 (fun _ h9 => h9) rfl dX4_differs_4 ?_
      refine va_get (D := G) (ci := 3) (v := .int vn) (C := RX3) (T := TX3) (N := 2) hx hb hts iwX3 hown hK.1 hP 4 rfl rfl 1 (by decide) fl19 (fun _ h9 => h9) rfl dX4_differs_7 ?_
      refine lv_icmp_ge (tgt := 85) hx hb dX4_differs_10 (by decide) (fun c2 => ?_) (fun c2 => ?_)
      · obtain ⟨h, -⟩ := h
        specialize h c2
        refine lv_iconst (v := 1) hx hb dX4_differs_85 (by decide) ?_
        rw [← hQe]
        exact W.zret (v := 1) hx hb hr rfl (fun t ht hW => ⟨1, rfl, h, ht⟩) (fun q9 h9 => by cases h9) dX4_differs_86
      · obtain ⟨-, h⟩ := h
        specialize h c2
        refine lv_aload_n hx hb dX4_differs_13 rfl (lv_at hl 0 rfl) ?_
        refine va_get (D := G) (ci := 4) (v := .ref aN) (C := RX4) (T := TX4) (N := 8) hx hb hts iwX4 hown hK.1 hP 0 rfl rfl 6 (by decide) fl15 (fun _ h9 => h9) rfl dX4_differs_14 ?_
        refine va_get (D := G) (ci := 3) (v := .ref aR) (C := RX3) (T := TX3) (N := 2) hx hb hts iwX3 hown hK.1 hP 4 rfl rfl 0 (by decide) fl54 (fun _ h9 => h9) rfl dX4_differs_17 ?_
        refine lv_iload_n hx hb dX4_differs_20 rfl (lv_at hl 2 rfl) ?_
        obtain ⟨hi, h⟩ := h
        refine va_iald hx hb hK.1 hP 5 0 rfl rfl hi dX4_differs_21 ?_
        refine lv_topi (fun x3 ex3 => ?_)
        specialize h x3 ex3
        refine lv_istore_n (lv' := [(3, .int x3), (0, .ref aP), (1, .int p1), (2, .int y1)]) hx hb dX4_differs_22 rfl hl (by decide) rfl (fun ls hl => ?_)
        refine lv_iload_n hx hb dX4_differs_23 rfl (lv_at hl 3 rfl) ?_
        refine lv_iconst (v := 1) hx hb dX4_differs_24 (by decide) ?_
        refine lv_iadd hx hb dX4_differs_25 ?_
        refine lv_topi (fun x4 ex4 => ?_)
        specialize h x4 ex4
        refine lv_istore (lv' := [(4, .int x4), (3, .int x3), (0, .ref aP), (1, .int p1), (2, .int y1)]) hx hb dX4_differs_26 hl (by decide) rfl (fun ls hl => ?_)
        obtain ⟨I28_5, u28_5, h028, hst28⟩ := h
        have key28 : ∀ (k9 : Nat) (y5 : Int32), I28_5 y5 → u28_5 y5 < k9 → ∀ (ls : Array Slot), lv_has ls 5 [(0, .ref aP), (1, .int p1), (2, .int y1), (3, .int x3), (4, .int y5)] → W p l e (headSpec wsX4_differs rmX4_differs).room s m args below meth c s.heap [] 0 0 QM (F0 m 28 ls []) := by
          intro k9
          induction k9 with
          | zero =>
            intro y5 hI9 hk9
            exact absurd hk9 (Nat.not_lt_zero _)
          | succ k9 ih28 =>
            intro y5 hI9 hk28 ls hl
            have h := hst28 y5 hI9
            refine lv_iload hx hb dX4_differs_28 (lv_at hl 4 rfl) ?_
            refine lv_aload_n hx hb dX4_differs_30 rfl (lv_at hl 0 rfl) ?_
            refine va_get (D := G) (ci := 4) (v := .ref aN) (C := RX4) (T := TX4) (N := 8) hx hb hts iwX4 hown hK.1 hP 0 rfl rfl 6 (by decide) fl15 (fun _ h9 => h9) rfl dX4_differs_31 ?_
            refine va_get (D := G) (ci := 3) (v := .int vn) (C := RX3) (T := TX3) (N := 2) hx hb hts iwX3 hown hK.1 hP 4 rfl rfl 1 (by decide) fl19 (fun _ h9 => h9) rfl dX4_differs_34 ?_
            refine lv_icmp_ge (tgt := 79) hx hb dX4_differs_37 (by decide) (fun c6 => ?_) (fun c6 => ?_)
            · obtain ⟨h, -⟩ := h
              specialize h c6
              obtain ⟨x7, ex7⟩ : ∃ y : Int32, y = y1 + 1 := ⟨_, rfl⟩
              specialize h x7 ex7
              refine lv_iinc (v := x7) (lv' := [(2, .int x7), (0, .ref aP), (1, .int p1), (3, .int x3), (4, .int y5)]) hx hb dX4_differs_79 hl (k := 2) rfl (by rw [ex7]; rfl) (by decide) rfl (fun ls hl => ?_)
              refine lv_goto (tgt := 2) hx hb dX4_differs_82 (by decide) ?_
              exact ih2 x7 h.1 (Nat.lt_of_lt_of_le h.2 (Nat.le_of_lt_succ hk2)) _ (lv_sub hl [1, 2, 0] rfl)
            · obtain ⟨-, h⟩ := h
              specialize h c6
              refine lv_iload_n hx hb dX4_differs_40 rfl (lv_at hl 3 rfl) ?_
              refine lv_iload hx hb dX4_differs_41 (lv_at hl 4 rfl) ?_
              refine lv_ishr hx hb dX4_differs_43 ?_
              refine lv_if_eq (tgt := 79) hx hb dX4_differs_44 (by decide) (fun c8 => ?_) (fun c8 => ?_)
              · obtain ⟨h, -⟩ := h
                specialize h c8
                obtain ⟨x9, ex9⟩ : ∃ y : Int32, y = y1 + 1 := ⟨_, rfl⟩
                specialize h x9 ex9
                refine lv_iinc (v := x9) (lv' := [(2, .int x9), (0, .ref aP), (1, .int p1), (3, .int x3), (4, .int y5)]) hx hb dX4_differs_79 hl (k := 2) rfl (by rw [ex9]; rfl) (by decide) rfl (fun ls hl => ?_)
                refine lv_goto (tgt := 2) hx hb dX4_differs_82 (by decide) ?_
                exact ih2 x9 h.1 (Nat.lt_of_lt_of_le h.2 (Nat.le_of_lt_succ hk2)) _ (lv_sub hl [1, 2, 0] rfl)
              · obtain ⟨-, h⟩ := h
                specialize h c8
                refine lv_iload_n hx hb dX4_differs_47 rfl (lv_at hl 3 rfl) ?_
                refine lv_iload hx hb dX4_differs_48 (lv_at hl 4 rfl) ?_
                refine lv_ishr hx hb dX4_differs_50 ?_
                refine lv_iconst (v := 1) hx hb dX4_differs_51 (by decide) ?_
                refine lv_iand hx hb dX4_differs_52 ?_
                refine lv_iconst (v := 1) hx hb dX4_differs_53 (by decide) ?_
                refine lv_icmp_ne (tgt := 73) hx hb dX4_differs_54 (by decide) (fun c10 => ?_) (fun c10 => ?_)
                · obtain ⟨-, h⟩ := h
                  specialize h c10
                  obtain ⟨x11, ex11⟩ : ∃ y : Int32, y = y5 + 1 := ⟨_, rfl⟩
                  specialize h x11 ex11
                  refine lv_iinc (v := x11) (lv' := [(4, .int x11), (0, .ref aP), (1, .int p1), (2, .int y1), (3, .int x3)]) hx hb dX4_differs_73 hl (k := 4) rfl (by rw [ex11]; rfl) (by decide) rfl (fun ls hl => ?_)
                  refine lv_goto (tgt := 28) hx hb dX4_differs_76 (by decide) ?_
                  exact ih28 x11 h.1 (Nat.lt_of_lt_of_le h.2 (Nat.le_of_lt_succ hk28)) _ (lv_sub hl [1, 2, 3, 4, 0] rfl)
                · obtain ⟨h, -⟩ := h
                  specialize h c10
                  refine lv_iload_n hx hb dX4_differs_57 rfl (lv_at hl 1 rfl) ?_
                  refine lv_iload_n hx hb dX4_differs_58 rfl (lv_at hl 2 rfl) ?_
                  obtain ⟨Q12, hw9, h⟩ := h
                  have hPc : va_P G vwCl [] s.heap := P_nil
                  refine vp_callSi (va_Run.run (va_runS (As := [.int p1, .int y1]) (rest := []) ⟨hx, hb, hml, hown, hts⟩ (ct_X4_colourOf l G cy p1 y1 Q12 hw9) (va_cwS 2 hts gX4_differs_X4_colourOf rfl rfl rfl (by decide +kernel) ⟨Nat.le_of_ble_eq_true rfl, Nat.le_of_ble_eq_true rfl⟩) (rP_S hK hPc) rfl rfl hl.1 rfl (lv_room (Nat.le_of_ble_eq_true rfl)) dX4_differs_59 ⟨Nat.le_of_ble_eq_true rfl, Nat.le_of_ble_eq_true rfl⟩)) (fun r13 er13 => ?_)
                  specialize h r13 er13
                  refine lv_iload_n hx hb dX4_differs_62 rfl (lv_at hl 1 rfl) ?_
                  refine lv_iload hx hb dX4_differs_63 (lv_at hl 4 rfl) ?_
                  obtain ⟨Q14, hw9, h⟩ := h
                  have hPc : va_P G vwCl [] s.heap := P_nil
                  refine vp_callSi (va_Run.run (va_runS (As := [.int p1, .int y5]) (rest := [.int r13]) ⟨hx, hb, hml, hown, hts⟩ (ct_X4_colourOf l G cy p1 y5 Q14 hw9) (va_cwS 2 hts gX4_differs_X4_colourOf rfl rfl rfl (by decide +kernel) ⟨Nat.le_of_ble_eq_true rfl, Nat.le_of_ble_eq_true rfl⟩) (rP_S hK hPc) rfl rfl hl.1 rfl (lv_room (Nat.le_of_ble_eq_true rfl)) dX4_differs_65 ⟨Nat.le_of_ble_eq_true rfl, Nat.le_of_ble_eq_true rfl⟩)) (fun r15 er15 => ?_)
                  specialize h r15 er15
                  refine lv_icmp_ne (tgt := 73) hx hb dX4_differs_68 (by decide) (fun c16 => ?_) (fun c16 => ?_)
                  · obtain ⟨-, h⟩ := h
                    specialize h c16
                    obtain ⟨x17, ex17⟩ : ∃ y : Int32, y = y5 + 1 := ⟨_, rfl⟩
                    specialize h x17 ex17
                    refine lv_iinc (v := x17) (lv' := [(4, .int x17), (0, .ref aP), (1, .int p1), (2, .int y1), (3, .int x3)]) hx hb dX4_differs_73 hl (k := 4) rfl (by rw [ex17]; rfl) (by decide) rfl (fun ls hl => ?_)
                    refine lv_goto (tgt := 28) hx hb dX4_differs_76 (by decide) ?_
                    exact ih28 x17 h.1 (Nat.lt_of_lt_of_le h.2 (Nat.le_of_lt_succ hk28)) _ (lv_sub hl [1, 2, 3, 4, 0] rfl)
                  · obtain ⟨h, -⟩ := h
                    specialize h c16
                    refine lv_iconst (v := 0) hx hb dX4_differs_71 (by decide) ?_
                    rw [← hQe]
                    exact W.zret (v := 0) hx hb hr rfl (fun t ht hW => ⟨0, rfl, h, ht⟩) (fun q9 h9 => by cases h9) dX4_differs_72
        exact key28 _ x4 h028 (Nat.lt_succ_self _) _ (lv_sub hl [2, 3, 4, 1, 0] rfl)
  exact key2 _ 0 h02 (Nat.lt_succ_self _) _ (lv_sub hl [1, 2, 0] rfl)

set_option maxHeartbeats 4000000 in
set_option maxRecDepth 100000 in
theorem ct_X4_isLawful (l : Launch) (G : va_G) (cy : Nat → ClassId) (aP bF bL bX aN aR : Nat) (wSz : Int32) (wTl : Int32) (wFo : Int32) (wCo : Int32) (gF : Nat → Int32) (gL : Nat → Int32) (gX : Nat → Int32) (vn : Int32) (fN : Nat → Int32) (p1 : Int32) (p2 : Int32) (Q : Int32 → Prop) (h : wp_X4_isLawful vn fN p1 p2 Q) : Met l yX4_isLawful wsX4_isLawful rmX4_isLawful (va_Pc [.ref aP, .int p1, .int p2] (rP G cy [(aP, .inr (4, [.ref bF, .ref bL, .ref bX, .int wSz, .int wTl, .int wFo, .ref aN, .int wCo])), (bF, .inl (cy 0, 4096, .inl gF)), (bL, .inl (cy 0, 4096, .inl gL)), (bX, .inl (cy 0, 24, .inl gX)), (aN, .inr (3, [.ref aR, .int vn])), (aR, .inl (cy 0, 9, .inl fN))])) (vp_Si Q) 0 0 (fun _ => False) := by
  unfold wp_X4_isLawful at h
  refine Met.ofW (cc := cX4_isLawful) (maxL := 3) (ret := (some .boolean)) (by decide) rfl ?_
  intro p e s m args below meth c s₁ B hml hv
  obtain ⟨hav, hP, hK⟩ := hv
  have hx := B.exec
  have hb := B.bytes
  have hr := B.returns
  have hts := atoms_spec (ws := wsX4_isLawful) B.pre
  have hown : s.vm.findClass RX4 = some m.cls := findClass_of_methodNamed B.named
  have hlocks := B.notSynchronized
  have hl := lv_entry ([.ref aP, .int p1, .int p2]) (n := 3) (Nat.le_of_ble_eq_true rfl)
  rw [show entryFrame m args 3 = entryFrame m ([.ref aP, .int p1, .int p2] : List Value).toArray 3 by rw [hav], lg_entry_eq]
  generalize (lg_sl ([.ref aP, .int p1, .int p2]) ++ List.replicate (3 - (lg_sl ([.ref aP, .int p1, .int p2])).length) Slot.unset).toArray = ls at hl ⊢
  have hl : lv_has ls 3 [(0, .ref aP), (1, .int p1), (2, .int p2)] := hl
  generalize hQe : MQ below _ _ _ _ _ _ = QM
  refine lv_aload_n hx hb dX4_isLawful_0 rfl (lv_at hl 0 rfl) ?_
  refine lv_iload_n hx hb dX4_isLawful_1 rfl (lv_at hl 1 rfl) ?_
  refine lv_iload_n hx hb dX4_isLawful_2 rfl (lv_at hl 2 rfl) ?_
  obtain ⟨Q1, hw9, h⟩ := h
  have hPc : va_P G vwCl [(aP, .inr (4, [.ref bF, .ref bL, .ref bX, .int wSz, .int wTl, .int wFo, .ref aN, .int wCo])), (bF, .inl (cy 0, 4096, .inl gF)), (bL, .inl (cy 0, 4096, .inl gL)), (bX, .inl (cy 0, 24, .inl gX)), (aN, .inr (3, [.ref aR, .int vn])), (aR, .inl (cy 0, 9, .inl fN))] s.heap := hP.sub [0, 1, 2, 3, 4, 5] rfl
  refine vp_callSi (va_Run.run (va_runV (As := [.int p1, .int p2]) (rest := []) ⟨hx, hb, hml, hown, hts⟩ (ct_X4_isColouring l G cy aP bF bL bX aN aR wSz wTl wFo wCo gF gL gX vn fN p1 p2 Q1 hw9) (cwV 2 hts gX4_isLawful_X4_isColouring rfl rfl rfl (by decide +kernel) ⟨Nat.le_of_ble_eq_true rfl, Nat.le_of_ble_eq_true rfl⟩) (rP_V hK hP (ci := 4) (q0 := 0) rfl rfl hPc) rfl rfl hl.1 rfl (lv_room (Nat.le_of_ble_eq_true rfl)) dX4_isLawful_3 ⟨Nat.le_of_ble_eq_true rfl, Nat.le_of_ble_eq_true rfl⟩)) (fun r2 er2 => ?_)
  specialize h r2 er2
  refine lv_if_eq (tgt := 21) hx hb dX4_isLawful_6 (by decide) (fun c3 => ?_) (fun c3 => ?_)
  · obtain ⟨h, -⟩ := h
    specialize h c3
    refine lv_iconst (v := 0) hx hb dX4_isLawful_21 (by decide) ?_
    rw [← hQe]
    exact W.zret (v := 0) hx hb hr rfl (fun t ht hW => ⟨0, rfl, h, ht⟩) (fun q9 h9 => by cases h9) dX4_isLawful_22
  · obtain ⟨-, h⟩ := h
    specialize h c3
    refine lv_aload_n hx hb dX4_isLawful_9 rfl (lv_at hl 0 rfl) ?_
    refine lv_iload_n hx hb dX4_isLawful_10 rfl (lv_at hl 1 rfl) ?_
    obtain ⟨Q4, hw9, h⟩ := h
    have hPc : va_P G vwCl [(aP, .inr (4, [.ref bF, .ref bL, .ref bX, .int wSz, .int wTl, .int wFo, .ref aN, .int wCo])), (bF, .inl (cy 0, 4096, .inl gF)), (bL, .inl (cy 0, 4096, .inl gL)), (bX, .inl (cy 0, 24, .inl gX)), (aN, .inr (3, [.ref aR, .int vn])), (aR, .inl (cy 0, 9, .inl fN))] s.heap := hP.sub [0, 1, 2, 3, 4, 5] rfl
    refine vp_callSi (va_Run.run (va_runV (As := [.int p1]) (rest := []) ⟨hx, hb, hml, hown, hts⟩ (ct_X4_differs l G cy aP bF bL bX aN aR wSz wTl wFo wCo gF gL gX vn fN p1 Q4 hw9) (cwV 1 hts gX4_isLawful_X4_differs rfl rfl rfl (by decide +kernel) ⟨Nat.le_of_ble_eq_true rfl, Nat.le_of_ble_eq_true rfl⟩) (rP_V hK hP (ci := 4) (q0 := 0) rfl rfl hPc) rfl rfl hl.1 rfl (lv_room (Nat.le_of_ble_eq_true rfl)) dX4_isLawful_11 ⟨Nat.le_of_ble_eq_true rfl, Nat.le_of_ble_eq_true rfl⟩)) (fun r5 er5 => ?_)
    specialize h r5 er5
    refine lv_if_eq (tgt := 21) hx hb dX4_isLawful_14 (by decide) (fun c6 => ?_) (fun c6 => ?_)
    · obtain ⟨h, -⟩ := h
      specialize h c6
      refine lv_iconst (v := 0) hx hb dX4_isLawful_21 (by decide) ?_
      rw [← hQe]
      exact W.zret (v := 0) hx hb hr rfl (fun t ht hW => ⟨0, rfl, h, ht⟩) (fun q9 h9 => by cases h9) dX4_isLawful_22
    · obtain ⟨-, h⟩ := h
      specialize h c6
      refine lv_iconst (v := 1) hx hb dX4_isLawful_17 (by decide) ?_
      refine lv_goto (tgt := 22) hx hb dX4_isLawful_18 (by decide) ?_
      rw [← hQe]
      exact W.zret (v := 1) hx hb hr rfl (fun t ht hW => ⟨1, rfl, h, ht⟩) (fun q9 h9 => by cases h9) dX4_isLawful_22

set_option maxHeartbeats 4000000 in
set_option maxRecDepth 100000 in
theorem ct_X4_many (l : Launch) (G : va_G) (cy : Nat → ClassId) (aP bF bL bX aN aR : Nat) (wSz : Int32) (wTl : Int32) (wFo : Int32) (wCo : Int32) (gF : Nat → Int32) (gL : Nat → Int32) (gX : Nat → Int32) (vn : Int32) (fN : Nat → Int32) (Q : Int32 → Prop) (h : wp_X4_many wSz gF Q) : Met l yX4_many wsX4_many rmX4_many (va_Pc [.ref aP] (rP G cy [(aP, .inr (4, [.ref bF, .ref bL, .ref bX, .int wSz, .int wTl, .int wFo, .ref aN, .int wCo])), (bF, .inl (cy 0, 4096, .inl gF)), (bL, .inl (cy 0, 4096, .inl gL)), (bX, .inl (cy 0, 24, .inl gX)), (aN, .inr (3, [.ref aR, .int vn])), (aR, .inl (cy 0, 9, .inl fN))])) (vp_Si Q) 0 0 (fun _ => False) := by
  unfold wp_X4_many at h
  refine Met.ofW (cc := cX4_many) (maxL := 3) (ret := (some .int)) (by decide) rfl ?_
  intro p e s m args below meth c s₁ B hml hv
  obtain ⟨hav, hP, hK⟩ := hv
  have hx := B.exec
  have hb := B.bytes
  have hr := B.returns
  have hts := atoms_spec (ws := wsX4_many) B.pre
  have hown : s.vm.findClass RX4 = some m.cls := findClass_of_methodNamed B.named
  have hlocks := B.notSynchronized
  have hl := lv_entry ([.ref aP]) (n := 3) (Nat.le_of_ble_eq_true rfl)
  rw [show entryFrame m args 3 = entryFrame m ([.ref aP] : List Value).toArray 3 by rw [hav], lg_entry_eq]
  generalize (lg_sl ([.ref aP]) ++ List.replicate (3 - (lg_sl ([.ref aP])).length) Slot.unset).toArray = ls at hl ⊢
  have hl : lv_has ls 3 [(0, .ref aP)] := hl
  generalize hQe : MQ below _ _ _ _ _ _ = QM
  have iwX4 : ∀ w ∈ wsX40, w ∈ wsX4_many := by decide +kernel
  have fl34 := hts (.fieldLink RX4 34 "SlidTokens$Paints" "size" "I") (by decide +kernel)
  have sf34 := hts (.sameField "SlidTokens$Paints" "SlidTokens$Search" "size" "I") (by decide +kernel)
  have fl24 := hts (.fieldLink RX4 24 "SlidTokens$Paints" "far" "[I") (by decide +kernel)
  have sf24 := hts (.sameField "SlidTokens$Paints" "SlidTokens$Search" "far" "[I") (by decide +kernel)
  refine lv_iconst (v := 0) hx hb dX4_many_0 (by decide) ?_
  refine lv_istore_n (lv' := [(1, .int 0), (0, .ref aP)]) hx hb dX4_many_1 rfl hl (by decide) rfl (fun ls hl => ?_)
  refine lv_iconst (v := 0) hx hb dX4_many_2 (by decide) ?_
  refine lv_istore_n (lv' := [(2, .int 0), (1, .int 0), (0, .ref aP)]) hx hb dX4_many_3 rfl hl (by decide) rfl (fun ls hl => ?_)
  obtain ⟨I4_2, u4_2, h04, hst4⟩ := h
  have key4 : ∀ (k9 : Nat) (y1 : Int32) (y2 : Int32), I4_2 y1 y2 → u4_2 y1 y2 < k9 → ∀ (ls : Array Slot), lv_has ls 3 [(0, .ref aP), (1, .int y1), (2, .int y2)] → W p l e (headSpec wsX4_many rmX4_many).room s m args below meth c s.heap [] 0 0 QM (F0 m 4 ls []) := by
    intro k9
    induction k9 with
    | zero =>
      intro y1 y2 hI9 hk9
      exact absurd hk9 (Nat.not_lt_zero _)
    | succ k9 ih4 =>
      intro y1 y2 hI9 hk4 ls hl
      have h := hst4 y1 y2 hI9
      refine lv_iload_n hx hb dX4_many_4 rfl (lv_at hl 2 rfl) ?_
      refine lv_aload_n hx hb dX4_many_5 rfl (lv_at hl 0 rfl) ?_
      refine va_get (D := G) (ci := 4) (v := .int wSz) (C := RX4) (T := TX4) (N := 8) hx hb hts iwX4 hown hK.1 hP 0 rfl rfl 3 (by decide) fl34 (fun x9 h9 => u_same sf34 x9 h9) rfl dX4_many_6 ?_
      refine lv_icmp_ge (tgt := 32) hx hb dX4_many_9 (by decide) (fun c3 => ?_) (fun c3 => ?_)
      · obtain ⟨h, -⟩ := h
        specialize h c3
        refine lv_iload_n hx hb dX4_many_32 rfl (lv_at hl 1 rfl) ?_
        rw [← hQe]
        exact W.iret (v := y1) hx hb hr (fun t ht hW => ⟨y1, rfl, h, ht⟩) (fun q9 h9 => by cases h9) dX4_many_33
      · obtain ⟨-, h⟩ := h
        specialize h c3
        refine lv_aload_n hx hb dX4_many_12 rfl (lv_at hl 0 rfl) ?_
        refine va_get (D := G) (ci := 4) (v := .ref bF) (C := RX4) (T := TX4) (N := 8) hx hb hts iwX4 hown hK.1 hP 0 rfl rfl 0 (by decide) fl24 (fun x9 h9 => u_same sf24 x9 h9) rfl dX4_many_13 ?_
        refine lv_iload_n hx hb dX4_many_16 rfl (lv_at hl 2 rfl) ?_
        obtain ⟨hi, h⟩ := h
        refine va_iald hx hb hK.1 hP 1 0 rfl rfl hi dX4_many_17 ?_
        refine lv_bipush (v := (-2)) hx hb dX4_many_18 (by decide) ?_
        refine lv_icmp_eq (tgt := 26) hx hb dX4_many_20 (by decide) (fun c4 => ?_) (fun c4 => ?_)
        · obtain ⟨h, -⟩ := h
          specialize h c4
          obtain ⟨x5, ex5⟩ : ∃ y : Int32, y = y2 + 1 := ⟨_, rfl⟩
          specialize h x5 ex5
          refine lv_iinc (v := x5) (lv' := [(2, .int x5), (0, .ref aP), (1, .int y1)]) hx hb dX4_many_26 hl (k := 2) rfl (by rw [ex5]; rfl) (by decide) rfl (fun ls hl => ?_)
          refine lv_goto (tgt := 4) hx hb dX4_many_29 (by decide) ?_
          exact ih4 y1 x5 h.1 (Nat.lt_of_lt_of_le h.2 (Nat.le_of_lt_succ hk4)) _ (lv_sub hl [1, 2, 0] rfl)
        · obtain ⟨-, h⟩ := h
          specialize h c4
          obtain ⟨x6, ex6⟩ : ∃ y : Int32, y = y1 + 1 := ⟨_, rfl⟩
          specialize h x6 ex6
          refine lv_iinc (v := x6) (lv' := [(1, .int x6), (0, .ref aP), (2, .int y2)]) hx hb dX4_many_23 hl (k := 1) rfl (by rw [ex6]; rfl) (by decide) rfl (fun ls hl => ?_)
          obtain ⟨x7, ex7⟩ : ∃ y : Int32, y = y2 + 1 := ⟨_, rfl⟩
          specialize h x7 ex7
          refine lv_iinc (v := x7) (lv' := [(2, .int x7), (1, .int x6), (0, .ref aP)]) hx hb dX4_many_26 hl (k := 2) rfl (by rw [ex7]; rfl) (by decide) rfl (fun ls hl => ?_)
          refine lv_goto (tgt := 4) hx hb dX4_many_29 (by decide) ?_
          exact ih4 x6 x7 h.1 (Nat.lt_of_lt_of_le h.2 (Nat.le_of_lt_succ hk4)) _ (lv_sub hl [2, 1, 0] rfl)
  exact key4 _ 0 0 h04 (Nat.lt_succ_self _) _ (lv_sub hl [2, 1, 0] rfl)

set_option maxHeartbeats 4000000 in
set_option maxRecDepth 100000 in
theorem ct_X5_note_P (l : Launch) (G : va_G) (cy : Nat → ClassId) (aP bF bL bX aN aR : Nat) (sz : Nat) (wSz : Int32) (wTl : Int32) (wFo : Int32) (wCo : Int32) (gF : Nat → Int32) (gL : Nat → Int32) (gX : Nat → Int32) (vn : Int32) (fN : Nat → Int32) (p1 : Int32) (Q : Int32 → (Nat → Int32) → Prop) (h : wp_X5_note_P wFo gX p1 Q) : Met l yX5_note wsX5_note rmX5_note_P (va_Pc [.ref aP, .int p1] (wP G cy sz [(aP, .inr (4, [.ref bF, .ref bL, .ref bX, .int wSz, .int wTl, .int wFo, .ref aN, .int wCo])), (bF, .inl (cy 0, 4096, .inl gF)), (bL, .inl (cy 0, 4096, .inl gL)), (bX, .inl (cy 0, 24, .inl gX)), (aN, .inr (3, [.ref aR, .int vn])), (aR, .inl (cy 0, 9, .inl fN))])) (va_Qv (fun (u : Int32 × (Nat → Int32)) => Q u.1 u.2) (fun (u : Int32 × (Nat → Int32)) (t : State) => va_P G vwCl [(aP, .inr (4, [.ref bF, .ref bL, .ref bX, .int wSz, .int wTl, .int u.1, .ref aN, .int wCo])), (bF, .inl (cy 0, 4096, .inl gF)), (bL, .inl (cy 0, 4096, .inl gL)), (bX, .inl (cy 0, 24, .inl u.2)), (aN, .inr (3, [.ref aR, .int vn])), (aR, .inl (cy 0, 9, .inl fN))] t.heap) (va_A [(aP, .inr (4, [.ref bF, .ref bL, .ref bX, .int wSz, .int wTl, .int wFo, .ref aN, .int wCo])), (bF, .inl (cy 0, 4096, .inl gF)), (bL, .inl (cy 0, 4096, .inl gL)), (bX, .inl (cy 0, 24, .inl gX)), (aN, .inr (3, [.ref aR, .int vn])), (aR, .inl (cy 0, 9, .inl fN))] sz)) 0 0 (va_A [(aP, .inr (4, [.ref bF, .ref bL, .ref bX, .int wSz, .int wTl, .int wFo, .ref aN, .int wCo])), (bF, .inl (cy 0, 4096, .inl gF)), (bL, .inl (cy 0, 4096, .inl gL)), (bX, .inl (cy 0, 24, .inl gX)), (aN, .inr (3, [.ref aR, .int vn])), (aR, .inl (cy 0, 9, .inl fN))] sz) := by
  unfold wp_X5_note_P at h
  refine Met.ofW (cc := cX5_note) (maxL := 2) (ret := none) (by decide) rfl ?_
  intro p e s m args below meth c s₁ B hml hv
  obtain ⟨hav, hsz, hP, hK, hD0⟩ := hv
  have hx := B.exec
  have hb := B.bytes
  have hr := B.returns
  have hts := atoms_spec (ws := wsX5_note) B.pre
  have hown : s.vm.findClass RX5 = some m.cls := findClass_of_methodNamed B.named
  have hlocks := B.notSynchronized
  subst hsz
  have hD := hD0.self (sz := s.heap.size)
  generalize hAe : va_A [(aP, .inr (4, [.ref bF, .ref bL, .ref bX, .int wSz, .int wTl, .int wFo, .ref aN, .int wCo])), (bF, .inl (cy 0, 4096, .inl gF)), (bL, .inl (cy 0, 4096, .inl gL)), (bX, .inl (cy 0, 24, .inl gX)), (aN, .inr (3, [.ref aR, .int vn])), (aR, .inl (cy 0, 9, .inl fN))] s.heap.size = A at hD ⊢
  have hA : ∀ q : Nat, s.heap.size ≤ q → A q := fun q h9 => by rw [← hAe]; exact Or.inr h9
  have hS : va_S A s.heap s.heap [] := va_S.rf
  have hl := lv_entry ([.ref aP, .int p1]) (n := 2) (Nat.le_of_ble_eq_true rfl)
  rw [show entryFrame m args 2 = entryFrame m ([.ref aP, .int p1] : List Value).toArray 2 by rw [hav], lg_entry_eq]
  generalize (lg_sl ([.ref aP, .int p1]) ++ List.replicate (2 - (lg_sl ([.ref aP, .int p1])).length) Slot.unset).toArray = ls at hl ⊢
  have hl : lv_has ls 2 [(0, .ref aP), (1, .int p1)] := hl
  generalize hQe : MQ below _ _ _ _ _ _ = QM
  have hP : va_P G vwCl [(aP, .inr (4, [.ref bF, .ref bL, .ref bX, .int wSz, .int wTl, .int wFo, .ref aN, .int wCo])), (bF, .inl (cy 0, 4096, .inl gF)), (bL, .inl (cy 0, 4096, .inl gL)), (bX, .inl (cy 0, 24, .inl gX)), (aN, .inr (3, [.ref aR, .int vn])), (aR, .inl (cy 0, 9, .inl fN))] s.heap := hP
  have iwX4 : ∀ w ∈ wsX40, w ∈ wsX5_note := by decide +kernel
  have fl18 := hts (.fieldLink RX5 18 "SlidTokens$Search" "found" "I") (by decide +kernel)
  have fl28 := hts (.fieldLink RX5 28 "SlidTokens$Search" "next" "[I") (by decide +kernel)
  suffices K9 : ∀ (H : Heap) (locs : List Loc), va_P G vwCl [(aP, .inr (4, [.ref bF, .ref bL, .ref bX, .int wSz, .int wTl, .int wFo, .ref aN, .int wCo])), (bF, .inl (cy 0, 4096, .inl gF)), (bL, .inl (cy 0, 4096, .inl gL)), (bX, .inl (cy 0, 24, .inl gX)), (aN, .inr (3, [.ref aR, .int vn])), (aR, .inl (cy 0, 9, .inl fN))] H → va_D A [(aP, .inr (4, [.ref bF, .ref bL, .ref bX, .int wSz, .int wTl, .int wFo, .ref aN, .int wCo])), (bF, .inl (cy 0, 4096, .inl gF)), (bL, .inl (cy 0, 4096, .inl gL)), (bX, .inl (cy 0, 24, .inl gX)), (aN, .inr (3, [.ref aR, .int vn])), (aR, .inl (cy 0, 9, .inl fN))] → va_S A s.heap H locs → W p l e (headSpec wsX5_note rmX5_note_P).room s m args below meth c H locs 0 0 QM (F0 m 0 ls []) from K9 _ _ hP hD hS
  clear hP hD hS
  intro H locs hP hD hS
  refine lv_aload_n hx hb dX5_note_0 rfl (lv_at hl 0 rfl) ?_
  refine va_get (D := G) (ci := 4) (v := .int wFo) (C := RX4) (T := TX4) (N := 8) hx hb hts iwX4 hown hK.1 hP 0 rfl rfl 5 (by decide) fl18 (fun _ h9 => h9) rfl dX5_note_1 ?_
  refine lv_aload_n hx hb dX5_note_4 rfl (lv_at hl 0 rfl) ?_
  refine va_get (D := G) (ci := 4) (v := .ref bX) (C := RX4) (T := TX4) (N := 8) hx hb hts iwX4 hown hK.1 hP 0 rfl rfl 2 (by decide) fl28 (fun _ h9 => h9) rfl dX5_note_5 ?_
  refine va_alen hx hb hK.1 hP 3 0 rfl rfl (v := 24) rfl dX5_note_8 ?_
  refine lv_icmp_ge (tgt := 32) hx hb dX5_note_9 (by decide) (fun c1 => ?_) (fun c1 => ?_)
  · obtain ⟨h, -⟩ := h
    specialize h c1
    rw [← hQe]
    exact W.vret hx hb hr (fun t ht hW => ⟨⟨(wFo, gX), rfl, h, by dsimp only; rw [ht]; exact hP⟩, hS.F ht⟩) hS.2.2 dX5_note_32
  · obtain ⟨-, h⟩ := h
    specialize h c1
    refine lv_aload_n hx hb dX5_note_12 rfl (lv_at hl 0 rfl) ?_
    refine va_get (D := G) (ci := 4) (v := .ref bX) (C := RX4) (T := TX4) (N := 8) hx hb hts iwX4 hown hK.1 hP 0 rfl rfl 2 (by decide) fl28 (fun _ h9 => h9) rfl dX5_note_13 ?_
    refine lv_aload_n hx hb dX5_note_16 rfl (lv_at hl 0 rfl) ?_
    refine va_get (D := G) (ci := 4) (v := .int wFo) (C := RX4) (T := TX4) (N := 8) hx hb hts iwX4 hown hK.1 hP 0 rfl rfl 5 (by decide) fl18 (fun _ h9 => h9) rfl dX5_note_17 ?_
    refine lv_iload_n hx hb dX5_note_20 rfl (lv_at hl 1 rfl) ?_
    obtain ⟨hi, h⟩ := h
    refine va_iast hx hb hK.1 hP hD hS 3 0 rfl rfl hi dX5_note_21 (fun H locs hP hD hS => ?_)
    obtain ⟨f2, ef2⟩ : ∃ z9 : Nat → Int32, z9 = upd gX (wFo : Int32).toNatClampNeg p1 := ⟨_, rfl⟩
    specialize h f2 ef2
    have hP : va_P G vwCl [(aP, .inr (4, [.ref bF, .ref bL, .ref bX, .int wSz, .int wTl, .int wFo, .ref aN, .int wCo])), (bF, .inl (cy 0, 4096, .inl gF)), (bL, .inl (cy 0, 4096, .inl gL)), (bX, .inl (cy 0, 24, .inl f2)), (aN, .inr (3, [.ref aR, .int vn])), (aR, .inl (cy 0, 9, .inl fN))] H := by rw [ef2]; exact hP
    have hD : va_D A [(aP, .inr (4, [.ref bF, .ref bL, .ref bX, .int wSz, .int wTl, .int wFo, .ref aN, .int wCo])), (bF, .inl (cy 0, 4096, .inl gF)), (bL, .inl (cy 0, 4096, .inl gL)), (bX, .inl (cy 0, 24, .inl f2)), (aN, .inr (3, [.ref aR, .int vn])), (aR, .inl (cy 0, 9, .inl fN))] := D_same hD rfl
    refine lv_aload_n hx hb dX5_note_22 rfl (lv_at hl 0 rfl) ?_
    refine lv_dup hx hb dX5_note_23 rfl ?_
    refine va_get (D := G) (ci := 4) (v := .int wFo) (C := RX4) (T := TX4) (N := 8) hx hb hts iwX4 hown hK.1 hP 0 rfl rfl 5 (by decide) fl18 (fun _ h9 => h9) rfl dX5_note_24 ?_
    refine lv_iconst (v := 1) hx hb dX5_note_27 (by decide) ?_
    refine lv_iadd hx hb dX5_note_28 ?_
    refine lv_topi (fun x3 ex3 => ?_)
    specialize h x3 ex3
    refine va_put (D := G) (ci := 4) (v := .int x3) (ty := .int) (C := RX4) (T := TX4) (N := 8) hx hb hts iwX4 tyX4 tyX4_ok nmX4 hown hK.1 hP hD hS 0 rfl rfl 5 (by decide) fl18 (fun _ h9 => h9) rfl (by decide +kernel) rfl rfl (Nat.le_of_ble_eq_true rfl) dX5_note_29 (fun H locs hP hD hS => ?_)
    have hP : va_P G vwCl [(aP, .inr (4, [.ref bF, .ref bL, .ref bX, .int wSz, .int wTl, .int x3, .ref aN, .int wCo])), (bF, .inl (cy 0, 4096, .inl gF)), (bL, .inl (cy 0, 4096, .inl gL)), (bX, .inl (cy 0, 24, .inl f2)), (aN, .inr (3, [.ref aR, .int vn])), (aR, .inl (cy 0, 9, .inl fN))] H := hP
    have hD : va_D A [(aP, .inr (4, [.ref bF, .ref bL, .ref bX, .int wSz, .int wTl, .int x3, .ref aN, .int wCo])), (bF, .inl (cy 0, 4096, .inl gF)), (bL, .inl (cy 0, 4096, .inl gL)), (bX, .inl (cy 0, 24, .inl f2)), (aN, .inr (3, [.ref aR, .int vn])), (aR, .inl (cy 0, 9, .inl fN))] := hD
    rw [← hQe]
    exact W.vret hx hb hr (fun t ht hW => ⟨⟨(x3, f2), rfl, h, by dsimp only; rw [ht]; exact hP⟩, hS.F ht⟩) hS.2.2 dX5_note_32

set_option maxHeartbeats 4000000 in
set_option maxRecDepth 100000 in
theorem ct_X5_enter_P (l : Launch) (G : va_G) (cy : Nat → ClassId) (aP bF bL bX aN aR : Nat) (sz : Nat) (wSz : Int32) (wTl : Int32) (wFo : Int32) (wCo : Int32) (gF : Nat → Int32) (gL : Nat → Int32) (gX : Nat → Int32) (vn : Int32) (fN : Nat → Int32) (p1 : Int32) (p2 : Int32) (Q : Int32 → (Nat → Int32) → (Nat → Int32) → Prop) (h : wp_X5_enter_P wTl gF gL p1 p2 Q) : Met l yX5_enter wsX5_enter rmX5_enter_P (va_Pc [.ref aP, .int p1, .int p2] (wP G cy sz [(aP, .inr (4, [.ref bF, .ref bL, .ref bX, .int wSz, .int wTl, .int wFo, .ref aN, .int wCo])), (bF, .inl (cy 0, 4096, .inl gF)), (bL, .inl (cy 0, 4096, .inl gL)), (bX, .inl (cy 0, 24, .inl gX)), (aN, .inr (3, [.ref aR, .int vn])), (aR, .inl (cy 0, 9, .inl fN))])) (va_Qv (fun (u : Int32 × (Nat → Int32) × (Nat → Int32)) => Q u.1 u.2.1 u.2.2) (fun (u : Int32 × (Nat → Int32) × (Nat → Int32)) (t : State) => va_P G vwCl [(aP, .inr (4, [.ref bF, .ref bL, .ref bX, .int wSz, .int u.1, .int wFo, .ref aN, .int wCo])), (bF, .inl (cy 0, 4096, .inl u.2.1)), (bL, .inl (cy 0, 4096, .inl u.2.2)), (bX, .inl (cy 0, 24, .inl gX)), (aN, .inr (3, [.ref aR, .int vn])), (aR, .inl (cy 0, 9, .inl fN))] t.heap) (va_A [(aP, .inr (4, [.ref bF, .ref bL, .ref bX, .int wSz, .int wTl, .int wFo, .ref aN, .int wCo])), (bF, .inl (cy 0, 4096, .inl gF)), (bL, .inl (cy 0, 4096, .inl gL)), (bX, .inl (cy 0, 24, .inl gX)), (aN, .inr (3, [.ref aR, .int vn])), (aR, .inl (cy 0, 9, .inl fN))] sz)) 0 0 (va_A [(aP, .inr (4, [.ref bF, .ref bL, .ref bX, .int wSz, .int wTl, .int wFo, .ref aN, .int wCo])), (bF, .inl (cy 0, 4096, .inl gF)), (bL, .inl (cy 0, 4096, .inl gL)), (bX, .inl (cy 0, 24, .inl gX)), (aN, .inr (3, [.ref aR, .int vn])), (aR, .inl (cy 0, 9, .inl fN))] sz) := by
  unfold wp_X5_enter_P at h
  refine Met.ofW (cc := cX5_enter) (maxL := 3) (ret := none) (by decide) rfl ?_
  intro p e s m args below meth c s₁ B hml hv
  obtain ⟨hav, hsz, hP, hK, hD0⟩ := hv
  have hx := B.exec
  have hb := B.bytes
  have hr := B.returns
  have hts := atoms_spec (ws := wsX5_enter) B.pre
  have hown : s.vm.findClass RX5 = some m.cls := findClass_of_methodNamed B.named
  have hlocks := B.notSynchronized
  subst hsz
  have hD := hD0.self (sz := s.heap.size)
  generalize hAe : va_A [(aP, .inr (4, [.ref bF, .ref bL, .ref bX, .int wSz, .int wTl, .int wFo, .ref aN, .int wCo])), (bF, .inl (cy 0, 4096, .inl gF)), (bL, .inl (cy 0, 4096, .inl gL)), (bX, .inl (cy 0, 24, .inl gX)), (aN, .inr (3, [.ref aR, .int vn])), (aR, .inl (cy 0, 9, .inl fN))] s.heap.size = A at hD ⊢
  have hA : ∀ q : Nat, s.heap.size ≤ q → A q := fun q h9 => by rw [← hAe]; exact Or.inr h9
  have hS : va_S A s.heap s.heap [] := va_S.rf
  have hl := lv_entry ([.ref aP, .int p1, .int p2]) (n := 3) (Nat.le_of_ble_eq_true rfl)
  rw [show entryFrame m args 3 = entryFrame m ([.ref aP, .int p1, .int p2] : List Value).toArray 3 by rw [hav], lg_entry_eq]
  generalize (lg_sl ([.ref aP, .int p1, .int p2]) ++ List.replicate (3 - (lg_sl ([.ref aP, .int p1, .int p2])).length) Slot.unset).toArray = ls at hl ⊢
  have hl : lv_has ls 3 [(0, .ref aP), (1, .int p1), (2, .int p2)] := hl
  generalize hQe : MQ below _ _ _ _ _ _ = QM
  have hP : va_P G vwCl [(aP, .inr (4, [.ref bF, .ref bL, .ref bX, .int wSz, .int wTl, .int wFo, .ref aN, .int wCo])), (bF, .inl (cy 0, 4096, .inl gF)), (bL, .inl (cy 0, 4096, .inl gL)), (bX, .inl (cy 0, 24, .inl gX)), (aN, .inr (3, [.ref aR, .int vn])), (aR, .inl (cy 0, 9, .inl fN))] s.heap := hP
  have iwX4 : ∀ w ∈ wsX40, w ∈ wsX5_enter := by decide +kernel
  have fl15 := hts (.fieldLink RX5 15 "SlidTokens$Search" "tail" "I") (by decide +kernel)
  have fl25 := hts (.fieldLink RX5 25 "SlidTokens$Search" "line" "[I") (by decide +kernel)
  have fl21 := hts (.fieldLink RX5 21 "SlidTokens$Search" "far" "[I") (by decide +kernel)
  suffices K9 : ∀ (H : Heap) (locs : List Loc), va_P G vwCl [(aP, .inr (4, [.ref bF, .ref bL, .ref bX, .int wSz, .int wTl, .int wFo, .ref aN, .int wCo])), (bF, .inl (cy 0, 4096, .inl gF)), (bL, .inl (cy 0, 4096, .inl gL)), (bX, .inl (cy 0, 24, .inl gX)), (aN, .inr (3, [.ref aR, .int vn])), (aR, .inl (cy 0, 9, .inl fN))] H → va_D A [(aP, .inr (4, [.ref bF, .ref bL, .ref bX, .int wSz, .int wTl, .int wFo, .ref aN, .int wCo])), (bF, .inl (cy 0, 4096, .inl gF)), (bL, .inl (cy 0, 4096, .inl gL)), (bX, .inl (cy 0, 24, .inl gX)), (aN, .inr (3, [.ref aR, .int vn])), (aR, .inl (cy 0, 9, .inl fN))] → va_S A s.heap H locs → W p l e (headSpec wsX5_enter rmX5_enter_P).room s m args below meth c H locs 0 0 QM (F0 m 0 ls []) from K9 _ _ hP hD hS
  clear hP hD hS
  intro H locs hP hD hS
  refine lv_aload_n hx hb dX5_enter_0 rfl (lv_at hl 0 rfl) ?_
  refine va_get (D := G) (ci := 4) (v := .int wTl) (C := RX4) (T := TX4) (N := 8) hx hb hts iwX4 hown hK.1 hP 0 rfl rfl 4 (by decide) fl15 (fun _ h9 => h9) rfl dX5_enter_1 ?_
  refine lv_aload_n hx hb dX5_enter_4 rfl (lv_at hl 0 rfl) ?_
  refine va_get (D := G) (ci := 4) (v := .ref bL) (C := RX4) (T := TX4) (N := 8) hx hb hts iwX4 hown hK.1 hP 0 rfl rfl 1 (by decide) fl25 (fun _ h9 => h9) rfl dX5_enter_5 ?_
  refine va_alen hx hb hK.1 hP 2 0 rfl rfl (v := 4096) rfl dX5_enter_8 ?_
  refine lv_icmp_ge (tgt := 39) hx hb dX5_enter_9 (by decide) (fun c1 => ?_) (fun c1 => ?_)
  · obtain ⟨h, -⟩ := h
    specialize h c1
    rw [← hQe]
    exact W.vret hx hb hr (fun t ht hW => ⟨⟨(wTl, gF, gL), rfl, h, by dsimp only; rw [ht]; exact hP⟩, hS.F ht⟩) hS.2.2 dX5_enter_39
  · obtain ⟨-, h⟩ := h
    specialize h c1
    refine lv_aload_n hx hb dX5_enter_12 rfl (lv_at hl 0 rfl) ?_
    refine va_get (D := G) (ci := 4) (v := .ref bF) (C := RX4) (T := TX4) (N := 8) hx hb hts iwX4 hown hK.1 hP 0 rfl rfl 0 (by decide) fl21 (fun _ h9 => h9) rfl dX5_enter_13 ?_
    refine lv_iload_n hx hb dX5_enter_16 rfl (lv_at hl 1 rfl) ?_
    refine lv_iload_n hx hb dX5_enter_17 rfl (lv_at hl 2 rfl) ?_
    obtain ⟨hi, h⟩ := h
    refine va_iast hx hb hK.1 hP hD hS 1 0 rfl rfl hi dX5_enter_18 (fun H locs hP hD hS => ?_)
    obtain ⟨f2, ef2⟩ : ∃ z9 : Nat → Int32, z9 = upd gF (p1 : Int32).toNatClampNeg p2 := ⟨_, rfl⟩
    specialize h f2 ef2
    have hP : va_P G vwCl [(aP, .inr (4, [.ref bF, .ref bL, .ref bX, .int wSz, .int wTl, .int wFo, .ref aN, .int wCo])), (bF, .inl (cy 0, 4096, .inl f2)), (bL, .inl (cy 0, 4096, .inl gL)), (bX, .inl (cy 0, 24, .inl gX)), (aN, .inr (3, [.ref aR, .int vn])), (aR, .inl (cy 0, 9, .inl fN))] H := by rw [ef2]; exact hP
    have hD : va_D A [(aP, .inr (4, [.ref bF, .ref bL, .ref bX, .int wSz, .int wTl, .int wFo, .ref aN, .int wCo])), (bF, .inl (cy 0, 4096, .inl f2)), (bL, .inl (cy 0, 4096, .inl gL)), (bX, .inl (cy 0, 24, .inl gX)), (aN, .inr (3, [.ref aR, .int vn])), (aR, .inl (cy 0, 9, .inl fN))] := D_same hD rfl
    refine lv_aload_n hx hb dX5_enter_19 rfl (lv_at hl 0 rfl) ?_
    refine va_get (D := G) (ci := 4) (v := .ref bL) (C := RX4) (T := TX4) (N := 8) hx hb hts iwX4 hown hK.1 hP 0 rfl rfl 1 (by decide) fl25 (fun _ h9 => h9) rfl dX5_enter_20 ?_
    refine lv_aload_n hx hb dX5_enter_23 rfl (lv_at hl 0 rfl) ?_
    refine va_get (D := G) (ci := 4) (v := .int wTl) (C := RX4) (T := TX4) (N := 8) hx hb hts iwX4 hown hK.1 hP 0 rfl rfl 4 (by decide) fl15 (fun _ h9 => h9) rfl dX5_enter_24 ?_
    refine lv_iload_n hx hb dX5_enter_27 rfl (lv_at hl 1 rfl) ?_
    obtain ⟨hi, h⟩ := h
    refine va_iast hx hb hK.1 hP hD hS 2 0 rfl rfl hi dX5_enter_28 (fun H locs hP hD hS => ?_)
    obtain ⟨f3, ef3⟩ : ∃ z9 : Nat → Int32, z9 = upd gL (wTl : Int32).toNatClampNeg p1 := ⟨_, rfl⟩
    specialize h f3 ef3
    have hP : va_P G vwCl [(aP, .inr (4, [.ref bF, .ref bL, .ref bX, .int wSz, .int wTl, .int wFo, .ref aN, .int wCo])), (bF, .inl (cy 0, 4096, .inl f2)), (bL, .inl (cy 0, 4096, .inl f3)), (bX, .inl (cy 0, 24, .inl gX)), (aN, .inr (3, [.ref aR, .int vn])), (aR, .inl (cy 0, 9, .inl fN))] H := by rw [ef3]; exact hP
    have hD : va_D A [(aP, .inr (4, [.ref bF, .ref bL, .ref bX, .int wSz, .int wTl, .int wFo, .ref aN, .int wCo])), (bF, .inl (cy 0, 4096, .inl f2)), (bL, .inl (cy 0, 4096, .inl f3)), (bX, .inl (cy 0, 24, .inl gX)), (aN, .inr (3, [.ref aR, .int vn])), (aR, .inl (cy 0, 9, .inl fN))] := D_same hD rfl
    refine lv_aload_n hx hb dX5_enter_29 rfl (lv_at hl 0 rfl) ?_
    refine lv_dup hx hb dX5_enter_30 rfl ?_
    refine va_get (D := G) (ci := 4) (v := .int wTl) (C := RX4) (T := TX4) (N := 8) hx hb hts iwX4 hown hK.1 hP 0 rfl rfl 4 (by decide) fl15 (fun _ h9 => h9) rfl dX5_enter_31 ?_
    refine lv_iconst (v := 1) hx hb dX5_enter_34 (by decide) ?_
    refine lv_iadd hx hb dX5_enter_35 ?_
    refine lv_topi (fun x4 ex4 => ?_)
    specialize h x4 ex4
    refine va_put (D := G) (ci := 4) (v := .int x4) (ty := .int) (C := RX4) (T := TX4) (N := 8) hx hb hts iwX4 tyX4 tyX4_ok nmX4 hown hK.1 hP hD hS 0 rfl rfl 4 (by decide) fl15 (fun _ h9 => h9) rfl (by decide +kernel) rfl rfl (Nat.le_of_ble_eq_true rfl) dX5_enter_36 (fun H locs hP hD hS => ?_)
    have hP : va_P G vwCl [(aP, .inr (4, [.ref bF, .ref bL, .ref bX, .int wSz, .int x4, .int wFo, .ref aN, .int wCo])), (bF, .inl (cy 0, 4096, .inl f2)), (bL, .inl (cy 0, 4096, .inl f3)), (bX, .inl (cy 0, 24, .inl gX)), (aN, .inr (3, [.ref aR, .int vn])), (aR, .inl (cy 0, 9, .inl fN))] H := hP
    have hD : va_D A [(aP, .inr (4, [.ref bF, .ref bL, .ref bX, .int wSz, .int x4, .int wFo, .ref aN, .int wCo])), (bF, .inl (cy 0, 4096, .inl f2)), (bL, .inl (cy 0, 4096, .inl f3)), (bX, .inl (cy 0, 24, .inl gX)), (aN, .inr (3, [.ref aR, .int vn])), (aR, .inl (cy 0, 9, .inl fN))] := hD
    rw [← hQe]
    exact W.vret hx hb hr (fun t ht hW => ⟨⟨(x4, f2, f3), rfl, h, by dsimp only; rw [ht]; exact hP⟩, hS.F ht⟩) hS.2.2 dX5_enter_39

set_option maxHeartbeats 4000000 in
set_option maxRecDepth 100000 in
theorem ct_X4_gather (l : Launch) (G : va_G) (cy : Nat → ClassId) (aP bF bL bX aN aR : Nat) (sz : Nat) (wSz : Int32) (wTl : Int32) (wFo : Int32) (wCo : Int32) (gF : Nat → Int32) (gL : Nat → Int32) (gX : Nat → Int32) (vn : Int32) (fN : Nat → Int32) (p1 : Int32) (Q : Int32 → (Nat → Int32) → Prop) (h : wp_X4_gather wFo wCo gF gX vn p1 Q) : Met l yX4_gather wsX4_gather rmX4_gather (va_Pc [.ref aP, .int p1] (wP G cy sz [(aP, .inr (4, [.ref bF, .ref bL, .ref bX, .int wSz, .int wTl, .int wFo, .ref aN, .int wCo])), (bF, .inl (cy 0, 4096, .inl gF)), (bL, .inl (cy 0, 4096, .inl gL)), (bX, .inl (cy 0, 24, .inl gX)), (aN, .inr (3, [.ref aR, .int vn])), (aR, .inl (cy 0, 9, .inl fN))])) (va_Qv (fun (u : Int32 × (Nat → Int32)) => Q u.1 u.2) (fun (u : Int32 × (Nat → Int32)) (t : State) => va_P G vwCl [(aP, .inr (4, [.ref bF, .ref bL, .ref bX, .int wSz, .int wTl, .int u.1, .ref aN, .int wCo])), (bF, .inl (cy 0, 4096, .inl gF)), (bL, .inl (cy 0, 4096, .inl gL)), (bX, .inl (cy 0, 24, .inl u.2)), (aN, .inr (3, [.ref aR, .int vn])), (aR, .inl (cy 0, 9, .inl fN))] t.heap) (va_A [(aP, .inr (4, [.ref bF, .ref bL, .ref bX, .int wSz, .int wTl, .int wFo, .ref aN, .int wCo])), (bF, .inl (cy 0, 4096, .inl gF)), (bL, .inl (cy 0, 4096, .inl gL)), (bX, .inl (cy 0, 24, .inl gX)), (aN, .inr (3, [.ref aR, .int vn])), (aR, .inl (cy 0, 9, .inl fN))] sz)) 0 0 (va_A [(aP, .inr (4, [.ref bF, .ref bL, .ref bX, .int wSz, .int wTl, .int wFo, .ref aN, .int wCo])), (bF, .inl (cy 0, 4096, .inl gF)), (bL, .inl (cy 0, 4096, .inl gL)), (bX, .inl (cy 0, 24, .inl gX)), (aN, .inr (3, [.ref aR, .int vn])), (aR, .inl (cy 0, 9, .inl fN))] sz) := by
  unfold wp_X4_gather at h
  refine Met.ofW (cc := cX4_gather) (maxL := 6) (ret := none) (by decide) rfl ?_
  intro p e s m args below meth c s₁ B hml hv
  obtain ⟨hav, hsz, hP, hK, hD0⟩ := hv
  have hx := B.exec
  have hb := B.bytes
  have hr := B.returns
  have hts := atoms_spec (ws := wsX4_gather) B.pre
  have hown : s.vm.findClass RX4 = some m.cls := findClass_of_methodNamed B.named
  have hlocks := B.notSynchronized
  subst hsz
  have hD := hD0.self (sz := s.heap.size)
  generalize hAe : va_A [(aP, .inr (4, [.ref bF, .ref bL, .ref bX, .int wSz, .int wTl, .int wFo, .ref aN, .int wCo])), (bF, .inl (cy 0, 4096, .inl gF)), (bL, .inl (cy 0, 4096, .inl gL)), (bX, .inl (cy 0, 24, .inl gX)), (aN, .inr (3, [.ref aR, .int vn])), (aR, .inl (cy 0, 9, .inl fN))] s.heap.size = A at hD ⊢
  have hA : ∀ q : Nat, s.heap.size ≤ q → A q := fun q h9 => by rw [← hAe]; exact Or.inr h9
  have hS : va_S A s.heap s.heap [] := va_S.rf
  have hl := lv_entry ([.ref aP, .int p1]) (n := 6) (Nat.le_of_ble_eq_true rfl)
  rw [show entryFrame m args 6 = entryFrame m ([.ref aP, .int p1] : List Value).toArray 6 by rw [hav], lg_entry_eq]
  generalize (lg_sl ([.ref aP, .int p1]) ++ List.replicate (6 - (lg_sl ([.ref aP, .int p1])).length) Slot.unset).toArray = ls at hl ⊢
  have hl : lv_has ls 6 [(0, .ref aP), (1, .int p1)] := hl
  generalize hQe : MQ below _ _ _ _ _ _ = QM
  have hP : va_P G vwCl [(aP, .inr (4, [.ref bF, .ref bL, .ref bX, .int wSz, .int wTl, .int wFo, .ref aN, .int wCo])), (bF, .inl (cy 0, 4096, .inl gF)), (bL, .inl (cy 0, 4096, .inl gL)), (bX, .inl (cy 0, 24, .inl gX)), (aN, .inr (3, [.ref aR, .int vn])), (aR, .inl (cy 0, 9, .inl fN))] s.heap := hP
  have iwX4 : ∀ w ∈ wsX40, w ∈ wsX4_gather := by decide +kernel
  have fl57 := hts (.fieldLink RX4 57 "SlidTokens$Paints" "found" "I") (by decide +kernel)
  have sf57 := hts (.sameField "SlidTokens$Paints" "SlidTokens$Search" "found" "I") (by decide +kernel)
  have fl15 := hts (.fieldLink RX4 15 "SlidTokens$Paints" "net" "LSlidTokens$Net;") (by decide +kernel)
  have iwX3 : ∀ w ∈ wsX30, w ∈ wsX4_gather := by decide +kernel
  have fl19 := hts (.fieldLink RX4 19 "SlidTokens$Net" "nodes" "I") (by decide +kernel)
  have fl9 := hts (.fieldLink RX4 9 "SlidTokens$Paints" "colours" "I") (by decide +kernel)
  have fl24 := hts (.fieldLink RX4 24 "SlidTokens$Paints" "far" "[I") (by decide +kernel)
  have sf24 := hts (.sameField "SlidTokens$Paints" "SlidTokens$Search" "far" "[I") (by decide +kernel)
  suffices K9 : ∀ (H : Heap) (locs : List Loc), va_P G vwCl [(aP, .inr (4, [.ref bF, .ref bL, .ref bX, .int wSz, .int wTl, .int wFo, .ref aN, .int wCo])), (bF, .inl (cy 0, 4096, .inl gF)), (bL, .inl (cy 0, 4096, .inl gL)), (bX, .inl (cy 0, 24, .inl gX)), (aN, .inr (3, [.ref aR, .int vn])), (aR, .inl (cy 0, 9, .inl fN))] H → va_D A [(aP, .inr (4, [.ref bF, .ref bL, .ref bX, .int wSz, .int wTl, .int wFo, .ref aN, .int wCo])), (bF, .inl (cy 0, 4096, .inl gF)), (bL, .inl (cy 0, 4096, .inl gL)), (bX, .inl (cy 0, 24, .inl gX)), (aN, .inr (3, [.ref aR, .int vn])), (aR, .inl (cy 0, 9, .inl fN))] → va_S A s.heap H locs → W p l e (headSpec wsX4_gather rmX4_gather).room s m args below meth c H locs 0 0 QM (F0 m 0 ls []) from K9 _ _ hP hD hS
  clear hP hD hS
  intro H locs hP hD hS
  refine lv_aload_n hx hb dX4_gather_0 rfl (lv_at hl 0 rfl) ?_
  refine lv_iconst (v := 0) hx hb dX4_gather_1 (by decide) ?_
  refine va_put (D := G) (ci := 4) (v := .int 0) (ty := .int) (C := RX4) (T := TX4) (N := 8) hx hb hts iwX4 tyX4 tyX4_ok nmX4 hown hK.1 hP hD hS 0 rfl rfl 5 (by decide) fl57 (fun x9 h9 => u_same sf57 x9 h9) rfl (by decide +kernel) rfl rfl (Nat.le_of_ble_eq_true rfl) dX4_gather_2 (fun H locs hP hD hS => ?_)
  have hP : va_P G vwCl [(aP, .inr (4, [.ref bF, .ref bL, .ref bX, .int wSz, .int wTl, .int 0, .ref aN, .int wCo])), (bF, .inl (cy 0, 4096, .inl gF)), (bL, .inl (cy 0, 4096, .inl gL)), (bX, .inl (cy 0, 24, .inl gX)), (aN, .inr (3, [.ref aR, .int vn])), (aR, .inl (cy 0, 9, .inl fN))] H := hP
  have hD : va_D A [(aP, .inr (4, [.ref bF, .ref bL, .ref bX, .int wSz, .int wTl, .int 0, .ref aN, .int wCo])), (bF, .inl (cy 0, 4096, .inl gF)), (bL, .inl (cy 0, 4096, .inl gL)), (bX, .inl (cy 0, 24, .inl gX)), (aN, .inr (3, [.ref aR, .int vn])), (aR, .inl (cy 0, 9, .inl fN))] := hD
  refine lv_iconst (v := 0) hx hb dX4_gather_5 (by decide) ?_
  refine lv_istore_n (lv' := [(2, .int 0), (0, .ref aP), (1, .int p1)]) hx hb dX4_gather_6 rfl hl (by decide) rfl (fun ls hl => ?_)
  obtain ⟨I7_3, u7_3, h07, hst7⟩ := h
  have key7 : ∀ (k9 : Nat) (y1 : Int32) (z2 : Int32) (f3 : Nat → Int32), I7_3 y1 z2 f3 → u7_3 y1 z2 f3 < k9 → ∀ (H : Heap) (locs : List Loc), va_P G vwCl [(aP, .inr (4, [.ref bF, .ref bL, .ref bX, .int wSz, .int wTl, .int z2, .ref aN, .int wCo])), (bF, .inl (cy 0, 4096, .inl gF)), (bL, .inl (cy 0, 4096, .inl gL)), (bX, .inl (cy 0, 24, .inl f3)), (aN, .inr (3, [.ref aR, .int vn])), (aR, .inl (cy 0, 9, .inl fN))] H → va_D A [(aP, .inr (4, [.ref bF, .ref bL, .ref bX, .int wSz, .int wTl, .int z2, .ref aN, .int wCo])), (bF, .inl (cy 0, 4096, .inl gF)), (bL, .inl (cy 0, 4096, .inl gL)), (bX, .inl (cy 0, 24, .inl f3)), (aN, .inr (3, [.ref aR, .int vn])), (aR, .inl (cy 0, 9, .inl fN))] → va_S A s.heap H locs → ∀ (ls : Array Slot), lv_has ls 6 [(0, .ref aP), (1, .int p1), (2, .int y1)] → W p l e (headSpec wsX4_gather rmX4_gather).room s m args below meth c H locs 0 0 QM (F0 m 7 ls []) := by
    intro k9
    induction k9 with
    | zero =>
      intro y1 z2 f3 hI9 hk9
      exact absurd hk9 (Nat.not_lt_zero _)
    | succ k9 ih7 =>
      intro y1 z2 f3 hI9 hk7 H locs hP hD hS ls hl
      have h := hst7 y1 z2 f3 hI9
      refine lv_iload_n hx hb dX4_gather_7 rfl (lv_at hl 2 rfl) ?_
      refine lv_aload_n hx hb dX4_gather_8 rfl (lv_at hl 0 rfl) ?_
      refine va_get (D := G) (ci := 4) (v := .ref aN) (C := RX4) (T := TX4) (N := 8) hx hb hts iwX4 hown hK.1 hP 0 rfl rfl 6 (by decide) fl15 (fun _ h9 => h9) rfl dX4_gather_9 ?_
      refine va_get (D := G) (ci := 3) (v := .int vn) (C := RX3) (T := TX3) (N := 2) hx hb hts iwX3 hown hK.1 hP 4 rfl rfl 1 (by decide) fl19 (fun _ h9 => h9) rfl dX4_gather_12 ?_
      refine lv_icmp_ge (tgt := 86) hx hb dX4_gather_15 (by decide) (fun c4 => ?_) (fun c4 => ?_)
      · obtain ⟨h, -⟩ := h
        specialize h c4
        rw [← hQe]
        exact W.vret hx hb hr (fun t ht hW => ⟨⟨(z2, f3), rfl, h, by dsimp only; rw [ht]; exact hP⟩, hS.F ht⟩) hS.2.2 dX4_gather_86
      · obtain ⟨-, h⟩ := h
        specialize h c4
        refine lv_iload_n hx hb dX4_gather_18 rfl (lv_at hl 1 rfl) ?_
        refine lv_iconst (v := 3) hx hb dX4_gather_19 (by decide) ?_
        refine lv_iconst (v := 2) hx hb dX4_gather_20 (by decide) ?_
        refine lv_iload_n hx hb dX4_gather_21 rfl (lv_at hl 2 rfl) ?_
        refine lv_imul hx hb dX4_gather_22 ?_
        refine lv_ishl hx hb dX4_gather_23 ?_
        refine lv_iconst (v := (-1)) hx hb dX4_gather_24 (by decide) ?_
        refine lv_ixor hx hb dX4_gather_25 ?_
        refine lv_iand hx hb dX4_gather_26 ?_
        refine lv_topi (fun x5 ex5 => ?_)
        specialize h x5 ex5
        refine lv_istore_n (lv' := [(3, .int x5), (0, .ref aP), (1, .int p1), (2, .int y1)]) hx hb dX4_gather_27 rfl hl (by decide) rfl (fun ls hl => ?_)
        refine lv_iconst (v := 0) hx hb dX4_gather_28 (by decide) ?_
        refine lv_istore (lv' := [(4, .int 0), (3, .int x5), (0, .ref aP), (1, .int p1), (2, .int y1)]) hx hb dX4_gather_29 hl (by decide) rfl (fun ls hl => ?_)
        obtain ⟨I31_8, u31_8, h031, hst31⟩ := h
        have key31 : ∀ (k9 : Nat) (y6 : Int32) (z7 : Int32) (f8 : Nat → Int32), I31_8 y6 z7 f8 → u31_8 y6 z7 f8 < k9 → ∀ (H : Heap) (locs : List Loc), va_P G vwCl [(aP, .inr (4, [.ref bF, .ref bL, .ref bX, .int wSz, .int wTl, .int z7, .ref aN, .int wCo])), (bF, .inl (cy 0, 4096, .inl gF)), (bL, .inl (cy 0, 4096, .inl gL)), (bX, .inl (cy 0, 24, .inl f8)), (aN, .inr (3, [.ref aR, .int vn])), (aR, .inl (cy 0, 9, .inl fN))] H → va_D A [(aP, .inr (4, [.ref bF, .ref bL, .ref bX, .int wSz, .int wTl, .int z7, .ref aN, .int wCo])), (bF, .inl (cy 0, 4096, .inl gF)), (bL, .inl (cy 0, 4096, .inl gL)), (bX, .inl (cy 0, 24, .inl f8)), (aN, .inr (3, [.ref aR, .int vn])), (aR, .inl (cy 0, 9, .inl fN))] → va_S A s.heap H locs → ∀ (ls : Array Slot), lv_has ls 6 [(0, .ref aP), (1, .int p1), (2, .int y1), (3, .int x5), (4, .int y6)] → W p l e (headSpec wsX4_gather rmX4_gather).room s m args below meth c H locs 0 0 QM (F0 m 31 ls []) := by
          intro k9
          induction k9 with
          | zero =>
            intro y6 z7 f8 hI9 hk9
            exact absurd hk9 (Nat.not_lt_zero _)
          | succ k9 ih31 =>
            intro y6 z7 f8 hI9 hk31 H locs hP hD hS ls hl
            have h := hst31 y6 z7 f8 hI9
            refine lv_iload hx hb dX4_gather_31 (lv_at hl 4 rfl) ?_
            refine lv_aload_n hx hb dX4_gather_33 rfl (lv_at hl 0 rfl) ?_
            refine va_get (D := G) (ci := 4) (v := .int wCo) (C := RX4) (T := TX4) (N := 8) hx hb hts iwX4 hown hK.1 hP 0 rfl rfl 7 (by decide) fl9 (fun _ h9 => h9) rfl dX4_gather_34 ?_
            refine lv_icmp_ge (tgt := 80) hx hb dX4_gather_37 (by decide) (fun c9 => ?_) (fun c9 => ?_)
            · obtain ⟨h, -⟩ := h
              specialize h c9
              obtain ⟨x10, ex10⟩ : ∃ y : Int32, y = y1 + 1 := ⟨_, rfl⟩
              specialize h x10 ex10
              refine lv_iinc (v := x10) (lv' := [(2, .int x10), (0, .ref aP), (1, .int p1), (3, .int x5), (4, .int y6)]) hx hb dX4_gather_80 hl (k := 2) rfl (by rw [ex10]; rfl) (by decide) rfl (fun ls hl => ?_)
              refine lv_goto (tgt := 7) hx hb dX4_gather_83 (by decide) ?_
              exact ih7 x10 z7 f8 h.1 (Nat.lt_of_lt_of_le h.2 (Nat.le_of_lt_succ hk7)) _ _ hP hD hS _ (lv_sub hl [1, 2, 0] rfl)
            · obtain ⟨-, h⟩ := h
              specialize h c9
              refine lv_iload_n hx hb dX4_gather_40 rfl (lv_at hl 3 rfl) ?_
              refine lv_iload hx hb dX4_gather_41 (lv_at hl 4 rfl) ?_
              refine lv_iconst (v := 2) hx hb dX4_gather_43 (by decide) ?_
              refine lv_iload_n hx hb dX4_gather_44 rfl (lv_at hl 2 rfl) ?_
              refine lv_imul hx hb dX4_gather_45 ?_
              refine lv_ishl hx hb dX4_gather_46 ?_
              refine lv_ior hx hb dX4_gather_47 ?_
              refine lv_topi (fun x11 ex11 => ?_)
              specialize h x11 ex11
              refine lv_istore (lv' := [(5, .int x11), (0, .ref aP), (1, .int p1), (2, .int y1), (3, .int x5), (4, .int y6)]) hx hb dX4_gather_48 hl (by decide) rfl (fun ls hl => ?_)
              refine lv_iload hx hb dX4_gather_50 (lv_at hl 0 rfl) ?_
              refine lv_iload_n hx hb dX4_gather_52 rfl (lv_at hl 2 rfl) ?_
              refine lv_icmp_eq (tgt := 74) hx hb dX4_gather_53 (by decide) (fun c12 => ?_) (fun c12 => ?_)
              · obtain ⟨h, -⟩ := h
                specialize h c12
                obtain ⟨x13, ex13⟩ : ∃ y : Int32, y = y6 + 1 := ⟨_, rfl⟩
                specialize h x13 ex13
                refine lv_iinc (v := x13) (lv' := [(4, .int x13), (5, .int x11), (0, .ref aP), (1, .int p1), (2, .int y1), (3, .int x5)]) hx hb dX4_gather_74 hl (k := 5) rfl (by rw [ex13]; rfl) (by decide) rfl (fun ls hl => ?_)
                refine lv_goto (tgt := 31) hx hb dX4_gather_77 (by decide) ?_
                exact ih31 x13 z7 f8 h.1 (Nat.lt_of_lt_of_le h.2 (Nat.le_of_lt_succ hk31)) _ _ hP hD hS _ (lv_sub hl [2, 3, 4, 5, 0] rfl)
              · obtain ⟨-, h⟩ := h
                specialize h c12
                refine lv_aload_n hx hb dX4_gather_56 rfl (lv_at hl 1 rfl) ?_
                refine va_get (D := G) (ci := 4) (v := .ref bF) (C := RX4) (T := TX4) (N := 8) hx hb hts iwX4 hown hK.1 hP 0 rfl rfl 0 (by decide) fl24 (fun x9 h9 => u_same sf24 x9 h9) rfl dX4_gather_57 ?_
                refine lv_iload hx hb dX4_gather_60 (lv_at hl 0 rfl) ?_
                obtain ⟨hi, h⟩ := h
                refine va_iald hx hb hK.1 hP 1 0 rfl rfl hi dX4_gather_62 ?_
                refine lv_bipush (v := (-2)) hx hb dX4_gather_63 (by decide) ?_
                refine lv_icmp_eq (tgt := 74) hx hb dX4_gather_65 (by decide) (fun c14 => ?_) (fun c14 => ?_)
                · obtain ⟨h, -⟩ := h
                  specialize h c14
                  obtain ⟨x15, ex15⟩ : ∃ y : Int32, y = y6 + 1 := ⟨_, rfl⟩
                  specialize h x15 ex15
                  refine lv_iinc (v := x15) (lv' := [(4, .int x15), (5, .int x11), (0, .ref aP), (1, .int p1), (2, .int y1), (3, .int x5)]) hx hb dX4_gather_74 hl (k := 5) rfl (by rw [ex15]; rfl) (by decide) rfl (fun ls hl => ?_)
                  refine lv_goto (tgt := 31) hx hb dX4_gather_77 (by decide) ?_
                  exact ih31 x15 z7 f8 h.1 (Nat.lt_of_lt_of_le h.2 (Nat.le_of_lt_succ hk31)) _ _ hP hD hS _ (lv_sub hl [2, 3, 4, 5, 0] rfl)
                · obtain ⟨-, h⟩ := h
                  specialize h c14
                  refine lv_aload_n hx hb dX4_gather_68 rfl (lv_at hl 1 rfl) ?_
                  refine lv_iload hx hb dX4_gather_69 (lv_at hl 0 rfl) ?_
                  obtain ⟨Q16, hw9, h⟩ := h
                  have hPc : va_P G vwCl [(aP, .inr (4, [.ref bF, .ref bL, .ref bX, .int wSz, .int wTl, .int z7, .ref aN, .int wCo])), (bF, .inl (cy 0, 4096, .inl gF)), (bL, .inl (cy 0, 4096, .inl gL)), (bX, .inl (cy 0, 24, .inl f8)), (aN, .inr (3, [.ref aR, .int vn])), (aR, .inl (cy 0, 9, .inl fN))] H := hP.sub [0, 1, 2, 3, 4, 5] rfl
                  have hDc : va_D A [(aP, .inr (4, [.ref bF, .ref bL, .ref bX, .int wSz, .int wTl, .int z7, .ref aN, .int wCo])), (bF, .inl (cy 0, 4096, .inl gF)), (bL, .inl (cy 0, 4096, .inl gL)), (bX, .inl (cy 0, 24, .inl f8)), (aN, .inr (3, [.ref aR, .int vn])), (aR, .inl (cy 0, 9, .inl fN))] := hD.sub [0, 1, 2, 3, 4, 5] (by decide) rfl
                  have hFc := va_free (wc := [(aP, .inr (4, [.ref bF, .ref bL, .ref bX, .int wSz, .int wTl, .int z7, .ref aN, .int wCo])), (bF, .inl (cy 0, 4096, .inl gF)), (bL, .inl (cy 0, 4096, .inl gL)), (bX, .inl (cy 0, 24, .inl f8)), (aN, .inr (3, [.ref aR, .int vn])), (aR, .inl (cy 0, 9, .inl fN))]) hD hS hA [0, 1, 2, 3, 4, 5] rfl
                  refine va_callv (va_runU (As := [.int x11]) (rest := []) ⟨hx, hb, hml, hown, hts⟩ (ct_X5_note_P l G cy aP bF bL bX aN aR H.size wSz wTl z7 wCo gF gL f8 vn fN x11 Q16 hw9) (va_cwU 1 hts gX4_gather_X5_note_u60X4 rfl rfl rfl rfl (by decide +kernel) ⟨Nat.le_of_ble_eq_true rfl, Nat.le_of_ble_eq_true rfl⟩) (wP_V hK hP (ci := 4) (q0 := 0) rfl rfl hPc hDc) rfl rfl hl.1 rfl (lv_room (Nat.le_of_ble_eq_true rfl)) dX4_gather_71 ⟨Nat.le_of_ble_eq_true rfl, Nat.le_of_ble_eq_true rfl⟩) hS (fun q9 _ h9 => hFc q9 h9) hFc (fun u9 t9 H locs ht9 hvm9 hw9 hB9 hz9 hk9 hS => ?_)
                  obtain ⟨z18, f19⟩ := u9
                  have hP : va_P G vwCl [(aP, .inr (4, [.ref bF, .ref bL, .ref bX, .int wSz, .int wTl, .int z18, .ref aN, .int wCo])), (bF, .inl (cy 0, 4096, .inl gF)), (bL, .inl (cy 0, 4096, .inl gL)), (bX, .inl (cy 0, 24, .inl f19)), (aN, .inr (3, [.ref aR, .int vn])), (aR, .inl (cy 0, 9, .inl fN))] H := P_back [0, 1, 2, 3, 4, 5] [] 6 hP hD rfl rfl rfl rfl (by decide) (by decide) hk9 (by rw [← ht9]; exact hB9)
                  have hD : va_D A [(aP, .inr (4, [.ref bF, .ref bL, .ref bX, .int wSz, .int wTl, .int z18, .ref aN, .int wCo])), (bF, .inl (cy 0, 4096, .inl gF)), (bL, .inl (cy 0, 4096, .inl gL)), (bX, .inl (cy 0, 24, .inl f19)), (aN, .inr (3, [.ref aR, .int vn])), (aR, .inl (cy 0, 9, .inl fN))] := D_same hD rfl
                  specialize h z18 f19 hw9
                  obtain ⟨x20, ex20⟩ : ∃ y : Int32, y = y6 + 1 := ⟨_, rfl⟩
                  specialize h x20 ex20
                  refine lv_iinc (v := x20) (lv' := [(4, .int x20), (5, .int x11), (0, .ref aP), (1, .int p1), (2, .int y1), (3, .int x5)]) hx hb dX4_gather_74 hl (k := 5) rfl (by rw [ex20]; rfl) (by decide) rfl (fun ls hl => ?_)
                  refine lv_goto (tgt := 31) hx hb dX4_gather_77 (by decide) ?_
                  exact ih31 x20 z18 f19 h.1 (Nat.lt_of_lt_of_le h.2 (Nat.le_of_lt_succ hk31)) _ _ hP hD hS _ (lv_sub hl [2, 3, 4, 5, 0] rfl)
        exact key31 _ 0 z2 f3 h031 (Nat.lt_succ_self _) _ _ hP hD hS _ (lv_sub hl [2, 3, 4, 1, 0] rfl)
  exact key7 _ 0 0 gX h07 (Nat.lt_succ_self _) _ _ hP hD hS _ (lv_sub hl [1, 2, 0] rfl)

set_option maxHeartbeats 4000000 in
set_option maxRecDepth 100000 in
theorem ct_X5_spread_P (l : Launch) (G : va_G) (cy : Nat → ClassId) (aP bF bL bX aN aR : Nat) (sz : Nat) (wSz : Int32) (wTl : Int32) (wFo : Int32) (wCo : Int32) (gF : Nat → Int32) (gL : Nat → Int32) (gX : Nat → Int32) (vn : Int32) (fN : Nat → Int32) (p1 : Int32) (p2 : Int32) (Q : Int32 → Int32 → (Nat → Int32) → (Nat → Int32) → (Nat → Int32) → Prop) (h : wp_X5_spread_P wTl wFo wCo gF gL gX vn p1 p2 Q) : Met l yX5_spread wsX5_spread rmX5_spread_P (va_Pc [.ref aP, .int p1, .int p2] (wP G cy sz [(aP, .inr (4, [.ref bF, .ref bL, .ref bX, .int wSz, .int wTl, .int wFo, .ref aN, .int wCo])), (bF, .inl (cy 0, 4096, .inl gF)), (bL, .inl (cy 0, 4096, .inl gL)), (bX, .inl (cy 0, 24, .inl gX)), (aN, .inr (3, [.ref aR, .int vn])), (aR, .inl (cy 0, 9, .inl fN))])) (va_Qv (fun (u : Int32 × Int32 × (Nat → Int32) × (Nat → Int32) × (Nat → Int32)) => Q u.1 u.2.1 u.2.2.1 u.2.2.2.1 u.2.2.2.2) (fun (u : Int32 × Int32 × (Nat → Int32) × (Nat → Int32) × (Nat → Int32)) (t : State) => va_P G vwCl [(aP, .inr (4, [.ref bF, .ref bL, .ref bX, .int wSz, .int u.1, .int u.2.1, .ref aN, .int wCo])), (bF, .inl (cy 0, 4096, .inl u.2.2.1)), (bL, .inl (cy 0, 4096, .inl u.2.2.2.1)), (bX, .inl (cy 0, 24, .inl u.2.2.2.2)), (aN, .inr (3, [.ref aR, .int vn])), (aR, .inl (cy 0, 9, .inl fN))] t.heap) (va_A [(aP, .inr (4, [.ref bF, .ref bL, .ref bX, .int wSz, .int wTl, .int wFo, .ref aN, .int wCo])), (bF, .inl (cy 0, 4096, .inl gF)), (bL, .inl (cy 0, 4096, .inl gL)), (bX, .inl (cy 0, 24, .inl gX)), (aN, .inr (3, [.ref aR, .int vn])), (aR, .inl (cy 0, 9, .inl fN))] sz)) 0 0 (va_A [(aP, .inr (4, [.ref bF, .ref bL, .ref bX, .int wSz, .int wTl, .int wFo, .ref aN, .int wCo])), (bF, .inl (cy 0, 4096, .inl gF)), (bL, .inl (cy 0, 4096, .inl gL)), (bX, .inl (cy 0, 24, .inl gX)), (aN, .inr (3, [.ref aR, .int vn])), (aR, .inl (cy 0, 9, .inl fN))] sz) := by
  unfold wp_X5_spread_P at h
  refine Met.ofW (cc := cX5_spread) (maxL := 7) (ret := none) (by decide) rfl ?_
  intro p e s m args below meth c s₁ B hml hv
  obtain ⟨hav, hsz, hP, hK, hD0⟩ := hv
  have hx := B.exec
  have hb := B.bytes
  have hr := B.returns
  have hts := atoms_spec (ws := wsX5_spread) B.pre
  have hown : s.vm.findClass RX5 = some m.cls := findClass_of_methodNamed B.named
  have hlocks := B.notSynchronized
  subst hsz
  have hD := hD0.self (sz := s.heap.size)
  generalize hAe : va_A [(aP, .inr (4, [.ref bF, .ref bL, .ref bX, .int wSz, .int wTl, .int wFo, .ref aN, .int wCo])), (bF, .inl (cy 0, 4096, .inl gF)), (bL, .inl (cy 0, 4096, .inl gL)), (bX, .inl (cy 0, 24, .inl gX)), (aN, .inr (3, [.ref aR, .int vn])), (aR, .inl (cy 0, 9, .inl fN))] s.heap.size = A at hD ⊢
  have hA : ∀ q : Nat, s.heap.size ≤ q → A q := fun q h9 => by rw [← hAe]; exact Or.inr h9
  have hS : va_S A s.heap s.heap [] := va_S.rf
  have hl := lv_entry ([.ref aP, .int p1, .int p2]) (n := 7) (Nat.le_of_ble_eq_true rfl)
  rw [show entryFrame m args 7 = entryFrame m ([.ref aP, .int p1, .int p2] : List Value).toArray 7 by rw [hav], lg_entry_eq]
  generalize (lg_sl ([.ref aP, .int p1, .int p2]) ++ List.replicate (7 - (lg_sl ([.ref aP, .int p1, .int p2])).length) Slot.unset).toArray = ls at hl ⊢
  have hl : lv_has ls 7 [(0, .ref aP), (1, .int p1), (2, .int p2)] := hl
  generalize hQe : MQ below _ _ _ _ _ _ = QM
  have hP : va_P G vwCl [(aP, .inr (4, [.ref bF, .ref bL, .ref bX, .int wSz, .int wTl, .int wFo, .ref aN, .int wCo])), (bF, .inl (cy 0, 4096, .inl gF)), (bL, .inl (cy 0, 4096, .inl gL)), (bX, .inl (cy 0, 24, .inl gX)), (aN, .inr (3, [.ref aR, .int vn])), (aR, .inl (cy 0, 9, .inl fN))] s.heap := hP
  have iwX4 : ∀ w ∈ wsX40, w ∈ wsX5_spread := by decide +kernel
  have fl15 := hts (.fieldLink RX5 15 "SlidTokens$Search" "tail" "I") (by decide +kernel)
  have fl21 := hts (.fieldLink RX5 21 "SlidTokens$Search" "far" "[I") (by decide +kernel)
  have fl25 := hts (.fieldLink RX5 25 "SlidTokens$Search" "line" "[I") (by decide +kernel)
  have fl18 := hts (.fieldLink RX5 18 "SlidTokens$Search" "found" "I") (by decide +kernel)
  have fl28 := hts (.fieldLink RX5 28 "SlidTokens$Search" "next" "[I") (by decide +kernel)
  suffices K9 : ∀ (H : Heap) (locs : List Loc), va_P G vwCl [(aP, .inr (4, [.ref bF, .ref bL, .ref bX, .int wSz, .int wTl, .int wFo, .ref aN, .int wCo])), (bF, .inl (cy 0, 4096, .inl gF)), (bL, .inl (cy 0, 4096, .inl gL)), (bX, .inl (cy 0, 24, .inl gX)), (aN, .inr (3, [.ref aR, .int vn])), (aR, .inl (cy 0, 9, .inl fN))] H → va_D A [(aP, .inr (4, [.ref bF, .ref bL, .ref bX, .int wSz, .int wTl, .int wFo, .ref aN, .int wCo])), (bF, .inl (cy 0, 4096, .inl gF)), (bL, .inl (cy 0, 4096, .inl gL)), (bX, .inl (cy 0, 24, .inl gX)), (aN, .inr (3, [.ref aR, .int vn])), (aR, .inl (cy 0, 9, .inl fN))] → va_S A s.heap H locs → W p l e (headSpec wsX5_spread rmX5_spread_P).room s m args below meth c H locs 0 0 QM (F0 m 0 ls []) from K9 _ _ hP hD hS
  clear hP hD hS
  intro H locs hP hD hS
  refine lv_aload_n hx hb dX5_spread_0 rfl (lv_at hl 0 rfl) ?_
  refine va_get (D := G) (ci := 4) (v := .int wTl) (C := RX4) (T := TX4) (N := 8) hx hb hts iwX4 hown hK.1 hP 0 rfl rfl 4 (by decide) fl15 (fun _ h9 => h9) rfl dX5_spread_1 ?_
  refine lv_istore_n (lv' := [(3, .int wTl), (0, .ref aP), (1, .int p1), (2, .int p2)]) hx hb dX5_spread_4 rfl hl (by decide) rfl (fun ls hl => ?_)
  refine lv_aload_n hx hb dX5_spread_5 rfl (lv_at hl 1 rfl) ?_
  refine va_get (D := G) (ci := 4) (v := .ref bF) (C := RX4) (T := TX4) (N := 8) hx hb hts iwX4 hown hK.1 hP 0 rfl rfl 0 (by decide) fl21 (fun _ h9 => h9) rfl dX5_spread_6 ?_
  refine lv_iload_n hx hb dX5_spread_9 rfl (lv_at hl 2 rfl) ?_
  obtain ⟨hi, h⟩ := h
  refine va_iald hx hb hK.1 hP 1 0 rfl rfl hi dX5_spread_10 ?_
  refine lv_bipush (v := (-2)) hx hb dX5_spread_11 (by decide) ?_
  obtain ⟨J21_1, h, hJ21⟩ := h
  have jn21 : ∀ (t1 : Int32), J21_1 t1 → ∀ (H : Heap) (locs : List Loc), va_P G vwCl [(aP, .inr (4, [.ref bF, .ref bL, .ref bX, .int wSz, .int wTl, .int wFo, .ref aN, .int wCo])), (bF, .inl (cy 0, 4096, .inl gF)), (bL, .inl (cy 0, 4096, .inl gL)), (bX, .inl (cy 0, 24, .inl gX)), (aN, .inr (3, [.ref aR, .int vn])), (aR, .inl (cy 0, 9, .inl fN))] H → va_D A [(aP, .inr (4, [.ref bF, .ref bL, .ref bX, .int wSz, .int wTl, .int wFo, .ref aN, .int wCo])), (bF, .inl (cy 0, 4096, .inl gF)), (bL, .inl (cy 0, 4096, .inl gL)), (bX, .inl (cy 0, 24, .inl gX)), (aN, .inr (3, [.ref aR, .int vn])), (aR, .inl (cy 0, 9, .inl fN))] → va_S A s.heap H locs → ∀ (ls : Array Slot), lv_has ls 7 [(0, .ref aP), (1, .int p1), (2, .int p2), (3, .int wTl)] → W p l e (headSpec wsX5_spread rmX5_spread_P).room s m args below meth c H locs 0 0 QM (F0 m 21 ls [.int t1]) := by
    intro t1 hj9 H locs hP hD hS ls hl
    have h := hJ21 t1 hj9
    refine lv_istore (lv' := [(4, .int t1), (0, .ref aP), (1, .int p1), (2, .int p2), (3, .int wTl)]) hx hb dX5_spread_21 hl (by decide) rfl (fun ls hl => ?_)
    refine lv_aload_n hx hb dX5_spread_23 rfl (lv_at hl 1 rfl) ?_
    refine lv_iload_n hx hb dX5_spread_24 rfl (lv_at hl 2 rfl) ?_
    refine lv_iconst (v := 0) hx hb dX5_spread_25 (by decide) ?_
    obtain ⟨Q3, hw9, h⟩ := h
    have hPc : va_P G vwCl [(aP, .inr (4, [.ref bF, .ref bL, .ref bX, .int wSz, .int wTl, .int wFo, .ref aN, .int wCo])), (bF, .inl (cy 0, 4096, .inl gF)), (bL, .inl (cy 0, 4096, .inl gL)), (bX, .inl (cy 0, 24, .inl gX)), (aN, .inr (3, [.ref aR, .int vn])), (aR, .inl (cy 0, 9, .inl fN))] H := hP.sub [0, 1, 2, 3, 4, 5] rfl
    have hDc : va_D A [(aP, .inr (4, [.ref bF, .ref bL, .ref bX, .int wSz, .int wTl, .int wFo, .ref aN, .int wCo])), (bF, .inl (cy 0, 4096, .inl gF)), (bL, .inl (cy 0, 4096, .inl gL)), (bX, .inl (cy 0, 24, .inl gX)), (aN, .inr (3, [.ref aR, .int vn])), (aR, .inl (cy 0, 9, .inl fN))] := hD.sub [0, 1, 2, 3, 4, 5] (by decide) rfl
    have hFc := va_free (wc := [(aP, .inr (4, [.ref bF, .ref bL, .ref bX, .int wSz, .int wTl, .int wFo, .ref aN, .int wCo])), (bF, .inl (cy 0, 4096, .inl gF)), (bL, .inl (cy 0, 4096, .inl gL)), (bX, .inl (cy 0, 24, .inl gX)), (aN, .inr (3, [.ref aR, .int vn])), (aR, .inl (cy 0, 9, .inl fN))]) hD hS hA [0, 1, 2, 3, 4, 5] rfl
    refine va_callv (va_runU (As := [.int p1, .int 0]) (rest := []) ⟨hx, hb, hml, hown, hts⟩ (ct_X5_enter_P l G cy aP bF bL bX aN aR H.size wSz wTl wFo wCo gF gL gX vn fN p1 0 Q3 hw9) (va_cwU 2 hts gX5_spread_X5_enter_u31X4 rfl rfl rfl rfl (by decide +kernel) ⟨Nat.le_of_ble_eq_true rfl, Nat.le_of_ble_eq_true rfl⟩) (wP_V hK hP (ci := 4) (q0 := 0) rfl rfl hPc hDc) rfl rfl hl.1 rfl (lv_room (Nat.le_of_ble_eq_true rfl)) dX5_spread_26 ⟨Nat.le_of_ble_eq_true rfl, Nat.le_of_ble_eq_true rfl⟩) hS (fun q9 _ h9 => hFc q9 h9) hFc (fun u9 t9 H locs ht9 hvm9 hw9 hB9 hz9 hk9 hS => ?_)
    obtain ⟨z5, f6, f7⟩ := u9
    have hP : va_P G vwCl [(aP, .inr (4, [.ref bF, .ref bL, .ref bX, .int wSz, .int z5, .int wFo, .ref aN, .int wCo])), (bF, .inl (cy 0, 4096, .inl f6)), (bL, .inl (cy 0, 4096, .inl f7)), (bX, .inl (cy 0, 24, .inl gX)), (aN, .inr (3, [.ref aR, .int vn])), (aR, .inl (cy 0, 9, .inl fN))] H := P_back [0, 1, 2, 3, 4, 5] [] 6 hP hD rfl rfl rfl rfl (by decide) (by decide) hk9 (by rw [← ht9]; exact hB9)
    have hD : va_D A [(aP, .inr (4, [.ref bF, .ref bL, .ref bX, .int wSz, .int z5, .int wFo, .ref aN, .int wCo])), (bF, .inl (cy 0, 4096, .inl f6)), (bL, .inl (cy 0, 4096, .inl f7)), (bX, .inl (cy 0, 24, .inl gX)), (aN, .inr (3, [.ref aR, .int vn])), (aR, .inl (cy 0, 9, .inl fN))] := D_same hD rfl
    specialize h z5 f6 f7 hw9
    obtain ⟨I29_13, u29_13, h029, hst29⟩ := h
    have key29 : ∀ (k9 : Nat) (y8 : Int32) (z9 : Int32) (z10 : Int32) (f11 : Nat → Int32) (f12 : Nat → Int32) (f13 : Nat → Int32), I29_13 y8 z9 z10 f11 f12 f13 → u29_13 y8 z9 z10 f11 f12 f13 < k9 → ∀ (H : Heap) (locs : List Loc), va_P G vwCl [(aP, .inr (4, [.ref bF, .ref bL, .ref bX, .int wSz, .int z9, .int z10, .ref aN, .int wCo])), (bF, .inl (cy 0, 4096, .inl f11)), (bL, .inl (cy 0, 4096, .inl f12)), (bX, .inl (cy 0, 24, .inl f13)), (aN, .inr (3, [.ref aR, .int vn])), (aR, .inl (cy 0, 9, .inl fN))] H → va_D A [(aP, .inr (4, [.ref bF, .ref bL, .ref bX, .int wSz, .int z9, .int z10, .ref aN, .int wCo])), (bF, .inl (cy 0, 4096, .inl f11)), (bL, .inl (cy 0, 4096, .inl f12)), (bX, .inl (cy 0, 24, .inl f13)), (aN, .inr (3, [.ref aR, .int vn])), (aR, .inl (cy 0, 9, .inl fN))] → va_S A s.heap H locs → ∀ (ls : Array Slot), lv_has ls 7 [(0, .ref aP), (2, .int p2), (3, .int y8), (4, .int t1)] → W p l e (headSpec wsX5_spread rmX5_spread_P).room s m args below meth c H locs 0 0 QM (F0 m 29 ls []) := by
      intro k9
      induction k9 with
      | zero =>
        intro y8 z9 z10 f11 f12 f13 hI9 hk9
        exact absurd hk9 (Nat.not_lt_zero _)
      | succ k9 ih29 =>
        intro y8 z9 z10 f11 f12 f13 hI9 hk29 H locs hP hD hS ls hl
        have h := hst29 y8 z9 z10 f11 f12 f13 hI9
        refine lv_iload hx hb dX5_spread_29 (lv_at hl 3 rfl) ?_
        refine lv_if_eq (tgt := 140) hx hb dX5_spread_31 (by decide) (fun c14 => ?_) (fun c14 => ?_)
        · obtain ⟨h, -⟩ := h
          specialize h c14
          rw [← hQe]
          exact W.vret hx hb hr (fun t ht hW => ⟨⟨(z9, z10, f11, f12, f13), rfl, h, by dsimp only; rw [ht]; exact hP⟩, hS.F ht⟩) hS.2.2 dX5_spread_140
        · obtain ⟨-, h⟩ := h
          specialize h c14
          refine lv_iload_n hx hb dX5_spread_34 rfl (lv_at hl 2 rfl) ?_
          refine lv_aload_n hx hb dX5_spread_35 rfl (lv_at hl 0 rfl) ?_
          refine va_get (D := G) (ci := 4) (v := .int z9) (C := RX4) (T := TX4) (N := 8) hx hb hts iwX4 hown hK.1 hP 0 rfl rfl 4 (by decide) fl15 (fun _ h9 => h9) rfl dX5_spread_36 ?_
          refine lv_icmp_ge (tgt := 140) hx hb dX5_spread_39 (by decide) (fun c15 => ?_) (fun c15 => ?_)
          · obtain ⟨h, -⟩ := h
            specialize h c15
            rw [← hQe]
            exact W.vret hx hb hr (fun t ht hW => ⟨⟨(z9, z10, f11, f12, f13), rfl, h, by dsimp only; rw [ht]; exact hP⟩, hS.F ht⟩) hS.2.2 dX5_spread_140
          · obtain ⟨-, h⟩ := h
            specialize h c15
            refine lv_iload_n hx hb dX5_spread_42 rfl (lv_at hl 2 rfl) ?_
            refine lv_aload_n hx hb dX5_spread_43 rfl (lv_at hl 0 rfl) ?_
            refine va_get (D := G) (ci := 4) (v := .ref bL) (C := RX4) (T := TX4) (N := 8) hx hb hts iwX4 hown hK.1 hP 0 rfl rfl 1 (by decide) fl25 (fun _ h9 => h9) rfl dX5_spread_44 ?_
            refine va_alen hx hb hK.1 hP 2 0 rfl rfl (v := 4096) rfl dX5_spread_47 ?_
            refine lv_icmp_ge (tgt := 140) hx hb dX5_spread_48 (by decide) (fun c16 => ?_) (fun c16 => ?_)
            · obtain ⟨h, -⟩ := h
              specialize h c16
              rw [← hQe]
              exact W.vret hx hb hr (fun t ht hW => ⟨⟨(z9, z10, f11, f12, f13), rfl, h, by dsimp only; rw [ht]; exact hP⟩, hS.F ht⟩) hS.2.2 dX5_spread_140
            · obtain ⟨-, h⟩ := h
              specialize h c16
              refine lv_iload_n hx hb dX5_spread_51 rfl (lv_at hl 1 rfl) ?_
              refine lv_iconst (v := (-1)) hx hb dX5_spread_52 (by decide) ?_
              obtain ⟨J66_16, h, hJ66⟩ := h
              have jn66 : J66_16 → ∀ (H : Heap) (locs : List Loc), va_P G vwCl [(aP, .inr (4, [.ref bF, .ref bL, .ref bX, .int wSz, .int z9, .int z10, .ref aN, .int wCo])), (bF, .inl (cy 0, 4096, .inl f11)), (bL, .inl (cy 0, 4096, .inl f12)), (bX, .inl (cy 0, 24, .inl f13)), (aN, .inr (3, [.ref aR, .int vn])), (aR, .inl (cy 0, 9, .inl fN))] H → va_D A [(aP, .inr (4, [.ref bF, .ref bL, .ref bX, .int wSz, .int z9, .int z10, .ref aN, .int wCo])), (bF, .inl (cy 0, 4096, .inl f11)), (bL, .inl (cy 0, 4096, .inl f12)), (bX, .inl (cy 0, 24, .inl f13)), (aN, .inr (3, [.ref aR, .int vn])), (aR, .inl (cy 0, 9, .inl fN))] → va_S A s.heap H locs → ∀ (ls : Array Slot), lv_has ls 7 [(0, .ref aP), (2, .int p2), (3, .int y8), (4, .int t1)] → W p l e (headSpec wsX5_spread rmX5_spread_P).room s m args below meth c H locs 0 0 QM (F0 m 66 ls []) := by
                intro  hj9 H locs hP hD hS ls hl
                have h := hJ66  hj9
                refine lv_aload_n hx hb dX5_spread_66 rfl (lv_at hl 0 rfl) ?_
                refine va_get (D := G) (ci := 4) (v := .ref bL) (C := RX4) (T := TX4) (N := 8) hx hb hts iwX4 hown hK.1 hP 0 rfl rfl 1 (by decide) fl25 (fun _ h9 => h9) rfl dX5_spread_67 ?_
                refine lv_iload_n hx hb dX5_spread_70 rfl (lv_at hl 2 rfl) ?_
                obtain ⟨hi, h⟩ := h
                refine va_iald hx hb hK.1 hP 2 0 rfl rfl hi dX5_spread_71 ?_
                refine lv_topi (fun x19 ex19 => ?_)
                specialize h x19 ex19
                refine lv_istore (lv' := [(5, .int x19), (0, .ref aP), (2, .int p2), (3, .int y8), (4, .int t1)]) hx hb dX5_spread_72 hl (by decide) rfl (fun ls hl => ?_)
                refine lv_aload_n hx hb dX5_spread_74 rfl (lv_at hl 1 rfl) ?_
                refine lv_iload hx hb dX5_spread_75 (lv_at hl 0 rfl) ?_
                obtain ⟨Q20, hw9, h⟩ := h
                have hPc : va_P G vwCl [(aP, .inr (4, [.ref bF, .ref bL, .ref bX, .int wSz, .int z9, .int z10, .ref aN, .int wCo])), (bF, .inl (cy 0, 4096, .inl f11)), (bL, .inl (cy 0, 4096, .inl f12)), (bX, .inl (cy 0, 24, .inl f13)), (aN, .inr (3, [.ref aR, .int vn])), (aR, .inl (cy 0, 9, .inl fN))] H := hP.sub [0, 1, 2, 3, 4, 5] rfl
                have hDc : va_D A [(aP, .inr (4, [.ref bF, .ref bL, .ref bX, .int wSz, .int z9, .int z10, .ref aN, .int wCo])), (bF, .inl (cy 0, 4096, .inl f11)), (bL, .inl (cy 0, 4096, .inl f12)), (bX, .inl (cy 0, 24, .inl f13)), (aN, .inr (3, [.ref aR, .int vn])), (aR, .inl (cy 0, 9, .inl fN))] := hD.sub [0, 1, 2, 3, 4, 5] (by decide) rfl
                have hFc := va_free (wc := [(aP, .inr (4, [.ref bF, .ref bL, .ref bX, .int wSz, .int z9, .int z10, .ref aN, .int wCo])), (bF, .inl (cy 0, 4096, .inl f11)), (bL, .inl (cy 0, 4096, .inl f12)), (bX, .inl (cy 0, 24, .inl f13)), (aN, .inr (3, [.ref aR, .int vn])), (aR, .inl (cy 0, 9, .inl fN))]) hD hS hA [0, 1, 2, 3, 4, 5] rfl
                refine va_callv (va_runU (As := [.int x19]) (rest := []) ⟨hx, hb, hml, hown, hts⟩ (ct_X4_gather l G cy aP bF bL bX aN aR H.size wSz z9 z10 wCo f11 f12 f13 vn fN x19 Q20 hw9) (va_cwA 1 hts gX5_spread_X4_gather_u35X4 rfl rfl rfl hK.2.2 (by decide +kernel) ⟨Nat.le_of_ble_eq_true rfl, Nat.le_of_ble_eq_true rfl⟩) (wP_V hK hP (ci := 4) (q0 := 0) rfl rfl hPc hDc) rfl rfl hl.1 rfl (lv_room (Nat.le_of_ble_eq_true rfl)) dX5_spread_77 ⟨Nat.le_of_ble_eq_true rfl, Nat.le_of_ble_eq_true rfl⟩) hS (fun q9 _ h9 => hFc q9 h9) hFc (fun u9 t9 H locs ht9 hvm9 hw9 hB9 hz9 hk9 hS => ?_)
                obtain ⟨z22, f23⟩ := u9
                have hP : va_P G vwCl [(aP, .inr (4, [.ref bF, .ref bL, .ref bX, .int wSz, .int z9, .int z22, .ref aN, .int wCo])), (bF, .inl (cy 0, 4096, .inl f11)), (bL, .inl (cy 0, 4096, .inl f12)), (bX, .inl (cy 0, 24, .inl f23)), (aN, .inr (3, [.ref aR, .int vn])), (aR, .inl (cy 0, 9, .inl fN))] H := P_back [0, 1, 2, 3, 4, 5] [] 6 hP hD rfl rfl rfl rfl (by decide) (by decide) hk9 (by rw [← ht9]; exact hB9)
                have hD : va_D A [(aP, .inr (4, [.ref bF, .ref bL, .ref bX, .int wSz, .int z9, .int z22, .ref aN, .int wCo])), (bF, .inl (cy 0, 4096, .inl f11)), (bL, .inl (cy 0, 4096, .inl f12)), (bX, .inl (cy 0, 24, .inl f23)), (aN, .inr (3, [.ref aR, .int vn])), (aR, .inl (cy 0, 9, .inl fN))] := D_same hD rfl
                specialize h z22 f23 hw9
                refine lv_iconst (v := 0) hx hb dX5_spread_80 (by decide) ?_
                refine lv_istore (lv' := [(6, .int 0), (5, .int x19), (0, .ref aP), (2, .int p2), (3, .int y8), (4, .int t1)]) hx hb dX5_spread_81 hl (by decide) rfl (fun ls hl => ?_)
                obtain ⟨I83_27, u83_27, h083, hst83⟩ := h
                have key83 : ∀ (k9 : Nat) (y24 : Int32) (z25 : Int32) (f26 : Nat → Int32) (f27 : Nat → Int32), I83_27 y24 z25 f26 f27 → u83_27 y24 z25 f26 f27 < k9 → ∀ (H : Heap) (locs : List Loc), va_P G vwCl [(aP, .inr (4, [.ref bF, .ref bL, .ref bX, .int wSz, .int z25, .int z22, .ref aN, .int wCo])), (bF, .inl (cy 0, 4096, .inl f26)), (bL, .inl (cy 0, 4096, .inl f27)), (bX, .inl (cy 0, 24, .inl f23)), (aN, .inr (3, [.ref aR, .int vn])), (aR, .inl (cy 0, 9, .inl fN))] H → va_D A [(aP, .inr (4, [.ref bF, .ref bL, .ref bX, .int wSz, .int z25, .int z22, .ref aN, .int wCo])), (bF, .inl (cy 0, 4096, .inl f26)), (bL, .inl (cy 0, 4096, .inl f27)), (bX, .inl (cy 0, 24, .inl f23)), (aN, .inr (3, [.ref aR, .int vn])), (aR, .inl (cy 0, 9, .inl fN))] → va_S A s.heap H locs → ∀ (ls : Array Slot), lv_has ls 7 [(0, .ref aP), (2, .int p2), (3, .int y8), (4, .int t1), (5, .int x19), (6, .int y24)] → W p l e (headSpec wsX5_spread rmX5_spread_P).room s m args below meth c H locs 0 0 QM (F0 m 83 ls []) := by
                  intro k9
                  induction k9 with
                  | zero =>
                    intro y24 z25 f26 f27 hI9 hk9
                    exact absurd hk9 (Nat.not_lt_zero _)
                  | succ k9 ih83 =>
                    intro y24 z25 f26 f27 hI9 hk83 H locs hP hD hS ls hl
                    have h := hst83 y24 z25 f26 f27 hI9
                    refine lv_iload hx hb dX5_spread_83 (lv_at hl 5 rfl) ?_
                    refine lv_aload_n hx hb dX5_spread_85 rfl (lv_at hl 0 rfl) ?_
                    refine va_get (D := G) (ci := 4) (v := .int z22) (C := RX4) (T := TX4) (N := 8) hx hb hts iwX4 hown hK.1 hP 0 rfl rfl 5 (by decide) fl18 (fun _ h9 => h9) rfl dX5_spread_86 ?_
                    refine lv_icmp_ge (tgt := 134) hx hb dX5_spread_89 (by decide) (fun c28 => ?_) (fun c28 => ?_)
                    · obtain ⟨h, -⟩ := h
                      specialize h c28
                      obtain ⟨x29, ex29⟩ : ∃ y : Int32, y = y8 + 1 := ⟨_, rfl⟩
                      specialize h x29 ex29
                      refine lv_iinc (v := x29) (lv' := [(3, .int x29), (0, .ref aP), (2, .int p2), (4, .int t1), (5, .int x19), (6, .int y24)]) hx hb dX5_spread_134 hl (k := 2) rfl (by rw [ex29]; rfl) (by decide) rfl (fun ls hl => ?_)
                      refine lv_goto (tgt := 29) hx hb dX5_spread_137 (by decide) ?_
                      exact ih29 x29 z25 z22 f26 f27 f23 h.1 (Nat.lt_of_lt_of_le h.2 (Nat.le_of_lt_succ hk29)) _ _ hP hD hS _ (lv_sub hl [1, 2, 0, 3] rfl)
                    · obtain ⟨-, h⟩ := h
                      specialize h c28
                      refine lv_aload_n hx hb dX5_spread_92 rfl (lv_at hl 0 rfl) ?_
                      refine va_get (D := G) (ci := 4) (v := .ref bF) (C := RX4) (T := TX4) (N := 8) hx hb hts iwX4 hown hK.1 hP 0 rfl rfl 0 (by decide) fl21 (fun _ h9 => h9) rfl dX5_spread_93 ?_
                      refine lv_aload_n hx hb dX5_spread_96 rfl (lv_at hl 0 rfl) ?_
                      refine va_get (D := G) (ci := 4) (v := .ref bX) (C := RX4) (T := TX4) (N := 8) hx hb hts iwX4 hown hK.1 hP 0 rfl rfl 2 (by decide) fl28 (fun _ h9 => h9) rfl dX5_spread_97 ?_
                      refine lv_iload hx hb dX5_spread_100 (lv_at hl 5 rfl) ?_
                      obtain ⟨hi, h⟩ := h
                      refine va_iald hx hb hK.1 hP 3 0 rfl rfl hi dX5_spread_102 ?_
                      obtain ⟨hi, h⟩ := h
                      refine va_iald hx hb hK.1 hP 1 0 rfl rfl hi dX5_spread_103 ?_
                      refine lv_iconst (v := (-1)) hx hb dX5_spread_104 (by decide) ?_
                      refine lv_icmp_ne (tgt := 128) hx hb dX5_spread_105 (by decide) (fun c30 => ?_) (fun c30 => ?_)
                      · obtain ⟨-, h⟩ := h
                        specialize h c30
                        obtain ⟨x31, ex31⟩ : ∃ y : Int32, y = y24 + 1 := ⟨_, rfl⟩
                        specialize h x31 ex31
                        refine lv_iinc (v := x31) (lv' := [(6, .int x31), (0, .ref aP), (2, .int p2), (3, .int y8), (4, .int t1), (5, .int x19)]) hx hb dX5_spread_128 hl (k := 5) rfl (by rw [ex31]; rfl) (by decide) rfl (fun ls hl => ?_)
                        refine lv_goto (tgt := 83) hx hb dX5_spread_131 (by decide) ?_
                        exact ih83 x31 z25 f26 f27 h.1 (Nat.lt_of_lt_of_le h.2 (Nat.le_of_lt_succ hk83)) _ _ hP hD hS _ (lv_sub hl [1, 2, 3, 4, 5, 0] rfl)
                      · obtain ⟨h, -⟩ := h
                        specialize h c30
                        refine lv_aload_n hx hb dX5_spread_108 rfl (lv_at hl 0 rfl) ?_
                        refine lv_aload_n hx hb dX5_spread_109 rfl (lv_at hl 0 rfl) ?_
                        refine va_get (D := G) (ci := 4) (v := .ref bX) (C := RX4) (T := TX4) (N := 8) hx hb hts iwX4 hown hK.1 hP 0 rfl rfl 2 (by decide) fl28 (fun _ h9 => h9) rfl dX5_spread_110 ?_
                        refine lv_iload hx hb dX5_spread_113 (lv_at hl 5 rfl) ?_
                        obtain ⟨hi, h⟩ := h
                        refine va_iald hx hb hK.1 hP 3 0 rfl rfl hi dX5_spread_115 ?_
                        refine lv_aload_n hx hb dX5_spread_116 rfl (lv_at hl 0 rfl) ?_
                        refine va_get (D := G) (ci := 4) (v := .ref bF) (C := RX4) (T := TX4) (N := 8) hx hb hts iwX4 hown hK.1 hP 0 rfl rfl 0 (by decide) fl21 (fun _ h9 => h9) rfl dX5_spread_117 ?_
                        refine lv_iload hx hb dX5_spread_120 (lv_at hl 4 rfl) ?_
                        obtain ⟨hi, h⟩ := h
                        refine va_iald hx hb hK.1 hP 1 0 rfl rfl hi dX5_spread_122 ?_
                        refine lv_iconst (v := 1) hx hb dX5_spread_123 (by decide) ?_
                        refine lv_iadd hx hb dX5_spread_124 ?_
                        obtain ⟨Q32, hw9, h⟩ := h
                        have hPc : va_P G vwCl [(aP, .inr (4, [.ref bF, .ref bL, .ref bX, .int wSz, .int z25, .int z22, .ref aN, .int wCo])), (bF, .inl (cy 0, 4096, .inl f26)), (bL, .inl (cy 0, 4096, .inl f27)), (bX, .inl (cy 0, 24, .inl f23)), (aN, .inr (3, [.ref aR, .int vn])), (aR, .inl (cy 0, 9, .inl fN))] H := hP.sub [0, 1, 2, 3, 4, 5] rfl
                        have hDc : va_D A [(aP, .inr (4, [.ref bF, .ref bL, .ref bX, .int wSz, .int z25, .int z22, .ref aN, .int wCo])), (bF, .inl (cy 0, 4096, .inl f26)), (bL, .inl (cy 0, 4096, .inl f27)), (bX, .inl (cy 0, 24, .inl f23)), (aN, .inr (3, [.ref aR, .int vn])), (aR, .inl (cy 0, 9, .inl fN))] := hD.sub [0, 1, 2, 3, 4, 5] (by decide) rfl
                        have hFc := va_free (wc := [(aP, .inr (4, [.ref bF, .ref bL, .ref bX, .int wSz, .int z25, .int z22, .ref aN, .int wCo])), (bF, .inl (cy 0, 4096, .inl f26)), (bL, .inl (cy 0, 4096, .inl f27)), (bX, .inl (cy 0, 24, .inl f23)), (aN, .inr (3, [.ref aR, .int vn])), (aR, .inl (cy 0, 9, .inl fN))]) hD hS hA [0, 1, 2, 3, 4, 5] rfl
                        refine va_callv (va_runU (As := [.int (f23 (y24 : Int32).toNatClampNeg), .int ((f26 (x19 : Int32).toNatClampNeg) + (1 : Int32))]) (rest := []) ⟨hx, hb, hml, hown, hts⟩ (ct_X5_enter_P l G cy aP bF bL bX aN aR H.size wSz z25 z22 wCo f26 f27 f23 vn fN (f23 (y24 : Int32).toNatClampNeg) ((f26 (x19 : Int32).toNatClampNeg) + (1 : Int32)) Q32 hw9) (va_cwU 2 hts gX5_spread_X5_enter_u31X4 rfl rfl rfl rfl (by decide +kernel) ⟨Nat.le_of_ble_eq_true rfl, Nat.le_of_ble_eq_true rfl⟩) (wP_V hK hP (ci := 4) (q0 := 0) rfl rfl hPc hDc) rfl rfl hl.1 rfl (lv_room (Nat.le_of_ble_eq_true rfl)) dX5_spread_125 ⟨Nat.le_of_ble_eq_true rfl, Nat.le_of_ble_eq_true rfl⟩) hS (fun q9 _ h9 => hFc q9 h9) hFc (fun u9 t9 H locs ht9 hvm9 hw9 hB9 hz9 hk9 hS => ?_)
                        obtain ⟨z34, f35, f36⟩ := u9
                        have hP : va_P G vwCl [(aP, .inr (4, [.ref bF, .ref bL, .ref bX, .int wSz, .int z34, .int z22, .ref aN, .int wCo])), (bF, .inl (cy 0, 4096, .inl f35)), (bL, .inl (cy 0, 4096, .inl f36)), (bX, .inl (cy 0, 24, .inl f23)), (aN, .inr (3, [.ref aR, .int vn])), (aR, .inl (cy 0, 9, .inl fN))] H := P_back [0, 1, 2, 3, 4, 5] [] 6 hP hD rfl rfl rfl rfl (by decide) (by decide) hk9 (by rw [← ht9]; exact hB9)
                        have hD : va_D A [(aP, .inr (4, [.ref bF, .ref bL, .ref bX, .int wSz, .int z34, .int z22, .ref aN, .int wCo])), (bF, .inl (cy 0, 4096, .inl f35)), (bL, .inl (cy 0, 4096, .inl f36)), (bX, .inl (cy 0, 24, .inl f23)), (aN, .inr (3, [.ref aR, .int vn])), (aR, .inl (cy 0, 9, .inl fN))] := D_same hD rfl
                        specialize h z34 f35 f36 hw9
                        obtain ⟨x37, ex37⟩ : ∃ y : Int32, y = y24 + 1 := ⟨_, rfl⟩
                        specialize h x37 ex37
                        refine lv_iinc (v := x37) (lv' := [(6, .int x37), (0, .ref aP), (2, .int p2), (3, .int y8), (4, .int t1), (5, .int x19)]) hx hb dX5_spread_128 hl (k := 5) rfl (by rw [ex37]; rfl) (by decide) rfl (fun ls hl => ?_)
                        refine lv_goto (tgt := 83) hx hb dX5_spread_131 (by decide) ?_
                        exact ih83 x37 z34 f35 f36 h.1 (Nat.lt_of_lt_of_le h.2 (Nat.le_of_lt_succ hk83)) _ _ hP hD hS _ (lv_sub hl [1, 2, 3, 4, 5, 0] rfl)
                exact key83 _ 0 z9 f11 f12 h083 (Nat.lt_succ_self _) _ _ hP hD hS _ (lv_sub hl [2, 3, 4, 5, 1, 0] rfl)
              refine lv_icmp_eq (tgt := 66) hx hb dX5_spread_53 (by decide) (fun c17 => ?_) (fun c17 => ?_)
              · obtain ⟨h, -⟩ := h
                specialize h c17
                exact jn66  h _ _ hP hD hS _ (lv_sub hl [0, 1, 2, 3] rfl)
              · obtain ⟨-, h⟩ := h
                specialize h c17
                refine lv_aload_n hx hb dX5_spread_56 rfl (lv_at hl 0 rfl) ?_
                refine va_get (D := G) (ci := 4) (v := .ref bF) (C := RX4) (T := TX4) (N := 8) hx hb hts iwX4 hown hK.1 hP 0 rfl rfl 0 (by decide) fl21 (fun _ h9 => h9) rfl dX5_spread_57 ?_
                refine lv_iload_n hx hb dX5_spread_60 rfl (lv_at hl 1 rfl) ?_
                obtain ⟨hi, h⟩ := h
                refine va_iald hx hb hK.1 hP 1 0 rfl rfl hi dX5_spread_61 ?_
                refine lv_if_lt (tgt := 66) hx hb dX5_spread_62 (by decide) (fun c18 => ?_) (fun c18 => ?_)
                · obtain ⟨h, -⟩ := h
                  specialize h c18
                  exact jn66  h _ _ hP hD hS _ (lv_sub hl [0, 1, 2, 3] rfl)
                · obtain ⟨-, h⟩ := h
                  specialize h c18
                  rw [← hQe]
                  exact W.vret hx hb hr (fun t ht hW => ⟨⟨(z9, z10, f11, f12, f13), rfl, h, by dsimp only; rw [ht]; exact hP⟩, hS.F ht⟩) hS.2.2 dX5_spread_65
    exact key29 _ wTl z5 wFo f6 f7 gX h029 (Nat.lt_succ_self _) _ _ hP hD hS _ (lv_sub hl [1, 3, 4, 0] rfl)
  refine lv_icmp_eq (tgt := 20) hx hb dX5_spread_13 (by decide) (fun c2 => ?_) (fun c2 => ?_)
  · obtain ⟨h, -⟩ := h
    specialize h c2
    refine lv_iconst (v := 0) hx hb dX5_spread_20 (by decide) ?_
    exact jn21 0 h _ _ hP hD hS _ (lv_sub hl [1, 2, 3, 0] rfl)
  · obtain ⟨-, h⟩ := h
    specialize h c2
    refine lv_iconst (v := 1) hx hb dX5_spread_16 (by decide) ?_
    refine lv_goto (tgt := 21) hx hb dX5_spread_17 (by decide) ?_
    exact jn21 1 h _ _ hP hD hS _ (lv_sub hl [1, 2, 3, 0] rfl)

set_option maxHeartbeats 4000000 in
set_option maxRecDepth 100000 in
theorem ct_X5_fewest_P (l : Launch) (G : va_G) (cy : Nat → ClassId) (aP bF bL bX aN aR : Nat) (sz : Nat) (wSz : Int32) (wTl : Int32) (wFo : Int32) (wCo : Int32) (gF : Nat → Int32) (gL : Nat → Int32) (gX : Nat → Int32) (vn : Int32) (fN : Nat → Int32) (p1 : Int32) (p2 : Int32) (Q : Int32 → Int32 → Int32 → (Nat → Int32) → (Nat → Int32) → (Nat → Int32) → Prop) (h : wp_X5_fewest_P wTl wFo wCo gF gL gX vn p1 p2 Q) : Met l yX5_fewest wsX5_fewest rmX5_fewest_P (va_Pc [.ref aP, .int p1, .int p2] (wP G cy sz [(aP, .inr (4, [.ref bF, .ref bL, .ref bX, .int wSz, .int wTl, .int wFo, .ref aN, .int wCo])), (bF, .inl (cy 0, 4096, .inl gF)), (bL, .inl (cy 0, 4096, .inl gL)), (bX, .inl (cy 0, 24, .inl gX)), (aN, .inr (3, [.ref aR, .int vn])), (aR, .inl (cy 0, 9, .inl fN))])) (va_Qi (fun (r : Int32) (u : Int32 × Int32 × (Nat → Int32) × (Nat → Int32) × (Nat → Int32)) => Q r u.1 u.2.1 u.2.2.1 u.2.2.2.1 u.2.2.2.2) (fun (u : Int32 × Int32 × (Nat → Int32) × (Nat → Int32) × (Nat → Int32)) (t : State) => va_P G vwCl [(aP, .inr (4, [.ref bF, .ref bL, .ref bX, .int wSz, .int u.1, .int u.2.1, .ref aN, .int wCo])), (bF, .inl (cy 0, 4096, .inl u.2.2.1)), (bL, .inl (cy 0, 4096, .inl u.2.2.2.1)), (bX, .inl (cy 0, 24, .inl u.2.2.2.2)), (aN, .inr (3, [.ref aR, .int vn])), (aR, .inl (cy 0, 9, .inl fN))] t.heap) (va_A [(aP, .inr (4, [.ref bF, .ref bL, .ref bX, .int wSz, .int wTl, .int wFo, .ref aN, .int wCo])), (bF, .inl (cy 0, 4096, .inl gF)), (bL, .inl (cy 0, 4096, .inl gL)), (bX, .inl (cy 0, 24, .inl gX)), (aN, .inr (3, [.ref aR, .int vn])), (aR, .inl (cy 0, 9, .inl fN))] sz)) 0 0 (va_A [(aP, .inr (4, [.ref bF, .ref bL, .ref bX, .int wSz, .int wTl, .int wFo, .ref aN, .int wCo])), (bF, .inl (cy 0, 4096, .inl gF)), (bL, .inl (cy 0, 4096, .inl gL)), (bX, .inl (cy 0, 24, .inl gX)), (aN, .inr (3, [.ref aR, .int vn])), (aR, .inl (cy 0, 9, .inl fN))] sz) := by
  unfold wp_X5_fewest_P at h
  refine Met.ofW (cc := cX5_fewest) (maxL := 3) (ret := (some .int)) (by decide) rfl ?_
  intro p e s m args below meth c s₁ B hml hv
  obtain ⟨hav, hsz, hP, hK, hD0⟩ := hv
  have hx := B.exec
  have hb := B.bytes
  have hr := B.returns
  have hts := atoms_spec (ws := wsX5_fewest) B.pre
  have hown : s.vm.findClass RX5 = some m.cls := findClass_of_methodNamed B.named
  have hlocks := B.notSynchronized
  subst hsz
  have hD := hD0.self (sz := s.heap.size)
  generalize hAe : va_A [(aP, .inr (4, [.ref bF, .ref bL, .ref bX, .int wSz, .int wTl, .int wFo, .ref aN, .int wCo])), (bF, .inl (cy 0, 4096, .inl gF)), (bL, .inl (cy 0, 4096, .inl gL)), (bX, .inl (cy 0, 24, .inl gX)), (aN, .inr (3, [.ref aR, .int vn])), (aR, .inl (cy 0, 9, .inl fN))] s.heap.size = A at hD ⊢
  have hA : ∀ q : Nat, s.heap.size ≤ q → A q := fun q h9 => by rw [← hAe]; exact Or.inr h9
  have hS : va_S A s.heap s.heap [] := va_S.rf
  have hl := lv_entry ([.ref aP, .int p1, .int p2]) (n := 3) (Nat.le_of_ble_eq_true rfl)
  rw [show entryFrame m args 3 = entryFrame m ([.ref aP, .int p1, .int p2] : List Value).toArray 3 by rw [hav], lg_entry_eq]
  generalize (lg_sl ([.ref aP, .int p1, .int p2]) ++ List.replicate (3 - (lg_sl ([.ref aP, .int p1, .int p2])).length) Slot.unset).toArray = ls at hl ⊢
  have hl : lv_has ls 3 [(0, .ref aP), (1, .int p1), (2, .int p2)] := hl
  generalize hQe : MQ below _ _ _ _ _ _ = QM
  have hP : va_P G vwCl [(aP, .inr (4, [.ref bF, .ref bL, .ref bX, .int wSz, .int wTl, .int wFo, .ref aN, .int wCo])), (bF, .inl (cy 0, 4096, .inl gF)), (bL, .inl (cy 0, 4096, .inl gL)), (bX, .inl (cy 0, 24, .inl gX)), (aN, .inr (3, [.ref aR, .int vn])), (aR, .inl (cy 0, 9, .inl fN))] s.heap := hP
  have iwX4 : ∀ w ∈ wsX40, w ∈ wsX5_fewest := by decide +kernel
  have fl21 := hts (.fieldLink RX5 21 "SlidTokens$Search" "far" "[I") (by decide +kernel)
  suffices K9 : ∀ (H : Heap) (locs : List Loc), va_P G vwCl [(aP, .inr (4, [.ref bF, .ref bL, .ref bX, .int wSz, .int wTl, .int wFo, .ref aN, .int wCo])), (bF, .inl (cy 0, 4096, .inl gF)), (bL, .inl (cy 0, 4096, .inl gL)), (bX, .inl (cy 0, 24, .inl gX)), (aN, .inr (3, [.ref aR, .int vn])), (aR, .inl (cy 0, 9, .inl fN))] H → va_D A [(aP, .inr (4, [.ref bF, .ref bL, .ref bX, .int wSz, .int wTl, .int wFo, .ref aN, .int wCo])), (bF, .inl (cy 0, 4096, .inl gF)), (bL, .inl (cy 0, 4096, .inl gL)), (bX, .inl (cy 0, 24, .inl gX)), (aN, .inr (3, [.ref aR, .int vn])), (aR, .inl (cy 0, 9, .inl fN))] → va_S A s.heap H locs → W p l e (headSpec wsX5_fewest rmX5_fewest_P).room s m args below meth c H locs 0 0 QM (F0 m 0 ls []) from K9 _ _ hP hD hS
  clear hP hD hS
  intro H locs hP hD hS
  refine lv_iload_n hx hb dX5_fewest_0 rfl (lv_at hl 1 rfl) ?_
  refine lv_iload_n hx hb dX5_fewest_1 rfl (lv_at hl 2 rfl) ?_
  refine lv_icmp_ne (tgt := 7) hx hb dX5_fewest_2 (by decide) (fun c1 => ?_) (fun c1 => ?_)
  · obtain ⟨-, h⟩ := h
    specialize h c1
    refine lv_aload_n hx hb dX5_fewest_7 rfl (lv_at hl 0 rfl) ?_
    refine va_get (D := G) (ci := 4) (v := .ref bF) (C := RX4) (T := TX4) (N := 8) hx hb hts iwX4 hown hK.1 hP 0 rfl rfl 0 (by decide) fl21 (fun _ h9 => h9) rfl dX5_fewest_8 ?_
    refine lv_iload_n hx hb dX5_fewest_11 rfl (lv_at hl 1 rfl) ?_
    obtain ⟨hi, h⟩ := h
    refine va_iald hx hb hK.1 hP 1 0 rfl rfl hi dX5_fewest_12 ?_
    refine lv_bipush (v := (-2)) hx hb dX5_fewest_13 (by decide) ?_
    refine lv_icmp_eq (tgt := 29) hx hb dX5_fewest_15 (by decide) (fun c2 => ?_) (fun c2 => ?_)
    · obtain ⟨h, -⟩ := h
      specialize h c2
      refine lv_bipush (v := (-9)) hx hb dX5_fewest_29 (by decide) ?_
      rw [← hQe]
      exact W.iret (v := (-9)) hx hb hr (fun t ht hW => ⟨⟨(-9), (wTl, wFo, gF, gL, gX), rfl, h, by dsimp only; rw [ht]; exact hP⟩, hS.F ht⟩) hS.2.2 dX5_fewest_31
    · obtain ⟨-, h⟩ := h
      specialize h c2
      refine lv_aload_n hx hb dX5_fewest_18 rfl (lv_at hl 0 rfl) ?_
      refine va_get (D := G) (ci := 4) (v := .ref bF) (C := RX4) (T := TX4) (N := 8) hx hb hts iwX4 hown hK.1 hP 0 rfl rfl 0 (by decide) fl21 (fun _ h9 => h9) rfl dX5_fewest_19 ?_
      refine lv_iload_n hx hb dX5_fewest_22 rfl (lv_at hl 2 rfl) ?_
      obtain ⟨hi, h⟩ := h
      refine va_iald hx hb hK.1 hP 1 0 rfl rfl hi dX5_fewest_23 ?_
      refine lv_bipush (v := (-2)) hx hb dX5_fewest_24 (by decide) ?_
      refine lv_icmp_ne (tgt := 32) hx hb dX5_fewest_26 (by decide) (fun c3 => ?_) (fun c3 => ?_)
      · obtain ⟨-, h⟩ := h
        specialize h c3
        refine lv_aload_n hx hb dX5_fewest_32 rfl (lv_at hl 0 rfl) ?_
        refine lv_iload_n hx hb dX5_fewest_33 rfl (lv_at hl 2 rfl) ?_
        refine lv_iload_n hx hb dX5_fewest_34 rfl (lv_at hl 1 rfl) ?_
        obtain ⟨Q4, hw9, h⟩ := h
        have hPc : va_P G vwCl [(aP, .inr (4, [.ref bF, .ref bL, .ref bX, .int wSz, .int wTl, .int wFo, .ref aN, .int wCo])), (bF, .inl (cy 0, 4096, .inl gF)), (bL, .inl (cy 0, 4096, .inl gL)), (bX, .inl (cy 0, 24, .inl gX)), (aN, .inr (3, [.ref aR, .int vn])), (aR, .inl (cy 0, 9, .inl fN))] H := hP.sub [0, 1, 2, 3, 4, 5] rfl
        have hDc : va_D A [(aP, .inr (4, [.ref bF, .ref bL, .ref bX, .int wSz, .int wTl, .int wFo, .ref aN, .int wCo])), (bF, .inl (cy 0, 4096, .inl gF)), (bL, .inl (cy 0, 4096, .inl gL)), (bX, .inl (cy 0, 24, .inl gX)), (aN, .inr (3, [.ref aR, .int vn])), (aR, .inl (cy 0, 9, .inl fN))] := hD.sub [0, 1, 2, 3, 4, 5] (by decide) rfl
        have hFc := va_free (wc := [(aP, .inr (4, [.ref bF, .ref bL, .ref bX, .int wSz, .int wTl, .int wFo, .ref aN, .int wCo])), (bF, .inl (cy 0, 4096, .inl gF)), (bL, .inl (cy 0, 4096, .inl gL)), (bX, .inl (cy 0, 24, .inl gX)), (aN, .inr (3, [.ref aR, .int vn])), (aR, .inl (cy 0, 9, .inl fN))]) hD hS hA [0, 1, 2, 3, 4, 5] rfl
        refine va_callv (va_runU (As := [.int p2, .int p1]) (rest := []) ⟨hx, hb, hml, hown, hts⟩ (ct_X5_spread_P l G cy aP bF bL bX aN aR H.size wSz wTl wFo wCo gF gL gX vn fN p2 p1 Q4 hw9) (va_cwU 2 hts gX5_fewest_X5_spread_u39X4 rfl rfl rfl rfl (by decide +kernel) ⟨Nat.le_of_ble_eq_true rfl, Nat.le_of_ble_eq_true rfl⟩) (wP_V hK hP (ci := 4) (q0 := 0) rfl rfl hPc hDc) rfl rfl hl.1 rfl (lv_room (Nat.le_of_ble_eq_true rfl)) dX5_fewest_35 ⟨Nat.le_of_ble_eq_true rfl, Nat.le_of_ble_eq_true rfl⟩) hS (fun q9 _ h9 => hFc q9 h9) hFc (fun u9 t9 H locs ht9 hvm9 hw9 hB9 hz9 hk9 hS => ?_)
        obtain ⟨z6, z7, f8, f9, f10⟩ := u9
        have hP : va_P G vwCl [(aP, .inr (4, [.ref bF, .ref bL, .ref bX, .int wSz, .int z6, .int z7, .ref aN, .int wCo])), (bF, .inl (cy 0, 4096, .inl f8)), (bL, .inl (cy 0, 4096, .inl f9)), (bX, .inl (cy 0, 24, .inl f10)), (aN, .inr (3, [.ref aR, .int vn])), (aR, .inl (cy 0, 9, .inl fN))] H := P_back [0, 1, 2, 3, 4, 5] [] 6 hP hD rfl rfl rfl rfl (by decide) (by decide) hk9 (by rw [← ht9]; exact hB9)
        have hD : va_D A [(aP, .inr (4, [.ref bF, .ref bL, .ref bX, .int wSz, .int z6, .int z7, .ref aN, .int wCo])), (bF, .inl (cy 0, 4096, .inl f8)), (bL, .inl (cy 0, 4096, .inl f9)), (bX, .inl (cy 0, 24, .inl f10)), (aN, .inr (3, [.ref aR, .int vn])), (aR, .inl (cy 0, 9, .inl fN))] := D_same hD rfl
        specialize h z6 z7 f8 f9 f10 hw9
        refine lv_aload_n hx hb dX5_fewest_38 rfl (lv_at hl 0 rfl) ?_
        refine va_get (D := G) (ci := 4) (v := .ref bF) (C := RX4) (T := TX4) (N := 8) hx hb hts iwX4 hown hK.1 hP 0 rfl rfl 0 (by decide) fl21 (fun _ h9 => h9) rfl dX5_fewest_39 ?_
        refine lv_iload_n hx hb dX5_fewest_42 rfl (lv_at hl 1 rfl) ?_
        obtain ⟨hi, h⟩ := h
        refine va_iald hx hb hK.1 hP 1 0 rfl rfl hi dX5_fewest_43 ?_
        refine lv_iconst (v := (-1)) hx hb dX5_fewest_44 (by decide) ?_
        refine lv_icmp_ne (tgt := 53) hx hb dX5_fewest_45 (by decide) (fun c11 => ?_) (fun c11 => ?_)
        · obtain ⟨-, h⟩ := h
          specialize h c11
          refine lv_aload_n hx hb dX5_fewest_53 rfl (lv_at hl 0 rfl) ?_
          refine va_get (D := G) (ci := 4) (v := .ref bF) (C := RX4) (T := TX4) (N := 8) hx hb hts iwX4 hown hK.1 hP 0 rfl rfl 0 (by decide) fl21 (fun _ h9 => h9) rfl dX5_fewest_54 ?_
          refine lv_iload_n hx hb dX5_fewest_57 rfl (lv_at hl 1 rfl) ?_
          obtain ⟨hi, h⟩ := h
          refine va_iald hx hb hK.1 hP 1 0 rfl rfl hi dX5_fewest_58 ?_
          rw [← hQe]
          exact W.iret (v := (f8 (p1 : Int32).toNatClampNeg)) hx hb hr (fun t ht hW => ⟨⟨(f8 (p1 : Int32).toNatClampNeg), (z6, z7, f8, f9, f10), rfl, h, by dsimp only; rw [ht]; exact hP⟩, hS.F ht⟩) hS.2.2 dX5_fewest_59
        · obtain ⟨h, -⟩ := h
          specialize h c11
          refine lv_bipush (v := (-9)) hx hb dX5_fewest_48 (by decide) ?_
          refine lv_goto (tgt := 59) hx hb dX5_fewest_50 (by decide) ?_
          rw [← hQe]
          exact W.iret (v := (-9)) hx hb hr (fun t ht hW => ⟨⟨(-9), (z6, z7, f8, f9, f10), rfl, h, by dsimp only; rw [ht]; exact hP⟩, hS.F ht⟩) hS.2.2 dX5_fewest_59
      · obtain ⟨h, -⟩ := h
        specialize h c3
        refine lv_bipush (v := (-9)) hx hb dX5_fewest_29 (by decide) ?_
        rw [← hQe]
        exact W.iret (v := (-9)) hx hb hr (fun t ht hW => ⟨⟨(-9), (wTl, wFo, gF, gL, gX), rfl, h, by dsimp only; rw [ht]; exact hP⟩, hS.F ht⟩) hS.2.2 dX5_fewest_31
  · obtain ⟨h, -⟩ := h
    specialize h c1
    refine lv_iconst (v := 0) hx hb dX5_fewest_5 (by decide) ?_
    rw [← hQe]
    exact W.iret (v := 0) hx hb hr (fun t ht hW => ⟨⟨0, (wTl, wFo, gF, gL, gX), rfl, h, by dsimp only; rw [ht]; exact hP⟩, hS.F ht⟩) hS.2.2 dX5_fewest_6

set_option maxHeartbeats 4000000 in
set_option maxRecDepth 100000 in
theorem ct_X5_components_P (l : Launch) (G : va_G) (cy : Nat → ClassId) (aP bF bL bX aN aR : Nat) (sz : Nat) (wSz : Int32) (wTl : Int32) (wFo : Int32) (wCo : Int32) (gF : Nat → Int32) (gL : Nat → Int32) (gX : Nat → Int32) (vn : Int32) (fN : Nat → Int32) (Q : Int32 → Int32 → Int32 → (Nat → Int32) → (Nat → Int32) → (Nat → Int32) → Prop) (h : wp_X5_components_P wSz wTl wFo wCo gF gL gX vn Q) : Met l yX5_components wsX5_components rmX5_components_P (va_Pc [.ref aP] (wP G cy sz [(aP, .inr (4, [.ref bF, .ref bL, .ref bX, .int wSz, .int wTl, .int wFo, .ref aN, .int wCo])), (bF, .inl (cy 0, 4096, .inl gF)), (bL, .inl (cy 0, 4096, .inl gL)), (bX, .inl (cy 0, 24, .inl gX)), (aN, .inr (3, [.ref aR, .int vn])), (aR, .inl (cy 0, 9, .inl fN))])) (va_Qi (fun (r : Int32) (u : Int32 × Int32 × (Nat → Int32) × (Nat → Int32) × (Nat → Int32)) => Q r u.1 u.2.1 u.2.2.1 u.2.2.2.1 u.2.2.2.2) (fun (u : Int32 × Int32 × (Nat → Int32) × (Nat → Int32) × (Nat → Int32)) (t : State) => va_P G vwCl [(aP, .inr (4, [.ref bF, .ref bL, .ref bX, .int wSz, .int u.1, .int u.2.1, .ref aN, .int wCo])), (bF, .inl (cy 0, 4096, .inl u.2.2.1)), (bL, .inl (cy 0, 4096, .inl u.2.2.2.1)), (bX, .inl (cy 0, 24, .inl u.2.2.2.2)), (aN, .inr (3, [.ref aR, .int vn])), (aR, .inl (cy 0, 9, .inl fN))] t.heap) (va_A [(aP, .inr (4, [.ref bF, .ref bL, .ref bX, .int wSz, .int wTl, .int wFo, .ref aN, .int wCo])), (bF, .inl (cy 0, 4096, .inl gF)), (bL, .inl (cy 0, 4096, .inl gL)), (bX, .inl (cy 0, 24, .inl gX)), (aN, .inr (3, [.ref aR, .int vn])), (aR, .inl (cy 0, 9, .inl fN))] sz)) 0 0 (va_A [(aP, .inr (4, [.ref bF, .ref bL, .ref bX, .int wSz, .int wTl, .int wFo, .ref aN, .int wCo])), (bF, .inl (cy 0, 4096, .inl gF)), (bL, .inl (cy 0, 4096, .inl gL)), (bX, .inl (cy 0, 24, .inl gX)), (aN, .inr (3, [.ref aR, .int vn])), (aR, .inl (cy 0, 9, .inl fN))] sz) := by
  unfold wp_X5_components_P at h
  refine Met.ofW (cc := cX5_components) (maxL := 3) (ret := (some .int)) (by decide) rfl ?_
  intro p e s m args below meth c s₁ B hml hv
  obtain ⟨hav, hsz, hP, hK, hD0⟩ := hv
  have hx := B.exec
  have hb := B.bytes
  have hr := B.returns
  have hts := atoms_spec (ws := wsX5_components) B.pre
  have hown : s.vm.findClass RX5 = some m.cls := findClass_of_methodNamed B.named
  have hlocks := B.notSynchronized
  subst hsz
  have hD := hD0.self (sz := s.heap.size)
  generalize hAe : va_A [(aP, .inr (4, [.ref bF, .ref bL, .ref bX, .int wSz, .int wTl, .int wFo, .ref aN, .int wCo])), (bF, .inl (cy 0, 4096, .inl gF)), (bL, .inl (cy 0, 4096, .inl gL)), (bX, .inl (cy 0, 24, .inl gX)), (aN, .inr (3, [.ref aR, .int vn])), (aR, .inl (cy 0, 9, .inl fN))] s.heap.size = A at hD ⊢
  have hA : ∀ q : Nat, s.heap.size ≤ q → A q := fun q h9 => by rw [← hAe]; exact Or.inr h9
  have hS : va_S A s.heap s.heap [] := va_S.rf
  have hl := lv_entry ([.ref aP]) (n := 3) (Nat.le_of_ble_eq_true rfl)
  rw [show entryFrame m args 3 = entryFrame m ([.ref aP] : List Value).toArray 3 by rw [hav], lg_entry_eq]
  generalize (lg_sl ([.ref aP]) ++ List.replicate (3 - (lg_sl ([.ref aP])).length) Slot.unset).toArray = ls at hl ⊢
  have hl : lv_has ls 3 [(0, .ref aP)] := hl
  generalize hQe : MQ below _ _ _ _ _ _ = QM
  have hP : va_P G vwCl [(aP, .inr (4, [.ref bF, .ref bL, .ref bX, .int wSz, .int wTl, .int wFo, .ref aN, .int wCo])), (bF, .inl (cy 0, 4096, .inl gF)), (bL, .inl (cy 0, 4096, .inl gL)), (bX, .inl (cy 0, 24, .inl gX)), (aN, .inr (3, [.ref aR, .int vn])), (aR, .inl (cy 0, 9, .inl fN))] s.heap := hP
  have iwX4 : ∀ w ∈ wsX40, w ∈ wsX5_components := by decide +kernel
  have fl9 := hts (.fieldLink RX5 9 "SlidTokens$Search" "size" "I") (by decide +kernel)
  have fl21 := hts (.fieldLink RX5 21 "SlidTokens$Search" "far" "[I") (by decide +kernel)
  suffices K9 : ∀ (H : Heap) (locs : List Loc), va_P G vwCl [(aP, .inr (4, [.ref bF, .ref bL, .ref bX, .int wSz, .int wTl, .int wFo, .ref aN, .int wCo])), (bF, .inl (cy 0, 4096, .inl gF)), (bL, .inl (cy 0, 4096, .inl gL)), (bX, .inl (cy 0, 24, .inl gX)), (aN, .inr (3, [.ref aR, .int vn])), (aR, .inl (cy 0, 9, .inl fN))] H → va_D A [(aP, .inr (4, [.ref bF, .ref bL, .ref bX, .int wSz, .int wTl, .int wFo, .ref aN, .int wCo])), (bF, .inl (cy 0, 4096, .inl gF)), (bL, .inl (cy 0, 4096, .inl gL)), (bX, .inl (cy 0, 24, .inl gX)), (aN, .inr (3, [.ref aR, .int vn])), (aR, .inl (cy 0, 9, .inl fN))] → va_S A s.heap H locs → W p l e (headSpec wsX5_components rmX5_components_P).room s m args below meth c H locs 0 0 QM (F0 m 0 ls []) from K9 _ _ hP hD hS
  clear hP hD hS
  intro H locs hP hD hS
  refine lv_iconst (v := 0) hx hb dX5_components_0 (by decide) ?_
  refine lv_istore_n (lv' := [(1, .int 0), (0, .ref aP)]) hx hb dX5_components_1 rfl hl (by decide) rfl (fun ls hl => ?_)
  refine lv_iconst (v := 0) hx hb dX5_components_2 (by decide) ?_
  refine lv_istore_n (lv' := [(2, .int 0), (1, .int 0), (0, .ref aP)]) hx hb dX5_components_3 rfl hl (by decide) rfl (fun ls hl => ?_)
  obtain ⟨I4_7, u4_7, h04, hst4⟩ := h
  have key4 : ∀ (k9 : Nat) (y1 : Int32) (y2 : Int32) (z3 : Int32) (z4 : Int32) (f5 : Nat → Int32) (f6 : Nat → Int32) (f7 : Nat → Int32), I4_7 y1 y2 z3 z4 f5 f6 f7 → u4_7 y1 y2 z3 z4 f5 f6 f7 < k9 → ∀ (H : Heap) (locs : List Loc), va_P G vwCl [(aP, .inr (4, [.ref bF, .ref bL, .ref bX, .int wSz, .int z3, .int z4, .ref aN, .int wCo])), (bF, .inl (cy 0, 4096, .inl f5)), (bL, .inl (cy 0, 4096, .inl f6)), (bX, .inl (cy 0, 24, .inl f7)), (aN, .inr (3, [.ref aR, .int vn])), (aR, .inl (cy 0, 9, .inl fN))] H → va_D A [(aP, .inr (4, [.ref bF, .ref bL, .ref bX, .int wSz, .int z3, .int z4, .ref aN, .int wCo])), (bF, .inl (cy 0, 4096, .inl f5)), (bL, .inl (cy 0, 4096, .inl f6)), (bX, .inl (cy 0, 24, .inl f7)), (aN, .inr (3, [.ref aR, .int vn])), (aR, .inl (cy 0, 9, .inl fN))] → va_S A s.heap H locs → ∀ (ls : Array Slot), lv_has ls 3 [(0, .ref aP), (1, .int y1), (2, .int y2)] → W p l e (headSpec wsX5_components rmX5_components_P).room s m args below meth c H locs 0 0 QM (F0 m 4 ls []) := by
    intro k9
    induction k9 with
    | zero =>
      intro y1 y2 z3 z4 f5 f6 f7 hI9 hk9
      exact absurd hk9 (Nat.not_lt_zero _)
    | succ k9 ih4 =>
      intro y1 y2 z3 z4 f5 f6 f7 hI9 hk4 H locs hP hD hS ls hl
      have h := hst4 y1 y2 z3 z4 f5 f6 f7 hI9
      refine lv_iload_n hx hb dX5_components_4 rfl (lv_at hl 2 rfl) ?_
      refine lv_aload_n hx hb dX5_components_5 rfl (lv_at hl 0 rfl) ?_
      refine va_get (D := G) (ci := 4) (v := .int wSz) (C := RX4) (T := TX4) (N := 8) hx hb hts iwX4 hown hK.1 hP 0 rfl rfl 3 (by decide) fl9 (fun _ h9 => h9) rfl dX5_components_6 ?_
      refine lv_icmp_ge (tgt := 37) hx hb dX5_components_9 (by decide) (fun c8 => ?_) (fun c8 => ?_)
      · obtain ⟨h, -⟩ := h
        specialize h c8
        refine lv_iload_n hx hb dX5_components_37 rfl (lv_at hl 1 rfl) ?_
        rw [← hQe]
        exact W.iret (v := y1) hx hb hr (fun t ht hW => ⟨⟨y1, (z3, z4, f5, f6, f7), rfl, h, by dsimp only; rw [ht]; exact hP⟩, hS.F ht⟩) hS.2.2 dX5_components_38
      · obtain ⟨-, h⟩ := h
        specialize h c8
        refine lv_aload_n hx hb dX5_components_12 rfl (lv_at hl 0 rfl) ?_
        refine va_get (D := G) (ci := 4) (v := .ref bF) (C := RX4) (T := TX4) (N := 8) hx hb hts iwX4 hown hK.1 hP 0 rfl rfl 0 (by decide) fl21 (fun _ h9 => h9) rfl dX5_components_13 ?_
        refine lv_iload_n hx hb dX5_components_16 rfl (lv_at hl 2 rfl) ?_
        obtain ⟨hi, h⟩ := h
        refine va_iald hx hb hK.1 hP 1 0 rfl rfl hi dX5_components_17 ?_
        refine lv_iconst (v := (-1)) hx hb dX5_components_18 (by decide) ?_
        refine lv_icmp_ne (tgt := 31) hx hb dX5_components_19 (by decide) (fun c9 => ?_) (fun c9 => ?_)
        · obtain ⟨-, h⟩ := h
          specialize h c9
          obtain ⟨x10, ex10⟩ : ∃ y : Int32, y = y2 + 1 := ⟨_, rfl⟩
          specialize h x10 ex10
          refine lv_iinc (v := x10) (lv' := [(2, .int x10), (0, .ref aP), (1, .int y1)]) hx hb dX5_components_31 hl (k := 2) rfl (by rw [ex10]; rfl) (by decide) rfl (fun ls hl => ?_)
          refine lv_goto (tgt := 4) hx hb dX5_components_34 (by decide) ?_
          exact ih4 y1 x10 z3 z4 f5 f6 f7 h.1 (Nat.lt_of_lt_of_le h.2 (Nat.le_of_lt_succ hk4)) _ _ hP hD hS _ (lv_sub hl [1, 2, 0] rfl)
        · obtain ⟨h, -⟩ := h
          specialize h c9
          refine lv_aload_n hx hb dX5_components_22 rfl (lv_at hl 0 rfl) ?_
          refine lv_iload_n hx hb dX5_components_23 rfl (lv_at hl 2 rfl) ?_
          refine lv_iconst (v := (-1)) hx hb dX5_components_24 (by decide) ?_
          obtain ⟨Q11, hw9, h⟩ := h
          have hPc : va_P G vwCl [(aP, .inr (4, [.ref bF, .ref bL, .ref bX, .int wSz, .int z3, .int z4, .ref aN, .int wCo])), (bF, .inl (cy 0, 4096, .inl f5)), (bL, .inl (cy 0, 4096, .inl f6)), (bX, .inl (cy 0, 24, .inl f7)), (aN, .inr (3, [.ref aR, .int vn])), (aR, .inl (cy 0, 9, .inl fN))] H := hP.sub [0, 1, 2, 3, 4, 5] rfl
          have hDc : va_D A [(aP, .inr (4, [.ref bF, .ref bL, .ref bX, .int wSz, .int z3, .int z4, .ref aN, .int wCo])), (bF, .inl (cy 0, 4096, .inl f5)), (bL, .inl (cy 0, 4096, .inl f6)), (bX, .inl (cy 0, 24, .inl f7)), (aN, .inr (3, [.ref aR, .int vn])), (aR, .inl (cy 0, 9, .inl fN))] := hD.sub [0, 1, 2, 3, 4, 5] (by decide) rfl
          have hFc := va_free (wc := [(aP, .inr (4, [.ref bF, .ref bL, .ref bX, .int wSz, .int z3, .int z4, .ref aN, .int wCo])), (bF, .inl (cy 0, 4096, .inl f5)), (bL, .inl (cy 0, 4096, .inl f6)), (bX, .inl (cy 0, 24, .inl f7)), (aN, .inr (3, [.ref aR, .int vn])), (aR, .inl (cy 0, 9, .inl fN))]) hD hS hA [0, 1, 2, 3, 4, 5] rfl
          refine va_callv (va_runU (As := [.int y2, .int (-1)]) (rest := []) ⟨hx, hb, hml, hown, hts⟩ (ct_X5_spread_P l G cy aP bF bL bX aN aR H.size wSz z3 z4 wCo f5 f6 f7 vn fN y2 (-1) Q11 hw9) (va_cwU 2 hts gX5_components_X5_spread_u39X4 rfl rfl rfl rfl (by decide +kernel) ⟨Nat.le_of_ble_eq_true rfl, Nat.le_of_ble_eq_true rfl⟩) (wP_V hK hP (ci := 4) (q0 := 0) rfl rfl hPc hDc) rfl rfl hl.1 rfl (lv_room (Nat.le_of_ble_eq_true rfl)) dX5_components_25 ⟨Nat.le_of_ble_eq_true rfl, Nat.le_of_ble_eq_true rfl⟩) hS (fun q9 _ h9 => hFc q9 h9) hFc (fun u9 t9 H locs ht9 hvm9 hw9 hB9 hz9 hk9 hS => ?_)
          obtain ⟨z13, z14, f15, f16, f17⟩ := u9
          have hP : va_P G vwCl [(aP, .inr (4, [.ref bF, .ref bL, .ref bX, .int wSz, .int z13, .int z14, .ref aN, .int wCo])), (bF, .inl (cy 0, 4096, .inl f15)), (bL, .inl (cy 0, 4096, .inl f16)), (bX, .inl (cy 0, 24, .inl f17)), (aN, .inr (3, [.ref aR, .int vn])), (aR, .inl (cy 0, 9, .inl fN))] H := P_back [0, 1, 2, 3, 4, 5] [] 6 hP hD rfl rfl rfl rfl (by decide) (by decide) hk9 (by rw [← ht9]; exact hB9)
          have hD : va_D A [(aP, .inr (4, [.ref bF, .ref bL, .ref bX, .int wSz, .int z13, .int z14, .ref aN, .int wCo])), (bF, .inl (cy 0, 4096, .inl f15)), (bL, .inl (cy 0, 4096, .inl f16)), (bX, .inl (cy 0, 24, .inl f17)), (aN, .inr (3, [.ref aR, .int vn])), (aR, .inl (cy 0, 9, .inl fN))] := D_same hD rfl
          specialize h z13 z14 f15 f16 f17 hw9
          obtain ⟨x18, ex18⟩ : ∃ y : Int32, y = y1 + 1 := ⟨_, rfl⟩
          specialize h x18 ex18
          refine lv_iinc (v := x18) (lv' := [(1, .int x18), (0, .ref aP), (2, .int y2)]) hx hb dX5_components_28 hl (k := 1) rfl (by rw [ex18]; rfl) (by decide) rfl (fun ls hl => ?_)
          obtain ⟨x19, ex19⟩ : ∃ y : Int32, y = y2 + 1 := ⟨_, rfl⟩
          specialize h x19 ex19
          refine lv_iinc (v := x19) (lv' := [(2, .int x19), (1, .int x18), (0, .ref aP)]) hx hb dX5_components_31 hl (k := 2) rfl (by rw [ex19]; rfl) (by decide) rfl (fun ls hl => ?_)
          refine lv_goto (tgt := 4) hx hb dX5_components_34 (by decide) ?_
          exact ih4 x18 x19 z13 z14 f15 f16 f17 h.1 (Nat.lt_of_lt_of_le h.2 (Nat.le_of_lt_succ hk4)) _ _ hP hD hS _ (lv_sub hl [2, 1, 0] rfl)
  exact key4 _ 0 0 wTl wFo gF gL gX h04 (Nat.lt_succ_self _) _ _ hP hD hS _ (lv_sub hl [2, 1, 0] rfl)

set_option maxHeartbeats 4000000 in
set_option maxRecDepth 100000 in
theorem ct_X4_begin (l : Launch) (G : va_G) (cy : Nat → ClassId) (aP bF bL bX aN aR : Nat) (sz : Nat) (wSz : Int32) (wTl : Int32) (wFo : Int32) (wCo : Int32) (gF : Nat → Int32) (gL : Nat → Int32) (gX : Nat → Int32) (vn : Int32) (fN : Nat → Int32) (p1 : Int32) (Q : Int32 → Int32 → Int32 → (Nat → Int32) → Prop) (h : wp_X4_begin wSz wTl wCo gF vn fN p1 Q) : Met l yX4_begin wsX4_begin rmX4_begin (va_Pc [.ref aP, .int p1] (wP G cy sz [(aP, .inr (4, [.ref bF, .ref bL, .ref bX, .int wSz, .int wTl, .int wFo, .ref aN, .int wCo])), (bF, .inl (cy 0, 4096, .inl gF)), (bL, .inl (cy 0, 4096, .inl gL)), (bX, .inl (cy 0, 24, .inl gX)), (aN, .inr (3, [.ref aR, .int vn])), (aR, .inl (cy 0, 9, .inl fN))])) (va_Qv (fun (u : Int32 × Int32 × Int32 × (Nat → Int32)) => Q u.1 u.2.1 u.2.2.1 u.2.2.2) (fun (u : Int32 × Int32 × Int32 × (Nat → Int32)) (t : State) => va_P G vwCl [(aP, .inr (4, [.ref bF, .ref bL, .ref bX, .int u.1, .int u.2.1, .int wFo, .ref aN, .int u.2.2.1])), (bF, .inl (cy 0, 4096, .inl u.2.2.2)), (bL, .inl (cy 0, 4096, .inl gL)), (bX, .inl (cy 0, 24, .inl gX)), (aN, .inr (3, [.ref aR, .int vn])), (aR, .inl (cy 0, 9, .inl fN))] t.heap) (va_A [(aP, .inr (4, [.ref bF, .ref bL, .ref bX, .int wSz, .int wTl, .int wFo, .ref aN, .int wCo])), (bF, .inl (cy 0, 4096, .inl gF)), (bL, .inl (cy 0, 4096, .inl gL)), (bX, .inl (cy 0, 24, .inl gX)), (aN, .inr (3, [.ref aR, .int vn])), (aR, .inl (cy 0, 9, .inl fN))] sz)) 0 0 (va_A [(aP, .inr (4, [.ref bF, .ref bL, .ref bX, .int wSz, .int wTl, .int wFo, .ref aN, .int wCo])), (bF, .inl (cy 0, 4096, .inl gF)), (bL, .inl (cy 0, 4096, .inl gL)), (bX, .inl (cy 0, 24, .inl gX)), (aN, .inr (3, [.ref aR, .int vn])), (aR, .inl (cy 0, 9, .inl fN))] sz) := by
  unfold wp_X4_begin at h
  refine Met.ofW (cc := cX4_begin) (maxL := 3) (ret := none) (by decide) rfl ?_
  intro p e s m args below meth c s₁ B hml hv
  obtain ⟨hav, hsz, hP, hK, hD0⟩ := hv
  have hx := B.exec
  have hb := B.bytes
  have hr := B.returns
  have hts := atoms_spec (ws := wsX4_begin) B.pre
  have hown : s.vm.findClass RX4 = some m.cls := findClass_of_methodNamed B.named
  have hlocks := B.notSynchronized
  subst hsz
  have hD := hD0.self (sz := s.heap.size)
  generalize hAe : va_A [(aP, .inr (4, [.ref bF, .ref bL, .ref bX, .int wSz, .int wTl, .int wFo, .ref aN, .int wCo])), (bF, .inl (cy 0, 4096, .inl gF)), (bL, .inl (cy 0, 4096, .inl gL)), (bX, .inl (cy 0, 24, .inl gX)), (aN, .inr (3, [.ref aR, .int vn])), (aR, .inl (cy 0, 9, .inl fN))] s.heap.size = A at hD ⊢
  have hA : ∀ q : Nat, s.heap.size ≤ q → A q := fun q h9 => by rw [← hAe]; exact Or.inr h9
  have hS : va_S A s.heap s.heap [] := va_S.rf
  have hl := lv_entry ([.ref aP, .int p1]) (n := 3) (Nat.le_of_ble_eq_true rfl)
  rw [show entryFrame m args 3 = entryFrame m ([.ref aP, .int p1] : List Value).toArray 3 by rw [hav], lg_entry_eq]
  generalize (lg_sl ([.ref aP, .int p1]) ++ List.replicate (3 - (lg_sl ([.ref aP, .int p1])).length) Slot.unset).toArray = ls at hl ⊢
  have hl : lv_has ls 3 [(0, .ref aP), (1, .int p1)] := hl
  generalize hQe : MQ below _ _ _ _ _ _ = QM
  have hP : va_P G vwCl [(aP, .inr (4, [.ref bF, .ref bL, .ref bX, .int wSz, .int wTl, .int wFo, .ref aN, .int wCo])), (bF, .inl (cy 0, 4096, .inl gF)), (bL, .inl (cy 0, 4096, .inl gL)), (bX, .inl (cy 0, 24, .inl gX)), (aN, .inr (3, [.ref aR, .int vn])), (aR, .inl (cy 0, 9, .inl fN))] s.heap := hP
  have iwX4 : ∀ w ∈ wsX40, w ∈ wsX4_begin := by decide +kernel
  have fl9 := hts (.fieldLink RX4 9 "SlidTokens$Paints" "colours" "I") (by decide +kernel)
  have fl15 := hts (.fieldLink RX4 15 "SlidTokens$Paints" "net" "LSlidTokens$Net;") (by decide +kernel)
  have iwX3 : ∀ w ∈ wsX30, w ∈ wsX4_begin := by decide +kernel
  have fl19 := hts (.fieldLink RX4 19 "SlidTokens$Net" "nodes" "I") (by decide +kernel)
  have fl24 := hts (.fieldLink RX4 24 "SlidTokens$Paints" "far" "[I") (by decide +kernel)
  have sf24 := hts (.sameField "SlidTokens$Paints" "SlidTokens$Search" "far" "[I") (by decide +kernel)
  have fl34 := hts (.fieldLink RX4 34 "SlidTokens$Paints" "size" "I") (by decide +kernel)
  have sf34 := hts (.sameField "SlidTokens$Paints" "SlidTokens$Search" "size" "I") (by decide +kernel)
  have fl37 := hts (.fieldLink RX4 37 "SlidTokens$Paints" "tail" "I") (by decide +kernel)
  have sf37 := hts (.sameField "SlidTokens$Paints" "SlidTokens$Search" "tail" "I") (by decide +kernel)
  suffices K9 : ∀ (H : Heap) (locs : List Loc), va_P G vwCl [(aP, .inr (4, [.ref bF, .ref bL, .ref bX, .int wSz, .int wTl, .int wFo, .ref aN, .int wCo])), (bF, .inl (cy 0, 4096, .inl gF)), (bL, .inl (cy 0, 4096, .inl gL)), (bX, .inl (cy 0, 24, .inl gX)), (aN, .inr (3, [.ref aR, .int vn])), (aR, .inl (cy 0, 9, .inl fN))] H → va_D A [(aP, .inr (4, [.ref bF, .ref bL, .ref bX, .int wSz, .int wTl, .int wFo, .ref aN, .int wCo])), (bF, .inl (cy 0, 4096, .inl gF)), (bL, .inl (cy 0, 4096, .inl gL)), (bX, .inl (cy 0, 24, .inl gX)), (aN, .inr (3, [.ref aR, .int vn])), (aR, .inl (cy 0, 9, .inl fN))] → va_S A s.heap H locs → W p l e (headSpec wsX4_begin rmX4_begin).room s m args below meth c H locs 0 0 QM (F0 m 0 ls []) from K9 _ _ hP hD hS
  clear hP hD hS
  intro H locs hP hD hS
  refine lv_aload_n hx hb dX4_begin_0 rfl (lv_at hl 0 rfl) ?_
  refine lv_iload_n hx hb dX4_begin_1 rfl (lv_at hl 1 rfl) ?_
  refine va_put (D := G) (ci := 4) (v := .int p1) (ty := .int) (C := RX4) (T := TX4) (N := 8) hx hb hts iwX4 tyX4 tyX4_ok nmX4 hown hK.1 hP hD hS 0 rfl rfl 7 (by decide) fl9 (fun _ h9 => h9) rfl (by decide +kernel) rfl rfl (Nat.le_of_ble_eq_true rfl) dX4_begin_2 (fun H locs hP hD hS => ?_)
  have hP : va_P G vwCl [(aP, .inr (4, [.ref bF, .ref bL, .ref bX, .int wSz, .int wTl, .int wFo, .ref aN, .int p1])), (bF, .inl (cy 0, 4096, .inl gF)), (bL, .inl (cy 0, 4096, .inl gL)), (bX, .inl (cy 0, 24, .inl gX)), (aN, .inr (3, [.ref aR, .int vn])), (aR, .inl (cy 0, 9, .inl fN))] H := hP
  have hD : va_D A [(aP, .inr (4, [.ref bF, .ref bL, .ref bX, .int wSz, .int wTl, .int wFo, .ref aN, .int p1])), (bF, .inl (cy 0, 4096, .inl gF)), (bL, .inl (cy 0, 4096, .inl gL)), (bX, .inl (cy 0, 24, .inl gX)), (aN, .inr (3, [.ref aR, .int vn])), (aR, .inl (cy 0, 9, .inl fN))] := hD
  refine lv_aload_n hx hb dX4_begin_5 rfl (lv_at hl 0 rfl) ?_
  refine lv_iconst (v := 1) hx hb dX4_begin_6 (by decide) ?_
  refine lv_iconst (v := 2) hx hb dX4_begin_7 (by decide) ?_
  refine lv_aload_n hx hb dX4_begin_8 rfl (lv_at hl 0 rfl) ?_
  refine va_get (D := G) (ci := 4) (v := .ref aN) (C := RX4) (T := TX4) (N := 8) hx hb hts iwX4 hown hK.1 hP 0 rfl rfl 6 (by decide) fl15 (fun _ h9 => h9) rfl dX4_begin_9 ?_
  refine va_get (D := G) (ci := 3) (v := .int vn) (C := RX3) (T := TX3) (N := 2) hx hb hts iwX3 hown hK.1 hP 4 rfl rfl 1 (by decide) fl19 (fun _ h9 => h9) rfl dX4_begin_12 ?_
  refine lv_imul hx hb dX4_begin_15 ?_
  refine lv_ishl hx hb dX4_begin_16 ?_
  refine lv_aload_n hx hb dX4_begin_17 rfl (lv_at hl 0 rfl) ?_
  refine va_get (D := G) (ci := 4) (v := .ref bF) (C := RX4) (T := TX4) (N := 8) hx hb hts iwX4 hown hK.1 hP 0 rfl rfl 0 (by decide) fl24 (fun x9 h9 => u_same sf24 x9 h9) rfl dX4_begin_18 ?_
  refine va_alen hx hb hK.1 hP 1 0 rfl rfl (v := 4096) rfl dX4_begin_21 ?_
  refine va_mmin hx hb (by rw [hml]; exact hl.1.symm) hown (hts (.methodLink RX4 28 Lib.Math.min.name) (by decide +kernel)) (hts (.static Lib.Math.min.name) (by decide +kernel)) (hts (.initialized "java/lang/Math") (by decide +kernel)) (hts (.code Lib.Math.min.name Lib.Math.min.code 2 (some .int)) (by decide +kernel)) (Nat.le_of_ble_eq_true rfl) (Nat.le_of_ble_eq_true rfl) (Nat.zero_le _) (Nat.zero_le _) dX4_begin_22 ?_
  refine lv_topi (fun x1 ex1 => ?_)
  specialize h x1 ex1
  refine va_put (D := G) (ci := 4) (v := .int x1) (ty := .int) (C := RX4) (T := TX4) (N := 8) hx hb hts iwX4 tyX4 tyX4_ok nmX4 hown hK.1 hP hD hS 0 rfl rfl 3 (by decide) fl34 (fun x9 h9 => u_same sf34 x9 h9) rfl (by decide +kernel) rfl rfl (Nat.le_of_ble_eq_true rfl) dX4_begin_25 (fun H locs hP hD hS => ?_)
  have hP : va_P G vwCl [(aP, .inr (4, [.ref bF, .ref bL, .ref bX, .int x1, .int wTl, .int wFo, .ref aN, .int p1])), (bF, .inl (cy 0, 4096, .inl gF)), (bL, .inl (cy 0, 4096, .inl gL)), (bX, .inl (cy 0, 24, .inl gX)), (aN, .inr (3, [.ref aR, .int vn])), (aR, .inl (cy 0, 9, .inl fN))] H := hP
  have hD : va_D A [(aP, .inr (4, [.ref bF, .ref bL, .ref bX, .int x1, .int wTl, .int wFo, .ref aN, .int p1])), (bF, .inl (cy 0, 4096, .inl gF)), (bL, .inl (cy 0, 4096, .inl gL)), (bX, .inl (cy 0, 24, .inl gX)), (aN, .inr (3, [.ref aR, .int vn])), (aR, .inl (cy 0, 9, .inl fN))] := hD
  refine lv_aload_n hx hb dX4_begin_28 rfl (lv_at hl 0 rfl) ?_
  refine lv_iconst (v := 0) hx hb dX4_begin_29 (by decide) ?_
  refine va_put (D := G) (ci := 4) (v := .int 0) (ty := .int) (C := RX4) (T := TX4) (N := 8) hx hb hts iwX4 tyX4 tyX4_ok nmX4 hown hK.1 hP hD hS 0 rfl rfl 4 (by decide) fl37 (fun x9 h9 => u_same sf37 x9 h9) rfl (by decide +kernel) rfl rfl (Nat.le_of_ble_eq_true rfl) dX4_begin_30 (fun H locs hP hD hS => ?_)
  have hP : va_P G vwCl [(aP, .inr (4, [.ref bF, .ref bL, .ref bX, .int x1, .int 0, .int wFo, .ref aN, .int p1])), (bF, .inl (cy 0, 4096, .inl gF)), (bL, .inl (cy 0, 4096, .inl gL)), (bX, .inl (cy 0, 24, .inl gX)), (aN, .inr (3, [.ref aR, .int vn])), (aR, .inl (cy 0, 9, .inl fN))] H := hP
  have hD : va_D A [(aP, .inr (4, [.ref bF, .ref bL, .ref bX, .int x1, .int 0, .int wFo, .ref aN, .int p1])), (bF, .inl (cy 0, 4096, .inl gF)), (bL, .inl (cy 0, 4096, .inl gL)), (bX, .inl (cy 0, 24, .inl gX)), (aN, .inr (3, [.ref aR, .int vn])), (aR, .inl (cy 0, 9, .inl fN))] := hD
  refine lv_iconst (v := 0) hx hb dX4_begin_33 (by decide) ?_
  refine lv_istore_n (lv' := [(2, .int 0), (0, .ref aP), (1, .int p1)]) hx hb dX4_begin_34 rfl hl (by decide) rfl (fun ls hl => ?_)
  obtain ⟨I35_3, u35_3, h035, hst35⟩ := h
  have key35 : ∀ (k9 : Nat) (y2 : Int32) (f3 : Nat → Int32), I35_3 y2 f3 → u35_3 y2 f3 < k9 → ∀ (H : Heap) (locs : List Loc), va_P G vwCl [(aP, .inr (4, [.ref bF, .ref bL, .ref bX, .int x1, .int 0, .int wFo, .ref aN, .int p1])), (bF, .inl (cy 0, 4096, .inl f3)), (bL, .inl (cy 0, 4096, .inl gL)), (bX, .inl (cy 0, 24, .inl gX)), (aN, .inr (3, [.ref aR, .int vn])), (aR, .inl (cy 0, 9, .inl fN))] H → va_D A [(aP, .inr (4, [.ref bF, .ref bL, .ref bX, .int x1, .int 0, .int wFo, .ref aN, .int p1])), (bF, .inl (cy 0, 4096, .inl f3)), (bL, .inl (cy 0, 4096, .inl gL)), (bX, .inl (cy 0, 24, .inl gX)), (aN, .inr (3, [.ref aR, .int vn])), (aR, .inl (cy 0, 9, .inl fN))] → va_S A s.heap H locs → ∀ (ls : Array Slot), lv_has ls 3 [(0, .ref aP), (2, .int y2)] → W p l e (headSpec wsX4_begin rmX4_begin).room s m args below meth c H locs 0 0 QM (F0 m 35 ls []) := by
    intro k9
    induction k9 with
    | zero =>
      intro y2 f3 hI9 hk9
      exact absurd hk9 (Nat.not_lt_zero _)
    | succ k9 ih35 =>
      intro y2 f3 hI9 hk35 H locs hP hD hS ls hl
      have h := hst35 y2 f3 hI9
      refine lv_iload_n hx hb dX4_begin_35 rfl (lv_at hl 1 rfl) ?_
      refine lv_aload_n hx hb dX4_begin_36 rfl (lv_at hl 0 rfl) ?_
      refine va_get (D := G) (ci := 4) (v := .int x1) (C := RX4) (T := TX4) (N := 8) hx hb hts iwX4 hown hK.1 hP 0 rfl rfl 3 (by decide) fl34 (fun x9 h9 => u_same sf34 x9 h9) rfl dX4_begin_37 ?_
      refine lv_icmp_ge (tgt := 73) hx hb dX4_begin_40 (by decide) (fun c4 => ?_) (fun c4 => ?_)
      · obtain ⟨h, -⟩ := h
        specialize h c4
        rw [← hQe]
        exact W.vret hx hb hr (fun t ht hW => ⟨⟨(x1, 0, p1, f3), rfl, h, by dsimp only; rw [ht]; exact hP⟩, hS.F ht⟩) hS.2.2 dX4_begin_73
      · obtain ⟨-, h⟩ := h
        specialize h c4
        refine lv_aload_n hx hb dX4_begin_43 rfl (lv_at hl 0 rfl) ?_
        refine va_get (D := G) (ci := 4) (v := .ref bF) (C := RX4) (T := TX4) (N := 8) hx hb hts iwX4 hown hK.1 hP 0 rfl rfl 0 (by decide) fl24 (fun x9 h9 => u_same sf24 x9 h9) rfl dX4_begin_44 ?_
        refine lv_iload_n hx hb dX4_begin_47 rfl (lv_at hl 1 rfl) ?_
        refine lv_aload_n hx hb dX4_begin_48 rfl (lv_at hl 0 rfl) ?_
        refine lv_iload_n hx hb dX4_begin_49 rfl (lv_at hl 1 rfl) ?_
        refine lv_aload_n hx hb dX4_begin_50 rfl (lv_at hl 0 rfl) ?_
        refine va_get (D := G) (ci := 4) (v := .int p1) (C := RX4) (T := TX4) (N := 8) hx hb hts iwX4 hown hK.1 hP 0 rfl rfl 7 (by decide) fl9 (fun _ h9 => h9) rfl dX4_begin_51 ?_
        obtain ⟨Q5, hw9, h⟩ := h
        have hPc : va_P G vwCl [(aP, .inr (4, [.ref bF, .ref bL, .ref bX, .int x1, .int 0, .int wFo, .ref aN, .int p1])), (bF, .inl (cy 0, 4096, .inl f3)), (bL, .inl (cy 0, 4096, .inl gL)), (bX, .inl (cy 0, 24, .inl gX)), (aN, .inr (3, [.ref aR, .int vn])), (aR, .inl (cy 0, 9, .inl fN))] H := hP.sub [0, 1, 2, 3, 4, 5] rfl
        refine vp_callSi (va_Run.run (va_runV (As := [.int y2, .int p1]) (rest := [.int y2, .ref bF]) ⟨hx, hb, hml, hown, hts⟩ (ct_X4_isLawful l G cy aP bF bL bX aN aR x1 0 wFo p1 f3 gL gX vn fN y2 p1 Q5 hw9) (cwV 2 hts gX4_begin_X4_isLawful rfl rfl rfl (by decide +kernel) ⟨Nat.le_of_ble_eq_true rfl, Nat.le_of_ble_eq_true rfl⟩) (rP_V hK hP (ci := 4) (q0 := 0) rfl rfl hPc) rfl rfl hl.1 rfl (lv_room (Nat.le_of_ble_eq_true rfl)) dX4_begin_54 ⟨Nat.le_of_ble_eq_true rfl, Nat.le_of_ble_eq_true rfl⟩)) (fun r6 er6 => ?_)
        specialize h r6 er6
        refine lv_if_eq (tgt := 64) hx hb dX4_begin_57 (by decide) (fun c7 => ?_) (fun c7 => ?_)
        · obtain ⟨h, -⟩ := h
          specialize h c7
          refine lv_bipush (v := (-2)) hx hb dX4_begin_64 (by decide) ?_
          obtain ⟨hi, h⟩ := h
          refine va_iast hx hb hK.1 hP hD hS 1 0 rfl rfl hi dX4_begin_66 (fun H locs hP hD hS => ?_)
          obtain ⟨f8, ef8⟩ : ∃ z9 : Nat → Int32, z9 = upd f3 (y2 : Int32).toNatClampNeg (-2) := ⟨_, rfl⟩
          specialize h f8 ef8
          have hP : va_P G vwCl [(aP, .inr (4, [.ref bF, .ref bL, .ref bX, .int x1, .int 0, .int wFo, .ref aN, .int p1])), (bF, .inl (cy 0, 4096, .inl f8)), (bL, .inl (cy 0, 4096, .inl gL)), (bX, .inl (cy 0, 24, .inl gX)), (aN, .inr (3, [.ref aR, .int vn])), (aR, .inl (cy 0, 9, .inl fN))] H := by rw [ef8]; exact hP
          have hD : va_D A [(aP, .inr (4, [.ref bF, .ref bL, .ref bX, .int x1, .int 0, .int wFo, .ref aN, .int p1])), (bF, .inl (cy 0, 4096, .inl f8)), (bL, .inl (cy 0, 4096, .inl gL)), (bX, .inl (cy 0, 24, .inl gX)), (aN, .inr (3, [.ref aR, .int vn])), (aR, .inl (cy 0, 9, .inl fN))] := D_same hD rfl
          obtain ⟨x9, ex9⟩ : ∃ y : Int32, y = y2 + 1 := ⟨_, rfl⟩
          specialize h x9 ex9
          refine lv_iinc (v := x9) (lv' := [(2, .int x9), (0, .ref aP)]) hx hb dX4_begin_67 hl (k := 1) rfl (by rw [ex9]; rfl) (by decide) rfl (fun ls hl => ?_)
          refine lv_goto (tgt := 35) hx hb dX4_begin_70 (by decide) ?_
          exact ih35 x9 f8 h.1 (Nat.lt_of_lt_of_le h.2 (Nat.le_of_lt_succ hk35)) _ _ hP hD hS _ (lv_sub hl [1, 0] rfl)
        · obtain ⟨-, h⟩ := h
          specialize h c7
          refine lv_iconst (v := (-1)) hx hb dX4_begin_60 (by decide) ?_
          refine lv_goto (tgt := 66) hx hb dX4_begin_61 (by decide) ?_
          obtain ⟨hi, h⟩ := h
          refine va_iast hx hb hK.1 hP hD hS 1 0 rfl rfl hi dX4_begin_66 (fun H locs hP hD hS => ?_)
          obtain ⟨f10, ef10⟩ : ∃ z9 : Nat → Int32, z9 = upd f3 (y2 : Int32).toNatClampNeg (-1) := ⟨_, rfl⟩
          specialize h f10 ef10
          have hP : va_P G vwCl [(aP, .inr (4, [.ref bF, .ref bL, .ref bX, .int x1, .int 0, .int wFo, .ref aN, .int p1])), (bF, .inl (cy 0, 4096, .inl f10)), (bL, .inl (cy 0, 4096, .inl gL)), (bX, .inl (cy 0, 24, .inl gX)), (aN, .inr (3, [.ref aR, .int vn])), (aR, .inl (cy 0, 9, .inl fN))] H := by rw [ef10]; exact hP
          have hD : va_D A [(aP, .inr (4, [.ref bF, .ref bL, .ref bX, .int x1, .int 0, .int wFo, .ref aN, .int p1])), (bF, .inl (cy 0, 4096, .inl f10)), (bL, .inl (cy 0, 4096, .inl gL)), (bX, .inl (cy 0, 24, .inl gX)), (aN, .inr (3, [.ref aR, .int vn])), (aR, .inl (cy 0, 9, .inl fN))] := D_same hD rfl
          obtain ⟨x11, ex11⟩ : ∃ y : Int32, y = y2 + 1 := ⟨_, rfl⟩
          specialize h x11 ex11
          refine lv_iinc (v := x11) (lv' := [(2, .int x11), (0, .ref aP)]) hx hb dX4_begin_67 hl (k := 1) rfl (by rw [ex11]; rfl) (by decide) rfl (fun ls hl => ?_)
          refine lv_goto (tgt := 35) hx hb dX4_begin_70 (by decide) ?_
          exact ih35 x11 f10 h.1 (Nat.lt_of_lt_of_le h.2 (Nat.le_of_lt_succ hk35)) _ _ hP hD hS _ (lv_sub hl [1, 0] rfl)
  exact key35 _ 0 gF h035 (Nat.lt_succ_self _) _ _ hP hD hS _ (lv_sub hl [1, 0] rfl)

set_option maxHeartbeats 4000000 in
set_option maxRecDepth 100000 in
theorem ct_X4_stuck (l : Launch) (G : va_G) (cy : Nat → ClassId) (aP bF bL bX aN aR : Nat) (sz : Nat) (wSz : Int32) (wTl : Int32) (wFo : Int32) (wCo : Int32) (gF : Nat → Int32) (gL : Nat → Int32) (gX : Nat → Int32) (vn : Int32) (fN : Nat → Int32) (Q : Int32 → Int32 → (Nat → Int32) → Prop) (h : wp_X4_stuck wSz wFo wCo gF gX vn Q) : Met l yX4_stuck wsX4_stuck rmX4_stuck (va_Pc [.ref aP] (wP G cy sz [(aP, .inr (4, [.ref bF, .ref bL, .ref bX, .int wSz, .int wTl, .int wFo, .ref aN, .int wCo])), (bF, .inl (cy 0, 4096, .inl gF)), (bL, .inl (cy 0, 4096, .inl gL)), (bX, .inl (cy 0, 24, .inl gX)), (aN, .inr (3, [.ref aR, .int vn])), (aR, .inl (cy 0, 9, .inl fN))])) (va_Qi (fun (r : Int32) (u : Int32 × (Nat → Int32)) => Q r u.1 u.2) (fun (u : Int32 × (Nat → Int32)) (t : State) => va_P G vwCl [(aP, .inr (4, [.ref bF, .ref bL, .ref bX, .int wSz, .int wTl, .int u.1, .ref aN, .int wCo])), (bF, .inl (cy 0, 4096, .inl gF)), (bL, .inl (cy 0, 4096, .inl gL)), (bX, .inl (cy 0, 24, .inl u.2)), (aN, .inr (3, [.ref aR, .int vn])), (aR, .inl (cy 0, 9, .inl fN))] t.heap) (va_A [(aP, .inr (4, [.ref bF, .ref bL, .ref bX, .int wSz, .int wTl, .int wFo, .ref aN, .int wCo])), (bF, .inl (cy 0, 4096, .inl gF)), (bL, .inl (cy 0, 4096, .inl gL)), (bX, .inl (cy 0, 24, .inl gX)), (aN, .inr (3, [.ref aR, .int vn])), (aR, .inl (cy 0, 9, .inl fN))] sz)) 0 0 (va_A [(aP, .inr (4, [.ref bF, .ref bL, .ref bX, .int wSz, .int wTl, .int wFo, .ref aN, .int wCo])), (bF, .inl (cy 0, 4096, .inl gF)), (bL, .inl (cy 0, 4096, .inl gL)), (bX, .inl (cy 0, 24, .inl gX)), (aN, .inr (3, [.ref aR, .int vn])), (aR, .inl (cy 0, 9, .inl fN))] sz) := by
  unfold wp_X4_stuck at h
  refine Met.ofW (cc := cX4_stuck) (maxL := 3) (ret := (some .int)) (by decide) rfl ?_
  intro p e s m args below meth c s₁ B hml hv
  obtain ⟨hav, hsz, hP, hK, hD0⟩ := hv
  have hx := B.exec
  have hb := B.bytes
  have hr := B.returns
  have hts := atoms_spec (ws := wsX4_stuck) B.pre
  have hown : s.vm.findClass RX4 = some m.cls := findClass_of_methodNamed B.named
  have hlocks := B.notSynchronized
  subst hsz
  have hD := hD0.self (sz := s.heap.size)
  generalize hAe : va_A [(aP, .inr (4, [.ref bF, .ref bL, .ref bX, .int wSz, .int wTl, .int wFo, .ref aN, .int wCo])), (bF, .inl (cy 0, 4096, .inl gF)), (bL, .inl (cy 0, 4096, .inl gL)), (bX, .inl (cy 0, 24, .inl gX)), (aN, .inr (3, [.ref aR, .int vn])), (aR, .inl (cy 0, 9, .inl fN))] s.heap.size = A at hD ⊢
  have hA : ∀ q : Nat, s.heap.size ≤ q → A q := fun q h9 => by rw [← hAe]; exact Or.inr h9
  have hS : va_S A s.heap s.heap [] := va_S.rf
  have hl := lv_entry ([.ref aP]) (n := 3) (Nat.le_of_ble_eq_true rfl)
  rw [show entryFrame m args 3 = entryFrame m ([.ref aP] : List Value).toArray 3 by rw [hav], lg_entry_eq]
  generalize (lg_sl ([.ref aP]) ++ List.replicate (3 - (lg_sl ([.ref aP])).length) Slot.unset).toArray = ls at hl ⊢
  have hl : lv_has ls 3 [(0, .ref aP)] := hl
  generalize hQe : MQ below _ _ _ _ _ _ = QM
  have hP : va_P G vwCl [(aP, .inr (4, [.ref bF, .ref bL, .ref bX, .int wSz, .int wTl, .int wFo, .ref aN, .int wCo])), (bF, .inl (cy 0, 4096, .inl gF)), (bL, .inl (cy 0, 4096, .inl gL)), (bX, .inl (cy 0, 24, .inl gX)), (aN, .inr (3, [.ref aR, .int vn])), (aR, .inl (cy 0, 9, .inl fN))] s.heap := hP
  have iwX4 : ∀ w ∈ wsX40, w ∈ wsX4_stuck := by decide +kernel
  have fl34 := hts (.fieldLink RX4 34 "SlidTokens$Paints" "size" "I") (by decide +kernel)
  have sf34 := hts (.sameField "SlidTokens$Paints" "SlidTokens$Search" "size" "I") (by decide +kernel)
  have fl24 := hts (.fieldLink RX4 24 "SlidTokens$Paints" "far" "[I") (by decide +kernel)
  have sf24 := hts (.sameField "SlidTokens$Paints" "SlidTokens$Search" "far" "[I") (by decide +kernel)
  have fl57 := hts (.fieldLink RX4 57 "SlidTokens$Paints" "found" "I") (by decide +kernel)
  have sf57 := hts (.sameField "SlidTokens$Paints" "SlidTokens$Search" "found" "I") (by decide +kernel)
  suffices K9 : ∀ (H : Heap) (locs : List Loc), va_P G vwCl [(aP, .inr (4, [.ref bF, .ref bL, .ref bX, .int wSz, .int wTl, .int wFo, .ref aN, .int wCo])), (bF, .inl (cy 0, 4096, .inl gF)), (bL, .inl (cy 0, 4096, .inl gL)), (bX, .inl (cy 0, 24, .inl gX)), (aN, .inr (3, [.ref aR, .int vn])), (aR, .inl (cy 0, 9, .inl fN))] H → va_D A [(aP, .inr (4, [.ref bF, .ref bL, .ref bX, .int wSz, .int wTl, .int wFo, .ref aN, .int wCo])), (bF, .inl (cy 0, 4096, .inl gF)), (bL, .inl (cy 0, 4096, .inl gL)), (bX, .inl (cy 0, 24, .inl gX)), (aN, .inr (3, [.ref aR, .int vn])), (aR, .inl (cy 0, 9, .inl fN))] → va_S A s.heap H locs → W p l e (headSpec wsX4_stuck rmX4_stuck).room s m args below meth c H locs 0 0 QM (F0 m 0 ls []) from K9 _ _ hP hD hS
  clear hP hD hS
  intro H locs hP hD hS
  refine lv_iconst (v := 0) hx hb dX4_stuck_0 (by decide) ?_
  refine lv_istore_n (lv' := [(1, .int 0), (0, .ref aP)]) hx hb dX4_stuck_1 rfl hl (by decide) rfl (fun ls hl => ?_)
  refine lv_iconst (v := 0) hx hb dX4_stuck_2 (by decide) ?_
  refine lv_istore_n (lv' := [(2, .int 0), (1, .int 0), (0, .ref aP)]) hx hb dX4_stuck_3 rfl hl (by decide) rfl (fun ls hl => ?_)
  obtain ⟨I4_4, u4_4, h04, hst4⟩ := h
  have key4 : ∀ (k9 : Nat) (y1 : Int32) (y2 : Int32) (z3 : Int32) (f4 : Nat → Int32), I4_4 y1 y2 z3 f4 → u4_4 y1 y2 z3 f4 < k9 → ∀ (H : Heap) (locs : List Loc), va_P G vwCl [(aP, .inr (4, [.ref bF, .ref bL, .ref bX, .int wSz, .int wTl, .int z3, .ref aN, .int wCo])), (bF, .inl (cy 0, 4096, .inl gF)), (bL, .inl (cy 0, 4096, .inl gL)), (bX, .inl (cy 0, 24, .inl f4)), (aN, .inr (3, [.ref aR, .int vn])), (aR, .inl (cy 0, 9, .inl fN))] H → va_D A [(aP, .inr (4, [.ref bF, .ref bL, .ref bX, .int wSz, .int wTl, .int z3, .ref aN, .int wCo])), (bF, .inl (cy 0, 4096, .inl gF)), (bL, .inl (cy 0, 4096, .inl gL)), (bX, .inl (cy 0, 24, .inl f4)), (aN, .inr (3, [.ref aR, .int vn])), (aR, .inl (cy 0, 9, .inl fN))] → va_S A s.heap H locs → ∀ (ls : Array Slot), lv_has ls 3 [(0, .ref aP), (1, .int y1), (2, .int y2)] → W p l e (headSpec wsX4_stuck rmX4_stuck).room s m args below meth c H locs 0 0 QM (F0 m 4 ls []) := by
    intro k9
    induction k9 with
    | zero =>
      intro y1 y2 z3 f4 hI9 hk9
      exact absurd hk9 (Nat.not_lt_zero _)
    | succ k9 ih4 =>
      intro y1 y2 z3 f4 hI9 hk4 H locs hP hD hS ls hl
      have h := hst4 y1 y2 z3 f4 hI9
      refine lv_iload_n hx hb dX4_stuck_4 rfl (lv_at hl 2 rfl) ?_
      refine lv_aload_n hx hb dX4_stuck_5 rfl (lv_at hl 0 rfl) ?_
      refine va_get (D := G) (ci := 4) (v := .int wSz) (C := RX4) (T := TX4) (N := 8) hx hb hts iwX4 hown hK.1 hP 0 rfl rfl 3 (by decide) fl34 (fun x9 h9 => u_same sf34 x9 h9) rfl dX4_stuck_6 ?_
      refine lv_icmp_ge (tgt := 49) hx hb dX4_stuck_9 (by decide) (fun c5 => ?_) (fun c5 => ?_)
      · obtain ⟨h, -⟩ := h
        specialize h c5
        refine lv_iload_n hx hb dX4_stuck_49 rfl (lv_at hl 1 rfl) ?_
        rw [← hQe]
        exact W.iret (v := y1) hx hb hr (fun t ht hW => ⟨⟨y1, (z3, f4), rfl, h, by dsimp only; rw [ht]; exact hP⟩, hS.F ht⟩) hS.2.2 dX4_stuck_50
      · obtain ⟨-, h⟩ := h
        specialize h c5
        refine lv_aload_n hx hb dX4_stuck_12 rfl (lv_at hl 0 rfl) ?_
        refine va_get (D := G) (ci := 4) (v := .ref bF) (C := RX4) (T := TX4) (N := 8) hx hb hts iwX4 hown hK.1 hP 0 rfl rfl 0 (by decide) fl24 (fun x9 h9 => u_same sf24 x9 h9) rfl dX4_stuck_13 ?_
        refine lv_iload_n hx hb dX4_stuck_16 rfl (lv_at hl 2 rfl) ?_
        obtain ⟨hi, h⟩ := h
        refine va_iald hx hb hK.1 hP 1 0 rfl rfl hi dX4_stuck_17 ?_
        refine lv_bipush (v := (-2)) hx hb dX4_stuck_18 (by decide) ?_
        refine lv_icmp_eq (tgt := 43) hx hb dX4_stuck_20 (by decide) (fun c6 => ?_) (fun c6 => ?_)
        · obtain ⟨h, -⟩ := h
          specialize h c6
          obtain ⟨x7, ex7⟩ : ∃ y : Int32, y = y2 + 1 := ⟨_, rfl⟩
          specialize h x7 ex7
          refine lv_iinc (v := x7) (lv' := [(2, .int x7), (0, .ref aP), (1, .int y1)]) hx hb dX4_stuck_43 hl (k := 2) rfl (by rw [ex7]; rfl) (by decide) rfl (fun ls hl => ?_)
          refine lv_goto (tgt := 4) hx hb dX4_stuck_46 (by decide) ?_
          exact ih4 y1 x7 z3 f4 h.1 (Nat.lt_of_lt_of_le h.2 (Nat.le_of_lt_succ hk4)) _ _ hP hD hS _ (lv_sub hl [1, 2, 0] rfl)
        · obtain ⟨-, h⟩ := h
          specialize h c6
          refine lv_aload_n hx hb dX4_stuck_23 rfl (lv_at hl 0 rfl) ?_
          refine lv_iload_n hx hb dX4_stuck_24 rfl (lv_at hl 2 rfl) ?_
          obtain ⟨Q8, hw9, h⟩ := h
          have hPc : va_P G vwCl [(aP, .inr (4, [.ref bF, .ref bL, .ref bX, .int wSz, .int wTl, .int z3, .ref aN, .int wCo])), (bF, .inl (cy 0, 4096, .inl gF)), (bL, .inl (cy 0, 4096, .inl gL)), (bX, .inl (cy 0, 24, .inl f4)), (aN, .inr (3, [.ref aR, .int vn])), (aR, .inl (cy 0, 9, .inl fN))] H := hP.sub [0, 1, 2, 3, 4, 5] rfl
          have hDc : va_D A [(aP, .inr (4, [.ref bF, .ref bL, .ref bX, .int wSz, .int wTl, .int z3, .ref aN, .int wCo])), (bF, .inl (cy 0, 4096, .inl gF)), (bL, .inl (cy 0, 4096, .inl gL)), (bX, .inl (cy 0, 24, .inl f4)), (aN, .inr (3, [.ref aR, .int vn])), (aR, .inl (cy 0, 9, .inl fN))] := hD.sub [0, 1, 2, 3, 4, 5] (by decide) rfl
          have hFc := va_free (wc := [(aP, .inr (4, [.ref bF, .ref bL, .ref bX, .int wSz, .int wTl, .int z3, .ref aN, .int wCo])), (bF, .inl (cy 0, 4096, .inl gF)), (bL, .inl (cy 0, 4096, .inl gL)), (bX, .inl (cy 0, 24, .inl f4)), (aN, .inr (3, [.ref aR, .int vn])), (aR, .inl (cy 0, 9, .inl fN))]) hD hS hA [0, 1, 2, 3, 4, 5] rfl
          refine va_callv (va_runV (As := [.int y2]) (rest := []) ⟨hx, hb, hml, hown, hts⟩ (ct_X4_gather l G cy aP bF bL bX aN aR H.size wSz wTl z3 wCo gF gL f4 vn fN y2 Q8 hw9) (cwV 1 hts gX4_stuck_X4_gather rfl rfl rfl (by decide +kernel) ⟨Nat.le_of_ble_eq_true rfl, Nat.le_of_ble_eq_true rfl⟩) (wP_V hK hP (ci := 4) (q0 := 0) rfl rfl hPc hDc) rfl rfl hl.1 rfl (lv_room (Nat.le_of_ble_eq_true rfl)) dX4_stuck_25 ⟨Nat.le_of_ble_eq_true rfl, Nat.le_of_ble_eq_true rfl⟩) hS (fun q9 _ h9 => hFc q9 h9) hFc (fun u9 t9 H locs ht9 hvm9 hw9 hB9 hz9 hk9 hS => ?_)
          obtain ⟨z10, f11⟩ := u9
          have hP : va_P G vwCl [(aP, .inr (4, [.ref bF, .ref bL, .ref bX, .int wSz, .int wTl, .int z10, .ref aN, .int wCo])), (bF, .inl (cy 0, 4096, .inl gF)), (bL, .inl (cy 0, 4096, .inl gL)), (bX, .inl (cy 0, 24, .inl f11)), (aN, .inr (3, [.ref aR, .int vn])), (aR, .inl (cy 0, 9, .inl fN))] H := P_back [0, 1, 2, 3, 4, 5] [] 6 hP hD rfl rfl rfl rfl (by decide) (by decide) hk9 (by rw [← ht9]; exact hB9)
          have hD : va_D A [(aP, .inr (4, [.ref bF, .ref bL, .ref bX, .int wSz, .int wTl, .int z10, .ref aN, .int wCo])), (bF, .inl (cy 0, 4096, .inl gF)), (bL, .inl (cy 0, 4096, .inl gL)), (bX, .inl (cy 0, 24, .inl f11)), (aN, .inr (3, [.ref aR, .int vn])), (aR, .inl (cy 0, 9, .inl fN))] := D_same hD rfl
          specialize h z10 f11 hw9
          refine lv_iload_n hx hb dX4_stuck_28 rfl (lv_at hl 1 rfl) ?_
          refine lv_aload_n hx hb dX4_stuck_29 rfl (lv_at hl 0 rfl) ?_
          refine va_get (D := G) (ci := 4) (v := .int z10) (C := RX4) (T := TX4) (N := 8) hx hb hts iwX4 hown hK.1 hP 0 rfl rfl 5 (by decide) fl57 (fun x9 h9 => u_same sf57 x9 h9) rfl dX4_stuck_30 ?_
          refine lv_if_ne (tgt := 40) hx hb dX4_stuck_33 (by decide) (fun c12 => ?_) (fun c12 => ?_)
          · obtain ⟨-, h⟩ := h
            specialize h c12
            refine lv_iconst (v := 0) hx hb dX4_stuck_40 (by decide) ?_
            refine lv_iadd hx hb dX4_stuck_41 ?_
            refine lv_topi (fun x13 ex13 => ?_)
            specialize h x13 ex13
            refine lv_istore_n (lv' := [(1, .int x13), (0, .ref aP), (2, .int y2)]) hx hb dX4_stuck_42 rfl hl (by decide) rfl (fun ls hl => ?_)
            obtain ⟨x14, ex14⟩ : ∃ y : Int32, y = y2 + 1 := ⟨_, rfl⟩
            specialize h x14 ex14
            refine lv_iinc (v := x14) (lv' := [(2, .int x14), (1, .int x13), (0, .ref aP)]) hx hb dX4_stuck_43 hl (k := 2) rfl (by rw [ex14]; rfl) (by decide) rfl (fun ls hl => ?_)
            refine lv_goto (tgt := 4) hx hb dX4_stuck_46 (by decide) ?_
            exact ih4 x13 x14 z10 f11 h.1 (Nat.lt_of_lt_of_le h.2 (Nat.le_of_lt_succ hk4)) _ _ hP hD hS _ (lv_sub hl [2, 1, 0] rfl)
          · obtain ⟨h, -⟩ := h
            specialize h c12
            refine lv_iconst (v := 1) hx hb dX4_stuck_36 (by decide) ?_
            refine lv_goto (tgt := 41) hx hb dX4_stuck_37 (by decide) ?_
            refine lv_iadd hx hb dX4_stuck_41 ?_
            refine lv_topi (fun x15 ex15 => ?_)
            specialize h x15 ex15
            refine lv_istore_n (lv' := [(1, .int x15), (0, .ref aP), (2, .int y2)]) hx hb dX4_stuck_42 rfl hl (by decide) rfl (fun ls hl => ?_)
            obtain ⟨x16, ex16⟩ : ∃ y : Int32, y = y2 + 1 := ⟨_, rfl⟩
            specialize h x16 ex16
            refine lv_iinc (v := x16) (lv' := [(2, .int x16), (1, .int x15), (0, .ref aP)]) hx hb dX4_stuck_43 hl (k := 2) rfl (by rw [ex16]; rfl) (by decide) rfl (fun ls hl => ?_)
            refine lv_goto (tgt := 4) hx hb dX4_stuck_46 (by decide) ?_
            exact ih4 x15 x16 z10 f11 h.1 (Nat.lt_of_lt_of_le h.2 (Nat.le_of_lt_succ hk4)) _ _ hP hD hS _ (lv_sub hl [2, 1, 0] rfl)
  exact key4 _ 0 0 wFo gX h04 (Nat.lt_succ_self _) _ _ hP hD hS _ (lv_sub hl [2, 1, 0] rfl)
