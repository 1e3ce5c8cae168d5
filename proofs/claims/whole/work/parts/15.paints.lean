set_option maxHeartbeats 4000000 in
set_option maxRecDepth 100000 in
theorem ct_X4_isColouring (l : Launch) (G : va_G) (cy : Nat → ClassId) (aP bF bL bX bC aN aR : Nat) (wSz : Int32) (wTl : Int32) (wFo : Int32) (wCo : Int32) (gF : Nat → Int32) (gL : Nat → Int32) (gX : Nat → Int32) (gC : Nat → Int32) (vn : Int32) (fN : Nat → Int32) (p1 : Int32) (p2 : Int32) (Q : Int32 → Prop) (h : wp_X4_isColouring vn p1 p2 Q) : Met l yX4_isColouring wsX4_isColouring rmX4_isColouring (va_Pc [.ref aP, .int p1, .int p2] (rP G cy [(aP, .inr (4, [.ref bF, .ref bL, .ref bX, .ref bC, .int wSz, .int wTl, .int wFo, .ref aN, .int wCo])), (bF, .inl (cy 0, 4096, .inl gF)), (bL, .inl (cy 0, 4096, .inl gL)), (bX, .inl (cy 0, 24, .inl gX)), (bC, .inl (cy 0, 24, .inl gC)), (aN, .inr (3, [.ref aR, .int vn])), (aR, .inl (cy 0, 9, .inl fN))])) (vp_Si Q) 0 0 (fun _ => False) := by
  unfold wp_X4_isColouring at h
  refine Met.ofW (cc := cX4_isColouring) (maxL := 4) (ret := (some .boolean)) (by decide) rfl ?_
  intro p e s m args below meth c s₁ B hml hv
  obtain ⟨hav, hP, hK⟩ := hv
  have hx := B.exec
  have hb := B.bytes
  have hr := B.returns
  have hts := atoms_spec (ws := wsX4_isColouring) B.pre
  have hown : s.vm.findClass RX4 = some m.cls := findClass_of_methodNamed B.named
  have hlocks := B.notSynchronized
  have hl := lv_entry ([.ref aP, .int p1, .int p2]) (n := 4) (Nat.le_of_ble_eq_true rfl)
  rw [show entryFrame m args 4 = entryFrame m ([.ref aP, .int p1, .int p2] : List Value).toArray 4 by rw [hav], lg_entry_eq]
  generalize (lg_sl ([.ref aP, .int p1, .int p2]) ++ List.replicate (4 - (lg_sl ([.ref aP, .int p1, .int p2])).length) Slot.unset).toArray = ls at hl ⊢
  have hl : lv_has ls 4 [(0, .ref aP), (1, .int p1), (2, .int p2)] := hl
  generalize hQe : MQ below _ _ _ _ _ _ = QM
  have iwX4 : ∀ w ∈ wsX40, w ∈ wsX4_isColouring := by decide +kernel
  have fl15 := hts (.fieldLink RX4 15 "SlidTokens$Paints" "net" "LSlidTokens$Net;") (by decide +kernel)
  have iwX3 : ∀ w ∈ wsX30, w ∈ wsX4_isColouring := by decide +kernel
  have fl19 := hts (.fieldLink RX4 19 "SlidTokens$Net" "nodes" "I") (by decide +kernel)
  refine lv_iload_n hx hb dX4_isColouring_0 rfl (lv_at hl 1 rfl) ?_
  refine lv_if_lt (tgt := 19) hx hb dX4_isColouring_1 (by decide) (fun c1 => ?_) (fun c1 => ?_)
  · obtain ⟨h, -⟩ := h
    specialize h c1
    refine lv_iconst (v := 0) hx hb dX4_isColouring_19 (by decide) ?_
    rw [← hQe]
    exact W.zret (v := 0) hx hb hr rfl (fun t ht hW => ⟨0, rfl, h, ht⟩) (fun q9 h9 => by cases h9) dX4_isColouring_20
  · obtain ⟨-, h⟩ := h
    specialize h c1
    refine lv_iload_n hx hb dX4_isColouring_4 rfl (lv_at hl 1 rfl) ?_
    refine lv_iconst (v := 1) hx hb dX4_isColouring_5 (by decide) ?_
    refine lv_iconst (v := 2) hx hb dX4_isColouring_6 (by decide) ?_
    refine lv_aload_n hx hb dX4_isColouring_7 rfl (lv_at hl 0 rfl) ?_
    refine va_get (D := G) (ci := 4) (v := .ref aN) (C := RX4) (T := TX4) (N := 9) hx hb hts iwX4 hown hK.1 hP 0 rfl rfl 7 (by decide) fl15 (fun _ h9 => h9) rfl dX4_isColouring_8 ?_
    refine va_get (D := G) (ci := 3) (v := .int vn) (C := RX3) (T := TX3) (N := 2) hx hb hts iwX3 hown hK.1 hP 5 rfl rfl 1 (by decide) fl19 (fun _ h9 => h9) rfl dX4_isColouring_11 ?_
    refine lv_imul hx hb dX4_isColouring_14 ?_
    refine lv_ishl hx hb dX4_isColouring_15 ?_
    refine lv_icmp_lt (tgt := 21) hx hb dX4_isColouring_16 (by decide) (fun c2 => ?_) (fun c2 => ?_)
    · obtain ⟨h, -⟩ := h
      specialize h c2
      refine lv_iconst (v := 0) hx hb dX4_isColouring_21 (by decide) ?_
      refine lv_istore_n (lv' := [(3, .int 0), (0, .ref aP), (1, .int p1), (2, .int p2)]) hx hb dX4_isColouring_22 rfl hl (by decide) rfl (fun ls hl => ?_)
      obtain ⟨I23_3, u23_3, h023, hst23⟩ := h
      have key23 : ∀ (k9 : Nat) (y3 : Int32), I23_3 y3 → u23_3 y3 < k9 → ∀ (ls : Array Slot), lv_has ls 4 [(0, .ref aP), (1, .int p1), (2, .int p2), (3, .int y3)] → W p l e (headSpec wsX4_isColouring rmX4_isColouring).room s m args below meth c s.heap [] 0 0 QM (F0 m 23 ls []) := by
        intro k9
        induction k9 with
        | zero =>
          intro y3 hI9 hk9
          exact absurd hk9 (Nat.not_lt_zero _)
        | succ k9 ih23 =>
          intro y3 hI9 hk23 ls hl
          have h := hst23 y3 hI9
          refine lv_iload_n hx hb dX4_isColouring_23 rfl (lv_at hl 3 rfl) ?_
          refine lv_aload_n hx hb dX4_isColouring_24 rfl (lv_at hl 0 rfl) ?_
          refine va_get (D := G) (ci := 4) (v := .ref aN) (C := RX4) (T := TX4) (N := 9) hx hb hts iwX4 hown hK.1 hP 0 rfl rfl 7 (by decide) fl15 (fun _ h9 => h9) rfl dX4_isColouring_25 ?_
          refine va_get (D := G) (ci := 3) (v := .int vn) (C := RX3) (T := TX3) (N := 2) hx hb hts iwX3 hown hK.1 hP 5 rfl rfl 1 (by decide) fl19 (fun _ h9 => h9) rfl dX4_isColouring_28 ?_
          refine lv_icmp_ge (tgt := 51) hx hb dX4_isColouring_31 (by decide) (fun c4 => ?_) (fun c4 => ?_)
          · obtain ⟨h, -⟩ := h
            specialize h c4
            refine lv_iconst (v := 1) hx hb dX4_isColouring_51 (by decide) ?_
            rw [← hQe]
            exact W.zret (v := 1) hx hb hr rfl (fun t ht hW => ⟨1, rfl, h, ht⟩) (fun q9 h9 => by cases h9) dX4_isColouring_52
          · obtain ⟨-, h⟩ := h
            specialize h c4
            refine lv_iload_n hx hb dX4_isColouring_34 rfl (lv_at hl 1 rfl) ?_
            refine lv_iload_n hx hb dX4_isColouring_35 rfl (lv_at hl 3 rfl) ?_
            obtain ⟨Q5, hw9, h⟩ := h
            have hPc : va_P G vwCl [] s.heap := P_nil
            refine vp_callSi (va_Run.run (va_runS (As := [.int p1, .int y3]) (rest := []) ⟨hx, hb, hml, hown, hts⟩ (ct_X4_colourOf l G cy p1 y3 Q5 hw9) (va_cwS 2 hts gX4_isColouring_X4_colourOf rfl rfl rfl (by decide +kernel) ⟨Nat.le_of_ble_eq_true rfl, Nat.le_of_ble_eq_true rfl⟩) (rP_S hK hPc) rfl rfl hl.1 rfl (lv_room (Nat.le_of_ble_eq_true rfl)) dX4_isColouring_36 ⟨Nat.le_of_ble_eq_true rfl, Nat.le_of_ble_eq_true rfl⟩)) (fun r6 er6 => ?_)
            specialize h r6 er6
            refine lv_iload_n hx hb dX4_isColouring_39 rfl (lv_at hl 2 rfl) ?_
            refine lv_icmp_lt (tgt := 45) hx hb dX4_isColouring_40 (by decide) (fun c7 => ?_) (fun c7 => ?_)
            · obtain ⟨h, -⟩ := h
              specialize h c7
              obtain ⟨x8, ex8⟩ : ∃ y : Int32, y = y3 + 1 := ⟨_, rfl⟩
              specialize h x8 ex8
              refine lv_iinc (v := x8) (lv' := [(3, .int x8), (0, .ref aP), (1, .int p1), (2, .int p2)]) hx hb dX4_isColouring_45 hl (k := 3) rfl (by rw [ex8]; rfl) (by decide) rfl (fun ls hl => ?_)
              refine lv_goto (tgt := 23) hx hb dX4_isColouring_48 (by decide) ?_
              exact ih23 x8 h.1 (Nat.lt_of_lt_of_le h.2 (Nat.le_of_lt_succ hk23)) _ (lv_sub hl [1, 2, 3, 0] rfl)
            · obtain ⟨-, h⟩ := h
              specialize h c7
              refine lv_iconst (v := 0) hx hb dX4_isColouring_43 (by decide) ?_
              rw [← hQe]
              exact W.zret (v := 0) hx hb hr rfl (fun t ht hW => ⟨0, rfl, h, ht⟩) (fun q9 h9 => by cases h9) dX4_isColouring_44
      exact key23 _ 0 h023 (Nat.lt_succ_self _) _ (lv_sub hl [1, 2, 3, 0] rfl)
    · obtain ⟨-, h⟩ := h
      specialize h c2
      refine lv_iconst (v := 0) hx hb dX4_isColouring_19 (by decide) ?_
      rw [← hQe]
      exact W.zret (v := 0) hx hb hr rfl (fun t ht hW => ⟨0, rfl, h, ht⟩) (fun q9 h9 => by cases h9) dX4_isColouring_20

set_option maxHeartbeats 4000000 in
set_option maxRecDepth 100000 in
theorem ct_X4_differs (l : Launch) (G : va_G) (cy : Nat → ClassId) (aP bF bL bX bC aN aR : Nat) (wSz : Int32) (wTl : Int32) (wFo : Int32) (wCo : Int32) (gF : Nat → Int32) (gL : Nat → Int32) (gX : Nat → Int32) (gC : Nat → Int32) (vn : Int32) (fN : Nat → Int32) (p1 : Int32) (Q : Int32 → Prop) (h : wp_X4_differs vn fN p1 Q) : Met l yX4_differs wsX4_differs rmX4_differs (va_Pc [.ref aP, .int p1] (rP G cy [(aP, .inr (4, [.ref bF, .ref bL, .ref bX, .ref bC, .int wSz, .int wTl, .int wFo, .ref aN, .int wCo])), (bF, .inl (cy 0, 4096, .inl gF)), (bL, .inl (cy 0, 4096, .inl gL)), (bX, .inl (cy 0, 24, .inl gX)), (bC, .inl (cy 0, 24, .inl gC)), (aN, .inr (3, [.ref aR, .int vn])), (aR, .inl (cy 0, 9, .inl fN))])) (vp_Si Q) 0 0 (fun _ => False) := by
  unfold wp_X4_differs at h
  refine Met.ofW (cc := cX4_differs) (maxL := 5) (ret := (some .boolean)) (by decide) rfl ?_
  intro p e s m args below meth c s₁ B hml hv
  obtain ⟨hav, hP, hK⟩ := hv
  have hx := B.exec
  have hb := B.bytes
  have hr := B.returns
  have hts := atoms_spec (ws := wsX4_differs) B.pre
  have hown : s.vm.findClass RX4 = some m.cls := findClass_of_methodNamed B.named
  have hlocks := B.notSynchronized
  have hl := lv_entry ([.ref aP, .int p1]) (n := 5) (Nat.le_of_ble_eq_true rfl)
  rw [show entryFrame m args 5 = entryFrame m ([.ref aP, .int p1] : List Value).toArray 5 by rw [hav], lg_entry_eq]
  generalize (lg_sl ([.ref aP, .int p1]) ++ List.replicate (5 - (lg_sl ([.ref aP, .int p1])).length) Slot.unset).toArray = ls at hl ⊢
  have hl : lv_has ls 5 [(0, .ref aP), (1, .int p1)] := hl
  generalize hQe : MQ below _ _ _ _ _ _ = QM
  have iwX4 : ∀ w ∈ wsX40, w ∈ wsX4_differs := by decide +kernel
  have fl15 := hts (.fieldLink RX4 15 "SlidTokens$Paints" "net" "LSlidTokens$Net;") (by decide +kernel)
  have iwX3 : ∀ w ∈ wsX30, w ∈ wsX4_differs := by decide +kernel
  have fl19 := hts (.fieldLink RX4 19 "SlidTokens$Net" "nodes" "I") (by decide +kernel)
  have fl54 := hts (.fieldLink RX4 54 "SlidTokens$Net" "near" "[I") (by decide +kernel)
  refine lv_iconst (v := 0) hx hb dX4_differs_0 (by decide) ?_
  refine lv_istore_n (lv' := [(2, .int 0), (0, .ref aP), (1, .int p1)]) hx hb dX4_differs_1 rfl hl (by decide) rfl (fun ls hl => ?_)
  obtain ⟨I2_1, u2_1, h02, hst2⟩ := h
  have key2 : ∀ (k9 : Nat) (y1 : Int32), I2_1 y1 → u2_1 y1 < k9 → ∀ (ls : Array Slot), lv_has ls 5 [(0, .ref aP), (1, .int p1), (2, .int y1)] → W p l e (headSpec wsX4_differs rmX4_differs).room s m args below meth c s.heap [] 0 0 QM (F0 m 2 ls []) := by
    intro k9
    induction k9 with
    | zero =>
      intro y1 hI9 hk9
      exact absurd hk9 (Nat.not_lt_zero _)
    | succ k9 ih2 =>
      intro y1 hI9 hk2 ls hl
      have h := hst2 y1 hI9
      refine lv_iload_n hx hb dX4_differs_2 rfl (lv_at hl 2 rfl) ?_
      refine lv_aload_n hx hb dX4_differs_3 rfl (lv_at hl 0 rfl) ?_
      refine va_get (D := G) (ci := 4) (v := .ref aN) (C := RX4) (T := TX4) (N := 9) hx hb hts iwX4 hown hK.1 hP 0 rfl rfl 7 (by decide) fl15 (fun _ h9 => h9) rfl dX4_differs_4 ?_
      refine va_get (D := G) (ci := 3) (v := .int vn) (C := RX3) (T := TX3) (N := 2) hx hb hts iwX3 hown hK.1 hP 5 rfl rfl 1 (by decide) fl19 (fun _ h9 => h9) rfl dX4_differs_7 ?_
      refine lv_icmp_ge (tgt := 85) hx hb dX4_differs_10 (by decide) (fun c2 => ?_) (fun c2 => ?_)
      · obtain ⟨h, -⟩ := h
        specialize h c2
        refine lv_iconst (v := 1) hx hb dX4_differs_85 (by decide) ?_
        rw [← hQe]
        exact W.zret (v := 1) hx hb hr rfl (fun t ht hW => ⟨1, rfl, h, ht⟩) (fun q9 h9 => by cases h9) dX4_differs_86
      · obtain ⟨-, h⟩ := h
        specialize h c2
        refine lv_aload_n hx hb dX4_differs_13 rfl (lv_at hl 0 rfl) ?_
        refine va_get (D := G) (ci := 4) (v := .ref aN) (C := RX4) (T := TX4) (N := 9) hx hb hts iwX4 hown hK.1 hP 0 rfl rfl 7 (by decide) fl15 (fun _ h9 => h9) rfl dX4_differs_14 ?_
        refine va_get (D := G) (ci := 3) (v := .ref aR) (C := RX3) (T := TX3) (N := 2) hx hb hts iwX3 hown hK.1 hP 5 rfl rfl 0 (by decide) fl54 (fun _ h9 => h9) rfl dX4_differs_17 ?_
        refine lv_iload_n hx hb dX4_differs_20 rfl (lv_at hl 2 rfl) ?_
        obtain ⟨hi, h⟩ := h
        refine va_iald hx hb hK.1 hP 6 0 rfl rfl hi dX4_differs_21 ?_
        refine lv_topi (fun x3 ex3 => ?_)
        specialize h x3 ex3
        refine lv_istore_n (lv' := [(3, .int x3), (0, .ref aP), (1, .int p1), (2, .int y1)]) hx hb dX4_differs_22 rfl hl (by decide) rfl (fun ls hl => ?_)
        refine lv_iload_n hx hb dX4_differs_23 rfl (lv_at hl 3 rfl) ?_
        refine lv_iconst (v := 1) hx hb dX4_differs_24 (by decide) ?_
        refine lv_iadd hx hb dX4_differs_25 ?_
        refine lv_topi (fun x4 ex4 => ?_)
        specialize h x4 ex4
        refine lv_istore (lv' := [(4, .int x4), (3, .int x3), (0, .ref aP), (1, .int p1), (2, .int y1)]) hx hb dX4_differs_26 hl (by decide) rfl (fun ls hl => ?_)
        obtain ⟨I28_5, u28_5, h028, hst28⟩ := h
        have key28 : ∀ (k9 : Nat) (y5 : Int32), I28_5 y5 → u28_5 y5 < k9 → ∀ (ls : Array Slot), lv_has ls 5 [(0, .ref aP), (1, .int p1), (2, .int y1), (3, .int x3), (4, .int y5)] → W p l e (headSpec wsX4_differs rmX4_differs).room s m args below meth c s.heap [] 0 0 QM (F0 m 28 ls []) := by
          intro k9
          induction k9 with
          | zero =>
            intro y5 hI9 hk9
            exact absurd hk9 (Nat.not_lt_zero _)
          | succ k9 ih28 =>
            intro y5 hI9 hk28 ls hl
            have h := hst28 y5 hI9
            refine lv_iload hx hb dX4_differs_28 (lv_at hl 4 rfl) ?_
            refine lv_aload_n hx hb dX4_differs_30 rfl (lv_at hl 0 rfl) ?_
            refine va_get (D := G) (ci := 4) (v := .ref aN) (C := RX4) (T := TX4) (N := 9) hx hb hts iwX4 hown hK.1 hP 0 rfl rfl 7 (by decide) fl15 (fun _ h9 => h9) rfl dX4_differs_31 ?_
            refine va_get (D := G) (ci := 3) (v := .int vn) (C := RX3) (T := TX3) (N := 2) hx hb hts iwX3 hown hK.1 hP 5 rfl rfl 1 (by decide) fl19 (fun _ h9 => h9) rfl dX4_differs_34 ?_
            refine lv_icmp_ge (tgt := 79) hx hb dX4_differs_37 (by decide) (fun c6 => ?_) (fun c6 => ?_)
            · obtain ⟨h, -⟩ := h
              specialize h c6
              obtain ⟨x7, ex7⟩ : ∃ y : Int32, y = y1 + 1 := ⟨_, rfl⟩
              specialize h x7 ex7
              refine lv_iinc (v := x7) (lv' := [(2, .int x7), (0, .ref aP), (1, .int p1), (3, .int x3), (4, .int y5)]) hx hb dX4_differs_79 hl (k := 2) rfl (by rw [ex7]; rfl) (by decide) rfl (fun ls hl => ?_)
              refine lv_goto (tgt := 2) hx hb dX4_differs_82 (by decide) ?_
              exact ih2 x7 h.1 (Nat.lt_of_lt_of_le h.2 (Nat.le_of_lt_succ hk2)) _ (lv_sub hl [1, 2, 0] rfl)
            · obtain ⟨-, h⟩ := h
              specialize h c6
              refine lv_iload_n hx hb dX4_differs_40 rfl (lv_at hl 3 rfl) ?_
              refine lv_iload hx hb dX4_differs_41 (lv_at hl 4 rfl) ?_
              refine lv_ishr hx hb dX4_differs_43 ?_
              refine lv_if_eq (tgt := 79) hx hb dX4_differs_44 (by decide) (fun c8 => ?_) (fun c8 => ?_)
              · obtain ⟨h, -⟩ := h
                specialize h c8
                obtain ⟨x9, ex9⟩ : ∃ y : Int32, y = y1 + 1 := ⟨_, rfl⟩
                specialize h x9 ex9
                refine lv_iinc (v := x9) (lv' := [(2, .int x9), (0, .ref aP), (1, .int p1), (3, .int x3), (4, .int y5)]) hx hb dX4_differs_79 hl (k := 2) rfl (by rw [ex9]; rfl) (by decide) rfl (fun ls hl => ?_)
                refine lv_goto (tgt := 2) hx hb dX4_differs_82 (by decide) ?_
                exact ih2 x9 h.1 (Nat.lt_of_lt_of_le h.2 (Nat.le_of_lt_succ hk2)) _ (lv_sub hl [1, 2, 0] rfl)
              · obtain ⟨-, h⟩ := h
                specialize h c8
                refine lv_iload_n hx hb dX4_differs_47 rfl (lv_at hl 3 rfl) ?_
                refine lv_iload hx hb dX4_differs_48 (lv_at hl 4 rfl) ?_
                refine lv_ishr hx hb dX4_differs_50 ?_
                refine lv_iconst (v := 1) hx hb dX4_differs_51 (by decide) ?_
                refine lv_iand hx hb dX4_differs_52 ?_
                refine lv_iconst (v := 1) hx hb dX4_differs_53 (by decide) ?_
                refine lv_icmp_ne (tgt := 73) hx hb dX4_differs_54 (by decide) (fun c10 => ?_) (fun c10 => ?_)
                · obtain ⟨-, h⟩ := h
                  specialize h c10
                  obtain ⟨x11, ex11⟩ : ∃ y : Int32, y = y5 + 1 := ⟨_, rfl⟩
                  specialize h x11 ex11
                  refine lv_iinc (v := x11) (lv' := [(4, .int x11), (0, .ref aP), (1, .int p1), (2, .int y1), (3, .int x3)]) hx hb dX4_differs_73 hl (k := 4) rfl (by rw [ex11]; rfl) (by decide) rfl (fun ls hl => ?_)
                  refine lv_goto (tgt := 28) hx hb dX4_differs_76 (by decide) ?_
                  exact ih28 x11 h.1 (Nat.lt_of_lt_of_le h.2 (Nat.le_of_lt_succ hk28)) _ (lv_sub hl [1, 2, 3, 4, 0] rfl)
                · obtain ⟨h, -⟩ := h
                  specialize h c10
                  refine lv_iload_n hx hb dX4_differs_57 rfl (lv_at hl 1 rfl) ?_
                  refine lv_iload_n hx hb dX4_differs_58 rfl (lv_at hl 2 rfl) ?_
                  obtain ⟨Q12, hw9, h⟩ := h
                  have hPc : va_P G vwCl [] s.heap := P_nil
                  refine vp_callSi (va_Run.run (va_runS (As := [.int p1, .int y1]) (rest := []) ⟨hx, hb, hml, hown, hts⟩ (ct_X4_colourOf l G cy p1 y1 Q12 hw9) (va_cwS 2 hts gX4_differs_X4_colourOf rfl rfl rfl (by decide +kernel) ⟨Nat.le_of_ble_eq_true rfl, Nat.le_of_ble_eq_true rfl⟩) (rP_S hK hPc) rfl rfl hl.1 rfl (lv_room (Nat.le_of_ble_eq_true rfl)) dX4_differs_59 ⟨Nat.le_of_ble_eq_true rfl, Nat.le_of_ble_eq_true rfl⟩)) (fun r13 er13 => ?_)
                  specialize h r13 er13
                  refine lv_iload_n hx hb dX4_differs_62 rfl (lv_at hl 1 rfl) ?_
                  refine lv_iload hx hb dX4_differs_63 (lv_at hl 4 rfl) ?_
                  obtain ⟨Q14, hw9, h⟩ := h
                  have hPc : va_P G vwCl [] s.heap := P_nil
                  refine vp_callSi (va_Run.run (va_runS (As := [.int p1, .int y5]) (rest := [.int r13]) ⟨hx, hb, hml, hown, hts⟩ (ct_X4_colourOf l G cy p1 y5 Q14 hw9) (va_cwS 2 hts gX4_differs_X4_colourOf rfl rfl rfl (by decide +kernel) ⟨Nat.le_of_ble_eq_true rfl, Nat.le_of_ble_eq_true rfl⟩) (rP_S hK hPc) rfl rfl hl.1 rfl (lv_room (Nat.le_of_ble_eq_true rfl)) dX4_differs_65 ⟨Nat.le_of_ble_eq_true rfl, Nat.le_of_ble_eq_true rfl⟩)) (fun r15 er15 => ?_)
                  specialize h r15 er15
                  refine lv_icmp_ne (tgt := 73) hx hb dX4_differs_68 (by decide) (fun c16 => ?_) (fun c16 => ?_)
                  · obtain ⟨-, h⟩ := h
                    specialize h c16
                    obtain ⟨x17, ex17⟩ : ∃ y : Int32, y = y5 + 1 := ⟨_, rfl⟩
                    specialize h x17 ex17
                    refine lv_iinc (v := x17) (lv' := [(4, .int x17), (0, .ref aP), (1, .int p1), (2, .int y1), (3, .int x3)]) hx hb dX4_differs_73 hl (k := 4) rfl (by rw [ex17]; rfl) (by decide) rfl (fun ls hl => ?_)
                    refine lv_goto (tgt := 28) hx hb dX4_differs_76 (by decide) ?_
                    exact ih28 x17 h.1 (Nat.lt_of_lt_of_le h.2 (Nat.le_of_lt_succ hk28)) _ (lv_sub hl [1, 2, 3, 4, 0] rfl)
                  · obtain ⟨h, -⟩ := h
                    specialize h c16
                    refine lv_iconst (v := 0) hx hb dX4_differs_71 (by decide) ?_
                    rw [← hQe]
                    exact W.zret (v := 0) hx hb hr rfl (fun t ht hW => ⟨0, rfl, h, ht⟩) (fun q9 h9 => by cases h9) dX4_differs_72
        exact key28 _ x4 h028 (Nat.lt_succ_self _) _ (lv_sub hl [2, 3, 4, 1, 0] rfl)
  exact key2 _ 0 h02 (Nat.lt_succ_self _) _ (lv_sub hl [1, 2, 0] rfl)

set_option maxHeartbeats 4000000 in
set_option maxRecDepth 100000 in
theorem ct_X4_isLawful (l : Launch) (G : va_G) (cy : Nat → ClassId) (aP bF bL bX bC aN aR : Nat) (wSz : Int32) (wTl : Int32) (wFo : Int32) (wCo : Int32) (gF : Nat → Int32) (gL : Nat → Int32) (gX : Nat → Int32) (gC : Nat → Int32) (vn : Int32) (fN : Nat → Int32) (p1 : Int32) (p2 : Int32) (Q : Int32 → Prop) (h : wp_X4_isLawful vn fN p1 p2 Q) : Met l yX4_isLawful wsX4_isLawful rmX4_isLawful (va_Pc [.ref aP, .int p1, .int p2] (rP G cy [(aP, .inr (4, [.ref bF, .ref bL, .ref bX, .ref bC, .int wSz, .int wTl, .int wFo, .ref aN, .int wCo])), (bF, .inl (cy 0, 4096, .inl gF)), (bL, .inl (cy 0, 4096, .inl gL)), (bX, .inl (cy 0, 24, .inl gX)), (bC, .inl (cy 0, 24, .inl gC)), (aN, .inr (3, [.ref aR, .int vn])), (aR, .inl (cy 0, 9, .inl fN))])) (vp_Si Q) 0 0 (fun _ => False) := by
  unfold wp_X4_isLawful at h
  refine Met.ofW (cc := cX4_isLawful) (maxL := 3) (ret := (some .boolean)) (by decide) rfl ?_
  intro p e s m args below meth c s₁ B hml hv
  obtain ⟨hav, hP, hK⟩ := hv
  have hx := B.exec
  have hb := B.bytes
  have hr := B.returns
  have hts := atoms_spec (ws := wsX4_isLawful) B.pre
  have hown : s.vm.findClass RX4 = some m.cls := findClass_of_methodNamed B.named
  have hlocks := B.notSynchronized
  have hl := lv_entry ([.ref aP, .int p1, .int p2]) (n := 3) (Nat.le_of_ble_eq_true rfl)
  rw [show entryFrame m args 3 = entryFrame m ([.ref aP, .int p1, .int p2] : List Value).toArray 3 by rw [hav], lg_entry_eq]
  generalize (lg_sl ([.ref aP, .int p1, .int p2]) ++ List.replicate (3 - (lg_sl ([.ref aP, .int p1, .int p2])).length) Slot.unset).toArray = ls at hl ⊢
  have hl : lv_has ls 3 [(0, .ref aP), (1, .int p1), (2, .int p2)] := hl
  generalize hQe : MQ below _ _ _ _ _ _ = QM
  refine lv_aload_n hx hb dX4_isLawful_0 rfl (lv_at hl 0 rfl) ?_
  refine lv_iload_n hx hb dX4_isLawful_1 rfl (lv_at hl 1 rfl) ?_
  refine lv_iload_n hx hb dX4_isLawful_2 rfl (lv_at hl 2 rfl) ?_
  obtain ⟨Q1, hw9, h⟩ := h
  have hPc : va_P G vwCl [(aP, .inr (4, [.ref bF, .ref bL, .ref bX, .ref bC, .int wSz, .int wTl, .int wFo, .ref aN, .int wCo])), (bF, .inl (cy 0, 4096, .inl gF)), (bL, .inl (cy 0, 4096, .inl gL)), (bX, .inl (cy 0, 24, .inl gX)), (bC, .inl (cy 0, 24, .inl gC)), (aN, .inr (3, [.ref aR, .int vn])), (aR, .inl (cy 0, 9, .inl fN))] s.heap := hP.sub [0, 1, 2, 3, 4, 5, 6] rfl
  refine vp_callSi (va_Run.run (va_runV (As := [.int p1, .int p2]) (rest := []) ⟨hx, hb, hml, hown, hts⟩ (ct_X4_isColouring l G cy aP bF bL bX bC aN aR wSz wTl wFo wCo gF gL gX gC vn fN p1 p2 Q1 hw9) (cwV 2 hts gX4_isLawful_X4_isColouring rfl rfl rfl (by decide +kernel) ⟨Nat.le_of_ble_eq_true rfl, Nat.le_of_ble_eq_true rfl⟩) (rP_V hK hP (ci := 4) (q0 := 0) rfl rfl hPc) rfl rfl hl.1 rfl (lv_room (Nat.le_of_ble_eq_true rfl)) dX4_isLawful_3 ⟨Nat.le_of_ble_eq_true rfl, Nat.le_of_ble_eq_true rfl⟩)) (fun r2 er2 => ?_)
  specialize h r2 er2
  refine lv_if_eq (tgt := 21) hx hb dX4_isLawful_6 (by decide) (fun c3 => ?_) (fun c3 => ?_)
  · obtain ⟨h, -⟩ := h
    specialize h c3
    refine lv_iconst (v := 0) hx hb dX4_isLawful_21 (by decide) ?_
    rw [← hQe]
    exact W.zret (v := 0) hx hb hr rfl (fun t ht hW => ⟨0, rfl, h, ht⟩) (fun q9 h9 => by cases h9) dX4_isLawful_22
  · obtain ⟨-, h⟩ := h
    specialize h c3
    refine lv_aload_n hx hb dX4_isLawful_9 rfl (lv_at hl 0 rfl) ?_
    refine lv_iload_n hx hb dX4_isLawful_10 rfl (lv_at hl 1 rfl) ?_
    obtain ⟨Q4, hw9, h⟩ := h
    have hPc : va_P G vwCl [(aP, .inr (4, [.ref bF, .ref bL, .ref bX, .ref bC, .int wSz, .int wTl, .int wFo, .ref aN, .int wCo])), (bF, .inl (cy 0, 4096, .inl gF)), (bL, .inl (cy 0, 4096, .inl gL)), (bX, .inl (cy 0, 24, .inl gX)), (bC, .inl (cy 0, 24, .inl gC)), (aN, .inr (3, [.ref aR, .int vn])), (aR, .inl (cy 0, 9, .inl fN))] s.heap := hP.sub [0, 1, 2, 3, 4, 5, 6] rfl
    refine vp_callSi (va_Run.run (va_runV (As := [.int p1]) (rest := []) ⟨hx, hb, hml, hown, hts⟩ (ct_X4_differs l G cy aP bF bL bX bC aN aR wSz wTl wFo wCo gF gL gX gC vn fN p1 Q4 hw9) (cwV 1 hts gX4_isLawful_X4_differs rfl rfl rfl (by decide +kernel) ⟨Nat.le_of_ble_eq_true rfl, Nat.le_of_ble_eq_true rfl⟩) (rP_V hK hP (ci := 4) (q0 := 0) rfl rfl hPc) rfl rfl hl.1 rfl (lv_room (Nat.le_of_ble_eq_true rfl)) dX4_isLawful_11 ⟨Nat.le_of_ble_eq_true rfl, Nat.le_of_ble_eq_true rfl⟩)) (fun r5 er5 => ?_)
    specialize h r5 er5
    refine lv_if_eq (tgt := 21) hx hb dX4_isLawful_14 (by decide) (fun c6 => ?_) (fun c6 => ?_)
    · obtain ⟨h, -⟩ := h
      specialize h c6
      refine lv_iconst (v := 0) hx hb dX4_isLawful_21 (by decide) ?_
      rw [← hQe]
      exact W.zret (v := 0) hx hb hr rfl (fun t ht hW => ⟨0, rfl, h, ht⟩) (fun q9 h9 => by cases h9) dX4_isLawful_22
    · obtain ⟨-, h⟩ := h
      specialize h c6
      refine lv_iconst (v := 1) hx hb dX4_isLawful_17 (by decide) ?_
      refine lv_goto (tgt := 22) hx hb dX4_isLawful_18 (by decide) ?_
      rw [← hQe]
      exact W.zret (v := 1) hx hb hr rfl (fun t ht hW => ⟨1, rfl, h, ht⟩) (fun q9 h9 => by cases h9) dX4_isLawful_22

set_option maxHeartbeats 4000000 in
set_option maxRecDepth 100000 in
theorem ct_X4_many (l : Launch) (G : va_G) (cy : Nat → ClassId) (aP bF bL bX bC aN aR : Nat) (wSz : Int32) (wTl : Int32) (wFo : Int32) (wCo : Int32) (gF : Nat → Int32) (gL : Nat → Int32) (gX : Nat → Int32) (gC : Nat → Int32) (vn : Int32) (fN : Nat → Int32) (Q : Int32 → Prop) (h : wp_X4_many wSz gF Q) : Met l yX4_many wsX4_many rmX4_many (va_Pc [.ref aP] (rP G cy [(aP, .inr (4, [.ref bF, .ref bL, .ref bX, .ref bC, .int wSz, .int wTl, .int wFo, .ref aN, .int wCo])), (bF, .inl (cy 0, 4096, .inl gF)), (bL, .inl (cy 0, 4096, .inl gL)), (bX, .inl (cy 0, 24, .inl gX)), (bC, .inl (cy 0, 24, .inl gC)), (aN, .inr (3, [.ref aR, .int vn])), (aR, .inl (cy 0, 9, .inl fN))])) (vp_Si Q) 0 0 (fun _ => False) := by
  unfold wp_X4_many at h
  refine Met.ofW (cc := cX4_many) (maxL := 3) (ret := (some .int)) (by decide) rfl ?_
  intro p e s m args below meth c s₁ B hml hv
  obtain ⟨hav, hP, hK⟩ := hv
  have hx := B.exec
  have hb := B.bytes
  have hr := B.returns
  have hts := atoms_spec (ws := wsX4_many) B.pre
  have hown : s.vm.findClass RX4 = some m.cls := findClass_of_methodNamed B.named
  have hlocks := B.notSynchronized
  have hl := lv_entry ([.ref aP]) (n := 3) (Nat.le_of_ble_eq_true rfl)
  rw [show entryFrame m args 3 = entryFrame m ([.ref aP] : List Value).toArray 3 by rw [hav], lg_entry_eq]
  generalize (lg_sl ([.ref aP]) ++ List.replicate (3 - (lg_sl ([.ref aP])).length) Slot.unset).toArray = ls at hl ⊢
  have hl : lv_has ls 3 [(0, .ref aP)] := hl
  generalize hQe : MQ below _ _ _ _ _ _ = QM
  have iwX4 : ∀ w ∈ wsX40, w ∈ wsX4_many := by decide +kernel
  have fl34 := hts (.fieldLink RX4 34 "SlidTokens$Paints" "size" "I") (by decide +kernel)
  have sf34 := hts (.sameField "SlidTokens$Paints" "SlidTokens$Search" "size" "I") (by decide +kernel)
  have fl24 := hts (.fieldLink RX4 24 "SlidTokens$Paints" "far" "[I") (by decide +kernel)
  have sf24 := hts (.sameField "SlidTokens$Paints" "SlidTokens$Search" "far" "[I") (by decide +kernel)
  refine lv_iconst (v := 0) hx hb dX4_many_0 (by decide) ?_
  refine lv_istore_n (lv' := [(1, .int 0), (0, .ref aP)]) hx hb dX4_many_1 rfl hl (by decide) rfl (fun ls hl => ?_)
  refine lv_iconst (v := 0) hx hb dX4_many_2 (by decide) ?_
  refine lv_istore_n (lv' := [(2, .int 0), (1, .int 0), (0, .ref aP)]) hx hb dX4_many_3 rfl hl (by decide) rfl (fun ls hl => ?_)
  obtain ⟨I4_2, u4_2, h04, hst4⟩ := h
  have key4 : ∀ (k9 : Nat) (y1 : Int32) (y2 : Int32), I4_2 y1 y2 → u4_2 y1 y2 < k9 → ∀ (ls : Array Slot), lv_has ls 3 [(0, .ref aP), (1, .int y1), (2, .int y2)] → W p l e (headSpec wsX4_many rmX4_many).room s m args below meth c s.heap [] 0 0 QM (F0 m 4 ls []) := by
    intro k9
    induction k9 with
    | zero =>
      intro y1 y2 hI9 hk9
      exact absurd hk9 (Nat.not_lt_zero _)
    | succ k9 ih4 =>
      intro y1 y2 hI9 hk4 ls hl
      have h := hst4 y1 y2 hI9
      refine lv_iload_n hx hb dX4_many_4 rfl (lv_at hl 2 rfl) ?_
      refine lv_aload_n hx hb dX4_many_5 rfl (lv_at hl 0 rfl) ?_
      refine va_get (D := G) (ci := 4) (v := .int wSz) (C := RX4) (T := TX4) (N := 9) hx hb hts iwX4 hown hK.1 hP 0 rfl rfl 4 (by decide) fl34 (fun x9 h9 => u_same sf34 x9 h9) rfl dX4_many_6 ?_
      refine lv_icmp_ge (tgt := 32) hx hb dX4_many_9 (by decide) (fun c3 => ?_) (fun c3 => ?_)
      · obtain ⟨h, -⟩ := h
        specialize h c3
        refine lv_iload_n hx hb dX4_many_32 rfl (lv_at hl 1 rfl) ?_
        rw [← hQe]
        exact W.iret (v := y1) hx hb hr (fun t ht hW => ⟨y1, rfl, h, ht⟩) (fun q9 h9 => by cases h9) dX4_many_33
      · obtain ⟨-, h⟩ := h
        specialize h c3
        refine lv_aload_n hx hb dX4_many_12 rfl (lv_at hl 0 rfl) ?_
        refine va_get (D := G) (ci := 4) (v := .ref bF) (C := RX4) (T := TX4) (N := 9) hx hb hts iwX4 hown hK.1 hP 0 rfl rfl 0 (by decide) fl24 (fun x9 h9 => u_same sf24 x9 h9) rfl dX4_many_13 ?_
        refine lv_iload_n hx hb dX4_many_16 rfl (lv_at hl 2 rfl) ?_
        obtain ⟨hi, h⟩ := h
        refine va_iald hx hb hK.1 hP 1 0 rfl rfl hi dX4_many_17 ?_
        refine lv_bipush (v := (-2)) hx hb dX4_many_18 (by decide) ?_
        refine lv_icmp_eq (tgt := 26) hx hb dX4_many_20 (by decide) (fun c4 => ?_) (fun c4 => ?_)
        · obtain ⟨h, -⟩ := h
          specialize h c4
          obtain ⟨x5, ex5⟩ : ∃ y : Int32, y = y2 + 1 := ⟨_, rfl⟩
          specialize h x5 ex5
          refine lv_iinc (v := x5) (lv' := [(2, .int x5), (0, .ref aP), (1, .int y1)]) hx hb dX4_many_26 hl (k := 2) rfl (by rw [ex5]; rfl) (by decide) rfl (fun ls hl => ?_)
          refine lv_goto (tgt := 4) hx hb dX4_many_29 (by decide) ?_
          exact ih4 y1 x5 h.1 (Nat.lt_of_lt_of_le h.2 (Nat.le_of_lt_succ hk4)) _ (lv_sub hl [1, 2, 0] rfl)
        · obtain ⟨-, h⟩ := h
          specialize h c4
          obtain ⟨x6, ex6⟩ : ∃ y : Int32, y = y1 + 1 := ⟨_, rfl⟩
          specialize h x6 ex6
          refine lv_iinc (v := x6) (lv' := [(1, .int x6), (0, .ref aP), (2, .int y2)]) hx hb dX4_many_23 hl (k := 1) rfl (by rw [ex6]; rfl) (by decide) rfl (fun ls hl => ?_)
          obtain ⟨x7, ex7⟩ : ∃ y : Int32, y = y2 + 1 := ⟨_, rfl⟩
          specialize h x7 ex7
          refine lv_iinc (v := x7) (lv' := [(2, .int x7), (1, .int x6), (0, .ref aP)]) hx hb dX4_many_26 hl (k := 2) rfl (by rw [ex7]; rfl) (by decide) rfl (fun ls hl => ?_)
          refine lv_goto (tgt := 4) hx hb dX4_many_29 (by decide) ?_
          exact ih4 x6 x7 h.1 (Nat.lt_of_lt_of_le h.2 (Nat.le_of_lt_succ hk4)) _ (lv_sub hl [2, 1, 0] rfl)
  exact key4 _ 0 0 h04 (Nat.lt_succ_self _) _ (lv_sub hl [2, 1, 0] rfl)

set_option maxHeartbeats 4000000 in
set_option maxRecDepth 100000 in
theorem ct_X5_isState_P (l : Launch) (G : va_G) (cy : Nat → ClassId) (aP bF bL bX bC aN aR : Nat) (wSz : Int32) (wTl : Int32) (wFo : Int32) (wCo : Int32) (gF : Nat → Int32) (gL : Nat → Int32) (gX : Nat → Int32) (gC : Nat → Int32) (vn : Int32) (fN : Nat → Int32) (p1 : Int32) (Q : Int32 → Prop) (h : wp_X5_isState_P wSz p1 Q) : Met l yX5_isState wsX5_isState rmX5_isState_P (va_Pc [.ref aP, .int p1] (rP G cy [(aP, .inr (4, [.ref bF, .ref bL, .ref bX, .ref bC, .int wSz, .int wTl, .int wFo, .ref aN, .int wCo])), (bF, .inl (cy 0, 4096, .inl gF)), (bL, .inl (cy 0, 4096, .inl gL)), (bX, .inl (cy 0, 24, .inl gX)), (bC, .inl (cy 0, 24, .inl gC)), (aN, .inr (3, [.ref aR, .int vn])), (aR, .inl (cy 0, 9, .inl fN))])) (vp_Si Q) 0 0 (fun _ => False) := by
  unfold wp_X5_isState_P at h
  refine Met.ofW (cc := cX5_isState) (maxL := 2) (ret := (some .boolean)) (by decide) rfl ?_
  intro p e s m args below meth c s₁ B hml hv
  obtain ⟨hav, hP, hK⟩ := hv
  have hx := B.exec
  have hb := B.bytes
  have hr := B.returns
  have hts := atoms_spec (ws := wsX5_isState) B.pre
  have hown : s.vm.findClass RX5 = some m.cls := findClass_of_methodNamed B.named
  have hlocks := B.notSynchronized
  have hl := lv_entry ([.ref aP, .int p1]) (n := 2) (Nat.le_of_ble_eq_true rfl)
  rw [show entryFrame m args 2 = entryFrame m ([.ref aP, .int p1] : List Value).toArray 2 by rw [hav], lg_entry_eq]
  generalize (lg_sl ([.ref aP, .int p1]) ++ List.replicate (2 - (lg_sl ([.ref aP, .int p1])).length) Slot.unset).toArray = ls at hl ⊢
  have hl : lv_has ls 2 [(0, .ref aP), (1, .int p1)] := hl
  generalize hQe : MQ below _ _ _ _ _ _ = QM
  have iwX4 : ∀ w ∈ wsX40, w ∈ wsX5_isState := by decide +kernel
  have fl9 := hts (.fieldLink RX5 9 "SlidTokens$Search" "size" "I") (by decide +kernel)
  have fl21 := hts (.fieldLink RX5 21 "SlidTokens$Search" "far" "[I") (by decide +kernel)
  refine lv_iload_n hx hb dX5_isState_0 rfl (lv_at hl 1 rfl) ?_
  refine lv_if_lt (tgt := 25) hx hb dX5_isState_1 (by decide) (fun c1 => ?_) (fun c1 => ?_)
  · obtain ⟨h, -⟩ := h
    specialize h c1
    refine lv_iconst (v := 0) hx hb dX5_isState_25 (by decide) ?_
    rw [← hQe]
    exact W.zret (v := 0) hx hb hr rfl (fun t ht hW => ⟨0, rfl, h, ht⟩) (fun q9 h9 => by cases h9) dX5_isState_26
  · obtain ⟨-, h⟩ := h
    specialize h c1
    refine lv_iload_n hx hb dX5_isState_4 rfl (lv_at hl 1 rfl) ?_
    refine lv_aload_n hx hb dX5_isState_5 rfl (lv_at hl 0 rfl) ?_
    refine va_get (D := G) (ci := 4) (v := .int wSz) (C := RX4) (T := TX4) (N := 9) hx hb hts iwX4 hown hK.1 hP 0 rfl rfl 4 (by decide) fl9 (fun _ h9 => h9) rfl dX5_isState_6 ?_
    refine lv_icmp_ge (tgt := 25) hx hb dX5_isState_9 (by decide) (fun c2 => ?_) (fun c2 => ?_)
    · obtain ⟨h, -⟩ := h
      specialize h c2
      refine lv_iconst (v := 0) hx hb dX5_isState_25 (by decide) ?_
      rw [← hQe]
      exact W.zret (v := 0) hx hb hr rfl (fun t ht hW => ⟨0, rfl, h, ht⟩) (fun q9 h9 => by cases h9) dX5_isState_26
    · obtain ⟨-, h⟩ := h
      specialize h c2
      refine lv_iload_n hx hb dX5_isState_12 rfl (lv_at hl 1 rfl) ?_
      refine lv_aload_n hx hb dX5_isState_13 rfl (lv_at hl 0 rfl) ?_
      refine va_get (D := G) (ci := 4) (v := .ref bF) (C := RX4) (T := TX4) (N := 9) hx hb hts iwX4 hown hK.1 hP 0 rfl rfl 0 (by decide) fl21 (fun _ h9 => h9) rfl dX5_isState_14 ?_
      refine va_alen hx hb hK.1 hP 1 0 rfl rfl (v := 4096) rfl dX5_isState_17 ?_
      refine lv_icmp_ge (tgt := 25) hx hb dX5_isState_18 (by decide) (fun c3 => ?_) (fun c3 => ?_)
      · obtain ⟨h, -⟩ := h
        specialize h c3
        refine lv_iconst (v := 0) hx hb dX5_isState_25 (by decide) ?_
        rw [← hQe]
        exact W.zret (v := 0) hx hb hr rfl (fun t ht hW => ⟨0, rfl, h, ht⟩) (fun q9 h9 => by cases h9) dX5_isState_26
      · obtain ⟨-, h⟩ := h
        specialize h c3
        refine lv_iconst (v := 1) hx hb dX5_isState_21 (by decide) ?_
        refine lv_goto (tgt := 26) hx hb dX5_isState_22 (by decide) ?_
        rw [← hQe]
        exact W.zret (v := 1) hx hb hr rfl (fun t ht hW => ⟨1, rfl, h, ht⟩) (fun q9 h9 => by cases h9) dX5_isState_26

set_option maxHeartbeats 4000000 in
set_option maxRecDepth 100000 in
theorem ct_X5_enter_P (l : Launch) (G : va_G) (cy : Nat → ClassId) (aP bF bL bX bC aN aR : Nat) (sz : Nat) (wSz : Int32) (wTl : Int32) (wFo : Int32) (wCo : Int32) (gF : Nat → Int32) (gL : Nat → Int32) (gX : Nat → Int32) (gC : Nat → Int32) (vn : Int32) (fN : Nat → Int32) (p1 : Int32) (p2 : Int32) (Q : Int32 → (Nat → Int32) → (Nat → Int32) → Prop) (h : wp_X5_enter_P wTl gF gL p1 p2 Q) : Met l yX5_enter wsX5_enter rmX5_enter_P (va_Pc [.ref aP, .int p1, .int p2] (wP G cy sz [(aP, .inr (4, [.ref bF, .ref bL, .ref bX, .ref bC, .int wSz, .int wTl, .int wFo, .ref aN, .int wCo])), (bF, .inl (cy 0, 4096, .inl gF)), (bL, .inl (cy 0, 4096, .inl gL)), (bX, .inl (cy 0, 24, .inl gX)), (bC, .inl (cy 0, 24, .inl gC)), (aN, .inr (3, [.ref aR, .int vn])), (aR, .inl (cy 0, 9, .inl fN))])) (va_Qv (fun (u : Int32 × (Nat → Int32) × (Nat → Int32)) => Q u.1 u.2.1 u.2.2) (fun (u : Int32 × (Nat → Int32) × (Nat → Int32)) (t : State) => va_P G vwCl [(aP, .inr (4, [.ref bF, .ref bL, .ref bX, .ref bC, .int wSz, .int u.1, .int wFo, .ref aN, .int wCo])), (bF, .inl (cy 0, 4096, .inl u.2.1)), (bL, .inl (cy 0, 4096, .inl u.2.2)), (bX, .inl (cy 0, 24, .inl gX)), (bC, .inl (cy 0, 24, .inl gC)), (aN, .inr (3, [.ref aR, .int vn])), (aR, .inl (cy 0, 9, .inl fN))] t.heap) (va_A [(aP, .inr (4, [.ref bF, .ref bL, .ref bX, .ref bC, .int wSz, .int wTl, .int wFo, .ref aN, .int wCo])), (bF, .inl (cy 0, 4096, .inl gF)), (bL, .inl (cy 0, 4096, .inl gL)), (bX, .inl (cy 0, 24, .inl gX)), (bC, .inl (cy 0, 24, .inl gC)), (aN, .inr (3, [.ref aR, .int vn])), (aR, .inl (cy 0, 9, .inl fN))] sz)) 0 0 (va_A [(aP, .inr (4, [.ref bF, .ref bL, .ref bX, .ref bC, .int wSz, .int wTl, .int wFo, .ref aN, .int wCo])), (bF, .inl (cy 0, 4096, .inl gF)), (bL, .inl (cy 0, 4096, .inl gL)), (bX, .inl (cy 0, 24, .inl gX)), (bC, .inl (cy 0, 24, .inl gC)), (aN, .inr (3, [.ref aR, .int vn])), (aR, .inl (cy 0, 9, .inl fN))] sz) := by
  unfold wp_X5_enter_P at h
  refine Met.ofW (cc := cX5_enter) (maxL := 3) (ret := none) (by decide) rfl ?_
  intro p e s m args below meth c s₁ B hml hv
  obtain ⟨hav, hsz, hP, hK, hD0⟩ := hv
  have hx := B.exec
  have hb := B.bytes
  have hr := B.returns
  have hts := atoms_spec (ws := wsX5_enter) B.pre
  have hown : s.vm.findClass RX5 = some m.cls := findClass_of_methodNamed B.named
  have hlocks := B.notSynchronized
  subst hsz
  have hD := hD0.self (sz := s.heap.size)
  generalize hAe : va_A [(aP, .inr (4, [.ref bF, .ref bL, .ref bX, .ref bC, .int wSz, .int wTl, .int wFo, .ref aN, .int wCo])), (bF, .inl (cy 0, 4096, .inl gF)), (bL, .inl (cy 0, 4096, .inl gL)), (bX, .inl (cy 0, 24, .inl gX)), (bC, .inl (cy 0, 24, .inl gC)), (aN, .inr (3, [.ref aR, .int vn])), (aR, .inl (cy 0, 9, .inl fN))] s.heap.size = A at hD ⊢
  have hA : ∀ q : Nat, s.heap.size ≤ q → A q := fun q h9 => by rw [← hAe]; exact Or.inr h9
  have hS : va_S A s.heap s.heap [] := va_S.rf
  have hl := lv_entry ([.ref aP, .int p1, .int p2]) (n := 3) (Nat.le_of_ble_eq_true rfl)
  rw [show entryFrame m args 3 = entryFrame m ([.ref aP, .int p1, .int p2] : List Value).toArray 3 by rw [hav], lg_entry_eq]
  generalize (lg_sl ([.ref aP, .int p1, .int p2]) ++ List.replicate (3 - (lg_sl ([.ref aP, .int p1, .int p2])).length) Slot.unset).toArray = ls at hl ⊢
  have hl : lv_has ls 3 [(0, .ref aP), (1, .int p1), (2, .int p2)] := hl
  generalize hQe : MQ below _ _ _ _ _ _ = QM
  have hP : va_P G vwCl [(aP, .inr (4, [.ref bF, .ref bL, .ref bX, .ref bC, .int wSz, .int wTl, .int wFo, .ref aN, .int wCo])), (bF, .inl (cy 0, 4096, .inl gF)), (bL, .inl (cy 0, 4096, .inl gL)), (bX, .inl (cy 0, 24, .inl gX)), (bC, .inl (cy 0, 24, .inl gC)), (aN, .inr (3, [.ref aR, .int vn])), (aR, .inl (cy 0, 9, .inl fN))] s.heap := hP
  have iwX4 : ∀ w ∈ wsX40, w ∈ wsX5_enter := by decide +kernel
  have fl15 := hts (.fieldLink RX5 15 "SlidTokens$Search" "tail" "I") (by decide +kernel)
  have fl25 := hts (.fieldLink RX5 25 "SlidTokens$Search" "line" "[I") (by decide +kernel)
  have fl21 := hts (.fieldLink RX5 21 "SlidTokens$Search" "far" "[I") (by decide +kernel)
  suffices K9 : ∀ (H : Heap) (locs : List Loc), va_P G vwCl [(aP, .inr (4, [.ref bF, .ref bL, .ref bX, .ref bC, .int wSz, .int wTl, .int wFo, .ref aN, .int wCo])), (bF, .inl (cy 0, 4096, .inl gF)), (bL, .inl (cy 0, 4096, .inl gL)), (bX, .inl (cy 0, 24, .inl gX)), (bC, .inl (cy 0, 24, .inl gC)), (aN, .inr (3, [.ref aR, .int vn])), (aR, .inl (cy 0, 9, .inl fN))] H → va_D A [(aP, .inr (4, [.ref bF, .ref bL, .ref bX, .ref bC, .int wSz, .int wTl, .int wFo, .ref aN, .int wCo])), (bF, .inl (cy 0, 4096, .inl gF)), (bL, .inl (cy 0, 4096, .inl gL)), (bX, .inl (cy 0, 24, .inl gX)), (bC, .inl (cy 0, 24, .inl gC)), (aN, .inr (3, [.ref aR, .int vn])), (aR, .inl (cy 0, 9, .inl fN))] → va_S A s.heap H locs → W p l e (headSpec wsX5_enter rmX5_enter_P).room s m args below meth c H locs 0 0 QM (F0 m 0 ls []) from K9 _ _ hP hD hS
  clear hP hD hS
  intro H locs hP hD hS
  refine lv_aload_n hx hb dX5_enter_0 rfl (lv_at hl 0 rfl) ?_
  refine va_get (D := G) (ci := 4) (v := .int wTl) (C := RX4) (T := TX4) (N := 9) hx hb hts iwX4 hown hK.1 hP 0 rfl rfl 5 (by decide) fl15 (fun _ h9 => h9) rfl dX5_enter_1 ?_
  refine lv_aload_n hx hb dX5_enter_4 rfl (lv_at hl 0 rfl) ?_
  refine va_get (D := G) (ci := 4) (v := .ref bL) (C := RX4) (T := TX4) (N := 9) hx hb hts iwX4 hown hK.1 hP 0 rfl rfl 1 (by decide) fl25 (fun _ h9 => h9) rfl dX5_enter_5 ?_
  refine va_alen hx hb hK.1 hP 2 0 rfl rfl (v := 4096) rfl dX5_enter_8 ?_
  refine lv_icmp_ge (tgt := 39) hx hb dX5_enter_9 (by decide) (fun c1 => ?_) (fun c1 => ?_)
  · obtain ⟨h, -⟩ := h
    specialize h c1
    rw [← hQe]
    exact W.vret hx hb hr (fun t ht hW => ⟨⟨(wTl, gF, gL), rfl, h, by dsimp only; rw [ht]; exact hP⟩, hS.F ht⟩) hS.2.2 dX5_enter_39
  · obtain ⟨-, h⟩ := h
    specialize h c1
    refine lv_aload_n hx hb dX5_enter_12 rfl (lv_at hl 0 rfl) ?_
    refine va_get (D := G) (ci := 4) (v := .ref bF) (C := RX4) (T := TX4) (N := 9) hx hb hts iwX4 hown hK.1 hP 0 rfl rfl 0 (by decide) fl21 (fun _ h9 => h9) rfl dX5_enter_13 ?_
    refine lv_iload_n hx hb dX5_enter_16 rfl (lv_at hl 1 rfl) ?_
    refine lv_iload_n hx hb dX5_enter_17 rfl (lv_at hl 2 rfl) ?_
    obtain ⟨hi, h⟩ := h
    refine va_iast hx hb hK.1 hP hD hS 1 0 rfl rfl hi dX5_enter_18 (fun H locs hP hD hS => ?_)
    obtain ⟨f2, ef2⟩ : ∃ z9 : Nat → Int32, z9 = upd gF (p1 : Int32).toNatClampNeg p2 := ⟨_, rfl⟩
    specialize h f2 ef2
    have hP : va_P G vwCl [(aP, .inr (4, [.ref bF, .ref bL, .ref bX, .ref bC, .int wSz, .int wTl, .int wFo, .ref aN, .int wCo])), (bF, .inl (cy 0, 4096, .inl f2)), (bL, .inl (cy 0, 4096, .inl gL)), (bX, .inl (cy 0, 24, .inl gX)), (bC, .inl (cy 0, 24, .inl gC)), (aN, .inr (3, [.ref aR, .int vn])), (aR, .inl (cy 0, 9, .inl fN))] H := by rw [ef2]; exact hP
    have hD : va_D A [(aP, .inr (4, [.ref bF, .ref bL, .ref bX, .ref bC, .int wSz, .int wTl, .int wFo, .ref aN, .int wCo])), (bF, .inl (cy 0, 4096, .inl f2)), (bL, .inl (cy 0, 4096, .inl gL)), (bX, .inl (cy 0, 24, .inl gX)), (bC, .inl (cy 0, 24, .inl gC)), (aN, .inr (3, [.ref aR, .int vn])), (aR, .inl (cy 0, 9, .inl fN))] := D_same hD rfl
    refine lv_aload_n hx hb dX5_enter_19 rfl (lv_at hl 0 rfl) ?_
    refine va_get (D := G) (ci := 4) (v := .ref bL) (C := RX4) (T := TX4) (N := 9) hx hb hts iwX4 hown hK.1 hP 0 rfl rfl 1 (by decide) fl25 (fun _ h9 => h9) rfl dX5_enter_20 ?_
    refine lv_aload_n hx hb dX5_enter_23 rfl (lv_at hl 0 rfl) ?_
    refine va_get (D := G) (ci := 4) (v := .int wTl) (C := RX4) (T := TX4) (N := 9) hx hb hts iwX4 hown hK.1 hP 0 rfl rfl 5 (by decide) fl15 (fun _ h9 => h9) rfl dX5_enter_24 ?_
    refine lv_iload_n hx hb dX5_enter_27 rfl (lv_at hl 1 rfl) ?_
    obtain ⟨hi, h⟩ := h
    refine va_iast hx hb hK.1 hP hD hS 2 0 rfl rfl hi dX5_enter_28 (fun H locs hP hD hS => ?_)
    obtain ⟨f3, ef3⟩ : ∃ z9 : Nat → Int32, z9 = upd gL (wTl : Int32).toNatClampNeg p1 := ⟨_, rfl⟩
    specialize h f3 ef3
    have hP : va_P G vwCl [(aP, .inr (4, [.ref bF, .ref bL, .ref bX, .ref bC, .int wSz, .int wTl, .int wFo, .ref aN, .int wCo])), (bF, .inl (cy 0, 4096, .inl f2)), (bL, .inl (cy 0, 4096, .inl f3)), (bX, .inl (cy 0, 24, .inl gX)), (bC, .inl (cy 0, 24, .inl gC)), (aN, .inr (3, [.ref aR, .int vn])), (aR, .inl (cy 0, 9, .inl fN))] H := by rw [ef3]; exact hP
    have hD : va_D A [(aP, .inr (4, [.ref bF, .ref bL, .ref bX, .ref bC, .int wSz, .int wTl, .int wFo, .ref aN, .int wCo])), (bF, .inl (cy 0, 4096, .inl f2)), (bL, .inl (cy 0, 4096, .inl f3)), (bX, .inl (cy 0, 24, .inl gX)), (bC, .inl (cy 0, 24, .inl gC)), (aN, .inr (3, [.ref aR, .int vn])), (aR, .inl (cy 0, 9, .inl fN))] := D_same hD rfl
    refine lv_aload_n hx hb dX5_enter_29 rfl (lv_at hl 0 rfl) ?_
    refine lv_dup hx hb dX5_enter_30 rfl ?_
    refine va_get (D := G) (ci := 4) (v := .int wTl) (C := RX4) (T := TX4) (N := 9) hx hb hts iwX4 hown hK.1 hP 0 rfl rfl 5 (by decide) fl15 (fun _ h9 => h9) rfl dX5_enter_31 ?_
    refine lv_iconst (v := 1) hx hb dX5_enter_34 (by decide) ?_
    refine lv_iadd hx hb dX5_enter_35 ?_
    refine lv_topi (fun x4 ex4 => ?_)
    specialize h x4 ex4
    refine va_put (D := G) (ci := 4) (v := .int x4) (ty := .int) (C := RX4) (T := TX4) (N := 9) hx hb hts iwX4 tyX4 tyX4_ok nmX4 hown hK.1 hP hD hS 0 rfl rfl 5 (by decide) fl15 (fun _ h9 => h9) rfl (by decide +kernel) rfl rfl (Nat.le_of_ble_eq_true rfl) dX5_enter_36 (fun H locs hP hD hS => ?_)
    have hP : va_P G vwCl [(aP, .inr (4, [.ref bF, .ref bL, .ref bX, .ref bC, .int wSz, .int x4, .int wFo, .ref aN, .int wCo])), (bF, .inl (cy 0, 4096, .inl f2)), (bL, .inl (cy 0, 4096, .inl f3)), (bX, .inl (cy 0, 24, .inl gX)), (bC, .inl (cy 0, 24, .inl gC)), (aN, .inr (3, [.ref aR, .int vn])), (aR, .inl (cy 0, 9, .inl fN))] H := hP
    have hD : va_D A [(aP, .inr (4, [.ref bF, .ref bL, .ref bX, .ref bC, .int wSz, .int x4, .int wFo, .ref aN, .int wCo])), (bF, .inl (cy 0, 4096, .inl f2)), (bL, .inl (cy 0, 4096, .inl f3)), (bX, .inl (cy 0, 24, .inl gX)), (bC, .inl (cy 0, 24, .inl gC)), (aN, .inr (3, [.ref aR, .int vn])), (aR, .inl (cy 0, 9, .inl fN))] := hD
    rw [← hQe]
    exact W.vret hx hb hr (fun t ht hW => ⟨⟨(x4, f2, f3), rfl, h, by dsimp only; rw [ht]; exact hP⟩, hS.F ht⟩) hS.2.2 dX5_enter_39

set_option maxHeartbeats 4000000 in
set_option maxRecDepth 100000 in
theorem ct_X5_offer_P (l : Launch) (G : va_G) (cy : Nat → ClassId) (aP bF bL bX bC aN aR : Nat) (sz : Nat) (wSz : Int32) (wTl : Int32) (wFo : Int32) (wCo : Int32) (gF : Nat → Int32) (gL : Nat → Int32) (gX : Nat → Int32) (gC : Nat → Int32) (vn : Int32) (fN : Nat → Int32) (p1 : Int32) (p2 : Int32) (Q : Int32 → (Nat → Int32) → (Nat → Int32) → Prop) (h : wp_X5_offer_P wSz wFo gF gX gC p1 p2 Q) : Met l yX5_offer wsX5_offer rmX5_offer_P (va_Pc [.ref aP, .int p1, .int p2] (wP G cy sz [(aP, .inr (4, [.ref bF, .ref bL, .ref bX, .ref bC, .int wSz, .int wTl, .int wFo, .ref aN, .int wCo])), (bF, .inl (cy 0, 4096, .inl gF)), (bL, .inl (cy 0, 4096, .inl gL)), (bX, .inl (cy 0, 24, .inl gX)), (bC, .inl (cy 0, 24, .inl gC)), (aN, .inr (3, [.ref aR, .int vn])), (aR, .inl (cy 0, 9, .inl fN))])) (va_Qv (fun (u : Int32 × (Nat → Int32) × (Nat → Int32)) => Q u.1 u.2.1 u.2.2) (fun (u : Int32 × (Nat → Int32) × (Nat → Int32)) (t : State) => va_P G vwCl [(aP, .inr (4, [.ref bF, .ref bL, .ref bX, .ref bC, .int wSz, .int wTl, .int u.1, .ref aN, .int wCo])), (bF, .inl (cy 0, 4096, .inl gF)), (bL, .inl (cy 0, 4096, .inl gL)), (bX, .inl (cy 0, 24, .inl u.2.1)), (bC, .inl (cy 0, 24, .inl u.2.2)), (aN, .inr (3, [.ref aR, .int vn])), (aR, .inl (cy 0, 9, .inl fN))] t.heap) (va_A [(aP, .inr (4, [.ref bF, .ref bL, .ref bX, .ref bC, .int wSz, .int wTl, .int wFo, .ref aN, .int wCo])), (bF, .inl (cy 0, 4096, .inl gF)), (bL, .inl (cy 0, 4096, .inl gL)), (bX, .inl (cy 0, 24, .inl gX)), (bC, .inl (cy 0, 24, .inl gC)), (aN, .inr (3, [.ref aR, .int vn])), (aR, .inl (cy 0, 9, .inl fN))] sz)) 0 0 (va_A [(aP, .inr (4, [.ref bF, .ref bL, .ref bX, .ref bC, .int wSz, .int wTl, .int wFo, .ref aN, .int wCo])), (bF, .inl (cy 0, 4096, .inl gF)), (bL, .inl (cy 0, 4096, .inl gL)), (bX, .inl (cy 0, 24, .inl gX)), (bC, .inl (cy 0, 24, .inl gC)), (aN, .inr (3, [.ref aR, .int vn])), (aR, .inl (cy 0, 9, .inl fN))] sz) := by
  unfold wp_X5_offer_P at h
  refine Met.ofW (cc := cX5_offer) (maxL := 3) (ret := none) (by decide) rfl ?_
  intro p e s m args below meth c s₁ B hml hv
  obtain ⟨hav, hsz, hP, hK, hD0⟩ := hv
  have hx := B.exec
  have hb := B.bytes
  have hr := B.returns
  have hts := atoms_spec (ws := wsX5_offer) B.pre
  have hown : s.vm.findClass RX5 = some m.cls := findClass_of_methodNamed B.named
  have hlocks := B.notSynchronized
  subst hsz
  have hD := hD0.self (sz := s.heap.size)
  generalize hAe : va_A [(aP, .inr (4, [.ref bF, .ref bL, .ref bX, .ref bC, .int wSz, .int wTl, .int wFo, .ref aN, .int wCo])), (bF, .inl (cy 0, 4096, .inl gF)), (bL, .inl (cy 0, 4096, .inl gL)), (bX, .inl (cy 0, 24, .inl gX)), (bC, .inl (cy 0, 24, .inl gC)), (aN, .inr (3, [.ref aR, .int vn])), (aR, .inl (cy 0, 9, .inl fN))] s.heap.size = A at hD ⊢
  have hA : ∀ q : Nat, s.heap.size ≤ q → A q := fun q h9 => by rw [← hAe]; exact Or.inr h9
  have hS : va_S A s.heap s.heap [] := va_S.rf
  have hl := lv_entry ([.ref aP, .int p1, .int p2]) (n := 3) (Nat.le_of_ble_eq_true rfl)
  rw [show entryFrame m args 3 = entryFrame m ([.ref aP, .int p1, .int p2] : List Value).toArray 3 by rw [hav], lg_entry_eq]
  generalize (lg_sl ([.ref aP, .int p1, .int p2]) ++ List.replicate (3 - (lg_sl ([.ref aP, .int p1, .int p2])).length) Slot.unset).toArray = ls at hl ⊢
  have hl : lv_has ls 3 [(0, .ref aP), (1, .int p1), (2, .int p2)] := hl
  generalize hQe : MQ below _ _ _ _ _ _ = QM
  have hP : va_P G vwCl [(aP, .inr (4, [.ref bF, .ref bL, .ref bX, .ref bC, .int wSz, .int wTl, .int wFo, .ref aN, .int wCo])), (bF, .inl (cy 0, 4096, .inl gF)), (bL, .inl (cy 0, 4096, .inl gL)), (bX, .inl (cy 0, 24, .inl gX)), (bC, .inl (cy 0, 24, .inl gC)), (aN, .inr (3, [.ref aR, .int vn])), (aR, .inl (cy 0, 9, .inl fN))] s.heap := hP
  have iwX4 : ∀ w ∈ wsX40, w ∈ wsX5_offer := by decide +kernel
  have fl21 := hts (.fieldLink RX5 21 "SlidTokens$Search" "far" "[I") (by decide +kernel)
  have fl18 := hts (.fieldLink RX5 18 "SlidTokens$Search" "found" "I") (by decide +kernel)
  have fl28 := hts (.fieldLink RX5 28 "SlidTokens$Search" "next" "[I") (by decide +kernel)
  have fl31 := hts (.fieldLink RX5 31 "SlidTokens$Search" "cost" "[I") (by decide +kernel)
  suffices K9 : ∀ (H : Heap) (locs : List Loc), va_P G vwCl [(aP, .inr (4, [.ref bF, .ref bL, .ref bX, .ref bC, .int wSz, .int wTl, .int wFo, .ref aN, .int wCo])), (bF, .inl (cy 0, 4096, .inl gF)), (bL, .inl (cy 0, 4096, .inl gL)), (bX, .inl (cy 0, 24, .inl gX)), (bC, .inl (cy 0, 24, .inl gC)), (aN, .inr (3, [.ref aR, .int vn])), (aR, .inl (cy 0, 9, .inl fN))] H → va_D A [(aP, .inr (4, [.ref bF, .ref bL, .ref bX, .ref bC, .int wSz, .int wTl, .int wFo, .ref aN, .int wCo])), (bF, .inl (cy 0, 4096, .inl gF)), (bL, .inl (cy 0, 4096, .inl gL)), (bX, .inl (cy 0, 24, .inl gX)), (bC, .inl (cy 0, 24, .inl gC)), (aN, .inr (3, [.ref aR, .int vn])), (aR, .inl (cy 0, 9, .inl fN))] → va_S A s.heap H locs → W p l e (headSpec wsX5_offer rmX5_offer_P).room s m args below meth c H locs 0 0 QM (F0 m 0 ls []) from K9 _ _ hP hD hS
  clear hP hD hS
  intro H locs hP hD hS
  refine lv_aload_n hx hb dX5_offer_0 rfl (lv_at hl 0 rfl) ?_
  refine lv_iload_n hx hb dX5_offer_1 rfl (lv_at hl 1 rfl) ?_
  obtain ⟨Q1, hw9, h⟩ := h
  have hPc : va_P G vwCl [(aP, .inr (4, [.ref bF, .ref bL, .ref bX, .ref bC, .int wSz, .int wTl, .int wFo, .ref aN, .int wCo])), (bF, .inl (cy 0, 4096, .inl gF)), (bL, .inl (cy 0, 4096, .inl gL)), (bX, .inl (cy 0, 24, .inl gX)), (bC, .inl (cy 0, 24, .inl gC)), (aN, .inr (3, [.ref aR, .int vn])), (aR, .inl (cy 0, 9, .inl fN))] H := hP.sub [0, 1, 2, 3, 4, 5, 6] rfl
  refine vp_callSi (va_Run.run (va_runU (As := [.int p1]) (rest := []) ⟨hx, hb, hml, hown, hts⟩ (ct_X5_isState_P l G cy aP bF bL bX bC aN aR wSz wTl wFo wCo gF gL gX gC vn fN p1 Q1 hw9) (va_cwU 1 hts gX5_offer_X5_isState_u34X4 rfl rfl rfl rfl (by decide +kernel) ⟨Nat.le_of_ble_eq_true rfl, Nat.le_of_ble_eq_true rfl⟩) (rP_V hK hP (ci := 4) (q0 := 0) rfl rfl hPc) rfl rfl hl.1 rfl (lv_room (Nat.le_of_ble_eq_true rfl)) dX5_offer_2 ⟨Nat.le_of_ble_eq_true rfl, Nat.le_of_ble_eq_true rfl⟩)) (fun r2 er2 => ?_)
  specialize h r2 er2
  refine lv_if_eq (tgt := 61) hx hb dX5_offer_5 (by decide) (fun c3 => ?_) (fun c3 => ?_)
  · obtain ⟨h, -⟩ := h
    specialize h c3
    rw [← hQe]
    exact W.vret hx hb hr (fun t ht hW => ⟨⟨(wFo, gX, gC), rfl, h, by dsimp only; rw [ht]; exact hP⟩, hS.F ht⟩) hS.2.2 dX5_offer_61
  · obtain ⟨-, h⟩ := h
    specialize h c3
    refine lv_aload_n hx hb dX5_offer_8 rfl (lv_at hl 0 rfl) ?_
    refine va_get (D := G) (ci := 4) (v := .ref bF) (C := RX4) (T := TX4) (N := 9) hx hb hts iwX4 hown hK.1 hP 0 rfl rfl 0 (by decide) fl21 (fun _ h9 => h9) rfl dX5_offer_9 ?_
    refine lv_iload_n hx hb dX5_offer_12 rfl (lv_at hl 1 rfl) ?_
    obtain ⟨hi, h⟩ := h
    refine va_iald hx hb hK.1 hP 1 0 rfl rfl hi dX5_offer_13 ?_
    refine lv_bipush (v := (-2)) hx hb dX5_offer_14 (by decide) ?_
    refine lv_icmp_eq (tgt := 61) hx hb dX5_offer_16 (by decide) (fun c4 => ?_) (fun c4 => ?_)
    · obtain ⟨h, -⟩ := h
      specialize h c4
      rw [← hQe]
      exact W.vret hx hb hr (fun t ht hW => ⟨⟨(wFo, gX, gC), rfl, h, by dsimp only; rw [ht]; exact hP⟩, hS.F ht⟩) hS.2.2 dX5_offer_61
    · obtain ⟨-, h⟩ := h
      specialize h c4
      refine lv_aload_n hx hb dX5_offer_19 rfl (lv_at hl 0 rfl) ?_
      refine va_get (D := G) (ci := 4) (v := .int wFo) (C := RX4) (T := TX4) (N := 9) hx hb hts iwX4 hown hK.1 hP 0 rfl rfl 6 (by decide) fl18 (fun _ h9 => h9) rfl dX5_offer_20 ?_
      refine lv_aload_n hx hb dX5_offer_23 rfl (lv_at hl 0 rfl) ?_
      refine va_get (D := G) (ci := 4) (v := .ref bX) (C := RX4) (T := TX4) (N := 9) hx hb hts iwX4 hown hK.1 hP 0 rfl rfl 2 (by decide) fl28 (fun _ h9 => h9) rfl dX5_offer_24 ?_
      refine va_alen hx hb hK.1 hP 3 0 rfl rfl (v := 24) rfl dX5_offer_27 ?_
      refine lv_icmp_ge (tgt := 61) hx hb dX5_offer_28 (by decide) (fun c5 => ?_) (fun c5 => ?_)
      · obtain ⟨h, -⟩ := h
        specialize h c5
        rw [← hQe]
        exact W.vret hx hb hr (fun t ht hW => ⟨⟨(wFo, gX, gC), rfl, h, by dsimp only; rw [ht]; exact hP⟩, hS.F ht⟩) hS.2.2 dX5_offer_61
      · obtain ⟨-, h⟩ := h
        specialize h c5
        refine lv_aload_n hx hb dX5_offer_31 rfl (lv_at hl 0 rfl) ?_
        refine va_get (D := G) (ci := 4) (v := .ref bX) (C := RX4) (T := TX4) (N := 9) hx hb hts iwX4 hown hK.1 hP 0 rfl rfl 2 (by decide) fl28 (fun _ h9 => h9) rfl dX5_offer_32 ?_
        refine lv_aload_n hx hb dX5_offer_35 rfl (lv_at hl 0 rfl) ?_
        refine va_get (D := G) (ci := 4) (v := .int wFo) (C := RX4) (T := TX4) (N := 9) hx hb hts iwX4 hown hK.1 hP 0 rfl rfl 6 (by decide) fl18 (fun _ h9 => h9) rfl dX5_offer_36 ?_
        refine lv_iload_n hx hb dX5_offer_39 rfl (lv_at hl 1 rfl) ?_
        obtain ⟨hi, h⟩ := h
        refine va_iast hx hb hK.1 hP hD hS 3 0 rfl rfl hi dX5_offer_40 (fun H locs hP hD hS => ?_)
        obtain ⟨f6, ef6⟩ : ∃ z9 : Nat → Int32, z9 = upd gX (wFo : Int32).toNatClampNeg p1 := ⟨_, rfl⟩
        specialize h f6 ef6
        have hP : va_P G vwCl [(aP, .inr (4, [.ref bF, .ref bL, .ref bX, .ref bC, .int wSz, .int wTl, .int wFo, .ref aN, .int wCo])), (bF, .inl (cy 0, 4096, .inl gF)), (bL, .inl (cy 0, 4096, .inl gL)), (bX, .inl (cy 0, 24, .inl f6)), (bC, .inl (cy 0, 24, .inl gC)), (aN, .inr (3, [.ref aR, .int vn])), (aR, .inl (cy 0, 9, .inl fN))] H := by rw [ef6]; exact hP
        have hD : va_D A [(aP, .inr (4, [.ref bF, .ref bL, .ref bX, .ref bC, .int wSz, .int wTl, .int wFo, .ref aN, .int wCo])), (bF, .inl (cy 0, 4096, .inl gF)), (bL, .inl (cy 0, 4096, .inl gL)), (bX, .inl (cy 0, 24, .inl f6)), (bC, .inl (cy 0, 24, .inl gC)), (aN, .inr (3, [.ref aR, .int vn])), (aR, .inl (cy 0, 9, .inl fN))] := D_same hD rfl
        refine lv_aload_n hx hb dX5_offer_41 rfl (lv_at hl 0 rfl) ?_
        refine va_get (D := G) (ci := 4) (v := .ref bC) (C := RX4) (T := TX4) (N := 9) hx hb hts iwX4 hown hK.1 hP 0 rfl rfl 3 (by decide) fl31 (fun _ h9 => h9) rfl dX5_offer_42 ?_
        refine lv_aload_n hx hb dX5_offer_45 rfl (lv_at hl 0 rfl) ?_
        refine va_get (D := G) (ci := 4) (v := .int wFo) (C := RX4) (T := TX4) (N := 9) hx hb hts iwX4 hown hK.1 hP 0 rfl rfl 6 (by decide) fl18 (fun _ h9 => h9) rfl dX5_offer_46 ?_
        refine lv_iload_n hx hb dX5_offer_49 rfl (lv_at hl 2 rfl) ?_
        obtain ⟨hi, h⟩ := h
        refine va_iast hx hb hK.1 hP hD hS 4 0 rfl rfl hi dX5_offer_50 (fun H locs hP hD hS => ?_)
        obtain ⟨f7, ef7⟩ : ∃ z9 : Nat → Int32, z9 = upd gC (wFo : Int32).toNatClampNeg p2 := ⟨_, rfl⟩
        specialize h f7 ef7
        have hP : va_P G vwCl [(aP, .inr (4, [.ref bF, .ref bL, .ref bX, .ref bC, .int wSz, .int wTl, .int wFo, .ref aN, .int wCo])), (bF, .inl (cy 0, 4096, .inl gF)), (bL, .inl (cy 0, 4096, .inl gL)), (bX, .inl (cy 0, 24, .inl f6)), (bC, .inl (cy 0, 24, .inl f7)), (aN, .inr (3, [.ref aR, .int vn])), (aR, .inl (cy 0, 9, .inl fN))] H := by rw [ef7]; exact hP
        have hD : va_D A [(aP, .inr (4, [.ref bF, .ref bL, .ref bX, .ref bC, .int wSz, .int wTl, .int wFo, .ref aN, .int wCo])), (bF, .inl (cy 0, 4096, .inl gF)), (bL, .inl (cy 0, 4096, .inl gL)), (bX, .inl (cy 0, 24, .inl f6)), (bC, .inl (cy 0, 24, .inl f7)), (aN, .inr (3, [.ref aR, .int vn])), (aR, .inl (cy 0, 9, .inl fN))] := D_same hD rfl
        refine lv_aload_n hx hb dX5_offer_51 rfl (lv_at hl 0 rfl) ?_
        refine lv_dup hx hb dX5_offer_52 rfl ?_
        refine va_get (D := G) (ci := 4) (v := .int wFo) (C := RX4) (T := TX4) (N := 9) hx hb hts iwX4 hown hK.1 hP 0 rfl rfl 6 (by decide) fl18 (fun _ h9 => h9) rfl dX5_offer_53 ?_
        refine lv_iconst (v := 1) hx hb dX5_offer_56 (by decide) ?_
        refine lv_iadd hx hb dX5_offer_57 ?_
        refine lv_topi (fun x8 ex8 => ?_)
        specialize h x8 ex8
        refine va_put (D := G) (ci := 4) (v := .int x8) (ty := .int) (C := RX4) (T := TX4) (N := 9) hx hb hts iwX4 tyX4 tyX4_ok nmX4 hown hK.1 hP hD hS 0 rfl rfl 6 (by decide) fl18 (fun _ h9 => h9) rfl (by decide +kernel) rfl rfl (Nat.le_of_ble_eq_true rfl) dX5_offer_58 (fun H locs hP hD hS => ?_)
        have hP : va_P G vwCl [(aP, .inr (4, [.ref bF, .ref bL, .ref bX, .ref bC, .int wSz, .int wTl, .int x8, .ref aN, .int wCo])), (bF, .inl (cy 0, 4096, .inl gF)), (bL, .inl (cy 0, 4096, .inl gL)), (bX, .inl (cy 0, 24, .inl f6)), (bC, .inl (cy 0, 24, .inl f7)), (aN, .inr (3, [.ref aR, .int vn])), (aR, .inl (cy 0, 9, .inl fN))] H := hP
        have hD : va_D A [(aP, .inr (4, [.ref bF, .ref bL, .ref bX, .ref bC, .int wSz, .int wTl, .int x8, .ref aN, .int wCo])), (bF, .inl (cy 0, 4096, .inl gF)), (bL, .inl (cy 0, 4096, .inl gL)), (bX, .inl (cy 0, 24, .inl f6)), (bC, .inl (cy 0, 24, .inl f7)), (aN, .inr (3, [.ref aR, .int vn])), (aR, .inl (cy 0, 9, .inl fN))] := hD
        rw [← hQe]
        exact W.vret hx hb hr (fun t ht hW => ⟨⟨(x8, f6, f7), rfl, h, by dsimp only; rw [ht]; exact hP⟩, hS.F ht⟩) hS.2.2 dX5_offer_61

set_option maxHeartbeats 4000000 in
set_option maxRecDepth 100000 in
theorem ct_X4_gather (l : Launch) (G : va_G) (cy : Nat → ClassId) (aP bF bL bX bC aN aR : Nat) (sz : Nat) (wSz : Int32) (wTl : Int32) (wFo : Int32) (wCo : Int32) (gF : Nat → Int32) (gL : Nat → Int32) (gX : Nat → Int32) (gC : Nat → Int32) (vn : Int32) (fN : Nat → Int32) (p1 : Int32) (Q : Int32 → (Nat → Int32) → (Nat → Int32) → Prop) (h : wp_X4_gather wSz wFo wCo gF gX gC vn p1 Q) : Met l yX4_gather wsX4_gather rmX4_gather (va_Pc [.ref aP, .int p1] (wP G cy sz [(aP, .inr (4, [.ref bF, .ref bL, .ref bX, .ref bC, .int wSz, .int wTl, .int wFo, .ref aN, .int wCo])), (bF, .inl (cy 0, 4096, .inl gF)), (bL, .inl (cy 0, 4096, .inl gL)), (bX, .inl (cy 0, 24, .inl gX)), (bC, .inl (cy 0, 24, .inl gC)), (aN, .inr (3, [.ref aR, .int vn])), (aR, .inl (cy 0, 9, .inl fN))])) (va_Qv (fun (u : Int32 × (Nat → Int32) × (Nat → Int32)) => Q u.1 u.2.1 u.2.2) (fun (u : Int32 × (Nat → Int32) × (Nat → Int32)) (t : State) => va_P G vwCl [(aP, .inr (4, [.ref bF, .ref bL, .ref bX, .ref bC, .int wSz, .int wTl, .int u.1, .ref aN, .int wCo])), (bF, .inl (cy 0, 4096, .inl gF)), (bL, .inl (cy 0, 4096, .inl gL)), (bX, .inl (cy 0, 24, .inl u.2.1)), (bC, .inl (cy 0, 24, .inl u.2.2)), (aN, .inr (3, [.ref aR, .int vn])), (aR, .inl (cy 0, 9, .inl fN))] t.heap) (va_A [(aP, .inr (4, [.ref bF, .ref bL, .ref bX, .ref bC, .int wSz, .int wTl, .int wFo, .ref aN, .int wCo])), (bF, .inl (cy 0, 4096, .inl gF)), (bL, .inl (cy 0, 4096, .inl gL)), (bX, .inl (cy 0, 24, .inl gX)), (bC, .inl (cy 0, 24, .inl gC)), (aN, .inr (3, [.ref aR, .int vn])), (aR, .inl (cy 0, 9, .inl fN))] sz)) 0 0 (va_A [(aP, .inr (4, [.ref bF, .ref bL, .ref bX, .ref bC, .int wSz, .int wTl, .int wFo, .ref aN, .int wCo])), (bF, .inl (cy 0, 4096, .inl gF)), (bL, .inl (cy 0, 4096, .inl gL)), (bX, .inl (cy 0, 24, .inl gX)), (bC, .inl (cy 0, 24, .inl gC)), (aN, .inr (3, [.ref aR, .int vn])), (aR, .inl (cy 0, 9, .inl fN))] sz) := by
  unfold wp_X4_gather at h
  refine Met.ofW (cc := cX4_gather) (maxL := 6) (ret := none) (by decide) rfl ?_
  intro p e s m args below meth c s₁ B hml hv
  obtain ⟨hav, hsz, hP, hK, hD0⟩ := hv
  have hx := B.exec
  have hb := B.bytes
  have hr := B.returns
  have hts := atoms_spec (ws := wsX4_gather) B.pre
  have hown : s.vm.findClass RX4 = some m.cls := findClass_of_methodNamed B.named
  have hlocks := B.notSynchronized
  subst hsz
  have hD := hD0.self (sz := s.heap.size)
  generalize hAe : va_A [(aP, .inr (4, [.ref bF, .ref bL, .ref bX, .ref bC, .int wSz, .int wTl, .int wFo, .ref aN, .int wCo])), (bF, .inl (cy 0, 4096, .inl gF)), (bL, .inl (cy 0, 4096, .inl gL)), (bX, .inl (cy 0, 24, .inl gX)), (bC, .inl (cy 0, 24, .inl gC)), (aN, .inr (3, [.ref aR, .int vn])), (aR, .inl (cy 0, 9, .inl fN))] s.heap.size = A at hD ⊢
  have hA : ∀ q : Nat, s.heap.size ≤ q → A q := fun q h9 => by rw [← hAe]; exact Or.inr h9
  have hS : va_S A s.heap s.heap [] := va_S.rf
  have hl := lv_entry ([.ref aP, .int p1]) (n := 6) (Nat.le_of_ble_eq_true rfl)
  rw [show entryFrame m args 6 = entryFrame m ([.ref aP, .int p1] : List Value).toArray 6 by rw [hav], lg_entry_eq]
  generalize (lg_sl ([.ref aP, .int p1]) ++ List.replicate (6 - (lg_sl ([.ref aP, .int p1])).length) Slot.unset).toArray = ls at hl ⊢
  have hl : lv_has ls 6 [(0, .ref aP), (1, .int p1)] := hl
  generalize hQe : MQ below _ _ _ _ _ _ = QM
  have hP : va_P G vwCl [(aP, .inr (4, [.ref bF, .ref bL, .ref bX, .ref bC, .int wSz, .int wTl, .int wFo, .ref aN, .int wCo])), (bF, .inl (cy 0, 4096, .inl gF)), (bL, .inl (cy 0, 4096, .inl gL)), (bX, .inl (cy 0, 24, .inl gX)), (bC, .inl (cy 0, 24, .inl gC)), (aN, .inr (3, [.ref aR, .int vn])), (aR, .inl (cy 0, 9, .inl fN))] s.heap := hP
  have iwX4 : ∀ w ∈ wsX40, w ∈ wsX4_gather := by decide +kernel
  have fl57 := hts (.fieldLink RX4 57 "SlidTokens$Paints" "found" "I") (by decide +kernel)
  have sf57 := hts (.sameField "SlidTokens$Paints" "SlidTokens$Search" "found" "I") (by decide +kernel)
  have fl15 := hts (.fieldLink RX4 15 "SlidTokens$Paints" "net" "LSlidTokens$Net;") (by decide +kernel)
  have iwX3 : ∀ w ∈ wsX30, w ∈ wsX4_gather := by decide +kernel
  have fl19 := hts (.fieldLink RX4 19 "SlidTokens$Net" "nodes" "I") (by decide +kernel)
  have fl9 := hts (.fieldLink RX4 9 "SlidTokens$Paints" "colours" "I") (by decide +kernel)
  suffices K9 : ∀ (H : Heap) (locs : List Loc), va_P G vwCl [(aP, .inr (4, [.ref bF, .ref bL, .ref bX, .ref bC, .int wSz, .int wTl, .int wFo, .ref aN, .int wCo])), (bF, .inl (cy 0, 4096, .inl gF)), (bL, .inl (cy 0, 4096, .inl gL)), (bX, .inl (cy 0, 24, .inl gX)), (bC, .inl (cy 0, 24, .inl gC)), (aN, .inr (3, [.ref aR, .int vn])), (aR, .inl (cy 0, 9, .inl fN))] H → va_D A [(aP, .inr (4, [.ref bF, .ref bL, .ref bX, .ref bC, .int wSz, .int wTl, .int wFo, .ref aN, .int wCo])), (bF, .inl (cy 0, 4096, .inl gF)), (bL, .inl (cy 0, 4096, .inl gL)), (bX, .inl (cy 0, 24, .inl gX)), (bC, .inl (cy 0, 24, .inl gC)), (aN, .inr (3, [.ref aR, .int vn])), (aR, .inl (cy 0, 9, .inl fN))] → va_S A s.heap H locs → W p l e (headSpec wsX4_gather rmX4_gather).room s m args below meth c H locs 0 0 QM (F0 m 0 ls []) from K9 _ _ hP hD hS
  clear hP hD hS
  intro H locs hP hD hS
  refine lv_aload_n hx hb dX4_gather_0 rfl (lv_at hl 0 rfl) ?_
  refine lv_iconst (v := 0) hx hb dX4_gather_1 (by decide) ?_
  refine va_put (D := G) (ci := 4) (v := .int 0) (ty := .int) (C := RX4) (T := TX4) (N := 9) hx hb hts iwX4 tyX4 tyX4_ok nmX4 hown hK.1 hP hD hS 0 rfl rfl 6 (by decide) fl57 (fun x9 h9 => u_same sf57 x9 h9) rfl (by decide +kernel) rfl rfl (Nat.le_of_ble_eq_true rfl) dX4_gather_2 (fun H locs hP hD hS => ?_)
  have hP : va_P G vwCl [(aP, .inr (4, [.ref bF, .ref bL, .ref bX, .ref bC, .int wSz, .int wTl, .int 0, .ref aN, .int wCo])), (bF, .inl (cy 0, 4096, .inl gF)), (bL, .inl (cy 0, 4096, .inl gL)), (bX, .inl (cy 0, 24, .inl gX)), (bC, .inl (cy 0, 24, .inl gC)), (aN, .inr (3, [.ref aR, .int vn])), (aR, .inl (cy 0, 9, .inl fN))] H := hP
  have hD : va_D A [(aP, .inr (4, [.ref bF, .ref bL, .ref bX, .ref bC, .int wSz, .int wTl, .int 0, .ref aN, .int wCo])), (bF, .inl (cy 0, 4096, .inl gF)), (bL, .inl (cy 0, 4096, .inl gL)), (bX, .inl (cy 0, 24, .inl gX)), (bC, .inl (cy 0, 24, .inl gC)), (aN, .inr (3, [.ref aR, .int vn])), (aR, .inl (cy 0, 9, .inl fN))] := hD
  refine lv_iconst (v := 0) hx hb dX4_gather_5 (by decide) ?_
  refine lv_istore_n (lv' := [(2, .int 0), (0, .ref aP), (1, .int p1)]) hx hb dX4_gather_6 rfl hl (by decide) rfl (fun ls hl => ?_)
  obtain ⟨I7_4, u7_4, h07, hst7⟩ := h
  have key7 : ∀ (k9 : Nat) (y1 : Int32) (z2 : Int32) (f3 : Nat → Int32) (f4 : Nat → Int32), I7_4 y1 z2 f3 f4 → u7_4 y1 z2 f3 f4 < k9 → ∀ (H : Heap) (locs : List Loc), va_P G vwCl [(aP, .inr (4, [.ref bF, .ref bL, .ref bX, .ref bC, .int wSz, .int wTl, .int z2, .ref aN, .int wCo])), (bF, .inl (cy 0, 4096, .inl gF)), (bL, .inl (cy 0, 4096, .inl gL)), (bX, .inl (cy 0, 24, .inl f3)), (bC, .inl (cy 0, 24, .inl f4)), (aN, .inr (3, [.ref aR, .int vn])), (aR, .inl (cy 0, 9, .inl fN))] H → va_D A [(aP, .inr (4, [.ref bF, .ref bL, .ref bX, .ref bC, .int wSz, .int wTl, .int z2, .ref aN, .int wCo])), (bF, .inl (cy 0, 4096, .inl gF)), (bL, .inl (cy 0, 4096, .inl gL)), (bX, .inl (cy 0, 24, .inl f3)), (bC, .inl (cy 0, 24, .inl f4)), (aN, .inr (3, [.ref aR, .int vn])), (aR, .inl (cy 0, 9, .inl fN))] → va_S A s.heap H locs → ∀ (ls : Array Slot), lv_has ls 6 [(0, .ref aP), (1, .int p1), (2, .int y1)] → W p l e (headSpec wsX4_gather rmX4_gather).room s m args below meth c H locs 0 0 QM (F0 m 7 ls []) := by
    intro k9
    induction k9 with
    | zero =>
      intro y1 z2 f3 f4 hI9 hk9
      exact absurd hk9 (Nat.not_lt_zero _)
    | succ k9 ih7 =>
      intro y1 z2 f3 f4 hI9 hk7 H locs hP hD hS ls hl
      have h := hst7 y1 z2 f3 f4 hI9
      refine lv_iload_n hx hb dX4_gather_7 rfl (lv_at hl 2 rfl) ?_
      refine lv_aload_n hx hb dX4_gather_8 rfl (lv_at hl 0 rfl) ?_
      refine va_get (D := G) (ci := 4) (v := .ref aN) (C := RX4) (T := TX4) (N := 9) hx hb hts iwX4 hown hK.1 hP 0 rfl rfl 7 (by decide) fl15 (fun _ h9 => h9) rfl dX4_gather_9 ?_
      refine va_get (D := G) (ci := 3) (v := .int vn) (C := RX3) (T := TX3) (N := 2) hx hb hts iwX3 hown hK.1 hP 5 rfl rfl 1 (by decide) fl19 (fun _ h9 => h9) rfl dX4_gather_12 ?_
      refine lv_icmp_ge (tgt := 75) hx hb dX4_gather_15 (by decide) (fun c5 => ?_) (fun c5 => ?_)
      · obtain ⟨h, -⟩ := h
        specialize h c5
        rw [← hQe]
        exact W.vret hx hb hr (fun t ht hW => ⟨⟨(z2, f3, f4), rfl, h, by dsimp only; rw [ht]; exact hP⟩, hS.F ht⟩) hS.2.2 dX4_gather_75
      · obtain ⟨-, h⟩ := h
        specialize h c5
        refine lv_iload_n hx hb dX4_gather_18 rfl (lv_at hl 1 rfl) ?_
        refine lv_iconst (v := 3) hx hb dX4_gather_19 (by decide) ?_
        refine lv_iconst (v := 2) hx hb dX4_gather_20 (by decide) ?_
        refine lv_iload_n hx hb dX4_gather_21 rfl (lv_at hl 2 rfl) ?_
        refine lv_imul hx hb dX4_gather_22 ?_
        refine lv_ishl hx hb dX4_gather_23 ?_
        refine lv_iconst (v := (-1)) hx hb dX4_gather_24 (by decide) ?_
        refine lv_ixor hx hb dX4_gather_25 ?_
        refine lv_iand hx hb dX4_gather_26 ?_
        refine lv_topi (fun x6 ex6 => ?_)
        specialize h x6 ex6
        refine lv_istore_n (lv' := [(3, .int x6), (0, .ref aP), (1, .int p1), (2, .int y1)]) hx hb dX4_gather_27 rfl hl (by decide) rfl (fun ls hl => ?_)
        refine lv_iconst (v := 0) hx hb dX4_gather_28 (by decide) ?_
        refine lv_istore (lv' := [(4, .int 0), (3, .int x6), (0, .ref aP), (1, .int p1), (2, .int y1)]) hx hb dX4_gather_29 hl (by decide) rfl (fun ls hl => ?_)
        obtain ⟨I31_10, u31_10, h031, hst31⟩ := h
        have key31 : ∀ (k9 : Nat) (y7 : Int32) (z8 : Int32) (f9 : Nat → Int32) (f10 : Nat → Int32), I31_10 y7 z8 f9 f10 → u31_10 y7 z8 f9 f10 < k9 → ∀ (H : Heap) (locs : List Loc), va_P G vwCl [(aP, .inr (4, [.ref bF, .ref bL, .ref bX, .ref bC, .int wSz, .int wTl, .int z8, .ref aN, .int wCo])), (bF, .inl (cy 0, 4096, .inl gF)), (bL, .inl (cy 0, 4096, .inl gL)), (bX, .inl (cy 0, 24, .inl f9)), (bC, .inl (cy 0, 24, .inl f10)), (aN, .inr (3, [.ref aR, .int vn])), (aR, .inl (cy 0, 9, .inl fN))] H → va_D A [(aP, .inr (4, [.ref bF, .ref bL, .ref bX, .ref bC, .int wSz, .int wTl, .int z8, .ref aN, .int wCo])), (bF, .inl (cy 0, 4096, .inl gF)), (bL, .inl (cy 0, 4096, .inl gL)), (bX, .inl (cy 0, 24, .inl f9)), (bC, .inl (cy 0, 24, .inl f10)), (aN, .inr (3, [.ref aR, .int vn])), (aR, .inl (cy 0, 9, .inl fN))] → va_S A s.heap H locs → ∀ (ls : Array Slot), lv_has ls 6 [(0, .ref aP), (1, .int p1), (2, .int y1), (3, .int x6), (4, .int y7)] → W p l e (headSpec wsX4_gather rmX4_gather).room s m args below meth c H locs 0 0 QM (F0 m 31 ls []) := by
          intro k9
          induction k9 with
          | zero =>
            intro y7 z8 f9 f10 hI9 hk9
            exact absurd hk9 (Nat.not_lt_zero _)
          | succ k9 ih31 =>
            intro y7 z8 f9 f10 hI9 hk31 H locs hP hD hS ls hl
            have h := hst31 y7 z8 f9 f10 hI9
            refine lv_iload hx hb dX4_gather_31 (lv_at hl 4 rfl) ?_
            refine lv_aload_n hx hb dX4_gather_33 rfl (lv_at hl 0 rfl) ?_
            refine va_get (D := G) (ci := 4) (v := .int wCo) (C := RX4) (T := TX4) (N := 9) hx hb hts iwX4 hown hK.1 hP 0 rfl rfl 8 (by decide) fl9 (fun _ h9 => h9) rfl dX4_gather_34 ?_
            refine lv_icmp_ge (tgt := 69) hx hb dX4_gather_37 (by decide) (fun c11 => ?_) (fun c11 => ?_)
            · obtain ⟨h, -⟩ := h
              specialize h c11
              obtain ⟨x12, ex12⟩ : ∃ y : Int32, y = y1 + 1 := ⟨_, rfl⟩
              specialize h x12 ex12
              refine lv_iinc (v := x12) (lv' := [(2, .int x12), (0, .ref aP), (1, .int p1), (3, .int x6), (4, .int y7)]) hx hb dX4_gather_69 hl (k := 2) rfl (by rw [ex12]; rfl) (by decide) rfl (fun ls hl => ?_)
              refine lv_goto (tgt := 7) hx hb dX4_gather_72 (by decide) ?_
              exact ih7 x12 z8 f9 f10 h.1 (Nat.lt_of_lt_of_le h.2 (Nat.le_of_lt_succ hk7)) _ _ hP hD hS _ (lv_sub hl [1, 2, 0] rfl)
            · obtain ⟨-, h⟩ := h
              specialize h c11
              refine lv_iload_n hx hb dX4_gather_40 rfl (lv_at hl 3 rfl) ?_
              refine lv_iload hx hb dX4_gather_41 (lv_at hl 4 rfl) ?_
              refine lv_iconst (v := 2) hx hb dX4_gather_43 (by decide) ?_
              refine lv_iload_n hx hb dX4_gather_44 rfl (lv_at hl 2 rfl) ?_
              refine lv_imul hx hb dX4_gather_45 ?_
              refine lv_ishl hx hb dX4_gather_46 ?_
              refine lv_ior hx hb dX4_gather_47 ?_
              refine lv_topi (fun x13 ex13 => ?_)
              specialize h x13 ex13
              refine lv_istore (lv' := [(5, .int x13), (0, .ref aP), (1, .int p1), (2, .int y1), (3, .int x6), (4, .int y7)]) hx hb dX4_gather_48 hl (by decide) rfl (fun ls hl => ?_)
              refine lv_iload hx hb dX4_gather_50 (lv_at hl 0 rfl) ?_
              refine lv_iload_n hx hb dX4_gather_52 rfl (lv_at hl 2 rfl) ?_
              refine lv_icmp_eq (tgt := 63) hx hb dX4_gather_53 (by decide) (fun c14 => ?_) (fun c14 => ?_)
              · obtain ⟨h, -⟩ := h
                specialize h c14
                obtain ⟨x15, ex15⟩ : ∃ y : Int32, y = y7 + 1 := ⟨_, rfl⟩
                specialize h x15 ex15
                refine lv_iinc (v := x15) (lv' := [(4, .int x15), (5, .int x13), (0, .ref aP), (1, .int p1), (2, .int y1), (3, .int x6)]) hx hb dX4_gather_63 hl (k := 5) rfl (by rw [ex15]; rfl) (by decide) rfl (fun ls hl => ?_)
                refine lv_goto (tgt := 31) hx hb dX4_gather_66 (by decide) ?_
                exact ih31 x15 z8 f9 f10 h.1 (Nat.lt_of_lt_of_le h.2 (Nat.le_of_lt_succ hk31)) _ _ hP hD hS _ (lv_sub hl [2, 3, 4, 5, 0] rfl)
              · obtain ⟨-, h⟩ := h
                specialize h c14
                refine lv_aload_n hx hb dX4_gather_56 rfl (lv_at hl 1 rfl) ?_
                refine lv_iload hx hb dX4_gather_57 (lv_at hl 0 rfl) ?_
                refine lv_iconst (v := 1) hx hb dX4_gather_59 (by decide) ?_
                obtain ⟨Q16, hw9, h⟩ := h
                have hPc : va_P G vwCl [(aP, .inr (4, [.ref bF, .ref bL, .ref bX, .ref bC, .int wSz, .int wTl, .int z8, .ref aN, .int wCo])), (bF, .inl (cy 0, 4096, .inl gF)), (bL, .inl (cy 0, 4096, .inl gL)), (bX, .inl (cy 0, 24, .inl f9)), (bC, .inl (cy 0, 24, .inl f10)), (aN, .inr (3, [.ref aR, .int vn])), (aR, .inl (cy 0, 9, .inl fN))] H := hP.sub [0, 1, 2, 3, 4, 5, 6] rfl
                have hDc : va_D A [(aP, .inr (4, [.ref bF, .ref bL, .ref bX, .ref bC, .int wSz, .int wTl, .int z8, .ref aN, .int wCo])), (bF, .inl (cy 0, 4096, .inl gF)), (bL, .inl (cy 0, 4096, .inl gL)), (bX, .inl (cy 0, 24, .inl f9)), (bC, .inl (cy 0, 24, .inl f10)), (aN, .inr (3, [.ref aR, .int vn])), (aR, .inl (cy 0, 9, .inl fN))] := hD.sub [0, 1, 2, 3, 4, 5, 6] (by decide) rfl
                have hFc := va_free (wc := [(aP, .inr (4, [.ref bF, .ref bL, .ref bX, .ref bC, .int wSz, .int wTl, .int z8, .ref aN, .int wCo])), (bF, .inl (cy 0, 4096, .inl gF)), (bL, .inl (cy 0, 4096, .inl gL)), (bX, .inl (cy 0, 24, .inl f9)), (bC, .inl (cy 0, 24, .inl f10)), (aN, .inr (3, [.ref aR, .int vn])), (aR, .inl (cy 0, 9, .inl fN))]) hD hS hA [0, 1, 2, 3, 4, 5, 6] rfl
                refine va_callv (va_runU (As := [.int x13, .int 1]) (rest := []) ⟨hx, hb, hml, hown, hts⟩ (ct_X5_offer_P l G cy aP bF bL bX bC aN aR H.size wSz wTl z8 wCo gF gL f9 f10 vn fN x13 1 Q16 hw9) (va_cwU 2 hts gX4_gather_X5_offer_u60X4 rfl rfl rfl rfl (by decide +kernel) ⟨Nat.le_of_ble_eq_true rfl, Nat.le_of_ble_eq_true rfl⟩) (wP_V hK hP (ci := 4) (q0 := 0) rfl rfl hPc hDc) rfl rfl hl.1 rfl (lv_room (Nat.le_of_ble_eq_true rfl)) dX4_gather_60 ⟨Nat.le_of_ble_eq_true rfl, Nat.le_of_ble_eq_true rfl⟩) hS (fun q9 _ h9 => hFc q9 h9) hFc (fun u9 t9 H locs ht9 hvm9 hw9 hB9 hz9 hk9 hS => ?_)
                obtain ⟨z18, f19, f20⟩ := u9
                have hP : va_P G vwCl [(aP, .inr (4, [.ref bF, .ref bL, .ref bX, .ref bC, .int wSz, .int wTl, .int z18, .ref aN, .int wCo])), (bF, .inl (cy 0, 4096, .inl gF)), (bL, .inl (cy 0, 4096, .inl gL)), (bX, .inl (cy 0, 24, .inl f19)), (bC, .inl (cy 0, 24, .inl f20)), (aN, .inr (3, [.ref aR, .int vn])), (aR, .inl (cy 0, 9, .inl fN))] H := P_back [0, 1, 2, 3, 4, 5, 6] [] 7 hP hD rfl rfl rfl rfl (by decide) (by decide) hk9 (by rw [← ht9]; exact hB9)
                have hD : va_D A [(aP, .inr (4, [.ref bF, .ref bL, .ref bX, .ref bC, .int wSz, .int wTl, .int z18, .ref aN, .int wCo])), (bF, .inl (cy 0, 4096, .inl gF)), (bL, .inl (cy 0, 4096, .inl gL)), (bX, .inl (cy 0, 24, .inl f19)), (bC, .inl (cy 0, 24, .inl f20)), (aN, .inr (3, [.ref aR, .int vn])), (aR, .inl (cy 0, 9, .inl fN))] := D_same hD rfl
                specialize h z18 f19 f20 hw9
                obtain ⟨x21, ex21⟩ : ∃ y : Int32, y = y7 + 1 := ⟨_, rfl⟩
                specialize h x21 ex21
                refine lv_iinc (v := x21) (lv' := [(4, .int x21), (5, .int x13), (0, .ref aP), (1, .int p1), (2, .int y1), (3, .int x6)]) hx hb dX4_gather_63 hl (k := 5) rfl (by rw [ex21]; rfl) (by decide) rfl (fun ls hl => ?_)
                refine lv_goto (tgt := 31) hx hb dX4_gather_66 (by decide) ?_
                exact ih31 x21 z18 f19 f20 h.1 (Nat.lt_of_lt_of_le h.2 (Nat.le_of_lt_succ hk31)) _ _ hP hD hS _ (lv_sub hl [2, 3, 4, 5, 0] rfl)
        exact key31 _ 0 z2 f3 f4 h031 (Nat.lt_succ_self _) _ _ hP hD hS _ (lv_sub hl [2, 3, 4, 1, 0] rfl)
  exact key7 _ 0 0 gX gC h07 (Nat.lt_succ_self _) _ _ hP hD hS _ (lv_sub hl [1, 2, 0] rfl)

set_option maxHeartbeats 4000000 in
set_option maxRecDepth 100000 in
theorem ct_X5_spread_P (l : Launch) (G : va_G) (cy : Nat → ClassId) (aP bF bL bX bC aN aR : Nat) (sz : Nat) (wSz : Int32) (wTl : Int32) (wFo : Int32) (wCo : Int32) (gF : Nat → Int32) (gL : Nat → Int32) (gX : Nat → Int32) (gC : Nat → Int32) (vn : Int32) (fN : Nat → Int32) (p1 : Int32) (p2 : Int32) (Q : Int32 → Int32 → (Nat → Int32) → (Nat → Int32) → (Nat → Int32) → (Nat → Int32) → Prop) (h : wp_X5_spread_P wSz wTl wFo wCo gF gL gX gC vn p1 p2 Q) : Met l yX5_spread wsX5_spread rmX5_spread_P (va_Pc [.ref aP, .int p1, .int p2] (wP G cy sz [(aP, .inr (4, [.ref bF, .ref bL, .ref bX, .ref bC, .int wSz, .int wTl, .int wFo, .ref aN, .int wCo])), (bF, .inl (cy 0, 4096, .inl gF)), (bL, .inl (cy 0, 4096, .inl gL)), (bX, .inl (cy 0, 24, .inl gX)), (bC, .inl (cy 0, 24, .inl gC)), (aN, .inr (3, [.ref aR, .int vn])), (aR, .inl (cy 0, 9, .inl fN))])) (va_Qv (fun (u : Int32 × Int32 × (Nat → Int32) × (Nat → Int32) × (Nat → Int32) × (Nat → Int32)) => Q u.1 u.2.1 u.2.2.1 u.2.2.2.1 u.2.2.2.2.1 u.2.2.2.2.2) (fun (u : Int32 × Int32 × (Nat → Int32) × (Nat → Int32) × (Nat → Int32) × (Nat → Int32)) (t : State) => va_P G vwCl [(aP, .inr (4, [.ref bF, .ref bL, .ref bX, .ref bC, .int wSz, .int u.1, .int u.2.1, .ref aN, .int wCo])), (bF, .inl (cy 0, 4096, .inl u.2.2.1)), (bL, .inl (cy 0, 4096, .inl u.2.2.2.1)), (bX, .inl (cy 0, 24, .inl u.2.2.2.2.1)), (bC, .inl (cy 0, 24, .inl u.2.2.2.2.2)), (aN, .inr (3, [.ref aR, .int vn])), (aR, .inl (cy 0, 9, .inl fN))] t.heap) (va_A [(aP, .inr (4, [.ref bF, .ref bL, .ref bX, .ref bC, .int wSz, .int wTl, .int wFo, .ref aN, .int wCo])), (bF, .inl (cy 0, 4096, .inl gF)), (bL, .inl (cy 0, 4096, .inl gL)), (bX, .inl (cy 0, 24, .inl gX)), (bC, .inl (cy 0, 24, .inl gC)), (aN, .inr (3, [.ref aR, .int vn])), (aR, .inl (cy 0, 9, .inl fN))] sz)) 0 0 (va_A [(aP, .inr (4, [.ref bF, .ref bL, .ref bX, .ref bC, .int wSz, .int wTl, .int wFo, .ref aN, .int wCo])), (bF, .inl (cy 0, 4096, .inl gF)), (bL, .inl (cy 0, 4096, .inl gL)), (bX, .inl (cy 0, 24, .inl gX)), (bC, .inl (cy 0, 24, .inl gC)), (aN, .inr (3, [.ref aR, .int vn])), (aR, .inl (cy 0, 9, .inl fN))] sz) := by
  unfold wp_X5_spread_P at h
  refine Met.ofW (cc := cX5_spread) (maxL := 7) (ret := none) (by decide) rfl ?_
  intro p e s m args below meth c s₁ B hml hv
  obtain ⟨hav, hsz, hP, hK, hD0⟩ := hv
  have hx := B.exec
  have hb := B.bytes
  have hr := B.returns
  have hts := atoms_spec (ws := wsX5_spread) B.pre
  have hown : s.vm.findClass RX5 = some m.cls := findClass_of_methodNamed B.named
  have hlocks := B.notSynchronized
  subst hsz
  have hD := hD0.self (sz := s.heap.size)
  generalize hAe : va_A [(aP, .inr (4, [.ref bF, .ref bL, .ref bX, .ref bC, .int wSz, .int wTl, .int wFo, .ref aN, .int wCo])), (bF, .inl (cy 0, 4096, .inl gF)), (bL, .inl (cy 0, 4096, .inl gL)), (bX, .inl (cy 0, 24, .inl gX)), (bC, .inl (cy 0, 24, .inl gC)), (aN, .inr (3, [.ref aR, .int vn])), (aR, .inl (cy 0, 9, .inl fN))] s.heap.size = A at hD ⊢
  have hA : ∀ q : Nat, s.heap.size ≤ q → A q := fun q h9 => by rw [← hAe]; exact Or.inr h9
  have hS : va_S A s.heap s.heap [] := va_S.rf
  have hl := lv_entry ([.ref aP, .int p1, .int p2]) (n := 7) (Nat.le_of_ble_eq_true rfl)
  rw [show entryFrame m args 7 = entryFrame m ([.ref aP, .int p1, .int p2] : List Value).toArray 7 by rw [hav], lg_entry_eq]
  generalize (lg_sl ([.ref aP, .int p1, .int p2]) ++ List.replicate (7 - (lg_sl ([.ref aP, .int p1, .int p2])).length) Slot.unset).toArray = ls at hl ⊢
  have hl : lv_has ls 7 [(0, .ref aP), (1, .int p1), (2, .int p2)] := hl
  generalize hQe : MQ below _ _ _ _ _ _ = QM
  have hP : va_P G vwCl [(aP, .inr (4, [.ref bF, .ref bL, .ref bX, .ref bC, .int wSz, .int wTl, .int wFo, .ref aN, .int wCo])), (bF, .inl (cy 0, 4096, .inl gF)), (bL, .inl (cy 0, 4096, .inl gL)), (bX, .inl (cy 0, 24, .inl gX)), (bC, .inl (cy 0, 24, .inl gC)), (aN, .inr (3, [.ref aR, .int vn])), (aR, .inl (cy 0, 9, .inl fN))] s.heap := hP
  have iwX4 : ∀ w ∈ wsX40, w ∈ wsX5_spread := by decide +kernel
  have fl15 := hts (.fieldLink RX5 15 "SlidTokens$Search" "tail" "I") (by decide +kernel)
  have fl21 := hts (.fieldLink RX5 21 "SlidTokens$Search" "far" "[I") (by decide +kernel)
  have fl25 := hts (.fieldLink RX5 25 "SlidTokens$Search" "line" "[I") (by decide +kernel)
  have fl18 := hts (.fieldLink RX5 18 "SlidTokens$Search" "found" "I") (by decide +kernel)
  have fl28 := hts (.fieldLink RX5 28 "SlidTokens$Search" "next" "[I") (by decide +kernel)
  suffices K9 : ∀ (H : Heap) (locs : List Loc), va_P G vwCl [(aP, .inr (4, [.ref bF, .ref bL, .ref bX, .ref bC, .int wSz, .int wTl, .int wFo, .ref aN, .int wCo])), (bF, .inl (cy 0, 4096, .inl gF)), (bL, .inl (cy 0, 4096, .inl gL)), (bX, .inl (cy 0, 24, .inl gX)), (bC, .inl (cy 0, 24, .inl gC)), (aN, .inr (3, [.ref aR, .int vn])), (aR, .inl (cy 0, 9, .inl fN))] H → va_D A [(aP, .inr (4, [.ref bF, .ref bL, .ref bX, .ref bC, .int wSz, .int wTl, .int wFo, .ref aN, .int wCo])), (bF, .inl (cy 0, 4096, .inl gF)), (bL, .inl (cy 0, 4096, .inl gL)), (bX, .inl (cy 0, 24, .inl gX)), (bC, .inl (cy 0, 24, .inl gC)), (aN, .inr (3, [.ref aR, .int vn])), (aR, .inl (cy 0, 9, .inl fN))] → va_S A s.heap H locs → W p l e (headSpec wsX5_spread rmX5_spread_P).room s m args below meth c H locs 0 0 QM (F0 m 0 ls []) from K9 _ _ hP hD hS
  clear hP hD hS
  intro H locs hP hD hS
  refine lv_aload_n hx hb dX5_spread_0 rfl (lv_at hl 0 rfl) ?_
  refine lv_iload_n hx hb dX5_spread_1 rfl (lv_at hl 1 rfl) ?_
  obtain ⟨Q1, hw9, h⟩ := h
  have hPc : va_P G vwCl [(aP, .inr (4, [.ref bF, .ref bL, .ref bX, .ref bC, .int wSz, .int wTl, .int wFo, .ref aN, .int wCo])), (bF, .inl (cy 0, 4096, .inl gF)), (bL, .inl (cy 0, 4096, .inl gL)), (bX, .inl (cy 0, 24, .inl gX)), (bC, .inl (cy 0, 24, .inl gC)), (aN, .inr (3, [.ref aR, .int vn])), (aR, .inl (cy 0, 9, .inl fN))] H := hP.sub [0, 1, 2, 3, 4, 5, 6] rfl
  refine vp_callSi (va_Run.run (va_runU (As := [.int p1]) (rest := []) ⟨hx, hb, hml, hown, hts⟩ (ct_X5_isState_P l G cy aP bF bL bX bC aN aR wSz wTl wFo wCo gF gL gX gC vn fN p1 Q1 hw9) (va_cwU 1 hts gX5_spread_X5_isState_u34X4 rfl rfl rfl rfl (by decide +kernel) ⟨Nat.le_of_ble_eq_true rfl, Nat.le_of_ble_eq_true rfl⟩) (rP_V hK hP (ci := 4) (q0 := 0) rfl rfl hPc) rfl rfl hl.1 rfl (lv_room (Nat.le_of_ble_eq_true rfl)) dX5_spread_2 ⟨Nat.le_of_ble_eq_true rfl, Nat.le_of_ble_eq_true rfl⟩)) (fun r2 er2 => ?_)
  specialize h r2 er2
  refine lv_if_ne (tgt := 9) hx hb dX5_spread_5 (by decide) (fun c3 => ?_) (fun c3 => ?_)
  · obtain ⟨-, h⟩ := h
    specialize h c3
    refine lv_aload_n hx hb dX5_spread_9 rfl (lv_at hl 0 rfl) ?_
    refine va_get (D := G) (ci := 4) (v := .int wTl) (C := RX4) (T := TX4) (N := 9) hx hb hts iwX4 hown hK.1 hP 0 rfl rfl 5 (by decide) fl15 (fun _ h9 => h9) rfl dX5_spread_10 ?_
    refine lv_istore_n (lv' := [(3, .int wTl), (0, .ref aP), (1, .int p1), (2, .int p2)]) hx hb dX5_spread_13 rfl hl (by decide) rfl (fun ls hl => ?_)
    refine lv_aload_n hx hb dX5_spread_14 rfl (lv_at hl 1 rfl) ?_
    refine va_get (D := G) (ci := 4) (v := .ref bF) (C := RX4) (T := TX4) (N := 9) hx hb hts iwX4 hown hK.1 hP 0 rfl rfl 0 (by decide) fl21 (fun _ h9 => h9) rfl dX5_spread_15 ?_
    refine lv_iload_n hx hb dX5_spread_18 rfl (lv_at hl 2 rfl) ?_
    obtain ⟨hi, h⟩ := h
    refine va_iald hx hb hK.1 hP 1 0 rfl rfl hi dX5_spread_19 ?_
    refine lv_bipush (v := (-2)) hx hb dX5_spread_20 (by decide) ?_
    obtain ⟨J30_4, h, hJ30⟩ := h
    have jn30 : ∀ (t4 : Int32), J30_4 t4 → ∀ (H : Heap) (locs : List Loc), va_P G vwCl [(aP, .inr (4, [.ref bF, .ref bL, .ref bX, .ref bC, .int wSz, .int wTl, .int wFo, .ref aN, .int wCo])), (bF, .inl (cy 0, 4096, .inl gF)), (bL, .inl (cy 0, 4096, .inl gL)), (bX, .inl (cy 0, 24, .inl gX)), (bC, .inl (cy 0, 24, .inl gC)), (aN, .inr (3, [.ref aR, .int vn])), (aR, .inl (cy 0, 9, .inl fN))] H → va_D A [(aP, .inr (4, [.ref bF, .ref bL, .ref bX, .ref bC, .int wSz, .int wTl, .int wFo, .ref aN, .int wCo])), (bF, .inl (cy 0, 4096, .inl gF)), (bL, .inl (cy 0, 4096, .inl gL)), (bX, .inl (cy 0, 24, .inl gX)), (bC, .inl (cy 0, 24, .inl gC)), (aN, .inr (3, [.ref aR, .int vn])), (aR, .inl (cy 0, 9, .inl fN))] → va_S A s.heap H locs → ∀ (ls : Array Slot), lv_has ls 7 [(0, .ref aP), (1, .int p1), (2, .int p2), (3, .int wTl)] → W p l e (headSpec wsX5_spread rmX5_spread_P).room s m args below meth c H locs 0 0 QM (F0 m 30 ls [.int t4]) := by
      intro t4 hj9 H locs hP hD hS ls hl
      have h := hJ30 t4 hj9
      refine lv_istore (lv' := [(4, .int t4), (0, .ref aP), (1, .int p1), (2, .int p2), (3, .int wTl)]) hx hb dX5_spread_30 hl (by decide) rfl (fun ls hl => ?_)
      refine lv_aload_n hx hb dX5_spread_32 rfl (lv_at hl 1 rfl) ?_
      refine lv_iload_n hx hb dX5_spread_33 rfl (lv_at hl 2 rfl) ?_
      refine lv_iconst (v := 0) hx hb dX5_spread_34 (by decide) ?_
      obtain ⟨Q6, hw9, h⟩ := h
      have hPc : va_P G vwCl [(aP, .inr (4, [.ref bF, .ref bL, .ref bX, .ref bC, .int wSz, .int wTl, .int wFo, .ref aN, .int wCo])), (bF, .inl (cy 0, 4096, .inl gF)), (bL, .inl (cy 0, 4096, .inl gL)), (bX, .inl (cy 0, 24, .inl gX)), (bC, .inl (cy 0, 24, .inl gC)), (aN, .inr (3, [.ref aR, .int vn])), (aR, .inl (cy 0, 9, .inl fN))] H := hP.sub [0, 1, 2, 3, 4, 5, 6] rfl
      have hDc : va_D A [(aP, .inr (4, [.ref bF, .ref bL, .ref bX, .ref bC, .int wSz, .int wTl, .int wFo, .ref aN, .int wCo])), (bF, .inl (cy 0, 4096, .inl gF)), (bL, .inl (cy 0, 4096, .inl gL)), (bX, .inl (cy 0, 24, .inl gX)), (bC, .inl (cy 0, 24, .inl gC)), (aN, .inr (3, [.ref aR, .int vn])), (aR, .inl (cy 0, 9, .inl fN))] := hD.sub [0, 1, 2, 3, 4, 5, 6] (by decide) rfl
      have hFc := va_free (wc := [(aP, .inr (4, [.ref bF, .ref bL, .ref bX, .ref bC, .int wSz, .int wTl, .int wFo, .ref aN, .int wCo])), (bF, .inl (cy 0, 4096, .inl gF)), (bL, .inl (cy 0, 4096, .inl gL)), (bX, .inl (cy 0, 24, .inl gX)), (bC, .inl (cy 0, 24, .inl gC)), (aN, .inr (3, [.ref aR, .int vn])), (aR, .inl (cy 0, 9, .inl fN))]) hD hS hA [0, 1, 2, 3, 4, 5, 6] rfl
      refine va_callv (va_runU (As := [.int p1, .int 0]) (rest := []) ⟨hx, hb, hml, hown, hts⟩ (ct_X5_enter_P l G cy aP bF bL bX bC aN aR H.size wSz wTl wFo wCo gF gL gX gC vn fN p1 0 Q6 hw9) (va_cwU 2 hts gX5_spread_X5_enter_u38X4 rfl rfl rfl rfl (by decide +kernel) ⟨Nat.le_of_ble_eq_true rfl, Nat.le_of_ble_eq_true rfl⟩) (wP_V hK hP (ci := 4) (q0 := 0) rfl rfl hPc hDc) rfl rfl hl.1 rfl (lv_room (Nat.le_of_ble_eq_true rfl)) dX5_spread_35 ⟨Nat.le_of_ble_eq_true rfl, Nat.le_of_ble_eq_true rfl⟩) hS (fun q9 _ h9 => hFc q9 h9) hFc (fun u9 t9 H locs ht9 hvm9 hw9 hB9 hz9 hk9 hS => ?_)
      obtain ⟨z8, f9, f10⟩ := u9
      have hP : va_P G vwCl [(aP, .inr (4, [.ref bF, .ref bL, .ref bX, .ref bC, .int wSz, .int z8, .int wFo, .ref aN, .int wCo])), (bF, .inl (cy 0, 4096, .inl f9)), (bL, .inl (cy 0, 4096, .inl f10)), (bX, .inl (cy 0, 24, .inl gX)), (bC, .inl (cy 0, 24, .inl gC)), (aN, .inr (3, [.ref aR, .int vn])), (aR, .inl (cy 0, 9, .inl fN))] H := P_back [0, 1, 2, 3, 4, 5, 6] [] 7 hP hD rfl rfl rfl rfl (by decide) (by decide) hk9 (by rw [← ht9]; exact hB9)
      have hD : va_D A [(aP, .inr (4, [.ref bF, .ref bL, .ref bX, .ref bC, .int wSz, .int z8, .int wFo, .ref aN, .int wCo])), (bF, .inl (cy 0, 4096, .inl f9)), (bL, .inl (cy 0, 4096, .inl f10)), (bX, .inl (cy 0, 24, .inl gX)), (bC, .inl (cy 0, 24, .inl gC)), (aN, .inr (3, [.ref aR, .int vn])), (aR, .inl (cy 0, 9, .inl fN))] := D_same hD rfl
      specialize h z8 f9 f10 hw9
      obtain ⟨I38_17, u38_17, h038, hst38⟩ := h
      have key38 : ∀ (k9 : Nat) (y11 : Int32) (z12 : Int32) (z13 : Int32) (f14 : Nat → Int32) (f15 : Nat → Int32) (f16 : Nat → Int32) (f17 : Nat → Int32), I38_17 y11 z12 z13 f14 f15 f16 f17 → u38_17 y11 z12 z13 f14 f15 f16 f17 < k9 → ∀ (H : Heap) (locs : List Loc), va_P G vwCl [(aP, .inr (4, [.ref bF, .ref bL, .ref bX, .ref bC, .int wSz, .int z12, .int z13, .ref aN, .int wCo])), (bF, .inl (cy 0, 4096, .inl f14)), (bL, .inl (cy 0, 4096, .inl f15)), (bX, .inl (cy 0, 24, .inl f16)), (bC, .inl (cy 0, 24, .inl f17)), (aN, .inr (3, [.ref aR, .int vn])), (aR, .inl (cy 0, 9, .inl fN))] H → va_D A [(aP, .inr (4, [.ref bF, .ref bL, .ref bX, .ref bC, .int wSz, .int z12, .int z13, .ref aN, .int wCo])), (bF, .inl (cy 0, 4096, .inl f14)), (bL, .inl (cy 0, 4096, .inl f15)), (bX, .inl (cy 0, 24, .inl f16)), (bC, .inl (cy 0, 24, .inl f17)), (aN, .inr (3, [.ref aR, .int vn])), (aR, .inl (cy 0, 9, .inl fN))] → va_S A s.heap H locs → ∀ (ls : Array Slot), lv_has ls 7 [(0, .ref aP), (2, .int p2), (3, .int y11), (4, .int t4)] → W p l e (headSpec wsX5_spread rmX5_spread_P).room s m args below meth c H locs 0 0 QM (F0 m 38 ls []) := by
        intro k9
        induction k9 with
        | zero =>
          intro y11 z12 z13 f14 f15 f16 f17 hI9 hk9
          exact absurd hk9 (Nat.not_lt_zero _)
        | succ k9 ih38 =>
          intro y11 z12 z13 f14 f15 f16 f17 hI9 hk38 H locs hP hD hS ls hl
          have h := hst38 y11 z12 z13 f14 f15 f16 f17 hI9
          refine lv_iload hx hb dX5_spread_38 (lv_at hl 3 rfl) ?_
          refine lv_if_eq (tgt := 152) hx hb dX5_spread_40 (by decide) (fun c18 => ?_) (fun c18 => ?_)
          · obtain ⟨h, -⟩ := h
            specialize h c18
            rw [← hQe]
            exact W.vret hx hb hr (fun t ht hW => ⟨⟨(z12, z13, f14, f15, f16, f17), rfl, h, by dsimp only; rw [ht]; exact hP⟩, hS.F ht⟩) hS.2.2 dX5_spread_152
          · obtain ⟨-, h⟩ := h
            specialize h c18
            refine lv_iload_n hx hb dX5_spread_43 rfl (lv_at hl 2 rfl) ?_
            refine lv_aload_n hx hb dX5_spread_44 rfl (lv_at hl 0 rfl) ?_
            refine va_get (D := G) (ci := 4) (v := .int z12) (C := RX4) (T := TX4) (N := 9) hx hb hts iwX4 hown hK.1 hP 0 rfl rfl 5 (by decide) fl15 (fun _ h9 => h9) rfl dX5_spread_45 ?_
            refine lv_icmp_ge (tgt := 152) hx hb dX5_spread_48 (by decide) (fun c19 => ?_) (fun c19 => ?_)
            · obtain ⟨h, -⟩ := h
              specialize h c19
              rw [← hQe]
              exact W.vret hx hb hr (fun t ht hW => ⟨⟨(z12, z13, f14, f15, f16, f17), rfl, h, by dsimp only; rw [ht]; exact hP⟩, hS.F ht⟩) hS.2.2 dX5_spread_152
            · obtain ⟨-, h⟩ := h
              specialize h c19
              refine lv_iload_n hx hb dX5_spread_51 rfl (lv_at hl 2 rfl) ?_
              refine lv_aload_n hx hb dX5_spread_52 rfl (lv_at hl 0 rfl) ?_
              refine va_get (D := G) (ci := 4) (v := .ref bL) (C := RX4) (T := TX4) (N := 9) hx hb hts iwX4 hown hK.1 hP 0 rfl rfl 1 (by decide) fl25 (fun _ h9 => h9) rfl dX5_spread_53 ?_
              refine va_alen hx hb hK.1 hP 2 0 rfl rfl (v := 4096) rfl dX5_spread_56 ?_
              refine lv_icmp_ge (tgt := 152) hx hb dX5_spread_57 (by decide) (fun c20 => ?_) (fun c20 => ?_)
              · obtain ⟨h, -⟩ := h
                specialize h c20
                rw [← hQe]
                exact W.vret hx hb hr (fun t ht hW => ⟨⟨(z12, z13, f14, f15, f16, f17), rfl, h, by dsimp only; rw [ht]; exact hP⟩, hS.F ht⟩) hS.2.2 dX5_spread_152
              · obtain ⟨-, h⟩ := h
                specialize h c20
                refine lv_aload_n hx hb dX5_spread_60 rfl (lv_at hl 0 rfl) ?_
                refine lv_iload_n hx hb dX5_spread_61 rfl (lv_at hl 1 rfl) ?_
                obtain ⟨Q21, hw9, h⟩ := h
                have hPc : va_P G vwCl [(aP, .inr (4, [.ref bF, .ref bL, .ref bX, .ref bC, .int wSz, .int z12, .int z13, .ref aN, .int wCo])), (bF, .inl (cy 0, 4096, .inl f14)), (bL, .inl (cy 0, 4096, .inl f15)), (bX, .inl (cy 0, 24, .inl f16)), (bC, .inl (cy 0, 24, .inl f17)), (aN, .inr (3, [.ref aR, .int vn])), (aR, .inl (cy 0, 9, .inl fN))] H := hP.sub [0, 1, 2, 3, 4, 5, 6] rfl
                refine vp_callSi (va_Run.run (va_runU (As := [.int p2]) (rest := []) ⟨hx, hb, hml, hown, hts⟩ (ct_X5_isState_P l G cy aP bF bL bX bC aN aR wSz z12 z13 wCo f14 f15 f16 f17 vn fN p2 Q21 hw9) (va_cwU 1 hts gX5_spread_X5_isState_u34X4 rfl rfl rfl rfl (by decide +kernel) ⟨Nat.le_of_ble_eq_true rfl, Nat.le_of_ble_eq_true rfl⟩) (rP_V hK hP (ci := 4) (q0 := 0) rfl rfl hPc) rfl rfl hl.1 rfl (lv_room (Nat.le_of_ble_eq_true rfl)) dX5_spread_62 ⟨Nat.le_of_ble_eq_true rfl, Nat.le_of_ble_eq_true rfl⟩)) (fun r22 er22 => ?_)
                specialize h r22 er22
                obtain ⟨J78_22, h, hJ78⟩ := h
                have jn78 : J78_22 → ∀ (H : Heap) (locs : List Loc), va_P G vwCl [(aP, .inr (4, [.ref bF, .ref bL, .ref bX, .ref bC, .int wSz, .int z12, .int z13, .ref aN, .int wCo])), (bF, .inl (cy 0, 4096, .inl f14)), (bL, .inl (cy 0, 4096, .inl f15)), (bX, .inl (cy 0, 24, .inl f16)), (bC, .inl (cy 0, 24, .inl f17)), (aN, .inr (3, [.ref aR, .int vn])), (aR, .inl (cy 0, 9, .inl fN))] H → va_D A [(aP, .inr (4, [.ref bF, .ref bL, .ref bX, .ref bC, .int wSz, .int z12, .int z13, .ref aN, .int wCo])), (bF, .inl (cy 0, 4096, .inl f14)), (bL, .inl (cy 0, 4096, .inl f15)), (bX, .inl (cy 0, 24, .inl f16)), (bC, .inl (cy 0, 24, .inl f17)), (aN, .inr (3, [.ref aR, .int vn])), (aR, .inl (cy 0, 9, .inl fN))] → va_S A s.heap H locs → ∀ (ls : Array Slot), lv_has ls 7 [(0, .ref aP), (2, .int p2), (3, .int y11), (4, .int t4)] → W p l e (headSpec wsX5_spread rmX5_spread_P).room s m args below meth c H locs 0 0 QM (F0 m 78 ls []) := by
                  intro  hj9 H locs hP hD hS ls hl
                  have h := hJ78  hj9
                  refine lv_aload_n hx hb dX5_spread_78 rfl (lv_at hl 0 rfl) ?_
                  refine va_get (D := G) (ci := 4) (v := .ref bL) (C := RX4) (T := TX4) (N := 9) hx hb hts iwX4 hown hK.1 hP 0 rfl rfl 1 (by decide) fl25 (fun _ h9 => h9) rfl dX5_spread_79 ?_
                  refine lv_iload_n hx hb dX5_spread_82 rfl (lv_at hl 2 rfl) ?_
                  obtain ⟨hi, h⟩ := h
                  refine va_iald hx hb hK.1 hP 2 0 rfl rfl hi dX5_spread_83 ?_
                  refine lv_topi (fun x25 ex25 => ?_)
                  specialize h x25 ex25
                  refine lv_istore (lv' := [(5, .int x25), (0, .ref aP), (2, .int p2), (3, .int y11), (4, .int t4)]) hx hb dX5_spread_84 hl (by decide) rfl (fun ls hl => ?_)
                  refine lv_aload_n hx hb dX5_spread_86 rfl (lv_at hl 1 rfl) ?_
                  refine lv_iload hx hb dX5_spread_87 (lv_at hl 0 rfl) ?_
                  obtain ⟨Q26, hw9, h⟩ := h
                  have hPc : va_P G vwCl [(aP, .inr (4, [.ref bF, .ref bL, .ref bX, .ref bC, .int wSz, .int z12, .int z13, .ref aN, .int wCo])), (bF, .inl (cy 0, 4096, .inl f14)), (bL, .inl (cy 0, 4096, .inl f15)), (bX, .inl (cy 0, 24, .inl f16)), (bC, .inl (cy 0, 24, .inl f17)), (aN, .inr (3, [.ref aR, .int vn])), (aR, .inl (cy 0, 9, .inl fN))] H := hP.sub [0, 1, 2, 3, 4, 5, 6] rfl
                  have hDc : va_D A [(aP, .inr (4, [.ref bF, .ref bL, .ref bX, .ref bC, .int wSz, .int z12, .int z13, .ref aN, .int wCo])), (bF, .inl (cy 0, 4096, .inl f14)), (bL, .inl (cy 0, 4096, .inl f15)), (bX, .inl (cy 0, 24, .inl f16)), (bC, .inl (cy 0, 24, .inl f17)), (aN, .inr (3, [.ref aR, .int vn])), (aR, .inl (cy 0, 9, .inl fN))] := hD.sub [0, 1, 2, 3, 4, 5, 6] (by decide) rfl
                  have hFc := va_free (wc := [(aP, .inr (4, [.ref bF, .ref bL, .ref bX, .ref bC, .int wSz, .int z12, .int z13, .ref aN, .int wCo])), (bF, .inl (cy 0, 4096, .inl f14)), (bL, .inl (cy 0, 4096, .inl f15)), (bX, .inl (cy 0, 24, .inl f16)), (bC, .inl (cy 0, 24, .inl f17)), (aN, .inr (3, [.ref aR, .int vn])), (aR, .inl (cy 0, 9, .inl fN))]) hD hS hA [0, 1, 2, 3, 4, 5, 6] rfl
                  refine va_callv (va_runU (As := [.int x25]) (rest := []) ⟨hx, hb, hml, hown, hts⟩ (ct_X4_gather l G cy aP bF bL bX bC aN aR H.size wSz z12 z13 wCo f14 f15 f16 f17 vn fN x25 Q26 hw9) (va_cwA 1 hts gX5_spread_X4_gather_u42X4 rfl rfl rfl hK.2.2 (by decide +kernel) ⟨Nat.le_of_ble_eq_true rfl, Nat.le_of_ble_eq_true rfl⟩) (wP_V hK hP (ci := 4) (q0 := 0) rfl rfl hPc hDc) rfl rfl hl.1 rfl (lv_room (Nat.le_of_ble_eq_true rfl)) dX5_spread_89 ⟨Nat.le_of_ble_eq_true rfl, Nat.le_of_ble_eq_true rfl⟩) hS (fun q9 _ h9 => hFc q9 h9) hFc (fun u9 t9 H locs ht9 hvm9 hw9 hB9 hz9 hk9 hS => ?_)
                  obtain ⟨z28, f29, f30⟩ := u9
                  have hP : va_P G vwCl [(aP, .inr (4, [.ref bF, .ref bL, .ref bX, .ref bC, .int wSz, .int z12, .int z28, .ref aN, .int wCo])), (bF, .inl (cy 0, 4096, .inl f14)), (bL, .inl (cy 0, 4096, .inl f15)), (bX, .inl (cy 0, 24, .inl f29)), (bC, .inl (cy 0, 24, .inl f30)), (aN, .inr (3, [.ref aR, .int vn])), (aR, .inl (cy 0, 9, .inl fN))] H := P_back [0, 1, 2, 3, 4, 5, 6] [] 7 hP hD rfl rfl rfl rfl (by decide) (by decide) hk9 (by rw [← ht9]; exact hB9)
                  have hD : va_D A [(aP, .inr (4, [.ref bF, .ref bL, .ref bX, .ref bC, .int wSz, .int z12, .int z28, .ref aN, .int wCo])), (bF, .inl (cy 0, 4096, .inl f14)), (bL, .inl (cy 0, 4096, .inl f15)), (bX, .inl (cy 0, 24, .inl f29)), (bC, .inl (cy 0, 24, .inl f30)), (aN, .inr (3, [.ref aR, .int vn])), (aR, .inl (cy 0, 9, .inl fN))] := D_same hD rfl
                  specialize h z28 f29 f30 hw9
                  refine lv_iconst (v := 0) hx hb dX5_spread_92 (by decide) ?_
                  refine lv_istore (lv' := [(6, .int 0), (5, .int x25), (0, .ref aP), (2, .int p2), (3, .int y11), (4, .int t4)]) hx hb dX5_spread_93 hl (by decide) rfl (fun ls hl => ?_)
                  obtain ⟨I95_34, u95_34, h095, hst95⟩ := h
                  have key95 : ∀ (k9 : Nat) (y31 : Int32) (z32 : Int32) (f33 : Nat → Int32) (f34 : Nat → Int32), I95_34 y31 z32 f33 f34 → u95_34 y31 z32 f33 f34 < k9 → ∀ (H : Heap) (locs : List Loc), va_P G vwCl [(aP, .inr (4, [.ref bF, .ref bL, .ref bX, .ref bC, .int wSz, .int z32, .int z28, .ref aN, .int wCo])), (bF, .inl (cy 0, 4096, .inl f33)), (bL, .inl (cy 0, 4096, .inl f34)), (bX, .inl (cy 0, 24, .inl f29)), (bC, .inl (cy 0, 24, .inl f30)), (aN, .inr (3, [.ref aR, .int vn])), (aR, .inl (cy 0, 9, .inl fN))] H → va_D A [(aP, .inr (4, [.ref bF, .ref bL, .ref bX, .ref bC, .int wSz, .int z32, .int z28, .ref aN, .int wCo])), (bF, .inl (cy 0, 4096, .inl f33)), (bL, .inl (cy 0, 4096, .inl f34)), (bX, .inl (cy 0, 24, .inl f29)), (bC, .inl (cy 0, 24, .inl f30)), (aN, .inr (3, [.ref aR, .int vn])), (aR, .inl (cy 0, 9, .inl fN))] → va_S A s.heap H locs → ∀ (ls : Array Slot), lv_has ls 7 [(0, .ref aP), (2, .int p2), (3, .int y11), (4, .int t4), (5, .int x25), (6, .int y31)] → W p l e (headSpec wsX5_spread rmX5_spread_P).room s m args below meth c H locs 0 0 QM (F0 m 95 ls []) := by
                    intro k9
                    induction k9 with
                    | zero =>
                      intro y31 z32 f33 f34 hI9 hk9
                      exact absurd hk9 (Nat.not_lt_zero _)
                    | succ k9 ih95 =>
                      intro y31 z32 f33 f34 hI9 hk95 H locs hP hD hS ls hl
                      have h := hst95 y31 z32 f33 f34 hI9
                      refine lv_iload hx hb dX5_spread_95 (lv_at hl 5 rfl) ?_
                      refine lv_aload_n hx hb dX5_spread_97 rfl (lv_at hl 0 rfl) ?_
                      refine va_get (D := G) (ci := 4) (v := .int z28) (C := RX4) (T := TX4) (N := 9) hx hb hts iwX4 hown hK.1 hP 0 rfl rfl 6 (by decide) fl18 (fun _ h9 => h9) rfl dX5_spread_98 ?_
                      refine lv_icmp_ge (tgt := 146) hx hb dX5_spread_101 (by decide) (fun c35 => ?_) (fun c35 => ?_)
                      · obtain ⟨h, -⟩ := h
                        specialize h c35
                        obtain ⟨x36, ex36⟩ : ∃ y : Int32, y = y11 + 1 := ⟨_, rfl⟩
                        specialize h x36 ex36
                        refine lv_iinc (v := x36) (lv' := [(3, .int x36), (0, .ref aP), (2, .int p2), (4, .int t4), (5, .int x25), (6, .int y31)]) hx hb dX5_spread_146 hl (k := 2) rfl (by rw [ex36]; rfl) (by decide) rfl (fun ls hl => ?_)
                        refine lv_goto (tgt := 38) hx hb dX5_spread_149 (by decide) ?_
                        exact ih38 x36 z32 z28 f33 f34 f29 f30 h.1 (Nat.lt_of_lt_of_le h.2 (Nat.le_of_lt_succ hk38)) _ _ hP hD hS _ (lv_sub hl [1, 2, 0, 3] rfl)
                      · obtain ⟨-, h⟩ := h
                        specialize h c35
                        refine lv_aload_n hx hb dX5_spread_104 rfl (lv_at hl 0 rfl) ?_
                        refine va_get (D := G) (ci := 4) (v := .ref bF) (C := RX4) (T := TX4) (N := 9) hx hb hts iwX4 hown hK.1 hP 0 rfl rfl 0 (by decide) fl21 (fun _ h9 => h9) rfl dX5_spread_105 ?_
                        refine lv_aload_n hx hb dX5_spread_108 rfl (lv_at hl 0 rfl) ?_
                        refine va_get (D := G) (ci := 4) (v := .ref bX) (C := RX4) (T := TX4) (N := 9) hx hb hts iwX4 hown hK.1 hP 0 rfl rfl 2 (by decide) fl28 (fun _ h9 => h9) rfl dX5_spread_109 ?_
                        refine lv_iload hx hb dX5_spread_112 (lv_at hl 5 rfl) ?_
                        obtain ⟨hi, h⟩ := h
                        refine va_iald hx hb hK.1 hP 3 0 rfl rfl hi dX5_spread_114 ?_
                        obtain ⟨hi, h⟩ := h
                        refine va_iald hx hb hK.1 hP 1 0 rfl rfl hi dX5_spread_115 ?_
                        refine lv_iconst (v := (-1)) hx hb dX5_spread_116 (by decide) ?_
                        refine lv_icmp_ne (tgt := 140) hx hb dX5_spread_117 (by decide) (fun c37 => ?_) (fun c37 => ?_)
                        · obtain ⟨-, h⟩ := h
                          specialize h c37
                          obtain ⟨x38, ex38⟩ : ∃ y : Int32, y = y31 + 1 := ⟨_, rfl⟩
                          specialize h x38 ex38
                          refine lv_iinc (v := x38) (lv' := [(6, .int x38), (0, .ref aP), (2, .int p2), (3, .int y11), (4, .int t4), (5, .int x25)]) hx hb dX5_spread_140 hl (k := 5) rfl (by rw [ex38]; rfl) (by decide) rfl (fun ls hl => ?_)
                          refine lv_goto (tgt := 95) hx hb dX5_spread_143 (by decide) ?_
                          exact ih95 x38 z32 f33 f34 h.1 (Nat.lt_of_lt_of_le h.2 (Nat.le_of_lt_succ hk95)) _ _ hP hD hS _ (lv_sub hl [1, 2, 3, 4, 5, 0] rfl)
                        · obtain ⟨h, -⟩ := h
                          specialize h c37
                          refine lv_aload_n hx hb dX5_spread_120 rfl (lv_at hl 0 rfl) ?_
                          refine lv_aload_n hx hb dX5_spread_121 rfl (lv_at hl 0 rfl) ?_
                          refine va_get (D := G) (ci := 4) (v := .ref bX) (C := RX4) (T := TX4) (N := 9) hx hb hts iwX4 hown hK.1 hP 0 rfl rfl 2 (by decide) fl28 (fun _ h9 => h9) rfl dX5_spread_122 ?_
                          refine lv_iload hx hb dX5_spread_125 (lv_at hl 5 rfl) ?_
                          obtain ⟨hi, h⟩ := h
                          refine va_iald hx hb hK.1 hP 3 0 rfl rfl hi dX5_spread_127 ?_
                          refine lv_aload_n hx hb dX5_spread_128 rfl (lv_at hl 0 rfl) ?_
                          refine va_get (D := G) (ci := 4) (v := .ref bF) (C := RX4) (T := TX4) (N := 9) hx hb hts iwX4 hown hK.1 hP 0 rfl rfl 0 (by decide) fl21 (fun _ h9 => h9) rfl dX5_spread_129 ?_
                          refine lv_iload hx hb dX5_spread_132 (lv_at hl 4 rfl) ?_
                          obtain ⟨hi, h⟩ := h
                          refine va_iald hx hb hK.1 hP 1 0 rfl rfl hi dX5_spread_134 ?_
                          refine lv_iconst (v := 1) hx hb dX5_spread_135 (by decide) ?_
                          refine lv_iadd hx hb dX5_spread_136 ?_
                          obtain ⟨Q39, hw9, h⟩ := h
                          have hPc : va_P G vwCl [(aP, .inr (4, [.ref bF, .ref bL, .ref bX, .ref bC, .int wSz, .int z32, .int z28, .ref aN, .int wCo])), (bF, .inl (cy 0, 4096, .inl f33)), (bL, .inl (cy 0, 4096, .inl f34)), (bX, .inl (cy 0, 24, .inl f29)), (bC, .inl (cy 0, 24, .inl f30)), (aN, .inr (3, [.ref aR, .int vn])), (aR, .inl (cy 0, 9, .inl fN))] H := hP.sub [0, 1, 2, 3, 4, 5, 6] rfl
                          have hDc : va_D A [(aP, .inr (4, [.ref bF, .ref bL, .ref bX, .ref bC, .int wSz, .int z32, .int z28, .ref aN, .int wCo])), (bF, .inl (cy 0, 4096, .inl f33)), (bL, .inl (cy 0, 4096, .inl f34)), (bX, .inl (cy 0, 24, .inl f29)), (bC, .inl (cy 0, 24, .inl f30)), (aN, .inr (3, [.ref aR, .int vn])), (aR, .inl (cy 0, 9, .inl fN))] := hD.sub [0, 1, 2, 3, 4, 5, 6] (by decide) rfl
                          have hFc := va_free (wc := [(aP, .inr (4, [.ref bF, .ref bL, .ref bX, .ref bC, .int wSz, .int z32, .int z28, .ref aN, .int wCo])), (bF, .inl (cy 0, 4096, .inl f33)), (bL, .inl (cy 0, 4096, .inl f34)), (bX, .inl (cy 0, 24, .inl f29)), (bC, .inl (cy 0, 24, .inl f30)), (aN, .inr (3, [.ref aR, .int vn])), (aR, .inl (cy 0, 9, .inl fN))]) hD hS hA [0, 1, 2, 3, 4, 5, 6] rfl
                          refine va_callv (va_runU (As := [.int (f29 (y31 : Int32).toNatClampNeg), .int ((f33 (x25 : Int32).toNatClampNeg) + (1 : Int32))]) (rest := []) ⟨hx, hb, hml, hown, hts⟩ (ct_X5_enter_P l G cy aP bF bL bX bC aN aR H.size wSz z32 z28 wCo f33 f34 f29 f30 vn fN (f29 (y31 : Int32).toNatClampNeg) ((f33 (x25 : Int32).toNatClampNeg) + (1 : Int32)) Q39 hw9) (va_cwU 2 hts gX5_spread_X5_enter_u38X4 rfl rfl rfl rfl (by decide +kernel) ⟨Nat.le_of_ble_eq_true rfl, Nat.le_of_ble_eq_true rfl⟩) (wP_V hK hP (ci := 4) (q0 := 0) rfl rfl hPc hDc) rfl rfl hl.1 rfl (lv_room (Nat.le_of_ble_eq_true rfl)) dX5_spread_137 ⟨Nat.le_of_ble_eq_true rfl, Nat.le_of_ble_eq_true rfl⟩) hS (fun q9 _ h9 => hFc q9 h9) hFc (fun u9 t9 H locs ht9 hvm9 hw9 hB9 hz9 hk9 hS => ?_)
                          obtain ⟨z41, f42, f43⟩ := u9
                          have hP : va_P G vwCl [(aP, .inr (4, [.ref bF, .ref bL, .ref bX, .ref bC, .int wSz, .int z41, .int z28, .ref aN, .int wCo])), (bF, .inl (cy 0, 4096, .inl f42)), (bL, .inl (cy 0, 4096, .inl f43)), (bX, .inl (cy 0, 24, .inl f29)), (bC, .inl (cy 0, 24, .inl f30)), (aN, .inr (3, [.ref aR, .int vn])), (aR, .inl (cy 0, 9, .inl fN))] H := P_back [0, 1, 2, 3, 4, 5, 6] [] 7 hP hD rfl rfl rfl rfl (by decide) (by decide) hk9 (by rw [← ht9]; exact hB9)
                          have hD : va_D A [(aP, .inr (4, [.ref bF, .ref bL, .ref bX, .ref bC, .int wSz, .int z41, .int z28, .ref aN, .int wCo])), (bF, .inl (cy 0, 4096, .inl f42)), (bL, .inl (cy 0, 4096, .inl f43)), (bX, .inl (cy 0, 24, .inl f29)), (bC, .inl (cy 0, 24, .inl f30)), (aN, .inr (3, [.ref aR, .int vn])), (aR, .inl (cy 0, 9, .inl fN))] := D_same hD rfl
                          specialize h z41 f42 f43 hw9
                          obtain ⟨x44, ex44⟩ : ∃ y : Int32, y = y31 + 1 := ⟨_, rfl⟩
                          specialize h x44 ex44
                          refine lv_iinc (v := x44) (lv' := [(6, .int x44), (0, .ref aP), (2, .int p2), (3, .int y11), (4, .int t4), (5, .int x25)]) hx hb dX5_spread_140 hl (k := 5) rfl (by rw [ex44]; rfl) (by decide) rfl (fun ls hl => ?_)
                          refine lv_goto (tgt := 95) hx hb dX5_spread_143 (by decide) ?_
                          exact ih95 x44 z41 f42 f43 h.1 (Nat.lt_of_lt_of_le h.2 (Nat.le_of_lt_succ hk95)) _ _ hP hD hS _ (lv_sub hl [1, 2, 3, 4, 5, 0] rfl)
                  exact key95 _ 0 z12 f14 f15 h095 (Nat.lt_succ_self _) _ _ hP hD hS _ (lv_sub hl [2, 3, 4, 5, 1, 0] rfl)
                refine lv_if_eq (tgt := 78) hx hb dX5_spread_65 (by decide) (fun c23 => ?_) (fun c23 => ?_)
                · obtain ⟨h, -⟩ := h
                  specialize h c23
                  exact jn78  h _ _ hP hD hS _ (lv_sub hl [0, 1, 2, 3] rfl)
                · obtain ⟨-, h⟩ := h
                  specialize h c23
                  refine lv_aload_n hx hb dX5_spread_68 rfl (lv_at hl 0 rfl) ?_
                  refine va_get (D := G) (ci := 4) (v := .ref bF) (C := RX4) (T := TX4) (N := 9) hx hb hts iwX4 hown hK.1 hP 0 rfl rfl 0 (by decide) fl21 (fun _ h9 => h9) rfl dX5_spread_69 ?_
                  refine lv_iload_n hx hb dX5_spread_72 rfl (lv_at hl 1 rfl) ?_
                  obtain ⟨hi, h⟩ := h
                  refine va_iald hx hb hK.1 hP 1 0 rfl rfl hi dX5_spread_73 ?_
                  refine lv_if_lt (tgt := 78) hx hb dX5_spread_74 (by decide) (fun c24 => ?_) (fun c24 => ?_)
                  · obtain ⟨h, -⟩ := h
                    specialize h c24
                    exact jn78  h _ _ hP hD hS _ (lv_sub hl [0, 1, 2, 3] rfl)
                  · obtain ⟨-, h⟩ := h
                    specialize h c24
                    rw [← hQe]
                    exact W.vret hx hb hr (fun t ht hW => ⟨⟨(z12, z13, f14, f15, f16, f17), rfl, h, by dsimp only; rw [ht]; exact hP⟩, hS.F ht⟩) hS.2.2 dX5_spread_77
      exact key38 _ wTl z8 wFo f9 f10 gX gC h038 (Nat.lt_succ_self _) _ _ hP hD hS _ (lv_sub hl [1, 3, 4, 0] rfl)
    refine lv_icmp_eq (tgt := 29) hx hb dX5_spread_22 (by decide) (fun c5 => ?_) (fun c5 => ?_)
    · obtain ⟨h, -⟩ := h
      specialize h c5
      refine lv_iconst (v := 0) hx hb dX5_spread_29 (by decide) ?_
      exact jn30 0 h _ _ hP hD hS _ (lv_sub hl [1, 2, 3, 0] rfl)
    · obtain ⟨-, h⟩ := h
      specialize h c5
      refine lv_iconst (v := 1) hx hb dX5_spread_25 (by decide) ?_
      refine lv_goto (tgt := 30) hx hb dX5_spread_26 (by decide) ?_
      exact jn30 1 h _ _ hP hD hS _ (lv_sub hl [1, 2, 3, 0] rfl)
  · obtain ⟨h, -⟩ := h
    specialize h c3
    rw [← hQe]
    exact W.vret hx hb hr (fun t ht hW => ⟨⟨(wTl, wFo, gF, gL, gX, gC), rfl, h, by dsimp only; rw [ht]; exact hP⟩, hS.F ht⟩) hS.2.2 dX5_spread_8

set_option maxHeartbeats 4000000 in
set_option maxRecDepth 100000 in
theorem ct_X5_fewest_P (l : Launch) (G : va_G) (cy : Nat → ClassId) (aP bF bL bX bC aN aR : Nat) (sz : Nat) (wSz : Int32) (wTl : Int32) (wFo : Int32) (wCo : Int32) (gF : Nat → Int32) (gL : Nat → Int32) (gX : Nat → Int32) (gC : Nat → Int32) (vn : Int32) (fN : Nat → Int32) (p1 : Int32) (p2 : Int32) (Q : Int32 → Int32 → Int32 → (Nat → Int32) → (Nat → Int32) → (Nat → Int32) → (Nat → Int32) → Prop) (h : wp_X5_fewest_P wSz wTl wFo wCo gF gL gX gC vn p1 p2 Q) : Met l yX5_fewest wsX5_fewest rmX5_fewest_P (va_Pc [.ref aP, .int p1, .int p2] (wP G cy sz [(aP, .inr (4, [.ref bF, .ref bL, .ref bX, .ref bC, .int wSz, .int wTl, .int wFo, .ref aN, .int wCo])), (bF, .inl (cy 0, 4096, .inl gF)), (bL, .inl (cy 0, 4096, .inl gL)), (bX, .inl (cy 0, 24, .inl gX)), (bC, .inl (cy 0, 24, .inl gC)), (aN, .inr (3, [.ref aR, .int vn])), (aR, .inl (cy 0, 9, .inl fN))])) (va_Qi (fun (r : Int32) (u : Int32 × Int32 × (Nat → Int32) × (Nat → Int32) × (Nat → Int32) × (Nat → Int32)) => Q r u.1 u.2.1 u.2.2.1 u.2.2.2.1 u.2.2.2.2.1 u.2.2.2.2.2) (fun (u : Int32 × Int32 × (Nat → Int32) × (Nat → Int32) × (Nat → Int32) × (Nat → Int32)) (t : State) => va_P G vwCl [(aP, .inr (4, [.ref bF, .ref bL, .ref bX, .ref bC, .int wSz, .int u.1, .int u.2.1, .ref aN, .int wCo])), (bF, .inl (cy 0, 4096, .inl u.2.2.1)), (bL, .inl (cy 0, 4096, .inl u.2.2.2.1)), (bX, .inl (cy 0, 24, .inl u.2.2.2.2.1)), (bC, .inl (cy 0, 24, .inl u.2.2.2.2.2)), (aN, .inr (3, [.ref aR, .int vn])), (aR, .inl (cy 0, 9, .inl fN))] t.heap) (va_A [(aP, .inr (4, [.ref bF, .ref bL, .ref bX, .ref bC, .int wSz, .int wTl, .int wFo, .ref aN, .int wCo])), (bF, .inl (cy 0, 4096, .inl gF)), (bL, .inl (cy 0, 4096, .inl gL)), (bX, .inl (cy 0, 24, .inl gX)), (bC, .inl (cy 0, 24, .inl gC)), (aN, .inr (3, [.ref aR, .int vn])), (aR, .inl (cy 0, 9, .inl fN))] sz)) 0 0 (va_A [(aP, .inr (4, [.ref bF, .ref bL, .ref bX, .ref bC, .int wSz, .int wTl, .int wFo, .ref aN, .int wCo])), (bF, .inl (cy 0, 4096, .inl gF)), (bL, .inl (cy 0, 4096, .inl gL)), (bX, .inl (cy 0, 24, .inl gX)), (bC, .inl (cy 0, 24, .inl gC)), (aN, .inr (3, [.ref aR, .int vn])), (aR, .inl (cy 0, 9, .inl fN))] sz) := by
  unfold wp_X5_fewest_P at h
  refine Met.ofW (cc := cX5_fewest) (maxL := 3) (ret := (some .int)) (by decide) rfl ?_
  intro p e s m args below meth c s₁ B hml hv
  obtain ⟨hav, hsz, hP, hK, hD0⟩ := hv
  have hx := B.exec
  have hb := B.bytes
  have hr := B.returns
  have hts := atoms_spec (ws := wsX5_fewest) B.pre
  have hown : s.vm.findClass RX5 = some m.cls := findClass_of_methodNamed B.named
  have hlocks := B.notSynchronized
  subst hsz
  have hD := hD0.self (sz := s.heap.size)
  generalize hAe : va_A [(aP, .inr (4, [.ref bF, .ref bL, .ref bX, .ref bC, .int wSz, .int wTl, .int wFo, .ref aN, .int wCo])), (bF, .inl (cy 0, 4096, .inl gF)), (bL, .inl (cy 0, 4096, .inl gL)), (bX, .inl (cy 0, 24, .inl gX)), (bC, .inl (cy 0, 24, .inl gC)), (aN, .inr (3, [.ref aR, .int vn])), (aR, .inl (cy 0, 9, .inl fN))] s.heap.size = A at hD ⊢
  have hA : ∀ q : Nat, s.heap.size ≤ q → A q := fun q h9 => by rw [← hAe]; exact Or.inr h9
  have hS : va_S A s.heap s.heap [] := va_S.rf
  have hl := lv_entry ([.ref aP, .int p1, .int p2]) (n := 3) (Nat.le_of_ble_eq_true rfl)
  rw [show entryFrame m args 3 = entryFrame m ([.ref aP, .int p1, .int p2] : List Value).toArray 3 by rw [hav], lg_entry_eq]
  generalize (lg_sl ([.ref aP, .int p1, .int p2]) ++ List.replicate (3 - (lg_sl ([.ref aP, .int p1, .int p2])).length) Slot.unset).toArray = ls at hl ⊢
  have hl : lv_has ls 3 [(0, .ref aP), (1, .int p1), (2, .int p2)] := hl
  generalize hQe : MQ below _ _ _ _ _ _ = QM
  have hP : va_P G vwCl [(aP, .inr (4, [.ref bF, .ref bL, .ref bX, .ref bC, .int wSz, .int wTl, .int wFo, .ref aN, .int wCo])), (bF, .inl (cy 0, 4096, .inl gF)), (bL, .inl (cy 0, 4096, .inl gL)), (bX, .inl (cy 0, 24, .inl gX)), (bC, .inl (cy 0, 24, .inl gC)), (aN, .inr (3, [.ref aR, .int vn])), (aR, .inl (cy 0, 9, .inl fN))] s.heap := hP
  have iwX4 : ∀ w ∈ wsX40, w ∈ wsX5_fewest := by decide +kernel
  have fl21 := hts (.fieldLink RX5 21 "SlidTokens$Search" "far" "[I") (by decide +kernel)
  suffices K9 : ∀ (H : Heap) (locs : List Loc), va_P G vwCl [(aP, .inr (4, [.ref bF, .ref bL, .ref bX, .ref bC, .int wSz, .int wTl, .int wFo, .ref aN, .int wCo])), (bF, .inl (cy 0, 4096, .inl gF)), (bL, .inl (cy 0, 4096, .inl gL)), (bX, .inl (cy 0, 24, .inl gX)), (bC, .inl (cy 0, 24, .inl gC)), (aN, .inr (3, [.ref aR, .int vn])), (aR, .inl (cy 0, 9, .inl fN))] H → va_D A [(aP, .inr (4, [.ref bF, .ref bL, .ref bX, .ref bC, .int wSz, .int wTl, .int wFo, .ref aN, .int wCo])), (bF, .inl (cy 0, 4096, .inl gF)), (bL, .inl (cy 0, 4096, .inl gL)), (bX, .inl (cy 0, 24, .inl gX)), (bC, .inl (cy 0, 24, .inl gC)), (aN, .inr (3, [.ref aR, .int vn])), (aR, .inl (cy 0, 9, .inl fN))] → va_S A s.heap H locs → W p l e (headSpec wsX5_fewest rmX5_fewest_P).room s m args below meth c H locs 0 0 QM (F0 m 0 ls []) from K9 _ _ hP hD hS
  clear hP hD hS
  intro H locs hP hD hS
  refine lv_iload_n hx hb dX5_fewest_0 rfl (lv_at hl 1 rfl) ?_
  refine lv_iload_n hx hb dX5_fewest_1 rfl (lv_at hl 2 rfl) ?_
  refine lv_icmp_ne (tgt := 7) hx hb dX5_fewest_2 (by decide) (fun c1 => ?_) (fun c1 => ?_)
  · obtain ⟨-, h⟩ := h
    specialize h c1
    refine lv_aload_n hx hb dX5_fewest_7 rfl (lv_at hl 0 rfl) ?_
    refine lv_iload_n hx hb dX5_fewest_8 rfl (lv_at hl 1 rfl) ?_
    obtain ⟨Q2, hw9, h⟩ := h
    have hPc : va_P G vwCl [(aP, .inr (4, [.ref bF, .ref bL, .ref bX, .ref bC, .int wSz, .int wTl, .int wFo, .ref aN, .int wCo])), (bF, .inl (cy 0, 4096, .inl gF)), (bL, .inl (cy 0, 4096, .inl gL)), (bX, .inl (cy 0, 24, .inl gX)), (bC, .inl (cy 0, 24, .inl gC)), (aN, .inr (3, [.ref aR, .int vn])), (aR, .inl (cy 0, 9, .inl fN))] H := hP.sub [0, 1, 2, 3, 4, 5, 6] rfl
    refine vp_callSi (va_Run.run (va_runU (As := [.int p1]) (rest := []) ⟨hx, hb, hml, hown, hts⟩ (ct_X5_isState_P l G cy aP bF bL bX bC aN aR wSz wTl wFo wCo gF gL gX gC vn fN p1 Q2 hw9) (va_cwU 1 hts gX5_fewest_X5_isState_u34X4 rfl rfl rfl rfl (by decide +kernel) ⟨Nat.le_of_ble_eq_true rfl, Nat.le_of_ble_eq_true rfl⟩) (rP_V hK hP (ci := 4) (q0 := 0) rfl rfl hPc) rfl rfl hl.1 rfl (lv_room (Nat.le_of_ble_eq_true rfl)) dX5_fewest_9 ⟨Nat.le_of_ble_eq_true rfl, Nat.le_of_ble_eq_true rfl⟩)) (fun r3 er3 => ?_)
    specialize h r3 er3
    refine lv_if_eq (tgt := 45) hx hb dX5_fewest_12 (by decide) (fun c4 => ?_) (fun c4 => ?_)
    · obtain ⟨h, -⟩ := h
      specialize h c4
      refine lv_bipush (v := (-9)) hx hb dX5_fewest_45 (by decide) ?_
      rw [← hQe]
      exact W.iret (v := (-9)) hx hb hr (fun t ht hW => ⟨⟨(-9), (wTl, wFo, gF, gL, gX, gC), rfl, h, by dsimp only; rw [ht]; exact hP⟩, hS.F ht⟩) hS.2.2 dX5_fewest_47
    · obtain ⟨-, h⟩ := h
      specialize h c4
      refine lv_aload_n hx hb dX5_fewest_15 rfl (lv_at hl 0 rfl) ?_
      refine lv_iload_n hx hb dX5_fewest_16 rfl (lv_at hl 2 rfl) ?_
      obtain ⟨Q5, hw9, h⟩ := h
      have hPc : va_P G vwCl [(aP, .inr (4, [.ref bF, .ref bL, .ref bX, .ref bC, .int wSz, .int wTl, .int wFo, .ref aN, .int wCo])), (bF, .inl (cy 0, 4096, .inl gF)), (bL, .inl (cy 0, 4096, .inl gL)), (bX, .inl (cy 0, 24, .inl gX)), (bC, .inl (cy 0, 24, .inl gC)), (aN, .inr (3, [.ref aR, .int vn])), (aR, .inl (cy 0, 9, .inl fN))] H := hP.sub [0, 1, 2, 3, 4, 5, 6] rfl
      refine vp_callSi (va_Run.run (va_runU (As := [.int p2]) (rest := []) ⟨hx, hb, hml, hown, hts⟩ (ct_X5_isState_P l G cy aP bF bL bX bC aN aR wSz wTl wFo wCo gF gL gX gC vn fN p2 Q5 hw9) (va_cwU 1 hts gX5_fewest_X5_isState_u34X4 rfl rfl rfl rfl (by decide +kernel) ⟨Nat.le_of_ble_eq_true rfl, Nat.le_of_ble_eq_true rfl⟩) (rP_V hK hP (ci := 4) (q0 := 0) rfl rfl hPc) rfl rfl hl.1 rfl (lv_room (Nat.le_of_ble_eq_true rfl)) dX5_fewest_17 ⟨Nat.le_of_ble_eq_true rfl, Nat.le_of_ble_eq_true rfl⟩)) (fun r6 er6 => ?_)
      specialize h r6 er6
      refine lv_if_eq (tgt := 45) hx hb dX5_fewest_20 (by decide) (fun c7 => ?_) (fun c7 => ?_)
      · obtain ⟨h, -⟩ := h
        specialize h c7
        refine lv_bipush (v := (-9)) hx hb dX5_fewest_45 (by decide) ?_
        rw [← hQe]
        exact W.iret (v := (-9)) hx hb hr (fun t ht hW => ⟨⟨(-9), (wTl, wFo, gF, gL, gX, gC), rfl, h, by dsimp only; rw [ht]; exact hP⟩, hS.F ht⟩) hS.2.2 dX5_fewest_47
      · obtain ⟨-, h⟩ := h
        specialize h c7
        refine lv_aload_n hx hb dX5_fewest_23 rfl (lv_at hl 0 rfl) ?_
        refine va_get (D := G) (ci := 4) (v := .ref bF) (C := RX4) (T := TX4) (N := 9) hx hb hts iwX4 hown hK.1 hP 0 rfl rfl 0 (by decide) fl21 (fun _ h9 => h9) rfl dX5_fewest_24 ?_
        refine lv_iload_n hx hb dX5_fewest_27 rfl (lv_at hl 1 rfl) ?_
        obtain ⟨hi, h⟩ := h
        refine va_iald hx hb hK.1 hP 1 0 rfl rfl hi dX5_fewest_28 ?_
        refine lv_bipush (v := (-2)) hx hb dX5_fewest_29 (by decide) ?_
        refine lv_icmp_eq (tgt := 45) hx hb dX5_fewest_31 (by decide) (fun c8 => ?_) (fun c8 => ?_)
        · obtain ⟨h, -⟩ := h
          specialize h c8
          refine lv_bipush (v := (-9)) hx hb dX5_fewest_45 (by decide) ?_
          rw [← hQe]
          exact W.iret (v := (-9)) hx hb hr (fun t ht hW => ⟨⟨(-9), (wTl, wFo, gF, gL, gX, gC), rfl, h, by dsimp only; rw [ht]; exact hP⟩, hS.F ht⟩) hS.2.2 dX5_fewest_47
        · obtain ⟨-, h⟩ := h
          specialize h c8
          refine lv_aload_n hx hb dX5_fewest_34 rfl (lv_at hl 0 rfl) ?_
          refine va_get (D := G) (ci := 4) (v := .ref bF) (C := RX4) (T := TX4) (N := 9) hx hb hts iwX4 hown hK.1 hP 0 rfl rfl 0 (by decide) fl21 (fun _ h9 => h9) rfl dX5_fewest_35 ?_
          refine lv_iload_n hx hb dX5_fewest_38 rfl (lv_at hl 2 rfl) ?_
          obtain ⟨hi, h⟩ := h
          refine va_iald hx hb hK.1 hP 1 0 rfl rfl hi dX5_fewest_39 ?_
          refine lv_bipush (v := (-2)) hx hb dX5_fewest_40 (by decide) ?_
          refine lv_icmp_ne (tgt := 48) hx hb dX5_fewest_42 (by decide) (fun c9 => ?_) (fun c9 => ?_)
          · obtain ⟨-, h⟩ := h
            specialize h c9
            refine lv_aload_n hx hb dX5_fewest_48 rfl (lv_at hl 0 rfl) ?_
            refine lv_iload_n hx hb dX5_fewest_49 rfl (lv_at hl 2 rfl) ?_
            refine lv_iload_n hx hb dX5_fewest_50 rfl (lv_at hl 1 rfl) ?_
            obtain ⟨Q10, hw9, h⟩ := h
            have hPc : va_P G vwCl [(aP, .inr (4, [.ref bF, .ref bL, .ref bX, .ref bC, .int wSz, .int wTl, .int wFo, .ref aN, .int wCo])), (bF, .inl (cy 0, 4096, .inl gF)), (bL, .inl (cy 0, 4096, .inl gL)), (bX, .inl (cy 0, 24, .inl gX)), (bC, .inl (cy 0, 24, .inl gC)), (aN, .inr (3, [.ref aR, .int vn])), (aR, .inl (cy 0, 9, .inl fN))] H := hP.sub [0, 1, 2, 3, 4, 5, 6] rfl
            have hDc : va_D A [(aP, .inr (4, [.ref bF, .ref bL, .ref bX, .ref bC, .int wSz, .int wTl, .int wFo, .ref aN, .int wCo])), (bF, .inl (cy 0, 4096, .inl gF)), (bL, .inl (cy 0, 4096, .inl gL)), (bX, .inl (cy 0, 24, .inl gX)), (bC, .inl (cy 0, 24, .inl gC)), (aN, .inr (3, [.ref aR, .int vn])), (aR, .inl (cy 0, 9, .inl fN))] := hD.sub [0, 1, 2, 3, 4, 5, 6] (by decide) rfl
            have hFc := va_free (wc := [(aP, .inr (4, [.ref bF, .ref bL, .ref bX, .ref bC, .int wSz, .int wTl, .int wFo, .ref aN, .int wCo])), (bF, .inl (cy 0, 4096, .inl gF)), (bL, .inl (cy 0, 4096, .inl gL)), (bX, .inl (cy 0, 24, .inl gX)), (bC, .inl (cy 0, 24, .inl gC)), (aN, .inr (3, [.ref aR, .int vn])), (aR, .inl (cy 0, 9, .inl fN))]) hD hS hA [0, 1, 2, 3, 4, 5, 6] rfl
            refine va_callv (va_runU (As := [.int p2, .int p1]) (rest := []) ⟨hx, hb, hml, hown, hts⟩ (ct_X5_spread_P l G cy aP bF bL bX bC aN aR H.size wSz wTl wFo wCo gF gL gX gC vn fN p2 p1 Q10 hw9) (va_cwU 2 hts gX5_fewest_X5_spread_u46X4 rfl rfl rfl rfl (by decide +kernel) ⟨Nat.le_of_ble_eq_true rfl, Nat.le_of_ble_eq_true rfl⟩) (wP_V hK hP (ci := 4) (q0 := 0) rfl rfl hPc hDc) rfl rfl hl.1 rfl (lv_room (Nat.le_of_ble_eq_true rfl)) dX5_fewest_51 ⟨Nat.le_of_ble_eq_true rfl, Nat.le_of_ble_eq_true rfl⟩) hS (fun q9 _ h9 => hFc q9 h9) hFc (fun u9 t9 H locs ht9 hvm9 hw9 hB9 hz9 hk9 hS => ?_)
            obtain ⟨z12, z13, f14, f15, f16, f17⟩ := u9
            have hP : va_P G vwCl [(aP, .inr (4, [.ref bF, .ref bL, .ref bX, .ref bC, .int wSz, .int z12, .int z13, .ref aN, .int wCo])), (bF, .inl (cy 0, 4096, .inl f14)), (bL, .inl (cy 0, 4096, .inl f15)), (bX, .inl (cy 0, 24, .inl f16)), (bC, .inl (cy 0, 24, .inl f17)), (aN, .inr (3, [.ref aR, .int vn])), (aR, .inl (cy 0, 9, .inl fN))] H := P_back [0, 1, 2, 3, 4, 5, 6] [] 7 hP hD rfl rfl rfl rfl (by decide) (by decide) hk9 (by rw [← ht9]; exact hB9)
            have hD : va_D A [(aP, .inr (4, [.ref bF, .ref bL, .ref bX, .ref bC, .int wSz, .int z12, .int z13, .ref aN, .int wCo])), (bF, .inl (cy 0, 4096, .inl f14)), (bL, .inl (cy 0, 4096, .inl f15)), (bX, .inl (cy 0, 24, .inl f16)), (bC, .inl (cy 0, 24, .inl f17)), (aN, .inr (3, [.ref aR, .int vn])), (aR, .inl (cy 0, 9, .inl fN))] := D_same hD rfl
            specialize h z12 z13 f14 f15 f16 f17 hw9
            refine lv_aload_n hx hb dX5_fewest_54 rfl (lv_at hl 0 rfl) ?_
            refine va_get (D := G) (ci := 4) (v := .ref bF) (C := RX4) (T := TX4) (N := 9) hx hb hts iwX4 hown hK.1 hP 0 rfl rfl 0 (by decide) fl21 (fun _ h9 => h9) rfl dX5_fewest_55 ?_
            refine lv_iload_n hx hb dX5_fewest_58 rfl (lv_at hl 1 rfl) ?_
            obtain ⟨hi, h⟩ := h
            refine va_iald hx hb hK.1 hP 1 0 rfl rfl hi dX5_fewest_59 ?_
            refine lv_iconst (v := (-1)) hx hb dX5_fewest_60 (by decide) ?_
            refine lv_icmp_ne (tgt := 69) hx hb dX5_fewest_61 (by decide) (fun c18 => ?_) (fun c18 => ?_)
            · obtain ⟨-, h⟩ := h
              specialize h c18
              refine lv_aload_n hx hb dX5_fewest_69 rfl (lv_at hl 0 rfl) ?_
              refine va_get (D := G) (ci := 4) (v := .ref bF) (C := RX4) (T := TX4) (N := 9) hx hb hts iwX4 hown hK.1 hP 0 rfl rfl 0 (by decide) fl21 (fun _ h9 => h9) rfl dX5_fewest_70 ?_
              refine lv_iload_n hx hb dX5_fewest_73 rfl (lv_at hl 1 rfl) ?_
              obtain ⟨hi, h⟩ := h
              refine va_iald hx hb hK.1 hP 1 0 rfl rfl hi dX5_fewest_74 ?_
              rw [← hQe]
              exact W.iret (v := (f14 (p1 : Int32).toNatClampNeg)) hx hb hr (fun t ht hW => ⟨⟨(f14 (p1 : Int32).toNatClampNeg), (z12, z13, f14, f15, f16, f17), rfl, h, by dsimp only; rw [ht]; exact hP⟩, hS.F ht⟩) hS.2.2 dX5_fewest_75
            · obtain ⟨h, -⟩ := h
              specialize h c18
              refine lv_bipush (v := (-9)) hx hb dX5_fewest_64 (by decide) ?_
              refine lv_goto (tgt := 75) hx hb dX5_fewest_66 (by decide) ?_
              rw [← hQe]
              exact W.iret (v := (-9)) hx hb hr (fun t ht hW => ⟨⟨(-9), (z12, z13, f14, f15, f16, f17), rfl, h, by dsimp only; rw [ht]; exact hP⟩, hS.F ht⟩) hS.2.2 dX5_fewest_75
          · obtain ⟨h, -⟩ := h
            specialize h c9
            refine lv_bipush (v := (-9)) hx hb dX5_fewest_45 (by decide) ?_
            rw [← hQe]
            exact W.iret (v := (-9)) hx hb hr (fun t ht hW => ⟨⟨(-9), (wTl, wFo, gF, gL, gX, gC), rfl, h, by dsimp only; rw [ht]; exact hP⟩, hS.F ht⟩) hS.2.2 dX5_fewest_47
  · obtain ⟨h, -⟩ := h
    specialize h c1
    refine lv_iconst (v := 0) hx hb dX5_fewest_5 (by decide) ?_
    rw [← hQe]
    exact W.iret (v := 0) hx hb hr (fun t ht hW => ⟨⟨0, (wTl, wFo, gF, gL, gX, gC), rfl, h, by dsimp only; rw [ht]; exact hP⟩, hS.F ht⟩) hS.2.2 dX5_fewest_6

set_option maxHeartbeats 4000000 in
set_option maxRecDepth 100000 in
theorem ct_X5_components_P (l : Launch) (G : va_G) (cy : Nat → ClassId) (aP bF bL bX bC aN aR : Nat) (sz : Nat) (wSz : Int32) (wTl : Int32) (wFo : Int32) (wCo : Int32) (gF : Nat → Int32) (gL : Nat → Int32) (gX : Nat → Int32) (gC : Nat → Int32) (vn : Int32) (fN : Nat → Int32) (Q : Int32 → Int32 → Int32 → (Nat → Int32) → (Nat → Int32) → (Nat → Int32) → (Nat → Int32) → Prop) (h : wp_X5_components_P wSz wTl wFo wCo gF gL gX gC vn Q) : Met l yX5_components wsX5_components rmX5_components_P (va_Pc [.ref aP] (wP G cy sz [(aP, .inr (4, [.ref bF, .ref bL, .ref bX, .ref bC, .int wSz, .int wTl, .int wFo, .ref aN, .int wCo])), (bF, .inl (cy 0, 4096, .inl gF)), (bL, .inl (cy 0, 4096, .inl gL)), (bX, .inl (cy 0, 24, .inl gX)), (bC, .inl (cy 0, 24, .inl gC)), (aN, .inr (3, [.ref aR, .int vn])), (aR, .inl (cy 0, 9, .inl fN))])) (va_Qi (fun (r : Int32) (u : Int32 × Int32 × (Nat → Int32) × (Nat → Int32) × (Nat → Int32) × (Nat → Int32)) => Q r u.1 u.2.1 u.2.2.1 u.2.2.2.1 u.2.2.2.2.1 u.2.2.2.2.2) (fun (u : Int32 × Int32 × (Nat → Int32) × (Nat → Int32) × (Nat → Int32) × (Nat → Int32)) (t : State) => va_P G vwCl [(aP, .inr (4, [.ref bF, .ref bL, .ref bX, .ref bC, .int wSz, .int u.1, .int u.2.1, .ref aN, .int wCo])), (bF, .inl (cy 0, 4096, .inl u.2.2.1)), (bL, .inl (cy 0, 4096, .inl u.2.2.2.1)), (bX, .inl (cy 0, 24, .inl u.2.2.2.2.1)), (bC, .inl (cy 0, 24, .inl u.2.2.2.2.2)), (aN, .inr (3, [.ref aR, .int vn])), (aR, .inl (cy 0, 9, .inl fN))] t.heap) (va_A [(aP, .inr (4, [.ref bF, .ref bL, .ref bX, .ref bC, .int wSz, .int wTl, .int wFo, .ref aN, .int wCo])), (bF, .inl (cy 0, 4096, .inl gF)), (bL, .inl (cy 0, 4096, .inl gL)), (bX, .inl (cy 0, 24, .inl gX)), (bC, .inl (cy 0, 24, .inl gC)), (aN, .inr (3, [.ref aR, .int vn])), (aR, .inl (cy 0, 9, .inl fN))] sz)) 0 0 (va_A [(aP, .inr (4, [.ref bF, .ref bL, .ref bX, .ref bC, .int wSz, .int wTl, .int wFo, .ref aN, .int wCo])), (bF, .inl (cy 0, 4096, .inl gF)), (bL, .inl (cy 0, 4096, .inl gL)), (bX, .inl (cy 0, 24, .inl gX)), (bC, .inl (cy 0, 24, .inl gC)), (aN, .inr (3, [.ref aR, .int vn])), (aR, .inl (cy 0, 9, .inl fN))] sz) := by
  unfold wp_X5_components_P at h
  refine Met.ofW (cc := cX5_components) (maxL := 3) (ret := (some .int)) (by decide) rfl ?_
  intro p e s m args below meth c s₁ B hml hv
  obtain ⟨hav, hsz, hP, hK, hD0⟩ := hv
  have hx := B.exec
  have hb := B.bytes
  have hr := B.returns
  have hts := atoms_spec (ws := wsX5_components) B.pre
  have hown : s.vm.findClass RX5 = some m.cls := findClass_of_methodNamed B.named
  have hlocks := B.notSynchronized
  subst hsz
  have hD := hD0.self (sz := s.heap.size)
  generalize hAe : va_A [(aP, .inr (4, [.ref bF, .ref bL, .ref bX, .ref bC, .int wSz, .int wTl, .int wFo, .ref aN, .int wCo])), (bF, .inl (cy 0, 4096, .inl gF)), (bL, .inl (cy 0, 4096, .inl gL)), (bX, .inl (cy 0, 24, .inl gX)), (bC, .inl (cy 0, 24, .inl gC)), (aN, .inr (3, [.ref aR, .int vn])), (aR, .inl (cy 0, 9, .inl fN))] s.heap.size = A at hD ⊢
  have hA : ∀ q : Nat, s.heap.size ≤ q → A q := fun q h9 => by rw [← hAe]; exact Or.inr h9
  have hS : va_S A s.heap s.heap [] := va_S.rf
  have hl := lv_entry ([.ref aP]) (n := 3) (Nat.le_of_ble_eq_true rfl)
  rw [show entryFrame m args 3 = entryFrame m ([.ref aP] : List Value).toArray 3 by rw [hav], lg_entry_eq]
  generalize (lg_sl ([.ref aP]) ++ List.replicate (3 - (lg_sl ([.ref aP])).length) Slot.unset).toArray = ls at hl ⊢
  have hl : lv_has ls 3 [(0, .ref aP)] := hl
  generalize hQe : MQ below _ _ _ _ _ _ = QM
  have hP : va_P G vwCl [(aP, .inr (4, [.ref bF, .ref bL, .ref bX, .ref bC, .int wSz, .int wTl, .int wFo, .ref aN, .int wCo])), (bF, .inl (cy 0, 4096, .inl gF)), (bL, .inl (cy 0, 4096, .inl gL)), (bX, .inl (cy 0, 24, .inl gX)), (bC, .inl (cy 0, 24, .inl gC)), (aN, .inr (3, [.ref aR, .int vn])), (aR, .inl (cy 0, 9, .inl fN))] s.heap := hP
  have iwX4 : ∀ w ∈ wsX40, w ∈ wsX5_components := by decide +kernel
  have fl9 := hts (.fieldLink RX5 9 "SlidTokens$Search" "size" "I") (by decide +kernel)
  have fl21 := hts (.fieldLink RX5 21 "SlidTokens$Search" "far" "[I") (by decide +kernel)
  suffices K9 : ∀ (H : Heap) (locs : List Loc), va_P G vwCl [(aP, .inr (4, [.ref bF, .ref bL, .ref bX, .ref bC, .int wSz, .int wTl, .int wFo, .ref aN, .int wCo])), (bF, .inl (cy 0, 4096, .inl gF)), (bL, .inl (cy 0, 4096, .inl gL)), (bX, .inl (cy 0, 24, .inl gX)), (bC, .inl (cy 0, 24, .inl gC)), (aN, .inr (3, [.ref aR, .int vn])), (aR, .inl (cy 0, 9, .inl fN))] H → va_D A [(aP, .inr (4, [.ref bF, .ref bL, .ref bX, .ref bC, .int wSz, .int wTl, .int wFo, .ref aN, .int wCo])), (bF, .inl (cy 0, 4096, .inl gF)), (bL, .inl (cy 0, 4096, .inl gL)), (bX, .inl (cy 0, 24, .inl gX)), (bC, .inl (cy 0, 24, .inl gC)), (aN, .inr (3, [.ref aR, .int vn])), (aR, .inl (cy 0, 9, .inl fN))] → va_S A s.heap H locs → W p l e (headSpec wsX5_components rmX5_components_P).room s m args below meth c H locs 0 0 QM (F0 m 0 ls []) from K9 _ _ hP hD hS
  clear hP hD hS
  intro H locs hP hD hS
  refine lv_iconst (v := 0) hx hb dX5_components_0 (by decide) ?_
  refine lv_istore_n (lv' := [(1, .int 0), (0, .ref aP)]) hx hb dX5_components_1 rfl hl (by decide) rfl (fun ls hl => ?_)
  refine lv_iconst (v := 0) hx hb dX5_components_2 (by decide) ?_
  refine lv_istore_n (lv' := [(2, .int 0), (1, .int 0), (0, .ref aP)]) hx hb dX5_components_3 rfl hl (by decide) rfl (fun ls hl => ?_)
  obtain ⟨I4_8, u4_8, h04, hst4⟩ := h
  have key4 : ∀ (k9 : Nat) (y1 : Int32) (y2 : Int32) (z3 : Int32) (z4 : Int32) (f5 : Nat → Int32) (f6 : Nat → Int32) (f7 : Nat → Int32) (f8 : Nat → Int32), I4_8 y1 y2 z3 z4 f5 f6 f7 f8 → u4_8 y1 y2 z3 z4 f5 f6 f7 f8 < k9 → ∀ (H : Heap) (locs : List Loc), va_P G vwCl [(aP, .inr (4, [.ref bF, .ref bL, .ref bX, .ref bC, .int wSz, .int z3, .int z4, .ref aN, .int wCo])), (bF, .inl (cy 0, 4096, .inl f5)), (bL, .inl (cy 0, 4096, .inl f6)), (bX, .inl (cy 0, 24, .inl f7)), (bC, .inl (cy 0, 24, .inl f8)), (aN, .inr (3, [.ref aR, .int vn])), (aR, .inl (cy 0, 9, .inl fN))] H → va_D A [(aP, .inr (4, [.ref bF, .ref bL, .ref bX, .ref bC, .int wSz, .int z3, .int z4, .ref aN, .int wCo])), (bF, .inl (cy 0, 4096, .inl f5)), (bL, .inl (cy 0, 4096, .inl f6)), (bX, .inl (cy 0, 24, .inl f7)), (bC, .inl (cy 0, 24, .inl f8)), (aN, .inr (3, [.ref aR, .int vn])), (aR, .inl (cy 0, 9, .inl fN))] → va_S A s.heap H locs → ∀ (ls : Array Slot), lv_has ls 3 [(0, .ref aP), (1, .int y1), (2, .int y2)] → W p l e (headSpec wsX5_components rmX5_components_P).room s m args below meth c H locs 0 0 QM (F0 m 4 ls []) := by
    intro k9
    induction k9 with
    | zero =>
      intro y1 y2 z3 z4 f5 f6 f7 f8 hI9 hk9
      exact absurd hk9 (Nat.not_lt_zero _)
    | succ k9 ih4 =>
      intro y1 y2 z3 z4 f5 f6 f7 f8 hI9 hk4 H locs hP hD hS ls hl
      have h := hst4 y1 y2 z3 z4 f5 f6 f7 f8 hI9
      refine lv_iload_n hx hb dX5_components_4 rfl (lv_at hl 2 rfl) ?_
      refine lv_aload_n hx hb dX5_components_5 rfl (lv_at hl 0 rfl) ?_
      refine va_get (D := G) (ci := 4) (v := .int wSz) (C := RX4) (T := TX4) (N := 9) hx hb hts iwX4 hown hK.1 hP 0 rfl rfl 4 (by decide) fl9 (fun _ h9 => h9) rfl dX5_components_6 ?_
      refine lv_icmp_ge (tgt := 37) hx hb dX5_components_9 (by decide) (fun c9 => ?_) (fun c9 => ?_)
      · obtain ⟨h, -⟩ := h
        specialize h c9
        refine lv_iload_n hx hb dX5_components_37 rfl (lv_at hl 1 rfl) ?_
        rw [← hQe]
        exact W.iret (v := y1) hx hb hr (fun t ht hW => ⟨⟨y1, (z3, z4, f5, f6, f7, f8), rfl, h, by dsimp only; rw [ht]; exact hP⟩, hS.F ht⟩) hS.2.2 dX5_components_38
      · obtain ⟨-, h⟩ := h
        specialize h c9
        refine lv_aload_n hx hb dX5_components_12 rfl (lv_at hl 0 rfl) ?_
        refine va_get (D := G) (ci := 4) (v := .ref bF) (C := RX4) (T := TX4) (N := 9) hx hb hts iwX4 hown hK.1 hP 0 rfl rfl 0 (by decide) fl21 (fun _ h9 => h9) rfl dX5_components_13 ?_
        refine lv_iload_n hx hb dX5_components_16 rfl (lv_at hl 2 rfl) ?_
        obtain ⟨hi, h⟩ := h
        refine va_iald hx hb hK.1 hP 1 0 rfl rfl hi dX5_components_17 ?_
        refine lv_iconst (v := (-1)) hx hb dX5_components_18 (by decide) ?_
        refine lv_icmp_ne (tgt := 31) hx hb dX5_components_19 (by decide) (fun c10 => ?_) (fun c10 => ?_)
        · obtain ⟨-, h⟩ := h
          specialize h c10
          obtain ⟨x11, ex11⟩ : ∃ y : Int32, y = y2 + 1 := ⟨_, rfl⟩
          specialize h x11 ex11
          refine lv_iinc (v := x11) (lv' := [(2, .int x11), (0, .ref aP), (1, .int y1)]) hx hb dX5_components_31 hl (k := 2) rfl (by rw [ex11]; rfl) (by decide) rfl (fun ls hl => ?_)
          refine lv_goto (tgt := 4) hx hb dX5_components_34 (by decide) ?_
          exact ih4 y1 x11 z3 z4 f5 f6 f7 f8 h.1 (Nat.lt_of_lt_of_le h.2 (Nat.le_of_lt_succ hk4)) _ _ hP hD hS _ (lv_sub hl [1, 2, 0] rfl)
        · obtain ⟨h, -⟩ := h
          specialize h c10
          refine lv_aload_n hx hb dX5_components_22 rfl (lv_at hl 0 rfl) ?_
          refine lv_iload_n hx hb dX5_components_23 rfl (lv_at hl 2 rfl) ?_
          refine lv_iconst (v := (-1)) hx hb dX5_components_24 (by decide) ?_
          obtain ⟨Q12, hw9, h⟩ := h
          have hPc : va_P G vwCl [(aP, .inr (4, [.ref bF, .ref bL, .ref bX, .ref bC, .int wSz, .int z3, .int z4, .ref aN, .int wCo])), (bF, .inl (cy 0, 4096, .inl f5)), (bL, .inl (cy 0, 4096, .inl f6)), (bX, .inl (cy 0, 24, .inl f7)), (bC, .inl (cy 0, 24, .inl f8)), (aN, .inr (3, [.ref aR, .int vn])), (aR, .inl (cy 0, 9, .inl fN))] H := hP.sub [0, 1, 2, 3, 4, 5, 6] rfl
          have hDc : va_D A [(aP, .inr (4, [.ref bF, .ref bL, .ref bX, .ref bC, .int wSz, .int z3, .int z4, .ref aN, .int wCo])), (bF, .inl (cy 0, 4096, .inl f5)), (bL, .inl (cy 0, 4096, .inl f6)), (bX, .inl (cy 0, 24, .inl f7)), (bC, .inl (cy 0, 24, .inl f8)), (aN, .inr (3, [.ref aR, .int vn])), (aR, .inl (cy 0, 9, .inl fN))] := hD.sub [0, 1, 2, 3, 4, 5, 6] (by decide) rfl
          have hFc := va_free (wc := [(aP, .inr (4, [.ref bF, .ref bL, .ref bX, .ref bC, .int wSz, .int z3, .int z4, .ref aN, .int wCo])), (bF, .inl (cy 0, 4096, .inl f5)), (bL, .inl (cy 0, 4096, .inl f6)), (bX, .inl (cy 0, 24, .inl f7)), (bC, .inl (cy 0, 24, .inl f8)), (aN, .inr (3, [.ref aR, .int vn])), (aR, .inl (cy 0, 9, .inl fN))]) hD hS hA [0, 1, 2, 3, 4, 5, 6] rfl
          refine va_callv (va_runU (As := [.int y2, .int (-1)]) (rest := []) ⟨hx, hb, hml, hown, hts⟩ (ct_X5_spread_P l G cy aP bF bL bX bC aN aR H.size wSz z3 z4 wCo f5 f6 f7 f8 vn fN y2 (-1) Q12 hw9) (va_cwU 2 hts gX5_components_X5_spread_u46X4 rfl rfl rfl rfl (by decide +kernel) ⟨Nat.le_of_ble_eq_true rfl, Nat.le_of_ble_eq_true rfl⟩) (wP_V hK hP (ci := 4) (q0 := 0) rfl rfl hPc hDc) rfl rfl hl.1 rfl (lv_room (Nat.le_of_ble_eq_true rfl)) dX5_components_25 ⟨Nat.le_of_ble_eq_true rfl, Nat.le_of_ble_eq_true rfl⟩) hS (fun q9 _ h9 => hFc q9 h9) hFc (fun u9 t9 H locs ht9 hvm9 hw9 hB9 hz9 hk9 hS => ?_)
          obtain ⟨z14, z15, f16, f17, f18, f19⟩ := u9
          have hP : va_P G vwCl [(aP, .inr (4, [.ref bF, .ref bL, .ref bX, .ref bC, .int wSz, .int z14, .int z15, .ref aN, .int wCo])), (bF, .inl (cy 0, 4096, .inl f16)), (bL, .inl (cy 0, 4096, .inl f17)), (bX, .inl (cy 0, 24, .inl f18)), (bC, .inl (cy 0, 24, .inl f19)), (aN, .inr (3, [.ref aR, .int vn])), (aR, .inl (cy 0, 9, .inl fN))] H := P_back [0, 1, 2, 3, 4, 5, 6] [] 7 hP hD rfl rfl rfl rfl (by decide) (by decide) hk9 (by rw [← ht9]; exact hB9)
          have hD : va_D A [(aP, .inr (4, [.ref bF, .ref bL, .ref bX, .ref bC, .int wSz, .int z14, .int z15, .ref aN, .int wCo])), (bF, .inl (cy 0, 4096, .inl f16)), (bL, .inl (cy 0, 4096, .inl f17)), (bX, .inl (cy 0, 24, .inl f18)), (bC, .inl (cy 0, 24, .inl f19)), (aN, .inr (3, [.ref aR, .int vn])), (aR, .inl (cy 0, 9, .inl fN))] := D_same hD rfl
          specialize h z14 z15 f16 f17 f18 f19 hw9
          obtain ⟨x20, ex20⟩ : ∃ y : Int32, y = y1 + 1 := ⟨_, rfl⟩
          specialize h x20 ex20
          refine lv_iinc (v := x20) (lv' := [(1, .int x20), (0, .ref aP), (2, .int y2)]) hx hb dX5_components_28 hl (k := 1) rfl (by rw [ex20]; rfl) (by decide) rfl (fun ls hl => ?_)
          obtain ⟨x21, ex21⟩ : ∃ y : Int32, y = y2 + 1 := ⟨_, rfl⟩
          specialize h x21 ex21
          refine lv_iinc (v := x21) (lv' := [(2, .int x21), (1, .int x20), (0, .ref aP)]) hx hb dX5_components_31 hl (k := 2) rfl (by rw [ex21]; rfl) (by decide) rfl (fun ls hl => ?_)
          refine lv_goto (tgt := 4) hx hb dX5_components_34 (by decide) ?_
          exact ih4 x20 x21 z14 z15 f16 f17 f18 f19 h.1 (Nat.lt_of_lt_of_le h.2 (Nat.le_of_lt_succ hk4)) _ _ hP hD hS _ (lv_sub hl [2, 1, 0] rfl)
  exact key4 _ 0 0 wTl wFo gF gL gX gC h04 (Nat.lt_succ_self _) _ _ hP hD hS _ (lv_sub hl [2, 1, 0] rfl)

set_option maxHeartbeats 4000000 in
set_option maxRecDepth 100000 in
theorem ct_X4_begin (l : Launch) (G : va_G) (cy : Nat → ClassId) (aP bF bL bX bC aN aR : Nat) (sz : Nat) (wSz : Int32) (wTl : Int32) (wFo : Int32) (wCo : Int32) (gF : Nat → Int32) (gL : Nat → Int32) (gX : Nat → Int32) (gC : Nat → Int32) (vn : Int32) (fN : Nat → Int32) (p1 : Int32) (Q : Int32 → Int32 → Int32 → (Nat → Int32) → Prop) (h : wp_X4_begin wSz wTl wCo gF vn fN p1 Q) : Met l yX4_begin wsX4_begin rmX4_begin (va_Pc [.ref aP, .int p1] (wP G cy sz [(aP, .inr (4, [.ref bF, .ref bL, .ref bX, .ref bC, .int wSz, .int wTl, .int wFo, .ref aN, .int wCo])), (bF, .inl (cy 0, 4096, .inl gF)), (bL, .inl (cy 0, 4096, .inl gL)), (bX, .inl (cy 0, 24, .inl gX)), (bC, .inl (cy 0, 24, .inl gC)), (aN, .inr (3, [.ref aR, .int vn])), (aR, .inl (cy 0, 9, .inl fN))])) (va_Qv (fun (u : Int32 × Int32 × Int32 × (Nat → Int32)) => Q u.1 u.2.1 u.2.2.1 u.2.2.2) (fun (u : Int32 × Int32 × Int32 × (Nat → Int32)) (t : State) => va_P G vwCl [(aP, .inr (4, [.ref bF, .ref bL, .ref bX, .ref bC, .int u.1, .int u.2.1, .int wFo, .ref aN, .int u.2.2.1])), (bF, .inl (cy 0, 4096, .inl u.2.2.2)), (bL, .inl (cy 0, 4096, .inl gL)), (bX, .inl (cy 0, 24, .inl gX)), (bC, .inl (cy 0, 24, .inl gC)), (aN, .inr (3, [.ref aR, .int vn])), (aR, .inl (cy 0, 9, .inl fN))] t.heap) (va_A [(aP, .inr (4, [.ref bF, .ref bL, .ref bX, .ref bC, .int wSz, .int wTl, .int wFo, .ref aN, .int wCo])), (bF, .inl (cy 0, 4096, .inl gF)), (bL, .inl (cy 0, 4096, .inl gL)), (bX, .inl (cy 0, 24, .inl gX)), (bC, .inl (cy 0, 24, .inl gC)), (aN, .inr (3, [.ref aR, .int vn])), (aR, .inl (cy 0, 9, .inl fN))] sz)) 0 0 (va_A [(aP, .inr (4, [.ref bF, .ref bL, .ref bX, .ref bC, .int wSz, .int wTl, .int wFo, .ref aN, .int wCo])), (bF, .inl (cy 0, 4096, .inl gF)), (bL, .inl (cy 0, 4096, .inl gL)), (bX, .inl (cy 0, 24, .inl gX)), (bC, .inl (cy 0, 24, .inl gC)), (aN, .inr (3, [.ref aR, .int vn])), (aR, .inl (cy 0, 9, .inl fN))] sz) := by
  unfold wp_X4_begin at h
  refine Met.ofW (cc := cX4_begin) (maxL := 3) (ret := none) (by decide) rfl ?_
  intro p e s m args below meth c s₁ B hml hv
  obtain ⟨hav, hsz, hP, hK, hD0⟩ := hv
  have hx := B.exec
  have hb := B.bytes
  have hr := B.returns
  have hts := atoms_spec (ws := wsX4_begin) B.pre
  have hown : s.vm.findClass RX4 = some m.cls := findClass_of_methodNamed B.named
  have hlocks := B.notSynchronized
  subst hsz
  have hD := hD0.self (sz := s.heap.size)
  generalize hAe : va_A [(aP, .inr (4, [.ref bF, .ref bL, .ref bX, .ref bC, .int wSz, .int wTl, .int wFo, .ref aN, .int wCo])), (bF, .inl (cy 0, 4096, .inl gF)), (bL, .inl (cy 0, 4096, .inl gL)), (bX, .inl (cy 0, 24, .inl gX)), (bC, .inl (cy 0, 24, .inl gC)), (aN, .inr (3, [.ref aR, .int vn])), (aR, .inl (cy 0, 9, .inl fN))] s.heap.size = A at hD ⊢
  have hA : ∀ q : Nat, s.heap.size ≤ q → A q := fun q h9 => by rw [← hAe]; exact Or.inr h9
  have hS : va_S A s.heap s.heap [] := va_S.rf
  have hl := lv_entry ([.ref aP, .int p1]) (n := 3) (Nat.le_of_ble_eq_true rfl)
  rw [show entryFrame m args 3 = entryFrame m ([.ref aP, .int p1] : List Value).toArray 3 by rw [hav], lg_entry_eq]
  generalize (lg_sl ([.ref aP, .int p1]) ++ List.replicate (3 - (lg_sl ([.ref aP, .int p1])).length) Slot.unset).toArray = ls at hl ⊢
  have hl : lv_has ls 3 [(0, .ref aP), (1, .int p1)] := hl
  generalize hQe : MQ below _ _ _ _ _ _ = QM
  have hP : va_P G vwCl [(aP, .inr (4, [.ref bF, .ref bL, .ref bX, .ref bC, .int wSz, .int wTl, .int wFo, .ref aN, .int wCo])), (bF, .inl (cy 0, 4096, .inl gF)), (bL, .inl (cy 0, 4096, .inl gL)), (bX, .inl (cy 0, 24, .inl gX)), (bC, .inl (cy 0, 24, .inl gC)), (aN, .inr (3, [.ref aR, .int vn])), (aR, .inl (cy 0, 9, .inl fN))] s.heap := hP
  have iwX4 : ∀ w ∈ wsX40, w ∈ wsX4_begin := by decide +kernel
  have fl9 := hts (.fieldLink RX4 9 "SlidTokens$Paints" "colours" "I") (by decide +kernel)
  have fl15 := hts (.fieldLink RX4 15 "SlidTokens$Paints" "net" "LSlidTokens$Net;") (by decide +kernel)
  have iwX3 : ∀ w ∈ wsX30, w ∈ wsX4_begin := by decide +kernel
  have fl19 := hts (.fieldLink RX4 19 "SlidTokens$Net" "nodes" "I") (by decide +kernel)
  have fl24 := hts (.fieldLink RX4 24 "SlidTokens$Paints" "far" "[I") (by decide +kernel)
  have sf24 := hts (.sameField "SlidTokens$Paints" "SlidTokens$Search" "far" "[I") (by decide +kernel)
  have fl34 := hts (.fieldLink RX4 34 "SlidTokens$Paints" "size" "I") (by decide +kernel)
  have sf34 := hts (.sameField "SlidTokens$Paints" "SlidTokens$Search" "size" "I") (by decide +kernel)
  have fl37 := hts (.fieldLink RX4 37 "SlidTokens$Paints" "tail" "I") (by decide +kernel)
  have sf37 := hts (.sameField "SlidTokens$Paints" "SlidTokens$Search" "tail" "I") (by decide +kernel)
  suffices K9 : ∀ (H : Heap) (locs : List Loc), va_P G vwCl [(aP, .inr (4, [.ref bF, .ref bL, .ref bX, .ref bC, .int wSz, .int wTl, .int wFo, .ref aN, .int wCo])), (bF, .inl (cy 0, 4096, .inl gF)), (bL, .inl (cy 0, 4096, .inl gL)), (bX, .inl (cy 0, 24, .inl gX)), (bC, .inl (cy 0, 24, .inl gC)), (aN, .inr (3, [.ref aR, .int vn])), (aR, .inl (cy 0, 9, .inl fN))] H → va_D A [(aP, .inr (4, [.ref bF, .ref bL, .ref bX, .ref bC, .int wSz, .int wTl, .int wFo, .ref aN, .int wCo])), (bF, .inl (cy 0, 4096, .inl gF)), (bL, .inl (cy 0, 4096, .inl gL)), (bX, .inl (cy 0, 24, .inl gX)), (bC, .inl (cy 0, 24, .inl gC)), (aN, .inr (3, [.ref aR, .int vn])), (aR, .inl (cy 0, 9, .inl fN))] → va_S A s.heap H locs → W p l e (headSpec wsX4_begin rmX4_begin).room s m args below meth c H locs 0 0 QM (F0 m 0 ls []) from K9 _ _ hP hD hS
  clear hP hD hS
  intro H locs hP hD hS
  refine lv_aload_n hx hb dX4_begin_0 rfl (lv_at hl 0 rfl) ?_
  refine lv_iload_n hx hb dX4_begin_1 rfl (lv_at hl 1 rfl) ?_
  refine va_put (D := G) (ci := 4) (v := .int p1) (ty := .int) (C := RX4) (T := TX4) (N := 9) hx hb hts iwX4 tyX4 tyX4_ok nmX4 hown hK.1 hP hD hS 0 rfl rfl 8 (by decide) fl9 (fun _ h9 => h9) rfl (by decide +kernel) rfl rfl (Nat.le_of_ble_eq_true rfl) dX4_begin_2 (fun H locs hP hD hS => ?_)
  have hP : va_P G vwCl [(aP, .inr (4, [.ref bF, .ref bL, .ref bX, .ref bC, .int wSz, .int wTl, .int wFo, .ref aN, .int p1])), (bF, .inl (cy 0, 4096, .inl gF)), (bL, .inl (cy 0, 4096, .inl gL)), (bX, .inl (cy 0, 24, .inl gX)), (bC, .inl (cy 0, 24, .inl gC)), (aN, .inr (3, [.ref aR, .int vn])), (aR, .inl (cy 0, 9, .inl fN))] H := hP
  have hD : va_D A [(aP, .inr (4, [.ref bF, .ref bL, .ref bX, .ref bC, .int wSz, .int wTl, .int wFo, .ref aN, .int p1])), (bF, .inl (cy 0, 4096, .inl gF)), (bL, .inl (cy 0, 4096, .inl gL)), (bX, .inl (cy 0, 24, .inl gX)), (bC, .inl (cy 0, 24, .inl gC)), (aN, .inr (3, [.ref aR, .int vn])), (aR, .inl (cy 0, 9, .inl fN))] := hD
  refine lv_aload_n hx hb dX4_begin_5 rfl (lv_at hl 0 rfl) ?_
  refine lv_iconst (v := 1) hx hb dX4_begin_6 (by decide) ?_
  refine lv_iconst (v := 2) hx hb dX4_begin_7 (by decide) ?_
  refine lv_aload_n hx hb dX4_begin_8 rfl (lv_at hl 0 rfl) ?_
  refine va_get (D := G) (ci := 4) (v := .ref aN) (C := RX4) (T := TX4) (N := 9) hx hb hts iwX4 hown hK.1 hP 0 rfl rfl 7 (by decide) fl15 (fun _ h9 => h9) rfl dX4_begin_9 ?_
  refine va_get (D := G) (ci := 3) (v := .int vn) (C := RX3) (T := TX3) (N := 2) hx hb hts iwX3 hown hK.1 hP 5 rfl rfl 1 (by decide) fl19 (fun _ h9 => h9) rfl dX4_begin_12 ?_
  refine lv_imul hx hb dX4_begin_15 ?_
  refine lv_ishl hx hb dX4_begin_16 ?_
  refine lv_aload_n hx hb dX4_begin_17 rfl (lv_at hl 0 rfl) ?_
  refine va_get (D := G) (ci := 4) (v := .ref bF) (C := RX4) (T := TX4) (N := 9) hx hb hts iwX4 hown hK.1 hP 0 rfl rfl 0 (by decide) fl24 (fun x9 h9 => u_same sf24 x9 h9) rfl dX4_begin_18 ?_
  refine va_alen hx hb hK.1 hP 1 0 rfl rfl (v := 4096) rfl dX4_begin_21 ?_
  refine va_mmin hx hb (by rw [hml]; exact hl.1.symm) hown (hts (.methodLink RX4 28 Lib.Math.min.name) (by decide +kernel)) (hts (.static Lib.Math.min.name) (by decide +kernel)) (hts (.initialized "java/lang/Math") (by decide +kernel)) (hts (.code Lib.Math.min.name Lib.Math.min.code 2 (some .int)) (by decide +kernel)) (Nat.le_of_ble_eq_true rfl) (Nat.le_of_ble_eq_true rfl) (Nat.zero_le _) (Nat.zero_le _) dX4_begin_22 ?_
  refine lv_topi (fun x1 ex1 => ?_)
  specialize h x1 ex1
  refine va_put (D := G) (ci := 4) (v := .int x1) (ty := .int) (C := RX4) (T := TX4) (N := 9) hx hb hts iwX4 tyX4 tyX4_ok nmX4 hown hK.1 hP hD hS 0 rfl rfl 4 (by decide) fl34 (fun x9 h9 => u_same sf34 x9 h9) rfl (by decide +kernel) rfl rfl (Nat.le_of_ble_eq_true rfl) dX4_begin_25 (fun H locs hP hD hS => ?_)
  have hP : va_P G vwCl [(aP, .inr (4, [.ref bF, .ref bL, .ref bX, .ref bC, .int x1, .int wTl, .int wFo, .ref aN, .int p1])), (bF, .inl (cy 0, 4096, .inl gF)), (bL, .inl (cy 0, 4096, .inl gL)), (bX, .inl (cy 0, 24, .inl gX)), (bC, .inl (cy 0, 24, .inl gC)), (aN, .inr (3, [.ref aR, .int vn])), (aR, .inl (cy 0, 9, .inl fN))] H := hP
  have hD : va_D A [(aP, .inr (4, [.ref bF, .ref bL, .ref bX, .ref bC, .int x1, .int wTl, .int wFo, .ref aN, .int p1])), (bF, .inl (cy 0, 4096, .inl gF)), (bL, .inl (cy 0, 4096, .inl gL)), (bX, .inl (cy 0, 24, .inl gX)), (bC, .inl (cy 0, 24, .inl gC)), (aN, .inr (3, [.ref aR, .int vn])), (aR, .inl (cy 0, 9, .inl fN))] := hD
  refine lv_aload_n hx hb dX4_begin_28 rfl (lv_at hl 0 rfl) ?_
  refine lv_iconst (v := 0) hx hb dX4_begin_29 (by decide) ?_
  refine va_put (D := G) (ci := 4) (v := .int 0) (ty := .int) (C := RX4) (T := TX4) (N := 9) hx hb hts iwX4 tyX4 tyX4_ok nmX4 hown hK.1 hP hD hS 0 rfl rfl 5 (by decide) fl37 (fun x9 h9 => u_same sf37 x9 h9) rfl (by decide +kernel) rfl rfl (Nat.le_of_ble_eq_true rfl) dX4_begin_30 (fun H locs hP hD hS => ?_)
  have hP : va_P G vwCl [(aP, .inr (4, [.ref bF, .ref bL, .ref bX, .ref bC, .int x1, .int 0, .int wFo, .ref aN, .int p1])), (bF, .inl (cy 0, 4096, .inl gF)), (bL, .inl (cy 0, 4096, .inl gL)), (bX, .inl (cy 0, 24, .inl gX)), (bC, .inl (cy 0, 24, .inl gC)), (aN, .inr (3, [.ref aR, .int vn])), (aR, .inl (cy 0, 9, .inl fN))] H := hP
  have hD : va_D A [(aP, .inr (4, [.ref bF, .ref bL, .ref bX, .ref bC, .int x1, .int 0, .int wFo, .ref aN, .int p1])), (bF, .inl (cy 0, 4096, .inl gF)), (bL, .inl (cy 0, 4096, .inl gL)), (bX, .inl (cy 0, 24, .inl gX)), (bC, .inl (cy 0, 24, .inl gC)), (aN, .inr (3, [.ref aR, .int vn])), (aR, .inl (cy 0, 9, .inl fN))] := hD
  refine lv_iconst (v := 0) hx hb dX4_begin_33 (by decide) ?_
  refine lv_istore_n (lv' := [(2, .int 0), (0, .ref aP), (1, .int p1)]) hx hb dX4_begin_34 rfl hl (by decide) rfl (fun ls hl => ?_)
  obtain ⟨I35_3, u35_3, h035, hst35⟩ := h
  have key35 : ∀ (k9 : Nat) (y2 : Int32) (f3 : Nat → Int32), I35_3 y2 f3 → u35_3 y2 f3 < k9 → ∀ (H : Heap) (locs : List Loc), va_P G vwCl [(aP, .inr (4, [.ref bF, .ref bL, .ref bX, .ref bC, .int x1, .int 0, .int wFo, .ref aN, .int p1])), (bF, .inl (cy 0, 4096, .inl f3)), (bL, .inl (cy 0, 4096, .inl gL)), (bX, .inl (cy 0, 24, .inl gX)), (bC, .inl (cy 0, 24, .inl gC)), (aN, .inr (3, [.ref aR, .int vn])), (aR, .inl (cy 0, 9, .inl fN))] H → va_D A [(aP, .inr (4, [.ref bF, .ref bL, .ref bX, .ref bC, .int x1, .int 0, .int wFo, .ref aN, .int p1])), (bF, .inl (cy 0, 4096, .inl f3)), (bL, .inl (cy 0, 4096, .inl gL)), (bX, .inl (cy 0, 24, .inl gX)), (bC, .inl (cy 0, 24, .inl gC)), (aN, .inr (3, [.ref aR, .int vn])), (aR, .inl (cy 0, 9, .inl fN))] → va_S A s.heap H locs → ∀ (ls : Array Slot), lv_has ls 3 [(0, .ref aP), (2, .int y2)] → W p l e (headSpec wsX4_begin rmX4_begin).room s m args below meth c H locs 0 0 QM (F0 m 35 ls []) := by
    intro k9
    induction k9 with
    | zero =>
      intro y2 f3 hI9 hk9
      exact absurd hk9 (Nat.not_lt_zero _)
    | succ k9 ih35 =>
      intro y2 f3 hI9 hk35 H locs hP hD hS ls hl
      have h := hst35 y2 f3 hI9
      refine lv_iload_n hx hb dX4_begin_35 rfl (lv_at hl 1 rfl) ?_
      refine lv_aload_n hx hb dX4_begin_36 rfl (lv_at hl 0 rfl) ?_
      refine va_get (D := G) (ci := 4) (v := .int x1) (C := RX4) (T := TX4) (N := 9) hx hb hts iwX4 hown hK.1 hP 0 rfl rfl 4 (by decide) fl34 (fun x9 h9 => u_same sf34 x9 h9) rfl dX4_begin_37 ?_
      refine lv_icmp_ge (tgt := 73) hx hb dX4_begin_40 (by decide) (fun c4 => ?_) (fun c4 => ?_)
      · obtain ⟨h, -⟩ := h
        specialize h c4
        rw [← hQe]
        exact W.vret hx hb hr (fun t ht hW => ⟨⟨(x1, 0, p1, f3), rfl, h, by dsimp only; rw [ht]; exact hP⟩, hS.F ht⟩) hS.2.2 dX4_begin_73
      · obtain ⟨-, h⟩ := h
        specialize h c4
        refine lv_aload_n hx hb dX4_begin_43 rfl (lv_at hl 0 rfl) ?_
        refine va_get (D := G) (ci := 4) (v := .ref bF) (C := RX4) (T := TX4) (N := 9) hx hb hts iwX4 hown hK.1 hP 0 rfl rfl 0 (by decide) fl24 (fun x9 h9 => u_same sf24 x9 h9) rfl dX4_begin_44 ?_
        refine lv_iload_n hx hb dX4_begin_47 rfl (lv_at hl 1 rfl) ?_
        refine lv_aload_n hx hb dX4_begin_48 rfl (lv_at hl 0 rfl) ?_
        refine lv_iload_n hx hb dX4_begin_49 rfl (lv_at hl 1 rfl) ?_
        refine lv_aload_n hx hb dX4_begin_50 rfl (lv_at hl 0 rfl) ?_
        refine va_get (D := G) (ci := 4) (v := .int p1) (C := RX4) (T := TX4) (N := 9) hx hb hts iwX4 hown hK.1 hP 0 rfl rfl 8 (by decide) fl9 (fun _ h9 => h9) rfl dX4_begin_51 ?_
        obtain ⟨Q5, hw9, h⟩ := h
        have hPc : va_P G vwCl [(aP, .inr (4, [.ref bF, .ref bL, .ref bX, .ref bC, .int x1, .int 0, .int wFo, .ref aN, .int p1])), (bF, .inl (cy 0, 4096, .inl f3)), (bL, .inl (cy 0, 4096, .inl gL)), (bX, .inl (cy 0, 24, .inl gX)), (bC, .inl (cy 0, 24, .inl gC)), (aN, .inr (3, [.ref aR, .int vn])), (aR, .inl (cy 0, 9, .inl fN))] H := hP.sub [0, 1, 2, 3, 4, 5, 6] rfl
        refine vp_callSi (va_Run.run (va_runV (As := [.int y2, .int p1]) (rest := [.int y2, .ref bF]) ⟨hx, hb, hml, hown, hts⟩ (ct_X4_isLawful l G cy aP bF bL bX bC aN aR x1 0 wFo p1 f3 gL gX gC vn fN y2 p1 Q5 hw9) (cwV 2 hts gX4_begin_X4_isLawful rfl rfl rfl (by decide +kernel) ⟨Nat.le_of_ble_eq_true rfl, Nat.le_of_ble_eq_true rfl⟩) (rP_V hK hP (ci := 4) (q0 := 0) rfl rfl hPc) rfl rfl hl.1 rfl (lv_room (Nat.le_of_ble_eq_true rfl)) dX4_begin_54 ⟨Nat.le_of_ble_eq_true rfl, Nat.le_of_ble_eq_true rfl⟩)) (fun r6 er6 => ?_)
        specialize h r6 er6
        refine lv_if_eq (tgt := 64) hx hb dX4_begin_57 (by decide) (fun c7 => ?_) (fun c7 => ?_)
        · obtain ⟨h, -⟩ := h
          specialize h c7
          refine lv_bipush (v := (-2)) hx hb dX4_begin_64 (by decide) ?_
          obtain ⟨hi, h⟩ := h
          refine va_iast hx hb hK.1 hP hD hS 1 0 rfl rfl hi dX4_begin_66 (fun H locs hP hD hS => ?_)
          obtain ⟨f8, ef8⟩ : ∃ z9 : Nat → Int32, z9 = upd f3 (y2 : Int32).toNatClampNeg (-2) := ⟨_, rfl⟩
          specialize h f8 ef8
          have hP : va_P G vwCl [(aP, .inr (4, [.ref bF, .ref bL, .ref bX, .ref bC, .int x1, .int 0, .int wFo, .ref aN, .int p1])), (bF, .inl (cy 0, 4096, .inl f8)), (bL, .inl (cy 0, 4096, .inl gL)), (bX, .inl (cy 0, 24, .inl gX)), (bC, .inl (cy 0, 24, .inl gC)), (aN, .inr (3, [.ref aR, .int vn])), (aR, .inl (cy 0, 9, .inl fN))] H := by rw [ef8]; exact hP
          have hD : va_D A [(aP, .inr (4, [.ref bF, .ref bL, .ref bX, .ref bC, .int x1, .int 0, .int wFo, .ref aN, .int p1])), (bF, .inl (cy 0, 4096, .inl f8)), (bL, .inl (cy 0, 4096, .inl gL)), (bX, .inl (cy 0, 24, .inl gX)), (bC, .inl (cy 0, 24, .inl gC)), (aN, .inr (3, [.ref aR, .int vn])), (aR, .inl (cy 0, 9, .inl fN))] := D_same hD rfl
          obtain ⟨x9, ex9⟩ : ∃ y : Int32, y = y2 + 1 := ⟨_, rfl⟩
          specialize h x9 ex9
          refine lv_iinc (v := x9) (lv' := [(2, .int x9), (0, .ref aP)]) hx hb dX4_begin_67 hl (k := 1) rfl (by rw [ex9]; rfl) (by decide) rfl (fun ls hl => ?_)
          refine lv_goto (tgt := 35) hx hb dX4_begin_70 (by decide) ?_
          exact ih35 x9 f8 h.1 (Nat.lt_of_lt_of_le h.2 (Nat.le_of_lt_succ hk35)) _ _ hP hD hS _ (lv_sub hl [1, 0] rfl)
        · obtain ⟨-, h⟩ := h
          specialize h c7
          refine lv_iconst (v := (-1)) hx hb dX4_begin_60 (by decide) ?_
          refine lv_goto (tgt := 66) hx hb dX4_begin_61 (by decide) ?_
          obtain ⟨hi, h⟩ := h
          refine va_iast hx hb hK.1 hP hD hS 1 0 rfl rfl hi dX4_begin_66 (fun H locs hP hD hS => ?_)
          obtain ⟨f10, ef10⟩ : ∃ z9 : Nat → Int32, z9 = upd f3 (y2 : Int32).toNatClampNeg (-1) := ⟨_, rfl⟩
          specialize h f10 ef10
          have hP : va_P G vwCl [(aP, .inr (4, [.ref bF, .ref bL, .ref bX, .ref bC, .int x1, .int 0, .int wFo, .ref aN, .int p1])), (bF, .inl (cy 0, 4096, .inl f10)), (bL, .inl (cy 0, 4096, .inl gL)), (bX, .inl (cy 0, 24, .inl gX)), (bC, .inl (cy 0, 24, .inl gC)), (aN, .inr (3, [.ref aR, .int vn])), (aR, .inl (cy 0, 9, .inl fN))] H := by rw [ef10]; exact hP
          have hD : va_D A [(aP, .inr (4, [.ref bF, .ref bL, .ref bX, .ref bC, .int x1, .int 0, .int wFo, .ref aN, .int p1])), (bF, .inl (cy 0, 4096, .inl f10)), (bL, .inl (cy 0, 4096, .inl gL)), (bX, .inl (cy 0, 24, .inl gX)), (bC, .inl (cy 0, 24, .inl gC)), (aN, .inr (3, [.ref aR, .int vn])), (aR, .inl (cy 0, 9, .inl fN))] := D_same hD rfl
          obtain ⟨x11, ex11⟩ : ∃ y : Int32, y = y2 + 1 := ⟨_, rfl⟩
          specialize h x11 ex11
          refine lv_iinc (v := x11) (lv' := [(2, .int x11), (0, .ref aP)]) hx hb dX4_begin_67 hl (k := 1) rfl (by rw [ex11]; rfl) (by decide) rfl (fun ls hl => ?_)
          refine lv_goto (tgt := 35) hx hb dX4_begin_70 (by decide) ?_
          exact ih35 x11 f10 h.1 (Nat.lt_of_lt_of_le h.2 (Nat.le_of_lt_succ hk35)) _ _ hP hD hS _ (lv_sub hl [1, 0] rfl)
  exact key35 _ 0 gF h035 (Nat.lt_succ_self _) _ _ hP hD hS _ (lv_sub hl [1, 0] rfl)

set_option maxHeartbeats 4000000 in
set_option maxRecDepth 100000 in
theorem ct_X4_stuck (l : Launch) (G : va_G) (cy : Nat → ClassId) (aP bF bL bX bC aN aR : Nat) (sz : Nat) (wSz : Int32) (wTl : Int32) (wFo : Int32) (wCo : Int32) (gF : Nat → Int32) (gL : Nat → Int32) (gX : Nat → Int32) (gC : Nat → Int32) (vn : Int32) (fN : Nat → Int32) (Q : Int32 → Int32 → (Nat → Int32) → (Nat → Int32) → Prop) (h : wp_X4_stuck wSz wFo wCo gF gX gC vn Q) : Met l yX4_stuck wsX4_stuck rmX4_stuck (va_Pc [.ref aP] (wP G cy sz [(aP, .inr (4, [.ref bF, .ref bL, .ref bX, .ref bC, .int wSz, .int wTl, .int wFo, .ref aN, .int wCo])), (bF, .inl (cy 0, 4096, .inl gF)), (bL, .inl (cy 0, 4096, .inl gL)), (bX, .inl (cy 0, 24, .inl gX)), (bC, .inl (cy 0, 24, .inl gC)), (aN, .inr (3, [.ref aR, .int vn])), (aR, .inl (cy 0, 9, .inl fN))])) (va_Qi (fun (r : Int32) (u : Int32 × (Nat → Int32) × (Nat → Int32)) => Q r u.1 u.2.1 u.2.2) (fun (u : Int32 × (Nat → Int32) × (Nat → Int32)) (t : State) => va_P G vwCl [(aP, .inr (4, [.ref bF, .ref bL, .ref bX, .ref bC, .int wSz, .int wTl, .int u.1, .ref aN, .int wCo])), (bF, .inl (cy 0, 4096, .inl gF)), (bL, .inl (cy 0, 4096, .inl gL)), (bX, .inl (cy 0, 24, .inl u.2.1)), (bC, .inl (cy 0, 24, .inl u.2.2)), (aN, .inr (3, [.ref aR, .int vn])), (aR, .inl (cy 0, 9, .inl fN))] t.heap) (va_A [(aP, .inr (4, [.ref bF, .ref bL, .ref bX, .ref bC, .int wSz, .int wTl, .int wFo, .ref aN, .int wCo])), (bF, .inl (cy 0, 4096, .inl gF)), (bL, .inl (cy 0, 4096, .inl gL)), (bX, .inl (cy 0, 24, .inl gX)), (bC, .inl (cy 0, 24, .inl gC)), (aN, .inr (3, [.ref aR, .int vn])), (aR, .inl (cy 0, 9, .inl fN))] sz)) 0 0 (va_A [(aP, .inr (4, [.ref bF, .ref bL, .ref bX, .ref bC, .int wSz, .int wTl, .int wFo, .ref aN, .int wCo])), (bF, .inl (cy 0, 4096, .inl gF)), (bL, .inl (cy 0, 4096, .inl gL)), (bX, .inl (cy 0, 24, .inl gX)), (bC, .inl (cy 0, 24, .inl gC)), (aN, .inr (3, [.ref aR, .int vn])), (aR, .inl (cy 0, 9, .inl fN))] sz) := by
  unfold wp_X4_stuck at h
  refine Met.ofW (cc := cX4_stuck) (maxL := 3) (ret := (some .int)) (by decide) rfl ?_
  intro p e s m args below meth c s₁ B hml hv
  obtain ⟨hav, hsz, hP, hK, hD0⟩ := hv
  have hx := B.exec
  have hb := B.bytes
  have hr := B.returns
  have hts := atoms_spec (ws := wsX4_stuck) B.pre
  have hown : s.vm.findClass RX4 = some m.cls := findClass_of_methodNamed B.named
  have hlocks := B.notSynchronized
  subst hsz
  have hD := hD0.self (sz := s.heap.size)
  generalize hAe : va_A [(aP, .inr (4, [.ref bF, .ref bL, .ref bX, .ref bC, .int wSz, .int wTl, .int wFo, .ref aN, .int wCo])), (bF, .inl (cy 0, 4096, .inl gF)), (bL, .inl (cy 0, 4096, .inl gL)), (bX, .inl (cy 0, 24, .inl gX)), (bC, .inl (cy 0, 24, .inl gC)), (aN, .inr (3, [.ref aR, .int vn])), (aR, .inl (cy 0, 9, .inl fN))] s.heap.size = A at hD ⊢
  have hA : ∀ q : Nat, s.heap.size ≤ q → A q := fun q h9 => by rw [← hAe]; exact Or.inr h9
  have hS : va_S A s.heap s.heap [] := va_S.rf
  have hl := lv_entry ([.ref aP]) (n := 3) (Nat.le_of_ble_eq_true rfl)
  rw [show entryFrame m args 3 = entryFrame m ([.ref aP] : List Value).toArray 3 by rw [hav], lg_entry_eq]
  generalize (lg_sl ([.ref aP]) ++ List.replicate (3 - (lg_sl ([.ref aP])).length) Slot.unset).toArray = ls at hl ⊢
  have hl : lv_has ls 3 [(0, .ref aP)] := hl
  generalize hQe : MQ below _ _ _ _ _ _ = QM
  have hP : va_P G vwCl [(aP, .inr (4, [.ref bF, .ref bL, .ref bX, .ref bC, .int wSz, .int wTl, .int wFo, .ref aN, .int wCo])), (bF, .inl (cy 0, 4096, .inl gF)), (bL, .inl (cy 0, 4096, .inl gL)), (bX, .inl (cy 0, 24, .inl gX)), (bC, .inl (cy 0, 24, .inl gC)), (aN, .inr (3, [.ref aR, .int vn])), (aR, .inl (cy 0, 9, .inl fN))] s.heap := hP
  have iwX4 : ∀ w ∈ wsX40, w ∈ wsX4_stuck := by decide +kernel
  have fl34 := hts (.fieldLink RX4 34 "SlidTokens$Paints" "size" "I") (by decide +kernel)
  have sf34 := hts (.sameField "SlidTokens$Paints" "SlidTokens$Search" "size" "I") (by decide +kernel)
  have fl24 := hts (.fieldLink RX4 24 "SlidTokens$Paints" "far" "[I") (by decide +kernel)
  have sf24 := hts (.sameField "SlidTokens$Paints" "SlidTokens$Search" "far" "[I") (by decide +kernel)
  have fl57 := hts (.fieldLink RX4 57 "SlidTokens$Paints" "found" "I") (by decide +kernel)
  have sf57 := hts (.sameField "SlidTokens$Paints" "SlidTokens$Search" "found" "I") (by decide +kernel)
  suffices K9 : ∀ (H : Heap) (locs : List Loc), va_P G vwCl [(aP, .inr (4, [.ref bF, .ref bL, .ref bX, .ref bC, .int wSz, .int wTl, .int wFo, .ref aN, .int wCo])), (bF, .inl (cy 0, 4096, .inl gF)), (bL, .inl (cy 0, 4096, .inl gL)), (bX, .inl (cy 0, 24, .inl gX)), (bC, .inl (cy 0, 24, .inl gC)), (aN, .inr (3, [.ref aR, .int vn])), (aR, .inl (cy 0, 9, .inl fN))] H → va_D A [(aP, .inr (4, [.ref bF, .ref bL, .ref bX, .ref bC, .int wSz, .int wTl, .int wFo, .ref aN, .int wCo])), (bF, .inl (cy 0, 4096, .inl gF)), (bL, .inl (cy 0, 4096, .inl gL)), (bX, .inl (cy 0, 24, .inl gX)), (bC, .inl (cy 0, 24, .inl gC)), (aN, .inr (3, [.ref aR, .int vn])), (aR, .inl (cy 0, 9, .inl fN))] → va_S A s.heap H locs → W p l e (headSpec wsX4_stuck rmX4_stuck).room s m args below meth c H locs 0 0 QM (F0 m 0 ls []) from K9 _ _ hP hD hS
  clear hP hD hS
  intro H locs hP hD hS
  refine lv_iconst (v := 0) hx hb dX4_stuck_0 (by decide) ?_
  refine lv_istore_n (lv' := [(1, .int 0), (0, .ref aP)]) hx hb dX4_stuck_1 rfl hl (by decide) rfl (fun ls hl => ?_)
  refine lv_iconst (v := 0) hx hb dX4_stuck_2 (by decide) ?_
  refine lv_istore_n (lv' := [(2, .int 0), (1, .int 0), (0, .ref aP)]) hx hb dX4_stuck_3 rfl hl (by decide) rfl (fun ls hl => ?_)
  obtain ⟨I4_5, u4_5, h04, hst4⟩ := h
  have key4 : ∀ (k9 : Nat) (y1 : Int32) (y2 : Int32) (z3 : Int32) (f4 : Nat → Int32) (f5 : Nat → Int32), I4_5 y1 y2 z3 f4 f5 → u4_5 y1 y2 z3 f4 f5 < k9 → ∀ (H : Heap) (locs : List Loc), va_P G vwCl [(aP, .inr (4, [.ref bF, .ref bL, .ref bX, .ref bC, .int wSz, .int wTl, .int z3, .ref aN, .int wCo])), (bF, .inl (cy 0, 4096, .inl gF)), (bL, .inl (cy 0, 4096, .inl gL)), (bX, .inl (cy 0, 24, .inl f4)), (bC, .inl (cy 0, 24, .inl f5)), (aN, .inr (3, [.ref aR, .int vn])), (aR, .inl (cy 0, 9, .inl fN))] H → va_D A [(aP, .inr (4, [.ref bF, .ref bL, .ref bX, .ref bC, .int wSz, .int wTl, .int z3, .ref aN, .int wCo])), (bF, .inl (cy 0, 4096, .inl gF)), (bL, .inl (cy 0, 4096, .inl gL)), (bX, .inl (cy 0, 24, .inl f4)), (bC, .inl (cy 0, 24, .inl f5)), (aN, .inr (3, [.ref aR, .int vn])), (aR, .inl (cy 0, 9, .inl fN))] → va_S A s.heap H locs → ∀ (ls : Array Slot), lv_has ls 3 [(0, .ref aP), (1, .int y1), (2, .int y2)] → W p l e (headSpec wsX4_stuck rmX4_stuck).room s m args below meth c H locs 0 0 QM (F0 m 4 ls []) := by
    intro k9
    induction k9 with
    | zero =>
      intro y1 y2 z3 f4 f5 hI9 hk9
      exact absurd hk9 (Nat.not_lt_zero _)
    | succ k9 ih4 =>
      intro y1 y2 z3 f4 f5 hI9 hk4 H locs hP hD hS ls hl
      have h := hst4 y1 y2 z3 f4 f5 hI9
      refine lv_iload_n hx hb dX4_stuck_4 rfl (lv_at hl 2 rfl) ?_
      refine lv_aload_n hx hb dX4_stuck_5 rfl (lv_at hl 0 rfl) ?_
      refine va_get (D := G) (ci := 4) (v := .int wSz) (C := RX4) (T := TX4) (N := 9) hx hb hts iwX4 hown hK.1 hP 0 rfl rfl 4 (by decide) fl34 (fun x9 h9 => u_same sf34 x9 h9) rfl dX4_stuck_6 ?_
      refine lv_icmp_ge (tgt := 49) hx hb dX4_stuck_9 (by decide) (fun c6 => ?_) (fun c6 => ?_)
      · obtain ⟨h, -⟩ := h
        specialize h c6
        refine lv_iload_n hx hb dX4_stuck_49 rfl (lv_at hl 1 rfl) ?_
        rw [← hQe]
        exact W.iret (v := y1) hx hb hr (fun t ht hW => ⟨⟨y1, (z3, f4, f5), rfl, h, by dsimp only; rw [ht]; exact hP⟩, hS.F ht⟩) hS.2.2 dX4_stuck_50
      · obtain ⟨-, h⟩ := h
        specialize h c6
        refine lv_aload_n hx hb dX4_stuck_12 rfl (lv_at hl 0 rfl) ?_
        refine va_get (D := G) (ci := 4) (v := .ref bF) (C := RX4) (T := TX4) (N := 9) hx hb hts iwX4 hown hK.1 hP 0 rfl rfl 0 (by decide) fl24 (fun x9 h9 => u_same sf24 x9 h9) rfl dX4_stuck_13 ?_
        refine lv_iload_n hx hb dX4_stuck_16 rfl (lv_at hl 2 rfl) ?_
        obtain ⟨hi, h⟩ := h
        refine va_iald hx hb hK.1 hP 1 0 rfl rfl hi dX4_stuck_17 ?_
        refine lv_bipush (v := (-2)) hx hb dX4_stuck_18 (by decide) ?_
        refine lv_icmp_eq (tgt := 43) hx hb dX4_stuck_20 (by decide) (fun c7 => ?_) (fun c7 => ?_)
        · obtain ⟨h, -⟩ := h
          specialize h c7
          obtain ⟨x8, ex8⟩ : ∃ y : Int32, y = y2 + 1 := ⟨_, rfl⟩
          specialize h x8 ex8
          refine lv_iinc (v := x8) (lv' := [(2, .int x8), (0, .ref aP), (1, .int y1)]) hx hb dX4_stuck_43 hl (k := 2) rfl (by rw [ex8]; rfl) (by decide) rfl (fun ls hl => ?_)
          refine lv_goto (tgt := 4) hx hb dX4_stuck_46 (by decide) ?_
          exact ih4 y1 x8 z3 f4 f5 h.1 (Nat.lt_of_lt_of_le h.2 (Nat.le_of_lt_succ hk4)) _ _ hP hD hS _ (lv_sub hl [1, 2, 0] rfl)
        · obtain ⟨-, h⟩ := h
          specialize h c7
          refine lv_aload_n hx hb dX4_stuck_23 rfl (lv_at hl 0 rfl) ?_
          refine lv_iload_n hx hb dX4_stuck_24 rfl (lv_at hl 2 rfl) ?_
          obtain ⟨Q9, hw9, h⟩ := h
          have hPc : va_P G vwCl [(aP, .inr (4, [.ref bF, .ref bL, .ref bX, .ref bC, .int wSz, .int wTl, .int z3, .ref aN, .int wCo])), (bF, .inl (cy 0, 4096, .inl gF)), (bL, .inl (cy 0, 4096, .inl gL)), (bX, .inl (cy 0, 24, .inl f4)), (bC, .inl (cy 0, 24, .inl f5)), (aN, .inr (3, [.ref aR, .int vn])), (aR, .inl (cy 0, 9, .inl fN))] H := hP.sub [0, 1, 2, 3, 4, 5, 6] rfl
          have hDc : va_D A [(aP, .inr (4, [.ref bF, .ref bL, .ref bX, .ref bC, .int wSz, .int wTl, .int z3, .ref aN, .int wCo])), (bF, .inl (cy 0, 4096, .inl gF)), (bL, .inl (cy 0, 4096, .inl gL)), (bX, .inl (cy 0, 24, .inl f4)), (bC, .inl (cy 0, 24, .inl f5)), (aN, .inr (3, [.ref aR, .int vn])), (aR, .inl (cy 0, 9, .inl fN))] := hD.sub [0, 1, 2, 3, 4, 5, 6] (by decide) rfl
          have hFc := va_free (wc := [(aP, .inr (4, [.ref bF, .ref bL, .ref bX, .ref bC, .int wSz, .int wTl, .int z3, .ref aN, .int wCo])), (bF, .inl (cy 0, 4096, .inl gF)), (bL, .inl (cy 0, 4096, .inl gL)), (bX, .inl (cy 0, 24, .inl f4)), (bC, .inl (cy 0, 24, .inl f5)), (aN, .inr (3, [.ref aR, .int vn])), (aR, .inl (cy 0, 9, .inl fN))]) hD hS hA [0, 1, 2, 3, 4, 5, 6] rfl
          refine va_callv (va_runV (As := [.int y2]) (rest := []) ⟨hx, hb, hml, hown, hts⟩ (ct_X4_gather l G cy aP bF bL bX bC aN aR H.size wSz wTl z3 wCo gF gL f4 f5 vn fN y2 Q9 hw9) (cwV 1 hts gX4_stuck_X4_gather rfl rfl rfl (by decide +kernel) ⟨Nat.le_of_ble_eq_true rfl, Nat.le_of_ble_eq_true rfl⟩) (wP_V hK hP (ci := 4) (q0 := 0) rfl rfl hPc hDc) rfl rfl hl.1 rfl (lv_room (Nat.le_of_ble_eq_true rfl)) dX4_stuck_25 ⟨Nat.le_of_ble_eq_true rfl, Nat.le_of_ble_eq_true rfl⟩) hS (fun q9 _ h9 => hFc q9 h9) hFc (fun u9 t9 H locs ht9 hvm9 hw9 hB9 hz9 hk9 hS => ?_)
          obtain ⟨z11, f12, f13⟩ := u9
          have hP : va_P G vwCl [(aP, .inr (4, [.ref bF, .ref bL, .ref bX, .ref bC, .int wSz, .int wTl, .int z11, .ref aN, .int wCo])), (bF, .inl (cy 0, 4096, .inl gF)), (bL, .inl (cy 0, 4096, .inl gL)), (bX, .inl (cy 0, 24, .inl f12)), (bC, .inl (cy 0, 24, .inl f13)), (aN, .inr (3, [.ref aR, .int vn])), (aR, .inl (cy 0, 9, .inl fN))] H := P_back [0, 1, 2, 3, 4, 5, 6] [] 7 hP hD rfl rfl rfl rfl (by decide) (by decide) hk9 (by rw [← ht9]; exact hB9)
          have hD : va_D A [(aP, .inr (4, [.ref bF, .ref bL, .ref bX, .ref bC, .int wSz, .int wTl, .int z11, .ref aN, .int wCo])), (bF, .inl (cy 0, 4096, .inl gF)), (bL, .inl (cy 0, 4096, .inl gL)), (bX, .inl (cy 0, 24, .inl f12)), (bC, .inl (cy 0, 24, .inl f13)), (aN, .inr (3, [.ref aR, .int vn])), (aR, .inl (cy 0, 9, .inl fN))] := D_same hD rfl
          specialize h z11 f12 f13 hw9
          refine lv_iload_n hx hb dX4_stuck_28 rfl (lv_at hl 1 rfl) ?_
          refine lv_aload_n hx hb dX4_stuck_29 rfl (lv_at hl 0 rfl) ?_
          refine va_get (D := G) (ci := 4) (v := .int z11) (C := RX4) (T := TX4) (N := 9) hx hb hts iwX4 hown hK.1 hP 0 rfl rfl 6 (by decide) fl57 (fun x9 h9 => u_same sf57 x9 h9) rfl dX4_stuck_30 ?_
          refine lv_if_ne (tgt := 40) hx hb dX4_stuck_33 (by decide) (fun c14 => ?_) (fun c14 => ?_)
          · obtain ⟨-, h⟩ := h
            specialize h c14
            refine lv_iconst (v := 0) hx hb dX4_stuck_40 (by decide) ?_
            refine lv_iadd hx hb dX4_stuck_41 ?_
            refine lv_topi (fun x15 ex15 => ?_)
            specialize h x15 ex15
            refine lv_istore_n (lv' := [(1, .int x15), (0, .ref aP), (2, .int y2)]) hx hb dX4_stuck_42 rfl hl (by decide) rfl (fun ls hl => ?_)
            obtain ⟨x16, ex16⟩ : ∃ y : Int32, y = y2 + 1 := ⟨_, rfl⟩
            specialize h x16 ex16
            refine lv_iinc (v := x16) (lv' := [(2, .int x16), (1, .int x15), (0, .ref aP)]) hx hb dX4_stuck_43 hl (k := 2) rfl (by rw [ex16]; rfl) (by decide) rfl (fun ls hl => ?_)
            refine lv_goto (tgt := 4) hx hb dX4_stuck_46 (by decide) ?_
            exact ih4 x15 x16 z11 f12 f13 h.1 (Nat.lt_of_lt_of_le h.2 (Nat.le_of_lt_succ hk4)) _ _ hP hD hS _ (lv_sub hl [2, 1, 0] rfl)
          · obtain ⟨h, -⟩ := h
            specialize h c14
            refine lv_iconst (v := 1) hx hb dX4_stuck_36 (by decide) ?_
            refine lv_goto (tgt := 41) hx hb dX4_stuck_37 (by decide) ?_
            refine lv_iadd hx hb dX4_stuck_41 ?_
            refine lv_topi (fun x17 ex17 => ?_)
            specialize h x17 ex17
            refine lv_istore_n (lv' := [(1, .int x17), (0, .ref aP), (2, .int y2)]) hx hb dX4_stuck_42 rfl hl (by decide) rfl (fun ls hl => ?_)
            obtain ⟨x18, ex18⟩ : ∃ y : Int32, y = y2 + 1 := ⟨_, rfl⟩
            specialize h x18 ex18
            refine lv_iinc (v := x18) (lv' := [(2, .int x18), (1, .int x17), (0, .ref aP)]) hx hb dX4_stuck_43 hl (k := 2) rfl (by rw [ex18]; rfl) (by decide) rfl (fun ls hl => ?_)
            refine lv_goto (tgt := 4) hx hb dX4_stuck_46 (by decide) ?_
            exact ih4 x17 x18 z11 f12 f13 h.1 (Nat.lt_of_lt_of_le h.2 (Nat.le_of_lt_succ hk4)) _ _ hP hD hS _ (lv_sub hl [2, 1, 0] rfl)
  exact key4 _ 0 0 wFo gX gC h04 (Nat.lt_succ_self _) _ _ hP hD hS _ (lv_sub hl [2, 1, 0] rfl)
