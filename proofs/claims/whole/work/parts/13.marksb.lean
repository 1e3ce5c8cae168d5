set_option maxHeartbeats 4000000 in
set_option maxRecDepth 100000 in
theorem ct_X5_spread_M (l : Launch) (G : va_G) (cy : Nat → ClassId) (aM aF aL aX aC aN aR : Nat) (sz : Nat) (vSz : Int32) (vTl : Int32) (vFo : Int32) (vMv : Int32) (fF : Nat → Int32) (fL : Nat → Int32) (fX : Nat → Int32) (fC : Nat → Int32) (vn : Int32) (fN : Nat → Int32) (p1 : Int32) (p2 : Int32) (Q : Int32 → Int32 → (Nat → Int32) → (Nat → Int32) → (Nat → Int32) → (Nat → Int32) → Prop) (h : wp_X5_spread_M vSz vTl vFo vMv fF fL fX fC vn fN p1 p2 Q) : Met l yX5_spread wsX5_spread rmX5_spread_M (va_Pc [.ref aM, .int p1, .int p2] (wP G cy sz [(aM, .inr (2, [.ref aF, .ref aL, .ref aX, .ref aC, .int vSz, .int vTl, .int vFo, .ref aN, .int vMv])), (aF, .inl (cy 0, 512, .inl fF)), (aL, .inl (cy 0, 512, .inl fL)), (aX, .inl (cy 0, 81, .inl fX)), (aC, .inl (cy 0, 81, .inl fC)), (aN, .inr (3, [.ref aR, .int vn])), (aR, .inl (cy 0, 9, .inl fN))])) (va_Qv (fun (u : Int32 × Int32 × (Nat → Int32) × (Nat → Int32) × (Nat → Int32) × (Nat → Int32)) => Q u.1 u.2.1 u.2.2.1 u.2.2.2.1 u.2.2.2.2.1 u.2.2.2.2.2) (fun (u : Int32 × Int32 × (Nat → Int32) × (Nat → Int32) × (Nat → Int32) × (Nat → Int32)) (t : State) => va_P G vwCl [(aM, .inr (2, [.ref aF, .ref aL, .ref aX, .ref aC, .int vSz, .int u.1, .int u.2.1, .ref aN, .int vMv])), (aF, .inl (cy 0, 512, .inl u.2.2.1)), (aL, .inl (cy 0, 512, .inl u.2.2.2.1)), (aX, .inl (cy 0, 81, .inl u.2.2.2.2.1)), (aC, .inl (cy 0, 81, .inl u.2.2.2.2.2)), (aN, .inr (3, [.ref aR, .int vn])), (aR, .inl (cy 0, 9, .inl fN))] t.heap) (va_A [(aM, .inr (2, [.ref aF, .ref aL, .ref aX, .ref aC, .int vSz, .int vTl, .int vFo, .ref aN, .int vMv])), (aF, .inl (cy 0, 512, .inl fF)), (aL, .inl (cy 0, 512, .inl fL)), (aX, .inl (cy 0, 81, .inl fX)), (aC, .inl (cy 0, 81, .inl fC)), (aN, .inr (3, [.ref aR, .int vn])), (aR, .inl (cy 0, 9, .inl fN))] sz)) 0 0 (va_A [(aM, .inr (2, [.ref aF, .ref aL, .ref aX, .ref aC, .int vSz, .int vTl, .int vFo, .ref aN, .int vMv])), (aF, .inl (cy 0, 512, .inl fF)), (aL, .inl (cy 0, 512, .inl fL)), (aX, .inl (cy 0, 81, .inl fX)), (aC, .inl (cy 0, 81, .inl fC)), (aN, .inr (3, [.ref aR, .int vn])), (aR, .inl (cy 0, 9, .inl fN))] sz) := by
  unfold wp_X5_spread_M at h
  refine Met.ofW (cc := cX5_spread) (maxL := 7) (ret := none) (by decide) rfl ?_
  intro p e s m args below meth c s₁ B hml hv
  obtain ⟨hav, hsz, hP, hK, hD0⟩ := hv
  have hx := B.exec
  have hb := B.bytes
  have hr := B.returns
  have hts := atoms_spec (ws := wsX5_spread) B.pre
  have hown : s.vm.findClass RX5 = some m.cls := findClass_of_methodNamed B.named
  have hlocks := B.notSynchronized
  subst hsz
  have hD := hD0.self (sz := s.heap.size)
  generalize hAe : va_A [(aM, .inr (2, [.ref aF, .ref aL, .ref aX, .ref aC, .int vSz, .int vTl, .int vFo, .ref aN, .int vMv])), (aF, .inl (cy 0, 512, .inl fF)), (aL, .inl (cy 0, 512, .inl fL)), (aX, .inl (cy 0, 81, .inl fX)), (aC, .inl (cy 0, 81, .inl fC)), (aN, .inr (3, [.ref aR, .int vn])), (aR, .inl (cy 0, 9, .inl fN))] s.heap.size = A at hD ⊢
  have hA : ∀ q : Nat, s.heap.size ≤ q → A q := fun q h9 => by rw [← hAe]; exact Or.inr h9
  have hS : va_S A s.heap s.heap [] := va_S.rf
  have hl := lv_entry ([.ref aM, .int p1, .int p2]) (n := 7) (Nat.le_of_ble_eq_true rfl)
  rw [show entryFrame m args 7 = entryFrame m ([.ref aM, .int p1, .int p2] : List Value).toArray 7 by rw [hav], lg_entry_eq]
  generalize (lg_sl ([.ref aM, .int p1, .int p2]) ++ List.replicate (7 - (lg_sl ([.ref aM, .int p1, .int p2])).length) Slot.unset).toArray = ls at hl ⊢
  have hl : lv_has ls 7 [(0, .ref aM), (1, .int p1), (2, .int p2)] := hl
  generalize hQe : MQ below _ _ _ _ _ _ = QM
  have hP : va_P G vwCl [(aM, .inr (2, [.ref aF, .ref aL, .ref aX, .ref aC, .int vSz, .int vTl, .int vFo, .ref aN, .int vMv])), (aF, .inl (cy 0, 512, .inl fF)), (aL, .inl (cy 0, 512, .inl fL)), (aX, .inl (cy 0, 81, .inl fX)), (aC, .inl (cy 0, 81, .inl fC)), (aN, .inr (3, [.ref aR, .int vn])), (aR, .inl (cy 0, 9, .inl fN))] s.heap := hP
  have iwX2 : ∀ w ∈ wsX20, w ∈ wsX5_spread := by decide +kernel
  have fl15 := hts (.fieldLink RX5 15 "SlidTokens$Search" "tail" "I") (by decide +kernel)
  have fl21 := hts (.fieldLink RX5 21 "SlidTokens$Search" "far" "[I") (by decide +kernel)
  have fl25 := hts (.fieldLink RX5 25 "SlidTokens$Search" "line" "[I") (by decide +kernel)
  have fl18 := hts (.fieldLink RX5 18 "SlidTokens$Search" "found" "I") (by decide +kernel)
  have fl28 := hts (.fieldLink RX5 28 "SlidTokens$Search" "next" "[I") (by decide +kernel)
  suffices K9 : ∀ (H : Heap) (locs : List Loc), va_P G vwCl [(aM, .inr (2, [.ref aF, .ref aL, .ref aX, .ref aC, .int vSz, .int vTl, .int vFo, .ref aN, .int vMv])), (aF, .inl (cy 0, 512, .inl fF)), (aL, .inl (cy 0, 512, .inl fL)), (aX, .inl (cy 0, 81, .inl fX)), (aC, .inl (cy 0, 81, .inl fC)), (aN, .inr (3, [.ref aR, .int vn])), (aR, .inl (cy 0, 9, .inl fN))] H → va_D A [(aM, .inr (2, [.ref aF, .ref aL, .ref aX, .ref aC, .int vSz, .int vTl, .int vFo, .ref aN, .int vMv])), (aF, .inl (cy 0, 512, .inl fF)), (aL, .inl (cy 0, 512, .inl fL)), (aX, .inl (cy 0, 81, .inl fX)), (aC, .inl (cy 0, 81, .inl fC)), (aN, .inr (3, [.ref aR, .int vn])), (aR, .inl (cy 0, 9, .inl fN))] → va_S A s.heap H locs → W p l e (headSpec wsX5_spread rmX5_spread_M).room s m args below meth c H locs 0 0 QM (F0 m 0 ls []) from K9 _ _ hP hD hS
  clear hP hD hS
  intro H locs hP hD hS
  refine lv_aload_n hx hb dX5_spread_0 rfl (lv_at hl 0 rfl) ?_
  refine lv_iload_n hx hb dX5_spread_1 rfl (lv_at hl 1 rfl) ?_
  obtain ⟨Q1, hw9, h⟩ := h
  have hPc : va_P G vwCl [(aM, .inr (2, [.ref aF, .ref aL, .ref aX, .ref aC, .int vSz, .int vTl, .int vFo, .ref aN, .int vMv])), (aF, .inl (cy 0, 512, .inl fF)), (aL, .inl (cy 0, 512, .inl fL)), (aX, .inl (cy 0, 81, .inl fX)), (aC, .inl (cy 0, 81, .inl fC)), (aN, .inr (3, [.ref aR, .int vn])), (aR, .inl (cy 0, 9, .inl fN))] H := hP.sub [0, 1, 2, 3, 4, 5, 6] rfl
  refine vp_callSi (va_Run.run (va_runU (As := [.int p1]) (rest := []) ⟨hx, hb, hml, hown, hts⟩ (ct_X5_isState_M l G cy aM aF aL aX aC aN aR vSz vTl vFo vMv fF fL fX fC vn fN p1 Q1 hw9) (va_cwU 1 hts gX5_spread_X5_isState_u34X2 rfl rfl rfl rfl (by decide +kernel) ⟨Nat.le_of_ble_eq_true rfl, Nat.le_of_ble_eq_true rfl⟩) (rP_V hK hP (ci := 2) (q0 := 0) rfl rfl hPc) rfl rfl hl.1 rfl (lv_room (Nat.le_of_ble_eq_true rfl)) dX5_spread_2 ⟨Nat.le_of_ble_eq_true rfl, Nat.le_of_ble_eq_true rfl⟩)) (fun r2 er2 => ?_)
  specialize h r2 er2
  refine lv_if_ne (tgt := 9) hx hb dX5_spread_5 (by decide) (fun c3 => ?_) (fun c3 => ?_)
  · obtain ⟨-, h⟩ := h
    specialize h c3
    refine lv_aload_n hx hb dX5_spread_9 rfl (lv_at hl 0 rfl) ?_
    refine va_get (D := G) (ci := 2) (v := .int vTl) (C := RX2) (T := TX2) (N := 9) hx hb hts iwX2 hown hK.1 hP 0 rfl rfl 5 (by decide) fl15 (fun _ h9 => h9) rfl dX5_spread_10 ?_
    refine lv_istore_n (lv' := [(3, .int vTl), (0, .ref aM), (1, .int p1), (2, .int p2)]) hx hb dX5_spread_13 rfl hl (by decide) rfl (fun ls hl => ?_)
    refine lv_aload_n hx hb dX5_spread_14 rfl (lv_at hl 1 rfl) ?_
    refine va_get (D := G) (ci := 2) (v := .ref aF) (C := RX2) (T := TX2) (N := 9) hx hb hts iwX2 hown hK.1 hP 0 rfl rfl 0 (by decide) fl21 (fun _ h9 => h9) rfl dX5_spread_15 ?_
    refine lv_iload_n hx hb dX5_spread_18 rfl (lv_at hl 2 rfl) ?_
    obtain ⟨hi, h⟩ := h
    refine va_iald hx hb hK.1 hP 1 0 rfl rfl hi dX5_spread_19 ?_
    refine lv_bipush (v := (-2)) hx hb dX5_spread_20 (by decide) ?_
    obtain ⟨J30_4, h, hJ30⟩ := h
    have jn30 : ∀ (t4 : Int32), J30_4 t4 → ∀ (H : Heap) (locs : List Loc), va_P G vwCl [(aM, .inr (2, [.ref aF, .ref aL, .ref aX, .ref aC, .int vSz, .int vTl, .int vFo, .ref aN, .int vMv])), (aF, .inl (cy 0, 512, .inl fF)), (aL, .inl (cy 0, 512, .inl fL)), (aX, .inl (cy 0, 81, .inl fX)), (aC, .inl (cy 0, 81, .inl fC)), (aN, .inr (3, [.ref aR, .int vn])), (aR, .inl (cy 0, 9, .inl fN))] H → va_D A [(aM, .inr (2, [.ref aF, .ref aL, .ref aX, .ref aC, .int vSz, .int vTl, .int vFo, .ref aN, .int vMv])), (aF, .inl (cy 0, 512, .inl fF)), (aL, .inl (cy 0, 512, .inl fL)), (aX, .inl (cy 0, 81, .inl fX)), (aC, .inl (cy 0, 81, .inl fC)), (aN, .inr (3, [.ref aR, .int vn])), (aR, .inl (cy 0, 9, .inl fN))] → va_S A s.heap H locs → ∀ (ls : Array Slot), lv_has ls 7 [(0, .ref aM), (1, .int p1), (2, .int p2), (3, .int vTl)] → W p l e (headSpec wsX5_spread rmX5_spread_M).room s m args below meth c H locs 0 0 QM (F0 m 30 ls [.int t4]) := by
      intro t4 hj9 H locs hP hD hS ls hl
      have h := hJ30 t4 hj9
      refine lv_istore (lv' := [(4, .int t4), (0, .ref aM), (1, .int p1), (2, .int p2), (3, .int vTl)]) hx hb dX5_spread_30 hl (by decide) rfl (fun ls hl => ?_)
      refine lv_aload_n hx hb dX5_spread_32 rfl (lv_at hl 1 rfl) ?_
      refine lv_iload_n hx hb dX5_spread_33 rfl (lv_at hl 2 rfl) ?_
      refine lv_iconst (v := 0) hx hb dX5_spread_34 (by decide) ?_
      obtain ⟨Q6, hw9, h⟩ := h
      have hPc : va_P G vwCl [(aM, .inr (2, [.ref aF, .ref aL, .ref aX, .ref aC, .int vSz, .int vTl, .int vFo, .ref aN, .int vMv])), (aF, .inl (cy 0, 512, .inl fF)), (aL, .inl (cy 0, 512, .inl fL)), (aX, .inl (cy 0, 81, .inl fX)), (aC, .inl (cy 0, 81, .inl fC)), (aN, .inr (3, [.ref aR, .int vn])), (aR, .inl (cy 0, 9, .inl fN))] H := hP.sub [0, 1, 2, 3, 4, 5, 6] rfl
      have hDc : va_D A [(aM, .inr (2, [.ref aF, .ref aL, .ref aX, .ref aC, .int vSz, .int vTl, .int vFo, .ref aN, .int vMv])), (aF, .inl (cy 0, 512, .inl fF)), (aL, .inl (cy 0, 512, .inl fL)), (aX, .inl (cy 0, 81, .inl fX)), (aC, .inl (cy 0, 81, .inl fC)), (aN, .inr (3, [.ref aR, .int vn])), (aR, .inl (cy 0, 9, .inl fN))] := hD.sub [0, 1, 2, 3, 4, 5, 6] (by decide) rfl
      have hFc := va_free (wc := [(aM, .inr (2, [.ref aF, .ref aL, .ref aX, .ref aC, .int vSz, .int vTl, .int vFo, .ref aN, .int vMv])), (aF, .inl (cy 0, 512, .inl fF)), (aL, .inl (cy 0, 512, .inl fL)), (aX, .inl (cy 0, 81, .inl fX)), (aC, .inl (cy 0, 81, .inl fC)), (aN, .inr (3, [.ref aR, .int vn])), (aR, .inl (cy 0, 9, .inl fN))]) hD hS hA [0, 1, 2, 3, 4, 5, 6] rfl
      refine va_callv (va_runU (As := [.int p1, .int 0]) (rest := []) ⟨hx, hb, hml, hown, hts⟩ (ct_X5_enter_M l G cy aM aF aL aX aC aN aR H.size vSz vTl vFo vMv fF fL fX fC vn fN p1 0 Q6 hw9) (va_cwU 2 hts gX5_spread_X5_enter_u38X2 rfl rfl rfl rfl (by decide +kernel) ⟨Nat.le_of_ble_eq_true rfl, Nat.le_of_ble_eq_true rfl⟩) (wP_V hK hP (ci := 2) (q0 := 0) rfl rfl hPc hDc) rfl rfl hl.1 rfl (lv_room (Nat.le_of_ble_eq_true rfl)) dX5_spread_35 ⟨Nat.le_of_ble_eq_true rfl, Nat.le_of_ble_eq_true rfl⟩) hS (fun q9 _ h9 => hFc q9 h9) hFc (fun u9 t9 H locs ht9 hvm9 hw9 hB9 hz9 hk9 hS => ?_)
      obtain ⟨z8, f9, f10⟩ := u9
      have hP : va_P G vwCl [(aM, .inr (2, [.ref aF, .ref aL, .ref aX, .ref aC, .int vSz, .int z8, .int vFo, .ref aN, .int vMv])), (aF, .inl (cy 0, 512, .inl f9)), (aL, .inl (cy 0, 512, .inl f10)), (aX, .inl (cy 0, 81, .inl fX)), (aC, .inl (cy 0, 81, .inl fC)), (aN, .inr (3, [.ref aR, .int vn])), (aR, .inl (cy 0, 9, .inl fN))] H := P_back [0, 1, 2, 3, 4, 5, 6] [] 7 hP hD rfl rfl rfl rfl (by decide) (by decide) hk9 (by rw [← ht9]; exact hB9)
      have hD : va_D A [(aM, .inr (2, [.ref aF, .ref aL, .ref aX, .ref aC, .int vSz, .int z8, .int vFo, .ref aN, .int vMv])), (aF, .inl (cy 0, 512, .inl f9)), (aL, .inl (cy 0, 512, .inl f10)), (aX, .inl (cy 0, 81, .inl fX)), (aC, .inl (cy 0, 81, .inl fC)), (aN, .inr (3, [.ref aR, .int vn])), (aR, .inl (cy 0, 9, .inl fN))] := D_same hD rfl
      specialize h z8 f9 f10 hw9
      obtain ⟨I38_17, u38_17, h038, hst38⟩ := h
      have key38 : ∀ (k9 : Nat) (y11 : Int32) (z12 : Int32) (z13 : Int32) (f14 : Nat → Int32) (f15 : Nat → Int32) (f16 : Nat → Int32) (f17 : Nat → Int32), I38_17 y11 z12 z13 f14 f15 f16 f17 → u38_17 y11 z12 z13 f14 f15 f16 f17 < k9 → ∀ (H : Heap) (locs : List Loc), va_P G vwCl [(aM, .inr (2, [.ref aF, .ref aL, .ref aX, .ref aC, .int vSz, .int z12, .int z13, .ref aN, .int vMv])), (aF, .inl (cy 0, 512, .inl f14)), (aL, .inl (cy 0, 512, .inl f15)), (aX, .inl (cy 0, 81, .inl f16)), (aC, .inl (cy 0, 81, .inl f17)), (aN, .inr (3, [.ref aR, .int vn])), (aR, .inl (cy 0, 9, .inl fN))] H → va_D A [(aM, .inr (2, [.ref aF, .ref aL, .ref aX, .ref aC, .int vSz, .int z12, .int z13, .ref aN, .int vMv])), (aF, .inl (cy 0, 512, .inl f14)), (aL, .inl (cy 0, 512, .inl f15)), (aX, .inl (cy 0, 81, .inl f16)), (aC, .inl (cy 0, 81, .inl f17)), (aN, .inr (3, [.ref aR, .int vn])), (aR, .inl (cy 0, 9, .inl fN))] → va_S A s.heap H locs → ∀ (ls : Array Slot), lv_has ls 7 [(0, .ref aM), (2, .int p2), (3, .int y11), (4, .int t4)] → W p l e (headSpec wsX5_spread rmX5_spread_M).room s m args below meth c H locs 0 0 QM (F0 m 38 ls []) := by
        intro k9
        induction k9 with
        | zero =>
          intro y11 z12 z13 f14 f15 f16 f17 hI9 hk9
          exact absurd hk9 (Nat.not_lt_zero _)
        | succ k9 ih38 =>
          intro y11 z12 z13 f14 f15 f16 f17 hI9 hk38 H locs hP hD hS ls hl
          have h := hst38 y11 z12 z13 f14 f15 f16 f17 hI9
          refine lv_iload hx hb dX5_spread_38 (lv_at hl 3 rfl) ?_
          refine lv_if_eq (tgt := 152) hx hb dX5_spread_40 (by decide) (fun c18 => ?_) (fun c18 => ?_)
          · obtain ⟨h, -⟩ := h
            specialize h c18
            rw [← hQe]
            exact W.vret hx hb hr (fun t ht hW => ⟨⟨(z12, z13, f14, f15, f16, f17), rfl, h, by dsimp only; rw [ht]; exact hP⟩, hS.F ht⟩) hS.2.2 dX5_spread_152
          · obtain ⟨-, h⟩ := h
            specialize h c18
            refine lv_iload_n hx hb dX5_spread_43 rfl (lv_at hl 2 rfl) ?_
            refine lv_aload_n hx hb dX5_spread_44 rfl (lv_at hl 0 rfl) ?_
            refine va_get (D := G) (ci := 2) (v := .int z12) (C := RX2) (T := TX2) (N := 9) hx hb hts iwX2 hown hK.1 hP 0 rfl rfl 5 (by decide) fl15 (fun _ h9 => h9) rfl dX5_spread_45 ?_
            refine lv_icmp_ge (tgt := 152) hx hb dX5_spread_48 (by decide) (fun c19 => ?_) (fun c19 => ?_)
            · obtain ⟨h, -⟩ := h
              specialize h c19
              rw [← hQe]
              exact W.vret hx hb hr (fun t ht hW => ⟨⟨(z12, z13, f14, f15, f16, f17), rfl, h, by dsimp only; rw [ht]; exact hP⟩, hS.F ht⟩) hS.2.2 dX5_spread_152
            · obtain ⟨-, h⟩ := h
              specialize h c19
              refine lv_iload_n hx hb dX5_spread_51 rfl (lv_at hl 2 rfl) ?_
              refine lv_aload_n hx hb dX5_spread_52 rfl (lv_at hl 0 rfl) ?_
              refine va_get (D := G) (ci := 2) (v := .ref aL) (C := RX2) (T := TX2) (N := 9) hx hb hts iwX2 hown hK.1 hP 0 rfl rfl 1 (by decide) fl25 (fun _ h9 => h9) rfl dX5_spread_53 ?_
              refine va_alen hx hb hK.1 hP 2 0 rfl rfl (v := 512) rfl dX5_spread_56 ?_
              refine lv_icmp_ge (tgt := 152) hx hb dX5_spread_57 (by decide) (fun c20 => ?_) (fun c20 => ?_)
              · obtain ⟨h, -⟩ := h
                specialize h c20
                rw [← hQe]
                exact W.vret hx hb hr (fun t ht hW => ⟨⟨(z12, z13, f14, f15, f16, f17), rfl, h, by dsimp only; rw [ht]; exact hP⟩, hS.F ht⟩) hS.2.2 dX5_spread_152
              · obtain ⟨-, h⟩ := h
                specialize h c20
                refine lv_aload_n hx hb dX5_spread_60 rfl (lv_at hl 0 rfl) ?_
                refine lv_iload_n hx hb dX5_spread_61 rfl (lv_at hl 1 rfl) ?_
                obtain ⟨Q21, hw9, h⟩ := h
                have hPc : va_P G vwCl [(aM, .inr (2, [.ref aF, .ref aL, .ref aX, .ref aC, .int vSz, .int z12, .int z13, .ref aN, .int vMv])), (aF, .inl (cy 0, 512, .inl f14)), (aL, .inl (cy 0, 512, .inl f15)), (aX, .inl (cy 0, 81, .inl f16)), (aC, .inl (cy 0, 81, .inl f17)), (aN, .inr (3, [.ref aR, .int vn])), (aR, .inl (cy 0, 9, .inl fN))] H := hP.sub [0, 1, 2, 3, 4, 5, 6] rfl
                refine vp_callSi (va_Run.run (va_runU (As := [.int p2]) (rest := []) ⟨hx, hb, hml, hown, hts⟩ (ct_X5_isState_M l G cy aM aF aL aX aC aN aR vSz z12 z13 vMv f14 f15 f16 f17 vn fN p2 Q21 hw9) (va_cwU 1 hts gX5_spread_X5_isState_u34X2 rfl rfl rfl rfl (by decide +kernel) ⟨Nat.le_of_ble_eq_true rfl, Nat.le_of_ble_eq_true rfl⟩) (rP_V hK hP (ci := 2) (q0 := 0) rfl rfl hPc) rfl rfl hl.1 rfl (lv_room (Nat.le_of_ble_eq_true rfl)) dX5_spread_62 ⟨Nat.le_of_ble_eq_true rfl, Nat.le_of_ble_eq_true rfl⟩)) (fun r22 er22 => ?_)
                specialize h r22 er22
                obtain ⟨J78_22, h, hJ78⟩ := h
                have jn78 : J78_22 → ∀ (H : Heap) (locs : List Loc), va_P G vwCl [(aM, .inr (2, [.ref aF, .ref aL, .ref aX, .ref aC, .int vSz, .int z12, .int z13, .ref aN, .int vMv])), (aF, .inl (cy 0, 512, .inl f14)), (aL, .inl (cy 0, 512, .inl f15)), (aX, .inl (cy 0, 81, .inl f16)), (aC, .inl (cy 0, 81, .inl f17)), (aN, .inr (3, [.ref aR, .int vn])), (aR, .inl (cy 0, 9, .inl fN))] H → va_D A [(aM, .inr (2, [.ref aF, .ref aL, .ref aX, .ref aC, .int vSz, .int z12, .int z13, .ref aN, .int vMv])), (aF, .inl (cy 0, 512, .inl f14)), (aL, .inl (cy 0, 512, .inl f15)), (aX, .inl (cy 0, 81, .inl f16)), (aC, .inl (cy 0, 81, .inl f17)), (aN, .inr (3, [.ref aR, .int vn])), (aR, .inl (cy 0, 9, .inl fN))] → va_S A s.heap H locs → ∀ (ls : Array Slot), lv_has ls 7 [(0, .ref aM), (2, .int p2), (3, .int y11), (4, .int t4)] → W p l e (headSpec wsX5_spread rmX5_spread_M).room s m args below meth c H locs 0 0 QM (F0 m 78 ls []) := by
                  intro  hj9 H locs hP hD hS ls hl
                  have h := hJ78  hj9
                  refine lv_aload_n hx hb dX5_spread_78 rfl (lv_at hl 0 rfl) ?_
                  refine va_get (D := G) (ci := 2) (v := .ref aL) (C := RX2) (T := TX2) (N := 9) hx hb hts iwX2 hown hK.1 hP 0 rfl rfl 1 (by decide) fl25 (fun _ h9 => h9) rfl dX5_spread_79 ?_
                  refine lv_iload_n hx hb dX5_spread_82 rfl (lv_at hl 2 rfl) ?_
                  obtain ⟨hi, h⟩ := h
                  refine va_iald hx hb hK.1 hP 2 0 rfl rfl hi dX5_spread_83 ?_
                  refine lv_topi (fun x25 ex25 => ?_)
                  specialize h x25 ex25
                  refine lv_istore (lv' := [(5, .int x25), (0, .ref aM), (2, .int p2), (3, .int y11), (4, .int t4)]) hx hb dX5_spread_84 hl (by decide) rfl (fun ls hl => ?_)
                  refine lv_aload_n hx hb dX5_spread_86 rfl (lv_at hl 1 rfl) ?_
                  refine lv_iload hx hb dX5_spread_87 (lv_at hl 0 rfl) ?_
                  obtain ⟨Q26, hw9, h⟩ := h
                  have hPc : va_P G vwCl [(aM, .inr (2, [.ref aF, .ref aL, .ref aX, .ref aC, .int vSz, .int z12, .int z13, .ref aN, .int vMv])), (aF, .inl (cy 0, 512, .inl f14)), (aL, .inl (cy 0, 512, .inl f15)), (aX, .inl (cy 0, 81, .inl f16)), (aC, .inl (cy 0, 81, .inl f17)), (aN, .inr (3, [.ref aR, .int vn])), (aR, .inl (cy 0, 9, .inl fN))] H := hP.sub [0, 1, 2, 3, 4, 5, 6] rfl
                  have hDc : va_D A [(aM, .inr (2, [.ref aF, .ref aL, .ref aX, .ref aC, .int vSz, .int z12, .int z13, .ref aN, .int vMv])), (aF, .inl (cy 0, 512, .inl f14)), (aL, .inl (cy 0, 512, .inl f15)), (aX, .inl (cy 0, 81, .inl f16)), (aC, .inl (cy 0, 81, .inl f17)), (aN, .inr (3, [.ref aR, .int vn])), (aR, .inl (cy 0, 9, .inl fN))] := hD.sub [0, 1, 2, 3, 4, 5, 6] (by decide) rfl
                  have hFc := va_free (wc := [(aM, .inr (2, [.ref aF, .ref aL, .ref aX, .ref aC, .int vSz, .int z12, .int z13, .ref aN, .int vMv])), (aF, .inl (cy 0, 512, .inl f14)), (aL, .inl (cy 0, 512, .inl f15)), (aX, .inl (cy 0, 81, .inl f16)), (aC, .inl (cy 0, 81, .inl f17)), (aN, .inr (3, [.ref aR, .int vn])), (aR, .inl (cy 0, 9, .inl fN))]) hD hS hA [0, 1, 2, 3, 4, 5, 6] rfl
                  refine va_callv (va_runU (As := [.int x25]) (rest := []) ⟨hx, hb, hml, hown, hts⟩ (ct_X2_gather l G cy aM aF aL aX aC aN aR H.size vSz z12 z13 vMv f14 f15 f16 f17 vn fN x25 Q26 hw9) (va_cwA 1 hts gX5_spread_X2_gather_u42X2 rfl rfl rfl hK.2.2 (by decide +kernel) ⟨Nat.le_of_ble_eq_true rfl, Nat.le_of_ble_eq_true rfl⟩) (wP_V hK hP (ci := 2) (q0 := 0) rfl rfl hPc hDc) rfl rfl hl.1 rfl (lv_room (Nat.le_of_ble_eq_true rfl)) dX5_spread_89 ⟨Nat.le_of_ble_eq_true rfl, Nat.le_of_ble_eq_true rfl⟩) hS (fun q9 _ h9 => hFc q9 h9) hFc (fun u9 t9 H locs ht9 hvm9 hw9 hB9 hz9 hk9 hS => ?_)
                  obtain ⟨z28, f29, f30⟩ := u9
                  have hP : va_P G vwCl [(aM, .inr (2, [.ref aF, .ref aL, .ref aX, .ref aC, .int vSz, .int z12, .int z28, .ref aN, .int vMv])), (aF, .inl (cy 0, 512, .inl f14)), (aL, .inl (cy 0, 512, .inl f15)), (aX, .inl (cy 0, 81, .inl f29)), (aC, .inl (cy 0, 81, .inl f30)), (aN, .inr (3, [.ref aR, .int vn])), (aR, .inl (cy 0, 9, .inl fN))] H := P_back [0, 1, 2, 3, 4, 5, 6] [] 7 hP hD rfl rfl rfl rfl (by decide) (by decide) hk9 (by rw [← ht9]; exact hB9)
                  have hD : va_D A [(aM, .inr (2, [.ref aF, .ref aL, .ref aX, .ref aC, .int vSz, .int z12, .int z28, .ref aN, .int vMv])), (aF, .inl (cy 0, 512, .inl f14)), (aL, .inl (cy 0, 512, .inl f15)), (aX, .inl (cy 0, 81, .inl f29)), (aC, .inl (cy 0, 81, .inl f30)), (aN, .inr (3, [.ref aR, .int vn])), (aR, .inl (cy 0, 9, .inl fN))] := D_same hD rfl
                  specialize h z28 f29 f30 hw9
                  refine lv_iconst (v := 0) hx hb dX5_spread_92 (by decide) ?_
                  refine lv_istore (lv' := [(6, .int 0), (5, .int x25), (0, .ref aM), (2, .int p2), (3, .int y11), (4, .int t4)]) hx hb dX5_spread_93 hl (by decide) rfl (fun ls hl => ?_)
                  obtain ⟨I95_34, u95_34, h095, hst95⟩ := h
                  have key95 : ∀ (k9 : Nat) (y31 : Int32) (z32 : Int32) (f33 : Nat → Int32) (f34 : Nat → Int32), I95_34 y31 z32 f33 f34 → u95_34 y31 z32 f33 f34 < k9 → ∀ (H : Heap) (locs : List Loc), va_P G vwCl [(aM, .inr (2, [.ref aF, .ref aL, .ref aX, .ref aC, .int vSz, .int z32, .int z28, .ref aN, .int vMv])), (aF, .inl (cy 0, 512, .inl f33)), (aL, .inl (cy 0, 512, .inl f34)), (aX, .inl (cy 0, 81, .inl f29)), (aC, .inl (cy 0, 81, .inl f30)), (aN, .inr (3, [.ref aR, .int vn])), (aR, .inl (cy 0, 9, .inl fN))] H → va_D A [(aM, .inr (2, [.ref aF, .ref aL, .ref aX, .ref aC, .int vSz, .int z32, .int z28, .ref aN, .int vMv])), (aF, .inl (cy 0, 512, .inl f33)), (aL, .inl (cy 0, 512, .inl f34)), (aX, .inl (cy 0, 81, .inl f29)), (aC, .inl (cy 0, 81, .inl f30)), (aN, .inr (3, [.ref aR, .int vn])), (aR, .inl (cy 0, 9, .inl fN))] → va_S A s.heap H locs → ∀ (ls : Array Slot), lv_has ls 7 [(0, .ref aM), (2, .int p2), (3, .int y11), (4, .int t4), (5, .int x25), (6, .int y31)] → W p l e (headSpec wsX5_spread rmX5_spread_M).room s m args below meth c H locs 0 0 QM (F0 m 95 ls []) := by
                    intro k9
                    induction k9 with
                    | zero =>
                      intro y31 z32 f33 f34 hI9 hk9
                      exact absurd hk9 (Nat.not_lt_zero _)
                    | succ k9 ih95 =>
                      intro y31 z32 f33 f34 hI9 hk95 H locs hP hD hS ls hl
                      have h := hst95 y31 z32 f33 f34 hI9
                      refine lv_iload hx hb dX5_spread_95 (lv_at hl 5 rfl) ?_
                      refine lv_aload_n hx hb dX5_spread_97 rfl (lv_at hl 0 rfl) ?_
                      refine va_get (D := G) (ci := 2) (v := .int z28) (C := RX2) (T := TX2) (N := 9) hx hb hts iwX2 hown hK.1 hP 0 rfl rfl 6 (by decide) fl18 (fun _ h9 => h9) rfl dX5_spread_98 ?_
                      refine lv_icmp_ge (tgt := 146) hx hb dX5_spread_101 (by decide) (fun c35 => ?_) (fun c35 => ?_)
                      · obtain ⟨h, -⟩ := h
                        specialize h c35
                        obtain ⟨x36, ex36⟩ : ∃ y : Int32, y = y11 + 1 := ⟨_, rfl⟩
                        specialize h x36 ex36
                        refine lv_iinc (v := x36) (lv' := [(3, .int x36), (0, .ref aM), (2, .int p2), (4, .int t4), (5, .int x25), (6, .int y31)]) hx hb dX5_spread_146 hl (k := 2) rfl (by rw [ex36]; rfl) (by decide) rfl (fun ls hl => ?_)
                        refine lv_goto (tgt := 38) hx hb dX5_spread_149 (by decide) ?_
                        exact ih38 x36 z32 z28 f33 f34 f29 f30 h.1 (Nat.lt_of_lt_of_le h.2 (Nat.le_of_lt_succ hk38)) _ _ hP hD hS _ (lv_sub hl [1, 2, 0, 3] rfl)
                      · obtain ⟨-, h⟩ := h
                        specialize h c35
                        refine lv_aload_n hx hb dX5_spread_104 rfl (lv_at hl 0 rfl) ?_
                        refine va_get (D := G) (ci := 2) (v := .ref aF) (C := RX2) (T := TX2) (N := 9) hx hb hts iwX2 hown hK.1 hP 0 rfl rfl 0 (by decide) fl21 (fun _ h9 => h9) rfl dX5_spread_105 ?_
                        refine lv_aload_n hx hb dX5_spread_108 rfl (lv_at hl 0 rfl) ?_
                        refine va_get (D := G) (ci := 2) (v := .ref aX) (C := RX2) (T := TX2) (N := 9) hx hb hts iwX2 hown hK.1 hP 0 rfl rfl 2 (by decide) fl28 (fun _ h9 => h9) rfl dX5_spread_109 ?_
                        refine lv_iload hx hb dX5_spread_112 (lv_at hl 5 rfl) ?_
                        obtain ⟨hi, h⟩ := h
                        refine va_iald hx hb hK.1 hP 3 0 rfl rfl hi dX5_spread_114 ?_
                        obtain ⟨hi, h⟩ := h
                        refine va_iald hx hb hK.1 hP 1 0 rfl rfl hi dX5_spread_115 ?_
                        refine lv_iconst (v := (-1)) hx hb dX5_spread_116 (by decide) ?_
                        refine lv_icmp_ne (tgt := 140) hx hb dX5_spread_117 (by decide) (fun c37 => ?_) (fun c37 => ?_)
                        · obtain ⟨-, h⟩ := h
                          specialize h c37
                          obtain ⟨x38, ex38⟩ : ∃ y : Int32, y = y31 + 1 := ⟨_, rfl⟩
                          specialize h x38 ex38
                          refine lv_iinc (v := x38) (lv' := [(6, .int x38), (0, .ref aM), (2, .int p2), (3, .int y11), (4, .int t4), (5, .int x25)]) hx hb dX5_spread_140 hl (k := 5) rfl (by rw [ex38]; rfl) (by decide) rfl (fun ls hl => ?_)
                          refine lv_goto (tgt := 95) hx hb dX5_spread_143 (by decide) ?_
                          exact ih95 x38 z32 f33 f34 h.1 (Nat.lt_of_lt_of_le h.2 (Nat.le_of_lt_succ hk95)) _ _ hP hD hS _ (lv_sub hl [1, 2, 3, 4, 5, 0] rfl)
                        · obtain ⟨h, -⟩ := h
                          specialize h c37
                          refine lv_aload_n hx hb dX5_spread_120 rfl (lv_at hl 0 rfl) ?_
                          refine lv_aload_n hx hb dX5_spread_121 rfl (lv_at hl 0 rfl) ?_
                          refine va_get (D := G) (ci := 2) (v := .ref aX) (C := RX2) (T := TX2) (N := 9) hx hb hts iwX2 hown hK.1 hP 0 rfl rfl 2 (by decide) fl28 (fun _ h9 => h9) rfl dX5_spread_122 ?_
                          refine lv_iload hx hb dX5_spread_125 (lv_at hl 5 rfl) ?_
                          obtain ⟨hi, h⟩ := h
                          refine va_iald hx hb hK.1 hP 3 0 rfl rfl hi dX5_spread_127 ?_
                          refine lv_aload_n hx hb dX5_spread_128 rfl (lv_at hl 0 rfl) ?_
                          refine va_get (D := G) (ci := 2) (v := .ref aF) (C := RX2) (T := TX2) (N := 9) hx hb hts iwX2 hown hK.1 hP 0 rfl rfl 0 (by decide) fl21 (fun _ h9 => h9) rfl dX5_spread_129 ?_
                          refine lv_iload hx hb dX5_spread_132 (lv_at hl 4 rfl) ?_
                          obtain ⟨hi, h⟩ := h
                          refine va_iald hx hb hK.1 hP 1 0 rfl rfl hi dX5_spread_134 ?_
                          refine lv_iconst (v := 1) hx hb dX5_spread_135 (by decide) ?_
                          refine lv_iadd hx hb dX5_spread_136 ?_
                          obtain ⟨Q39, hw9, h⟩ := h
                          have hPc : va_P G vwCl [(aM, .inr (2, [.ref aF, .ref aL, .ref aX, .ref aC, .int vSz, .int z32, .int z28, .ref aN, .int vMv])), (aF, .inl (cy 0, 512, .inl f33)), (aL, .inl (cy 0, 512, .inl f34)), (aX, .inl (cy 0, 81, .inl f29)), (aC, .inl (cy 0, 81, .inl f30)), (aN, .inr (3, [.ref aR, .int vn])), (aR, .inl (cy 0, 9, .inl fN))] H := hP.sub [0, 1, 2, 3, 4, 5, 6] rfl
                          have hDc : va_D A [(aM, .inr (2, [.ref aF, .ref aL, .ref aX, .ref aC, .int vSz, .int z32, .int z28, .ref aN, .int vMv])), (aF, .inl (cy 0, 512, .inl f33)), (aL, .inl (cy 0, 512, .inl f34)), (aX, .inl (cy 0, 81, .inl f29)), (aC, .inl (cy 0, 81, .inl f30)), (aN, .inr (3, [.ref aR, .int vn])), (aR, .inl (cy 0, 9, .inl fN))] := hD.sub [0, 1, 2, 3, 4, 5, 6] (by decide) rfl
                          have hFc := va_free (wc := [(aM, .inr (2, [.ref aF, .ref aL, .ref aX, .ref aC, .int vSz, .int z32, .int z28, .ref aN, .int vMv])), (aF, .inl (cy 0, 512, .inl f33)), (aL, .inl (cy 0, 512, .inl f34)), (aX, .inl (cy 0, 81, .inl f29)), (aC, .inl (cy 0, 81, .inl f30)), (aN, .inr (3, [.ref aR, .int vn])), (aR, .inl (cy 0, 9, .inl fN))]) hD hS hA [0, 1, 2, 3, 4, 5, 6] rfl
                          refine va_callv (va_runU (As := [.int (f29 (y31 : Int32).toNatClampNeg), .int ((f33 (x25 : Int32).toNatClampNeg) + (1 : Int32))]) (rest := []) ⟨hx, hb, hml, hown, hts⟩ (ct_X5_enter_M l G cy aM aF aL aX aC aN aR H.size vSz z32 z28 vMv f33 f34 f29 f30 vn fN (f29 (y31 : Int32).toNatClampNeg) ((f33 (x25 : Int32).toNatClampNeg) + (1 : Int32)) Q39 hw9) (va_cwU 2 hts gX5_spread_X5_enter_u38X2 rfl rfl rfl rfl (by decide +kernel) ⟨Nat.le_of_ble_eq_true rfl, Nat.le_of_ble_eq_true rfl⟩) (wP_V hK hP (ci := 2) (q0 := 0) rfl rfl hPc hDc) rfl rfl hl.1 rfl (lv_room (Nat.le_of_ble_eq_true rfl)) dX5_spread_137 ⟨Nat.le_of_ble_eq_true rfl, Nat.le_of_ble_eq_true rfl⟩) hS (fun q9 _ h9 => hFc q9 h9) hFc (fun u9 t9 H locs ht9 hvm9 hw9 hB9 hz9 hk9 hS => ?_)
                          obtain ⟨z41, f42, f43⟩ := u9
                          have hP : va_P G vwCl [(aM, .inr (2, [.ref aF, .ref aL, .ref aX, .ref aC, .int vSz, .int z41, .int z28, .ref aN, .int vMv])), (aF, .inl (cy 0, 512, .inl f42)), (aL, .inl (cy 0, 512, .inl f43)), (aX, .inl (cy 0, 81, .inl f29)), (aC, .inl (cy 0, 81, .inl f30)), (aN, .inr (3, [.ref aR, .int vn])), (aR, .inl (cy 0, 9, .inl fN))] H := P_back [0, 1, 2, 3, 4, 5, 6] [] 7 hP hD rfl rfl rfl rfl (by decide) (by decide) hk9 (by rw [← ht9]; exact hB9)
                          have hD : va_D A [(aM, .inr (2, [.ref aF, .ref aL, .ref aX, .ref aC, .int vSz, .int z41, .int z28, .ref aN, .int vMv])), (aF, .inl (cy 0, 512, .inl f42)), (aL, .inl (cy 0, 512, .inl f43)), (aX, .inl (cy 0, 81, .inl f29)), (aC, .inl (cy 0, 81, .inl f30)), (aN, .inr (3, [.ref aR, .int vn])), (aR, .inl (cy 0, 9, .inl fN))] := D_same hD rfl
                          specialize h z41 f42 f43 hw9
                          obtain ⟨x44, ex44⟩ : ∃ y : Int32, y = y31 + 1 := ⟨_, rfl⟩
                          specialize h x44 ex44
                          refine lv_iinc (v := x44) (lv' := [(6, .int x44), (0, .ref aM), (2, .int p2), (3, .int y11), (4, .int t4), (5, .int x25)]) hx hb dX5_spread_140 hl (k := 5) rfl (by rw [ex44]; rfl) (by decide) rfl (fun ls hl => ?_)
                          refine lv_goto (tgt := 95) hx hb dX5_spread_143 (by decide) ?_
                          exact ih95 x44 z41 f42 f43 h.1 (Nat.lt_of_lt_of_le h.2 (Nat.le_of_lt_succ hk95)) _ _ hP hD hS _ (lv_sub hl [1, 2, 3, 4, 5, 0] rfl)
                  exact key95 _ 0 z12 f14 f15 h095 (Nat.lt_succ_self _) _ _ hP hD hS _ (lv_sub hl [2, 3, 4, 5, 1, 0] rfl)
                refine lv_if_eq (tgt := 78) hx hb dX5_spread_65 (by decide) (fun c23 => ?_) (fun c23 => ?_)
                · obtain ⟨h, -⟩ := h
                  specialize h c23
                  exact jn78  h _ _ hP hD hS _ (lv_sub hl [0, 1, 2, 3] rfl)
                · obtain ⟨-, h⟩ := h
                  specialize h c23
                  refine lv_aload_n hx hb dX5_spread_68 rfl (lv_at hl 0 rfl) ?_
                  refine va_get (D := G) (ci := 2) (v := .ref aF) (C := RX2) (T := TX2) (N := 9) hx hb hts iwX2 hown hK.1 hP 0 rfl rfl 0 (by decide) fl21 (fun _ h9 => h9) rfl dX5_spread_69 ?_
                  refine lv_iload_n hx hb dX5_spread_72 rfl (lv_at hl 1 rfl) ?_
                  obtain ⟨hi, h⟩ := h
                  refine va_iald hx hb hK.1 hP 1 0 rfl rfl hi dX5_spread_73 ?_
                  refine lv_if_lt (tgt := 78) hx hb dX5_spread_74 (by decide) (fun c24 => ?_) (fun c24 => ?_)
                  · obtain ⟨h, -⟩ := h
                    specialize h c24
                    exact jn78  h _ _ hP hD hS _ (lv_sub hl [0, 1, 2, 3] rfl)
                  · obtain ⟨-, h⟩ := h
                    specialize h c24
                    rw [← hQe]
                    exact W.vret hx hb hr (fun t ht hW => ⟨⟨(z12, z13, f14, f15, f16, f17), rfl, h, by dsimp only; rw [ht]; exact hP⟩, hS.F ht⟩) hS.2.2 dX5_spread_77
      exact key38 _ vTl z8 vFo f9 f10 fX fC h038 (Nat.lt_succ_self _) _ _ hP hD hS _ (lv_sub hl [1, 3, 4, 0] rfl)
    refine lv_icmp_eq (tgt := 29) hx hb dX5_spread_22 (by decide) (fun c5 => ?_) (fun c5 => ?_)
    · obtain ⟨h, -⟩ := h
      specialize h c5
      refine lv_iconst (v := 0) hx hb dX5_spread_29 (by decide) ?_
      exact jn30 0 h _ _ hP hD hS _ (lv_sub hl [1, 2, 3, 0] rfl)
    · obtain ⟨-, h⟩ := h
      specialize h c5
      refine lv_iconst (v := 1) hx hb dX5_spread_25 (by decide) ?_
      refine lv_goto (tgt := 30) hx hb dX5_spread_26 (by decide) ?_
      exact jn30 1 h _ _ hP hD hS _ (lv_sub hl [1, 2, 3, 0] rfl)
  · obtain ⟨h, -⟩ := h
    specialize h c3
    rw [← hQe]
    exact W.vret hx hb hr (fun t ht hW => ⟨⟨(vTl, vFo, fF, fL, fX, fC), rfl, h, by dsimp only; rw [ht]; exact hP⟩, hS.F ht⟩) hS.2.2 dX5_spread_8

set_option maxHeartbeats 4000000 in
set_option maxRecDepth 100000 in
theorem ct_X5_fewest_M (l : Launch) (G : va_G) (cy : Nat → ClassId) (aM aF aL aX aC aN aR : Nat) (sz : Nat) (vSz : Int32) (vTl : Int32) (vFo : Int32) (vMv : Int32) (fF : Nat → Int32) (fL : Nat → Int32) (fX : Nat → Int32) (fC : Nat → Int32) (vn : Int32) (fN : Nat → Int32) (p1 : Int32) (p2 : Int32) (Q : Int32 → Int32 → Int32 → (Nat → Int32) → (Nat → Int32) → (Nat → Int32) → (Nat → Int32) → Prop) (h : wp_X5_fewest_M vSz vTl vFo vMv fF fL fX fC vn fN p1 p2 Q) : Met l yX5_fewest wsX5_fewest rmX5_fewest_M (va_Pc [.ref aM, .int p1, .int p2] (wP G cy sz [(aM, .inr (2, [.ref aF, .ref aL, .ref aX, .ref aC, .int vSz, .int vTl, .int vFo, .ref aN, .int vMv])), (aF, .inl (cy 0, 512, .inl fF)), (aL, .inl (cy 0, 512, .inl fL)), (aX, .inl (cy 0, 81, .inl fX)), (aC, .inl (cy 0, 81, .inl fC)), (aN, .inr (3, [.ref aR, .int vn])), (aR, .inl (cy 0, 9, .inl fN))])) (va_Qi (fun (r : Int32) (u : Int32 × Int32 × (Nat → Int32) × (Nat → Int32) × (Nat → Int32) × (Nat → Int32)) => Q r u.1 u.2.1 u.2.2.1 u.2.2.2.1 u.2.2.2.2.1 u.2.2.2.2.2) (fun (u : Int32 × Int32 × (Nat → Int32) × (Nat → Int32) × (Nat → Int32) × (Nat → Int32)) (t : State) => va_P G vwCl [(aM, .inr (2, [.ref aF, .ref aL, .ref aX, .ref aC, .int vSz, .int u.1, .int u.2.1, .ref aN, .int vMv])), (aF, .inl (cy 0, 512, .inl u.2.2.1)), (aL, .inl (cy 0, 512, .inl u.2.2.2.1)), (aX, .inl (cy 0, 81, .inl u.2.2.2.2.1)), (aC, .inl (cy 0, 81, .inl u.2.2.2.2.2)), (aN, .inr (3, [.ref aR, .int vn])), (aR, .inl (cy 0, 9, .inl fN))] t.heap) (va_A [(aM, .inr (2, [.ref aF, .ref aL, .ref aX, .ref aC, .int vSz, .int vTl, .int vFo, .ref aN, .int vMv])), (aF, .inl (cy 0, 512, .inl fF)), (aL, .inl (cy 0, 512, .inl fL)), (aX, .inl (cy 0, 81, .inl fX)), (aC, .inl (cy 0, 81, .inl fC)), (aN, .inr (3, [.ref aR, .int vn])), (aR, .inl (cy 0, 9, .inl fN))] sz)) 0 0 (va_A [(aM, .inr (2, [.ref aF, .ref aL, .ref aX, .ref aC, .int vSz, .int vTl, .int vFo, .ref aN, .int vMv])), (aF, .inl (cy 0, 512, .inl fF)), (aL, .inl (cy 0, 512, .inl fL)), (aX, .inl (cy 0, 81, .inl fX)), (aC, .inl (cy 0, 81, .inl fC)), (aN, .inr (3, [.ref aR, .int vn])), (aR, .inl (cy 0, 9, .inl fN))] sz) := by
  unfold wp_X5_fewest_M at h
  refine Met.ofW (cc := cX5_fewest) (maxL := 3) (ret := (some .int)) (by decide) rfl ?_
  intro p e s m args below meth c s₁ B hml hv
  obtain ⟨hav, hsz, hP, hK, hD0⟩ := hv
  have hx := B.exec
  have hb := B.bytes
  have hr := B.returns
  have hts := atoms_spec (ws := wsX5_fewest) B.pre
  have hown : s.vm.findClass RX5 = some m.cls := findClass_of_methodNamed B.named
  have hlocks := B.notSynchronized
  subst hsz
  have hD := hD0.self (sz := s.heap.size)
  generalize hAe : va_A [(aM, .inr (2, [.ref aF, .ref aL, .ref aX, .ref aC, .int vSz, .int vTl, .int vFo, .ref aN, .int vMv])), (aF, .inl (cy 0, 512, .inl fF)), (aL, .inl (cy 0, 512, .inl fL)), (aX, .inl (cy 0, 81, .inl fX)), (aC, .inl (cy 0, 81, .inl fC)), (aN, .inr (3, [.ref aR, .int vn])), (aR, .inl (cy 0, 9, .inl fN))] s.heap.size = A at hD ⊢
  have hA : ∀ q : Nat, s.heap.size ≤ q → A q := fun q h9 => by rw [← hAe]; exact Or.inr h9
  have hS : va_S A s.heap s.heap [] := va_S.rf
  have hl := lv_entry ([.ref aM, .int p1, .int p2]) (n := 3) (Nat.le_of_ble_eq_true rfl)
  rw [show entryFrame m args 3 = entryFrame m ([.ref aM, .int p1, .int p2] : List Value).toArray 3 by rw [hav], lg_entry_eq]
  generalize (lg_sl ([.ref aM, .int p1, .int p2]) ++ List.replicate (3 - (lg_sl ([.ref aM, .int p1, .int p2])).length) Slot.unset).toArray = ls at hl ⊢
  have hl : lv_has ls 3 [(0, .ref aM), (1, .int p1), (2, .int p2)] := hl
  generalize hQe : MQ below _ _ _ _ _ _ = QM
  have hP : va_P G vwCl [(aM, .inr (2, [.ref aF, .ref aL, .ref aX, .ref aC, .int vSz, .int vTl, .int vFo, .ref aN, .int vMv])), (aF, .inl (cy 0, 512, .inl fF)), (aL, .inl (cy 0, 512, .inl fL)), (aX, .inl (cy 0, 81, .inl fX)), (aC, .inl (cy 0, 81, .inl fC)), (aN, .inr (3, [.ref aR, .int vn])), (aR, .inl (cy 0, 9, .inl fN))] s.heap := hP
  have iwX2 : ∀ w ∈ wsX20, w ∈ wsX5_fewest := by decide +kernel
  have fl21 := hts (.fieldLink RX5 21 "SlidTokens$Search" "far" "[I") (by decide +kernel)
  suffices K9 : ∀ (H : Heap) (locs : List Loc), va_P G vwCl [(aM, .inr (2, [.ref aF, .ref aL, .ref aX, .ref aC, .int vSz, .int vTl, .int vFo, .ref aN, .int vMv])), (aF, .inl (cy 0, 512, .inl fF)), (aL, .inl (cy 0, 512, .inl fL)), (aX, .inl (cy 0, 81, .inl fX)), (aC, .inl (cy 0, 81, .inl fC)), (aN, .inr (3, [.ref aR, .int vn])), (aR, .inl (cy 0, 9, .inl fN))] H → va_D A [(aM, .inr (2, [.ref aF, .ref aL, .ref aX, .ref aC, .int vSz, .int vTl, .int vFo, .ref aN, .int vMv])), (aF, .inl (cy 0, 512, .inl fF)), (aL, .inl (cy 0, 512, .inl fL)), (aX, .inl (cy 0, 81, .inl fX)), (aC, .inl (cy 0, 81, .inl fC)), (aN, .inr (3, [.ref aR, .int vn])), (aR, .inl (cy 0, 9, .inl fN))] → va_S A s.heap H locs → W p l e (headSpec wsX5_fewest rmX5_fewest_M).room s m args below meth c H locs 0 0 QM (F0 m 0 ls []) from K9 _ _ hP hD hS
  clear hP hD hS
  intro H locs hP hD hS
  refine lv_iload_n hx hb dX5_fewest_0 rfl (lv_at hl 1 rfl) ?_
  refine lv_iload_n hx hb dX5_fewest_1 rfl (lv_at hl 2 rfl) ?_
  refine lv_icmp_ne (tgt := 7) hx hb dX5_fewest_2 (by decide) (fun c1 => ?_) (fun c1 => ?_)
  · obtain ⟨-, h⟩ := h
    specialize h c1
    refine lv_aload_n hx hb dX5_fewest_7 rfl (lv_at hl 0 rfl) ?_
    refine lv_iload_n hx hb dX5_fewest_8 rfl (lv_at hl 1 rfl) ?_
    obtain ⟨Q2, hw9, h⟩ := h
    have hPc : va_P G vwCl [(aM, .inr (2, [.ref aF, .ref aL, .ref aX, .ref aC, .int vSz, .int vTl, .int vFo, .ref aN, .int vMv])), (aF, .inl (cy 0, 512, .inl fF)), (aL, .inl (cy 0, 512, .inl fL)), (aX, .inl (cy 0, 81, .inl fX)), (aC, .inl (cy 0, 81, .inl fC)), (aN, .inr (3, [.ref aR, .int vn])), (aR, .inl (cy 0, 9, .inl fN))] H := hP.sub [0, 1, 2, 3, 4, 5, 6] rfl
    refine vp_callSi (va_Run.run (va_runU (As := [.int p1]) (rest := []) ⟨hx, hb, hml, hown, hts⟩ (ct_X5_isState_M l G cy aM aF aL aX aC aN aR vSz vTl vFo vMv fF fL fX fC vn fN p1 Q2 hw9) (va_cwU 1 hts gX5_fewest_X5_isState_u34X2 rfl rfl rfl rfl (by decide +kernel) ⟨Nat.le_of_ble_eq_true rfl, Nat.le_of_ble_eq_true rfl⟩) (rP_V hK hP (ci := 2) (q0 := 0) rfl rfl hPc) rfl rfl hl.1 rfl (lv_room (Nat.le_of_ble_eq_true rfl)) dX5_fewest_9 ⟨Nat.le_of_ble_eq_true rfl, Nat.le_of_ble_eq_true rfl⟩)) (fun r3 er3 => ?_)
    specialize h r3 er3
    refine lv_if_eq (tgt := 45) hx hb dX5_fewest_12 (by decide) (fun c4 => ?_) (fun c4 => ?_)
    · obtain ⟨h, -⟩ := h
      specialize h c4
      refine lv_bipush (v := (-9)) hx hb dX5_fewest_45 (by decide) ?_
      rw [← hQe]
      exact W.iret (v := (-9)) hx hb hr (fun t ht hW => ⟨⟨(-9), (vTl, vFo, fF, fL, fX, fC), rfl, h, by dsimp only; rw [ht]; exact hP⟩, hS.F ht⟩) hS.2.2 dX5_fewest_47
    · obtain ⟨-, h⟩ := h
      specialize h c4
      refine lv_aload_n hx hb dX5_fewest_15 rfl (lv_at hl 0 rfl) ?_
      refine lv_iload_n hx hb dX5_fewest_16 rfl (lv_at hl 2 rfl) ?_
      obtain ⟨Q5, hw9, h⟩ := h
      have hPc : va_P G vwCl [(aM, .inr (2, [.ref aF, .ref aL, .ref aX, .ref aC, .int vSz, .int vTl, .int vFo, .ref aN, .int vMv])), (aF, .inl (cy 0, 512, .inl fF)), (aL, .inl (cy 0, 512, .inl fL)), (aX, .inl (cy 0, 81, .inl fX)), (aC, .inl (cy 0, 81, .inl fC)), (aN, .inr (3, [.ref aR, .int vn])), (aR, .inl (cy 0, 9, .inl fN))] H := hP.sub [0, 1, 2, 3, 4, 5, 6] rfl
      refine vp_callSi (va_Run.run (va_runU (As := [.int p2]) (rest := []) ⟨hx, hb, hml, hown, hts⟩ (ct_X5_isState_M l G cy aM aF aL aX aC aN aR vSz vTl vFo vMv fF fL fX fC vn fN p2 Q5 hw9) (va_cwU 1 hts gX5_fewest_X5_isState_u34X2 rfl rfl rfl rfl (by decide +kernel) ⟨Nat.le_of_ble_eq_true rfl, Nat.le_of_ble_eq_true rfl⟩) (rP_V hK hP (ci := 2) (q0 := 0) rfl rfl hPc) rfl rfl hl.1 rfl (lv_room (Nat.le_of_ble_eq_true rfl)) dX5_fewest_17 ⟨Nat.le_of_ble_eq_true rfl, Nat.le_of_ble_eq_true rfl⟩)) (fun r6 er6 => ?_)
      specialize h r6 er6
      refine lv_if_eq (tgt := 45) hx hb dX5_fewest_20 (by decide) (fun c7 => ?_) (fun c7 => ?_)
      · obtain ⟨h, -⟩ := h
        specialize h c7
        refine lv_bipush (v := (-9)) hx hb dX5_fewest_45 (by decide) ?_
        rw [← hQe]
        exact W.iret (v := (-9)) hx hb hr (fun t ht hW => ⟨⟨(-9), (vTl, vFo, fF, fL, fX, fC), rfl, h, by dsimp only; rw [ht]; exact hP⟩, hS.F ht⟩) hS.2.2 dX5_fewest_47
      · obtain ⟨-, h⟩ := h
        specialize h c7
        refine lv_aload_n hx hb dX5_fewest_23 rfl (lv_at hl 0 rfl) ?_
        refine va_get (D := G) (ci := 2) (v := .ref aF) (C := RX2) (T := TX2) (N := 9) hx hb hts iwX2 hown hK.1 hP 0 rfl rfl 0 (by decide) fl21 (fun _ h9 => h9) rfl dX5_fewest_24 ?_
        refine lv_iload_n hx hb dX5_fewest_27 rfl (lv_at hl 1 rfl) ?_
        obtain ⟨hi, h⟩ := h
        refine va_iald hx hb hK.1 hP 1 0 rfl rfl hi dX5_fewest_28 ?_
        refine lv_bipush (v := (-2)) hx hb dX5_fewest_29 (by decide) ?_
        refine lv_icmp_eq (tgt := 45) hx hb dX5_fewest_31 (by decide) (fun c8 => ?_) (fun c8 => ?_)
        · obtain ⟨h, -⟩ := h
          specialize h c8
          refine lv_bipush (v := (-9)) hx hb dX5_fewest_45 (by decide) ?_
          rw [← hQe]
          exact W.iret (v := (-9)) hx hb hr (fun t ht hW => ⟨⟨(-9), (vTl, vFo, fF, fL, fX, fC), rfl, h, by dsimp only; rw [ht]; exact hP⟩, hS.F ht⟩) hS.2.2 dX5_fewest_47
        · obtain ⟨-, h⟩ := h
          specialize h c8
          refine lv_aload_n hx hb dX5_fewest_34 rfl (lv_at hl 0 rfl) ?_
          refine va_get (D := G) (ci := 2) (v := .ref aF) (C := RX2) (T := TX2) (N := 9) hx hb hts iwX2 hown hK.1 hP 0 rfl rfl 0 (by decide) fl21 (fun _ h9 => h9) rfl dX5_fewest_35 ?_
          refine lv_iload_n hx hb dX5_fewest_38 rfl (lv_at hl 2 rfl) ?_
          obtain ⟨hi, h⟩ := h
          refine va_iald hx hb hK.1 hP 1 0 rfl rfl hi dX5_fewest_39 ?_
          refine lv_bipush (v := (-2)) hx hb dX5_fewest_40 (by decide) ?_
          refine lv_icmp_ne (tgt := 48) hx hb dX5_fewest_42 (by decide) (fun c9 => ?_) (fun c9 => ?_)
          · obtain ⟨-, h⟩ := h
            specialize h c9
            refine lv_aload_n hx hb dX5_fewest_48 rfl (lv_at hl 0 rfl) ?_
            refine lv_iload_n hx hb dX5_fewest_49 rfl (lv_at hl 2 rfl) ?_
            refine lv_iload_n hx hb dX5_fewest_50 rfl (lv_at hl 1 rfl) ?_
            obtain ⟨Q10, hw9, h⟩ := h
            have hPc : va_P G vwCl [(aM, .inr (2, [.ref aF, .ref aL, .ref aX, .ref aC, .int vSz, .int vTl, .int vFo, .ref aN, .int vMv])), (aF, .inl (cy 0, 512, .inl fF)), (aL, .inl (cy 0, 512, .inl fL)), (aX, .inl (cy 0, 81, .inl fX)), (aC, .inl (cy 0, 81, .inl fC)), (aN, .inr (3, [.ref aR, .int vn])), (aR, .inl (cy 0, 9, .inl fN))] H := hP.sub [0, 1, 2, 3, 4, 5, 6] rfl
            have hDc : va_D A [(aM, .inr (2, [.ref aF, .ref aL, .ref aX, .ref aC, .int vSz, .int vTl, .int vFo, .ref aN, .int vMv])), (aF, .inl (cy 0, 512, .inl fF)), (aL, .inl (cy 0, 512, .inl fL)), (aX, .inl (cy 0, 81, .inl fX)), (aC, .inl (cy 0, 81, .inl fC)), (aN, .inr (3, [.ref aR, .int vn])), (aR, .inl (cy 0, 9, .inl fN))] := hD.sub [0, 1, 2, 3, 4, 5, 6] (by decide) rfl
            have hFc := va_free (wc := [(aM, .inr (2, [.ref aF, .ref aL, .ref aX, .ref aC, .int vSz, .int vTl, .int vFo, .ref aN, .int vMv])), (aF, .inl (cy 0, 512, .inl fF)), (aL, .inl (cy 0, 512, .inl fL)), (aX, .inl (cy 0, 81, .inl fX)), (aC, .inl (cy 0, 81, .inl fC)), (aN, .inr (3, [.ref aR, .int vn])), (aR, .inl (cy 0, 9, .inl fN))]) hD hS hA [0, 1, 2, 3, 4, 5, 6] rfl
            refine va_callv (va_runU (As := [.int p2, .int p1]) (rest := []) ⟨hx, hb, hml, hown, hts⟩ (ct_X5_spread_M l G cy aM aF aL aX aC aN aR H.size vSz vTl vFo vMv fF fL fX fC vn fN p2 p1 Q10 hw9) (va_cwU 2 hts gX5_fewest_X5_spread_u46X2 rfl rfl rfl rfl (by decide +kernel) ⟨Nat.le_of_ble_eq_true rfl, Nat.le_of_ble_eq_true rfl⟩) (wP_V hK hP (ci := 2) (q0 := 0) rfl rfl hPc hDc) rfl rfl hl.1 rfl (lv_room (Nat.le_of_ble_eq_true rfl)) dX5_fewest_51 ⟨Nat.le_of_ble_eq_true rfl, Nat.le_of_ble_eq_true rfl⟩) hS (fun q9 _ h9 => hFc q9 h9) hFc (fun u9 t9 H locs ht9 hvm9 hw9 hB9 hz9 hk9 hS => ?_)
            obtain ⟨z12, z13, f14, f15, f16, f17⟩ := u9
            have hP : va_P G vwCl [(aM, .inr (2, [.ref aF, .ref aL, .ref aX, .ref aC, .int vSz, .int z12, .int z13, .ref aN, .int vMv])), (aF, .inl (cy 0, 512, .inl f14)), (aL, .inl (cy 0, 512, .inl f15)), (aX, .inl (cy 0, 81, .inl f16)), (aC, .inl (cy 0, 81, .inl f17)), (aN, .inr (3, [.ref aR, .int vn])), (aR, .inl (cy 0, 9, .inl fN))] H := P_back [0, 1, 2, 3, 4, 5, 6] [] 7 hP hD rfl rfl rfl rfl (by decide) (by decide) hk9 (by rw [← ht9]; exact hB9)
            have hD : va_D A [(aM, .inr (2, [.ref aF, .ref aL, .ref aX, .ref aC, .int vSz, .int z12, .int z13, .ref aN, .int vMv])), (aF, .inl (cy 0, 512, .inl f14)), (aL, .inl (cy 0, 512, .inl f15)), (aX, .inl (cy 0, 81, .inl f16)), (aC, .inl (cy 0, 81, .inl f17)), (aN, .inr (3, [.ref aR, .int vn])), (aR, .inl (cy 0, 9, .inl fN))] := D_same hD rfl
            specialize h z12 z13 f14 f15 f16 f17 hw9
            refine lv_aload_n hx hb dX5_fewest_54 rfl (lv_at hl 0 rfl) ?_
            refine va_get (D := G) (ci := 2) (v := .ref aF) (C := RX2) (T := TX2) (N := 9) hx hb hts iwX2 hown hK.1 hP 0 rfl rfl 0 (by decide) fl21 (fun _ h9 => h9) rfl dX5_fewest_55 ?_
            refine lv_iload_n hx hb dX5_fewest_58 rfl (lv_at hl 1 rfl) ?_
            obtain ⟨hi, h⟩ := h
            refine va_iald hx hb hK.1 hP 1 0 rfl rfl hi dX5_fewest_59 ?_
            refine lv_iconst (v := (-1)) hx hb dX5_fewest_60 (by decide) ?_
            refine lv_icmp_ne (tgt := 69) hx hb dX5_fewest_61 (by decide) (fun c18 => ?_) (fun c18 => ?_)
            · obtain ⟨-, h⟩ := h
              specialize h c18
              refine lv_aload_n hx hb dX5_fewest_69 rfl (lv_at hl 0 rfl) ?_
              refine va_get (D := G) (ci := 2) (v := .ref aF) (C := RX2) (T := TX2) (N := 9) hx hb hts iwX2 hown hK.1 hP 0 rfl rfl 0 (by decide) fl21 (fun _ h9 => h9) rfl dX5_fewest_70 ?_
              refine lv_iload_n hx hb dX5_fewest_73 rfl (lv_at hl 1 rfl) ?_
              obtain ⟨hi, h⟩ := h
              refine va_iald hx hb hK.1 hP 1 0 rfl rfl hi dX5_fewest_74 ?_
              rw [← hQe]
              exact W.iret (v := (f14 (p1 : Int32).toNatClampNeg)) hx hb hr (fun t ht hW => ⟨⟨(f14 (p1 : Int32).toNatClampNeg), (z12, z13, f14, f15, f16, f17), rfl, h, by dsimp only; rw [ht]; exact hP⟩, hS.F ht⟩) hS.2.2 dX5_fewest_75
            · obtain ⟨h, -⟩ := h
              specialize h c18
              refine lv_bipush (v := (-9)) hx hb dX5_fewest_64 (by decide) ?_
              refine lv_goto (tgt := 75) hx hb dX5_fewest_66 (by decide) ?_
              rw [← hQe]
              exact W.iret (v := (-9)) hx hb hr (fun t ht hW => ⟨⟨(-9), (z12, z13, f14, f15, f16, f17), rfl, h, by dsimp only; rw [ht]; exact hP⟩, hS.F ht⟩) hS.2.2 dX5_fewest_75
          · obtain ⟨h, -⟩ := h
            specialize h c9
            refine lv_bipush (v := (-9)) hx hb dX5_fewest_45 (by decide) ?_
            rw [← hQe]
            exact W.iret (v := (-9)) hx hb hr (fun t ht hW => ⟨⟨(-9), (vTl, vFo, fF, fL, fX, fC), rfl, h, by dsimp only; rw [ht]; exact hP⟩, hS.F ht⟩) hS.2.2 dX5_fewest_47
  · obtain ⟨h, -⟩ := h
    specialize h c1
    refine lv_iconst (v := 0) hx hb dX5_fewest_5 (by decide) ?_
    rw [← hQe]
    exact W.iret (v := 0) hx hb hr (fun t ht hW => ⟨⟨0, (vTl, vFo, fF, fL, fX, fC), rfl, h, by dsimp only; rw [ht]; exact hP⟩, hS.F ht⟩) hS.2.2 dX5_fewest_6

set_option maxHeartbeats 4000000 in
set_option maxRecDepth 100000 in
theorem ct_X5_components_M (l : Launch) (G : va_G) (cy : Nat → ClassId) (aM aF aL aX aC aN aR : Nat) (sz : Nat) (vSz : Int32) (vTl : Int32) (vFo : Int32) (vMv : Int32) (fF : Nat → Int32) (fL : Nat → Int32) (fX : Nat → Int32) (fC : Nat → Int32) (vn : Int32) (fN : Nat → Int32) (Q : Int32 → Int32 → Int32 → (Nat → Int32) → (Nat → Int32) → (Nat → Int32) → (Nat → Int32) → Prop) (h : wp_X5_components_M vSz vTl vFo vMv fF fL fX fC vn fN Q) : Met l yX5_components wsX5_components rmX5_components_M (va_Pc [.ref aM] (wP G cy sz [(aM, .inr (2, [.ref aF, .ref aL, .ref aX, .ref aC, .int vSz, .int vTl, .int vFo, .ref aN, .int vMv])), (aF, .inl (cy 0, 512, .inl fF)), (aL, .inl (cy 0, 512, .inl fL)), (aX, .inl (cy 0, 81, .inl fX)), (aC, .inl (cy 0, 81, .inl fC)), (aN, .inr (3, [.ref aR, .int vn])), (aR, .inl (cy 0, 9, .inl fN))])) (va_Qi (fun (r : Int32) (u : Int32 × Int32 × (Nat → Int32) × (Nat → Int32) × (Nat → Int32) × (Nat → Int32)) => Q r u.1 u.2.1 u.2.2.1 u.2.2.2.1 u.2.2.2.2.1 u.2.2.2.2.2) (fun (u : Int32 × Int32 × (Nat → Int32) × (Nat → Int32) × (Nat → Int32) × (Nat → Int32)) (t : State) => va_P G vwCl [(aM, .inr (2, [.ref aF, .ref aL, .ref aX, .ref aC, .int vSz, .int u.1, .int u.2.1, .ref aN, .int vMv])), (aF, .inl (cy 0, 512, .inl u.2.2.1)), (aL, .inl (cy 0, 512, .inl u.2.2.2.1)), (aX, .inl (cy 0, 81, .inl u.2.2.2.2.1)), (aC, .inl (cy 0, 81, .inl u.2.2.2.2.2)), (aN, .inr (3, [.ref aR, .int vn])), (aR, .inl (cy 0, 9, .inl fN))] t.heap) (va_A [(aM, .inr (2, [.ref aF, .ref aL, .ref aX, .ref aC, .int vSz, .int vTl, .int vFo, .ref aN, .int vMv])), (aF, .inl (cy 0, 512, .inl fF)), (aL, .inl (cy 0, 512, .inl fL)), (aX, .inl (cy 0, 81, .inl fX)), (aC, .inl (cy 0, 81, .inl fC)), (aN, .inr (3, [.ref aR, .int vn])), (aR, .inl (cy 0, 9, .inl fN))] sz)) 0 0 (va_A [(aM, .inr (2, [.ref aF, .ref aL, .ref aX, .ref aC, .int vSz, .int vTl, .int vFo, .ref aN, .int vMv])), (aF, .inl (cy 0, 512, .inl fF)), (aL, .inl (cy 0, 512, .inl fL)), (aX, .inl (cy 0, 81, .inl fX)), (aC, .inl (cy 0, 81, .inl fC)), (aN, .inr (3, [.ref aR, .int vn])), (aR, .inl (cy 0, 9, .inl fN))] sz) := by
  unfold wp_X5_components_M at h
  refine Met.ofW (cc := cX5_components) (maxL := 3) (ret := (some .int)) (by decide) rfl ?_
  intro p e s m args below meth c s₁ B hml hv
  obtain ⟨hav, hsz, hP, hK, hD0⟩ := hv
  have hx := B.exec
  have hb := B.bytes
  have hr := B.returns
  have hts := atoms_spec (ws := wsX5_components) B.pre
  have hown : s.vm.findClass RX5 = some m.cls := findClass_of_methodNamed B.named
  have hlocks := B.notSynchronized
  subst hsz
  have hD := hD0.self (sz := s.heap.size)
  generalize hAe : va_A [(aM, .inr (2, [.ref aF, .ref aL, .ref aX, .ref aC, .int vSz, .int vTl, .int vFo, .ref aN, .int vMv])), (aF, .inl (cy 0, 512, .inl fF)), (aL, .inl (cy 0, 512, .inl fL)), (aX, .inl (cy 0, 81, .inl fX)), (aC, .inl (cy 0, 81, .inl fC)), (aN, .inr (3, [.ref aR, .int vn])), (aR, .inl (cy 0, 9, .inl fN))] s.heap.size = A at hD ⊢
  have hA : ∀ q : Nat, s.heap.size ≤ q → A q := fun q h9 => by rw [← hAe]; exact Or.inr h9
  have hS : va_S A s.heap s.heap [] := va_S.rf
  have hl := lv_entry ([.ref aM]) (n := 3) (Nat.le_of_ble_eq_true rfl)
  rw [show entryFrame m args 3 = entryFrame m ([.ref aM] : List Value).toArray 3 by rw [hav], lg_entry_eq]
  generalize (lg_sl ([.ref aM]) ++ List.replicate (3 - (lg_sl ([.ref aM])).length) Slot.unset).toArray = ls at hl ⊢
  have hl : lv_has ls 3 [(0, .ref aM)] := hl
  generalize hQe : MQ below _ _ _ _ _ _ = QM
  have hP : va_P G vwCl [(aM, .inr (2, [.ref aF, .ref aL, .ref aX, .ref aC, .int vSz, .int vTl, .int vFo, .ref aN, .int vMv])), (aF, .inl (cy 0, 512, .inl fF)), (aL, .inl (cy 0, 512, .inl fL)), (aX, .inl (cy 0, 81, .inl fX)), (aC, .inl (cy 0, 81, .inl fC)), (aN, .inr (3, [.ref aR, .int vn])), (aR, .inl (cy 0, 9, .inl fN))] s.heap := hP
  have iwX2 : ∀ w ∈ wsX20, w ∈ wsX5_components := by decide +kernel
  have fl9 := hts (.fieldLink RX5 9 "SlidTokens$Search" "size" "I") (by decide +kernel)
  have fl21 := hts (.fieldLink RX5 21 "SlidTokens$Search" "far" "[I") (by decide +kernel)
  suffices K9 : ∀ (H : Heap) (locs : List Loc), va_P G vwCl [(aM, .inr (2, [.ref aF, .ref aL, .ref aX, .ref aC, .int vSz, .int vTl, .int vFo, .ref aN, .int vMv])), (aF, .inl (cy 0, 512, .inl fF)), (aL, .inl (cy 0, 512, .inl fL)), (aX, .inl (cy 0, 81, .inl fX)), (aC, .inl (cy 0, 81, .inl fC)), (aN, .inr (3, [.ref aR, .int vn])), (aR, .inl (cy 0, 9, .inl fN))] H → va_D A [(aM, .inr (2, [.ref aF, .ref aL, .ref aX, .ref aC, .int vSz, .int vTl, .int vFo, .ref aN, .int vMv])), (aF, .inl (cy 0, 512, .inl fF)), (aL, .inl (cy 0, 512, .inl fL)), (aX, .inl (cy 0, 81, .inl fX)), (aC, .inl (cy 0, 81, .inl fC)), (aN, .inr (3, [.ref aR, .int vn])), (aR, .inl (cy 0, 9, .inl fN))] → va_S A s.heap H locs → W p l e (headSpec wsX5_components rmX5_components_M).room s m args below meth c H locs 0 0 QM (F0 m 0 ls []) from K9 _ _ hP hD hS
  clear hP hD hS
  intro H locs hP hD hS
  refine lv_iconst (v := 0) hx hb dX5_components_0 (by decide) ?_
  refine lv_istore_n (lv' := [(1, .int 0), (0, .ref aM)]) hx hb dX5_components_1 rfl hl (by decide) rfl (fun ls hl => ?_)
  refine lv_iconst (v := 0) hx hb dX5_components_2 (by decide) ?_
  refine lv_istore_n (lv' := [(2, .int 0), (1, .int 0), (0, .ref aM)]) hx hb dX5_components_3 rfl hl (by decide) rfl (fun ls hl => ?_)
  obtain ⟨I4_8, u4_8, h04, hst4⟩ := h
  have key4 : ∀ (k9 : Nat) (y1 : Int32) (y2 : Int32) (z3 : Int32) (z4 : Int32) (f5 : Nat → Int32) (f6 : Nat → Int32) (f7 : Nat → Int32) (f8 : Nat → Int32), I4_8 y1 y2 z3 z4 f5 f6 f7 f8 → u4_8 y1 y2 z3 z4 f5 f6 f7 f8 < k9 → ∀ (H : Heap) (locs : List Loc), va_P G vwCl [(aM, .inr (2, [.ref aF, .ref aL, .ref aX, .ref aC, .int vSz, .int z3, .int z4, .ref aN, .int vMv])), (aF, .inl (cy 0, 512, .inl f5)), (aL, .inl (cy 0, 512, .inl f6)), (aX, .inl (cy 0, 81, .inl f7)), (aC, .inl (cy 0, 81, .inl f8)), (aN, .inr (3, [.ref aR, .int vn])), (aR, .inl (cy 0, 9, .inl fN))] H → va_D A [(aM, .inr (2, [.ref aF, .ref aL, .ref aX, .ref aC, .int vSz, .int z3, .int z4, .ref aN, .int vMv])), (aF, .inl (cy 0, 512, .inl f5)), (aL, .inl (cy 0, 512, .inl f6)), (aX, .inl (cy 0, 81, .inl f7)), (aC, .inl (cy 0, 81, .inl f8)), (aN, .inr (3, [.ref aR, .int vn])), (aR, .inl (cy 0, 9, .inl fN))] → va_S A s.heap H locs → ∀ (ls : Array Slot), lv_has ls 3 [(0, .ref aM), (1, .int y1), (2, .int y2)] → W p l e (headSpec wsX5_components rmX5_components_M).room s m args below meth c H locs 0 0 QM (F0 m 4 ls []) := by
    intro k9
    induction k9 with
    | zero =>
      intro y1 y2 z3 z4 f5 f6 f7 f8 hI9 hk9
      exact absurd hk9 (Nat.not_lt_zero _)
    | succ k9 ih4 =>
      intro y1 y2 z3 z4 f5 f6 f7 f8 hI9 hk4 H locs hP hD hS ls hl
      have h := hst4 y1 y2 z3 z4 f5 f6 f7 f8 hI9
      refine lv_iload_n hx hb dX5_components_4 rfl (lv_at hl 2 rfl) ?_
      refine lv_aload_n hx hb dX5_components_5 rfl (lv_at hl 0 rfl) ?_
      refine va_get (D := G) (ci := 2) (v := .int vSz) (C := RX2) (T := TX2) (N := 9) hx hb hts iwX2 hown hK.1 hP 0 rfl rfl 4 (by decide) fl9 (fun _ h9 => h9) rfl dX5_components_6 ?_
      refine lv_icmp_ge (tgt := 37) hx hb dX5_components_9 (by decide) (fun c9 => ?_) (fun c9 => ?_)
      · obtain ⟨h, -⟩ := h
        specialize h c9
        refine lv_iload_n hx hb dX5_components_37 rfl (lv_at hl 1 rfl) ?_
        rw [← hQe]
        exact W.iret (v := y1) hx hb hr (fun t ht hW => ⟨⟨y1, (z3, z4, f5, f6, f7, f8), rfl, h, by dsimp only; rw [ht]; exact hP⟩, hS.F ht⟩) hS.2.2 dX5_components_38
      · obtain ⟨-, h⟩ := h
        specialize h c9
        refine lv_aload_n hx hb dX5_components_12 rfl (lv_at hl 0 rfl) ?_
        refine va_get (D := G) (ci := 2) (v := .ref aF) (C := RX2) (T := TX2) (N := 9) hx hb hts iwX2 hown hK.1 hP 0 rfl rfl 0 (by decide) fl21 (fun _ h9 => h9) rfl dX5_components_13 ?_
        refine lv_iload_n hx hb dX5_components_16 rfl (lv_at hl 2 rfl) ?_
        obtain ⟨hi, h⟩ := h
        refine va_iald hx hb hK.1 hP 1 0 rfl rfl hi dX5_components_17 ?_
        refine lv_iconst (v := (-1)) hx hb dX5_components_18 (by decide) ?_
        refine lv_icmp_ne (tgt := 31) hx hb dX5_components_19 (by decide) (fun c10 => ?_) (fun c10 => ?_)
        · obtain ⟨-, h⟩ := h
          specialize h c10
          obtain ⟨x11, ex11⟩ : ∃ y : Int32, y = y2 + 1 := ⟨_, rfl⟩
          specialize h x11 ex11
          refine lv_iinc (v := x11) (lv' := [(2, .int x11), (0, .ref aM), (1, .int y1)]) hx hb dX5_components_31 hl (k := 2) rfl (by rw [ex11]; rfl) (by decide) rfl (fun ls hl => ?_)
          refine lv_goto (tgt := 4) hx hb dX5_components_34 (by decide) ?_
          exact ih4 y1 x11 z3 z4 f5 f6 f7 f8 h.1 (Nat.lt_of_lt_of_le h.2 (Nat.le_of_lt_succ hk4)) _ _ hP hD hS _ (lv_sub hl [1, 2, 0] rfl)
        · obtain ⟨h, -⟩ := h
          specialize h c10
          refine lv_aload_n hx hb dX5_components_22 rfl (lv_at hl 0 rfl) ?_
          refine lv_iload_n hx hb dX5_components_23 rfl (lv_at hl 2 rfl) ?_
          refine lv_iconst (v := (-1)) hx hb dX5_components_24 (by decide) ?_
          obtain ⟨Q12, hw9, h⟩ := h
          have hPc : va_P G vwCl [(aM, .inr (2, [.ref aF, .ref aL, .ref aX, .ref aC, .int vSz, .int z3, .int z4, .ref aN, .int vMv])), (aF, .inl (cy 0, 512, .inl f5)), (aL, .inl (cy 0, 512, .inl f6)), (aX, .inl (cy 0, 81, .inl f7)), (aC, .inl (cy 0, 81, .inl f8)), (aN, .inr (3, [.ref aR, .int vn])), (aR, .inl (cy 0, 9, .inl fN))] H := hP.sub [0, 1, 2, 3, 4, 5, 6] rfl
          have hDc : va_D A [(aM, .inr (2, [.ref aF, .ref aL, .ref aX, .ref aC, .int vSz, .int z3, .int z4, .ref aN, .int vMv])), (aF, .inl (cy 0, 512, .inl f5)), (aL, .inl (cy 0, 512, .inl f6)), (aX, .inl (cy 0, 81, .inl f7)), (aC, .inl (cy 0, 81, .inl f8)), (aN, .inr (3, [.ref aR, .int vn])), (aR, .inl (cy 0, 9, .inl fN))] := hD.sub [0, 1, 2, 3, 4, 5, 6] (by decide) rfl
          have hFc := va_free (wc := [(aM, .inr (2, [.ref aF, .ref aL, .ref aX, .ref aC, .int vSz, .int z3, .int z4, .ref aN, .int vMv])), (aF, .inl (cy 0, 512, .inl f5)), (aL, .inl (cy 0, 512, .inl f6)), (aX, .inl (cy 0, 81, .inl f7)), (aC, .inl (cy 0, 81, .inl f8)), (aN, .inr (3, [.ref aR, .int vn])), (aR, .inl (cy 0, 9, .inl fN))]) hD hS hA [0, 1, 2, 3, 4, 5, 6] rfl
          refine va_callv (va_runU (As := [.int y2, .int (-1)]) (rest := []) ⟨hx, hb, hml, hown, hts⟩ (ct_X5_spread_M l G cy aM aF aL aX aC aN aR H.size vSz z3 z4 vMv f5 f6 f7 f8 vn fN y2 (-1) Q12 hw9) (va_cwU 2 hts gX5_components_X5_spread_u46X2 rfl rfl rfl rfl (by decide +kernel) ⟨Nat.le_of_ble_eq_true rfl, Nat.le_of_ble_eq_true rfl⟩) (wP_V hK hP (ci := 2) (q0 := 0) rfl rfl hPc hDc) rfl rfl hl.1 rfl (lv_room (Nat.le_of_ble_eq_true rfl)) dX5_components_25 ⟨Nat.le_of_ble_eq_true rfl, Nat.le_of_ble_eq_true rfl⟩) hS (fun q9 _ h9 => hFc q9 h9) hFc (fun u9 t9 H locs ht9 hvm9 hw9 hB9 hz9 hk9 hS => ?_)
          obtain ⟨z14, z15, f16, f17, f18, f19⟩ := u9
          have hP : va_P G vwCl [(aM, .inr (2, [.ref aF, .ref aL, .ref aX, .ref aC, .int vSz, .int z14, .int z15, .ref aN, .int vMv])), (aF, .inl (cy 0, 512, .inl f16)), (aL, .inl (cy 0, 512, .inl f17)), (aX, .inl (cy 0, 81, .inl f18)), (aC, .inl (cy 0, 81, .inl f19)), (aN, .inr (3, [.ref aR, .int vn])), (aR, .inl (cy 0, 9, .inl fN))] H := P_back [0, 1, 2, 3, 4, 5, 6] [] 7 hP hD rfl rfl rfl rfl (by decide) (by decide) hk9 (by rw [← ht9]; exact hB9)
          have hD : va_D A [(aM, .inr (2, [.ref aF, .ref aL, .ref aX, .ref aC, .int vSz, .int z14, .int z15, .ref aN, .int vMv])), (aF, .inl (cy 0, 512, .inl f16)), (aL, .inl (cy 0, 512, .inl f17)), (aX, .inl (cy 0, 81, .inl f18)), (aC, .inl (cy 0, 81, .inl f19)), (aN, .inr (3, [.ref aR, .int vn])), (aR, .inl (cy 0, 9, .inl fN))] := D_same hD rfl
          specialize h z14 z15 f16 f17 f18 f19 hw9
          obtain ⟨x20, ex20⟩ : ∃ y : Int32, y = y1 + 1 := ⟨_, rfl⟩
          specialize h x20 ex20
          refine lv_iinc (v := x20) (lv' := [(1, .int x20), (0, .ref aM), (2, .int y2)]) hx hb dX5_components_28 hl (k := 1) rfl (by rw [ex20]; rfl) (by decide) rfl (fun ls hl => ?_)
          obtain ⟨x21, ex21⟩ : ∃ y : Int32, y = y2 + 1 := ⟨_, rfl⟩
          specialize h x21 ex21
          refine lv_iinc (v := x21) (lv' := [(2, .int x21), (1, .int x20), (0, .ref aM)]) hx hb dX5_components_31 hl (k := 2) rfl (by rw [ex21]; rfl) (by decide) rfl (fun ls hl => ?_)
          refine lv_goto (tgt := 4) hx hb dX5_components_34 (by decide) ?_
          exact ih4 x20 x21 z14 z15 f16 f17 f18 f19 h.1 (Nat.lt_of_lt_of_le h.2 (Nat.le_of_lt_succ hk4)) _ _ hP hD hS _ (lv_sub hl [2, 1, 0] rfl)
  exact key4 _ 0 0 vTl vFo fF fL fX fC h04 (Nat.lt_succ_self _) _ _ hP hD hS _ (lv_sub hl [2, 1, 0] rfl)

set_option maxHeartbeats 4000000 in
set_option maxRecDepth 100000 in
theorem ct_X2_begin (l : Launch) (G : va_G) (cy : Nat → ClassId) (aM aF aL aX aC aN aR : Nat) (sz : Nat) (vSz : Int32) (vTl : Int32) (vFo : Int32) (vMv : Int32) (fF : Nat → Int32) (fL : Nat → Int32) (fX : Nat → Int32) (fC : Nat → Int32) (vn : Int32) (fN : Nat → Int32) (p1 : Int32) (p2 : Int32) (p3 : Int32) (p4 : Int32) (Q : Int32 → Int32 → Int32 → (Nat → Int32) → Prop) (h : wp_X2_begin vSz vTl vMv fF vn fN p1 p2 p3 p4 Q) : Met l yX2_begin wsX2_begin rmX2_begin (va_Pc [.ref aM, .int p1, .int p2, .int p3, .int p4] (wP G cy sz [(aM, .inr (2, [.ref aF, .ref aL, .ref aX, .ref aC, .int vSz, .int vTl, .int vFo, .ref aN, .int vMv])), (aF, .inl (cy 0, 512, .inl fF)), (aL, .inl (cy 0, 512, .inl fL)), (aX, .inl (cy 0, 81, .inl fX)), (aC, .inl (cy 0, 81, .inl fC)), (aN, .inr (3, [.ref aR, .int vn])), (aR, .inl (cy 0, 9, .inl fN))])) (va_Qv (fun (u : Int32 × Int32 × Int32 × (Nat → Int32)) => Q u.1 u.2.1 u.2.2.1 u.2.2.2) (fun (u : Int32 × Int32 × Int32 × (Nat → Int32)) (t : State) => va_P G vwCl [(aM, .inr (2, [.ref aF, .ref aL, .ref aX, .ref aC, .int u.1, .int u.2.1, .int vFo, .ref aN, .int u.2.2.1])), (aF, .inl (cy 0, 512, .inl u.2.2.2)), (aL, .inl (cy 0, 512, .inl fL)), (aX, .inl (cy 0, 81, .inl fX)), (aC, .inl (cy 0, 81, .inl fC)), (aN, .inr (3, [.ref aR, .int vn])), (aR, .inl (cy 0, 9, .inl fN))] t.heap) (va_A [(aM, .inr (2, [.ref aF, .ref aL, .ref aX, .ref aC, .int vSz, .int vTl, .int vFo, .ref aN, .int vMv])), (aF, .inl (cy 0, 512, .inl fF)), (aL, .inl (cy 0, 512, .inl fL)), (aX, .inl (cy 0, 81, .inl fX)), (aC, .inl (cy 0, 81, .inl fC)), (aN, .inr (3, [.ref aR, .int vn])), (aR, .inl (cy 0, 9, .inl fN))] sz)) 0 0 (va_A [(aM, .inr (2, [.ref aF, .ref aL, .ref aX, .ref aC, .int vSz, .int vTl, .int vFo, .ref aN, .int vMv])), (aF, .inl (cy 0, 512, .inl fF)), (aL, .inl (cy 0, 512, .inl fL)), (aX, .inl (cy 0, 81, .inl fX)), (aC, .inl (cy 0, 81, .inl fC)), (aN, .inr (3, [.ref aR, .int vn])), (aR, .inl (cy 0, 9, .inl fN))] sz) := by
  unfold wp_X2_begin at h
  refine Met.ofW (cc := cX2_begin) (maxL := 7) (ret := none) (by decide) rfl ?_
  intro p e s m args below meth c s₁ B hml hv
  obtain ⟨hav, hsz, hP, hK, hD0⟩ := hv
  have hx := B.exec
  have hb := B.bytes
  have hr := B.returns
  have hts := atoms_spec (ws := wsX2_begin) B.pre
  have hown : s.vm.findClass RX2 = some m.cls := findClass_of_methodNamed B.named
  have hlocks := B.notSynchronized
  subst hsz
  have hD := hD0.self (sz := s.heap.size)
  generalize hAe : va_A [(aM, .inr (2, [.ref aF, .ref aL, .ref aX, .ref aC, .int vSz, .int vTl, .int vFo, .ref aN, .int vMv])), (aF, .inl (cy 0, 512, .inl fF)), (aL, .inl (cy 0, 512, .inl fL)), (aX, .inl (cy 0, 81, .inl fX)), (aC, .inl (cy 0, 81, .inl fC)), (aN, .inr (3, [.ref aR, .int vn])), (aR, .inl (cy 0, 9, .inl fN))] s.heap.size = A at hD ⊢
  have hA : ∀ q : Nat, s.heap.size ≤ q → A q := fun q h9 => by rw [← hAe]; exact Or.inr h9
  have hS : va_S A s.heap s.heap [] := va_S.rf
  have hl := lv_entry ([.ref aM, .int p1, .int p2, .int p3, .int p4]) (n := 7) (Nat.le_of_ble_eq_true rfl)
  rw [show entryFrame m args 7 = entryFrame m ([.ref aM, .int p1, .int p2, .int p3, .int p4] : List Value).toArray 7 by rw [hav], lg_entry_eq]
  generalize (lg_sl ([.ref aM, .int p1, .int p2, .int p3, .int p4]) ++ List.replicate (7 - (lg_sl ([.ref aM, .int p1, .int p2, .int p3, .int p4])).length) Slot.unset).toArray = ls at hl ⊢
  have hl : lv_has ls 7 [(0, .ref aM), (1, .int p1), (2, .int p2), (3, .int p3), (4, .int p4)] := hl
  generalize hQe : MQ below _ _ _ _ _ _ = QM
  have hP : va_P G vwCl [(aM, .inr (2, [.ref aF, .ref aL, .ref aX, .ref aC, .int vSz, .int vTl, .int vFo, .ref aN, .int vMv])), (aF, .inl (cy 0, 512, .inl fF)), (aL, .inl (cy 0, 512, .inl fL)), (aX, .inl (cy 0, 81, .inl fX)), (aC, .inl (cy 0, 81, .inl fC)), (aN, .inr (3, [.ref aR, .int vn])), (aR, .inl (cy 0, 9, .inl fN))] s.heap := hP
  have iwX2 : ∀ w ∈ wsX20, w ∈ wsX2_begin := by decide +kernel
  have fl9 := hts (.fieldLink RX2 9 "SlidTokens$Marks" "moves" "I") (by decide +kernel)
  have fl15 := hts (.fieldLink RX2 15 "SlidTokens$Marks" "net" "LSlidTokens$Net;") (by decide +kernel)
  have fl25 := hts (.fieldLink RX2 25 "SlidTokens$Marks" "size" "I") (by decide +kernel)
  have sf25 := hts (.sameField "SlidTokens$Marks" "SlidTokens$Search" "size" "I") (by decide +kernel)
  have fl28 := hts (.fieldLink RX2 28 "SlidTokens$Marks" "tail" "I") (by decide +kernel)
  have sf28 := hts (.sameField "SlidTokens$Marks" "SlidTokens$Search" "tail" "I") (by decide +kernel)
  have fl41 := hts (.fieldLink RX2 41 "SlidTokens$Marks" "far" "[I") (by decide +kernel)
  have sf41 := hts (.sameField "SlidTokens$Marks" "SlidTokens$Search" "far" "[I") (by decide +kernel)
  suffices K9 : ∀ (H : Heap) (locs : List Loc), va_P G vwCl [(aM, .inr (2, [.ref aF, .ref aL, .ref aX, .ref aC, .int vSz, .int vTl, .int vFo, .ref aN, .int vMv])), (aF, .inl (cy 0, 512, .inl fF)), (aL, .inl (cy 0, 512, .inl fL)), (aX, .inl (cy 0, 81, .inl fX)), (aC, .inl (cy 0, 81, .inl fC)), (aN, .inr (3, [.ref aR, .int vn])), (aR, .inl (cy 0, 9, .inl fN))] H → va_D A [(aM, .inr (2, [.ref aF, .ref aL, .ref aX, .ref aC, .int vSz, .int vTl, .int vFo, .ref aN, .int vMv])), (aF, .inl (cy 0, 512, .inl fF)), (aL, .inl (cy 0, 512, .inl fL)), (aX, .inl (cy 0, 81, .inl fX)), (aC, .inl (cy 0, 81, .inl fC)), (aN, .inr (3, [.ref aR, .int vn])), (aR, .inl (cy 0, 9, .inl fN))] → va_S A s.heap H locs → W p l e (headSpec wsX2_begin rmX2_begin).room s m args below meth c H locs 0 0 QM (F0 m 0 ls []) from K9 _ _ hP hD hS
  clear hP hD hS
  intro H locs hP hD hS
  refine lv_aload_n hx hb dX2_begin_0 rfl (lv_at hl 0 rfl) ?_
  refine lv_iload_n hx hb dX2_begin_1 rfl (lv_at hl 2 rfl) ?_
  refine va_put (D := G) (ci := 2) (v := .int p2) (ty := .int) (C := RX2) (T := TX2) (N := 9) hx hb hts iwX2 tyX2 tyX2_ok nmX2 hown hK.1 hP hD hS 0 rfl rfl 8 (by decide) fl9 (fun _ h9 => h9) rfl (by decide +kernel) rfl rfl (Nat.le_of_ble_eq_true rfl) dX2_begin_2 (fun H locs hP hD hS => ?_)
  have hP : va_P G vwCl [(aM, .inr (2, [.ref aF, .ref aL, .ref aX, .ref aC, .int vSz, .int vTl, .int vFo, .ref aN, .int p2])), (aF, .inl (cy 0, 512, .inl fF)), (aL, .inl (cy 0, 512, .inl fL)), (aX, .inl (cy 0, 81, .inl fX)), (aC, .inl (cy 0, 81, .inl fC)), (aN, .inr (3, [.ref aR, .int vn])), (aR, .inl (cy 0, 9, .inl fN))] H := hP
  have hD : va_D A [(aM, .inr (2, [.ref aF, .ref aL, .ref aX, .ref aC, .int vSz, .int vTl, .int vFo, .ref aN, .int p2])), (aF, .inl (cy 0, 512, .inl fF)), (aL, .inl (cy 0, 512, .inl fL)), (aX, .inl (cy 0, 81, .inl fX)), (aC, .inl (cy 0, 81, .inl fC)), (aN, .inr (3, [.ref aR, .int vn])), (aR, .inl (cy 0, 9, .inl fN))] := hD
  refine lv_aload_n hx hb dX2_begin_5 rfl (lv_at hl 0 rfl) ?_
  refine lv_aload_n hx hb dX2_begin_6 rfl (lv_at hl 0 rfl) ?_
  refine va_get (D := G) (ci := 2) (v := .ref aN) (C := RX2) (T := TX2) (N := 9) hx hb hts iwX2 hown hK.1 hP 0 rfl rfl 7 (by decide) fl15 (fun _ h9 => h9) rfl dX2_begin_7 ?_
  obtain ⟨Q1, hw9, h⟩ := h
  have hPc : va_P G vwCl [(aN, .inr (3, [.ref aR, .int vn])), (aR, .inl (cy 0, 9, .inl fN))] H := hP.sub [5, 6] rfl
  refine vp_callSi (va_Run.run (va_runV (As := []) (rest := [.ref aM]) ⟨hx, hb, hml, hown, hts⟩ (ct_X3_all l G cy aN aR vn fN Q1 hw9) (cwV 0 hts gX2_begin_X3_all rfl rfl rfl (by decide +kernel) ⟨Nat.le_of_ble_eq_true rfl, Nat.le_of_ble_eq_true rfl⟩) (rP_V hK hP (ci := 3) (q0 := 5) rfl rfl hPc) rfl rfl hl.1 rfl (lv_room (Nat.le_of_ble_eq_true rfl)) dX2_begin_10 ⟨Nat.le_of_ble_eq_true rfl, Nat.le_of_ble_eq_true rfl⟩)) (fun r2 er2 => ?_)
  specialize h r2 er2
  refine lv_iconst (v := 1) hx hb dX2_begin_13 (by decide) ?_
  refine lv_iadd hx hb dX2_begin_14 ?_
  refine lv_topi (fun x3 ex3 => ?_)
  specialize h x3 ex3
  refine va_put (D := G) (ci := 2) (v := .int x3) (ty := .int) (C := RX2) (T := TX2) (N := 9) hx hb hts iwX2 tyX2 tyX2_ok nmX2 hown hK.1 hP hD hS 0 rfl rfl 4 (by decide) fl25 (fun x9 h9 => u_same sf25 x9 h9) rfl (by decide +kernel) rfl rfl (Nat.le_of_ble_eq_true rfl) dX2_begin_15 (fun H locs hP hD hS => ?_)
  have hP : va_P G vwCl [(aM, .inr (2, [.ref aF, .ref aL, .ref aX, .ref aC, .int x3, .int vTl, .int vFo, .ref aN, .int p2])), (aF, .inl (cy 0, 512, .inl fF)), (aL, .inl (cy 0, 512, .inl fL)), (aX, .inl (cy 0, 81, .inl fX)), (aC, .inl (cy 0, 81, .inl fC)), (aN, .inr (3, [.ref aR, .int vn])), (aR, .inl (cy 0, 9, .inl fN))] H := hP
  have hD : va_D A [(aM, .inr (2, [.ref aF, .ref aL, .ref aX, .ref aC, .int x3, .int vTl, .int vFo, .ref aN, .int p2])), (aF, .inl (cy 0, 512, .inl fF)), (aL, .inl (cy 0, 512, .inl fL)), (aX, .inl (cy 0, 81, .inl fX)), (aC, .inl (cy 0, 81, .inl fC)), (aN, .inr (3, [.ref aR, .int vn])), (aR, .inl (cy 0, 9, .inl fN))] := hD
  refine lv_aload_n hx hb dX2_begin_18 rfl (lv_at hl 0 rfl) ?_
  refine lv_iconst (v := 0) hx hb dX2_begin_19 (by decide) ?_
  refine va_put (D := G) (ci := 2) (v := .int 0) (ty := .int) (C := RX2) (T := TX2) (N := 9) hx hb hts iwX2 tyX2 tyX2_ok nmX2 hown hK.1 hP hD hS 0 rfl rfl 5 (by decide) fl28 (fun x9 h9 => u_same sf28 x9 h9) rfl (by decide +kernel) rfl rfl (Nat.le_of_ble_eq_true rfl) dX2_begin_20 (fun H locs hP hD hS => ?_)
  have hP : va_P G vwCl [(aM, .inr (2, [.ref aF, .ref aL, .ref aX, .ref aC, .int x3, .int 0, .int vFo, .ref aN, .int p2])), (aF, .inl (cy 0, 512, .inl fF)), (aL, .inl (cy 0, 512, .inl fL)), (aX, .inl (cy 0, 81, .inl fX)), (aC, .inl (cy 0, 81, .inl fC)), (aN, .inr (3, [.ref aR, .int vn])), (aR, .inl (cy 0, 9, .inl fN))] H := hP
  have hD : va_D A [(aM, .inr (2, [.ref aF, .ref aL, .ref aX, .ref aC, .int x3, .int 0, .int vFo, .ref aN, .int p2])), (aF, .inl (cy 0, 512, .inl fF)), (aL, .inl (cy 0, 512, .inl fL)), (aX, .inl (cy 0, 81, .inl fX)), (aC, .inl (cy 0, 81, .inl fC)), (aN, .inr (3, [.ref aR, .int vn])), (aR, .inl (cy 0, 9, .inl fN))] := hD
  refine lv_iconst (v := 0) hx hb dX2_begin_23 (by decide) ?_
  refine lv_istore (lv' := [(5, .int 0), (0, .ref aM), (1, .int p1), (2, .int p2), (3, .int p3), (4, .int p4)]) hx hb dX2_begin_24 hl (by decide) rfl (fun ls hl => ?_)
  obtain ⟨I26_5, u26_5, h026, hst26⟩ := h
  have key26 : ∀ (k9 : Nat) (y4 : Int32) (f5 : Nat → Int32), I26_5 y4 f5 → u26_5 y4 f5 < k9 → ∀ (H : Heap) (locs : List Loc), va_P G vwCl [(aM, .inr (2, [.ref aF, .ref aL, .ref aX, .ref aC, .int x3, .int 0, .int vFo, .ref aN, .int p2])), (aF, .inl (cy 0, 512, .inl f5)), (aL, .inl (cy 0, 512, .inl fL)), (aX, .inl (cy 0, 81, .inl fX)), (aC, .inl (cy 0, 81, .inl fC)), (aN, .inr (3, [.ref aR, .int vn])), (aR, .inl (cy 0, 9, .inl fN))] H → va_D A [(aM, .inr (2, [.ref aF, .ref aL, .ref aX, .ref aC, .int x3, .int 0, .int vFo, .ref aN, .int p2])), (aF, .inl (cy 0, 512, .inl f5)), (aL, .inl (cy 0, 512, .inl fL)), (aX, .inl (cy 0, 81, .inl fX)), (aC, .inl (cy 0, 81, .inl fC)), (aN, .inr (3, [.ref aR, .int vn])), (aR, .inl (cy 0, 9, .inl fN))] → va_S A s.heap H locs → ∀ (ls : Array Slot), lv_has ls 7 [(0, .ref aM), (1, .int p1), (3, .int p3), (4, .int p4), (5, .int y4)] → W p l e (headSpec wsX2_begin rmX2_begin).room s m args below meth c H locs 0 0 QM (F0 m 26 ls []) := by
    intro k9
    induction k9 with
    | zero =>
      intro y4 f5 hI9 hk9
      exact absurd hk9 (Nat.not_lt_zero _)
    | succ k9 ih26 =>
      intro y4 f5 hI9 hk26 H locs hP hD hS ls hl
      have h := hst26 y4 f5 hI9
      refine lv_iload hx hb dX2_begin_26 (lv_at hl 4 rfl) ?_
      refine lv_aload_n hx hb dX2_begin_28 rfl (lv_at hl 0 rfl) ?_
      refine va_get (D := G) (ci := 2) (v := .int x3) (C := RX2) (T := TX2) (N := 9) hx hb hts iwX2 hown hK.1 hP 0 rfl rfl 4 (by decide) fl25 (fun x9 h9 => u_same sf25 x9 h9) rfl dX2_begin_29 ?_
      refine lv_icmp_ge (tgt := 85) hx hb dX2_begin_32 (by decide) (fun c6 => ?_) (fun c6 => ?_)
      · obtain ⟨h, -⟩ := h
        specialize h c6
        rw [← hQe]
        exact W.vret hx hb hr (fun t ht hW => ⟨⟨(x3, 0, p2, f5), rfl, h, by dsimp only; rw [ht]; exact hP⟩, hS.F ht⟩) hS.2.2 dX2_begin_85
      · obtain ⟨-, h⟩ := h
        specialize h c6
        refine lv_iload hx hb dX2_begin_35 (lv_at hl 4 rfl) ?_
        obtain ⟨Q7, hw9, h⟩ := h
        have hPc : va_P G vwCl [] H := P_nil
        refine vp_callSi (va_Run.run (va_runS (As := [.int y4]) (rest := []) ⟨hx, hb, hml, hown, hts⟩ (ct_J6_bitCount_0f7a4 l G cy y4 Q7 hw9) (va_cwS 1 hts gX2_begin_J6_bitCount_0f7a4 rfl rfl rfl (by decide +kernel) ⟨Nat.le_of_ble_eq_true rfl, Nat.le_of_ble_eq_true rfl⟩) (rP_S hK hPc) rfl rfl hl.1 rfl (lv_room (Nat.le_of_ble_eq_true rfl)) dX2_begin_37 ⟨Nat.le_of_ble_eq_true rfl, Nat.le_of_ble_eq_true rfl⟩)) (fun r8 er8 => ?_)
        specialize h r8 er8
        refine lv_iload_n hx hb dX2_begin_40 rfl (lv_at hl 2 rfl) ?_
        refine lv_iload hx hb dX2_begin_41 (lv_at hl 3 rfl) ?_
        obtain ⟨Q9, hw9, h⟩ := h
        have hPc : va_P G vwCl [] H := P_nil
        refine vp_callSi (va_Run.run (va_runSN (host := "SlidTokens") (As := [.int r8, .int p3, .int p4]) (rest := []) ⟨hx, hb, hml, hown, hts⟩ (ct_X8_isWithin l G cy r8 p3 p4 Q9 hw9) ⟨va_cnB 3 hts gX2_begin_X8_isWithin_n37 rfl rfl rfl hK.2.1 (hts (.initialized RX8) (by decide +kernel)) (by decide +kernel) ⟨Nat.le_of_ble_eq_true rfl, Nat.le_of_ble_eq_true rfl⟩, hts (.static yX8_isWithin) (by decide +kernel), trivial⟩ (rP_S hK hPc) rfl rfl hl.1 rfl (lv_room (Nat.le_of_ble_eq_true rfl)) dX2_begin_43 ⟨Nat.le_of_ble_eq_true rfl, Nat.le_of_ble_eq_true rfl⟩)) (fun r10 er10 => ?_)
        specialize h r10 er10
        refine lv_istore (lv' := [(6, .int r10), (0, .ref aM), (1, .int p1), (3, .int p3), (4, .int p4), (5, .int y4)]) hx hb dX2_begin_46 hl (by decide) rfl (fun ls hl => ?_)
        refine lv_aload_n hx hb dX2_begin_48 rfl (lv_at hl 1 rfl) ?_
        refine va_get (D := G) (ci := 2) (v := .ref aF) (C := RX2) (T := TX2) (N := 9) hx hb hts iwX2 hown hK.1 hP 0 rfl rfl 0 (by decide) fl41 (fun x9 h9 => u_same sf41 x9 h9) rfl dX2_begin_49 ?_
        refine lv_iload hx hb dX2_begin_52 (lv_at hl 5 rfl) ?_
        refine lv_iload hx hb dX2_begin_54 (lv_at hl 0 rfl) ?_
        refine lv_if_eq (tgt := 76) hx hb dX2_begin_56 (by decide) (fun c11 => ?_) (fun c11 => ?_)
        · obtain ⟨h, -⟩ := h
          specialize h c11
          refine lv_bipush (v := (-2)) hx hb dX2_begin_76 (by decide) ?_
          obtain ⟨hi, h⟩ := h
          refine va_iast hx hb hK.1 hP hD hS 1 0 rfl rfl hi dX2_begin_78 (fun H locs hP hD hS => ?_)
          obtain ⟨f12, ef12⟩ : ∃ z9 : Nat → Int32, z9 = upd f5 (y4 : Int32).toNatClampNeg (-2) := ⟨_, rfl⟩
          specialize h f12 ef12
          have hP : va_P G vwCl [(aM, .inr (2, [.ref aF, .ref aL, .ref aX, .ref aC, .int x3, .int 0, .int vFo, .ref aN, .int p2])), (aF, .inl (cy 0, 512, .inl f12)), (aL, .inl (cy 0, 512, .inl fL)), (aX, .inl (cy 0, 81, .inl fX)), (aC, .inl (cy 0, 81, .inl fC)), (aN, .inr (3, [.ref aR, .int vn])), (aR, .inl (cy 0, 9, .inl fN))] H := by rw [ef12]; exact hP
          have hD : va_D A [(aM, .inr (2, [.ref aF, .ref aL, .ref aX, .ref aC, .int x3, .int 0, .int vFo, .ref aN, .int p2])), (aF, .inl (cy 0, 512, .inl f12)), (aL, .inl (cy 0, 512, .inl fL)), (aX, .inl (cy 0, 81, .inl fX)), (aC, .inl (cy 0, 81, .inl fC)), (aN, .inr (3, [.ref aR, .int vn])), (aR, .inl (cy 0, 9, .inl fN))] := D_same hD rfl
          obtain ⟨x13, ex13⟩ : ∃ y : Int32, y = y4 + 1 := ⟨_, rfl⟩
          specialize h x13 ex13
          refine lv_iinc (v := x13) (lv' := [(5, .int x13), (6, .int r10), (0, .ref aM), (1, .int p1), (3, .int p3), (4, .int p4)]) hx hb dX2_begin_79 hl (k := 5) rfl (by rw [ex13]; rfl) (by decide) rfl (fun ls hl => ?_)
          refine lv_goto (tgt := 26) hx hb dX2_begin_82 (by decide) ?_
          exact ih26 x13 f12 h.1 (Nat.lt_of_lt_of_le h.2 (Nat.le_of_lt_succ hk26)) _ _ hP hD hS _ (lv_sub hl [2, 3, 4, 5, 0] rfl)
        · obtain ⟨-, h⟩ := h
          specialize h c11
          refine lv_aload_n hx hb dX2_begin_59 rfl (lv_at hl 1 rfl) ?_
          refine va_get (D := G) (ci := 2) (v := .ref aN) (C := RX2) (T := TX2) (N := 9) hx hb hts iwX2 hown hK.1 hP 0 rfl rfl 7 (by decide) fl15 (fun _ h9 => h9) rfl dX2_begin_60 ?_
          refine lv_iload_n hx hb dX2_begin_63 rfl (lv_at hl 2 rfl) ?_
          refine lv_iload hx hb dX2_begin_64 (lv_at hl 5 rfl) ?_
          obtain ⟨Q14, hw9, h⟩ := h
          have hPc : va_P G vwCl [(aN, .inr (3, [.ref aR, .int vn])), (aR, .inl (cy 0, 9, .inl fN))] H := hP.sub [5, 6] rfl
          refine vp_callSi (va_Run.run (va_runV (As := [.int p1, .int y4]) (rest := [.int y4, .ref aF]) ⟨hx, hb, hml, hown, hts⟩ (ct_X3_isLawful l G cy aN aR vn fN p1 y4 Q14 hw9) (cwV 2 hts gX2_begin_X3_isLawful rfl rfl rfl (by decide +kernel) ⟨Nat.le_of_ble_eq_true rfl, Nat.le_of_ble_eq_true rfl⟩) (rP_V hK hP (ci := 3) (q0 := 5) rfl rfl hPc) rfl rfl hl.1 rfl (lv_room (Nat.le_of_ble_eq_true rfl)) dX2_begin_66 ⟨Nat.le_of_ble_eq_true rfl, Nat.le_of_ble_eq_true rfl⟩)) (fun r15 er15 => ?_)
          specialize h r15 er15
          refine lv_if_eq (tgt := 76) hx hb dX2_begin_69 (by decide) (fun c16 => ?_) (fun c16 => ?_)
          · obtain ⟨h, -⟩ := h
            specialize h c16
            refine lv_bipush (v := (-2)) hx hb dX2_begin_76 (by decide) ?_
            obtain ⟨hi, h⟩ := h
            refine va_iast hx hb hK.1 hP hD hS 1 0 rfl rfl hi dX2_begin_78 (fun H locs hP hD hS => ?_)
            obtain ⟨f17, ef17⟩ : ∃ z9 : Nat → Int32, z9 = upd f5 (y4 : Int32).toNatClampNeg (-2) := ⟨_, rfl⟩
            specialize h f17 ef17
            have hP : va_P G vwCl [(aM, .inr (2, [.ref aF, .ref aL, .ref aX, .ref aC, .int x3, .int 0, .int vFo, .ref aN, .int p2])), (aF, .inl (cy 0, 512, .inl f17)), (aL, .inl (cy 0, 512, .inl fL)), (aX, .inl (cy 0, 81, .inl fX)), (aC, .inl (cy 0, 81, .inl fC)), (aN, .inr (3, [.ref aR, .int vn])), (aR, .inl (cy 0, 9, .inl fN))] H := by rw [ef17]; exact hP
            have hD : va_D A [(aM, .inr (2, [.ref aF, .ref aL, .ref aX, .ref aC, .int x3, .int 0, .int vFo, .ref aN, .int p2])), (aF, .inl (cy 0, 512, .inl f17)), (aL, .inl (cy 0, 512, .inl fL)), (aX, .inl (cy 0, 81, .inl fX)), (aC, .inl (cy 0, 81, .inl fC)), (aN, .inr (3, [.ref aR, .int vn])), (aR, .inl (cy 0, 9, .inl fN))] := D_same hD rfl
            obtain ⟨x18, ex18⟩ : ∃ y : Int32, y = y4 + 1 := ⟨_, rfl⟩
            specialize h x18 ex18
            refine lv_iinc (v := x18) (lv' := [(5, .int x18), (6, .int r10), (0, .ref aM), (1, .int p1), (3, .int p3), (4, .int p4)]) hx hb dX2_begin_79 hl (k := 5) rfl (by rw [ex18]; rfl) (by decide) rfl (fun ls hl => ?_)
            refine lv_goto (tgt := 26) hx hb dX2_begin_82 (by decide) ?_
            exact ih26 x18 f17 h.1 (Nat.lt_of_lt_of_le h.2 (Nat.le_of_lt_succ hk26)) _ _ hP hD hS _ (lv_sub hl [2, 3, 4, 5, 0] rfl)
          · obtain ⟨-, h⟩ := h
            specialize h c16
            refine lv_iconst (v := (-1)) hx hb dX2_begin_72 (by decide) ?_
            refine lv_goto (tgt := 78) hx hb dX2_begin_73 (by decide) ?_
            obtain ⟨hi, h⟩ := h
            refine va_iast hx hb hK.1 hP hD hS 1 0 rfl rfl hi dX2_begin_78 (fun H locs hP hD hS => ?_)
            obtain ⟨f19, ef19⟩ : ∃ z9 : Nat → Int32, z9 = upd f5 (y4 : Int32).toNatClampNeg (-1) := ⟨_, rfl⟩
            specialize h f19 ef19
            have hP : va_P G vwCl [(aM, .inr (2, [.ref aF, .ref aL, .ref aX, .ref aC, .int x3, .int 0, .int vFo, .ref aN, .int p2])), (aF, .inl (cy 0, 512, .inl f19)), (aL, .inl (cy 0, 512, .inl fL)), (aX, .inl (cy 0, 81, .inl fX)), (aC, .inl (cy 0, 81, .inl fC)), (aN, .inr (3, [.ref aR, .int vn])), (aR, .inl (cy 0, 9, .inl fN))] H := by rw [ef19]; exact hP
            have hD : va_D A [(aM, .inr (2, [.ref aF, .ref aL, .ref aX, .ref aC, .int x3, .int 0, .int vFo, .ref aN, .int p2])), (aF, .inl (cy 0, 512, .inl f19)), (aL, .inl (cy 0, 512, .inl fL)), (aX, .inl (cy 0, 81, .inl fX)), (aC, .inl (cy 0, 81, .inl fC)), (aN, .inr (3, [.ref aR, .int vn])), (aR, .inl (cy 0, 9, .inl fN))] := D_same hD rfl
            obtain ⟨x20, ex20⟩ : ∃ y : Int32, y = y4 + 1 := ⟨_, rfl⟩
            specialize h x20 ex20
            refine lv_iinc (v := x20) (lv' := [(5, .int x20), (6, .int r10), (0, .ref aM), (1, .int p1), (3, .int p3), (4, .int p4)]) hx hb dX2_begin_79 hl (k := 5) rfl (by rw [ex20]; rfl) (by decide) rfl (fun ls hl => ?_)
            refine lv_goto (tgt := 26) hx hb dX2_begin_82 (by decide) ?_
            exact ih26 x20 f19 h.1 (Nat.lt_of_lt_of_le h.2 (Nat.le_of_lt_succ hk26)) _ _ hP hD hS _ (lv_sub hl [2, 3, 4, 5, 0] rfl)
  exact key26 _ 0 fF h026 (Nat.lt_succ_self _) _ _ hP hD hS _ (lv_sub hl [1, 2, 4, 5, 0] rfl)
