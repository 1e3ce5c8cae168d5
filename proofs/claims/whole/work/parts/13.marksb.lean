set_option maxHeartbeats 4000000 in
set_option maxRecDepth 100000 in
theorem ct_X5_spread_M (l : Launch) (G : va_G) (cy : Nat → ClassId) (aM aF aL aX aC aN aR : Nat) (sz : Nat) (vSz : Int32) (vTl : Int32) (vFo : Int32) (vMv : Int32) (fF : Nat → Int32) (fL : Nat → Int32) (fX : Nat → Int32) (fC : Nat → Int32) (vn : Int32) (fN : Nat → Int32) (p1 : Int32) (p2 : Int32) (Q : Int32 → Int32 → (Nat → Int32) → (Nat → Int32) → (Nat → Int32) → (Nat → Int32) → Prop) (h : wp_X5_spread_M vTl vFo vMv fF fL fX fC vn fN p1 p2 Q) : Met l yX5_spread wsX5_spread rmX5_spread_M (va_Pc [.ref aM, .int p1, .int p2] (wP G cy sz [(aM, .inr (2, [.ref aF, .ref aL, .ref aX, .int vSz, .int vTl, .int vFo, .ref aN, .ref aC, .int vMv])), (aF, .inl (cy 0, 512, .inl fF)), (aL, .inl (cy 0, 512, .inl fL)), (aX, .inl (cy 0, 81, .inl fX)), (aC, .inl (cy 0, 81, .inl fC)), (aN, .inr (3, [.ref aR, .int vn])), (aR, .inl (cy 0, 9, .inl fN))])) (va_Qv (fun (u : Int32 × Int32 × (Nat → Int32) × (Nat → Int32) × (Nat → Int32) × (Nat → Int32)) => Q u.1 u.2.1 u.2.2.1 u.2.2.2.1 u.2.2.2.2.1 u.2.2.2.2.2) (fun (u : Int32 × Int32 × (Nat → Int32) × (Nat → Int32) × (Nat → Int32) × (Nat → Int32)) (t : State) => va_P G vwCl [(aM, .inr (2, [.ref aF, .ref aL, .ref aX, .int vSz, .int u.1, .int u.2.1, .ref aN, .ref aC, .int vMv])), (aF, .inl (cy 0, 512, .inl u.2.2.1)), (aL, .inl (cy 0, 512, .inl u.2.2.2.1)), (aX, .inl (cy 0, 81, .inl u.2.2.2.2.1)), (aC, .inl (cy 0, 81, .inl u.2.2.2.2.2)), (aN, .inr (3, [.ref aR, .int vn])), (aR, .inl (cy 0, 9, .inl fN))] t.heap) (va_A [(aM, .inr (2, [.ref aF, .ref aL, .ref aX, .int vSz, .int vTl, .int vFo, .ref aN, .ref aC, .int vMv])), (aF, .inl (cy 0, 512, .inl fF)), (aL, .inl (cy 0, 512, .inl fL)), (aX, .inl (cy 0, 81, .inl fX)), (aC, .inl (cy 0, 81, .inl fC)), (aN, .inr (3, [.ref aR, .int vn])), (aR, .inl (cy 0, 9, .inl fN))] sz)) 0 0 (va_A [(aM, .inr (2, [.ref aF, .ref aL, .ref aX, .int vSz, .int vTl, .int vFo, .ref aN, .ref aC, .int vMv])), (aF, .inl (cy 0, 512, .inl fF)), (aL, .inl (cy 0, 512, .inl fL)), (aX, .inl (cy 0, 81, .inl fX)), (aC, .inl (cy 0, 81, .inl fC)), (aN, .inr (3, [.ref aR, .int vn])), (aR, .inl (cy 0, 9, .inl fN))] sz) := by
  unfold wp_X5_spread_M at h
  refine Met.ofW (cc := cX5_spread) (maxL := 7) (ret := none) (by decide) rfl ?_
  intro p e s m args below meth c s₁ B hml hv
  obtain ⟨hav, hsz, hP, hK, hD0⟩ := hv
  have hx := B.exec
  have hb := B.bytes
  have hr := B.returns
  have hts := atoms_spec (ws := wsX5_spread) B.pre
  have hown : s.vm.findClass RX5 = some m.cls := findClass_of_methodNamed B.named
  have hlocks := B.notSynchronized
  subst hsz
  have hD := hD0.self (sz := s.heap.size)
  generalize hAe : va_A [(aM, .inr (2, [.ref aF, .ref aL, .ref aX, .int vSz, .int vTl, .int vFo, .ref aN, .ref aC, .int vMv])), (aF, .inl (cy 0, 512, .inl fF)), (aL, .inl (cy 0, 512, .inl fL)), (aX, .inl (cy 0, 81, .inl fX)), (aC, .inl (cy 0, 81, .inl fC)), (aN, .inr (3, [.ref aR, .int vn])), (aR, .inl (cy 0, 9, .inl fN))] s.heap.size = A at hD ⊢
  have hA : ∀ q : Nat, s.heap.size ≤ q → A q := fun q h9 => by rw [← hAe]; exact Or.inr h9
  have hS : va_S A s.heap s.heap [] := va_S.rf
  have hl := lv_entry ([.ref aM, .int p1, .int p2]) (n := 7) (Nat.le_of_ble_eq_true rfl)
  rw [show entryFrame m args 7 = entryFrame m ([.ref aM, .int p1, .int p2] : List Value).toArray 7 by rw [hav], lg_entry_eq]
  generalize (lg_sl ([.ref aM, .int p1, .int p2]) ++ List.replicate (7 - (lg_sl ([.ref aM, .int p1, .int p2])).length) Slot.unset).toArray = ls at hl ⊢
  have hl : lv_has ls 7 [(0, .ref aM), (1, .int p1), (2, .int p2)] := hl
  generalize hQe : MQ below _ _ _ _ _ _ = QM
  have hP : va_P G vwCl [(aM, .inr (2, [.ref aF, .ref aL, .ref aX, .int vSz, .int vTl, .int vFo, .ref aN, .ref aC, .int vMv])), (aF, .inl (cy 0, 512, .inl fF)), (aL, .inl (cy 0, 512, .inl fL)), (aX, .inl (cy 0, 81, .inl fX)), (aC, .inl (cy 0, 81, .inl fC)), (aN, .inr (3, [.ref aR, .int vn])), (aR, .inl (cy 0, 9, .inl fN))] s.heap := hP
  have iwX2 : ∀ w ∈ wsX20, w ∈ wsX5_spread := by decide +kernel
  have fl15 := hts (.fieldLink RX5 15 "SlidTokens$Search" "tail" "I") (by decide +kernel)
  have fl21 := hts (.fieldLink RX5 21 "SlidTokens$Search" "far" "[I") (by decide +kernel)
  have fl25 := hts (.fieldLink RX5 25 "SlidTokens$Search" "line" "[I") (by decide +kernel)
  have fl18 := hts (.fieldLink RX5 18 "SlidTokens$Search" "found" "I") (by decide +kernel)
  have fl28 := hts (.fieldLink RX5 28 "SlidTokens$Search" "next" "[I") (by decide +kernel)
  suffices K9 : ∀ (H : Heap) (locs : List Loc), va_P G vwCl [(aM, .inr (2, [.ref aF, .ref aL, .ref aX, .int vSz, .int vTl, .int vFo, .ref aN, .ref aC, .int vMv])), (aF, .inl (cy 0, 512, .inl fF)), (aL, .inl (cy 0, 512, .inl fL)), (aX, .inl (cy 0, 81, .inl fX)), (aC, .inl (cy 0, 81, .inl fC)), (aN, .inr (3, [.ref aR, .int vn])), (aR, .inl (cy 0, 9, .inl fN))] H → va_D A [(aM, .inr (2, [.ref aF, .ref aL, .ref aX, .int vSz, .int vTl, .int vFo, .ref aN, .ref aC, .int vMv])), (aF, .inl (cy 0, 512, .inl fF)), (aL, .inl (cy 0, 512, .inl fL)), (aX, .inl (cy 0, 81, .inl fX)), (aC, .inl (cy 0, 81, .inl fC)), (aN, .inr (3, [.ref aR, .int vn])), (aR, .inl (cy 0, 9, .inl fN))] → va_S A s.heap H locs → W p l e (headSpec wsX5_spread rmX5_spread_M).room s m args below meth c H locs 0 0 QM (F0 m 0 ls []) from K9 _ _ hP hD hS
  clear hP hD hS
  intro H locs hP hD hS
  refine lv_aload_n hx hb dX5_spread_0 rfl (lv_at hl 0 rfl) ?_
  refine va_get (D := G) (ci := 2) (v := .int vTl) (C := RX2) (T := TX2) (N := 9) hx hb hts iwX2 hown hK.1 hP 0 rfl rfl 4 (by decide) fl15 (fun _ h9 => h9) rfl dX5_spread_1 ?_
  refine lv_istore_n (lv' := [(3, .int vTl), (0, .ref aM), (1, .int p1), (2, .int p2)]) hx hb dX5_spread_4 rfl hl (by decide) rfl (fun ls hl => ?_)
  refine lv_aload_n hx hb dX5_spread_5 rfl (lv_at hl 1 rfl) ?_
  refine va_get (D := G) (ci := 2) (v := .ref aF) (C := RX2) (T := TX2) (N := 9) hx hb hts iwX2 hown hK.1 hP 0 rfl rfl 0 (by decide) fl21 (fun _ h9 => h9) rfl dX5_spread_6 ?_
  refine lv_iload_n hx hb dX5_spread_9 rfl (lv_at hl 2 rfl) ?_
  obtain ⟨hi, h⟩ := h
  refine va_iald hx hb hK.1 hP 1 0 rfl rfl hi dX5_spread_10 ?_
  refine lv_bipush (v := (-2)) hx hb dX5_spread_11 (by decide) ?_
  obtain ⟨J21_1, h, hJ21⟩ := h
  have jn21 : ∀ (t1 : Int32), J21_1 t1 → ∀ (H : Heap) (locs : List Loc), va_P G vwCl [(aM, .inr (2, [.ref aF, .ref aL, .ref aX, .int vSz, .int vTl, .int vFo, .ref aN, .ref aC, .int vMv])), (aF, .inl (cy 0, 512, .inl fF)), (aL, .inl (cy 0, 512, .inl fL)), (aX, .inl (cy 0, 81, .inl fX)), (aC, .inl (cy 0, 81, .inl fC)), (aN, .inr (3, [.ref aR, .int vn])), (aR, .inl (cy 0, 9, .inl fN))] H → va_D A [(aM, .inr (2, [.ref aF, .ref aL, .ref aX, .int vSz, .int vTl, .int vFo, .ref aN, .ref aC, .int vMv])), (aF, .inl (cy 0, 512, .inl fF)), (aL, .inl (cy 0, 512, .inl fL)), (aX, .inl (cy 0, 81, .inl fX)), (aC, .inl (cy 0, 81, .inl fC)), (aN, .inr (3, [.ref aR, .int vn])), (aR, .inl (cy 0, 9, .inl fN))] → va_S A s.heap H locs → ∀ (ls : Array Slot), lv_has ls 7 [(0, .ref aM), (1, .int p1), (2, .int p2), (3, .int vTl)] → W p l e (headSpec wsX5_spread rmX5_spread_M).room s m args below meth c H locs 0 0 QM (F0 m 21 ls [.int t1]) := by
    intro t1 hj9 H locs hP hD hS ls hl
    have h := hJ21 t1 hj9
    refine lv_istore (lv' := [(4, .int t1), (0, .ref aM), (1, .int p1), (2, .int p2), (3, .int vTl)]) hx hb dX5_spread_21 hl (by decide) rfl (fun ls hl => ?_)
    refine lv_aload_n hx hb dX5_spread_23 rfl (lv_at hl 1 rfl) ?_
    refine lv_iload_n hx hb dX5_spread_24 rfl (lv_at hl 2 rfl) ?_
    refine lv_iconst (v := 0) hx hb dX5_spread_25 (by decide) ?_
    obtain ⟨Q3, hw9, h⟩ := h
    have hPc : va_P G vwCl [(aM, .inr (2, [.ref aF, .ref aL, .ref aX, .int vSz, .int vTl, .int vFo, .ref aN, .ref aC, .int vMv])), (aF, .inl (cy 0, 512, .inl fF)), (aL, .inl (cy 0, 512, .inl fL)), (aX, .inl (cy 0, 81, .inl fX)), (aC, .inl (cy 0, 81, .inl fC)), (aN, .inr (3, [.ref aR, .int vn])), (aR, .inl (cy 0, 9, .inl fN))] H := hP.sub [0, 1, 2, 3, 4, 5, 6] rfl
    have hDc : va_D A [(aM, .inr (2, [.ref aF, .ref aL, .ref aX, .int vSz, .int vTl, .int vFo, .ref aN, .ref aC, .int vMv])), (aF, .inl (cy 0, 512, .inl fF)), (aL, .inl (cy 0, 512, .inl fL)), (aX, .inl (cy 0, 81, .inl fX)), (aC, .inl (cy 0, 81, .inl fC)), (aN, .inr (3, [.ref aR, .int vn])), (aR, .inl (cy 0, 9, .inl fN))] := hD.sub [0, 1, 2, 3, 4, 5, 6] (by decide) rfl
    have hFc := va_free (wc := [(aM, .inr (2, [.ref aF, .ref aL, .ref aX, .int vSz, .int vTl, .int vFo, .ref aN, .ref aC, .int vMv])), (aF, .inl (cy 0, 512, .inl fF)), (aL, .inl (cy 0, 512, .inl fL)), (aX, .inl (cy 0, 81, .inl fX)), (aC, .inl (cy 0, 81, .inl fC)), (aN, .inr (3, [.ref aR, .int vn])), (aR, .inl (cy 0, 9, .inl fN))]) hD hS hA [0, 1, 2, 3, 4, 5, 6] rfl
    refine va_callv (va_runU (As := [.int p1, .int 0]) (rest := []) ⟨hx, hb, hml, hown, hts⟩ (ct_X5_enter_M l G cy aM aF aL aX aC aN aR H.size vSz vTl vFo vMv fF fL fX fC vn fN p1 0 Q3 hw9) (va_cwU 2 hts gX5_spread_X5_enter_u31X2 rfl rfl rfl rfl (by decide +kernel) ⟨Nat.le_of_ble_eq_true rfl, Nat.le_of_ble_eq_true rfl⟩) (wP_V hK hP (ci := 2) (q0 := 0) rfl rfl hPc hDc) rfl rfl hl.1 rfl (lv_room (Nat.le_of_ble_eq_true rfl)) dX5_spread_26 ⟨Nat.le_of_ble_eq_true rfl, Nat.le_of_ble_eq_true rfl⟩) hS (fun q9 _ h9 => hFc q9 h9) hFc (fun u9 t9 H locs ht9 hvm9 hw9 hB9 hz9 hk9 hS => ?_)
    obtain ⟨z5, f6, f7⟩ := u9
    have hP : va_P G vwCl [(aM, .inr (2, [.ref aF, .ref aL, .ref aX, .int vSz, .int z5, .int vFo, .ref aN, .ref aC, .int vMv])), (aF, .inl (cy 0, 512, .inl f6)), (aL, .inl (cy 0, 512, .inl f7)), (aX, .inl (cy 0, 81, .inl fX)), (aC, .inl (cy 0, 81, .inl fC)), (aN, .inr (3, [.ref aR, .int vn])), (aR, .inl (cy 0, 9, .inl fN))] H := P_back [0, 1, 2, 3, 4, 5, 6] [] 7 hP hD rfl rfl rfl rfl (by decide) (by decide) hk9 (by rw [← ht9]; exact hB9)
    have hD : va_D A [(aM, .inr (2, [.ref aF, .ref aL, .ref aX, .int vSz, .int z5, .int vFo, .ref aN, .ref aC, .int vMv])), (aF, .inl (cy 0, 512, .inl f6)), (aL, .inl (cy 0, 512, .inl f7)), (aX, .inl (cy 0, 81, .inl fX)), (aC, .inl (cy 0, 81, .inl fC)), (aN, .inr (3, [.ref aR, .int vn])), (aR, .inl (cy 0, 9, .inl fN))] := D_same hD rfl
    specialize h z5 f6 f7 hw9
    obtain ⟨I29_14, u29_14, h029, hst29⟩ := h
    have key29 : ∀ (k9 : Nat) (y8 : Int32) (z9 : Int32) (z10 : Int32) (f11 : Nat → Int32) (f12 : Nat → Int32) (f13 : Nat → Int32) (f14 : Nat → Int32), I29_14 y8 z9 z10 f11 f12 f13 f14 → u29_14 y8 z9 z10 f11 f12 f13 f14 < k9 → ∀ (H : Heap) (locs : List Loc), va_P G vwCl [(aM, .inr (2, [.ref aF, .ref aL, .ref aX, .int vSz, .int z9, .int z10, .ref aN, .ref aC, .int vMv])), (aF, .inl (cy 0, 512, .inl f11)), (aL, .inl (cy 0, 512, .inl f12)), (aX, .inl (cy 0, 81, .inl f13)), (aC, .inl (cy 0, 81, .inl f14)), (aN, .inr (3, [.ref aR, .int vn])), (aR, .inl (cy 0, 9, .inl fN))] H → va_D A [(aM, .inr (2, [.ref aF, .ref aL, .ref aX, .int vSz, .int z9, .int z10, .ref aN, .ref aC, .int vMv])), (aF, .inl (cy 0, 512, .inl f11)), (aL, .inl (cy 0, 512, .inl f12)), (aX, .inl (cy 0, 81, .inl f13)), (aC, .inl (cy 0, 81, .inl f14)), (aN, .inr (3, [.ref aR, .int vn])), (aR, .inl (cy 0, 9, .inl fN))] → va_S A s.heap H locs → ∀ (ls : Array Slot), lv_has ls 7 [(0, .ref aM), (2, .int p2), (3, .int y8), (4, .int t1)] → W p l e (headSpec wsX5_spread rmX5_spread_M).room s m args below meth c H locs 0 0 QM (F0 m 29 ls []) := by
      intro k9
      induction k9 with
      | zero =>
        intro y8 z9 z10 f11 f12 f13 f14 hI9 hk9
        exact absurd hk9 (Nat.not_lt_zero _)
      | succ k9 ih29 =>
        intro y8 z9 z10 f11 f12 f13 f14 hI9 hk29 H locs hP hD hS ls hl
        have h := hst29 y8 z9 z10 f11 f12 f13 f14 hI9
        refine lv_iload hx hb dX5_spread_29 (lv_at hl 3 rfl) ?_
        refine lv_if_eq (tgt := 140) hx hb dX5_spread_31 (by decide) (fun c15 => ?_) (fun c15 => ?_)
        · obtain ⟨h, -⟩ := h
          specialize h c15
          rw [← hQe]
          exact W.vret hx hb hr (fun t ht hW => ⟨⟨(z9, z10, f11, f12, f13, f14), rfl, h, by dsimp only; rw [ht]; exact hP⟩, hS.F ht⟩) hS.2.2 dX5_spread_140
        · obtain ⟨-, h⟩ := h
          specialize h c15
          refine lv_iload_n hx hb dX5_spread_34 rfl (lv_at hl 2 rfl) ?_
          refine lv_aload_n hx hb dX5_spread_35 rfl (lv_at hl 0 rfl) ?_
          refine va_get (D := G) (ci := 2) (v := .int z9) (C := RX2) (T := TX2) (N := 9) hx hb hts iwX2 hown hK.1 hP 0 rfl rfl 4 (by decide) fl15 (fun _ h9 => h9) rfl dX5_spread_36 ?_
          refine lv_icmp_ge (tgt := 140) hx hb dX5_spread_39 (by decide) (fun c16 => ?_) (fun c16 => ?_)
          · obtain ⟨h, -⟩ := h
            specialize h c16
            rw [← hQe]
            exact W.vret hx hb hr (fun t ht hW => ⟨⟨(z9, z10, f11, f12, f13, f14), rfl, h, by dsimp only; rw [ht]; exact hP⟩, hS.F ht⟩) hS.2.2 dX5_spread_140
          · obtain ⟨-, h⟩ := h
            specialize h c16
            refine lv_iload_n hx hb dX5_spread_42 rfl (lv_at hl 2 rfl) ?_
            refine lv_aload_n hx hb dX5_spread_43 rfl (lv_at hl 0 rfl) ?_
            refine va_get (D := G) (ci := 2) (v := .ref aL) (C := RX2) (T := TX2) (N := 9) hx hb hts iwX2 hown hK.1 hP 0 rfl rfl 1 (by decide) fl25 (fun _ h9 => h9) rfl dX5_spread_44 ?_
            refine va_alen hx hb hK.1 hP 2 0 rfl rfl (v := 512) rfl dX5_spread_47 ?_
            refine lv_icmp_ge (tgt := 140) hx hb dX5_spread_48 (by decide) (fun c17 => ?_) (fun c17 => ?_)
            · obtain ⟨h, -⟩ := h
              specialize h c17
              rw [← hQe]
              exact W.vret hx hb hr (fun t ht hW => ⟨⟨(z9, z10, f11, f12, f13, f14), rfl, h, by dsimp only; rw [ht]; exact hP⟩, hS.F ht⟩) hS.2.2 dX5_spread_140
            · obtain ⟨-, h⟩ := h
              specialize h c17
              refine lv_iload_n hx hb dX5_spread_51 rfl (lv_at hl 1 rfl) ?_
              refine lv_iconst (v := (-1)) hx hb dX5_spread_52 (by decide) ?_
              obtain ⟨J66_17, h, hJ66⟩ := h
              have jn66 : J66_17 → ∀ (H : Heap) (locs : List Loc), va_P G vwCl [(aM, .inr (2, [.ref aF, .ref aL, .ref aX, .int vSz, .int z9, .int z10, .ref aN, .ref aC, .int vMv])), (aF, .inl (cy 0, 512, .inl f11)), (aL, .inl (cy 0, 512, .inl f12)), (aX, .inl (cy 0, 81, .inl f13)), (aC, .inl (cy 0, 81, .inl f14)), (aN, .inr (3, [.ref aR, .int vn])), (aR, .inl (cy 0, 9, .inl fN))] H → va_D A [(aM, .inr (2, [.ref aF, .ref aL, .ref aX, .int vSz, .int z9, .int z10, .ref aN, .ref aC, .int vMv])), (aF, .inl (cy 0, 512, .inl f11)), (aL, .inl (cy 0, 512, .inl f12)), (aX, .inl (cy 0, 81, .inl f13)), (aC, .inl (cy 0, 81, .inl f14)), (aN, .inr (3, [.ref aR, .int vn])), (aR, .inl (cy 0, 9, .inl fN))] → va_S A s.heap H locs → ∀ (ls : Array Slot), lv_has ls 7 [(0, .ref aM), (2, .int p2), (3, .int y8), (4, .int t1)] → W p l e (headSpec wsX5_spread rmX5_spread_M).room s m args below meth c H locs 0 0 QM (F0 m 66 ls []) := by
                intro  hj9 H locs hP hD hS ls hl
                have h := hJ66  hj9
                refine lv_aload_n hx hb dX5_spread_66 rfl (lv_at hl 0 rfl) ?_
                refine va_get (D := G) (ci := 2) (v := .ref aL) (C := RX2) (T := TX2) (N := 9) hx hb hts iwX2 hown hK.1 hP 0 rfl rfl 1 (by decide) fl25 (fun _ h9 => h9) rfl dX5_spread_67 ?_
                refine lv_iload_n hx hb dX5_spread_70 rfl (lv_at hl 2 rfl) ?_
                obtain ⟨hi, h⟩ := h
                refine va_iald hx hb hK.1 hP 2 0 rfl rfl hi dX5_spread_71 ?_
                refine lv_topi (fun x20 ex20 => ?_)
                specialize h x20 ex20
                refine lv_istore (lv' := [(5, .int x20), (0, .ref aM), (2, .int p2), (3, .int y8), (4, .int t1)]) hx hb dX5_spread_72 hl (by decide) rfl (fun ls hl => ?_)
                refine lv_aload_n hx hb dX5_spread_74 rfl (lv_at hl 1 rfl) ?_
                refine lv_iload hx hb dX5_spread_75 (lv_at hl 0 rfl) ?_
                obtain ⟨Q21, hw9, h⟩ := h
                have hPc : va_P G vwCl [(aM, .inr (2, [.ref aF, .ref aL, .ref aX, .int vSz, .int z9, .int z10, .ref aN, .ref aC, .int vMv])), (aF, .inl (cy 0, 512, .inl f11)), (aL, .inl (cy 0, 512, .inl f12)), (aX, .inl (cy 0, 81, .inl f13)), (aC, .inl (cy 0, 81, .inl f14)), (aN, .inr (3, [.ref aR, .int vn])), (aR, .inl (cy 0, 9, .inl fN))] H := hP.sub [0, 1, 2, 3, 4, 5, 6] rfl
                have hDc : va_D A [(aM, .inr (2, [.ref aF, .ref aL, .ref aX, .int vSz, .int z9, .int z10, .ref aN, .ref aC, .int vMv])), (aF, .inl (cy 0, 512, .inl f11)), (aL, .inl (cy 0, 512, .inl f12)), (aX, .inl (cy 0, 81, .inl f13)), (aC, .inl (cy 0, 81, .inl f14)), (aN, .inr (3, [.ref aR, .int vn])), (aR, .inl (cy 0, 9, .inl fN))] := hD.sub [0, 1, 2, 3, 4, 5, 6] (by decide) rfl
                have hFc := va_free (wc := [(aM, .inr (2, [.ref aF, .ref aL, .ref aX, .int vSz, .int z9, .int z10, .ref aN, .ref aC, .int vMv])), (aF, .inl (cy 0, 512, .inl f11)), (aL, .inl (cy 0, 512, .inl f12)), (aX, .inl (cy 0, 81, .inl f13)), (aC, .inl (cy 0, 81, .inl f14)), (aN, .inr (3, [.ref aR, .int vn])), (aR, .inl (cy 0, 9, .inl fN))]) hD hS hA [0, 1, 2, 3, 4, 5, 6] rfl
                refine va_callv (va_runU (As := [.int x20]) (rest := []) ⟨hx, hb, hml, hown, hts⟩ (ct_X2_gather l G cy aM aF aL aX aC aN aR H.size vSz z9 z10 vMv f11 f12 f13 f14 vn fN x20 Q21 hw9) (va_cwA 1 hts gX5_spread_X2_gather_u35X2 rfl rfl rfl hK.2.2 (by decide +kernel) ⟨Nat.le_of_ble_eq_true rfl, Nat.le_of_ble_eq_true rfl⟩) (wP_V hK hP (ci := 2) (q0 := 0) rfl rfl hPc hDc) rfl rfl hl.1 rfl (lv_room (Nat.le_of_ble_eq_true rfl)) dX5_spread_77 ⟨Nat.le_of_ble_eq_true rfl, Nat.le_of_ble_eq_true rfl⟩) hS (fun q9 _ h9 => hFc q9 h9) hFc (fun u9 t9 H locs ht9 hvm9 hw9 hB9 hz9 hk9 hS => ?_)
                obtain ⟨z23, f24, f25⟩ := u9
                have hP : va_P G vwCl [(aM, .inr (2, [.ref aF, .ref aL, .ref aX, .int vSz, .int z9, .int z23, .ref aN, .ref aC, .int vMv])), (aF, .inl (cy 0, 512, .inl f11)), (aL, .inl (cy 0, 512, .inl f12)), (aX, .inl (cy 0, 81, .inl f24)), (aC, .inl (cy 0, 81, .inl f25)), (aN, .inr (3, [.ref aR, .int vn])), (aR, .inl (cy 0, 9, .inl fN))] H := P_back [0, 1, 2, 3, 4, 5, 6] [] 7 hP hD rfl rfl rfl rfl (by decide) (by decide) hk9 (by rw [← ht9]; exact hB9)
                have hD : va_D A [(aM, .inr (2, [.ref aF, .ref aL, .ref aX, .int vSz, .int z9, .int z23, .ref aN, .ref aC, .int vMv])), (aF, .inl (cy 0, 512, .inl f11)), (aL, .inl (cy 0, 512, .inl f12)), (aX, .inl (cy 0, 81, .inl f24)), (aC, .inl (cy 0, 81, .inl f25)), (aN, .inr (3, [.ref aR, .int vn])), (aR, .inl (cy 0, 9, .inl fN))] := D_same hD rfl
                specialize h z23 f24 f25 hw9
                refine lv_iconst (v := 0) hx hb dX5_spread_80 (by decide) ?_
                refine lv_istore (lv' := [(6, .int 0), (5, .int x20), (0, .ref aM), (2, .int p2), (3, .int y8), (4, .int t1)]) hx hb dX5_spread_81 hl (by decide) rfl (fun ls hl => ?_)
                obtain ⟨I83_29, u83_29, h083, hst83⟩ := h
                have key83 : ∀ (k9 : Nat) (y26 : Int32) (z27 : Int32) (f28 : Nat → Int32) (f29 : Nat → Int32), I83_29 y26 z27 f28 f29 → u83_29 y26 z27 f28 f29 < k9 → ∀ (H : Heap) (locs : List Loc), va_P G vwCl [(aM, .inr (2, [.ref aF, .ref aL, .ref aX, .int vSz, .int z27, .int z23, .ref aN, .ref aC, .int vMv])), (aF, .inl (cy 0, 512, .inl f28)), (aL, .inl (cy 0, 512, .inl f29)), (aX, .inl (cy 0, 81, .inl f24)), (aC, .inl (cy 0, 81, .inl f25)), (aN, .inr (3, [.ref aR, .int vn])), (aR, .inl (cy 0, 9, .inl fN))] H → va_D A [(aM, .inr (2, [.ref aF, .ref aL, .ref aX, .int vSz, .int z27, .int z23, .ref aN, .ref aC, .int vMv])), (aF, .inl (cy 0, 512, .inl f28)), (aL, .inl (cy 0, 512, .inl f29)), (aX, .inl (cy 0, 81, .inl f24)), (aC, .inl (cy 0, 81, .inl f25)), (aN, .inr (3, [.ref aR, .int vn])), (aR, .inl (cy 0, 9, .inl fN))] → va_S A s.heap H locs → ∀ (ls : Array Slot), lv_has ls 7 [(0, .ref aM), (2, .int p2), (3, .int y8), (4, .int t1), (5, .int x20), (6, .int y26)] → W p l e (headSpec wsX5_spread rmX5_spread_M).room s m args below meth c H locs 0 0 QM (F0 m 83 ls []) := by
                  intro k9
                  induction k9 with
                  | zero =>
                    intro y26 z27 f28 f29 hI9 hk9
                    exact absurd hk9 (Nat.not_lt_zero _)
                  | succ k9 ih83 =>
                    intro y26 z27 f28 f29 hI9 hk83 H locs hP hD hS ls hl
                    have h := hst83 y26 z27 f28 f29 hI9
                    refine lv_iload hx hb dX5_spread_83 (lv_at hl 5 rfl) ?_
                    refine lv_aload_n hx hb dX5_spread_85 rfl (lv_at hl 0 rfl) ?_
                    refine va_get (D := G) (ci := 2) (v := .int z23) (C := RX2) (T := TX2) (N := 9) hx hb hts iwX2 hown hK.1 hP 0 rfl rfl 5 (by decide) fl18 (fun _ h9 => h9) rfl dX5_spread_86 ?_
                    refine lv_icmp_ge (tgt := 134) hx hb dX5_spread_89 (by decide) (fun c30 => ?_) (fun c30 => ?_)
                    · obtain ⟨h, -⟩ := h
                      specialize h c30
                      obtain ⟨x31, ex31⟩ : ∃ y : Int32, y = y8 + 1 := ⟨_, rfl⟩
                      specialize h x31 ex31
                      refine lv_iinc (v := x31) (lv' := [(3, .int x31), (0, .ref aM), (2, .int p2), (4, .int t1), (5, .int x20), (6, .int y26)]) hx hb dX5_spread_134 hl (k := 2) rfl (by rw [ex31]; rfl) (by decide) rfl (fun ls hl => ?_)
                      refine lv_goto (tgt := 29) hx hb dX5_spread_137 (by decide) ?_
                      exact ih29 x31 z27 z23 f28 f29 f24 f25 h.1 (Nat.lt_of_lt_of_le h.2 (Nat.le_of_lt_succ hk29)) _ _ hP hD hS _ (lv_sub hl [1, 2, 0, 3] rfl)
                    · obtain ⟨-, h⟩ := h
                      specialize h c30
                      refine lv_aload_n hx hb dX5_spread_92 rfl (lv_at hl 0 rfl) ?_
                      refine va_get (D := G) (ci := 2) (v := .ref aF) (C := RX2) (T := TX2) (N := 9) hx hb hts iwX2 hown hK.1 hP 0 rfl rfl 0 (by decide) fl21 (fun _ h9 => h9) rfl dX5_spread_93 ?_
                      refine lv_aload_n hx hb dX5_spread_96 rfl (lv_at hl 0 rfl) ?_
                      refine va_get (D := G) (ci := 2) (v := .ref aX) (C := RX2) (T := TX2) (N := 9) hx hb hts iwX2 hown hK.1 hP 0 rfl rfl 2 (by decide) fl28 (fun _ h9 => h9) rfl dX5_spread_97 ?_
                      refine lv_iload hx hb dX5_spread_100 (lv_at hl 5 rfl) ?_
                      obtain ⟨hi, h⟩ := h
                      refine va_iald hx hb hK.1 hP 3 0 rfl rfl hi dX5_spread_102 ?_
                      obtain ⟨hi, h⟩ := h
                      refine va_iald hx hb hK.1 hP 1 0 rfl rfl hi dX5_spread_103 ?_
                      refine lv_iconst (v := (-1)) hx hb dX5_spread_104 (by decide) ?_
                      refine lv_icmp_ne (tgt := 128) hx hb dX5_spread_105 (by decide) (fun c32 => ?_) (fun c32 => ?_)
                      · obtain ⟨-, h⟩ := h
                        specialize h c32
                        obtain ⟨x33, ex33⟩ : ∃ y : Int32, y = y26 + 1 := ⟨_, rfl⟩
                        specialize h x33 ex33
                        refine lv_iinc (v := x33) (lv' := [(6, .int x33), (0, .ref aM), (2, .int p2), (3, .int y8), (4, .int t1), (5, .int x20)]) hx hb dX5_spread_128 hl (k := 5) rfl (by rw [ex33]; rfl) (by decide) rfl (fun ls hl => ?_)
                        refine lv_goto (tgt := 83) hx hb dX5_spread_131 (by decide) ?_
                        exact ih83 x33 z27 f28 f29 h.1 (Nat.lt_of_lt_of_le h.2 (Nat.le_of_lt_succ hk83)) _ _ hP hD hS _ (lv_sub hl [1, 2, 3, 4, 5, 0] rfl)
                      · obtain ⟨h, -⟩ := h
                        specialize h c32
                        refine lv_aload_n hx hb dX5_spread_108 rfl (lv_at hl 0 rfl) ?_
                        refine lv_aload_n hx hb dX5_spread_109 rfl (lv_at hl 0 rfl) ?_
                        refine va_get (D := G) (ci := 2) (v := .ref aX) (C := RX2) (T := TX2) (N := 9) hx hb hts iwX2 hown hK.1 hP 0 rfl rfl 2 (by decide) fl28 (fun _ h9 => h9) rfl dX5_spread_110 ?_
                        refine lv_iload hx hb dX5_spread_113 (lv_at hl 5 rfl) ?_
                        obtain ⟨hi, h⟩ := h
                        refine va_iald hx hb hK.1 hP 3 0 rfl rfl hi dX5_spread_115 ?_
                        refine lv_aload_n hx hb dX5_spread_116 rfl (lv_at hl 0 rfl) ?_
                        refine va_get (D := G) (ci := 2) (v := .ref aF) (C := RX2) (T := TX2) (N := 9) hx hb hts iwX2 hown hK.1 hP 0 rfl rfl 0 (by decide) fl21 (fun _ h9 => h9) rfl dX5_spread_117 ?_
                        refine lv_iload hx hb dX5_spread_120 (lv_at hl 4 rfl) ?_
                        obtain ⟨hi, h⟩ := h
                        refine va_iald hx hb hK.1 hP 1 0 rfl rfl hi dX5_spread_122 ?_
                        refine lv_iconst (v := 1) hx hb dX5_spread_123 (by decide) ?_
                        refine lv_iadd hx hb dX5_spread_124 ?_
                        obtain ⟨Q34, hw9, h⟩ := h
                        have hPc : va_P G vwCl [(aM, .inr (2, [.ref aF, .ref aL, .ref aX, .int vSz, .int z27, .int z23, .ref aN, .ref aC, .int vMv])), (aF, .inl (cy 0, 512, .inl f28)), (aL, .inl (cy 0, 512, .inl f29)), (aX, .inl (cy 0, 81, .inl f24)), (aC, .inl (cy 0, 81, .inl f25)), (aN, .inr (3, [.ref aR, .int vn])), (aR, .inl (cy 0, 9, .inl fN))] H := hP.sub [0, 1, 2, 3, 4, 5, 6] rfl
                        have hDc : va_D A [(aM, .inr (2, [.ref aF, .ref aL, .ref aX, .int vSz, .int z27, .int z23, .ref aN, .ref aC, .int vMv])), (aF, .inl (cy 0, 512, .inl f28)), (aL, .inl (cy 0, 512, .inl f29)), (aX, .inl (cy 0, 81, .inl f24)), (aC, .inl (cy 0, 81, .inl f25)), (aN, .inr (3, [.ref aR, .int vn])), (aR, .inl (cy 0, 9, .inl fN))] := hD.sub [0, 1, 2, 3, 4, 5, 6] (by decide) rfl
                        have hFc := va_free (wc := [(aM, .inr (2, [.ref aF, .ref aL, .ref aX, .int vSz, .int z27, .int z23, .ref aN, .ref aC, .int vMv])), (aF, .inl (cy 0, 512, .inl f28)), (aL, .inl (cy 0, 512, .inl f29)), (aX, .inl (cy 0, 81, .inl f24)), (aC, .inl (cy 0, 81, .inl f25)), (aN, .inr (3, [.ref aR, .int vn])), (aR, .inl (cy 0, 9, .inl fN))]) hD hS hA [0, 1, 2, 3, 4, 5, 6] rfl
                        refine va_callv (va_runU (As := [.int (f24 (y26 : Int32).toNatClampNeg), .int ((f28 (x20 : Int32).toNatClampNeg) + (1 : Int32))]) (rest := []) ⟨hx, hb, hml, hown, hts⟩ (ct_X5_enter_M l G cy aM aF aL aX aC aN aR H.size vSz z27 z23 vMv f28 f29 f24 f25 vn fN (f24 (y26 : Int32).toNatClampNeg) ((f28 (x20 : Int32).toNatClampNeg) + (1 : Int32)) Q34 hw9) (va_cwU 2 hts gX5_spread_X5_enter_u31X2 rfl rfl rfl rfl (by decide +kernel) ⟨Nat.le_of_ble_eq_true rfl, Nat.le_of_ble_eq_true rfl⟩) (wP_V hK hP (ci := 2) (q0 := 0) rfl rfl hPc hDc) rfl rfl hl.1 rfl (lv_room (Nat.le_of_ble_eq_true rfl)) dX5_spread_125 ⟨Nat.le_of_ble_eq_true rfl, Nat.le_of_ble_eq_true rfl⟩) hS (fun q9 _ h9 => hFc q9 h9) hFc (fun u9 t9 H locs ht9 hvm9 hw9 hB9 hz9 hk9 hS => ?_)
                        obtain ⟨z36, f37, f38⟩ := u9
                        have hP : va_P G vwCl [(aM, .inr (2, [.ref aF, .ref aL, .ref aX, .int vSz, .int z36, .int z23, .ref aN, .ref aC, .int vMv])), (aF, .inl (cy 0, 512, .inl f37)), (aL, .inl (cy 0, 512, .inl f38)), (aX, .inl (cy 0, 81, .inl f24)), (aC, .inl (cy 0, 81, .inl f25)), (aN, .inr (3, [.ref aR, .int vn])), (aR, .inl (cy 0, 9, .inl fN))] H := P_back [0, 1, 2, 3, 4, 5, 6] [] 7 hP hD rfl rfl rfl rfl (by decide) (by decide) hk9 (by rw [← ht9]; exact hB9)
                        have hD : va_D A [(aM, .inr (2, [.ref aF, .ref aL, .ref aX, .int vSz, .int z36, .int z23, .ref aN, .ref aC, .int vMv])), (aF, .inl (cy 0, 512, .inl f37)), (aL, .inl (cy 0, 512, .inl f38)), (aX, .inl (cy 0, 81, .inl f24)), (aC, .inl (cy 0, 81, .inl f25)), (aN, .inr (3, [.ref aR, .int vn])), (aR, .inl (cy 0, 9, .inl fN))] := D_same hD rfl
                        specialize h z36 f37 f38 hw9
                        obtain ⟨x39, ex39⟩ : ∃ y : Int32, y = y26 + 1 := ⟨_, rfl⟩
                        specialize h x39 ex39
                        refine lv_iinc (v := x39) (lv' := [(6, .int x39), (0, .ref aM), (2, .int p2), (3, .int y8), (4, .int t1), (5, .int x20)]) hx hb dX5_spread_128 hl (k := 5) rfl (by rw [ex39]; rfl) (by decide) rfl (fun ls hl => ?_)
                        refine lv_goto (tgt := 83) hx hb dX5_spread_131 (by decide) ?_
                        exact ih83 x39 z36 f37 f38 h.1 (Nat.lt_of_lt_of_le h.2 (Nat.le_of_lt_succ hk83)) _ _ hP hD hS _ (lv_sub hl [1, 2, 3, 4, 5, 0] rfl)
                exact key83 _ 0 z9 f11 f12 h083 (Nat.lt_succ_self _) _ _ hP hD hS _ (lv_sub hl [2, 3, 4, 5, 1, 0] rfl)
              refine lv_icmp_eq (tgt := 66) hx hb dX5_spread_53 (by decide) (fun c18 => ?_) (fun c18 => ?_)
              · obtain ⟨h, -⟩ := h
                specialize h c18
                exact jn66  h _ _ hP hD hS _ (lv_sub hl [0, 1, 2, 3] rfl)
              · obtain ⟨-, h⟩ := h
                specialize h c18
                refine lv_aload_n hx hb dX5_spread_56 rfl (lv_at hl 0 rfl) ?_
                refine va_get (D := G) (ci := 2) (v := .ref aF) (C := RX2) (T := TX2) (N := 9) hx hb hts iwX2 hown hK.1 hP 0 rfl rfl 0 (by decide) fl21 (fun _ h9 => h9) rfl dX5_spread_57 ?_
                refine lv_iload_n hx hb dX5_spread_60 rfl (lv_at hl 1 rfl) ?_
                obtain ⟨hi, h⟩ := h
                refine va_iald hx hb hK.1 hP 1 0 rfl rfl hi dX5_spread_61 ?_
                refine lv_if_lt (tgt := 66) hx hb dX5_spread_62 (by decide) (fun c19 => ?_) (fun c19 => ?_)
                · obtain ⟨h, -⟩ := h
                  specialize h c19
                  exact jn66  h _ _ hP hD hS _ (lv_sub hl [0, 1, 2, 3] rfl)
                · obtain ⟨-, h⟩ := h
                  specialize h c19
                  rw [← hQe]
                  exact W.vret hx hb hr (fun t ht hW => ⟨⟨(z9, z10, f11, f12, f13, f14), rfl, h, by dsimp only; rw [ht]; exact hP⟩, hS.F ht⟩) hS.2.2 dX5_spread_65
    exact key29 _ vTl z5 vFo f6 f7 fX fC h029 (Nat.lt_succ_self _) _ _ hP hD hS _ (lv_sub hl [1, 3, 4, 0] rfl)
  refine lv_icmp_eq (tgt := 20) hx hb dX5_spread_13 (by decide) (fun c2 => ?_) (fun c2 => ?_)
  · obtain ⟨h, -⟩ := h
    specialize h c2
    refine lv_iconst (v := 0) hx hb dX5_spread_20 (by decide) ?_
    exact jn21 0 h _ _ hP hD hS _ (lv_sub hl [1, 2, 3, 0] rfl)
  · obtain ⟨-, h⟩ := h
    specialize h c2
    refine lv_iconst (v := 1) hx hb dX5_spread_16 (by decide) ?_
    refine lv_goto (tgt := 21) hx hb dX5_spread_17 (by decide) ?_
    exact jn21 1 h _ _ hP hD hS _ (lv_sub hl [1, 2, 3, 0] rfl)

set_option maxHeartbeats 4000000 in
set_option maxRecDepth 100000 in
theorem ct_X5_fewest_M (l : Launch) (G : va_G) (cy : Nat → ClassId) (aM aF aL aX aC aN aR : Nat) (sz : Nat) (vSz : Int32) (vTl : Int32) (vFo : Int32) (vMv : Int32) (fF : Nat → Int32) (fL : Nat → Int32) (fX : Nat → Int32) (fC : Nat → Int32) (vn : Int32) (fN : Nat → Int32) (p1 : Int32) (p2 : Int32) (Q : Int32 → Int32 → Int32 → (Nat → Int32) → (Nat → Int32) → (Nat → Int32) → (Nat → Int32) → Prop) (h : wp_X5_fewest_M vTl vFo vMv fF fL fX fC vn fN p1 p2 Q) : Met l yX5_fewest wsX5_fewest rmX5_fewest_M (va_Pc [.ref aM, .int p1, .int p2] (wP G cy sz [(aM, .inr (2, [.ref aF, .ref aL, .ref aX, .int vSz, .int vTl, .int vFo, .ref aN, .ref aC, .int vMv])), (aF, .inl (cy 0, 512, .inl fF)), (aL, .inl (cy 0, 512, .inl fL)), (aX, .inl (cy 0, 81, .inl fX)), (aC, .inl (cy 0, 81, .inl fC)), (aN, .inr (3, [.ref aR, .int vn])), (aR, .inl (cy 0, 9, .inl fN))])) (va_Qi (fun (r : Int32) (u : Int32 × Int32 × (Nat → Int32) × (Nat → Int32) × (Nat → Int32) × (Nat → Int32)) => Q r u.1 u.2.1 u.2.2.1 u.2.2.2.1 u.2.2.2.2.1 u.2.2.2.2.2) (fun (u : Int32 × Int32 × (Nat → Int32) × (Nat → Int32) × (Nat → Int32) × (Nat → Int32)) (t : State) => va_P G vwCl [(aM, .inr (2, [.ref aF, .ref aL, .ref aX, .int vSz, .int u.1, .int u.2.1, .ref aN, .ref aC, .int vMv])), (aF, .inl (cy 0, 512, .inl u.2.2.1)), (aL, .inl (cy 0, 512, .inl u.2.2.2.1)), (aX, .inl (cy 0, 81, .inl u.2.2.2.2.1)), (aC, .inl (cy 0, 81, .inl u.2.2.2.2.2)), (aN, .inr (3, [.ref aR, .int vn])), (aR, .inl (cy 0, 9, .inl fN))] t.heap) (va_A [(aM, .inr (2, [.ref aF, .ref aL, .ref aX, .int vSz, .int vTl, .int vFo, .ref aN, .ref aC, .int vMv])), (aF, .inl (cy 0, 512, .inl fF)), (aL, .inl (cy 0, 512, .inl fL)), (aX, .inl (cy 0, 81, .inl fX)), (aC, .inl (cy 0, 81, .inl fC)), (aN, .inr (3, [.ref aR, .int vn])), (aR, .inl (cy 0, 9, .inl fN))] sz)) 0 0 (va_A [(aM, .inr (2, [.ref aF, .ref aL, .ref aX, .int vSz, .int vTl, .int vFo, .ref aN, .ref aC, .int vMv])), (aF, .inl (cy 0, 512, .inl fF)), (aL, .inl (cy 0, 512, .inl fL)), (aX, .inl (cy 0, 81, .inl fX)), (aC, .inl (cy 0, 81, .inl fC)), (aN, .inr (3, [.ref aR, .int vn])), (aR, .inl (cy 0, 9, .inl fN))] sz) := by
  unfold wp_X5_fewest_M at h
  refine Met.ofW (cc := cX5_fewest) (maxL := 3) (ret := (some .int)) (by decide) rfl ?_
  intro p e s m args below meth c s₁ B hml hv
  obtain ⟨hav, hsz, hP, hK, hD0⟩ := hv
  have hx := B.exec
  have hb := B.bytes
  have hr := B.returns
  have hts := atoms_spec (ws := wsX5_fewest) B.pre
  have hown : s.vm.findClass RX5 = some m.cls := findClass_of_methodNamed B.named
  have hlocks := B.notSynchronized
  subst hsz
  have hD := hD0.self (sz := s.heap.size)
  generalize hAe : va_A [(aM, .inr (2, [.ref aF, .ref aL, .ref aX, .int vSz, .int vTl, .int vFo, .ref aN, .ref aC, .int vMv])), (aF, .inl (cy 0, 512, .inl fF)), (aL, .inl (cy 0, 512, .inl fL)), (aX, .inl (cy 0, 81, .inl fX)), (aC, .inl (cy 0, 81, .inl fC)), (aN, .inr (3, [.ref aR, .int vn])), (aR, .inl (cy 0, 9, .inl fN))] s.heap.size = A at hD ⊢
  have hA : ∀ q : Nat, s.heap.size ≤ q → A q := fun q h9 => by rw [← hAe]; exact Or.inr h9
  have hS : va_S A s.heap s.heap [] := va_S.rf
  have hl := lv_entry ([.ref aM, .int p1, .int p2]) (n := 3) (Nat.le_of_ble_eq_true rfl)
  rw [show entryFrame m args 3 = entryFrame m ([.ref aM, .int p1, .int p2] : List Value).toArray 3 by rw [hav], lg_entry_eq]
  generalize (lg_sl ([.ref aM, .int p1, .int p2]) ++ List.replicate (3 - (lg_sl ([.ref aM, .int p1, .int p2])).length) Slot.unset).toArray = ls at hl ⊢
  have hl : lv_has ls 3 [(0, .ref aM), (1, .int p1), (2, .int p2)] := hl
  generalize hQe : MQ below _ _ _ _ _ _ = QM
  have hP : va_P G vwCl [(aM, .inr (2, [.ref aF, .ref aL, .ref aX, .int vSz, .int vTl, .int vFo, .ref aN, .ref aC, .int vMv])), (aF, .inl (cy 0, 512, .inl fF)), (aL, .inl (cy 0, 512, .inl fL)), (aX, .inl (cy 0, 81, .inl fX)), (aC, .inl (cy 0, 81, .inl fC)), (aN, .inr (3, [.ref aR, .int vn])), (aR, .inl (cy 0, 9, .inl fN))] s.heap := hP
  have iwX2 : ∀ w ∈ wsX20, w ∈ wsX5_fewest := by decide +kernel
  have fl21 := hts (.fieldLink RX5 21 "SlidTokens$Search" "far" "[I") (by decide +kernel)
  suffices K9 : ∀ (H : Heap) (locs : List Loc), va_P G vwCl [(aM, .inr (2, [.ref aF, .ref aL, .ref aX, .int vSz, .int vTl, .int vFo, .ref aN, .ref aC, .int vMv])), (aF, .inl (cy 0, 512, .inl fF)), (aL, .inl (cy 0, 512, .inl fL)), (aX, .inl (cy 0, 81, .inl fX)), (aC, .inl (cy 0, 81, .inl fC)), (aN, .inr (3, [.ref aR, .int vn])), (aR, .inl (cy 0, 9, .inl fN))] H → va_D A [(aM, .inr (2, [.ref aF, .ref aL, .ref aX, .int vSz, .int vTl, .int vFo, .ref aN, .ref aC, .int vMv])), (aF, .inl (cy 0, 512, .inl fF)), (aL, .inl (cy 0, 512, .inl fL)), (aX, .inl (cy 0, 81, .inl fX)), (aC, .inl (cy 0, 81, .inl fC)), (aN, .inr (3, [.ref aR, .int vn])), (aR, .inl (cy 0, 9, .inl fN))] → va_S A s.heap H locs → W p l e (headSpec wsX5_fewest rmX5_fewest_M).room s m args below meth c H locs 0 0 QM (F0 m 0 ls []) from K9 _ _ hP hD hS
  clear hP hD hS
  intro H locs hP hD hS
  refine lv_iload_n hx hb dX5_fewest_0 rfl (lv_at hl 1 rfl) ?_
  refine lv_iload_n hx hb dX5_fewest_1 rfl (lv_at hl 2 rfl) ?_
  refine lv_icmp_ne (tgt := 7) hx hb dX5_fewest_2 (by decide) (fun c1 => ?_) (fun c1 => ?_)
  · obtain ⟨-, h⟩ := h
    specialize h c1
    refine lv_aload_n hx hb dX5_fewest_7 rfl (lv_at hl 0 rfl) ?_
    refine va_get (D := G) (ci := 2) (v := .ref aF) (C := RX2) (T := TX2) (N := 9) hx hb hts iwX2 hown hK.1 hP 0 rfl rfl 0 (by decide) fl21 (fun _ h9 => h9) rfl dX5_fewest_8 ?_
    refine lv_iload_n hx hb dX5_fewest_11 rfl (lv_at hl 1 rfl) ?_
    obtain ⟨hi, h⟩ := h
    refine va_iald hx hb hK.1 hP 1 0 rfl rfl hi dX5_fewest_12 ?_
    refine lv_bipush (v := (-2)) hx hb dX5_fewest_13 (by decide) ?_
    refine lv_icmp_eq (tgt := 29) hx hb dX5_fewest_15 (by decide) (fun c2 => ?_) (fun c2 => ?_)
    · obtain ⟨h, -⟩ := h
      specialize h c2
      refine lv_bipush (v := (-9)) hx hb dX5_fewest_29 (by decide) ?_
      rw [← hQe]
      exact W.iret (v := (-9)) hx hb hr (fun t ht hW => ⟨⟨(-9), (vTl, vFo, fF, fL, fX, fC), rfl, h, by dsimp only; rw [ht]; exact hP⟩, hS.F ht⟩) hS.2.2 dX5_fewest_31
    · obtain ⟨-, h⟩ := h
      specialize h c2
      refine lv_aload_n hx hb dX5_fewest_18 rfl (lv_at hl 0 rfl) ?_
      refine va_get (D := G) (ci := 2) (v := .ref aF) (C := RX2) (T := TX2) (N := 9) hx hb hts iwX2 hown hK.1 hP 0 rfl rfl 0 (by decide) fl21 (fun _ h9 => h9) rfl dX5_fewest_19 ?_
      refine lv_iload_n hx hb dX5_fewest_22 rfl (lv_at hl 2 rfl) ?_
      obtain ⟨hi, h⟩ := h
      refine va_iald hx hb hK.1 hP 1 0 rfl rfl hi dX5_fewest_23 ?_
      refine lv_bipush (v := (-2)) hx hb dX5_fewest_24 (by decide) ?_
      refine lv_icmp_ne (tgt := 32) hx hb dX5_fewest_26 (by decide) (fun c3 => ?_) (fun c3 => ?_)
      · obtain ⟨-, h⟩ := h
        specialize h c3
        refine lv_aload_n hx hb dX5_fewest_32 rfl (lv_at hl 0 rfl) ?_
        refine lv_iload_n hx hb dX5_fewest_33 rfl (lv_at hl 2 rfl) ?_
        refine lv_iload_n hx hb dX5_fewest_34 rfl (lv_at hl 1 rfl) ?_
        obtain ⟨Q4, hw9, h⟩ := h
        have hPc : va_P G vwCl [(aM, .inr (2, [.ref aF, .ref aL, .ref aX, .int vSz, .int vTl, .int vFo, .ref aN, .ref aC, .int vMv])), (aF, .inl (cy 0, 512, .inl fF)), (aL, .inl (cy 0, 512, .inl fL)), (aX, .inl (cy 0, 81, .inl fX)), (aC, .inl (cy 0, 81, .inl fC)), (aN, .inr (3, [.ref aR, .int vn])), (aR, .inl (cy 0, 9, .inl fN))] H := hP.sub [0, 1, 2, 3, 4, 5, 6] rfl
        have hDc : va_D A [(aM, .inr (2, [.ref aF, .ref aL, .ref aX, .int vSz, .int vTl, .int vFo, .ref aN, .ref aC, .int vMv])), (aF, .inl (cy 0, 512, .inl fF)), (aL, .inl (cy 0, 512, .inl fL)), (aX, .inl (cy 0, 81, .inl fX)), (aC, .inl (cy 0, 81, .inl fC)), (aN, .inr (3, [.ref aR, .int vn])), (aR, .inl (cy 0, 9, .inl fN))] := hD.sub [0, 1, 2, 3, 4, 5, 6] (by decide) rfl
        have hFc := va_free (wc := [(aM, .inr (2, [.ref aF, .ref aL, .ref aX, .int vSz, .int vTl, .int vFo, .ref aN, .ref aC, .int vMv])), (aF, .inl (cy 0, 512, .inl fF)), (aL, .inl (cy 0, 512, .inl fL)), (aX, .inl (cy 0, 81, .inl fX)), (aC, .inl (cy 0, 81, .inl fC)), (aN, .inr (3, [.ref aR, .int vn])), (aR, .inl (cy 0, 9, .inl fN))]) hD hS hA [0, 1, 2, 3, 4, 5, 6] rfl
        refine va_callv (va_runU (As := [.int p2, .int p1]) (rest := []) ⟨hx, hb, hml, hown, hts⟩ (ct_X5_spread_M l G cy aM aF aL aX aC aN aR H.size vSz vTl vFo vMv fF fL fX fC vn fN p2 p1 Q4 hw9) (va_cwU 2 hts gX5_fewest_X5_spread_u39X2 rfl rfl rfl rfl (by decide +kernel) ⟨Nat.le_of_ble_eq_true rfl, Nat.le_of_ble_eq_true rfl⟩) (wP_V hK hP (ci := 2) (q0 := 0) rfl rfl hPc hDc) rfl rfl hl.1 rfl (lv_room (Nat.le_of_ble_eq_true rfl)) dX5_fewest_35 ⟨Nat.le_of_ble_eq_true rfl, Nat.le_of_ble_eq_true rfl⟩) hS (fun q9 _ h9 => hFc q9 h9) hFc (fun u9 t9 H locs ht9 hvm9 hw9 hB9 hz9 hk9 hS => ?_)
        obtain ⟨z6, z7, f8, f9, f10, f11⟩ := u9
        have hP : va_P G vwCl [(aM, .inr (2, [.ref aF, .ref aL, .ref aX, .int vSz, .int z6, .int z7, .ref aN, .ref aC, .int vMv])), (aF, .inl (cy 0, 512, .inl f8)), (aL, .inl (cy 0, 512, .inl f9)), (aX, .inl (cy 0, 81, .inl f10)), (aC, .inl (cy 0, 81, .inl f11)), (aN, .inr (3, [.ref aR, .int vn])), (aR, .inl (cy 0, 9, .inl fN))] H := P_back [0, 1, 2, 3, 4, 5, 6] [] 7 hP hD rfl rfl rfl rfl (by decide) (by decide) hk9 (by rw [← ht9]; exact hB9)
        have hD : va_D A [(aM, .inr (2, [.ref aF, .ref aL, .ref aX, .int vSz, .int z6, .int z7, .ref aN, .ref aC, .int vMv])), (aF, .inl (cy 0, 512, .inl f8)), (aL, .inl (cy 0, 512, .inl f9)), (aX, .inl (cy 0, 81, .inl f10)), (aC, .inl (cy 0, 81, .inl f11)), (aN, .inr (3, [.ref aR, .int vn])), (aR, .inl (cy 0, 9, .inl fN))] := D_same hD rfl
        specialize h z6 z7 f8 f9 f10 f11 hw9
        refine lv_aload_n hx hb dX5_fewest_38 rfl (lv_at hl 0 rfl) ?_
        refine va_get (D := G) (ci := 2) (v := .ref aF) (C := RX2) (T := TX2) (N := 9) hx hb hts iwX2 hown hK.1 hP 0 rfl rfl 0 (by decide) fl21 (fun _ h9 => h9) rfl dX5_fewest_39 ?_
        refine lv_iload_n hx hb dX5_fewest_42 rfl (lv_at hl 1 rfl) ?_
        obtain ⟨hi, h⟩ := h
        refine va_iald hx hb hK.1 hP 1 0 rfl rfl hi dX5_fewest_43 ?_
        refine lv_iconst (v := (-1)) hx hb dX5_fewest_44 (by decide) ?_
        refine lv_icmp_ne (tgt := 53) hx hb dX5_fewest_45 (by decide) (fun c12 => ?_) (fun c12 => ?_)
        · obtain ⟨-, h⟩ := h
          specialize h c12
          refine lv_aload_n hx hb dX5_fewest_53 rfl (lv_at hl 0 rfl) ?_
          refine va_get (D := G) (ci := 2) (v := .ref aF) (C := RX2) (T := TX2) (N := 9) hx hb hts iwX2 hown hK.1 hP 0 rfl rfl 0 (by decide) fl21 (fun _ h9 => h9) rfl dX5_fewest_54 ?_
          refine lv_iload_n hx hb dX5_fewest_57 rfl (lv_at hl 1 rfl) ?_
          obtain ⟨hi, h⟩ := h
          refine va_iald hx hb hK.1 hP 1 0 rfl rfl hi dX5_fewest_58 ?_
          rw [← hQe]
          exact W.iret (v := (f8 (p1 : Int32).toNatClampNeg)) hx hb hr (fun t ht hW => ⟨⟨(f8 (p1 : Int32).toNatClampNeg), (z6, z7, f8, f9, f10, f11), rfl, h, by dsimp only; rw [ht]; exact hP⟩, hS.F ht⟩) hS.2.2 dX5_fewest_59
        · obtain ⟨h, -⟩ := h
          specialize h c12
          refine lv_bipush (v := (-9)) hx hb dX5_fewest_48 (by decide) ?_
          refine lv_goto (tgt := 59) hx hb dX5_fewest_50 (by decide) ?_
          rw [← hQe]
          exact W.iret (v := (-9)) hx hb hr (fun t ht hW => ⟨⟨(-9), (z6, z7, f8, f9, f10, f11), rfl, h, by dsimp only; rw [ht]; exact hP⟩, hS.F ht⟩) hS.2.2 dX5_fewest_59
      · obtain ⟨h, -⟩ := h
        specialize h c3
        refine lv_bipush (v := (-9)) hx hb dX5_fewest_29 (by decide) ?_
        rw [← hQe]
        exact W.iret (v := (-9)) hx hb hr (fun t ht hW => ⟨⟨(-9), (vTl, vFo, fF, fL, fX, fC), rfl, h, by dsimp only; rw [ht]; exact hP⟩, hS.F ht⟩) hS.2.2 dX5_fewest_31
  · obtain ⟨h, -⟩ := h
    specialize h c1
    refine lv_iconst (v := 0) hx hb dX5_fewest_5 (by decide) ?_
    rw [← hQe]
    exact W.iret (v := 0) hx hb hr (fun t ht hW => ⟨⟨0, (vTl, vFo, fF, fL, fX, fC), rfl, h, by dsimp only; rw [ht]; exact hP⟩, hS.F ht⟩) hS.2.2 dX5_fewest_6

set_option maxHeartbeats 4000000 in
set_option maxRecDepth 100000 in
theorem ct_X5_components_M (l : Launch) (G : va_G) (cy : Nat → ClassId) (aM aF aL aX aC aN aR : Nat) (sz : Nat) (vSz : Int32) (vTl : Int32) (vFo : Int32) (vMv : Int32) (fF : Nat → Int32) (fL : Nat → Int32) (fX : Nat → Int32) (fC : Nat → Int32) (vn : Int32) (fN : Nat → Int32) (Q : Int32 → Int32 → Int32 → (Nat → Int32) → (Nat → Int32) → (Nat → Int32) → (Nat → Int32) → Prop) (h : wp_X5_components_M vSz vTl vFo vMv fF fL fX fC vn fN Q) : Met l yX5_components wsX5_components rmX5_components_M (va_Pc [.ref aM] (wP G cy sz [(aM, .inr (2, [.ref aF, .ref aL, .ref aX, .int vSz, .int vTl, .int vFo, .ref aN, .ref aC, .int vMv])), (aF, .inl (cy 0, 512, .inl fF)), (aL, .inl (cy 0, 512, .inl fL)), (aX, .inl (cy 0, 81, .inl fX)), (aC, .inl (cy 0, 81, .inl fC)), (aN, .inr (3, [.ref aR, .int vn])), (aR, .inl (cy 0, 9, .inl fN))])) (va_Qi (fun (r : Int32) (u : Int32 × Int32 × (Nat → Int32) × (Nat → Int32) × (Nat → Int32) × (Nat → Int32)) => Q r u.1 u.2.1 u.2.2.1 u.2.2.2.1 u.2.2.2.2.1 u.2.2.2.2.2) (fun (u : Int32 × Int32 × (Nat → Int32) × (Nat → Int32) × (Nat → Int32) × (Nat → Int32)) (t : State) => va_P G vwCl [(aM, .inr (2, [.ref aF, .ref aL, .ref aX, .int vSz, .int u.1, .int u.2.1, .ref aN, .ref aC, .int vMv])), (aF, .inl (cy 0, 512, .inl u.2.2.1)), (aL, .inl (cy 0, 512, .inl u.2.2.2.1)), (aX, .inl (cy 0, 81, .inl u.2.2.2.2.1)), (aC, .inl (cy 0, 81, .inl u.2.2.2.2.2)), (aN, .inr (3, [.ref aR, .int vn])), (aR, .inl (cy 0, 9, .inl fN))] t.heap) (va_A [(aM, .inr (2, [.ref aF, .ref aL, .ref aX, .int vSz, .int vTl, .int vFo, .ref aN, .ref aC, .int vMv])), (aF, .inl (cy 0, 512, .inl fF)), (aL, .inl (cy 0, 512, .inl fL)), (aX, .inl (cy 0, 81, .inl fX)), (aC, .inl (cy 0, 81, .inl fC)), (aN, .inr (3, [.ref aR, .int vn])), (aR, .inl (cy 0, 9, .inl fN))] sz)) 0 0 (va_A [(aM, .inr (2, [.ref aF, .ref aL, .ref aX, .int vSz, .int vTl, .int vFo, .ref aN, .ref aC, .int vMv])), (aF, .inl (cy 0, 512, .inl fF)), (aL, .inl (cy 0, 512, .inl fL)), (aX, .inl (cy 0, 81, .inl fX)), (aC, .inl (cy 0, 81, .inl fC)), (aN, .inr (3, [.ref aR, .int vn])), (aR, .inl (cy 0, 9, .inl fN))] sz) := by
  unfold wp_X5_components_M at h
  refine Met.ofW (cc := cX5_components) (maxL := 3) (ret := (some .int)) (by decide) rfl ?_
  intro p e s m args below meth c s₁ B hml hv
  obtain ⟨hav, hsz, hP, hK, hD0⟩ := hv
  have hx := B.exec
  have hb := B.bytes
  have hr := B.returns
  have hts := atoms_spec (ws := wsX5_components) B.pre
  have hown : s.vm.findClass RX5 = some m.cls := findClass_of_methodNamed B.named
  have hlocks := B.notSynchronized
  subst hsz
  have hD := hD0.self (sz := s.heap.size)
  generalize hAe : va_A [(aM, .inr (2, [.ref aF, .ref aL, .ref aX, .int vSz, .int vTl, .int vFo, .ref aN, .ref aC, .int vMv])), (aF, .inl (cy 0, 512, .inl fF)), (aL, .inl (cy 0, 512, .inl fL)), (aX, .inl (cy 0, 81, .inl fX)), (aC, .inl (cy 0, 81, .inl fC)), (aN, .inr (3, [.ref aR, .int vn])), (aR, .inl (cy 0, 9, .inl fN))] s.heap.size = A at hD ⊢
  have hA : ∀ q : Nat, s.heap.size ≤ q → A q := fun q h9 => by rw [← hAe]; exact Or.inr h9
  have hS : va_S A s.heap s.heap [] := va_S.rf
  have hl := lv_entry ([.ref aM]) (n := 3) (Nat.le_of_ble_eq_true rfl)
  rw [show entryFrame m args 3 = entryFrame m ([.ref aM] : List Value).toArray 3 by rw [hav], lg_entry_eq]
  generalize (lg_sl ([.ref aM]) ++ List.replicate (3 - (lg_sl ([.ref aM])).length) Slot.unset).toArray = ls at hl ⊢
  have hl : lv_has ls 3 [(0, .ref aM)] := hl
  generalize hQe : MQ below _ _ _ _ _ _ = QM
  have hP : va_P G vwCl [(aM, .inr (2, [.ref aF, .ref aL, .ref aX, .int vSz, .int vTl, .int vFo, .ref aN, .ref aC, .int vMv])), (aF, .inl (cy 0, 512, .inl fF)), (aL, .inl (cy 0, 512, .inl fL)), (aX, .inl (cy 0, 81, .inl fX)), (aC, .inl (cy 0, 81, .inl fC)), (aN, .inr (3, [.ref aR, .int vn])), (aR, .inl (cy 0, 9, .inl fN))] s.heap := hP
  have iwX2 : ∀ w ∈ wsX20, w ∈ wsX5_components := by decide +kernel
  have fl9 := hts (.fieldLink RX5 9 "SlidTokens$Search" "size" "I") (by decide +kernel)
  have fl21 := hts (.fieldLink RX5 21 "SlidTokens$Search" "far" "[I") (by decide +kernel)
  suffices K9 : ∀ (H : Heap) (locs : List Loc), va_P G vwCl [(aM, .inr (2, [.ref aF, .ref aL, .ref aX, .int vSz, .int vTl, .int vFo, .ref aN, .ref aC, .int vMv])), (aF, .inl (cy 0, 512, .inl fF)), (aL, .inl (cy 0, 512, .inl fL)), (aX, .inl (cy 0, 81, .inl fX)), (aC, .inl (cy 0, 81, .inl fC)), (aN, .inr (3, [.ref aR, .int vn])), (aR, .inl (cy 0, 9, .inl fN))] H → va_D A [(aM, .inr (2, [.ref aF, .ref aL, .ref aX, .int vSz, .int vTl, .int vFo, .ref aN, .ref aC, .int vMv])), (aF, .inl (cy 0, 512, .inl fF)), (aL, .inl (cy 0, 512, .inl fL)), (aX, .inl (cy 0, 81, .inl fX)), (aC, .inl (cy 0, 81, .inl fC)), (aN, .inr (3, [.ref aR, .int vn])), (aR, .inl (cy 0, 9, .inl fN))] → va_S A s.heap H locs → W p l e (headSpec wsX5_components rmX5_components_M).room s m args below meth c H locs 0 0 QM (F0 m 0 ls []) from K9 _ _ hP hD hS
  clear hP hD hS
  intro H locs hP hD hS
  refine lv_iconst (v := 0) hx hb dX5_components_0 (by decide) ?_
  refine lv_istore_n (lv' := [(1, .int 0), (0, .ref aM)]) hx hb dX5_components_1 rfl hl (by decide) rfl (fun ls hl => ?_)
  refine lv_iconst (v := 0) hx hb dX5_components_2 (by decide) ?_
  refine lv_istore_n (lv' := [(2, .int 0), (1, .int 0), (0, .ref aM)]) hx hb dX5_components_3 rfl hl (by decide) rfl (fun ls hl => ?_)
  obtain ⟨I4_8, u4_8, h04, hst4⟩ := h
  have key4 : ∀ (k9 : Nat) (y1 : Int32) (y2 : Int32) (z3 : Int32) (z4 : Int32) (f5 : Nat → Int32) (f6 : Nat → Int32) (f7 : Nat → Int32) (f8 : Nat → Int32), I4_8 y1 y2 z3 z4 f5 f6 f7 f8 → u4_8 y1 y2 z3 z4 f5 f6 f7 f8 < k9 → ∀ (H : Heap) (locs : List Loc), va_P G vwCl [(aM, .inr (2, [.ref aF, .ref aL, .ref aX, .int vSz, .int z3, .int z4, .ref aN, .ref aC, .int vMv])), (aF, .inl (cy 0, 512, .inl f5)), (aL, .inl (cy 0, 512, .inl f6)), (aX, .inl (cy 0, 81, .inl f7)), (aC, .inl (cy 0, 81, .inl f8)), (aN, .inr (3, [.ref aR, .int vn])), (aR, .inl (cy 0, 9, .inl fN))] H → va_D A [(aM, .inr (2, [.ref aF, .ref aL, .ref aX, .int vSz, .int z3, .int z4, .ref aN, .ref aC, .int vMv])), (aF, .inl (cy 0, 512, .inl f5)), (aL, .inl (cy 0, 512, .inl f6)), (aX, .inl (cy 0, 81, .inl f7)), (aC, .inl (cy 0, 81, .inl f8)), (aN, .inr (3, [.ref aR, .int vn])), (aR, .inl (cy 0, 9, .inl fN))] → va_S A s.heap H locs → ∀ (ls : Array Slot), lv_has ls 3 [(0, .ref aM), (1, .int y1), (2, .int y2)] → W p l e (headSpec wsX5_components rmX5_components_M).room s m args below meth c H locs 0 0 QM (F0 m 4 ls []) := by
    intro k9
    induction k9 with
    | zero =>
      intro y1 y2 z3 z4 f5 f6 f7 f8 hI9 hk9
      exact absurd hk9 (Nat.not_lt_zero _)
    | succ k9 ih4 =>
      intro y1 y2 z3 z4 f5 f6 f7 f8 hI9 hk4 H locs hP hD hS ls hl
      have h := hst4 y1 y2 z3 z4 f5 f6 f7 f8 hI9
      refine lv_iload_n hx hb dX5_components_4 rfl (lv_at hl 2 rfl) ?_
      refine lv_aload_n hx hb dX5_components_5 rfl (lv_at hl 0 rfl) ?_
      refine va_get (D := G) (ci := 2) (v := .int vSz) (C := RX2) (T := TX2) (N := 9) hx hb hts iwX2 hown hK.1 hP 0 rfl rfl 3 (by decide) fl9 (fun _ h9 => h9) rfl dX5_components_6 ?_
      refine lv_icmp_ge (tgt := 37) hx hb dX5_components_9 (by decide) (fun c9 => ?_) (fun c9 => ?_)
      · obtain ⟨h, -⟩ := h
        specialize h c9
        refine lv_iload_n hx hb dX5_components_37 rfl (lv_at hl 1 rfl) ?_
        rw [← hQe]
        exact W.iret (v := y1) hx hb hr (fun t ht hW => ⟨⟨y1, (z3, z4, f5, f6, f7, f8), rfl, h, by dsimp only; rw [ht]; exact hP⟩, hS.F ht⟩) hS.2.2 dX5_components_38
      · obtain ⟨-, h⟩ := h
        specialize h c9
        refine lv_aload_n hx hb dX5_components_12 rfl (lv_at hl 0 rfl) ?_
        refine va_get (D := G) (ci := 2) (v := .ref aF) (C := RX2) (T := TX2) (N := 9) hx hb hts iwX2 hown hK.1 hP 0 rfl rfl 0 (by decide) fl21 (fun _ h9 => h9) rfl dX5_components_13 ?_
        refine lv_iload_n hx hb dX5_components_16 rfl (lv_at hl 2 rfl) ?_
        obtain ⟨hi, h⟩ := h
        refine va_iald hx hb hK.1 hP 1 0 rfl rfl hi dX5_components_17 ?_
        refine lv_iconst (v := (-1)) hx hb dX5_components_18 (by decide) ?_
        refine lv_icmp_ne (tgt := 31) hx hb dX5_components_19 (by decide) (fun c10 => ?_) (fun c10 => ?_)
        · obtain ⟨-, h⟩ := h
          specialize h c10
          obtain ⟨x11, ex11⟩ : ∃ y : Int32, y = y2 + 1 := ⟨_, rfl⟩
          specialize h x11 ex11
          refine lv_iinc (v := x11) (lv' := [(2, .int x11), (0, .ref aM), (1, .int y1)]) hx hb dX5_components_31 hl (k := 2) rfl (by rw [ex11]; rfl) (by decide) rfl (fun ls hl => ?_)
          refine lv_goto (tgt := 4) hx hb dX5_components_34 (by decide) ?_
          exact ih4 y1 x11 z3 z4 f5 f6 f7 f8 h.1 (Nat.lt_of_lt_of_le h.2 (Nat.le_of_lt_succ hk4)) _ _ hP hD hS _ (lv_sub hl [1, 2, 0] rfl)
        · obtain ⟨h, -⟩ := h
          specialize h c10
          refine lv_aload_n hx hb dX5_components_22 rfl (lv_at hl 0 rfl) ?_
          refine lv_iload_n hx hb dX5_components_23 rfl (lv_at hl 2 rfl) ?_
          refine lv_iconst (v := (-1)) hx hb dX5_components_24 (by decide) ?_
          obtain ⟨Q12, hw9, h⟩ := h
          have hPc : va_P G vwCl [(aM, .inr (2, [.ref aF, .ref aL, .ref aX, .int vSz, .int z3, .int z4, .ref aN, .ref aC, .int vMv])), (aF, .inl (cy 0, 512, .inl f5)), (aL, .inl (cy 0, 512, .inl f6)), (aX, .inl (cy 0, 81, .inl f7)), (aC, .inl (cy 0, 81, .inl f8)), (aN, .inr (3, [.ref aR, .int vn])), (aR, .inl (cy 0, 9, .inl fN))] H := hP.sub [0, 1, 2, 3, 4, 5, 6] rfl
          have hDc : va_D A [(aM, .inr (2, [.ref aF, .ref aL, .ref aX, .int vSz, .int z3, .int z4, .ref aN, .ref aC, .int vMv])), (aF, .inl (cy 0, 512, .inl f5)), (aL, .inl (cy 0, 512, .inl f6)), (aX, .inl (cy 0, 81, .inl f7)), (aC, .inl (cy 0, 81, .inl f8)), (aN, .inr (3, [.ref aR, .int vn])), (aR, .inl (cy 0, 9, .inl fN))] := hD.sub [0, 1, 2, 3, 4, 5, 6] (by decide) rfl
          have hFc := va_free (wc := [(aM, .inr (2, [.ref aF, .ref aL, .ref aX, .int vSz, .int z3, .int z4, .ref aN, .ref aC, .int vMv])), (aF, .inl (cy 0, 512, .inl f5)), (aL, .inl (cy 0, 512, .inl f6)), (aX, .inl (cy 0, 81, .inl f7)), (aC, .inl (cy 0, 81, .inl f8)), (aN, .inr (3, [.ref aR, .int vn])), (aR, .inl (cy 0, 9, .inl fN))]) hD hS hA [0, 1, 2, 3, 4, 5, 6] rfl
          refine va_callv (va_runU (As := [.int y2, .int (-1)]) (rest := []) ⟨hx, hb, hml, hown, hts⟩ (ct_X5_spread_M l G cy aM aF aL aX aC aN aR H.size vSz z3 z4 vMv f5 f6 f7 f8 vn fN y2 (-1) Q12 hw9) (va_cwU 2 hts gX5_components_X5_spread_u39X2 rfl rfl rfl rfl (by decide +kernel) ⟨Nat.le_of_ble_eq_true rfl, Nat.le_of_ble_eq_true rfl⟩) (wP_V hK hP (ci := 2) (q0 := 0) rfl rfl hPc hDc) rfl rfl hl.1 rfl (lv_room (Nat.le_of_ble_eq_true rfl)) dX5_components_25 ⟨Nat.le_of_ble_eq_true rfl, Nat.le_of_ble_eq_true rfl⟩) hS (fun q9 _ h9 => hFc q9 h9) hFc (fun u9 t9 H locs ht9 hvm9 hw9 hB9 hz9 hk9 hS => ?_)
          obtain ⟨z14, z15, f16, f17, f18, f19⟩ := u9
          have hP : va_P G vwCl [(aM, .inr (2, [.ref aF, .ref aL, .ref aX, .int vSz, .int z14, .int z15, .ref aN, .ref aC, .int vMv])), (aF, .inl (cy 0, 512, .inl f16)), (aL, .inl (cy 0, 512, .inl f17)), (aX, .inl (cy 0, 81, .inl f18)), (aC, .inl (cy 0, 81, .inl f19)), (aN, .inr (3, [.ref aR, .int vn])), (aR, .inl (cy 0, 9, .inl fN))] H := P_back [0, 1, 2, 3, 4, 5, 6] [] 7 hP hD rfl rfl rfl rfl (by decide) (by decide) hk9 (by rw [← ht9]; exact hB9)
          have hD : va_D A [(aM, .inr (2, [.ref aF, .ref aL, .ref aX, .int vSz, .int z14, .int z15, .ref aN, .ref aC, .int vMv])), (aF, .inl (cy 0, 512, .inl f16)), (aL, .inl (cy 0, 512, .inl f17)), (aX, .inl (cy 0, 81, .inl f18)), (aC, .inl (cy 0, 81, .inl f19)), (aN, .inr (3, [.ref aR, .int vn])), (aR, .inl (cy 0, 9, .inl fN))] := D_same hD rfl
          specialize h z14 z15 f16 f17 f18 f19 hw9
          obtain ⟨x20, ex20⟩ : ∃ y : Int32, y = y1 + 1 := ⟨_, rfl⟩
          specialize h x20 ex20
          refine lv_iinc (v := x20) (lv' := [(1, .int x20), (0, .ref aM), (2, .int y2)]) hx hb dX5_components_28 hl (k := 1) rfl (by rw [ex20]; rfl) (by decide) rfl (fun ls hl => ?_)
          obtain ⟨x21, ex21⟩ : ∃ y : Int32, y = y2 + 1 := ⟨_, rfl⟩
          specialize h x21 ex21
          refine lv_iinc (v := x21) (lv' := [(2, .int x21), (1, .int x20), (0, .ref aM)]) hx hb dX5_components_31 hl (k := 2) rfl (by rw [ex21]; rfl) (by decide) rfl (fun ls hl => ?_)
          refine lv_goto (tgt := 4) hx hb dX5_components_34 (by decide) ?_
          exact ih4 x20 x21 z14 z15 f16 f17 f18 f19 h.1 (Nat.lt_of_lt_of_le h.2 (Nat.le_of_lt_succ hk4)) _ _ hP hD hS _ (lv_sub hl [2, 1, 0] rfl)
  exact key4 _ 0 0 vTl vFo fF fL fX fC h04 (Nat.lt_succ_self _) _ _ hP hD hS _ (lv_sub hl [2, 1, 0] rfl)

set_option maxHeartbeats 4000000 in
set_option maxRecDepth 100000 in
theorem ct_X2_begin (l : Launch) (G : va_G) (cy : Nat → ClassId) (aM aF aL aX aC aN aR : Nat) (sz : Nat) (vSz : Int32) (vTl : Int32) (vFo : Int32) (vMv : Int32) (fF : Nat → Int32) (fL : Nat → Int32) (fX : Nat → Int32) (fC : Nat → Int32) (vn : Int32) (fN : Nat → Int32) (p1 : Int32) (p2 : Int32) (p3 : Int32) (p4 : Int32) (Q : Int32 → Int32 → Int32 → (Nat → Int32) → Prop) (h : wp_X2_begin vSz vTl vMv fF vn fN p1 p2 p3 p4 Q) : Met l yX2_begin wsX2_begin rmX2_begin (va_Pc [.ref aM, .int p1, .int p2, .int p3, .int p4] (wP G cy sz [(aM, .inr (2, [.ref aF, .ref aL, .ref aX, .int vSz, .int vTl, .int vFo, .ref aN, .ref aC, .int vMv])), (aF, .inl (cy 0, 512, .inl fF)), (aL, .inl (cy 0, 512, .inl fL)), (aX, .inl (cy 0, 81, .inl fX)), (aC, .inl (cy 0, 81, .inl fC)), (aN, .inr (3, [.ref aR, .int vn])), (aR, .inl (cy 0, 9, .inl fN))])) (va_Qv (fun (u : Int32 × Int32 × Int32 × (Nat → Int32)) => Q u.1 u.2.1 u.2.2.1 u.2.2.2) (fun (u : Int32 × Int32 × Int32 × (Nat → Int32)) (t : State) => va_P G vwCl [(aM, .inr (2, [.ref aF, .ref aL, .ref aX, .int u.1, .int u.2.1, .int vFo, .ref aN, .ref aC, .int u.2.2.1])), (aF, .inl (cy 0, 512, .inl u.2.2.2)), (aL, .inl (cy 0, 512, .inl fL)), (aX, .inl (cy 0, 81, .inl fX)), (aC, .inl (cy 0, 81, .inl fC)), (aN, .inr (3, [.ref aR, .int vn])), (aR, .inl (cy 0, 9, .inl fN))] t.heap) (va_A [(aM, .inr (2, [.ref aF, .ref aL, .ref aX, .int vSz, .int vTl, .int vFo, .ref aN, .ref aC, .int vMv])), (aF, .inl (cy 0, 512, .inl fF)), (aL, .inl (cy 0, 512, .inl fL)), (aX, .inl (cy 0, 81, .inl fX)), (aC, .inl (cy 0, 81, .inl fC)), (aN, .inr (3, [.ref aR, .int vn])), (aR, .inl (cy 0, 9, .inl fN))] sz)) 0 0 (va_A [(aM, .inr (2, [.ref aF, .ref aL, .ref aX, .int vSz, .int vTl, .int vFo, .ref aN, .ref aC, .int vMv])), (aF, .inl (cy 0, 512, .inl fF)), (aL, .inl (cy 0, 512, .inl fL)), (aX, .inl (cy 0, 81, .inl fX)), (aC, .inl (cy 0, 81, .inl fC)), (aN, .inr (3, [.ref aR, .int vn])), (aR, .inl (cy 0, 9, .inl fN))] sz) := by
  unfold wp_X2_begin at h
  refine Met.ofW (cc := cX2_begin) (maxL := 7) (ret := none) (by decide) rfl ?_
  intro p e s m args below meth c s₁ B hml hv
  obtain ⟨hav, hsz, hP, hK, hD0⟩ := hv
  have hx := B.exec
  have hb := B.bytes
  have hr := B.returns
  have hts := atoms_spec (ws := wsX2_begin) B.pre
  have hown : s.vm.findClass RX2 = some m.cls := findClass_of_methodNamed B.named
  have hlocks := B.notSynchronized
  subst hsz
  have hD := hD0.self (sz := s.heap.size)
  generalize hAe : va_A [(aM, .inr (2, [.ref aF, .ref aL, .ref aX, .int vSz, .int vTl, .int vFo, .ref aN, .ref aC, .int vMv])), (aF, .inl (cy 0, 512, .inl fF)), (aL, .inl (cy 0, 512, .inl fL)), (aX, .inl (cy 0, 81, .inl fX)), (aC, .inl (cy 0, 81, .inl fC)), (aN, .inr (3, [.ref aR, .int vn])), (aR, .inl (cy 0, 9, .inl fN))] s.heap.size = A at hD ⊢
  have hA : ∀ q : Nat, s.heap.size ≤ q → A q := fun q h9 => by rw [← hAe]; exact Or.inr h9
  have hS : va_S A s.heap s.heap [] := va_S.rf
  have hl := lv_entry ([.ref aM, .int p1, .int p2, .int p3, .int p4]) (n := 7) (Nat.le_of_ble_eq_true rfl)
  rw [show entryFrame m args 7 = entryFrame m ([.ref aM, .int p1, .int p2, .int p3, .int p4] : List Value).toArray 7 by rw [hav], lg_entry_eq]
  generalize (lg_sl ([.ref aM, .int p1, .int p2, .int p3, .int p4]) ++ List.replicate (7 - (lg_sl ([.ref aM, .int p1, .int p2, .int p3, .int p4])).length) Slot.unset).toArray = ls at hl ⊢
  have hl : lv_has ls 7 [(0, .ref aM), (1, .int p1), (2, .int p2), (3, .int p3), (4, .int p4)] := hl
  generalize hQe : MQ below _ _ _ _ _ _ = QM
  have hP : va_P G vwCl [(aM, .inr (2, [.ref aF, .ref aL, .ref aX, .int vSz, .int vTl, .int vFo, .ref aN, .ref aC, .int vMv])), (aF, .inl (cy 0, 512, .inl fF)), (aL, .inl (cy 0, 512, .inl fL)), (aX, .inl (cy 0, 81, .inl fX)), (aC, .inl (cy 0, 81, .inl fC)), (aN, .inr (3, [.ref aR, .int vn])), (aR, .inl (cy 0, 9, .inl fN))] s.heap := hP
  have iwX2 : ∀ w ∈ wsX20, w ∈ wsX2_begin := by decide +kernel
  have fl15 := hts (.fieldLink RX2 15 "SlidTokens$Marks" "moves" "I") (by decide +kernel)
  have fl19 := hts (.fieldLink RX2 19 "SlidTokens$Marks" "net" "LSlidTokens$Net;") (by decide +kernel)
  have fl29 := hts (.fieldLink RX2 29 "SlidTokens$Marks" "size" "I") (by decide +kernel)
  have sf29 := hts (.sameField "SlidTokens$Marks" "SlidTokens$Search" "size" "I") (by decide +kernel)
  have fl32 := hts (.fieldLink RX2 32 "SlidTokens$Marks" "tail" "I") (by decide +kernel)
  have sf32 := hts (.sameField "SlidTokens$Marks" "SlidTokens$Search" "tail" "I") (by decide +kernel)
  have fl45 := hts (.fieldLink RX2 45 "SlidTokens$Marks" "far" "[I") (by decide +kernel)
  have sf45 := hts (.sameField "SlidTokens$Marks" "SlidTokens$Search" "far" "[I") (by decide +kernel)
  suffices K9 : ∀ (H : Heap) (locs : List Loc), va_P G vwCl [(aM, .inr (2, [.ref aF, .ref aL, .ref aX, .int vSz, .int vTl, .int vFo, .ref aN, .ref aC, .int vMv])), (aF, .inl (cy 0, 512, .inl fF)), (aL, .inl (cy 0, 512, .inl fL)), (aX, .inl (cy 0, 81, .inl fX)), (aC, .inl (cy 0, 81, .inl fC)), (aN, .inr (3, [.ref aR, .int vn])), (aR, .inl (cy 0, 9, .inl fN))] H → va_D A [(aM, .inr (2, [.ref aF, .ref aL, .ref aX, .int vSz, .int vTl, .int vFo, .ref aN, .ref aC, .int vMv])), (aF, .inl (cy 0, 512, .inl fF)), (aL, .inl (cy 0, 512, .inl fL)), (aX, .inl (cy 0, 81, .inl fX)), (aC, .inl (cy 0, 81, .inl fC)), (aN, .inr (3, [.ref aR, .int vn])), (aR, .inl (cy 0, 9, .inl fN))] → va_S A s.heap H locs → W p l e (headSpec wsX2_begin rmX2_begin).room s m args below meth c H locs 0 0 QM (F0 m 0 ls []) from K9 _ _ hP hD hS
  clear hP hD hS
  intro H locs hP hD hS
  refine lv_aload_n hx hb dX2_begin_0 rfl (lv_at hl 0 rfl) ?_
  refine lv_iload_n hx hb dX2_begin_1 rfl (lv_at hl 2 rfl) ?_
  refine va_put (D := G) (ci := 2) (v := .int p2) (ty := .int) (C := RX2) (T := TX2) (N := 9) hx hb hts iwX2 tyX2 tyX2_ok nmX2 hown hK.1 hP hD hS 0 rfl rfl 8 (by decide) fl15 (fun _ h9 => h9) rfl (by decide +kernel) rfl rfl (Nat.le_of_ble_eq_true rfl) dX2_begin_2 (fun H locs hP hD hS => ?_)
  have hP : va_P G vwCl [(aM, .inr (2, [.ref aF, .ref aL, .ref aX, .int vSz, .int vTl, .int vFo, .ref aN, .ref aC, .int p2])), (aF, .inl (cy 0, 512, .inl fF)), (aL, .inl (cy 0, 512, .inl fL)), (aX, .inl (cy 0, 81, .inl fX)), (aC, .inl (cy 0, 81, .inl fC)), (aN, .inr (3, [.ref aR, .int vn])), (aR, .inl (cy 0, 9, .inl fN))] H := hP
  have hD : va_D A [(aM, .inr (2, [.ref aF, .ref aL, .ref aX, .int vSz, .int vTl, .int vFo, .ref aN, .ref aC, .int p2])), (aF, .inl (cy 0, 512, .inl fF)), (aL, .inl (cy 0, 512, .inl fL)), (aX, .inl (cy 0, 81, .inl fX)), (aC, .inl (cy 0, 81, .inl fC)), (aN, .inr (3, [.ref aR, .int vn])), (aR, .inl (cy 0, 9, .inl fN))] := hD
  refine lv_aload_n hx hb dX2_begin_5 rfl (lv_at hl 0 rfl) ?_
  refine lv_aload_n hx hb dX2_begin_6 rfl (lv_at hl 0 rfl) ?_
  refine va_get (D := G) (ci := 2) (v := .ref aN) (C := RX2) (T := TX2) (N := 9) hx hb hts iwX2 hown hK.1 hP 0 rfl rfl 6 (by decide) fl19 (fun _ h9 => h9) rfl dX2_begin_7 ?_
  obtain ⟨Q1, hw9, h⟩ := h
  have hPc : va_P G vwCl [(aN, .inr (3, [.ref aR, .int vn])), (aR, .inl (cy 0, 9, .inl fN))] H := hP.sub [5, 6] rfl
  refine vp_callSi (va_Run.run (va_runV (As := []) (rest := [.ref aM]) ⟨hx, hb, hml, hown, hts⟩ (ct_X3_all l G cy aN aR vn fN Q1 hw9) (cwV 0 hts gX2_begin_X3_all rfl rfl rfl (by decide +kernel) ⟨Nat.le_of_ble_eq_true rfl, Nat.le_of_ble_eq_true rfl⟩) (rP_V hK hP (ci := 3) (q0 := 5) rfl rfl hPc) rfl rfl hl.1 rfl (lv_room (Nat.le_of_ble_eq_true rfl)) dX2_begin_10 ⟨Nat.le_of_ble_eq_true rfl, Nat.le_of_ble_eq_true rfl⟩)) (fun r2 er2 => ?_)
  specialize h r2 er2
  refine lv_iconst (v := 1) hx hb dX2_begin_13 (by decide) ?_
  refine lv_iadd hx hb dX2_begin_14 ?_
  refine lv_topi (fun x3 ex3 => ?_)
  specialize h x3 ex3
  refine va_put (D := G) (ci := 2) (v := .int x3) (ty := .int) (C := RX2) (T := TX2) (N := 9) hx hb hts iwX2 tyX2 tyX2_ok nmX2 hown hK.1 hP hD hS 0 rfl rfl 3 (by decide) fl29 (fun x9 h9 => u_same sf29 x9 h9) rfl (by decide +kernel) rfl rfl (Nat.le_of_ble_eq_true rfl) dX2_begin_15 (fun H locs hP hD hS => ?_)
  have hP : va_P G vwCl [(aM, .inr (2, [.ref aF, .ref aL, .ref aX, .int x3, .int vTl, .int vFo, .ref aN, .ref aC, .int p2])), (aF, .inl (cy 0, 512, .inl fF)), (aL, .inl (cy 0, 512, .inl fL)), (aX, .inl (cy 0, 81, .inl fX)), (aC, .inl (cy 0, 81, .inl fC)), (aN, .inr (3, [.ref aR, .int vn])), (aR, .inl (cy 0, 9, .inl fN))] H := hP
  have hD : va_D A [(aM, .inr (2, [.ref aF, .ref aL, .ref aX, .int x3, .int vTl, .int vFo, .ref aN, .ref aC, .int p2])), (aF, .inl (cy 0, 512, .inl fF)), (aL, .inl (cy 0, 512, .inl fL)), (aX, .inl (cy 0, 81, .inl fX)), (aC, .inl (cy 0, 81, .inl fC)), (aN, .inr (3, [.ref aR, .int vn])), (aR, .inl (cy 0, 9, .inl fN))] := hD
  refine lv_aload_n hx hb dX2_begin_18 rfl (lv_at hl 0 rfl) ?_
  refine lv_iconst (v := 0) hx hb dX2_begin_19 (by decide) ?_
  refine va_put (D := G) (ci := 2) (v := .int 0) (ty := .int) (C := RX2) (T := TX2) (N := 9) hx hb hts iwX2 tyX2 tyX2_ok nmX2 hown hK.1 hP hD hS 0 rfl rfl 4 (by decide) fl32 (fun x9 h9 => u_same sf32 x9 h9) rfl (by decide +kernel) rfl rfl (Nat.le_of_ble_eq_true rfl) dX2_begin_20 (fun H locs hP hD hS => ?_)
  have hP : va_P G vwCl [(aM, .inr (2, [.ref aF, .ref aL, .ref aX, .int x3, .int 0, .int vFo, .ref aN, .ref aC, .int p2])), (aF, .inl (cy 0, 512, .inl fF)), (aL, .inl (cy 0, 512, .inl fL)), (aX, .inl (cy 0, 81, .inl fX)), (aC, .inl (cy 0, 81, .inl fC)), (aN, .inr (3, [.ref aR, .int vn])), (aR, .inl (cy 0, 9, .inl fN))] H := hP
  have hD : va_D A [(aM, .inr (2, [.ref aF, .ref aL, .ref aX, .int x3, .int 0, .int vFo, .ref aN, .ref aC, .int p2])), (aF, .inl (cy 0, 512, .inl fF)), (aL, .inl (cy 0, 512, .inl fL)), (aX, .inl (cy 0, 81, .inl fX)), (aC, .inl (cy 0, 81, .inl fC)), (aN, .inr (3, [.ref aR, .int vn])), (aR, .inl (cy 0, 9, .inl fN))] := hD
  refine lv_iconst (v := 0) hx hb dX2_begin_23 (by decide) ?_
  refine lv_istore (lv' := [(5, .int 0), (0, .ref aM), (1, .int p1), (2, .int p2), (3, .int p3), (4, .int p4)]) hx hb dX2_begin_24 hl (by decide) rfl (fun ls hl => ?_)
  obtain ⟨I26_5, u26_5, h026, hst26⟩ := h
  have key26 : ∀ (k9 : Nat) (y4 : Int32) (f5 : Nat → Int32), I26_5 y4 f5 → u26_5 y4 f5 < k9 → ∀ (H : Heap) (locs : List Loc), va_P G vwCl [(aM, .inr (2, [.ref aF, .ref aL, .ref aX, .int x3, .int 0, .int vFo, .ref aN, .ref aC, .int p2])), (aF, .inl (cy 0, 512, .inl f5)), (aL, .inl (cy 0, 512, .inl fL)), (aX, .inl (cy 0, 81, .inl fX)), (aC, .inl (cy 0, 81, .inl fC)), (aN, .inr (3, [.ref aR, .int vn])), (aR, .inl (cy 0, 9, .inl fN))] H → va_D A [(aM, .inr (2, [.ref aF, .ref aL, .ref aX, .int x3, .int 0, .int vFo, .ref aN, .ref aC, .int p2])), (aF, .inl (cy 0, 512, .inl f5)), (aL, .inl (cy 0, 512, .inl fL)), (aX, .inl (cy 0, 81, .inl fX)), (aC, .inl (cy 0, 81, .inl fC)), (aN, .inr (3, [.ref aR, .int vn])), (aR, .inl (cy 0, 9, .inl fN))] → va_S A s.heap H locs → ∀ (ls : Array Slot), lv_has ls 7 [(0, .ref aM), (1, .int p1), (3, .int p3), (4, .int p4), (5, .int y4)] → W p l e (headSpec wsX2_begin rmX2_begin).room s m args below meth c H locs 0 0 QM (F0 m 26 ls []) := by
    intro k9
    induction k9 with
    | zero =>
      intro y4 f5 hI9 hk9
      exact absurd hk9 (Nat.not_lt_zero _)
    | succ k9 ih26 =>
      intro y4 f5 hI9 hk26 H locs hP hD hS ls hl
      have h := hst26 y4 f5 hI9
      refine lv_iload hx hb dX2_begin_26 (lv_at hl 4 rfl) ?_
      refine lv_aload_n hx hb dX2_begin_28 rfl (lv_at hl 0 rfl) ?_
      refine va_get (D := G) (ci := 2) (v := .int x3) (C := RX2) (T := TX2) (N := 9) hx hb hts iwX2 hown hK.1 hP 0 rfl rfl 3 (by decide) fl29 (fun x9 h9 => u_same sf29 x9 h9) rfl dX2_begin_29 ?_
      refine lv_icmp_ge (tgt := 85) hx hb dX2_begin_32 (by decide) (fun c6 => ?_) (fun c6 => ?_)
      · obtain ⟨h, -⟩ := h
        specialize h c6
        rw [← hQe]
        exact W.vret hx hb hr (fun t ht hW => ⟨⟨(x3, 0, p2, f5), rfl, h, by dsimp only; rw [ht]; exact hP⟩, hS.F ht⟩) hS.2.2 dX2_begin_85
      · obtain ⟨-, h⟩ := h
        specialize h c6
        refine lv_iload hx hb dX2_begin_35 (lv_at hl 4 rfl) ?_
        obtain ⟨Q7, hw9, h⟩ := h
        have hPc : va_P G vwCl [] H := P_nil
        refine vp_callSi (va_Run.run (va_runS (As := [.int y4]) (rest := []) ⟨hx, hb, hml, hown, hts⟩ (ct_J6_bitCount_0f7a4 l G cy y4 Q7 hw9) (va_cwS 1 hts gX2_begin_J6_bitCount_0f7a4 rfl rfl rfl (by decide +kernel) ⟨Nat.le_of_ble_eq_true rfl, Nat.le_of_ble_eq_true rfl⟩) (rP_S hK hPc) rfl rfl hl.1 rfl (lv_room (Nat.le_of_ble_eq_true rfl)) dX2_begin_37 ⟨Nat.le_of_ble_eq_true rfl, Nat.le_of_ble_eq_true rfl⟩)) (fun r8 er8 => ?_)
        specialize h r8 er8
        refine lv_iload_n hx hb dX2_begin_40 rfl (lv_at hl 2 rfl) ?_
        refine lv_iload hx hb dX2_begin_41 (lv_at hl 3 rfl) ?_
        obtain ⟨Q9, hw9, h⟩ := h
        have hPc : va_P G vwCl [] H := P_nil
        refine vp_callSi (va_Run.run (va_runSN (host := "SlidTokens") (As := [.int r8, .int p3, .int p4]) (rest := []) ⟨hx, hb, hml, hown, hts⟩ (ct_X8_isWithin l G cy r8 p3 p4 Q9 hw9) ⟨va_cnB 3 hts gX2_begin_X8_isWithin_n41 rfl rfl rfl hK.2.1 (hts (.initialized RX8) (by decide +kernel)) (by decide +kernel) ⟨Nat.le_of_ble_eq_true rfl, Nat.le_of_ble_eq_true rfl⟩, hts (.static yX8_isWithin) (by decide +kernel), trivial⟩ (rP_S hK hPc) rfl rfl hl.1 rfl (lv_room (Nat.le_of_ble_eq_true rfl)) dX2_begin_43 ⟨Nat.le_of_ble_eq_true rfl, Nat.le_of_ble_eq_true rfl⟩)) (fun r10 er10 => ?_)
        specialize h r10 er10
        refine lv_istore (lv' := [(6, .int r10), (0, .ref aM), (1, .int p1), (3, .int p3), (4, .int p4), (5, .int y4)]) hx hb dX2_begin_46 hl (by decide) rfl (fun ls hl => ?_)
        refine lv_aload_n hx hb dX2_begin_48 rfl (lv_at hl 1 rfl) ?_
        refine va_get (D := G) (ci := 2) (v := .ref aF) (C := RX2) (T := TX2) (N := 9) hx hb hts iwX2 hown hK.1 hP 0 rfl rfl 0 (by decide) fl45 (fun x9 h9 => u_same sf45 x9 h9) rfl dX2_begin_49 ?_
        refine lv_iload hx hb dX2_begin_52 (lv_at hl 5 rfl) ?_
        refine lv_iload hx hb dX2_begin_54 (lv_at hl 0 rfl) ?_
        refine lv_if_eq (tgt := 76) hx hb dX2_begin_56 (by decide) (fun c11 => ?_) (fun c11 => ?_)
        · obtain ⟨h, -⟩ := h
          specialize h c11
          refine lv_bipush (v := (-2)) hx hb dX2_begin_76 (by decide) ?_
          obtain ⟨hi, h⟩ := h
          refine va_iast hx hb hK.1 hP hD hS 1 0 rfl rfl hi dX2_begin_78 (fun H locs hP hD hS => ?_)
          obtain ⟨f12, ef12⟩ : ∃ z9 : Nat → Int32, z9 = upd f5 (y4 : Int32).toNatClampNeg (-2) := ⟨_, rfl⟩
          specialize h f12 ef12
          have hP : va_P G vwCl [(aM, .inr (2, [.ref aF, .ref aL, .ref aX, .int x3, .int 0, .int vFo, .ref aN, .ref aC, .int p2])), (aF, .inl (cy 0, 512, .inl f12)), (aL, .inl (cy 0, 512, .inl fL)), (aX, .inl (cy 0, 81, .inl fX)), (aC, .inl (cy 0, 81, .inl fC)), (aN, .inr (3, [.ref aR, .int vn])), (aR, .inl (cy 0, 9, .inl fN))] H := by rw [ef12]; exact hP
          have hD : va_D A [(aM, .inr (2, [.ref aF, .ref aL, .ref aX, .int x3, .int 0, .int vFo, .ref aN, .ref aC, .int p2])), (aF, .inl (cy 0, 512, .inl f12)), (aL, .inl (cy 0, 512, .inl fL)), (aX, .inl (cy 0, 81, .inl fX)), (aC, .inl (cy 0, 81, .inl fC)), (aN, .inr (3, [.ref aR, .int vn])), (aR, .inl (cy 0, 9, .inl fN))] := D_same hD rfl
          obtain ⟨x13, ex13⟩ : ∃ y : Int32, y = y4 + 1 := ⟨_, rfl⟩
          specialize h x13 ex13
          refine lv_iinc (v := x13) (lv' := [(5, .int x13), (6, .int r10), (0, .ref aM), (1, .int p1), (3, .int p3), (4, .int p4)]) hx hb dX2_begin_79 hl (k := 5) rfl (by rw [ex13]; rfl) (by decide) rfl (fun ls hl => ?_)
          refine lv_goto (tgt := 26) hx hb dX2_begin_82 (by decide) ?_
          exact ih26 x13 f12 h.1 (Nat.lt_of_lt_of_le h.2 (Nat.le_of_lt_succ hk26)) _ _ hP hD hS _ (lv_sub hl [2, 3, 4, 5, 0] rfl)
        · obtain ⟨-, h⟩ := h
          specialize h c11
          refine lv_aload_n hx hb dX2_begin_59 rfl (lv_at hl 1 rfl) ?_
          refine va_get (D := G) (ci := 2) (v := .ref aN) (C := RX2) (T := TX2) (N := 9) hx hb hts iwX2 hown hK.1 hP 0 rfl rfl 6 (by decide) fl19 (fun _ h9 => h9) rfl dX2_begin_60 ?_
          refine lv_iload_n hx hb dX2_begin_63 rfl (lv_at hl 2 rfl) ?_
          refine lv_iload hx hb dX2_begin_64 (lv_at hl 5 rfl) ?_
          obtain ⟨Q14, hw9, h⟩ := h
          have hPc : va_P G vwCl [(aN, .inr (3, [.ref aR, .int vn])), (aR, .inl (cy 0, 9, .inl fN))] H := hP.sub [5, 6] rfl
          refine vp_callSi (va_Run.run (va_runV (As := [.int p1, .int y4]) (rest := [.int y4, .ref aF]) ⟨hx, hb, hml, hown, hts⟩ (ct_X3_isLawful l G cy aN aR vn fN p1 y4 Q14 hw9) (cwV 2 hts gX2_begin_X3_isLawful rfl rfl rfl (by decide +kernel) ⟨Nat.le_of_ble_eq_true rfl, Nat.le_of_ble_eq_true rfl⟩) (rP_V hK hP (ci := 3) (q0 := 5) rfl rfl hPc) rfl rfl hl.1 rfl (lv_room (Nat.le_of_ble_eq_true rfl)) dX2_begin_66 ⟨Nat.le_of_ble_eq_true rfl, Nat.le_of_ble_eq_true rfl⟩)) (fun r15 er15 => ?_)
          specialize h r15 er15
          refine lv_if_eq (tgt := 76) hx hb dX2_begin_69 (by decide) (fun c16 => ?_) (fun c16 => ?_)
          · obtain ⟨h, -⟩ := h
            specialize h c16
            refine lv_bipush (v := (-2)) hx hb dX2_begin_76 (by decide) ?_
            obtain ⟨hi, h⟩ := h
            refine va_iast hx hb hK.1 hP hD hS 1 0 rfl rfl hi dX2_begin_78 (fun H locs hP hD hS => ?_)
            obtain ⟨f17, ef17⟩ : ∃ z9 : Nat → Int32, z9 = upd f5 (y4 : Int32).toNatClampNeg (-2) := ⟨_, rfl⟩
            specialize h f17 ef17
            have hP : va_P G vwCl [(aM, .inr (2, [.ref aF, .ref aL, .ref aX, .int x3, .int 0, .int vFo, .ref aN, .ref aC, .int p2])), (aF, .inl (cy 0, 512, .inl f17)), (aL, .inl (cy 0, 512, .inl fL)), (aX, .inl (cy 0, 81, .inl fX)), (aC, .inl (cy 0, 81, .inl fC)), (aN, .inr (3, [.ref aR, .int vn])), (aR, .inl (cy 0, 9, .inl fN))] H := by rw [ef17]; exact hP
            have hD : va_D A [(aM, .inr (2, [.ref aF, .ref aL, .ref aX, .int x3, .int 0, .int vFo, .ref aN, .ref aC, .int p2])), (aF, .inl (cy 0, 512, .inl f17)), (aL, .inl (cy 0, 512, .inl fL)), (aX, .inl (cy 0, 81, .inl fX)), (aC, .inl (cy 0, 81, .inl fC)), (aN, .inr (3, [.ref aR, .int vn])), (aR, .inl (cy 0, 9, .inl fN))] := D_same hD rfl
            obtain ⟨x18, ex18⟩ : ∃ y : Int32, y = y4 + 1 := ⟨_, rfl⟩
            specialize h x18 ex18
            refine lv_iinc (v := x18) (lv' := [(5, .int x18), (6, .int r10), (0, .ref aM), (1, .int p1), (3, .int p3), (4, .int p4)]) hx hb dX2_begin_79 hl (k := 5) rfl (by rw [ex18]; rfl) (by decide) rfl (fun ls hl => ?_)
            refine lv_goto (tgt := 26) hx hb dX2_begin_82 (by decide) ?_
            exact ih26 x18 f17 h.1 (Nat.lt_of_lt_of_le h.2 (Nat.le_of_lt_succ hk26)) _ _ hP hD hS _ (lv_sub hl [2, 3, 4, 5, 0] rfl)
          · obtain ⟨-, h⟩ := h
            specialize h c16
            refine lv_iconst (v := (-1)) hx hb dX2_begin_72 (by decide) ?_
            refine lv_goto (tgt := 78) hx hb dX2_begin_73 (by decide) ?_
            obtain ⟨hi, h⟩ := h
            refine va_iast hx hb hK.1 hP hD hS 1 0 rfl rfl hi dX2_begin_78 (fun H locs hP hD hS => ?_)
            obtain ⟨f19, ef19⟩ : ∃ z9 : Nat → Int32, z9 = upd f5 (y4 : Int32).toNatClampNeg (-1) := ⟨_, rfl⟩
            specialize h f19 ef19
            have hP : va_P G vwCl [(aM, .inr (2, [.ref aF, .ref aL, .ref aX, .int x3, .int 0, .int vFo, .ref aN, .ref aC, .int p2])), (aF, .inl (cy 0, 512, .inl f19)), (aL, .inl (cy 0, 512, .inl fL)), (aX, .inl (cy 0, 81, .inl fX)), (aC, .inl (cy 0, 81, .inl fC)), (aN, .inr (3, [.ref aR, .int vn])), (aR, .inl (cy 0, 9, .inl fN))] H := by rw [ef19]; exact hP
            have hD : va_D A [(aM, .inr (2, [.ref aF, .ref aL, .ref aX, .int x3, .int 0, .int vFo, .ref aN, .ref aC, .int p2])), (aF, .inl (cy 0, 512, .inl f19)), (aL, .inl (cy 0, 512, .inl fL)), (aX, .inl (cy 0, 81, .inl fX)), (aC, .inl (cy 0, 81, .inl fC)), (aN, .inr (3, [.ref aR, .int vn])), (aR, .inl (cy 0, 9, .inl fN))] := D_same hD rfl
            obtain ⟨x20, ex20⟩ : ∃ y : Int32, y = y4 + 1 := ⟨_, rfl⟩
            specialize h x20 ex20
            refine lv_iinc (v := x20) (lv' := [(5, .int x20), (6, .int r10), (0, .ref aM), (1, .int p1), (3, .int p3), (4, .int p4)]) hx hb dX2_begin_79 hl (k := 5) rfl (by rw [ex20]; rfl) (by decide) rfl (fun ls hl => ?_)
            refine lv_goto (tgt := 26) hx hb dX2_begin_82 (by decide) ?_
            exact ih26 x20 f19 h.1 (Nat.lt_of_lt_of_le h.2 (Nat.le_of_lt_succ hk26)) _ _ hP hD hS _ (lv_sub hl [2, 3, 4, 5, 0] rfl)
  exact key26 _ 0 fF h026 (Nat.lt_succ_self _) _ _ hP hD hS _ (lv_sub hl [1, 2, 4, 5, 0] rfl)
