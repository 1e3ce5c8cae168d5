set_option maxHeartbeats 4000000 in
set_option maxRecDepth 100000 in
theorem ct_X2_following (l : Launch) (G : va_G) (cy : Nat → ClassId) (aM aF aL aX aC aN aR : Nat) (sz : Nat) (vSz : Int32) (vTl : Int32) (vFo : Int32) (vMv : Int32) (fF : Nat → Int32) (fL : Nat → Int32) (fX : Nat → Int32) (fC : Nat → Int32) (vn : Int32) (fN : Nat → Int32) (p1 : Int32) (p2 : Int32) (Q : Int32 → Int32 → Int32 → (Nat → Int32) → (Nat → Int32) → (Nat → Int32) → (Nat → Int32) → Prop) (h : wp_X2_following vSz vTl vFo vMv fF fL fX fC vn fN p1 p2 Q) : Met l yX2_following wsX2_following rmX2_following (va_Pc [.ref aM, .int p1, .int p2] (wP G cy sz [(aM, .inr (2, [.ref aF, .ref aL, .ref aX, .ref aC, .int vSz, .int vTl, .int vFo, .ref aN, .int vMv])), (aF, .inl (cy 0, 512, .inl fF)), (aL, .inl (cy 0, 512, .inl fL)), (aX, .inl (cy 0, 81, .inl fX)), (aC, .inl (cy 0, 81, .inl fC)), (aN, .inr (3, [.ref aR, .int vn])), (aR, .inl (cy 0, 9, .inl fN))])) (va_Qi (fun (r : Int32) (u : Int32 × Int32 × (Nat → Int32) × (Nat → Int32) × (Nat → Int32) × (Nat → Int32)) => Q r u.1 u.2.1 u.2.2.1 u.2.2.2.1 u.2.2.2.2.1 u.2.2.2.2.2) (fun (u : Int32 × Int32 × (Nat → Int32) × (Nat → Int32) × (Nat → Int32) × (Nat → Int32)) (t : State) => va_P G vwCl [(aM, .inr (2, [.ref aF, .ref aL, .ref aX, .ref aC, .int vSz, .int u.1, .int u.2.1, .ref aN, .int vMv])), (aF, .inl (cy 0, 512, .inl u.2.2.1)), (aL, .inl (cy 0, 512, .inl u.2.2.2.1)), (aX, .inl (cy 0, 81, .inl u.2.2.2.2.1)), (aC, .inl (cy 0, 81, .inl u.2.2.2.2.2)), (aN, .inr (3, [.ref aR, .int vn])), (aR, .inl (cy 0, 9, .inl fN))] t.heap) (va_A [(aM, .inr (2, [.ref aF, .ref aL, .ref aX, .ref aC, .int vSz, .int vTl, .int vFo, .ref aN, .int vMv])), (aF, .inl (cy 0, 512, .inl fF)), (aL, .inl (cy 0, 512, .inl fL)), (aX, .inl (cy 0, 81, .inl fX)), (aC, .inl (cy 0, 81, .inl fC)), (aN, .inr (3, [.ref aR, .int vn])), (aR, .inl (cy 0, 9, .inl fN))] sz)) 0 0 (va_A [(aM, .inr (2, [.ref aF, .ref aL, .ref aX, .ref aC, .int vSz, .int vTl, .int vFo, .ref aN, .int vMv])), (aF, .inl (cy 0, 512, .inl fF)), (aL, .inl (cy 0, 512, .inl fL)), (aX, .inl (cy 0, 81, .inl fX)), (aC, .inl (cy 0, 81, .inl fC)), (aN, .inr (3, [.ref aR, .int vn])), (aR, .inl (cy 0, 9, .inl fN))] sz) := by
  unfold wp_X2_following at h
  refine Met.ofW (cc := cX2_following) (maxL := 6) (ret := (some .int)) (by decide) rfl ?_
  intro p e s m args below meth c s₁ B hml hv
  obtain ⟨hav, hsz, hP, hK, hD0⟩ := hv
  have hx := B.exec
  have hb := B.bytes
  have hr := B.returns
  have hts := atoms_spec (ws := wsX2_following) B.pre
  have hown : s.vm.findClass RX2 = some m.cls := findClass_of_methodNamed B.named
  have hlocks := B.notSynchronized
  subst hsz
  have hD := hD0.self (sz := s.heap.size)
  generalize hAe : va_A [(aM, .inr (2, [.ref aF, .ref aL, .ref aX, .ref aC, .int vSz, .int vTl, .int vFo, .ref aN, .int vMv])), (aF, .inl (cy 0, 512, .inl fF)), (aL, .inl (cy 0, 512, .inl fL)), (aX, .inl (cy 0, 81, .inl fX)), (aC, .inl (cy 0, 81, .inl fC)), (aN, .inr (3, [.ref aR, .int vn])), (aR, .inl (cy 0, 9, .inl fN))] s.heap.size = A at hD ⊢
  have hA : ∀ q : Nat, s.heap.size ≤ q → A q := fun q h9 => by rw [← hAe]; exact Or.inr h9
  have hS : va_S A s.heap s.heap [] := va_S.rf
  have hl := lv_entry ([.ref aM, .int p1, .int p2]) (n := 6) (Nat.le_of_ble_eq_true rfl)
  rw [show entryFrame m args 6 = entryFrame m ([.ref aM, .int p1, .int p2] : List Value).toArray 6 by rw [hav], lg_entry_eq]
  generalize (lg_sl ([.ref aM, .int p1, .int p2]) ++ List.replicate (6 - (lg_sl ([.ref aM, .int p1, .int p2])).length) Slot.unset).toArray = ls at hl ⊢
  have hl : lv_has ls 6 [(0, .ref aM), (1, .int p1), (2, .int p2)] := hl
  generalize hQe : MQ below _ _ _ _ _ _ = QM
  have hP : va_P G vwCl [(aM, .inr (2, [.ref aF, .ref aL, .ref aX, .ref aC, .int vSz, .int vTl, .int vFo, .ref aN, .int vMv])), (aF, .inl (cy 0, 512, .inl fF)), (aL, .inl (cy 0, 512, .inl fL)), (aX, .inl (cy 0, 81, .inl fX)), (aC, .inl (cy 0, 81, .inl fC)), (aN, .inr (3, [.ref aR, .int vn])), (aR, .inl (cy 0, 9, .inl fN))] s.heap := hP
  have iwX2 : ∀ w ∈ wsX20, w ∈ wsX2_following := by decide +kernel
  have fl49 := hts (.fieldLink RX2 49 "SlidTokens$Marks" "found" "I") (by decide +kernel)
  have sf49 := hts (.sameField "SlidTokens$Marks" "SlidTokens$Search" "found" "I") (by decide +kernel)
  have fl41 := hts (.fieldLink RX2 41 "SlidTokens$Marks" "far" "[I") (by decide +kernel)
  have sf41 := hts (.sameField "SlidTokens$Marks" "SlidTokens$Search" "far" "[I") (by decide +kernel)
  have fl72 := hts (.fieldLink RX2 72 "SlidTokens$Marks" "next" "[I") (by decide +kernel)
  have sf72 := hts (.sameField "SlidTokens$Marks" "SlidTokens$Search" "next" "[I") (by decide +kernel)
  suffices K9 : ∀ (H : Heap) (locs : List Loc), va_P G vwCl [(aM, .inr (2, [.ref aF, .ref aL, .ref aX, .ref aC, .int vSz, .int vTl, .int vFo, .ref aN, .int vMv])), (aF, .inl (cy 0, 512, .inl fF)), (aL, .inl (cy 0, 512, .inl fL)), (aX, .inl (cy 0, 81, .inl fX)), (aC, .inl (cy 0, 81, .inl fC)), (aN, .inr (3, [.ref aR, .int vn])), (aR, .inl (cy 0, 9, .inl fN))] H → va_D A [(aM, .inr (2, [.ref aF, .ref aL, .ref aX, .ref aC, .int vSz, .int vTl, .int vFo, .ref aN, .int vMv])), (aF, .inl (cy 0, 512, .inl fF)), (aL, .inl (cy 0, 512, .inl fL)), (aX, .inl (cy 0, 81, .inl fX)), (aC, .inl (cy 0, 81, .inl fC)), (aN, .inr (3, [.ref aR, .int vn])), (aR, .inl (cy 0, 9, .inl fN))] → va_S A s.heap H locs → W p l e (headSpec wsX2_following rmX2_following).room s m args below meth c H locs 0 0 QM (F0 m 0 ls []) from K9 _ _ hP hD hS
  clear hP hD hS
  intro H locs hP hD hS
  refine lv_aload_n hx hb dX2_following_0 rfl (lv_at hl 0 rfl) ?_
  refine lv_iload_n hx hb dX2_following_1 rfl (lv_at hl 1 rfl) ?_
  refine lv_iload_n hx hb dX2_following_2 rfl (lv_at hl 2 rfl) ?_
  obtain ⟨Q1, hw9, h⟩ := h
  have hPc : va_P G vwCl [(aM, .inr (2, [.ref aF, .ref aL, .ref aX, .ref aC, .int vSz, .int vTl, .int vFo, .ref aN, .int vMv])), (aF, .inl (cy 0, 512, .inl fF)), (aL, .inl (cy 0, 512, .inl fL)), (aX, .inl (cy 0, 81, .inl fX)), (aC, .inl (cy 0, 81, .inl fC)), (aN, .inr (3, [.ref aR, .int vn])), (aR, .inl (cy 0, 9, .inl fN))] H := hP.sub [0, 1, 2, 3, 4, 5, 6] rfl
  have hDc : va_D A [(aM, .inr (2, [.ref aF, .ref aL, .ref aX, .ref aC, .int vSz, .int vTl, .int vFo, .ref aN, .int vMv])), (aF, .inl (cy 0, 512, .inl fF)), (aL, .inl (cy 0, 512, .inl fL)), (aX, .inl (cy 0, 81, .inl fX)), (aC, .inl (cy 0, 81, .inl fC)), (aN, .inr (3, [.ref aR, .int vn])), (aR, .inl (cy 0, 9, .inl fN))] := hD.sub [0, 1, 2, 3, 4, 5, 6] (by decide) rfl
  have hFc := va_free (wc := [(aM, .inr (2, [.ref aF, .ref aL, .ref aX, .ref aC, .int vSz, .int vTl, .int vFo, .ref aN, .int vMv])), (aF, .inl (cy 0, 512, .inl fF)), (aL, .inl (cy 0, 512, .inl fL)), (aX, .inl (cy 0, 81, .inl fX)), (aC, .inl (cy 0, 81, .inl fC)), (aN, .inr (3, [.ref aR, .int vn])), (aR, .inl (cy 0, 9, .inl fN))]) hD hS hA [0, 1, 2, 3, 4, 5, 6] rfl
  refine va_calli (va_runU (As := [.int p1, .int p2]) (rest := []) ⟨hx, hb, hml, hown, hts⟩ (ct_X5_fewest_M l G cy aM aF aL aX aC aN aR H.size vSz vTl vFo vMv fF fL fX fC vn fN p1 p2 Q1 hw9) (va_cwU 2 hts gX2_following_X5_fewest_u64X2 rfl rfl rfl rfl (by decide +kernel) ⟨Nat.le_of_ble_eq_true rfl, Nat.le_of_ble_eq_true rfl⟩) (wP_V hK hP (ci := 2) (q0 := 0) rfl rfl hPc hDc) rfl rfl hl.1 rfl (lv_room (Nat.le_of_ble_eq_true rfl)) dX2_following_3 ⟨Nat.le_of_ble_eq_true rfl, Nat.le_of_ble_eq_true rfl⟩) hS (fun q9 _ h9 => hFc q9 h9) hFc (fun r2 u9 t9 H locs ht9 hvm9 hw9 hB9 hz9 hk9 hS => ?_)
  obtain ⟨z3, z4, f5, f6, f7, f8⟩ := u9
  have hP : va_P G vwCl [(aM, .inr (2, [.ref aF, .ref aL, .ref aX, .ref aC, .int vSz, .int z3, .int z4, .ref aN, .int vMv])), (aF, .inl (cy 0, 512, .inl f5)), (aL, .inl (cy 0, 512, .inl f6)), (aX, .inl (cy 0, 81, .inl f7)), (aC, .inl (cy 0, 81, .inl f8)), (aN, .inr (3, [.ref aR, .int vn])), (aR, .inl (cy 0, 9, .inl fN))] H := P_back [0, 1, 2, 3, 4, 5, 6] [] 7 hP hD rfl rfl rfl rfl (by decide) (by decide) hk9 (by rw [← ht9]; exact hB9)
  have hD : va_D A [(aM, .inr (2, [.ref aF, .ref aL, .ref aX, .ref aC, .int vSz, .int z3, .int z4, .ref aN, .int vMv])), (aF, .inl (cy 0, 512, .inl f5)), (aL, .inl (cy 0, 512, .inl f6)), (aX, .inl (cy 0, 81, .inl f7)), (aC, .inl (cy 0, 81, .inl f8)), (aN, .inr (3, [.ref aR, .int vn])), (aR, .inl (cy 0, 9, .inl fN))] := D_same hD rfl
  specialize h r2 z3 z4 f5 f6 f7 f8 hw9
  refine lv_istore_n (lv' := [(3, .int r2), (0, .ref aM), (1, .int p1), (2, .int p2)]) hx hb dX2_following_6 rfl hl (by decide) rfl (fun ls hl => ?_)
  refine lv_iload_n hx hb dX2_following_7 rfl (lv_at hl 0 rfl) ?_
  refine lv_if_gt (tgt := 14) hx hb dX2_following_8 (by decide) (fun c9 => ?_) (fun c9 => ?_)
  · obtain ⟨h, -⟩ := h
    specialize h c9
    refine lv_aload_n hx hb dX2_following_14 rfl (lv_at hl 1 rfl) ?_
    refine lv_iload_n hx hb dX2_following_15 rfl (lv_at hl 2 rfl) ?_
    obtain ⟨Q10, hw9, h⟩ := h
    have hPc : va_P G vwCl [(aM, .inr (2, [.ref aF, .ref aL, .ref aX, .ref aC, .int vSz, .int z3, .int z4, .ref aN, .int vMv])), (aF, .inl (cy 0, 512, .inl f5)), (aL, .inl (cy 0, 512, .inl f6)), (aX, .inl (cy 0, 81, .inl f7)), (aC, .inl (cy 0, 81, .inl f8)), (aN, .inr (3, [.ref aR, .int vn])), (aR, .inl (cy 0, 9, .inl fN))] H := hP.sub [0, 1, 2, 3, 4, 5, 6] rfl
    have hDc : va_D A [(aM, .inr (2, [.ref aF, .ref aL, .ref aX, .ref aC, .int vSz, .int z3, .int z4, .ref aN, .int vMv])), (aF, .inl (cy 0, 512, .inl f5)), (aL, .inl (cy 0, 512, .inl f6)), (aX, .inl (cy 0, 81, .inl f7)), (aC, .inl (cy 0, 81, .inl f8)), (aN, .inr (3, [.ref aR, .int vn])), (aR, .inl (cy 0, 9, .inl fN))] := hD.sub [0, 1, 2, 3, 4, 5, 6] (by decide) rfl
    have hFc := va_free (wc := [(aM, .inr (2, [.ref aF, .ref aL, .ref aX, .ref aC, .int vSz, .int z3, .int z4, .ref aN, .int vMv])), (aF, .inl (cy 0, 512, .inl f5)), (aL, .inl (cy 0, 512, .inl f6)), (aX, .inl (cy 0, 81, .inl f7)), (aC, .inl (cy 0, 81, .inl f8)), (aN, .inr (3, [.ref aR, .int vn])), (aR, .inl (cy 0, 9, .inl fN))]) hD hS hA [0, 1, 2, 3, 4, 5, 6] rfl
    refine va_callv (va_runV (As := [.int p1]) (rest := []) ⟨hx, hb, hml, hown, hts⟩ (ct_X2_gather l G cy aM aF aL aX aC aN aR H.size vSz z3 z4 vMv f5 f6 f7 f8 vn fN p1 Q10 hw9) (cwV 1 hts gX2_following_X2_gather rfl rfl rfl (by decide +kernel) ⟨Nat.le_of_ble_eq_true rfl, Nat.le_of_ble_eq_true rfl⟩) (wP_V hK hP (ci := 2) (q0 := 0) rfl rfl hPc hDc) rfl rfl hl.1 rfl (lv_room (Nat.le_of_ble_eq_true rfl)) dX2_following_16 ⟨Nat.le_of_ble_eq_true rfl, Nat.le_of_ble_eq_true rfl⟩) hS (fun q9 _ h9 => hFc q9 h9) hFc (fun u9 t9 H locs ht9 hvm9 hw9 hB9 hz9 hk9 hS => ?_)
    obtain ⟨z12, f13, f14⟩ := u9
    have hP : va_P G vwCl [(aM, .inr (2, [.ref aF, .ref aL, .ref aX, .ref aC, .int vSz, .int z3, .int z12, .ref aN, .int vMv])), (aF, .inl (cy 0, 512, .inl f5)), (aL, .inl (cy 0, 512, .inl f6)), (aX, .inl (cy 0, 81, .inl f13)), (aC, .inl (cy 0, 81, .inl f14)), (aN, .inr (3, [.ref aR, .int vn])), (aR, .inl (cy 0, 9, .inl fN))] H := P_back [0, 1, 2, 3, 4, 5, 6] [] 7 hP hD rfl rfl rfl rfl (by decide) (by decide) hk9 (by rw [← ht9]; exact hB9)
    have hD : va_D A [(aM, .inr (2, [.ref aF, .ref aL, .ref aX, .ref aC, .int vSz, .int z3, .int z12, .ref aN, .int vMv])), (aF, .inl (cy 0, 512, .inl f5)), (aL, .inl (cy 0, 512, .inl f6)), (aX, .inl (cy 0, 81, .inl f13)), (aC, .inl (cy 0, 81, .inl f14)), (aN, .inr (3, [.ref aR, .int vn])), (aR, .inl (cy 0, 9, .inl fN))] := D_same hD rfl
    specialize h z12 f13 f14 hw9
    refine lv_bipush (v := (-9)) hx hb dX2_following_19 (by decide) ?_
    refine lv_istore (lv' := [(4, .int (-9)), (3, .int r2), (0, .ref aM), (1, .int p1), (2, .int p2)]) hx hb dX2_following_21 hl (by decide) rfl (fun ls hl => ?_)
    refine lv_iconst (v := 0) hx hb dX2_following_23 (by decide) ?_
    refine lv_istore (lv' := [(5, .int 0), (4, .int (-9)), (3, .int r2), (0, .ref aM), (1, .int p1), (2, .int p2)]) hx hb dX2_following_24 hl (by decide) rfl (fun ls hl => ?_)
    obtain ⟨I26_16, u26_16, h026, hst26⟩ := h
    have key26 : ∀ (k9 : Nat) (y15 : Int32) (y16 : Int32), I26_16 y15 y16 → u26_16 y15 y16 < k9 → ∀ (H : Heap) (locs : List Loc), va_P G vwCl [(aM, .inr (2, [.ref aF, .ref aL, .ref aX, .ref aC, .int vSz, .int z3, .int z12, .ref aN, .int vMv])), (aF, .inl (cy 0, 512, .inl f5)), (aL, .inl (cy 0, 512, .inl f6)), (aX, .inl (cy 0, 81, .inl f13)), (aC, .inl (cy 0, 81, .inl f14)), (aN, .inr (3, [.ref aR, .int vn])), (aR, .inl (cy 0, 9, .inl fN))] H → va_D A [(aM, .inr (2, [.ref aF, .ref aL, .ref aX, .ref aC, .int vSz, .int z3, .int z12, .ref aN, .int vMv])), (aF, .inl (cy 0, 512, .inl f5)), (aL, .inl (cy 0, 512, .inl f6)), (aX, .inl (cy 0, 81, .inl f13)), (aC, .inl (cy 0, 81, .inl f14)), (aN, .inr (3, [.ref aR, .int vn])), (aR, .inl (cy 0, 9, .inl fN))] → va_S A s.heap H locs → ∀ (ls : Array Slot), lv_has ls 6 [(0, .ref aM), (3, .int r2), (4, .int y15), (5, .int y16)] → W p l e (headSpec wsX2_following rmX2_following).room s m args below meth c H locs 0 0 QM (F0 m 26 ls []) := by
      intro k9
      induction k9 with
      | zero =>
        intro y15 y16 hI9 hk9
        exact absurd hk9 (Nat.not_lt_zero _)
      | succ k9 ih26 =>
        intro y15 y16 hI9 hk26 H locs hP hD hS ls hl
        have h := hst26 y15 y16 hI9
        refine lv_iload hx hb dX2_following_26 (lv_at hl 3 rfl) ?_
        refine lv_aload_n hx hb dX2_following_28 rfl (lv_at hl 0 rfl) ?_
        refine va_get (D := G) (ci := 2) (v := .int z12) (C := RX2) (T := TX2) (N := 9) hx hb hts iwX2 hown hK.1 hP 0 rfl rfl 6 (by decide) fl49 (fun x9 h9 => u_same sf49 x9 h9) rfl dX2_following_29 ?_
        refine lv_icmp_ge (tgt := 87) hx hb dX2_following_32 (by decide) (fun c17 => ?_) (fun c17 => ?_)
        · obtain ⟨h, -⟩ := h
          specialize h c17
          refine lv_iload hx hb dX2_following_87 (lv_at hl 2 rfl) ?_
          rw [← hQe]
          exact W.iret (v := y15) hx hb hr (fun t ht hW => ⟨⟨y15, (z3, z12, f5, f6, f13, f14), rfl, h, by dsimp only; rw [ht]; exact hP⟩, hS.F ht⟩) hS.2.2 dX2_following_89
        · obtain ⟨-, h⟩ := h
          specialize h c17
          refine lv_aload_n hx hb dX2_following_35 rfl (lv_at hl 0 rfl) ?_
          refine va_get (D := G) (ci := 2) (v := .ref aF) (C := RX2) (T := TX2) (N := 9) hx hb hts iwX2 hown hK.1 hP 0 rfl rfl 0 (by decide) fl41 (fun x9 h9 => u_same sf41 x9 h9) rfl dX2_following_36 ?_
          refine lv_aload_n hx hb dX2_following_39 rfl (lv_at hl 0 rfl) ?_
          refine va_get (D := G) (ci := 2) (v := .ref aX) (C := RX2) (T := TX2) (N := 9) hx hb hts iwX2 hown hK.1 hP 0 rfl rfl 2 (by decide) fl72 (fun x9 h9 => u_same sf72 x9 h9) rfl dX2_following_40 ?_
          refine lv_iload hx hb dX2_following_43 (lv_at hl 3 rfl) ?_
          obtain ⟨hi, h⟩ := h
          refine va_iald hx hb hK.1 hP 3 0 rfl rfl hi dX2_following_45 ?_
          obtain ⟨hi, h⟩ := h
          refine va_iald hx hb hK.1 hP 1 0 rfl rfl hi dX2_following_46 ?_
          refine lv_iload_n hx hb dX2_following_47 rfl (lv_at hl 1 rfl) ?_
          refine lv_iconst (v := 1) hx hb dX2_following_48 (by decide) ?_
          refine lv_isub hx hb dX2_following_49 ?_
          refine lv_icmp_ne (tgt := 81) hx hb dX2_following_50 (by decide) (fun c18 => ?_) (fun c18 => ?_)
          · obtain ⟨-, h⟩ := h
            specialize h c18
            obtain ⟨x19, ex19⟩ : ∃ y : Int32, y = y16 + 1 := ⟨_, rfl⟩
            specialize h x19 ex19
            refine lv_iinc (v := x19) (lv' := [(5, .int x19), (0, .ref aM), (3, .int r2), (4, .int y15)]) hx hb dX2_following_81 hl (k := 3) rfl (by rw [ex19]; rfl) (by decide) rfl (fun ls hl => ?_)
            refine lv_goto (tgt := 26) hx hb dX2_following_84 (by decide) ?_
            exact ih26 y15 x19 h.1 (Nat.lt_of_lt_of_le h.2 (Nat.le_of_lt_succ hk26)) _ _ hP hD hS _ (lv_sub hl [1, 2, 3, 0] rfl)
          · obtain ⟨h, -⟩ := h
            specialize h c18
            refine lv_iload hx hb dX2_following_53 (lv_at hl 2 rfl) ?_
            refine lv_bipush (v := (-9)) hx hb dX2_following_55 (by decide) ?_
            refine lv_icmp_eq (tgt := 72) hx hb dX2_following_57 (by decide) (fun c20 => ?_) (fun c20 => ?_)
            · obtain ⟨h, -⟩ := h
              specialize h c20
              refine lv_aload_n hx hb dX2_following_72 rfl (lv_at hl 0 rfl) ?_
              refine va_get (D := G) (ci := 2) (v := .ref aX) (C := RX2) (T := TX2) (N := 9) hx hb hts iwX2 hown hK.1 hP 0 rfl rfl 2 (by decide) fl72 (fun x9 h9 => u_same sf72 x9 h9) rfl dX2_following_73 ?_
              refine lv_iload hx hb dX2_following_76 (lv_at hl 3 rfl) ?_
              obtain ⟨hi, h⟩ := h
              refine va_iald hx hb hK.1 hP 3 0 rfl rfl hi dX2_following_78 ?_
              refine lv_topi (fun x21 ex21 => ?_)
              specialize h x21 ex21
              refine lv_istore (lv' := [(4, .int x21), (0, .ref aM), (3, .int r2), (5, .int y16)]) hx hb dX2_following_79 hl (by decide) rfl (fun ls hl => ?_)
              obtain ⟨x22, ex22⟩ : ∃ y : Int32, y = y16 + 1 := ⟨_, rfl⟩
              specialize h x22 ex22
              refine lv_iinc (v := x22) (lv' := [(5, .int x22), (4, .int x21), (0, .ref aM), (3, .int r2)]) hx hb dX2_following_81 hl (k := 3) rfl (by rw [ex22]; rfl) (by decide) rfl (fun ls hl => ?_)
              refine lv_goto (tgt := 26) hx hb dX2_following_84 (by decide) ?_
              exact ih26 x21 x22 h.1 (Nat.lt_of_lt_of_le h.2 (Nat.le_of_lt_succ hk26)) _ _ hP hD hS _ (lv_sub hl [2, 3, 1, 0] rfl)
            · obtain ⟨-, h⟩ := h
              specialize h c20
              refine lv_aload_n hx hb dX2_following_60 rfl (lv_at hl 0 rfl) ?_
              refine va_get (D := G) (ci := 2) (v := .ref aX) (C := RX2) (T := TX2) (N := 9) hx hb hts iwX2 hown hK.1 hP 0 rfl rfl 2 (by decide) fl72 (fun x9 h9 => u_same sf72 x9 h9) rfl dX2_following_61 ?_
              refine lv_iload hx hb dX2_following_64 (lv_at hl 3 rfl) ?_
              obtain ⟨hi, h⟩ := h
              refine va_iald hx hb hK.1 hP 3 0 rfl rfl hi dX2_following_66 ?_
              refine lv_iload hx hb dX2_following_67 (lv_at hl 2 rfl) ?_
              refine lv_icmp_ge (tgt := 81) hx hb dX2_following_69 (by decide) (fun c23 => ?_) (fun c23 => ?_)
              · obtain ⟨h, -⟩ := h
                specialize h c23
                obtain ⟨x24, ex24⟩ : ∃ y : Int32, y = y16 + 1 := ⟨_, rfl⟩
                specialize h x24 ex24
                refine lv_iinc (v := x24) (lv' := [(5, .int x24), (0, .ref aM), (3, .int r2), (4, .int y15)]) hx hb dX2_following_81 hl (k := 3) rfl (by rw [ex24]; rfl) (by decide) rfl (fun ls hl => ?_)
                refine lv_goto (tgt := 26) hx hb dX2_following_84 (by decide) ?_
                exact ih26 y15 x24 h.1 (Nat.lt_of_lt_of_le h.2 (Nat.le_of_lt_succ hk26)) _ _ hP hD hS _ (lv_sub hl [1, 2, 3, 0] rfl)
              · obtain ⟨-, h⟩ := h
                specialize h c23
                refine lv_aload_n hx hb dX2_following_72 rfl (lv_at hl 0 rfl) ?_
                refine va_get (D := G) (ci := 2) (v := .ref aX) (C := RX2) (T := TX2) (N := 9) hx hb hts iwX2 hown hK.1 hP 0 rfl rfl 2 (by decide) fl72 (fun x9 h9 => u_same sf72 x9 h9) rfl dX2_following_73 ?_
                refine lv_iload hx hb dX2_following_76 (lv_at hl 3 rfl) ?_
                obtain ⟨hi, h⟩ := h
                refine va_iald hx hb hK.1 hP 3 0 rfl rfl hi dX2_following_78 ?_
                refine lv_topi (fun x25 ex25 => ?_)
                specialize h x25 ex25
                refine lv_istore (lv' := [(4, .int x25), (0, .ref aM), (3, .int r2), (5, .int y16)]) hx hb dX2_following_79 hl (by decide) rfl (fun ls hl => ?_)
                obtain ⟨x26, ex26⟩ : ∃ y : Int32, y = y16 + 1 := ⟨_, rfl⟩
                specialize h x26 ex26
                refine lv_iinc (v := x26) (lv' := [(5, .int x26), (4, .int x25), (0, .ref aM), (3, .int r2)]) hx hb dX2_following_81 hl (k := 3) rfl (by rw [ex26]; rfl) (by decide) rfl (fun ls hl => ?_)
                refine lv_goto (tgt := 26) hx hb dX2_following_84 (by decide) ?_
                exact ih26 x25 x26 h.1 (Nat.lt_of_lt_of_le h.2 (Nat.le_of_lt_succ hk26)) _ _ hP hD hS _ (lv_sub hl [2, 3, 1, 0] rfl)
    exact key26 _ (-9) 0 h026 (Nat.lt_succ_self _) _ _ hP hD hS _ (lv_sub hl [3, 2, 1, 0] rfl)
  · obtain ⟨-, h⟩ := h
    specialize h c9
    refine lv_bipush (v := (-9)) hx hb dX2_following_11 (by decide) ?_
    rw [← hQe]
    exact W.iret (v := (-9)) hx hb hr (fun t ht hW => ⟨⟨(-9), (z3, z4, f5, f6, f7, f8), rfl, h, by dsimp only; rw [ht]; exact hP⟩, hS.F ht⟩) hS.2.2 dX2_following_13

set_option maxHeartbeats 4000000 in
set_option maxRecDepth 100000 in
theorem ct_X2_forgetSpread (l : Launch) (G : va_G) (cy : Nat → ClassId) (aM aF aL aX aC aN aR : Nat) (sz : Nat) (vSz : Int32) (vTl : Int32) (vFo : Int32) (vMv : Int32) (fF : Nat → Int32) (fL : Nat → Int32) (fX : Nat → Int32) (fC : Nat → Int32) (vn : Int32) (fN : Nat → Int32) (Q : Int32 → (Nat → Int32) → Prop) (h : wp_X2_forgetSpread vTl fF fL Q) : Met l yX2_forgetSpread wsX2_forgetSpread rmX2_forgetSpread (va_Pc [.ref aM] (wP G cy sz [(aM, .inr (2, [.ref aF, .ref aL, .ref aX, .ref aC, .int vSz, .int vTl, .int vFo, .ref aN, .int vMv])), (aF, .inl (cy 0, 512, .inl fF)), (aL, .inl (cy 0, 512, .inl fL)), (aX, .inl (cy 0, 81, .inl fX)), (aC, .inl (cy 0, 81, .inl fC)), (aN, .inr (3, [.ref aR, .int vn])), (aR, .inl (cy 0, 9, .inl fN))])) (va_Qv (fun (u : Int32 × (Nat → Int32)) => Q u.1 u.2) (fun (u : Int32 × (Nat → Int32)) (t : State) => va_P G vwCl [(aM, .inr (2, [.ref aF, .ref aL, .ref aX, .ref aC, .int vSz, .int u.1, .int vFo, .ref aN, .int vMv])), (aF, .inl (cy 0, 512, .inl u.2)), (aL, .inl (cy 0, 512, .inl fL)), (aX, .inl (cy 0, 81, .inl fX)), (aC, .inl (cy 0, 81, .inl fC)), (aN, .inr (3, [.ref aR, .int vn])), (aR, .inl (cy 0, 9, .inl fN))] t.heap) (va_A [(aM, .inr (2, [.ref aF, .ref aL, .ref aX, .ref aC, .int vSz, .int vTl, .int vFo, .ref aN, .int vMv])), (aF, .inl (cy 0, 512, .inl fF)), (aL, .inl (cy 0, 512, .inl fL)), (aX, .inl (cy 0, 81, .inl fX)), (aC, .inl (cy 0, 81, .inl fC)), (aN, .inr (3, [.ref aR, .int vn])), (aR, .inl (cy 0, 9, .inl fN))] sz)) 0 0 (va_A [(aM, .inr (2, [.ref aF, .ref aL, .ref aX, .ref aC, .int vSz, .int vTl, .int vFo, .ref aN, .int vMv])), (aF, .inl (cy 0, 512, .inl fF)), (aL, .inl (cy 0, 512, .inl fL)), (aX, .inl (cy 0, 81, .inl fX)), (aC, .inl (cy 0, 81, .inl fC)), (aN, .inr (3, [.ref aR, .int vn])), (aR, .inl (cy 0, 9, .inl fN))] sz) := by
  unfold wp_X2_forgetSpread at h
  refine Met.ofW (cc := cX2_forgetSpread) (maxL := 2) (ret := none) (by decide) rfl ?_
  intro p e s m args below meth c s₁ B hml hv
  obtain ⟨hav, hsz, hP, hK, hD0⟩ := hv
  have hx := B.exec
  have hb := B.bytes
  have hr := B.returns
  have hts := atoms_spec (ws := wsX2_forgetSpread) B.pre
  have hown : s.vm.findClass RX2 = some m.cls := findClass_of_methodNamed B.named
  have hlocks := B.notSynchronized
  subst hsz
  have hD := hD0.self (sz := s.heap.size)
  generalize hAe : va_A [(aM, .inr (2, [.ref aF, .ref aL, .ref aX, .ref aC, .int vSz, .int vTl, .int vFo, .ref aN, .int vMv])), (aF, .inl (cy 0, 512, .inl fF)), (aL, .inl (cy 0, 512, .inl fL)), (aX, .inl (cy 0, 81, .inl fX)), (aC, .inl (cy 0, 81, .inl fC)), (aN, .inr (3, [.ref aR, .int vn])), (aR, .inl (cy 0, 9, .inl fN))] s.heap.size = A at hD ⊢
  have hA : ∀ q : Nat, s.heap.size ≤ q → A q := fun q h9 => by rw [← hAe]; exact Or.inr h9
  have hS : va_S A s.heap s.heap [] := va_S.rf
  have hl := lv_entry ([.ref aM]) (n := 2) (Nat.le_of_ble_eq_true rfl)
  rw [show entryFrame m args 2 = entryFrame m ([.ref aM] : List Value).toArray 2 by rw [hav], lg_entry_eq]
  generalize (lg_sl ([.ref aM]) ++ List.replicate (2 - (lg_sl ([.ref aM])).length) Slot.unset).toArray = ls at hl ⊢
  have hl : lv_has ls 2 [(0, .ref aM)] := hl
  generalize hQe : MQ below _ _ _ _ _ _ = QM
  have hP : va_P G vwCl [(aM, .inr (2, [.ref aF, .ref aL, .ref aX, .ref aC, .int vSz, .int vTl, .int vFo, .ref aN, .int vMv])), (aF, .inl (cy 0, 512, .inl fF)), (aL, .inl (cy 0, 512, .inl fL)), (aX, .inl (cy 0, 81, .inl fX)), (aC, .inl (cy 0, 81, .inl fC)), (aN, .inr (3, [.ref aR, .int vn])), (aR, .inl (cy 0, 9, .inl fN))] s.heap := hP
  have iwX2 : ∀ w ∈ wsX20, w ∈ wsX2_forgetSpread := by decide +kernel
  have fl28 := hts (.fieldLink RX2 28 "SlidTokens$Marks" "tail" "I") (by decide +kernel)
  have sf28 := hts (.sameField "SlidTokens$Marks" "SlidTokens$Search" "tail" "I") (by decide +kernel)
  have fl41 := hts (.fieldLink RX2 41 "SlidTokens$Marks" "far" "[I") (by decide +kernel)
  have sf41 := hts (.sameField "SlidTokens$Marks" "SlidTokens$Search" "far" "[I") (by decide +kernel)
  have fl82 := hts (.fieldLink RX2 82 "SlidTokens$Marks" "line" "[I") (by decide +kernel)
  have sf82 := hts (.sameField "SlidTokens$Marks" "SlidTokens$Search" "line" "[I") (by decide +kernel)
  suffices K9 : ∀ (H : Heap) (locs : List Loc), va_P G vwCl [(aM, .inr (2, [.ref aF, .ref aL, .ref aX, .ref aC, .int vSz, .int vTl, .int vFo, .ref aN, .int vMv])), (aF, .inl (cy 0, 512, .inl fF)), (aL, .inl (cy 0, 512, .inl fL)), (aX, .inl (cy 0, 81, .inl fX)), (aC, .inl (cy 0, 81, .inl fC)), (aN, .inr (3, [.ref aR, .int vn])), (aR, .inl (cy 0, 9, .inl fN))] H → va_D A [(aM, .inr (2, [.ref aF, .ref aL, .ref aX, .ref aC, .int vSz, .int vTl, .int vFo, .ref aN, .int vMv])), (aF, .inl (cy 0, 512, .inl fF)), (aL, .inl (cy 0, 512, .inl fL)), (aX, .inl (cy 0, 81, .inl fX)), (aC, .inl (cy 0, 81, .inl fC)), (aN, .inr (3, [.ref aR, .int vn])), (aR, .inl (cy 0, 9, .inl fN))] → va_S A s.heap H locs → W p l e (headSpec wsX2_forgetSpread rmX2_forgetSpread).room s m args below meth c H locs 0 0 QM (F0 m 0 ls []) from K9 _ _ hP hD hS
  clear hP hD hS
  intro H locs hP hD hS
  refine lv_iconst (v := 0) hx hb dX2_forgetSpread_0 (by decide) ?_
  refine lv_istore_n (lv' := [(1, .int 0), (0, .ref aM)]) hx hb dX2_forgetSpread_1 rfl hl (by decide) rfl (fun ls hl => ?_)
  obtain ⟨I2_2, u2_2, h02, hst2⟩ := h
  have key2 : ∀ (k9 : Nat) (y1 : Int32) (f2 : Nat → Int32), I2_2 y1 f2 → u2_2 y1 f2 < k9 → ∀ (H : Heap) (locs : List Loc), va_P G vwCl [(aM, .inr (2, [.ref aF, .ref aL, .ref aX, .ref aC, .int vSz, .int vTl, .int vFo, .ref aN, .int vMv])), (aF, .inl (cy 0, 512, .inl f2)), (aL, .inl (cy 0, 512, .inl fL)), (aX, .inl (cy 0, 81, .inl fX)), (aC, .inl (cy 0, 81, .inl fC)), (aN, .inr (3, [.ref aR, .int vn])), (aR, .inl (cy 0, 9, .inl fN))] H → va_D A [(aM, .inr (2, [.ref aF, .ref aL, .ref aX, .ref aC, .int vSz, .int vTl, .int vFo, .ref aN, .int vMv])), (aF, .inl (cy 0, 512, .inl f2)), (aL, .inl (cy 0, 512, .inl fL)), (aX, .inl (cy 0, 81, .inl fX)), (aC, .inl (cy 0, 81, .inl fC)), (aN, .inr (3, [.ref aR, .int vn])), (aR, .inl (cy 0, 9, .inl fN))] → va_S A s.heap H locs → ∀ (ls : Array Slot), lv_has ls 2 [(0, .ref aM), (1, .int y1)] → W p l e (headSpec wsX2_forgetSpread rmX2_forgetSpread).room s m args below meth c H locs 0 0 QM (F0 m 2 ls []) := by
    intro k9
    induction k9 with
    | zero =>
      intro y1 f2 hI9 hk9
      exact absurd hk9 (Nat.not_lt_zero _)
    | succ k9 ih2 =>
      intro y1 f2 hI9 hk2 H locs hP hD hS ls hl
      have h := hst2 y1 f2 hI9
      refine lv_iload_n hx hb dX2_forgetSpread_2 rfl (lv_at hl 1 rfl) ?_
      refine lv_aload_n hx hb dX2_forgetSpread_3 rfl (lv_at hl 0 rfl) ?_
      refine va_get (D := G) (ci := 2) (v := .int vTl) (C := RX2) (T := TX2) (N := 9) hx hb hts iwX2 hown hK.1 hP 0 rfl rfl 5 (by decide) fl28 (fun x9 h9 => u_same sf28 x9 h9) rfl dX2_forgetSpread_4 ?_
      refine lv_icmp_ge (tgt := 28) hx hb dX2_forgetSpread_7 (by decide) (fun c3 => ?_) (fun c3 => ?_)
      · obtain ⟨h, -⟩ := h
        specialize h c3
        refine lv_aload_n hx hb dX2_forgetSpread_28 rfl (lv_at hl 0 rfl) ?_
        refine lv_iconst (v := 0) hx hb dX2_forgetSpread_29 (by decide) ?_
        refine va_put (D := G) (ci := 2) (v := .int 0) (ty := .int) (C := RX2) (T := TX2) (N := 9) hx hb hts iwX2 tyX2 tyX2_ok nmX2 hown hK.1 hP hD hS 0 rfl rfl 5 (by decide) fl28 (fun x9 h9 => u_same sf28 x9 h9) rfl (by decide +kernel) rfl rfl (Nat.le_of_ble_eq_true rfl) dX2_forgetSpread_30 (fun H locs hP hD hS => ?_)
        have hP : va_P G vwCl [(aM, .inr (2, [.ref aF, .ref aL, .ref aX, .ref aC, .int vSz, .int 0, .int vFo, .ref aN, .int vMv])), (aF, .inl (cy 0, 512, .inl f2)), (aL, .inl (cy 0, 512, .inl fL)), (aX, .inl (cy 0, 81, .inl fX)), (aC, .inl (cy 0, 81, .inl fC)), (aN, .inr (3, [.ref aR, .int vn])), (aR, .inl (cy 0, 9, .inl fN))] H := hP
        have hD : va_D A [(aM, .inr (2, [.ref aF, .ref aL, .ref aX, .ref aC, .int vSz, .int 0, .int vFo, .ref aN, .int vMv])), (aF, .inl (cy 0, 512, .inl f2)), (aL, .inl (cy 0, 512, .inl fL)), (aX, .inl (cy 0, 81, .inl fX)), (aC, .inl (cy 0, 81, .inl fC)), (aN, .inr (3, [.ref aR, .int vn])), (aR, .inl (cy 0, 9, .inl fN))] := hD
        rw [← hQe]
        exact W.vret hx hb hr (fun t ht hW => ⟨⟨(0, f2), rfl, h, by dsimp only; rw [ht]; exact hP⟩, hS.F ht⟩) hS.2.2 dX2_forgetSpread_33
      · obtain ⟨-, h⟩ := h
        specialize h c3
        refine lv_aload_n hx hb dX2_forgetSpread_10 rfl (lv_at hl 0 rfl) ?_
        refine va_get (D := G) (ci := 2) (v := .ref aF) (C := RX2) (T := TX2) (N := 9) hx hb hts iwX2 hown hK.1 hP 0 rfl rfl 0 (by decide) fl41 (fun x9 h9 => u_same sf41 x9 h9) rfl dX2_forgetSpread_11 ?_
        refine lv_aload_n hx hb dX2_forgetSpread_14 rfl (lv_at hl 0 rfl) ?_
        refine va_get (D := G) (ci := 2) (v := .ref aL) (C := RX2) (T := TX2) (N := 9) hx hb hts iwX2 hown hK.1 hP 0 rfl rfl 1 (by decide) fl82 (fun x9 h9 => u_same sf82 x9 h9) rfl dX2_forgetSpread_15 ?_
        refine lv_iload_n hx hb dX2_forgetSpread_18 rfl (lv_at hl 1 rfl) ?_
        obtain ⟨hi, h⟩ := h
        refine va_iald hx hb hK.1 hP 2 0 rfl rfl hi dX2_forgetSpread_19 ?_
        refine lv_iconst (v := (-1)) hx hb dX2_forgetSpread_20 (by decide) ?_
        obtain ⟨hi, h⟩ := h
        refine va_iast hx hb hK.1 hP hD hS 1 0 rfl rfl hi dX2_forgetSpread_21 (fun H locs hP hD hS => ?_)
        obtain ⟨f4, ef4⟩ : ∃ z9 : Nat → Int32, z9 = upd f2 ((fL (y1 : Int32).toNatClampNeg) : Int32).toNatClampNeg (-1) := ⟨_, rfl⟩
        specialize h f4 ef4
        have hP : va_P G vwCl [(aM, .inr (2, [.ref aF, .ref aL, .ref aX, .ref aC, .int vSz, .int vTl, .int vFo, .ref aN, .int vMv])), (aF, .inl (cy 0, 512, .inl f4)), (aL, .inl (cy 0, 512, .inl fL)), (aX, .inl (cy 0, 81, .inl fX)), (aC, .inl (cy 0, 81, .inl fC)), (aN, .inr (3, [.ref aR, .int vn])), (aR, .inl (cy 0, 9, .inl fN))] H := by rw [ef4]; exact hP
        have hD : va_D A [(aM, .inr (2, [.ref aF, .ref aL, .ref aX, .ref aC, .int vSz, .int vTl, .int vFo, .ref aN, .int vMv])), (aF, .inl (cy 0, 512, .inl f4)), (aL, .inl (cy 0, 512, .inl fL)), (aX, .inl (cy 0, 81, .inl fX)), (aC, .inl (cy 0, 81, .inl fC)), (aN, .inr (3, [.ref aR, .int vn])), (aR, .inl (cy 0, 9, .inl fN))] := D_same hD rfl
        obtain ⟨x5, ex5⟩ : ∃ y : Int32, y = y1 + 1 := ⟨_, rfl⟩
        specialize h x5 ex5
        refine lv_iinc (v := x5) (lv' := [(1, .int x5), (0, .ref aM)]) hx hb dX2_forgetSpread_22 hl (k := 1) rfl (by rw [ex5]; rfl) (by decide) rfl (fun ls hl => ?_)
        refine lv_goto (tgt := 2) hx hb dX2_forgetSpread_25 (by decide) ?_
        exact ih2 x5 f4 h.1 (Nat.lt_of_lt_of_le h.2 (Nat.le_of_lt_succ hk2)) _ _ hP hD hS _ (lv_sub hl [1, 0] rfl)
  exact key2 _ 0 fF h02 (Nat.lt_succ_self _) _ _ hP hD hS _ (lv_sub hl [1, 0] rfl)

set_option maxHeartbeats 4000000 in
set_option maxRecDepth 100000 in
theorem ct_X2_lighten (l : Launch) (G : va_G) (cy : Nat → ClassId) (aM aF aL aX aC aN aR : Nat) (sz : Nat) (vSz : Int32) (vTl : Int32) (vFo : Int32) (vMv : Int32) (fF : Nat → Int32) (fL : Nat → Int32) (fX : Nat → Int32) (fC : Nat → Int32) (vn : Int32) (fN : Nat → Int32) (p1 : Int32) (Q : (Nat → Int32) → Prop) (h : wp_X2_lighten vFo fF fX fC p1 Q) : Met l yX2_lighten wsX2_lighten rmX2_lighten (va_Pc [.ref aM, .int p1] (wP G cy sz [(aM, .inr (2, [.ref aF, .ref aL, .ref aX, .ref aC, .int vSz, .int vTl, .int vFo, .ref aN, .int vMv])), (aF, .inl (cy 0, 512, .inl fF)), (aL, .inl (cy 0, 512, .inl fL)), (aX, .inl (cy 0, 81, .inl fX)), (aC, .inl (cy 0, 81, .inl fC)), (aN, .inr (3, [.ref aR, .int vn])), (aR, .inl (cy 0, 9, .inl fN))])) (va_Qv (fun (u : (Nat → Int32)) => Q u) (fun (u : (Nat → Int32)) (t : State) => va_P G vwCl [(aM, .inr (2, [.ref aF, .ref aL, .ref aX, .ref aC, .int vSz, .int vTl, .int vFo, .ref aN, .int vMv])), (aF, .inl (cy 0, 512, .inl u)), (aL, .inl (cy 0, 512, .inl fL)), (aX, .inl (cy 0, 81, .inl fX)), (aC, .inl (cy 0, 81, .inl fC)), (aN, .inr (3, [.ref aR, .int vn])), (aR, .inl (cy 0, 9, .inl fN))] t.heap) (va_A [(aM, .inr (2, [.ref aF, .ref aL, .ref aX, .ref aC, .int vSz, .int vTl, .int vFo, .ref aN, .int vMv])), (aF, .inl (cy 0, 512, .inl fF)), (aL, .inl (cy 0, 512, .inl fL)), (aX, .inl (cy 0, 81, .inl fX)), (aC, .inl (cy 0, 81, .inl fC)), (aN, .inr (3, [.ref aR, .int vn])), (aR, .inl (cy 0, 9, .inl fN))] sz)) 0 0 (va_A [(aM, .inr (2, [.ref aF, .ref aL, .ref aX, .ref aC, .int vSz, .int vTl, .int vFo, .ref aN, .int vMv])), (aF, .inl (cy 0, 512, .inl fF)), (aL, .inl (cy 0, 512, .inl fL)), (aX, .inl (cy 0, 81, .inl fX)), (aC, .inl (cy 0, 81, .inl fC)), (aN, .inr (3, [.ref aR, .int vn])), (aR, .inl (cy 0, 9, .inl fN))] sz) := by
  unfold wp_X2_lighten at h
  refine Met.ofW (cc := cX2_lighten) (maxL := 4) (ret := none) (by decide) rfl ?_
  intro p e s m args below meth c s₁ B hml hv
  obtain ⟨hav, hsz, hP, hK, hD0⟩ := hv
  have hx := B.exec
  have hb := B.bytes
  have hr := B.returns
  have hts := atoms_spec (ws := wsX2_lighten) B.pre
  have hown : s.vm.findClass RX2 = some m.cls := findClass_of_methodNamed B.named
  have hlocks := B.notSynchronized
  subst hsz
  have hD := hD0.self (sz := s.heap.size)
  generalize hAe : va_A [(aM, .inr (2, [.ref aF, .ref aL, .ref aX, .ref aC, .int vSz, .int vTl, .int vFo, .ref aN, .int vMv])), (aF, .inl (cy 0, 512, .inl fF)), (aL, .inl (cy 0, 512, .inl fL)), (aX, .inl (cy 0, 81, .inl fX)), (aC, .inl (cy 0, 81, .inl fC)), (aN, .inr (3, [.ref aR, .int vn])), (aR, .inl (cy 0, 9, .inl fN))] s.heap.size = A at hD ⊢
  have hA : ∀ q : Nat, s.heap.size ≤ q → A q := fun q h9 => by rw [← hAe]; exact Or.inr h9
  have hS : va_S A s.heap s.heap [] := va_S.rf
  have hl := lv_entry ([.ref aM, .int p1]) (n := 4) (Nat.le_of_ble_eq_true rfl)
  rw [show entryFrame m args 4 = entryFrame m ([.ref aM, .int p1] : List Value).toArray 4 by rw [hav], lg_entry_eq]
  generalize (lg_sl ([.ref aM, .int p1]) ++ List.replicate (4 - (lg_sl ([.ref aM, .int p1])).length) Slot.unset).toArray = ls at hl ⊢
  have hl : lv_has ls 4 [(0, .ref aM), (1, .int p1)] := hl
  generalize hQe : MQ below _ _ _ _ _ _ = QM
  have hP : va_P G vwCl [(aM, .inr (2, [.ref aF, .ref aL, .ref aX, .ref aC, .int vSz, .int vTl, .int vFo, .ref aN, .int vMv])), (aF, .inl (cy 0, 512, .inl fF)), (aL, .inl (cy 0, 512, .inl fL)), (aX, .inl (cy 0, 81, .inl fX)), (aC, .inl (cy 0, 81, .inl fC)), (aN, .inr (3, [.ref aR, .int vn])), (aR, .inl (cy 0, 9, .inl fN))] s.heap := hP
  have iwX2 : ∀ w ∈ wsX20, w ∈ wsX2_lighten := by decide +kernel
  have fl49 := hts (.fieldLink RX2 49 "SlidTokens$Marks" "found" "I") (by decide +kernel)
  have sf49 := hts (.sameField "SlidTokens$Marks" "SlidTokens$Search" "found" "I") (by decide +kernel)
  have fl72 := hts (.fieldLink RX2 72 "SlidTokens$Marks" "next" "[I") (by decide +kernel)
  have sf72 := hts (.sameField "SlidTokens$Marks" "SlidTokens$Search" "next" "[I") (by decide +kernel)
  have fl41 := hts (.fieldLink RX2 41 "SlidTokens$Marks" "far" "[I") (by decide +kernel)
  have sf41 := hts (.sameField "SlidTokens$Marks" "SlidTokens$Search" "far" "[I") (by decide +kernel)
  have fl88 := hts (.fieldLink RX2 88 "SlidTokens$Marks" "cost" "[I") (by decide +kernel)
  have sf88 := hts (.sameField "SlidTokens$Marks" "SlidTokens$Search" "cost" "[I") (by decide +kernel)
  suffices K9 : ∀ (H : Heap) (locs : List Loc), va_P G vwCl [(aM, .inr (2, [.ref aF, .ref aL, .ref aX, .ref aC, .int vSz, .int vTl, .int vFo, .ref aN, .int vMv])), (aF, .inl (cy 0, 512, .inl fF)), (aL, .inl (cy 0, 512, .inl fL)), (aX, .inl (cy 0, 81, .inl fX)), (aC, .inl (cy 0, 81, .inl fC)), (aN, .inr (3, [.ref aR, .int vn])), (aR, .inl (cy 0, 9, .inl fN))] H → va_D A [(aM, .inr (2, [.ref aF, .ref aL, .ref aX, .ref aC, .int vSz, .int vTl, .int vFo, .ref aN, .int vMv])), (aF, .inl (cy 0, 512, .inl fF)), (aL, .inl (cy 0, 512, .inl fL)), (aX, .inl (cy 0, 81, .inl fX)), (aC, .inl (cy 0, 81, .inl fC)), (aN, .inr (3, [.ref aR, .int vn])), (aR, .inl (cy 0, 9, .inl fN))] → va_S A s.heap H locs → W p l e (headSpec wsX2_lighten rmX2_lighten).room s m args below meth c H locs 0 0 QM (F0 m 0 ls []) from K9 _ _ hP hD hS
  clear hP hD hS
  intro H locs hP hD hS
  refine lv_iconst (v := 0) hx hb dX2_lighten_0 (by decide) ?_
  refine lv_istore_n (lv' := [(2, .int 0), (0, .ref aM), (1, .int p1)]) hx hb dX2_lighten_1 rfl hl (by decide) rfl (fun ls hl => ?_)
  obtain ⟨I2_2, u2_2, h02, hst2⟩ := h
  have key2 : ∀ (k9 : Nat) (y1 : Int32) (f2 : Nat → Int32), I2_2 y1 f2 → u2_2 y1 f2 < k9 → ∀ (H : Heap) (locs : List Loc), va_P G vwCl [(aM, .inr (2, [.ref aF, .ref aL, .ref aX, .ref aC, .int vSz, .int vTl, .int vFo, .ref aN, .int vMv])), (aF, .inl (cy 0, 512, .inl f2)), (aL, .inl (cy 0, 512, .inl fL)), (aX, .inl (cy 0, 81, .inl fX)), (aC, .inl (cy 0, 81, .inl fC)), (aN, .inr (3, [.ref aR, .int vn])), (aR, .inl (cy 0, 9, .inl fN))] H → va_D A [(aM, .inr (2, [.ref aF, .ref aL, .ref aX, .ref aC, .int vSz, .int vTl, .int vFo, .ref aN, .int vMv])), (aF, .inl (cy 0, 512, .inl f2)), (aL, .inl (cy 0, 512, .inl fL)), (aX, .inl (cy 0, 81, .inl fX)), (aC, .inl (cy 0, 81, .inl fC)), (aN, .inr (3, [.ref aR, .int vn])), (aR, .inl (cy 0, 9, .inl fN))] → va_S A s.heap H locs → ∀ (ls : Array Slot), lv_has ls 4 [(0, .ref aM), (1, .int p1), (2, .int y1)] → W p l e (headSpec wsX2_lighten rmX2_lighten).room s m args below meth c H locs 0 0 QM (F0 m 2 ls []) := by
    intro k9
    induction k9 with
    | zero =>
      intro y1 f2 hI9 hk9
      exact absurd hk9 (Nat.not_lt_zero _)
    | succ k9 ih2 =>
      intro y1 f2 hI9 hk2 H locs hP hD hS ls hl
      have h := hst2 y1 f2 hI9
      refine lv_iload_n hx hb dX2_lighten_2 rfl (lv_at hl 2 rfl) ?_
      refine lv_aload_n hx hb dX2_lighten_3 rfl (lv_at hl 0 rfl) ?_
      refine va_get (D := G) (ci := 2) (v := .int vFo) (C := RX2) (T := TX2) (N := 9) hx hb hts iwX2 hown hK.1 hP 0 rfl rfl 6 (by decide) fl49 (fun x9 h9 => u_same sf49 x9 h9) rfl dX2_lighten_4 ?_
      refine lv_icmp_ge (tgt := 64) hx hb dX2_lighten_7 (by decide) (fun c3 => ?_) (fun c3 => ?_)
      · obtain ⟨h, -⟩ := h
        specialize h c3
        rw [← hQe]
        exact W.vret hx hb hr (fun t ht hW => ⟨⟨f2, rfl, h, by dsimp only; rw [ht]; exact hP⟩, hS.F ht⟩) hS.2.2 dX2_lighten_64
      · obtain ⟨-, h⟩ := h
        specialize h c3
        refine lv_aload_n hx hb dX2_lighten_10 rfl (lv_at hl 0 rfl) ?_
        refine va_get (D := G) (ci := 2) (v := .ref aX) (C := RX2) (T := TX2) (N := 9) hx hb hts iwX2 hown hK.1 hP 0 rfl rfl 2 (by decide) fl72 (fun x9 h9 => u_same sf72 x9 h9) rfl dX2_lighten_11 ?_
        refine lv_iload_n hx hb dX2_lighten_14 rfl (lv_at hl 2 rfl) ?_
        obtain ⟨hi, h⟩ := h
        refine va_iald hx hb hK.1 hP 3 0 rfl rfl hi dX2_lighten_15 ?_
        refine lv_topi (fun x4 ex4 => ?_)
        specialize h x4 ex4
        refine lv_istore_n (lv' := [(3, .int x4), (0, .ref aM), (1, .int p1), (2, .int y1)]) hx hb dX2_lighten_16 rfl hl (by decide) rfl (fun ls hl => ?_)
        refine lv_aload_n hx hb dX2_lighten_17 rfl (lv_at hl 1 rfl) ?_
        refine va_get (D := G) (ci := 2) (v := .ref aF) (C := RX2) (T := TX2) (N := 9) hx hb hts iwX2 hown hK.1 hP 0 rfl rfl 0 (by decide) fl41 (fun x9 h9 => u_same sf41 x9 h9) rfl dX2_lighten_18 ?_
        refine lv_iload_n hx hb dX2_lighten_21 rfl (lv_at hl 0 rfl) ?_
        obtain ⟨hi, h⟩ := h
        refine va_iald hx hb hK.1 hP 1 0 rfl rfl hi dX2_lighten_22 ?_
        refine lv_iconst (v := (-1)) hx hb dX2_lighten_23 (by decide) ?_
        refine lv_icmp_eq (tgt := 44) hx hb dX2_lighten_24 (by decide) (fun c5 => ?_) (fun c5 => ?_)
        · obtain ⟨h, -⟩ := h
          specialize h c5
          refine lv_aload_n hx hb dX2_lighten_44 rfl (lv_at hl 1 rfl) ?_
          refine va_get (D := G) (ci := 2) (v := .ref aF) (C := RX2) (T := TX2) (N := 9) hx hb hts iwX2 hown hK.1 hP 0 rfl rfl 0 (by decide) fl41 (fun x9 h9 => u_same sf41 x9 h9) rfl dX2_lighten_45 ?_
          refine lv_iload_n hx hb dX2_lighten_48 rfl (lv_at hl 0 rfl) ?_
          refine lv_iload_n hx hb dX2_lighten_49 rfl (lv_at hl 2 rfl) ?_
          refine lv_aload_n hx hb dX2_lighten_50 rfl (lv_at hl 1 rfl) ?_
          refine va_get (D := G) (ci := 2) (v := .ref aC) (C := RX2) (T := TX2) (N := 9) hx hb hts iwX2 hown hK.1 hP 0 rfl rfl 3 (by decide) fl88 (fun x9 h9 => u_same sf88 x9 h9) rfl dX2_lighten_51 ?_
          refine lv_iload_n hx hb dX2_lighten_54 rfl (lv_at hl 3 rfl) ?_
          obtain ⟨hi, h⟩ := h
          refine va_iald hx hb hK.1 hP 4 0 rfl rfl hi dX2_lighten_55 ?_
          refine lv_iadd hx hb dX2_lighten_56 ?_
          refine lv_topi (fun x6 ex6 => ?_)
          specialize h x6 ex6
          obtain ⟨hi, h⟩ := h
          refine va_iast hx hb hK.1 hP hD hS 1 0 rfl rfl hi dX2_lighten_57 (fun H locs hP hD hS => ?_)
          obtain ⟨f7, ef7⟩ : ∃ z9 : Nat → Int32, z9 = upd f2 (x4 : Int32).toNatClampNeg x6 := ⟨_, rfl⟩
          specialize h f7 ef7
          have hP : va_P G vwCl [(aM, .inr (2, [.ref aF, .ref aL, .ref aX, .ref aC, .int vSz, .int vTl, .int vFo, .ref aN, .int vMv])), (aF, .inl (cy 0, 512, .inl f7)), (aL, .inl (cy 0, 512, .inl fL)), (aX, .inl (cy 0, 81, .inl fX)), (aC, .inl (cy 0, 81, .inl fC)), (aN, .inr (3, [.ref aR, .int vn])), (aR, .inl (cy 0, 9, .inl fN))] H := by rw [ef7]; exact hP
          have hD : va_D A [(aM, .inr (2, [.ref aF, .ref aL, .ref aX, .ref aC, .int vSz, .int vTl, .int vFo, .ref aN, .int vMv])), (aF, .inl (cy 0, 512, .inl f7)), (aL, .inl (cy 0, 512, .inl fL)), (aX, .inl (cy 0, 81, .inl fX)), (aC, .inl (cy 0, 81, .inl fC)), (aN, .inr (3, [.ref aR, .int vn])), (aR, .inl (cy 0, 9, .inl fN))] := D_same hD rfl
          obtain ⟨x8, ex8⟩ : ∃ y : Int32, y = y1 + 1 := ⟨_, rfl⟩
          specialize h x8 ex8
          refine lv_iinc (v := x8) (lv' := [(2, .int x8), (3, .int x4), (0, .ref aM), (1, .int p1)]) hx hb dX2_lighten_58 hl (k := 3) rfl (by rw [ex8]; rfl) (by decide) rfl (fun ls hl => ?_)
          refine lv_goto (tgt := 2) hx hb dX2_lighten_61 (by decide) ?_
          exact ih2 x8 f7 h.1 (Nat.lt_of_lt_of_le h.2 (Nat.le_of_lt_succ hk2)) _ _ hP hD hS _ (lv_sub hl [2, 3, 0] rfl)
        · obtain ⟨-, h⟩ := h
          specialize h c5
          refine lv_aload_n hx hb dX2_lighten_27 rfl (lv_at hl 1 rfl) ?_
          refine va_get (D := G) (ci := 2) (v := .ref aF) (C := RX2) (T := TX2) (N := 9) hx hb hts iwX2 hown hK.1 hP 0 rfl rfl 0 (by decide) fl41 (fun x9 h9 => u_same sf41 x9 h9) rfl dX2_lighten_28 ?_
          refine lv_iload_n hx hb dX2_lighten_31 rfl (lv_at hl 0 rfl) ?_
          obtain ⟨hi, h⟩ := h
          refine va_iald hx hb hK.1 hP 1 0 rfl rfl hi dX2_lighten_32 ?_
          refine lv_iload_n hx hb dX2_lighten_33 rfl (lv_at hl 2 rfl) ?_
          refine lv_aload_n hx hb dX2_lighten_34 rfl (lv_at hl 1 rfl) ?_
          refine va_get (D := G) (ci := 2) (v := .ref aC) (C := RX2) (T := TX2) (N := 9) hx hb hts iwX2 hown hK.1 hP 0 rfl rfl 3 (by decide) fl88 (fun x9 h9 => u_same sf88 x9 h9) rfl dX2_lighten_35 ?_
          refine lv_iload_n hx hb dX2_lighten_38 rfl (lv_at hl 3 rfl) ?_
          obtain ⟨hi, h⟩ := h
          refine va_iald hx hb hK.1 hP 4 0 rfl rfl hi dX2_lighten_39 ?_
          refine lv_iadd hx hb dX2_lighten_40 ?_
          refine lv_icmp_le (tgt := 58) hx hb dX2_lighten_41 (by decide) (fun c9 => ?_) (fun c9 => ?_)
          · obtain ⟨h, -⟩ := h
            specialize h c9
            obtain ⟨x10, ex10⟩ : ∃ y : Int32, y = y1 + 1 := ⟨_, rfl⟩
            specialize h x10 ex10
            refine lv_iinc (v := x10) (lv' := [(2, .int x10), (3, .int x4), (0, .ref aM), (1, .int p1)]) hx hb dX2_lighten_58 hl (k := 3) rfl (by rw [ex10]; rfl) (by decide) rfl (fun ls hl => ?_)
            refine lv_goto (tgt := 2) hx hb dX2_lighten_61 (by decide) ?_
            exact ih2 x10 f2 h.1 (Nat.lt_of_lt_of_le h.2 (Nat.le_of_lt_succ hk2)) _ _ hP hD hS _ (lv_sub hl [2, 3, 0] rfl)
          · obtain ⟨-, h⟩ := h
            specialize h c9
            refine lv_aload_n hx hb dX2_lighten_44 rfl (lv_at hl 1 rfl) ?_
            refine va_get (D := G) (ci := 2) (v := .ref aF) (C := RX2) (T := TX2) (N := 9) hx hb hts iwX2 hown hK.1 hP 0 rfl rfl 0 (by decide) fl41 (fun x9 h9 => u_same sf41 x9 h9) rfl dX2_lighten_45 ?_
            refine lv_iload_n hx hb dX2_lighten_48 rfl (lv_at hl 0 rfl) ?_
            refine lv_iload_n hx hb dX2_lighten_49 rfl (lv_at hl 2 rfl) ?_
            refine lv_aload_n hx hb dX2_lighten_50 rfl (lv_at hl 1 rfl) ?_
            refine va_get (D := G) (ci := 2) (v := .ref aC) (C := RX2) (T := TX2) (N := 9) hx hb hts iwX2 hown hK.1 hP 0 rfl rfl 3 (by decide) fl88 (fun x9 h9 => u_same sf88 x9 h9) rfl dX2_lighten_51 ?_
            refine lv_iload_n hx hb dX2_lighten_54 rfl (lv_at hl 3 rfl) ?_
            obtain ⟨hi, h⟩ := h
            refine va_iald hx hb hK.1 hP 4 0 rfl rfl hi dX2_lighten_55 ?_
            refine lv_iadd hx hb dX2_lighten_56 ?_
            refine lv_topi (fun x11 ex11 => ?_)
            specialize h x11 ex11
            obtain ⟨hi, h⟩ := h
            refine va_iast hx hb hK.1 hP hD hS 1 0 rfl rfl hi dX2_lighten_57 (fun H locs hP hD hS => ?_)
            obtain ⟨f12, ef12⟩ : ∃ z9 : Nat → Int32, z9 = upd f2 (x4 : Int32).toNatClampNeg x11 := ⟨_, rfl⟩
            specialize h f12 ef12
            have hP : va_P G vwCl [(aM, .inr (2, [.ref aF, .ref aL, .ref aX, .ref aC, .int vSz, .int vTl, .int vFo, .ref aN, .int vMv])), (aF, .inl (cy 0, 512, .inl f12)), (aL, .inl (cy 0, 512, .inl fL)), (aX, .inl (cy 0, 81, .inl fX)), (aC, .inl (cy 0, 81, .inl fC)), (aN, .inr (3, [.ref aR, .int vn])), (aR, .inl (cy 0, 9, .inl fN))] H := by rw [ef12]; exact hP
            have hD : va_D A [(aM, .inr (2, [.ref aF, .ref aL, .ref aX, .ref aC, .int vSz, .int vTl, .int vFo, .ref aN, .int vMv])), (aF, .inl (cy 0, 512, .inl f12)), (aL, .inl (cy 0, 512, .inl fL)), (aX, .inl (cy 0, 81, .inl fX)), (aC, .inl (cy 0, 81, .inl fC)), (aN, .inr (3, [.ref aR, .int vn])), (aR, .inl (cy 0, 9, .inl fN))] := D_same hD rfl
            obtain ⟨x13, ex13⟩ : ∃ y : Int32, y = y1 + 1 := ⟨_, rfl⟩
            specialize h x13 ex13
            refine lv_iinc (v := x13) (lv' := [(2, .int x13), (3, .int x4), (0, .ref aM), (1, .int p1)]) hx hb dX2_lighten_58 hl (k := 3) rfl (by rw [ex13]; rfl) (by decide) rfl (fun ls hl => ?_)
            refine lv_goto (tgt := 2) hx hb dX2_lighten_61 (by decide) ?_
            exact ih2 x13 f12 h.1 (Nat.lt_of_lt_of_le h.2 (Nat.le_of_lt_succ hk2)) _ _ hP hD hS _ (lv_sub hl [2, 3, 0] rfl)
  exact key2 _ 0 fF h02 (Nat.lt_succ_self _) _ _ hP hD hS _ (lv_sub hl [1, 2, 0] rfl)

set_option maxHeartbeats 4000000 in
set_option maxRecDepth 100000 in
theorem ct_X2_settle (l : Launch) (G : va_G) (cy : Nat → ClassId) (aM aF aL aX aC aN aR : Nat) (sz : Nat) (vSz : Int32) (vTl : Int32) (vFo : Int32) (vMv : Int32) (fF : Nat → Int32) (fL : Nat → Int32) (fX : Nat → Int32) (fC : Nat → Int32) (vn : Int32) (fN : Nat → Int32) (p1 : Int32) (Q : Int32 → (Nat → Int32) → (Nat → Int32) → (Nat → Int32) → Prop) (h : wp_X2_settle vSz vFo vMv fF fX fC vn fN p1 Q) : Met l yX2_settle wsX2_settle rmX2_settle (va_Pc [.ref aM, .int p1] (wP G cy sz [(aM, .inr (2, [.ref aF, .ref aL, .ref aX, .ref aC, .int vSz, .int vTl, .int vFo, .ref aN, .int vMv])), (aF, .inl (cy 0, 512, .inl fF)), (aL, .inl (cy 0, 512, .inl fL)), (aX, .inl (cy 0, 81, .inl fX)), (aC, .inl (cy 0, 81, .inl fC)), (aN, .inr (3, [.ref aR, .int vn])), (aR, .inl (cy 0, 9, .inl fN))])) (va_Qv (fun (u : Int32 × (Nat → Int32) × (Nat → Int32) × (Nat → Int32)) => Q u.1 u.2.1 u.2.2.1 u.2.2.2) (fun (u : Int32 × (Nat → Int32) × (Nat → Int32) × (Nat → Int32)) (t : State) => va_P G vwCl [(aM, .inr (2, [.ref aF, .ref aL, .ref aX, .ref aC, .int vSz, .int vTl, .int u.1, .ref aN, .int vMv])), (aF, .inl (cy 0, 512, .inl u.2.1)), (aL, .inl (cy 0, 512, .inl fL)), (aX, .inl (cy 0, 81, .inl u.2.2.1)), (aC, .inl (cy 0, 81, .inl u.2.2.2)), (aN, .inr (3, [.ref aR, .int vn])), (aR, .inl (cy 0, 9, .inl fN))] t.heap) (va_A [(aM, .inr (2, [.ref aF, .ref aL, .ref aX, .ref aC, .int vSz, .int vTl, .int vFo, .ref aN, .int vMv])), (aF, .inl (cy 0, 512, .inl fF)), (aL, .inl (cy 0, 512, .inl fL)), (aX, .inl (cy 0, 81, .inl fX)), (aC, .inl (cy 0, 81, .inl fC)), (aN, .inr (3, [.ref aR, .int vn])), (aR, .inl (cy 0, 9, .inl fN))] sz)) 0 0 (va_A [(aM, .inr (2, [.ref aF, .ref aL, .ref aX, .ref aC, .int vSz, .int vTl, .int vFo, .ref aN, .int vMv])), (aF, .inl (cy 0, 512, .inl fF)), (aL, .inl (cy 0, 512, .inl fL)), (aX, .inl (cy 0, 81, .inl fX)), (aC, .inl (cy 0, 81, .inl fC)), (aN, .inr (3, [.ref aR, .int vn])), (aR, .inl (cy 0, 9, .inl fN))] sz) := by
  unfold wp_X2_settle at h
  refine Met.ofW (cc := cX2_settle) (maxL := 3) (ret := none) (by decide) rfl ?_
  intro p e s m args below meth c s₁ B hml hv
  obtain ⟨hav, hsz, hP, hK, hD0⟩ := hv
  have hx := B.exec
  have hb := B.bytes
  have hr := B.returns
  have hts := atoms_spec (ws := wsX2_settle) B.pre
  have hown : s.vm.findClass RX2 = some m.cls := findClass_of_methodNamed B.named
  have hlocks := B.notSynchronized
  subst hsz
  have hD := hD0.self (sz := s.heap.size)
  generalize hAe : va_A [(aM, .inr (2, [.ref aF, .ref aL, .ref aX, .ref aC, .int vSz, .int vTl, .int vFo, .ref aN, .int vMv])), (aF, .inl (cy 0, 512, .inl fF)), (aL, .inl (cy 0, 512, .inl fL)), (aX, .inl (cy 0, 81, .inl fX)), (aC, .inl (cy 0, 81, .inl fC)), (aN, .inr (3, [.ref aR, .int vn])), (aR, .inl (cy 0, 9, .inl fN))] s.heap.size = A at hD ⊢
  have hA : ∀ q : Nat, s.heap.size ≤ q → A q := fun q h9 => by rw [← hAe]; exact Or.inr h9
  have hS : va_S A s.heap s.heap [] := va_S.rf
  have hl := lv_entry ([.ref aM, .int p1]) (n := 3) (Nat.le_of_ble_eq_true rfl)
  rw [show entryFrame m args 3 = entryFrame m ([.ref aM, .int p1] : List Value).toArray 3 by rw [hav], lg_entry_eq]
  generalize (lg_sl ([.ref aM, .int p1]) ++ List.replicate (3 - (lg_sl ([.ref aM, .int p1])).length) Slot.unset).toArray = ls at hl ⊢
  have hl : lv_has ls 3 [(0, .ref aM), (1, .int p1)] := hl
  generalize hQe : MQ below _ _ _ _ _ _ = QM
  have hP : va_P G vwCl [(aM, .inr (2, [.ref aF, .ref aL, .ref aX, .ref aC, .int vSz, .int vTl, .int vFo, .ref aN, .int vMv])), (aF, .inl (cy 0, 512, .inl fF)), (aL, .inl (cy 0, 512, .inl fL)), (aX, .inl (cy 0, 81, .inl fX)), (aC, .inl (cy 0, 81, .inl fC)), (aN, .inr (3, [.ref aR, .int vn])), (aR, .inl (cy 0, 9, .inl fN))] s.heap := hP
  have iwX2 : ∀ w ∈ wsX20, w ∈ wsX2_settle := by decide +kernel
  have fl25 := hts (.fieldLink RX2 25 "SlidTokens$Marks" "size" "I") (by decide +kernel)
  have sf25 := hts (.sameField "SlidTokens$Marks" "SlidTokens$Search" "size" "I") (by decide +kernel)
  have fl41 := hts (.fieldLink RX2 41 "SlidTokens$Marks" "far" "[I") (by decide +kernel)
  have sf41 := hts (.sameField "SlidTokens$Marks" "SlidTokens$Search" "far" "[I") (by decide +kernel)
  suffices K9 : ∀ (H : Heap) (locs : List Loc), va_P G vwCl [(aM, .inr (2, [.ref aF, .ref aL, .ref aX, .ref aC, .int vSz, .int vTl, .int vFo, .ref aN, .int vMv])), (aF, .inl (cy 0, 512, .inl fF)), (aL, .inl (cy 0, 512, .inl fL)), (aX, .inl (cy 0, 81, .inl fX)), (aC, .inl (cy 0, 81, .inl fC)), (aN, .inr (3, [.ref aR, .int vn])), (aR, .inl (cy 0, 9, .inl fN))] H → va_D A [(aM, .inr (2, [.ref aF, .ref aL, .ref aX, .ref aC, .int vSz, .int vTl, .int vFo, .ref aN, .int vMv])), (aF, .inl (cy 0, 512, .inl fF)), (aL, .inl (cy 0, 512, .inl fL)), (aX, .inl (cy 0, 81, .inl fX)), (aC, .inl (cy 0, 81, .inl fC)), (aN, .inr (3, [.ref aR, .int vn])), (aR, .inl (cy 0, 9, .inl fN))] → va_S A s.heap H locs → W p l e (headSpec wsX2_settle rmX2_settle).room s m args below meth c H locs 0 0 QM (F0 m 0 ls []) from K9 _ _ hP hD hS
  clear hP hD hS
  intro H locs hP hD hS
  refine lv_iconst (v := 0) hx hb dX2_settle_0 (by decide) ?_
  refine lv_istore_n (lv' := [(2, .int 0), (0, .ref aM), (1, .int p1)]) hx hb dX2_settle_1 rfl hl (by decide) rfl (fun ls hl => ?_)
  obtain ⟨I2_5, u2_5, h02, hst2⟩ := h
  have key2 : ∀ (k9 : Nat) (y1 : Int32) (z2 : Int32) (f3 : Nat → Int32) (f4 : Nat → Int32) (f5 : Nat → Int32), I2_5 y1 z2 f3 f4 f5 → u2_5 y1 z2 f3 f4 f5 < k9 → ∀ (H : Heap) (locs : List Loc), va_P G vwCl [(aM, .inr (2, [.ref aF, .ref aL, .ref aX, .ref aC, .int vSz, .int vTl, .int z2, .ref aN, .int vMv])), (aF, .inl (cy 0, 512, .inl f3)), (aL, .inl (cy 0, 512, .inl fL)), (aX, .inl (cy 0, 81, .inl f4)), (aC, .inl (cy 0, 81, .inl f5)), (aN, .inr (3, [.ref aR, .int vn])), (aR, .inl (cy 0, 9, .inl fN))] H → va_D A [(aM, .inr (2, [.ref aF, .ref aL, .ref aX, .ref aC, .int vSz, .int vTl, .int z2, .ref aN, .int vMv])), (aF, .inl (cy 0, 512, .inl f3)), (aL, .inl (cy 0, 512, .inl fL)), (aX, .inl (cy 0, 81, .inl f4)), (aC, .inl (cy 0, 81, .inl f5)), (aN, .inr (3, [.ref aR, .int vn])), (aR, .inl (cy 0, 9, .inl fN))] → va_S A s.heap H locs → ∀ (ls : Array Slot), lv_has ls 3 [(0, .ref aM), (1, .int p1), (2, .int y1)] → W p l e (headSpec wsX2_settle rmX2_settle).room s m args below meth c H locs 0 0 QM (F0 m 2 ls []) := by
    intro k9
    induction k9 with
    | zero =>
      intro y1 z2 f3 f4 f5 hI9 hk9
      exact absurd hk9 (Nat.not_lt_zero _)
    | succ k9 ih2 =>
      intro y1 z2 f3 f4 f5 hI9 hk2 H locs hP hD hS ls hl
      have h := hst2 y1 z2 f3 f4 f5 hI9
      refine lv_iload_n hx hb dX2_settle_2 rfl (lv_at hl 2 rfl) ?_
      refine lv_aload_n hx hb dX2_settle_3 rfl (lv_at hl 0 rfl) ?_
      refine va_get (D := G) (ci := 2) (v := .int vSz) (C := RX2) (T := TX2) (N := 9) hx hb hts iwX2 hown hK.1 hP 0 rfl rfl 4 (by decide) fl25 (fun x9 h9 => u_same sf25 x9 h9) rfl dX2_settle_4 ?_
      refine lv_icmp_ge (tgt := 36) hx hb dX2_settle_7 (by decide) (fun c6 => ?_) (fun c6 => ?_)
      · obtain ⟨h, -⟩ := h
        specialize h c6
        rw [← hQe]
        exact W.vret hx hb hr (fun t ht hW => ⟨⟨(z2, f3, f4, f5), rfl, h, by dsimp only; rw [ht]; exact hP⟩, hS.F ht⟩) hS.2.2 dX2_settle_36
      · obtain ⟨-, h⟩ := h
        specialize h c6
        refine lv_aload_n hx hb dX2_settle_10 rfl (lv_at hl 0 rfl) ?_
        refine va_get (D := G) (ci := 2) (v := .ref aF) (C := RX2) (T := TX2) (N := 9) hx hb hts iwX2 hown hK.1 hP 0 rfl rfl 0 (by decide) fl41 (fun x9 h9 => u_same sf41 x9 h9) rfl dX2_settle_11 ?_
        refine lv_iload_n hx hb dX2_settle_14 rfl (lv_at hl 2 rfl) ?_
        obtain ⟨hi, h⟩ := h
        refine va_iald hx hb hK.1 hP 1 0 rfl rfl hi dX2_settle_15 ?_
        refine lv_iload_n hx hb dX2_settle_16 rfl (lv_at hl 1 rfl) ?_
        refine lv_icmp_ne (tgt := 30) hx hb dX2_settle_17 (by decide) (fun c7 => ?_) (fun c7 => ?_)
        · obtain ⟨-, h⟩ := h
          specialize h c7
          obtain ⟨x8, ex8⟩ : ∃ y : Int32, y = y1 + 1 := ⟨_, rfl⟩
          specialize h x8 ex8
          refine lv_iinc (v := x8) (lv' := [(2, .int x8), (0, .ref aM), (1, .int p1)]) hx hb dX2_settle_30 hl (k := 2) rfl (by rw [ex8]; rfl) (by decide) rfl (fun ls hl => ?_)
          refine lv_goto (tgt := 2) hx hb dX2_settle_33 (by decide) ?_
          exact ih2 x8 z2 f3 f4 f5 h.1 (Nat.lt_of_lt_of_le h.2 (Nat.le_of_lt_succ hk2)) _ _ hP hD hS _ (lv_sub hl [1, 2, 0] rfl)
        · obtain ⟨h, -⟩ := h
          specialize h c7
          refine lv_aload_n hx hb dX2_settle_20 rfl (lv_at hl 0 rfl) ?_
          refine lv_iload_n hx hb dX2_settle_21 rfl (lv_at hl 2 rfl) ?_
          obtain ⟨Q9, hw9, h⟩ := h
          have hPc : va_P G vwCl [(aM, .inr (2, [.ref aF, .ref aL, .ref aX, .ref aC, .int vSz, .int vTl, .int z2, .ref aN, .int vMv])), (aF, .inl (cy 0, 512, .inl f3)), (aL, .inl (cy 0, 512, .inl fL)), (aX, .inl (cy 0, 81, .inl f4)), (aC, .inl (cy 0, 81, .inl f5)), (aN, .inr (3, [.ref aR, .int vn])), (aR, .inl (cy 0, 9, .inl fN))] H := hP.sub [0, 1, 2, 3, 4, 5, 6] rfl
          have hDc : va_D A [(aM, .inr (2, [.ref aF, .ref aL, .ref aX, .ref aC, .int vSz, .int vTl, .int z2, .ref aN, .int vMv])), (aF, .inl (cy 0, 512, .inl f3)), (aL, .inl (cy 0, 512, .inl fL)), (aX, .inl (cy 0, 81, .inl f4)), (aC, .inl (cy 0, 81, .inl f5)), (aN, .inr (3, [.ref aR, .int vn])), (aR, .inl (cy 0, 9, .inl fN))] := hD.sub [0, 1, 2, 3, 4, 5, 6] (by decide) rfl
          have hFc := va_free (wc := [(aM, .inr (2, [.ref aF, .ref aL, .ref aX, .ref aC, .int vSz, .int vTl, .int z2, .ref aN, .int vMv])), (aF, .inl (cy 0, 512, .inl f3)), (aL, .inl (cy 0, 512, .inl fL)), (aX, .inl (cy 0, 81, .inl f4)), (aC, .inl (cy 0, 81, .inl f5)), (aN, .inr (3, [.ref aR, .int vn])), (aR, .inl (cy 0, 9, .inl fN))]) hD hS hA [0, 1, 2, 3, 4, 5, 6] rfl
          refine va_callv (va_runV (As := [.int y1]) (rest := []) ⟨hx, hb, hml, hown, hts⟩ (ct_X2_gather l G cy aM aF aL aX aC aN aR H.size vSz vTl z2 vMv f3 fL f4 f5 vn fN y1 Q9 hw9) (cwV 1 hts gX2_settle_X2_gather rfl rfl rfl (by decide +kernel) ⟨Nat.le_of_ble_eq_true rfl, Nat.le_of_ble_eq_true rfl⟩) (wP_V hK hP (ci := 2) (q0 := 0) rfl rfl hPc hDc) rfl rfl hl.1 rfl (lv_room (Nat.le_of_ble_eq_true rfl)) dX2_settle_22 ⟨Nat.le_of_ble_eq_true rfl, Nat.le_of_ble_eq_true rfl⟩) hS (fun q9 _ h9 => hFc q9 h9) hFc (fun u9 t9 H locs ht9 hvm9 hw9 hB9 hz9 hk9 hS => ?_)
          obtain ⟨z11, f12, f13⟩ := u9
          have hP : va_P G vwCl [(aM, .inr (2, [.ref aF, .ref aL, .ref aX, .ref aC, .int vSz, .int vTl, .int z11, .ref aN, .int vMv])), (aF, .inl (cy 0, 512, .inl f3)), (aL, .inl (cy 0, 512, .inl fL)), (aX, .inl (cy 0, 81, .inl f12)), (aC, .inl (cy 0, 81, .inl f13)), (aN, .inr (3, [.ref aR, .int vn])), (aR, .inl (cy 0, 9, .inl fN))] H := P_back [0, 1, 2, 3, 4, 5, 6] [] 7 hP hD rfl rfl rfl rfl (by decide) (by decide) hk9 (by rw [← ht9]; exact hB9)
          have hD : va_D A [(aM, .inr (2, [.ref aF, .ref aL, .ref aX, .ref aC, .int vSz, .int vTl, .int z11, .ref aN, .int vMv])), (aF, .inl (cy 0, 512, .inl f3)), (aL, .inl (cy 0, 512, .inl fL)), (aX, .inl (cy 0, 81, .inl f12)), (aC, .inl (cy 0, 81, .inl f13)), (aN, .inr (3, [.ref aR, .int vn])), (aR, .inl (cy 0, 9, .inl fN))] := D_same hD rfl
          specialize h z11 f12 f13 hw9
          refine lv_aload_n hx hb dX2_settle_25 rfl (lv_at hl 0 rfl) ?_
          refine lv_iload_n hx hb dX2_settle_26 rfl (lv_at hl 1 rfl) ?_
          obtain ⟨Q14, hw9, h⟩ := h
          have hPc : va_P G vwCl [(aM, .inr (2, [.ref aF, .ref aL, .ref aX, .ref aC, .int vSz, .int vTl, .int z11, .ref aN, .int vMv])), (aF, .inl (cy 0, 512, .inl f3)), (aL, .inl (cy 0, 512, .inl fL)), (aX, .inl (cy 0, 81, .inl f12)), (aC, .inl (cy 0, 81, .inl f13)), (aN, .inr (3, [.ref aR, .int vn])), (aR, .inl (cy 0, 9, .inl fN))] H := hP.sub [0, 1, 2, 3, 4, 5, 6] rfl
          have hDc : va_D A [(aM, .inr (2, [.ref aF, .ref aL, .ref aX, .ref aC, .int vSz, .int vTl, .int z11, .ref aN, .int vMv])), (aF, .inl (cy 0, 512, .inl f3)), (aL, .inl (cy 0, 512, .inl fL)), (aX, .inl (cy 0, 81, .inl f12)), (aC, .inl (cy 0, 81, .inl f13)), (aN, .inr (3, [.ref aR, .int vn])), (aR, .inl (cy 0, 9, .inl fN))] := hD.sub [0, 1, 2, 3, 4, 5, 6] (by decide) rfl
          have hFc := va_free (wc := [(aM, .inr (2, [.ref aF, .ref aL, .ref aX, .ref aC, .int vSz, .int vTl, .int z11, .ref aN, .int vMv])), (aF, .inl (cy 0, 512, .inl f3)), (aL, .inl (cy 0, 512, .inl fL)), (aX, .inl (cy 0, 81, .inl f12)), (aC, .inl (cy 0, 81, .inl f13)), (aN, .inr (3, [.ref aR, .int vn])), (aR, .inl (cy 0, 9, .inl fN))]) hD hS hA [0, 1, 2, 3, 4, 5, 6] rfl
          refine va_callv (va_runV (As := [.int p1]) (rest := []) ⟨hx, hb, hml, hown, hts⟩ (ct_X2_lighten l G cy aM aF aL aX aC aN aR H.size vSz vTl z11 vMv f3 fL f12 f13 vn fN p1 Q14 hw9) (cwV 1 hts gX2_settle_X2_lighten rfl rfl rfl (by decide +kernel) ⟨Nat.le_of_ble_eq_true rfl, Nat.le_of_ble_eq_true rfl⟩) (wP_V hK hP (ci := 2) (q0 := 0) rfl rfl hPc hDc) rfl rfl hl.1 rfl (lv_room (Nat.le_of_ble_eq_true rfl)) dX2_settle_27 ⟨Nat.le_of_ble_eq_true rfl, Nat.le_of_ble_eq_true rfl⟩) hS (fun q9 _ h9 => hFc q9 h9) hFc (fun u9 t9 H locs ht9 hvm9 hw9 hB9 hz9 hk9 hS => ?_)
          obtain ⟨f16, rfl⟩ : ∃ z9, z9 = u9 := ⟨_, rfl⟩
          have hP : va_P G vwCl [(aM, .inr (2, [.ref aF, .ref aL, .ref aX, .ref aC, .int vSz, .int vTl, .int z11, .ref aN, .int vMv])), (aF, .inl (cy 0, 512, .inl f16)), (aL, .inl (cy 0, 512, .inl fL)), (aX, .inl (cy 0, 81, .inl f12)), (aC, .inl (cy 0, 81, .inl f13)), (aN, .inr (3, [.ref aR, .int vn])), (aR, .inl (cy 0, 9, .inl fN))] H := P_back [0, 1, 2, 3, 4, 5, 6] [] 7 hP hD rfl rfl rfl rfl (by decide) (by decide) hk9 (by rw [← ht9]; exact hB9)
          have hD : va_D A [(aM, .inr (2, [.ref aF, .ref aL, .ref aX, .ref aC, .int vSz, .int vTl, .int z11, .ref aN, .int vMv])), (aF, .inl (cy 0, 512, .inl f16)), (aL, .inl (cy 0, 512, .inl fL)), (aX, .inl (cy 0, 81, .inl f12)), (aC, .inl (cy 0, 81, .inl f13)), (aN, .inr (3, [.ref aR, .int vn])), (aR, .inl (cy 0, 9, .inl fN))] := D_same hD rfl
          specialize h f16 hw9
          obtain ⟨x17, ex17⟩ : ∃ y : Int32, y = y1 + 1 := ⟨_, rfl⟩
          specialize h x17 ex17
          refine lv_iinc (v := x17) (lv' := [(2, .int x17), (0, .ref aM), (1, .int p1)]) hx hb dX2_settle_30 hl (k := 2) rfl (by rw [ex17]; rfl) (by decide) rfl (fun ls hl => ?_)
          refine lv_goto (tgt := 2) hx hb dX2_settle_33 (by decide) ?_
          exact ih2 x17 z11 f16 f12 f13 h.1 (Nat.lt_of_lt_of_le h.2 (Nat.le_of_lt_succ hk2)) _ _ hP hD hS _ (lv_sub hl [1, 2, 0] rfl)
  exact key2 _ 0 vFo fF fX fC h02 (Nat.lt_succ_self _) _ _ hP hD hS _ (lv_sub hl [1, 2, 0] rfl)

set_option maxHeartbeats 4000000 in
set_option maxRecDepth 100000 in
theorem ct_X2_lightest (l : Launch) (G : va_G) (cy : Nat → ClassId) (aM aF aL aX aC aN aR : Nat) (sz : Nat) (vSz : Int32) (vTl : Int32) (vFo : Int32) (vMv : Int32) (fF : Nat → Int32) (fL : Nat → Int32) (fX : Nat → Int32) (fC : Nat → Int32) (vn : Int32) (fN : Nat → Int32) (p1 : Int32) (p2 : Int32) (Q : Int32 → Int32 → Int32 → (Nat → Int32) → (Nat → Int32) → (Nat → Int32) → (Nat → Int32) → Prop) (h : wp_X2_lightest vSz vTl vFo vMv fF fL fX fC vn fN p1 p2 Q) : Met l yX2_lightest wsX2_lightest rmX2_lightest (va_Pc [.ref aM, .int p1, .int p2] (wP G cy sz [(aM, .inr (2, [.ref aF, .ref aL, .ref aX, .ref aC, .int vSz, .int vTl, .int vFo, .ref aN, .int vMv])), (aF, .inl (cy 0, 512, .inl fF)), (aL, .inl (cy 0, 512, .inl fL)), (aX, .inl (cy 0, 81, .inl fX)), (aC, .inl (cy 0, 81, .inl fC)), (aN, .inr (3, [.ref aR, .int vn])), (aR, .inl (cy 0, 9, .inl fN))])) (va_Qi (fun (r : Int32) (u : Int32 × Int32 × (Nat → Int32) × (Nat → Int32) × (Nat → Int32) × (Nat → Int32)) => Q r u.1 u.2.1 u.2.2.1 u.2.2.2.1 u.2.2.2.2.1 u.2.2.2.2.2) (fun (u : Int32 × Int32 × (Nat → Int32) × (Nat → Int32) × (Nat → Int32) × (Nat → Int32)) (t : State) => va_P G vwCl [(aM, .inr (2, [.ref aF, .ref aL, .ref aX, .ref aC, .int vSz, .int u.1, .int u.2.1, .ref aN, .int vMv])), (aF, .inl (cy 0, 512, .inl u.2.2.1)), (aL, .inl (cy 0, 512, .inl u.2.2.2.1)), (aX, .inl (cy 0, 81, .inl u.2.2.2.2.1)), (aC, .inl (cy 0, 81, .inl u.2.2.2.2.2)), (aN, .inr (3, [.ref aR, .int vn])), (aR, .inl (cy 0, 9, .inl fN))] t.heap) (va_A [(aM, .inr (2, [.ref aF, .ref aL, .ref aX, .ref aC, .int vSz, .int vTl, .int vFo, .ref aN, .int vMv])), (aF, .inl (cy 0, 512, .inl fF)), (aL, .inl (cy 0, 512, .inl fL)), (aX, .inl (cy 0, 81, .inl fX)), (aC, .inl (cy 0, 81, .inl fC)), (aN, .inr (3, [.ref aR, .int vn])), (aR, .inl (cy 0, 9, .inl fN))] sz)) 0 0 (va_A [(aM, .inr (2, [.ref aF, .ref aL, .ref aX, .ref aC, .int vSz, .int vTl, .int vFo, .ref aN, .int vMv])), (aF, .inl (cy 0, 512, .inl fF)), (aL, .inl (cy 0, 512, .inl fL)), (aX, .inl (cy 0, 81, .inl fX)), (aC, .inl (cy 0, 81, .inl fC)), (aN, .inr (3, [.ref aR, .int vn])), (aR, .inl (cy 0, 9, .inl fN))] sz) := by
  unfold wp_X2_lightest at h
  refine Met.ofW (cc := cX2_lightest) (maxL := 5) (ret := (some .int)) (by decide) rfl ?_
  intro p e s m args below meth c s₁ B hml hv
  obtain ⟨hav, hsz, hP, hK, hD0⟩ := hv
  have hx := B.exec
  have hb := B.bytes
  have hr := B.returns
  have hts := atoms_spec (ws := wsX2_lightest) B.pre
  have hown : s.vm.findClass RX2 = some m.cls := findClass_of_methodNamed B.named
  have hlocks := B.notSynchronized
  subst hsz
  have hD := hD0.self (sz := s.heap.size)
  generalize hAe : va_A [(aM, .inr (2, [.ref aF, .ref aL, .ref aX, .ref aC, .int vSz, .int vTl, .int vFo, .ref aN, .int vMv])), (aF, .inl (cy 0, 512, .inl fF)), (aL, .inl (cy 0, 512, .inl fL)), (aX, .inl (cy 0, 81, .inl fX)), (aC, .inl (cy 0, 81, .inl fC)), (aN, .inr (3, [.ref aR, .int vn])), (aR, .inl (cy 0, 9, .inl fN))] s.heap.size = A at hD ⊢
  have hA : ∀ q : Nat, s.heap.size ≤ q → A q := fun q h9 => by rw [← hAe]; exact Or.inr h9
  have hS : va_S A s.heap s.heap [] := va_S.rf
  have hl := lv_entry ([.ref aM, .int p1, .int p2]) (n := 5) (Nat.le_of_ble_eq_true rfl)
  rw [show entryFrame m args 5 = entryFrame m ([.ref aM, .int p1, .int p2] : List Value).toArray 5 by rw [hav], lg_entry_eq]
  generalize (lg_sl ([.ref aM, .int p1, .int p2]) ++ List.replicate (5 - (lg_sl ([.ref aM, .int p1, .int p2])).length) Slot.unset).toArray = ls at hl ⊢
  have hl : lv_has ls 5 [(0, .ref aM), (1, .int p1), (2, .int p2)] := hl
  generalize hQe : MQ below _ _ _ _ _ _ = QM
  have hP : va_P G vwCl [(aM, .inr (2, [.ref aF, .ref aL, .ref aX, .ref aC, .int vSz, .int vTl, .int vFo, .ref aN, .int vMv])), (aF, .inl (cy 0, 512, .inl fF)), (aL, .inl (cy 0, 512, .inl fL)), (aX, .inl (cy 0, 81, .inl fX)), (aC, .inl (cy 0, 81, .inl fC)), (aN, .inr (3, [.ref aR, .int vn])), (aR, .inl (cy 0, 9, .inl fN))] s.heap := hP
  have iwX2 : ∀ w ∈ wsX20, w ∈ wsX2_lightest := by decide +kernel
  have fl41 := hts (.fieldLink RX2 41 "SlidTokens$Marks" "far" "[I") (by decide +kernel)
  have sf41 := hts (.sameField "SlidTokens$Marks" "SlidTokens$Search" "far" "[I") (by decide +kernel)
  suffices K9 : ∀ (H : Heap) (locs : List Loc), va_P G vwCl [(aM, .inr (2, [.ref aF, .ref aL, .ref aX, .ref aC, .int vSz, .int vTl, .int vFo, .ref aN, .int vMv])), (aF, .inl (cy 0, 512, .inl fF)), (aL, .inl (cy 0, 512, .inl fL)), (aX, .inl (cy 0, 81, .inl fX)), (aC, .inl (cy 0, 81, .inl fC)), (aN, .inr (3, [.ref aR, .int vn])), (aR, .inl (cy 0, 9, .inl fN))] H → va_D A [(aM, .inr (2, [.ref aF, .ref aL, .ref aX, .ref aC, .int vSz, .int vTl, .int vFo, .ref aN, .int vMv])), (aF, .inl (cy 0, 512, .inl fF)), (aL, .inl (cy 0, 512, .inl fL)), (aX, .inl (cy 0, 81, .inl fX)), (aC, .inl (cy 0, 81, .inl fC)), (aN, .inr (3, [.ref aR, .int vn])), (aR, .inl (cy 0, 9, .inl fN))] → va_S A s.heap H locs → W p l e (headSpec wsX2_lightest rmX2_lightest).room s m args below meth c H locs 0 0 QM (F0 m 0 ls []) from K9 _ _ hP hD hS
  clear hP hD hS
  intro H locs hP hD hS
  refine lv_aload_n hx hb dX2_lightest_0 rfl (lv_at hl 0 rfl) ?_
  refine lv_iload_n hx hb dX2_lightest_1 rfl (lv_at hl 1 rfl) ?_
  refine lv_iload_n hx hb dX2_lightest_2 rfl (lv_at hl 2 rfl) ?_
  obtain ⟨Q1, hw9, h⟩ := h
  have hPc : va_P G vwCl [(aM, .inr (2, [.ref aF, .ref aL, .ref aX, .ref aC, .int vSz, .int vTl, .int vFo, .ref aN, .int vMv])), (aF, .inl (cy 0, 512, .inl fF)), (aL, .inl (cy 0, 512, .inl fL)), (aX, .inl (cy 0, 81, .inl fX)), (aC, .inl (cy 0, 81, .inl fC)), (aN, .inr (3, [.ref aR, .int vn])), (aR, .inl (cy 0, 9, .inl fN))] H := hP.sub [0, 1, 2, 3, 4, 5, 6] rfl
  have hDc : va_D A [(aM, .inr (2, [.ref aF, .ref aL, .ref aX, .ref aC, .int vSz, .int vTl, .int vFo, .ref aN, .int vMv])), (aF, .inl (cy 0, 512, .inl fF)), (aL, .inl (cy 0, 512, .inl fL)), (aX, .inl (cy 0, 81, .inl fX)), (aC, .inl (cy 0, 81, .inl fC)), (aN, .inr (3, [.ref aR, .int vn])), (aR, .inl (cy 0, 9, .inl fN))] := hD.sub [0, 1, 2, 3, 4, 5, 6] (by decide) rfl
  have hFc := va_free (wc := [(aM, .inr (2, [.ref aF, .ref aL, .ref aX, .ref aC, .int vSz, .int vTl, .int vFo, .ref aN, .int vMv])), (aF, .inl (cy 0, 512, .inl fF)), (aL, .inl (cy 0, 512, .inl fL)), (aX, .inl (cy 0, 81, .inl fX)), (aC, .inl (cy 0, 81, .inl fC)), (aN, .inr (3, [.ref aR, .int vn])), (aR, .inl (cy 0, 9, .inl fN))]) hD hS hA [0, 1, 2, 3, 4, 5, 6] rfl
  refine va_calli (va_runU (As := [.int p1, .int p2]) (rest := []) ⟨hx, hb, hml, hown, hts⟩ (ct_X5_fewest_M l G cy aM aF aL aX aC aN aR H.size vSz vTl vFo vMv fF fL fX fC vn fN p1 p2 Q1 hw9) (va_cwU 2 hts gX2_lightest_X5_fewest_u64X2 rfl rfl rfl rfl (by decide +kernel) ⟨Nat.le_of_ble_eq_true rfl, Nat.le_of_ble_eq_true rfl⟩) (wP_V hK hP (ci := 2) (q0 := 0) rfl rfl hPc hDc) rfl rfl hl.1 rfl (lv_room (Nat.le_of_ble_eq_true rfl)) dX2_lightest_3 ⟨Nat.le_of_ble_eq_true rfl, Nat.le_of_ble_eq_true rfl⟩) hS (fun q9 _ h9 => hFc q9 h9) hFc (fun r2 u9 t9 H locs ht9 hvm9 hw9 hB9 hz9 hk9 hS => ?_)
  obtain ⟨z3, z4, f5, f6, f7, f8⟩ := u9
  have hP : va_P G vwCl [(aM, .inr (2, [.ref aF, .ref aL, .ref aX, .ref aC, .int vSz, .int z3, .int z4, .ref aN, .int vMv])), (aF, .inl (cy 0, 512, .inl f5)), (aL, .inl (cy 0, 512, .inl f6)), (aX, .inl (cy 0, 81, .inl f7)), (aC, .inl (cy 0, 81, .inl f8)), (aN, .inr (3, [.ref aR, .int vn])), (aR, .inl (cy 0, 9, .inl fN))] H := P_back [0, 1, 2, 3, 4, 5, 6] [] 7 hP hD rfl rfl rfl rfl (by decide) (by decide) hk9 (by rw [← ht9]; exact hB9)
  have hD : va_D A [(aM, .inr (2, [.ref aF, .ref aL, .ref aX, .ref aC, .int vSz, .int z3, .int z4, .ref aN, .int vMv])), (aF, .inl (cy 0, 512, .inl f5)), (aL, .inl (cy 0, 512, .inl f6)), (aX, .inl (cy 0, 81, .inl f7)), (aC, .inl (cy 0, 81, .inl f8)), (aN, .inr (3, [.ref aR, .int vn])), (aR, .inl (cy 0, 9, .inl fN))] := D_same hD rfl
  specialize h r2 z3 z4 f5 f6 f7 f8 hw9
  refine lv_istore_n (lv' := [(3, .int r2), (0, .ref aM), (1, .int p1), (2, .int p2)]) hx hb dX2_lightest_6 rfl hl (by decide) rfl (fun ls hl => ?_)
  refine lv_iload_n hx hb dX2_lightest_7 rfl (lv_at hl 0 rfl) ?_
  refine lv_if_gt (tgt := 13) hx hb dX2_lightest_8 (by decide) (fun c9 => ?_) (fun c9 => ?_)
  · obtain ⟨h, -⟩ := h
    specialize h c9
    refine lv_aload_n hx hb dX2_lightest_13 rfl (lv_at hl 1 rfl) ?_
    obtain ⟨Q10, hw9, h⟩ := h
    have hPc : va_P G vwCl [(aM, .inr (2, [.ref aF, .ref aL, .ref aX, .ref aC, .int vSz, .int z3, .int z4, .ref aN, .int vMv])), (aF, .inl (cy 0, 512, .inl f5)), (aL, .inl (cy 0, 512, .inl f6)), (aX, .inl (cy 0, 81, .inl f7)), (aC, .inl (cy 0, 81, .inl f8)), (aN, .inr (3, [.ref aR, .int vn])), (aR, .inl (cy 0, 9, .inl fN))] H := hP.sub [0, 1, 2, 3, 4, 5, 6] rfl
    have hDc : va_D A [(aM, .inr (2, [.ref aF, .ref aL, .ref aX, .ref aC, .int vSz, .int z3, .int z4, .ref aN, .int vMv])), (aF, .inl (cy 0, 512, .inl f5)), (aL, .inl (cy 0, 512, .inl f6)), (aX, .inl (cy 0, 81, .inl f7)), (aC, .inl (cy 0, 81, .inl f8)), (aN, .inr (3, [.ref aR, .int vn])), (aR, .inl (cy 0, 9, .inl fN))] := hD.sub [0, 1, 2, 3, 4, 5, 6] (by decide) rfl
    have hFc := va_free (wc := [(aM, .inr (2, [.ref aF, .ref aL, .ref aX, .ref aC, .int vSz, .int z3, .int z4, .ref aN, .int vMv])), (aF, .inl (cy 0, 512, .inl f5)), (aL, .inl (cy 0, 512, .inl f6)), (aX, .inl (cy 0, 81, .inl f7)), (aC, .inl (cy 0, 81, .inl f8)), (aN, .inr (3, [.ref aR, .int vn])), (aR, .inl (cy 0, 9, .inl fN))]) hD hS hA [0, 1, 2, 3, 4, 5, 6] rfl
    refine va_callv (va_runV (As := []) (rest := []) ⟨hx, hb, hml, hown, hts⟩ (ct_X2_forgetSpread l G cy aM aF aL aX aC aN aR H.size vSz z3 z4 vMv f5 f6 f7 f8 vn fN Q10 hw9) (cwV 0 hts gX2_lightest_X2_forgetSpread rfl rfl rfl (by decide +kernel) ⟨Nat.le_of_ble_eq_true rfl, Nat.le_of_ble_eq_true rfl⟩) (wP_V hK hP (ci := 2) (q0 := 0) rfl rfl hPc hDc) rfl rfl hl.1 rfl (lv_room (Nat.le_of_ble_eq_true rfl)) dX2_lightest_14 ⟨Nat.le_of_ble_eq_true rfl, Nat.le_of_ble_eq_true rfl⟩) hS (fun q9 _ h9 => hFc q9 h9) hFc (fun u9 t9 H locs ht9 hvm9 hw9 hB9 hz9 hk9 hS => ?_)
    obtain ⟨z12, f13⟩ := u9
    have hP : va_P G vwCl [(aM, .inr (2, [.ref aF, .ref aL, .ref aX, .ref aC, .int vSz, .int z12, .int z4, .ref aN, .int vMv])), (aF, .inl (cy 0, 512, .inl f13)), (aL, .inl (cy 0, 512, .inl f6)), (aX, .inl (cy 0, 81, .inl f7)), (aC, .inl (cy 0, 81, .inl f8)), (aN, .inr (3, [.ref aR, .int vn])), (aR, .inl (cy 0, 9, .inl fN))] H := P_back [0, 1, 2, 3, 4, 5, 6] [] 7 hP hD rfl rfl rfl rfl (by decide) (by decide) hk9 (by rw [← ht9]; exact hB9)
    have hD : va_D A [(aM, .inr (2, [.ref aF, .ref aL, .ref aX, .ref aC, .int vSz, .int z12, .int z4, .ref aN, .int vMv])), (aF, .inl (cy 0, 512, .inl f13)), (aL, .inl (cy 0, 512, .inl f6)), (aX, .inl (cy 0, 81, .inl f7)), (aC, .inl (cy 0, 81, .inl f8)), (aN, .inr (3, [.ref aR, .int vn])), (aR, .inl (cy 0, 9, .inl fN))] := D_same hD rfl
    specialize h z12 f13 hw9
    refine lv_aload_n hx hb dX2_lightest_17 rfl (lv_at hl 1 rfl) ?_
    refine va_get (D := G) (ci := 2) (v := .ref aF) (C := RX2) (T := TX2) (N := 9) hx hb hts iwX2 hown hK.1 hP 0 rfl rfl 0 (by decide) fl41 (fun x9 h9 => u_same sf41 x9 h9) rfl dX2_lightest_18 ?_
    refine lv_iload_n hx hb dX2_lightest_21 rfl (lv_at hl 2 rfl) ?_
    refine lv_iconst (v := 0) hx hb dX2_lightest_22 (by decide) ?_
    obtain ⟨hi, h⟩ := h
    refine va_iast hx hb hK.1 hP hD hS 1 0 rfl rfl hi dX2_lightest_23 (fun H locs hP hD hS => ?_)
    obtain ⟨f14, ef14⟩ : ∃ z9 : Nat → Int32, z9 = upd f13 (p1 : Int32).toNatClampNeg 0 := ⟨_, rfl⟩
    specialize h f14 ef14
    have hP : va_P G vwCl [(aM, .inr (2, [.ref aF, .ref aL, .ref aX, .ref aC, .int vSz, .int z12, .int z4, .ref aN, .int vMv])), (aF, .inl (cy 0, 512, .inl f14)), (aL, .inl (cy 0, 512, .inl f6)), (aX, .inl (cy 0, 81, .inl f7)), (aC, .inl (cy 0, 81, .inl f8)), (aN, .inr (3, [.ref aR, .int vn])), (aR, .inl (cy 0, 9, .inl fN))] H := by rw [ef14]; exact hP
    have hD : va_D A [(aM, .inr (2, [.ref aF, .ref aL, .ref aX, .ref aC, .int vSz, .int z12, .int z4, .ref aN, .int vMv])), (aF, .inl (cy 0, 512, .inl f14)), (aL, .inl (cy 0, 512, .inl f6)), (aX, .inl (cy 0, 81, .inl f7)), (aC, .inl (cy 0, 81, .inl f8)), (aN, .inr (3, [.ref aR, .int vn])), (aR, .inl (cy 0, 9, .inl fN))] := D_same hD rfl
    refine lv_iconst (v := 0) hx hb dX2_lightest_24 (by decide) ?_
    refine lv_istore (lv' := [(4, .int 0), (3, .int r2), (0, .ref aM), (1, .int p1), (2, .int p2)]) hx hb dX2_lightest_25 hl (by decide) rfl (fun ls hl => ?_)
    obtain ⟨I27_19, u27_19, h027, hst27⟩ := h
    have key27 : ∀ (k9 : Nat) (y15 : Int32) (z16 : Int32) (f17 : Nat → Int32) (f18 : Nat → Int32) (f19 : Nat → Int32), I27_19 y15 z16 f17 f18 f19 → u27_19 y15 z16 f17 f18 f19 < k9 → ∀ (H : Heap) (locs : List Loc), va_P G vwCl [(aM, .inr (2, [.ref aF, .ref aL, .ref aX, .ref aC, .int vSz, .int z12, .int z16, .ref aN, .int vMv])), (aF, .inl (cy 0, 512, .inl f17)), (aL, .inl (cy 0, 512, .inl f6)), (aX, .inl (cy 0, 81, .inl f18)), (aC, .inl (cy 0, 81, .inl f19)), (aN, .inr (3, [.ref aR, .int vn])), (aR, .inl (cy 0, 9, .inl fN))] H → va_D A [(aM, .inr (2, [.ref aF, .ref aL, .ref aX, .ref aC, .int vSz, .int z12, .int z16, .ref aN, .int vMv])), (aF, .inl (cy 0, 512, .inl f17)), (aL, .inl (cy 0, 512, .inl f6)), (aX, .inl (cy 0, 81, .inl f18)), (aC, .inl (cy 0, 81, .inl f19)), (aN, .inr (3, [.ref aR, .int vn])), (aR, .inl (cy 0, 9, .inl fN))] → va_S A s.heap H locs → ∀ (ls : Array Slot), lv_has ls 5 [(0, .ref aM), (2, .int p2), (3, .int r2), (4, .int y15)] → W p l e (headSpec wsX2_lightest rmX2_lightest).room s m args below meth c H locs 0 0 QM (F0 m 27 ls []) := by
      intro k9
      induction k9 with
      | zero =>
        intro y15 z16 f17 f18 f19 hI9 hk9
        exact absurd hk9 (Nat.not_lt_zero _)
      | succ k9 ih27 =>
        intro y15 z16 f17 f18 f19 hI9 hk27 H locs hP hD hS ls hl
        have h := hst27 y15 z16 f17 f18 f19 hI9
        refine lv_iload hx hb dX2_lightest_27 (lv_at hl 3 rfl) ?_
        refine lv_iload_n hx hb dX2_lightest_29 rfl (lv_at hl 2 rfl) ?_
        refine lv_iconst (v := 3) hx hb dX2_lightest_30 (by decide) ?_
        refine lv_imul hx hb dX2_lightest_31 ?_
        refine lv_icmp_ge (tgt := 58) hx hb dX2_lightest_32 (by decide) (fun c20 => ?_) (fun c20 => ?_)
        · obtain ⟨h, -⟩ := h
          specialize h c20
          refine lv_aload_n hx hb dX2_lightest_58 rfl (lv_at hl 0 rfl) ?_
          refine va_get (D := G) (ci := 2) (v := .ref aF) (C := RX2) (T := TX2) (N := 9) hx hb hts iwX2 hown hK.1 hP 0 rfl rfl 0 (by decide) fl41 (fun x9 h9 => u_same sf41 x9 h9) rfl dX2_lightest_59 ?_
          refine lv_iload_n hx hb dX2_lightest_62 rfl (lv_at hl 1 rfl) ?_
          obtain ⟨hi, h⟩ := h
          refine va_iald hx hb hK.1 hP 1 0 rfl rfl hi dX2_lightest_63 ?_
          rw [← hQe]
          exact W.iret (v := (f17 (p2 : Int32).toNatClampNeg)) hx hb hr (fun t ht hW => ⟨⟨(f17 (p2 : Int32).toNatClampNeg), (z12, z16, f17, f6, f18, f19), rfl, h, by dsimp only; rw [ht]; exact hP⟩, hS.F ht⟩) hS.2.2 dX2_lightest_64
        · obtain ⟨-, h⟩ := h
          specialize h c20
          refine lv_aload_n hx hb dX2_lightest_35 rfl (lv_at hl 0 rfl) ?_
          refine va_get (D := G) (ci := 2) (v := .ref aF) (C := RX2) (T := TX2) (N := 9) hx hb hts iwX2 hown hK.1 hP 0 rfl rfl 0 (by decide) fl41 (fun x9 h9 => u_same sf41 x9 h9) rfl dX2_lightest_36 ?_
          refine lv_iload_n hx hb dX2_lightest_39 rfl (lv_at hl 1 rfl) ?_
          obtain ⟨hi, h⟩ := h
          refine va_iald hx hb hK.1 hP 1 0 rfl rfl hi dX2_lightest_40 ?_
          refine lv_iload hx hb dX2_lightest_41 (lv_at hl 3 rfl) ?_
          refine lv_icmp_eq (tgt := 58) hx hb dX2_lightest_43 (by decide) (fun c21 => ?_) (fun c21 => ?_)
          · obtain ⟨h, -⟩ := h
            specialize h c21
            refine lv_aload_n hx hb dX2_lightest_58 rfl (lv_at hl 0 rfl) ?_
            refine va_get (D := G) (ci := 2) (v := .ref aF) (C := RX2) (T := TX2) (N := 9) hx hb hts iwX2 hown hK.1 hP 0 rfl rfl 0 (by decide) fl41 (fun x9 h9 => u_same sf41 x9 h9) rfl dX2_lightest_59 ?_
            refine lv_iload_n hx hb dX2_lightest_62 rfl (lv_at hl 1 rfl) ?_
            obtain ⟨hi, h⟩ := h
            refine va_iald hx hb hK.1 hP 1 0 rfl rfl hi dX2_lightest_63 ?_
            rw [← hQe]
            exact W.iret (v := (f17 (p2 : Int32).toNatClampNeg)) hx hb hr (fun t ht hW => ⟨⟨(f17 (p2 : Int32).toNatClampNeg), (z12, z16, f17, f6, f18, f19), rfl, h, by dsimp only; rw [ht]; exact hP⟩, hS.F ht⟩) hS.2.2 dX2_lightest_64
          · obtain ⟨-, h⟩ := h
            specialize h c21
            refine lv_aload_n hx hb dX2_lightest_46 rfl (lv_at hl 0 rfl) ?_
            refine lv_iload hx hb dX2_lightest_47 (lv_at hl 3 rfl) ?_
            obtain ⟨Q22, hw9, h⟩ := h
            have hPc : va_P G vwCl [(aM, .inr (2, [.ref aF, .ref aL, .ref aX, .ref aC, .int vSz, .int z12, .int z16, .ref aN, .int vMv])), (aF, .inl (cy 0, 512, .inl f17)), (aL, .inl (cy 0, 512, .inl f6)), (aX, .inl (cy 0, 81, .inl f18)), (aC, .inl (cy 0, 81, .inl f19)), (aN, .inr (3, [.ref aR, .int vn])), (aR, .inl (cy 0, 9, .inl fN))] H := hP.sub [0, 1, 2, 3, 4, 5, 6] rfl
            have hDc : va_D A [(aM, .inr (2, [.ref aF, .ref aL, .ref aX, .ref aC, .int vSz, .int z12, .int z16, .ref aN, .int vMv])), (aF, .inl (cy 0, 512, .inl f17)), (aL, .inl (cy 0, 512, .inl f6)), (aX, .inl (cy 0, 81, .inl f18)), (aC, .inl (cy 0, 81, .inl f19)), (aN, .inr (3, [.ref aR, .int vn])), (aR, .inl (cy 0, 9, .inl fN))] := hD.sub [0, 1, 2, 3, 4, 5, 6] (by decide) rfl
            have hFc := va_free (wc := [(aM, .inr (2, [.ref aF, .ref aL, .ref aX, .ref aC, .int vSz, .int z12, .int z16, .ref aN, .int vMv])), (aF, .inl (cy 0, 512, .inl f17)), (aL, .inl (cy 0, 512, .inl f6)), (aX, .inl (cy 0, 81, .inl f18)), (aC, .inl (cy 0, 81, .inl f19)), (aN, .inr (3, [.ref aR, .int vn])), (aR, .inl (cy 0, 9, .inl fN))]) hD hS hA [0, 1, 2, 3, 4, 5, 6] rfl
            refine va_callv (va_runV (As := [.int y15]) (rest := []) ⟨hx, hb, hml, hown, hts⟩ (ct_X2_settle l G cy aM aF aL aX aC aN aR H.size vSz z12 z16 vMv f17 f6 f18 f19 vn fN y15 Q22 hw9) (cwV 1 hts gX2_lightest_X2_settle rfl rfl rfl (by decide +kernel) ⟨Nat.le_of_ble_eq_true rfl, Nat.le_of_ble_eq_true rfl⟩) (wP_V hK hP (ci := 2) (q0 := 0) rfl rfl hPc hDc) rfl rfl hl.1 rfl (lv_room (Nat.le_of_ble_eq_true rfl)) dX2_lightest_49 ⟨Nat.le_of_ble_eq_true rfl, Nat.le_of_ble_eq_true rfl⟩) hS (fun q9 _ h9 => hFc q9 h9) hFc (fun u9 t9 H locs ht9 hvm9 hw9 hB9 hz9 hk9 hS => ?_)
            obtain ⟨z24, f25, f26, f27⟩ := u9
            have hP : va_P G vwCl [(aM, .inr (2, [.ref aF, .ref aL, .ref aX, .ref aC, .int vSz, .int z12, .int z24, .ref aN, .int vMv])), (aF, .inl (cy 0, 512, .inl f25)), (aL, .inl (cy 0, 512, .inl f6)), (aX, .inl (cy 0, 81, .inl f26)), (aC, .inl (cy 0, 81, .inl f27)), (aN, .inr (3, [.ref aR, .int vn])), (aR, .inl (cy 0, 9, .inl fN))] H := P_back [0, 1, 2, 3, 4, 5, 6] [] 7 hP hD rfl rfl rfl rfl (by decide) (by decide) hk9 (by rw [← ht9]; exact hB9)
            have hD : va_D A [(aM, .inr (2, [.ref aF, .ref aL, .ref aX, .ref aC, .int vSz, .int z12, .int z24, .ref aN, .int vMv])), (aF, .inl (cy 0, 512, .inl f25)), (aL, .inl (cy 0, 512, .inl f6)), (aX, .inl (cy 0, 81, .inl f26)), (aC, .inl (cy 0, 81, .inl f27)), (aN, .inr (3, [.ref aR, .int vn])), (aR, .inl (cy 0, 9, .inl fN))] := D_same hD rfl
            specialize h z24 f25 f26 f27 hw9
            obtain ⟨x28, ex28⟩ : ∃ y : Int32, y = y15 + 1 := ⟨_, rfl⟩
            specialize h x28 ex28
            refine lv_iinc (v := x28) (lv' := [(4, .int x28), (0, .ref aM), (2, .int p2), (3, .int r2)]) hx hb dX2_lightest_52 hl (k := 3) rfl (by rw [ex28]; rfl) (by decide) rfl (fun ls hl => ?_)
            refine lv_goto (tgt := 27) hx hb dX2_lightest_55 (by decide) ?_
            exact ih27 x28 z24 f25 f26 f27 h.1 (Nat.lt_of_lt_of_le h.2 (Nat.le_of_lt_succ hk27)) _ _ hP hD hS _ (lv_sub hl [1, 2, 3, 0] rfl)
    exact key27 _ 0 z4 f14 f7 f8 h027 (Nat.lt_succ_self _) _ _ hP hD hS _ (lv_sub hl [2, 4, 1, 0] rfl)
  · obtain ⟨-, h⟩ := h
    specialize h c9
    refine lv_iload_n hx hb dX2_lightest_11 rfl (lv_at hl 0 rfl) ?_
    rw [← hQe]
    exact W.iret (v := r2) hx hb hr (fun t ht hW => ⟨⟨r2, (z3, z4, f5, f6, f7, f8), rfl, h, by dsimp only; rw [ht]; exact hP⟩, hS.F ht⟩) hS.2.2 dX2_lightest_12

set_option maxHeartbeats 4000000 in
set_option maxRecDepth 100000 in
theorem ct_X2_frozen (l : Launch) (G : va_G) (cy : Nat → ClassId) (aM aF aL aX aC aN aR : Nat) (vSz : Int32) (vTl : Int32) (vFo : Int32) (vMv : Int32) (fF : Nat → Int32) (fL : Nat → Int32) (fX : Nat → Int32) (fC : Nat → Int32) (vn : Int32) (fN : Nat → Int32) (Q : Int32 → Prop) (h : wp_X2_frozen vTl fL vn Q) : Met l yX2_frozen wsX2_frozen rmX2_frozen (va_Pc [.ref aM] (rP G cy [(aM, .inr (2, [.ref aF, .ref aL, .ref aX, .ref aC, .int vSz, .int vTl, .int vFo, .ref aN, .int vMv])), (aF, .inl (cy 0, 512, .inl fF)), (aL, .inl (cy 0, 512, .inl fL)), (aX, .inl (cy 0, 81, .inl fX)), (aC, .inl (cy 0, 81, .inl fC)), (aN, .inr (3, [.ref aR, .int vn])), (aR, .inl (cy 0, 9, .inl fN))])) (vp_Si Q) 0 0 (fun _ => False) := by
  unfold wp_X2_frozen at h
  refine Met.ofW (cc := cX2_frozen) (maxL := 3) (ret := (some .int)) (by decide) rfl ?_
  intro p e s m args below meth c s₁ B hml hv
  obtain ⟨hav, hP, hK⟩ := hv
  have hx := B.exec
  have hb := B.bytes
  have hr := B.returns
  have hts := atoms_spec (ws := wsX2_frozen) B.pre
  have hown : s.vm.findClass RX2 = some m.cls := findClass_of_methodNamed B.named
  have hlocks := B.notSynchronized
  have hl := lv_entry ([.ref aM]) (n := 3) (Nat.le_of_ble_eq_true rfl)
  rw [show entryFrame m args 3 = entryFrame m ([.ref aM] : List Value).toArray 3 by rw [hav], lg_entry_eq]
  generalize (lg_sl ([.ref aM]) ++ List.replicate (3 - (lg_sl ([.ref aM])).length) Slot.unset).toArray = ls at hl ⊢
  have hl : lv_has ls 3 [(0, .ref aM)] := hl
  generalize hQe : MQ below _ _ _ _ _ _ = QM
  have iwX2 : ∀ w ∈ wsX20, w ∈ wsX2_frozen := by decide +kernel
  have fl15 := hts (.fieldLink RX2 15 "SlidTokens$Marks" "net" "LSlidTokens$Net;") (by decide +kernel)
  have fl28 := hts (.fieldLink RX2 28 "SlidTokens$Marks" "tail" "I") (by decide +kernel)
  have sf28 := hts (.sameField "SlidTokens$Marks" "SlidTokens$Search" "tail" "I") (by decide +kernel)
  have fl82 := hts (.fieldLink RX2 82 "SlidTokens$Marks" "line" "[I") (by decide +kernel)
  have sf82 := hts (.sameField "SlidTokens$Marks" "SlidTokens$Search" "line" "[I") (by decide +kernel)
  refine lv_aload_n hx hb dX2_frozen_0 rfl (lv_at hl 0 rfl) ?_
  refine va_get (D := G) (ci := 2) (v := .ref aN) (C := RX2) (T := TX2) (N := 9) hx hb hts iwX2 hown hK.1 hP 0 rfl rfl 7 (by decide) fl15 (fun _ h9 => h9) rfl dX2_frozen_1 ?_
  obtain ⟨Q1, hw9, h⟩ := h
  have hPc : va_P G vwCl [(aN, .inr (3, [.ref aR, .int vn])), (aR, .inl (cy 0, 9, .inl fN))] s.heap := hP.sub [5, 6] rfl
  refine vp_callSi (va_Run.run (va_runV (As := []) (rest := []) ⟨hx, hb, hml, hown, hts⟩ (ct_X3_all l G cy aN aR vn fN Q1 hw9) (cwV 0 hts gX2_frozen_X3_all rfl rfl rfl (by decide +kernel) ⟨Nat.le_of_ble_eq_true rfl, Nat.le_of_ble_eq_true rfl⟩) (rP_V hK hP (ci := 3) (q0 := 5) rfl rfl hPc) rfl rfl hl.1 rfl (lv_room (Nat.le_of_ble_eq_true rfl)) dX2_frozen_4 ⟨Nat.le_of_ble_eq_true rfl, Nat.le_of_ble_eq_true rfl⟩)) (fun r2 er2 => ?_)
  specialize h r2 er2
  refine lv_istore_n (lv' := [(1, .int r2), (0, .ref aM)]) hx hb dX2_frozen_7 rfl hl (by decide) rfl (fun ls hl => ?_)
  refine lv_iconst (v := 0) hx hb dX2_frozen_8 (by decide) ?_
  refine lv_istore_n (lv' := [(2, .int 0), (1, .int r2), (0, .ref aM)]) hx hb dX2_frozen_9 rfl hl (by decide) rfl (fun ls hl => ?_)
  obtain ⟨I10_4, u10_4, h010, hst10⟩ := h
  have key10 : ∀ (k9 : Nat) (y3 : Int32) (y4 : Int32), I10_4 y3 y4 → u10_4 y3 y4 < k9 → ∀ (ls : Array Slot), lv_has ls 3 [(0, .ref aM), (1, .int y3), (2, .int y4)] → W p l e (headSpec wsX2_frozen rmX2_frozen).room s m args below meth c s.heap [] 0 0 QM (F0 m 10 ls []) := by
    intro k9
    induction k9 with
    | zero =>
      intro y3 y4 hI9 hk9
      exact absurd hk9 (Nat.not_lt_zero _)
    | succ k9 ih10 =>
      intro y3 y4 hI9 hk10 ls hl
      have h := hst10 y3 y4 hI9
      refine lv_iload_n hx hb dX2_frozen_10 rfl (lv_at hl 2 rfl) ?_
      refine lv_aload_n hx hb dX2_frozen_11 rfl (lv_at hl 0 rfl) ?_
      refine va_get (D := G) (ci := 2) (v := .int vTl) (C := RX2) (T := TX2) (N := 9) hx hb hts iwX2 hown hK.1 hP 0 rfl rfl 5 (by decide) fl28 (fun x9 h9 => u_same sf28 x9 h9) rfl dX2_frozen_12 ?_
      refine lv_icmp_ge (tgt := 33) hx hb dX2_frozen_15 (by decide) (fun c5 => ?_) (fun c5 => ?_)
      · obtain ⟨h, -⟩ := h
        specialize h c5
        refine lv_iload_n hx hb dX2_frozen_33 rfl (lv_at hl 1 rfl) ?_
        rw [← hQe]
        exact W.iret (v := y3) hx hb hr (fun t ht hW => ⟨y3, rfl, h, ht⟩) (fun q9 h9 => by cases h9) dX2_frozen_34
      · obtain ⟨-, h⟩ := h
        specialize h c5
        refine lv_iload_n hx hb dX2_frozen_18 rfl (lv_at hl 1 rfl) ?_
        refine lv_aload_n hx hb dX2_frozen_19 rfl (lv_at hl 0 rfl) ?_
        refine va_get (D := G) (ci := 2) (v := .ref aL) (C := RX2) (T := TX2) (N := 9) hx hb hts iwX2 hown hK.1 hP 0 rfl rfl 1 (by decide) fl82 (fun x9 h9 => u_same sf82 x9 h9) rfl dX2_frozen_20 ?_
        refine lv_iload_n hx hb dX2_frozen_23 rfl (lv_at hl 2 rfl) ?_
        obtain ⟨hi, h⟩ := h
        refine va_iald hx hb hK.1 hP 2 0 rfl rfl hi dX2_frozen_24 ?_
        refine lv_iand hx hb dX2_frozen_25 ?_
        refine lv_topi (fun x6 ex6 => ?_)
        specialize h x6 ex6
        refine lv_istore_n (lv' := [(1, .int x6), (0, .ref aM), (2, .int y4)]) hx hb dX2_frozen_26 rfl hl (by decide) rfl (fun ls hl => ?_)
        obtain ⟨x7, ex7⟩ : ∃ y : Int32, y = y4 + 1 := ⟨_, rfl⟩
        specialize h x7 ex7
        refine lv_iinc (v := x7) (lv' := [(2, .int x7), (1, .int x6), (0, .ref aM)]) hx hb dX2_frozen_27 hl (k := 2) rfl (by rw [ex7]; rfl) (by decide) rfl (fun ls hl => ?_)
        refine lv_goto (tgt := 10) hx hb dX2_frozen_30 (by decide) ?_
        exact ih10 x6 x7 h.1 (Nat.lt_of_lt_of_le h.2 (Nat.le_of_lt_succ hk10)) _ (lv_sub hl [2, 1, 0] rfl)
  exact key10 _ r2 0 h010 (Nat.lt_succ_self _) _ (lv_sub hl [2, 1, 0] rfl)

set_option maxHeartbeats 4000000 in
set_option maxRecDepth 100000 in
theorem ct_X2_farthest (l : Launch) (G : va_G) (cy : Nat → ClassId) (aM aF aL aX aC aN aR : Nat) (vSz : Int32) (vTl : Int32) (vFo : Int32) (vMv : Int32) (fF : Nat → Int32) (fL : Nat → Int32) (fX : Nat → Int32) (fC : Nat → Int32) (vn : Int32) (fN : Nat → Int32) (Q : Int32 → Prop) (h : wp_X2_farthest vTl fF fL Q) : Met l yX2_farthest wsX2_farthest rmX2_farthest (va_Pc [.ref aM] (rP G cy [(aM, .inr (2, [.ref aF, .ref aL, .ref aX, .ref aC, .int vSz, .int vTl, .int vFo, .ref aN, .int vMv])), (aF, .inl (cy 0, 512, .inl fF)), (aL, .inl (cy 0, 512, .inl fL)), (aX, .inl (cy 0, 81, .inl fX)), (aC, .inl (cy 0, 81, .inl fC)), (aN, .inr (3, [.ref aR, .int vn])), (aR, .inl (cy 0, 9, .inl fN))])) (vp_Si Q) 0 0 (fun _ => False) := by
  unfold wp_X2_farthest at h
  refine Met.ofW (cc := cX2_farthest) (maxL := 1) (ret := (some .int)) (by decide) rfl ?_
  intro p e s m args below meth c s₁ B hml hv
  obtain ⟨hav, hP, hK⟩ := hv
  have hx := B.exec
  have hb := B.bytes
  have hr := B.returns
  have hts := atoms_spec (ws := wsX2_farthest) B.pre
  have hown : s.vm.findClass RX2 = some m.cls := findClass_of_methodNamed B.named
  have hlocks := B.notSynchronized
  have hl := lv_entry ([.ref aM]) (n := 1) (Nat.le_of_ble_eq_true rfl)
  rw [show entryFrame m args 1 = entryFrame m ([.ref aM] : List Value).toArray 1 by rw [hav], lg_entry_eq]
  generalize (lg_sl ([.ref aM]) ++ List.replicate (1 - (lg_sl ([.ref aM])).length) Slot.unset).toArray = ls at hl ⊢
  have hl : lv_has ls 1 [(0, .ref aM)] := hl
  generalize hQe : MQ below _ _ _ _ _ _ = QM
  have iwX2 : ∀ w ∈ wsX20, w ∈ wsX2_farthest := by decide +kernel
  have fl28 := hts (.fieldLink RX2 28 "SlidTokens$Marks" "tail" "I") (by decide +kernel)
  have sf28 := hts (.sameField "SlidTokens$Marks" "SlidTokens$Search" "tail" "I") (by decide +kernel)
  have fl41 := hts (.fieldLink RX2 41 "SlidTokens$Marks" "far" "[I") (by decide +kernel)
  have sf41 := hts (.sameField "SlidTokens$Marks" "SlidTokens$Search" "far" "[I") (by decide +kernel)
  have fl82 := hts (.fieldLink RX2 82 "SlidTokens$Marks" "line" "[I") (by decide +kernel)
  have sf82 := hts (.sameField "SlidTokens$Marks" "SlidTokens$Search" "line" "[I") (by decide +kernel)
  refine lv_aload_n hx hb dX2_farthest_0 rfl (lv_at hl 0 rfl) ?_
  refine va_get (D := G) (ci := 2) (v := .int vTl) (C := RX2) (T := TX2) (N := 9) hx hb hts iwX2 hown hK.1 hP 0 rfl rfl 5 (by decide) fl28 (fun x9 h9 => u_same sf28 x9 h9) rfl dX2_farthest_1 ?_
  refine lv_if_ne (tgt := 11) hx hb dX2_farthest_4 (by decide) (fun c1 => ?_) (fun c1 => ?_)
  · obtain ⟨-, h⟩ := h
    specialize h c1
    refine lv_aload_n hx hb dX2_farthest_11 rfl (lv_at hl 0 rfl) ?_
    refine va_get (D := G) (ci := 2) (v := .ref aF) (C := RX2) (T := TX2) (N := 9) hx hb hts iwX2 hown hK.1 hP 0 rfl rfl 0 (by decide) fl41 (fun x9 h9 => u_same sf41 x9 h9) rfl dX2_farthest_12 ?_
    refine lv_aload_n hx hb dX2_farthest_15 rfl (lv_at hl 0 rfl) ?_
    refine va_get (D := G) (ci := 2) (v := .ref aL) (C := RX2) (T := TX2) (N := 9) hx hb hts iwX2 hown hK.1 hP 0 rfl rfl 1 (by decide) fl82 (fun x9 h9 => u_same sf82 x9 h9) rfl dX2_farthest_16 ?_
    refine lv_aload_n hx hb dX2_farthest_19 rfl (lv_at hl 0 rfl) ?_
    refine va_get (D := G) (ci := 2) (v := .int vTl) (C := RX2) (T := TX2) (N := 9) hx hb hts iwX2 hown hK.1 hP 0 rfl rfl 5 (by decide) fl28 (fun x9 h9 => u_same sf28 x9 h9) rfl dX2_farthest_20 ?_
    refine lv_iconst (v := 1) hx hb dX2_farthest_23 (by decide) ?_
    refine lv_isub hx hb dX2_farthest_24 ?_
    obtain ⟨hi, h⟩ := h
    refine va_iald hx hb hK.1 hP 2 0 rfl rfl hi dX2_farthest_25 ?_
    obtain ⟨hi, h⟩ := h
    refine va_iald hx hb hK.1 hP 1 0 rfl rfl hi dX2_farthest_26 ?_
    rw [← hQe]
    exact W.iret (v := (fF ((fL ((vTl - (1 : Int32)) : Int32).toNatClampNeg) : Int32).toNatClampNeg)) hx hb hr (fun t ht hW => ⟨(fF ((fL ((vTl - (1 : Int32)) : Int32).toNatClampNeg) : Int32).toNatClampNeg), rfl, h, ht⟩) (fun q9 h9 => by cases h9) dX2_farthest_27
  · obtain ⟨h, -⟩ := h
    specialize h c1
    refine lv_iconst (v := 0) hx hb dX2_farthest_7 (by decide) ?_
    refine lv_goto (tgt := 27) hx hb dX2_farthest_8 (by decide) ?_
    rw [← hQe]
    exact W.iret (v := 0) hx hb hr (fun t ht hW => ⟨0, rfl, h, ht⟩) (fun q9 h9 => by cases h9) dX2_farthest_27
