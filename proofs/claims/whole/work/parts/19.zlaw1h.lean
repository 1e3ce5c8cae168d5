set_option maxHeartbeats 8000000 in
set_option maxRecDepth 100000 in
theorem lawc_7 {p : Program} {l : Launch} {e : Env} {s : State} {m : MethodId} {below : List Frame} {meth : Method} {c : Code} {b L : Nat} {xs : Nat → Int32} (C0 : lw_At p s m meth c b L xs) (G : va_G) (cy : Nat → ClassId) (a0 aM aF aL aX aC aP bF bL bX bC aN aR aW aS aJ aB aT m0 mJ mF mD mS mP : Nat) (I18_33 : Int32 → Int32 → Int32 → Int32 → Int32 → Int32 → Int32 → Int32 → (Nat → Int32) → (Nat → Int32) → (Nat → Int32) → (Nat → Int32) → Int32 → Int32 → Int32 → Int32 → (Nat → Int32) → (Nat → Int32) → (Nat → Int32) → (Nat → Int32) → Int32 → (Nat → Int32) → Int64 → Int32 → Int32 → Int32 → Int32 → Int64 → (Nat → Int32) → (Nat → Int32) → (Nat → Int32) → (Nat → Int32) → (Nat → Int32) → Prop) (u18_33 : Int32 → Int32 → Int32 → Int32 → Int32 → Int32 → Int32 → Int32 → (Nat → Int32) → (Nat → Int32) → (Nat → Int32) → (Nat → Int32) → Int32 → Int32 → Int32 → Int32 → (Nat → Int32) → (Nat → Int32) → (Nat → Int32) → (Nat → Int32) → Int32 → (Nat → Int32) → Int64 → Int32 → Int32 → Int32 → Int32 → Int64 → (Nat → Int32) → (Nat → Int32) → (Nat → Int32) → (Nat → Int32) → (Nat → Int32) → Nat) (k9 : Nat) (y1 : Int32) (z2 : Int32) (z3 : Int32) (z4 : Int32) (z5 : Int32) (z6 : Int32) (z7 : Int32) (z8 : Int32) (f9 : Nat → Int32) (f10 : Nat → Int32) (f11 : Nat → Int32) (f12 : Nat → Int32) (z13 : Int32) (z14 : Int32) (z15 : Int32) (z16 : Int32) (f17 : Nat → Int32) (f18 : Nat → Int32) (f19 : Nat → Int32) (f20 : Nat → Int32) (z21 : Int32) (f22 : Nat → Int32) (z23 : Int64) (z24 : Int32) (z25 : Int32) (z26 : Int32) (z27 : Int32) (z28 : Int64) (f29 : Nat → Int32) (f30 : Nat → Int32) (f31 : Nat → Int32) (f32 : Nat → Int32) (f33 : Nat → Int32) (hk18 : u18_33 y1 z2 z3 z4 z5 z6 z7 z8 f9 f10 f11 f12 z13 z14 z15 z16 f17 f18 f19 f20 z21 f22 z23 z24 z25 z26 z27 z28 f29 f30 f31 f32 f33 < k9 + 1) (ih18 : ∀ (y1 : Int32) (z2 : Int32) (z3 : Int32) (z4 : Int32) (z5 : Int32) (z6 : Int32) (z7 : Int32) (z8 : Int32) (f9 : Nat → Int32) (f10 : Nat → Int32) (f11 : Nat → Int32) (f12 : Nat → Int32) (z13 : Int32) (z14 : Int32) (z15 : Int32) (z16 : Int32) (f17 : Nat → Int32) (f18 : Nat → Int32) (f19 : Nat → Int32) (f20 : Nat → Int32) (z21 : Int32) (f22 : Nat → Int32) (z23 : Int64) (z24 : Int32) (z25 : Int32) (z26 : Int32) (z27 : Int32) (z28 : Int64) (f29 : Nat → Int32) (f30 : Nat → Int32) (f31 : Nat → Int32) (f32 : Nat → Int32) (f33 : Nat → Int32), I18_33 y1 z2 z3 z4 z5 z6 z7 z8 f9 f10 f11 f12 z13 z14 z15 z16 f17 f18 f19 f20 z21 f22 z23 z24 z25 z26 z27 z28 f29 f30 f31 f32 f33 → u18_33 y1 z2 z3 z4 z5 z6 z7 z8 f9 f10 f11 f12 z13 z14 z15 z16 f17 f18 f19 f20 z21 f22 z23 z24 z25 z26 z27 z28 f29 f30 f31 f32 f33 < k9 → ∀ (H : Heap) (locs : List Loc), va_P G vwCl (wAll cy a0 aM aF aL aX aC aP bF bL bX bC aN aR aW aS aJ aB aT m0 mJ mF mD mS mP z2 z3 z4 z5 z6 z7 z8 f9 f10 f11 f12 z13 z14 z15 z16 f17 f18 f19 f20 z21 f22 z23 z24 z25 z26 z27 z28 f29 f30 f31 f32 f33) H → va_D (fun q => s.heap.size ≤ q) (wAll cy a0 aM aF aL aX aC aP bF bL bX bC aN aR aW aS aJ aB aT m0 mJ mF mD mS mP z2 z3 z4 z5 z6 z7 z8 f9 f10 f11 f12 z13 z14 z15 z16 f17 f18 f19 f20 z21 f22 z23 z24 z25 z26 z27 z28 f29 f30 f31 f32 f33) → va_S (fun q => s.heap.size ≤ q) s.heap H locs → ∀ (ls : Array Slot), lv_has ls 4 [(0, .ref b), (1, .ref a0), (2, .ref m0), (3, .int y1)] → W p l e room_1 s m #[Value.ref b] below meth c H locs 24 18702 (lw_Z below #[Value.ref b] s) (F0 m 18 ls [])) (h : vp_in (y1 + (1 : Int32)) L ∧ vp_in (y1 + (2 : Int32)) L ∧ vp_in (y1 + (3 : Int32)) L ∧ vp_in (y1 + (4 : Int32)) L ∧ vp_in (y1 + (5 : Int32)) L ∧ ∃ Q102 : Int32 → Int32 → Int32 → Int32 → Int32 → (Nat → Int32) → (Nat → Int32) → (Nat → Int32) → (Nat → Int32) → Prop, wp_X8_walk z2 z3 z5 z6 z7 z8 f9 f10 f11 f12 z21 f22 (xs ((y1 + (1 : Int32)) : Int32).toNatClampNeg) (xs ((y1 + (2 : Int32)) : Int32).toNatClampNeg) (xs ((y1 + (3 : Int32)) : Int32).toNatClampNeg) (xs ((y1 + (4 : Int32)) : Int32).toNatClampNeg) (xs ((y1 + (5 : Int32)) : Int32).toNatClampNeg) Q102 ∧ ∀ (r103 : Int32) (z104 : Int32) (z105 : Int32) (z106 : Int32) (z107 : Int32) (f108 : Nat → Int32) (f109 : Nat → Int32) (f110 : Nat → Int32) (f111 : Nat → Int32), Q102 r103 z104 z105 z106 z107 f108 f109 f110 f111 → vp_in (y1 + (1 : Int32)) L ∧ vp_in (y1 + (2 : Int32)) L ∧ vp_in (y1 + (3 : Int32)) L ∧ vp_in (y1 + (4 : Int32)) L ∧ vp_in (y1 + (5 : Int32)) L ∧ ∃ Q112 : Int32 → (Nat → Int32) → (Nat → Int32) → Prop, wp_X9_walk z24 z25 z26 f29 f30 f31 (xs ((y1 + (1 : Int32)) : Int32).toNatClampNeg) (xs ((y1 + (2 : Int32)) : Int32).toNatClampNeg) (xs ((y1 + (3 : Int32)) : Int32).toNatClampNeg) (xs ((y1 + (4 : Int32)) : Int32).toNatClampNeg) (xs ((y1 + (5 : Int32)) : Int32).toNatClampNeg) Q112 ∧ ∀ (r113 : Int32) (f114 : Nat → Int32) (f115 : Nat → Int32), Q112 r113 f114 f115 → ((r103 = r113 → ∀ x117 : Int32, x117 = y1 + 6 → I18_33 x117 z2 z3 z4 z104 z105 z106 z107 f108 f109 f110 f111 z13 z14 z15 z16 f17 f18 f19 f20 z21 f22 z23 z24 z25 z26 z27 z28 f29 f114 f115 f32 f33 ∧ u18_33 x117 z2 z3 z4 z104 z105 z106 z107 f108 f109 f110 f111 z13 z14 z15 z16 f17 f18 f19 f20 z21 f22 z23 z24 z25 z26 z27 z28 f29 f114 f115 f32 f33 < u18_33 y1 z2 z3 z4 z5 z6 z7 z8 f9 f10 f11 f12 z13 z14 z15 z16 f17 f18 f19 f20 z21 f22 z23 z24 z25 z26 z27 z28 f29 f30 f31 f32 f33) ∧ (¬ r103 = r113 → False))) (hK : KK G cy s) (H : Heap) (locs : List Loc) (hP : va_P G vwCl (wAll cy a0 aM aF aL aX aC aP bF bL bX bC aN aR aW aS aJ aB aT m0 mJ mF mD mS mP z2 z3 z4 z5 z6 z7 z8 f9 f10 f11 f12 z13 z14 z15 z16 f17 f18 f19 f20 z21 f22 z23 z24 z25 z26 z27 z28 f29 f30 f31 f32 f33) H) (hD : va_D (fun q => s.heap.size ≤ q) (wAll cy a0 aM aF aL aX aC aP bF bL bX bC aN aR aW aS aJ aB aT m0 mJ mF mD mS mP z2 z3 z4 z5 z6 z7 z8 f9 f10 f11 f12 z13 z14 z15 z16 f17 f18 f19 f20 z21 f22 z23 z24 z25 z26 z27 z28 f29 f30 f31 f32 f33)) (hS : va_S (fun q => s.heap.size ≤ q) s.heap H locs) (ls : Array Slot) (hl : lv_has ls 4 [(0, .ref b), (1, .ref a0), (2, .ref m0), (3, .int y1)]) : W p l e room_1 s m #[Value.ref b] below meth c H locs 24 18702 (lw_Z below #[Value.ref b] s) (F0 m 339 ls []) := by
  obtain ⟨hx, hb, hr, hml, hown, hts0, hX, hbl, hlocks, hgv⟩ := id C0
  have hts : ∀ w ∈ wsLE, w.before #[Value.ref b] s = true := fun w hw => hts0 w (wsLE_in w hw)
  have hbA : ¬ (fun q => s.heap.size ≤ q) b := Nat.not_le.mpr hbl
  have hA : ∀ q : Nat, s.heap.size ≤ q → (fun q => s.heap.size ≤ q) q := fun _ h9 => h9
  refine lv_aload_n hx hb dL_law_339 rfl (lv_at hl 1 rfl) ?_
  refine lv_aload_n hx hb dL_law_340 rfl (lv_at hl 0 rfl) ?_
  refine lv_iload_n hx hb dL_law_341 rfl (lv_at hl 3 rfl) ?_
  refine lv_iconst (v := 1) hx hb dL_law_342 (by decide) ?_
  refine lv_iadd hx hb dL_law_343 ?_
  obtain ⟨hi, h⟩ := h
  refine va_sld hx hb hX hbl hbA hS hi dL_law_344 ?_
  refine lv_aload_n hx hb dL_law_345 rfl (lv_at hl 0 rfl) ?_
  refine lv_iload_n hx hb dL_law_346 rfl (lv_at hl 3 rfl) ?_
  refine lv_iconst (v := 2) hx hb dL_law_347 (by decide) ?_
  refine lv_iadd hx hb dL_law_348 ?_
  obtain ⟨hi, h⟩ := h
  refine va_sld hx hb hX hbl hbA hS hi dL_law_349 ?_
  refine lv_aload_n hx hb dL_law_350 rfl (lv_at hl 0 rfl) ?_
  refine lv_iload_n hx hb dL_law_351 rfl (lv_at hl 3 rfl) ?_
  refine lv_iconst (v := 3) hx hb dL_law_352 (by decide) ?_
  refine lv_iadd hx hb dL_law_353 ?_
  obtain ⟨hi, h⟩ := h
  refine va_sld hx hb hX hbl hbA hS hi dL_law_354 ?_
  refine lv_aload_n hx hb dL_law_355 rfl (lv_at hl 0 rfl) ?_
  refine lv_iload_n hx hb dL_law_356 rfl (lv_at hl 3 rfl) ?_
  refine lv_iconst (v := 4) hx hb dL_law_357 (by decide) ?_
  refine lv_iadd hx hb dL_law_358 ?_
  obtain ⟨hi, h⟩ := h
  refine va_sld hx hb hX hbl hbA hS hi dL_law_359 ?_
  refine lv_aload_n hx hb dL_law_360 rfl (lv_at hl 0 rfl) ?_
  refine lv_iload_n hx hb dL_law_361 rfl (lv_at hl 3 rfl) ?_
  refine lv_iconst (v := 5) hx hb dL_law_362 (by decide) ?_
  refine lv_iadd hx hb dL_law_363 ?_
  obtain ⟨hi, h⟩ := h
  refine va_sld hx hb hX hbl hbA hS hi dL_law_364 ?_
  obtain ⟨Q102, hw9, h⟩ := h
  have hPc : va_P G vwCl [(a0, .inr (7, [.ref aN, .ref aM, .ref aP, .ref aW, .ref aT, .int z2, .int z3, .int z4])), (aM, .inr (2, [.ref aF, .ref aL, .ref aX, .ref aC, .int z5, .int z6, .int z7, .ref aN, .int z8])), (aF, .inl (cy 0, 512, .inl f9)), (aL, .inl (cy 0, 512, .inl f10)), (aX, .inl (cy 0, 81, .inl f11)), (aC, .inl (cy 0, 81, .inl f12)), (aN, .inr (3, [.ref aR, .int z21])), (aR, .inl (cy 0, 9, .inl f22))] H := hP.sub [0, 1, 2, 3, 4, 5, 11, 12] rfl
  have hDc : va_D (fun q => s.heap.size ≤ q) [(a0, .inr (7, [.ref aN, .ref aM, .ref aP, .ref aW, .ref aT, .int z2, .int z3, .int z4])), (aM, .inr (2, [.ref aF, .ref aL, .ref aX, .ref aC, .int z5, .int z6, .int z7, .ref aN, .int z8])), (aF, .inl (cy 0, 512, .inl f9)), (aL, .inl (cy 0, 512, .inl f10)), (aX, .inl (cy 0, 81, .inl f11)), (aC, .inl (cy 0, 81, .inl f12)), (aN, .inr (3, [.ref aR, .int z21])), (aR, .inl (cy 0, 9, .inl f22))] := hD.sub [0, 1, 2, 3, 4, 5, 11, 12] (by decide) rfl
  have hFc := va_free (wc := [(a0, .inr (7, [.ref aN, .ref aM, .ref aP, .ref aW, .ref aT, .int z2, .int z3, .int z4])), (aM, .inr (2, [.ref aF, .ref aL, .ref aX, .ref aC, .int z5, .int z6, .int z7, .ref aN, .int z8])), (aF, .inl (cy 0, 512, .inl f9)), (aL, .inl (cy 0, 512, .inl f10)), (aX, .inl (cy 0, 81, .inl f11)), (aC, .inl (cy 0, 81, .inl f12)), (aN, .inr (3, [.ref aR, .int z21])), (aR, .inl (cy 0, 9, .inl f22))]) hD hS hA [0, 1, 2, 3, 4, 5, 11, 12] rfl
  refine va_calli (va_runV (As := [.int (xs ((y1 + (1 : Int32)) : Int32).toNatClampNeg), .int (xs ((y1 + (2 : Int32)) : Int32).toNatClampNeg), .int (xs ((y1 + (3 : Int32)) : Int32).toNatClampNeg), .int (xs ((y1 + (4 : Int32)) : Int32).toNatClampNeg), .int (xs ((y1 + (5 : Int32)) : Int32).toNatClampNeg)]) (rest := []) ⟨hx, hb, hml, hown, hts⟩ (ct_X8_walk l G cy a0 aM aF aL aX aC aN aR aP aW aT H.size z2 z3 z4 z5 z6 z7 z8 f9 f10 f11 f12 z21 f22 (xs ((y1 + (1 : Int32)) : Int32).toNatClampNeg) (xs ((y1 + (2 : Int32)) : Int32).toNatClampNeg) (xs ((y1 + (3 : Int32)) : Int32).toNatClampNeg) (xs ((y1 + (4 : Int32)) : Int32).toNatClampNeg) (xs ((y1 + (5 : Int32)) : Int32).toNatClampNeg) Q102 hw9) (cwV 5 hts gL_law_X8_walkE rfl rfl rfl (by decide +kernel) ⟨Nat.le_of_ble_eq_true rfl, Nat.le_of_ble_eq_true rfl⟩) (wP_V hK hP (ci := 7) (q0 := 0) rfl rfl hPc hDc) rfl rfl hl.1 rfl (lv_room (Nat.le_of_ble_eq_true rfl)) dL_law_365 ⟨Nat.le_of_ble_eq_true rfl, Nat.le_of_ble_eq_true rfl⟩) hS (fun q9 _ h9 => hFc q9 h9) hFc (fun r103 u9 t9 H locs ht9 hvm9 hw9 hB9 hz9 hk9 hS => ?_)
  obtain ⟨z104, z105, z106, z107, f108, f109, f110, f111⟩ := u9
  have hP : va_P G vwCl (wAll cy a0 aM aF aL aX aC aP bF bL bX bC aN aR aW aS aJ aB aT m0 mJ mF mD mS mP z2 z3 z4 z104 z105 z106 z107 f108 f109 f110 f111 z13 z14 z15 z16 f17 f18 f19 f20 z21 f22 z23 z24 z25 z26 z27 z28 f29 f30 f31 f32 f33) H := P_back2 (ws := (wAll cy a0 aM aF aL aX aC aP bF bL bX bC aN aR aW aS aJ aB aT m0 mJ mF mD mS mP z2 z3 z4 z5 z6 z7 z8 f9 f10 f11 f12 z13 z14 z15 z16 f17 f18 f19 f20 z21 f22 z23 z24 z25 z26 z27 z28 f29 f30 f31 f32 f33)) (wc := [(a0, .inr (7, [.ref aN, .ref aM, .ref aP, .ref aW, .ref aT, .int z2, .int z3, .int z4])), (aM, .inr (2, [.ref aF, .ref aL, .ref aX, .ref aC, .int z5, .int z6, .int z7, .ref aN, .int z8])), (aF, .inl (cy 0, 512, .inl f9)), (aL, .inl (cy 0, 512, .inl f10)), (aX, .inl (cy 0, 81, .inl f11)), (aC, .inl (cy 0, 81, .inl f12)), (aN, .inr (3, [.ref aR, .int z21])), (aR, .inl (cy 0, 9, .inl f22))]) (w1 := [(a0, .inr (7, [.ref aN, .ref aM, .ref aP, .ref aW, .ref aT, .int z2, .int z3, .int z4])), (aM, .inr (2, [.ref aF, .ref aL, .ref aX, .ref aC, .int z104, .int z105, .int z106, .ref aN, .int z107])), (aF, .inl (cy 0, 512, .inl f108)), (aL, .inl (cy 0, 512, .inl f109)), (aX, .inl (cy 0, 81, .inl f110)), (aC, .inl (cy 0, 81, .inl f111)), (aN, .inr (3, [.ref aR, .int z21])), (aR, .inl (cy 0, 9, .inl f22))]) (wr := [(aP, .inr (4, [.ref bF, .ref bL, .ref bX, .ref bC, .int z13, .int z14, .int z15, .ref aN, .int z16])), (bF, .inl (cy 0, 4096, .inl f17)), (bL, .inl (cy 0, 4096, .inl f18)), (bX, .inl (cy 0, 24, .inl f19)), (bC, .inl (cy 0, 24, .inl f20)), (aW, .inl (cy 2, 3, .inr (.inr (.inr (.inr (wgh aS aJ aB)))))), (aS, .inr (5, [])), (aJ, .inr (1, [])), (aB, .inr (0, [])), (aT, .inr (6, [.long z23])), (m0, .inr (8, [.int z24, .ref mJ, .int z25, .int z26, .int z27, .long z28, .ref mF, .ref mD, .ref mS, .ref mP])), (mJ, .inl (cy 0, 9, .inl f29)), (mF, .inl (cy 0, 512, .inl f30)), (mD, .inl (cy 1, 512, .inl f31)), (mS, .inl (cy 0, 4096, .inl f32)), (mP, .inl (cy 0, 4096, .inl f33))]) [0, 1, 2, 3, 4, 5, 11, 12] [6, 7, 8, 9, 10, 13, 14, 15, 16, 17, 18, 19, 20, 21, 22, 23] 24 hP hD rfl rfl rfl rfl rfl (by decide) (by decide) hk9 (by rw [← ht9]; exact hB9)
  have hD : va_D (fun q => s.heap.size ≤ q) (wAll cy a0 aM aF aL aX aC aP bF bL bX bC aN aR aW aS aJ aB aT m0 mJ mF mD mS mP z2 z3 z4 z104 z105 z106 z107 f108 f109 f110 f111 z13 z14 z15 z16 f17 f18 f19 f20 z21 f22 z23 z24 z25 z26 z27 z28 f29 f30 f31 f32 f33) := D_same2 [a0, aM, aF, aL, aX, aC, aP, bF, bL, bX, bC, aN, aR, aW, aS, aJ, aB, aT, m0, mJ, mF, mD, mS, mP] hD rfl rfl
  specialize h r103 z104 z105 z106 z107 f108 f109 f110 f111 hw9
  refine lv_aload_n hx hb dL_law_368 rfl (lv_at hl 2 rfl) ?_
  refine lv_aload_n hx hb dL_law_369 rfl (lv_at hl 0 rfl) ?_
  refine lv_iload_n hx hb dL_law_370 rfl (lv_at hl 3 rfl) ?_
  refine lv_iconst (v := 1) hx hb dL_law_371 (by decide) ?_
  refine lv_iadd hx hb dL_law_372 ?_
  obtain ⟨hi, h⟩ := h
  refine va_sld hx hb hX hbl hbA hS hi dL_law_373 ?_
  refine lv_aload_n hx hb dL_law_374 rfl (lv_at hl 0 rfl) ?_
  refine lv_iload_n hx hb dL_law_375 rfl (lv_at hl 3 rfl) ?_
  refine lv_iconst (v := 2) hx hb dL_law_376 (by decide) ?_
  refine lv_iadd hx hb dL_law_377 ?_
  obtain ⟨hi, h⟩ := h
  refine va_sld hx hb hX hbl hbA hS hi dL_law_378 ?_
  refine lv_aload_n hx hb dL_law_379 rfl (lv_at hl 0 rfl) ?_
  refine lv_iload_n hx hb dL_law_380 rfl (lv_at hl 3 rfl) ?_
  refine lv_iconst (v := 3) hx hb dL_law_381 (by decide) ?_
  refine lv_iadd hx hb dL_law_382 ?_
  obtain ⟨hi, h⟩ := h
  refine va_sld hx hb hX hbl hbA hS hi dL_law_383 ?_
  refine lv_aload_n hx hb dL_law_384 rfl (lv_at hl 0 rfl) ?_
  refine lv_iload_n hx hb dL_law_385 rfl (lv_at hl 3 rfl) ?_
  refine lv_iconst (v := 4) hx hb dL_law_386 (by decide) ?_
  refine lv_iadd hx hb dL_law_387 ?_
  obtain ⟨hi, h⟩ := h
  refine va_sld hx hb hX hbl hbA hS hi dL_law_388 ?_
  refine lv_aload_n hx hb dL_law_389 rfl (lv_at hl 0 rfl) ?_
  refine lv_iload_n hx hb dL_law_390 rfl (lv_at hl 3 rfl) ?_
  refine lv_iconst (v := 5) hx hb dL_law_391 (by decide) ?_
  refine lv_iadd hx hb dL_law_392 ?_
  obtain ⟨hi, h⟩ := h
  refine va_sld hx hb hX hbl hbA hS hi dL_law_393 ?_
  obtain ⟨Q112, hw9, h⟩ := h
  have hPc : va_P G vwCl [(m0, .inr (8, [.int z24, .ref mJ, .int z25, .int z26, .int z27, .long z28, .ref mF, .ref mD, .ref mS, .ref mP])), (mJ, .inl (cy 0, 9, .inl f29)), (mF, .inl (cy 0, 512, .inl f30)), (mD, .inl (cy 1, 512, .inl f31))] H := hP.sub [18, 19, 20, 21] rfl
  have hDc : va_D (fun q => s.heap.size ≤ q) [(m0, .inr (8, [.int z24, .ref mJ, .int z25, .int z26, .int z27, .long z28, .ref mF, .ref mD, .ref mS, .ref mP])), (mJ, .inl (cy 0, 9, .inl f29)), (mF, .inl (cy 0, 512, .inl f30)), (mD, .inl (cy 1, 512, .inl f31))] := hD.sub [18, 19, 20, 21] (by decide) rfl
  have hFc := va_free (wc := [(m0, .inr (8, [.int z24, .ref mJ, .int z25, .int z26, .int z27, .long z28, .ref mF, .ref mD, .ref mS, .ref mP])), (mJ, .inl (cy 0, 9, .inl f29)), (mF, .inl (cy 0, 512, .inl f30)), (mD, .inl (cy 1, 512, .inl f31))]) hD hS hA [18, 19, 20, 21] rfl
  refine va_calli (va_runV (As := [.int (xs ((y1 + (1 : Int32)) : Int32).toNatClampNeg), .int (xs ((y1 + (2 : Int32)) : Int32).toNatClampNeg), .int (xs ((y1 + (3 : Int32)) : Int32).toNatClampNeg), .int (xs ((y1 + (4 : Int32)) : Int32).toNatClampNeg), .int (xs ((y1 + (5 : Int32)) : Int32).toNatClampNeg)]) (rest := [.int r103]) ⟨hx, hb, hml, hown, hts⟩ (ct_X9_walk l G cy m0 mJ mF mD mS mP H.size z24 z25 z26 z27 z28 f29 f30 f31 (xs ((y1 + (1 : Int32)) : Int32).toNatClampNeg) (xs ((y1 + (2 : Int32)) : Int32).toNatClampNeg) (xs ((y1 + (3 : Int32)) : Int32).toNatClampNeg) (xs ((y1 + (4 : Int32)) : Int32).toNatClampNeg) (xs ((y1 + (5 : Int32)) : Int32).toNatClampNeg) Q112 hw9) (cwV 5 hts gL_law_X9_walkE rfl rfl rfl (by decide +kernel) ⟨Nat.le_of_ble_eq_true rfl, Nat.le_of_ble_eq_true rfl⟩) (wP_V hK hP (ci := 8) (q0 := 18) rfl rfl hPc hDc) rfl rfl hl.1 rfl (lv_room (Nat.le_of_ble_eq_true rfl)) dL_law_394 ⟨Nat.le_of_ble_eq_true rfl, Nat.le_of_ble_eq_true rfl⟩) hS (fun q9 _ h9 => hFc q9 h9) hFc (fun r113 u9 t9 H locs ht9 hvm9 hw9 hB9 hz9 hk9 hS => ?_)
  obtain ⟨f114, f115⟩ := u9
  have hP : va_P G vwCl (wAll cy a0 aM aF aL aX aC aP bF bL bX bC aN aR aW aS aJ aB aT m0 mJ mF mD mS mP z2 z3 z4 z104 z105 z106 z107 f108 f109 f110 f111 z13 z14 z15 z16 f17 f18 f19 f20 z21 f22 z23 z24 z25 z26 z27 z28 f29 f114 f115 f32 f33) H := P_back2 (ws := (wAll cy a0 aM aF aL aX aC aP bF bL bX bC aN aR aW aS aJ aB aT m0 mJ mF mD mS mP z2 z3 z4 z104 z105 z106 z107 f108 f109 f110 f111 z13 z14 z15 z16 f17 f18 f19 f20 z21 f22 z23 z24 z25 z26 z27 z28 f29 f30 f31 f32 f33)) (wc := [(m0, .inr (8, [.int z24, .ref mJ, .int z25, .int z26, .int z27, .long z28, .ref mF, .ref mD, .ref mS, .ref mP])), (mJ, .inl (cy 0, 9, .inl f29)), (mF, .inl (cy 0, 512, .inl f30)), (mD, .inl (cy 1, 512, .inl f31))]) (w1 := [(m0, .inr (8, [.int z24, .ref mJ, .int z25, .int z26, .int z27, .long z28, .ref mF, .ref mD, .ref mS, .ref mP])), (mJ, .inl (cy 0, 9, .inl f29)), (mF, .inl (cy 0, 512, .inl f114)), (mD, .inl (cy 1, 512, .inl f115))]) (wr := [(a0, .inr (7, [.ref aN, .ref aM, .ref aP, .ref aW, .ref aT, .int z2, .int z3, .int z4])), (aM, .inr (2, [.ref aF, .ref aL, .ref aX, .ref aC, .int z104, .int z105, .int z106, .ref aN, .int z107])), (aF, .inl (cy 0, 512, .inl f108)), (aL, .inl (cy 0, 512, .inl f109)), (aX, .inl (cy 0, 81, .inl f110)), (aC, .inl (cy 0, 81, .inl f111)), (aP, .inr (4, [.ref bF, .ref bL, .ref bX, .ref bC, .int z13, .int z14, .int z15, .ref aN, .int z16])), (bF, .inl (cy 0, 4096, .inl f17)), (bL, .inl (cy 0, 4096, .inl f18)), (bX, .inl (cy 0, 24, .inl f19)), (bC, .inl (cy 0, 24, .inl f20)), (aN, .inr (3, [.ref aR, .int z21])), (aR, .inl (cy 0, 9, .inl f22)), (aW, .inl (cy 2, 3, .inr (.inr (.inr (.inr (wgh aS aJ aB)))))), (aS, .inr (5, [])), (aJ, .inr (1, [])), (aB, .inr (0, [])), (aT, .inr (6, [.long z23])), (mS, .inl (cy 0, 4096, .inl f32)), (mP, .inl (cy 0, 4096, .inl f33))]) [18, 19, 20, 21] [0, 1, 2, 3, 4, 5, 6, 7, 8, 9, 10, 11, 12, 13, 14, 15, 16, 17, 22, 23] 24 hP hD rfl rfl rfl rfl rfl (by decide) (by decide) hk9 (by rw [← ht9]; exact hB9)
  have hD : va_D (fun q => s.heap.size ≤ q) (wAll cy a0 aM aF aL aX aC aP bF bL bX bC aN aR aW aS aJ aB aT m0 mJ mF mD mS mP z2 z3 z4 z104 z105 z106 z107 f108 f109 f110 f111 z13 z14 z15 z16 f17 f18 f19 f20 z21 f22 z23 z24 z25 z26 z27 z28 f29 f114 f115 f32 f33) := D_same2 [a0, aM, aF, aL, aX, aC, aP, bF, bL, bX, bC, aN, aR, aW, aS, aJ, aB, aT, m0, mJ, mF, mD, mS, mP] hD rfl rfl
  specialize h r113 f114 f115 hw9
  refine lv_icmp_eq (tgt := 614) hx hb dL_law_397 (by decide) (fun c116 => ?_) (fun c116 => ?_)
  · obtain ⟨h, -⟩ := h
    specialize h c116
    obtain ⟨x117, ex117⟩ : ∃ y : Int32, y = y1 + 6 := ⟨_, rfl⟩
    specialize h x117 ex117
    refine lv_iinc (v := x117) (lv' := [(3, .int x117), (0, .ref b), (1, .ref a0), (2, .ref m0)]) hx hb dL_law_614 hl (k := 3) rfl (by rw [ex117]; rfl) (by decide) rfl (fun ls hl => ?_)
    refine lv_goto (tgt := 18) hx hb dL_law_617 (by decide) ?_
    exact ih18 x117 z2 z3 z4 z104 z105 z106 z107 f108 f109 f110 f111 z13 z14 z15 z16 f17 f18 f19 f20 z21 f22 z23 z24 z25 z26 z27 z28 f29 f114 f115 f32 f33 h.1 (Nat.lt_of_lt_of_le h.2 (Nat.le_of_lt_succ hk18)) _ _ hP hD hS _ (lv_sub hl [1, 2, 3, 0] rfl)
  · obtain ⟨-, h⟩ := h
    specialize h c116
    refine lv_iconst (v := 0) hx hb dL_law_400 (by decide) ?_
    exact h.elim
