set_option maxHeartbeats 8000000 in
set_option maxRecDepth 100000 in
theorem lawc_5 {p : Program} {l : Launch} {e : Env} {s : State} {m : MethodId} {below : List Frame} {meth : Method} {c : Code} {b L : Nat} {xs : Nat → Int32} (C0 : lw_At p s m meth c b L xs) (G : va_G) (cy : Nat → ClassId) (a0 aM aF aL aX aC aP bF bL bX bC aN aR aW aS aJ aB aT m0 mJ mF mD mS mP : Nat) (I18_33 : Int32 → Int32 → Int32 → Int32 → Int32 → Int32 → Int32 → Int32 → (Nat → Int32) → (Nat → Int32) → (Nat → Int32) → (Nat → Int32) → Int32 → Int32 → Int32 → Int32 → (Nat → Int32) → (Nat → Int32) → (Nat → Int32) → (Nat → Int32) → Int32 → (Nat → Int32) → Int64 → Int32 → Int32 → Int32 → Int32 → Int64 → (Nat → Int32) → (Nat → Int32) → (Nat → Int32) → (Nat → Int32) → (Nat → Int32) → Prop) (u18_33 : Int32 → Int32 → Int32 → Int32 → Int32 → Int32 → Int32 → Int32 → (Nat → Int32) → (Nat → Int32) → (Nat → Int32) → (Nat → Int32) → Int32 → Int32 → Int32 → Int32 → (Nat → Int32) → (Nat → Int32) → (Nat → Int32) → (Nat → Int32) → Int32 → (Nat → Int32) → Int64 → Int32 → Int32 → Int32 → Int32 → Int64 → (Nat → Int32) → (Nat → Int32) → (Nat → Int32) → (Nat → Int32) → (Nat → Int32) → Nat) (k9 : Nat) (y1 : Int32) (z2 : Int32) (z3 : Int32) (z4 : Int32) (z5 : Int32) (z6 : Int32) (z7 : Int32) (z8 : Int32) (f9 : Nat → Int32) (f10 : Nat → Int32) (f11 : Nat → Int32) (f12 : Nat → Int32) (z13 : Int32) (z14 : Int32) (z15 : Int32) (z16 : Int32) (f17 : Nat → Int32) (f18 : Nat → Int32) (f19 : Nat → Int32) (f20 : Nat → Int32) (z21 : Int32) (f22 : Nat → Int32) (z23 : Int64) (z24 : Int32) (z25 : Int32) (z26 : Int32) (z27 : Int32) (z28 : Int64) (f29 : Nat → Int32) (f30 : Nat → Int32) (f31 : Nat → Int32) (f32 : Nat → Int32) (f33 : Nat → Int32) (hk18 : u18_33 y1 z2 z3 z4 z5 z6 z7 z8 f9 f10 f11 f12 z13 z14 z15 z16 f17 f18 f19 f20 z21 f22 z23 z24 z25 z26 z27 z28 f29 f30 f31 f32 f33 < k9 + 1) (ih18 : ∀ (y1 : Int32) (z2 : Int32) (z3 : Int32) (z4 : Int32) (z5 : Int32) (z6 : Int32) (z7 : Int32) (z8 : Int32) (f9 : Nat → Int32) (f10 : Nat → Int32) (f11 : Nat → Int32) (f12 : Nat → Int32) (z13 : Int32) (z14 : Int32) (z15 : Int32) (z16 : Int32) (f17 : Nat → Int32) (f18 : Nat → Int32) (f19 : Nat → Int32) (f20 : Nat → Int32) (z21 : Int32) (f22 : Nat → Int32) (z23 : Int64) (z24 : Int32) (z25 : Int32) (z26 : Int32) (z27 : Int32) (z28 : Int64) (f29 : Nat → Int32) (f30 : Nat → Int32) (f31 : Nat → Int32) (f32 : Nat → Int32) (f33 : Nat → Int32), I18_33 y1 z2 z3 z4 z5 z6 z7 z8 f9 f10 f11 f12 z13 z14 z15 z16 f17 f18 f19 f20 z21 f22 z23 z24 z25 z26 z27 z28 f29 f30 f31 f32 f33 → u18_33 y1 z2 z3 z4 z5 z6 z7 z8 f9 f10 f11 f12 z13 z14 z15 z16 f17 f18 f19 f20 z21 f22 z23 z24 z25 z26 z27 z28 f29 f30 f31 f32 f33 < k9 → ∀ (H : Heap) (locs : List Loc), va_P G vwCl (wAll cy a0 aM aF aL aX aC aP bF bL bX bC aN aR aW aS aJ aB aT m0 mJ mF mD mS mP z2 z3 z4 z5 z6 z7 z8 f9 f10 f11 f12 z13 z14 z15 z16 f17 f18 f19 f20 z21 f22 z23 z24 z25 z26 z27 z28 f29 f30 f31 f32 f33) H → va_D (fun q => s.heap.size ≤ q) (wAll cy a0 aM aF aL aX aC aP bF bL bX bC aN aR aW aS aJ aB aT m0 mJ mF mD mS mP z2 z3 z4 z5 z6 z7 z8 f9 f10 f11 f12 z13 z14 z15 z16 f17 f18 f19 f20 z21 f22 z23 z24 z25 z26 z27 z28 f29 f30 f31 f32 f33) → va_S (fun q => s.heap.size ≤ q) s.heap H locs → ∀ (ls : Array Slot), lv_has ls 4 [(0, .ref b), (1, .ref a0), (2, .ref m0), (3, .int y1)] → W p l e room_1 s m #[Value.ref b] below meth c H locs 24 18702 (lw_Z below #[Value.ref b] s) (F0 m 18 ls [])) (h : vp_in (y1 + (1 : Int32)) L ∧ vp_in (y1 + (2 : Int32)) L ∧ ∃ Q86 : Int32 → Prop, wp_X8_count z21 f22 (xs ((y1 + (1 : Int32)) : Int32).toNatClampNeg) (xs ((y1 + (2 : Int32)) : Int32).toNatClampNeg) Q86 ∧ ∀ r87 : Int32, Q86 r87 → vp_in (y1 + (1 : Int32)) L ∧ vp_in (y1 + (2 : Int32)) L ∧ ∃ Q88 : Int32 → Prop, wp_X9_count z24 f29 (xs ((y1 + (1 : Int32)) : Int32).toNatClampNeg) (xs ((y1 + (2 : Int32)) : Int32).toNatClampNeg) Q88 ∧ ∀ r89 : Int32, Q88 r89 → ((r87 = r89 → ∀ x91 : Int32, x91 = y1 + 6 → I18_33 x91 z2 z3 z4 z5 z6 z7 z8 f9 f10 f11 f12 z13 z14 z15 z16 f17 f18 f19 f20 z21 f22 z23 z24 z25 z26 z27 z28 f29 f30 f31 f32 f33 ∧ u18_33 x91 z2 z3 z4 z5 z6 z7 z8 f9 f10 f11 f12 z13 z14 z15 z16 f17 f18 f19 f20 z21 f22 z23 z24 z25 z26 z27 z28 f29 f30 f31 f32 f33 < u18_33 y1 z2 z3 z4 z5 z6 z7 z8 f9 f10 f11 f12 z13 z14 z15 z16 f17 f18 f19 f20 z21 f22 z23 z24 z25 z26 z27 z28 f29 f30 f31 f32 f33) ∧ (¬ r87 = r89 → False))) (hK : KK G cy s) (H : Heap) (locs : List Loc) (hP : va_P G vwCl (wAll cy a0 aM aF aL aX aC aP bF bL bX bC aN aR aW aS aJ aB aT m0 mJ mF mD mS mP z2 z3 z4 z5 z6 z7 z8 f9 f10 f11 f12 z13 z14 z15 z16 f17 f18 f19 f20 z21 f22 z23 z24 z25 z26 z27 z28 f29 f30 f31 f32 f33) H) (hD : va_D (fun q => s.heap.size ≤ q) (wAll cy a0 aM aF aL aX aC aP bF bL bX bC aN aR aW aS aJ aB aT m0 mJ mF mD mS mP z2 z3 z4 z5 z6 z7 z8 f9 f10 f11 f12 z13 z14 z15 z16 f17 f18 f19 f20 z21 f22 z23 z24 z25 z26 z27 z28 f29 f30 f31 f32 f33)) (hS : va_S (fun q => s.heap.size ≤ q) s.heap H locs) (ls : Array Slot) (hl : lv_has ls 4 [(0, .ref b), (1, .ref a0), (2, .ref m0), (3, .int y1)]) : W p l e room_1 s m #[Value.ref b] below meth c H locs 24 18702 (lw_Z below #[Value.ref b] s) (F0 m 263 ls []) := by
  obtain ⟨hx, hb, hr, hml, hown, hts0, hX, hbl, hlocks, hgv⟩ := id C0
  have hts : ∀ w ∈ wsLE, w.before #[Value.ref b] s = true := fun w hw => hts0 w (wsLE_in w hw)
  have hbA : ¬ (fun q => s.heap.size ≤ q) b := Nat.not_le.mpr hbl
  have hA : ∀ q : Nat, s.heap.size ≤ q → (fun q => s.heap.size ≤ q) q := fun _ h9 => h9
  refine lv_aload_n hx hb dL_law_263 rfl (lv_at hl 1 rfl) ?_
  refine lv_aload_n hx hb dL_law_264 rfl (lv_at hl 0 rfl) ?_
  refine lv_iload_n hx hb dL_law_265 rfl (lv_at hl 3 rfl) ?_
  refine lv_iconst (v := 1) hx hb dL_law_266 (by decide) ?_
  refine lv_iadd hx hb dL_law_267 ?_
  obtain ⟨hi, h⟩ := h
  refine va_sld hx hb hX hbl hbA hS hi dL_law_268 ?_
  refine lv_aload_n hx hb dL_law_269 rfl (lv_at hl 0 rfl) ?_
  refine lv_iload_n hx hb dL_law_270 rfl (lv_at hl 3 rfl) ?_
  refine lv_iconst (v := 2) hx hb dL_law_271 (by decide) ?_
  refine lv_iadd hx hb dL_law_272 ?_
  obtain ⟨hi, h⟩ := h
  refine va_sld hx hb hX hbl hbA hS hi dL_law_273 ?_
  obtain ⟨Q86, hw9, h⟩ := h
  have hPc : va_P G vwCl [(a0, .inr (7, [.ref aN, .ref aM, .ref aP, .ref aW, .ref aT, .int z2, .int z3, .int z4])), (aN, .inr (3, [.ref aR, .int z21])), (aR, .inl (cy 0, 9, .inl f22))] H := hP.sub [0, 11, 12] rfl
  refine vp_callSi (va_Run.run (va_runV (As := [.int (xs ((y1 + (1 : Int32)) : Int32).toNatClampNeg), .int (xs ((y1 + (2 : Int32)) : Int32).toNatClampNeg)]) (rest := []) ⟨hx, hb, hml, hown, hts⟩ (ct_X8_count l G cy a0 aN aR aM aP aW aT z2 z3 z4 z21 f22 (xs ((y1 + (1 : Int32)) : Int32).toNatClampNeg) (xs ((y1 + (2 : Int32)) : Int32).toNatClampNeg) Q86 hw9) (cwV 2 hts gL_law_X8_countE rfl rfl rfl (by decide +kernel) ⟨Nat.le_of_ble_eq_true rfl, Nat.le_of_ble_eq_true rfl⟩) (rP_V hK hP (ci := 7) (q0 := 0) rfl rfl hPc) rfl rfl hl.1 rfl (lv_room (Nat.le_of_ble_eq_true rfl)) dL_law_274 ⟨Nat.le_of_ble_eq_true rfl, Nat.le_of_ble_eq_true rfl⟩)) (fun r87 er87 => ?_)
  specialize h r87 er87
  refine lv_aload_n hx hb dL_law_277 rfl (lv_at hl 2 rfl) ?_
  refine lv_aload_n hx hb dL_law_278 rfl (lv_at hl 0 rfl) ?_
  refine lv_iload_n hx hb dL_law_279 rfl (lv_at hl 3 rfl) ?_
  refine lv_iconst (v := 1) hx hb dL_law_280 (by decide) ?_
  refine lv_iadd hx hb dL_law_281 ?_
  obtain ⟨hi, h⟩ := h
  refine va_sld hx hb hX hbl hbA hS hi dL_law_282 ?_
  refine lv_aload_n hx hb dL_law_283 rfl (lv_at hl 0 rfl) ?_
  refine lv_iload_n hx hb dL_law_284 rfl (lv_at hl 3 rfl) ?_
  refine lv_iconst (v := 2) hx hb dL_law_285 (by decide) ?_
  refine lv_iadd hx hb dL_law_286 ?_
  obtain ⟨hi, h⟩ := h
  refine va_sld hx hb hX hbl hbA hS hi dL_law_287 ?_
  obtain ⟨Q88, hw9, h⟩ := h
  have hPc : va_P G vwCl [(m0, .inr (8, [.int z24, .ref mJ, .int z25, .int z26, .int z27, .long z28, .ref mF, .ref mD, .ref mS, .ref mP])), (mJ, .inl (cy 0, 9, .inl f29))] H := hP.sub [18, 19] rfl
  refine vp_callSi (va_Run.run (va_runV (As := [.int (xs ((y1 + (1 : Int32)) : Int32).toNatClampNeg), .int (xs ((y1 + (2 : Int32)) : Int32).toNatClampNeg)]) (rest := [.int r87]) ⟨hx, hb, hml, hown, hts⟩ (ct_X9_count l G cy m0 mJ mF mD mS mP z24 z25 z26 z27 z28 f29 (xs ((y1 + (1 : Int32)) : Int32).toNatClampNeg) (xs ((y1 + (2 : Int32)) : Int32).toNatClampNeg) Q88 hw9) (cwV 2 hts gL_law_X9_countE rfl rfl rfl (by decide +kernel) ⟨Nat.le_of_ble_eq_true rfl, Nat.le_of_ble_eq_true rfl⟩) (rP_V hK hP (ci := 8) (q0 := 18) rfl rfl hPc) rfl rfl hl.1 rfl (lv_room (Nat.le_of_ble_eq_true rfl)) dL_law_288 ⟨Nat.le_of_ble_eq_true rfl, Nat.le_of_ble_eq_true rfl⟩)) (fun r89 er89 => ?_)
  specialize h r89 er89
  refine lv_icmp_eq (tgt := 614) hx hb dL_law_291 (by decide) (fun c90 => ?_) (fun c90 => ?_)
  · obtain ⟨h, -⟩ := h
    specialize h c90
    obtain ⟨x91, ex91⟩ : ∃ y : Int32, y = y1 + 6 := ⟨_, rfl⟩
    specialize h x91 ex91
    refine lv_iinc (v := x91) (lv' := [(3, .int x91), (0, .ref b), (1, .ref a0), (2, .ref m0)]) hx hb dL_law_614 hl (k := 3) rfl (by rw [ex91]; rfl) (by decide) rfl (fun ls hl => ?_)
    refine lv_goto (tgt := 18) hx hb dL_law_617 (by decide) ?_
    exact ih18 x91 z2 z3 z4 z5 z6 z7 z8 f9 f10 f11 f12 z13 z14 z15 z16 f17 f18 f19 f20 z21 f22 z23 z24 z25 z26 z27 z28 f29 f30 f31 f32 f33 h.1 (Nat.lt_of_lt_of_le h.2 (Nat.le_of_lt_succ hk18)) _ _ hP hD hS _ (lv_sub hl [1, 2, 3, 0] rfl)
  · obtain ⟨-, h⟩ := h
    specialize h c90
    refine lv_iconst (v := 0) hx hb dL_law_294 (by decide) ?_
    exact h.elim
