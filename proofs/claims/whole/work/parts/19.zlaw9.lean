set_option maxHeartbeats 8000000 in
set_option maxRecDepth 100000 in
theorem ct_law {p : Program} {l : Launch} {e : Env} {s : State} {m : MethodId} {below : List Frame} {meth : Method} {c : Code} {b L : Nat} {xs : Nat → Int32} (C0 : lw_At p s m meth c b L xs) (G : va_G) (cy : Nat → ClassId) (a0 aM aF aL aX aC aP bF bL bX bC aN aR aW aS aJ aB aT m0 mJ mF mD mS mP : Nat) (vLe : Int32) (vMo : Int32) (vCo : Int32) (vSz : Int32) (vTl : Int32) (vFo : Int32) (vMv : Int32) (fF : Nat → Int32) (fL : Nat → Int32) (fX : Nat → Int32) (fC : Nat → Int32) (wSz : Int32) (wTl : Int32) (wFo : Int32) (wCo : Int32) (gF : Nat → Int32) (gL : Nat → Int32) (gX : Nat → Int32) (gC : Nat → Int32) (vn : Int32) (fN : Nat → Int32) (vT : Int64) (kn : Int32) (kFe : Int32) (kMo : Int32) (kCo : Int32) (kT : Int64) (jJ : Nat → Int32) (jF : Nat → Int32) (jD : Nat → Int32) (jS : Nat → Int32) (jP : Nat → Int32) (h : wp_law L xs vLe vMo vCo vSz vTl vFo vMv fF fL fX fC wSz wTl wFo wCo gF gL gX gC vn fN vT kn kFe kMo kCo kT jJ jF jD jS jP) (hK : KK G cy s) (H : Heap) (locs : List Loc) (hP : va_P G vwCl (wAll cy a0 aM aF aL aX aC aP bF bL bX bC aN aR aW aS aJ aB aT m0 mJ mF mD mS mP vLe vMo vCo vSz vTl vFo vMv fF fL fX fC wSz wTl wFo wCo gF gL gX gC vn fN vT kn kFe kMo kCo kT jJ jF jD jS jP) H) (hD : va_D (fun q => s.heap.size ≤ q) (wAll cy a0 aM aF aL aX aC aP bF bL bX bC aN aR aW aS aJ aB aT m0 mJ mF mD mS mP vLe vMo vCo vSz vTl vFo vMv fF fL fX fC wSz wTl wFo wCo gF gL gX gC vn fN vT kn kFe kMo kCo kT jJ jF jD jS jP)) (hS : va_S (fun q => s.heap.size ≤ q) s.heap H locs) (ls : Array Slot) (hl : lv_has ls 4 [(0, .ref b), (1, .ref a0), (2, .ref m0), (3, .int 0)]) : W p l e room_1 s m #[Value.ref b] below meth c H locs 24 18702 (lw_Z below #[Value.ref b] s) (F0 m 18 ls []) := by
  unfold wp_law at h
  obtain ⟨hx, hb, hr, hml, hown, hts0, hX, hbl, hlocks, hgv⟩ := id C0
  have hts : ∀ w ∈ wsLE, w.before #[Value.ref b] s = true := fun w hw => hts0 w (wsLE_in w hw)
  have hbA : ¬ (fun q => s.heap.size ≤ q) b := Nat.not_le.mpr hbl
  have hA : ∀ q : Nat, s.heap.size ≤ q → (fun q => s.heap.size ≤ q) q := fun _ h9 => h9
  obtain ⟨I18_33, u18_33, h018, hst18⟩ := h
  have key18 : ∀ (k9 : Nat) (y1 : Int32) (z2 : Int32) (z3 : Int32) (z4 : Int32) (z5 : Int32) (z6 : Int32) (z7 : Int32) (z8 : Int32) (f9 : Nat → Int32) (f10 : Nat → Int32) (f11 : Nat → Int32) (f12 : Nat → Int32) (z13 : Int32) (z14 : Int32) (z15 : Int32) (z16 : Int32) (f17 : Nat → Int32) (f18 : Nat → Int32) (f19 : Nat → Int32) (f20 : Nat → Int32) (z21 : Int32) (f22 : Nat → Int32) (z23 : Int64) (z24 : Int32) (z25 : Int32) (z26 : Int32) (z27 : Int32) (z28 : Int64) (f29 : Nat → Int32) (f30 : Nat → Int32) (f31 : Nat → Int32) (f32 : Nat → Int32) (f33 : Nat → Int32), I18_33 y1 z2 z3 z4 z5 z6 z7 z8 f9 f10 f11 f12 z13 z14 z15 z16 f17 f18 f19 f20 z21 f22 z23 z24 z25 z26 z27 z28 f29 f30 f31 f32 f33 → u18_33 y1 z2 z3 z4 z5 z6 z7 z8 f9 f10 f11 f12 z13 z14 z15 z16 f17 f18 f19 f20 z21 f22 z23 z24 z25 z26 z27 z28 f29 f30 f31 f32 f33 < k9 → ∀ (H : Heap) (locs : List Loc), va_P G vwCl (wAll cy a0 aM aF aL aX aC aP bF bL bX bC aN aR aW aS aJ aB aT m0 mJ mF mD mS mP z2 z3 z4 z5 z6 z7 z8 f9 f10 f11 f12 z13 z14 z15 z16 f17 f18 f19 f20 z21 f22 z23 z24 z25 z26 z27 z28 f29 f30 f31 f32 f33) H → va_D (fun q => s.heap.size ≤ q) (wAll cy a0 aM aF aL aX aC aP bF bL bX bC aN aR aW aS aJ aB aT m0 mJ mF mD mS mP z2 z3 z4 z5 z6 z7 z8 f9 f10 f11 f12 z13 z14 z15 z16 f17 f18 f19 f20 z21 f22 z23 z24 z25 z26 z27 z28 f29 f30 f31 f32 f33) → va_S (fun q => s.heap.size ≤ q) s.heap H locs → ∀ (ls : Array Slot), lv_has ls 4 [(0, .ref b), (1, .ref a0), (2, .ref m0), (3, .int y1)] → W p l e room_1 s m #[Value.ref b] below meth c H locs 24 18702 (lw_Z below #[Value.ref b] s) (F0 m 18 ls []) := by
    intro k9
    induction k9 with
    | zero =>
      intro y1 z2 z3 z4 z5 z6 z7 z8 f9 f10 f11 f12 z13 z14 z15 z16 f17 f18 f19 f20 z21 f22 z23 z24 z25 z26 z27 z28 f29 f30 f31 f32 f33 hI9 hk9
      exact absurd hk9 (Nat.not_lt_zero _)
    | succ k9 ih18 =>
      intro y1 z2 z3 z4 z5 z6 z7 z8 f9 f10 f11 f12 z13 z14 z15 z16 f17 f18 f19 f20 z21 f22 z23 z24 z25 z26 z27 z28 f29 f30 f31 f32 f33 hI9 hk18 H locs hP hD hS ls hl
      have h := hst18 y1 z2 z3 z4 z5 z6 z7 z8 f9 f10 f11 f12 z13 z14 z15 z16 f17 f18 f19 f20 z21 f22 z23 z24 z25 z26 z27 z28 f29 f30 f31 f32 f33 hI9
      refine lv_iload_n hx hb dL_law_18 rfl (lv_at hl 3 rfl) ?_
      refine lv_aload_n hx hb dL_law_19 rfl (lv_at hl 0 rfl) ?_
      refine va_slen hx hb hX hbl hbA hS dL_law_20 ?_
      refine lv_bipush (v := 6) hx hb dL_law_21 (by decide) ?_
      refine lv_isub hx hb dL_law_23 ?_
      refine lv_icmp_gt (tgt := 620) hx hb dL_law_24 (by decide) (fun c34 => ?_) (fun c34 => ?_)
      · obtain ⟨h, -⟩ := h
        specialize h c34
        refine lv_iconst (v := 1) hx hb dL_law_620 (by decide) ?_
        refine va_forget (fun q9 hq9 => by exact hS.2.2 q9 hq9) ?_
        refine W.widen (k := 600000) (n := 7302249) (Nat.le_of_ble_eq_true rfl) (Nat.le_of_ble_eq_true rfl) ?_
        exact lw_ret hx hb hr hlocks dL_law_621
      · obtain ⟨-, h⟩ := h
        specialize h c34
        refine lv_aload_n hx hb dL_law_27 rfl (lv_at hl 0 rfl) ?_
        refine lv_iload_n hx hb dL_law_28 rfl (lv_at hl 3 rfl) ?_
        obtain ⟨hi, h⟩ := h
        refine va_sld hx hb hX hbl hbA hS hi dL_law_29 ?_
        refine lv_bipush (v := 15) hx hb dL_law_30 (by decide) ?_
        refine lv_iand hx hb dL_law_32 ?_
        by_cases c35 : ((xs (y1 : Int32).toNatClampNeg) &&& (15 : Int32)) = 0
        · obtain ⟨h, -⟩ := h
          specialize h c35
          refine lv_tableIn (off := 75) (tgt := 108) hx hb dL_law_33 (by rw [c35]; decide) (by rw [c35]; decide) (by rw [c35]; rfl) (by decide) ?_
          exact lawc_0 C0 G cy a0 aM aF aL aX aC aP bF bL bX bC aN aR aW aS aJ aB aT m0 mJ mF mD mS mP I18_33 u18_33 _ y1 z2 z3 z4 z5 z6 z7 z8 f9 f10 f11 f12 z13 z14 z15 z16 f17 f18 f19 f20 z21 f22 z23 z24 z25 z26 z27 z28 f29 f30 f31 f32 f33 hk18 ih18 h hK H locs hP hD hS ls (lv_sub hl [0, 1, 2, 3] rfl)
        · obtain ⟨-, h⟩ := h
          by_cases c46 : ((xs (y1 : Int32).toNatClampNeg) &&& (15 : Int32)) = 1
          · obtain ⟨h, -⟩ := h
            specialize h c46
            refine lv_tableIn (off := 98) (tgt := 131) hx hb dL_law_33 (by rw [c46]; decide) (by rw [c46]; decide) (by rw [c46]; rfl) (by decide) ?_
            exact lawc_1 C0 G cy a0 aM aF aL aX aC aP bF bL bX bC aN aR aW aS aJ aB aT m0 mJ mF mD mS mP I18_33 u18_33 _ y1 z2 z3 z4 z5 z6 z7 z8 f9 f10 f11 f12 z13 z14 z15 z16 f17 f18 f19 f20 z21 f22 z23 z24 z25 z26 z27 z28 f29 f30 f31 f32 f33 hk18 ih18 h hK H locs hP hD hS ls (lv_sub hl [0, 1, 2, 3] rfl)
          · obtain ⟨-, h⟩ := h
            by_cases c55 : ((xs (y1 : Int32).toNatClampNeg) &&& (15 : Int32)) = 2
            · obtain ⟨h, -⟩ := h
              specialize h c55
              refine lv_tableIn (off := 141) (tgt := 174) hx hb dL_law_33 (by rw [c55]; decide) (by rw [c55]; decide) (by rw [c55]; rfl) (by decide) ?_
              exact lawc_2 C0 G cy a0 aM aF aL aX aC aP bF bL bX bC aN aR aW aS aJ aB aT m0 mJ mF mD mS mP I18_33 u18_33 _ y1 z2 z3 z4 z5 z6 z7 z8 f9 f10 f11 f12 z13 z14 z15 z16 f17 f18 f19 f20 z21 f22 z23 z24 z25 z26 z27 z28 f29 f30 f31 f32 f33 hk18 ih18 h hK H locs hP hD hS ls (lv_sub hl [0, 1, 2, 3] rfl)
            · obtain ⟨-, h⟩ := h
              by_cases c65 : ((xs (y1 : Int32).toNatClampNeg) &&& (15 : Int32)) = 3
              · obtain ⟨h, -⟩ := h
                specialize h c65
                refine lv_tableIn (off := 164) (tgt := 197) hx hb dL_law_33 (by rw [c65]; decide) (by rw [c65]; decide) (by rw [c65]; rfl) (by decide) ?_
                exact lawc_3 C0 G cy a0 aM aF aL aX aC aP bF bL bX bC aN aR aW aS aJ aB aT m0 mJ mF mD mS mP I18_33 u18_33 _ y1 z2 z3 z4 z5 z6 z7 z8 f9 f10 f11 f12 z13 z14 z15 z16 f17 f18 f19 f20 z21 f22 z23 z24 z25 z26 z27 z28 f29 f30 f31 f32 f33 hk18 ih18 h hK H locs hP hD hS ls (lv_sub hl [0, 1, 2, 3] rfl)
              · obtain ⟨-, h⟩ := h
                by_cases c78 : ((xs (y1 : Int32).toNatClampNeg) &&& (15 : Int32)) = 4
                · obtain ⟨h, -⟩ := h
                  specialize h c78
                  refine lv_tableIn (off := 197) (tgt := 230) hx hb dL_law_33 (by rw [c78]; decide) (by rw [c78]; decide) (by rw [c78]; rfl) (by decide) ?_
                  exact lawc_4 C0 G cy a0 aM aF aL aX aC aP bF bL bX bC aN aR aW aS aJ aB aT m0 mJ mF mD mS mP I18_33 u18_33 _ y1 z2 z3 z4 z5 z6 z7 z8 f9 f10 f11 f12 z13 z14 z15 z16 f17 f18 f19 f20 z21 f22 z23 z24 z25 z26 z27 z28 f29 f30 f31 f32 f33 hk18 ih18 h hK H locs hP hD hS ls (lv_sub hl [0, 1, 2, 3] rfl)
                · obtain ⟨-, h⟩ := h
                  by_cases c85 : ((xs (y1 : Int32).toNatClampNeg) &&& (15 : Int32)) = 5
                  · obtain ⟨h, -⟩ := h
                    specialize h c85
                    refine lv_tableIn (off := 230) (tgt := 263) hx hb dL_law_33 (by rw [c85]; decide) (by rw [c85]; decide) (by rw [c85]; rfl) (by decide) ?_
                    exact lawc_5 C0 G cy a0 aM aF aL aX aC aP bF bL bX bC aN aR aW aS aJ aB aT m0 mJ mF mD mS mP I18_33 u18_33 _ y1 z2 z3 z4 z5 z6 z7 z8 f9 f10 f11 f12 z13 z14 z15 z16 f17 f18 f19 f20 z21 f22 z23 z24 z25 z26 z27 z28 f29 f30 f31 f32 f33 hk18 ih18 h hK H locs hP hD hS ls (lv_sub hl [0, 1, 2, 3] rfl)
                  · obtain ⟨-, h⟩ := h
                    by_cases c92 : ((xs (y1 : Int32).toNatClampNeg) &&& (15 : Int32)) = 6
                    · obtain ⟨h, -⟩ := h
                      specialize h c92
                      refine lv_tableIn (off := 263) (tgt := 296) hx hb dL_law_33 (by rw [c92]; decide) (by rw [c92]; decide) (by rw [c92]; rfl) (by decide) ?_
                      exact lawc_6 C0 G cy a0 aM aF aL aX aC aP bF bL bX bC aN aR aW aS aJ aB aT m0 mJ mF mD mS mP I18_33 u18_33 _ y1 z2 z3 z4 z5 z6 z7 z8 f9 f10 f11 f12 z13 z14 z15 z16 f17 f18 f19 f20 z21 f22 z23 z24 z25 z26 z27 z28 f29 f30 f31 f32 f33 hk18 ih18 h hK H locs hP hD hS ls (lv_sub hl [0, 1, 2, 3] rfl)
                    · obtain ⟨-, h⟩ := h
                      by_cases c101 : ((xs (y1 : Int32).toNatClampNeg) &&& (15 : Int32)) = 7
                      · obtain ⟨h, -⟩ := h
                        specialize h c101
                        refine lv_tableIn (off := 306) (tgt := 339) hx hb dL_law_33 (by rw [c101]; decide) (by rw [c101]; decide) (by rw [c101]; rfl) (by decide) ?_
                        exact lawc_7 C0 G cy a0 aM aF aL aX aC aP bF bL bX bC aN aR aW aS aJ aB aT m0 mJ mF mD mS mP I18_33 u18_33 _ y1 z2 z3 z4 z5 z6 z7 z8 f9 f10 f11 f12 z13 z14 z15 z16 f17 f18 f19 f20 z21 f22 z23 z24 z25 z26 z27 z28 f29 f30 f31 f32 f33 hk18 ih18 h hK H locs hP hD hS ls (lv_sub hl [0, 1, 2, 3] rfl)
                      · obtain ⟨-, h⟩ := h
                        by_cases c118 : ((xs (y1 : Int32).toNatClampNeg) &&& (15 : Int32)) = 8
                        · obtain ⟨h, -⟩ := h
                          specialize h c118
                          refine lv_tableIn (off := 369) (tgt := 402) hx hb dL_law_33 (by rw [c118]; decide) (by rw [c118]; decide) (by rw [c118]; rfl) (by decide) ?_
                          exact lawc_8 C0 G cy a0 aM aF aL aX aC aP bF bL bX bC aN aR aW aS aJ aB aT m0 mJ mF mD mS mP I18_33 u18_33 _ y1 z2 z3 z4 z5 z6 z7 z8 f9 f10 f11 f12 z13 z14 z15 z16 f17 f18 f19 f20 z21 f22 z23 z24 z25 z26 z27 z28 f29 f30 f31 f32 f33 hk18 ih18 h hK H locs hP hD hS ls (lv_sub hl [0, 1, 2, 3] rfl)
                        · obtain ⟨-, h⟩ := h
                          by_cases c135 : ((xs (y1 : Int32).toNatClampNeg) &&& (15 : Int32)) = 9
                          · obtain ⟨h, -⟩ := h
                            specialize h c135
                            refine lv_tableIn (off := 422) (tgt := 455) hx hb dL_law_33 (by rw [c135]; decide) (by rw [c135]; decide) (by rw [c135]; rfl) (by decide) ?_
                            exact lawc_9 C0 G cy a0 aM aF aL aX aC aP bF bL bX bC aN aR aW aS aJ aB aT m0 mJ mF mD mS mP I18_33 u18_33 _ y1 z2 z3 z4 z5 z6 z7 z8 f9 f10 f11 f12 z13 z14 z15 z16 f17 f18 f19 f20 z21 f22 z23 z24 z25 z26 z27 z28 f29 f30 f31 f32 f33 hk18 ih18 h hK H locs hP hD hS ls (lv_sub hl [0, 1, 2, 3] rfl)
                          · obtain ⟨-, h⟩ := h
                            by_cases c152 : ((xs (y1 : Int32).toNatClampNeg) &&& (15 : Int32)) = 10
                            · obtain ⟨h, -⟩ := h
                              specialize h c152
                              refine lv_tableIn (off := 465) (tgt := 498) hx hb dL_law_33 (by rw [c152]; decide) (by rw [c152]; decide) (by rw [c152]; rfl) (by decide) ?_
                              exact lawc_10 C0 G cy a0 aM aF aL aX aC aP bF bL bX bC aN aR aW aS aJ aB aT m0 mJ mF mD mS mP I18_33 u18_33 _ y1 z2 z3 z4 z5 z6 z7 z8 f9 f10 f11 f12 z13 z14 z15 z16 f17 f18 f19 f20 z21 f22 z23 z24 z25 z26 z27 z28 f29 f30 f31 f32 f33 hk18 ih18 h hK H locs hP hD hS ls (lv_sub hl [0, 1, 2, 3] rfl)
                            · obtain ⟨-, h⟩ := h
                              by_cases c159 : ((xs (y1 : Int32).toNatClampNeg) &&& (15 : Int32)) = 11
                              · obtain ⟨h, -⟩ := h
                                specialize h c159
                                refine lv_tableIn (off := 488) (tgt := 521) hx hb dL_law_33 (by rw [c159]; decide) (by rw [c159]; decide) (by rw [c159]; rfl) (by decide) ?_
                                exact lawc_11 C0 G cy a0 aM aF aL aX aC aP bF bL bX bC aN aR aW aS aJ aB aT m0 mJ mF mD mS mP I18_33 u18_33 _ y1 z2 z3 z4 z5 z6 z7 z8 f9 f10 f11 f12 z13 z14 z15 z16 f17 f18 f19 f20 z21 f22 z23 z24 z25 z26 z27 z28 f29 f30 f31 f32 f33 hk18 ih18 h hK H locs hP hD hS ls (lv_sub hl [0, 1, 2, 3] rfl)
                              · obtain ⟨-, h⟩ := h
                                by_cases c176 : ((xs (y1 : Int32).toNatClampNeg) &&& (15 : Int32)) = 12
                                · obtain ⟨h, -⟩ := h
                                  specialize h c176
                                  refine lv_tableIn (off := 521) (tgt := 554) hx hb dL_law_33 (by rw [c176]; decide) (by rw [c176]; decide) (by rw [c176]; rfl) (by decide) ?_
                                  exact lawc_12 C0 G cy a0 aM aF aL aX aC aP bF bL bX bC aN aR aW aS aJ aB aT m0 mJ mF mD mS mP I18_33 u18_33 _ y1 z2 z3 z4 z5 z6 z7 z8 f9 f10 f11 f12 z13 z14 z15 z16 f17 f18 f19 f20 z21 f22 z23 z24 z25 z26 z27 z28 f29 f30 f31 f32 f33 hk18 ih18 h hK H locs hP hD hS ls (lv_sub hl [0, 1, 2, 3] rfl)
                                · obtain ⟨-, h⟩ := h
                                  by_cases c193 : ((xs (y1 : Int32).toNatClampNeg) &&& (15 : Int32)) = 13
                                  · obtain ⟨h, -⟩ := h
                                    specialize h c193
                                    refine lv_tableIn (off := 544) (tgt := 577) hx hb dL_law_33 (by rw [c193]; decide) (by rw [c193]; decide) (by rw [c193]; rfl) (by decide) ?_
                                    exact lawc_13 C0 G cy a0 aM aF aL aX aC aP bF bL bX bC aN aR aW aS aJ aB aT m0 mJ mF mD mS mP I18_33 u18_33 _ y1 z2 z3 z4 z5 z6 z7 z8 f9 f10 f11 f12 z13 z14 z15 z16 f17 f18 f19 f20 z21 f22 z23 z24 z25 z26 z27 z28 f29 f30 f31 f32 f33 hk18 ih18 h hK H locs hP hD hS ls (lv_sub hl [0, 1, 2, 3] rfl)
                                  · obtain ⟨-, h⟩ := h
                                    by_cases c200 : ((xs (y1 : Int32).toNatClampNeg) &&& (15 : Int32)) = 14
                                    · obtain ⟨h, -⟩ := h
                                      specialize h c200
                                      refine lv_tableIn (off := 567) (tgt := 600) hx hb dL_law_33 (by rw [c200]; decide) (by rw [c200]; decide) (by rw [c200]; rfl) (by decide) ?_
                                      exact lawc_14 C0 G cy a0 aM aF aL aX aC aP bF bL bX bC aN aR aW aS aJ aB aT m0 mJ mF mD mS mP I18_33 u18_33 _ y1 z2 z3 z4 z5 z6 z7 z8 f9 f10 f11 f12 z13 z14 z15 z16 f17 f18 f19 f20 z21 f22 z23 z24 z25 z26 z27 z28 f29 f30 f31 f32 f33 hk18 ih18 h hK H locs hP hD hS ls (lv_sub hl [0, 1, 2, 3] rfl)
                                    · obtain ⟨-, h⟩ := h
                                      specialize h c35 c46 c55 c65 c78 c85 c92 c101 c118 c135 c152 c159 c176 c193 c200
                                      refine lv_tableOut (tgt := 614) hx hb dL_law_33 (by have nc35 := lv_neT (a := 0) c35 (by decide); have nc46 := lv_neT (a := 1) c46 (by decide); have nc55 := lv_neT (a := 2) c55 (by decide); have nc65 := lv_neT (a := 3) c65 (by decide); have nc78 := lv_neT (a := 4) c78 (by decide); have nc85 := lv_neT (a := 5) c85 (by decide); have nc92 := lv_neT (a := 6) c92 (by decide); have nc101 := lv_neT (a := 7) c101 (by decide); have nc118 := lv_neT (a := 8) c118 (by decide); have nc135 := lv_neT (a := 9) c135 (by decide); have nc152 := lv_neT (a := 10) c152 (by decide); have nc159 := lv_neT (a := 11) c159 (by decide); have nc176 := lv_neT (a := 12) c176 (by decide); have nc193 := lv_neT (a := 13) c193 (by decide); have nc200 := lv_neT (a := 14) c200 (by decide); omega) (by decide) ?_
                                      obtain ⟨x207, ex207⟩ : ∃ y : Int32, y = y1 + 6 := ⟨_, rfl⟩
                                      specialize h x207 ex207
                                      refine lv_iinc (v := x207) (lv' := [(3, .int x207), (0, .ref b), (1, .ref a0), (2, .ref m0)]) hx hb dL_law_614 hl (k := 3) rfl (by rw [ex207]; rfl) (by decide) rfl (fun ls hl => ?_)
                                      refine lv_goto (tgt := 18) hx hb dL_law_617 (by decide) ?_
                                      exact ih18 x207 z2 z3 z4 z5 z6 z7 z8 f9 f10 f11 f12 z13 z14 z15 z16 f17 f18 f19 f20 z21 f22 z23 z24 z25 z26 z27 z28 f29 f30 f31 f32 f33 h.1 (Nat.lt_of_lt_of_le h.2 (Nat.le_of_lt_succ hk18)) _ _ hP hD hS _ (lv_sub hl [1, 2, 3, 0] rfl)
  exact key18 _ 0 vLe vMo vCo vSz vTl vFo vMv fF fL fX fC wSz wTl wFo wCo gF gL gX gC vn fN vT kn kFe kMo kCo kT jJ jF jD jS jP h018 (Nat.lt_succ_self _) _ _ hP hD hS _ (lv_sub hl [0, 1, 2, 3] rfl)
