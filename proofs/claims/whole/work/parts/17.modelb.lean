set_option maxHeartbeats 4000000 in
set_option maxRecDepth 100000 in
theorem ct_X9_goFrom (l : Launch) (G : va_G) (cy : Nat → ClassId) (m0 mJ mF mD mS mP : Nat) (sz : Nat) (kn : Int32) (kFe : Int32) (kMo : Int32) (kCo : Int32) (kT : Int64) (jJ : Nat → Int32) (jF : Nat → Int32) (jD : Nat → Int32) (p1 : Int32) (p2 : Int32) (p3 : Int32) (p4 : Int32) (Q : (Nat → Int32) → (Nat → Int32) → Prop) (h : wp_X9_goFrom kn kFe kMo jJ jF jD p1 p2 p3 p4 Q) : Met l yX9_goFrom wsX9_goFrom rmX9_goFrom (va_Pc [.ref m0, .int p1, .int p2, .int p3, .int p4] (wP G cy sz [(m0, .inr (8, [.int kn, .ref mJ, .int kFe, .int kMo, .int kCo, .long kT, .ref mF, .ref mD, .ref mS, .ref mP])), (mJ, .inl (cy 0, 9, .inl jJ)), (mF, .inl (cy 0, 512, .inl jF)), (mD, .inl (cy 1, 512, .inl jD))])) (va_Qv (fun (u : (Nat → Int32) × (Nat → Int32)) => Q u.1 u.2) (fun (u : (Nat → Int32) × (Nat → Int32)) (t : State) => va_P G vwCl [(m0, .inr (8, [.int kn, .ref mJ, .int kFe, .int kMo, .int kCo, .long kT, .ref mF, .ref mD, .ref mS, .ref mP])), (mJ, .inl (cy 0, 9, .inl jJ)), (mF, .inl (cy 0, 512, .inl u.1)), (mD, .inl (cy 1, 512, .inl u.2))] t.heap) (va_A [(m0, .inr (8, [.int kn, .ref mJ, .int kFe, .int kMo, .int kCo, .long kT, .ref mF, .ref mD, .ref mS, .ref mP])), (mJ, .inl (cy 0, 9, .inl jJ)), (mF, .inl (cy 0, 512, .inl jF)), (mD, .inl (cy 1, 512, .inl jD))] sz)) 0 0 (va_A [(m0, .inr (8, [.int kn, .ref mJ, .int kFe, .int kMo, .int kCo, .long kT, .ref mF, .ref mD, .ref mS, .ref mP])), (mJ, .inl (cy 0, 9, .inl jJ)), (mF, .inl (cy 0, 512, .inl jF)), (mD, .inl (cy 1, 512, .inl jD))] sz) := by
  unfold wp_X9_goFrom at h
  refine Met.ofW (cc := cX9_goFrom) (maxL := 9) (ret := none) (by decide) rfl ?_
  intro p e s m args below meth c s₁ B hml hv
  obtain ⟨hav, hsz, hP, hK, hD0⟩ := hv
  have hx := B.exec
  have hb := B.bytes
  have hr := B.returns
  have hts := atoms_spec (ws := wsX9_goFrom) B.pre
  have hown : s.vm.findClass RX9 = some m.cls := findClass_of_methodNamed B.named
  have hlocks := B.notSynchronized
  subst hsz
  have hD := hD0.self (sz := s.heap.size)
  generalize hAe : va_A [(m0, .inr (8, [.int kn, .ref mJ, .int kFe, .int kMo, .int kCo, .long kT, .ref mF, .ref mD, .ref mS, .ref mP])), (mJ, .inl (cy 0, 9, .inl jJ)), (mF, .inl (cy 0, 512, .inl jF)), (mD, .inl (cy 1, 512, .inl jD))] s.heap.size = A at hD ⊢
  have hA : ∀ q : Nat, s.heap.size ≤ q → A q := fun q h9 => by rw [← hAe]; exact Or.inr h9
  have hS : va_S A s.heap s.heap [] := va_S.rf
  have hl := lv_entry ([.ref m0, .int p1, .int p2, .int p3, .int p4]) (n := 9) (Nat.le_of_ble_eq_true rfl)
  rw [show entryFrame m args 9 = entryFrame m ([.ref m0, .int p1, .int p2, .int p3, .int p4] : List Value).toArray 9 by rw [hav], lg_entry_eq]
  generalize (lg_sl ([.ref m0, .int p1, .int p2, .int p3, .int p4]) ++ List.replicate (9 - (lg_sl ([.ref m0, .int p1, .int p2, .int p3, .int p4])).length) Slot.unset).toArray = ls at hl ⊢
  have hl : lv_has ls 9 [(0, .ref m0), (1, .int p1), (2, .int p2), (3, .int p3), (4, .int p4)] := hl
  generalize hQe : MQ below _ _ _ _ _ _ = QM
  have hP : va_P G vwCl [(m0, .inr (8, [.int kn, .ref mJ, .int kFe, .int kMo, .int kCo, .long kT, .ref mF, .ref mD, .ref mS, .ref mP])), (mJ, .inl (cy 0, 9, .inl jJ)), (mF, .inl (cy 0, 512, .inl jF)), (mD, .inl (cy 1, 512, .inl jD))] s.heap := hP
  have iwX9 : ∀ w ∈ wsX90, w ∈ wsX9_goFrom := by decide +kernel
  have fl23 := hts (.fieldLink RX9 23 "SlidTokensModel" "far" "[I") (by decide +kernel)
  have fl26 := hts (.fieldLink RX9 26 "SlidTokensModel" "isDone" "[Z") (by decide +kernel)
  have fl7 := hts (.fieldLink RX9 7 "SlidTokensModel" "n" "I") (by decide +kernel)
  have kn87 := hts (.constant RX9 87 (1000000)) (by decide +kernel)
  suffices K9 : ∀ (H : Heap) (locs : List Loc), va_P G vwCl [(m0, .inr (8, [.int kn, .ref mJ, .int kFe, .int kMo, .int kCo, .long kT, .ref mF, .ref mD, .ref mS, .ref mP])), (mJ, .inl (cy 0, 9, .inl jJ)), (mF, .inl (cy 0, 512, .inl jF)), (mD, .inl (cy 1, 512, .inl jD))] H → va_D A [(m0, .inr (8, [.int kn, .ref mJ, .int kFe, .int kMo, .int kCo, .long kT, .ref mF, .ref mD, .ref mS, .ref mP])), (mJ, .inl (cy 0, 9, .inl jJ)), (mF, .inl (cy 0, 512, .inl jF)), (mD, .inl (cy 1, 512, .inl jD))] → va_S A s.heap H locs → W p l e (headSpec wsX9_goFrom rmX9_goFrom).room s m args below meth c H locs 0 0 QM (F0 m 0 ls []) from K9 _ _ hP hD hS
  clear hP hD hS
  intro H locs hP hD hS
  refine lv_aload_n hx hb dX9_goFrom_0 rfl (lv_at hl 0 rfl) ?_
  refine va_get (D := G) (ci := 8) (v := .ref mF) (C := RX9) (T := TX9) (N := 10) hx hb hts iwX9 hown hK.1 hP 0 rfl rfl 6 (by decide) fl23 (fun _ h9 => h9) rfl dX9_goFrom_1 ?_
  refine lv_iload_n hx hb dX9_goFrom_4 rfl (lv_at hl 3 rfl) ?_
  refine lv_iconst (v := 0) hx hb dX9_goFrom_5 (by decide) ?_
  obtain ⟨hi, h⟩ := h
  refine va_iast hx hb hK.1 hP hD hS 2 0 rfl rfl hi dX9_goFrom_6 (fun H locs hP hD hS => ?_)
  obtain ⟨f1, ef1⟩ : ∃ z9 : Nat → Int32, z9 = upd jF (p3 : Int32).toNatClampNeg 0 := ⟨_, rfl⟩
  specialize h f1 ef1
  have hP : va_P G vwCl [(m0, .inr (8, [.int kn, .ref mJ, .int kFe, .int kMo, .int kCo, .long kT, .ref mF, .ref mD, .ref mS, .ref mP])), (mJ, .inl (cy 0, 9, .inl jJ)), (mF, .inl (cy 0, 512, .inl f1)), (mD, .inl (cy 1, 512, .inl jD))] H := by rw [ef1]; exact hP
  have hD : va_D A [(m0, .inr (8, [.int kn, .ref mJ, .int kFe, .int kMo, .int kCo, .long kT, .ref mF, .ref mD, .ref mS, .ref mP])), (mJ, .inl (cy 0, 9, .inl jJ)), (mF, .inl (cy 0, 512, .inl f1)), (mD, .inl (cy 1, 512, .inl jD))] := D_same hD rfl
  refine lv_aload_n hx hb dX9_goFrom_7 rfl (lv_at hl 0 rfl) ?_
  refine lv_iload_n hx hb dX9_goFrom_8 rfl (lv_at hl 1 rfl) ?_
  refine lv_iload_n hx hb dX9_goFrom_9 rfl (lv_at hl 2 rfl) ?_
  refine lv_iload_n hx hb dX9_goFrom_10 rfl (lv_at hl 3 rfl) ?_
  obtain ⟨Q2, hw9, h⟩ := h
  have hPc : va_P G vwCl [(m0, .inr (8, [.int kn, .ref mJ, .int kFe, .int kMo, .int kCo, .long kT, .ref mF, .ref mD, .ref mS, .ref mP])), (mJ, .inl (cy 0, 9, .inl jJ))] H := hP.sub [0, 1] rfl
  refine vp_callSi (va_Run.run (va_runV (As := [.int p1, .int p2, .int p3]) (rest := []) ⟨hx, hb, hml, hown, hts⟩ (ct_X9_canBe l G cy m0 mJ mF mD mS mP kn kFe kMo kCo kT jJ p1 p2 p3 Q2 hw9) (cwV 3 hts gX9_goFrom_X9_canBe rfl rfl rfl (by decide +kernel) ⟨Nat.le_of_ble_eq_true rfl, Nat.le_of_ble_eq_true rfl⟩) (rP_V hK hP (ci := 8) (q0 := 0) rfl rfl hPc) rfl rfl hl.1 rfl (lv_room (Nat.le_of_ble_eq_true rfl)) dX9_goFrom_11 ⟨Nat.le_of_ble_eq_true rfl, Nat.le_of_ble_eq_true rfl⟩)) (fun r3 er3 => ?_)
  specialize h r3 er3
  obtain ⟨J22_4, h, hJ22⟩ := h
  have jn22 : ∀ (t4 : Int32), J22_4 t4 → ∀ (H : Heap) (locs : List Loc), va_P G vwCl [(m0, .inr (8, [.int kn, .ref mJ, .int kFe, .int kMo, .int kCo, .long kT, .ref mF, .ref mD, .ref mS, .ref mP])), (mJ, .inl (cy 0, 9, .inl jJ)), (mF, .inl (cy 0, 512, .inl f1)), (mD, .inl (cy 1, 512, .inl jD))] H → va_D A [(m0, .inr (8, [.int kn, .ref mJ, .int kFe, .int kMo, .int kCo, .long kT, .ref mF, .ref mD, .ref mS, .ref mP])), (mJ, .inl (cy 0, 9, .inl jJ)), (mF, .inl (cy 0, 512, .inl f1)), (mD, .inl (cy 1, 512, .inl jD))] → va_S A s.heap H locs → ∀ (ls : Array Slot), lv_has ls 9 [(0, .ref m0), (1, .int p1), (2, .int p2), (3, .int p3), (4, .int p4)] → W p l e (headSpec wsX9_goFrom rmX9_goFrom).room s m args below meth c H locs 0 0 QM (F0 m 22 ls [.int t4]) := by
    intro t4 hj9 H locs hP hD hS ls hl
    have h := hJ22 t4 hj9
    refine lv_istore (lv' := [(5, .int t4), (0, .ref m0), (1, .int p1), (2, .int p2), (3, .int p3), (4, .int p4)]) hx hb dX9_goFrom_22 hl (by decide) rfl (fun ls hl => ?_)
    refine lv_aload_n hx hb dX9_goFrom_24 rfl (lv_at hl 1 rfl) ?_
    refine va_get (D := G) (ci := 8) (v := .ref mD) (C := RX9) (T := TX9) (N := 10) hx hb hts iwX9 hown hK.1 hP 0 rfl rfl 7 (by decide) fl26 (fun _ h9 => h9) rfl dX9_goFrom_25 ?_
    refine lv_iload_n hx hb dX9_goFrom_28 rfl (lv_at hl 4 rfl) ?_
    refine lv_iconst (v := 1) hx hb dX9_goFrom_29 (by decide) ?_
    obtain ⟨hi, h⟩ := h
    refine va_zast hx hb hK.1 hP hD hS 3 1 rfl rfl hi dX9_goFrom_30 (fun H locs hP hD hS => ?_)
    obtain ⟨f6, ef6⟩ : ∃ z9 : Nat → Int32, z9 = upd jD (p3 : Int32).toNatClampNeg (vp_nar .boolean 1) := ⟨_, rfl⟩
    specialize h f6 ef6
    have hP : va_P G vwCl [(m0, .inr (8, [.int kn, .ref mJ, .int kFe, .int kMo, .int kCo, .long kT, .ref mF, .ref mD, .ref mS, .ref mP])), (mJ, .inl (cy 0, 9, .inl jJ)), (mF, .inl (cy 0, 512, .inl f1)), (mD, .inl (cy 1, 512, .inl f6))] H := by rw [ef6]; exact hP
    have hD : va_D A [(m0, .inr (8, [.int kn, .ref mJ, .int kFe, .int kMo, .int kCo, .long kT, .ref mF, .ref mD, .ref mS, .ref mP])), (mJ, .inl (cy 0, 9, .inl jJ)), (mF, .inl (cy 0, 512, .inl f1)), (mD, .inl (cy 1, 512, .inl f6))] := D_same hD rfl
    obtain ⟨I31_9, u31_9, h031, hst31⟩ := h
    have key31 : ∀ (k9 : Nat) (y7 : Int32) (f8 : Nat → Int32) (f9 : Nat → Int32), I31_9 y7 f8 f9 → u31_9 y7 f8 f9 < k9 → ∀ (H : Heap) (locs : List Loc), va_P G vwCl [(m0, .inr (8, [.int kn, .ref mJ, .int kFe, .int kMo, .int kCo, .long kT, .ref mF, .ref mD, .ref mS, .ref mP])), (mJ, .inl (cy 0, 9, .inl jJ)), (mF, .inl (cy 0, 512, .inl f8)), (mD, .inl (cy 1, 512, .inl f9))] H → va_D A [(m0, .inr (8, [.int kn, .ref mJ, .int kFe, .int kMo, .int kCo, .long kT, .ref mF, .ref mD, .ref mS, .ref mP])), (mJ, .inl (cy 0, 9, .inl jJ)), (mF, .inl (cy 0, 512, .inl f8)), (mD, .inl (cy 1, 512, .inl f9))] → va_S A s.heap H locs → ∀ (ls : Array Slot), lv_has ls 9 [(0, .ref m0), (1, .int p1), (2, .int p2), (4, .int p4), (5, .int y7)] → W p l e (headSpec wsX9_goFrom rmX9_goFrom).room s m args below meth c H locs 0 0 QM (F0 m 31 ls []) := by
      intro k9
      induction k9 with
      | zero =>
        intro y7 f8 f9 hI9 hk9
        exact absurd hk9 (Nat.not_lt_zero _)
      | succ k9 ih31 =>
        intro y7 f8 f9 hI9 hk31 H locs hP hD hS ls hl
        have h := hst31 y7 f8 f9 hI9
        refine lv_iload hx hb dX9_goFrom_31 (lv_at hl 4 rfl) ?_
        refine lv_if_lt (tgt := 241) hx hb dX9_goFrom_33 (by decide) (fun c10 => ?_) (fun c10 => ?_)
        · obtain ⟨h, -⟩ := h
          specialize h c10
          rw [← hQe]
          exact W.vret hx hb hr (fun t ht hW => ⟨⟨(f8, f9), rfl, h, by dsimp only; rw [ht]; exact hP⟩, hS.F ht⟩) hS.2.2 dX9_goFrom_241
        · obtain ⟨-, h⟩ := h
          specialize h c10
          refine lv_iconst (v := 0) hx hb dX9_goFrom_36 (by decide) ?_
          refine lv_istore (lv' := [(6, .int 0), (0, .ref m0), (1, .int p1), (2, .int p2), (4, .int p4), (5, .int y7)]) hx hb dX9_goFrom_37 hl (by decide) rfl (fun ls hl => ?_)
          obtain ⟨I39_12, u39_12, h039, hst39⟩ := h
          have key39 : ∀ (k9 : Nat) (y11 : Int32) (f12 : Nat → Int32), I39_12 y11 f12 → u39_12 y11 f12 < k9 → ∀ (H : Heap) (locs : List Loc), va_P G vwCl [(m0, .inr (8, [.int kn, .ref mJ, .int kFe, .int kMo, .int kCo, .long kT, .ref mF, .ref mD, .ref mS, .ref mP])), (mJ, .inl (cy 0, 9, .inl jJ)), (mF, .inl (cy 0, 512, .inl f12)), (mD, .inl (cy 1, 512, .inl f9))] H → va_D A [(m0, .inr (8, [.int kn, .ref mJ, .int kFe, .int kMo, .int kCo, .long kT, .ref mF, .ref mD, .ref mS, .ref mP])), (mJ, .inl (cy 0, 9, .inl jJ)), (mF, .inl (cy 0, 512, .inl f12)), (mD, .inl (cy 1, 512, .inl f9))] → va_S A s.heap H locs → ∀ (ls : Array Slot), lv_has ls 9 [(0, .ref m0), (1, .int p1), (2, .int p2), (4, .int p4), (5, .int y7), (6, .int y11)] → W p l e (headSpec wsX9_goFrom rmX9_goFrom).room s m args below meth c H locs 0 0 QM (F0 m 39 ls []) := by
            intro k9
            induction k9 with
            | zero =>
              intro y11 f12 hI9 hk9
              exact absurd hk9 (Nat.not_lt_zero _)
            | succ k9 ih39 =>
              intro y11 f12 hI9 hk39 H locs hP hD hS ls hl
              have h := hst39 y11 f12 hI9
              refine lv_iload hx hb dX9_goFrom_39 (lv_at hl 5 rfl) ?_
              refine lv_iconst (v := 1) hx hb dX9_goFrom_41 (by decide) ?_
              refine lv_aload_n hx hb dX9_goFrom_42 rfl (lv_at hl 0 rfl) ?_
              refine va_get (D := G) (ci := 8) (v := .int kn) (C := RX9) (T := TX9) (N := 10) hx hb hts iwX9 hown hK.1 hP 0 rfl rfl 0 (by decide) fl7 (fun _ h9 => h9) rfl dX9_goFrom_43 ?_
              refine lv_ishl hx hb dX9_goFrom_46 ?_
              refine lv_icmp_ge (tgt := 149) hx hb dX9_goFrom_47 (by decide) (fun c13 => ?_) (fun c13 => ?_)
              · obtain ⟨h, -⟩ := h
                specialize h c13
                refine lv_iconst (v := (-1)) hx hb dX9_goFrom_149 (by decide) ?_
                refine lv_istore (lv' := [(5, .int (-1)), (0, .ref m0), (1, .int p1), (2, .int p2), (4, .int p4), (6, .int y11)]) hx hb dX9_goFrom_150 hl (by decide) rfl (fun ls hl => ?_)
                refine lv_iconst (v := 0) hx hb dX9_goFrom_152 (by decide) ?_
                refine lv_istore (lv' := [(6, .int 0), (5, .int (-1)), (0, .ref m0), (1, .int p1), (2, .int p2), (4, .int p4)]) hx hb dX9_goFrom_153 hl (by decide) rfl (fun ls hl => ?_)
                obtain ⟨I155_15, u155_15, h0155, hst155⟩ := h
                have key155 : ∀ (k9 : Nat) (y14 : Int32) (y15 : Int32), I155_15 y14 y15 → u155_15 y14 y15 < k9 → ∀ (H : Heap) (locs : List Loc), va_P G vwCl [(m0, .inr (8, [.int kn, .ref mJ, .int kFe, .int kMo, .int kCo, .long kT, .ref mF, .ref mD, .ref mS, .ref mP])), (mJ, .inl (cy 0, 9, .inl jJ)), (mF, .inl (cy 0, 512, .inl f12)), (mD, .inl (cy 1, 512, .inl f9))] H → va_D A [(m0, .inr (8, [.int kn, .ref mJ, .int kFe, .int kMo, .int kCo, .long kT, .ref mF, .ref mD, .ref mS, .ref mP])), (mJ, .inl (cy 0, 9, .inl jJ)), (mF, .inl (cy 0, 512, .inl f12)), (mD, .inl (cy 1, 512, .inl f9))] → va_S A s.heap H locs → ∀ (ls : Array Slot), lv_has ls 9 [(0, .ref m0), (1, .int p1), (2, .int p2), (4, .int p4), (5, .int y14), (6, .int y15)] → W p l e (headSpec wsX9_goFrom rmX9_goFrom).room s m args below meth c H locs 0 0 QM (F0 m 155 ls []) := by
                  intro k9
                  induction k9 with
                  | zero =>
                    intro y14 y15 hI9 hk9
                    exact absurd hk9 (Nat.not_lt_zero _)
                  | succ k9 ih155 =>
                    intro y14 y15 hI9 hk155 H locs hP hD hS ls hl
                    have h := hst155 y14 y15 hI9
                    refine lv_iload hx hb dX9_goFrom_155 (lv_at hl 5 rfl) ?_
                    refine lv_iconst (v := 1) hx hb dX9_goFrom_157 (by decide) ?_
                    refine lv_aload_n hx hb dX9_goFrom_158 rfl (lv_at hl 0 rfl) ?_
                    refine va_get (D := G) (ci := 8) (v := .int kn) (C := RX9) (T := TX9) (N := 10) hx hb hts iwX9 hown hK.1 hP 0 rfl rfl 0 (by decide) fl7 (fun _ h9 => h9) rfl dX9_goFrom_159 ?_
                    refine lv_ishl hx hb dX9_goFrom_162 ?_
                    refine lv_icmp_ge (tgt := 225) hx hb dX9_goFrom_163 (by decide) (fun c16 => ?_) (fun c16 => ?_)
                    · obtain ⟨h, -⟩ := h
                      specialize h c16
                      refine lv_iload hx hb dX9_goFrom_225 (lv_at hl 4 rfl) ?_
                      refine lv_if_lt (tgt := 31) hx hb dX9_goFrom_227 (by decide) (fun c17 => ?_) (fun c17 => ?_)
                      · obtain ⟨h, -⟩ := h
                        specialize h c17
                        exact ih31 y14 f12 f9 h.1 (Nat.lt_of_lt_of_le h.2 (Nat.le_of_lt_succ hk31)) _ _ hP hD hS _ (lv_sub hl [0, 1, 2, 3, 4] rfl)
                      · obtain ⟨-, h⟩ := h
                        specialize h c17
                        refine lv_aload_n hx hb dX9_goFrom_230 rfl (lv_at hl 0 rfl) ?_
                        refine va_get (D := G) (ci := 8) (v := .ref mD) (C := RX9) (T := TX9) (N := 10) hx hb hts iwX9 hown hK.1 hP 0 rfl rfl 7 (by decide) fl26 (fun _ h9 => h9) rfl dX9_goFrom_231 ?_
                        refine lv_iload hx hb dX9_goFrom_234 (lv_at hl 4 rfl) ?_
                        refine lv_iconst (v := 1) hx hb dX9_goFrom_236 (by decide) ?_
                        obtain ⟨hi, h⟩ := h
                        refine va_zast hx hb hK.1 hP hD hS 3 1 rfl rfl hi dX9_goFrom_237 (fun H locs hP hD hS => ?_)
                        obtain ⟨f18, ef18⟩ : ∃ z9 : Nat → Int32, z9 = upd f9 (y14 : Int32).toNatClampNeg (vp_nar .boolean 1) := ⟨_, rfl⟩
                        specialize h f18 ef18
                        have hP : va_P G vwCl [(m0, .inr (8, [.int kn, .ref mJ, .int kFe, .int kMo, .int kCo, .long kT, .ref mF, .ref mD, .ref mS, .ref mP])), (mJ, .inl (cy 0, 9, .inl jJ)), (mF, .inl (cy 0, 512, .inl f12)), (mD, .inl (cy 1, 512, .inl f18))] H := by rw [ef18]; exact hP
                        have hD : va_D A [(m0, .inr (8, [.int kn, .ref mJ, .int kFe, .int kMo, .int kCo, .long kT, .ref mF, .ref mD, .ref mS, .ref mP])), (mJ, .inl (cy 0, 9, .inl jJ)), (mF, .inl (cy 0, 512, .inl f12)), (mD, .inl (cy 1, 512, .inl f18))] := D_same hD rfl
                        refine lv_goto (tgt := 31) hx hb dX9_goFrom_238 (by decide) ?_
                        exact ih31 y14 f12 f18 h.1 (Nat.lt_of_lt_of_le h.2 (Nat.le_of_lt_succ hk31)) _ _ hP hD hS _ (lv_sub hl [0, 1, 2, 3, 4] rfl)
                    · obtain ⟨-, h⟩ := h
                      specialize h c16
                      refine lv_aload_n hx hb dX9_goFrom_166 rfl (lv_at hl 0 rfl) ?_
                      refine va_get (D := G) (ci := 8) (v := .ref mD) (C := RX9) (T := TX9) (N := 10) hx hb hts iwX9 hown hK.1 hP 0 rfl rfl 7 (by decide) fl26 (fun _ h9 => h9) rfl dX9_goFrom_167 ?_
                      refine lv_iload hx hb dX9_goFrom_170 (lv_at hl 5 rfl) ?_
                      obtain ⟨hi, h⟩ := h
                      refine va_zald hx hb hK.1 hP 3 1 rfl rfl hi dX9_goFrom_172 ?_
                      refine lv_if_ne (tgt := 215) hx hb dX9_goFrom_173 (by decide) (fun c19 => ?_) (fun c19 => ?_)
                      · obtain ⟨-, h⟩ := h
                        specialize h c19
                        refine lv_iload hx hb dX9_goFrom_215 (lv_at hl 4 rfl) ?_
                        refine lv_istore (lv' := [(5, .int y14), (0, .ref m0), (1, .int p1), (2, .int p2), (4, .int p4), (6, .int y15)]) hx hb dX9_goFrom_217 hl (by decide) rfl (fun ls hl => ?_)
                        obtain ⟨x20, ex20⟩ : ∃ y : Int32, y = y15 + 1 := ⟨_, rfl⟩
                        specialize h x20 ex20
                        refine lv_iinc (v := x20) (lv' := [(6, .int x20), (5, .int y14), (0, .ref m0), (1, .int p1), (2, .int p2), (4, .int p4)]) hx hb dX9_goFrom_219 hl (k := 5) rfl (by rw [ex20]; rfl) (by decide) rfl (fun ls hl => ?_)
                        refine lv_goto (tgt := 155) hx hb dX9_goFrom_222 (by decide) ?_
                        exact ih155 y14 x20 h.1 (Nat.lt_of_lt_of_le h.2 (Nat.le_of_lt_succ hk155)) _ _ hP hD hS _ (lv_sub hl [2, 3, 4, 5, 1, 0] rfl)
                      · obtain ⟨h, -⟩ := h
                        specialize h c19
                        refine lv_aload_n hx hb dX9_goFrom_176 rfl (lv_at hl 0 rfl) ?_
                        refine va_get (D := G) (ci := 8) (v := .ref mF) (C := RX9) (T := TX9) (N := 10) hx hb hts iwX9 hown hK.1 hP 0 rfl rfl 6 (by decide) fl23 (fun _ h9 => h9) rfl dX9_goFrom_177 ?_
                        refine lv_iload hx hb dX9_goFrom_180 (lv_at hl 5 rfl) ?_
                        obtain ⟨hi, h⟩ := h
                        refine va_iald hx hb hK.1 hP 2 0 rfl rfl hi dX9_goFrom_182 ?_
                        refine lv_ldc hx hb hown kn87 dX9_goFrom_183 ?_
                        refine lv_icmp_ge (tgt := 215) hx hb dX9_goFrom_185 (by decide) (fun c21 => ?_) (fun c21 => ?_)
                        · obtain ⟨h, -⟩ := h
                          specialize h c21
                          refine lv_iload hx hb dX9_goFrom_215 (lv_at hl 4 rfl) ?_
                          refine lv_istore (lv' := [(5, .int y14), (0, .ref m0), (1, .int p1), (2, .int p2), (4, .int p4), (6, .int y15)]) hx hb dX9_goFrom_217 hl (by decide) rfl (fun ls hl => ?_)
                          obtain ⟨x22, ex22⟩ : ∃ y : Int32, y = y15 + 1 := ⟨_, rfl⟩
                          specialize h x22 ex22
                          refine lv_iinc (v := x22) (lv' := [(6, .int x22), (5, .int y14), (0, .ref m0), (1, .int p1), (2, .int p2), (4, .int p4)]) hx hb dX9_goFrom_219 hl (k := 5) rfl (by rw [ex22]; rfl) (by decide) rfl (fun ls hl => ?_)
                          refine lv_goto (tgt := 155) hx hb dX9_goFrom_222 (by decide) ?_
                          exact ih155 y14 x22 h.1 (Nat.lt_of_lt_of_le h.2 (Nat.le_of_lt_succ hk155)) _ _ hP hD hS _ (lv_sub hl [2, 3, 4, 5, 1, 0] rfl)
                        · obtain ⟨-, h⟩ := h
                          specialize h c21
                          refine lv_iload hx hb dX9_goFrom_188 (lv_at hl 4 rfl) ?_
                          refine lv_if_lt (tgt := 210) hx hb dX9_goFrom_190 (by decide) (fun c23 => ?_) (fun c23 => ?_)
                          · obtain ⟨h, -⟩ := h
                            specialize h c23
                            refine lv_iload hx hb dX9_goFrom_210 (lv_at hl 5 rfl) ?_
                            refine lv_goto (tgt := 217) hx hb dX9_goFrom_212 (by decide) ?_
                            refine lv_istore (lv' := [(5, .int y15), (0, .ref m0), (1, .int p1), (2, .int p2), (4, .int p4), (6, .int y15)]) hx hb dX9_goFrom_217 hl (by decide) rfl (fun ls hl => ?_)
                            obtain ⟨x24, ex24⟩ : ∃ y : Int32, y = y15 + 1 := ⟨_, rfl⟩
                            specialize h x24 ex24
                            refine lv_iinc (v := x24) (lv' := [(6, .int x24), (5, .int y15), (0, .ref m0), (1, .int p1), (2, .int p2), (4, .int p4)]) hx hb dX9_goFrom_219 hl (k := 5) rfl (by rw [ex24]; rfl) (by decide) rfl (fun ls hl => ?_)
                            refine lv_goto (tgt := 155) hx hb dX9_goFrom_222 (by decide) ?_
                            exact ih155 y15 x24 h.1 (Nat.lt_of_lt_of_le h.2 (Nat.le_of_lt_succ hk155)) _ _ hP hD hS _ (lv_sub hl [2, 3, 4, 5, 1, 0] rfl)
                          · obtain ⟨-, h⟩ := h
                            specialize h c23
                            refine lv_aload_n hx hb dX9_goFrom_193 rfl (lv_at hl 0 rfl) ?_
                            refine va_get (D := G) (ci := 8) (v := .ref mF) (C := RX9) (T := TX9) (N := 10) hx hb hts iwX9 hown hK.1 hP 0 rfl rfl 6 (by decide) fl23 (fun _ h9 => h9) rfl dX9_goFrom_194 ?_
                            refine lv_iload hx hb dX9_goFrom_197 (lv_at hl 5 rfl) ?_
                            obtain ⟨hi, h⟩ := h
                            refine va_iald hx hb hK.1 hP 2 0 rfl rfl hi dX9_goFrom_199 ?_
                            refine lv_aload_n hx hb dX9_goFrom_200 rfl (lv_at hl 0 rfl) ?_
                            refine va_get (D := G) (ci := 8) (v := .ref mF) (C := RX9) (T := TX9) (N := 10) hx hb hts iwX9 hown hK.1 hP 0 rfl rfl 6 (by decide) fl23 (fun _ h9 => h9) rfl dX9_goFrom_201 ?_
                            refine lv_iload hx hb dX9_goFrom_204 (lv_at hl 4 rfl) ?_
                            obtain ⟨hi, h⟩ := h
                            refine va_iald hx hb hK.1 hP 2 0 rfl rfl hi dX9_goFrom_206 ?_
                            refine lv_icmp_ge (tgt := 215) hx hb dX9_goFrom_207 (by decide) (fun c25 => ?_) (fun c25 => ?_)
                            · obtain ⟨h, -⟩ := h
                              specialize h c25
                              refine lv_iload hx hb dX9_goFrom_215 (lv_at hl 4 rfl) ?_
                              refine lv_istore (lv' := [(5, .int y14), (0, .ref m0), (1, .int p1), (2, .int p2), (4, .int p4), (6, .int y15)]) hx hb dX9_goFrom_217 hl (by decide) rfl (fun ls hl => ?_)
                              obtain ⟨x26, ex26⟩ : ∃ y : Int32, y = y15 + 1 := ⟨_, rfl⟩
                              specialize h x26 ex26
                              refine lv_iinc (v := x26) (lv' := [(6, .int x26), (5, .int y14), (0, .ref m0), (1, .int p1), (2, .int p2), (4, .int p4)]) hx hb dX9_goFrom_219 hl (k := 5) rfl (by rw [ex26]; rfl) (by decide) rfl (fun ls hl => ?_)
                              refine lv_goto (tgt := 155) hx hb dX9_goFrom_222 (by decide) ?_
                              exact ih155 y14 x26 h.1 (Nat.lt_of_lt_of_le h.2 (Nat.le_of_lt_succ hk155)) _ _ hP hD hS _ (lv_sub hl [2, 3, 4, 5, 1, 0] rfl)
                            · obtain ⟨-, h⟩ := h
                              specialize h c25
                              refine lv_iload hx hb dX9_goFrom_210 (lv_at hl 5 rfl) ?_
                              refine lv_goto (tgt := 217) hx hb dX9_goFrom_212 (by decide) ?_
                              refine lv_istore (lv' := [(5, .int y15), (0, .ref m0), (1, .int p1), (2, .int p2), (4, .int p4), (6, .int y15)]) hx hb dX9_goFrom_217 hl (by decide) rfl (fun ls hl => ?_)
                              obtain ⟨x27, ex27⟩ : ∃ y : Int32, y = y15 + 1 := ⟨_, rfl⟩
                              specialize h x27 ex27
                              refine lv_iinc (v := x27) (lv' := [(6, .int x27), (5, .int y15), (0, .ref m0), (1, .int p1), (2, .int p2), (4, .int p4)]) hx hb dX9_goFrom_219 hl (k := 5) rfl (by rw [ex27]; rfl) (by decide) rfl (fun ls hl => ?_)
                              refine lv_goto (tgt := 155) hx hb dX9_goFrom_222 (by decide) ?_
                              exact ih155 y15 x27 h.1 (Nat.lt_of_lt_of_le h.2 (Nat.le_of_lt_succ hk155)) _ _ hP hD hS _ (lv_sub hl [2, 3, 4, 5, 1, 0] rfl)
                exact key155 _ (-1) 0 h0155 (Nat.lt_succ_self _) _ _ hP hD hS _ (lv_sub hl [2, 3, 4, 5, 1, 0] rfl)
              · obtain ⟨-, h⟩ := h
                specialize h c13
                refine lv_aload_n hx hb dX9_goFrom_50 rfl (lv_at hl 0 rfl) ?_
                refine va_get (D := G) (ci := 8) (v := .ref mD) (C := RX9) (T := TX9) (N := 10) hx hb hts iwX9 hown hK.1 hP 0 rfl rfl 7 (by decide) fl26 (fun _ h9 => h9) rfl dX9_goFrom_51 ?_
                refine lv_iload hx hb dX9_goFrom_54 (lv_at hl 5 rfl) ?_
                obtain ⟨hi, h⟩ := h
                refine va_zald hx hb hK.1 hP 3 1 rfl rfl hi dX9_goFrom_56 ?_
                obtain ⟨J73_28, h, hJ73⟩ := h
                have jn73 : ∀ (t28 : Int32), J73_28 t28 → ∀ (H : Heap) (locs : List Loc), va_P G vwCl [(m0, .inr (8, [.int kn, .ref mJ, .int kFe, .int kMo, .int kCo, .long kT, .ref mF, .ref mD, .ref mS, .ref mP])), (mJ, .inl (cy 0, 9, .inl jJ)), (mF, .inl (cy 0, 512, .inl f12)), (mD, .inl (cy 1, 512, .inl f9))] H → va_D A [(m0, .inr (8, [.int kn, .ref mJ, .int kFe, .int kMo, .int kCo, .long kT, .ref mF, .ref mD, .ref mS, .ref mP])), (mJ, .inl (cy 0, 9, .inl jJ)), (mF, .inl (cy 0, 512, .inl f12)), (mD, .inl (cy 1, 512, .inl f9))] → va_S A s.heap H locs → ∀ (ls : Array Slot), lv_has ls 9 [(0, .ref m0), (1, .int p1), (2, .int p2), (4, .int p4), (5, .int y7), (6, .int y11)] → W p l e (headSpec wsX9_goFrom rmX9_goFrom).room s m args below meth c H locs 0 0 QM (F0 m 73 ls [.int t28]) := by
                  intro t28 hj9 H locs hP hD hS ls hl
                  have h := hJ73 t28 hj9
                  refine lv_istore (lv' := [(7, .int t28), (0, .ref m0), (1, .int p1), (2, .int p2), (4, .int p4), (5, .int y7), (6, .int y11)]) hx hb dX9_goFrom_73 hl (by decide) rfl (fun ls hl => ?_)
                  refine lv_aload_n hx hb dX9_goFrom_75 rfl (lv_at hl 1 rfl) ?_
                  refine va_get (D := G) (ci := 8) (v := .ref mF) (C := RX9) (T := TX9) (N := 10) hx hb hts iwX9 hown hK.1 hP 0 rfl rfl 6 (by decide) fl23 (fun _ h9 => h9) rfl dX9_goFrom_76 ?_
                  refine lv_iload hx hb dX9_goFrom_79 (lv_at hl 5 rfl) ?_
                  obtain ⟨hi, h⟩ := h
                  refine va_iald hx hb hK.1 hP 2 0 rfl rfl hi dX9_goFrom_81 ?_
                  refine lv_iload hx hb dX9_goFrom_82 (lv_at hl 4 rfl) ?_
                  obtain ⟨J93_32, h, hJ93⟩ := h
                  have jn93 : ∀ (t32 : Int32), J93_32 t32 → ∀ (H : Heap) (locs : List Loc), va_P G vwCl [(m0, .inr (8, [.int kn, .ref mJ, .int kFe, .int kMo, .int kCo, .long kT, .ref mF, .ref mD, .ref mS, .ref mP])), (mJ, .inl (cy 0, 9, .inl jJ)), (mF, .inl (cy 0, 512, .inl f12)), (mD, .inl (cy 1, 512, .inl f9))] H → va_D A [(m0, .inr (8, [.int kn, .ref mJ, .int kFe, .int kMo, .int kCo, .long kT, .ref mF, .ref mD, .ref mS, .ref mP])), (mJ, .inl (cy 0, 9, .inl jJ)), (mF, .inl (cy 0, 512, .inl f12)), (mD, .inl (cy 1, 512, .inl f9))] → va_S A s.heap H locs → ∀ (ls : Array Slot), lv_has ls 9 [(0, .ref m0), (1, .int p1), (2, .int p2), (4, .int p4), (5, .int y7), (6, .int y11), (7, .int t28)] → W p l e (headSpec wsX9_goFrom rmX9_goFrom).room s m args below meth c H locs 0 0 QM (F0 m 93 ls [.int t32, .int (f12 (y7 : Int32).toNatClampNeg)]) := by
                    intro t32 hj9 H locs hP hD hS ls hl
                    have h := hJ93 t32 hj9
                    refine lv_iadd hx hb dX9_goFrom_93 ?_
                    refine lv_topi (fun x34 ex34 => ?_)
                    specialize h x34 ex34
                    refine lv_istore (lv' := [(8, .int x34), (0, .ref m0), (1, .int p1), (2, .int p2), (4, .int p4), (5, .int y7), (6, .int y11), (7, .int t28)]) hx hb dX9_goFrom_94 hl (by decide) rfl (fun ls hl => ?_)
                    refine lv_aload_n hx hb dX9_goFrom_96 rfl (lv_at hl 1 rfl) ?_
                    refine va_get (D := G) (ci := 8) (v := .ref mF) (C := RX9) (T := TX9) (N := 10) hx hb hts iwX9 hown hK.1 hP 0 rfl rfl 6 (by decide) fl23 (fun _ h9 => h9) rfl dX9_goFrom_97 ?_
                    refine lv_iload hx hb dX9_goFrom_100 (lv_at hl 6 rfl) ?_
                    refine lv_iload hx hb dX9_goFrom_102 (lv_at hl 7 rfl) ?_
                    refine lv_if_le (tgt := 135) hx hb dX9_goFrom_104 (by decide) (fun c35 => ?_) (fun c35 => ?_)
                    · obtain ⟨h, -⟩ := h
                      specialize h c35
                      refine lv_aload_n hx hb dX9_goFrom_135 rfl (lv_at hl 1 rfl) ?_
                      refine va_get (D := G) (ci := 8) (v := .ref mF) (C := RX9) (T := TX9) (N := 10) hx hb hts iwX9 hown hK.1 hP 0 rfl rfl 6 (by decide) fl23 (fun _ h9 => h9) rfl dX9_goFrom_136 ?_
                      refine lv_iload hx hb dX9_goFrom_139 (lv_at hl 6 rfl) ?_
                      obtain ⟨hi, h⟩ := h
                      refine va_iald hx hb hK.1 hP 2 0 rfl rfl hi dX9_goFrom_141 ?_
                      refine lv_topi (fun x36 ex36 => ?_)
                      specialize h x36 ex36
                      obtain ⟨hi, h⟩ := h
                      refine va_iast hx hb hK.1 hP hD hS 2 0 rfl rfl hi dX9_goFrom_142 (fun H locs hP hD hS => ?_)
                      obtain ⟨f37, ef37⟩ : ∃ z9 : Nat → Int32, z9 = upd f12 (y11 : Int32).toNatClampNeg x36 := ⟨_, rfl⟩
                      specialize h f37 ef37
                      have hP : va_P G vwCl [(m0, .inr (8, [.int kn, .ref mJ, .int kFe, .int kMo, .int kCo, .long kT, .ref mF, .ref mD, .ref mS, .ref mP])), (mJ, .inl (cy 0, 9, .inl jJ)), (mF, .inl (cy 0, 512, .inl f37)), (mD, .inl (cy 1, 512, .inl f9))] H := by rw [ef37]; exact hP
                      have hD : va_D A [(m0, .inr (8, [.int kn, .ref mJ, .int kFe, .int kMo, .int kCo, .long kT, .ref mF, .ref mD, .ref mS, .ref mP])), (mJ, .inl (cy 0, 9, .inl jJ)), (mF, .inl (cy 0, 512, .inl f37)), (mD, .inl (cy 1, 512, .inl f9))] := D_same hD rfl
                      obtain ⟨x38, ex38⟩ : ∃ y : Int32, y = y11 + 1 := ⟨_, rfl⟩
                      specialize h x38 ex38
                      refine lv_iinc (v := x38) (lv' := [(6, .int x38), (8, .int x34), (0, .ref m0), (1, .int p1), (2, .int p2), (4, .int p4), (5, .int y7), (7, .int t28)]) hx hb dX9_goFrom_143 hl (k := 6) rfl (by rw [ex38]; rfl) (by decide) rfl (fun ls hl => ?_)
                      refine lv_goto (tgt := 39) hx hb dX9_goFrom_146 (by decide) ?_
                      exact ih39 x38 f37 h.1 (Nat.lt_of_lt_of_le h.2 (Nat.le_of_lt_succ hk39)) _ _ hP hD hS _ (lv_sub hl [2, 3, 4, 5, 6, 0] rfl)
                    · obtain ⟨-, h⟩ := h
                      specialize h c35
                      refine lv_iload hx hb dX9_goFrom_107 (lv_at hl 0 rfl) ?_
                      refine lv_aload_n hx hb dX9_goFrom_109 rfl (lv_at hl 1 rfl) ?_
                      refine va_get (D := G) (ci := 8) (v := .ref mF) (C := RX9) (T := TX9) (N := 10) hx hb hts iwX9 hown hK.1 hP 0 rfl rfl 6 (by decide) fl23 (fun _ h9 => h9) rfl dX9_goFrom_110 ?_
                      refine lv_iload hx hb dX9_goFrom_113 (lv_at hl 6 rfl) ?_
                      obtain ⟨hi, h⟩ := h
                      refine va_iald hx hb hK.1 hP 2 0 rfl rfl hi dX9_goFrom_115 ?_
                      refine lv_icmp_ge (tgt := 135) hx hb dX9_goFrom_116 (by decide) (fun c39 => ?_) (fun c39 => ?_)
                      · obtain ⟨h, -⟩ := h
                        specialize h c39
                        refine lv_aload_n hx hb dX9_goFrom_135 rfl (lv_at hl 1 rfl) ?_
                        refine va_get (D := G) (ci := 8) (v := .ref mF) (C := RX9) (T := TX9) (N := 10) hx hb hts iwX9 hown hK.1 hP 0 rfl rfl 6 (by decide) fl23 (fun _ h9 => h9) rfl dX9_goFrom_136 ?_
                        refine lv_iload hx hb dX9_goFrom_139 (lv_at hl 6 rfl) ?_
                        obtain ⟨hi, h⟩ := h
                        refine va_iald hx hb hK.1 hP 2 0 rfl rfl hi dX9_goFrom_141 ?_
                        refine lv_topi (fun x40 ex40 => ?_)
                        specialize h x40 ex40
                        obtain ⟨hi, h⟩ := h
                        refine va_iast hx hb hK.1 hP hD hS 2 0 rfl rfl hi dX9_goFrom_142 (fun H locs hP hD hS => ?_)
                        obtain ⟨f41, ef41⟩ : ∃ z9 : Nat → Int32, z9 = upd f12 (y11 : Int32).toNatClampNeg x40 := ⟨_, rfl⟩
                        specialize h f41 ef41
                        have hP : va_P G vwCl [(m0, .inr (8, [.int kn, .ref mJ, .int kFe, .int kMo, .int kCo, .long kT, .ref mF, .ref mD, .ref mS, .ref mP])), (mJ, .inl (cy 0, 9, .inl jJ)), (mF, .inl (cy 0, 512, .inl f41)), (mD, .inl (cy 1, 512, .inl f9))] H := by rw [ef41]; exact hP
                        have hD : va_D A [(m0, .inr (8, [.int kn, .ref mJ, .int kFe, .int kMo, .int kCo, .long kT, .ref mF, .ref mD, .ref mS, .ref mP])), (mJ, .inl (cy 0, 9, .inl jJ)), (mF, .inl (cy 0, 512, .inl f41)), (mD, .inl (cy 1, 512, .inl f9))] := D_same hD rfl
                        obtain ⟨x42, ex42⟩ : ∃ y : Int32, y = y11 + 1 := ⟨_, rfl⟩
                        specialize h x42 ex42
                        refine lv_iinc (v := x42) (lv' := [(6, .int x42), (8, .int x34), (0, .ref m0), (1, .int p1), (2, .int p2), (4, .int p4), (5, .int y7), (7, .int t28)]) hx hb dX9_goFrom_143 hl (k := 6) rfl (by rw [ex42]; rfl) (by decide) rfl (fun ls hl => ?_)
                        refine lv_goto (tgt := 39) hx hb dX9_goFrom_146 (by decide) ?_
                        exact ih39 x42 f41 h.1 (Nat.lt_of_lt_of_le h.2 (Nat.le_of_lt_succ hk39)) _ _ hP hD hS _ (lv_sub hl [2, 3, 4, 5, 6, 0] rfl)
                      · obtain ⟨-, h⟩ := h
                        specialize h c39
                        refine lv_aload_n hx hb dX9_goFrom_119 rfl (lv_at hl 1 rfl) ?_
                        refine lv_iload_n hx hb dX9_goFrom_120 rfl (lv_at hl 2 rfl) ?_
                        refine lv_iload_n hx hb dX9_goFrom_121 rfl (lv_at hl 3 rfl) ?_
                        refine lv_iload hx hb dX9_goFrom_122 (lv_at hl 6 rfl) ?_
                        obtain ⟨Q43, hw9, h⟩ := h
                        have hPc : va_P G vwCl [(m0, .inr (8, [.int kn, .ref mJ, .int kFe, .int kMo, .int kCo, .long kT, .ref mF, .ref mD, .ref mS, .ref mP])), (mJ, .inl (cy 0, 9, .inl jJ))] H := hP.sub [0, 1] rfl
                        refine vp_callSi (va_Run.run (va_runV (As := [.int p1, .int p2, .int y11]) (rest := [.int y11, .ref mF]) ⟨hx, hb, hml, hown, hts⟩ (ct_X9_canBe l G cy m0 mJ mF mD mS mP kn kFe kMo kCo kT jJ p1 p2 y11 Q43 hw9) (cwV 3 hts gX9_goFrom_X9_canBe rfl rfl rfl (by decide +kernel) ⟨Nat.le_of_ble_eq_true rfl, Nat.le_of_ble_eq_true rfl⟩) (rP_V hK hP (ci := 8) (q0 := 0) rfl rfl hPc) rfl rfl hl.1 rfl (lv_room (Nat.le_of_ble_eq_true rfl)) dX9_goFrom_124 ⟨Nat.le_of_ble_eq_true rfl, Nat.le_of_ble_eq_true rfl⟩)) (fun r44 er44 => ?_)
                        specialize h r44 er44
                        refine lv_if_eq (tgt := 135) hx hb dX9_goFrom_127 (by decide) (fun c45 => ?_) (fun c45 => ?_)
                        · obtain ⟨h, -⟩ := h
                          specialize h c45
                          refine lv_aload_n hx hb dX9_goFrom_135 rfl (lv_at hl 1 rfl) ?_
                          refine va_get (D := G) (ci := 8) (v := .ref mF) (C := RX9) (T := TX9) (N := 10) hx hb hts iwX9 hown hK.1 hP 0 rfl rfl 6 (by decide) fl23 (fun _ h9 => h9) rfl dX9_goFrom_136 ?_
                          refine lv_iload hx hb dX9_goFrom_139 (lv_at hl 6 rfl) ?_
                          obtain ⟨hi, h⟩ := h
                          refine va_iald hx hb hK.1 hP 2 0 rfl rfl hi dX9_goFrom_141 ?_
                          refine lv_topi (fun x46 ex46 => ?_)
                          specialize h x46 ex46
                          obtain ⟨hi, h⟩ := h
                          refine va_iast hx hb hK.1 hP hD hS 2 0 rfl rfl hi dX9_goFrom_142 (fun H locs hP hD hS => ?_)
                          obtain ⟨f47, ef47⟩ : ∃ z9 : Nat → Int32, z9 = upd f12 (y11 : Int32).toNatClampNeg x46 := ⟨_, rfl⟩
                          specialize h f47 ef47
                          have hP : va_P G vwCl [(m0, .inr (8, [.int kn, .ref mJ, .int kFe, .int kMo, .int kCo, .long kT, .ref mF, .ref mD, .ref mS, .ref mP])), (mJ, .inl (cy 0, 9, .inl jJ)), (mF, .inl (cy 0, 512, .inl f47)), (mD, .inl (cy 1, 512, .inl f9))] H := by rw [ef47]; exact hP
                          have hD : va_D A [(m0, .inr (8, [.int kn, .ref mJ, .int kFe, .int kMo, .int kCo, .long kT, .ref mF, .ref mD, .ref mS, .ref mP])), (mJ, .inl (cy 0, 9, .inl jJ)), (mF, .inl (cy 0, 512, .inl f47)), (mD, .inl (cy 1, 512, .inl f9))] := D_same hD rfl
                          obtain ⟨x48, ex48⟩ : ∃ y : Int32, y = y11 + 1 := ⟨_, rfl⟩
                          specialize h x48 ex48
                          refine lv_iinc (v := x48) (lv' := [(6, .int x48), (8, .int x34), (0, .ref m0), (1, .int p1), (2, .int p2), (4, .int p4), (5, .int y7), (7, .int t28)]) hx hb dX9_goFrom_143 hl (k := 6) rfl (by rw [ex48]; rfl) (by decide) rfl (fun ls hl => ?_)
                          refine lv_goto (tgt := 39) hx hb dX9_goFrom_146 (by decide) ?_
                          exact ih39 x48 f47 h.1 (Nat.lt_of_lt_of_le h.2 (Nat.le_of_lt_succ hk39)) _ _ hP hD hS _ (lv_sub hl [2, 3, 4, 5, 6, 0] rfl)
                        · obtain ⟨-, h⟩ := h
                          specialize h c45
                          refine lv_iload hx hb dX9_goFrom_130 (lv_at hl 0 rfl) ?_
                          refine lv_goto (tgt := 142) hx hb dX9_goFrom_132 (by decide) ?_
                          obtain ⟨hi, h⟩ := h
                          refine va_iast hx hb hK.1 hP hD hS 2 0 rfl rfl hi dX9_goFrom_142 (fun H locs hP hD hS => ?_)
                          obtain ⟨f49, ef49⟩ : ∃ z9 : Nat → Int32, z9 = upd f12 (y11 : Int32).toNatClampNeg x34 := ⟨_, rfl⟩
                          specialize h f49 ef49
                          have hP : va_P G vwCl [(m0, .inr (8, [.int kn, .ref mJ, .int kFe, .int kMo, .int kCo, .long kT, .ref mF, .ref mD, .ref mS, .ref mP])), (mJ, .inl (cy 0, 9, .inl jJ)), (mF, .inl (cy 0, 512, .inl f49)), (mD, .inl (cy 1, 512, .inl f9))] H := by rw [ef49]; exact hP
                          have hD : va_D A [(m0, .inr (8, [.int kn, .ref mJ, .int kFe, .int kMo, .int kCo, .long kT, .ref mF, .ref mD, .ref mS, .ref mP])), (mJ, .inl (cy 0, 9, .inl jJ)), (mF, .inl (cy 0, 512, .inl f49)), (mD, .inl (cy 1, 512, .inl f9))] := D_same hD rfl
                          obtain ⟨x50, ex50⟩ : ∃ y : Int32, y = y11 + 1 := ⟨_, rfl⟩
                          specialize h x50 ex50
                          refine lv_iinc (v := x50) (lv' := [(6, .int x50), (8, .int x34), (0, .ref m0), (1, .int p1), (2, .int p2), (4, .int p4), (5, .int y7), (7, .int t28)]) hx hb dX9_goFrom_143 hl (k := 6) rfl (by rw [ex50]; rfl) (by decide) rfl (fun ls hl => ?_)
                          refine lv_goto (tgt := 39) hx hb dX9_goFrom_146 (by decide) ?_
                          exact ih39 x50 f49 h.1 (Nat.lt_of_lt_of_le h.2 (Nat.le_of_lt_succ hk39)) _ _ hP hD hS _ (lv_sub hl [2, 3, 4, 5, 6, 0] rfl)
                  refine lv_if_eq (tgt := 92) hx hb dX9_goFrom_84 (by decide) (fun c33 => ?_) (fun c33 => ?_)
                  · obtain ⟨h, -⟩ := h
                    specialize h c33
                    refine lv_iconst (v := 1) hx hb dX9_goFrom_92 (by decide) ?_
                    exact jn93 1 h _ _ hP hD hS _ (lv_sub hl [1, 2, 3, 4, 5, 6, 0] rfl)
                  · obtain ⟨-, h⟩ := h
                    specialize h c33
                    refine lv_iload hx hb dX9_goFrom_87 (lv_at hl 0 rfl) ?_
                    refine lv_goto (tgt := 93) hx hb dX9_goFrom_89 (by decide) ?_
                    exact jn93 t28 h _ _ hP hD hS _ (lv_sub hl [1, 2, 3, 4, 5, 6, 0] rfl)
                refine lv_if_eq (tgt := 64) hx hb dX9_goFrom_57 (by decide) (fun c29 => ?_) (fun c29 => ?_)
                · obtain ⟨h, -⟩ := h
                  specialize h c29
                  refine lv_aload_n hx hb dX9_goFrom_64 rfl (lv_at hl 0 rfl) ?_
                  refine lv_iload_n hx hb dX9_goFrom_65 rfl (lv_at hl 2 rfl) ?_
                  refine lv_iload hx hb dX9_goFrom_66 (lv_at hl 4 rfl) ?_
                  refine lv_iload hx hb dX9_goFrom_68 (lv_at hl 5 rfl) ?_
                  obtain ⟨Q30, hw9, h⟩ := h
                  have hPc : va_P G vwCl [(m0, .inr (8, [.int kn, .ref mJ, .int kFe, .int kMo, .int kCo, .long kT, .ref mF, .ref mD, .ref mS, .ref mP])), (mJ, .inl (cy 0, 9, .inl jJ))] H := hP.sub [0, 1] rfl
                  refine vp_callSi (va_Run.run (va_runV (As := [.int p2, .int y7, .int y11]) (rest := []) ⟨hx, hb, hml, hown, hts⟩ (ct_X9_weightOf l G cy m0 mJ mF mD mS mP kn kFe kMo kCo kT jJ p2 y7 y11 Q30 hw9) (cwV 3 hts gX9_goFrom_X9_weightOf rfl rfl rfl (by decide +kernel) ⟨Nat.le_of_ble_eq_true rfl, Nat.le_of_ble_eq_true rfl⟩) (rP_V hK hP (ci := 8) (q0 := 0) rfl rfl hPc) rfl rfl hl.1 rfl (lv_room (Nat.le_of_ble_eq_true rfl)) dX9_goFrom_70 ⟨Nat.le_of_ble_eq_true rfl, Nat.le_of_ble_eq_true rfl⟩)) (fun r31 er31 => ?_)
                  specialize h r31 er31
                  exact jn73 r31 h _ _ hP hD hS _ (lv_sub hl [0, 1, 2, 3, 4, 5] rfl)
                · obtain ⟨-, h⟩ := h
                  specialize h c29
                  refine lv_iconst (v := 0) hx hb dX9_goFrom_60 (by decide) ?_
                  refine lv_goto (tgt := 73) hx hb dX9_goFrom_61 (by decide) ?_
                  exact jn73 0 h _ _ hP hD hS _ (lv_sub hl [0, 1, 2, 3, 4, 5] rfl)
          exact key39 _ 0 f8 h039 (Nat.lt_succ_self _) _ _ hP hD hS _ (lv_sub hl [1, 2, 3, 4, 5, 0] rfl)
    exact key31 _ t4 f1 f6 h031 (Nat.lt_succ_self _) _ _ hP hD hS _ (lv_sub hl [1, 2, 3, 5, 0] rfl)
  refine lv_if_eq (tgt := 21) hx hb dX9_goFrom_14 (by decide) (fun c5 => ?_) (fun c5 => ?_)
  · obtain ⟨h, -⟩ := h
    specialize h c5
    refine lv_iconst (v := (-1)) hx hb dX9_goFrom_21 (by decide) ?_
    exact jn22 (-1) h _ _ hP hD hS _ (lv_sub hl [0, 1, 2, 3, 4] rfl)
  · obtain ⟨-, h⟩ := h
    specialize h c5
    refine lv_iload_n hx hb dX9_goFrom_17 rfl (lv_at hl 3 rfl) ?_
    refine lv_goto (tgt := 22) hx hb dX9_goFrom_18 (by decide) ?_
    exact jn22 p3 h _ _ hP hD hS _ (lv_sub hl [0, 1, 2, 3, 4] rfl)

set_option maxHeartbeats 4000000 in
set_option maxRecDepth 100000 in
theorem ct_X9_forget (l : Launch) (G : va_G) (cy : Nat → ClassId) (m0 mJ mF mD mS mP : Nat) (sz : Nat) (kn : Int32) (kFe : Int32) (kMo : Int32) (kCo : Int32) (kT : Int64) (jJ : Nat → Int32) (jF : Nat → Int32) (jD : Nat → Int32) (Q : (Nat → Int32) → (Nat → Int32) → Prop) (h : wp_X9_forget jF jD Q) : Met l yX9_forget wsX9_forget rmX9_forget (va_Pc [.ref m0] (wP G cy sz [(m0, .inr (8, [.int kn, .ref mJ, .int kFe, .int kMo, .int kCo, .long kT, .ref mF, .ref mD, .ref mS, .ref mP])), (mJ, .inl (cy 0, 9, .inl jJ)), (mF, .inl (cy 0, 512, .inl jF)), (mD, .inl (cy 1, 512, .inl jD))])) (va_Qv (fun (u : (Nat → Int32) × (Nat → Int32)) => Q u.1 u.2) (fun (u : (Nat → Int32) × (Nat → Int32)) (t : State) => va_P G vwCl [(m0, .inr (8, [.int kn, .ref mJ, .int kFe, .int kMo, .int kCo, .long kT, .ref mF, .ref mD, .ref mS, .ref mP])), (mJ, .inl (cy 0, 9, .inl jJ)), (mF, .inl (cy 0, 512, .inl u.1)), (mD, .inl (cy 1, 512, .inl u.2))] t.heap) (va_A [(m0, .inr (8, [.int kn, .ref mJ, .int kFe, .int kMo, .int kCo, .long kT, .ref mF, .ref mD, .ref mS, .ref mP])), (mJ, .inl (cy 0, 9, .inl jJ)), (mF, .inl (cy 0, 512, .inl jF)), (mD, .inl (cy 1, 512, .inl jD))] sz)) 0 0 (va_A [(m0, .inr (8, [.int kn, .ref mJ, .int kFe, .int kMo, .int kCo, .long kT, .ref mF, .ref mD, .ref mS, .ref mP])), (mJ, .inl (cy 0, 9, .inl jJ)), (mF, .inl (cy 0, 512, .inl jF)), (mD, .inl (cy 1, 512, .inl jD))] sz) := by
  unfold wp_X9_forget at h
  refine Met.ofW (cc := cX9_forget) (maxL := 2) (ret := none) (by decide) rfl ?_
  intro p e s m args below meth c s₁ B hml hv
  obtain ⟨hav, hsz, hP, hK, hD0⟩ := hv
  have hx := B.exec
  have hb := B.bytes
  have hr := B.returns
  have hts := atoms_spec (ws := wsX9_forget) B.pre
  have hown : s.vm.findClass RX9 = some m.cls := findClass_of_methodNamed B.named
  have hlocks := B.notSynchronized
  subst hsz
  have hD := hD0.self (sz := s.heap.size)
  generalize hAe : va_A [(m0, .inr (8, [.int kn, .ref mJ, .int kFe, .int kMo, .int kCo, .long kT, .ref mF, .ref mD, .ref mS, .ref mP])), (mJ, .inl (cy 0, 9, .inl jJ)), (mF, .inl (cy 0, 512, .inl jF)), (mD, .inl (cy 1, 512, .inl jD))] s.heap.size = A at hD ⊢
  have hA : ∀ q : Nat, s.heap.size ≤ q → A q := fun q h9 => by rw [← hAe]; exact Or.inr h9
  have hS : va_S A s.heap s.heap [] := va_S.rf
  have hl := lv_entry ([.ref m0]) (n := 2) (Nat.le_of_ble_eq_true rfl)
  rw [show entryFrame m args 2 = entryFrame m ([.ref m0] : List Value).toArray 2 by rw [hav], lg_entry_eq]
  generalize (lg_sl ([.ref m0]) ++ List.replicate (2 - (lg_sl ([.ref m0])).length) Slot.unset).toArray = ls at hl ⊢
  have hl : lv_has ls 2 [(0, .ref m0)] := hl
  generalize hQe : MQ below _ _ _ _ _ _ = QM
  have hP : va_P G vwCl [(m0, .inr (8, [.int kn, .ref mJ, .int kFe, .int kMo, .int kCo, .long kT, .ref mF, .ref mD, .ref mS, .ref mP])), (mJ, .inl (cy 0, 9, .inl jJ)), (mF, .inl (cy 0, 512, .inl jF)), (mD, .inl (cy 1, 512, .inl jD))] s.heap := hP
  have iwX9 : ∀ w ∈ wsX90, w ∈ wsX9_forget := by decide +kernel
  have fl23 := hts (.fieldLink RX9 23 "SlidTokensModel" "far" "[I") (by decide +kernel)
  have kn87 := hts (.constant RX9 87 (1000000)) (by decide +kernel)
  have fl26 := hts (.fieldLink RX9 26 "SlidTokensModel" "isDone" "[Z") (by decide +kernel)
  suffices K9 : ∀ (H : Heap) (locs : List Loc), va_P G vwCl [(m0, .inr (8, [.int kn, .ref mJ, .int kFe, .int kMo, .int kCo, .long kT, .ref mF, .ref mD, .ref mS, .ref mP])), (mJ, .inl (cy 0, 9, .inl jJ)), (mF, .inl (cy 0, 512, .inl jF)), (mD, .inl (cy 1, 512, .inl jD))] H → va_D A [(m0, .inr (8, [.int kn, .ref mJ, .int kFe, .int kMo, .int kCo, .long kT, .ref mF, .ref mD, .ref mS, .ref mP])), (mJ, .inl (cy 0, 9, .inl jJ)), (mF, .inl (cy 0, 512, .inl jF)), (mD, .inl (cy 1, 512, .inl jD))] → va_S A s.heap H locs → W p l e (headSpec wsX9_forget rmX9_forget).room s m args below meth c H locs 0 0 QM (F0 m 0 ls []) from K9 _ _ hP hD hS
  clear hP hD hS
  intro H locs hP hD hS
  refine lv_iconst (v := 0) hx hb dX9_forget_0 (by decide) ?_
  refine lv_istore_n (lv' := [(1, .int 0), (0, .ref m0)]) hx hb dX9_forget_1 rfl hl (by decide) rfl (fun ls hl => ?_)
  obtain ⟨I2_3, u2_3, h02, hst2⟩ := h
  have key2 : ∀ (k9 : Nat) (y1 : Int32) (f2 : Nat → Int32) (f3 : Nat → Int32), I2_3 y1 f2 f3 → u2_3 y1 f2 f3 < k9 → ∀ (H : Heap) (locs : List Loc), va_P G vwCl [(m0, .inr (8, [.int kn, .ref mJ, .int kFe, .int kMo, .int kCo, .long kT, .ref mF, .ref mD, .ref mS, .ref mP])), (mJ, .inl (cy 0, 9, .inl jJ)), (mF, .inl (cy 0, 512, .inl f2)), (mD, .inl (cy 1, 512, .inl f3))] H → va_D A [(m0, .inr (8, [.int kn, .ref mJ, .int kFe, .int kMo, .int kCo, .long kT, .ref mF, .ref mD, .ref mS, .ref mP])), (mJ, .inl (cy 0, 9, .inl jJ)), (mF, .inl (cy 0, 512, .inl f2)), (mD, .inl (cy 1, 512, .inl f3))] → va_S A s.heap H locs → ∀ (ls : Array Slot), lv_has ls 2 [(0, .ref m0), (1, .int y1)] → W p l e (headSpec wsX9_forget rmX9_forget).room s m args below meth c H locs 0 0 QM (F0 m 2 ls []) := by
    intro k9
    induction k9 with
    | zero =>
      intro y1 f2 f3 hI9 hk9
      exact absurd hk9 (Nat.not_lt_zero _)
    | succ k9 ih2 =>
      intro y1 f2 f3 hI9 hk2 H locs hP hD hS ls hl
      have h := hst2 y1 f2 f3 hI9
      refine lv_iload_n hx hb dX9_forget_2 rfl (lv_at hl 1 rfl) ?_
      refine lv_sipush (v := 512) hx hb dX9_forget_3 (by decide) ?_
      refine lv_icmp_ge (tgt := 30) hx hb dX9_forget_6 (by decide) (fun c4 => ?_) (fun c4 => ?_)
      · obtain ⟨h, -⟩ := h
        specialize h c4
        rw [← hQe]
        exact W.vret hx hb hr (fun t ht hW => ⟨⟨(f2, f3), rfl, h, by dsimp only; rw [ht]; exact hP⟩, hS.F ht⟩) hS.2.2 dX9_forget_30
      · obtain ⟨-, h⟩ := h
        specialize h c4
        refine lv_aload_n hx hb dX9_forget_9 rfl (lv_at hl 0 rfl) ?_
        refine va_get (D := G) (ci := 8) (v := .ref mF) (C := RX9) (T := TX9) (N := 10) hx hb hts iwX9 hown hK.1 hP 0 rfl rfl 6 (by decide) fl23 (fun _ h9 => h9) rfl dX9_forget_10 ?_
        refine lv_iload_n hx hb dX9_forget_13 rfl (lv_at hl 1 rfl) ?_
        refine lv_ldc hx hb hown kn87 dX9_forget_14 ?_
        obtain ⟨hi, h⟩ := h
        refine va_iast hx hb hK.1 hP hD hS 2 0 rfl rfl hi dX9_forget_16 (fun H locs hP hD hS => ?_)
        obtain ⟨f5, ef5⟩ : ∃ z9 : Nat → Int32, z9 = upd f2 (y1 : Int32).toNatClampNeg 1000000 := ⟨_, rfl⟩
        specialize h f5 ef5
        have hP : va_P G vwCl [(m0, .inr (8, [.int kn, .ref mJ, .int kFe, .int kMo, .int kCo, .long kT, .ref mF, .ref mD, .ref mS, .ref mP])), (mJ, .inl (cy 0, 9, .inl jJ)), (mF, .inl (cy 0, 512, .inl f5)), (mD, .inl (cy 1, 512, .inl f3))] H := by rw [ef5]; exact hP
        have hD : va_D A [(m0, .inr (8, [.int kn, .ref mJ, .int kFe, .int kMo, .int kCo, .long kT, .ref mF, .ref mD, .ref mS, .ref mP])), (mJ, .inl (cy 0, 9, .inl jJ)), (mF, .inl (cy 0, 512, .inl f5)), (mD, .inl (cy 1, 512, .inl f3))] := D_same hD rfl
        refine lv_aload_n hx hb dX9_forget_17 rfl (lv_at hl 0 rfl) ?_
        refine va_get (D := G) (ci := 8) (v := .ref mD) (C := RX9) (T := TX9) (N := 10) hx hb hts iwX9 hown hK.1 hP 0 rfl rfl 7 (by decide) fl26 (fun _ h9 => h9) rfl dX9_forget_18 ?_
        refine lv_iload_n hx hb dX9_forget_21 rfl (lv_at hl 1 rfl) ?_
        refine lv_iconst (v := 0) hx hb dX9_forget_22 (by decide) ?_
        obtain ⟨hi, h⟩ := h
        refine va_zast hx hb hK.1 hP hD hS 3 1 rfl rfl hi dX9_forget_23 (fun H locs hP hD hS => ?_)
        obtain ⟨f6, ef6⟩ : ∃ z9 : Nat → Int32, z9 = upd f3 (y1 : Int32).toNatClampNeg (vp_nar .boolean 0) := ⟨_, rfl⟩
        specialize h f6 ef6
        have hP : va_P G vwCl [(m0, .inr (8, [.int kn, .ref mJ, .int kFe, .int kMo, .int kCo, .long kT, .ref mF, .ref mD, .ref mS, .ref mP])), (mJ, .inl (cy 0, 9, .inl jJ)), (mF, .inl (cy 0, 512, .inl f5)), (mD, .inl (cy 1, 512, .inl f6))] H := by rw [ef6]; exact hP
        have hD : va_D A [(m0, .inr (8, [.int kn, .ref mJ, .int kFe, .int kMo, .int kCo, .long kT, .ref mF, .ref mD, .ref mS, .ref mP])), (mJ, .inl (cy 0, 9, .inl jJ)), (mF, .inl (cy 0, 512, .inl f5)), (mD, .inl (cy 1, 512, .inl f6))] := D_same hD rfl
        obtain ⟨x7, ex7⟩ : ∃ y : Int32, y = y1 + 1 := ⟨_, rfl⟩
        specialize h x7 ex7
        refine lv_iinc (v := x7) (lv' := [(1, .int x7), (0, .ref m0)]) hx hb dX9_forget_24 hl (k := 1) rfl (by rw [ex7]; rfl) (by decide) rfl (fun ls hl => ?_)
        refine lv_goto (tgt := 2) hx hb dX9_forget_27 (by decide) ?_
        exact ih2 x7 f5 f6 h.1 (Nat.lt_of_lt_of_le h.2 (Nat.le_of_lt_succ hk2)) _ _ hP hD hS _ (lv_sub hl [1, 0] rfl)
  exact key2 _ 0 jF jD h02 (Nat.lt_succ_self _) _ _ hP hD hS _ (lv_sub hl [1, 0] rfl)

set_option maxHeartbeats 4000000 in
set_option maxRecDepth 100000 in
theorem ct_X9_walk (l : Launch) (G : va_G) (cy : Nat → ClassId) (m0 mJ mF mD mS mP : Nat) (sz : Nat) (kn : Int32) (kFe : Int32) (kMo : Int32) (kCo : Int32) (kT : Int64) (jJ : Nat → Int32) (jF : Nat → Int32) (jD : Nat → Int32) (p1 : Int32) (p2 : Int32) (p3 : Int32) (p4 : Int32) (p5 : Int32) (Q : Int32 → (Nat → Int32) → (Nat → Int32) → Prop) (h : wp_X9_walk kn kFe kMo jJ jF jD p1 p2 p3 p4 p5 Q) : Met l yX9_walk wsX9_walk rmX9_walk (va_Pc [.ref m0, .int p1, .int p2, .int p3, .int p4, .int p5] (wP G cy sz [(m0, .inr (8, [.int kn, .ref mJ, .int kFe, .int kMo, .int kCo, .long kT, .ref mF, .ref mD, .ref mS, .ref mP])), (mJ, .inl (cy 0, 9, .inl jJ)), (mF, .inl (cy 0, 512, .inl jF)), (mD, .inl (cy 1, 512, .inl jD))])) (va_Qi (fun (r : Int32) (u : (Nat → Int32) × (Nat → Int32)) => Q r u.1 u.2) (fun (u : (Nat → Int32) × (Nat → Int32)) (t : State) => va_P G vwCl [(m0, .inr (8, [.int kn, .ref mJ, .int kFe, .int kMo, .int kCo, .long kT, .ref mF, .ref mD, .ref mS, .ref mP])), (mJ, .inl (cy 0, 9, .inl jJ)), (mF, .inl (cy 0, 512, .inl u.1)), (mD, .inl (cy 1, 512, .inl u.2))] t.heap) (va_A [(m0, .inr (8, [.int kn, .ref mJ, .int kFe, .int kMo, .int kCo, .long kT, .ref mF, .ref mD, .ref mS, .ref mP])), (mJ, .inl (cy 0, 9, .inl jJ)), (mF, .inl (cy 0, 512, .inl jF)), (mD, .inl (cy 1, 512, .inl jD))] sz)) 0 0 (va_A [(m0, .inr (8, [.int kn, .ref mJ, .int kFe, .int kMo, .int kCo, .long kT, .ref mF, .ref mD, .ref mS, .ref mP])), (mJ, .inl (cy 0, 9, .inl jJ)), (mF, .inl (cy 0, 512, .inl jF)), (mD, .inl (cy 1, 512, .inl jD))] sz) := by
  unfold wp_X9_walk at h
  refine Met.ofW (cc := cX9_walk) (maxL := 7) (ret := (some .int)) (by decide) rfl ?_
  intro p e s m args below meth c s₁ B hml hv
  obtain ⟨hav, hsz, hP, hK, hD0⟩ := hv
  have hx := B.exec
  have hb := B.bytes
  have hr := B.returns
  have hts := atoms_spec (ws := wsX9_walk) B.pre
  have hown : s.vm.findClass RX9 = some m.cls := findClass_of_methodNamed B.named
  have hlocks := B.notSynchronized
  subst hsz
  have hD := hD0.self (sz := s.heap.size)
  generalize hAe : va_A [(m0, .inr (8, [.int kn, .ref mJ, .int kFe, .int kMo, .int kCo, .long kT, .ref mF, .ref mD, .ref mS, .ref mP])), (mJ, .inl (cy 0, 9, .inl jJ)), (mF, .inl (cy 0, 512, .inl jF)), (mD, .inl (cy 1, 512, .inl jD))] s.heap.size = A at hD ⊢
  have hA : ∀ q : Nat, s.heap.size ≤ q → A q := fun q h9 => by rw [← hAe]; exact Or.inr h9
  have hS : va_S A s.heap s.heap [] := va_S.rf
  have hl := lv_entry ([.ref m0, .int p1, .int p2, .int p3, .int p4, .int p5]) (n := 7) (Nat.le_of_ble_eq_true rfl)
  rw [show entryFrame m args 7 = entryFrame m ([.ref m0, .int p1, .int p2, .int p3, .int p4, .int p5] : List Value).toArray 7 by rw [hav], lg_entry_eq]
  generalize (lg_sl ([.ref m0, .int p1, .int p2, .int p3, .int p4, .int p5]) ++ List.replicate (7 - (lg_sl ([.ref m0, .int p1, .int p2, .int p3, .int p4, .int p5])).length) Slot.unset).toArray = ls at hl ⊢
  have hl : lv_has ls 7 [(0, .ref m0), (1, .int p1), (2, .int p2), (3, .int p3), (4, .int p4), (5, .int p5)] := hl
  generalize hQe : MQ below _ _ _ _ _ _ = QM
  have hP : va_P G vwCl [(m0, .inr (8, [.int kn, .ref mJ, .int kFe, .int kMo, .int kCo, .long kT, .ref mF, .ref mD, .ref mS, .ref mP])), (mJ, .inl (cy 0, 9, .inl jJ)), (mF, .inl (cy 0, 512, .inl jF)), (mD, .inl (cy 1, 512, .inl jD))] s.heap := hP
  have iwX9 : ∀ w ∈ wsX90, w ∈ wsX9_walk := by decide +kernel
  have fl7 := hts (.fieldLink RX9 7 "SlidTokensModel" "n" "I") (by decide +kernel)
  have fl23 := hts (.fieldLink RX9 23 "SlidTokensModel" "far" "[I") (by decide +kernel)
  have kn87 := hts (.constant RX9 87 (1000000)) (by decide +kernel)
  suffices K9 : ∀ (H : Heap) (locs : List Loc), va_P G vwCl [(m0, .inr (8, [.int kn, .ref mJ, .int kFe, .int kMo, .int kCo, .long kT, .ref mF, .ref mD, .ref mS, .ref mP])), (mJ, .inl (cy 0, 9, .inl jJ)), (mF, .inl (cy 0, 512, .inl jF)), (mD, .inl (cy 1, 512, .inl jD))] H → va_D A [(m0, .inr (8, [.int kn, .ref mJ, .int kFe, .int kMo, .int kCo, .long kT, .ref mF, .ref mD, .ref mS, .ref mP])), (mJ, .inl (cy 0, 9, .inl jJ)), (mF, .inl (cy 0, 512, .inl jF)), (mD, .inl (cy 1, 512, .inl jD))] → va_S A s.heap H locs → W p l e (headSpec wsX9_walk rmX9_walk).room s m args below meth c H locs 0 0 QM (F0 m 0 ls []) from K9 _ _ hP hD hS
  clear hP hD hS
  intro H locs hP hD hS
  refine lv_aload_n hx hb dX9_walk_0 rfl (lv_at hl 0 rfl) ?_
  refine lv_iload_n hx hb dX9_walk_1 rfl (lv_at hl 1 rfl) ?_
  refine lv_iload_n hx hb dX9_walk_2 rfl (lv_at hl 2 rfl) ?_
  refine lv_iload_n hx hb dX9_walk_3 rfl (lv_at hl 3 rfl) ?_
  obtain ⟨Q1, hw9, h⟩ := h
  have hPc : va_P G vwCl [(m0, .inr (8, [.int kn, .ref mJ, .int kFe, .int kMo, .int kCo, .long kT, .ref mF, .ref mD, .ref mS, .ref mP])), (mJ, .inl (cy 0, 9, .inl jJ))] H := hP.sub [0, 1] rfl
  refine vp_callSi (va_Run.run (va_runV (As := [.int p1, .int p2, .int p3]) (rest := []) ⟨hx, hb, hml, hown, hts⟩ (ct_X9_isGood l G cy m0 mJ mF mD mS mP kn kFe kMo kCo kT jJ p1 p2 p3 Q1 hw9) (cwV 3 hts gX9_walk_X9_isGood rfl rfl rfl (by decide +kernel) ⟨Nat.le_of_ble_eq_true rfl, Nat.le_of_ble_eq_true rfl⟩) (rP_V hK hP (ci := 8) (q0 := 0) rfl rfl hPc) rfl rfl hl.1 rfl (lv_room (Nat.le_of_ble_eq_true rfl)) dX9_walk_4 ⟨Nat.le_of_ble_eq_true rfl, Nat.le_of_ble_eq_true rfl⟩)) (fun r2 er2 => ?_)
  specialize h r2 er2
  refine lv_if_eq (tgt := 31) hx hb dX9_walk_7 (by decide) (fun c3 => ?_) (fun c3 => ?_)
  · obtain ⟨h, -⟩ := h
    specialize h c3
    refine lv_iconst (v := (-1)) hx hb dX9_walk_31 (by decide) ?_
    rw [← hQe]
    exact W.iret (v := (-1)) hx hb hr (fun t ht hW => ⟨⟨(-1), (jF, jD), rfl, h, by dsimp only; rw [ht]; exact hP⟩, hS.F ht⟩) hS.2.2 dX9_walk_32
  · obtain ⟨-, h⟩ := h
    specialize h c3
    refine lv_aload_n hx hb dX9_walk_10 rfl (lv_at hl 0 rfl) ?_
    refine lv_iload_n hx hb dX9_walk_11 rfl (lv_at hl 1 rfl) ?_
    refine lv_iload_n hx hb dX9_walk_12 rfl (lv_at hl 2 rfl) ?_
    refine lv_iload hx hb dX9_walk_13 (lv_at hl 4 rfl) ?_
    obtain ⟨Q4, hw9, h⟩ := h
    have hPc : va_P G vwCl [(m0, .inr (8, [.int kn, .ref mJ, .int kFe, .int kMo, .int kCo, .long kT, .ref mF, .ref mD, .ref mS, .ref mP])), (mJ, .inl (cy 0, 9, .inl jJ))] H := hP.sub [0, 1] rfl
    refine vp_callSi (va_Run.run (va_runV (As := [.int p1, .int p2, .int p4]) (rest := []) ⟨hx, hb, hml, hown, hts⟩ (ct_X9_isGood l G cy m0 mJ mF mD mS mP kn kFe kMo kCo kT jJ p1 p2 p4 Q4 hw9) (cwV 3 hts gX9_walk_X9_isGood rfl rfl rfl (by decide +kernel) ⟨Nat.le_of_ble_eq_true rfl, Nat.le_of_ble_eq_true rfl⟩) (rP_V hK hP (ci := 8) (q0 := 0) rfl rfl hPc) rfl rfl hl.1 rfl (lv_room (Nat.le_of_ble_eq_true rfl)) dX9_walk_15 ⟨Nat.le_of_ble_eq_true rfl, Nat.le_of_ble_eq_true rfl⟩)) (fun r5 er5 => ?_)
    specialize h r5 er5
    refine lv_if_eq (tgt := 31) hx hb dX9_walk_18 (by decide) (fun c6 => ?_) (fun c6 => ?_)
    · obtain ⟨h, -⟩ := h
      specialize h c6
      refine lv_iconst (v := (-1)) hx hb dX9_walk_31 (by decide) ?_
      rw [← hQe]
      exact W.iret (v := (-1)) hx hb hr (fun t ht hW => ⟨⟨(-1), (jF, jD), rfl, h, by dsimp only; rw [ht]; exact hP⟩, hS.F ht⟩) hS.2.2 dX9_walk_32
    · obtain ⟨-, h⟩ := h
      specialize h c6
      refine lv_iload hx hb dX9_walk_21 (lv_at hl 5 rfl) ?_
      refine lv_iconst (v := 0) hx hb dX9_walk_23 (by decide) ?_
      refine lv_iconst (v := 2) hx hb dX9_walk_24 (by decide) ?_
      obtain ⟨Q7, hw9, h⟩ := h
      have hPc : va_P G vwCl [] H := P_nil
      refine vp_callSi (va_Run.run (va_runS (As := [.int p5, .int 0, .int 2]) (rest := []) ⟨hx, hb, hml, hown, hts⟩ (ct_X9_in l G cy p5 0 2 Q7 hw9) (va_cwS 3 hts gX9_walk_X9_in rfl rfl rfl (by decide +kernel) ⟨Nat.le_of_ble_eq_true rfl, Nat.le_of_ble_eq_true rfl⟩) (rP_S hK hPc) rfl rfl hl.1 rfl (lv_room (Nat.le_of_ble_eq_true rfl)) dX9_walk_25 ⟨Nat.le_of_ble_eq_true rfl, Nat.le_of_ble_eq_true rfl⟩)) (fun r8 er8 => ?_)
      specialize h r8 er8
      refine lv_if_ne (tgt := 33) hx hb dX9_walk_28 (by decide) (fun c9 => ?_) (fun c9 => ?_)
      · obtain ⟨-, h⟩ := h
        specialize h c9
        refine lv_aload_n hx hb dX9_walk_33 rfl (lv_at hl 0 rfl) ?_
        obtain ⟨Q10, hw9, h⟩ := h
        have hPc : va_P G vwCl [(m0, .inr (8, [.int kn, .ref mJ, .int kFe, .int kMo, .int kCo, .long kT, .ref mF, .ref mD, .ref mS, .ref mP])), (mJ, .inl (cy 0, 9, .inl jJ)), (mF, .inl (cy 0, 512, .inl jF)), (mD, .inl (cy 1, 512, .inl jD))] H := hP.sub [0, 1, 2, 3] rfl
        have hDc : va_D A [(m0, .inr (8, [.int kn, .ref mJ, .int kFe, .int kMo, .int kCo, .long kT, .ref mF, .ref mD, .ref mS, .ref mP])), (mJ, .inl (cy 0, 9, .inl jJ)), (mF, .inl (cy 0, 512, .inl jF)), (mD, .inl (cy 1, 512, .inl jD))] := hD.sub [0, 1, 2, 3] (by decide) rfl
        have hFc := va_free (wc := [(m0, .inr (8, [.int kn, .ref mJ, .int kFe, .int kMo, .int kCo, .long kT, .ref mF, .ref mD, .ref mS, .ref mP])), (mJ, .inl (cy 0, 9, .inl jJ)), (mF, .inl (cy 0, 512, .inl jF)), (mD, .inl (cy 1, 512, .inl jD))]) hD hS hA [0, 1, 2, 3] rfl
        refine va_callv (va_runV (As := []) (rest := []) ⟨hx, hb, hml, hown, hts⟩ (ct_X9_forget l G cy m0 mJ mF mD mS mP H.size kn kFe kMo kCo kT jJ jF jD Q10 hw9) (cwV 0 hts gX9_walk_X9_forget rfl rfl rfl (by decide +kernel) ⟨Nat.le_of_ble_eq_true rfl, Nat.le_of_ble_eq_true rfl⟩) (wP_V hK hP (ci := 8) (q0 := 0) rfl rfl hPc hDc) rfl rfl hl.1 rfl (lv_room (Nat.le_of_ble_eq_true rfl)) dX9_walk_34 ⟨Nat.le_of_ble_eq_true rfl, Nat.le_of_ble_eq_true rfl⟩) hS (fun q9 _ h9 => hFc q9 h9) hFc (fun u9 t9 H locs ht9 hvm9 hw9 hB9 hz9 hk9 hS => ?_)
        obtain ⟨f12, f13⟩ := u9
        have hP : va_P G vwCl [(m0, .inr (8, [.int kn, .ref mJ, .int kFe, .int kMo, .int kCo, .long kT, .ref mF, .ref mD, .ref mS, .ref mP])), (mJ, .inl (cy 0, 9, .inl jJ)), (mF, .inl (cy 0, 512, .inl f12)), (mD, .inl (cy 1, 512, .inl f13))] H := P_back [0, 1, 2, 3] [] 4 hP hD rfl rfl rfl rfl (by decide) (by decide) hk9 (by rw [← ht9]; exact hB9)
        have hD : va_D A [(m0, .inr (8, [.int kn, .ref mJ, .int kFe, .int kMo, .int kCo, .long kT, .ref mF, .ref mD, .ref mS, .ref mP])), (mJ, .inl (cy 0, 9, .inl jJ)), (mF, .inl (cy 0, 512, .inl f12)), (mD, .inl (cy 1, 512, .inl f13))] := D_same hD rfl
        specialize h f12 f13 hw9
        refine lv_aload_n hx hb dX9_walk_37 rfl (lv_at hl 0 rfl) ?_
        refine lv_iload_n hx hb dX9_walk_38 rfl (lv_at hl 1 rfl) ?_
        refine lv_iload_n hx hb dX9_walk_39 rfl (lv_at hl 2 rfl) ?_
        refine lv_iload hx hb dX9_walk_40 (lv_at hl 4 rfl) ?_
        refine lv_iload hx hb dX9_walk_42 (lv_at hl 5 rfl) ?_
        refine lv_iconst (v := 2) hx hb dX9_walk_44 (by decide) ?_
        obtain ⟨J53_14, h, hJ53⟩ := h
        have jn53 : ∀ (t14 : Int32), J53_14 t14 → ∀ (H : Heap) (locs : List Loc), va_P G vwCl [(m0, .inr (8, [.int kn, .ref mJ, .int kFe, .int kMo, .int kCo, .long kT, .ref mF, .ref mD, .ref mS, .ref mP])), (mJ, .inl (cy 0, 9, .inl jJ)), (mF, .inl (cy 0, 512, .inl f12)), (mD, .inl (cy 1, 512, .inl f13))] H → va_D A [(m0, .inr (8, [.int kn, .ref mJ, .int kFe, .int kMo, .int kCo, .long kT, .ref mF, .ref mD, .ref mS, .ref mP])), (mJ, .inl (cy 0, 9, .inl jJ)), (mF, .inl (cy 0, 512, .inl f12)), (mD, .inl (cy 1, 512, .inl f13))] → va_S A s.heap H locs → ∀ (ls : Array Slot), lv_has ls 7 [(0, .ref m0), (2, .int p2), (3, .int p3), (4, .int p4), (5, .int p5)] → W p l e (headSpec wsX9_walk rmX9_walk).room s m args below meth c H locs 0 0 QM (F0 m 53 ls [.int t14, .int p4, .int p2, .int p1, .ref m0]) := by
          intro t14 hj9 H locs hP hD hS ls hl
          have h := hJ53 t14 hj9
          obtain ⟨Q16, hw9, h⟩ := h
          have hPc : va_P G vwCl [(m0, .inr (8, [.int kn, .ref mJ, .int kFe, .int kMo, .int kCo, .long kT, .ref mF, .ref mD, .ref mS, .ref mP])), (mJ, .inl (cy 0, 9, .inl jJ)), (mF, .inl (cy 0, 512, .inl f12)), (mD, .inl (cy 1, 512, .inl f13))] H := hP.sub [0, 1, 2, 3] rfl
          have hDc : va_D A [(m0, .inr (8, [.int kn, .ref mJ, .int kFe, .int kMo, .int kCo, .long kT, .ref mF, .ref mD, .ref mS, .ref mP])), (mJ, .inl (cy 0, 9, .inl jJ)), (mF, .inl (cy 0, 512, .inl f12)), (mD, .inl (cy 1, 512, .inl f13))] := hD.sub [0, 1, 2, 3] (by decide) rfl
          have hFc := va_free (wc := [(m0, .inr (8, [.int kn, .ref mJ, .int kFe, .int kMo, .int kCo, .long kT, .ref mF, .ref mD, .ref mS, .ref mP])), (mJ, .inl (cy 0, 9, .inl jJ)), (mF, .inl (cy 0, 512, .inl f12)), (mD, .inl (cy 1, 512, .inl f13))]) hD hS hA [0, 1, 2, 3] rfl
          refine va_callv (va_runV (As := [.int p1, .int p2, .int p4, .int t14]) (rest := []) ⟨hx, hb, hml, hown, hts⟩ (ct_X9_goFrom l G cy m0 mJ mF mD mS mP H.size kn kFe kMo kCo kT jJ f12 f13 p1 p2 p4 t14 Q16 hw9) (cwV 4 hts gX9_walk_X9_goFrom rfl rfl rfl (by decide +kernel) ⟨Nat.le_of_ble_eq_true rfl, Nat.le_of_ble_eq_true rfl⟩) (wP_V hK hP (ci := 8) (q0 := 0) rfl rfl hPc hDc) rfl rfl hl.1 rfl (lv_room (Nat.le_of_ble_eq_true rfl)) dX9_walk_53 ⟨Nat.le_of_ble_eq_true rfl, Nat.le_of_ble_eq_true rfl⟩) hS (fun q9 _ h9 => hFc q9 h9) hFc (fun u9 t9 H locs ht9 hvm9 hw9 hB9 hz9 hk9 hS => ?_)
          obtain ⟨f18, f19⟩ := u9
          have hP : va_P G vwCl [(m0, .inr (8, [.int kn, .ref mJ, .int kFe, .int kMo, .int kCo, .long kT, .ref mF, .ref mD, .ref mS, .ref mP])), (mJ, .inl (cy 0, 9, .inl jJ)), (mF, .inl (cy 0, 512, .inl f18)), (mD, .inl (cy 1, 512, .inl f19))] H := P_back [0, 1, 2, 3] [] 4 hP hD rfl rfl rfl rfl (by decide) (by decide) hk9 (by rw [← ht9]; exact hB9)
          have hD : va_D A [(m0, .inr (8, [.int kn, .ref mJ, .int kFe, .int kMo, .int kCo, .long kT, .ref mF, .ref mD, .ref mS, .ref mP])), (mJ, .inl (cy 0, 9, .inl jJ)), (mF, .inl (cy 0, 512, .inl f18)), (mD, .inl (cy 1, 512, .inl f19))] := D_same hD rfl
          specialize h f18 f19 hw9
          refine lv_iload hx hb dX9_walk_56 (lv_at hl 4 rfl) ?_
          refine lv_iconst (v := 1) hx hb dX9_walk_58 (by decide) ?_
          refine lv_icmp_eq (tgt := 85) hx hb dX9_walk_59 (by decide) (fun c20 => ?_) (fun c20 => ?_)
          · obtain ⟨h, -⟩ := h
            specialize h c20
            refine lv_iconst (v := 0) hx hb dX9_walk_85 (by decide) ?_
            refine lv_istore (lv' := [(6, .int 0), (0, .ref m0), (2, .int p2), (3, .int p3), (4, .int p4), (5, .int p5)]) hx hb dX9_walk_86 hl (by decide) rfl (fun ls hl => ?_)
            obtain ⟨I88_21, u88_21, h088, hst88⟩ := h
            have key88 : ∀ (k9 : Nat) (y21 : Int32), I88_21 y21 → u88_21 y21 < k9 → ∀ (H : Heap) (locs : List Loc), va_P G vwCl [(m0, .inr (8, [.int kn, .ref mJ, .int kFe, .int kMo, .int kCo, .long kT, .ref mF, .ref mD, .ref mS, .ref mP])), (mJ, .inl (cy 0, 9, .inl jJ)), (mF, .inl (cy 0, 512, .inl f18)), (mD, .inl (cy 1, 512, .inl f19))] H → va_D A [(m0, .inr (8, [.int kn, .ref mJ, .int kFe, .int kMo, .int kCo, .long kT, .ref mF, .ref mD, .ref mS, .ref mP])), (mJ, .inl (cy 0, 9, .inl jJ)), (mF, .inl (cy 0, 512, .inl f18)), (mD, .inl (cy 1, 512, .inl f19))] → va_S A s.heap H locs → ∀ (ls : Array Slot), lv_has ls 7 [(0, .ref m0), (2, .int p2), (3, .int p3), (4, .int p4), (6, .int y21)] → W p l e (headSpec wsX9_walk rmX9_walk).room s m args below meth c H locs 0 0 QM (F0 m 88 ls []) := by
              intro k9
              induction k9 with
              | zero =>
                intro y21 hI9 hk9
                exact absurd hk9 (Nat.not_lt_zero _)
              | succ k9 ih88 =>
                intro y21 hI9 hk88 H locs hP hD hS ls hl
                have h := hst88 y21 hI9
                refine lv_iload hx hb dX9_walk_88 (lv_at hl 4 rfl) ?_
                refine lv_iconst (v := 1) hx hb dX9_walk_90 (by decide) ?_
                refine lv_aload_n hx hb dX9_walk_91 rfl (lv_at hl 0 rfl) ?_
                refine va_get (D := G) (ci := 8) (v := .int kn) (C := RX9) (T := TX9) (N := 10) hx hb hts iwX9 hown hK.1 hP 0 rfl rfl 0 (by decide) fl7 (fun _ h9 => h9) rfl dX9_walk_92 ?_
                refine lv_ishl hx hb dX9_walk_95 ?_
                refine lv_icmp_ge (tgt := 154) hx hb dX9_walk_96 (by decide) (fun c22 => ?_) (fun c22 => ?_)
                · obtain ⟨h, -⟩ := h
                  specialize h c22
                  refine lv_bipush (v := (-9)) hx hb dX9_walk_154 (by decide) ?_
                  rw [← hQe]
                  exact W.iret (v := (-9)) hx hb hr (fun t ht hW => ⟨⟨(-9), (f18, f19), rfl, h, by dsimp only; rw [ht]; exact hP⟩, hS.F ht⟩) hS.2.2 dX9_walk_156
                · obtain ⟨-, h⟩ := h
                  specialize h c22
                  refine lv_aload_n hx hb dX9_walk_99 rfl (lv_at hl 0 rfl) ?_
                  refine va_get (D := G) (ci := 8) (v := .ref mF) (C := RX9) (T := TX9) (N := 10) hx hb hts iwX9 hown hK.1 hP 0 rfl rfl 6 (by decide) fl23 (fun _ h9 => h9) rfl dX9_walk_100 ?_
                  refine lv_iload_n hx hb dX9_walk_103 rfl (lv_at hl 2 rfl) ?_
                  obtain ⟨hi, h⟩ := h
                  refine va_iald hx hb hK.1 hP 2 0 rfl rfl hi dX9_walk_104 ?_
                  refine lv_ldc hx hb hown kn87 dX9_walk_105 ?_
                  refine lv_icmp_ge (tgt := 148) hx hb dX9_walk_107 (by decide) (fun c23 => ?_) (fun c23 => ?_)
                  · obtain ⟨h, -⟩ := h
                    specialize h c23
                    obtain ⟨x24, ex24⟩ : ∃ y : Int32, y = y21 + 1 := ⟨_, rfl⟩
                    specialize h x24 ex24
                    refine lv_iinc (v := x24) (lv' := [(6, .int x24), (0, .ref m0), (2, .int p2), (3, .int p3), (4, .int p4)]) hx hb dX9_walk_148 hl (k := 4) rfl (by rw [ex24]; rfl) (by decide) rfl (fun ls hl => ?_)
                    refine lv_goto (tgt := 88) hx hb dX9_walk_151 (by decide) ?_
                    exact ih88 x24 h.1 (Nat.lt_of_lt_of_le h.2 (Nat.le_of_lt_succ hk88)) _ _ hP hD hS _ (lv_sub hl [1, 2, 3, 4, 0] rfl)
                  · obtain ⟨-, h⟩ := h
                    specialize h c23
                    refine lv_iload_n hx hb dX9_walk_110 rfl (lv_at hl 2 rfl) ?_
                    refine lv_iload hx hb dX9_walk_111 (lv_at hl 3 rfl) ?_
                    refine lv_icmp_eq (tgt := 148) hx hb dX9_walk_113 (by decide) (fun c25 => ?_) (fun c25 => ?_)
                    · obtain ⟨h, -⟩ := h
                      specialize h c25
                      obtain ⟨x26, ex26⟩ : ∃ y : Int32, y = y21 + 1 := ⟨_, rfl⟩
                      specialize h x26 ex26
                      refine lv_iinc (v := x26) (lv' := [(6, .int x26), (0, .ref m0), (2, .int p2), (3, .int p3), (4, .int p4)]) hx hb dX9_walk_148 hl (k := 4) rfl (by rw [ex26]; rfl) (by decide) rfl (fun ls hl => ?_)
                      refine lv_goto (tgt := 88) hx hb dX9_walk_151 (by decide) ?_
                      exact ih88 x26 h.1 (Nat.lt_of_lt_of_le h.2 (Nat.le_of_lt_succ hk88)) _ _ hP hD hS _ (lv_sub hl [1, 2, 3, 4, 0] rfl)
                    · obtain ⟨-, h⟩ := h
                      specialize h c25
                      refine lv_aload_n hx hb dX9_walk_116 rfl (lv_at hl 0 rfl) ?_
                      refine va_get (D := G) (ci := 8) (v := .ref mF) (C := RX9) (T := TX9) (N := 10) hx hb hts iwX9 hown hK.1 hP 0 rfl rfl 6 (by decide) fl23 (fun _ h9 => h9) rfl dX9_walk_117 ?_
                      refine lv_iload hx hb dX9_walk_120 (lv_at hl 4 rfl) ?_
                      obtain ⟨hi, h⟩ := h
                      refine va_iald hx hb hK.1 hP 2 0 rfl rfl hi dX9_walk_122 ?_
                      refine lv_aload_n hx hb dX9_walk_123 rfl (lv_at hl 0 rfl) ?_
                      refine va_get (D := G) (ci := 8) (v := .ref mF) (C := RX9) (T := TX9) (N := 10) hx hb hts iwX9 hown hK.1 hP 0 rfl rfl 6 (by decide) fl23 (fun _ h9 => h9) rfl dX9_walk_124 ?_
                      refine lv_iload_n hx hb dX9_walk_127 rfl (lv_at hl 2 rfl) ?_
                      obtain ⟨hi, h⟩ := h
                      refine va_iald hx hb hK.1 hP 2 0 rfl rfl hi dX9_walk_128 ?_
                      refine lv_iconst (v := 1) hx hb dX9_walk_129 (by decide) ?_
                      refine lv_isub hx hb dX9_walk_130 ?_
                      refine lv_icmp_ne (tgt := 148) hx hb dX9_walk_131 (by decide) (fun c27 => ?_) (fun c27 => ?_)
                      · obtain ⟨-, h⟩ := h
                        specialize h c27
                        obtain ⟨x28, ex28⟩ : ∃ y : Int32, y = y21 + 1 := ⟨_, rfl⟩
                        specialize h x28 ex28
                        refine lv_iinc (v := x28) (lv' := [(6, .int x28), (0, .ref m0), (2, .int p2), (3, .int p3), (4, .int p4)]) hx hb dX9_walk_148 hl (k := 4) rfl (by rw [ex28]; rfl) (by decide) rfl (fun ls hl => ?_)
                        refine lv_goto (tgt := 88) hx hb dX9_walk_151 (by decide) ?_
                        exact ih88 x28 h.1 (Nat.lt_of_lt_of_le h.2 (Nat.le_of_lt_succ hk88)) _ _ hP hD hS _ (lv_sub hl [1, 2, 3, 4, 0] rfl)
                      · obtain ⟨h, -⟩ := h
                        specialize h c27
                        refine lv_aload_n hx hb dX9_walk_134 rfl (lv_at hl 0 rfl) ?_
                        refine lv_iload_n hx hb dX9_walk_135 rfl (lv_at hl 1 rfl) ?_
                        refine lv_iload_n hx hb dX9_walk_136 rfl (lv_at hl 2 rfl) ?_
                        refine lv_iload hx hb dX9_walk_137 (lv_at hl 4 rfl) ?_
                        obtain ⟨Q29, hw9, h⟩ := h
                        have hPc : va_P G vwCl [(m0, .inr (8, [.int kn, .ref mJ, .int kFe, .int kMo, .int kCo, .long kT, .ref mF, .ref mD, .ref mS, .ref mP])), (mJ, .inl (cy 0, 9, .inl jJ))] H := hP.sub [0, 1] rfl
                        refine vp_callSi (va_Run.run (va_runV (As := [.int p2, .int p3, .int y21]) (rest := []) ⟨hx, hb, hml, hown, hts⟩ (ct_X9_weightOf l G cy m0 mJ mF mD mS mP kn kFe kMo kCo kT jJ p2 p3 y21 Q29 hw9) (cwV 3 hts gX9_walk_X9_weightOf rfl rfl rfl (by decide +kernel) ⟨Nat.le_of_ble_eq_true rfl, Nat.le_of_ble_eq_true rfl⟩) (rP_V hK hP (ci := 8) (q0 := 0) rfl rfl hPc) rfl rfl hl.1 rfl (lv_room (Nat.le_of_ble_eq_true rfl)) dX9_walk_139 ⟨Nat.le_of_ble_eq_true rfl, Nat.le_of_ble_eq_true rfl⟩)) (fun r30 er30 => ?_)
                        specialize h r30 er30
                        refine lv_if_le (tgt := 148) hx hb dX9_walk_142 (by decide) (fun c31 => ?_) (fun c31 => ?_)
                        · obtain ⟨h, -⟩ := h
                          specialize h c31
                          obtain ⟨x32, ex32⟩ : ∃ y : Int32, y = y21 + 1 := ⟨_, rfl⟩
                          specialize h x32 ex32
                          refine lv_iinc (v := x32) (lv' := [(6, .int x32), (0, .ref m0), (2, .int p2), (3, .int p3), (4, .int p4)]) hx hb dX9_walk_148 hl (k := 4) rfl (by rw [ex32]; rfl) (by decide) rfl (fun ls hl => ?_)
                          refine lv_goto (tgt := 88) hx hb dX9_walk_151 (by decide) ?_
                          exact ih88 x32 h.1 (Nat.lt_of_lt_of_le h.2 (Nat.le_of_lt_succ hk88)) _ _ hP hD hS _ (lv_sub hl [1, 2, 3, 4, 0] rfl)
                        · obtain ⟨-, h⟩ := h
                          specialize h c31
                          refine lv_iload hx hb dX9_walk_145 (lv_at hl 4 rfl) ?_
                          rw [← hQe]
                          exact W.iret (v := y21) hx hb hr (fun t ht hW => ⟨⟨y21, (f18, f19), rfl, h, by dsimp only; rw [ht]; exact hP⟩, hS.F ht⟩) hS.2.2 dX9_walk_147
            exact key88 _ 0 h088 (Nat.lt_succ_self _) _ _ hP hD hS _ (lv_sub hl [1, 2, 3, 4, 0] rfl)
          · obtain ⟨-, h⟩ := h
            specialize h c20
            refine lv_aload_n hx hb dX9_walk_62 rfl (lv_at hl 0 rfl) ?_
            refine va_get (D := G) (ci := 8) (v := .ref mF) (C := RX9) (T := TX9) (N := 10) hx hb hts iwX9 hown hK.1 hP 0 rfl rfl 6 (by decide) fl23 (fun _ h9 => h9) rfl dX9_walk_63 ?_
            refine lv_iload_n hx hb dX9_walk_66 rfl (lv_at hl 2 rfl) ?_
            obtain ⟨hi, h⟩ := h
            refine va_iald hx hb hK.1 hP 2 0 rfl rfl hi dX9_walk_67 ?_
            refine lv_ldc hx hb hown kn87 dX9_walk_68 ?_
            refine lv_icmp_ge (tgt := 82) hx hb dX9_walk_70 (by decide) (fun c33 => ?_) (fun c33 => ?_)
            · obtain ⟨h, -⟩ := h
              specialize h c33
              refine lv_bipush (v := (-9)) hx hb dX9_walk_82 (by decide) ?_
              rw [← hQe]
              exact W.iret (v := (-9)) hx hb hr (fun t ht hW => ⟨⟨(-9), (f18, f19), rfl, h, by dsimp only; rw [ht]; exact hP⟩, hS.F ht⟩) hS.2.2 dX9_walk_84
            · obtain ⟨-, h⟩ := h
              specialize h c33
              refine lv_aload_n hx hb dX9_walk_73 rfl (lv_at hl 0 rfl) ?_
              refine va_get (D := G) (ci := 8) (v := .ref mF) (C := RX9) (T := TX9) (N := 10) hx hb hts iwX9 hown hK.1 hP 0 rfl rfl 6 (by decide) fl23 (fun _ h9 => h9) rfl dX9_walk_74 ?_
              refine lv_iload_n hx hb dX9_walk_77 rfl (lv_at hl 2 rfl) ?_
              obtain ⟨hi, h⟩ := h
              refine va_iald hx hb hK.1 hP 2 0 rfl rfl hi dX9_walk_78 ?_
              refine lv_goto (tgt := 84) hx hb dX9_walk_79 (by decide) ?_
              rw [← hQe]
              exact W.iret (v := (f18 (p3 : Int32).toNatClampNeg)) hx hb hr (fun t ht hW => ⟨⟨(f18 (p3 : Int32).toNatClampNeg), (f18, f19), rfl, h, by dsimp only; rw [ht]; exact hP⟩, hS.F ht⟩) hS.2.2 dX9_walk_84
        refine lv_icmp_ne (tgt := 52) hx hb dX9_walk_45 (by decide) (fun c15 => ?_) (fun c15 => ?_)
        · obtain ⟨-, h⟩ := h
          specialize h c15
          refine lv_iconst (v := 0) hx hb dX9_walk_52 (by decide) ?_
          exact jn53 0 h _ _ hP hD hS _ (lv_sub hl [0, 2, 3, 4, 5] rfl)
        · obtain ⟨h, -⟩ := h
          specialize h c15
          refine lv_iconst (v := 1) hx hb dX9_walk_48 (by decide) ?_
          refine lv_goto (tgt := 53) hx hb dX9_walk_49 (by decide) ?_
          exact jn53 1 h _ _ hP hD hS _ (lv_sub hl [0, 2, 3, 4, 5] rfl)
      · obtain ⟨h, -⟩ := h
        specialize h c9
        refine lv_iconst (v := (-1)) hx hb dX9_walk_31 (by decide) ?_
        rw [← hQe]
        exact W.iret (v := (-1)) hx hb hr (fun t ht hW => ⟨⟨(-1), (jF, jD), rfl, h, by dsimp only; rw [ht]; exact hP⟩, hS.F ht⟩) hS.2.2 dX9_walk_32

set_option maxHeartbeats 4000000 in
set_option maxRecDepth 100000 in
theorem ct_X9_reach (l : Launch) (G : va_G) (cy : Nat → ClassId) (m0 mJ mF mD mS mP : Nat) (sz : Nat) (kn : Int32) (kFe : Int32) (kMo : Int32) (kCo : Int32) (kT : Int64) (jJ : Nat → Int32) (jF : Nat → Int32) (jD : Nat → Int32) (p1 : Int32) (p2 : Int32) (p3 : Int32) (p4 : Int32) (Q : Int32 → (Nat → Int32) → (Nat → Int32) → Prop) (h : wp_X9_reach kn kFe kMo jJ jF jD p1 p2 p3 p4 Q) : Met l yX9_reach wsX9_reach rmX9_reach (va_Pc [.ref m0, .int p1, .int p2, .int p3, .int p4] (wP G cy sz [(m0, .inr (8, [.int kn, .ref mJ, .int kFe, .int kMo, .int kCo, .long kT, .ref mF, .ref mD, .ref mS, .ref mP])), (mJ, .inl (cy 0, 9, .inl jJ)), (mF, .inl (cy 0, 512, .inl jF)), (mD, .inl (cy 1, 512, .inl jD))])) (va_Qi (fun (r : Int32) (u : (Nat → Int32) × (Nat → Int32)) => Q r u.1 u.2) (fun (u : (Nat → Int32) × (Nat → Int32)) (t : State) => va_P G vwCl [(m0, .inr (8, [.int kn, .ref mJ, .int kFe, .int kMo, .int kCo, .long kT, .ref mF, .ref mD, .ref mS, .ref mP])), (mJ, .inl (cy 0, 9, .inl jJ)), (mF, .inl (cy 0, 512, .inl u.1)), (mD, .inl (cy 1, 512, .inl u.2))] t.heap) (va_A [(m0, .inr (8, [.int kn, .ref mJ, .int kFe, .int kMo, .int kCo, .long kT, .ref mF, .ref mD, .ref mS, .ref mP])), (mJ, .inl (cy 0, 9, .inl jJ)), (mF, .inl (cy 0, 512, .inl jF)), (mD, .inl (cy 1, 512, .inl jD))] sz)) 0 0 (va_A [(m0, .inr (8, [.int kn, .ref mJ, .int kFe, .int kMo, .int kCo, .long kT, .ref mF, .ref mD, .ref mS, .ref mP])), (mJ, .inl (cy 0, 9, .inl jJ)), (mF, .inl (cy 0, 512, .inl jF)), (mD, .inl (cy 1, 512, .inl jD))] sz) := by
  unfold wp_X9_reach at h
  refine Met.ofW (cc := cX9_reach) (maxL := 9) (ret := (some .int)) (by decide) rfl ?_
  intro p e s m args below meth c s₁ B hml hv
  obtain ⟨hav, hsz, hP, hK, hD0⟩ := hv
  have hx := B.exec
  have hb := B.bytes
  have hr := B.returns
  have hts := atoms_spec (ws := wsX9_reach) B.pre
  have hown : s.vm.findClass RX9 = some m.cls := findClass_of_methodNamed B.named
  have hlocks := B.notSynchronized
  subst hsz
  have hD := hD0.self (sz := s.heap.size)
  generalize hAe : va_A [(m0, .inr (8, [.int kn, .ref mJ, .int kFe, .int kMo, .int kCo, .long kT, .ref mF, .ref mD, .ref mS, .ref mP])), (mJ, .inl (cy 0, 9, .inl jJ)), (mF, .inl (cy 0, 512, .inl jF)), (mD, .inl (cy 1, 512, .inl jD))] s.heap.size = A at hD ⊢
  have hA : ∀ q : Nat, s.heap.size ≤ q → A q := fun q h9 => by rw [← hAe]; exact Or.inr h9
  have hS : va_S A s.heap s.heap [] := va_S.rf
  have hl := lv_entry ([.ref m0, .int p1, .int p2, .int p3, .int p4]) (n := 9) (Nat.le_of_ble_eq_true rfl)
  rw [show entryFrame m args 9 = entryFrame m ([.ref m0, .int p1, .int p2, .int p3, .int p4] : List Value).toArray 9 by rw [hav], lg_entry_eq]
  generalize (lg_sl ([.ref m0, .int p1, .int p2, .int p3, .int p4]) ++ List.replicate (9 - (lg_sl ([.ref m0, .int p1, .int p2, .int p3, .int p4])).length) Slot.unset).toArray = ls at hl ⊢
  have hl : lv_has ls 9 [(0, .ref m0), (1, .int p1), (2, .int p2), (3, .int p3), (4, .int p4)] := hl
  generalize hQe : MQ below _ _ _ _ _ _ = QM
  have hP : va_P G vwCl [(m0, .inr (8, [.int kn, .ref mJ, .int kFe, .int kMo, .int kCo, .long kT, .ref mF, .ref mD, .ref mS, .ref mP])), (mJ, .inl (cy 0, 9, .inl jJ)), (mF, .inl (cy 0, 512, .inl jF)), (mD, .inl (cy 1, 512, .inl jD))] s.heap := hP
  have iwX9 : ∀ w ∈ wsX90, w ∈ wsX9_reach := by decide +kernel
  have fl7 := hts (.fieldLink RX9 7 "SlidTokensModel" "n" "I") (by decide +kernel)
  have fl26 := hts (.fieldLink RX9 26 "SlidTokensModel" "isDone" "[Z") (by decide +kernel)
  have fl23 := hts (.fieldLink RX9 23 "SlidTokensModel" "far" "[I") (by decide +kernel)
  suffices K9 : ∀ (H : Heap) (locs : List Loc), va_P G vwCl [(m0, .inr (8, [.int kn, .ref mJ, .int kFe, .int kMo, .int kCo, .long kT, .ref mF, .ref mD, .ref mS, .ref mP])), (mJ, .inl (cy 0, 9, .inl jJ)), (mF, .inl (cy 0, 512, .inl jF)), (mD, .inl (cy 1, 512, .inl jD))] H → va_D A [(m0, .inr (8, [.int kn, .ref mJ, .int kFe, .int kMo, .int kCo, .long kT, .ref mF, .ref mD, .ref mS, .ref mP])), (mJ, .inl (cy 0, 9, .inl jJ)), (mF, .inl (cy 0, 512, .inl jF)), (mD, .inl (cy 1, 512, .inl jD))] → va_S A s.heap H locs → W p l e (headSpec wsX9_reach rmX9_reach).room s m args below meth c H locs 0 0 QM (F0 m 0 ls []) from K9 _ _ hP hD hS
  clear hP hD hS
  intro H locs hP hD hS
  refine lv_aload_n hx hb dX9_reach_0 rfl (lv_at hl 0 rfl) ?_
  refine lv_iload_n hx hb dX9_reach_1 rfl (lv_at hl 1 rfl) ?_
  refine lv_iload_n hx hb dX9_reach_2 rfl (lv_at hl 2 rfl) ?_
  refine lv_iload_n hx hb dX9_reach_3 rfl (lv_at hl 3 rfl) ?_
  obtain ⟨Q1, hw9, h⟩ := h
  have hPc : va_P G vwCl [(m0, .inr (8, [.int kn, .ref mJ, .int kFe, .int kMo, .int kCo, .long kT, .ref mF, .ref mD, .ref mS, .ref mP])), (mJ, .inl (cy 0, 9, .inl jJ))] H := hP.sub [0, 1] rfl
  refine vp_callSi (va_Run.run (va_runV (As := [.int p1, .int p2, .int p3]) (rest := []) ⟨hx, hb, hml, hown, hts⟩ (ct_X9_isGood l G cy m0 mJ mF mD mS mP kn kFe kMo kCo kT jJ p1 p2 p3 Q1 hw9) (cwV 3 hts gX9_reach_X9_isGood rfl rfl rfl (by decide +kernel) ⟨Nat.le_of_ble_eq_true rfl, Nat.le_of_ble_eq_true rfl⟩) (rP_V hK hP (ci := 8) (q0 := 0) rfl rfl hPc) rfl rfl hl.1 rfl (lv_room (Nat.le_of_ble_eq_true rfl)) dX9_reach_4 ⟨Nat.le_of_ble_eq_true rfl, Nat.le_of_ble_eq_true rfl⟩)) (fun r2 er2 => ?_)
  specialize h r2 er2
  refine lv_if_eq (tgt := 20) hx hb dX9_reach_7 (by decide) (fun c3 => ?_) (fun c3 => ?_)
  · obtain ⟨h, -⟩ := h
    specialize h c3
    refine lv_iconst (v := (-1)) hx hb dX9_reach_20 (by decide) ?_
    rw [← hQe]
    exact W.iret (v := (-1)) hx hb hr (fun t ht hW => ⟨⟨(-1), (jF, jD), rfl, h, by dsimp only; rw [ht]; exact hP⟩, hS.F ht⟩) hS.2.2 dX9_reach_21
  · obtain ⟨-, h⟩ := h
    specialize h c3
    refine lv_iload hx hb dX9_reach_10 (lv_at hl 4 rfl) ?_
    refine lv_iconst (v := 0) hx hb dX9_reach_12 (by decide) ?_
    refine lv_iconst (v := 2) hx hb dX9_reach_13 (by decide) ?_
    obtain ⟨Q4, hw9, h⟩ := h
    have hPc : va_P G vwCl [] H := P_nil
    refine vp_callSi (va_Run.run (va_runS (As := [.int p4, .int 0, .int 2]) (rest := []) ⟨hx, hb, hml, hown, hts⟩ (ct_X9_in l G cy p4 0 2 Q4 hw9) (va_cwS 3 hts gX9_reach_X9_in rfl rfl rfl (by decide +kernel) ⟨Nat.le_of_ble_eq_true rfl, Nat.le_of_ble_eq_true rfl⟩) (rP_S hK hPc) rfl rfl hl.1 rfl (lv_room (Nat.le_of_ble_eq_true rfl)) dX9_reach_14 ⟨Nat.le_of_ble_eq_true rfl, Nat.le_of_ble_eq_true rfl⟩)) (fun r5 er5 => ?_)
    specialize h r5 er5
    refine lv_if_ne (tgt := 22) hx hb dX9_reach_17 (by decide) (fun c6 => ?_) (fun c6 => ?_)
    · obtain ⟨-, h⟩ := h
      specialize h c6
      refine lv_aload_n hx hb dX9_reach_22 rfl (lv_at hl 0 rfl) ?_
      obtain ⟨Q7, hw9, h⟩ := h
      have hPc : va_P G vwCl [(m0, .inr (8, [.int kn, .ref mJ, .int kFe, .int kMo, .int kCo, .long kT, .ref mF, .ref mD, .ref mS, .ref mP])), (mJ, .inl (cy 0, 9, .inl jJ)), (mF, .inl (cy 0, 512, .inl jF)), (mD, .inl (cy 1, 512, .inl jD))] H := hP.sub [0, 1, 2, 3] rfl
      have hDc : va_D A [(m0, .inr (8, [.int kn, .ref mJ, .int kFe, .int kMo, .int kCo, .long kT, .ref mF, .ref mD, .ref mS, .ref mP])), (mJ, .inl (cy 0, 9, .inl jJ)), (mF, .inl (cy 0, 512, .inl jF)), (mD, .inl (cy 1, 512, .inl jD))] := hD.sub [0, 1, 2, 3] (by decide) rfl
      have hFc := va_free (wc := [(m0, .inr (8, [.int kn, .ref mJ, .int kFe, .int kMo, .int kCo, .long kT, .ref mF, .ref mD, .ref mS, .ref mP])), (mJ, .inl (cy 0, 9, .inl jJ)), (mF, .inl (cy 0, 512, .inl jF)), (mD, .inl (cy 1, 512, .inl jD))]) hD hS hA [0, 1, 2, 3] rfl
      refine va_callv (va_runV (As := []) (rest := []) ⟨hx, hb, hml, hown, hts⟩ (ct_X9_forget l G cy m0 mJ mF mD mS mP H.size kn kFe kMo kCo kT jJ jF jD Q7 hw9) (cwV 0 hts gX9_reach_X9_forget rfl rfl rfl (by decide +kernel) ⟨Nat.le_of_ble_eq_true rfl, Nat.le_of_ble_eq_true rfl⟩) (wP_V hK hP (ci := 8) (q0 := 0) rfl rfl hPc hDc) rfl rfl hl.1 rfl (lv_room (Nat.le_of_ble_eq_true rfl)) dX9_reach_23 ⟨Nat.le_of_ble_eq_true rfl, Nat.le_of_ble_eq_true rfl⟩) hS (fun q9 _ h9 => hFc q9 h9) hFc (fun u9 t9 H locs ht9 hvm9 hw9 hB9 hz9 hk9 hS => ?_)
      obtain ⟨f9, f10⟩ := u9
      have hP : va_P G vwCl [(m0, .inr (8, [.int kn, .ref mJ, .int kFe, .int kMo, .int kCo, .long kT, .ref mF, .ref mD, .ref mS, .ref mP])), (mJ, .inl (cy 0, 9, .inl jJ)), (mF, .inl (cy 0, 512, .inl f9)), (mD, .inl (cy 1, 512, .inl f10))] H := P_back [0, 1, 2, 3] [] 4 hP hD rfl rfl rfl rfl (by decide) (by decide) hk9 (by rw [← ht9]; exact hB9)
      have hD : va_D A [(m0, .inr (8, [.int kn, .ref mJ, .int kFe, .int kMo, .int kCo, .long kT, .ref mF, .ref mD, .ref mS, .ref mP])), (mJ, .inl (cy 0, 9, .inl jJ)), (mF, .inl (cy 0, 512, .inl f9)), (mD, .inl (cy 1, 512, .inl f10))] := D_same hD rfl
      specialize h f9 f10 hw9
      refine lv_aload_n hx hb dX9_reach_26 rfl (lv_at hl 0 rfl) ?_
      refine lv_iload_n hx hb dX9_reach_27 rfl (lv_at hl 1 rfl) ?_
      refine lv_iload_n hx hb dX9_reach_28 rfl (lv_at hl 2 rfl) ?_
      refine lv_iload_n hx hb dX9_reach_29 rfl (lv_at hl 3 rfl) ?_
      refine lv_iconst (v := 0) hx hb dX9_reach_30 (by decide) ?_
      obtain ⟨Q11, hw9, h⟩ := h
      have hPc : va_P G vwCl [(m0, .inr (8, [.int kn, .ref mJ, .int kFe, .int kMo, .int kCo, .long kT, .ref mF, .ref mD, .ref mS, .ref mP])), (mJ, .inl (cy 0, 9, .inl jJ)), (mF, .inl (cy 0, 512, .inl f9)), (mD, .inl (cy 1, 512, .inl f10))] H := hP.sub [0, 1, 2, 3] rfl
      have hDc : va_D A [(m0, .inr (8, [.int kn, .ref mJ, .int kFe, .int kMo, .int kCo, .long kT, .ref mF, .ref mD, .ref mS, .ref mP])), (mJ, .inl (cy 0, 9, .inl jJ)), (mF, .inl (cy 0, 512, .inl f9)), (mD, .inl (cy 1, 512, .inl f10))] := hD.sub [0, 1, 2, 3] (by decide) rfl
      have hFc := va_free (wc := [(m0, .inr (8, [.int kn, .ref mJ, .int kFe, .int kMo, .int kCo, .long kT, .ref mF, .ref mD, .ref mS, .ref mP])), (mJ, .inl (cy 0, 9, .inl jJ)), (mF, .inl (cy 0, 512, .inl f9)), (mD, .inl (cy 1, 512, .inl f10))]) hD hS hA [0, 1, 2, 3] rfl
      refine va_callv (va_runV (As := [.int p1, .int p2, .int p3, .int 0]) (rest := []) ⟨hx, hb, hml, hown, hts⟩ (ct_X9_goFrom l G cy m0 mJ mF mD mS mP H.size kn kFe kMo kCo kT jJ f9 f10 p1 p2 p3 0 Q11 hw9) (cwV 4 hts gX9_reach_X9_goFrom rfl rfl rfl (by decide +kernel) ⟨Nat.le_of_ble_eq_true rfl, Nat.le_of_ble_eq_true rfl⟩) (wP_V hK hP (ci := 8) (q0 := 0) rfl rfl hPc hDc) rfl rfl hl.1 rfl (lv_room (Nat.le_of_ble_eq_true rfl)) dX9_reach_31 ⟨Nat.le_of_ble_eq_true rfl, Nat.le_of_ble_eq_true rfl⟩) hS (fun q9 _ h9 => hFc q9 h9) hFc (fun u9 t9 H locs ht9 hvm9 hw9 hB9 hz9 hk9 hS => ?_)
      obtain ⟨f13, f14⟩ := u9
      have hP : va_P G vwCl [(m0, .inr (8, [.int kn, .ref mJ, .int kFe, .int kMo, .int kCo, .long kT, .ref mF, .ref mD, .ref mS, .ref mP])), (mJ, .inl (cy 0, 9, .inl jJ)), (mF, .inl (cy 0, 512, .inl f13)), (mD, .inl (cy 1, 512, .inl f14))] H := P_back [0, 1, 2, 3] [] 4 hP hD rfl rfl rfl rfl (by decide) (by decide) hk9 (by rw [← ht9]; exact hB9)
      have hD : va_D A [(m0, .inr (8, [.int kn, .ref mJ, .int kFe, .int kMo, .int kCo, .long kT, .ref mF, .ref mD, .ref mS, .ref mP])), (mJ, .inl (cy 0, 9, .inl jJ)), (mF, .inl (cy 0, 512, .inl f13)), (mD, .inl (cy 1, 512, .inl f14))] := D_same hD rfl
      specialize h f13 f14 hw9
      refine lv_iconst (v := 0) hx hb dX9_reach_34 (by decide) ?_
      refine lv_istore (lv' := [(5, .int 0), (0, .ref m0), (1, .int p1), (2, .int p2), (3, .int p3), (4, .int p4)]) hx hb dX9_reach_35 hl (by decide) rfl (fun ls hl => ?_)
      refine lv_iload_n hx hb dX9_reach_37 rfl (lv_at hl 4 rfl) ?_
      refine lv_istore (lv' := [(6, .int p3), (5, .int 0), (0, .ref m0), (1, .int p1), (2, .int p2), (3, .int p3), (4, .int p4)]) hx hb dX9_reach_38 hl (by decide) rfl (fun ls hl => ?_)
      refine lv_iconst (v := 0) hx hb dX9_reach_40 (by decide) ?_
      refine lv_istore (lv' := [(7, .int 0), (6, .int p3), (5, .int 0), (0, .ref m0), (1, .int p1), (2, .int p2), (3, .int p3), (4, .int p4)]) hx hb dX9_reach_41 hl (by decide) rfl (fun ls hl => ?_)
      refine lv_iconst (v := 0) hx hb dX9_reach_43 (by decide) ?_
      refine lv_istore (lv' := [(8, .int 0), (7, .int 0), (6, .int p3), (5, .int 0), (0, .ref m0), (1, .int p1), (2, .int p2), (3, .int p3), (4, .int p4)]) hx hb dX9_reach_44 hl (by decide) rfl (fun ls hl => ?_)
      obtain ⟨I46_18, u46_18, h046, hst46⟩ := h
      have key46 : ∀ (k9 : Nat) (y15 : Int32) (y16 : Int32) (y17 : Int32) (y18 : Int32), I46_18 y15 y16 y17 y18 → u46_18 y15 y16 y17 y18 < k9 → ∀ (H : Heap) (locs : List Loc), va_P G vwCl [(m0, .inr (8, [.int kn, .ref mJ, .int kFe, .int kMo, .int kCo, .long kT, .ref mF, .ref mD, .ref mS, .ref mP])), (mJ, .inl (cy 0, 9, .inl jJ)), (mF, .inl (cy 0, 512, .inl f13)), (mD, .inl (cy 1, 512, .inl f14))] H → va_D A [(m0, .inr (8, [.int kn, .ref mJ, .int kFe, .int kMo, .int kCo, .long kT, .ref mF, .ref mD, .ref mS, .ref mP])), (mJ, .inl (cy 0, 9, .inl jJ)), (mF, .inl (cy 0, 512, .inl f13)), (mD, .inl (cy 1, 512, .inl f14))] → va_S A s.heap H locs → ∀ (ls : Array Slot), lv_has ls 9 [(0, .ref m0), (4, .int p4), (5, .int y15), (6, .int y16), (7, .int y17), (8, .int y18)] → W p l e (headSpec wsX9_reach rmX9_reach).room s m args below meth c H locs 0 0 QM (F0 m 46 ls []) := by
        intro k9
        induction k9 with
        | zero =>
          intro y15 y16 y17 y18 hI9 hk9
          exact absurd hk9 (Nat.not_lt_zero _)
        | succ k9 ih46 =>
          intro y15 y16 y17 y18 hI9 hk46 H locs hP hD hS ls hl
          have h := hst46 y15 y16 y17 y18 hI9
          refine lv_iload hx hb dX9_reach_46 (lv_at hl 5 rfl) ?_
          refine lv_iconst (v := 1) hx hb dX9_reach_48 (by decide) ?_
          refine lv_aload_n hx hb dX9_reach_49 rfl (lv_at hl 0 rfl) ?_
          refine va_get (D := G) (ci := 8) (v := .int kn) (C := RX9) (T := TX9) (N := 10) hx hb hts iwX9 hown hK.1 hP 0 rfl rfl 0 (by decide) fl7 (fun _ h9 => h9) rfl dX9_reach_50 ?_
          refine lv_ishl hx hb dX9_reach_53 ?_
          refine lv_icmp_ge (tgt := 109) hx hb dX9_reach_54 (by decide) (fun c19 => ?_) (fun c19 => ?_)
          · obtain ⟨h, -⟩ := h
            specialize h c19
            refine lv_iload hx hb dX9_reach_109 (lv_at hl 1 rfl) ?_
            refine lv_if_ne (tgt := 119) hx hb dX9_reach_111 (by decide) (fun c20 => ?_) (fun c20 => ?_)
            · obtain ⟨-, h⟩ := h
              specialize h c20
              refine lv_iload hx hb dX9_reach_119 (lv_at hl 1 rfl) ?_
              refine lv_iconst (v := 1) hx hb dX9_reach_121 (by decide) ?_
              refine lv_icmp_ne (tgt := 130) hx hb dX9_reach_122 (by decide) (fun c21 => ?_) (fun c21 => ?_)
              · obtain ⟨-, h⟩ := h
                specialize h c21
                refine lv_iload hx hb dX9_reach_130 (lv_at hl 4 rfl) ?_
                rw [← hQe]
                exact W.iret (v := y17) hx hb hr (fun t ht hW => ⟨⟨y17, (f13, f14), rfl, h, by dsimp only; rw [ht]; exact hP⟩, hS.F ht⟩) hS.2.2 dX9_reach_132
              · obtain ⟨h, -⟩ := h
                specialize h c21
                refine lv_iload hx hb dX9_reach_125 (lv_at hl 3 rfl) ?_
                refine lv_goto (tgt := 132) hx hb dX9_reach_127 (by decide) ?_
                rw [← hQe]
                exact W.iret (v := y16) hx hb hr (fun t ht hW => ⟨⟨y16, (f13, f14), rfl, h, by dsimp only; rw [ht]; exact hP⟩, hS.F ht⟩) hS.2.2 dX9_reach_132
            · obtain ⟨h, -⟩ := h
              specialize h c20
              refine lv_iload hx hb dX9_reach_114 (lv_at hl 2 rfl) ?_
              refine lv_goto (tgt := 132) hx hb dX9_reach_116 (by decide) ?_
              rw [← hQe]
              exact W.iret (v := y15) hx hb hr (fun t ht hW => ⟨⟨y15, (f13, f14), rfl, h, by dsimp only; rw [ht]; exact hP⟩, hS.F ht⟩) hS.2.2 dX9_reach_132
          · obtain ⟨-, h⟩ := h
            specialize h c19
            refine lv_aload_n hx hb dX9_reach_57 rfl (lv_at hl 0 rfl) ?_
            refine va_get (D := G) (ci := 8) (v := .ref mD) (C := RX9) (T := TX9) (N := 10) hx hb hts iwX9 hown hK.1 hP 0 rfl rfl 7 (by decide) fl26 (fun _ h9 => h9) rfl dX9_reach_58 ?_
            refine lv_iload hx hb dX9_reach_61 (lv_at hl 5 rfl) ?_
            obtain ⟨hi, h⟩ := h
            refine va_zald hx hb hK.1 hP 3 1 rfl rfl hi dX9_reach_63 ?_
            refine lv_if_eq (tgt := 103) hx hb dX9_reach_64 (by decide) (fun c22 => ?_) (fun c22 => ?_)
            · obtain ⟨h, -⟩ := h
              specialize h c22
              obtain ⟨x23, ex23⟩ : ∃ y : Int32, y = y18 + 1 := ⟨_, rfl⟩
              specialize h x23 ex23
              refine lv_iinc (v := x23) (lv' := [(8, .int x23), (0, .ref m0), (4, .int p4), (5, .int y15), (6, .int y16), (7, .int y17)]) hx hb dX9_reach_103 hl (k := 5) rfl (by rw [ex23]; rfl) (by decide) rfl (fun ls hl => ?_)
              refine lv_goto (tgt := 46) hx hb dX9_reach_106 (by decide) ?_
              exact ih46 y15 y16 y17 x23 h.1 (Nat.lt_of_lt_of_le h.2 (Nat.le_of_lt_succ hk46)) _ _ hP hD hS _ (lv_sub hl [1, 2, 3, 4, 5, 0] rfl)
            · obtain ⟨-, h⟩ := h
              specialize h c22
              obtain ⟨x24, ex24⟩ : ∃ y : Int32, y = y15 + 1 := ⟨_, rfl⟩
              specialize h x24 ex24
              refine lv_iinc (v := x24) (lv' := [(5, .int x24), (0, .ref m0), (4, .int p4), (6, .int y16), (7, .int y17), (8, .int y18)]) hx hb dX9_reach_67 hl (k := 2) rfl (by rw [ex24]; rfl) (by decide) rfl (fun ls hl => ?_)
              refine lv_iload hx hb dX9_reach_70 (lv_at hl 3 rfl) ?_
              refine lv_iload hx hb dX9_reach_72 (lv_at hl 5 rfl) ?_
              refine lv_iand hx hb dX9_reach_74 ?_
              refine lv_topi (fun x25 ex25 => ?_)
              specialize h x25 ex25
              refine lv_istore (lv' := [(6, .int x25), (5, .int x24), (0, .ref m0), (4, .int p4), (7, .int y17), (8, .int y18)]) hx hb dX9_reach_75 hl (by decide) rfl (fun ls hl => ?_)
              refine lv_aload_n hx hb dX9_reach_77 rfl (lv_at hl 2 rfl) ?_
              refine va_get (D := G) (ci := 8) (v := .ref mF) (C := RX9) (T := TX9) (N := 10) hx hb hts iwX9 hown hK.1 hP 0 rfl rfl 6 (by decide) fl23 (fun _ h9 => h9) rfl dX9_reach_78 ?_
              refine lv_iload hx hb dX9_reach_81 (lv_at hl 5 rfl) ?_
              obtain ⟨hi, h⟩ := h
              refine va_iald hx hb hK.1 hP 2 0 rfl rfl hi dX9_reach_83 ?_
              refine lv_iload hx hb dX9_reach_84 (lv_at hl 4 rfl) ?_
              refine lv_icmp_le (tgt := 99) hx hb dX9_reach_86 (by decide) (fun c26 => ?_) (fun c26 => ?_)
              · obtain ⟨h, -⟩ := h
                specialize h c26
                refine lv_iload hx hb dX9_reach_99 (lv_at hl 4 rfl) ?_
                refine lv_istore (lv' := [(7, .int y17), (6, .int x25), (5, .int x24), (0, .ref m0), (4, .int p4), (8, .int y18)]) hx hb dX9_reach_101 hl (by decide) rfl (fun ls hl => ?_)
                obtain ⟨x27, ex27⟩ : ∃ y : Int32, y = y18 + 1 := ⟨_, rfl⟩
                specialize h x27 ex27
                refine lv_iinc (v := x27) (lv' := [(8, .int x27), (7, .int y17), (6, .int x25), (5, .int x24), (0, .ref m0), (4, .int p4)]) hx hb dX9_reach_103 hl (k := 5) rfl (by rw [ex27]; rfl) (by decide) rfl (fun ls hl => ?_)
                refine lv_goto (tgt := 46) hx hb dX9_reach_106 (by decide) ?_
                exact ih46 x24 x25 y17 x27 h.1 (Nat.lt_of_lt_of_le h.2 (Nat.le_of_lt_succ hk46)) _ _ hP hD hS _ (lv_sub hl [4, 5, 3, 2, 1, 0] rfl)
              · obtain ⟨-, h⟩ := h
                specialize h c26
                refine lv_aload_n hx hb dX9_reach_89 rfl (lv_at hl 2 rfl) ?_
                refine va_get (D := G) (ci := 8) (v := .ref mF) (C := RX9) (T := TX9) (N := 10) hx hb hts iwX9 hown hK.1 hP 0 rfl rfl 6 (by decide) fl23 (fun _ h9 => h9) rfl dX9_reach_90 ?_
                refine lv_iload hx hb dX9_reach_93 (lv_at hl 5 rfl) ?_
                obtain ⟨hi, h⟩ := h
                refine va_iald hx hb hK.1 hP 2 0 rfl rfl hi dX9_reach_95 ?_
                refine lv_goto (tgt := 101) hx hb dX9_reach_96 (by decide) ?_
                refine lv_topi (fun x28 ex28 => ?_)
                specialize h x28 ex28
                refine lv_istore (lv' := [(7, .int x28), (6, .int x25), (5, .int x24), (0, .ref m0), (4, .int p4), (8, .int y18)]) hx hb dX9_reach_101 hl (by decide) rfl (fun ls hl => ?_)
                obtain ⟨x29, ex29⟩ : ∃ y : Int32, y = y18 + 1 := ⟨_, rfl⟩
                specialize h x29 ex29
                refine lv_iinc (v := x29) (lv' := [(8, .int x29), (7, .int x28), (6, .int x25), (5, .int x24), (0, .ref m0), (4, .int p4)]) hx hb dX9_reach_103 hl (k := 5) rfl (by rw [ex29]; rfl) (by decide) rfl (fun ls hl => ?_)
                refine lv_goto (tgt := 46) hx hb dX9_reach_106 (by decide) ?_
                exact ih46 x24 x25 x28 x29 h.1 (Nat.lt_of_lt_of_le h.2 (Nat.le_of_lt_succ hk46)) _ _ hP hD hS _ (lv_sub hl [4, 5, 3, 2, 1, 0] rfl)
      exact key46 _ 0 p3 0 0 h046 (Nat.lt_succ_self _) _ _ hP hD hS _ (lv_sub hl [4, 8, 3, 2, 1, 0] rfl)
    · obtain ⟨h, -⟩ := h
      specialize h c6
      refine lv_iconst (v := (-1)) hx hb dX9_reach_20 (by decide) ?_
      rw [← hQe]
      exact W.iret (v := (-1)) hx hb hr (fun t ht hW => ⟨⟨(-1), (jF, jD), rfl, h, by dsimp only; rw [ht]; exact hP⟩, hS.F ht⟩) hS.2.2 dX9_reach_21

set_option maxHeartbeats 4000000 in
set_option maxRecDepth 100000 in
theorem ct_X9_parts (l : Launch) (G : va_G) (cy : Nat → ClassId) (m0 mJ mF mD mS mP : Nat) (sz : Nat) (kn : Int32) (kFe : Int32) (kMo : Int32) (kCo : Int32) (kT : Int64) (jJ : Nat → Int32) (jF : Nat → Int32) (jD : Nat → Int32) (p1 : Int32) (p2 : Int32) (p3 : Int32) (Q : Int32 → (Nat → Int32) → (Nat → Int32) → Prop) (h : wp_X9_parts kn kFe kMo jJ jF jD p1 p2 p3 Q) : Met l yX9_parts wsX9_parts rmX9_parts (va_Pc [.ref m0, .int p1, .int p2, .int p3] (wP G cy sz [(m0, .inr (8, [.int kn, .ref mJ, .int kFe, .int kMo, .int kCo, .long kT, .ref mF, .ref mD, .ref mS, .ref mP])), (mJ, .inl (cy 0, 9, .inl jJ)), (mF, .inl (cy 0, 512, .inl jF)), (mD, .inl (cy 1, 512, .inl jD))])) (va_Qi (fun (r : Int32) (u : (Nat → Int32) × (Nat → Int32)) => Q r u.1 u.2) (fun (u : (Nat → Int32) × (Nat → Int32)) (t : State) => va_P G vwCl [(m0, .inr (8, [.int kn, .ref mJ, .int kFe, .int kMo, .int kCo, .long kT, .ref mF, .ref mD, .ref mS, .ref mP])), (mJ, .inl (cy 0, 9, .inl jJ)), (mF, .inl (cy 0, 512, .inl u.1)), (mD, .inl (cy 1, 512, .inl u.2))] t.heap) (va_A [(m0, .inr (8, [.int kn, .ref mJ, .int kFe, .int kMo, .int kCo, .long kT, .ref mF, .ref mD, .ref mS, .ref mP])), (mJ, .inl (cy 0, 9, .inl jJ)), (mF, .inl (cy 0, 512, .inl jF)), (mD, .inl (cy 1, 512, .inl jD))] sz)) 0 0 (va_A [(m0, .inr (8, [.int kn, .ref mJ, .int kFe, .int kMo, .int kCo, .long kT, .ref mF, .ref mD, .ref mS, .ref mP])), (mJ, .inl (cy 0, 9, .inl jJ)), (mF, .inl (cy 0, 512, .inl jF)), (mD, .inl (cy 1, 512, .inl jD))] sz) := by
  unfold wp_X9_parts at h
  refine Met.ofW (cc := cX9_parts) (maxL := 6) (ret := (some .int)) (by decide) rfl ?_
  intro p e s m args below meth c s₁ B hml hv
  obtain ⟨hav, hsz, hP, hK, hD0⟩ := hv
  have hx := B.exec
  have hb := B.bytes
  have hr := B.returns
  have hts := atoms_spec (ws := wsX9_parts) B.pre
  have hown : s.vm.findClass RX9 = some m.cls := findClass_of_methodNamed B.named
  have hlocks := B.notSynchronized
  subst hsz
  have hD := hD0.self (sz := s.heap.size)
  generalize hAe : va_A [(m0, .inr (8, [.int kn, .ref mJ, .int kFe, .int kMo, .int kCo, .long kT, .ref mF, .ref mD, .ref mS, .ref mP])), (mJ, .inl (cy 0, 9, .inl jJ)), (mF, .inl (cy 0, 512, .inl jF)), (mD, .inl (cy 1, 512, .inl jD))] s.heap.size = A at hD ⊢
  have hA : ∀ q : Nat, s.heap.size ≤ q → A q := fun q h9 => by rw [← hAe]; exact Or.inr h9
  have hS : va_S A s.heap s.heap [] := va_S.rf
  have hl := lv_entry ([.ref m0, .int p1, .int p2, .int p3]) (n := 6) (Nat.le_of_ble_eq_true rfl)
  rw [show entryFrame m args 6 = entryFrame m ([.ref m0, .int p1, .int p2, .int p3] : List Value).toArray 6 by rw [hav], lg_entry_eq]
  generalize (lg_sl ([.ref m0, .int p1, .int p2, .int p3]) ++ List.replicate (6 - (lg_sl ([.ref m0, .int p1, .int p2, .int p3])).length) Slot.unset).toArray = ls at hl ⊢
  have hl : lv_has ls 6 [(0, .ref m0), (1, .int p1), (2, .int p2), (3, .int p3)] := hl
  generalize hQe : MQ below _ _ _ _ _ _ = QM
  have hP : va_P G vwCl [(m0, .inr (8, [.int kn, .ref mJ, .int kFe, .int kMo, .int kCo, .long kT, .ref mF, .ref mD, .ref mS, .ref mP])), (mJ, .inl (cy 0, 9, .inl jJ)), (mF, .inl (cy 0, 512, .inl jF)), (mD, .inl (cy 1, 512, .inl jD))] s.heap := hP
  have iwX9 : ∀ w ∈ wsX90, w ∈ wsX9_parts := by decide +kernel
  have fl7 := hts (.fieldLink RX9 7 "SlidTokensModel" "n" "I") (by decide +kernel)
  have fl26 := hts (.fieldLink RX9 26 "SlidTokensModel" "isDone" "[Z") (by decide +kernel)
  suffices K9 : ∀ (H : Heap) (locs : List Loc), va_P G vwCl [(m0, .inr (8, [.int kn, .ref mJ, .int kFe, .int kMo, .int kCo, .long kT, .ref mF, .ref mD, .ref mS, .ref mP])), (mJ, .inl (cy 0, 9, .inl jJ)), (mF, .inl (cy 0, 512, .inl jF)), (mD, .inl (cy 1, 512, .inl jD))] H → va_D A [(m0, .inr (8, [.int kn, .ref mJ, .int kFe, .int kMo, .int kCo, .long kT, .ref mF, .ref mD, .ref mS, .ref mP])), (mJ, .inl (cy 0, 9, .inl jJ)), (mF, .inl (cy 0, 512, .inl jF)), (mD, .inl (cy 1, 512, .inl jD))] → va_S A s.heap H locs → W p l e (headSpec wsX9_parts rmX9_parts).room s m args below meth c H locs 0 0 QM (F0 m 0 ls []) from K9 _ _ hP hD hS
  clear hP hD hS
  intro H locs hP hD hS
  refine lv_iload_n hx hb dX9_parts_0 rfl (lv_at hl 1 rfl) ?_
  obtain ⟨Q1, hw9, h⟩ := h
  have hPc : va_P G vwCl [] H := P_nil
  refine vp_callSi (va_Run.run (va_runS (As := [.int p1]) (rest := []) ⟨hx, hb, hml, hown, hts⟩ (ct_X9_isKind l G cy p1 Q1 hw9) (va_cwS 1 hts gX9_parts_X9_isKind rfl rfl rfl (by decide +kernel) ⟨Nat.le_of_ble_eq_true rfl, Nat.le_of_ble_eq_true rfl⟩) (rP_S hK hPc) rfl rfl hl.1 rfl (lv_room (Nat.le_of_ble_eq_true rfl)) dX9_parts_1 ⟨Nat.le_of_ble_eq_true rfl, Nat.le_of_ble_eq_true rfl⟩)) (fun r2 er2 => ?_)
  specialize h r2 er2
  refine lv_if_eq (tgt := 31) hx hb dX9_parts_4 (by decide) (fun c3 => ?_) (fun c3 => ?_)
  · obtain ⟨h, -⟩ := h
    specialize h c3
    refine lv_iconst (v := (-1)) hx hb dX9_parts_31 (by decide) ?_
    rw [← hQe]
    exact W.iret (v := (-1)) hx hb hr (fun t ht hW => ⟨⟨(-1), (jF, jD), rfl, h, by dsimp only; rw [ht]; exact hP⟩, hS.F ht⟩) hS.2.2 dX9_parts_32
  · obtain ⟨-, h⟩ := h
    specialize h c3
    refine lv_iload_n hx hb dX9_parts_7 rfl (lv_at hl 2 rfl) ?_
    obtain ⟨Q4, hw9, h⟩ := h
    have hPc : va_P G vwCl [] H := P_nil
    refine vp_callSi (va_Run.run (va_runS (As := [.int p2]) (rest := []) ⟨hx, hb, hml, hown, hts⟩ (ct_X9_isKind l G cy p2 Q4 hw9) (va_cwS 1 hts gX9_parts_X9_isKind rfl rfl rfl (by decide +kernel) ⟨Nat.le_of_ble_eq_true rfl, Nat.le_of_ble_eq_true rfl⟩) (rP_S hK hPc) rfl rfl hl.1 rfl (lv_room (Nat.le_of_ble_eq_true rfl)) dX9_parts_8 ⟨Nat.le_of_ble_eq_true rfl, Nat.le_of_ble_eq_true rfl⟩)) (fun r5 er5 => ?_)
    specialize h r5 er5
    refine lv_if_eq (tgt := 31) hx hb dX9_parts_11 (by decide) (fun c6 => ?_) (fun c6 => ?_)
    · obtain ⟨h, -⟩ := h
      specialize h c6
      refine lv_iconst (v := (-1)) hx hb dX9_parts_31 (by decide) ?_
      rw [← hQe]
      exact W.iret (v := (-1)) hx hb hr (fun t ht hW => ⟨⟨(-1), (jF, jD), rfl, h, by dsimp only; rw [ht]; exact hP⟩, hS.F ht⟩) hS.2.2 dX9_parts_32
    · obtain ⟨-, h⟩ := h
      specialize h c6
      refine lv_iload_n hx hb dX9_parts_14 rfl (lv_at hl 2 rfl) ?_
      refine lv_iconst (v := 2) hx hb dX9_parts_15 (by decide) ?_
      obtain ⟨J33_6, h, hJ33⟩ := h
      have jn33 : J33_6 → ∀ (H : Heap) (locs : List Loc), va_P G vwCl [(m0, .inr (8, [.int kn, .ref mJ, .int kFe, .int kMo, .int kCo, .long kT, .ref mF, .ref mD, .ref mS, .ref mP])), (mJ, .inl (cy 0, 9, .inl jJ)), (mF, .inl (cy 0, 512, .inl jF)), (mD, .inl (cy 1, 512, .inl jD))] H → va_D A [(m0, .inr (8, [.int kn, .ref mJ, .int kFe, .int kMo, .int kCo, .long kT, .ref mF, .ref mD, .ref mS, .ref mP])), (mJ, .inl (cy 0, 9, .inl jJ)), (mF, .inl (cy 0, 512, .inl jF)), (mD, .inl (cy 1, 512, .inl jD))] → va_S A s.heap H locs → ∀ (ls : Array Slot), lv_has ls 6 [(0, .ref m0), (1, .int p1), (2, .int p2), (3, .int p3)] → W p l e (headSpec wsX9_parts rmX9_parts).room s m args below meth c H locs 0 0 QM (F0 m 33 ls []) := by
        intro  hj9 H locs hP hD hS ls hl
        have h := hJ33  hj9
        refine lv_aload_n hx hb dX9_parts_33 rfl (lv_at hl 0 rfl) ?_
        obtain ⟨Q11, hw9, h⟩ := h
        have hPc : va_P G vwCl [(m0, .inr (8, [.int kn, .ref mJ, .int kFe, .int kMo, .int kCo, .long kT, .ref mF, .ref mD, .ref mS, .ref mP])), (mJ, .inl (cy 0, 9, .inl jJ)), (mF, .inl (cy 0, 512, .inl jF)), (mD, .inl (cy 1, 512, .inl jD))] H := hP.sub [0, 1, 2, 3] rfl
        have hDc : va_D A [(m0, .inr (8, [.int kn, .ref mJ, .int kFe, .int kMo, .int kCo, .long kT, .ref mF, .ref mD, .ref mS, .ref mP])), (mJ, .inl (cy 0, 9, .inl jJ)), (mF, .inl (cy 0, 512, .inl jF)), (mD, .inl (cy 1, 512, .inl jD))] := hD.sub [0, 1, 2, 3] (by decide) rfl
        have hFc := va_free (wc := [(m0, .inr (8, [.int kn, .ref mJ, .int kFe, .int kMo, .int kCo, .long kT, .ref mF, .ref mD, .ref mS, .ref mP])), (mJ, .inl (cy 0, 9, .inl jJ)), (mF, .inl (cy 0, 512, .inl jF)), (mD, .inl (cy 1, 512, .inl jD))]) hD hS hA [0, 1, 2, 3] rfl
        refine va_callv (va_runV (As := []) (rest := []) ⟨hx, hb, hml, hown, hts⟩ (ct_X9_forget l G cy m0 mJ mF mD mS mP H.size kn kFe kMo kCo kT jJ jF jD Q11 hw9) (cwV 0 hts gX9_parts_X9_forget rfl rfl rfl (by decide +kernel) ⟨Nat.le_of_ble_eq_true rfl, Nat.le_of_ble_eq_true rfl⟩) (wP_V hK hP (ci := 8) (q0 := 0) rfl rfl hPc hDc) rfl rfl hl.1 rfl (lv_room (Nat.le_of_ble_eq_true rfl)) dX9_parts_34 ⟨Nat.le_of_ble_eq_true rfl, Nat.le_of_ble_eq_true rfl⟩) hS (fun q9 _ h9 => hFc q9 h9) hFc (fun u9 t9 H locs ht9 hvm9 hw9 hB9 hz9 hk9 hS => ?_)
        obtain ⟨f13, f14⟩ := u9
        have hP : va_P G vwCl [(m0, .inr (8, [.int kn, .ref mJ, .int kFe, .int kMo, .int kCo, .long kT, .ref mF, .ref mD, .ref mS, .ref mP])), (mJ, .inl (cy 0, 9, .inl jJ)), (mF, .inl (cy 0, 512, .inl f13)), (mD, .inl (cy 1, 512, .inl f14))] H := P_back [0, 1, 2, 3] [] 4 hP hD rfl rfl rfl rfl (by decide) (by decide) hk9 (by rw [← ht9]; exact hB9)
        have hD : va_D A [(m0, .inr (8, [.int kn, .ref mJ, .int kFe, .int kMo, .int kCo, .long kT, .ref mF, .ref mD, .ref mS, .ref mP])), (mJ, .inl (cy 0, 9, .inl jJ)), (mF, .inl (cy 0, 512, .inl f13)), (mD, .inl (cy 1, 512, .inl f14))] := D_same hD rfl
        specialize h f13 f14 hw9
        refine lv_iconst (v := 0) hx hb dX9_parts_37 (by decide) ?_
        refine lv_istore (lv' := [(4, .int 0), (0, .ref m0), (1, .int p1), (2, .int p2), (3, .int p3)]) hx hb dX9_parts_38 hl (by decide) rfl (fun ls hl => ?_)
        refine lv_iconst (v := 0) hx hb dX9_parts_40 (by decide) ?_
        refine lv_istore (lv' := [(5, .int 0), (4, .int 0), (0, .ref m0), (1, .int p1), (2, .int p2), (3, .int p3)]) hx hb dX9_parts_41 hl (by decide) rfl (fun ls hl => ?_)
        obtain ⟨I43_18, u43_18, h043, hst43⟩ := h
        have key43 : ∀ (k9 : Nat) (y15 : Int32) (y16 : Int32) (f17 : Nat → Int32) (f18 : Nat → Int32), I43_18 y15 y16 f17 f18 → u43_18 y15 y16 f17 f18 < k9 → ∀ (H : Heap) (locs : List Loc), va_P G vwCl [(m0, .inr (8, [.int kn, .ref mJ, .int kFe, .int kMo, .int kCo, .long kT, .ref mF, .ref mD, .ref mS, .ref mP])), (mJ, .inl (cy 0, 9, .inl jJ)), (mF, .inl (cy 0, 512, .inl f17)), (mD, .inl (cy 1, 512, .inl f18))] H → va_D A [(m0, .inr (8, [.int kn, .ref mJ, .int kFe, .int kMo, .int kCo, .long kT, .ref mF, .ref mD, .ref mS, .ref mP])), (mJ, .inl (cy 0, 9, .inl jJ)), (mF, .inl (cy 0, 512, .inl f17)), (mD, .inl (cy 1, 512, .inl f18))] → va_S A s.heap H locs → ∀ (ls : Array Slot), lv_has ls 6 [(0, .ref m0), (1, .int p1), (2, .int p2), (3, .int p3), (4, .int y15), (5, .int y16)] → W p l e (headSpec wsX9_parts rmX9_parts).room s m args below meth c H locs 0 0 QM (F0 m 43 ls []) := by
          intro k9
          induction k9 with
          | zero =>
            intro y15 y16 f17 f18 hI9 hk9
            exact absurd hk9 (Nat.not_lt_zero _)
          | succ k9 ih43 =>
            intro y15 y16 f17 f18 hI9 hk43 H locs hP hD hS ls hl
            have h := hst43 y15 y16 f17 f18 hI9
            refine lv_iload hx hb dX9_parts_43 (lv_at hl 5 rfl) ?_
            refine lv_iconst (v := 1) hx hb dX9_parts_45 (by decide) ?_
            refine lv_aload_n hx hb dX9_parts_46 rfl (lv_at hl 0 rfl) ?_
            refine va_get (D := G) (ci := 8) (v := .int kn) (C := RX9) (T := TX9) (N := 10) hx hb hts iwX9 hown hK.1 hP 0 rfl rfl 0 (by decide) fl7 (fun _ h9 => h9) rfl dX9_parts_47 ?_
            refine lv_ishl hx hb dX9_parts_50 ?_
            refine lv_icmp_ge (tgt := 107) hx hb dX9_parts_51 (by decide) (fun c19 => ?_) (fun c19 => ?_)
            · obtain ⟨h, -⟩ := h
              specialize h c19
              refine lv_iload hx hb dX9_parts_107 (lv_at hl 4 rfl) ?_
              rw [← hQe]
              exact W.iret (v := y15) hx hb hr (fun t ht hW => ⟨⟨y15, (f17, f18), rfl, h, by dsimp only; rw [ht]; exact hP⟩, hS.F ht⟩) hS.2.2 dX9_parts_109
            · obtain ⟨-, h⟩ := h
              specialize h c19
              refine lv_aload_n hx hb dX9_parts_54 rfl (lv_at hl 0 rfl) ?_
              refine va_get (D := G) (ci := 8) (v := .ref mD) (C := RX9) (T := TX9) (N := 10) hx hb hts iwX9 hown hK.1 hP 0 rfl rfl 7 (by decide) fl26 (fun _ h9 => h9) rfl dX9_parts_55 ?_
              refine lv_iload hx hb dX9_parts_58 (lv_at hl 5 rfl) ?_
              obtain ⟨hi, h⟩ := h
              refine va_zald hx hb hK.1 hP 3 1 rfl rfl hi dX9_parts_60 ?_
              refine lv_if_ne (tgt := 101) hx hb dX9_parts_61 (by decide) (fun c20 => ?_) (fun c20 => ?_)
              · obtain ⟨-, h⟩ := h
                specialize h c20
                obtain ⟨x21, ex21⟩ : ∃ y : Int32, y = y16 + 1 := ⟨_, rfl⟩
                specialize h x21 ex21
                refine lv_iinc (v := x21) (lv' := [(5, .int x21), (0, .ref m0), (1, .int p1), (2, .int p2), (3, .int p3), (4, .int y15)]) hx hb dX9_parts_101 hl (k := 5) rfl (by rw [ex21]; rfl) (by decide) rfl (fun ls hl => ?_)
                refine lv_goto (tgt := 43) hx hb dX9_parts_104 (by decide) ?_
                exact ih43 y15 x21 f17 f18 h.1 (Nat.lt_of_lt_of_le h.2 (Nat.le_of_lt_succ hk43)) _ _ hP hD hS _ (lv_sub hl [1, 2, 3, 4, 5, 0] rfl)
              · obtain ⟨h, -⟩ := h
                specialize h c20
                refine lv_aload_n hx hb dX9_parts_64 rfl (lv_at hl 0 rfl) ?_
                refine lv_iload_n hx hb dX9_parts_65 rfl (lv_at hl 1 rfl) ?_
                refine lv_iload_n hx hb dX9_parts_66 rfl (lv_at hl 2 rfl) ?_
                refine lv_iload hx hb dX9_parts_67 (lv_at hl 5 rfl) ?_
                obtain ⟨Q22, hw9, h⟩ := h
                have hPc : va_P G vwCl [(m0, .inr (8, [.int kn, .ref mJ, .int kFe, .int kMo, .int kCo, .long kT, .ref mF, .ref mD, .ref mS, .ref mP])), (mJ, .inl (cy 0, 9, .inl jJ))] H := hP.sub [0, 1] rfl
                refine vp_callSi (va_Run.run (va_runV (As := [.int p1, .int p2, .int y16]) (rest := []) ⟨hx, hb, hml, hown, hts⟩ (ct_X9_canBe l G cy m0 mJ mF mD mS mP kn kFe kMo kCo kT jJ p1 p2 y16 Q22 hw9) (cwV 3 hts gX9_parts_X9_canBe rfl rfl rfl (by decide +kernel) ⟨Nat.le_of_ble_eq_true rfl, Nat.le_of_ble_eq_true rfl⟩) (rP_V hK hP (ci := 8) (q0 := 0) rfl rfl hPc) rfl rfl hl.1 rfl (lv_room (Nat.le_of_ble_eq_true rfl)) dX9_parts_69 ⟨Nat.le_of_ble_eq_true rfl, Nat.le_of_ble_eq_true rfl⟩)) (fun r23 er23 => ?_)
                specialize h r23 er23
                refine lv_if_eq (tgt := 101) hx hb dX9_parts_72 (by decide) (fun c24 => ?_) (fun c24 => ?_)
                · obtain ⟨h, -⟩ := h
                  specialize h c24
                  obtain ⟨x25, ex25⟩ : ∃ y : Int32, y = y16 + 1 := ⟨_, rfl⟩
                  specialize h x25 ex25
                  refine lv_iinc (v := x25) (lv' := [(5, .int x25), (0, .ref m0), (1, .int p1), (2, .int p2), (3, .int p3), (4, .int y15)]) hx hb dX9_parts_101 hl (k := 5) rfl (by rw [ex25]; rfl) (by decide) rfl (fun ls hl => ?_)
                  refine lv_goto (tgt := 43) hx hb dX9_parts_104 (by decide) ?_
                  exact ih43 y15 x25 f17 f18 h.1 (Nat.lt_of_lt_of_le h.2 (Nat.le_of_lt_succ hk43)) _ _ hP hD hS _ (lv_sub hl [1, 2, 3, 4, 5, 0] rfl)
                · obtain ⟨-, h⟩ := h
                  specialize h c24
                  refine lv_iload_n hx hb dX9_parts_75 rfl (lv_at hl 2 rfl) ?_
                  refine lv_iconst (v := 2) hx hb dX9_parts_76 (by decide) ?_
                  refine lv_icmp_eq (tgt := 89) hx hb dX9_parts_77 (by decide) (fun c26 => ?_) (fun c26 => ?_)
                  · obtain ⟨h, -⟩ := h
                    specialize h c26
                    refine lv_aload_n hx hb dX9_parts_89 rfl (lv_at hl 0 rfl) ?_
                    refine lv_iload_n hx hb dX9_parts_90 rfl (lv_at hl 1 rfl) ?_
                    refine lv_iload_n hx hb dX9_parts_91 rfl (lv_at hl 2 rfl) ?_
                    refine lv_iload hx hb dX9_parts_92 (lv_at hl 5 rfl) ?_
                    refine lv_iconst (v := 0) hx hb dX9_parts_94 (by decide) ?_
                    obtain ⟨Q27, hw9, h⟩ := h
                    have hPc : va_P G vwCl [(m0, .inr (8, [.int kn, .ref mJ, .int kFe, .int kMo, .int kCo, .long kT, .ref mF, .ref mD, .ref mS, .ref mP])), (mJ, .inl (cy 0, 9, .inl jJ)), (mF, .inl (cy 0, 512, .inl f17)), (mD, .inl (cy 1, 512, .inl f18))] H := hP.sub [0, 1, 2, 3] rfl
                    have hDc : va_D A [(m0, .inr (8, [.int kn, .ref mJ, .int kFe, .int kMo, .int kCo, .long kT, .ref mF, .ref mD, .ref mS, .ref mP])), (mJ, .inl (cy 0, 9, .inl jJ)), (mF, .inl (cy 0, 512, .inl f17)), (mD, .inl (cy 1, 512, .inl f18))] := hD.sub [0, 1, 2, 3] (by decide) rfl
                    have hFc := va_free (wc := [(m0, .inr (8, [.int kn, .ref mJ, .int kFe, .int kMo, .int kCo, .long kT, .ref mF, .ref mD, .ref mS, .ref mP])), (mJ, .inl (cy 0, 9, .inl jJ)), (mF, .inl (cy 0, 512, .inl f17)), (mD, .inl (cy 1, 512, .inl f18))]) hD hS hA [0, 1, 2, 3] rfl
                    refine va_callv (va_runV (As := [.int p1, .int p2, .int y16, .int 0]) (rest := []) ⟨hx, hb, hml, hown, hts⟩ (ct_X9_goFrom l G cy m0 mJ mF mD mS mP H.size kn kFe kMo kCo kT jJ f17 f18 p1 p2 y16 0 Q27 hw9) (cwV 4 hts gX9_parts_X9_goFrom rfl rfl rfl (by decide +kernel) ⟨Nat.le_of_ble_eq_true rfl, Nat.le_of_ble_eq_true rfl⟩) (wP_V hK hP (ci := 8) (q0 := 0) rfl rfl hPc hDc) rfl rfl hl.1 rfl (lv_room (Nat.le_of_ble_eq_true rfl)) dX9_parts_95 ⟨Nat.le_of_ble_eq_true rfl, Nat.le_of_ble_eq_true rfl⟩) hS (fun q9 _ h9 => hFc q9 h9) hFc (fun u9 t9 H locs ht9 hvm9 hw9 hB9 hz9 hk9 hS => ?_)
                    obtain ⟨f29, f30⟩ := u9
                    have hP : va_P G vwCl [(m0, .inr (8, [.int kn, .ref mJ, .int kFe, .int kMo, .int kCo, .long kT, .ref mF, .ref mD, .ref mS, .ref mP])), (mJ, .inl (cy 0, 9, .inl jJ)), (mF, .inl (cy 0, 512, .inl f29)), (mD, .inl (cy 1, 512, .inl f30))] H := P_back [0, 1, 2, 3] [] 4 hP hD rfl rfl rfl rfl (by decide) (by decide) hk9 (by rw [← ht9]; exact hB9)
                    have hD : va_D A [(m0, .inr (8, [.int kn, .ref mJ, .int kFe, .int kMo, .int kCo, .long kT, .ref mF, .ref mD, .ref mS, .ref mP])), (mJ, .inl (cy 0, 9, .inl jJ)), (mF, .inl (cy 0, 512, .inl f29)), (mD, .inl (cy 1, 512, .inl f30))] := D_same hD rfl
                    specialize h f29 f30 hw9
                    obtain ⟨x31, ex31⟩ : ∃ y : Int32, y = y15 + 1 := ⟨_, rfl⟩
                    specialize h x31 ex31
                    refine lv_iinc (v := x31) (lv' := [(4, .int x31), (0, .ref m0), (1, .int p1), (2, .int p2), (3, .int p3), (5, .int y16)]) hx hb dX9_parts_98 hl (k := 4) rfl (by rw [ex31]; rfl) (by decide) rfl (fun ls hl => ?_)
                    obtain ⟨x32, ex32⟩ : ∃ y : Int32, y = y16 + 1 := ⟨_, rfl⟩
                    specialize h x32 ex32
                    refine lv_iinc (v := x32) (lv' := [(5, .int x32), (4, .int x31), (0, .ref m0), (1, .int p1), (2, .int p2), (3, .int p3)]) hx hb dX9_parts_101 hl (k := 5) rfl (by rw [ex32]; rfl) (by decide) rfl (fun ls hl => ?_)
                    refine lv_goto (tgt := 43) hx hb dX9_parts_104 (by decide) ?_
                    exact ih43 x31 x32 f29 f30 h.1 (Nat.lt_of_lt_of_le h.2 (Nat.le_of_lt_succ hk43)) _ _ hP hD hS _ (lv_sub hl [2, 3, 4, 5, 1, 0] rfl)
                  · obtain ⟨-, h⟩ := h
                    specialize h c26
                    refine lv_iload hx hb dX9_parts_80 (lv_at hl 5 rfl) ?_
                    obtain ⟨Q33, hw9, h⟩ := h
                    have hPc : va_P G vwCl [] H := P_nil
                    refine vp_callSi (va_Run.run (va_runS (As := [.int y16]) (rest := []) ⟨hx, hb, hml, hown, hts⟩ (ct_X9_size l G cy y16 Q33 hw9) (va_cwS 1 hts gX9_parts_X9_size rfl rfl rfl (by decide +kernel) ⟨Nat.le_of_ble_eq_true rfl, Nat.le_of_ble_eq_true rfl⟩) (rP_S hK hPc) rfl rfl hl.1 rfl (lv_room (Nat.le_of_ble_eq_true rfl)) dX9_parts_82 ⟨Nat.le_of_ble_eq_true rfl, Nat.le_of_ble_eq_true rfl⟩)) (fun r34 er34 => ?_)
                    specialize h r34 er34
                    refine lv_iload_n hx hb dX9_parts_85 rfl (lv_at hl 3 rfl) ?_
                    refine lv_icmp_ne (tgt := 101) hx hb dX9_parts_86 (by decide) (fun c35 => ?_) (fun c35 => ?_)
                    · obtain ⟨-, h⟩ := h
                      specialize h c35
                      obtain ⟨x36, ex36⟩ : ∃ y : Int32, y = y16 + 1 := ⟨_, rfl⟩
                      specialize h x36 ex36
                      refine lv_iinc (v := x36) (lv' := [(5, .int x36), (0, .ref m0), (1, .int p1), (2, .int p2), (3, .int p3), (4, .int y15)]) hx hb dX9_parts_101 hl (k := 5) rfl (by rw [ex36]; rfl) (by decide) rfl (fun ls hl => ?_)
                      refine lv_goto (tgt := 43) hx hb dX9_parts_104 (by decide) ?_
                      exact ih43 y15 x36 f17 f18 h.1 (Nat.lt_of_lt_of_le h.2 (Nat.le_of_lt_succ hk43)) _ _ hP hD hS _ (lv_sub hl [1, 2, 3, 4, 5, 0] rfl)
                    · obtain ⟨h, -⟩ := h
                      specialize h c35
                      refine lv_aload_n hx hb dX9_parts_89 rfl (lv_at hl 0 rfl) ?_
                      refine lv_iload_n hx hb dX9_parts_90 rfl (lv_at hl 1 rfl) ?_
                      refine lv_iload_n hx hb dX9_parts_91 rfl (lv_at hl 2 rfl) ?_
                      refine lv_iload hx hb dX9_parts_92 (lv_at hl 5 rfl) ?_
                      refine lv_iconst (v := 0) hx hb dX9_parts_94 (by decide) ?_
                      obtain ⟨Q37, hw9, h⟩ := h
                      have hPc : va_P G vwCl [(m0, .inr (8, [.int kn, .ref mJ, .int kFe, .int kMo, .int kCo, .long kT, .ref mF, .ref mD, .ref mS, .ref mP])), (mJ, .inl (cy 0, 9, .inl jJ)), (mF, .inl (cy 0, 512, .inl f17)), (mD, .inl (cy 1, 512, .inl f18))] H := hP.sub [0, 1, 2, 3] rfl
                      have hDc : va_D A [(m0, .inr (8, [.int kn, .ref mJ, .int kFe, .int kMo, .int kCo, .long kT, .ref mF, .ref mD, .ref mS, .ref mP])), (mJ, .inl (cy 0, 9, .inl jJ)), (mF, .inl (cy 0, 512, .inl f17)), (mD, .inl (cy 1, 512, .inl f18))] := hD.sub [0, 1, 2, 3] (by decide) rfl
                      have hFc := va_free (wc := [(m0, .inr (8, [.int kn, .ref mJ, .int kFe, .int kMo, .int kCo, .long kT, .ref mF, .ref mD, .ref mS, .ref mP])), (mJ, .inl (cy 0, 9, .inl jJ)), (mF, .inl (cy 0, 512, .inl f17)), (mD, .inl (cy 1, 512, .inl f18))]) hD hS hA [0, 1, 2, 3] rfl
                      refine va_callv (va_runV (As := [.int p1, .int p2, .int y16, .int 0]) (rest := []) ⟨hx, hb, hml, hown, hts⟩ (ct_X9_goFrom l G cy m0 mJ mF mD mS mP H.size kn kFe kMo kCo kT jJ f17 f18 p1 p2 y16 0 Q37 hw9) (cwV 4 hts gX9_parts_X9_goFrom rfl rfl rfl (by decide +kernel) ⟨Nat.le_of_ble_eq_true rfl, Nat.le_of_ble_eq_true rfl⟩) (wP_V hK hP (ci := 8) (q0 := 0) rfl rfl hPc hDc) rfl rfl hl.1 rfl (lv_room (Nat.le_of_ble_eq_true rfl)) dX9_parts_95 ⟨Nat.le_of_ble_eq_true rfl, Nat.le_of_ble_eq_true rfl⟩) hS (fun q9 _ h9 => hFc q9 h9) hFc (fun u9 t9 H locs ht9 hvm9 hw9 hB9 hz9 hk9 hS => ?_)
                      obtain ⟨f39, f40⟩ := u9
                      have hP : va_P G vwCl [(m0, .inr (8, [.int kn, .ref mJ, .int kFe, .int kMo, .int kCo, .long kT, .ref mF, .ref mD, .ref mS, .ref mP])), (mJ, .inl (cy 0, 9, .inl jJ)), (mF, .inl (cy 0, 512, .inl f39)), (mD, .inl (cy 1, 512, .inl f40))] H := P_back [0, 1, 2, 3] [] 4 hP hD rfl rfl rfl rfl (by decide) (by decide) hk9 (by rw [← ht9]; exact hB9)
                      have hD : va_D A [(m0, .inr (8, [.int kn, .ref mJ, .int kFe, .int kMo, .int kCo, .long kT, .ref mF, .ref mD, .ref mS, .ref mP])), (mJ, .inl (cy 0, 9, .inl jJ)), (mF, .inl (cy 0, 512, .inl f39)), (mD, .inl (cy 1, 512, .inl f40))] := D_same hD rfl
                      specialize h f39 f40 hw9
                      obtain ⟨x41, ex41⟩ : ∃ y : Int32, y = y15 + 1 := ⟨_, rfl⟩
                      specialize h x41 ex41
                      refine lv_iinc (v := x41) (lv' := [(4, .int x41), (0, .ref m0), (1, .int p1), (2, .int p2), (3, .int p3), (5, .int y16)]) hx hb dX9_parts_98 hl (k := 4) rfl (by rw [ex41]; rfl) (by decide) rfl (fun ls hl => ?_)
                      obtain ⟨x42, ex42⟩ : ∃ y : Int32, y = y16 + 1 := ⟨_, rfl⟩
                      specialize h x42 ex42
                      refine lv_iinc (v := x42) (lv' := [(5, .int x42), (4, .int x41), (0, .ref m0), (1, .int p1), (2, .int p2), (3, .int p3)]) hx hb dX9_parts_101 hl (k := 5) rfl (by rw [ex42]; rfl) (by decide) rfl (fun ls hl => ?_)
                      refine lv_goto (tgt := 43) hx hb dX9_parts_104 (by decide) ?_
                      exact ih43 x41 x42 f39 f40 h.1 (Nat.lt_of_lt_of_le h.2 (Nat.le_of_lt_succ hk43)) _ _ hP hD hS _ (lv_sub hl [2, 3, 4, 5, 1, 0] rfl)
        exact key43 _ 0 0 f13 f14 h043 (Nat.lt_succ_self _) _ _ hP hD hS _ (lv_sub hl [2, 3, 4, 5, 1, 0] rfl)
      refine lv_icmp_ge (tgt := 33) hx hb dX9_parts_16 (by decide) (fun c7 => ?_) (fun c7 => ?_)
      · obtain ⟨h, -⟩ := h
        specialize h c7
        exact jn33  h _ _ hP hD hS _ (lv_sub hl [0, 1, 2, 3] rfl)
      · obtain ⟨-, h⟩ := h
        specialize h c7
        refine lv_iload_n hx hb dX9_parts_19 rfl (lv_at hl 3 rfl) ?_
        refine lv_iconst (v := 0) hx hb dX9_parts_20 (by decide) ?_
        refine lv_aload_n hx hb dX9_parts_21 rfl (lv_at hl 0 rfl) ?_
        refine va_get (D := G) (ci := 8) (v := .int kn) (C := RX9) (T := TX9) (N := 10) hx hb hts iwX9 hown hK.1 hP 0 rfl rfl 0 (by decide) fl7 (fun _ h9 => h9) rfl dX9_parts_22 ?_
        obtain ⟨Q8, hw9, h⟩ := h
        have hPc : va_P G vwCl [] H := P_nil
        refine vp_callSi (va_Run.run (va_runS (As := [.int p3, .int 0, .int kn]) (rest := []) ⟨hx, hb, hml, hown, hts⟩ (ct_X9_in l G cy p3 0 kn Q8 hw9) (va_cwS 3 hts gX9_parts_X9_in rfl rfl rfl (by decide +kernel) ⟨Nat.le_of_ble_eq_true rfl, Nat.le_of_ble_eq_true rfl⟩) (rP_S hK hPc) rfl rfl hl.1 rfl (lv_room (Nat.le_of_ble_eq_true rfl)) dX9_parts_25 ⟨Nat.le_of_ble_eq_true rfl, Nat.le_of_ble_eq_true rfl⟩)) (fun r9 er9 => ?_)
        specialize h r9 er9
        refine lv_if_ne (tgt := 33) hx hb dX9_parts_28 (by decide) (fun c10 => ?_) (fun c10 => ?_)
        · obtain ⟨-, h⟩ := h
          specialize h c10
          exact jn33  h _ _ hP hD hS _ (lv_sub hl [0, 1, 2, 3] rfl)
        · obtain ⟨h, -⟩ := h
          specialize h c10
          refine lv_iconst (v := (-1)) hx hb dX9_parts_31 (by decide) ?_
          rw [← hQe]
          exact W.iret (v := (-1)) hx hb hr (fun t ht hW => ⟨⟨(-1), (jF, jD), rfl, h, by dsimp only; rw [ht]; exact hP⟩, hS.F ht⟩) hS.2.2 dX9_parts_32

set_option maxHeartbeats 4000000 in
set_option maxRecDepth 100000 in
theorem ct_X9_spread (l : Launch) (G : va_G) (cy : Nat → ClassId) (m0 mJ mS mP mF mD : Nat) (sz : Nat) (kn : Int32) (kFe : Int32) (kMo : Int32) (kCo : Int32) (kT : Int64) (jJ : Nat → Int32) (jS : Nat → Int32) (jP : Nat → Int32) (p1 : Int32) (Q : Int32 → (Nat → Int32) → (Nat → Int32) → Prop) (h : wp_X9_spread kn kCo jJ jS jP p1 Q) : Met l yX9_spread wsX9_spread rmX9_spread (va_Pc [.ref m0, .int p1] (wP G cy sz [(m0, .inr (8, [.int kn, .ref mJ, .int kFe, .int kMo, .int kCo, .long kT, .ref mF, .ref mD, .ref mS, .ref mP])), (mJ, .inl (cy 0, 9, .inl jJ)), (mS, .inl (cy 0, 4096, .inl jS)), (mP, .inl (cy 0, 4096, .inl jP))])) (va_Qi (fun (r : Int32) (u : (Nat → Int32) × (Nat → Int32)) => Q r u.1 u.2) (fun (u : (Nat → Int32) × (Nat → Int32)) (t : State) => va_P G vwCl [(m0, .inr (8, [.int kn, .ref mJ, .int kFe, .int kMo, .int kCo, .long kT, .ref mF, .ref mD, .ref mS, .ref mP])), (mJ, .inl (cy 0, 9, .inl jJ)), (mS, .inl (cy 0, 4096, .inl u.1)), (mP, .inl (cy 0, 4096, .inl u.2))] t.heap) (va_A [(m0, .inr (8, [.int kn, .ref mJ, .int kFe, .int kMo, .int kCo, .long kT, .ref mF, .ref mD, .ref mS, .ref mP])), (mJ, .inl (cy 0, 9, .inl jJ)), (mS, .inl (cy 0, 4096, .inl jS)), (mP, .inl (cy 0, 4096, .inl jP))] sz)) 0 0 (va_A [(m0, .inr (8, [.int kn, .ref mJ, .int kFe, .int kMo, .int kCo, .long kT, .ref mF, .ref mD, .ref mS, .ref mP])), (mJ, .inl (cy 0, 9, .inl jJ)), (mS, .inl (cy 0, 4096, .inl jS)), (mP, .inl (cy 0, 4096, .inl jP))] sz) := by
  unfold wp_X9_spread at h
  refine Met.ofW (cc := cX9_spread) (maxL := 8) (ret := (some .int)) (by decide) rfl ?_
  intro p e s m args below meth c s₁ B hml hv
  obtain ⟨hav, hsz, hP, hK, hD0⟩ := hv
  have hx := B.exec
  have hb := B.bytes
  have hr := B.returns
  have hts := atoms_spec (ws := wsX9_spread) B.pre
  have hown : s.vm.findClass RX9 = some m.cls := findClass_of_methodNamed B.named
  have hlocks := B.notSynchronized
  subst hsz
  have hD := hD0.self (sz := s.heap.size)
  generalize hAe : va_A [(m0, .inr (8, [.int kn, .ref mJ, .int kFe, .int kMo, .int kCo, .long kT, .ref mF, .ref mD, .ref mS, .ref mP])), (mJ, .inl (cy 0, 9, .inl jJ)), (mS, .inl (cy 0, 4096, .inl jS)), (mP, .inl (cy 0, 4096, .inl jP))] s.heap.size = A at hD ⊢
  have hA : ∀ q : Nat, s.heap.size ≤ q → A q := fun q h9 => by rw [← hAe]; exact Or.inr h9
  have hS : va_S A s.heap s.heap [] := va_S.rf
  have hl := lv_entry ([.ref m0, .int p1]) (n := 8) (Nat.le_of_ble_eq_true rfl)
  rw [show entryFrame m args 8 = entryFrame m ([.ref m0, .int p1] : List Value).toArray 8 by rw [hav], lg_entry_eq]
  generalize (lg_sl ([.ref m0, .int p1]) ++ List.replicate (8 - (lg_sl ([.ref m0, .int p1])).length) Slot.unset).toArray = ls at hl ⊢
  have hl : lv_has ls 8 [(0, .ref m0), (1, .int p1)] := hl
  generalize hQe : MQ below _ _ _ _ _ _ = QM
  have hP : va_P G vwCl [(m0, .inr (8, [.int kn, .ref mJ, .int kFe, .int kMo, .int kCo, .long kT, .ref mF, .ref mD, .ref mS, .ref mP])), (mJ, .inl (cy 0, 9, .inl jJ)), (mS, .inl (cy 0, 4096, .inl jS)), (mP, .inl (cy 0, 4096, .inl jP))] s.heap := hP
  have iwX9 : ∀ w ∈ wsX90, w ∈ wsX9_spread := by decide +kernel
  have fl30 := hts (.fieldLink RX9 30 "SlidTokensModel" "shade" "[I") (by decide +kernel)
  have fl33 := hts (.fieldLink RX9 33 "SlidTokensModel" "pile" "[I") (by decide +kernel)
  have fl7 := hts (.fieldLink RX9 7 "SlidTokensModel" "n" "I") (by decide +kernel)
  have fl20 := hts (.fieldLink RX9 20 "SlidTokensModel" "colours" "I") (by decide +kernel)
  suffices K9 : ∀ (H : Heap) (locs : List Loc), va_P G vwCl [(m0, .inr (8, [.int kn, .ref mJ, .int kFe, .int kMo, .int kCo, .long kT, .ref mF, .ref mD, .ref mS, .ref mP])), (mJ, .inl (cy 0, 9, .inl jJ)), (mS, .inl (cy 0, 4096, .inl jS)), (mP, .inl (cy 0, 4096, .inl jP))] H → va_D A [(m0, .inr (8, [.int kn, .ref mJ, .int kFe, .int kMo, .int kCo, .long kT, .ref mF, .ref mD, .ref mS, .ref mP])), (mJ, .inl (cy 0, 9, .inl jJ)), (mS, .inl (cy 0, 4096, .inl jS)), (mP, .inl (cy 0, 4096, .inl jP))] → va_S A s.heap H locs → W p l e (headSpec wsX9_spread rmX9_spread).room s m args below meth c H locs 0 0 QM (F0 m 0 ls []) from K9 _ _ hP hD hS
  clear hP hD hS
  intro H locs hP hD hS
  refine lv_iconst (v := 1) hx hb dX9_spread_0 (by decide) ?_
  refine lv_istore_n (lv' := [(2, .int 1), (0, .ref m0), (1, .int p1)]) hx hb dX9_spread_1 rfl hl (by decide) rfl (fun ls hl => ?_)
  refine lv_aload_n hx hb dX9_spread_2 rfl (lv_at hl 1 rfl) ?_
  refine va_get (D := G) (ci := 8) (v := .ref mS) (C := RX9) (T := TX9) (N := 10) hx hb hts iwX9 hown hK.1 hP 0 rfl rfl 8 (by decide) fl30 (fun _ h9 => h9) rfl dX9_spread_3 ?_
  refine lv_iload_n hx hb dX9_spread_6 rfl (lv_at hl 2 rfl) ?_
  refine lv_iconst (v := 0) hx hb dX9_spread_7 (by decide) ?_
  obtain ⟨hi, h⟩ := h
  refine va_iast hx hb hK.1 hP hD hS 2 0 rfl rfl hi dX9_spread_8 (fun H locs hP hD hS => ?_)
  obtain ⟨f1, ef1⟩ : ∃ z9 : Nat → Int32, z9 = upd jS (p1 : Int32).toNatClampNeg 0 := ⟨_, rfl⟩
  specialize h f1 ef1
  have hP : va_P G vwCl [(m0, .inr (8, [.int kn, .ref mJ, .int kFe, .int kMo, .int kCo, .long kT, .ref mF, .ref mD, .ref mS, .ref mP])), (mJ, .inl (cy 0, 9, .inl jJ)), (mS, .inl (cy 0, 4096, .inl f1)), (mP, .inl (cy 0, 4096, .inl jP))] H := by rw [ef1]; exact hP
  have hD : va_D A [(m0, .inr (8, [.int kn, .ref mJ, .int kFe, .int kMo, .int kCo, .long kT, .ref mF, .ref mD, .ref mS, .ref mP])), (mJ, .inl (cy 0, 9, .inl jJ)), (mS, .inl (cy 0, 4096, .inl f1)), (mP, .inl (cy 0, 4096, .inl jP))] := D_same hD rfl
  refine lv_aload_n hx hb dX9_spread_9 rfl (lv_at hl 1 rfl) ?_
  refine va_get (D := G) (ci := 8) (v := .ref mP) (C := RX9) (T := TX9) (N := 10) hx hb hts iwX9 hown hK.1 hP 0 rfl rfl 9 (by decide) fl33 (fun _ h9 => h9) rfl dX9_spread_10 ?_
  refine lv_iconst (v := 0) hx hb dX9_spread_13 (by decide) ?_
  refine lv_iload_n hx hb dX9_spread_14 rfl (lv_at hl 2 rfl) ?_
  obtain ⟨hi, h⟩ := h
  refine va_iast hx hb hK.1 hP hD hS 3 0 rfl rfl hi dX9_spread_15 (fun H locs hP hD hS => ?_)
  obtain ⟨f2, ef2⟩ : ∃ z9 : Nat → Int32, z9 = upd jP (0 : Int32).toNatClampNeg p1 := ⟨_, rfl⟩
  specialize h f2 ef2
  have hP : va_P G vwCl [(m0, .inr (8, [.int kn, .ref mJ, .int kFe, .int kMo, .int kCo, .long kT, .ref mF, .ref mD, .ref mS, .ref mP])), (mJ, .inl (cy 0, 9, .inl jJ)), (mS, .inl (cy 0, 4096, .inl f1)), (mP, .inl (cy 0, 4096, .inl f2))] H := by rw [ef2]; exact hP
  have hD : va_D A [(m0, .inr (8, [.int kn, .ref mJ, .int kFe, .int kMo, .int kCo, .long kT, .ref mF, .ref mD, .ref mS, .ref mP])), (mJ, .inl (cy 0, 9, .inl jJ)), (mS, .inl (cy 0, 4096, .inl f1)), (mP, .inl (cy 0, 4096, .inl f2))] := D_same hD rfl
  refine lv_iconst (v := 0) hx hb dX9_spread_16 (by decide) ?_
  refine lv_istore_n (lv' := [(3, .int 0), (2, .int 1), (0, .ref m0), (1, .int p1)]) hx hb dX9_spread_17 rfl hl (by decide) rfl (fun ls hl => ?_)
  obtain ⟨I18_6, u18_6, h018, hst18⟩ := h
  have key18 : ∀ (k9 : Nat) (y3 : Int32) (y4 : Int32) (f5 : Nat → Int32) (f6 : Nat → Int32), I18_6 y3 y4 f5 f6 → u18_6 y3 y4 f5 f6 < k9 → ∀ (H : Heap) (locs : List Loc), va_P G vwCl [(m0, .inr (8, [.int kn, .ref mJ, .int kFe, .int kMo, .int kCo, .long kT, .ref mF, .ref mD, .ref mS, .ref mP])), (mJ, .inl (cy 0, 9, .inl jJ)), (mS, .inl (cy 0, 4096, .inl f5)), (mP, .inl (cy 0, 4096, .inl f6))] H → va_D A [(m0, .inr (8, [.int kn, .ref mJ, .int kFe, .int kMo, .int kCo, .long kT, .ref mF, .ref mD, .ref mS, .ref mP])), (mJ, .inl (cy 0, 9, .inl jJ)), (mS, .inl (cy 0, 4096, .inl f5)), (mP, .inl (cy 0, 4096, .inl f6))] → va_S A s.heap H locs → ∀ (ls : Array Slot), lv_has ls 8 [(0, .ref m0), (2, .int y3), (3, .int y4)] → W p l e (headSpec wsX9_spread rmX9_spread).room s m args below meth c H locs 0 0 QM (F0 m 18 ls []) := by
    intro k9
    induction k9 with
    | zero =>
      intro y3 y4 f5 f6 hI9 hk9
      exact absurd hk9 (Nat.not_lt_zero _)
    | succ k9 ih18 =>
      intro y3 y4 f5 f6 hI9 hk18 H locs hP hD hS ls hl
      have h := hst18 y3 y4 f5 f6 hI9
      refine lv_iload_n hx hb dX9_spread_18 rfl (lv_at hl 2 rfl) ?_
      refine lv_iload_n hx hb dX9_spread_19 rfl (lv_at hl 1 rfl) ?_
      refine lv_icmp_ge (tgt := 140) hx hb dX9_spread_20 (by decide) (fun c7 => ?_) (fun c7 => ?_)
      · obtain ⟨h, -⟩ := h
        specialize h c7
        refine lv_iload_n hx hb dX9_spread_140 rfl (lv_at hl 1 rfl) ?_
        rw [← hQe]
        exact W.iret (v := y3) hx hb hr (fun t ht hW => ⟨⟨y3, (f5, f6), rfl, h, by dsimp only; rw [ht]; exact hP⟩, hS.F ht⟩) hS.2.2 dX9_spread_141
      · obtain ⟨-, h⟩ := h
        specialize h c7
        refine lv_aload_n hx hb dX9_spread_23 rfl (lv_at hl 0 rfl) ?_
        refine va_get (D := G) (ci := 8) (v := .ref mP) (C := RX9) (T := TX9) (N := 10) hx hb hts iwX9 hown hK.1 hP 0 rfl rfl 9 (by decide) fl33 (fun _ h9 => h9) rfl dX9_spread_24 ?_
        refine lv_iload_n hx hb dX9_spread_27 rfl (lv_at hl 2 rfl) ?_
        obtain ⟨hi, h⟩ := h
        refine va_iald hx hb hK.1 hP 3 0 rfl rfl hi dX9_spread_28 ?_
        refine lv_topi (fun x8 ex8 => ?_)
        specialize h x8 ex8
        refine lv_istore (lv' := [(4, .int x8), (0, .ref m0), (2, .int y3), (3, .int y4)]) hx hb dX9_spread_29 hl (by decide) rfl (fun ls hl => ?_)
        refine lv_iconst (v := 0) hx hb dX9_spread_31 (by decide) ?_
        refine lv_istore (lv' := [(5, .int 0), (4, .int x8), (0, .ref m0), (2, .int y3), (3, .int y4)]) hx hb dX9_spread_32 hl (by decide) rfl (fun ls hl => ?_)
        obtain ⟨I34_12, u34_12, h034, hst34⟩ := h
        have key34 : ∀ (k9 : Nat) (y9 : Int32) (y10 : Int32) (f11 : Nat → Int32) (f12 : Nat → Int32), I34_12 y9 y10 f11 f12 → u34_12 y9 y10 f11 f12 < k9 → ∀ (H : Heap) (locs : List Loc), va_P G vwCl [(m0, .inr (8, [.int kn, .ref mJ, .int kFe, .int kMo, .int kCo, .long kT, .ref mF, .ref mD, .ref mS, .ref mP])), (mJ, .inl (cy 0, 9, .inl jJ)), (mS, .inl (cy 0, 4096, .inl f11)), (mP, .inl (cy 0, 4096, .inl f12))] H → va_D A [(m0, .inr (8, [.int kn, .ref mJ, .int kFe, .int kMo, .int kCo, .long kT, .ref mF, .ref mD, .ref mS, .ref mP])), (mJ, .inl (cy 0, 9, .inl jJ)), (mS, .inl (cy 0, 4096, .inl f11)), (mP, .inl (cy 0, 4096, .inl f12))] → va_S A s.heap H locs → ∀ (ls : Array Slot), lv_has ls 8 [(0, .ref m0), (2, .int y9), (3, .int y4), (4, .int x8), (5, .int y10)] → W p l e (headSpec wsX9_spread rmX9_spread).room s m args below meth c H locs 0 0 QM (F0 m 34 ls []) := by
          intro k9
          induction k9 with
          | zero =>
            intro y9 y10 f11 f12 hI9 hk9
            exact absurd hk9 (Nat.not_lt_zero _)
          | succ k9 ih34 =>
            intro y9 y10 f11 f12 hI9 hk34 H locs hP hD hS ls hl
            have h := hst34 y9 y10 f11 f12 hI9
            refine lv_iload hx hb dX9_spread_34 (lv_at hl 4 rfl) ?_
            refine lv_aload_n hx hb dX9_spread_36 rfl (lv_at hl 0 rfl) ?_
            refine va_get (D := G) (ci := 8) (v := .int kn) (C := RX9) (T := TX9) (N := 10) hx hb hts iwX9 hown hK.1 hP 0 rfl rfl 0 (by decide) fl7 (fun _ h9 => h9) rfl dX9_spread_37 ?_
            refine lv_icmp_ge (tgt := 134) hx hb dX9_spread_40 (by decide) (fun c13 => ?_) (fun c13 => ?_)
            · obtain ⟨h, -⟩ := h
              specialize h c13
              obtain ⟨x14, ex14⟩ : ∃ y : Int32, y = y4 + 1 := ⟨_, rfl⟩
              specialize h x14 ex14
              refine lv_iinc (v := x14) (lv' := [(3, .int x14), (0, .ref m0), (2, .int y9), (4, .int x8), (5, .int y10)]) hx hb dX9_spread_134 hl (k := 2) rfl (by rw [ex14]; rfl) (by decide) rfl (fun ls hl => ?_)
              refine lv_goto (tgt := 18) hx hb dX9_spread_137 (by decide) ?_
              exact ih18 y9 x14 f11 f12 h.1 (Nat.lt_of_lt_of_le h.2 (Nat.le_of_lt_succ hk18)) _ _ hP hD hS _ (lv_sub hl [1, 2, 0] rfl)
            · obtain ⟨-, h⟩ := h
              specialize h c13
              refine lv_iconst (v := 0) hx hb dX9_spread_43 (by decide) ?_
              refine lv_istore (lv' := [(6, .int 0), (0, .ref m0), (2, .int y9), (3, .int y4), (4, .int x8), (5, .int y10)]) hx hb dX9_spread_44 hl (by decide) rfl (fun ls hl => ?_)
              obtain ⟨I46_18, u46_18, h046, hst46⟩ := h
              have key46 : ∀ (k9 : Nat) (y15 : Int32) (y16 : Int32) (f17 : Nat → Int32) (f18 : Nat → Int32), I46_18 y15 y16 f17 f18 → u46_18 y15 y16 f17 f18 < k9 → ∀ (H : Heap) (locs : List Loc), va_P G vwCl [(m0, .inr (8, [.int kn, .ref mJ, .int kFe, .int kMo, .int kCo, .long kT, .ref mF, .ref mD, .ref mS, .ref mP])), (mJ, .inl (cy 0, 9, .inl jJ)), (mS, .inl (cy 0, 4096, .inl f17)), (mP, .inl (cy 0, 4096, .inl f18))] H → va_D A [(m0, .inr (8, [.int kn, .ref mJ, .int kFe, .int kMo, .int kCo, .long kT, .ref mF, .ref mD, .ref mS, .ref mP])), (mJ, .inl (cy 0, 9, .inl jJ)), (mS, .inl (cy 0, 4096, .inl f17)), (mP, .inl (cy 0, 4096, .inl f18))] → va_S A s.heap H locs → ∀ (ls : Array Slot), lv_has ls 8 [(0, .ref m0), (2, .int y15), (3, .int y4), (4, .int x8), (5, .int y10), (6, .int y16)] → W p l e (headSpec wsX9_spread rmX9_spread).room s m args below meth c H locs 0 0 QM (F0 m 46 ls []) := by
                intro k9
                induction k9 with
                | zero =>
                  intro y15 y16 f17 f18 hI9 hk9
                  exact absurd hk9 (Nat.not_lt_zero _)
                | succ k9 ih46 =>
                  intro y15 y16 f17 f18 hI9 hk46 H locs hP hD hS ls hl
                  have h := hst46 y15 y16 f17 f18 hI9
                  refine lv_iload hx hb dX9_spread_46 (lv_at hl 5 rfl) ?_
                  refine lv_aload_n hx hb dX9_spread_48 rfl (lv_at hl 0 rfl) ?_
                  refine va_get (D := G) (ci := 8) (v := .int kCo) (C := RX9) (T := TX9) (N := 10) hx hb hts iwX9 hown hK.1 hP 0 rfl rfl 4 (by decide) fl20 (fun _ h9 => h9) rfl dX9_spread_49 ?_
                  refine lv_icmp_ge (tgt := 128) hx hb dX9_spread_52 (by decide) (fun c19 => ?_) (fun c19 => ?_)
                  · obtain ⟨h, -⟩ := h
                    specialize h c19
                    obtain ⟨x20, ex20⟩ : ∃ y : Int32, y = y10 + 1 := ⟨_, rfl⟩
                    specialize h x20 ex20
                    refine lv_iinc (v := x20) (lv' := [(5, .int x20), (0, .ref m0), (2, .int y15), (3, .int y4), (4, .int x8), (6, .int y16)]) hx hb dX9_spread_128 hl (k := 4) rfl (by rw [ex20]; rfl) (by decide) rfl (fun ls hl => ?_)
                    refine lv_goto (tgt := 34) hx hb dX9_spread_131 (by decide) ?_
                    exact ih34 y15 x20 f17 f18 h.1 (Nat.lt_of_lt_of_le h.2 (Nat.le_of_lt_succ hk34)) _ _ hP hD hS _ (lv_sub hl [1, 2, 3, 4, 0] rfl)
                  · obtain ⟨-, h⟩ := h
                    specialize h c19
                    refine lv_iload hx hb dX9_spread_55 (lv_at hl 3 rfl) ?_
                    refine lv_iconst (v := 3) hx hb dX9_spread_57 (by decide) ?_
                    refine lv_iconst (v := 2) hx hb dX9_spread_58 (by decide) ?_
                    refine lv_iload hx hb dX9_spread_59 (lv_at hl 4 rfl) ?_
                    refine lv_imul hx hb dX9_spread_61 ?_
                    refine lv_ishl hx hb dX9_spread_62 ?_
                    refine lv_iconst (v := (-1)) hx hb dX9_spread_63 (by decide) ?_
                    refine lv_ixor hx hb dX9_spread_64 ?_
                    refine lv_iand hx hb dX9_spread_65 ?_
                    refine lv_iload hx hb dX9_spread_66 (lv_at hl 5 rfl) ?_
                    refine lv_iconst (v := 2) hx hb dX9_spread_68 (by decide) ?_
                    refine lv_iload hx hb dX9_spread_69 (lv_at hl 4 rfl) ?_
                    refine lv_imul hx hb dX9_spread_71 ?_
                    refine lv_ishl hx hb dX9_spread_72 ?_
                    refine lv_ior hx hb dX9_spread_73 ?_
                    refine lv_topi (fun x21 ex21 => ?_)
                    specialize h x21 ex21
                    refine lv_istore (lv' := [(7, .int x21), (0, .ref m0), (2, .int y15), (3, .int y4), (4, .int x8), (5, .int y10), (6, .int y16)]) hx hb dX9_spread_74 hl (by decide) rfl (fun ls hl => ?_)
                    refine lv_aload_n hx hb dX9_spread_76 rfl (lv_at hl 1 rfl) ?_
                    refine va_get (D := G) (ci := 8) (v := .ref mS) (C := RX9) (T := TX9) (N := 10) hx hb hts iwX9 hown hK.1 hP 0 rfl rfl 8 (by decide) fl30 (fun _ h9 => h9) rfl dX9_spread_77 ?_
                    refine lv_iload hx hb dX9_spread_80 (lv_at hl 0 rfl) ?_
                    obtain ⟨hi, h⟩ := h
                    refine va_iald hx hb hK.1 hP 2 0 rfl rfl hi dX9_spread_82 ?_
                    refine lv_if_ge (tgt := 122) hx hb dX9_spread_83 (by decide) (fun c22 => ?_) (fun c22 => ?_)
                    · obtain ⟨h, -⟩ := h
                      specialize h c22
                      obtain ⟨x23, ex23⟩ : ∃ y : Int32, y = y16 + 1 := ⟨_, rfl⟩
                      specialize h x23 ex23
                      refine lv_iinc (v := x23) (lv' := [(6, .int x23), (7, .int x21), (0, .ref m0), (2, .int y15), (3, .int y4), (4, .int x8), (5, .int y10)]) hx hb dX9_spread_122 hl (k := 6) rfl (by rw [ex23]; rfl) (by decide) rfl (fun ls hl => ?_)
                      refine lv_goto (tgt := 46) hx hb dX9_spread_125 (by decide) ?_
                      exact ih46 y15 x23 f17 f18 h.1 (Nat.lt_of_lt_of_le h.2 (Nat.le_of_lt_succ hk46)) _ _ hP hD hS _ (lv_sub hl [2, 3, 4, 5, 6, 0] rfl)
                    · obtain ⟨-, h⟩ := h
                      specialize h c22
                      refine lv_aload_n hx hb dX9_spread_86 rfl (lv_at hl 1 rfl) ?_
                      refine lv_iload hx hb dX9_spread_87 (lv_at hl 0 rfl) ?_
                      obtain ⟨Q24, hw9, h⟩ := h
                      have hPc : va_P G vwCl [(m0, .inr (8, [.int kn, .ref mJ, .int kFe, .int kMo, .int kCo, .long kT, .ref mF, .ref mD, .ref mS, .ref mP])), (mJ, .inl (cy 0, 9, .inl jJ))] H := hP.sub [0, 1] rfl
                      refine vp_callSi (va_Run.run (va_runV (As := [.int x21]) (rest := []) ⟨hx, hb, hml, hown, hts⟩ (ct_X9_isProper l G cy m0 mJ mF mD mS mP kn kFe kMo kCo kT jJ x21 Q24 hw9) (cwV 1 hts gX9_spread_X9_isProper rfl rfl rfl (by decide +kernel) ⟨Nat.le_of_ble_eq_true rfl, Nat.le_of_ble_eq_true rfl⟩) (rP_V hK hP (ci := 8) (q0 := 0) rfl rfl hPc) rfl rfl hl.1 rfl (lv_room (Nat.le_of_ble_eq_true rfl)) dX9_spread_89 ⟨Nat.le_of_ble_eq_true rfl, Nat.le_of_ble_eq_true rfl⟩)) (fun r25 er25 => ?_)
                      specialize h r25 er25
                      refine lv_if_eq (tgt := 122) hx hb dX9_spread_92 (by decide) (fun c26 => ?_) (fun c26 => ?_)
                      · obtain ⟨h, -⟩ := h
                        specialize h c26
                        obtain ⟨x27, ex27⟩ : ∃ y : Int32, y = y16 + 1 := ⟨_, rfl⟩
                        specialize h x27 ex27
                        refine lv_iinc (v := x27) (lv' := [(6, .int x27), (7, .int x21), (0, .ref m0), (2, .int y15), (3, .int y4), (4, .int x8), (5, .int y10)]) hx hb dX9_spread_122 hl (k := 6) rfl (by rw [ex27]; rfl) (by decide) rfl (fun ls hl => ?_)
                        refine lv_goto (tgt := 46) hx hb dX9_spread_125 (by decide) ?_
                        exact ih46 y15 x27 f17 f18 h.1 (Nat.lt_of_lt_of_le h.2 (Nat.le_of_lt_succ hk46)) _ _ hP hD hS _ (lv_sub hl [2, 3, 4, 5, 6, 0] rfl)
                      · obtain ⟨-, h⟩ := h
                        specialize h c26
                        refine lv_aload_n hx hb dX9_spread_95 rfl (lv_at hl 1 rfl) ?_
                        refine va_get (D := G) (ci := 8) (v := .ref mS) (C := RX9) (T := TX9) (N := 10) hx hb hts iwX9 hown hK.1 hP 0 rfl rfl 8 (by decide) fl30 (fun _ h9 => h9) rfl dX9_spread_96 ?_
                        refine lv_iload hx hb dX9_spread_99 (lv_at hl 0 rfl) ?_
                        refine lv_aload_n hx hb dX9_spread_101 rfl (lv_at hl 1 rfl) ?_
                        refine va_get (D := G) (ci := 8) (v := .ref mS) (C := RX9) (T := TX9) (N := 10) hx hb hts iwX9 hown hK.1 hP 0 rfl rfl 8 (by decide) fl30 (fun _ h9 => h9) rfl dX9_spread_102 ?_
                        refine lv_iload hx hb dX9_spread_105 (lv_at hl 4 rfl) ?_
                        obtain ⟨hi, h⟩ := h
                        refine va_iald hx hb hK.1 hP 2 0 rfl rfl hi dX9_spread_107 ?_
                        refine lv_iconst (v := 1) hx hb dX9_spread_108 (by decide) ?_
                        refine lv_iadd hx hb dX9_spread_109 ?_
                        refine lv_topi (fun x28 ex28 => ?_)
                        specialize h x28 ex28
                        obtain ⟨hi, h⟩ := h
                        refine va_iast hx hb hK.1 hP hD hS 2 0 rfl rfl hi dX9_spread_110 (fun H locs hP hD hS => ?_)
                        obtain ⟨f29, ef29⟩ : ∃ z9 : Nat → Int32, z9 = upd f17 (x21 : Int32).toNatClampNeg x28 := ⟨_, rfl⟩
                        specialize h f29 ef29
                        have hP : va_P G vwCl [(m0, .inr (8, [.int kn, .ref mJ, .int kFe, .int kMo, .int kCo, .long kT, .ref mF, .ref mD, .ref mS, .ref mP])), (mJ, .inl (cy 0, 9, .inl jJ)), (mS, .inl (cy 0, 4096, .inl f29)), (mP, .inl (cy 0, 4096, .inl f18))] H := by rw [ef29]; exact hP
                        have hD : va_D A [(m0, .inr (8, [.int kn, .ref mJ, .int kFe, .int kMo, .int kCo, .long kT, .ref mF, .ref mD, .ref mS, .ref mP])), (mJ, .inl (cy 0, 9, .inl jJ)), (mS, .inl (cy 0, 4096, .inl f29)), (mP, .inl (cy 0, 4096, .inl f18))] := D_same hD rfl
                        refine lv_aload_n hx hb dX9_spread_111 rfl (lv_at hl 1 rfl) ?_
                        refine va_get (D := G) (ci := 8) (v := .ref mP) (C := RX9) (T := TX9) (N := 10) hx hb hts iwX9 hown hK.1 hP 0 rfl rfl 9 (by decide) fl33 (fun _ h9 => h9) rfl dX9_spread_112 ?_
                        refine lv_iload_n hx hb dX9_spread_115 rfl (lv_at hl 2 rfl) ?_
                        refine lv_iload hx hb dX9_spread_116 (lv_at hl 0 rfl) ?_
                        obtain ⟨hi, h⟩ := h
                        refine va_iast hx hb hK.1 hP hD hS 3 0 rfl rfl hi dX9_spread_118 (fun H locs hP hD hS => ?_)
                        obtain ⟨f30, ef30⟩ : ∃ z9 : Nat → Int32, z9 = upd f18 (y15 : Int32).toNatClampNeg x21 := ⟨_, rfl⟩
                        specialize h f30 ef30
                        have hP : va_P G vwCl [(m0, .inr (8, [.int kn, .ref mJ, .int kFe, .int kMo, .int kCo, .long kT, .ref mF, .ref mD, .ref mS, .ref mP])), (mJ, .inl (cy 0, 9, .inl jJ)), (mS, .inl (cy 0, 4096, .inl f29)), (mP, .inl (cy 0, 4096, .inl f30))] H := by rw [ef30]; exact hP
                        have hD : va_D A [(m0, .inr (8, [.int kn, .ref mJ, .int kFe, .int kMo, .int kCo, .long kT, .ref mF, .ref mD, .ref mS, .ref mP])), (mJ, .inl (cy 0, 9, .inl jJ)), (mS, .inl (cy 0, 4096, .inl f29)), (mP, .inl (cy 0, 4096, .inl f30))] := D_same hD rfl
                        obtain ⟨x31, ex31⟩ : ∃ y : Int32, y = y15 + 1 := ⟨_, rfl⟩
                        specialize h x31 ex31
                        refine lv_iinc (v := x31) (lv' := [(2, .int x31), (7, .int x21), (0, .ref m0), (3, .int y4), (4, .int x8), (5, .int y10), (6, .int y16)]) hx hb dX9_spread_119 hl (k := 2) rfl (by rw [ex31]; rfl) (by decide) rfl (fun ls hl => ?_)
                        obtain ⟨x32, ex32⟩ : ∃ y : Int32, y = y16 + 1 := ⟨_, rfl⟩
                        specialize h x32 ex32
                        refine lv_iinc (v := x32) (lv' := [(6, .int x32), (2, .int x31), (7, .int x21), (0, .ref m0), (3, .int y4), (4, .int x8), (5, .int y10)]) hx hb dX9_spread_122 hl (k := 6) rfl (by rw [ex32]; rfl) (by decide) rfl (fun ls hl => ?_)
                        refine lv_goto (tgt := 46) hx hb dX9_spread_125 (by decide) ?_
                        exact ih46 x31 x32 f29 f30 h.1 (Nat.lt_of_lt_of_le h.2 (Nat.le_of_lt_succ hk46)) _ _ hP hD hS _ (lv_sub hl [3, 1, 4, 5, 6, 0] rfl)
              exact key46 _ y9 0 f11 f12 h046 (Nat.lt_succ_self _) _ _ hP hD hS _ (lv_sub hl [1, 2, 3, 4, 5, 0] rfl)
        exact key34 _ y3 0 f5 f6 h034 (Nat.lt_succ_self _) _ _ hP hD hS _ (lv_sub hl [2, 3, 4, 1, 0] rfl)
  exact key18 _ 1 0 f1 f2 h018 (Nat.lt_succ_self _) _ _ hP hD hS _ (lv_sub hl [2, 1, 0] rfl)

set_option maxHeartbeats 4000000 in
set_option maxRecDepth 100000 in
theorem ct_X9_bleach (l : Launch) (G : va_G) (cy : Nat → ClassId) (m0 mJ mS mP mF mD : Nat) (sz : Nat) (kn : Int32) (kFe : Int32) (kMo : Int32) (kCo : Int32) (kT : Int64) (jJ : Nat → Int32) (jS : Nat → Int32) (jP : Nat → Int32) (Q : (Nat → Int32) → Prop) (h : wp_X9_bleach jS Q) : Met l yX9_bleach wsX9_bleach rmX9_bleach (va_Pc [.ref m0] (wP G cy sz [(m0, .inr (8, [.int kn, .ref mJ, .int kFe, .int kMo, .int kCo, .long kT, .ref mF, .ref mD, .ref mS, .ref mP])), (mJ, .inl (cy 0, 9, .inl jJ)), (mS, .inl (cy 0, 4096, .inl jS)), (mP, .inl (cy 0, 4096, .inl jP))])) (va_Qv (fun (u : (Nat → Int32)) => Q u) (fun (u : (Nat → Int32)) (t : State) => va_P G vwCl [(m0, .inr (8, [.int kn, .ref mJ, .int kFe, .int kMo, .int kCo, .long kT, .ref mF, .ref mD, .ref mS, .ref mP])), (mJ, .inl (cy 0, 9, .inl jJ)), (mS, .inl (cy 0, 4096, .inl u)), (mP, .inl (cy 0, 4096, .inl jP))] t.heap) (va_A [(m0, .inr (8, [.int kn, .ref mJ, .int kFe, .int kMo, .int kCo, .long kT, .ref mF, .ref mD, .ref mS, .ref mP])), (mJ, .inl (cy 0, 9, .inl jJ)), (mS, .inl (cy 0, 4096, .inl jS)), (mP, .inl (cy 0, 4096, .inl jP))] sz)) 0 0 (va_A [(m0, .inr (8, [.int kn, .ref mJ, .int kFe, .int kMo, .int kCo, .long kT, .ref mF, .ref mD, .ref mS, .ref mP])), (mJ, .inl (cy 0, 9, .inl jJ)), (mS, .inl (cy 0, 4096, .inl jS)), (mP, .inl (cy 0, 4096, .inl jP))] sz) := by
  unfold wp_X9_bleach at h
  refine Met.ofW (cc := cX9_bleach) (maxL := 2) (ret := none) (by decide) rfl ?_
  intro p e s m args below meth c s₁ B hml hv
  obtain ⟨hav, hsz, hP, hK, hD0⟩ := hv
  have hx := B.exec
  have hb := B.bytes
  have hr := B.returns
  have hts := atoms_spec (ws := wsX9_bleach) B.pre
  have hown : s.vm.findClass RX9 = some m.cls := findClass_of_methodNamed B.named
  have hlocks := B.notSynchronized
  subst hsz
  have hD := hD0.self (sz := s.heap.size)
  generalize hAe : va_A [(m0, .inr (8, [.int kn, .ref mJ, .int kFe, .int kMo, .int kCo, .long kT, .ref mF, .ref mD, .ref mS, .ref mP])), (mJ, .inl (cy 0, 9, .inl jJ)), (mS, .inl (cy 0, 4096, .inl jS)), (mP, .inl (cy 0, 4096, .inl jP))] s.heap.size = A at hD ⊢
  have hA : ∀ q : Nat, s.heap.size ≤ q → A q := fun q h9 => by rw [← hAe]; exact Or.inr h9
  have hS : va_S A s.heap s.heap [] := va_S.rf
  have hl := lv_entry ([.ref m0]) (n := 2) (Nat.le_of_ble_eq_true rfl)
  rw [show entryFrame m args 2 = entryFrame m ([.ref m0] : List Value).toArray 2 by rw [hav], lg_entry_eq]
  generalize (lg_sl ([.ref m0]) ++ List.replicate (2 - (lg_sl ([.ref m0])).length) Slot.unset).toArray = ls at hl ⊢
  have hl : lv_has ls 2 [(0, .ref m0)] := hl
  generalize hQe : MQ below _ _ _ _ _ _ = QM
  have hP : va_P G vwCl [(m0, .inr (8, [.int kn, .ref mJ, .int kFe, .int kMo, .int kCo, .long kT, .ref mF, .ref mD, .ref mS, .ref mP])), (mJ, .inl (cy 0, 9, .inl jJ)), (mS, .inl (cy 0, 4096, .inl jS)), (mP, .inl (cy 0, 4096, .inl jP))] s.heap := hP
  have iwX9 : ∀ w ∈ wsX90, w ∈ wsX9_bleach := by decide +kernel
  have fl30 := hts (.fieldLink RX9 30 "SlidTokensModel" "shade" "[I") (by decide +kernel)
  suffices K9 : ∀ (H : Heap) (locs : List Loc), va_P G vwCl [(m0, .inr (8, [.int kn, .ref mJ, .int kFe, .int kMo, .int kCo, .long kT, .ref mF, .ref mD, .ref mS, .ref mP])), (mJ, .inl (cy 0, 9, .inl jJ)), (mS, .inl (cy 0, 4096, .inl jS)), (mP, .inl (cy 0, 4096, .inl jP))] H → va_D A [(m0, .inr (8, [.int kn, .ref mJ, .int kFe, .int kMo, .int kCo, .long kT, .ref mF, .ref mD, .ref mS, .ref mP])), (mJ, .inl (cy 0, 9, .inl jJ)), (mS, .inl (cy 0, 4096, .inl jS)), (mP, .inl (cy 0, 4096, .inl jP))] → va_S A s.heap H locs → W p l e (headSpec wsX9_bleach rmX9_bleach).room s m args below meth c H locs 0 0 QM (F0 m 0 ls []) from K9 _ _ hP hD hS
  clear hP hD hS
  intro H locs hP hD hS
  refine lv_iconst (v := 0) hx hb dX9_bleach_0 (by decide) ?_
  refine lv_istore_n (lv' := [(1, .int 0), (0, .ref m0)]) hx hb dX9_bleach_1 rfl hl (by decide) rfl (fun ls hl => ?_)
  obtain ⟨I2_2, u2_2, h02, hst2⟩ := h
  have key2 : ∀ (k9 : Nat) (y1 : Int32) (f2 : Nat → Int32), I2_2 y1 f2 → u2_2 y1 f2 < k9 → ∀ (H : Heap) (locs : List Loc), va_P G vwCl [(m0, .inr (8, [.int kn, .ref mJ, .int kFe, .int kMo, .int kCo, .long kT, .ref mF, .ref mD, .ref mS, .ref mP])), (mJ, .inl (cy 0, 9, .inl jJ)), (mS, .inl (cy 0, 4096, .inl f2)), (mP, .inl (cy 0, 4096, .inl jP))] H → va_D A [(m0, .inr (8, [.int kn, .ref mJ, .int kFe, .int kMo, .int kCo, .long kT, .ref mF, .ref mD, .ref mS, .ref mP])), (mJ, .inl (cy 0, 9, .inl jJ)), (mS, .inl (cy 0, 4096, .inl f2)), (mP, .inl (cy 0, 4096, .inl jP))] → va_S A s.heap H locs → ∀ (ls : Array Slot), lv_has ls 2 [(0, .ref m0), (1, .int y1)] → W p l e (headSpec wsX9_bleach rmX9_bleach).room s m args below meth c H locs 0 0 QM (F0 m 2 ls []) := by
    intro k9
    induction k9 with
    | zero =>
      intro y1 f2 hI9 hk9
      exact absurd hk9 (Nat.not_lt_zero _)
    | succ k9 ih2 =>
      intro y1 f2 hI9 hk2 H locs hP hD hS ls hl
      have h := hst2 y1 f2 hI9
      refine lv_iload_n hx hb dX9_bleach_2 rfl (lv_at hl 1 rfl) ?_
      refine lv_sipush (v := 4096) hx hb dX9_bleach_3 (by decide) ?_
      refine lv_icmp_ge (tgt := 23) hx hb dX9_bleach_6 (by decide) (fun c3 => ?_) (fun c3 => ?_)
      · obtain ⟨h, -⟩ := h
        specialize h c3
        rw [← hQe]
        exact W.vret hx hb hr (fun t ht hW => ⟨⟨f2, rfl, h, by dsimp only; rw [ht]; exact hP⟩, hS.F ht⟩) hS.2.2 dX9_bleach_23
      · obtain ⟨-, h⟩ := h
        specialize h c3
        refine lv_aload_n hx hb dX9_bleach_9 rfl (lv_at hl 0 rfl) ?_
        refine va_get (D := G) (ci := 8) (v := .ref mS) (C := RX9) (T := TX9) (N := 10) hx hb hts iwX9 hown hK.1 hP 0 rfl rfl 8 (by decide) fl30 (fun _ h9 => h9) rfl dX9_bleach_10 ?_
        refine lv_iload_n hx hb dX9_bleach_13 rfl (lv_at hl 1 rfl) ?_
        refine lv_bipush (v := (-9)) hx hb dX9_bleach_14 (by decide) ?_
        obtain ⟨hi, h⟩ := h
        refine va_iast hx hb hK.1 hP hD hS 2 0 rfl rfl hi dX9_bleach_16 (fun H locs hP hD hS => ?_)
        obtain ⟨f4, ef4⟩ : ∃ z9 : Nat → Int32, z9 = upd f2 (y1 : Int32).toNatClampNeg (-9) := ⟨_, rfl⟩
        specialize h f4 ef4
        have hP : va_P G vwCl [(m0, .inr (8, [.int kn, .ref mJ, .int kFe, .int kMo, .int kCo, .long kT, .ref mF, .ref mD, .ref mS, .ref mP])), (mJ, .inl (cy 0, 9, .inl jJ)), (mS, .inl (cy 0, 4096, .inl f4)), (mP, .inl (cy 0, 4096, .inl jP))] H := by rw [ef4]; exact hP
        have hD : va_D A [(m0, .inr (8, [.int kn, .ref mJ, .int kFe, .int kMo, .int kCo, .long kT, .ref mF, .ref mD, .ref mS, .ref mP])), (mJ, .inl (cy 0, 9, .inl jJ)), (mS, .inl (cy 0, 4096, .inl f4)), (mP, .inl (cy 0, 4096, .inl jP))] := D_same hD rfl
        obtain ⟨x5, ex5⟩ : ∃ y : Int32, y = y1 + 1 := ⟨_, rfl⟩
        specialize h x5 ex5
        refine lv_iinc (v := x5) (lv' := [(1, .int x5), (0, .ref m0)]) hx hb dX9_bleach_17 hl (k := 1) rfl (by rw [ex5]; rfl) (by decide) rfl (fun ls hl => ?_)
        refine lv_goto (tgt := 2) hx hb dX9_bleach_20 (by decide) ?_
        exact ih2 x5 f4 h.1 (Nat.lt_of_lt_of_le h.2 (Nat.le_of_lt_succ hk2)) _ _ hP hD hS _ (lv_sub hl [1, 0] rfl)
  exact key2 _ 0 jS h02 (Nat.lt_succ_self _) _ _ hP hD hS _ (lv_sub hl [1, 0] rfl)

set_option maxHeartbeats 4000000 in
set_option maxRecDepth 100000 in
theorem ct_X9_shades (l : Launch) (G : va_G) (cy : Nat → ClassId) (m0 mJ mS mP mF mD : Nat) (sz : Nat) (kn : Int32) (kFe : Int32) (kMo : Int32) (kCo : Int32) (kT : Int64) (jJ : Nat → Int32) (jS : Nat → Int32) (jP : Nat → Int32) (p1 : Int32) (p2 : Int32) (Q : Int32 → (Nat → Int32) → (Nat → Int32) → Prop) (h : wp_X9_shades kn kCo jJ jS jP p1 p2 Q) : Met l yX9_shades wsX9_shades rmX9_shades (va_Pc [.ref m0, .int p1, .int p2] (wP G cy sz [(m0, .inr (8, [.int kn, .ref mJ, .int kFe, .int kMo, .int kCo, .long kT, .ref mF, .ref mD, .ref mS, .ref mP])), (mJ, .inl (cy 0, 9, .inl jJ)), (mS, .inl (cy 0, 4096, .inl jS)), (mP, .inl (cy 0, 4096, .inl jP))])) (va_Qi (fun (r : Int32) (u : (Nat → Int32) × (Nat → Int32)) => Q r u.1 u.2) (fun (u : (Nat → Int32) × (Nat → Int32)) (t : State) => va_P G vwCl [(m0, .inr (8, [.int kn, .ref mJ, .int kFe, .int kMo, .int kCo, .long kT, .ref mF, .ref mD, .ref mS, .ref mP])), (mJ, .inl (cy 0, 9, .inl jJ)), (mS, .inl (cy 0, 4096, .inl u.1)), (mP, .inl (cy 0, 4096, .inl u.2))] t.heap) (va_A [(m0, .inr (8, [.int kn, .ref mJ, .int kFe, .int kMo, .int kCo, .long kT, .ref mF, .ref mD, .ref mS, .ref mP])), (mJ, .inl (cy 0, 9, .inl jJ)), (mS, .inl (cy 0, 4096, .inl jS)), (mP, .inl (cy 0, 4096, .inl jP))] sz)) 0 0 (va_A [(m0, .inr (8, [.int kn, .ref mJ, .int kFe, .int kMo, .int kCo, .long kT, .ref mF, .ref mD, .ref mS, .ref mP])), (mJ, .inl (cy 0, 9, .inl jJ)), (mS, .inl (cy 0, 4096, .inl jS)), (mP, .inl (cy 0, 4096, .inl jP))] sz) := by
  unfold wp_X9_shades at h
  refine Met.ofW (cc := cX9_shades) (maxL := 4) (ret := (some .int)) (by decide) rfl ?_
  intro p e s m args below meth c s₁ B hml hv
  obtain ⟨hav, hsz, hP, hK, hD0⟩ := hv
  have hx := B.exec
  have hb := B.bytes
  have hr := B.returns
  have hts := atoms_spec (ws := wsX9_shades) B.pre
  have hown : s.vm.findClass RX9 = some m.cls := findClass_of_methodNamed B.named
  have hlocks := B.notSynchronized
  subst hsz
  have hD := hD0.self (sz := s.heap.size)
  generalize hAe : va_A [(m0, .inr (8, [.int kn, .ref mJ, .int kFe, .int kMo, .int kCo, .long kT, .ref mF, .ref mD, .ref mS, .ref mP])), (mJ, .inl (cy 0, 9, .inl jJ)), (mS, .inl (cy 0, 4096, .inl jS)), (mP, .inl (cy 0, 4096, .inl jP))] s.heap.size = A at hD ⊢
  have hA : ∀ q : Nat, s.heap.size ≤ q → A q := fun q h9 => by rw [← hAe]; exact Or.inr h9
  have hS : va_S A s.heap s.heap [] := va_S.rf
  have hl := lv_entry ([.ref m0, .int p1, .int p2]) (n := 4) (Nat.le_of_ble_eq_true rfl)
  rw [show entryFrame m args 4 = entryFrame m ([.ref m0, .int p1, .int p2] : List Value).toArray 4 by rw [hav], lg_entry_eq]
  generalize (lg_sl ([.ref m0, .int p1, .int p2]) ++ List.replicate (4 - (lg_sl ([.ref m0, .int p1, .int p2])).length) Slot.unset).toArray = ls at hl ⊢
  have hl : lv_has ls 4 [(0, .ref m0), (1, .int p1), (2, .int p2)] := hl
  generalize hQe : MQ below _ _ _ _ _ _ = QM
  have hP : va_P G vwCl [(m0, .inr (8, [.int kn, .ref mJ, .int kFe, .int kMo, .int kCo, .long kT, .ref mF, .ref mD, .ref mS, .ref mP])), (mJ, .inl (cy 0, 9, .inl jJ)), (mS, .inl (cy 0, 4096, .inl jS)), (mP, .inl (cy 0, 4096, .inl jP))] s.heap := hP
  have iwX9 : ∀ w ∈ wsX90, w ∈ wsX9_shades := by decide +kernel
  have fl7 := hts (.fieldLink RX9 7 "SlidTokensModel" "n" "I") (by decide +kernel)
  have fl30 := hts (.fieldLink RX9 30 "SlidTokensModel" "shade" "[I") (by decide +kernel)
  suffices K9 : ∀ (H : Heap) (locs : List Loc), va_P G vwCl [(m0, .inr (8, [.int kn, .ref mJ, .int kFe, .int kMo, .int kCo, .long kT, .ref mF, .ref mD, .ref mS, .ref mP])), (mJ, .inl (cy 0, 9, .inl jJ)), (mS, .inl (cy 0, 4096, .inl jS)), (mP, .inl (cy 0, 4096, .inl jP))] H → va_D A [(m0, .inr (8, [.int kn, .ref mJ, .int kFe, .int kMo, .int kCo, .long kT, .ref mF, .ref mD, .ref mS, .ref mP])), (mJ, .inl (cy 0, 9, .inl jJ)), (mS, .inl (cy 0, 4096, .inl jS)), (mP, .inl (cy 0, 4096, .inl jP))] → va_S A s.heap H locs → W p l e (headSpec wsX9_shades rmX9_shades).room s m args below meth c H locs 0 0 QM (F0 m 0 ls []) from K9 _ _ hP hD hS
  clear hP hD hS
  intro H locs hP hD hS
  refine lv_aload_n hx hb dX9_shades_0 rfl (lv_at hl 0 rfl) ?_
  refine va_get (D := G) (ci := 8) (v := .int kn) (C := RX9) (T := TX9) (N := 10) hx hb hts iwX9 hown hK.1 hP 0 rfl rfl 0 (by decide) fl7 (fun _ h9 => h9) rfl dX9_shades_1 ?_
  refine lv_bipush (v := 6) hx hb dX9_shades_4 (by decide) ?_
  refine lv_icmp_le (tgt := 12) hx hb dX9_shades_6 (by decide) (fun c1 => ?_) (fun c1 => ?_)
  · obtain ⟨h, -⟩ := h
    specialize h c1
    refine lv_aload_n hx hb dX9_shades_12 rfl (lv_at hl 0 rfl) ?_
    refine lv_iload_n hx hb dX9_shades_13 rfl (lv_at hl 1 rfl) ?_
    obtain ⟨Q2, hw9, h⟩ := h
    have hPc : va_P G vwCl [(m0, .inr (8, [.int kn, .ref mJ, .int kFe, .int kMo, .int kCo, .long kT, .ref mF, .ref mD, .ref mS, .ref mP])), (mJ, .inl (cy 0, 9, .inl jJ))] H := hP.sub [0, 1] rfl
    refine vp_callSi (va_Run.run (va_runV (As := [.int p1]) (rest := []) ⟨hx, hb, hml, hown, hts⟩ (ct_X9_isProper l G cy m0 mJ mF mD mS mP kn kFe kMo kCo kT jJ p1 Q2 hw9) (cwV 1 hts gX9_shades_X9_isProper rfl rfl rfl (by decide +kernel) ⟨Nat.le_of_ble_eq_true rfl, Nat.le_of_ble_eq_true rfl⟩) (rP_V hK hP (ci := 8) (q0 := 0) rfl rfl hPc) rfl rfl hl.1 rfl (lv_room (Nat.le_of_ble_eq_true rfl)) dX9_shades_14 ⟨Nat.le_of_ble_eq_true rfl, Nat.le_of_ble_eq_true rfl⟩)) (fun r3 er3 => ?_)
    specialize h r3 er3
    refine lv_if_eq (tgt := 28) hx hb dX9_shades_17 (by decide) (fun c4 => ?_) (fun c4 => ?_)
    · obtain ⟨h, -⟩ := h
      specialize h c4
      refine lv_iconst (v := (-1)) hx hb dX9_shades_28 (by decide) ?_
      rw [← hQe]
      exact W.iret (v := (-1)) hx hb hr (fun t ht hW => ⟨⟨(-1), (jS, jP), rfl, h, by dsimp only; rw [ht]; exact hP⟩, hS.F ht⟩) hS.2.2 dX9_shades_29
    · obtain ⟨-, h⟩ := h
      specialize h c4
      refine lv_aload_n hx hb dX9_shades_20 rfl (lv_at hl 0 rfl) ?_
      refine lv_iload_n hx hb dX9_shades_21 rfl (lv_at hl 2 rfl) ?_
      obtain ⟨Q5, hw9, h⟩ := h
      have hPc : va_P G vwCl [(m0, .inr (8, [.int kn, .ref mJ, .int kFe, .int kMo, .int kCo, .long kT, .ref mF, .ref mD, .ref mS, .ref mP])), (mJ, .inl (cy 0, 9, .inl jJ))] H := hP.sub [0, 1] rfl
      refine vp_callSi (va_Run.run (va_runV (As := [.int p2]) (rest := []) ⟨hx, hb, hml, hown, hts⟩ (ct_X9_isProper l G cy m0 mJ mF mD mS mP kn kFe kMo kCo kT jJ p2 Q5 hw9) (cwV 1 hts gX9_shades_X9_isProper rfl rfl rfl (by decide +kernel) ⟨Nat.le_of_ble_eq_true rfl, Nat.le_of_ble_eq_true rfl⟩) (rP_V hK hP (ci := 8) (q0 := 0) rfl rfl hPc) rfl rfl hl.1 rfl (lv_room (Nat.le_of_ble_eq_true rfl)) dX9_shades_22 ⟨Nat.le_of_ble_eq_true rfl, Nat.le_of_ble_eq_true rfl⟩)) (fun r6 er6 => ?_)
      specialize h r6 er6
      refine lv_if_ne (tgt := 30) hx hb dX9_shades_25 (by decide) (fun c7 => ?_) (fun c7 => ?_)
      · obtain ⟨-, h⟩ := h
        specialize h c7
        refine lv_aload_n hx hb dX9_shades_30 rfl (lv_at hl 0 rfl) ?_
        obtain ⟨Q8, hw9, h⟩ := h
        have hPc : va_P G vwCl [(m0, .inr (8, [.int kn, .ref mJ, .int kFe, .int kMo, .int kCo, .long kT, .ref mF, .ref mD, .ref mS, .ref mP])), (mJ, .inl (cy 0, 9, .inl jJ)), (mS, .inl (cy 0, 4096, .inl jS)), (mP, .inl (cy 0, 4096, .inl jP))] H := hP.sub [0, 1, 2, 3] rfl
        have hDc : va_D A [(m0, .inr (8, [.int kn, .ref mJ, .int kFe, .int kMo, .int kCo, .long kT, .ref mF, .ref mD, .ref mS, .ref mP])), (mJ, .inl (cy 0, 9, .inl jJ)), (mS, .inl (cy 0, 4096, .inl jS)), (mP, .inl (cy 0, 4096, .inl jP))] := hD.sub [0, 1, 2, 3] (by decide) rfl
        have hFc := va_free (wc := [(m0, .inr (8, [.int kn, .ref mJ, .int kFe, .int kMo, .int kCo, .long kT, .ref mF, .ref mD, .ref mS, .ref mP])), (mJ, .inl (cy 0, 9, .inl jJ)), (mS, .inl (cy 0, 4096, .inl jS)), (mP, .inl (cy 0, 4096, .inl jP))]) hD hS hA [0, 1, 2, 3] rfl
        refine va_callv (va_runV (As := []) (rest := []) ⟨hx, hb, hml, hown, hts⟩ (ct_X9_bleach l G cy m0 mJ mS mP mF mD H.size kn kFe kMo kCo kT jJ jS jP Q8 hw9) (cwV 0 hts gX9_shades_X9_bleach rfl rfl rfl (by decide +kernel) ⟨Nat.le_of_ble_eq_true rfl, Nat.le_of_ble_eq_true rfl⟩) (wP_V hK hP (ci := 8) (q0 := 0) rfl rfl hPc hDc) rfl rfl hl.1 rfl (lv_room (Nat.le_of_ble_eq_true rfl)) dX9_shades_31 ⟨Nat.le_of_ble_eq_true rfl, Nat.le_of_ble_eq_true rfl⟩) hS (fun q9 _ h9 => hFc q9 h9) hFc (fun u9 t9 H locs ht9 hvm9 hw9 hB9 hz9 hk9 hS => ?_)
        obtain ⟨f10, rfl⟩ : ∃ z9, z9 = u9 := ⟨_, rfl⟩
        have hP : va_P G vwCl [(m0, .inr (8, [.int kn, .ref mJ, .int kFe, .int kMo, .int kCo, .long kT, .ref mF, .ref mD, .ref mS, .ref mP])), (mJ, .inl (cy 0, 9, .inl jJ)), (mS, .inl (cy 0, 4096, .inl f10)), (mP, .inl (cy 0, 4096, .inl jP))] H := P_back [0, 1, 2, 3] [] 4 hP hD rfl rfl rfl rfl (by decide) (by decide) hk9 (by rw [← ht9]; exact hB9)
        have hD : va_D A [(m0, .inr (8, [.int kn, .ref mJ, .int kFe, .int kMo, .int kCo, .long kT, .ref mF, .ref mD, .ref mS, .ref mP])), (mJ, .inl (cy 0, 9, .inl jJ)), (mS, .inl (cy 0, 4096, .inl f10)), (mP, .inl (cy 0, 4096, .inl jP))] := D_same hD rfl
        specialize h f10 hw9
        refine lv_aload_n hx hb dX9_shades_34 rfl (lv_at hl 0 rfl) ?_
        refine lv_iload_n hx hb dX9_shades_35 rfl (lv_at hl 1 rfl) ?_
        obtain ⟨Q11, hw9, h⟩ := h
        have hPc : va_P G vwCl [(m0, .inr (8, [.int kn, .ref mJ, .int kFe, .int kMo, .int kCo, .long kT, .ref mF, .ref mD, .ref mS, .ref mP])), (mJ, .inl (cy 0, 9, .inl jJ)), (mS, .inl (cy 0, 4096, .inl f10)), (mP, .inl (cy 0, 4096, .inl jP))] H := hP.sub [0, 1, 2, 3] rfl
        have hDc : va_D A [(m0, .inr (8, [.int kn, .ref mJ, .int kFe, .int kMo, .int kCo, .long kT, .ref mF, .ref mD, .ref mS, .ref mP])), (mJ, .inl (cy 0, 9, .inl jJ)), (mS, .inl (cy 0, 4096, .inl f10)), (mP, .inl (cy 0, 4096, .inl jP))] := hD.sub [0, 1, 2, 3] (by decide) rfl
        have hFc := va_free (wc := [(m0, .inr (8, [.int kn, .ref mJ, .int kFe, .int kMo, .int kCo, .long kT, .ref mF, .ref mD, .ref mS, .ref mP])), (mJ, .inl (cy 0, 9, .inl jJ)), (mS, .inl (cy 0, 4096, .inl f10)), (mP, .inl (cy 0, 4096, .inl jP))]) hD hS hA [0, 1, 2, 3] rfl
        refine va_calli (va_runV (As := [.int p1]) (rest := []) ⟨hx, hb, hml, hown, hts⟩ (ct_X9_spread l G cy m0 mJ mS mP mF mD H.size kn kFe kMo kCo kT jJ f10 jP p1 Q11 hw9) (cwV 1 hts gX9_shades_X9_spread rfl rfl rfl (by decide +kernel) ⟨Nat.le_of_ble_eq_true rfl, Nat.le_of_ble_eq_true rfl⟩) (wP_V hK hP (ci := 8) (q0 := 0) rfl rfl hPc hDc) rfl rfl hl.1 rfl (lv_room (Nat.le_of_ble_eq_true rfl)) dX9_shades_36 ⟨Nat.le_of_ble_eq_true rfl, Nat.le_of_ble_eq_true rfl⟩) hS (fun q9 _ h9 => hFc q9 h9) hFc (fun r12 u9 t9 H locs ht9 hvm9 hw9 hB9 hz9 hk9 hS => ?_)
        obtain ⟨f13, f14⟩ := u9
        have hP : va_P G vwCl [(m0, .inr (8, [.int kn, .ref mJ, .int kFe, .int kMo, .int kCo, .long kT, .ref mF, .ref mD, .ref mS, .ref mP])), (mJ, .inl (cy 0, 9, .inl jJ)), (mS, .inl (cy 0, 4096, .inl f13)), (mP, .inl (cy 0, 4096, .inl f14))] H := P_back [0, 1, 2, 3] [] 4 hP hD rfl rfl rfl rfl (by decide) (by decide) hk9 (by rw [← ht9]; exact hB9)
        have hD : va_D A [(m0, .inr (8, [.int kn, .ref mJ, .int kFe, .int kMo, .int kCo, .long kT, .ref mF, .ref mD, .ref mS, .ref mP])), (mJ, .inl (cy 0, 9, .inl jJ)), (mS, .inl (cy 0, 4096, .inl f13)), (mP, .inl (cy 0, 4096, .inl f14))] := D_same hD rfl
        specialize h r12 f13 f14 hw9
        refine lv_istore_n (lv' := [(3, .int r12), (0, .ref m0), (1, .int p1), (2, .int p2)]) hx hb dX9_shades_39 rfl hl (by decide) rfl (fun ls hl => ?_)
        refine lv_aload_n hx hb dX9_shades_40 rfl (lv_at hl 1 rfl) ?_
        refine va_get (D := G) (ci := 8) (v := .ref mS) (C := RX9) (T := TX9) (N := 10) hx hb hts iwX9 hown hK.1 hP 0 rfl rfl 8 (by decide) fl30 (fun _ h9 => h9) rfl dX9_shades_41 ?_
        refine lv_iload_n hx hb dX9_shades_44 rfl (lv_at hl 3 rfl) ?_
        obtain ⟨hi, h⟩ := h
        refine va_iald hx hb hK.1 hP 2 0 rfl rfl hi dX9_shades_45 ?_
        rw [← hQe]
        exact W.iret (v := (f13 (p2 : Int32).toNatClampNeg)) hx hb hr (fun t ht hW => ⟨⟨(f13 (p2 : Int32).toNatClampNeg), (f13, f14), rfl, h, by dsimp only; rw [ht]; exact hP⟩, hS.F ht⟩) hS.2.2 dX9_shades_46
      · obtain ⟨h, -⟩ := h
        specialize h c7
        refine lv_iconst (v := (-1)) hx hb dX9_shades_28 (by decide) ?_
        rw [← hQe]
        exact W.iret (v := (-1)) hx hb hr (fun t ht hW => ⟨⟨(-1), (jS, jP), rfl, h, by dsimp only; rw [ht]; exact hP⟩, hS.F ht⟩) hS.2.2 dX9_shades_29
  · obtain ⟨-, h⟩ := h
    specialize h c1
    refine lv_bipush (v := (-2)) hx hb dX9_shades_9 (by decide) ?_
    rw [← hQe]
    exact W.iret (v := (-2)) hx hb hr (fun t ht hW => ⟨⟨(-2), (jS, jP), rfl, h, by dsimp only; rw [ht]; exact hP⟩, hS.F ht⟩) hS.2.2 dX9_shades_11

set_option maxHeartbeats 4000000 in
set_option maxRecDepth 100000 in
theorem ct_X9_heaps (l : Launch) (G : va_G) (cy : Nat → ClassId) (m0 mJ mS mP mF mD : Nat) (sz : Nat) (kn : Int32) (kFe : Int32) (kMo : Int32) (kCo : Int32) (kT : Int64) (jJ : Nat → Int32) (jS : Nat → Int32) (jP : Nat → Int32) (p1 : Int32) (Q : Int32 → (Nat → Int32) → (Nat → Int32) → Prop) (h : wp_X9_heaps kn kCo jJ jS jP p1 Q) : Met l yX9_heaps wsX9_heaps rmX9_heaps (va_Pc [.ref m0, .int p1] (wP G cy sz [(m0, .inr (8, [.int kn, .ref mJ, .int kFe, .int kMo, .int kCo, .long kT, .ref mF, .ref mD, .ref mS, .ref mP])), (mJ, .inl (cy 0, 9, .inl jJ)), (mS, .inl (cy 0, 4096, .inl jS)), (mP, .inl (cy 0, 4096, .inl jP))])) (va_Qi (fun (r : Int32) (u : (Nat → Int32) × (Nat → Int32)) => Q r u.1 u.2) (fun (u : (Nat → Int32) × (Nat → Int32)) (t : State) => va_P G vwCl [(m0, .inr (8, [.int kn, .ref mJ, .int kFe, .int kMo, .int kCo, .long kT, .ref mF, .ref mD, .ref mS, .ref mP])), (mJ, .inl (cy 0, 9, .inl jJ)), (mS, .inl (cy 0, 4096, .inl u.1)), (mP, .inl (cy 0, 4096, .inl u.2))] t.heap) (va_A [(m0, .inr (8, [.int kn, .ref mJ, .int kFe, .int kMo, .int kCo, .long kT, .ref mF, .ref mD, .ref mS, .ref mP])), (mJ, .inl (cy 0, 9, .inl jJ)), (mS, .inl (cy 0, 4096, .inl jS)), (mP, .inl (cy 0, 4096, .inl jP))] sz)) 0 0 (va_A [(m0, .inr (8, [.int kn, .ref mJ, .int kFe, .int kMo, .int kCo, .long kT, .ref mF, .ref mD, .ref mS, .ref mP])), (mJ, .inl (cy 0, 9, .inl jJ)), (mS, .inl (cy 0, 4096, .inl jS)), (mP, .inl (cy 0, 4096, .inl jP))] sz) := by
  unfold wp_X9_heaps at h
  refine Met.ofW (cc := cX9_heaps) (maxL := 7) (ret := (some .int)) (by decide) rfl ?_
  intro p e s m args below meth c s₁ B hml hv
  obtain ⟨hav, hsz, hP, hK, hD0⟩ := hv
  have hx := B.exec
  have hb := B.bytes
  have hr := B.returns
  have hts := atoms_spec (ws := wsX9_heaps) B.pre
  have hown : s.vm.findClass RX9 = some m.cls := findClass_of_methodNamed B.named
  have hlocks := B.notSynchronized
  subst hsz
  have hD := hD0.self (sz := s.heap.size)
  generalize hAe : va_A [(m0, .inr (8, [.int kn, .ref mJ, .int kFe, .int kMo, .int kCo, .long kT, .ref mF, .ref mD, .ref mS, .ref mP])), (mJ, .inl (cy 0, 9, .inl jJ)), (mS, .inl (cy 0, 4096, .inl jS)), (mP, .inl (cy 0, 4096, .inl jP))] s.heap.size = A at hD ⊢
  have hA : ∀ q : Nat, s.heap.size ≤ q → A q := fun q h9 => by rw [← hAe]; exact Or.inr h9
  have hS : va_S A s.heap s.heap [] := va_S.rf
  have hl := lv_entry ([.ref m0, .int p1]) (n := 7) (Nat.le_of_ble_eq_true rfl)
  rw [show entryFrame m args 7 = entryFrame m ([.ref m0, .int p1] : List Value).toArray 7 by rw [hav], lg_entry_eq]
  generalize (lg_sl ([.ref m0, .int p1]) ++ List.replicate (7 - (lg_sl ([.ref m0, .int p1])).length) Slot.unset).toArray = ls at hl ⊢
  have hl : lv_has ls 7 [(0, .ref m0), (1, .int p1)] := hl
  generalize hQe : MQ below _ _ _ _ _ _ = QM
  have hP : va_P G vwCl [(m0, .inr (8, [.int kn, .ref mJ, .int kFe, .int kMo, .int kCo, .long kT, .ref mF, .ref mD, .ref mS, .ref mP])), (mJ, .inl (cy 0, 9, .inl jJ)), (mS, .inl (cy 0, 4096, .inl jS)), (mP, .inl (cy 0, 4096, .inl jP))] s.heap := hP
  have iwX9 : ∀ w ∈ wsX90, w ∈ wsX9_heaps := by decide +kernel
  have fl7 := hts (.fieldLink RX9 7 "SlidTokensModel" "n" "I") (by decide +kernel)
  have fl30 := hts (.fieldLink RX9 30 "SlidTokensModel" "shade" "[I") (by decide +kernel)
  suffices K9 : ∀ (H : Heap) (locs : List Loc), va_P G vwCl [(m0, .inr (8, [.int kn, .ref mJ, .int kFe, .int kMo, .int kCo, .long kT, .ref mF, .ref mD, .ref mS, .ref mP])), (mJ, .inl (cy 0, 9, .inl jJ)), (mS, .inl (cy 0, 4096, .inl jS)), (mP, .inl (cy 0, 4096, .inl jP))] H → va_D A [(m0, .inr (8, [.int kn, .ref mJ, .int kFe, .int kMo, .int kCo, .long kT, .ref mF, .ref mD, .ref mS, .ref mP])), (mJ, .inl (cy 0, 9, .inl jJ)), (mS, .inl (cy 0, 4096, .inl jS)), (mP, .inl (cy 0, 4096, .inl jP))] → va_S A s.heap H locs → W p l e (headSpec wsX9_heaps rmX9_heaps).room s m args below meth c H locs 0 0 QM (F0 m 0 ls []) from K9 _ _ hP hD hS
  clear hP hD hS
  intro H locs hP hD hS
  refine lv_iload_n hx hb dX9_heaps_0 rfl (lv_at hl 1 rfl) ?_
  refine lv_iconst (v := 0) hx hb dX9_heaps_1 (by decide) ?_
  refine lv_iconst (v := 2) hx hb dX9_heaps_2 (by decide) ?_
  obtain ⟨Q1, hw9, h⟩ := h
  have hPc : va_P G vwCl [] H := P_nil
  refine vp_callSi (va_Run.run (va_runS (As := [.int p1, .int 0, .int 2]) (rest := []) ⟨hx, hb, hml, hown, hts⟩ (ct_X9_in l G cy p1 0 2 Q1 hw9) (va_cwS 3 hts gX9_heaps_X9_in rfl rfl rfl (by decide +kernel) ⟨Nat.le_of_ble_eq_true rfl, Nat.le_of_ble_eq_true rfl⟩) (rP_S hK hPc) rfl rfl hl.1 rfl (lv_room (Nat.le_of_ble_eq_true rfl)) dX9_heaps_3 ⟨Nat.le_of_ble_eq_true rfl, Nat.le_of_ble_eq_true rfl⟩)) (fun r2 er2 => ?_)
  specialize h r2 er2
  refine lv_if_ne (tgt := 11) hx hb dX9_heaps_6 (by decide) (fun c3 => ?_) (fun c3 => ?_)
  · obtain ⟨-, h⟩ := h
    specialize h c3
    refine lv_aload_n hx hb dX9_heaps_11 rfl (lv_at hl 0 rfl) ?_
    refine va_get (D := G) (ci := 8) (v := .int kn) (C := RX9) (T := TX9) (N := 10) hx hb hts iwX9 hown hK.1 hP 0 rfl rfl 0 (by decide) fl7 (fun _ h9 => h9) rfl dX9_heaps_12 ?_
    refine lv_bipush (v := 6) hx hb dX9_heaps_15 (by decide) ?_
    refine lv_icmp_le (tgt := 23) hx hb dX9_heaps_17 (by decide) (fun c4 => ?_) (fun c4 => ?_)
    · obtain ⟨h, -⟩ := h
      specialize h c4
      refine lv_aload_n hx hb dX9_heaps_23 rfl (lv_at hl 0 rfl) ?_
      obtain ⟨Q5, hw9, h⟩ := h
      have hPc : va_P G vwCl [(m0, .inr (8, [.int kn, .ref mJ, .int kFe, .int kMo, .int kCo, .long kT, .ref mF, .ref mD, .ref mS, .ref mP])), (mJ, .inl (cy 0, 9, .inl jJ)), (mS, .inl (cy 0, 4096, .inl jS)), (mP, .inl (cy 0, 4096, .inl jP))] H := hP.sub [0, 1, 2, 3] rfl
      have hDc : va_D A [(m0, .inr (8, [.int kn, .ref mJ, .int kFe, .int kMo, .int kCo, .long kT, .ref mF, .ref mD, .ref mS, .ref mP])), (mJ, .inl (cy 0, 9, .inl jJ)), (mS, .inl (cy 0, 4096, .inl jS)), (mP, .inl (cy 0, 4096, .inl jP))] := hD.sub [0, 1, 2, 3] (by decide) rfl
      have hFc := va_free (wc := [(m0, .inr (8, [.int kn, .ref mJ, .int kFe, .int kMo, .int kCo, .long kT, .ref mF, .ref mD, .ref mS, .ref mP])), (mJ, .inl (cy 0, 9, .inl jJ)), (mS, .inl (cy 0, 4096, .inl jS)), (mP, .inl (cy 0, 4096, .inl jP))]) hD hS hA [0, 1, 2, 3] rfl
      refine va_callv (va_runV (As := []) (rest := []) ⟨hx, hb, hml, hown, hts⟩ (ct_X9_bleach l G cy m0 mJ mS mP mF mD H.size kn kFe kMo kCo kT jJ jS jP Q5 hw9) (cwV 0 hts gX9_heaps_X9_bleach rfl rfl rfl (by decide +kernel) ⟨Nat.le_of_ble_eq_true rfl, Nat.le_of_ble_eq_true rfl⟩) (wP_V hK hP (ci := 8) (q0 := 0) rfl rfl hPc hDc) rfl rfl hl.1 rfl (lv_room (Nat.le_of_ble_eq_true rfl)) dX9_heaps_24 ⟨Nat.le_of_ble_eq_true rfl, Nat.le_of_ble_eq_true rfl⟩) hS (fun q9 _ h9 => hFc q9 h9) hFc (fun u9 t9 H locs ht9 hvm9 hw9 hB9 hz9 hk9 hS => ?_)
      obtain ⟨f7, rfl⟩ : ∃ z9, z9 = u9 := ⟨_, rfl⟩
      have hP : va_P G vwCl [(m0, .inr (8, [.int kn, .ref mJ, .int kFe, .int kMo, .int kCo, .long kT, .ref mF, .ref mD, .ref mS, .ref mP])), (mJ, .inl (cy 0, 9, .inl jJ)), (mS, .inl (cy 0, 4096, .inl f7)), (mP, .inl (cy 0, 4096, .inl jP))] H := P_back [0, 1, 2, 3] [] 4 hP hD rfl rfl rfl rfl (by decide) (by decide) hk9 (by rw [← ht9]; exact hB9)
      have hD : va_D A [(m0, .inr (8, [.int kn, .ref mJ, .int kFe, .int kMo, .int kCo, .long kT, .ref mF, .ref mD, .ref mS, .ref mP])), (mJ, .inl (cy 0, 9, .inl jJ)), (mS, .inl (cy 0, 4096, .inl f7)), (mP, .inl (cy 0, 4096, .inl jP))] := D_same hD rfl
      specialize h f7 hw9
      refine lv_iconst (v := 0) hx hb dX9_heaps_27 (by decide) ?_
      refine lv_istore_n (lv' := [(2, .int 0), (0, .ref m0), (1, .int p1)]) hx hb dX9_heaps_28 rfl hl (by decide) rfl (fun ls hl => ?_)
      refine lv_iconst (v := 0) hx hb dX9_heaps_29 (by decide) ?_
      refine lv_istore_n (lv' := [(3, .int 0), (2, .int 0), (0, .ref m0), (1, .int p1)]) hx hb dX9_heaps_30 rfl hl (by decide) rfl (fun ls hl => ?_)
      refine lv_iconst (v := 0) hx hb dX9_heaps_31 (by decide) ?_
      refine lv_istore (lv' := [(4, .int 0), (3, .int 0), (2, .int 0), (0, .ref m0), (1, .int p1)]) hx hb dX9_heaps_32 hl (by decide) rfl (fun ls hl => ?_)
      refine lv_iconst (v := 0) hx hb dX9_heaps_34 (by decide) ?_
      refine lv_istore (lv' := [(5, .int 0), (4, .int 0), (3, .int 0), (2, .int 0), (0, .ref m0), (1, .int p1)]) hx hb dX9_heaps_35 hl (by decide) rfl (fun ls hl => ?_)
      obtain ⟨I37_13, u37_13, h037, hst37⟩ := h
      have key37 : ∀ (k9 : Nat) (y8 : Int32) (y9 : Int32) (y10 : Int32) (y11 : Int32) (f12 : Nat → Int32) (f13 : Nat → Int32), I37_13 y8 y9 y10 y11 f12 f13 → u37_13 y8 y9 y10 y11 f12 f13 < k9 → ∀ (H : Heap) (locs : List Loc), va_P G vwCl [(m0, .inr (8, [.int kn, .ref mJ, .int kFe, .int kMo, .int kCo, .long kT, .ref mF, .ref mD, .ref mS, .ref mP])), (mJ, .inl (cy 0, 9, .inl jJ)), (mS, .inl (cy 0, 4096, .inl f12)), (mP, .inl (cy 0, 4096, .inl f13))] H → va_D A [(m0, .inr (8, [.int kn, .ref mJ, .int kFe, .int kMo, .int kCo, .long kT, .ref mF, .ref mD, .ref mS, .ref mP])), (mJ, .inl (cy 0, 9, .inl jJ)), (mS, .inl (cy 0, 4096, .inl f12)), (mP, .inl (cy 0, 4096, .inl f13))] → va_S A s.heap H locs → ∀ (ls : Array Slot), lv_has ls 7 [(0, .ref m0), (1, .int p1), (2, .int y8), (3, .int y9), (4, .int y10), (5, .int y11)] → W p l e (headSpec wsX9_heaps rmX9_heaps).room s m args below meth c H locs 0 0 QM (F0 m 37 ls []) := by
        intro k9
        induction k9 with
        | zero =>
          intro y8 y9 y10 y11 f12 f13 hI9 hk9
          exact absurd hk9 (Nat.not_lt_zero _)
        | succ k9 ih37 =>
          intro y8 y9 y10 y11 f12 f13 hI9 hk37 H locs hP hD hS ls hl
          have h := hst37 y8 y9 y10 y11 f12 f13 hI9
          refine lv_iload hx hb dX9_heaps_37 (lv_at hl 5 rfl) ?_
          refine lv_aload_n hx hb dX9_heaps_39 rfl (lv_at hl 0 rfl) ?_
          obtain ⟨Q14, hw9, h⟩ := h
          have hPc : va_P G vwCl [(m0, .inr (8, [.int kn, .ref mJ, .int kFe, .int kMo, .int kCo, .long kT, .ref mF, .ref mD, .ref mS, .ref mP])), (mJ, .inl (cy 0, 9, .inl jJ))] H := hP.sub [0, 1] rfl
          refine vp_callSi (va_Run.run (va_runV (As := []) (rest := [.int y11]) ⟨hx, hb, hml, hown, hts⟩ (ct_X9_all l G cy m0 mJ mF mD mS mP kn kFe kMo kCo kT jJ Q14 hw9) (cwV 0 hts gX9_heaps_X9_all rfl rfl rfl (by decide +kernel) ⟨Nat.le_of_ble_eq_true rfl, Nat.le_of_ble_eq_true rfl⟩) (rP_V hK hP (ci := 8) (q0 := 0) rfl rfl hPc) rfl rfl hl.1 rfl (lv_room (Nat.le_of_ble_eq_true rfl)) dX9_heaps_40 ⟨Nat.le_of_ble_eq_true rfl, Nat.le_of_ble_eq_true rfl⟩)) (fun r15 er15 => ?_)
          specialize h r15 er15
          refine lv_icmp_ge (tgt := 103) hx hb dX9_heaps_43 (by decide) (fun c16 => ?_) (fun c16 => ?_)
          · obtain ⟨h, -⟩ := h
            specialize h c16
            refine lv_iload_n hx hb dX9_heaps_103 rfl (lv_at hl 1 rfl) ?_
            refine lv_if_ne (tgt := 112) hx hb dX9_heaps_104 (by decide) (fun c17 => ?_) (fun c17 => ?_)
            · obtain ⟨-, h⟩ := h
              specialize h c17
              refine lv_iload_n hx hb dX9_heaps_112 rfl (lv_at hl 1 rfl) ?_
              refine lv_iconst (v := 1) hx hb dX9_heaps_113 (by decide) ?_
              refine lv_icmp_ne (tgt := 121) hx hb dX9_heaps_114 (by decide) (fun c18 => ?_) (fun c18 => ?_)
              · obtain ⟨-, h⟩ := h
                specialize h c18
                refine lv_iload_n hx hb dX9_heaps_121 rfl (lv_at hl 2 rfl) ?_
                rw [← hQe]
                exact W.iret (v := y8) hx hb hr (fun t ht hW => ⟨⟨y8, (f12, f13), rfl, h, by dsimp only; rw [ht]; exact hP⟩, hS.F ht⟩) hS.2.2 dX9_heaps_122
              · obtain ⟨h, -⟩ := h
                specialize h c18
                refine lv_iload_n hx hb dX9_heaps_117 rfl (lv_at hl 3 rfl) ?_
                refine lv_goto (tgt := 122) hx hb dX9_heaps_118 (by decide) ?_
                rw [← hQe]
                exact W.iret (v := y9) hx hb hr (fun t ht hW => ⟨⟨y9, (f12, f13), rfl, h, by dsimp only; rw [ht]; exact hP⟩, hS.F ht⟩) hS.2.2 dX9_heaps_122
            · obtain ⟨h, -⟩ := h
              specialize h c17
              refine lv_iload hx hb dX9_heaps_107 (lv_at hl 4 rfl) ?_
              refine lv_goto (tgt := 122) hx hb dX9_heaps_109 (by decide) ?_
              rw [← hQe]
              exact W.iret (v := y10) hx hb hr (fun t ht hW => ⟨⟨y10, (f12, f13), rfl, h, by dsimp only; rw [ht]; exact hP⟩, hS.F ht⟩) hS.2.2 dX9_heaps_122
          · obtain ⟨-, h⟩ := h
            specialize h c16
            refine lv_aload_n hx hb dX9_heaps_46 rfl (lv_at hl 0 rfl) ?_
            refine va_get (D := G) (ci := 8) (v := .ref mS) (C := RX9) (T := TX9) (N := 10) hx hb hts iwX9 hown hK.1 hP 0 rfl rfl 8 (by decide) fl30 (fun _ h9 => h9) rfl dX9_heaps_47 ?_
            refine lv_iload hx hb dX9_heaps_50 (lv_at hl 5 rfl) ?_
            obtain ⟨hi, h⟩ := h
            refine va_iald hx hb hK.1 hP 2 0 rfl rfl hi dX9_heaps_52 ?_
            refine lv_if_ge (tgt := 97) hx hb dX9_heaps_53 (by decide) (fun c19 => ?_) (fun c19 => ?_)
            · obtain ⟨h, -⟩ := h
              specialize h c19
              obtain ⟨x20, ex20⟩ : ∃ y : Int32, y = y11 + 1 := ⟨_, rfl⟩
              specialize h x20 ex20
              refine lv_iinc (v := x20) (lv' := [(5, .int x20), (0, .ref m0), (1, .int p1), (2, .int y8), (3, .int y9), (4, .int y10)]) hx hb dX9_heaps_97 hl (k := 5) rfl (by rw [ex20]; rfl) (by decide) rfl (fun ls hl => ?_)
              refine lv_goto (tgt := 37) hx hb dX9_heaps_100 (by decide) ?_
              exact ih37 y8 y9 y10 x20 f12 f13 h.1 (Nat.lt_of_lt_of_le h.2 (Nat.le_of_lt_succ hk37)) _ _ hP hD hS _ (lv_sub hl [1, 2, 3, 4, 5, 0] rfl)
            · obtain ⟨-, h⟩ := h
              specialize h c19
              refine lv_aload_n hx hb dX9_heaps_56 rfl (lv_at hl 0 rfl) ?_
              refine lv_iload hx hb dX9_heaps_57 (lv_at hl 5 rfl) ?_
              obtain ⟨Q21, hw9, h⟩ := h
              have hPc : va_P G vwCl [(m0, .inr (8, [.int kn, .ref mJ, .int kFe, .int kMo, .int kCo, .long kT, .ref mF, .ref mD, .ref mS, .ref mP])), (mJ, .inl (cy 0, 9, .inl jJ))] H := hP.sub [0, 1] rfl
              refine vp_callSi (va_Run.run (va_runV (As := [.int y11]) (rest := []) ⟨hx, hb, hml, hown, hts⟩ (ct_X9_isProper l G cy m0 mJ mF mD mS mP kn kFe kMo kCo kT jJ y11 Q21 hw9) (cwV 1 hts gX9_heaps_X9_isProper rfl rfl rfl (by decide +kernel) ⟨Nat.le_of_ble_eq_true rfl, Nat.le_of_ble_eq_true rfl⟩) (rP_V hK hP (ci := 8) (q0 := 0) rfl rfl hPc) rfl rfl hl.1 rfl (lv_room (Nat.le_of_ble_eq_true rfl)) dX9_heaps_59 ⟨Nat.le_of_ble_eq_true rfl, Nat.le_of_ble_eq_true rfl⟩)) (fun r22 er22 => ?_)
              specialize h r22 er22
              refine lv_if_eq (tgt := 97) hx hb dX9_heaps_62 (by decide) (fun c23 => ?_) (fun c23 => ?_)
              · obtain ⟨h, -⟩ := h
                specialize h c23
                obtain ⟨x24, ex24⟩ : ∃ y : Int32, y = y11 + 1 := ⟨_, rfl⟩
                specialize h x24 ex24
                refine lv_iinc (v := x24) (lv' := [(5, .int x24), (0, .ref m0), (1, .int p1), (2, .int y8), (3, .int y9), (4, .int y10)]) hx hb dX9_heaps_97 hl (k := 5) rfl (by rw [ex24]; rfl) (by decide) rfl (fun ls hl => ?_)
                refine lv_goto (tgt := 37) hx hb dX9_heaps_100 (by decide) ?_
                exact ih37 y8 y9 y10 x24 f12 f13 h.1 (Nat.lt_of_lt_of_le h.2 (Nat.le_of_lt_succ hk37)) _ _ hP hD hS _ (lv_sub hl [1, 2, 3, 4, 5, 0] rfl)
              · obtain ⟨-, h⟩ := h
                specialize h c23
                refine lv_aload_n hx hb dX9_heaps_65 rfl (lv_at hl 0 rfl) ?_
                refine lv_iload hx hb dX9_heaps_66 (lv_at hl 5 rfl) ?_
                obtain ⟨Q25, hw9, h⟩ := h
                have hPc : va_P G vwCl [(m0, .inr (8, [.int kn, .ref mJ, .int kFe, .int kMo, .int kCo, .long kT, .ref mF, .ref mD, .ref mS, .ref mP])), (mJ, .inl (cy 0, 9, .inl jJ)), (mS, .inl (cy 0, 4096, .inl f12)), (mP, .inl (cy 0, 4096, .inl f13))] H := hP.sub [0, 1, 2, 3] rfl
                have hDc : va_D A [(m0, .inr (8, [.int kn, .ref mJ, .int kFe, .int kMo, .int kCo, .long kT, .ref mF, .ref mD, .ref mS, .ref mP])), (mJ, .inl (cy 0, 9, .inl jJ)), (mS, .inl (cy 0, 4096, .inl f12)), (mP, .inl (cy 0, 4096, .inl f13))] := hD.sub [0, 1, 2, 3] (by decide) rfl
                have hFc := va_free (wc := [(m0, .inr (8, [.int kn, .ref mJ, .int kFe, .int kMo, .int kCo, .long kT, .ref mF, .ref mD, .ref mS, .ref mP])), (mJ, .inl (cy 0, 9, .inl jJ)), (mS, .inl (cy 0, 4096, .inl f12)), (mP, .inl (cy 0, 4096, .inl f13))]) hD hS hA [0, 1, 2, 3] rfl
                refine va_calli (va_runV (As := [.int y11]) (rest := []) ⟨hx, hb, hml, hown, hts⟩ (ct_X9_spread l G cy m0 mJ mS mP mF mD H.size kn kFe kMo kCo kT jJ f12 f13 y11 Q25 hw9) (cwV 1 hts gX9_heaps_X9_spread rfl rfl rfl (by decide +kernel) ⟨Nat.le_of_ble_eq_true rfl, Nat.le_of_ble_eq_true rfl⟩) (wP_V hK hP (ci := 8) (q0 := 0) rfl rfl hPc hDc) rfl rfl hl.1 rfl (lv_room (Nat.le_of_ble_eq_true rfl)) dX9_heaps_68 ⟨Nat.le_of_ble_eq_true rfl, Nat.le_of_ble_eq_true rfl⟩) hS (fun q9 _ h9 => hFc q9 h9) hFc (fun r26 u9 t9 H locs ht9 hvm9 hw9 hB9 hz9 hk9 hS => ?_)
                obtain ⟨f27, f28⟩ := u9
                have hP : va_P G vwCl [(m0, .inr (8, [.int kn, .ref mJ, .int kFe, .int kMo, .int kCo, .long kT, .ref mF, .ref mD, .ref mS, .ref mP])), (mJ, .inl (cy 0, 9, .inl jJ)), (mS, .inl (cy 0, 4096, .inl f27)), (mP, .inl (cy 0, 4096, .inl f28))] H := P_back [0, 1, 2, 3] [] 4 hP hD rfl rfl rfl rfl (by decide) (by decide) hk9 (by rw [← ht9]; exact hB9)
                have hD : va_D A [(m0, .inr (8, [.int kn, .ref mJ, .int kFe, .int kMo, .int kCo, .long kT, .ref mF, .ref mD, .ref mS, .ref mP])), (mJ, .inl (cy 0, 9, .inl jJ)), (mS, .inl (cy 0, 4096, .inl f27)), (mP, .inl (cy 0, 4096, .inl f28))] := D_same hD rfl
                specialize h r26 f27 f28 hw9
                refine lv_istore (lv' := [(6, .int r26), (0, .ref m0), (1, .int p1), (2, .int y8), (3, .int y9), (4, .int y10), (5, .int y11)]) hx hb dX9_heaps_71 hl (by decide) rfl (fun ls hl => ?_)
                obtain ⟨x29, ex29⟩ : ∃ y : Int32, y = y8 + 1 := ⟨_, rfl⟩
                specialize h x29 ex29
                refine lv_iinc (v := x29) (lv' := [(2, .int x29), (6, .int r26), (0, .ref m0), (1, .int p1), (3, .int y9), (4, .int y10), (5, .int y11)]) hx hb dX9_heaps_73 hl (k := 3) rfl (by rw [ex29]; rfl) (by decide) rfl (fun ls hl => ?_)
                refine lv_iload_n hx hb dX9_heaps_76 rfl (lv_at hl 4 rfl) ?_
                refine lv_iload hx hb dX9_heaps_77 (lv_at hl 1 rfl) ?_
                refine lv_iconst (v := 1) hx hb dX9_heaps_79 (by decide) ?_
                refine lv_icmp_ne (tgt := 87) hx hb dX9_heaps_80 (by decide) (fun c30 => ?_) (fun c30 => ?_)
                · obtain ⟨-, h⟩ := h
                  specialize h c30
                  refine lv_iconst (v := 0) hx hb dX9_heaps_87 (by decide) ?_
                  refine lv_iadd hx hb dX9_heaps_88 ?_
                  refine lv_topi (fun x31 ex31 => ?_)
                  specialize h x31 ex31
                  refine lv_istore_n (lv' := [(3, .int x31), (2, .int x29), (6, .int r26), (0, .ref m0), (1, .int p1), (4, .int y10), (5, .int y11)]) hx hb dX9_heaps_89 rfl hl (by decide) rfl (fun ls hl => ?_)
                  refine lv_iload hx hb dX9_heaps_90 (lv_at hl 5 rfl) ?_
                  refine lv_iload hx hb dX9_heaps_92 (lv_at hl 2 rfl) ?_
                  refine lv_iadd hx hb dX9_heaps_94 ?_
                  refine lv_topi (fun x32 ex32 => ?_)
                  specialize h x32 ex32
                  refine lv_istore (lv' := [(4, .int x32), (3, .int x31), (2, .int x29), (6, .int r26), (0, .ref m0), (1, .int p1), (5, .int y11)]) hx hb dX9_heaps_95 hl (by decide) rfl (fun ls hl => ?_)
                  obtain ⟨x33, ex33⟩ : ∃ y : Int32, y = y11 + 1 := ⟨_, rfl⟩
                  specialize h x33 ex33
                  refine lv_iinc (v := x33) (lv' := [(5, .int x33), (4, .int x32), (3, .int x31), (2, .int x29), (6, .int r26), (0, .ref m0), (1, .int p1)]) hx hb dX9_heaps_97 hl (k := 6) rfl (by rw [ex33]; rfl) (by decide) rfl (fun ls hl => ?_)
                  refine lv_goto (tgt := 37) hx hb dX9_heaps_100 (by decide) ?_
                  exact ih37 x29 x31 x32 x33 f27 f28 h.1 (Nat.lt_of_lt_of_le h.2 (Nat.le_of_lt_succ hk37)) _ _ hP hD hS _ (lv_sub hl [5, 6, 3, 2, 1, 0] rfl)
                · obtain ⟨h, -⟩ := h
                  specialize h c30
                  refine lv_iconst (v := 1) hx hb dX9_heaps_83 (by decide) ?_
                  refine lv_goto (tgt := 88) hx hb dX9_heaps_84 (by decide) ?_
                  refine lv_iadd hx hb dX9_heaps_88 ?_
                  refine lv_topi (fun x34 ex34 => ?_)
                  specialize h x34 ex34
                  refine lv_istore_n (lv' := [(3, .int x34), (2, .int x29), (6, .int r26), (0, .ref m0), (1, .int p1), (4, .int y10), (5, .int y11)]) hx hb dX9_heaps_89 rfl hl (by decide) rfl (fun ls hl => ?_)
                  refine lv_iload hx hb dX9_heaps_90 (lv_at hl 5 rfl) ?_
                  refine lv_iload hx hb dX9_heaps_92 (lv_at hl 2 rfl) ?_
                  refine lv_iadd hx hb dX9_heaps_94 ?_
                  refine lv_topi (fun x35 ex35 => ?_)
                  specialize h x35 ex35
                  refine lv_istore (lv' := [(4, .int x35), (3, .int x34), (2, .int x29), (6, .int r26), (0, .ref m0), (1, .int p1), (5, .int y11)]) hx hb dX9_heaps_95 hl (by decide) rfl (fun ls hl => ?_)
                  obtain ⟨x36, ex36⟩ : ∃ y : Int32, y = y11 + 1 := ⟨_, rfl⟩
                  specialize h x36 ex36
                  refine lv_iinc (v := x36) (lv' := [(5, .int x36), (4, .int x35), (3, .int x34), (2, .int x29), (6, .int r26), (0, .ref m0), (1, .int p1)]) hx hb dX9_heaps_97 hl (k := 6) rfl (by rw [ex36]; rfl) (by decide) rfl (fun ls hl => ?_)
                  refine lv_goto (tgt := 37) hx hb dX9_heaps_100 (by decide) ?_
                  exact ih37 x29 x34 x35 x36 f27 f28 h.1 (Nat.lt_of_lt_of_le h.2 (Nat.le_of_lt_succ hk37)) _ _ hP hD hS _ (lv_sub hl [5, 6, 3, 2, 1, 0] rfl)
      exact key37 _ 0 0 0 0 f7 jP h037 (Nat.lt_succ_self _) _ _ hP hD hS _ (lv_sub hl [4, 5, 3, 2, 1, 0] rfl)
    · obtain ⟨-, h⟩ := h
      specialize h c4
      refine lv_bipush (v := (-2)) hx hb dX9_heaps_20 (by decide) ?_
      rw [← hQe]
      exact W.iret (v := (-2)) hx hb hr (fun t ht hW => ⟨⟨(-2), (jS, jP), rfl, h, by dsimp only; rw [ht]; exact hP⟩, hS.F ht⟩) hS.2.2 dX9_heaps_22
  · obtain ⟨h, -⟩ := h
    specialize h c3
    refine lv_iconst (v := (-1)) hx hb dX9_heaps_9 (by decide) ?_
    rw [← hQe]
    exact W.iret (v := (-1)) hx hb hr (fun t ht hW => ⟨⟨(-1), (jS, jP), rfl, h, by dsimp only; rw [ht]; exact hP⟩, hS.F ht⟩) hS.2.2 dX9_heaps_10
