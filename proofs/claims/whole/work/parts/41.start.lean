/-! THE LAW FROM ITS ENTRY -/
theorem inL {w : Cond} {ws : List Cond} (h : w ∈ ws) (hi : ∀ w ∈ ws, w ∈ wsL_law) : w ∈ wsLE := List.mem_append_left _ (hi w h)
theorem iL_X0 : ∀ w ∈ wsX00, w ∈ wsLE := fun w h => by
  refine List.mem_append_left _ ?_
  unfold wsL_law
  repeat (first | exact List.mem_append_right _ h | apply List.mem_append_left)
theorem iL_X1 : ∀ w ∈ wsX10, w ∈ wsLE := fun w h => by
  refine List.mem_append_left _ ?_
  unfold wsL_law
  repeat (first | exact List.mem_append_right _ h | apply List.mem_append_left)
theorem iL_X2 : ∀ w ∈ wsX20, w ∈ wsLE := fun w h => by
  refine List.mem_append_left _ ?_
  unfold wsL_law
  repeat (first | exact List.mem_append_right _ h | apply List.mem_append_left)
theorem iL_X3 : ∀ w ∈ wsX30, w ∈ wsLE := fun w h => by
  refine List.mem_append_left _ ?_
  unfold wsL_law
  repeat (first | exact List.mem_append_right _ h | apply List.mem_append_left)
theorem iL_X4 : ∀ w ∈ wsX40, w ∈ wsLE := fun w h => by
  refine List.mem_append_left _ ?_
  unfold wsL_law
  repeat (first | exact List.mem_append_right _ h | apply List.mem_append_left)
theorem iL_X6 : ∀ w ∈ wsX60, w ∈ wsLE := fun w h => by
  refine List.mem_append_left _ ?_
  unfold wsL_law
  repeat (first | exact List.mem_append_right _ h | apply List.mem_append_left)
theorem iL_X7 : ∀ w ∈ wsX70, w ∈ wsLE := fun w h => by
  refine List.mem_append_left _ ?_
  unfold wsL_law
  repeat (first | exact List.mem_append_right _ h | apply List.mem_append_left)
theorem iL_X8 : ∀ w ∈ wsX80, w ∈ wsLE := fun w h => by
  refine List.mem_append_left _ ?_
  unfold wsL_law
  repeat (first | exact List.mem_append_right _ h | apply List.mem_append_left)
theorem iL_X9 : ∀ w ∈ wsX90, w ∈ wsLE := fun w h => by
  refine List.mem_append_left _ ?_
  unfold wsL_law
  repeat (first | exact List.mem_append_right _ h | apply List.mem_append_left)
theorem P_set {G : va_G} {ws : va_W} {H : Heap} (hP : va_P G vwCl ws H) (i : Nat) (x : Nat × va_E) (hx : va_at G vwCl x H) : va_P G vwCl (ws.set i x) H := by
  intro k q hq
  by_cases c : i = k
  · subst c
    rw [List.getElem?_set_self'] at hq
    cases h2 : ws[i]? with
    | none => rw [h2] at hq; cases hq
    | some z =>
      rw [h2] at hq
      cases hq
      exact hx
  · rw [List.getElem?_set_ne c] at hq
    exact hP k q hq
theorem up_wgh {cA : ClassId} (a b c : Nat) : vp_cell cA (3, .inr (.inr (.inr (.inr (va_up (va_up (va_up (fun _ => none) (0 : Int32).toNatClampNeg (some a)) (1 : Int32).toNatClampNeg (some b)) (2 : Int32).toNatClampNeg (some c)))))) = vp_cell cA (3, .inr (.inr (.inr (.inr (wgh a b c))))) := by
  have h0 : (0 : Int32).toNatClampNeg = 0 := by decide
  have h1 : (1 : Int32).toNatClampNeg = 1 := by decide
  have h2 : (2 : Int32).toNatClampNeg = 2 := by decide
  rw [h0, h1, h2, vp_cell_q, vp_cell_q]
  refine congrArg (fun h : Fin 3 → Value => ({ cls := cA, slots := Array.ofFn (n := 3) h, vm := .none } : Cell)) (a₁ := fun j => va_rf (va_up (va_up (va_up (fun _ => none) 0 (some a)) 1 (some b)) 2 (some c) j.val)) (a₂ := fun j => va_rf (wgh a b c j.val)) (funext (fun j => ?_))
  match j with
  | ⟨0, _⟩ => simp [va_up, wgh]
  | ⟨1, _⟩ => simp [va_up, wgh]
  | ⟨2, _⟩ => simp [va_up, wgh]
set_option maxHeartbeats 8000000 in
set_option maxRecDepth 100000 in
/-- THE LAW, from its entry -/
theorem whole_start {p : Program} {e : Env} {s : State} {m : MethodId} {below : List Frame} {meth : Method} {c : Code} (l : Launch) {b L : Nat} {xs : Nat → Int32} (hL : L ≤ 3072) (C0 : lw_At p s m meth c b L xs) : W p l e room_1 s m #[Value.ref b] below meth c s.heap [] 0 0 (lw_Z below #[Value.ref b] s) (entryFrame m ([Value.ref b] : List Value).toArray 4) := by
  obtain ⟨hx, hb, hr, hml, hown, hts0, hX, hbl, hlocks, hgv⟩ := id C0
  have hts : ∀ w ∈ wsLE, w.before #[Value.ref b] s = true := fun w hw => hts0 w (wsLE_in w hw)
  have hA : ∀ q : Nat, s.heap.size ≤ q → (fun q : Nat => s.heap.size ≤ q) q := fun _ h => h
  obtain ⟨c0, iS0, hKn0⟩ := u_known (C := RX0) (T := TX0) (N := 0) (n := 0) hts iL_X0 (hts0 (.instantiable RX0 0) (by decide +kernel))
  obtain ⟨c1, iS1, hKn1⟩ := u_known (C := RX1) (T := TX1) (N := 0) (n := 0) hts iL_X1 (hts0 (.instantiable RX1 0) (by decide +kernel))
  obtain ⟨c2, iS2, hKn2⟩ := u_known (C := RX2) (T := TX2) (N := 9) (n := 9) hts iL_X2 (hts0 (.instantiable RX2 9) (by decide +kernel))
  obtain ⟨c3, iS3, hKn3⟩ := u_known (C := RX3) (T := TX3) (N := 2) (n := 2) hts iL_X3 (hts0 (.instantiable RX3 2) (by decide +kernel))
  obtain ⟨c4, iS4, hKn4⟩ := u_known (C := RX4) (T := TX4) (N := 9) (n := 9) hts iL_X4 (hts0 (.instantiable RX4 9) (by decide +kernel))
  obtain ⟨c5, iS5, hKn5⟩ := u_known (C := RX6) (T := TX6) (N := 0) (n := 0) hts iL_X6 (hts0 (.instantiable RX6 0) (by decide +kernel))
  obtain ⟨c6, iS6, hKn6⟩ := u_known (C := RX7) (T := TX7) (N := 1) (n := 1) hts iL_X7 (hts0 (.instantiable RX7 1) (by decide +kernel))
  obtain ⟨c7, iS7, hKn7⟩ := u_known (C := RX8) (T := TX8) (N := 8) (n := 8) hts iL_X8 (hts0 (.instantiable RX8 8) (by decide +kernel))
  obtain ⟨c8, iS8, hKn8⟩ := u_known (C := RX9) (T := TX9) (N := 10) (n := 10) hts iL_X9 (hts0 (.instantiable RX9 10) (by decide +kernel))
  obtain ⟨G, hKc⟩ : ∃ G : va_G, ∀ (k : Nat) (q : vw_C), vwCl[k]? = some q → u_Kn s q.1 q.2.1 q.2.2 (G.1 k) (G.2 k) := by
    refine ⟨(fun k => if k = 0 then c0 else if k = 1 then c1 else if k = 2 then c2 else if k = 3 then c3 else if k = 4 then c4 else if k = 5 then c5 else if k = 6 then c6 else if k = 7 then c7 else c8, fun k => if k = 0 then iS0 else if k = 1 then iS1 else if k = 2 then iS2 else if k = 3 then iS3 else if k = 4 then iS4 else if k = 5 then iS5 else if k = 6 then iS6 else if k = 7 then iS7 else iS8), ?_⟩
    intro k q hq
    match k, hq with
    | 0, hq => cases hq; exact hKn0
    | 1, hq => cases hq; exact hKn1
    | 2, hq => cases hq; exact hKn2
    | 3, hq => cases hq; exact hKn3
    | 4, hq => cases hq; exact hKn4
    | 5, hq => cases hq; exact hKn5
    | 6, hq => cases hq; exact hKn6
    | 7, hq => cases hq; exact hKn7
    | 8, hq => cases hq; exact hKn8
    | k + 9, hq => simp [vwCl] at hq
  obtain ⟨cI, kI, oI, hI1, hI2, hI3⟩ := Cond.arrayClass_spec (hts0 (.arrayClass .int) (by decide +kernel))
  obtain ⟨cB, kB, oB, hB1, hB2, hB3⟩ := Cond.arrayClass_spec (hts0 (.arrayClass .boolean) (by decide +kernel))
  have hAO := hts0 (.arrayOver (.object RX6)) (by decide +kernel)
  obtain ⟨oO, cO, kO, hO1, -, hO2, hO3, hO4⟩ := Cond.arrayOver_spec hAO
  obtain ⟨cy, ey0, ey1, ey2⟩ : ∃ cy : Nat → ClassId, cy 0 = cI ∧ cy 1 = cB ∧ cy 2 = cO := ⟨fun k => if k = 0 then cI else if k = 1 then cB else cO, rfl, rfl, rfl⟩
  subst ey0; subst ey1; subst ey2
  have hK0 : va_K G vwCl (TY cy) s := by
    refine ⟨hKc, fun k q hq => ?_⟩
    match k, hq with
    | 0, hq => cases hq; exact ⟨fun n z => ⟨fun k h => (by cases h), kI, hI2, oI, hI3⟩, hI1⟩
    | 1, hq => cases hq; exact ⟨fun n z => ⟨fun k h => (by cases h), kB, hB2, oB, hB3⟩, hB1⟩
    | 2, hq => cases hq; exact ⟨fun n z => ⟨fun k h => (by cases h), kO, hO2, oO, hO3⟩, kO, oO, hO2, hO3, hO1, hO4⟩
    | k + 3, hq => simp at hq
  have hKK : KK G cy s := ⟨hK0, va_Nw.of rfl (hts0 nWi (by decide +kernel)), va_Nw.of rfl (hts0 nWg (by decide +kernel))⟩
  have hKX : KX G cy s := ⟨hKK, va_AO.of hAO, va_Nw.of rfl (hts0 (.methodLinkNest RX8 9 yX3_init "SlidTokens") (by decide +kernel)), va_Nw.of rfl (hts0 (.methodLinkNest RX8 34 yX6_init "SlidTokens") (by decide +kernel)), va_Nw.of rfl (hts0 (.methodLinkNest RX8 37 yX1_init "SlidTokens") (by decide +kernel)), va_Nw.of rfl (hts0 (.methodLinkNest RX1 3 yX6_init "SlidTokens") (by decide +kernel)), va_Nw.of rfl (hts0 (.methodLinkNest RX8 40 yX0_init "SlidTokens") (by decide +kernel)), va_Nw.of rfl (hts0 (.methodLinkNest RX0 3 yX1_init "SlidTokens") (by decide +kernel)), va_Nw.of rfl (hts0 (.methodLinkNest RX8 47 yX7_init "SlidTokens") (by decide +kernel)), va_Nw.of rfl (hts0 (.castable RX1 RX6) (by decide +kernel)), va_Nw.of rfl (hts0 (.castable RX0 RX6) (by decide +kernel))⟩
  have hS : va_S (fun q : Nat => s.heap.size ≤ q) s.heap s.heap [] := va_S.rf
  have hP : va_P G vwCl [] s.heap := P_nil
  have hD : va_D (fun q : Nat => s.heap.size ≤ q) [] := D_nil
  have hl := lv_entry ([.ref b]) (n := 4) (Nat.le_of_ble_eq_true rfl)
  rw [lg_entry_eq]
  generalize (lg_sl ([.ref b]) ++ List.replicate (4 - (lg_sl ([.ref b])).length) Slot.unset).toArray = ls at hl ⊢
  have hl : lv_has ls 4 [(0, .ref b)] := hl
  refine va_new (ci := 7) (fs := [.null, .null, .null, .null, .null, .int 0, .int 0, .int 0]) (C := RX8) (T := TX8) (N := 8) hx hb hts iL_X8 tyX8 tyX8_ok hown (hts0 (.classLink RL 7 RX8) (by decide +kernel)) (hts0 (.instantiable RX8 8) (by decide +kernel)) (hts0 (.initialized RX8) (by decide +kernel)) hK0 hP hD hS hA rfl (fun j hj => by rcases (show j = 0 ∨ j = 1 ∨ j = 2 ∨ j = 3 ∨ j = 4 ∨ j = 5 ∨ j = 6 ∨ j = 7 by omega) with rfl | rfl | rfl | rfl | rfl | rfl | rfl | rfl <;> rfl) (Nat.le_of_ble_eq_true rfl) (Nat.le_of_ble_eq_true rfl) dL_law_0 (fun a0 H hP hD hS => ?_)
  have hP : va_P G vwCl [(a0, .inr (7, [.null, .null, .null, .null, .null, .int 0, .int 0, .int 0]))] H := hP
  have hD : va_D (fun q : Nat => s.heap.size ≤ q) [(a0, .inr (7, [.null, .null, .null, .null, .null, .int 0, .int 0, .int 0]))] := hD
  refine lv_dup hx hb dL_law_3 rfl ?_
  have hFc := va_free (wc := [(a0, .inr (7, [.null, .null, .null, .null, .null, .int 0, .int 0, .int 0]))]) hD hS hA [0] rfl
  refine va_callv (va_runI (As := []) (rest := [.ref a0]) ⟨hx, hb, hml, hown, hts⟩ (ct_X8_init l G cy a0 H.size) (cwI 0 hts (good_big wsEx gL_law_X8_init) rfl rfl rfl (hts0 (.initialized RX8) (by decide +kernel)) (hts0 (.methodLink RL 9 yX8_init) (by decide +kernel)) (hts0 (.instanceMethod yX8_init) (by decide +kernel)) rfl (by decide +kernel) ⟨(Nat.le_of_ble_eq_true rfl), (Nat.le_of_ble_eq_true rfl)⟩) (wX_S hKX hP hD) rfl rfl hl.1 rfl (lv_room (Nat.le_of_ble_eq_true rfl)) dL_law_4 ⟨(Nat.le_of_ble_eq_true rfl), (Nat.le_of_ble_eq_true rfl)⟩) hS (fun q9 _ h9 => hFc q9 h9) hFc (fun u9 t9 H locs ht9 hvm9 hw9 hB9 hz9 hk9 hS => ?_)
  obtain ⟨n0, n1, n2, n3, n4, n5, n6, n7, n8, n9, n10, n11, n12, n13, n14, n15, n16⟩ := u9
  obtain ⟨hP, hD⟩ := va_join (wr := []) (w1 := [(a0, .inr (7, [.ref n0, .ref n2, .ref n7, .ref n12, .ref n16, .int 0, .int 9, .int 3])), (n0, .inr (3, [.ref n1, .int 5])), (n1, .inl (cy 0, 9, .inl (fun _ => 0))), (n2, .inr (2, [.ref n3, .ref n4, .ref n5, .ref n6, .int 0, .int 0, .int 0, .ref n0, .int 0])), (n3, .inl (cy 0, 512, .inl (fun _ => 0))), (n4, .inl (cy 0, 512, .inl (fun _ => 0))), (n5, .inl (cy 0, 81, .inl (fun _ => 0))), (n6, .inl (cy 0, 81, .inl (fun _ => 0))), (n7, .inr (4, [.ref n8, .ref n9, .ref n10, .ref n11, .int 0, .int 0, .int 0, .ref n0, .int 3])), (n8, .inl (cy 0, 4096, .inl (fun _ => 0))), (n9, .inl (cy 0, 4096, .inl (fun _ => 0))), (n10, .inl (cy 0, 24, .inl (fun _ => 0))), (n11, .inl (cy 0, 24, .inl (fun _ => 0))), (n12, .inl (cy 2, 3, .inr (.inr (.inr (.inr (va_up (va_up (va_up (fun _ => none) (0 : Int32).toNatClampNeg (some n13)) (1 : Int32).toNatClampNeg (some n14)) (2 : Int32).toNatClampNeg (some n15))))))), (n13, .inr (5, [])), (n14, .inr (1, [])), (n15, .inr (0, [])), (n16, .inr (6, [.long 0]))]) hP hD [0] [] rfl rfl (by decide) (by decide) hk9 hFc (by rw [← ht9]; exact hB9.1) hB9.2
  have hP : va_P G vwCl [(a0, .inr (7, [.ref n0, .ref n2, .ref n7, .ref n12, .ref n16, .int 0, .int 9, .int 3])), (n0, .inr (3, [.ref n1, .int 5])), (n1, .inl (cy 0, 9, .inl (fun _ => 0))), (n2, .inr (2, [.ref n3, .ref n4, .ref n5, .ref n6, .int 0, .int 0, .int 0, .ref n0, .int 0])), (n3, .inl (cy 0, 512, .inl (fun _ => 0))), (n4, .inl (cy 0, 512, .inl (fun _ => 0))), (n5, .inl (cy 0, 81, .inl (fun _ => 0))), (n6, .inl (cy 0, 81, .inl (fun _ => 0))), (n7, .inr (4, [.ref n8, .ref n9, .ref n10, .ref n11, .int 0, .int 0, .int 0, .ref n0, .int 3])), (n8, .inl (cy 0, 4096, .inl (fun _ => 0))), (n9, .inl (cy 0, 4096, .inl (fun _ => 0))), (n10, .inl (cy 0, 24, .inl (fun _ => 0))), (n11, .inl (cy 0, 24, .inl (fun _ => 0))), (n12, .inl (cy 2, 3, .inr (.inr (.inr (.inr (va_up (va_up (va_up (fun _ => none) (0 : Int32).toNatClampNeg (some n13)) (1 : Int32).toNatClampNeg (some n14)) (2 : Int32).toNatClampNeg (some n15))))))), (n13, .inr (5, [])), (n14, .inr (1, [])), (n15, .inr (0, [])), (n16, .inr (6, [.long 0]))] H := hP
  have hD : va_D (fun q : Nat => s.heap.size ≤ q) [(a0, .inr (7, [.ref n0, .ref n2, .ref n7, .ref n12, .ref n16, .int 0, .int 9, .int 3])), (n0, .inr (3, [.ref n1, .int 5])), (n1, .inl (cy 0, 9, .inl (fun _ => 0))), (n2, .inr (2, [.ref n3, .ref n4, .ref n5, .ref n6, .int 0, .int 0, .int 0, .ref n0, .int 0])), (n3, .inl (cy 0, 512, .inl (fun _ => 0))), (n4, .inl (cy 0, 512, .inl (fun _ => 0))), (n5, .inl (cy 0, 81, .inl (fun _ => 0))), (n6, .inl (cy 0, 81, .inl (fun _ => 0))), (n7, .inr (4, [.ref n8, .ref n9, .ref n10, .ref n11, .int 0, .int 0, .int 0, .ref n0, .int 3])), (n8, .inl (cy 0, 4096, .inl (fun _ => 0))), (n9, .inl (cy 0, 4096, .inl (fun _ => 0))), (n10, .inl (cy 0, 24, .inl (fun _ => 0))), (n11, .inl (cy 0, 24, .inl (fun _ => 0))), (n12, .inl (cy 2, 3, .inr (.inr (.inr (.inr (va_up (va_up (va_up (fun _ => none) (0 : Int32).toNatClampNeg (some n13)) (1 : Int32).toNatClampNeg (some n14)) (2 : Int32).toNatClampNeg (some n15))))))), (n13, .inr (5, [])), (n14, .inr (1, [])), (n15, .inr (0, [])), (n16, .inr (6, [.long 0]))] := hD
  refine lv_astore_n (lv' := [(1, .ref a0), (0, .ref b)]) hx hb dL_law_7 rfl hl (by decide) rfl (fun ls hl => ?_)
  refine va_new (ci := 8) (fs := [.int 0, .null, .int 0, .int 0, .int 0, .long 0, .null, .null, .null, .null]) (C := RX9) (T := TX9) (N := 10) hx hb hts iL_X9 tyX9 tyX9_ok hown (hts0 (.classLink RL 10 RX9) (by decide +kernel)) (hts0 (.instantiable RX9 10) (by decide +kernel)) (hts0 (.initialized RX9) (by decide +kernel)) hK0 hP hD hS hA rfl (fun j hj => by rcases (show j = 0 ∨ j = 1 ∨ j = 2 ∨ j = 3 ∨ j = 4 ∨ j = 5 ∨ j = 6 ∨ j = 7 ∨ j = 8 ∨ j = 9 by omega) with rfl | rfl | rfl | rfl | rfl | rfl | rfl | rfl | rfl | rfl <;> rfl) (Nat.le_of_ble_eq_true rfl) (Nat.le_of_ble_eq_true rfl) dL_law_8 (fun m0 H hP hD hS => ?_)
  have hP : va_P G vwCl [(a0, .inr (7, [.ref n0, .ref n2, .ref n7, .ref n12, .ref n16, .int 0, .int 9, .int 3])), (n0, .inr (3, [.ref n1, .int 5])), (n1, .inl (cy 0, 9, .inl (fun _ => 0))), (n2, .inr (2, [.ref n3, .ref n4, .ref n5, .ref n6, .int 0, .int 0, .int 0, .ref n0, .int 0])), (n3, .inl (cy 0, 512, .inl (fun _ => 0))), (n4, .inl (cy 0, 512, .inl (fun _ => 0))), (n5, .inl (cy 0, 81, .inl (fun _ => 0))), (n6, .inl (cy 0, 81, .inl (fun _ => 0))), (n7, .inr (4, [.ref n8, .ref n9, .ref n10, .ref n11, .int 0, .int 0, .int 0, .ref n0, .int 3])), (n8, .inl (cy 0, 4096, .inl (fun _ => 0))), (n9, .inl (cy 0, 4096, .inl (fun _ => 0))), (n10, .inl (cy 0, 24, .inl (fun _ => 0))), (n11, .inl (cy 0, 24, .inl (fun _ => 0))), (n12, .inl (cy 2, 3, .inr (.inr (.inr (.inr (va_up (va_up (va_up (fun _ => none) (0 : Int32).toNatClampNeg (some n13)) (1 : Int32).toNatClampNeg (some n14)) (2 : Int32).toNatClampNeg (some n15))))))), (n13, .inr (5, [])), (n14, .inr (1, [])), (n15, .inr (0, [])), (n16, .inr (6, [.long 0])), (m0, .inr (8, [.int 0, .null, .int 0, .int 0, .int 0, .long 0, .null, .null, .null, .null]))] H := hP
  have hD : va_D (fun q : Nat => s.heap.size ≤ q) [(a0, .inr (7, [.ref n0, .ref n2, .ref n7, .ref n12, .ref n16, .int 0, .int 9, .int 3])), (n0, .inr (3, [.ref n1, .int 5])), (n1, .inl (cy 0, 9, .inl (fun _ => 0))), (n2, .inr (2, [.ref n3, .ref n4, .ref n5, .ref n6, .int 0, .int 0, .int 0, .ref n0, .int 0])), (n3, .inl (cy 0, 512, .inl (fun _ => 0))), (n4, .inl (cy 0, 512, .inl (fun _ => 0))), (n5, .inl (cy 0, 81, .inl (fun _ => 0))), (n6, .inl (cy 0, 81, .inl (fun _ => 0))), (n7, .inr (4, [.ref n8, .ref n9, .ref n10, .ref n11, .int 0, .int 0, .int 0, .ref n0, .int 3])), (n8, .inl (cy 0, 4096, .inl (fun _ => 0))), (n9, .inl (cy 0, 4096, .inl (fun _ => 0))), (n10, .inl (cy 0, 24, .inl (fun _ => 0))), (n11, .inl (cy 0, 24, .inl (fun _ => 0))), (n12, .inl (cy 2, 3, .inr (.inr (.inr (.inr (va_up (va_up (va_up (fun _ => none) (0 : Int32).toNatClampNeg (some n13)) (1 : Int32).toNatClampNeg (some n14)) (2 : Int32).toNatClampNeg (some n15))))))), (n13, .inr (5, [])), (n14, .inr (1, [])), (n15, .inr (0, [])), (n16, .inr (6, [.long 0])), (m0, .inr (8, [.int 0, .null, .int 0, .int 0, .int 0, .long 0, .null, .null, .null, .null]))] := hD
  refine lv_dup hx hb dL_law_11 rfl ?_
  have hPc : va_P G vwCl [(m0, .inr (8, [.int 0, .null, .int 0, .int 0, .int 0, .long 0, .null, .null, .null, .null]))] H := hP.sub [18] rfl
  have hDc : va_D (fun q : Nat => s.heap.size ≤ q) [(m0, .inr (8, [.int 0, .null, .int 0, .int 0, .int 0, .long 0, .null, .null, .null, .null]))] := hD.sub [18] (by decide) rfl
  have hFc := va_free (wc := [(m0, .inr (8, [.int 0, .null, .int 0, .int 0, .int 0, .long 0, .null, .null, .null, .null]))]) hD hS hA [18] rfl
  refine va_callv (va_runI (As := []) (rest := [.ref m0]) ⟨hx, hb, hml, hown, hts⟩ (ct_X9_init l G cy m0 H.size) (cwI 0 hts (good_big wsEx gL_law_X9_init) rfl rfl rfl (hts0 (.initialized RX9) (by decide +kernel)) (hts0 (.methodLink RL 12 yX9_init) (by decide +kernel)) (hts0 (.instanceMethod yX9_init) (by decide +kernel)) rfl (by decide +kernel) ⟨(Nat.le_of_ble_eq_true rfl), (Nat.le_of_ble_eq_true rfl)⟩) (wX_S hKX hPc hDc) rfl rfl hl.1 rfl (lv_room (Nat.le_of_ble_eq_true rfl)) dL_law_12 ⟨(Nat.le_of_ble_eq_true rfl), (Nat.le_of_ble_eq_true rfl)⟩) hS (fun q9 _ h9 => hFc q9 h9) hFc (fun u9 t9 H locs ht9 hvm9 hw9 hB9 hz9 hk9 hS => ?_)
  obtain ⟨u0, u1, u2, u3, u4⟩ := u9
  obtain ⟨hP, hD⟩ := va_join (wr := [(a0, .inr (7, [.ref n0, .ref n2, .ref n7, .ref n12, .ref n16, .int 0, .int 9, .int 3])), (n0, .inr (3, [.ref n1, .int 5])), (n1, .inl (cy 0, 9, .inl (fun _ => 0))), (n2, .inr (2, [.ref n3, .ref n4, .ref n5, .ref n6, .int 0, .int 0, .int 0, .ref n0, .int 0])), (n3, .inl (cy 0, 512, .inl (fun _ => 0))), (n4, .inl (cy 0, 512, .inl (fun _ => 0))), (n5, .inl (cy 0, 81, .inl (fun _ => 0))), (n6, .inl (cy 0, 81, .inl (fun _ => 0))), (n7, .inr (4, [.ref n8, .ref n9, .ref n10, .ref n11, .int 0, .int 0, .int 0, .ref n0, .int 3])), (n8, .inl (cy 0, 4096, .inl (fun _ => 0))), (n9, .inl (cy 0, 4096, .inl (fun _ => 0))), (n10, .inl (cy 0, 24, .inl (fun _ => 0))), (n11, .inl (cy 0, 24, .inl (fun _ => 0))), (n12, .inl (cy 2, 3, .inr (.inr (.inr (.inr (va_up (va_up (va_up (fun _ => none) (0 : Int32).toNatClampNeg (some n13)) (1 : Int32).toNatClampNeg (some n14)) (2 : Int32).toNatClampNeg (some n15))))))), (n13, .inr (5, [])), (n14, .inr (1, [])), (n15, .inr (0, [])), (n16, .inr (6, [.long 0]))]) (w1 := [(m0, .inr (8, [.int 5, .ref u0, .int 0, .int 9, .int 3, .long 0, .ref u1, .ref u2, .ref u3, .ref u4])), (u0, .inl (cy 0, 9, .inl (fun _ => 0))), (u1, .inl (cy 0, 512, .inl (fun _ => 0))), (u2, .inl (cy 1, 512, .inl (fun _ => 0))), (u3, .inl (cy 0, 4096, .inl (fun _ => 0))), (u4, .inl (cy 0, 4096, .inl (fun _ => 0)))]) hP hD [18] [0, 1, 2, 3, 4, 5, 6, 7, 8, 9, 10, 11, 12, 13, 14, 15, 16, 17] rfl rfl (by decide) (by decide) hk9 hFc (by rw [← ht9]; exact hB9.1) hB9.2
  have hP : va_P G vwCl [(a0, .inr (7, [.ref n0, .ref n2, .ref n7, .ref n12, .ref n16, .int 0, .int 9, .int 3])), (n0, .inr (3, [.ref n1, .int 5])), (n1, .inl (cy 0, 9, .inl (fun _ => 0))), (n2, .inr (2, [.ref n3, .ref n4, .ref n5, .ref n6, .int 0, .int 0, .int 0, .ref n0, .int 0])), (n3, .inl (cy 0, 512, .inl (fun _ => 0))), (n4, .inl (cy 0, 512, .inl (fun _ => 0))), (n5, .inl (cy 0, 81, .inl (fun _ => 0))), (n6, .inl (cy 0, 81, .inl (fun _ => 0))), (n7, .inr (4, [.ref n8, .ref n9, .ref n10, .ref n11, .int 0, .int 0, .int 0, .ref n0, .int 3])), (n8, .inl (cy 0, 4096, .inl (fun _ => 0))), (n9, .inl (cy 0, 4096, .inl (fun _ => 0))), (n10, .inl (cy 0, 24, .inl (fun _ => 0))), (n11, .inl (cy 0, 24, .inl (fun _ => 0))), (n12, .inl (cy 2, 3, .inr (.inr (.inr (.inr (va_up (va_up (va_up (fun _ => none) (0 : Int32).toNatClampNeg (some n13)) (1 : Int32).toNatClampNeg (some n14)) (2 : Int32).toNatClampNeg (some n15))))))), (n13, .inr (5, [])), (n14, .inr (1, [])), (n15, .inr (0, [])), (n16, .inr (6, [.long 0])), (m0, .inr (8, [.int 5, .ref u0, .int 0, .int 9, .int 3, .long 0, .ref u1, .ref u2, .ref u3, .ref u4])), (u0, .inl (cy 0, 9, .inl (fun _ => 0))), (u1, .inl (cy 0, 512, .inl (fun _ => 0))), (u2, .inl (cy 1, 512, .inl (fun _ => 0))), (u3, .inl (cy 0, 4096, .inl (fun _ => 0))), (u4, .inl (cy 0, 4096, .inl (fun _ => 0)))] H := hP
  have hD : va_D (fun q : Nat => s.heap.size ≤ q) [(a0, .inr (7, [.ref n0, .ref n2, .ref n7, .ref n12, .ref n16, .int 0, .int 9, .int 3])), (n0, .inr (3, [.ref n1, .int 5])), (n1, .inl (cy 0, 9, .inl (fun _ => 0))), (n2, .inr (2, [.ref n3, .ref n4, .ref n5, .ref n6, .int 0, .int 0, .int 0, .ref n0, .int 0])), (n3, .inl (cy 0, 512, .inl (fun _ => 0))), (n4, .inl (cy 0, 512, .inl (fun _ => 0))), (n5, .inl (cy 0, 81, .inl (fun _ => 0))), (n6, .inl (cy 0, 81, .inl (fun _ => 0))), (n7, .inr (4, [.ref n8, .ref n9, .ref n10, .ref n11, .int 0, .int 0, .int 0, .ref n0, .int 3])), (n8, .inl (cy 0, 4096, .inl (fun _ => 0))), (n9, .inl (cy 0, 4096, .inl (fun _ => 0))), (n10, .inl (cy 0, 24, .inl (fun _ => 0))), (n11, .inl (cy 0, 24, .inl (fun _ => 0))), (n12, .inl (cy 2, 3, .inr (.inr (.inr (.inr (va_up (va_up (va_up (fun _ => none) (0 : Int32).toNatClampNeg (some n13)) (1 : Int32).toNatClampNeg (some n14)) (2 : Int32).toNatClampNeg (some n15))))))), (n13, .inr (5, [])), (n14, .inr (1, [])), (n15, .inr (0, [])), (n16, .inr (6, [.long 0])), (m0, .inr (8, [.int 5, .ref u0, .int 0, .int 9, .int 3, .long 0, .ref u1, .ref u2, .ref u3, .ref u4])), (u0, .inl (cy 0, 9, .inl (fun _ => 0))), (u1, .inl (cy 0, 512, .inl (fun _ => 0))), (u2, .inl (cy 1, 512, .inl (fun _ => 0))), (u3, .inl (cy 0, 4096, .inl (fun _ => 0))), (u4, .inl (cy 0, 4096, .inl (fun _ => 0)))] := hD
  refine lv_astore_n (lv' := [(2, .ref m0), (1, .ref a0), (0, .ref b)]) hx hb dL_law_15 rfl hl (by decide) rfl (fun ls hl => ?_)
  refine lv_iconst (v := 0) hx hb dL_law_16 (by decide) ?_
  refine lv_istore_n (lv' := [(3, .int 0), (2, .ref m0), (1, .ref a0), (0, .ref b)]) hx hb dL_law_17 rfl hl (by decide) rfl (fun ls hl => ?_)
  have hW : va_at G vwCl (n12, .inl (cy 2, 3, .inr (.inr (.inr (.inr (va_up (va_up (va_up (fun _ => none) (0 : Int32).toNatClampNeg (some n13)) (1 : Int32).toNatClampNeg (some n14)) (2 : Int32).toNatClampNeg (some n15))))))) H := hP 13 _ rfl
  have hW2 : va_at G vwCl (n12, .inl (cy 2, 3, .inr (.inr (.inr (.inr (wgh n13 n14 n15)))))) H := by
    have h9 : H[n12]? = some (vp_cell (cy 2) (3, .inr (.inr (.inr (.inr (va_up (va_up (va_up (fun _ => none) (0 : Int32).toNatClampNeg (some n13)) (1 : Int32).toNatClampNeg (some n14)) (2 : Int32).toNatClampNeg (some n15))))))) := hW
    rw [up_wgh] at h9
    exact h9
  have hP : va_P G vwCl [(a0, .inr (7, [.ref n0, .ref n2, .ref n7, .ref n12, .ref n16, .int 0, .int 9, .int 3])), (n0, .inr (3, [.ref n1, .int 5])), (n1, .inl (cy 0, 9, .inl (fun _ => 0))), (n2, .inr (2, [.ref n3, .ref n4, .ref n5, .ref n6, .int 0, .int 0, .int 0, .ref n0, .int 0])), (n3, .inl (cy 0, 512, .inl (fun _ => 0))), (n4, .inl (cy 0, 512, .inl (fun _ => 0))), (n5, .inl (cy 0, 81, .inl (fun _ => 0))), (n6, .inl (cy 0, 81, .inl (fun _ => 0))), (n7, .inr (4, [.ref n8, .ref n9, .ref n10, .ref n11, .int 0, .int 0, .int 0, .ref n0, .int 3])), (n8, .inl (cy 0, 4096, .inl (fun _ => 0))), (n9, .inl (cy 0, 4096, .inl (fun _ => 0))), (n10, .inl (cy 0, 24, .inl (fun _ => 0))), (n11, .inl (cy 0, 24, .inl (fun _ => 0))), (n12, .inl (cy 2, 3, .inr (.inr (.inr (.inr (wgh n13 n14 n15)))))), (n13, .inr (5, [])), (n14, .inr (1, [])), (n15, .inr (0, [])), (n16, .inr (6, [.long 0])), (m0, .inr (8, [.int 5, .ref u0, .int 0, .int 9, .int 3, .long 0, .ref u1, .ref u2, .ref u3, .ref u4])), (u0, .inl (cy 0, 9, .inl (fun _ => 0))), (u1, .inl (cy 0, 512, .inl (fun _ => 0))), (u2, .inl (cy 1, 512, .inl (fun _ => 0))), (u3, .inl (cy 0, 4096, .inl (fun _ => 0))), (u4, .inl (cy 0, 4096, .inl (fun _ => 0)))] H := P_set hP 13 _ hW2
  have hD : va_D (fun q : Nat => s.heap.size ≤ q) [(a0, .inr (7, [.ref n0, .ref n2, .ref n7, .ref n12, .ref n16, .int 0, .int 9, .int 3])), (n0, .inr (3, [.ref n1, .int 5])), (n1, .inl (cy 0, 9, .inl (fun _ => 0))), (n2, .inr (2, [.ref n3, .ref n4, .ref n5, .ref n6, .int 0, .int 0, .int 0, .ref n0, .int 0])), (n3, .inl (cy 0, 512, .inl (fun _ => 0))), (n4, .inl (cy 0, 512, .inl (fun _ => 0))), (n5, .inl (cy 0, 81, .inl (fun _ => 0))), (n6, .inl (cy 0, 81, .inl (fun _ => 0))), (n7, .inr (4, [.ref n8, .ref n9, .ref n10, .ref n11, .int 0, .int 0, .int 0, .ref n0, .int 3])), (n8, .inl (cy 0, 4096, .inl (fun _ => 0))), (n9, .inl (cy 0, 4096, .inl (fun _ => 0))), (n10, .inl (cy 0, 24, .inl (fun _ => 0))), (n11, .inl (cy 0, 24, .inl (fun _ => 0))), (n12, .inl (cy 2, 3, .inr (.inr (.inr (.inr (wgh n13 n14 n15)))))), (n13, .inr (5, [])), (n14, .inr (1, [])), (n15, .inr (0, [])), (n16, .inr (6, [.long 0])), (m0, .inr (8, [.int 5, .ref u0, .int 0, .int 9, .int 3, .long 0, .ref u1, .ref u2, .ref u3, .ref u4])), (u0, .inl (cy 0, 9, .inl (fun _ => 0))), (u1, .inl (cy 0, 512, .inl (fun _ => 0))), (u2, .inl (cy 1, 512, .inl (fun _ => 0))), (u3, .inl (cy 0, 4096, .inl (fun _ => 0))), (u4, .inl (cy 0, 4096, .inl (fun _ => 0)))] := D_same hD rfl
  have hP : va_P G vwCl (wAll cy a0 n2 n3 n4 n5 n6 n7 n8 n9 n10 n11 n0 n1 n12 n13 n14 n15 n16 m0 u0 u1 u2 u3 u4 0 9 3 0 0 0 0 (fun _ => 0) (fun _ => 0) (fun _ => 0) (fun _ => 0) 0 0 0 3 (fun _ => 0) (fun _ => 0) (fun _ => 0) (fun _ => 0) 5 (fun _ => 0) 0 5 0 9 3 0 (fun _ => 0) (fun _ => 0) (fun _ => 0) (fun _ => 0) (fun _ => 0)) H := hP.sub [0, 3, 4, 5, 6, 7, 8, 9, 10, 11, 12, 1, 2, 13, 14, 15, 16, 17, 18, 19, 20, 21, 22, 23] rfl
  have hD : va_D (fun q : Nat => s.heap.size ≤ q) (wAll cy a0 n2 n3 n4 n5 n6 n7 n8 n9 n10 n11 n0 n1 n12 n13 n14 n15 n16 m0 u0 u1 u2 u3 u4 0 9 3 0 0 0 0 (fun _ => 0) (fun _ => 0) (fun _ => 0) (fun _ => 0) 0 0 0 3 (fun _ => 0) (fun _ => 0) (fun _ => 0) (fun _ => 0) 5 (fun _ => 0) 0 5 0 9 3 0 (fun _ => 0) (fun _ => 0) (fun _ => 0) (fun _ => 0) (fun _ => 0)) := hD.sub [0, 3, 4, 5, 6, 7, 8, 9, 10, 11, 12, 1, 2, 13, 14, 15, 16, 17, 18, 19, 20, 21, 22, 23] (by decide) rfl
  have hlaw : wp_law L xs 0 9 3 0 0 0 0 (fun _ => 0) (fun _ => 0) (fun _ => 0) (fun _ => 0) 0 0 0 3 (fun _ => 0) (fun _ => 0) (fun _ => 0) (fun _ => 0) 5 (fun _ => 0) 0 5 0 9 3 0 (fun _ => 0) (fun _ => 0) (fun _ => 0) (fun _ => 0) (fun _ => 0) := law_ok hL xs (n := 5) (lo := 0) (hi := 9) (c := 3) (nr := fun _ => 0) 0 ⟨by decide, by decide, fun a b q => by rw [Nat.zero_testBit] at q; cases q⟩ (fun _ _ => rfl) (fun _ _ => rfl) (by decide) (by decide) (by decide) 0 0 0 0 0 0 0 3 (fun _ => 0) (fun _ => 0) (fun _ => 0) (fun _ => 0) (fun _ => 0) (fun _ => 0) (fun _ => 0) (fun _ => 0) (fun _ => 0) (fun _ => 0) (fun _ => 0) (fun _ => 0)
  exact ct_law C0 G cy a0 n2 n3 n4 n5 n6 n7 n8 n9 n10 n11 n0 n1 n12 n13 n14 n15 n16 m0 u0 u1 u2 u3 u4 0 9 3 0 0 0 0 (fun _ => 0) (fun _ => 0) (fun _ => 0) (fun _ => 0) 0 0 0 3 (fun _ => 0) (fun _ => 0) (fun _ => 0) (fun _ => 0) 5 (fun _ => 0) 0 5 0 9 3 0 (fun _ => 0) (fun _ => 0) (fun _ => 0) (fun _ => 0) (fun _ => 0) hlaw hKK H locs hP hD hS ls (lv_sub hl [3, 2, 1, 0] rfl)
