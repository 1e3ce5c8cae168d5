/-! THE BASE: one shape of contract for methods that only read, one for those that write; calls and their frame in one row each -/
abbrev TY (cy : Nat → ClassId) : List (ClassId × FieldType) := [(cy 0, .int), (cy 1, .boolean), (cy 2, .object RX6)]
abbrev nWi : Cond := .methodLinkNest RX2 37 yX8_isWithin "SlidTokens"
abbrev nWg : Cond := .declares ⟨"SlidTokens$Search", "gather", "(I)V"⟩
/-- what the tables say, at any state of the run -/
def KK (G : va_G) (cy : Nat → ClassId) (U : State) : Prop := va_K G vwCl (TY cy) U ∧ va_Nw nWi U ∧ va_Nw nWg U
theorem KK.warm {G : va_G} {cy : Nat → ClassId} {s U : State} (hW : s.WarmedH U.vm) (h : KK G cy s) : KK G cy U := ⟨va_K.moved hW.alike h.1, va_Nw.warmM hW h.2.1, va_Nw.warmD hW h.2.2⟩
theorem KK.call {G : va_G} {cy : Nat → ClassId} {U : State} (g : JFrame) (mk : MethodId) (a : Array Value) (h : KK G cy U) : KK G cy (U.calling g mk a) := ⟨va_K.moved (u := U) (U := U.calling g mk a) (Vm.Alike.refl U.vm) h.1, va_Nw.same rfl rfl h.2.1, va_Nw.same rfl rfl h.2.2⟩
/-- the start of a method that only reads the cells ws -/
def rP (G : va_G) (cy : Nat → ClassId) (ws : va_W) (U : State) : Prop := va_P G vwCl ws U.heap ∧ KK G cy U
/-- the start of a method that writes the cells ws -/
def wP (G : va_G) (cy : Nat → ClassId) (sz : Nat) (ws : va_W) (U : State) : Prop := U.heap.size = sz ∧ va_P G vwCl ws U.heap ∧ KK G cy U ∧ va_D (fun _ => True) ws
theorem rP_bl {G : va_G} {cy : Nat → ClassId} {ws : va_W} {av : List Value} : FrameBlind (va_Pc av (rP G cy ws)) := fun a U g mk q => ⟨q.1, q.2.1, KK.call g mk a q.2.2⟩
theorem wP_bl {G : va_G} {cy : Nat → ClassId} {ws : va_W} {sz : Nat} {av : List Value} : FrameBlind (va_Pc av (wP G cy sz ws)) := fun a U g mk q => ⟨q.1, q.2.1, q.2.2.1, KK.call g mk a q.2.2.2.1, q.2.2.2.2⟩
theorem rP_V {G : va_G} {cy : Nat → ClassId} {ws wr : va_W} {s : State} {H : Heap} {b ci q0 : Nat} {q : vw_C} {fs As : List Value} (hK : KK G cy s) (hR : va_P G vwCl wr H) (hc : vwCl[ci]? = some q) (he : wr[q0]? = some (b, .inr (ci, fs))) (hP : va_P G vwCl ws H) : PreV s H q.1 b (va_Pc (.ref b :: As) (rP G cy ws)) As :=
  ⟨rP_bl, va_recv hK.1 hR hc he, fun U hU hW => ⟨rfl, by rw [hU]; exact hP, KK.warm hW hK⟩⟩
theorem rP_S {G : va_G} {cy : Nat → ClassId} {ws : va_W} {s : State} {H : Heap} {As : List Value} (hK : KK G cy s) (hP : va_P G vwCl ws H) : PreS s H (va_Pc As (rP G cy ws)) As :=
  ⟨rP_bl, fun U hU hW => ⟨rfl, by rw [hU]; exact hP, KK.warm hW hK⟩⟩
theorem wP_V {G : va_G} {cy : Nat → ClassId} {ws wr : va_W} {A : Nat → Prop} {s : State} {H : Heap} {b ci q0 : Nat} {q : vw_C} {fs As : List Value} (hK : KK G cy s) (hR : va_P G vwCl wr H) (hc : vwCl[ci]? = some q) (he : wr[q0]? = some (b, .inr (ci, fs))) (hP : va_P G vwCl ws H) (hD : va_D A ws) : PreV s H q.1 b (va_Pc (.ref b :: As) (wP G cy H.size ws)) As :=
  ⟨wP_bl, va_recv hK.1 hR hc he, fun U hU hW => ⟨rfl, by rw [hU], by rw [hU]; exact hP, KK.warm hW hK, hD.weaken (fun _ _ _ _ => trivial)⟩⟩
theorem wP_S {G : va_G} {cy : Nat → ClassId} {ws : va_W} {A : Nat → Prop} {s : State} {H : Heap} {As : List Value} (hK : KK G cy s) (hP : va_P G vwCl ws H) (hD : va_D A ws) : PreS s H (va_Pc As (wP G cy H.size ws)) As :=
  ⟨wP_bl, fun U hU hW => ⟨rfl, by rw [hU], by rw [hU]; exact hP, KK.warm hW hK, hD.weaken (fun _ _ _ _ => trivial)⟩⟩
theorem P_nil {G : va_G} {H : Heap} : va_P G vwCl [] H := fun k q h => by simp at h
theorem D_same {A : Nat → Prop} {ws ws' : va_W} (hD : va_D A ws) (h : ws'.map (fun x => x.1) = ws.map (fun x => x.1)) : va_D A ws' := by
  have at' : ∀ (k : Nat) (q : Nat × va_E), ws'[k]? = some q → ∃ e, ws[k]? = some (q.1, e) := by
    intro k q hq
    have h1 : (ws'.map (fun x => x.1))[k]? = some q.1 := by rw [List.getElem?_map, hq]; rfl
    rw [h, List.getElem?_map] at h1
    cases h2 : ws[k]? with
    | none => rw [h2] at h1; cases h1
    | some z =>
      rw [h2] at h1
      obtain ⟨z1, z2⟩ := z
      cases h1
      exact ⟨z2, rfl⟩
  refine ⟨fun i j p q hp hq e => ?_, fun k q hk => ?_⟩
  · obtain ⟨e1, h1⟩ := at' i p hp
    obtain ⟨e2, h2⟩ := at' j q hq
    exact hD.1 i j (p.1, e1) (q.1, e2) h1 h2 e
  · obtain ⟨e1, h1⟩ := at' k q hk
    exact hD.2 k (q.1, e1) h1
/-- behind a call that wrote the cells wc (now w1): the caller's own list, in its order -/
theorem P_back {A0 : Nat → Prop} {G : va_G} {ws wc ws' w1 : va_W} {H H1 : Heap} (isC isR : List Nat) (n : Nat) (hP : va_P G vwCl ws H) (hD : va_D A0 ws)
    (hC : isC.map (fun i => ws[i]?) = wc.map some) (hC' : isC.map (fun i => ws'[i]?) = w1.map some) (hR : isR.map (fun i => ws'[i]?) = isR.map (fun i => ws[i]?))
    (hn : ws'.length = n) (hcov : ∀ i, i < n → i ∈ isC ∨ i ∈ isR) (hdis : ∀ i ∈ isR, i ∉ isC)
    (hk : ∀ q : Nat, q < H.size → ¬ va_A wc H.size q → H1[q]? = H[q]?) (hP1 : va_P G vwCl w1 H1) : va_P G vwCl ws' H1 := by
  intro k q hq
  have hlt : k < n := by rw [← hn]; exact (List.getElem?_eq_some_iff.mp hq).1
  rcases hcov k hlt with hc | hc
  · obtain ⟨j, hj⟩ := List.getElem?_of_mem hc
    have h1 : (isC.map (fun i => ws'[i]?))[j]? = some (some q) := by rw [List.getElem?_map, hj]; exact congrArg some hq
    rw [hC', List.getElem?_map] at h1
    cases h2 : w1[j]? with
    | none => rw [h2] at h1; cases h1
    | some z =>
      rw [h2] at h1
      cases h1
      exact hP1 j q h2
  · obtain ⟨j, hj⟩ := List.getElem?_of_mem hc
    have h1 : (isR.map (fun i => ws'[i]?))[j]? = some (some q) := by rw [List.getElem?_map, hj]; exact congrArg some hq
    rw [hR, List.getElem?_map, hj] at h1
    have h2 : ws[k]? = some q := Option.some.inj h1
    refine (hP k q h2).kept (hk q.1 (hP k q h2).lt ?_)
    intro h
    rcases h with ⟨k2, e, h⟩ | h
    · have h3 : (isC.map (fun i => ws[i]?))[k2]? = some (some (q.1, e)) := by rw [hC, List.getElem?_map, h]; rfl
      rw [List.getElem?_map] at h3
      cases h4 : isC[k2]? with
      | none => rw [h4] at h3; cases h3
      | some i =>
        rw [h4] at h3
        have h5 : ws[i]? = some (q.1, e) := Option.some.inj h3
        have h6 : k = i := hD.1 k i q (q.1, e) h2 h5 rfl
        subst h6
        exact hdis k hc (List.mem_of_getElem? h4)
    · have h7 := (hP k q h2).lt
      omega
theorem vp_b1 : vp_nar .boolean 1 = 1 := by decide
theorem vp_b0 : vp_nar .boolean 0 = 0 := by decide
theorem nar_b {r : Int32} (h : r = 0 ∨ r = 1) : narrow .boolean (.int r) = .int r := by
  rcases h with rfl | rfl <;> rfl
/-- the three weighers -/
def wgh (a b c : Nat) : Nat → Option Nat := fun k => if k = 0 then some a else if k = 1 then some b else some c
theorem in3 {x : Int32} (h : vp_in x 3) : x = 0 ∨ x = 1 ∨ x = 2 := by
  obtain ⟨j, hj, rfl⟩ := vp_in_of h (by decide)
  have h3 : j = 0 ∨ j = 1 ∨ j = 2 := by omega
  rcases h3 with rfl | rfl | rfl
  · exact Or.inl rfl
  · exact Or.inr (Or.inl rfl)
  · exact Or.inr (Or.inr rfl)
