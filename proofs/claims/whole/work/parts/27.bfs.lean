/-! A SEARCH IN BREADTH over rows far (F) and line (Ln) -/
theorem holes : ∀ (m n : Nat) (f : Nat → Nat), (∀ i, i < n → f i < m) → (∀ i j, i < j → j < n → f i ≠ f j) → n ≤ m := by
  intro m
  induction m with
  | zero =>
    intro n f h _
    cases n with
    | zero => exact Nat.le_refl 0
    | succ n => exact absurd (h 0 (by omega)) (by omega)
  | succ m ih =>
    intro n f h hd
    by_cases hex : ∃ i, i < n ∧ f i = m
    · obtain ⟨i, hi, e⟩ := hex
      -- leave i out
      have h1 := ih (n - 1) (fun k => if k < i then f k else f (k + 1)) (fun k hk => by
        by_cases c : k < i
        · simp only [if_pos c]
          have a1 := h k (by omega)
          have a2 := hd k i c hi
          omega
        · simp only [if_neg c]
          have a1 := h (k + 1) (by omega)
          have a2 := hd i (k + 1) (by omega) (by omega)
          omega) (fun a b hab hb => by
        by_cases c : b < i
        · simp only [if_pos c, if_pos (show a < i by omega)]
          exact hd a b hab (by omega)
        · by_cases c2 : a < i
          · simp only [if_neg c, if_pos c2]
            exact hd a (b + 1) (by omega) (by omega)
          · simp only [if_neg c, if_neg c2]
            exact hd (a + 1) (b + 1) (by omega) (by omega))
      omega
    · have := ih n f (fun k hk => by
        have a1 := h k hk
        have a2 : f k ≠ m := fun e => hex ⟨k, hk, e⟩
        omega) hd
      omega
/-- a state that has been come to -/
def vis (F : Nat → Int32) (x : Nat) : Prop := ∃ d, d < 2 ^ 30 ∧ F x = nI d
theorem vis.ne {F : Nat → Int32} {x : Nat} (h : vis F x) : ¬ F x = -1 ∧ ¬ F x = -2 := by
  obtain ⟨d, hd, e⟩ := h
  rw [e]
  exact ⟨(q_neg d (by omega)).1, (q_neg d (by omega)).2.1⟩
/-- the line holds states that have been come to, each once -/
def LnS (sz : Nat) (F Ln : Nat → Int32) (tl : Nat) (X : Nat → Nat) : Prop :=
  (∀ i, i < tl → X i < sz ∧ Ln i = nI (X i) ∧ vis F (X i)) ∧ (∀ i j, i < j → j < tl → X i ≠ X j) ∧ True
theorem LnS.le {sz : Nat} {F Ln : Nat → Int32} {tl : Nat} {X : Nat → Nat} (h : LnS sz F Ln tl X) : tl ≤ sz := holes sz tl X (fun i hi => (h.1 i hi).1) h.2.1
/-- within one spread from a: X the states in the order of the line, D their labels; o is where the spread began on the line, hd the head, tl the tail; F0, L0 the rows before -/
def BfI (sz o hd tl a : Nat) (e : Nat → Nat → Nat) (F0 L0 F Ln : Nat → Int32) (X D : Nat → Nat) : Prop :=
  (o ≤ hd ∧ hd ≤ tl ∧ o < tl ∧ X o = a ∧ D o = 0) ∧
  (∀ i, o ≤ i → i < tl → F0 (X i) = -1 ∧ F (X i) = nI (D i) ∧ D i + o ≤ i ∧ Wk e a (D i) (D i) (X i)) ∧
  (∀ i j, o ≤ i → i ≤ j → j < tl → D i ≤ D j) ∧
  (∀ x, x < sz → (∀ i, o ≤ i → i < tl → X i ≠ x) → F x = F0 x) ∧
  (hd < tl → ∀ j, o ≤ j → j < tl → D j ≤ D hd + 1) ∧
  (∀ i, o ≤ i → i < hd → ∀ x, 0 < e (X i) x → ∃ j, o ≤ j ∧ j < tl ∧ X j = x ∧ D j ≤ D i + 1) ∧
  (∀ i, i < o → Ln i = L0 i) ∧ LnS sz F Ln tl X
theorem upd_s {f : Nat → Int32} {k : Nat} {x : Int32} : upd f k x k = x := pk_us
theorem upd_n {f : Nat → Int32} {k j : Nat} {x : Int32} (h : j ≠ k) : upd f k x j = f j := pk_un h
theorem vis_upd {F : Nat → Int32} {x y d : Nat} (hd : d < 2 ^ 30) : vis (upd F x (nI d)) y ↔ (y = x ∨ vis F y) := by
  constructor
  · rintro ⟨q, hq, e⟩
    by_cases c : y = x
    · exact Or.inl c
    · rw [upd_n c] at e
      exact Or.inr ⟨q, hq, e⟩
  · rintro (rfl | ⟨q, hq, e⟩)
    · exact ⟨d, hd, upd_s⟩
    · by_cases c : y = x
      · subst c
        exact ⟨d, hd, upd_s⟩
      · exact ⟨q, hq, by rw [upd_n c]; exact e⟩
theorem LnS.push {sz : Nat} {F Ln : Nat → Int32} {tl : Nat} {X : Nat → Nat} (h : LnS sz F Ln tl X) {x d : Nat} (hx : x < sz) (hd : d < 2 ^ 30) (hv : ¬ vis F x) : LnS sz (upd F x (nI d)) (upd Ln tl (nI x)) (tl + 1) (fun i => if i = tl then x else X i) := by
  refine ⟨fun i hi => ?_, fun i j hij hj => ?_, trivial⟩
  · by_cases c : i = tl
    · subst c
      simp only [↓reduceIte]
      exact ⟨hx, upd_s, (vis_upd hd).2 (Or.inl rfl)⟩
    · simp only [if_neg c]
      obtain ⟨h1, h2, h3⟩ := h.1 i (by omega)
      exact ⟨h1, by rw [upd_n c]; exact h2, (vis_upd hd).2 (Or.inr h3)⟩
  · by_cases c : j = tl
    · subst c
      simp only [↓reduceIte, if_neg (show i ≠ j by omega)]
      intro e
      exact hv (e ▸ (h.1 i hij).2.2)
    · simp only [if_neg c, if_neg (show i ≠ tl by omega)]
      exact h.2.1 i j hij (by omega)
theorem LnS.room {sz : Nat} {F Ln : Nat → Int32} {tl : Nat} {X : Nat → Nat} (h : LnS sz F Ln tl X) {x : Nat} (hx : x < sz) (hv : ¬ vis F x) : tl < sz := (h.push (d := 0) hx (by decide) hv).le
theorem BfI.start {sz a o : Nat} {e : Nat → Nat → Nat} {F0 L0 : Nat → Int32} {X : Nat → Nat} (h : LnS sz F0 L0 o X) (ha : a < sz) (hn : F0 a = -1) :
    BfI sz o o (o + 1) a e F0 L0 (upd F0 a (nI 0)) (upd L0 o (nI a)) (fun i => if i = o then a else X i) (fun _ => 0) := by
  have hv : ¬ vis F0 a := fun q => q.ne.1 hn
  refine ⟨⟨by omega, by omega, by omega, by simp, rfl⟩, fun i h1 h2 => ?_, fun i j h1 h2 h3 => Nat.le_refl 0, fun x hx hno => ?_, fun _ j h1 h2 => Nat.zero_le _, fun i h1 h2 => absurd h2 (by omega), fun i hi => upd_n (by omega), h.push ha (by decide) hv⟩
  · have e1 : i = o := by omega
    subst e1
    simp only [↓reduceIte]
    exact ⟨hn, upd_s, by omega, rfl, rfl⟩
  · have := hno o (by omega) (by omega)
    simp only [↓reduceIte] at this
    exact upd_n (fun e => this e.symm)
theorem BfI.push {sz o hd tl a : Nat} {e : Nat → Nat → Nat} {F0 L0 F Ln : Nat → Int32} {X D : Nat → Nat} (h : BfI sz o hd tl a e F0 L0 F Ln X D) (hlt : hd < tl) (hsz : sz < 2 ^ 30) {x : Nat} (hx : x < sz) (hn : F x = -1) (he : e (X hd) x = 1) :
    tl < sz ∧ BfI sz o hd (tl + 1) a e F0 L0 (upd F x (nI (D hd + 1))) (upd Ln tl (nI x)) (fun i => if i = tl then x else X i) (fun i => if i = tl then D hd + 1 else D i) := by
  obtain ⟨⟨h1, h2, h3, h4, h5⟩, h6, h7, h8, h9, h10, h11, h12⟩ := h
  have hv : ¬ vis F x := fun q => q.ne.1 hn
  have hroom := h12.room hx hv
  have hDh := (h6 hd h1 hlt).2.2.1
  have hno : ∀ i, o ≤ i → i < tl → X i ≠ x := fun i hi1 hi2 q => hv (q ▸ ((h12.1 i hi2).2.2))
  refine ⟨hroom, ⟨h1, by omega, by omega, by simp only [if_neg (show o ≠ tl by omega)]; exact h4, by simp only [if_neg (show o ≠ tl by omega)]; exact h5⟩, fun i hi1 hi2 => ?_, fun i j hi1 hij hj => ?_, fun y hy hyno => ?_, fun _ j hj1 hj2 => ?_, fun i hi1 hi2 y hey => ?_, fun i hi => by rw [upd_n (by omega)]; exact h11 i hi, h12.push hx (by omega) hv⟩
  · by_cases c : i = tl
    · subst c
      simp only [↓reduceIte]
      refine ⟨by rw [← h8 x hx hno]; exact hn, upd_s, by omega, ?_⟩
      have w := (h6 hd h1 hlt).2.2.2.snoc (show 0 < e (X hd) x by omega)
      rw [he] at w
      exact w
    · simp only [if_neg c]
      obtain ⟨g1, g2, g3, g4⟩ := h6 i hi1 (by omega)
      exact ⟨g1, by rw [upd_n (hno i hi1 (by omega))]; exact g2, g3, g4⟩
  · by_cases c : j = tl
    · subst c
      simp only [↓reduceIte]
      by_cases c2 : i = j
      · simp only [if_pos c2]; omega
      · simp only [if_neg c2]
        exact h9 hlt i hi1 (by omega)
    · simp only [if_neg c, if_neg (show i ≠ tl by omega)]
      exact h7 i j hi1 hij (by omega)
  · have c := hyno tl (by omega) (by omega)
    simp only [↓reduceIte] at c
    rw [upd_n (fun q => c q.symm)]
    exact h8 y hy (fun i hi1 hi2 => by
      have := hyno i hi1 (by omega)
      simp only [if_neg (show i ≠ tl by omega)] at this
      exact this)
  · simp only [if_neg (show hd ≠ tl by omega)]
    by_cases c : j = tl
    · simp only [if_pos c]; omega
    · simp only [if_neg c]
      exact h9 hlt j hj1 (by omega)
  · simp only [if_neg (show i ≠ tl by omega)] at hey ⊢
    obtain ⟨j, g1, g2, g3, g4⟩ := h10 i hi1 hi2 y hey
    exact ⟨j, g1, by omega, by simp only [if_neg (show j ≠ tl by omega)]; exact g3, by simp only [if_neg (show j ≠ tl by omega)]; exact g4⟩
theorem BfI.next {sz o hd tl a : Nat} {e : Nat → Nat → Nat} {F0 L0 F Ln : Nat → Int32} {X D : Nat → Nat} (h : BfI sz o hd tl a e F0 L0 F Ln X D) (hlt : hd < tl) (hc : ∀ x, 0 < e (X hd) x → ∃ j, o ≤ j ∧ j < tl ∧ X j = x ∧ D j ≤ D hd + 1) : BfI sz o (hd + 1) tl a e F0 L0 F Ln X D := by
  obtain ⟨⟨h1, h2, h3, h4, h5⟩, h6, h7, h8, h9, h10, h11, h12⟩ := h
  refine ⟨⟨by omega, by omega, h3, h4, h5⟩, h6, h7, h8, fun q j hj1 hj2 => ?_, fun i hi1 hi2 => ?_, h11, h12⟩
  · have a1 := h9 hlt j hj1 hj2
    have a2 := h7 hd (hd + 1) h1 (by omega) q
    omega
  · rcases Nat.lt_or_ge i hd with c | c
    · exact h10 i hi1 c
    · have e1 : i = hd := by omega
      subst e1
      exact hc
/-- walks up to the head's label lead to what has been come to -/
theorem BfI.cert {sz o hd tl a : Nat} {e : Nat → Nat → Nat} {F0 L0 F Ln : Nat → Int32} {X D : Nat → Nat} (h : BfI sz o hd tl a e F0 L0 F Ln X D) (m : Nat) (hm : ∀ i, o ≤ i → i < tl → D i < m → i < hd) {k w x : Nat} (hw : Wk e a k w x) (hle : w ≤ m) : ∃ j, o ≤ j ∧ j < tl ∧ X j = x ∧ D j ≤ w := by
  obtain ⟨⟨h1, h2, h3, h4, h5⟩, h6, h7, h8, h9, h10, h11, h12⟩ := h
  have inj : ∀ i j, o ≤ i → i < tl → o ≤ j → j < tl → X i = X j → i = j := fun i j hi1 hi2 hj1 hj2 q => by
    rcases Nat.lt_trichotomy i j with c | c | c
    · exact absurd q (h12.2.1 i j c hj2)
    · exact c
    · exact absurd q.symm (h12.2.1 j i c hi2)
  induction k generalizing w x with
  | zero =>
    obtain ⟨rfl, rfl⟩ := hw
    exact ⟨o, by omega, h3, h4, by omega⟩
  | succ k ih =>
    obtain ⟨y, w', g1, rfl, g2⟩ := hw
    obtain ⟨i, i1, i2, rfl, i3⟩ := ih g2 (by omega)
    obtain ⟨j, j1, j2, j3, j4⟩ := h10 i i1 (hm i i1 i2 (by omega)) x g1
    have he : 1 ≤ e (X i) x := g1
    exact ⟨j, j1, j2, j3, by omega⟩
