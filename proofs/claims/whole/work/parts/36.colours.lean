/-! COLOURINGS -/
def col (v k : Nat) : Nat := v / 4 ^ k % 4
theorem col_lt (v k : Nat) : col v k < 4 := Nat.mod_lt _ (by decide)
theorem p4 (n : Nat) : 4 ^ n = 2 ^ (2 * n) := (Nat.pow_mul 2 2 n).symm ▸ rfl
theorem p4_6 {n : Nat} (h : n ≤ 6) : 4 ^ n ≤ 4096 := Nat.pow_le_pow_right (n := 4) (by decide) h
theorem col_bits (v k : Nat) : col v k = (v.testBit (2 * k)).toNat + 2 * (v.testBit (2 * k + 1)).toNat := by
  rw [Nat.toNat_testBit, Nat.toNat_testBit, Nat.pow_succ, ← Nat.div_div_eq_div_mul, ← p4]
  unfold col
  omega
theorem col_eq {v w k : Nat} : col v k = col w k ↔ (v.testBit (2 * k) = w.testBit (2 * k) ∧ v.testBit (2 * k + 1) = w.testBit (2 * k + 1)) := by
  rw [col_bits, col_bits]
  cases v.testBit (2 * k) <;> cases v.testBit (2 * k + 1) <;> cases w.testBit (2 * k) <;> cases w.testBit (2 * k + 1) <;> decide
theorem col_ext {n v w : Nat} (hv : v < 4 ^ n) (hw : w < 4 ^ n) (h : ∀ k, k < n → col v k = col w k) : v = w := by
  rw [p4] at hv hw
  apply Nat.eq_of_testBit_eq
  intro i
  rcases Nat.lt_or_ge i (2 * n) with c | c
  · have hk := col_eq.1 (h (i / 2) (by omega))
    have hc : i = 2 * (i / 2) ∨ i = 2 * (i / 2) + 1 := by omega
    rcases hc with e | e
    · rw [e]; exact hk.1
    · rw [e]; exact hk.2
  · rw [bit_big hv c, bit_big hw c]
/-- node k's colour made d -/
def chg (v k d : Nat) : Nat := dif v (3 * 4 ^ k) ||| d * 4 ^ k
theorem bit3 : ∀ m, (3 : Nat).testBit m = decide (m < 2) := fun m => Nat.testBit_two_pow_sub_one 2 m
theorem chg_bit {v k d : Nat} (hd : d < 4) (i : Nat) : (chg v k d).testBit i = if i = 2 * k ∨ i = 2 * k + 1 then d.testBit (i - 2 * k) else v.testBit i := by
  unfold chg
  rw [Nat.testBit_or, dif_bit, p4, Nat.testBit_mul_two_pow, Nat.testBit_mul_two_pow, bit3]
  by_cases c : i = 2 * k ∨ i = 2 * k + 1
  · rw [if_pos c]
    have h1 : i ≥ 2 * k := by omega
    have h2 : i - 2 * k < 2 := by omega
    simp [h1, h2]
  · rw [if_neg c]
    by_cases h1 : i ≥ 2 * k
    · have h2 : ¬ i - 2 * k < 2 := by omega
      have h3 : d.testBit (i - 2 * k) = false := bit_big (k := 2) hd (by omega)
      simp [h2, h3]
    · simp [h1]
theorem col_chg {v k d j : Nat} (hd : d < 4) : col (chg v k d) j = if j = k then d else col v j := by
  rw [col_bits, chg_bit hd, chg_bit hd]
  by_cases c : j = k
  · subst c
    rw [if_pos (Or.inl rfl), if_pos (Or.inr rfl), if_pos rfl, Nat.sub_self, show 2 * j + 1 - 2 * j = 1 by omega]
    have := col_bits d 0
    unfold col at this
    rw [Nat.pow_zero, Nat.div_one, Nat.mod_eq_of_lt hd] at this
    exact this.symm
  · rw [if_neg (by omega), if_neg (by omega), if_neg c, ← col_bits]
theorem chg_lt {n v k d : Nat} (hv : v < 4 ^ n) (hk : k < n) (hd : d < 4) : chg v k d < 4 ^ n := by
  rw [p4] at hv ⊢
  apply lt_of_bits
  intro i hi
  rw [chg_bit hd, if_neg (by omega)]
  exact bit_big hv hi
theorem chg_of {n v w k : Nat} (hv : v < 4 ^ n) (hw : w < 4 ^ n) (hk : k < n) (h : ∀ j, j < n → j ≠ k → col w j = col v j) : w = chg v k (col w k) := by
  refine col_ext hw (chg_lt hv hk (col_lt w k)) (fun j hj => ?_)
  rw [col_chg (col_lt w k)]
  by_cases c : j = k
  · rw [if_pos c, c]
  · rw [if_neg c]
    exact h j hj c
theorem q_2k {k : Nat} : (2 : Int32) * nI k = nI (2 * k) := pk_mul 2 k
theorem q_col {v k : Nat} (hv : v < 4096) (hk : k < 9) : (nI v >>> (((2 : Int32) * nI k) &&& 31)) &&& (3 : Int32) = nI (col v k) := sp_colourOf hv hk
theorem q_4n {n : Nat} (h : n ≤ 6) : (1 : Int32) <<< (((2 : Int32) * nI n) &&& 31) = nI (4 ^ n) := by
  rw [q_2k, q_one (by omega), p4]
theorem p4_lt {k : Nat} (h : k < 6) : 4 ^ k < 2 ^ 12 := by
  have := Nat.pow_lt_pow_right (a := 4) (by decide) h
  exact this
theorem q_without {v k : Nat} (hk : k < 6) : nI v &&& (((3 : Int32) <<< (((2 : Int32) * nI k) &&& 31)) ^^^ (-1 : Int32)) = nI (dif v (3 * 4 ^ k)) := by
  have h := p4_lt hk
  rw [q_2k]
  have e := q_shl (x := 3) (k := 2 * k) (by omega) (by rw [← p4]; omega)
  rw [← p4] at e
  show nI v &&& ((nI 3 <<< (nI (2 * k) &&& 31)) ^^^ (-1 : Int32)) = _
  rw [e, q_dif]
theorem q_put {x k d : Nat} (hk : k < 6) (hd : d < 4) : nI x ||| (nI d <<< (((2 : Int32) * nI k) &&& 31)) = nI (x ||| d * 4 ^ k) := by
  have h := p4_lt hk
  have h3 : d * 4 ^ k ≤ 3 * 4 ^ k := Nat.mul_le_mul_right _ (by omega)
  rw [q_2k]
  have e := q_shl (x := d) (k := 2 * k) (by omega) (by rw [← p4]; omega)
  rw [← p4] at e
  rw [e, q_or]
/-- a colouring of n nodes by c colours -/
def IsC (n c v : Nat) : Prop := v < 4 ^ n ∧ ∀ k, k < n → col v k < c
/-- joined nodes differ -/
def Df (nr : Nat → Nat) (v : Nat) : Prop := ∀ a b, (nr a).testBit b = true → col v a ≠ col v b
noncomputable def okC (n : Nat) (nr : Nat → Nat) (c : Nat) : Nat → Bool := fun v => okB (IsC n c v ∧ Df nr v)
theorem sp_isColouring4 {n c : Nat} (hn : n ≤ 6) (hc : c ≤ 4) (x : Int32) : wp_X4_isColouring (nI n) x (nI c) (fun r => isB r (∃ v, x = nI v ∧ IsC n c v)) := by
  have hp := p4_6 hn
  unfold wp_X4_isColouring
  rw [q_4n hn]
  refine ⟨fun d => isB.no ?_, fun d => ?_⟩
  · rintro ⟨v, rfl, h⟩
    exact nI_pos (by have := h.1; omega) d
  obtain ⟨v, hv, rfl⟩ := nI_of d
  have one : ∀ w, nI v = nI w → IsC n c w → w = v := fun w h1 h2 => ((q_eq hv (by have := h2.1; omega)).1 h1).symm
  refine ⟨fun d2 => ?_, fun d2 => isB.no ?_⟩
  · have hv4 : v < 4 ^ n := (q_lt hv (by omega)).1 d2
    refine ⟨fun y => ∃ i, i ≤ n ∧ y = nI i ∧ ∀ k, k < i → col v k < c, fun y => n - y.toNatClampNeg, ⟨0, by omega, rfl, fun k hk => absurd hk (by omega)⟩, ?_⟩
    rintro y ⟨i, hi, rfl, hI⟩
    refine ⟨fun e => isB.yes ⟨v, rfl, hv4, fun k hk => hI k ?_⟩, fun e => ?_⟩
    · have := n_ge e (by omega) (by omega)
      omega
    · have hlt := n_lt e (by omega) (by omega)
      refine ⟨_, sp_colourOf (v := v) (k := i) (by omega) (by omega), ?_⟩
      rintro r rfl
      have hcl := col_lt v i
      have eL : nI (v / 4 ^ i % 4) < nI c ↔ col v i < c := q_lt (a := col v i) (by omega) (by omega)
      refine ⟨fun e2 => ?_, fun e2 => isB.no ?_⟩
      · rintro x rfl
        refine ⟨⟨i + 1, by omega, q_1 i, fun k hk => ?_⟩, n_mu hlt (by omega)⟩
        rcases Nat.lt_or_ge k i with w | w
        · exact hI k w
        · have ek : k = i := by omega
          subst ek
          exact eL.1 e2
      · rintro ⟨w, h1, h2⟩
        have := one w h1 h2
        subst this
        exact e2 (eL.2 (h2.2 i hlt))
  · rintro ⟨w, h1, h2⟩
    have := one w h1 h2
    subst this
    exact d2 ((q_lt hv (by omega)).2 h2.1)
theorem shr0 {x j : Nat} : x >>> j = 0 ↔ ∀ b, j ≤ b → x.testBit b = false := by
  constructor
  · intro h b hb
    have h2 := congrArg (fun y => y.testBit (b - j)) h
    simp only [Nat.testBit_shiftRight, Nat.zero_testBit] at h2
    rw [show j + (b - j) = b by omega] at h2
    exact h2
  · intro h
    apply Nat.eq_of_testBit_eq
    intro i
    rw [Nat.testBit_shiftRight, Nat.zero_testBit]
    exact h _ (by omega)
theorem sp_differs {n v : Nat} {nr : Nat → Nat} {fN : Nat → Int32} (h : NetOk n nr) (hf : isN fN nr) (hn : n ≤ 6) (hv : v < 4 ^ n) : wp_X4_differs (nI n) fN (nI v) (fun r => isB r (Df nr v)) := by
  have hp := p4_6 hn
  unfold wp_X4_differs
  refine ⟨fun y => ∃ i, i ≤ n ∧ y = nI i ∧ ∀ a, a < i → ∀ b, a < b → (nr a).testBit b = true → col v a ≠ col v b, fun y => n - y.toNatClampNeg, ⟨0, by omega, rfl, fun a ha => absurd ha (by omega)⟩, ?_⟩
  rintro y ⟨i, hi, rfl, hI⟩
  refine ⟨fun c => isB.yes (fun a b hab => ?_), fun c => ?_⟩
  · have hin := n_ge c (by omega) (by omega)
    obtain ⟨h1, h2, h3, h4⟩ := h.2.2 a b hab
    rcases Nat.lt_or_ge a b with w | w
    · exact hI a (by omega) b w hab
    · exact fun q => hI b (by omega) a (by omega) h4 q.symm
  have hlt := n_lt c (by omega) (by omega)
  have hni := h.lt9 i
  rw [q_cl (show i < 2 ^ 31 by omega), hf i (by omega)]
  refine ⟨q_in (by omega) (by decide), ?_⟩
  rintro x rfl x4 rfl
  have out : (∀ b, i < b → (nr i).testBit b = true → col v i ≠ col v b) → ∀ x : Int32, x = nI i + 1 → (∃ i, i ≤ n ∧ x = nI i ∧ ∀ a, a < i → ∀ b, a < b → (nr a).testBit b = true → col v a ≠ col v b) ∧ n - x.toNatClampNeg < n - (nI i).toNatClampNeg := by
    rintro q x rfl
    refine ⟨⟨i + 1, by omega, q_1 i, fun a ha b hab hb => ?_⟩, n_mu hlt (by omega)⟩
    rcases Nat.lt_or_ge a i with w | w
    · exact hI a w b hab hb
    · have ea : a = i := by omega
      subst ea
      exact q b hab hb
  refine ⟨fun y => ∃ j, i + 1 ≤ j ∧ j ≤ n ∧ y = nI j ∧ ∀ b, i < b → b < j → (nr i).testBit b = true → col v i ≠ col v b, fun y => n - y.toNatClampNeg, ⟨i + 1, by omega, by omega, q_1 i, fun b h1 h2 => absurd h2 (by omega)⟩, ?_⟩
  rintro y ⟨j, hj1, hj2, rfl, hJ⟩
  refine ⟨fun c2 => out (fun b hb q => hJ b hb ?_ q), fun c2 => ?_⟩
  · have := n_ge c2 (by omega) (by omega)
    have := (h.2.2 i b q).2.1
    omega
  have hlt2 := n_lt c2 (by omega) (by omega)
  have hsr : nr i >>> j ≤ nr i := by
    rw [Nat.shiftRight_eq_div_pow]
    exact Nat.div_le_self _ _
  have e0 : nI (nr i) >>> (nI j &&& 31) = 0 ↔ nr i >>> j = 0 := by
    rw [q_shr (by omega) (by omega)]
    exact q_eq0 (by omega)
  have nx : ((nr i).testBit j = true → col v i ≠ col v j) → ∀ x : Int32, x = nI j + 1 → (∃ j, i + 1 ≤ j ∧ j ≤ n ∧ x = nI j ∧ ∀ b, i < b → b < j → (nr i).testBit b = true → col v i ≠ col v b) ∧ n - x.toNatClampNeg < n - (nI j).toNatClampNeg := by
    rintro q x rfl
    refine ⟨⟨j + 1, by omega, by omega, q_1 j, fun b h1 h2 h3 => ?_⟩, n_mu hlt2 (by omega)⟩
    rcases Nat.lt_or_ge b j with w | w
    · exact hJ b h1 w h3
    · have eb : b = j := by omega
      subst eb
      exact q h3
  refine ⟨fun c3 => out (fun b hb q => ?_), fun c3 => ⟨fun c4 => ⟨_, sp_colourOf (v := v) (k := i) (by omega) (by omega), ?_⟩, fun c4 => nx (fun q => absurd ((q_bit1 (by omega) (by omega)).2 q) c4)⟩⟩
  · rcases Nat.lt_or_ge b j with w | w
    · exact hJ b hb w q
    · rw [shr0.1 (e0.1 c3) b w] at q
      cases q
  · rintro r rfl
    refine ⟨_, sp_colourOf (v := v) (k := j) (by omega) (by omega), ?_⟩
    rintro r rfl
    have hb := (q_bit1 (by omega) (by omega)).1 c4
    have h1 := col_lt v i
    have h2 := col_lt v j
    have eL : nI (v / 4 ^ i % 4) = nI (v / 4 ^ j % 4) ↔ col v i = col v j := q_eq (a := col v i) (b := col v j) (by omega) (by omega)
    exact ⟨fun c5 => isB.no (fun q => q i j hb (eL.1 c5)), fun c5 => nx (fun _ q => c5 (eL.2 q))⟩
theorem sp_isLawful4 {n c : Nat} {nr : Nat → Nat} {fN : Nat → Int32} (h : NetOk n nr) (hf : isN fN nr) (hn : n ≤ 6) (hc : c ≤ 4) (x : Int32) : wp_X4_isLawful (nI n) fN x (nI c) (fun r => isB r (∃ v, x = nI v ∧ IsC n c v ∧ Df nr v)) := by
  have hp := p4_6 hn
  unfold wp_X4_isLawful
  refine ⟨_, sp_isColouring4 hn hc x, fun r hr => ⟨fun d => isB.no (fun ⟨v, h1, h2, _⟩ => hr.f d ⟨v, h1, h2⟩), fun d => ?_⟩⟩
  obtain ⟨v, rfl, hv⟩ := hr.t d
  have hv1 := hv.1
  refine ⟨_, sp_differs h hf hn hv.1, fun r2 hr2 => ⟨fun d2 => isB.no (fun ⟨w, h1, h2, h3⟩ => ?_), fun d2 => isB.yes ⟨v, rfl, hv, hr2.t d2⟩⟩⟩
  have := h2.1
  have e := (q_eq (by omega) (by omega)).1 h1
  subst e
  exact hr2.f d2 h3
theorem sp_isColouring9 {n c : Nat} (hn : n ≤ 6) (hc : c ≤ 4) (x : Int32) : wp_X9_isColouring (nI n) (nI c) x (fun r => isB r (∃ v, x = nI v ∧ IsC n c v)) := by
  have hp := p4_6 hn
  have hpos : 0 < 4 ^ n := Nat.pow_pos (by decide)
  unfold wp_X9_isColouring wp_X9_all
  refine ⟨fun r => r = nI (4 ^ n), q_4n hn, ?_⟩
  rintro r2 rfl
  have e1 : nI (4 ^ n) - (1 : Int32) = nI (4 ^ n - 1) := q_sub (b := 1) (by omega)
  rw [e1]
  refine ⟨_, sp_in _ _ _, fun r4 hr4 => ?_⟩
  have hr4 := hr4.iff (w_0n (by omega))
  refine ⟨fun y1 y => ∃ i, i ≤ n ∧ y = nI i ∧ isB y1 (∃ v, x = nI v ∧ v < 4 ^ n ∧ ∀ k, k < i → col v k < c), fun _ y => n - y.toNatClampNeg, ⟨0, by omega, rfl, hr4.iff ⟨fun ⟨v, h1, h2⟩ => ⟨v, h2, by omega, fun k hk => absurd hk (by omega)⟩, fun ⟨v, h1, h2, _⟩ => ⟨v, by omega, h1⟩⟩⟩, ?_⟩
  rintro y1 y ⟨i, hi, rfl, hI⟩
  refine ⟨fun d => ?_, fun d => ?_⟩
  · have hin : i = n := by
      have := n_ge d (by omega) (by omega)
      omega
    subst hin
    exact ⟨hI.nar, hI⟩
  have hlt := n_lt d (by omega) (by omega)
  refine ⟨fun d2 => ⟨hI.nar, ?_⟩, fun d2 => ?_⟩
  · have := hI.f d2
    rw [d2]
    exact isB.no (fun ⟨v, h1, h2⟩ => this ⟨v, h1, h2.1, fun k hk => h2.2 k (by omega)⟩)
  · obtain ⟨v, rfl, hv, hI2⟩ := hI.t d2
    rw [q_col (by omega) (by omega)]
    have hcl := col_lt v i
    have eL : nI c ≤ nI (col v i) ↔ c ≤ col v i := q_le (by omega) (by omega)
    refine ⟨fun d3 => ?_, fun d3 => ?_⟩
    · rintro x rfl
      refine ⟨⟨i + 1, by omega, q_1 i, isB.no (fun ⟨w, h1, h2, h3⟩ => ?_)⟩, n_mu hlt (by omega)⟩
      have e := (q_eq (by omega) (by omega)).1 h1
      subst e
      have := h3 i (by omega)
      have := eL.1 d3
      omega
    · rintro x rfl
      refine ⟨⟨i + 1, by omega, q_1 i, isB.yes ⟨v, rfl, hv, fun k hk => ?_⟩⟩, n_mu hlt (by omega)⟩
      rcases Nat.lt_or_ge k i with w | w
      · exact hI2 k w
      · have ek : k = i := by omega
        subst ek
        exact Nat.lt_of_not_le (fun q => d3 (eL.2 q))
theorem sp_isProper9 {n c : Nat} {nr : Nat → Nat} {jJ : Nat → Int32} (h : NetOk n nr) (hf : isN jJ nr) (hn : n ≤ 6) (hc : c ≤ 4) (x : Int32) : wp_X9_isProper (nI n) (nI c) jJ x (fun r => isB r (∃ v, x = nI v ∧ IsC n c v ∧ Df nr v)) := by
  have hp := p4_6 hn
  unfold wp_X9_isProper
  refine ⟨_, sp_isColouring9 hn hc x, fun r2 hr2 => ?_⟩
  refine ⟨fun y1 y => ∃ i, i ≤ n ∧ y = nI i ∧ isB y1 (∃ v, x = nI v ∧ IsC n c v ∧ ∀ a, a < i → ∀ b, b < a → (nr a).testBit b = true → col v a ≠ col v b), fun _ y => n - y.toNatClampNeg, ⟨0, by omega, rfl, hr2.iff ⟨fun ⟨v, h1, h2⟩ => ⟨v, h1, h2, fun a ha => absurd ha (by omega)⟩, fun ⟨v, h1, h2, _⟩ => ⟨v, h1, h2⟩⟩⟩, ?_⟩
  rintro y1 y ⟨i, hi, rfl, hI⟩
  refine ⟨fun d => ?_, fun d => ?_⟩
  · have hin : i = n := by
      have := n_ge d (by omega) (by omega)
      omega
    subst hin
    refine ⟨hI.nar, hI.iff ⟨fun ⟨v, h1, h2, h3⟩ => ⟨v, h1, h2, fun a b hab => ?_⟩, fun ⟨v, h1, h2, h3⟩ => ⟨v, h1, h2, fun a _ b _ hab => h3 a b hab⟩⟩⟩
    obtain ⟨g1, g2, g3, g4⟩ := h.2.2 a b hab
    rcases Nat.lt_or_ge b a with w | w
    · exact h3 a g1 b w hab
    · exact fun q => h3 b g2 a (by omega) g4 q.symm
  have hlt := n_lt d (by omega) (by omega)
  have hni := h.lt9 i
  refine ⟨fun z1 z => ∃ j, j ≤ i ∧ z = nI j ∧ isB z1 (∃ v, x = nI v ∧ IsC n c v ∧ (∀ a, a < i → ∀ b, b < a → (nr a).testBit b = true → col v a ≠ col v b) ∧ ∀ b, b < j → (nr i).testBit b = true → col v i ≠ col v b), fun _ z => i - z.toNatClampNeg, ⟨0, by omega, rfl, hI.iff ⟨fun ⟨v, h1, h2, h3⟩ => ⟨v, h1, h2, h3, fun b hb => absurd hb (by omega)⟩, fun ⟨v, h1, h2, h3, _⟩ => ⟨v, h1, h2, h3⟩⟩⟩, ?_⟩
  rintro z1 z ⟨j, hj, rfl, hJ⟩
  refine ⟨fun d2 => ?_, fun d2 => ?_⟩
  · have hji : j = i := by
      have := n_ge d2 (by omega) (by omega)
      omega
    subst hji
    rintro x rfl
    refine ⟨⟨j + 1, by omega, q_1 j, hJ.iff ⟨fun ⟨v, h1, h2, h3, h4⟩ => ⟨v, h1, h2, fun a ha b hb => ?_⟩, fun ⟨v, h1, h2, h3⟩ => ⟨v, h1, h2, fun a ha => h3 a (by omega), fun b hb => h3 j (by omega) b hb⟩⟩⟩, n_mu hlt (by omega)⟩
    rcases Nat.lt_or_ge a j with w | w
    · exact h3 a w b hb
    · have ea : a = j := by omega
      subst ea
      exact h4 b hb
  have hlt2 := n_lt d2 (by omega) (by omega)
  have no : ∀ q : Int32, q = 0 → (¬ ∃ v, x = nI v ∧ IsC n c v ∧ (∀ a, a < i → ∀ b, b < a → (nr a).testBit b = true → col v a ≠ col v b) ∧ ∀ b, b < j + 1 → (nr i).testBit b = true → col v i ≠ col v b) → ∀ x9 : Int32, x9 = nI j + 1 → (∃ j, j ≤ i ∧ x9 = nI j ∧ isB q (∃ v, x = nI v ∧ IsC n c v ∧ (∀ a, a < i → ∀ b, b < a → (nr a).testBit b = true → col v a ≠ col v b) ∧ ∀ b, b < j → (nr i).testBit b = true → col v i ≠ col v b)) ∧ i - x9.toNatClampNeg < i - (nI j).toNatClampNeg := by
    rintro q rfl hno x9 rfl
    exact ⟨⟨j + 1, by omega, q_1 j, isB.no hno⟩, n_mu hlt2 (by omega)⟩
  refine ⟨fun d3 => no 0 rfl (fun ⟨v, h1, h2, h3, h4⟩ => hJ.f d3 ⟨v, h1, h2, h3, fun b hb => h4 b (by omega)⟩), fun d3 => ?_⟩
  obtain ⟨v, rfl, hv, hJ1, hJ2⟩ := hJ.t d3
  have hv1 := hv.1
  have one : ∀ w, nI v = nI w → IsC n c w → w = v := fun w h1 h2 => ((q_eq (by omega) (by have := h2.1; omega)).1 h1).symm
  have yes : ((nr i).testBit j = true → col v i ≠ col v j) → ∀ x9 : Int32, x9 = nI j + 1 → (∃ j, j ≤ i ∧ x9 = nI j ∧ isB 1 (∃ v', nI v = nI v' ∧ IsC n c v' ∧ (∀ a, a < i → ∀ b, b < a → (nr a).testBit b = true → col v' a ≠ col v' b) ∧ ∀ b, b < j → (nr i).testBit b = true → col v' i ≠ col v' b)) ∧ i - x9.toNatClampNeg < i - (nI j).toNatClampNeg := by
    rintro q x9 rfl
    refine ⟨⟨j + 1, by omega, q_1 j, isB.yes ⟨v, rfl, hv, hJ1, fun b hb h3 => ?_⟩⟩, n_mu hlt2 (by omega)⟩
    rcases Nat.lt_or_ge b j with w | w
    · exact hJ2 b w h3
    · have eb : b = j := by omega
      subst eb
      exact q h3
  rw [q_cl (show i < 2 ^ 31 by omega), hf i (by omega), q_col (by omega) (by omega), q_col (by omega) (by omega)]
  have h1 := col_lt v i
  have h2 := col_lt v j
  have eL : nI (col v i) = nI (col v j) ↔ col v i = col v j := q_eq (by omega) (by omega)
  refine ⟨q_in (by omega) (by decide), fun d4 => yes (fun q => ?_), fun d4 => ⟨fun d5 => no 0 rfl (fun ⟨w, g1, g2, g3, g4⟩ => ?_), fun d5 => yes (fun _ q => d5 (eL.2 q))⟩⟩
  · rw [(q_bit0 (by omega) (by omega)).1 d4] at q
    cases q
  · have := one w g1 g2
    subst this
    refine g4 j (by omega) ?_ (eL.1 d5)
    cases q : (nr i).testBit j with
    | true => rfl
    | false => exact absurd ((q_bit0 (by omega) (by omega)).2 q) d4
