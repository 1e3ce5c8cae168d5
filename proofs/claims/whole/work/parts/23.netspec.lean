/-! THE NET: n nodes, nr k the bits of those joined to k -/
def NetOk (n : Nat) (nr : Nat → Nat) : Prop := 1 ≤ n ∧ n ≤ 9 ∧ ∀ a b, (nr a).testBit b = true → a < n ∧ b < n ∧ a ≠ b ∧ (nr b).testBit a = true
def isN (f : Nat → Int32) (nr : Nat → Nat) : Prop := ∀ k, k < 9 → f k = nI (nr k)
theorem p2_9 {n : Nat} (h : n ≤ 9) : 2 ^ n ≤ 512 := Nat.pow_le_pow_right (n := 2) (by decide) h
theorem NetOk.lt {n : Nat} {nr : Nat → Nat} (h : NetOk n nr) (a : Nat) : nr a < 2 ^ n := by
  apply lt_of_bits
  intro i hi
  cases q : (nr a).testBit i with
  | false => rfl
  | true => exact absurd (h.2.2 a i q).2.1 (by omega)
theorem NetOk.lt9 {n : Nat} {nr : Nat → Nat} (h : NetOk n nr) (a : Nat) : nr a < 512 := Nat.lt_of_lt_of_le (h.lt a) (p2_9 h.2.1)
theorem NetOk.sym {n : Nat} {nr : Nat → Nat} (h : NetOk n nr) (a b : Nat) : (nr a).testBit b = (nr b).testBit a := by
  cases q : (nr a).testBit b with
  | true => exact (h.2.2 a b q).2.2.2.symm
  | false =>
    cases q2 : (nr b).testBit a with
    | false => rfl
    | true => rw [(h.2.2 b a q2).2.2.2] at q; cases q
theorem and0 {a b : Nat} : a &&& b = 0 ↔ ∀ i, ¬ (a.testBit i = true ∧ b.testBit i = true) := by
  constructor
  · intro h i hi
    have h2 := congrArg (fun x => x.testBit i) h
    simp [hi.1, hi.2] at h2
  · intro h
    apply Nat.eq_of_testBit_eq
    intro i
    rw [Nat.testBit_and, Nat.zero_testBit]
    cases q : a.testBit i <;> cases q2 : b.testBit i <;> first | rfl | exact absurd ⟨q, q2⟩ (h i)
/-- all nodes -/
def al (n : Nat) : Nat := 2 ^ n - 1
theorem al_bit (n i : Nat) : (al n).testBit i = decide (i < n) := Nat.testBit_two_pow_sub_one n i
theorem al_lt (n : Nat) : al n < 2 ^ n := by
  have := Nat.two_pow_pos n
  unfold al
  omega
theorem q_al {n : Nat} (h : n ≤ 9) : ((1 : Int32) <<< (nI n &&& 31)) - (1 : Int32) = nI (al n) := by
  rw [q_one (by omega)]
  have := Nat.two_pow_pos n
  exact q_sub (b := 1) (by omega)
theorem sp_all {n : Nat} (h : n ≤ 9) : wp_X3_all (nI n) (fun r => r = nI (al n)) := by
  unfold wp_X3_all
  exact q_al h
theorem pos_iff {x : Int32} : ¬ x < 0 ↔ ∃ j : Nat, j < 2 ^ 31 ∧ x = nI j := by
  constructor
  · exact nI_of
  · rintro ⟨j, hj, rfl⟩
    exact nI_pos hj
theorem sp_hasNode {n : Nat} (h : n ≤ 9) (x : Int32) : wp_X3_hasNode (nI n) x (fun r => isB r (∃ j, j < n ∧ x = nI j)) := by
  unfold wp_X3_hasNode
  refine ⟨fun c => isB.no ?_, fun c => ?_⟩
  · rintro ⟨j, hj, rfl⟩
    exact nI_pos (by omega) c
  · obtain ⟨j, hj, rfl⟩ := nI_of c
    refine ⟨fun d => isB.no ?_, fun d => isB.yes ⟨j, n_lt d (by omega) hj, rfl⟩⟩
    rintro ⟨i, hi, e⟩
    have h1 := (q_eq hj (by omega)).1 e
    have h2 := n_ge d (by omega) hj
    omega
theorem sp_hasSet {n : Nat} (h : n ≤ 9) (x : Int32) : wp_X3_hasSet (nI n) x (fun r => isB r (∃ s, s < 2 ^ n ∧ x = nI s)) := by
  have hp := p2_9 h
  have hal := al_lt n
  have hpos := Nat.two_pow_pos n
  unfold wp_X3_hasSet
  refine ⟨fun c => isB.no ?_, fun c => ?_⟩
  · rintro ⟨j, hj, rfl⟩
    exact nI_pos (by omega) c
  · obtain ⟨j, hj, rfl⟩ := nI_of c
    refine ⟨_, sp_all h, ?_⟩
    rintro r rfl
    refine ⟨fun d => isB.no ?_, fun d => isB.yes ⟨j, ?_, rfl⟩⟩
    · rintro ⟨i, hi, e⟩
      have h1 := (q_eq hj (by omega)).1 e
      have h2 := (q_lt (by omega) hj).1 d
      unfold al at h2
      omega
    · have h2 : ¬ al n < j := fun z => d ((q_lt (by omega) hj).2 z)
      unfold al at h2
      omega
/-- LAWFUL by a kind -/
def Lw (n : Nat) (nr : Nat → Nat) (kind s : Nat) : Prop :=
  if kind = 0 then ∀ a b, s.testBit a = true → s.testBit b = true → ¬ (nr a).testBit b = true
  else if kind = 1 then ∀ a b, (nr a).testBit b = true → s.testBit a = true ∨ s.testBit b = true
  else ∀ a, a < n → s.testBit a = true ∨ ∃ b, s.testBit b = true ∧ (nr a).testBit b = true
theorem sp_touches {n : Nat} {nr : Nat → Nat} {f : Nat → Int32} (h : NetOk n nr) (hf : isN f nr) {s : Nat} (hs : s < 2 ^ n) : wp_X3_touchesNowhere (nI n) f (nI s) (fun r => isB r (∀ a b, s.testBit a = true → s.testBit b = true → ¬ (nr a).testBit b = true)) := by
  have hn := h.2.1
  have hp := p2_9 hn
  unfold wp_X3_touchesNowhere
  refine ⟨fun y => ∃ i, i ≤ n ∧ y = nI i ∧ ∀ a, a < i → s.testBit a = true → nr a &&& s = 0, fun y => n - y.toNatClampNeg, ⟨0, by omega, rfl, fun a ha => by omega⟩, ?_⟩
  rintro y ⟨i, hi, rfl, hI⟩
  refine ⟨fun c => isB.yes ?_, fun c => ?_⟩
  · have h1 := n_ge c (by omega) (by omega)
    intro a b ha hb hab
    have hlt : a < n := (h.2.2 a b hab).1
    exact and0.1 (hI a (by omega) ha) b ⟨hab, hb⟩
  · have hlt := n_lt c (by omega) (by omega)
    have hnext : ∀ (q : s.testBit i = true → nr i &&& s = 0) (x : Int32), x = nI i + 1 → (∃ j, j ≤ n ∧ x = nI j ∧ ∀ a, a < j → s.testBit a = true → nr a &&& s = 0) ∧ n - x.toNatClampNeg < n - (nI i).toNatClampNeg := by
      rintro q x rfl
      refine ⟨⟨i + 1, by omega, q_1 i, fun a ha hb => ?_⟩, n_mu hlt (by omega)⟩
      rcases Nat.lt_or_ge a i with z | z
      · exact hI a z hb
      · have e : a = i := by omega
        subst e
        exact q hb
    refine ⟨fun d => ⟨q_in (by omega) (by decide), ?_⟩, fun d => ?_⟩
    · have hb := (q_bit1 (by omega) (by omega)).1 d
      rw [q_cl (by omega), hf i (by omega), q_and]
      have hz : nr i &&& s < 2 ^ 31 := Nat.lt_of_le_of_lt Nat.and_le_right (by omega)
      refine ⟨fun z => hnext (fun _ => (q_eq0 hz).1 z), fun z => isB.no (fun q => ?_)⟩
      apply z
      rw [q_eq0 hz]
      apply and0.2
      rintro b ⟨h1, h2⟩
      exact q i b hb h2 h1
    · exact hnext (fun q => absurd ((q_bit1 (by omega) (by omega)).2 q) d)
theorem sp_sees {n : Nat} {nr : Nat → Nat} {f : Nat → Int32} (h : NetOk n nr) (hf : isN f nr) {s : Nat} (hs : s < 2 ^ n) : wp_X3_seesAll (nI n) f (nI s) (fun r => isB r (∀ a, a < n → s.testBit a = true ∨ ∃ b, s.testBit b = true ∧ (nr a).testBit b = true)) := by
  have hn := h.2.1
  have hp := p2_9 hn
  unfold wp_X3_seesAll
  refine ⟨fun y1 y2 => ∃ i t, i ≤ n ∧ y2 = nI i ∧ y1 = nI t ∧ t < 2 ^ n ∧ ∀ a, t.testBit a = true ↔ (s.testBit a = true ∨ ∃ b, b < i ∧ s.testBit b = true ∧ (nr b).testBit a = true), fun _ y => n - y.toNatClampNeg, ⟨0, s, by omega, rfl, rfl, hs, fun a => ⟨Or.inl, fun z => z.elim id (fun ⟨b, hb, _⟩ => absurd hb (by omega))⟩⟩, ?_⟩
  rintro y1 y2 ⟨i, t, hi, rfl, rfl, ht, hI⟩
  refine ⟨fun c => ⟨_, sp_all hn, ?_⟩, fun c => ?_⟩
  · have h1 := n_ge c (by omega) (by omega)
    have h2 : i = n := by omega
    subst h2
    have hal := al_lt i
    have key : t = al i ↔ ∀ a, a < i → s.testBit a = true ∨ ∃ b, s.testBit b = true ∧ (nr a).testBit b = true := by
      constructor
      · rintro rfl a ha
        have h3 := (hI a).1 (by rw [al_bit]; simp [ha])
        rcases h3 with h3 | ⟨b, -, h4, h5⟩
        · exact Or.inl h3
        · exact Or.inr ⟨b, h4, by rw [h.sym]; exact h5⟩
      · intro q
        apply Nat.eq_of_testBit_eq
        intro a
        rw [al_bit]
        rcases Nat.lt_or_ge a i with z | z
        · have : t.testBit a = true := by
            rw [hI]
            rcases q a z with q | ⟨b, h4, h5⟩
            · exact Or.inl q
            · exact Or.inr ⟨b, (h.2.2 a b h5).2.1, h4, by rw [h.sym]; exact h5⟩
          simp [this, z]
        · rw [bit_big ht z]
          simp; omega
    rintro r rfl
    refine ⟨fun d => isB.yes (key.1 ((q_eq (by omega) (by omega)).1 d)), fun d => isB.no (fun q => d ((q_eq (by omega) (by omega)).2 (key.2 q)))⟩
  · have hlt := n_lt c (by omega) (by omega)
    refine ⟨fun d => ⟨q_in (by omega) (by decide), ?_⟩, fun d => ?_⟩
    · have hb := (q_bit1 (by omega) (by omega)).1 d
      rw [q_cl (by omega), hf i (by omega), q_or]
      rintro x rfl x2 rfl
      refine ⟨⟨i + 1, t ||| nr i, by omega, q_1 i, rfl, or_lt ht (h.lt i), fun a => ?_⟩, n_mu hlt (by omega)⟩
      rw [Nat.testBit_or, Bool.or_eq_true, hI]
      constructor
      · rintro ((z | ⟨b, h1, h2⟩) | z)
        · exact Or.inl z
        · exact Or.inr ⟨b, by omega, h2⟩
        · exact Or.inr ⟨i, by omega, hb, z⟩
      · rintro (z | ⟨b, h1, h2, h3⟩)
        · exact Or.inl (Or.inl z)
        · rcases Nat.lt_or_ge b i with w | w
          · exact Or.inl (Or.inr ⟨b, w, h2, h3⟩)
          · have e : b = i := by omega
            subst e
            exact Or.inr h3
    · have hb : ¬ s.testBit i = true := fun z => d ((q_bit1 (by omega) (by omega)).2 z)
      rintro x rfl
      refine ⟨⟨i + 1, t, by omega, q_1 i, rfl, ht, fun a => ?_⟩, n_mu hlt (by omega)⟩
      rw [hI]
      constructor
      · rintro (z | ⟨b, h1, h2⟩)
        · exact Or.inl z
        · exact Or.inr ⟨b, by omega, h2⟩
      · rintro (z | ⟨b, h1, h2, h3⟩)
        · exact Or.inl z
        · rcases Nat.lt_or_ge b i with w | w
          · exact Or.inr ⟨b, w, h2, h3⟩
          · have e : b = i := by omega
            subst e
            exact absurd h2 hb
theorem sp_isLawful {n : Nat} {nr : Nat → Nat} {f : Nat → Int32} (h : NetOk n nr) (hf : isN f nr) {s k : Nat} (hk : k ≤ 2) (hs : s < 2 ^ n) : wp_X3_isLawful (nI n) f (nI k) (nI s) (fun r => isB r (Lw n nr k s)) := by
  have hn := h.2.1
  have hp := p2_9 hn
  have e0 : nI k = 0 ↔ k = 0 := q_eq0 (by omega)
  have e1 : nI k = 1 ↔ k = 1 := q_eq (b := 1) (by omega) (by decide)
  unfold wp_X3_isLawful
  refine ⟨fun c => ⟨_, sp_touches h hf hs, fun r hr => ⟨hr.nar, hr.iff ?_⟩⟩, fun c => ⟨_, sp_all hn, ?_⟩, fun c d => ⟨_, sp_sees h hf hs, fun r hr => ⟨hr.nar, hr.iff ?_⟩⟩⟩
  · rw [e0] at c
    subst c
    exact Iff.rfl
  · rw [e1] at c
    subst c
    rintro r rfl
    rw [q_dif]
    refine ⟨_, sp_touches h hf (dif_lt s (al_lt n)), fun r hr => ⟨hr.nar, hr.iff ?_⟩⟩
    have hd : ∀ a, (dif (al n) s).testBit a = true ↔ (a < n ∧ ¬ s.testBit a = true) := by
      intro a
      rw [dif_bit, al_bit]
      simp
    constructor
    · intro q a b hab
      have h1 := h.2.2 a b hab
      rcases Classical.em (s.testBit a = true) with z | z
      · exact Or.inl z
      · rcases Classical.em (s.testBit b = true) with z2 | z2
        · exact Or.inr z2
        · exact absurd hab (q a b ((hd a).2 ⟨h1.1, z⟩) ((hd b).2 ⟨h1.2.1, z2⟩))
    · intro q a b ha hb hab
      rcases q a b hab with z | z
      · exact ((hd a).1 ha).2 z
      · exact ((hd b).1 hb).2 z
  · rw [e0] at c
    rw [e1] at d
    have : k = 2 := by omega
    subst this
    exact Iff.rfl
