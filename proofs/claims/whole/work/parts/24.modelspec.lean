/-! THE REFERENCE'S SMALL METHODS -/
theorem sp_isSet9 {n : Nat} (h : n ≤ 9) (x : Int32) : wp_X9_isSet (nI n) x (fun r => isB r (∃ s, s < 2 ^ n ∧ x = nI s)) := by
  have hp := p2_9 h
  have hpos := Nat.two_pow_pos n
  unfold wp_X9_isSet
  rw [q_al h]
  refine ⟨_, sp_in _ _ _, fun r hr => ⟨hr.nar, hr.iff ?_⟩⟩
  constructor
  · intro q
    obtain ⟨j, -, h2, h3⟩ := q_within (a := 0) (by unfold al; omega) q.1 q.2 (by decide)
    exact ⟨j, by unfold al at h2; omega, h3⟩
  · rintro ⟨s, hs, rfl⟩
    exact ⟨(q_le (a := 0) (by decide) (by omega)).2 (by omega), (q_le (by omega) (by unfold al; omega)).2 (by unfold al; omega)⟩
theorem sp_isNode9 {n : Nat} (h1 : 1 ≤ n) (h : n ≤ 9) (x : Int32) : wp_X9_isNode (nI n) x (fun r => isB r (∃ j, j < n ∧ x = nI j)) := by
  unfold wp_X9_isNode
  have e : nI n - (1 : Int32) = nI (n - 1) := q_sub (b := 1) h1
  rw [e]
  refine ⟨_, sp_in _ _ _, fun r hr => ⟨hr.nar, hr.iff ?_⟩⟩
  constructor
  · intro q
    obtain ⟨j, -, h2, h3⟩ := q_within (a := 0) (by omega) q.1 q.2 (by decide)
    exact ⟨j, by omega, h3⟩
  · rintro ⟨s, hs, rfl⟩
    exact ⟨(q_le (a := 0) (by decide) (by omega)).2 (by omega), (q_le (by omega) (by omega)).2 (by omega)⟩
/-- what the reference asks of one node -/
def Pl (nr : Nat → Nat) (kind s a : Nat) : Prop :=
  if kind = 0 then (s.testBit a = true → nr a &&& s = 0) else if kind = 1 then (¬ s.testBit a = true → dif (nr a) s = 0) else (s.testBit a = true ∨ ¬ nr a &&& s = 0)
theorem dif0 {a b : Nat} : dif a b = 0 ↔ ∀ i, a.testBit i = true → b.testBit i = true := by
  constructor
  · intro h i hi
    have h2 := congrArg (fun x => x.testBit i) h
    simp [dif_bit, hi] at h2
    exact h2
  · intro h
    apply Nat.eq_of_testBit_eq
    intro i
    rw [dif_bit, Nat.zero_testBit]
    cases q : a.testBit i with
    | false => rfl
    | true => simp [h i q]
theorem Pl_Lw {n : Nat} {nr : Nat → Nat} (h : NetOk n nr) {kind s : Nat} : (∀ a, a < n → Pl nr kind s a) ↔ Lw n nr kind s := by
  unfold Pl Lw
  by_cases h0 : kind = 0
  · rw [if_pos h0]
    simp only [if_pos h0]
    constructor
    · intro q a b ha hb hab
      exact and0.1 (q a (h.2.2 a b hab).1 ha) b ⟨hab, hb⟩
    · intro q a _ ha
      apply and0.2
      rintro b ⟨h1, h2⟩
      exact q a b ha h2 h1
  · rw [if_neg h0]
    simp only [if_neg h0]
    by_cases h1 : kind = 1
    · rw [if_pos h1]
      simp only [if_pos h1]
      constructor
      · intro q a b hab
        rcases Classical.em (s.testBit a = true) with z | z
        · exact Or.inl z
        · exact Or.inr (dif0.1 (q a (h.2.2 a b hab).1 z) b hab)
      · intro q a _ ha
        apply dif0.2
        intro b hb
        exact (q a b hb).resolve_left ha
    · rw [if_neg h1]
      simp only [if_neg h1]
      constructor
      · intro q a ha
        rcases q a ha with z | z
        · exact Or.inl z
        · right
          refine Classical.byContradiction (fun w => z (and0.2 ?_))
          rintro b ⟨h2, h3⟩
          exact w ⟨b, h3, h2⟩
      · intro q a ha
        rcases q a ha with z | ⟨b, h2, h3⟩
        · exact Or.inl z
        · right
          intro w
          exact and0.1 w b ⟨h3, h2⟩
theorem sp_isLawful9 {n : Nat} {nr : Nat → Nat} {f : Nat → Int32} (h : NetOk n nr) (hf : isN f nr) {s k : Nat} (hk : k ≤ 2) (hs : s < 2 ^ n) : wp_X9_isLawful (nI n) f (nI k) (nI s) (fun r => isB r (Lw n nr k s)) := by
  have hn := h.2.1
  have hp := p2_9 hn
  have e0 : nI k = 0 ↔ k = 0 := q_eq0 (by omega)
  have e1 : nI k = 1 ↔ k = 1 := q_eq (b := 1) (by omega) (by decide)
  unfold wp_X9_isLawful
  refine ⟨fun y1 y2 => ∃ i, i ≤ n ∧ y2 = nI i ∧ isB y1 (∀ a, a < i → Pl nr k s a), fun _ y => n - y.toNatClampNeg, ⟨0, by omega, rfl, isB.yes (fun a ha => absurd ha (by omega))⟩, ?_⟩
  rintro y1 y2 ⟨i, hi, rfl, hI⟩
  refine ⟨fun c => ?_, fun c => ?_⟩
  · have h1 := n_ge c (by omega) (by omega)
    have h2 : i = n := by omega
    subst h2
    exact ⟨hI.nar, hI.iff (Pl_Lw h)⟩
  · have hlt := n_lt c (by omega) (by omega)
    have nx : ∀ q : Int32, isB q (∀ a, a < i + 1 → Pl nr k s a) → ∀ x : Int32, x = nI i + 1 → (∃ j, j ≤ n ∧ x = nI j ∧ isB q (∀ a, a < j → Pl nr k s a)) ∧ n - x.toNatClampNeg < n - (nI i).toNatClampNeg := by
      rintro q hq x rfl
      exact ⟨⟨i + 1, by omega, q_1 i, hq⟩, n_mu hlt (by omega)⟩
    have no0 : y1 = 0 → isB 0 (∀ a, a < i + 1 → Pl nr k s a) := fun z => isB.no (fun q => hI.f z (fun a ha => q a (by omega)))
    have noP : ¬ Pl nr k s i → isB 0 (∀ a, a < i + 1 → Pl nr k s a) := fun z => isB.no (fun q => z (q i (by omega)))
    have yes : ¬ y1 = 0 → Pl nr k s i → isB 1 (∀ a, a < i + 1 → Pl nr k s a) := fun z w => isB.yes (fun a ha => by
      rcases Nat.lt_or_ge a i with v | v
      · exact hI.t z a v
      · have e : a = i := by omega
        subst e
        exact w)
    have hvi : vp_in (nI i) 9 := q_in (by omega) (by decide)
    have hcl : (nI i).toNatClampNeg = i := q_cl (by omega)
    have hni := h.lt9 i
    have za : nI (nr i) &&& nI s = 0 ↔ nr i &&& s = 0 := by
      rw [q_and]
      exact q_eq0 (Nat.lt_of_le_of_lt Nat.and_le_left (by omega))
    have zd : nI (nr i) &&& (nI s ^^^ (-1 : Int32)) = 0 ↔ dif (nr i) s = 0 := by
      rw [q_dif]
      exact q_eq0 (Nat.lt_trans (dif_lt (k := 9) s hni) (by decide))
    have P0 : k = 0 → (Pl nr k s i ↔ (s.testBit i = true → nr i &&& s = 0)) := fun z => by unfold Pl; rw [if_pos z]
    have P1 : k = 1 → (Pl nr k s i ↔ (¬ s.testBit i = true → dif (nr i) s = 0)) := fun z => by unfold Pl; rw [if_neg (by omega), if_pos z]
    have P2 : ¬ k = 0 → ¬ k = 1 → (Pl nr k s i ↔ (s.testBit i = true ∨ ¬ nr i &&& s = 0)) := fun z w => by unfold Pl; rw [if_neg z, if_neg w]
    have one0 : ¬ (1 : Int32) = 0 := by decide
    refine ⟨fun d => ⟨hvi, ?_⟩, fun d => ⟨hvi, ?_⟩⟩
    · have hb := (q_bit1 (by omega) (by omega)).1 d
      rw [hcl, hf i (by omega)]
      rintro x rfl
      refine ⟨fun y0 => nx 0 (no0 y0), fun y0 => ⟨fun k0 => ⟨fun z => absurd z one0, fun _ => ⟨fun z => nx 1 (yes y0 ((P0 (e0.1 k0)).2 (fun _ => za.1 z))), fun z => nx 0 (noP (fun q => z (za.2 ((P0 (e0.1 k0)).1 q hb))))⟩⟩, fun k0 => ⟨fun k1 => ⟨fun z => absurd z one0, fun _ => nx 1 (yes y0 ((P1 (e1.1 k1)).2 (fun z => absurd hb z)))⟩, fun k1 => ⟨fun z => absurd z one0, fun _ => nx 1 (yes y0 ((P2 (fun z => k0 (e0.2 z)) (fun z => k1 (e1.2 z))).2 (Or.inl hb)))⟩⟩⟩⟩
    · have hb : ¬ s.testBit i = true := fun z => d ((q_bit1 (by omega) (by omega)).2 z)
      rw [hcl, hf i (by omega)]
      rintro x rfl
      refine ⟨fun y0 => nx 0 (no0 y0), fun y0 => ⟨fun k0 => ⟨fun _ => nx 1 (yes y0 ((P0 (e0.1 k0)).2 (fun z => absurd z hb))), fun z => absurd rfl z⟩, fun k0 => ⟨fun k1 => ⟨fun _ => ⟨fun z => nx 1 (yes y0 ((P1 (e1.1 k1)).2 (fun _ => zd.1 z))), fun z => nx 0 (noP (fun q => z (zd.2 ((P1 (e1.1 k1)).1 q hb))))⟩, fun z => absurd rfl z⟩, fun k1 => ⟨fun _ => ⟨fun z => nx 0 (noP (fun q => ((P2 (fun z => k0 (e0.2 z)) (fun z => k1 (e1.2 z))).1 q).elim hb (fun w => w (za.1 z)))), fun z => nx 1 (yes y0 ((P2 (fun z => k0 (e0.2 z)) (fun z => k1 (e1.2 z))).2 (Or.inr (fun w => z (za.2 w)))))⟩, fun z => absurd rfl z⟩⟩⟩⟩
