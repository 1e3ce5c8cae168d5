/-! LEAVES: what the small methods answer -/
theorem i_nle {a b : Int32} : ¬ a ≤ b ↔ b < a := by
  rw [Int32.lt_iff_toInt_lt, Int32.le_iff_toInt_le]; omega
theorem i_nlt {a b : Int32} : ¬ a < b ↔ b ≤ a := by
  rw [Int32.lt_iff_toInt_lt, Int32.le_iff_toInt_le]; omega
theorem n_lt {i n : Nat} (c : ¬ nI n ≤ nI i) (hn : n < 2 ^ 31) (hi : i < 2 ^ 31) : i < n := Nat.lt_of_not_le (fun h => c ((q_le hn hi).2 h))
theorem n_ge {i n : Nat} (c : nI n ≤ nI i) (hn : n < 2 ^ 31) (hi : i < 2 ^ 31) : n ≤ i := (q_le hn hi).1 c
/-- a for-loop's measure falls -/
theorem n_mu {i N : Nat} (h : i < N) (hN : N < 2 ^ 30) : N - (nI i + 1).toNatClampNeg < N - (nI i).toNatClampNeg := by
  rw [q_1, q_cl (by omega), q_cl (by omega)]; omega
theorem sp_isWithin (x a b : Int32) : wp_X8_isWithin x a b (fun r => isB r (a ≤ x ∧ x ≤ b)) := by
  unfold wp_X8_isWithin
  refine ⟨fun c => isB.no (fun h => ?_), fun c => ⟨fun d => isB.no (fun h => ?_), fun d => isB.yes ⟨i_nlt.1 c, i_nlt.1 d⟩⟩⟩
  · exact i_nle.2 c h.1
  · exact i_nle.2 d h.2
theorem sp_in (x a b : Int32) : wp_X9_in x a b (fun r => isB r (a ≤ x ∧ x ≤ b)) := by
  unfold wp_X9_in
  refine ⟨fun c => isB.no (fun h => ?_), fun c => ⟨fun d => isB.no (fun h => ?_), fun d => isB.yes ⟨i_nlt.1 c, i_nlt.1 d⟩⟩⟩
  · exact i_nle.2 c h.1
  · exact i_nle.2 d h.2
theorem sp_asNumber {r : Int32} {P : Prop} (h : isB r P) : wp_X8_asNumber r (fun q => isB q P) := by
  unfold wp_X8_asNumber
  exact ⟨fun c => isB.no (h.f c), fun c => isB.yes (h.t c)⟩
theorem w_02 {x : Int32} : (0 ≤ x ∧ x ≤ 2) ↔ ∃ k : Nat, k ≤ 2 ∧ x = nI k := by
  constructor
  · intro h
    obtain ⟨j, -, h2, h3⟩ := q_within (a := 0) (b := 2) (by decide) h.1 h.2 (by decide)
    exact ⟨j, h2, h3⟩
  · rintro ⟨k, hk, rfl⟩
    exact ⟨(q_le (a := 0) (by decide) (by omega)).2 (by omega), (q_le (b := 2) (by omega) (by decide)).2 hk⟩
theorem sp_isKind8 (x : Int32) : wp_X8_isKind x (fun r => isB r (∃ k : Nat, k ≤ 2 ∧ x = nI k)) := by
  unfold wp_X8_isKind
  exact ⟨_, sp_isWithin _ _ _, fun r h => ⟨h.nar, h.iff w_02⟩⟩
theorem sp_areMoves (x : Int32) : wp_X8_areMoves x (fun r => isB r (∃ k : Nat, k ≤ 2 ∧ x = nI k)) := by
  unfold wp_X8_areMoves
  exact ⟨_, sp_isWithin _ _ _, fun r h => ⟨h.nar, h.iff w_02⟩⟩
theorem sp_isKind9 (x : Int32) : wp_X9_isKind x (fun r => isB r (∃ k : Nat, k ≤ 2 ∧ x = nI k)) := by
  unfold wp_X9_isKind
  exact ⟨_, sp_in _ _ _, fun r h => ⟨h.nar, h.iff w_02⟩⟩
/-- how many of the first k bits -/
def pcn (x : Nat) : Nat → Nat
  | 0 => 0
  | k + 1 => pcn x k + (x.testBit k).toNat
def pc (x : Nat) : Nat := pcn x 9
theorem pcn_le (x : Nat) : ∀ k, pcn x k ≤ k
  | 0 => Nat.le_refl 0
  | k + 1 => by
    have h := pcn_le x k
    have h2 : (x.testBit k).toNat ≤ 1 := by cases x.testBit k <;> decide
    show pcn x k + (x.testBit k).toNat ≤ k + 1
    omega
theorem pc_le (x : Nat) : pc x ≤ 9 := pcn_le x 9
def bcf (p : Int32) : Int32 :=
  let x1 := p - ((((p : Int32).toUInt32 >>> ((1 : Int32).toUInt32 &&& Int32.toUInt32 31)).toInt32) &&& (1431655765 : Int32))
  let x2 := ((x1 &&& (858993459 : Int32)) + ((((x1 : Int32).toUInt32 >>> ((2 : Int32).toUInt32 &&& Int32.toUInt32 31)).toInt32) &&& (858993459 : Int32)))
  let x3 := ((x2 + (((x2 : Int32).toUInt32 >>> ((4 : Int32).toUInt32 &&& Int32.toUInt32 31)).toInt32)) &&& (252645135 : Int32))
  let x4 := (x3 + (((x3 : Int32).toUInt32 >>> ((8 : Int32).toUInt32 &&& Int32.toUInt32 31)).toInt32))
  let x5 := (x4 + (((x4 : Int32).toUInt32 >>> ((16 : Int32).toUInt32 &&& Int32.toUInt32 31)).toInt32))
  x5 &&& (63 : Int32)
theorem bcf_ok : ∀ x, x < 512 → bcf (nI x) = nI (pc x) := by decide +kernel
theorem sp_bitCount {x : Nat} (hx : x < 512) : wp_J6_bitCount_0f7a4 (nI x) (fun r => r = nI (pc x)) := by
  unfold wp_J6_bitCount_0f7a4
  intro x1 h1 x2 h2 x3 h3 x4 h4 x5 h5
  subst h1; subst h2; subst h3; subst h4; subst h5
  exact bcf_ok x hx
theorem sp_size {x : Nat} (hx : x < 2 ^ 31) : wp_X9_size (nI x) (fun r => r = nI (pc x)) := by
  unfold wp_X9_size
  refine ⟨fun y1 y2 => ∃ i, i ≤ 9 ∧ y2 = nI i ∧ y1 = nI (pcn x i), fun _ y2 => 9 - y2.toNatClampNeg, ⟨0, by omega, rfl, rfl⟩, ?_⟩
  rintro y1 y2 ⟨i, hi, rfl, rfl⟩
  refine ⟨fun c => ?_, fun c => ?_⟩
  · have h1 := n_ge (n := 9) c (by decide) (by omega)
    have h2 : i = 9 := by omega
    subst h2
    rfl
  · have hlt := n_lt (n := 9) c (by decide) (by omega)
    rintro x4 rfl x5 rfl
    refine ⟨⟨i + 1, by omega, q_1 i, ?_⟩, n_mu hlt (by decide)⟩
    rw [q_bit hx (by omega), q_add]
    rfl
theorem ntz_ok : ∀ j, j < 9 → ∀ (Q : Int32 → Prop), Q (nI j) → wp_J6_numberOfTrailingZeros_0f7a4 (nI (2 ^ j)) Q := by
  intro j hj Q h
  have hc : j = 0 ∨ j = 1 ∨ j = 2 ∨ j = 3 ∨ j = 4 ∨ j = 5 ∨ j = 6 ∨ j = 7 ∨ j = 8 := by omega
  unfold wp_J6_numberOfTrailingZeros_0f7a4
  rcases hc with rfl | rfl | rfl | rfl | rfl | rfl | rfl | rfl | rfl <;>
    (intro x1 e1
     subst e1
     repeat' (first
       | (apply And.intro <;> intro c <;> (try exact absurd c (by decide +kernel)))
       | (intro x e; subst e)
       | (refine Eq.mp (congrArg Q ?_) h; decide +kernel)))
theorem sp_colourOf {v k : Nat} (hv : v < 4096) (hk : k < 9) : wp_X4_colourOf (nI v) (nI k) (fun r => r = nI (v / 4 ^ k % 4)) := by
  unfold wp_X4_colourOf
  show (nI v >>> ((nI 2 * nI k) &&& 31)) &&& nI 3 = nI (v / 4 ^ k % 4)
  rw [pk_mul, q_shr (by omega) (by omega), q_and, Nat.shiftRight_eq_div_pow, show (3 : Nat) = 2 ^ 2 - 1 from rfl, Nat.and_two_pow_sub_one_eq_mod, Nat.pow_mul]
theorem sp_isSwap {a b : Nat} (ha : a < 512) (hb : b < 512) : wp_X6_isSwap (nI a) (nI b) (fun r => isB r (pc a = 1 ∧ pc b = 1)) := by
  unfold wp_X6_isSwap
  have e1 : ∀ x, nI (pc x) = 1 ↔ pc x = 1 := fun x => q_eq (b := 1) (by have := pc_le x; omega) (by decide)
  refine ⟨_, sp_bitCount ha, ?_⟩
  rintro r rfl
  refine ⟨fun c => ⟨_, sp_bitCount hb, ?_⟩, fun c => isB.no (fun h => c ((e1 a).2 h.1))⟩
  rintro r rfl
  exact ⟨fun d => isB.yes ⟨(e1 a).1 c, (e1 b).1 d⟩, fun d => isB.no (fun h => d ((e1 b).2 h.2))⟩
