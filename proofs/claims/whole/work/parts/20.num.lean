/-! NUMBERS: small naturals and integers as ints; bits -/
theorem q_sl : ∀ n, n < 32 → ((nI n &&& 31).toBitVec.smod 32).toNat = n := by decide +kernel
theorem q_and (a b : Nat) : nI a &&& nI b = nI (a &&& b) := by
  apply Int32.toBitVec_inj.1
  show BitVec.ofNat 32 a &&& BitVec.ofNat 32 b = BitVec.ofNat 32 (a &&& b)
  apply BitVec.eq_of_getLsbD_eq
  intro i hi
  simp [hi]
theorem q_or (a b : Nat) : nI a ||| nI b = nI (a ||| b) := by
  apply Int32.toBitVec_inj.1
  show BitVec.ofNat 32 a ||| BitVec.ofNat 32 b = BitVec.ofNat 32 (a ||| b)
  apply BitVec.eq_of_getLsbD_eq
  intro i hi
  simp [hi]
theorem q_xor (a b : Nat) : nI a ^^^ nI b = nI (a ^^^ b) := by
  apply Int32.toBitVec_inj.1
  show BitVec.ofNat 32 a ^^^ BitVec.ofNat 32 b = BitVec.ofNat 32 (a ^^^ b)
  apply BitVec.eq_of_getLsbD_eq
  intro i hi
  simp [hi]
/-- what of a isn't in b -/
def dif (a b : Nat) : Nat := a ^^^ (a &&& b)
theorem dif_bit (a b i : Nat) : (dif a b).testBit i = (a.testBit i && !b.testBit i) := by
  unfold dif
  rw [Nat.testBit_xor, Nat.testBit_and]
  cases a.testBit i <;> cases b.testBit i <;> rfl
theorem q_dif (a b : Nat) : nI a &&& (nI b ^^^ (-1 : Int32)) = nI (dif a b) := by
  apply Int32.toBitVec_inj.1
  show BitVec.ofNat 32 a &&& (BitVec.ofNat 32 b ^^^ (-1 : Int32).toBitVec) = BitVec.ofNat 32 (dif a b)
  rw [show (-1 : Int32).toBitVec = BitVec.allOnes 32 from by decide]
  apply BitVec.eq_of_getLsbD_eq
  intro i hi
  rw [BitVec.getLsbD_and, BitVec.getLsbD_xor, BitVec.getLsbD_allOnes, BitVec.getLsbD_ofNat, BitVec.getLsbD_ofNat, BitVec.getLsbD_ofNat, dif_bit]
  simp only [hi, decide_true, Bool.true_and]
  cases a.testBit i <;> cases b.testBit i <;> rfl
theorem lt_of_bits {a k : Nat} (h : ∀ i, k ≤ i → a.testBit i = false) : a < 2 ^ k := by
  apply Nat.lt_pow_two_of_testBit
  exact h
theorem bit_big {a k i : Nat} (h : a < 2 ^ k) (hi : k ≤ i) : a.testBit i = false :=
  Nat.testBit_lt_two_pow (Nat.lt_of_lt_of_le h (Nat.pow_le_pow_right (by decide) hi))
theorem dif_lt {a k : Nat} (b : Nat) (h : a < 2 ^ k) : dif a b < 2 ^ k := by
  apply lt_of_bits
  intro i hi
  rw [dif_bit, bit_big h hi]
  rfl
theorem and_lt {a k : Nat} (b : Nat) (h : a < 2 ^ k) : a &&& b < 2 ^ k := Nat.lt_of_le_of_lt Nat.and_le_left h
theorem or_lt {a b k : Nat} (h : a < 2 ^ k) (h2 : b < 2 ^ k) : a ||| b < 2 ^ k := Nat.or_lt_two_pow h h2
theorem xor_lt {a b k : Nat} (h : a < 2 ^ k) (h2 : b < 2 ^ k) : a ^^^ b < 2 ^ k := Nat.xor_lt_two_pow h h2
theorem q_shr {x k : Nat} (hx : x < 2 ^ 31) (hk : k < 32) : nI x >>> (nI k &&& 31) = nI (x >>> k) := by
  rw [pk_shrN hx _ k (q_sl k hk), Nat.shiftRight_eq_div_pow]
theorem q_shl {x k : Nat} (hk : k < 32) (h : x * 2 ^ k < 2 ^ 32) : nI x <<< (nI k &&& 31) = nI (x * 2 ^ k) := pk_shlN _ k (q_sl k hk) h
theorem q_one {k : Nat} (hk : k < 31) : (1 : Int32) <<< (nI k &&& 31) = nI (2 ^ k) := by
  have h : (1 : Nat) * 2 ^ k < 2 ^ 32 := by
    have := Nat.pow_lt_pow_right (a := 2) (by decide) (show k < 32 by omega)
    omega
  have := q_shl (x := 1) (show k < 32 by omega) h
  rw [Nat.one_mul] at this
  exact this
theorem q_bit {x k : Nat} (hx : x < 2 ^ 31) (hk : k < 32) : (nI x >>> (nI k &&& 31)) &&& (1 : Int32) = nI (x.testBit k).toNat := by
  rw [q_shr hx hk, show (1 : Int32) = nI 1 from rfl, q_and, Nat.and_one_is_mod, Nat.shiftRight_eq_div_pow, Nat.toNat_testBit]
theorem q_bit1 {x k : Nat} (hx : x < 2 ^ 31) (hk : k < 32) : ((nI x >>> (nI k &&& 31)) &&& (1 : Int32)) = 1 ↔ x.testBit k = true := by
  rw [q_bit hx hk]
  cases x.testBit k <;> decide
theorem q_bit0 {x k : Nat} (hx : x < 2 ^ 31) (hk : k < 32) : ((nI x >>> (nI k &&& 31)) &&& (1 : Int32)) = 0 ↔ x.testBit k = false := by
  rw [q_bit hx hk]
  cases x.testBit k <;> decide
theorem q_lit (n : Nat) : (OfNat.ofNat n : Int32) = nI n := rfl
theorem q_le {a b : Nat} (ha : a < 2 ^ 31) (hb : b < 2 ^ 31) : nI a ≤ nI b ↔ a ≤ b := nI_leI ha hb
theorem q_lt {a b : Nat} (ha : a < 2 ^ 31) (hb : b < 2 ^ 31) : nI a < nI b ↔ a < b := nI_ltI ha hb
theorem q_eq {a b : Nat} (ha : a < 2 ^ 31) (hb : b < 2 ^ 31) : nI a = nI b ↔ a = b := nI_eq ha hb
theorem q_eq0 {a : Nat} (ha : a < 2 ^ 31) : nI a = 0 ↔ a = 0 := nI_eq (b := 0) ha (by decide)
theorem q_1 (a : Nat) : nI a + 1 = nI (a + 1) := nI_1 a
theorem q_add (a b : Nat) : nI a + nI b = nI (a + b) := nI_add a b
theorem q_cl {n : Nat} (h : n < 2 ^ 31) : (nI n).toNatClampNeg = n := nI_clamp h
theorem q_in {n N : Nat} (h : n < N) (hN : N < 2 ^ 31) : vp_in (nI n) N := vp_in_nI h hN
theorem q_sub {a b : Nat} (h : b ≤ a) : nI a - nI b = nI (a - b) := pk_sub h
theorem q_within {x : Int32} {a b : Nat} (hb : b < 2 ^ 31) (h : nI a ≤ x) (h2 : x ≤ nI b) (ha : a < 2 ^ 31) : ∃ j : Nat, a ≤ j ∧ j ≤ b ∧ x = nI j := by
  have h0 : ¬ x < 0 := by
    intro h9
    rw [Int32.lt_iff_toInt_lt] at h9
    rw [Int32.le_iff_toInt_le, nI_toInt ha] at h
    have : (0 : Int32).toInt = 0 := rfl
    omega
  obtain ⟨j, hj, rfl⟩ := nI_of h0
  exact ⟨j, (q_le ha hj).1 h, (q_le hj hb).1 h2, rfl⟩
theorem q_neg (n : Nat) (h : n < 2 ^ 31) : ¬ nI n = -1 ∧ ¬ nI n = -2 ∧ ¬ nI n = -9 := by
  have e := nI_toInt h
  refine ⟨fun q => ?_, fun q => ?_, fun q => ?_⟩ <;> (rw [q] at e; revert e; simp; try omega)
/-- an answer that is a truth -/
def isB (r : Int32) (P : Prop) : Prop := (P → r = 1) ∧ (¬ P → r = 0)
theorem isB.t {r : Int32} {P : Prop} (h : isB r P) (hr : ¬ r = 0) : P := by
  rcases Classical.em P with q | q
  · exact q
  · exact absurd (h.2 q) hr
theorem isB.f {r : Int32} {P : Prop} (h : isB r P) (hr : r = 0) : ¬ P := by
  intro q
  rw [h.1 q] at hr
  exact absurd hr (by decide)
theorem isB.or {r : Int32} {P : Prop} (h : isB r P) : r = 0 ∨ r = 1 := by
  rcases Classical.em P with q | q
  · exact Or.inr (h.1 q)
  · exact Or.inl (h.2 q)
theorem isB.nar {r : Int32} {P : Prop} (h : isB r P) : narrow .boolean (.int r) = .int r := nar_b h.or
theorem isB.yes {P : Prop} (h : P) : isB 1 P := ⟨fun _ => rfl, fun q => absurd h q⟩
theorem isB.no {P : Prop} (h : ¬ P) : isB 0 P := ⟨fun q => absurd q h, fun _ => rfl⟩
theorem isB.iff {r : Int32} {P P' : Prop} (h : isB r P) (e : P ↔ P') : isB r P' := ⟨fun q => h.1 (e.2 q), fun q => h.2 (fun z => q (e.1 z))⟩
theorem isB.one {r r' : Int32} {P P' : Prop} (h : isB r P) (h' : isB r' P') (e : P ↔ P') : r = r' := by
  rcases Classical.em P with q | q
  · rw [h.1 q, h'.1 (e.1 q)]
  · rw [h.2 q, h'.2 (fun z => q (e.2 z))]
