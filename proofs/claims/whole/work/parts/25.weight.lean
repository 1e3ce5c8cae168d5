/-! WEIGHTS -/
/-- the weight of a move by what goes out and what comes in -/
def Wd (nr : Nat → Nat) (mv a b : Nat) : Nat :=
  if pc a = 1 ∧ pc b = 1 then (if (nr a.log2).testBit b.log2 = true then 1 else if mv = 0 then 0 else 2)
  else if mv = 2 ∧ pc a + pc b = 1 then 3 else 0
def Wt (nr : Nat → Nat) (mv s t : Nat) : Nat := Wd nr mv (dif s t) (dif t s)
theorem pow1 : ∀ x, x < 512 → pc x = 1 → x = 2 ^ x.log2 ∧ x.log2 < 9 := by decide +kernel
theorem pc_pow : ∀ j, j < 9 → pc (2 ^ j) = 1 ∧ (2 ^ j).log2 = j := by decide +kernel
theorem Wd_le (nr : Nat → Nat) (mv a b : Nat) : Wd nr mv a b ≤ 3 := by
  unfold Wd
  split
  · split
    · omega
    · split <;> omega
  · split <;> omega
theorem nI_pc (x : Nat) : nI (pc x) = 1 ↔ pc x = 1 := q_eq (b := 1) (by have := pc_le x; omega) (by decide)
theorem nI_pc2 (x y : Nat) : nI (pc x) + nI (pc y) = 1 ↔ pc x + pc y = 1 := by
  rw [q_add]
  exact q_eq (b := 1) (by have := pc_le x; have := pc_le y; omega) (by decide)
theorem and_pow0 {x j : Nat} : x &&& 2 ^ j = 0 ↔ ¬ x.testBit j = true := by
  rw [and0]
  constructor
  · intro h q
    exact h j ⟨q, by rw [Nat.testBit_two_pow]; simp⟩
  · rintro h i ⟨h1, h2⟩
    rw [Nat.testBit_two_pow] at h2
    have e : j = i := by simpa using h2
    subst e
    exact h h1
theorem sp_weightOf {n : Nat} {nr : Nat → Nat} {f : Nat → Int32} (h : NetOk n nr) (hf : isN f nr) {mv s t : Nat} (hm : mv ≤ 2) (hs : s < 2 ^ n) (ht : t < 2 ^ n) : wp_X9_weightOf f (nI mv) (nI s) (nI t) (fun r => r = nI (Wt nr mv s t)) := by
  have hp := p2_9 h.2.1
  have ha : dif s t < 512 := Nat.lt_of_lt_of_le (dif_lt t hs) hp
  have hb : dif t s < 512 := Nat.lt_of_lt_of_le (dif_lt s ht) hp
  unfold wp_X9_weightOf Wt
  rw [q_dif, q_dif]
  generalize dif s t = a at ha ⊢
  generalize dif t s = b at hb ⊢
  rintro x1 rfl x2 rfl
  have em2 : nI mv = 2 ↔ mv = 2 := q_eq (b := 2) (by omega) (by decide)
  have em0 : nI mv ≤ 0 ↔ mv = 0 := by
    have := q_le (a := mv) (b := 0) (by omega) (by decide)
    exact this.trans (by omega)
  have tail : ¬ (pc a = 1 ∧ pc b = 1) → ((nI mv = 2 → ∃ Q7 : Int32 → Prop, wp_X9_size (nI a) Q7 ∧ ∀ r8 : Int32, Q7 r8 → ∃ Q9 : Int32 → Prop, wp_X9_size (nI b) Q9 ∧ ∀ r10 : Int32, Q9 r10 → (((r8 + r10) = 1 → (3 : Int32) = nI (Wd nr mv a b)) ∧ (¬ (r8 + r10) = 1 → (0 : Int32) = nI (Wd nr mv a b)))) ∧ (¬ nI mv = 2 → (0 : Int32) = nI (Wd nr mv a b))) := by
    intro hno
    refine ⟨fun c => ⟨_, sp_size (by omega), ?_⟩, fun c => ?_⟩
    · rintro r rfl
      refine ⟨_, sp_size (by omega), ?_⟩
      rintro r rfl
      unfold Wd
      rw [if_neg hno]
      refine ⟨fun d => ?_, fun d => ?_⟩
      · rw [if_pos ⟨em2.1 c, (nI_pc2 a b).1 d⟩]
        rfl
      · rw [if_neg (fun z => d ((nI_pc2 a b).2 z.2))]
        rfl
    · unfold Wd
      rw [if_neg hno, if_neg (fun z => c (em2.2 z.1))]
      rfl
  refine ⟨_, sp_size (by omega), ?_⟩
  rintro r rfl
  refine ⟨fun c => ⟨_, sp_size (by omega), ?_⟩, fun c => tail (fun z => c ((nI_pc a).2 z.1))⟩
  rintro r rfl
  refine ⟨fun d => ?_, fun d => tail (fun z => d ((nI_pc b).2 z.2))⟩
  have c1 := (nI_pc a).1 c
  have d1 := (nI_pc b).1 d
  obtain ⟨ea, la⟩ := pow1 a ha c1
  obtain ⟨eb, lb⟩ := pow1 b hb d1
  refine ⟨fun y => ∃ i, i ≤ a.log2 ∧ y = nI i, fun y => 9 - y.toNatClampNeg, ⟨0, by omega, rfl⟩, ?_⟩
  rintro y ⟨i, hi, rfl⟩
  refine ⟨fun z => ?_, fun z => ⟨q_in (by omega) (by decide), ?_⟩⟩
  · rintro x rfl
    have hz := (q_bit0 (by omega) (by omega)).1 z
    have hne : i ≠ a.log2 := by
      intro e
      rw [ea, e, Nat.testBit_two_pow] at hz
      simp at hz
    exact ⟨⟨i + 1, by omega, q_1 i⟩, n_mu (by omega) (by decide)⟩
  · have hi2 : i = a.log2 := by
      refine Classical.byContradiction (fun w => z ((q_bit0 (by omega) (by omega)).2 ?_))
      rw [ea, Nat.testBit_two_pow]
      simp
      omega
    rw [q_cl (by omega), hf i (by omega), q_and]
    have hz : nr i &&& b < 2 ^ 31 := Nat.lt_of_le_of_lt Nat.and_le_right (by omega)
    have key : nI (nr i &&& b) = 0 ↔ ¬ (nr a.log2).testBit b.log2 = true := by
      rw [q_eq0 hz, hi2]
      conv => lhs; rw [eb]
      exact and_pow0
    unfold Wd
    rw [if_pos ⟨c1, d1⟩]
    refine ⟨fun w => ?_, fun w => ?_⟩
    · rw [if_neg (key.1 w)]
      refine ⟨fun v => ?_, fun v => ?_⟩
      · rw [if_pos (em0.1 v)]
        rfl
      · rw [if_neg (fun u => v (em0.2 u))]
        rfl
    · have : (nr a.log2).testBit b.log2 = true := Classical.byContradiction (fun u => w (key.2 u))
      rw [if_pos this]
      rfl
theorem sp_areJoined {n : Nat} {nr : Nat → Nat} {f : Nat → Int32} (h : NetOk n nr) (hf : isN f nr) (x y : Int32) : wp_X3_areJoined (nI n) f x y (fun r => isB r (∃ a b, a < n ∧ b < n ∧ x = nI a ∧ y = nI b ∧ (nr a).testBit b = true)) := by
  have hn := h.2.1
  unfold wp_X3_areJoined
  refine ⟨_, sp_hasNode hn x, fun r hr => ⟨fun c => isB.no ?_, fun c => ⟨_, sp_hasNode hn y, fun r2 hr2 => ⟨fun d => isB.no ?_, fun d => ?_⟩⟩⟩⟩
  · rintro ⟨a, b, h1, -, h2, -⟩
    exact hr.f c ⟨a, h1, h2⟩
  · rintro ⟨a, b, -, h1, -, h2, -⟩
    exact hr2.f d ⟨b, h1, h2⟩
  · obtain ⟨a, ha, rfl⟩ := hr.t c
    obtain ⟨b, hb, rfl⟩ := hr2.t d
    have hlt := h.lt9 a
    rw [q_cl (by omega), hf a (by omega)]
    refine ⟨q_in (by omega) (by decide), fun z => isB.yes ⟨a, b, ha, hb, rfl, rfl, (q_bit1 (by omega) (by omega)).1 z⟩, fun z => isB.no ?_⟩
    rintro ⟨a', b', ha', hb', e1, e2, h3⟩
    have e3 := (q_eq (by omega) (by omega)).1 e1
    have e4 := (q_eq (by omega) (by omega)).1 e2
    subst e3; subst e4
    exact z ((q_bit1 (by omega) (by omega)).2 h3)
theorem sp_weigh6 {n : Nat} {nr : Nat → Nat} {f : Nat → Int32} (h : NetOk n nr) (hf : isN f nr) (T : Int64) {a b : Nat} (ha : a < 2 ^ n) (hb : b < 2 ^ n) : wp_X6_weigh (nI n) f T (nI a) (nI b) (fun r z => r = nI (Wd nr 0 a b) ∧ z = T + 1) := by
  have hn := h.2.1
  have hp := p2_9 hn
  unfold wp_X6_weigh
  rintro x rfl
  refine ⟨_, sp_isSwap (by omega) (by omega), fun r hr => ⟨fun c => ⟨?_, rfl⟩, fun c => ?_⟩⟩
  · unfold Wd
    rw [if_neg (hr.f c), if_neg (by omega)]
    rfl
  · obtain ⟨h1, h2⟩ := hr.t c
    obtain ⟨ea, la⟩ := pow1 a (by omega) h1
    obtain ⟨eb, lb⟩ := pow1 b (by omega) h2
    have na := ntz_ok a.log2 la (fun r => r = nI a.log2) rfl
    have nb := ntz_ok b.log2 lb (fun r => r = nI b.log2) rfl
    rw [← ea] at na
    rw [← eb] at nb
    refine ⟨_, na, ?_⟩
    rintro r rfl
    refine ⟨_, nb, ?_⟩
    rintro r rfl
    have key : (∃ a' b', a' < n ∧ b' < n ∧ nI a.log2 = nI a' ∧ nI b.log2 = nI b' ∧ (nr a').testBit b' = true) ↔ (nr a.log2).testBit b.log2 = true := by
      constructor
      · rintro ⟨a', b', h3, h4, e1, e2, h5⟩
        have e3 := (q_eq (by omega) (by omega)).1 e1
        have e4 := (q_eq (by omega) (by omega)).1 e2
        rw [e3, e4]
        exact h5
      · intro h5
        have h6 := h.2.2 _ _ h5
        exact ⟨_, _, h6.1, h6.2.1, rfl, rfl, h5⟩
    refine ⟨_, sp_areJoined h hf _ _, fun r hr => ⟨fun d => ⟨?_, rfl⟩, fun d => ⟨?_, rfl⟩⟩⟩
    · unfold Wd
      rw [if_pos ⟨h1, h2⟩, if_neg (fun z => hr.f d (key.2 z)), if_pos rfl]
      rfl
    · unfold Wd
      rw [if_pos ⟨h1, h2⟩, if_pos (key.1 (hr.t d))]
      rfl
theorem Wd0 {nr : Nat → Nat} {a b : Nat} : nI (Wd nr 0 a b) = 0 ↔ Wd nr 0 a b = 0 := q_eq0 (by have := Wd_le nr 0 a b; omega)
theorem Wd1 {nr : Nat → Nat} {a b : Nat} : nI (Wd nr 1 a b) = 0 ↔ Wd nr 1 a b = 0 := q_eq0 (by have := Wd_le nr 1 a b; omega)
theorem Wd_up1 {nr : Nat → Nat} {a b : Nat} (h : ¬ Wd nr 0 a b = 0) : Wd nr 1 a b = Wd nr 0 a b := by
  unfold Wd at *
  by_cases c : pc a = 1 ∧ pc b = 1
  · simp only [if_pos c] at *
    by_cases d : (nr a.log2).testBit b.log2 = true
    · simp only [if_pos d]
    · simp [if_neg d] at h
  · simp [if_neg c] at h
theorem Wd_no1 {nr : Nat → Nat} {a b : Nat} (h : Wd nr 0 a b = 0) : Wd nr 1 a b = if pc a = 1 ∧ pc b = 1 then 2 else 0 := by
  unfold Wd at *
  by_cases c : pc a = 1 ∧ pc b = 1
  · simp only [if_pos c] at *
    by_cases d : (nr a.log2).testBit b.log2 = true
    · simp [if_pos d] at h
    · simp [if_neg d]
  · simp [if_neg c]
theorem Wd_up2 {nr : Nat → Nat} {a b : Nat} (h : ¬ Wd nr 1 a b = 0) : Wd nr 2 a b = Wd nr 1 a b := by
  unfold Wd at *
  by_cases c : pc a = 1 ∧ pc b = 1
  · simp [if_pos c]
  · simp [if_neg c] at h
theorem Wd_no2 {nr : Nat → Nat} {a b : Nat} (h : Wd nr 1 a b = 0) : Wd nr 2 a b = if pc a + pc b = 1 then 3 else 0 := by
  unfold Wd at *
  by_cases c : pc a = 1 ∧ pc b = 1
  · simp only [if_pos c] at h
    by_cases d : (nr a.log2).testBit b.log2 = true
    · simp [if_pos d] at h
    · simp [if_neg d] at h
  · simp [if_neg c]
theorem sp_weigh1J {n : Nat} {nr : Nat → Nat} {f : Nat → Int32} (h : NetOk n nr) (hf : isN f nr) (T : Int64) {a b : Nat} (ha : a < 2 ^ n) (hb : b < 2 ^ n) : wp_X1_weigh_J (nI n) f T (nI a) (nI b) (fun r z => r = nI (Wd nr 1 a b) ∧ z = T + 10 + 1) := by
  have hp := p2_9 h.2.1
  unfold wp_X1_weigh_J
  rintro x rfl
  refine ⟨_, sp_weigh6 h hf _ ha hb, ?_⟩
  rintro r z ⟨rfl, rfl⟩
  refine ⟨fun c => ⟨_, sp_isSwap (by omega) (by omega), fun r hr => ⟨fun d => ⟨?_, rfl⟩, fun d => ⟨?_, rfl⟩⟩⟩, fun c => ⟨?_, rfl⟩⟩
  · rw [Wd_no1 (Wd0.1 c), if_neg (hr.f d)]
    rfl
  · rw [Wd_no1 (Wd0.1 c), if_pos (hr.t d)]
    rfl
  · rw [Wd_up1 (fun z => c (Wd0.2 z))]
theorem sp_weigh1B {n : Nat} {nr : Nat → Nat} {f : Nat → Int32} (h : NetOk n nr) (hf : isN f nr) (T : Int64) {a b : Nat} (ha : a < 2 ^ n) (hb : b < 2 ^ n) : wp_X1_weigh_B (nI n) f T (nI a) (nI b) (fun r z => r = nI (Wd nr 1 a b) ∧ z = T + 10 + 1) := by
  have hp := p2_9 h.2.1
  unfold wp_X1_weigh_B
  rintro x rfl
  refine ⟨_, sp_weigh6 h hf _ ha hb, ?_⟩
  rintro r z ⟨rfl, rfl⟩
  refine ⟨fun c => ⟨_, sp_isSwap (by omega) (by omega), fun r hr => ⟨fun d => ⟨?_, rfl⟩, fun d => ⟨?_, rfl⟩⟩⟩, fun c => ⟨?_, rfl⟩⟩
  · rw [Wd_no1 (Wd0.1 c), if_neg (hr.f d)]
    rfl
  · rw [Wd_no1 (Wd0.1 c), if_pos (hr.t d)]
    rfl
  · rw [Wd_up1 (fun z => c (Wd0.2 z))]
theorem sp_weigh0 {n : Nat} {nr : Nat → Nat} {f : Nat → Int32} (h : NetOk n nr) (hf : isN f nr) (T : Int64) {a b : Nat} (ha : a < 2 ^ n) (hb : b < 2 ^ n) : wp_X0_weigh (nI n) f T (nI a) (nI b) (fun r z => r = nI (Wd nr 2 a b) ∧ z = T + 100 + 10 + 1) := by
  have hp := p2_9 h.2.1
  unfold wp_X0_weigh
  rintro x rfl
  refine ⟨_, sp_weigh1B h hf _ ha hb, ?_⟩
  rintro r z ⟨rfl, rfl⟩
  refine ⟨fun c => ⟨_, sp_bitCount (by omega), ?_⟩, fun c => ⟨?_, rfl⟩⟩
  · rintro r rfl
    refine ⟨_, sp_bitCount (by omega), ?_⟩
    rintro r rfl
    refine ⟨fun d => ⟨?_, rfl⟩, fun d => ⟨?_, rfl⟩⟩
    · rw [Wd_no2 (Wd1.1 c), if_pos ((nI_pc2 a b).1 d)]
      rfl
    · rw [Wd_no2 (Wd1.1 c), if_neg (fun z => d ((nI_pc2 a b).2 z))]
      rfl
  · rw [Wd_up2 (fun z => c (Wd1.2 z))]
/-- WEIGHT as a call answers it: the answer and the trace behind it -/
def AnsW (n : Nat) (nr : Nat → Nat) (T : Int64) (p1 p2 p3 r : Int32) (z : Int64) : Prop :=
  (∃ mv s t : Nat, mv ≤ 2 ∧ s < 2 ^ n ∧ t < 2 ^ n ∧ p1 = nI mv ∧ p2 = nI s ∧ p3 = nI t ∧ r = nI (Wt nr mv s t) ∧ z = T + (if mv = 0 then 1 else if mv = 1 then 11 else 111)) ∨
  (¬ (∃ mv s t : Nat, mv ≤ 2 ∧ s < 2 ^ n ∧ t < 2 ^ n ∧ p1 = nI mv ∧ p2 = nI s ∧ p3 = nI t) ∧ r = -1 ∧ z = T)
theorem AnsW.one {n : Nat} {nr : Nat → Nat} {T : Int64} {p1 p2 p3 r r' : Int32} {z z' : Int64} (hn : n ≤ 9) (h : AnsW n nr T p1 p2 p3 r z) (h' : AnsW n nr T p1 p2 p3 r' z') : r = r' ∧ z = z' := by
  have hp := p2_9 hn
  rcases h with ⟨mv, s, t, h1, h2, h3, rfl, rfl, rfl, rfl, rfl⟩ | ⟨h0, rfl, rfl⟩
  · rcases h' with ⟨mv', s', t', h1', h2', h3', e1, e2, e3, rfl, rfl⟩ | ⟨h0', -⟩
    · have e1 := (q_eq (by omega) (by omega)).1 e1
      have e2 := (q_eq (by omega) (by omega)).1 e2
      have e3 := (q_eq (by omega) (by omega)).1 e3
      subst e1; subst e2; subst e3
      exact ⟨rfl, rfl⟩
    · exact absurd ⟨mv, s, t, h1, h2, h3, rfl, rfl, rfl⟩ h0'
  · rcases h' with ⟨mv', s', t', h1', h2', h3', e1, e2, e3, -⟩ | ⟨-, rfl, rfl⟩
    · exact absurd ⟨mv', s', t', h1', h2', h3', e1, e2, e3⟩ h0
    · exact ⟨rfl, rfl⟩
theorem sp_weight8 {n : Nat} {nr : Nat → Nat} {f : Nat → Int32} (h : NetOk n nr) (hf : isN f nr) (T : Int64) (p1 p2 p3 : Int32) : wp_X8_weight (nI n) f T p1 p2 p3 (AnsW n nr T p1 p2 p3) := by
  have hn := h.2.1
  have hp := p2_9 hn
  unfold wp_X8_weight
  refine ⟨_, sp_areMoves p1, fun r hr => ⟨fun c => Or.inr ⟨?_, rfl, rfl⟩, fun c => ⟨_, sp_hasSet hn p2, fun r2 hr2 => ⟨fun d => Or.inr ⟨?_, rfl, rfl⟩, fun d => ⟨_, sp_hasSet hn p3, fun r3 hr3 => ⟨fun e => Or.inr ⟨?_, rfl, rfl⟩, fun e => ?_⟩⟩⟩⟩⟩⟩
  · rintro ⟨mv, s, t, h1, -, -, h2, -⟩
    exact hr.f c ⟨mv, h1, h2⟩
  · rintro ⟨mv, s, t, -, h1, -, -, h2, -⟩
    exact hr2.f d ⟨s, h1, h2⟩
  · rintro ⟨mv, s, t, -, -, h1, -, -, h2⟩
    exact hr3.f e ⟨t, h1, h2⟩
  · obtain ⟨mv, hm, rfl⟩ := hr.t c
    obtain ⟨s, hs, rfl⟩ := hr2.t d
    obtain ⟨t, ht, rfl⟩ := hr3.t e
    rw [q_dif, q_dif]
    have ha := dif_lt t hs
    have hb := dif_lt s ht
    refine ⟨q_in (by omega) (by decide), fun z => ?_, fun z => ?_, fun z => ?_⟩
    · have z := (q_eq (b := 0) (by omega) (by decide)).1 z
      subst z
      refine ⟨_, sp_weigh6 h hf T ha hb, ?_⟩
      rintro r z ⟨rfl, rfl⟩
      exact Or.inl ⟨0, s, t, by omega, hs, ht, rfl, rfl, rfl, rfl, rfl⟩
    · have z := (q_eq (b := 1) (by omega) (by decide)).1 z
      subst z
      refine ⟨_, sp_weigh1J h hf T ha hb, ?_⟩
      rintro r z ⟨rfl, rfl⟩
      exact Or.inl ⟨1, s, t, by omega, hs, ht, rfl, rfl, rfl, rfl, by rw [Int64.add_assoc]; rfl⟩
    · have z := (q_eq (b := 2) (by omega) (by decide)).1 z
      subst z
      refine ⟨_, sp_weigh0 h hf T ha hb, ?_⟩
      rintro r z ⟨rfl, rfl⟩
      exact Or.inl ⟨2, s, t, by omega, hs, ht, rfl, rfl, rfl, rfl, by rw [Int64.add_assoc, Int64.add_assoc]; rfl⟩
theorem sp_weight9 {n : Nat} {nr : Nat → Nat} {f : Nat → Int32} (h : NetOk n nr) (hf : isN f nr) (T : Int64) (p1 p2 p3 : Int32) : wp_X9_weight (nI n) T f p1 p2 p3 (AnsW n nr T p1 p2 p3) := by
  have hn := h.2.1
  have hp := p2_9 hn
  unfold wp_X9_weight
  refine ⟨_, sp_isKind9 p1, fun r hr => ⟨fun c => Or.inr ⟨?_, rfl, rfl⟩, fun c => ⟨_, sp_isSet9 hn p2, fun r2 hr2 => ⟨fun d => Or.inr ⟨?_, rfl, rfl⟩, fun d => ⟨_, sp_isSet9 hn p3, fun r3 hr3 => ⟨fun e => Or.inr ⟨?_, rfl, rfl⟩, fun e => ?_⟩⟩⟩⟩⟩⟩
  · rintro ⟨mv, s, t, h1, -, -, h2, -⟩
    exact hr.f c ⟨mv, h1, h2⟩
  · rintro ⟨mv, s, t, -, h1, -, -, h2, -⟩
    exact hr2.f d ⟨s, h1, h2⟩
  · rintro ⟨mv, s, t, -, -, h1, -, -, h2⟩
    exact hr3.f e ⟨t, h1, h2⟩
  · obtain ⟨mv, hm, rfl⟩ := hr.t c
    obtain ⟨s, hs, rfl⟩ := hr2.t d
    obtain ⟨t, ht, rfl⟩ := hr3.t e
    have e0 : nI mv = 0 ↔ mv = 0 := q_eq0 (by omega)
    have e1 : nI mv = 1 ↔ mv = 1 := q_eq (b := 1) (by omega) (by decide)
    refine ⟨fun z => ?_, fun z => ⟨fun w => ?_, fun w => ?_⟩⟩
    · rintro x rfl
      refine ⟨_, sp_weightOf h hf hm hs ht, ?_⟩
      rintro r rfl
      exact Or.inl ⟨mv, s, t, hm, hs, ht, rfl, rfl, rfl, rfl, by rw [if_pos (e0.1 z)]⟩
    · rintro x rfl
      refine ⟨_, sp_weightOf h hf hm hs ht, ?_⟩
      rintro r rfl
      exact Or.inl ⟨mv, s, t, hm, hs, ht, rfl, rfl, rfl, rfl, by rw [if_neg (fun q => z (e0.2 q)), if_pos (e1.1 w)]⟩
    · rintro x rfl
      refine ⟨_, sp_weightOf h hf hm hs ht, ?_⟩
      rintro r rfl
      exact Or.inl ⟨mv, s, t, hm, hs, ht, rfl, rfl, rfl, rfl, by rw [if_neg (fun q => z (e0.2 q)), if_neg (fun q => w (e1.2 q))]⟩
