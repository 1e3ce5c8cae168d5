/-! THE SMALL CALLS: net, join, shape, set, lawful, count, told -/
theorem sp_fill (fN : Nat → Int32) : wp_J7_fill_53178 fN 0 (fun f => ∀ k, k < 9 → f k = 0) := by
  unfold wp_J7_fill_53178
  refine ⟨fun y f => ∃ i, i ≤ 9 ∧ y = nI i ∧ ∀ k, k < i → f k = 0, fun y _ => 9 - y.toNatClampNeg, ⟨0, by omega, rfl, fun x hx => absurd hx (by omega)⟩, ?_⟩
  rintro y f ⟨i, hi, rfl, hI⟩
  refine ⟨fun c => ?_, fun c => ?_⟩
  · have := n_ge (n := 9) c (by decide) (by omega)
    have e : i = 9 := by omega
    subst e
    exact hI
  · have hlt := n_lt (n := 9) c (by decide) (by omega)
    rw [q_cl (show i < 2 ^ 31 by omega)]
    refine ⟨q_in hlt (by decide), ?_⟩
    rintro S' rfl x rfl
    refine ⟨⟨i + 1, by omega, q_1 i, fun x hx => ?_⟩, n_mu hlt (by decide)⟩
    by_cases c2 : x = i
    · subst c2
      exact upd_s
    · rw [upd_n c2]
      exact hI x (by omega)
theorem sp_part (fN : Nat → Int32) : wp_X9_part fN (fun f => ∀ k, k < 9 → f k = 0) := sp_fill fN
theorem isN0 {f : Nat → Int32} (h : ∀ k, k < 9 → f k = 0) : isN f (fun _ => 0) := fun k hk => (h k hk).trans rfl
def NetNew (n : Nat) (nr : Nat → Nat) (p1 r : Int32) (m : Nat) (nr' : Nat → Nat) : Prop :=
  (1 ≤ m ∧ m ≤ 9 ∧ p1 = nI m ∧ r = nI n ∧ nr' = fun _ => 0) ∨ ((¬ ∃ m : Nat, 1 ≤ m ∧ m ≤ 9 ∧ p1 = nI m) ∧ r = -1 ∧ m = n ∧ nr' = nr)
theorem NetNew.one {n : Nat} {nr : Nat → Nat} {p1 r r2 : Int32} {m m2 : Nat} {nr' nr2 : Nat → Nat} (h : NetNew n nr p1 r m nr') (h2 : NetNew n nr p1 r2 m2 nr2) : r = r2 ∧ m = m2 ∧ nr' = nr2 := by
  rcases h with ⟨a1, a2, rfl, rfl, rfl⟩ | ⟨a1, rfl, rfl, rfl⟩
  · rcases h2 with ⟨b1, b2, b3, rfl, rfl⟩ | ⟨b1, -⟩
    · exact ⟨rfl, (q_eq (by omega) (by omega)).1 b3, rfl⟩
    · exact absurd ⟨m, a1, a2, rfl⟩ b1
  · rcases h2 with ⟨b1, b2, b3, -⟩ | ⟨-, rfl, rfl, rfl⟩
    · exact absurd ⟨m2, b1, b2, b3⟩ a1
    · exact ⟨rfl, rfl, rfl⟩
theorem NetNew.ok {n : Nat} {nr : Nat → Nat} {p1 r : Int32} {m : Nat} {nr' : Nat → Nat} (hN : NetOk n nr) (h : NetNew n nr p1 r m nr') : NetOk m nr' := by
  rcases h with ⟨a1, a2, -, -, rfl⟩ | ⟨-, -, rfl, rfl⟩
  · exact ⟨a1, a2, fun a b q => by rw [Nat.zero_testBit] at q; cases q⟩
  · exact hN
theorem w_19 {x : Int32} : (1 ≤ x ∧ x ≤ 9) ↔ ∃ m : Nat, 1 ≤ m ∧ m ≤ 9 ∧ x = nI m := by
  constructor
  · intro h
    exact q_within (a := 1) (b := 9) (by decide) h.1 h.2 (by decide)
  · rintro ⟨k, h1, h2, rfl⟩
    exact ⟨(q_le (a := 1) (by decide) (by omega)).2 h1, (q_le (b := 9) (by omega) (by decide)).2 h2⟩
theorem sp_net8 {n : Nat} {nr : Nat → Nat} {fN : Nat → Int32} (hf : isN fN nr) (p1 : Int32) : wp_X8_net (nI n) fN p1 (fun r z f => ∃ m nr', NetNew n nr p1 r m nr' ∧ z = nI m ∧ isN f nr') := by
  unfold wp_X8_net wp_X3_restart
  refine ⟨_, sp_isWithin p1 1 9, fun r hr => ⟨fun c => ⟨n, nr, Or.inr ⟨fun q => hr.f c (w_19.2 q), rfl, rfl, rfl⟩, rfl, hf⟩, fun c => ?_⟩⟩
  obtain ⟨m, h1, h2, rfl⟩ := w_19.1 (hr.t c)
  exact ⟨fun z f => z = nI m ∧ ∀ k, k < 9 → f k = 0, ⟨_, sp_fill fN, fun f hf => ⟨rfl, hf⟩⟩, fun z f hz => ⟨m, fun _ => 0, Or.inl ⟨h1, h2, rfl, rfl, rfl⟩, hz.1, isN0 hz.2⟩⟩
theorem sp_net9 {n : Nat} {nr : Nat → Nat} {jJ : Nat → Int32} (hf : isN jJ nr) (p1 : Int32) : wp_X9_net (nI n) jJ p1 (fun r z f => ∃ m nr', NetNew n nr p1 r m nr' ∧ z = nI m ∧ isN f nr') := by
  unfold wp_X9_net
  refine ⟨_, sp_in p1 1 9, fun r hr => ⟨fun c => ⟨n, nr, Or.inr ⟨fun q => hr.f c (w_19.2 q), rfl, rfl, rfl⟩, rfl, hf⟩, fun c => ?_⟩⟩
  obtain ⟨m, h1, h2, rfl⟩ := w_19.1 (hr.t c)
  exact ⟨_, sp_part jJ, fun f hf => ⟨m, fun _ => 0, Or.inl ⟨h1, h2, rfl, rfl, rfl⟩, rfl, isN0 hf⟩⟩
/-! a join made or taken away -/
def tied (nr : Nat → Nat) (a b i : Nat) : Nat → Nat := fun k =>
  if k = b then (if i = 1 then nr b ||| 2 ^ a else dif (nr b) (2 ^ a)) else if k = a then (if i = 1 then nr a ||| 2 ^ b else dif (nr a) (2 ^ b)) else nr k
theorem put_bit (x b i j : Nat) : (if i = 1 then x ||| 2 ^ b else dif x (2 ^ b)).testBit j = if j = b then decide (i = 1) else x.testBit j := by
  by_cases c : i = 1
  · rw [if_pos c, Nat.testBit_or, pow_bit]
    by_cases d : j = b
    · subst d
      simp [c]
    · have d' : ¬ b = j := fun e => d e.symm
      rw [if_neg d]
      simp [d']
  · rw [if_neg c, dif_bit, pow_bit]
    by_cases d : j = b
    · subst d
      simp [c]
    · have d' : ¬ b = j := fun e => d e.symm
      rw [if_neg d]
      simp [d']
theorem tied_bit {nr : Nat → Nat} {a b i : Nat} (hab : a ≠ b) (k j : Nat) : (tied nr a b i k).testBit j = if (k = a ∧ j = b) ∨ (k = b ∧ j = a) then decide (i = 1) else (nr k).testBit j := by
  unfold tied
  by_cases c : k = b
  · rw [if_pos c, put_bit]
    by_cases d : j = a
    · rw [if_pos d, if_pos (Or.inr ⟨c, d⟩)]
    · rw [if_neg d, if_neg (by omega), c]
  · rw [if_neg c]
    by_cases c2 : k = a
    · rw [if_pos c2, put_bit]
      by_cases d : j = b
      · rw [if_pos d, if_pos (Or.inl ⟨c2, d⟩)]
      · rw [if_neg d, if_neg (by omega), c2]
    · rw [if_neg c2, if_neg (by omega)]
theorem tied_ok {n : Nat} {nr : Nat → Nat} (h : NetOk n nr) {a b i : Nat} (ha : a < n) (hb : b < n) (hab : a ≠ b) : NetOk n (tied nr a b i) := by
  refine ⟨h.1, h.2.1, fun x y q => ?_⟩
  rw [tied_bit hab] at q
  rw [tied_bit hab]
  by_cases c : (x = a ∧ y = b) ∨ (x = b ∧ y = a)
  · rw [if_pos c] at q
    rw [if_pos (by omega)]
    exact ⟨by omega, by omega, by omega, q⟩
  · rw [if_neg c] at q
    rw [if_neg (by omega)]
    exact h.2.2 x y q
theorem isN_tied {nr : Nat → Nat} {f : Nat → Int32} (hf : isN f nr) {a b i : Nat} (ha : a < 9) (hb : b < 9) (hab : a ≠ b) (x y : Int32) (hx : x = nI (if i = 1 then nr a ||| 2 ^ b else dif (nr a) (2 ^ b))) (hy : y = nI (if i = 1 then nr b ||| 2 ^ a else dif (nr b) (2 ^ a))) : isN (upd (upd f a x) b y) (tied nr a b i) := by
  intro k hk
  unfold tied
  by_cases c : k = b
  · rw [if_pos c, c, upd_s, hy]
  · rw [if_neg c, upd_n c]
    by_cases d : k = a
    · rw [if_pos d, d, upd_s, hx]
    · rw [if_neg d, upd_n d]
      exact hf k hk
theorem sp_tie {n : Nat} {nr : Nat → Nat} {f : Nat → Int32} (hn : n ≤ 9) (hf : isN f nr) {a b i : Nat} (ha : a < n) (hb : b < n) (hab : a ≠ b) (hi : i ≤ 1) : wp_X3_tie (nI n) f (nI a) (nI b) (nI i) (fun f => isN f (tied nr a b i)) := by
  unfold wp_X3_tie
  have va : vp_in (nI a) 9 := q_in (by omega) (by decide)
  have vb : vp_in (nI b) 9 := q_in (by omega) (by decide)
  have e0 : nI i = 0 ↔ i = 0 := q_eq0 (by omega)
  refine ⟨_, sp_hasNode hn (nI a), fun r hr => ⟨fun c => absurd ⟨a, ha, rfl⟩ (hr.f c), fun _ => ⟨_, sp_hasNode hn (nI b), fun r hr => ⟨fun c => absurd ⟨b, hb, rfl⟩ (hr.f c), fun _ => ?_⟩⟩⟩⟩
  rw [q_cl (show a < 2 ^ 31 by omega), q_cl (show b < 2 ^ 31 by omega), q_one (show a < 31 by omega), q_one (show b < 31 by omega), hf a (by omega)]
  refine ⟨fun c => ⟨va, ?_⟩, fun c => ⟨va, ?_⟩⟩
  · rintro x rfl
    refine ⟨va, ?_⟩
    rintro f9 rfl
    rw [upd_n hab.symm, hf b (by omega)]
    refine ⟨fun _ => ⟨vb, ?_⟩, fun d => absurd c d⟩
    rintro y rfl
    refine ⟨vb, ?_⟩
    rintro f2 rfl
    have hi0 := e0.1 c
    exact isN_tied hf (by omega) (by omega) hab _ _ (by rw [q_dif, if_neg (by omega)]) (by rw [q_dif, if_neg (by omega)])
  · rintro x rfl
    refine ⟨va, ?_⟩
    rintro f9 rfl
    rw [upd_n hab.symm, hf b (by omega)]
    refine ⟨fun d => absurd d c, fun _ => ⟨vb, ?_⟩⟩
    rintro y rfl
    refine ⟨vb, ?_⟩
    rintro f2 rfl
    have hi1 : i = 1 := by
      have : ¬ i = 0 := fun q => c (e0.2 q)
      omega
    exact isN_tied hf (by omega) (by omega) hab _ _ (by rw [q_or, if_pos hi1]) (by rw [q_or, if_pos hi1])
theorem sp_put {n : Nat} {nr : Nat → Nat} {f : Nat → Int32} (hn : n ≤ 9) (hf : isN f nr) {a b i : Nat} (ha : a < n) (hb : b < n) (hab : a ≠ b) (hi : i ≤ 1) : wp_X9_put f (nI a) (nI b) (nI i) (fun f => isN f (tied nr a b i)) := by
  unfold wp_X9_put
  have va : vp_in (nI a) 9 := q_in (by omega) (by decide)
  have vb : vp_in (nI b) 9 := q_in (by omega) (by decide)
  have e1 : nI i = 1 ↔ i = 1 := q_eq (b := 1) (by omega) (by decide)
  rw [q_cl (show a < 2 ^ 31 by omega), q_cl (show b < 2 ^ 31 by omega), q_one (show a < 31 by omega), q_one (show b < 31 by omega), hf a (by omega)]
  refine ⟨fun c => ⟨va, ?_⟩, fun c => ⟨va, ?_⟩⟩
  · rintro x rfl
    refine ⟨va, ?_⟩
    rintro f9 rfl
    rw [upd_n hab.symm, hf b (by omega)]
    refine ⟨fun _ => ⟨vb, ?_⟩, fun d => absurd c d⟩
    rintro y rfl
    refine ⟨vb, ?_⟩
    rintro f2 rfl
    have hi1 := e1.1 c
    exact isN_tied hf (by omega) (by omega) hab _ _ (by rw [q_or, if_pos hi1]) (by rw [q_or, if_pos hi1])
  · rintro x rfl
    refine ⟨va, ?_⟩
    rintro f9 rfl
    rw [upd_n hab.symm, hf b (by omega)]
    refine ⟨fun d => absurd d c, fun _ => ⟨vb, ?_⟩⟩
    rintro y rfl
    refine ⟨vb, ?_⟩
    rintro f2 rfl
    have hi1 : ¬ i = 1 := fun q => c (e1.2 q)
    exact isN_tied hf (by omega) (by omega) hab _ _ (by rw [q_dif, if_neg hi1]) (by rw [q_dif, if_neg hi1])
def JoinPre (n : Nat) (p1 p2 p3 : Int32) (a b i : Nat) : Prop := a < n ∧ b < n ∧ a ≠ b ∧ i ≤ 1 ∧ p1 = nI a ∧ p2 = nI b ∧ p3 = nI i
def JoinNew (n : Nat) (nr : Nat → Nat) (p1 p2 p3 r : Int32) (nr' : Nat → Nat) : Prop :=
  (∃ a b i, JoinPre n p1 p2 p3 a b i ∧ r = nI ((nr a).testBit b).toNat ∧ nr' = tied nr a b i) ∨ ((¬ ∃ a b i, JoinPre n p1 p2 p3 a b i) ∧ r = -1 ∧ nr' = nr)
theorem JoinNew.one {n : Nat} {nr : Nat → Nat} (hn : n ≤ 9) {p1 p2 p3 r r2 : Int32} {nr' nr2 : Nat → Nat} (h : JoinNew n nr p1 p2 p3 r nr') (h2 : JoinNew n nr p1 p2 p3 r2 nr2) : r = r2 ∧ nr' = nr2 := by
  rcases h with ⟨a, b, i, ⟨a1, a2, a3, a4, rfl, rfl, rfl⟩, rfl, rfl⟩ | ⟨a1, rfl, rfl⟩
  · rcases h2 with ⟨a', b', i', ⟨b1, b2, b3, b4, b5, b6, b7⟩, rfl, rfl⟩ | ⟨b1, -⟩
    · have e1 := (q_eq (by omega) (by omega)).1 b5
      have e2 := (q_eq (by omega) (by omega)).1 b6
      have e3 := (q_eq (by omega) (by omega)).1 b7
      subst e1
      subst e2
      subst e3
      exact ⟨rfl, rfl⟩
    · exact absurd ⟨a, b, i, a1, a2, a3, a4, rfl, rfl, rfl⟩ b1
  · rcases h2 with ⟨a', b', i', b1, -⟩ | ⟨-, rfl, rfl⟩
    · exact absurd ⟨a', b', i', b1⟩ a1
    · exact ⟨rfl, rfl⟩
theorem JoinNew.ok {n : Nat} {nr : Nat → Nat} {p1 p2 p3 r : Int32} {nr' : Nat → Nat} (hN : NetOk n nr) (h : JoinNew n nr p1 p2 p3 r nr') : NetOk n nr' := by
  rcases h with ⟨a, b, i, ⟨a1, a2, a3, -⟩, -, rfl⟩ | ⟨-, -, rfl⟩
  · exact tied_ok hN a1 a2 a3
  · exact hN
theorem w_01 {x : Int32} : (0 ≤ x ∧ x ≤ 1) ↔ ∃ k : Nat, k ≤ 1 ∧ x = nI k := w_0n (n := 1) (by decide)
theorem sp_join8 {n : Nat} {nr : Nat → Nat} {fN : Nat → Int32} (h : NetOk n nr) (hf : isN fN nr) (p1 p2 p3 : Int32) : wp_X8_join (nI n) fN p1 p2 p3 (fun r f => ∃ nr', JoinNew n nr p1 p2 p3 r nr' ∧ isN f nr') := by
  have hn := h.2.1
  unfold wp_X8_join
  refine ⟨_, sp_hasNode hn p1, fun r1 hr1 => ⟨fun c => ⟨nr, Or.inr ⟨fun ⟨a, b, i, q⟩ => hr1.f c ⟨a, q.1, q.2.2.2.2.1⟩, rfl, rfl⟩, hf⟩, fun c1 => ⟨_, sp_hasNode hn p2, fun r2 hr2 => ⟨fun c => ⟨nr, Or.inr ⟨fun ⟨a, b, i, q⟩ => hr2.f c ⟨b, q.2.1, q.2.2.2.2.2.1⟩, rfl, rfl⟩, hf⟩, fun c2 => ?_⟩⟩⟩⟩
  obtain ⟨a, ha, rfl⟩ := hr1.t c1
  obtain ⟨b, hb, rfl⟩ := hr2.t c2
  have eab : nI a = nI b ↔ a = b := q_eq (by omega) (by omega)
  refine ⟨fun c => ⟨nr, Or.inr ⟨fun ⟨a', b', i, q⟩ => ?_, rfl, rfl⟩, hf⟩, fun c3 => ⟨_, sp_isWithin p3 0 1, fun r3 hr3 => ⟨fun c => ⟨nr, Or.inr ⟨fun ⟨_, _, i, q⟩ => hr3.f c (w_01.2 ⟨i, q.2.2.2.1, q.2.2.2.2.2.2⟩), rfl, rfl⟩, hf⟩, fun c4 => ?_⟩⟩⟩
  · obtain ⟨q1, q2, q3, q4, q5, q6, q7⟩ := q
    have := (q_eq (by omega) (by omega)).1 q5
    have := (q_eq (by omega) (by omega)).1 q6
    have := eab.1 c
    omega
  · obtain ⟨i, hi, rfl⟩ := w_01.1 (hr3.t c4)
    have hab : a ≠ b := fun q => c3 (eab.2 q)
    have hpre : JoinPre n (nI a) (nI b) (nI i) a b i := ⟨ha, hb, hab, hi, rfl, rfl, rfl⟩
    refine ⟨_, sp_areJoined h hf (nI a) (nI b), fun r4 hr4 => ⟨_, sp_asNumber hr4, fun r5 hr5 => ?_⟩⟩
    have hr : r5 = nI ((nr a).testBit b).toNat := by
      have : isB r5 ((nr a).testBit b = true) := hr5.iff ⟨fun ⟨a', b', q1, q2, q3, q4, q5⟩ => by
        have e1 := (q_eq (by omega) (by omega)).1 q3
        have e2 := (q_eq (by omega) (by omega)).1 q4
        rw [e1, e2]
        exact q5, fun q => ⟨a, b, ha, hb, rfl, rfl, q⟩⟩
      cases q : (nr a).testBit b with
      | true => exact this.1 q
      | false => exact this.2 (by rw [q]; decide)
    have e1 : nI i = 1 ↔ i = 1 := q_eq (b := 1) (by omega) (by decide)
    refine ⟨fun c => ⟨_, sp_tie (i := 1) hn hf ha hb hab (by omega), fun f hf' => ⟨_, Or.inl ⟨a, b, i, hpre, hr, rfl⟩, ?_⟩⟩, fun c => ⟨_, sp_tie (i := 0) hn hf ha hb hab (by omega), fun f hf' => ⟨_, Or.inl ⟨a, b, i, hpre, hr, rfl⟩, ?_⟩⟩⟩
    · rw [e1.1 c]
      exact hf'
    · have : i = 0 := by
        have : ¬ i = 1 := fun q => c (e1.2 q)
        omega
      rw [this]
      exact hf'
theorem sp_join9 {n : Nat} {nr : Nat → Nat} {jJ : Nat → Int32} (h : NetOk n nr) (hf : isN jJ nr) (p1 p2 p3 : Int32) : wp_X9_join (nI n) jJ p1 p2 p3 (fun r f => ∃ nr', JoinNew n nr p1 p2 p3 r nr' ∧ isN f nr') := by
  have hn := h.2.1
  have hn1 := h.1
  unfold wp_X9_join
  refine ⟨_, sp_isNode9 hn1 hn p1, fun r1 hr1 => ⟨fun c => ⟨nr, Or.inr ⟨fun ⟨a, b, i, q⟩ => hr1.f c ⟨a, q.1, q.2.2.2.2.1⟩, rfl, rfl⟩, hf⟩, fun c1 => ⟨_, sp_isNode9 hn1 hn p2, fun r2 hr2 => ⟨fun c => ⟨nr, Or.inr ⟨fun ⟨a, b, i, q⟩ => hr2.f c ⟨b, q.2.1, q.2.2.2.2.2.1⟩, rfl, rfl⟩, hf⟩, fun c2 => ?_⟩⟩⟩⟩
  obtain ⟨a, ha, rfl⟩ := hr1.t c1
  obtain ⟨b, hb, rfl⟩ := hr2.t c2
  have eab : nI a = nI b ↔ a = b := q_eq (by omega) (by omega)
  refine ⟨fun c => ⟨nr, Or.inr ⟨fun ⟨a', b', i, q⟩ => ?_, rfl, rfl⟩, hf⟩, fun c3 => ⟨_, sp_in p3 0 1, fun r3 hr3 => ⟨fun c => ⟨nr, Or.inr ⟨fun ⟨_, _, i, q⟩ => hr3.f c (w_01.2 ⟨i, q.2.2.2.1, q.2.2.2.2.2.2⟩), rfl, rfl⟩, hf⟩, fun c4 => ?_⟩⟩⟩
  · obtain ⟨q1, q2, q3, q4, q5, q6, q7⟩ := q
    have := (q_eq (by omega) (by omega)).1 q5
    have := (q_eq (by omega) (by omega)).1 q6
    have := eab.1 c
    omega
  · obtain ⟨i, hi, rfl⟩ := w_01.1 (hr3.t c4)
    have hab : a ≠ b := fun q => c3 (eab.2 q)
    have hna := h.lt9 a
    have hpre : JoinPre n (nI a) (nI b) (nI i) a b i := ⟨ha, hb, hab, hi, rfl, rfl, rfl⟩
    rw [q_cl (show a < 2 ^ 31 by omega), hf a (by omega)]
    refine ⟨q_in (by omega) (by decide), ?_⟩
    rintro x rfl
    exact ⟨_, sp_put hn hf ha hb hab hi, fun f hf' => ⟨_, Or.inl ⟨a, b, i, hpre, q_bit (by omega) (by omega), rfl⟩, hf'⟩⟩
/-! pairs -/
def sm (nr : Nat → Nat) : Nat → Nat
  | 0 => 0
  | k + 1 => sm nr k + pc (nr k)
theorem sm_le (nr : Nat → Nat) : ∀ k, sm nr k ≤ 9 * k
  | 0 => by show 0 ≤ 0; omega
  | k + 1 => by
    have := sm_le nr k
    have := pc_le (nr k)
    show sm nr k + pc (nr k) ≤ 9 * (k + 1)
    omega
theorem sp_pairs3 {n : Nat} {nr : Nat → Nat} {fN : Nat → Int32} (h : NetOk n nr) (hf : isN fN nr) : wp_X3_pairs (nI n) fN (fun r => r = nI (sm nr n / 2)) := by
  have hn := h.2.1
  unfold wp_X3_pairs
  refine ⟨fun b y => ∃ i, i ≤ n ∧ y = nI i ∧ b = nI (sm nr i), fun _ y => n - y.toNatClampNeg, ⟨0, by omega, rfl, rfl⟩, ?_⟩
  rintro b y ⟨i, hi, rfl, rfl⟩
  have hsm := sm_le nr i
  refine ⟨fun c => ?_, fun c => ?_⟩
  · have hin : i = n := by
      have := n_ge c (by omega) (by omega)
      omega
    subst hin
    have := q_shr (x := sm nr i) (k := 1) (by omega) (by omega)
    rw [Nat.shiftRight_eq_div_pow] at this
    exact this
  · have hlt := n_lt c (by omega) (by omega)
    rw [q_cl (show i < 2 ^ 31 by omega), hf i (by omega)]
    refine ⟨q_in (by omega) (by decide), _, sp_bitCount (h.lt9 i), ?_⟩
    rintro r rfl x rfl x2 rfl
    exact ⟨⟨i + 1, by omega, q_1 i, q_add _ _⟩, n_mu hlt (by omega)⟩
theorem sp_pairs9 {n : Nat} {nr : Nat → Nat} {jJ : Nat → Int32} (h : NetOk n nr) (hf : isN jJ nr) : wp_X9_pairs (nI n) jJ (fun r => r = nI (sm nr n / 2)) := by
  have hn := h.2.1
  unfold wp_X9_pairs
  refine ⟨fun b y => ∃ i, i ≤ n ∧ y = nI i ∧ b = nI (sm nr i), fun _ y => n - y.toNatClampNeg, ⟨0, by omega, rfl, rfl⟩, ?_⟩
  rintro b y ⟨i, hi, rfl, rfl⟩
  have hsm := sm_le nr i
  refine ⟨fun c => ?_, fun c => ?_⟩
  · have hin : i = n := by
      have := n_ge c (by omega) (by omega)
      omega
    subst hin
    exact pk_div (a := sm nr i) (d := 2) (by omega) (by omega) (by omega)
  · have hlt := n_lt c (by omega) (by omega)
    have := h.lt9 i
    rw [q_cl (show i < 2 ^ 31 by omega), hf i (by omega)]
    refine ⟨q_in (by omega) (by decide), _, sp_size (by omega), ?_⟩
    rintro r rfl x rfl x2 rfl
    exact ⟨⟨i + 1, by omega, q_1 i, q_add _ _⟩, n_mu hlt (by omega)⟩
/-! shapes -/
def shp (s n lo hi : Nat) : Prop := (s = 0 ∧ hi = lo + 1) ∨ (s = 1 ∧ (hi = lo + 1 ∨ (lo = 0 ∧ hi = n - 1))) ∨ s = 2 ∨ (s = 3 ∧ lo = 0)
theorem sp_isInShape {n s a b : Nat} (hn : n ≤ 9) (hs : s ≤ 3) (hab : a < b) (hb : b < n) : wp_X3_isInShape (nI n) (nI s) (nI a) (nI b) (fun r => isB r (shp s n a b)) := by
  unfold wp_X3_isInShape shp
  have e0 : nI s = 0 ↔ s = 0 := q_eq0 (by omega)
  have e1 : nI s = 1 ↔ s = 1 := q_eq (b := 1) (by omega) (by decide)
  have e2 : nI s = 2 ↔ s = 2 := q_eq (b := 2) (by omega) (by decide)
  have ea0 : nI a = 0 ↔ a = 0 := q_eq0 (by omega)
  have en : nI n - (1 : Int32) = nI (n - 1) := q_sub (b := 1) (by omega)
  have ea : nI a + (1 : Int32) = nI (a + 1) := q_1 a
  rw [en, ea]
  have eb1 : nI b = nI (a + 1) ↔ b = a + 1 := q_eq (by omega) (by omega)
  have ebn : nI b = nI (n - 1) ↔ b = n - 1 := q_eq (by omega) (by omega)
  refine ⟨fun c => ⟨fun d => isB.yes ?_, fun d => isB.no ?_⟩, fun c => ⟨fun d => isB.yes ?_, fun d => ⟨fun d2 => ⟨fun d3 => isB.yes ?_, fun d3 => isB.no ?_⟩, fun d2 => isB.no ?_⟩⟩, fun c => isB.yes ?_, fun c c1 c2 => ⟨fun d => isB.yes ?_, fun d => isB.no ?_⟩⟩ <;> simp only [e0, e1, e2, ea0, eb1, ebn] at * <;> omega
/-- the net's joins are just the pairs of S (told with the lesser node first) -/
def InP (S : Nat → Nat → Prop) (nr : Nat → Nat) : Prop := ∀ a b, (nr a).testBit b = true ↔ ((a < b ∧ S a b) ∨ (b < a ∧ S b a))
theorem InP.iff {S S' : Nat → Nat → Prop} {nr : Nat → Nat} (h : InP S nr) (e : ∀ a b, a < b → (S a b ↔ S' a b)) : InP S' nr := by
  intro a b
  rw [h a b]
  constructor
  · rintro (⟨h1, h2⟩ | ⟨h1, h2⟩)
    · exact Or.inl ⟨h1, (e a b h1).1 h2⟩
    · exact Or.inr ⟨h1, (e b a h1).1 h2⟩
  · rintro (⟨h1, h2⟩ | ⟨h1, h2⟩)
    · exact Or.inl ⟨h1, (e a b h1).2 h2⟩
    · exact Or.inr ⟨h1, (e b a h1).2 h2⟩
theorem InP.one {S : Nat → Nat → Prop} {nr nr' : Nat → Nat} (h : InP S nr) (h' : InP S nr') : nr = nr' := by
  funext a
  apply Nat.eq_of_testBit_eq
  intro b
  have := (h a b).trans (h' a b).symm
  cases q : (nr a).testBit b <;> cases q2 : (nr' a).testBit b
  · rfl
  · rw [q, q2] at this; exact this.2 rfl
  · rw [q, q2] at this; exact (this.1 rfl).symm
  · rfl
theorem InP.ok {n : Nat} {S : Nat → Nat → Prop} {nr : Nat → Nat} (h1 : 1 ≤ n) (hn : n ≤ 9) (h : InP S nr) (hS : ∀ a b, a < b → S a b → b < n) : NetOk n nr := by
  refine ⟨h1, hn, fun a b q => ?_⟩
  rw [h a b] at q
  rw [h b a]
  rcases q with ⟨q1, q2⟩ | ⟨q1, q2⟩
  · have := hS a b q1 q2
    exact ⟨by omega, by omega, by omega, Or.inr ⟨q1, q2⟩⟩
  · have := hS b a q1 q2
    exact ⟨by omega, by omega, by omega, Or.inl ⟨q1, q2⟩⟩
theorem InP.tie {S : Nat → Nat → Prop} {nr : Nat → Nat} (h : InP S nr) {a b i : Nat} (hab : a < b) : InP (fun x y => if x = a ∧ y = b then i = 1 else S x y) (tied nr a b i) ∧ InP (fun x y => if x = a ∧ y = b then i = 1 else S x y) (tied nr b a i) := by
  have key : ∀ x y, (if (x = a ∧ y = b) ∨ (x = b ∧ y = a) then decide (i = 1) else (nr x).testBit y) = true ↔ ((x < y ∧ (if x = a ∧ y = b then i = 1 else S x y)) ∨ (y < x ∧ (if y = a ∧ x = b then i = 1 else S y x))) := by
    intro x y
    by_cases c : (x = a ∧ y = b)
    · rw [if_pos (Or.inl c), if_pos c]
      simp
      constructor
      · exact fun q => Or.inl ⟨by omega, q⟩
      · rintro (q | q)
        · exact q.2
        · omega
    · by_cases d : (x = b ∧ y = a)
      · rw [if_pos (Or.inr d), if_pos (show y = a ∧ x = b from ⟨d.2, d.1⟩)]
        simp
        constructor
        · exact fun q => Or.inr ⟨by omega, q⟩
        · rintro (q | q)
          · omega
          · exact q.2
      · rw [if_neg (by omega), if_neg c, if_neg (by omega)]
        exact h x y
  refine ⟨fun x y => ?_, fun x y => ?_⟩
  · rw [tied_bit (by omega)]
    exact key x y
  · rw [tied_bit (by omega)]
    have : ((x = b ∧ y = a) ∨ (x = a ∧ y = b)) ↔ ((x = a ∧ y = b) ∨ (x = b ∧ y = a)) := Or.comm
    simp only [this]
    exact key x y
def ShapeNew (n : Nat) (nr : Nat → Nat) (p1 r : Int32) (nr' : Nat → Nat) : Prop :=
  (∃ s, s ≤ 3 ∧ p1 = nI s ∧ InP (fun a b => b < n ∧ shp s n a b) nr' ∧ r = nI (sm nr' n / 2)) ∨ ((¬ ∃ s : Nat, s ≤ 3 ∧ p1 = nI s) ∧ r = -1 ∧ nr' = nr)
theorem ShapeNew.one {n : Nat} {nr : Nat → Nat} {p1 r r2 : Int32} {nr' nr2 : Nat → Nat} (h : ShapeNew n nr p1 r nr') (h2 : ShapeNew n nr p1 r2 nr2) : r = r2 ∧ nr' = nr2 := by
  rcases h with ⟨s, a1, rfl, a3, rfl⟩ | ⟨a1, rfl, rfl⟩
  · rcases h2 with ⟨s', b1, b2, b3, rfl⟩ | ⟨b1, -⟩
    · have e := (q_eq (by omega) (by omega)).1 b2
      subst e
      have := a3.one b3
      subst this
      exact ⟨rfl, rfl⟩
    · exact absurd ⟨s, a1, rfl⟩ b1
  · rcases h2 with ⟨s', b1, b2, -⟩ | ⟨-, rfl, rfl⟩
    · exact absurd ⟨s', b1, b2⟩ a1
    · exact ⟨rfl, rfl⟩
theorem ShapeNew.ok {n : Nat} {nr : Nat → Nat} {p1 r : Int32} {nr' : Nat → Nat} (hN : NetOk n nr) (h : ShapeNew n nr p1 r nr') : NetOk n nr' := by
  rcases h with ⟨s, -, -, h, -⟩ | ⟨-, -, rfl⟩
  · exact h.ok hN.1 hN.2.1 (fun a b _ q => q.1)
  · exact hN
theorem InP0 {S : Nat → Nat → Prop} (h : ∀ a b, a < b → ¬ S a b) : InP S (fun _ => 0) := by
  intro a b
  rw [Nat.zero_testBit]
  constructor
  · intro q; cases q
  · rintro (⟨h1, h2⟩ | ⟨h1, h2⟩)
    · exact absurd h2 (h _ _ h1)
    · exact absurd h2 (h _ _ h1)
theorem sp_shape8 {n : Nat} {nr : Nat → Nat} {fN : Nat → Int32} (h : NetOk n nr) (hf : isN fN nr) (p1 : Int32) : wp_X8_shape (nI n) fN p1 (fun r z f => z = nI n ∧ ∃ nr', ShapeNew n nr p1 r nr' ∧ isN f nr') := by
  have hn := h.2.1
  unfold wp_X8_shape
  refine ⟨_, sp_isWithin p1 0 3, fun r1 hr1 => ?_⟩
  have hr1 := hr1.iff (w_0n (n := 3) (by decide))
  refine ⟨fun c => ⟨rfl, nr, Or.inr ⟨hr1.f c, rfl, rfl⟩, hf⟩, fun c => ?_⟩
  obtain ⟨s, hs, rfl⟩ := hr1.t c
  refine ⟨fun z f => z = nI n ∧ ∃ nr', InP (fun a b => b < n ∧ shp s n a b) nr' ∧ isN f nr', ?_, ?_⟩
  · unfold wp_X3_form wp_X3_restart
    refine ⟨fun z f => z = nI n ∧ ∀ k, k < 9 → f k = 0, ⟨_, sp_fill fN, fun f hf => ⟨rfl, hf⟩⟩, ?_⟩
    rintro z3 f4 ⟨rfl, hf4⟩
    refine ⟨fun y f => ∃ i nr', i ≤ n ∧ y = nI i ∧ isN f nr' ∧ InP (fun a b => b < n ∧ a < i ∧ shp s n a b) nr', fun y _ => n - y.toNatClampNeg, ⟨0, fun _ => 0, by omega, rfl, isN0 hf4, InP0 (fun a b _ q => by omega)⟩, ?_⟩
    rintro y f ⟨i, nr', hi, rfl, hN, hI⟩
    refine ⟨fun c => ⟨rfl, nr', hI.iff (fun a b hab => ?_), hN⟩, fun c => ?_⟩
    · have := n_ge c (by omega) (by omega)
      constructor
      · exact fun q => ⟨q.1, q.2.2⟩
      · exact fun q => ⟨q.1, by omega, q.2⟩
    have hlt := n_lt c (by omega) (by omega)
    rintro x8 rfl
    refine ⟨fun y f => ∃ j nr', i + 1 ≤ j ∧ j ≤ n ∧ y = nI j ∧ isN f nr' ∧ InP (fun a b => b < n ∧ (a < i ∨ (a = i ∧ b < j)) ∧ shp s n a b) nr', fun y _ => n - y.toNatClampNeg, ⟨i + 1, nr', by omega, by omega, q_1 i, hN, hI.iff (fun a b hab => ⟨fun q => ⟨q.1, Or.inl q.2.1, q.2.2⟩, fun q => ⟨q.1, by omega, q.2.2⟩⟩)⟩, ?_⟩
    rintro y f ⟨j, nr2, hj1, hj2, rfl, hN2, hJ⟩
    refine ⟨fun c2 => ?_, fun c2 => ?_⟩
    · rintro x rfl
      have := n_ge c2 (by omega) (by omega)
      exact ⟨⟨i + 1, nr2, by omega, q_1 i, hN2, hJ.iff (fun a b hab => ⟨fun q => ⟨q.1, by omega, q.2.2⟩, fun q => ⟨q.1, by omega, q.2.2⟩⟩)⟩, n_mu hlt (by omega)⟩
    have hlt2 := n_lt c2 (by omega) (by omega)
    refine ⟨_, sp_isInShape hn hs (by omega) hlt2, fun r hr => ?_⟩
    obtain ⟨i9, hi9, rfl, hr9⟩ : ∃ i9 : Nat, i9 ≤ 1 ∧ r = nI i9 ∧ (i9 = 1 ↔ shp s n i j) := by
      rcases Classical.em (shp s n i j) with q | q
      · exact ⟨1, by omega, hr.1 q, ⟨fun _ => q, fun _ => rfl⟩⟩
      · exact ⟨0, by omega, hr.2 q, ⟨fun v => by omega, fun v => absurd v q⟩⟩
    refine ⟨_, sp_tie hn hN2 (a := i) (b := j) (by omega) hlt2 (by omega) hi9, fun f2 hf2 => ?_⟩
    rintro x rfl
    refine ⟨⟨j + 1, _, by omega, by omega, q_1 j, hf2, (hJ.tie (i := i9) (by omega)).1.iff (fun a b hab => ?_)⟩, n_mu hlt2 (by omega)⟩
    by_cases q : a = i ∧ b = j
    · rw [if_pos q, hr9, q.1, q.2]
      exact ⟨fun v => ⟨hlt2, Or.inr ⟨rfl, by omega⟩, v⟩, fun v => v.2.2⟩
    · rw [if_neg q]
      exact ⟨fun v => ⟨v.1, by omega, v.2.2⟩, fun v => ⟨v.1, by omega, v.2.2⟩⟩
  · rintro z f ⟨rfl, nr', hI, hN⟩
    have hok : NetOk n nr' := hI.ok h.1 hn (fun a b _ q => q.1)
    refine ⟨_, sp_pairs3 hok hN, ?_⟩
    rintro r rfl
    exact ⟨rfl, nr', Or.inl ⟨s, hs, rfl, hI, rfl⟩, hN⟩
theorem sp_shape9 {n : Nat} {nr : Nat → Nat} {jJ : Nat → Int32} (h : NetOk n nr) (hf : isN jJ nr) (p1 : Int32) : wp_X9_shape (nI n) jJ p1 (fun r f => ∃ nr', ShapeNew n nr p1 r nr' ∧ isN f nr') := by
  have hn := h.2.1
  have hn1 := h.1
  unfold wp_X9_shape
  refine ⟨_, sp_in p1 0 3, fun r1 hr1 => ?_⟩
  have hr1 := hr1.iff (w_0n (n := 3) (by decide))
  refine ⟨fun c => ⟨nr, Or.inr ⟨hr1.f c, rfl, rfl⟩, hf⟩, fun c => ?_⟩
  obtain ⟨s, hs, rfl⟩ := hr1.t c
  have e1 : nI s = 1 ↔ s = 1 := q_eq (b := 1) (by omega) (by decide)
  have e2 : nI s = 2 ↔ s = 2 := q_eq (b := 2) (by omega) (by decide)
  have e2' : 2 ≤ nI s ↔ 2 ≤ s := q_le (a := 2) (by decide) (by omega)
  have en2 : nI n ≤ 2 ↔ n ≤ 2 := q_le (b := 2) (by omega) (by decide)
  have en : nI n - (1 : Int32) = nI (n - 1) := q_sub (b := 1) (by omega)
  rw [en]
  refine ⟨_, sp_part jJ, fun f6 hf6 => ?_⟩
  refine ⟨fun y f => ∃ i nr', i ≤ n ∧ y = nI i ∧ isN f nr' ∧ InP (fun a b => b < i ∧ shp s n a b) nr', fun y _ => n - y.toNatClampNeg, ⟨0, fun _ => 0, by omega, rfl, isN0 hf6, InP0 (fun a b _ q => by omega)⟩, ?_⟩
  rintro y f ⟨i, nr', hi, rfl, hN, hI⟩
  refine ⟨fun c => ?_, fun c => ?_⟩
  · have hin : i = n := by
      have := n_ge c (by omega) (by omega)
      omega
    subst hin
    have hok : NetOk i nr' := hI.ok h.1 hn (fun a b _ q => q.1)
    refine ⟨_, sp_pairs9 hok hN, ?_⟩
    rintro r rfl
    exact ⟨nr', Or.inl ⟨s, hs, rfl, hI, rfl⟩, hN⟩
  have hlt := n_lt c (by omega) (by omega)
  have ein : nI i = nI (n - 1) ↔ i = n - 1 := q_eq (by omega) (by omega)
  refine ⟨fun y f => ∃ j nr', j ≤ i ∧ y = nI j ∧ isN f nr' ∧ InP (fun a b => (b < i ∨ (b = i ∧ a < j)) ∧ shp s n a b) nr', fun y _ => i - y.toNatClampNeg, ⟨0, nr', by omega, rfl, hN, hI.iff (fun a b hab => ⟨fun q => ⟨Or.inl q.1, q.2⟩, fun q => ⟨by omega, q.2⟩⟩)⟩, ?_⟩
  rintro y f ⟨j, nr2, hj, rfl, hN2, hJ⟩
  refine ⟨fun c2 => ?_, fun c2 => ?_⟩
  · rintro x rfl
    have := n_ge c2 (by omega) (by omega)
    exact ⟨⟨i + 1, nr2, by omega, q_1 i, hN2, hJ.iff (fun a b hab => ⟨fun q => ⟨by omega, q.2⟩, fun q => ⟨by omega, q.2⟩⟩)⟩, n_mu hlt (by omega)⟩
  have hlt2 := n_lt c2 (by omega) (by omega)
  have ej0 : nI j = 0 ↔ j = 0 := q_eq0 (by omega)
  have ei1 : nI i - (1 : Int32) = nI (i - 1) := q_sub (b := 1) (by omega)
  rw [ei1]
  have eji : nI j = nI (i - 1) ↔ j = i - 1 := q_eq (by omega) (by omega)
  -- joined, or not
  have yes : shp s n j i → ∃ Q24 : (Nat → Int32) → Prop, wp_X9_put f (nI i) (nI j) 1 Q24 ∧ ∀ (f26 : Nat → Int32), Q24 f26 → ∀ x27 : Int32, x27 = nI j + 1 → (∃ j nr', j ≤ i ∧ x27 = nI j ∧ isN f26 nr' ∧ InP (fun a b => (b < i ∨ (b = i ∧ a < j)) ∧ shp s n a b) nr') ∧ i - x27.toNatClampNeg < i - (nI j).toNatClampNeg := by
    intro q
    refine ⟨_, sp_put (i := 1) hn hN2 (a := i) (b := j) hlt (by omega) (by omega) (by omega), fun f2 hf2 => ?_⟩
    rintro x rfl
    refine ⟨⟨j + 1, _, by omega, q_1 j, hf2, (hJ.tie (i := 1) hlt2).2.iff (fun a b hab => ?_)⟩, n_mu hlt2 (by omega)⟩
    by_cases v : a = j ∧ b = i
    · rw [if_pos v, v.1, v.2]
      exact ⟨fun _ => ⟨Or.inr ⟨rfl, by omega⟩, q⟩, fun _ => rfl⟩
    · rw [if_neg v]
      exact ⟨fun v => ⟨by omega, v.2⟩, fun v => ⟨by omega, v.2⟩⟩
  have no : ¬ shp s n j i → ∀ x27 : Int32, x27 = nI j + 1 → (∃ j nr', j ≤ i ∧ x27 = nI j ∧ isN f nr' ∧ InP (fun a b => (b < i ∨ (b = i ∧ a < j)) ∧ shp s n a b) nr') ∧ i - x27.toNatClampNeg < i - (nI j).toNatClampNeg := by
    rintro q x rfl
    refine ⟨⟨j + 1, nr2, by omega, q_1 j, hN2, hJ.iff (fun a b hab => ⟨fun v => ⟨by omega, v.2⟩, fun v => ⟨?_, v.2⟩⟩)⟩, n_mu hlt2 (by omega)⟩
    rcases v.1 with w | ⟨w1, w2⟩
    · exact Or.inl w
    · refine Or.inr ⟨w1, ?_⟩
      rcases Nat.lt_or_ge a j with u | u
      · exact u
      · have ea : a = j := by omega
        rw [ea, w1] at v
        exact absurd v.2 q
  -- beside
  refine ⟨fun t => isB t (j = i - 1 ∨ (s = 1 ∧ 2 < n ∧ i = n - 1 ∧ j = 0)), ⟨j = i - 1 ∨ (s = 1 ∧ 2 < n ∧ i = n - 1 ∧ j = 0), ⟨fun d => Or.inl (eji.1 d), fun d => ⟨¬ (j = i - 1 ∨ (s = 1 ∧ 2 < n ∧ i = n - 1 ∧ j = 0)), ⟨fun d1 => ⟨fun d2 => ?_, fun d2 => ⟨fun d3 => ⟨fun d4 => ?_, fun d4 => ?_⟩, fun d3 => ?_⟩⟩, fun d1 => ?_⟩, fun q => isB.no q⟩⟩, fun q => isB.yes q⟩, fun t ht => ?_⟩
  · have := (not_congr eji).1 d
    have := en2.1 d2
    omega
  · have := e1.1 d1
    have := (not_congr en2).1 d2
    have := ein.1 d3
    have := ej0.1 d4
    exact Or.inr ⟨by omega, by omega, by omega, by omega⟩
  · have := (not_congr eji).1 d
    have := (not_congr ej0).1 d4
    omega
  · have := (not_congr eji).1 d
    have := (not_congr ein).1 d3
    omega
  · have := (not_congr eji).1 d
    have := (not_congr e1).1 d1
    omega
  · refine ⟨fun d => ⟨fun d2 => yes ?_, fun d2 => ⟨fun d3 => yes ?_, fun d3 => no ?_⟩⟩, fun d => ⟨fun d2 => no ?_, fun d2 => yes ?_⟩⟩
    · have := e2.1 d2
      unfold shp
      omega
    · have := e2'.1 d
      have := (not_congr e2).1 d2
      have := ej0.1 d3
      unfold shp
      omega
    · have := e2'.1 d
      have := (not_congr e2).1 d2
      have := (not_congr ej0).1 d3
      unfold shp
      omega
    · have := (not_congr e2').1 d
      have := ht.f d2
      unfold shp
      omega
    · have := (not_congr e2').1 d
      have := ht.t d2
      unfold shp
      omega
/-! set -/
def setF (vLe vMo vCo p1 p2 : Int32) : Int32 × Int32 × Int32 × Int32 :=
  if p1 = 0 then (if 0 ≤ p2 ∧ p2 ≤ 9 then (vLe, p2, vMo, vCo) else (-1, vLe, vMo, vCo))
  else if p1 = 1 then (if 0 ≤ p2 ∧ p2 ≤ 9 then (vMo, vLe, p2, vCo) else (-1, vLe, vMo, vCo))
  else if p1 = 2 then (if 1 ≤ p2 ∧ p2 ≤ 4 then (vCo, vLe, vMo, p2) else (-1, vLe, vMo, vCo)) else (-1, vLe, vMo, vCo)
theorem sp_set8 (vLe vMo vCo p1 p2 : Int32) : wp_X8_set vLe vMo vCo p1 p2 (fun r a b c => (r, a, b, c) = setF vLe vMo vCo p1 p2) := by
  unfold wp_X8_set setF
  refine ⟨fun c => ⟨fun d => absurd d (by decide), fun _ => ⟨fun d => absurd d (by decide), fun _ => ⟨_, sp_isWithin p1 0 2, fun r hr => ⟨fun d => ?_, fun d => ⟨_, sp_isWithin p2 1 4, fun r2 hr2 => ⟨fun d2 => ?_, fun d2 => ⟨fun d3 => absurd d3 (by decide), fun _ => ?_⟩⟩⟩⟩⟩⟩⟩, fun c => ⟨fun _ => ⟨fun _ => ⟨_, sp_isWithin p1 0 2, fun r hr => ⟨fun d => ?_, fun d => ⟨_, sp_isWithin p2 0 9, fun r2 hr2 => ⟨fun d2 => ?_, fun d2 => ⟨fun _ => ⟨fun d3 => ?_, fun d3 => ?_⟩, fun d3 => absurd rfl d3⟩⟩⟩⟩⟩, fun d => absurd rfl d⟩, fun d => absurd rfl d⟩⟩
  · subst c
    exact absurd (by decide) (hr.f d)
  · subst c
    rw [if_neg (by decide), if_neg (by decide), if_pos rfl, if_neg (hr2.f d2)]
  · subst c
    rw [if_neg (by decide), if_neg (by decide), if_pos rfl, if_pos (hr2.t d2)]
  · have hno := hr.f d
    rw [if_neg (fun q => hno (by rw [q]; decide)), if_neg (fun q => hno (by rw [q]; decide)), if_neg c]
  · by_cases q : p1 = 0
    · rw [if_pos q, if_neg (hr2.f d2)]
    · rw [if_neg q]
      by_cases q2 : p1 = 1
      · rw [if_pos q2, if_neg (hr2.f d2)]
      · rw [if_neg q2, if_neg c]
  · subst d3
    rw [if_neg (by decide), if_pos rfl, if_pos (hr2.t d2)]
  · have h0 : p1 = 0 := by
      obtain ⟨k, hk, rfl⟩ := w_02.1 (hr.t d)
      have hc : k = 0 ∨ k = 1 ∨ k = 2 := by omega
      rcases hc with rfl | rfl | rfl
      · rfl
      · exact absurd rfl d3
      · exact absurd rfl c
    rw [if_pos h0, if_pos (hr2.t d2)]
theorem sp_set9 (vLe vMo vCo p1 p2 : Int32) : wp_X9_set vLe vMo vCo p1 p2 (fun r a b c => (r, a, b, c) = setF vLe vMo vCo p1 p2) := by
  unfold wp_X9_set setF
  refine ⟨fun c => ⟨_, sp_in p2 0 9, fun r hr => ⟨fun d => ⟨fun c2 => absurd (c.symm.trans c2) (by decide), fun _ => ⟨fun c3 => absurd (c.symm.trans c3) (by decide), fun _ => by rw [if_pos c, if_neg (hr.f d)]⟩⟩, fun d => by rw [if_pos c, if_pos (hr.t d)]⟩⟩, fun c => ⟨fun c2 => ⟨_, sp_in p2 0 9, fun r hr => ⟨fun d => ⟨fun c3 => absurd (c2.symm.trans c3) (by decide), fun _ => by rw [if_neg c, if_pos c2, if_neg (hr.f d)]⟩, fun d => by rw [if_neg c, if_pos c2, if_pos (hr.t d)]⟩⟩, fun c2 => ⟨fun c3 => ⟨_, sp_in p2 1 4, fun r hr => ⟨fun d => by rw [if_neg c, if_neg c2, if_pos c3, if_neg (hr.f d)], fun d => by rw [if_neg c, if_neg c2, if_pos c3, if_pos (hr.t d)]⟩⟩, fun c3 => by rw [if_neg c, if_neg c2, if_neg c3]⟩⟩⟩
theorem setF_ok {lo hi c : Nat} (hlo : lo ≤ 9) (hhi : hi ≤ 9) (hc : c ≤ 4) {p1 p2 r a b d : Int32} (h : (r, a, b, d) = setF (nI lo) (nI hi) (nI c) p1 p2) : ∃ lo' hi' c', lo' ≤ 9 ∧ hi' ≤ 9 ∧ c' ≤ 4 ∧ a = nI lo' ∧ b = nI hi' ∧ d = nI c' := by
  unfold setF at h
  have same : (r, a, b, d) = ((-1 : Int32), nI lo, nI hi, nI c) → ∃ lo' hi' c', lo' ≤ 9 ∧ hi' ≤ 9 ∧ c' ≤ 4 ∧ a = nI lo' ∧ b = nI hi' ∧ d = nI c' := by
    intro q
    simp only [Prod.mk.injEq] at q
    exact ⟨lo, hi, c, hlo, hhi, hc, q.2.1, q.2.2.1, q.2.2.2⟩
  by_cases q : p1 = 0
  · rw [if_pos q] at h
    by_cases q2 : 0 ≤ p2 ∧ p2 ≤ 9
    · rw [if_pos q2] at h
      simp only [Prod.mk.injEq] at h
      obtain ⟨k, hk, e⟩ := (w_0n (n := 9) (by decide)).1 q2
      exact ⟨k, hi, c, hk, hhi, hc, h.2.1.trans e, h.2.2.1, h.2.2.2⟩
    · rw [if_neg q2] at h
      exact same h
  · rw [if_neg q] at h
    by_cases q3 : p1 = 1
    · rw [if_pos q3] at h
      by_cases q2 : 0 ≤ p2 ∧ p2 ≤ 9
      · rw [if_pos q2] at h
        simp only [Prod.mk.injEq] at h
        obtain ⟨k, hk, e⟩ := (w_0n (n := 9) (by decide)).1 q2
        exact ⟨lo, k, c, hlo, hk, hc, h.2.1, h.2.2.1.trans e, h.2.2.2⟩
      · rw [if_neg q2] at h
        exact same h
    · rw [if_neg q3] at h
      by_cases q4 : p1 = 2
      · rw [if_pos q4] at h
        by_cases q2 : 1 ≤ p2 ∧ p2 ≤ 4
        · rw [if_pos q2] at h
          simp only [Prod.mk.injEq] at h
          obtain ⟨k, -, hk, e⟩ := q_within (a := 1) (b := 4) (by decide) q2.1 q2.2 (by decide)
          exact ⟨lo, hi, k, hlo, hhi, hk, h.2.1, h.2.2.1, h.2.2.2.trans e⟩
        · rw [if_neg q2] at h
          exact same h
      · rw [if_neg q4] at h
        exact same h
/-! lawful, count, told -/
def AnsLaw (n : Nat) (nr : Nat → Nat) (p1 p2 r : Int32) : Prop :=
  (∃ k s, k ≤ 2 ∧ p1 = nI k ∧ s < 2 ^ n ∧ p2 = nI s ∧ isB r (Lw n nr k s)) ∨ (¬ ((∃ k : Nat, k ≤ 2 ∧ p1 = nI k) ∧ ∃ s, s < 2 ^ n ∧ p2 = nI s) ∧ r = -1)
theorem AnsLaw.one {n : Nat} {nr : Nat → Nat} {p1 p2 r r' : Int32} (hn : n ≤ 9) (h : AnsLaw n nr p1 p2 r) (h' : AnsLaw n nr p1 p2 r') : r = r' := by
  have hp := p2_9 hn
  rcases h with ⟨k, s, h1, rfl, h3, rfl, h5⟩ | ⟨h, rfl⟩
  · rcases h' with ⟨k', s', h1', h2', h3', h4', h5'⟩ | ⟨h', -⟩
    · have e := (q_eq (by omega) (by omega)).1 h2'
      subst e
      have e := (q_eq (by omega) (by omega)).1 h4'
      subst e
      exact h5.one h5' Iff.rfl
    · exact absurd ⟨⟨k, h1, rfl⟩, s, h3, rfl⟩ h'
  · rcases h' with ⟨k', s', h1', h2', h3', h4', -⟩ | ⟨-, rfl⟩
    · exact absurd ⟨⟨k', h1', h2'⟩, s', h3', h4'⟩ h
    · rfl
theorem sp_lawful8 {n : Nat} {nr : Nat → Nat} {fN : Nat → Int32} (h : NetOk n nr) (hf : isN fN nr) (p1 p2 : Int32) : wp_X8_lawful (nI n) fN p1 p2 (AnsLaw n nr p1 p2) := by
  unfold wp_X8_lawful
  refine ⟨_, sp_isKind8 p1, fun r1 hr1 => ⟨fun c => Or.inr ⟨fun q => hr1.f c q.1, rfl⟩, fun c1 => ⟨_, sp_hasSet h.2.1 p2, fun r2 hr2 => ⟨fun c => Or.inr ⟨fun q => hr2.f c q.2, rfl⟩, fun c2 => ?_⟩⟩⟩⟩
  obtain ⟨k, hk, rfl⟩ := hr1.t c1
  obtain ⟨s, hs, rfl⟩ := hr2.t c2
  exact ⟨_, sp_isLawful h hf hk hs, fun r3 hr3 => ⟨_, sp_asNumber hr3, fun r4 hr4 => Or.inl ⟨k, s, hk, rfl, hs, rfl, hr4⟩⟩⟩
theorem sp_lawful9 {n : Nat} {nr : Nat → Nat} {jJ : Nat → Int32} (h : NetOk n nr) (hf : isN jJ nr) (p1 p2 : Int32) : wp_X9_lawful (nI n) jJ p1 p2 (AnsLaw n nr p1 p2) := by
  unfold wp_X9_lawful
  refine ⟨_, sp_isKind9 p1, fun r1 hr1 => ⟨fun c => Or.inr ⟨fun q => hr1.f c q.1, rfl⟩, fun c1 => ⟨_, sp_isSet9 h.2.1 p2, fun r2 hr2 => ⟨fun c => Or.inr ⟨fun q => hr2.f c q.2, rfl⟩, fun c2 => ?_⟩⟩⟩⟩
  obtain ⟨k, hk, rfl⟩ := hr1.t c1
  obtain ⟨s, hs, rfl⟩ := hr2.t c2
  exact ⟨_, sp_isLawful9 h hf hk hs, fun r3 hr3 => ⟨fun c => Or.inl ⟨k, s, hk, rfl, hs, rfl, isB.no (hr3.f c)⟩, fun c => Or.inl ⟨k, s, hk, rfl, hs, rfl, isB.yes (hr3.t c)⟩⟩⟩
noncomputable def cnt (n : Nat) (nr : Nat → Nat) (k : Nat) (p2 : Int32) : Nat → Bool := fun s => okB ((p2 = -1 ∨ nI (pc s) = p2) ∧ Lw n nr k s)
def AnsCount (n : Nat) (nr : Nat → Nat) (p1 p2 r : Int32) : Prop :=
  (∃ k, k ≤ 2 ∧ p1 = nI k ∧ (-1 ≤ p2 ∧ p2 ≤ nI n) ∧ r = nI (ctB (cnt n nr k p2) (2 ^ n))) ∨ (¬ ((∃ k : Nat, k ≤ 2 ∧ p1 = nI k) ∧ -1 ≤ p2 ∧ p2 ≤ nI n) ∧ r = -1)
theorem AnsCount.one {n : Nat} {nr : Nat → Nat} {p1 p2 r r' : Int32} (h : AnsCount n nr p1 p2 r) (h' : AnsCount n nr p1 p2 r') : r = r' := by
  rcases h with ⟨k, h1, rfl, h3, rfl⟩ | ⟨h, rfl⟩
  · rcases h' with ⟨k', h1', h2', h3', rfl⟩ | ⟨h', -⟩
    · have e := (q_eq (by omega) (by omega)).1 h2'
      subst e
      rfl
    · exact absurd ⟨⟨k, h1, rfl⟩, h3⟩ h'
  · rcases h' with ⟨k', h1', h2', h3', -⟩ | ⟨-, rfl⟩
    · exact absurd ⟨⟨k', h1', h2'⟩, h3'⟩ h
    · rfl
theorem sp_count8 {n : Nat} {nr : Nat → Nat} {fN : Nat → Int32} (h : NetOk n nr) (hf : isN fN nr) (p1 p2 : Int32) : wp_X8_count (nI n) fN p1 p2 (AnsCount n nr p1 p2) := by
  have hn := h.2.1
  have hp := p2_9 hn
  have hpos := Nat.two_pow_pos n
  unfold wp_X8_count
  refine ⟨_, sp_isKind8 p1, fun r1 hr1 => ⟨fun c => Or.inr ⟨fun q => hr1.f c q.1, rfl⟩, fun c1 => ⟨_, sp_isWithin p2 (-1) (nI n), fun r2 hr2 => ⟨fun c => Or.inr ⟨fun q => hr2.f c q.2, rfl⟩, fun c2 => ?_⟩⟩⟩⟩
  obtain ⟨k, hk, rfl⟩ := hr1.t c1
  have hb := hr2.t c2
  refine ⟨fun b y => ∃ i, i ≤ 2 ^ n ∧ y = nI i ∧ b = nI (ctB (cnt n nr k p2) i), fun _ y => 2 ^ n - y.toNatClampNeg, ⟨0, by omega, rfl, rfl⟩, ?_⟩
  rintro b y ⟨i, hi, rfl, rfl⟩
  refine ⟨_, sp_all hn, ?_⟩
  rintro r rfl
  have hal : al n = 2 ^ n - 1 := rfl
  have eA : nI (al n) < nI i ↔ al n < i := q_lt (by omega) (by omega)
  refine ⟨fun c => Or.inl ⟨k, hk, rfl, hb, ?_⟩, fun c => ?_⟩
  · have : i = 2 ^ n := by
      have := eA.1 c
      omega
    rw [this]
  have hlt : i < 2 ^ n := by
    have : ¬ al n < i := fun q => c (eA.2 q)
    omega
  have yes : cnt n nr k p2 i = true → ∀ x : Int32, x = nI (ctB (cnt n nr k p2) i) + 1 → ∀ x2 : Int32, x2 = nI i + 1 → (∃ i, i ≤ 2 ^ n ∧ x2 = nI i ∧ x = nI (ctB (cnt n nr k p2) i)) ∧ 2 ^ n - x2.toNatClampNeg < 2 ^ n - (nI i).toNatClampNeg := by
    rintro q x rfl x2 rfl
    exact ⟨⟨i + 1, by omega, q_1 i, by rw [q_1, ctB_yes q]⟩, n_mu hlt (by omega)⟩
  have no : ¬ cnt n nr k p2 i = true → ∀ x2 : Int32, x2 = nI i + 1 → (∃ i', i' ≤ 2 ^ n ∧ x2 = nI i' ∧ nI (ctB (cnt n nr k p2) i) = nI (ctB (cnt n nr k p2) i')) ∧ 2 ^ n - x2.toNatClampNeg < 2 ^ n - (nI i).toNatClampNeg := by
    rintro q x2 rfl
    exact ⟨⟨i + 1, by omega, q_1 i, by rw [ctB_no q]⟩, n_mu hlt (by omega)⟩
  refine ⟨fun d => ⟨fun e => absurd e (by decide), fun _ => ⟨_, sp_isLawful h hf hk hlt, fun r3 hr3 => ⟨fun e => no (fun q => hr3.f e (okB_iff.1 q).2), fun e => yes (okB_iff.2 ⟨Or.inl d, hr3.t e⟩)⟩⟩⟩, fun d => ⟨_, sp_bitCount (by omega), ?_⟩⟩
  rintro r rfl
  refine ⟨fun d2 => ⟨fun e => absurd e (by decide), fun _ => ⟨_, sp_isLawful h hf hk hlt, fun r3 hr3 => ⟨fun e => no (fun q => hr3.f e (okB_iff.1 q).2), fun e => yes (okB_iff.2 ⟨Or.inr d2, hr3.t e⟩)⟩⟩⟩, fun d2 => ⟨fun _ => no (fun q => ?_), fun e => absurd rfl e⟩⟩
  rcases (okB_iff.1 q).1 with v | v
  · exact d v
  · exact d2 v
theorem sp_count9 {n : Nat} {nr : Nat → Nat} {jJ : Nat → Int32} (h : NetOk n nr) (hf : isN jJ nr) (p1 p2 : Int32) : wp_X9_count (nI n) jJ p1 p2 (AnsCount n nr p1 p2) := by
  have hn := h.2.1
  have hp := p2_9 hn
  unfold wp_X9_count
  rw [q_one (show n < 31 by omega)]
  refine ⟨_, sp_isKind9 p1, fun r1 hr1 => ⟨fun c => Or.inr ⟨fun q => hr1.f c q.1, rfl⟩, fun c1 => ⟨_, sp_in p2 (-1) (nI n), fun r2 hr2 => ⟨fun c => Or.inr ⟨fun q => hr2.f c q.2, rfl⟩, fun c2 => ?_⟩⟩⟩⟩
  obtain ⟨k, hk, rfl⟩ := hr1.t c1
  have hb := hr2.t c2
  have eneg : p2 < 0 → p2 = -1 := fun q => by
    have h1 := hb.1
    rw [Int32.le_iff_toInt_le] at h1
    rw [Int32.lt_iff_toInt_lt] at q
    have e1 : (-1 : Int32).toInt = -1 := by decide
    have e0 : (0 : Int32).toInt = 0 := by decide
    apply Int32.toInt_inj.1
    omega
  refine ⟨fun b y => ∃ i, i ≤ 2 ^ n ∧ y = nI i ∧ b = nI (ctB (cnt n nr k p2) i), fun _ y => 2 ^ n - y.toNatClampNeg, ⟨0, Nat.zero_le _, rfl, rfl⟩, ?_⟩
  rintro b y ⟨i, hi, rfl, rfl⟩
  refine ⟨fun c => Or.inl ⟨k, hk, rfl, hb, ?_⟩, fun c => ?_⟩
  · have : i = 2 ^ n := by
      have := n_ge c (by omega) (by omega)
      omega
    rw [this]
  have hlt := n_lt c (by omega) (by omega)
  have yes : cnt n nr k p2 i = true → ∀ x : Int32, x = nI (ctB (cnt n nr k p2) i) + 1 → ∀ x2 : Int32, x2 = nI i + 1 → (∃ i, i ≤ 2 ^ n ∧ x2 = nI i ∧ x = nI (ctB (cnt n nr k p2) i)) ∧ 2 ^ n - x2.toNatClampNeg < 2 ^ n - (nI i).toNatClampNeg := by
    rintro q x rfl x2 rfl
    exact ⟨⟨i + 1, by omega, q_1 i, by rw [q_1, ctB_yes q]⟩, n_mu hlt (by omega)⟩
  have no : ¬ cnt n nr k p2 i = true → ∀ x : Int32, x = nI (ctB (cnt n nr k p2) i) + 0 → ∀ x2 : Int32, x2 = nI i + 1 → (∃ i', i' ≤ 2 ^ n ∧ x2 = nI i' ∧ x = nI (ctB (cnt n nr k p2) i')) ∧ 2 ^ n - x2.toNatClampNeg < 2 ^ n - (nI i).toNatClampNeg := by
    rintro q x rfl x2 rfl
    exact ⟨⟨i + 1, by omega, q_1 i, by rw [Int32.add_zero, ctB_no q]⟩, n_mu hlt (by omega)⟩
  refine ⟨fun d => ⟨_, sp_isLawful9 h hf hk hlt, fun r3 hr3 => ⟨fun e => no (fun q => hr3.f e (okB_iff.1 q).2), fun e => yes (okB_iff.2 ⟨Or.inl (eneg d), hr3.t e⟩)⟩⟩, fun d => ⟨_, sp_size (by omega), ?_⟩⟩
  rintro r rfl
  refine ⟨fun d2 => ⟨_, sp_isLawful9 h hf hk hlt, fun r3 hr3 => ⟨fun e => no (fun q => hr3.f e (okB_iff.1 q).2), fun e => yes (okB_iff.2 ⟨Or.inr d2, hr3.t e⟩)⟩⟩, fun d2 => no (fun q => ?_)⟩
  rcases (okB_iff.1 q).1 with v | v
  · rw [v] at d
    exact absurd (by decide) d
  · exact d2 v
def AnsTold (n : Nat) (nr : Nat → Nat) (lo hi c : Nat) (p1 r : Int32) : Prop :=
  (p1 = 0 ∧ r = nI n) ∨ (p1 = 1 ∧ r = nI (sm nr n / 2)) ∨ (p1 = 2 ∧ r = nI lo) ∨ (p1 = 3 ∧ r = nI hi) ∨ (p1 = 4 ∧ r = nI c) ∨ (¬ p1 = 0 ∧ ¬ p1 = 1 ∧ ¬ p1 = 2 ∧ ¬ p1 = 3 ∧ ¬ p1 = 4 ∧ r = -1)
theorem AnsTold.one {n : Nat} {nr : Nat → Nat} {lo hi c : Nat} {p1 r r' : Int32} (h : AnsTold n nr lo hi c p1 r) (h' : AnsTold n nr lo hi c p1 r') : r = r' := by
  rcases h with ⟨rfl, rfl⟩ | ⟨rfl, rfl⟩ | ⟨rfl, rfl⟩ | ⟨rfl, rfl⟩ | ⟨rfl, rfl⟩ | ⟨h0, h1, h2, h3, h4, rfl⟩ <;> rcases h' with ⟨e, rfl⟩ | ⟨e, rfl⟩ | ⟨e, rfl⟩ | ⟨e, rfl⟩ | ⟨e, rfl⟩ | ⟨g0, g1, g2, g3, g4, rfl⟩ <;> first | rfl | exact absurd e (by decide) | exact absurd rfl ‹_› | exact absurd e ‹_›
theorem sp_told8 {n lo hi c : Nat} {nr : Nat → Nat} {fN : Nat → Int32} (h : NetOk n nr) (hf : isN fN nr) (p1 : Int32) : wp_X8_told (nI lo) (nI hi) (nI c) (nI n) fN p1 (AnsTold n nr lo hi c p1) := by
  unfold wp_X8_told
  exact ⟨fun q => Or.inl ⟨q, rfl⟩, fun q => ⟨_, sp_pairs3 h hf, fun r hr => Or.inr (Or.inl ⟨q, hr⟩)⟩, fun q => Or.inr (Or.inr (Or.inl ⟨q, rfl⟩)), fun q => Or.inr (Or.inr (Or.inr (Or.inl ⟨q, rfl⟩))), fun q => Or.inr (Or.inr (Or.inr (Or.inr (Or.inl ⟨q, rfl⟩)))), fun a b c d e => Or.inr (Or.inr (Or.inr (Or.inr (Or.inr ⟨a, b, c, d, e, rfl⟩))))⟩
theorem sp_told9 {n lo hi c : Nat} {nr : Nat → Nat} {jJ : Nat → Int32} (h : NetOk n nr) (hf : isN jJ nr) (p1 : Int32) : wp_X9_told (nI n) (nI lo) (nI hi) (nI c) jJ p1 (AnsTold n nr lo hi c p1) := by
  unfold wp_X9_told
  exact ⟨fun q => Or.inl ⟨q, rfl⟩, fun q => ⟨_, sp_pairs9 h hf, fun r hr => Or.inr (Or.inl ⟨q, hr⟩)⟩, fun q => Or.inr (Or.inr (Or.inl ⟨q, rfl⟩)), fun q => Or.inr (Or.inr (Or.inr (Or.inl ⟨q, rfl⟩))), fun q => Or.inr (Or.inr (Or.inr (Or.inr (Or.inl ⟨q, rfl⟩)))), fun a b c d e => Or.inr (Or.inr (Or.inr (Or.inr (Or.inr ⟨a, b, c, d, e, rfl⟩))))⟩
