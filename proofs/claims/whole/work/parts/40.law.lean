/-! THE LAW: class and reference answer alike, call by call -/
def LawI (L : Nat) (y1 z2 z3 z4 z20 : Int32) (f21 : Nat → Int32) (z22 : Int64) (z23 z24 z25 z26 : Int32) (z27 : Int64) (f28 : Nat → Int32) : Prop :=
  ∃ (j n : Nat) (nr : Nat → Nat) (lo hi c : Nat), j ≤ L ∧ y1 = nI j ∧ NetOk n nr ∧ isN f21 nr ∧ isN f28 nr ∧ lo ≤ 9 ∧ hi ≤ 9 ∧ c ≤ 4 ∧ z2 = nI lo ∧ z3 = nI hi ∧ z4 = nI c ∧ z20 = nI n ∧ z23 = nI n ∧ z24 = nI lo ∧ z25 = nI hi ∧ z26 = nI c ∧ z27 = z22
theorem lg_self (a : Int64) : lg_cmp a a = 0 := by
  unfold lg_cmp
  simp
theorem law_ok {L : Nat} (hL : L ≤ 3072) (xs : Nat → Int32) {n lo hi c : Nat} {nr : Nat → Nat} (T : Int64) {fN jJ : Nat → Int32} (hN : NetOk n nr) (hf : isN fN nr) (hf' : isN jJ nr) (hlo : lo ≤ 9) (hhi : hi ≤ 9) (hc : c ≤ 4)
    (vSz vTl vFo vMv wSz wTl wFo wCo : Int32) (fF fL fX fC gF gL gX gC jF jD jS jP : Nat → Int32) :
    wp_law L xs (nI lo) (nI hi) (nI c) vSz vTl vFo vMv fF fL fX fC wSz wTl wFo wCo gF gL gX gC (nI n) fN T (nI n) (nI lo) (nI hi) (nI c) T jJ jF jD jS jP := by
  unfold wp_law
  refine ⟨fun y1 z2 z3 z4 _ _ _ _ _ _ _ _ _ _ _ _ _ _ _ _ z20 f21 z22 z23 z24 z25 z26 z27 f28 _ _ _ _ => LawI L y1 z2 z3 z4 z20 f21 z22 z23 z24 z25 z26 z27 f28, fun y1 _ _ _ _ _ _ _ _ _ _ _ _ _ _ _ _ _ _ _ _ _ _ _ _ _ _ _ _ _ _ _ _ => L - y1.toNatClampNeg, ⟨0, n, nr, lo, hi, c, Nat.zero_le _, rfl, hN, hf, hf', hlo, hhi, hc, rfl, rfl, rfl, rfl, rfl, rfl, rfl, rfl, rfl⟩, ?_⟩
  clear hN hf hf' hlo hhi hc
  rintro y1 z2 z3 z4 z5 z6 z7 z8 f9 f10 f11 f12 z13 z14 z15 z16 f17 f18 f19 f19b z20 f21 z22 z23 z24 z25 z26 z27 f28 f29 f30 f31 f32 ⟨j, n, nr, lo, hi, c, hj, rfl, hN, hf, hf', hlo, hhi, hc, rfl, rfl, rfl, rfl, rfl, rfl, rfl, rfl, rfl⟩
  refine ⟨fun _ => trivial, fun c0 => ?_⟩
  have hn := hN.2.1
  have hj6 : j + 6 ≤ L := by
    rcases Nat.lt_or_ge L 6 with q | q
    · exfalso
      apply c0
      have h1 : ∀ L, L < 6 → (nI L - (6 : Int32)) < 0 := by decide
      have h2 := h1 L q
      have h3 : (0 : Int32) ≤ nI j := (q_le (a := 0) (by decide) (by omega)).2 (Nat.zero_le _)
      show nI L - (6 : Int32) < nI j
      rw [Int32.lt_iff_toInt_lt] at h2 ⊢
      rw [Int32.le_iff_toInt_le] at h3
      omega
    · have e : Int32.ofNat L - (6 : Int32) = nI (L - 6) := q_sub (a := L) (b := 6) q
      rw [e, q_lt (by omega) (by omega)] at c0
      omega
  have v : ∀ t : Nat, t < 6 → vp_in (nI j + nI t) L := fun t ht => by
    rw [q_add]
    exact q_in (by omega) (by omega)
  have v1 : vp_in (nI j + (1 : Int32)) L := v 1 (by omega)
  have v2 : vp_in (nI j + (2 : Int32)) L := v 2 (by omega)
  have v3 : vp_in (nI j + (3 : Int32)) L := v 3 (by omega)
  have v4 : vp_in (nI j + (4 : Int32)) L := v 4 (by omega)
  have v5 : vp_in (nI j + (5 : Int32)) L := v 5 (by omega)
  have lf : ∀ {n' : Nat} {nr' : Nat → Nat} {lo' hi' c' : Nat} {T' : Int64} {f f' : Nat → Int32}, NetOk n' nr' → isN f nr' → isN f' nr' → lo' ≤ 9 → hi' ≤ 9 → c' ≤ 4 → ∀ x : Int32, x = nI j + 6 → LawI L x (nI lo') (nI hi') (nI c') (nI n') f T' (nI n') (nI lo') (nI hi') (nI c') T' f' ∧ L - x.toNatClampNeg < L - (nI j).toNatClampNeg := by
    rintro n' nr' lo' hi' c' T' f f' h1 h2 h3 h4 h5 h6 x rfl
    have e : nI j + (6 : Int32) = nI (j + 6) := q_add j 6
    rw [e]
    refine ⟨⟨j + 6, n', nr', lo', hi', c', hj6, rfl, h1, h2, h3, h4, h5, h6, rfl, rfl, rfl, rfl, rfl, rfl, rfl, rfl, rfl⟩, ?_⟩
    rw [q_cl (by omega), q_cl (by omega)]
    omega
  have stay := fun {T' : Int64} => lf (T' := T') hN hf hf' hlo hhi hc
  generalize xs (nI j).toNatClampNeg = op
  generalize xs (nI j + (1 : Int32)).toNatClampNeg = p1
  generalize xs (nI j + (2 : Int32)).toNatClampNeg = p2
  generalize xs (nI j + (3 : Int32)).toNatClampNeg = p3
  generalize xs (nI j + (4 : Int32)).toNatClampNeg = p4
  generalize xs (nI j + (5 : Int32)).toNatClampNeg = p5
  refine ⟨q_in (by omega) (by omega), fun _ => ⟨v1, _, sp_net8 hf p1, ?_⟩, fun _ => ⟨v1, v2, v3, _, sp_join8 hN hf p1 p2 p3, ?_⟩, fun _ => ⟨v1, _, sp_shape8 hN hf p1, ?_⟩, fun _ => ⟨v1, v2, _, sp_set8 _ _ _ p1 p2, ?_⟩, fun _ => ⟨v1, v2, _, sp_lawful8 hN hf p1 p2, ?_⟩, fun _ => ⟨v1, v2, _, sp_count8 hN hf p1 p2, ?_⟩, fun _ => ⟨v1, v2, v3, _, sp_weight8 hN hf _ p1 p2 p3, ?_⟩, fun _ => ⟨v1, v2, v3, v4, v5, _, sp_walk8 _ _ _ _ _ _ _ _ hN hf hlo hhi p1 p2 p3 p4 p5, ?_⟩, fun _ => ⟨v1, v2, v3, v4, _, sp_reach8 _ _ _ _ _ _ _ _ hN hf hlo hhi p1 p2 p3 p4, ?_⟩, fun _ => ⟨v1, v2, v3, _, sp_parts8 _ _ _ _ _ _ _ _ hN hf hlo hhi p1 p2 p3, ?_⟩, fun _ => ⟨v1, _, sp_proper8 hN hf hc p1, ?_⟩, fun _ => ⟨v1, v2, _, sp_shades8 _ _ _ _ _ _ _ _ hN hf hc p1 p2, ?_⟩, fun _ => ⟨v1, _, sp_heaps8 _ _ _ _ _ _ _ _ hN hf hc p1, ?_⟩, fun _ => ⟨v1, _, sp_told8 hN hf p1, ?_⟩, fun _ => ⟨fun r => r = _, rfl, ?_⟩, ?_⟩
  · rintro r z f ⟨m, nr', h1, rfl, h3⟩
    refine ⟨v1, _, sp_net9 hf' p1, ?_⟩
    rintro r2 z2 f2 ⟨m2, nr2, g1, rfl, g3⟩
    obtain ⟨rfl, rfl, rfl⟩ := h1.one g1
    exact ⟨fun _ => lf (h1.ok hN) h3 g3 hlo hhi hc, fun q => absurd rfl q⟩
  · rintro r f ⟨nr', h1, h3⟩
    refine ⟨v1, v2, v3, _, sp_join9 hN hf' p1 p2 p3, ?_⟩
    rintro r2 f2 ⟨nr2, g1, g3⟩
    obtain ⟨rfl, rfl⟩ := h1.one hn g1
    exact ⟨fun _ => lf (h1.ok hN) h3 g3 hlo hhi hc, fun q => absurd rfl q⟩
  · rintro r z f ⟨rfl, nr', h1, h3⟩
    refine ⟨v1, _, sp_shape9 hN hf' p1, ?_⟩
    rintro r2 f2 ⟨nr2, g1, g3⟩
    obtain ⟨rfl, rfl⟩ := h1.one g1
    exact ⟨fun _ => lf (h1.ok hN) h3 g3 hlo hhi hc, fun q => absurd rfl q⟩
  · rintro r a b d h1
    refine ⟨v1, v2, _, sp_set9 _ _ _ p1 p2, ?_⟩
    rintro r2 a2 b2 d2 g1
    have e := h1.trans g1.symm
    simp only [Prod.mk.injEq] at e
    obtain ⟨rfl, rfl, rfl, rfl⟩ := e
    obtain ⟨lo', hi', c', k1, k2, k3, rfl, rfl, rfl⟩ := setF_ok hlo hhi hc h1
    exact ⟨fun _ => lf hN hf hf' k1 k2 k3, fun q => absurd rfl q⟩
  · intro r h1
    refine ⟨v1, v2, _, sp_lawful9 hN hf' p1 p2, fun r2 g1 => ?_⟩
    exact ⟨fun _ => stay, fun q => q (h1.one hn g1)⟩
  · intro r h1
    refine ⟨v1, v2, _, sp_count9 hN hf' p1 p2, fun r2 g1 => ?_⟩
    exact ⟨fun _ => stay, fun q => q (h1.one g1)⟩
  · intro r z h1
    refine ⟨v1, v2, v3, _, sp_weight9 hN hf' _ p1 p2 p3, fun r2 z2 g1 => ?_⟩
    obtain ⟨rfl, rfl⟩ := h1.one hn g1
    exact ⟨fun _ => stay, fun q => absurd rfl q⟩
  · intro r _ _ _ _ _ _ _ _ h1
    refine ⟨v1, v2, v3, v4, v5, _, sp_walk9 _ _ hN hf' hlo hhi p1 p2 p3 p4 p5, fun r2 _ _ g1 => ?_⟩
    exact ⟨fun _ => stay, fun q => q (h1.one hn g1)⟩
  · intro r _ _ _ _ _ _ _ _ h1
    refine ⟨v1, v2, v3, v4, _, sp_reach9 _ _ hN hf' hlo hhi p1 p2 p3 p4, fun r2 _ _ g1 => ?_⟩
    exact ⟨fun _ => stay, fun q => q (h1.one hn g1)⟩
  · intro r _ _ _ _ _ _ _ _ h1
    refine ⟨v1, v2, v3, _, sp_parts9 _ _ hN hf' hlo hhi p1 p2 p3, fun r2 _ _ g1 => ?_⟩
    exact ⟨fun _ => stay, fun q => q (h1.one hn g1)⟩
  · intro r h1
    refine ⟨v1, _, sp_proper9 hN hf' hc p1, fun r2 g1 => ?_⟩
    exact ⟨fun _ => stay, fun q => q (h1.one g1)⟩
  · intro r _ _ _ _ _ _ _ _ h1
    refine ⟨v1, v2, _, sp_shades9 _ _ hN hf' hc p1 p2, fun r2 _ _ g1 => ?_⟩
    exact ⟨fun _ => stay, fun q => q (h1.one g1)⟩
  · intro r _ _ _ _ _ _ _ _ h1
    refine ⟨v1, _, sp_heaps9 _ _ hN hf' hc p1, fun r2 _ _ g1 => ?_⟩
    exact ⟨fun _ => stay, fun q => q (h1.one g1)⟩
  · intro r h1
    refine ⟨v1, _, sp_told9 hN hf' p1, fun r2 g1 => ?_⟩
    exact ⟨fun _ => stay, fun q => q (h1.one g1)⟩
  · rintro r rfl
    refine ⟨fun r2 => r2 = _, rfl, ?_⟩
    rintro r2 rfl
    exact ⟨fun _ => stay, fun q => q (lg_self r2)⟩
  · intro _ _ _ _ _ _ _ _ _ _ _ _ _ _ _
    exact stay
