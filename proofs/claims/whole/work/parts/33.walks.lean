/-! THE CLASS'S CALLS walk, reach, parts -/
noncomputable def okM (n : Nat) (nr : Nat → Nat) (kind mv lo hi : Nat) : Nat → Bool := okS n nr kind (if mv = 2 then lo else 0) (if mv = 2 then hi else 9)
/-- the weights of the moves -/
noncomputable def ewM (n : Nat) (nr : Nat → Nat) (kind mv lo hi : Nat) : Nat → Nat → Nat := ew (2 ^ n) (okM n nr kind mv lo hi) nr mv
theorem sp_begin8 {n kind mv lo hi : Nat} {nr : Nat → Nat} {fN : Nat → Int32} (vSz vTl vMv : Int32) (fF : Nat → Int32) (h : NetOk n nr) (hf : isN fN nr) (hk : kind ≤ 2) (hm : mv ≤ 2) (hlo : lo ≤ 9) (hhi : hi ≤ 9) :
    wp_X8_begin (nI lo) (nI hi) vSz vTl vMv fF (nI n) fN (nI kind) (nI mv) (fun sz tl m F => sz = nI (2 ^ n) ∧ tl = 0 ∧ m = nI mv ∧ Fr (2 ^ n) (okM n nr kind mv lo hi) F) := by
  have em2 : nI mv = 2 ↔ mv = 2 := q_eq (b := 2) (by omega) (by decide)
  unfold wp_X8_begin okM
  refine ⟨fun c => ⟨_, sp_begin2 vSz vTl vMv fF h hf hk hlo hhi, ?_⟩, fun c => ⟨_, sp_begin2 (lo := 0) (hi := 9) vSz vTl vMv fF h hf hk (by omega) (by omega), ?_⟩⟩
  · rw [em2] at c
    rw [if_pos c, if_pos c]
    exact fun _ _ _ _ q => q
  · rw [em2] at c
    rw [if_neg c, if_neg c]
    exact fun _ _ _ _ q => q
theorem sp_isLawfulSet {n k : Nat} {nr : Nat → Nat} {fN : Nat → Int32} (h : NetOk n nr) (hf : isN fN nr) (hk : k ≤ 2) (x : Int32) : wp_X8_isLawfulSet (nI n) fN (nI k) x (fun r => isB r (∃ s, s < 2 ^ n ∧ x = nI s ∧ Lw n nr k s)) := by
  have hp := p2_9 h.2.1
  unfold wp_X8_isLawfulSet
  refine ⟨_, sp_hasSet h.2.1 x, fun r hr => ⟨fun c => isB.no (fun ⟨s, h1, h2, _⟩ => hr.f c ⟨s, h1, h2⟩), fun c => ?_⟩⟩
  obtain ⟨s, hs, rfl⟩ := hr.t c
  refine ⟨_, sp_isLawful h hf hk hs, fun r hr => ⟨fun c => isB.no (fun ⟨s', h1, h2, h3⟩ => ?_), fun c => isB.yes ⟨s, hs, rfl, hr.t c⟩⟩⟩
  have e := (q_eq (by omega) (by omega)).1 h2
  subst e
  exact hr.f c h3
/-- a kind, moves, and a lawful set -/
def Pre1 (n : Nat) (nr : Nat → Nat) (p1 p2 p3 : Int32) (k mv s : Nat) : Prop := k ≤ 2 ∧ p1 = nI k ∧ mv ≤ 2 ∧ p2 = nI mv ∧ s < 2 ^ n ∧ p3 = nI s ∧ Lw n nr k s
theorem Pre1.one {n : Nat} {nr : Nat → Nat} (hn : n ≤ 9) {p1 p2 p3 : Int32} {k mv s k' mv' s' : Nat} (h : Pre1 n nr p1 p2 p3 k mv s) (h' : Pre1 n nr p1 p2 p3 k' mv' s') : k = k' ∧ mv = mv' ∧ s = s' := by
  have hp := p2_9 hn
  obtain ⟨a1, rfl, a3, rfl, a5, rfl, -⟩ := h
  obtain ⟨b1, b2, b3, b4, b5, b6, -⟩ := h'
  exact ⟨(q_eq (by omega) (by omega)).1 b2, (q_eq (by omega) (by omega)).1 b4, (q_eq (by omega) (by omega)).1 b6⟩
def AnsWalk (n : Nat) (nr : Nat → Nat) (lo hi : Nat) (p1 p2 p3 p4 p5 r : Int32) : Prop :=
  (∃ k mv s t wh, Pre1 n nr p1 p2 p3 k mv s ∧ Pre1 n nr p1 p2 p4 k mv t ∧ wh ≤ 2 ∧ p5 = nI wh ∧ (wh = 0 → AnsD (e1 (ewM n nr k mv lo hi)) s t r) ∧ (wh = 1 → AnsN (2 ^ n) (ewM n nr k mv lo hi) s t r) ∧ (wh = 2 → AnsD (ewM n nr k mv lo hi) s t r)) ∨
  (¬ ((∃ k mv s, Pre1 n nr p1 p2 p3 k mv s) ∧ (∃ k mv s, Pre1 n nr p1 p2 p4 k mv s) ∧ ∃ wh : Nat, wh ≤ 2 ∧ p5 = nI wh) ∧ r = -1)
theorem AnsWalk.one {n : Nat} {nr : Nat → Nat} {lo hi : Nat} {p1 p2 p3 p4 p5 r r' : Int32} (hn : n ≤ 9) (h : AnsWalk n nr lo hi p1 p2 p3 p4 p5 r) (h' : AnsWalk n nr lo hi p1 p2 p3 p4 p5 r') : r = r' := by
  rcases h with ⟨k, mv, s, t, wh, h1, h2, h3, h4, h5, h6, h7⟩ | ⟨h, rfl⟩
  · rcases h' with ⟨k', mv', s', t', wh', h1', h2', h3', h4', h5', h6', h7'⟩ | ⟨h', -⟩
    · obtain ⟨rfl, rfl, rfl⟩ := h1.one hn h1'
      obtain ⟨-, -, rfl⟩ := h2.one hn h2'
      have e := (q_eq (by omega) (by omega)).1 (h4.symm.trans h4')
      subst e
      have hc : wh = 0 ∨ wh = 1 ∨ wh = 2 := by omega
      rcases hc with c | c | c
      · exact (h5 c).one (h5' c)
      · exact (h6 c).one (h6' c)
      · exact (h7 c).one (h7' c)
    · exact absurd ⟨⟨_, _, _, h1⟩, ⟨_, _, _, h2⟩, _, h3, h4⟩ h'
  · rcases h' with ⟨k', mv', s', t', wh', h1', h2', h3', h4', -⟩ | ⟨-, rfl⟩
    · exact absurd ⟨⟨_, _, _, h1'⟩, ⟨_, _, _, h2'⟩, _, h3', h4'⟩ h
    · rfl
theorem sp_walk8 {n lo hi : Nat} {nr : Nat → Nat} {fN : Nat → Int32} (vSz vTl vFo vMv : Int32) (fF fL fX fC : Nat → Int32) (h : NetOk n nr) (hf : isN fN nr) (hlo : lo ≤ 9) (hhi : hi ≤ 9) (p1 p2 p3 p4 p5 : Int32) :
    wp_X8_walk (nI lo) (nI hi) vSz vTl vFo vMv fF fL fX fC (nI n) fN p1 p2 p3 p4 p5 (fun r _ _ _ _ _ _ _ _ => AnsWalk n nr lo hi p1 p2 p3 p4 p5 r) := by
  have hn := h.2.1
  have hp := p2_9 hn
  unfold wp_X8_walk
  refine ⟨_, sp_isKind8 p1, fun r1 hr1 => ⟨fun c => Or.inr ⟨fun ⟨⟨k, _, _, q⟩, _⟩ => hr1.f c ⟨k, q.1, q.2.1⟩, rfl⟩, fun c1 => ⟨_, sp_areMoves p2, fun r2 hr2 => ⟨fun c => Or.inr ⟨fun ⟨⟨_, mv, _, q⟩, _⟩ => hr2.f c ⟨mv, q.2.2.1, q.2.2.2.1⟩, rfl⟩, fun c2 => ⟨_, sp_isWithin p5 0 2, fun r3 hr3 => ⟨fun c => Or.inr ⟨fun ⟨_, _, q⟩ => hr3.f c (w_02.2 q), rfl⟩, fun c3 => ?_⟩⟩⟩⟩⟩⟩
  obtain ⟨k, hk, rfl⟩ := hr1.t c1
  obtain ⟨mv, hm, rfl⟩ := hr2.t c2
  obtain ⟨wh, hwh, rfl⟩ := w_02.1 (hr3.t c3)
  have un : ∀ {k' : Nat}, k' ≤ 2 → nI k = nI k' → k' = k := fun h1 h2 => ((q_eq (by omega) (by omega)).1 h2).symm
  refine ⟨_, sp_isLawfulSet h hf hk p3, fun r4 hr4 => ⟨fun c => Or.inr ⟨fun ⟨⟨k', _, s, q⟩, _⟩ => hr4.f c ⟨s, q.2.2.2.2.1, q.2.2.2.2.2.1, un q.1 q.2.1 ▸ q.2.2.2.2.2.2⟩, rfl⟩, fun c4 => ⟨_, sp_isLawfulSet h hf hk p4, fun r5 hr5 => ⟨fun c => Or.inr ⟨fun ⟨_, ⟨k', _, s, q⟩, _⟩ => hr5.f c ⟨s, q.2.2.2.2.1, q.2.2.2.2.2.1, un q.1 q.2.1 ▸ q.2.2.2.2.2.2⟩, rfl⟩, fun c5 => ?_⟩⟩⟩⟩
  obtain ⟨s, hs, rfl, hls⟩ := hr4.t c4
  obtain ⟨t, ht, rfl, hlt⟩ := hr5.t c5
  refine ⟨_, sp_begin8 vSz vTl vMv fF h hf hk hm hlo hhi, ?_⟩
  rintro z18 z19 z20 F ⟨rfl, rfl, rfl, hF⟩
  have e0 : nI wh = 0 ↔ wh = 0 := q_eq0 (by omega)
  have e1 : nI wh = 1 ↔ wh = 1 := q_eq (b := 1) (by omega) (by decide)
  refine ⟨fun c => ⟨_, sp_fewestM vFo fX fC h hf hm hF hs ht, ?_⟩, fun c => ⟨_, sp_following vFo fX fC h hf hm hF hs ht, ?_⟩, fun c c' => ⟨_, sp_lightest vFo fX fC h hf hm hF hs ht, ?_⟩⟩
  · rw [e0] at c
    rintro r z z2 f1 f2 f3 f4 hr
    exact Or.inl ⟨k, mv, s, t, wh, ⟨hk, rfl, hm, rfl, hs, rfl, hls⟩, ⟨hk, rfl, hm, rfl, ht, rfl, hlt⟩, hwh, rfl, fun _ => hr.ans, fun _ => by omega, fun _ => by omega⟩
  · rw [e1] at c
    rintro r z z2 f1 f2 f3 f4 hr
    exact Or.inl ⟨k, mv, s, t, wh, ⟨hk, rfl, hm, rfl, hs, rfl, hls⟩, ⟨hk, rfl, hm, rfl, ht, rfl, hlt⟩, hwh, rfl, fun _ => by omega, fun _ => hr, fun _ => by omega⟩
  · rw [e0] at c
    rw [e1] at c'
    rintro r z z2 f1 f2 f3 f4 hr
    exact Or.inl ⟨k, mv, s, t, wh, ⟨hk, rfl, hm, rfl, hs, rfl, hls⟩, ⟨hk, rfl, hm, rfl, ht, rfl, hlt⟩, hwh, rfl, fun _ => by omega, fun _ => by omega, fun _ => hr⟩
def AnsReach (n : Nat) (nr : Nat → Nat) (lo hi : Nat) (p1 p2 p3 p4 r : Int32) : Prop :=
  (∃ k mv s wh, Pre1 n nr p1 p2 p3 k mv s ∧ wh ≤ 2 ∧ p4 = nI wh ∧ (wh = 0 → AnsR0 (2 ^ n) (e1 (ewM n nr k mv lo hi)) s r) ∧ (wh = 1 → AnsR1 (2 ^ n) (e1 (ewM n nr k mv lo hi)) s r) ∧ (wh = 2 → AnsR2 (e1 (ewM n nr k mv lo hi)) s r)) ∨
  (¬ ((∃ k mv s, Pre1 n nr p1 p2 p3 k mv s) ∧ ∃ wh : Nat, wh ≤ 2 ∧ p4 = nI wh) ∧ r = -1)
theorem AnsReach.one {n : Nat} {nr : Nat → Nat} {lo hi : Nat} {p1 p2 p3 p4 r r' : Int32} (hn : n ≤ 9) (h : AnsReach n nr lo hi p1 p2 p3 p4 r) (h' : AnsReach n nr lo hi p1 p2 p3 p4 r') : r = r' := by
  rcases h with ⟨k, mv, s, wh, h1, h3, h4, h5, h6, h7⟩ | ⟨h, rfl⟩
  · rcases h' with ⟨k', mv', s', wh', h1', h3', h4', h5', h6', h7'⟩ | ⟨h', -⟩
    · obtain ⟨rfl, rfl, rfl⟩ := h1.one hn h1'
      have e := (q_eq (by omega) (by omega)).1 (h4.symm.trans h4')
      subst e
      have hc : wh = 0 ∨ wh = 1 ∨ wh = 2 := by omega
      rcases hc with c | c | c
      · exact (h5 c).trans (h5' c).symm
      · exact (h6 c).one (h6' c)
      · exact (h7 c).one (h7' c)
    · exact absurd ⟨⟨_, _, _, h1⟩, _, h3, h4⟩ h'
  · rcases h' with ⟨k', mv', s', wh', h1', h3', h4', -⟩ | ⟨-, rfl⟩
    · exact absurd ⟨⟨_, _, _, h1'⟩, _, h3', h4'⟩ h
    · rfl
theorem sp_reach8 {n lo hi : Nat} {nr : Nat → Nat} {fN : Nat → Int32} (vSz vTl vFo vMv : Int32) (fF fL fX fC : Nat → Int32) (h : NetOk n nr) (hf : isN fN nr) (hlo : lo ≤ 9) (hhi : hi ≤ 9) (p1 p2 p3 p4 : Int32) :
    wp_X8_reach (nI lo) (nI hi) vSz vTl vFo vMv fF fL fX fC (nI n) fN p1 p2 p3 p4 (fun r _ _ _ _ _ _ _ _ => AnsReach n nr lo hi p1 p2 p3 p4 r) := by
  have hn := h.2.1
  have hp := p2_9 hn
  unfold wp_X8_reach
  refine ⟨_, sp_isKind8 p1, fun r1 hr1 => ⟨fun c => Or.inr ⟨fun ⟨⟨k, _, _, q⟩, _⟩ => hr1.f c ⟨k, q.1, q.2.1⟩, rfl⟩, fun c1 => ⟨_, sp_areMoves p2, fun r2 hr2 => ⟨fun c => Or.inr ⟨fun ⟨⟨_, mv, _, q⟩, _⟩ => hr2.f c ⟨mv, q.2.2.1, q.2.2.2.1⟩, rfl⟩, fun c2 => ⟨_, sp_isWithin p4 0 2, fun r3 hr3 => ⟨fun c => Or.inr ⟨fun ⟨_, q⟩ => hr3.f c (w_02.2 q), rfl⟩, fun c3 => ?_⟩⟩⟩⟩⟩⟩
  obtain ⟨k, hk, rfl⟩ := hr1.t c1
  obtain ⟨mv, hm, rfl⟩ := hr2.t c2
  obtain ⟨wh, hwh, rfl⟩ := w_02.1 (hr3.t c3)
  have un : ∀ {k' : Nat}, k' ≤ 2 → nI k = nI k' → k' = k := fun h1 h2 => ((q_eq (by omega) (by omega)).1 h2).symm
  refine ⟨_, sp_isLawfulSet h hf hk p3, fun r4 hr4 => ⟨fun c => Or.inr ⟨fun ⟨⟨k', _, s, q⟩, _⟩ => hr4.f c ⟨s, q.2.2.2.2.1, q.2.2.2.2.2.1, un q.1 q.2.1 ▸ q.2.2.2.2.2.2⟩, rfl⟩, fun c4 => ?_⟩⟩
  obtain ⟨s, hs, rfl, hls⟩ := hr4.t c4
  refine ⟨_, sp_begin8 vSz vTl vMv fF h hf hk hm hlo hhi, ?_⟩
  rintro z18 z19 z20 F ⟨rfl, rfl, rfl, hF⟩
  have e0 : nI wh = 0 ↔ wh = 0 := q_eq0 (by omega)
  have e1 : nI wh = 1 ↔ wh = 1 := q_eq (b := 1) (by omega) (by decide)
  refine ⟨_, sp_spreadR vFo fX fC h hf hm hF hs, ?_⟩
  rintro z21 z22 F' L' f25 f26 ⟨tl, X, D, rfl, hE⟩
  refine ⟨fun c => ?_, fun c => ⟨_, sp_frozen hn hE, fun r hr => ?_⟩, fun c c' => ⟨_, sp_farthest hn hE, fun r hr => ?_⟩⟩
  · rw [e0] at c
    exact Or.inl ⟨k, mv, s, wh, ⟨hk, rfl, hm, rfl, hs, rfl, hls⟩, hwh, rfl, fun _ => hE.count, fun _ => by omega, fun _ => by omega⟩
  · rw [e1] at c
    exact Or.inl ⟨k, mv, s, wh, ⟨hk, rfl, hm, rfl, hs, rfl, hls⟩, hwh, rfl, fun _ => by omega, fun _ => hr, fun _ => by omega⟩
  · rw [e0] at c
    rw [e1] at c'
    exact Or.inl ⟨k, mv, s, wh, ⟨hk, rfl, hm, rfl, hs, rfl, hls⟩, hwh, rfl, fun _ => by omega, fun _ => by omega, fun _ => hr⟩
theorem w_0n {x : Int32} {n : Nat} (hn : n < 2 ^ 31) : (0 ≤ x ∧ x ≤ nI n) ↔ ∃ k : Nat, k ≤ n ∧ x = nI k := by
  constructor
  · intro h
    obtain ⟨j, -, h2, h3⟩ := q_within (a := 0) hn h.1 h.2 (by decide)
    exact ⟨j, h2, h3⟩
  · rintro ⟨k, hk, rfl⟩
    exact ⟨(q_le (a := 0) (by decide) (by omega)).2 (by omega), (q_le (by omega) hn).2 hk⟩
def AnsParts (n : Nat) (nr : Nat → Nat) (lo hi : Nat) (p1 p2 p3 r : Int32) : Prop :=
  (∃ k mv, k ≤ 2 ∧ p1 = nI k ∧ mv ≤ 2 ∧ p2 = nI mv ∧ (mv = 2 → AnsP (2 ^ n) (okS n nr k lo hi) (e1 (ew (2 ^ n) (okS n nr k lo hi) nr 2)) r) ∧ (mv ≠ 2 → ((∃ c, c ≤ n ∧ p3 = nI c ∧ AnsP (2 ^ n) (okS n nr k c c) (e1 (ew (2 ^ n) (okS n nr k c c) nr mv)) r) ∨ ((¬ ∃ c, c ≤ n ∧ p3 = nI c) ∧ r = -1)))) ∨
  (¬ ((∃ k : Nat, k ≤ 2 ∧ p1 = nI k) ∧ ∃ mv : Nat, mv ≤ 2 ∧ p2 = nI mv) ∧ r = -1)
theorem AnsParts.one {n : Nat} {nr : Nat → Nat} {lo hi : Nat} {p1 p2 p3 r r' : Int32} (hn : n ≤ 9) (h : AnsParts n nr lo hi p1 p2 p3 r) (h' : AnsParts n nr lo hi p1 p2 p3 r') : r = r' := by
  rcases h with ⟨k, mv, h1, rfl, h3, rfl, h5, h6⟩ | ⟨h, rfl⟩
  · rcases h' with ⟨k', mv', h1', h2', h3', h4', h5', h6'⟩ | ⟨h', -⟩
    · have e := (q_eq (by omega) (by omega)).1 h2'
      subst e
      have e := (q_eq (by omega) (by omega)).1 h4'
      subst e
      by_cases c : mv = 2
      · exact (h5 c).trans (h5' c).symm
      · rcases h6 c with ⟨d, d1, rfl, d3⟩ | ⟨d, rfl⟩
        · rcases h6' c with ⟨d', d1', d2', d3'⟩ | ⟨d', -⟩
          · have e := (q_eq (by omega) (by omega)).1 d2'
            subst e
            exact d3.trans d3'.symm
          · exact absurd ⟨d, d1, rfl⟩ d'
        · rcases h6' c with ⟨d', d1', d2', d3'⟩ | ⟨-, rfl⟩
          · exact absurd ⟨d', d1', d2'⟩ d
          · rfl
    · exact absurd ⟨⟨_, h1, rfl⟩, _, h3, rfl⟩ h'
  · rcases h' with ⟨k', mv', h1', h2', h3', h4', -⟩ | ⟨-, rfl⟩
    · exact absurd ⟨⟨_, h1', h2'⟩, _, h3', h4'⟩ h
    · rfl
theorem sp_parts8 {n lo hi : Nat} {nr : Nat → Nat} {fN : Nat → Int32} (vSz vTl vFo vMv : Int32) (fF fL fX fC : Nat → Int32) (h : NetOk n nr) (hf : isN fN nr) (hlo : lo ≤ 9) (hhi : hi ≤ 9) (p1 p2 p3 : Int32) :
    wp_X8_parts (nI lo) (nI hi) vSz vTl vFo vMv fF fL fX fC (nI n) fN p1 p2 p3 (fun r _ _ _ _ _ _ _ _ => AnsParts n nr lo hi p1 p2 p3 r) := by
  have hn := h.2.1
  have hp := p2_9 hn
  unfold wp_X8_parts
  refine ⟨_, sp_isKind8 p1, fun r1 hr1 => ⟨fun c => Or.inr ⟨fun q => hr1.f c q.1, rfl⟩, fun c1 => ⟨_, sp_areMoves p2, fun r2 hr2 => ⟨fun c => Or.inr ⟨fun q => hr2.f c q.2, rfl⟩, fun c2 => ?_⟩⟩⟩⟩
  obtain ⟨k, hk, rfl⟩ := hr1.t c1
  obtain ⟨mv, hm, rfl⟩ := hr2.t c2
  have em2 : nI mv = 2 ↔ mv = 2 := q_eq (b := 2) (by omega) (by decide)
  refine ⟨fun c => ⟨_, sp_begin8 vSz vTl vMv fF h hf hk hm hlo hhi, ?_⟩, fun c => ⟨_, sp_isWithin p3 0 (nI n), fun r3 hr3 => ⟨fun c3 => ?_, fun c3 => ?_⟩⟩⟩
  · rw [em2] at c
    rintro z27 z28 z29 F ⟨rfl, rfl, rfl, hF⟩
    refine ⟨_, sp_componentsM vFo fX fC h hf hm hF, ?_⟩
    rintro r z z2 f1 f2 f3 f4 hr
    unfold okM at hr
    rw [if_pos c, if_pos c] at hr
    subst c
    exact Or.inl ⟨k, 2, hk, rfl, hm, rfl, fun _ => hr, fun q => absurd rfl q⟩
  · rw [em2] at c
    exact Or.inl ⟨k, mv, hk, rfl, hm, rfl, fun q => absurd q c, fun _ => Or.inr ⟨fun q => hr3.f c3 ((w_0n (by omega)).2 q), rfl⟩⟩
  · rw [em2] at c
    obtain ⟨d, hd, rfl⟩ := (w_0n (by omega)).1 (hr3.t c3)
    refine ⟨_, sp_begin2 vSz vTl vMv fF h hf hk (by omega) (by omega), ?_⟩
    rintro z27 z28 z29 F ⟨rfl, rfl, rfl, hF⟩
    refine ⟨_, sp_componentsM vFo fX fC h hf hm hF, ?_⟩
    rintro r z z2 f1 f2 f3 f4 hr
    exact Or.inl ⟨k, mv, hk, rfl, hm, rfl, fun q => absurd q c, fun _ => Or.inl ⟨d, hd, rfl, hr⟩⟩
