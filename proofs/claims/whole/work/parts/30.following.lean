/-! following: the least set one move nearer -/
/-- a set one move from s and one fewer from t -/
def Nxt (sz : Nat) (w : Nat → Nat → Nat) (s t d x : Nat) : Prop := x < sz ∧ 0 < w s x ∧ IsD (e1 w) t x d
/-- NEXT, as a call answers it -/
def AnsN (sz : Nat) (w : Nat → Nat → Nat) (s t : Nat) (r : Int32) : Prop :=
  (∃ d x, IsD (e1 w) t s (d + 1) ∧ Nxt sz w s t d x ∧ (∀ y, Nxt sz w s t d y → x ≤ y) ∧ r = nI x) ∨ ((s = t ∨ ¬ Rc (e1 w) t s) ∧ r = -9)
theorem IsD.pos {w : Nat → Nat → Nat} {t s d : Nat} (h : IsD (e1 w) t s (d + 1)) : s ≠ t := by
  intro e
  subst e
  have := h.2 0 0 ⟨rfl, rfl⟩
  omega
theorem AnsN.one {sz : Nat} {w : Nat → Nat → Nat} {s t : Nat} {r r' : Int32} (h : AnsN sz w s t r) (h' : AnsN sz w s t r') : r = r' := by
  rcases h with ⟨d, x, h1, h2, h3, rfl⟩ | ⟨h1, rfl⟩
  · rcases h' with ⟨d', x', h1', h2', h3', rfl⟩ | ⟨h1', -⟩
    · have e := h1.one h1'
      have e : d = d' := by omega
      subst e
      rw [Nat.le_antisymm (h3 x' h2') (h3' x h2)]
    · exact absurd h1.rc (h1'.resolve_left h1.pos)
  · rcases h' with ⟨d', x', h1', h2', h3', rfl⟩ | ⟨-, rfl⟩
    · exact absurd h1'.rc (h1.resolve_left h1'.pos)
    · rfl
theorem pred_of {w : Nat → Nat → Nat} {t s d : Nat} (h : IsD (e1 w) t s (d + 1)) : ∃ y, 0 < w y s ∧ IsD (e1 w) t y d := by
  obtain ⟨⟨k, hk⟩, hmin⟩ := h
  cases k with
  | zero => exact absurd hk.1 (by omega)
  | succ k =>
    obtain ⟨y, w', h1, h2, h3⟩ := hk
    have h4 := e1_one (e1_pos.1 h1)
    rw [h4] at h2
    have e : w' = d := by omega
    subst e
    refine ⟨y, e1_pos.1 h1, ⟨k, h3⟩, fun k' w'' hw => ?_⟩
    have := hmin _ _ (hw.snoc h1)
    omega
theorem sp_following {n mv s t : Nat} {nr : Nat → Nat} {fN F L : Nat → Int32} (vFo : Int32) (fX fC : Nat → Int32) {ok : Nat → Bool} (h : NetOk n nr) (hf : isN fN nr) (hm : mv ≤ 2) (hF : Fr (2 ^ n) ok F) (hs : s < 2 ^ n) (ht : t < 2 ^ n) :
    wp_X2_following (nI (2 ^ n)) 0 vFo (nI mv) F L fX fC (nI n) fN (nI s) (nI t) (fun r _ _ _ _ _ _ => AnsN (2 ^ n) (ew (2 ^ n) ok nr mv) s t r) := by
  have hn := h.2.1
  have hp := p2_9 hn
  unfold wp_X2_following
  refine ⟨_, sp_fewestM vFo fX fC h hf hm hF hs ht, ?_⟩
  rintro r z z2 F' L' fX' fC' hFew
  rcases hFew with ⟨e, rfl⟩ | ⟨e, rfl, hno⟩ | ⟨d, hd, tl, X, D, hne, hd0, hdb, rfl, hIs, rfl, hB, hFs, m, hm1, hm2⟩
  · exact ⟨fun c => absurd c (by decide), fun _ => Or.inr ⟨Or.inl e, rfl⟩⟩
  · exact ⟨fun c => absurd c (by decide), fun _ => Or.inr ⟨Or.inr hno, rfl⟩⟩
  obtain ⟨d, rfl⟩ : ∃ d', d = d' + 1 := ⟨d - 1, by omega⟩
  refine ⟨fun _ => ?_, fun c => absurd ((q_lt (a := 0) (by decide) (by omega)).2 hd0) c⟩
  refine ⟨_, sp_gather z2 h hf hm hs, ?_⟩
  rintro z3 f13 f14 ⟨cn, hcn, rfl, hEnt⟩
  have hFok := hB.fok hF.fok
  have htl := hB.tl_le
  have es : nI (d + 1) - (1 : Int32) = nI d := q_sub (a := d + 1) (b := 1) (by omega)
  have hoks : ok s = true := by
    rcases Rc_last hIs.rc with q | ⟨-, q⟩
    · exact absurd q hne
    · exact q
  -- what the entries are
  have hgood : ∀ x, x < 2 ^ n → 0 < ew (2 ^ n) ok nr mv s x → (F' x = nI d ↔ IsD (e1 (ew (2 ^ n) ok nr mv)) t x d) := by
    intro x hx hw
    have hback : 0 < e1 (ew (2 ^ n) ok nr mv) x s := e1_pos.2 (by rw [ew_sym h]; exact hw)
    have hb1 : e1 (ew (2 ^ n) ok nr mv) x s = 1 := by
      have := e1_le (ew (2 ^ n) ok nr mv) x s
      omega
    constructor
    · intro q
      rcases hB.F x hx with ⟨j, -, j2, rfl, -, j5⟩ | q2
      · have hDj := (hB.2.1 j (by omega) j2).2.2.1
        have e : d = D j := (q_eq (by omega) (by omega)).1 (q.symm.trans j5)
        refine ⟨⟨D j, by rw [e]; exact (hB.2.1 j (by omega) j2).2.2.2⟩, fun k w hkw => ?_⟩
        have := hIs.2 _ _ (hkw.snoc hback)
        omega
      · exfalso
        rw [q2] at q
        exact hF.novis hx ⟨d, by omega, q⟩
    · intro q
      obtain ⟨k, hk⟩ := q.1
      obtain ⟨j, -, j2, rfl, j4⟩ := hB.cert m (fun i _ hi => hm2 i hi) hk (by omega)
      have hDj := hB.2.1 j (by omega) j2
      have := q.2 _ _ hDj.2.2.2
      have e : D j = d := by omega
      rw [hDj.2.1, e]
  have entI : ∀ i, i < cn → ∃ x, x < 2 ^ n ∧ f13 i = nI x ∧ 0 < ew (2 ^ n) ok nr mv s x := by
    intro i hi
    obtain ⟨x, w, ⟨h1, h2, h3, h4⟩, h5, -⟩ := hEnt.1 i hi
    exact ⟨x, h1, h5, ew_pos.2 ⟨⟨hs, h1, hoks, (hFok.ok h1).1 h2⟩, by omega⟩⟩
  refine ⟨fun b y => ∃ i, i ≤ cn ∧ y = nI i ∧ ((b = -9 ∧ ∀ i', i' < i → ∀ x, f13 i' = nI x → x < 2 ^ n → ¬ Nxt (2 ^ n) (ew (2 ^ n) ok nr mv) s t d x) ∨ (∃ x, b = nI x ∧ Nxt (2 ^ n) (ew (2 ^ n) ok nr mv) s t d x ∧ ∀ i', i' < i → ∀ y, f13 i' = nI y → y < 2 ^ n → Nxt (2 ^ n) (ew (2 ^ n) ok nr mv) s t d y → x ≤ y)), fun _ y => 81 - y.toNatClampNeg, ⟨0, by omega, rfl, Or.inl ⟨rfl, fun i' hi' => absurd hi' (by omega)⟩⟩, ?_⟩
  rintro b y ⟨i, hi, rfl, hI⟩
  refine ⟨fun c => ?_, fun c => ?_⟩
  · have hic : i = cn := by
      have := n_ge c (by omega) (by omega)
      omega
    subst hic
    have all : ∀ x, Nxt (2 ^ n) (ew (2 ^ n) ok nr mv) s t d x → ∃ i', i' < i ∧ f13 i' = nI x := by
      rintro x ⟨h1, h2, h3⟩
      obtain ⟨⟨-, -, -, q4⟩, q5⟩ := ew_pos.1 h2
      obtain ⟨i', g1, g2, -⟩ := hEnt.2 x _ ⟨h1, (hFok.ok h1).2 q4, rfl, q5⟩
      exact ⟨i', g1, g2⟩
    rcases hI with ⟨rfl, hno⟩ | ⟨x, rfl, hx, hmin⟩
    · exfalso
      obtain ⟨y, hy1, hy2⟩ := pred_of hIs
      have hy3 : y < 2 ^ n := (ew_pos.1 hy1).1.1
      have hN : Nxt (2 ^ n) (ew (2 ^ n) ok nr mv) s t d y := ⟨hy3, by rw [ew_sym h]; exact hy1, hy2⟩
      obtain ⟨i', g1, g2⟩ := all y hN
      exact hno i' g1 y g2 hy3 hN
    · refine Or.inl ⟨d, x, hIs, hx, fun y hy => ?_, rfl⟩
      obtain ⟨i', g1, g2⟩ := all y hy
      exact hmin i' g1 y g2 hy.1 hy
  · have hic := n_lt c (by omega) (by omega)
    obtain ⟨x, hx, ex, hpos⟩ := entI i hic
    rw [q_cl (show i < 2 ^ 31 by omega), ex, q_cl (show x < 2 ^ 31 by omega), es]
    have hv81 : vp_in (nI i) 81 := q_in (by omega) (by decide)
    have hiff : F' x = nI d ↔ Nxt (2 ^ n) (ew (2 ^ n) ok nr mv) s t d x := (hgood x hx hpos).trans ⟨fun q => ⟨hx, hpos, q⟩, fun q => q.2.2⟩
    have last : ∀ i', i' < i + 1 → ∀ y, f13 i' = nI y → y < 2 ^ n → i' < i ∨ y = x := by
      intro i' hi' y hy1 hy2
      rcases Nat.lt_or_ge i' i with v | v
      · exact Or.inl v
      · have e : i' = i := by omega
        subst e
        exact Or.inr ((q_eq (by omega) (by omega)).1 (hy1.symm.trans ex))
    have hmu : ∀ q : Int32, q = nI i + 1 → 81 - q.toNatClampNeg < 81 - (nI i).toNatClampNeg := by
      rintro q rfl
      exact n_mu (by omega) (by decide)
    refine ⟨hv81, q_in (by omega) (by decide), fun g => ?_, fun g => ?_⟩
    · have hN := hiff.1 g
      refine ⟨fun b9 => ⟨hv81, ?_⟩, fun b9 => ⟨hv81, fun le => ?_, fun le => ⟨hv81, ?_⟩⟩⟩
      · rintro q rfl q2 rfl
        refine ⟨⟨i + 1, by omega, q_1 i, Or.inr ⟨x, rfl, hN, fun i' hi' y hy1 hy2 hy3 => ?_⟩⟩, hmu _ rfl⟩
        rcases last i' hi' y hy1 hy2 with v | v
        · rcases hI with ⟨-, hno⟩ | ⟨x2, hb, hx2, -⟩
          · exact absurd hy3 (hno i' v y hy1 hy2)
          · rw [hb] at b9
            exact absurd b9 (q_neg x2 (by have := hx2.1; omega)).2.2
        · omega
      · rcases hI with ⟨hb, -⟩ | ⟨x2, hb, hx2, hmin⟩
        · exact absurd hb b9
        · rintro q rfl
          rw [hb] at le
          have hle := (q_le (show x2 < 2 ^ 31 by have := hx2.1; omega) (show x < 2 ^ 31 by omega)).1 le
          refine ⟨⟨i + 1, by omega, q_1 i, Or.inr ⟨x2, hb, hx2, fun i' hi' y hy1 hy2 hy3 => ?_⟩⟩, hmu _ rfl⟩
          rcases last i' hi' y hy1 hy2 with v | v
          · exact hmin i' v y hy1 hy2 hy3
          · omega
      · rcases hI with ⟨hb, -⟩ | ⟨x2, hb, hx2, hmin⟩
        · exact absurd hb b9
        · rintro q rfl q2 rfl
          rw [hb] at le
          have hle : ¬ x2 ≤ x := fun v => le ((q_le (show x2 < 2 ^ 31 by have := hx2.1; omega) (show x < 2 ^ 31 by omega)).2 v)
          refine ⟨⟨i + 1, by omega, q_1 i, Or.inr ⟨x, rfl, hN, fun i' hi' y hy1 hy2 hy3 => ?_⟩⟩, hmu _ rfl⟩
          rcases last i' hi' y hy1 hy2 with v | v
          · have := hmin i' v y hy1 hy2 hy3
            omega
          · omega
    · rintro q rfl
      refine ⟨⟨i + 1, by omega, q_1 i, ?_⟩, hmu _ rfl⟩
      rcases hI with ⟨hb, hno⟩ | ⟨x2, hb, hx2, hmin⟩
      · refine Or.inl ⟨hb, fun i' hi' y hy1 hy2 hy3 => ?_⟩
        rcases last i' hi' y hy1 hy2 with v | v
        · exact hno i' v y hy1 hy2 hy3
        · subst v
          exact g (hiff.2 hy3)
      · refine Or.inr ⟨x2, hb, hx2, fun i' hi' y hy1 hy2 hy3 => ?_⟩
        rcases last i' hi' y hy1 hy2 with v | v
        · exact hmin i' v y hy1 hy2 hy3
        · subst v
          exact absurd (hiff.2 hy3) g
