/-! begin, fewest, following -/
noncomputable def okB (P : Prop) : Bool := @decide P (Classical.propDecidable P)
theorem okB_iff {P : Prop} : okB P = true ↔ P := by
  unfold okB
  exact @decide_eq_true_iff P (Classical.propDecidable P)
theorem okB_no {P : Prop} : okB P = false ↔ ¬ P := by
  constructor
  · intro h q
    rw [okB_iff.2 q] at h
    cases h
  · intro h
    cases c : okB P with
    | false => rfl
    | true => exact absurd (okB_iff.1 c) h
/-- the sets that may be: lo members at least, hi at most, lawful -/
noncomputable def okS (n : Nat) (nr : Nat → Nat) (kind lo hi : Nat) : Nat → Bool := fun s => okB (lo ≤ pc s ∧ pc s ≤ hi ∧ Lw n nr kind s)
/-- as begin leaves the row far -/
def Fr (sz : Nat) (ok : Nat → Bool) (F : Nat → Int32) : Prop := ∀ x, x < sz → F x = if ok x = true then -1 else -2
theorem Fr.fok {sz : Nat} {ok : Nat → Bool} {F : Nat → Int32} (h : Fr sz ok F) : FOk sz ok F := by
  intro x hx
  cases q : ok x with
  | true => exact Or.inr (Or.inl ⟨by rw [h x hx, if_pos q], rfl⟩)
  | false => exact Or.inl ⟨by rw [h x hx, q]; simp, rfl⟩
theorem Fr.novis {sz : Nat} {ok : Nat → Bool} {F : Nat → Int32} (h : Fr sz ok F) {x : Nat} (hx : x < sz) : ¬ vis F x := by
  intro q
  have := q.ne
  rw [h x hx] at this
  by_cases c : ok x = true
  · rw [if_pos c] at this
    exact this.1 rfl
  · rw [if_neg c] at this
    exact this.2 rfl
theorem Fr.ls {sz : Nat} {ok : Nat → Bool} {F : Nat → Int32} (h : Fr sz ok F) (L : Nat → Int32) : LnS sz F L 0 (fun _ => 0) :=
  ⟨fun i hi => absurd hi (by omega), fun i j hij hj => absurd hj (by omega), trivial⟩
theorem Fr.new {sz : Nat} {ok : Nat → Bool} {F : Nat → Int32} (h : Fr sz ok F) {x : Nat} (hx : x < sz) : F x = -1 ↔ ok x = true := by
  rw [h x hx]
  by_cases c : ok x = true
  · rw [if_pos c]; exact ⟨fun _ => c, fun _ => rfl⟩
  · rw [if_neg c]; exact ⟨fun q => absurd q (by decide), fun q => absurd q c⟩
theorem Fr.cl {sz mv : Nat} {nr : Nat → Nat} {ok : Nat → Bool} {F : Nat → Int32} (h : Fr sz ok F) : ∀ y x, y < sz → F y = -1 → 0 < ew sz ok nr mv y x → F x = -1 := fun y x _ _ he => by
  obtain ⟨⟨-, h1, -, h2⟩, -⟩ := ew_pos.1 he
  exact (h.new h1).2 h2
theorem sp_begin2 {n kind mv lo hi : Nat} {nr : Nat → Nat} {fN : Nat → Int32} (vSz vTl vMv : Int32) (fF : Nat → Int32) (h : NetOk n nr) (hf : isN fN nr) (hk : kind ≤ 2) (hlo : lo ≤ 9) (hhi : hi ≤ 9) :
    wp_X2_begin vSz vTl vMv fF (nI n) fN (nI kind) (nI mv) (nI lo) (nI hi) (fun sz tl m F => sz = nI (2 ^ n) ∧ tl = 0 ∧ m = nI mv ∧ Fr (2 ^ n) (okS n nr kind lo hi) F) := by
  have hn := h.2.1
  have hp := p2_9 hn
  have hpos := Nat.two_pow_pos n
  unfold wp_X2_begin
  refine ⟨_, sp_all hn, ?_⟩
  rintro r rfl
  have e : nI (al n) + (1 : Int32) = nI (2 ^ n) := by
    rw [q_1]
    unfold al
    congr 1
    omega
  rw [e]
  rintro x rfl
  refine ⟨fun y F => ∃ i, i ≤ 2 ^ n ∧ y = nI i ∧ Fr i (okS n nr kind lo hi) F, fun y _ => 2 ^ n - y.toNatClampNeg, ⟨0, by omega, rfl, fun x hx => absurd hx (by omega)⟩, ?_⟩
  rintro y F ⟨i, hi2, rfl, hI⟩
  refine ⟨fun c => ⟨rfl, rfl, rfl, ?_⟩, fun c => ?_⟩
  · have := n_ge c (by omega) (by omega)
    have e2 : i = 2 ^ n := by omega
    rw [← e2]
    exact hI
  · have hlt := n_lt c (by omega) (by omega)
    have hpc := pc_le i
    -- a step
    have stp : ∀ v : Int32, v = (if okS n nr kind lo hi i = true then -1 else -2) → vp_in (nI i) 512 ∧ ∀ F' : Nat → Int32, F' = upd F (nI i).toNatClampNeg v → ∀ x : Int32, x = nI i + 1 → (∃ i, i ≤ 2 ^ n ∧ x = nI i ∧ Fr i (okS n nr kind lo hi) F') ∧ 2 ^ n - x.toNatClampNeg < 2 ^ n - (nI i).toNatClampNeg := by
      rintro v rfl
      refine ⟨q_in (by omega) (by decide), ?_⟩
      rw [q_cl (show i < 2 ^ 31 by omega)]
      rintro F' rfl x rfl
      refine ⟨⟨i + 1, by omega, q_1 i, fun x hx => ?_⟩, ?_⟩
      · by_cases z : x = i
        · subst z
          exact upd_s
        · rw [upd_n z]
          exact hI x (by omega)
      · rw [q_1, q_cl (by omega)]
        omega
    refine ⟨_, sp_bitCount (by omega), ?_⟩
    rintro r rfl
    refine ⟨_, sp_isWithin _ _ _, fun r hr => ⟨fun d => stp (-2) ?_, fun d => ⟨_, sp_isLawful h hf hk hlt, fun r2 hr2 => ⟨fun d2 => stp (-2) ?_, fun d2 => stp (-1) ?_⟩⟩⟩⟩
    · rw [if_neg]
      intro q
      have q := okB_iff.1 q
      exact hr.f d ⟨(q_le (by omega) (by omega)).2 q.1, (q_le (by omega) (by omega)).2 q.2.1⟩
    · rw [if_neg]
      intro q
      exact hr2.f d2 (okB_iff.1 q).2.2
    · rw [if_pos]
      have q := hr.t d
      exact okB_iff.2 ⟨(q_le (by omega) (by omega)).1 q.1, (q_le (by omega) (by omega)).1 q.2, hr2.t d2⟩
theorem Rc_last {sz mv : Nat} {ok : Nat → Bool} {nr : Nat → Nat} {a x : Nat} (h : Rc (e1 (ew sz ok nr mv)) a x) : x = a ∨ (x < sz ∧ ok x = true) := by
  obtain ⟨k, w, h⟩ := h
  cases k with
  | zero => exact Or.inl h.2
  | succ k =>
    obtain ⟨y, w', h1, -, -⟩ := h
    obtain ⟨⟨-, h2, -, h3⟩, -⟩ := ew_pos.1 (e1_pos.1 h1)
    exact Or.inr ⟨h2, h3⟩
theorem e1s {n : Nat} {nr : Nat → Nat} (h : NetOk n nr) (sz : Nat) (ok : Nat → Bool) (mv : Nat) : ∀ y x, e1 (ew sz ok nr mv) y x = e1 (ew sz ok nr mv) x y := e1_sym (ew_sym h sz ok mv)
/-- what fewest leaves: t is where the search began, s what was sought -/
def Few (sz : Nat) (e : Nat → Nat → Nat) (s t : Nat) (F L : Nat → Int32) (r z : Int32) (F' L' : Nat → Int32) : Prop :=
  (s = t ∧ r = 0) ∨ (s ≠ t ∧ r = -9 ∧ ¬ Rc e t s) ∨
  (∃ d hd tl X D, s ≠ t ∧ 0 < d ∧ d < 2 ^ 30 ∧ r = nI d ∧ IsD e t s d ∧ z = nI tl ∧ BfI sz 0 hd tl t e F L F' L' X D ∧ F' s = nI d ∧ ∃ m, d ≤ m + 1 ∧ ∀ i, i < tl → D i < m → i < hd)
theorem BfI.goal {sz hd tl a s : Nat} {e : Nat → Nat → Nat} {F0 L0 F Ln : Nat → Int32} {X D : Nat → Nat} (h : BfI sz 0 hd tl a e F0 L0 F Ln X D) (hsz : sz < 2 ^ 30) (hs : s < sz) (hF : F0 s = -1) (hv : ¬ F s = -1) : ∃ d, d < 2 ^ 30 ∧ IsD e a s d ∧ F s = nI d ∧ ∃ m, d ≤ m + 1 ∧ ∀ i, i < tl → D i < m → i < hd := by
  have htl := h.tl_le
  rcases h.F s hs with ⟨j, -, j2, j3, -, j5⟩ | q
  · have hD := (h.2.1 j (by omega) j2).2.2.1
    have hw := (h.2.1 j (by omega) j2).2.2.2
    obtain ⟨m, m1, m2⟩ : ∃ m, D j ≤ m + 1 ∧ ∀ i, i < tl → D i < m → i < hd := by
      rcases Nat.lt_or_ge hd tl with c | c
      · refine ⟨D hd, h.2.2.2.2.1 c j (by omega) j2, fun i hi hlt => ?_⟩
        rcases Nat.lt_or_ge i hd with v | v
        · exact v
        · have := h.2.2.1 hd i (by omega) v hi
          omega
      · exact ⟨D j, by omega, fun i hi _ => by omega⟩
    refine ⟨D j, by omega, ⟨⟨D j, by rw [← j3]; exact hw⟩, fun k w hkw => ?_⟩, j5, m, m1, m2⟩
    rcases Nat.lt_or_ge w (D j) with c | c
    · obtain ⟨i, -, i2, i3, i4⟩ := h.cert m (fun i _ hi => m2 i hi) hkw (by omega)
      have : i = j := by
        rcases Nat.lt_trichotomy i j with v | v | v
        · exact absurd (i3.trans j3.symm) (h.2.2.2.2.2.2.2.2.1 i j v j2)
        · exact v
        · exact absurd (j3.trans i3.symm) (h.2.2.2.2.2.2.2.2.1 j i v i2)
      subst this
      omega
    · exact c
  · rw [q] at hv
    exact absurd hF hv
theorem BfI.noway {sz tl a s : Nat} {e : Nat → Nat → Nat} {F0 L0 F Ln : Nat → Int32} {X D : Nat → Nat} (h : BfI sz 0 tl tl a e F0 L0 F Ln X D) (hv : F s = -1) : ¬ Rc e a s := by
  rintro ⟨k, w, hw⟩
  obtain ⟨i, -, i2, i3, -⟩ := h.cert w (fun i _ hi _ => hi) hw (Nat.le_refl _)
  have := (h.2.2.2.2.2.2.2.1 i i2).2.2.ne.1
  rw [i3] at this
  exact this hv
theorem sp_fewestM {n mv s t : Nat} {nr : Nat → Nat} {fN F L : Nat → Int32} (vFo : Int32) (fX fC : Nat → Int32) {ok : Nat → Bool} (h : NetOk n nr) (hf : isN fN nr) (hm : mv ≤ 2) (hF : Fr (2 ^ n) ok F) (hs : s < 2 ^ n) (ht : t < 2 ^ n) :
    wp_X5_fewest_M (nI (2 ^ n)) 0 vFo (nI mv) F L fX fC (nI n) fN (nI s) (nI t) (fun r z _ F' L' _ _ => Few (2 ^ n) (e1 (ew (2 ^ n) ok nr mv)) s t F L r z F' L') := by
  have hn := h.2.1
  have hp := p2_9 hn
  have hst : nI s = nI t ↔ s = t := q_eq (by omega) (by omega)
  unfold wp_X5_fewest_M
  rw [q_cl (show s < 2 ^ 31 by omega), q_cl (show t < 2 ^ 31 by omega)]
  refine ⟨fun c => Or.inl ⟨hst.1 c, rfl⟩, fun c => ⟨_, sp_isStateM hp hs, fun r hr => ⟨fun d => absurd (hr.symm.trans d) (by decide), fun _ => ⟨_, sp_isStateM hp ht, fun r2 hr2 => ⟨fun d => absurd (hr2.symm.trans d) (by decide), fun _ => ⟨q_in (by omega) (by decide), fun d => Or.inr (Or.inl ⟨fun q => c (hst.2 q), rfl, ?_⟩), fun d => ⟨q_in (by omega) (by decide), fun d2 => Or.inr (Or.inl ⟨fun q => c (hst.2 q), rfl, ?_⟩), fun d2 => ?_⟩⟩⟩⟩⟩⟩⟩
  · intro q
    rcases Rc_last q with e | ⟨-, e⟩
    · exact c (hst.2 e)
    · rw [hF s hs, if_pos e] at d
      exact absurd d (by decide)
  · intro q
    rcases Rc_last (q.rev (e1s h _ _ _)) with e | ⟨-, e⟩
    · exact c (hst.2 e.symm)
    · rw [hF t ht, if_pos e] at d2
      exact absurd d2 (by decide)
  · have hsn : F s = -1 := (hF.new hs).2 ((hF.fok.ok hs).1 d)
    have htn : F t = -1 := (hF.new ht).2 ((hF.fok.ok ht).1 d2)
    refine ⟨_, sp_spreadM (o := 0) vFo (nI s) fX fC h hf hm hF.fok (hF.ls L) ht htn hF.cl (Or.inr ⟨s, hs, rfl⟩), ?_⟩
    rintro z z2 F' L' f10 f11 ⟨hd, tl, X, D, rfl, hB, hend⟩
    refine ⟨q_in (by omega) (by decide), fun v => Or.inr (Or.inl ⟨fun q => c (hst.2 q), rfl, ?_⟩), fun v => ⟨q_in (by omega) (by decide), ?_⟩⟩
    · rcases hend with rfl | ⟨g, hg, e, hv⟩
      · exact hB.noway v
      · have := (q_eq (by omega) (by omega)).1 e
        subst this
        exact absurd v hv.ne.1
    · obtain ⟨d9, d1, d3, d4, d5⟩ := hB.goal (by omega) hs hsn v
      refine Or.inr (Or.inr ⟨d9, hd, tl, X, D, fun q => c (hst.2 q), ?_, d1, d4, d3, rfl, hB, d4, d5⟩)
      rcases Nat.eq_zero_or_pos d9 with e | e
      · subst e
        obtain ⟨k, hk⟩ := d3.1
        obtain ⟨e2, -⟩ := Wk_un hk
        subst e2
        exact absurd (hst.2 hk.2) c
      · exact e
