/-! THE REFERENCE'S SEARCH: goFrom -/
theorem sp_canBe {n k mv lo hi s : Nat} {nr : Nat → Nat} {jJ : Nat → Int32} (h : NetOk n nr) (hf : isN jJ nr) (hk : k ≤ 2) (hm : mv ≤ 2) (hlo : lo ≤ 9) (hhi : hi ≤ 9) (hs : s < 2 ^ n) :
    wp_X9_canBe (nI n) (nI lo) (nI hi) jJ (nI k) (nI mv) (nI s) (fun r => isB r (okM n nr k mv lo hi s = true)) := by
  have hp := p2_9 h.2.1
  have hpc := pc_le s
  have em2 : nI mv < 2 ↔ mv < 2 := q_lt (b := 2) (by omega) (by decide)
  unfold wp_X9_canBe okM okS
  refine ⟨_, sp_isLawful9 h hf hk hs, fun r hr => ⟨fun c => isB.no (fun q => hr.f c (okB_iff.1 q).2.2), fun c => ⟨fun d => isB.yes (okB_iff.2 ?_), fun d => ⟨_, sp_size (by omega), ?_⟩⟩⟩⟩
  · rw [em2] at d
    rw [if_neg (by omega), if_neg (by omega)]
    exact ⟨by omega, hpc, hr.t c⟩
  · rw [em2] at d
    have e : mv = 2 := by omega
    subst e
    rintro r6 rfl
    refine ⟨_, sp_in _ _ _, fun r8 hr8 => ⟨fun d => isB.no (fun q => hr8.f d ?_), fun d => isB.yes (okB_iff.2 ?_)⟩⟩
    · have q := okB_iff.1 q
      simp only [↓reduceIte] at q
      exact ⟨(q_le (by omega) (by omega)).2 q.1, (q_le (by omega) (by omega)).2 q.2.1⟩
    · simp only [↓reduceIte]
      have q := hr8.t d
      exact ⟨(q_le (by omega) (by omega)).1 q.1, (q_le (by omega) (by omega)).1 q.2, hr.t c⟩
theorem sp_isGood9 {n : Nat} {nr : Nat → Nat} {jJ : Nat → Int32} (h : NetOk n nr) (hf : isN jJ nr) (p1 p2 p3 : Int32) : wp_X9_isGood (nI n) jJ p1 p2 p3 (fun r => isB r (∃ k mv s, Pre1 n nr p1 p2 p3 k mv s)) := by
  have hp := p2_9 h.2.1
  unfold wp_X9_isGood
  refine ⟨_, sp_isKind9 p1, fun r1 hr1 => ⟨fun c => isB.no (fun ⟨k, _, _, q⟩ => hr1.f c ⟨k, q.1, q.2.1⟩), fun c1 => ⟨_, sp_isKind9 p2, fun r2 hr2 => ⟨fun c => isB.no (fun ⟨_, mv, _, q⟩ => hr2.f c ⟨mv, q.2.2.1, q.2.2.2.1⟩), fun c2 => ⟨_, sp_isSet9 h.2.1 p3, fun r3 hr3 => ⟨fun c => isB.no (fun ⟨_, _, s, q⟩ => hr3.f c ⟨s, q.2.2.2.2.1, q.2.2.2.2.2.1⟩), fun c3 => ?_⟩⟩⟩⟩⟩⟩
  obtain ⟨k, hk, rfl⟩ := hr1.t c1
  obtain ⟨mv, hm, rfl⟩ := hr2.t c2
  obtain ⟨s, hs, rfl⟩ := hr3.t c3
  refine ⟨_, sp_isLawful9 h hf hk hs, fun r4 hr4 => ⟨fun c => isB.no (fun ⟨k', _, s', q⟩ => ?_), fun c4 => isB.yes ⟨k, mv, s, hk, rfl, hm, rfl, hs, rfl, hr4.t c4⟩⟩⟩
  obtain ⟨q1, q2, q3, q4, q5, q6, q7⟩ := q
  have e := (q_eq (by omega) (by omega)).1 q2
  subst e
  have e := (q_eq (by omega) (by omega)).1 q6
  subst e
  exact hr4.f c q7
theorem sp_forget9 (jF jD : Nat → Int32) : wp_X9_forget jF jD (fun F D => ∀ x, x < 512 → F x = nI 1000000 ∧ D x = 0) := by
  unfold wp_X9_forget
  refine ⟨fun y F D => ∃ i, i ≤ 512 ∧ y = nI i ∧ ∀ x, x < i → F x = nI 1000000 ∧ D x = 0, fun y _ _ => 512 - y.toNatClampNeg, ⟨0, by omega, rfl, fun x hx => absurd hx (by omega)⟩, ?_⟩
  rintro y F D ⟨i, hi, rfl, hI⟩
  refine ⟨fun c => ?_, fun c => ?_⟩
  · have := n_ge (n := 512) c (by decide) (by omega)
    have e : i = 512 := by omega
    subst e
    exact hI
  · have hlt := n_lt (n := 512) c (by decide) (by omega)
    rw [q_cl (show i < 2 ^ 31 by omega)]
    refine ⟨q_in hlt (by decide), ?_⟩
    rintro F' rfl
    refine ⟨q_in hlt (by decide), ?_⟩
    rintro D' rfl x rfl
    refine ⟨⟨i + 1, by omega, q_1 i, fun x hx => ?_⟩, n_mu hlt (by decide)⟩
    by_cases c2 : x = i
    · subst c2
      exact ⟨upd_s, by rw [upd_s]; exact vp_b0⟩
    · rw [upd_n c2, upd_n c2]
      exact hI x (by omega)
theorem ct_flip {p q : Nat → Bool} {m : Nat} (hp : p m = true) (hq : q m = false) (hne : ∀ x, x ≠ m → p x = q x) : ∀ sz, m < sz → ctB p sz = ctB q sz + 1
  | 0, h => absurd h (by omega)
  | sz + 1, h => by
    show ctB p sz + (if p sz = true then 1 else 0) = ctB q sz + (if q sz = true then 1 else 0) + 1
    rcases Nat.lt_or_ge m sz with c | c
    · rw [ct_flip hp hq hne sz c, hne sz (by omega)]
      omega
    · have e : sz = m := by omega
      subst e
      rw [hp, hq, ctB_eq sz (fun x hx => hne x (by omega))]
      simp
/-- labels as numbers -/
def Fl (sz : Nat) (F : Nat → Int32) (f : Nat → Nat) : Prop := ∀ x, x < sz → F x = nI (f x) ∧ f x ≤ 1000000
/-- how many aren't done -/
def c0 (sz : Nat) (D : Nat → Int32) : Nat := ctB (fun x => decide (D x = 0)) sz
theorem c0_le (sz : Nat) (D : Nat → Int32) : c0 sz D ≤ sz := ctB_le _ _
theorem c0_upd {sz m : Nat} {D : Nat → Int32} (hm : m < sz) (hD : D m = 0) : c0 sz D = c0 sz (upd D m 1) + 1 := by
  unfold c0
  refine ct_flip (m := m) (by simp [hD]) (by rw [upd_s]; decide) (fun x hx => by rw [upd_n hx]) sz hm
def GoPre (sz : Nat) (e : Nat → Nat → Nat) (F D : Nat → Int32) : Prop :=
  ∃ f, Fl sz F f ∧ (∀ x, x < sz → D x = 0 ∨ D x = 1) ∧ (∀ x, x < sz → D x = 0 → f x = 1000000) ∧ ∀ y x, y < sz → ¬ D y = 0 → 0 < e y x → ¬ D x = 0
def GoEnd (sz a : Nat) (e : Nat → Nat → Nat) (D0 F D : Nat → Int32) : Prop :=
  ∃ f, Fl sz F f ∧ (∀ x, x < sz → D x = 0 ∨ D x = 1) ∧ (∀ x, x < sz → D x = 0 → f x = 1000000) ∧ (∀ x, x < sz → (¬ D x = 0 ↔ (¬ D0 x = 0 ∨ Rc e a x))) ∧ ∀ x, x < sz → D0 x = 0 → ¬ D x = 0 → f x < 1000000 ∧ IsD e a x (f x)
/-- the set that is gone on from -/
def GoN (sz : Nat) (ok : Nat → Bool) (D0 D : Nat → Int32) (f : Nat → Nat) (m : Nat) : Prop :=
  m < sz ∧ ok m = true ∧ ¬ D m = 0 ∧ D0 m = 0 ∧ f m + 3 ≤ 3 * (sz - c0 sz D) ∧ (∀ y, y < sz → D0 y = 0 → ¬ D y = 0 → f y ≤ f m) ∧ ∀ x, x < sz → D x = 0 → f m ≤ f x
def GoI (sz a : Nat) (ok : Nat → Bool) (e : Nat → Nat → Nat) (D0 : Nat → Int32) (now : Int32) (F D : Nat → Int32) (f : Nat → Nat) : Prop :=
  Fl sz F f ∧ (∀ x, x < sz → (D x = 0 ∨ D x = 1) ∧ (¬ D0 x = 0 → ¬ D x = 0)) ∧ (f a = 0 ∧ ¬ D a = 0) ∧
  (∀ x, x < sz → D0 x = 0 → f x < 1000000 → (∃ k, Wk e a k (f x) x) ∧ f x ≤ 3 * (sz - c0 sz D)) ∧
  (∀ x, x < sz → D0 x = 0 → ¬ D x = 0 → f x < 1000000) ∧
  (∀ y x, y < sz → D0 y = 0 → ¬ D y = 0 → ¬ nI y = now → 0 < e y x → f x ≤ f y + e y x) ∧
  ((now = -1 ∧ ∀ x, x < sz → D x = 0 → f x = 1000000) ∨ ∃ m, now = nI m ∧ GoN sz ok D0 D f m)
theorem GoI.fin {sz a : Nat} {ok : Nat → Bool} {e : Nat → Nat → Nat} {D0 F D : Nat → Int32} {f : Nat → Nat} (hsz : sz ≤ 512) (he : Eg sz ok e) (h3 : ∀ y x, e y x ≤ 3) (ha : a < sz) (hna : D0 a = 0)
    (hcl : ∀ y x, y < sz → ¬ D0 y = 0 → 0 < e y x → ¬ D0 x = 0) (h : GoI sz a ok e D0 (-1) F D f) : GoEnd sz a e D0 F D := by
  obtain ⟨g1, g2, g3, g4, g5, g6, g7⟩ := h
  have g7 : ∀ x, x < sz → D x = 0 → f x = 1000000 := by
    rcases g7 with q | ⟨m, q, q2⟩
    · exact q.2
    · exact absurd q.symm (q_neg m (by have := q2.1; omega)).1
  have hc := c0_le sz D
  have key := cert (e := e) (a := a) (ok := fun x => x < sz ∧ D0 x = 0 ∧ ¬ D x = 0) (D := f) ⟨⟨ha, hna, g3.2⟩, g3.1⟩ (fun x ⟨q1, q2, q3⟩ => (g4 x q1 q2 (g5 x q1 q2 q3)).1) (fun y x ⟨q1, q2, q3⟩ hx => by
    obtain ⟨-, k2, -, -⟩ := he.2 y x hx
    have k5 := g6 y x q1 q2 q3 (q_neg y (by omega)).1 hx
    have k6 := (g4 y q1 q2 (g5 y q1 q2 q3)).2
    have k7 := h3 y x
    refine ⟨⟨k2, ?_, ?_⟩, k5⟩
    · refine Classical.byContradiction (fun v => ?_)
      exact hcl x y k2 v (by rw [he.1]; exact hx) q2
    · intro v
      have := g7 x k2 v
      omega)
  refine ⟨f, g1, fun x hx => (g2 x hx).1, g7, fun x hx => ⟨fun q => ?_, ?_⟩, fun x hx q1 q2 => ⟨g5 x hx q1 q2, (key x).2 ⟨hx, q1, q2⟩⟩⟩
  · rcases Classical.em (D0 x = 0) with v | v
    · exact Or.inr ((key x).1.1 ⟨hx, v, q⟩)
    · exact Or.inl v
  · rintro (q | q)
    · exact (g2 x hx).2 q
    · exact ((key x).1.2 q).2.2
/-- the labels behind one set's moves -/
def lbl (e : Nat → Nat → Nat) (D : Nat → Int32) (f : Nat → Nat) (m x : Nat) : Nat := if D x = 0 ∧ 0 < e m x ∧ f m + e m x < f x then f m + e m x else f x
theorem lbl_le (e : Nat → Nat → Nat) (D : Nat → Int32) (f : Nat → Nat) (m x : Nat) : lbl e D f m x ≤ f x := by
  unfold lbl
  split <;> omega
theorem lbl_done {e : Nat → Nat → Nat} {D : Nat → Int32} {f : Nat → Nat} {m x : Nat} (h : ¬ D x = 0) : lbl e D f m x = f x := by
  unfold lbl
  rw [if_neg (fun q => h q.1)]
theorem lbl_cl {e : Nat → Nat → Nat} {D : Nat → Int32} {f : Nat → Nat} {m x : Nat} (h : D x = 0) (h2 : 0 < e m x) : lbl e D f m x ≤ f m + e m x := by
  unfold lbl
  split
  · omega
  · rename_i c
    have : ¬ f m + e m x < f x := fun q => c ⟨h, h2, q⟩
    omega
theorem lbl_or (e : Nat → Nat → Nat) (D : Nat → Int32) (f : Nat → Nat) (m x : Nat) : lbl e D f m x = f x ∨ (D x = 0 ∧ 0 < e m x ∧ lbl e D f m x = f m + e m x) := by
  unfold lbl
  split
  · rename_i c
    exact Or.inr ⟨c.1, c.2.1, rfl⟩
  · exact Or.inl rfl
theorem GoI.next {sz a m : Nat} {ok : Nat → Bool} {e : Nat → Nat → Nat} {D0 F D F' : Nat → Int32} {f : Nat → Nat} (hsz : sz ≤ 512) (he : Eg sz ok e) (h3 : ∀ y x, e y x ≤ 3) (ha : a < sz)
    (hcl : ∀ y x, y < sz → ¬ D0 y = 0 → 0 < e y x → ¬ D0 x = 0) (h : GoI sz a ok e D0 (nI m) F D f) (hm : GoN sz ok D0 D f m) (hF : Fl sz F' (lbl e D f m)) :
    ((∀ x, x < sz → D x = 0 → 1000000 ≤ lbl e D f m x) → GoI sz a ok e D0 (-1) F' D (lbl e D f m)) ∧
    ∀ m', m' < sz → D m' = 0 → lbl e D f m m' < 1000000 → (∀ x, x < sz → D x = 0 → lbl e D f m m' ≤ lbl e D f m x) → GoI sz a ok e D0 (nI m') F' (upd D m' 1) (lbl e D f m) := by
  obtain ⟨g1, g2, g3, g4, g5, g6, -⟩ := h
  obtain ⟨k1, k2, k3, k4, k5, k6, k7⟩ := hm
  have hc := c0_le sz D
  have fm := g5 m k1 k4 k3
  have a0 : lbl e D f m a = 0 := by rw [lbl_done g3.2]; exact g3.1
  -- sound
  have snd : ∀ x, x < sz → D0 x = 0 → lbl e D f m x < 1000000 → (∃ k, Wk e a k (lbl e D f m x) x) ∧ lbl e D f m x ≤ 3 * (sz - c0 sz D) := by
    intro x hx q1 q2
    rcases lbl_or e D f m x with v | ⟨v1, v2, v3⟩
    · rw [v] at q2 ⊢
      exact g4 x hx q1 q2
    · obtain ⟨⟨k, hk⟩, -⟩ := g4 m k1 k4 fm
      have := h3 m x
      rw [v3]
      exact ⟨⟨k + 1, hk.snoc v2⟩, by omega⟩
  have dn : ∀ x, x < sz → D0 x = 0 → ¬ D x = 0 → lbl e D f m x < 1000000 := fun x hx q1 q2 => by
    rw [lbl_done q2]
    exact g5 x hx q1 q2
  have cls : ∀ y x, y < sz → D0 y = 0 → ¬ D y = 0 → 0 < e y x → lbl e D f m x ≤ lbl e D f m y + e y x := by
    intro y x hy q1 q2 hx
    rw [lbl_done q2]
    by_cases c : y = m
    · subst c
      obtain ⟨-, j2, -, -⟩ := he.2 y x hx
      by_cases d : D x = 0
      · exact lbl_cl d hx
      · rw [lbl_done d]
        have d0 : D0 x = 0 := Classical.byContradiction (fun v => hcl x y j2 v (by rw [he.1]; exact hx) q1)
        have := k6 x j2 d0 d
        omega
    · have j1 := lbl_le e D f m x
      have j2 := g6 y x hy q1 q2 (fun v => c ((q_eq (by omega) (by omega)).1 v)) hx
      omega
  have low : ∀ x, x < sz → D x = 0 → f m ≤ lbl e D f m x := by
    intro x hx q
    rcases lbl_or e D f m x with v | ⟨v1, v2, v3⟩
    · rw [v]
      exact k7 x hx q
    · omega
  refine ⟨fun hA => ⟨hF, g2, ⟨a0, g3.2⟩, snd, dn, fun y x hy q1 q2 _ hx => cls y x hy q1 q2 hx, Or.inl ⟨rfl, fun x hx q => ?_⟩⟩, fun m' h1 h2 h4 h5 => ?_⟩
  · have := hA x hx q
    have := (hF x hx).2
    omega
  · have d0 : D0 m' = 0 := Classical.byContradiction (fun v => (g2 m' h1).2 v h2)
    have hu := c0_upd h1 h2
    have ham : a ≠ m' := fun v => g3.2 (by rw [v]; exact h2)
    have upn : ∀ y, ¬ upd D m' 1 y = 0 → y ≠ m' → ¬ D y = 0 := fun y q v => by rw [upd_n v] at q; exact q
    have ups : ∀ y, upd D m' 1 y = 0 → D y = 0 := fun y q => by
      by_cases v : y = m'
      · subst v
        exact h2
      · rw [upd_n v] at q
        exact q
    refine ⟨hF, fun x hx => ?_, ⟨a0, by rw [upd_n ham]; exact g3.2⟩, fun x hx q1 q2 => ?_, fun x hx q1 q2 => ?_, fun y x hy q1 q2 q3 hx => ?_, Or.inr ⟨m', rfl, h1, ?_, by rw [upd_s]; decide, d0, ?_, fun y hy q1 q2 => ?_, fun x hx q => h5 x hx (ups x q)⟩⟩
    · by_cases v : x = m'
      · subst v
        rw [upd_s]
        exact ⟨Or.inr rfl, fun _ => by decide⟩
      · rw [upd_n v]
        exact g2 x hx
    · have := snd x hx q1 q2
      exact ⟨this.1, by omega⟩
    · by_cases v : x = m'
      · subst v
        exact h4
      · exact dn x hx q1 (upn x q2 v)
    · have v : y ≠ m' := fun v => q3 (by rw [v])
      exact cls y x hy q1 (upn y q2 v) hx
    · obtain ⟨⟨k, hk⟩, -⟩ := snd m' h1 d0 h4
      rcases he.last ⟨k, _, hk⟩ with v | v
      · exact absurd v.symm ham
      · exact v.2.1
    · have := (snd m' h1 d0 h4).2
      omega
    · by_cases v : y = m'
      · subst v
        exact Nat.le_refl _
      · have q3 := upn y q2 v
        rw [lbl_done q3]
        have := k6 y hy q1 q3
        have := low m' h1 h2
        omega
theorem sp_goFrom {n k mv lo hi a : Nat} {nr : Nat → Nat} {jJ F0 D0 : Nat → Int32} {e : Nat → Nat → Nat} (p4 : Int32) (h : NetOk n nr) (hf : isN jJ nr) (hk : k ≤ 2) (hm : mv ≤ 2) (hlo : lo ≤ 9) (hhi : hi ≤ 9) (ha : a < 2 ^ n)
    (hp4 : (p4 = 0 ∧ e = e1 (ewM n nr k mv lo hi)) ∨ (¬ p4 = 0 ∧ e = ewM n nr k mv lo hi)) (hG : GoPre (2 ^ n) e F0 D0) (hna : D0 a = 0) :
    wp_X9_goFrom (nI n) (nI lo) (nI hi) jJ F0 D0 (nI k) (nI mv) (nI a) p4 (fun F D => GoEnd (2 ^ n) a e D0 F D) := by
  have hn := h.2.1
  have hp := p2_9 hn
  have hpos := Nat.two_pow_pos n
  have he : Eg (2 ^ n) (okM n nr k mv lo hi) e := by
    rcases hp4 with ⟨-, rfl⟩ | ⟨-, rfl⟩
    · exact (Eg_ew h _ _ _).e1
    · exact Eg_ew h _ _ _
  have ew3 : ∀ y x, ewM n nr k mv lo hi y x ≤ 3 := fun y x => by
    unfold ewM ew
    split
    · exact Wd_le nr mv _ _
    · omega
  have h3 : ∀ y x, e y x ≤ 3 := fun y x => by
    rcases hp4 with ⟨-, rfl⟩ | ⟨-, rfl⟩
    · have := e1_le (ewM n nr k mv lo hi) y x
      omega
    · exact ew3 y x
  -- the weight of a move between sets that may be
  have ev : ∀ y x, y < 2 ^ n → x < 2 ^ n → okM n nr k mv lo hi y = true → okM n nr k mv lo hi x = true → 0 < Wt nr mv y x → e y x = if p4 = 0 then 1 else Wt nr mv y x := by
    intro y x h1 h2 h4 h5 h6
    have e9 : ewM n nr k mv lo hi y x = Wt nr mv y x := by
      unfold ewM ew
      rw [if_pos ⟨h1, h2, h4, h5⟩]
    rcases hp4 with ⟨q, rfl⟩ | ⟨q, rfl⟩
    · rw [if_pos q]
      exact e1_one (by rw [e9]; exact h6)
    · rw [if_neg q]
      exact e9
  have en : ∀ y x, 0 < e y x → 0 < Wt nr mv y x ∧ okM n nr k mv lo hi x = true := by
    intro y x h1
    have h2 : 0 < ewM n nr k mv lo hi y x := by
      rcases hp4 with ⟨q, rfl⟩ | ⟨q, rfl⟩
      · exact e1_pos.1 h1
      · exact h1
    exact ⟨(ew_pos.1 h2).2, (ew_pos.1 h2).1.2.2.2⟩
  obtain ⟨f0, hf0, hD01, hD0, hcl⟩ := hG
  unfold wp_X9_goFrom
  rw [q_cl (show a < 2 ^ 31 by omega), q_one (show n < 31 by omega), vp_b1]
  refine ⟨q_in (by omega) (by decide), ?_⟩
  rintro F1 rfl
  refine ⟨_, sp_canBe h hf hk hm hlo hhi ha, fun r hr => ⟨fun t => (t = -1 ∧ okM n nr k mv lo hi a = false) ∨ (t = nI a ∧ okM n nr k mv lo hi a = true), ⟨fun c => Or.inl ⟨rfl, by
    cases q : okM n nr k mv lo hi a with
    | false => rfl
    | true => exact absurd q (hr.f c)⟩, fun c => Or.inr ⟨rfl, hr.t c⟩⟩, ?_⟩⟩
  rintro t ht
  refine ⟨q_in (by omega) (by decide), ?_⟩
  rintro D1 rfl
  refine ⟨fun y F D => ∃ f, GoI (2 ^ n) a (okM n nr k mv lo hi) e D0 y F D f, fun y _ D => 2 * c0 (2 ^ n) D + (if y < 0 then 0 else 1), ?_, ?_⟩
  · -- the start
    have ua : c0 (2 ^ n) D0 = c0 (2 ^ n) (upd D0 a 1) + 1 := c0_upd ha hna
    have hc := c0_le (2 ^ n) D0
    have upn : ∀ y, ¬ upd D0 a 1 y = 0 → D0 y = 0 → y = a := fun y q v => by
      refine Classical.byContradiction (fun w => q ?_)
      rw [upd_n w]
      exact v
    refine ⟨fun x => if x = a then 0 else f0 x, fun x hx => ?_, fun x hx => ?_, ⟨by simp, by rw [upd_s]; decide⟩, fun x hx q1 q2 => ?_, fun x hx q1 q2 => ?_, fun y x hy q1 q2 q3 hx => ?_, ?_⟩
    · by_cases c : x = a
      · subst c
        simp only [↓reduceIte]
        exact ⟨upd_s, by omega⟩
      · simp only [if_neg c]
        rw [upd_n c]
        exact hf0 x hx
    · by_cases c : x = a
      · subst c
        rw [upd_s]
        exact ⟨Or.inr rfl, fun _ => by decide⟩
      · rw [upd_n c]
        exact ⟨hD01 x hx, id⟩
    · by_cases c : x = a
      · subst c
        simp only [↓reduceIte]
        exact ⟨⟨0, rfl, rfl⟩, by omega⟩
      · simp only [if_neg c] at q2
        have := hD0 x hx q1
        omega
    · have := upn x q2 q1
      simp only [this, ↓reduceIte]
      omega
    · have := upn y q2 q1
      subst this
      rcases ht with ⟨-, ht⟩ | ⟨ht, -⟩
      · obtain ⟨-, -, j3, -⟩ := he.2 y x hx
        rw [ht] at j3; cases j3
      · exact absurd ht.symm q3
    · rcases ht with ⟨rfl, ht⟩ | ⟨rfl, ht⟩
      · refine Or.inl ⟨rfl, fun x hx q => ?_⟩
        by_cases c : x = a
        · subst c
          rw [upd_s] at q
          exact absurd q (by decide)
        · simp only [if_neg c]
          rw [upd_n c] at q
          exact hD0 x hx q
      · refine Or.inr ⟨a, rfl, ha, ht, by rw [upd_s]; decide, hna, by simp only [↓reduceIte]; omega, fun y hy q1 q2 => ?_, fun x hx q => by simp only [↓reduceIte]; omega⟩
        have := upn y q2 q1
        simp only [this, ↓reduceIte]
        exact Nat.le_refl _
  · rintro y F D ⟨f, hI⟩
    refine ⟨fun c => ?_, fun c => ?_⟩
    · have : y = -1 := by
        rcases hI.2.2.2.2.2.2 with q | ⟨m, q, q2⟩
        · exact q.1
        · rw [q] at c
          exact absurd c (nI_pos (by have := q2.1; omega))
      subst this
      exact hI.fin hp he h3 ha hna hcl
    · obtain ⟨m, rfl, hN⟩ : ∃ m, y = nI m ∧ GoN (2 ^ n) (okM n nr k mv lo hi) D0 D f m := by
        rcases hI.2.2.2.2.2.2 with q | q
        · rw [q.1] at c
          exact absurd (by decide) c
        · exact q
      have hmlt := hN.1
      have hFl := hI.1
      have fmb : f m ≤ 1536 := by
        have := hN.2.2.2.2.1
        omega
      have nxt := fun F' hF' => hI.next (F' := F') hp he h3 ha hcl hN hF'
      refine ⟨fun y F' => ∃ i, i ≤ 2 ^ n ∧ y = nI i ∧ ∀ x, x < 2 ^ n → F' x = nI (if x < i then lbl e D f m x else f x), fun y _ => 2 ^ n - y.toNatClampNeg, ⟨0, by omega, rfl, fun x hx => by rw [if_neg (by omega)]; exact (hFl x hx).1⟩, ?_⟩
      rintro y F' ⟨i, hile, rfl, hF'⟩
      refine ⟨fun c1 => ?_, fun c1 => ?_⟩
      · -- all moves done: the next set
        have hic : i = 2 ^ n := by
          have := n_ge c1 (by omega) (by omega)
          omega
        have hF9 : Fl (2 ^ n) F' (lbl e D f m) := fun x hx => ⟨by rw [hF' x hx, if_pos (by omega)], Nat.le_trans (lbl_le e D f m x) (hFl x hx).2⟩
        obtain ⟨nA, nB⟩ := nxt F' hF9
        refine ⟨fun b y => ∃ i, i ≤ 2 ^ n ∧ y = nI i ∧ ((b = -1 ∧ ∀ x, x < i → D x = 0 → 1000000 ≤ lbl e D f m x) ∨ ∃ m', b = nI m' ∧ m' < i ∧ D m' = 0 ∧ lbl e D f m m' < 1000000 ∧ ∀ x, x < i → D x = 0 → lbl e D f m m' ≤ lbl e D f m x), fun _ y => 2 ^ n - y.toNatClampNeg, ⟨0, by omega, rfl, Or.inl ⟨rfl, fun x hx => absurd hx (by omega)⟩⟩, ?_⟩
        rintro b y ⟨j, hj, rfl, hJ⟩
        refine ⟨fun c2 => ?_, fun c2 => ?_⟩
        · have hjc : j = 2 ^ n := by
            have := n_ge c2 (by omega) (by omega)
            omega
          subst hjc
          refine ⟨fun c3 => ?_, fun c3 => ?_⟩
          · rcases hJ with ⟨rfl, hJ⟩ | ⟨m', rfl, h1, -⟩
            · refine ⟨⟨_, nA hJ⟩, ?_⟩
              show 2 * c0 (2 ^ n) D + (if (-1 : Int32) < 0 then 0 else 1) < 2 * c0 (2 ^ n) D + (if nI m < 0 then 0 else 1)
              rw [if_pos (show (-1 : Int32) < 0 by decide), if_neg c]
              omega
            · exact absurd c3 (nI_pos (by omega))
          · rcases hJ with ⟨rfl, -⟩ | ⟨m', rfl, h1, h2, h4, h5⟩
            · exact absurd (by decide) c3
            · rw [q_cl (show m' < 2 ^ 31 by omega)]
              refine ⟨q_in (by omega) (by decide), ?_⟩
              rintro D2 rfl
              refine ⟨⟨_, nB m' h1 h2 h4 h5⟩, ?_⟩
              have := c0_upd h1 h2
              show 2 * c0 (2 ^ n) (upd D m' 1) + (if nI m' < 0 then 0 else 1) < 2 * c0 (2 ^ n) D + (if nI m < 0 then 0 else 1)
              rw [if_neg c3, if_neg c]
              omega
        · have hlt := n_lt c2 (by omega) (by omega)
          have hFj := (hF9 j hlt).1
          have hlj := (hF9 j hlt).2
          rw [q_cl (show j < 2 ^ 31 by omega), hFj]
          have hv : vp_in (nI j) 512 := q_in (by omega) (by decide)
          have eF : (1000000 : Int32) ≤ nI (lbl e D f m j) ↔ 1000000 ≤ lbl e D f m j := q_le (a := 1000000) (by decide) (by omega)
          -- a set that stays behind
          have stay : (D j = 0 → 1000000 ≤ lbl e D f m j ∨ ∃ m', b = nI m' ∧ m' < j ∧ lbl e D f m m' ≤ lbl e D f m j) → ∀ x : Int32, x = nI j + 1 → (∃ i, i ≤ 2 ^ n ∧ x = nI i ∧ ((b = -1 ∧ ∀ x, x < i → D x = 0 → 1000000 ≤ lbl e D f m x) ∨ ∃ m', b = nI m' ∧ m' < i ∧ D m' = 0 ∧ lbl e D f m m' < 1000000 ∧ ∀ x, x < i → D x = 0 → lbl e D f m m' ≤ lbl e D f m x)) ∧ 2 ^ n - x.toNatClampNeg < 2 ^ n - (nI j).toNatClampNeg := by
            rintro hst x rfl
            refine ⟨⟨j + 1, by omega, q_1 j, ?_⟩, n_mu hlt (by omega)⟩
            rcases hJ with ⟨rfl, hJ⟩ | ⟨m', rfl, h1, h2, h4, h5⟩
            · refine Or.inl ⟨rfl, fun x hx q => ?_⟩
              rcases Nat.lt_or_ge x j with v | v
              · exact hJ x v q
              · have ex : x = j := by omega
                subst ex
                rcases hst q with w | ⟨m', w, w2, -⟩
                · exact w
                · exact absurd w.symm (q_neg m' (by omega)).1
            · refine Or.inr ⟨m', rfl, by omega, h2, h4, fun x hx q => ?_⟩
              rcases Nat.lt_or_ge x j with v | v
              · exact h5 x v q
              · have ex : x = j := by omega
                subst ex
                rcases hst q with w | ⟨m2, w, w2, w3⟩
                · omega
                · have := (q_eq (by omega) (by omega)).1 w
                  subst this
                  exact w3
          have take : D j = 0 → lbl e D f m j < 1000000 → (∀ m', b = nI m' → m' < j → lbl e D f m j ≤ lbl e D f m m') → ∀ x : Int32, x = nI j + 1 → (∃ i, i ≤ 2 ^ n ∧ x = nI i ∧ ((nI j = -1 ∧ ∀ x, x < i → D x = 0 → 1000000 ≤ lbl e D f m x) ∨ ∃ m', nI j = nI m' ∧ m' < i ∧ D m' = 0 ∧ lbl e D f m m' < 1000000 ∧ ∀ x, x < i → D x = 0 → lbl e D f m m' ≤ lbl e D f m x)) ∧ 2 ^ n - x.toNatClampNeg < 2 ^ n - (nI j).toNatClampNeg := by
            rintro d1 d2 d3 x rfl
            refine ⟨⟨j + 1, by omega, q_1 j, Or.inr ⟨j, rfl, by omega, d1, d2, fun x hx q => ?_⟩⟩, n_mu hlt (by omega)⟩
            rcases Nat.lt_or_ge x j with v | v
            · rcases hJ with ⟨rfl, hJ⟩ | ⟨m', rfl, h1, h2, h4, h5⟩
              · have := hJ x v q
                omega
              · have := h5 x v q
                have := d3 m' rfl h1
                omega
            · have ex : x = j := by omega
              subst ex
              exact Nat.le_refl _
          refine ⟨hv, fun d1 => ⟨hv, fun d2 => stay (fun _ => Or.inl (eF.1 d2)), fun d2 => ⟨fun d3 => ?_, fun d3 => ?_⟩⟩, fun d1 => stay (fun q => absurd q d1)⟩
          · have d2' : lbl e D f m j < 1000000 := Nat.lt_of_not_le (fun q => d2 (eF.2 q))
            refine take d1 d2' (fun m' w w2 => ?_)
            rw [w] at d3
            exact absurd d3 (nI_pos (by omega))
          · have d2' : lbl e D f m j < 1000000 := Nat.lt_of_not_le (fun q => d2 (eF.2 q))
            rcases hJ with ⟨rfl, -⟩ | ⟨m', rfl, h1, h2, h4, h5⟩
            · exact absurd (by decide) d3
            · rw [q_cl (show m' < 2 ^ 31 by omega), (hF9 m' (by omega)).1]
              have eL : nI (lbl e D f m m') ≤ nI (lbl e D f m j) ↔ lbl e D f m m' ≤ lbl e D f m j := q_le (by omega) (by omega)
              refine ⟨hv, q_in (by omega) (by decide), fun d4 => stay (fun _ => Or.inr ⟨m', rfl, h1, eL.1 d4⟩), fun d4 => take d1 d2' (fun m2 w w2 => ?_)⟩
              have := (q_eq (by omega) (by omega)).1 w
              subst this
              have : ¬ lbl e D f m m' ≤ lbl e D f m j := fun q => d4 (eL.2 q)
              omega
      · -- one set's move
        have hlt := n_lt c1 (by omega) (by omega)
        have hFi : F' i = nI (f i) := by rw [hF' i hlt, if_neg (by omega)]
        have hfi := (hFl i hlt).2
        have hFm : F' m = nI (f m) := by
          rw [hF' m hmlt]
          by_cases v : m < i
          · rw [if_pos v, lbl_done hN.2.2.1]
          · rw [if_neg v]
        have hv : vp_in (nI i) 512 := q_in (by omega) (by decide)
        rw [q_cl (show i < 2 ^ 31 by omega), q_cl (show m < 2 ^ 31 by omega), hFi, hFm]
        have stp : ∀ v : Nat, v = lbl e D f m i → ∀ F2 : Nat → Int32, F2 = upd F' i (nI v) → ∀ x : Int32, x = nI i + 1 → (∃ i, i ≤ 2 ^ n ∧ x = nI i ∧ ∀ x, x < 2 ^ n → F2 x = nI (if x < i then lbl e D f m x else f x)) ∧ 2 ^ n - x.toNatClampNeg < 2 ^ n - (nI i).toNatClampNeg := by
          rintro v rfl F2 rfl x rfl
          refine ⟨⟨i + 1, by omega, q_1 i, fun x hx => ?_⟩, n_mu hlt (by omega)⟩
          by_cases z : x = i
          · subst z
            rw [upd_s, if_pos (by omega)]
          · rw [upd_n z, hF' x hx]
            by_cases z2 : x < i
            · rw [if_pos z2, if_pos (by omega)]
            · rw [if_neg z2, if_neg (by omega)]
        have keep : f i = lbl e D f m i → vp_in (nI i) 512 ∧ ∀ x : Int32, x = nI (f i) → vp_in (nI i) 512 ∧ ∀ F2 : Nat → Int32, F2 = upd F' i x → ∀ x2 : Int32, x2 = nI i + 1 → (∃ i, i ≤ 2 ^ n ∧ x2 = nI i ∧ ∀ x, x < 2 ^ n → F2 x = nI (if x < i then lbl e D f m x else f x)) ∧ 2 ^ n - x2.toNatClampNeg < 2 ^ n - (nI i).toNatClampNeg := by
          intro q
          refine ⟨hv, ?_⟩
          rintro x rfl
          exact ⟨hv, stp _ q⟩
        have no : ¬ (D i = 0 ∧ 0 < e m i ∧ f m + e m i < f i) → f i = lbl e D f m i := fun q => by
          unfold lbl
          rw [if_neg q]
        refine ⟨hv, fun t => ∃ w, t = nI w ∧ w ≤ 3 ∧ (D i = 0 → w = Wt nr mv m i) ∧ (¬ D i = 0 → w = 0), ⟨fun d => ⟨_, sp_weightOf h hf hm hmlt hlt, ?_⟩, fun d => ⟨0, rfl, by omega, fun q => absurd q d, fun _ => rfl⟩⟩, ?_⟩
        · rintro r rfl
          exact ⟨_, rfl, Wd_le nr mv _ _, fun _ => rfl, fun q => absurd d q⟩
        · rintro t ⟨w, rfl, hw3, hw1, hw2⟩
          refine ⟨q_in (by omega) (by decide), fun t => t = nI (if p4 = 0 then 1 else w), ⟨fun d => by rw [if_pos d]; rfl, fun d => by rw [if_neg d]⟩, ?_⟩
          rintro t rfl x34 rfl
          generalize hv9 : (if p4 = 0 then 1 else w) = v9
          have hv3 : v9 ≤ 3 := by
            rw [← hv9]
            split <;> omega
          rw [q_add]
          have ew0 : nI w ≤ 0 ↔ w = 0 := by
            have := q_le (a := w) (b := 0) (by omega) (by decide)
            exact this.trans (by omega)
          refine ⟨fun d => keep (no ?_), fun d => ?_⟩
          · rw [ew0] at d
            rintro ⟨q1, q2, -⟩
            have := (en m i q2).1
            have := hw1 q1
            omega
          · have hw0 : ¬ w = 0 := fun q => d (ew0.2 q)
            have hDi : D i = 0 := Classical.byContradiction (fun q => hw0 (hw2 q))
            have hwt := hw1 hDi
            have eL : nI (f i) ≤ nI (f m + v9) ↔ f i ≤ f m + v9 := q_le (by omega) (by omega)
            have evi : okM n nr k mv lo hi i = true → e m i = v9 := fun q => by
              rw [ev m i hmlt hlt hN.2.1 q (by omega), ← hv9, ← hwt]
            have hv1 : 0 < v9 := by
              rw [← hv9]
              split <;> omega
            refine ⟨hv, fun d2 => keep (no ?_), fun d2 => ⟨_, sp_canBe h hf hk hm hlo hhi hlt, fun r hr => ⟨fun d3 => keep (no ?_), fun d3 => ⟨hv, stp _ ?_⟩⟩⟩⟩
            · rintro ⟨-, q2, q3⟩
              have := evi (en m i q2).2
              have := eL.1 d2
              omega
            · rintro ⟨-, q2, -⟩
              exact hr.f d3 (en m i q2).2
            · have q1 := evi (hr.t d3)
              have q2 : ¬ f i ≤ f m + v9 := fun q => d2 (eL.2 q)
              unfold lbl
              rw [if_pos ⟨hDi, by omega, by omega⟩, q1]
