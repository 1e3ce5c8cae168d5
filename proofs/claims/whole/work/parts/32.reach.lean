/-! ALL THAT CAN BE REACHED; parts -/
/-- how many of the first -/
def ctB (p : Nat → Bool) : Nat → Nat
  | 0 => 0
  | k + 1 => ctB p k + (if p k = true then 1 else 0)
theorem ctB_le (p : Nat → Bool) : ∀ k, ctB p k ≤ k
  | 0 => Nat.le_refl 0
  | k + 1 => by
    have h := ctB_le p k
    show ctB p k + (if p k = true then 1 else 0) ≤ k + 1
    split <;> omega
theorem ctB_yes {p : Nat → Bool} {k : Nat} (h : p k = true) : ctB p (k + 1) = ctB p k + 1 := by
  show ctB p k + (if p k = true then 1 else 0) = _
  rw [if_pos h]
theorem ctB_no {p : Nat → Bool} {k : Nat} (h : ¬ p k = true) : ctB p (k + 1) = ctB p k := by
  show ctB p k + (if p k = true then 1 else 0) = _
  rw [if_neg h]
  rfl
theorem ctB_eq {p q : Nat → Bool} : ∀ k, (∀ x, x < k → p x = q x) → ctB p k = ctB q k
  | 0, _ => rfl
  | k + 1, h => by
    show ctB p k + (if p k = true then 1 else 0) = ctB q k + (if q k = true then 1 else 0)
    rw [ctB_eq k (fun x hx => h x (by omega)), h k (by omega)]
theorem ct_enum (p : Nat → Bool) : ∀ (sz tl : Nat) (X : Nat → Nat), (∀ i, i < tl → X i < sz ∧ p (X i) = true) → (∀ i j, i < j → j < tl → X i ≠ X j) → (∀ x, x < sz → p x = true → ∃ i, i < tl ∧ X i = x) → tl = ctB p sz := by
  intro sz
  induction sz with
  | zero =>
    intro tl X h _ _
    cases tl with
    | zero => rfl
    | succ n => exact absurd (h 0 (by omega)).1 (by omega)
  | succ m ih =>
    intro tl X h hd hs
    by_cases hex : p m = true
    · obtain ⟨i, hi, e⟩ := hs m (by omega) hex
      have h1 := ih (tl - 1) (fun k => if k < i then X k else X (k + 1)) (fun k hk => by
        by_cases c : k < i
        · simp only [if_pos c]
          have a1 := h k (by omega)
          have a2 := hd k i c hi
          exact ⟨by omega, a1.2⟩
        · simp only [if_neg c]
          have a1 := h (k + 1) (by omega)
          have a2 := hd i (k + 1) (by omega) (by omega)
          exact ⟨by omega, a1.2⟩) (fun a b hab hb => by
        by_cases c : b < i
        · simp only [if_pos c, if_pos (show a < i by omega)]
          exact hd a b hab (by omega)
        · by_cases c2 : a < i
          · simp only [if_neg c, if_pos c2]
            exact hd a (b + 1) (by omega) (by omega)
          · simp only [if_neg c, if_neg c2]
            exact hd (a + 1) (b + 1) (by omega) (by omega)) (fun x hx hp => by
        obtain ⟨j, hj, e2⟩ := hs x (by omega) hp
        rcases Nat.lt_trichotomy j i with c | c | c
        · exact ⟨j, by omega, by simp only [if_pos c]; exact e2⟩
        · subst c
          omega
        · refine ⟨j - 1, by omega, ?_⟩
          simp only [if_neg (show ¬ j - 1 < i by omega)]
          rw [show j - 1 + 1 = j by omega]
          exact e2)
      rw [ctB_yes hex]
      omega
    · rw [ctB_no hex]
      refine ih tl X (fun k hk => ?_) hd (fun x hx hp => hs x (by omega) hp)
      have a1 := h k hk
      have a2 : X k ≠ m := fun e => hex (by rw [← e]; exact a1.2)
      exact ⟨by omega, a1.2⟩
/-- a graph's steps join allowed states, both ways -/
def Eg (sz : Nat) (ok : Nat → Bool) (e : Nat → Nat → Nat) : Prop := (∀ y x, e y x = e x y) ∧ ∀ y x, 0 < e y x → y < sz ∧ x < sz ∧ ok y = true ∧ ok x = true
theorem Eg_ew {n : Nat} {nr : Nat → Nat} (h : NetOk n nr) (sz : Nat) (ok : Nat → Bool) (mv : Nat) : Eg sz ok (ew sz ok nr mv) := ⟨ew_sym h sz ok mv, fun _ _ q => (ew_pos.1 q).1⟩
theorem Eg.e1 {sz : Nat} {ok : Nat → Bool} {e : Nat → Nat → Nat} (h : Eg sz ok e) : Eg sz ok (e1 e) := ⟨e1_sym h.1, fun y x q => h.2 y x (e1_pos.1 q)⟩
theorem Eg.last {sz : Nat} {ok : Nat → Bool} {e : Nat → Nat → Nat} (h : Eg sz ok e) {a x : Nat} (q : Rc e a x) : x = a ∨ (x < sz ∧ ok x = true ∧ a < sz ∧ ok a = true) := by
  obtain ⟨k, w, q⟩ := q
  have hl : ∀ k w x, Wk e a k w x → x = a ∨ (x < sz ∧ ok x = true ∧ a < sz ∧ ok a = true) := by
    intro k
    induction k with
    | zero => exact fun w x q => Or.inl q.2
    | succ k ih =>
      rintro w x ⟨y, w', q1, -, q2⟩
      obtain ⟨g1, g2, g3, g4⟩ := h.2 y x q1
      rcases ih w' y q2 with rfl | ⟨-, -, g5, g6⟩
      · exact Or.inr ⟨g2, g4, g1, g3⟩
      · exact Or.inr ⟨g2, g4, g5, g6⟩
  exact hl k w x q
/-- what a spread to the end leaves: the states that come of a, each once, nearest first -/
def En (sz a : Nat) (e : Nat → Nat → Nat) (F L : Nat → Int32) (tl : Nat) (X D : Nat → Nat) : Prop :=
  0 < tl ∧ tl ≤ sz ∧ (∀ i, i < tl → X i < sz ∧ L i = nI (X i) ∧ F (X i) = nI (D i) ∧ D i < 2 ^ 30 ∧ IsD e a (X i) (D i)) ∧ (∀ i j, i < j → j < tl → X i ≠ X j) ∧ (∀ x, Rc e a x → ∃ i, i < tl ∧ X i = x) ∧ ∀ i j, i ≤ j → j < tl → D i ≤ D j
theorem BfI.en {sz tl a : Nat} {e : Nat → Nat → Nat} {F0 L0 F Ln : Nat → Int32} {X D : Nat → Nat} (hsz : sz < 2 ^ 30) (h : BfI sz 0 tl tl a e F0 L0 F Ln X D) : En sz a e F Ln tl X D := by
  have htl := h.tl_le
  refine ⟨h.1.2.2.1, htl, fun i hi => ?_, h.2.2.2.2.2.2.2.2.1, fun x hx => ?_, fun i j hij hj => h.2.2.1 i j (by omega) hij hj⟩
  · obtain ⟨a1, a2, a3⟩ := h.2.2.2.2.2.2.2.1 i hi
    obtain ⟨b1, b2, b3, b4⟩ := h.2.1 i (by omega) hi
    refine ⟨a1, a2, b2, by omega, ⟨_, b4⟩, fun k w hw => ?_⟩
    obtain ⟨j, -, j2, j3, j4⟩ := h.cert w (fun i _ hi _ => hi) hw (Nat.le_refl _)
    have : j = i := by
      rcases Nat.lt_trichotomy j i with v | v | v
      · exact absurd j3 (h.2.2.2.2.2.2.2.2.1 j i v hi)
      · exact v
      · exact absurd j3.symm (h.2.2.2.2.2.2.2.2.1 i j v j2)
    subst this
    exact j4
  · obtain ⟨k, w, hw⟩ := hx
    obtain ⟨j, -, j2, j3, j4⟩ := h.cert w (fun i _ hi _ => hi) hw (Nat.le_refl _)
    exact ⟨j, j2, j3⟩
theorem En.out {sz a : Nat} {ok : Nat → Bool} {e : Nat → Nat → Nat} (F L : Nat → Int32) (he : Eg sz ok e) (ha : a < sz) (hno : ok a = false) : En sz a e (upd F a 0) (upd L 0 (nI a)) 1 (fun _ => a) (fun _ => 0) := by
  refine ⟨by omega, by omega, fun i hi => ⟨ha, ?_, upd_s, (show (0 : Nat) < 2 ^ 30 by decide), ⟨0, rfl, rfl⟩, fun _ _ _ => Nat.zero_le _⟩, fun i j hij hj => absurd hj (by omega), fun x hx => ?_, fun _ _ _ _ => Nat.le_refl _⟩
  · have e : i = 0 := by omega
    subst e
    exact upd_s
  · rcases he.last hx with rfl | ⟨-, -, -, q⟩
    · exact ⟨0, by omega, rfl⟩
    · rw [hno] at q; cases q
theorem sp_spreadR {n mv a : Nat} {nr : Nat → Nat} {fN F L : Nat → Int32} (vFo : Int32) (fX fC : Nat → Int32) {ok : Nat → Bool} (h : NetOk n nr) (hf : isN fN nr) (hm : mv ≤ 2) (hF : Fr (2 ^ n) ok F) (ha : a < 2 ^ n) :
    wp_X5_spread_M (nI (2 ^ n)) 0 vFo (nI mv) F L fX fC (nI n) fN (nI a) (-1) (fun z _ F' L' _ _ => ∃ tl X D, z = nI tl ∧ En (2 ^ n) a (e1 (ew (2 ^ n) ok nr mv)) F' L' tl X D) := by
  have hn := h.2.1
  have hp := p2_9 hn
  cases hoa : ok a with
  | true =>
    have w := sp_spreadM (o := 0) (X0 := fun _ => 0) (L0 := L) vFo (-1) fX fC h hf hm hF.fok (hF.ls L) ha ((hF.new ha).2 hoa) hF.cl (Or.inl rfl)
    -- a weaker end is met
    have fin : ∀ (z1 : Int32) (f1 f2 : Nat → Int32), (∃ hd tl X D, z1 = nI tl ∧ BfI (2 ^ n) 0 hd tl a (e1 (ew (2 ^ n) ok nr mv)) F L f1 f2 X D ∧ (hd = tl ∨ ∃ g, g < 2 ^ n ∧ (-1 : Int32) = nI g ∧ vis f1 g)) → ∃ tl X D, z1 = nI tl ∧ En (2 ^ n) a (e1 (ew (2 ^ n) ok nr mv)) f1 f2 tl X D := by
      rintro z1 f1 f2 ⟨hd, tl, X, D, rfl, hB, hend⟩
      rcases hend with rfl | ⟨g, hg, e, -⟩
      · exact ⟨hd, X, D, rfl, hB.en (by omega)⟩
      · exact absurd e.symm (q_neg g (by omega)).1
    unfold wp_X5_spread_M at w ⊢
    obtain ⟨Q1, v1, v2⟩ := w
    refine ⟨Q1, v1, fun r hr => ?_⟩
    have v3 := v2 r hr
    refine ⟨fun d0 => fin _ _ _ (v3.1 d0), fun d0 => ?_⟩
    obtain ⟨w1, J, w2, w3⟩ := v3.2 d0
    refine ⟨w1, J, w2, fun t ht => ?_⟩
    obtain ⟨Q3, w4, w5⟩ := w3 t ht
    refine ⟨Q3, w4, fun z f g hz => ?_⟩
    obtain ⟨I, u, w6, w7⟩ := w5 z f g hz
    refine ⟨I, u, w6, fun y z1 z2 f1 f2 f3 f4 hI => ?_⟩
    have w8 := w7 y z1 z2 f1 f2 f3 f4 hI
    refine ⟨fun c => fin _ _ _ (w8.1 c), fun c => ⟨fun d => fin _ _ _ ((w8.2 c).1 d), fun d => ⟨fun d2 => fin _ _ _ (((w8.2 c).2 d).1 d2), fun d2 => ?_⟩⟩⟩
    obtain ⟨Q5, w9, w10⟩ := ((w8.2 c).2 d).2 d2
    refine ⟨Q5, w9, fun r9 hr9 => ?_⟩
    obtain ⟨J2, w11, w12⟩ := w10 r9 hr9
    exact ⟨J2, ⟨fun q => w11.1 q, fun q => ⟨(w11.2 q).1, fun q2 => (w11.2 q).2.1 q2, fun q2 => fin _ _ _ ((w11.2 q).2.2 q2)⟩⟩, w12⟩
  | false =>
    have hout : F a = -2 := by
      rw [hF a ha, hoa]
      simp
    unfold wp_X5_spread_M
    refine ⟨_, sp_isStateM hp ha, ?_⟩
    rintro r rfl
    refine ⟨fun d => absurd d (by decide), fun _ => ?_⟩
    rw [q_cl (show a < 2 ^ 31 by omega)]
    refine ⟨q_in (by omega) (by decide), fun t => t = 0, ⟨fun _ => rfl, fun c => absurd hout c⟩, ?_⟩
    rintro t rfl
    refine ⟨_, sp_enterM (tl := 0) (by omega) (by omega), ?_⟩
    rintro z F1 L1 ⟨rfl, rfl, rfl⟩
    refine ⟨fun y z _ F' L' _ _ => z = nI 1 ∧ F' = upd F a 0 ∧ L' = upd L 0 (nI a), fun _ _ _ _ _ _ _ => 0, ⟨rfl, rfl, rfl⟩, ?_⟩
    rintro y z z2 F' L' f3 f4 ⟨rfl, rfl, rfl⟩
    exact ⟨fun _ => ⟨1, _, _, rfl, En.out F L (Eg_ew h _ ok mv).e1 ha hoa⟩, fun c => absurd rfl c⟩
/-! the three answers of reach -/
noncomputable def AnsR0 (sz : Nat) (e : Nat → Nat → Nat) (a : Nat) (r : Int32) : Prop := r = nI (ctB (fun x => okB (Rc e a x)) sz)
def AnsR1 (sz : Nat) (e : Nat → Nat → Nat) (a : Nat) (r : Int32) : Prop := ∃ s, r = nI s ∧ ∀ j, s.testBit j = true ↔ ∀ x, x < sz → Rc e a x → x.testBit j = true
def AnsR2 (e : Nat → Nat → Nat) (a : Nat) (r : Int32) : Prop := ∃ x d, r = nI d ∧ IsD e a x d ∧ ∀ y d', IsD e a y d' → d' ≤ d
theorem AnsR1.one {sz : Nat} {e : Nat → Nat → Nat} {a : Nat} {r r' : Int32} (h : AnsR1 sz e a r) (h' : AnsR1 sz e a r') : r = r' := by
  obtain ⟨s, rfl, h⟩ := h
  obtain ⟨s', rfl, h'⟩ := h'
  congr 1
  apply Nat.eq_of_testBit_eq
  intro j
  have := (h j).trans (h' j).symm
  cases q : s.testBit j <;> cases q2 : s'.testBit j
  · rfl
  · rw [q, q2] at this; exact this.2 rfl
  · rw [q, q2] at this; exact (this.1 rfl).symm
  · rfl
theorem AnsR2.one {e : Nat → Nat → Nat} {a : Nat} {r r' : Int32} (h : AnsR2 e a r) (h' : AnsR2 e a r') : r = r' := by
  obtain ⟨x, d, rfl, h1, h2⟩ := h
  obtain ⟨x', d', rfl, h1', h2'⟩ := h'
  rw [Nat.le_antisymm (h2' _ _ h1) (h2 _ _ h1')]
theorem En.count {sz a tl : Nat} {e : Nat → Nat → Nat} {F L : Nat → Int32} {X D : Nat → Nat} (h : En sz a e F L tl X D) : AnsR0 sz e a (nI tl) := by
  unfold AnsR0
  congr 1
  exact ct_enum _ sz tl X (fun i hi => ⟨(h.2.2.1 i hi).1, okB_iff.2 (h.2.2.1 i hi).2.2.2.2.rc⟩) h.2.2.2.1 (fun x _ hp => h.2.2.2.2.1 x (okB_iff.1 hp))
theorem sp_frozen {n a tl : Nat} {e : Nat → Nat → Nat} {F L : Nat → Int32} {X D : Nat → Nat} (hn : n ≤ 9) (h : En (2 ^ n) a e F L tl X D) : wp_X2_frozen (nI tl) L (nI n) (fun r => AnsR1 (2 ^ n) e a r) := by
  have hp := p2_9 hn
  have hal := al_lt n
  have htl := h.2.1
  unfold wp_X2_frozen
  refine ⟨_, sp_all hn, ?_⟩
  rintro r rfl
  refine ⟨fun b y => ∃ i s, i ≤ tl ∧ y = nI i ∧ b = nI s ∧ ∀ j, s.testBit j = true ↔ (j < n ∧ ∀ i', i' < i → (X i').testBit j = true), fun _ y => tl - y.toNatClampNeg, ⟨0, al n, by omega, rfl, rfl, fun j => by rw [al_bit]; simp⟩, ?_⟩
  rintro b y ⟨i, s, hi, rfl, rfl, hI⟩
  refine ⟨fun c => ?_, fun c => ?_⟩
  · have hic : i = tl := by
      have := n_ge c (by omega) (by omega)
      omega
    subst hic
    refine ⟨s, rfl, fun j => (hI j).trans ⟨fun q x hx hr => ?_, fun q => ?_⟩⟩
    · obtain ⟨i', h1, rfl⟩ := h.2.2.2.2.1 x hr
      exact q.2 i' h1
    · have hall : ∀ i', i' < i → (X i').testBit j = true := fun i' h1 => q _ (h.2.2.1 i' h1).1 (h.2.2.1 i' h1).2.2.2.2.rc
      refine ⟨?_, hall⟩
      rcases Nat.lt_or_ge j n with v | v
      · exact v
      · have h1 := hall 0 h.1
        rw [bit_big (h.2.2.1 0 h.1).1 v] at h1
        cases h1
  · have hlt := n_lt c (by omega) (by omega)
    rw [q_cl (show i < 2 ^ 31 by omega), (h.2.2.1 i hlt).2.1, q_and]
    refine ⟨q_in (by omega) (by decide), ?_⟩
    rintro x rfl x2 rfl
    refine ⟨⟨i + 1, _, by omega, q_1 i, rfl, fun j => ?_⟩, n_mu hlt (by omega)⟩
    rw [Nat.testBit_and, Bool.and_eq_true, hI]
    constructor
    · rintro ⟨⟨q1, q2⟩, q3⟩
      refine ⟨q1, fun i' hi' => ?_⟩
      rcases Nat.lt_or_ge i' i with v | v
      · exact q2 i' v
      · have e : i' = i := by omega
        subst e
        exact q3
    · rintro ⟨q1, q2⟩
      exact ⟨⟨q1, fun i' hi' => q2 i' (by omega)⟩, q2 i (by omega)⟩
theorem sp_farthest {n a tl : Nat} {e : Nat → Nat → Nat} {F L : Nat → Int32} {X D : Nat → Nat} (hn : n ≤ 9) (h : En (2 ^ n) a e F L tl X D) : wp_X2_farthest (nI tl) F L (fun r => AnsR2 e a r) := by
  have hp := p2_9 hn
  have htl := h.2.1
  have h0 := h.1
  unfold wp_X2_farthest
  refine ⟨fun c => absurd ((q_eq0 (by omega)).1 c) (by omega), fun c => ?_⟩
  obtain ⟨g1, g2, g3, g4, g5⟩ := h.2.2.1 (tl - 1) (by omega)
  have e1 : nI tl - (1 : Int32) = nI (tl - 1) := q_sub (b := 1) h0
  rw [e1, q_cl (show tl - 1 < 2 ^ 31 by omega), g2, q_cl (show X (tl - 1) < 2 ^ 31 by omega)]
  refine ⟨q_in (by omega) (by decide), q_in (by omega) (by decide), X (tl - 1), D (tl - 1), g3, g5, fun y d' hy => ?_⟩
  obtain ⟨i, hi, rfl⟩ := h.2.2.2.2.1 y hy.rc
  rw [hy.one (h.2.2.1 i hi).2.2.2.2]
  exact h.2.2.2.2.2 i (tl - 1) (by omega) (by omega)
/-! parts -/
/-- the least state of its part -/
def lead (ok : Nat → Bool) (e : Nat → Nat → Nat) (s : Nat) : Prop := ok s = true ∧ ∀ s', s' < s → ok s' = true → ¬ Rc e s' s
noncomputable def AnsP (sz : Nat) (ok : Nat → Bool) (e : Nat → Nat → Nat) (r : Int32) : Prop := r = nI (ctB (fun s => okB (lead ok e s)) sz)
/-- all parts of the first i states have been come to -/
def CpI (sz : Nat) (ok : Nat → Bool) (e : Nat → Nat → Nat) (i : Nat) (F L : Nat → Int32) (tl : Nat) : Prop :=
  FOk sz ok F ∧ (∃ X, LnS sz F L tl X) ∧ ∀ x, x < sz → (vis F x ↔ ∃ s, s < i ∧ ok s = true ∧ Rc e s x)
theorem CpI.start {sz : Nat} {ok : Nat → Bool} {e : Nat → Nat → Nat} {F : Nat → Int32} (h : Fr sz ok F) (L : Nat → Int32) : CpI sz ok e 0 F L 0 :=
  ⟨h.fok, ⟨_, h.ls L⟩, fun x hx => ⟨fun q => absurd q (h.novis hx), fun ⟨s, hs, _⟩ => absurd hs (by omega)⟩⟩
theorem CpI.cl {sz : Nat} {ok : Nat → Bool} {e : Nat → Nat → Nat} {i tl : Nat} {F L : Nat → Int32} (he : Eg sz ok e) (h : CpI sz ok e i F L tl) : ∀ y x, y < sz → F y = -1 → 0 < e y x → F x = -1 := by
  intro y x hy hF hx
  obtain ⟨-, g2, -, g4⟩ := he.2 y x hx
  rcases h.1 x g2 with ⟨-, q⟩ | ⟨q, -⟩ | ⟨q, -⟩
  · rw [g4] at q; cases q
  · exact q
  · obtain ⟨s, h1, h2, h3⟩ := (h.2.2 x g2).1 q
    exact absurd hF ((h.2.2 y hy).2 ⟨s, h1, h2, h3.snoc (by rw [he.1]; exact hx)⟩).ne.1
theorem CpI.lead {sz : Nat} {ok : Nat → Bool} {e : Nat → Nat → Nat} {i tl : Nat} {F L : Nat → Int32} (h : CpI sz ok e i F L tl) (hi : i < sz) : F i = -1 ↔ lead ok e i := by
  constructor
  · intro q
    refine ⟨h.1.new hi q, fun s' h1 h2 h3 => ?_⟩
    exact ((h.2.2 i hi).2 ⟨s', h1, h2, h3⟩).ne.1 q
  · rintro ⟨h1, h2⟩
    rcases h.1 i hi with ⟨-, q⟩ | ⟨q, -⟩ | ⟨q, -⟩
    · rw [h1] at q; cases q
    · exact q
    · obtain ⟨s, g1, g2, g3⟩ := (h.2.2 i hi).1 q
      exact absurd g3 (h2 s g1 g2)
theorem CpI.skip {sz : Nat} {ok : Nat → Bool} {e : Nat → Nat → Nat} {i tl : Nat} {F L : Nat → Int32} (h : CpI sz ok e i F L tl) (hi : i < sz) (hF : ¬ F i = -1) : CpI sz ok e (i + 1) F L tl := by
  refine ⟨h.1, h.2.1, fun x hx => (h.2.2 x hx).trans ⟨fun ⟨s, h1, h2⟩ => ⟨s, by omega, h2⟩, fun ⟨s, h1, h2, h3⟩ => ?_⟩⟩
  rcases Nat.lt_or_ge s i with v | v
  · exact ⟨s, v, h2, h3⟩
  · have es : s = i := by omega
    subst es
    rcases h.1 s hi with ⟨-, q⟩ | ⟨q, -⟩ | ⟨q, -⟩
    · rw [h2] at q; cases q
    · exact absurd q hF
    · obtain ⟨s', g1, g2, g3⟩ := (h.2.2 s hi).1 q
      exact ⟨s', g1, g2, g3.trans h3⟩
theorem CpI.step {sz : Nat} {ok : Nat → Bool} {e : Nat → Nat → Nat} {i tl tl' : Nat} {F L F' L' : Nat → Int32} {X D : Nat → Nat} (h : CpI sz ok e i F L tl) (hi : i < sz) (hF : F i = -1) (hB : BfI sz tl tl' tl' i e F L F' L' X D) : CpI sz ok e (i + 1) F' L' tl' := by
  have hok := h.1.new hi hF
  have keep : ∀ x, x < sz → (vis F' x ↔ (vis F x ∨ Rc e i x)) := by
    intro x hx
    constructor
    · intro q
      rcases hB.F x hx with ⟨j, j1, j2, rfl, -, -⟩ | q2
      · exact Or.inr ⟨_, _, (hB.2.1 j j1 j2).2.2.2⟩
      · left
        unfold vis
        rw [← q2]
        exact q
    · rintro (q | ⟨k, w, hw⟩)
      · rcases hB.F x hx with ⟨j, j1, j2, rfl, -, -⟩ | q2
        · exact (hB.2.2.2.2.2.2.2.1 j j2).2.2
        · unfold vis
          rw [q2]
          exact q
      · obtain ⟨j, -, j2, rfl, -⟩ := hB.cert w (fun i _ hi _ => hi) hw (Nat.le_refl _)
        exact (hB.2.2.2.2.2.2.2.1 j j2).2.2
  refine ⟨hB.fok h.1, ⟨X, hB.2.2.2.2.2.2.2⟩, fun x hx => (keep x hx).trans ⟨?_, ?_⟩⟩
  · rintro (q | q)
    · obtain ⟨s, h1, h2⟩ := (h.2.2 x hx).1 q
      exact ⟨s, by omega, h2⟩
    · exact ⟨i, by omega, hok, q⟩
  · rintro ⟨s, h1, h2, h3⟩
    rcases Nat.lt_or_ge s i with v | v
    · exact Or.inl ((h.2.2 x hx).2 ⟨s, v, h2, h3⟩)
    · have es : s = i := by omega
      subst es
      exact Or.inr h3
theorem sp_componentsM {n mv : Nat} {nr : Nat → Nat} {fN F L : Nat → Int32} (vFo : Int32) (fX fC : Nat → Int32) {ok : Nat → Bool} (h : NetOk n nr) (hf : isN fN nr) (hm : mv ≤ 2) (hF : Fr (2 ^ n) ok F) :
    wp_X5_components_M (nI (2 ^ n)) 0 vFo (nI mv) F L fX fC (nI n) fN (fun r _ _ _ _ _ _ => AnsP (2 ^ n) ok (e1 (ew (2 ^ n) ok nr mv)) r) := by
  have hn := h.2.1
  have hp := p2_9 hn
  have he := (Eg_ew h (2 ^ n) ok mv).e1
  unfold wp_X5_components_M
  refine ⟨fun b y z _ F' L' _ _ => ∃ i tl, i ≤ 2 ^ n ∧ y = nI i ∧ z = nI tl ∧ b = nI (ctB (fun s => okB (lead ok (e1 (ew (2 ^ n) ok nr mv)) s)) i) ∧ CpI (2 ^ n) ok (e1 (ew (2 ^ n) ok nr mv)) i F' L' tl, fun _ y _ _ _ _ _ _ => 2 ^ n - y.toNatClampNeg, ⟨0, 0, Nat.zero_le _, rfl, rfl, rfl, CpI.start hF L⟩, ?_⟩
  rintro b y z z2 F' L' f3 f4 ⟨i, tl, hi, rfl, rfl, rfl, hI⟩
  refine ⟨fun c => ?_, fun c => ?_⟩
  · have hic : i = 2 ^ n := by
      have := n_ge c (by omega) (by omega)
      omega
    unfold AnsP
    rw [← hic]
  · have hlt := n_lt c (by omega) (by omega)
    rw [q_cl (show i < 2 ^ 31 by omega)]
    refine ⟨q_in (by omega) (by decide), fun d => ?_, fun d => ?_⟩
    · obtain ⟨X, hX⟩ := hI.2.1
      refine ⟨_, sp_spreadM z2 (-1) f3 f4 h hf hm hI.1 hX hlt d (fun y x hy q1 q2 => hI.cl he y x hy q1 (e1_pos.2 q2)) (Or.inl rfl), ?_⟩
      rintro z3 z4 F2 L2 f5 f6 ⟨hd, tl2, X2, D2, rfl, hB, hend⟩ x rfl x2 rfl
      have hdt : hd = tl2 := by
        rcases hend with q | ⟨g, hg, q, -⟩
        · exact q
        · exact absurd q.symm (q_neg g (by omega)).1
      subst hdt
      refine ⟨⟨i + 1, hd, by omega, q_1 i, rfl, ?_, hI.step hlt d hB⟩, n_mu hlt (by omega)⟩
      rw [q_1, ctB_yes (okB_iff.2 ((hI.lead hlt).1 d))]
    · rintro x rfl
      refine ⟨⟨i + 1, tl, by omega, q_1 i, rfl, ?_, hI.skip hlt d⟩, n_mu hlt (by omega)⟩
      rw [ctB_no (fun q => d ((hI.lead hlt).2 (okB_iff.1 q)))]
