/-! THE REFERENCE'S CALLS walk, reach, parts -/
theorem GoPre.new {n : Nat} {e : Nat → Nat → Nat} {F D : Nat → Int32} (hn : n ≤ 9) (h : ∀ x, x < 512 → F x = nI 1000000 ∧ D x = 0) : GoPre (2 ^ n) e F D := by
  have hp := p2_9 hn
  exact ⟨fun _ => 1000000, fun x hx => ⟨(h x (by omega)).1, Nat.le_refl _⟩, fun x hx => Or.inl (h x (by omega)).2, fun _ _ _ => rfl, fun y x hy q _ => absurd (h y (by omega)).2 q⟩
theorem Wk0 {w : Nat → Nat → Nat} {t s k : Nat} (h : Wk (e1 w) t k 0 s) : s = t := by
  obtain ⟨e, -⟩ := Wk_un h
  subst e
  exact h.2
theorem sp_walk9 {n lo hi : Nat} {nr : Nat → Nat} {jJ : Nat → Int32} (jF jD : Nat → Int32) (h : NetOk n nr) (hf : isN jJ nr) (hlo : lo ≤ 9) (hhi : hi ≤ 9) (p1 p2 p3 p4 p5 : Int32) :
    wp_X9_walk (nI n) (nI lo) (nI hi) jJ jF jD p1 p2 p3 p4 p5 (fun r _ _ => AnsWalk n nr lo hi p1 p2 p3 p4 p5 r) := by
  have hn := h.2.1
  have hp := p2_9 hn
  unfold wp_X9_walk
  refine ⟨_, sp_isGood9 h hf p1 p2 p3, fun r1 hr1 => ⟨fun c => Or.inr ⟨fun q => hr1.f c q.1, rfl⟩, fun c1 => ⟨_, sp_isGood9 h hf p1 p2 p4, fun r2 hr2 => ⟨fun c => Or.inr ⟨fun q => hr2.f c q.2.1, rfl⟩, fun c2 => ⟨_, sp_in p5 0 2, fun r3 hr3 => ⟨fun c => Or.inr ⟨fun q => hr3.f c (w_02.2 q.2.2), rfl⟩, fun c3 => ?_⟩⟩⟩⟩⟩⟩
  obtain ⟨k, mv, s, hk, rfl, hm, rfl, hs, rfl, hls⟩ := hr1.t c1
  obtain ⟨k', mv', t, hk', ek, hm', em, ht, rfl, hlt⟩ := hr2.t c2
  have e := (q_eq (by omega) (by omega)).1 ek
  subst e
  have e := (q_eq (by omega) (by omega)).1 em
  subst e
  obtain ⟨wh, hwh, rfl⟩ := w_02.1 (hr3.t c3)
  have e1' : nI wh = 1 ↔ wh = 1 := q_eq (b := 1) (by omega) (by decide)
  have e2' : nI wh = 2 ↔ wh = 2 := q_eq (b := 2) (by omega) (by decide)
  rw [q_one (show n < 31 by omega), q_cl (show s < 2 ^ 31 by omega)]
  refine ⟨_, sp_forget9 jF jD, fun F0 D0 hFD => ⟨fun x => (nI wh = 2 ∧ x = 1) ∨ (¬ nI wh = 2 ∧ x = 0), ⟨fun c => Or.inl ⟨c, rfl⟩, fun c => Or.inr ⟨c, rfl⟩⟩, fun x hx => ?_⟩⟩
  obtain ⟨e, hpe⟩ : ∃ e, (x = 0 ∧ e = e1 (ewM n nr k mv lo hi)) ∨ (¬ x = 0 ∧ e = ewM n nr k mv lo hi) := by
    rcases hx with ⟨-, rfl⟩ | ⟨-, rfl⟩
    · exact ⟨_, Or.inr ⟨by decide, rfl⟩⟩
    · exact ⟨_, Or.inl ⟨rfl, rfl⟩⟩
  refine ⟨_, sp_goFrom x h hf hk hm hlo hhi ht hpe (GoPre.new hn hFD) (hFD t (by omega)).2, ?_⟩
  rintro F D ⟨f, hFl, hD01, hD0, hDr, hDd⟩
  have hz : ∀ x, x < 2 ^ n → D0 x = 0 := fun x hx => (hFD x (by omega)).2
  have rcD : ∀ x, x < 2 ^ n → (¬ D x = 0 ↔ Rc e t x) := fun x hx => (hDr x hx).trans ⟨fun q => q.elim (fun q => absurd (hz x hx) q) id, Or.inr⟩
  have far : ∀ x, x < 2 ^ n → (f x < 1000000 ↔ Rc e t x) := fun x hx => by
    rw [← rcD x hx]
    refine ⟨fun q v => ?_, fun q => (hDd x hx (hz x hx) q).1⟩
    have := hD0 x hx v
    omega
  have dis : ∀ x, x < 2 ^ n → Rc e t x → IsD e t x (f x) := fun x hx q => (hDd x hx (hz x hx) ((rcD x hx).2 q)).2
  have hfs := (hFl s hs).2
  rw [(hFl s hs).1]
  have eF : (1000000 : Int32) ≤ nI (f s) ↔ 1000000 ≤ f s := q_le (a := 1000000) (by decide) (by omega)
  have pre1 : Pre1 n nr (nI k) (nI mv) (nI s) k mv s := ⟨hk, rfl, hm, rfl, hs, rfl, hls⟩
  have pre2 : Pre1 n nr (nI k) (nI mv) (nI t) k mv t := ⟨hk, rfl, hm, rfl, ht, rfl, hlt⟩
  have ansD : (1000000 ≤ f s → AnsD e s t (-9)) ∧ (¬ 1000000 ≤ f s → AnsD e s t (nI (f s))) := by
    refine ⟨fun q => Or.inr ⟨fun v => ?_, rfl⟩, fun q => Or.inl ⟨f s, by omega, dis s hs ((far s hs).1 (by omega)), rfl⟩⟩
    have := (far s hs).2 v
    omega
  refine ⟨fun c => ?_, fun c => ?_⟩
  · -- NEXT
    rw [e1'] at c
    subst c
    have hx0 : x = 0 := by
      rcases hx with ⟨q, -⟩ | ⟨-, q⟩
      · exact absurd (e2'.1 q) (by decide)
      · exact q
    have hee : e = e1 (ewM n nr k mv lo hi) := by
      rcases hpe with ⟨-, q⟩ | ⟨q, -⟩
      · exact q
      · exact absurd hx0 q
    subst hee
    have he := (Eg_ew h (2 ^ n) (okM n nr k mv lo hi) mv).e1
    have ans : ∀ r, AnsN (2 ^ n) (ewM n nr k mv lo hi) s t r → AnsWalk n nr lo hi (nI k) (nI mv) (nI s) (nI t) (nI 1) r := fun r hr => Or.inl ⟨k, mv, s, t, 1, pre1, pre2, hwh, rfl, fun q => absurd q (by decide), fun _ => hr, fun q => absurd q (by decide)⟩
    have est : nI s = nI t ↔ s = t := q_eq (by omega) (by omega)
    -- what a hit is
    have hit : f s < 1000000 → s ≠ t → ∃ d, f s = d + 1 ∧ IsD (e1 (ewM n nr k mv lo hi)) t s (d + 1) ∧ ∀ x, x < 2 ^ n → ((F x = nI (f s) - 1 ∧ 0 < Wt nr mv s x) ↔ Nxt (2 ^ n) (ewM n nr k mv lo hi) s t d x) := by
      intro hlt hne
      have hr := (far s hs).1 hlt
      have hd := dis s hs hr
      obtain ⟨d, hfd⟩ : ∃ d, f s = d + 1 := by
        refine ⟨f s - 1, ?_⟩
        rcases Nat.eq_zero_or_pos (f s) with q | q
        · rw [q] at hd
          exact absurd (Wk0 hd.1.choose_spec) hne
        · omega
      have hoks : okM n nr k mv lo hi s = true ∧ okM n nr k mv lo hi t = true := by
        rcases he.last hr with q | ⟨-, q, -, q2⟩
        · exact absurd q hne
        · exact ⟨q, q2⟩
      refine ⟨d, hfd, by rw [← hfd]; exact hd, fun x hx => ?_⟩
      have es : nI (f s) - (1 : Int32) = nI d := by
        rw [hfd]
        exact q_sub (a := d + 1) (b := 1) (by omega)
      have hfx := (hFl x hx).2
      rw [es, (hFl x hx).1, q_eq (by omega) (by omega)]
      constructor
      · rintro ⟨q1, q2⟩
        have hrx := (far x hx).1 (by omega)
        refine ⟨hx, ew_pos.2 ⟨⟨hs, hx, hoks.1, ?_⟩, q2⟩, by rw [← q1]; exact dis x hx hrx⟩
        rcases he.last hrx with q | q
        · rw [q]
          exact hoks.2
        · exact q.2.1
      · rintro ⟨-, q2, q3⟩
        exact ⟨(dis x hx q3.rc).one q3, (ew_pos.1 q2).2⟩
    refine ⟨fun y => ∃ i, i ≤ 2 ^ n ∧ y = nI i ∧ (f s < 1000000 → s ≠ t → ∀ x, x < i → ¬ (F x = nI (f s) - 1 ∧ 0 < Wt nr mv s x)), fun y => 2 ^ n - y.toNatClampNeg, ⟨0, by omega, rfl, fun _ _ x hx => absurd hx (by omega)⟩, ?_⟩
    rintro y ⟨i, hi9, rfl, hI⟩
    refine ⟨fun c => ans _ ?_, fun c => ?_⟩
    · have hic : i = 2 ^ n := by
        have := n_ge c (by omega) (by omega)
        omega
      subst hic
      by_cases q1 : s = t
      · exact Or.inr ⟨Or.inl q1, rfl⟩
      · by_cases q2 : f s < 1000000
        · exfalso
          obtain ⟨d, h1, h2, h3⟩ := hit q2 q1
          obtain ⟨y, hy1, hy2⟩ := pred_of h2
          have hy3 : y < 2 ^ n := (ew_pos.1 hy1).1.1
          exact hI q2 q1 y hy3 ((h3 y hy3).2 ⟨hy3, by rw [show ewM n nr k mv lo hi s y = ewM n nr k mv lo hi y s from ew_sym h _ _ _ _ _]; exact hy1, hy2⟩)
        · exact Or.inr ⟨Or.inr (fun v => q2 ((far s hs).2 v)), rfl⟩
    · have hlt' := n_lt c (by omega) (by omega)
      have hv : vp_in (nI s) 512 := q_in (by omega) (by decide)
      have skip : (f s < 1000000 → s ≠ t → ¬ (F i = nI (f s) - 1 ∧ 0 < Wt nr mv s i)) → ∀ x : Int32, x = nI i + 1 → (∃ i, i ≤ 2 ^ n ∧ x = nI i ∧ (f s < 1000000 → s ≠ t → ∀ x, x < i → ¬ (F x = nI (f s) - 1 ∧ 0 < Wt nr mv s x))) ∧ 2 ^ n - x.toNatClampNeg < 2 ^ n - (nI i).toNatClampNeg := by
        rintro q x rfl
        refine ⟨⟨i + 1, by omega, q_1 i, fun q1 q2 x hx => ?_⟩, n_mu hlt' (by omega)⟩
        rcases Nat.lt_or_ge x i with v | v
        · exact hI q1 q2 x v
        · have ex : x = i := by omega
          subst ex
          exact q q1 q2
      rw [q_cl (show i < 2 ^ 31 by omega)]
      refine ⟨hv, fun d => skip (fun q => absurd (eF.1 d) (by omega)), fun d => ⟨fun d2 => skip (fun _ q => absurd (est.1 d2) q), fun d2 => ⟨q_in (by omega) (by decide), hv, fun d3 => ⟨_, sp_weightOf h hf hm hs hlt', ?_⟩, fun d3 => skip (fun _ _ q => d3 q.1)⟩⟩⟩
      rintro r rfl
      have hw3 : Wt nr mv s i ≤ 3 := Wd_le nr mv _ _
      have ew0 : nI (Wt nr mv s i) ≤ 0 ↔ Wt nr mv s i = 0 := by
        have := q_le (a := Wt nr mv s i) (b := 0) (by omega) (by decide)
        exact this.trans (by omega)
      refine ⟨fun d4 => skip (fun _ _ q => by have := ew0.1 d4; omega), fun d4 => ans _ ?_⟩
      have hfs2 : f s < 1000000 := Nat.lt_of_not_le (fun q => d (eF.2 q))
      have hne : s ≠ t := fun q => d2 (est.2 q)
      obtain ⟨d9, h1, h2, h3⟩ := hit hfs2 hne
      refine Or.inl ⟨d9, i, h2, (h3 i hlt').1 ⟨d3, Nat.pos_of_ne_zero (fun q => d4 (ew0.2 q))⟩, fun y hy => ?_, rfl⟩
      rcases Nat.lt_or_ge y i with v | v
      · exact absurd ((h3 y (by omega)).2 hy) (hI hfs2 hne y v)
      · exact v
  · -- FEWEST, LEAST WEIGHT
    rw [e1'] at c
    have ans : ∀ r, AnsD e s t r → AnsWalk n nr lo hi (nI k) (nI mv) (nI s) (nI t) (nI wh) r := fun r hr => by
      refine Or.inl ⟨k, mv, s, t, wh, pre1, pre2, hwh, rfl, fun q => ?_, fun q => absurd q c, fun q => ?_⟩
      · rcases hpe with ⟨-, e9⟩ | ⟨v, -⟩
        · rw [← e9]
          exact hr
        · rcases hx with ⟨q2, -⟩ | ⟨-, q2⟩
          · have := e2'.1 q2
            omega
          · exact absurd q2 v
      · rcases hpe with ⟨v, -⟩ | ⟨-, e9⟩
        · rcases hx with ⟨-, q2⟩ | ⟨q2, -⟩
          · rw [q2] at v
            exact absurd v (by decide)
          · exact absurd (e2'.2 q) q2
        · rw [← e9]
          exact hr
    have hv : vp_in (nI s) 512 := q_in (by omega) (by decide)
    exact ⟨hv, fun d => ans _ (ansD.1 (eF.1 d)), fun d => ⟨hv, ans _ (ansD.2 (fun q => d (eF.2 q)))⟩⟩
theorem sp_reach9 {n lo hi : Nat} {nr : Nat → Nat} {jJ : Nat → Int32} (jF jD : Nat → Int32) (h : NetOk n nr) (hf : isN jJ nr) (hlo : lo ≤ 9) (hhi : hi ≤ 9) (p1 p2 p3 p4 : Int32) :
    wp_X9_reach (nI n) (nI lo) (nI hi) jJ jF jD p1 p2 p3 p4 (fun r _ _ => AnsReach n nr lo hi p1 p2 p3 p4 r) := by
  have hn := h.2.1
  have hp := p2_9 hn
  unfold wp_X9_reach
  refine ⟨_, sp_isGood9 h hf p1 p2 p3, fun r1 hr1 => ⟨fun c => Or.inr ⟨fun q => hr1.f c q.1, rfl⟩, fun c1 => ⟨_, sp_in p4 0 2, fun r3 hr3 => ⟨fun c => Or.inr ⟨fun q => hr3.f c (w_02.2 q.2), rfl⟩, fun c3 => ?_⟩⟩⟩⟩
  obtain ⟨k, mv, s, hk, rfl, hm, rfl, hs, rfl, hls⟩ := hr1.t c1
  obtain ⟨wh, hwh, rfl⟩ := w_02.1 (hr3.t c3)
  have e0' : nI wh = 0 ↔ wh = 0 := q_eq0 (by omega)
  have e1' : nI wh = 1 ↔ wh = 1 := q_eq (b := 1) (by omega) (by decide)
  rw [q_one (show n < 31 by omega)]
  refine ⟨_, sp_forget9 jF jD, fun F0 D0 hFD => ?_⟩
  refine ⟨_, sp_goFrom 0 h hf hk hm hlo hhi hs (Or.inl ⟨rfl, rfl⟩) (GoPre.new hn hFD) (hFD s (by omega)).2, ?_⟩
  generalize hee : e1 (ewM n nr k mv lo hi) = e
  rintro F D ⟨f, hFl, hD01, hD0, hDr, hDd⟩
  have hz : ∀ x, x < 2 ^ n → D0 x = 0 := fun x hx => (hFD x (by omega)).2
  have rcD : ∀ x, x < 2 ^ n → (¬ D x = 0 ↔ Rc e s x) := fun x hx => (hDr x hx).trans ⟨fun q => q.elim (fun q => absurd (hz x hx) q) id, Or.inr⟩
  have dis : ∀ x, x < 2 ^ n → Rc e s x → f x < 1000000 ∧ IsD e s x (f x) := fun x hx q => (hDd x hx (hz x hx) ((rcD x hx).2 q))
  have he : Eg (2 ^ n) (okM n nr k mv lo hi) e := by rw [← hee]; exact (Eg_ew h _ _ _).e1
  have rlt : ∀ x, Rc e s x → x < 2 ^ n := fun x q => by
    rcases he.last q with v | v
    · rw [v]; exact hs
    · exact v.1
  refine ⟨fun y1 y2 y3 y => ∃ i z d, i ≤ 2 ^ n ∧ y = nI i ∧ y1 = nI (ctB (fun x => okB (Rc e s x)) i) ∧ y2 = nI z ∧ (∀ j, z.testBit j = true ↔ (s.testBit j = true ∧ ∀ x, x < i → Rc e s x → x.testBit j = true)) ∧ y3 = nI d ∧ d < 1000000 ∧ (∀ x, x < i → Rc e s x → f x ≤ d) ∧ (d = 0 ∨ ∃ x, x < i ∧ Rc e s x ∧ f x = d), fun _ _ _ y => 2 ^ n - y.toNatClampNeg, ⟨0, s, 0, by omega, rfl, rfl, rfl, fun j => ⟨fun q => ⟨q, fun x hx => absurd hx (by omega)⟩, fun q => q.1⟩, rfl, by omega, fun x hx => absurd hx (by omega), Or.inl rfl⟩, ?_⟩
  rintro y1 y2 y3 y ⟨i, z, d, hi9, rfl, rfl, rfl, hz9, rfl, hd9, hmx, hat⟩
  refine ⟨fun c => ?_, fun c => ?_⟩
  · have hic : i = 2 ^ n := by
      have := n_ge c (by omega) (by omega)
      omega
    subst hic
    have pre1 : Pre1 n nr (nI k) (nI mv) (nI s) k mv s := ⟨hk, rfl, hm, rfl, hs, rfl, hls⟩
    refine ⟨fun c0 => ?_, fun c0 => ⟨fun c1 => ?_, fun c1 => ?_⟩⟩
    · rw [e0'] at c0
      exact Or.inl ⟨k, mv, s, wh, pre1, hwh, rfl, fun _ => by rw [hee]; rfl, fun _ => by omega, fun _ => by omega⟩
    · rw [e1'] at c1
      refine Or.inl ⟨k, mv, s, wh, pre1, hwh, rfl, fun _ => by omega, fun _ => ?_, fun _ => by omega⟩
      rw [hee]
      exact ⟨z, rfl, fun j => (hz9 j).trans ⟨fun q => q.2, fun q => ⟨q s hs (Rc.refl e s), q⟩⟩⟩
    · rw [e0'] at c0
      rw [e1'] at c1
      refine Or.inl ⟨k, mv, s, wh, pre1, hwh, rfl, fun _ => by omega, fun _ => by omega, fun _ => ?_⟩
      rw [hee]
      have up : ∀ y d', IsD e s y d' → d' ≤ d := fun y d' q => by
        have hy := rlt y q.rc
        rw [q.one (dis y hy q.rc).2]
        exact hmx y hy q.rc
      rcases hat with rfl | ⟨x, hx, q1, q2⟩
      · exact ⟨s, 0, rfl, ⟨⟨0, rfl, rfl⟩, fun _ _ _ => Nat.zero_le _⟩, up⟩
      · exact ⟨x, d, rfl, by rw [← q2]; exact (dis x hx q1).2, up⟩
  · have hlt := n_lt c (by omega) (by omega)
    rw [q_cl (show i < 2 ^ 31 by omega)]
    have hv : vp_in (nI i) 512 := q_in (by omega) (by decide)
    refine ⟨hv, fun d1 => ?_, fun d1 => ?_⟩
    · have hno : ¬ Rc e s i := fun q => (rcD i hlt).2 q d1
      rintro x rfl
      refine ⟨⟨i + 1, z, d, by omega, q_1 i, by rw [ctB_no (fun q => hno (okB_iff.1 q))], rfl, fun j => (hz9 j).trans ⟨fun q => ⟨q.1, fun x hx hr => ?_⟩, fun q => ⟨q.1, fun x hx hr => q.2 x (by omega) hr⟩⟩, rfl, hd9, fun x hx hr => ?_, hat.imp id (fun ⟨x, h1, h2⟩ => ⟨x, by omega, h2⟩)⟩, n_mu hlt (by omega)⟩
      · rcases Nat.lt_or_ge x i with v | v
        · exact q.2 x v hr
        · have ex : x = i := by omega
          subst ex
          exact absurd hr hno
      · rcases Nat.lt_or_ge x i with v | v
        · exact hmx x v hr
        · have ex : x = i := by omega
          subst ex
          exact absurd hr hno
    · have hyes : Rc e s i := (rcD i hlt).1 d1
      obtain ⟨fi1, fi2⟩ := dis i hlt hyes
      rw [(hFl i hlt).1]
      rintro x1 rfl x2 rfl
      have eL : nI (f i) ≤ nI d ↔ f i ≤ d := q_le (by omega) (by omega)
      have zz : ∀ j, (z &&& i).testBit j = true ↔ (s.testBit j = true ∧ ∀ x, x < i + 1 → Rc e s x → x.testBit j = true) := fun j => by
        rw [Nat.testBit_and, Bool.and_eq_true, hz9]
        constructor
        · rintro ⟨⟨q1, q2⟩, q3⟩
          refine ⟨q1, fun x hx hr => ?_⟩
          rcases Nat.lt_or_ge x i with v | v
          · exact q2 x v hr
          · have ex : x = i := by omega
            subst ex
            exact q3
        · rintro ⟨q1, q2⟩
          exact ⟨⟨q1, fun x hx hr => q2 x (by omega) hr⟩, q2 i (by omega) hyes⟩
      refine ⟨hv, fun d2 => ?_, fun d2 => ⟨hv, ?_⟩⟩
      · rintro x rfl
        refine ⟨⟨i + 1, z &&& i, d, by omega, q_1 i, by rw [q_1, ctB_yes (okB_iff.2 hyes)], q_and z i, zz, rfl, hd9, fun x hx hr => ?_, hat.imp id (fun ⟨x, h1, h2⟩ => ⟨x, by omega, h2⟩)⟩, n_mu hlt (by omega)⟩
        rcases Nat.lt_or_ge x i with v | v
        · exact hmx x v hr
        · have ex : x = i := by omega
          subst ex
          exact eL.1 d2
      · rintro x3 rfl x rfl
        have d2' : ¬ f i ≤ d := fun q => d2 (eL.2 q)
        refine ⟨⟨i + 1, z &&& i, f i, by omega, q_1 i, by rw [q_1, ctB_yes (okB_iff.2 hyes)], q_and z i, zz, rfl, fi1, fun x hx hr => ?_, Or.inr ⟨i, by omega, hyes, rfl⟩⟩, n_mu hlt (by omega)⟩
        rcases Nat.lt_or_ge x i with v | v
        · have := hmx x v hr
          omega
        · have ex : x = i := by omega
          subst ex
          exact Nat.le_refl _
/-! swaps leave the size -/
theorem pcn_split (y x : Nat) : ∀ k, pcn y k = pcn (y &&& x) k + pcn (dif y x) k
  | 0 => rfl
  | k + 1 => by
    show pcn y k + (y.testBit k).toNat = pcn (y &&& x) k + ((y &&& x).testBit k).toNat + (pcn (dif y x) k + ((dif y x).testBit k).toNat)
    rw [pcn_split y x k, Nat.testBit_and, dif_bit]
    cases y.testBit k <;> cases x.testBit k <;> simp <;> omega
theorem Wt_pc {nr : Nat → Nat} {mv y x : Nat} (hm : mv ≠ 2) (h : 0 < Wt nr mv y x) : pc y = pc x := by
  unfold Wt Wd at h
  by_cases c : pc (dif y x) = 1 ∧ pc (dif x y) = 1
  · have h1 : pc y = pc (y &&& x) + pc (dif y x) := pcn_split y x 9
    have h2 : pc x = pc (x &&& y) + pc (dif x y) := pcn_split x y 9
    rw [Nat.and_comm x y] at h2
    omega
  · rw [if_neg c, if_neg (fun q => hm q.1)] at h
    omega
/-- the reference asks for the size only where a part begins -/
def leadF (ok : Nat → Bool) (g : Nat → Prop) (e : Nat → Nat → Nat) (s : Nat) : Prop := ok s = true ∧ g s ∧ ∀ s', s' < s → ok s' = true → g s' → ¬ Rc e s' s
theorem sp_parts9F {n lo hi k mv : Nat} {nr : Nat → Nat} {jJ F0 D0 : Nat → Int32} (h : NetOk n nr) (hf : isN jJ nr) (hlo : lo ≤ 9) (hhi : hi ≤ 9) (hk : k ≤ 2) (hm : mv ≤ 2) (p3 : Int32) (g : Nat → Prop) (hg2 : mv = 2 → ∀ s, g s) (hg : mv ≠ 2 → ∀ s, (nI (pc s) = p3 ↔ g s))
    (hFD : ∀ x, x < 512 → F0 x = nI 1000000 ∧ D0 x = 0) (Q : Int32 → (Nat → Int32) → (Nat → Int32) → Prop) (hQ : ∀ F D, Q (nI (ctB (fun s => okB (leadF (okM n nr k mv lo hi) g (e1 (ewM n nr k mv lo hi)) s)) (2 ^ n))) F D) :
    ∃ (I43_18 : Int32 → Int32 → (Nat → Int32) → (Nat → Int32) → Prop) (u43_18 : Int32 → Int32 → (Nat → Int32) → (Nat → Int32) → Nat), I43_18 0 0 F0 D0 ∧ ∀ (y15 : Int32) (y16 : Int32) (f17 : Nat → Int32) (f18 : Nat → Int32), I43_18 y15 y16 f17 f18 → ((nI (2 ^ n) ≤ y16 → Q y15 f17 f18) ∧ (¬ nI (2 ^ n) ≤ y16 → vp_in y16 512 ∧ (((f18 (y16 : Int32).toNatClampNeg) = 0 → ∃ Q22 : Int32 → Prop, wp_X9_canBe (nI n) (nI lo) (nI hi) jJ (nI k) (nI mv) y16 Q22 ∧ ∀ r23 : Int32, Q22 r23 → ((r23 = 0 → ∀ x25 : Int32, x25 = y16 + 1 → I43_18 y15 x25 f17 f18 ∧ u43_18 y15 x25 f17 f18 < u43_18 y15 y16 f17 f18) ∧ (¬ r23 = 0 → ((nI mv = 2 → ∃ Q27 : (Nat → Int32) → (Nat → Int32) → Prop, wp_X9_goFrom (nI n) (nI lo) (nI hi) jJ f17 f18 (nI k) (nI mv) y16 0 Q27 ∧ ∀ (f29 : Nat → Int32) (f30 : Nat → Int32), Q27 f29 f30 → ∀ x31 : Int32, x31 = y15 + 1 → ∀ x32 : Int32, x32 = y16 + 1 → I43_18 x31 x32 f29 f30 ∧ u43_18 x31 x32 f29 f30 < u43_18 y15 y16 f17 f18) ∧ (¬ nI mv = 2 → ∃ Q33 : Int32 → Prop, wp_X9_size y16 Q33 ∧ ∀ r34 : Int32, Q33 r34 → ((r34 = p3 → ∃ Q37 : (Nat → Int32) → (Nat → Int32) → Prop, wp_X9_goFrom (nI n) (nI lo) (nI hi) jJ f17 f18 (nI k) (nI mv) y16 0 Q37 ∧ ∀ (f39 : Nat → Int32) (f40 : Nat → Int32), Q37 f39 f40 → ∀ x41 : Int32, x41 = y15 + 1 → ∀ x42 : Int32, x42 = y16 + 1 → I43_18 x41 x42 f39 f40 ∧ u43_18 x41 x42 f39 f40 < u43_18 y15 y16 f17 f18) ∧ (¬ r34 = p3 → ∀ x36 : Int32, x36 = y16 + 1 → I43_18 y15 x36 f17 f18 ∧ u43_18 y15 x36 f17 f18 < u43_18 y15 y16 f17 f18))))))) ∧ (¬ (f18 (y16 : Int32).toNatClampNeg) = 0 → ∀ x21 : Int32, x21 = y16 + 1 → I43_18 y15 x21 f17 f18 ∧ u43_18 y15 x21 f17 f18 < u43_18 y15 y16 f17 f18)))) := by
  have hn := h.2.1
  have hp := p2_9 hn
  have hpos := Nat.two_pow_pos n
  have em2 : nI mv = 2 ↔ mv = 2 := q_eq (b := 2) (by omega) (by decide)
  generalize hok : okM n nr k mv lo hi = ok at *
  generalize hee : e1 (ewM n nr k mv lo hi) = e at *
  have he : Eg (2 ^ n) ok e := by rw [← hee, ← hok]; exact (Eg_ew h _ _ _).e1
  refine ⟨fun b y F D => ∃ i, i ≤ 2 ^ n ∧ y = nI i ∧ b = nI (ctB (fun s => okB (leadF ok g e s)) i) ∧ GoPre (2 ^ n) e F D ∧ ∀ x, x < 2 ^ n → (¬ D x = 0 ↔ ∃ s, s < i ∧ ok s = true ∧ g s ∧ Rc e s x), fun _ y _ _ => 2 ^ n - y.toNatClampNeg, ⟨0, by omega, rfl, rfl, GoPre.new hn hFD, fun x hx => ⟨fun q => absurd (hFD x (by omega)).2 q, fun ⟨s, hs, _⟩ => absurd hs (by omega)⟩⟩, ?_⟩
  rintro b y F D ⟨i, hi9, rfl, rfl, hP, hV⟩
  refine ⟨fun c => ?_, fun c => ?_⟩
  · have hic : i = 2 ^ n := by
      have := n_ge c (by omega) (by omega)
      omega
    rw [hic]
    exact hQ F D
  · have hlt := n_lt c (by omega) (by omega)
    have hv : vp_in (nI i) 512 := q_in (by omega) (by decide)
    rw [q_cl (show i < 2 ^ 31 by omega)]
    -- nothing begins here
    have skip : (¬ leadF ok g e i) → (ok i = true → g i → ¬ D i = 0) → ∀ x : Int32, x = nI i + 1 → (∃ i', i' ≤ 2 ^ n ∧ x = nI i' ∧ nI (ctB (fun s => okB (leadF ok g e s)) i) = nI (ctB (fun s => okB (leadF ok g e s)) i') ∧ GoPre (2 ^ n) e F D ∧ ∀ x, x < 2 ^ n → (¬ D x = 0 ↔ ∃ s, s < i' ∧ ok s = true ∧ g s ∧ Rc e s x)) ∧ 2 ^ n - x.toNatClampNeg < 2 ^ n - (nI i).toNatClampNeg := by
      rintro q q2 x rfl
      refine ⟨⟨i + 1, by omega, q_1 i, by rw [ctB_no (fun v => q (okB_iff.1 v))], hP, fun x hx => (hV x hx).trans ⟨fun ⟨s, h1, h2⟩ => ⟨s, by omega, h2⟩, fun ⟨s, h1, h2, h3, h4⟩ => ?_⟩⟩, n_mu hlt (by omega)⟩
      rcases Nat.lt_or_ge s i with v | v
      · exact ⟨s, v, h2, h3, h4⟩
      · have es : s = i := by omega
        subst es
        obtain ⟨s', g1, g2, g3, g4⟩ := (hV s hlt).1 (q2 h2 h3)
        exact ⟨s', g1, g2, g3, g4.trans h4⟩
    -- a part begins here
    have go : D i = 0 → ok i = true → g i → ∃ Q27 : (Nat → Int32) → (Nat → Int32) → Prop, wp_X9_goFrom (nI n) (nI lo) (nI hi) jJ F D (nI k) (nI mv) (nI i) 0 Q27 ∧ ∀ (F2 : Nat → Int32) (D2 : Nat → Int32), Q27 F2 D2 → ∀ x31 : Int32, x31 = nI (ctB (fun s => okB (leadF ok g e s)) i) + 1 → ∀ x : Int32, x = nI i + 1 → (∃ i', i' ≤ 2 ^ n ∧ x = nI i' ∧ x31 = nI (ctB (fun s => okB (leadF ok g e s)) i') ∧ GoPre (2 ^ n) e F2 D2 ∧ ∀ x, x < 2 ^ n → (¬ D2 x = 0 ↔ ∃ s, s < i' ∧ ok s = true ∧ g s ∧ Rc e s x)) ∧ 2 ^ n - x.toNatClampNeg < 2 ^ n - (nI i).toNatClampNeg := by
      intro d1 d2 d3
      refine ⟨_, sp_goFrom (e := e) 0 h hf hk hm hlo hhi hlt (Or.inl ⟨rfl, hee.symm⟩) hP d1, ?_⟩
      rintro F2 D2 ⟨f, hFl, hD01, hD0, hDr, hDd⟩ x1 rfl x rfl
      have hled : leadF ok g e i := ⟨d2, d3, fun s' h1 h2 h3 h4 => (hV i hlt).2 ⟨s', h1, h2, h3, h4⟩ d1⟩
      obtain ⟨f9, -, -, -, hcl⟩ := hP
      refine ⟨⟨i + 1, by omega, q_1 i, by rw [q_1, ctB_yes (okB_iff.2 hled)], ⟨f, hFl, hD01, hD0, fun y x hy q hx => ?_⟩, fun x hx => (hDr x hx).trans ⟨?_, ?_⟩⟩, n_mu hlt (by omega)⟩
      · obtain ⟨-, j2, -, -⟩ := he.2 y x hx
        rw [hDr x j2]
        rcases (hDr y hy).1 q with v | v
        · exact Or.inl (hcl y x hy v hx)
        · exact Or.inr (v.snoc hx)
      · rintro (q | q)
        · obtain ⟨s, h1, h2⟩ := (hV x hx).1 q
          exact ⟨s, by omega, h2⟩
        · exact ⟨i, by omega, d2, d3, q⟩
      · rintro ⟨s, h1, h2, h3, h4⟩
        rcases Nat.lt_or_ge s i with v | v
        · exact Or.inl ((hV x hx).2 ⟨s, v, h2, h3, h4⟩)
        · have es : s = i := by omega
          subst es
          exact Or.inr h4
    have hcan := sp_canBe (lo := lo) (hi := hi) h hf hk hm hlo hhi hlt
    rw [hok] at hcan
    refine ⟨hv, fun d1 => ⟨_, hcan, fun r hr => ⟨fun d2 => skip (fun q => hr.f d2 q.1) (fun q => absurd q (hr.f d2)), fun d2 => ⟨fun d3 => go d1 (hr.t d2) (hg2 (em2.1 d3) i), fun d3 => ⟨_, sp_size (by omega), ?_⟩⟩⟩⟩, fun d1 => skip (fun q => ?_) (fun _ _ => d1)⟩
    · rintro r rfl
      have := hg (fun q => d3 (em2.2 q)) i
      exact ⟨fun d4 => go d1 (hr.t d2) (this.1 d4), fun d4 => skip (fun q => d4 (this.2 q.2.1)) (fun _ q => absurd (this.2 q) d4)⟩
    · obtain ⟨s', g1, g2, g3, g4⟩ := (hV i hlt).1 d1
      exact q.2.2 s' g1 g2 g3 g4
theorem okM_size {n : Nat} {nr : Nat → Nat} {k mv lo hi c s : Nat} (hm : mv ≠ 2) : okS n nr k c c s = true ↔ (okM n nr k mv lo hi s = true ∧ pc s = c) := by
  unfold okM okS
  rw [okB_iff, okB_iff, if_neg hm, if_neg hm]
  have := pc_le s
  constructor
  · rintro ⟨h1, h2, h3⟩
    exact ⟨⟨by omega, by omega, h3⟩, by omega⟩
  · rintro ⟨⟨h1, h2, h3⟩, h4⟩
    exact ⟨by omega, by omega, h3⟩
theorem lead_size {n : Nat} {nr : Nat → Nat} {k mv lo hi c s : Nat} (hm : mv ≠ 2) : leadF (okM n nr k mv lo hi) (fun s => pc s = c) (e1 (ewM n nr k mv lo hi)) s ↔ lead (okS n nr k c c) (e1 (ew (2 ^ n) (okS n nr k c c) nr mv)) s := by
  have step : ∀ y x, pc y = c → (0 < ewM n nr k mv lo hi y x ↔ 0 < ew (2 ^ n) (okS n nr k c c) nr mv y x) := by
    intro y x hy
    unfold ewM
    rw [ew_pos, ew_pos, okM_size (lo := lo) (hi := hi) hm, okM_size (lo := lo) (hi := hi) hm]
    constructor
    · rintro ⟨⟨h1, h2, h3, h4⟩, h5⟩
      exact ⟨⟨h1, h2, ⟨h3, hy⟩, h4, (Wt_pc hm h5).symm.trans hy⟩, h5⟩
    · rintro ⟨⟨h1, h2, h3, h4⟩, h5⟩
      exact ⟨⟨h1, h2, h3.1, h4.1⟩, h5⟩
  have w1 : ∀ a, pc a = c → ∀ k' w x, Wk (e1 (ewM n nr k mv lo hi)) a k' w x → pc x = c ∧ Rc (e1 (ew (2 ^ n) (okS n nr k c c) nr mv)) a x := by
    intro a ha k'
    induction k' with
    | zero =>
      rintro w x ⟨-, rfl⟩
      exact ⟨ha, Rc.refl _ _⟩
    | succ k' ih =>
      rintro w x ⟨y, w', h1, -, h2⟩
      obtain ⟨h3, h4⟩ := ih w' y h2
      have h5 := e1_pos.1 h1
      exact ⟨(Wt_pc hm (ew_pos.1 h5).2).symm.trans h3, h4.snoc (e1_pos.2 ((step y x h3).1 h5))⟩
  have w2 : ∀ a k' w x, Wk (e1 (ew (2 ^ n) (okS n nr k c c) nr mv)) a k' w x → Rc (e1 (ewM n nr k mv lo hi)) a x := by
    intro a k'
    induction k' with
    | zero =>
      rintro w x ⟨-, rfl⟩
      exact Rc.refl _ _
    | succ k' ih =>
      rintro w x ⟨y, w', h1, -, h2⟩
      have h5 := e1_pos.1 h1
      have h6 := (okM_size (lo := lo) (hi := hi) hm).1 (ew_pos.1 h5).1.2.2.1
      exact (ih w' y h2).snoc (e1_pos.2 ((step y x h6.2).2 h5))
  unfold leadF lead
  constructor
  · rintro ⟨h1, h2, h3⟩
    refine ⟨(okM_size hm).2 ⟨h1, h2⟩, fun s' g1 g2 ⟨k', w, g3⟩ => ?_⟩
    have g4 := (okM_size (lo := lo) (hi := hi) hm).1 g2
    exact h3 s' g1 g4.1 g4.2 (w2 _ _ _ _ g3)
  · rintro ⟨h1, h2⟩
    have h3 := (okM_size (lo := lo) (hi := hi) hm).1 h1
    refine ⟨h3.1, h3.2, fun s' g1 g2 g3 ⟨k', w, g4⟩ => h2 s' g1 ((okM_size hm).2 ⟨g2, g3⟩) (w1 s' g3 _ _ _ g4).2⟩
theorem sp_parts9 {n lo hi : Nat} {nr : Nat → Nat} {jJ : Nat → Int32} (jF jD : Nat → Int32) (h : NetOk n nr) (hf : isN jJ nr) (hlo : lo ≤ 9) (hhi : hi ≤ 9) (p1 p2 p3 : Int32) :
    wp_X9_parts (nI n) (nI lo) (nI hi) jJ jF jD p1 p2 p3 (fun r _ _ => AnsParts n nr lo hi p1 p2 p3 r) := by
  have hn := h.2.1
  have hp := p2_9 hn
  unfold wp_X9_parts
  refine ⟨_, sp_isKind9 p1, fun r1 hr1 => ⟨fun c => Or.inr ⟨fun q => hr1.f c q.1, rfl⟩, fun c1 => ⟨_, sp_isKind9 p2, fun r2 hr2 => ⟨fun c => Or.inr ⟨fun q => hr2.f c q.2, rfl⟩, fun c2 => ?_⟩⟩⟩⟩
  obtain ⟨k, hk, rfl⟩ := hr1.t c1
  obtain ⟨mv, hm, rfl⟩ := hr2.t c2
  have em2 : 2 ≤ nI mv ↔ mv = 2 := (q_le (a := 2) (by decide) (by omega)).trans (by omega)
  rw [q_one (show n < 31 by omega)]
  refine ⟨mv = 2 ∨ (mv ≠ 2 ∧ ∃ c, c ≤ n ∧ p3 = nI c), ⟨fun c => Or.inl (em2.1 c), fun c => ⟨_, sp_in p3 0 (nI n), fun r3 hr3 => ⟨fun c3 => ?_, fun c3 => Or.inr ⟨fun q => c (em2.2 q), (w_0n (by omega)).1 (hr3.t c3)⟩⟩⟩⟩, ?_⟩
  · exact Or.inl ⟨k, mv, hk, rfl, hm, rfl, fun q => absurd (em2.2 q) c, fun _ => Or.inr ⟨fun q => hr3.f c3 ((w_0n (by omega)).2 q), rfl⟩⟩
  · rintro (rfl | ⟨hm2, c, hc, rfl⟩)
    · refine ⟨_, sp_forget9 jF jD, fun F0 D0 hFD => ?_⟩
      refine sp_parts9F h hf hlo hhi hk hm p3 (fun _ => True) (fun _ _ => trivial) (fun q => absurd rfl q) hFD _ (fun F D => ?_)
      refine Or.inl ⟨k, 2, hk, rfl, hm, rfl, fun _ => ?_, fun q => absurd rfl q⟩
      unfold AnsP
      congr 1
      apply ctB_eq
      intro s hs
      congr 1
      unfold leadF lead ewM okM
      simp
    · refine ⟨_, sp_forget9 jF jD, fun F0 D0 hFD => ?_⟩
      refine sp_parts9F h hf hlo hhi hk hm (nI c) (fun s => pc s = c) (fun q => absurd q hm2) (fun _ s => q_eq (by have := pc_le s; omega) (by omega)) hFD _ (fun F D => ?_)
      refine Or.inl ⟨k, mv, hk, rfl, hm, rfl, fun q => absurd q hm2, fun _ => Or.inl ⟨c, hc, rfl, ?_⟩⟩
      unfold AnsP
      congr 1
      apply ctB_eq
      intro s hs
      congr 1
      exact propext (lead_size hm2)
