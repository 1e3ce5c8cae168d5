/-! THE REFERENCE'S COLOURINGS, and the calls proper, shades, heaps -/
theorem sp_bleach (jS : Nat → Int32) : wp_X9_bleach jS (fun S => ∀ x, x < 4096 → S x = -9) := by
  unfold wp_X9_bleach
  refine ⟨fun y S => ∃ i, i ≤ 4096 ∧ y = nI i ∧ ∀ x, x < i → S x = -9, fun y _ => 4096 - y.toNatClampNeg, ⟨0, by omega, rfl, fun x hx => absurd hx (by omega)⟩, ?_⟩
  rintro y S ⟨i, hi, rfl, hI⟩
  refine ⟨fun c => ?_, fun c => ?_⟩
  · have := n_ge (n := 4096) c (by decide) (by omega)
    have e : i = 4096 := by omega
    subst e
    exact hI
  · have hlt := n_lt (n := 4096) c (by decide) (by omega)
    rw [q_cl (show i < 2 ^ 31 by omega)]
    refine ⟨q_in hlt (by decide), ?_⟩
    rintro S' rfl x rfl
    refine ⟨⟨i + 1, by omega, q_1 i, fun x hx => ?_⟩, n_mu hlt (by decide)⟩
    by_cases c2 : x = i
    · subst c2
      exact upd_s
    · rw [upd_n c2]
      exact hI x (by omega)
/-- the row shade as a row far -/
def mp (ok : Nat → Bool) (S : Nat → Int32) : Nat → Int32 := fun x => if S x = -9 then (if ok x = true then -1 else -2) else S x
def Sh (sz : Nat) (ok : Nat → Bool) (S : Nat → Int32) : Prop := ∀ x, x < sz → S x = -9 ∨ (vis S x ∧ ok x = true)
theorem mp_upd {ok : Nat → Bool} {S : Nat → Int32} {x d : Nat} (hd : d < 2 ^ 30) : mp ok (upd S x (nI d)) = upd (mp ok S) x (nI d) := by
  funext y
  unfold mp
  by_cases c : y = x
  · subst c
    rw [upd_s, upd_s, if_neg (q_neg d (by omega)).2.2]
  · rw [upd_n c, upd_n c]
theorem mp_lab {ok : Nat → Bool} {S : Nat → Int32} {x d : Nat} (hd : d < 2 ^ 30) (h : mp ok S x = nI d) : S x = nI d := by
  unfold mp at h
  by_cases c : S x = -9
  · rw [if_pos c] at h
    by_cases c2 : ok x = true
    · rw [if_pos c2] at h
      exact absurd h.symm (q_neg d (by omega)).1
    · rw [if_neg c2] at h
      exact absurd h.symm (q_neg d (by omega)).2.1
  · rw [if_neg c] at h
    exact h
theorem vis.n9 {S : Nat → Int32} {x : Nat} (h : vis S x) : ¬ S x = -9 := by
  obtain ⟨d, hd, e⟩ := h
  rw [e]
  exact (q_neg d (by omega)).2.2
theorem mp_vis {ok : Nat → Bool} {S : Nat → Int32} {x : Nat} : vis (mp ok S) x ↔ vis S x := by
  constructor
  · rintro ⟨d, hd, e⟩
    exact ⟨d, hd, mp_lab hd e⟩
  · intro h
    have := h.n9
    obtain ⟨d, hd, e⟩ := h
    refine ⟨d, hd, ?_⟩
    unfold mp
    rw [if_neg this]
    exact e
theorem mp_new {ok : Nat → Bool} {S : Nat → Int32} {x : Nat} (h : S x = -9) (ho : ok x = true) : mp ok S x = -1 := by
  unfold mp
  rw [if_pos h, if_pos ho]
theorem Sh.new {sz : Nat} {ok : Nat → Bool} {S : Nat → Int32} (h : Sh sz ok S) {x : Nat} (hx : x < sz) (hm : mp ok S x = -1) : S x = -9 ∧ ok x = true := by
  rcases h x hx with q | ⟨q, -⟩
  · refine ⟨q, ?_⟩
    unfold mp at hm
    rw [if_pos q] at hm
    by_cases c : ok x = true
    · exact c
    · rw [if_neg c] at hm
      exact absurd hm (by decide)
  · exact absurd hm (mp_vis.2 q).ne.1
theorem Sh.fok {sz : Nat} {ok : Nat → Bool} {S : Nat → Int32} (h : Sh sz ok S) : FOk sz ok (mp ok S) := by
  intro x hx
  rcases h x hx with q | ⟨q, q2⟩
  · unfold vis mp
    rw [if_pos q]
    cases c : ok x with
    | true => exact Or.inr (Or.inl ⟨rfl, rfl⟩)
    | false => exact Or.inl ⟨rfl, rfl⟩
  · exact Or.inr (Or.inr ⟨mp_vis.2 q, q2⟩)
theorem Sh.upd {sz : Nat} {ok : Nat → Bool} {S : Nat → Int32} (h : Sh sz ok S) {x d : Nat} (hd : d < 2 ^ 30) (ho : ok x = true) : Sh sz ok (upd S x (nI d)) := by
  intro y hy
  by_cases c : y = x
  · subst c
    exact Or.inr ⟨⟨d, hd, upd_s⟩, ho⟩
  · unfold vis
    rw [upd_n c]
    exact h y hy
theorem Sh.neg {sz : Nat} {ok : Nat → Bool} {S : Nat → Int32} (h : Sh sz ok S) {x : Nat} (hx : x < sz) : (0 ≤ S x → vis S x ∧ ok x = true) ∧ (¬ 0 ≤ S x → S x = -9) := by
  rcases h x hx with q | q
  · exact ⟨fun v => by rw [q] at v; exact absurd v (by decide), fun _ => q⟩
  · refine ⟨fun _ => q, fun v => ?_⟩
    obtain ⟨⟨d, hd, e⟩, -⟩ := q
    rw [e] at v
    exact absurd ((q_le (a := 0) (by decide) (by omega)).2 (Nat.zero_le _)) v
theorem sp_spread9 {n c a : Nat} {nr : Nat → Nat} {jJ S0 P0 : Nat → Int32} (h : NetOk n nr) (hf : isN jJ nr) (hn : n ≤ 6) (hc : c ≤ 4) (hS : Sh (4 ^ n) (okC n nr c) S0) (ha : a < 4 ^ n) (hna : S0 a = -9) (hoa : okC n nr c a = true)
    (hcl : ∀ y x, y < 4 ^ n → mp (okC n nr c) S0 y = -1 → 0 < eC n (okC n nr c) y x → mp (okC n nr c) S0 x = -1) :
    wp_X9_spread (nI n) (nI c) jJ S0 P0 (nI a) (fun r S P => ∃ tl X D, r = nI tl ∧ Sh (4 ^ n) (okC n nr c) S ∧ BfI (4 ^ n) 0 tl tl a (eC n (okC n nr c)) (mp (okC n nr c) S0) P0 (mp (okC n nr c) S) P X D) := by
  have hp := p4_6 hn
  generalize hok : okC n nr c = ok at *
  unfold wp_X9_spread
  rw [q_cl (show a < 2 ^ 31 by omega)]
  refine ⟨q_in (by omega) (by decide), ?_⟩
  rintro S1 rfl
  refine ⟨q_in (n := 0) (by omega) (by decide), ?_⟩
  rintro P1 rfl
  refine ⟨fun y1 y S P => ∃ hd tl X D, y1 = nI tl ∧ y = nI hd ∧ Sh (4 ^ n) ok S ∧ BfI (4 ^ n) 0 hd tl a (eC n ok) (mp ok S0) P0 (mp ok S) P X D, fun _ y _ _ => 4096 - y.toNatClampNeg, ?_, ?_⟩
  · refine ⟨0, 1, (fun i => if i = 0 then a else 0), (fun _ => 0), rfl, rfl, hS.upd (d := 0) (by decide) hoa, ?_⟩
    have e : mp ok (upd S0 a (nI 0)) = upd (mp ok S0) a (nI 0) := mp_upd (by decide)
    have := BfI.start (sz := 4 ^ n) (a := a) (o := 0) (e := eC n ok) (F0 := mp ok S0) (L0 := P0) (X := fun _ => 0) ⟨fun i hi => absurd hi (by omega), fun i j _ hj => absurd hj (by omega), trivial⟩ ha (mp_new hna hoa)
    rw [← e] at this
    exact this
  rintro y1 y S P ⟨hd, tl, X, D, rfl, rfl, hSh, hB⟩
  have htl := hB.tl_le
  have hhd := hB.1.2.1
  refine ⟨fun c1 => ⟨tl, X, D, rfl, hSh, ?_⟩, fun c1 => ?_⟩
  · have := n_ge c1 (by omega) (by omega)
    have e : hd = tl := by omega
    rw [e] at hB
    exact hB
  have hlt := n_lt c1 (by omega) (by omega)
  obtain ⟨hX1, hX2, hX3⟩ := hB.2.2.2.2.2.2.2.1 hd hlt
  obtain ⟨g1, g2, g3, g4⟩ := hB.2.1 hd hB.1.1 hlt
  refine ⟨q_in (by omega) (by decide), ?_⟩
  rw [q_cl (show hd < 2 ^ 31 by omega), hX2]
  rintro x8 rfl
  have hst : ok (X hd) = true := (hS.new hX1 g1).2
  generalize hs : X hd = s at *
  generalize hdd : D hd = d at *
  have nb := fun (t : Nat) => nb_iff (n := n) (c := c) (nr := nr) (t := t) hc hX1 (by rw [hok]; exact hst)
  rw [hok] at nb
  -- what has been looked at
  refine ⟨fun y1 y S P => ∃ i tl X D, i ≤ n ∧ y = nI i ∧ y1 = nI tl ∧ Sh (4 ^ n) ok S ∧ BfI (4 ^ n) 0 hd tl a (eC n ok) (mp ok S0) P0 (mp ok S) P X D ∧ hd < tl ∧ X hd = s ∧ D hd = d ∧ ∀ k, k < i → ∀ b, b < c → ok (chg s k b) = true → ∃ j, j < tl ∧ X j = chg s k b ∧ D j ≤ d + 1, fun _ y _ _ => n - y.toNatClampNeg, ⟨0, tl, X, D, by omega, rfl, rfl, hSh, hB, hlt, hs, hdd, fun k hk => absurd hk (by omega)⟩, ?_⟩
  rintro y1 y S2 P2 ⟨i, tl2, X2, D2, hi, rfl, rfl, hSh2, hB2, hlt2, hs2, hd2, hI⟩
  refine ⟨fun c2 => ?_, fun c2 => ?_⟩
  · have hin : i = n := by
      have := n_ge c2 (by omega) (by omega)
      omega
    subst hin
    rintro x rfl
    refine ⟨⟨hd + 1, tl2, X2, D2, rfl, q_1 hd, hSh2, hB2.next hlt2 (fun x hx => ?_)⟩, n_mu (by omega) (by decide)⟩
    rw [hs2] at hx
    obtain ⟨-, q2, -, k, hk, b, hb, rfl⟩ := (nb x).2 hx
    obtain ⟨j, j1, j2, j3⟩ := hI k hk b hb q2
    rw [hd2]
    exact ⟨j, by omega, j1, j2, j3⟩
  have hlti := n_lt c2 (by omega) (by omega)
  refine ⟨fun y1 y S P => ∃ m tl X D, m ≤ c ∧ y = nI m ∧ y1 = nI tl ∧ Sh (4 ^ n) ok S ∧ BfI (4 ^ n) 0 hd tl a (eC n ok) (mp ok S0) P0 (mp ok S) P X D ∧ hd < tl ∧ X hd = s ∧ D hd = d ∧ (∀ k, k < i → ∀ b, b < c → ok (chg s k b) = true → ∃ j, j < tl ∧ X j = chg s k b ∧ D j ≤ d + 1) ∧ ∀ b, b < m → ok (chg s i b) = true → ∃ j, j < tl ∧ X j = chg s i b ∧ D j ≤ d + 1, fun _ y _ _ => c - y.toNatClampNeg, ⟨0, tl2, X2, D2, by omega, rfl, rfl, hSh2, hB2, hlt2, hs2, hd2, hI, fun k hk => absurd hk (by omega)⟩, ?_⟩
  rintro y1 y S3 P3 ⟨m, tl3, X3, D3, hm, rfl, rfl, hSh3, hB3, hlt3, hs3, hd3, hI3, hM⟩
  have htl3 := hB3.tl_le
  refine ⟨fun c3 => ?_, fun c3 => ?_⟩
  · have hmc : m = c := by
      have := n_ge c3 (by omega) (by omega)
      omega
    subst hmc
    rintro x rfl
    refine ⟨⟨i + 1, tl3, X3, D3, by omega, q_1 i, rfl, hSh3, hB3, hlt3, hs3, hd3, fun k hk => ?_⟩, n_mu hlti (by omega)⟩
    rcases Nat.lt_or_ge k i with v | v
    · exact hI3 k v
    · have ek : k = i := by omega
      subst ek
      exact hM
  have hltm := n_lt c3 (by omega) (by omega)
  have hcg : chg s i m < 4 ^ n := chg_lt hX1 hlti (by omega)
  have e21 : (nI s &&& (((3 : Int32) <<< (((2 : Int32) * nI i) &&& 31)) ^^^ (-1 : Int32))) ||| (nI m <<< (((2 : Int32) * nI i) &&& 31)) = nI (chg s i m) := by
    rw [q_without (by omega), q_put (by omega) (by omega)]
    rfl
  rw [e21, q_cl (show s < 2 ^ 31 by omega)]
  rintro x21 rfl
  rw [q_cl (show chg s i m < 2 ^ 31 by omega)]
  have hv : vp_in (nI (chg s i m)) 4096 := q_in (by omega) (by decide)
  have skip : (ok (chg s i m) = true → ∃ j, j < tl3 ∧ X3 j = chg s i m ∧ D3 j ≤ d + 1) → ∀ x : Int32, x = nI m + 1 → (∃ m tl X D, m ≤ c ∧ x = nI m ∧ nI tl3 = nI tl ∧ Sh (4 ^ n) ok S3 ∧ BfI (4 ^ n) 0 hd tl a (eC n ok) (mp ok S0) P0 (mp ok S3) P3 X D ∧ hd < tl ∧ X hd = s ∧ D hd = d ∧ (∀ k, k < i → ∀ b, b < c → ok (chg s k b) = true → ∃ j, j < tl ∧ X j = chg s k b ∧ D j ≤ d + 1) ∧ ∀ b, b < m → ok (chg s i b) = true → ∃ j, j < tl ∧ X j = chg s i b ∧ D j ≤ d + 1) ∧ c - x.toNatClampNeg < c - (nI m).toNatClampNeg := by
    rintro q x rfl
    refine ⟨⟨m + 1, tl3, X3, D3, by omega, q_1 m, rfl, hSh3, hB3, hlt3, hs3, hd3, hI3, fun b hb => ?_⟩, n_mu hltm (by omega)⟩
    rcases Nat.lt_or_ge b m with v | v
    · exact hM b v
    · have eb : b = m := by omega
      subst eb
      exact q
  refine ⟨hv, fun c4 => skip (fun hok9 => ?_), fun c4 => ⟨_, sp_isProper9 h hf hn hc (nI (chg s i m)), fun r hr => ⟨fun c5 => skip (fun hok9 => ?_), fun c5 => ?_⟩⟩⟩
  · -- come to before
    have hvi := ((hSh3.neg hcg).1 c4).1
    by_cases hts : chg s i m = s
    · rw [hts]
      exact ⟨hd, hlt3, hs3, by omega⟩
    · have hpos : 0 < eC n ok s (chg s i m) := (nb _).1 ⟨hcg, hok9, hts, i, hlti, m, hltm, rfl⟩
      rcases hB3.F (chg s i m) hcg with ⟨j, j1, j2, j3, -, -⟩ | q
      · have := hB3.2.2.2.2.1 hlt3 j j1 j2
        rw [hd3] at this
        exact ⟨j, j2, j3, this⟩
      · have h1 := hcl s _ hX1 g1 hpos
        rw [← q] at h1
        exact absurd h1 (mp_vis.2 hvi).ne.1
  · rw [← hok] at hok9
    exact absurd ⟨chg s i m, rfl, okB_iff.1 hok9⟩ (hr.f c5)
  · -- new
    have h9 := (hSh3.neg hcg).2 c4
    have hok9 : ok (chg s i m) = true := by
      obtain ⟨v, h1, h2⟩ := hr.t c5
      have := h2.1.1
      have e := (q_eq (by omega) (by omega)).1 h1
      rw [e, ← hok]
      exact okB_iff.2 h2
    obtain ⟨k1, k2, k3, k4⟩ := hB3.2.1 hd hB3.1.1 hlt3
    rw [hs3, hd3] at k2
    rw [hd3] at k3
    have hS3s : S3 s = nI d := mp_lab (by omega) k2
    have hts : chg s i m ≠ s := fun q => by
      rw [q, hS3s] at h9
      exact (q_neg d (by omega)).2.2 h9
    have hpos : 0 < eC n ok s (chg s i m) := (nb _).1 ⟨hcg, hok9, hts, i, hlti, m, hltm, rfl⟩
    obtain ⟨r1, hB4⟩ := hB3.push hlt3 (by omega) hcg (mp_new h9 hok9) (by rw [hs3]; exact eC_one hpos)
    rw [hd3] at hB4
    rw [hS3s, q_1, q_cl (show tl3 < 2 ^ 31 by omega)]
    refine ⟨q_in (by omega) (by decide), ?_⟩
    rintro x28 rfl
    refine ⟨hv, ?_⟩
    rintro S4 rfl
    refine ⟨q_in (by omega) (by decide), ?_⟩
    rintro P4 rfl x31 rfl x32 rfl
    refine ⟨⟨m + 1, tl3 + 1, _, _, by omega, q_1 m, q_1 tl3, hSh3.upd (by omega) hok9, by rw [mp_upd (by omega)]; exact hB4, by omega, by simp only [if_neg (show hd ≠ tl3 by omega)]; exact hs3, by simp only [if_neg (show hd ≠ tl3 by omega)]; exact hd3, fun k hk b hb q => ?_, fun b hb q => ?_⟩, n_mu hltm (by omega)⟩
    · obtain ⟨j, j1, j2, j3⟩ := hI3 k hk b hb q
      exact ⟨j, by omega, by simp only [if_neg (show j ≠ tl3 by omega)]; exact j2, by simp only [if_neg (show j ≠ tl3 by omega)]; exact j3⟩
    · rcases Nat.lt_or_ge b m with v | v
      · obtain ⟨j, j1, j2, j3⟩ := hM b v q
        exact ⟨j, by omega, by simp only [if_neg (show j ≠ tl3 by omega)]; exact j2, by simp only [if_neg (show j ≠ tl3 by omega)]; exact j3⟩
      · have eb : b = m := by omega
        subst eb
        exact ⟨tl3, by omega, by simp, by simp⟩
/-! the calls -/
theorem n6 {n : Nat} (hn : n ≤ 9) : nI n ≤ 6 ↔ n ≤ 6 := q_le (b := 6) (by omega) (by decide)
def AnsProper (n : Nat) (nr : Nat → Nat) (c : Nat) (p1 r : Int32) : Prop :=
  (¬ n ≤ 6 ∧ r = -2) ∨ (n ≤ 6 ∧ ((∃ v, p1 = nI v ∧ IsC n c v ∧ isB r (Df nr v)) ∨ ((¬ ∃ v, p1 = nI v ∧ IsC n c v) ∧ r = -1)))
theorem IsC.one {n c v w : Nat} (hn : n ≤ 6) (h : IsC n c v) (h' : IsC n c w) (e : nI v = nI w) : v = w := by
  have := p4_6 hn
  exact (q_eq (by have := h.1; omega) (by have := h'.1; omega)).1 e
theorem AnsProper.one {n : Nat} {nr : Nat → Nat} {c : Nat} {p1 r r' : Int32} (h : AnsProper n nr c p1 r) (h' : AnsProper n nr c p1 r') : r = r' := by
  rcases h with ⟨h1, rfl⟩ | ⟨h1, h2⟩
  · rcases h' with ⟨-, rfl⟩ | ⟨h1', -⟩
    · rfl
    · exact absurd h1' h1
  · rcases h' with ⟨h1', -⟩ | ⟨-, h2'⟩
    · exact absurd h1 h1'
    · rcases h2 with ⟨v, rfl, hv, hr⟩ | ⟨hv, rfl⟩
      · rcases h2' with ⟨v', e, hv', hr'⟩ | ⟨hv', -⟩
        · have := hv.one h1 hv' e
          subst this
          exact hr.one hr' Iff.rfl
        · exact absurd ⟨v, rfl, hv⟩ hv'
      · rcases h2' with ⟨v', e, hv', -⟩ | ⟨-, rfl⟩
        · exact absurd ⟨v', e, hv'⟩ hv
        · rfl
theorem sp_proper8 {n c : Nat} {nr : Nat → Nat} {fN : Nat → Int32} (h : NetOk n nr) (hf : isN fN nr) (hc : c ≤ 4) (p1 : Int32) : wp_X8_proper (nI c) (nI n) fN p1 (AnsProper n nr c p1) := by
  unfold wp_X8_proper
  refine ⟨fun d => ?_, fun d => Or.inl ⟨fun q => d ((n6 h.2.1).2 q), rfl⟩⟩
  have hn := (n6 h.2.1).1 d
  refine ⟨_, sp_isColouring4 hn hc p1, fun r hr => ⟨fun d2 => Or.inr ⟨hn, Or.inr ⟨hr.f d2, rfl⟩⟩, fun d2 => ?_⟩⟩
  obtain ⟨v, rfl, hv⟩ := hr.t d2
  exact ⟨_, sp_differs h hf hn hv.1, fun r2 hr2 => ⟨_, sp_asNumber hr2, fun r3 hr3 => Or.inr ⟨hn, Or.inl ⟨v, rfl, hv, hr3⟩⟩⟩⟩
theorem sp_proper9 {n c : Nat} {nr : Nat → Nat} {jJ : Nat → Int32} (h : NetOk n nr) (hf : isN jJ nr) (hc : c ≤ 4) (p1 : Int32) : wp_X9_proper (nI n) (nI c) jJ p1 (AnsProper n nr c p1) := by
  unfold wp_X9_proper
  refine ⟨fun d => ?_, fun d => Or.inl ⟨fun q => d ((n6 h.2.1).2 q), rfl⟩⟩
  have hn := (n6 h.2.1).1 d
  refine ⟨_, sp_isColouring9 hn hc p1, fun r hr => ⟨fun d2 => Or.inr ⟨hn, Or.inr ⟨hr.f d2, rfl⟩⟩, fun d2 => ?_⟩⟩
  obtain ⟨v, rfl, hv⟩ := hr.t d2
  have key : (∃ w, nI v = nI w ∧ IsC n c w ∧ Df nr w) ↔ Df nr v := ⟨fun ⟨w, h1, h2, h3⟩ => by
    have := hv.one hn h2 h1
    subst this
    exact h3, fun q => ⟨v, rfl, hv, q⟩⟩
  refine ⟨_, sp_isProper9 h hf hn hc (nI v), fun r2 hr2 => ⟨fun d3 => Or.inr ⟨hn, Or.inl ⟨v, rfl, hv, isB.no ?_⟩⟩, fun d3 => Or.inr ⟨hn, Or.inl ⟨v, rfl, hv, isB.yes ?_⟩⟩⟩⟩
  · exact (hr2.iff key).f d3
  · exact (hr2.iff key).t d3
def AnsShades (n : Nat) (nr : Nat → Nat) (c : Nat) (p1 p2 r : Int32) : Prop :=
  (¬ n ≤ 6 ∧ r = -2) ∨ (n ≤ 6 ∧ ((∃ s t, p1 = nI s ∧ (IsC n c s ∧ Df nr s) ∧ p2 = nI t ∧ (IsC n c t ∧ Df nr t) ∧ AnsD (eC n (okC n nr c)) s t r) ∨ ((¬ ((∃ v, p1 = nI v ∧ IsC n c v ∧ Df nr v) ∧ ∃ v, p2 = nI v ∧ IsC n c v ∧ Df nr v)) ∧ r = -1)))
theorem AnsShades.one {n : Nat} {nr : Nat → Nat} {c : Nat} {p1 p2 r r' : Int32} (h : AnsShades n nr c p1 p2 r) (h' : AnsShades n nr c p1 p2 r') : r = r' := by
  rcases h with ⟨h1, rfl⟩ | ⟨h1, h2⟩
  · rcases h' with ⟨-, rfl⟩ | ⟨h1', -⟩
    · rfl
    · exact absurd h1' h1
  · rcases h' with ⟨h1', -⟩ | ⟨-, h2'⟩
    · exact absurd h1 h1'
    · rcases h2 with ⟨s, t, rfl, hs, rfl, ht, hr⟩ | ⟨hv, rfl⟩
      · rcases h2' with ⟨s', t', e1, hs', e2, ht', hr'⟩ | ⟨hv', -⟩
        · have := hs.1.one h1 hs'.1 e1
          subst this
          have := ht.1.one h1 ht'.1 e2
          subst this
          exact hr.one hr'
        · exact absurd ⟨⟨s, rfl, hs⟩, t, rfl, ht⟩ hv'
      · rcases h2' with ⟨s', t', e1, hs', e2, ht', -⟩ | ⟨-, rfl⟩
        · exact absurd ⟨⟨s', e1, hs'⟩, t', e2, ht'⟩ hv
        · rfl
theorem sp_shades8 {n c : Nat} {nr : Nat → Nat} {fN : Nat → Int32} (wSz wTl wFo wCo : Int32) (gF gL gX gC : Nat → Int32) (h : NetOk n nr) (hf : isN fN nr) (hc : c ≤ 4) (p1 p2 : Int32) :
    wp_X8_shades (nI c) wSz wTl wFo wCo gF gL gX gC (nI n) fN p1 p2 (fun r _ _ _ _ _ _ _ _ => AnsShades n nr c p1 p2 r) := by
  unfold wp_X8_shades
  refine ⟨fun d => ?_, fun d => Or.inl ⟨fun q => d ((n6 h.2.1).2 q), rfl⟩⟩
  have hn := (n6 h.2.1).1 d
  refine ⟨_, sp_isLawful4 h hf hn hc p1, fun r1 hr1 => ⟨fun d2 => Or.inr ⟨hn, Or.inr ⟨fun q => hr1.f d2 q.1, rfl⟩⟩, fun d2 => ⟨_, sp_isLawful4 h hf hn hc p2, fun r2 hr2 => ⟨fun d3 => Or.inr ⟨hn, Or.inr ⟨fun q => hr2.f d3 q.2, rfl⟩⟩, fun d3 => ?_⟩⟩⟩⟩
  obtain ⟨s, rfl, hs⟩ := hr1.t d2
  obtain ⟨t, rfl, ht⟩ := hr2.t d3
  refine ⟨_, sp_begin4 wSz wTl wCo gF h hf hn hc, ?_⟩
  rintro z10 z11 z12 F ⟨rfl, rfl, rfl, hF⟩
  refine ⟨_, sp_fewestP wFo gX gC hn hc hF hs.1.1 ht.1.1, ?_⟩
  rintro r z z2 f1 f2 f3 f4 hr
  exact Or.inr ⟨hn, Or.inl ⟨s, t, rfl, hs, rfl, ht, hr⟩⟩
theorem AnsD.rev {e : Nat → Nat → Nat} (hs : ∀ y x, e y x = e x y) {s t : Nat} {r : Int32} (h : AnsD e s t r) : AnsD e t s r := by
  rcases h with ⟨d, h1, h2, h3⟩ | ⟨h1, h2⟩
  · exact Or.inl ⟨d, h1, h2.rev hs, h3⟩
  · exact Or.inr ⟨fun q => h1 (q.rev hs), h2⟩
theorem mpCl {n : Nat} {nr : Nat → Nat} {c : Nat} {S : Nat → Int32} (h : ∀ x, x < 4 ^ n → S x = -9) : ∀ y x, y < 4 ^ n → mp (okC n nr c) S y = -1 → 0 < eC n (okC n nr c) y x → mp (okC n nr c) S x = -1 := fun y x _ _ q => by
  obtain ⟨⟨-, h1, -, h2⟩, -⟩ := eC_pos.1 q
  exact mp_new (h x h1) h2
theorem sp_shades9 {n c : Nat} {nr : Nat → Nat} {jJ : Nat → Int32} (jS jP : Nat → Int32) (h : NetOk n nr) (hf : isN jJ nr) (hc : c ≤ 4) (p1 p2 : Int32) :
    wp_X9_shades (nI n) (nI c) jJ jS jP p1 p2 (fun r _ _ => AnsShades n nr c p1 p2 r) := by
  unfold wp_X9_shades
  refine ⟨fun d => ?_, fun d => Or.inl ⟨fun q => d ((n6 h.2.1).2 q), rfl⟩⟩
  have hn := (n6 h.2.1).1 d
  have hp := p4_6 hn
  refine ⟨_, sp_isProper9 h hf hn hc p1, fun r1 hr1 => ⟨fun d2 => Or.inr ⟨hn, Or.inr ⟨fun q => hr1.f d2 q.1, rfl⟩⟩, fun d2 => ⟨_, sp_isProper9 h hf hn hc p2, fun r2 hr2 => ⟨fun d3 => Or.inr ⟨hn, Or.inr ⟨fun q => hr2.f d3 q.2, rfl⟩⟩, fun d3 => ?_⟩⟩⟩⟩
  obtain ⟨s, rfl, hs⟩ := hr1.t d2
  obtain ⟨t, rfl, ht⟩ := hr2.t d3
  have hs4 := hs.1.1
  have ht4 := ht.1.1
  refine ⟨_, sp_bleach jS, fun S0 hS0 => ?_⟩
  have hS9 : ∀ x, x < 4 ^ n → S0 x = -9 := fun x hx => hS0 x (by omega)
  refine ⟨_, sp_spread9 h hf hn hc (fun x hx => Or.inl (hS9 x hx)) hs4 (hS9 s hs4) (okB_iff.2 hs) (mpCl hS9), ?_⟩
  rintro r S P ⟨tl, X, D, rfl, hSh, hB⟩
  rw [q_cl (show t < 2 ^ 31 by omega)]
  refine ⟨q_in (by omega) (by decide), Or.inr ⟨hn, Or.inl ⟨s, t, rfl, hs, rfl, ht, AnsD.rev (Eg_eC n _).1 ?_⟩⟩⟩
  have hot : okC n nr c t = true := okB_iff.2 ht
  rcases hSh t ht4 with q | ⟨q, -⟩
  · rw [q]
    exact Or.inr ⟨hB.noway (mp_new q hot), rfl⟩
  · obtain ⟨d9, d1, d3, d4, -⟩ := hB.goal (by omega) ht4 (mp_new (hS9 t ht4) hot) (mp_vis.2 q).ne.1
    exact Or.inl ⟨d9, d1, d3, mp_lab d1 d4⟩
def AnsHeaps (n : Nat) (nr : Nat → Nat) (c : Nat) (p1 r : Int32) : Prop :=
  (∃ wh, wh ≤ 2 ∧ p1 = nI wh ∧ ((¬ n ≤ 6 ∧ r = -2) ∨ (n ≤ 6 ∧ (wh = 0 → r = nI (ctB (okC n nr c) (4 ^ n))) ∧ (wh = 1 → r = nI (ctB (stk (okC n nr c) (eC n (okC n nr c))) (4 ^ n))) ∧ (wh = 2 → AnsP (4 ^ n) (okC n nr c) (eC n (okC n nr c)) r)))) ∨ ((¬ ∃ wh : Nat, wh ≤ 2 ∧ p1 = nI wh) ∧ r = -1)
theorem AnsHeaps.one {n : Nat} {nr : Nat → Nat} {c : Nat} {p1 r r' : Int32} (h : AnsHeaps n nr c p1 r) (h' : AnsHeaps n nr c p1 r') : r = r' := by
  rcases h with ⟨wh, h1, rfl, h3⟩ | ⟨h1, rfl⟩
  · rcases h' with ⟨wh', h1', h2', h3'⟩ | ⟨h1', -⟩
    · have e := (q_eq (by omega) (by omega)).1 h2'
      subst e
      rcases h3 with ⟨h4, rfl⟩ | ⟨h4, h5, h6, h7⟩
      · rcases h3' with ⟨-, rfl⟩ | ⟨h4', -⟩
        · rfl
        · exact absurd h4' h4
      · rcases h3' with ⟨h4', -⟩ | ⟨-, h5', h6', h7'⟩
        · exact absurd h4 h4'
        · have hc : wh = 0 ∨ wh = 1 ∨ wh = 2 := by omega
          rcases hc with c | c | c
          · exact (h5 c).trans (h5' c).symm
          · exact (h6 c).trans (h6' c).symm
          · exact (h7 c).trans (h7' c).symm
    · exact absurd ⟨wh, h1, rfl⟩ h1'
  · rcases h' with ⟨wh', h1', h2', -⟩ | ⟨-, rfl⟩
    · exact absurd ⟨wh', h1', h2'⟩ h1
    · rfl
theorem sp_heaps8 {n c : Nat} {nr : Nat → Nat} {fN : Nat → Int32} (wSz wTl wFo wCo : Int32) (gF gL gX gC : Nat → Int32) (h : NetOk n nr) (hf : isN fN nr) (hc : c ≤ 4) (p1 : Int32) :
    wp_X8_heaps (nI c) wSz wTl wFo wCo gF gL gX gC (nI n) fN p1 (fun r _ _ _ _ _ _ _ _ => AnsHeaps n nr c p1 r) := by
  unfold wp_X8_heaps
  refine ⟨_, sp_isWithin p1 0 2, fun r1 hr1 => ⟨fun d => Or.inr ⟨fun q => hr1.f d (w_02.2 q), rfl⟩, fun d => ?_⟩⟩
  obtain ⟨wh, hwh, rfl⟩ := w_02.1 (hr1.t d)
  have e0 : nI wh = 0 ↔ wh = 0 := q_eq0 (by omega)
  have e1 : nI wh = 1 ↔ wh = 1 := q_eq (b := 1) (by omega) (by decide)
  refine ⟨fun d2 => ?_, fun d2 => Or.inl ⟨wh, hwh, rfl, Or.inl ⟨fun q => d2 ((n6 h.2.1).2 q), rfl⟩⟩⟩
  have hn := (n6 h.2.1).1 d2
  refine ⟨_, sp_begin4 wSz wTl wCo gF h hf hn hc, ?_⟩
  rintro z7 z8 z9 F ⟨rfl, rfl, rfl, hF⟩
  refine ⟨fun d3 => ⟨_, sp_many hn hF, ?_⟩, fun d3 => ⟨_, sp_stuck wFo gX gC hn hc hF, ?_⟩, fun d3 d4 => ⟨_, sp_componentsP wFo gX gC hn hc hF, ?_⟩⟩
  · rw [e0] at d3
    rintro r hr
    exact Or.inl ⟨wh, hwh, rfl, Or.inr ⟨hn, fun _ => hr, fun _ => by omega, fun _ => by omega⟩⟩
  · rw [e1] at d3
    rintro r z f f0 hr
    exact Or.inl ⟨wh, hwh, rfl, Or.inr ⟨hn, fun _ => by omega, fun _ => hr, fun _ => by omega⟩⟩
  · rw [e0] at d3
    rw [e1] at d4
    rintro r z z2 f1 f2 f3 f4 hr
    exact Or.inl ⟨wh, hwh, rfl, Or.inr ⟨hn, fun _ => by omega, fun _ => by omega, fun _ => hr⟩⟩
theorem ctB_or {p q r : Nat → Bool} : ∀ k, (∀ x, x < k → (r x = true ↔ (p x = true ∨ q x = true))) → (∀ x, x < k → ¬ (p x = true ∧ q x = true)) → ctB r k = ctB p k + ctB q k
  | 0, _, _ => rfl
  | k + 1, h1, h2 => by
    show ctB r k + (if r k = true then 1 else 0) = ctB p k + (if p k = true then 1 else 0) + (ctB q k + (if q k = true then 1 else 0))
    rw [ctB_or k (fun x hx => h1 x (by omega)) (fun x hx => h2 x (by omega))]
    have a := h1 k (by omega)
    have b := h2 k (by omega)
    cases c1 : p k <;> cases c2 : q k <;> cases c3 : r k <;> simp [c1, c2, c3] at a b ⊢ <;> omega
theorem stk_en {sz a tl : Nat} {ok : Nat → Bool} {e : Nat → Nat → Nat} {F L : Nat → Int32} {X D : Nat → Nat} (h : En sz a e F L tl X D) (hne : ∀ x, ¬ 0 < e x x) (ho : ok a = true) : tl = 1 ↔ stk ok e a = true := by
  constructor
  · rintro rfl
    refine okB_iff.2 ⟨ho, fun x hx => ?_⟩
    obtain ⟨i, hi, e1⟩ := h.2.2.2.2.1 x ((Rc.refl e a).snoc hx)
    obtain ⟨j, hj, e2⟩ := h.2.2.2.2.1 a (Rc.refl e a)
    have : i = j := by omega
    subst this
    rw [e2] at e1
    subst e1
    exact hne a hx
  · intro q
    have q := (okB_iff.1 q).2
    have only : ∀ k w x, Wk e a k w x → x = a := by
      intro k
      induction k with
      | zero => exact fun w x q => q.2
      | succ k ih =>
        rintro w x ⟨y, w', h1, -, h2⟩
        have := ih w' y h2
        subst this
        exact absurd h1 (q x)
    have h0 := h.1
    rcases Nat.lt_or_ge 1 tl with c | c
    · exfalso
      have a0 := (h.2.2.1 0 (by omega)).2.2.2.2.1
      have a1 := (h.2.2.1 1 (by omega)).2.2.2.2.1
      obtain ⟨k0, a0⟩ := a0
      obtain ⟨k1, a1⟩ := a1
      exact h.2.2.2.1 0 1 (by omega) c ((only _ _ _ a0).trans (only _ _ _ a1).symm)
    · omega
theorem sp_heaps9 {n c : Nat} {nr : Nat → Nat} {jJ : Nat → Int32} (jS jP : Nat → Int32) (h : NetOk n nr) (hf : isN jJ nr) (hc : c ≤ 4) (p1 : Int32) :
    wp_X9_heaps (nI n) (nI c) jJ jS jP p1 (fun r _ _ => AnsHeaps n nr c p1 r) := by
  unfold wp_X9_heaps
  refine ⟨_, sp_in p1 0 2, fun r1 hr1 => ⟨fun d => Or.inr ⟨fun q => hr1.f d (w_02.2 q), rfl⟩, fun d => ?_⟩⟩
  obtain ⟨wh, hwh, rfl⟩ := w_02.1 (hr1.t d)
  have e0 : nI wh = 0 ↔ wh = 0 := q_eq0 (by omega)
  have e1 : nI wh = 1 ↔ wh = 1 := q_eq (b := 1) (by omega) (by decide)
  refine ⟨fun d2 => ?_, fun d2 => Or.inl ⟨wh, hwh, rfl, Or.inl ⟨fun q => d2 ((n6 h.2.1).2 q), rfl⟩⟩⟩
  have hn := (n6 h.2.1).1 d2
  have hp := p4_6 hn
  have he := Eg_eC n (okC n nr c)
  have hpr := fun x => sp_isProper9 h hf hn hc (nI x)
  have hsp := fun (a : Nat) (S0 P0 : Nat → Int32) => sp_spread9 (c := c) (a := a) (S0 := S0) (P0 := P0) h hf hn hc
  have hloop : ∀ x, ¬ 0 < eC n (okC n nr c) x x := fun x q => (eC_pos.1 q).2.1 rfl
  have hprI : ∀ x, x < 4 ^ n → ((∃ v, nI x = nI v ∧ IsC n c v ∧ Df nr v) ↔ okC n nr c x = true) := fun x hx => ⟨fun ⟨v, h1, h2⟩ => by
    have := h2.1.1
    have e := (q_eq (by omega) (by omega)).1 h1
    subst e
    exact okB_iff.2 h2, fun q => ⟨x, rfl, okB_iff.1 q⟩⟩
  unfold AnsHeaps
  generalize hok : okC n nr c = ok at *
  generalize hee : eC n ok = e at *
  refine ⟨_, sp_bleach jS, fun S0 hS0 => ?_⟩
  have hS9 : ∀ x, x < 4 ^ n → S0 x = -9 := fun x hx => hS0 x (by omega)
  have hfr : Fr (4 ^ n) ok (mp ok S0) := fun x hx => by
    unfold mp
    rw [if_pos (hS9 x hx)]
  refine ⟨fun y1 y2 y3 y S P => ∃ i, i ≤ 4 ^ n ∧ y = nI i ∧ y1 = nI (ctB (fun s => okB (lead ok e s)) i) ∧ y2 = nI (ctB (stk ok e) i) ∧ y3 = nI (ctB (fun x => okB (vis (mp ok S) x)) (4 ^ n)) ∧ Sh (4 ^ n) ok S ∧ CpI (4 ^ n) ok e i (mp ok S) P 0, fun _ _ _ y _ _ => 4 ^ n - y.toNatClampNeg, ⟨0, Nat.zero_le _, rfl, rfl, rfl, ?_, fun x hx => Or.inl (hS9 x hx), CpI.start hfr jP⟩, ?_⟩
  · have : ∀ k, k ≤ 4 ^ n → ctB (fun x => okB (vis (mp ok S0) x)) k = 0 := by
      intro k
      induction k with
      | zero => exact fun _ => rfl
      | succ k ih =>
        intro hk
        rw [ctB_no (fun q => hfr.novis (by omega) (okB_iff.1 q))]
        exact ih (by omega)
    rw [this _ (Nat.le_refl _)]
    rfl
  rintro y1 y2 y3 y S P ⟨i, hi, rfl, rfl, rfl, rfl, hSh, hC⟩
  unfold wp_X9_all
  refine ⟨fun r => r = nI (4 ^ n), q_4n hn, ?_⟩
  rintro r rfl
  refine ⟨fun d3 => ?_, fun d3 => ?_⟩
  · have hic : i = 4 ^ n := by
      have := n_ge d3 (by omega) (by omega)
      omega
    subst hic
    refine ⟨fun d4 => ?_, fun d4 => ⟨fun d5 => ?_, fun d5 => ?_⟩⟩
    · rw [e0] at d4
      refine Or.inl ⟨wh, hwh, rfl, Or.inr ⟨hn, fun _ => ?_, fun _ => by omega, fun _ => by omega⟩⟩
      congr 1
      apply ctB_eq
      intro x hx
      cases q : ok x with
      | true => exact okB_iff.2 ((hC.2.2 x hx).2 ⟨x, hx, q, Rc.refl e x⟩)
      | false =>
        refine okB_no.2 (fun v => ?_)
        obtain ⟨s, h1, h2, h3⟩ := (hC.2.2 x hx).1 v
        rcases he.last h3 with w | w
        · rw [w, h2] at q; cases q
        · rw [w.2.1] at q; cases q
    · rw [e1] at d5
      exact Or.inl ⟨wh, hwh, rfl, Or.inr ⟨hn, fun _ => by omega, fun _ => rfl, fun _ => by omega⟩⟩
    · rw [e0] at d4
      rw [e1] at d5
      exact Or.inl ⟨wh, hwh, rfl, Or.inr ⟨hn, fun _ => by omega, fun _ => by omega, fun _ => rfl⟩⟩
  · have hlt := n_lt d3 (by omega) (by omega)
    rw [q_cl (show i < 2 ^ 31 by omega)]
    -- what stands alone begins a part
    have stkl : stk ok e i = true → lead ok e i := fun q => by
      have q := okB_iff.1 q
      refine ⟨q.1, fun s' h1 h2 h3 => ?_⟩
      obtain ⟨k, w, h3⟩ := h3
      cases k with
      | zero =>
        have := h3.2
        omega
      | succ k =>
        obtain ⟨y, w', h4, -, -⟩ := h3
        exact q.2 y (by rw [he.1]; exact h4)
    have skip : ¬ mp ok S i = -1 → ∀ x : Int32, x = nI i + 1 → (∃ i', i' ≤ 4 ^ n ∧ x = nI i' ∧ nI (ctB (fun s => okB (lead ok e s)) i) = nI (ctB (fun s => okB (lead ok e s)) i') ∧ nI (ctB (stk ok e) i) = nI (ctB (stk ok e) i') ∧ nI (ctB (fun x => okB (vis (mp ok S) x)) (4 ^ n)) = nI (ctB (fun x => okB (vis (mp ok S) x)) (4 ^ n)) ∧ Sh (4 ^ n) ok S ∧ CpI (4 ^ n) ok e i' (mp ok S) P 0) ∧ 4 ^ n - x.toNatClampNeg < 4 ^ n - (nI i).toNatClampNeg := by
      rintro q x rfl
      have hnl : ¬ lead ok e i := fun v => q ((hC.lead hlt).2 v)
      exact ⟨⟨i + 1, by omega, q_1 i, by rw [ctB_no (fun v => hnl (okB_iff.1 v))], by rw [ctB_no (fun v => hnl (stkl v))], rfl, hSh, hC.skip hlt q⟩, n_mu hlt (by omega)⟩
    refine ⟨q_in (by omega) (by decide), fun d4 => skip (mp_vis.2 ((hSh.neg hlt).1 d4).1).ne.1, fun d4 => ⟨_, hpr i, fun r hr => ⟨fun d5 => skip (fun q => hr.f d5 ((hprI i hlt).2 (hSh.new hlt q).2)), fun d5 => ?_⟩⟩⟩
    have hoki := (hprI i hlt).1 (hr.t d5)
    have h9 := (hSh.neg hlt).2 d4
    have hm1 := mp_new h9 hoki
    have hld := (hC.lead hlt).1 hm1
    refine ⟨_, hsp i S P hSh hlt h9 hoki (hC.cl he), ?_⟩
    rintro r2 S2 P2 ⟨tl, X, D, rfl, hSh2, hB⟩
    have hen := hB.en (by omega)
    have htl := hB.tl_le
    have hst := stk_en (ok := ok) hen hloop hoki
    have hC2 := hC.step hlt hm1 hB
    have hC2' : CpI (4 ^ n) ok e (i + 1) (mp ok S2) P2 0 := ⟨hC2.1, ⟨fun _ => 0, fun i hi => absurd hi (by omega), fun i j _ hj => absurd hj (by omega), trivial⟩, hC2.2.2⟩
    have hsum : ctB (fun x => okB (vis (mp ok S2) x)) (4 ^ n) = ctB (fun x => okB (vis (mp ok S) x)) (4 ^ n) + tl := by
      have hcount : tl = ctB (fun x => okB (Rc e i x)) (4 ^ n) := ct_enum _ (4 ^ n) tl X (fun j hj => ⟨(hen.2.2.1 j hj).1, okB_iff.2 (hen.2.2.1 j hj).2.2.2.2.rc⟩) hen.2.2.2.1 (fun x _ hx => hen.2.2.2.2.1 x (okB_iff.1 hx))
      rw [hcount]
      refine ctB_or (4 ^ n) (fun x hx => ?_) (fun x hx => ?_)
      · rw [okB_iff, okB_iff, okB_iff, hC2.2.2 x hx, hC.2.2 x hx]
        constructor
        · rintro ⟨s, h1, h2, h3⟩
          rcases Nat.lt_or_ge s i with v | v
          · exact Or.inl ⟨s, v, h2, h3⟩
          · have es : s = i := by omega
            subst es
            exact Or.inr h3
        · rintro (⟨s, h1, h2⟩ | v)
          · exact ⟨s, by omega, h2⟩
          · exact ⟨i, by omega, hoki, v⟩
      · rw [okB_iff, okB_iff, hC.2.2 x hx]
        rintro ⟨⟨s, h1, h2, h3⟩, h4⟩
        exact hld.2 s h1 h2 (h3.trans (h4.rev he.1))
    have e1t : nI tl = 1 ↔ tl = 1 := q_eq (b := 1) (by omega) (by decide)
    rintro x29 rfl
    refine ⟨fun d6 => ?_, fun d6 => ?_⟩
    · rintro x34 rfl x35 rfl x36 rfl
      exact ⟨⟨i + 1, by omega, q_1 i, by rw [q_1, ctB_yes (okB_iff.2 hld)], by rw [q_1, ctB_yes (hst.1 (e1t.1 d6))], by rw [hsum, q_add], hSh2, hC2'⟩, n_mu hlt (by omega)⟩
    · rintro x31 rfl x32 rfl x33 rfl
      exact ⟨⟨i + 1, by omega, q_1 i, by rw [q_1, ctB_yes (okB_iff.2 hld)], by rw [Int32.add_zero, ctB_no (fun v => d6 (e1t.2 (hst.2 v)))], by rw [hsum, q_add], hSh2, hC2'⟩, n_mu hlt (by omega)⟩
