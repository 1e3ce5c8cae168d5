/-! THE SEARCH THROUGH COLOURINGS -/
/-- just one node's colour is another -/
def One (n y x : Nat) : Prop := y ≠ x ∧ ∃ k, k < n ∧ ∀ j, j < n → j ≠ k → col x j = col y j
theorem One.sym {n y x : Nat} (h : One n y x) : One n x y := ⟨h.1.symm, by
  obtain ⟨k, h1, h2⟩ := h.2
  exact ⟨k, h1, fun j h3 h4 => (h2 j h3 h4).symm⟩⟩
noncomputable def eC (n : Nat) (ok : Nat → Bool) (y x : Nat) : Nat := if okB ((y < 4 ^ n ∧ x < 4 ^ n ∧ ok y = true ∧ ok x = true) ∧ One n y x) = true then 1 else 0
theorem eC_pos {n : Nat} {ok : Nat → Bool} {y x : Nat} : 0 < eC n ok y x ↔ ((y < 4 ^ n ∧ x < 4 ^ n ∧ ok y = true ∧ ok x = true) ∧ One n y x) := by
  unfold eC
  by_cases c : ((y < 4 ^ n ∧ x < 4 ^ n ∧ ok y = true ∧ ok x = true) ∧ One n y x)
  · rw [if_pos (okB_iff.2 c)]
    exact ⟨fun _ => c, fun _ => by omega⟩
  · rw [if_neg (fun q => c (okB_iff.1 q))]
    exact ⟨fun q => absurd q (by omega), fun q => absurd q c⟩
theorem eC_one {n : Nat} {ok : Nat → Bool} {y x : Nat} (h : 0 < eC n ok y x) : eC n ok y x = 1 := by
  unfold eC at h ⊢
  split
  · rfl
  · rename_i c
    rw [if_neg c] at h
    omega
theorem Eg_eC (n : Nat) (ok : Nat → Bool) : Eg (4 ^ n) ok (eC n ok) := by
  refine ⟨fun y x => ?_, fun y x q => (eC_pos.1 q).1⟩
  have h : ∀ y x, 0 < eC n ok y x → 0 < eC n ok x y := fun y x q => by
    obtain ⟨⟨h1, h2, h3, h4⟩, h5⟩ := eC_pos.1 q
    exact eC_pos.2 ⟨⟨h2, h1, h4, h3⟩, h5.sym⟩
  rcases Nat.eq_zero_or_pos (eC n ok y x) with c | c
  · rcases Nat.eq_zero_or_pos (eC n ok x y) with d | d
    · rw [c, d]
    · have := h x y d
      omega
  · rw [eC_one c, eC_one (h y x c)]
theorem nb_iff {n c : Nat} {nr : Nat → Nat} (hc : c ≤ 4) {s t : Nat} (hs : s < 4 ^ n) (hos : okC n nr c s = true) : (t < 4 ^ n ∧ okC n nr c t = true ∧ t ≠ s ∧ ∃ k, k < n ∧ ∃ d, d < c ∧ t = chg s k d) ↔ 0 < eC n (okC n nr c) s t := by
  rw [eC_pos]
  constructor
  · rintro ⟨h1, h2, h3, k, hk, d, hd, rfl⟩
    refine ⟨⟨hs, h1, hos, h2⟩, h3.symm, k, hk, fun j hj hjk => ?_⟩
    rw [col_chg (by omega), if_neg hjk]
  · rintro ⟨⟨-, h1, -, h2⟩, h3, k, hk, h4⟩
    exact ⟨h1, h2, h3.symm, k, hk, col t k, (okB_iff.1 h2).1.2 k hk, chg_of hs h1 hk h4⟩
/-- the first c places hold the states of P, and nothing else -/
def EnP (c : Nat) (f : Nat → Int32) (P : Nat → Prop) : Prop := (∀ i, i < c → ∃ t, P t ∧ f i = nI t) ∧ ∀ t, P t → ∃ i, i < c ∧ f i = nI t
theorem EnP.iff {c : Nat} {f : Nat → Int32} {P P' : Nat → Prop} (h : EnP c f P) (e : ∀ t, P t ↔ P' t) : EnP c f P' :=
  ⟨fun i hi => by
    obtain ⟨t, h1, h2⟩ := h.1 i hi
    exact ⟨t, (e t).1 h1, h2⟩, fun t h1 => h.2 t ((e t).2 h1)⟩
theorem EnP.add {c : Nat} {f : Nat → Int32} {P : Nat → Prop} (h : EnP c f P) (t : Nat) : EnP (c + 1) (upd f c (nI t)) (fun t' => P t' ∨ t' = t) := by
  refine ⟨fun i hi => ?_, fun t' h1 => ?_⟩
  · rcases Nat.lt_or_ge i c with z | z
    · obtain ⟨t', h1, h2⟩ := h.1 i z
      exact ⟨t', Or.inl h1, by rw [upd_n (by omega)]; exact h2⟩
    · have e : i = c := by omega
      subst e
      exact ⟨t, Or.inr rfl, upd_s⟩
  · rcases h1 with h1 | rfl
    · obtain ⟨i, hi, h2⟩ := h.2 t' h1
      exact ⟨i, by omega, by rw [upd_n (by omega)]; exact h2⟩
    · exact ⟨c, by omega, upd_s⟩
theorem sp_isStateP {sz t : Nat} (hsz : sz ≤ 4096) (ht : t < sz) : wp_X5_isState_P (nI sz) (nI t) (fun r => r = 1) := by
  unfold wp_X5_isState_P
  refine ⟨fun d => ?_, fun _ => ⟨fun d => ?_, fun _ => ⟨fun d => ?_, fun _ => rfl⟩⟩⟩
  · have := (q_lt (a := t) (b := 0) (by omega) (by decide)).1 d
    omega
  · have := n_ge d (by omega) (by omega)
    omega
  · have := n_ge (n := 4096) d (by decide) (by omega)
    omega
theorem sp_goalP {sz : Nat} {p2 : Int32} (hg : p2 = -1 ∨ ∃ g, g < sz ∧ p2 = nI g) : wp_X5_isState_P (nI sz) p2 (fun r => r = 0 ∨ ∃ g, g < sz ∧ p2 = nI g) := by
  unfold wp_X5_isState_P
  rcases hg with rfl | hg
  · exact ⟨fun _ => Or.inl rfl, fun d => absurd (by decide) d⟩
  · exact ⟨fun _ => Or.inl rfl, fun _ => ⟨fun _ => Or.inl rfl, fun _ => ⟨fun _ => Or.inl rfl, fun _ => Or.inr hg⟩⟩⟩
theorem sp_offerP {sz c t : Nat} {gF gX gC : Nat → Int32} {w : Int32} {P : Nat → Prop} (hsz : sz ≤ 4096) (hc : c < 24) (ht : t < sz) (h : EnP c gX P) : wp_X5_offer_P (nI sz) (nI c) gF gX gC (nI t) w (fun z f _ => ∃ c', c' ≤ c + 1 ∧ z = nI c' ∧ EnP c' f (fun t' => P t' ∨ (¬ gF t = -2 ∧ t' = t))) := by
  unfold wp_X5_offer_P
  refine ⟨_, sp_isStateP hsz ht, ?_⟩
  rintro r rfl
  refine ⟨fun d => absurd d (by decide), fun _ => ?_⟩
  rw [q_cl (show t < 2 ^ 31 by omega)]
  refine ⟨q_in (show t < 4096 by omega) (by decide), fun z => ⟨c, by omega, rfl, h.iff (fun t' => ⟨Or.inl, fun q => q.elim id (fun q => absurd z q.1)⟩)⟩, fun z => ⟨fun d => ?_, fun d => ⟨q_in hc (by decide), ?_⟩⟩⟩
  · have := n_ge (n := 24) d (by decide) (by omega)
    omega
  · rw [q_cl (show c < 2 ^ 31 by omega)]
    rintro f rfl
    refine ⟨q_in hc (by decide), ?_⟩
    rintro g rfl x rfl
    exact ⟨c + 1, by omega, q_1 c, (h.add t).iff (fun t' => ⟨fun q => q.elim Or.inl (fun q => Or.inr ⟨z, q⟩), fun q => q.elim Or.inl (fun q => Or.inr q.2)⟩)⟩
theorem sp_gather4 {n c s : Nat} {nr : Nat → Nat} {gF gX gC : Nat → Int32} (wFo : Int32) (hn : n ≤ 6) (hc : c ≤ 4) (hs : s < 4 ^ n) (hF : FOk (4 ^ n) (okC n nr c) gF) (hos : okC n nr c s = true) :
    wp_X4_gather (nI (4 ^ n)) wFo (nI c) gF gX gC (nI n) (nI s) (fun z f _ => ∃ cn, cn ≤ 24 ∧ z = nI cn ∧ EnP cn f (fun t => 0 < eC n (okC n nr c) s t)) := by
  have hp := p4_6 hn
  unfold wp_X4_gather
  refine ⟨fun y z f _ => ∃ i cn, i ≤ n ∧ y = nI i ∧ cn ≤ 4 * i ∧ z = nI cn ∧ EnP cn f (fun t => ∃ k, k < i ∧ ∃ d, d < c ∧ t = chg s k d ∧ t ≠ s ∧ ¬ gF t = -2), fun y _ _ _ => n - y.toNatClampNeg, ⟨0, 0, by omega, rfl, by omega, rfl, ⟨fun i hi => absurd hi (by omega), fun t ⟨k, hk, _⟩ => absurd hk (by omega)⟩⟩, ?_⟩
  rintro y z f f0 ⟨i, cn, hi, rfl, hcn, rfl, hI⟩
  refine ⟨fun e => ?_, fun e => ?_⟩
  · have hin : i = n := by
      have := n_ge e (by omega) (by omega)
      omega
    subst hin
    refine ⟨cn, by omega, rfl, hI.iff (fun t => ?_)⟩
    rw [← nb_iff hc hs hos]
    constructor
    · rintro ⟨k, hk, d, hd, h1, h2, h3⟩
      have ht : t < 4 ^ i := by rw [h1]; exact chg_lt hs hk (by omega)
      exact ⟨ht, (hF.ok ht).1 h3, h2, k, hk, d, hd, h1⟩
    · rintro ⟨h1, h2, h3, k, hk, d, hd, h4⟩
      exact ⟨k, hk, d, hd, h4, h3, (hF.ok h1).2 h2⟩
  have hlt := n_lt e (by omega) (by omega)
  rw [q_without (by omega)]
  rintro x5 rfl
  refine ⟨fun y z f _ => ∃ j cn, j ≤ c ∧ y = nI j ∧ cn ≤ 4 * i + j ∧ z = nI cn ∧ EnP cn f (fun t => (∃ k, k < i ∧ ∃ d, d < c ∧ t = chg s k d ∧ t ≠ s ∧ ¬ gF t = -2) ∨ ∃ d, d < j ∧ t = chg s i d ∧ t ≠ s ∧ ¬ gF t = -2), fun y _ _ _ => c - y.toNatClampNeg, ⟨0, cn, by omega, rfl, by omega, rfl, hI.iff (fun t => ⟨Or.inl, fun q => q.elim id (fun ⟨d, hd, _⟩ => absurd hd (by omega))⟩)⟩, ?_⟩
  rintro y z f f0 ⟨j, cn2, hj, rfl, hcn2, rfl, hJ⟩
  refine ⟨fun e2 => ?_, fun e2 => ?_⟩
  · have hjc : j = c := by
      have := n_ge e2 (by omega) (by omega)
      omega
    subst hjc
    rintro x rfl
    refine ⟨⟨i + 1, cn2, by omega, q_1 i, by omega, rfl, hJ.iff (fun t => ⟨?_, ?_⟩)⟩, n_mu hlt (by omega)⟩
    · rintro (⟨k, hk, q⟩ | q)
      · exact ⟨k, by omega, q⟩
      · exact ⟨i, by omega, q⟩
    · rintro ⟨k, hk, q⟩
      rcases Nat.lt_or_ge k i with w | w
      · exact Or.inl ⟨k, w, q⟩
      · have ek : k = i := by omega
        subst ek
        exact Or.inr q
  have hlt2 := n_lt e2 (by omega) (by omega)
  rw [q_put (by omega) (by omega)]
  have hp4 : 4 ^ n ≤ 4096 := by omega
  have hcl : chg s i j < 4 ^ n := chg_lt hs hlt (by omega)
  rintro x11 rfl
  have eS : nI (dif s (3 * 4 ^ i) ||| j * 4 ^ i) = nI s ↔ chg s i j = s := q_eq (a := chg s i j) (by omega) (by omega)
  have skip : ¬ (chg s i j ≠ s ∧ ¬ gF (chg s i j) = -2) → ∀ x : Int32, x = nI j + 1 → (∃ j cn, j ≤ c ∧ x = nI j ∧ cn ≤ 4 * i + j ∧ nI cn2 = nI cn ∧ EnP cn f (fun t => (∃ k, k < i ∧ ∃ d, d < c ∧ t = chg s k d ∧ t ≠ s ∧ ¬ gF t = -2) ∨ ∃ d, d < j ∧ t = chg s i d ∧ t ≠ s ∧ ¬ gF t = -2)) ∧ c - x.toNatClampNeg < c - (nI j).toNatClampNeg := by
    rintro q x rfl
    refine ⟨⟨j + 1, cn2, by omega, q_1 j, by omega, rfl, hJ.iff (fun t => ⟨?_, ?_⟩)⟩, n_mu hlt2 (by omega)⟩
    · rintro (v | ⟨d, hd, v⟩)
      · exact Or.inl v
      · exact Or.inr ⟨d, by omega, v⟩
    · rintro (v | ⟨d, hd, v1, v2⟩)
      · exact Or.inl v
      · rcases Nat.lt_or_ge d j with w | w
        · exact Or.inr ⟨d, w, v1, v2⟩
        · have ed : d = j := by omega
          subst ed
          subst v1
          exact absurd v2 q
  refine ⟨fun e3 => skip (fun q => q.1 (eS.1 e3)), fun e3 => ⟨_, sp_offerP (t := chg s i j) hp4 (by omega) hcl hJ, ?_⟩⟩
  rintro z f' f1 ⟨c2, hc2, rfl, hE2⟩ x rfl
  refine ⟨⟨j + 1, c2, by omega, q_1 j, by omega, rfl, hE2.iff (fun t => ⟨?_, ?_⟩)⟩, n_mu hlt2 (by omega)⟩
  · rintro ((v | ⟨d, hd, v⟩) | ⟨e4, rfl⟩)
    · exact Or.inl v
    · exact Or.inr ⟨d, by omega, v⟩
    · exact Or.inr ⟨j, by omega, rfl, fun q => e3 (eS.2 q), e4⟩
  · rintro (v | ⟨d, hd, v1, v2, v3⟩)
    · exact Or.inl (Or.inl v)
    · rcases Nat.lt_or_ge d j with w | w
      · exact Or.inl (Or.inr ⟨d, w, v1, v2, v3⟩)
      · have ed : d = j := by omega
        subst ed
        subst v1
        exact Or.inr ⟨v3, rfl⟩
theorem sp_enterP {tl x : Nat} {F L : Nat → Int32} {v : Int32} (ht : tl < 4096) (hx : x < 4096) : wp_X5_enter_P (nI tl) F L (nI x) v (fun z f g => z = nI (tl + 1) ∧ f = upd F x v ∧ g = upd L tl (nI x)) := by
  unfold wp_X5_enter_P
  rw [q_cl (show x < 2 ^ 31 by omega), q_cl (show tl < 2 ^ 31 by omega)]
  refine ⟨fun c => ?_, fun c => ⟨q_in hx (by decide), ?_⟩⟩
  · have := n_ge (n := 4096) c (by decide) (by omega)
    omega
  · rintro f rfl
    refine ⟨q_in ht (by decide), ?_⟩
    rintro g rfl y rfl
    exact ⟨q_1 tl, rfl, rfl⟩
theorem sp_spreadP {n c o a : Nat} {nr : Nat → Nat} {F0 L0 : Nat → Int32} {X0 : Nat → Nat} (wFo p2 : Int32) (gX gC : Nat → Int32) (hn : n ≤ 6) (hc : c ≤ 4)
    (hF : FOk (4 ^ n) (okC n nr c) F0) (hL : LnS (4 ^ n) F0 L0 o X0) (ha : a < 4 ^ n) (hna : F0 a = -1)
    (hcl : ∀ y x, y < 4 ^ n → F0 y = -1 → 0 < eC n (okC n nr c) y x → F0 x = -1) (hg : p2 = -1 ∨ ∃ g, g < 4 ^ n ∧ p2 = nI g) :
    wp_X5_spread_P (nI (4 ^ n)) (nI o) wFo (nI c) F0 L0 gX gC (nI n) (nI a) p2 (fun z _ F Ln _ _ => ∃ hd tl X D, z = nI tl ∧ BfI (4 ^ n) o hd tl a (eC n (okC n nr c)) F0 L0 F Ln X D ∧ (hd = tl ∨ ∃ g, g < 4 ^ n ∧ p2 = nI g ∧ vis F g)) := by
  have hp := p4_6 hn
  have ho : o < 4 ^ n := hL.room ha (fun q => q.ne.1 hna)
  unfold wp_X5_spread_P
  refine ⟨_, sp_isStateP (by omega) ha, ?_⟩
  rintro r rfl
  refine ⟨fun d => absurd d (by decide), fun _ => ?_⟩
  rw [q_cl (show a < 2 ^ 31 by omega)]
  refine ⟨q_in (by omega) (by decide), fun t => t = 1, ⟨fun c => ?_, fun _ => rfl⟩, ?_⟩
  · rw [hna] at c
    exact absurd c (by decide)
  rintro t rfl
  refine ⟨_, sp_enterP (by omega) (by omega), ?_⟩
  rintro z F1 L1 ⟨rfl, rfl, rfl⟩
  refine ⟨fun y z _ F Ln _ _ => ∃ hd tl X D, y = nI hd ∧ z = nI tl ∧ BfI (4 ^ n) o hd tl a (eC n (okC n nr c)) F0 L0 F Ln X D, fun y _ _ _ _ _ _ => 4096 - y.toNatClampNeg, ⟨o, o + 1, _, _, rfl, rfl, BfI.start hL ha hna⟩, ?_⟩
  rintro y z z2 F Ln f13 f14 ⟨hd, tl, X, D, rfl, rfl, hB⟩
  have htl := hB.tl_le
  have hhd := hB.1.2.1
  refine ⟨fun c => absurd c (by decide), fun _ => ⟨fun c => ⟨hd, tl, X, D, rfl, hB, Or.inl ?_⟩, fun c1 => ?_⟩⟩
  · have := n_ge c (by omega) (by omega)
    omega
  have hlt := n_lt c1 (by omega) (by omega)
  refine ⟨fun c2 => ?_, fun c2 => ⟨_, sp_goalP hg, fun r hr => ⟨True, ⟨fun _ => trivial, fun c3 => ?_⟩, fun _ => ?_⟩⟩⟩
  · have := n_ge (n := 4096) c2 (by decide) (by omega)
    omega
  · obtain ⟨g, hg1, rfl⟩ := hr.resolve_left c3
    rw [q_cl (show g < 2 ^ 31 by omega)]
    refine ⟨q_in (by omega) (by decide), fun _ => trivial, fun c4 => ⟨hd, tl, X, D, rfl, hB, Or.inr ⟨g, hg1, rfl, ?_⟩⟩⟩
    rcases (hB.fok hF) g hg1 with ⟨q, -⟩ | ⟨q, -⟩ | ⟨q, -⟩
    · rw [q] at c4; exact absurd (by decide) c4
    · rw [q] at c4; exact absurd (by decide) c4
    · exact q
  obtain ⟨hX1, hX2, hX3⟩ := hB.2.2.2.2.2.2.2.1 hd hlt
  obtain ⟨g1, g2, g3, g4⟩ := hB.2.1 hd hB.1.1 hlt
  refine ⟨q_in (by omega) (by decide), ?_⟩
  rw [q_cl (show hd < 2 ^ 31 by omega), hX2]
  rintro x rfl
  have hst : okC n nr c (X hd) = true := hF.new hX1 g1
  refine ⟨_, sp_gather4 z2 hn hc hX1 (hB.fok hF) hst, ?_⟩
  rintro z3 f23 f24 ⟨cn, hcn, rfl, hEnt⟩
  generalize hs : X hd = s at *
  generalize hdd : D hd = d at *
  refine ⟨fun y z F Ln => ∃ i tl X D, y = nI i ∧ i ≤ cn ∧ z = nI tl ∧ BfI (4 ^ n) o hd tl a (eC n (okC n nr c)) F0 L0 F Ln X D ∧ hd < tl ∧ X hd = s ∧ D hd = d ∧ ∀ i', i' < i → ∀ t, t < 4 ^ n → f23 i' = nI t → ∃ j, o ≤ j ∧ j < tl ∧ X j = t ∧ D j ≤ d + 1, fun y _ _ _ => 24 - y.toNatClampNeg, ⟨0, tl, X, D, rfl, by omega, rfl, hB, hlt, hs, hdd, fun i' hi' => absurd hi' (by omega)⟩, ?_⟩
  rintro y z F2 Ln2 ⟨i, tl2, X2, D2, rfl, hi, rfl, hB2, hlt2, hs2, hd2, hI⟩
  have htl2 := hB2.tl_le
  refine ⟨fun c5 => ?_, fun c5 => ?_⟩
  · rintro x rfl
    have hic : i = cn := by
      have := n_ge c5 (by omega) (by omega)
      omega
    subst hic
    refine ⟨⟨hd + 1, tl2, X2, D2, q_1 hd, rfl, hB2.next hlt2 (fun x hx => ?_)⟩, n_mu (by omega) (by decide)⟩
    rw [hs2] at hx
    obtain ⟨i', hi', e1'⟩ := hEnt.2 x hx
    rw [hd2]
    exact hI i' hi' x (eC_pos.1 hx).1.2.1 e1'
  · have hic := n_lt c5 (by omega) (by omega)
    obtain ⟨t, hpos, e1'⟩ := hEnt.1 i hic
    have t1 := (eC_pos.1 hpos).1.2.1
    rw [q_cl (show i < 2 ^ 31 by omega), e1', q_cl (show t < 2 ^ 31 by omega)]
    refine ⟨q_in (by omega) (by decide), q_in (by omega) (by decide), fun c6 => ?_, fun c6 => ?_⟩
    · obtain ⟨r1, hB3⟩ := hB2.push hlt2 (by omega) t1 c6 (by rw [hs2]; exact eC_one hpos)
      obtain ⟨k1, k2, k3, k4⟩ := hB2.2.1 hd hB2.1.1 hlt2
      rw [q_cl (show s < 2 ^ 31 by omega)]
      rw [hs2, hd2] at k2
      rw [hd2] at hB3 k3
      have k5 : F2 s + (1 : Int32) = nI (d + 1) := by rw [k2]; exact q_1 d
      rw [k5]
      refine ⟨q_in (by omega) (by decide), q_in (by omega) (by decide), _, sp_enterP (by omega) (by omega), ?_⟩
      rintro z F3 L3 ⟨rfl, rfl, rfl⟩ x rfl
      refine ⟨⟨i + 1, tl2 + 1, _, _, q_1 i, by omega, rfl, hB3, by omega, by simp only [if_neg (show hd ≠ tl2 by omega)]; exact hs2, by simp only [if_neg (show hd ≠ tl2 by omega)]; exact hd2, fun i' hi' t' ht' e3 => ?_⟩, n_mu (by omega) (by decide)⟩
      rcases Nat.lt_or_ge i' i with v | v
      · obtain ⟨j, j1, j2, j3, j4⟩ := hI i' v t' ht' e3
        exact ⟨j, j1, by omega, by simp only [if_neg (show j ≠ tl2 by omega)]; exact j3, by simp only [if_neg (show j ≠ tl2 by omega)]; exact j4⟩
      · have ei : i' = i := by omega
        subst ei
        have et := (q_eq (by omega) (by omega)).1 (e1'.symm.trans e3)
        subst et
        exact ⟨tl2, by omega, by omega, by simp, by simp⟩
    · rintro x rfl
      refine ⟨⟨i + 1, tl2, X2, D2, q_1 i, by omega, rfl, hB2, hlt2, hs2, hd2, fun i' hi' t' ht' e3 => ?_⟩, n_mu (by omega) (by decide)⟩
      rcases Nat.lt_or_ge i' i with v | v
      · exact hI i' v t' ht' e3
      · have ei : i' = i := by omega
        subst ei
        have et := (q_eq (by omega) (by omega)).1 (e1'.symm.trans e3)
        subst et
        have hne : F0 t = -1 := hcl s t hX1 g1 hpos
        rcases hB2.F t t1 with ⟨j, j1, j2, j3, -, -⟩ | q
        · have := hB2.2.2.2.2.1 hlt2 j j1 j2
          rw [hd2] at this
          exact ⟨j, j1, j2, j3, this⟩
        · rw [q, hne] at c6
          exact absurd rfl c6
theorem Fr.clE {sz : Nat} {ok : Nat → Bool} {e : Nat → Nat → Nat} {F : Nat → Int32} (h : Fr sz ok F) (he : Eg sz ok e) : ∀ y x, y < sz → F y = -1 → 0 < e y x → F x = -1 := fun y x _ _ q => by
  obtain ⟨-, h1, -, h2⟩ := he.2 y x q
  exact (h.new h1).2 h2
theorem Few_intro {sz s t hd tl : Nat} {e : Nat → Nat → Nat} {F L F' L' : Nat → Int32} {X D : Nat → Nat} (hsz : sz < 2 ^ 30) (hs : s < sz) (hne : s ≠ t) (hsn : F s = -1) (hB : BfI sz 0 hd tl t e F L F' L' X D) (hend : hd = tl ∨ vis F' s) : (F' s = -1 → AnsD e s t (-9)) ∧ (¬ F' s = -1 → AnsD e s t (F' s)) := by
  constructor
  · intro v
    rcases hend with rfl | hv
    · exact Or.inr ⟨hB.noway v, rfl⟩
    · exact absurd v hv.ne.1
  · intro v
    obtain ⟨d9, d1, d3, d4, d5⟩ := hB.goal hsz hs hsn v
    exact Or.inl ⟨d9, d1, d3, d4⟩
theorem sp_fewestP {n c s t : Nat} {nr : Nat → Nat} {F L : Nat → Int32} (wFo : Int32) (gX gC : Nat → Int32) (hn : n ≤ 6) (hc : c ≤ 4) (hF : Fr (4 ^ n) (okC n nr c) F) (hs : s < 4 ^ n) (ht : t < 4 ^ n) :
    wp_X5_fewest_P (nI (4 ^ n)) 0 wFo (nI c) F L gX gC (nI n) (nI s) (nI t) (fun r _ _ _ _ _ _ => AnsD (eC n (okC n nr c)) s t r) := by
  have hp := p4_6 hn
  have he := Eg_eC n (okC n nr c)
  have hst : nI s = nI t ↔ s = t := q_eq (by omega) (by omega)
  unfold wp_X5_fewest_P
  rw [q_cl (show s < 2 ^ 31 by omega), q_cl (show t < 2 ^ 31 by omega)]
  refine ⟨fun c => ?_, fun c => ⟨_, sp_isStateP (by omega) hs, fun r hr => ⟨fun d => absurd (hr.symm.trans d) (by decide), fun _ => ⟨_, sp_isStateP (by omega) ht, fun r2 hr2 => ⟨fun d => absurd (hr2.symm.trans d) (by decide), fun _ => ⟨q_in (by omega) (by decide), fun d => Or.inr ⟨?_, rfl⟩, fun d => ⟨q_in (by omega) (by decide), fun d2 => Or.inr ⟨?_, rfl⟩, fun d2 => ?_⟩⟩⟩⟩⟩⟩⟩
  · have := hst.1 c
    subst this
    exact Or.inl ⟨0, by decide, ⟨⟨0, rfl, rfl⟩, fun _ _ _ => Nat.zero_le _⟩, rfl⟩
  · intro q
    rcases he.last q with e | ⟨-, e, -⟩
    · exact c (hst.2 e)
    · rw [hF s hs, if_pos e] at d
      exact absurd d (by decide)
  · intro q
    rcases he.last q with e | ⟨-, -, -, e⟩
    · exact c (hst.2 e)
    · rw [hF t ht, if_pos e] at d2
      exact absurd d2 (by decide)
  · have hsn : F s = -1 := (hF.new hs).2 ((hF.fok.ok hs).1 d)
    have htn : F t = -1 := (hF.new ht).2 ((hF.fok.ok ht).1 d2)
    refine ⟨_, sp_spreadP (o := 0) wFo (nI s) gX gC hn hc hF.fok (hF.ls L) ht htn (hF.clE he) (Or.inr ⟨s, hs, rfl⟩), ?_⟩
    rintro z z2 F' L' f10 f11 ⟨hd, tl, X, D, rfl, hB, hend⟩
    have hend2 : hd = tl ∨ vis F' s := by
      rcases hend with q | ⟨g, hg, e, hv⟩
      · exact Or.inl q
      · have := (q_eq (by omega) (by omega)).1 e
        subst this
        exact Or.inr hv
    have key := Few_intro (by omega) hs (fun q => c (hst.2 q)) hsn hB hend2
    exact ⟨q_in (by omega) (by decide), fun v => key.1 v, fun v => ⟨q_in (by omega) (by decide), key.2 v⟩⟩
theorem sp_componentsP {n c : Nat} {nr : Nat → Nat} {F L : Nat → Int32} (wFo : Int32) (gX gC : Nat → Int32) (hn : n ≤ 6) (hc : c ≤ 4) (hF : Fr (4 ^ n) (okC n nr c) F) :
    wp_X5_components_P (nI (4 ^ n)) 0 wFo (nI c) F L gX gC (nI n) (fun r _ _ _ _ _ _ => AnsP (4 ^ n) (okC n nr c) (eC n (okC n nr c)) r) := by
  have hp := p4_6 hn
  have he := Eg_eC n (okC n nr c)
  unfold wp_X5_components_P
  refine ⟨fun b y z _ F' L' _ _ => ∃ i tl, i ≤ 4 ^ n ∧ y = nI i ∧ z = nI tl ∧ b = nI (ctB (fun s => okB (lead (okC n nr c) (eC n (okC n nr c)) s)) i) ∧ CpI (4 ^ n) (okC n nr c) (eC n (okC n nr c)) i F' L' tl, fun _ y _ _ _ _ _ _ => 4 ^ n - y.toNatClampNeg, ⟨0, 0, Nat.zero_le _, rfl, rfl, rfl, CpI.start hF L⟩, ?_⟩
  rintro b y z z2 F' L' f3 f4 ⟨i, tl, hi, rfl, rfl, rfl, hI⟩
  refine ⟨fun c => ?_, fun c => ?_⟩
  · have hic : i = 4 ^ n := by
      have := n_ge c (by omega) (by omega)
      omega
    unfold AnsP
    rw [← hic]
  · have hlt := n_lt c (by omega) (by omega)
    rw [q_cl (show i < 2 ^ 31 by omega)]
    refine ⟨q_in (by omega) (by decide), fun d => ?_, fun d => ?_⟩
    · obtain ⟨X, hX⟩ := hI.2.1
      refine ⟨_, sp_spreadP z2 (-1) f3 f4 hn hc hI.1 hX hlt d (hI.cl he) (Or.inl rfl), ?_⟩
      rintro z3 z4 F2 L2 f5 f6 ⟨hd, tl2, X2, D2, rfl, hB, hend⟩ x rfl x2 rfl
      have hdt : hd = tl2 := by
        rcases hend with q | ⟨g, hg, q, -⟩
        · exact q
        · exact absurd q.symm (q_neg g (by omega)).1
      subst hdt
      refine ⟨⟨i + 1, hd, by omega, q_1 i, rfl, ?_, hI.step hlt d hB⟩, n_mu hlt (by omega)⟩
      rw [q_1, ctB_yes (okB_iff.2 ((hI.lead hlt).1 d))]
    · rintro x rfl
      refine ⟨⟨i + 1, tl, by omega, q_1 i, rfl, ?_, hI.skip hlt d⟩, n_mu hlt (by omega)⟩
      rw [ctB_no (fun q => d ((hI.lead hlt).2 (okB_iff.1 q)))]
theorem sp_many {n : Nat} {ok : Nat → Bool} {F : Nat → Int32} (hn : n ≤ 6) (hF : Fr (4 ^ n) ok F) : wp_X4_many (nI (4 ^ n)) F (fun r => r = nI (ctB ok (4 ^ n))) := by
  have hp := p4_6 hn
  unfold wp_X4_many
  refine ⟨fun b y => ∃ i, i ≤ 4 ^ n ∧ y = nI i ∧ b = nI (ctB ok i), fun _ y => 4 ^ n - y.toNatClampNeg, ⟨0, Nat.zero_le _, rfl, rfl⟩, ?_⟩
  rintro b y ⟨i, hi, rfl, rfl⟩
  refine ⟨fun c => ?_, fun c => ?_⟩
  · have hic : i = 4 ^ n := by
      have := n_ge c (by omega) (by omega)
      omega
    rw [hic]
  · have hlt := n_lt c (by omega) (by omega)
    rw [q_cl (show i < 2 ^ 31 by omega)]
    refine ⟨q_in (by omega) (by decide), fun d => ?_, fun d => ?_⟩
    · rintro x rfl
      exact ⟨⟨i + 1, by omega, q_1 i, by rw [ctB_no (fun q => (hF.fok.ok hlt).2 q d)]⟩, n_mu hlt (by omega)⟩
    · rintro x rfl x2 rfl
      exact ⟨⟨i + 1, by omega, q_1 i, by rw [q_1, ctB_yes ((hF.fok.ok hlt).1 d)]⟩, n_mu hlt (by omega)⟩
/-- a colouring that can't be changed -/
noncomputable def stk (ok : Nat → Bool) (e : Nat → Nat → Nat) : Nat → Bool := fun v => okB (ok v = true ∧ ∀ x, ¬ 0 < e v x)
theorem sp_stuck {n c : Nat} {nr : Nat → Nat} {F : Nat → Int32} (wFo : Int32) (gX gC : Nat → Int32) (hn : n ≤ 6) (hc : c ≤ 4) (hF : Fr (4 ^ n) (okC n nr c) F) :
    wp_X4_stuck (nI (4 ^ n)) wFo (nI c) F gX gC (nI n) (fun r _ _ _ => r = nI (ctB (stk (okC n nr c) (eC n (okC n nr c))) (4 ^ n))) := by
  have hp := p4_6 hn
  unfold wp_X4_stuck
  refine ⟨fun b y _ _ _ => ∃ i, i ≤ 4 ^ n ∧ y = nI i ∧ b = nI (ctB (stk (okC n nr c) (eC n (okC n nr c))) i), fun _ y _ _ _ => 4 ^ n - y.toNatClampNeg, ⟨0, Nat.zero_le _, rfl, rfl⟩, ?_⟩
  rintro b y z f f0 ⟨i, hi, rfl, rfl⟩
  refine ⟨fun c => ?_, fun c => ?_⟩
  · have hic : i = 4 ^ n := by
      have := n_ge c (by omega) (by omega)
      omega
    rw [hic]
  · have hlt := n_lt c (by omega) (by omega)
    rw [q_cl (show i < 2 ^ 31 by omega)]
    refine ⟨q_in (by omega) (by decide), fun d => ?_, fun d => ?_⟩
    · rintro x rfl
      exact ⟨⟨i + 1, by omega, q_1 i, by rw [ctB_no (fun q => (hF.fok.ok hlt).2 (okB_iff.1 q).1 d)]⟩, n_mu hlt (by omega)⟩
    · have hoki := (hF.fok.ok hlt).1 d
      refine ⟨_, sp_gather4 z hn hc hlt hF.fok hoki, ?_⟩
      rintro z2 f2 f3 ⟨cn, hcn, rfl, hE⟩
      have e0 : nI cn = 0 ↔ cn = 0 := q_eq0 (by omega)
      refine ⟨fun d2 => ?_, fun d2 => ?_⟩
      · rintro x rfl x2 rfl
        have hz := e0.1 d2
        refine ⟨⟨i + 1, by omega, q_1 i, ?_⟩, n_mu hlt (by omega)⟩
        rw [q_1, ctB_yes]
        refine okB_iff.2 ⟨hoki, fun x hx => ?_⟩
        obtain ⟨j, hj, -⟩ := hE.2 x hx
        omega
      · rintro x rfl x2 rfl
        have hz : ¬ cn = 0 := fun q => d2 (e0.2 q)
        refine ⟨⟨i + 1, by omega, q_1 i, ?_⟩, n_mu hlt (by omega)⟩
        rw [ctB_no, Int32.add_zero]
        intro q
        obtain ⟨t, ht, -⟩ := hE.1 0 (by omega)
        exact (okB_iff.1 q).2 t ht
theorem sp_begin4 {n c : Nat} {nr : Nat → Nat} {fN : Nat → Int32} (wSz wTl wCo : Int32) (gF : Nat → Int32) (h : NetOk n nr) (hf : isN fN nr) (hn : n ≤ 6) (hc : c ≤ 4) :
    wp_X4_begin wSz wTl wCo gF (nI n) fN (nI c) (fun sz tl co F => sz = nI (4 ^ n) ∧ tl = 0 ∧ co = nI c ∧ Fr (4 ^ n) (okC n nr c) F) := by
  have hp := p4_6 hn
  unfold wp_X4_begin
  have hno : ¬ (4096 : Int32) < nI (4 ^ n) := fun q => absurd ((q_lt (a := 4096) (by decide) (by omega)).1 q) (by omega)
  rw [q_4n hn, if_neg hno]
  rintro x1 rfl
  refine ⟨fun y F => ∃ i, i ≤ 4 ^ n ∧ y = nI i ∧ Fr i (okC n nr c) F, fun y _ => 4 ^ n - y.toNatClampNeg, ⟨0, Nat.zero_le _, rfl, fun x hx => absurd hx (by omega)⟩, ?_⟩
  rintro y F ⟨i, hi, rfl, hI⟩
  refine ⟨fun e => ⟨rfl, rfl, rfl, ?_⟩, fun e => ?_⟩
  · have hic : i = 4 ^ n := by
      have := n_ge e (by omega) (by omega)
      omega
    rw [← hic]
    exact hI
  · have hlt := n_lt e (by omega) (by omega)
    have stp : ∀ v : Int32, v = (if okC n nr c i = true then -1 else -2) → vp_in (nI i) 4096 ∧ ∀ F' : Nat → Int32, F' = upd F (nI i).toNatClampNeg v → ∀ x : Int32, x = nI i + 1 → (∃ i, i ≤ 4 ^ n ∧ x = nI i ∧ Fr i (okC n nr c) F') ∧ 4 ^ n - x.toNatClampNeg < 4 ^ n - (nI i).toNatClampNeg := by
      rintro v rfl
      refine ⟨q_in (by omega) (by decide), ?_⟩
      rw [q_cl (show i < 2 ^ 31 by omega)]
      rintro F' rfl x rfl
      refine ⟨⟨i + 1, by omega, q_1 i, fun x hx => ?_⟩, by rw [q_1, q_cl (by omega)]; omega⟩
      by_cases z : x = i
      · subst z
        exact upd_s
      · rw [upd_n z]
        exact hI x (by omega)
    refine ⟨_, sp_isLawful4 h hf hn hc (nI i), fun r hr => ⟨fun d => stp (-2) ?_, fun d => stp (-1) ?_⟩⟩
    · rw [if_neg]
      intro q
      exact hr.f d ⟨i, rfl, okB_iff.1 q⟩
    · rw [if_pos]
      obtain ⟨v, h1, h2⟩ := hr.t d
      have := h2.1.1
      have e9 := (q_eq (by omega) (by omega)).1 h1
      subst e9
      exact okB_iff.2 h2
