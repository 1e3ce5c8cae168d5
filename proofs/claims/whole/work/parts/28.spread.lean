/-! THE SEARCH THROUGH SETS: spread -/
theorem Wd_sym {n : Nat} {nr : Nat → Nat} (h : NetOk n nr) (mv a b : Nat) : Wd nr mv a b = Wd nr mv b a := by
  unfold Wd
  rw [h.sym a.log2 b.log2, Nat.add_comm (pc a) (pc b)]
  by_cases c : pc a = 1 ∧ pc b = 1
  · rw [if_pos c, if_pos (show pc b = 1 ∧ pc a = 1 from ⟨c.2, c.1⟩)]
  · rw [if_neg c, if_neg (show ¬ (pc b = 1 ∧ pc a = 1) from fun q => c ⟨q.2, q.1⟩)]
theorem Wt_sym {n : Nat} {nr : Nat → Nat} (h : NetOk n nr) (mv s t : Nat) : Wt nr mv s t = Wt nr mv t s := Wd_sym h mv _ _
/-- the weights of the moves between those sets that may be -/
def ew (sz : Nat) (ok : Nat → Bool) (nr : Nat → Nat) (mv y x : Nat) : Nat := if y < sz ∧ x < sz ∧ ok y = true ∧ ok x = true then Wt nr mv y x else 0
theorem ew_pos {sz : Nat} {ok : Nat → Bool} {nr : Nat → Nat} {mv y x : Nat} : 0 < ew sz ok nr mv y x ↔ (y < sz ∧ x < sz ∧ ok y = true ∧ ok x = true) ∧ 0 < Wt nr mv y x := by
  unfold ew
  by_cases c : y < sz ∧ x < sz ∧ ok y = true ∧ ok x = true
  · rw [if_pos c]
    exact ⟨fun q => ⟨c, q⟩, fun q => q.2⟩
  · rw [if_neg c]
    exact ⟨fun q => absurd q (by omega), fun q => absurd q.1 c⟩
theorem ew_sym {n : Nat} {nr : Nat → Nat} (h : NetOk n nr) (sz : Nat) (ok : Nat → Bool) (mv y x : Nat) : ew sz ok nr mv y x = ew sz ok nr mv x y := by
  unfold ew
  rw [Wt_sym h mv y x]
  by_cases c : y < sz ∧ x < sz ∧ ok y = true ∧ ok x = true
  · rw [if_pos c, if_pos ⟨c.2.1, c.1, c.2.2.2, c.2.2.1⟩]
  · rw [if_neg c, if_neg (fun q => c ⟨q.2.1, q.1, q.2.2.2, q.2.2.1⟩)]
theorem sp_enterM {tl x : Nat} {F L : Nat → Int32} {v : Int32} (ht : tl < 512) (hx : x < 512) : wp_X5_enter_M (nI tl) F L (nI x) v (fun z f g => z = nI (tl + 1) ∧ f = upd F x v ∧ g = upd L tl (nI x)) := by
  unfold wp_X5_enter_M
  rw [q_cl (show x < 2 ^ 31 by omega), q_cl (show tl < 2 ^ 31 by omega)]
  refine ⟨fun c => ?_, fun c => ⟨q_in hx (by decide), ?_⟩⟩
  · have := n_ge (n := 512) c (by decide) (by omega)
    omega
  · rintro f rfl
    refine ⟨q_in ht (by decide), ?_⟩
    rintro g rfl y rfl
    exact ⟨q_1 tl, rfl, rfl⟩
/-- a row far tells of each state: not allowed, new, or come to -/
def FOk (sz : Nat) (ok : Nat → Bool) (F : Nat → Int32) : Prop := ∀ x, x < sz → (F x = -2 ∧ ok x = false) ∨ (F x = -1 ∧ ok x = true) ∨ (vis F x ∧ ok x = true)
theorem FOk.ok {sz : Nat} {ok : Nat → Bool} {F : Nat → Int32} (h : FOk sz ok F) {x : Nat} (hx : x < sz) : ¬ F x = -2 ↔ ok x = true := by
  rcases h x hx with ⟨a, b⟩ | ⟨a, b⟩ | ⟨a, b⟩
  · rw [a, b]; simp
  · rw [a, b]; exact ⟨fun _ => rfl, fun _ => by decide⟩
  · rw [b]; exact ⟨fun _ => rfl, fun _ => a.ne.2⟩
theorem FOk.new {sz : Nat} {ok : Nat → Bool} {F : Nat → Int32} (h : FOk sz ok F) {x : Nat} (hx : x < sz) (hn : F x = -1) : ok x = true := (h.ok hx).1 (by rw [hn]; decide)
theorem BfI.F {sz o hd tl a : Nat} {e : Nat → Nat → Nat} {F0 L0 F Ln : Nat → Int32} {X D : Nat → Nat} (h : BfI sz o hd tl a e F0 L0 F Ln X D) (x : Nat) (hx : x < sz) : (∃ j, o ≤ j ∧ j < tl ∧ X j = x ∧ F0 x = -1 ∧ F x = nI (D j)) ∨ F x = F0 x := by
  rcases Classical.em (∃ j, o ≤ j ∧ j < tl ∧ X j = x) with ⟨j, h1, h2, rfl⟩ | c
  · exact Or.inl ⟨j, h1, h2, rfl, (h.2.1 j h1 h2).1, (h.2.1 j h1 h2).2.1⟩
  · exact Or.inr (h.2.2.2.1 x hx (fun i h1 h2 q => c ⟨i, h1, h2, q⟩))
theorem BfI.tl_le {sz o hd tl a : Nat} {e : Nat → Nat → Nat} {F0 L0 F Ln : Nat → Int32} {X D : Nat → Nat} (h : BfI sz o hd tl a e F0 L0 F Ln X D) : tl ≤ sz := h.2.2.2.2.2.2.2.le
theorem BfI.fok {sz o hd tl a : Nat} {ok : Nat → Bool} {e : Nat → Nat → Nat} {F0 L0 F Ln : Nat → Int32} {X D : Nat → Nat} (h : BfI sz o hd tl a e F0 L0 F Ln X D) (h0 : FOk sz ok F0) : FOk sz ok F := by
  intro x hx
  rcases h.F x hx with ⟨j, h1, h2, rfl, h3, h4⟩ | q
  · right; right
    exact ⟨(h.2.2.2.2.2.2.2.1 j h2).2.2, h0.new hx h3⟩
  · unfold vis
    rw [q]
    exact h0 x hx
theorem sp_goalM {sz : Nat} {p2 : Int32} (hg : p2 = -1 ∨ ∃ g, g < sz ∧ p2 = nI g) : wp_X5_isState_M (nI sz) p2 (fun r => r = 0 ∨ ∃ g, g < sz ∧ p2 = nI g) := by
  unfold wp_X5_isState_M
  rcases hg with rfl | hg
  · exact ⟨fun _ => Or.inl rfl, fun d => absurd (by decide) d⟩
  · exact ⟨fun _ => Or.inl rfl, fun _ => ⟨fun _ => Or.inl rfl, fun _ => ⟨fun _ => Or.inl rfl, fun _ => Or.inr hg⟩⟩⟩
theorem sp_spreadM {n mv o a : Nat} {nr : Nat → Nat} {fN F0 L0 : Nat → Int32} {X0 : Nat → Nat} (vFo p2 : Int32) (fX fC : Nat → Int32) {ok : Nat → Bool} (h : NetOk n nr) (hf : isN fN nr) (hm : mv ≤ 2)
    (hF : FOk (2 ^ n) ok F0) (hL : LnS (2 ^ n) F0 L0 o X0) (ha : a < 2 ^ n) (hna : F0 a = -1)
    (hcl : ∀ y x, y < 2 ^ n → F0 y = -1 → 0 < ew (2 ^ n) ok nr mv y x → F0 x = -1) (hg : p2 = -1 ∨ ∃ g, g < 2 ^ n ∧ p2 = nI g) :
    wp_X5_spread_M (nI (2 ^ n)) (nI o) vFo (nI mv) F0 L0 fX fC (nI n) fN (nI a) p2 (fun z _ F Ln _ _ => ∃ hd tl X D, z = nI tl ∧ BfI (2 ^ n) o hd tl a (e1 (ew (2 ^ n) ok nr mv)) F0 L0 F Ln X D ∧ (hd = tl ∨ ∃ g, g < 2 ^ n ∧ p2 = nI g ∧ vis F g)) := by
  have hn := h.2.1
  have hp := p2_9 hn
  have ho : o < 2 ^ n := hL.room ha (fun q => q.ne.1 hna)
  unfold wp_X5_spread_M
  refine ⟨_, sp_isStateM hp ha, ?_⟩
  rintro r rfl
  refine ⟨fun d => absurd d (by decide), fun _ => ?_⟩
  rw [q_cl (show a < 2 ^ 31 by omega)]
  refine ⟨q_in (by omega) (by decide), fun t => t = 1, ⟨fun c => ?_, fun _ => rfl⟩, ?_⟩
  · rw [hna] at c
    exact absurd c (by decide)
  rintro t rfl
  refine ⟨_, sp_enterM (by omega) (by omega), ?_⟩
  rintro z F1 L1 ⟨rfl, rfl, rfl⟩
  refine ⟨fun y z _ F Ln _ _ => ∃ hd tl X D, y = nI hd ∧ z = nI tl ∧ BfI (2 ^ n) o hd tl a (e1 (ew (2 ^ n) ok nr mv)) F0 L0 F Ln X D, fun y _ _ _ _ _ _ => 512 - y.toNatClampNeg, ⟨o, o + 1, _, _, rfl, rfl, BfI.start hL ha hna⟩, ?_⟩
  rintro y z z2 F Ln f13 f14 ⟨hd, tl, X, D, rfl, rfl, hB⟩
  have htl := hB.tl_le
  have hhd := hB.1.2.1
  refine ⟨fun c => absurd c (by decide), fun _ => ⟨fun c => ⟨hd, tl, X, D, rfl, hB, Or.inl ?_⟩, fun c => ?_⟩⟩
  · have := n_ge c (by omega) (by omega)
    omega
  have hlt := n_lt c (by omega) (by omega)
  refine ⟨fun c2 => ?_, fun c2 => ⟨_, sp_goalM hg, fun r hr => ⟨True, ⟨fun _ => trivial, fun c3 => ?_⟩, fun _ => ?_⟩⟩⟩
  · have := n_ge (n := 512) c2 (by decide) (by omega)
    omega
  · obtain ⟨g, hg1, rfl⟩ := hr.resolve_left c3
    rw [q_cl (show g < 2 ^ 31 by omega)]
    refine ⟨q_in (by omega) (by decide), fun _ => trivial, fun c4 => ⟨hd, tl, X, D, rfl, hB, Or.inr ⟨g, hg1, rfl, ?_⟩⟩⟩
    rcases (hB.fok hF) g hg1 with ⟨q, -⟩ | ⟨q, -⟩ | ⟨q, -⟩
    · rw [q] at c4; exact absurd (by decide) c4
    · rw [q] at c4; exact absurd (by decide) c4
    · exact q
  -- the head's state, its label
  obtain ⟨hX1, hX2, hX3⟩ := hB.2.2.2.2.2.2.2.1 hd hlt
  obtain ⟨g1, g2, g3, g4⟩ := hB.2.1 hd hB.1.1 hlt
  refine ⟨q_in (by omega) (by decide), ?_⟩
  rw [q_cl (show hd < 2 ^ 31 by omega), hX2]
  rintro x rfl
  refine ⟨_, sp_gather z2 h hf hm hX1, ?_⟩
  rintro z3 f24 f25 ⟨cn, hcn, rfl, hEnt⟩
  have hst : ok (X hd) = true := hF.new hX1 g1
  have okF : ∀ x, x < 2 ^ n → (¬ F x = -2 ↔ ok x = true) := fun x hx => (hB.fok hF).ok hx
  generalize hs : X hd = s at *
  generalize hdd : D hd = d at *
  refine ⟨fun y z F Ln => ∃ i tl X D, y = nI i ∧ i ≤ cn ∧ z = nI tl ∧ BfI (2 ^ n) o hd tl a (e1 (ew (2 ^ n) ok nr mv)) F0 L0 F Ln X D ∧ hd < tl ∧ X hd = s ∧ D hd = d ∧ ∀ i', i' < i → ∀ t, t < 2 ^ n → f24 i' = nI t → ∃ j, o ≤ j ∧ j < tl ∧ X j = t ∧ D j ≤ d + 1, fun y _ _ _ => 81 - y.toNatClampNeg, ⟨0, tl, X, D, rfl, by omega, rfl, hB, hlt, hs, hdd, fun i' hi' => absurd hi' (by omega)⟩, ?_⟩
  rintro y z F2 Ln2 ⟨i, tl2, X2, D2, rfl, hi, rfl, hB2, hlt2, hs2, hd2, hI⟩
  have htl2 := hB2.tl_le
  refine ⟨fun c5 => ?_, fun c5 => ?_⟩
  · rintro x rfl
    have hic : i = cn := by
      have := n_ge c5 (by omega) (by omega)
      omega
    subst hic
    refine ⟨⟨hd + 1, tl2, X2, D2, q_1 hd, rfl, hB2.next hlt2 (fun x hx => ?_)⟩, n_mu (by omega) (by decide)⟩
    rw [hs2] at hx
    obtain ⟨⟨q1, q2, q3, q4⟩, q5⟩ := ew_pos.1 (e1_pos.1 hx)
    obtain ⟨i', hi', e1', -⟩ := hEnt.2 x _ ⟨q2, (okF x q2).2 q4, rfl, q5⟩
    rw [hd2]
    exact hI i' hi' x q2 e1'
  · have hic := n_lt c5 (by omega) (by omega)
    obtain ⟨t, w, ⟨t1, t2, t3, t4⟩, e1', e2'⟩ := hEnt.1 i hic
    rw [q_cl (show i < 2 ^ 31 by omega), e1', q_cl (show t < 2 ^ 31 by omega)]
    have hpos : 0 < ew (2 ^ n) ok nr mv s t := ew_pos.2 ⟨⟨hX1, t1, hst, (okF t t1).1 t2⟩, by omega⟩
    refine ⟨q_in (by omega) (by decide), q_in (by omega) (by decide), fun c6 => ?_, fun c6 => ?_⟩
    · obtain ⟨r1, hB3⟩ := hB2.push hlt2 (by omega) t1 c6 (by rw [hs2]; exact e1_one hpos)
      obtain ⟨k1, k2, k3, k4⟩ := hB2.2.1 hd hB2.1.1 hlt2
      rw [q_cl (show s < 2 ^ 31 by omega)]
      rw [hs2, hd2] at k2
      rw [hd2] at hB3 k3
      have k5 : F2 s + (1 : Int32) = nI (d + 1) := by rw [k2]; exact q_1 d
      rw [k5]
      refine ⟨q_in (by omega) (by decide), q_in (by omega) (by decide), _, sp_enterM (by omega) (by omega), ?_⟩
      rintro z F3 L3 ⟨rfl, rfl, rfl⟩ x rfl
      refine ⟨⟨i + 1, tl2 + 1, _, _, q_1 i, by omega, rfl, hB3, by omega, by simp only [if_neg (show hd ≠ tl2 by omega)]; exact hs2, by simp only [if_neg (show hd ≠ tl2 by omega)]; exact hd2, fun i' hi' t' ht' e3 => ?_⟩, n_mu (by omega) (by decide)⟩
      rcases Nat.lt_or_ge i' i with v | v
      · obtain ⟨j, j1, j2, j3, j4⟩ := hI i' v t' ht' e3
        exact ⟨j, j1, by omega, by simp only [if_neg (show j ≠ tl2 by omega)]; exact j3, by simp only [if_neg (show j ≠ tl2 by omega)]; exact j4⟩
      · have ei : i' = i := by omega
        subst ei
        have et := (q_eq (by omega) (by omega)).1 (e1'.symm.trans e3)
        subst et
        exact ⟨tl2, by omega, by omega, by simp, by simp⟩
    · rintro x rfl
      refine ⟨⟨i + 1, tl2, X2, D2, q_1 i, by omega, rfl, hB2, hlt2, hs2, hd2, fun i' hi' t' ht' e3 => ?_⟩, n_mu (by omega) (by decide)⟩
      rcases Nat.lt_or_ge i' i with v | v
      · exact hI i' v t' ht' e3
      · have ei : i' = i := by omega
        subst ei
        have et := (q_eq (by omega) (by omega)).1 (e1'.symm.trans e3)
        subst et
        have hne : F0 t = -1 := hcl s t hX1 g1 hpos
        rcases hB2.F t t1 with ⟨j, j1, j2, j3, -, -⟩ | q
        · have := hB2.2.2.2.2.1 hlt2 j j1 j2
          rw [hd2] at this
          exact ⟨j, j1, j2, j3, this⟩
        · rw [q, hne] at c6
          exact absurd rfl c6
