/-! LEAST WEIGHT, set by set and sum by sum -/
theorem sp_forget2 {sz tl : Nat} {F L : Nat → Int32} {X : Nat → Nat} (hsz : sz ≤ 512) (htl : tl ≤ sz) (hX : ∀ i, i < tl → X i < sz ∧ L i = nI (X i)) :
    wp_X2_forgetSpread (nI tl) F L (fun z F' => z = 0 ∧ ∀ x, x < sz → ((∃ j, j < tl ∧ X j = x) → F' x = -1) ∧ ((∀ j, j < tl → X j ≠ x) → F' x = F x)) := by
  unfold wp_X2_forgetSpread
  refine ⟨fun y F' => ∃ i, i ≤ tl ∧ y = nI i ∧ ∀ x, x < sz → ((∃ j, j < i ∧ X j = x) → F' x = -1) ∧ ((∀ j, j < i → X j ≠ x) → F' x = F x), fun y _ => tl - y.toNatClampNeg, ⟨0, by omega, rfl, fun x hx => ⟨fun ⟨j, hj, _⟩ => absurd hj (by omega), fun _ => rfl⟩⟩, ?_⟩
  rintro y F' ⟨i, hi, rfl, hI⟩
  refine ⟨fun c => ⟨rfl, ?_⟩, fun c => ?_⟩
  · have := n_ge c (by omega) (by omega)
    have e : i = tl := by omega
    subst e
    exact hI
  · have hlt := n_lt c (by omega) (by omega)
    obtain ⟨h1, h2⟩ := hX i hlt
    rw [q_cl (show i < 2 ^ 31 by omega), h2, q_cl (show X i < 2 ^ 31 by omega)]
    refine ⟨q_in (by omega) (by decide), q_in (by omega) (by decide), ?_⟩
    rintro F2 rfl x rfl
    refine ⟨⟨i + 1, by omega, q_1 i, fun x hx => ⟨?_, fun hno => ?_⟩⟩, n_mu hlt (by omega)⟩
    · rintro ⟨j, hj, rfl⟩
      by_cases v : X j = X i
      · rw [v]
        exact upd_s
      · rw [upd_n v]
        refine (hI _ hx).1 ⟨j, ?_, rfl⟩
        rcases Nat.lt_or_ge j i with u | u
        · exact u
        · have e : j = i := by omega
          subst e
          exact absurd rfl v
    · rw [upd_n (fun e => hno i (by omega) e.symm)]
      exact (hI x hx).2 (fun j hj => hno j (by omega))
/-- the label that a lighter way gives -/
def nlb (v : Int32) (d : Nat) : Int32 := if v = -1 ∨ ¬ v ≤ nI d then nI d else v
theorem nlb_ne {v : Int32} {d : Nat} (hd : d < 2 ^ 31) : ¬ nlb v d = -1 := by
  unfold nlb
  by_cases c : v = -1 ∨ ¬ v ≤ nI d
  · rw [if_pos c]
    exact (q_neg d hd).1
  · rw [if_neg c]
    exact fun q => c (Or.inl q)
theorem nlb_le {v : Int32} {d : Nat} : nlb v d ≤ nI d := by
  unfold nlb
  by_cases c : v = -1 ∨ ¬ v ≤ nI d
  · rw [if_pos c, Int32.le_iff_toInt_le]
    exact Int.le_refl _
  · rw [if_neg c]
    exact Classical.byContradiction (fun q => c (Or.inr q))
theorem sp_lighten {sz cn σ : Nat} {F fX fC : Nat → Int32} {P : Nat → Nat → Prop} (hsz : sz ≤ 512) (hcn : cn ≤ 81) (hσ : σ < 2 ^ 20) (hE : Ent cn fX fC P) (hP : ∀ t w, P t w → t < sz ∧ w ≤ 3) (hone : ∀ t w w', P t w → P t w' → w = w') :
    wp_X2_lighten (nI cn) F fX fC (nI σ) (fun F' => ∀ x, x < sz → (∀ w, P x w → F' x = nlb (F x) (σ + w)) ∧ ((∀ w, ¬ P x w) → F' x = F x)) := by
  unfold wp_X2_lighten
  -- P among the first i entries
  refine ⟨fun y F' => ∃ i, i ≤ cn ∧ y = nI i ∧ ∀ x, x < sz → (∀ w, P x w → (∃ j, j < i ∧ fX j = nI x) → F' x = nlb (F x) (σ + w)) ∧ ((∀ j, j < i → ¬ fX j = nI x) → F' x = F x), fun y _ => 81 - y.toNatClampNeg, ⟨0, by omega, rfl, fun x hx => ⟨fun w _ ⟨j, hj, _⟩ => absurd hj (by omega), fun _ => rfl⟩⟩, ?_⟩
  rintro y F' ⟨i, hi, rfl, hI⟩
  refine ⟨fun c x hx => ⟨fun w hw => ?_, fun hno => ?_⟩, fun c => ?_⟩
  · have hic : i = cn := by
      have := n_ge c (by omega) (by omega)
      omega
    subst hic
    obtain ⟨j, hj, e, -⟩ := hE.2 x w hw
    exact (hI x hx).1 w hw ⟨j, hj, e⟩
  · refine (hI x hx).2 (fun j hj e => ?_)
    obtain ⟨t, w, h1, h2, -⟩ := hE.1 j (by omega)
    have := (q_eq (by have := (hP t w h1).1; omega) (by omega)).1 (h2.symm.trans e)
    subst this
    exact hno w h1
  · have hic := n_lt c (by omega) (by omega)
    obtain ⟨t, w, hPt, e1, e2⟩ := hE.1 i hic
    obtain ⟨ht, hw⟩ := hP t w hPt
    have hv81 : vp_in (nI i) 81 := q_in (by omega) (by decide)
    rw [q_cl (show i < 2 ^ 31 by omega), e1, e2, q_add]
    refine ⟨hv81, ?_⟩
    rintro x rfl
    rw [q_cl (show t < 2 ^ 31 by omega)]
    have hv512 : vp_in (nI t) 512 := q_in (by omega) (by decide)
    -- what is there now
    have now : F' t = F t ∨ F' t = nlb (F t) (σ + w) := by
      rcases Classical.em (∃ j, j < i ∧ fX j = nI t) with q | q
      · exact Or.inr ((hI t ht).1 w hPt q)
      · exact Or.inl ((hI t ht).2 (fun j hj e => q ⟨j, hj, e⟩))
    have stp : ∀ G : Nat → Int32, G t = nlb (F t) (σ + w) → (∀ x, x ≠ t → G x = F' x) → ∀ x : Int32, x = nI i + 1 → (∃ i, i ≤ cn ∧ x = nI i ∧ ∀ x, x < sz → (∀ w, P x w → (∃ j, j < i ∧ fX j = nI x) → G x = nlb (F x) (σ + w)) ∧ ((∀ j, j < i → ¬ fX j = nI x) → G x = F x)) ∧ 81 - x.toNatClampNeg < 81 - (nI i).toNatClampNeg := by
      rintro G hG1 hG2 x rfl
      refine ⟨⟨i + 1, by omega, q_1 i, fun x hx => ⟨fun w' hw' hj => ?_, fun hno => ?_⟩⟩, n_mu (by omega) (by decide)⟩
      · by_cases v : x = t
        · subst v
          rw [hG1, hone x w w' hPt hw']
        · rw [hG2 x v]
          obtain ⟨j, hj, e⟩ := hj
          refine (hI x hx).1 w' hw' ⟨j, ?_, e⟩
          rcases Nat.lt_or_ge j i with u | u
          · exact u
          · have ej : j = i := by omega
            subst ej
            exact absurd ((q_eq (by omega) (by omega)).1 (e.symm.trans e1)) v
      · have v : x ≠ t := fun e => hno i (by omega) (by rw [e]; exact e1)
        rw [hG2 x v]
        exact (hI x hx).2 (fun j hj => hno j (by omega))
    refine ⟨hv512, fun d => ⟨hv81, ?_⟩, fun d => ⟨hv512, hv81, fun d2 => stp F' ?_ (fun _ _ => rfl), fun d2 => ⟨hv81, ?_⟩⟩⟩
    · rintro x rfl
      refine ⟨hv512, ?_⟩
      rintro G rfl
      refine stp _ ?_ (fun x hx => upd_n hx)
      rw [upd_s]
      rcases now with q | q
      · unfold nlb
        rw [if_pos (Or.inl (by rw [← q]; exact d))]
      · rw [q] at d
        exact absurd d (nlb_ne (by omega))
    · rcases now with q | q
      · unfold nlb
        rw [if_neg, q]
        rintro (v | v)
        · exact d (q.trans v)
        · exact v (by rw [← q]; exact d2)
      · exact q
    · rintro x rfl
      refine ⟨hv512, ?_⟩
      rintro G rfl
      refine stp _ ?_ (fun x hx => upd_n hx)
      rw [upd_s]
      rcases now with q | q
      · unfold nlb
        rw [if_pos (Or.inr (by rw [← q]; exact d2))]
      · rw [q] at d2
        exact absurd nlb_le d2
/-- labels by weight: sound, from a -/
def LbW (sz : Nat) (ok : Nat → Bool) (e : Nat → Nat → Nat) (a : Nat) (F : Nat → Int32) : Prop :=
  FOk sz ok F ∧ F a = nI 0 ∧ ∀ x, x < sz → ∀ d, d < 2 ^ 30 → F x = nI d → ∃ k, Wk e a k d x
/-- closed at y -/
def ClW (sz : Nat) (e : Nat → Nat → Nat) (F : Nat → Int32) (y d : Nat) : Prop := ∀ x, 0 < e y x → ∃ d', d' ≤ d + e y x ∧ F x = nI d'
theorem nlb_lab {v : Int32} {d q : Nat} (hd : d < 2 ^ 30) (hq : q < 2 ^ 30) (h : v = nI q) : nlb v d = nI (if q ≤ d then q else d) := by
  subst h
  unfold nlb
  by_cases c : q ≤ d
  · rw [if_neg, if_pos c]
    rintro (z | z)
    · exact (q_neg q (by omega)).1 z
    · exact z ((q_le (by omega) (by omega)).2 c)
  · rw [if_pos, if_neg c]
    exact Or.inr (fun z => c ((q_le (by omega) (by omega)).1 z))
theorem sp_settle {n mv σ a : Nat} {nr : Nat → Nat} {fN F : Nat → Int32} (vFo : Int32) (fX fC : Nat → Int32) {ok : Nat → Bool} (h : NetOk n nr) (hf : isN fN nr) (hm : mv ≤ 2) (hσ : σ < 2 ^ 20) (ha : a < 2 ^ n)
    (hL : LbW (2 ^ n) ok (ew (2 ^ n) ok nr mv) a F) (hC : ∀ y d, y < 2 ^ n → F y = nI d → d < σ → ClW (2 ^ n) (ew (2 ^ n) ok nr mv) F y d) :
    wp_X2_settle (nI (2 ^ n)) vFo (nI mv) F fX fC (nI n) fN (nI σ) (fun _ F' _ _ => LbW (2 ^ n) ok (ew (2 ^ n) ok nr mv) a F' ∧ ∀ y d, y < 2 ^ n → F' y = nI d → d < σ + 1 → ClW (2 ^ n) (ew (2 ^ n) ok nr mv) F' y d) := by
  have hn := h.2.1
  have hp := p2_9 hn
  unfold wp_X2_settle
  refine ⟨fun y _ F' _ _ => ∃ i, i ≤ 2 ^ n ∧ y = nI i ∧ LbW (2 ^ n) ok (ew (2 ^ n) ok nr mv) a F' ∧ (∀ y d, y < 2 ^ n → F' y = nI d → d < σ → ClW (2 ^ n) (ew (2 ^ n) ok nr mv) F' y d) ∧ (∀ y, y < i → F' y = nI σ → ClW (2 ^ n) (ew (2 ^ n) ok nr mv) F' y σ), fun y _ _ _ _ => 2 ^ n - y.toNatClampNeg, ⟨0, by omega, rfl, hL, hC, fun y hy => absurd hy (by omega)⟩, ?_⟩
  rintro y z F' f4 f5 ⟨i, hi, rfl, hL', hC', hS'⟩
  refine ⟨fun c => ⟨hL', fun y d hy hFy hd => ?_⟩, fun c => ?_⟩
  · have hic : i = 2 ^ n := by
      have := n_ge c (by omega) (by omega)
      omega
    subst hic
    rcases Nat.lt_or_ge d σ with v | v
    · exact hC' y d hy hFy v
    · have e : d = σ := by omega
      subst e
      exact hS' y hy hFy
  · have hlt := n_lt c (by omega) (by omega)
    rw [q_cl (show i < 2 ^ 31 by omega)]
    refine ⟨q_in (by omega) (by decide), fun e => ⟨_, sp_gather z h hf hm hlt, ?_⟩, fun e => ?_⟩
    · rintro z2 fX2 fC2 ⟨cn, hcn, rfl, hEnt⟩
      refine ⟨_, sp_lighten (sz := 2 ^ n) hp hcn hσ hEnt (fun t w q => ⟨q.1, by rw [← q.2.2.1]; exact Wd_le nr mv _ _⟩) (fun t w w' q q' => q.2.2.1.symm.trans q'.2.2.1), ?_⟩
      rintro G hG x rfl
      obtain ⟨hFok, hFa, hsnd⟩ := hL'
      have hoki : ok i = true := (hFok.ok hlt).1 (by rw [e]; exact (q_neg σ (by omega)).2.1)
      -- what a place holds behind it
      have hw : ∀ x, x < 2 ^ n → ok x = true → 0 < Wt nr mv i x → ew (2 ^ n) ok nr mv i x = Wt nr mv i x := fun x hx hox _ => by unfold ew; rw [if_pos ⟨hlt, hx, hoki, hox⟩]
      have Pw : ∀ x w, x < 2 ^ n → ((x < 2 ^ n ∧ ¬ F' x = -2 ∧ Wt nr mv i x = w ∧ 0 < w) ↔ (0 < ew (2 ^ n) ok nr mv i x ∧ w = ew (2 ^ n) ok nr mv i x)) := by
        intro x w hx
        constructor
        · rintro ⟨-, q2, q3, q4⟩
          have hox := (hFok.ok hx).1 q2
          have e9 := hw x hx hox (by omega)
          exact ⟨by omega, by omega⟩
        · rintro ⟨q1, q2⟩
          obtain ⟨⟨-, -, -, hox⟩, q3⟩ := ew_pos.1 q1
          have e9 := hw x hx hox q3
          exact ⟨hx, (hFok.ok hx).2 hox, by omega, by omega⟩
      have Gy : ∀ x, x < 2 ^ n → 0 < ew (2 ^ n) ok nr mv i x → G x = nlb (F' x) (σ + ew (2 ^ n) ok nr mv i x) := fun x hx q => (hG x hx).1 _ ((Pw x _ hx).2 ⟨q, rfl⟩)
      have Gn : ∀ x, x < 2 ^ n → ew (2 ^ n) ok nr mv i x = 0 → G x = F' x := fun x hx q => (hG x hx).2 (fun w q2 => by have := ((Pw x w hx).1 q2).1; omega)
      have ew3 : ∀ x, ew (2 ^ n) ok nr mv i x ≤ 3 := fun x => by
        unfold ew
        split
        · exact Wd_le nr mv _ _
        · omega
      -- labels don't grow, and small ones stay
      have dn : ∀ x, x < 2 ^ n → ∀ d, d < 2 ^ 30 → F' x = nI d → ∃ d', d' ≤ d ∧ G x = nI d' ∧ (d ≤ σ → d' = d) := by
        intro x hx d hd q
        rcases Nat.eq_zero_or_pos (ew (2 ^ n) ok nr mv i x) with v | v
        · exact ⟨d, Nat.le_refl _, (Gn x hx v).trans q, fun _ => rfl⟩
        · have := ew3 x
          rw [Gy x hx v, nlb_lab (by omega) hd q]
          by_cases u : d ≤ σ + ew (2 ^ n) ok nr mv i x
          · rw [if_pos u]
            exact ⟨d, Nat.le_refl _, rfl, fun _ => rfl⟩
          · rw [if_neg u]
            exact ⟨_, by omega, rfl, fun _ => by omega⟩
      have up : ∀ x, x < 2 ^ n → ∀ d, d < 2 ^ 30 → G x = nI d → (F' x = nI d) ∨ (0 < ew (2 ^ n) ok nr mv i x ∧ d = σ + ew (2 ^ n) ok nr mv i x) := by
        intro x hx d hd q
        rcases Nat.eq_zero_or_pos (ew (2 ^ n) ok nr mv i x) with v | v
        · exact Or.inl ((Gn x hx v).symm.trans q)
        · rw [Gy x hx v] at q
          unfold nlb at q
          have := ew3 x
          by_cases u : F' x = -1 ∨ ¬ F' x ≤ nI (σ + ew (2 ^ n) ok nr mv i x)
          · rw [if_pos u] at q
            exact Or.inr ⟨v, ((q_eq (by omega) (by omega)).1 q).symm⟩
          · rw [if_neg u] at q
            exact Or.inl q
      have big : ∀ d, F' i = nI d → True := fun _ _ => trivial
      have hsmall : ∀ y d, y < 2 ^ n → G y = nI d → d ≤ σ → F' y = nI d := by
        intro y d hy q hd
        rcases up y hy d (by omega) q with v | ⟨v1, v2⟩
        · exact v
        · omega
      -- closure is kept
      have keep : ∀ y d, y < 2 ^ n → d ≤ σ → ClW (2 ^ n) (ew (2 ^ n) ok nr mv) F' y d → ClW (2 ^ n) (ew (2 ^ n) ok nr mv) G y d := by
        intro y d hy hd q x hx
        obtain ⟨d', h1, h2⟩ := q x hx
        obtain ⟨⟨-, hx2, -, -⟩, -⟩ := ew_pos.1 hx
        have h3 : ew (2 ^ n) ok nr mv y x ≤ 3 := by
          unfold ew
          split
          · exact Wd_le nr mv _ _
          · omega
        obtain ⟨d'', h4, h5, -⟩ := dn x hx2 d' (by omega) h2
        exact ⟨d'', by omega, h5⟩
      have hLG : LbW (2 ^ n) ok (ew (2 ^ n) ok nr mv) a G := by
        refine ⟨fun x hx => ?_, ?_, fun x hx d hd q => ?_⟩
        · rcases Nat.eq_zero_or_pos (ew (2 ^ n) ok nr mv i x) with v | v
          · have := hFok x hx
            unfold vis
            rw [Gn x hx v]
            exact this
          · have hox := (ew_pos.1 v).1.2.2.2
            refine Or.inr (Or.inr ⟨?_, hox⟩)
            have := ew3 x
            rcases hFok x hx with ⟨q, q2⟩ | ⟨q, -⟩ | ⟨⟨d, hd, q⟩, -⟩
            · rw [hox] at q2; cases q2
            · refine ⟨σ + ew (2 ^ n) ok nr mv i x, by omega, ?_⟩
              rw [Gy x hx v, q]
              unfold nlb
              rw [if_pos (Or.inl rfl)]
            · obtain ⟨d', h1, h2, -⟩ := dn x hx d hd q
              exact ⟨d', by omega, h2⟩
        · obtain ⟨d', h1, h2, -⟩ := dn a ha 0 (by decide) hFa
          have : d' = 0 := by omega
          subst this
          exact h2
        · rcases up x hx d hd q with v | ⟨v1, v2⟩
          · exact hsnd x hx d hd v
          · obtain ⟨k, hk⟩ := hsnd i hlt σ (by omega) e
            exact ⟨k + 1, by rw [v2]; exact hk.snoc v1⟩
      refine ⟨⟨i + 1, by omega, q_1 i, hLG, fun y d hy q hd => keep y d hy (by omega) (hC' y d hy (hsmall y d hy q (by omega)) hd), fun y hy q => ?_⟩, ?_⟩
      · rcases Nat.lt_or_ge y i with v | v
        · exact keep y σ (by omega) (Nat.le_refl _) (hS' y v (hsmall y σ (by omega) q (Nat.le_refl _)))
        · have ey : y = i := by omega
          subst ey
          intro x hx
          obtain ⟨⟨-, hx2, -, hox⟩, -⟩ := ew_pos.1 hx
          have := ew3 x
          rcases hFok x hx2 with ⟨q2, q3⟩ | ⟨q2, -⟩ | ⟨⟨d, hd, q2⟩, -⟩
          · rw [hox] at q3; cases q3
          · refine ⟨_, Nat.le_refl _, ?_⟩
            rw [Gy x hx2 hx, q2]
            unfold nlb
            rw [if_pos (Or.inl rfl)]
          · rw [Gy x hx2 hx, nlb_lab (by omega) hd q2]
            by_cases u : d ≤ σ + ew (2 ^ n) ok nr mv y x
            · rw [if_pos u]
              exact ⟨d, u, rfl⟩
            · rw [if_neg u]
              exact ⟨_, Nat.le_refl _, rfl⟩
      · exact n_mu hlt (by omega)
    · rintro x rfl
      refine ⟨⟨i + 1, by omega, q_1 i, hL', hC', fun y hy q => ?_⟩, ?_⟩
      · rcases Nat.lt_or_ge y i with v | v
        · exact hS' y v q
        · have ey : y = i := by omega
          subst ey
          exact absurd q e
      · exact n_mu hlt (by omega)
/-- LEAST WEIGHT (or FEWEST MOVES), as a call answers it -/
def AnsD (e : Nat → Nat → Nat) (s t : Nat) (r : Int32) : Prop := (∃ d, d < 2 ^ 30 ∧ IsD e t s d ∧ r = nI d) ∨ (¬ Rc e t s ∧ r = -9)
theorem AnsD.one {e : Nat → Nat → Nat} {s t : Nat} {r r' : Int32} (h : AnsD e s t r) (h' : AnsD e s t r') : r = r' := by
  rcases h with ⟨d, -, h1, rfl⟩ | ⟨h1, rfl⟩
  · rcases h' with ⟨d', -, h1', rfl⟩ | ⟨h1', -⟩
    · rw [h1.one h1']
    · exact absurd h1.rc h1'
  · rcases h' with ⟨d', -, h1', -⟩ | ⟨-, rfl⟩
    · exact absurd h1'.rc h1
    · rfl
theorem Few.ans {sz : Nat} {e : Nat → Nat → Nat} {s t : Nat} {F L F' L' : Nat → Int32} {r z : Int32} (h : Few sz e s t F L r z F' L') : AnsD e s t r := by
  rcases h with ⟨rfl, rfl⟩ | ⟨-, rfl, h⟩ | ⟨d, hd, tl, X, D, -, -, h1, rfl, h2, -⟩
  · exact Or.inl ⟨0, by decide, ⟨⟨0, rfl, rfl⟩, fun _ _ _ => Nat.zero_le _⟩, rfl⟩
  · exact Or.inr ⟨h, rfl⟩
  · exact Or.inl ⟨d, h1, h2, rfl⟩
theorem sp_lightest {n mv s t : Nat} {nr : Nat → Nat} {fN F L : Nat → Int32} (vFo : Int32) (fX fC : Nat → Int32) {ok : Nat → Bool} (h : NetOk n nr) (hf : isN fN nr) (hm : mv ≤ 2) (hF : Fr (2 ^ n) ok F) (hs : s < 2 ^ n) (ht : t < 2 ^ n) :
    wp_X2_lightest (nI (2 ^ n)) 0 vFo (nI mv) F L fX fC (nI n) fN (nI s) (nI t) (fun r _ _ _ _ _ _ => AnsD (ew (2 ^ n) ok nr mv) s t r) := by
  have hn := h.2.1
  have hp := p2_9 hn
  unfold wp_X2_lightest
  refine ⟨_, sp_fewestM vFo fX fC h hf hm hF hs ht, ?_⟩
  rintro r z z2 F' L' fX' fC' hFew
  rcases hFew with ⟨e, rfl⟩ | ⟨e, rfl, hno⟩ | ⟨d, hd, tl, X, D, hne, hd0, hdb, rfl, hIs, rfl, hB, hFs, -⟩
  · subst e
    exact ⟨fun c => absurd c (by decide), fun _ => Or.inl ⟨0, by decide, ⟨⟨0, rfl, rfl⟩, fun _ _ _ => Nat.zero_le _⟩, rfl⟩⟩
  · exact ⟨fun c => absurd c (by decide), fun _ => Or.inr ⟨fun q => hno (Rc_e1.2 q), rfl⟩⟩
  have htl := hB.tl_le
  have hdsz : d ≤ 512 := by
    rcases hB.F s hs with ⟨j, -, j2, -, -, j5⟩ | q
    · have hDj := (hB.2.1 j (by omega) j2).2.2.1
      have e : d = D j := (q_eq (by omega) (by omega)).1 (hFs.symm.trans j5)
      omega
    · rw [q] at hFs
      exact absurd ⟨d, hdb, hFs⟩ (hF.novis hs)
  -- a weighted walk from s to t of at most 3 d
  obtain ⟨w0, hw0, hw1⟩ : ∃ w0, (∃ k, Wk (ew (2 ^ n) ok nr mv) s k w0 t) ∧ w0 ≤ d * 3 := by
    obtain ⟨k, hk⟩ := hIs.1
    obtain ⟨e, w', hw'⟩ := Wk_un hk
    subst e
    refine ⟨w', ⟨d, hw'.rev (ew_sym h _ _ _)⟩, Wk.le (fun y x => ?_) hw'⟩
    unfold ew
    split
    · exact Wd_le nr mv _ _
    · omega
  refine ⟨fun _ => ?_, fun c => absurd ((q_lt (a := 0) (by decide) (by omega)).2 hd0) c⟩
  refine ⟨_, sp_forget2 (X := X) (sz := 2 ^ n) hp htl (fun i hi => ⟨(hB.2.2.2.2.2.2.2.1 i hi).1, (hB.2.2.2.2.2.2.2.1 i hi).2.1⟩), ?_⟩
  rintro z3 F3 ⟨rfl, hF3⟩
  have hFr3 : Fr (2 ^ n) ok F3 := by
    intro x hx
    rcases Classical.em (∃ j, j < tl ∧ X j = x) with q | q
    · rw [(hF3 x hx).1 q]
      obtain ⟨j, hj, rfl⟩ := q
      rw [if_pos ((hF.new hx).1 (hB.2.1 j (by omega) hj).1)]
    · rw [(hF3 x hx).2 (fun j hj e => q ⟨j, hj, e⟩)]
      rcases hB.F x hx with ⟨j, -, j2, j3, -⟩ | q2
      · exact absurd ⟨j, j2, j3⟩ q
      · rw [q2]
        exact hF x hx
  rw [q_cl (show s < 2 ^ 31 by omega), q_cl (show t < 2 ^ 31 by omega)]
  refine ⟨q_in (by omega) (by decide), ?_⟩
  rintro F4 rfl
  have hoks : ok s = true := by
    rcases Rc_last hIs.rc with q | ⟨-, q⟩
    · exact absurd q hne
    · exact q
  have h3 : nI d * (3 : Int32) = nI (d * 3) := pk_mul d 3
  rw [h3]
  refine ⟨fun y _ F _ _ => ∃ σ, σ ≤ d * 3 ∧ y = nI σ ∧ LbW (2 ^ n) ok (ew (2 ^ n) ok nr mv) s F ∧ ∀ y d, y < 2 ^ n → F y = nI d → d < σ → ClW (2 ^ n) (ew (2 ^ n) ok nr mv) F y d, fun y _ _ _ _ => d * 3 - y.toNatClampNeg, ⟨0, by omega, rfl, ⟨fun x hx => ?_, upd_s, fun x hx d9 hd9 q => ?_⟩, fun _ _ _ _ q => absurd q (by omega)⟩, ?_⟩
  · by_cases v : x = s
    · subst v
      exact Or.inr (Or.inr ⟨⟨0, by decide, upd_s⟩, hoks⟩)
    · unfold vis
      rw [upd_n v]
      exact hFr3.fok x hx
  · by_cases v : x = s
    · subst v
      have e9 : nI 0 = nI d9 := (upd_s (f := F3)).symm.trans q
      have e9 := (q_eq (by decide) (by omega)).1 e9
      subst e9
      exact ⟨0, rfl, rfl⟩
    · rw [upd_n v] at q
      exact absurd ⟨d9, hd9, q⟩ (hFr3.novis hx)
  rintro y z4 F5 f18 f19 ⟨σ, hσ, rfl, hL, hC⟩
  -- what the labels say up to σ
  have low : ∀ {k w x : Nat}, Wk (ew (2 ^ n) ok nr mv) s k w x → w ≤ σ → ∃ d9, d9 ≤ w ∧ F5 x = nI d9 := by
    intro k w x hw hle
    have := pcert (e := ew (2 ^ n) ok nr mv) (a := s) (ok := fun x => ∃ d9, d9 < 2 ^ 30 ∧ F5 x = nI d9) (D := fun x => (F5 x).toNatClampNeg) σ ⟨⟨0, by decide, hL.2.1⟩, by rw [hL.2.1]; rfl⟩ (fun y x hy hd9 hx => by
      obtain ⟨d9, h9, e9⟩ := hy
      obtain ⟨⟨hy1, hx1, -, -⟩, -⟩ := ew_pos.1 hx
      have e8 : (F5 y).toNatClampNeg = d9 := by rw [e9]; exact q_cl (by omega)
      simp only [e8] at hd9 ⊢
      obtain ⟨d7, h7, e7⟩ := hC y d9 hy1 e9 hd9 x hx
      have hb : ew (2 ^ n) ok nr mv y x ≤ 3 := by
        unfold ew
        split
        · exact Wd_le nr mv _ _
        · omega
      exact ⟨⟨d7, by omega, e7⟩, by rw [e7, q_cl (by omega)]; exact h7⟩) hw hle
    obtain ⟨⟨d9, h9, e9⟩, h8⟩ := this
    simp only [e9] at h8
    rw [q_cl (by omega)] at h8
    exact ⟨d9, h8, e9⟩
  refine ⟨fun c => ⟨q_in (by omega) (by decide), ?_⟩, fun c => ⟨q_in (by omega) (by decide), fun c2 => ⟨q_in (by omega) (by decide), ?_⟩, fun c2 => ?_⟩⟩
  · have hσ2 : σ = d * 3 := by
      have := n_ge c (by omega) (by omega)
      omega
    obtain ⟨k0, hk0⟩ := hw0
    obtain ⟨d9, h9, e9⟩ := low hk0 (by omega)
    refine Or.inl ⟨d9, by omega, IsD.rev (ew_sym h _ _ _) ⟨hL.2.2 t ht d9 (by omega) e9, fun k w hw => ?_⟩, e9⟩
    rcases Nat.lt_or_ge σ w with v | v
    · omega
    · obtain ⟨d8, h8, e8⟩ := low hw v
      have := (q_eq (by omega) (by omega)).1 (e8.symm.trans e9)
      omega
  · refine Or.inl ⟨σ, by omega, IsD.rev (ew_sym h _ _ _) ⟨hL.2.2 t ht σ (by omega) c2, fun k w hw => ?_⟩, c2⟩
    rcases Nat.lt_or_ge w σ with v | v
    · obtain ⟨d8, h8, e8⟩ := low hw (by omega)
      have := (q_eq (by omega) (by omega)).1 (e8.symm.trans c2)
      omega
    · exact v
  · have hlt := n_lt c (by omega) (by omega)
    refine ⟨_, sp_settle z4 f18 f19 h hf hm (by omega) hs hL hC, ?_⟩
    rintro z5 F6 f26 f27 ⟨hL6, hC6⟩ x rfl
    exact ⟨⟨σ + 1, by omega, q_1 σ, hL6, hC6⟩, n_mu hlt (by omega)⟩
