/-! ONE MOVE: the sets that gather finds -/
/-- out a, in b -/
def swp (s a b : Nat) : Nat := (s ^^^ 2 ^ a) ||| 2 ^ b
theorem pow_bit (a i : Nat) : (2 ^ a).testBit i = decide (a = i) := Nat.testBit_two_pow
theorem swp_bit (s a b i : Nat) : (swp s a b).testBit i = ((s.testBit i ^^ decide (a = i)) || decide (b = i)) := by
  unfold swp
  rw [Nat.testBit_or, Nat.testBit_xor, pow_bit, pow_bit]
theorem swp_lt {s a b n : Nat} (hs : s < 2 ^ n) (ha : a < n) (hb : b < n) : swp s a b < 2 ^ n :=
  or_lt (xor_lt hs (Nat.pow_lt_pow_right (by decide) ha)) (Nat.pow_lt_pow_right (by decide) hb)
theorem swp_dif {s a b : Nat} (ha : s.testBit a = true) (hb : s.testBit b = false) : dif s (swp s a b) = 2 ^ a ∧ dif (swp s a b) s = 2 ^ b := by
  constructor
  · apply Nat.eq_of_testBit_eq
    intro i
    rw [dif_bit, swp_bit, pow_bit]
    by_cases h1 : a = i
    · subst h1
      have : b ≠ a := fun e => by rw [e, ha] at hb; cases hb
      simp [ha, this]
    · by_cases h2 : b = i
      · subst h2
        simp [hb, h1]
      · simp [h1, h2]
  · apply Nat.eq_of_testBit_eq
    intro i
    rw [dif_bit, swp_bit, pow_bit]
    by_cases h1 : a = i
    · subst h1
      have : b ≠ a := fun e => by rw [e, ha] at hb; cases hb
      simp [ha, this]
    · by_cases h2 : b = i
      · subst h2
        simp [hb]
      · simp [h1, h2]
theorem swp_of {s t a b : Nat} (h1 : dif s t = 2 ^ a) (h2 : dif t s = 2 ^ b) : s.testBit a = true ∧ s.testBit b = false ∧ t = swp s a b := by
  have e1 : ∀ i, (s.testBit i && !t.testBit i) = decide (a = i) := fun i => by rw [← dif_bit, h1, pow_bit]
  have e2 : ∀ i, (t.testBit i && !s.testBit i) = decide (b = i) := fun i => by rw [← dif_bit, h2, pow_bit]
  refine ⟨?_, ?_, ?_⟩
  · have := e1 a
    simp at this
    exact this.1
  · have := e2 b
    simp at this
    exact this.2
  · apply Nat.eq_of_testBit_eq
    intro i
    rw [swp_bit, ← e1, ← e2]
    cases s.testBit i <;> cases t.testBit i <;> rfl
theorem pc0 : ∀ x, x < 512 → (pc x = 0 ↔ x = 0) := by decide +kernel
theorem flip_bit (s a i : Nat) : (s ^^^ 2 ^ a).testBit i = (s.testBit i ^^ decide (a = i)) := by rw [Nat.testBit_xor, pow_bit]
theorem flip_dif {s a : Nat} : (s.testBit a = true ∧ dif s (s ^^^ 2 ^ a) = 2 ^ a ∧ dif (s ^^^ 2 ^ a) s = 0) ∨ (s.testBit a = false ∧ dif s (s ^^^ 2 ^ a) = 0 ∧ dif (s ^^^ 2 ^ a) s = 2 ^ a) := by
  cases h : s.testBit a with
  | true =>
    left
    refine ⟨rfl, ?_, ?_⟩ <;>
    · apply Nat.eq_of_testBit_eq
      intro i
      rw [dif_bit, flip_bit]
      by_cases h1 : a = i
      · subst h1
        simp [h]
      · simp [h1, Nat.testBit_two_pow]
  | false =>
    right
    refine ⟨rfl, ?_, ?_⟩ <;>
    · apply Nat.eq_of_testBit_eq
      intro i
      rw [dif_bit, flip_bit]
      by_cases h1 : a = i
      · subst h1
        simp [h]
      · simp [h1, Nat.testBit_two_pow]
theorem flip_of {s t : Nat} (h : ∀ i, (s.testBit i && !t.testBit i) = false) {a : Nat} (h2 : dif t s = 2 ^ a) : t = s ^^^ 2 ^ a := by
  apply Nat.eq_of_testBit_eq
  intro i
  rw [flip_bit]
  have e2 : (t.testBit i && !s.testBit i) = decide (a = i) := by rw [← dif_bit, h2, pow_bit]
  have e1 := h i
  rw [← e2]
  revert e1
  cases s.testBit i <;> cases t.testBit i <;> simp
theorem flip_of' {s t : Nat} (h : ∀ i, (t.testBit i && !s.testBit i) = false) {a : Nat} (h2 : dif s t = 2 ^ a) : t = s ^^^ 2 ^ a := by
  apply Nat.eq_of_testBit_eq
  intro i
  rw [flip_bit]
  have e2 : (s.testBit i && !t.testBit i) = decide (a = i) := by rw [← dif_bit, h2, pow_bit]
  have e1 := h i
  rw [← e2]
  revert e1
  cases s.testBit i <;> cases t.testBit i <;> simp
theorem log2_lt {a n x : Nat} (h : 2 ^ a = x) (hx : x < 2 ^ n) : a < n := by
  rw [← h] at hx
  exact (Nat.pow_lt_pow_iff_right (by decide)).1 hx
/-- what a set's moves are, told by nodes -/
def Mvs (n : Nat) (nr : Nat → Nat) (mv s t w : Nat) : Prop :=
  (∃ a b, a < n ∧ b < n ∧ s.testBit a = true ∧ s.testBit b = false ∧ t = swp s a b ∧ (mv = 0 → (nr a).testBit b = true) ∧ w = if (nr a).testBit b = true then 1 else 2) ∨
  (mv = 2 ∧ ∃ a, a < n ∧ t = s ^^^ 2 ^ a ∧ w = 3)
theorem Mvs_iff {n : Nat} {nr : Nat → Nat} (hn : n ≤ 9) {mv s t w : Nat} (hs : s < 2 ^ n) : Mvs n nr mv s t w ↔ (t < 2 ^ n ∧ Wt nr mv s t = w ∧ 0 < w) := by
  have hp := p2_9 hn
  constructor
  · rintro (⟨a, b, ha, hb, h1, h2, rfl, h3, rfl⟩ | ⟨rfl, a, ha, rfl, rfl⟩)
    · obtain ⟨e1, e2⟩ := swp_dif h1 h2
      refine ⟨swp_lt hs ha hb, ?_, by split <;> omega⟩
      obtain ⟨p1, l1⟩ := pc_pow a (by omega)
      obtain ⟨p2, l2⟩ := pc_pow b (by omega)
      unfold Wt Wd
      rw [e1, e2, if_pos ⟨p1, p2⟩, l1, l2]
      by_cases h4 : (nr a).testBit b = true
      · rw [if_pos h4, if_pos h4]
      · rw [if_neg h4, if_neg h4, if_neg (fun z => h4 (h3 z))]
    · obtain ⟨p1, l1⟩ := pc_pow a (by omega)
      refine ⟨xor_lt hs (Nat.pow_lt_pow_right (by decide) ha), ?_, by omega⟩
      unfold Wt Wd
      rcases flip_dif (s := s) (a := a) with ⟨-, e1, e2⟩ | ⟨-, e1, e2⟩
      · rw [e1, e2, p1, (pc0 0 (by decide)).2 rfl]
        simp
      · rw [e1, e2, p1, (pc0 0 (by decide)).2 rfl]
        simp
  · rintro ⟨ht, hw, hpos⟩
    have ha : dif s t < 2 ^ n := dif_lt t hs
    have hb : dif t s < 2 ^ n := dif_lt s ht
    unfold Wt Wd at hw
    by_cases c : pc (dif s t) = 1 ∧ pc (dif t s) = 1
    · rw [if_pos c] at hw
      obtain ⟨ea, la⟩ := pow1 _ (by omega) c.1
      obtain ⟨eb, lb⟩ := pow1 _ (by omega) c.2
      obtain ⟨h1, h2, h3⟩ := swp_of ea eb
      left
      refine ⟨_, _, log2_lt ea.symm ha, log2_lt eb.symm hb, h1, h2, h3, ?_, ?_⟩
      · intro hm
        refine Classical.byContradiction (fun z => ?_)
        rw [if_neg z, if_pos hm] at hw
        omega
      · rw [← hw]
        by_cases z : (nr (dif s t).log2).testBit (dif t s).log2 = true
        · rw [if_pos z, if_pos z]
        · rw [if_neg z, if_neg z]
          by_cases hm : mv = 0
          · rw [if_neg z, if_pos hm] at hw
            omega
          · rw [if_neg hm]
    · rw [if_neg c] at hw
      by_cases d : mv = 2 ∧ pc (dif s t) + pc (dif t s) = 1
      · rw [if_pos d] at hw
        right
        refine ⟨d.1, ?_⟩
        have hc : (pc (dif s t) = 0 ∧ pc (dif t s) = 1) ∨ (pc (dif s t) = 1 ∧ pc (dif t s) = 0) := by omega
        rcases hc with ⟨h1, h2⟩ | ⟨h1, h2⟩
        · have z := (pc0 _ (by omega)).1 h1
          obtain ⟨eb, lb⟩ := pow1 _ (by omega) h2
          exact ⟨_, log2_lt eb.symm hb, flip_of (fun i => by rw [← dif_bit, z, Nat.zero_testBit]) eb, hw.symm⟩
        · have z := (pc0 _ (by omega)).1 h2
          obtain ⟨eb, lb⟩ := pow1 _ (by omega) h1
          exact ⟨_, log2_lt eb.symm ha, flip_of' (fun i => by rw [← dif_bit, z, Nat.zero_testBit]) eb, hw.symm⟩
      · rw [if_neg d] at hw
        omega
/-- the first c places of two rows hold the pairs of P, and nothing else -/
def Ent (c : Nat) (f g : Nat → Int32) (P : Nat → Nat → Prop) : Prop :=
  (∀ i, i < c → ∃ t w, P t w ∧ f i = nI t ∧ g i = nI w) ∧ ∀ t w, P t w → ∃ i, i < c ∧ f i = nI t ∧ g i = nI w
theorem Ent.iff {c : Nat} {f g : Nat → Int32} {P P' : Nat → Nat → Prop} (h : Ent c f g P) (e : ∀ t w, P t w ↔ P' t w) : Ent c f g P' :=
  ⟨fun i hi => by
    obtain ⟨t, w, h1, h2⟩ := h.1 i hi
    exact ⟨t, w, (e t w).1 h1, h2⟩, fun t w h1 => h.2 t w ((e t w).2 h1)⟩
theorem Ent.add {c : Nat} {f g : Nat → Int32} {P : Nat → Nat → Prop} (h : Ent c f g P) (t w : Nat) : Ent (c + 1) (upd f c (nI t)) (upd g c (nI w)) (fun t' w' => P t' w' ∨ (t' = t ∧ w' = w)) := by
  refine ⟨fun i hi => ?_, fun t' w' h1 => ?_⟩
  · rcases Nat.lt_or_ge i c with z | z
    · obtain ⟨t', w', h1, h2, h3⟩ := h.1 i z
      exact ⟨t', w', Or.inl h1, by rw [pk_un (by omega)]; exact h2, by rw [pk_un (by omega)]; exact h3⟩
    · have e : i = c := by omega
      subst e
      exact ⟨t, w, Or.inr ⟨rfl, rfl⟩, pk_us, pk_us⟩
  · rcases h1 with h1 | ⟨rfl, rfl⟩
    · obtain ⟨i, hi, h2, h3⟩ := h.2 t' w' h1
      exact ⟨i, by omega, by rw [pk_un (by omega)]; exact h2, by rw [pk_un (by omega)]; exact h3⟩
    · exact ⟨c, by omega, pk_us, pk_us⟩
theorem sp_isStateM {sz t : Nat} (hsz : sz ≤ 512) (ht : t < sz) : wp_X5_isState_M (nI sz) (nI t) (fun r => r = 1) := by
  unfold wp_X5_isState_M
  refine ⟨fun d => ?_, fun _ => ⟨fun d => ?_, fun _ => ⟨fun d => ?_, fun _ => rfl⟩⟩⟩
  · have := (q_lt (a := t) (b := 0) (by omega) (by decide)).1 d
    omega
  · have := n_ge d (by omega) (by omega)
    omega
  · have := n_ge (n := 512) d (by decide) (by omega)
    omega
theorem sp_noStateM (v : Int32) : wp_X5_isState_M v (-1) (fun r => r = 0) := by
  unfold wp_X5_isState_M
  exact ⟨fun _ => rfl, fun d => absurd (by decide) d⟩
theorem sp_offer {sz c t w : Nat} {fF fX fC : Nat → Int32} {P : Nat → Nat → Prop} (hsz : sz ≤ 512) (hc : c < 81) (ht : t < sz) (h : Ent c fX fC P) : wp_X5_offer_M (nI sz) (nI c) fF fX fC (nI t) (nI w) (fun z f g => ∃ c', c' ≤ c + 1 ∧ z = nI c' ∧ Ent c' f g (fun t' w' => P t' w' ∨ (¬ fF t = -2 ∧ t' = t ∧ w' = w))) := by
  unfold wp_X5_offer_M
  refine ⟨_, sp_isStateM hsz ht, ?_⟩
  rintro r rfl
  refine ⟨fun d => absurd d (by decide), fun _ => ?_⟩
  rw [q_cl (show t < 2 ^ 31 by omega)]
  refine ⟨q_in (show t < 512 by omega) (by decide), fun z => ⟨c, by omega, rfl, h.iff (fun t' w' => ⟨Or.inl, fun q => q.elim id (fun q => absurd z q.1)⟩)⟩, fun z => ⟨fun d => ?_, fun d => ⟨q_in hc (by decide), ?_⟩⟩⟩
  · have := n_ge (n := 81) d (by decide) (by omega)
    omega
  · rw [q_cl (show c < 2 ^ 31 by omega)]
    rintro f rfl
    refine ⟨q_in hc (by decide), ?_⟩
    rintro g rfl x rfl
    exact ⟨c + 1, by omega, q_1 c, (h.add t w).iff (fun t' w' => ⟨fun q => q.elim Or.inl (fun q => Or.inr ⟨z, q⟩), fun q => q.elim Or.inl (fun q => Or.inr q.2)⟩)⟩
theorem and_assoc_w {A B C D : Prop} : (B ∧ (A ∧ C ∧ D)) ↔ (A ∧ B ∧ C ∧ D) := ⟨fun ⟨b, a, c, d⟩ => ⟨a, b, c, d⟩, fun ⟨a, b, c, d⟩ => ⟨b, a, c, d⟩⟩
/-- the swaps of node a with the first i nodes -/
def Sw (nr : Nat → Nat) (ok : Nat → Prop) (mv s a i t w : Nat) : Prop :=
  ∃ b, b < i ∧ s.testBit b = false ∧ (mv = 0 → (nr a).testBit b = true) ∧ t = swp s a b ∧ ok t ∧ w = if (nr a).testBit b = true then 1 else 2
theorem swp_I {s a b : Nat} (ha : a < 9) (hb : b < 9) : (nI s ^^^ ((1 : Int32) <<< (nI a &&& 31))) ||| ((1 : Int32) <<< (nI b &&& 31)) = nI (swp s a b) := by
  rw [q_one (by omega), q_one (by omega), q_xor, q_or]
  rfl
theorem sp_gatherSwaps {n c mv s a : Nat} {nr : Nat → Nat} {fN fF fX fC : Nat → Int32} {P : Nat → Nat → Prop} (h : NetOk n nr) (hf : isN fN nr) (hm : mv ≤ 2) (hs : s < 2 ^ n) (ha : a < n) (hsa : s.testBit a = true) (hc : c + 8 ≤ 81) (hE : Ent c fX fC P) :
    wp_X2_gatherSwaps (nI (2 ^ n)) (nI c) (nI mv) fF fX fC (nI n) fN (nI s) (nI a) (fun z f g => ∃ c', c' ≤ c + 8 ∧ z = nI c' ∧ Ent c' f g (fun t w => P t w ∨ Sw nr (fun t => ¬ fF t = -2) mv s a n t w)) := by
  have hn := h.2.1
  have hp := p2_9 hn
  have hal := al_lt n
  have hna := h.lt9 a
  unfold wp_X2_gatherSwaps
  rw [q_cl (show a < 2 ^ 31 by omega), hf a (by omega)]
  rintro x rfl
  refine ⟨q_in (by omega) (by decide), ?_⟩
  rintro x rfl
  have e0 : nI mv = 0 ↔ mv = 0 := q_eq0 (by omega)
  -- what is open
  refine ⟨fun q => ∃ o, o < 512 ∧ q = nI o ∧ ∀ b, b < n → (o.testBit b = true ↔ (s.testBit b = false ∧ (mv = 0 → (nr a).testBit b = true))), ⟨fun d => ?_, fun d => ?_⟩, ?_⟩
  · rw [q_dif]
    refine ⟨_, Nat.lt_of_lt_of_le (dif_lt s (h.lt a)) hp, rfl, fun b hb => ?_⟩
    rw [dif_bit]
    cases s.testBit b <;> cases (nr a).testBit b <;> simp [e0.1 d]
  · refine ⟨_, sp_all hn, ?_⟩
    rintro r rfl
    rw [q_dif]
    refine ⟨_, Nat.lt_of_lt_of_le (dif_lt s hal) hp, rfl, fun b hb => ?_⟩
    have hmv : ¬ mv = 0 := fun z => d (e0.2 z)
    rw [dif_bit, al_bit]
    cases s.testBit b <;> simp [hb, hmv]
  · rintro o' ⟨o, ho, rfl, hop⟩
    refine ⟨fun y z f g => ∃ i c', i ≤ n ∧ y = nI i ∧ c' + (if a < i then 1 else 0) ≤ c + i ∧ z = nI c' ∧ Ent c' f g (fun t w => P t w ∨ Sw nr (fun t => ¬ fF t = -2) mv s a i t w), fun y _ _ _ => n - y.toNatClampNeg, ⟨0, c, by omega, rfl, by simp, rfl, hE.iff (fun t w => ⟨Or.inl, fun q => q.elim id (fun ⟨b, hb, _⟩ => absurd hb (by omega))⟩)⟩, ?_⟩
    rintro y z f g ⟨i, c', hi, rfl, hc', rfl, hI⟩
    refine ⟨fun d => ?_, fun d => ?_⟩
    · have h1 := n_ge d (by omega) (by omega)
      have h2 : i = n := by omega
      subst h2
      rw [if_pos ha] at hc'
      exact ⟨c', by omega, rfl, hI⟩
    · have hlt := n_lt d (by omega) (by omega)
      have hcs : a < i ∨ ¬ a < i := by omega
      -- a node that gives nothing
      have skip : (¬ (s.testBit i = false ∧ (mv = 0 → (nr a).testBit i = true))) → Ent c' f g (fun t w => P t w ∨ Sw nr (fun t => ¬ fF t = -2) mv s a (i + 1) t w) := fun hno => hI.iff (fun t w => by
        constructor
        · rintro (q | ⟨b, hb, q⟩)
          · exact Or.inl q
          · exact Or.inr ⟨b, by omega, q⟩
        · rintro (q | ⟨b, hb, q1, q2, q3⟩)
          · exact Or.inl q
          · rcases Nat.lt_or_ge b i with v | v
            · exact Or.inr ⟨b, v, q1, q2, q3⟩
            · have e : b = i := by omega
              subst e
              exact absurd ⟨q1, q2⟩ hno)
      have offr : ∀ w0 : Nat, (s.testBit i = false ∧ (mv = 0 → (nr a).testBit i = true)) → w0 = (if (nr a).testBit i = true then 1 else 2) → ∃ Q : Int32 → (Nat → Int32) → (Nat → Int32) → Prop, wp_X5_offer_M (nI (2 ^ n)) (nI c') fF f g ((nI s ^^^ ((1 : Int32) <<< (nI a &&& 31))) ||| ((1 : Int32) <<< (nI i &&& 31))) (nI w0) Q ∧ ∀ (z1 : Int32) (f1 g1 : Nat → Int32), Q z1 f1 g1 → ∀ x : Int32, x = nI i + 1 → (∃ i c', i ≤ n ∧ x = nI i ∧ c' + (if a < i then 1 else 0) ≤ c + i ∧ z1 = nI c' ∧ Ent c' f1 g1 (fun t w => P t w ∨ Sw nr (fun t => ¬ fF t = -2) mv s a i t w)) ∧ n - x.toNatClampNeg < n - (nI i).toNatClampNeg := by
        rintro w0 hop2 hw
        have hia : i ≠ a := fun e => by rw [e, hsa] at hop2; cases hop2.1
        rw [swp_I (by omega) (by omega)]
        have hsl := swp_lt hs ha hlt
        have hb1 : c' < 81 := by
          rcases hcs with v | v
          · rw [if_pos v] at hc'
            omega
          · rw [if_neg v] at hc'
            omega
        refine ⟨_, sp_offer hp hb1 hsl hI, ?_⟩
        rintro z1 f1 g1 ⟨c2, hc2, rfl, hE2⟩ x rfl
        refine ⟨⟨i + 1, c2, by omega, q_1 i, ?_, rfl, hE2.iff (fun t w => ?_)⟩, n_mu hlt (by omega)⟩
        · by_cases v : a < i
          · rw [if_pos v] at hc'
            rw [if_pos (by omega)]
            omega
          · rw [if_neg v] at hc'
            rw [if_neg (by omega)]
            omega
        · constructor
          · rintro ((q | ⟨b, hb, q⟩) | ⟨q1, rfl, rfl⟩)
            · exact Or.inl q
            · exact Or.inr ⟨b, by omega, q⟩
            · exact Or.inr ⟨i, by omega, hop2.1, hop2.2, rfl, q1, hw⟩
          · rintro (q | ⟨b, hb, q1, q2, q3, q4, q5⟩)
            · exact Or.inl (Or.inl q)
            · rcases Nat.lt_or_ge b i with v | v
              · exact Or.inl (Or.inr ⟨b, v, q1, q2, q3, q4, q5⟩)
              · have e : b = i := by omega
                subst e
                subst q3
                exact Or.inr ⟨q4, rfl, q5.trans hw.symm⟩
      refine ⟨fun e => ?_, fun e => ?_⟩
      · have hop2 := (hop i hlt).1 ((q_bit1 (by omega) (by omega)).1 e)
        refine ⟨fun v => ?_, fun v => ?_⟩
        · exact offr 1 hop2 (by rw [if_pos ((q_bit1 (by omega) (by omega)).1 v)])
        · exact offr 2 hop2 (by rw [if_neg (fun u => v ((q_bit1 (by omega) (by omega)).2 u))])
      · have hno : ¬ (s.testBit i = false ∧ (mv = 0 → (nr a).testBit i = true)) := fun q => e ((q_bit1 (by omega) (by omega)).2 ((hop i hlt).2 q))
        rintro x rfl
        refine ⟨⟨i + 1, c', by omega, q_1 i, ?_, rfl, skip hno⟩, n_mu hlt (by omega)⟩
        by_cases v : a < i
        · rw [if_pos v] at hc'
          rw [if_pos (by omega)]
          omega
        · rw [if_neg v] at hc'
          by_cases u : a < i + 1
          · rw [if_pos u]
            omega
          · rw [if_neg u]
            omega
theorem sp_gather {n mv s : Nat} {nr : Nat → Nat} {fN fF fX fC : Nat → Int32} (vFo : Int32) (h : NetOk n nr) (hf : isN fN nr) (hm : mv ≤ 2) (hs : s < 2 ^ n) :
    wp_X2_gather (nI (2 ^ n)) vFo (nI mv) fF fX fC (nI n) fN (nI s) (fun z f g => ∃ c, c ≤ 81 ∧ z = nI c ∧ Ent c f g (fun t w => t < 2 ^ n ∧ ¬ fF t = -2 ∧ Wt nr mv s t = w ∧ 0 < w)) := by
  have hn := h.2.1
  have hp := p2_9 hn
  have em2 : nI mv = 2 ↔ mv = 2 := q_eq (b := 2) (by omega) (by decide)
  unfold wp_X2_gather
  refine ⟨fun y z f g => ∃ i c, i ≤ n ∧ y = nI i ∧ c ≤ 8 * i ∧ z = nI c ∧ Ent c f g (fun t w => ∃ a, a < i ∧ s.testBit a = true ∧ Sw nr (fun t => ¬ fF t = -2) mv s a n t w), fun y _ _ _ => n - y.toNatClampNeg, ⟨0, 0, by omega, rfl, by omega, rfl, ⟨fun i hi => absurd hi (by omega), fun t w ⟨a, ha, _⟩ => absurd ha (by omega)⟩⟩, ?_⟩
  rintro y z f g ⟨i, c, hi, rfl, hc, rfl, hI⟩
  refine ⟨fun d => ?_, fun d => ?_⟩
  · have h1 := n_ge d (by omega) (by omega)
    have h2 : i = n := by omega
    subst h2
    refine ⟨fun e => ?_, fun e => ⟨c, by omega, rfl, hI.iff (fun t w => ?_)⟩⟩
    · refine ⟨fun y z f g => ∃ j c, j ≤ i ∧ y = nI j ∧ c ≤ 8 * i + j ∧ z = nI c ∧ Ent c f g (fun t w => (∃ a, a < i ∧ s.testBit a = true ∧ Sw nr (fun t => ¬ fF t = -2) mv s a i t w) ∨ ∃ a, a < j ∧ t = s ^^^ 2 ^ a ∧ ¬ fF t = -2 ∧ w = 3), fun y _ _ _ => i - y.toNatClampNeg, ⟨0, c, by omega, rfl, by omega, rfl, hI.iff (fun t w => ⟨Or.inl, fun q => q.elim id (fun ⟨a, ha, _⟩ => absurd ha (by omega))⟩)⟩, ?_⟩
      rintro y z f g ⟨j, c, hj, rfl, hc, rfl, hJ⟩
      refine ⟨fun v => ⟨c, ?_, rfl, hJ.iff (fun t w => ?_)⟩, fun v => ?_⟩
      · have := n_ge v (by omega) (by omega)
        omega
      · have hji : j = i := by
          have := n_ge v (by omega) (by omega)
          omega
        subst hji
        rw [← and_assoc_w, ← Mvs_iff hn hs]
        constructor
        · rintro (⟨a, ha, hsa, b, hb, q1, q2, q3, q4, q5⟩ | ⟨a, ha, q1, q2, q3⟩)
          · exact ⟨q4, Or.inl ⟨a, b, ha, hb, hsa, q1, q3, q2, q5⟩⟩
          · exact ⟨q2, Or.inr ⟨em2.1 e, a, ha, q1, q3⟩⟩
        · rintro ⟨q0, (⟨a, b, ha, hb, hsa, q1, q3, q2, q5⟩ | ⟨-, a, ha, q1, q3⟩)⟩
          · exact Or.inl ⟨a, ha, hsa, b, hb, q1, q2, q3, q0, q5⟩
          · exact Or.inr ⟨a, ha, q1, q0, q3⟩
      · have hlt := n_lt v (by omega) (by omega)
        rw [q_one (by omega), q_xor]
        refine ⟨_, sp_offer (w := 3) hp (by omega) (xor_lt hs (Nat.pow_lt_pow_right (by decide) hlt)) hJ, ?_⟩
        rintro z1 f1 g1 ⟨c2, hc2, rfl, hE2⟩ x rfl
        refine ⟨⟨j + 1, c2, by omega, q_1 j, by omega, rfl, hE2.iff (fun t w => ?_)⟩, n_mu hlt (by omega)⟩
        constructor
        · rintro ((q | ⟨a, ha, q⟩) | ⟨q1, rfl, rfl⟩)
          · exact Or.inl q
          · exact Or.inr ⟨a, by omega, q⟩
          · exact Or.inr ⟨j, by omega, rfl, q1, rfl⟩
        · rintro (q | ⟨a, ha, q1, q2, q3⟩)
          · exact Or.inl (Or.inl q)
          · rcases Nat.lt_or_ge a j with u | u
            · exact Or.inl (Or.inr ⟨a, u, q1, q2, q3⟩)
            · have ea : a = j := by omega
              subst ea
              subst q1
              exact Or.inr ⟨q2, rfl, q3⟩
    · rw [← and_assoc_w, ← Mvs_iff hn hs]
      constructor
      · rintro ⟨a, ha, hsa, b, hb, q1, q2, q3, q4, q5⟩
        exact ⟨q4, Or.inl ⟨a, b, ha, hb, hsa, q1, q3, q2, q5⟩⟩
      · rintro ⟨q0, (⟨a, b, ha, hb, hsa, q1, q3, q2, q5⟩ | ⟨q, -⟩)⟩
        · exact ⟨a, ha, hsa, b, hb, q1, q2, q3, q0, q5⟩
        · exact absurd (em2.2 q) e
  · have hlt := n_lt d (by omega) (by omega)
    refine ⟨fun e => ?_, fun e => ?_⟩
    · have hsa := (q_bit1 (by omega) (by omega)).1 e
      refine ⟨_, sp_gatherSwaps h hf hm hs hlt hsa (by omega) hI, ?_⟩
      rintro z1 f1 g1 ⟨c2, hc2, rfl, hE2⟩ x rfl
      refine ⟨⟨i + 1, c2, by omega, q_1 i, by omega, rfl, hE2.iff (fun t w => ?_)⟩, n_mu hlt (by omega)⟩
      constructor
      · rintro (⟨a, ha, q⟩ | q)
        · exact ⟨a, by omega, q⟩
        · exact ⟨i, by omega, hsa, q⟩
      · rintro ⟨a, ha, q1, q2⟩
        rcases Nat.lt_or_ge a i with u | u
        · exact Or.inl ⟨a, u, q1, q2⟩
        · have ea : a = i := by omega
          subst ea
          exact Or.inr q2
    · have hsa : ¬ s.testBit i = true := fun q => e ((q_bit1 (by omega) (by omega)).2 q)
      rintro x rfl
      refine ⟨⟨i + 1, c, by omega, q_1 i, by omega, rfl, hI.iff (fun t w => ?_)⟩, n_mu hlt (by omega)⟩
      constructor
      · rintro ⟨a, ha, q⟩
        exact ⟨a, by omega, q⟩
      · rintro ⟨a, ha, q1, q2⟩
        rcases Nat.lt_or_ge a i with u | u
        · exact ⟨a, u, q1, q2⟩
        · have ea : a = i := by omega
          subst ea
          exact absurd q1 hsa
