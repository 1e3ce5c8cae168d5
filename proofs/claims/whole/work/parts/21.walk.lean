/-! WALKS over numbered states: e y x is the weight of the step from y to x, 0 where there is none -/
/-- from a, in k steps of weight w in all, to x -/
def Wk (e : Nat → Nat → Nat) (a : Nat) : Nat → Nat → Nat → Prop
  | 0, w, x => w = 0 ∧ x = a
  | k + 1, w, x => ∃ y w', 0 < e y x ∧ w = w' + e y x ∧ Wk e a k w' y
/-- x comes of a -/
def Rc (e : Nat → Nat → Nat) (a x : Nat) : Prop := ∃ k w, Wk e a k w x
/-- the least weight of a walk from a to x is d -/
def IsD (e : Nat → Nat → Nat) (a x d : Nat) : Prop := (∃ k, Wk e a k d x) ∧ ∀ k w, Wk e a k w x → d ≤ w
theorem IsD.one {e : Nat → Nat → Nat} {a x d d' : Nat} (h : IsD e a x d) (h' : IsD e a x d') : d = d' := by
  obtain ⟨⟨k, h1⟩, h2⟩ := h
  obtain ⟨⟨k', h3⟩, h4⟩ := h'
  exact Nat.le_antisymm (h2 _ _ h3) (h4 _ _ h1)
theorem IsD.rc {e : Nat → Nat → Nat} {a x d : Nat} (h : IsD e a x d) : Rc e a x := ⟨_, d, h.1.choose_spec⟩
theorem Wk.nil (e : Nat → Nat → Nat) (a : Nat) : Wk e a 0 0 a := ⟨rfl, rfl⟩
theorem Wk.snoc {e : Nat → Nat → Nat} {a k w y x : Nat} (h : Wk e a k w y) (hx : 0 < e y x) : Wk e a (k + 1) (w + e y x) x := ⟨y, w, hx, rfl, h⟩
theorem Wk.cons {e : Nat → Nat → Nat} {a b : Nat} (hb : 0 < e a b) : ∀ {k w x : Nat}, Wk e b k w x → Wk e a (k + 1) (e a b + w) x
  | 0, w, x, h => by
    obtain ⟨rfl, rfl⟩ := h
    exact ⟨a, 0, hb, by omega, rfl, rfl⟩
  | k + 1, w, x, h => by
    obtain ⟨y, w', h1, rfl, h2⟩ := h
    exact ⟨y, e a b + w', h1, by omega, Wk.cons hb h2⟩
theorem Wk.rev {e : Nat → Nat → Nat} (hs : ∀ y x, e y x = e x y) {a : Nat} : ∀ {k w x : Nat}, Wk e a k w x → Wk e x k w a
  | 0, w, x, h => by
    obtain ⟨rfl, rfl⟩ := h
    exact ⟨rfl, rfl⟩
  | k + 1, w, x, h => by
    obtain ⟨y, w', h1, rfl, h2⟩ := h
    have h3 := Wk.cons (a := x) (b := y) (by rw [hs]; exact h1) (Wk.rev hs h2)
    rw [hs x y, Nat.add_comm (e y x) w'] at h3
    exact h3
theorem Rc.rev {e : Nat → Nat → Nat} (hs : ∀ y x, e y x = e x y) {a x : Nat} (h : Rc e a x) : Rc e x a := by
  obtain ⟨k, w, h⟩ := h
  exact ⟨k, w, h.rev hs⟩
theorem Rc.refl (e : Nat → Nat → Nat) (a : Nat) : Rc e a a := ⟨0, 0, rfl, rfl⟩
theorem Rc.snoc {e : Nat → Nat → Nat} {a y x : Nat} (h : Rc e a y) (hx : 0 < e y x) : Rc e a x := by
  obtain ⟨k, w, h⟩ := h
  exact ⟨_, _, h.snoc hx⟩
theorem Rc.trans {e : Nat → Nat → Nat} {a b : Nat} (h : Rc e a b) : ∀ {x : Nat}, Rc e b x → Rc e a x := by
  intro x hx
  obtain ⟨k, w, hx⟩ := hx
  induction k generalizing w x with
  | zero =>
    obtain ⟨-, rfl⟩ := hx
    exact h
  | succ k ih =>
    obtain ⟨y, w', h1, -, h2⟩ := hx
    exact (ih _ h2).snoc h1
theorem IsD.rev {e : Nat → Nat → Nat} (hs : ∀ y x, e y x = e x y) {a x d : Nat} (h : IsD e a x d) : IsD e x a d := by
  obtain ⟨⟨k, h1⟩, h2⟩ := h
  exact ⟨⟨k, h1.rev hs⟩, fun k' w' h' => h2 _ _ (h'.rev hs)⟩
/-- labels that are closed below m are no more than any walk's weight up to m -/
theorem pcert {e : Nat → Nat → Nat} {a : Nat} {ok : Nat → Prop} {D : Nat → Nat} (m : Nat) (h0 : ok a ∧ D a = 0) (cls : ∀ y x, ok y → D y < m → 0 < e y x → ok x ∧ D x ≤ D y + e y x) :
    ∀ {k w x : Nat}, Wk e a k w x → w ≤ m → ok x ∧ D x ≤ w
  | 0, w, x, h, hw => by
    obtain ⟨rfl, rfl⟩ := h
    exact ⟨h0.1, by omega⟩
  | k + 1, w, x, h, hw => by
    obtain ⟨y, w', h1, rfl, h2⟩ := h
    obtain ⟨h3, h4⟩ := pcert m h0 cls h2 (by omega)
    obtain ⟨h5, h6⟩ := cls y x h3 (by omega) h1
    exact ⟨h5, by omega⟩
/-- sound labels that are closed are the least weights, and tell what comes of a -/
theorem cert {e : Nat → Nat → Nat} {a : Nat} {ok : Nat → Prop} {D : Nat → Nat} (h0 : ok a ∧ D a = 0) (snd : ∀ x, ok x → ∃ k, Wk e a k (D x) x) (cls : ∀ y x, ok y → 0 < e y x → ok x ∧ D x ≤ D y + e y x) (x : Nat) :
    (ok x ↔ Rc e a x) ∧ (ok x → IsD e a x (D x)) := by
  refine ⟨⟨fun h => ?_, fun h => ?_⟩, fun h => ⟨snd x h, fun k w hw => ?_⟩⟩
  · obtain ⟨k, h⟩ := snd x h
    exact ⟨k, _, h⟩
  · obtain ⟨k, w, h⟩ := h
    exact (pcert w h0 (fun y x hy _ hx => cls y x hy hx) h (Nat.le_refl _)).1
  · exact (pcert w h0 (fun y x hy _ hx => cls y x hy hx) hw (Nat.le_refl _)).2
/-- the same steps, each of weight 1 -/
def e1 (e : Nat → Nat → Nat) : Nat → Nat → Nat := fun y x => if e y x = 0 then 0 else 1
theorem e1_pos {e : Nat → Nat → Nat} {y x : Nat} : 0 < e1 e y x ↔ 0 < e y x := by
  unfold e1
  by_cases h : e y x = 0
  · simp [h]
  · simp [h]; omega
theorem e1_le (e : Nat → Nat → Nat) (y x : Nat) : e1 e y x ≤ 1 := by
  unfold e1
  by_cases h : e y x = 0 <;> simp [h]
theorem e1_one {e : Nat → Nat → Nat} {y x : Nat} (h : 0 < e y x) : e1 e y x = 1 := by
  unfold e1
  rw [if_neg (by omega)]
theorem e1_sym {e : Nat → Nat → Nat} (hs : ∀ y x, e y x = e x y) (y x : Nat) : e1 e y x = e1 e x y := by
  unfold e1
  rw [hs]
theorem Wk_un {e : Nat → Nat → Nat} {a : Nat} : ∀ {k w x : Nat}, Wk (e1 e) a k w x → w = k ∧ ∃ w', Wk e a k w' x
  | 0, w, x, h => ⟨h.1, 0, rfl, h.2⟩
  | k + 1, w, x, h => by
    obtain ⟨y, w', h1, rfl, h2⟩ := h
    obtain ⟨h3, w2, h4⟩ := Wk_un h2
    have h5 := e1_pos.1 h1
    exact ⟨by rw [e1_one h5, h3], w2 + e y x, y, w2, h5, rfl, h4⟩
theorem Wk.to1 {e : Nat → Nat → Nat} {a : Nat} : ∀ {k w x : Nat}, Wk e a k w x → Wk (e1 e) a k k x
  | 0, w, x, h => ⟨rfl, h.2⟩
  | k + 1, w, x, h => by
    obtain ⟨y, w', h1, rfl, h2⟩ := h
    exact ⟨y, k, e1_pos.2 h1, by rw [e1_one h1], Wk.to1 h2⟩
theorem Rc_e1 {e : Nat → Nat → Nat} {a x : Nat} : Rc (e1 e) a x ↔ Rc e a x := by
  constructor
  · intro ⟨k, w, h⟩
    obtain ⟨-, w', h'⟩ := Wk_un h
    exact ⟨k, w', h'⟩
  · intro ⟨k, w, h⟩
    exact ⟨k, k, h.to1⟩
theorem Wk.le {e : Nat → Nat → Nat} {c : Nat} (hc : ∀ y x, e y x ≤ c) {a : Nat} : ∀ {k w x : Nat}, Wk e a k w x → w ≤ k * c
  | 0, w, x, h => by rw [h.1]; omega
  | k + 1, w, x, h => by
    obtain ⟨y, w', h1, rfl, h2⟩ := h
    have h3 := Wk.le hc h2
    have h4 := hc y x
    rw [Nat.succ_mul]
    omega
