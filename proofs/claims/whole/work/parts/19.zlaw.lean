def wsLE : List Cond := wsL_law ++ wsEx
set_option maxRecDepth 20000 in
theorem wsEx_in : ∀ w ∈ wsEx, w ∈ lw_tbl := by decide +kernel
theorem wsLE_in : ∀ w ∈ wsLE, w ∈ lw_tbl := app_in wsL_law_in wsEx_in
theorem gL_law_X8_netE : GoodIn wsLE (wsV RL 13 RX8 yX8_net wsX8_net) := by
  have h := good_big wsEx gL_law_X8_net
  exact h
theorem gL_law_X9_netE : GoodIn wsLE (wsV RL 17 RX9 yX9_net wsX9_net) := by
  have h := good_big wsEx gL_law_X9_net
  exact h
theorem gL_law_X8_joinE : GoodIn wsLE (wsV RL 18 RX8 yX8_join wsX8_join) := by
  have h := good_big wsEx gL_law_X8_join
  exact h
theorem gL_law_X9_joinE : GoodIn wsLE (wsV RL 22 RX9 yX9_join wsX9_join) := by
  have h := good_big wsEx gL_law_X9_join
  exact h
theorem gL_law_X8_shapeE : GoodIn wsLE (wsV RL 23 RX8 yX8_shape wsX8_shape) := by
  have h := good_big wsEx gL_law_X8_shape
  exact h
theorem gL_law_X9_shapeE : GoodIn wsLE (wsV RL 26 RX9 yX9_shape wsX9_shape) := by
  have h := good_big wsEx gL_law_X9_shape
  exact h
theorem gL_law_X8_setE : GoodIn wsLE (wsV RL 27 RX8 yX8_set wsX8_set) := by
  have h := good_big wsEx gL_law_X8_set
  exact h
theorem gL_law_X9_setE : GoodIn wsLE (wsV RL 31 RX9 yX9_set wsX9_set) := by
  have h := good_big wsEx gL_law_X9_set
  exact h
theorem gL_law_X8_lawfulE : GoodIn wsLE (wsV RL 32 RX8 yX8_lawful wsX8_lawful) := by
  have h := good_big wsEx gL_law_X8_lawful
  exact h
theorem gL_law_X9_lawfulE : GoodIn wsLE (wsV RL 35 RX9 yX9_lawful wsX9_lawful) := by
  have h := good_big wsEx gL_law_X9_lawful
  exact h
theorem gL_law_X8_countE : GoodIn wsLE (wsV RL 36 RX8 yX8_count wsX8_count) := by
  have h := good_big wsEx gL_law_X8_count
  exact h
theorem gL_law_X9_countE : GoodIn wsLE (wsV RL 39 RX9 yX9_count wsX9_count) := by
  have h := good_big wsEx gL_law_X9_count
  exact h
theorem gL_law_X8_weightE : GoodIn wsLE (wsV RL 40 RX8 yX8_weight wsX8_weightE) := by
  have h := good_ex gL_law_X8_weight
  exact h
theorem gL_law_X9_weightE : GoodIn wsLE (wsV RL 43 RX9 yX9_weight wsX9_weight) := by
  have h := good_big wsEx gL_law_X9_weight
  exact h
theorem gL_law_X8_walkE : GoodIn wsLE (wsV RL 44 RX8 yX8_walk wsX8_walk) := by
  have h := good_big wsEx gL_law_X8_walk
  exact h
theorem gL_law_X9_walkE : GoodIn wsLE (wsV RL 48 RX9 yX9_walk wsX9_walk) := by
  have h := good_big wsEx gL_law_X9_walk
  exact h
theorem gL_law_X8_reachE : GoodIn wsLE (wsV RL 49 RX8 yX8_reach wsX8_reach) := by
  have h := good_big wsEx gL_law_X8_reach
  exact h
theorem gL_law_X9_reachE : GoodIn wsLE (wsV RL 53 RX9 yX9_reach wsX9_reach) := by
  have h := good_big wsEx gL_law_X9_reach
  exact h
theorem gL_law_X8_partsE : GoodIn wsLE (wsV RL 54 RX8 yX8_parts wsX8_parts) := by
  have h := good_big wsEx gL_law_X8_parts
  exact h
theorem gL_law_X9_partsE : GoodIn wsLE (wsV RL 57 RX9 yX9_parts wsX9_parts) := by
  have h := good_big wsEx gL_law_X9_parts
  exact h
theorem gL_law_X8_properE : GoodIn wsLE (wsV RL 58 RX8 yX8_proper wsX8_proper) := by
  have h := good_big wsEx gL_law_X8_proper
  exact h
theorem gL_law_X9_properE : GoodIn wsLE (wsV RL 61 RX9 yX9_proper wsX9_proper) := by
  have h := good_big wsEx gL_law_X9_proper
  exact h
theorem gL_law_X8_shadesE : GoodIn wsLE (wsV RL 62 RX8 yX8_shades wsX8_shades) := by
  have h := good_big wsEx gL_law_X8_shades
  exact h
theorem gL_law_X9_shadesE : GoodIn wsLE (wsV RL 65 RX9 yX9_shades wsX9_shades) := by
  have h := good_big wsEx gL_law_X9_shades
  exact h
theorem gL_law_X8_heapsE : GoodIn wsLE (wsV RL 66 RX8 yX8_heaps wsX8_heaps) := by
  have h := good_big wsEx gL_law_X8_heaps
  exact h
theorem gL_law_X9_heapsE : GoodIn wsLE (wsV RL 69 RX9 yX9_heaps wsX9_heaps) := by
  have h := good_big wsEx gL_law_X9_heaps
  exact h
theorem gL_law_X8_toldE : GoodIn wsLE (wsV RL 70 RX8 yX8_told wsX8_told) := by
  have h := good_big wsEx gL_law_X8_told
  exact h
theorem gL_law_X9_toldE : GoodIn wsLE (wsV RL 73 RX9 yX9_told wsX9_told) := by
  have h := good_big wsEx gL_law_X9_told
  exact h
theorem gL_law_X8_traceE : GoodIn wsLE (wsV RL 74 RX8 yX8_trace wsX8_trace) := by
  have h := good_big wsEx gL_law_X8_trace
  exact h
theorem gL_law_X9_traceE : GoodIn wsLE (wsV RL 78 RX9 yX9_trace wsX9_trace) := by
  have h := good_big wsEx gL_law_X9_trace
  exact h
def wp_law (L : Nat) (xs : Nat → Int32) (vLe : Int32) (vMo : Int32) (vCo : Int32) (vSz : Int32) (vTl : Int32) (vFo : Int32) (vMv : Int32) (fF : Nat → Int32) (fL : Nat → Int32) (fX : Nat → Int32) (fC : Nat → Int32) (wSz : Int32) (wTl : Int32) (wFo : Int32) (wCo : Int32) (gF : Nat → Int32) (gL : Nat → Int32) (gX : Nat → Int32) (vn : Int32) (fN : Nat → Int32) (vT : Int64) (kn : Int32) (kFe : Int32) (kMo : Int32) (kCo : Int32) (kT : Int64) (jJ : Nat → Int32) (jF : Nat → Int32) (jD : Nat → Int32) (jS : Nat → Int32) (jP : Nat → Int32) : Prop := ∃ (I18_32 : Int32 → Int32 → Int32 → Int32 → Int32 → Int32 → Int32 → Int32 → (Nat → Int32) → (Nat → Int32) → (Nat → Int32) → (Nat → Int32) → Int32 → Int32 → Int32 → Int32 → (Nat → Int32) → (Nat → Int32) → (Nat → Int32) → Int32 → (Nat → Int32) → Int64 → Int32 → Int32 → Int32 → Int32 → Int64 → (Nat → Int32) → (Nat → Int32) → (Nat → Int32) → (Nat → Int32) → (Nat → Int32) → Prop) (u18_32 : Int32 → Int32 → Int32 → Int32 → Int32 → Int32 → Int32 → Int32 → (Nat → Int32) → (Nat → Int32) → (Nat → Int32) → (Nat → Int32) → Int32 → Int32 → Int32 → Int32 → (Nat → Int32) → (Nat → Int32) → (Nat → Int32) → Int32 → (Nat → Int32) → Int64 → Int32 → Int32 → Int32 → Int32 → Int64 → (Nat → Int32) → (Nat → Int32) → (Nat → Int32) → (Nat → Int32) → (Nat → Int32) → Nat), I18_32 0 vLe vMo vCo vSz vTl vFo vMv fF fL fX fC wSz wTl wFo wCo gF gL gX vn fN vT kn kFe kMo kCo kT jJ jF jD jS jP ∧ ∀ (y1 : Int32) (z2 : Int32) (z3 : Int32) (z4 : Int32) (z5 : Int32) (z6 : Int32) (z7 : Int32) (z8 : Int32) (f9 : Nat → Int32) (f10 : Nat → Int32) (f11 : Nat → Int32) (f12 : Nat → Int32) (z13 : Int32) (z14 : Int32) (z15 : Int32) (z16 : Int32) (f17 : Nat → Int32) (f18 : Nat → Int32) (f19 : Nat → Int32) (z20 : Int32) (f21 : Nat → Int32) (z22 : Int64) (z23 : Int32) (z24 : Int32) (z25 : Int32) (z26 : Int32) (z27 : Int64) (f28 : Nat → Int32) (f29 : Nat → Int32) (f30 : Nat → Int32) (f31 : Nat → Int32) (f32 : Nat → Int32), I18_32 y1 z2 z3 z4 z5 z6 z7 z8 f9 f10 f11 f12 z13 z14 z15 z16 f17 f18 f19 z20 f21 z22 z23 z24 z25 z26 z27 f28 f29 f30 f31 f32 → ((((Int32.ofNat L) - (6 : Int32)) < y1 → True) ∧ (¬ ((Int32.ofNat L) - (6 : Int32)) < y1 → vp_in y1 L ∧ ((((xs (y1 : Int32).toNatClampNeg) &&& (15 : Int32)) = 0 → vp_in (y1 + (1 : Int32)) L ∧ ∃ Q35 : Int32 → Int32 → (Nat → Int32) → Prop, wp_X8_net z20 f21 (xs ((y1 + (1 : Int32)) : Int32).toNatClampNeg) Q35 ∧ ∀ (r36 : Int32) (z37 : Int32) (f38 : Nat → Int32), Q35 r36 z37 f38 → vp_in (y1 + (1 : Int32)) L ∧ ∃ Q39 : Int32 → Int32 → (Nat → Int32) → Prop, wp_X9_net z23 f28 (xs ((y1 + (1 : Int32)) : Int32).toNatClampNeg) Q39 ∧ ∀ (r40 : Int32) (z41 : Int32) (f42 : Nat → Int32), Q39 r40 z41 f42 → ((r36 = r40 → ∀ x44 : Int32, x44 = y1 + 6 → I18_32 x44 z2 z3 z4 z5 z6 z7 z8 f9 f10 f11 f12 z13 z14 z15 z16 f17 f18 f19 z37 f38 z22 z41 z24 z25 z26 z27 f42 f29 f30 f31 f32 ∧ u18_32 x44 z2 z3 z4 z5 z6 z7 z8 f9 f10 f11 f12 z13 z14 z15 z16 f17 f18 f19 z37 f38 z22 z41 z24 z25 z26 z27 f42 f29 f30 f31 f32 < u18_32 y1 z2 z3 z4 z5 z6 z7 z8 f9 f10 f11 f12 z13 z14 z15 z16 f17 f18 f19 z20 f21 z22 z23 z24 z25 z26 z27 f28 f29 f30 f31 f32) ∧ (¬ r36 = r40 → False))) ∧ (((xs (y1 : Int32).toNatClampNeg) &&& (15 : Int32)) = 1 → vp_in (y1 + (1 : Int32)) L ∧ vp_in (y1 + (2 : Int32)) L ∧ vp_in (y1 + (3 : Int32)) L ∧ ∃ Q46 : Int32 → (Nat → Int32) → Prop, wp_X8_join z20 f21 (xs ((y1 + (1 : Int32)) : Int32).toNatClampNeg) (xs ((y1 + (2 : Int32)) : Int32).toNatClampNeg) (xs ((y1 + (3 : Int32)) : Int32).toNatClampNeg) Q46 ∧ ∀ (r47 : Int32) (f48 : Nat → Int32), Q46 r47 f48 → vp_in (y1 + (1 : Int32)) L ∧ vp_in (y1 + (2 : Int32)) L ∧ vp_in (y1 + (3 : Int32)) L ∧ ∃ Q49 : Int32 → (Nat → Int32) → Prop, wp_X9_join z23 f28 (xs ((y1 + (1 : Int32)) : Int32).toNatClampNeg) (xs ((y1 + (2 : Int32)) : Int32).toNatClampNeg) (xs ((y1 + (3 : Int32)) : Int32).toNatClampNeg) Q49 ∧ ∀ (r50 : Int32) (f51 : Nat → Int32), Q49 r50 f51 → ((r47 = r50 → ∀ x53 : Int32, x53 = y1 + 6 → I18_32 x53 z2 z3 z4 z5 z6 z7 z8 f9 f10 f11 f12 z13 z14 z15 z16 f17 f18 f19 z20 f48 z22 z23 z24 z25 z26 z27 f51 f29 f30 f31 f32 ∧ u18_32 x53 z2 z3 z4 z5 z6 z7 z8 f9 f10 f11 f12 z13 z14 z15 z16 f17 f18 f19 z20 f48 z22 z23 z24 z25 z26 z27 f51 f29 f30 f31 f32 < u18_32 y1 z2 z3 z4 z5 z6 z7 z8 f9 f10 f11 f12 z13 z14 z15 z16 f17 f18 f19 z20 f21 z22 z23 z24 z25 z26 z27 f28 f29 f30 f31 f32) ∧ (¬ r47 = r50 → False))) ∧ (((xs (y1 : Int32).toNatClampNeg) &&& (15 : Int32)) = 2 → vp_in (y1 + (1 : Int32)) L ∧ ∃ Q55 : Int32 → Int32 → (Nat → Int32) → Prop, wp_X8_shape z20 f21 (xs ((y1 + (1 : Int32)) : Int32).toNatClampNeg) Q55 ∧ ∀ (r56 : Int32) (z57 : Int32) (f58 : Nat → Int32), Q55 r56 z57 f58 → vp_in (y1 + (1 : Int32)) L ∧ ∃ Q59 : Int32 → (Nat → Int32) → Prop, wp_X9_shape z23 f28 (xs ((y1 + (1 : Int32)) : Int32).toNatClampNeg) Q59 ∧ ∀ (r60 : Int32) (f61 : Nat → Int32), Q59 r60 f61 → ((r56 = r60 → ∀ x63 : Int32, x63 = y1 + 6 → I18_32 x63 z2 z3 z4 z5 z6 z7 z8 f9 f10 f11 f12 z13 z14 z15 z16 f17 f18 f19 z57 f58 z22 z23 z24 z25 z26 z27 f61 f29 f30 f31 f32 ∧ u18_32 x63 z2 z3 z4 z5 z6 z7 z8 f9 f10 f11 f12 z13 z14 z15 z16 f17 f18 f19 z57 f58 z22 z23 z24 z25 z26 z27 f61 f29 f30 f31 f32 < u18_32 y1 z2 z3 z4 z5 z6 z7 z8 f9 f10 f11 f12 z13 z14 z15 z16 f17 f18 f19 z20 f21 z22 z23 z24 z25 z26 z27 f28 f29 f30 f31 f32) ∧ (¬ r56 = r60 → False))) ∧ (((xs (y1 : Int32).toNatClampNeg) &&& (15 : Int32)) = 3 → vp_in (y1 + (1 : Int32)) L ∧ vp_in (y1 + (2 : Int32)) L ∧ ∃ Q65 : Int32 → Int32 → Int32 → Int32 → Prop, wp_X8_set z2 z3 z4 (xs ((y1 + (1 : Int32)) : Int32).toNatClampNeg) (xs ((y1 + (2 : Int32)) : Int32).toNatClampNeg) Q65 ∧ ∀ (r66 : Int32) (z67 : Int32) (z68 : Int32) (z69 : Int32), Q65 r66 z67 z68 z69 → vp_in (y1 + (1 : Int32)) L ∧ vp_in (y1 + (2 : Int32)) L ∧ ∃ Q70 : Int32 → Int32 → Int32 → Int32 → Prop, wp_X9_set z24 z25 z26 (xs ((y1 + (1 : Int32)) : Int32).toNatClampNeg) (xs ((y1 + (2 : Int32)) : Int32).toNatClampNeg) Q70 ∧ ∀ (r71 : Int32) (z72 : Int32) (z73 : Int32) (z74 : Int32), Q70 r71 z72 z73 z74 → ((r66 = r71 → ∀ x76 : Int32, x76 = y1 + 6 → I18_32 x76 z67 z68 z69 z5 z6 z7 z8 f9 f10 f11 f12 z13 z14 z15 z16 f17 f18 f19 z20 f21 z22 z23 z72 z73 z74 z27 f28 f29 f30 f31 f32 ∧ u18_32 x76 z67 z68 z69 z5 z6 z7 z8 f9 f10 f11 f12 z13 z14 z15 z16 f17 f18 f19 z20 f21 z22 z23 z72 z73 z74 z27 f28 f29 f30 f31 f32 < u18_32 y1 z2 z3 z4 z5 z6 z7 z8 f9 f10 f11 f12 z13 z14 z15 z16 f17 f18 f19 z20 f21 z22 z23 z24 z25 z26 z27 f28 f29 f30 f31 f32) ∧ (¬ r66 = r71 → False))) ∧ (((xs (y1 : Int32).toNatClampNeg) &&& (15 : Int32)) = 4 → vp_in (y1 + (1 : Int32)) L ∧ vp_in (y1 + (2 : Int32)) L ∧ ∃ Q78 : Int32 → Prop, wp_X8_lawful z20 f21 (xs ((y1 + (1 : Int32)) : Int32).toNatClampNeg) (xs ((y1 + (2 : Int32)) : Int32).toNatClampNeg) Q78 ∧ ∀ r79 : Int32, Q78 r79 → vp_in (y1 + (1 : Int32)) L ∧ vp_in (y1 + (2 : Int32)) L ∧ ∃ Q80 : Int32 → Prop, wp_X9_lawful z23 f28 (xs ((y1 + (1 : Int32)) : Int32).toNatClampNeg) (xs ((y1 + (2 : Int32)) : Int32).toNatClampNeg) Q80 ∧ ∀ r81 : Int32, Q80 r81 → ((r79 = r81 → ∀ x83 : Int32, x83 = y1 + 6 → I18_32 x83 z2 z3 z4 z5 z6 z7 z8 f9 f10 f11 f12 z13 z14 z15 z16 f17 f18 f19 z20 f21 z22 z23 z24 z25 z26 z27 f28 f29 f30 f31 f32 ∧ u18_32 x83 z2 z3 z4 z5 z6 z7 z8 f9 f10 f11 f12 z13 z14 z15 z16 f17 f18 f19 z20 f21 z22 z23 z24 z25 z26 z27 f28 f29 f30 f31 f32 < u18_32 y1 z2 z3 z4 z5 z6 z7 z8 f9 f10 f11 f12 z13 z14 z15 z16 f17 f18 f19 z20 f21 z22 z23 z24 z25 z26 z27 f28 f29 f30 f31 f32) ∧ (¬ r79 = r81 → False))) ∧ (((xs (y1 : Int32).toNatClampNeg) &&& (15 : Int32)) = 5 → vp_in (y1 + (1 : Int32)) L ∧ vp_in (y1 + (2 : Int32)) L ∧ ∃ Q85 : Int32 → Prop, wp_X8_count z20 f21 (xs ((y1 + (1 : Int32)) : Int32).toNatClampNeg) (xs ((y1 + (2 : Int32)) : Int32).toNatClampNeg) Q85 ∧ ∀ r86 : Int32, Q85 r86 → vp_in (y1 + (1 : Int32)) L ∧ vp_in (y1 + (2 : Int32)) L ∧ ∃ Q87 : Int32 → Prop, wp_X9_count z23 f28 (xs ((y1 + (1 : Int32)) : Int32).toNatClampNeg) (xs ((y1 + (2 : Int32)) : Int32).toNatClampNeg) Q87 ∧ ∀ r88 : Int32, Q87 r88 → ((r86 = r88 → ∀ x90 : Int32, x90 = y1 + 6 → I18_32 x90 z2 z3 z4 z5 z6 z7 z8 f9 f10 f11 f12 z13 z14 z15 z16 f17 f18 f19 z20 f21 z22 z23 z24 z25 z26 z27 f28 f29 f30 f31 f32 ∧ u18_32 x90 z2 z3 z4 z5 z6 z7 z8 f9 f10 f11 f12 z13 z14 z15 z16 f17 f18 f19 z20 f21 z22 z23 z24 z25 z26 z27 f28 f29 f30 f31 f32 < u18_32 y1 z2 z3 z4 z5 z6 z7 z8 f9 f10 f11 f12 z13 z14 z15 z16 f17 f18 f19 z20 f21 z22 z23 z24 z25 z26 z27 f28 f29 f30 f31 f32) ∧ (¬ r86 = r88 → False))) ∧ (((xs (y1 : Int32).toNatClampNeg) &&& (15 : Int32)) = 6 → vp_in (y1 + (1 : Int32)) L ∧ vp_in (y1 + (2 : Int32)) L ∧ vp_in (y1 + (3 : Int32)) L ∧ ∃ Q92 : Int32 → Int64 → Prop, wp_X8_weight z20 f21 z22 (xs ((y1 + (1 : Int32)) : Int32).toNatClampNeg) (xs ((y1 + (2 : Int32)) : Int32).toNatClampNeg) (xs ((y1 + (3 : Int32)) : Int32).toNatClampNeg) Q92 ∧ ∀ (r93 : Int32) (z94 : Int64), Q92 r93 z94 → vp_in (y1 + (1 : Int32)) L ∧ vp_in (y1 + (2 : Int32)) L ∧ vp_in (y1 + (3 : Int32)) L ∧ ∃ Q95 : Int32 → Int64 → Prop, wp_X9_weight z23 z27 f28 (xs ((y1 + (1 : Int32)) : Int32).toNatClampNeg) (xs ((y1 + (2 : Int32)) : Int32).toNatClampNeg) (xs ((y1 + (3 : Int32)) : Int32).toNatClampNeg) Q95 ∧ ∀ (r96 : Int32) (z97 : Int64), Q95 r96 z97 → ((r93 = r96 → ∀ x99 : Int32, x99 = y1 + 6 → I18_32 x99 z2 z3 z4 z5 z6 z7 z8 f9 f10 f11 f12 z13 z14 z15 z16 f17 f18 f19 z20 f21 z94 z23 z24 z25 z26 z97 f28 f29 f30 f31 f32 ∧ u18_32 x99 z2 z3 z4 z5 z6 z7 z8 f9 f10 f11 f12 z13 z14 z15 z16 f17 f18 f19 z20 f21 z94 z23 z24 z25 z26 z97 f28 f29 f30 f31 f32 < u18_32 y1 z2 z3 z4 z5 z6 z7 z8 f9 f10 f11 f12 z13 z14 z15 z16 f17 f18 f19 z20 f21 z22 z23 z24 z25 z26 z27 f28 f29 f30 f31 f32) ∧ (¬ r93 = r96 → False))) ∧ (((xs (y1 : Int32).toNatClampNeg) &&& (15 : Int32)) = 7 → vp_in (y1 + (1 : Int32)) L ∧ vp_in (y1 + (2 : Int32)) L ∧ vp_in (y1 + (3 : Int32)) L ∧ vp_in (y1 + (4 : Int32)) L ∧ vp_in (y1 + (5 : Int32)) L ∧ ∃ Q101 : Int32 → Int32 → Int32 → Int32 → Int32 → (Nat → Int32) → (Nat → Int32) → (Nat → Int32) → (Nat → Int32) → Prop, wp_X8_walk z2 z3 z5 z6 z7 z8 f9 f10 f11 f12 z20 f21 (xs ((y1 + (1 : Int32)) : Int32).toNatClampNeg) (xs ((y1 + (2 : Int32)) : Int32).toNatClampNeg) (xs ((y1 + (3 : Int32)) : Int32).toNatClampNeg) (xs ((y1 + (4 : Int32)) : Int32).toNatClampNeg) (xs ((y1 + (5 : Int32)) : Int32).toNatClampNeg) Q101 ∧ ∀ (r102 : Int32) (z103 : Int32) (z104 : Int32) (z105 : Int32) (z106 : Int32) (f107 : Nat → Int32) (f108 : Nat → Int32) (f109 : Nat → Int32) (f110 : Nat → Int32), Q101 r102 z103 z104 z105 z106 f107 f108 f109 f110 → vp_in (y1 + (1 : Int32)) L ∧ vp_in (y1 + (2 : Int32)) L ∧ vp_in (y1 + (3 : Int32)) L ∧ vp_in (y1 + (4 : Int32)) L ∧ vp_in (y1 + (5 : Int32)) L ∧ ∃ Q111 : Int32 → (Nat → Int32) → (Nat → Int32) → Prop, wp_X9_walk z23 z24 z25 f28 f29 f30 (xs ((y1 + (1 : Int32)) : Int32).toNatClampNeg) (xs ((y1 + (2 : Int32)) : Int32).toNatClampNeg) (xs ((y1 + (3 : Int32)) : Int32).toNatClampNeg) (xs ((y1 + (4 : Int32)) : Int32).toNatClampNeg) (xs ((y1 + (5 : Int32)) : Int32).toNatClampNeg) Q111 ∧ ∀ (r112 : Int32) (f113 : Nat → Int32) (f114 : Nat → Int32), Q111 r112 f113 f114 → ((r102 = r112 → ∀ x116 : Int32, x116 = y1 + 6 → I18_32 x116 z2 z3 z4 z103 z104 z105 z106 f107 f108 f109 f110 z13 z14 z15 z16 f17 f18 f19 z20 f21 z22 z23 z24 z25 z26 z27 f28 f113 f114 f31 f32 ∧ u18_32 x116 z2 z3 z4 z103 z104 z105 z106 f107 f108 f109 f110 z13 z14 z15 z16 f17 f18 f19 z20 f21 z22 z23 z24 z25 z26 z27 f28 f113 f114 f31 f32 < u18_32 y1 z2 z3 z4 z5 z6 z7 z8 f9 f10 f11 f12 z13 z14 z15 z16 f17 f18 f19 z20 f21 z22 z23 z24 z25 z26 z27 f28 f29 f30 f31 f32) ∧ (¬ r102 = r112 → False))) ∧ (((xs (y1 : Int32).toNatClampNeg) &&& (15 : Int32)) = 8 → vp_in (y1 + (1 : Int32)) L ∧ vp_in (y1 + (2 : Int32)) L ∧ vp_in (y1 + (3 : Int32)) L ∧ vp_in (y1 + (4 : Int32)) L ∧ ∃ Q118 : Int32 → Int32 → Int32 → Int32 → Int32 → (Nat → Int32) → (Nat → Int32) → (Nat → Int32) → (Nat → Int32) → Prop, wp_X8_reach z2 z3 z5 z6 z7 z8 f9 f10 f11 f12 z20 f21 (xs ((y1 + (1 : Int32)) : Int32).toNatClampNeg) (xs ((y1 + (2 : Int32)) : Int32).toNatClampNeg) (xs ((y1 + (3 : Int32)) : Int32).toNatClampNeg) (xs ((y1 + (4 : Int32)) : Int32).toNatClampNeg) Q118 ∧ ∀ (r119 : Int32) (z120 : Int32) (z121 : Int32) (z122 : Int32) (z123 : Int32) (f124 : Nat → Int32) (f125 : Nat → Int32) (f126 : Nat → Int32) (f127 : Nat → Int32), Q118 r119 z120 z121 z122 z123 f124 f125 f126 f127 → vp_in (y1 + (1 : Int32)) L ∧ vp_in (y1 + (2 : Int32)) L ∧ vp_in (y1 + (3 : Int32)) L ∧ vp_in (y1 + (4 : Int32)) L ∧ ∃ Q128 : Int32 → (Nat → Int32) → (Nat → Int32) → Prop, wp_X9_reach z23 z24 z25 f28 f29 f30 (xs ((y1 + (1 : Int32)) : Int32).toNatClampNeg) (xs ((y1 + (2 : Int32)) : Int32).toNatClampNeg) (xs ((y1 + (3 : Int32)) : Int32).toNatClampNeg) (xs ((y1 + (4 : Int32)) : Int32).toNatClampNeg) Q128 ∧ ∀ (r129 : Int32) (f130 : Nat → Int32) (f131 : Nat → Int32), Q128 r129 f130 f131 → ((r119 = r129 → ∀ x133 : Int32, x133 = y1 + 6 → I18_32 x133 z2 z3 z4 z120 z121 z122 z123 f124 f125 f126 f127 z13 z14 z15 z16 f17 f18 f19 z20 f21 z22 z23 z24 z25 z26 z27 f28 f130 f131 f31 f32 ∧ u18_32 x133 z2 z3 z4 z120 z121 z122 z123 f124 f125 f126 f127 z13 z14 z15 z16 f17 f18 f19 z20 f21 z22 z23 z24 z25 z26 z27 f28 f130 f131 f31 f32 < u18_32 y1 z2 z3 z4 z5 z6 z7 z8 f9 f10 f11 f12 z13 z14 z15 z16 f17 f18 f19 z20 f21 z22 z23 z24 z25 z26 z27 f28 f29 f30 f31 f32) ∧ (¬ r119 = r129 → False))) ∧ (((xs (y1 : Int32).toNatClampNeg) &&& (15 : Int32)) = 9 → vp_in (y1 + (1 : Int32)) L ∧ vp_in (y1 + (2 : Int32)) L ∧ vp_in (y1 + (3 : Int32)) L ∧ ∃ Q135 : Int32 → Int32 → Int32 → Int32 → Int32 → (Nat → Int32) → (Nat → Int32) → (Nat → Int32) → (Nat → Int32) → Prop, wp_X8_parts z2 z3 z5 z6 z7 z8 f9 f10 f11 f12 z20 f21 (xs ((y1 + (1 : Int32)) : Int32).toNatClampNeg) (xs ((y1 + (2 : Int32)) : Int32).toNatClampNeg) (xs ((y1 + (3 : Int32)) : Int32).toNatClampNeg) Q135 ∧ ∀ (r136 : Int32) (z137 : Int32) (z138 : Int32) (z139 : Int32) (z140 : Int32) (f141 : Nat → Int32) (f142 : Nat → Int32) (f143 : Nat → Int32) (f144 : Nat → Int32), Q135 r136 z137 z138 z139 z140 f141 f142 f143 f144 → vp_in (y1 + (1 : Int32)) L ∧ vp_in (y1 + (2 : Int32)) L ∧ vp_in (y1 + (3 : Int32)) L ∧ ∃ Q145 : Int32 → (Nat → Int32) → (Nat → Int32) → Prop, wp_X9_parts z23 z24 z25 f28 f29 f30 (xs ((y1 + (1 : Int32)) : Int32).toNatClampNeg) (xs ((y1 + (2 : Int32)) : Int32).toNatClampNeg) (xs ((y1 + (3 : Int32)) : Int32).toNatClampNeg) Q145 ∧ ∀ (r146 : Int32) (f147 : Nat → Int32) (f148 : Nat → Int32), Q145 r146 f147 f148 → ((r136 = r146 → ∀ x150 : Int32, x150 = y1 + 6 → I18_32 x150 z2 z3 z4 z137 z138 z139 z140 f141 f142 f143 f144 z13 z14 z15 z16 f17 f18 f19 z20 f21 z22 z23 z24 z25 z26 z27 f28 f147 f148 f31 f32 ∧ u18_32 x150 z2 z3 z4 z137 z138 z139 z140 f141 f142 f143 f144 z13 z14 z15 z16 f17 f18 f19 z20 f21 z22 z23 z24 z25 z26 z27 f28 f147 f148 f31 f32 < u18_32 y1 z2 z3 z4 z5 z6 z7 z8 f9 f10 f11 f12 z13 z14 z15 z16 f17 f18 f19 z20 f21 z22 z23 z24 z25 z26 z27 f28 f29 f30 f31 f32) ∧ (¬ r136 = r146 → False))) ∧ (((xs (y1 : Int32).toNatClampNeg) &&& (15 : Int32)) = 10 → vp_in (y1 + (1 : Int32)) L ∧ ∃ Q152 : Int32 → Prop, wp_X8_proper z4 z20 f21 (xs ((y1 + (1 : Int32)) : Int32).toNatClampNeg) Q152 ∧ ∀ r153 : Int32, Q152 r153 → vp_in (y1 + (1 : Int32)) L ∧ ∃ Q154 : Int32 → Prop, wp_X9_proper z23 z26 f28 (xs ((y1 + (1 : Int32)) : Int32).toNatClampNeg) Q154 ∧ ∀ r155 : Int32, Q154 r155 → ((r153 = r155 → ∀ x157 : Int32, x157 = y1 + 6 → I18_32 x157 z2 z3 z4 z5 z6 z7 z8 f9 f10 f11 f12 z13 z14 z15 z16 f17 f18 f19 z20 f21 z22 z23 z24 z25 z26 z27 f28 f29 f30 f31 f32 ∧ u18_32 x157 z2 z3 z4 z5 z6 z7 z8 f9 f10 f11 f12 z13 z14 z15 z16 f17 f18 f19 z20 f21 z22 z23 z24 z25 z26 z27 f28 f29 f30 f31 f32 < u18_32 y1 z2 z3 z4 z5 z6 z7 z8 f9 f10 f11 f12 z13 z14 z15 z16 f17 f18 f19 z20 f21 z22 z23 z24 z25 z26 z27 f28 f29 f30 f31 f32) ∧ (¬ r153 = r155 → False))) ∧ (((xs (y1 : Int32).toNatClampNeg) &&& (15 : Int32)) = 11 → vp_in (y1 + (1 : Int32)) L ∧ vp_in (y1 + (2 : Int32)) L ∧ ∃ Q159 : Int32 → Int32 → Int32 → Int32 → Int32 → (Nat → Int32) → (Nat → Int32) → (Nat → Int32) → Prop, wp_X8_shades z4 z13 z14 z15 z16 f17 f18 f19 z20 f21 (xs ((y1 + (1 : Int32)) : Int32).toNatClampNeg) (xs ((y1 + (2 : Int32)) : Int32).toNatClampNeg) Q159 ∧ ∀ (r160 : Int32) (z161 : Int32) (z162 : Int32) (z163 : Int32) (z164 : Int32) (f165 : Nat → Int32) (f166 : Nat → Int32) (f167 : Nat → Int32), Q159 r160 z161 z162 z163 z164 f165 f166 f167 → vp_in (y1 + (1 : Int32)) L ∧ vp_in (y1 + (2 : Int32)) L ∧ ∃ Q168 : Int32 → (Nat → Int32) → (Nat → Int32) → Prop, wp_X9_shades z23 z26 f28 f31 f32 (xs ((y1 + (1 : Int32)) : Int32).toNatClampNeg) (xs ((y1 + (2 : Int32)) : Int32).toNatClampNeg) Q168 ∧ ∀ (r169 : Int32) (f170 : Nat → Int32) (f171 : Nat → Int32), Q168 r169 f170 f171 → ((r160 = r169 → ∀ x173 : Int32, x173 = y1 + 6 → I18_32 x173 z2 z3 z4 z5 z6 z7 z8 f9 f10 f11 f12 z161 z162 z163 z164 f165 f166 f167 z20 f21 z22 z23 z24 z25 z26 z27 f28 f29 f30 f170 f171 ∧ u18_32 x173 z2 z3 z4 z5 z6 z7 z8 f9 f10 f11 f12 z161 z162 z163 z164 f165 f166 f167 z20 f21 z22 z23 z24 z25 z26 z27 f28 f29 f30 f170 f171 < u18_32 y1 z2 z3 z4 z5 z6 z7 z8 f9 f10 f11 f12 z13 z14 z15 z16 f17 f18 f19 z20 f21 z22 z23 z24 z25 z26 z27 f28 f29 f30 f31 f32) ∧ (¬ r160 = r169 → False))) ∧ (((xs (y1 : Int32).toNatClampNeg) &&& (15 : Int32)) = 12 → vp_in (y1 + (1 : Int32)) L ∧ ∃ Q175 : Int32 → Int32 → Int32 → Int32 → Int32 → (Nat → Int32) → (Nat → Int32) → (Nat → Int32) → Prop, wp_X8_heaps z4 z13 z14 z15 z16 f17 f18 f19 z20 f21 (xs ((y1 + (1 : Int32)) : Int32).toNatClampNeg) Q175 ∧ ∀ (r176 : Int32) (z177 : Int32) (z178 : Int32) (z179 : Int32) (z180 : Int32) (f181 : Nat → Int32) (f182 : Nat → Int32) (f183 : Nat → Int32), Q175 r176 z177 z178 z179 z180 f181 f182 f183 → vp_in (y1 + (1 : Int32)) L ∧ ∃ Q184 : Int32 → (Nat → Int32) → (Nat → Int32) → Prop, wp_X9_heaps z23 z26 f28 f31 f32 (xs ((y1 + (1 : Int32)) : Int32).toNatClampNeg) Q184 ∧ ∀ (r185 : Int32) (f186 : Nat → Int32) (f187 : Nat → Int32), Q184 r185 f186 f187 → ((r176 = r185 → ∀ x189 : Int32, x189 = y1 + 6 → I18_32 x189 z2 z3 z4 z5 z6 z7 z8 f9 f10 f11 f12 z177 z178 z179 z180 f181 f182 f183 z20 f21 z22 z23 z24 z25 z26 z27 f28 f29 f30 f186 f187 ∧ u18_32 x189 z2 z3 z4 z5 z6 z7 z8 f9 f10 f11 f12 z177 z178 z179 z180 f181 f182 f183 z20 f21 z22 z23 z24 z25 z26 z27 f28 f29 f30 f186 f187 < u18_32 y1 z2 z3 z4 z5 z6 z7 z8 f9 f10 f11 f12 z13 z14 z15 z16 f17 f18 f19 z20 f21 z22 z23 z24 z25 z26 z27 f28 f29 f30 f31 f32) ∧ (¬ r176 = r185 → False))) ∧ (((xs (y1 : Int32).toNatClampNeg) &&& (15 : Int32)) = 13 → vp_in (y1 + (1 : Int32)) L ∧ ∃ Q191 : Int32 → Prop, wp_X8_told z2 z3 z4 z20 f21 (xs ((y1 + (1 : Int32)) : Int32).toNatClampNeg) Q191 ∧ ∀ r192 : Int32, Q191 r192 → vp_in (y1 + (1 : Int32)) L ∧ ∃ Q193 : Int32 → Prop, wp_X9_told z23 z24 z25 z26 f28 (xs ((y1 + (1 : Int32)) : Int32).toNatClampNeg) Q193 ∧ ∀ r194 : Int32, Q193 r194 → ((r192 = r194 → ∀ x196 : Int32, x196 = y1 + 6 → I18_32 x196 z2 z3 z4 z5 z6 z7 z8 f9 f10 f11 f12 z13 z14 z15 z16 f17 f18 f19 z20 f21 z22 z23 z24 z25 z26 z27 f28 f29 f30 f31 f32 ∧ u18_32 x196 z2 z3 z4 z5 z6 z7 z8 f9 f10 f11 f12 z13 z14 z15 z16 f17 f18 f19 z20 f21 z22 z23 z24 z25 z26 z27 f28 f29 f30 f31 f32 < u18_32 y1 z2 z3 z4 z5 z6 z7 z8 f9 f10 f11 f12 z13 z14 z15 z16 f17 f18 f19 z20 f21 z22 z23 z24 z25 z26 z27 f28 f29 f30 f31 f32) ∧ (¬ r192 = r194 → False))) ∧ (((xs (y1 : Int32).toNatClampNeg) &&& (15 : Int32)) = 14 → ∃ Q198 : Int64 → Prop, wp_X8_trace z22 Q198 ∧ ∀ r199 : Int64, Q198 r199 → ∃ Q200 : Int64 → Prop, wp_X9_trace z27 Q200 ∧ ∀ r201 : Int64, Q200 r201 → (((lg_cmp r199 r201) = 0 → ∀ x203 : Int32, x203 = y1 + 6 → I18_32 x203 z2 z3 z4 z5 z6 z7 z8 f9 f10 f11 f12 z13 z14 z15 z16 f17 f18 f19 z20 f21 z22 z23 z24 z25 z26 z27 f28 f29 f30 f31 f32 ∧ u18_32 x203 z2 z3 z4 z5 z6 z7 z8 f9 f10 f11 f12 z13 z14 z15 z16 f17 f18 f19 z20 f21 z22 z23 z24 z25 z26 z27 f28 f29 f30 f31 f32 < u18_32 y1 z2 z3 z4 z5 z6 z7 z8 f9 f10 f11 f12 z13 z14 z15 z16 f17 f18 f19 z20 f21 z22 z23 z24 z25 z26 z27 f28 f29 f30 f31 f32) ∧ (¬ (lg_cmp r199 r201) = 0 → False))) ∧ (¬ ((xs (y1 : Int32).toNatClampNeg) &&& (15 : Int32)) = 0 → ¬ ((xs (y1 : Int32).toNatClampNeg) &&& (15 : Int32)) = 1 → ¬ ((xs (y1 : Int32).toNatClampNeg) &&& (15 : Int32)) = 2 → ¬ ((xs (y1 : Int32).toNatClampNeg) &&& (15 : Int32)) = 3 → ¬ ((xs (y1 : Int32).toNatClampNeg) &&& (15 : Int32)) = 4 → ¬ ((xs (y1 : Int32).toNatClampNeg) &&& (15 : Int32)) = 5 → ¬ ((xs (y1 : Int32).toNatClampNeg) &&& (15 : Int32)) = 6 → ¬ ((xs (y1 : Int32).toNatClampNeg) &&& (15 : Int32)) = 7 → ¬ ((xs (y1 : Int32).toNatClampNeg) &&& (15 : Int32)) = 8 → ¬ ((xs (y1 : Int32).toNatClampNeg) &&& (15 : Int32)) = 9 → ¬ ((xs (y1 : Int32).toNatClampNeg) &&& (15 : Int32)) = 10 → ¬ ((xs (y1 : Int32).toNatClampNeg) &&& (15 : Int32)) = 11 → ¬ ((xs (y1 : Int32).toNatClampNeg) &&& (15 : Int32)) = 12 → ¬ ((xs (y1 : Int32).toNatClampNeg) &&& (15 : Int32)) = 13 → ¬ ((xs (y1 : Int32).toNatClampNeg) &&& (15 : Int32)) = 14 → ∀ x204 : Int32, x204 = y1 + 6 → I18_32 x204 z2 z3 z4 z5 z6 z7 z8 f9 f10 f11 f12 z13 z14 z15 z16 f17 f18 f19 z20 f21 z22 z23 z24 z25 z26 z27 f28 f29 f30 f31 f32 ∧ u18_32 x204 z2 z3 z4 z5 z6 z7 z8 f9 f10 f11 f12 z13 z14 z15 z16 f17 f18 f19 z20 f21 z22 z23 z24 z25 z26 z27 f28 f29 f30 f31 f32 < u18_32 y1 z2 z3 z4 z5 z6 z7 z8 f9 f10 f11 f12 z13 z14 z15 z16 f17 f18 f19 z20 f21 z22 z23 z24 z25 z26 z27 f28 f29 f30 f31 f32))))
set_option maxHeartbeats 8000000 in
set_option maxRecDepth 100000 in
theorem ct_law {p : Program} {l : Launch} {e : Env} {s : State} {m : MethodId} {below : List Frame} {meth : Method} {c : Code} {b L : Nat} {xs : Nat → Int32} (C0 : lw_At p s m meth c b L xs) (G : va_G) (cy : Nat → ClassId) (a0 aM aF aL aX aC aP bF bL bX aN aR aW aS aJ aB aT m0 mJ mF mD mS mP : Nat) (vLe : Int32) (vMo : Int32) (vCo : Int32) (vSz : Int32) (vTl : Int32) (vFo : Int32) (vMv : Int32) (fF : Nat → Int32) (fL : Nat → Int32) (fX : Nat → Int32) (fC : Nat → Int32) (wSz : Int32) (wTl : Int32) (wFo : Int32) (wCo : Int32) (gF : Nat → Int32) (gL : Nat → Int32) (gX : Nat → Int32) (vn : Int32) (fN : Nat → Int32) (vT : Int64) (kn : Int32) (kFe : Int32) (kMo : Int32) (kCo : Int32) (kT : Int64) (jJ : Nat → Int32) (jF : Nat → Int32) (jD : Nat → Int32) (jS : Nat → Int32) (jP : Nat → Int32) (h : wp_law L xs vLe vMo vCo vSz vTl vFo vMv fF fL fX fC wSz wTl wFo wCo gF gL gX vn fN vT kn kFe kMo kCo kT jJ jF jD jS jP) (hK : KK G cy s) (H : Heap) (locs : List Loc) (hP : va_P G vwCl [(a0, .inr (7, [.ref aN, .ref aM, .ref aP, .ref aW, .ref aT, .int vLe, .int vMo, .int vCo])), (aM, .inr (2, [.ref aF, .ref aL, .ref aX, .int vSz, .int vTl, .int vFo, .ref aN, .ref aC, .int vMv])), (aF, .inl (cy 0, 512, .inl fF)), (aL, .inl (cy 0, 512, .inl fL)), (aX, .inl (cy 0, 81, .inl fX)), (aC, .inl (cy 0, 81, .inl fC)), (aP, .inr (4, [.ref bF, .ref bL, .ref bX, .int wSz, .int wTl, .int wFo, .ref aN, .int wCo])), (bF, .inl (cy 0, 4096, .inl gF)), (bL, .inl (cy 0, 4096, .inl gL)), (bX, .inl (cy 0, 24, .inl gX)), (aN, .inr (3, [.ref aR, .int vn])), (aR, .inl (cy 0, 9, .inl fN)), (aW, .inl (cy 2, 3, .inr (.inr (.inr (.inr (wgh aS aJ aB)))))), (aS, .inr (5, [])), (aJ, .inr (1, [])), (aB, .inr (0, [])), (aT, .inr (6, [.long vT])), (m0, .inr (8, [.int kn, .ref mJ, .int kFe, .int kMo, .int kCo, .long kT, .ref mF, .ref mD, .ref mS, .ref mP])), (mJ, .inl (cy 0, 9, .inl jJ)), (mF, .inl (cy 0, 512, .inl jF)), (mD, .inl (cy 1, 512, .inl jD)), (mS, .inl (cy 0, 4096, .inl jS)), (mP, .inl (cy 0, 4096, .inl jP))] H) (hD : va_D (fun q => s.heap.size ≤ q) [(a0, .inr (7, [.ref aN, .ref aM, .ref aP, .ref aW, .ref aT, .int vLe, .int vMo, .int vCo])), (aM, .inr (2, [.ref aF, .ref aL, .ref aX, .int vSz, .int vTl, .int vFo, .ref aN, .ref aC, .int vMv])), (aF, .inl (cy 0, 512, .inl fF)), (aL, .inl (cy 0, 512, .inl fL)), (aX, .inl (cy 0, 81, .inl fX)), (aC, .inl (cy 0, 81, .inl fC)), (aP, .inr (4, [.ref bF, .ref bL, .ref bX, .int wSz, .int wTl, .int wFo, .ref aN, .int wCo])), (bF, .inl (cy 0, 4096, .inl gF)), (bL, .inl (cy 0, 4096, .inl gL)), (bX, .inl (cy 0, 24, .inl gX)), (aN, .inr (3, [.ref aR, .int vn])), (aR, .inl (cy 0, 9, .inl fN)), (aW, .inl (cy 2, 3, .inr (.inr (.inr (.inr (wgh aS aJ aB)))))), (aS, .inr (5, [])), (aJ, .inr (1, [])), (aB, .inr (0, [])), (aT, .inr (6, [.long vT])), (m0, .inr (8, [.int kn, .ref mJ, .int kFe, .int kMo, .int kCo, .long kT, .ref mF, .ref mD, .ref mS, .ref mP])), (mJ, .inl (cy 0, 9, .inl jJ)), (mF, .inl (cy 0, 512, .inl jF)), (mD, .inl (cy 1, 512, .inl jD)), (mS, .inl (cy 0, 4096, .inl jS)), (mP, .inl (cy 0, 4096, .inl jP))]) (hS : va_S (fun q => s.heap.size ≤ q) s.heap H locs) (ls : Array Slot) (hl : lv_has ls 4 [(0, .ref b), (1, .ref a0), (2, .ref m0), (3, .int 0)]) : W p l e room_1 s m #[Value.ref b] below meth c H locs 23 18677 (lw_Z below #[Value.ref b] s) (F0 m 18 ls []) := by
  unfold wp_law at h
  obtain ⟨hx, hb, hr, hml, hown, hts0, hX, hbl, hlocks, hgv⟩ := C0
  have hts : ∀ w ∈ wsLE, w.before #[Value.ref b] s = true := fun w hw => hts0 w (wsLE_in w hw)
  generalize hAe : (fun q => s.heap.size ≤ q) = A at hD hS
  have hAe := hAe.symm
  have hA : ∀ q : Nat, s.heap.size ≤ q → A q := fun q h9 => by rw [hAe]; exact h9
  have hbA : ¬ A b := by rw [hAe]; exact Nat.not_le.mpr hbl
  obtain ⟨I18_32, u18_32, h018, hst18⟩ := h
  have key18 : ∀ (k9 : Nat) (y1 : Int32) (z2 : Int32) (z3 : Int32) (z4 : Int32) (z5 : Int32) (z6 : Int32) (z7 : Int32) (z8 : Int32) (f9 : Nat → Int32) (f10 : Nat → Int32) (f11 : Nat → Int32) (f12 : Nat → Int32) (z13 : Int32) (z14 : Int32) (z15 : Int32) (z16 : Int32) (f17 : Nat → Int32) (f18 : Nat → Int32) (f19 : Nat → Int32) (z20 : Int32) (f21 : Nat → Int32) (z22 : Int64) (z23 : Int32) (z24 : Int32) (z25 : Int32) (z26 : Int32) (z27 : Int64) (f28 : Nat → Int32) (f29 : Nat → Int32) (f30 : Nat → Int32) (f31 : Nat → Int32) (f32 : Nat → Int32), I18_32 y1 z2 z3 z4 z5 z6 z7 z8 f9 f10 f11 f12 z13 z14 z15 z16 f17 f18 f19 z20 f21 z22 z23 z24 z25 z26 z27 f28 f29 f30 f31 f32 → u18_32 y1 z2 z3 z4 z5 z6 z7 z8 f9 f10 f11 f12 z13 z14 z15 z16 f17 f18 f19 z20 f21 z22 z23 z24 z25 z26 z27 f28 f29 f30 f31 f32 < k9 → ∀ (H : Heap) (locs : List Loc), va_P G vwCl [(a0, .inr (7, [.ref aN, .ref aM, .ref aP, .ref aW, .ref aT, .int z2, .int z3, .int z4])), (aM, .inr (2, [.ref aF, .ref aL, .ref aX, .int z5, .int z6, .int z7, .ref aN, .ref aC, .int z8])), (aF, .inl (cy 0, 512, .inl f9)), (aL, .inl (cy 0, 512, .inl f10)), (aX, .inl (cy 0, 81, .inl f11)), (aC, .inl (cy 0, 81, .inl f12)), (aP, .inr (4, [.ref bF, .ref bL, .ref bX, .int z13, .int z14, .int z15, .ref aN, .int z16])), (bF, .inl (cy 0, 4096, .inl f17)), (bL, .inl (cy 0, 4096, .inl f18)), (bX, .inl (cy 0, 24, .inl f19)), (aN, .inr (3, [.ref aR, .int z20])), (aR, .inl (cy 0, 9, .inl f21)), (aW, .inl (cy 2, 3, .inr (.inr (.inr (.inr (wgh aS aJ aB)))))), (aS, .inr (5, [])), (aJ, .inr (1, [])), (aB, .inr (0, [])), (aT, .inr (6, [.long z22])), (m0, .inr (8, [.int z23, .ref mJ, .int z24, .int z25, .int z26, .long z27, .ref mF, .ref mD, .ref mS, .ref mP])), (mJ, .inl (cy 0, 9, .inl f28)), (mF, .inl (cy 0, 512, .inl f29)), (mD, .inl (cy 1, 512, .inl f30)), (mS, .inl (cy 0, 4096, .inl f31)), (mP, .inl (cy 0, 4096, .inl f32))] H → va_D A [(a0, .inr (7, [.ref aN, .ref aM, .ref aP, .ref aW, .ref aT, .int z2, .int z3, .int z4])), (aM, .inr (2, [.ref aF, .ref aL, .ref aX, .int z5, .int z6, .int z7, .ref aN, .ref aC, .int z8])), (aF, .inl (cy 0, 512, .inl f9)), (aL, .inl (cy 0, 512, .inl f10)), (aX, .inl (cy 0, 81, .inl f11)), (aC, .inl (cy 0, 81, .inl f12)), (aP, .inr (4, [.ref bF, .ref bL, .ref bX, .int z13, .int z14, .int z15, .ref aN, .int z16])), (bF, .inl (cy 0, 4096, .inl f17)), (bL, .inl (cy 0, 4096, .inl f18)), (bX, .inl (cy 0, 24, .inl f19)), (aN, .inr (3, [.ref aR, .int z20])), (aR, .inl (cy 0, 9, .inl f21)), (aW, .inl (cy 2, 3, .inr (.inr (.inr (.inr (wgh aS aJ aB)))))), (aS, .inr (5, [])), (aJ, .inr (1, [])), (aB, .inr (0, [])), (aT, .inr (6, [.long z22])), (m0, .inr (8, [.int z23, .ref mJ, .int z24, .int z25, .int z26, .long z27, .ref mF, .ref mD, .ref mS, .ref mP])), (mJ, .inl (cy 0, 9, .inl f28)), (mF, .inl (cy 0, 512, .inl f29)), (mD, .inl (cy 1, 512, .inl f30)), (mS, .inl (cy 0, 4096, .inl f31)), (mP, .inl (cy 0, 4096, .inl f32))] → va_S A s.heap H locs → ∀ (ls : Array Slot), lv_has ls 4 [(0, .ref b), (1, .ref a0), (2, .ref m0), (3, .int y1)] → W p l e room_1 s m #[Value.ref b] below meth c H locs 23 18677 (lw_Z below #[Value.ref b] s) (F0 m 18 ls []) := by
    intro k9
    induction k9 with
    | zero =>
      intro y1 z2 z3 z4 z5 z6 z7 z8 f9 f10 f11 f12 z13 z14 z15 z16 f17 f18 f19 z20 f21 z22 z23 z24 z25 z26 z27 f28 f29 f30 f31 f32 hI9 hk9
      exact absurd hk9 (Nat.not_lt_zero _)
    | succ k9 ih18 =>
      intro y1 z2 z3 z4 z5 z6 z7 z8 f9 f10 f11 f12 z13 z14 z15 z16 f17 f18 f19 z20 f21 z22 z23 z24 z25 z26 z27 f28 f29 f30 f31 f32 hI9 hk18 H locs hP hD hS ls hl
      have h := hst18 y1 z2 z3 z4 z5 z6 z7 z8 f9 f10 f11 f12 z13 z14 z15 z16 f17 f18 f19 z20 f21 z22 z23 z24 z25 z26 z27 f28 f29 f30 f31 f32 hI9
      refine lv_iload_n hx hb dL_law_18 rfl (lv_at hl 3 rfl) ?_
      refine lv_aload_n hx hb dL_law_19 rfl (lv_at hl 0 rfl) ?_
      refine va_slen hx hb hX hbl hbA hS dL_law_20 ?_
      refine lv_bipush (v := 6) hx hb dL_law_21 (by decide) ?_
      refine lv_isub hx hb dL_law_23 ?_
      refine lv_icmp_gt (tgt := 620) hx hb dL_law_24 (by decide) (fun c33 => ?_) (fun c33 => ?_)
      · obtain ⟨h, -⟩ := h
        specialize h c33
        refine lv_iconst (v := 1) hx hb dL_law_620 (by decide) ?_
        refine va_forget (fun q9 hq9 => by have h9 := hS.2.2 q9 hq9; rw [hAe] at h9; exact h9) ?_
        refine W.widen (k := 600000) (n := 7302250) (Nat.le_of_ble_eq_true rfl) (Nat.le_of_ble_eq_true rfl) ?_
        exact lw_ret hx hb hr hlocks dL_law_621
      · obtain ⟨-, h⟩ := h
        specialize h c33
        refine lv_aload_n hx hb dL_law_27 rfl (lv_at hl 0 rfl) ?_
        refine lv_iload_n hx hb dL_law_28 rfl (lv_at hl 3 rfl) ?_
        obtain ⟨hi, h⟩ := h
        refine va_sld hx hb hX hbl hbA hS hi dL_law_29 ?_
        refine lv_bipush (v := 15) hx hb dL_law_30 (by decide) ?_
        refine lv_iand hx hb dL_law_32 ?_
        by_cases c34 : ((xs (y1 : Int32).toNatClampNeg) &&& (15 : Int32)) = 0
        · obtain ⟨h, -⟩ := h
          specialize h c34
          refine lv_tableIn (off := 75) (tgt := 108) hx hb dL_law_33 (by rw [c34]; decide) (by rw [c34]; decide) (by rw [c34]; rfl) (by decide) ?_
          refine lv_aload_n hx hb dL_law_108 rfl (lv_at hl 1 rfl) ?_
          refine lv_aload_n hx hb dL_law_109 rfl (lv_at hl 0 rfl) ?_
          refine lv_iload_n hx hb dL_law_110 rfl (lv_at hl 3 rfl) ?_
          refine lv_iconst (v := 1) hx hb dL_law_111 (by decide) ?_
          refine lv_iadd hx hb dL_law_112 ?_
          obtain ⟨hi, h⟩ := h
          refine va_sld hx hb hX hbl hbA hS hi dL_law_113 ?_
          obtain ⟨Q35, hw9, h⟩ := h
          have hPc : va_P G vwCl [(a0, .inr (7, [.ref aN, .ref aM, .ref aP, .ref aW, .ref aT, .int z2, .int z3, .int z4])), (aN, .inr (3, [.ref aR, .int z20])), (aR, .inl (cy 0, 9, .inl f21))] H := hP.sub [0, 10, 11] rfl
          have hDc : va_D A [(a0, .inr (7, [.ref aN, .ref aM, .ref aP, .ref aW, .ref aT, .int z2, .int z3, .int z4])), (aN, .inr (3, [.ref aR, .int z20])), (aR, .inl (cy 0, 9, .inl f21))] := hD.sub [0, 10, 11] (by decide) rfl
          have hFc := va_free (wc := [(a0, .inr (7, [.ref aN, .ref aM, .ref aP, .ref aW, .ref aT, .int z2, .int z3, .int z4])), (aN, .inr (3, [.ref aR, .int z20])), (aR, .inl (cy 0, 9, .inl f21))]) hD hS hA [0, 10, 11] rfl
          refine va_calli (va_runV (As := [.int (xs ((y1 + (1 : Int32)) : Int32).toNatClampNeg)]) (rest := []) ⟨hx, hb, hml, hown, hts⟩ (ct_X8_net l G cy a0 aN aR aM aP aW aT H.size z2 z3 z4 z20 f21 (xs ((y1 + (1 : Int32)) : Int32).toNatClampNeg) Q35 hw9) (cwV 1 hts gL_law_X8_netE rfl rfl rfl (by decide +kernel) ⟨Nat.le_of_ble_eq_true rfl, Nat.le_of_ble_eq_true rfl⟩) (wP_V hK hP (ci := 7) (q0 := 0) rfl rfl hPc hDc) rfl rfl hl.1 rfl (lv_room (Nat.le_of_ble_eq_true rfl)) dL_law_114 ⟨Nat.le_of_ble_eq_true rfl, Nat.le_of_ble_eq_true rfl⟩) hS (fun q9 _ h9 => hFc q9 h9) hFc (fun r36 u9 t9 H locs ht9 hvm9 hw9 hB9 hz9 hk9 hS => ?_)
          obtain ⟨z37, f38⟩ := u9
          have hP : va_P G vwCl [(a0, .inr (7, [.ref aN, .ref aM, .ref aP, .ref aW, .ref aT, .int z2, .int z3, .int z4])), (aM, .inr (2, [.ref aF, .ref aL, .ref aX, .int z5, .int z6, .int z7, .ref aN, .ref aC, .int z8])), (aF, .inl (cy 0, 512, .inl f9)), (aL, .inl (cy 0, 512, .inl f10)), (aX, .inl (cy 0, 81, .inl f11)), (aC, .inl (cy 0, 81, .inl f12)), (aP, .inr (4, [.ref bF, .ref bL, .ref bX, .int z13, .int z14, .int z15, .ref aN, .int z16])), (bF, .inl (cy 0, 4096, .inl f17)), (bL, .inl (cy 0, 4096, .inl f18)), (bX, .inl (cy 0, 24, .inl f19)), (aN, .inr (3, [.ref aR, .int z37])), (aR, .inl (cy 0, 9, .inl f38)), (aW, .inl (cy 2, 3, .inr (.inr (.inr (.inr (wgh aS aJ aB)))))), (aS, .inr (5, [])), (aJ, .inr (1, [])), (aB, .inr (0, [])), (aT, .inr (6, [.long z22])), (m0, .inr (8, [.int z23, .ref mJ, .int z24, .int z25, .int z26, .long z27, .ref mF, .ref mD, .ref mS, .ref mP])), (mJ, .inl (cy 0, 9, .inl f28)), (mF, .inl (cy 0, 512, .inl f29)), (mD, .inl (cy 1, 512, .inl f30)), (mS, .inl (cy 0, 4096, .inl f31)), (mP, .inl (cy 0, 4096, .inl f32))] H := P_back [0, 10, 11] [1, 2, 3, 4, 5, 6, 7, 8, 9, 12, 13, 14, 15, 16, 17, 18, 19, 20, 21, 22] 23 hP hD rfl rfl rfl rfl (by decide) (by decide) hk9 (by rw [← ht9]; exact hB9)
          have hD : va_D A [(a0, .inr (7, [.ref aN, .ref aM, .ref aP, .ref aW, .ref aT, .int z2, .int z3, .int z4])), (aM, .inr (2, [.ref aF, .ref aL, .ref aX, .int z5, .int z6, .int z7, .ref aN, .ref aC, .int z8])), (aF, .inl (cy 0, 512, .inl f9)), (aL, .inl (cy 0, 512, .inl f10)), (aX, .inl (cy 0, 81, .inl f11)), (aC, .inl (cy 0, 81, .inl f12)), (aP, .inr (4, [.ref bF, .ref bL, .ref bX, .int z13, .int z14, .int z15, .ref aN, .int z16])), (bF, .inl (cy 0, 4096, .inl f17)), (bL, .inl (cy 0, 4096, .inl f18)), (bX, .inl (cy 0, 24, .inl f19)), (aN, .inr (3, [.ref aR, .int z37])), (aR, .inl (cy 0, 9, .inl f38)), (aW, .inl (cy 2, 3, .inr (.inr (.inr (.inr (wgh aS aJ aB)))))), (aS, .inr (5, [])), (aJ, .inr (1, [])), (aB, .inr (0, [])), (aT, .inr (6, [.long z22])), (m0, .inr (8, [.int z23, .ref mJ, .int z24, .int z25, .int z26, .long z27, .ref mF, .ref mD, .ref mS, .ref mP])), (mJ, .inl (cy 0, 9, .inl f28)), (mF, .inl (cy 0, 512, .inl f29)), (mD, .inl (cy 1, 512, .inl f30)), (mS, .inl (cy 0, 4096, .inl f31)), (mP, .inl (cy 0, 4096, .inl f32))] := D_same hD rfl
          specialize h r36 z37 f38 hw9
          refine lv_aload_n hx hb dL_law_117 rfl (lv_at hl 2 rfl) ?_
          refine lv_aload_n hx hb dL_law_118 rfl (lv_at hl 0 rfl) ?_
          refine lv_iload_n hx hb dL_law_119 rfl (lv_at hl 3 rfl) ?_
          refine lv_iconst (v := 1) hx hb dL_law_120 (by decide) ?_
          refine lv_iadd hx hb dL_law_121 ?_
          obtain ⟨hi, h⟩ := h
          refine va_sld hx hb hX hbl hbA hS hi dL_law_122 ?_
          obtain ⟨Q39, hw9, h⟩ := h
          have hPc : va_P G vwCl [(m0, .inr (8, [.int z23, .ref mJ, .int z24, .int z25, .int z26, .long z27, .ref mF, .ref mD, .ref mS, .ref mP])), (mJ, .inl (cy 0, 9, .inl f28))] H := hP.sub [17, 18] rfl
          have hDc : va_D A [(m0, .inr (8, [.int z23, .ref mJ, .int z24, .int z25, .int z26, .long z27, .ref mF, .ref mD, .ref mS, .ref mP])), (mJ, .inl (cy 0, 9, .inl f28))] := hD.sub [17, 18] (by decide) rfl
          have hFc := va_free (wc := [(m0, .inr (8, [.int z23, .ref mJ, .int z24, .int z25, .int z26, .long z27, .ref mF, .ref mD, .ref mS, .ref mP])), (mJ, .inl (cy 0, 9, .inl f28))]) hD hS hA [17, 18] rfl
          refine va_calli (va_runV (As := [.int (xs ((y1 + (1 : Int32)) : Int32).toNatClampNeg)]) (rest := [.int r36]) ⟨hx, hb, hml, hown, hts⟩ (ct_X9_net l G cy m0 mJ mF mD mS mP H.size z23 z24 z25 z26 z27 f28 (xs ((y1 + (1 : Int32)) : Int32).toNatClampNeg) Q39 hw9) (cwV 1 hts gL_law_X9_netE rfl rfl rfl (by decide +kernel) ⟨Nat.le_of_ble_eq_true rfl, Nat.le_of_ble_eq_true rfl⟩) (wP_V hK hP (ci := 8) (q0 := 17) rfl rfl hPc hDc) rfl rfl hl.1 rfl (lv_room (Nat.le_of_ble_eq_true rfl)) dL_law_123 ⟨Nat.le_of_ble_eq_true rfl, Nat.le_of_ble_eq_true rfl⟩) hS (fun q9 _ h9 => hFc q9 h9) hFc (fun r40 u9 t9 H locs ht9 hvm9 hw9 hB9 hz9 hk9 hS => ?_)
          obtain ⟨z41, f42⟩ := u9
          have hP : va_P G vwCl [(a0, .inr (7, [.ref aN, .ref aM, .ref aP, .ref aW, .ref aT, .int z2, .int z3, .int z4])), (aM, .inr (2, [.ref aF, .ref aL, .ref aX, .int z5, .int z6, .int z7, .ref aN, .ref aC, .int z8])), (aF, .inl (cy 0, 512, .inl f9)), (aL, .inl (cy 0, 512, .inl f10)), (aX, .inl (cy 0, 81, .inl f11)), (aC, .inl (cy 0, 81, .inl f12)), (aP, .inr (4, [.ref bF, .ref bL, .ref bX, .int z13, .int z14, .int z15, .ref aN, .int z16])), (bF, .inl (cy 0, 4096, .inl f17)), (bL, .inl (cy 0, 4096, .inl f18)), (bX, .inl (cy 0, 24, .inl f19)), (aN, .inr (3, [.ref aR, .int z37])), (aR, .inl (cy 0, 9, .inl f38)), (aW, .inl (cy 2, 3, .inr (.inr (.inr (.inr (wgh aS aJ aB)))))), (aS, .inr (5, [])), (aJ, .inr (1, [])), (aB, .inr (0, [])), (aT, .inr (6, [.long z22])), (m0, .inr (8, [.int z41, .ref mJ, .int z24, .int z25, .int z26, .long z27, .ref mF, .ref mD, .ref mS, .ref mP])), (mJ, .inl (cy 0, 9, .inl f42)), (mF, .inl (cy 0, 512, .inl f29)), (mD, .inl (cy 1, 512, .inl f30)), (mS, .inl (cy 0, 4096, .inl f31)), (mP, .inl (cy 0, 4096, .inl f32))] H := P_back [17, 18] [0, 1, 2, 3, 4, 5, 6, 7, 8, 9, 10, 11, 12, 13, 14, 15, 16, 19, 20, 21, 22] 23 hP hD rfl rfl rfl rfl (by decide) (by decide) hk9 (by rw [← ht9]; exact hB9)
          have hD : va_D A [(a0, .inr (7, [.ref aN, .ref aM, .ref aP, .ref aW, .ref aT, .int z2, .int z3, .int z4])), (aM, .inr (2, [.ref aF, .ref aL, .ref aX, .int z5, .int z6, .int z7, .ref aN, .ref aC, .int z8])), (aF, .inl (cy 0, 512, .inl f9)), (aL, .inl (cy 0, 512, .inl f10)), (aX, .inl (cy 0, 81, .inl f11)), (aC, .inl (cy 0, 81, .inl f12)), (aP, .inr (4, [.ref bF, .ref bL, .ref bX, .int z13, .int z14, .int z15, .ref aN, .int z16])), (bF, .inl (cy 0, 4096, .inl f17)), (bL, .inl (cy 0, 4096, .inl f18)), (bX, .inl (cy 0, 24, .inl f19)), (aN, .inr (3, [.ref aR, .int z37])), (aR, .inl (cy 0, 9, .inl f38)), (aW, .inl (cy 2, 3, .inr (.inr (.inr (.inr (wgh aS aJ aB)))))), (aS, .inr (5, [])), (aJ, .inr (1, [])), (aB, .inr (0, [])), (aT, .inr (6, [.long z22])), (m0, .inr (8, [.int z41, .ref mJ, .int z24, .int z25, .int z26, .long z27, .ref mF, .ref mD, .ref mS, .ref mP])), (mJ, .inl (cy 0, 9, .inl f42)), (mF, .inl (cy 0, 512, .inl f29)), (mD, .inl (cy 1, 512, .inl f30)), (mS, .inl (cy 0, 4096, .inl f31)), (mP, .inl (cy 0, 4096, .inl f32))] := D_same hD rfl
          specialize h r40 z41 f42 hw9
          refine lv_icmp_eq (tgt := 614) hx hb dL_law_126 (by decide) (fun c43 => ?_) (fun c43 => ?_)
          · obtain ⟨h, -⟩ := h
            specialize h c43
            obtain ⟨x44, ex44⟩ : ∃ y : Int32, y = y1 + 6 := ⟨_, rfl⟩
            specialize h x44 ex44
            refine lv_iinc (v := x44) (lv' := [(3, .int x44), (0, .ref b), (1, .ref a0), (2, .ref m0)]) hx hb dL_law_614 hl (k := 3) rfl (by rw [ex44]; rfl) (by decide) rfl (fun ls hl => ?_)
            refine lv_goto (tgt := 18) hx hb dL_law_617 (by decide) ?_
            exact ih18 x44 z2 z3 z4 z5 z6 z7 z8 f9 f10 f11 f12 z13 z14 z15 z16 f17 f18 f19 z37 f38 z22 z41 z24 z25 z26 z27 f42 f29 f30 f31 f32 h.1 (Nat.lt_of_lt_of_le h.2 (Nat.le_of_lt_succ hk18)) _ _ hP hD hS _ (lv_sub hl [1, 2, 3, 0] rfl)
          · obtain ⟨-, h⟩ := h
            specialize h c43
            refine lv_iconst (v := 0) hx hb dL_law_129 (by decide) ?_
            exact h.elim
        · obtain ⟨-, h⟩ := h
          by_cases c45 : ((xs (y1 : Int32).toNatClampNeg) &&& (15 : Int32)) = 1
          · obtain ⟨h, -⟩ := h
            specialize h c45
            refine lv_tableIn (off := 98) (tgt := 131) hx hb dL_law_33 (by rw [c45]; decide) (by rw [c45]; decide) (by rw [c45]; rfl) (by decide) ?_
            refine lv_aload_n hx hb dL_law_131 rfl (lv_at hl 1 rfl) ?_
            refine lv_aload_n hx hb dL_law_132 rfl (lv_at hl 0 rfl) ?_
            refine lv_iload_n hx hb dL_law_133 rfl (lv_at hl 3 rfl) ?_
            refine lv_iconst (v := 1) hx hb dL_law_134 (by decide) ?_
            refine lv_iadd hx hb dL_law_135 ?_
            obtain ⟨hi, h⟩ := h
            refine va_sld hx hb hX hbl hbA hS hi dL_law_136 ?_
            refine lv_aload_n hx hb dL_law_137 rfl (lv_at hl 0 rfl) ?_
            refine lv_iload_n hx hb dL_law_138 rfl (lv_at hl 3 rfl) ?_
            refine lv_iconst (v := 2) hx hb dL_law_139 (by decide) ?_
            refine lv_iadd hx hb dL_law_140 ?_
            obtain ⟨hi, h⟩ := h
            refine va_sld hx hb hX hbl hbA hS hi dL_law_141 ?_
            refine lv_aload_n hx hb dL_law_142 rfl (lv_at hl 0 rfl) ?_
            refine lv_iload_n hx hb dL_law_143 rfl (lv_at hl 3 rfl) ?_
            refine lv_iconst (v := 3) hx hb dL_law_144 (by decide) ?_
            refine lv_iadd hx hb dL_law_145 ?_
            obtain ⟨hi, h⟩ := h
            refine va_sld hx hb hX hbl hbA hS hi dL_law_146 ?_
            obtain ⟨Q46, hw9, h⟩ := h
            have hPc : va_P G vwCl [(a0, .inr (7, [.ref aN, .ref aM, .ref aP, .ref aW, .ref aT, .int z2, .int z3, .int z4])), (aN, .inr (3, [.ref aR, .int z20])), (aR, .inl (cy 0, 9, .inl f21))] H := hP.sub [0, 10, 11] rfl
            have hDc : va_D A [(a0, .inr (7, [.ref aN, .ref aM, .ref aP, .ref aW, .ref aT, .int z2, .int z3, .int z4])), (aN, .inr (3, [.ref aR, .int z20])), (aR, .inl (cy 0, 9, .inl f21))] := hD.sub [0, 10, 11] (by decide) rfl
            have hFc := va_free (wc := [(a0, .inr (7, [.ref aN, .ref aM, .ref aP, .ref aW, .ref aT, .int z2, .int z3, .int z4])), (aN, .inr (3, [.ref aR, .int z20])), (aR, .inl (cy 0, 9, .inl f21))]) hD hS hA [0, 10, 11] rfl
            refine va_calli (va_runV (As := [.int (xs ((y1 + (1 : Int32)) : Int32).toNatClampNeg), .int (xs ((y1 + (2 : Int32)) : Int32).toNatClampNeg), .int (xs ((y1 + (3 : Int32)) : Int32).toNatClampNeg)]) (rest := []) ⟨hx, hb, hml, hown, hts⟩ (ct_X8_join l G cy a0 aN aR aM aP aW aT H.size z2 z3 z4 z20 f21 (xs ((y1 + (1 : Int32)) : Int32).toNatClampNeg) (xs ((y1 + (2 : Int32)) : Int32).toNatClampNeg) (xs ((y1 + (3 : Int32)) : Int32).toNatClampNeg) Q46 hw9) (cwV 3 hts gL_law_X8_joinE rfl rfl rfl (by decide +kernel) ⟨Nat.le_of_ble_eq_true rfl, Nat.le_of_ble_eq_true rfl⟩) (wP_V hK hP (ci := 7) (q0 := 0) rfl rfl hPc hDc) rfl rfl hl.1 rfl (lv_room (Nat.le_of_ble_eq_true rfl)) dL_law_147 ⟨Nat.le_of_ble_eq_true rfl, Nat.le_of_ble_eq_true rfl⟩) hS (fun q9 _ h9 => hFc q9 h9) hFc (fun r47 u9 t9 H locs ht9 hvm9 hw9 hB9 hz9 hk9 hS => ?_)
            obtain ⟨f48, rfl⟩ : ∃ z9, z9 = u9 := ⟨_, rfl⟩
            have hP : va_P G vwCl [(a0, .inr (7, [.ref aN, .ref aM, .ref aP, .ref aW, .ref aT, .int z2, .int z3, .int z4])), (aM, .inr (2, [.ref aF, .ref aL, .ref aX, .int z5, .int z6, .int z7, .ref aN, .ref aC, .int z8])), (aF, .inl (cy 0, 512, .inl f9)), (aL, .inl (cy 0, 512, .inl f10)), (aX, .inl (cy 0, 81, .inl f11)), (aC, .inl (cy 0, 81, .inl f12)), (aP, .inr (4, [.ref bF, .ref bL, .ref bX, .int z13, .int z14, .int z15, .ref aN, .int z16])), (bF, .inl (cy 0, 4096, .inl f17)), (bL, .inl (cy 0, 4096, .inl f18)), (bX, .inl (cy 0, 24, .inl f19)), (aN, .inr (3, [.ref aR, .int z20])), (aR, .inl (cy 0, 9, .inl f48)), (aW, .inl (cy 2, 3, .inr (.inr (.inr (.inr (wgh aS aJ aB)))))), (aS, .inr (5, [])), (aJ, .inr (1, [])), (aB, .inr (0, [])), (aT, .inr (6, [.long z22])), (m0, .inr (8, [.int z23, .ref mJ, .int z24, .int z25, .int z26, .long z27, .ref mF, .ref mD, .ref mS, .ref mP])), (mJ, .inl (cy 0, 9, .inl f28)), (mF, .inl (cy 0, 512, .inl f29)), (mD, .inl (cy 1, 512, .inl f30)), (mS, .inl (cy 0, 4096, .inl f31)), (mP, .inl (cy 0, 4096, .inl f32))] H := P_back [0, 10, 11] [1, 2, 3, 4, 5, 6, 7, 8, 9, 12, 13, 14, 15, 16, 17, 18, 19, 20, 21, 22] 23 hP hD rfl rfl rfl rfl (by decide) (by decide) hk9 (by rw [← ht9]; exact hB9)
            have hD : va_D A [(a0, .inr (7, [.ref aN, .ref aM, .ref aP, .ref aW, .ref aT, .int z2, .int z3, .int z4])), (aM, .inr (2, [.ref aF, .ref aL, .ref aX, .int z5, .int z6, .int z7, .ref aN, .ref aC, .int z8])), (aF, .inl (cy 0, 512, .inl f9)), (aL, .inl (cy 0, 512, .inl f10)), (aX, .inl (cy 0, 81, .inl f11)), (aC, .inl (cy 0, 81, .inl f12)), (aP, .inr (4, [.ref bF, .ref bL, .ref bX, .int z13, .int z14, .int z15, .ref aN, .int z16])), (bF, .inl (cy 0, 4096, .inl f17)), (bL, .inl (cy 0, 4096, .inl f18)), (bX, .inl (cy 0, 24, .inl f19)), (aN, .inr (3, [.ref aR, .int z20])), (aR, .inl (cy 0, 9, .inl f48)), (aW, .inl (cy 2, 3, .inr (.inr (.inr (.inr (wgh aS aJ aB)))))), (aS, .inr (5, [])), (aJ, .inr (1, [])), (aB, .inr (0, [])), (aT, .inr (6, [.long z22])), (m0, .inr (8, [.int z23, .ref mJ, .int z24, .int z25, .int z26, .long z27, .ref mF, .ref mD, .ref mS, .ref mP])), (mJ, .inl (cy 0, 9, .inl f28)), (mF, .inl (cy 0, 512, .inl f29)), (mD, .inl (cy 1, 512, .inl f30)), (mS, .inl (cy 0, 4096, .inl f31)), (mP, .inl (cy 0, 4096, .inl f32))] := D_same hD rfl
            specialize h r47 f48 hw9
            refine lv_aload_n hx hb dL_law_150 rfl (lv_at hl 2 rfl) ?_
            refine lv_aload_n hx hb dL_law_151 rfl (lv_at hl 0 rfl) ?_
            refine lv_iload_n hx hb dL_law_152 rfl (lv_at hl 3 rfl) ?_
            refine lv_iconst (v := 1) hx hb dL_law_153 (by decide) ?_
            refine lv_iadd hx hb dL_law_154 ?_
            obtain ⟨hi, h⟩ := h
            refine va_sld hx hb hX hbl hbA hS hi dL_law_155 ?_
            refine lv_aload_n hx hb dL_law_156 rfl (lv_at hl 0 rfl) ?_
            refine lv_iload_n hx hb dL_law_157 rfl (lv_at hl 3 rfl) ?_
            refine lv_iconst (v := 2) hx hb dL_law_158 (by decide) ?_
            refine lv_iadd hx hb dL_law_159 ?_
            obtain ⟨hi, h⟩ := h
            refine va_sld hx hb hX hbl hbA hS hi dL_law_160 ?_
            refine lv_aload_n hx hb dL_law_161 rfl (lv_at hl 0 rfl) ?_
            refine lv_iload_n hx hb dL_law_162 rfl (lv_at hl 3 rfl) ?_
            refine lv_iconst (v := 3) hx hb dL_law_163 (by decide) ?_
            refine lv_iadd hx hb dL_law_164 ?_
            obtain ⟨hi, h⟩ := h
            refine va_sld hx hb hX hbl hbA hS hi dL_law_165 ?_
            obtain ⟨Q49, hw9, h⟩ := h
            have hPc : va_P G vwCl [(m0, .inr (8, [.int z23, .ref mJ, .int z24, .int z25, .int z26, .long z27, .ref mF, .ref mD, .ref mS, .ref mP])), (mJ, .inl (cy 0, 9, .inl f28))] H := hP.sub [17, 18] rfl
            have hDc : va_D A [(m0, .inr (8, [.int z23, .ref mJ, .int z24, .int z25, .int z26, .long z27, .ref mF, .ref mD, .ref mS, .ref mP])), (mJ, .inl (cy 0, 9, .inl f28))] := hD.sub [17, 18] (by decide) rfl
            have hFc := va_free (wc := [(m0, .inr (8, [.int z23, .ref mJ, .int z24, .int z25, .int z26, .long z27, .ref mF, .ref mD, .ref mS, .ref mP])), (mJ, .inl (cy 0, 9, .inl f28))]) hD hS hA [17, 18] rfl
            refine va_calli (va_runV (As := [.int (xs ((y1 + (1 : Int32)) : Int32).toNatClampNeg), .int (xs ((y1 + (2 : Int32)) : Int32).toNatClampNeg), .int (xs ((y1 + (3 : Int32)) : Int32).toNatClampNeg)]) (rest := [.int r47]) ⟨hx, hb, hml, hown, hts⟩ (ct_X9_join l G cy m0 mJ mF mD mS mP H.size z23 z24 z25 z26 z27 f28 (xs ((y1 + (1 : Int32)) : Int32).toNatClampNeg) (xs ((y1 + (2 : Int32)) : Int32).toNatClampNeg) (xs ((y1 + (3 : Int32)) : Int32).toNatClampNeg) Q49 hw9) (cwV 3 hts gL_law_X9_joinE rfl rfl rfl (by decide +kernel) ⟨Nat.le_of_ble_eq_true rfl, Nat.le_of_ble_eq_true rfl⟩) (wP_V hK hP (ci := 8) (q0 := 17) rfl rfl hPc hDc) rfl rfl hl.1 rfl (lv_room (Nat.le_of_ble_eq_true rfl)) dL_law_166 ⟨Nat.le_of_ble_eq_true rfl, Nat.le_of_ble_eq_true rfl⟩) hS (fun q9 _ h9 => hFc q9 h9) hFc (fun r50 u9 t9 H locs ht9 hvm9 hw9 hB9 hz9 hk9 hS => ?_)
            obtain ⟨f51, rfl⟩ : ∃ z9, z9 = u9 := ⟨_, rfl⟩
            have hP : va_P G vwCl [(a0, .inr (7, [.ref aN, .ref aM, .ref aP, .ref aW, .ref aT, .int z2, .int z3, .int z4])), (aM, .inr (2, [.ref aF, .ref aL, .ref aX, .int z5, .int z6, .int z7, .ref aN, .ref aC, .int z8])), (aF, .inl (cy 0, 512, .inl f9)), (aL, .inl (cy 0, 512, .inl f10)), (aX, .inl (cy 0, 81, .inl f11)), (aC, .inl (cy 0, 81, .inl f12)), (aP, .inr (4, [.ref bF, .ref bL, .ref bX, .int z13, .int z14, .int z15, .ref aN, .int z16])), (bF, .inl (cy 0, 4096, .inl f17)), (bL, .inl (cy 0, 4096, .inl f18)), (bX, .inl (cy 0, 24, .inl f19)), (aN, .inr (3, [.ref aR, .int z20])), (aR, .inl (cy 0, 9, .inl f48)), (aW, .inl (cy 2, 3, .inr (.inr (.inr (.inr (wgh aS aJ aB)))))), (aS, .inr (5, [])), (aJ, .inr (1, [])), (aB, .inr (0, [])), (aT, .inr (6, [.long z22])), (m0, .inr (8, [.int z23, .ref mJ, .int z24, .int z25, .int z26, .long z27, .ref mF, .ref mD, .ref mS, .ref mP])), (mJ, .inl (cy 0, 9, .inl f51)), (mF, .inl (cy 0, 512, .inl f29)), (mD, .inl (cy 1, 512, .inl f30)), (mS, .inl (cy 0, 4096, .inl f31)), (mP, .inl (cy 0, 4096, .inl f32))] H := P_back [17, 18] [0, 1, 2, 3, 4, 5, 6, 7, 8, 9, 10, 11, 12, 13, 14, 15, 16, 19, 20, 21, 22] 23 hP hD rfl rfl rfl rfl (by decide) (by decide) hk9 (by rw [← ht9]; exact hB9)
            have hD : va_D A [(a0, .inr (7, [.ref aN, .ref aM, .ref aP, .ref aW, .ref aT, .int z2, .int z3, .int z4])), (aM, .inr (2, [.ref aF, .ref aL, .ref aX, .int z5, .int z6, .int z7, .ref aN, .ref aC, .int z8])), (aF, .inl (cy 0, 512, .inl f9)), (aL, .inl (cy 0, 512, .inl f10)), (aX, .inl (cy 0, 81, .inl f11)), (aC, .inl (cy 0, 81, .inl f12)), (aP, .inr (4, [.ref bF, .ref bL, .ref bX, .int z13, .int z14, .int z15, .ref aN, .int z16])), (bF, .inl (cy 0, 4096, .inl f17)), (bL, .inl (cy 0, 4096, .inl f18)), (bX, .inl (cy 0, 24, .inl f19)), (aN, .inr (3, [.ref aR, .int z20])), (aR, .inl (cy 0, 9, .inl f48)), (aW, .inl (cy 2, 3, .inr (.inr (.inr (.inr (wgh aS aJ aB)))))), (aS, .inr (5, [])), (aJ, .inr (1, [])), (aB, .inr (0, [])), (aT, .inr (6, [.long z22])), (m0, .inr (8, [.int z23, .ref mJ, .int z24, .int z25, .int z26, .long z27, .ref mF, .ref mD, .ref mS, .ref mP])), (mJ, .inl (cy 0, 9, .inl f51)), (mF, .inl (cy 0, 512, .inl f29)), (mD, .inl (cy 1, 512, .inl f30)), (mS, .inl (cy 0, 4096, .inl f31)), (mP, .inl (cy 0, 4096, .inl f32))] := D_same hD rfl
            specialize h r50 f51 hw9
            refine lv_icmp_eq (tgt := 614) hx hb dL_law_169 (by decide) (fun c52 => ?_) (fun c52 => ?_)
            · obtain ⟨h, -⟩ := h
              specialize h c52
              obtain ⟨x53, ex53⟩ : ∃ y : Int32, y = y1 + 6 := ⟨_, rfl⟩
              specialize h x53 ex53
              refine lv_iinc (v := x53) (lv' := [(3, .int x53), (0, .ref b), (1, .ref a0), (2, .ref m0)]) hx hb dL_law_614 hl (k := 3) rfl (by rw [ex53]; rfl) (by decide) rfl (fun ls hl => ?_)
              refine lv_goto (tgt := 18) hx hb dL_law_617 (by decide) ?_
              exact ih18 x53 z2 z3 z4 z5 z6 z7 z8 f9 f10 f11 f12 z13 z14 z15 z16 f17 f18 f19 z20 f48 z22 z23 z24 z25 z26 z27 f51 f29 f30 f31 f32 h.1 (Nat.lt_of_lt_of_le h.2 (Nat.le_of_lt_succ hk18)) _ _ hP hD hS _ (lv_sub hl [1, 2, 3, 0] rfl)
            · obtain ⟨-, h⟩ := h
              specialize h c52
              refine lv_iconst (v := 0) hx hb dL_law_172 (by decide) ?_
              exact h.elim
          · obtain ⟨-, h⟩ := h
            by_cases c54 : ((xs (y1 : Int32).toNatClampNeg) &&& (15 : Int32)) = 2
            · obtain ⟨h, -⟩ := h
              specialize h c54
              refine lv_tableIn (off := 141) (tgt := 174) hx hb dL_law_33 (by rw [c54]; decide) (by rw [c54]; decide) (by rw [c54]; rfl) (by decide) ?_
              refine lv_aload_n hx hb dL_law_174 rfl (lv_at hl 1 rfl) ?_
              refine lv_aload_n hx hb dL_law_175 rfl (lv_at hl 0 rfl) ?_
              refine lv_iload_n hx hb dL_law_176 rfl (lv_at hl 3 rfl) ?_
              refine lv_iconst (v := 1) hx hb dL_law_177 (by decide) ?_
              refine lv_iadd hx hb dL_law_178 ?_
              obtain ⟨hi, h⟩ := h
              refine va_sld hx hb hX hbl hbA hS hi dL_law_179 ?_
              obtain ⟨Q55, hw9, h⟩ := h
              have hPc : va_P G vwCl [(a0, .inr (7, [.ref aN, .ref aM, .ref aP, .ref aW, .ref aT, .int z2, .int z3, .int z4])), (aN, .inr (3, [.ref aR, .int z20])), (aR, .inl (cy 0, 9, .inl f21))] H := hP.sub [0, 10, 11] rfl
              have hDc : va_D A [(a0, .inr (7, [.ref aN, .ref aM, .ref aP, .ref aW, .ref aT, .int z2, .int z3, .int z4])), (aN, .inr (3, [.ref aR, .int z20])), (aR, .inl (cy 0, 9, .inl f21))] := hD.sub [0, 10, 11] (by decide) rfl
              have hFc := va_free (wc := [(a0, .inr (7, [.ref aN, .ref aM, .ref aP, .ref aW, .ref aT, .int z2, .int z3, .int z4])), (aN, .inr (3, [.ref aR, .int z20])), (aR, .inl (cy 0, 9, .inl f21))]) hD hS hA [0, 10, 11] rfl
              refine va_calli (va_runV (As := [.int (xs ((y1 + (1 : Int32)) : Int32).toNatClampNeg)]) (rest := []) ⟨hx, hb, hml, hown, hts⟩ (ct_X8_shape l G cy a0 aN aR aM aP aW aT H.size z2 z3 z4 z20 f21 (xs ((y1 + (1 : Int32)) : Int32).toNatClampNeg) Q55 hw9) (cwV 1 hts gL_law_X8_shapeE rfl rfl rfl (by decide +kernel) ⟨Nat.le_of_ble_eq_true rfl, Nat.le_of_ble_eq_true rfl⟩) (wP_V hK hP (ci := 7) (q0 := 0) rfl rfl hPc hDc) rfl rfl hl.1 rfl (lv_room (Nat.le_of_ble_eq_true rfl)) dL_law_180 ⟨Nat.le_of_ble_eq_true rfl, Nat.le_of_ble_eq_true rfl⟩) hS (fun q9 _ h9 => hFc q9 h9) hFc (fun r56 u9 t9 H locs ht9 hvm9 hw9 hB9 hz9 hk9 hS => ?_)
              obtain ⟨z57, f58⟩ := u9
              have hP : va_P G vwCl [(a0, .inr (7, [.ref aN, .ref aM, .ref aP, .ref aW, .ref aT, .int z2, .int z3, .int z4])), (aM, .inr (2, [.ref aF, .ref aL, .ref aX, .int z5, .int z6, .int z7, .ref aN, .ref aC, .int z8])), (aF, .inl (cy 0, 512, .inl f9)), (aL, .inl (cy 0, 512, .inl f10)), (aX, .inl (cy 0, 81, .inl f11)), (aC, .inl (cy 0, 81, .inl f12)), (aP, .inr (4, [.ref bF, .ref bL, .ref bX, .int z13, .int z14, .int z15, .ref aN, .int z16])), (bF, .inl (cy 0, 4096, .inl f17)), (bL, .inl (cy 0, 4096, .inl f18)), (bX, .inl (cy 0, 24, .inl f19)), (aN, .inr (3, [.ref aR, .int z57])), (aR, .inl (cy 0, 9, .inl f58)), (aW, .inl (cy 2, 3, .inr (.inr (.inr (.inr (wgh aS aJ aB)))))), (aS, .inr (5, [])), (aJ, .inr (1, [])), (aB, .inr (0, [])), (aT, .inr (6, [.long z22])), (m0, .inr (8, [.int z23, .ref mJ, .int z24, .int z25, .int z26, .long z27, .ref mF, .ref mD, .ref mS, .ref mP])), (mJ, .inl (cy 0, 9, .inl f28)), (mF, .inl (cy 0, 512, .inl f29)), (mD, .inl (cy 1, 512, .inl f30)), (mS, .inl (cy 0, 4096, .inl f31)), (mP, .inl (cy 0, 4096, .inl f32))] H := P_back [0, 10, 11] [1, 2, 3, 4, 5, 6, 7, 8, 9, 12, 13, 14, 15, 16, 17, 18, 19, 20, 21, 22] 23 hP hD rfl rfl rfl rfl (by decide) (by decide) hk9 (by rw [← ht9]; exact hB9)
              have hD : va_D A [(a0, .inr (7, [.ref aN, .ref aM, .ref aP, .ref aW, .ref aT, .int z2, .int z3, .int z4])), (aM, .inr (2, [.ref aF, .ref aL, .ref aX, .int z5, .int z6, .int z7, .ref aN, .ref aC, .int z8])), (aF, .inl (cy 0, 512, .inl f9)), (aL, .inl (cy 0, 512, .inl f10)), (aX, .inl (cy 0, 81, .inl f11)), (aC, .inl (cy 0, 81, .inl f12)), (aP, .inr (4, [.ref bF, .ref bL, .ref bX, .int z13, .int z14, .int z15, .ref aN, .int z16])), (bF, .inl (cy 0, 4096, .inl f17)), (bL, .inl (cy 0, 4096, .inl f18)), (bX, .inl (cy 0, 24, .inl f19)), (aN, .inr (3, [.ref aR, .int z57])), (aR, .inl (cy 0, 9, .inl f58)), (aW, .inl (cy 2, 3, .inr (.inr (.inr (.inr (wgh aS aJ aB)))))), (aS, .inr (5, [])), (aJ, .inr (1, [])), (aB, .inr (0, [])), (aT, .inr (6, [.long z22])), (m0, .inr (8, [.int z23, .ref mJ, .int z24, .int z25, .int z26, .long z27, .ref mF, .ref mD, .ref mS, .ref mP])), (mJ, .inl (cy 0, 9, .inl f28)), (mF, .inl (cy 0, 512, .inl f29)), (mD, .inl (cy 1, 512, .inl f30)), (mS, .inl (cy 0, 4096, .inl f31)), (mP, .inl (cy 0, 4096, .inl f32))] := D_same hD rfl
              specialize h r56 z57 f58 hw9
              refine lv_aload_n hx hb dL_law_183 rfl (lv_at hl 2 rfl) ?_
              refine lv_aload_n hx hb dL_law_184 rfl (lv_at hl 0 rfl) ?_
              refine lv_iload_n hx hb dL_law_185 rfl (lv_at hl 3 rfl) ?_
              refine lv_iconst (v := 1) hx hb dL_law_186 (by decide) ?_
              refine lv_iadd hx hb dL_law_187 ?_
              obtain ⟨hi, h⟩ := h
              refine va_sld hx hb hX hbl hbA hS hi dL_law_188 ?_
              obtain ⟨Q59, hw9, h⟩ := h
              have hPc : va_P G vwCl [(m0, .inr (8, [.int z23, .ref mJ, .int z24, .int z25, .int z26, .long z27, .ref mF, .ref mD, .ref mS, .ref mP])), (mJ, .inl (cy 0, 9, .inl f28))] H := hP.sub [17, 18] rfl
              have hDc : va_D A [(m0, .inr (8, [.int z23, .ref mJ, .int z24, .int z25, .int z26, .long z27, .ref mF, .ref mD, .ref mS, .ref mP])), (mJ, .inl (cy 0, 9, .inl f28))] := hD.sub [17, 18] (by decide) rfl
              have hFc := va_free (wc := [(m0, .inr (8, [.int z23, .ref mJ, .int z24, .int z25, .int z26, .long z27, .ref mF, .ref mD, .ref mS, .ref mP])), (mJ, .inl (cy 0, 9, .inl f28))]) hD hS hA [17, 18] rfl
              refine va_calli (va_runV (As := [.int (xs ((y1 + (1 : Int32)) : Int32).toNatClampNeg)]) (rest := [.int r56]) ⟨hx, hb, hml, hown, hts⟩ (ct_X9_shape l G cy m0 mJ mF mD mS mP H.size z23 z24 z25 z26 z27 f28 (xs ((y1 + (1 : Int32)) : Int32).toNatClampNeg) Q59 hw9) (cwV 1 hts gL_law_X9_shapeE rfl rfl rfl (by decide +kernel) ⟨Nat.le_of_ble_eq_true rfl, Nat.le_of_ble_eq_true rfl⟩) (wP_V hK hP (ci := 8) (q0 := 17) rfl rfl hPc hDc) rfl rfl hl.1 rfl (lv_room (Nat.le_of_ble_eq_true rfl)) dL_law_189 ⟨Nat.le_of_ble_eq_true rfl, Nat.le_of_ble_eq_true rfl⟩) hS (fun q9 _ h9 => hFc q9 h9) hFc (fun r60 u9 t9 H locs ht9 hvm9 hw9 hB9 hz9 hk9 hS => ?_)
              obtain ⟨f61, rfl⟩ : ∃ z9, z9 = u9 := ⟨_, rfl⟩
              have hP : va_P G vwCl [(a0, .inr (7, [.ref aN, .ref aM, .ref aP, .ref aW, .ref aT, .int z2, .int z3, .int z4])), (aM, .inr (2, [.ref aF, .ref aL, .ref aX, .int z5, .int z6, .int z7, .ref aN, .ref aC, .int z8])), (aF, .inl (cy 0, 512, .inl f9)), (aL, .inl (cy 0, 512, .inl f10)), (aX, .inl (cy 0, 81, .inl f11)), (aC, .inl (cy 0, 81, .inl f12)), (aP, .inr (4, [.ref bF, .ref bL, .ref bX, .int z13, .int z14, .int z15, .ref aN, .int z16])), (bF, .inl (cy 0, 4096, .inl f17)), (bL, .inl (cy 0, 4096, .inl f18)), (bX, .inl (cy 0, 24, .inl f19)), (aN, .inr (3, [.ref aR, .int z57])), (aR, .inl (cy 0, 9, .inl f58)), (aW, .inl (cy 2, 3, .inr (.inr (.inr (.inr (wgh aS aJ aB)))))), (aS, .inr (5, [])), (aJ, .inr (1, [])), (aB, .inr (0, [])), (aT, .inr (6, [.long z22])), (m0, .inr (8, [.int z23, .ref mJ, .int z24, .int z25, .int z26, .long z27, .ref mF, .ref mD, .ref mS, .ref mP])), (mJ, .inl (cy 0, 9, .inl f61)), (mF, .inl (cy 0, 512, .inl f29)), (mD, .inl (cy 1, 512, .inl f30)), (mS, .inl (cy 0, 4096, .inl f31)), (mP, .inl (cy 0, 4096, .inl f32))] H := P_back [17, 18] [0, 1, 2, 3, 4, 5, 6, 7, 8, 9, 10, 11, 12, 13, 14, 15, 16, 19, 20, 21, 22] 23 hP hD rfl rfl rfl rfl (by decide) (by decide) hk9 (by rw [← ht9]; exact hB9)
              have hD : va_D A [(a0, .inr (7, [.ref aN, .ref aM, .ref aP, .ref aW, .ref aT, .int z2, .int z3, .int z4])), (aM, .inr (2, [.ref aF, .ref aL, .ref aX, .int z5, .int z6, .int z7, .ref aN, .ref aC, .int z8])), (aF, .inl (cy 0, 512, .inl f9)), (aL, .inl (cy 0, 512, .inl f10)), (aX, .inl (cy 0, 81, .inl f11)), (aC, .inl (cy 0, 81, .inl f12)), (aP, .inr (4, [.ref bF, .ref bL, .ref bX, .int z13, .int z14, .int z15, .ref aN, .int z16])), (bF, .inl (cy 0, 4096, .inl f17)), (bL, .inl (cy 0, 4096, .inl f18)), (bX, .inl (cy 0, 24, .inl f19)), (aN, .inr (3, [.ref aR, .int z57])), (aR, .inl (cy 0, 9, .inl f58)), (aW, .inl (cy 2, 3, .inr (.inr (.inr (.inr (wgh aS aJ aB)))))), (aS, .inr (5, [])), (aJ, .inr (1, [])), (aB, .inr (0, [])), (aT, .inr (6, [.long z22])), (m0, .inr (8, [.int z23, .ref mJ, .int z24, .int z25, .int z26, .long z27, .ref mF, .ref mD, .ref mS, .ref mP])), (mJ, .inl (cy 0, 9, .inl f61)), (mF, .inl (cy 0, 512, .inl f29)), (mD, .inl (cy 1, 512, .inl f30)), (mS, .inl (cy 0, 4096, .inl f31)), (mP, .inl (cy 0, 4096, .inl f32))] := D_same hD rfl
              specialize h r60 f61 hw9
              refine lv_icmp_eq (tgt := 614) hx hb dL_law_192 (by decide) (fun c62 => ?_) (fun c62 => ?_)
              · obtain ⟨h, -⟩ := h
                specialize h c62
                obtain ⟨x63, ex63⟩ : ∃ y : Int32, y = y1 + 6 := ⟨_, rfl⟩
                specialize h x63 ex63
                refine lv_iinc (v := x63) (lv' := [(3, .int x63), (0, .ref b), (1, .ref a0), (2, .ref m0)]) hx hb dL_law_614 hl (k := 3) rfl (by rw [ex63]; rfl) (by decide) rfl (fun ls hl => ?_)
                refine lv_goto (tgt := 18) hx hb dL_law_617 (by decide) ?_
                exact ih18 x63 z2 z3 z4 z5 z6 z7 z8 f9 f10 f11 f12 z13 z14 z15 z16 f17 f18 f19 z57 f58 z22 z23 z24 z25 z26 z27 f61 f29 f30 f31 f32 h.1 (Nat.lt_of_lt_of_le h.2 (Nat.le_of_lt_succ hk18)) _ _ hP hD hS _ (lv_sub hl [1, 2, 3, 0] rfl)
              · obtain ⟨-, h⟩ := h
                specialize h c62
                refine lv_iconst (v := 0) hx hb dL_law_195 (by decide) ?_
                exact h.elim
            · obtain ⟨-, h⟩ := h
              by_cases c64 : ((xs (y1 : Int32).toNatClampNeg) &&& (15 : Int32)) = 3
              · obtain ⟨h, -⟩ := h
                specialize h c64
                refine lv_tableIn (off := 164) (tgt := 197) hx hb dL_law_33 (by rw [c64]; decide) (by rw [c64]; decide) (by rw [c64]; rfl) (by decide) ?_
                refine lv_aload_n hx hb dL_law_197 rfl (lv_at hl 1 rfl) ?_
                refine lv_aload_n hx hb dL_law_198 rfl (lv_at hl 0 rfl) ?_
                refine lv_iload_n hx hb dL_law_199 rfl (lv_at hl 3 rfl) ?_
                refine lv_iconst (v := 1) hx hb dL_law_200 (by decide) ?_
                refine lv_iadd hx hb dL_law_201 ?_
                obtain ⟨hi, h⟩ := h
                refine va_sld hx hb hX hbl hbA hS hi dL_law_202 ?_
                refine lv_aload_n hx hb dL_law_203 rfl (lv_at hl 0 rfl) ?_
                refine lv_iload_n hx hb dL_law_204 rfl (lv_at hl 3 rfl) ?_
                refine lv_iconst (v := 2) hx hb dL_law_205 (by decide) ?_
                refine lv_iadd hx hb dL_law_206 ?_
                obtain ⟨hi, h⟩ := h
                refine va_sld hx hb hX hbl hbA hS hi dL_law_207 ?_
                obtain ⟨Q65, hw9, h⟩ := h
                have hPc : va_P G vwCl [(a0, .inr (7, [.ref aN, .ref aM, .ref aP, .ref aW, .ref aT, .int z2, .int z3, .int z4]))] H := hP.sub [0] rfl
                have hDc : va_D A [(a0, .inr (7, [.ref aN, .ref aM, .ref aP, .ref aW, .ref aT, .int z2, .int z3, .int z4]))] := hD.sub [0] (by decide) rfl
                have hFc := va_free (wc := [(a0, .inr (7, [.ref aN, .ref aM, .ref aP, .ref aW, .ref aT, .int z2, .int z3, .int z4]))]) hD hS hA [0] rfl
                refine va_calli (va_runV (As := [.int (xs ((y1 + (1 : Int32)) : Int32).toNatClampNeg), .int (xs ((y1 + (2 : Int32)) : Int32).toNatClampNeg)]) (rest := []) ⟨hx, hb, hml, hown, hts⟩ (ct_X8_set l G cy a0 aN aM aP aW aT H.size z2 z3 z4 (xs ((y1 + (1 : Int32)) : Int32).toNatClampNeg) (xs ((y1 + (2 : Int32)) : Int32).toNatClampNeg) Q65 hw9) (cwV 2 hts gL_law_X8_setE rfl rfl rfl (by decide +kernel) ⟨Nat.le_of_ble_eq_true rfl, Nat.le_of_ble_eq_true rfl⟩) (wP_V hK hP (ci := 7) (q0 := 0) rfl rfl hPc hDc) rfl rfl hl.1 rfl (lv_room (Nat.le_of_ble_eq_true rfl)) dL_law_208 ⟨Nat.le_of_ble_eq_true rfl, Nat.le_of_ble_eq_true rfl⟩) hS (fun q9 _ h9 => hFc q9 h9) hFc (fun r66 u9 t9 H locs ht9 hvm9 hw9 hB9 hz9 hk9 hS => ?_)
                obtain ⟨z67, z68, z69⟩ := u9
                have hP : va_P G vwCl [(a0, .inr (7, [.ref aN, .ref aM, .ref aP, .ref aW, .ref aT, .int z67, .int z68, .int z69])), (aM, .inr (2, [.ref aF, .ref aL, .ref aX, .int z5, .int z6, .int z7, .ref aN, .ref aC, .int z8])), (aF, .inl (cy 0, 512, .inl f9)), (aL, .inl (cy 0, 512, .inl f10)), (aX, .inl (cy 0, 81, .inl f11)), (aC, .inl (cy 0, 81, .inl f12)), (aP, .inr (4, [.ref bF, .ref bL, .ref bX, .int z13, .int z14, .int z15, .ref aN, .int z16])), (bF, .inl (cy 0, 4096, .inl f17)), (bL, .inl (cy 0, 4096, .inl f18)), (bX, .inl (cy 0, 24, .inl f19)), (aN, .inr (3, [.ref aR, .int z20])), (aR, .inl (cy 0, 9, .inl f21)), (aW, .inl (cy 2, 3, .inr (.inr (.inr (.inr (wgh aS aJ aB)))))), (aS, .inr (5, [])), (aJ, .inr (1, [])), (aB, .inr (0, [])), (aT, .inr (6, [.long z22])), (m0, .inr (8, [.int z23, .ref mJ, .int z24, .int z25, .int z26, .long z27, .ref mF, .ref mD, .ref mS, .ref mP])), (mJ, .inl (cy 0, 9, .inl f28)), (mF, .inl (cy 0, 512, .inl f29)), (mD, .inl (cy 1, 512, .inl f30)), (mS, .inl (cy 0, 4096, .inl f31)), (mP, .inl (cy 0, 4096, .inl f32))] H := P_back [0] [1, 2, 3, 4, 5, 6, 7, 8, 9, 10, 11, 12, 13, 14, 15, 16, 17, 18, 19, 20, 21, 22] 23 hP hD rfl rfl rfl rfl (by decide) (by decide) hk9 (by rw [← ht9]; exact hB9)
                have hD : va_D A [(a0, .inr (7, [.ref aN, .ref aM, .ref aP, .ref aW, .ref aT, .int z67, .int z68, .int z69])), (aM, .inr (2, [.ref aF, .ref aL, .ref aX, .int z5, .int z6, .int z7, .ref aN, .ref aC, .int z8])), (aF, .inl (cy 0, 512, .inl f9)), (aL, .inl (cy 0, 512, .inl f10)), (aX, .inl (cy 0, 81, .inl f11)), (aC, .inl (cy 0, 81, .inl f12)), (aP, .inr (4, [.ref bF, .ref bL, .ref bX, .int z13, .int z14, .int z15, .ref aN, .int z16])), (bF, .inl (cy 0, 4096, .inl f17)), (bL, .inl (cy 0, 4096, .inl f18)), (bX, .inl (cy 0, 24, .inl f19)), (aN, .inr (3, [.ref aR, .int z20])), (aR, .inl (cy 0, 9, .inl f21)), (aW, .inl (cy 2, 3, .inr (.inr (.inr (.inr (wgh aS aJ aB)))))), (aS, .inr (5, [])), (aJ, .inr (1, [])), (aB, .inr (0, [])), (aT, .inr (6, [.long z22])), (m0, .inr (8, [.int z23, .ref mJ, .int z24, .int z25, .int z26, .long z27, .ref mF, .ref mD, .ref mS, .ref mP])), (mJ, .inl (cy 0, 9, .inl f28)), (mF, .inl (cy 0, 512, .inl f29)), (mD, .inl (cy 1, 512, .inl f30)), (mS, .inl (cy 0, 4096, .inl f31)), (mP, .inl (cy 0, 4096, .inl f32))] := D_same hD rfl
                specialize h r66 z67 z68 z69 hw9
                refine lv_aload_n hx hb dL_law_211 rfl (lv_at hl 2 rfl) ?_
                refine lv_aload_n hx hb dL_law_212 rfl (lv_at hl 0 rfl) ?_
                refine lv_iload_n hx hb dL_law_213 rfl (lv_at hl 3 rfl) ?_
                refine lv_iconst (v := 1) hx hb dL_law_214 (by decide) ?_
                refine lv_iadd hx hb dL_law_215 ?_
                obtain ⟨hi, h⟩ := h
                refine va_sld hx hb hX hbl hbA hS hi dL_law_216 ?_
                refine lv_aload_n hx hb dL_law_217 rfl (lv_at hl 0 rfl) ?_
                refine lv_iload_n hx hb dL_law_218 rfl (lv_at hl 3 rfl) ?_
                refine lv_iconst (v := 2) hx hb dL_law_219 (by decide) ?_
                refine lv_iadd hx hb dL_law_220 ?_
                obtain ⟨hi, h⟩ := h
                refine va_sld hx hb hX hbl hbA hS hi dL_law_221 ?_
                obtain ⟨Q70, hw9, h⟩ := h
                have hPc : va_P G vwCl [(m0, .inr (8, [.int z23, .ref mJ, .int z24, .int z25, .int z26, .long z27, .ref mF, .ref mD, .ref mS, .ref mP]))] H := hP.sub [17] rfl
                have hDc : va_D A [(m0, .inr (8, [.int z23, .ref mJ, .int z24, .int z25, .int z26, .long z27, .ref mF, .ref mD, .ref mS, .ref mP]))] := hD.sub [17] (by decide) rfl
                have hFc := va_free (wc := [(m0, .inr (8, [.int z23, .ref mJ, .int z24, .int z25, .int z26, .long z27, .ref mF, .ref mD, .ref mS, .ref mP]))]) hD hS hA [17] rfl
                refine va_calli (va_runV (As := [.int (xs ((y1 + (1 : Int32)) : Int32).toNatClampNeg), .int (xs ((y1 + (2 : Int32)) : Int32).toNatClampNeg)]) (rest := [.int r66]) ⟨hx, hb, hml, hown, hts⟩ (ct_X9_set l G cy m0 mJ mF mD mS mP H.size z23 z24 z25 z26 z27 (xs ((y1 + (1 : Int32)) : Int32).toNatClampNeg) (xs ((y1 + (2 : Int32)) : Int32).toNatClampNeg) Q70 hw9) (cwV 2 hts gL_law_X9_setE rfl rfl rfl (by decide +kernel) ⟨Nat.le_of_ble_eq_true rfl, Nat.le_of_ble_eq_true rfl⟩) (wP_V hK hP (ci := 8) (q0 := 17) rfl rfl hPc hDc) rfl rfl hl.1 rfl (lv_room (Nat.le_of_ble_eq_true rfl)) dL_law_222 ⟨Nat.le_of_ble_eq_true rfl, Nat.le_of_ble_eq_true rfl⟩) hS (fun q9 _ h9 => hFc q9 h9) hFc (fun r71 u9 t9 H locs ht9 hvm9 hw9 hB9 hz9 hk9 hS => ?_)
                obtain ⟨z72, z73, z74⟩ := u9
                have hP : va_P G vwCl [(a0, .inr (7, [.ref aN, .ref aM, .ref aP, .ref aW, .ref aT, .int z67, .int z68, .int z69])), (aM, .inr (2, [.ref aF, .ref aL, .ref aX, .int z5, .int z6, .int z7, .ref aN, .ref aC, .int z8])), (aF, .inl (cy 0, 512, .inl f9)), (aL, .inl (cy 0, 512, .inl f10)), (aX, .inl (cy 0, 81, .inl f11)), (aC, .inl (cy 0, 81, .inl f12)), (aP, .inr (4, [.ref bF, .ref bL, .ref bX, .int z13, .int z14, .int z15, .ref aN, .int z16])), (bF, .inl (cy 0, 4096, .inl f17)), (bL, .inl (cy 0, 4096, .inl f18)), (bX, .inl (cy 0, 24, .inl f19)), (aN, .inr (3, [.ref aR, .int z20])), (aR, .inl (cy 0, 9, .inl f21)), (aW, .inl (cy 2, 3, .inr (.inr (.inr (.inr (wgh aS aJ aB)))))), (aS, .inr (5, [])), (aJ, .inr (1, [])), (aB, .inr (0, [])), (aT, .inr (6, [.long z22])), (m0, .inr (8, [.int z23, .ref mJ, .int z72, .int z73, .int z74, .long z27, .ref mF, .ref mD, .ref mS, .ref mP])), (mJ, .inl (cy 0, 9, .inl f28)), (mF, .inl (cy 0, 512, .inl f29)), (mD, .inl (cy 1, 512, .inl f30)), (mS, .inl (cy 0, 4096, .inl f31)), (mP, .inl (cy 0, 4096, .inl f32))] H := P_back [17] [0, 1, 2, 3, 4, 5, 6, 7, 8, 9, 10, 11, 12, 13, 14, 15, 16, 18, 19, 20, 21, 22] 23 hP hD rfl rfl rfl rfl (by decide) (by decide) hk9 (by rw [← ht9]; exact hB9)
                have hD : va_D A [(a0, .inr (7, [.ref aN, .ref aM, .ref aP, .ref aW, .ref aT, .int z67, .int z68, .int z69])), (aM, .inr (2, [.ref aF, .ref aL, .ref aX, .int z5, .int z6, .int z7, .ref aN, .ref aC, .int z8])), (aF, .inl (cy 0, 512, .inl f9)), (aL, .inl (cy 0, 512, .inl f10)), (aX, .inl (cy 0, 81, .inl f11)), (aC, .inl (cy 0, 81, .inl f12)), (aP, .inr (4, [.ref bF, .ref bL, .ref bX, .int z13, .int z14, .int z15, .ref aN, .int z16])), (bF, .inl (cy 0, 4096, .inl f17)), (bL, .inl (cy 0, 4096, .inl f18)), (bX, .inl (cy 0, 24, .inl f19)), (aN, .inr (3, [.ref aR, .int z20])), (aR, .inl (cy 0, 9, .inl f21)), (aW, .inl (cy 2, 3, .inr (.inr (.inr (.inr (wgh aS aJ aB)))))), (aS, .inr (5, [])), (aJ, .inr (1, [])), (aB, .inr (0, [])), (aT, .inr (6, [.long z22])), (m0, .inr (8, [.int z23, .ref mJ, .int z72, .int z73, .int z74, .long z27, .ref mF, .ref mD, .ref mS, .ref mP])), (mJ, .inl (cy 0, 9, .inl f28)), (mF, .inl (cy 0, 512, .inl f29)), (mD, .inl (cy 1, 512, .inl f30)), (mS, .inl (cy 0, 4096, .inl f31)), (mP, .inl (cy 0, 4096, .inl f32))] := D_same hD rfl
                specialize h r71 z72 z73 z74 hw9
                refine lv_icmp_eq (tgt := 614) hx hb dL_law_225 (by decide) (fun c75 => ?_) (fun c75 => ?_)
                · obtain ⟨h, -⟩ := h
                  specialize h c75
                  obtain ⟨x76, ex76⟩ : ∃ y : Int32, y = y1 + 6 := ⟨_, rfl⟩
                  specialize h x76 ex76
                  refine lv_iinc (v := x76) (lv' := [(3, .int x76), (0, .ref b), (1, .ref a0), (2, .ref m0)]) hx hb dL_law_614 hl (k := 3) rfl (by rw [ex76]; rfl) (by decide) rfl (fun ls hl => ?_)
                  refine lv_goto (tgt := 18) hx hb dL_law_617 (by decide) ?_
                  exact ih18 x76 z67 z68 z69 z5 z6 z7 z8 f9 f10 f11 f12 z13 z14 z15 z16 f17 f18 f19 z20 f21 z22 z23 z72 z73 z74 z27 f28 f29 f30 f31 f32 h.1 (Nat.lt_of_lt_of_le h.2 (Nat.le_of_lt_succ hk18)) _ _ hP hD hS _ (lv_sub hl [1, 2, 3, 0] rfl)
                · obtain ⟨-, h⟩ := h
                  specialize h c75
                  refine lv_iconst (v := 0) hx hb dL_law_228 (by decide) ?_
                  exact h.elim
              · obtain ⟨-, h⟩ := h
                by_cases c77 : ((xs (y1 : Int32).toNatClampNeg) &&& (15 : Int32)) = 4
                · obtain ⟨h, -⟩ := h
                  specialize h c77
                  refine lv_tableIn (off := 197) (tgt := 230) hx hb dL_law_33 (by rw [c77]; decide) (by rw [c77]; decide) (by rw [c77]; rfl) (by decide) ?_
                  refine lv_aload_n hx hb dL_law_230 rfl (lv_at hl 1 rfl) ?_
                  refine lv_aload_n hx hb dL_law_231 rfl (lv_at hl 0 rfl) ?_
                  refine lv_iload_n hx hb dL_law_232 rfl (lv_at hl 3 rfl) ?_
                  refine lv_iconst (v := 1) hx hb dL_law_233 (by decide) ?_
                  refine lv_iadd hx hb dL_law_234 ?_
                  obtain ⟨hi, h⟩ := h
                  refine va_sld hx hb hX hbl hbA hS hi dL_law_235 ?_
                  refine lv_aload_n hx hb dL_law_236 rfl (lv_at hl 0 rfl) ?_
                  refine lv_iload_n hx hb dL_law_237 rfl (lv_at hl 3 rfl) ?_
                  refine lv_iconst (v := 2) hx hb dL_law_238 (by decide) ?_
                  refine lv_iadd hx hb dL_law_239 ?_
                  obtain ⟨hi, h⟩ := h
                  refine va_sld hx hb hX hbl hbA hS hi dL_law_240 ?_
                  obtain ⟨Q78, hw9, h⟩ := h
                  have hPc : va_P G vwCl [(a0, .inr (7, [.ref aN, .ref aM, .ref aP, .ref aW, .ref aT, .int z2, .int z3, .int z4])), (aN, .inr (3, [.ref aR, .int z20])), (aR, .inl (cy 0, 9, .inl f21))] H := hP.sub [0, 10, 11] rfl
                  refine vp_callSi (va_Run.run (va_runV (As := [.int (xs ((y1 + (1 : Int32)) : Int32).toNatClampNeg), .int (xs ((y1 + (2 : Int32)) : Int32).toNatClampNeg)]) (rest := []) ⟨hx, hb, hml, hown, hts⟩ (ct_X8_lawful l G cy a0 aN aR aM aP aW aT z2 z3 z4 z20 f21 (xs ((y1 + (1 : Int32)) : Int32).toNatClampNeg) (xs ((y1 + (2 : Int32)) : Int32).toNatClampNeg) Q78 hw9) (cwV 2 hts gL_law_X8_lawfulE rfl rfl rfl (by decide +kernel) ⟨Nat.le_of_ble_eq_true rfl, Nat.le_of_ble_eq_true rfl⟩) (rP_V hK hP (ci := 7) (q0 := 0) rfl rfl hPc) rfl rfl hl.1 rfl (lv_room (Nat.le_of_ble_eq_true rfl)) dL_law_241 ⟨Nat.le_of_ble_eq_true rfl, Nat.le_of_ble_eq_true rfl⟩)) (fun r79 er79 => ?_)
                  specialize h r79 er79
                  refine lv_aload_n hx hb dL_law_244 rfl (lv_at hl 2 rfl) ?_
                  refine lv_aload_n hx hb dL_law_245 rfl (lv_at hl 0 rfl) ?_
                  refine lv_iload_n hx hb dL_law_246 rfl (lv_at hl 3 rfl) ?_
                  refine lv_iconst (v := 1) hx hb dL_law_247 (by decide) ?_
                  refine lv_iadd hx hb dL_law_248 ?_
                  obtain ⟨hi, h⟩ := h
                  refine va_sld hx hb hX hbl hbA hS hi dL_law_249 ?_
                  refine lv_aload_n hx hb dL_law_250 rfl (lv_at hl 0 rfl) ?_
                  refine lv_iload_n hx hb dL_law_251 rfl (lv_at hl 3 rfl) ?_
                  refine lv_iconst (v := 2) hx hb dL_law_252 (by decide) ?_
                  refine lv_iadd hx hb dL_law_253 ?_
                  obtain ⟨hi, h⟩ := h
                  refine va_sld hx hb hX hbl hbA hS hi dL_law_254 ?_
                  obtain ⟨Q80, hw9, h⟩ := h
                  have hPc : va_P G vwCl [(m0, .inr (8, [.int z23, .ref mJ, .int z24, .int z25, .int z26, .long z27, .ref mF, .ref mD, .ref mS, .ref mP])), (mJ, .inl (cy 0, 9, .inl f28))] H := hP.sub [17, 18] rfl
                  refine vp_callSi (va_Run.run (va_runV (As := [.int (xs ((y1 + (1 : Int32)) : Int32).toNatClampNeg), .int (xs ((y1 + (2 : Int32)) : Int32).toNatClampNeg)]) (rest := [.int r79]) ⟨hx, hb, hml, hown, hts⟩ (ct_X9_lawful l G cy m0 mJ mF mD mS mP z23 z24 z25 z26 z27 f28 (xs ((y1 + (1 : Int32)) : Int32).toNatClampNeg) (xs ((y1 + (2 : Int32)) : Int32).toNatClampNeg) Q80 hw9) (cwV 2 hts gL_law_X9_lawfulE rfl rfl rfl (by decide +kernel) ⟨Nat.le_of_ble_eq_true rfl, Nat.le_of_ble_eq_true rfl⟩) (rP_V hK hP (ci := 8) (q0 := 17) rfl rfl hPc) rfl rfl hl.1 rfl (lv_room (Nat.le_of_ble_eq_true rfl)) dL_law_255 ⟨Nat.le_of_ble_eq_true rfl, Nat.le_of_ble_eq_true rfl⟩)) (fun r81 er81 => ?_)
                  specialize h r81 er81
                  refine lv_icmp_eq (tgt := 614) hx hb dL_law_258 (by decide) (fun c82 => ?_) (fun c82 => ?_)
                  · obtain ⟨h, -⟩ := h
                    specialize h c82
                    obtain ⟨x83, ex83⟩ : ∃ y : Int32, y = y1 + 6 := ⟨_, rfl⟩
                    specialize h x83 ex83
                    refine lv_iinc (v := x83) (lv' := [(3, .int x83), (0, .ref b), (1, .ref a0), (2, .ref m0)]) hx hb dL_law_614 hl (k := 3) rfl (by rw [ex83]; rfl) (by decide) rfl (fun ls hl => ?_)
                    refine lv_goto (tgt := 18) hx hb dL_law_617 (by decide) ?_
                    exact ih18 x83 z2 z3 z4 z5 z6 z7 z8 f9 f10 f11 f12 z13 z14 z15 z16 f17 f18 f19 z20 f21 z22 z23 z24 z25 z26 z27 f28 f29 f30 f31 f32 h.1 (Nat.lt_of_lt_of_le h.2 (Nat.le_of_lt_succ hk18)) _ _ hP hD hS _ (lv_sub hl [1, 2, 3, 0] rfl)
                  · obtain ⟨-, h⟩ := h
                    specialize h c82
                    refine lv_iconst (v := 0) hx hb dL_law_261 (by decide) ?_
                    exact h.elim
                · obtain ⟨-, h⟩ := h
                  by_cases c84 : ((xs (y1 : Int32).toNatClampNeg) &&& (15 : Int32)) = 5
                  · obtain ⟨h, -⟩ := h
                    specialize h c84
                    refine lv_tableIn (off := 230) (tgt := 263) hx hb dL_law_33 (by rw [c84]; decide) (by rw [c84]; decide) (by rw [c84]; rfl) (by decide) ?_
                    refine lv_aload_n hx hb dL_law_263 rfl (lv_at hl 1 rfl) ?_
                    refine lv_aload_n hx hb dL_law_264 rfl (lv_at hl 0 rfl) ?_
                    refine lv_iload_n hx hb dL_law_265 rfl (lv_at hl 3 rfl) ?_
                    refine lv_iconst (v := 1) hx hb dL_law_266 (by decide) ?_
                    refine lv_iadd hx hb dL_law_267 ?_
                    obtain ⟨hi, h⟩ := h
                    refine va_sld hx hb hX hbl hbA hS hi dL_law_268 ?_
                    refine lv_aload_n hx hb dL_law_269 rfl (lv_at hl 0 rfl) ?_
                    refine lv_iload_n hx hb dL_law_270 rfl (lv_at hl 3 rfl) ?_
                    refine lv_iconst (v := 2) hx hb dL_law_271 (by decide) ?_
                    refine lv_iadd hx hb dL_law_272 ?_
                    obtain ⟨hi, h⟩ := h
                    refine va_sld hx hb hX hbl hbA hS hi dL_law_273 ?_
                    obtain ⟨Q85, hw9, h⟩ := h
                    have hPc : va_P G vwCl [(a0, .inr (7, [.ref aN, .ref aM, .ref aP, .ref aW, .ref aT, .int z2, .int z3, .int z4])), (aN, .inr (3, [.ref aR, .int z20])), (aR, .inl (cy 0, 9, .inl f21))] H := hP.sub [0, 10, 11] rfl
                    refine vp_callSi (va_Run.run (va_runV (As := [.int (xs ((y1 + (1 : Int32)) : Int32).toNatClampNeg), .int (xs ((y1 + (2 : Int32)) : Int32).toNatClampNeg)]) (rest := []) ⟨hx, hb, hml, hown, hts⟩ (ct_X8_count l G cy a0 aN aR aM aP aW aT z2 z3 z4 z20 f21 (xs ((y1 + (1 : Int32)) : Int32).toNatClampNeg) (xs ((y1 + (2 : Int32)) : Int32).toNatClampNeg) Q85 hw9) (cwV 2 hts gL_law_X8_countE rfl rfl rfl (by decide +kernel) ⟨Nat.le_of_ble_eq_true rfl, Nat.le_of_ble_eq_true rfl⟩) (rP_V hK hP (ci := 7) (q0 := 0) rfl rfl hPc) rfl rfl hl.1 rfl (lv_room (Nat.le_of_ble_eq_true rfl)) dL_law_274 ⟨Nat.le_of_ble_eq_true rfl, Nat.le_of_ble_eq_true rfl⟩)) (fun r86 er86 => ?_)
                    specialize h r86 er86
                    refine lv_aload_n hx hb dL_law_277 rfl (lv_at hl 2 rfl) ?_
                    refine lv_aload_n hx hb dL_law_278 rfl (lv_at hl 0 rfl) ?_
                    refine lv_iload_n hx hb dL_law_279 rfl (lv_at hl 3 rfl) ?_
                    refine lv_iconst (v := 1) hx hb dL_law_280 (by decide) ?_
                    refine lv_iadd hx hb dL_law_281 ?_
                    obtain ⟨hi, h⟩ := h
                    refine va_sld hx hb hX hbl hbA hS hi dL_law_282 ?_
                    refine lv_aload_n hx hb dL_law_283 rfl (lv_at hl 0 rfl) ?_
                    refine lv_iload_n hx hb dL_law_284 rfl (lv_at hl 3 rfl) ?_
                    refine lv_iconst (v := 2) hx hb dL_law_285 (by decide) ?_
                    refine lv_iadd hx hb dL_law_286 ?_
                    obtain ⟨hi, h⟩ := h
                    refine va_sld hx hb hX hbl hbA hS hi dL_law_287 ?_
                    obtain ⟨Q87, hw9, h⟩ := h
                    have hPc : va_P G vwCl [(m0, .inr (8, [.int z23, .ref mJ, .int z24, .int z25, .int z26, .long z27, .ref mF, .ref mD, .ref mS, .ref mP])), (mJ, .inl (cy 0, 9, .inl f28))] H := hP.sub [17, 18] rfl
                    refine vp_callSi (va_Run.run (va_runV (As := [.int (xs ((y1 + (1 : Int32)) : Int32).toNatClampNeg), .int (xs ((y1 + (2 : Int32)) : Int32).toNatClampNeg)]) (rest := [.int r86]) ⟨hx, hb, hml, hown, hts⟩ (ct_X9_count l G cy m0 mJ mF mD mS mP z23 z24 z25 z26 z27 f28 (xs ((y1 + (1 : Int32)) : Int32).toNatClampNeg) (xs ((y1 + (2 : Int32)) : Int32).toNatClampNeg) Q87 hw9) (cwV 2 hts gL_law_X9_countE rfl rfl rfl (by decide +kernel) ⟨Nat.le_of_ble_eq_true rfl, Nat.le_of_ble_eq_true rfl⟩) (rP_V hK hP (ci := 8) (q0 := 17) rfl rfl hPc) rfl rfl hl.1 rfl (lv_room (Nat.le_of_ble_eq_true rfl)) dL_law_288 ⟨Nat.le_of_ble_eq_true rfl, Nat.le_of_ble_eq_true rfl⟩)) (fun r88 er88 => ?_)
                    specialize h r88 er88
                    refine lv_icmp_eq (tgt := 614) hx hb dL_law_291 (by decide) (fun c89 => ?_) (fun c89 => ?_)
                    · obtain ⟨h, -⟩ := h
                      specialize h c89
                      obtain ⟨x90, ex90⟩ : ∃ y : Int32, y = y1 + 6 := ⟨_, rfl⟩
                      specialize h x90 ex90
                      refine lv_iinc (v := x90) (lv' := [(3, .int x90), (0, .ref b), (1, .ref a0), (2, .ref m0)]) hx hb dL_law_614 hl (k := 3) rfl (by rw [ex90]; rfl) (by decide) rfl (fun ls hl => ?_)
                      refine lv_goto (tgt := 18) hx hb dL_law_617 (by decide) ?_
                      exact ih18 x90 z2 z3 z4 z5 z6 z7 z8 f9 f10 f11 f12 z13 z14 z15 z16 f17 f18 f19 z20 f21 z22 z23 z24 z25 z26 z27 f28 f29 f30 f31 f32 h.1 (Nat.lt_of_lt_of_le h.2 (Nat.le_of_lt_succ hk18)) _ _ hP hD hS _ (lv_sub hl [1, 2, 3, 0] rfl)
                    · obtain ⟨-, h⟩ := h
                      specialize h c89
                      refine lv_iconst (v := 0) hx hb dL_law_294 (by decide) ?_
                      exact h.elim
                  · obtain ⟨-, h⟩ := h
                    by_cases c91 : ((xs (y1 : Int32).toNatClampNeg) &&& (15 : Int32)) = 6
                    · obtain ⟨h, -⟩ := h
                      specialize h c91
                      refine lv_tableIn (off := 263) (tgt := 296) hx hb dL_law_33 (by rw [c91]; decide) (by rw [c91]; decide) (by rw [c91]; rfl) (by decide) ?_
                      refine lv_aload_n hx hb dL_law_296 rfl (lv_at hl 1 rfl) ?_
                      refine lv_aload_n hx hb dL_law_297 rfl (lv_at hl 0 rfl) ?_
                      refine lv_iload_n hx hb dL_law_298 rfl (lv_at hl 3 rfl) ?_
                      refine lv_iconst (v := 1) hx hb dL_law_299 (by decide) ?_
                      refine lv_iadd hx hb dL_law_300 ?_
                      obtain ⟨hi, h⟩ := h
                      refine va_sld hx hb hX hbl hbA hS hi dL_law_301 ?_
                      refine lv_aload_n hx hb dL_law_302 rfl (lv_at hl 0 rfl) ?_
                      refine lv_iload_n hx hb dL_law_303 rfl (lv_at hl 3 rfl) ?_
                      refine lv_iconst (v := 2) hx hb dL_law_304 (by decide) ?_
                      refine lv_iadd hx hb dL_law_305 ?_
                      obtain ⟨hi, h⟩ := h
                      refine va_sld hx hb hX hbl hbA hS hi dL_law_306 ?_
                      refine lv_aload_n hx hb dL_law_307 rfl (lv_at hl 0 rfl) ?_
                      refine lv_iload_n hx hb dL_law_308 rfl (lv_at hl 3 rfl) ?_
                      refine lv_iconst (v := 3) hx hb dL_law_309 (by decide) ?_
                      refine lv_iadd hx hb dL_law_310 ?_
                      obtain ⟨hi, h⟩ := h
                      refine va_sld hx hb hX hbl hbA hS hi dL_law_311 ?_
                      obtain ⟨Q92, hw9, h⟩ := h
                      have hPc : va_P G vwCl [(a0, .inr (7, [.ref aN, .ref aM, .ref aP, .ref aW, .ref aT, .int z2, .int z3, .int z4])), (aN, .inr (3, [.ref aR, .int z20])), (aR, .inl (cy 0, 9, .inl f21)), (aW, .inl (cy 2, 3, .inr (.inr (.inr (.inr (wgh aS aJ aB)))))), (aS, .inr (5, [])), (aJ, .inr (1, [])), (aB, .inr (0, [])), (aT, .inr (6, [.long z22]))] H := hP.sub [0, 10, 11, 12, 13, 14, 15, 16] rfl
                      have hDc : va_D A [(a0, .inr (7, [.ref aN, .ref aM, .ref aP, .ref aW, .ref aT, .int z2, .int z3, .int z4])), (aN, .inr (3, [.ref aR, .int z20])), (aR, .inl (cy 0, 9, .inl f21)), (aW, .inl (cy 2, 3, .inr (.inr (.inr (.inr (wgh aS aJ aB)))))), (aS, .inr (5, [])), (aJ, .inr (1, [])), (aB, .inr (0, [])), (aT, .inr (6, [.long z22]))] := hD.sub [0, 10, 11, 12, 13, 14, 15, 16] (by decide) rfl
                      have hFc := va_free (wc := [(a0, .inr (7, [.ref aN, .ref aM, .ref aP, .ref aW, .ref aT, .int z2, .int z3, .int z4])), (aN, .inr (3, [.ref aR, .int z20])), (aR, .inl (cy 0, 9, .inl f21)), (aW, .inl (cy 2, 3, .inr (.inr (.inr (.inr (wgh aS aJ aB)))))), (aS, .inr (5, [])), (aJ, .inr (1, [])), (aB, .inr (0, [])), (aT, .inr (6, [.long z22]))]) hD hS hA [0, 10, 11, 12, 13, 14, 15, 16] rfl
                      refine va_calli (va_runV (As := [.int (xs ((y1 + (1 : Int32)) : Int32).toNatClampNeg), .int (xs ((y1 + (2 : Int32)) : Int32).toNatClampNeg), .int (xs ((y1 + (3 : Int32)) : Int32).toNatClampNeg)]) (rest := []) ⟨hx, hb, hml, hown, hts⟩ (ct_X8_weight l G cy a0 aN aR aW aS aJ aB aT aM aP H.size z2 z3 z4 z20 f21 z22 (xs ((y1 + (1 : Int32)) : Int32).toNatClampNeg) (xs ((y1 + (2 : Int32)) : Int32).toNatClampNeg) (xs ((y1 + (3 : Int32)) : Int32).toNatClampNeg) Q92 hw9) (cwV 3 hts gL_law_X8_weightE rfl rfl rfl (by decide +kernel) ⟨Nat.le_of_ble_eq_true rfl, Nat.le_of_ble_eq_true rfl⟩) (wP_V hK hP (ci := 7) (q0 := 0) rfl rfl hPc hDc) rfl rfl hl.1 rfl (lv_room (Nat.le_of_ble_eq_true rfl)) dL_law_312 ⟨Nat.le_of_ble_eq_true rfl, Nat.le_of_ble_eq_true rfl⟩) hS (fun q9 _ h9 => hFc q9 h9) hFc (fun r93 u9 t9 H locs ht9 hvm9 hw9 hB9 hz9 hk9 hS => ?_)
                      obtain ⟨z94, rfl⟩ : ∃ z9, z9 = u9 := ⟨_, rfl⟩
                      have hP : va_P G vwCl [(a0, .inr (7, [.ref aN, .ref aM, .ref aP, .ref aW, .ref aT, .int z2, .int z3, .int z4])), (aM, .inr (2, [.ref aF, .ref aL, .ref aX, .int z5, .int z6, .int z7, .ref aN, .ref aC, .int z8])), (aF, .inl (cy 0, 512, .inl f9)), (aL, .inl (cy 0, 512, .inl f10)), (aX, .inl (cy 0, 81, .inl f11)), (aC, .inl (cy 0, 81, .inl f12)), (aP, .inr (4, [.ref bF, .ref bL, .ref bX, .int z13, .int z14, .int z15, .ref aN, .int z16])), (bF, .inl (cy 0, 4096, .inl f17)), (bL, .inl (cy 0, 4096, .inl f18)), (bX, .inl (cy 0, 24, .inl f19)), (aN, .inr (3, [.ref aR, .int z20])), (aR, .inl (cy 0, 9, .inl f21)), (aW, .inl (cy 2, 3, .inr (.inr (.inr (.inr (wgh aS aJ aB)))))), (aS, .inr (5, [])), (aJ, .inr (1, [])), (aB, .inr (0, [])), (aT, .inr (6, [.long z94])), (m0, .inr (8, [.int z23, .ref mJ, .int z24, .int z25, .int z26, .long z27, .ref mF, .ref mD, .ref mS, .ref mP])), (mJ, .inl (cy 0, 9, .inl f28)), (mF, .inl (cy 0, 512, .inl f29)), (mD, .inl (cy 1, 512, .inl f30)), (mS, .inl (cy 0, 4096, .inl f31)), (mP, .inl (cy 0, 4096, .inl f32))] H := P_back [0, 10, 11, 12, 13, 14, 15, 16] [1, 2, 3, 4, 5, 6, 7, 8, 9, 17, 18, 19, 20, 21, 22] 23 hP hD rfl rfl rfl rfl (by decide) (by decide) hk9 (by rw [← ht9]; exact hB9)
                      have hD : va_D A [(a0, .inr (7, [.ref aN, .ref aM, .ref aP, .ref aW, .ref aT, .int z2, .int z3, .int z4])), (aM, .inr (2, [.ref aF, .ref aL, .ref aX, .int z5, .int z6, .int z7, .ref aN, .ref aC, .int z8])), (aF, .inl (cy 0, 512, .inl f9)), (aL, .inl (cy 0, 512, .inl f10)), (aX, .inl (cy 0, 81, .inl f11)), (aC, .inl (cy 0, 81, .inl f12)), (aP, .inr (4, [.ref bF, .ref bL, .ref bX, .int z13, .int z14, .int z15, .ref aN, .int z16])), (bF, .inl (cy 0, 4096, .inl f17)), (bL, .inl (cy 0, 4096, .inl f18)), (bX, .inl (cy 0, 24, .inl f19)), (aN, .inr (3, [.ref aR, .int z20])), (aR, .inl (cy 0, 9, .inl f21)), (aW, .inl (cy 2, 3, .inr (.inr (.inr (.inr (wgh aS aJ aB)))))), (aS, .inr (5, [])), (aJ, .inr (1, [])), (aB, .inr (0, [])), (aT, .inr (6, [.long z94])), (m0, .inr (8, [.int z23, .ref mJ, .int z24, .int z25, .int z26, .long z27, .ref mF, .ref mD, .ref mS, .ref mP])), (mJ, .inl (cy 0, 9, .inl f28)), (mF, .inl (cy 0, 512, .inl f29)), (mD, .inl (cy 1, 512, .inl f30)), (mS, .inl (cy 0, 4096, .inl f31)), (mP, .inl (cy 0, 4096, .inl f32))] := D_same hD rfl
                      specialize h r93 z94 hw9
                      refine lv_aload_n hx hb dL_law_315 rfl (lv_at hl 2 rfl) ?_
                      refine lv_aload_n hx hb dL_law_316 rfl (lv_at hl 0 rfl) ?_
                      refine lv_iload_n hx hb dL_law_317 rfl (lv_at hl 3 rfl) ?_
                      refine lv_iconst (v := 1) hx hb dL_law_318 (by decide) ?_
                      refine lv_iadd hx hb dL_law_319 ?_
                      obtain ⟨hi, h⟩ := h
                      refine va_sld hx hb hX hbl hbA hS hi dL_law_320 ?_
                      refine lv_aload_n hx hb dL_law_321 rfl (lv_at hl 0 rfl) ?_
                      refine lv_iload_n hx hb dL_law_322 rfl (lv_at hl 3 rfl) ?_
                      refine lv_iconst (v := 2) hx hb dL_law_323 (by decide) ?_
                      refine lv_iadd hx hb dL_law_324 ?_
                      obtain ⟨hi, h⟩ := h
                      refine va_sld hx hb hX hbl hbA hS hi dL_law_325 ?_
                      refine lv_aload_n hx hb dL_law_326 rfl (lv_at hl 0 rfl) ?_
                      refine lv_iload_n hx hb dL_law_327 rfl (lv_at hl 3 rfl) ?_
                      refine lv_iconst (v := 3) hx hb dL_law_328 (by decide) ?_
                      refine lv_iadd hx hb dL_law_329 ?_
                      obtain ⟨hi, h⟩ := h
                      refine va_sld hx hb hX hbl hbA hS hi dL_law_330 ?_
                      obtain ⟨Q95, hw9, h⟩ := h
                      have hPc : va_P G vwCl [(m0, .inr (8, [.int z23, .ref mJ, .int z24, .int z25, .int z26, .long z27, .ref mF, .ref mD, .ref mS, .ref mP])), (mJ, .inl (cy 0, 9, .inl f28))] H := hP.sub [17, 18] rfl
                      have hDc : va_D A [(m0, .inr (8, [.int z23, .ref mJ, .int z24, .int z25, .int z26, .long z27, .ref mF, .ref mD, .ref mS, .ref mP])), (mJ, .inl (cy 0, 9, .inl f28))] := hD.sub [17, 18] (by decide) rfl
                      have hFc := va_free (wc := [(m0, .inr (8, [.int z23, .ref mJ, .int z24, .int z25, .int z26, .long z27, .ref mF, .ref mD, .ref mS, .ref mP])), (mJ, .inl (cy 0, 9, .inl f28))]) hD hS hA [17, 18] rfl
                      refine va_calli (va_runV (As := [.int (xs ((y1 + (1 : Int32)) : Int32).toNatClampNeg), .int (xs ((y1 + (2 : Int32)) : Int32).toNatClampNeg), .int (xs ((y1 + (3 : Int32)) : Int32).toNatClampNeg)]) (rest := [.int r93]) ⟨hx, hb, hml, hown, hts⟩ (ct_X9_weight l G cy m0 mJ mF mD mS mP H.size z23 z24 z25 z26 z27 f28 (xs ((y1 + (1 : Int32)) : Int32).toNatClampNeg) (xs ((y1 + (2 : Int32)) : Int32).toNatClampNeg) (xs ((y1 + (3 : Int32)) : Int32).toNatClampNeg) Q95 hw9) (cwV 3 hts gL_law_X9_weightE rfl rfl rfl (by decide +kernel) ⟨Nat.le_of_ble_eq_true rfl, Nat.le_of_ble_eq_true rfl⟩) (wP_V hK hP (ci := 8) (q0 := 17) rfl rfl hPc hDc) rfl rfl hl.1 rfl (lv_room (Nat.le_of_ble_eq_true rfl)) dL_law_331 ⟨Nat.le_of_ble_eq_true rfl, Nat.le_of_ble_eq_true rfl⟩) hS (fun q9 _ h9 => hFc q9 h9) hFc (fun r96 u9 t9 H locs ht9 hvm9 hw9 hB9 hz9 hk9 hS => ?_)
                      obtain ⟨z97, rfl⟩ : ∃ z9, z9 = u9 := ⟨_, rfl⟩
                      have hP : va_P G vwCl [(a0, .inr (7, [.ref aN, .ref aM, .ref aP, .ref aW, .ref aT, .int z2, .int z3, .int z4])), (aM, .inr (2, [.ref aF, .ref aL, .ref aX, .int z5, .int z6, .int z7, .ref aN, .ref aC, .int z8])), (aF, .inl (cy 0, 512, .inl f9)), (aL, .inl (cy 0, 512, .inl f10)), (aX, .inl (cy 0, 81, .inl f11)), (aC, .inl (cy 0, 81, .inl f12)), (aP, .inr (4, [.ref bF, .ref bL, .ref bX, .int z13, .int z14, .int z15, .ref aN, .int z16])), (bF, .inl (cy 0, 4096, .inl f17)), (bL, .inl (cy 0, 4096, .inl f18)), (bX, .inl (cy 0, 24, .inl f19)), (aN, .inr (3, [.ref aR, .int z20])), (aR, .inl (cy 0, 9, .inl f21)), (aW, .inl (cy 2, 3, .inr (.inr (.inr (.inr (wgh aS aJ aB)))))), (aS, .inr (5, [])), (aJ, .inr (1, [])), (aB, .inr (0, [])), (aT, .inr (6, [.long z94])), (m0, .inr (8, [.int z23, .ref mJ, .int z24, .int z25, .int z26, .long z97, .ref mF, .ref mD, .ref mS, .ref mP])), (mJ, .inl (cy 0, 9, .inl f28)), (mF, .inl (cy 0, 512, .inl f29)), (mD, .inl (cy 1, 512, .inl f30)), (mS, .inl (cy 0, 4096, .inl f31)), (mP, .inl (cy 0, 4096, .inl f32))] H := P_back [17, 18] [0, 1, 2, 3, 4, 5, 6, 7, 8, 9, 10, 11, 12, 13, 14, 15, 16, 19, 20, 21, 22] 23 hP hD rfl rfl rfl rfl (by decide) (by decide) hk9 (by rw [← ht9]; exact hB9)
                      have hD : va_D A [(a0, .inr (7, [.ref aN, .ref aM, .ref aP, .ref aW, .ref aT, .int z2, .int z3, .int z4])), (aM, .inr (2, [.ref aF, .ref aL, .ref aX, .int z5, .int z6, .int z7, .ref aN, .ref aC, .int z8])), (aF, .inl (cy 0, 512, .inl f9)), (aL, .inl (cy 0, 512, .inl f10)), (aX, .inl (cy 0, 81, .inl f11)), (aC, .inl (cy 0, 81, .inl f12)), (aP, .inr (4, [.ref bF, .ref bL, .ref bX, .int z13, .int z14, .int z15, .ref aN, .int z16])), (bF, .inl (cy 0, 4096, .inl f17)), (bL, .inl (cy 0, 4096, .inl f18)), (bX, .inl (cy 0, 24, .inl f19)), (aN, .inr (3, [.ref aR, .int z20])), (aR, .inl (cy 0, 9, .inl f21)), (aW, .inl (cy 2, 3, .inr (.inr (.inr (.inr (wgh aS aJ aB)))))), (aS, .inr (5, [])), (aJ, .inr (1, [])), (aB, .inr (0, [])), (aT, .inr (6, [.long z94])), (m0, .inr (8, [.int z23, .ref mJ, .int z24, .int z25, .int z26, .long z97, .ref mF, .ref mD, .ref mS, .ref mP])), (mJ, .inl (cy 0, 9, .inl f28)), (mF, .inl (cy 0, 512, .inl f29)), (mD, .inl (cy 1, 512, .inl f30)), (mS, .inl (cy 0, 4096, .inl f31)), (mP, .inl (cy 0, 4096, .inl f32))] := D_same hD rfl
                      specialize h r96 z97 hw9
                      refine lv_icmp_eq (tgt := 614) hx hb dL_law_334 (by decide) (fun c98 => ?_) (fun c98 => ?_)
                      · obtain ⟨h, -⟩ := h
                        specialize h c98
                        obtain ⟨x99, ex99⟩ : ∃ y : Int32, y = y1 + 6 := ⟨_, rfl⟩
                        specialize h x99 ex99
                        refine lv_iinc (v := x99) (lv' := [(3, .int x99), (0, .ref b), (1, .ref a0), (2, .ref m0)]) hx hb dL_law_614 hl (k := 3) rfl (by rw [ex99]; rfl) (by decide) rfl (fun ls hl => ?_)
                        refine lv_goto (tgt := 18) hx hb dL_law_617 (by decide) ?_
                        exact ih18 x99 z2 z3 z4 z5 z6 z7 z8 f9 f10 f11 f12 z13 z14 z15 z16 f17 f18 f19 z20 f21 z94 z23 z24 z25 z26 z97 f28 f29 f30 f31 f32 h.1 (Nat.lt_of_lt_of_le h.2 (Nat.le_of_lt_succ hk18)) _ _ hP hD hS _ (lv_sub hl [1, 2, 3, 0] rfl)
                      · obtain ⟨-, h⟩ := h
                        specialize h c98
                        refine lv_iconst (v := 0) hx hb dL_law_337 (by decide) ?_
                        exact h.elim
                    · obtain ⟨-, h⟩ := h
                      by_cases c100 : ((xs (y1 : Int32).toNatClampNeg) &&& (15 : Int32)) = 7
                      · obtain ⟨h, -⟩ := h
                        specialize h c100
                        refine lv_tableIn (off := 306) (tgt := 339) hx hb dL_law_33 (by rw [c100]; decide) (by rw [c100]; decide) (by rw [c100]; rfl) (by decide) ?_
                        refine lv_aload_n hx hb dL_law_339 rfl (lv_at hl 1 rfl) ?_
                        refine lv_aload_n hx hb dL_law_340 rfl (lv_at hl 0 rfl) ?_
                        refine lv_iload_n hx hb dL_law_341 rfl (lv_at hl 3 rfl) ?_
                        refine lv_iconst (v := 1) hx hb dL_law_342 (by decide) ?_
                        refine lv_iadd hx hb dL_law_343 ?_
                        obtain ⟨hi, h⟩ := h
                        refine va_sld hx hb hX hbl hbA hS hi dL_law_344 ?_
                        refine lv_aload_n hx hb dL_law_345 rfl (lv_at hl 0 rfl) ?_
                        refine lv_iload_n hx hb dL_law_346 rfl (lv_at hl 3 rfl) ?_
                        refine lv_iconst (v := 2) hx hb dL_law_347 (by decide) ?_
                        refine lv_iadd hx hb dL_law_348 ?_
                        obtain ⟨hi, h⟩ := h
                        refine va_sld hx hb hX hbl hbA hS hi dL_law_349 ?_
                        refine lv_aload_n hx hb dL_law_350 rfl (lv_at hl 0 rfl) ?_
                        refine lv_iload_n hx hb dL_law_351 rfl (lv_at hl 3 rfl) ?_
                        refine lv_iconst (v := 3) hx hb dL_law_352 (by decide) ?_
                        refine lv_iadd hx hb dL_law_353 ?_
                        obtain ⟨hi, h⟩ := h
                        refine va_sld hx hb hX hbl hbA hS hi dL_law_354 ?_
                        refine lv_aload_n hx hb dL_law_355 rfl (lv_at hl 0 rfl) ?_
                        refine lv_iload_n hx hb dL_law_356 rfl (lv_at hl 3 rfl) ?_
                        refine lv_iconst (v := 4) hx hb dL_law_357 (by decide) ?_
                        refine lv_iadd hx hb dL_law_358 ?_
                        obtain ⟨hi, h⟩ := h
                        refine va_sld hx hb hX hbl hbA hS hi dL_law_359 ?_
                        refine lv_aload_n hx hb dL_law_360 rfl (lv_at hl 0 rfl) ?_
                        refine lv_iload_n hx hb dL_law_361 rfl (lv_at hl 3 rfl) ?_
                        refine lv_iconst (v := 5) hx hb dL_law_362 (by decide) ?_
                        refine lv_iadd hx hb dL_law_363 ?_
                        obtain ⟨hi, h⟩ := h
                        refine va_sld hx hb hX hbl hbA hS hi dL_law_364 ?_
                        obtain ⟨Q101, hw9, h⟩ := h
                        have hPc : va_P G vwCl [(a0, .inr (7, [.ref aN, .ref aM, .ref aP, .ref aW, .ref aT, .int z2, .int z3, .int z4])), (aM, .inr (2, [.ref aF, .ref aL, .ref aX, .int z5, .int z6, .int z7, .ref aN, .ref aC, .int z8])), (aF, .inl (cy 0, 512, .inl f9)), (aL, .inl (cy 0, 512, .inl f10)), (aX, .inl (cy 0, 81, .inl f11)), (aC, .inl (cy 0, 81, .inl f12)), (aN, .inr (3, [.ref aR, .int z20])), (aR, .inl (cy 0, 9, .inl f21))] H := hP.sub [0, 1, 2, 3, 4, 5, 10, 11] rfl
                        have hDc : va_D A [(a0, .inr (7, [.ref aN, .ref aM, .ref aP, .ref aW, .ref aT, .int z2, .int z3, .int z4])), (aM, .inr (2, [.ref aF, .ref aL, .ref aX, .int z5, .int z6, .int z7, .ref aN, .ref aC, .int z8])), (aF, .inl (cy 0, 512, .inl f9)), (aL, .inl (cy 0, 512, .inl f10)), (aX, .inl (cy 0, 81, .inl f11)), (aC, .inl (cy 0, 81, .inl f12)), (aN, .inr (3, [.ref aR, .int z20])), (aR, .inl (cy 0, 9, .inl f21))] := hD.sub [0, 1, 2, 3, 4, 5, 10, 11] (by decide) rfl
                        have hFc := va_free (wc := [(a0, .inr (7, [.ref aN, .ref aM, .ref aP, .ref aW, .ref aT, .int z2, .int z3, .int z4])), (aM, .inr (2, [.ref aF, .ref aL, .ref aX, .int z5, .int z6, .int z7, .ref aN, .ref aC, .int z8])), (aF, .inl (cy 0, 512, .inl f9)), (aL, .inl (cy 0, 512, .inl f10)), (aX, .inl (cy 0, 81, .inl f11)), (aC, .inl (cy 0, 81, .inl f12)), (aN, .inr (3, [.ref aR, .int z20])), (aR, .inl (cy 0, 9, .inl f21))]) hD hS hA [0, 1, 2, 3, 4, 5, 10, 11] rfl
                        refine va_calli (va_runV (As := [.int (xs ((y1 + (1 : Int32)) : Int32).toNatClampNeg), .int (xs ((y1 + (2 : Int32)) : Int32).toNatClampNeg), .int (xs ((y1 + (3 : Int32)) : Int32).toNatClampNeg), .int (xs ((y1 + (4 : Int32)) : Int32).toNatClampNeg), .int (xs ((y1 + (5 : Int32)) : Int32).toNatClampNeg)]) (rest := []) ⟨hx, hb, hml, hown, hts⟩ (ct_X8_walk l G cy a0 aM aF aL aX aC aN aR aP aW aT H.size z2 z3 z4 z5 z6 z7 z8 f9 f10 f11 f12 z20 f21 (xs ((y1 + (1 : Int32)) : Int32).toNatClampNeg) (xs ((y1 + (2 : Int32)) : Int32).toNatClampNeg) (xs ((y1 + (3 : Int32)) : Int32).toNatClampNeg) (xs ((y1 + (4 : Int32)) : Int32).toNatClampNeg) (xs ((y1 + (5 : Int32)) : Int32).toNatClampNeg) Q101 hw9) (cwV 5 hts gL_law_X8_walkE rfl rfl rfl (by decide +kernel) ⟨Nat.le_of_ble_eq_true rfl, Nat.le_of_ble_eq_true rfl⟩) (wP_V hK hP (ci := 7) (q0 := 0) rfl rfl hPc hDc) rfl rfl hl.1 rfl (lv_room (Nat.le_of_ble_eq_true rfl)) dL_law_365 ⟨Nat.le_of_ble_eq_true rfl, Nat.le_of_ble_eq_true rfl⟩) hS (fun q9 _ h9 => hFc q9 h9) hFc (fun r102 u9 t9 H locs ht9 hvm9 hw9 hB9 hz9 hk9 hS => ?_)
                        obtain ⟨z103, z104, z105, z106, f107, f108, f109, f110⟩ := u9
                        have hP : va_P G vwCl [(a0, .inr (7, [.ref aN, .ref aM, .ref aP, .ref aW, .ref aT, .int z2, .int z3, .int z4])), (aM, .inr (2, [.ref aF, .ref aL, .ref aX, .int z103, .int z104, .int z105, .ref aN, .ref aC, .int z106])), (aF, .inl (cy 0, 512, .inl f107)), (aL, .inl (cy 0, 512, .inl f108)), (aX, .inl (cy 0, 81, .inl f109)), (aC, .inl (cy 0, 81, .inl f110)), (aP, .inr (4, [.ref bF, .ref bL, .ref bX, .int z13, .int z14, .int z15, .ref aN, .int z16])), (bF, .inl (cy 0, 4096, .inl f17)), (bL, .inl (cy 0, 4096, .inl f18)), (bX, .inl (cy 0, 24, .inl f19)), (aN, .inr (3, [.ref aR, .int z20])), (aR, .inl (cy 0, 9, .inl f21)), (aW, .inl (cy 2, 3, .inr (.inr (.inr (.inr (wgh aS aJ aB)))))), (aS, .inr (5, [])), (aJ, .inr (1, [])), (aB, .inr (0, [])), (aT, .inr (6, [.long z22])), (m0, .inr (8, [.int z23, .ref mJ, .int z24, .int z25, .int z26, .long z27, .ref mF, .ref mD, .ref mS, .ref mP])), (mJ, .inl (cy 0, 9, .inl f28)), (mF, .inl (cy 0, 512, .inl f29)), (mD, .inl (cy 1, 512, .inl f30)), (mS, .inl (cy 0, 4096, .inl f31)), (mP, .inl (cy 0, 4096, .inl f32))] H := P_back [0, 1, 2, 3, 4, 5, 10, 11] [6, 7, 8, 9, 12, 13, 14, 15, 16, 17, 18, 19, 20, 21, 22] 23 hP hD rfl rfl rfl rfl (by decide) (by decide) hk9 (by rw [← ht9]; exact hB9)
                        have hD : va_D A [(a0, .inr (7, [.ref aN, .ref aM, .ref aP, .ref aW, .ref aT, .int z2, .int z3, .int z4])), (aM, .inr (2, [.ref aF, .ref aL, .ref aX, .int z103, .int z104, .int z105, .ref aN, .ref aC, .int z106])), (aF, .inl (cy 0, 512, .inl f107)), (aL, .inl (cy 0, 512, .inl f108)), (aX, .inl (cy 0, 81, .inl f109)), (aC, .inl (cy 0, 81, .inl f110)), (aP, .inr (4, [.ref bF, .ref bL, .ref bX, .int z13, .int z14, .int z15, .ref aN, .int z16])), (bF, .inl (cy 0, 4096, .inl f17)), (bL, .inl (cy 0, 4096, .inl f18)), (bX, .inl (cy 0, 24, .inl f19)), (aN, .inr (3, [.ref aR, .int z20])), (aR, .inl (cy 0, 9, .inl f21)), (aW, .inl (cy 2, 3, .inr (.inr (.inr (.inr (wgh aS aJ aB)))))), (aS, .inr (5, [])), (aJ, .inr (1, [])), (aB, .inr (0, [])), (aT, .inr (6, [.long z22])), (m0, .inr (8, [.int z23, .ref mJ, .int z24, .int z25, .int z26, .long z27, .ref mF, .ref mD, .ref mS, .ref mP])), (mJ, .inl (cy 0, 9, .inl f28)), (mF, .inl (cy 0, 512, .inl f29)), (mD, .inl (cy 1, 512, .inl f30)), (mS, .inl (cy 0, 4096, .inl f31)), (mP, .inl (cy 0, 4096, .inl f32))] := D_same hD rfl
                        specialize h r102 z103 z104 z105 z106 f107 f108 f109 f110 hw9
                        refine lv_aload_n hx hb dL_law_368 rfl (lv_at hl 2 rfl) ?_
                        refine lv_aload_n hx hb dL_law_369 rfl (lv_at hl 0 rfl) ?_
                        refine lv_iload_n hx hb dL_law_370 rfl (lv_at hl 3 rfl) ?_
                        refine lv_iconst (v := 1) hx hb dL_law_371 (by decide) ?_
                        refine lv_iadd hx hb dL_law_372 ?_
                        obtain ⟨hi, h⟩ := h
                        refine va_sld hx hb hX hbl hbA hS hi dL_law_373 ?_
                        refine lv_aload_n hx hb dL_law_374 rfl (lv_at hl 0 rfl) ?_
                        refine lv_iload_n hx hb dL_law_375 rfl (lv_at hl 3 rfl) ?_
                        refine lv_iconst (v := 2) hx hb dL_law_376 (by decide) ?_
                        refine lv_iadd hx hb dL_law_377 ?_
                        obtain ⟨hi, h⟩ := h
                        refine va_sld hx hb hX hbl hbA hS hi dL_law_378 ?_
                        refine lv_aload_n hx hb dL_law_379 rfl (lv_at hl 0 rfl) ?_
                        refine lv_iload_n hx hb dL_law_380 rfl (lv_at hl 3 rfl) ?_
                        refine lv_iconst (v := 3) hx hb dL_law_381 (by decide) ?_
                        refine lv_iadd hx hb dL_law_382 ?_
                        obtain ⟨hi, h⟩ := h
                        refine va_sld hx hb hX hbl hbA hS hi dL_law_383 ?_
                        refine lv_aload_n hx hb dL_law_384 rfl (lv_at hl 0 rfl) ?_
                        refine lv_iload_n hx hb dL_law_385 rfl (lv_at hl 3 rfl) ?_
                        refine lv_iconst (v := 4) hx hb dL_law_386 (by decide) ?_
                        refine lv_iadd hx hb dL_law_387 ?_
                        obtain ⟨hi, h⟩ := h
                        refine va_sld hx hb hX hbl hbA hS hi dL_law_388 ?_
                        refine lv_aload_n hx hb dL_law_389 rfl (lv_at hl 0 rfl) ?_
                        refine lv_iload_n hx hb dL_law_390 rfl (lv_at hl 3 rfl) ?_
                        refine lv_iconst (v := 5) hx hb dL_law_391 (by decide) ?_
                        refine lv_iadd hx hb dL_law_392 ?_
                        obtain ⟨hi, h⟩ := h
                        refine va_sld hx hb hX hbl hbA hS hi dL_law_393 ?_
                        obtain ⟨Q111, hw9, h⟩ := h
                        have hPc : va_P G vwCl [(m0, .inr (8, [.int z23, .ref mJ, .int z24, .int z25, .int z26, .long z27, .ref mF, .ref mD, .ref mS, .ref mP])), (mJ, .inl (cy 0, 9, .inl f28)), (mF, .inl (cy 0, 512, .inl f29)), (mD, .inl (cy 1, 512, .inl f30))] H := hP.sub [17, 18, 19, 20] rfl
                        have hDc : va_D A [(m0, .inr (8, [.int z23, .ref mJ, .int z24, .int z25, .int z26, .long z27, .ref mF, .ref mD, .ref mS, .ref mP])), (mJ, .inl (cy 0, 9, .inl f28)), (mF, .inl (cy 0, 512, .inl f29)), (mD, .inl (cy 1, 512, .inl f30))] := hD.sub [17, 18, 19, 20] (by decide) rfl
                        have hFc := va_free (wc := [(m0, .inr (8, [.int z23, .ref mJ, .int z24, .int z25, .int z26, .long z27, .ref mF, .ref mD, .ref mS, .ref mP])), (mJ, .inl (cy 0, 9, .inl f28)), (mF, .inl (cy 0, 512, .inl f29)), (mD, .inl (cy 1, 512, .inl f30))]) hD hS hA [17, 18, 19, 20] rfl
                        refine va_calli (va_runV (As := [.int (xs ((y1 + (1 : Int32)) : Int32).toNatClampNeg), .int (xs ((y1 + (2 : Int32)) : Int32).toNatClampNeg), .int (xs ((y1 + (3 : Int32)) : Int32).toNatClampNeg), .int (xs ((y1 + (4 : Int32)) : Int32).toNatClampNeg), .int (xs ((y1 + (5 : Int32)) : Int32).toNatClampNeg)]) (rest := [.int r102]) ⟨hx, hb, hml, hown, hts⟩ (ct_X9_walk l G cy m0 mJ mF mD mS mP H.size z23 z24 z25 z26 z27 f28 f29 f30 (xs ((y1 + (1 : Int32)) : Int32).toNatClampNeg) (xs ((y1 + (2 : Int32)) : Int32).toNatClampNeg) (xs ((y1 + (3 : Int32)) : Int32).toNatClampNeg) (xs ((y1 + (4 : Int32)) : Int32).toNatClampNeg) (xs ((y1 + (5 : Int32)) : Int32).toNatClampNeg) Q111 hw9) (cwV 5 hts gL_law_X9_walkE rfl rfl rfl (by decide +kernel) ⟨Nat.le_of_ble_eq_true rfl, Nat.le_of_ble_eq_true rfl⟩) (wP_V hK hP (ci := 8) (q0 := 17) rfl rfl hPc hDc) rfl rfl hl.1 rfl (lv_room (Nat.le_of_ble_eq_true rfl)) dL_law_394 ⟨Nat.le_of_ble_eq_true rfl, Nat.le_of_ble_eq_true rfl⟩) hS (fun q9 _ h9 => hFc q9 h9) hFc (fun r112 u9 t9 H locs ht9 hvm9 hw9 hB9 hz9 hk9 hS => ?_)
                        obtain ⟨f113, f114⟩ := u9
                        have hP : va_P G vwCl [(a0, .inr (7, [.ref aN, .ref aM, .ref aP, .ref aW, .ref aT, .int z2, .int z3, .int z4])), (aM, .inr (2, [.ref aF, .ref aL, .ref aX, .int z103, .int z104, .int z105, .ref aN, .ref aC, .int z106])), (aF, .inl (cy 0, 512, .inl f107)), (aL, .inl (cy 0, 512, .inl f108)), (aX, .inl (cy 0, 81, .inl f109)), (aC, .inl (cy 0, 81, .inl f110)), (aP, .inr (4, [.ref bF, .ref bL, .ref bX, .int z13, .int z14, .int z15, .ref aN, .int z16])), (bF, .inl (cy 0, 4096, .inl f17)), (bL, .inl (cy 0, 4096, .inl f18)), (bX, .inl (cy 0, 24, .inl f19)), (aN, .inr (3, [.ref aR, .int z20])), (aR, .inl (cy 0, 9, .inl f21)), (aW, .inl (cy 2, 3, .inr (.inr (.inr (.inr (wgh aS aJ aB)))))), (aS, .inr (5, [])), (aJ, .inr (1, [])), (aB, .inr (0, [])), (aT, .inr (6, [.long z22])), (m0, .inr (8, [.int z23, .ref mJ, .int z24, .int z25, .int z26, .long z27, .ref mF, .ref mD, .ref mS, .ref mP])), (mJ, .inl (cy 0, 9, .inl f28)), (mF, .inl (cy 0, 512, .inl f113)), (mD, .inl (cy 1, 512, .inl f114)), (mS, .inl (cy 0, 4096, .inl f31)), (mP, .inl (cy 0, 4096, .inl f32))] H := P_back [17, 18, 19, 20] [0, 1, 2, 3, 4, 5, 6, 7, 8, 9, 10, 11, 12, 13, 14, 15, 16, 21, 22] 23 hP hD rfl rfl rfl rfl (by decide) (by decide) hk9 (by rw [← ht9]; exact hB9)
                        have hD : va_D A [(a0, .inr (7, [.ref aN, .ref aM, .ref aP, .ref aW, .ref aT, .int z2, .int z3, .int z4])), (aM, .inr (2, [.ref aF, .ref aL, .ref aX, .int z103, .int z104, .int z105, .ref aN, .ref aC, .int z106])), (aF, .inl (cy 0, 512, .inl f107)), (aL, .inl (cy 0, 512, .inl f108)), (aX, .inl (cy 0, 81, .inl f109)), (aC, .inl (cy 0, 81, .inl f110)), (aP, .inr (4, [.ref bF, .ref bL, .ref bX, .int z13, .int z14, .int z15, .ref aN, .int z16])), (bF, .inl (cy 0, 4096, .inl f17)), (bL, .inl (cy 0, 4096, .inl f18)), (bX, .inl (cy 0, 24, .inl f19)), (aN, .inr (3, [.ref aR, .int z20])), (aR, .inl (cy 0, 9, .inl f21)), (aW, .inl (cy 2, 3, .inr (.inr (.inr (.inr (wgh aS aJ aB)))))), (aS, .inr (5, [])), (aJ, .inr (1, [])), (aB, .inr (0, [])), (aT, .inr (6, [.long z22])), (m0, .inr (8, [.int z23, .ref mJ, .int z24, .int z25, .int z26, .long z27, .ref mF, .ref mD, .ref mS, .ref mP])), (mJ, .inl (cy 0, 9, .inl f28)), (mF, .inl (cy 0, 512, .inl f113)), (mD, .inl (cy 1, 512, .inl f114)), (mS, .inl (cy 0, 4096, .inl f31)), (mP, .inl (cy 0, 4096, .inl f32))] := D_same hD rfl
                        specialize h r112 f113 f114 hw9
                        refine lv_icmp_eq (tgt := 614) hx hb dL_law_397 (by decide) (fun c115 => ?_) (fun c115 => ?_)
                        · obtain ⟨h, -⟩ := h
                          specialize h c115
                          obtain ⟨x116, ex116⟩ : ∃ y : Int32, y = y1 + 6 := ⟨_, rfl⟩
                          specialize h x116 ex116
                          refine lv_iinc (v := x116) (lv' := [(3, .int x116), (0, .ref b), (1, .ref a0), (2, .ref m0)]) hx hb dL_law_614 hl (k := 3) rfl (by rw [ex116]; rfl) (by decide) rfl (fun ls hl => ?_)
                          refine lv_goto (tgt := 18) hx hb dL_law_617 (by decide) ?_
                          exact ih18 x116 z2 z3 z4 z103 z104 z105 z106 f107 f108 f109 f110 z13 z14 z15 z16 f17 f18 f19 z20 f21 z22 z23 z24 z25 z26 z27 f28 f113 f114 f31 f32 h.1 (Nat.lt_of_lt_of_le h.2 (Nat.le_of_lt_succ hk18)) _ _ hP hD hS _ (lv_sub hl [1, 2, 3, 0] rfl)
                        · obtain ⟨-, h⟩ := h
                          specialize h c115
                          refine lv_iconst (v := 0) hx hb dL_law_400 (by decide) ?_
                          exact h.elim
                      · obtain ⟨-, h⟩ := h
                        by_cases c117 : ((xs (y1 : Int32).toNatClampNeg) &&& (15 : Int32)) = 8
                        · obtain ⟨h, -⟩ := h
                          specialize h c117
                          refine lv_tableIn (off := 369) (tgt := 402) hx hb dL_law_33 (by rw [c117]; decide) (by rw [c117]; decide) (by rw [c117]; rfl) (by decide) ?_
                          refine lv_aload_n hx hb dL_law_402 rfl (lv_at hl 1 rfl) ?_
                          refine lv_aload_n hx hb dL_law_403 rfl (lv_at hl 0 rfl) ?_
                          refine lv_iload_n hx hb dL_law_404 rfl (lv_at hl 3 rfl) ?_
                          refine lv_iconst (v := 1) hx hb dL_law_405 (by decide) ?_
                          refine lv_iadd hx hb dL_law_406 ?_
                          obtain ⟨hi, h⟩ := h
                          refine va_sld hx hb hX hbl hbA hS hi dL_law_407 ?_
                          refine lv_aload_n hx hb dL_law_408 rfl (lv_at hl 0 rfl) ?_
                          refine lv_iload_n hx hb dL_law_409 rfl (lv_at hl 3 rfl) ?_
                          refine lv_iconst (v := 2) hx hb dL_law_410 (by decide) ?_
                          refine lv_iadd hx hb dL_law_411 ?_
                          obtain ⟨hi, h⟩ := h
                          refine va_sld hx hb hX hbl hbA hS hi dL_law_412 ?_
                          refine lv_aload_n hx hb dL_law_413 rfl (lv_at hl 0 rfl) ?_
                          refine lv_iload_n hx hb dL_law_414 rfl (lv_at hl 3 rfl) ?_
                          refine lv_iconst (v := 3) hx hb dL_law_415 (by decide) ?_
                          refine lv_iadd hx hb dL_law_416 ?_
                          obtain ⟨hi, h⟩ := h
                          refine va_sld hx hb hX hbl hbA hS hi dL_law_417 ?_
                          refine lv_aload_n hx hb dL_law_418 rfl (lv_at hl 0 rfl) ?_
                          refine lv_iload_n hx hb dL_law_419 rfl (lv_at hl 3 rfl) ?_
                          refine lv_iconst (v := 4) hx hb dL_law_420 (by decide) ?_
                          refine lv_iadd hx hb dL_law_421 ?_
                          obtain ⟨hi, h⟩ := h
                          refine va_sld hx hb hX hbl hbA hS hi dL_law_422 ?_
                          obtain ⟨Q118, hw9, h⟩ := h
                          have hPc : va_P G vwCl [(a0, .inr (7, [.ref aN, .ref aM, .ref aP, .ref aW, .ref aT, .int z2, .int z3, .int z4])), (aM, .inr (2, [.ref aF, .ref aL, .ref aX, .int z5, .int z6, .int z7, .ref aN, .ref aC, .int z8])), (aF, .inl (cy 0, 512, .inl f9)), (aL, .inl (cy 0, 512, .inl f10)), (aX, .inl (cy 0, 81, .inl f11)), (aC, .inl (cy 0, 81, .inl f12)), (aN, .inr (3, [.ref aR, .int z20])), (aR, .inl (cy 0, 9, .inl f21))] H := hP.sub [0, 1, 2, 3, 4, 5, 10, 11] rfl
                          have hDc : va_D A [(a0, .inr (7, [.ref aN, .ref aM, .ref aP, .ref aW, .ref aT, .int z2, .int z3, .int z4])), (aM, .inr (2, [.ref aF, .ref aL, .ref aX, .int z5, .int z6, .int z7, .ref aN, .ref aC, .int z8])), (aF, .inl (cy 0, 512, .inl f9)), (aL, .inl (cy 0, 512, .inl f10)), (aX, .inl (cy 0, 81, .inl f11)), (aC, .inl (cy 0, 81, .inl f12)), (aN, .inr (3, [.ref aR, .int z20])), (aR, .inl (cy 0, 9, .inl f21))] := hD.sub [0, 1, 2, 3, 4, 5, 10, 11] (by decide) rfl
                          have hFc := va_free (wc := [(a0, .inr (7, [.ref aN, .ref aM, .ref aP, .ref aW, .ref aT, .int z2, .int z3, .int z4])), (aM, .inr (2, [.ref aF, .ref aL, .ref aX, .int z5, .int z6, .int z7, .ref aN, .ref aC, .int z8])), (aF, .inl (cy 0, 512, .inl f9)), (aL, .inl (cy 0, 512, .inl f10)), (aX, .inl (cy 0, 81, .inl f11)), (aC, .inl (cy 0, 81, .inl f12)), (aN, .inr (3, [.ref aR, .int z20])), (aR, .inl (cy 0, 9, .inl f21))]) hD hS hA [0, 1, 2, 3, 4, 5, 10, 11] rfl
                          refine va_calli (va_runV (As := [.int (xs ((y1 + (1 : Int32)) : Int32).toNatClampNeg), .int (xs ((y1 + (2 : Int32)) : Int32).toNatClampNeg), .int (xs ((y1 + (3 : Int32)) : Int32).toNatClampNeg), .int (xs ((y1 + (4 : Int32)) : Int32).toNatClampNeg)]) (rest := []) ⟨hx, hb, hml, hown, hts⟩ (ct_X8_reach l G cy a0 aM aF aL aX aC aN aR aP aW aT H.size z2 z3 z4 z5 z6 z7 z8 f9 f10 f11 f12 z20 f21 (xs ((y1 + (1 : Int32)) : Int32).toNatClampNeg) (xs ((y1 + (2 : Int32)) : Int32).toNatClampNeg) (xs ((y1 + (3 : Int32)) : Int32).toNatClampNeg) (xs ((y1 + (4 : Int32)) : Int32).toNatClampNeg) Q118 hw9) (cwV 4 hts gL_law_X8_reachE rfl rfl rfl (by decide +kernel) ⟨Nat.le_of_ble_eq_true rfl, Nat.le_of_ble_eq_true rfl⟩) (wP_V hK hP (ci := 7) (q0 := 0) rfl rfl hPc hDc) rfl rfl hl.1 rfl (lv_room (Nat.le_of_ble_eq_true rfl)) dL_law_423 ⟨Nat.le_of_ble_eq_true rfl, Nat.le_of_ble_eq_true rfl⟩) hS (fun q9 _ h9 => hFc q9 h9) hFc (fun r119 u9 t9 H locs ht9 hvm9 hw9 hB9 hz9 hk9 hS => ?_)
                          obtain ⟨z120, z121, z122, z123, f124, f125, f126, f127⟩ := u9
                          have hP : va_P G vwCl [(a0, .inr (7, [.ref aN, .ref aM, .ref aP, .ref aW, .ref aT, .int z2, .int z3, .int z4])), (aM, .inr (2, [.ref aF, .ref aL, .ref aX, .int z120, .int z121, .int z122, .ref aN, .ref aC, .int z123])), (aF, .inl (cy 0, 512, .inl f124)), (aL, .inl (cy 0, 512, .inl f125)), (aX, .inl (cy 0, 81, .inl f126)), (aC, .inl (cy 0, 81, .inl f127)), (aP, .inr (4, [.ref bF, .ref bL, .ref bX, .int z13, .int z14, .int z15, .ref aN, .int z16])), (bF, .inl (cy 0, 4096, .inl f17)), (bL, .inl (cy 0, 4096, .inl f18)), (bX, .inl (cy 0, 24, .inl f19)), (aN, .inr (3, [.ref aR, .int z20])), (aR, .inl (cy 0, 9, .inl f21)), (aW, .inl (cy 2, 3, .inr (.inr (.inr (.inr (wgh aS aJ aB)))))), (aS, .inr (5, [])), (aJ, .inr (1, [])), (aB, .inr (0, [])), (aT, .inr (6, [.long z22])), (m0, .inr (8, [.int z23, .ref mJ, .int z24, .int z25, .int z26, .long z27, .ref mF, .ref mD, .ref mS, .ref mP])), (mJ, .inl (cy 0, 9, .inl f28)), (mF, .inl (cy 0, 512, .inl f29)), (mD, .inl (cy 1, 512, .inl f30)), (mS, .inl (cy 0, 4096, .inl f31)), (mP, .inl (cy 0, 4096, .inl f32))] H := P_back [0, 1, 2, 3, 4, 5, 10, 11] [6, 7, 8, 9, 12, 13, 14, 15, 16, 17, 18, 19, 20, 21, 22] 23 hP hD rfl rfl rfl rfl (by decide) (by decide) hk9 (by rw [← ht9]; exact hB9)
                          have hD : va_D A [(a0, .inr (7, [.ref aN, .ref aM, .ref aP, .ref aW, .ref aT, .int z2, .int z3, .int z4])), (aM, .inr (2, [.ref aF, .ref aL, .ref aX, .int z120, .int z121, .int z122, .ref aN, .ref aC, .int z123])), (aF, .inl (cy 0, 512, .inl f124)), (aL, .inl (cy 0, 512, .inl f125)), (aX, .inl (cy 0, 81, .inl f126)), (aC, .inl (cy 0, 81, .inl f127)), (aP, .inr (4, [.ref bF, .ref bL, .ref bX, .int z13, .int z14, .int z15, .ref aN, .int z16])), (bF, .inl (cy 0, 4096, .inl f17)), (bL, .inl (cy 0, 4096, .inl f18)), (bX, .inl (cy 0, 24, .inl f19)), (aN, .inr (3, [.ref aR, .int z20])), (aR, .inl (cy 0, 9, .inl f21)), (aW, .inl (cy 2, 3, .inr (.inr (.inr (.inr (wgh aS aJ aB)))))), (aS, .inr (5, [])), (aJ, .inr (1, [])), (aB, .inr (0, [])), (aT, .inr (6, [.long z22])), (m0, .inr (8, [.int z23, .ref mJ, .int z24, .int z25, .int z26, .long z27, .ref mF, .ref mD, .ref mS, .ref mP])), (mJ, .inl (cy 0, 9, .inl f28)), (mF, .inl (cy 0, 512, .inl f29)), (mD, .inl (cy 1, 512, .inl f30)), (mS, .inl (cy 0, 4096, .inl f31)), (mP, .inl (cy 0, 4096, .inl f32))] := D_same hD rfl
                          specialize h r119 z120 z121 z122 z123 f124 f125 f126 f127 hw9
                          refine lv_aload_n hx hb dL_law_426 rfl (lv_at hl 2 rfl) ?_
                          refine lv_aload_n hx hb dL_law_427 rfl (lv_at hl 0 rfl) ?_
                          refine lv_iload_n hx hb dL_law_428 rfl (lv_at hl 3 rfl) ?_
                          refine lv_iconst (v := 1) hx hb dL_law_429 (by decide) ?_
                          refine lv_iadd hx hb dL_law_430 ?_
                          obtain ⟨hi, h⟩ := h
                          refine va_sld hx hb hX hbl hbA hS hi dL_law_431 ?_
                          refine lv_aload_n hx hb dL_law_432 rfl (lv_at hl 0 rfl) ?_
                          refine lv_iload_n hx hb dL_law_433 rfl (lv_at hl 3 rfl) ?_
                          refine lv_iconst (v := 2) hx hb dL_law_434 (by decide) ?_
                          refine lv_iadd hx hb dL_law_435 ?_
                          obtain ⟨hi, h⟩ := h
                          refine va_sld hx hb hX hbl hbA hS hi dL_law_436 ?_
                          refine lv_aload_n hx hb dL_law_437 rfl (lv_at hl 0 rfl) ?_
                          refine lv_iload_n hx hb dL_law_438 rfl (lv_at hl 3 rfl) ?_
                          refine lv_iconst (v := 3) hx hb dL_law_439 (by decide) ?_
                          refine lv_iadd hx hb dL_law_440 ?_
                          obtain ⟨hi, h⟩ := h
                          refine va_sld hx hb hX hbl hbA hS hi dL_law_441 ?_
                          refine lv_aload_n hx hb dL_law_442 rfl (lv_at hl 0 rfl) ?_
                          refine lv_iload_n hx hb dL_law_443 rfl (lv_at hl 3 rfl) ?_
                          refine lv_iconst (v := 4) hx hb dL_law_444 (by decide) ?_
                          refine lv_iadd hx hb dL_law_445 ?_
                          obtain ⟨hi, h⟩ := h
                          refine va_sld hx hb hX hbl hbA hS hi dL_law_446 ?_
                          obtain ⟨Q128, hw9, h⟩ := h
                          have hPc : va_P G vwCl [(m0, .inr (8, [.int z23, .ref mJ, .int z24, .int z25, .int z26, .long z27, .ref mF, .ref mD, .ref mS, .ref mP])), (mJ, .inl (cy 0, 9, .inl f28)), (mF, .inl (cy 0, 512, .inl f29)), (mD, .inl (cy 1, 512, .inl f30))] H := hP.sub [17, 18, 19, 20] rfl
                          have hDc : va_D A [(m0, .inr (8, [.int z23, .ref mJ, .int z24, .int z25, .int z26, .long z27, .ref mF, .ref mD, .ref mS, .ref mP])), (mJ, .inl (cy 0, 9, .inl f28)), (mF, .inl (cy 0, 512, .inl f29)), (mD, .inl (cy 1, 512, .inl f30))] := hD.sub [17, 18, 19, 20] (by decide) rfl
                          have hFc := va_free (wc := [(m0, .inr (8, [.int z23, .ref mJ, .int z24, .int z25, .int z26, .long z27, .ref mF, .ref mD, .ref mS, .ref mP])), (mJ, .inl (cy 0, 9, .inl f28)), (mF, .inl (cy 0, 512, .inl f29)), (mD, .inl (cy 1, 512, .inl f30))]) hD hS hA [17, 18, 19, 20] rfl
                          refine va_calli (va_runV (As := [.int (xs ((y1 + (1 : Int32)) : Int32).toNatClampNeg), .int (xs ((y1 + (2 : Int32)) : Int32).toNatClampNeg), .int (xs ((y1 + (3 : Int32)) : Int32).toNatClampNeg), .int (xs ((y1 + (4 : Int32)) : Int32).toNatClampNeg)]) (rest := [.int r119]) ⟨hx, hb, hml, hown, hts⟩ (ct_X9_reach l G cy m0 mJ mF mD mS mP H.size z23 z24 z25 z26 z27 f28 f29 f30 (xs ((y1 + (1 : Int32)) : Int32).toNatClampNeg) (xs ((y1 + (2 : Int32)) : Int32).toNatClampNeg) (xs ((y1 + (3 : Int32)) : Int32).toNatClampNeg) (xs ((y1 + (4 : Int32)) : Int32).toNatClampNeg) Q128 hw9) (cwV 4 hts gL_law_X9_reachE rfl rfl rfl (by decide +kernel) ⟨Nat.le_of_ble_eq_true rfl, Nat.le_of_ble_eq_true rfl⟩) (wP_V hK hP (ci := 8) (q0 := 17) rfl rfl hPc hDc) rfl rfl hl.1 rfl (lv_room (Nat.le_of_ble_eq_true rfl)) dL_law_447 ⟨Nat.le_of_ble_eq_true rfl, Nat.le_of_ble_eq_true rfl⟩) hS (fun q9 _ h9 => hFc q9 h9) hFc (fun r129 u9 t9 H locs ht9 hvm9 hw9 hB9 hz9 hk9 hS => ?_)
                          obtain ⟨f130, f131⟩ := u9
                          have hP : va_P G vwCl [(a0, .inr (7, [.ref aN, .ref aM, .ref aP, .ref aW, .ref aT, .int z2, .int z3, .int z4])), (aM, .inr (2, [.ref aF, .ref aL, .ref aX, .int z120, .int z121, .int z122, .ref aN, .ref aC, .int z123])), (aF, .inl (cy 0, 512, .inl f124)), (aL, .inl (cy 0, 512, .inl f125)), (aX, .inl (cy 0, 81, .inl f126)), (aC, .inl (cy 0, 81, .inl f127)), (aP, .inr (4, [.ref bF, .ref bL, .ref bX, .int z13, .int z14, .int z15, .ref aN, .int z16])), (bF, .inl (cy 0, 4096, .inl f17)), (bL, .inl (cy 0, 4096, .inl f18)), (bX, .inl (cy 0, 24, .inl f19)), (aN, .inr (3, [.ref aR, .int z20])), (aR, .inl (cy 0, 9, .inl f21)), (aW, .inl (cy 2, 3, .inr (.inr (.inr (.inr (wgh aS aJ aB)))))), (aS, .inr (5, [])), (aJ, .inr (1, [])), (aB, .inr (0, [])), (aT, .inr (6, [.long z22])), (m0, .inr (8, [.int z23, .ref mJ, .int z24, .int z25, .int z26, .long z27, .ref mF, .ref mD, .ref mS, .ref mP])), (mJ, .inl (cy 0, 9, .inl f28)), (mF, .inl (cy 0, 512, .inl f130)), (mD, .inl (cy 1, 512, .inl f131)), (mS, .inl (cy 0, 4096, .inl f31)), (mP, .inl (cy 0, 4096, .inl f32))] H := P_back [17, 18, 19, 20] [0, 1, 2, 3, 4, 5, 6, 7, 8, 9, 10, 11, 12, 13, 14, 15, 16, 21, 22] 23 hP hD rfl rfl rfl rfl (by decide) (by decide) hk9 (by rw [← ht9]; exact hB9)
                          have hD : va_D A [(a0, .inr (7, [.ref aN, .ref aM, .ref aP, .ref aW, .ref aT, .int z2, .int z3, .int z4])), (aM, .inr (2, [.ref aF, .ref aL, .ref aX, .int z120, .int z121, .int z122, .ref aN, .ref aC, .int z123])), (aF, .inl (cy 0, 512, .inl f124)), (aL, .inl (cy 0, 512, .inl f125)), (aX, .inl (cy 0, 81, .inl f126)), (aC, .inl (cy 0, 81, .inl f127)), (aP, .inr (4, [.ref bF, .ref bL, .ref bX, .int z13, .int z14, .int z15, .ref aN, .int z16])), (bF, .inl (cy 0, 4096, .inl f17)), (bL, .inl (cy 0, 4096, .inl f18)), (bX, .inl (cy 0, 24, .inl f19)), (aN, .inr (3, [.ref aR, .int z20])), (aR, .inl (cy 0, 9, .inl f21)), (aW, .inl (cy 2, 3, .inr (.inr (.inr (.inr (wgh aS aJ aB)))))), (aS, .inr (5, [])), (aJ, .inr (1, [])), (aB, .inr (0, [])), (aT, .inr (6, [.long z22])), (m0, .inr (8, [.int z23, .ref mJ, .int z24, .int z25, .int z26, .long z27, .ref mF, .ref mD, .ref mS, .ref mP])), (mJ, .inl (cy 0, 9, .inl f28)), (mF, .inl (cy 0, 512, .inl f130)), (mD, .inl (cy 1, 512, .inl f131)), (mS, .inl (cy 0, 4096, .inl f31)), (mP, .inl (cy 0, 4096, .inl f32))] := D_same hD rfl
                          specialize h r129 f130 f131 hw9
                          refine lv_icmp_eq (tgt := 614) hx hb dL_law_450 (by decide) (fun c132 => ?_) (fun c132 => ?_)
                          · obtain ⟨h, -⟩ := h
                            specialize h c132
                            obtain ⟨x133, ex133⟩ : ∃ y : Int32, y = y1 + 6 := ⟨_, rfl⟩
                            specialize h x133 ex133
                            refine lv_iinc (v := x133) (lv' := [(3, .int x133), (0, .ref b), (1, .ref a0), (2, .ref m0)]) hx hb dL_law_614 hl (k := 3) rfl (by rw [ex133]; rfl) (by decide) rfl (fun ls hl => ?_)
                            refine lv_goto (tgt := 18) hx hb dL_law_617 (by decide) ?_
                            exact ih18 x133 z2 z3 z4 z120 z121 z122 z123 f124 f125 f126 f127 z13 z14 z15 z16 f17 f18 f19 z20 f21 z22 z23 z24 z25 z26 z27 f28 f130 f131 f31 f32 h.1 (Nat.lt_of_lt_of_le h.2 (Nat.le_of_lt_succ hk18)) _ _ hP hD hS _ (lv_sub hl [1, 2, 3, 0] rfl)
                          · obtain ⟨-, h⟩ := h
                            specialize h c132
                            refine lv_iconst (v := 0) hx hb dL_law_453 (by decide) ?_
                            exact h.elim
                        · obtain ⟨-, h⟩ := h
                          by_cases c134 : ((xs (y1 : Int32).toNatClampNeg) &&& (15 : Int32)) = 9
                          · obtain ⟨h, -⟩ := h
                            specialize h c134
                            refine lv_tableIn (off := 422) (tgt := 455) hx hb dL_law_33 (by rw [c134]; decide) (by rw [c134]; decide) (by rw [c134]; rfl) (by decide) ?_
                            refine lv_aload_n hx hb dL_law_455 rfl (lv_at hl 1 rfl) ?_
                            refine lv_aload_n hx hb dL_law_456 rfl (lv_at hl 0 rfl) ?_
                            refine lv_iload_n hx hb dL_law_457 rfl (lv_at hl 3 rfl) ?_
                            refine lv_iconst (v := 1) hx hb dL_law_458 (by decide) ?_
                            refine lv_iadd hx hb dL_law_459 ?_
                            obtain ⟨hi, h⟩ := h
                            refine va_sld hx hb hX hbl hbA hS hi dL_law_460 ?_
                            refine lv_aload_n hx hb dL_law_461 rfl (lv_at hl 0 rfl) ?_
                            refine lv_iload_n hx hb dL_law_462 rfl (lv_at hl 3 rfl) ?_
                            refine lv_iconst (v := 2) hx hb dL_law_463 (by decide) ?_
                            refine lv_iadd hx hb dL_law_464 ?_
                            obtain ⟨hi, h⟩ := h
                            refine va_sld hx hb hX hbl hbA hS hi dL_law_465 ?_
                            refine lv_aload_n hx hb dL_law_466 rfl (lv_at hl 0 rfl) ?_
                            refine lv_iload_n hx hb dL_law_467 rfl (lv_at hl 3 rfl) ?_
                            refine lv_iconst (v := 3) hx hb dL_law_468 (by decide) ?_
                            refine lv_iadd hx hb dL_law_469 ?_
                            obtain ⟨hi, h⟩ := h
                            refine va_sld hx hb hX hbl hbA hS hi dL_law_470 ?_
                            obtain ⟨Q135, hw9, h⟩ := h
                            have hPc : va_P G vwCl [(a0, .inr (7, [.ref aN, .ref aM, .ref aP, .ref aW, .ref aT, .int z2, .int z3, .int z4])), (aM, .inr (2, [.ref aF, .ref aL, .ref aX, .int z5, .int z6, .int z7, .ref aN, .ref aC, .int z8])), (aF, .inl (cy 0, 512, .inl f9)), (aL, .inl (cy 0, 512, .inl f10)), (aX, .inl (cy 0, 81, .inl f11)), (aC, .inl (cy 0, 81, .inl f12)), (aN, .inr (3, [.ref aR, .int z20])), (aR, .inl (cy 0, 9, .inl f21))] H := hP.sub [0, 1, 2, 3, 4, 5, 10, 11] rfl
                            have hDc : va_D A [(a0, .inr (7, [.ref aN, .ref aM, .ref aP, .ref aW, .ref aT, .int z2, .int z3, .int z4])), (aM, .inr (2, [.ref aF, .ref aL, .ref aX, .int z5, .int z6, .int z7, .ref aN, .ref aC, .int z8])), (aF, .inl (cy 0, 512, .inl f9)), (aL, .inl (cy 0, 512, .inl f10)), (aX, .inl (cy 0, 81, .inl f11)), (aC, .inl (cy 0, 81, .inl f12)), (aN, .inr (3, [.ref aR, .int z20])), (aR, .inl (cy 0, 9, .inl f21))] := hD.sub [0, 1, 2, 3, 4, 5, 10, 11] (by decide) rfl
                            have hFc := va_free (wc := [(a0, .inr (7, [.ref aN, .ref aM, .ref aP, .ref aW, .ref aT, .int z2, .int z3, .int z4])), (aM, .inr (2, [.ref aF, .ref aL, .ref aX, .int z5, .int z6, .int z7, .ref aN, .ref aC, .int z8])), (aF, .inl (cy 0, 512, .inl f9)), (aL, .inl (cy 0, 512, .inl f10)), (aX, .inl (cy 0, 81, .inl f11)), (aC, .inl (cy 0, 81, .inl f12)), (aN, .inr (3, [.ref aR, .int z20])), (aR, .inl (cy 0, 9, .inl f21))]) hD hS hA [0, 1, 2, 3, 4, 5, 10, 11] rfl
                            refine va_calli (va_runV (As := [.int (xs ((y1 + (1 : Int32)) : Int32).toNatClampNeg), .int (xs ((y1 + (2 : Int32)) : Int32).toNatClampNeg), .int (xs ((y1 + (3 : Int32)) : Int32).toNatClampNeg)]) (rest := []) ⟨hx, hb, hml, hown, hts⟩ (ct_X8_parts l G cy a0 aM aF aL aX aC aN aR aP aW aT H.size z2 z3 z4 z5 z6 z7 z8 f9 f10 f11 f12 z20 f21 (xs ((y1 + (1 : Int32)) : Int32).toNatClampNeg) (xs ((y1 + (2 : Int32)) : Int32).toNatClampNeg) (xs ((y1 + (3 : Int32)) : Int32).toNatClampNeg) Q135 hw9) (cwV 3 hts gL_law_X8_partsE rfl rfl rfl (by decide +kernel) ⟨Nat.le_of_ble_eq_true rfl, Nat.le_of_ble_eq_true rfl⟩) (wP_V hK hP (ci := 7) (q0 := 0) rfl rfl hPc hDc) rfl rfl hl.1 rfl (lv_room (Nat.le_of_ble_eq_true rfl)) dL_law_471 ⟨Nat.le_of_ble_eq_true rfl, Nat.le_of_ble_eq_true rfl⟩) hS (fun q9 _ h9 => hFc q9 h9) hFc (fun r136 u9 t9 H locs ht9 hvm9 hw9 hB9 hz9 hk9 hS => ?_)
                            obtain ⟨z137, z138, z139, z140, f141, f142, f143, f144⟩ := u9
                            have hP : va_P G vwCl [(a0, .inr (7, [.ref aN, .ref aM, .ref aP, .ref aW, .ref aT, .int z2, .int z3, .int z4])), (aM, .inr (2, [.ref aF, .ref aL, .ref aX, .int z137, .int z138, .int z139, .ref aN, .ref aC, .int z140])), (aF, .inl (cy 0, 512, .inl f141)), (aL, .inl (cy 0, 512, .inl f142)), (aX, .inl (cy 0, 81, .inl f143)), (aC, .inl (cy 0, 81, .inl f144)), (aP, .inr (4, [.ref bF, .ref bL, .ref bX, .int z13, .int z14, .int z15, .ref aN, .int z16])), (bF, .inl (cy 0, 4096, .inl f17)), (bL, .inl (cy 0, 4096, .inl f18)), (bX, .inl (cy 0, 24, .inl f19)), (aN, .inr (3, [.ref aR, .int z20])), (aR, .inl (cy 0, 9, .inl f21)), (aW, .inl (cy 2, 3, .inr (.inr (.inr (.inr (wgh aS aJ aB)))))), (aS, .inr (5, [])), (aJ, .inr (1, [])), (aB, .inr (0, [])), (aT, .inr (6, [.long z22])), (m0, .inr (8, [.int z23, .ref mJ, .int z24, .int z25, .int z26, .long z27, .ref mF, .ref mD, .ref mS, .ref mP])), (mJ, .inl (cy 0, 9, .inl f28)), (mF, .inl (cy 0, 512, .inl f29)), (mD, .inl (cy 1, 512, .inl f30)), (mS, .inl (cy 0, 4096, .inl f31)), (mP, .inl (cy 0, 4096, .inl f32))] H := P_back [0, 1, 2, 3, 4, 5, 10, 11] [6, 7, 8, 9, 12, 13, 14, 15, 16, 17, 18, 19, 20, 21, 22] 23 hP hD rfl rfl rfl rfl (by decide) (by decide) hk9 (by rw [← ht9]; exact hB9)
                            have hD : va_D A [(a0, .inr (7, [.ref aN, .ref aM, .ref aP, .ref aW, .ref aT, .int z2, .int z3, .int z4])), (aM, .inr (2, [.ref aF, .ref aL, .ref aX, .int z137, .int z138, .int z139, .ref aN, .ref aC, .int z140])), (aF, .inl (cy 0, 512, .inl f141)), (aL, .inl (cy 0, 512, .inl f142)), (aX, .inl (cy 0, 81, .inl f143)), (aC, .inl (cy 0, 81, .inl f144)), (aP, .inr (4, [.ref bF, .ref bL, .ref bX, .int z13, .int z14, .int z15, .ref aN, .int z16])), (bF, .inl (cy 0, 4096, .inl f17)), (bL, .inl (cy 0, 4096, .inl f18)), (bX, .inl (cy 0, 24, .inl f19)), (aN, .inr (3, [.ref aR, .int z20])), (aR, .inl (cy 0, 9, .inl f21)), (aW, .inl (cy 2, 3, .inr (.inr (.inr (.inr (wgh aS aJ aB)))))), (aS, .inr (5, [])), (aJ, .inr (1, [])), (aB, .inr (0, [])), (aT, .inr (6, [.long z22])), (m0, .inr (8, [.int z23, .ref mJ, .int z24, .int z25, .int z26, .long z27, .ref mF, .ref mD, .ref mS, .ref mP])), (mJ, .inl (cy 0, 9, .inl f28)), (mF, .inl (cy 0, 512, .inl f29)), (mD, .inl (cy 1, 512, .inl f30)), (mS, .inl (cy 0, 4096, .inl f31)), (mP, .inl (cy 0, 4096, .inl f32))] := D_same hD rfl
                            specialize h r136 z137 z138 z139 z140 f141 f142 f143 f144 hw9
                            refine lv_aload_n hx hb dL_law_474 rfl (lv_at hl 2 rfl) ?_
                            refine lv_aload_n hx hb dL_law_475 rfl (lv_at hl 0 rfl) ?_
                            refine lv_iload_n hx hb dL_law_476 rfl (lv_at hl 3 rfl) ?_
                            refine lv_iconst (v := 1) hx hb dL_law_477 (by decide) ?_
                            refine lv_iadd hx hb dL_law_478 ?_
                            obtain ⟨hi, h⟩ := h
                            refine va_sld hx hb hX hbl hbA hS hi dL_law_479 ?_
                            refine lv_aload_n hx hb dL_law_480 rfl (lv_at hl 0 rfl) ?_
                            refine lv_iload_n hx hb dL_law_481 rfl (lv_at hl 3 rfl) ?_
                            refine lv_iconst (v := 2) hx hb dL_law_482 (by decide) ?_
                            refine lv_iadd hx hb dL_law_483 ?_
                            obtain ⟨hi, h⟩ := h
                            refine va_sld hx hb hX hbl hbA hS hi dL_law_484 ?_
                            refine lv_aload_n hx hb dL_law_485 rfl (lv_at hl 0 rfl) ?_
                            refine lv_iload_n hx hb dL_law_486 rfl (lv_at hl 3 rfl) ?_
                            refine lv_iconst (v := 3) hx hb dL_law_487 (by decide) ?_
                            refine lv_iadd hx hb dL_law_488 ?_
                            obtain ⟨hi, h⟩ := h
                            refine va_sld hx hb hX hbl hbA hS hi dL_law_489 ?_
                            obtain ⟨Q145, hw9, h⟩ := h
                            have hPc : va_P G vwCl [(m0, .inr (8, [.int z23, .ref mJ, .int z24, .int z25, .int z26, .long z27, .ref mF, .ref mD, .ref mS, .ref mP])), (mJ, .inl (cy 0, 9, .inl f28)), (mF, .inl (cy 0, 512, .inl f29)), (mD, .inl (cy 1, 512, .inl f30))] H := hP.sub [17, 18, 19, 20] rfl
                            have hDc : va_D A [(m0, .inr (8, [.int z23, .ref mJ, .int z24, .int z25, .int z26, .long z27, .ref mF, .ref mD, .ref mS, .ref mP])), (mJ, .inl (cy 0, 9, .inl f28)), (mF, .inl (cy 0, 512, .inl f29)), (mD, .inl (cy 1, 512, .inl f30))] := hD.sub [17, 18, 19, 20] (by decide) rfl
                            have hFc := va_free (wc := [(m0, .inr (8, [.int z23, .ref mJ, .int z24, .int z25, .int z26, .long z27, .ref mF, .ref mD, .ref mS, .ref mP])), (mJ, .inl (cy 0, 9, .inl f28)), (mF, .inl (cy 0, 512, .inl f29)), (mD, .inl (cy 1, 512, .inl f30))]) hD hS hA [17, 18, 19, 20] rfl
                            refine va_calli (va_runV (As := [.int (xs ((y1 + (1 : Int32)) : Int32).toNatClampNeg), .int (xs ((y1 + (2 : Int32)) : Int32).toNatClampNeg), .int (xs ((y1 + (3 : Int32)) : Int32).toNatClampNeg)]) (rest := [.int r136]) ⟨hx, hb, hml, hown, hts⟩ (ct_X9_parts l G cy m0 mJ mF mD mS mP H.size z23 z24 z25 z26 z27 f28 f29 f30 (xs ((y1 + (1 : Int32)) : Int32).toNatClampNeg) (xs ((y1 + (2 : Int32)) : Int32).toNatClampNeg) (xs ((y1 + (3 : Int32)) : Int32).toNatClampNeg) Q145 hw9) (cwV 3 hts gL_law_X9_partsE rfl rfl rfl (by decide +kernel) ⟨Nat.le_of_ble_eq_true rfl, Nat.le_of_ble_eq_true rfl⟩) (wP_V hK hP (ci := 8) (q0 := 17) rfl rfl hPc hDc) rfl rfl hl.1 rfl (lv_room (Nat.le_of_ble_eq_true rfl)) dL_law_490 ⟨Nat.le_of_ble_eq_true rfl, Nat.le_of_ble_eq_true rfl⟩) hS (fun q9 _ h9 => hFc q9 h9) hFc (fun r146 u9 t9 H locs ht9 hvm9 hw9 hB9 hz9 hk9 hS => ?_)
                            obtain ⟨f147, f148⟩ := u9
                            have hP : va_P G vwCl [(a0, .inr (7, [.ref aN, .ref aM, .ref aP, .ref aW, .ref aT, .int z2, .int z3, .int z4])), (aM, .inr (2, [.ref aF, .ref aL, .ref aX, .int z137, .int z138, .int z139, .ref aN, .ref aC, .int z140])), (aF, .inl (cy 0, 512, .inl f141)), (aL, .inl (cy 0, 512, .inl f142)), (aX, .inl (cy 0, 81, .inl f143)), (aC, .inl (cy 0, 81, .inl f144)), (aP, .inr (4, [.ref bF, .ref bL, .ref bX, .int z13, .int z14, .int z15, .ref aN, .int z16])), (bF, .inl (cy 0, 4096, .inl f17)), (bL, .inl (cy 0, 4096, .inl f18)), (bX, .inl (cy 0, 24, .inl f19)), (aN, .inr (3, [.ref aR, .int z20])), (aR, .inl (cy 0, 9, .inl f21)), (aW, .inl (cy 2, 3, .inr (.inr (.inr (.inr (wgh aS aJ aB)))))), (aS, .inr (5, [])), (aJ, .inr (1, [])), (aB, .inr (0, [])), (aT, .inr (6, [.long z22])), (m0, .inr (8, [.int z23, .ref mJ, .int z24, .int z25, .int z26, .long z27, .ref mF, .ref mD, .ref mS, .ref mP])), (mJ, .inl (cy 0, 9, .inl f28)), (mF, .inl (cy 0, 512, .inl f147)), (mD, .inl (cy 1, 512, .inl f148)), (mS, .inl (cy 0, 4096, .inl f31)), (mP, .inl (cy 0, 4096, .inl f32))] H := P_back [17, 18, 19, 20] [0, 1, 2, 3, 4, 5, 6, 7, 8, 9, 10, 11, 12, 13, 14, 15, 16, 21, 22] 23 hP hD rfl rfl rfl rfl (by decide) (by decide) hk9 (by rw [← ht9]; exact hB9)
                            have hD : va_D A [(a0, .inr (7, [.ref aN, .ref aM, .ref aP, .ref aW, .ref aT, .int z2, .int z3, .int z4])), (aM, .inr (2, [.ref aF, .ref aL, .ref aX, .int z137, .int z138, .int z139, .ref aN, .ref aC, .int z140])), (aF, .inl (cy 0, 512, .inl f141)), (aL, .inl (cy 0, 512, .inl f142)), (aX, .inl (cy 0, 81, .inl f143)), (aC, .inl (cy 0, 81, .inl f144)), (aP, .inr (4, [.ref bF, .ref bL, .ref bX, .int z13, .int z14, .int z15, .ref aN, .int z16])), (bF, .inl (cy 0, 4096, .inl f17)), (bL, .inl (cy 0, 4096, .inl f18)), (bX, .inl (cy 0, 24, .inl f19)), (aN, .inr (3, [.ref aR, .int z20])), (aR, .inl (cy 0, 9, .inl f21)), (aW, .inl (cy 2, 3, .inr (.inr (.inr (.inr (wgh aS aJ aB)))))), (aS, .inr (5, [])), (aJ, .inr (1, [])), (aB, .inr (0, [])), (aT, .inr (6, [.long z22])), (m0, .inr (8, [.int z23, .ref mJ, .int z24, .int z25, .int z26, .long z27, .ref mF, .ref mD, .ref mS, .ref mP])), (mJ, .inl (cy 0, 9, .inl f28)), (mF, .inl (cy 0, 512, .inl f147)), (mD, .inl (cy 1, 512, .inl f148)), (mS, .inl (cy 0, 4096, .inl f31)), (mP, .inl (cy 0, 4096, .inl f32))] := D_same hD rfl
                            specialize h r146 f147 f148 hw9
                            refine lv_icmp_eq (tgt := 614) hx hb dL_law_493 (by decide) (fun c149 => ?_) (fun c149 => ?_)
                            · obtain ⟨h, -⟩ := h
                              specialize h c149
                              obtain ⟨x150, ex150⟩ : ∃ y : Int32, y = y1 + 6 := ⟨_, rfl⟩
                              specialize h x150 ex150
                              refine lv_iinc (v := x150) (lv' := [(3, .int x150), (0, .ref b), (1, .ref a0), (2, .ref m0)]) hx hb dL_law_614 hl (k := 3) rfl (by rw [ex150]; rfl) (by decide) rfl (fun ls hl => ?_)
                              refine lv_goto (tgt := 18) hx hb dL_law_617 (by decide) ?_
                              exact ih18 x150 z2 z3 z4 z137 z138 z139 z140 f141 f142 f143 f144 z13 z14 z15 z16 f17 f18 f19 z20 f21 z22 z23 z24 z25 z26 z27 f28 f147 f148 f31 f32 h.1 (Nat.lt_of_lt_of_le h.2 (Nat.le_of_lt_succ hk18)) _ _ hP hD hS _ (lv_sub hl [1, 2, 3, 0] rfl)
                            · obtain ⟨-, h⟩ := h
                              specialize h c149
                              refine lv_iconst (v := 0) hx hb dL_law_496 (by decide) ?_
                              exact h.elim
                          · obtain ⟨-, h⟩ := h
                            by_cases c151 : ((xs (y1 : Int32).toNatClampNeg) &&& (15 : Int32)) = 10
                            · obtain ⟨h, -⟩ := h
                              specialize h c151
                              refine lv_tableIn (off := 465) (tgt := 498) hx hb dL_law_33 (by rw [c151]; decide) (by rw [c151]; decide) (by rw [c151]; rfl) (by decide) ?_
                              refine lv_aload_n hx hb dL_law_498 rfl (lv_at hl 1 rfl) ?_
                              refine lv_aload_n hx hb dL_law_499 rfl (lv_at hl 0 rfl) ?_
                              refine lv_iload_n hx hb dL_law_500 rfl (lv_at hl 3 rfl) ?_
                              refine lv_iconst (v := 1) hx hb dL_law_501 (by decide) ?_
                              refine lv_iadd hx hb dL_law_502 ?_
                              obtain ⟨hi, h⟩ := h
                              refine va_sld hx hb hX hbl hbA hS hi dL_law_503 ?_
                              obtain ⟨Q152, hw9, h⟩ := h
                              have hPc : va_P G vwCl [(a0, .inr (7, [.ref aN, .ref aM, .ref aP, .ref aW, .ref aT, .int z2, .int z3, .int z4])), (aP, .inr (4, [.ref bF, .ref bL, .ref bX, .int z13, .int z14, .int z15, .ref aN, .int z16])), (bF, .inl (cy 0, 4096, .inl f17)), (bL, .inl (cy 0, 4096, .inl f18)), (bX, .inl (cy 0, 24, .inl f19)), (aN, .inr (3, [.ref aR, .int z20])), (aR, .inl (cy 0, 9, .inl f21))] H := hP.sub [0, 6, 7, 8, 9, 10, 11] rfl
                              refine vp_callSi (va_Run.run (va_runV (As := [.int (xs ((y1 + (1 : Int32)) : Int32).toNatClampNeg)]) (rest := []) ⟨hx, hb, hml, hown, hts⟩ (ct_X8_proper l G cy a0 aP bF bL bX aN aR aM aW aT z2 z3 z4 z13 z14 z15 z16 f17 f18 f19 z20 f21 (xs ((y1 + (1 : Int32)) : Int32).toNatClampNeg) Q152 hw9) (cwV 1 hts gL_law_X8_properE rfl rfl rfl (by decide +kernel) ⟨Nat.le_of_ble_eq_true rfl, Nat.le_of_ble_eq_true rfl⟩) (rP_V hK hP (ci := 7) (q0 := 0) rfl rfl hPc) rfl rfl hl.1 rfl (lv_room (Nat.le_of_ble_eq_true rfl)) dL_law_504 ⟨Nat.le_of_ble_eq_true rfl, Nat.le_of_ble_eq_true rfl⟩)) (fun r153 er153 => ?_)
                              specialize h r153 er153
                              refine lv_aload_n hx hb dL_law_507 rfl (lv_at hl 2 rfl) ?_
                              refine lv_aload_n hx hb dL_law_508 rfl (lv_at hl 0 rfl) ?_
                              refine lv_iload_n hx hb dL_law_509 rfl (lv_at hl 3 rfl) ?_
                              refine lv_iconst (v := 1) hx hb dL_law_510 (by decide) ?_
                              refine lv_iadd hx hb dL_law_511 ?_
                              obtain ⟨hi, h⟩ := h
                              refine va_sld hx hb hX hbl hbA hS hi dL_law_512 ?_
                              obtain ⟨Q154, hw9, h⟩ := h
                              have hPc : va_P G vwCl [(m0, .inr (8, [.int z23, .ref mJ, .int z24, .int z25, .int z26, .long z27, .ref mF, .ref mD, .ref mS, .ref mP])), (mJ, .inl (cy 0, 9, .inl f28))] H := hP.sub [17, 18] rfl
                              refine vp_callSi (va_Run.run (va_runV (As := [.int (xs ((y1 + (1 : Int32)) : Int32).toNatClampNeg)]) (rest := [.int r153]) ⟨hx, hb, hml, hown, hts⟩ (ct_X9_proper l G cy m0 mJ mF mD mS mP z23 z24 z25 z26 z27 f28 (xs ((y1 + (1 : Int32)) : Int32).toNatClampNeg) Q154 hw9) (cwV 1 hts gL_law_X9_properE rfl rfl rfl (by decide +kernel) ⟨Nat.le_of_ble_eq_true rfl, Nat.le_of_ble_eq_true rfl⟩) (rP_V hK hP (ci := 8) (q0 := 17) rfl rfl hPc) rfl rfl hl.1 rfl (lv_room (Nat.le_of_ble_eq_true rfl)) dL_law_513 ⟨Nat.le_of_ble_eq_true rfl, Nat.le_of_ble_eq_true rfl⟩)) (fun r155 er155 => ?_)
                              specialize h r155 er155
                              refine lv_icmp_eq (tgt := 614) hx hb dL_law_516 (by decide) (fun c156 => ?_) (fun c156 => ?_)
                              · obtain ⟨h, -⟩ := h
                                specialize h c156
                                obtain ⟨x157, ex157⟩ : ∃ y : Int32, y = y1 + 6 := ⟨_, rfl⟩
                                specialize h x157 ex157
                                refine lv_iinc (v := x157) (lv' := [(3, .int x157), (0, .ref b), (1, .ref a0), (2, .ref m0)]) hx hb dL_law_614 hl (k := 3) rfl (by rw [ex157]; rfl) (by decide) rfl (fun ls hl => ?_)
                                refine lv_goto (tgt := 18) hx hb dL_law_617 (by decide) ?_
                                exact ih18 x157 z2 z3 z4 z5 z6 z7 z8 f9 f10 f11 f12 z13 z14 z15 z16 f17 f18 f19 z20 f21 z22 z23 z24 z25 z26 z27 f28 f29 f30 f31 f32 h.1 (Nat.lt_of_lt_of_le h.2 (Nat.le_of_lt_succ hk18)) _ _ hP hD hS _ (lv_sub hl [1, 2, 3, 0] rfl)
                              · obtain ⟨-, h⟩ := h
                                specialize h c156
                                refine lv_iconst (v := 0) hx hb dL_law_519 (by decide) ?_
                                exact h.elim
                            · obtain ⟨-, h⟩ := h
                              by_cases c158 : ((xs (y1 : Int32).toNatClampNeg) &&& (15 : Int32)) = 11
                              · obtain ⟨h, -⟩ := h
                                specialize h c158
                                refine lv_tableIn (off := 488) (tgt := 521) hx hb dL_law_33 (by rw [c158]; decide) (by rw [c158]; decide) (by rw [c158]; rfl) (by decide) ?_
                                refine lv_aload_n hx hb dL_law_521 rfl (lv_at hl 1 rfl) ?_
                                refine lv_aload_n hx hb dL_law_522 rfl (lv_at hl 0 rfl) ?_
                                refine lv_iload_n hx hb dL_law_523 rfl (lv_at hl 3 rfl) ?_
                                refine lv_iconst (v := 1) hx hb dL_law_524 (by decide) ?_
                                refine lv_iadd hx hb dL_law_525 ?_
                                obtain ⟨hi, h⟩ := h
                                refine va_sld hx hb hX hbl hbA hS hi dL_law_526 ?_
                                refine lv_aload_n hx hb dL_law_527 rfl (lv_at hl 0 rfl) ?_
                                refine lv_iload_n hx hb dL_law_528 rfl (lv_at hl 3 rfl) ?_
                                refine lv_iconst (v := 2) hx hb dL_law_529 (by decide) ?_
                                refine lv_iadd hx hb dL_law_530 ?_
                                obtain ⟨hi, h⟩ := h
                                refine va_sld hx hb hX hbl hbA hS hi dL_law_531 ?_
                                obtain ⟨Q159, hw9, h⟩ := h
                                have hPc : va_P G vwCl [(a0, .inr (7, [.ref aN, .ref aM, .ref aP, .ref aW, .ref aT, .int z2, .int z3, .int z4])), (aP, .inr (4, [.ref bF, .ref bL, .ref bX, .int z13, .int z14, .int z15, .ref aN, .int z16])), (bF, .inl (cy 0, 4096, .inl f17)), (bL, .inl (cy 0, 4096, .inl f18)), (bX, .inl (cy 0, 24, .inl f19)), (aN, .inr (3, [.ref aR, .int z20])), (aR, .inl (cy 0, 9, .inl f21))] H := hP.sub [0, 6, 7, 8, 9, 10, 11] rfl
                                have hDc : va_D A [(a0, .inr (7, [.ref aN, .ref aM, .ref aP, .ref aW, .ref aT, .int z2, .int z3, .int z4])), (aP, .inr (4, [.ref bF, .ref bL, .ref bX, .int z13, .int z14, .int z15, .ref aN, .int z16])), (bF, .inl (cy 0, 4096, .inl f17)), (bL, .inl (cy 0, 4096, .inl f18)), (bX, .inl (cy 0, 24, .inl f19)), (aN, .inr (3, [.ref aR, .int z20])), (aR, .inl (cy 0, 9, .inl f21))] := hD.sub [0, 6, 7, 8, 9, 10, 11] (by decide) rfl
                                have hFc := va_free (wc := [(a0, .inr (7, [.ref aN, .ref aM, .ref aP, .ref aW, .ref aT, .int z2, .int z3, .int z4])), (aP, .inr (4, [.ref bF, .ref bL, .ref bX, .int z13, .int z14, .int z15, .ref aN, .int z16])), (bF, .inl (cy 0, 4096, .inl f17)), (bL, .inl (cy 0, 4096, .inl f18)), (bX, .inl (cy 0, 24, .inl f19)), (aN, .inr (3, [.ref aR, .int z20])), (aR, .inl (cy 0, 9, .inl f21))]) hD hS hA [0, 6, 7, 8, 9, 10, 11] rfl
                                refine va_calli (va_runV (As := [.int (xs ((y1 + (1 : Int32)) : Int32).toNatClampNeg), .int (xs ((y1 + (2 : Int32)) : Int32).toNatClampNeg)]) (rest := []) ⟨hx, hb, hml, hown, hts⟩ (ct_X8_shades l G cy a0 aP bF bL bX aN aR aM aW aT H.size z2 z3 z4 z13 z14 z15 z16 f17 f18 f19 z20 f21 (xs ((y1 + (1 : Int32)) : Int32).toNatClampNeg) (xs ((y1 + (2 : Int32)) : Int32).toNatClampNeg) Q159 hw9) (cwV 2 hts gL_law_X8_shadesE rfl rfl rfl (by decide +kernel) ⟨Nat.le_of_ble_eq_true rfl, Nat.le_of_ble_eq_true rfl⟩) (wP_V hK hP (ci := 7) (q0 := 0) rfl rfl hPc hDc) rfl rfl hl.1 rfl (lv_room (Nat.le_of_ble_eq_true rfl)) dL_law_532 ⟨Nat.le_of_ble_eq_true rfl, Nat.le_of_ble_eq_true rfl⟩) hS (fun q9 _ h9 => hFc q9 h9) hFc (fun r160 u9 t9 H locs ht9 hvm9 hw9 hB9 hz9 hk9 hS => ?_)
                                obtain ⟨z161, z162, z163, z164, f165, f166, f167⟩ := u9
                                have hP : va_P G vwCl [(a0, .inr (7, [.ref aN, .ref aM, .ref aP, .ref aW, .ref aT, .int z2, .int z3, .int z4])), (aM, .inr (2, [.ref aF, .ref aL, .ref aX, .int z5, .int z6, .int z7, .ref aN, .ref aC, .int z8])), (aF, .inl (cy 0, 512, .inl f9)), (aL, .inl (cy 0, 512, .inl f10)), (aX, .inl (cy 0, 81, .inl f11)), (aC, .inl (cy 0, 81, .inl f12)), (aP, .inr (4, [.ref bF, .ref bL, .ref bX, .int z161, .int z162, .int z163, .ref aN, .int z164])), (bF, .inl (cy 0, 4096, .inl f165)), (bL, .inl (cy 0, 4096, .inl f166)), (bX, .inl (cy 0, 24, .inl f167)), (aN, .inr (3, [.ref aR, .int z20])), (aR, .inl (cy 0, 9, .inl f21)), (aW, .inl (cy 2, 3, .inr (.inr (.inr (.inr (wgh aS aJ aB)))))), (aS, .inr (5, [])), (aJ, .inr (1, [])), (aB, .inr (0, [])), (aT, .inr (6, [.long z22])), (m0, .inr (8, [.int z23, .ref mJ, .int z24, .int z25, .int z26, .long z27, .ref mF, .ref mD, .ref mS, .ref mP])), (mJ, .inl (cy 0, 9, .inl f28)), (mF, .inl (cy 0, 512, .inl f29)), (mD, .inl (cy 1, 512, .inl f30)), (mS, .inl (cy 0, 4096, .inl f31)), (mP, .inl (cy 0, 4096, .inl f32))] H := P_back [0, 6, 7, 8, 9, 10, 11] [1, 2, 3, 4, 5, 12, 13, 14, 15, 16, 17, 18, 19, 20, 21, 22] 23 hP hD rfl rfl rfl rfl (by decide) (by decide) hk9 (by rw [← ht9]; exact hB9)
                                have hD : va_D A [(a0, .inr (7, [.ref aN, .ref aM, .ref aP, .ref aW, .ref aT, .int z2, .int z3, .int z4])), (aM, .inr (2, [.ref aF, .ref aL, .ref aX, .int z5, .int z6, .int z7, .ref aN, .ref aC, .int z8])), (aF, .inl (cy 0, 512, .inl f9)), (aL, .inl (cy 0, 512, .inl f10)), (aX, .inl (cy 0, 81, .inl f11)), (aC, .inl (cy 0, 81, .inl f12)), (aP, .inr (4, [.ref bF, .ref bL, .ref bX, .int z161, .int z162, .int z163, .ref aN, .int z164])), (bF, .inl (cy 0, 4096, .inl f165)), (bL, .inl (cy 0, 4096, .inl f166)), (bX, .inl (cy 0, 24, .inl f167)), (aN, .inr (3, [.ref aR, .int z20])), (aR, .inl (cy 0, 9, .inl f21)), (aW, .inl (cy 2, 3, .inr (.inr (.inr (.inr (wgh aS aJ aB)))))), (aS, .inr (5, [])), (aJ, .inr (1, [])), (aB, .inr (0, [])), (aT, .inr (6, [.long z22])), (m0, .inr (8, [.int z23, .ref mJ, .int z24, .int z25, .int z26, .long z27, .ref mF, .ref mD, .ref mS, .ref mP])), (mJ, .inl (cy 0, 9, .inl f28)), (mF, .inl (cy 0, 512, .inl f29)), (mD, .inl (cy 1, 512, .inl f30)), (mS, .inl (cy 0, 4096, .inl f31)), (mP, .inl (cy 0, 4096, .inl f32))] := D_same hD rfl
                                specialize h r160 z161 z162 z163 z164 f165 f166 f167 hw9
                                refine lv_aload_n hx hb dL_law_535 rfl (lv_at hl 2 rfl) ?_
                                refine lv_aload_n hx hb dL_law_536 rfl (lv_at hl 0 rfl) ?_
                                refine lv_iload_n hx hb dL_law_537 rfl (lv_at hl 3 rfl) ?_
                                refine lv_iconst (v := 1) hx hb dL_law_538 (by decide) ?_
                                refine lv_iadd hx hb dL_law_539 ?_
                                obtain ⟨hi, h⟩ := h
                                refine va_sld hx hb hX hbl hbA hS hi dL_law_540 ?_
                                refine lv_aload_n hx hb dL_law_541 rfl (lv_at hl 0 rfl) ?_
                                refine lv_iload_n hx hb dL_law_542 rfl (lv_at hl 3 rfl) ?_
                                refine lv_iconst (v := 2) hx hb dL_law_543 (by decide) ?_
                                refine lv_iadd hx hb dL_law_544 ?_
                                obtain ⟨hi, h⟩ := h
                                refine va_sld hx hb hX hbl hbA hS hi dL_law_545 ?_
                                obtain ⟨Q168, hw9, h⟩ := h
                                have hPc : va_P G vwCl [(m0, .inr (8, [.int z23, .ref mJ, .int z24, .int z25, .int z26, .long z27, .ref mF, .ref mD, .ref mS, .ref mP])), (mJ, .inl (cy 0, 9, .inl f28)), (mS, .inl (cy 0, 4096, .inl f31)), (mP, .inl (cy 0, 4096, .inl f32))] H := hP.sub [17, 18, 21, 22] rfl
                                have hDc : va_D A [(m0, .inr (8, [.int z23, .ref mJ, .int z24, .int z25, .int z26, .long z27, .ref mF, .ref mD, .ref mS, .ref mP])), (mJ, .inl (cy 0, 9, .inl f28)), (mS, .inl (cy 0, 4096, .inl f31)), (mP, .inl (cy 0, 4096, .inl f32))] := hD.sub [17, 18, 21, 22] (by decide) rfl
                                have hFc := va_free (wc := [(m0, .inr (8, [.int z23, .ref mJ, .int z24, .int z25, .int z26, .long z27, .ref mF, .ref mD, .ref mS, .ref mP])), (mJ, .inl (cy 0, 9, .inl f28)), (mS, .inl (cy 0, 4096, .inl f31)), (mP, .inl (cy 0, 4096, .inl f32))]) hD hS hA [17, 18, 21, 22] rfl
                                refine va_calli (va_runV (As := [.int (xs ((y1 + (1 : Int32)) : Int32).toNatClampNeg), .int (xs ((y1 + (2 : Int32)) : Int32).toNatClampNeg)]) (rest := [.int r160]) ⟨hx, hb, hml, hown, hts⟩ (ct_X9_shades l G cy m0 mJ mS mP mF mD H.size z23 z24 z25 z26 z27 f28 f31 f32 (xs ((y1 + (1 : Int32)) : Int32).toNatClampNeg) (xs ((y1 + (2 : Int32)) : Int32).toNatClampNeg) Q168 hw9) (cwV 2 hts gL_law_X9_shadesE rfl rfl rfl (by decide +kernel) ⟨Nat.le_of_ble_eq_true rfl, Nat.le_of_ble_eq_true rfl⟩) (wP_V hK hP (ci := 8) (q0 := 17) rfl rfl hPc hDc) rfl rfl hl.1 rfl (lv_room (Nat.le_of_ble_eq_true rfl)) dL_law_546 ⟨Nat.le_of_ble_eq_true rfl, Nat.le_of_ble_eq_true rfl⟩) hS (fun q9 _ h9 => hFc q9 h9) hFc (fun r169 u9 t9 H locs ht9 hvm9 hw9 hB9 hz9 hk9 hS => ?_)
                                obtain ⟨f170, f171⟩ := u9
                                have hP : va_P G vwCl [(a0, .inr (7, [.ref aN, .ref aM, .ref aP, .ref aW, .ref aT, .int z2, .int z3, .int z4])), (aM, .inr (2, [.ref aF, .ref aL, .ref aX, .int z5, .int z6, .int z7, .ref aN, .ref aC, .int z8])), (aF, .inl (cy 0, 512, .inl f9)), (aL, .inl (cy 0, 512, .inl f10)), (aX, .inl (cy 0, 81, .inl f11)), (aC, .inl (cy 0, 81, .inl f12)), (aP, .inr (4, [.ref bF, .ref bL, .ref bX, .int z161, .int z162, .int z163, .ref aN, .int z164])), (bF, .inl (cy 0, 4096, .inl f165)), (bL, .inl (cy 0, 4096, .inl f166)), (bX, .inl (cy 0, 24, .inl f167)), (aN, .inr (3, [.ref aR, .int z20])), (aR, .inl (cy 0, 9, .inl f21)), (aW, .inl (cy 2, 3, .inr (.inr (.inr (.inr (wgh aS aJ aB)))))), (aS, .inr (5, [])), (aJ, .inr (1, [])), (aB, .inr (0, [])), (aT, .inr (6, [.long z22])), (m0, .inr (8, [.int z23, .ref mJ, .int z24, .int z25, .int z26, .long z27, .ref mF, .ref mD, .ref mS, .ref mP])), (mJ, .inl (cy 0, 9, .inl f28)), (mF, .inl (cy 0, 512, .inl f29)), (mD, .inl (cy 1, 512, .inl f30)), (mS, .inl (cy 0, 4096, .inl f170)), (mP, .inl (cy 0, 4096, .inl f171))] H := P_back [17, 18, 21, 22] [0, 1, 2, 3, 4, 5, 6, 7, 8, 9, 10, 11, 12, 13, 14, 15, 16, 19, 20] 23 hP hD rfl rfl rfl rfl (by decide) (by decide) hk9 (by rw [← ht9]; exact hB9)
                                have hD : va_D A [(a0, .inr (7, [.ref aN, .ref aM, .ref aP, .ref aW, .ref aT, .int z2, .int z3, .int z4])), (aM, .inr (2, [.ref aF, .ref aL, .ref aX, .int z5, .int z6, .int z7, .ref aN, .ref aC, .int z8])), (aF, .inl (cy 0, 512, .inl f9)), (aL, .inl (cy 0, 512, .inl f10)), (aX, .inl (cy 0, 81, .inl f11)), (aC, .inl (cy 0, 81, .inl f12)), (aP, .inr (4, [.ref bF, .ref bL, .ref bX, .int z161, .int z162, .int z163, .ref aN, .int z164])), (bF, .inl (cy 0, 4096, .inl f165)), (bL, .inl (cy 0, 4096, .inl f166)), (bX, .inl (cy 0, 24, .inl f167)), (aN, .inr (3, [.ref aR, .int z20])), (aR, .inl (cy 0, 9, .inl f21)), (aW, .inl (cy 2, 3, .inr (.inr (.inr (.inr (wgh aS aJ aB)))))), (aS, .inr (5, [])), (aJ, .inr (1, [])), (aB, .inr (0, [])), (aT, .inr (6, [.long z22])), (m0, .inr (8, [.int z23, .ref mJ, .int z24, .int z25, .int z26, .long z27, .ref mF, .ref mD, .ref mS, .ref mP])), (mJ, .inl (cy 0, 9, .inl f28)), (mF, .inl (cy 0, 512, .inl f29)), (mD, .inl (cy 1, 512, .inl f30)), (mS, .inl (cy 0, 4096, .inl f170)), (mP, .inl (cy 0, 4096, .inl f171))] := D_same hD rfl
                                specialize h r169 f170 f171 hw9
                                refine lv_icmp_eq (tgt := 614) hx hb dL_law_549 (by decide) (fun c172 => ?_) (fun c172 => ?_)
                                · obtain ⟨h, -⟩ := h
                                  specialize h c172
                                  obtain ⟨x173, ex173⟩ : ∃ y : Int32, y = y1 + 6 := ⟨_, rfl⟩
                                  specialize h x173 ex173
                                  refine lv_iinc (v := x173) (lv' := [(3, .int x173), (0, .ref b), (1, .ref a0), (2, .ref m0)]) hx hb dL_law_614 hl (k := 3) rfl (by rw [ex173]; rfl) (by decide) rfl (fun ls hl => ?_)
                                  refine lv_goto (tgt := 18) hx hb dL_law_617 (by decide) ?_
                                  exact ih18 x173 z2 z3 z4 z5 z6 z7 z8 f9 f10 f11 f12 z161 z162 z163 z164 f165 f166 f167 z20 f21 z22 z23 z24 z25 z26 z27 f28 f29 f30 f170 f171 h.1 (Nat.lt_of_lt_of_le h.2 (Nat.le_of_lt_succ hk18)) _ _ hP hD hS _ (lv_sub hl [1, 2, 3, 0] rfl)
                                · obtain ⟨-, h⟩ := h
                                  specialize h c172
                                  refine lv_iconst (v := 0) hx hb dL_law_552 (by decide) ?_
                                  exact h.elim
                              · obtain ⟨-, h⟩ := h
                                by_cases c174 : ((xs (y1 : Int32).toNatClampNeg) &&& (15 : Int32)) = 12
                                · obtain ⟨h, -⟩ := h
                                  specialize h c174
                                  refine lv_tableIn (off := 521) (tgt := 554) hx hb dL_law_33 (by rw [c174]; decide) (by rw [c174]; decide) (by rw [c174]; rfl) (by decide) ?_
                                  refine lv_aload_n hx hb dL_law_554 rfl (lv_at hl 1 rfl) ?_
                                  refine lv_aload_n hx hb dL_law_555 rfl (lv_at hl 0 rfl) ?_
                                  refine lv_iload_n hx hb dL_law_556 rfl (lv_at hl 3 rfl) ?_
                                  refine lv_iconst (v := 1) hx hb dL_law_557 (by decide) ?_
                                  refine lv_iadd hx hb dL_law_558 ?_
                                  obtain ⟨hi, h⟩ := h
                                  refine va_sld hx hb hX hbl hbA hS hi dL_law_559 ?_
                                  obtain ⟨Q175, hw9, h⟩ := h
                                  have hPc : va_P G vwCl [(a0, .inr (7, [.ref aN, .ref aM, .ref aP, .ref aW, .ref aT, .int z2, .int z3, .int z4])), (aP, .inr (4, [.ref bF, .ref bL, .ref bX, .int z13, .int z14, .int z15, .ref aN, .int z16])), (bF, .inl (cy 0, 4096, .inl f17)), (bL, .inl (cy 0, 4096, .inl f18)), (bX, .inl (cy 0, 24, .inl f19)), (aN, .inr (3, [.ref aR, .int z20])), (aR, .inl (cy 0, 9, .inl f21))] H := hP.sub [0, 6, 7, 8, 9, 10, 11] rfl
                                  have hDc : va_D A [(a0, .inr (7, [.ref aN, .ref aM, .ref aP, .ref aW, .ref aT, .int z2, .int z3, .int z4])), (aP, .inr (4, [.ref bF, .ref bL, .ref bX, .int z13, .int z14, .int z15, .ref aN, .int z16])), (bF, .inl (cy 0, 4096, .inl f17)), (bL, .inl (cy 0, 4096, .inl f18)), (bX, .inl (cy 0, 24, .inl f19)), (aN, .inr (3, [.ref aR, .int z20])), (aR, .inl (cy 0, 9, .inl f21))] := hD.sub [0, 6, 7, 8, 9, 10, 11] (by decide) rfl
                                  have hFc := va_free (wc := [(a0, .inr (7, [.ref aN, .ref aM, .ref aP, .ref aW, .ref aT, .int z2, .int z3, .int z4])), (aP, .inr (4, [.ref bF, .ref bL, .ref bX, .int z13, .int z14, .int z15, .ref aN, .int z16])), (bF, .inl (cy 0, 4096, .inl f17)), (bL, .inl (cy 0, 4096, .inl f18)), (bX, .inl (cy 0, 24, .inl f19)), (aN, .inr (3, [.ref aR, .int z20])), (aR, .inl (cy 0, 9, .inl f21))]) hD hS hA [0, 6, 7, 8, 9, 10, 11] rfl
                                  refine va_calli (va_runV (As := [.int (xs ((y1 + (1 : Int32)) : Int32).toNatClampNeg)]) (rest := []) ⟨hx, hb, hml, hown, hts⟩ (ct_X8_heaps l G cy a0 aP bF bL bX aN aR aM aW aT H.size z2 z3 z4 z13 z14 z15 z16 f17 f18 f19 z20 f21 (xs ((y1 + (1 : Int32)) : Int32).toNatClampNeg) Q175 hw9) (cwV 1 hts gL_law_X8_heapsE rfl rfl rfl (by decide +kernel) ⟨Nat.le_of_ble_eq_true rfl, Nat.le_of_ble_eq_true rfl⟩) (wP_V hK hP (ci := 7) (q0 := 0) rfl rfl hPc hDc) rfl rfl hl.1 rfl (lv_room (Nat.le_of_ble_eq_true rfl)) dL_law_560 ⟨Nat.le_of_ble_eq_true rfl, Nat.le_of_ble_eq_true rfl⟩) hS (fun q9 _ h9 => hFc q9 h9) hFc (fun r176 u9 t9 H locs ht9 hvm9 hw9 hB9 hz9 hk9 hS => ?_)
                                  obtain ⟨z177, z178, z179, z180, f181, f182, f183⟩ := u9
                                  have hP : va_P G vwCl [(a0, .inr (7, [.ref aN, .ref aM, .ref aP, .ref aW, .ref aT, .int z2, .int z3, .int z4])), (aM, .inr (2, [.ref aF, .ref aL, .ref aX, .int z5, .int z6, .int z7, .ref aN, .ref aC, .int z8])), (aF, .inl (cy 0, 512, .inl f9)), (aL, .inl (cy 0, 512, .inl f10)), (aX, .inl (cy 0, 81, .inl f11)), (aC, .inl (cy 0, 81, .inl f12)), (aP, .inr (4, [.ref bF, .ref bL, .ref bX, .int z177, .int z178, .int z179, .ref aN, .int z180])), (bF, .inl (cy 0, 4096, .inl f181)), (bL, .inl (cy 0, 4096, .inl f182)), (bX, .inl (cy 0, 24, .inl f183)), (aN, .inr (3, [.ref aR, .int z20])), (aR, .inl (cy 0, 9, .inl f21)), (aW, .inl (cy 2, 3, .inr (.inr (.inr (.inr (wgh aS aJ aB)))))), (aS, .inr (5, [])), (aJ, .inr (1, [])), (aB, .inr (0, [])), (aT, .inr (6, [.long z22])), (m0, .inr (8, [.int z23, .ref mJ, .int z24, .int z25, .int z26, .long z27, .ref mF, .ref mD, .ref mS, .ref mP])), (mJ, .inl (cy 0, 9, .inl f28)), (mF, .inl (cy 0, 512, .inl f29)), (mD, .inl (cy 1, 512, .inl f30)), (mS, .inl (cy 0, 4096, .inl f31)), (mP, .inl (cy 0, 4096, .inl f32))] H := P_back [0, 6, 7, 8, 9, 10, 11] [1, 2, 3, 4, 5, 12, 13, 14, 15, 16, 17, 18, 19, 20, 21, 22] 23 hP hD rfl rfl rfl rfl (by decide) (by decide) hk9 (by rw [← ht9]; exact hB9)
                                  have hD : va_D A [(a0, .inr (7, [.ref aN, .ref aM, .ref aP, .ref aW, .ref aT, .int z2, .int z3, .int z4])), (aM, .inr (2, [.ref aF, .ref aL, .ref aX, .int z5, .int z6, .int z7, .ref aN, .ref aC, .int z8])), (aF, .inl (cy 0, 512, .inl f9)), (aL, .inl (cy 0, 512, .inl f10)), (aX, .inl (cy 0, 81, .inl f11)), (aC, .inl (cy 0, 81, .inl f12)), (aP, .inr (4, [.ref bF, .ref bL, .ref bX, .int z177, .int z178, .int z179, .ref aN, .int z180])), (bF, .inl (cy 0, 4096, .inl f181)), (bL, .inl (cy 0, 4096, .inl f182)), (bX, .inl (cy 0, 24, .inl f183)), (aN, .inr (3, [.ref aR, .int z20])), (aR, .inl (cy 0, 9, .inl f21)), (aW, .inl (cy 2, 3, .inr (.inr (.inr (.inr (wgh aS aJ aB)))))), (aS, .inr (5, [])), (aJ, .inr (1, [])), (aB, .inr (0, [])), (aT, .inr (6, [.long z22])), (m0, .inr (8, [.int z23, .ref mJ, .int z24, .int z25, .int z26, .long z27, .ref mF, .ref mD, .ref mS, .ref mP])), (mJ, .inl (cy 0, 9, .inl f28)), (mF, .inl (cy 0, 512, .inl f29)), (mD, .inl (cy 1, 512, .inl f30)), (mS, .inl (cy 0, 4096, .inl f31)), (mP, .inl (cy 0, 4096, .inl f32))] := D_same hD rfl
                                  specialize h r176 z177 z178 z179 z180 f181 f182 f183 hw9
                                  refine lv_aload_n hx hb dL_law_563 rfl (lv_at hl 2 rfl) ?_
                                  refine lv_aload_n hx hb dL_law_564 rfl (lv_at hl 0 rfl) ?_
                                  refine lv_iload_n hx hb dL_law_565 rfl (lv_at hl 3 rfl) ?_
                                  refine lv_iconst (v := 1) hx hb dL_law_566 (by decide) ?_
                                  refine lv_iadd hx hb dL_law_567 ?_
                                  obtain ⟨hi, h⟩ := h
                                  refine va_sld hx hb hX hbl hbA hS hi dL_law_568 ?_
                                  obtain ⟨Q184, hw9, h⟩ := h
                                  have hPc : va_P G vwCl [(m0, .inr (8, [.int z23, .ref mJ, .int z24, .int z25, .int z26, .long z27, .ref mF, .ref mD, .ref mS, .ref mP])), (mJ, .inl (cy 0, 9, .inl f28)), (mS, .inl (cy 0, 4096, .inl f31)), (mP, .inl (cy 0, 4096, .inl f32))] H := hP.sub [17, 18, 21, 22] rfl
                                  have hDc : va_D A [(m0, .inr (8, [.int z23, .ref mJ, .int z24, .int z25, .int z26, .long z27, .ref mF, .ref mD, .ref mS, .ref mP])), (mJ, .inl (cy 0, 9, .inl f28)), (mS, .inl (cy 0, 4096, .inl f31)), (mP, .inl (cy 0, 4096, .inl f32))] := hD.sub [17, 18, 21, 22] (by decide) rfl
                                  have hFc := va_free (wc := [(m0, .inr (8, [.int z23, .ref mJ, .int z24, .int z25, .int z26, .long z27, .ref mF, .ref mD, .ref mS, .ref mP])), (mJ, .inl (cy 0, 9, .inl f28)), (mS, .inl (cy 0, 4096, .inl f31)), (mP, .inl (cy 0, 4096, .inl f32))]) hD hS hA [17, 18, 21, 22] rfl
                                  refine va_calli (va_runV (As := [.int (xs ((y1 + (1 : Int32)) : Int32).toNatClampNeg)]) (rest := [.int r176]) ⟨hx, hb, hml, hown, hts⟩ (ct_X9_heaps l G cy m0 mJ mS mP mF mD H.size z23 z24 z25 z26 z27 f28 f31 f32 (xs ((y1 + (1 : Int32)) : Int32).toNatClampNeg) Q184 hw9) (cwV 1 hts gL_law_X9_heapsE rfl rfl rfl (by decide +kernel) ⟨Nat.le_of_ble_eq_true rfl, Nat.le_of_ble_eq_true rfl⟩) (wP_V hK hP (ci := 8) (q0 := 17) rfl rfl hPc hDc) rfl rfl hl.1 rfl (lv_room (Nat.le_of_ble_eq_true rfl)) dL_law_569 ⟨Nat.le_of_ble_eq_true rfl, Nat.le_of_ble_eq_true rfl⟩) hS (fun q9 _ h9 => hFc q9 h9) hFc (fun r185 u9 t9 H locs ht9 hvm9 hw9 hB9 hz9 hk9 hS => ?_)
                                  obtain ⟨f186, f187⟩ := u9
                                  have hP : va_P G vwCl [(a0, .inr (7, [.ref aN, .ref aM, .ref aP, .ref aW, .ref aT, .int z2, .int z3, .int z4])), (aM, .inr (2, [.ref aF, .ref aL, .ref aX, .int z5, .int z6, .int z7, .ref aN, .ref aC, .int z8])), (aF, .inl (cy 0, 512, .inl f9)), (aL, .inl (cy 0, 512, .inl f10)), (aX, .inl (cy 0, 81, .inl f11)), (aC, .inl (cy 0, 81, .inl f12)), (aP, .inr (4, [.ref bF, .ref bL, .ref bX, .int z177, .int z178, .int z179, .ref aN, .int z180])), (bF, .inl (cy 0, 4096, .inl f181)), (bL, .inl (cy 0, 4096, .inl f182)), (bX, .inl (cy 0, 24, .inl f183)), (aN, .inr (3, [.ref aR, .int z20])), (aR, .inl (cy 0, 9, .inl f21)), (aW, .inl (cy 2, 3, .inr (.inr (.inr (.inr (wgh aS aJ aB)))))), (aS, .inr (5, [])), (aJ, .inr (1, [])), (aB, .inr (0, [])), (aT, .inr (6, [.long z22])), (m0, .inr (8, [.int z23, .ref mJ, .int z24, .int z25, .int z26, .long z27, .ref mF, .ref mD, .ref mS, .ref mP])), (mJ, .inl (cy 0, 9, .inl f28)), (mF, .inl (cy 0, 512, .inl f29)), (mD, .inl (cy 1, 512, .inl f30)), (mS, .inl (cy 0, 4096, .inl f186)), (mP, .inl (cy 0, 4096, .inl f187))] H := P_back [17, 18, 21, 22] [0, 1, 2, 3, 4, 5, 6, 7, 8, 9, 10, 11, 12, 13, 14, 15, 16, 19, 20] 23 hP hD rfl rfl rfl rfl (by decide) (by decide) hk9 (by rw [← ht9]; exact hB9)
                                  have hD : va_D A [(a0, .inr (7, [.ref aN, .ref aM, .ref aP, .ref aW, .ref aT, .int z2, .int z3, .int z4])), (aM, .inr (2, [.ref aF, .ref aL, .ref aX, .int z5, .int z6, .int z7, .ref aN, .ref aC, .int z8])), (aF, .inl (cy 0, 512, .inl f9)), (aL, .inl (cy 0, 512, .inl f10)), (aX, .inl (cy 0, 81, .inl f11)), (aC, .inl (cy 0, 81, .inl f12)), (aP, .inr (4, [.ref bF, .ref bL, .ref bX, .int z177, .int z178, .int z179, .ref aN, .int z180])), (bF, .inl (cy 0, 4096, .inl f181)), (bL, .inl (cy 0, 4096, .inl f182)), (bX, .inl (cy 0, 24, .inl f183)), (aN, .inr (3, [.ref aR, .int z20])), (aR, .inl (cy 0, 9, .inl f21)), (aW, .inl (cy 2, 3, .inr (.inr (.inr (.inr (wgh aS aJ aB)))))), (aS, .inr (5, [])), (aJ, .inr (1, [])), (aB, .inr (0, [])), (aT, .inr (6, [.long z22])), (m0, .inr (8, [.int z23, .ref mJ, .int z24, .int z25, .int z26, .long z27, .ref mF, .ref mD, .ref mS, .ref mP])), (mJ, .inl (cy 0, 9, .inl f28)), (mF, .inl (cy 0, 512, .inl f29)), (mD, .inl (cy 1, 512, .inl f30)), (mS, .inl (cy 0, 4096, .inl f186)), (mP, .inl (cy 0, 4096, .inl f187))] := D_same hD rfl
                                  specialize h r185 f186 f187 hw9
                                  refine lv_icmp_eq (tgt := 614) hx hb dL_law_572 (by decide) (fun c188 => ?_) (fun c188 => ?_)
                                  · obtain ⟨h, -⟩ := h
                                    specialize h c188
                                    obtain ⟨x189, ex189⟩ : ∃ y : Int32, y = y1 + 6 := ⟨_, rfl⟩
                                    specialize h x189 ex189
                                    refine lv_iinc (v := x189) (lv' := [(3, .int x189), (0, .ref b), (1, .ref a0), (2, .ref m0)]) hx hb dL_law_614 hl (k := 3) rfl (by rw [ex189]; rfl) (by decide) rfl (fun ls hl => ?_)
                                    refine lv_goto (tgt := 18) hx hb dL_law_617 (by decide) ?_
                                    exact ih18 x189 z2 z3 z4 z5 z6 z7 z8 f9 f10 f11 f12 z177 z178 z179 z180 f181 f182 f183 z20 f21 z22 z23 z24 z25 z26 z27 f28 f29 f30 f186 f187 h.1 (Nat.lt_of_lt_of_le h.2 (Nat.le_of_lt_succ hk18)) _ _ hP hD hS _ (lv_sub hl [1, 2, 3, 0] rfl)
                                  · obtain ⟨-, h⟩ := h
                                    specialize h c188
                                    refine lv_iconst (v := 0) hx hb dL_law_575 (by decide) ?_
                                    exact h.elim
                                · obtain ⟨-, h⟩ := h
                                  by_cases c190 : ((xs (y1 : Int32).toNatClampNeg) &&& (15 : Int32)) = 13
                                  · obtain ⟨h, -⟩ := h
                                    specialize h c190
                                    refine lv_tableIn (off := 544) (tgt := 577) hx hb dL_law_33 (by rw [c190]; decide) (by rw [c190]; decide) (by rw [c190]; rfl) (by decide) ?_
                                    refine lv_aload_n hx hb dL_law_577 rfl (lv_at hl 1 rfl) ?_
                                    refine lv_aload_n hx hb dL_law_578 rfl (lv_at hl 0 rfl) ?_
                                    refine lv_iload_n hx hb dL_law_579 rfl (lv_at hl 3 rfl) ?_
                                    refine lv_iconst (v := 1) hx hb dL_law_580 (by decide) ?_
                                    refine lv_iadd hx hb dL_law_581 ?_
                                    obtain ⟨hi, h⟩ := h
                                    refine va_sld hx hb hX hbl hbA hS hi dL_law_582 ?_
                                    obtain ⟨Q191, hw9, h⟩ := h
                                    have hPc : va_P G vwCl [(a0, .inr (7, [.ref aN, .ref aM, .ref aP, .ref aW, .ref aT, .int z2, .int z3, .int z4])), (aN, .inr (3, [.ref aR, .int z20])), (aR, .inl (cy 0, 9, .inl f21))] H := hP.sub [0, 10, 11] rfl
                                    refine vp_callSi (va_Run.run (va_runV (As := [.int (xs ((y1 + (1 : Int32)) : Int32).toNatClampNeg)]) (rest := []) ⟨hx, hb, hml, hown, hts⟩ (ct_X8_told l G cy a0 aN aR aM aP aW aT z2 z3 z4 z20 f21 (xs ((y1 + (1 : Int32)) : Int32).toNatClampNeg) Q191 hw9) (cwV 1 hts gL_law_X8_toldE rfl rfl rfl (by decide +kernel) ⟨Nat.le_of_ble_eq_true rfl, Nat.le_of_ble_eq_true rfl⟩) (rP_V hK hP (ci := 7) (q0 := 0) rfl rfl hPc) rfl rfl hl.1 rfl (lv_room (Nat.le_of_ble_eq_true rfl)) dL_law_583 ⟨Nat.le_of_ble_eq_true rfl, Nat.le_of_ble_eq_true rfl⟩)) (fun r192 er192 => ?_)
                                    specialize h r192 er192
                                    refine lv_aload_n hx hb dL_law_586 rfl (lv_at hl 2 rfl) ?_
                                    refine lv_aload_n hx hb dL_law_587 rfl (lv_at hl 0 rfl) ?_
                                    refine lv_iload_n hx hb dL_law_588 rfl (lv_at hl 3 rfl) ?_
                                    refine lv_iconst (v := 1) hx hb dL_law_589 (by decide) ?_
                                    refine lv_iadd hx hb dL_law_590 ?_
                                    obtain ⟨hi, h⟩ := h
                                    refine va_sld hx hb hX hbl hbA hS hi dL_law_591 ?_
                                    obtain ⟨Q193, hw9, h⟩ := h
                                    have hPc : va_P G vwCl [(m0, .inr (8, [.int z23, .ref mJ, .int z24, .int z25, .int z26, .long z27, .ref mF, .ref mD, .ref mS, .ref mP])), (mJ, .inl (cy 0, 9, .inl f28))] H := hP.sub [17, 18] rfl
                                    refine vp_callSi (va_Run.run (va_runV (As := [.int (xs ((y1 + (1 : Int32)) : Int32).toNatClampNeg)]) (rest := [.int r192]) ⟨hx, hb, hml, hown, hts⟩ (ct_X9_told l G cy m0 mJ mF mD mS mP z23 z24 z25 z26 z27 f28 (xs ((y1 + (1 : Int32)) : Int32).toNatClampNeg) Q193 hw9) (cwV 1 hts gL_law_X9_toldE rfl rfl rfl (by decide +kernel) ⟨Nat.le_of_ble_eq_true rfl, Nat.le_of_ble_eq_true rfl⟩) (rP_V hK hP (ci := 8) (q0 := 17) rfl rfl hPc) rfl rfl hl.1 rfl (lv_room (Nat.le_of_ble_eq_true rfl)) dL_law_592 ⟨Nat.le_of_ble_eq_true rfl, Nat.le_of_ble_eq_true rfl⟩)) (fun r194 er194 => ?_)
                                    specialize h r194 er194
                                    refine lv_icmp_eq (tgt := 614) hx hb dL_law_595 (by decide) (fun c195 => ?_) (fun c195 => ?_)
                                    · obtain ⟨h, -⟩ := h
                                      specialize h c195
                                      obtain ⟨x196, ex196⟩ : ∃ y : Int32, y = y1 + 6 := ⟨_, rfl⟩
                                      specialize h x196 ex196
                                      refine lv_iinc (v := x196) (lv' := [(3, .int x196), (0, .ref b), (1, .ref a0), (2, .ref m0)]) hx hb dL_law_614 hl (k := 3) rfl (by rw [ex196]; rfl) (by decide) rfl (fun ls hl => ?_)
                                      refine lv_goto (tgt := 18) hx hb dL_law_617 (by decide) ?_
                                      exact ih18 x196 z2 z3 z4 z5 z6 z7 z8 f9 f10 f11 f12 z13 z14 z15 z16 f17 f18 f19 z20 f21 z22 z23 z24 z25 z26 z27 f28 f29 f30 f31 f32 h.1 (Nat.lt_of_lt_of_le h.2 (Nat.le_of_lt_succ hk18)) _ _ hP hD hS _ (lv_sub hl [1, 2, 3, 0] rfl)
                                    · obtain ⟨-, h⟩ := h
                                      specialize h c195
                                      refine lv_iconst (v := 0) hx hb dL_law_598 (by decide) ?_
                                      exact h.elim
                                  · obtain ⟨-, h⟩ := h
                                    by_cases c197 : ((xs (y1 : Int32).toNatClampNeg) &&& (15 : Int32)) = 14
                                    · obtain ⟨h, -⟩ := h
                                      specialize h c197
                                      refine lv_tableIn (off := 567) (tgt := 600) hx hb dL_law_33 (by rw [c197]; decide) (by rw [c197]; decide) (by rw [c197]; rfl) (by decide) ?_
                                      refine lv_aload_n hx hb dL_law_600 rfl (lv_at hl 1 rfl) ?_
                                      obtain ⟨Q198, hw9, h⟩ := h
                                      have hPc : va_P G vwCl [(a0, .inr (7, [.ref aN, .ref aM, .ref aP, .ref aW, .ref aT, .int z2, .int z3, .int z4])), (aT, .inr (6, [.long z22]))] H := hP.sub [0, 16] rfl
                                      refine vp_callSl (va_Run.run (va_runV (As := []) (rest := []) ⟨hx, hb, hml, hown, hts⟩ (ct_X8_trace l G cy a0 aT aN aM aP aW z2 z3 z4 z22 Q198 hw9) (cwV 0 hts gL_law_X8_traceE rfl rfl rfl (by decide +kernel) ⟨Nat.le_of_ble_eq_true rfl, Nat.le_of_ble_eq_true rfl⟩) (rP_V hK hP (ci := 7) (q0 := 0) rfl rfl hPc) rfl rfl hl.1 rfl (lv_room (Nat.le_of_ble_eq_true rfl)) dL_law_601 ⟨Nat.le_of_ble_eq_true rfl, Nat.le_of_ble_eq_true rfl⟩)) (fun r199 er199 => ?_)
                                      specialize h r199 er199
                                      refine lv_aload_n hx hb dL_law_604 rfl (lv_at hl 2 rfl) ?_
                                      obtain ⟨Q200, hw9, h⟩ := h
                                      have hPc : va_P G vwCl [(m0, .inr (8, [.int z23, .ref mJ, .int z24, .int z25, .int z26, .long z27, .ref mF, .ref mD, .ref mS, .ref mP])), (mJ, .inl (cy 0, 9, .inl f28))] H := hP.sub [17, 18] rfl
                                      refine vp_callSl (va_Run.run (va_runV (As := []) (rest := [.long r199]) ⟨hx, hb, hml, hown, hts⟩ (ct_X9_trace l G cy m0 mJ mF mD mS mP z23 z24 z25 z26 z27 f28 Q200 hw9) (cwV 0 hts gL_law_X9_traceE rfl rfl rfl (by decide +kernel) ⟨Nat.le_of_ble_eq_true rfl, Nat.le_of_ble_eq_true rfl⟩) (rP_V hK hP (ci := 8) (q0 := 17) rfl rfl hPc) rfl rfl hl.1 rfl (lv_room (Nat.le_of_ble_eq_true rfl)) dL_law_605 ⟨Nat.le_of_ble_eq_true rfl, Nat.le_of_ble_eq_true rfl⟩)) (fun r201 er201 => ?_)
                                      specialize h r201 er201
                                      refine W.lcmp hx hb dL_law_608 ?_
                                      refine lv_if_eq (tgt := 614) hx hb dL_law_609 (by decide) (fun c202 => ?_) (fun c202 => ?_)
                                      · obtain ⟨h, -⟩ := h
                                        specialize h c202
                                        obtain ⟨x203, ex203⟩ : ∃ y : Int32, y = y1 + 6 := ⟨_, rfl⟩
                                        specialize h x203 ex203
                                        refine lv_iinc (v := x203) (lv' := [(3, .int x203), (0, .ref b), (1, .ref a0), (2, .ref m0)]) hx hb dL_law_614 hl (k := 3) rfl (by rw [ex203]; rfl) (by decide) rfl (fun ls hl => ?_)
                                        refine lv_goto (tgt := 18) hx hb dL_law_617 (by decide) ?_
                                        exact ih18 x203 z2 z3 z4 z5 z6 z7 z8 f9 f10 f11 f12 z13 z14 z15 z16 f17 f18 f19 z20 f21 z22 z23 z24 z25 z26 z27 f28 f29 f30 f31 f32 h.1 (Nat.lt_of_lt_of_le h.2 (Nat.le_of_lt_succ hk18)) _ _ hP hD hS _ (lv_sub hl [1, 2, 3, 0] rfl)
                                      · obtain ⟨-, h⟩ := h
                                        specialize h c202
                                        refine lv_iconst (v := 0) hx hb dL_law_612 (by decide) ?_
                                        exact h.elim
                                    · obtain ⟨-, h⟩ := h
                                      specialize h c34 c45 c54 c64 c77 c84 c91 c100 c117 c134 c151 c158 c174 c190 c197
                                      refine lv_tableOut (tgt := 614) hx hb dL_law_33 (by have nc34 := lv_neT (a := 0) c34 (by decide); have nc45 := lv_neT (a := 1) c45 (by decide); have nc54 := lv_neT (a := 2) c54 (by decide); have nc64 := lv_neT (a := 3) c64 (by decide); have nc77 := lv_neT (a := 4) c77 (by decide); have nc84 := lv_neT (a := 5) c84 (by decide); have nc91 := lv_neT (a := 6) c91 (by decide); have nc100 := lv_neT (a := 7) c100 (by decide); have nc117 := lv_neT (a := 8) c117 (by decide); have nc134 := lv_neT (a := 9) c134 (by decide); have nc151 := lv_neT (a := 10) c151 (by decide); have nc158 := lv_neT (a := 11) c158 (by decide); have nc174 := lv_neT (a := 12) c174 (by decide); have nc190 := lv_neT (a := 13) c190 (by decide); have nc197 := lv_neT (a := 14) c197 (by decide); omega) (by decide) ?_
                                      obtain ⟨x204, ex204⟩ : ∃ y : Int32, y = y1 + 6 := ⟨_, rfl⟩
                                      specialize h x204 ex204
                                      refine lv_iinc (v := x204) (lv' := [(3, .int x204), (0, .ref b), (1, .ref a0), (2, .ref m0)]) hx hb dL_law_614 hl (k := 3) rfl (by rw [ex204]; rfl) (by decide) rfl (fun ls hl => ?_)
                                      refine lv_goto (tgt := 18) hx hb dL_law_617 (by decide) ?_
                                      exact ih18 x204 z2 z3 z4 z5 z6 z7 z8 f9 f10 f11 f12 z13 z14 z15 z16 f17 f18 f19 z20 f21 z22 z23 z24 z25 z26 z27 f28 f29 f30 f31 f32 h.1 (Nat.lt_of_lt_of_le h.2 (Nat.le_of_lt_succ hk18)) _ _ hP hD hS _ (lv_sub hl [1, 2, 3, 0] rfl)
  exact key18 _ 0 vLe vMo vCo vSz vTl vFo vMv fF fL fX fC wSz wTl wFo wCo gF gL gX vn fN vT kn kFe kMo kCo kT jJ jF jD jS jP h018 (Nat.lt_succ_self _) _ _ hP hD hS _ (lv_sub hl [0, 1, 2, 3] rfl)
