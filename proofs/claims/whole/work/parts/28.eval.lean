/-! ===== the value of a part: class and reference ===== -/
def LO : Int32 := (-2000000000)
def cutV (v : Int64) : Int32 := if (lg_cmp v 1000000) ≤ 0 then (if 0 ≤ (lg_cmp v (-1000000)) then v.toInt32 else (-1000000)) else 1000000
theorem cut6_run (v : Int64) (M : Mm) : FX6_cut v M = some (cutV v) := by
  unfold FX6_cut cutV
  split
  · split <;> rfl
  · rfl
theorem cut10_run (v : Int64) (M : Mm) : FX10_cut v M = some (cutV v) := by
  unfold FX10_cut cutV
  split
  · split <;> rfl
  · rfl
def two (k x y : Int32) : Int32 :=
  if k = 7 then (if x = 0 ∨ y = 0 then 0 else if x = LO ∨ y = LO then LO else 1)
  else if k = 8 then (if (¬ x = LO ∧ ¬ x = 0) ∨ (¬ y = LO ∧ ¬ y = 0) then 1 else if x = LO ∨ y = LO then LO else 0)
  else if x = LO ∨ y = LO then LO
  else if k = 2 then cutV (x.toInt64 + y.toInt64) else if k = 3 then cutV (x.toInt64 - y.toInt64) else if k = 4 then cutV (x.toInt64 * y.toInt64)
  else if k = 5 then (if x = y then 1 else 0) else (if y ≤ x then 0 else 1)
theorem ofTwo_run (k x y : Int32) (M : Mm) : FX10_ofTwo k x y M = some (two k x y) := by
  unfold FX10_ofTwo BX10_ofTwo_53 BX10_ofTwo_67 two
  simp only [cut10_run, Option.bind_some]
  rw [show (-2000000000 : Int32) = LO from rfl]
  have hLO : ¬ (LO = 0) := by decide
  have hLO2 : ¬ ((0 : Int32) = LO) := by decide
  by_cases h7 : k = 7
  · simp only [h7, if_pos]
    by_cases h1 : x = 0 <;> by_cases h2 : y = 0 <;> by_cases h3 : x = LO <;> by_cases h4 : y = LO <;> simp_all
  · by_cases h8 : k = 8
    · simp only [h8, if_pos]
      by_cases h1 : x = 0 <;> by_cases h2 : y = 0 <;> by_cases h3 : x = LO <;> by_cases h4 : y = LO <;> simp_all
    · simp only [h7, h8, if_false]
      by_cases h3 : x = LO
      · simp [h3]
      · by_cases h4 : y = LO
        · simp [h3, h4]
        · simp only [h3, h4, if_false, or_self]
          repeat' split
          all_goals rfl
theorem pair_run (k x y : Int32) (M : Mm) (hk : k = 2 ∨ k = 3 ∨ k = 4 ∨ k = 5 ∨ k = 6 ∨ k = 7 ∨ k = 8) : FX6_workOutPair k x y M = some (two k x y) := by
  unfold FX6_workOutPair BX6_workOutPair_16 BX6_workOutPair_38 BX6_workOutPair_125 BX6_workOutPair_139 BX6_workOutPair_154 FX9_isYes FX9_truth two
  simp only [cut6_run, Option.bind_some]
  rw [show (-2000000000 : Int32) = LO from rfl]
  have hLO : ¬ (LO = 0) := by decide
  have hLO2 : ¬ ((0 : Int32) = LO) := by decide
  rcases hk with e | e | e | e | e | e | e
  all_goals subst e
  · by_cases h3 : x = LO <;> by_cases h4 : y = LO <;> simp_all
  · by_cases h3 : x = LO <;> by_cases h4 : y = LO <;> simp_all
  · by_cases h3 : x = LO <;> by_cases h4 : y = LO <;> simp_all
  · by_cases h3 : x = LO <;> by_cases h4 : y = LO <;> by_cases h5 : x = y <;> simp_all
  · by_cases h3 : x = LO <;> by_cases h4 : y = LO <;> simp_all <;> split <;> rfl
  · by_cases h1 : x = 0 <;> by_cases h2 : y = 0 <;> by_cases h3 : x = LO <;> by_cases h4 : y = LO <;> simp_all
  · by_cases h1 : x = 0 <;> by_cases h2 : y = 0 <;> by_cases h3 : x = LO <;> by_cases h4 : y = LO <;> simp_all
/-- a part as it may be: its kind, and that what it is of is there -/
def pok (n p : Nat) (k a b c : Int32) : Prop := k = 0 ∨ ((k = 1 ∨ k = 10) ∧ ∃ g, g < n ∧ a = nI g) ∨ (k = 9 ∧ ∃ x, x < p ∧ a = nI x) ∨ (k = 11 ∧ (∃ x, x < p ∧ a = nI x) ∧ (∃ y, y < p ∧ b = nI y) ∧ ∃ z, z < p ∧ c = nI z) ∨ ((k = 2 ∨ k = 3 ∨ k = 4 ∨ k = 5 ∨ k = 6 ∨ k = 7 ∨ k = 8) ∧ (∃ x, x < p ∧ a = nI x) ∧ ∃ y, y < p ∧ b = nI y)
def evP (pk pa pb pc val cnt : Nat → Int32) (p : Nat) : Int32 :=
  if pk p = 0 then pa p
  else if pk p = 1 then cnt (pa p).toNatClampNeg
  else if pk p = 10 then (if cnt (pa p).toNatClampNeg = LO then 0 else 1)
  else if pk p = 9 then (if val (pa p).toNatClampNeg = LO then LO else if val (pa p).toNatClampNeg = 0 then 1 else 0)
  else if pk p = 11 then (if val (pa p).toNatClampNeg = LO then LO else if val (pa p).toNatClampNeg = 0 then val (pc p).toNatClampNeg else val (pb p).toNatClampNeg)
  else two (pk p) (val (pa p).toNatClampNeg) (val (pb p).toNatClampNeg)
theorem work_run {n p : Nat} {M : Mm} (hn : n ≤ 12) (hp : p < 50) (h : pok n p (M.1 74 p) (M.1 75 p) (M.1 76 p) (M.1 77 p)) : FX10_work (nI p) M = some (up1 M 87 p (evP (M.1 74) (M.1 75) (M.1 76) (M.1 77) (M.1 87) (M.1 86) p)) := by
  unfold FX10_work evP
  rw [show (-2000000000 : Int32) = LO from rfl]
  rcases h with e | ⟨e, g, hg, ea⟩ | ⟨e, x, hx, ea⟩ | ⟨e, ⟨x, hx, ea⟩, ⟨y, hy, eb⟩, z, hz, ec⟩ | ⟨e, ⟨x, hx, ea⟩, y, hy, eb⟩
  · simp (disch := omega) only [rdI_nI, wrI_nI, Option.bind_some, e, if_true]
  · rcases e with e | e
    · simp (disch := omega) only [rdI_nI, wrI_nI, Option.bind_some, e, ea, cl_nI, if_true, show ((1 : Int32) = 0) = False from by decide, if_false]
    · simp (disch := omega) only [rdI_nI, wrI_nI, Option.bind_some, e, ea, cl_nI, if_true, show ((10 : Int32) = 0) = False from by decide, show ((10 : Int32) = 1) = False from by decide, if_false]
      split <;> simp_all
  · simp (disch := omega) only [rdI_nI, wrI_nI, Option.bind_some, e, ea, cl_nI, if_true, show ((9 : Int32) = 0) = False from by decide, show ((9 : Int32) = 1) = False from by decide, show ((9 : Int32) = 10) = False from by decide, if_false]
    split
    · simp_all
    · split <;> simp_all
  · simp (disch := omega) only [rdI_nI, wrI_nI, Option.bind_some, e, ea, eb, ec, cl_nI, if_true, show ((11 : Int32) = 0) = False from by decide, show ((11 : Int32) = 1) = False from by decide, show ((11 : Int32) = 10) = False from by decide, show ((11 : Int32) = 9) = False from by decide, if_false]
    split
    · simp_all
    · split <;> simp_all
  · have h0 : ¬ M.1 74 p = 0 ∧ ¬ M.1 74 p = 1 ∧ ¬ M.1 74 p = 10 ∧ ¬ M.1 74 p = 9 ∧ ¬ M.1 74 p = 11 := by
      rcases e with e | e | e | e | e | e | e <;> rw [e] <;> decide
    obtain ⟨a0, a1, a2, a3, a4⟩ := h0
    simp (disch := omega) only [rdI_nI, wrI_nI, Option.bind_some, ea, eb, cl_nI, a0, a1, a2, a3, a4, if_false, ofTwo_run]
theorem workOut_run {s n p : Nat} {M : Mm} (hn : n ≤ 12) (hp : p < 50) (h : pok n p (M.1 22 p) (M.1 23 p) (M.1 24 p) (M.1 25 p)) : FX6_workOut s (nI p) M = some (evP (M.1 22) (M.1 23) (M.1 24) (M.1 25) (M.1 (s + 1)) (M.1 (s + 3)) p) := by
  unfold FX6_workOut evP BX6_workOut_135 BX6_workOut_101 FX9_truth
  rw [show (-2000000000 : Int32) = LO from rfl]
  rcases h with e | ⟨e, g, hg, ea⟩ | ⟨e, x, hx, ea⟩ | ⟨e, ⟨x, hx, ea⟩, ⟨y, hy, eb⟩, z, hz, ec⟩ | ⟨e, ⟨x, hx, ea⟩, y, hy, eb⟩
  · simp (disch := omega) only [rdI_nI, Option.bind_some, e, if_true]
  · rcases e with e | e
    · simp (disch := omega) only [rdI_nI, Option.bind_some, e, ea, cl_nI, if_true, show ((1 : Int32) = 0) = False from by decide, if_false]
    · simp (disch := omega) only [rdI_nI, Option.bind_some, e, ea, cl_nI, if_true, show ((10 : Int32) = 0) = False from by decide, show ((10 : Int32) = 1) = False from by decide, show ((10 : Int32) = 9) = False from by decide, show ((1 : Int32) = 0) = False from by decide, if_false]
      split <;> simp_all
  · simp (disch := omega) only [rdI_nI, Option.bind_some, e, ea, cl_nI, if_true, show ((9 : Int32) = 0) = False from by decide, show ((9 : Int32) = 1) = False from by decide, show ((9 : Int32) = 10) = False from by decide, show ((1 : Int32) = 0) = False from by decide, if_false]
    split
    · simp_all
    · split <;> simp_all
  · simp (disch := omega) only [rdI_nI, Option.bind_some, e, ea, eb, ec, cl_nI, if_true, show ((11 : Int32) = 0) = False from by decide, show ((11 : Int32) = 1) = False from by decide, show ((11 : Int32) = 10) = False from by decide, show ((11 : Int32) = 9) = False from by decide, if_false]
    split
    · simp_all
    · split <;> simp_all
  · have h0 : ¬ M.1 22 p = 0 ∧ ¬ M.1 22 p = 1 ∧ ¬ M.1 22 p = 10 ∧ ¬ M.1 22 p = 9 ∧ ¬ M.1 22 p = 11 := by
      rcases e with e | e | e | e | e | e | e <;> rw [e] <;> decide
    obtain ⟨a0, a1, a2, a3, a4⟩ := h0
    simp (disch := omega) only [rdI_nI, Option.bind_some, ea, eb, cl_nI, a0, a1, a2, a3, a4, if_false, pair_run _ _ _ _ e]
/-- it depends on what the part is of alone -/
theorem evP_congr {n p : Nat} {pk pa pb pc val cnt val' cnt' : Nat → Int32} (hnp : p < 50) (hn : n ≤ 12) (h : pok n p (pk p) (pa p) (pb p) (pc p)) (hv : ∀ o, opA pk pa pb pc p o → val' o = val o) (hc : ∀ g, g < n → opF (pk p) = true → pa p = nI g → cnt' g = cnt g) : evP pk pa pb pc val' cnt' p = evP pk pa pb pc val cnt p := by
  unfold evP
  rcases h with e | ⟨e, g, hg, ea⟩ | ⟨e, x, hx, ea⟩ | ⟨e, ⟨x, hx, ea⟩, ⟨y, hy, eb⟩, z, hz, ec⟩ | ⟨e, ⟨x, hx, ea⟩, y, hy, eb⟩
  · simp only [e, if_pos]
  · have hF : opF (pk p) = true := by unfold opF; simp; exact e
    have := hc g hg hF ea
    rw [ea, cl_nI (by omega), this]
    rcases e with e | e <;> simp [e]
  · have := hv x ⟨hx, Or.inl ⟨by rw [e]; decide, ea⟩⟩
    rw [ea, cl_nI (by omega), this]
    simp [e]
  · have h1 := hv x ⟨hx, Or.inl ⟨by rw [e]; decide, ea⟩⟩
    have h2 := hv y ⟨hy, Or.inr (Or.inl ⟨by rw [e]; decide, eb⟩)⟩
    have h3 := hv z ⟨hz, Or.inr (Or.inr ⟨by rw [e]; decide, ec⟩)⟩
    rw [ea, eb, ec, cl_nI (by omega), cl_nI (by omega), cl_nI (by omega), h1, h2, h3]
    simp [e]
  · have hN : opN (pk p) = 2 := by rcases e with e | e | e | e | e | e | e <;> rw [e] <;> decide
    have h1 := hv x ⟨hx, Or.inl ⟨by rw [hN]; decide, ea⟩⟩
    have h2 := hv y ⟨hy, Or.inr (Or.inl ⟨by rw [hN]; decide, eb⟩)⟩
    have h0 : ¬ pk p = 0 ∧ ¬ pk p = 1 ∧ ¬ pk p = 10 ∧ ¬ pk p = 9 ∧ ¬ pk p = 11 := by
      rcases e with e | e | e | e | e | e | e <;> rw [e] <;> decide
    obtain ⟨a0, a1, a2, a3, a4⟩ := h0
    simp only [a0, a1, a2, a3, a4, if_false]
    rw [ea, eb, cl_nI (by omega), cl_nI (by omega), h1, h2]
theorem pok_ops {n p : Nat} {k a b c : Int32} (h : pok n p k a b c) : (0 < opN k → ∃ o, o < p ∧ a = nI o) ∧ (1 < opN k → ∃ o, o < p ∧ b = nI o) ∧ (2 < opN k → ∃ o, o < p ∧ c = nI o) := by
  rcases h with e | ⟨e, g, hg, ea⟩ | ⟨e, x, hx, ea⟩ | ⟨e, ⟨x, hx, ea⟩, ⟨y, hy, eb⟩, z, hz, ec⟩ | ⟨e, ⟨x, hx, ea⟩, y, hy, eb⟩
  · subst e; exact ⟨fun h => absurd h (by decide), fun h => absurd h (by decide), fun h => absurd h (by decide)⟩
  · rcases e with e | e <;> subst e <;> exact ⟨fun h => absurd h (by decide), fun h => absurd h (by decide), fun h => absurd h (by decide)⟩
  · subst e; exact ⟨fun _ => ⟨x, hx, ea⟩, fun h => absurd h (by decide), fun h => absurd h (by decide)⟩
  · exact ⟨fun _ => ⟨x, hx, ea⟩, fun _ => ⟨y, hy, eb⟩, fun _ => ⟨z, hz, ec⟩⟩
  · have hN : opN k = 2 := by rcases e with e | e | e | e | e | e | e <;> rw [e] <;> decide
    rw [hN]
    exact ⟨fun _ => ⟨x, hx, ea⟩, fun _ => ⟨y, hy, eb⟩, fun h => absurd h (by decide)⟩
theorem pok_fld {n p : Nat} {k a b c : Int32} (h : pok n p k a b c) (hF : opF k = true) : ∃ g, g < n ∧ a = nI g := by
  unfold opF at hF
  simp at hF
  rcases h with e | ⟨e, g, hg, ea⟩ | ⟨e, _⟩ | ⟨e, _⟩ | ⟨e, _⟩
  · subst e; exact absurd hF (by decide)
  · exact ⟨g, hg, ea⟩
  · subst e; exact absurd hF (by decide)
  · subst e; exact absurd hF (by decide)
  · rcases e with e | e | e | e | e | e | e <;> subst e <;> exact absurd hF (by decide)
theorem pok_mono {n n' p : Nat} {k a b c : Int32} (hn : n ≤ n') (h : pok n p k a b c) : pok n' p k a b c := by
  rcases h with e | ⟨e, g, hg, ea⟩ | h | h | h
  · exact Or.inl e
  · exact Or.inr (Or.inl ⟨e, g, by omega, ea⟩)
  · exact Or.inr (Or.inr (Or.inl h))
  · exact Or.inr (Or.inr (Or.inr (Or.inl h)))
  · exact Or.inr (Or.inr (Or.inr (Or.inr h)))
