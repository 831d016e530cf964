/-! ===== the class's arrange: the order of the steps ===== -/
theorem spread_run {N n : Nat} {bits : Int32} {M : Mm} (hN : 60 < N) (hn : n ≤ 12) (hc : M.1 2 6 = nI n) : ∃ m, FX0_spread N bits M = some m ∧ ∀ g, bt m g = true ↔ bt bits g = true ∨ ∃ f, f < n ∧ bt bits f = true ∧ bt (M.1 20 f) g = true := by
  unfold FX0_spread
  refine lp_up (fun i (q : Int32 × Int32 × Int32) => q.1 = bits ∧ q.2.2 = nI i ∧ ∀ g, bt q.2.1 g = true ↔ bt bits g = true ∨ ∃ f, f < i ∧ bt bits f = true ∧ bt (M.1 20 f) g = true) (fun o => ∃ m, o = some m ∧ ∀ g, bt m g = true ↔ bt bits g = true ∨ ∃ f, f < n ∧ bt bits f = true ∧ bt (M.1 20 f) g = true) n N _ ⟨rfl, rfl, fun g => ⟨Or.inl, fun h => h.elim id (fun ⟨f, hf, _⟩ => absurd hf (Nat.not_lt_zero _))⟩⟩ (by omega) ?_ ?_
  · rintro i ⟨a, m, x⟩ K hi ⟨h0, h1, h2⟩
    dsimp only at h0 h1 h2
    subst h0
    subst h1
    left
    rw [eBX0_spread_4]
    dsimp only
    rw [hc, if_neg (lt_nI hi (by omega)), hasBit_run _ (by omega), Option.bind_some]
    cases hb : bt a i with
    | false =>
      refine ⟨(a, m, nI (i + 1)), ⟨rfl, rfl, fun g => ?_⟩, by rw [if_pos (by rfl), nI_1]⟩
      dsimp only
      rw [h2 g]
      refine or_congr Iff.rfl ⟨fun ⟨f, hf, h⟩ => ⟨f, by omega, h⟩, fun ⟨f, hf, h⟩ => ?_⟩
      by_cases e : f = i
      · subst e; rw [hb] at h; cases h.1
      · exact ⟨f, by omega, h⟩
    | true =>
      refine ⟨(a, m ||| M.1 20 i, nI (i + 1)), ⟨rfl, rfl, fun g => ?_⟩, ?_⟩
      · dsimp only
        rw [b_or, Bool.or_eq_true, h2 g]
        constructor
        · rintro ((h | ⟨f, hf, h⟩) | h)
          · exact Or.inl h
          · exact Or.inr ⟨f, by omega, h⟩
          · exact Or.inr ⟨i, by omega, hb, h⟩
        · rintro (h | ⟨f, hf, h⟩)
          · exact Or.inl (Or.inl h)
          · by_cases e : f = i
            · subst e; exact Or.inr h.2
            · exact Or.inl (Or.inr ⟨f, by omega, h⟩)
      · rw [if_neg (by decide), rdI_nI (by omega) (by decide), Option.bind_some, nI_1]
  · rintro ⟨a, m, x⟩ K ⟨h0, h1, h2⟩
    dsimp only at h0 h1 h2
    subst h0
    subst h1
    rw [eBX0_spread_4]
    dsimp only
    rw [hc, if_pos (le_nI n (by omega))]
    exact ⟨m, rfl, h2⟩
/-- parts by their number, fields by 50 and theirs -/
def itm (n np x : Nat) : Bool := decide (x < np ∨ (50 ≤ x ∧ x < 50 + n))
def inV (n np : Nat) (c : Nat → Nat) (m i y : Nat) : Bool := itm n np y && decide (c y < m ∨ (c y = m ∧ y < i))
def psV (n np : Nat) (c : Nat → Nat) (x : Nat) : Nat := cntB (inV n np c (c x) x) 62
theorem psV_lt {n np x : Nat} {c : Nat → Nat} (hnp : np ≤ 50) (hn : n ≤ 12) (hx : itm n np x = true) : psV n np c x < 62 := by
  have hx62 : x < 62 := by unfold itm at hx; simp at hx; omega
  have h := cntB_lt (P := inV n np c (c x) x) (R := fun _ => true) (j := x) 62 hx62 (fun _ _ _ => rfl) (by unfold inV; simp) rfl
  rw [cntB_all 62 (fun _ _ => rfl)] at h
  exact h
theorem psV_mono {n np x y : Nat} {c : Nat → Nat} (hnp : np ≤ 50) (hn : n ≤ 12) (hy : itm n np y = true) (h : c y < c x ∨ (c y = c x ∧ y < x)) : psV n np c y < psV n np c x := by
  have hy62 : y < 62 := by unfold itm at hy; simp at hy; omega
  refine cntB_lt (j := y) 62 hy62 (fun i _ hi => ?_) (by unfold inV; simp) (by unfold inV; rw [hy]; simp; omega)
  unfold inV at hi ⊢
  simp at hi ⊢
  exact ⟨hi.1, by omega⟩
/-- memories that differ in what arrange writes alone -/
def sameA (M M' : Mm) : Prop := M'.2 = M.2 ∧ (∀ a, a ≠ 1 → a ≠ 27 → a ≠ 28 → a ≠ 29 → M'.1 a = M.1 a)
theorem sameA_rf (M : Mm) : sameA M M := ⟨rfl, fun _ _ _ _ _ => rfl⟩
theorem sameA_t {M M1 M2 : Mm} (h1 : sameA M M1) (h2 : sameA M1 M2) : sameA M M2 := ⟨h2.1.trans h1.1, fun a x y z w => (h2.2 a x y z w).trans (h1.2 a x y z w)⟩
/-- so many steps are laid: those of the set (m, i) -/
def laid (n np : Nat) (c : Nat → Nat) (mv : Nat → Int32) (m i : Nat) (M : Mm) : Prop := M.1 1 5 = nI (cntB (inV n np c m i) 62) ∧ (∀ j, j < cntB (inV n np c m i) 62 → ∃ y, inV n np c m i y = true ∧ psV n np c y = j) ∧ ∀ y, inV n np c m i y = true → M.1 27 (psV n np c y) = nI y ∧ M.1 28 (psV n np c y) = mv y
theorem laid_skip {n np m i i' : Nat} {c : Nat → Nat} {mv : Nat → Int32} {M : Mm} (h : ∀ y, inV n np c m i y = inV n np c m i' y) (hl : laid n np c mv m i M) : laid n np c mv m i' M := by
  have e : inV n np c m i = inV n np c m i' := funext h
  unfold laid at *
  rw [← e]
  exact hl
theorem laid_next {n np m i : Nat} {c : Nat → Nat} {mv : Nat → Int32} {M : Mm} (h : ∀ y, inV n np c m i y = inV n np c (m + 1) 0 y) (hl : laid n np c mv m i M) : laid n np c mv (m + 1) 0 M := by
  have e : inV n np c m i = inV n np c (m + 1) 0 := funext h
  unfold laid at *
  rw [← e]
  exact hl
theorem addStep_run {n np m x : Nat} {c : Nat → Nat} {mv : Nat → Int32} {M : Mm} (hnp : np ≤ 50) (hn : n ≤ 12) (hx : itm n np x = true) (hcx : c x = m) (hl : laid n np c mv m x M) : ∃ M', FX2_addStep (nI x) (mv x) M = some M' ∧ sameA M M' ∧ M'.1 29 = M.1 29 ∧ laid n np c mv m (x + 1) M' := by
  obtain ⟨l1, l2, l3⟩ := hl
  have hps : cntB (inV n np c m x) 62 = psV n np c x := by unfold psV; rw [hcx]
  have hlt := psV_lt (c := c) hnp hn hx
  have hx62 : x < 62 := by unfold itm at hx; simp at hx; omega
  have hin : inV n np c m x x = false := by unfold inV; simp; omega
  have hin2 : inV n np c m (x + 1) x = true := by unfold inV; rw [hx]; simp; omega
  have hother : ∀ y, y ≠ x → inV n np c m x y = inV n np c m (x + 1) y := fun y hy => by
    unfold inV
    congr 2
    apply propext
    omega
  have hone := cntB_one (P := inV n np c m x) (R := inV n np c m (x + 1)) (j := x) 62 hx62 hother hin hin2
  unfold FX2_addStep
  rw [l1, if_neg (show ¬ (Int32.ofNat 62) ≤ nI (cntB (inV n np c m x) 62) from lt_nI (n := 62) (by omega) (by decide)), wrI_nI (by omega) (by decide), Option.bind_some, up1_ne (a := 1) (by decide), l1, wrI_nI (by omega) (by decide), Option.bind_some]
  show ∃ M', ((some (up1 (up1 (up1 M 27 (cntB (inV n np c m x) 62) (nI x)) 28 (cntB (inV n np c m x) 62) (mv x)) 1 5 _)).bind fun M6 => some M6) = some M' ∧ _
  rw [Option.bind_some, up1_ne (a := 1) (by decide), up1_ne (a := 1) (by decide), l1, nI_1]
  refine ⟨_, rfl, ⟨rfl, fun a h1 h2 h3 _ => by rw [up1_ne h1, up1_ne h3, up1_ne h2]⟩, by rw [up1_ne (by decide), up1_ne (by decide), up1_ne (by decide)], ?_, fun j hj => ?_, fun y hy => ?_⟩
  · rw [up1_same, if_pos rfl, hone]
  · by_cases ej : j = cntB (inV n np c m x) 62
    · exact ⟨x, hin2, by rw [ej, hps]⟩
    · obtain ⟨y, hy, hj2⟩ := l2 j (by omega)
      refine ⟨y, ?_, hj2⟩
      by_cases e : y = x
      · rw [e]; exact hin2
      · rw [← hother y e]; exact hy
  · rw [up1_ne (a := 27) (by decide), up1_ne (a := 27) (by decide), up1_same, up1_ne (a := 28) (by decide), up1_same, up1_ne (a := 28) (by decide)]
    by_cases e : y = x
    · subst e
      rw [if_pos hps.symm, if_pos hps.symm]
      exact ⟨rfl, rfl⟩
    · rw [← hother y e] at hy
      have hne : psV n np c y ≠ cntB (inV n np c m x) 62 := fun h => by
        have hy2 := hy
        unfold inV at hy2
        simp at hy2
        have := psV_mono (c := c) (x := x) hnp hn hy2.1 (by omega)
        omega
      rw [if_neg hne, if_neg hne]
      exact l3 y hy
