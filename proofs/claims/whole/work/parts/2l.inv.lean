/-! ===== the whole relation of class and reference; how it is carried; arguments ===== -/
def drI (n : Nat) (M : Mm) : Prop := ∀ d f, d < 4 → f < 12 → M.1 (33 + d) f = M.1 88 (12 * d + f) ∧ (M.1 (33 + d) f = LO ∨ (f < n ∧ M.1 5 f = 0 ∧ ¬ M.1 (33 + d) f < M.1 3 f ∧ ¬ M.1 4 f < M.1 (33 + d) f))
def slI (ns : Nat) (M : Mm) : Prop := ns ≤ 6 ∧ M.1 43 5 = nI ns ∧ M.1 69 25 = nI ns ∧ (∀ s, s < 6 → M.1 46 s = M.1 92 s ∧ (M.1 46 s = 0 ∨ M.1 46 s = 1) ∧ (ns ≤ s → M.1 46 s = 0)) ∧ ∀ s, s < ns → (∃ d, d < 4 ∧ M.1 44 s = nI d) ∧ M.1 90 s = M.1 44 s ∧ M.1 91 s = M.1 45 s ∧ ∀ f, f < 12 → M.1 93 (12 * s + f) = M.1 (48 + s) f ∧ M.1 94 (12 * s + f) = M.1 (55 + s) f
def rgI (M : Mm) : Prop := ∃ r, r ≤ 12 ∧ M.1 30 1 = nI r ∧ M.1 69 15 = nI r ∧ ∀ i, i < r → M.1 82 i = M.1 31 i
def odI (M : Mm) : Prop := ∃ r, r ≤ 12 ∧ M.1 41 1 = nI r ∧ M.1 69 23 = nI r ∧ ∀ i, i < r → M.1 89 i = M.1 42 i
def trI (M : Mm) : Prop := M.1 69 31 = M.1 61 4 ∧ ∀ f, f < 12 → M.1 95 f = M.1 62 f
def tcI (M : Mm) : Prop := M.1 69 33 = M.1 68 0
def Inv (n np ns : Nat) (M : Mm) : Prop := coreI n np M ∧ refI n np M ∧ drI n M ∧ slI ns M ∧ rgI M ∧ odI M ∧ trI M ∧ tcI M
def InvE (M : Mm) : Prop := ∃ n np ns, Inv n np ns M
theorem drI_same {n : Nat} {M M' : Mm} (h : ∀ a, (a = 3 ∨ a = 4 ∨ a = 5 ∨ (33 ≤ a ∧ a ≤ 36) ∨ a = 88) → M'.1 a = M.1 a) (hd : drI n M) : drI n M' := fun d f h1 h2 => by
  rw [h (33 + d) (by omega), h 88 (by omega), h 3 (by omega), h 4 (by omega), h 5 (by omega)]
  exact hd d f h1 h2
theorem slI_same {ns : Nat} {M M' : Mm} (h : ∀ a, ((43 ≤ a ∧ a ≤ 60) ∨ (90 ≤ a ∧ a ≤ 94)) → M'.1 a = M.1 a) (h0 : M'.1 69 25 = M.1 69 25) (hd : slI ns M) : slI ns M' := by
  obtain ⟨a, b, c, d, e⟩ := hd
  unfold slI
  rw [h 43 (by omega), h0, h 44 (by omega), h 45 (by omega), h 46 (by omega), h 90 (by omega), h 91 (by omega), h 92 (by omega), h 93 (by omega), h 94 (by omega)]
  refine ⟨a, b, c, d, fun s hs => ?_⟩
  rw [h (48 + s) (by omega), h (55 + s) (by omega)]
  exact e s hs
theorem rgI_same {M M' : Mm} (h : ∀ a, (a = 30 ∨ a = 31 ∨ a = 82) → M'.1 a = M.1 a) (h0 : M'.1 69 15 = M.1 69 15) (hd : rgI M) : rgI M' := by
  unfold rgI
  rw [h 30 (by omega), h 31 (by omega), h 82 (by omega), h0]
  exact hd
theorem odI_same {M M' : Mm} (h : ∀ a, (a = 41 ∨ a = 42 ∨ a = 89) → M'.1 a = M.1 a) (h0 : M'.1 69 23 = M.1 69 23) (hd : odI M) : odI M' := by
  unfold odI
  rw [h 41 (by omega), h 42 (by omega), h 89 (by omega), h0]
  exact hd
theorem trI_same {M M' : Mm} (h : ∀ a, (a = 61 ∨ a = 62 ∨ a = 95) → M'.1 a = M.1 a) (h0 : M'.1 69 31 = M.1 69 31) (hd : trI M) : trI M' := by
  unfold trI
  rw [h 61 (by omega), h 62 (by omega), h 95 (by omega), h0]
  exact hd
theorem tcI_same {M M' : Mm} (h : M'.1 68 = M.1 68) (h0 : M'.1 69 33 = M.1 69 33) (hd : tcI M) : tcI M' := by
  unfold tcI
  rw [h, h0]
  exact hd
/-- memories that differ in what questions change alone -/
def sameQ (M M' : Mm) : Prop := (∀ a, (a < 38 ∨ 40 < a) → a ≠ 69 → a ≠ 78 → a ≠ 79 → a ≠ 81 → (a < 83 ∨ 87 < a) → M'.1 a = M.1 a) ∧ ∀ j, j ≠ 10 → M'.1 69 j = M.1 69 j
theorem sameQ_rf (M : Mm) : sameQ M M := ⟨fun _ _ _ _ _ _ _ => rfl, fun _ _ => rfl⟩
theorem sameQ_t {M M1 M2 : Mm} (h1 : sameQ M M1) (h2 : sameQ M1 M2) : sameQ M M2 := ⟨fun a u x y z w v => (h2.1 a u x y z w v).trans (h1.1 a u x y z w v), fun j hj => (h2.2 j hj).trans (h1.2 j hj)⟩
theorem sameQ_S {M M' : Mm} (h : sameS 37 M M') : sameQ M M' := ⟨fun a u x y z w v => h.2 a (by omega) (by omega) (by omega), fun j _ => by rw [h.2 69 (by decide) (by decide) (by decide)]⟩
theorem sameQ_W {M M' : Mm} (h : sameW M M') : sameQ M M' := ⟨fun a u x y z w v => h.1 a x y z w v, h.2⟩
theorem Inv_Q {n np ns : Nat} {M M' : Mm} (h : sameQ M M') (hr : refI n np M') (hI : Inv n np ns M) : Inv n np ns M' := by
  obtain ⟨a, b, c, d, e, f, g, k⟩ := hI
  refine ⟨coreI_same (fun x hx => h.1 x (by omega) (by omega) (by omega) (by omega) (by omega) (by omega)) (fun x h1 h2 => h.1 x (by omega) (by omega) (by omega) (by omega) (by omega) (by omega)) (h.2 0 (by decide)) (h.2 5 (by decide)) a, hr, drI_same (fun x hx => h.1 x (by omega) (by omega) (by omega) (by omega) (by omega) (by omega)) c, slI_same (fun x hx => h.1 x (by omega) (by omega) (by omega) (by omega) (by omega) (by omega)) (h.2 25 (by decide)) d, rgI_same (fun x hx => h.1 x (by omega) (by omega) (by omega) (by omega) (by omega) (by omega)) (h.2 15 (by decide)) e, odI_same (fun x hx => h.1 x (by omega) (by omega) (by omega) (by omega) (by omega) (by omega)) (h.2 23 (by decide)) f, trI_same (fun x hx => h.1 x (by omega) (by omega) (by omega) (by omega) (by omega) (by omega)) (h.2 31 (by decide)) g, tcI_same (h.1 68 (by omega) (by omega) (by omega) (by omega) (by omega) (by omega)) (h.2 33 (by decide)) k⟩
theorem refI_S {n np : Nat} {M M' : Mm} (h : sameS 37 M M') (hr : refI n np M) : refI n np M' :=
  refI_same (fun a h1 h2 => h.2 a (by omega) (by omega) (by omega)) (h.2 79 (by decide) (by decide) (by decide)) (h.2 81 (by decide) (by decide) (by decide)) (by rw [h.1]) (by rw [h.2 69 (by decide) (by decide) (by decide)]) hr
theorem Inv_S {n np ns : Nat} {M M' : Mm} (h : sameS 37 M M') (hI : Inv n np ns M) : Inv n np ns M' := Inv_Q (sameQ_S h) (refI_S h hI.2.1) hI
/-- a call: class, then reference -/
def CallP (a : Option (Int32 × Mm)) (b : Mm → Option (Int32 × Mm)) : Prop := ∃ r M1 M2, a = some (r, M1) ∧ b M1 = some (r, M2) ∧ InvE M2
def CallQ (a : Option Int32) (b : Option (Int32 × Mm)) : Prop := ∃ r M2, a = some r ∧ b = some (r, M2) ∧ InvE M2
theorem CallP_same {n np ns : Nat} {M : Mm} {a : Option (Int32 × Mm)} {b : Mm → Option (Int32 × Mm)} (r : Int32) (h : Inv n np ns M) (ha : a = some (r, M)) (hb : b M = some (r, M)) : CallP a b := ⟨r, M, M, ha, hb, n, np, ns, h⟩
/-! arguments -/
theorem pred_lt {n : Nat} {x : Int32} (hn : n ≤ 100000) : nI n - 1 < x ↔ nI n ≤ x := by
  have h1 : (nI n - 1).toInt = (n : Int) - 1 := pk_sub_toInt (a := n) (b := 1) (by omega) (by omega)
  have h2 : (nI n).toInt = (n : Int) := nI_toInt (by omega)
  rw [Int32.lt_iff_toInt_lt, Int32.le_iff_toInt_le, h1, h2]
  omega
theorem argQ {n : Nat} (x : Int32) (hn : n ≤ 1000) : (∃ f, f < n ∧ x = nI f ∧ ¬ x < 0 ∧ ¬ nI n ≤ x ∧ ¬ nI n - 1 < x) ∨ x < 0 ∨ (¬ x < 0 ∧ nI n ≤ x ∧ nI n - 1 < x) := by
  by_cases h0 : x < 0
  · exact Or.inr (Or.inl h0)
  · rcases pk_ix x (n := n) (by omega) with h | h | ⟨f, hf, e⟩
    · exact absurd h h0
    · exact Or.inr (Or.inr ⟨h0, h, (pred_lt (by omega)).mpr h⟩)
    · have h1 : ¬ nI n ≤ x := by rw [e]; exact lt_nI hf (by omega)
      exact Or.inl ⟨f, hf, e, h0, h1, fun h => h1 ((pred_lt (by omega)).mp h)⟩
theorem fldQ {n : Nat} (x : Int32) (hn : n ≤ 12) : (∃ f, f < n ∧ x = nI f ∧ (∀ M : Mm, M.1 2 6 = nI n → FX0_has x M = some 1) ∧ ∀ M : Mm, M.1 69 0 = nI n → FX10_noField x M = some 0) ∨ ((∀ M : Mm, M.1 2 6 = nI n → FX0_has x M = some 0) ∧ ∀ M : Mm, M.1 69 0 = nI n → FX10_noField x M = some 1) := by
  rcases argQ (n := n) x (by omega) with ⟨f, hf, e, h1, h2, h3⟩ | h | ⟨h1, h2, h3⟩
  · refine Or.inl ⟨f, hf, e, fun M hM => ?_, fun M hM => ?_⟩
    · unfold FX0_has; rw [hM, if_neg h1, if_neg h2]
    · unfold FX10_noField FX10_in; rw [hM, if_neg h1, if_neg h3]; rfl
  · refine Or.inr ⟨fun M hM => ?_, fun M hM => ?_⟩
    · unfold FX0_has; rw [if_pos h]
    · unfold FX10_noField FX10_in; rw [if_pos h]; rfl
  · refine Or.inr ⟨fun M hM => ?_, fun M hM => ?_⟩
    · unfold FX0_has; rw [hM, if_neg h1, if_pos h2]
    · unfold FX10_noField FX10_in; rw [hM, if_neg h1, if_pos h3]; rfl
theorem prtQ {n : Nat} (x : Int32) (hn : n ≤ 50) : (∃ f, f < n ∧ x = nI f ∧ (∀ M : Mm, M.1 21 5 = nI n → FX3_has x M = some 1) ∧ ∀ M : Mm, M.1 69 5 = nI n → FX10_noPart x M = some 0) ∨ ((∀ M : Mm, M.1 21 5 = nI n → FX3_has x M = some 0) ∧ ∀ M : Mm, M.1 69 5 = nI n → FX10_noPart x M = some 1) := by
  rcases argQ (n := n) x (by omega) with ⟨f, hf, e, h1, h2, h3⟩ | h | ⟨h1, h2, h3⟩
  · refine Or.inl ⟨f, hf, e, fun M hM => ?_, fun M hM => ?_⟩
    · unfold FX3_has; rw [hM, if_neg h1, if_neg h2]
    · unfold FX10_noPart FX10_in; rw [hM, if_neg h1, if_neg h3]; rfl
  · refine Or.inr ⟨fun M hM => ?_, fun M hM => ?_⟩
    · unfold FX3_has; rw [if_pos h]
    · unfold FX10_noPart FX10_in; rw [if_pos h]; rfl
  · refine Or.inr ⟨fun M hM => ?_, fun M hM => ?_⟩
    · unfold FX3_has; rw [hM, if_neg h1, if_pos h2]
    · unfold FX10_noPart FX10_in; rw [hM, if_neg h1, if_pos h3]; rfl
theorem selQ {n : Nat} (x : Int32) (hn : n ≤ 6) : (∃ f, f < n ∧ x = nI f ∧ (∀ M : Mm, M.1 43 5 = nI n → FX5_has x M = some 1) ∧ ∀ M : Mm, M.1 69 25 = nI n → FX10_noSeal x M = some 0) ∨ ((∀ M : Mm, M.1 43 5 = nI n → FX5_has x M = some 0) ∧ ∀ M : Mm, M.1 69 25 = nI n → FX10_noSeal x M = some 1) := by
  rcases argQ (n := n) x (by omega) with ⟨f, hf, e, h1, h2, h3⟩ | h | ⟨h1, h2, h3⟩
  · refine Or.inl ⟨f, hf, e, fun M hM => ?_, fun M hM => ?_⟩
    · unfold FX5_has; rw [hM, if_neg h1, if_neg h2]
    · unfold FX10_noSeal FX10_in; rw [hM, if_neg h1, if_neg h3]; rfl
  · refine Or.inr ⟨fun M hM => ?_, fun M hM => ?_⟩
    · unfold FX5_has; rw [if_pos h]
    · unfold FX10_noSeal FX10_in; rw [if_pos h]; rfl
  · refine Or.inr ⟨fun M hM => ?_, fun M hM => ?_⟩
    · unfold FX5_has; rw [hM, if_neg h1, if_pos h2]
    · unfold FX10_noSeal FX10_in; rw [hM, if_neg h1, if_pos h3]; rfl
theorem drfQ (x : Int32) : (∃ f, f < 4 ∧ x = nI f ∧ (∀ M : Mm, FX9_hasDraft x M = some 1) ∧ ∀ M : Mm, FX10_noDraft x M = some 0) ∨ ((∀ M : Mm, FX9_hasDraft x M = some 0) ∧ ∀ M : Mm, FX10_noDraft x M = some 1) := by
  have e4 : nI 4 = 4 := rfl
  have e3 : nI 4 - 1 = 3 := by decide
  rcases argQ (n := 4) x (by omega) with ⟨f, hf, e, h1, h2, h3⟩ | h | ⟨h1, h2, h3⟩
  · rw [e4] at h2
    rw [e3] at h3
    refine Or.inl ⟨f, hf, e, fun M => ?_, fun M => ?_⟩
    · unfold FX9_hasDraft; rw [if_neg h1, if_neg h2]
    · unfold FX10_noDraft FX10_in; rw [if_neg h1, if_neg h3]; rfl
  · refine Or.inr ⟨fun M => ?_, fun M => ?_⟩
    · unfold FX9_hasDraft; rw [if_pos h]
    · unfold FX10_noDraft FX10_in; rw [if_pos h]; rfl
  · rw [e4] at h2
    rw [e3] at h3
    refine Or.inr ⟨fun M => ?_, fun M => ?_⟩
    · unfold FX9_hasDraft; rw [if_neg h1, if_pos h2]
    · unfold FX10_noDraft FX10_in; rw [if_neg h1, if_pos h3]; rfl
theorem plcQ {n : Nat} (x y : Int32) (hn : n ≤ 12) : (∃ d f, d < 4 ∧ f < n ∧ x = nI d ∧ y = nI f ∧ (∀ M : Mm, M.1 2 6 = nI n → FX9_hasPlace x y M = some 1) ∧ (∀ M : Mm, FX10_noDraft x M = some 0) ∧ ∀ M : Mm, M.1 69 0 = nI n → FX10_noField y M = some 0) ∨ ((∀ M : Mm, M.1 2 6 = nI n → FX9_hasPlace x y M = some 0) ∧ ((∀ M : Mm, FX10_noDraft x M = some 1) ∨ ((∀ M : Mm, FX10_noDraft x M = some 0) ∧ ∀ M : Mm, M.1 69 0 = nI n → FX10_noField y M = some 1))) := by
  unfold FX9_hasPlace
  rcases drfQ x with ⟨d, hd, e, a1, a2⟩ | ⟨a1, a2⟩
  · rcases fldQ (n := n) y hn with ⟨f, hf, e2, b1, b2⟩ | ⟨b1, b2⟩
    · refine Or.inl ⟨d, f, hd, hf, e, e2, fun M hM => ?_, a2, b2⟩
      rw [a1, Option.bind_some, if_neg (by decide), b1 M hM, Option.bind_some, if_neg (by decide)]
    · refine Or.inr ⟨fun M hM => ?_, Or.inr ⟨a2, b2⟩⟩
      rw [a1, Option.bind_some, if_neg (by decide), b1 M hM, Option.bind_some, if_pos rfl]
  · refine Or.inr ⟨fun M hM => ?_, Or.inl a2⟩
    rw [a1, Option.bind_some, if_pos rfl]
