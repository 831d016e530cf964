/-! ===== the class's Sight: one step, look ===== -/
theorem rd4_0 {M : Mm} {k : Nat} : rdI M k 4 0 = some (M.1 k 0) := rdI_nI (i := 0) (n := 4) (by decide) (by decide)
theorem rd4_1 {M : Mm} {k : Nat} : rdI M k 4 1 = some (M.1 k 1) := rdI_nI (i := 1) (n := 4) (by decide) (by decide)
theorem rd4_2 {M : Mm} {k : Nat} : rdI M k 4 2 = some (M.1 k 2) := rdI_nI (i := 2) (n := 4) (by decide) (by decide)
theorem rd4_3 {M : Mm} {k : Nat} : rdI M k 4 3 = some (M.1 k 3) := rdI_nI (i := 3) (n := 4) (by decide) (by decide)
def shV (r0 : Int32) (val : Nat → Int32) : Int32 := if r0 = (-9) then 1 else if val r0.toNatClampNeg = LO ∨ val r0.toNatClampNeg = 0 then 0 else 1
def owV (md r3 row : Int32) (val : Nat → Int32) : Int32 := if md = 0 then row else if r3 = (-9) then LO else val r3.toNatClampNeg
def cnV (lo hi sh ow : Int32) : Int32 := if sh = 0 then LO else if ow < lo ∨ hi < ow then LO else ow
theorem isYes_run (v : Int32) (M : Mm) : FX9_isYes v M = some (if v = LO ∨ v = 0 then 0 else 1) := by
  unfold FX9_isYes
  rw [show (-2000000000 : Int32) = LO from rfl]
  by_cases h1 : v = LO
  · simp [h1]
  · by_cases h2 : v = 0
    · subst h2; simp
    · simp [h1, h2]
theorem valueOf_run {s np : Nat} {v : Int32} {M : Mm} (hnp : np ≤ 50) (h : rlok np v) : FX6_valueOf s v M = some (if v = (-9) then LO else M.1 (s + 1) v.toNatClampNeg) := by
  unfold FX6_valueOf
  rw [show (-2000000000 : Int32) = LO from rfl]
  rcases rl_neg hnp h with ⟨_, e⟩ | ⟨_, e, p, hp, e2⟩
  · rw [if_pos e, if_pos e]
  · rw [if_neg e, if_neg e, e2, rdI_nI (by omega) (by decide), cl_nI (by omega)]; rfl
theorem inSpan_run {f : Nat} {v : Int32} {M : Mm} (hf : f < 12) : FX0_inSpan (nI f) v M = some (if v < M.1 3 f ∨ M.1 4 f < v then 0 else 1) := by
  unfold FX0_inSpan
  simp (disch := omega) only [rdI_nI, Option.bind_some]
  by_cases h1 : v < M.1 3 f
  · simp [h1]
  · by_cases h2 : M.1 4 f < v
    · simp [h1, h2]
    · simp [h1, h2]
theorem shV_01 (r0 : Int32) (val : Nat → Int32) : shV r0 val = 0 ∨ shV r0 val = 1 := by
  unfold shV
  split
  · exact Or.inr rfl
  · split
    · exact Or.inl rfl
    · exact Or.inr rfl
theorem takeField_run {s k n np f : Nat} {M : Mm} (hs : s = 37 ∨ s = 64) (hk : (33 ≤ k ∧ k ≤ 36) ∨ k = 62) (hn : n ≤ 12) (hnp : np ≤ 50) (hf : f < n) (h0 : rlok np (M.1 (7 + f) 0)) (h3 : rlok np (M.1 (7 + f) 3)) : FX6_takeField s k (nI f) M = some (up1 (up1 M (s + 2) f (shV (M.1 (7 + f) 0) (M.1 (s + 1)))) (s + 3) f (cnV (M.1 3 f) (M.1 4 f) (shV (M.1 (7 + f) 0) (M.1 (s + 1))) (owV (M.1 5 f) (M.1 (7 + f) 3) (M.1 k f) (M.1 (s + 1))))) := by
  have g68 : ∀ (o v : Int32) (Q : Mm), Q.1 (s + 2) f = v → Q.1 3 = M.1 3 → Q.1 4 = M.1 4 → BX6_takeField_68 s k (nI f) o Q = some (up1 Q (s + 3) f (cnV (M.1 3 f) (M.1 4 f) v o)) := by
    intro o v Q hv q3 q4
    unfold BX6_takeField_68 cnV
    rw [show (-2000000000 : Int32) = LO from rfl]
    simp (disch := omega) only [rdI_nI, wrI_nI, Option.bind_some, inSpan_run, hv, q3, q4]
    by_cases e : v = 0
    · simp [e]
    · by_cases e2 : o < M.1 3 f ∨ M.1 4 f < o
      · simp [e, e2]
      · simp [e, e2]
  have g40 : ∀ v : Int32, v = 0 ∨ v = 1 → BX6_takeField_40 s k (nI f) (nI f) v M = some (up1 (up1 M (s + 2) f v) (s + 3) f (cnV (M.1 3 f) (M.1 4 f) v (owV (M.1 5 f) (M.1 (7 + f) 3) (M.1 k f) (M.1 (s + 1))))) := by
    intro v hv
    unfold BX6_takeField_40 owV
    rw [wrZ_nI (by omega) (by decide) hv, Option.bind_some]
    have e5 : (up1 M (s + 2) f v).1 5 = M.1 5 := up1_ne (by omega)
    have ek : (up1 M (s + 2) f v).1 k = M.1 k := up1_ne (by omega)
    have e7 : (up1 M (s + 2) f v).1 (7 + f) = M.1 (7 + f) := up1_ne (by omega)
    have e1 : (up1 M (s + 2) f v).1 (s + 1) = M.1 (s + 1) := up1_ne (by omega)
    have e3 : (up1 M (s + 2) f v).1 3 = M.1 3 := up1_ne (by omega)
    have e4 : (up1 M (s + 2) f v).1 4 = M.1 4 := up1_ne (by omega)
    have es : (up1 M (s + 2) f v).1 (s + 2) f = v := by rw [up1_same, if_pos rfl]
    simp (disch := omega) only [rdI_nI, ckR_nI, Option.bind_some, e5, ek]
    by_cases e : M.1 5 f = 0
    · rw [if_pos e, if_pos e]
      exact g68 _ v _ es e3 e4
    · rw [if_neg e, if_neg e, rd4_3, Option.bind_some, e7, valueOf_run hnp h3, Option.bind_some, e1]
      exact g68 _ v _ es e3 e4
  unfold FX6_takeField BX6_takeField_35
  simp (disch := omega) only [ckR_nI, Option.bind_some]
  rw [rd4_0, Option.bind_some]
  rcases rl_neg hnp h0 with ⟨_, e⟩ | ⟨_, e, p, hp, e2⟩
  · rw [if_pos e, g40 1 (Or.inr rfl)]
    have : shV (M.1 (7 + f) 0) (M.1 (s + 1)) = 1 := by unfold shV; rw [if_pos e]
    rw [this]
  · rw [if_neg e, e2, rdI_nI (by omega) (by decide), Option.bind_some, isYes_run, Option.bind_some]
    have hsh : shV (nI p) (M.1 (s + 1)) = if M.1 (s + 1) p = LO ∨ M.1 (s + 1) p = 0 then 0 else 1 := by
      unfold shV
      rw [if_neg (by rw [← e2]; exact e), cl_nI (by omega)]
    rw [hsh]
    by_cases h : M.1 (s + 1) p = LO ∨ M.1 (s + 1) p = 0
    · rw [if_pos h, if_pos rfl, g40 0 (Or.inl rfl)]
    · rw [if_neg h, if_neg (by decide), g40 1 (Or.inr rfl)]
/-- the equations: of part p, of field f, in the class's cells, for the row in cell k -/
def eqP (s : Nat) (M : Mm) (p : Nat) : Prop := M.1 (s + 1) p = evP (M.1 22) (M.1 23) (M.1 24) (M.1 25) (M.1 (s + 1)) (M.1 (s + 3)) p
def eqF (s k : Nat) (M : Mm) (f : Nat) : Prop := M.1 (s + 2) f = shV (M.1 (7 + f) 0) (M.1 (s + 1)) ∧ M.1 (s + 3) f = cnV (M.1 3 f) (M.1 4 f) (M.1 (s + 2) f) (owV (M.1 5 f) (M.1 (7 + f) 3) (M.1 k f) (M.1 (s + 1)))
/-- the net, as the class holds it -/
def netC (n np : Nat) (M : Mm) : Prop := n ≤ 12 ∧ np ≤ 50 ∧ M.1 2 6 = nI n ∧ M.1 21 5 = nI np ∧ (∀ p, p < np → pok n p (M.1 22 p) (M.1 23 p) (M.1 24 p) (M.1 25 p)) ∧ (∀ f, f < n → ∀ j, j < 4 → rlok np (M.1 (7 + f) j)) ∧ ∀ f, f < n → M.1 5 f = 0 ∨ M.1 5 f = 1
/-- one step is ahead of another that works with it -/
def dep (np : Nat) (M : Mm) (x y : Int32) : Prop := (∃ p o, p < np ∧ x = nI p ∧ y = nI o ∧ opA (M.1 22) (M.1 23) (M.1 24) (M.1 25) p o) ∨ (∃ p g, p < np ∧ g < 12 ∧ x = nI p ∧ y = nI (50 + g) ∧ opF (M.1 22 p) = true ∧ M.1 23 p = nI g) ∨ (∃ f p, f < 12 ∧ p < np ∧ x = nI (50 + f) ∧ y = nI p ∧ (M.1 (7 + f) 0 = nI p ∨ M.1 (7 + f) 3 = nI p))
/-- the steps: all parts and fields, each once, what one works with ahead of it -/
def stepsOK (n np c : Nat) (M : Mm) : Prop := c ≤ 62 ∧ M.1 1 5 = nI c ∧ (∀ i, i < c → (∃ p, p < np ∧ M.1 27 i = nI p) ∨ ∃ f, f < n ∧ M.1 27 i = nI (50 + f)) ∧ (∀ p, p < np → ∃ i, i < c ∧ M.1 27 i = nI p) ∧ (∀ f, f < n → ∃ i, i < c ∧ M.1 27 i = nI (50 + f)) ∧ (∀ i j, i < c → j < c → M.1 27 i = M.1 27 j → i = j) ∧ ∀ i, i < c → ∀ y, dep np M (M.1 27 i) y → ∃ j, j < i ∧ M.1 27 j = y
/-- memories that differ in a sight's cells alone -/
def sameS (s : Nat) (M M' : Mm) : Prop := M'.2 = M.2 ∧ ∀ a, a ≠ s + 1 → a ≠ s + 2 → a ≠ s + 3 → M'.1 a = M.1 a
theorem sameS_rf (s : Nat) (M : Mm) : sameS s M M := ⟨rfl, fun _ _ _ _ => rfl⟩
theorem sameS_t {s : Nat} {M M1 M2 : Mm} (h1 : sameS s M M1) (h2 : sameS s M1 M2) : sameS s M M2 := ⟨h2.1.trans h1.1, fun a x y z => (h2.2 a x y z).trans (h1.2 a x y z)⟩
/-- the equation of a step -/
def eqS (s k np n : Nat) (M : Mm) (x : Int32) : Prop := (∀ p, p < np → x = nI p → eqP s M p) ∧ ∀ f, f < n → x = nI (50 + f) → eqF s k M f
