/-! ===== the reference's sets of parts (longs), reached, fieldsOf ===== -/
def bl (x : Int64) (i : Nat) : Bool := x.toBitVec.getLsbD i
theorem l_ext {x y : Int64} (h : ∀ i, i < 64 → bl x i = bl y i) : x = y := Int64.toBitVec_inj.mp (BitVec.eq_of_getLsbD_eq (fun i hi => h i hi))
theorem l_or (x y : Int64) (i : Nat) : bl (x ||| y) i = (bl x i || bl y i) := by unfold bl; rw [Int64.toBitVec_or, BitVec.getLsbD_or]
theorem l_and (x y : Int64) (i : Nat) : bl (x &&& y) i = (bl x i && bl y i) := by unfold bl; rw [Int64.toBitVec_and, BitVec.getLsbD_and]
theorem l_big {x : Int64} {i : Nat} (h : 64 ≤ i) : bl x i = false := BitVec.getLsbD_of_ge _ _ h
theorem l_0 (i : Nat) : bl 0 i = false := BitVec.getLsbD_zero
theorem l_1 (i : Nat) : bl 1 i = decide (i = 0) := by
  rcases Nat.lt_or_ge i 64 with h | h
  · exact (by decide +kernel : ∀ i, i < 64 → bl 1 i = decide (i = 0)) i h
  · rw [l_big h, decide_eq_false (by omega)]
theorem l_m1 : ∀ i, i < 64 → bl (-1) i = true := by decide +kernel
theorem s_ll : ∀ n, n < 64 → (((nI n).toInt64 &&& 63).toBitVec.smod 64).toNat = n := by decide +kernel
theorem l_shl (n : Nat) (hn : n < 64) (x : Int64) {i : Nat} (hi : i < 64) : bl (x <<< ((nI n).toInt64 &&& 63)) i = (decide (n ≤ i) && bl x (i - n)) := by
  unfold bl
  rw [Int64.toBitVec_shiftLeft]
  show (x.toBitVec <<< (((nI n).toInt64 &&& 63).toBitVec.smod 64).toNat).getLsbD i = _
  rw [s_ll n hn, BitVec.getLsbD_shiftLeft]
  rcases Nat.lt_or_ge i n with h | h
  · simp [h, Nat.not_le.mpr h]
  · simp [hi, h, Nat.not_lt.mpr h]
theorem l_sshr (n : Nat) (hn : n < 64) (x : Int64) {i : Nat} (hi : i < 64) : bl (x >>> ((nI n).toInt64 &&& 63)) i = if n + i < 64 then bl x (n + i) else bl x 63 := by
  unfold bl
  rw [Int64.toBitVec_shiftRight]
  show (x.toBitVec.sshiftRight (((nI n).toInt64 &&& 63).toBitVec.smod 64).toNat).getLsbD i = _
  rw [s_ll n hn, BitVec.getLsbD_sshiftRight, BitVec.msb_eq_getLsbD_last]
  simp [hi]
theorem l_one {f j : Nat} (hf : f < 64) (hj : j < 64) : bl ((1 : Int64) <<< ((nI f).toInt64 &&& 63)) j = decide (j = f) := by
  rw [l_shl f hf 1 hj, l_1]
  by_cases h : j = f
  · subst h; simp
  · by_cases h2 : f ≤ j
    · simp [h, h2]; omega
    · simp [h, h2]
theorem l_get (m : Int64) {i : Nat} (hi : i < 64) : (m >>> ((nI i).toInt64 &&& 63)) &&& 1 = if bl m i then 1 else 0 := by
  have h0 : bl (m >>> ((nI i).toInt64 &&& 63)) 0 = bl m i := by rw [l_sshr i hi m (by omega), Nat.add_zero, if_pos hi]
  apply l_ext
  intro j hj
  rw [l_and, l_1]
  by_cases hz : j = 0
  · subst hz
    rw [h0]
    cases bl m i
    · rw [if_neg (by decide), l_0]; rfl
    · rw [if_pos rfl, l_1]; rfl
  · rw [decide_eq_false hz, Bool.and_false]
    cases bl m i
    · rw [if_neg (by decide), l_0]
    · rw [if_pos rfl, l_1, decide_eq_false hz]
theorem l_tst (m : Int64) {i : Nat} (hi : i < 64) : (lg_cmp ((m >>> ((nI i).toInt64 &&& 63)) &&& 1) 1 = 0) ↔ bl m i = true := by
  rw [l_get m hi]
  cases bl m i
  · decide
  · decide
/-- how many parts, whether a field, a part of a kind is of -/
def opN (k : Int32) : Nat := if k = 11 then 3 else if k < 2 ∨ 8 < k then (if k = 9 then 1 else 0) else 2
def opF (k : Int32) : Bool := decide (k = 1 ∨ k = 10)
theorem partsOf_run (k : Int32) (M : Mm) : FX10_partsOf k M = some (nI (opN k)) := by
  unfold FX10_partsOf FX10_in opN
  by_cases h1 : k = 11
  · rw [if_pos h1, if_pos h1]; rfl
  · rw [if_neg h1, if_neg h1]
    by_cases h2 : k < 2
    · rw [if_pos h2, Option.bind_some, if_pos rfl, if_pos (Or.inl h2)]
      by_cases h3 : k = 9
      · rw [if_pos h3, if_pos h3]; rfl
      · rw [if_neg h3, if_neg h3]; rfl
    · rw [if_neg h2]
      by_cases h4 : 8 < k
      · rw [if_pos h4, Option.bind_some, if_pos rfl, if_pos (Or.inr h4)]
        by_cases h3 : k = 9
        · rw [if_pos h3, if_pos h3]; rfl
        · rw [if_neg h3, if_neg h3]; rfl
      · rw [if_neg h4, Option.bind_some, if_neg (by decide), if_neg (fun h => h.elim h2 h4)]; rfl
theorem isOfField_run (k : Int32) (M : Mm) : FX10_isOfField k M = some (if opF k then 1 else 0) := by
  unfold FX10_isOfField opF
  by_cases h1 : k = 1
  · rw [if_pos h1]; simp [h1]
  · rw [if_neg h1]
    by_cases h2 : k = 10
    · rw [if_pos h2]; simp [h2]
    · rw [if_neg h2]; simp [h1, h2]
/-- part o is one that part p is of: place j of its kind -/
def opA (pk pa pb pc : Nat → Int32) (p o : Nat) : Prop := o < p ∧ ((0 < opN (pk p) ∧ pa p = nI o) ∨ (1 < opN (pk p) ∧ pb p = nI o) ∨ (2 < opN (pk p) ∧ pc p = nI o))
/-- parts are of lesser ones -/
def ops_ok (np : Nat) (pk pa pb pc : Nat → Int32) : Prop := ∀ p, p < np → (0 < opN (pk p) → ∃ o, o < p ∧ pa p = nI o) ∧ (1 < opN (pk p) → ∃ o, o < p ∧ pb p = nI o) ∧ (2 < opN (pk p) → ∃ o, o < p ∧ pc p = nI o)
/-- a set of parts that is reached from p: it has p, with a part those that it is of, and no other -/
def Rch (np : Nat) (pk pa pb pc : Nat → Int32) (p : Nat) (S : Int64) : Prop := bl S p = true ∧ (∀ k o, k < np → o < np → bl S k = true → opA pk pa pb pc k o → bl S o = true) ∧ (∀ C : Nat → Prop, C p → (∀ k o, k ≤ p → C k → opA pk pa pb pc k o → C o) → ∀ k, bl S k = true → C k) ∧ ∀ k, bl S k = true → k ≤ p
theorem nI_inj {a b : Nat} (ha : a < 2147483648) (hb : b < 2147483648) (h : nI a = nI b) : a = b := (nI_eq ha hb).mp h
theorem reached_run {N np p : Nat} {M : Mm} (hN : 60 < N) (hnp : np ≤ 50) (hp : p < np) (hok : ops_ok np (M.1 74) (M.1 75) (M.1 76) (M.1 77)) : ∃ S, FX10_reached N (nI p) M = some S ∧ Rch np (M.1 74) (M.1 75) (M.1 76) (M.1 77) p S := by
  unfold FX10_reached
  -- after i rounds the parts above p - i have given theirs
  refine lp_up (fun i (q : Int64 × Int32) => q.2 = nI (p + 1 - i) - 1 ∧ bl q.1 p = true ∧ (∀ k o, k < np → o < np → p + 1 - i ≤ k → bl q.1 k = true → opA (M.1 74) (M.1 75) (M.1 76) (M.1 77) k o → bl q.1 o = true) ∧ (∀ C : Nat → Prop, C p → (∀ k o, k ≤ p → C k → opA (M.1 74) (M.1 75) (M.1 76) (M.1 77) k o → C o) → ∀ k, bl q.1 k = true → C k) ∧ ∀ k, bl q.1 k = true → k ≤ p) (fun o => ∃ S, o = some S ∧ Rch np (M.1 74) (M.1 75) (M.1 76) (M.1 77) p S) (p + 1) N _ ?_ (by omega) ?_ ?_
  · refine ⟨by rw [Nat.sub_zero]; exact (nI_pred p).symm, ?_, ?_, ?_, ?_⟩
    · rw [l_one (by omega) (by omega)]; simp
    · intro k o hk ho hge hb
      rcases Nat.lt_or_ge k 64 with q | q
      · rw [l_one (by omega) q] at hb
        simp at hb
        omega
      · omega
    · intro C hC _ k hb
      rcases Nat.lt_or_ge k 64 with q | q
      · rw [l_one (by omega) q] at hb
        simp at hb
        rw [hb]; exact hC
      · rw [l_big q] at hb; cases hb
    · intro k hb
      rcases Nat.lt_or_ge k 64 with q | q
      · rw [l_one (by omega) q] at hb
        simp at hb
        omega
      · rw [l_big q] at hb; cases hb
  · rintro i ⟨S, x⟩ K hi ⟨h1, h2, h3, h4, h5⟩
    dsimp only at h1 h2 h3 h4 h5
    obtain ⟨k, hk⟩ : ∃ k, p - i = k := ⟨_, rfl⟩
    have hx : x = nI k := by rw [h1, show p + 1 - i = k + 1 by omega]; exact nI_pred k
    subst hx
    clear h1
    have hkp : k ≤ p := by omega
    have e2 : nI k + (-1) = nI (p + 1 - (i + 1)) - 1 := by
      rw [show p + 1 - (i + 1) = k by omega]; exact (Int32.sub_eq_add_neg _ _).symm
    left
    rw [eBX10_reached_7]
    dsimp only
    rw [if_neg (nI_pos (by omega))]
    by_cases hb : bl S k = true
    · rw [if_pos ((l_tst S (by omega)).mpr hb)]
      obtain ⟨o1, o2, o3⟩ := hok k (by omega)
      -- the set with what part k is of
      have key : ∀ S' : Int64, (∀ j, bl S' j = true ↔ (bl S j = true ∨ opA (M.1 74) (M.1 75) (M.1 76) (M.1 77) k j)) → ∃ a' : Int64 × Int32, ((a'.2 = nI (p + 1 - (i + 1)) - 1 ∧ bl a'.1 p = true ∧ (∀ k o, k < np → o < np → p + 1 - (i + 1) ≤ k → bl a'.1 k = true → opA (M.1 74) (M.1 75) (M.1 76) (M.1 77) k o → bl a'.1 o = true) ∧ (∀ C : Nat → Prop, C p → (∀ k o, k ≤ p → C k → opA (M.1 74) (M.1 75) (M.1 76) (M.1 77) k o → C o) → ∀ k, bl a'.1 k = true → C k) ∧ ∀ k, bl a'.1 k = true → k ≤ p) ∧ K (S', nI k + (-1)) = K a') := by
        intro S' hS
        have hlt : ∀ j, opA (M.1 74) (M.1 75) (M.1 76) (M.1 77) k j → j < k := fun j h => h.1
        refine ⟨(S', nI k + (-1)), ⟨e2, (hS p).mpr (Or.inl h2), ?_, ?_, ?_⟩, rfl⟩
        · intro k2 o hk2 ho hge hb2 hop
          rcases (hS k2).mp hb2 with hb2 | hb2
          · by_cases e : k2 = k
            · subst e
              exact (hS o).mpr (Or.inr hop)
            · exact (hS o).mpr (Or.inl (h3 k2 o hk2 ho (by clear o1 o2 o3; omega) hb2 hop))
          · have := hlt k2 hb2
            clear o1 o2 o3
            omega
        · intro C hC hcl k2 hb2
          rcases (hS k2).mp hb2 with hb2 | hb2
          · exact h4 C hC hcl k2 hb2
          · exact hcl k k2 hkp (h4 C hC hcl k hb) hb2
        · intro k2 hb2
          rcases (hS k2).mp hb2 with hb2 | hb2
          · exact h5 k2 hb2
          · have := hlt k2 hb2
            clear o1 o2 o3
            omega
      have big : ∀ j, 64 ≤ j → bl S j = false := fun j h => l_big h
      have one : ∀ o j, o < 64 → (bl ((1 : Int64) <<< ((nI o).toInt64 &&& 63)) j = true ↔ j = o) := by
        intro o j ho
        rcases Nat.lt_or_ge j 64 with q | q
        · rw [l_one ho q]; simp
        · rw [l_big q]; constructor
          · intro h; cases h
          · intro h; omega
      simp (disch := omega) only [rdI_nI, Option.bind_some, partsOf_run]
      have hN4 : opN (M.1 74 k) = 0 ∨ opN (M.1 74 k) = 1 ∨ opN (M.1 74 k) = 2 ∨ opN (M.1 74 k) = 3 := by
        unfold opN
        split
        · omega
        · split
          · split <;> omega
          · omega
      unfold BX10_reached_54 BX10_reached_76
      rcases hN4 with e | e | e | e
      · rw [e]
        simp (disch := omega) only [show (nI 0 ≤ 0) = True from by decide, show (nI 0 ≤ 1) = True from by decide, show (nI 0 ≤ 2) = True from by decide, if_true]
        refine key _ (fun j => ?_)
        simp only [l_or, l_0, Bool.or_false]
        unfold opA
        rw [e]
        simp
      · rw [e]
        obtain ⟨a, ha, hae⟩ := o1 (by omega)
        simp (disch := omega) only [show (nI 1 ≤ 0) = False from by decide, show (nI 1 ≤ 1) = True from by decide, show (nI 1 ≤ 2) = True from by decide, if_true, if_false, rdI_nI, Option.bind_some, hae]
        refine key _ (fun j => ?_)
        simp only [l_or, l_0, Bool.or_false, Bool.or_eq_true, one a j (by omega)]
        unfold opA
        rw [e, hae]
        simp
        refine ⟨fun h => h.elim Or.inl (fun h => Or.inr ⟨by omega, by rw [h]⟩), fun h => h.elim Or.inl (fun h => Or.inr (nI_inj (by have := h.1; omega) (by omega) h.2.symm))⟩
      · rw [e]
        obtain ⟨a, ha, hae⟩ := o1 (by omega)
        obtain ⟨b, hb', hbe⟩ := o2 (by omega)
        simp (disch := omega) only [show (nI 2 ≤ 0) = False from by decide, show (nI 2 ≤ 1) = False from by decide, show (nI 2 ≤ 2) = True from by decide, if_true, if_false, rdI_nI, Option.bind_some, hae, hbe]
        refine key _ (fun j => ?_)
        simp only [l_or, l_0, Bool.or_false, Bool.or_eq_true, one a j (by omega), one b j (by omega)]
        unfold opA
        rw [e, hae, hbe]
        simp
        refine ⟨fun h => ?_, fun h => ?_⟩
        · rcases h with (h | h) | h
          · exact Or.inl h
          · exact Or.inr ⟨by omega, Or.inl (by rw [h])⟩
          · exact Or.inr ⟨by omega, Or.inr (by rw [h])⟩
        · rcases h with h | ⟨h9, h | h⟩
          · exact Or.inl (Or.inl h)
          · exact Or.inl (Or.inr (nI_inj (by omega) (by omega) h.symm))
          · exact Or.inr (nI_inj (by omega) (by omega) h.symm)
      · rw [e]
        obtain ⟨a, ha, hae⟩ := o1 (by omega)
        obtain ⟨b, hb', hbe⟩ := o2 (by omega)
        obtain ⟨c, hc', hce⟩ := o3 (by omega)
        simp (disch := omega) only [show (nI 3 ≤ 0) = False from by decide, show (nI 3 ≤ 1) = False from by decide, show (nI 3 ≤ 2) = False from by decide, if_false, rdI_nI, Option.bind_some, hae, hbe, hce]
        refine key _ (fun j => ?_)
        simp only [l_or, Bool.or_eq_true, one a j (by omega), one b j (by omega), one c j (by omega)]
        unfold opA
        rw [e, hae, hbe, hce]
        simp
        refine ⟨fun h => ?_, fun h => ?_⟩
        · rcases h with ((h | h) | h) | h
          · exact Or.inl h
          · exact Or.inr ⟨by omega, Or.inl (by rw [h])⟩
          · exact Or.inr ⟨by omega, Or.inr (Or.inl (by rw [h]))⟩
          · exact Or.inr ⟨by omega, Or.inr (Or.inr (by rw [h]))⟩
        · rcases h with h | ⟨h9, h | h | h⟩
          · exact Or.inl (Or.inl (Or.inl h))
          · exact Or.inl (Or.inl (Or.inr (nI_inj (by omega) (by omega) h.symm)))
          · exact Or.inl (Or.inr (nI_inj (by omega) (by omega) h.symm))
          · exact Or.inr (nI_inj (by omega) (by omega) h.symm)
    · rw [if_neg (fun h => hb ((l_tst S (by omega)).mp h))]
      refine ⟨(S, nI k + (-1)), ⟨e2, h2, fun k2 o hk2 ho hge hb2 hop => ?_, h4, h5⟩, rfl⟩
      by_cases e : k2 = k
      · subst e
        exact absurd hb2 hb
      · exact h3 k2 o hk2 ho (by omega) hb2 hop
  · rintro ⟨S, x⟩ K ⟨h1, h2, h3, h4, h5⟩
    dsimp only at h1 h2 h3 h4 h5
    rw [eBX10_reached_7]
    dsimp only
    rw [h1, Nat.sub_self, if_pos (by decide)]
    exact ⟨S, rfl, h2, fun k o hk ho hb hop => h3 k o hk ho (by omega) hb hop, h4, h5⟩
