/-! ===== which fields a part, a field's rules are of; the reference's fieldsOf, needsOf ===== -/
/-- part k is p, or one that p is of, or of those .. -/
def RS (pk pa pb pc : Nat → Int32) (p k : Nat) : Prop := ∀ C : Nat → Prop, C p → (∀ a b, a ≤ p → C a → opA pk pa pb pc a b → C b) → C k
theorem RS_rf {pk pa pb pc : Nat → Int32} {p : Nat} : RS pk pa pb pc p p := fun _ h _ => h
theorem RS_le {pk pa pb pc : Nat → Int32} {p k : Nat} (h : RS pk pa pb pc p k) : k ≤ p := h (fun x => x ≤ p) (Nat.le_refl p) (fun a b ha _ hop => by have := hop.1; omega)
theorem RS_step {pk pa pb pc : Nat → Int32} {p k : Nat} : RS pk pa pb pc p k ↔ k = p ∨ ∃ o, opA pk pa pb pc p o ∧ RS pk pa pb pc o k := by
  constructor
  · intro h
    refine h (fun x => x = p ∨ ∃ o, opA pk pa pb pc p o ∧ RS pk pa pb pc o x) (Or.inl rfl) (fun a b ha hC hop => ?_)
    rcases hC with e | ⟨o, h1, h2⟩
    · subst e
      exact Or.inr ⟨b, hop, RS_rf⟩
    · exact Or.inr ⟨o, h1, fun C hC hcl => hcl a b (RS_le h2) (h2 C hC hcl) hop⟩
  · rintro (e | ⟨o, h1, h2⟩)
    · subst e; exact RS_rf
    · intro C hC hcl
      have := h1.1
      exact h2 C (hcl p o (Nat.le_refl p) hC h1) (fun a b ha => hcl a b (by omega))
theorem opA_congr {pk pa pb pc pk' pa' pb' pc' : Nat → Int32} {a b : Nat} (h : pk' a = pk a ∧ pa' a = pa a ∧ pb' a = pb a ∧ pc' a = pc a) (ho : opA pk pa pb pc a b) : opA pk' pa' pb' pc' a b := by
  unfold opA at *
  rw [h.1, h.2.1, h.2.2.1, h.2.2.2]
  exact ho
theorem RS_congr {pk pa pb pc pk' pa' pb' pc' : Nat → Int32} {p k : Nat} (h : ∀ a, a ≤ p → pk' a = pk a ∧ pa' a = pa a ∧ pb' a = pb a ∧ pc' a = pc a) (hr : RS pk pa pb pc p k) : RS pk' pa' pb' pc' p k :=
  fun C hC hcl => hr C hC (fun a b ha hCa hop => hcl a b ha hCa (opA_congr (h a ha) hop))
/-- part p is of the answer of field g -/
def AO (pk pa pb pc : Nat → Int32) (p g : Nat) : Prop := ∃ k, RS pk pa pb pc p k ∧ opF (pk k) = true ∧ pa k = nI g
theorem AO_step {pk pa pb pc : Nat → Int32} {p g : Nat} : AO pk pa pb pc p g ↔ (opF (pk p) = true ∧ pa p = nI g) ∨ ∃ o, opA pk pa pb pc p o ∧ AO pk pa pb pc o g := by
  constructor
  · rintro ⟨k, h1, h2, h3⟩
    rcases RS_step.mp h1 with e | ⟨o, h4, h5⟩
    · subst e; exact Or.inl ⟨h2, h3⟩
    · exact Or.inr ⟨o, h4, k, h5, h2, h3⟩
  · rintro (⟨h1, h2⟩ | ⟨o, h1, k, h2, h3, h4⟩)
    · exact ⟨p, RS_rf, h1, h2⟩
    · exact ⟨k, RS_step.mpr (Or.inr ⟨o, h1, h2⟩), h3, h4⟩
theorem AO_congr {pk pa pb pc pk' pa' pb' pc' : Nat → Int32} {p g : Nat} (h : ∀ a, a ≤ p → pk' a = pk a ∧ pa' a = pa a ∧ pb' a = pb a ∧ pc' a = pc a) (hr : AO pk pa pb pc p g) : AO pk' pa' pb' pc' p g := by
  obtain ⟨k, h1, h2, h3⟩ := hr
  have hk := h k (RS_le h1)
  exact ⟨k, RS_congr h h1, by rw [hk.1]; exact h2, by rw [hk.2.1]; exact h3⟩
theorem Rch_iff {np p : Nat} {pk pa pb pc : Nat → Int32} {S : Int64} (hp : p < np) (h : Rch np pk pa pb pc p S) {k : Nat} : bl S k = true ↔ RS pk pa pb pc p k := by
  obtain ⟨h1, h2, h3, h4⟩ := h
  constructor
  · intro hb C hC hcl
    exact h3 C hC hcl k hb
  · intro hR
    exact hR (fun x => bl S x = true) h1 (fun a b ha hb hop => h2 a b (by omega) (by have := hop.1; omega) hb hop)
/-- fieldsOf: the fields whose answers the parts of a set are of -/
theorem fieldsOf_run {N np : Nat} {M : Mm} {S : Int64} (hN : 60 < N) (hnp : np ≤ 50) (hc : M.1 69 5 = nI np) (hf : ∀ k, k < np → opF (M.1 74 k) = true → ∃ g, g < 12 ∧ M.1 75 k = nI g) : ∃ m, FX10_fieldsOf N S M = some m ∧ ∀ g, bt m g = true ↔ g < 12 ∧ ∃ k, k < np ∧ bl S k = true ∧ opF (M.1 74 k) = true ∧ M.1 75 k = nI g := by
  unfold FX10_fieldsOf
  refine lp_up (fun i (q : Int64 × Int32 × Int32) => q.1 = S ∧ q.2.2 = nI i ∧ ∀ g, bt q.2.1 g = true ↔ g < 12 ∧ ∃ k, k < i ∧ bl S k = true ∧ opF (M.1 74 k) = true ∧ M.1 75 k = nI g) (fun o => ∃ m, o = some m ∧ ∀ g, bt m g = true ↔ g < 12 ∧ ∃ k, k < np ∧ bl S k = true ∧ opF (M.1 74 k) = true ∧ M.1 75 k = nI g) np N _ ⟨rfl, rfl, fun g => ⟨fun h => absurd h (by rw [b_0]; decide), fun ⟨_, k, hk, _⟩ => absurd hk (Nat.not_lt_zero _)⟩⟩ (by omega) ?_ ?_
  · rintro i ⟨S', m, x⟩ K hi ⟨h0, h1, h2⟩
    dsimp only at h0 h1 h2
    subst h0
    subst h1
    left
    rw [eBX10_fieldsOf_5]
    dsimp only
    rw [hc, if_neg (lt_nI hi (by omega))]
    have skip : ¬ (bl S' i = true ∧ opF (M.1 74 i) = true) → ∀ g, (bt m g = true ↔ g < 12 ∧ ∃ k, k < i + 1 ∧ bl S' k = true ∧ opF (M.1 74 k) = true ∧ M.1 75 k = nI g) := fun hs g => by
      rw [h2 g]
      refine and_congr Iff.rfl ⟨fun ⟨k, hk, h⟩ => ⟨k, by omega, h⟩, fun ⟨k, hk, h⟩ => ?_⟩
      by_cases e : k = i
      · subst e; exact absurd ⟨h.1, h.2.1⟩ hs
      · exact ⟨k, by omega, h⟩
    have or0 : ∀ y : Int32, y ||| 0 = y := fun y => b_ext (fun j _ => by rw [b_or, b_0, Bool.or_false])
    by_cases hb : bl S' i = true
    · rw [if_pos ((l_tst S' (by omega)).mpr hb)]
      simp (disch := omega) only [rdI_nI, Option.bind_some, isOfField_run]
      cases hF : opF (M.1 74 i) with
      | false =>
        refine ⟨(S', m, nI (i + 1)), ⟨rfl, rfl, skip (fun h => by rw [hF] at h; cases h.2)⟩, ?_⟩
        simp only [or0, nI_1]
        rw [if_pos (by rfl)]
      | true =>
        obtain ⟨g0, hg0, he⟩ := hf i hi hF
        refine ⟨(S', m ||| ((1 : Int32) <<< (nI g0 &&& 31)), nI (i + 1)), ⟨rfl, rfl, fun g => ?_⟩, ?_⟩
        · dsimp only
          rw [b_or, Bool.or_eq_true, h2 g]
          constructor
          · rintro (⟨hg, k, hk, h⟩ | h)
            · exact ⟨hg, k, by omega, h⟩
            · rcases Nat.lt_or_ge g 32 with q | q
              · rw [b_one (by omega) q] at h
                simp at h
                exact ⟨by omega, i, by omega, hb, hF, by rw [h]; exact he⟩
              · rw [b_big q] at h; cases h
          · rintro ⟨hg, k, hk, h⟩
            by_cases e : k = i
            · subst e
              right
              rw [b_one (by omega) (by omega)]
              simp
              exact nI_inj (by omega) (by omega) (h.2.2.symm.trans he)
            · exact Or.inl ⟨hg, k, by omega, h⟩
        · rw [if_neg (by decide), he, nI_1]
    · rw [if_neg (fun h => hb ((l_tst S' (by omega)).mp h))]
      refine ⟨(S', m, nI (i + 1)), ⟨rfl, rfl, skip (fun h => hb h.1)⟩, ?_⟩
      simp only [or0, nI_1]
  · rintro ⟨S', m, x⟩ K ⟨h0, h1, h2⟩
    dsimp only at h0 h1 h2
    subst h0
    subst h1
    rw [eBX10_fieldsOf_5]
    dsimp only
    rw [hc, if_pos (le_nI np (by omega))]
    exact ⟨m, rfl, h2⟩
/-- a rule: a part, or none -/
def rlok (np : Nat) (v : Int32) : Prop := v = (-9) ∨ ∃ p, p < np ∧ v = nI p
theorem rl_neg {np : Nat} {v : Int32} (hnp : np ≤ 50) (h : rlok np v) : (v < 0 ∧ v = (-9)) ∨ (¬ v < 0 ∧ ¬ v = (-9) ∧ ∃ p, p < np ∧ v = nI p) := by
  rcases h with e | ⟨p, hp, e⟩
  · subst e; exact Or.inl ⟨by decide, rfl⟩
  · subst e
    refine Or.inr ⟨nI_pos (by omega), ?_, p, hp, rfl⟩
    intro h
    have h1 := nI_pos (n := p) (by omega)
    rw [h] at h1
    exact h1 (by decide)
theorem ix4 (f r : Nat) : (4 : Int32) * nI f + nI r = nI (4 * f + r) := by
  rw [show (4 : Int32) = nI 4 from rfl, pk_mul, nI_add]
/-- the parts that a rule is of -/
def RLp (np : Nat) (pk pa pb pc : Nat → Int32) (v : Int32) (k : Nat) : Prop := ∃ p, p < np ∧ v = nI p ∧ RS pk pa pb pc p k
theorem RLp_none {np : Nat} {pk pa pb pc : Nat → Int32} {k : Nat} (hnp : np ≤ 50) : ¬ RLp np pk pa pb pc (-9) k := fun ⟨p, hp, h, _⟩ => by
  have h1 := nI_pos (n := p) (by omega)
  rw [← h] at h1
  exact h1 (by decide)
theorem RLp_some {np p : Nat} {pk pa pb pc : Nat → Int32} {k : Nat} (hnp : np ≤ 50) (hp : p < np) : RLp np pk pa pb pc (nI p) k ↔ RS pk pa pb pc p k :=
  ⟨fun ⟨q, hq, h, hr⟩ => by rw [nI_inj (by omega) (by omega) h]; exact hr, fun h => ⟨p, hp, rfl, h⟩⟩
theorem needsOf_run {N np f : Nat} {M : Mm} (hN : 60 < N) (hnp : np ≤ 50) (hf : f < 12) (hok : ops_ok np (M.1 74) (M.1 75) (M.1 76) (M.1 77)) (h0 : rlok np (M.1 73 (4 * f))) (h3 : rlok np (M.1 73 (4 * f + 3))) : ∃ S, FX10_needsOf N (nI f) M = some S ∧ ∀ k, bl S k = true ↔ RLp np (M.1 74) (M.1 75) (M.1 76) (M.1 77) (M.1 73 (4 * f)) k ∨ RLp np (M.1 74) (M.1 75) (M.1 76) (M.1 77) (M.1 73 (4 * f + 3)) k := by
  unfold FX10_needsOf
  rw [show (4 : Int32) * nI f + 0 = nI (4 * f) from ix4 f 0, show (4 : Int32) * nI f + 3 = nI (4 * f + 3) from ix4 f 3, rdI_nI (by omega) (by decide), Option.bind_some, rdI_nI (by omega) (by decide), Option.bind_some]
  have mk : ∀ (T : Int64) (A : Nat → Prop), (∀ k, bl T k = true ↔ A k) → ∃ S, BX10_needsOf_35 N (M.1 73 (4 * f + 3)) T M = some S ∧ ∀ k, bl S k = true ↔ A k ∨ RLp np (M.1 74) (M.1 75) (M.1 76) (M.1 77) (M.1 73 (4 * f + 3)) k := by
    intro T A hT
    unfold BX10_needsOf_35
    rcases rl_neg hnp h3 with ⟨h, e⟩ | ⟨h, _, p, hp, e⟩
    · rw [if_pos h]
      refine ⟨_, rfl, fun k => ?_⟩
      rw [l_or, l_0, Bool.or_false, hT k, e]
      exact ⟨Or.inl, fun h => h.elim id (fun h => absurd h (RLp_none hnp))⟩
    · rw [if_neg h, e]
      obtain ⟨S3, hr, hR⟩ := reached_run (N := N) (M := M) hN hnp hp hok
      rw [hr, Option.bind_some]
      refine ⟨_, rfl, fun k => ?_⟩
      rw [l_or, Bool.or_eq_true, hT k, Rch_iff hp hR, RLp_some hnp hp]
  rcases rl_neg hnp h0 with ⟨h, e⟩ | ⟨h, _, p, hp, e⟩
  · rw [if_pos h, e]
    refine mk 0 (fun k => RLp np (M.1 74) (M.1 75) (M.1 76) (M.1 77) (-9) k) (fun k => ?_)
    rw [l_0]
    exact ⟨(fun h => by cases h), fun h => absurd h (RLp_none hnp)⟩
  · rw [if_neg h, e]
    obtain ⟨S3, hr, hR⟩ := reached_run (N := N) (M := M) hN hnp hp hok
    rw [hr, Option.bind_some]
    exact mk S3 _ (fun k => by rw [Rch_iff hp hR, RLp_some hnp hp])
