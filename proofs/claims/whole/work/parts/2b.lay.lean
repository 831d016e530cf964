/-! ===== the reference's workAll and judge come to any solution of the equations ===== -/
/-- values, shown and counted that the equations allow: over the reference's net -/
def solR (n np : Nat) (M : Mm) (row V SH CN : Nat → Int32) : Prop := (∀ p, p < np → V p = evP (M.1 74) (M.1 75) (M.1 76) (M.1 77) V CN p) ∧ ∀ f, f < n → SH f = shV (M.1 73 (4 * f)) V ∧ CN f = cnV (M.1 70 f) (M.1 71 f) (SH f) (owV (M.1 72 f) (M.1 73 (4 * f + 3)) (row f) V)
/-- the net, as the reference holds it -/
def netR (n np : Nat) (M : Mm) : Prop := n ≤ 12 ∧ np ≤ 50 ∧ M.1 69 0 = nI n ∧ M.1 69 5 = nI np ∧ (∀ p, p < np → pok n p (M.1 74 p) (M.1 75 p) (M.1 76 p) (M.1 77 p)) ∧ (∀ f, f < n → ∀ j, j < 4 → rlok np (M.1 73 (4 * f + j))) ∧ (∀ f, f < n → M.1 72 f = 0 ∨ M.1 72 f = 1) ∧ ∀ f, f < n → ¬ M.1 70 f < (-1000)
theorem workAll_sol {N n np : Nat} {M : Mm} {S : Int64} {V CN : Nat → Int32} (hN0 : 60 < N) (hN : netR n np M) (hV : ∀ p, p < np → V p = evP (M.1 74) (M.1 75) (M.1 76) (M.1 77) V CN p) (hcl : ∀ p o, p < np → bl S p = true → opA (M.1 74) (M.1 75) (M.1 76) (M.1 77) p o → bl S o = true) (hg : ∀ p g, p < np → bl S p = true → opF (M.1 74 p) = true → M.1 75 p = nI g → g < n → M.1 86 g = CN g) : ∃ M', FX10_workAll N S M = some M' ∧ sameX 87 M M' ∧ ∀ p, p < np → bl S p = true → M'.1 87 p = V p := by
  obtain ⟨hn, hnp, hc1, hc2, hp, hr, hm, hsp⟩ := hN
  unfold FX10_workAll
  refine lp_up (fun i (q : Int64 × Int32 × Mm) => q.1 = S ∧ q.2.1 = nI i ∧ sameX 87 M q.2.2 ∧ ∀ p, p < i → bl S p = true → q.2.2.1 87 p = V p) (fun o => ∃ M', o = some M' ∧ sameX 87 M M' ∧ ∀ p, p < np → bl S p = true → M'.1 87 p = V p) np N _ ⟨rfl, rfl, sameX_rf 87 M, fun p h => absurd h (Nat.not_lt_zero _)⟩ (by omega) ?_ ?_
  · rintro i ⟨S', x, Q⟩ K hi ⟨h0, h1, h2, h3⟩
    dsimp only at h0 h1 h2 h3
    subst h0
    subst h1
    left
    rw [eBX10_workAll_2]
    dsimp only
    rw [h2.2 69 (by decide), hc2, if_neg (lt_nI hi (by omega))]
    by_cases hb : bl S' i = true
    · rw [if_pos ((l_tst S' (by omega)).mpr hb)]
      have hw := work_run (n := n) (p := i) (M := Q) hn (by omega) (by rw [h2.2 74 (by decide), h2.2 75 (by decide), h2.2 76 (by decide), h2.2 77 (by decide)]; exact hp i hi)
      rw [h2.2 74 (by decide), h2.2 75 (by decide), h2.2 76 (by decide), h2.2 77 (by decide), h2.2 86 (by decide)] at hw
      have he : evP (M.1 74) (M.1 75) (M.1 76) (M.1 77) (Q.1 87) (M.1 86) i = V i := by
        rw [hV i hi]
        refine evP_congr (n := n) (by omega) hn (hp i hi) (fun o ho => h3 o ho.1 (hcl i o hi hb ho)) (fun g hgn hF hpa => hg i g hi hb hF hpa hgn)
      rw [hw, Option.bind_some, he]
      refine ⟨(S', nI (i + 1), up1 Q 87 i (V i)), ⟨rfl, rfl, sameX_up h2, fun p hpi hpb => ?_⟩, by rw [nI_1]⟩
      dsimp only
      rw [up1_same]
      by_cases e : p = i
      · rw [if_pos e, e]
      · rw [if_neg e]; exact h3 p (by omega) hpb
    · rw [if_neg (fun h => hb ((l_tst S' (by omega)).mp h))]
      refine ⟨(S', nI (i + 1), Q), ⟨rfl, rfl, h2, fun p hpi hpb => ?_⟩, by rw [nI_1]⟩
      by_cases e : p = i
      · subst e; exact absurd hpb hb
      · exact h3 p (by omega) hpb
  · rintro ⟨S', x, Q⟩ K ⟨h0, h1, h2, h3⟩
    dsimp only at h0 h1 h2 h3
    subst h0
    subst h1
    rw [eBX10_workAll_2]
    dsimp only
    rw [h2.2 69 (by decide), hc2, if_pos (le_nI np (by omega))]
    exact ⟨Q, rfl, h2, h3⟩
/-- memories that differ in what judge writes alone -/
def sameJ (M M' : Mm) : Prop := M'.2 = M.2 ∧ ∀ a, a ≠ 84 → a ≠ 85 → a ≠ 86 → a ≠ 87 → M'.1 a = M.1 a
theorem sameJ_rf (M : Mm) : sameJ M M := ⟨rfl, fun _ _ _ _ _ => rfl⟩
theorem sameJ_t {M M1 M2 : Mm} (h1 : sameJ M M1) (h2 : sameJ M1 M2) : sameJ M M2 := ⟨h2.1.trans h1.1, fun a x y z w => (h2.2 a x y z w).trans (h1.2 a x y z w)⟩
theorem sameJ_87 {M M' : Mm} (h : sameX 87 M M') : sameJ M M' := ⟨h.1, fun a _ _ _ w => h.2 a w⟩
theorem isSo_run {p : Nat} {M : Mm} (hp : p < 50) : FX10_isSo (nI p) M = some (if M.1 87 p = LO ∨ M.1 87 p = 0 then 0 else 1) := by
  unfold FX10_isSo
  rw [show (-2000000000 : Int32) = LO from rfl]
  simp (disch := omega) only [rdI_nI, Option.bind_some]
  by_cases h1 : M.1 87 p = LO
  · simp [h1]
  · by_cases h2 : M.1 87 p = 0
    · simp [h2]
    · simp [h1, h2]
theorem lo_out {lo : Int32} (h : ¬ lo < (-1000)) : LO < lo := by
  have h1 : (-1000 : Int32).toInt = -1000 := by decide
  have h2 : LO.toInt = -2000000000 := by decide
  simp only [Int32.lt_iff_toInt_lt] at *
  omega
theorem judge_tail {N f : Nat} {t : Int32} {M : Mm} (hf : f < 12) : BX10_judge_128 N (nI f) (nI f) t M = some (up1 (up1 M 85 f t) 86 f (if M.1 84 f = 0 then LO else t)) := by
  unfold BX10_judge_128
  rw [show (-2000000000 : Int32) = LO from rfl]
  simp (disch := omega) only [wrI_nI, rdI_nI, Option.bind_some]
  rw [up1_ne (a := 84) (by decide), up1_same, if_pos rfl]
  split <;> rfl
/-- judge, where the parts that the field's rules are of come to the solution -/
theorem judge_mid {N n np f : Nat} {M : Mm} {row V : Nat → Int32} {sh : Int32} (hN : netR n np M) (hf : f < n) (hsh : sh = 0 ∨ sh = 1) (hrow : M.1 83 f = row f) (hok : M.1 72 f = 0 → row f = LO ∨ (¬ row f < M.1 70 f ∧ ¬ M.1 71 f < row f)) (hV : ∀ p, p < np → M.1 73 (4 * f + 3) = nI p → M.1 87 p = V p) : ∃ t, BX10_judge_54 N (nI f) (M.1 73 (4 * f + 3)) (nI f) sh M = some (up1 (up1 (up1 M 84 f sh) 85 f t) 86 f (cnV (M.1 70 f) (M.1 71 f) sh (owV (M.1 72 f) (M.1 73 (4 * f + 3)) (row f) V))) := by
  obtain ⟨hn, hnp, hc1, hc2, hp, hr, hm, hsp⟩ := hN
  have hlo := lo_out (hsp f hf)
  unfold BX10_judge_54 BX10_judge_117
  rw [show (-2000000000 : Int32) = LO from rfl]
  rw [wrZ_nI (by omega) (by decide) hsh, Option.bind_some, rdI_nI (by omega) (by decide), Option.bind_some, up1_ne (a := 72) (by decide)]
  have e84 : (up1 M 84 f sh).1 84 f = sh := by rw [up1_same, if_pos rfl]
  have fin : ∀ t : Int32, (if sh = 0 then LO else t) = cnV (M.1 70 f) (M.1 71 f) sh (owV (M.1 72 f) (M.1 73 (4 * f + 3)) (row f) V) → ∃ t', BX10_judge_128 N (nI f) (nI f) t (up1 M 84 f sh) = some (up1 (up1 (up1 M 84 f sh) 85 f t') 86 f (cnV (M.1 70 f) (M.1 71 f) sh (owV (M.1 72 f) (M.1 73 (4 * f + 3)) (row f) V))) := fun t h => ⟨t, by rw [judge_tail (by omega), e84, h]⟩
  by_cases h0 : M.1 72 f = 0
  · rw [if_pos h0, rdI_nI (by omega) (by decide), Option.bind_some, up1_ne (a := 83) (by decide), hrow]
    apply fin
    unfold cnV owV
    rw [if_pos h0]
    by_cases hz : sh = 0
    · rw [if_pos hz, if_pos hz]
    · rw [if_neg hz, if_neg hz]
      rcases hok h0 with e | ⟨e1, e2⟩
      · rw [e, if_pos (Or.inl hlo)]
      · rw [if_neg (fun h => h.elim e1 e2)]
  · rw [if_neg h0]
    rcases rl_neg hnp (hr f hf 3 (by decide)) with ⟨z1, z2⟩ | ⟨z1, z2, p, hpn, z3⟩
    · rw [if_pos z1]
      apply fin
      unfold cnV owV
      rw [if_neg h0, if_pos z2, if_pos (Or.inl hlo)]
    · have hv := hV p hpn z3
      rw [if_neg z1, z3]
      simp (disch := omega) only [rdI_nI, Option.bind_some]
      rw [up1_ne (a := 87) (by decide), up1_ne (a := 70) (by decide), up1_ne (a := 71) (by decide), hv]
      have ow : owV (M.1 72 f) (nI p) (row f) V = V p := by
        unfold owV
        rw [if_neg h0, if_neg (by rw [← z3]; exact z2), cl_nI (by omega)]
      rw [z3, ow] at fin
      rw [ow]
      by_cases hl : V p = LO
      · rw [if_pos hl]
        apply fin
        unfold cnV
        rw [hl, if_pos (Or.inl hlo)]
      · rw [if_neg hl]
        unfold FX10_in
        by_cases h1 : V p < M.1 70 f
        · rw [if_pos h1, Option.bind_some, if_pos rfl]
          apply fin
          unfold cnV
          rw [if_pos (Or.inl h1)]
        · rw [if_neg h1]
          by_cases h2 : M.1 71 f < V p
          · rw [if_pos h2, Option.bind_some, if_pos rfl]
            apply fin
            unfold cnV
            rw [if_pos (Or.inr h2)]
          · rw [if_neg h2, Option.bind_some, if_neg (by decide)]
            apply fin
            unfold cnV
            by_cases hz : sh = 0
            · rw [if_pos hz, if_pos hz]
            · rw [if_neg hz, if_neg hz, if_neg (fun h => h.elim h1 h2)]
theorem judge_sol {N n np f : Nat} {M : Mm} {row V SH CN : Nat → Int32} (hN0 : 60 < N) (hN : netR n np M) (hf : f < n) (hsol : solR n np M row V SH CN) (hnd : ∀ k, bl (M.2 80 f) k = true ↔ NdP np M f k) (hrow : M.1 83 f = row f) (hok : M.1 72 f = 0 → row f = LO ∨ (¬ row f < M.1 70 f ∧ ¬ M.1 71 f < row f)) (hcn : ∀ g, Dm np M f g → M.1 86 g = CN g) : ∃ M', FX10_judge N (nI f) M = some M' ∧ sameJ M M' ∧ M'.1 84 f = SH f ∧ M'.1 86 f = CN f ∧ ∀ g, g ≠ f → M'.1 84 g = M.1 84 g ∧ M'.1 86 g = M.1 86 g := by
  have hN' := hN
  obtain ⟨hn, hnp, hc1, hc2, hp, hr, hm, hsp⟩ := hN
  have hok2 : ops_ok np (M.1 74) (M.1 75) (M.1 76) (M.1 77) := fun p hpn => pok_ops (hp p hpn)
  obtain ⟨Q, q1, q2, q3⟩ := workAll_sol (N := N) (S := M.2 80 f) (V := V) (CN := CN) hN0 hN' hsol.1 (fun p o hpn hb hop => by
    rw [hnd] at hb ⊢
    rcases hb with ⟨x, hx, e, h⟩ | ⟨x, hx, e, h⟩
    · exact Or.inl ⟨x, hx, e, fun C hC hcl => hcl p o (RS_le h) (h C hC hcl) hop⟩
    · exact Or.inr ⟨x, hx, e, fun C hC hcl => hcl p o (RS_le h) (h C hC hcl) hop⟩) (fun p g hpn hb hF hpa hgn => hcn g ⟨by omega, p, hpn, (hnd p).mp hb, hF, hpa⟩)
  have hNQ : netR n np Q := by
    refine ⟨hn, hnp, ?_, ?_, ?_, ?_, ?_, ?_⟩
    · rw [q2.2 69 (by decide)]; exact hc1
    · rw [q2.2 69 (by decide)]; exact hc2
    · rw [q2.2 74 (by decide), q2.2 75 (by decide), q2.2 76 (by decide), q2.2 77 (by decide)]; exact hp
    · rw [q2.2 73 (by decide)]; exact hr
    · rw [q2.2 72 (by decide)]; exact hm
    · rw [q2.2 70 (by decide)]; exact hsp
  have hSH := (hsol.2 f hf).1
  have hCN := (hsol.2 f hf).2
  have mid : ∀ sh : Int32, sh = 0 ∨ sh = 1 → sh = SH f → ∃ M', BX10_judge_54 N (nI f) (M.1 73 (4 * f + 3)) (nI f) sh Q = some M' ∧ sameJ M M' ∧ M'.1 84 f = SH f ∧ M'.1 86 f = CN f ∧ ∀ g, g ≠ f → M'.1 84 g = M.1 84 g ∧ M'.1 86 g = M.1 86 g := by
    intro sh h01 hshe
    obtain ⟨t, ht⟩ := judge_mid (N := N) (row := row) (V := V) (M := Q) hNQ hf h01 (by rw [q2.2 83 (by decide)]; exact hrow) (by rw [q2.2 70 (by decide), q2.2 71 (by decide), q2.2 72 (by decide)]; exact hok) (fun p hpn e => q3 p hpn ((hnd p).mpr (Or.inr ⟨p, hpn, by rw [← e, q2.2 73 (by decide)], RS_rf⟩)))
    rw [q2.2 73 (by decide), q2.2 70 (by decide), q2.2 71 (by decide), q2.2 72 (by decide), hshe, ← hCN] at ht
    rw [hshe]
    refine ⟨_, ht, sameJ_t (sameJ_87 q2) ⟨rfl, fun a x y z _ => by rw [up1_ne z, up1_ne y, up1_ne x]⟩, ?_, ?_, fun g hg => ⟨?_, ?_⟩⟩
    · rw [up1_ne (by decide), up1_ne (by decide), up1_same, if_pos rfl]
    · rw [up1_same, if_pos rfl]
    · rw [up1_ne (by decide), up1_ne (by decide), up1_same, if_neg hg, q2.2 84 (by decide)]
    · rw [up1_same, if_neg hg, up1_ne (by decide), up1_ne (by decide), q2.2 86 (by decide)]
  unfold FX10_judge BX10_judge_49
  rw [rdL_nI (by omega) (by decide), Option.bind_some, q1, Option.bind_some, show (4 : Int32) * nI f + 0 = nI (4 * f) from ix4 f 0, show (4 : Int32) * nI f + 3 = nI (4 * f + 3) from ix4 f 3, rdI_nI (by omega) (by decide), Option.bind_some, rdI_nI (by omega) (by decide), Option.bind_some, q2.2 73 (by decide)]
  rcases rl_neg hnp (hr f hf 0 (by decide)) with ⟨z1, z2⟩ | ⟨z1, z2, p, hpn, z3⟩
  · rw [Nat.add_zero] at z1 z2
    rw [if_pos z1]
    refine mid 1 (Or.inr rfl) ?_
    rw [hSH]; unfold shV; rw [if_pos z2]
  · rw [Nat.add_zero] at z1 z2 z3
    have hv := q3 p hpn ((hnd p).mpr (Or.inl ⟨p, hpn, z3, RS_rf⟩))
    rw [if_neg z1, z3, isSo_run (by omega), Option.bind_some, hv]
    have e : SH f = if V p = LO ∨ V p = 0 then 0 else 1 := by
      rw [hSH]; unfold shV
      rw [if_neg z2, z3, cl_nI (by omega)]
    by_cases h : V p = LO ∨ V p = 0
    · rw [if_pos h] at e ⊢
      rw [if_pos rfl]
      exact mid 0 (Or.inl rfl) e.symm
    · rw [if_neg h] at e ⊢
      rw [if_neg (by decide)]
      exact mid 1 (Or.inr rfl) e.symm
