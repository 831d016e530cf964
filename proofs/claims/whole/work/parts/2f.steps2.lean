/-! ===== the class's arrange, its loops ===== -/
def ccV (R H : Nat → Int32) (x : Nat) : Nat := if x < 50 then cnt (R x) 12 else cnt (H (x - 50)) 12
def mvV (R H : Nat → Int32) (x : Nat) : Int32 := if x < 50 then R x else H (x - 50) ||| ((1 : Int32) <<< (nI (x - 50) &&& 31))
theorem arr99 {N n np m : Nat} {M : Mm} {R H : Nat → Int32} {K48 : Int32 × Mm → Option Mm} {P : Option Mm → Prop} (hN : 100 < N) (hn : n ≤ 12) (hnp : np ≤ 50) (hm : m ≤ 12) (hc : M.1 2 6 = nI n) (hH : M.1 20 = H) (hR : M.1 29 = R) (hlow : ∀ f, f < n → low 12 (H f)) (hl : laid n np (ccV R H) (mvV R H) m 50 M) (hk : ∀ M1, sameA M M1 → M1.1 29 = R → laid n np (ccV R H) (mvV R H) (m + 1) 0 M1 → P (K48 (nI (m + 1), M1))) : P (lp (BX2_arrange_99 N K48) N (nI m, 0, M)) := by
  refine lp_up (fun i (q : Int32 × Int32 × Mm) => q.1 = nI m ∧ q.2.1 = nI i ∧ sameA M q.2.2 ∧ q.2.2.1 29 = R ∧ laid n np (ccV R H) (mvV R H) m (50 + i) q.2.2) P n N _ ⟨rfl, rfl, sameA_rf M, hR, hl⟩ (by omega) ?_ ?_
  · rintro i ⟨a, b, Q⟩ K hi ⟨e0, e1, s1, r1, g1⟩
    dsimp only at e0 e1 s1 r1 g1
    subst e0
    subst e1
    have e20 : Q.1 20 = H := by rw [s1.2 20 (by decide) (by decide) (by decide) (by decide)]; exact hH
    have hci : ccV R H (50 + i) = cnt (H i) 12 := by unfold ccV; rw [if_neg (by omega), show 50 + i - 50 = i by omega]
    have hmi : mvV R H (50 + i) = H i ||| ((1 : Int32) <<< (nI i &&& 31)) := by unfold mvV; rw [if_neg (by omega), show 50 + i - 50 = i by omega]
    left
    rw [eBX2_arrange_99]
    dsimp only
    rw [s1.2 2 (by decide) (by decide) (by decide) (by decide), hc, if_neg (lt_nI hi (by omega)), rdI_nI (by omega) (by decide), Option.bind_some, e20, bitCount_run (hlow i hi), Option.bind_some]
    have hcl : cnt (H i) 12 ≤ 12 := cnt_le _ _
    by_cases e : cnt (H i) 12 = m
    · obtain ⟨M', q1, q2, q3, q4⟩ := addStep_run (x := 50 + i) (c := ccV R H) (mv := mvV R H) hnp hn (by unfold itm; simp; omega) (by rw [hci]; exact e) g1
      rw [hmi] at q1
      rw [if_pos (by rw [e]), Option.bind_some, show (50 : Int32) + nI i = nI (50 + i) from nI_add 50 i, q1, Option.bind_some]
      exact ⟨(nI m, nI (i + 1), M'), ⟨rfl, rfl, sameA_t s1 q2, by rw [q3]; exact r1, q4⟩, by rw [nI_1]⟩
    · rw [if_neg (fun h => e (nI_inj (by omega) (by omega) h))]
      refine ⟨(nI m, nI (i + 1), Q), ⟨rfl, rfl, s1, r1, laid_skip (fun y => ?_) g1⟩, by rw [nI_1]⟩
      unfold inV
      congr 2
      apply propext
      by_cases ey : y = 50 + i
      · subst ey; rw [hci]; omega
      · omega
  · rintro ⟨a, b, Q⟩ K ⟨e0, e1, s1, r1, g1⟩
    dsimp only at e0 e1 s1 r1 g1
    subst e0
    subst e1
    rw [eBX2_arrange_99]
    dsimp only
    rw [s1.2 2 (by decide) (by decide) (by decide) (by decide), hc, if_pos (le_nI n (by omega)), nI_1]
    refine hk Q s1 r1 (laid_next (fun y => ?_) g1)
    unfold inV
    cases hy : itm n np y with
    | false => rfl
    | true =>
      unfold itm at hy
      simp at hy
      congr 2
      apply propext
      omega
theorem arr56 {N n np m : Nat} {M : Mm} {R H : Nat → Int32} {K48 : Int32 × Mm → Option Mm} {P : Option Mm → Prop} (hN : 100 < N) (hn : n ≤ 12) (hnp : np ≤ 50) (hm : m ≤ 12) (hc : M.1 2 6 = nI n) (hcp : M.1 21 5 = nI np) (hH : M.1 20 = H) (hR : M.1 29 = R) (hlow : ∀ f, f < n → low 12 (H f)) (hlowR : ∀ p, p < np → low 12 (R p)) (hl : laid n np (ccV R H) (mvV R H) m 0 M) (hk : ∀ M1, sameA M M1 → M1.1 29 = R → laid n np (ccV R H) (mvV R H) (m + 1) 0 M1 → P (K48 (nI (m + 1), M1))) : P (lp (BX2_arrange_56 N K48) N (nI m, 0, M)) := by
  refine lp_up (fun i (q : Int32 × Int32 × Mm) => q.1 = nI m ∧ q.2.1 = nI i ∧ sameA M q.2.2 ∧ q.2.2.1 29 = R ∧ laid n np (ccV R H) (mvV R H) m i q.2.2) P np N _ ⟨rfl, rfl, sameA_rf M, hR, hl⟩ (by omega) ?_ ?_
  · rintro i ⟨a, b, Q⟩ K hi ⟨e0, e1, s1, r1, g1⟩
    dsimp only at e0 e1 s1 r1 g1
    subst e0
    subst e1
    have hci : ccV R H i = cnt (R i) 12 := by unfold ccV; rw [if_pos (by omega)]
    have hmi : mvV R H i = R i := by unfold mvV; rw [if_pos (by omega)]
    left
    rw [eBX2_arrange_56]
    dsimp only
    rw [s1.2 21 (by decide) (by decide) (by decide) (by decide), hcp, if_neg (lt_nI hi (by omega)), rdI_nI (by omega) (by decide), Option.bind_some, r1, bitCount_run (hlowR i hi), Option.bind_some]
    have hcl : cnt (R i) 12 ≤ 12 := cnt_le _ _
    by_cases e : cnt (R i) 12 = m
    · obtain ⟨M', q1, q2, q3, q4⟩ := addStep_run (x := i) (c := ccV R H) (mv := mvV R H) hnp hn (by unfold itm; simp; omega) (by rw [hci]; exact e) g1
      rw [hmi] at q1
      rw [if_pos (by rw [e]), Option.bind_some, q1, Option.bind_some]
      exact ⟨(nI m, nI (i + 1), M'), ⟨rfl, rfl, sameA_t s1 q2, by rw [q3]; exact r1, q4⟩, by rw [nI_1]⟩
    · rw [if_neg (fun h => e (nI_inj (by omega) (by omega) h))]
      refine ⟨(nI m, nI (i + 1), Q), ⟨rfl, rfl, s1, r1, laid_skip (fun y => ?_) g1⟩, by rw [nI_1]⟩
      unfold inV
      congr 2
      apply propext
      by_cases ey : y = i
      · subst ey; rw [hci]; omega
      · omega
  · rintro ⟨a, b, Q⟩ K ⟨e0, e1, s1, r1, g1⟩
    dsimp only at e0 e1 s1 r1 g1
    subst e0
    subst e1
    rw [eBX2_arrange_56]
    dsimp only
    rw [s1.2 21 (by decide) (by decide) (by decide) (by decide), hcp, if_pos (le_nI np (by omega))]
    refine arr99 hN hn hnp hm (by rw [s1.2 2 (by decide) (by decide) (by decide) (by decide)]; exact hc) (by rw [s1.2 20 (by decide) (by decide) (by decide) (by decide)]; exact hH) r1 hlow (laid_skip (fun y => ?_) g1) (fun M1 s2 r2 g2 => hk M1 (sameA_t s1 s2) r2 g2)
    unfold inV
    cases hy : itm n np y with
    | false => rfl
    | true =>
      unfold itm at hy
      simp at hy
      congr 2
      apply propext
      omega
/-- arrange: what each part rests on, and all steps laid -/
theorem arrange_cls {N n np : Nat} {M : Mm} (hN : 100 < N) (hn : n ≤ 12) (hnp : np ≤ 50) (hc : M.1 2 6 = nI n) (hcp : M.1 21 5 = nI np) (hlow : ∀ f, f < n → low 12 (M.1 20 f)) (hlowA : ∀ p, p < np → low 12 (M.1 26 p)) : ∃ M', FX2_arrange N M = some M' ∧ sameA M M' ∧ (∀ p, p < np → ∀ g, bt (M'.1 29 p) g = true ↔ bt (M.1 26 p) g = true ∨ ∃ f, f < n ∧ bt (M.1 26 p) f = true ∧ bt (M.1 20 f) g = true) ∧ laid n np (ccV (M'.1 29) (M.1 20)) (mvV (M'.1 29) (M.1 20)) 13 0 M' := by
  unfold FX2_arrange
  refine lp_up (fun i (q : Int32 × Mm) => q.1 = nI i ∧ sameA M q.2 ∧ ∀ p, p < i → ∀ g, bt (q.2.1 29 p) g = true ↔ bt (M.1 26 p) g = true ∨ ∃ f, f < n ∧ bt (M.1 26 p) f = true ∧ bt (M.1 20 f) g = true) (fun o => ∃ M', o = some M' ∧ sameA M M' ∧ (∀ p, p < np → ∀ g, bt (M'.1 29 p) g = true ↔ bt (M.1 26 p) g = true ∨ ∃ f, f < n ∧ bt (M.1 26 p) f = true ∧ bt (M.1 20 f) g = true) ∧ laid n np (ccV (M'.1 29) (M.1 20)) (mvV (M'.1 29) (M.1 20)) 13 0 M') np N _ ⟨rfl, sameA_rf M, fun p h => absurd h (Nat.not_lt_zero _)⟩ (by omega) ?_ ?_
  · rintro i ⟨a, Q⟩ K hi ⟨e0, s1, g1⟩
    dsimp only at e0 s1 g1
    subst e0
    left
    rw [eBX2_arrange_2]
    dsimp only
    obtain ⟨m, m1, m2⟩ := spread_run (N := N) (n := n) (bits := M.1 26 i) (M := Q) (by omega) hn (by rw [s1.2 2 (by decide) (by decide) (by decide) (by decide)]; exact hc)
    rw [s1.2 20 (by decide) (by decide) (by decide) (by decide)] at m2
    rw [s1.2 21 (by decide) (by decide) (by decide) (by decide), hcp, if_neg (lt_nI hi (by omega)), rdI_nI (by omega) (by decide), Option.bind_some, s1.2 26 (by decide) (by decide) (by decide) (by decide), m1, Option.bind_some, wrI_nI (by omega) (by decide), Option.bind_some]
    refine ⟨(nI (i + 1), up1 Q 29 i m), ⟨rfl, sameA_t s1 ⟨rfl, fun a _ _ _ h => up1_ne h⟩, fun p hp g => ?_⟩, by rw [nI_1]⟩
    dsimp only
    rw [up1_same]
    by_cases e : p = i
    · subst e; rw [if_pos rfl]; exact m2 g
    · rw [if_neg e]; exact g1 p (by omega) g
  · rintro ⟨a, Q⟩ K ⟨e0, s1, g1⟩
    dsimp only at e0 s1 g1
    subst e0
    rw [eBX2_arrange_2]
    dsimp only
    rw [s1.2 21 (by decide) (by decide) (by decide) (by decide), hcp, if_pos (le_nI np (by omega))]
    show ∃ M', ((some (up1 Q 1 5 0)).bind fun M2 => _) = some M' ∧ _
    rw [Option.bind_some]
    have s2 : sameA M (up1 Q 1 5 0) := sameA_t s1 ⟨rfl, fun a h _ _ _ => up1_ne h⟩
    have e29 : (up1 Q 1 5 0).1 29 = Q.1 29 := up1_ne (by decide)
    have hlowR : ∀ p, p < np → low 12 (Q.1 29 p) := fun p hp i hi => by
      cases hb : bt (Q.1 29 p) i with
      | false => rfl
      | true =>
        rcases (g1 p hp i).mp hb with h | ⟨f, hf, _, h⟩
        · rw [hlowA p hp i hi] at h; cases h
        · rw [hlow f hf i hi] at h; cases h
    have z0 : cntB (inV n np (ccV (Q.1 29) (M.1 20)) 0 0) 62 = 0 := by
      rw [cntB_congr (R := fun _ => false) 62 (fun i _ => by unfold inV; simp)]
      decide
    refine lp_up (fun m (q : Int32 × Mm) => q.1 = nI m ∧ sameA M q.2 ∧ q.2.1 29 = Q.1 29 ∧ laid n np (ccV (Q.1 29) (M.1 20)) (mvV (Q.1 29) (M.1 20)) m 0 q.2) (fun o => ∃ M', o = some M' ∧ sameA M M' ∧ (∀ p, p < np → ∀ g, bt (M'.1 29 p) g = true ↔ bt (M.1 26 p) g = true ∨ ∃ f, f < n ∧ bt (M.1 26 p) f = true ∧ bt (M.1 20 f) g = true) ∧ laid n np (ccV (M'.1 29) (M.1 20)) (mvV (M'.1 29) (M.1 20)) 13 0 M') 13 N _ ⟨rfl, s2, e29, by rw [z0, up1_same, if_pos rfl]; rfl, fun j hj => by rw [z0] at hj; exact absurd hj (Nat.not_lt_zero _), fun y hy => by unfold inV at hy; simp at hy⟩ (by omega) ?_ ?_
    · rintro m ⟨b, T⟩ K2 hm ⟨f0, t1, t2, t3⟩
      dsimp only at f0 t1 t2 t3
      subst f0
      left
      rw [eBX2_arrange_48]
      dsimp only
      rw [if_neg (show ¬ (12 : Int32) < nI m from nI_nlt (a := 12) (b := m) (by omega) (by decide))]
      exact arr56 (P := fun o => ∃ a' : Int32 × Mm, (a'.1 = nI (m + 1) ∧ sameA M a'.2 ∧ a'.2.1 29 = Q.1 29 ∧ laid n np (ccV (Q.1 29) (M.1 20)) (mvV (Q.1 29) (M.1 20)) (m + 1) 0 a'.2) ∧ o = K2 a') hN hn hnp (by omega) (by rw [t1.2 2 (by decide) (by decide) (by decide) (by decide)]; exact hc) (by rw [t1.2 21 (by decide) (by decide) (by decide) (by decide)]; exact hcp) (t1.2 20 (by decide) (by decide) (by decide) (by decide)) t2 hlow hlowR t3 (fun M1 s3 r3 g3 => ⟨_, ⟨rfl, sameA_t t1 s3, r3, g3⟩, rfl⟩)
    · rintro ⟨b, T⟩ K2 ⟨f0, t1, t2, t3⟩
      dsimp only at f0 t1 t2 t3
      subst f0
      rw [eBX2_arrange_48]
      dsimp only
      rw [if_pos (show (12 : Int32) < nI 13 by decide)]
      refine ⟨T, rfl, t1, fun p hp g => by rw [t2]; exact g1 p hp g, ?_⟩
      rw [t2]
      exact t3
