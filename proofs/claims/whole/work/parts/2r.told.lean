/-! ===== sealed, told, tell, address ===== -/
theorem rngQ {n b : Nat} (x : Int32) (hn : n ≤ 12) (hb : b ≤ 100) : (∃ f, f < n ∧ x = nI (b + f) ∧ ¬ x < nI b ∧ x - nI b = nI f ∧ ¬ nI (b + n) - 1 < x) ∨ x < nI b ∨ (¬ x < nI b ∧ (∀ M : Mm, M.1 2 6 = nI n → FX0_has (x - nI b) M = some 0) ∧ nI (b + n) - 1 < x) := by
  by_cases h1 : x < nI b
  · exact Or.inr (Or.inl h1)
  · have h0 : ¬ x < 0 := fun h => h1 (by
      rw [Int32.lt_iff_toInt_lt] at h ⊢
      have e0 : (0 : Int32).toInt = 0 := by decide
      have e1 : (nI b).toInt = (b : Int) := nI_toInt (by omega)
      omega)
    obtain ⟨j, hj, rfl⟩ := nI_of h0
    have hbj : b ≤ j := by
      rcases Nat.lt_or_ge j b with q | q
      · exact absurd (nI_lt q (by omega)) h1
      · exact q
    have es : nI j - nI b = nI (j - b) := pk_sub hbj
    rcases Nat.lt_or_ge j (b + n) with q | q
    · refine Or.inl ⟨j - b, by omega, by rw [show b + (j - b) = j by omega], h1, es, fun z => ?_⟩
      exact lt_nI q (by omega) ((pred_lt (by omega)).mp z)
    · refine Or.inr (Or.inr ⟨h1, fun M hM => ?_, (pred_lt (by omega)).mpr (nI_le q hj)⟩)
      rw [eFX0_has, hM, es, if_neg (nI_pos (by omega)), if_pos (nI_le (by omega) (by omega))]
theorem c_sealed {N n np ns : Nat} {x y : Int32} {M : Mm} (hN : 100 < N) (h : Inv n np ns M) : CallP (FX9_sealed N x y M) (FX10_sealed N x y) := by
  obtain ⟨hn, hnp, c1, c2, c3, c4⟩ := Inv_n h
  obtain ⟨h6, k1, k2, k3, k4⟩ := h.2.2.2.1
  have e10 : (10 : Int32) = nI 10 := rfl
  have e30 : (30 : Int32) = nI 30 := rfl
  have e9 : (9 : Int32) + nI n = nI (10 + n) - 1 := by
    rw [show 10 + n = (9 + n) + 1 by omega, nI_pred, ← nI_add]; rfl
  have e29 : (29 : Int32) + nI n = nI (30 + n) - 1 := by
    rw [show 30 + n = (29 + n) + 1 by omega, nI_pred, ← nI_add]; rfl
  rcases selQ x h6 with ⟨s, hs, rfl, p1, p2⟩ | ⟨p1, p2⟩
  · obtain ⟨_, z90, z91, z9⟩ := k4 s hs
    rcases rngQ (n := n) (b := 30) y hn (by omega) with ⟨f, hf, rfl, a1, a2, a3⟩ | a1
    · refine CallP_same (M.1 (55 + s) f) h ?_ ?_
      · rw [eFX9_sealed, p1 M k1, Option.bind_some, if_neg (by decide), e30, if_neg a1, a2]
        have : FX0_has (nI f) M = some 1 := by rw [eFX0_has, c1, if_neg (nI_pos (by omega)), if_neg (lt_nI hf (by omega))]
        rw [this, Option.bind_some, if_neg (by decide), ckR_nI (by omega) (by decide), Option.bind_some, rdI_nI (by omega) (by decide), Option.bind_some]
      · rw [eFX10_sealed, p2 M k2, Option.bind_some, if_pos rfl, c3, e9, e29, e10, e30]
        have i1 : FX10_in (nI (30 + f)) (nI 10) (nI (10 + n) - 1) M = some 0 := by
          rw [eFX10_in, if_neg (nI_nlt (by omega) (by omega)), if_pos ((pred_lt (by omega)).mpr (nI_le (by omega) (by omega)))]
        have i2 : FX10_in (nI (30 + f)) (nI 30) (nI (30 + n) - 1) M = some 1 := by
          rw [eFX10_in, if_neg a1, if_neg a3]
        rw [i1, Option.bind_some, if_pos rfl, i2, Option.bind_some, if_neg (by decide), ix12, pk_sub (by omega), show 12 * s + (30 + f) - 30 = 12 * s + f by omega, rdI_nI (by omega) (by decide), Option.bind_some, (z9 f (by omega)).2]
    · have b51 : FX9_sealed N (nI s) y M = BX9_sealed_51 N (nI s) y M := by
        rw [eFX9_sealed, p1 M k1, Option.bind_some, if_neg (by decide), e30]
        rcases a1 with q | ⟨q, q2, _⟩
        · rw [if_pos q]
        · rw [if_neg q, q2 M c1, Option.bind_some, if_pos rfl]
      have i2 : FX10_in y (nI 30) (nI (30 + n) - 1) M = some 0 := by
        rw [eFX10_in]
        rcases a1 with q | ⟨q, _, q2⟩
        · rw [if_pos q]
        · rw [if_neg q, if_pos q2]
      rcases rngQ (n := n) (b := 10) y hn (by omega) with ⟨f, hf, rfl, b1, b2, b3⟩ | b1
      · refine CallP_same (M.1 (48 + s) f) h ?_ ?_
        · have : FX0_has (nI f) M = some 1 := by rw [eFX0_has, c1, if_neg (nI_pos (by omega)), if_neg (lt_nI hf (by omega))]
          rw [b51, eBX9_sealed_51, e10, if_neg b1, b2, this, Option.bind_some, if_neg (by decide), ckR_nI (by omega) (by decide), Option.bind_some, rdI_nI (by omega) (by decide), Option.bind_some]
        · have i1 : FX10_in (nI (10 + f)) (nI 10) (nI (10 + n) - 1) M = some 1 := by
            rw [eFX10_in, if_neg b1, if_neg b3]
          rw [eFX10_sealed, p2 M k2, Option.bind_some, if_pos rfl, c3, e9, e29, e10, e30, i1, Option.bind_some, if_neg (by decide), ix12, pk_sub (by omega), show 12 * s + (10 + f) - 10 = 12 * s + f by omega, rdI_nI (by omega) (by decide), Option.bind_some, (z9 f (by omega)).1]
      · have b89 : FX9_sealed N (nI s) y M = BX9_sealed_89 N (nI s) y M := by
          rw [b51, eBX9_sealed_51, e10]
          rcases b1 with q | ⟨q, q2, _⟩
          · rw [if_pos q]
          · rw [if_neg q, q2 M c1, Option.bind_some, if_pos rfl]
        have i1 : FX10_in y (nI 10) (nI (10 + n) - 1) M = some 0 := by
          rw [eFX10_in]
          rcases b1 with q | ⟨q, _, q2⟩
          · rw [if_pos q]
          · rw [if_neg q, if_pos q2]
        have hrf : ∀ Q : Mm, Q.1 69 = M.1 69 → FX10_sealed N (nI s) y Q = (if y = 0 then (rdI Q 90 6 (nI s)).bind fun v11 => some (v11, Q) else (if y = 1 then (rdI Q 91 6 (nI s)).bind fun v14 => some (v14, Q) else (if y = 2 then (rdI Q 92 6 (nI s)).bind fun v17 => (if v17 = 0 then some (0, Q) else some (1, Q)) else (if y = 3 then (FX10_sealHolds N (nI s) Q).bind fun p22 => (if p22.1 = 0 then some (0, p22.2) else some (1, p22.2)) else some ((-2), Q))))) := fun Q hQ => by
          have j1 : FX10_in y (nI 10) (nI (10 + n) - 1) Q = some 0 := i1
          have j2 : FX10_in y (nI 30) (nI (30 + n) - 1) Q = some 0 := i2
          rw [eFX10_sealed, p2 Q (by rw [hQ]; exact k2), Option.bind_some, if_pos rfl, hQ, c3, e9, e29]
          rw [show FX10_in y 10 (nI (10 + n) - 1) Q = some 0 from j1, Option.bind_some, if_pos rfl, show FX10_in y 30 (nI (30 + n) - 1) Q = some 0 from j2, Option.bind_some, if_pos rfl]
        by_cases y0 : y = 0
        · refine CallP_same (M.1 44 s) h ?_ ?_
          · rw [b89, eBX9_sealed_89, if_pos y0, rdI_nI (by omega) (by decide), Option.bind_some]
          · rw [hrf M rfl, if_pos y0, rdI_nI (by omega) (by decide), Option.bind_some, z90]
        · by_cases y1 : y = 1
          · refine CallP_same (M.1 45 s) h ?_ ?_
            · rw [b89, eBX9_sealed_89, if_neg y0, if_pos y1, rdI_nI (by omega) (by decide), Option.bind_some]
            · rw [hrf M rfl, if_neg y0, if_pos y1, rdI_nI (by omega) (by decide), Option.bind_some, z91]
          · by_cases y2 : y = 2
            · refine CallP_same (if M.1 46 s = 0 then 0 else 1) h ?_ ?_
              · rw [b89, eBX9_sealed_89, if_neg y0, if_neg y1, if_pos y2, rdI_nI (by omega) (by decide), Option.bind_some, eFX9_truth]
                by_cases e : M.1 46 s = 0
                · rw [if_pos e, if_pos e]; rfl
                · rw [if_neg e, if_neg e]; rfl
              · rw [hrf M rfl, if_neg y0, if_neg y1, if_pos y2, rdI_nI (by omega) (by decide), Option.bind_some, ← (k3 s (by omega)).1]
                by_cases e : M.1 46 s = 0
                · rw [if_pos e, if_pos e]
                · rw [if_neg e, if_neg e]
            · by_cases y3 : y = 3
              · obtain ⟨r, M1, q1, q2, q3⟩ := hold_c hN h hs
                have hI1 := Inv_S q2 h
                obtain ⟨M2, t1, t2, t3⟩ := hold_r hN hI1 hs (HoldR_Q (by omega) (sameQ_S q2) hn q3)
                refine ⟨r, M1, M2, ?_, ?_, n, np, ns, t3⟩
                · rw [b89, eBX9_sealed_89, if_neg y0, if_neg y1, if_neg y2, if_pos y3, q1, Option.bind_some, eFX9_truth]
                  rcases q3.1 with e | e
                  · rw [e]; rfl
                  · rw [e]; rfl
                · rw [hrf M1 (q2.2 69 (by decide) (by decide) (by decide)), if_neg y0, if_neg y1, if_neg y2, if_pos y3, t1, Option.bind_some]
                  rcases q3.1 with e | e
                  · rw [e]; rfl
                  · rw [e]; rfl
              · refine CallP_same (-2) h ?_ ?_
                · rw [b89, eBX9_sealed_89, if_neg y0, if_neg y1, if_neg y2, if_neg y3]
                · rw [hrf M rfl, if_neg y0, if_neg y1, if_neg y2, if_neg y3]
  · refine CallP_same (-1) h ?_ ?_
    · rw [eFX9_sealed, p1 M k1, Option.bind_some, if_pos rfl]
    · rw [eFX10_sealed, p2 M k2, Option.bind_some, if_neg (by decide)]
/-! told -/
theorem cnt_cntB (m : Int32) : ∀ k, cnt m k = cntB (fun i => bt m i) k
  | 0 => rfl
  | k + 1 => by simp only [cnt, cntB]; rw [cnt_cntB m k]
theorem cntB_cut {P : Nat → Bool} {n : Nat} : ∀ k, n ≤ k → cntB (fun f => decide (f < n) && P f) k = cntB P n
  | 0, h => by
    have : n = 0 := by omega
    subst this; rfl
  | k + 1, h => by
    by_cases e : n = k + 1
    · subst e
      exact cntB_congr _ (fun i hi => by simp [hi])
    · have := cntB_cut (P := P) (n := n) k (by omega)
      have hk : ¬ k < n := by omega
      rw [cntB_f (by simp [hk]), this]
theorem askedR_run {N n : Nat} {M : Mm} (hN : 100 < N) (hn : n ≤ 12) (hc : M.1 69 0 = nI n) : FX10_asked N M = some (nI (cntB (fun f => decide (M.1 72 f = 0)) n)) := by
  rw [eFX10_asked]
  refine lp_up (fun i (q : Int32 × Int32) => q = (nI (cntB (fun f => decide (M.1 72 f = 0)) i), nI i)) (fun o => o = some (nI (cntB (fun f => decide (M.1 72 f = 0)) n))) n N _ rfl (by omega) ?_ ?_
  · rintro i _ K hi rfl
    left
    refine ⟨_, rfl, ?_⟩
    rw [eBX10_asked_4]
    dsimp only
    rw [hc, if_neg (lt_nI hi (by omega)), rdI_nI (by omega) (by decide), Option.bind_some, nI_1, nI_1]
    by_cases e : M.1 72 i = 0
    · rw [if_pos e, cntB_t (by simp [e])]
    · rw [if_neg e, Int32.add_zero, cntB_f (by simp [e])]
  · rintro _ K rfl
    rw [eBX10_asked_4]
    dsimp only
    rw [hc, if_pos (le_nI n (by omega))]
theorem ansC_run {N n d : Nat} {M : Mm} (hN : 100 < N) (hn : n ≤ 12) (hd : d < 4) (hc : M.1 2 6 = nI n) : FX9_countAnswers N (nI d) M = some (nI (cntB (fun f => decide (¬ M.1 (33 + d) f = LO)) n)) := by
  rw [eFX9_countAnswers]
  refine lp_up (fun i (q : Int32 × Int32 × Int32) => q = (nI d, nI (cntB (fun f => decide (¬ M.1 (33 + d) f = LO)) i), nI i)) (fun o => o = some (nI (cntB (fun f => decide (¬ M.1 (33 + d) f = LO)) n))) n N _ rfl (by omega) ?_ ?_
  · rintro i _ K hi rfl
    left
    refine ⟨_, rfl, ?_⟩
    rw [eBX9_countAnswers_4]
    dsimp only
    rw [hc, if_neg (lt_nI hi (by omega)), ckR_nI hd (by decide), Option.bind_some, rdI_nI (by omega) (by decide), Option.bind_some, show (-2000000000 : Int32) = LO from rfl, eBX9_countAnswers_37, eBX9_countAnswers_37, show FX9_truth 0 M = some 0 from rfl, show FX9_truth 1 M = some 1 from rfl, Option.bind_some, Option.bind_some, nI_1, nI_1]
    by_cases e : M.1 (33 + d) i = LO
    · rw [if_pos e, Int32.add_zero, cntB_f (by simp [e])]
    · rw [if_neg e, cntB_t (by simp [e])]
  · rintro _ K rfl
    rw [eBX9_countAnswers_4]
    dsimp only
    rw [hc, if_pos (le_nI n (by omega))]
theorem ansR_run {N n d : Nat} {x : Int32} {M : Mm} {P : Nat → Bool} (hN : 100 < N) (hn : n ≤ 12) (hd : d < 4) (hc : M.1 69 0 = nI n) (hx : x - 10 = nI d) (hP : ∀ f, f < n → P f = decide (¬ M.1 88 (12 * d + f) = LO)) : lp (BX10_told_15 N) N (x, 0, 0, M) = some (nI (cntB P n), M) := by
  refine lp_up (fun i (q : Int32 × Int32 × Int32 × Mm) => q = (x, nI (cntB P i), nI i, M)) (fun o => o = some (nI (cntB P n), M)) n N _ rfl (by omega) ?_ ?_
  · rintro i _ K hi rfl
    left
    refine ⟨_, rfl, ?_⟩
    rw [eBX10_told_15]
    dsimp only
    rw [hc, if_neg (lt_nI hi (by omega)), hx, ix12, rdI_nI (by omega) (by decide), Option.bind_some, show (-2000000000 : Int32) = LO from rfl, nI_1, nI_1]
    by_cases e : M.1 88 (12 * d + i) = LO
    · rw [if_pos e, Int32.add_zero, cntB_f (P := P) (by rw [hP i hi]; simp [e])]
    · rw [if_neg e, cntB_t (P := P) (by rw [hP i hi]; simp [e])]
  · rintro _ K rfl
    rw [eBX10_told_15]
    dsimp only
    rw [hc, if_pos (le_nI n (by omega))]
theorem holds_c {N n np ns : Nat} {M : Mm} (hN : 100 < N) (h : Inv n np ns M) : ∃ (R : Nat → Int32) (M1 : Mm), FX9_countHolding N M = some (nI (cntB (fun j => decide (R j = 1)) ns), M1) ∧ sameS 37 M M1 ∧ ∀ s, s < ns → HoldR n np M s (R s) := by
  obtain ⟨hn, hnp, c1, c2, c3, c4⟩ := Inv_n h
  obtain ⟨h6, k1, k2, k3, k4⟩ := h.2.2.2.1
  rw [eFX9_countHolding]
  refine lp_up (fun i (q : Int32 × Int32 × Mm) => ∃ R : Nat → Int32, q.1 = nI (cntB (fun j => decide (R j = 1)) i) ∧ q.2.1 = nI i ∧ sameS 37 M q.2.2 ∧ ∀ s, s < i → HoldR n np M s (R s)) (fun o => ∃ (R : Nat → Int32) (M1 : Mm), o = some (nI (cntB (fun j => decide (R j = 1)) ns), M1) ∧ sameS 37 M M1 ∧ ∀ s, s < ns → HoldR n np M s (R s)) ns N _ ⟨fun _ => 0, rfl, rfl, sameS_rf 37 M, fun s hs => absurd hs (Nat.not_lt_zero _)⟩ (by omega) ?_ ?_
  · rintro i ⟨x1, x2, Q⟩ K hi ⟨R, e1, e2, s1, g1⟩
    dsimp only at e1 e2 s1 g1
    subst e1
    subst e2
    left
    obtain ⟨r, Q1, q1, q2, q3⟩ := hold_c hN (Inv_S s1 h) hi
    have q4 : HoldR n np M i r := HoldR_Q (by omega) ⟨fun a u _ _ _ _ _ => (s1.2 a (by omega) (by omega) (by omega)).symm, fun j _ => by rw [s1.2 69 (by decide) (by decide) (by decide)]⟩ hn q3
    refine ⟨(nI (cntB (fun j => decide ((if j = i then r else R j) = 1)) (i + 1)), nI (i + 1), Q1), ⟨fun j => if j = i then r else R j, rfl, rfl, sameS_t s1 q2, fun s hs => ?_⟩, ?_⟩
    · dsimp only
      by_cases e : s = i
      · rw [if_pos e, e]; exact q4
      · rw [if_neg e]; exact g1 s (by omega)
    · rw [eBX9_countHolding_4]
      dsimp only
      rw [s1.2 43 (by decide) (by decide) (by decide), k1, if_neg (lt_nI hi (by omega)), q1, Option.bind_some]
      dsimp only
      have hcg : cntB (fun j => decide ((if j = i then r else R j) = 1)) i = cntB (fun j => decide (R j = 1)) i := cntB_congr i (fun j hj => by rw [if_neg (by omega)])
      rw [nI_1]
      rcases q3.1 with e | e
      · subst e
        rw [cntB_f (by simp), hcg, show FX9_truth 0 Q1 = some 0 from rfl, Option.bind_some, Int32.add_zero]
      · subst e
        rw [cntB_t (by simp), hcg, show FX9_truth 1 Q1 = some 1 from rfl, Option.bind_some, nI_1]
  · rintro ⟨x1, x2, Q⟩ K ⟨R, e1, e2, s1, g1⟩
    dsimp only at e1 e2 s1 g1
    subst e1
    subst e2
    rw [eBX9_countHolding_4]
    dsimp only
    rw [s1.2 43 (by decide) (by decide) (by decide), k1, if_pos (le_nI ns (by omega))]
    exact ⟨R, Q, rfl, s1, g1⟩
theorem holds_r {N n np ns : Nat} {R : Nat → Int32} {M : Mm} (hN : 100 < N) (h : Inv n np ns M) (hR : ∀ s, s < ns → HoldR n np M s (R s)) : ∃ M1, lp (BX10_told_118 N) N (0, 0, M) = some (nI (cntB (fun j => decide (R j = 1)) ns), M1) ∧ Inv n np ns M1 := by
  obtain ⟨hn, hnp, c1, c2, c3, c4⟩ := Inv_n h
  obtain ⟨h6, k1, k2, k3, k4⟩ := h.2.2.2.1
  refine lp_up (fun i (q : Int32 × Int32 × Mm) => q.1 = nI (cntB (fun j => decide (R j = 1)) i) ∧ q.2.1 = nI i ∧ sameW M q.2.2 ∧ Inv n np ns q.2.2) (fun o => ∃ M1 : Mm, o = some (nI (cntB (fun j => decide (R j = 1)) ns), M1) ∧ Inv n np ns M1) ns N _ ⟨rfl, rfl, sameW_rf M, h⟩ (by omega) ?_ ?_
  · rintro i ⟨x1, x2, Q⟩ K hi ⟨e1, e2, s1, g1⟩
    dsimp only at e1 e2 s1 g1
    subst e1
    subst e2
    left
    obtain ⟨Q1, q1, q2, q3⟩ := hold_r hN g1 hi (HoldR_Q (by omega) (sameQ_W s1) hn (hR i hi))
    refine ⟨(nI (cntB (fun j => decide (R j = 1)) (i + 1)), nI (i + 1), Q1), ⟨rfl, rfl, sameW_t s1 q2, q3⟩, ?_⟩
    rw [eBX10_told_118]
    dsimp only
    rw [s1.2 25 (by decide), k2, if_neg (lt_nI hi (by omega)), q1, Option.bind_some, nI_1, nI_1]
    rcases (hR i hi).1 with e | e
    · rw [cntB_f (by simp [e]), e, if_pos rfl, Int32.add_zero]
    · rw [cntB_t (by simp [e]), e, if_neg (show ¬ (1 : Int32) = 0 by decide)]
  · rintro ⟨x1, x2, Q⟩ K ⟨e1, e2, s1, g1⟩
    dsimp only at e1 e2 s1 g1
    subst e1
    subst e2
    rw [eBX10_told_118]
    dsimp only
    rw [s1.2 25 (by decide), k2, if_pos (le_nI ns (by omega))]
    exact ⟨Q, rfl, g1⟩
theorem c_told {N n np ns : Nat} {x : Int32} {M : Mm} (hN : 100 < N) (h : Inv n np ns M) : CallP (FX9_told N x M) (FX10_told N x) := by
  obtain ⟨hn, hnp, c1, c2, c3, c4⟩ := Inv_n h
  obtain ⟨h6, k1, k2, k3, k4⟩ := h.2.2.2.1
  have e13 : nI (10 + 4) - 1 = (13 : Int32) := by decide
  rcases rngQ (n := 4) (b := 10) x (by omega) (by omega) with ⟨d, hd, rfl, a1, a2, a3⟩ | a1
  · rw [e13] at a3
    have ne : ∀ k, k < 10 → ¬ nI (10 + d) = nI k := fun k hk q => by have := nI_inj (a := 10 + d) (b := k) (by omega) (by omega) q; omega
    have hdr : FX9_hasDraft (nI d) M = some 1 := by rw [eFX9_hasDraft, if_neg (nI_pos (by omega)), if_neg (show ¬ (4 : Int32) ≤ nI d from lt_nI (n := 4) hd (by decide))]
    refine CallP_same (nI (cntB (fun f => decide (¬ M.1 (33 + d) f = LO)) n)) h ?_ ?_
    · rw [eFX9_told, if_neg (show ¬ nI (10 + d) = 0 from ne 0 (by decide)), if_neg (show ¬ nI (10 + d) = 1 from ne 1 (by decide)), if_neg (show ¬ nI (10 + d) = 2 from ne 2 (by decide)), if_neg (show ¬ nI (10 + d) = 3 from ne 3 (by decide)), if_neg (show ¬ nI (10 + d) = 4 from ne 4 (by decide)), if_neg (show ¬ nI (10 + d) = 5 from ne 5 (by decide)), if_neg (show ¬ nI (10 + d) < 10 from a1), show nI (10 + d) - 10 = nI d from a2, hdr, Option.bind_some, if_neg (by decide), ansC_run hN hn hd c1, Option.bind_some]
    · rw [eFX10_told, eFX10_in, if_neg (show ¬ nI (10 + d) < 10 from a1), if_neg a3, Option.bind_some, if_neg (by decide)]
      exact ansR_run hN hn hd c3 a2 (fun f hf => by rw [← (h.2.2.1 d f hd (by omega)).1])
  · have hin : ∀ Q : Mm, FX10_in x 10 13 Q = some 0 := fun Q => by
      rw [eFX10_in]
      rcases a1 with q | ⟨q, _, q2⟩
      · rw [if_pos (show x < 10 from q)]
      · rw [e13] at q2
        rw [if_neg (show ¬ x < 10 from q), if_pos q2]
    by_cases y0 : x = 0
    · refine CallP_same (nI n) h ?_ ?_
      · rw [eFX9_told, if_pos y0, c1]
      · rw [eFX10_told, hin, Option.bind_some, if_pos rfl, if_pos y0, c3]
    · by_cases y1 : x = 1
      · refine CallP_same (nI np) h ?_ ?_
        · rw [eFX9_told, if_neg y0, if_pos y1, c2]
        · rw [eFX10_told, hin, Option.bind_some, if_pos rfl, if_neg y0, if_pos y1, c4]
      · by_cases y2 : x = 2
        · obtain ⟨m, m1, m2⟩ := asked_run hN hn c1
          have hlow : low 12 m := fun i hi => by rw [m2 i]; have : ¬ i < n := by omega
                                                 simp [this]
          have hcnt : cnt m 12 = cntB (fun f => decide (M.1 72 f = 0)) n := by
            rw [cnt_cntB, ← cntB_cut (P := fun f => decide (M.1 72 f = 0)) 12 hn]
            refine cntB_congr 12 (fun i _ => ?_)
            rw [m2 i, h.1.2.1.2.2.1]
          refine CallP_same (nI (cntB (fun f => decide (M.1 72 f = 0)) n)) h ?_ ?_
          · rw [eFX9_told, if_neg y0, if_neg y1, if_pos y2, m1, Option.bind_some, bitCount_run hlow, Option.bind_some, hcnt]
          · rw [eFX10_told, hin, Option.bind_some, if_pos rfl, if_neg y0, if_neg y1, if_pos y2, askedR_run hN hn c3, Option.bind_some]
        · by_cases y3 : x = 3
          · refine CallP_same (nI ns) h ?_ ?_
            · rw [eFX9_told, if_neg y0, if_neg y1, if_neg y2, if_pos y3, k1]
            · rw [eFX10_told, hin, Option.bind_some, if_pos rfl, if_neg y0, if_neg y1, if_neg y2, if_pos y3, k2]
          · by_cases y4 : x = 4
            · obtain ⟨R, M1, q1, q2, q3⟩ := holds_c hN h
              obtain ⟨M2, t1, t2⟩ := holds_r hN (Inv_S q2 h) (fun s hs => HoldR_Q (by omega) (sameQ_S q2) hn (q3 s hs))
              refine ⟨nI (cntB (fun j => decide (R j = 1)) ns), M1, M2, ?_, ?_, n, np, ns, t2⟩
              · rw [eFX9_told, if_neg y0, if_neg y1, if_neg y2, if_neg y3, if_pos y4, q1, Option.bind_some]
              · rw [eFX10_told, hin, Option.bind_some, if_pos rfl, if_neg y0, if_neg y1, if_neg y2, if_neg y3, if_pos y4, t1]
            · by_cases y5 : x = 5
              · obtain ⟨r, hr, o1, o2, o3⟩ := h.2.2.2.2.2.1
                refine CallP_same (nI r) h ?_ ?_
                · rw [eFX9_told, if_neg y0, if_neg y1, if_neg y2, if_neg y3, if_neg y4, if_pos y5, o1]
                · rw [eFX10_told, hin, Option.bind_some, if_pos rfl, if_neg y0, if_neg y1, if_neg y2, if_neg y3, if_neg y4, if_pos y5, o2]
              · refine CallP_same (-2) h ?_ ?_
                · rw [eFX9_told, if_neg y0, if_neg y1, if_neg y2, if_neg y3, if_neg y4, if_neg y5]
                  rcases a1 with q | ⟨q, q2, q3⟩
                  · rw [if_pos (show x < 10 from q)]
                  · rw [e13] at q3
                    have h0 : ¬ x < 0 := fun z => q (by
                      rw [Int32.lt_iff_toInt_lt] at z ⊢
                      have e0 : (0 : Int32).toInt = 0 := by decide
                      have e1 : (nI 10).toInt = 10 := by decide
                      omega)
                    obtain ⟨j, hj, rfl⟩ := nI_of h0
                    have hj14 : 14 ≤ j := by
                      rcases Nat.lt_or_ge j 14 with z | z
                      · exact absurd q3 (show ¬ (13 : Int32) < nI j from nI_nlt (a := 13) (b := j) (by omega) (by omega))
                      · exact z
                    have hdr : FX9_hasDraft (nI j - 10) M = some 0 := by
                      rw [show nI j - 10 = nI (j - 10) from pk_sub (b := 10) (by omega), eFX9_hasDraft, if_neg (nI_pos (by omega)), if_pos (show (4 : Int32) ≤ nI (j - 10) from nI_le (a := 4) (by omega) (by omega))]
                    rw [if_neg (show ¬ nI j < 10 from q), hdr, Option.bind_some, if_pos rfl]
                · rw [eFX10_told, hin, Option.bind_some, if_pos rfl, if_neg y0, if_neg y1, if_neg y2, if_neg y3, if_neg y4, if_neg y5]
