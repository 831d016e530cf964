/-! ===== seal, open ===== -/
theorem shl_12 : ∀ n, n < 13 → (1 : Int32) <<< (nI n &&& 31) = nI (2 ^ n) := by decide +kernel
theorem pow_12 : ∀ n, n < 13 → 2 ^ n ≤ 4096 := by decide
theorem low_pow {n j : Nat} (hj : j < 2 ^ n) (hn : n < 13) : low n (nI j) := fun i hi => by
  have h1 := pow_12 n hn
  have h2 : bt (nI j) i = j.testBit i := by
    unfold bt
    rw [← BitVec.testBit_toNat, pk_tn (by omega)]
  rw [h2]
  exact Nat.testBit_lt_two_pow (Nat.lt_of_lt_of_le hj (Nat.pow_le_pow_right (by decide) hi))
theorem selArg {n : Nat} (x : Int32) (hn : n ≤ 12) : x < 1 ∨ (¬ x < 1 ∧ ¬ x < (1 : Int32) <<< (nI n &&& 31) ∧ (1 : Int32) <<< (nI n &&& 31) - 1 < x) ∨ (¬ x < 1 ∧ x < (1 : Int32) <<< (nI n &&& 31) ∧ ¬ (1 : Int32) <<< (nI n &&& 31) - 1 < x ∧ low n x) := by
  have hp := pow_12 n (by omega)
  rw [shl_12 n (by omega)]
  by_cases h1 : x < 1
  · exact Or.inl h1
  · have h0 : ¬ x < 0 := fun h => h1 (by
      rw [Int32.lt_iff_toInt_lt] at h ⊢
      have e0 : (0 : Int32).toInt = 0 := by decide
      have e1 : (1 : Int32).toInt = 1 := by decide
      omega)
    rcases pk_ix x (n := 2 ^ n) (by omega) with h | h | ⟨j, hj, rfl⟩
    · exact absurd h h0
    · refine Or.inr (Or.inl ⟨h1, fun q => ?_, (pred_lt (by omega)).mpr h⟩)
      rw [Int32.lt_iff_toInt_lt] at q
      rw [Int32.le_iff_toInt_le] at h
      omega
    · have h2 : nI j < nI (2 ^ n) := nI_lt hj (by omega)
      refine Or.inr (Or.inr ⟨h1, h2, fun q => ?_, low_pow hj (by omega)⟩)
      have := (pred_lt (n := 2 ^ n) (by omega)).mp q
      exact lt_nI hj (by omega) this
theorem seal_c {N n np d ns : Nat} {x : Int32} {M : Mm} (hN : 100 < N) (hnet : netC n np M) (hx : low n x) (hns : ns < 6) (hd : d < 4) (hc : M.1 43 5 = nI ns) : ∃ M1, lp (BX5_add_35 N (33 + d)) N (x, 0, M) = some (nI ns, M1) ∧ M1.2 = M.2 ∧ (∀ z, z ≠ 43 → z ≠ 48 + ns → z ≠ 55 + ns → M1.1 z = M.1 z) ∧ M1.1 43 5 = nI (ns + 1) ∧ ∀ f, f < 12 → M1.1 (48 + ns) f = (if bt x f then M.1 (33 + d) f else LO) ∧ M1.1 (55 + ns) f = if bt x f then stF M f else (-9) := by
  have hn := hnet.1
  refine lp_up (fun i (q : Int32 × Int32 × Mm) => q.1 = x ∧ q.2.1 = nI i ∧ q.2.2.2 = M.2 ∧ (∀ z, z ≠ 48 + ns → z ≠ 55 + ns → q.2.2.1 z = M.1 z) ∧ ∀ f, f < i → q.2.2.1 (48 + ns) f = (if bt x f then M.1 (33 + d) f else LO) ∧ q.2.2.1 (55 + ns) f = if bt x f then stF M f else (-9)) (fun o => ∃ M1 : Mm, o = some (nI ns, M1) ∧ M1.2 = M.2 ∧ (∀ z, z ≠ 43 → z ≠ 48 + ns → z ≠ 55 + ns → M1.1 z = M.1 z) ∧ M1.1 43 5 = nI (ns + 1) ∧ ∀ f, f < 12 → M1.1 (48 + ns) f = (if bt x f then M.1 (33 + d) f else LO) ∧ M1.1 (55 + ns) f = if bt x f then stF M f else (-9)) 12 N _ ⟨rfl, rfl, rfl, fun _ _ _ => rfl, fun f hf => absurd hf (Nat.not_lt_zero _)⟩ (by omega) ?_ ?_
  · rintro i ⟨x1, x2, Q⟩ K hi ⟨e1, e2, s2, s1, g1⟩
    dsimp only at e1 e2 s2 s1 g1
    subst e1
    subst e2
    left
    have e43 : Q.1 43 5 = nI ns := by rw [s1 43 (by omega) (by omega)]; exact hc
    rw [eBX5_add_35]
    dsimp only
    rw [if_neg (show ¬ (12 : Int32) ≤ nI i from lt_nI (n := 12) hi (by decide)), hasBit_run _ (by omega), Option.bind_some, e43, ckR_nI hns (by decide), Option.bind_some]
    have fin : ∀ v w : Int32, v = (if bt x1 i then M.1 (33 + d) i else LO) → w = (if bt x1 i then stF M i else (-9)) → ∃ a' : Int32 × Int32 × Mm, (a'.1 = x1 ∧ a'.2.1 = nI (i + 1) ∧ a'.2.2.2 = M.2 ∧ (∀ z, z ≠ 48 + ns → z ≠ 55 + ns → a'.2.2.1 z = M.1 z) ∧ ∀ f, f < i + 1 → a'.2.2.1 (48 + ns) f = (if bt x1 f then M.1 (33 + d) f else LO) ∧ a'.2.2.1 (55 + ns) f = if bt x1 f then stF M f else (-9)) ∧ K (x1, nI (i + 1), up1 (up1 Q (48 + ns) i v) (55 + ns) i w) = K a' := by
      intro v w hv hw
      refine ⟨_, ⟨rfl, rfl, s2, fun z h1 h2 => ?_, fun f hf => ?_⟩, rfl⟩
      · dsimp only
        rw [up1_ne h2, up1_ne h1]; exact s1 z h1 h2
      · dsimp only
        rw [up1_ne (a := 48 + ns) (by omega), up1_same, up1_same, up1_ne (a := 55 + ns) (by omega)]
        by_cases e : f = i
        · subst e
          rw [if_pos rfl, if_pos rfl]
          exact ⟨hv, hw⟩
        · rw [if_neg e, if_neg e]; exact g1 f (by omega)
    have e43v : ∀ v : Int32, (up1 Q (48 + ns) i v).1 43 5 = nI ns := fun v => by rw [up1_ne (by omega)]; exact e43
    cases hb : bt x1 i with
    | false =>
      rw [if_pos (by rfl), eBX5_add_75, wrI_nI (by omega) (by decide), Option.bind_some, e43v, ckR_nI hns (by decide), Option.bind_some, if_pos (by rfl), wrI_nI (by omega) (by decide), Option.bind_some, nI_1]
      exact fin _ _ (by rw [hb]; rfl) (by rw [hb]; rfl)
    | true =>
      have hin : i < n := by
        rcases Nat.lt_or_ge i n with q | q
        · exact q
        · rw [hx i q] at hb; cases hb
      rw [if_neg (by decide), rdI_nI (by omega) (by decide), Option.bind_some, s1 (33 + d) (by omega) (by omega), eBX5_add_75, wrI_nI (by omega) (by decide), Option.bind_some, e43v, ckR_nI hns (by decide), Option.bind_some, if_neg (by decide)]
      have hc30 : ∀ a, a < 43 → (up1 Q (48 + ns) i (M.1 (33 + d) i)).1 a = M.1 a := fun a ha => by rw [up1_ne (by omega)]; exact s1 a (by omega) (by omega)
      have hst : FX6_statusOf 37 (nI i) (up1 Q (48 + ns) i (M.1 (33 + d) i)) = some (stF M i) := by
        rw [status_c (netC_30 (fun a h _ _ _ _ => hc30 a (by omega)) hnet) hin, hc30 (37 + 2) (by omega), hc30 (37 + 3) (by omega), hc30 (37 + 1) (by omega), hc30 (7 + i) (by omega)]
        rfl
      rw [hst, Option.bind_some, wrI_nI (by omega) (by decide), Option.bind_some, nI_1]
      exact fin _ _ (by rw [hb]; rfl) (by rw [hb]; rfl)
  · rintro ⟨x1, x2, Q⟩ K ⟨e1, e2, s2, s1, g1⟩
    dsimp only at e1 e2 s2 s1 g1
    subst e1
    subst e2
    have e43 : Q.1 43 5 = nI ns := by rw [s1 43 (by omega) (by omega)]; exact hc
    rw [eBX5_add_35]
    dsimp only
    rw [if_pos (by decide)]
    show ∃ M1, ((some (up1 Q 43 5 (Q.1 43 5 + 1))).bind fun M2 => some (M2.1 43 5 - 1, M2)) = some (nI ns, M1) ∧ _
    rw [e43, nI_1, Option.bind_some]
    refine ⟨up1 Q 43 5 (nI (ns + 1)), ?_, s2, fun z h1 h2 h3 => ?_, ?_, fun f hf => ?_⟩
    · rw [up1_same, if_pos rfl, nI_pred]
    · rw [up1_ne h1]; exact s1 z h2 h3
    · rw [up1_same, if_pos rfl]
    · rw [up1_ne (by omega), up1_ne (by omega)]; exact g1 f hf
theorem seal_r {N n d ns : Nat} {x : Int32} {M : Mm} {A S : Nat → Int32} (hN : 100 < N) (hn : n ≤ 12) (hx : low n x) (hns : ns < 6) (hd : d < 4) (hc : M.1 69 25 = nI ns) (hA : ∀ f, f < 12 → A f = if bt x f then (if M.1 72 f = 0 then M.1 88 (12 * d + f) else LO) else LO) (hS : ∀ f, f < n → FX10_statusOf (nI f) M = some (S f)) : ∃ M1, lp (BX10_seal_77 N) N (nI d, x, 0, M) = some (nI ns, M1) ∧ M1.2 = M.2 ∧ (∀ z, z ≠ 69 → z ≠ 93 → z ≠ 94 → M1.1 z = M.1 z) ∧ (∀ j, j ≠ 25 → M1.1 69 j = M.1 69 j) ∧ M1.1 69 25 = nI (ns + 1) ∧ (∀ j, (j < 12 * ns ∨ 12 * ns + 12 ≤ j) → M1.1 93 j = M.1 93 j ∧ M1.1 94 j = M.1 94 j) ∧ ∀ f, f < 12 → M1.1 93 (12 * ns + f) = A f ∧ M1.1 94 (12 * ns + f) = if bt x f then S f else (-9) := by
  refine lp_up (fun i (q : Int32 × Int32 × Int32 × Mm) => q.1 = nI d ∧ q.2.1 = x ∧ q.2.2.1 = nI i ∧ q.2.2.2.2 = M.2 ∧ (∀ z, z ≠ 93 → z ≠ 94 → q.2.2.2.1 z = M.1 z) ∧ (∀ j, (j < 12 * ns ∨ 12 * ns + 12 ≤ j) → q.2.2.2.1 93 j = M.1 93 j ∧ q.2.2.2.1 94 j = M.1 94 j) ∧ ∀ f, f < i → q.2.2.2.1 93 (12 * ns + f) = A f ∧ q.2.2.2.1 94 (12 * ns + f) = if bt x f then S f else (-9)) (fun o => ∃ M1 : Mm, o = some (nI ns, M1) ∧ M1.2 = M.2 ∧ (∀ z, z ≠ 69 → z ≠ 93 → z ≠ 94 → M1.1 z = M.1 z) ∧ (∀ j, j ≠ 25 → M1.1 69 j = M.1 69 j) ∧ M1.1 69 25 = nI (ns + 1) ∧ (∀ j, (j < 12 * ns ∨ 12 * ns + 12 ≤ j) → M1.1 93 j = M.1 93 j ∧ M1.1 94 j = M.1 94 j) ∧ ∀ f, f < 12 → M1.1 93 (12 * ns + f) = A f ∧ M1.1 94 (12 * ns + f) = if bt x f then S f else (-9)) 12 N _ ⟨rfl, rfl, rfl, rfl, fun _ _ _ => rfl, fun _ _ => ⟨rfl, rfl⟩, fun f hf => absurd hf (Nat.not_lt_zero _)⟩ (by omega) ?_ ?_
  · rintro i ⟨x1, x2, x3, Q⟩ K hi ⟨e1, e2, e3, s2, s1, s3, g1⟩
    dsimp only at e1 e2 e3 s2 s1 s3 g1
    subst e1
    subst e2
    subst e3
    have e69 : Q.1 69 25 = nI ns := by rw [s1 69 (by decide) (by decide)]; exact hc
    have fin : ∀ w : Int32, w = (if bt x2 i then S i else (-9)) → ∃ a' : Int32 × Int32 × Int32 × Mm, (a'.1 = nI d ∧ a'.2.1 = x2 ∧ a'.2.2.1 = nI (i + 1) ∧ a'.2.2.2.2 = M.2 ∧ (∀ z, z ≠ 93 → z ≠ 94 → a'.2.2.2.1 z = M.1 z) ∧ (∀ j, (j < 12 * ns ∨ 12 * ns + 12 ≤ j) → a'.2.2.2.1 93 j = M.1 93 j ∧ a'.2.2.2.1 94 j = M.1 94 j) ∧ ∀ f, f < i + 1 → a'.2.2.2.1 93 (12 * ns + f) = A f ∧ a'.2.2.2.1 94 (12 * ns + f) = if bt x2 f then S f else (-9)) ∧ K (nI d, x2, nI (i + 1), up1 (up1 Q 93 (12 * ns + i) (A i)) 94 (12 * ns + i) w) = K a' := by
      intro w hw
      refine ⟨_, ⟨rfl, rfl, rfl, s2, fun z h1 h2 => ?_, fun j hj => ?_, fun f hf => ?_⟩, rfl⟩
      · dsimp only
        rw [up1_ne h2, up1_ne h1]; exact s1 z h1 h2
      · dsimp only
        rw [up1_ne (a := 93) (by decide), up1_same, up1_same, up1_ne (a := 94) (by decide), if_neg (by omega), if_neg (by omega)]
        exact s3 j hj
      · dsimp only
        rw [up1_ne (a := 93) (by decide), up1_same, up1_same, up1_ne (a := 94) (by decide)]
        by_cases e : f = i
        · subst e
          rw [if_pos rfl, if_pos rfl]
          exact ⟨rfl, hw⟩
        · rw [if_neg (by omega), if_neg (by omega)]; exact g1 f (by omega)
    have e69v : ∀ v : Int32, (up1 Q 93 (12 * ns + i) v).1 69 25 = nI ns := fun v => by rw [up1_ne (by decide)]; exact e69
    -- what seal_142 does
    have k142 : ∀ t : Int32, (t = 1 ∧ bt x2 i = true ∨ t = 0 ∧ bt x2 i = false) → ∃ a' : Int32 × Int32 × Int32 × Mm, (a'.1 = nI d ∧ a'.2.1 = x2 ∧ a'.2.2.1 = nI (i + 1) ∧ a'.2.2.2.2 = M.2 ∧ (∀ z, z ≠ 93 → z ≠ 94 → a'.2.2.2.1 z = M.1 z) ∧ (∀ j, (j < 12 * ns ∨ 12 * ns + 12 ≤ j) → a'.2.2.2.1 93 j = M.1 93 j ∧ a'.2.2.2.1 94 j = M.1 94 j) ∧ ∀ f, f < i + 1 → a'.2.2.2.1 93 (12 * ns + f) = A f ∧ a'.2.2.2.1 94 (12 * ns + f) = if bt x2 f then S f else (-9)) ∧ BX10_seal_142 N K (nI d) x2 (nI i) t (nI (12 * ns + i)) (A i) Q = K a' := by
      intro t ht
      rw [eBX10_seal_142, wrI_nI (by omega) (by decide), Option.bind_some, e69v, ix12, nI_1]
      rcases ht with ⟨ht, hb⟩ | ⟨ht, hb⟩
      · have hin : i < n := by
          rcases Nat.lt_or_ge i n with q | q
          · exact q
          · rw [hx i q] at hb; cases hb
        have hst : FX10_statusOf (nI i) (up1 Q 93 (12 * ns + i) (A i)) = some (S i) := by
          rw [statusR_cg (M := M) (fun a ha => by rw [up1_ne (by omega)]; exact s1 a (by omega) (by omega))]
          exact hS i hin
        rw [ht, if_neg (by decide), hst, Option.bind_some, wrI_nI (by omega) (by decide), Option.bind_some]
        exact fin _ (by rw [hb]; rfl)
      · rw [ht, if_pos rfl, wrI_nI (by omega) (by decide), Option.bind_some]
        exact fin _ (by rw [hb]; rfl)
    left
    rw [eBX10_seal_77]
    dsimp only
    rw [if_neg (show ¬ (12 : Int32) ≤ nI i from lt_nI (n := 12) hi (by decide))]
    cases hb : bt x2 i with
    | false =>
      rw [if_neg (fun q => by have := (b_set _ (by omega)).mp q; rw [hb] at this; cases this), eBX10_seal_97, if_pos rfl, eBX10_seal_140, e69, ix12]
      have hAi : (-2000000000 : Int32) = A i := by rw [hA i hi, hb]; rfl
      rw [hAi]
      exact k142 0 (Or.inr ⟨rfl, hb⟩)
    | true =>
      rw [if_pos ((b_set _ (by omega)).mpr hb), eBX10_seal_97, if_neg (by decide), rdI_nI (by omega) (by decide), Option.bind_some, s1 72 (by decide) (by decide), e69, ix12, ix12]
      by_cases e : M.1 72 i = 0
      · rw [if_pos e, rdI_nI (by omega) (by decide), Option.bind_some, s1 88 (by decide) (by decide)]
        have hAi : M.1 88 (12 * d + i) = A i := by rw [hA i hi, hb, if_pos rfl, if_pos e]
        rw [hAi]
        exact k142 1 (Or.inl ⟨rfl, hb⟩)
      · rw [if_neg e, eBX10_seal_140]
        have hAi : (-2000000000 : Int32) = A i := by rw [hA i hi, hb, if_pos rfl, if_neg e]; rfl
        rw [hAi]
        exact k142 1 (Or.inl ⟨rfl, hb⟩)
  · rintro ⟨x1, x2, x3, Q⟩ K ⟨e1, e2, e3, s2, s1, s3, g1⟩
    dsimp only at e1 e2 e3 s2 s1 s3 g1
    subst e1
    subst e2
    subst e3
    have e69 : Q.1 69 25 = nI ns := by rw [s1 69 (by decide) (by decide)]; exact hc
    rw [eBX10_seal_77]
    dsimp only
    rw [if_pos (by decide)]
    show ∃ M1, ((some (up1 Q 69 25 (Q.1 69 25 + 1))).bind fun M2 => some (M2.1 69 25 - 1, M2)) = some (nI ns, M1) ∧ _
    rw [e69, nI_1, Option.bind_some]
    refine ⟨up1 Q 69 25 (nI (ns + 1)), ?_, s2, fun z h1 h2 h3 => ?_, fun j hj => ?_, ?_, fun j hj => ?_, fun f hf => ?_⟩
    · rw [up1_same, if_pos rfl, nI_pred]
    · rw [up1_ne h1]; exact s1 z h2 h3
    · rw [up1_same, if_neg hj, s1 69 (by decide) (by decide)]
    · rw [up1_same, if_pos rfl]
    · rw [up1_ne (by decide), up1_ne (by decide)]; exact s3 j hj
    · rw [up1_ne (by decide), up1_ne (by decide)]; exact g1 f hf
theorem c_seal {N n np ns : Nat} {x y : Int32} {M : Mm} (hN : 100 < N) (h : Inv n np ns M) : CallP (FX9_seal N x y M) (FX10_seal N x y) := by
  obtain ⟨hn, hnp, c1, c2, c3, c4⟩ := Inv_n h
  obtain ⟨h6, k1, k2, k3, k4⟩ := h.2.2.2.1
  rcases drfQ x with ⟨d, hd, rfl, p1, p2⟩ | ⟨p1, p2⟩
  · rcases selArg (n := n) y hn with q1 | ⟨q1, q2, q3⟩ | ⟨q1, q2, q3, q4⟩
    · refine CallP_same (-2) h ?_ ?_
      · rw [eFX9_seal, p1, Option.bind_some, if_neg (by decide), if_pos q1]
      · rw [eFX10_seal, p2, Option.bind_some, if_pos rfl, eFX10_in, if_pos q1, Option.bind_some, if_pos rfl]
    · refine CallP_same (-2) h ?_ ?_
      · rw [eFX9_seal, p1, Option.bind_some, if_neg (by decide), if_neg q1, c1, if_neg q2]
      · rw [eFX10_seal, p2, Option.bind_some, if_pos rfl, eFX10_in, if_neg q1, c3, if_pos q3, Option.bind_some, if_pos rfl]
    · obtain ⟨c, hst⟩ := h.1.1.2.2
      obtain ⟨M1, l1, l2, l3, l4⟩ := look_run (N := N) (s := 37) (k := 33 + d) hN (Or.inl rfl) (Or.inl ⟨by omega, by omega⟩) h.1.1.1 hst.1
      have hI1 := Inv_S l2 h
      have hx1 : ∀ a, (a < 38 ∨ 40 < a) → M1.1 a = M.1 a := fun a ha => l2.2 a (by omega) (by omega) (by omega)
      have i43 : M1.1 43 5 = nI ns := by rw [hx1 43 (by omega)]; exact k1
      have hin : ∀ Q : Mm, Q.1 69 0 = nI n → FX10_in y 1 ((1 : Int32) <<< (Q.1 69 0 &&& 31) - 1) Q = some 1 := fun Q hQ => by rw [eFX10_in, hQ, if_neg q1, if_neg q3]
      by_cases hfull : ns = 6
      · refine ⟨-4, M1, M1, ?_, ?_, n, np, ns, hI1⟩
        · rw [eFX9_seal, p1, Option.bind_some, if_neg (by decide), if_neg q1, c1, if_pos q2, ckR_nI hd (by decide), Option.bind_some, l1, Option.bind_some, Option.bind_some, eFX5_add, i43, hfull, if_neg (by decide), Option.bind_some]
        · rw [eFX10_seal, p2, Option.bind_some, if_pos rfl, hin M1 (by rw [hx1 69 (by omega)]; exact c3), Option.bind_some, if_neg (by decide), hx1 69 (by omega), k2, hfull, if_pos (by rfl)]
      · have hns : ns < 6 := by omega
        obtain ⟨A1, hA1⟩ : ∃ A1, A1 = up1 (up1 M1 44 ns (nI d)) 45 ns y := ⟨_, rfl⟩
        have ax : ∀ a, a ≠ 44 → a ≠ 45 → A1.1 a = M1.1 a := fun a h1 h2 => by rw [hA1, up1_ne h2, up1_ne h1]
        obtain ⟨B, b1, b2, b3, b4, b5⟩ := seal_c (N := N) (n := n) (np := np) (d := d) (ns := ns) (x := y) (M := A1) hN (netC_30 (fun a ha _ _ _ _ => ax a (by omega) (by omega)) hI1.1.1.1) q4 hns hd (by rw [ax 43 (by decide) (by decide)]; exact i43)
        have bx : ∀ a, a ≠ 43 → a ≠ 44 → a ≠ 45 → a ≠ 48 + ns → a ≠ 55 + ns → B.1 a = M1.1 a := fun a h1 h2 h3 h4 h5 => (b3 a h1 h4 h5).trans (ax a h2 h3)
        have eA2 : A1.2 = M1.2 := by rw [hA1]; rfl
        have hst : ∀ f, stF A1 f = stG B (M1.1 38) (M1.1 39) (M1.1 40) f ∨ ¬ f < 12 := fun f => by
          by_cases hf : f < 12
          · left
            unfold stF stG
            rw [ax 38 (by decide) (by decide), ax 39 (by decide) (by decide), ax 40 (by decide) (by decide), ax (7 + f) (by omega) (by omega), bx (7 + f) (by omega) (by omega) (by omega) (by omega) (by omega)]
          · exact Or.inr hf
        have hcB : coreI n np B := coreI_same (fun a ha => bx a (by omega) (by omega) (by omega) (by omega) (by omega)) (fun a h1 h2 => bx a (by omega) (by omega) (by omega) (by omega) (by omega)) (by rw [bx 69 (by decide) (by decide) (by decide) (by omega) (by omega)]) (by rw [bx 69 (by decide) (by decide) (by decide) (by omega) (by omega)]) hI1.1
        have hrB : refI n np B := refI_2 (fun a h1 h2 => bx a (by omega) (by omega) (by omega) (by omega) (by omega)) (b2.trans eA2) (by rw [bx 69 (by decide) (by decide) (by decide) (by omega) (by omega)]) hI1.2.1
        have hdB : drI n B := drI_same (fun a ha => bx a (by omega) (by omega) (by omega) (by omega) (by omega)) hI1.2.2.1
        have hsol := solR_same (M' := B) (fun a h1 h2 => bx a (by omega) (by omega) (by omega) (by omega) (by omega)) (sol_of (s := 37) (k := 33 + d) hI1.1 l3 l4)
        rw [← bx (33 + d) (by omega) (by omega) (by omega) (by omega) (by omega)] at hsol
        obtain ⟨C, e1, e2, e3, e4⟩ := lay_sol0 hN hd hcB hrB hdB hsol
        obtain ⟨D, hD⟩ : ∃ D, D = up1 (up1 (up1 C 90 ns (nI d)) 91 ns y) 92 ns 0 := ⟨_, rfl⟩
        have dx : ∀ a, a ≠ 90 → a ≠ 91 → a ≠ 92 → D.1 a = C.1 a := fun a h1 h2 h3 => by rw [hD, up1_ne h3, up1_ne h2, up1_ne h1]
        have cx : ∀ a, a ≠ 69 → a ≠ 78 → a ≠ 79 → a ≠ 81 → (a < 83 ∨ 87 < a) → C.1 a = B.1 a := e2.1
        have i69 : ∀ j, j ≠ 10 → C.1 69 j = M.1 69 j := fun j hj => by rw [e2.2 j hj, bx 69 (by decide) (by decide) (by decide) (by omega) (by omega), hx1 69 (by omega)]
        have b33 : B.1 (33 + d) = M.1 (33 + d) := by rw [bx (33 + d) (by omega) (by omega) (by omega) (by omega) (by omega), hx1 (33 + d) (by omega)]
        have a33 : A1.1 (33 + d) = M.1 (33 + d) := by rw [ax (33 + d) (by omega) (by omega), hx1 (33 + d) (by omega)]
        have r5 := h.1.2.1.2.2.1
        obtain ⟨E, f1, f2, f3, f4, f5, f6, f7⟩ := seal_r (N := N) (n := n) (d := d) (ns := ns) (x := y) (M := D) (A := B.1 (48 + ns)) (S := stG B (M1.1 38) (M1.1 39) (M1.1 40)) hN hn q4 hns hd (by rw [dx 69 (by decide) (by decide) (by decide), i69 25 (by decide)]; exact k2) (fun f hf => by
            rw [(b5 f hf).1, a33, dx 72 (by decide) (by decide) (by decide), dx 88 (by decide) (by decide) (by decide), cx 72 (by decide) (by decide) (by decide) (by decide) (by decide), cx 88 (by decide) (by decide) (by decide) (by decide) (by decide), bx 72 (by decide) (by decide) (by decide) (by omega) (by omega), bx 88 (by decide) (by decide) (by decide) (by omega) (by omega), hx1 72 (by omega), hx1 88 (by omega), ← r5, ← (h.2.2.1 d f hd hf).1]
            cases hb : bt y f with
            | false => rfl
            | true =>
              rw [if_pos rfl, if_pos rfl]
              by_cases e : M.1 5 f = 0
              · rw [if_pos e]
              · rw [if_neg e]
                rcases (h.2.2.1 d f hd hf).2 with z | z
                · exact z
                · exact absurd z.2.1 e) (fun f hf => by
            rw [statusR_cg (M := C) (fun a ha => dx a (by omega) (by omega) (by omega))]
            exact e4 f hf)
        have ex : ∀ a, a ≠ 69 → a ≠ 78 → a ≠ 79 → a ≠ 81 → (a < 83 ∨ 87 < a) → a ≠ 90 → a ≠ 91 → a ≠ 92 → a ≠ 93 → a ≠ 94 → E.1 a = B.1 a := fun a h1 h2 h3 h4 h5 h7 h8 h9 h10 h11 => (f3 a h1 h10 h11).trans ((dx a h7 h8 h9).trans (cx a h1 h2 h3 h4 h5))
        have e69 : ∀ j, j ≠ 10 → j ≠ 25 → E.1 69 j = M.1 69 j := fun j h1 h2 => by rw [f4 j h2, dx 69 (by decide) (by decide) (by decide), i69 j h1]
        have exM : ∀ a, a ≠ 69 → a ≠ 78 → a ≠ 79 → a ≠ 81 → (a < 83 ∨ 87 < a) → a ≠ 90 → a ≠ 91 → a ≠ 92 → a ≠ 93 → a ≠ 94 → a ≠ 43 → a ≠ 44 → a ≠ 45 → a ≠ 48 + ns → a ≠ 55 + ns → (a < 38 ∨ 40 < a) → E.1 a = M.1 a := fun a h1 h2 h3 h4 h5 h7 h8 h9 h10 h11 h12 h13 h14 h15 h16 h17 => (ex a h1 h2 h3 h4 h5 h7 h8 h9 h10 h11).trans ((bx a h12 h13 h14 h15 h16).trans (hx1 a h17))
        have eW : ∀ a, 90 ≤ a → a ≤ 94 → C.1 a = M.1 a := fun a h1 h2 => by rw [cx a (by omega) (by omega) (by omega) (by omega) (by omega), bx a (by omega) (by omega) (by omega) (by omega) (by omega), hx1 a (by omega)]
        have hI : Inv n np (ns + 1) E := by
          refine ⟨coreI_same (fun a ha => exM a (by omega) (by omega) (by omega) (by omega) (by omega) (by omega) (by omega) (by omega) (by omega) (by omega) (by omega) (by omega) (by omega) (by omega) (by omega) (by omega)) (fun a h1 h2 => exM a (by omega) (by omega) (by omega) (by omega) (by omega) (by omega) (by omega) (by omega) (by omega) (by omega) (by omega) (by omega) (by omega) (by omega) (by omega) (by omega)) (e69 0 (by decide) (by decide)) (e69 5 (by decide) (by decide)) h.1, ?_, drI_same (fun a ha => exM a (by omega) (by omega) (by omega) (by omega) (by omega) (by omega) (by omega) (by omega) (by omega) (by omega) (by omega) (by omega) (by omega) (by omega) (by omega) (by omega)) h.2.2.1, ?_, rgI_same (fun a ha => exM a (by omega) (by omega) (by omega) (by omega) (by omega) (by omega) (by omega) (by omega) (by omega) (by omega) (by omega) (by omega) (by omega) (by omega) (by omega) (by omega)) (e69 15 (by decide) (by decide)) h.2.2.2.2.1, odI_same (fun a ha => exM a (by omega) (by omega) (by omega) (by omega) (by omega) (by omega) (by omega) (by omega) (by omega) (by omega) (by omega) (by omega) (by omega) (by omega) (by omega) (by omega)) (e69 23 (by decide) (by decide)) h.2.2.2.2.2.1, trI_same (fun a ha => exM a (by omega) (by omega) (by omega) (by omega) (by omega) (by omega) (by omega) (by omega) (by omega) (by omega) (by omega) (by omega) (by omega) (by omega) (by omega) (by omega)) (e69 31 (by decide) (by decide)) h.2.2.2.2.2.2.1, tcI_same (exM 68 (by omega) (by omega) (by omega) (by omega) (by omega) (by omega) (by omega) (by omega) (by omega) (by omega) (by omega) (by omega) (by omega) (by omega) (by omega) (by omega)) (e69 33 (by decide) (by decide)) h.2.2.2.2.2.2.2⟩
          · refine refI_2 (M := C) (fun a h1 h2 => (f3 a (by omega) (by omega) (by omega)).trans (dx a (by omega) (by omega) (by omega))) (f2.trans (by rw [hD]; rfl)) (by rw [f4 10 (by decide), dx 69 (by decide) (by decide) (by decide)]) e3
          · have g46 : E.1 46 = M.1 46 := exM 46 (by omega) (by omega) (by omega) (by omega) (by omega) (by omega) (by omega) (by omega) (by omega) (by omega) (by omega) (by omega) (by omega) (by omega) (by omega) (by omega)
            have g44 : ∀ s, E.1 44 s = if s = ns then nI d else M.1 44 s := fun s => by
              rw [ex 44 (by omega) (by omega) (by omega) (by omega) (by omega) (by omega) (by omega) (by omega) (by omega) (by omega), b3 44 (by omega) (by omega) (by omega), hA1, up1_ne (by decide), up1_same, hx1 44 (by omega)]
            have g45 : ∀ s, E.1 45 s = if s = ns then y else M.1 45 s := fun s => by
              rw [ex 45 (by omega) (by omega) (by omega) (by omega) (by omega) (by omega) (by omega) (by omega) (by omega) (by omega), b3 45 (by omega) (by omega) (by omega), hA1, up1_same, up1_ne (by decide), hx1 45 (by omega)]
            have g90 : ∀ s, E.1 90 s = if s = ns then nI d else M.1 90 s := fun s => by
              rw [f3 90 (by decide) (by decide) (by decide), hD, up1_ne (by decide), up1_ne (by decide), up1_same, eW 90 (by decide) (by decide)]
            have g91 : ∀ s, E.1 91 s = if s = ns then y else M.1 91 s := fun s => by
              rw [f3 91 (by decide) (by decide) (by decide), hD, up1_ne (by decide), up1_same, up1_ne (by decide), eW 91 (by decide) (by decide)]
            have g92 : ∀ s, E.1 92 s = if s = ns then 0 else M.1 92 s := fun s => by
              rw [f3 92 (by decide) (by decide) (by decide), hD, up1_same, up1_ne (by decide), up1_ne (by decide), eW 92 (by decide) (by decide)]
            have g93 : ∀ j, j < 12 * ns → E.1 93 j = M.1 93 j ∧ E.1 94 j = M.1 94 j := fun j hj => by
              rw [(f6 j (Or.inl hj)).1, (f6 j (Or.inl hj)).2, dx 93 (by decide) (by decide) (by decide), dx 94 (by decide) (by decide) (by decide), eW 93 (by decide) (by decide), eW 94 (by decide) (by decide)]
              exact ⟨rfl, rfl⟩
            refine ⟨by omega, ?_, f5, fun s hs => ?_, fun s hs => ?_⟩
            · rw [ex 43 (by omega) (by omega) (by omega) (by omega) (by omega) (by omega) (by omega) (by omega) (by omega) (by omega)]; exact b4
            · obtain ⟨z1, z2, z3⟩ := k3 s hs
              rw [g46, g92]
              refine ⟨?_, z2, fun q => z3 (by omega)⟩
              by_cases e : s = ns
              · rw [if_pos e]; exact z3 (by omega)
              · rw [if_neg e]; exact z1
            · rw [g44, g45, g90, g91]
              by_cases e : s = ns
              · subst e
                rw [if_pos rfl, if_pos rfl, if_pos rfl, if_pos rfl]
                refine ⟨⟨d, hd, rfl⟩, rfl, rfl, fun f hf => ?_⟩
                rw [(f7 f hf).1, (f7 f hf).2, ex (48 + s) (by omega) (by omega) (by omega) (by omega) (by omega) (by omega) (by omega) (by omega) (by omega) (by omega), ex (55 + s) (by omega) (by omega) (by omega) (by omega) (by omega) (by omega) (by omega) (by omega) (by omega) (by omega), (b5 f hf).2, (hst f).resolve_right (fun q => q hf)]
                exact ⟨rfl, rfl⟩
              · rw [if_neg e, if_neg e, if_neg e, if_neg e]
                obtain ⟨z1, z2, z3, z4⟩ := k4 s (by omega)
                refine ⟨z1, z2, z3, fun f hf => ?_⟩
                rw [(g93 (12 * s + f) (by omega)).1, (g93 (12 * s + f) (by omega)).2, exM (48 + s) (by omega) (by omega) (by omega) (by omega) (by omega) (by omega) (by omega) (by omega) (by omega) (by omega) (by omega) (by omega) (by omega) (by omega) (by omega) (by omega), exM (55 + s) (by omega) (by omega) (by omega) (by omega) (by omega) (by omega) (by omega) (by omega) (by omega) (by omega) (by omega) (by omega) (by omega) (by omega) (by omega) (by omega)]
                exact z4 f hf
        refine ⟨nI ns, B, E, ?_, ?_, n, np, ns + 1, hI⟩
        · rw [eFX9_seal, p1, Option.bind_some, if_neg (by decide), if_neg q1, c1, if_pos q2, ckR_nI hd (by decide), Option.bind_some, l1, Option.bind_some, Option.bind_some, eFX5_add, i43, if_pos (show nI ns < 6 from nI_lt (b := 6) hns (by decide)), wrI_nI hns (by decide), Option.bind_some, up1_ne (a := 43) (by decide), i43, wrI_nI hns (by decide), Option.bind_some, ← hA1, b1, Option.bind_some]
        · have j69 : B.1 69 = M.1 69 := by rw [bx 69 (by decide) (by decide) (by decide) (by omega) (by omega), hx1 69 (by omega)]
          have j25 : C.1 69 25 = nI ns := by rw [i69 25 (by decide)]; exact k2
          rw [eFX10_seal, p2, Option.bind_some, if_pos rfl, hin B (by rw [j69]; exact c3), Option.bind_some, if_neg (by decide), j69, k2, if_neg (show ¬ nI ns = 6 from fun q => hfull (nI_inj (a := ns) (b := 6) (by omega) (by decide) q)), e1, Option.bind_some, j25, wrI_nI hns (by decide), Option.bind_some, up1_ne (a := 69) (by decide), j25, wrI_nI hns (by decide), Option.bind_some, up1_ne (a := 69) (by decide), up1_ne (a := 69) (by decide), j25, wrZ_nI hns (by decide) (Or.inl rfl), Option.bind_some, ← hD, f1]
  · refine CallP_same (-1) h ?_ ?_
    · rw [eFX9_seal, p1, Option.bind_some, if_pos rfl]
    · rw [eFX10_seal, p2, Option.bind_some, if_neg (by decide)]
theorem c_open {n np ns : Nat} {x : Int32} {M : Mm} (h : Inv n np ns M) : CallP (FX9_open x M) (FX10_open x) := by
  obtain ⟨hn, hnp, c1, c2, c3, c4⟩ := Inv_n h
  have hs := h.2.2.2.1
  obtain ⟨h6, k1, k2, k3, k4⟩ := h.2.2.2.1
  rcases selQ x h6 with ⟨s, hs, rfl, p1, p2⟩ | ⟨p1, p2⟩
  · obtain ⟨z1, z2, z3⟩ := k3 s (by omega)
    obtain ⟨E, hE⟩ : ∃ E, E = up1 (up1 M 46 s 1) 92 s 1 := ⟨_, rfl⟩
    have ex : ∀ a, a ≠ 46 → a ≠ 92 → E.1 a = M.1 a := fun a h1 h2 => by rw [hE, up1_ne h2, up1_ne h1]
    have g46 : ∀ t, E.1 46 t = if t = s then 1 else M.1 46 t := fun t => by rw [hE, up1_ne (by decide), up1_same]
    have g92 : ∀ t, E.1 92 t = if t = s then 1 else M.1 92 t := fun t => by rw [hE, up1_same, up1_ne (by decide)]
    have hI : Inv n np ns E := by
      refine ⟨coreI_same (fun a ha => ex a (by omega) (by omega)) (fun a h1 h2 => ex a (by omega) (by omega)) (by rw [ex 69 (by decide) (by decide)]) (by rw [ex 69 (by decide) (by decide)]) h.1, refI_2 (fun a h1 h2 => ex a (by omega) (by omega)) (by rw [hE]; rfl) (by rw [ex 69 (by decide) (by decide)]) h.2.1, drI_same (fun a ha => ex a (by omega) (by omega)) h.2.2.1, ?_, rgI_same (fun a ha => ex a (by omega) (by omega)) (by rw [ex 69 (by decide) (by decide)]) h.2.2.2.2.1, odI_same (fun a ha => ex a (by omega) (by omega)) (by rw [ex 69 (by decide) (by decide)]) h.2.2.2.2.2.1, trI_same (fun a ha => ex a (by omega) (by omega)) (by rw [ex 69 (by decide) (by decide)]) h.2.2.2.2.2.2.1, tcI_same (ex 68 (by omega) (by omega)) (by rw [ex 69 (by decide) (by decide)]) h.2.2.2.2.2.2.2⟩
      refine ⟨h6, by rw [ex 43 (by decide) (by decide)]; exact k1, by rw [ex 69 (by decide) (by decide)]; exact k2, fun t ht => ?_, fun t ht => ?_⟩
      · rw [g46, g92]
        by_cases e : t = s
        · rw [if_pos e, if_pos e]
          exact ⟨rfl, Or.inr rfl, fun q => by omega⟩
        · rw [if_neg e, if_neg e]; exact k3 t ht
      · rw [ex 44 (by decide) (by decide), ex 45 (by decide) (by decide), ex 90 (by decide) (by decide), ex 91 (by decide) (by decide), ex 93 (by decide) (by decide), ex 94 (by decide) (by decide), ex (48 + t) (by omega) (by omega), ex (55 + t) (by omega) (by omega)]
        exact k4 t ht
    refine ⟨if M.1 46 s = 0 then 1 else 0, up1 M 46 s 1, E, ?_, ?_, n, np, ns, hI⟩
    · rw [eFX9_open, p1 M k1, Option.bind_some, if_neg (by decide), rdI_nI (by omega) (by decide), Option.bind_some]
      by_cases e : M.1 46 s = 0
      · rw [if_pos e, if_pos e, eBX9_open_30, show FX9_truth 1 M = some 1 from rfl, Option.bind_some, wrZ_nI (by omega) (by decide) (Or.inr rfl), Option.bind_some]
      · rw [if_neg e, if_neg e, eBX9_open_30, show FX9_truth 0 M = some 0 from rfl, Option.bind_some, wrZ_nI (by omega) (by decide) (Or.inr rfl), Option.bind_some]
    · rw [eFX10_open, p2 _ (by rw [up1_ne (by decide)]; exact k2), Option.bind_some, if_pos rfl, rdI_nI (by omega) (by decide), Option.bind_some, up1_ne (a := 92) (by decide), ← z1]
      by_cases e : M.1 46 s = 0
      · rw [if_pos e, if_pos e, eBX10_open_24, wrZ_nI (by omega) (by decide) (Or.inr rfl), Option.bind_some, hE]
      · rw [if_neg e, if_neg e, eBX10_open_24, wrZ_nI (by omega) (by decide) (Or.inr rfl), Option.bind_some, hE]
  · refine CallP_same (-1) h ?_ ?_
    · rw [eFX9_open, p1 M k1, Option.bind_some, if_pos rfl]
    · rw [eFX10_open, p2 M k2, Option.bind_some, if_neg (by decide)]
