/-! ===== the calls field and part ===== -/
theorem Inv_A {n np ns : Nat} {M M' : Mm} (h : sameA M M') (hc : coreC n np M') (hI : Inv n np ns M) : Inv n np ns M' := by
  have ex : ∀ z, z ≠ 1 → z ≠ 27 → z ≠ 28 → z ≠ 29 → M'.1 z = M.1 z := h.2
  have e69 : M'.1 69 = M.1 69 := ex 69 (by decide) (by decide) (by decide) (by decide)
  obtain ⟨⟨_, ⟨q1, q2, q3, q4, q5, q6, q7, q8⟩, i3, i4, i5⟩, b, c, d, e, f, g, k⟩ := hI
  refine ⟨⟨hc, ⟨?_, ?_, ?_, ?_, ?_, ?_, ?_, fun x j hx hj => ?_⟩, by rw [e69]; exact i3, by rw [e69]; exact i4, ?_⟩, refI_2 (fun a h1 h2 => ex a (by omega) (by omega) (by omega) (by omega)) h.1 (by rw [e69]) b, drI_same (fun a ha => ex a (by omega) (by omega) (by omega) (by omega)) c, slI_same (fun a ha => ex a (by omega) (by omega) (by omega) (by omega)) (by rw [e69]) d, rgI_same (fun a ha => ex a (by omega) (by omega) (by omega) (by omega)) (by rw [e69]) e, odI_same (fun a ha => ex a (by omega) (by omega) (by omega) (by omega)) (by rw [e69]) f, trI_same (fun a ha => ex a (by omega) (by omega) (by omega) (by omega)) (by rw [e69]) g, tcI_same (ex 68 (by decide) (by decide) (by decide) (by decide)) (by rw [e69]) k⟩
  · rw [ex 3 (by decide) (by decide) (by decide) (by decide), ex 70 (by decide) (by decide) (by decide) (by decide)]; exact q1
  · rw [ex 4 (by decide) (by decide) (by decide) (by decide), ex 71 (by decide) (by decide) (by decide) (by decide)]; exact q2
  · rw [ex 5 (by decide) (by decide) (by decide) (by decide), ex 72 (by decide) (by decide) (by decide) (by decide)]; exact q3
  · rw [ex 22 (by decide) (by decide) (by decide) (by decide), ex 74 (by decide) (by decide) (by decide) (by decide)]; exact q4
  · rw [ex 23 (by decide) (by decide) (by decide) (by decide), ex 75 (by decide) (by decide) (by decide) (by decide)]; exact q5
  · rw [ex 24 (by decide) (by decide) (by decide) (by decide), ex 76 (by decide) (by decide) (by decide) (by decide)]; exact q6
  · rw [ex 25 (by decide) (by decide) (by decide) (by decide), ex 77 (by decide) (by decide) (by decide) (by decide)]; exact q7
  · rw [ex (7 + x) (by omega) (by omega) (by omega) (by omega), ex 73 (by decide) (by decide) (by decide) (by decide)]; exact q8 x j hx hj
  · unfold spn
    rw [ex 3 (by decide) (by decide) (by decide) (by decide), ex 4 (by decide) (by decide) (by decide) (by decide)]; exact i5
theorem field_r {N n : Nat} {a b c : Int32} {M : Mm} (hN : 100 < N) (hlt : n < 12) (hc : M.1 69 0 = nI n) : ∃ M1, ((wrI M 70 12 (M.1 69 0) a).bind fun M11 => (wrI M11 71 12 (M11.1 69 0) b).bind fun M13 => (wrI M13 72 12 (M13.1 69 0) c).bind fun M15 => lp (BX10_field_81 N) N (0, M15)) = some (nI n, M1) ∧ M1.2 = M.2 ∧ (∀ z, z ≠ 69 → z ≠ 70 → z ≠ 71 → z ≠ 72 → z ≠ 73 → M1.1 z = M.1 z) ∧ (∀ j, M1.1 70 j = if j = n then a else M.1 70 j) ∧ (∀ j, M1.1 71 j = if j = n then b else M.1 71 j) ∧ (∀ j, M1.1 72 j = if j = n then c else M.1 72 j) ∧ (∀ j, M1.1 73 j = if 4 * n ≤ j ∧ j < 4 * n + 4 then (-9) else M.1 73 j) ∧ M1.1 69 0 = nI (n + 1) ∧ M1.1 69 10 = 0 ∧ ∀ j, j ≠ 0 → j ≠ 10 → M1.1 69 j = M.1 69 j := by
  obtain ⟨Q, hQ⟩ : ∃ Q, Q = up1 (up1 (up1 M 70 n a) 71 n b) 72 n c := ⟨_, rfl⟩
  rw [hc, wrI_nI hlt (by decide), Option.bind_some, up1_ne (a := 69) (by decide), hc, wrI_nI hlt (by decide), Option.bind_some, up1_ne (a := 69) (by decide), up1_ne (a := 69) (by decide), hc, wrI_nI hlt (by decide), Option.bind_some, ← hQ]
  have qx : ∀ z, z ≠ 70 → z ≠ 71 → z ≠ 72 → Q.1 z = M.1 z := fun z h1 h2 h3 => by rw [hQ, up1_ne h3, up1_ne h2, up1_ne h1]
  have q70 : ∀ j, Q.1 70 j = if j = n then a else M.1 70 j := fun j => by rw [hQ, up1_ne (by decide), up1_ne (by decide), up1_same]
  have q71 : ∀ j, Q.1 71 j = if j = n then b else M.1 71 j := fun j => by rw [hQ, up1_ne (by decide), up1_same, up1_ne (by decide)]
  have q72 : ∀ j, Q.1 72 j = if j = n then c else M.1 72 j := fun j => by rw [hQ, up1_same, up1_ne (by decide), up1_ne (by decide)]
  have q2 : Q.2 = M.2 := by rw [hQ]; rfl
  refine lp_up (fun i (q : Int32 × Mm) => q.1 = nI i ∧ q.2.2 = M.2 ∧ (∀ z, z ≠ 73 → q.2.1 z = Q.1 z) ∧ ∀ j, q.2.1 73 j = if 4 * n ≤ j ∧ j < 4 * n + i then (-9) else M.1 73 j) (fun o => ∃ M1 : Mm, o = some (nI n, M1) ∧ M1.2 = M.2 ∧ (∀ z, z ≠ 69 → z ≠ 70 → z ≠ 71 → z ≠ 72 → z ≠ 73 → M1.1 z = M.1 z) ∧ (∀ j, M1.1 70 j = if j = n then a else M.1 70 j) ∧ (∀ j, M1.1 71 j = if j = n then b else M.1 71 j) ∧ (∀ j, M1.1 72 j = if j = n then c else M.1 72 j) ∧ (∀ j, M1.1 73 j = if 4 * n ≤ j ∧ j < 4 * n + 4 then (-9) else M.1 73 j) ∧ M1.1 69 0 = nI (n + 1) ∧ M1.1 69 10 = 0 ∧ ∀ j, j ≠ 0 → j ≠ 10 → M1.1 69 j = M.1 69 j) 4 N _ ⟨rfl, q2, fun _ _ => rfl, fun j => by rw [if_neg (by omega), qx 73 (by decide) (by decide) (by decide)]⟩ (by omega) ?_ ?_
  · rintro i ⟨x1, T⟩ K hi ⟨e1, s2, s1, g1⟩
    dsimp only at e1 s2 s1 g1
    subst e1
    left
    have e69 : T.1 69 0 = nI n := by rw [s1 69 (by decide), qx 69 (by decide) (by decide) (by decide)]; exact hc
    rw [eBX10_field_81]
    dsimp only
    rw [if_neg (show ¬ (4 : Int32) ≤ nI i from lt_nI (n := 4) hi (by decide)), e69, ix4, wrI_nI (by omega) (by decide), Option.bind_some, nI_1]
    refine ⟨_, ⟨rfl, s2, fun z hz => ?_, fun j => ?_⟩, rfl⟩
    · dsimp only
      rw [up1_ne hz]; exact s1 z hz
    · dsimp only
      rw [up1_same]
      by_cases e : j = 4 * n + i
      · rw [if_pos e, if_pos (by omega)]
      · rw [if_neg e, g1 j]
        by_cases e3 : 4 * n ≤ j ∧ j < 4 * n + i
        · rw [if_pos e3, if_pos (by omega)]
        · rw [if_neg e3, if_neg (by omega)]
  · rintro ⟨x1, T⟩ K ⟨e1, s2, s1, g1⟩
    dsimp only at e1 s2 s1 g1
    subst e1
    have e69 : T.1 69 0 = nI n := by rw [s1 69 (by decide), qx 69 (by decide) (by decide) (by decide)]; exact hc
    rw [eBX10_field_81]
    dsimp only
    rw [if_pos (by decide)]
    show ∃ M1 : Mm, ((some (up1 T 69 0 (T.1 69 0 + 1))).bind fun M2 => (some (up1 M2 69 10 0)).bind fun M4 => some (M4.1 69 0 - 1, M4)) = some (nI n, M1) ∧ _
    rw [e69, nI_1, Option.bind_some, Option.bind_some]
    refine ⟨up1 (up1 T 69 0 (nI (n + 1))) 69 10 0, ?_, s2, fun z h1 h2 h3 h4 h5 => ?_, fun j => ?_, fun j => ?_, fun j => ?_, fun j => ?_, ?_, ?_, fun j h1 h2 => ?_⟩
    · rw [up1_same, if_neg (by decide), up1_same, if_pos rfl, nI_pred]
    · rw [up1_ne h1, up1_ne h1, s1 z h5, qx z h2 h3 h4]
    · rw [up1_ne (by decide), up1_ne (by decide), s1 70 (by decide), q70]
    · rw [up1_ne (by decide), up1_ne (by decide), s1 71 (by decide), q71]
    · rw [up1_ne (by decide), up1_ne (by decide), s1 72 (by decide), q72]
    · rw [up1_ne (by decide), up1_ne (by decide), g1]
    · rw [up1_same, if_neg (by decide), up1_same, if_pos rfl]
    · rw [up1_same, if_pos rfl]
    · rw [up1_same, if_neg h2, up1_same, if_neg h1, s1 69 (by decide), qx 69 (by decide) (by decide) (by decide)]
theorem i_trans {x y z : Int32} (h1 : x ≤ y) (h2 : ¬ z < y) : ¬ z < x := by
  rw [Int32.le_iff_toInt_le] at h1
  rw [Int32.lt_iff_toInt_lt] at h2 ⊢
  omega
theorem i_le {x y : Int32} : x ≤ y ↔ ¬ y < x := by
  rw [Int32.le_iff_toInt_le, Int32.lt_iff_toInt_lt]
  omega
theorem in01 {x : Int32} : (¬ x < 0 ∧ ¬ 1 < x) ↔ (x = 0 ∨ x = 1) := by
  constructor
  · rintro ⟨h1, h2⟩
    have e0 : (0 : Int32).toInt = 0 := by decide
    have e1 : (1 : Int32).toInt = 1 := by decide
    rw [Int32.lt_iff_toInt_lt, e0] at h1
    rw [Int32.lt_iff_toInt_lt, e1] at h2
    have h : x.toInt = 0 ∨ x.toInt = 1 := by omega
    rcases h with h | h
    · exact Or.inl (Int32.toInt_inj.mp (by rw [h]; decide))
    · exact Or.inr (Int32.toInt_inj.mp (by rw [h]; decide))
  · rintro (h | h) <;> subst h <;> decide
theorem c_field {N n np ns : Nat} {x y z : Int32} {M : Mm} (hN : 100 < N) (h : Inv n np ns M) : CallP (FX9_field N x y z M) (FX10_field N x y z) := by
  obtain ⟨hn, hnp, c1, c2, c3, c4⟩ := Inv_n h
  by_cases hok : ¬ x < (-1000) ∧ ¬ 1000 < y ∧ x ≤ y ∧ (z = 0 ∨ z = 1)
  · obtain ⟨k1, k2, k3, k4⟩ := hok
    have f9 : FX9_field N x y z M = BX9_field_53 N x y z M := by
      rw [eFX9_field, if_neg k1, if_neg k2, if_pos k3, eBX9_field_34]
      rcases k4 with e | e
      · subst e; rfl
      · subst e; rfl
    have f10 : ∀ Q : Mm, FX10_field N x y z Q = (if (Q.1 69 0) = 12 then some ((-4), Q) else (wrI Q 70 12 (Q.1 69 0) x).bind fun M11 => (wrI M11 71 12 (M11.1 69 0) y).bind fun M13 => (wrI M13 72 12 (M13.1 69 0) z).bind fun M15 => lp (BX10_field_81 N) N (0, M15)) := fun Q => by
      have h01 := in01.mpr k4
      rw [eFX10_field, eFX10_in, if_neg k1, if_neg (i_trans k3 k2), Option.bind_some, if_neg (by decide), eFX10_in, if_neg (i_le.mp k3), if_neg k2, Option.bind_some, if_neg (by decide), eFX10_in, if_neg h01.1, if_neg h01.2, Option.bind_some, if_neg (by decide)]
    by_cases hfull : n = 12
    · obtain ⟨M1, a1, a2, a3⟩ := field_full (N := N) (a := x) (b := y) (c := z) hN h.1.1 hfull
      refine ⟨-4, M1, M1, ?_, ?_, n, np, ns, Inv_A a3 a2 h⟩
      · rw [f9, a1]
      · rw [f10, a3.2 69 (by decide) (by decide) (by decide) (by decide), c3, hfull, if_pos (by rfl)]
    · have hlt : n < 12 := by omega
      obtain ⟨M1, a1, a2, a3, a4, a5, a6, a7, a8⟩ := field_cls (N := N) (a := x) (b := y) (c := z) hN h.1.1.1 h.1.1.2.1 hlt k4
      have x69 : M1.1 69 = M.1 69 := a8 69 (by omega) (by omega)
      obtain ⟨M2, b1, b2, b3, b4, b5, b6, b7, b8, b9, b10⟩ := field_r (N := N) (n := n) (a := x) (b := y) (c := z) (M := M1) hN hlt (by rw [x69]; exact c3)
      obtain ⟨q3, q4, q5, q22, q23, q24, q25, q7⟩ := h.1.2.1
      have lo : ∀ v, v < 69 → M2.1 v = M1.1 v := fun v hv => b3 v (by omega) (by omega) (by omega) (by omega) (by omega)
      have e69 : ∀ j, j ≠ 0 → j ≠ 10 → M2.1 69 j = M.1 69 j := fun j h1 h2 => by rw [b10 j h1 h2, x69]
      have hi : ∀ v, 73 < v → M2.1 v = M.1 v := fun v hv => by rw [b3 v (by omega) (by omega) (by omega) (by omega) (by omega), a8 v (by omega) (by omega)]
      have mid : ∀ v, 29 < v → v < 69 → M2.1 v = M.1 v := fun v h1 h2 => by rw [lo v h2, a8 v (by omega) (by omega)]
      have hI : Inv (n + 1) np ns M2 := by
        refine ⟨⟨coreC_30 (fun v hv => lo v (by omega)) a2, ⟨?_, ?_, ?_, ?_, ?_, ?_, ?_, fun v j hv hj => ?_⟩, b8, ?_, fun f hf => ?_⟩, Or.inl b9, fun d f hd hf => ?_, slI_same (fun v hv => by
          rcases hv with q | q
          · exact mid v (by omega) (by omega)
          · exact hi v (by omega)) (e69 25 (by decide) (by decide)) h.2.2.2.1, rgI_same (fun v hv => by
          rcases hv with q | q | q
          · exact mid v (by omega) (by omega)
          · exact mid v (by omega) (by omega)
          · exact hi v (by omega)) (e69 15 (by decide) (by decide)) h.2.2.2.2.1, odI_same (fun v hv => by
          rcases hv with q | q | q
          · exact mid v (by omega) (by omega)
          · exact mid v (by omega) (by omega)
          · exact hi v (by omega)) (e69 23 (by decide) (by decide)) h.2.2.2.2.2.1, trI_same (fun v hv => by
          rcases hv with q | q | q
          · exact mid v (by omega) (by omega)
          · exact mid v (by omega) (by omega)
          · exact hi v (by omega)) (e69 31 (by decide) (by decide)) h.2.2.2.2.2.2.1, tcI_same (mid 68 (by decide) (by decide)) (e69 33 (by decide) (by decide)) h.2.2.2.2.2.2.2⟩
        · funext j; rw [lo 3 (by decide), a3, b4, a8 70 (by omega) (by omega), q3]
        · funext j; rw [lo 4 (by decide), a4, b5, a8 71 (by omega) (by omega), q4]
        · funext j; rw [lo 5 (by decide), a5, b6, a8 72 (by omega) (by omega), q5]
        · rw [lo 22 (by decide), hi 74 (by decide), a8 22 (by omega) (by omega)]; exact q22
        · rw [lo 23 (by decide), hi 75 (by decide), a8 23 (by omega) (by omega)]; exact q23
        · rw [lo 24 (by decide), hi 76 (by decide), a8 24 (by omega) (by omega)]; exact q24
        · rw [lo 25 (by decide), hi 77 (by decide), a8 25 (by omega) (by omega)]; exact q25
        · rw [lo (7 + v) (by omega), b7]
          by_cases e : v = n
          · subst e
            rw [a6 j hj, if_pos (by omega)]
          · rw [a8 (7 + v) (by omega) (by omega), if_neg (by omega), a8 73 (by omega) (by omega)]
            exact q7 v j hv hj
        · rw [e69 5 (by decide) (by decide)]; exact c4
        · rw [lo 3 (by decide), lo 4 (by decide), a3, a4]
          by_cases e : f = n
          · rw [if_pos e, if_pos e]; exact ⟨k1, k2, k3⟩
          · rw [if_neg e, if_neg e]; exact h.1.2.2.2.2 f (by omega)
        · rw [mid (33 + d) (by omega) (by omega), hi 88 (by decide), lo 3 (by decide), lo 4 (by decide), lo 5 (by decide), a3, a4, a5]
          obtain ⟨z1, z2⟩ := h.2.2.1 d f hd hf
          refine ⟨z1, ?_⟩
          rcases z2 with q | ⟨q1, q2⟩
          · exact Or.inl q
          · rw [if_neg (by omega), if_neg (by omega), if_neg (by omega)]
            exact Or.inr ⟨by omega, q2⟩
      refine ⟨nI n, M1, M2, ?_, ?_, n + 1, np, ns, hI⟩
      · rw [f9, a1]
      · rw [f10, if_neg (show ¬ M1.1 69 0 = 12 from fun q => hfull (nI_inj (a := n) (b := 12) (by omega) (by decide) (by rw [x69, c3] at q; exact q)))]
        exact b1
  · refine CallP_same (-2) h ?_ ?_
    · rw [eFX9_field]
      by_cases k1 : x < (-1000)
      · rw [if_pos k1]
      · rw [if_neg k1]
        by_cases k2 : 1000 < y
        · rw [if_pos k2]
        · rw [if_neg k2]
          by_cases k3 : x ≤ y
          · rw [if_pos k3, if_neg (fun q => hok ⟨k1, k2, k3, Or.inl q⟩), if_neg (fun q => hok ⟨k1, k2, k3, Or.inr q⟩)]
          · rw [if_neg k3]
    · rw [eFX10_field, eFX10_in, eFX10_in, eFX10_in]
      by_cases k1 : x < (-1000)
      · rw [if_pos k1, Option.bind_some, if_pos rfl]
      · rw [if_neg k1]
        by_cases k5 : 1000 < x
        · rw [if_pos k5, Option.bind_some, if_pos rfl]
        · rw [if_neg k5, Option.bind_some, if_neg (by decide)]
          by_cases k3 : y < x
          · rw [if_pos k3, Option.bind_some, if_pos rfl]
          · rw [if_neg k3]
            by_cases k2 : 1000 < y
            · rw [if_pos k2, Option.bind_some, if_pos rfl]
            · rw [if_neg k2, Option.bind_some, if_neg (by decide)]
              by_cases k6 : z < 0
              · rw [if_pos k6, Option.bind_some, if_pos rfl]
              · rw [if_neg k6]
                by_cases k7 : 1 < z
                · rw [if_pos k7, Option.bind_some, if_pos rfl]
                · exact absurd ⟨k1, k2, i_le.mpr k3, in01.mp ⟨k6, k7⟩⟩ hok
