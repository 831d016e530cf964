/-! ===== the call part ===== -/
theorem RLp_more {np : Nat} {v : Int32} {pk pa pb pc pk' pa' pb' pc' : Nat → Int32} {k : Nat} (hnp : np < 50) (hr : rlok np v) (h : ∀ a, a < np → pk' a = pk a ∧ pa' a = pa a ∧ pb' a = pb a ∧ pc' a = pc a) : RLp (np + 1) pk' pa' pb' pc' v k ↔ RLp np pk pa pb pc v k := by
  constructor
  · rintro ⟨p, hp, e, hR⟩
    have hpl := rlok_lt (np := np) (p := p) (by omega) (by omega) hr e
    refine ⟨p, hpl, e, RS_congr (fun a ha => ?_) hR⟩
    obtain ⟨z1, z2, z3, z4⟩ := h a (by omega)
    exact ⟨z1.symm, z2.symm, z3.symm, z4.symm⟩
  · rintro ⟨p, hp, e, hR⟩
    exact ⟨p, by omega, e, RS_congr (fun a ha => h a (by omega)) hR⟩
theorem refOrd_more {n np : Nat} {M M' : Mm} (hN : netR n np M) (hnp : np < 50) (h : ∀ a, a < np → M'.1 74 a = M.1 74 a ∧ M'.1 75 a = M.1 75 a ∧ M'.1 76 a = M.1 76 a ∧ M'.1 77 a = M.1 77 a) (h73 : M'.1 73 = M.1 73) (h79 : M'.1 79 = M.1 79) (h81 : M'.1 81 = M.1 81) (h80 : M'.2 80 = M.2 80) (ho : refOrd n np M) : refOrd n (np + 1) M' := by
  obtain ⟨hn, hnp', hc1, hc2, hp, hr, hm, hsp⟩ := hN
  have hNd : ∀ f, f < n → ∀ k, NdP (np + 1) M' f k ↔ NdP np M f k := fun f hf k => by
    unfold NdP
    rw [h73]
    exact or_congr (RLp_more hnp (hr f hf 0 (by decide)) h) (RLp_more hnp (hr f hf 3 (by decide)) h)
  have hlt : ∀ f k, NdP np M f k → k < np := fun f k hk => by
    rcases hk with ⟨p, hp, _, hR⟩ | ⟨p, hp, _, hR⟩
    · have := RS_le hR; omega
    · have := RS_le hR; omega
  have hD : ∀ f g, f < n → (Dm (np + 1) M' f g ↔ Dm np M f g) := fun f g hf => by
    unfold Dm
    refine and_congr Iff.rfl ⟨?_, ?_⟩
    · rintro ⟨k, hk, a1, a2, a3⟩
      have hN := (hNd f hf k).mp a1
      have hkn := hlt f k hN
      obtain ⟨z1, z2, _⟩ := h k hkn
      exact ⟨k, hkn, hN, by rw [← z1]; exact a2, by rw [← z2]; exact a3⟩
    · rintro ⟨k, hk, a1, a2, a3⟩
      obtain ⟨z1, z2, _⟩ := h k hk
      exact ⟨k, by omega, (hNd f hf k).mpr a1, by rw [z1]; exact a2, by rw [z2]; exact a3⟩
  have hT : ∀ f g, f < n → (TC (Dm (np + 1) M') n f g ↔ TC (Dm np M) n f g) := fun f g hf => ⟨fun ⟨k, hk⟩ => ⟨k, pth_on (fun a b ha => (hD a b ha).mp) k f g hf hk⟩, fun ⟨k, hk⟩ => ⟨k, pth_on (fun a b ha => (hD a b ha).mpr) k f g hf hk⟩⟩
  unfold refOrd ordOK at *
  rw [h79, h80, h81]
  exact ⟨fun f hf => ⟨fun k => ((ho.1 f hf).1 k).trans (hNd f hf k).symm, fun g => ((ho.1 f hf).2 g).trans (hT f g hf).symm⟩, ho.2⟩
theorem part_add {N n np ns : Nat} {k a b c : Int32} {M : Mm} (hN : 100 < N) (h : Inv n np ns M) (hok : pok n np k a b c) : ∃ r M1 M2, BX9_part_46 N k a b c M = some (r, M1) ∧ BX10_part_93 k a b c M1 = some (r, M2) ∧ M1.1 69 = M.1 69 ∧ InvE M2 := by
  obtain ⟨hn, hnp, c1, c2, c3, c4⟩ := Inv_n h
  by_cases hfull : np = 50
  · obtain ⟨M1, a1, a2, a3⟩ := part_full (N := N) (k := k) (a := a) (b := b) (c := c) hN h.1.1 hfull
    refine ⟨-4, M1, M1, a1, ?_, a3.2 69 (by decide) (by decide) (by decide) (by decide), n, np, ns, Inv_A a3 a2 h⟩
    rw [eBX10_part_93, a3.2 69 (by decide) (by decide) (by decide) (by decide), c4, hfull, if_pos (by rfl)]
  · have hlt : np < 50 := by omega
    obtain ⟨M1, a1, a2, a3, a4, a5, a6, a7, a8⟩ := part_cls (N := N) (k := k) (a := a) (b := b) (c := c) hN h.1.1.1 h.1.1.2.1 hlt hok
    have x69 : M1.1 69 = M.1 69 := a8 69 (by omega)
    have i5 : M1.1 69 5 = nI np := by rw [x69]; exact c4
    obtain ⟨E, hE⟩ : ∃ E, E = up1 (up1 (up1 (up1 (up1 M1 74 np k) 75 np a) 76 np b) 77 np c) 69 5 (nI (np + 1)) := ⟨_, rfl⟩
    have ex : ∀ z, z ≠ 69 → z ≠ 74 → z ≠ 75 → z ≠ 76 → z ≠ 77 → E.1 z = M1.1 z := fun z h1 h2 h3 h4 h5 => by rw [hE, up1_ne h1, up1_ne h5, up1_ne h4, up1_ne h3, up1_ne h2]
    have e74 : ∀ j, E.1 74 j = if j = np then k else M1.1 74 j := fun j => by rw [hE, up1_ne (by decide), up1_ne (by decide), up1_ne (by decide), up1_ne (by decide), up1_same]
    have e75 : ∀ j, E.1 75 j = if j = np then a else M1.1 75 j := fun j => by rw [hE, up1_ne (by decide), up1_ne (by decide), up1_ne (by decide), up1_same, up1_ne (by decide)]
    have e76 : ∀ j, E.1 76 j = if j = np then b else M1.1 76 j := fun j => by rw [hE, up1_ne (by decide), up1_ne (by decide), up1_same, up1_ne (by decide), up1_ne (by decide)]
    have e77 : ∀ j, E.1 77 j = if j = np then c else M1.1 77 j := fun j => by rw [hE, up1_ne (by decide), up1_same, up1_ne (by decide), up1_ne (by decide), up1_ne (by decide)]
    have e69 : ∀ j, j ≠ 5 → E.1 69 j = M.1 69 j := fun j hj => by rw [hE, up1_same, if_neg hj, up1_ne (by decide), up1_ne (by decide), up1_ne (by decide), up1_ne (by decide), x69]
    have e2 : E.2 = M.2 := by rw [hE]; exact a7
    obtain ⟨q3, q4, q5, q22, q23, q24, q25, q7⟩ := h.1.2.1
    have hi : ∀ z, 29 < z → z ≠ 69 → (z < 74 ∨ 77 < z) → E.1 z = M.1 z := fun z h1 h2 h3 => by rw [ex z h2 (by omega) (by omega) (by omega) (by omega), a8 z (by omega)]
    have hI : Inv n (np + 1) ns E := by
      refine ⟨⟨coreC_30 (fun v hv => ex v (by omega) (by omega) (by omega) (by omega) (by omega)) a2, ⟨?_, ?_, ?_, ?_, ?_, ?_, ?_, fun v j hv hj => ?_⟩, by rw [e69 0 (by decide)]; exact c3, by rw [hE, up1_same, if_pos rfl], fun f hf => ?_⟩, ?_, drI_same (fun v hv => by
          rcases hv with q | q | q | q | q
          · rw [ex v (by omega) (by omega) (by omega) (by omega) (by omega), a8 v (by omega)]
          · rw [ex v (by omega) (by omega) (by omega) (by omega) (by omega), a8 v (by omega)]
          · rw [ex v (by omega) (by omega) (by omega) (by omega) (by omega), a8 v (by omega)]
          · exact hi v (by omega) (by omega) (by omega)
          · exact hi v (by omega) (by omega) (by omega)) h.2.2.1, slI_same (fun v hv => hi v (by omega) (by omega) (by omega)) (e69 25 (by decide)) h.2.2.2.1, rgI_same (fun v hv => hi v (by omega) (by omega) (by omega)) (e69 15 (by decide)) h.2.2.2.2.1, odI_same (fun v hv => hi v (by omega) (by omega) (by omega)) (e69 23 (by decide)) h.2.2.2.2.2.1, trI_same (fun v hv => hi v (by omega) (by omega) (by omega)) (e69 31 (by decide)) h.2.2.2.2.2.2.1, tcI_same (hi 68 (by omega) (by omega) (by omega)) (e69 33 (by decide)) h.2.2.2.2.2.2.2⟩
      · rw [ex 3 (by decide) (by decide) (by decide) (by decide) (by decide), a8 3 (by omega), hi 70 (by omega) (by omega) (by omega)]; exact q3
      · rw [ex 4 (by decide) (by decide) (by decide) (by decide) (by decide), a8 4 (by omega), hi 71 (by omega) (by omega) (by omega)]; exact q4
      · rw [ex 5 (by decide) (by decide) (by decide) (by decide) (by decide), a8 5 (by omega), hi 72 (by omega) (by omega) (by omega)]; exact q5
      · funext j; rw [ex 22 (by decide) (by decide) (by decide) (by decide) (by decide), a3, e74, a8 74 (by omega), q22]
      · funext j; rw [ex 23 (by decide) (by decide) (by decide) (by decide) (by decide), a4, e75, a8 75 (by omega), q23]
      · funext j; rw [ex 24 (by decide) (by decide) (by decide) (by decide) (by decide), a5, e76, a8 76 (by omega), q24]
      · funext j; rw [ex 25 (by decide) (by decide) (by decide) (by decide) (by decide), a6, e77, a8 77 (by omega), q25]
      · rw [ex (7 + v) (by omega) (by omega) (by omega) (by omega) (by omega), a8 (7 + v) (by omega), hi 73 (by omega) (by omega) (by omega)]
        exact q7 v j hv hj
      · rw [ex 3 (by decide) (by decide) (by decide) (by decide) (by decide), a8 3 (by omega), ex 4 (by decide) (by decide) (by decide) (by decide) (by decide), a8 4 (by omega)]
        exact h.1.2.2.2.2 f hf
      · rcases h.2.1 with q | ⟨q, ho⟩
        · exact Or.inl (by rw [e69 10 (by decide)]; exact q)
        · refine Or.inr ⟨by rw [e69 10 (by decide)]; exact q, refOrd_more (netR_of h.1) hlt (fun j hj => ?_) (hi 73 (by omega) (by omega) (by omega)) (hi 79 (by omega) (by omega) (by omega)) (hi 81 (by omega) (by omega) (by omega)) (by rw [e2]) ho⟩
          rw [e74, e75, e76, e77, if_neg (by omega), if_neg (by omega), if_neg (by omega), if_neg (by omega), a8 74 (by omega), a8 75 (by omega), a8 76 (by omega), a8 77 (by omega)]
          exact ⟨rfl, rfl, rfl, rfl⟩
    refine ⟨nI np, M1, E, a1, ?_, x69, n, np + 1, ns, hI⟩
    rw [eBX10_part_93, i5, if_neg (show ¬ nI np = 50 from fun q => hfull (nI_inj (a := np) (b := 50) (by omega) (by decide) q)), wrI_nI hlt (by decide), Option.bind_some, up1_ne (a := 69) (by decide), i5, wrI_nI hlt (by decide), Option.bind_some, up1_ne (a := 69) (by decide), up1_ne (a := 69) (by decide), i5, wrI_nI hlt (by decide), Option.bind_some, up1_ne (a := 69) (by decide), up1_ne (a := 69) (by decide), up1_ne (a := 69) (by decide), i5, wrI_nI hlt (by decide), Option.bind_some]
    have t5 : (up1 (up1 (up1 (up1 M1 74 np k) 75 np a) 76 np b) 77 np c).1 69 5 = nI np := by rw [up1_ne (by decide), up1_ne (by decide), up1_ne (by decide), up1_ne (by decide)]; exact i5
    show ((some (up1 (up1 (up1 (up1 (up1 M1 74 np k) 75 np a) 76 np b) 77 np c) 69 5 ((up1 (up1 (up1 (up1 M1 74 np k) 75 np a) 76 np b) 77 np c).1 69 5 + 1))).bind fun M10 => some (M10.1 69 5 - 1, M10)) = some (nI np, E)
    rw [t5, nI_1, ← hE, Option.bind_some]
    have : E.1 69 5 = nI (np + 1) := by rw [hE, up1_same, if_pos rfl]
    rw [this, nI_pred]
/-- the kinds of parts -/
theorem kinds (k : Int32) : ((k < 0 ∨ 11 < k) ∧ ¬ k = 0 ∧ ¬ (k = 1 ∨ k = 10) ∧ ¬ (k = 2 ∨ k = 3 ∨ k = 4 ∨ k = 5 ∨ k = 6 ∨ k = 7 ∨ k = 8) ∧ ¬ k = 9 ∧ ¬ k = 11) ∨ (¬ k < 0 ∧ k ≤ 11 ∧ ¬ 11 < k ∧ (k = 0 ∨ (k = 1 ∨ k = 10) ∨ (k = 2 ∨ k = 3 ∨ k = 4 ∨ k = 5 ∨ k = 6 ∨ k = 7 ∨ k = 8) ∨ k = 9 ∨ k = 11)) := by
  by_cases h : k < 0 ∨ 11 < k
  · refine Or.inl ⟨h, ?_, ?_, ?_, ?_, ?_⟩
    · intro e; subst e; revert h; decide
    · rintro (e | e) <;> subst e <;> revert h <;> decide
    · rintro (e | e | e | e | e | e | e) <;> subst e <;> revert h <;> decide
    · intro e; subst e; revert h; decide
    · intro e; subst e; revert h; decide
  · have h0 : ¬ k < 0 := fun q => h (Or.inl q)
    have h1 : ¬ 11 < k := fun q => h (Or.inr q)
    refine Or.inr ⟨h0, i_le.mpr h1, h1, ?_⟩
    obtain ⟨j, hj, rfl⟩ := nI_of h0
    have hj11 : j ≤ 11 := by
      rcases Nat.lt_or_ge 11 j with q | q
      · exact absurd (show (11 : Int32) < nI j from nI_lt (a := 11) q hj) h1
      · exact q
    have hcs : j = 0 ∨ j = 1 ∨ j = 2 ∨ j = 3 ∨ j = 4 ∨ j = 5 ∨ j = 6 ∨ j = 7 ∨ j = 8 ∨ j = 9 ∨ j = 10 ∨ j = 11 := by omega
    rcases hcs with e | e | e | e | e | e | e | e | e | e | e | e <;> subst e <;> decide
theorem c_part {N n np ns : Nat} {k a b c : Int32} {M : Mm} (hN : 100 < N) (h : Inv n np ns M) : CallP (FX9_part N k a b c M) (FX10_part k a b c) := by
  obtain ⟨hn, hnp, c1, c2, c3, c4⟩ := Inv_n h
  -- what the reference does behind its first question
  have r65o : ∀ Q : Mm, (k < 0 ∨ 11 < k) → BX10_part_65 k a b c Q = some ((-2), Q) := fun Q hk => by
    rw [eBX10_part_65, eFX10_in]
    by_cases q : k < 0
    · rw [if_pos q, Option.bind_some, if_pos rfl]
    · rw [if_neg q, if_pos (hk.resolve_left q), Option.bind_some, if_pos rfl]
  have r65i : ∀ Q : Mm, ¬ k < 0 → ¬ 11 < k → ¬ k = 0 → BX10_part_65 k a b c Q = BX10_part_93 k a b c Q := fun Q q1 q2 q3 => by
    rw [eBX10_part_65, eFX10_in, if_neg q1, if_neg q2, Option.bind_some, if_neg (by decide), if_neg q3]
  have r21 : ∀ (Q : Mm) (g : Int32), g ≤ 0 → g ≤ 1 → g ≤ 2 → BX10_part_21 k a b c g Q = BX10_part_65 k a b c Q := fun Q g g0 g1 g2 => by
    rw [eBX10_part_21, if_pos g0, eBX10_part_34, if_pos g1, eBX10_part_48, if_pos g2]
  -- the class behind knowsOperands
  have cadd : ¬ k < 0 → k ≤ 11 → ¬ k = 0 → FX9_knowsOperands k a b c M = some 1 → FX9_part N k a b c M = BX9_part_46 N k a b c M := fun q1 q2 q3 q4 => by
    rw [eFX9_part, q4, Option.bind_some, if_neg (by decide), if_neg q1, if_pos q2, if_neg q3]
  have cunk : FX9_knowsOperands k a b c M = some 0 → FX9_part N k a b c M = some ((-1), M) := fun q => by
    rw [eFX9_part, q, Option.bind_some, if_pos rfl]
  rcases kinds k with ⟨ho, n0, n1, n2, n9, n11⟩ | ⟨i0, i11, i11', hk⟩
  · have hkn : FX9_knowsOperands k a b c M = some 1 := by rw [eFX9_knowsOperands, if_neg n1, if_neg n2, if_neg n9, if_neg n11]
    have hN0 : opN k = 0 := by
      unfold opN
      rw [if_neg n11, if_neg n9]
      by_cases q : k < 2 ∨ 8 < k
      · rw [if_pos q]
      · exfalso
        rcases ho with z | z
        · exact q (Or.inl (by rw [Int32.lt_iff_toInt_lt] at z ⊢; have e0 : (0 : Int32).toInt = 0 := by decide
                              have e1 : (2 : Int32).toInt = 2 := by decide
                              omega))
        · exact q (Or.inr (by rw [Int32.lt_iff_toInt_lt] at z ⊢; have e0 : (11 : Int32).toInt = 11 := by decide
                              have e1 : (8 : Int32).toInt = 8 := by decide
                              omega))
    have hF : opF k = false := by unfold opF; exact decide_eq_false n1
    refine CallP_same (-2) h ?_ ?_
    · rw [eFX9_part, hkn, Option.bind_some, if_neg (by decide)]
      by_cases q : k < 0
      · rw [if_pos q]
      · rw [if_neg q, if_neg (fun z => i_le.mp z (ho.resolve_left q))]
    · rw [eFX10_part, partsOf_run, Option.bind_some, isOfField_run, Option.bind_some, hF, if_pos (by rfl), hN0, r21 M _ (by decide) (by decide) (by decide), r65o M ho]
  · rcases hk with e | e | e | e | e
    · -- NUMBER
      have hkn : FX9_knowsOperands k a b c M = some 1 := by rw [e]; rfl
      have hre : ∀ Q : Mm, FX10_part k a b c Q = BX10_part_65 k a b c Q := fun Q => by
        rw [eFX10_part, partsOf_run, Option.bind_some, isOfField_run, Option.bind_some, if_pos (by rw [e]; rfl), r21 Q _ (by rw [e]; decide) (by rw [e]; decide) (by rw [e]; decide)]
      by_cases hr : ¬ a < (-1000000) ∧ ¬ 1000000 < a
      · obtain ⟨r, M1, M2, z1, z2, z4, z3⟩ := part_add hN h (k := k) (a := a) (b := b) (c := c) (Or.inl e)
        refine ⟨r, M1, M2, ?_, ?_, z3⟩
        · rw [eFX9_part, hkn, Option.bind_some, if_neg (by decide), if_neg i0, if_pos i11, if_pos e, if_neg hr.1, if_pos (i_le.mpr hr.2), z1]
        · rw [hre, eBX10_part_65, eFX10_in, if_neg i0, if_neg i11', Option.bind_some, if_neg (by decide), if_pos e, eFX10_in, if_neg hr.1, if_neg hr.2, Option.bind_some, if_neg (by decide), z2]
      · refine CallP_same (-2) h ?_ ?_
        · rw [eFX9_part, hkn, Option.bind_some, if_neg (by decide), if_neg i0, if_pos i11, if_pos e]
          by_cases q : a < (-1000000)
          · rw [if_pos q]
          · rw [if_neg q, if_neg (fun z => hr ⟨q, i_le.mp z⟩)]
        · rw [hre, eBX10_part_65, eFX10_in, if_neg i0, if_neg i11', Option.bind_some, if_neg (by decide), if_pos e, eFX10_in]
          by_cases q : a < (-1000000)
          · rw [if_pos q, Option.bind_some, if_pos rfl]
          · rw [if_neg q, if_pos (Decidable.byContradiction fun z => hr ⟨q, z⟩), Option.bind_some, if_pos rfl]
    · -- ANSWER, COUNTED
      have n0 : ¬ k = 0 := by rcases e with e | e <;> rw [e] <;> decide
      have hF : opF k = true := by unfold opF; exact decide_eq_true e
      have hre : ∀ Q : Mm, FX10_part k a b c Q = (FX10_noField a Q).bind fun r7 => (if r7 = 0 then BX10_part_93 k a b c Q else some ((-1), Q)) := fun Q => by
        rw [eFX10_part, partsOf_run, Option.bind_some, isOfField_run, Option.bind_some, hF, if_neg (by decide), r21 Q _ (by rcases e with e | e <;> rw [e] <;> decide) (by rcases e with e | e <;> rw [e] <;> decide) (by rcases e with e | e <;> rw [e] <;> decide), r65i Q i0 i11' n0]
      rcases fldQ a hn with ⟨f, hf, ea, a1, a2⟩ | ⟨a1, a2⟩
      · obtain ⟨r, M1, M2, z1, z2, z4, z3⟩ := part_add hN h (k := k) (a := a) (b := b) (c := c) (Or.inr (Or.inl ⟨e, f, hf, ea⟩))
        have x69 : M1.1 69 0 = nI n := by rw [z4]; exact c3
        refine ⟨r, M1, M2, ?_, ?_, z3⟩
        · rw [cadd i0 i11 n0 (by rw [eFX9_knowsOperands, if_pos e, a1 M c1]; rfl), z1]
        · rw [hre, a2 M1 x69, Option.bind_some, if_pos rfl, z2]
      · refine CallP_same (-1) h ?_ ?_
        · exact cunk (by rw [eFX9_knowsOperands, if_pos e, a1 M c1]; rfl)
        · rw [hre, a2 M c3, Option.bind_some, if_neg (by decide)]
    · -- of two parts
      have n0 : ¬ k = 0 := by rcases e with e | e | e | e | e | e | e <;> rw [e] <;> decide
      have n1 : ¬ (k = 1 ∨ k = 10) := by rcases e with e | e | e | e | e | e | e <;> rw [e] <;> decide
      have hN2 : opN k = 2 := by rcases e with e | e | e | e | e | e | e <;> rw [e] <;> decide
      have hF : opF k = false := by unfold opF; exact decide_eq_false n1
      have hkn : FX9_knowsOperands k a b c M = (FX3_has a M).bind fun r8 => (if r8 = 0 then some 0 else (FX3_has b M).bind fun r11 => (if r11 = 0 then some 0 else some 1)) := by rw [eFX9_knowsOperands, if_neg n1, if_pos e]
      have hre : ∀ Q : Mm, FX10_part k a b c Q = (FX10_noPart a Q).bind fun r3 => (if r3 = 0 then (FX10_noPart b Q).bind fun r3 => (if r3 = 0 then BX10_part_93 k a b c Q else some ((-1), Q)) else some ((-1), Q)) := fun Q => by
        rw [eFX10_part, partsOf_run, Option.bind_some, isOfField_run, Option.bind_some, hF, if_pos (by rfl), hN2, eBX10_part_21, if_neg (show ¬ nI 2 ≤ 0 by decide), eBX10_part_34, if_neg (show ¬ nI 2 ≤ 1 by decide), eBX10_part_48, if_pos (show nI 2 ≤ 2 by decide), r65i Q i0 i11' n0]
      rcases prtQ a hnp with ⟨x, hx, ea, a1, a2⟩ | ⟨a1, a2⟩
      · rcases prtQ b hnp with ⟨y, hy, eb, b1, b2⟩ | ⟨b1, b2⟩
        · obtain ⟨r, M1, M2, z1, z2, z4, z3⟩ := part_add hN h (k := k) (a := a) (b := b) (c := c) (Or.inr (Or.inr (Or.inr (Or.inr ⟨e, ⟨x, hx, ea⟩, y, hy, eb⟩))))
          have x69 : M1.1 69 5 = nI np := by rw [z4]; exact c4
          refine ⟨r, M1, M2, ?_, ?_, z3⟩
          · rw [cadd i0 i11 n0 (by rw [hkn, a1 M c2, Option.bind_some, if_neg (by decide), b1 M c2, Option.bind_some, if_neg (by decide)]), z1]
          · rw [hre, a2 M1 x69, Option.bind_some, if_pos rfl, b2 M1 x69, Option.bind_some, if_pos rfl, z2]
        · refine CallP_same (-1) h ?_ ?_
          · exact cunk (by rw [hkn, a1 M c2, Option.bind_some, if_neg (by decide), b1 M c2, Option.bind_some, if_pos rfl])
          · rw [hre, a2 M c4, Option.bind_some, if_pos rfl, b2 M c4, Option.bind_some, if_neg (by decide)]
      · refine CallP_same (-1) h ?_ ?_
        · exact cunk (by rw [hkn, a1 M c2, Option.bind_some, if_pos rfl])
        · rw [hre, a2 M c4, Option.bind_some, if_neg (by decide)]
    · -- NOT
      have n0 : ¬ k = 0 := by rw [e]; decide
      have hF : opF k = false := by rw [e]; decide
      have hN1 : opN k = 1 := by rw [e]; decide
      have hkn : FX9_knowsOperands k a b c M = (FX3_has a M).bind fun r15 => (gdB r15).bind fun g16 => some g16 := by
        rw [eFX9_knowsOperands, if_neg (by rw [e]; decide), if_neg (by rw [e]; decide), if_pos e]
      have hre : ∀ Q : Mm, FX10_part k a b c Q = (FX10_noPart a Q).bind fun r3 => (if r3 = 0 then BX10_part_93 k a b c Q else some ((-1), Q)) := fun Q => by
        rw [eFX10_part, partsOf_run, Option.bind_some, isOfField_run, Option.bind_some, hF, if_pos (by rfl), hN1, eBX10_part_21, if_neg (show ¬ nI 1 ≤ 0 by decide), eBX10_part_34, if_pos (show nI 1 ≤ 1 by decide), eBX10_part_48, if_pos (show nI 1 ≤ 2 by decide), r65i Q i0 i11' n0]
      rcases prtQ a hnp with ⟨x, hx, ea, a1, a2⟩ | ⟨a1, a2⟩
      · obtain ⟨r, M1, M2, z1, z2, z4, z3⟩ := part_add hN h (k := k) (a := a) (b := b) (c := c) (Or.inr (Or.inr (Or.inl ⟨e, x, hx, ea⟩)))
        have x69 : M1.1 69 5 = nI np := by rw [z4]; exact c4
        refine ⟨r, M1, M2, ?_, ?_, z3⟩
        · rw [cadd i0 i11 n0 (by rw [hkn, a1 M c2]; rfl), z1]
        · rw [hre, a2 M1 x69, Option.bind_some, if_pos rfl, z2]
      · refine CallP_same (-1) h ?_ ?_
        · exact cunk (by rw [hkn, a1 M c2]; rfl)
        · rw [hre, a2 M c4, Option.bind_some, if_neg (by decide)]
    · -- CHOICE
      have n0 : ¬ k = 0 := by rw [e]; decide
      have hF : opF k = false := by rw [e]; decide
      have hN3 : opN k = 3 := by rw [e]; decide
      have hkn : FX9_knowsOperands k a b c M = (FX3_has a M).bind fun r20 => (if r20 = 0 then some 0 else (FX3_has b M).bind fun r23 => (if r23 = 0 then some 0 else (FX3_has c M).bind fun r26 => (if r26 = 0 then some 0 else some 1))) := by
        rw [eFX9_knowsOperands, if_neg (by rw [e]; decide), if_neg (by rw [e]; decide), if_neg (by rw [e]; decide), if_pos e]
      have hre : ∀ Q : Mm, FX10_part k a b c Q = (FX10_noPart a Q).bind fun r3 => (if r3 = 0 then (FX10_noPart b Q).bind fun r3 => (if r3 = 0 then (FX10_noPart c Q).bind fun r3 => (if r3 = 0 then BX10_part_93 k a b c Q else some ((-1), Q)) else some ((-1), Q)) else some ((-1), Q)) := fun Q => by
        rw [eFX10_part, partsOf_run, Option.bind_some, isOfField_run, Option.bind_some, hF, if_pos (by rfl), hN3, eBX10_part_21, if_neg (show ¬ nI 3 ≤ 0 by decide), eBX10_part_34, if_neg (show ¬ nI 3 ≤ 1 by decide), eBX10_part_48, if_neg (show ¬ nI 3 ≤ 2 by decide), r65i Q i0 i11' n0]
      rcases prtQ a hnp with ⟨x, hx, ea, a1, a2⟩ | ⟨a1, a2⟩
      · rcases prtQ b hnp with ⟨y, hy, eb, b1, b2⟩ | ⟨b1, b2⟩
        · rcases prtQ c hnp with ⟨z, hz, ec, d1, d2⟩ | ⟨d1, d2⟩
          · obtain ⟨r, M1, M2, z1, z2, z4, z3⟩ := part_add hN h (k := k) (a := a) (b := b) (c := c) (Or.inr (Or.inr (Or.inr (Or.inl ⟨e, ⟨x, hx, ea⟩, ⟨y, hy, eb⟩, z, hz, ec⟩))))
            have x69 : M1.1 69 5 = nI np := by rw [z4]; exact c4
            refine ⟨r, M1, M2, ?_, ?_, z3⟩
            · rw [cadd i0 i11 n0 (by rw [hkn, a1 M c2, Option.bind_some, if_neg (by decide), b1 M c2, Option.bind_some, if_neg (by decide), d1 M c2, Option.bind_some, if_neg (by decide)]), z1]
            · rw [hre, a2 M1 x69, Option.bind_some, if_pos rfl, b2 M1 x69, Option.bind_some, if_pos rfl, d2 M1 x69, Option.bind_some, if_pos rfl, z2]
          · refine CallP_same (-1) h ?_ ?_
            · exact cunk (by rw [hkn, a1 M c2, Option.bind_some, if_neg (by decide), b1 M c2, Option.bind_some, if_neg (by decide), d1 M c2, Option.bind_some, if_pos rfl])
            · rw [hre, a2 M c4, Option.bind_some, if_pos rfl, b2 M c4, Option.bind_some, if_pos rfl, d2 M c4, Option.bind_some, if_neg (by decide)]
        · refine CallP_same (-1) h ?_ ?_
          · exact cunk (by rw [hkn, a1 M c2, Option.bind_some, if_neg (by decide), b1 M c2, Option.bind_some, if_pos rfl])
          · rw [hre, a2 M c4, Option.bind_some, if_pos rfl, b2 M c4, Option.bind_some, if_neg (by decide)]
      · refine CallP_same (-1) h ?_ ?_
        · exact cunk (by rw [hkn, a1 M c2, Option.bind_some, if_pos rfl])
        · rw [hre, a2 M c4, Option.bind_some, if_neg (by decide)]
