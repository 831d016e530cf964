/-! ===== the law: every call answers alike, so it answers 1 ===== -/
theorem bindP {a : Option (Int32 × Mm)} {b : Mm → Option (Int32 × Mm)} {K : Int32 × Mm → Option (Int32 × Mm)} {x : Int32} (h : CallP a b) : ∃ M2, InvE M2 ∧ (a.bind fun p => (b p.2).bind fun q => if p.1 = q.1 then K (x, q.2) else some (0, q.2)) = K (x, M2) := by
  obtain ⟨r, M1, M2, e1, e2, hI⟩ := h
  refine ⟨M2, hI, ?_⟩
  rw [e1, Option.bind_some, e2, Option.bind_some, if_pos rfl]
theorem bindQ {a : Option Int32} {b : Option (Int32 × Mm)} {K : Int32 × Mm → Option (Int32 × Mm)} {x : Int32} (h : CallQ a b) : ∃ M2, InvE M2 ∧ (a.bind fun p => b.bind fun q => if p = q.1 then K (x, q.2) else some (0, q.2)) = K (x, M2) := by
  obtain ⟨r, M2, e1, e2, hI⟩ := h
  refine ⟨M2, hI, ?_⟩
  rw [e1, Option.bind_some, e2, Option.bind_some, if_pos rfl]
theorem bindR {a b : Option Int32} {M : Mm} {K : Int32 × Mm → Option (Int32 × Mm)} {x : Int32} (h : ∃ r, a = some r ∧ b = some r) (hI : InvE M) : ∃ M2, InvE M2 ∧ (a.bind fun p => b.bind fun q => if p = q then K (x, M) else some (0, M)) = K (x, M2) := by
  obtain ⟨r, e1, e2⟩ := h
  refine ⟨M, hI, ?_⟩
  rw [e1, Option.bind_some, e2, Option.bind_some, if_pos rfl]
theorem law_step {N k Ln : Nat} {xs : Nat → Int32} {M : Mm} {K : Int32 × Mm → Option (Int32 × Mm)} (hN : 30000 < N) (hL : Ln ≤ 2560) (hk : 5 * k + 5 ≤ Ln) (hI : InvE M) : ∃ M2, InvE M2 ∧ BL_law_18 N xs Ln K (nI (5 * k), M) = K (nI (5 * k) + 5, M2) := by
  have hIE := hI
  obtain ⟨n, np, ns, hI⟩ := hI
  have rd : ∀ j, j < 5 → rdS xs Ln (nI (5 * k + j)) = some (xs (5 * k + j)) := fun j hj => by
    unfold rdS
    rw [if_neg (nI_in (by omega) (by omega)), nI_clamp (by omega)]
  have r0 : rdS xs Ln (nI (5 * k)) = some (xs (5 * k)) := rd 0 (by decide)
  have r1 : rdS xs Ln (nI (5 * k) + 1) = some (xs (5 * k + 1)) := by rw [show nI (5 * k) + 1 = nI (5 * k + 1) from nI_add (5 * k) 1]; exact rd 1 (by decide)
  have r2 : rdS xs Ln (nI (5 * k) + 2) = some (xs (5 * k + 2)) := by rw [show nI (5 * k) + 2 = nI (5 * k + 2) from nI_add (5 * k) 2]; exact rd 2 (by decide)
  have r3 : rdS xs Ln (nI (5 * k) + 3) = some (xs (5 * k + 3)) := by rw [show nI (5 * k) + 3 = nI (5 * k + 3) from nI_add (5 * k) 3]; exact rd 3 (by decide)
  have r4 : rdS xs Ln (nI (5 * k) + 4) = some (xs (5 * k + 4)) := by rw [show nI (5 * k) + 4 = nI (5 * k + 4) from nI_add (5 * k) 4]; exact rd 4 (by decide)
  have hgo : ¬ (Int32.ofNat Ln) - 5 < nI (5 * k) := by
    have e : (Int32.ofNat Ln) - 5 = nI (Ln - 5) := pk_sub (a := Ln) (b := 5) (by omega)
    rw [e]
    exact nI_nlt (by omega) (by omega)
  rw [eBL_law_18]
  dsimp only
  rw [if_neg hgo, r0, Option.bind_some]
  generalize xs (5 * k) &&& 31 = v
  by_cases c0 : v = 0
  · obtain ⟨M2, h1, h2⟩ := bindP (K := K) (x := nI (5 * k) + 5) (c_field (N := N) (x := xs (5 * k + 1)) (y := xs (5 * k + 2)) (z := xs (5 * k + 3)) (by omega) hI)
    refine ⟨M2, h1, ?_⟩
    rw [if_pos c0]
    simp only [r1, r2, r3, Option.bind_some]
    exact h2
  rw [if_neg c0]
  by_cases c1 : v = 1
  · obtain ⟨M2, h1, h2⟩ := bindP (K := K) (x := nI (5 * k) + 5) (c_part (N := N) (k := xs (5 * k + 1)) (a := xs (5 * k + 2)) (b := xs (5 * k + 3)) (c := xs (5 * k + 4)) (by omega) hI)
    refine ⟨M2, h1, ?_⟩
    rw [if_pos c1]
    simp only [r1, r2, r3, r4, Option.bind_some]
    exact h2
  rw [if_neg c1]
  by_cases c2 : v = 2
  · obtain ⟨M2, h1, h2⟩ := bindP (K := K) (x := nI (5 * k) + 5) (c_rule (N := N) (x := xs (5 * k + 1)) (y := xs (5 * k + 2)) (z := xs (5 * k + 3)) (by omega) hI)
    refine ⟨M2, h1, ?_⟩
    rw [if_pos c2]
    simp only [r1, r2, r3, Option.bind_some]
    exact h2
  rw [if_neg c2]
  by_cases c3 : v = 3
  · obtain ⟨M2, h1, h2⟩ := bindR (K := K) (x := nI (5 * k) + 5) (c_ring (x := xs (5 * k + 1)) hI) hIE
    refine ⟨M2, h1, ?_⟩
    rw [if_pos c3]
    simp only [r1, Option.bind_some]
    exact h2
  rw [if_neg c3]
  by_cases c4 : v = 4
  · obtain ⟨M2, h1, h2⟩ := bindQ (K := K) (x := nI (5 * k) + 5) (c_about (N := N) (x := xs (5 * k + 1)) (y := xs (5 * k + 2)) (by omega) hI)
    refine ⟨M2, h1, ?_⟩
    rw [if_pos c4]
    simp only [r1, r2, Option.bind_some]
    exact h2
  rw [if_neg c4]
  by_cases c5 : v = 5
  · obtain ⟨M2, h1, h2⟩ := bindQ (K := K) (x := nI (5 * k) + 5) (c_hangs (N := N) (x := xs (5 * k + 1)) (y := xs (5 * k + 2)) (by omega) hI)
    refine ⟨M2, h1, ?_⟩
    rw [if_pos c5]
    simp only [r1, r2, Option.bind_some]
    exact h2
  rw [if_neg c5]
  by_cases c6 : v = 6
  · obtain ⟨M2, h1, h2⟩ := bindP (K := K) (x := nI (5 * k) + 5) (c_answer (N := N) (x := xs (5 * k + 1)) (y := xs (5 * k + 2)) (v := xs (5 * k + 3)) (by omega) hI)
    refine ⟨M2, h1, ?_⟩
    rw [if_pos c6]
    simp only [r1, r2, r3, Option.bind_some]
    exact h2
  rw [if_neg c6]
  by_cases c7 : v = 7
  · obtain ⟨M2, h1, h2⟩ := bindP (K := K) (x := nI (5 * k) + 5) (c_clear (N := N) (x := xs (5 * k + 1)) (y := xs (5 * k + 2)) (by omega) hI)
    refine ⟨M2, h1, ?_⟩
    rw [if_pos c7]
    simp only [r1, r2, Option.bind_some]
    exact h2
  rw [if_neg c7]
  by_cases c8 : v = 8
  · obtain ⟨M2, h1, h2⟩ := bindP (K := K) (x := nI (5 * k) + 5) (c_kept (N := N) (x := xs (5 * k + 1)) (y := xs (5 * k + 2)) (by omega) hI)
    refine ⟨M2, h1, ?_⟩
    rw [if_pos c8]
    simp only [r1, r2, Option.bind_some]
    exact h2
  rw [if_neg c8]
  by_cases c9 : v = 9
  · obtain ⟨M2, h1, h2⟩ := bindP (K := K) (x := nI (5 * k) + 5) (c_counts (N := N) (x := xs (5 * k + 1)) (y := xs (5 * k + 2)) (by omega) hI)
    refine ⟨M2, h1, ?_⟩
    rw [if_pos c9]
    simp only [r1, r2, Option.bind_some]
    exact h2
  rw [if_neg c9]
  by_cases c10 : v = 10
  · obtain ⟨M2, h1, h2⟩ := bindP (K := K) (x := nI (5 * k) + 5) (c_status (N := N) (x := xs (5 * k + 1)) (y := xs (5 * k + 2)) (by omega) hI)
    refine ⟨M2, h1, ?_⟩
    rw [if_pos c10]
    simp only [r1, r2, Option.bind_some]
    exact h2
  rw [if_neg c10]
  by_cases c11 : v = 11
  · obtain ⟨M2, h1, h2⟩ := bindP (K := K) (x := nI (5 * k) + 5) (c_done (N := N) (x := xs (5 * k + 1)) (by omega) hI)
    refine ⟨M2, h1, ?_⟩
    rw [if_pos c11]
    simp only [r1, Option.bind_some]
    exact h2
  rw [if_neg c11]
  by_cases c12 : v = 12
  · obtain ⟨M2, h1, h2⟩ := bindP (K := K) (x := nI (5 * k) + 5) (c_value (N := N) (x := xs (5 * k + 1)) (y := xs (5 * k + 2)) (by omega) hI)
    refine ⟨M2, h1, ?_⟩
    rw [if_pos c12]
    simp only [r1, r2, Option.bind_some]
    exact h2
  rw [if_neg c12]
  by_cases c13 : v = 13
  · obtain ⟨M2, h1, h2⟩ := bindP (K := K) (x := nI (5 * k) + 5) (c_copy (N := N) (x := xs (5 * k + 1)) (y := xs (5 * k + 2)) (by omega) hI)
    refine ⟨M2, h1, ?_⟩
    rw [if_pos c13]
    simp only [r1, r2, Option.bind_some]
    exact h2
  rw [if_neg c13]
  by_cases c14 : v = 14
  · obtain ⟨M2, h1, h2⟩ := bindP (K := K) (x := nI (5 * k) + 5) (c_join (N := N) (x := xs (5 * k + 1)) (y := xs (5 * k + 2)) (z := xs (5 * k + 3)) (w := xs (5 * k + 4)) (by omega) hI)
    refine ⟨M2, h1, ?_⟩
    rw [if_pos c14]
    simp only [r1, r2, r3, r4, Option.bind_some]
    exact h2
  rw [if_neg c14]
  by_cases c15 : v = 15
  · obtain ⟨M2, h1, h2⟩ := bindR (K := K) (x := nI (5 * k) + 5) (c_odds (x := xs (5 * k + 1)) hI) hIE
    refine ⟨M2, h1, ?_⟩
    rw [if_pos c15]
    simp only [r1, Option.bind_some]
    exact h2
  rw [if_neg c15]
  by_cases c16 : v = 16
  · obtain ⟨M2, h1, h2⟩ := bindP (K := K) (x := nI (5 * k) + 5) (c_seal (N := N) (x := xs (5 * k + 1)) (y := xs (5 * k + 2)) (by omega) hI)
    refine ⟨M2, h1, ?_⟩
    rw [if_pos c16]
    simp only [r1, r2, Option.bind_some]
    exact h2
  rw [if_neg c16]
  by_cases c17 : v = 17
  · obtain ⟨M2, h1, h2⟩ := bindP (K := K) (x := nI (5 * k) + 5) (c_open (x := xs (5 * k + 1)) hI)
    refine ⟨M2, h1, ?_⟩
    rw [if_pos c17]
    simp only [r1, Option.bind_some]
    exact h2
  rw [if_neg c17]
  by_cases c18 : v = 18
  · obtain ⟨M2, h1, h2⟩ := bindP (K := K) (x := nI (5 * k) + 5) (c_sealed (N := N) (x := xs (5 * k + 1)) (y := xs (5 * k + 2)) (by omega) hI)
    refine ⟨M2, h1, ?_⟩
    rw [if_pos c18]
    simp only [r1, r2, Option.bind_some]
    exact h2
  rw [if_neg c18]
  by_cases c19 : v = 19
  · obtain ⟨M2, h1, h2⟩ := bindP (K := K) (x := nI (5 * k) + 5) (c_reach (N := N) (x := xs (5 * k + 1)) hN hI)
    refine ⟨M2, h1, ?_⟩
    rw [if_pos c19]
    simp only [r1, Option.bind_some]
    exact h2
  rw [if_neg c19]
  by_cases c20 : v = 20
  · obtain ⟨M2, h1, h2⟩ := bindR (K := K) (x := nI (5 * k) + 5) (c_found (x := xs (5 * k + 1)) hI) hIE
    refine ⟨M2, h1, ?_⟩
    rw [if_pos c20]
    simp only [r1, Option.bind_some]
    exact h2
  rw [if_neg c20]
  by_cases c21 : v = 21
  · obtain ⟨M2, h1, h2⟩ := bindR (K := K) (x := nI (5 * k) + 5) (c_tried  hI) hIE
    refine ⟨M2, h1, ?_⟩
    rw [if_pos c21]
    exact h2
  rw [if_neg c21]
  by_cases c22 : v = 22
  · obtain ⟨M2, h1, h2⟩ := bindP (K := K) (x := nI (5 * k) + 5) (c_told (N := N) (x := xs (5 * k + 1)) (by omega) hI)
    refine ⟨M2, h1, ?_⟩
    rw [if_pos c22]
    simp only [r1, Option.bind_some]
    exact h2
  rw [if_neg c22]
  by_cases c23 : v = 23
  · obtain ⟨M2, h1, h2⟩ := bindP (K := K) (x := nI (5 * k) + 5) (c_tell (x := xs (5 * k + 1)) hI)
    refine ⟨M2, h1, ?_⟩
    rw [if_pos c23]
    simp only [r1, Option.bind_some]
    exact h2
  rw [if_neg c23]
  by_cases c24 : v = 24
  · obtain ⟨M2, h1, h2⟩ := bindP (K := K) (x := nI (5 * k) + 5) (c_address (x := xs (5 * k + 1)) hI)
    refine ⟨M2, h1, ?_⟩
    rw [if_pos c24]
    simp only [r1, Option.bind_some]
    exact h2
  rw [if_neg c24]
  by_cases c25 : v = 25
  · obtain ⟨M2, h1, h2⟩ := bindR (K := K) (x := nI (5 * k) + 5) (c_trace  hI) hIE
    refine ⟨M2, h1, ?_⟩
    rw [if_pos c25]
    exact h2
  rw [if_neg c25]
  exact ⟨M, hIE, rfl⟩
theorem ini_inv {M1 : Mm} (h : IniM M1) : Inv 0 0 0 (MAll M1) := by
  obtain ⟨h1, h2, h3, h4, h5⟩ := h
  have lo : ∀ z, z < 69 → z ≠ 33 → z ≠ 34 → z ≠ 35 → z ≠ 36 → z ≠ 62 → (MAll M1).1 z = fun _ => 0 := fun z hz a b c d e => by
    unfold MAll mem_X9
    dsimp only
    rw [if_pos hz, if_neg (fun q => by omega)]
  have dr : ∀ z j, (z = 33 ∨ z = 34 ∨ z = 35 ∨ z = 36 ∨ z = 62) → j < 12 → (MAll M1).1 z j = LO := fun z j hz hj => by
    unfold MAll mem_X9
    dsimp only
    rw [if_pos (show z < 69 by omega), if_pos hz, if_pos hj]; rfl
  have hi : ∀ z, 69 ≤ z → (MAll M1).1 z = M1.1 (z - 69) := fun z hz => by
    unfold MAll
    dsimp only
    rw [if_neg (by omega)]
  have hz : ∀ z j, 69 ≤ z → z ≠ 88 → z ≠ 83 → z ≠ 95 → (MAll M1).1 z j = 0 := fun z j a b c d => by
    rw [hi z a]
    exact h4 (z - 69) (by omega) (by omega) (by omega) j
  have hzf : ∀ z, 69 ≤ z → z ≠ 88 → z ≠ 83 → z ≠ 95 → (MAll M1).1 z = fun _ => 0 := fun z a b c d => funext fun j => hz z j a b c d
  have n0 : ∀ f : Nat, ¬ f < 0 := fun f => Nat.not_lt_zero f
  refine ⟨⟨⟨⟨by decide, by decide, ?_, ?_, fun p q => absurd q (n0 p), fun p q => absurd q (n0 p), fun p q => absurd q (n0 p)⟩, ⟨fun p q => absurd q (n0 p), fun p q => absurd q (n0 p), fun p q => absurd q (n0 p), fun p q => absurd q (n0 p), fun f _ _ => ?_⟩, 0, ⟨⟨by decide, ?_, fun p q => absurd q (n0 p), fun p q => absurd q (n0 p), fun p q => absurd q (n0 p), fun p _ q => absurd q (n0 p), fun p q => absurd q (n0 p)⟩, fun p _ q => absurd q (n0 p), fun p _ q => absurd q (n0 p)⟩⟩, ⟨?_, ?_, ?_, ?_, ?_, ?_, ?_, fun f j hf hj => ?_⟩, ?_, ?_, fun p q => absurd q (n0 p)⟩, Or.inl ?_, fun d f hd hf => ⟨?_, Or.inl ?_⟩, ⟨by decide, ?_, ?_, fun s hs => ⟨?_, Or.inl ?_, fun _ => ?_⟩, fun p q => absurd q (n0 p)⟩, ⟨0, by decide, ?_, ?_, fun p q => absurd q (n0 p)⟩, ⟨0, by decide, ?_, ?_, fun p q => absurd q (n0 p)⟩, ⟨?_, fun f hf => ?_⟩, ?_⟩
  · rw [lo 2 (by decide) (by decide) (by decide) (by decide) (by decide) (by decide)]; rfl
  · rw [lo 21 (by decide) (by decide) (by decide) (by decide) (by decide) (by decide)]; rfl
  · rw [lo 19 (by decide) (by decide) (by decide) (by decide) (by decide) (by decide), lo 20 (by decide) (by decide) (by decide) (by decide) (by decide) (by decide)]
    exact ⟨rfl, rfl⟩
  · rw [lo 1 (by decide) (by decide) (by decide) (by decide) (by decide) (by decide)]; rfl
  · rw [lo 3 (by decide) (by decide) (by decide) (by decide) (by decide) (by decide), hzf 70 (by decide) (by decide) (by decide) (by decide)]
  · rw [lo 4 (by decide) (by decide) (by decide) (by decide) (by decide) (by decide), hzf 71 (by decide) (by decide) (by decide) (by decide)]
  · rw [lo 5 (by decide) (by decide) (by decide) (by decide) (by decide) (by decide), hzf 72 (by decide) (by decide) (by decide) (by decide)]
  · rw [lo 22 (by decide) (by decide) (by decide) (by decide) (by decide) (by decide), hzf 74 (by decide) (by decide) (by decide) (by decide)]
  · rw [lo 23 (by decide) (by decide) (by decide) (by decide) (by decide) (by decide), hzf 75 (by decide) (by decide) (by decide) (by decide)]
  · rw [lo 24 (by decide) (by decide) (by decide) (by decide) (by decide) (by decide), hzf 76 (by decide) (by decide) (by decide) (by decide)]
  · rw [lo 25 (by decide) (by decide) (by decide) (by decide) (by decide) (by decide), hzf 77 (by decide) (by decide) (by decide) (by decide)]
  · rw [lo (7 + f) (by omega) (by omega) (by omega) (by omega) (by omega) (by omega), hz 73 _ (by decide) (by decide) (by decide) (by decide)]
  · rw [hz 69 _ (by decide) (by decide) (by decide) (by decide)]; rfl
  · rw [hz 69 _ (by decide) (by decide) (by decide) (by decide)]; rfl
  · rw [hz 69 _ (by decide) (by decide) (by decide) (by decide)]
  · rw [dr (33 + d) f (by omega) hf, hi 88 (by decide), h1 (12 * d + f) (by omega)]; rfl
  · rw [dr (33 + d) f (by omega) hf]
  · rw [lo 43 (by decide) (by decide) (by decide) (by decide) (by decide) (by decide)]; rfl
  · rw [hz 69 _ (by decide) (by decide) (by decide) (by decide)]; rfl
  · rw [lo 46 (by decide) (by decide) (by decide) (by decide) (by decide) (by decide), hz 92 _ (by decide) (by decide) (by decide) (by decide)]
  · rw [lo 46 (by decide) (by decide) (by decide) (by decide) (by decide) (by decide)]
  · rw [lo 46 (by decide) (by decide) (by decide) (by decide) (by decide) (by decide)]
  · rw [lo 30 (by decide) (by decide) (by decide) (by decide) (by decide) (by decide)]; rfl
  · rw [hz 69 _ (by decide) (by decide) (by decide) (by decide)]; rfl
  · rw [lo 41 (by decide) (by decide) (by decide) (by decide) (by decide) (by decide)]; rfl
  · rw [hz 69 _ (by decide) (by decide) (by decide) (by decide)]; rfl
  · rw [hz 69 _ (by decide) (by decide) (by decide) (by decide), lo 61 (by decide) (by decide) (by decide) (by decide) (by decide) (by decide)]
  · rw [hi 95 (by decide), h3 f hf, dr 62 f (by omega) hf]; rfl
  · unfold tcI
    rw [hz 69 _ (by decide) (by decide) (by decide) (by decide), lo 68 (by decide) (by decide) (by decide) (by decide) (by decide) (by decide)]
theorem pure_law : PureLaw := fun M1 h xs Ln hL => by
  refine ⟨30001, ?_⟩
  rw [eFL_law]
  refine lp_up (fun k (q : Int32 × Mm) => q.1 = nI (5 * k) ∧ InvE q.2) (fun o => ∃ M', o = some (1, M')) (Ln / 5) 30001 _ ⟨rfl, 0, 0, 0, ini_inv h⟩ (by omega) ?_ ?_
  · rintro k ⟨x, M⟩ K hk ⟨e, hI⟩
    dsimp only at e hI
    subst e
    left
    obtain ⟨M2, h1, h2⟩ := law_step (K := K) (xs := xs) (N := 30001) (by omega) hL (show 5 * k + 5 ≤ Ln by omega) hI
    refine ⟨_, ⟨?_, h1⟩, h2⟩
    show nI (5 * k) + 5 = nI (5 * (k + 1))
    rw [show nI (5 * k) + 5 = nI (5 * k + 5) from nI_add (5 * k) 5, show 5 * k + 5 = 5 * (k + 1) by omega]
  · rintro ⟨x, M⟩ K ⟨e, hI⟩
    dsimp only at e hI
    subst e
    rw [eBL_law_18]
    dsimp only
    have hgo : (Int32.ofNat Ln) - 5 < nI (5 * (Ln / 5)) := by
      have e1 : (nI Ln - 5).toInt = (Ln : Int) - 5 := pk_sub_toInt (a := Ln) (b := 5) (by omega) (by omega)
      have e2 : (nI (5 * (Ln / 5))).toInt = ((5 * (Ln / 5) : Nat) : Int) := nI_toInt (by omega)
      show nI Ln - 5 < nI (5 * (Ln / 5))
      rw [Int32.lt_iff_toInt_lt, e1, e2]
      omega
    rw [if_pos hgo]
    exact ⟨M, rfl⟩
