/-! ===== a part more, a field more ===== -/
theorem opA_1 {pk pa pb pc : Nat → Int32} {p x o : Nat} (hp : p < 50) (hk : opN (pk p) = 1) (hx : x < p) (ea : pa p = nI x) : opA pk pa pb pc p o ↔ o = x := by
  unfold opA
  rw [hk, ea]
  constructor
  · rintro ⟨h, (⟨_, e⟩ | ⟨e, _⟩ | ⟨e, _⟩)⟩
    · exact (nI_inj (by omega) (by omega) e).symm
    · omega
    · omega
  · intro e
    subst e
    exact ⟨hx, Or.inl ⟨by decide, rfl⟩⟩
theorem opA_2 {pk pa pb pc : Nat → Int32} {p x y o : Nat} (hp : p < 50) (hk : opN (pk p) = 2) (hx : x < p) (hy : y < p) (ea : pa p = nI x) (eb : pb p = nI y) : opA pk pa pb pc p o ↔ o = x ∨ o = y := by
  unfold opA
  rw [hk, ea, eb]
  constructor
  · rintro ⟨h, (⟨_, e⟩ | ⟨_, e⟩ | ⟨e, _⟩)⟩
    · exact Or.inl (nI_inj (by omega) (by omega) e).symm
    · exact Or.inr (nI_inj (by omega) (by omega) e).symm
    · omega
  · rintro (e | e)
    · subst e; exact ⟨hx, Or.inl ⟨by decide, rfl⟩⟩
    · subst e; exact ⟨hy, Or.inr (Or.inl ⟨by decide, rfl⟩)⟩
theorem opA_3 {pk pa pb pc : Nat → Int32} {p x y z o : Nat} (hp : p < 50) (hk : opN (pk p) = 3) (hx : x < p) (hy : y < p) (hz : z < p) (ea : pa p = nI x) (eb : pb p = nI y) (ec : pc p = nI z) : opA pk pa pb pc p o ↔ o = x ∨ o = y ∨ o = z := by
  unfold opA
  rw [hk, ea, eb, ec]
  constructor
  · rintro ⟨h, (⟨_, e⟩ | ⟨_, e⟩ | ⟨_, e⟩)⟩
    · exact Or.inl (nI_inj (by omega) (by omega) e).symm
    · exact Or.inr (Or.inl (nI_inj (by omega) (by omega) e).symm)
    · exact Or.inr (Or.inr (nI_inj (by omega) (by omega) e).symm)
  · rintro (e | e | e)
    · subst e; exact ⟨hx, Or.inl ⟨by decide, rfl⟩⟩
    · subst e; exact ⟨hy, Or.inr (Or.inl ⟨by decide, rfl⟩)⟩
    · subst e; exact ⟨hz, Or.inr (Or.inr ⟨by decide, rfl⟩)⟩
theorem opA_0 {pk pa pb pc : Nat → Int32} {p o : Nat} (hk : opN (pk p) = 0) : ¬ opA pk pa pb pc p o := by
  unfold opA
  rw [hk]
  rintro ⟨h, (⟨e, _⟩ | ⟨e, _⟩ | ⟨e, _⟩)⟩ <;> omega
theorem gather_run {n p : Nat} {M : Mm} (hn : n ≤ 12) (hp : p < 50) (hok : pok n p (M.1 22 p) (M.1 23 p) (M.1 24 p) (M.1 25 p)) (h26 : ∀ o, o < p → ∀ g, bt (M.1 26 o) g = true ↔ g < 12 ∧ AO (M.1 22) (M.1 23) (M.1 24) (M.1 25) o g) : ∃ m, FX3_gatherAnswers (nI p) M = some m ∧ ∀ g, bt m g = true ↔ g < 12 ∧ AO (M.1 22) (M.1 23) (M.1 24) (M.1 25) p g := by
  unfold FX3_gatherAnswers
  rw [rdI_nI (by omega) (by decide), Option.bind_some]
  rcases hok with e | ⟨e, g0, hg0, ea⟩ | ⟨e, x, hx, ea⟩ | ⟨e, ⟨x, hx, ea⟩, ⟨y, hy, eb⟩, z, hz, ec⟩ | ⟨e, ⟨x, hx, ea⟩, y, hy, eb⟩
  · rw [if_pos e]
    refine ⟨0, rfl, fun g => ?_⟩
    rw [b_0, AO_step]
    refine ⟨(fun h => by cases h), ?_⟩
    rintro ⟨_, (⟨h, _⟩ | ⟨o, h, _⟩)⟩
    · rw [e] at h; exact absurd h (by decide)
    · exact absurd h (opA_0 (by rw [e]; decide))
  · have h0 : ¬ M.1 22 p = 0 := by rcases e with e | e <;> rw [e] <;> decide
    have hN : opN (M.1 22 p) = 0 := by rcases e with e | e <;> rw [e] <;> decide
    have hF : opF (M.1 22 p) = true := by unfold opF; simp; exact e
    rw [if_neg h0, if_pos e, rdI_nI (by omega) (by decide), Option.bind_some, ea]
    refine ⟨_, rfl, fun g => ?_⟩
    have h1 : bt ((1 : Int32) <<< (nI g0 &&& 31)) g = true ↔ g = g0 := by
      have h2 := b_orone (m := 0) (f := g0) (b := g) (by omega)
      rw [b_or, b_0, Bool.false_or] at h2
      rw [h2]
      exact ⟨fun h => h.elim (fun h => by cases h) id, Or.inr⟩
    rw [h1, AO_step]
    constructor
    · intro h; subst h; exact ⟨by omega, Or.inl ⟨hF, ea⟩⟩
    · rintro ⟨h12, (⟨_, h⟩ | ⟨o, h, _⟩)⟩
      · exact (nI_inj (by omega) (by omega) (ea.symm.trans h)).symm
      · exact absurd h (opA_0 hN)
  · rw [e, if_neg (by decide), if_neg (by decide), if_pos (by decide)]
    simp (disch := omega) only [rdI_nI, Option.bind_some, ea]
    refine ⟨_, rfl, fun g => ?_⟩
    rw [h26 x hx g, AO_step (p := p)]
    refine and_congr Iff.rfl ⟨fun h => Or.inr ⟨x, (opA_1 hp (by rw [e]; decide) hx ea).mpr rfl, h⟩, ?_⟩
    rintro (⟨h, _⟩ | ⟨o, h, h2⟩)
    · rw [e] at h; exact absurd h (by decide)
    · rw [(opA_1 hp (by rw [e]; decide) hx ea).mp h] at h2; exact h2
  · rw [e, if_neg (by decide), if_neg (by decide), if_neg (by decide), if_pos (by decide)]
    simp (disch := omega) only [rdI_nI, Option.bind_some, ea, eb, ec]
    refine ⟨_, rfl, fun g => ?_⟩
    rw [b_or, b_or, Bool.or_eq_true, Bool.or_eq_true, h26 x hx g, h26 y hy g, h26 z hz g, AO_step (p := p)]
    have hop : ∀ o, opA (M.1 22) (M.1 23) (M.1 24) (M.1 25) p o ↔ o = x ∨ o = y ∨ o = z := fun o => opA_3 hp (by rw [e]; decide) hx hy hz ea eb ec
    constructor
    · rintro ((⟨a, h⟩ | ⟨a, h⟩) | ⟨a, h⟩)
      · exact ⟨a, Or.inr ⟨x, (hop x).mpr (Or.inl rfl), h⟩⟩
      · exact ⟨a, Or.inr ⟨y, (hop y).mpr (Or.inr (Or.inl rfl)), h⟩⟩
      · exact ⟨a, Or.inr ⟨z, (hop z).mpr (Or.inr (Or.inr rfl)), h⟩⟩
    · rintro ⟨a, (⟨h, _⟩ | ⟨o, h, h2⟩)⟩
      · rw [e] at h; exact absurd h (by decide)
      · rcases (hop o).mp h with q | q | q
        · subst q; exact Or.inl (Or.inl ⟨a, h2⟩)
        · subst q; exact Or.inl (Or.inr ⟨a, h2⟩)
        · subst q; exact Or.inr ⟨a, h2⟩
  · have h0 : ¬ M.1 22 p = 0 ∧ ¬ (M.1 22 p = 1 ∨ M.1 22 p = 10) ∧ ¬ M.1 22 p = 9 ∧ ¬ M.1 22 p = 11 := by
      rcases e with e | e | e | e | e | e | e <;> rw [e] <;> decide
    have hN : opN (M.1 22 p) = 2 := by rcases e with e | e | e | e | e | e | e <;> rw [e] <;> decide
    have hF : ¬ opF (M.1 22 p) = true := by rcases e with e | e | e | e | e | e | e <;> rw [e] <;> decide
    rw [if_neg h0.1, if_neg h0.2.1, if_neg h0.2.2.1, if_neg h0.2.2.2]
    simp (disch := omega) only [rdI_nI, Option.bind_some, ea, eb]
    refine ⟨_, rfl, fun g => ?_⟩
    rw [b_or, Bool.or_eq_true, h26 x hx g, h26 y hy g, AO_step (p := p)]
    have hop : ∀ o, opA (M.1 22) (M.1 23) (M.1 24) (M.1 25) p o ↔ o = x ∨ o = y := fun o => opA_2 hp hN hx hy ea eb
    constructor
    · rintro (⟨a, h⟩ | ⟨a, h⟩)
      · exact ⟨a, Or.inr ⟨x, (hop x).mpr (Or.inl rfl), h⟩⟩
      · exact ⟨a, Or.inr ⟨y, (hop y).mpr (Or.inr rfl), h⟩⟩
    · rintro ⟨a, (⟨h, _⟩ | ⟨o, h, h2⟩)⟩
      · exact absurd h hF
      · rcases (hop o).mp h with q | q
        · subst q; exact Or.inl ⟨a, h2⟩
        · subst q; exact Or.inr ⟨a, h2⟩
theorem rlok_mono {np np' : Nat} {v : Int32} (h : np ≤ np') (hr : rlok np v) : rlok np' v := hr.elim Or.inl (fun ⟨p, hp, e⟩ => Or.inr ⟨p, by omega, e⟩)
theorem rlok_lt {np p : Nat} {v : Int32} (hnp : np ≤ 50) (hp : p < 51) (hr : rlok np v) (e : v = nI p) : p < np := by
  rcases hr with h | ⟨q, hq, h⟩
  · exfalso
    have h1 := nI_pos (n := p) (by omega)
    rw [← e, h] at h1
    exact h1 (by decide)
  · rw [nI_inj (a := p) (b := q) (by omega) (by omega) (e.symm.trans h)]; exact hq
theorem part_cls {N n np : Nat} {k a b c : Int32} {M : Mm} (hN0 : 100 < N) (hN : netC n np M) (hG : gr n np M) (hlt : np < 50) (hok : pok n np k a b c) : ∃ M', BX9_part_46 N k a b c M = some (nI np, M') ∧ coreC n (np + 1) M' ∧ (∀ j, M'.1 22 j = if j = np then k else M.1 22 j) ∧ (∀ j, M'.1 23 j = if j = np then a else M.1 23 j) ∧ (∀ j, M'.1 24 j = if j = np then b else M.1 24 j) ∧ (∀ j, M'.1 25 j = if j = np then c else M.1 25 j) ∧ M'.2 = M.2 ∧ ∀ x, (x = 0 ∨ (1 < x ∧ x < 21) ∨ 29 < x) → M'.1 x = M.1 x := by
  have hN' := hN
  obtain ⟨hn, hnp, hc1, hc2, hp, hr, hm⟩ := hN
  obtain ⟨g1, g2, g3, g4, g5⟩ := hG
  -- the memory ahead of gatherAnswers
  obtain ⟨Q, hQ⟩ : ∃ Q, Q = up1 (up1 (up1 (up1 M 22 np k) 23 np a) 24 np b) 25 np c := ⟨_, rfl⟩
  have q22 : ∀ j, Q.1 22 j = if j = np then k else M.1 22 j := fun j => by rw [hQ, up1_ne (by decide), up1_ne (by decide), up1_ne (by decide), up1_same]
  have q23 : ∀ j, Q.1 23 j = if j = np then a else M.1 23 j := fun j => by rw [hQ, up1_ne (by decide), up1_ne (by decide), up1_same, up1_ne (by decide)]
  have q24 : ∀ j, Q.1 24 j = if j = np then b else M.1 24 j := fun j => by rw [hQ, up1_ne (by decide), up1_same, up1_ne (by decide), up1_ne (by decide)]
  have q25 : ∀ j, Q.1 25 j = if j = np then c else M.1 25 j := fun j => by rw [hQ, up1_same, up1_ne (by decide), up1_ne (by decide), up1_ne (by decide)]
  have qx : ∀ x, x ≠ 22 → x ≠ 23 → x ≠ 24 → x ≠ 25 → Q.1 x = M.1 x := fun x h1 h2 h3 h4 => by rw [hQ, up1_ne h4, up1_ne h3, up1_ne h2, up1_ne h1]
  have old : ∀ x, x < np → Q.1 22 x = M.1 22 x ∧ Q.1 23 x = M.1 23 x ∧ Q.1 24 x = M.1 24 x ∧ Q.1 25 x = M.1 25 x := fun x hx => by
    rw [q22, q23, q24, q25, if_neg (by omega), if_neg (by omega), if_neg (by omega), if_neg (by omega)]
    exact ⟨rfl, rfl, rfl, rfl⟩
  have hAO : ∀ p, p < np → ∀ g, AO (Q.1 22) (Q.1 23) (Q.1 24) (Q.1 25) p g ↔ AO (M.1 22) (M.1 23) (M.1 24) (M.1 25) p g := fun p hpn g => ⟨AO_congr (fun x hx => by obtain ⟨z1, z2, z3, z4⟩ := old x (by omega); exact ⟨z1.symm, z2.symm, z3.symm, z4.symm⟩), AO_congr (fun x hx => old x (by omega))⟩
  have pn : pok n np (Q.1 22 np) (Q.1 23 np) (Q.1 24 np) (Q.1 25 np) := by
    rw [q22, q23, q24, q25, if_pos rfl, if_pos rfl, if_pos rfl, if_pos rfl]; exact hok
  obtain ⟨m, m1, m2⟩ := gather_run (n := n) (p := np) (M := Q) hn hlt pn (fun o ho g => by rw [qx 26 (by decide) (by decide) (by decide) (by decide), g1 o ho g, hAO o ho g])
  obtain ⟨R, hR⟩ : ∃ R, R = up1 (up1 Q 26 np m) 21 5 (nI (np + 1)) := ⟨_, rfl⟩
  have r26 : ∀ j, R.1 26 j = if j = np then m else M.1 26 j := fun j => by rw [hR, up1_ne (by decide), up1_same, qx 26 (by decide) (by decide) (by decide) (by decide)]
  have rx : ∀ x, x ≠ 21 → x ≠ 26 → R.1 x = Q.1 x := fun x h1 h2 => by rw [hR, up1_ne h1, up1_ne h2]
  have hadd : FX3_add k a b c M = some (nI np, R) := by
    unfold FX3_add
    rw [hc2, if_pos (show nI np < 50 from nI_lt (b := 50) hlt (by decide)), wrI_nI (by omega) (by decide), Option.bind_some, up1_ne (a := 21) (by decide), hc2, wrI_nI (by omega) (by decide), Option.bind_some, up1_ne (a := 21) (by decide), up1_ne (a := 21) (by decide), hc2, wrI_nI (by omega) (by decide), Option.bind_some, up1_ne (a := 21) (by decide), up1_ne (a := 21) (by decide), up1_ne (a := 21) (by decide), hc2, wrI_nI (by omega) (by decide), Option.bind_some, ← hQ, qx 21 (by decide) (by decide) (by decide) (by decide), hc2, m1, Option.bind_some, wrI_nI (by omega) (by decide), Option.bind_some]
    have e21 : (up1 Q 26 np m).1 21 5 = nI np := by rw [up1_ne (by decide), qx 21 (by decide) (by decide) (by decide) (by decide)]; exact hc2
    show ((some (up1 (up1 Q 26 np m) 21 5 ((up1 Q 26 np m).1 21 5 + 1))).bind fun M14 => some (M14.1 21 5 - 1, M14)) = _
    rw [e21, nI_1, ← hR, Option.bind_some]
    have : R.1 21 5 = nI (np + 1) := by rw [hR, up1_same, if_pos rfl]
    rw [this, nI_pred]
  have hNR : netC n (np + 1) R := by
    refine ⟨hn, by omega, by rw [rx 2 (by decide) (by decide), qx 2 (by decide) (by decide) (by decide) (by decide)]; exact hc1, by rw [hR, up1_same, if_pos rfl], fun p hpn => ?_, fun f hf j hj => ?_, fun f hf => ?_⟩
    · rw [rx 22 (by decide) (by decide), rx 23 (by decide) (by decide), rx 24 (by decide) (by decide), rx 25 (by decide) (by decide)]
      by_cases e : p = np
      · subst e; exact pn
      · obtain ⟨z1, z2, z3, z4⟩ := old p (by omega)
        rw [z1, z2, z3, z4]
        exact hp p (by omega)
    · rw [rx (7 + f) (by omega) (by omega), qx (7 + f) (by omega) (by omega) (by omega) (by omega)]
      exact rlok_mono (by omega) (hr f hf j hj)
    · rw [rx 5 (by decide) (by decide), qx 5 (by decide) (by decide) (by decide) (by decide)]; exact hm f hf
  have hER : EC R = EC M := by
    funext x y
    unfold EC
    rw [rx 19 (by decide) (by decide), qx 19 (by decide) (by decide) (by decide) (by decide)]
  have hGR : gr n (np + 1) R := by
    unfold gr
    rw [hER, rx 19 (by decide) (by decide), qx 19 (by decide) (by decide) (by decide) (by decide), rx 20 (by decide) (by decide), qx 20 (by decide) (by decide) (by decide) (by decide), rx 22 (by decide) (by decide), rx 23 (by decide) (by decide), rx 24 (by decide) (by decide), rx 25 (by decide) (by decide)]
    refine ⟨fun p hpn g => ?_, fun f hf g => ?_, g3, g4, g5⟩
    · rw [r26]
      by_cases e : p = np
      · subst e; rw [if_pos rfl]; exact m2 g
      · rw [if_neg e, g1 p (by omega) g, hAO p (by omega) g]
    · rw [g2 f hf g]
      refine and_congr Iff.rfl ?_
      unfold dirC
      rw [rx 22 (by decide) (by decide), rx 23 (by decide) (by decide), rx 24 (by decide) (by decide), rx 25 (by decide) (by decide), rx (7 + f) (by omega) (by omega), qx (7 + f) (by omega) (by omega) (by omega) (by omega)]
      constructor
      · rintro ⟨p, hpn, h1, h2⟩
        exact ⟨p, by omega, h1, (hAO p hpn g).mpr h2⟩
      · rintro ⟨p, hpn, h1, h2⟩
        have hpl : p < np := h1.elim (fun h => rlok_lt hnp (by omega) (hr f hf 0 (by decide)) h) (fun h => rlok_lt hnp (by omega) (hr f hf 3 (by decide)) h)
        exact ⟨p, hpl, h1, (hAO p hpl g).mp h2⟩
  obtain ⟨M', a1, a2, a3⟩ := arrange_core hN0 hNR hGR
  have ax : ∀ x, x ≠ 1 → x ≠ 27 → x ≠ 28 → x ≠ 29 → M'.1 x = R.1 x := a2.2
  refine ⟨M', ?_, a3, fun j => ?_, fun j => ?_, fun j => ?_, fun j => ?_, ?_, fun x hx => ?_⟩
  · unfold BX9_part_46
    rw [hadd, Option.bind_some]
    dsimp only
    rw [a1, Option.bind_some]
  · rw [ax 22 (by decide) (by decide) (by decide) (by decide), rx 22 (by decide) (by decide), q22]
  · rw [ax 23 (by decide) (by decide) (by decide) (by decide), rx 23 (by decide) (by decide), q23]
  · rw [ax 24 (by decide) (by decide) (by decide) (by decide), rx 24 (by decide) (by decide), q24]
  · rw [ax 25 (by decide) (by decide) (by decide) (by decide), rx 25 (by decide) (by decide), q25]
  · rw [a2.1, hR, hQ]; rfl
  · rw [ax x (by omega) (by omega) (by omega) (by omega), rx x (by omega) (by omega), qx x (by omega) (by omega) (by omega) (by omega)]
/-- no room: the steps are laid anew, and that is all -/
theorem part_full {N n np : Nat} {k a b c : Int32} {M : Mm} (hN0 : 100 < N) (h : coreC n np M) (hlt : np = 50) : ∃ M', BX9_part_46 N k a b c M = some ((-4), M') ∧ coreC n np M' ∧ sameA M M' := by
  obtain ⟨M', a1, a2, a3⟩ := arrange_core hN0 h.1 h.2.1
  refine ⟨M', ?_, a3, a2⟩
  unfold BX9_part_46 FX3_add
  rw [h.1.2.2.2.1, hlt, if_neg (by decide), Option.bind_some]
  dsimp only
  rw [a1, Option.bind_some]
theorem field_full {N n np : Nat} {a b c : Int32} {M : Mm} (hN0 : 100 < N) (h : coreC n np M) (hlt : n = 12) : ∃ M', BX9_field_53 N a b c M = some ((-4), M') ∧ coreC n np M' ∧ sameA M M' := by
  obtain ⟨M', a1, a2, a3⟩ := arrange_core hN0 h.1 h.2.1
  refine ⟨M', ?_, a3, a2⟩
  unfold BX9_field_53 FX0_add
  rw [h.1.2.2.1, hlt, if_neg (by decide), Option.bind_some]
  dsimp only
  rw [a1, Option.bind_some]
theorem flM_same {M : Mm} {k n : Nat} {v : Int32} {j : Nat} (h : j < n) : (flM M k n v).1 k j = v := by simp [flM, h]
theorem flM_ne {M : Mm} {k n a : Nat} {v : Int32} (h : a ≠ k) : (flM M k n v).1 a = M.1 a := by simp [flM, h]
theorem flM_ge {M : Mm} {k n : Nat} {v : Int32} {j : Nat} (h : n ≤ j) : (flM M k n v).1 k j = M.1 k j := by simp [flM, Nat.not_lt.mpr h]
theorem field_cls {N n np : Nat} {a b c : Int32} {M : Mm} (hN0 : 100 < N) (hN : netC n np M) (hG : gr n np M) (hlt : n < 12) (hc : c = 0 ∨ c = 1) : ∃ M', BX9_field_53 N a b c M = some (nI n, M') ∧ coreC (n + 1) np M' ∧ (∀ j, M'.1 3 j = if j = n then a else M.1 3 j) ∧ (∀ j, M'.1 4 j = if j = n then b else M.1 4 j) ∧ (∀ j, M'.1 5 j = if j = n then c else M.1 5 j) ∧ (∀ j, j < 4 → M'.1 (7 + n) j = (-9)) ∧ M'.2 = M.2 ∧ ∀ x, (x = 0 ∨ (5 < x ∧ x < 27) ∨ 29 < x) → x ≠ 7 + n → M'.1 x = M.1 x := by
  have hN' := hN
  have hG' := hG
  obtain ⟨hn, hnp, hc1, hc2, hp, hr, hm⟩ := hN
  obtain ⟨g1, g2, g3, g4, g5⟩ := hG
  obtain ⟨Q, hQ⟩ : ∃ Q, Q = flM (up1 (up1 (up1 M 3 n a) 4 n b) 5 n c) (7 + n) 4 (-9) := ⟨_, rfl⟩
  obtain ⟨R, hR⟩ : ∃ R, R = up1 Q 2 6 (nI (n + 1)) := ⟨_, rfl⟩
  have r3 : ∀ j, R.1 3 j = if j = n then a else M.1 3 j := fun j => by rw [hR, up1_ne (by decide), hQ, flM_ne (by omega), up1_ne (by decide), up1_ne (by decide), up1_same]
  have r4 : ∀ j, R.1 4 j = if j = n then b else M.1 4 j := fun j => by rw [hR, up1_ne (by decide), hQ, flM_ne (by omega), up1_ne (by decide), up1_same, up1_ne (by decide)]
  have r5 : ∀ j, R.1 5 j = if j = n then c else M.1 5 j := fun j => by rw [hR, up1_ne (by decide), hQ, flM_ne (by omega), up1_same, up1_ne (by decide), up1_ne (by decide)]
  have r7 : ∀ j, j < 4 → R.1 (7 + n) j = (-9) := fun j hj => by rw [hR, up1_ne (by omega), hQ, flM_same hj]
  have rx : ∀ x, x ≠ 2 → x ≠ 3 → x ≠ 4 → x ≠ 5 → x ≠ 7 + n → R.1 x = M.1 x := fun x h1 h2 h3 h4 h5 => by rw [hR, up1_ne h1, hQ, flM_ne h5, up1_ne h4, up1_ne h3, up1_ne h2]
  have hadd : FX0_add N a b c M = some (nI n, R) := by
    unfold FX0_add
    rw [hc1, if_pos (show nI n < 12 from nI_lt (b := 12) hlt (by decide)), wrI_nI (by omega) (by decide), Option.bind_some, up1_ne (a := 2) (by decide), hc1, wrI_nI (by omega) (by decide), Option.bind_some, up1_ne (a := 2) (by decide), up1_ne (a := 2) (by decide), hc1, wrZ_nI (by omega) (by decide) hc, Option.bind_some, up1_ne (a := 2) (by decide), up1_ne (a := 2) (by decide), up1_ne (a := 2) (by decide), hc1, ckR_nI (by omega) (by decide), Option.bind_some, fill_run (by decide) (by omega), Option.bind_some, ← hQ]
    have q2 : Q.1 2 6 = nI n := by rw [hQ, flM_ne (by omega), up1_ne (by decide), up1_ne (by decide), up1_ne (by decide)]; exact hc1
    show ((some (up1 Q 2 6 _)).bind fun M12 => some (M12.1 2 6 - 1, M12)) = _
    rw [Option.bind_some, q2, nI_1, ← hR]
    have : R.1 2 6 = nI (n + 1) := by rw [hR, up1_same, if_pos rfl]
    rw [this, nI_pred]
  have hne9 : ∀ p, p < np → ¬ ((-9 : Int32) = nI p) := fun p hpn e => by
    have := rlok_lt (np := 0) (p := p) (by omega) (by omega) (Or.inl rfl) e
    omega
  have hNR : netC (n + 1) np R := by
    refine ⟨by omega, hnp, by rw [hR, up1_same, if_pos rfl], by rw [rx 21 (by decide) (by decide) (by decide) (by decide) (by omega)]; exact hc2, fun p hpn => ?_, fun f hf j hj => ?_, fun f hf => ?_⟩
    · rw [rx 22 (by decide) (by decide) (by decide) (by decide) (by omega), rx 23 (by decide) (by decide) (by decide) (by decide) (by omega), rx 24 (by decide) (by decide) (by decide) (by decide) (by omega), rx 25 (by decide) (by decide) (by decide) (by decide) (by omega)]
      exact pok_mono (by omega) (hp p hpn)
    · by_cases e : f = n
      · subst e; rw [r7 j hj]; exact Or.inl rfl
      · rw [rx (7 + f) (by omega) (by omega) (by omega) (by omega) (by omega)]; exact hr f (by omega) j hj
    · rw [r5]
      by_cases e : f = n
      · rw [if_pos e]; exact hc
      · rw [if_neg e]; exact hm f (by omega)
  have hER : EC R = EC M := by
    funext x y
    unfold EC
    rw [rx 19 (by decide) (by decide) (by decide) (by decide) (by omega)]
  have hno : ∀ y, ¬ EC M n y := fun y h => by
    unfold EC at h
    rw [(g5 n (Nat.le_refl n) hlt).1, b_0] at h
    cases h
  have up : ∀ k f g, f < n → (pth (EC M) (n + 1) k f g ↔ pth (EC M) n k f g) := by
    intro k
    induction k with
    | zero => intro f g _; exact Iff.rfl
    | succ k ih =>
      intro f g hf
      constructor
      · rintro ⟨x, hx, he, h⟩
        have hxn := EC_lt hN' hG' hf he
        exact ⟨x, hxn, he, (ih x g hxn).mp h⟩
      · rintro ⟨x, hx, he, h⟩
        exact ⟨x, by omega, he, (ih x g hx).mpr h⟩
  have hGR : gr (n + 1) np R := by
    unfold gr
    rw [hER, rx 19 (by decide) (by decide) (by decide) (by decide) (by omega), rx 20 (by decide) (by decide) (by decide) (by decide) (by omega), rx 22 (by decide) (by decide) (by decide) (by decide) (by omega), rx 23 (by decide) (by decide) (by decide) (by decide) (by omega), rx 24 (by decide) (by decide) (by decide) (by decide) (by omega), rx 25 (by decide) (by decide) (by decide) (by decide) (by omega), rx 26 (by decide) (by decide) (by decide) (by decide) (by omega)]
    refine ⟨g1, fun f hf g => ?_, fun f hf g => ?_, fun f hf => ?_, fun f hf1 hf2 => g5 f (by omega) hf2⟩
    · unfold dirC
      rw [rx 22 (by decide) (by decide) (by decide) (by decide) (by omega), rx 23 (by decide) (by decide) (by decide) (by decide) (by omega), rx 24 (by decide) (by decide) (by decide) (by decide) (by omega), rx 25 (by decide) (by decide) (by decide) (by decide) (by omega)]
      by_cases e : f = n
      · subst e
        rw [r7 0 (by decide), r7 3 (by decide)]
        refine ⟨fun h => absurd h (hno g), ?_⟩
        rintro ⟨_, p, hpn, (h | h), _⟩
        · exact absurd h (hne9 p hpn)
        · exact absurd h (hne9 p hpn)
      · rw [rx (7 + f) (by omega) (by omega) (by omega) (by omega) (by omega)]
        exact g2 f (by omega) g
    · by_cases e : f = n
      · subst e
        rw [(g5 f (Nat.le_refl f) hlt).2, b_0]
        refine ⟨(fun h => by cases h), ?_⟩
        intro h
        rcases TC_cut h with h | ⟨x, _, h, _⟩
        · exact absurd h (hno g)
        · exact absurd h (hno x)
      · rw [g3 f (by omega) g]
        exact ⟨fun ⟨k, hk⟩ => ⟨k, (up k f g (by omega)).mpr hk⟩, fun ⟨k, hk⟩ => ⟨k, (up k f g (by omega)).mp hk⟩⟩
    · by_cases e : f = n
      · subst e; rw [(g5 f (Nat.le_refl f) hlt).2, b_0]
      · exact g4 f (by omega)
  obtain ⟨M', a1, a2, a3⟩ := arrange_core hN0 hNR hGR
  have ax : ∀ x, x ≠ 1 → x ≠ 27 → x ≠ 28 → x ≠ 29 → M'.1 x = R.1 x := a2.2
  refine ⟨M', ?_, a3, fun j => ?_, fun j => ?_, fun j => ?_, fun j hj => ?_, ?_, fun x hx hx2 => ?_⟩
  · unfold BX9_field_53
    rw [hadd, Option.bind_some]
    dsimp only
    rw [a1, Option.bind_some]
  · rw [ax 3 (by decide) (by decide) (by decide) (by decide), r3]
  · rw [ax 4 (by decide) (by decide) (by decide) (by decide), r4]
  · rw [ax 5 (by decide) (by decide) (by decide) (by decide), r5]
  · rw [ax (7 + n) (by omega) (by omega) (by omega) (by omega), r7 j hj]
  · rw [a2.1, hR, hQ]; rfl
  · rw [ax x (by omega) (by omega) (by omega) (by omega), rx x (by omega) (by omega) (by omega) (by omega) hx2]
