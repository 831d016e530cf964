/-! ===== the reference's trial; the call reach ===== -/
theorem put_r {N : Nat} {sh : Int32} {M : Mm} (hN : 100 < N) : ∃ M1, lp (BX10_reach_196 N) N (sh, 0, M) = some (if sh = 0 then 0 else 1, M1) ∧ M1.2 = M.2 ∧ (∀ z, z ≠ 95 → M1.1 z = M.1 z) ∧ ∀ i, i < 12 → M1.1 95 i = if sh = 0 then LO else M.1 83 i := by
  refine lp_up (fun i (q : Int32 × Int32 × Mm) => q.1 = sh ∧ q.2.1 = nI i ∧ q.2.2.2 = M.2 ∧ (∀ z, z ≠ 95 → q.2.2.1 z = M.1 z) ∧ ∀ j, j < i → q.2.2.1 95 j = if sh = 0 then LO else M.1 83 j) (fun o => ∃ M1 : Mm, o = some (if sh = 0 then 0 else 1, M1) ∧ M1.2 = M.2 ∧ (∀ z, z ≠ 95 → M1.1 z = M.1 z) ∧ ∀ i, i < 12 → M1.1 95 i = if sh = 0 then LO else M.1 83 i) 12 N _ ⟨rfl, rfl, rfl, fun _ _ => rfl, fun j hj => absurd hj (Nat.not_lt_zero _)⟩ (by omega) ?_ ?_
  · rintro i ⟨x1, x2, Q⟩ K hi ⟨e1, e2, s2, s1, g1⟩
    dsimp only at e1 e2 s2 s1 g1
    subst e1
    subst e2
    left
    have fin : ∀ v : Int32, v = (if x1 = 0 then LO else M.1 83 i) → ∃ a' : Int32 × Int32 × Mm, (a'.1 = x1 ∧ a'.2.1 = nI (i + 1) ∧ a'.2.2.2 = M.2 ∧ (∀ z, z ≠ 95 → a'.2.2.1 z = M.1 z) ∧ ∀ j, j < i + 1 → a'.2.2.1 95 j = if x1 = 0 then LO else M.1 83 j) ∧ K (x1, nI (i + 1), up1 Q 95 i v) = K a' := fun v hv => by
      refine ⟨_, ⟨rfl, rfl, s2, fun z hz => ?_, fun j hj => ?_⟩, rfl⟩
      · dsimp only; rw [up1_ne hz]; exact s1 z hz
      · dsimp only
        rw [up1_same]
        by_cases e : j = i
        · rw [if_pos e, hv, e]
        · rw [if_neg e]; exact g1 j (by omega)
    rw [eBX10_reach_196]
    dsimp only
    rw [if_neg (show ¬ (12 : Int32) ≤ nI i from lt_nI (n := 12) hi (by decide)), nI_1]
    by_cases c : x1 = 0
    · rw [if_pos c, wrI_nI hi (by decide), Option.bind_some]
      exact fin _ (by rw [if_pos c]; rfl)
    · rw [if_neg c, rdI_nI hi (by decide), Option.bind_some, wrI_nI hi (by decide), Option.bind_some, s1 83 (by decide)]
      exact fin _ (by rw [if_neg c])
  · rintro ⟨x1, x2, Q⟩ K ⟨e1, e2, s2, s1, g1⟩
    dsimp only at e1 e2 s2 s1 g1
    subst e1
    subst e2
    rw [eBX10_reach_196]
    dsimp only
    rw [if_pos (by decide)]
    refine ⟨Q, ?_, s2, s1, g1⟩
    by_cases c : x1 = 0
    · rw [if_pos c, if_pos c]
    · rw [if_neg c, if_neg c]
theorem clear_r {N f : Nat} {m : Int32} {M : Mm} {P : Option (Int32 × Mm) → Prop} (hN : 100 < N) (hk : ∀ M1 : Mm, M1.2 = M.2 → (∀ z, z ≠ 83 → z ≠ 86 → M1.1 z = M.1 z) → (∀ i, i < 12 → M1.1 83 i = LO) → P ((FX10_shows N (nI f) (up1 M1 69 31 1)).bind fun p5 => lp (BX10_reach_160 N) N (nI f, m, p5.1, p5.2))) : P (lp (BX10_reach_117 N) N (nI f, m, 0, M)) := by
  refine lp_up (fun i (q : Int32 × Int32 × Int32 × Mm) => q.1 = nI f ∧ q.2.1 = m ∧ q.2.2.1 = nI i ∧ q.2.2.2.2 = M.2 ∧ (∀ z, z ≠ 83 → z ≠ 86 → q.2.2.2.1 z = M.1 z) ∧ ∀ j, j < i → q.2.2.2.1 83 j = LO) P 12 N _ ⟨rfl, rfl, rfl, rfl, fun _ _ _ => rfl, fun j hj => absurd hj (Nat.not_lt_zero _)⟩ (by omega) ?_ ?_
  · rintro i ⟨x1, x2, x3, Q⟩ K hi ⟨e1, e2, e3, s2, s1, g1⟩
    dsimp only at e1 e2 e3 s2 s1 g1
    subst e1
    subst e2
    subst e3
    left
    rw [eBX10_reach_117]
    dsimp only
    rw [if_neg (show ¬ (12 : Int32) ≤ nI i from lt_nI (n := 12) hi (by decide)), wrI_nI hi (by decide), Option.bind_some, wrI_nI hi (by decide), Option.bind_some, nI_1]
    refine ⟨_, ⟨rfl, rfl, rfl, s2, fun z h1 h2 => ?_, fun j hj => ?_⟩, rfl⟩
    · dsimp only; rw [up1_ne h2, up1_ne h1]; exact s1 z h1 h2
    · dsimp only
      rw [up1_ne (by decide), up1_same]
      by_cases e : j = i
      · rw [if_pos e]; rfl
      · rw [if_neg e]; exact g1 j (by omega)
  · rintro ⟨x1, x2, x3, Q⟩ K ⟨e1, e2, e3, s2, s1, g1⟩
    dsimp only at e1 e2 e3 s2 s1 g1
    subst e1
    subst e2
    subst e3
    rw [eBX10_reach_117]
    dsimp only
    rw [if_pos (by decide)]
    exact hk Q s2 s1 g1
/-- memories that differ in what a trial of the reference works with alone -/
def sameV (M M' : Mm) : Prop := M'.2 = M.2 ∧ (∀ z, z ≠ 69 → (z < 83 ∨ 87 < z) → M'.1 z = M.1 z) ∧ ∀ j, j ≠ 31 → M'.1 69 j = M.1 69 j
theorem sameV_t {M M1 M2 : Mm} (h1 : sameV M M1) (h2 : sameV M1 M2) : sameV M M2 := ⟨h2.1.trans h1.1, fun z a b => (h2.2.1 z a b).trans (h1.2.1 z a b), fun j hj => (h2.2.2 j hj).trans (h1.2.2 j hj)⟩
theorem sameV_J {M M' : Mm} (h : sameJ M M') : sameV M M' := ⟨h.1, fun z _ _ => h.2 z (by omega) (by omega) (by omega) (by omega), fun j _ => by rw [h.2 69 (by decide) (by decide) (by decide) (by decide)]⟩
theorem sameV_83 {M M' : Mm} (h : sameX 83 M M') : sameV M M' := ⟨h.1, fun z _ _ => h.2 z (by omega), fun j _ => by rw [h.2 69 (by decide)]⟩
theorem sameV_31 {M : Mm} {v : Int32} : sameV M (up1 M 69 31 v) := ⟨rfl, fun z h1 _ => up1_ne h1, fun j hj => by rw [up1_same, if_neg hj]⟩
theorem reach_r {N n np f t : Nat} {m sh : Int32} {M : Mm} (hN : 30000 < N) (hc : coreI n np M) (hO : refOrd n np M) (hf : f < n) (hm : ∀ i, i < n → bt m i = (bt (M.1 79 f) i && decide (M.1 72 i = 0))) (hmh : ∀ i, n ≤ i → bt m i = false) (hcr : cr (fun g => bt m g) (M.1 70) (M.1 71) n ≤ 20000) (ht : t < cr (fun g => bt m g) (M.1 70) (M.1 71) n) (h01 : sh = 0 ∨ sh = 1) (hend : sh = 0 → t + 1 = cr (fun g => bt m g) (M.1 70) (M.1 71) n) (hold : ∀ u, u < t → ∃ V SH CN, solR n np M (rs (fun g => bt m g) (M.1 70) (M.1 71) n u) V SH CN ∧ SH f = 0) (hlast : ∃ V SH CN, solR n np M (rs (fun g => bt m g) (M.1 70) (M.1 71) n t) V SH CN ∧ SH f = sh) : ∃ M1, lp (BX10_reach_21 N) N (nI f, 0, 1, 0, M) = some (sh, M1) ∧ M1.2 = M.2 ∧ (∀ z, z ≠ 69 → z ≠ 95 → (z < 83 ∨ 87 < z) → M1.1 z = M.1 z) ∧ (∀ j, j ≠ 31 → M1.1 69 j = M.1 69 j) ∧ M1.1 69 31 = nI (t + 1) ∧ ∀ i, i < 12 → M1.1 95 i = if sh = 0 then LO else rs (fun g => bt m g) (M.1 70) (M.1 71) n t i := by
  have hRn := netR_of hc
  obtain ⟨hn, hnp, k1, k2, hp, hr, hmm, hsp⟩ := hRn
  obtain ⟨q3, q4, q5, _⟩ := hc.2.1
  have hs : ∀ i, i < n → spJ (M.1 70) (M.1 71) i := fun i hi => by rw [← q3, ← q4]; exact hc.2.2.2.2 i hi
  obtain ⟨S, hSd⟩ : ∃ S : Nat → Bool, S = fun g => bt m g := ⟨_, rfl⟩
  rw [← hSd] at hcr ht hend hold hlast ⊢
  obtain ⟨T, hTd⟩ : ∃ T, T = cr S (M.1 70) (M.1 71) n := ⟨_, rfl⟩
  obtain ⟨rr, hrd⟩ : ∃ rr : Nat → Nat → Int32, rr = rs S (M.1 70) (M.1 71) n := ⟨_, rfl⟩
  have htot : T = tot S (M.1 70) (M.1 71) n := by rw [hTd]; exact cr_tot n hcr
  obtain ⟨m', b1, b2⟩ := rows_r (N := N) (S := S) (M := M) (by omega) hn hf k1 hs (fun i hi => by rw [hSd]; exact hm i hi)
  rw [b2, if_pos hcr]
  rw [← hTd] at hcr ht hend
  rw [← hrd] at hold hlast ⊢
  have hSh : ∀ i, n ≤ i → S i = false := fun i hi => by rw [hSd]; exact hmh i hi
  -- rows are as they may be
  have rok : ∀ u, u < T → ∀ g, g < n → M.1 72 g = 0 → rr u g = LO ∨ (¬ rr u g < M.1 70 g ∧ ¬ M.1 71 g < rr u g) := fun u hu g hg _ => by
    obtain ⟨_, z2, z3⟩ := rs_spec (S := S) hs u (by rw [← htot]; exact hu)
    rw [← hrd] at z2 z3
    cases hSg : S g with
    | true => exact z2 g hg hSg
    | false => exact Or.inl (z3 g hSg)
  -- shows, over a memory of the trial
  have shw : ∀ (Q : Mm) (u : Nat) (V SH CN : Nat → Int32), u < T → sameV M Q → (∀ i, i < 12 → Q.1 83 i = rr u i) → solR n np M (rr u) V SH CN → ∃ Q', FX10_shows N (nI f) Q = some (SH f, Q') ∧ sameV M Q' ∧ Q'.1 69 = Q.1 69 ∧ ∀ i, i < 12 → Q'.1 83 i = rr u i := fun Q u V SH CN hu s1 g1 hsol => by
    have hnet : ∀ a, 70 ≤ a → a ≤ 77 → Q.1 a = M.1 a := fun a h1 h2 => s1.2.1 a (by omega) (by omega)
    have hcQ : coreI n np Q := coreI_same (fun a ha => s1.2.1 a (by omega) (by omega)) hnet (s1.2.2 0 (by decide)) (s1.2.2 5 (by decide)) hc
    have hOQ := refOrd_same hnet (s1.2.1 79 (by decide) (by decide)) (s1.2.1 81 (by decide) (by decide)) (by rw [s1.1]) hO
    obtain ⟨Q', r1, r2⟩ := shows_run (N := N) (f := f) (M := Q) (row := rr u) (V := V) (SH := SH) (CN := CN) (by omega) (netR_of hcQ) hOQ (ac_of hcQ) hf (solR_same hnet hsol) (fun g hg => g1 g (by omega)) (by
      rw [hnet 70 (by decide) (by decide), hnet 71 (by decide) (by decide), hnet 72 (by decide) (by decide)]
      exact rok u hu)
    exact ⟨Q', r1, sameV_t s1 (sameV_J r2), r2.2 69 (by decide) (by decide) (by decide) (by decide), fun i hi => by rw [r2.2 83 (by decide) (by decide) (by decide) (by decide)]; exact g1 i hi⟩
  -- the solution of a row, and what it shows
  have solu : ∀ u, u ≤ t → ∃ V SH CN, solR n np M (rr u) V SH CN ∧ SH f = if u < t then 0 else sh := fun u hu => by
    by_cases e : u < t
    · rw [if_pos e]; exact hold u e
    · have : u = t := by omega
      subst this
      rw [if_neg e]; exact hlast
  refine clear_r (P := fun o => ∃ M1 : Mm, o = some (sh, M1) ∧ M1.2 = M.2 ∧ (∀ z, z ≠ 69 → z ≠ 95 → (z < 83 ∨ 87 < z) → M1.1 z = M.1 z) ∧ (∀ j, j ≠ 31 → M1.1 69 j = M.1 69 j) ∧ M1.1 69 31 = nI (t + 1) ∧ ∀ i, i < 12 → M1.1 95 i = if sh = 0 then LO else rr t i) (by omega) (fun M1 d1 d2 d3 => ?_)
  have v1 : sameV M (up1 M1 69 31 1) := sameV_t ⟨d1, fun z h1 h2 => d2 z (by omega) (by omega), fun j _ => by rw [d2 69 (by decide) (by decide)]⟩ sameV_31
  obtain ⟨V0, SH0, CN0, hs0, hv0⟩ := solu 0 (by omega)
  obtain ⟨Q0, w1, w2, w3, w4⟩ := shw (up1 M1 69 31 1) 0 V0 SH0 CN0 (by omega) v1 (fun i hi => by rw [up1_ne (by decide), d3 i hi, hrd]; rfl) hs0
  rw [w1, Option.bind_some]
  dsimp only
  -- the end: the row is put
  have fin : ∀ Q : Mm, sameV M Q → Q.1 69 31 = nI (t + 1) → (¬ sh = 0 → ∀ i, i < 12 → Q.1 83 i = rr t i) → ∃ M1 : Mm, lp (BX10_reach_196 N) N (sh, 0, Q) = some (sh, M1) ∧ M1.2 = M.2 ∧ (∀ z, z ≠ 69 → z ≠ 95 → (z < 83 ∨ 87 < z) → M1.1 z = M.1 z) ∧ (∀ j, j ≠ 31 → M1.1 69 j = M.1 69 j) ∧ M1.1 69 31 = nI (t + 1) ∧ ∀ i, i < 12 → M1.1 95 i = if sh = 0 then LO else rr t i := fun Q s1 g1 g2 => by
    obtain ⟨E, p1, p2, p3, p4⟩ := put_r (N := N) (sh := sh) (M := Q) (by omega)
    refine ⟨E, ?_, p2.trans s1.1, fun z h1 h2 h3 => by rw [p3 z h2]; exact s1.2.1 z h1 h3, fun j hj => by rw [p3 69 (by decide)]; exact s1.2.2 j hj, by rw [p3 69 (by decide)]; exact g1, fun i hi => ?_⟩
    · rw [p1]
      rcases h01 with e | e <;> rw [e] <;> rfl
    · rw [p4 i hi]
      by_cases e : sh = 0
      · rw [if_pos e, if_pos e]
      · rw [if_neg e, if_neg e]; exact g2 e i hi
  refine lp_up (fun u (q : Int32 × Int32 × Int32 × Mm) => q.1 = nI f ∧ q.2.1 = m' ∧ q.2.2.1 = (if u < t then 0 else sh) ∧ sameV M q.2.2.2 ∧ q.2.2.2.1 69 31 = nI (u + 1) ∧ ∀ i, i < 12 → q.2.2.2.1 83 i = rr u i) (fun o => ∃ M1 : Mm, o = some (sh, M1) ∧ M1.2 = M.2 ∧ (∀ z, z ≠ 69 → z ≠ 95 → (z < 83 ∨ 87 < z) → M1.1 z = M.1 z) ∧ (∀ j, j ≠ 31 → M1.1 69 j = M.1 69 j) ∧ M1.1 69 31 = nI (t + 1) ∧ ∀ i, i < 12 → M1.1 95 i = if sh = 0 then LO else rr t i) t N _ ⟨rfl, rfl, hv0, w2, by rw [w3, up1_same, if_pos rfl]; rfl, w4⟩ (by omega) ?_ ?_
  · rintro u ⟨x1, x2, x3, Q⟩ K hu ⟨e1, e2, e3, s1, g1, g2⟩
    dsimp only at e1 e2 e3 s1 g1 g2
    subst e1
    subst e2
    rw [if_pos hu] at e3
    subst e3
    left
    have hut : u < tot S (M.1 70) (M.1 71) n := by rw [← htot]; omega
    obtain ⟨_, z2, z3⟩ := rs_spec (S := S) hs u hut
    have hfl := rs_flag (S := S) hs hut
    rw [← htot, decide_eq_true (show u + 1 < T by omega), ← hrd] at hfl
    rw [← hrd] at z2
    obtain ⟨Q1, y1, y2, y3⟩ := goes_go (N := N) (m := x2) (S := S) (lo := M.1 70) (hi := M.1 71) hn b1 hs n N Q (rr u) (Nat.le_refl n) (by omega) (s1.2.1 70 (by decide) (by decide)) (s1.2.1 71 (by decide) (by decide)) g2 z2
    rw [hfl, if_pos rfl] at y1
    rw [eBX10_reach_160]
    dsimp only
    rw [if_pos rfl, eFX10_goesOn, s1.2.2 0 (by decide), k1, y1, Option.bind_some]
    dsimp only
    rw [if_neg (show ¬ (1 : Int32) = 0 by decide)]
    have s2 : sameV M Q1 := sameV_t s1 (sameV_83 y2)
    have e31 : Q1.1 69 31 = nI (u + 1) := by rw [y2.2 69 (by decide)]; exact g1
    show ∃ a', _ ∧ ((some (up1 Q1 69 31 (Q1.1 69 31 + 1))).bind fun M5 => (FX10_shows N (nI f) M5).bind fun p8 => K (nI f, x2, p8.1, p8.2)) = K a'
    rw [e31, nI_1, Option.bind_some]
    obtain ⟨V, SH, CN, hsu, hvu⟩ := solu (u + 1) (by omega)
    obtain ⟨Q2, o1, o2, o3, o4⟩ := shw (up1 Q1 69 31 (nI (u + 1 + 1))) (u + 1) V SH CN (by omega) (sameV_t s2 sameV_31) (fun i hi => by rw [up1_ne (by decide), y3 i hi, hrd, rs_s]) hsu
    rw [o1, Option.bind_some]
    exact ⟨_, ⟨rfl, rfl, hvu, o2, by dsimp only; rw [o3, up1_same, if_pos rfl], o4⟩, rfl⟩
  · rintro ⟨x1, x2, x3, Q⟩ K ⟨e1, e2, e3, s1, g1, g2⟩
    dsimp only at e1 e2 e3 s1 g1 g2
    subst e1
    subst e2
    rw [if_neg (Nat.lt_irrefl t)] at e3
    subst e3
    rw [eBX10_reach_160]
    dsimp only
    by_cases e : x3 = 0
    · have hut : t < tot S (M.1 70) (M.1 71) n := by rw [← htot]; omega
      obtain ⟨_, z2, z3⟩ := rs_spec (S := S) hs t hut
      have hfl := rs_flag (S := S) hs hut
      rw [← htot, decide_eq_false (show ¬ t + 1 < T by have := hend e; omega), ← hrd] at hfl
      rw [← hrd] at z2
      obtain ⟨Q1, y1, y2, y3⟩ := goes_go (N := N) (m := x2) (S := S) (lo := M.1 70) (hi := M.1 71) hn b1 hs n N Q (rr t) (Nat.le_refl n) (by omega) (s1.2.1 70 (by decide) (by decide)) (s1.2.1 71 (by decide) (by decide)) g2 z2
      rw [hfl, if_neg (by decide)] at y1
      rw [if_pos e, eFX10_goesOn, s1.2.2 0 (by decide), k1, y1, Option.bind_some]
      dsimp only
      rw [if_pos rfl]
      exact fin Q1 (sameV_t s1 (sameV_83 y2)) (by rw [y2.2 69 (by decide)]; exact g1) (fun q => absurd e q)
    · rw [if_neg e]
      exact fin Q s1 g1 (fun _ => g2)
theorem c_reach {N n np ns : Nat} {x : Int32} {M : Mm} (hN : 30000 < N) (h : Inv n np ns M) : CallP (FX9_reach N x M) (FX10_reach N x) := by
  obtain ⟨hn, hnp, c1, c2, c3, c4⟩ := Inv_n h
  obtain ⟨q3, q4, q5, _⟩ := h.1.2.1
  rcases fldQ x hn with ⟨f, hf, rfl, a1, a2⟩ | ⟨a1, a2⟩
  · obtain ⟨m, m1, m2, hrun⟩ := run_c hN h hf
    rcases hrun with ⟨hT, r1⟩ | ⟨hT, t, M1, sh, ht, r1, s1, g1, h01, hend, g2, hold, hlast⟩
    · obtain ⟨M5, l1, l2, l3, l4⟩ := arr_any (N := N) (by omega) h
      have w70 := l2.1 70 (by decide) (by decide) (by decide) (by decide) (by decide)
      have w71 := l2.1 71 (by decide) (by decide) (by decide) (by decide) (by decide)
      have w72 := l2.1 72 (by decide) (by decide) (by decide) (by decide) (by decide)
      obtain ⟨m', b1, b2⟩ := rows_r (N := N) (S := fun g => bt m g) (M := M5) (by omega) hn hf (Inv_n l3).2.2.2.2.1 (fun i hi => by rw [w70, w71, ← q3, ← q4]; exact h.1.2.2.2.2 i hi) (fun i hi => by rw [l4 f hf, w72, ← q5]; exact m1 i hi)
      rw [w70, w71, ← q3, ← q4, if_neg (by omega)] at b2
      refine ⟨-6, M, M5, ?_, ?_, n, np, ns, l3⟩
      · rw [eFX9_reach, a1 M c1, Option.bind_some, if_neg (by decide), r1, Option.bind_some]
      · rw [eFX10_reach, a2 M c3, Option.bind_some, if_pos rfl, l1, Option.bind_some, b2]
    · have x69 : M1.1 69 = M.1 69 := s1.2 69 (by decide) (by decide) (by decide) (by decide) (by decide) (by decide)
      have hc1 : coreI n np M1 := coreI_same (fun a ha => s1.2 a (by omega) (by omega) (by omega) (by omega) (by omega) (by omega)) (fun a h1 h2 => s1.2 a (by omega) (by omega) (by omega) (by omega) (by omega) (by omega)) (by rw [x69]) (by rw [x69]) h.1
      have hr1 : refI n np M1 := refI_2 (fun a h1 h2 => s1.2 a (by omega) (by omega) (by omega) (by omega) (by omega) (by omega)) s1.1 (by rw [x69]) h.2.1
      obtain ⟨M5, d1, d2, d3, d4, d5, d6⟩ := arr_ref (N := N) (by omega) hc1 hr1
      have w : ∀ z, z ≠ 61 → z ≠ 62 → z ≠ 63 → z ≠ 65 → z ≠ 66 → z ≠ 67 → z ≠ 69 → z ≠ 78 → z ≠ 79 → z ≠ 81 → M5.1 z = M.1 z := fun z e1 e2 e3 e4 e5 e6 e7 e8 e9 e10 => (d2.1 z e7 e8 e9 e10).trans (s1.2 z e1 e2 e3 e4 e5 e6)
      have w70 : M5.1 70 = M.1 3 := by rw [w 70 (by decide) (by decide) (by decide) (by decide) (by decide) (by decide) (by decide) (by decide) (by decide) (by decide), ← q3]
      have w71 : M5.1 71 = M.1 4 := by rw [w 71 (by decide) (by decide) (by decide) (by decide) (by decide) (by decide) (by decide) (by decide) (by decide) (by decide), ← q4]
      have w72 : M5.1 72 = M.1 5 := by rw [w 72 (by decide) (by decide) (by decide) (by decide) (by decide) (by decide) (by decide) (by decide) (by decide) (by decide), ← q5]
      have w79 : M5.1 79 f = M.1 20 f := by rw [d6 f hf, s1.2 20 (by decide) (by decide) (by decide) (by decide) (by decide) (by decide)]
      have hnet : ∀ a, 70 ≤ a → a ≤ 77 → M5.1 a = M.1 a := fun a h1 h2 => w a (by omega) (by omega) (by omega) (by omega) (by omega) (by omega) (by omega) (by omega) (by omega) (by omega)
      obtain ⟨E, o1, o2, o3, o4, o5, o6⟩ := reach_r (N := N) (n := n) (np := np) (f := f) (t := t) (m := m) (sh := sh) (M := M5) hN d5 d4 hf (fun i hi => by rw [w79, w72]; exact m1 i hi) m2 (by rw [w70, w71]; exact hT) (by rw [w70, w71]; exact ht) h01 (by rw [w70, w71]; exact hend) (by
        rw [w70, w71]
        intro u hu
        obtain ⟨V, SH, CN, z1, z2⟩ := hold u hu
        exact ⟨V, SH, CN, solR_same hnet z1, z2⟩) (by
        rw [w70, w71]
        obtain ⟨V, SH, CN, z1, z2⟩ := hlast
        exact ⟨V, SH, CN, solR_same hnet z1, z2⟩)
      rw [w70, w71] at o6
      have ex : ∀ z, z ≠ 61 → z ≠ 62 → z ≠ 63 → z ≠ 65 → z ≠ 66 → z ≠ 67 → z ≠ 69 → z ≠ 78 → z ≠ 79 → z ≠ 81 → z ≠ 95 → (z < 83 ∨ 87 < z) → E.1 z = M.1 z := fun z e1 e2 e3 e4 e5 e6 e7 e8 e9 e10 e11 e12 => (o3 z e7 e11 e12).trans (w z e1 e2 e3 e4 e5 e6 e7 e8 e9 e10)
      have e69 : ∀ j, j ≠ 10 → j ≠ 31 → E.1 69 j = M.1 69 j := fun j h1 h2 => by rw [o4 j h2, d2.2.1 j h1, x69]
      have hI : Inv n np ns E := by
        refine ⟨coreI_same (fun z hz => ex z (by omega) (by omega) (by omega) (by omega) (by omega) (by omega) (by omega) (by omega) (by omega) (by omega) (by omega) (by omega)) (fun z h1 h2 => ex z (by omega) (by omega) (by omega) (by omega) (by omega) (by omega) (by omega) (by omega) (by omega) (by omega) (by omega) (by omega)) (e69 0 (by decide) (by decide)) (e69 5 (by decide) (by decide)) h.1, Or.inr ⟨by rw [o4 10 (by decide)]; exact d3, refOrd_same (M := M5) (fun a h1 h2 => o3 a (by omega) (by omega) (by omega)) (o3 79 (by decide) (by decide) (by decide)) (o3 81 (by decide) (by decide) (by decide)) (by rw [o2]) d4⟩, drI_same (fun z hz => ex z (by omega) (by omega) (by omega) (by omega) (by omega) (by omega) (by omega) (by omega) (by omega) (by omega) (by omega) (by omega)) h.2.2.1, slI_same (fun z hz => ex z (by omega) (by omega) (by omega) (by omega) (by omega) (by omega) (by omega) (by omega) (by omega) (by omega) (by omega) (by omega)) (e69 25 (by decide) (by decide)) h.2.2.2.1, rgI_same (fun z hz => ex z (by omega) (by omega) (by omega) (by omega) (by omega) (by omega) (by omega) (by omega) (by omega) (by omega) (by omega) (by omega)) (e69 15 (by decide) (by decide)) h.2.2.2.2.1, odI_same (fun z hz => ex z (by omega) (by omega) (by omega) (by omega) (by omega) (by omega) (by omega) (by omega) (by omega) (by omega) (by omega) (by omega)) (e69 23 (by decide) (by decide)) h.2.2.2.2.2.1, ⟨?_, fun i hi => ?_⟩, tcI_same (ex 68 (by omega) (by omega) (by omega) (by omega) (by omega) (by omega) (by omega) (by omega) (by omega) (by omega) (by omega) (by omega)) (e69 33 (by decide) (by decide)) h.2.2.2.2.2.2.2⟩
        · rw [o5, o3 61 (by decide) (by decide) (by decide), d2.1 61 (by decide) (by decide) (by decide) (by decide), g1]
        · rw [o6 i hi, o3 62 (by decide) (by decide) (by decide), d2.1 62 (by decide) (by decide) (by decide) (by decide), g2 i hi]
      refine ⟨sh, M1, E, ?_, ?_, n, np, ns, hI⟩
      · rw [eFX9_reach, a1 M c1, Option.bind_some, if_neg (by decide), r1, Option.bind_some]
      · rw [eFX10_reach, a2 M1 (by rw [x69]; exact c3), Option.bind_some, if_pos rfl, d1, Option.bind_some, o1]
  · refine CallP_same (-1) h ?_ ?_
    · rw [eFX9_reach, a1 M c1, Option.bind_some, if_pos rfl]
    · rw [eFX10_reach, a2 M c3, Option.bind_some, if_neg (by decide)]
