/-! ===== the class's trial ===== -/
theorem nx_cut {S : Nat → Bool} {lo hi r : Nat → Int32} {n : Nat} (h : ∀ i, n ≤ i → S i = false) : ∀ j, n ≤ j → nx S lo hi j r = nx S lo hi n r
  | 0, hj => by
    have : n = 0 := by omega
    subst this; rfl
  | j + 1, hj => by
    by_cases e : n = j + 1
    · subst e; rfl
    · rw [nx_s, h j (by omega), if_neg (show ¬ false = true by decide)]
      exact nx_cut h j (by omega)
def sameT (M M' : Mm) : Prop := M'.2 = M.2 ∧ ∀ z, z ≠ 61 → z ≠ 62 → z ≠ 63 → z ≠ 65 → z ≠ 66 → z ≠ 67 → M'.1 z = M.1 z
theorem sameT_t {M M1 M2 : Mm} (h1 : sameT M M1) (h2 : sameT M1 M2) : sameT M M2 := ⟨h2.1.trans h1.1, fun z a b c d e f => (h2.2 z a b c d e f).trans (h1.2 z a b c d e f)⟩
theorem eqP_61 {p : Nat} {M M' : Mm} (h : ∀ a, a ≠ 61 → M'.1 a = M.1 a) (he : eqP 64 M p) : eqP 64 M' p := by
  unfold eqP at *
  rw [h (64 + 1) (by decide), h (64 + 3) (by decide), h 22 (by decide), h 23 (by decide), h 24 (by decide), h 25 (by decide)]
  exact he
theorem eqF_61 {f : Nat} {M M' : Mm} (hf : f < 12) (h : ∀ a, a ≠ 61 → M'.1 a = M.1 a) (he : eqF 64 62 M f) : eqF 64 62 M' f := by
  unfold eqF at *
  rw [h (64 + 1) (by decide), h (64 + 2) (by decide), h (64 + 3) (by decide), h (7 + f) (by omega), h 3 (by decide), h 4 (by decide), h 5 (by decide), h 62 (by decide)]
  exact he
theorem solR_row {n np : Nat} {M : Mm} {row row' V SH CN : Nat → Int32} (h : ∀ f, f < n → row f = row' f) (hs : solR n np M row V SH CN) : solR n np M row' V SH CN := by
  refine ⟨hs.1, fun f hf => ?_⟩
  rw [← h f hf]
  exact hs.2 f hf
theorem run_c {N n np ns f : Nat} {M : Mm} (hN : 30000 < N) (h : Inv n np ns M) (hf : f < n) : ∃ m : Int32, (∀ i, i < n → bt m i = (bt (M.1 20 f) i && decide (M.1 5 i = 0))) ∧ (∀ i, n ≤ i → bt m i = false) ∧ ((20000 < cr (fun g => bt m g) (M.1 3) (M.1 4) n ∧ FX8_run N (nI f) M = some ((-6), M)) ∨ (cr (fun g => bt m g) (M.1 3) (M.1 4) n ≤ 20000 ∧ ∃ t M1 sh, t < cr (fun g => bt m g) (M.1 3) (M.1 4) n ∧ FX8_run N (nI f) M = some (sh, M1) ∧ sameT M M1 ∧ M1.1 61 4 = nI (t + 1) ∧ (sh = 0 ∨ sh = 1) ∧ (sh = 0 → t + 1 = cr (fun g => bt m g) (M.1 3) (M.1 4) n) ∧ (∀ i, i < 12 → M1.1 62 i = if sh = 0 then LO else rs (fun g => bt m g) (M.1 3) (M.1 4) n t i) ∧ (∀ u, u < t → ∃ V SH CN, solR n np M (rs (fun g => bt m g) (M.1 3) (M.1 4) n u) V SH CN ∧ SH f = 0) ∧ ∃ V SH CN, solR n np M (rs (fun g => bt m g) (M.1 3) (M.1 4) n t) V SH CN ∧ SH f = sh)) := by
  obtain ⟨hn, hnp, c1, c2, c3, c4⟩ := Inv_n h
  obtain ⟨r4, a1, a2⟩ := asked_run (N := N) (by omega) hn c1
  have hsp : ∀ i, i < n → spJ (M.1 3) (M.1 4) i := h.1.2.2.2.2
  obtain ⟨m, hm⟩ : ∃ m, m = M.1 20 f &&& r4 := ⟨_, rfl⟩
  have hmb : ∀ i, i < n → bt m i = (bt (M.1 20 f) i && decide (M.1 5 i = 0)) := fun i hi => by
    rw [hm, b_and, a2 i]
    simp [hi]
  have hmh : ∀ i, n ≤ i → bt m i = false := fun i hi => by
    rw [hm, b_and, a2 i]
    have : ¬ i < n := by omega
    simp [this]
  obtain ⟨S, hSd⟩ : ∃ S : Nat → Bool, S = fun g => bt m g := ⟨_, rfl⟩
  obtain ⟨T, hTd⟩ : ∃ T, T = cr S (M.1 3) (M.1 4) n := ⟨_, rfl⟩
  obtain ⟨rr, hrd⟩ : ∃ rr : Nat → Nat → Int32, rr = rs S (M.1 3) (M.1 4) n := ⟨_, rfl⟩
  refine ⟨m, hmb, hmh, ?_⟩
  rw [← hSd, ← hTd, ← hrd]
  have hSh : ∀ i, n ≤ i → S i = false := fun i hi => by rw [hSd]; exact hmh i hi
  have hcr := countRows_run (N := N) (m := m) (M := M) (S := S) (by omega) hn c1 hsp (fun i _ => by rw [hSd])
  rw [← hTd] at hcr
  have hb := cr_le (S := S) n hsp
  rw [← hTd] at hb
  rw [eFX8_run, rdI_nI (by omega) (by decide), Option.bind_some, a1, Option.bind_some, ← hm, hcr, Option.bind_some]
  by_cases hT : T ≤ 20000
  · right
    refine ⟨hT, ?_⟩
    have htot : T = tot S (M.1 3) (M.1 4) n := by rw [hTd]; exact cr_tot n (by rw [← hTd]; exact hT)
    rw [if_pos (show nI T ≤ 20000 from nI_le (b := 20000) hT (by decide))]
    obtain ⟨M9, b1, b2, b3, b4, b5, b6⟩ := list_run (N := N) (m := m) (M := M) (by omega)
    rw [b1, Option.bind_some, fill_run (by decide) (by omega), Option.bind_some]
    rw [show (-2000000000 : Int32) = LO from rfl]
    rw [← hSd] at b5
    have b6' : ∀ f, f < 12 → S f = true → M9.1 63 (cntB S f) = nI f := fun g hg hSg => by rw [hSd] at hSg ⊢; exact b6 g hg hSg
    have e11 : ∀ z, z ≠ 61 → z ≠ 62 → z ≠ 63 → (flM M9 62 12 LO).1 z = M.1 z := fun z h1 h2 h3 => by rw [flM_ne h2]; exact b3 z h1 h3
    have f30 : ∀ a, a < 30 → (flM M9 62 12 LO).1 a = M.1 a := fun a ha => e11 a (by omega) (by omega) (by omega)
    obtain ⟨hN11, hG11, c, hst11⟩ := coreC_30 f30 h.1.1
    obtain ⟨M13, d1, d2, d3, d4⟩ := look_run (N := N) (s := 64) (k := 62) (M := flM M9 62 12 LO) (by omega) (Or.inr rfl) (Or.inr rfl) hN11 hst11.1
    rw [d1, Option.bind_some]
    show ∃ t M1 sh, t < T ∧ ((some (up1 M13 61 4 1)).bind fun M14 => lp (BX8_run_70 N) N (nI f, nI T, M14)) = some (sh, M1) ∧ _
    rw [Option.bind_some]
    have x13 : ∀ z, z ≠ 65 → z ≠ 66 → z ≠ 67 → M13.1 z = (flM M9 62 12 LO).1 z := fun z h1 h2 h3 => d2.2 z h1 h2 h3
    have sT : sameT M (up1 M13 61 4 1) := ⟨d2.1.trans b2, fun z h1 h2 h3 h4 h5 h6 => by rw [up1_ne h1, x13 z h4 h5 h6]; exact e11 z h1 h2 h3⟩
    -- the solution that a memory holds
    have sol : ∀ (Q : Mm) (t : Nat), sameT M Q → (∀ i, i < 12 → Q.1 62 i = rr t i) → (∀ p, p < np → eqP 64 Q p) → (∀ g, g < n → eqF 64 62 Q g) → solR n np M (rr t) (Q.1 65) (Q.1 66) (Q.1 67) := fun Q t s1 hrow hP hF => by
      have hcQ : coreI n np Q := coreI_same (fun a ha => s1.2 a (by omega) (by omega) (by omega) (by omega) (by omega) (by omega)) (fun a h1 h2 => s1.2 a (by omega) (by omega) (by omega) (by omega) (by omega) (by omega)) (by rw [s1.2 69 (by decide) (by decide) (by decide) (by decide) (by decide) (by decide)]) (by rw [s1.2 69 (by decide) (by decide) (by decide) (by decide) (by decide) (by decide)]) h.1
      exact solR_row (fun g hg => hrow g (by omega)) (solR_same (M' := M) (fun a h1 h2 => (s1.2 a (by omega) (by omega) (by omega) (by omega) (by omega) (by omega)).symm) (sol_of (s := 64) (k := 62) hcQ hP hF))
    -- the end where it is shown
    have fin1 : ∀ (Q : Mm) (t : Nat), t < T → sameT M Q → Q.1 61 4 = nI (t + 1) → (∀ i, i < 12 → Q.1 62 i = rr t i) → (∀ p, p < np → eqP 64 Q p) → (∀ g, g < n → eqF 64 62 Q g) → (∀ u, u < t → ∃ V SH CN, solR n np M (rr u) V SH CN ∧ SH f = 0) → ¬ Q.1 66 f = 0 → ∃ t M1 sh, t < T ∧ BX8_run_124 N (nI f) Q = some (sh, M1) ∧ sameT M M1 ∧ M1.1 61 4 = nI (t + 1) ∧ (sh = 0 ∨ sh = 1) ∧ (sh = 0 → t + 1 = T) ∧ (∀ i, i < 12 → M1.1 62 i = if sh = 0 then LO else rr t i) ∧ (∀ u, u < t → ∃ V SH CN, solR n np M (rr u) V SH CN ∧ SH f = 0) ∧ ∃ V SH CN, solR n np M (rr t) V SH CN ∧ SH f = sh := fun Q t ht s1 g1 g2 hP hF hold hsh => by
      have hs := sol Q t s1 g2 hP hF
      have h1 : Q.1 66 f = 1 := by
        have h01 : Q.1 66 f = 0 ∨ Q.1 66 f = 1 := by rw [(hs.2 f hf).1]; exact shV_01 _ _
        exact h01.resolve_left hsh
      refine ⟨t, Q, 1, ht, ?_, s1, g1, Or.inr rfl, fun q => absurd q (by decide), fun i hi => by rw [if_neg (by decide)]; exact g2 i hi, hold, _, _, _, hs, h1⟩
      rw [eBX8_run_124, rdI_nI (by omega) (by decide), Option.bind_some, if_neg hsh, eBX8_run_145, rdI_nI (by omega) (by decide), Option.bind_some, h1]
      rfl
    refine lp_up (fun t (q : Int32 × Int32 × Mm) => q.1 = nI f ∧ q.2.1 = nI T ∧ sameT M q.2.2 ∧ q.2.2.1 61 4 = nI (t + 1) ∧ q.2.2.1 61 3 = nI (cntB S 12) ∧ (∀ f, f < 12 → S f = true → q.2.2.1 63 (cntB S f) = nI f) ∧ (∀ i, i < 12 → q.2.2.1 62 i = rr t i) ∧ (∀ p, p < np → eqP 64 q.2.2 p) ∧ (∀ g, g < n → eqF 64 62 q.2.2 g) ∧ ∀ u, u < t → ∃ V SH CN, solR n np M (rr u) V SH CN ∧ SH f = 0) (fun o => ∃ t M1 sh, t < T ∧ o = some (sh, M1) ∧ sameT M M1 ∧ M1.1 61 4 = nI (t + 1) ∧ (sh = 0 ∨ sh = 1) ∧ (sh = 0 → t + 1 = T) ∧ (∀ i, i < 12 → M1.1 62 i = if sh = 0 then LO else rr t i) ∧ (∀ u, u < t → ∃ V SH CN, solR n np M (rr u) V SH CN ∧ SH f = 0) ∧ ∃ V SH CN, solR n np M (rr t) V SH CN ∧ SH f = sh) (T - 1) N _ ⟨rfl, rfl, sT, by rw [up1_same, if_pos rfl]; rfl, ?_, fun g hg hSg => ?_, fun i hi => ?_, fun p hp => eqP_61 (fun a ha => up1_ne ha) (d3 p hp), fun g hg => eqF_61 (by omega) (fun a ha => up1_ne ha) (d4 g hg), fun u hu => absurd hu (Nat.not_lt_zero _)⟩ (by omega) ?_ ?_
    · rw [up1_same, if_neg (by decide), x13 61 (by decide) (by decide) (by decide), flM_ne (by decide)]; exact b5
    · rw [up1_ne (by decide), x13 63 (by decide) (by decide) (by decide), flM_ne (by decide)]; exact b6' g hg hSg
    · rw [up1_ne (by decide), x13 62 (by decide) (by decide) (by decide), flM_same hi, hrd]; rfl
    · rintro t ⟨x1, x2, Q⟩ K ht ⟨e1, e2, s1, g1, g2, g3, g4, g5, g6, g7⟩
      dsimp only at e1 e2 s1 g1 g2 g3 g4 g5 g6 g7
      subst e1
      subst e2
      rw [eBX8_run_70]
      dsimp only
      rw [rdI_nI (by omega) (by decide), Option.bind_some]
      by_cases hsh : Q.1 66 f = 0
      · left
        rw [if_pos hsh, g1, if_neg (lt_nI (show t + 1 < T by omega) (by omega))]
        obtain ⟨ch, Q1, k1, k2, k3, k4, k5⟩ := turn_go (N := N) (S := S) (lo := M.1 3) (hi := M.1 4) 12 N 0 Q (rr t) (Nat.le_refl 12) (by have := cntB_le S 12; omega) (s1.2 3 (by decide) (by decide) (by decide) (by decide) (by decide) (by decide)) (s1.2 4 (by decide) (by decide) (by decide) (by decide) (by decide) (by decide)) g3 g4
        rw [nx_cut hSh 12 hn] at k3 k5
        rw [eFX8_turnRow, g2, k1, Option.bind_some]
        dsimp only
        have s2 : sameT M Q1 := sameT_t s1 ⟨k2.1, fun z h1 h2 h3 h4 h5 h6 => k2.2 z h2⟩
        obtain ⟨hN1, hG1, c', hst1⟩ := coreC_30 (fun a ha => s2.2 a (by omega) (by omega) (by omega) (by omega) (by omega) (by omega)) h.1.1
        obtain ⟨Q2, l1, l2, l3, l4⟩ := again_run (N := N) (s := 64) (k := 62) (M := Q1) (ch := ch) (by omega) (Or.inr rfl) (Or.inr rfl) hN1 hst1 (fun p hp => eqP_row (Or.inr rfl) (Or.inr rfl) k2 (g5 p hp)) (fun g hg hbg => eqF_row (Or.inr rfl) (Or.inr rfl) (by omega) k2 (by rw [k3 g (by omega), k5 g (by omega) hbg, g4 g (by omega)]) (g6 g hg))
        rw [l1, Option.bind_some]
        have e61 : Q2.1 61 = Q.1 61 := by rw [l2.2 61 (by decide) (by decide) (by decide), k2.2 61 (by decide)]
        show ∃ a', _ ∧ ((some (up1 Q2 61 4 (Q2.1 61 4 + 1))).bind fun M9 => K (nI f, nI T, M9)) = K a'
        rw [e61, g1, nI_1, Option.bind_some]
        refine ⟨_, ⟨rfl, rfl, sameT_t s2 ⟨l2.1, fun z h1 h2 h3 h4 h5 h6 => by rw [up1_ne h1]; exact l2.2 z h4 h5 h6⟩, ?_, ?_, fun g hg hSg => ?_, fun i hi => ?_, fun p hp => eqP_61 (fun a ha => up1_ne ha) (l3 p hp), fun g hg => eqF_61 (by omega) (fun a ha => up1_ne ha) (l4 g hg), fun u hu => ?_⟩, rfl⟩
        · dsimp only
          rw [up1_same, if_pos rfl]
        · dsimp only
          rw [up1_same, if_neg (by decide), e61]; exact g2
        · dsimp only
          rw [up1_ne (by decide), l2.2 63 (by decide) (by decide) (by decide), k2.2 63 (by decide)]; exact g3 g hg hSg
        · dsimp only
          rw [up1_ne (by decide), l2.2 62 (by decide) (by decide) (by decide), k3 i hi, hrd, rs_s]
        · by_cases e : u = t
          · subst e
            exact ⟨_, _, _, sol Q u s1 g4 g5 g6, hsh⟩
          · exact g7 u (by omega)
      · right
        rw [if_neg hsh]
        exact fin1 Q t (by omega) s1 g1 g4 g5 g6 g7 hsh
    · rintro ⟨x1, x2, Q⟩ K ⟨e1, e2, s1, g1, g2, g3, g4, g5, g6, g7⟩
      dsimp only at e1 e2 s1 g1 g2 g3 g4 g5 g6 g7
      subst e1
      subst e2
      rw [show T - 1 + 1 = T by omega] at g1
      rw [eBX8_run_70]
      dsimp only
      rw [rdI_nI (by omega) (by decide), Option.bind_some]
      by_cases hsh : Q.1 66 f = 0
      · rw [if_pos hsh, g1, if_pos (le_nI T (by omega)), eBX8_run_124, rdI_nI (by omega) (by decide), Option.bind_some, if_pos hsh, fill_run (by decide) (by omega), Option.bind_some, show (-2000000000 : Int32) = LO from rfl]
        refine ⟨T - 1, flM Q 62 12 LO, 0, by omega, ?_, sameT_t s1 ⟨rfl, fun z h1 h2 _ _ _ _ => flM_ne h2⟩, ?_, Or.inl rfl, fun _ => by omega, fun i hi => ?_, g7, _, _, _, sol Q (T - 1) s1 g4 g5 g6, hsh⟩
        · rw [eBX8_run_145, rdI_nI (by omega) (by decide), Option.bind_some, flM_ne (by decide), hsh]
          rfl
        · rw [flM_ne (by decide), g1, show T - 1 + 1 = T by omega]
        · rw [flM_same hi, if_pos rfl]
      · rw [if_neg hsh]
        exact fin1 Q (T - 1) (by omega) s1 (by rw [g1, show T - 1 + 1 = T by omega]) g4 g5 g6 g7 hsh
  · left
    exact ⟨by omega, by rw [if_neg (show ¬ nI T ≤ 20000 from fun q => hT ((nI_leI (by omega) (by decide)).mp (show nI T ≤ nI 20000 from q)))]⟩
