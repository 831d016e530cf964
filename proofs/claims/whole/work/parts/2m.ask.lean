/-! ===== the calls that only ask: kept, counts, status, done, value, about, hangs, ring, odds, found, tried, trace ===== -/
theorem Inv_n {n np ns : Nat} {M : Mm} (h : Inv n np ns M) : n ≤ 12 ∧ np ≤ 50 ∧ M.1 2 6 = nI n ∧ M.1 21 5 = nI np ∧ M.1 69 0 = nI n ∧ M.1 69 5 = nI np := ⟨h.1.1.1.1, h.1.1.1.2.1, h.1.1.1.2.2.1, h.1.1.1.2.2.2.1, h.1.2.2.1, h.1.2.2.2.1⟩
theorem dr_ok {n np ns d f : Nat} {M : Mm} (h : Inv n np ns M) (hd : d < 4) (hf : f < n) : M.1 72 f = 0 → M.1 (33 + d) f = LO ∨ (¬ M.1 (33 + d) f < M.1 70 f ∧ ¬ M.1 71 f < M.1 (33 + d) f) := fun _ => by
  obtain ⟨r3, r4, _⟩ := h.1.2.1
  have hn := (Inv_n h).1
  rw [← r3, ← r4]
  rcases (h.2.2.1 d f hd (by omega)).2 with e | ⟨_, _, a, b⟩
  · exact Or.inl e
  · exact Or.inr ⟨a, b⟩
def stF (M : Mm) (f : Nat) : Int32 := stV (M.1 39 f) (M.1 40 f) (M.1 (7 + f) 1) (M.1 (7 + f) 2) (M.1 38)
theorem look_lay {N n np ns d : Nat} {M : Mm} (hN : 100 < N) (hd : d < 4) (h : Inv n np ns M) : ∃ M1 M2, FX6_look N 37 (33 + d) M = some M1 ∧ sameS 37 M M1 ∧ Inv n np ns M1 ∧ FX10_layDraft N (nI d) M1 = some M2 ∧ sameW M1 M2 ∧ Inv n np ns M2 ∧ (∀ f, f < n → M2.1 83 f = M1.1 (33 + d) f) ∧ (∀ p, p < np → M2.1 87 p = M1.1 38 p) ∧ (∀ f, f < n → M2.1 84 f = M1.1 39 f ∧ M2.1 86 f = M1.1 40 f) ∧ (∀ f, f < n → FX6_statusOf 37 (nI f) M1 = some (stF M1 f)) ∧ ∀ f, f < n → FX10_statusOf (nI f) M2 = some (stF M1 f) := by
  have hn := (Inv_n h).1
  obtain ⟨c, hst⟩ := h.1.1.2.2
  obtain ⟨M1, l1, l2, l3, l4⟩ := look_run (N := N) (s := 37) (k := 33 + d) hN (Or.inl rfl) (Or.inl ⟨by omega, by omega⟩) h.1.1.1 hst.1
  have hI1 := Inv_S l2 h
  obtain ⟨M2, k1, k2, k3, k4, k5, k6⟩ := lay_run (N := N) (d := d) (M := M1) (by omega) hd hI1.1 hI1.2.1 (sol_of (s := 37) (k := 33 + d) hI1.1 l3 l4) (fun f hf => (hI1.2.2.1 d f hd (by omega)).1.symm) (fun f hf => dr_ok hI1 hd hf)
  have hI2 := Inv_Q (sameQ_W k2) k3 hI1
  refine ⟨M1, M2, l1, l2, hI1, k1, k2, hI2, k4, k5, k6, fun f hf => status_c hI1.1.1.1 hf, fun f hf => ?_⟩
  have hs := status_r (V := M1.1 38) (netR_of hI2.1) hf k5
  have rr := hI2.1.2.1.2.2.2.2.2.2.2
  rw [(k6 f hf).1, (k6 f hf).2, ← rr f 1 (by omega) (by decide), ← rr f 2 (by omega) (by decide), k2.1 (7 + f) (by omega) (by omega) (by omega) (by omega) (by omega)] at hs
  exact hs
theorem lay_any {N n np ns d : Nat} {M : Mm} (hN : 100 < N) (hd : d < 4) (h : Inv n np ns M) : ∃ M2, FX10_layDraft N (nI d) M = some M2 ∧ sameW M M2 ∧ Inv n np ns M2 ∧ ∀ f, f < n → M2.1 83 f = M.1 (33 + d) f := by
  have hn := (Inv_n h).1
  obtain ⟨c, hst⟩ := h.1.1.2.2
  obtain ⟨M1, l1, l2, l3, l4⟩ := look_run (N := N) (s := 37) (k := 33 + d) hN (Or.inl rfl) (Or.inl ⟨by omega, by omega⟩) h.1.1.1 hst.1
  have hI1 := Inv_S l2 h
  have hsol := solR_same (M' := M) (fun a h1 h2 => (l2.2 a (by omega) (by omega) (by omega)).symm) (sol_of (s := 37) (k := 33 + d) hI1.1 l3 l4)
  rw [l2.2 (33 + d) (by omega) (by omega) (by omega)] at hsol
  obtain ⟨M2, k1, k2, k3, k4, k5, k6⟩ := lay_run (N := N) (d := d) (M := M) (by omega) hd h.1 h.2.1 hsol (fun f hf => (h.2.2.1 d f hd (by omega)).1.symm) (fun f hf => dr_ok h hd hf)
  exact ⟨M2, k1, k2, Inv_Q (sameQ_W k2) k3 h, k4⟩
theorem arr_any {N n np ns : Nat} {M : Mm} (hN : 100 < N) (h : Inv n np ns M) : ∃ M2, FX10_arrange N M = some M2 ∧ sameW M M2 ∧ Inv n np ns M2 ∧ ∀ f, f < n → M2.1 79 f = M.1 20 f := by
  obtain ⟨M2, a1, a2, a3, a4, a5, a6⟩ := arr_ref (N := N) (by omega) h.1 h.2.1
  exact ⟨M2, a1, sameW_O a2, Inv_Q (sameQ_W (sameW_O a2)) (Or.inr ⟨a3, a4⟩) h, a6⟩
theorem c_counts {N n np ns : Nat} {x y : Int32} {M : Mm} (hN : 100 < N) (h : Inv n np ns M) : CallP (FX9_counts N x y M) (FX10_counts N x y) := by
  obtain ⟨hn, hnp, c1, c2, c3, c4⟩ := Inv_n h
  rcases plcQ x y hn with ⟨d, f, hd, hf, rfl, rfl, a1, a2, a3⟩ | ⟨a1, a2⟩
  · obtain ⟨M1, M2, l1, l2, l3, l4, l5, l6, l7, l8, l9, l10, l11⟩ := look_lay hN hd h
    refine ⟨M1.1 40 f, M1, M2, ?_, ?_, n, np, ns, l6⟩
    · rw [eFX9_counts, a1 M c1, Option.bind_some, if_neg (by decide), ckR_nI hd (by decide), Option.bind_some, l1, Option.bind_some, rdI_nI (by omega) (by decide), Option.bind_some]
    · rw [eFX10_counts, a2, Option.bind_some, if_pos rfl, a3 M1 (Inv_n l3).2.2.2.2.1, Option.bind_some, if_pos rfl, l4, Option.bind_some, rdI_nI (by omega) (by decide), Option.bind_some, (l9 f hf).2]
  · refine CallP_same LO h ?_ ?_
    · rw [eFX9_counts, a1 M c1, Option.bind_some, if_pos rfl]; rfl
    · rcases a2 with b | ⟨b, b2⟩
      · rw [eFX10_counts, b, Option.bind_some, if_neg (by decide)]; rfl
      · rw [eFX10_counts, b, Option.bind_some, if_pos rfl, b2 M c3, Option.bind_some, if_neg (by decide)]; rfl
theorem c_status {N n np ns : Nat} {x y : Int32} {M : Mm} (hN : 100 < N) (h : Inv n np ns M) : CallP (FX9_status N x y M) (FX10_status N x y) := by
  obtain ⟨hn, hnp, c1, c2, c3, c4⟩ := Inv_n h
  rcases plcQ x y hn with ⟨d, f, hd, hf, rfl, rfl, a1, a2, a3⟩ | ⟨a1, a2⟩
  · obtain ⟨M1, M2, l1, l2, l3, l4, l5, l6, l7, l8, l9, l10, l11⟩ := look_lay hN hd h
    refine ⟨stF M1 f, M1, M2, ?_, ?_, n, np, ns, l6⟩
    · rw [eFX9_status, a1 M c1, Option.bind_some, if_neg (by decide), ckR_nI hd (by decide), Option.bind_some, l1, Option.bind_some, l10 f hf, Option.bind_some]
    · rw [eFX10_status, a2, Option.bind_some, if_pos rfl, a3 M1 (Inv_n l3).2.2.2.2.1, Option.bind_some, if_pos rfl, l4, Option.bind_some, l11 f hf, Option.bind_some]
  · refine CallP_same (-1) h ?_ ?_
    · rw [eFX9_status, a1 M c1, Option.bind_some, if_pos rfl]
    · rcases a2 with b | ⟨b, b2⟩
      · rw [eFX10_status, b, Option.bind_some, if_neg (by decide)]
      · rw [eFX10_status, b, Option.bind_some, if_pos rfl, b2 M c3, Option.bind_some, if_neg (by decide)]
theorem c_value {N n np ns : Nat} {x y : Int32} {M : Mm} (hN : 100 < N) (h : Inv n np ns M) : CallP (FX9_value N x y M) (FX10_value N x y) := by
  obtain ⟨hn, hnp, c1, c2, c3, c4⟩ := Inv_n h
  rcases drfQ x with ⟨d, hd, rfl, a1, a2⟩ | ⟨a1, a2⟩
  · rcases prtQ y hnp with ⟨p, hp, rfl, b1, b2⟩ | ⟨b1, b2⟩
    · obtain ⟨M1, M2, l1, l2, l3, l4, l5, l6, l7, l8, l9, l10, l11⟩ := look_lay hN hd h
      refine ⟨M1.1 38 p, M1, M2, ?_, ?_, n, np, ns, l6⟩
      · rw [eFX9_value, a1, Option.bind_some, if_neg (by decide), b1 M c2, Option.bind_some, if_neg (by decide), ckR_nI hd (by decide), Option.bind_some, l1, Option.bind_some, rdI_nI (by omega) (by decide), Option.bind_some]
      · rw [eFX10_value, a2, Option.bind_some, if_pos rfl, b2 M1 (Inv_n l3).2.2.2.2.2, Option.bind_some, if_pos rfl, l4, Option.bind_some, rdI_nI (by omega) (by decide), Option.bind_some, l8 p hp]
    · refine CallP_same LO h ?_ ?_
      · rw [eFX9_value, a1, Option.bind_some, if_neg (by decide), b1 M c2, Option.bind_some, if_pos rfl]; rfl
      · rw [eFX10_value, a2, Option.bind_some, if_pos rfl, b2 M c4, Option.bind_some, if_neg (by decide)]; rfl
  · refine CallP_same LO h ?_ ?_
    · rw [eFX9_value, a1, Option.bind_some, if_pos rfl]; rfl
    · rw [eFX10_value, a2, Option.bind_some, if_neg (by decide)]; rfl
theorem c_kept {N n np ns : Nat} {x y : Int32} {M : Mm} (hN : 100 < N) (h : Inv n np ns M) : CallP (FX9_kept N x y M) (FX10_kept N x y) := by
  obtain ⟨hn, hnp, c1, c2, c3, c4⟩ := Inv_n h
  rcases plcQ x y hn with ⟨d, f, hd, hf, rfl, rfl, a1, a2, a3⟩ | ⟨a1, a2⟩
  · have r5 := h.1.2.1.2.2.1
    by_cases hm : M.1 5 f = 0
    · obtain ⟨M2, l1, l2, l3, l4⟩ := lay_any hN hd h
      refine ⟨M.1 (33 + d) f, M, M2, ?_, ?_, n, np, ns, l3⟩
      · rw [eFX9_kept, a1 M c1, Option.bind_some, if_neg (by decide), rdI_nI (by omega) (by decide), Option.bind_some, if_pos hm, ckR_nI hd (by decide), Option.bind_some, rdI_nI (by omega) (by decide), Option.bind_some]
      · rw [eFX10_kept, a2, Option.bind_some, if_pos rfl, a3 M c3, Option.bind_some, if_pos rfl, l1, Option.bind_some, show (4 : Int32) * nI f + 3 = nI (4 * f + 3) from ix4 f 3, rdI_nI (by omega) (by decide), Option.bind_some, rdI_nI (by omega) (by decide), Option.bind_some, l2.1 72 (by decide) (by decide) (by decide) (by decide) (by decide), ← r5, if_pos hm, rdI_nI (by omega) (by decide), Option.bind_some, l4 f hf]
    · obtain ⟨M1, M2, l1, l2, l3, l4, l5, l6, l7, l8, l9, l10, l11⟩ := look_lay hN hd h
      have r3 := l3.1.1.1.2.2.2.2.2.1 f hf 3 (by decide)
      have e3 : M2.1 73 (4 * f + 3) = M1.1 (7 + f) 3 := by
        rw [l5.1 73 (by decide) (by decide) (by decide) (by decide) (by decide)]
        exact (l3.1.2.1.2.2.2.2.2.2.2 f 3 (by omega) (by decide)).symm
      have e72 : ¬ M2.1 72 f = 0 := by
        rw [l5.1 72 (by decide) (by decide) (by decide) (by decide) (by decide), l2.2 72 (by decide) (by decide) (by decide), ← r5]; exact hm
      refine ⟨if M1.1 (7 + f) 3 = (-9) then LO else M1.1 38 (M1.1 (7 + f) 3).toNatClampNeg, M1, M2, ?_, ?_, n, np, ns, l6⟩
      · rw [eFX9_kept, a1 M c1, Option.bind_some, if_neg (by decide), rdI_nI (by omega) (by decide), Option.bind_some, if_neg hm, ckR_nI hd (by decide), Option.bind_some, l1, Option.bind_some, ckR_nI (by omega) (by decide), Option.bind_some, rd4_3, Option.bind_some, valueOf_run hnp r3, Option.bind_some]
      · rw [eFX10_kept, a2, Option.bind_some, if_pos rfl, a3 M1 (Inv_n l3).2.2.2.2.1, Option.bind_some, if_pos rfl, l4, Option.bind_some, show (4 : Int32) * nI f + 3 = nI (4 * f + 3) from ix4 f 3, rdI_nI (by omega) (by decide), Option.bind_some, rdI_nI (by omega) (by decide), Option.bind_some, if_neg e72, e3]
        rcases rl_neg hnp r3 with ⟨z1, z2⟩ | ⟨z1, z2, p, hp, z3⟩
        · rw [z2, if_neg (by decide), if_pos rfl]; rfl
        · rw [if_neg z2, z3, if_pos (nI_pos' (by omega)), rdI_nI (by omega) (by decide), Option.bind_some, l8 p hp, cl_nI (by omega)]
  · refine CallP_same LO h ?_ ?_
    · rw [eFX9_kept, a1 M c1, Option.bind_some, if_pos rfl]; rfl
    · rcases a2 with b | ⟨b, b2⟩
      · rw [eFX10_kept, b, Option.bind_some, if_neg (by decide)]; rfl
      · rw [eFX10_kept, b, Option.bind_some, if_pos rfl, b2 M c3, Option.bind_some, if_neg (by decide)]; rfl
def allB (P : Nat → Bool) : Nat → Bool
  | 0 => true
  | k + 1 => allB P k && P k
theorem allB_ff {P : Nat → Bool} {i : Nat} : ∀ n, i < n → P i = false → allB P n = false
  | 0, h, _ => absurd h (Nat.not_lt_zero _)
  | n + 1, h, hp => by
    simp only [allB]
    by_cases e : i = n
    · subst e; rw [hp, Bool.and_false]
    · rw [allB_ff n (by omega) hp, Bool.false_and]
theorem allB_s {P : Nat → Bool} {k : Nat} : allB P (k + 1) = (allB P k && P k) := rfl
def dnB (M : Mm) (f : Nat) : Bool := decide (¬ stF M f = 2 ∧ ¬ stF M f = 4)
theorem c_done {N n np ns : Nat} {x : Int32} {M : Mm} (hN : 100 < N) (h : Inv n np ns M) : CallP (FX9_done N x M) (FX10_done N x) := by
  obtain ⟨hn, hnp, c1, c2, c3, c4⟩ := Inv_n h
  rcases drfQ x with ⟨d, hd, rfl, a1, a2⟩ | ⟨a1, a2⟩
  · obtain ⟨M1, M2, l1, l2, l3, l4, l5, l6, l7, l8, l9, l10, l11⟩ := look_lay hN hd h
    refine ⟨if allB (dnB M1) n then 1 else 0, M1, M2, ?_, ?_, n, np, ns, l6⟩
    · rw [eFX9_done, a1, Option.bind_some, if_neg (by decide), ckR_nI hd (by decide), Option.bind_some, l1, Option.bind_some]
      refine lp_up (fun i (q : Int32 × Mm) => q = (nI i, M1) ∧ allB (dnB M1) i = true) (fun o => o = some (if allB (dnB M1) n then 1 else 0, M1)) n N _ ⟨rfl, rfl⟩ (by omega) ?_ ?_
      · rintro i _ K hi ⟨rfl, h2⟩
        rw [eBX9_done_29]
        dsimp only
        rw [(Inv_n l3).2.2.1, if_neg (lt_nI hi (by omega)), l10 i hi, Option.bind_some]
        by_cases e2 : stF M1 i = 2
        · right
          rw [if_pos e2, allB_ff (P := dnB M1) n hi (by unfold dnB; simp [e2])]; rfl
        · rw [if_neg e2]
          by_cases e4 : stF M1 i = 4
          · right
            rw [if_pos e4, allB_ff (P := dnB M1) n hi (by unfold dnB; simp [e4])]; rfl
          · left
            rw [if_neg e4, nI_1]
            exact ⟨_, ⟨rfl, by rw [allB_s, h2]; unfold dnB; simp [e2, e4]⟩, rfl⟩
      · rintro _ K ⟨rfl, h2⟩
        rw [eBX9_done_29]
        dsimp only
        rw [(Inv_n l3).2.2.1, if_pos (le_nI n (by omega)), h2]; rfl
    · rw [eFX10_done, a2, Option.bind_some, if_pos rfl, l4, Option.bind_some]
      refine lp_up (fun i (q : Int32 × Int32 × Mm) => q = (if allB (dnB M1) i then 1 else 0, nI i, M2)) (fun o => o = some (if allB (dnB M1) n then 1 else 0, M2)) n N _ rfl (by omega) ?_ ?_
      · rintro i _ K hi rfl
        left
        refine ⟨_, rfl, ?_⟩
        rw [eBX10_done_18]
        dsimp only
        rw [(Inv_n l6).2.2.2.2.1, if_neg (lt_nI hi (by omega)), nI_1, allB_s]
        cases hb : allB (dnB M1) i with
        | false => rw [if_pos (by rfl)]; rfl
        | true =>
          rw [if_neg (by decide), l11 i hi, Option.bind_some]
          by_cases e2 : stF M1 i = 2
          · rw [if_pos e2]
            have : dnB M1 i = false := by unfold dnB; simp [e2]
            rw [this]; rfl
          · rw [if_neg e2, Option.bind_some]
            by_cases e4 : stF M1 i = 4
            · rw [if_pos e4]
              have : dnB M1 i = false := by unfold dnB; simp [e4]
              rw [this]; rfl
            · rw [if_neg e4]
              have : dnB M1 i = true := by unfold dnB; simp [e2, e4]
              rw [this]; rfl
      · rintro _ K rfl
        rw [eBX10_done_18]
        dsimp only
        rw [(Inv_n l6).2.2.2.2.1, if_pos (le_nI n (by omega))]
        cases allB (dnB M1) n
        · rfl
        · rfl
  · refine CallP_same (-1) h ?_ ?_
    · rw [eFX9_done, a1, Option.bind_some, if_pos rfl]
    · rw [eFX10_done, a2, Option.bind_some, if_neg (by decide)]
/-! how many hang on a field -/
theorem cnt_step {P : Nat → Bool} {i : Nat} {b : Bool} (h : P i = b) : nI (cntB P i) + (if b then 1 else 0) = nI (cntB P (i + 1)) := by
  have hs : cntB P (i + 1) = cntB P i + (if P i then 1 else 0) := rfl
  rw [hs, h]
  cases b
  · exact Int32.add_zero _
  · exact nI_1 _
theorem hangersOn_run {N n f : Nat} {M : Mm} (hN : 100 < N) (hn : n ≤ 12) (hf : f < 12) (hc : M.1 2 6 = nI n) : FX0_hangersOn N (nI f) M = some (nI (cntB (fun g => bt (M.1 20 g) f) n)) := by
  rw [eFX0_hangersOn]
  refine lp_up (fun i (q : Int32 × Int32 × Int32) => q = (nI f, nI (cntB (fun g => bt (M.1 20 g) f) i), nI i)) (fun o => o = some (nI (cntB (fun g => bt (M.1 20 g) f) n))) n N _ rfl (by omega) ?_ ?_
  · rintro i _ K hi rfl
    left
    refine ⟨_, rfl, ?_⟩
    rw [eBX0_hangersOn_4]
    dsimp only
    rw [hc, if_neg (lt_nI hi (by omega)), rdI_nI (by omega) (by decide), Option.bind_some, hasBit_run _ (by omega), Option.bind_some, truth_01, Option.bind_some, nI_1, cnt_step (P := fun g => bt (M.1 20 g) f) rfl]
  · rintro _ K rfl
    rw [eBX0_hangersOn_4]
    dsimp only
    rw [hc, if_pos (le_nI n (by omega))]
theorem followers_run {N n f : Nat} {M : Mm} {H : Nat → Int32} (hN : 100 < N) (hn : n ≤ 12) (hf : f < 12) (hc : M.1 69 0 = nI n) (hH : ∀ g, g < n → M.1 79 g = H g) : FX10_followers N (nI f) M = some (nI (cntB (fun g => bt (H g) f) n)) := by
  rw [eFX10_followers]
  refine lp_up (fun i (q : Int32 × Int32 × Int32) => q = (nI f, nI (cntB (fun g => bt (H g) f) i), nI i)) (fun o => o = some (nI (cntB (fun g => bt (H g) f) n))) n N _ rfl (by omega) ?_ ?_
  · rintro i _ K hi rfl
    left
    refine ⟨_, rfl, ?_⟩
    rw [eBX10_followers_4]
    dsimp only
    rw [hc, if_neg (lt_nI hi (by omega)), rdI_nI (by omega) (by decide), Option.bind_some, hH i hi, b_get _ (by omega), nI_1, cnt_step (P := fun g => bt (H g) f) rfl]
  · rintro _ K rfl
    rw [eBX10_followers_4]
    dsimp only
    rw [hc, if_pos (le_nI n (by omega))]
theorem c_hangs {N n np ns : Nat} {x y : Int32} {M : Mm} (hN : 100 < N) (h : Inv n np ns M) : CallQ (FX9_hangs x y M) (FX10_hangs N x y M) := by
  obtain ⟨hn, hnp, c1, c2, c3, c4⟩ := Inv_n h
  rcases fldQ x hn with ⟨f, hf, rfl, a1, a2⟩ | ⟨a1, a2⟩
  · rcases fldQ y hn with ⟨g, hg, rfl, b1, b2⟩ | ⟨b1, b2⟩
    · obtain ⟨M2, l1, l2, l3, l4⟩ := arr_any hN h
      refine ⟨if bt (M.1 20 f) g then 1 else 0, M2, ?_, ?_, n, np, ns, l3⟩
      · rw [eFX9_hangs, a1 M c1, Option.bind_some, if_neg (by decide), b1 M c1, Option.bind_some, if_neg (by decide), rdI_nI (by omega) (by decide), Option.bind_some, hasBit_run _ (by omega), Option.bind_some, truth_01, Option.bind_some]
      · rw [eFX10_hangs, a2 M c3, Option.bind_some, if_pos rfl, b2 M c3, Option.bind_some, if_pos rfl, l1, Option.bind_some, rdI_nI (by omega) (by decide), Option.bind_some, l4 f hf, b_get _ (by omega)]
    · refine ⟨-1, M, ?_, ?_, n, np, ns, h⟩
      · rw [eFX9_hangs, a1 M c1, Option.bind_some, if_neg (by decide), b1 M c1, Option.bind_some, if_pos rfl]
      · rw [eFX10_hangs, a2 M c3, Option.bind_some, if_pos rfl, b2 M c3, Option.bind_some, if_neg (by decide)]
  · refine ⟨-1, M, ?_, ?_, n, np, ns, h⟩
    · rw [eFX9_hangs, a1 M c1, Option.bind_some, if_pos rfl]
    · rw [eFX10_hangs, a2 M c3, Option.bind_some, if_neg (by decide)]
theorem in36 {x : Int32} (h1 : ¬ x < 3) (h2 : ¬ 6 < x) : x = 3 ∨ x = 4 ∨ x = 5 ∨ x = 6 := by
  have e3 : (3 : Int32).toInt = 3 := by decide
  have e6 : (6 : Int32).toInt = 6 := by decide
  rw [Int32.lt_iff_toInt_lt, e3] at h1
  rw [Int32.lt_iff_toInt_lt, e6] at h2
  have h : x.toInt = 3 ∨ x.toInt = 4 ∨ x.toInt = 5 ∨ x.toInt = 6 := by omega
  rcases h with h | h | h | h
  · exact Or.inl (Int32.toInt_inj.mp (by rw [h]; decide))
  · exact Or.inr (Or.inl (Int32.toInt_inj.mp (by rw [h]; decide)))
  · exact Or.inr (Or.inr (Or.inl (Int32.toInt_inj.mp (by rw [h]; decide))))
  · exact Or.inr (Or.inr (Or.inr (Int32.toInt_inj.mp (by rw [h]; decide))))
theorem ix4s (f j : Nat) : (4 : Int32) * nI f + nI (j + 3) - 3 = nI (4 * f + j) := by
  rw [ix4, show (3 : Int32) = nI 3 from rfl, pk_sub (by omega), show 4 * f + (j + 3) - 3 = 4 * f + j by omega]
theorem c_about {N n np ns : Nat} {x y : Int32} {M : Mm} (hN : 100 < N) (h : Inv n np ns M) : CallQ (FX9_about N x y M) (FX10_about N x y M) := by
  obtain ⟨hn, hnp, c1, c2, c3, c4⟩ := Inv_n h
  obtain ⟨r3, r4, r5, _, _, _, _, rr⟩ := h.1.2.1
  rcases fldQ x hn with ⟨f, hf, rfl, a1, a2⟩ | ⟨a1, a2⟩
  · have hin : (y < 3 ∨ 6 < y) ∨ (y = 3 ∨ y = 4 ∨ y = 5 ∨ y = 6) := by
      by_cases q1 : y < 3
      · exact Or.inl (Or.inl q1)
      · by_cases q2 : 6 < y
        · exact Or.inl (Or.inr q2)
        · exact Or.inr (in36 q1 q2)
    rcases hin with hq | hq
    · have hi : FX10_in y 3 6 M = some 0 := by
        rw [eFX10_in]
        rcases hq with q | q
        · rw [if_pos q]
        · by_cases q1 : y < 3
          · rw [if_pos q1]
          · rw [if_neg q1, if_pos q]
      have hno : ¬ (y = 3 ∨ y = 4 ∨ y = 5 ∨ y = 6) := by
        rintro (e | e | e | e) <;> subst e <;> revert hq <;> decide
      obtain ⟨M2, l1, l2, l3, l4⟩ := arr_any hN h
      have w70 := l2.1 70 (by decide) (by decide) (by decide) (by decide) (by decide)
      have w71 := l2.1 71 (by decide) (by decide) (by decide) (by decide) (by decide)
      have w72 := l2.1 72 (by decide) (by decide) (by decide) (by decide) (by decide)
      by_cases e0 : y = 0
      · refine ⟨M.1 3 f, M2, ?_, ?_, n, np, ns, l3⟩
        · rw [eFX9_about, a1 M c1, Option.bind_some, if_neg (by decide), if_pos e0, rdI_nI (by omega) (by decide), Option.bind_some]
        · rw [eFX10_about, a2 M c3, Option.bind_some, if_pos rfl, hi, Option.bind_some, if_pos rfl, l1, Option.bind_some, if_pos e0, rdI_nI (by omega) (by decide), Option.bind_some, w70, r3]
      · by_cases e1 : y = 1
        · refine ⟨M.1 4 f, M2, ?_, ?_, n, np, ns, l3⟩
          · rw [eFX9_about, a1 M c1, Option.bind_some, if_neg (by decide), if_neg e0, if_pos e1, rdI_nI (by omega) (by decide), Option.bind_some]
          · rw [eFX10_about, a2 M c3, Option.bind_some, if_pos rfl, hi, Option.bind_some, if_pos rfl, l1, Option.bind_some, if_neg e0, if_pos e1, rdI_nI (by omega) (by decide), Option.bind_some, w71, r4]
        · by_cases e2 : y = 2
          · refine ⟨M.1 5 f, M2, ?_, ?_, n, np, ns, l3⟩
            · rw [eFX9_about, a1 M c1, Option.bind_some, if_neg (by decide), if_neg e0, if_neg e1, if_pos e2, rdI_nI (by omega) (by decide), Option.bind_some]
              rcases h.1.1.1.2.2.2.2.2.2 f hf with z | z
              · rw [z]; rfl
              · rw [z]; rfl
            · rw [eFX10_about, a2 M c3, Option.bind_some, if_pos rfl, hi, Option.bind_some, if_pos rfl, l1, Option.bind_some, if_neg e0, if_neg e1, if_pos e2, rdI_nI (by omega) (by decide), Option.bind_some, w72, r5]
          · by_cases e7 : y = 7
            · refine ⟨nI (cnt (M.1 20 f) 12), M2, ?_, ?_, n, np, ns, l3⟩
              · rw [eFX9_about, a1 M c1, Option.bind_some, if_neg (by decide), if_neg e0, if_neg e1, if_neg e2, if_neg hno, if_pos e7, rdI_nI (by omega) (by decide), Option.bind_some, bitCount_run (low_mono (low_H h.1.1.1 h.1.1.2.1 hf) hn), Option.bind_some]
              · rw [eFX10_about, a2 M c3, Option.bind_some, if_pos rfl, hi, Option.bind_some, if_pos rfl, l1, Option.bind_some, if_neg e0, if_neg e1, if_neg e2, if_pos e7, rdI_nI (by omega) (by decide), Option.bind_some, l4 f hf, count_run (by omega), Option.bind_some]
            · by_cases e8 : y = 8
              · refine ⟨nI (cntB (fun g => bt (M.1 20 g) f) n), M2, ?_, ?_, n, np, ns, l3⟩
                · rw [eFX9_about, a1 M c1, Option.bind_some, if_neg (by decide), if_neg e0, if_neg e1, if_neg e2, if_neg hno, if_neg e7, if_pos e8, hangersOn_run hN hn (by omega) c1, Option.bind_some]
                · rw [eFX10_about, a2 M c3, Option.bind_some, if_pos rfl, hi, Option.bind_some, if_pos rfl, l1, Option.bind_some, if_neg e0, if_neg e1, if_neg e2, if_neg e7, if_pos e8, followers_run hN hn (by omega) (Inv_n l3).2.2.2.2.1 l4, Option.bind_some]
              · refine ⟨-2, M2, ?_, ?_, n, np, ns, l3⟩
                · rw [eFX9_about, a1 M c1, Option.bind_some, if_neg (by decide), if_neg e0, if_neg e1, if_neg e2, if_neg hno, if_neg e7, if_neg e8]
                · rw [eFX10_about, a2 M c3, Option.bind_some, if_pos rfl, hi, Option.bind_some, if_pos rfl, l1, Option.bind_some, if_neg e0, if_neg e1, if_neg e2, if_neg e7, if_neg e8]
    · obtain ⟨j, hj, rfl⟩ : ∃ j, j < 4 ∧ y = nI (j + 3) := by
        rcases hq with e | e | e | e
        · exact ⟨0, by decide, e⟩
        · exact ⟨1, by decide, e⟩
        · exact ⟨2, by decide, e⟩
        · exact ⟨3, by decide, e⟩
      have hi : FX10_in (nI (j + 3)) 3 6 M = some 1 := by
        rw [eFX10_in, if_neg (show ¬ nI (j + 3) < 3 from nI_nlt (a := j + 3) (b := 3) (by omega) (by omega)), if_neg (show ¬ (6 : Int32) < nI (j + 3) from nI_nlt (a := 6) (b := j + 3) (by omega) (by omega))]
      have n0 : ¬ nI (j + 3) = 0 := fun e => by have := nI_inj (a := j + 3) (b := 0) (by omega) (by omega) e; omega
      have n1 : ¬ nI (j + 3) = 1 := fun e => by have := nI_inj (a := j + 3) (b := 1) (by omega) (by omega) e; omega
      have n2 : ¬ nI (j + 3) = 2 := fun e => by have := nI_inj (a := j + 3) (b := 2) (by omega) (by omega) e; omega
      have es : nI (j + 3) - 3 = nI j := by rw [show (3 : Int32) = nI 3 from rfl, pk_sub (by omega), show j + 3 - 3 = j by omega]
      refine ⟨M.1 (7 + f) j, M, ?_, ?_, n, np, ns, h⟩
      · rw [eFX9_about, a1 M c1, Option.bind_some, if_neg (by decide), if_neg n0, if_neg n1, if_neg n2, if_pos hq, ckR_nI (by omega) (by decide), Option.bind_some, es, rdI_nI hj (by decide), Option.bind_some]
      · rw [eFX10_about, a2 M c3, Option.bind_some, if_pos rfl, hi, Option.bind_some, if_neg (by decide), ix4s, rdI_nI (by omega) (by decide), Option.bind_some, rr f j (by omega) hj]
  · refine ⟨-1, M, ?_, ?_, n, np, ns, h⟩
    · rw [eFX9_about, a1 M c1, Option.bind_some, if_pos rfl]
    · rw [eFX10_about, a2 M c3, Option.bind_some, if_neg (by decide)]
theorem c_ring {n np ns : Nat} {x : Int32} {M : Mm} (h : Inv n np ns M) : ∃ r, FX9_ring x M = some r ∧ FX10_ring x M = some r := by
  obtain ⟨r, hr, k1, k2, k3⟩ := h.2.2.2.2.1
  rw [eFX9_ring, eFX10_ring, eFX10_in, k1, k2]
  rcases argQ (n := r) x (by omega) with ⟨i, hi, rfl, h1, h2, h3⟩ | h1 | ⟨h1, h2, h3⟩
  · refine ⟨M.1 31 i, ?_, ?_⟩
    · rw [if_neg h1, if_neg h2, rdI_nI (by omega) (by decide), Option.bind_some]
    · rw [if_neg h1, if_neg h3, Option.bind_some, if_neg (by decide), rdI_nI (by omega) (by decide), Option.bind_some, k3 i hi]
  · refine ⟨-1, ?_, ?_⟩
    · rw [if_pos h1]
    · rw [if_pos h1, Option.bind_some, if_pos rfl]
  · refine ⟨-1, ?_, ?_⟩
    · rw [if_neg h1, if_pos h2]
    · rw [if_neg h1, if_pos h3, Option.bind_some, if_pos rfl]
theorem c_odds {n np ns : Nat} {x : Int32} {M : Mm} (h : Inv n np ns M) : ∃ r, FX9_odds x M = some r ∧ FX10_odds x M = some r := by
  obtain ⟨r, hr, k1, k2, k3⟩ := h.2.2.2.2.2.1
  rw [eFX9_odds, eFX10_odds, eFX10_in, k1, k2]
  rcases argQ (n := r) x (by omega) with ⟨i, hi, rfl, h1, h2, h3⟩ | h1 | ⟨h1, h2, h3⟩
  · refine ⟨M.1 42 i, ?_, ?_⟩
    · rw [if_neg h1, if_neg h2, rdI_nI (by omega) (by decide), Option.bind_some]
    · rw [if_neg h1, if_neg h3, Option.bind_some, if_neg (by decide), rdI_nI (by omega) (by decide), Option.bind_some, k3 i hi]
  · refine ⟨-1, ?_, ?_⟩
    · rw [if_pos h1]
    · rw [if_pos h1, Option.bind_some, if_pos rfl]
  · refine ⟨-1, ?_, ?_⟩
    · rw [if_neg h1, if_pos h2]
    · rw [if_neg h1, if_pos h3, Option.bind_some, if_pos rfl]
theorem c_found {n np ns : Nat} {x : Int32} {M : Mm} (h : Inv n np ns M) : ∃ r, FX9_found x M = some r ∧ FX10_found x M = some r := by
  obtain ⟨hn, hnp, c1, c2, c3, c4⟩ := Inv_n h
  rcases fldQ x hn with ⟨f, hf, rfl, a1, a2⟩ | ⟨a1, a2⟩
  · refine ⟨M.1 62 f, ?_, ?_⟩
    · rw [eFX9_found, a1 M c1, Option.bind_some, if_neg (by decide), rdI_nI (by omega) (by decide), Option.bind_some]
    · rw [eFX10_found, a2 M c3, Option.bind_some, if_pos rfl, rdI_nI (by omega) (by decide), Option.bind_some, h.2.2.2.2.2.2.1.2 f (by omega)]
  · refine ⟨LO, ?_, ?_⟩
    · rw [eFX9_found, a1 M c1, Option.bind_some, if_pos rfl]; rfl
    · rw [eFX10_found, a2 M c3, Option.bind_some, if_neg (by decide)]; rfl
theorem c_tried {n np ns : Nat} {M : Mm} (h : Inv n np ns M) : ∃ r, FX9_tried M = some r ∧ FX10_tried M = some r := ⟨M.1 61 4, rfl, by rw [eFX10_tried, h.2.2.2.2.2.2.1.1]⟩
theorem c_trace {n np ns : Nat} {M : Mm} (h : Inv n np ns M) : ∃ r, FX9_trace M = some r ∧ FX10_trace M = some r := ⟨M.1 68 0, rfl, by rw [eFX10_trace]; exact congrArg some h.2.2.2.2.2.2.2⟩
