/-! ===== seal, open, sealed, told ===== -/
def stG (M : Mm) (V SH CN : Nat → Int32) (f : Nat) : Int32 := stV (SH f) (CN f) (M.1 (7 + f) 1) (M.1 (7 + f) 2) V
theorem dr_ok0 {n np d f : Nat} {M : Mm} (hc : coreI n np M) (hdr : drI n M) (hd : d < 4) (hf : f < n) : M.1 72 f = 0 → M.1 (33 + d) f = LO ∨ (¬ M.1 (33 + d) f < M.1 70 f ∧ ¬ M.1 71 f < M.1 (33 + d) f) := fun _ => by
  obtain ⟨r3, r4, _⟩ := hc.2.1
  have hn := hc.1.1.1
  rw [← r3, ← r4]
  rcases (hdr d f hd (by omega)).2 with e | ⟨_, _, a, b⟩
  · exact Or.inl e
  · exact Or.inr ⟨a, b⟩
theorem lay_sol0 {N n np d : Nat} {M : Mm} {V SH CN : Nat → Int32} (hN : 100 < N) (hd : d < 4) (hc : coreI n np M) (hr : refI n np M) (hdr : drI n M) (hsol : solR n np M (M.1 (33 + d)) V SH CN) : ∃ M2, FX10_layDraft N (nI d) M = some M2 ∧ sameW M M2 ∧ refI n np M2 ∧ ∀ f, f < n → FX10_statusOf (nI f) M2 = some (stG M V SH CN f) := by
  have hn := hc.1.1.1
  obtain ⟨M2, k1, k2, k3, k4, k5, k6⟩ := lay_run (N := N) (d := d) (M := M) (by omega) hd hc hr hsol (fun f hf => (hdr d f hd (by omega)).1.symm) (fun f hf => dr_ok0 hc hdr hd hf)
  have hc2 := coreI_W k2 hc
  refine ⟨M2, k1, k2, k3, fun f hf => ?_⟩
  have hs := status_r (V := V) (netR_of hc2) hf k5
  have rr := hc2.2.1.2.2.2.2.2.2.2
  rw [(k6 f hf).1, (k6 f hf).2, ← rr f 1 (by omega) (by decide), ← rr f 2 (by omega) (by decide), k2.1 (7 + f) (by omega) (by omega) (by omega) (by omega) (by omega)] at hs
  exact hs
theorem lay_sol {N n np ns d : Nat} {M : Mm} {V SH CN : Nat → Int32} (hN : 100 < N) (hd : d < 4) (h : Inv n np ns M) (hsol : solR n np M (M.1 (33 + d)) V SH CN) : ∃ M2, FX10_layDraft N (nI d) M = some M2 ∧ sameW M M2 ∧ Inv n np ns M2 ∧ ∀ f, f < n → FX10_statusOf (nI f) M2 = some (stG M V SH CN f) := by
  obtain ⟨M2, k1, k2, k3, k4⟩ := lay_sol0 hN hd h.1 h.2.1 h.2.2.1 hsol
  exact ⟨M2, k1, k2, Inv_Q (sameQ_W k2) k3 h, k4⟩
theorem statusR_cg {x : Int32} {M M' : Mm} (h : ∀ a, (a = 84 ∨ a = 73 ∨ a = 86 ∨ a = 87) → M'.1 a = M.1 a) : FX10_statusOf x M' = FX10_statusOf x M := by
  have r84 : ∀ i, rdI M' 84 12 i = rdI M 84 12 i := fun i => by unfold rdI; rw [h 84 (by omega)]
  have r86 : ∀ i, rdI M' 86 12 i = rdI M 86 12 i := fun i => by unfold rdI; rw [h 86 (by omega)]
  have r73 : ∀ i, rdI M' 73 48 i = rdI M 73 48 i := fun i => by unfold rdI; rw [h 73 (by omega)]
  have r87 : ∀ i, rdI M' 87 50 i = rdI M 87 50 i := fun i => by unfold rdI; rw [h 87 (by omega)]
  have so : ∀ v, FX10_isSo v M' = FX10_isSo v M := fun v => by rw [eFX10_isSo, eFX10_isSo, r87 v]
  rw [eFX10_statusOf, eFX10_statusOf]
  simp only [r84, r73, r86, r87, so]
theorem allB_0 {P : Nat → Bool} : allB P 0 = true := rfl
/-- does a seal hold -/
def agV (M : Mm) (s : Nat) (V SH CN : Nat → Int32) (f : Nat) : Bool := !bt (M.1 45 s) f || decide (stG M V SH CN f = M.1 (55 + s) f)
def HoldR (n np : Nat) (M : Mm) (s : Nat) (r : Int32) : Prop := (r = 0 ∨ r = 1) ∧ ((¬ M.1 46 s = 0 ∧ r = 0) ∨ (M.1 46 s = 0 ∧ ∃ d V SH CN, d < 4 ∧ M.1 44 s = nI d ∧ solR n np M (M.1 (33 + d)) V SH CN ∧ r = if allB (agV M s V SH CN) n then 1 else 0))
theorem HoldR_Q {n np s : Nat} {r : Int32} {M M' : Mm} (hs : s < 6) (h : sameQ M M') (hn : n ≤ 12) (hr : HoldR n np M s r) : HoldR n np M' s r := by
  have hx : ∀ a, (a < 38 ∨ (40 < a ∧ a < 69) ∨ (69 < a ∧ a < 78)) → M'.1 a = M.1 a := fun a ha => h.1 a (by omega) (by omega) (by omega) (by omega) (by omega) (by omega)
  obtain ⟨h0, h1⟩ := hr
  refine ⟨h0, ?_⟩
  rw [hx 46 (by omega), hx 44 (by omega)]
  rcases h1 with h1 | ⟨e, d, V, SH, CN, hd, e2, e3, e4⟩
  · exact Or.inl h1
  · refine Or.inr ⟨e, d, V, SH, CN, hd, e2, ?_, ?_⟩
    · rw [hx (33 + d) (by omega)]
      exact solR_same (fun a a1 a2 => hx a (by omega)) e3
    · rw [e4]
      have hag : ∀ k, k < n → agV M' s V SH CN k = agV M s V SH CN k := fun k hk => by
        unfold agV stG
        rw [hx 45 (by omega), hx (55 + s) (by omega), hx (7 + k) (by omega)]
      have : ∀ k, k ≤ n → allB (agV M' s V SH CN) k = allB (agV M s V SH CN) k := by
        intro k
        induction k with
        | zero => intro _; rw [allB_0, allB_0]
        | succ k ih =>
          intro hk
          rw [allB_s, allB_s, ih (by omega), hag k (by omega)]
      rw [this n (Nat.le_refl n)]
theorem hold_c {N n np ns s : Nat} {M : Mm} (hN : 100 < N) (h : Inv n np ns M) (hs : s < ns) : ∃ r M1, FX9_isHolding N (nI s) M = some (r, M1) ∧ sameS 37 M M1 ∧ HoldR n np M s r := by
  obtain ⟨hn, hnp, c1, c2, c3, c4⟩ := Inv_n h
  obtain ⟨h6, k1, k2, k3, k4⟩ := h.2.2.2.1
  rw [eFX9_isHolding, rdI_nI (by omega) (by decide), Option.bind_some]
  by_cases hb : M.1 46 s = 0
  · obtain ⟨⟨d, hd, e44⟩, _, _, _⟩ := k4 s hs
    obtain ⟨M1, M2, l1, l2, l3, l4, l5, l6, l7, l8, l9, l10, l11⟩ := look_lay hN hd h
    obtain ⟨c, hst⟩ := h.1.1.2.2
    obtain ⟨M1', q1, q2, q3, q4⟩ := look_run (N := N) (s := 37) (k := 33 + d) hN (Or.inl rfl) (Or.inl ⟨by omega, by omega⟩) h.1.1.1 hst.1
    have eM : M1' = M1 := by rw [l1] at q1; exact (Option.some.inj q1).symm
    subst eM
    have hsol := solR_same (M' := M) (fun a h1 h2 => (l2.2 a (by omega) (by omega) (by omega)).symm) (sol_of (s := 37) (k := 33 + d) l3.1 q3 q4)
    rw [l2.2 (33 + d) (by omega) (by omega) (by omega)] at hsol
    have hx : ∀ a, (a < 38 ∨ 40 < a) → M1'.1 a = M.1 a := fun a ha => l2.2 a (by omega) (by omega) (by omega)
    have hst : ∀ f, f < n → stF M1' f = stG M (M1'.1 38) (M1'.1 39) (M1'.1 40) f := fun f hf => by
      unfold stF stG
      rw [hx (7 + f) (by omega)]
    have hag : FX5_agrees N (nI s) M1' = some (if allB (agV M s (M1'.1 38) (M1'.1 39) (M1'.1 40)) n then 1 else 0) := by
      rw [eFX5_agrees]
      refine lp_up (fun i (q : Int32 × Int32) => q = (nI s, nI i) ∧ allB (agV M s (M1'.1 38) (M1'.1 39) (M1'.1 40)) i = true) (fun o => o = some (if allB (agV M s (M1'.1 38) (M1'.1 39) (M1'.1 40)) n then 1 else 0)) n N _ ⟨rfl, rfl⟩ (by omega) ?_ ?_
      · rintro i _ K hi ⟨rfl, h2⟩
        rw [eBX5_agrees_3]
        dsimp only
        rw [hx 2 (by omega), c1, if_neg (lt_nI hi (by omega)), rdI_nI (by omega) (by decide), Option.bind_some, hx 45 (by omega), hasBit_run _ (by omega), Option.bind_some, nI_1]
        cases hbt : bt (M.1 45 s) i with
        | false =>
          left
          rw [if_pos (by rfl)]
          refine ⟨_, ⟨rfl, ?_⟩, rfl⟩
          rw [allB_s, h2]; unfold agV; simp [hbt]
        | true =>
          rw [if_neg (by decide), l10 i hi, Option.bind_some, ckR_nI (by omega) (by decide), Option.bind_some, rdI_nI (by omega) (by decide), Option.bind_some, hst i hi, hx (55 + s) (by omega)]
          by_cases e : stG M (M1'.1 38) (M1'.1 39) (M1'.1 40) i = M.1 (55 + s) i
          · left
            rw [if_pos e]
            refine ⟨_, ⟨rfl, ?_⟩, rfl⟩
            rw [allB_s, h2]; unfold agV; simp [e]
          · right
            rw [if_neg e, allB_ff (P := agV M s (M1'.1 38) (M1'.1 39) (M1'.1 40)) n hi (by unfold agV; simp [hbt, e])]; rfl
      · rintro _ K ⟨rfl, h2⟩
        rw [eBX5_agrees_3]
        dsimp only
        rw [hx 2 (by omega), c1, if_pos (le_nI n (by omega)), h2]; rfl
    refine ⟨if allB (agV M s (M1'.1 38) (M1'.1 39) (M1'.1 40)) n then 1 else 0, M1', ?_, l2, ?_, Or.inr ⟨hb, d, M1'.1 38, M1'.1 39, M1'.1 40, hd, e44, hsol, rfl⟩⟩
    · rw [if_pos hb, rdI_nI (by omega) (by decide), Option.bind_some, e44, ckR_nI hd (by decide), Option.bind_some, l1, Option.bind_some, hag, Option.bind_some]
      cases allB (agV M s (M1'.1 38) (M1'.1 39) (M1'.1 40)) n <;> rfl
    · cases allB (agV M s (M1'.1 38) (M1'.1 39) (M1'.1 40)) n
      · exact Or.inl rfl
      · exact Or.inr rfl
  · exact ⟨0, M, by rw [if_neg hb], sameS_rf 37 M, Or.inl rfl, Or.inl ⟨hb, rfl⟩⟩
theorem hold_r {N n np ns s : Nat} {r : Int32} {M : Mm} (hN : 100 < N) (h : Inv n np ns M) (hs : s < ns) (hr : HoldR n np M s r) : ∃ M1, FX10_sealHolds N (nI s) M = some (r, M1) ∧ sameW M M1 ∧ Inv n np ns M1 := by
  obtain ⟨hn, hnp, c1, c2, c3, c4⟩ := Inv_n h
  obtain ⟨h6, k1, k2, k3, k4⟩ := h.2.2.2.1
  rw [eFX10_sealHolds, rdI_nI (by omega) (by decide), Option.bind_some, ← (k3 s (by omega)).1]
  obtain ⟨h01, ⟨hb, e⟩ | ⟨hb, d, V, SH, CN, hd, e44, hsol, hrr⟩⟩ := hr
  · rw [if_neg hb, e]
    exact ⟨M, rfl, sameW_rf M, h⟩
  · obtain ⟨_, e90, e91, e9⟩ := k4 s hs
    obtain ⟨M2, l1, l2, l3, l4⟩ := lay_sol hN hd h hsol
    rw [if_pos hb, rdI_nI (by omega) (by decide), Option.bind_some, e90, e44, l1, Option.bind_some]
    refine ⟨M2, ?_, l2, l3⟩
    rw [hrr]
    have w91 := l2.1 91 (by decide) (by decide) (by decide) (by decide) (by decide)
    have w94 := l2.1 94 (by decide) (by decide) (by decide) (by decide) (by decide)
    refine lp_up (fun i (q : Int32 × Int32 × Int32 × Mm) => q = (nI s, if allB (agV M s V SH CN) i then 1 else 0, nI i, M2)) (fun o => o = some (if allB (agV M s V SH CN) n then 1 else 0, M2)) n N _ rfl (by omega) ?_ ?_
    · rintro i _ K hi rfl
      left
      refine ⟨_, rfl, ?_⟩
      rw [eBX10_sealHolds_25]
      dsimp only
      rw [(Inv_n l3).2.2.2.2.1, if_neg (lt_nI hi (by omega)), nI_1, allB_s]
      cases hall : allB (agV M s V SH CN) i with
      | false => rw [if_pos (by rfl)]; rfl
      | true =>
        rw [if_neg (by decide), rdI_nI (by omega) (by decide), Option.bind_some, w91, e91]
        cases hbt : bt (M.1 45 s) i with
        | false =>
          rw [if_pos (by rw [b_get _ (by omega), hbt]; rfl)]
          have : agV M s V SH CN i = true := by unfold agV; simp [hbt]
          rw [this]; rfl
        | true =>
          rw [if_neg (by rw [b_get _ (by omega), hbt]; decide), l4 i hi, Option.bind_some, ix12, rdI_nI (by omega) (by decide), Option.bind_some, w94, (e9 i (by omega)).2]
          by_cases e : stG M V SH CN i = M.1 (55 + s) i
          · rw [if_pos e]
            have : agV M s V SH CN i = true := by unfold agV; simp [e]
            rw [this]; rfl
          · rw [if_neg e]
            have : agV M s V SH CN i = false := by unfold agV; simp [hbt, e]
            rw [this]; rfl
    · rintro _ K rfl
      rw [eBX10_sealHolds_25]
      dsimp only
      rw [(Inv_n l3).2.2.2.2.1, if_pos (le_nI n (by omega))]
      cases allB (agV M s V SH CN) n <;> rfl
