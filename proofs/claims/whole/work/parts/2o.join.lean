/-! ===== copy, join ===== -/
def dfB (M : Mm) (a d f : Nat) : Bool := decide (¬ M.1 (33 + d) f = M.1 (33 + a) f)
theorem copy_c {N n a d : Nat} {M : Mm} (hN : 100 < N) (hn : n ≤ 12) (ha : a < 4) (hd : d < 4) (hc : M.1 2 6 = nI n) : ∃ M1, lp (BX9_copy_34 N) N (nI a, nI d, 0, 0, M) = some (nI (cntB (dfB M a d) n), M1) ∧ sameX (33 + d) M M1 ∧ ∀ f, M1.1 (33 + d) f = if f < n then M.1 (33 + a) f else M.1 (33 + d) f := by
  refine lp_up (fun i (q : Int32 × Int32 × Int32 × Int32 × Mm) => q.1 = nI a ∧ q.2.1 = nI d ∧ q.2.2.1 = nI (cntB (dfB M a d) i) ∧ q.2.2.2.1 = nI i ∧ sameX (33 + d) M q.2.2.2.2 ∧ ∀ f, q.2.2.2.2.1 (33 + d) f = if f < i then M.1 (33 + a) f else M.1 (33 + d) f) (fun o => ∃ M1 : Mm, o = some (nI (cntB (dfB M a d) n), M1) ∧ sameX (33 + d) M M1 ∧ ∀ f, M1.1 (33 + d) f = if f < n then M.1 (33 + a) f else M.1 (33 + d) f) n N _ ⟨rfl, rfl, rfl, rfl, sameX_rf _ M, fun f => by rw [if_neg (Nat.not_lt_zero _)]⟩ (by omega) ?_ ?_
  · rintro i ⟨x1, x2, x3, x4, Q⟩ K hi ⟨e1, e2, e3, e4, s1, g1⟩
    dsimp only at e1 e2 e3 e4 s1 g1
    subst e1
    subst e2
    subst e3
    subst e4
    have qd : Q.1 (33 + d) i = M.1 (33 + d) i := by rw [g1 i, if_neg (Nat.lt_irrefl i)]
    have qa : Q.1 (33 + a) i = M.1 (33 + a) i := by
      by_cases e : a = d
      · rw [e]; exact qd
      · rw [s1.2 (33 + a) (by omega)]
    left
    rw [eBX9_copy_34]
    dsimp only
    rw [s1.2 2 (by omega), hc, if_neg (lt_nI hi (by omega)), ckR_nI hd (by decide), Option.bind_some, rdI_nI (by omega) (by decide), Option.bind_some, ckR_nI ha (by decide), Option.bind_some, rdI_nI (by omega) (by decide), Option.bind_some, qd, qa, nI_1]
    by_cases e : M.1 (33 + d) i = M.1 (33 + a) i
    · rw [if_pos e]
      refine ⟨(nI a, nI d, nI (cntB (dfB M a d) (i + 1)), nI (i + 1), Q), ⟨rfl, rfl, rfl, rfl, s1, fun f => ?_⟩, ?_⟩
      · dsimp only
        rw [g1 f]
        by_cases e2 : f = i
        · subst e2
          rw [if_neg (Nat.lt_irrefl f), if_pos (by omega)]; exact e
        · by_cases e3 : f < i
          · rw [if_pos e3, if_pos (by omega)]
          · rw [if_neg e3, if_neg (by omega)]
      · have : dfB M a d i = false := by unfold dfB; simp [e]
        rw [cntB_f this]
    · rw [if_neg e, Option.bind_some, Option.bind_some, rdI_nI (by omega) (by decide), Option.bind_some, qa, wrI_nI (by omega) (by decide), Option.bind_some, nI_1]
      refine ⟨(nI a, nI d, nI (cntB (dfB M a d) (i + 1)), nI (i + 1), up1 Q (33 + d) i (M.1 (33 + a) i)), ⟨rfl, rfl, rfl, rfl, sameX_up s1, fun f => ?_⟩, ?_⟩
      · dsimp only
        rw [up1_same]
        by_cases e2 : f = i
        · subst e2
          rw [if_pos rfl, if_pos (by omega)]
        · rw [if_neg e2, g1 f]
          by_cases e3 : f < i
          · rw [if_pos e3, if_pos (by omega)]
          · rw [if_neg e3, if_neg (by omega)]
      · have : dfB M a d i = true := by unfold dfB; simp [e]
        rw [cntB_t this]
  · rintro ⟨x1, x2, x3, x4, Q⟩ K ⟨e1, e2, e3, e4, s1, g1⟩
    dsimp only at e1 e2 e3 e4 s1 g1
    subst e1
    subst e2
    subst e3
    subst e4
    rw [eBX9_copy_34]
    dsimp only
    rw [s1.2 2 (by omega), hc, if_pos (le_nI n (by omega))]
    exact ⟨Q, rfl, s1, g1⟩
theorem copy_r {N n a d : Nat} {M : Mm} {P : Nat → Bool} (hN : 100 < N) (hn : n ≤ 12) (ha : a < 4) (hd : d < 4) (hc : M.1 69 0 = nI n) (hP : ∀ f, f < n → P f = decide (¬ M.1 88 (12 * d + f) = M.1 88 (12 * a + f))) : ∃ M1, lp (BX10_copy_32 N) N (nI a, nI d, 0, 0, M) = some (nI (cntB P n), M1) ∧ sameX 88 M M1 ∧ ∀ j, M1.1 88 j = if 12 * d ≤ j ∧ j < 12 * d + n then M.1 88 (12 * a + (j - 12 * d)) else M.1 88 j := by
  refine lp_up (fun i (q : Int32 × Int32 × Int32 × Int32 × Mm) => q.1 = nI a ∧ q.2.1 = nI d ∧ q.2.2.1 = nI (cntB P i) ∧ q.2.2.2.1 = nI i ∧ sameX 88 M q.2.2.2.2 ∧ ∀ j, q.2.2.2.2.1 88 j = if 12 * d ≤ j ∧ j < 12 * d + i then M.1 88 (12 * a + (j - 12 * d)) else M.1 88 j) (fun o => ∃ M1 : Mm, o = some (nI (cntB P n), M1) ∧ sameX 88 M M1 ∧ ∀ j, M1.1 88 j = if 12 * d ≤ j ∧ j < 12 * d + n then M.1 88 (12 * a + (j - 12 * d)) else M.1 88 j) n N _ ⟨rfl, rfl, rfl, rfl, sameX_rf _ M, fun j => by rw [if_neg (by omega)]⟩ (by omega) ?_ ?_
  · rintro i ⟨x1, x2, x3, x4, Q⟩ K hi ⟨e1, e2, e3, e4, s1, g1⟩
    dsimp only at e1 e2 e3 e4 s1 g1
    subst e1
    subst e2
    subst e3
    subst e4
    have qd : Q.1 88 (12 * d + i) = M.1 88 (12 * d + i) := by rw [g1, if_neg (by omega)]
    have qa : Q.1 88 (12 * a + i) = M.1 88 (12 * a + i) := by rw [g1, if_neg (by omega)]
    have fin : ∀ (b : Int32), nI (cntB P i) + b = nI (cntB P (i + 1)) → ∃ a' : Int32 × Int32 × Int32 × Int32 × Mm, (a'.1 = nI a ∧ a'.2.1 = nI d ∧ a'.2.2.1 = nI (cntB P (i + 1)) ∧ a'.2.2.2.1 = nI (i + 1) ∧ sameX 88 M a'.2.2.2.2 ∧ ∀ j, a'.2.2.2.2.1 88 j = if 12 * d ≤ j ∧ j < 12 * d + (i + 1) then M.1 88 (12 * a + (j - 12 * d)) else M.1 88 j) ∧ BX10_copy_74 N K (nI a) (nI d) (nI i) (nI (cntB P i)) b Q = K a' := by
      intro b hb
      refine ⟨(nI a, nI d, nI (cntB P (i + 1)), nI (i + 1), up1 Q 88 (12 * d + i) (M.1 88 (12 * a + i))), ⟨rfl, rfl, rfl, rfl, sameX_up s1, fun j => ?_⟩, ?_⟩
      · dsimp only
        rw [up1_same]
        by_cases e : j = 12 * d + i
        · subst e
          rw [if_pos rfl, if_pos (by omega), show 12 * a + (12 * d + i - 12 * d) = 12 * a + i by omega]
        · rw [if_neg e, g1 j]
          by_cases e3 : 12 * d ≤ j ∧ j < 12 * d + i
          · rw [if_pos e3, if_pos (by omega)]
          · rw [if_neg e3, if_neg (by omega)]
      · rw [eBX10_copy_74, ix12, ix12, rdI_nI (by omega) (by decide), Option.bind_some, qa, wrI_nI (by omega) (by decide), Option.bind_some, nI_1, hb]
    left
    rw [eBX10_copy_32]
    dsimp only
    rw [s1.2 69 (by decide), hc, if_neg (lt_nI hi (by omega)), ix12, ix12, rdI_nI (by omega) (by decide), Option.bind_some, rdI_nI (by omega) (by decide), Option.bind_some, qd, qa]
    by_cases e : M.1 88 (12 * a + i) = M.1 88 (12 * d + i)
    · rw [if_pos e]
      refine fin 0 ?_
      have : P i = false := by rw [hP i hi]; simp [e]
      rw [cntB_f this]; exact Int32.add_zero _
    · rw [if_neg e]
      refine fin 1 ?_
      have : P i = true := by rw [hP i hi]; simp; exact fun q => e q.symm
      rw [cntB_t this]; exact nI_1 _
  · rintro ⟨x1, x2, x3, x4, Q⟩ K ⟨e1, e2, e3, e4, s1, g1⟩
    dsimp only at e1 e2 e3 e4 s1 g1
    subst e1
    subst e2
    subst e3
    subst e4
    rw [eBX10_copy_32]
    dsimp only
    rw [s1.2 69 (by decide), hc, if_pos (le_nI n (by omega))]
    exact ⟨Q, rfl, s1, g1⟩
theorem c_copy {N n np ns : Nat} {x y : Int32} {M : Mm} (hN : 100 < N) (h : Inv n np ns M) : CallP (FX9_copy N x y M) (FX10_copy N x y) := by
  obtain ⟨hn, hnp, c1, c2, c3, c4⟩ := Inv_n h
  rcases drfQ x with ⟨a, ha, rfl, a1, a2⟩ | ⟨a1, a2⟩
  · rcases drfQ y with ⟨d, hd, rfl, b1, b2⟩ | ⟨b1, b2⟩
    · obtain ⟨m, m1, ⟨m2, m3⟩ | ⟨m2, m3⟩⟩ := lockD (d := d) hN h
      · obtain ⟨M1, k1, k2, k3⟩ := copy_c (a := a) (d := d) hN hn ha hd c1
        have x88 : M1.1 88 = M.1 88 := k2.2 88 (by omega)
        have x69 : M1.1 69 = M.1 69 := k2.2 69 (by omega)
        obtain ⟨M2, j1, j2, j3⟩ := copy_r (P := dfB M a d) (M := M1) hN hn ha hd (by rw [x69]; exact c3) (fun f hf => by
          unfold dfB
          rw [x88, ← (h.2.2.1 d f hd (by omega)).1, ← (h.2.2.1 a f ha (by omega)).1])
        rw [x88] at j3
        have xx : ∀ z, z ≠ 33 + d → z ≠ 88 → M2.1 z = M.1 z := fun z h1 h2 => (j2.2 z h2).trans (k2.2 z h1)
        have hI : Inv n np ns M2 := by
          refine Inv_J (fun z h1 h2 _ _ _ _ => xx z (by omega) h2) (fun j _ => by rw [xx 69 (by omega) (by decide)]) (j2.1.trans k2.1) (fun d2 f2 hd2 hf2 => ?_) (odI_same (fun z hz => xx z (by omega) (by omega)) (by rw [xx 69 (by omega) (by decide)]) h.2.2.2.2.2.1) h
          rw [xx 3 (by omega) (by decide), xx 4 (by omega) (by decide), xx 5 (by omega) (by decide), j3]
          have h0 := h.2.2.1 d2 f2 hd2 hf2
          have h1 := h.2.2.1 a f2 ha hf2
          by_cases e : d2 = d
          · subst e
            rw [j2.2 (33 + d2) (by omega), k3 f2]
            by_cases e2 : f2 < n
            · rw [if_pos e2, if_pos (by omega), show 12 * a + (12 * d2 + f2 - 12 * d2) = 12 * a + f2 by omega]
              exact h1
            · rw [if_neg e2, if_neg (by omega)]; exact h0
          · rw [xx (33 + d2) (by omega) (by omega), if_neg (by omega)]; exact h0
        refine ⟨nI (cntB (dfB M a d) n), M1, M2, ?_, ?_, n, np, ns, hI⟩
        · rw [eFX9_copy, a1, Option.bind_some, if_neg (by decide), b1, Option.bind_some, if_neg (by decide), m1, Option.bind_some, if_pos m2, k1]
        · rw [eFX10_copy, a2, Option.bind_some, if_pos rfl, b2, Option.bind_some, if_pos rfl, hasLocked_cg (M := M) (fun z hz => k2.2 z (by omega)), m3, Option.bind_some, if_pos rfl, j1]
      · refine CallP_same (-3) h ?_ ?_
        · rw [eFX9_copy, a1, Option.bind_some, if_neg (by decide), b1, Option.bind_some, if_neg (by decide), m1, Option.bind_some, if_neg m2]
        · rw [eFX10_copy, a2, Option.bind_some, if_pos rfl, b2, Option.bind_some, if_pos rfl, m3, Option.bind_some, if_neg (by decide)]
    · refine CallP_same (-1) h ?_ ?_
      · rw [eFX9_copy, a1, Option.bind_some, if_neg (by decide), b1, Option.bind_some, if_pos rfl]
      · rw [eFX10_copy, a2, Option.bind_some, if_pos rfl, b2, Option.bind_some, if_neg (by decide)]
  · refine CallP_same (-1) h ?_ ?_
    · rw [eFX9_copy, a1, Option.bind_some, if_pos rfl]
    · rw [eFX10_copy, a2, Option.bind_some, if_neg (by decide)]
/-! join -/
def jnV (w x y : Int32) : Int32 := if x = y then x else if x = w then y else x
def odB (w x y : Int32) : Bool := decide (¬ x = y ∧ ¬ x = w ∧ ¬ y = w)
theorem cntB_ltP {P : Nat → Bool} {f : Nat} (hp : P f = true) : ∀ i, f < i → cntB P f < cntB P i
  | 0, h => absurd h (Nat.not_lt_zero _)
  | i + 1, h => by
    by_cases e : f = i
    · subst e; rw [cntB_t hp]; omega
    · have := cntB_ltP hp i (by omega)
      cases hi : P i with
      | false => rw [cntB_f hi]; exact this
      | true => rw [cntB_t hi]; omega
def odP (M : Mm) (a b c f : Nat) : Bool := odB (M.1 (33 + a) f) (M.1 (33 + b) f) (M.1 (33 + c) f)
def jnF (M : Mm) (a b c f : Nat) : Int32 := jnV (M.1 (33 + a) f) (M.1 (33 + b) f) (M.1 (33 + c) f)
theorem joinOne_run {f k : Nat} {w x y : Int32} {M : Mm} (hk : M.1 41 1 = nI k) (hlt : k < 12) : FX1_joinOne (nI f) w x y M = some (jnV w x y, if odB w x y then up1 (up1 M 42 k (nI f)) 41 1 (nI (k + 1)) else M) := by
  rw [eFX1_joinOne]
  unfold jnV odB
  by_cases e1 : x = y
  · simp [e1]
  · rw [if_neg e1, if_neg e1]
    by_cases e2 : y = w
    · have e3 : ¬ x = w := fun q => e1 (q.trans e2.symm)
      rw [if_pos e2, if_neg e3]
      simp [e2]
    · rw [if_neg e2]
      by_cases e3 : x = w
      · rw [if_pos e3, if_pos e3]; simp [e3]
      · rw [if_neg e3, if_neg e3, hk, if_neg (show ¬ (12 : Int32) ≤ nI k from lt_nI (n := 12) hlt (by decide)), wrI_nI hlt (by decide), Option.bind_some]
        have e41 : (up1 M 42 k (nI f)).1 41 1 = nI k := by rw [up1_ne (by decide)]; exact hk
        show ((some (up1 (up1 M 42 k (nI f)) 41 1 ((up1 M 42 k (nI f)).1 41 1 + 1))).bind fun M7 => some (x, M7)) = _
        rw [e41, nI_1, Option.bind_some, if_pos (by simp [e1, e2, e3])]
theorem join_c {N n a b c d : Nat} {M : Mm} (hN : 100 < N) (hn : n ≤ 12) (ha : a < 4) (hb : b < 4) (hcc : c < 4) (hd : d < 4) (hc : M.1 2 6 = nI n) (h0 : M.1 41 1 = nI 0) : ∃ M1, lp (BX9_join_57 N) N (nI a, nI b, nI c, nI d, 0, M) = some (nI (cntB (odP M a b c) n), M1) ∧ M1.2 = M.2 ∧ (∀ z, z ≠ 33 + d → z ≠ 41 → z ≠ 42 → M1.1 z = M.1 z) ∧ M1.1 41 1 = nI (cntB (odP M a b c) n) ∧ (∀ f, f < n → odP M a b c f = true → M1.1 42 (cntB (odP M a b c) f) = nI f) ∧ ∀ f, M1.1 (33 + d) f = if f < n then jnF M a b c f else M.1 (33 + d) f := by
  refine lp_up (fun i (q : Int32 × Int32 × Int32 × Int32 × Int32 × Mm) => q.1 = nI a ∧ q.2.1 = nI b ∧ q.2.2.1 = nI c ∧ q.2.2.2.1 = nI d ∧ q.2.2.2.2.1 = nI i ∧ q.2.2.2.2.2.2 = M.2 ∧ (∀ z, z ≠ 33 + d → z ≠ 41 → z ≠ 42 → q.2.2.2.2.2.1 z = M.1 z) ∧ q.2.2.2.2.2.1 41 1 = nI (cntB (odP M a b c) i) ∧ (∀ f, f < i → odP M a b c f = true → q.2.2.2.2.2.1 42 (cntB (odP M a b c) f) = nI f) ∧ ∀ f, q.2.2.2.2.2.1 (33 + d) f = if f < i then jnF M a b c f else M.1 (33 + d) f) (fun o => ∃ M1 : Mm, o = some (nI (cntB (odP M a b c) n), M1) ∧ M1.2 = M.2 ∧ (∀ z, z ≠ 33 + d → z ≠ 41 → z ≠ 42 → M1.1 z = M.1 z) ∧ M1.1 41 1 = nI (cntB (odP M a b c) n) ∧ (∀ f, f < n → odP M a b c f = true → M1.1 42 (cntB (odP M a b c) f) = nI f) ∧ ∀ f, M1.1 (33 + d) f = if f < n then jnF M a b c f else M.1 (33 + d) f) n N _ ⟨rfl, rfl, rfl, rfl, rfl, rfl, fun _ _ _ _ => rfl, h0, fun f hf => absurd hf (Nat.not_lt_zero _), fun f => by rw [if_neg (Nat.not_lt_zero _)]⟩ (by omega) ?_ ?_
  · rintro i ⟨x1, x2, x3, x4, x5, Q⟩ K hi ⟨e1, e2, e3, e4, e5, s2, s1, g1, g2, g3⟩
    dsimp only at e1 e2 e3 e4 e5 s2 s1 g1 g2 g3
    subst e1
    subst e2
    subst e3
    subst e4
    subst e5
    have rd : ∀ z, z < 4 → Q.1 (33 + z) i = M.1 (33 + z) i := fun z hz => by
      by_cases e : z = d
      · subst e; rw [g3 i, if_neg (Nat.lt_irrefl i)]
      · rw [s1 (33 + z) (by omega) (by omega) (by omega)]
    have hle := cntB_le (odP M a b c) i
    left
    rw [eBX9_join_57]
    dsimp only
    rw [s1 2 (by omega) (by omega) (by omega), hc, if_neg (lt_nI hi (by omega)), ckR_nI hd (by decide), Option.bind_some, ckR_nI ha (by decide), Option.bind_some, rdI_nI (by omega) (by decide), Option.bind_some, ckR_nI hb (by decide), Option.bind_some, rdI_nI (by omega) (by decide), Option.bind_some, ckR_nI hcc (by decide), Option.bind_some, rdI_nI (by omega) (by decide), Option.bind_some, rd a ha, rd b hb, rd c hcc, joinOne_run g1 (by omega), Option.bind_some]
    dsimp only
    rw [wrI_nI (by omega) (by decide), Option.bind_some, nI_1]
    have hod : odB (M.1 (33 + a) i) (M.1 (33 + b) i) (M.1 (33 + c) i) = odP M a b c i := rfl
    rw [hod]
    cases hp : odP M a b c i with
    | false =>
      refine ⟨_, ⟨rfl, rfl, rfl, rfl, rfl, s2, fun z h1 h2 h3 => ?_, ?_, fun f hf hpf => ?_, fun f => ?_⟩, rfl⟩
      · dsimp only
        rw [up1_ne h1]; exact s1 z h1 h2 h3
      · dsimp only
        rw [up1_ne (by omega), if_neg (by decide), g1]
        rw [cntB_f hp]
      · dsimp only
        have hfi : f ≠ i := fun q => by subst q; rw [hp] at hpf; cases hpf
        rw [up1_ne (by omega), if_neg (by decide)]
        exact g2 f (by omega) hpf
      · dsimp only
        rw [up1_same, if_neg (show ¬ false = true by decide)]
        by_cases e : f = i
        · subst e; rw [if_pos rfl, if_pos (by omega)]; rfl
        · rw [if_neg e, g3 f]
          by_cases e3 : f < i
          · rw [if_pos e3, if_pos (by omega)]
          · rw [if_neg e3, if_neg (by omega)]
    | true =>
      refine ⟨_, ⟨rfl, rfl, rfl, rfl, rfl, s2, fun z h1 h2 h3 => ?_, ?_, fun f hf hpf => ?_, fun f => ?_⟩, rfl⟩
      · dsimp only
        rw [up1_ne h1, if_pos rfl, up1_ne h2, up1_ne h3]; exact s1 z h1 h2 h3
      · dsimp only
        rw [up1_ne (by omega), if_pos rfl, up1_same, if_pos rfl]
        rw [cntB_t hp]
      · dsimp only
        rw [up1_ne (by omega), if_pos rfl, up1_ne (by decide), up1_same]
        by_cases e : f = i
        · subst e; rw [if_pos rfl]
        · have := cntB_ltP hpf i (by omega)
          rw [if_neg (by omega)]
          exact g2 f (by omega) hpf
      · dsimp only
        rw [up1_same, if_pos rfl]
        by_cases e : f = i
        · subst e; rw [if_pos rfl, if_pos (by omega)]; rfl
        · rw [if_neg e, up1_ne (by omega), up1_ne (by omega), g3 f]
          by_cases e3 : f < i
          · rw [if_pos e3, if_pos (by omega)]
          · rw [if_neg e3, if_neg (by omega)]
  · rintro ⟨x1, x2, x3, x4, x5, Q⟩ K ⟨e1, e2, e3, e4, e5, s2, s1, g1, g2, g3⟩
    dsimp only at e1 e2 e3 e4 e5 s2 s1 g1 g2 g3
    subst e1
    subst e2
    subst e3
    subst e4
    subst e5
    rw [eBX9_join_57]
    dsimp only
    rw [s1 2 (by omega) (by omega) (by omega), hc, if_pos (le_nI n (by omega)), g1]
    exact ⟨Q, rfl, s2, s1, g1, g2, g3⟩
theorem join144 {N d i : Nat} {x1 x2 x3 w x y : Int32} {K : Int32 × Int32 × Int32 × Int32 × Int32 × Mm → Option (Int32 × Mm)} {Q : Mm} (hd : d < 4) (hi : i < 12) : BX10_join_144 N K x1 x2 x3 (nI d) (nI i) w x y Q = K (x1, x2, x3, nI d, nI (i + 1), up1 Q 88 (12 * d + i) (jnV w x y)) := by
  rw [eBX10_join_144, ix12]
  unfold jnV
  by_cases e1 : x = y
  · rw [if_pos e1, if_pos e1, wrI_nI (by omega) (by decide), Option.bind_some, nI_1]
  · rw [if_neg e1, if_neg e1]
    by_cases e2 : x = w
    · rw [if_pos e2, if_pos e2, wrI_nI (by omega) (by decide), Option.bind_some, nI_1]
    · rw [if_neg e2, if_neg e2, wrI_nI (by omega) (by decide), Option.bind_some, nI_1]
theorem join_r {N n a b c d : Nat} {M : Mm} {P : Nat → Bool} {J L : Nat → Int32} (hN : 100 < N) (hn : n ≤ 12) (ha : a < 4) (hb : b < 4) (hcc : c < 4) (hd : d < 4) (hc : M.1 69 0 = nI n) (h0 : M.1 69 23 = nI 0) (hP : ∀ f, f < n → P f = odB (M.1 88 (12 * a + f)) (M.1 88 (12 * b + f)) (M.1 88 (12 * c + f)) ∧ J f = jnV (M.1 88 (12 * a + f)) (M.1 88 (12 * b + f)) (M.1 88 (12 * c + f))) (hL : ∀ f, f < n → P f = true → L (cntB P f) = nI f) : ∃ M1, lp (BX10_join_51 N) N (nI a, nI b, nI c, nI d, 0, M) = some (nI (cntB P n), M1) ∧ M1.2 = M.2 ∧ (∀ z, z ≠ 88 → z ≠ 89 → z ≠ 69 → M1.1 z = M.1 z) ∧ (∀ j, j ≠ 23 → M1.1 69 j = M.1 69 j) ∧ M1.1 69 23 = nI (cntB P n) ∧ (∀ k, k < cntB P n → M1.1 89 k = L k) ∧ ∀ j, M1.1 88 j = if 12 * d ≤ j ∧ j < 12 * d + n then J (j - 12 * d) else M.1 88 j := by
  refine lp_up (fun i (q : Int32 × Int32 × Int32 × Int32 × Int32 × Mm) => q.1 = nI a ∧ q.2.1 = nI b ∧ q.2.2.1 = nI c ∧ q.2.2.2.1 = nI d ∧ q.2.2.2.2.1 = nI i ∧ q.2.2.2.2.2.2 = M.2 ∧ (∀ z, z ≠ 88 → z ≠ 89 → z ≠ 69 → q.2.2.2.2.2.1 z = M.1 z) ∧ (∀ j, j ≠ 23 → q.2.2.2.2.2.1 69 j = M.1 69 j) ∧ q.2.2.2.2.2.1 69 23 = nI (cntB P i) ∧ (∀ k, k < cntB P i → q.2.2.2.2.2.1 89 k = L k) ∧ ∀ j, q.2.2.2.2.2.1 88 j = if 12 * d ≤ j ∧ j < 12 * d + i then J (j - 12 * d) else M.1 88 j) (fun o => ∃ M1 : Mm, o = some (nI (cntB P n), M1) ∧ M1.2 = M.2 ∧ (∀ z, z ≠ 88 → z ≠ 89 → z ≠ 69 → M1.1 z = M.1 z) ∧ (∀ j, j ≠ 23 → M1.1 69 j = M.1 69 j) ∧ M1.1 69 23 = nI (cntB P n) ∧ (∀ k, k < cntB P n → M1.1 89 k = L k) ∧ ∀ j, M1.1 88 j = if 12 * d ≤ j ∧ j < 12 * d + n then J (j - 12 * d) else M.1 88 j) n N _ ⟨rfl, rfl, rfl, rfl, rfl, rfl, fun _ _ _ _ => rfl, fun _ _ => rfl, h0, fun k hk => absurd hk (Nat.not_lt_zero _), fun j => by rw [if_neg (by omega)]⟩ (by omega) ?_ ?_
  · rintro i ⟨x1, x2, x3, x4, x5, Q⟩ K hi ⟨e1, e2, e3, e4, e5, s2, s1, s3, g1, g2, g3⟩
    dsimp only at e1 e2 e3 e4 e5 s2 s1 s3 g1 g2 g3
    subst e1
    subst e2
    subst e3
    subst e4
    subst e5
    have rd : ∀ z, z < 4 → Q.1 88 (12 * z + i) = M.1 88 (12 * z + i) := fun z hz => by rw [g3, if_neg (by omega)]
    have hle := cntB_le P i
    obtain ⟨hp1, hj1⟩ := hP i hi
    have fin : ∀ R : Mm, R.2 = M.2 → (∀ z, z ≠ 88 → z ≠ 89 → z ≠ 69 → R.1 z = M.1 z) → (∀ j, j ≠ 23 → R.1 69 j = M.1 69 j) → R.1 69 23 = nI (cntB P (i + 1)) → (∀ k, k < cntB P (i + 1) → R.1 89 k = L k) → R.1 88 = Q.1 88 → ∃ a' : Int32 × Int32 × Int32 × Int32 × Int32 × Mm, (a'.1 = nI a ∧ a'.2.1 = nI b ∧ a'.2.2.1 = nI c ∧ a'.2.2.2.1 = nI d ∧ a'.2.2.2.2.1 = nI (i + 1) ∧ a'.2.2.2.2.2.2 = M.2 ∧ (∀ z, z ≠ 88 → z ≠ 89 → z ≠ 69 → a'.2.2.2.2.2.1 z = M.1 z) ∧ (∀ j, j ≠ 23 → a'.2.2.2.2.2.1 69 j = M.1 69 j) ∧ a'.2.2.2.2.2.1 69 23 = nI (cntB P (i + 1)) ∧ (∀ k, k < cntB P (i + 1) → a'.2.2.2.2.2.1 89 k = L k) ∧ ∀ j, a'.2.2.2.2.2.1 88 j = if 12 * d ≤ j ∧ j < 12 * d + (i + 1) then J (j - 12 * d) else M.1 88 j) ∧ BX10_join_144 N K (nI a) (nI b) (nI c) (nI d) (nI i) (M.1 88 (12 * a + i)) (M.1 88 (12 * b + i)) (M.1 88 (12 * c + i)) R = K a' := by
      intro R t2 t1 t3 u1 u2 u3
      refine ⟨_, ⟨rfl, rfl, rfl, rfl, rfl, ?_, fun z h1 h2 h3 => ?_, fun j hj => ?_, ?_, fun k hk => ?_, fun j => ?_⟩, join144 hd (by omega)⟩
      · exact t2
      · dsimp only; rw [up1_ne h1]; exact t1 z h1 h2 h3
      · dsimp only; rw [up1_ne (by decide)]; exact t3 j hj
      · dsimp only; rw [up1_ne (by decide)]; exact u1
      · dsimp only; rw [up1_ne (by decide)]; exact u2 k hk
      · dsimp only
        rw [up1_same, u3, ← hj1]
        by_cases e : j = 12 * d + i
        · subst e
          rw [if_pos rfl, if_pos (by omega), show 12 * d + i - 12 * d = i by omega]
        · rw [if_neg e, g3 j]
          by_cases e3 : 12 * d ≤ j ∧ j < 12 * d + i
          · rw [if_pos e3, if_pos (by omega)]
          · rw [if_neg e3, if_neg (by omega)]
    left
    rw [eBX10_join_51]
    dsimp only
    rw [s3 0 (by decide), hc, if_neg (lt_nI hi (by omega)), ix12, ix12, ix12, rdI_nI (by omega) (by decide), Option.bind_some, rdI_nI (by omega) (by decide), Option.bind_some, rdI_nI (by omega) (by decide), Option.bind_some, rd a ha, rd b hb, rd c hcc]
    have same : P i = false → ∃ a' : Int32 × Int32 × Int32 × Int32 × Int32 × Mm, (a'.1 = nI a ∧ a'.2.1 = nI b ∧ a'.2.2.1 = nI c ∧ a'.2.2.2.1 = nI d ∧ a'.2.2.2.2.1 = nI (i + 1) ∧ a'.2.2.2.2.2.2 = M.2 ∧ (∀ z, z ≠ 88 → z ≠ 89 → z ≠ 69 → a'.2.2.2.2.2.1 z = M.1 z) ∧ (∀ j, j ≠ 23 → a'.2.2.2.2.2.1 69 j = M.1 69 j) ∧ a'.2.2.2.2.2.1 69 23 = nI (cntB P (i + 1)) ∧ (∀ k, k < cntB P (i + 1) → a'.2.2.2.2.2.1 89 k = L k) ∧ ∀ j, a'.2.2.2.2.2.1 88 j = if 12 * d ≤ j ∧ j < 12 * d + (i + 1) then J (j - 12 * d) else M.1 88 j) ∧ BX10_join_144 N K (nI a) (nI b) (nI c) (nI d) (nI i) (M.1 88 (12 * a + i)) (M.1 88 (12 * b + i)) (M.1 88 (12 * c + i)) Q = K a' := fun hf => by
      have hz : cntB P (i + 1) = cntB P i := cntB_f hf
      exact fin Q s2 s1 s3 (by rw [hz]; exact g1) (by rw [hz]; exact g2) rfl
    by_cases f1 : M.1 88 (12 * b + i) = M.1 88 (12 * c + i)
    · rw [if_pos f1]
      exact same (by rw [hp1]; unfold odB; simp [f1])
    · rw [if_neg f1]
      by_cases f2 : M.1 88 (12 * b + i) = M.1 88 (12 * a + i)
      · rw [if_pos f2]
        exact same (by rw [hp1]; unfold odB; simp [f2])
      · rw [if_neg f2]
        by_cases f3 : M.1 88 (12 * c + i) = M.1 88 (12 * a + i)
        · rw [if_pos f3]
          exact same (by rw [hp1]; unfold odB; simp [f3])
        · have hpt : P i = true := by rw [hp1]; unfold odB; simp [f1, f2, f3]
          have hz : cntB P (i + 1) = cntB P i + 1 := cntB_t hpt
          rw [if_neg f3, g1, wrI_nI (by omega) (by decide), Option.bind_some]
          have e69 : (up1 Q 89 (cntB P i) (nI i)).1 69 23 = nI (cntB P i) := by rw [up1_ne (by decide)]; exact g1
          show ∃ a', _ ∧ ((some (up1 (up1 Q 89 (cntB P i) (nI i)) 69 23 ((up1 Q 89 (cntB P i) (nI i)).1 69 23 + 1))).bind fun M13 => _) = K a'
          rw [e69, nI_1, Option.bind_some]
          refine fin _ s2 (fun z h1 h2 h3 => by rw [up1_ne h3, up1_ne h2]; exact s1 z h1 h2 h3) (fun j hj => by rw [up1_same, if_neg hj, up1_ne (by decide)]; exact s3 j hj) (by rw [up1_same, if_pos rfl, hz]) (fun k hk => ?_) (by rw [up1_ne (by decide), up1_ne (by decide)])
          rw [up1_ne (by decide), up1_same]
          by_cases e : k = cntB P i
          · rw [if_pos e, e]; exact (hL i hi hpt).symm
          · rw [if_neg e]; exact g2 k (by omega)
  · rintro ⟨x1, x2, x3, x4, x5, Q⟩ K ⟨e1, e2, e3, e4, e5, s2, s1, s3, g1, g2, g3⟩
    dsimp only at e1 e2 e3 e4 e5 s2 s1 s3 g1 g2 g3
    subst e1
    subst e2
    subst e3
    subst e4
    subst e5
    rw [eBX10_join_51]
    dsimp only
    rw [s3 0 (by decide), hc, if_pos (le_nI n (by omega)), g1]
    exact ⟨Q, rfl, s2, s1, s3, g1, g2, g3⟩
theorem c_join {N n np ns : Nat} {x y z w : Int32} {M : Mm} (hN : 100 < N) (h : Inv n np ns M) : CallP (FX9_join N x y z w M) (FX10_join N x y z w) := by
  obtain ⟨hn, hnp, c1, c2, c3, c4⟩ := Inv_n h
  rcases drfQ x with ⟨a, ha, rfl, p1, p2⟩ | ⟨p1, p2⟩
  · rcases drfQ y with ⟨b, hb, rfl, q1, q2⟩ | ⟨q1, q2⟩
    · rcases drfQ z with ⟨c, hcc, rfl, r1, r2⟩ | ⟨r1, r2⟩
      · rcases drfQ w with ⟨d, hd, rfl, t1, t2⟩ | ⟨t1, t2⟩
        · obtain ⟨m, m1, ⟨m2, m3⟩ | ⟨m2, m3⟩⟩ := lockD (d := d) hN h
          · have u33 : ∀ v, v < 4 → (up1 M 41 1 0).1 (33 + v) = M.1 (33 + v) := fun v hv => up1_ne (by omega)
            obtain ⟨M1, k1, k2, k3, k4, k5, k6⟩ := join_c (M := up1 M 41 1 0) (a := a) (b := b) (c := c) (d := d) hN hn ha hb hcc hd (by rw [up1_ne (by decide)]; exact c1) (by rw [up1_same, if_pos rfl]; rfl)
            have eP : odP (up1 M 41 1 0) a b c = odP M a b c := by
              funext f
              unfold odP
              rw [u33 a ha, u33 b hb, u33 c hcc]
            have eJ : jnF (up1 M 41 1 0) a b c = jnF M a b c := by
              funext f
              unfold jnF
              rw [u33 a ha, u33 b hb, u33 c hcc]
            rw [eP] at k1 k4 k5
            rw [eJ, u33 d hd] at k6
            have kx : ∀ v, v ≠ 33 + d → v ≠ 41 → v ≠ 42 → M1.1 v = M.1 v := fun v h1 h2 h3 => (k3 v h1 h2 h3).trans (up1_ne h2)
            have x88 : M1.1 88 = M.1 88 := kx 88 (by omega) (by decide) (by decide)
            have x69 : M1.1 69 = M.1 69 := kx 69 (by omega) (by decide) (by decide)
            have y88 : (up1 M1 69 23 0).1 88 = M.1 88 := by rw [up1_ne (by decide)]; exact x88
            have dr : ∀ v f, v < 4 → f < n → M.1 88 (12 * v + f) = M.1 (33 + v) f := fun v f hv hf => (h.2.2.1 v f hv (by omega)).1.symm
            obtain ⟨M2, j1, j2, j3, j4, j5, j6, j7⟩ := join_r (M := up1 M1 69 23 0) (P := odP M a b c) (J := jnF M a b c) (L := M1.1 42) (a := a) (b := b) (c := c) (d := d) hN hn ha hb hcc hd (by rw [up1_same, if_neg (by decide), x69]; exact c3) (by rw [up1_same, if_pos rfl]; rfl) (fun f hf => by
              rw [y88, dr a f ha hf, dr b f hb hf, dr c f hcc hf]
              exact ⟨rfl, rfl⟩) k5
            rw [y88] at j7
            have xx : ∀ v, v ≠ 33 + d → v ≠ 41 → v ≠ 42 → v ≠ 88 → v ≠ 89 → v ≠ 69 → M2.1 v = M.1 v := fun v h1 h2 h3 h4 h5 h6 => (j3 v h4 h5 h6).trans ((up1_ne h6).trans (kx v h1 h2 h3))
            have x69' : ∀ j, j ≠ 23 → M2.1 69 j = M.1 69 j := fun j hj => (j4 j hj).trans (by rw [up1_same, if_neg hj, x69])
            have hle := cntB_le (odP M a b c) n
            have e42 : M2.1 42 = M1.1 42 := (j3 42 (by decide) (by decide) (by decide)).trans (up1_ne (by decide))
            have e41 : M2.1 41 = M1.1 41 := (j3 41 (by decide) (by decide) (by decide)).trans (up1_ne (by decide))
            have e33 : M2.1 (33 + d) = M1.1 (33 + d) := (j3 (33 + d) (by omega) (by omega) (by omega)).trans (up1_ne (by omega))
            have hI : Inv n np ns M2 := by
              refine Inv_J (fun v h1 h2 h3 h4 h5 h6 => xx v (by omega) h3 h4 h2 h5 h6) x69' (j2.trans k2) (fun d2 f2 hd2 hf2 => ?_) ⟨cntB (odP M a b c) n, by omega, by rw [e41]; exact k4, j5, fun i hi => by rw [e42]; exact j6 i hi⟩ h
              rw [xx 3 (by omega) (by decide) (by decide) (by decide) (by decide) (by decide), xx 4 (by omega) (by decide) (by decide) (by decide) (by decide) (by decide), xx 5 (by omega) (by decide) (by decide) (by decide) (by decide) (by decide), j7]
              have h0 := h.2.2.1 d2 f2 hd2 hf2
              by_cases e : d2 = d
              · subst e
                rw [e33, k6 f2]
                by_cases e2 : f2 < n
                · rw [if_pos e2, if_pos (by omega), show 12 * d2 + f2 - 12 * d2 = f2 by omega]
                  refine ⟨rfl, ?_⟩
                  have hvb := (h.2.2.1 b f2 hb hf2).2
                  have hvc := (h.2.2.1 c f2 hcc hf2).2
                  unfold jnF jnV
                  split
                  · exact hvb
                  · split
                    · exact hvc
                    · exact hvb
                · rw [if_neg e2, if_neg (by omega)]; exact h0
              · rw [xx (33 + d2) (by omega) (by omega) (by omega) (by omega) (by omega) (by omega), if_neg (by omega)]; exact h0
            refine ⟨nI (cntB (odP M a b c) n), M1, M2, ?_, ?_, n, np, ns, hI⟩
            · rw [eFX9_join, p1, Option.bind_some, if_neg (by decide), q1, Option.bind_some, if_neg (by decide), r1, Option.bind_some, if_neg (by decide), t1, Option.bind_some, if_neg (by decide), m1, Option.bind_some, if_pos m2]
              exact k1
            · rw [eFX10_join, p2, Option.bind_some, if_pos rfl, q2, Option.bind_some, if_pos rfl, r2, Option.bind_some, if_pos rfl, t2, Option.bind_some, if_pos rfl, hasLocked_cg (M := M) (fun v hv => kx v (by omega) (by omega) (by omega)), m3, Option.bind_some, if_pos rfl]
              exact j1
          · refine CallP_same (-3) h ?_ ?_
            · rw [eFX9_join, p1, Option.bind_some, if_neg (by decide), q1, Option.bind_some, if_neg (by decide), r1, Option.bind_some, if_neg (by decide), t1, Option.bind_some, if_neg (by decide), m1, Option.bind_some, if_neg m2]
            · rw [eFX10_join, p2, Option.bind_some, if_pos rfl, q2, Option.bind_some, if_pos rfl, r2, Option.bind_some, if_pos rfl, t2, Option.bind_some, if_pos rfl, m3, Option.bind_some, if_neg (by decide)]
        · refine CallP_same (-1) h ?_ ?_
          · rw [eFX9_join, p1, Option.bind_some, if_neg (by decide), q1, Option.bind_some, if_neg (by decide), r1, Option.bind_some, if_neg (by decide), t1, Option.bind_some, if_pos rfl]
          · rw [eFX10_join, p2, Option.bind_some, if_pos rfl, q2, Option.bind_some, if_pos rfl, r2, Option.bind_some, if_pos rfl, t2, Option.bind_some, if_neg (by decide)]
      · refine CallP_same (-1) h ?_ ?_
        · rw [eFX9_join, p1, Option.bind_some, if_neg (by decide), q1, Option.bind_some, if_neg (by decide), r1, Option.bind_some, if_pos rfl]
        · rw [eFX10_join, p2, Option.bind_some, if_pos rfl, q2, Option.bind_some, if_pos rfl, r2, Option.bind_some, if_neg (by decide)]
    · refine CallP_same (-1) h ?_ ?_
      · rw [eFX9_join, p1, Option.bind_some, if_neg (by decide), q1, Option.bind_some, if_pos rfl]
      · rw [eFX10_join, p2, Option.bind_some, if_pos rfl, q2, Option.bind_some, if_neg (by decide)]
  · refine CallP_same (-1) h ?_ ?_
    · rw [eFX9_join, p1, Option.bind_some, if_pos rfl]
    · rw [eFX10_join, p2, Option.bind_some, if_neg (by decide)]
