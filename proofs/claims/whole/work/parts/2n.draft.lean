/-! ===== locks; answer, clear ===== -/
theorem cntB_f {P : Nat → Bool} {i : Nat} (h : P i = false) : cntB P (i + 1) = cntB P i := by
  have hs : cntB P (i + 1) = cntB P i + (if P i then 1 else 0) := rfl
  rw [hs, h]; rfl
theorem cntB_t {P : Nat → Bool} {i : Nat} (h : P i = true) : cntB P (i + 1) = cntB P i + 1 := by
  have hs : cntB P (i + 1) = cntB P i + (if P i then 1 else 0) := rfl
  rw [hs, h]; rfl
def anyB (P : Nat → Bool) : Nat → Bool
  | 0 => false
  | k + 1 => anyB P k || P k
theorem anyB_iff {P : Nat → Bool} : ∀ n, anyB P n = true ↔ ∃ i, i < n ∧ P i = true
  | 0 => ⟨fun h => (by cases h), fun ⟨i, h, _⟩ => absurd h (Nat.not_lt_zero _)⟩
  | n + 1 => by
    simp only [anyB, Bool.or_eq_true]
    rw [anyB_iff n]
    constructor
    · rintro (⟨i, h1, h2⟩ | h)
      · exact ⟨i, by omega, h2⟩
      · exact ⟨n, by omega, h⟩
    · rintro ⟨i, h1, h2⟩
      by_cases e : i = n
      · subst e; exact Or.inr h2
      · exact Or.inl ⟨i, by omega, h2⟩
theorem anyB_s {P : Nat → Bool} {k : Nat} : anyB P (k + 1) = (anyB P k || P k) := rfl
def lkP (M : Mm) (d f s : Nat) : Bool := decide (M.1 44 s = nI d ∧ M.1 46 s = 0) && bt (M.1 45 s) f
def lkB (ns : Nat) (M : Mm) (d f : Nat) : Bool := anyB (lkP M d f) ns && decide (M.1 5 f = 0)
theorem unbroken_run {N ns d : Nat} {M : Mm} (hN : 100 < N) (hs : slI ns M) : ∃ m, FX5_unbrokenBits N (nI d) M = some m ∧ ∀ f, bt m f = anyB (lkP M d f) ns := by
  obtain ⟨h6, k1, k2, k3, k4⟩ := hs
  rw [eFX5_unbrokenBits]
  refine lp_up (fun i (q : Int32 × Int32 × Int32) => q.1 = nI d ∧ q.2.2 = nI i ∧ ∀ f, bt q.2.1 f = anyB (lkP M d f) i) (fun o => ∃ m, o = some m ∧ ∀ f, bt m f = anyB (lkP M d f) ns) ns N _ ⟨rfl, rfl, fun f => b_0 f⟩ (by omega) ?_ ?_
  · rintro i ⟨a, m, b⟩ K hi ⟨e0, e1, e2⟩
    dsimp only at e0 e1 e2
    subst e0
    subst e1
    left
    rw [eBX5_unbrokenBits_4]
    dsimp only
    rw [k1, if_neg (lt_nI hi (by omega)), rdI_nI (by omega) (by decide), Option.bind_some, nI_1]
    by_cases c1 : M.1 44 i = nI d
    · rw [if_pos c1, rdI_nI (by omega) (by decide), Option.bind_some]
      by_cases c2 : M.1 46 i = 0
      · rw [if_pos c2, rdI_nI (by omega) (by decide), Option.bind_some]
        refine ⟨(nI d, m ||| M.1 45 i, nI (i + 1)), ⟨rfl, rfl, fun f => ?_⟩, rfl⟩
        dsimp only
        rw [b_or, e2 f]
        simp [anyB, lkP, c1, c2]
      · rw [if_neg c2]
        refine ⟨(nI d, m, nI (i + 1)), ⟨rfl, rfl, fun f => ?_⟩, rfl⟩
        dsimp only
        rw [e2 f]
        simp [anyB, lkP, c2]
    · rw [if_neg c1]
      refine ⟨(nI d, m, nI (i + 1)), ⟨rfl, rfl, fun f => ?_⟩, rfl⟩
      dsimp only
      rw [e2 f]
      simp [anyB, lkP, c1]
  · rintro ⟨a, m, b⟩ K ⟨e0, e1, e2⟩
    dsimp only at e0 e1 e2
    subst e0
    subst e1
    rw [eBX5_unbrokenBits_4]
    dsimp only
    rw [k1, if_pos (le_nI ns (by omega))]
    exact ⟨m, rfl, e2⟩
theorem asked_run {N n : Nat} {M : Mm} (hN : 100 < N) (hn : n ≤ 12) (hc : M.1 2 6 = nI n) : ∃ m, FX0_askedBits N M = some m ∧ ∀ f, bt m f = (decide (f < n) && decide (M.1 5 f = 0)) := by
  rw [eFX0_askedBits]
  refine lp_up (fun i (q : Int32 × Int32) => q.2 = nI i ∧ ∀ f, bt q.1 f = (decide (f < i) && decide (M.1 5 f = 0))) (fun o => ∃ m, o = some m ∧ ∀ f, bt m f = (decide (f < n) && decide (M.1 5 f = 0))) n N _ ⟨rfl, fun f => by rw [b_0]; simp⟩ (by omega) ?_ ?_
  · rintro i ⟨m, b⟩ K hi ⟨e1, e2⟩
    dsimp only at e1 e2
    subst e1
    left
    rw [eBX0_askedBits_4]
    dsimp only
    rw [hc, if_neg (lt_nI hi (by omega)), rdI_nI (by omega) (by decide), Option.bind_some, nI_1]
    by_cases c1 : M.1 5 i = 0
    · rw [if_pos c1]
      refine ⟨(_, nI (i + 1)), ⟨rfl, fun f => ?_⟩, rfl⟩
      dsimp only
      rw [Bool.eq_iff_iff, b_orone (by omega), e2 f]
      simp only [Bool.and_eq_true, decide_eq_true_iff]
      constructor
      · rintro (h | h)
        · exact ⟨by omega, h.2⟩
        · subst h; exact ⟨by omega, c1⟩
      · rintro ⟨h1, h2⟩
        by_cases e : f = i
        · exact Or.inr e
        · exact Or.inl ⟨by omega, h2⟩
    · rw [if_neg c1]
      refine ⟨(m, nI (i + 1)), ⟨rfl, fun f => ?_⟩, rfl⟩
      dsimp only
      rw [Bool.eq_iff_iff, e2 f]
      simp only [Bool.and_eq_true, decide_eq_true_iff]
      constructor
      · rintro ⟨h1, h2⟩; exact ⟨by omega, h2⟩
      · rintro ⟨h1, h2⟩
        by_cases e : f = i
        · subst e; exact absurd h2 c1
        · exact ⟨by omega, h2⟩
  · rintro ⟨m, b⟩ K ⟨e1, e2⟩
    dsimp only at e1 e2
    subst e1
    rw [eBX0_askedBits_4]
    dsimp only
    rw [hc, if_pos (le_nI n (by omega))]
    exact ⟨m, rfl, e2⟩
theorem locked_run {N n np ns d : Nat} {M : Mm} (hN : 100 < N) (h : Inv n np ns M) : ∃ m, FX9_lockedBits N (nI d) M = some m ∧ ∀ f, bt m f = (decide (f < n) && lkB ns M d f) := by
  obtain ⟨hn, hnp, c1, c2, c3, c4⟩ := Inv_n h
  obtain ⟨m1, a1, a2⟩ := unbroken_run (d := d) hN h.2.2.2.1
  obtain ⟨m2, b1, b2⟩ := asked_run hN hn c1
  refine ⟨m1 &&& m2, by rw [eFX9_lockedBits, a1, Option.bind_some, b1, Option.bind_some], fun f => ?_⟩
  rw [b_and, a2, b2]
  unfold lkB
  cases anyB (lkP M d f) ns <;> cases decide (f < n) <;> cases decide (M.1 5 f = 0) <;> rfl
theorem isLocked_run {N n np ns d f : Nat} {M : Mm} (hN : 100 < N) (h : Inv n np ns M) (hf : f < n) : FX10_isLocked N (nI d) (nI f) M = some (if lkB ns M d f then 1 else 0) := by
  obtain ⟨hn, hnp, c1, c2, c3, c4⟩ := Inv_n h
  obtain ⟨h6, k1, k2, k3, k4⟩ := h.2.2.2.1
  have r5 := h.1.2.1.2.2.1
  rw [eFX10_isLocked]
  refine lp_up (fun i (q : Int32 × Int32 × Int32 × Int32) => q = (nI d, nI f, if anyB (lkP M d f) i then 1 else 0, nI i)) (fun o => o = some (if lkB ns M d f then 1 else 0)) ns N _ rfl (by omega) ?_ ?_
  · rintro i _ K hi rfl
    left
    refine ⟨_, rfl, ?_⟩
    rw [eBX10_isLocked_5]
    dsimp only
    rw [k2, if_neg (lt_nI hi (by omega)), nI_1, anyB_s]
    cases hb : anyB (lkP M d f) i with
    | true => rw [if_neg (by decide)]; rfl
    | false =>
      rw [if_pos (by rfl), rdI_nI (by omega) (by decide), Option.bind_some, (k4 i hi).2.1]
      by_cases e1 : M.1 44 i = nI d
      · rw [if_pos e1, rdI_nI (by omega) (by decide), Option.bind_some, ← (k3 i (by omega)).1]
        by_cases e2 : M.1 46 i = 0
        · rw [if_pos e2, rdI_nI (by omega) (by decide), Option.bind_some, (k4 i hi).2.2.1]
          have hl : lkP M d f i = bt (M.1 45 i) f := by unfold lkP; simp [e1, e2]
          rw [hl]
          by_cases e3 : bt (M.1 45 i) f = true
          · rw [if_pos ((b_set _ (by omega)).mpr e3), e3]; rfl
          · rw [if_neg (fun q => e3 ((b_set _ (by omega)).mp q))]
            have : bt (M.1 45 i) f = false := by simpa using e3
            rw [this]; rfl
        · rw [if_neg e2]
          have hl : lkP M d f i = false := by unfold lkP; simp [e2]
          rw [hl]; rfl
      · rw [if_neg e1]
        have hl : lkP M d f i = false := by unfold lkP; simp [e1]
        rw [hl]; rfl
  · rintro _ K rfl
    rw [eBX10_isLocked_5]
    dsimp only
    rw [k2, if_pos (le_nI ns (by omega))]
    unfold lkB
    cases hb : anyB (lkP M d f) ns with
    | false => rw [if_pos (by rfl)]; rfl
    | true =>
      rw [if_neg (by decide), rdI_nI (by omega) (by decide), Option.bind_some, ← r5]
      by_cases e : M.1 5 f = 0
      · rw [if_pos e]; simp [e]
      · rw [if_neg e]; simp [e]
theorem hasLocked_run {N n np ns d : Nat} {M : Mm} (hN : 100 < N) (h : Inv n np ns M) : FX10_hasLocked N (nI d) M = some (if anyB (lkB ns M d) n then 1 else 0) := by
  obtain ⟨hn, hnp, c1, c2, c3, c4⟩ := Inv_n h
  rw [eFX10_hasLocked]
  refine lp_up (fun i (q : Int32 × Int32 × Int32) => q = (nI d, if anyB (lkB ns M d) i then 1 else 0, nI i)) (fun o => o = some (if anyB (lkB ns M d) n then 1 else 0)) n N _ rfl (by omega) ?_ ?_
  · rintro i _ K hi rfl
    left
    refine ⟨_, rfl, ?_⟩
    rw [eBX10_hasLocked_4]
    dsimp only
    rw [c3, if_neg (lt_nI hi (by omega)), nI_1, anyB_s]
    cases hb : anyB (lkB ns M d) i with
    | true => rw [if_neg (by decide)]; rfl
    | false =>
      rw [if_pos (by rfl), isLocked_run hN h hi, Option.bind_some]
      cases lkB ns M d i
      · rw [if_pos (by rfl)]; rfl
      · rw [if_neg (by decide)]; rfl
  · rintro _ K rfl
    rw [eBX10_hasLocked_4]
    dsimp only
    rw [c3, if_pos (le_nI n (by omega))]
    cases anyB (lkB ns M d) n <;> rfl
/-- the class's lock over a whole draft, and the reference's -/
theorem lockD {N n np ns d : Nat} {M : Mm} (hN : 100 < N) (h : Inv n np ns M) : ∃ m, FX9_lockedBits N (nI d) M = some m ∧ ((m = 0 ∧ FX10_hasLocked N (nI d) M = some 0) ∨ (¬ m = 0 ∧ FX10_hasLocked N (nI d) M = some 1)) := by
  obtain ⟨m, m1, m2⟩ := locked_run (d := d) hN h
  have hl := hasLocked_run (d := d) hN h
  refine ⟨m, m1, ?_⟩
  cases hb : anyB (lkB ns M d) n with
  | false =>
    rw [hb] at hl
    refine Or.inl ⟨b_eq0 (fun i _ => ?_), hl⟩
    rw [m2 i]
    cases hi : decide (i < n) with
    | false => rfl
    | true =>
      cases hk : lkB ns M d i with
      | false => rfl
      | true =>
        have := (anyB_iff n).mpr ⟨i, of_decide_eq_true hi, hk⟩
        rw [hb] at this
        cases this
  | true =>
    rw [hb] at hl
    refine Or.inr ⟨fun e => ?_, hl⟩
    obtain ⟨i, hi, hk⟩ := (anyB_iff n).mp hb
    have := m2 i
    rw [e, b_0, hk] at this
    simp [hi] at this
theorem refI_2 {n np : Nat} {M M' : Mm} (h : ∀ a, 70 ≤ a → a ≤ 81 → M'.1 a = M.1 a) (h2 : M'.2 = M.2) (h10 : M'.1 69 10 = M.1 69 10) (ho : refI n np M) : refI n np M' :=
  refI_same (fun a h3 h4 => h a h3 (by omega)) (h 79 (by decide) (by decide)) (h 81 (by decide) (by decide)) (by rw [h2]) h10 ho
/-- drafts, odds changed alone -/
theorem Inv_J {n np ns : Nat} {M M' : Mm} (h : ∀ a, ¬ (33 ≤ a ∧ a ≤ 36) → a ≠ 88 → a ≠ 41 → a ≠ 42 → a ≠ 89 → a ≠ 69 → M'.1 a = M.1 a) (h69 : ∀ j, j ≠ 23 → M'.1 69 j = M.1 69 j) (h2 : M'.2 = M.2) (hd : drI n M') (ho : odI M') (hI : Inv n np ns M) : Inv n np ns M' := by
  obtain ⟨a, b, c, d, e, f, g, k⟩ := hI
  exact ⟨coreI_same (fun x hx => h x (by omega) (by omega) (by omega) (by omega) (by omega) (by omega)) (fun x h1 h2 => h x (by omega) (by omega) (by omega) (by omega) (by omega) (by omega)) (h69 0 (by decide)) (h69 5 (by decide)) a, refI_2 (fun x h1 h2 => h x (by omega) (by omega) (by omega) (by omega) (by omega) (by omega)) h2 (h69 10 (by decide)) b, hd, slI_same (fun x hx => h x (by omega) (by omega) (by omega) (by omega) (by omega) (by omega)) (h69 25 (by decide)) d, rgI_same (fun x hx => h x (by omega) (by omega) (by omega) (by omega) (by omega) (by omega)) (h69 15 (by decide)) e, ho, trI_same (fun x hx => h x (by omega) (by omega) (by omega) (by omega) (by omega) (by omega)) (h69 31 (by decide)) g, tcI_same (h 68 (by omega) (by omega) (by omega) (by omega) (by omega) (by omega)) (h69 33 (by decide)) k⟩
theorem Inv_dr {n np ns d f : Nat} {v : Int32} {M : Mm} (h : Inv n np ns M) (hd : d < 4) (hf : f < n) (hv : v = LO ∨ (M.1 5 f = 0 ∧ ¬ v < M.1 3 f ∧ ¬ M.1 4 f < v)) : Inv n np ns (up1 (up1 M (33 + d) f v) 88 (12 * d + f) v) := by
  have hn := (Inv_n h).1
  have hx : ∀ a, a ≠ 33 + d → a ≠ 88 → (up1 (up1 M (33 + d) f v) 88 (12 * d + f) v).1 a = M.1 a := fun a h1 h2 => by rw [up1_ne h2, up1_ne h1]
  refine Inv_J (fun a h1 h2 _ _ _ _ => hx a (by omega) h2) (fun j _ => by rw [hx 69 (by omega) (by decide)]) rfl (fun d2 f2 hd2 hf2 => ?_) (odI_same (fun a ha => hx a (by omega) (by omega)) (by rw [hx 69 (by omega) (by decide)]) h.2.2.2.2.2.1) h
  rw [hx 3 (by omega) (by decide), hx 4 (by omega) (by decide), hx 5 (by omega) (by decide), up1_same]
  have h0 := h.2.2.1 d2 f2 hd2 hf2
  by_cases e : d2 = d
  · subst e
    rw [up1_ne (a := 33 + d2) (by omega), up1_same, up1_ne (a := 88) (by omega)]
    by_cases e2 : f2 = f
    · subst e2
      rw [if_pos rfl, if_pos rfl]
      exact ⟨rfl, hv.elim Or.inl (fun q => Or.inr ⟨hf, q⟩)⟩
    · rw [if_neg e2, if_neg (by omega)]
      exact h0
  · rw [hx (33 + d2) (by omega) (by omega), up1_ne (a := 88) (by omega), if_neg (by omega)]
    exact h0
theorem isLocked_cg {N : Nat} {x y : Int32} {M M' : Mm} (h : ∀ a, 69 ≤ a → M'.1 a = M.1 a) : FX10_isLocked N x y M' = FX10_isLocked N x y M := by
  have qe : BX10_isLocked_5 N M' = BX10_isLocked_5 N M := by
    funext K q
    simp only [eBX10_isLocked_5, rdI, h 69 (by decide), h 72 (by decide), h 90 (by decide), h 91 (by decide), h 92 (by decide)]
  rw [eFX10_isLocked, eFX10_isLocked, qe]
theorem hasLocked_cg {N : Nat} {x : Int32} {M M' : Mm} (h : ∀ a, 69 ≤ a → M'.1 a = M.1 a) : FX10_hasLocked N x M' = FX10_hasLocked N x M := by
  have qe : BX10_hasLocked_4 N M' = BX10_hasLocked_4 N M := by
    funext K q
    simp only [eBX10_hasLocked_4, isLocked_cg h, h 69 (by decide)]
  rw [eFX10_hasLocked, eFX10_hasLocked, qe]
theorem c_answer {N n np ns : Nat} {x y v : Int32} {M : Mm} (hN : 100 < N) (h : Inv n np ns M) : CallP (FX9_answer N x y v M) (FX10_answer N x y v) := by
  obtain ⟨hn, hnp, c1, c2, c3, c4⟩ := Inv_n h
  obtain ⟨r3, r4, r5, _⟩ := h.1.2.1
  rcases plcQ x y hn with ⟨d, f, hd, hf, rfl, rfl, a1, a2, a3⟩ | ⟨a1, a2⟩
  · rcases h.1.1.1.2.2.2.2.2.2 f hf with hm | hm
    · have hin : FX10_in v (M.1 70 f) (M.1 71 f) M = some (if v < M.1 3 f ∨ M.1 4 f < v then 0 else 1) := by
        rw [eFX10_in, ← r3, ← r4]
        by_cases q1 : v < M.1 3 f
        · rw [if_pos q1, if_pos (Or.inl q1)]
        · rw [if_neg q1]
          by_cases q2 : M.1 4 f < v
          · rw [if_pos q2, if_pos (Or.inr q2)]
          · rw [if_neg q2, if_neg (fun q => q.elim q1 q2)]
      by_cases hs : v < M.1 3 f ∨ M.1 4 f < v
      · rw [if_pos hs] at hin
        refine CallP_same (-2) h ?_ ?_
        · rw [eFX9_answer, a1 M c1, Option.bind_some, if_neg (by decide), rdI_nI (by omega) (by decide), Option.bind_some, if_pos hm, inSpan_run (by omega), Option.bind_some, if_pos hs, if_pos rfl]
        · rw [eFX10_answer, a2, Option.bind_some, if_pos rfl, a3 M c3, Option.bind_some, if_pos rfl, rdI_nI (by omega) (by decide), Option.bind_some, ← r5, hm, if_neg (by decide), rdI_nI (by omega) (by decide), Option.bind_some, rdI_nI (by omega) (by decide), Option.bind_some, hin, Option.bind_some, if_pos rfl]
      · rw [if_neg hs] at hin
        obtain ⟨m, m1, m2⟩ := locked_run (d := d) hN h
        have hl := isLocked_run (d := d) hN h hf
        have hb : bt m f = lkB ns M d f := by rw [m2 f]; simp [hf]
        cases hk : lkB ns M d f with
        | true =>
          rw [hk] at hl hb
          refine CallP_same (-3) h ?_ ?_
          · rw [eFX9_answer, a1 M c1, Option.bind_some, if_neg (by decide), rdI_nI (by omega) (by decide), Option.bind_some, if_pos hm, inSpan_run (by omega), Option.bind_some, if_neg hs, if_neg (by decide), m1, Option.bind_some, hasBit_run _ (by omega), Option.bind_some, hb, if_neg (by decide)]
          · rw [eFX10_answer, a2, Option.bind_some, if_pos rfl, a3 M c3, Option.bind_some, if_pos rfl, rdI_nI (by omega) (by decide), Option.bind_some, ← r5, hm, if_neg (by decide), rdI_nI (by omega) (by decide), Option.bind_some, rdI_nI (by omega) (by decide), Option.bind_some, hin, Option.bind_some, if_neg (by decide), hl, Option.bind_some, if_neg (by decide)]
        | false =>
          rw [hk] at hl hb
          have hI := Inv_dr (v := v) h hd hf (Or.inr ⟨hm, fun q => hs (Or.inl q), fun q => hs (Or.inr q)⟩)
          obtain ⟨M2, l1, l2, l3, l4⟩ := arr_any hN hI
          have e2 : (up1 M (33 + d) f v).1 2 6 = nI n := by rw [up1_ne (by omega)]; exact c1
          have e20 : ∀ g, (up1 (up1 M (33 + d) f v) 88 (12 * d + f) v).1 20 g = (up1 M (33 + d) f v).1 20 g := fun g => by rw [up1_ne (by omega)]
          have x69 : (up1 M (33 + d) f v).1 69 = M.1 69 := up1_ne (by omega)
          have x70 : (up1 M (33 + d) f v).1 70 = M.1 70 := up1_ne (by omega)
          have x71 : (up1 M (33 + d) f v).1 71 = M.1 71 := up1_ne (by omega)
          have x72 : (up1 M (33 + d) f v).1 72 = M.1 72 := up1_ne (by omega)
          have hl2 : FX10_isLocked N (nI d) (nI f) (up1 M (33 + d) f v) = FX10_isLocked N (nI d) (nI f) M := isLocked_cg (fun a ha => up1_ne (by omega))
          refine ⟨nI (cntB (fun g => bt ((up1 M (33 + d) f v).1 20 g) f) n), up1 M (33 + d) f v, M2, ?_, ?_, n, np, ns, l3⟩
          · rw [eFX9_answer, a1 M c1, Option.bind_some, if_neg (by decide), rdI_nI (by omega) (by decide), Option.bind_some, if_pos hm, inSpan_run (by omega), Option.bind_some, if_neg hs, if_neg (by decide), m1, Option.bind_some, hasBit_run _ (by omega), Option.bind_some, hb, if_pos (by rfl), ckR_nI hd (by decide), Option.bind_some, wrI_nI (by omega) (by decide), Option.bind_some, hangersOn_run hN hn (by omega) e2, Option.bind_some]
          · have hin2 : FX10_in v (M.1 70 f) (M.1 71 f) (up1 M (33 + d) f v) = some 1 := hin
            rw [eFX10_answer, a2, Option.bind_some, if_pos rfl, a3 _ (by rw [x69]; exact c3), Option.bind_some, if_pos rfl, rdI_nI (by omega) (by decide), Option.bind_some, x72, ← r5, hm, if_neg (by decide), rdI_nI (by omega) (by decide), Option.bind_some, rdI_nI (by omega) (by decide), Option.bind_some, x70, x71, hin2, Option.bind_some, if_neg (by decide), hl2, hl, Option.bind_some, if_pos (by rfl), ix12, wrI_nI (by omega) (by decide), Option.bind_some, l1, Option.bind_some, followers_run hN hn (by omega) (Inv_n l3).2.2.2.2.1 (fun g hg => (l4 g hg).trans (e20 g)), Option.bind_some]
    · refine CallP_same (-3) h ?_ ?_
      · rw [eFX9_answer, a1 M c1, Option.bind_some, if_neg (by decide), rdI_nI (by omega) (by decide), Option.bind_some, hm, if_neg (by decide)]
      · rw [eFX10_answer, a2, Option.bind_some, if_pos rfl, a3 M c3, Option.bind_some, if_pos rfl, rdI_nI (by omega) (by decide), Option.bind_some, ← r5, if_pos hm]
  · refine CallP_same (-1) h ?_ ?_
    · rw [eFX9_answer, a1 M c1, Option.bind_some, if_pos rfl]
    · rcases a2 with b | ⟨b, b2⟩
      · rw [eFX10_answer, b, Option.bind_some, if_neg (by decide)]
      · rw [eFX10_answer, b, Option.bind_some, if_pos rfl, b2 M c3, Option.bind_some, if_neg (by decide)]
theorem c_clear {N n np ns : Nat} {x y : Int32} {M : Mm} (hN : 100 < N) (h : Inv n np ns M) : CallP (FX9_clear N x y M) (FX10_clear N x y) := by
  obtain ⟨hn, hnp, c1, c2, c3, c4⟩ := Inv_n h
  obtain ⟨r3, r4, r5, _⟩ := h.1.2.1
  rcases plcQ x y hn with ⟨d, f, hd, hf, rfl, rfl, a1, a2, a3⟩ | ⟨a1, a2⟩
  · rcases h.1.1.1.2.2.2.2.2.2 f hf with hm | hm
    · obtain ⟨m, m1, m2⟩ := locked_run (d := d) hN h
      have hl := isLocked_run (d := d) hN h hf
      have hb : bt m f = lkB ns M d f := by rw [m2 f]; simp [hf]
      cases hk : lkB ns M d f with
      | true =>
        rw [hk] at hl hb
        refine CallP_same (-3) h ?_ ?_
        · rw [eFX9_clear, a1 M c1, Option.bind_some, if_neg (by decide), rdI_nI (by omega) (by decide), Option.bind_some, if_pos hm, m1, Option.bind_some, hasBit_run _ (by omega), Option.bind_some, hb, if_neg (by decide)]
        · rw [eFX10_clear, a2, Option.bind_some, if_pos rfl, a3 M c3, Option.bind_some, if_pos rfl, rdI_nI (by omega) (by decide), Option.bind_some, ← r5, hm, if_neg (by decide), hl, Option.bind_some, if_neg (by decide)]
      | false =>
        rw [hk] at hl hb
        have hI := Inv_dr (v := LO) h hd hf (Or.inl rfl)
        have x69 : (up1 M (33 + d) f LO).1 69 = M.1 69 := up1_ne (by omega)
        have x72 : (up1 M (33 + d) f LO).1 72 = M.1 72 := up1_ne (by omega)
        have x88 : (up1 M (33 + d) f LO).1 88 = M.1 88 := up1_ne (by omega)
        have hl2 : FX10_isLocked N (nI d) (nI f) (up1 M (33 + d) f LO) = FX10_isLocked N (nI d) (nI f) M := isLocked_cg (fun a ha => up1_ne (by omega))
        have hdr := (h.2.2.1 d f hd (by omega)).1
        refine ⟨if M.1 (33 + d) f = LO then 0 else 1, up1 M (33 + d) f LO, up1 (up1 M (33 + d) f LO) 88 (12 * d + f) LO, ?_, ?_, n, np, ns, hI⟩
        · rw [eFX9_clear, a1 M c1, Option.bind_some, if_neg (by decide), rdI_nI (by omega) (by decide), Option.bind_some, if_pos hm, m1, Option.bind_some, hasBit_run _ (by omega), Option.bind_some, hb, if_pos (by rfl), ckR_nI hd (by decide), Option.bind_some, rdI_nI (by omega) (by decide), Option.bind_some, show (-2000000000 : Int32) = LO from rfl]
          by_cases e : M.1 (33 + d) f = LO
          · rw [if_pos e, if_pos e, eBX9_clear_59, show FX9_truth 0 M = some 0 from rfl, Option.bind_some, ckR_nI hd (by decide), Option.bind_some, wrI_nI (by omega) (by decide), Option.bind_some]; rfl
          · rw [if_neg e, if_neg e, eBX9_clear_59, show FX9_truth 1 M = some 1 from rfl, Option.bind_some, ckR_nI hd (by decide), Option.bind_some, wrI_nI (by omega) (by decide), Option.bind_some]; rfl
        · rw [eFX10_clear, a2, Option.bind_some, if_pos rfl, a3 _ (by rw [x69]; exact c3), Option.bind_some, if_pos rfl, rdI_nI (by omega) (by decide), Option.bind_some, x72, ← r5, hm, if_neg (by decide), hl2, hl, Option.bind_some, if_pos (by rfl), ix12, rdI_nI (by omega) (by decide), Option.bind_some, x88, ← hdr, show (-2000000000 : Int32) = LO from rfl]
          by_cases e : M.1 (33 + d) f = LO
          · rw [if_pos e, if_pos e, eBX10_clear_60, ix12, wrI_nI (by omega) (by decide), Option.bind_some]; rfl
          · rw [if_neg e, if_neg e, eBX10_clear_60, ix12, wrI_nI (by omega) (by decide), Option.bind_some]; rfl
    · refine CallP_same (-3) h ?_ ?_
      · rw [eFX9_clear, a1 M c1, Option.bind_some, if_neg (by decide), rdI_nI (by omega) (by decide), Option.bind_some, hm, if_neg (by decide)]
      · rw [eFX10_clear, a2, Option.bind_some, if_pos rfl, a3 M c3, Option.bind_some, if_pos rfl, rdI_nI (by omega) (by decide), Option.bind_some, ← r5, if_pos hm]
  · refine CallP_same (-1) h ?_ ?_
    · rw [eFX9_clear, a1 M c1, Option.bind_some, if_pos rfl]
    · rcases a2 with b | ⟨b, b2⟩
      · rw [eFX10_clear, b, Option.bind_some, if_neg (by decide)]
      · rw [eFX10_clear, b, Option.bind_some, if_pos rfl, b2 M c3, Option.bind_some, if_neg (by decide)]
