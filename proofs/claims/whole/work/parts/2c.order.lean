/-! ===== counting; the reference's count, followers, order ===== -/
def cntB (P : Nat → Bool) : Nat → Nat
  | 0 => 0
  | k + 1 => cntB P k + (if P k then 1 else 0)
theorem cntB_le (P : Nat → Bool) : ∀ k, cntB P k ≤ k
  | 0 => Nat.le_refl _
  | k + 1 => by
    have := cntB_le P k
    simp only [cntB]
    split <;> omega
theorem cntB_mono {P R : Nat → Bool} : ∀ k, (∀ i, i < k → P i = true → R i = true) → cntB P k ≤ cntB R k
  | 0, _ => Nat.le_refl _
  | k + 1, h => by
    have h1 := cntB_mono (P := P) (R := R) k (fun i hi => h i (by omega))
    have h2 := h k (by omega)
    simp only [cntB]
    cases hx : P k
    · simp; omega
    · rw [h2 hx]; simp; omega
theorem cntB_congr {P R : Nat → Bool} : ∀ k, (∀ i, i < k → P i = R i) → cntB P k = cntB R k
  | 0, _ => rfl
  | k + 1, h => by
    simp only [cntB]
    rw [cntB_congr k (fun i hi => h i (by omega)), h k (by omega)]
theorem cntB_lt {P R : Nat → Bool} {j : Nat} : ∀ k, j < k → (∀ i, i < k → P i = true → R i = true) → P j = false → R j = true → cntB P k < cntB R k
  | 0, hj, _, _, _ => absurd hj (Nat.not_lt_zero _)
  | k + 1, hj, h, hx, hy => by
    simp only [cntB]
    by_cases e : j = k
    · subst e
      have h1 := cntB_mono (P := P) (R := R) j (fun i hi => h i (by omega))
      rw [hx, hy]
      simp; omega
    · have h1 := cntB_lt (P := P) (R := R) (j := j) k (by omega) (fun i hi => h i (by omega)) hx hy
      have h2 := h k (by omega)
      cases hk : P k
      · simp; omega
      · rw [h2 hk]; simp; omega
theorem cntB_one {P R : Nat → Bool} {j : Nat} : ∀ k, j < k → (∀ i, i ≠ j → P i = R i) → P j = false → R j = true → cntB R k = cntB P k + 1
  | 0, hj, _, _, _ => absurd hj (Nat.not_lt_zero _)
  | k + 1, hj, h, hx, hy => by
    simp only [cntB]
    by_cases e : j = k
    · subst e
      rw [cntB_congr (P := R) (R := P) j (fun i hi => (h i (by omega)).symm), hx, hy]
      simp
    · rw [cntB_one (P := P) (R := R) (j := j) k (by omega) h hx hy, h k (fun q => e q.symm)]
      omega
theorem cntB_all {P : Nat → Bool} : ∀ k, (∀ i, i < k → P i = true) → cntB P k = k
  | 0, _ => rfl
  | k + 1, h => by
    simp only [cntB]
    rw [cntB_all k (fun i hi => h i (by omega)), h k (by omega)]
    simp
/-- the place of f, if all are laid by rising c, of as many by rising number -/
def pos (c : Nat → Nat) (n f : Nat) : Nat := cntB (fun g => decide (c g < c f ∨ (c g = c f ∧ g < f))) n
theorem pos_lt {c : Nat → Nat} {n f : Nat} (hf : f < n) : pos c n f < n := by
  have h := cntB_lt (P := fun g => decide (c g < c f ∨ (c g = c f ∧ g < f))) (R := fun _ => true) (j := f) n hf (fun _ _ _ => rfl) (by simp) rfl
  rw [cntB_all n (fun _ _ => rfl)] at h
  exact h
theorem pos_mono {c : Nat → Nat} {n f g : Nat} (hg : g < n) (h : c g < c f) : pos c n g < pos c n f := by
  refine cntB_lt (j := g) n hg (fun i _ hi => ?_) (by simp) (by simp; omega)
  simp at hi ⊢
  omega
theorem count_run {N : Nat} {m : Int32} {M : Mm} (hN : 60 < N) : FX10_count N m M = some (nI (cnt m 12)) := by
  unfold FX10_count
  refine lp_up (fun i (q : Int32 × Int32 × Int32) => q.1 = m ∧ q.2.1 = nI (cnt m i) ∧ q.2.2 = nI i) (fun o => o = some (nI (cnt m 12))) 12 N _ ⟨rfl, rfl, rfl⟩ (by omega) ?_ ?_
  · rintro i ⟨a, b, c⟩ K hi ⟨h0, h1, h2⟩
    dsimp only at h0 h1 h2
    subst h0
    subst h1
    subst h2
    left
    refine ⟨(a, nI (cnt a (i + 1)), nI (i + 1)), ⟨rfl, rfl, rfl⟩, ?_⟩
    rw [eBX10_count_4]
    dsimp only
    rw [if_neg (show ¬ (12 : Int32) ≤ nI i from nI_ge (b := 12) hi (by decide)), b_get a (by omega), nI_1]
    simp only [cnt]
    cases bt a i
    · rw [if_neg (by decide), if_neg (by decide), Int32.add_zero]; rfl
    · rw [if_pos rfl, if_pos rfl, nI_1]
  · rintro ⟨a, b, c⟩ K ⟨h0, h1, h2⟩
    dsimp only at h0 h1 h2
    subst h0
    subst h1
    subst h2
    rw [eBX10_count_4]
    dsimp only
    rw [if_pos (show (12 : Int32) ≤ nI 12 by decide)]
/-- the order that arrange lays into cell 81 -/
def ordOK (n : Nat) (c : Nat → Nat) (M : Mm) : Prop := (∀ j, j < n → ∃ f, f < n ∧ M.1 81 j = nI f ∧ pos c n f = j) ∧ ∀ f, f < n → M.1 81 (pos c n f) = nI f
def inS (c : Nat → Nat) (m i g : Nat) : Bool := decide (c g < m ∨ (c g = m ∧ g < i))
theorem order_row {N n m : Nat} {c : Nat → Nat} {M : Mm} {K21 : Int32 × Int32 × Mm → Option Mm} {P : Option Mm → Prop} (hN : 60 < N) (hn : n ≤ 12) (hm : m < 12) (hc : M.1 69 0 = nI n) (hcnt : ∀ f, f < n → cnt (M.1 79 f) 12 = c f)
    (h1 : ∀ j, j < cntB (inS c m 0) n → ∃ f, f < n ∧ inS c m 0 f = true ∧ M.1 81 j = nI f ∧ pos c n f = j) (h2 : ∀ f, f < n → inS c m 0 f = true → M.1 81 (pos c n f) = nI f)
    (hk : ∀ M1, sameX 81 M M1 → (∀ j, j < cntB (inS c (m + 1) 0) n → ∃ f, f < n ∧ inS c (m + 1) 0 f = true ∧ M1.1 81 j = nI f ∧ pos c n f = j) → (∀ f, f < n → inS c (m + 1) 0 f = true → M1.1 81 (pos c n f) = nI f) → P (K21 (nI (cntB (inS c (m + 1) 0) n), nI (m + 1), M1))) : P (lp (BX10_arrange_29 N K21) N (nI (cntB (inS c m 0) n), nI m, 0, M)) := by
  refine lp_up (fun i (q : Int32 × Int32 × Int32 × Mm) => q.1 = nI (cntB (inS c m i) n) ∧ q.2.1 = nI m ∧ q.2.2.1 = nI i ∧ sameX 81 M q.2.2.2 ∧ (∀ j, j < cntB (inS c m i) n → ∃ f, f < n ∧ inS c m i f = true ∧ q.2.2.2.1 81 j = nI f ∧ pos c n f = j) ∧ ∀ f, f < n → inS c m i f = true → q.2.2.2.1 81 (pos c n f) = nI f) P n N _ ⟨rfl, rfl, rfl, sameX_rf 81 M, h1, h2⟩ (by omega) ?_ ?_
  · rintro i ⟨a, b, x, Q⟩ K hi ⟨e0, e1, e2, s1, g1, g2⟩
    dsimp only at e0 e1 e2 s1 g1 g2
    subst e0
    subst e1
    subst e2
    left
    rw [eBX10_arrange_29]
    dsimp only
    rw [s1.2 69 (by decide), hc, if_neg (lt_nI hi (by omega)), rdI_nI (by omega) (by decide), Option.bind_some, count_run hN, Option.bind_some, s1.2 79 (by decide), hcnt i hi]
    have hci : c i ≤ 12 := by rw [← hcnt i hi]; exact cnt_le _ _
    by_cases e : c i = m
    · have hpos : cntB (inS c m i) n = pos c n i := by
        unfold pos inS
        rw [e]
      have hin : inS c m i i = false := by unfold inS; simp; omega
      have hin2 : inS c m (i + 1) i = true := by unfold inS; simp; omega
      have hother : ∀ g, g ≠ i → inS c m i g = inS c m (i + 1) g := fun g hg => by
        unfold inS
        congr 1
        apply propext
        omega
      have hone := cntB_one (P := inS c m i) (R := inS c m (i + 1)) (j := i) n hi hother hin hin2
      have hlt : cntB (inS c m i) n < n := by rw [hpos]; exact pos_lt hi
      rw [if_pos (by rw [e]), wrI_nI (by omega) (by decide), Option.bind_some]
      refine ⟨(nI (cntB (inS c m (i + 1)) n), nI m, nI (i + 1), up1 Q 81 (cntB (inS c m i) n) (nI i)), ⟨rfl, rfl, rfl, sameX_up s1, fun j hj => ?_, fun f hf hfs => ?_⟩, by rw [hone, nI_1, nI_1]⟩
      · dsimp only
        rw [up1_same]
        by_cases ej : j = cntB (inS c m i) n
        · rw [if_pos ej]
          exact ⟨i, hi, hin2, rfl, by rw [ej, hpos]⟩
        · rw [if_neg ej]
          obtain ⟨f, hf, q1, q2, q3⟩ := g1 j (by omega)
          refine ⟨f, hf, ?_, q2, q3⟩
          by_cases ef : f = i
          · rw [ef]; exact hin2
          · rw [← hother f ef]; exact q1
      · dsimp only
        rw [up1_same]
        by_cases ef : f = i
        · subst ef
          rw [if_pos hpos.symm]
        · rw [← hother f ef] at hfs
          have hne : pos c n f ≠ cntB (inS c m i) n := fun h => by
            have hlt2 : pos c n f < pos c n i := by
              unfold inS at hfs
              simp at hfs
              refine cntB_lt (j := f) n hf (fun z _ hz => ?_) (by simp) (by simp; omega)
              simp at hz ⊢
              omega
            omega
          rw [if_neg hne]
          exact g2 f hf hfs
    · rw [if_neg (fun h => e (nI_inj (by omega) (by omega) h))]
      have hsame : ∀ g, g < n → inS c m i g = inS c m (i + 1) g := fun g hg => by
        unfold inS
        congr 1
        apply propext
        by_cases eg : g = i
        · subst eg; omega
        · omega
      have hcs := cntB_congr (P := inS c m i) (R := inS c m (i + 1)) n hsame
      refine ⟨(nI (cntB (inS c m (i + 1)) n), nI m, nI (i + 1), Q), ⟨rfl, rfl, rfl, s1, fun j hj => ?_, fun f hf hfs => ?_⟩, by rw [hcs, nI_1]⟩
      · obtain ⟨f, hf, q1, q2, q3⟩ := g1 j (by rw [hcs]; exact hj)
        exact ⟨f, hf, by rw [← hsame f hf]; exact q1, q2, q3⟩
      · exact g2 f hf (by rw [hsame f hf]; exact hfs)
  · rintro ⟨a, b, x, Q⟩ K ⟨e0, e1, e2, s1, g1, g2⟩
    dsimp only at e0 e1 e2 s1 g1 g2
    subst e0
    subst e1
    subst e2
    rw [eBX10_arrange_29]
    dsimp only
    have hsame : ∀ g, g < n → inS c m n g = inS c (m + 1) 0 g := fun g hg => by
      unfold inS
      congr 1
      apply propext
      omega
    have hcs := cntB_congr (P := inS c m n) (R := inS c (m + 1) 0) n hsame
    rw [s1.2 69 (by decide), hc, if_pos (le_nI n (by omega)), nI_1, hcs]
    refine hk Q s1 (fun j hj => ?_) (fun f hf hfs => g2 f hf (by rw [hsame f hf]; exact hfs))
    obtain ⟨f, hf, q1, q2, q3⟩ := g1 j (by rw [hcs]; exact hj)
    exact ⟨f, hf, by rw [← hsame f hf]; exact q1, q2, q3⟩
theorem order_all {N n : Nat} {c : Nat → Nat} {M : Mm} (hN : 60 < N) (hn : n ≤ 12) (hc : M.1 69 0 = nI n) (hcnt : ∀ f, f < n → cnt (M.1 79 f) 12 = c f) (hlt : ∀ f, f < n → c f < 12) : ∃ M', lp (BX10_arrange_21 N) N (0, 0, M) = some M' ∧ sameX 81 M M' ∧ ordOK n c M' := by
  have z0 : cntB (inS c 0 0) n = 0 := by
    have h := cntB_congr (P := inS c 0 0) (R := fun _ => false) n (fun i _ => by unfold inS; simp)
    rw [h]
    have : ∀ k, cntB (fun _ => false) k = 0 := fun k => by
      induction k with
      | zero => rfl
      | succ k ih => simp [cntB, ih]
    exact this n
  refine lp_up (fun m (q : Int32 × Int32 × Mm) => q.1 = nI (cntB (inS c m 0) n) ∧ q.2.1 = nI m ∧ sameX 81 M q.2.2 ∧ (∀ j, j < cntB (inS c m 0) n → ∃ f, f < n ∧ inS c m 0 f = true ∧ q.2.2.1 81 j = nI f ∧ pos c n f = j) ∧ ∀ f, f < n → inS c m 0 f = true → q.2.2.1 81 (pos c n f) = nI f) (fun o => ∃ M', o = some M' ∧ sameX 81 M M' ∧ ordOK n c M') 12 N _ ⟨by rw [z0]; rfl, rfl, sameX_rf 81 M, fun j hj => by rw [z0] at hj; exact absurd hj (Nat.not_lt_zero _), fun f hf h => by unfold inS at h; simp at h⟩ (by omega) ?_ ?_
  · rintro m ⟨a, b, Q⟩ K hm ⟨e0, e1, s1, g1, g2⟩
    dsimp only at e0 e1 s1 g1 g2
    subst e0
    subst e1
    left
    rw [eBX10_arrange_21]
    dsimp only
    rw [if_neg (show ¬ (12 : Int32) ≤ nI m from nI_ge (b := 12) hm (by decide))]
    exact order_row (P := fun o => ∃ a' : Int32 × Int32 × Mm, (a'.1 = nI (cntB (inS c (m + 1) 0) n) ∧ a'.2.1 = nI (m + 1) ∧ sameX 81 M a'.2.2 ∧ (∀ j, j < cntB (inS c (m + 1) 0) n → ∃ f, f < n ∧ inS c (m + 1) 0 f = true ∧ a'.2.2.1 81 j = nI f ∧ pos c n f = j) ∧ ∀ f, f < n → inS c (m + 1) 0 f = true → a'.2.2.1 81 (pos c n f) = nI f) ∧ o = K a') hN hn hm (by rw [s1.2 69 (by decide), hc]) (by rw [s1.2 79 (by decide)]; exact hcnt) g1 g2 (fun M1 s2 k1 k2 => ⟨_, ⟨rfl, rfl, sameX_t s1 s2, k1, k2⟩, rfl⟩)
  · rintro ⟨a, b, Q⟩ K ⟨e0, e1, s1, g1, g2⟩
    dsimp only at e0 e1 s1 g1 g2
    subst e0
    subst e1
    rw [eBX10_arrange_21]
    dsimp only
    rw [if_pos (show (12 : Int32) ≤ nI 12 by decide)]
    have hall : ∀ f, f < n → inS c 12 0 f = true := fun f hf => by
      unfold inS
      have := hlt f hf
      simp; omega
    refine ⟨Q, rfl, s1, fun j hj => ?_, fun f hf => g2 f hf (hall f hf)⟩
    obtain ⟨f, hf, _, q2, q3⟩ := g1 j (by rw [cntB_all n hall]; exact hj)
    exact ⟨f, hf, q2, q3⟩
