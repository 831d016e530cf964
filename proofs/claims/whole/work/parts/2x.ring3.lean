/-! ===== findRing ===== -/
def ringS (n L f : Nat) (m : Int32) (D H : Nat → Int32) (G : Nat → Nat × Int32) : Prop := G 0 = (f, m) ∧ L < n ∧ bt (G L).2 f = true ∧ ∀ i, i < L → bt (G i).2 f = false ∧ (G (i + 1)).1 < n ∧ bt (G i).2 (G (i + 1)).1 = true ∧ bt (H (G (i + 1)).1) f = true ∧ (∀ x, x < (G (i + 1)).1 → ¬ (bt (G i).2 x = true ∧ bt (H x) f = true)) ∧ (G (i + 1)).2 = D (G (i + 1)).1
theorem ringS_rg {n np f L : Nat} {m : Int32} {M : Mm} (hN : netC n np M) (hG : gr n np M) (hf : f < n) (hr : bt m f = true ∨ ∃ x, x < n ∧ bt m x = true ∧ bt (M.1 20 x) f = true) (hL : L < n) (hL1 : bt (rg n (M.1 19) (M.1 20) f m L).2 f = true) (hL2 : ∀ j, j < L → bt (rg n (M.1 19) (M.1 20) f m j).2 f = false) : ringS n L f m (M.1 19) (M.1 20) (rg n (M.1 19) (M.1 20) f m) := by
  refine ⟨rfl, hL, hL1, fun i hi => ?_⟩
  have hex := (ring_on hN hG hf hr i (fun j hj => hL2 j (by omega))).1.resolve_left (fun q => by rw [hL2 i hi] at q; cases q)
  obtain ⟨a, b, c, d⟩ := rg_next hex
  exact ⟨hL2 i hi, a, b, c, d, rfl⟩
theorem findRing_run {N n L f : Nat} {m : Int32} {D H : Nat → Int32} {G : Nat → Nat × Int32} {M : Mm} (hN : 100 < N) (hn : n ≤ 12) (hf : f < n) (hc : M.1 69 0 = nI n) (h78 : ∀ x, x < n → x ≠ f → M.1 78 x = D x) (h78f : M.1 78 f = m) (hD : ∀ a b, a < n → bt (D a) b = true → b < n) (hac : ∀ a, a < n → ¬ TC (fun a b => bt (D a) b = true) n a a) (hsh : ∀ k a b, a < n → pth (fun a b => bt (D a) b = true) n k a b → k < n) (hH : ∀ a, a < n → ∀ b, bt (H a) b = true ↔ TC (fun a b => bt (D a) b = true) n a b) (hS : ringS n L f m D H G) : ∃ M1, FX10_findRing N (nI f) M = some M1 ∧ M1.2 = M.2 ∧ (∀ z, z ≠ 69 → z ≠ 82 → M1.1 z = M.1 z) ∧ (∀ j, j ≠ 15 → M1.1 69 j = M.1 69 j) ∧ M1.1 69 15 = nI (L + 1) ∧ ∀ j, j ≤ L → M1.1 82 j = nI (G j).1 := by
  obtain ⟨s0, sL, sE, sI⟩ := hS
  have mem : ∀ i, 0 < i → i ≤ L → (G i).1 < n ∧ (G i).1 ≠ f ∧ (G i).2 = D (G i).1 := fun i h0 hi => by
    cases i with
    | zero => exact absurd h0 (Nat.lt_irrefl 0)
    | succ i =>
      obtain ⟨a, b, c, d, e, g⟩ := sI i (by omega)
      refine ⟨b, fun q => ?_, g⟩
      rw [q] at d
      exact hac f hf ((hH f hf f).mp d)
  have lt : ∀ i, i ≤ L → (G i).1 < n := fun i hi => by
    cases i with
    | zero => rw [s0]; exact hf
    | succ i => exact (mem (i + 1) (by omega) hi).1
  have v78 : ∀ i, i ≤ L → M.1 78 (G i).1 = (G i).2 := fun i hi => by
    cases i with
    | zero => rw [s0]; exact h78f
    | succ i =>
      obtain ⟨a, b, c⟩ := mem (i + 1) (by omega) hi
      rw [h78 _ a b, c]
  have tc : ∀ i, i ≤ L → ∀ j, 0 < j → j ≤ i → ∀ h, bt (G i).2 h = true → TC (fun a b => bt (D a) b = true) n (G j).1 h := by
    intro i
    induction i with
    | zero => intro _ j h0 hj; omega
    | succ i ih =>
      intro hi j h0 hj h hb
      obtain ⟨a, b, c⟩ := mem (i + 1) (by omega) hi
      rw [c] at hb
      by_cases e : j = i + 1
      · subst e; exact TC_e hb
      · exact TC_t a (ih (by omega) j h0 (by omega) _ (sI i (by omega)).2.2.1) (TC_e hb)
  rw [eFX10_findRing]
  show ∃ M1, ((some (up1 M 69 15 1)).bind fun M1 => (wrI M1 82 12 0 (nI f)).bind fun M3 => lp (BX10_findRing_18 N) N (nI f, ((1 : Int32) <<< (nI f &&& 31)), nI f, M3)) = some M1 ∧ _
  rw [Option.bind_some, show wrI (up1 M 69 15 1) 82 12 0 (nI f) = some (up1 (up1 M 69 15 1) 82 0 (nI f)) from wrI_nI (i := 0) (n := 12) (by decide) (by decide), Option.bind_some]
  have one : ∀ x, bt ((1 : Int32) <<< (nI f &&& 31)) x = true ↔ x = f := fun x => by
    have h2 := b_orone (m := 0) (f := f) (b := x) (by omega)
    rw [b_or, b_0, Bool.false_or] at h2
    rw [h2]
    exact ⟨fun h => h.elim (fun h => by cases h) id, Or.inr⟩
  refine lp_up (fun i (q : Int32 × Int32 × Int32 × Mm) => q.1 = nI f ∧ q.2.2.1 = nI (G i).1 ∧ (∀ g, bt q.2.1 g = true ↔ ∃ j, j ≤ i ∧ g = (G j).1) ∧ q.2.2.2.2 = M.2 ∧ (∀ z, z ≠ 69 → z ≠ 82 → q.2.2.2.1 z = M.1 z) ∧ (∀ j, j ≠ 15 → q.2.2.2.1 69 j = M.1 69 j) ∧ q.2.2.2.1 69 15 = nI (i + 1) ∧ ∀ j, j ≤ i → q.2.2.2.1 82 j = nI (G j).1) (fun o => ∃ M1 : Mm, o = some M1 ∧ M1.2 = M.2 ∧ (∀ z, z ≠ 69 → z ≠ 82 → M1.1 z = M.1 z) ∧ (∀ j, j ≠ 15 → M1.1 69 j = M.1 69 j) ∧ M1.1 69 15 = nI (L + 1) ∧ ∀ j, j ≤ L → M1.1 82 j = nI (G j).1) L N _ ⟨rfl, by rw [s0], fun g => ?_, rfl, fun z h1 h2 => by rw [up1_ne h2, up1_ne h1], fun j hj => by rw [up1_ne (by decide), up1_same, if_neg hj], by rw [up1_ne (by decide), up1_same, if_pos rfl]; rfl, fun j hj => ?_⟩ (by omega) ?_ ?_
  · rw [one g]
    constructor
    · intro q; exact ⟨0, Nat.le_refl 0, by rw [s0]; exact q⟩
    · rintro ⟨j, hj, q⟩
      have : j = 0 := by omega
      rw [this, s0] at q
      exact q
  · have : j = 0 := by omega
    rw [this, s0, up1_same, if_pos rfl]
  · rintro i ⟨x1, inn, x3, Q⟩ K hi ⟨e1, e3, g0, s2, s1, s3, g1, g2⟩
    dsimp only at e1 e3 g0 s2 s1 s3 g1 g2
    subst e1
    subst e3
    have hgi := lt i (by omega)
    obtain ⟨a1, a2, a3, a4, a5, a6⟩ := sI i hi
    have q78 : Q.1 78 = M.1 78 := s1 78 (by decide) (by decide)
    have hv := v78 i (by omega)
    have hfin : bt inn f = true := (g0 f).mpr ⟨0, Nat.zero_le _, by rw [s0]⟩
    have hin : ∀ h, bt (G i).2 h = true → ∀ g, bt inn g = true → g = f ∨ (g < n ∧ TC (fun a b => bt (D a) b = true) n g h) := fun h hb g hg => by
      obtain ⟨j, hj, q⟩ := (g0 g).mp hg
      cases j with
      | zero => rw [s0] at q; exact Or.inl q
      | succ j => rw [q]; exact Or.inr ⟨lt (j + 1) (by omega), tc i (by omega) (j + 1) (by omega) hj h hb⟩
    have comes : ∀ h, h < n → bt (G i).2 h = true → bt inn h = false → (TC (fun a b => bt (D a) b = true) n h f → FX10_comesTo N (nI h) (nI f) inn Q = some 1) ∧ (¬ TC (fun a b => bt (D a) b = true) n h f → FX10_comesTo N (nI h) (nI f) inn Q = some 0) := fun h hh hb hno =>
      comes_run hN hn hf hh (fun q => by rw [q, hfin] at hno; cases hno) (by rw [s3 0 (by decide)]; exact hc) (fun x hx hxf => by rw [q78]; exact h78 x hx hxf) hD hfin hac hsh (hin h hb)
    have gno : bt inn (G (i + 1)).1 = false := by
      cases hb : bt inn (G (i + 1)).1 with
      | false => rfl
      | true =>
        rcases hin _ a3 _ hb with q | ⟨q1, q2⟩
        · rw [q, a1] at a3; cases a3
        · exact absurd q2 (hac _ q1)
    left
    rw [eBX10_findRing_18]
    dsimp only
    rw [rdI_nI (by omega) (by decide), Option.bind_some, q78, hv, if_pos (by rw [b_get _ (by omega), a1]; rfl)]
    refine lp_up (fun h (q : Int32 × Int32 × Int32 × Int32 × Mm) => q = (nI f, inn, nI (G i).1, nI h, Q)) (fun o => ∃ a' : Int32 × Int32 × Int32 × Mm, (a'.1 = nI f ∧ a'.2.2.1 = nI (G (i + 1)).1 ∧ (∀ g, bt a'.2.1 g = true ↔ ∃ j, j ≤ i + 1 ∧ g = (G j).1) ∧ a'.2.2.2.2 = M.2 ∧ (∀ z, z ≠ 69 → z ≠ 82 → a'.2.2.2.1 z = M.1 z) ∧ (∀ j, j ≠ 15 → a'.2.2.2.1 69 j = M.1 69 j) ∧ a'.2.2.2.1 69 15 = nI (i + 1 + 1) ∧ ∀ j, j ≤ i + 1 → a'.2.2.2.1 82 j = nI (G j).1) ∧ o = K a') (G (i + 1)).1 N _ rfl (by omega) ?_ ?_
    · rintro h _ K2 hh rfl
      left
      refine ⟨_, rfl, ?_⟩
      rw [eBX10_findRing_34]
      dsimp only
      rw [rdI_nI (by omega) (by decide), Option.bind_some, q78, hv, nI_1]
      cases hb : bt (G i).2 h with
      | false => rw [if_pos (by rw [b_get _ (by omega), hb]; rfl)]
      | true =>
        rw [if_neg (by rw [b_get _ (by omega), hb]; decide)]
        cases hb2 : bt inn h with
        | true => rw [if_pos ((b_set _ (by omega)).mpr hb2)]
        | false =>
          have hnt : ¬ TC (fun a b => bt (D a) b = true) n h f := fun q => a5 h hh ⟨hb, (hH h (by omega) f).mpr q⟩
          rw [if_neg (fun q => by have := (b_set _ (by omega)).mp q; rw [hb2] at this; cases this), (comes h (by omega) hb hb2).2 hnt, Option.bind_some, if_pos rfl]
    · rintro _ K2 rfl
      rw [eBX10_findRing_34]
      dsimp only
      rw [rdI_nI (by omega) (by decide), Option.bind_some, q78, hv, if_neg (by rw [b_get _ (by omega), a3]; decide), if_neg (fun q => by have := (b_set _ (by omega)).mp q; rw [gno] at this; cases this), (comes _ a2 a3 gno).1 ((hH _ a2 f).mp a4), Option.bind_some, if_neg (by decide), g1, wrI_nI (by omega) (by decide), Option.bind_some]
      have e69 : (up1 Q 82 (i + 1) (nI (G (i + 1)).1)).1 69 15 = nI (i + 1) := by rw [up1_ne (by decide)]; exact g1
      show ∃ a', _ ∧ ((some (up1 (up1 Q 82 (i + 1) (nI (G (i + 1)).1)) 69 15 ((up1 Q 82 (i + 1) (nI (G (i + 1)).1)).1 69 15 + 1))).bind fun M10 => _) = K a'
      rw [e69, nI_1, Option.bind_some]
      refine ⟨_, ⟨rfl, rfl, fun g => ?_, s2, fun z h1 h2 => ?_, fun j hj => ?_, ?_, fun j hj => ?_⟩, rfl⟩
      · dsimp only
        rw [b_orone (by omega), g0 g]
        constructor
        · rintro (⟨j, hj, q⟩ | q)
          · exact ⟨j, by omega, q⟩
          · exact ⟨i + 1, Nat.le_refl _, q⟩
        · rintro ⟨j, hj, q⟩
          by_cases e : j = i + 1
          · subst e; exact Or.inr q
          · exact Or.inl ⟨j, by omega, q⟩
      · dsimp only
        rw [up1_ne h1, up1_ne h2]; exact s1 z h1 h2
      · dsimp only
        rw [up1_same, if_neg hj, up1_ne (by decide)]; exact s3 j hj
      · dsimp only
        rw [up1_same, if_pos rfl]
      · dsimp only
        rw [up1_ne (by decide), up1_same]
        by_cases e : j = i + 1
        · rw [if_pos e, e]
        · rw [if_neg e]; exact g2 j (by omega)
  · rintro ⟨x1, inn, x3, Q⟩ K ⟨e1, e3, g0, s2, s1, s3, g1, g2⟩
    dsimp only at e1 e3 g0 s2 s1 s3 g1 g2
    subst e1
    subst e3
    have hgL := lt L (by omega)
    rw [eBX10_findRing_18]
    dsimp only
    rw [rdI_nI (by omega) (by decide), Option.bind_some, s1 78 (by decide) (by decide), v78 L (by omega), if_neg (by rw [b_get _ (by omega), sE]; decide)]
    exact ⟨Q, rfl, s2, s1, s3, g1, g2⟩
