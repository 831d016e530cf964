/-! ===== the ring: its members, the class's follow ===== -/
def lst (P : Nat → Bool) : Nat → Nat → Nat
  | 0, i => i
  | k + 1, i => if P i then i else lst P k (i + 1)
theorem lst_spec {P : Nat → Bool} : ∀ (k i : Nat), (∃ g, i ≤ g ∧ g < i + k ∧ P g = true) → P (lst P k i) = true ∧ lst P k i < i + k ∧ ∀ h, i ≤ h → h < lst P k i → P h = false
  | 0, i, ⟨g, h1, h2, _⟩ => absurd h2 (by omega)
  | k + 1, i, ⟨g, h1, h2, h3⟩ => by
    have hs : lst P (k + 1) i = if P i then i else lst P k (i + 1) := rfl
    cases hi : P i with
    | true =>
      rw [hs, hi, if_pos rfl]
      exact ⟨hi, by omega, fun h a b => by omega⟩
    | false =>
      rw [hs, hi, if_neg (by decide)]
      have hg : g ≠ i := fun q => by rw [q, hi] at h3; cases h3
      obtain ⟨a, b, c⟩ := lst_spec k (i + 1) ⟨g, by omega, by omega, h3⟩
      refine ⟨a, by omega, fun h q1 q2 => ?_⟩
      by_cases e : h = i
      · rw [e]; exact hi
      · exact c h (by omega) q2
/-- the ring from field f on, with the fields that its member is of -/
def rg (n : Nat) (D H : Nat → Int32) (f : Nat) (m : Int32) : Nat → Nat × Int32
  | 0 => (f, m)
  | i + 1 => (lst (fun g => bt (rg n D H f m i).2 g && bt (H g) f) n 0, D (lst (fun g => bt (rg n D H f m i).2 g && bt (H g) f) n 0))
theorem rg_0 {n : Nat} {D H : Nat → Int32} {f : Nat} {m : Int32} : rg n D H f m 0 = (f, m) := rfl
theorem rg_2 {n : Nat} {D H : Nat → Int32} {f i : Nat} {m : Int32} : (rg n D H f m (i + 1)).2 = D (rg n D H f m (i + 1)).1 := rfl
theorem rg_1 {n : Nat} {D H : Nat → Int32} {f i : Nat} {m : Int32} : (rg n D H f m (i + 1)).1 = lst (fun g => bt (rg n D H f m i).2 g && bt (H g) f) n 0 := rfl
theorem rg_next {n : Nat} {D H : Nat → Int32} {f i : Nat} {m : Int32} (h : ∃ x, x < n ∧ bt (rg n D H f m i).2 x = true ∧ bt (H x) f = true) : (rg n D H f m (i + 1)).1 < n ∧ bt (rg n D H f m i).2 (rg n D H f m (i + 1)).1 = true ∧ bt (H (rg n D H f m (i + 1)).1) f = true ∧ ∀ x, x < (rg n D H f m (i + 1)).1 → ¬ (bt (rg n D H f m i).2 x = true ∧ bt (H x) f = true) := by
  obtain ⟨x, hx, h1, h2⟩ := h
  obtain ⟨a, b, c⟩ := lst_spec (P := fun g => bt (rg n D H f m i).2 g && bt (H g) f) n 0 ⟨x, by omega, by omega, by rw [h1, h2]; rfl⟩
  rw [← rg_1] at a b c
  rw [Bool.and_eq_true] at a
  refine ⟨by omega, a.1, a.2, fun y hy q => ?_⟩
  have := c y (by omega) hy
  rw [q.1, q.2] at this
  cases this
theorem cnt_pos {m : Int32} {j : Nat} (hj : j < 12) (h : bt m j = true) : 0 < cnt m 12 := by
  have := cnt_lt (x := 0) (y := m) (j := j) 12 hj (fun i _ q => by rw [b_0] at q; cases q) (b_0 j) h
  omega
theorem cnt_low_lt {m : Int32} {n j : Nat} (hn : n ≤ 12) (hl : low n m) (hj : j < n) (h : bt m j = false) : cnt m 12 < n := by
  have h1 : low n (m ||| ((1 : Int32) <<< (nI j &&& 31))) := low_or hl (low_one hj (by omega))
  have h2 := cnt_low h1 12
  have h3 := cnt_lt (x := m) (y := m ||| ((1 : Int32) <<< (nI j &&& 31))) (j := j) 12 (by omega) (fun i _ q => by rw [b_or, q]; rfl) h ((b_orone (by omega)).mpr (Or.inr rfl))
  omega
/-- as long as no member is of the first one, the ring goes on -/
theorem ring_on {n np f : Nat} {m : Int32} {M : Mm} (hN : netC n np M) (hG : gr n np M) (hf : f < n) (hr : bt m f = true ∨ ∃ x, x < n ∧ bt m x = true ∧ bt (M.1 20 x) f = true) : ∀ i, (∀ j, j < i → bt (rg n (M.1 19) (M.1 20) f m j).2 f = false) → (bt (rg n (M.1 19) (M.1 20) f m i).2 f = true ∨ ∃ x, x < n ∧ bt (rg n (M.1 19) (M.1 20) f m i).2 x = true ∧ bt (M.1 20 x) f = true) ∧ (0 < i → (rg n (M.1 19) (M.1 20) f m i).1 < n ∧ bt (M.1 20 (rg n (M.1 19) (M.1 20) f m i).1) f = true ∧ cnt (M.1 20 (rg n (M.1 19) (M.1 20) f m i).1) 12 + i ≤ n)
  | 0, _ => ⟨hr, fun q => absurd q (Nat.lt_irrefl 0)⟩
  | i + 1, h => by
    have hn := hN.1
    obtain ⟨h1, h2⟩ := ring_on hN hG hf hr i (fun j hj => h j (by omega))
    have hnot := h i (by omega)
    have hex : ∃ x, x < n ∧ bt (rg n (M.1 19) (M.1 20) f m i).2 x = true ∧ bt (M.1 20 x) f = true := h1.resolve_left (fun q => by rw [hnot] at q; cases q)
    obtain ⟨a, b, c, d⟩ := rg_next hex
    refine ⟨?_, fun _ => ⟨a, c, ?_⟩⟩
    · rw [rg_2]
      rcases TC_cut ((hG.2.2.1 _ a f).mp c) with q | ⟨x, hx, q1, q2⟩
      · exact Or.inl q
      · exact Or.inr ⟨x, hx, q1, (hG.2.2.1 x hx f).mpr q2⟩
    · cases i with
      | zero =>
        have := cnt_low_lt hn (low_H hN hG a) a (hG.2.2.2.1 _ a)
        omega
      | succ i =>
        obtain ⟨z1, z2, z3⟩ := h2 (by omega)
        have he : EC M (rg n (M.1 19) (M.1 20) f m (i + 1)).1 (rg n (M.1 19) (M.1 20) f m (i + 1 + 1)).1 := by
          unfold EC
          exact b
        have := EC_rank hN hG z1 he
        omega
theorem ring_end {n np f : Nat} {m : Int32} {M : Mm} (hN : netC n np M) (hG : gr n np M) (hf : f < n) (hr : bt m f = true ∨ ∃ x, x < n ∧ bt m x = true ∧ bt (M.1 20 x) f = true) : ∃ L, L < n ∧ bt (rg n (M.1 19) (M.1 20) f m L).2 f = true ∧ ∀ j, j < L → bt (rg n (M.1 19) (M.1 20) f m j).2 f = false := by
  have hn := hN.1
  have hex : ∃ k, bt (rg n (M.1 19) (M.1 20) f m k).2 f = true := by
    apply Classical.byContradiction
    intro hno
    have hall : ∀ j, bt (rg n (M.1 19) (M.1 20) f m j).2 f = false := fun j => by
      cases hb : bt (rg n (M.1 19) (M.1 20) f m j).2 f with
      | false => rfl
      | true => exact absurd ⟨j, hb⟩ hno
    have := ((ring_on hN hG hf hr (n + 1) (fun j _ => hall j)).2 (by omega)).2.2
    omega
  obtain ⟨L, h1, h2⟩ := pk_least _ hex
  have h3 : ∀ j, j < L → bt (rg n (M.1 19) (M.1 20) f m j).2 f = false := fun j hj => by
    cases hb : bt (rg n (M.1 19) (M.1 20) f m j).2 f with
    | false => rfl
    | true => exact absurd hb (h2 j hj)
  refine ⟨L, ?_, h1, h3⟩
  cases L with
  | zero => omega
  | succ L =>
    obtain ⟨z1, z2, z3⟩ := (ring_on hN hG hf hr (L + 1) h3).2 (by omega)
    have := cnt_pos (by omega) z2
    omega
theorem least_run {N n f g : Nat} {d : Int32} {M : Mm} (hN : 100 < N) (hn : n ≤ 12) (hf : f < 12) (hc : M.1 2 6 = nI n) (hg : g < n) (h1 : bt d g = true) (h2 : bt (M.1 20 g) f = true) (h3 : ∀ x, x < g → ¬ (bt d x = true ∧ bt (M.1 20 x) f = true)) : FX0_leastHanging N d (nI f) M = some (nI g) := by
  rw [eFX0_leastHanging]
  refine lp_up (fun i (q : Int32 × Int32 × Int32) => q = (d, nI f, nI i)) (fun o => o = some (nI g)) g N _ rfl (by omega) ?_ ?_
  · rintro i _ K hi rfl
    left
    refine ⟨_, rfl, ?_⟩
    rw [eBX0_leastHanging_2]
    dsimp only
    rw [hc, if_neg (lt_nI (show i < n by omega) (by omega)), hasBit_run _ (by omega), Option.bind_some, nI_1]
    cases hb : bt d i with
    | false => rw [if_pos (by rfl)]
    | true =>
      have hb2 : bt (M.1 20 i) f = false := by
        cases hq : bt (M.1 20 i) f with
        | false => rfl
        | true => exact absurd ⟨hb, hq⟩ (h3 i hi)
      rw [if_neg (by decide), rdI_nI (by omega) (by decide), Option.bind_some, hasBit_run _ (by omega), Option.bind_some, hb2, if_pos (by rfl)]
  · rintro _ K rfl
    rw [eBX0_leastHanging_2]
    dsimp only
    rw [hc, if_neg (lt_nI hg (by omega)), hasBit_run _ (by omega), Option.bind_some, h1, if_neg (by decide), rdI_nI (by omega) (by decide), Option.bind_some, hasBit_run _ (by omega), Option.bind_some, h2, if_neg (by decide)]
theorem follow_run {N n np f L : Nat} {m : Int32} {M : Mm} (hN0 : 100 < N) (hN : netC n np M) (hG : gr n np M) (hf : f < n) (hr : bt m f = true ∨ ∃ x, x < n ∧ bt m x = true ∧ bt (M.1 20 x) f = true) (hL : L < n) (hL1 : bt (rg n (M.1 19) (M.1 20) f m L).2 f = true) (hL2 : ∀ j, j < L → bt (rg n (M.1 19) (M.1 20) f m j).2 f = false) : ∃ M1, FX4_follow N (nI f) m M = some M1 ∧ M1.2 = M.2 ∧ (∀ z, z ≠ 30 → z ≠ 31 → M1.1 z = M.1 z) ∧ M1.1 30 1 = nI (L + 1) ∧ ∀ j, j ≤ L → M1.1 31 j = nI (rg n (M.1 19) (M.1 20) f m j).1 := by
  have hn := hN.1
  have hc := hN.2.2.1
  have mem : ∀ i, i ≤ L → (rg n (M.1 19) (M.1 20) f m i).1 < n := fun i hi => by
    cases i with
    | zero => exact hf
    | succ i => exact ((ring_on hN hG hf hr (i + 1) (fun j hj => hL2 j (by omega))).2 (by omega)).1
  rw [eFX4_follow]
  show ∃ M1, ((some (up1 M 30 1 0)).bind fun M1 => lp (BX4_follow_11 N) N (nI f, nI f, m, M1)) = some M1 ∧ _
  rw [Option.bind_some]
  refine lp_up (fun i (q : Int32 × Int32 × Int32 × Mm) => q.1 = nI f ∧ q.2.1 = nI (rg n (M.1 19) (M.1 20) f m i).1 ∧ q.2.2.1 = (rg n (M.1 19) (M.1 20) f m i).2 ∧ q.2.2.2.2 = M.2 ∧ (∀ z, z ≠ 30 → z ≠ 31 → q.2.2.2.1 z = M.1 z) ∧ q.2.2.2.1 30 1 = nI i ∧ ∀ j, j < i → q.2.2.2.1 31 j = nI (rg n (M.1 19) (M.1 20) f m j).1) (fun o => ∃ M1 : Mm, o = some M1 ∧ M1.2 = M.2 ∧ (∀ z, z ≠ 30 → z ≠ 31 → M1.1 z = M.1 z) ∧ M1.1 30 1 = nI (L + 1) ∧ ∀ j, j ≤ L → M1.1 31 j = nI (rg n (M.1 19) (M.1 20) f m j).1) L N _ ⟨rfl, rfl, rfl, rfl, fun z h1 _ => up1_ne h1, by rw [up1_same, if_pos rfl]; rfl, fun j hj => absurd hj (Nat.not_lt_zero _)⟩ (by omega) ?_ ?_
  · rintro i ⟨x1, x2, x3, Q⟩ K hi ⟨e1, e2, e3, s2, s1, g1, g2⟩
    dsimp only at e1 e2 e3 s2 s1 g1 g2
    subst e1
    subst e2
    subst e3
    have hm := mem i (by omega)
    have hex := (ring_on hN hG hf hr i (fun j hj => hL2 j (by omega))).1.resolve_left (fun q => by rw [hL2 i hi] at q; cases q)
    obtain ⟨a, b, c, d⟩ := rg_next hex
    left
    obtain ⟨R, hR⟩ : ∃ R, R = up1 (up1 Q 31 i (nI (rg n (M.1 19) (M.1 20) f m i).1)) 30 1 (nI (i + 1)) := ⟨_, rfl⟩
    have rx : ∀ z, z ≠ 30 → z ≠ 31 → R.1 z = M.1 z := fun z h1 h2 => by rw [hR, up1_ne h1, up1_ne h2]; exact s1 z h1 h2
    have n9 : ¬ nI (rg n (M.1 19) (M.1 20) f m i).1 = (-9) := fun q => by
      have := nI_pos (n := (rg n (M.1 19) (M.1 20) f m i).1) (by omega)
      rw [q] at this
      exact this (by decide)
    have n9' : ¬ nI (rg n (M.1 19) (M.1 20) f m (i + 1)).1 = (-9) := fun q => by
      have := nI_pos (n := (rg n (M.1 19) (M.1 20) f m (i + 1)).1) (by omega)
      rw [q] at this
      exact this (by decide)
    rw [eBX4_follow_11]
    dsimp only
    rw [g1, if_neg (show ¬ (12 : Int32) ≤ nI i from lt_nI (n := 12) (by omega) (by decide)), if_neg n9, wrI_nI (by omega) (by decide), Option.bind_some]
    have e30 : (up1 Q 31 i (nI (rg n (M.1 19) (M.1 20) f m i).1)).1 30 1 = nI i := by rw [up1_ne (by decide)]; exact g1
    show ∃ a', _ ∧ ((some (up1 (up1 Q 31 i (nI (rg n (M.1 19) (M.1 20) f m i).1)) 30 1 ((up1 Q 31 i (nI (rg n (M.1 19) (M.1 20) f m i).1)).1 30 1 + 1))).bind fun M5 => _) = K a'
    rw [e30, nI_1, ← hR, Option.bind_some, hasBit_run _ (by omega), Option.bind_some, hL2 i hi, if_pos (by rfl), least_run hN0 hn (by omega) (by rw [rx 2 (by decide) (by decide)]; exact hc) a b (by rw [rx 20 (by decide) (by decide)]; exact c) (by rw [rx 20 (by decide) (by decide)]; exact d), Option.bind_some, if_neg n9', rdI_nI (by omega) (by decide), Option.bind_some, rx 19 (by decide) (by decide)]
    refine ⟨_, ⟨rfl, rfl, rfl, ?_, rx, ?_, fun j hj => ?_⟩, rfl⟩
    · dsimp only; rw [hR]; exact s2
    · dsimp only; rw [hR, up1_same, if_pos rfl]
    · dsimp only
      rw [hR, up1_ne (by decide), up1_same]
      by_cases e : j = i
      · rw [if_pos e, e]
      · rw [if_neg e]; exact g2 j (by omega)
  · rintro ⟨x1, x2, x3, Q⟩ K ⟨e1, e2, e3, s2, s1, g1, g2⟩
    dsimp only at e1 e2 e3 s2 s1 g1 g2
    subst e1
    subst e2
    subst e3
    have hm := mem L (by omega)
    have n9 : ¬ nI (rg n (M.1 19) (M.1 20) f m L).1 = (-9) := fun q => by
      have := nI_pos (n := (rg n (M.1 19) (M.1 20) f m L).1) (by omega)
      rw [q] at this
      exact this (by decide)
    rw [eBX4_follow_11]
    dsimp only
    rw [g1, if_neg (show ¬ (12 : Int32) ≤ nI L from lt_nI (n := 12) (by omega) (by decide)), if_neg n9, wrI_nI (by omega) (by decide), Option.bind_some]
    have e30 : (up1 Q 31 L (nI (rg n (M.1 19) (M.1 20) f m L).1)).1 30 1 = nI L := by rw [up1_ne (by decide)]; exact g1
    show ∃ M1 : Mm, ((some (up1 (up1 Q 31 L (nI (rg n (M.1 19) (M.1 20) f m L).1)) 30 1 ((up1 Q 31 L (nI (rg n (M.1 19) (M.1 20) f m L).1)).1 30 1 + 1))).bind fun M5 => _) = some M1 ∧ _
    rw [e30, nI_1, Option.bind_some, hasBit_run _ (by omega), Option.bind_some, hL1, if_neg (by decide)]
    refine ⟨_, rfl, s2, fun z h1 h2 => ?_, ?_, fun j hj => ?_⟩
    · rw [up1_ne h1, up1_ne h2]; exact s1 z h1 h2
    · rw [up1_same, if_pos rfl]
    · rw [up1_ne (by decide), up1_same]
      by_cases e : j = L
      · rw [if_pos e, e]
      · rw [if_neg e]; exact g2 j (by omega)
