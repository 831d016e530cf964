/-! ===== the reference's comesTo, findRing ===== -/
theorem b_xor (x y : Int32) (i : Nat) : bt (x ^^^ y) i = (bt x i != bt y i) := by unfold bt; rw [Int32.toBitVec_xor, BitVec.getLsbD_xor]
theorem b_m1 : ∀ i, i < 32 → bt (-1) i = true := by decide +kernel
theorem b_andn (x y : Int32) (i : Nat) : bt (x &&& (y ^^^ (-1))) i = true ↔ bt x i = true ∧ bt y i = false := by
  rcases Nat.lt_or_ge i 32 with h | h
  · rw [b_and, b_xor, b_m1 i h]
    cases bt x i <;> cases bt y i <;> decide
  · rw [b_big h, b_big h]
    constructor
    · intro q; cases q
    · rintro ⟨q, _⟩; cases q
/-- reached from s0 by at most j steps, past none of a set -/
def avR (E : Nat → Nat → Prop) (W : Nat → Prop) (s0 : Nat) : Nat → Nat → Prop
  | 0, x => x = s0
  | j + 1, x => avR E W s0 j x ∨ ∃ y, avR E W s0 j y ∧ E y x ∧ ¬ W x
theorem avR_mono {E : Nat → Nat → Prop} {W : Nat → Prop} {s0 j x : Nat} (h : avR E W s0 j x) : ∀ k, j ≤ k → avR E W s0 k x
  | 0, hk => by
    have : j = 0 := by omega
    subst this; exact h
  | k + 1, hk => by
    by_cases e : j = k + 1
    · subst e; exact h
    · exact Or.inl (avR_mono h k (by omega))
theorem avR_path {E : Nat → Nat → Prop} {W : Nat → Prop} {s0 n f : Nat} (hac : ∀ a, a < n → ¬ TC E n a a) : ∀ (k j x : Nat), x < n → avR E W s0 j x → (∀ g, W g → g = f ∨ (g < n ∧ TC E n g x)) → pth E n k x f → ∃ p, avR E W s0 (j + k) p ∧ E p f
  | 0, j, x, hx, h1, h2, hp => ⟨x, h1, hp⟩
  | k + 1, j, x, hx, h1, h2, ⟨h, hh, he, hp⟩ => by
    by_cases e : h = f
    · subst e
      exact ⟨x, avR_mono h1 _ (by omega), he⟩
    · have hw : ¬ W h := fun q => by
        rcases h2 h q with z | ⟨z1, z2⟩
        · exact e z
        · exact hac h hh (TC_t hx z2 (TC_e he))
      obtain ⟨p, a, b⟩ := avR_path hac k (j + 1) h hh (Or.inr ⟨x, h1, he, hw⟩) (fun g hg => by
        rcases h2 g hg with z | ⟨z1, z2⟩
        · exact Or.inl z
        · exact Or.inr ⟨z1, TC_t hx z2 (TC_e he)⟩) hp
      exact ⟨p, by rw [show j + (k + 1) = j + 1 + k by omega]; exact a, b⟩
theorem comes_in {N n f s0 j : Nat} {D : Nat → Int32} {M : Mm} {wo S0 : Int32} {K8 : Int32 × Int32 × Int32 × Int32 → Option Int32} {P : Option Int32 → Prop} (hN : 100 < N) (hn : n ≤ 12) (hf : f < n) (hs : s0 < n) (hc : M.1 69 0 = nI n) (h78 : ∀ x, x < n → x ≠ f → M.1 78 x = D x) (hD : ∀ a b, a < n → bt (D a) b = true → b < n) (hwf : bt wo f = true) (hS : ∀ x, bt S0 x = true → x < n ∧ x ≠ f ∧ (x = s0 ∨ TC (fun a b => bt (D a) b = true) n s0 x)) (hhit : TC (fun a b => bt (D a) b = true) n s0 f → P (some 1))
    (hk : ∀ S : Int32, (∀ x, bt S x = true → x < n ∧ x ≠ f ∧ (x = s0 ∨ TC (fun a b => bt (D a) b = true) n s0 x)) → (∀ x, bt S0 x = true → bt S x = true) → (∀ y, bt S0 y = true → (∀ z, bt (D y) z = true → bt wo z = false → bt S z = true) ∧ bt (D y) f = false) → P (K8 (nI f, wo, S, nI (j + 1)))) : P (lp (BX10_comesTo_18 N M K8) N (nI f, wo, S0, nI j, 0)) := by
  refine lp_up (fun i (q : Int32 × Int32 × Int32 × Int32 × Int32) => q.1 = nI f ∧ q.2.1 = wo ∧ q.2.2.2.1 = nI j ∧ q.2.2.2.2 = nI i ∧ (∀ x, bt q.2.2.1 x = true → x < n ∧ x ≠ f ∧ (x = s0 ∨ TC (fun a b => bt (D a) b = true) n s0 x)) ∧ (∀ x, bt S0 x = true → bt q.2.2.1 x = true) ∧ ∀ y, y < i → bt S0 y = true → (∀ z, bt (D y) z = true → bt wo z = false → bt q.2.2.1 z = true) ∧ bt (D y) f = false) P n N _ ⟨rfl, rfl, rfl, rfl, hS, fun _ h => h, fun y hy => absurd hy (Nat.not_lt_zero _)⟩ (by omega) ?_ ?_
  · rintro i ⟨x1, x2, S, x4, x5⟩ K hi ⟨e1, e2, e4, e5, g1, g2, g3⟩
    dsimp only at e1 e2 e4 e5 g1 g2 g3
    subst e1
    subst e2
    subst e4
    subst e5
    rw [eBX10_comesTo_18]
    dsimp only
    rw [hc, if_neg (lt_nI hi (by omega))]
    by_cases hb : bt S i = true
    · obtain ⟨z1, z2, z3⟩ := g1 i hb
      have e78 := h78 i z1 z2
      rw [if_pos ((b_set _ (by omega)).mpr hb), rdI_nI (by omega) (by decide), Option.bind_some, e78, eBX10_comesTo_55]
      have hb2 : bt (S ||| (D i &&& (x2 ^^^ (-1)))) i = true := by rw [b_or, hb]; rfl
      rw [if_pos ((b_set _ (by omega)).mpr hb2), rdI_nI (by omega) (by decide), Option.bind_some, e78]
      by_cases ht : bt (D i) f = true
      · right
        rw [if_pos ((b_set _ (by omega)).mpr ht)]
        apply hhit
        rcases z3 with q | q
        · subst q; exact TC_e ht
        · exact TC_t z1 q (TC_e ht)
      · left
        rw [if_neg (fun q => ht ((b_set _ (by omega)).mp q)), nI_1]
        refine ⟨_, ⟨rfl, rfl, rfl, rfl, fun x hx => ?_, fun x hx => ?_, fun y hy hys => ?_⟩, rfl⟩
        · dsimp only at hx
          rw [b_or, Bool.or_eq_true, b_andn] at hx
          rcases hx with hx | ⟨hx1, hx2⟩
          · exact g1 x hx
          · refine ⟨hD i x z1 hx1, (fun q => by rw [q, hwf] at hx2; cases hx2), Or.inr ?_⟩
            rcases z3 with q | q
            · subst q; exact TC_e hx1
            · exact TC_t z1 q (TC_e hx1)
        · dsimp only
          rw [b_or, g2 x hx]; rfl
        · dsimp only
          by_cases e : y = i
          · subst e
            refine ⟨fun z hz1 hz2 => ?_, by simpa using ht⟩
            rw [b_or, Bool.or_eq_true, b_andn]
            exact Or.inr ⟨hz1, hz2⟩
          · obtain ⟨w1, w2⟩ := g3 y (by omega) hys
            refine ⟨fun z hz1 hz2 => ?_, w2⟩
            rw [b_or, w1 z hz1 hz2]; rfl
    · rw [if_neg (fun q => hb ((b_set _ (by omega)).mp q)), eBX10_comesTo_55, or_0, if_neg (fun q => hb ((b_set _ (by omega)).mp q)), nI_1]
      left
      refine ⟨_, ⟨rfl, rfl, rfl, rfl, g1, g2, fun y hy hys => ?_⟩, rfl⟩
      dsimp only
      by_cases e : y = i
      · subst e; exact absurd (g2 y hys) hb
      · exact g3 y (by omega) hys
  · rintro ⟨x1, x2, S, x4, x5⟩ K ⟨e1, e2, e4, e5, g1, g2, g3⟩
    dsimp only at e1 e2 e4 e5 g1 g2 g3
    subst e1
    subst e2
    subst e4
    subst e5
    rw [eBX10_comesTo_18]
    dsimp only
    rw [hc, if_pos (le_nI n (by omega)), nI_1]
    exact hk S g1 g2 (fun y hy => g3 y (hS y hy).1 hy)
theorem comes_run {N n f s0 : Nat} {D : Nat → Int32} {M : Mm} {wo : Int32} (hN : 100 < N) (hn : n ≤ 12) (hf : f < n) (hs : s0 < n) (hsf : s0 ≠ f) (hc : M.1 69 0 = nI n) (h78 : ∀ x, x < n → x ≠ f → M.1 78 x = D x) (hD : ∀ a b, a < n → bt (D a) b = true → b < n) (hwf : bt wo f = true) (hac : ∀ a, a < n → ¬ TC (fun a b => bt (D a) b = true) n a a) (hsh : ∀ k a b, a < n → pth (fun a b => bt (D a) b = true) n k a b → k < n) (hin : ∀ g, bt wo g = true → g = f ∨ (g < n ∧ TC (fun a b => bt (D a) b = true) n g s0)) : (TC (fun a b => bt (D a) b = true) n s0 f → FX10_comesTo N (nI s0) (nI f) wo M = some 1) ∧ (¬ TC (fun a b => bt (D a) b = true) n s0 f → FX10_comesTo N (nI s0) (nI f) wo M = some 0) := by
  rw [eFX10_comesTo]
  have one : ∀ x, bt ((1 : Int32) <<< (nI s0 &&& 31)) x = true ↔ x = s0 := fun x => by
    have h2 := b_orone (m := 0) (f := s0) (b := x) (by omega)
    rw [b_or, b_0, Bool.false_or] at h2
    rw [h2]
    exact ⟨fun h => h.elim (fun h => by cases h) id, Or.inr⟩
  refine lp_up (fun j (q : Int32 × Int32 × Int32 × Int32) => q.1 = nI f ∧ q.2.1 = wo ∧ q.2.2.2 = nI j ∧ (∀ x, bt q.2.2.1 x = true → x < n ∧ x ≠ f ∧ (x = s0 ∨ TC (fun a b => bt (D a) b = true) n s0 x)) ∧ (∀ x, avR (fun a b => bt (D a) b = true) (fun g => bt wo g = true) s0 j x → bt q.2.2.1 x = true) ∧ ∀ j', j' < j → ∀ x, avR (fun a b => bt (D a) b = true) (fun g => bt wo g = true) s0 j' x → bt (D x) f = false) (fun o => (TC (fun a b => bt (D a) b = true) n s0 f → o = some 1) ∧ (¬ TC (fun a b => bt (D a) b = true) n s0 f → o = some 0)) 12 N _ ⟨rfl, rfl, rfl, fun x hx => ?_, fun x hx => (one x).mpr hx, fun j' hj => absurd hj (Nat.not_lt_zero _)⟩ (by omega) ?_ ?_
  · have e := (one x).mp hx
    subst e
    exact ⟨hs, hsf, Or.inl rfl⟩
  · rintro j ⟨x1, x2, S, x4⟩ K hj ⟨e1, e2, e4, g1, g2, g3⟩
    dsimp only at e1 e2 e4 g1 g2 g3
    subst e1
    subst e2
    subst e4
    rw [eBX10_comesTo_8]
    dsimp only
    rw [if_neg (show ¬ (12 : Int32) ≤ nI j from lt_nI (n := 12) hj (by decide))]
    refine comes_in (D := D) (s0 := s0) (P := fun o => (∃ a' : Int32 × Int32 × Int32 × Int32, (a'.1 = nI f ∧ a'.2.1 = x2 ∧ a'.2.2.2 = nI (j + 1) ∧ (∀ x, bt a'.2.2.1 x = true → x < n ∧ x ≠ f ∧ (x = s0 ∨ TC (fun a b => bt (D a) b = true) n s0 x)) ∧ (∀ x, avR (fun a b => bt (D a) b = true) (fun g => bt x2 g = true) s0 (j + 1) x → bt a'.2.2.1 x = true) ∧ ∀ j', j' < j + 1 → ∀ x, avR (fun a b => bt (D a) b = true) (fun g => bt x2 g = true) s0 j' x → bt (D x) f = false) ∧ o = K a') ∨ ((TC (fun a b => bt (D a) b = true) n s0 f → o = some 1) ∧ (¬ TC (fun a b => bt (D a) b = true) n s0 f → o = some 0))) hN hn hf hs hc h78 hD hwf g1 (fun ht => Or.inr ⟨fun _ => rfl, fun q => absurd ht q⟩) (fun S' w1 w2 w3 => Or.inl ⟨_, ⟨rfl, rfl, rfl, w1, fun x hx => ?_, fun j' hj' x hx => ?_⟩, rfl⟩)
    · dsimp only
      rcases hx with hx | ⟨y, hy, he, hw⟩
      · exact w2 x (g2 x hx)
      · exact (w3 y (g2 y hy)).1 x he (by simpa using hw)
    · by_cases e : j' = j
      · subst e; exact (w3 x (g2 x hx)).2
      · exact g3 j' (by omega) x hx
  · rintro ⟨x1, x2, S, x4⟩ K ⟨e1, e2, e4, g1, g2, g3⟩
    dsimp only at e1 e2 e4 g1 g2 g3
    subst e1
    subst e2
    subst e4
    rw [eBX10_comesTo_8]
    dsimp only
    rw [if_pos (by decide)]
    refine ⟨fun ht => ?_, fun _ => rfl⟩
    exfalso
    obtain ⟨k, hk⟩ := ht
    have hkn := hsh k s0 f hs hk
    obtain ⟨p, hp1, hp2⟩ := avR_path (W := fun g => bt x2 g = true) (s0 := s0) hac k 0 s0 hs rfl hin hk
    have := g3 k (by omega) p (by rw [Nat.zero_add] at hp1; exact hp1)
    rw [hp2] at this
    cases this
