/-! ===== the reference's findHangs ===== -/
def sameR (M M' : Mm) : Prop := (∀ a, a ≠ 78 → a ≠ 79 → M'.1 a = M.1 a) ∧ ∀ a, a ≠ 80 → M'.2 a = M.2 a
theorem sameR_rf (M : Mm) : sameR M M := ⟨fun _ _ _ => rfl, fun _ _ => rfl⟩
theorem sameR_t {M M1 M2 : Mm} (h1 : sameR M M1) (h2 : sameR M1 M2) : sameR M M2 := ⟨fun a x y => (h2.1 a x y).trans (h1.1 a x y), fun a x => (h2.2 a x).trans (h1.2 a x)⟩
theorem sameR_79 {j : Nat} {v : Int32} {M M' : Mm} (h : sameR M M') : sameR M (up1 M' 79 j v) := ⟨fun a x y => by rw [up1_ne y]; exact h.1 a x y, h.2⟩
theorem sameR_78 {j : Nat} {v : Int32} {M M' : Mm} (h : sameR M M') : sameR M (up1 M' 78 j v) := ⟨fun a x y => by rw [up1_ne x]; exact h.1 a x y, h.2⟩
theorem sameR_80 {j : Nat} {v : Int64} {M M' : Mm} (h : sameR M M') : sameR M (up2 M' 80 j v) := ⟨h.1, fun a x => by rw [up2_ne x]; exact h.2 a x⟩
theorem sameX_R {M M' : Mm} (h : sameX 79 M M') : sameR M M' := ⟨fun a _ y => h.2 a y, fun a _ => by rw [h.1]⟩
/-- the parts that the SHOW and the MAKE of field f are of (reference's cells) -/
def NdP (np : Nat) (M : Mm) (f k : Nat) : Prop := RLp np (M.1 74) (M.1 75) (M.1 76) (M.1 77) (M.1 73 (4 * f)) k ∨ RLp np (M.1 74) (M.1 75) (M.1 76) (M.1 77) (M.1 73 (4 * f + 3)) k
/-- the fields whose answers they are of -/
def Dm (np : Nat) (M : Mm) (f g : Nat) : Prop := g < 12 ∧ ∃ k, k < np ∧ NdP np M f k ∧ opF (M.1 74 k) = true ∧ M.1 75 k = nI g
theorem NdP_same {np : Nat} {M M' : Mm} (h : sameR M M') {f k : Nat} : NdP np M' f k ↔ NdP np M f k := by
  unfold NdP
  rw [h.1 73 (by decide) (by decide), h.1 74 (by decide) (by decide), h.1 75 (by decide) (by decide), h.1 76 (by decide) (by decide), h.1 77 (by decide) (by decide)]
theorem findH1 {N n np : Nat} {M : Mm} {P : Option Mm → Prop} (hN : 60 < N) (hn : n ≤ 12) (hnp : np ≤ 50) (hc : M.1 69 0 = nI n) (hcp : M.1 69 5 = nI np) (hok : ops_ok np (M.1 74) (M.1 75) (M.1 76) (M.1 77)) (hf : ∀ k, k < np → opF (M.1 74 k) = true → ∃ g, g < 12 ∧ M.1 75 k = nI g) (hr : ∀ f, f < n → rlok np (M.1 73 (4 * f)) ∧ rlok np (M.1 73 (4 * f + 3)))
    (hk : ∀ M1, sameR M M1 → (∀ f, f < n → (∀ k, bl (M1.2 80 f) k = true ↔ NdP np M f k) ∧ (∀ g, bt (M1.1 78 f) g = true ↔ Dm np M f g) ∧ M1.1 79 f = M1.1 78 f) → P (lp (BX10_findHangs_57 N) N (0, M1))) : P (FX10_findHangs N M) := by
  unfold FX10_findHangs
  refine lp_up (fun i (q : Int32 × Mm) => q.1 = nI i ∧ sameR M q.2 ∧ ∀ f, f < i → (∀ k, bl (q.2.2 80 f) k = true ↔ NdP np M f k) ∧ (∀ g, bt (q.2.1 78 f) g = true ↔ Dm np M f g) ∧ q.2.1 79 f = q.2.1 78 f) P n N (0, M) ⟨rfl, sameR_rf M, fun f h => absurd h (Nat.not_lt_zero _)⟩ (by omega) ?_ ?_
  · rintro i ⟨x, Q⟩ K hi ⟨h1, h2, h3⟩
    dsimp only at h1 h2 h3
    subst h1
    obtain ⟨S, e1, e2⟩ := needsOf_run (N := N) (f := i) (M := Q) hN hnp (by omega) (by rw [h2.1 74 (by decide) (by decide), h2.1 75 (by decide) (by decide), h2.1 76 (by decide) (by decide), h2.1 77 (by decide) (by decide)]; exact hok) (by rw [h2.1 73 (by decide) (by decide)]; exact (hr i hi).1) (by rw [h2.1 73 (by decide) (by decide)]; exact (hr i hi).2)
    have e2 : ∀ k, bl S k = true ↔ NdP np M i k := fun k => (e2 k).trans (NdP_same h2)
    have s4 : sameR M (up2 Q 80 i S) := sameR_80 h2
    obtain ⟨m, g1, g2⟩ := fieldsOf_run (N := N) (np := np) (M := up2 Q 80 i S) (S := S) hN hnp (by rw [s4.1 69 (by decide) (by decide)]; exact hcp) (by rw [s4.1 74 (by decide) (by decide), s4.1 75 (by decide) (by decide)]; exact hf)
    rw [s4.1 74 (by decide) (by decide), s4.1 75 (by decide) (by decide)] at g2
    have g2 : ∀ g, bt m g = true ↔ Dm np M i g := fun g => by
      rw [g2 g]
      unfold Dm
      refine and_congr Iff.rfl ⟨fun ⟨k, a, b, c⟩ => ⟨k, a, (e2 k).mp b, c⟩, fun ⟨k, a, b, c⟩ => ⟨k, a, (e2 k).mpr b, c⟩⟩
    left
    refine ⟨(nI (i + 1), up1 (up1 (up2 Q 80 i S) 78 i m) 79 i m), ⟨rfl, sameR_79 (sameR_78 s4), fun f hfi => ?_⟩, ?_⟩
    · dsimp only
      rw [up1_2, up1_2, up2_same, up1_ne (a := 78) (by decide), up1_same, up1_same]
      by_cases e : f = i
      · subst e
        rw [if_pos rfl, if_pos rfl, if_pos rfl]
        exact ⟨e2, g2, rfl⟩
      · rw [if_neg e, if_neg e, if_neg e, up1_ne (a := 79) (by decide), up2_1]
        exact h3 f (by omega)
    · rw [eBX10_findHangs_2]
      dsimp only
      rw [h2.1 69 (by decide) (by decide), hc, if_neg (lt_nI hi (by omega)), e1, Option.bind_some, wrL_nI (by omega) (by decide), Option.bind_some, rdL_nI (by omega) (by decide), Option.bind_some, up2_same, if_pos rfl, g1, Option.bind_some, wrI_nI (by omega) (by decide), Option.bind_some, rdI_nI (by omega) (by decide), Option.bind_some, up1_same, if_pos rfl, wrI_nI (by omega) (by decide), Option.bind_some, nI_1]
  · rintro ⟨x, Q⟩ K ⟨h1, h2, h3⟩
    dsimp only at h1 h2 h3
    subst h1
    rw [eBX10_findHangs_2]
    dsimp only
    rw [h2.1 69 (by decide) (by decide), hc, if_pos (le_nI n (by omega))]
    exact hk Q h2 h3
theorem or_0 (y : Int32) : y ||| 0 = y := b_ext (fun j _ => by rw [b_or, b_0, Bool.or_false])
theorem b_set (m : Int32) {i : Nat} (hi : i < 32) : ((m >>> (nI i &&& 31)) &&& 1 = 1) ↔ bt m i = true := by
  rw [b_get m hi]
  cases bt m i <;> decide
/-- one row of a round -/
theorem findH3 {N n f : Nat} {M : Mm} {x : Int32} {K57 : Int32 × Mm → Option Mm} {K67 : Int32 × Int32 × Mm → Option Mm} {P : Option Mm → Prop} {E : Nat → Nat → Prop} (hN : 60 < N) (hn : n ≤ 12) (hfn : f < n) (hc : M.1 69 0 = nI n) (hs : ∀ a, a < n → ∀ b, bt (M.1 79 a) b = true → TC E n a b) (hlow : ∀ a, a < n → ∀ b, bt (M.1 79 a) b = true → b < n)
    (hk : ∀ M1, sameX 79 M M1 → (∀ a, a ≠ f → M1.1 79 a = M.1 79 a) → (∀ b, bt (M.1 79 f) b = true → bt (M1.1 79 f) b = true) → (∀ h b, h < n → bt (M.1 79 f) h = true → bt (M.1 79 h) b = true → bt (M1.1 79 f) b = true) → (∀ b, bt (M1.1 79 f) b = true → TC E n f b) → (∀ b, bt (M1.1 79 f) b = true → b < n) → P (K67 (x, nI (f + 1), M1))) : P (lp (BX10_findHangs_77 N K57 K67) N (x, nI f, 0, M)) := by
  refine lp_up (fun i (q : Int32 × Int32 × Int32 × Mm) => q.1 = x ∧ q.2.1 = nI f ∧ q.2.2.1 = nI i ∧ sameX 79 M q.2.2.2 ∧ (∀ a, a ≠ f → q.2.2.2.1 79 a = M.1 79 a) ∧ (∀ b, bt (M.1 79 f) b = true → bt (q.2.2.2.1 79 f) b = true) ∧ (∀ h b, h < i → bt (M.1 79 f) h = true → bt (M.1 79 h) b = true → bt (q.2.2.2.1 79 f) b = true) ∧ (∀ b, bt (q.2.2.2.1 79 f) b = true → TC E n f b) ∧ ∀ b, bt (q.2.2.2.1 79 f) b = true → b < n) P n N (x, nI f, 0, M) ⟨rfl, rfl, rfl, sameX_rf 79 M, fun _ _ => rfl, fun _ h => h, fun h b hh => absurd hh (Nat.not_lt_zero _), hs f hfn, hlow f hfn⟩ (by omega) ?_ ?_
  · rintro i ⟨x', y, z, Q⟩ K hi ⟨h0, h1, h2, h3, h4, h5, h6, h7, h8⟩
    dsimp only at h0 h1 h2 h3 h4 h5 h6 h7 h8
    subst h0
    subst h1
    subst h2
    left
    rw [eBX10_findHangs_77]
    dsimp only
    rw [h3.2 69 (by decide), hc, if_neg (lt_nI hi (by omega))]
    simp (disch := omega) only [rdI_nI, Option.bind_some]
    by_cases hb : bt (Q.1 79 f) i = true
    · rw [if_pos ((b_set _ (by omega)).mpr hb)]
      simp (disch := omega) only [wrI_nI, Option.bind_some]
      refine ⟨(x', nI f, nI (i + 1), up1 Q 79 f (Q.1 79 f ||| Q.1 79 i)), ⟨rfl, rfl, rfl, sameX_up h3, fun a ha => ?_, fun b hb1 => ?_, fun h b hh hb1 hb2 => ?_, fun b hb1 => ?_, fun b hb1 => ?_⟩, by rw [nI_1]⟩
      · dsimp only
        rw [up1_same, if_neg ha]; exact h4 a ha
      · dsimp only
        rw [up1_same, if_pos rfl, b_or, h5 b hb1]; rfl
      · dsimp only
        rw [up1_same, if_pos rfl, b_or, Bool.or_eq_true]
        by_cases e : h = i
        · subst e
          right
          by_cases e2 : h = f
          · subst e2; exact h5 b hb2
          · rw [h4 h e2]; exact hb2
        · exact Or.inl (h6 h b (by omega) hb1 hb2)
      · dsimp only at hb1
        rw [up1_same, if_pos rfl, b_or, Bool.or_eq_true] at hb1
        rcases hb1 with hb1 | hb1
        · exact h7 b hb1
        · by_cases e2 : i = f
          · subst e2; exact h7 b hb1
          · rw [h4 i e2] at hb1
            exact TC_t hi (h7 i hb) (hs i hi b hb1)
      · dsimp only at hb1
        rw [up1_same, if_pos rfl, b_or, Bool.or_eq_true] at hb1
        rcases hb1 with hb1 | hb1
        · exact h8 b hb1
        · by_cases e2 : i = f
          · subst e2; exact h8 b hb1
          · rw [h4 i e2] at hb1
            exact hlow i hi b hb1
    · rw [if_neg (fun h => hb ((b_set _ (by omega)).mp h)), or_0]
      simp (disch := omega) only [wrI_nI, Option.bind_some]
      have same : ∀ a, (up1 Q 79 f (Q.1 79 f)).1 79 a = Q.1 79 a := fun a => by
        rw [up1_same]
        by_cases e : a = f
        · rw [if_pos e, e]
        · rw [if_neg e]
      refine ⟨(x', nI f, nI (i + 1), up1 Q 79 f (Q.1 79 f)), ⟨rfl, rfl, rfl, sameX_up h3, fun a ha => ?_, fun b hb1 => ?_, fun h b hh hb1 hb2 => ?_, fun b hb1 => ?_, fun b hb1 => ?_⟩, by rw [nI_1]⟩
      · dsimp only; rw [same]; exact h4 a ha
      · dsimp only; rw [same]; exact h5 b hb1
      · dsimp only
        rw [same]
        by_cases e : h = i
        · subst e
          exact absurd (h5 h hb1) hb
        · exact h6 h b (by omega) hb1 hb2
      · dsimp only at hb1; rw [same] at hb1; exact h7 b hb1
      · dsimp only at hb1; rw [same] at hb1; exact h8 b hb1
  · rintro ⟨x', y, z, Q⟩ K ⟨h0, h1, h2, h3, h4, h5, h6, h7, h8⟩
    dsimp only at h0 h1 h2 h3 h4 h5 h6 h7 h8
    subst h0
    subst h1
    subst h2
    rw [eBX10_findHangs_77]
    dsimp only
    rw [h3.2 69 (by decide), hc, if_pos (le_nI n (by omega)), nI_1]
    exact hk Q h3 h4 h5 h6 h7 h8
/-- hang after r rounds: all that a path of at most r nodes between comes to, and only what a path comes to -/
def HgR (E : Nat → Nat → Prop) (n r : Nat) (h : Nat → Int32) : Prop := ∀ a, a < n → (∀ k b, k ≤ r → pth E n k a b → bt (h a) b = true) ∧ (∀ b, bt (h a) b = true → TC E n a b) ∧ ∀ b, bt (h a) b = true → b < n
theorem findH2 {N n r : Nat} {M : Mm} {K57 : Int32 × Mm → Option Mm} {P : Option Mm → Prop} {E : Nat → Nat → Prop} (hN : 60 < N) (hn : n ≤ 12) (hc : M.1 69 0 = nI n) (hE : ∀ a b, E a b → b < n) (hr : HgR E n r (M.1 79)) (hk : ∀ M1, sameX 79 M M1 → HgR E n (r + 1) (M1.1 79) → P (K57 (nI (r + 1), M1))) : P (lp (BX10_findHangs_67 N K57) N (nI r, 0, M)) := by
  refine lp_up (fun i (q : Int32 × Int32 × Mm) => q.1 = nI r ∧ q.2.1 = nI i ∧ sameX 79 M q.2.2 ∧ HgR E n r (q.2.2.1 79) ∧ ∀ a, a < n → a < i → ∀ k b, k ≤ r + 1 → pth E n k a b → bt (q.2.2.1 79 a) b = true) P n N (nI r, 0, M) ⟨rfl, rfl, sameX_rf 79 M, hr, fun a _ h => absurd h (Nat.not_lt_zero _)⟩ (by omega) ?_ ?_
  · rintro i ⟨x, y, Q⟩ K hi ⟨h0, h1, h2, h3, h4⟩
    dsimp only at h0 h1 h2 h3 h4
    subst h0
    subst h1
    left
    rw [eBX10_findHangs_67]
    dsimp only
    rw [h2.2 69 (by decide), hc, if_neg (lt_nI hi (by omega))]
    refine findH3 (E := E) (P := fun o => ∃ a' : Int32 × Int32 × Mm, (a'.1 = nI r ∧ a'.2.1 = nI (i + 1) ∧ sameX 79 M a'.2.2 ∧ HgR E n r (a'.2.2.1 79) ∧ ∀ a, a < n → a < i + 1 → ∀ k b, k ≤ r + 1 → pth E n k a b → bt (a'.2.2.1 79 a) b = true) ∧ o = K a') hN hn hi (by rw [h2.2 69 (by decide), hc]) (fun a ha => (h3 a ha).2.1) (fun a ha => (h3 a ha).2.2) (fun M1 s1 o1 m1 c1 t1 l1 => ⟨(nI r, nI (i + 1), M1), ⟨rfl, rfl, sameX_t h2 s1, fun a ha => ?_, fun a ha hai k b hk hp => ?_⟩, rfl⟩)
    · dsimp only
      by_cases e : a = i
      · subst e
        exact ⟨fun k b hk hp => m1 b ((h3 a ha).1 k b hk hp), t1, l1⟩
      · rw [o1 a e]; exact h3 a ha
    · dsimp only
      by_cases e : a = i
      · subst e
        cases k with
        | zero => exact m1 b ((h3 a ha).1 0 b (by omega) hp)
        | succ k =>
          obtain ⟨h, hh, he, hp⟩ := hp
          exact c1 h b hh ((h3 a ha).1 0 h (by omega) he) ((h3 h hh).1 k b (by omega) hp)
      · rw [o1 a e]; exact h4 a ha (by omega) k b hk hp
  · rintro ⟨x, y, Q⟩ K ⟨h0, h1, h2, h3, h4⟩
    dsimp only at h0 h1 h2 h3 h4
    subst h0
    subst h1
    rw [eBX10_findHangs_67]
    dsimp only
    rw [h2.2 69 (by decide), hc, if_pos (le_nI n (by omega)), nI_1]
    exact hk Q h2 (fun a ha => ⟨fun k b hk hp => h4 a ha ha k b hk hp, (h3 a ha).2⟩)
/-- what findHangs leaves -/
def FhH (n np : Nat) (M : Mm) (o : Option Mm) : Prop := ∃ M', o = some M' ∧ sameR M M' ∧ (∀ f, f < n → (∀ k, bl (M'.2 80 f) k = true ↔ NdP np M f k) ∧ ∀ g, bt (M'.1 78 f) g = true ↔ Dm np M f g) ∧ HgR (Dm np M) n n (M'.1 79)
theorem findHangs_run {N n np : Nat} {M : Mm} (hN : 60 < N) (hn : n ≤ 12) (hnp : np ≤ 50) (hc : M.1 69 0 = nI n) (hcp : M.1 69 5 = nI np) (hok : ops_ok np (M.1 74) (M.1 75) (M.1 76) (M.1 77)) (hf : ∀ k, k < np → opF (M.1 74 k) = true → ∃ g, g < n ∧ M.1 75 k = nI g) (hr : ∀ f, f < n → rlok np (M.1 73 (4 * f)) ∧ rlok np (M.1 73 (4 * f + 3))) : FhH n np M (FX10_findHangs N M) := by
  have hDn : ∀ a b, Dm np M a b → b < n := fun a b ⟨h12, k, h1, h2, h3, h4⟩ => by
    obtain ⟨g, hg, he⟩ := hf k h1 h3
    rw [nI_inj (by omega) (by omega) (h4.symm.trans he)]
    exact hg
  refine findH1 (P := FhH n np M) hN hn hnp hc hcp hok (fun k h1 h2 => by
    obtain ⟨g, hg, he⟩ := hf k h1 h2
    exact ⟨g, by omega, he⟩) hr (fun M1 s1 e1 => ?_)
  refine lp_up (fun r (q : Int32 × Mm) => q.1 = nI r ∧ sameX 79 M1 q.2 ∧ HgR (Dm np M) n r (q.2.1 79)) (FhH n np M) n N (0, M1) ⟨rfl, sameX_rf 79 M1, fun a ha => ?_⟩ (by omega) ?_ ?_
  · obtain ⟨_, d1, d2⟩ := e1 a ha
    dsimp only
    rw [d2]
    refine ⟨fun k b hk hp => ?_, fun b hb => TC_e ((d1 b).mp hb), fun b hb => hDn a b ((d1 b).mp hb)⟩
    have : k = 0 := by omega
    subst this
    exact (d1 b).mpr hp
  · rintro r ⟨x, Q⟩ K hrn ⟨h0, h1, h2⟩
    dsimp only at h0 h1 h2
    subst h0
    left
    rw [eBX10_findHangs_57]
    dsimp only
    rw [h1.2 69 (by decide), s1.1 69 (by decide) (by decide), hc, if_neg (lt_nI hrn (by omega))]
    exact findH2 (E := Dm np M) (P := fun o => ∃ a' : Int32 × Mm, (a'.1 = nI (r + 1) ∧ sameX 79 M1 a'.2 ∧ HgR (Dm np M) n (r + 1) (a'.2.1 79)) ∧ o = K a') hN hn (by rw [h1.2 69 (by decide), s1.1 69 (by decide) (by decide), hc]) hDn h2 (fun M2 s2 g2 => ⟨(nI (r + 1), M2), ⟨rfl, sameX_t h1 s2, g2⟩, rfl⟩)
  · rintro ⟨x, Q⟩ K ⟨h0, h1, h2⟩
    dsimp only at h0 h1 h2
    subst h0
    rw [eBX10_findHangs_57]
    dsimp only
    rw [h1.2 69 (by decide), s1.1 69 (by decide) (by decide), hc, if_pos (le_nI n (by omega))]
    refine ⟨Q, rfl, sameR_t s1 (sameX_R h1), fun f hfn => ?_, h2⟩
    rw [h1.1, h1.2 78 (by decide)]
    exact ⟨(e1 f hfn).1, (e1 f hfn).2.1⟩
