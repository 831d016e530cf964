/-! ===== paths in a small graph; what the class's spreadHangs works out ===== -/
/-- a path of k nodes between, all below w -/
def pth (E : Nat → Nat → Prop) (w : Nat) : Nat → Nat → Nat → Prop
  | 0, f, g => E f g
  | k + 1, f, g => ∃ h, h < w ∧ E f h ∧ pth E w k h g
def TC (E : Nat → Nat → Prop) (n f g : Nat) : Prop := ∃ k, pth E n k f g
theorem TC_e {E : Nat → Nat → Prop} {n f g : Nat} (h : E f g) : TC E n f g := ⟨0, h⟩
theorem pth_cat {E : Nat → Nat → Prop} {n h g : Nat} (hh : h < n) {k2 : Nat} (h2 : pth E n k2 h g) : ∀ (k f : Nat), pth E n k f h → pth E n (k + k2 + 1) f g
  | 0, f, h1 => by
    rw [show 0 + k2 + 1 = k2 + 1 by omega]
    exact ⟨h, hh, h1, h2⟩
  | k + 1, f, ⟨x, hx, e, h1⟩ => by
    rw [show k + 1 + k2 + 1 = (k + k2 + 1) + 1 by omega]
    exact ⟨x, hx, e, pth_cat hh h2 k x h1⟩
theorem TC_t {E : Nat → Nat → Prop} {n f h g : Nat} (hh : h < n) (h1 : TC E n f h) (h2 : TC E n h g) : TC E n f g := by
  obtain ⟨k1, h1⟩ := h1
  obtain ⟨k2, h2⟩ := h2
  exact ⟨_, pth_cat hh h2 k1 f h1⟩
theorem TC_cut {E : Nat → Nat → Prop} {n f g : Nat} (h : TC E n f g) : E f g ∨ ∃ x, x < n ∧ E f x ∧ TC E n x g := by
  obtain ⟨k, h⟩ := h
  cases k with
  | zero => exact Or.inl h
  | succ k =>
    obtain ⟨x, h1, h2, h3⟩ := h
    exact Or.inr ⟨x, h1, h2, k, h3⟩
theorem pth_mono {E E' : Nat → Nat → Prop} {n : Nat} (hE : ∀ a b, E a b → E' a b) : ∀ (k f g : Nat), pth E n k f g → pth E' n k f g
  | 0, f, g, h => hE f g h
  | k + 1, f, g, ⟨x, h1, h2, h3⟩ => ⟨x, h1, hE f x h2, pth_mono hE k x g h3⟩
theorem TC_mono {E E' : Nat → Nat → Prop} {n f g : Nat} (hE : ∀ a b, E a b → E' a b) (h : TC E n f g) : TC E' n f g := by
  obtain ⟨k, h⟩ := h
  exact ⟨k, pth_mono hE k f g h⟩
/-- by way of the nodes below w, one after the other -/
def PV (E : Nat → Nat → Prop) : Nat → Nat → Nat → Prop
  | 0, f, g => E f g
  | w + 1, f, g => PV E w f g ∨ (PV E w f w ∧ PV E w w g)
theorem PV_TC {E : Nat → Nat → Prop} {n : Nat} : ∀ (w f g : Nat), w ≤ n → PV E w f g → TC E n f g
  | 0, f, g, _, h => TC_e h
  | w + 1, f, g, hw, h => by
    rcases h with h | ⟨h1, h2⟩
    · exact PV_TC w f g (by omega) h
    · exact TC_t (by omega) (PV_TC w f w (by omega) h1) (PV_TC w w g (by omega) h2)
theorem pth_split {E : Nat → Nat → Prop} {w g : Nat} : ∀ (k f : Nat), pth E (w + 1) k f g → pth E w k f g ∨ ((∃ k1, pth E w k1 f w) ∧ ∃ k2, pth E w k2 w g)
  | 0, f, h => Or.inl h
  | k + 1, f, ⟨x, hx, e, h⟩ => by
    rcases pth_split k x h with h | ⟨⟨k1, h1⟩, h2⟩
    · by_cases hxw : x < w
      · exact Or.inl ⟨x, hxw, e, h⟩
      · have : x = w := by omega
        subst this
        exact Or.inr ⟨⟨0, e⟩, k, h⟩
    · by_cases hxw : x < w
      · exact Or.inr ⟨⟨k1 + 1, x, hxw, e, h1⟩, h2⟩
      · have : x = w := by omega
        subst this
        exact Or.inr ⟨⟨0, e⟩, h2⟩
theorem pth0 {E : Nat → Nat → Prop} {k f g : Nat} (h : pth E 0 k f g) : E f g := by
  cases k with
  | zero => exact h
  | succ k => obtain ⟨x, hx, _⟩ := h; exact absurd hx (Nat.not_lt_zero _)
theorem TC_PV {E : Nat → Nat → Prop} : ∀ (w k f g : Nat), pth E w k f g → PV E w f g
  | 0, k, f, g, h => pth0 h
  | w + 1, k, f, g, h => by
    rcases pth_split k f h with h | ⟨⟨k1, h1⟩, ⟨k2, h2⟩⟩
    · exact Or.inl (TC_PV w k f g h)
    · exact Or.inr ⟨TC_PV w k1 f w h1, TC_PV w k2 w g h2⟩
theorem PV_iff {E : Nat → Nat → Prop} {n f g : Nat} : PV E n f g ↔ TC E n f g := ⟨PV_TC n f g (Nat.le_refl n), fun ⟨k, h⟩ => TC_PV n k f g h⟩
/-- a rank that falls along the edges bounds the paths -/
theorem pth_rank {E : Nat → Nat → Prop} {n : Nat} {r : Nat → Nat} (hr : ∀ a b, a < n → E a b → r b < r a) : ∀ (k f g : Nat), f < n → pth E n k f g → r g + k < r f
  | 0, f, g, hf, h => by
    have := hr f g hf h
    omega
  | k + 1, f, g, hf, ⟨x, hx, e, h⟩ => by
    have h1 := hr f x hf e
    have h2 := pth_rank hr k x g hx h
    omega
/-- memories that differ in one cell at most -/
def sameX (k : Nat) (M M' : Mm) : Prop := M'.2 = M.2 ∧ ∀ a, a ≠ k → M'.1 a = M.1 a
theorem sameX_rf (k : Nat) (M : Mm) : sameX k M M := ⟨rfl, fun _ _ => rfl⟩
theorem sameX_up {k j : Nat} {v : Int32} {M M' : Mm} (h : sameX k M M') : sameX k M (up1 M' k j v) := ⟨h.1, fun a ha => by rw [up1_ne ha]; exact h.2 a ha⟩
theorem sameX_t {k : Nat} {M M1 M2 : Mm} (h1 : sameX k M M1) (h2 : sameX k M1 M2) : sameX k M M2 := ⟨h2.1.trans h1.1, fun a ha => (h2.2 a ha).trans (h1.2 a ha)⟩
theorem lt_nI {i n : Nat} (h : i < n) (hn : n ≤ 100000) : ¬ nI n ≤ nI i := nI_ge h (by omega)
theorem le_nI (n : Nat) (hn : n ≤ 100000) : nI n ≤ nI n := nI_le (Nat.le_refl n) (by omega)
theorem spread1 {N n : Nat} {M : Mm} {P : Option Mm → Prop} (hN : 12 < N) (hn : n ≤ 12) (hc : M.1 2 6 = nI n) (hk : ∀ M1, sameX 20 M M1 → (∀ f, f < n → M1.1 20 f = M.1 19 f) → (∀ f, n ≤ f → M1.1 20 f = M.1 20 f) → P (lp (BX0_spreadHangs_30 N) N (0, M1))) : P (FX0_spreadHangs N M) := by
  unfold FX0_spreadHangs
  refine lp_up (fun i (q : Int32 × Mm) => q.1 = nI i ∧ sameX 20 M q.2 ∧ (∀ f, f < i → q.2.1 20 f = M.1 19 f) ∧ ∀ f, i ≤ f → q.2.1 20 f = M.1 20 f) P n N (0, M) ⟨rfl, sameX_rf 20 M, fun f h => absurd h (Nat.not_lt_zero _), fun _ _ => rfl⟩ (by omega) ?_ ?_
  · rintro i ⟨x, Q⟩ K hi ⟨h1, h2, h3, h4⟩
    dsimp only at h1 h2 h3 h4
    subst h1
    refine Or.inl ⟨(nI (i + 1), up1 Q 20 i (M.1 19 i)), ⟨rfl, sameX_up h2, fun f hf => ?_, fun f hf => ?_⟩, ?_⟩
    · dsimp only
      rw [up1_same]
      by_cases e : f = i
      · rw [if_pos e, e]
      · rw [if_neg e]; exact h3 f (by omega)
    · dsimp only
      rw [up1_same, if_neg (by omega)]
      exact h4 f (by omega)
    · rw [eBX0_spreadHangs_2]
      dsimp only
      rw [h2.2 2 (by decide), hc, if_neg (lt_nI hi (by omega)), rdI_nI (by omega) (by decide), Option.bind_some, wrI_nI (by omega) (by decide), Option.bind_some, nI_1, h2.2 19 (by decide)]
  · rintro ⟨x, Q⟩ K ⟨h1, h2, h3, h4⟩
    dsimp only at h1 h2 h3 h4
    subst h1
    rw [eBX0_spreadHangs_2]
    dsimp only
    rw [h2.2 2 (by decide), hc, if_pos (le_nI n (by omega))]
    exact hk Q h2 h3 h4
/-- one round of Warshall's -/
theorem spread2 {N n w : Nat} {M : Mm} {K30 : Int32 × Mm → Option Mm} {P : Option Mm → Prop} {E : Nat → Nat → Prop} (hN : 12 < N) (hn : n ≤ 12) (hw : w < n) (hc : M.1 2 6 = nI n) (hP : ∀ f, f < n → ∀ g, bt (M.1 20 f) g = true ↔ PV E w f g) (hk : ∀ M1, sameX 20 M M1 → (∀ f, f < n → ∀ g, bt (M1.1 20 f) g = true ↔ PV E (w + 1) f g) → (∀ f, n ≤ f → M1.1 20 f = M.1 20 f) → P (K30 (nI (w + 1), M1))) : P (lp (BX0_spreadHangs_40 N K30) N (nI w, 0, M)) := by
  refine lp_up (fun i (q : Int32 × Int32 × Mm) => q.1 = nI w ∧ q.2.1 = nI i ∧ sameX 20 M q.2.2 ∧ (∀ f, f < n → ∀ g, bt (q.2.2.1 20 f) g = true ↔ (if f < i then PV E (w + 1) f g else PV E w f g)) ∧ ∀ f, n ≤ f → q.2.2.1 20 f = M.1 20 f) P n N (nI w, 0, M) ⟨rfl, rfl, sameX_rf 20 M, fun f hf g => by rw [if_neg (Nat.not_lt_zero _)]; exact hP f hf g, fun _ _ => rfl⟩ (by omega) ?_ ?_
  · rintro i ⟨x, y, Q⟩ K hi ⟨h0, h1, h2, h3, h4⟩
    dsimp only at h0 h1 h2 h3 h4
    subst h0
    subst h1
    have hww : ∀ g, bt (Q.1 20 w) g = true ↔ PV E w w g := fun g => by
      rw [h3 w hw g]
      by_cases e : w < i
      · rw [if_pos e]
        exact ⟨fun h => h.elim id (fun h => h.2), Or.inl⟩
      · rw [if_neg e]
    have hii : ∀ g, bt (Q.1 20 i) g = true ↔ PV E w i g := fun g => by rw [h3 i hi g, if_neg (Nat.lt_irrefl i)]
    rw [eBX0_spreadHangs_40]
    dsimp only
    rw [h2.2 2 (by decide), hc, if_neg (lt_nI hi (by omega)), rdI_nI (by omega) (by decide), Option.bind_some, hasBit_run _ (by omega), Option.bind_some]
    cases hb : bt (Q.1 20 i) w with
    | false =>
      refine Or.inl ⟨(nI w, nI (i + 1), Q), ⟨rfl, rfl, h2, fun f hf g => ?_, h4⟩, by rw [if_pos (by rfl), nI_1]⟩
      dsimp only
      rw [h3 f hf g]
      by_cases e : f = i
      · subst e
        rw [if_neg (Nat.lt_irrefl f), if_pos (Nat.lt_succ_self f)]
        refine ⟨Or.inl, fun h => h.elim id (fun h => ?_)⟩
        have := (hii w).mpr h.1
        rw [hb] at this
        cases this
      · by_cases e2 : f < i
        · rw [if_pos e2, if_pos (by omega)]
        · rw [if_neg e2, if_neg (by omega)]
    | true =>
      refine Or.inl ⟨(nI w, nI (i + 1), up1 Q 20 i (Q.1 20 i ||| Q.1 20 w)), ⟨rfl, rfl, sameX_up h2, fun f hf g => ?_, fun f hf => ?_⟩, ?_⟩
      · dsimp only
        rw [up1_same]
        by_cases e : f = i
        · subst e
          rw [if_pos rfl, if_pos (Nat.lt_succ_self f), b_or, Bool.or_eq_true, hii g, hww g]
          have hw1 := (hii w).mp hb
          exact ⟨fun h => h.elim Or.inl (fun h => Or.inr ⟨hw1, h⟩), fun h => h.elim Or.inl (fun h => Or.inr h.2)⟩
        · rw [if_neg e, h3 f hf g]
          by_cases e2 : f < i
          · rw [if_pos e2, if_pos (by omega)]
          · rw [if_neg e2, if_neg (by omega)]
      · dsimp only
        rw [up1_same, if_neg (by omega)]
        exact h4 f hf
      · rw [if_neg (by decide)]
        simp (disch := omega) only [rdI_nI, wrI_nI, Option.bind_some, nI_1]
  · rintro ⟨x, y, Q⟩ K ⟨h0, h1, h2, h3, h4⟩
    dsimp only at h0 h1 h2 h3 h4
    subst h0
    subst h1
    rw [eBX0_spreadHangs_40]
    dsimp only
    rw [h2.2 2 (by decide), hc, if_pos (le_nI n (by omega)), nI_1]
    exact hk Q h2 (fun f hf g => by rw [h3 f hf g, if_pos hf]) h4
/-- what spreadHangs leaves -/
def SpH (n : Nat) (M : Mm) (o : Option Mm) : Prop := ∃ M', o = some M' ∧ sameX 20 M M' ∧ (∀ f, f < n → ∀ g, bt (M'.1 20 f) g = true ↔ TC (fun a b => bt (M.1 19 a) b = true) n f g) ∧ ∀ f, n ≤ f → M'.1 20 f = M.1 20 f
theorem spreadHangs_run {N n : Nat} {M : Mm} (hN : 12 < N) (hn : n ≤ 12) (hc : M.1 2 6 = nI n) : SpH n M (FX0_spreadHangs N M) := by
  refine spread1 (P := SpH n M) hN hn hc (fun M1 s1 e1 o1 => ?_)
  refine lp_up (fun w (q : Int32 × Mm) => q.1 = nI w ∧ sameX 20 M q.2 ∧ (∀ f, f < n → ∀ g, bt (q.2.1 20 f) g = true ↔ PV (fun a b => bt (M.1 19 a) b = true) w f g) ∧ ∀ f, n ≤ f → q.2.1 20 f = M.1 20 f) (SpH n M) n N (0, M1) ⟨rfl, s1, fun f hf g => by dsimp only; rw [e1 f hf]; exact Iff.rfl, o1⟩ (by omega) ?_ ?_
  · rintro w ⟨x, Q⟩ K hw ⟨h1, h2, h3, h4⟩
    dsimp only at h1 h2 h3 h4
    subst h1
    rw [eBX0_spreadHangs_30]
    dsimp only
    rw [h2.2 2 (by decide), hc, if_neg (lt_nI hw (by omega))]
    left
    exact spread2 (E := fun a b => bt (M.1 19 a) b = true) (P := fun o => ∃ a' : Int32 × Mm, (a'.1 = nI (w + 1) ∧ sameX 20 M a'.2 ∧ (∀ f, f < n → ∀ g, bt (a'.2.1 20 f) g = true ↔ PV (fun a b => bt (M.1 19 a) b = true) (w + 1) f g) ∧ ∀ f, n ≤ f → a'.2.1 20 f = M.1 20 f) ∧ o = K a') hN hn hw (by rw [h2.2 2 (by decide), hc]) h3 (fun M2 s2 e2 o2 => ⟨(nI (w + 1), M2), ⟨rfl, sameX_t h2 s2, e2, fun f hf => (o2 f hf).trans (h4 f hf)⟩, rfl⟩)
  · rintro ⟨x, Q⟩ K ⟨h1, h2, h3, h4⟩
    dsimp only at h1 h2 h3 h4
    subst h1
    rw [eBX0_spreadHangs_30]
    dsimp only
    rw [h2.2 2 (by decide), hc, if_pos (le_nI n (by omega))]
    exact ⟨Q, rfl, h2, fun f hf g => (h3 f hf g).trans PV_iff, h4⟩
