/-! ===== one field's edges changed; directWith, setRule ===== -/
theorem ref_path {E E' : Nat → Nat → Prop} {n f : Nat} (hE : ∀ a b, a ≠ f → E a b → E' a b) : ∀ (k x : Nat), x ≠ f → pth E n k x f → ∃ k', k' ≤ k ∧ pth E' n k' x f
  | 0, x, hx, h => ⟨0, Nat.le_refl 0, hE x f hx h⟩
  | k + 1, x, hx, ⟨h, hh, e, hp⟩ => by
    by_cases q : h = f
    · subst q; exact ⟨0, Nat.zero_le _, hE x h hx e⟩
    · obtain ⟨k', l, p⟩ := ref_path hE k h q hp
      exact ⟨k' + 1, by omega, h, hh, hE x h hx e, p⟩
theorem cyc_in {E E' : Nat → Nat → Prop} {n f : Nat} (hE : ∀ a b, a ≠ f → E' a b → E a b) (h : TC E' n f f) : E' f f ∨ ∃ x, x < n ∧ E' f x ∧ TC E n x f := by
  rcases TC_cut h with h | ⟨x, hx, h1, k, h2⟩
  · exact Or.inl h
  · by_cases q : x = f
    · subst q; exact Or.inl h1
    · obtain ⟨k', _, p⟩ := ref_path hE k x q h2
      exact Or.inr ⟨x, hx, h1, k', p⟩
theorem cyc_out {E E' : Nat → Nat → Prop} {n f : Nat} (hf : f < n) (hE : ∀ a b, a ≠ f → E a b → E' a b) (hs : ∀ k x, x < n → pth E n k x f → k < n) (h : E' f f ∨ ∃ x, x < n ∧ E' f x ∧ TC E n x f) : ∃ k, k ≤ n ∧ pth E' n k f f := by
  rcases h with h | ⟨x, hx, h1, k, h2⟩
  · exact ⟨0, Nat.zero_le _, h⟩
  · by_cases q : x = f
    · subst q; exact ⟨0, Nat.zero_le _, h1⟩
    · have hk := hs k x hx h2
      obtain ⟨k', l, p⟩ := ref_path hE k x q h2
      exact ⟨k' + 1, by omega, x, hx, h1, p⟩
theorem via_f {E E' : Nat → Nat → Prop} {n f : Nat} (hf : f < n) (hE : ∀ a b, a ≠ f → E' a b → E a b) : ∀ (k a g : Nat), pth E' n k a g → pth E n k a g ∨ ((a = f ∨ TC E' n a f) ∧ TC E' n f g)
  | 0, a, g, h => by
    by_cases q : a = f
    · subst q; exact Or.inr ⟨Or.inl rfl, TC_e h⟩
    · exact Or.inl (hE a g q h)
  | k + 1, a, g, ⟨x, hx, e, hp⟩ => by
    by_cases q : a = f
    · subst q; exact Or.inr ⟨Or.inl rfl, k + 1, x, hx, e, hp⟩
    · rcases via_f hf hE k x g hp with h | ⟨h1, h2⟩
      · exact Or.inl ⟨x, hx, hE a x q e, h⟩
      · refine Or.inr ⟨Or.inr ?_, h2⟩
        rcases h1 with h1 | h1
        · subst h1; exact TC_e e
        · exact TC_t hx (TC_e e) h1
theorem ac_new {E E' : Nat → Nat → Prop} {n f : Nat} (hf : f < n) (hE : ∀ a b, a ≠ f → E' a b → E a b) (hn : ¬ TC E' n f f) (ha : ∀ a, a < n → ¬ TC E n a a) (a : Nat) (han : a < n) : ¬ TC E' n a a := fun ⟨k, h⟩ => by
  rcases via_f hf hE k a a h with h | ⟨h1, h2⟩
  · exact ha a han ⟨k, h⟩
  · rcases h1 with h1 | h1
    · subst h1; exact hn h2
    · exact hn (TC_t han h2 h1)
theorem aoRule_run {n np : Nat} {v : Int32} {M : Mm} (hnp : np ≤ 50) (hG : gr n np M) (hr : rlok np v) : ∃ m, FX3_answersOfRule v M = some m ∧ ∀ g, bt m g = true ↔ g < 12 ∧ ∃ p, p < np ∧ v = nI p ∧ AO (M.1 22) (M.1 23) (M.1 24) (M.1 25) p g := by
  unfold FX3_answersOfRule
  rcases rl_neg hnp hr with ⟨_, z⟩ | ⟨_, z, p, hp, e⟩
  · rw [if_pos z]
    refine ⟨0, rfl, fun g => ?_⟩
    rw [b_0]
    refine ⟨(fun h => by cases h), ?_⟩
    rintro ⟨_, p, hp, e, _⟩
    have := rlok_lt (np := 0) (p := p) (by omega) (by omega) (Or.inl z) e
    omega
  · rw [if_neg z, e, rdI_nI (by omega) (by decide), Option.bind_some]
    refine ⟨_, rfl, fun g => ?_⟩
    rw [hG.1 p hp g]
    refine and_congr Iff.rfl ⟨fun h => ⟨p, hp, rfl, h⟩, ?_⟩
    rintro ⟨q, hq, e2, h⟩
    rw [nI_inj (a := p) (b := q) (by omega) (by omega) e2]
    exact h
/-- rule j of a field, if rule w were v -/
def nr (r : Nat → Int32) (w : Nat) (v : Int32) (j : Nat) : Int32 := if j = w then v else r j
theorem direct_run {n np f w : Nat} {v : Int32} {M : Mm} (hN : netC n np M) (hG : gr n np M) (hf : f < n) (hw : w < 4) (hv : rlok np v) : ∃ m, FX2_directWith (nI f) (nI w) v M = some m ∧ ∀ g, bt m g = true ↔ g < 12 ∧ ∃ p, p < np ∧ (nr (M.1 (7 + f)) w v 0 = nI p ∨ nr (M.1 (7 + f)) w v 3 = nI p) ∧ AO (M.1 22) (M.1 23) (M.1 24) (M.1 25) p g := by
  obtain ⟨hn, hnp, hc1, hc2, hp, hr, hm⟩ := hN
  have k41 : ∀ x y, rlok np x → rlok np y → ∃ m, BX2_directWith_41 x y M = some m ∧ ∀ g, bt m g = true ↔ g < 12 ∧ ∃ p, p < np ∧ (x = nI p ∨ y = nI p) ∧ AO (M.1 22) (M.1 23) (M.1 24) (M.1 25) p g := by
    intro x y hx hy
    obtain ⟨m1, a1, a2⟩ := aoRule_run hnp hG hx
    obtain ⟨m2, b1, b2⟩ := aoRule_run hnp hG hy
    unfold BX2_directWith_41
    rw [a1, Option.bind_some, b1, Option.bind_some]
    refine ⟨_, rfl, fun g => ?_⟩
    rw [b_or, Bool.or_eq_true, a2 g, b2 g]
    constructor
    · rintro (⟨h, p, hp, e, h2⟩ | ⟨h, p, hp, e, h2⟩)
      · exact ⟨h, p, hp, Or.inl e, h2⟩
      · exact ⟨h, p, hp, Or.inr e, h2⟩
    · rintro ⟨h, p, hp, (e | e), h2⟩
      · exact Or.inl ⟨h, p, hp, e, h2⟩
      · exact Or.inr ⟨h, p, hp, e, h2⟩
  have n3 : rlok np (nr (M.1 (7 + f)) w v 3) := by
    unfold nr
    split
    · exact hv
    · exact hr f hf 3 (by decide)
  have n0 : rlok np (nr (M.1 (7 + f)) w v 0) := by
    unfold nr
    split
    · exact hv
    · exact hr f hf 0 (by decide)
  have k19 : ∀ x, BX2_directWith_19 (nI f) (nI w) v x M = BX2_directWith_41 x (nr (M.1 (7 + f)) w v 3) M := by
    intro x
    unfold BX2_directWith_19 nr
    by_cases e : w = 3
    · subst e
      rw [if_pos (by rfl), if_pos rfl]
    · rw [if_neg (show ¬ nI w = 3 from fun h => e (nI_inj (a := w) (b := 3) (by omega) (by omega) h)), if_neg (fun h => e h.symm), ckR_nI (by omega) (by decide), Option.bind_some, rd4_3, Option.bind_some]
  obtain ⟨m, h1, h2⟩ := k41 _ _ n0 n3
  refine ⟨m, ?_, h2⟩
  unfold FX2_directWith
  rw [k19]
  by_cases e : w = 0
  · subst e
    rw [if_pos (by rfl)]
    exact h1
  · rw [if_neg (show ¬ nI w = 0 from fun h => e (nI_inj (a := w) (b := 0) (by omega) (by omega) h)), ckR_nI (by omega) (by decide), Option.bind_some, rd4_0, Option.bind_some, k19]
    have : nr (M.1 (7 + f)) w v 0 = M.1 (7 + f) 0 := by unfold nr; rw [if_neg (fun h => e h.symm)]
    rw [this] at h1
    exact h1
/-- the class takes the rule -/
theorem setRule_run {N n np f w : Nat} {v m : Int32} {M : Mm} (hN0 : 100 < N) (hN : netC n np M) (hG : gr n np M) (hf : f < n) (hw : w < 4) (hv : rlok np v) (hm1 : FX2_directWith (nI f) (nI w) v M = some m) (hm2 : ∀ g, bt m g = true ↔ g < 12 ∧ ∃ p, p < np ∧ (nr (M.1 (7 + f)) w v 0 = nI p ∨ nr (M.1 (7 + f)) w v 3 = nI p) ∧ AO (M.1 22) (M.1 23) (M.1 24) (M.1 25) p g)
    (hno : ¬ (bt m f = true ∨ ∃ x, x < n ∧ bt m x = true ∧ bt (M.1 20 x) f = true)) : ∃ M', FX2_setRule N (nI f) (nI w) v M = some M' ∧ coreC n np M' ∧ (∀ j, M'.1 (7 + f) j = nr (M.1 (7 + f)) w v j) ∧ M'.2 = M.2 ∧ ∀ x, (x = 0 ∨ (1 < x ∧ x < 19) ∨ (20 < x ∧ x < 27) ∨ 29 < x) → x ≠ 7 + f → M'.1 x = M.1 x := by
  have hN' := hN
  have hG' := hG
  obtain ⟨hn, hnp, hc1, hc2, hp, hr, hm⟩ := hN
  obtain ⟨g1, g2, g3, g4, g5⟩ := hG
  obtain ⟨Q, hQ⟩ : ∃ Q, Q = up1 (up1 M 19 f m) (7 + f) w v := ⟨_, rfl⟩
  have q19 : ∀ j, Q.1 19 j = if j = f then m else M.1 19 j := fun j => by rw [hQ, up1_ne (by omega), up1_same]
  have q7 : ∀ j, Q.1 (7 + f) j = nr (M.1 (7 + f)) w v j := fun j => by rw [hQ, up1_same, up1_ne (by omega)]; rfl
  have qx : ∀ x, x ≠ 19 → x ≠ 7 + f → Q.1 x = M.1 x := fun x h1 h2 => by rw [hQ, up1_ne h2, up1_ne h1]
  obtain ⟨R, r1, r2, r3, r4⟩ := spreadHangs_run (N := N) (n := n) (M := Q) (by omega) hn (by rw [qx 2 (by decide) (by omega)]; exact hc1)
  have rx : ∀ x, x ≠ 20 → R.1 x = Q.1 x := r2.2
  have hEdef : ∀ a b, EC R a b ↔ (if a = f then bt m b = true else EC M a b) := fun a b => by
    unfold EC
    rw [rx 19 (by decide), q19]
    by_cases e : a = f
    · rw [if_pos e, if_pos e]
    · rw [if_neg e, if_neg e]
  have hERQ : (fun a b => bt (Q.1 19 a) b = true) = EC R := by
    funext a b
    unfold EC
    rw [rx 19 (by decide)]
  rw [hERQ] at r3
  have hE1 : ∀ a b, a ≠ f → EC R a b → EC M a b := fun a b h he => by have := (hEdef a b).mp he; rw [if_neg h] at this; exact this
  have hff : ¬ TC (EC R) n f f := fun h => by
    rcases cyc_in hE1 h with h | ⟨x, hx, h1, h2⟩
    · have := (hEdef f f).mp h
      rw [if_pos rfl] at this
      exact hno (Or.inl this)
    · have := (hEdef f x).mp h1
      rw [if_pos rfl] at this
      exact hno (Or.inr ⟨x, hx, this, (g3 x hx f).mpr h2⟩)
  have hacM : ∀ a, a < n → ¬ TC (EC M) n a a := fun a ha h => by
    have := (g3 a ha a).mpr h
    rw [g4 a ha] at this
    cases this
  have hac := ac_new hf hE1 hff hacM
  have hNR : netC n np R := by
    refine ⟨hn, hnp, by rw [rx 2 (by decide), qx 2 (by decide) (by omega)]; exact hc1, by rw [rx 21 (by decide), qx 21 (by decide) (by omega)]; exact hc2, fun p hpn => ?_, fun x hx j hj => ?_, fun x hx => ?_⟩
    · rw [rx 22 (by decide), rx 23 (by decide), rx 24 (by decide), rx 25 (by decide), qx 22 (by decide) (by omega), qx 23 (by decide) (by omega), qx 24 (by decide) (by omega), qx 25 (by decide) (by omega)]
      exact hp p hpn
    · rw [rx (7 + x) (by omega)]
      by_cases e : x = f
      · subst e
        rw [q7]
        unfold nr
        split
        · exact hv
        · exact hr x hx j hj
      · rw [qx (7 + x) (by omega) (by omega)]; exact hr x hx j hj
    · rw [rx 5 (by decide), qx 5 (by decide) (by omega)]; exact hm x hx
  have hGR : gr n np R := by
    unfold gr
    rw [rx 22 (by decide), rx 23 (by decide), rx 24 (by decide), rx 25 (by decide), rx 26 (by decide), rx 19 (by decide), qx 22 (by decide) (by omega), qx 23 (by decide) (by omega), qx 24 (by decide) (by omega), qx 25 (by decide) (by omega), qx 26 (by decide) (by omega)]
    refine ⟨g1, fun x hx g => ?_, r3, fun x hx => ?_, fun x hx1 hx2 => ?_⟩
    · unfold dirC
      rw [rx 22 (by decide), rx 23 (by decide), rx 24 (by decide), rx 25 (by decide), rx (7 + x) (by omega), qx 22 (by decide) (by omega), qx 23 (by decide) (by omega), qx 24 (by decide) (by omega), qx 25 (by decide) (by omega), q19]
      by_cases e : x = f
      · subst e
        rw [if_pos rfl, q7, q7]
        exact hm2 g
      · rw [if_neg e, qx (7 + x) (by omega) (by omega)]
        exact g2 x hx g
    · cases hb : bt (R.1 20 x) x with
      | false => rfl
      | true => exact absurd ((r3 x hx x).mp hb) (hac x hx)
    · rw [q19, if_neg (by omega), r4 x hx1, qx 20 (by decide) (by omega)]
      exact g5 x hx1 hx2
  obtain ⟨M', a1, a2, a3⟩ := arrange_core hN0 hNR hGR
  have ax : ∀ x, x ≠ 1 → x ≠ 27 → x ≠ 28 → x ≠ 29 → M'.1 x = R.1 x := a2.2
  refine ⟨M', ?_, a3, fun j => ?_, ?_, fun x hx hx2 => ?_⟩
  · unfold FX2_setRule
    rw [hm1, Option.bind_some, wrI_nI (by omega) (by decide), Option.bind_some, ckR_nI (by omega) (by decide), Option.bind_some, wrI_nI (by omega) (by decide), Option.bind_some, ← hQ, r1, Option.bind_some, a1, Option.bind_some]
  · rw [ax (7 + f) (by omega) (by omega) (by omega) (by omega), rx (7 + f) (by omega), q7]
  · rw [a2.1, r2.1, hQ]; rfl
  · rw [ax x (by omega) (by omega) (by omega) (by omega), rx x (by omega), qx x (by omega) hx2]
