/-! ===== steps keep the other equations; look ===== -/
theorem step_part {s k n np q : Nat} {M : Mm} (hs : s = 37 ∨ s = 64) (hk : (33 ≤ k ∧ k ≤ 36) ∨ k = 62) (hN : netC n np M) (hq : q < np) : ∃ M', FX6_takeStep s k (nI q) M = some M' ∧ sameS s M M' ∧ eqS s k np n M' (nI q) ∧ ∀ y, y ≠ nI q → ¬ dep np M y (nI q) → eqS s k np n M y → eqS s k np n M' y := by
  obtain ⟨hn, hnp, hc1, hc2, hp, hr, hm⟩ := hN
  have hv := workOut_run (s := s) (n := n) (p := q) (M := M) hn (by omega) (hp q hq)
  generalize hE : evP (M.1 22) (M.1 23) (M.1 24) (M.1 25) (M.1 (s + 1)) (M.1 (s + 3)) q = v at hv
  have sm : sameS s M (up1 M (s + 1) q v) := ⟨rfl, fun a h _ _ => up1_ne h⟩
  have c22 := sm.2 22 (by omega) (by omega) (by omega)
  have c23 := sm.2 23 (by omega) (by omega) (by omega)
  have c24 := sm.2 24 (by omega) (by omega) (by omega)
  have c25 := sm.2 25 (by omega) (by omega) (by omega)
  have c3 : (up1 M (s + 1) q v).1 (s + 3) = M.1 (s + 3) := up1_ne (by omega)
  have c2 : (up1 M (s + 1) q v).1 (s + 2) = M.1 (s + 2) := up1_ne (by omega)
  have cong : ∀ p, p < np → ¬ opA (M.1 22) (M.1 23) (M.1 24) (M.1 25) p q → evP (M.1 22) (M.1 23) (M.1 24) (M.1 25) ((up1 M (s + 1) q v).1 (s + 1)) (M.1 (s + 3)) p = evP (M.1 22) (M.1 23) (M.1 24) (M.1 25) (M.1 (s + 1)) (M.1 (s + 3)) p := fun p hpn hno =>
    evP_congr (n := n) (by omega) hn (hp p hpn) (fun o ho => by rw [up1_same, if_neg (show ¬ o = q from fun e => hno (by rw [← e]; exact ho))]) (fun _ _ _ _ => rfl)
  refine ⟨up1 M (s + 1) q v, ?_, sm, ⟨fun p hpn e => ?_, fun f hf e => ?_⟩, fun y hy hd he => ⟨fun p hpn e => ?_, fun f hf e => ?_⟩⟩
  · unfold FX6_takeStep
    rw [if_neg (show ¬ (50 : Int32) ≤ nI q from nI_ge (b := 50) (by omega) (by decide)), hv, Option.bind_some, wrI_nI (by omega) (by decide)]
    rfl
  · have e : p = q := nI_inj (by omega) (by omega) e.symm
    subst e
    unfold eqP
    rw [c22, c23, c24, c25, c3, cong p hpn (fun h => absurd h.1 (Nat.lt_irrefl p)), hE, up1_same, if_pos rfl]
  · have := nI_inj (by omega) (by omega) e
    omega
  · have hpq : p ≠ q := fun h => hy (by rw [e, h])
    have h1 := he.1 p hpn e
    unfold eqP at h1 ⊢
    rw [c22, c23, c24, c25, c3, cong p hpn (fun h => hd (Or.inl ⟨p, q, hpn, e, rfl, h⟩)), up1_same, if_neg hpq]
    exact h1
  · have h1 := he.2 f hf e
    unfold eqF at h1 ⊢
    have c7 := sm.2 (7 + f) (by omega) (by omega) (by omega)
    have r0 := hr f hf 0 (by decide)
    have r3 := hr f hf 3 (by decide)
    have e0 : shV (M.1 (7 + f) 0) ((up1 M (s + 1) q v).1 (s + 1)) = shV (M.1 (7 + f) 0) (M.1 (s + 1)) := by
      unfold shV
      rcases rl_neg hnp r0 with ⟨_, z⟩ | ⟨_, z, p, hpn, z2⟩
      · rw [if_pos z, if_pos z]
      · have hpq : p ≠ q := fun h => hd (Or.inr (Or.inr ⟨f, q, by omega, hq, e, rfl, Or.inl (by rw [z2, h])⟩))
        rw [if_neg z, if_neg z, z2, cl_nI (by omega), up1_same, if_neg hpq]
    have e3 : owV (M.1 5 f) (M.1 (7 + f) 3) (M.1 k f) ((up1 M (s + 1) q v).1 (s + 1)) = owV (M.1 5 f) (M.1 (7 + f) 3) (M.1 k f) (M.1 (s + 1)) := by
      unfold owV
      rcases rl_neg hnp r3 with ⟨_, z⟩ | ⟨_, z, p, hpn, z2⟩
      · rw [if_pos z, if_pos z]
      · have hpq : p ≠ q := fun h => hd (Or.inr (Or.inr ⟨f, q, by omega, hq, e, rfl, Or.inr (by rw [z2, h])⟩))
        rw [if_neg z, if_neg z, z2, cl_nI (by omega), up1_same, if_neg hpq]
    rw [c7, c2, c3, sm.2 3 (by omega) (by omega) (by omega), sm.2 4 (by omega) (by omega) (by omega), sm.2 5 (by omega) (by omega) (by omega), sm.2 k (by omega) (by omega) (by omega), e0, e3]
    exact h1
theorem step_field {s k n np g : Nat} {M : Mm} (hs : s = 37 ∨ s = 64) (hk : (33 ≤ k ∧ k ≤ 36) ∨ k = 62) (hN : netC n np M) (hg : g < n) : ∃ M', FX6_takeStep s k (nI (50 + g)) M = some M' ∧ sameS s M M' ∧ eqS s k np n M' (nI (50 + g)) ∧ ∀ y, y ≠ nI (50 + g) → ¬ dep np M y (nI (50 + g)) → eqS s k np n M y → eqS s k np n M' y := by
  obtain ⟨hn, hnp, hc1, hc2, hp, hr, hm⟩ := hN
  have hv := takeField_run (s := s) (k := k) (n := n) (np := np) (f := g) (M := M) hs hk hn hnp hg (hr g hg 0 (by decide)) (hr g hg 3 (by decide))
  generalize hE : shV (M.1 (7 + g) 0) (M.1 (s + 1)) = sh at hv
  generalize hE2 : cnV (M.1 3 g) (M.1 4 g) sh (owV (M.1 5 g) (M.1 (7 + g) 3) (M.1 k g) (M.1 (s + 1))) = cn at hv
  have sm : sameS s M (up1 (up1 M (s + 2) g sh) (s + 3) g cn) := ⟨rfl, fun a _ h2 h3 => by rw [up1_ne h3, up1_ne h2]⟩
  have c1 : (up1 (up1 M (s + 2) g sh) (s + 3) g cn).1 (s + 1) = M.1 (s + 1) := by rw [up1_ne (by omega), up1_ne (by omega)]
  have c2 : ∀ b, (up1 (up1 M (s + 2) g sh) (s + 3) g cn).1 (s + 2) b = if b = g then sh else M.1 (s + 2) b := fun b => by rw [up1_ne (by omega), up1_same]
  have c3 : ∀ b, (up1 (up1 M (s + 2) g sh) (s + 3) g cn).1 (s + 3) b = if b = g then cn else M.1 (s + 3) b := fun b => by rw [up1_same, up1_ne (by omega)]
  have ha : ∀ a, a ≠ s + 1 → a ≠ s + 2 → a ≠ s + 3 → (up1 (up1 M (s + 2) g sh) (s + 3) g cn).1 a = M.1 a := sm.2
  refine ⟨_, ?_, sm, ⟨fun p hpn e => ?_, fun f hf e => ?_⟩, fun y hy hd he => ⟨fun p hpn e => ?_, fun f hf e => ?_⟩⟩
  · unfold FX6_takeStep
    rw [if_pos (show (50 : Int32) ≤ nI (50 + g) from nI_le (a := 50) (by omega) (by omega)), show nI (50 + g) - 50 = nI g from by
      rw [show (50 : Int32) = nI 50 from rfl, pk_sub (by omega), show 50 + g - 50 = g by omega], hv]
    rfl
  · have := nI_inj (by omega) (by omega) e
    omega
  · have e : f = g := by
      have := nI_inj (by omega) (by omega) e
      omega
    subst e
    unfold eqF
    rw [c1, c2, c3, if_pos rfl, if_pos rfl, ha (7 + f) (by omega) (by omega) (by omega), ha 3 (by omega) (by omega) (by omega), ha 4 (by omega) (by omega) (by omega), ha 5 (by omega) (by omega) (by omega), ha k (by omega) (by omega) (by omega), hE, hE2]
    exact ⟨rfl, rfl⟩
  · have h1 := he.1 p hpn e
    unfold eqP at h1 ⊢
    rw [c1, ha 22 (by omega) (by omega) (by omega), ha 23 (by omega) (by omega) (by omega), ha 24 (by omega) (by omega) (by omega), ha 25 (by omega) (by omega) (by omega), h1]
    refine (evP_congr (n := n) (by omega) hn (hp p hpn) (fun _ _ => rfl) (fun b hb hF hpa => ?_)).symm
    rw [c3, if_neg (fun hbg => hd (Or.inr (Or.inl ⟨p, g, hpn, by omega, e, rfl, hF, by rw [← hbg]; exact hpa⟩)))]
  · have hfg : f ≠ g := fun h => hy (by rw [e, h])
    have h1 := he.2 f hf e
    unfold eqF at h1 ⊢
    rw [c1, c2, c3, if_neg hfg, if_neg hfg, ha (7 + f) (by omega) (by omega) (by omega), ha 3 (by omega) (by omega) (by omega), ha 4 (by omega) (by omega) (by omega), ha 5 (by omega) (by omega) (by omega), ha k (by omega) (by omega) (by omega)]
    exact h1
theorem netC_same {s n np : Nat} {M M' : Mm} (hs : s = 37 ∨ s = 64) (h : sameS s M M') (hN : netC n np M) : netC n np M' := by
  obtain ⟨hn, hnp, hc1, hc2, hp, hr, hm⟩ := hN
  have ha : ∀ a, a < 30 → M'.1 a = M.1 a := fun a h0 => h.2 a (by omega) (by omega) (by omega)
  refine ⟨hn, hnp, by rw [ha 2 (by decide)]; exact hc1, by rw [ha 21 (by decide)]; exact hc2, fun p hpn => ?_, fun f hf j hj => ?_, fun f hf => ?_⟩
  · rw [ha 22 (by decide), ha 23 (by decide), ha 24 (by decide), ha 25 (by decide)]; exact hp p hpn
  · rw [ha (7 + f) (by omega)]; exact hr f hf j hj
  · rw [ha 5 (by decide)]; exact hm f hf
theorem dep_same {s np : Nat} {M M' : Mm} (hs : s = 37 ∨ s = 64) (h : sameS s M M') {x y : Int32} (hd : dep np M' x y) : dep np M x y := by
  have ha : ∀ a, a < 30 → M'.1 a = M.1 a := fun a h0 => h.2 a (by omega) (by omega) (by omega)
  rcases hd with ⟨p, o, a, b, c, d⟩ | ⟨p, g, a, b, c, d, e, f⟩ | ⟨f, p, a, b, c, d, e⟩
  · rw [ha 22 (by decide), ha 23 (by decide), ha 24 (by decide), ha 25 (by decide)] at d
    exact Or.inl ⟨p, o, a, b, c, d⟩
  · rw [ha 22 (by decide)] at e
    rw [ha 23 (by decide)] at f
    exact Or.inr (Or.inl ⟨p, g, a, b, c, d, e, f⟩)
  · rw [ha (7 + f) (by omega)] at e
    exact Or.inr (Or.inr ⟨f, p, a, b, c, d, e⟩)
theorem step_run {s k n np : Nat} {M : Mm} {x : Int32} (hs : s = 37 ∨ s = 64) (hk : (33 ≤ k ∧ k ≤ 36) ∨ k = 62) (hN : netC n np M) (hx : (∃ p, p < np ∧ x = nI p) ∨ ∃ f, f < n ∧ x = nI (50 + f)) : ∃ M', FX6_takeStep s k x M = some M' ∧ sameS s M M' ∧ eqS s k np n M' x ∧ ∀ y, y ≠ x → ¬ dep np M y x → eqS s k np n M y → eqS s k np n M' y := by
  rcases hx with ⟨p, hp, e⟩ | ⟨f, hf, e⟩
  · subst e; exact step_part hs hk hN hp
  · subst e; exact step_field hs hk hN hf
/-- look: all equations hold -/
theorem look_run {N s k n np c : Nat} {M : Mm} (hN0 : 100 < N) (hs : s = 37 ∨ s = 64) (hk : (33 ≤ k ∧ k ≤ 36) ∨ k = 62) (hN : netC n np M) (hS : stepsOK n np c M) : ∃ M', FX6_look N s k M = some M' ∧ sameS s M M' ∧ (∀ p, p < np → eqP s M' p) ∧ ∀ f, f < n → eqF s k M' f := by
  obtain ⟨hc, hc1, hv, hp, hf, hinj, hord⟩ := hS
  unfold FX6_look
  refine lp_up (fun i (q : Int32 × Mm) => q.1 = nI i ∧ sameS s M q.2 ∧ ∀ j, j < i → eqS s k np n q.2 (M.1 27 j)) (fun o => ∃ M', o = some M' ∧ sameS s M M' ∧ (∀ p, p < np → eqP s M' p) ∧ ∀ f, f < n → eqF s k M' f) c N (0, M) ⟨rfl, sameS_rf s M, fun j h => absurd h (Nat.not_lt_zero _)⟩ (by omega) ?_ ?_
  · rintro i ⟨x, Q⟩ K hi ⟨h0, h1, h2⟩
    dsimp only at h0 h1 h2
    subst h0
    obtain ⟨M', r1, r2, r3, r4⟩ := step_run (x := M.1 27 i) hs hk (netC_same hs h1 hN) (hv i hi)
    left
    refine ⟨(nI (i + 1), M'), ⟨rfl, sameS_t h1 r2, fun j hj => ?_⟩, ?_⟩
    · dsimp only
      by_cases e : j = i
      · subst e; exact r3
      · refine r4 _ (fun h => e (hinj j i (by omega) hi h)) (fun hd => ?_) (h2 j (by omega))
        obtain ⟨j2, hj2, he⟩ := hord j (by omega) _ (dep_same hs h1 hd)
        have := hinj j2 i (by omega) hi he
        omega
    · rw [eBX6_look_2]
      dsimp only
      rw [h1.2 1 (by omega) (by omega) (by omega), hc1, if_neg (lt_nI hi (by omega)), rdI_nI (by omega) (by decide), Option.bind_some, h1.2 27 (by omega) (by omega) (by omega), r1, Option.bind_some, nI_1]
  · rintro ⟨x, Q⟩ K ⟨h0, h1, h2⟩
    dsimp only at h0 h1 h2
    subst h0
    rw [eBX6_look_2]
    dsimp only
    rw [h1.2 1 (by omega) (by omega) (by omega), hc1, if_pos (le_nI c (by omega))]
    refine ⟨Q, rfl, h1, fun p hpn => ?_, fun f hfn => ?_⟩
    · obtain ⟨i, hi, he⟩ := hp p hpn
      exact (h2 i hi).1 p hpn he
    · obtain ⟨i, hi, he⟩ := hf f hfn
      exact (h2 i hi).2 f hfn he
