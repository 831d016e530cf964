/-! ===== lookAgain: as look, where only some answers have changed ===== -/
theorem eqF_row {s k f : Nat} {M M' : Mm} (hs : s = 37 ∨ s = 64) (hk : (33 ≤ k ∧ k ≤ 36) ∨ k = 62) (hf : f < 12) (h : sameX k M M') (hr : M'.1 k f = M.1 k f) (he : eqF s k M f) : eqF s k M' f := by
  unfold eqF at *
  rw [h.2 (s + 1) (by omega), h.2 (s + 2) (by omega), h.2 (s + 3) (by omega), h.2 (7 + f) (by omega), h.2 3 (by omega), h.2 4 (by omega), h.2 5 (by omega), hr]
  exact he
theorem eqP_row {s k p : Nat} {M M' : Mm} (hs : s = 37 ∨ s = 64) (hk : (33 ≤ k ∧ k ≤ 36) ∨ k = 62) (h : sameX k M M') (he : eqP s M p) : eqP s M' p := by
  unfold eqP at *
  rw [h.2 (s + 1) (by omega), h.2 (s + 3) (by omega), h.2 22 (by omega), h.2 23 (by omega), h.2 24 (by omega), h.2 25 (by omega)]
  exact he
theorem and_0 {x y : Int32} : x &&& y = 0 ↔ ∀ b, bt x b = true → bt y b = false := by
  constructor
  · intro h b hb
    have h2 : bt (x &&& y) b = false := by rw [h]; exact b_0 b
    rw [b_and, hb, Bool.true_and] at h2
    exact h2
  · intro h
    refine b_eq0 (fun i _ => ?_)
    rw [b_and]
    cases hb : bt x i with
    | false => rfl
    | true => rw [h i hb]; rfl
theorem again_run {N s k n np c : Nat} {M : Mm} {ch : Int32} (hN0 : 100 < N) (hs : s = 37 ∨ s = 64) (hk : (33 ≤ k ∧ k ≤ 36) ∨ k = 62) (hN : netC n np M) (hS : steps n np c M) (hP : ∀ p, p < np → eqP s M p) (hF : ∀ f, f < n → bt ch f = false → eqF s k M f) : ∃ M', FX6_lookAgain N s k ch M = some M' ∧ sameS s M M' ∧ (∀ p, p < np → eqP s M' p) ∧ ∀ f, f < n → eqF s k M' f := by
  obtain ⟨⟨hc, hc1, hv, hp, hf, hinj, hord⟩, hmv, hown⟩ := hS
  have hn := hN.1
  have hnp := hN.2.1
  unfold FX6_lookAgain
  refine lp_up (fun i (q : Int32 × Int32 × Mm) => q.1 = ch ∧ q.2.1 = nI i ∧ sameS s M q.2.2 ∧ ∀ j, j < c → (j < i ∨ M.1 28 j &&& ch = 0) → eqS s k np n q.2.2 (M.1 27 j)) (fun o => ∃ M', o = some M' ∧ sameS s M M' ∧ (∀ p, p < np → eqP s M' p) ∧ ∀ f, f < n → eqF s k M' f) c N (ch, 0, M) ⟨rfl, rfl, sameS_rf s M, fun j hj h => ?_⟩ (by omega) ?_ ?_
  · have h : M.1 28 j &&& ch = 0 := h.elim (fun q => absurd q (Nat.not_lt_zero _)) id
    refine ⟨fun p hpn _ => hP p hpn, fun f hfn e => hF f hfn (and_0.mp h f (hown j f hj hfn e))⟩
  · rintro i ⟨x, y, Q⟩ K hi ⟨h0, h1, h2, h3⟩
    dsimp only at h0 h1 h2 h3
    subst h0
    subst h1
    left
    rw [eBX6_lookAgain_3]
    dsimp only
    rw [h2.2 1 (by omega) (by omega) (by omega), hc1, if_neg (lt_nI hi (by omega)), rdI_nI (by omega) (by decide), Option.bind_some, h2.2 28 (by omega) (by omega) (by omega)]
    by_cases hz : M.1 28 i &&& x = 0
    · rw [if_pos hz]
      refine ⟨(x, nI (i + 1), Q), ⟨rfl, rfl, h2, fun j hj h => ?_⟩, by rw [nI_1]⟩
      by_cases e : j = i
      · subst e; exact h3 j hj (Or.inr hz)
      · exact h3 j hj (h.elim (fun h => Or.inl (by omega)) Or.inr)
    · rw [if_neg hz]
      obtain ⟨M', r1, r2, r3, r4⟩ := step_run (x := M.1 27 i) hs hk (netC_same hs h2 hN) (hv i hi)
      refine ⟨(x, nI (i + 1), M'), ⟨rfl, rfl, sameS_t h2 r2, fun j hj h => ?_⟩, ?_⟩
      · dsimp only
        by_cases e : j = i
        · subst e; exact r3
        · refine r4 _ (fun h => e (hinj j i hj hi h)) (fun hd => ?_) (h3 j hj (h.elim (fun h => Or.inl (by omega)) Or.inr))
          have hd := dep_same hs h2 hd
          obtain ⟨j2, hj2, he⟩ := hord j hj _ hd
          have e2 := hinj j2 i (by omega) hi he
          have hsub := hmv j i hj hi hd
          rcases h with h | h
          · omega
          · exact hz (and_0.mpr (fun b hb => and_0.mp h b (hsub b hb)))
      · rw [rdI_nI (by omega) (by decide), Option.bind_some, h2.2 27 (by omega) (by omega) (by omega), r1, Option.bind_some, nI_1]
  · rintro ⟨x, y, Q⟩ K ⟨h0, h1, h2, h3⟩
    dsimp only at h0 h1 h2 h3
    subst h0
    subst h1
    rw [eBX6_lookAgain_3]
    dsimp only
    rw [h2.2 1 (by omega) (by omega) (by omega), hc1, if_pos (le_nI c (by omega))]
    refine ⟨Q, rfl, h2, fun p hpn => ?_, fun f hfn => ?_⟩
    · obtain ⟨i, hi, he⟩ := hp p hpn
      exact (h3 i hi (Or.inl hi)).1 p hpn he
    · obtain ⟨i, hi, he⟩ := hf f hfn
      exact (h3 i hi (Or.inl hi)).2 f hfn he
