/-! ===== the reference's arrange and layDraft ===== -/
/-- what holds of the reference's cells when it is ordered -/
def refOrd (n np : Nat) (M : Mm) : Prop := (∀ f, f < n → (∀ k, bl (M.2 80 f) k = true ↔ NdP np M f k) ∧ ∀ g, bt (M.1 79 f) g = true ↔ TC (Dm np M) n f g) ∧ ordOK n (fun f => cnt (M.1 79 f) 12) M
/-- memories that differ in what arrange writes alone -/
def sameO (M M' : Mm) : Prop := (∀ a, a ≠ 69 → a ≠ 78 → a ≠ 79 → a ≠ 81 → M'.1 a = M.1 a) ∧ (∀ j, j ≠ 10 → M'.1 69 j = M.1 69 j) ∧ ∀ a, a ≠ 80 → M'.2 a = M.2 a
theorem sameO_rf (M : Mm) : sameO M M := ⟨fun _ _ _ _ _ => rfl, fun _ _ => rfl, fun _ _ => rfl⟩
theorem netR_same {n np : Nat} {M M' : Mm} (h : ∀ a, 70 ≤ a → a ≤ 77 → M'.1 a = M.1 a) (h0 : M'.1 69 0 = M.1 69 0) (h5 : M'.1 69 5 = M.1 69 5) (hN : netR n np M) : netR n np M' := by
  obtain ⟨hn, hnp, hc1, hc2, hp, hr, hm, hsp⟩ := hN
  refine ⟨hn, hnp, by rw [h0]; exact hc1, by rw [h5]; exact hc2, ?_, ?_, ?_, ?_⟩
  · rw [h 74 (by decide) (by decide), h 75 (by decide) (by decide), h 76 (by decide) (by decide), h 77 (by decide) (by decide)]; exact hp
  · rw [h 73 (by decide) (by decide)]; exact hr
  · rw [h 72 (by decide) (by decide)]; exact hm
  · rw [h 70 (by decide) (by decide)]; exact hsp
theorem NdP_net {np : Nat} {M M' : Mm} (h : ∀ a, 70 ≤ a → a ≤ 77 → M'.1 a = M.1 a) {f k : Nat} : NdP np M' f k = NdP np M f k := by
  unfold NdP
  rw [h 73 (by decide) (by decide), h 74 (by decide) (by decide), h 75 (by decide) (by decide), h 76 (by decide) (by decide), h 77 (by decide) (by decide)]
theorem Dm_net {np : Nat} {M M' : Mm} (h : ∀ a, 70 ≤ a → a ≤ 77 → M'.1 a = M.1 a) : Dm np M' = Dm np M := by
  funext f g
  unfold Dm
  rw [h 74 (by decide) (by decide), h 75 (by decide) (by decide)]
  simp only [NdP_net h]
theorem cnt_12 {m : Int32} {j : Nat} (hj : j < 12) (h : bt m j = false) : cnt m 12 < 12 := by
  have h1 : cnt (-1) 12 = 12 := by decide +kernel
  have h2 : ∀ i, i < 12 → bt (-1) i = true := by decide +kernel
  have := cnt_lt (x := m) (y := -1) (j := j) 12 hj (fun i hi _ => h2 i hi) h (h2 j hj)
  omega
theorem arrange_ref {N n np : Nat} {M : Mm} (hN0 : 60 < N) (hN : netR n np M) (hac : ∀ f, f < n → ¬ TC (Dm np M) n f f) (hrk : ∀ f k b, f < n → pth (Dm np M) n k f b → k ≤ n) (hO : M.1 69 10 = 0 ∨ (M.1 69 10 = 1 ∧ refOrd n np M)) : ∃ M', FX10_arrange N M = some M' ∧ sameO M M' ∧ M'.1 69 10 = 1 ∧ refOrd n np M' := by
  unfold FX10_arrange
  rcases hO with e | ⟨e, ho⟩
  · rw [if_pos e]
    show ∃ M', ((some (up1 M 69 10 1)).bind fun M2 => _) = some M' ∧ _
    rw [Option.bind_some]
    have hA : ∀ a, a ≠ 69 → (up1 M 69 10 1).1 a = M.1 a := fun a ha => up1_ne ha
    have hB : ∀ j, j ≠ 10 → (up1 M 69 10 1).1 69 j = M.1 69 j := fun j hj => by rw [up1_same, if_neg hj]
    have hN1 : netR n np (up1 M 69 10 1) := netR_same (fun a h1 h2 => hA a (by omega)) (hB 0 (by decide)) (hB 5 (by decide)) hN
    have hD : Dm np (up1 M 69 10 1) = Dm np M := Dm_net (fun a h1 h2 => hA a (by omega))
    obtain ⟨hn, hnp, hc1, hc2, hp, hr, hm, hsp⟩ := hN1
    obtain ⟨Q, q1, q2, q3, q4⟩ := findHangs_run (N := N) (M := up1 M 69 10 1) hN0 hn hnp hc1 hc2 (fun p hpn => pok_ops (hp p hpn)) (fun k hk hF => pok_fld (hp k hk) hF) (fun f hf => ⟨hr f hf 0 (by decide), hr f hf 3 (by decide)⟩)
    rw [hD] at q4
    rw [q1, Option.bind_some]
    have hang : ∀ f, f < n → ∀ g, bt (Q.1 79 f) g = true ↔ TC (Dm np M) n f g := fun f hf g => ⟨(q4 f hf).2.1 g, fun ⟨k, hk⟩ => (q4 f hf).1 k g (hrk f k g hf hk) hk⟩
    obtain ⟨M', r1, r2, r3⟩ := order_all (N := N) (n := n) (c := fun f => cnt (Q.1 79 f) 12) (M := Q) hN0 hn (by rw [q2.1 69 (by decide) (by decide)]; exact hc1) (fun _ _ => rfl) (fun f hf => cnt_12 (j := f) (by omega) (by
      cases hb : bt (Q.1 79 f) f with
      | false => rfl
      | true => exact absurd ((hang f hf f).mp hb) (hac f hf)))
    have hAll : ∀ a, a ≠ 69 → a ≠ 78 → a ≠ 79 → a ≠ 81 → M'.1 a = M.1 a := fun a x y z w => (r2.2 a w).trans ((q2.1 a y z).trans (hA a x))
    have hNet : ∀ a, 70 ≤ a → a ≤ 77 → M'.1 a = M.1 a := fun a h1 h2 => hAll a (by omega) (by omega) (by omega) (by omega)
    have e79 : M'.1 79 = Q.1 79 := r2.2 79 (by decide)
    refine ⟨M', r1, ⟨hAll, fun j hj => ?_, fun a ha => ?_⟩, ?_, fun f hf => ⟨fun k => ?_, fun g => ?_⟩, ?_⟩
    · rw [r2.2 69 (by decide), q2.1 69 (by decide) (by decide)]; exact hB j hj
    · rw [r2.1]; exact q2.2 a ha
    · rw [r2.2 69 (by decide), q2.1 69 (by decide) (by decide), up1_same, if_pos rfl]
    · rw [r2.1, (q3 f hf).1 k, NdP_net (fun a h1 h2 => hA a (by omega)), NdP_net hNet]
    · rw [e79, Dm_net hNet]; exact hang f hf g
    · rw [e79]; exact r3
  · rw [if_neg (by rw [e]; decide)]
    exact ⟨M, rfl, sameO_rf M, e, ho⟩
theorem ix12 (d f : Nat) : (12 : Int32) * nI d + nI f = nI (12 * d + f) := by
  rw [show (12 : Int32) = nI 12 from rfl, pk_mul, nI_add]
/-- memories that differ in what layDraft writes behind arrange alone -/
def sameD (M M' : Mm) : Prop := M'.2 = M.2 ∧ ∀ a, a ≠ 83 → a ≠ 84 → a ≠ 85 → a ≠ 86 → a ≠ 87 → M'.1 a = M.1 a
theorem sameD_rf (M : Mm) : sameD M M := ⟨rfl, fun _ _ _ _ _ _ => rfl⟩
theorem sameD_t {M M1 M2 : Mm} (h1 : sameD M M1) (h2 : sameD M1 M2) : sameD M M2 := ⟨h2.1.trans h1.1, fun a v x y z w => (h2.2 a v x y z w).trans (h1.2 a v x y z w)⟩
theorem sameD_J {M M' : Mm} (h : sameJ M M') : sameD M M' := ⟨h.1, fun a _ x y z w => h.2 a x y z w⟩
theorem lay_rows {N n d : Nat} {M : Mm} {P : Option Mm → Prop} (hN0 : 60 < N) (hn : n ≤ 12) (hd : d < 4) (hc : M.1 69 0 = nI n) (hk : ∀ M1, sameD M M1 → (∀ f, f < n → M1.1 83 f = M.1 88 (12 * d + f)) → P (lp (BX10_layDraft_47 N) N (0, M1))) : P (lp (BX10_layDraft_6 N) N (nI d, 0, M)) := by
  refine lp_up (fun i (q : Int32 × Int32 × Mm) => q.1 = nI d ∧ q.2.1 = nI i ∧ sameD M q.2.2 ∧ ∀ f, f < i → q.2.2.1 83 f = M.1 88 (12 * d + f)) P n N _ ⟨rfl, rfl, sameD_rf M, fun f h => absurd h (Nat.not_lt_zero _)⟩ (by omega) ?_ ?_
  · rintro i ⟨a, b, Q⟩ K hi ⟨e0, e1, s1, g1⟩
    dsimp only at e0 e1 s1 g1
    subst e0
    subst e1
    left
    refine ⟨(nI d, nI (i + 1), up1 (up1 Q 83 i (M.1 88 (12 * d + i))) 86 i (-2000000000)), ⟨rfl, rfl, sameD_t s1 ⟨rfl, fun a v x y z w => by rw [up1_ne z, up1_ne v]⟩, fun f hf => ?_⟩, ?_⟩
    · dsimp only
      rw [up1_ne (by decide), up1_same]
      by_cases e : f = i
      · rw [if_pos e, e]
      · rw [if_neg e]; exact g1 f (by omega)
    · rw [eBX10_layDraft_6]
      dsimp only
      rw [s1.2 69 (by decide) (by decide) (by decide) (by decide) (by decide), hc, if_neg (lt_nI hi (by omega)), ix12, rdI_nI (by omega) (by decide), Option.bind_some, wrI_nI (by omega) (by decide), Option.bind_some, wrI_nI (by omega) (by decide), Option.bind_some, nI_1, s1.2 88 (by decide) (by decide) (by decide) (by decide) (by decide)]
  · rintro ⟨a, b, Q⟩ K ⟨e0, e1, s1, g1⟩
    dsimp only at e0 e1 s1 g1
    subst e0
    subst e1
    rw [eBX10_layDraft_6]
    dsimp only
    rw [s1.2 69 (by decide) (by decide) (by decide) (by decide) (by decide), hc, if_pos (le_nI n (by omega))]
    exact hk Q s1 g1
theorem solR_same {n np : Nat} {M M' : Mm} {row V SH CN : Nat → Int32} (h : ∀ a, 70 ≤ a → a ≤ 77 → M'.1 a = M.1 a) (hs : solR n np M row V SH CN) : solR n np M' row V SH CN := by
  unfold solR at *
  rw [h 70 (by decide) (by decide), h 71 (by decide) (by decide), h 72 (by decide) (by decide), h 73 (by decide) (by decide), h 74 (by decide) (by decide), h 75 (by decide) (by decide), h 76 (by decide) (by decide), h 77 (by decide) (by decide)]
  exact hs
/-- the fields judged one behind the other, then all parts: the solution -/
theorem lay_judge {N n np : Nat} {M : Mm} {row V SH CN : Nat → Int32} (hN0 : 60 < N) (hN : netR n np M) (hO : refOrd n np M) (hac : ∀ f, f < n → ¬ TC (Dm np M) n f f) (hsol : solR n np M row V SH CN) (hrow : ∀ f, f < n → M.1 83 f = row f) (hok : ∀ f, f < n → M.1 72 f = 0 → row f = LO ∨ (¬ row f < M.1 70 f ∧ ¬ M.1 71 f < row f)) : ∃ M', lp (BX10_layDraft_47 N) N (0, M) = some M' ∧ sameJ M M' ∧ (∀ p, p < np → M'.1 87 p = V p) ∧ ∀ f, f < n → M'.1 84 f = SH f ∧ M'.1 86 f = CN f := by
  have hN' := hN
  obtain ⟨hn, hnp, hc1, hc2, hp, hr, hm, hsp⟩ := hN
  obtain ⟨o1, o2, o3⟩ := hO
  have hDn : ∀ a b, Dm np M a b → b < n := fun a b ⟨h12, k, h1, h2, h3, h4⟩ => by
    obtain ⟨g, hg, he⟩ := pok_fld (hp k h1) h3
    rw [nI_inj (by omega) (by omega) (h4.symm.trans he)]
    exact hg
  have hpos : ∀ f g, f < n → Dm np M f g → pos (fun f => cnt (M.1 79 f) 12) n g < pos (fun f => cnt (M.1 79 f) 12) n f := fun f g hf hd => by
    have hgn := hDn f g hd
    refine pos_mono hgn (cnt_lt (j := g) 12 (by omega) (fun i _ hb => ?_) ?_ ?_)
    · rw [(o1 g hgn).2] at hb
      rw [(o1 f hf).2]
      exact TC_t hgn (TC_e hd) hb
    · cases hb : bt (M.1 79 g) g with
      | false => rfl
      | true => exact absurd (((o1 g hgn).2 g).mp hb) (hac g hgn)
    · rw [(o1 f hf).2]; exact TC_e hd
  refine lp_up (fun i (q : Int32 × Mm) => q.1 = nI i ∧ sameJ M q.2 ∧ ∀ f, f < n → pos (fun f => cnt (M.1 79 f) 12) n f < i → q.2.1 84 f = SH f ∧ q.2.1 86 f = CN f) (fun o => ∃ M', o = some M' ∧ sameJ M M' ∧ (∀ p, p < np → M'.1 87 p = V p) ∧ ∀ f, f < n → M'.1 84 f = SH f ∧ M'.1 86 f = CN f) n N _ ⟨rfl, sameJ_rf M, fun f _ h => absurd h (Nat.not_lt_zero _)⟩ (by omega) ?_ ?_
  · rintro i ⟨x, Q⟩ K hi ⟨e0, s1, g1⟩
    dsimp only at e0 s1 g1
    subst e0
    obtain ⟨f, hf, hof, hpf⟩ := o2 i hi
    have hNet : ∀ a, 70 ≤ a → a ≤ 77 → Q.1 a = M.1 a := fun a h1 h2 => s1.2 a (by omega) (by omega) (by omega) (by omega)
    have e69 : Q.1 69 = M.1 69 := s1.2 69 (by decide) (by decide) (by decide) (by decide)
    obtain ⟨M', r1, r2, r3, r4, r5⟩ := judge_sol (N := N) (f := f) (M := Q) (row := row) (V := V) (SH := SH) (CN := CN) hN0 (netR_same hNet (by rw [e69]) (by rw [e69]) hN') hf (solR_same hNet hsol) (fun k => by rw [s1.1, NdP_net hNet]; exact (o1 f hf).1 k) (by rw [s1.2 83 (by decide) (by decide) (by decide) (by decide)]; exact hrow f hf) (by rw [hNet 70 (by decide) (by decide), hNet 71 (by decide) (by decide), hNet 72 (by decide) (by decide)]; exact hok f hf) (fun g hd => by
      rw [Dm_net hNet] at hd
      have := hpos f g hf hd
      exact (g1 g (hDn f g hd) (by omega)).2)
    left
    refine ⟨(nI (i + 1), M'), ⟨rfl, sameJ_t s1 r2, fun f2 hf2 hp2 => ?_⟩, ?_⟩
    · dsimp only
      by_cases e : f2 = f
      · subst e; exact ⟨r3, r4⟩
      · rw [(r5 f2 e).1, (r5 f2 e).2]
        refine g1 f2 hf2 ?_
        rcases Nat.lt_or_ge (pos (fun f => cnt (M.1 79 f) 12) n f2) i with h | h
        · exact h
        · have h9 : pos (fun f => cnt (M.1 79 f) 12) n f2 = i := by omega
          have h8 := o3 f2 hf2
          rw [h9, hof] at h8
          exact absurd (nI_inj (by omega) (by omega) h8).symm e
    · rw [eBX10_layDraft_47]
      dsimp only
      rw [e69, hc1, if_neg (lt_nI hi (by omega)), rdI_nI (by omega) (by decide), Option.bind_some, s1.2 81 (by decide) (by decide) (by decide) (by decide), hof, r1, Option.bind_some, nI_1]
  · rintro ⟨x, Q⟩ K ⟨e0, s1, g1⟩
    dsimp only at e0 s1 g1
    subst e0
    have hNet : ∀ a, 70 ≤ a → a ≤ 77 → Q.1 a = M.1 a := fun a h1 h2 => s1.2 a (by omega) (by omega) (by omega) (by omega)
    have e69 : Q.1 69 = M.1 69 := s1.2 69 (by decide) (by decide) (by decide) (by decide)
    rw [eBX10_layDraft_47]
    dsimp only
    rw [e69, hc1, if_pos (le_nI n (by omega))]
    obtain ⟨M', r1, r2, r3⟩ := workAll_sol (N := N) (n := n) (np := np) (M := Q) (S := -1) (V := V) (CN := CN) hN0 (netR_same hNet (by rw [e69]) (by rw [e69]) hN') (solR_same hNet hsol).1 (fun p o hpn _ hop => l_m1 o (by have := hop.1; omega)) (fun p g hpn _ hF hpa hgn => (g1 g hgn (pos_lt hgn)).2)
    rw [r1, Option.bind_some]
    refine ⟨M', rfl, sameJ_t s1 (sameJ_87 r2), fun p hpn => r3 p hpn (l_m1 p (by omega)), fun f hf => ?_⟩
    rw [r2.2 84 (by decide), r2.2 86 (by decide)]
    exact g1 f hf (pos_lt hf)
