/-! ===== the call rule ===== -/
theorem Dm_gen {np x g : Nat} {r0 r3 : Int32} {M : Mm} (e0 : M.1 73 (4 * x) = r0) (e3 : M.1 73 (4 * x + 3) = r3) : Dm np M x g ↔ g < 12 ∧ ∃ p, p < np ∧ (r0 = nI p ∨ r3 = nI p) ∧ AO (M.1 74) (M.1 75) (M.1 76) (M.1 77) p g := by
  unfold Dm NdP RLp AO
  rw [e0, e3]
  refine and_congr Iff.rfl ⟨?_, ?_⟩
  · rintro ⟨k, hk, (⟨p, hpn, e1, hr⟩ | ⟨p, hpn, e1, hr⟩), hF, ha⟩
    · exact ⟨p, hpn, Or.inl e1, k, hr, hF, ha⟩
    · exact ⟨p, hpn, Or.inr e1, k, hr, hF, ha⟩
  · rintro ⟨p, hpn, (e1 | e1), k, hr, hF, ha⟩
    · exact ⟨k, Nat.lt_of_le_of_lt (RS_le hr) hpn, Or.inl ⟨p, hpn, e1, hr⟩, hF, ha⟩
    · exact ⟨k, Nat.lt_of_le_of_lt (RS_le hr) hpn, Or.inr ⟨p, hpn, e1, hr⟩, hF, ha⟩
/-- the reference with the rule laid, over any memory whose cells from 70 on are M's -/
theorem ref_try {N n np f w : Nat} {v m : Int32} {M Q : Mm} (hN : 100 < N) (h : coreI n np M) (hf : f < n) (hw : w < 4) (hv : rlok np v) (hQ : ∀ a, 69 ≤ a → Q.1 a = M.1 a) (hm2 : ∀ g, bt m g = true ↔ g < 12 ∧ ∃ p, p < np ∧ (nr (M.1 (7 + f)) w v 0 = nI p ∨ nr (M.1 (7 + f)) w v 3 = nI p) ∧ AO (M.1 22) (M.1 23) (M.1 24) (M.1 25) p g) : ∃ R, FX10_findHangs N (up1 Q 73 (4 * f + w) v) = some R ∧ sameR (up1 Q 73 (4 * f + w) v) R ∧ (bt (R.1 79 f) f = true ↔ (bt m f = true ∨ ∃ x, x < n ∧ bt m x = true ∧ bt (M.1 20 x) f = true)) ∧ R.1 78 f = m ∧ ∀ x, x < n → x ≠ f → R.1 78 x = M.1 19 x := by
  have hRn := netR_of h
  obtain ⟨hn, hnp, hc1, hc2, hp, hr, hmm, hsp⟩ := hRn
  obtain ⟨q3, q4, q5, q22, q23, q24, q25, q7⟩ := h.2.1
  have ux : ∀ a, 69 ≤ a → a ≠ 73 → (up1 Q 73 (4 * f + w) v).1 a = M.1 a := fun a h1 h2 => by rw [up1_ne h2]; exact hQ a h1
  have u73 : ∀ x j, j < 4 → (up1 Q 73 (4 * f + w) v).1 73 (4 * x + j) = if x = f then nr (M.1 73 ∘ fun i => 4 * f + i) w v j else M.1 73 (4 * x + j) := fun x j hj => by
    rw [up1_same, hQ 73 (by decide)]
    by_cases e : x = f
    · subst e
      rw [if_pos rfl]
      unfold nr
      by_cases e2 : j = w
      · rw [if_pos (by omega), if_pos e2]
      · rw [if_neg (by omega), if_neg e2]; rfl
    · rw [if_neg (by omega), if_neg e]
  have nr7 : ∀ j, j < 4 → nr (M.1 73 ∘ fun i => 4 * f + i) w v j = nr (M.1 (7 + f)) w v j := fun j hj => by
    unfold nr
    by_cases e : j = w
    · rw [if_pos e, if_pos e]
    · rw [if_neg e, if_neg e]; exact (q7 f j (by omega) hj).symm
  have rl : ∀ x, x < n → ∀ j, j < 4 → rlok np ((up1 Q 73 (4 * f + w) v).1 73 (4 * x + j)) := fun x hx j hj => by
    rw [u73 x j hj]
    by_cases e : x = f
    · rw [if_pos e]
      unfold nr
      split
      · exact hv
      · exact hr f hf j hj
    · rw [if_neg e]; exact hr x hx j hj
  obtain ⟨R, r1, r2, r3, r4⟩ := findHangs_run (N := N) (n := n) (np := np) (M := up1 Q 73 (4 * f + w) v) (by omega) hn hnp (by rw [ux 69 (by decide) (by decide)]; exact hc1) (by rw [ux 69 (by decide) (by decide)]; exact hc2) (by rw [ux 74 (by decide) (by decide), ux 75 (by decide) (by decide), ux 76 (by decide) (by decide), ux 77 (by decide) (by decide)]; exact fun p hpn => pok_ops (hp p hpn)) (by rw [ux 74 (by decide) (by decide), ux 75 (by decide) (by decide)]; exact fun k hk hF => pok_fld (hp k hk) hF) (fun x hx => ⟨rl x hx 0 (by decide), rl x hx 3 (by decide)⟩)
  have dF : ∀ g, Dm np (up1 Q 73 (4 * f + w) v) f g ↔ bt m g = true := fun g => by
    rw [Dm_gen (r0 := nr (M.1 (7 + f)) w v 0) (r3 := nr (M.1 (7 + f)) w v 3) (by have := u73 f 0 (by decide); rw [if_pos rfl, nr7 0 (by decide)] at this; exact this) (by have := u73 f 3 (by decide); rw [if_pos rfl, nr7 3 (by decide)] at this; exact this), ux 74 (by decide) (by decide), ux 75 (by decide) (by decide), ux 76 (by decide) (by decide), ux 77 (by decide) (by decide), ← q22, ← q23, ← q24, ← q25, hm2 g]
  have dX : ∀ x g, x < n → x ≠ f → (Dm np (up1 Q 73 (4 * f + w) v) x g ↔ EC M x g) := fun x g hx hxf => by
    rw [← Dm_EC h hx, Dm_gen (M := up1 Q 73 (4 * f + w) v) (r0 := M.1 73 (4 * x)) (r3 := M.1 73 (4 * x + 3)) (by have := u73 x 0 (by decide); rw [if_neg hxf] at this; exact this) (by have := u73 x 3 (by decide); rw [if_neg hxf] at this; exact this), ux 74 (by decide) (by decide), ux 75 (by decide) (by decide), ux 76 (by decide) (by decide), ux 77 (by decide) (by decide)]
    exact (Dm_gen rfl rfl).symm
  have g3 := h.1.2.1.2.2.1
  refine ⟨R, r1, r2, ⟨fun hb => ?_, fun hb => ?_⟩, b_ext (fun g _ => ?_), fun x hx hxf => b_ext (fun g _ => ?_)⟩
  · obtain ⟨k, hk⟩ := (r4 f hf).2.1 f hb
    have hk2 : TC (fun a b => a < n ∧ Dm np (up1 Q 73 (4 * f + w) v) a b) n f f := ⟨k, pth_on (fun a b ha q => ⟨ha, q⟩) k f f hf hk⟩
    rcases cyc_in (E := fun a b => a < n ∧ EC M a b) (fun a b ha q => ⟨q.1, (dX a b q.1 ha).mp q.2⟩) hk2 with q | ⟨x, hx, q1, k2, q2⟩
    · exact Or.inl ((dF f).mp q.2)
    · exact Or.inr ⟨x, hx, (dF x).mp q1.2, (g3 x hx f).mpr ⟨k2, pth_mono (fun _ _ z => z.2) k2 x f q2⟩⟩
  · obtain ⟨k, hk1, hk2⟩ := cyc_out (E := fun a b => a < n ∧ EC M a b) (E' := fun a b => a < n ∧ Dm np (up1 Q 73 (4 * f + w) v) a b) hf (fun a b ha q => ⟨q.1, (dX a b q.1 ha).mpr q.2⟩) (fun k x hx hp => EC_short h.1.1 h.1.2.1 hx (pth_mono (fun _ _ z => z.2) k x f hp)) (by
      rcases hb with q | ⟨x, hx, q1, q2⟩
      · exact Or.inl ⟨hf, (dF f).mpr q⟩
      · obtain ⟨k, hk⟩ := (g3 x hx f).mp q2
        exact Or.inr ⟨x, hx, ⟨hf, (dF x).mpr q1⟩, k, pth_on (fun a b ha z => ⟨ha, z⟩) k x f hx hk⟩)
    exact (r4 f hf).1 k f hk1 (pth_mono (fun _ _ z => z.2) k f f hk2)
  · have z1 := (r3 f hf).2 g
    have z2 := dF g
    cases ha : bt (R.1 78 f) g <;> cases hb : bt m g
    · rfl
    · rw [ha, z2, hb] at z1; exact absurd (z1.mpr rfl) (by decide)
    · rw [ha, z2, hb] at z1; exact absurd (z1.mp rfl) (by decide)
    · rfl
  · have z1 := (r3 x hx).2 g
    have z2 := dX x g hx hxf
    unfold EC at z2
    cases ha : bt (R.1 78 x) g <;> cases hb : bt (M.1 19 x) g
    · rfl
    · rw [ha, z2, hb] at z1; exact absurd (z1.mpr rfl) (by decide)
    · rw [ha, z2, hb] at z1; exact absurd (z1.mp rfl) (by decide)
    · rfl
theorem rule_ok {N n np ns f w : Nat} {v : Int32} {M : Mm} (hN : 100 < N) (h : Inv n np ns M) (hf : f < n) (hw : w < 4) (hv : rlok np v) : ∃ r M1 M2, BX9_rule_68 N (nI f) (nI w) v M = some (r, M1) ∧ BX10_rule_51 N (nI f) (nI w) v M1 = some (r, M2) ∧ (M1.1 69 = M.1 69 ∧ M1.1 72 = M.1 72) ∧ InvE M2 := by
  obtain ⟨hn, hnp, c1, c2, c3, c4⟩ := Inv_n h
  obtain ⟨q3, q4, q5, q22, q23, q24, q25, q7⟩ := h.1.2.1
  have hNc := h.1.1.1
  have hGc := h.1.1.2.1
  obtain ⟨m, m1, m2⟩ := direct_run hNc hGc hf hw hv
  obtain ⟨s, t1, t2⟩ := spread_run (N := N) (n := n) (bits := m) (M := M) (by omega) hn c1
  have hx4 : (4 : Int32) * nI f + nI w = nI (4 * f + w) := ix4 f w
  by_cases hr : bt m f = true ∨ ∃ x, x < n ∧ bt m x = true ∧ bt (M.1 20 x) f = true
  · have hs : bt s f = true := (t2 f).mpr hr
    obtain ⟨L, hL, hL1, hL2⟩ := ring_end hNc hGc hf hr
    obtain ⟨M1, a1, a2, a3, a4, a5⟩ := follow_run hN hNc hGc hf hr hL hL1 hL2
    have a69 : ∀ z, 69 ≤ z → M1.1 z = M.1 z := fun z hz => a3 z (by omega) (by omega)
    obtain ⟨R, b1, b2, b3, b4, b5⟩ := ref_try (Q := M1) hN h.1 hf hw hv a69 m2
    have r69 : R.1 69 = M.1 69 := by rw [b2.1 69 (by decide) (by decide), up1_ne (by decide)]; exact a69 69 (by decide)
    have g3 := hGc.2.2.1
    obtain ⟨R1, d1, d2, d3, d4, d5, d6⟩ := findRing_run (N := N) (n := n) (L := L) (f := f) (m := m) (D := M.1 19) (H := M.1 20) (G := rg n (M.1 19) (M.1 20) f m) (M := R) hN hn hf (by rw [r69]; exact c3) b5 b4 (fun a b ha hb => EC_lt hNc hGc ha hb) (fun a ha q => by
      have := (g3 a ha a).mpr q
      rw [hGc.2.2.2.1 a ha] at this
      cases this) (fun k a b ha hp => EC_short hNc hGc ha hp) (fun a ha b => g3 a ha b) (ringS_rg hNc hGc hf hr hL hL1 hL2)
    obtain ⟨E, hE⟩ : ∃ E, E = up1 (up1 R1 73 (4 * f + w) (M.1 73 (4 * f + w))) 69 10 0 := ⟨_, rfl⟩
    have rx : ∀ z, z ≠ 73 → z ≠ 78 → z ≠ 79 → R.1 z = M1.1 z := fun z h1 h2 h3 => by rw [b2.1 z h2 h3, up1_ne h1]
    have ex : ∀ z, z ≠ 30 → z ≠ 31 → z ≠ 69 → z ≠ 73 → z ≠ 78 → z ≠ 79 → z ≠ 82 → E.1 z = M.1 z := fun z h1 h2 h3 h4 h5 h6 h7 => by
      rw [hE, up1_ne h3, up1_ne h4, d3 z h3 h7, rx z h4 h5 h6, a3 z h1 h2]
    have e73 : E.1 73 = M.1 73 := by
      funext j
      rw [hE, up1_ne (by decide), up1_same, d3 73 (by decide) (by decide), b2.1 73 (by decide) (by decide), up1_same, a69 73 (by decide)]
      by_cases e : j = 4 * f + w
      · rw [if_pos e, e]
      · rw [if_neg e, if_neg e]
    have e69 : ∀ j, j ≠ 10 → j ≠ 15 → E.1 69 j = M.1 69 j := fun j h1 h2 => by rw [hE, up1_same, if_neg h1, up1_ne (by decide), d4 j h2, r69]
    have hI : Inv n np ns E := by
      refine ⟨coreI_same (fun z hz => ex z (by omega) (by omega) (by omega) (by omega) (by omega) (by omega) (by omega)) (fun z h1 h2 => ?_) (e69 0 (by decide) (by decide)) (e69 5 (by decide) (by decide)) h.1, Or.inl ?_, drI_same (fun z hz => ex z (by omega) (by omega) (by omega) (by omega) (by omega) (by omega) (by omega)) h.2.2.1, slI_same (fun z hz => ex z (by omega) (by omega) (by omega) (by omega) (by omega) (by omega) (by omega)) (e69 25 (by decide) (by decide)) h.2.2.2.1, ⟨L + 1, by omega, ?_, ?_, fun i hi => ?_⟩, odI_same (fun z hz => ex z (by omega) (by omega) (by omega) (by omega) (by omega) (by omega) (by omega)) (e69 23 (by decide) (by decide)) h.2.2.2.2.2.1, trI_same (fun z hz => ex z (by omega) (by omega) (by omega) (by omega) (by omega) (by omega) (by omega)) (e69 31 (by decide) (by decide)) h.2.2.2.2.2.2.1, tcI_same (ex 68 (by omega) (by omega) (by omega) (by omega) (by omega) (by omega) (by omega)) (e69 33 (by decide) (by decide)) h.2.2.2.2.2.2.2⟩
      · by_cases e : z = 73
        · subst e; exact e73
        · exact ex z (by omega) (by omega) (by omega) e (by omega) (by omega) (by omega)
      · rw [hE, up1_same, if_pos rfl]
      · rw [hE, up1_ne (by decide), up1_ne (by decide), d3 30 (by decide) (by decide), rx 30 (by decide) (by decide) (by decide)]; exact a4
      · rw [hE, up1_same, if_neg (by decide), up1_ne (by decide)]; exact d5
      · rw [hE, up1_ne (by decide), up1_ne (by decide), up1_ne (by decide), up1_ne (by decide), d6 i (by omega), d3 31 (by decide) (by decide), rx 31 (by decide) (by decide) (by decide), a5 i (by omega)]
    refine ⟨-3, M1, E, ?_, ?_, ⟨a69 69 (by decide), a69 72 (by decide)⟩, n, np, ns, hI⟩
    · rw [eBX9_rule_68, m1, Option.bind_some, t1, Option.bind_some, hasBit_run _ (by omega), Option.bind_some, hs, if_neg (by decide), a1, Option.bind_some]
    · rw [eBX10_rule_51, hx4, rdI_nI (by omega) (by decide), Option.bind_some, wrI_nI (by omega) (by decide), Option.bind_some, b1, Option.bind_some, rdI_nI (by omega) (by decide), Option.bind_some, if_pos ((b_set _ (by omega)).mpr (b3.mpr hr)), d1, Option.bind_some, wrI_nI (by omega) (by decide), Option.bind_some, a69 73 (by decide)]
      show ((some (up1 (up1 R1 73 (4 * f + w) (M.1 73 (4 * f + w))) 69 10 0)).bind fun M16 => some ((-3 : Int32), M16)) = some (-3, E)
      rw [Option.bind_some, hE]
  · have hs : bt s f = false := by
      cases hb : bt s f with
      | false => rfl
      | true => exact absurd ((t2 f).mp hb) hr
    obtain ⟨M1, a1, a2, a3, a4, a5⟩ := setRule_run hN hNc hGc hf hw hv m1 m2 hr
    have a69 : ∀ z, 69 ≤ z → M1.1 z = M.1 z := fun z hz => a5 z (by omega) (by omega)
    obtain ⟨R, b1, b2, b3, b4, b5⟩ := ref_try (Q := M1) hN h.1 hf hw hv a69 m2
    obtain ⟨E, hE⟩ : ∃ E, E = up1 R 69 10 0 := ⟨_, rfl⟩
    have ex : ∀ z, z ≠ 69 → z ≠ 73 → z ≠ 78 → z ≠ 79 → E.1 z = M1.1 z := fun z h1 h2 h3 h4 => by rw [hE, up1_ne h1, b2.1 z h3 h4, up1_ne h2]
    have e73 : ∀ j, E.1 73 j = if j = 4 * f + w then v else M.1 73 j := fun j => by rw [hE, up1_ne (by decide), b2.1 73 (by decide) (by decide), up1_same, a69 73 (by decide)]
    have e69 : ∀ j, j ≠ 10 → E.1 69 j = M.1 69 j := fun j h1 => by rw [hE, up1_same, if_neg h1, b2.1 69 (by decide) (by decide), up1_ne (by decide), a69 69 (by decide)]
    have hi : ∀ z, 29 < z → z ≠ 69 → z ≠ 73 → z ≠ 78 → z ≠ 79 → E.1 z = M.1 z := fun z h1 h2 h3 h4 h5 => by rw [ex z h2 h3 h4 h5, a5 z (by omega) (by omega)]
    have lo : ∀ z, z < 30 → E.1 z = M1.1 z := fun z hz => ex z (by omega) (by omega) (by omega) (by omega)
    have ml : ∀ z, (z = 3 ∨ z = 4 ∨ z = 5 ∨ z = 22 ∨ z = 23 ∨ z = 24 ∨ z = 25) → E.1 z = M.1 z := fun z hz => by rw [lo z (by omega), a5 z (by omega) (by omega)]
    have hI : Inv n np ns E := by
      refine ⟨⟨coreC_30 lo a2, ⟨?_, ?_, ?_, ?_, ?_, ?_, ?_, fun x j hx hj => ?_⟩, by rw [e69 0 (by decide)]; exact c3, by rw [e69 5 (by decide)]; exact c4, fun x hx => ?_⟩, Or.inl (by rw [hE, up1_same, if_pos rfl]), drI_same (fun z hz => ?_) h.2.2.1, slI_same (fun z hz => hi z (by omega) (by omega) (by omega) (by omega) (by omega)) (e69 25 (by decide)) h.2.2.2.1, rgI_same (fun z hz => hi z (by omega) (by omega) (by omega) (by omega) (by omega)) (e69 15 (by decide)) h.2.2.2.2.1, odI_same (fun z hz => hi z (by omega) (by omega) (by omega) (by omega) (by omega)) (e69 23 (by decide)) h.2.2.2.2.2.1, trI_same (fun z hz => hi z (by omega) (by omega) (by omega) (by omega) (by omega)) (e69 31 (by decide)) h.2.2.2.2.2.2.1, tcI_same (hi 68 (by omega) (by omega) (by omega) (by omega) (by omega)) (e69 33 (by decide)) h.2.2.2.2.2.2.2⟩
      · rw [ml 3 (by omega), hi 70 (by omega) (by omega) (by omega) (by omega) (by omega)]; exact q3
      · rw [ml 4 (by omega), hi 71 (by omega) (by omega) (by omega) (by omega) (by omega)]; exact q4
      · rw [ml 5 (by omega), hi 72 (by omega) (by omega) (by omega) (by omega) (by omega)]; exact q5
      · rw [ml 22 (by omega), hi 74 (by omega) (by omega) (by omega) (by omega) (by omega)]; exact q22
      · rw [ml 23 (by omega), hi 75 (by omega) (by omega) (by omega) (by omega) (by omega)]; exact q23
      · rw [ml 24 (by omega), hi 76 (by omega) (by omega) (by omega) (by omega) (by omega)]; exact q24
      · rw [ml 25 (by omega), hi 77 (by omega) (by omega) (by omega) (by omega) (by omega)]; exact q25
      · rw [lo (7 + x) (by omega), e73]
        by_cases e : x = f
        · subst e
          rw [a3 j]
          unfold nr
          by_cases e2 : j = w
          · rw [if_pos e2, if_pos (by omega)]
          · rw [if_neg e2, if_neg (by omega)]; exact q7 x j hx hj
        · rw [a5 (7 + x) (by omega) (by omega), if_neg (by omega)]; exact q7 x j hx hj
      · rw [ml 3 (by omega), ml 4 (by omega)]; exact h.1.2.2.2.2 x hx
      · by_cases e : z < 30
        · exact ml z (by omega)
        · exact hi z (by omega) (by omega) (by omega) (by omega) (by omega)
    refine ⟨1, M1, E, ?_, ?_, ⟨a69 69 (by decide), a69 72 (by decide)⟩, n, np, ns, hI⟩
    · rw [eBX9_rule_68, m1, Option.bind_some, t1, Option.bind_some, hasBit_run _ (by omega), Option.bind_some, hs, if_pos (by rfl), a1, Option.bind_some]
    · rw [eBX10_rule_51, hx4, rdI_nI (by omega) (by decide), Option.bind_some, wrI_nI (by omega) (by decide), Option.bind_some, b1, Option.bind_some, rdI_nI (by omega) (by decide), Option.bind_some, if_neg (fun q => hr (b3.mp ((b_set _ (by omega)).mp q)))]
      show ((some (up1 R 69 10 0)).bind fun M10 => some ((1 : Int32), M10)) = some (1, E)
      rw [Option.bind_some, hE]
theorem c_rule {N n np ns : Nat} {x y z : Int32} {M : Mm} (hN : 100 < N) (h : Inv n np ns M) : CallP (FX9_rule N x y z M) (FX10_rule N x y z) := by
  obtain ⟨hn, hnp, c1, c2, c3, c4⟩ := Inv_n h
  have q5 := h.1.2.1.2.2.1
  rcases fldQ x hn with ⟨f, hf, rfl, a1, a2⟩ | ⟨a1, a2⟩
  · -- the part
    have hpart : (rlok np z ∧ FX9_rule N (nI f) y z M = BX9_rule_36 N (nI f) y z M ∧ ∀ Q : Mm, Q.1 69 = M.1 69 → FX10_rule N (nI f) y z Q = BX10_rule_24 N (nI f) y z Q) ∨ (FX9_rule N (nI f) y z M = some ((-1), M) ∧ FX10_rule N (nI f) y z M = some ((-1), M)) := by
      by_cases e : z = (-9)
      · refine Or.inl ⟨Or.inl e, ?_, fun Q hQ => ?_⟩
        · rw [eFX9_rule, a1 M c1, Option.bind_some, if_neg (by decide), if_pos e]
        · rw [eFX10_rule, a2 Q (by rw [hQ]; exact c3), Option.bind_some, if_pos rfl, if_pos e]
      · rcases prtQ z hnp with ⟨p, hp, ez, b1, b2⟩ | ⟨b1, b2⟩
        · refine Or.inl ⟨Or.inr ⟨p, hp, ez⟩, ?_, fun Q hQ => ?_⟩
          · rw [eFX9_rule, a1 M c1, Option.bind_some, if_neg (by decide), if_neg e, b1 M c2, Option.bind_some, if_neg (by decide)]
          · rw [eFX10_rule, a2 Q (by rw [hQ]; exact c3), Option.bind_some, if_pos rfl, if_neg e, b2 Q (by rw [hQ]; exact c4), Option.bind_some, if_pos rfl]
        · refine Or.inr ⟨?_, ?_⟩
          · rw [eFX9_rule, a1 M c1, Option.bind_some, if_neg (by decide), if_neg e, b1 M c2, Option.bind_some, if_pos rfl]
          · rw [eFX10_rule, a2 M c3, Option.bind_some, if_pos rfl, if_neg e, b2 M c4, Option.bind_some, if_neg (by decide)]
    rcases hpart with ⟨hv, p1, p2⟩ | ⟨p1, p2⟩
    · by_cases hy : y < 0 ∨ 3 < y
      · refine CallP_same (-2) h ?_ ?_
        · rw [p1, eBX9_rule_36]
          by_cases q : y < 0
          · rw [if_pos q]
          · rw [if_neg q, if_pos (hy.resolve_left q)]
        · rw [p2 M rfl, eBX10_rule_24, eFX10_in]
          by_cases q : y < 0
          · rw [if_pos q, Option.bind_some, if_pos rfl]
          · rw [if_neg q, if_pos (hy.resolve_left q), Option.bind_some, if_pos rfl]
      · have y0 : ¬ y < 0 := fun q => hy (Or.inl q)
        have y3 : ¬ 3 < y := fun q => hy (Or.inr q)
        obtain ⟨w, hwj, rfl⟩ := nI_of y0
        have hw : w < 4 := by
          rcases Nat.lt_or_ge w 4 with q | q
          · exact q
          · exact absurd (show (3 : Int32) < nI w from nI_lt (a := 3) (by omega) hwj) y3
        have go : (FX9_rule N (nI f) (nI w) z M = BX9_rule_68 N (nI f) (nI w) z M) → (∀ Q : Mm, Q.1 69 = M.1 69 → Q.1 72 = M.1 72 → FX10_rule N (nI f) (nI w) z Q = BX10_rule_51 N (nI f) (nI w) z Q) → CallP (FX9_rule N (nI f) (nI w) z M) (FX10_rule N (nI f) (nI w) z) := fun g1 g2 => by
          obtain ⟨r, M1, M2, k1, k2, ⟨k3, k4⟩, k5⟩ := rule_ok hN h hf hw hv
          exact ⟨r, M1, M2, by rw [g1, k1], by rw [g2 M1 k3 k4, k2], k5⟩
        have r24 : ∀ Q : Mm, BX10_rule_24 N (nI f) (nI w) z Q = (if nI w = 3 then (rdI Q 72 12 (nI f)).bind fun v5 => (if v5 = 1 then BX10_rule_51 N (nI f) (nI w) z Q else some ((-2), Q)) else BX10_rule_51 N (nI f) (nI w) z Q) := fun Q => by
          rw [eBX10_rule_24, eFX10_in, if_neg y0, if_neg y3, Option.bind_some, if_neg (by decide)]
        have r36 : BX9_rule_36 N (nI f) (nI w) z M = (if nI w = 3 then (rdI M 5 12 (nI f)).bind fun v4 => (if v4 = 0 then some ((-2), M) else BX9_rule_68 N (nI f) (nI w) z M) else BX9_rule_68 N (nI f) (nI w) z M) := by
          rw [eBX9_rule_36, if_neg y0, if_neg y3]
        by_cases e3 : nI w = 3
        · rcases h.1.1.1.2.2.2.2.2.2 f hf with hm | hm
          · refine CallP_same (-2) h ?_ ?_
            · rw [p1, r36, if_pos e3, rdI_nI (by omega) (by decide), Option.bind_some, if_pos hm]
            · rw [p2 M rfl, r24, if_pos e3, rdI_nI (by omega) (by decide), Option.bind_some, ← q5, hm, if_neg (by decide)]
          · refine go ?_ (fun Q h1 h2 => ?_)
            · rw [p1, r36, if_pos e3, rdI_nI (by omega) (by decide), Option.bind_some, hm, if_neg (by decide)]
            · rw [p2 Q h1, r24, if_pos e3, rdI_nI (by omega) (by decide), Option.bind_some, h2, ← q5, if_pos hm]
        · refine go ?_ (fun Q h1 h2 => ?_)
          · rw [p1, r36, if_neg e3]
          · rw [p2 Q h1, r24, if_neg e3]
    · exact CallP_same (-1) h p1 p2
  · refine CallP_same (-1) h ?_ ?_
    · rw [eFX9_rule, a1 M c1, Option.bind_some, if_pos rfl]
    · rw [eFX10_rule, a2 M c3, Option.bind_some, if_neg (by decide)]
