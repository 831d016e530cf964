/-! ===== the class's list and next row; the reference's next row, rows, shows ===== -/
theorem list_run {N : Nat} {m : Int32} {M : Mm} (hN : 100 < N) : ∃ M1, FX8_listTurning N m M = some M1 ∧ M1.2 = M.2 ∧ (∀ z, z ≠ 61 → z ≠ 63 → M1.1 z = M.1 z) ∧ (∀ j, j ≠ 3 → M1.1 61 j = M.1 61 j) ∧ M1.1 61 3 = nI (cntB (fun g => bt m g) 12) ∧ ∀ f, f < 12 → bt m f = true → M1.1 63 (cntB (fun g => bt m g) f) = nI f := by
  rw [eFX8_listTurning]
  show ∃ M1, ((some (up1 M 61 3 0)).bind fun M1 => lp (BX8_listTurning_7 N) N (m, 0, M1)) = some M1 ∧ _
  rw [Option.bind_some]
  refine lp_up (fun i (q : Int32 × Int32 × Mm) => q.1 = m ∧ q.2.1 = nI i ∧ q.2.2.2 = M.2 ∧ (∀ z, z ≠ 61 → z ≠ 63 → q.2.2.1 z = M.1 z) ∧ (∀ j, j ≠ 3 → q.2.2.1 61 j = M.1 61 j) ∧ q.2.2.1 61 3 = nI (cntB (fun g => bt m g) i) ∧ ∀ f, f < i → bt m f = true → q.2.2.1 63 (cntB (fun g => bt m g) f) = nI f) (fun o => ∃ M1 : Mm, o = some M1 ∧ M1.2 = M.2 ∧ (∀ z, z ≠ 61 → z ≠ 63 → M1.1 z = M.1 z) ∧ (∀ j, j ≠ 3 → M1.1 61 j = M.1 61 j) ∧ M1.1 61 3 = nI (cntB (fun g => bt m g) 12) ∧ ∀ f, f < 12 → bt m f = true → M1.1 63 (cntB (fun g => bt m g) f) = nI f) 12 N _ ⟨rfl, rfl, rfl, fun z h1 _ => up1_ne h1, fun j hj => by rw [up1_same, if_neg hj], by rw [up1_same, if_pos rfl]; rfl, fun f hf => absurd hf (Nat.not_lt_zero _)⟩ (by omega) ?_ ?_
  · rintro i ⟨x1, x2, Q⟩ K hi ⟨e1, e2, s2, s1, s3, g1, g2⟩
    dsimp only at e1 e2 s2 s1 s3 g1 g2
    subst e1
    subst e2
    have hle := cntB_le (fun g => bt x1 g) i
    left
    rw [eBX8_listTurning_7]
    dsimp only
    rw [if_neg (show ¬ (12 : Int32) ≤ nI i from lt_nI (n := 12) hi (by decide)), hasBit_run _ (by omega), Option.bind_some, nI_1]
    cases hb : bt x1 i with
    | false =>
      rw [if_pos (by rfl)]
      refine ⟨_, ⟨rfl, rfl, s2, s1, s3, ?_, fun f hf hbf => ?_⟩, rfl⟩
      · dsimp only
        rw [g1, cntB_f hb]
      · dsimp only
        have : f ≠ i := fun q => by rw [q, hb] at hbf; cases hbf
        exact g2 f (by omega) hbf
    | true =>
      rw [if_neg (by decide), g1, wrI_nI (by omega) (by decide), Option.bind_some]
      have e61 : (up1 Q 63 (cntB (fun g => bt x1 g) i) (nI i)).1 61 3 = nI (cntB (fun g => bt x1 g) i) := by rw [up1_ne (by decide)]; exact g1
      show ∃ a', _ ∧ ((some (up1 (up1 Q 63 (cntB (fun g => bt x1 g) i) (nI i)) 61 3 ((up1 Q 63 (cntB (fun g => bt x1 g) i) (nI i)).1 61 3 + 1))).bind fun M7 => _) = K a'
      rw [e61, nI_1, Option.bind_some]
      refine ⟨_, ⟨rfl, rfl, s2, fun z h1 h2 => ?_, fun j hj => ?_, ?_, fun f hf hbf => ?_⟩, rfl⟩
      · dsimp only
        rw [up1_ne h1, up1_ne h2]; exact s1 z h1 h2
      · dsimp only
        rw [up1_same, if_neg hj, up1_ne (by decide)]; exact s3 j hj
      · dsimp only
        rw [up1_same, if_pos rfl, cntB_t hb]
      · dsimp only
        rw [up1_ne (by decide), up1_same]
        by_cases e : f = i
        · subst e; rw [if_pos rfl]
        · have := cntB_ltP (P := fun g => bt x1 g) hbf i (by omega)
          rw [if_neg (by omega)]
          exact g2 f (by omega) hbf
  · rintro ⟨x1, x2, Q⟩ K ⟨e1, e2, s2, s1, s3, g1, g2⟩
    dsimp only at e1 e2 s2 s1 s3 g1 g2
    subst e1
    subst e2
    rw [eBX8_listTurning_7]
    dsimp only
    rw [if_pos (by decide)]
    exact ⟨Q, rfl, s2, s1, s3, g1, g2⟩
theorem m1_eq (x : Int32) : x + (-1) = x - 1 := (Int32.sub_eq_add_neg _ _).symm
theorem turn_go {N : Nat} {S : Nat → Bool} {lo hi : Nat → Int32} : ∀ (j nn : Nat) (ch : Int32) (Q : Mm) (r : Nat → Int32), j ≤ 12 → cntB S j < nn → Q.1 3 = lo → Q.1 4 = hi → (∀ f, f < 12 → S f = true → Q.1 63 (cntB S f) = nI f) → (∀ i, i < 12 → Q.1 62 i = r i) → ∃ ch' Q', lp (BX8_turnRow_9 N) nn (ch, nI (cntB S j) - 1, Q) = some (ch', Q') ∧ sameX 62 Q Q' ∧ (∀ i, i < 12 → Q'.1 62 i = (nx S lo hi j r).1 i) ∧ (∀ f, bt ch f = true → bt ch' f = true) ∧ ∀ f, f < 12 → bt ch' f = false → (nx S lo hi j r).1 f = r f
  | 0, nn + 1, ch, Q, r, _, _, h3, h4, h63, h62 => by
    refine ⟨ch, Q, ?_, sameX_rf 62 Q, h62, fun _ h => h, fun _ _ _ => rfl⟩
    rw [lp_s, eBX8_turnRow_9]
    dsimp only
    rw [if_pos (by show nI 0 - 1 < 0; decide)]
  | j + 1, nn, ch, Q, r, hj, hnn, h3, h4, h63, h62 => by
    cases hS : S j with
    | false =>
      have e1 : cntB S (j + 1) = cntB S j := cntB_f hS
      have e2 : nx S lo hi (j + 1) r = nx S lo hi j r := by rw [nx_s, hS]; rfl
      rw [e1] at hnn ⊢
      rw [e2]
      exact turn_go j nn ch Q r (by omega) hnn h3 h4 h63 h62
    | true =>
      have e1 : cntB S (j + 1) = cntB S j + 1 := cntB_t hS
      have hle := cntB_le S j
      cases nn with
      | zero => exact absurd hnn (Nat.not_lt_zero _)
      | succ nn =>
        rw [e1] at hnn ⊢
        rw [nI_pred, lp_s, eBX8_turnRow_9, nx_s, hS, if_pos rfl]
        dsimp only
        have hch : ∀ f, bt ch f = true → bt (ch ||| ((1 : Int32) <<< (nI j &&& 31))) f = true := fun f hf => by rw [b_or, hf]; rfl
        have hcj : bt (ch ||| ((1 : Int32) <<< (nI j &&& 31))) j = true := (b_orone (by omega)).mpr (Or.inr rfl)
        rw [if_neg (nI_pos (by omega)), rdI_nI (by omega) (by decide), Option.bind_some, h63 j (by omega) hS, rdI_nI (by omega) (by decide), Option.bind_some, h62 j (by omega), show (-2000000000 : Int32) = LO from rfl]
        by_cases c1 : r j = LO
        · rw [if_pos c1, if_pos c1, rdI_nI (by omega) (by decide), Option.bind_some, wrI_nI (by omega) (by decide), Option.bind_some, h3]
          refine ⟨_, _, rfl, sameX_up (sameX_rf 62 Q), fun i hi => ?_, hch, fun f hf hb => ?_⟩
          · rw [up1_same]
            dsimp only
            by_cases e : i = j
            · rw [if_pos e, e, ud_s]
            · rw [if_neg e, ud_n e]; exact h62 i hi
          · dsimp only
            rw [ud_n (fun q => by rw [q, hcj] at hb; cases hb)]
        · rw [if_neg c1, if_neg c1, Option.bind_some, rdI_nI (by omega) (by decide), Option.bind_some, h4]
          by_cases c2 : r j < hi j
          · rw [if_neg (fun q => i_le.mp q c2), if_pos c2, Option.bind_some, wrI_nI (by omega) (by decide), Option.bind_some]
            refine ⟨_, _, rfl, sameX_up (sameX_rf 62 Q), fun i hi => ?_, hch, fun f hf hb => ?_⟩
            · rw [up1_same]
              dsimp only
              by_cases e : i = j
              · rw [if_pos e, e, ud_s]
              · rw [if_neg e, ud_n e]; exact h62 i hi
            · dsimp only
              rw [ud_n (fun q => by rw [q, hcj] at hb; cases hb)]
          · rw [if_pos (i_le.mpr c2), if_neg c2, wrI_nI (by omega) (by decide), Option.bind_some, m1_eq]
            obtain ⟨ch', Q', a, b, c, d, e⟩ := turn_go (N := N) (S := S) (lo := lo) (hi := hi) j nn (ch ||| ((1 : Int32) <<< (nI j &&& 31))) (up1 Q 62 j LO) (ud r j LO) (by omega) (by omega) (by rw [up1_ne (by decide)]; exact h3) (by rw [up1_ne (by decide)]; exact h4) (fun f hf hSf => by rw [up1_ne (by decide)]; exact h63 f hf hSf) (fun i hi => by
              rw [up1_same]
              by_cases e : i = j
              · rw [if_pos e, e, ud_s]
              · rw [if_neg e, ud_n e]; exact h62 i hi)
            refine ⟨ch', Q', a, sameX_t (sameX_up (sameX_rf 62 Q)) b, c, fun f hf => d f (hch f hf), fun f hf hb => ?_⟩
            rw [e f hf hb, ud_n (fun q => by have := d j hcj; rw [q, this] at hb; cases hb)]
theorem goes_go {N n : Nat} {m : Int32} {S : Nat → Bool} {lo hi : Nat → Int32} (hn : n ≤ 12) (hm : ∀ i, i < n → bt m i = S i) (hs : ∀ i, i < n → spJ lo hi i) : ∀ (j nn : Nat) (Q : Mm) (r : Nat → Int32), j ≤ n → j < nn → Q.1 70 = lo → Q.1 71 = hi → (∀ i, i < 12 → Q.1 83 i = r i) → (∀ i, i < j → S i = true → okJ lo hi r i) → ∃ Q', lp (BX10_goesOn_7 N) nn (m, nI j - 1, Q) = some (if (nx S lo hi j r).2 then 1 else 0, Q') ∧ sameX 83 Q Q' ∧ ∀ i, i < 12 → Q'.1 83 i = (nx S lo hi j r).1 i
  | 0, nn + 1, Q, r, _, _, h70, h71, h83, _ => by
    refine ⟨Q, ?_, sameX_rf 83 Q, h83⟩
    rw [lp_s, eBX10_goesOn_7]
    dsimp only
    rw [if_pos (by decide)]
    rfl
  | j + 1, nn + 1, Q, r, hj, hnn, h70, h71, h83, hok => by
    rw [nI_pred, lp_s, eBX10_goesOn_7, nx_s]
    dsimp only
    rw [if_neg (nI_pos (by omega))]
    cases hS : S j with
    | false =>
      rw [if_neg (fun q => by have := (b_set _ (by omega)).mp q; rw [hm j (by omega), hS] at this; cases this), if_neg (show ¬ false = true by decide), m1_eq]
      exact goes_go hn hm hs j nn Q r (by omega) (by omega) h70 h71 h83 (fun i hi => hok i (by omega))
    | true =>
      have hsj := hs j (by omega)
      obtain ⟨s1, s2, s3⟩ := sp_int hsj
      rw [if_pos ((b_set _ (by omega)).mpr (by rw [hm j (by omega), hS])), if_pos rfl, rdI_nI (by omega) (by decide), Option.bind_some, h83 j (by omega), show (-2000000000 : Int32) = LO from rfl]
      by_cases c1 : r j = LO
      · rw [if_pos c1, if_pos c1, rdI_nI (by omega) (by decide), Option.bind_some, h70, eBX10_goesOn_48, rdI_nI (by omega) (by decide), Option.bind_some, h71, if_neg (i_le.mp hsj.2.2), wrI_nI (by omega) (by decide), Option.bind_some]
        refine ⟨_, rfl, sameX_up (sameX_rf 83 Q), fun i hi => ?_⟩
        rw [up1_same]
        dsimp only
        by_cases e : i = j
        · rw [if_pos e, e, ud_s]
        · rw [if_neg e, ud_n e]; exact h83 i hi
      · have hin := (hok j (by omega) hS).resolve_left c1
        rw [Int32.lt_iff_toInt_lt, Int32.lt_iff_toInt_lt] at hin
        have es := i_succ (x := r j) (by omega) (by omega)
        rw [if_neg c1, if_neg c1, Option.bind_some, eBX10_goesOn_48, rdI_nI (by omega) (by decide), Option.bind_some, h71]
        by_cases c2 : r j < hi j
        · have c3 : ¬ hi j < r j + 1 := by
            rw [Int32.lt_iff_toInt_lt] at c2 ⊢
            omega
          rw [if_pos c2, if_neg c3, wrI_nI (by omega) (by decide), Option.bind_some]
          refine ⟨_, rfl, sameX_up (sameX_rf 83 Q), fun i hi => ?_⟩
          rw [up1_same]
          dsimp only
          by_cases e : i = j
          · rw [if_pos e, e, ud_s]
          · rw [if_neg e, ud_n e]; exact h83 i hi
        · have c3 : hi j < r j + 1 := by
            rw [Int32.lt_iff_toInt_lt] at c2 ⊢
            omega
          rw [if_neg c2, if_pos c3, wrI_nI (by omega) (by decide), Option.bind_some, m1_eq]
          obtain ⟨Q', a, b, c⟩ := goes_go (N := N) (m := m) (S := S) (lo := lo) (hi := hi) hn hm hs j nn (up1 Q 83 j LO) (ud r j LO) (by omega) (by omega) (by rw [up1_ne (by decide)]; exact h70) (by rw [up1_ne (by decide)]; exact h71) (fun i hi => by
            rw [up1_same]
            by_cases e : i = j
            · rw [if_pos e, e, ud_s]
            · rw [if_neg e, ud_n e]; exact h83 i hi) (fun i hi hSi => by
            unfold okJ
            rw [ud_n (by omega)]
            exact hok i (by omega) hSi)
          exact ⟨Q', a, sameX_t (sameX_up (sameX_rf 83 Q)) b, c⟩
/-- the reference's rows -/
theorem rows_r {N n f : Nat} {M : Mm} {S : Nat → Bool} (hN : 100 < N) (hn : n ≤ 12) (hf : f < n) (hc : M.1 69 0 = nI n) (hs : ∀ i, i < n → spJ (M.1 70) (M.1 71) i) (hS : ∀ i, i < n → S i = (bt (M.1 79 f) i && decide (M.1 72 i = 0))) : ∃ m, (∀ i, i < n → bt m i = S i) ∧ lp (BX10_reach_21 N) N (nI f, 0, 1, 0, M) = if cr S (M.1 70) (M.1 71) n ≤ 20000 then lp (BX10_reach_117 N) N (nI f, m, 0, M) else some ((-6), M) := by
  refine lp_up (fun i (q : Int32 × Int32 × Int64 × Int32 × Mm) => q.1 = nI f ∧ (∀ k, bt q.2.1 k = true ↔ k < i ∧ S k = true) ∧ q.2.2.1 = lN (cr S (M.1 70) (M.1 71) i) ∧ q.2.2.2.1 = nI i ∧ q.2.2.2.2 = M) (fun o => ∃ m, (∀ i, i < n → bt m i = S i) ∧ o = if cr S (M.1 70) (M.1 71) n ≤ 20000 then lp (BX10_reach_117 N) N (nI f, m, 0, M) else some ((-6), M)) n N _ ⟨rfl, fun k => ⟨(fun h => by rw [b_0] at h; cases h), fun h => absurd h.1 (Nat.not_lt_zero _)⟩, rfl, rfl, rfl⟩ (by omega) ?_ ?_
  · rintro i ⟨x1, m, x3, x4, Q⟩ K hi ⟨e1, g1, e3, e4, e5⟩
    dsimp only at e1 g1 e3 e4 e5
    subst e1
    subst e3
    subst e4
    subst e5
    obtain ⟨b1, b2⟩ := cr_le (S := S) i (fun k hk => hs k (by omega))
    have skip : S i = false → ∀ k, bt m k = true ↔ k < i + 1 ∧ S k = true := fun hSi k => by
      rw [g1 k]
      constructor
      · rintro ⟨a, b⟩; exact ⟨by omega, b⟩
      · rintro ⟨a, b⟩
        have : k ≠ i := fun q => by rw [q, hSi] at b; cases b
        exact ⟨by omega, b⟩
    have crf : S i = false → cr S (Q.1 70) (Q.1 71) (i + 1) = cr S (Q.1 70) (Q.1 71) i := fun hSi => by rw [cr_s, hSi]; split <;> rfl
    left
    rw [eBX10_reach_21]
    dsimp only
    rw [hc, if_neg (lt_nI hi (by omega)), rdI_nI (by omega) (by decide), Option.bind_some, nI_1]
    have hSi := hS i hi
    by_cases hb : bt (Q.1 79 f) i = true
    · rw [if_pos ((b_set _ (by omega)).mpr hb), rdI_nI (by omega) (by decide), Option.bind_some]
      by_cases h0 : Q.1 72 i = 0
      · have hSt : S i = true := by rw [hSi, hb]; simp [h0]
        have bits : ∀ k, bt (m ||| ((1 : Int32) <<< (nI i &&& 31))) k = true ↔ k < i + 1 ∧ S k = true := fun k => by
          rw [b_orone (by omega), g1 k]
          constructor
          · rintro (⟨a, b⟩ | q)
            · exact ⟨by omega, b⟩
            · rw [q]; exact ⟨by omega, hSt⟩
          · rintro ⟨a, b⟩
            by_cases q : k = i
            · exact Or.inr q
            · exact Or.inl ⟨by omega, b⟩
        rw [if_pos h0]
        by_cases c : cr S (Q.1 70) (Q.1 71) i ≤ 20000
        · rw [if_pos (show lg_cmp (lN (cr S (Q.1 70) (Q.1 71) i)) 20000 ≤ 0 from (lg_cmp_le _ _).mpr (show lN (cr S (Q.1 70) (Q.1 71) i) ≤ lN 20000 from (lN_le (by omega) (by decide)).mpr c)), rdI_nI (by omega) (by decide), Option.bind_some, rdI_nI (by omega) (by decide), Option.bind_some]
          have hsp := sp_int (hs i hi)
          refine ⟨_, ⟨rfl, bits, ?_, rfl, rfl⟩, rfl⟩
          dsimp only
          rw [span_nI (hs i hi), nI_l (by omega), show (2 : Int64) = lN 2 from rfl, lN_add, lN_mul, cr_s, if_neg (by omega), hSt, if_pos rfl]
          rfl
        · rw [if_neg (show ¬ lg_cmp (lN (cr S (Q.1 70) (Q.1 71) i)) 20000 ≤ 0 from fun q => c ((lN_le (by omega) (by decide)).mp (show lN (cr S (Q.1 70) (Q.1 71) i) ≤ lN 20000 from (lg_cmp_le _ _).mp q)))]
          refine ⟨_, ⟨rfl, bits, ?_, rfl, rfl⟩, rfl⟩
          dsimp only
          rw [cr_s, if_pos (by omega)]
      · have hSf : S i = false := by rw [hSi]; simp [h0]
        rw [if_neg h0]
        exact ⟨_, ⟨rfl, skip hSf, by dsimp only; rw [crf hSf], rfl, rfl⟩, rfl⟩
    · have hSf : S i = false := by
        rw [hSi]
        have : bt (Q.1 79 f) i = false := by simpa using hb
        rw [this]; rfl
      rw [if_neg (fun q => hb ((b_set _ (by omega)).mp q))]
      exact ⟨_, ⟨rfl, skip hSf, by dsimp only; rw [crf hSf], rfl, rfl⟩, rfl⟩
  · rintro ⟨x1, m, x3, x4, Q⟩ K ⟨e1, g1, e3, e4, e5⟩
    dsimp only at e1 g1 e3 e4 e5
    subst e1
    subst e3
    subst e4
    subst e5
    obtain ⟨b1, b2⟩ := cr_le (S := S) n hs
    rw [eBX10_reach_21]
    dsimp only
    rw [hc, if_pos (le_nI n (by omega))]
    refine ⟨m, fun i hi => ?_, ?_⟩
    · rw [Bool.eq_iff_iff, g1 i]
      exact ⟨fun q => q.2, fun q => ⟨hi, q⟩⟩
    · by_cases c : cr S (Q.1 70) (Q.1 71) n ≤ 20000
      · rw [if_pos c, if_pos (show lg_cmp (lN (cr S (Q.1 70) (Q.1 71) n)) 20000 ≤ 0 from (lg_cmp_le _ _).mpr (show lN (cr S (Q.1 70) (Q.1 71) n) ≤ lN 20000 from (lN_le (by omega) (by decide)).mpr c))]
      · rw [if_neg c, if_neg (show ¬ lg_cmp (lN (cr S (Q.1 70) (Q.1 71) n)) 20000 ≤ 0 from fun q => c ((lN_le (by omega) (by decide)).mp (show lN (cr S (Q.1 70) (Q.1 71) n) ≤ lN 20000 from (lg_cmp_le _ _).mp q)))]
theorem shows_run {N n np f : Nat} {M : Mm} {row V SH CN : Nat → Int32} (hN0 : 100 < N) (hN : netR n np M) (hO : refOrd n np M) (hac : ∀ f, f < n → ¬ TC (Dm np M) n f f) (hf : f < n) (hsol : solR n np M row V SH CN) (hrow : ∀ f, f < n → M.1 83 f = row f) (hok : ∀ f, f < n → M.1 72 f = 0 → row f = LO ∨ (¬ row f < M.1 70 f ∧ ¬ M.1 71 f < row f)) : ∃ M', FX10_shows N (nI f) M = some (SH f, M') ∧ sameJ M M' := by
  have hN' := hN
  obtain ⟨hn, hnp, hc1, hc2, hp, hr, hm, hsp⟩ := hN
  obtain ⟨o1, o2, o3⟩ := hO
  have hDn : ∀ a b, Dm np M a b → b < n := fun a b ⟨h12, k, h1, h2, h3, h4⟩ => by
    obtain ⟨g, hg, he⟩ := pok_fld (hp k h1) h3
    rw [nI_inj (by omega) (by omega) (h4.symm.trans he)]
    exact hg
  have hpos : ∀ f g, f < n → Dm np M f g → pos (fun f => cnt (M.1 79 f) 12) n g < pos (fun f => cnt (M.1 79 f) 12) n f := fun f g hf hd => by
    have hgn := hDn f g hd
    refine pos_mono hgn (cnt_lt (j := g) 12 (by omega) (fun i _ hb => ?_) ?_ ?_)
    · rw [(o1 g hgn).2] at hb
      rw [(o1 f hf).2]
      exact TC_t hgn (TC_e hd) hb
    · cases hb : bt (M.1 79 g) g with
      | false => rfl
      | true => exact absurd (((o1 g hgn).2 g).mp hb) (hac g hgn)
    · rw [(o1 f hf).2]; exact TC_e hd
  have jd : ∀ (Q : Mm) (g : Nat), sameJ M Q → g < n → (∀ h, Dm np M g h → Q.1 86 h = CN h) → ∃ M', FX10_judge N (nI g) Q = some M' ∧ sameJ Q M' ∧ M'.1 84 g = SH g ∧ M'.1 86 g = CN g ∧ ∀ h, h ≠ g → M'.1 84 h = Q.1 84 h ∧ M'.1 86 h = Q.1 86 h := fun Q g s1 hg hcn => by
    have hNet : ∀ a, 70 ≤ a → a ≤ 77 → Q.1 a = M.1 a := fun a h1 h2 => s1.2 a (by omega) (by omega) (by omega) (by omega)
    have e69 : Q.1 69 = M.1 69 := s1.2 69 (by decide) (by decide) (by decide) (by decide)
    exact judge_sol (N := N) (f := g) (M := Q) (row := row) (V := V) (SH := SH) (CN := CN) (by omega) (netR_same hNet (by rw [e69]) (by rw [e69]) hN') hg (solR_same hNet hsol) (fun k => by rw [s1.1, NdP_net hNet]; exact (o1 g hg).1 k) (by rw [s1.2 83 (by decide) (by decide) (by decide) (by decide)]; exact hrow g hg) (by rw [hNet 70 (by decide) (by decide), hNet 71 (by decide) (by decide), hNet 72 (by decide) (by decide)]; exact hok g hg) (fun h hd => by
      rw [Dm_net hNet] at hd
      exact hcn h hd)
  rw [eFX10_shows]
  refine lp_up (fun i (q : Int32 × Int32 × Mm) => q.1 = nI f ∧ q.2.1 = nI i ∧ sameJ M q.2.2 ∧ ∀ g, g < n → pos (fun f => cnt (M.1 79 f) 12) n g < i → bt (M.1 79 f) g = true → q.2.2.1 86 g = CN g) (fun o => ∃ M', o = some (SH f, M') ∧ sameJ M M') n N _ ⟨rfl, rfl, sameJ_rf M, fun g _ h => absurd h (Nat.not_lt_zero _)⟩ (by omega) ?_ ?_
  · rintro i ⟨x1, x2, Q⟩ K hi ⟨e1, e2, s1, g1⟩
    dsimp only at e1 e2 s1 g1
    subst e1
    subst e2
    obtain ⟨g, hg, hog, hpg⟩ := o2 i hi
    left
    rw [eBX10_shows_2]
    dsimp only
    rw [s1.2 69 (by decide) (by decide) (by decide) (by decide), hc1, if_neg (lt_nI hi (by omega)), rdI_nI (by omega) (by decide), Option.bind_some, rdI_nI (by omega) (by decide), Option.bind_some, s1.2 81 (by decide) (by decide) (by decide) (by decide), s1.2 79 (by decide) (by decide) (by decide) (by decide), hog, nI_1]
    have uniq : ∀ h, h < n → pos (fun f => cnt (M.1 79 f) 12) n h = i → h = g := fun h hh q => by
      have h8 := o3 h hh
      rw [q, hog] at h8
      exact (nI_inj (by omega) (by omega) h8).symm
    by_cases hb : bt (M.1 79 f) g = true
    · rw [if_pos ((b_set _ (by omega)).mpr hb)]
      obtain ⟨M', r1, r2, r3, r4, r5⟩ := jd Q g s1 hg (fun h hd => g1 h (hDn g h hd) (by have := hpos g h hg hd; omega) (((o1 f hf).2 h).mpr (TC_t hg (((o1 f hf).2 g).mp hb) (TC_e hd))))
      rw [r1, Option.bind_some]
      refine ⟨_, ⟨rfl, rfl, sameJ_t s1 r2, fun h hh hph hbh => ?_⟩, rfl⟩
      dsimp only
      by_cases e : h = g
      · rw [e]; exact r4
      · rw [(r5 h e).2]
        refine g1 h hh ?_ hbh
        rcases Nat.lt_or_ge (pos (fun f => cnt (M.1 79 f) 12) n h) i with q | q
        · exact q
        · exact absurd (uniq h hh (by omega)) e
    · rw [if_neg (fun q => hb ((b_set _ (by omega)).mp q))]
      refine ⟨_, ⟨rfl, rfl, s1, fun h hh hph hbh => ?_⟩, rfl⟩
      dsimp only
      refine g1 h hh ?_ hbh
      rcases Nat.lt_or_ge (pos (fun f => cnt (M.1 79 f) 12) n h) i with q | q
      · exact q
      · have := uniq h hh (by omega)
        rw [this] at hbh
        exact absurd hbh hb
  · rintro ⟨x1, x2, Q⟩ K ⟨e1, e2, s1, g1⟩
    dsimp only at e1 e2 s1 g1
    subst e1
    subst e2
    obtain ⟨M', r1, r2, r3, r4, r5⟩ := jd Q f s1 hf (fun h hd => g1 h (hDn f h hd) (pos_lt (hDn f h hd)) (((o1 f hf).2 h).mpr (TC_e hd)))
    rw [eBX10_shows_2]
    dsimp only
    rw [s1.2 69 (by decide) (by decide) (by decide) (by decide), hc1, if_pos (le_nI n (by omega)), r1, Option.bind_some, rdI_nI (by omega) (by decide), Option.bind_some, r3]
    have h01 : SH f = 0 ∨ SH f = 1 := by rw [(hsol.2 f hf).1]; exact shV_01 _ _
    refine ⟨M', ?_, sameJ_t s1 r2⟩
    rcases h01 with e | e <;> rw [e] <;> rfl
