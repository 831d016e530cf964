/-! ===== rows of a trial, one behind the other ===== -/
def ud (r : Nat → Int32) (j : Nat) (v : Int32) : Nat → Int32 := fun i => if i = j then v else r i
theorem ud_s {r : Nat → Int32} {j : Nat} {v : Int32} : ud r j v j = v := by unfold ud; rw [if_pos rfl]
theorem ud_n {r : Nat → Int32} {j i : Nat} {v : Int32} (h : i ≠ j) : ud r j v i = r i := by unfold ud; rw [if_neg h]
def nx (S : Nat → Bool) (lo hi : Nat → Int32) : Nat → (Nat → Int32) → (Nat → Int32) × Bool
  | 0, r => (r, false)
  | j + 1, r => if S j then (if r j = LO then (ud r j (lo j), true) else if r j < hi j then (ud r j (r j + 1), true) else nx S lo hi j (ud r j LO)) else nx S lo hi j r
theorem nx_s {S : Nat → Bool} {lo hi : Nat → Int32} {j : Nat} {r : Nat → Int32} : nx S lo hi (j + 1) r = if S j then (if r j = LO then (ud r j (lo j), true) else if r j < hi j then (ud r j (r j + 1), true) else nx S lo hi j (ud r j LO)) else nx S lo hi j r := rfl
def rdx (lo hi : Nat → Int32) (j : Nat) : Nat := ((hi j).toInt - (lo j).toInt).toNat + 2
def dgt (lo r : Nat → Int32) (j : Nat) : Nat := if r j = LO then 0 else ((r j).toInt - (lo j).toInt).toNat + 1
def tot (S : Nat → Bool) (lo hi : Nat → Int32) : Nat → Nat
  | 0 => 1
  | j + 1 => if S j then tot S lo hi j * rdx lo hi j else tot S lo hi j
def vl (S : Nat → Bool) (lo hi r : Nat → Int32) : Nat → Nat
  | 0 => 0
  | j + 1 => if S j then vl S lo hi r j * rdx lo hi j + dgt lo r j else vl S lo hi r j
theorem tot_s {S : Nat → Bool} {lo hi : Nat → Int32} {j : Nat} : tot S lo hi (j + 1) = if S j then tot S lo hi j * rdx lo hi j else tot S lo hi j := rfl
theorem vl_s {S : Nat → Bool} {lo hi r : Nat → Int32} {j : Nat} : vl S lo hi r (j + 1) = if S j then vl S lo hi r j * rdx lo hi j + dgt lo r j else vl S lo hi r j := rfl
/-- a span; an answer that may be -/
def spJ (lo hi : Nat → Int32) (j : Nat) : Prop := ¬ lo j < (-1000) ∧ ¬ 1000 < hi j ∧ lo j ≤ hi j
def okJ (lo hi r : Nat → Int32) (j : Nat) : Prop := r j = LO ∨ (¬ r j < lo j ∧ ¬ hi j < r j)
theorem vl_cg {S : Nat → Bool} {lo hi r r' : Nat → Int32} : ∀ j, (∀ i, i < j → r i = r' i) → vl S lo hi r j = vl S lo hi r' j
  | 0, _ => rfl
  | j + 1, h => by
    rw [vl_s, vl_s, vl_cg j (fun i hi => h i (by omega))]
    unfold dgt
    rw [h j (by omega)]
theorem sp_int {lo hi : Nat → Int32} {j : Nat} (h : spJ lo hi j) : -1000 ≤ (lo j).toInt ∧ (hi j).toInt ≤ 1000 ∧ (lo j).toInt ≤ (hi j).toInt := by
  obtain ⟨h1, h2, h3⟩ := h
  have e1 : (-1000 : Int32).toInt = -1000 := by decide
  have e2 : (1000 : Int32).toInt = 1000 := by decide
  rw [Int32.lt_iff_toInt_lt, e1] at h1
  rw [Int32.lt_iff_toInt_lt, e2] at h2
  rw [Int32.le_iff_toInt_le] at h3
  omega
theorem LO_int : LO.toInt = -2000000000 := by decide
theorem i_succ {x : Int32} (h1 : -1000000 < x.toInt) (h2 : x.toInt < 1000000) : (x + 1).toInt = x.toInt + 1 := by
  have e1 : (1 : Int32).toInt = 1 := by decide
  rw [Int32.toInt_add, e1]
  simp only [Int.bmod]
  split <;> omega
theorem dgt_lt {lo hi r : Nat → Int32} {j : Nat} (hs : spJ lo hi j) (ho : okJ lo hi r j) : dgt lo r j < rdx lo hi j := by
  obtain ⟨h1, h2, h3⟩ := sp_int hs
  unfold dgt rdx
  rcases ho with e | ⟨a, b⟩
  · rw [if_pos e]; omega
  · rw [Int32.lt_iff_toInt_lt] at a b
    split
    · omega
    · omega
theorem nx_spec {S : Nat → Bool} {lo hi : Nat → Int32} : ∀ (j : Nat) (r : Nat → Int32), (∀ i, i < j → spJ lo hi i) → (∀ i, i < j → S i = true → okJ lo hi r i) → (∀ i, j ≤ i → (nx S lo hi j r).1 i = r i) ∧ (∀ i, i < j → S i = true → okJ lo hi (nx S lo hi j r).1 i) ∧ (∀ i, S i = false → (nx S lo hi j r).1 i = r i) ∧ ((nx S lo hi j r).2 = true → vl S lo hi (nx S lo hi j r).1 j = vl S lo hi r j + 1) ∧ ((nx S lo hi j r).2 = false → vl S lo hi r j + 1 = tot S lo hi j)
  | 0, r, _, _ => ⟨fun _ _ => rfl, fun i h => absurd h (Nat.not_lt_zero _), fun _ _ => rfl, (fun h => by cases h), fun _ => rfl⟩
  | j + 1, r, hs, ho => by
    obtain ⟨s1, s2, s3⟩ := sp_int (hs j (by omega))
    cases hS : S j with
    | false =>
      have e : nx S lo hi (j + 1) r = nx S lo hi j r := by rw [nx_s, hS]; rfl
      obtain ⟨a, b, c, d, f⟩ := nx_spec (S := S) (lo := lo) (hi := hi) j r (fun i hi => hs i (by omega)) (fun i hi => ho i (by omega))
      rw [e, vl_s, vl_s, tot_s, hS]
      refine ⟨fun i hi => a i (by omega), fun i hi hSi => ?_, c, d, f⟩
      have : i ≠ j := fun q => by rw [q, hS] at hSi; cases hSi
      exact b i (by omega) hSi
    | true =>
      have hoj := ho j (by omega) hS
      rw [vl_s, vl_s, tot_s, hS, if_pos rfl, if_pos rfl, if_pos rfl]
      by_cases c1 : r j = LO
      · have e : nx S lo hi (j + 1) r = (ud r j (lo j), true) := by rw [nx_s, hS, if_pos rfl, if_pos c1]
        rw [e]
        refine ⟨fun i hi => ud_n (by omega), fun i hi hSi => ?_, fun i hi => ud_n (fun q => by rw [q, hS] at hi; cases hi), fun _ => ?_, fun q => by cases q⟩
        · unfold okJ
          by_cases q : i = j
          · subst q
            dsimp only
            rw [ud_s]
            right
            rw [Int32.lt_iff_toInt_lt, Int32.lt_iff_toInt_lt]
            omega
          · dsimp only
            rw [ud_n q]; exact ho i (by omega) hSi
        · dsimp only
          rw [vl_cg (r := ud r j (lo j)) (r' := r) j (fun i hi => ud_n (by omega))]
          have d0 : dgt lo r j = 0 := by unfold dgt; rw [if_pos c1]
          have d1 : dgt lo (ud r j (lo j)) j = 1 := by
            unfold dgt
            rw [ud_s, if_neg (fun q => by rw [q, LO_int] at s1; omega)]
            omega
          rw [d0, d1]
      · have hin : ¬ r j < lo j ∧ ¬ hi j < r j := hoj.resolve_left c1
        obtain ⟨i1, i2⟩ := hin
        rw [Int32.lt_iff_toInt_lt] at i1 i2
        by_cases c2 : r j < hi j
        · have e : nx S lo hi (j + 1) r = (ud r j (r j + 1), true) := by rw [nx_s, hS, if_pos rfl, if_neg c1, if_pos c2]
          rw [Int32.lt_iff_toInt_lt] at c2
          have es := i_succ (x := r j) (by omega) (by omega)
          rw [e]
          refine ⟨fun i hi => ud_n (by omega), fun i hi hSi => ?_, fun i hi => ud_n (fun q => by rw [q, hS] at hi; cases hi), fun _ => ?_, fun q => by cases q⟩
          · unfold okJ
            by_cases q : i = j
            · subst q
              dsimp only
              rw [ud_s]
              right
              rw [Int32.lt_iff_toInt_lt, Int32.lt_iff_toInt_lt, es]
              omega
            · dsimp only
              rw [ud_n q]; exact ho i (by omega) hSi
          · dsimp only
            rw [vl_cg (r := ud r j (r j + 1)) (r' := r) j (fun i hi => ud_n (by omega))]
            have d0 : dgt lo r j = ((r j).toInt - (lo j).toInt).toNat + 1 := by unfold dgt; rw [if_neg c1]
            have d1 : dgt lo (ud r j (r j + 1)) j = ((r j).toInt - (lo j).toInt).toNat + 2 := by
              unfold dgt
              rw [ud_s, if_neg (fun q => by rw [q, LO_int] at es; omega), es]
              omega
            rw [d0, d1]
            omega
        · have e : nx S lo hi (j + 1) r = nx S lo hi j (ud r j LO) := by rw [nx_s, hS, if_pos rfl, if_neg c1, if_neg c2]
          rw [Int32.lt_iff_toInt_lt] at c2
          obtain ⟨a, b, c, d, f⟩ := nx_spec (S := S) (lo := lo) (hi := hi) j (ud r j LO) (fun i hi => hs i (by omega)) (fun i hi hSi => by
            unfold okJ
            rw [ud_n (by omega)]
            exact ho i (by omega) hSi)
          have d0 : dgt lo r j + 1 = rdx lo hi j := by
            unfold dgt rdx
            rw [if_neg c1]
            omega
          have hv : vl S lo hi (ud r j LO) j = vl S lo hi r j := vl_cg j (fun i hi => ud_n (by omega))
          rw [hv] at d f
          rw [e]
          refine ⟨fun i hi => by rw [a i (by omega), ud_n (by omega)], fun i hi hSi => ?_, fun i hi => by rw [c i hi, ud_n (fun q => by rw [q, hS] at hi; cases hi)], fun ht => ?_, fun ht => ?_⟩
          · by_cases q : i = j
            · subst q
              left
              rw [a i (Nat.le_refl i), ud_s]
            · exact b i (by omega) hSi
          · have d1 : dgt lo (nx S lo hi j (ud r j LO)).1 j = 0 := by
              unfold dgt
              rw [a j (Nat.le_refl j), ud_s, if_pos rfl]
            rw [d ht, d1, Nat.add_mul, Nat.one_mul]
            omega
          · rw [← f ht, Nat.add_mul, Nat.one_mul]
            omega
theorem vl_lt {S : Nat → Bool} {lo hi r : Nat → Int32} : ∀ j, (∀ i, i < j → spJ lo hi i) → (∀ i, i < j → S i = true → okJ lo hi r i) → vl S lo hi r j < tot S lo hi j
  | 0, _, _ => Nat.zero_lt_one
  | j + 1, hs, ho => by
    have ih := vl_lt (S := S) (lo := lo) (hi := hi) (r := r) j (fun i hi => hs i (by omega)) (fun i hi => ho i (by omega))
    rw [vl_s, tot_s]
    cases hS : S j with
    | false => exact ih
    | true =>
      rw [if_pos rfl, if_pos rfl]
      have h1 := dgt_lt (hs j (by omega)) (ho j (by omega) hS)
      have h2 := Nat.mul_le_mul_right (rdx lo hi j) (show vl S lo hi r j + 1 ≤ tot S lo hi j by omega)
      rw [Nat.add_mul, Nat.one_mul] at h2
      omega
def rs (S : Nat → Bool) (lo hi : Nat → Int32) (n : Nat) : Nat → Nat → Int32
  | 0 => fun _ => LO
  | t + 1 => (nx S lo hi n (rs S lo hi n t)).1
theorem rs_s {S : Nat → Bool} {lo hi : Nat → Int32} {n t : Nat} : rs S lo hi n (t + 1) = (nx S lo hi n (rs S lo hi n t)).1 := rfl
theorem vl_0 {S : Nat → Bool} {lo hi : Nat → Int32} : ∀ j, vl S lo hi (fun _ => LO) j = 0
  | 0 => rfl
  | j + 1 => by
    have h0 : dgt lo (fun _ => LO) j = 0 := by unfold dgt; rw [if_pos rfl]
    rw [vl_s, vl_0 j, h0, Nat.zero_mul]
    split <;> rfl
theorem rs_spec {S : Nat → Bool} {lo hi : Nat → Int32} {n : Nat} (hs : ∀ i, i < n → spJ lo hi i) : ∀ t, t < tot S lo hi n → vl S lo hi (rs S lo hi n t) n = t ∧ (∀ i, i < n → S i = true → okJ lo hi (rs S lo hi n t) i) ∧ ∀ i, S i = false → rs S lo hi n t i = LO
  | 0, _ => ⟨vl_0 n, fun _ _ _ => Or.inl rfl, fun _ _ => rfl⟩
  | t + 1, h => by
    obtain ⟨a, b, c⟩ := rs_spec (S := S) hs t (by omega)
    obtain ⟨p1, p2, p3, p4, p5⟩ := nx_spec (S := S) n (rs S lo hi n t) hs b
    rw [rs_s]
    refine ⟨?_, p2, fun i hi => by rw [p3 i hi]; exact c i hi⟩
    cases hf : (nx S lo hi n (rs S lo hi n t)).2 with
    | true => rw [p4 hf, a]
    | false =>
      have := p5 hf
      omega
theorem rs_flag {S : Nat → Bool} {lo hi : Nat → Int32} {n t : Nat} (hs : ∀ i, i < n → spJ lo hi i) (ht : t < tot S lo hi n) : (nx S lo hi n (rs S lo hi n t)).2 = decide (t + 1 < tot S lo hi n) := by
  obtain ⟨a, b, c⟩ := rs_spec (S := S) hs t ht
  obtain ⟨p1, p2, p3, p4, p5⟩ := nx_spec (S := S) n (rs S lo hi n t) hs b
  cases hf : (nx S lo hi n (rs S lo hi n t)).2 with
  | true =>
    have h1 := p4 hf
    have h2 := vl_lt (S := S) n hs p2
    rw [h1, a] at h2
    exact (decide_eq_true h2).symm
  | false =>
    have := p5 hf
    exact (decide_eq_false (by omega)).symm
/-! how many rows, cut -/
def cr (S : Nat → Bool) (lo hi : Nat → Int32) : Nat → Nat
  | 0 => 1
  | j + 1 => if 20000 < cr S lo hi j then cr S lo hi j else if S j then cr S lo hi j * rdx lo hi j else cr S lo hi j
theorem cr_s {S : Nat → Bool} {lo hi : Nat → Int32} {j : Nat} : cr S lo hi (j + 1) = if 20000 < cr S lo hi j then cr S lo hi j else if S j then cr S lo hi j * rdx lo hi j else cr S lo hi j := rfl
theorem cr_stop {S : Nat → Bool} {lo hi : Nat → Int32} {j : Nat} (h : 20000 < cr S lo hi j) : ∀ k, cr S lo hi (j + k) = cr S lo hi j
  | 0 => rfl
  | k + 1 => by
    rw [show j + (k + 1) = (j + k) + 1 by omega, cr_s, cr_stop h k, if_pos h]
theorem cr_tot {S : Nat → Bool} {lo hi : Nat → Int32} : ∀ j, cr S lo hi j ≤ 20000 → cr S lo hi j = tot S lo hi j
  | 0, _ => rfl
  | j + 1, h => by
    have hj : cr S lo hi j ≤ 20000 := by
      rcases Nat.lt_or_ge 20000 (cr S lo hi j) with q | q
      · rw [cr_s, if_pos q] at h; omega
      · exact q
    rw [cr_s, if_neg (by omega), tot_s, cr_tot j hj]
theorem cr_le {S : Nat → Bool} {lo hi : Nat → Int32} : ∀ j, (∀ i, i < j → spJ lo hi i) → cr S lo hi j ≤ 40040000 ∧ 0 < cr S lo hi j
  | 0, _ => ⟨by show 1 ≤ 40040000; omega, Nat.zero_lt_one⟩
  | j + 1, hs => by
    obtain ⟨i1, i2⟩ := cr_le (S := S) (lo := lo) (hi := hi) j (fun i hi => hs i (by omega))
    obtain ⟨s1, s2, s3⟩ := sp_int (hs j (by omega))
    have hr : rdx lo hi j ≤ 2002 := by unfold rdx; omega
    have hr0 : 0 < rdx lo hi j := by unfold rdx; omega
    rw [cr_s]
    split
    · exact ⟨i1, i2⟩
    · split
      · have := Nat.mul_le_mul (show cr S lo hi j ≤ 20000 by omega) hr
        exact ⟨by omega, Nat.mul_pos i2 hr0⟩
      · exact ⟨i1, i2⟩
theorem span_nI {lo hi : Nat → Int32} {j : Nat} (hs : spJ lo hi j) : hi j - lo j = nI ((hi j).toInt - (lo j).toInt).toNat := by
  obtain ⟨s1, s2, s3⟩ := sp_int hs
  apply Int32.toInt_inj.mp
  rw [nI_toInt (by omega), Int32.toInt_sub]
  simp only [Int.bmod]
  split <;> omega
theorem countRows_run {N n : Nat} {m : Int32} {M : Mm} {S : Nat → Bool} (hN : 100 < N) (hn : n ≤ 12) (hc : M.1 2 6 = nI n) (hs : ∀ i, i < n → spJ (M.1 3) (M.1 4) i) (hS : ∀ i, i < n → bt m i = S i) : FX8_countRows N m M = some (nI (cr S (M.1 3) (M.1 4) n)) := by
  rw [eFX8_countRows]
  refine lp_up (fun i (q : Int32 × Int32 × Int32) => q = (m, nI (cr S (M.1 3) (M.1 4) i), nI i)) (fun o => o = some (nI (cr S (M.1 3) (M.1 4) n))) n N _ rfl (by omega) ?_ ?_
  · rintro i _ K hi rfl
    obtain ⟨b1, b2⟩ := cr_le (S := S) i (fun k hk => hs k (by omega))
    rw [eBX8_countRows_4]
    dsimp only
    rw [hc, if_neg (lt_nI hi (by omega))]
    by_cases c : 20000 < cr S (M.1 3) (M.1 4) i
    · right
      rw [if_pos (show (20000 : Int32) < nI (cr S (M.1 3) (M.1 4) i) from nI_lt (a := 20000) c (by omega)), ← cr_stop c (n - i), show i + (n - i) = n by omega]
    · left
      refine ⟨_, rfl, ?_⟩
      rw [if_neg (show ¬ (20000 : Int32) < nI (cr S (M.1 3) (M.1 4) i) from nI_nlt (a := 20000) (by omega) (by decide)), hasBit_run _ (by omega), Option.bind_some, hS i hi, cr_s, if_neg c, nI_1]
      cases S i with
      | false => rfl
      | true =>
        rw [if_neg (by decide), rdI_nI (by omega) (by decide), Option.bind_some, rdI_nI (by omega) (by decide), Option.bind_some, span_nI (hs i hi), show (2 : Int32) = nI 2 from rfl, nI_add, pk_mul, if_pos rfl]
        rfl
  · rintro _ K rfl
    rw [eBX8_countRows_4]
    dsimp only
    rw [hc, if_pos (le_nI n (by omega))]
