/-! ===== Int32 by its bits (rows of the kit's BITS family, pasted), one bit, masks, counts; loops ===== -/
def bt (x : Int32) (i : Nat) : Bool := x.toBitVec.getLsbD i
theorem b_ext {x y : Int32} (h : ∀ i, i < 32 → bt x i = bt y i) : x = y := Int32.toBitVec_inj.mp (BitVec.eq_of_getLsbD_eq (fun i hi => h i hi))
theorem b_or (x y : Int32) (i : Nat) : bt (x ||| y) i = (bt x i || bt y i) := by unfold bt; rw [Int32.toBitVec_or, BitVec.getLsbD_or]
theorem b_and (x y : Int32) (i : Nat) : bt (x &&& y) i = (bt x i && bt y i) := by unfold bt; rw [Int32.toBitVec_and, BitVec.getLsbD_and]
theorem b_big {x : Int32} {i : Nat} (h : 32 ≤ i) : bt x i = false := BitVec.getLsbD_of_ge _ _ h
theorem b_0 (i : Nat) : bt 0 i = false := BitVec.getLsbD_zero
theorem s_l : ∀ n, n < 32 → ((nI n &&& 31).toBitVec.smod 32).toNat = n := by decide +kernel
theorem b_shl (n : Nat) (hn : n < 32) (x : Int32) {i : Nat} (hi : i < 32) : bt (x <<< (nI n &&& 31)) i = (decide (n ≤ i) && bt x (i - n)) := by
  unfold bt
  rw [Int32.toBitVec_shiftLeft]
  show (x.toBitVec <<< ((nI n &&& 31).toBitVec.smod 32).toNat).getLsbD i = _
  rw [s_l n hn, BitVec.getLsbD_shiftLeft]
  rcases Nat.lt_or_ge i n with h | h
  · simp [h, Nat.not_le.mpr h]
  · simp [hi, h, Nat.not_lt.mpr h]
theorem b_sshr (n : Nat) (hn : n < 32) (x : Int32) {i : Nat} (hi : i < 32) : bt (x >>> (nI n &&& 31)) i = if n + i < 32 then bt x (n + i) else bt x 31 := by
  unfold bt
  rw [Int32.toBitVec_shiftRight]
  show (x.toBitVec.sshiftRight ((nI n &&& 31).toBitVec.smod 32).toNat).getLsbD i = _
  rw [s_l n hn, BitVec.getLsbD_sshiftRight, BitVec.msb_eq_getLsbD_last]
  simp [hi]
theorem b_1 (i : Nat) : bt 1 i = decide (i = 0) := by
  rcases Nat.lt_or_ge i 32 with h | h
  · exact (by decide +kernel : ∀ i, i < 32 → bt 1 i = decide (i = 0)) i h
  · rw [b_big h, decide_eq_false (by omega)]
theorem b_one {f j : Nat} (hf : f < 32) (hj : j < 32) : bt ((1 : Int32) <<< (nI f &&& 31)) j = decide (j = f) := by
  rw [b_shl f hf 1 hj, b_1]
  by_cases h : j = f
  · subst h; simp
  · by_cases h2 : f ≤ j
    · simp [h, h2]; omega
    · simp [h, h2]
/-- one bit, as the programs read it -/
theorem b_get (m : Int32) {i : Nat} (hi : i < 32) : (m >>> (nI i &&& 31)) &&& 1 = if bt m i then 1 else 0 := by
  have h0 : bt (m >>> (nI i &&& 31)) 0 = bt m i := by rw [b_sshr i hi m (by omega), Nat.add_zero, if_pos hi]
  apply b_ext
  intro j hj
  rw [b_and, b_1]
  by_cases hz : j = 0
  · subst hz
    rw [h0]
    cases bt m i
    · rw [if_neg (by decide), b_0]; rfl
    · rw [if_pos rfl, b_1]; rfl
  · rw [decide_eq_false hz, Bool.and_false]
    cases bt m i
    · rw [if_neg (by decide), b_0]
    · rw [if_pos rfl, b_1, decide_eq_false hz]
theorem hasBit_run (m : Int32) {i : Nat} (hi : i < 32) (M : Mm) : FX9_hasBit m (nI i) M = some (if bt m i then 1 else 0) := by
  unfold FX9_hasBit
  rw [b_get m hi]
  cases bt m i
  · rfl
  · rfl
theorem truth_01 (b : Bool) (M : Mm) : FX9_truth (if b then 1 else 0) M = some (if b then 1 else 0) := by
  unfold FX9_truth
  cases b <;> rfl
theorem b_eq0 {m : Int32} (h : ∀ i, i < 32 → bt m i = false) : m = 0 := b_ext (fun i hi => by rw [h i hi, b_0])
theorem b_ne0 {m : Int32} (h : ¬ m = 0) : ∃ i, i < 32 ∧ bt m i = true := by
  rcases Classical.em (∃ i, i < 32 ∧ bt m i = true) with q | q
  · exact q
  · exact absurd (b_eq0 (fun i hi => by
      cases hb : bt m i with
      | false => rfl
      | true => exact absurd ⟨i, hi, hb⟩ q)) h
/-- no bit from n on -/
def low (n : Nat) (m : Int32) : Prop := ∀ i, n ≤ i → bt m i = false
theorem low_or {n : Nat} {x y : Int32} (hx : low n x) (hy : low n y) : low n (x ||| y) := fun i h => by rw [b_or, hx i h, hy i h]; rfl
theorem low_0 (n : Nat) : low n 0 := fun i _ => b_0 i
theorem low_one {n f : Nat} (h : f < n) (hn : n ≤ 32) : low n ((1 : Int32) <<< (nI f &&& 31)) := fun i hi => by
  rcases Nat.lt_or_ge i 32 with q | q
  · rw [b_one (by omega) q, decide_eq_false (by omega)]
  · exact b_big q
theorem low_mono {n k : Nat} {x : Int32} (h : low n x) (hk : n ≤ k) : low k x := fun i hi => h i (by omega)
theorem low_nat {m : Int32} (h : low 12 m) : ∃ x, x < 4096 ∧ m = nI x := by
  refine ⟨m.toBitVec.toNat, ?_, ?_⟩
  · have h2 : m.toBitVec.toNat < 2 ^ 12 := by
      apply Nat.lt_pow_two_of_testBit
      intro i hi
      have := h i hi
      unfold bt at this
      rw [← BitVec.testBit_toNat] at this
      exact this
    exact h2
  · apply Int32.toBitVec_inj.mp
    show m.toBitVec = BitVec.ofNat 32 m.toBitVec.toNat
    rw [BitVec.ofNat_toNat, BitVec.setWidth_eq]
/-- how many of the first k bits -/
def cnt (m : Int32) : Nat → Nat
  | 0 => 0
  | k + 1 => cnt m k + (if bt m k then 1 else 0)
theorem cnt_le (m : Int32) : ∀ k, cnt m k ≤ k
  | 0 => Nat.le_refl _
  | k + 1 => by
    have := cnt_le m k
    simp only [cnt]
    split <;> omega
theorem cnt_mono {x y : Int32} : ∀ k, (∀ i, i < k → bt x i = true → bt y i = true) → cnt x k ≤ cnt y k
  | 0, _ => Nat.le_refl _
  | k + 1, h => by
    have h1 := cnt_mono (x := x) (y := y) k (fun i hi => h i (by omega))
    have h2 := h k (by omega)
    simp only [cnt]
    cases hx : bt x k
    · simp; omega
    · rw [h2 hx]; simp; omega
theorem cnt_lt {x y : Int32} {j : Nat} : ∀ k, j < k → (∀ i, i < k → bt x i = true → bt y i = true) → bt x j = false → bt y j = true → cnt x k < cnt y k
  | 0, hj, _, _, _ => absurd hj (Nat.not_lt_zero _)
  | k + 1, hj, h, hx, hy => by
    simp only [cnt]
    by_cases e : j = k
    · subst e
      have h1 := cnt_mono (x := x) (y := y) j (fun i hi => h i (by omega))
      rw [hx, hy]
      simp; omega
    · have h1 := cnt_lt (x := x) (y := y) (j := j) k (by omega) (fun i hi => h i (by omega)) hx hy
      have h2 := h k (by omega)
      cases hk : bt x k
      · simp; omega
      · rw [h2 hk]; simp; omega
theorem bitCount_dec : ∀ a, a < 64 → ∀ b, b < 64 → FJ6_bitCount_0f7a4 (nI (64 * a + b)) ((fun _ _ => 0, fun _ _ => 0) : Mm) = some (nI (cnt (nI (64 * a + b)) 12)) := by decide +kernel
theorem bitCount_all (x : Nat) (hx : x < 4096) (M : Mm) : FJ6_bitCount_0f7a4 (nI x) M = some (nI (cnt (nI x) 12)) := by
  have h := bitCount_dec (x / 64) (by omega) (x % 64) (by omega)
  rw [show 64 * (x / 64) + x % 64 = x by omega] at h
  exact h
theorem bitCount_run {m : Int32} (h : low 12 m) (M : Mm) : FJ6_bitCount_0f7a4 m M = some (nI (cnt m 12)) := by
  obtain ⟨x, hx, rfl⟩ := low_nat h
  exact bitCount_all x hx M
/-- loops that count up -/
theorem lp_go {α β : Type} {F : (α → Option β) → α → Option β} (Iv : Nat → α → Prop) (P : Option β → Prop) (n : Nat) (hstep : ∀ i a K, i < n → Iv i a → (∃ a', Iv (i + 1) a' ∧ F K a = K a') ∨ P (F K a)) (hend : ∀ a K, Iv n a → P (F K a)) : ∀ (d i nn : Nat) (a : α), i + d = n → d < nn → Iv i a → P (lp F nn a)
  | 0, i, nn + 1, a, h, _, hI => by
    have e : i = n := by omega
    subst e
    rw [lp_s]
    exact hend a _ hI
  | d + 1, i, nn + 1, a, h, h2, hI => by
    rw [lp_s]
    rcases hstep i a (lp F nn) (by omega) hI with ⟨a', ha, he⟩ | hp
    · rw [he]
      exact lp_go Iv P n hstep hend d (i + 1) nn a' (by omega) (by omega) ha
    · exact hp
theorem lp_up {α β : Type} {F : (α → Option β) → α → Option β} (Iv : Nat → α → Prop) (P : Option β → Prop) (n nn : Nat) (a : α) (h0 : Iv 0 a) (hn : n < nn) (hstep : ∀ i a K, i < n → Iv i a → (∃ a', Iv (i + 1) a' ∧ F K a = K a') ∨ P (F K a)) (hend : ∀ a K, Iv n a → P (F K a)) : P (lp F nn a) := lp_go Iv P n hstep hend n 0 nn a (by omega) hn h0
