/-! ===== what the reference's constructor leaves; the memory at the law's loop ===== -/
def IniM (M : Mm) : Prop := (∀ j, j < 48 → M.1 19 j = (-2000000000)) ∧ (∀ j, j < 12 → M.1 14 j = (-2000000000)) ∧ (∀ j, j < 12 → M.1 26 j = (-2000000000)) ∧ (∀ a, a ≠ 19 → a ≠ 14 → a ≠ 26 → ∀ j, M.1 a j = 0) ∧ ∀ a j, M.2 a j = 0
def JnM (i : Nat) (M : Mm) : Prop := (∀ j, j < i → M.1 19 j = (-2000000000)) ∧ (∀ j, j < 12 → j < i → M.1 14 j = (-2000000000)) ∧ (∀ j, j < 12 → j < i → M.1 26 j = (-2000000000)) ∧ (∀ a, a ≠ 19 → a ≠ 14 → a ≠ 26 → ∀ j, M.1 a j = 0) ∧ ∀ a j, M.2 a j = 0
theorem iniM_loop {N : Nat} : ∀ (d nn i : Nat) (M : Mm), i + d = 48 → d < nn → JnM i M → ∃ M1, lp (BX10_init_214 N) nn (nI i, M) = some M1 ∧ IniM M1
  | 0, nn + 1, i, M, h, _, hJ => by
    have e : i = 48 := by omega
    subst e
    rw [lp_s, eBX10_init_214, if_pos (show (48 : Int32) ≤ nI 48 by decide)]
    refine ⟨up1 M 0 10 0, rfl, fun j hj => ?_, fun j hj => ?_, fun j hj => ?_, fun a h1 h2 h3 j => ?_, hJ.2.2.2.2⟩
    · rw [up1_ne (by omega)]; exact hJ.1 j hj
    · rw [up1_ne (by omega)]; exact hJ.2.1 j hj (by omega)
    · rw [up1_ne (by omega)]; exact hJ.2.2.1 j hj (by omega)
    · by_cases e : a = 0
      · subst e
        rw [up1_same]
        by_cases e2 : j = 10
        · rw [if_pos e2]
        · rw [if_neg e2]; exact hJ.2.2.2.1 0 h1 h2 h3 j
      · rw [up1_ne e]; exact hJ.2.2.2.1 a h1 h2 h3 j
  | d + 1, nn + 1, i, M, h, h2, hJ => by
    have hi : i < 48 := by omega
    have e12 : nI i - nI i / 12 * 12 = nI (i % 12) := by
      have := pk_rem (a := i) (d := 12) (by omega) (by omega) (by omega)
      exact this
    have hm : i % 12 < 12 := Nat.mod_lt _ (by omega)
    rw [lp_s, eBX10_init_214, if_neg (show ¬ (48 : Int32) ≤ nI i from nI_ge (b := 48) hi (by decide))]
    show ∃ M1, ((wrI M 19 48 (nI i) (-2000000000)).bind fun M4 => (wrI M4 26 12 (nI i - nI i / 12 * 12) (-2000000000)).bind fun M6 => (wrI M6 14 12 (nI i - nI i / 12 * 12) (-2000000000)).bind fun M8 => lp (BX10_init_214 N) nn ((nI i + 1), M8)) = some M1 ∧ IniM M1
    rw [e12, wrI_nI hi (by omega), Option.bind_some, wrI_nI hm (by omega), Option.bind_some, wrI_nI hm (by omega), Option.bind_some, nI_1]
    refine iniM_loop d nn (i + 1) _ (by omega) (by omega) ⟨fun j hj => ?_, fun j hj hj2 => ?_, fun j hj hj2 => ?_, fun a h1 h2 h3 j => ?_, hJ.2.2.2.2⟩
    · rw [up1_ne (by omega), up1_ne (by omega), up1_same]
      by_cases e : j = i
      · rw [if_pos e]
      · rw [if_neg e]; exact hJ.1 j (by omega)
    · rw [up1_same]
      by_cases e : j = i % 12
      · rw [if_pos e]
      · rw [if_neg e, up1_ne (by omega), up1_ne (by omega)]
        refine hJ.2.1 j hj ?_
        rcases Nat.lt_or_ge j i with q | q
        · exact q
        · have : j = i := by omega
          rw [this] at hj e
          exact absurd (Nat.mod_eq_of_lt hj).symm e
    · rw [up1_ne (by omega), up1_same]
      by_cases e : j = i % 12
      · rw [if_pos e]
      · rw [if_neg e, up1_ne (by omega)]
        refine hJ.2.2.1 j hj ?_
        rcases Nat.lt_or_ge j i with q | q
        · exact q
        · have : j = i := by omega
          rw [this] at hj e
          exact absurd (Nat.mod_eq_of_lt hj).symm e
    · rw [up1_ne h2, up1_ne h3, up1_ne h1]
      exact hJ.2.2.2.1 a h1 h2 h3 j
theorem iniM_run : ∃ M1, FX10_init 49 ((fun _ _ => 0, fun _ _ => 0) : Mm) = some M1 ∧ IniM M1 := by
  unfold FX10_init
  exact iniM_loop (N := 49) 48 49 0 _ rfl (by omega) ⟨fun j h => absurd h (Nat.not_lt_zero _), fun j _ h => absurd h (Nat.not_lt_zero _), fun j _ h => absurd h (Nat.not_lt_zero _), fun _ _ _ _ _ => rfl, fun _ _ => rfl⟩
def MAll (M1 : Mm) : Mm := (fun k => if k < 69 then mem_X9.1 k else M1.1 (k - 69), fun k => M1.2 (k - 69))
/-- the claim in the words of the functions alone -/
def PureLaw : Prop := ∀ (M1 : Mm), IniM M1 → ∀ (xs : Nat → Int32) (Ln : Nat), Ln ≤ 2560 → ∃ (N : Nat) (M' : Mm), FL_law N xs Ln (MAll M1) = some (1, M')
