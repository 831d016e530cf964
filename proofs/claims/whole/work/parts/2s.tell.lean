/-! ===== tell, address: the trace ===== -/
theorem up1_up1 {M : Mm} {k j : Nat} {a b : Int32} : up1 (up1 M k j a) k j b = up1 M k j b := by
  refine Prod.ext (funext fun z => ?_) rfl
  by_cases e : z = k
  · subst e
    funext i
    rw [up1_same, up1_same, up1_same]
    by_cases e2 : i = j
    · rw [if_pos e2, if_pos e2]
    · rw [if_neg e2, if_neg e2, if_neg e2]
  · rw [up1_ne e, up1_ne e, up1_ne e]
theorem up1_self {M : Mm} {k j : Nat} : up1 M k j (M.1 k j) = M := by
  refine Prod.ext (funext fun z => ?_) rfl
  by_cases e : z = k
  · subst e
    funext i
    rw [up1_same]
    by_cases e2 : i = j
    · rw [if_pos e2, e2]
    · rw [if_neg e2]
  · rw [up1_ne e]
theorem leave_up {M : Mm} {a b : Int32} : FX7_leave b (up1 M 68 0 a) = some (up1 M 68 0 ((31 : Int32) * a + b)) := by
  rw [eFX7_leave, up1_same, if_pos rfl]
  show (some (up1 (up1 M 68 0 a) 68 0 ((31 : Int32) * a + b))).bind (fun M1 => some M1) = _
  rw [Option.bind_some, up1_up1]
theorem traced_up {M : Mm} {a b : Int32} : FX10_traced b (up1 M 69 33 a) = some (up1 M 69 33 ((31 : Int32) * a + b)) := by
  rw [eFX10_traced, up1_same, if_pos rfl]
  show (some (up1 (up1 M 69 33 a) 69 33 ((31 : Int32) * a + b))).bind (fun M1 => some M1) = _
  rw [Option.bind_some, up1_up1]
theorem tAsked {M : Mm} {a : Int32} {f : Nat} (hf : f < 12) : FX7_tellAsked (nI f) (up1 M 68 0 a) = some (M.1 4 f - M.1 3 f, up1 M 68 0 ((31 : Int32) * a + 1)) := by
  rw [eFX7_tellAsked, leave_up, Option.bind_some, rdI_nI hf (by decide), Option.bind_some, rdI_nI hf (by decide), Option.bind_some, up1_ne (a := 4) (by decide), up1_ne (a := 3) (by decide)]
theorem tMade {M : Mm} {a : Int32} {f : Nat} (hf : f < 12) : FX7_tellMade (nI f) (up1 M 68 0 a) = some (M.1 4 f - M.1 3 f + 1000, up1 M 68 0 ((31 : Int32) * ((31 : Int32) * a + 2) + 1)) := by
  rw [eFX7_tellMade, leave_up, Option.bind_some, tAsked hf, Option.bind_some]
def tpV (M : Mm) (f : Nat) : Int32 := if M.1 5 f = 0 then M.1 4 f - M.1 3 f else M.1 4 f - M.1 3 f + 1000
def tpT (M : Mm) (f : Nat) (a : Int32) : Int32 := if M.1 5 f = 0 then (31 : Int32) * a + 1 else (31 : Int32) * ((31 : Int32) * a + 2) + 1
theorem tPlain {M : Mm} {a : Int32} {f : Nat} (hf : f < 12) : FX7_tellPlain (nI f) (up1 M 68 0 a) = some (tpV M f, up1 M 68 0 (tpT M f a)) := by
  unfold tpV tpT
  rw [eFX7_tellPlain, rdI_nI hf (by decide), Option.bind_some, up1_ne (a := 5) (by decide)]
  by_cases e : M.1 5 f = 0
  · rw [if_pos e, if_pos e, if_pos e, tAsked hf, Option.bind_some]
  · rw [if_neg e, if_neg e, if_neg e, tMade hf, Option.bind_some]
theorem t53 {M : Mm} {a g : Int32} {f : Nat} (hf : f < 12) : BX10_tell_53 (nI f) g (up1 M 69 33 a) = BX10_tell_88 g (M.1 71 f - M.1 70 f) (if M.1 72 f = 1 then 1000 else 0) (up1 M 69 33 ((31 : Int32) * a + 1)) := by
  rw [eBX10_tell_53, traced_up, Option.bind_some, rdI_nI hf (by decide), Option.bind_some, rdI_nI hf (by decide), Option.bind_some, rdI_nI hf (by decide), Option.bind_some, up1_ne (a := 71) (by decide), up1_ne (a := 70) (by decide), up1_ne (a := 72) (by decide)]
  by_cases e : M.1 72 f = 1
  · rw [if_pos e, if_pos e]
  · rw [if_neg e, if_neg e]
theorem t38 {M : Mm} {a g : Int32} {f : Nat} (hf : f < 12) (h01 : M.1 5 f = 0 ∨ M.1 5 f = 1) (r3 : M.1 3 = M.1 70) (r4 : M.1 4 = M.1 71) (r5 : M.1 5 = M.1 72) : BX10_tell_38 (nI f) g (up1 M 69 33 a) = some (if g = 0 then tpV M f else (2 : Int32) * tpV M f, up1 M 69 33 (tpT M f a)) := by
  unfold tpV tpT
  rw [eBX10_tell_38, rdI_nI hf (by decide), Option.bind_some, up1_ne (a := 72) (by decide), ← r5]
  rcases h01 with e | e
  · rw [e, if_neg (by decide), t53 hf, ← r3, ← r4, ← r5, e, if_neg (by decide), eBX10_tell_88, Int32.add_zero, if_pos rfl, if_pos rfl]
    by_cases q : g = 0
    · rw [if_pos q, if_pos q]
    · rw [if_neg q, if_neg q]
  · rw [e, if_pos rfl, traced_up, Option.bind_some, t53 hf, ← r3, ← r4, ← r5, e, if_pos rfl, eBX10_tell_88, if_neg (show ¬ (1 : Int32) = 0 by decide), if_neg (show ¬ (1 : Int32) = 0 by decide)]
    by_cases q : g = 0
    · rw [if_pos q, if_pos q]
    · rw [if_neg q, if_neg q]
/-- only the trace changed -/
theorem Inv_T {n np ns : Nat} {M : Mm} {a : Int32} (h : Inv n np ns M) : Inv n np ns (up1 (up1 M 68 0 a) 69 33 a) := by
  have ex : ∀ z, z ≠ 68 → z ≠ 69 → (up1 (up1 M 68 0 a) 69 33 a).1 z = M.1 z := fun z h1 h2 => by rw [up1_ne h2, up1_ne h1]
  have e69 : ∀ j, j ≠ 33 → (up1 (up1 M 68 0 a) 69 33 a).1 69 j = M.1 69 j := fun j hj => by rw [up1_same, if_neg hj, up1_ne (by decide)]
  refine ⟨coreI_same (fun a ha => ex a (by omega) (by omega)) (fun a h1 h2 => ex a (by omega) (by omega)) (e69 0 (by decide)) (e69 5 (by decide)) h.1, refI_2 (fun a h1 h2 => ex a (by omega) (by omega)) rfl (e69 10 (by decide)) h.2.1, drI_same (fun a ha => ex a (by omega) (by omega)) h.2.2.1, slI_same (fun a ha => ex a (by omega) (by omega)) (e69 25 (by decide)) h.2.2.2.1, rgI_same (fun a ha => ex a (by omega) (by omega)) (e69 15 (by decide)) h.2.2.2.2.1, odI_same (fun a ha => ex a (by omega) (by omega)) (e69 23 (by decide)) h.2.2.2.2.2.1, trI_same (fun a ha => ex a (by omega) (by omega)) (e69 31 (by decide)) h.2.2.2.2.2.2.1, ?_⟩
  unfold tcI
  rw [up1_same, if_pos rfl, up1_ne (a := 68) (by decide), up1_same, if_pos rfl]
theorem c_tell {n np ns : Nat} {x : Int32} {M : Mm} (h : Inv n np ns M) : CallP (FX9_tell x M) (FX10_tell x) := by
  obtain ⟨hn, hnp, c1, c2, c3, c4⟩ := Inv_n h
  obtain ⟨r3, r4, r5, _, _, _, _, rr⟩ := h.1.2.1
  have htc : M.1 69 33 = M.1 68 0 := h.2.2.2.2.2.2.2
  rcases fldQ x hn with ⟨f, hf, rfl, a1, a2⟩ | ⟨a1, a2⟩
  · have h01 := h.1.1.1.2.2.2.2.2.2 f hf
    have hr1 := h.1.1.1.2.2.2.2.2.1 f hf 1 (by decide)
    -- class, for any trace; reference over what the class leaves
    have hP : ∀ w : Int32, FX7_tellPlain (nI f) (up1 M 68 0 w) = some (tpV M f, up1 M 68 0 (tpT M f w)) := fun w => tPlain (by omega)
    have hR : ∀ (b w g : Int32), BX10_tell_38 (nI f) g (up1 (up1 M 68 0 b) 69 33 w) = some (if g = 0 then tpV M f else (2 : Int32) * tpV M f, up1 (up1 M 68 0 b) 69 33 (tpT M f w)) := fun b w g => by
      have e3 : (up1 M 68 0 b).1 3 = M.1 3 := up1_ne (by decide)
      have e4 : (up1 M 68 0 b).1 4 = M.1 4 := up1_ne (by decide)
      have e5 : (up1 M 68 0 b).1 5 = M.1 5 := up1_ne (by decide)
      have e70 : (up1 M 68 0 b).1 70 = M.1 70 := up1_ne (by decide)
      have e71 : (up1 M 68 0 b).1 71 = M.1 71 := up1_ne (by decide)
      have e72 : (up1 M 68 0 b).1 72 = M.1 72 := up1_ne (by decide)
      have q := t38 (M := up1 M 68 0 b) (a := w) (g := g) (f := f) (by omega) (by rw [e5]; exact h01) (by rw [e3, e70]; exact r3) (by rw [e4, e71]; exact r4) (by rw [e5, e72]; exact r5)
      unfold tpV tpT at q ⊢
      rw [e3, e4, e5] at q
      exact q
    have x69 : ∀ b : Int32, (up1 M 68 0 b).1 69 = M.1 69 := fun b => up1_ne (by decide)
    have x73 : ∀ b : Int32, (up1 M 68 0 b).1 73 = M.1 73 := fun b => up1_ne (by decide)
    have m0 : up1 M 68 0 (M.1 68 0) = M := up1_self
    have m1 : ∀ b : Int32, up1 (up1 M 68 0 b) 69 33 (M.1 68 0) = up1 M 68 0 b := fun b => by
      have := up1_self (M := up1 M 68 0 b) (k := 69) (j := 33)
      rw [x69 b, htc] at this
      exact this
    have rr1 : M.1 73 (4 * f + 1) = M.1 (7 + f) 1 := (rr f 1 (by omega) (by decide)).symm
    rcases rl_neg hnp hr1 with ⟨z1, z2⟩ | ⟨z1, z2, p, hp, z3⟩
    · refine ⟨tpV M f, up1 M 68 0 (tpT M f (M.1 68 0)), up1 (up1 M 68 0 (tpT M f (M.1 68 0))) 69 33 (tpT M f (M.1 68 0)), ?_, ?_, n, np, ns, Inv_T h⟩
      · have q := hP (M.1 68 0)
        rw [m0] at q
        rw [eFX9_tell, a1 M c1, Option.bind_some, if_neg (by decide), eFX7_tellOne, ckR_nI (by omega) (by decide), Option.bind_some, rd4_1, Option.bind_some, if_pos z2, q, Option.bind_some, Option.bind_some]
      · have q := hR (tpT M f (M.1 68 0)) (M.1 68 0) 0
        rw [m1, if_pos rfl] at q
        rw [eFX10_tell, a2 _ (by rw [x69]; exact c3), Option.bind_some, if_pos rfl, show (4 : Int32) * nI f + 1 = nI (4 * f + 1) from ix4 f 1, rdI_nI (by omega) (by decide), Option.bind_some, x73, rr1, if_pos z1, eBX10_tell_28, if_pos rfl, q]
    · refine ⟨(2 : Int32) * tpV M f, up1 M 68 0 (tpT M f ((31 : Int32) * M.1 68 0 + 3)), up1 (up1 M 68 0 (tpT M f ((31 : Int32) * M.1 68 0 + 3))) 69 33 (tpT M f ((31 : Int32) * M.1 68 0 + 3)), ?_, ?_, n, np, ns, Inv_T h⟩
      · have q := leave_up (M := M) (a := M.1 68 0) (b := 3)
        rw [m0] at q
        rw [eFX9_tell, a1 M c1, Option.bind_some, if_neg (by decide), eFX7_tellOne, ckR_nI (by omega) (by decide), Option.bind_some, rd4_1, Option.bind_some, if_neg z2, eFX7_tellNeeded, q, Option.bind_some, hP, Option.bind_some, Option.bind_some, Option.bind_some]
      · have q := traced_up (M := up1 M 68 0 (tpT M f ((31 : Int32) * M.1 68 0 + 3))) (a := M.1 68 0) (b := 3)
        rw [m1] at q
        rw [eFX10_tell, a2 _ (by rw [x69]; exact c3), Option.bind_some, if_pos rfl, show (4 : Int32) * nI f + 1 = nI (4 * f + 1) from ix4 f 1, rdI_nI (by omega) (by decide), Option.bind_some, x73, rr1, if_neg z1, eBX10_tell_28, if_neg (by decide), q, Option.bind_some, hR, if_neg (by decide)]
  · refine CallP_same (-1) h ?_ ?_
    · rw [eFX9_tell, a1 M c1, Option.bind_some, if_pos rfl]
    · rw [eFX10_tell, a2 M c3, Option.bind_some, if_neg (by decide)]
theorem c_address {n np ns : Nat} {x : Int32} {M : Mm} (h : Inv n np ns M) : CallP (FX9_address x M) (FX10_address x) := by
  obtain ⟨hn, hnp, c1, c2, c3, c4⟩ := Inv_n h
  obtain ⟨r3, r4, r5, _, _, _, _, rr⟩ := h.1.2.1
  have htc : M.1 69 33 = M.1 68 0 := h.2.2.2.2.2.2.2
  rcases fldQ x hn with ⟨f, hf, rfl, a1, a2⟩ | ⟨a1, a2⟩
  · have x69 : ∀ b : Int32, (up1 M 68 0 b).1 69 = M.1 69 := fun b => up1_ne (by decide)
    have m0 : up1 M 68 0 (M.1 68 0) = M := up1_self
    have m1 : ∀ b : Int32, up1 (up1 M 68 0 b) 69 33 (M.1 68 0) = up1 M 68 0 b := fun b => by
      have := up1_self (M := up1 M 68 0 b) (k := 69) (j := 33)
      rw [x69 b, htc] at this
      exact this
    have l0 : ∀ b : Int32, FX7_leave b M = some (up1 M 68 0 ((31 : Int32) * M.1 68 0 + b)) := fun b => by
      have q := leave_up (M := M) (a := M.1 68 0) (b := b)
      rw [m0] at q
      exact q
    have l1 : ∀ c b : Int32, FX10_traced b (up1 M 68 0 c) = some (up1 (up1 M 68 0 c) 69 33 ((31 : Int32) * M.1 68 0 + b)) := fun c b => by
      have q := traced_up (M := up1 M 68 0 c) (a := M.1 68 0) (b := b)
      rw [m1] at q
      exact q
    have e72 : ∀ b : Int32, (up1 M 68 0 b).1 72 = M.1 5 := fun b => by rw [up1_ne (by decide), ← r5]
    have e72' : ∀ b c : Int32, (up1 (up1 M 68 0 b) 69 33 c).1 72 = M.1 5 := fun b c => by rw [up1_ne (by decide), e72]
    rcases h.1.1.1.2.2.2.2.2.2 f hf with hm | hm
    · refine ⟨(10 : Int32) * nI f, up1 M 68 0 ((31 : Int32) * M.1 68 0 + 4), _, ?_, ?_, n, np, ns, Inv_T (a := (31 : Int32) * M.1 68 0 + 4) h⟩
      · rw [eFX9_address, a1 M c1, Option.bind_some, if_neg (by decide), eFX7_addressOne, rdI_nI (by omega) (by decide), Option.bind_some, if_pos hm, eFX7_addressLent, l0, Option.bind_some, Option.bind_some, Option.bind_some]
      · rw [eFX10_address, a2 _ (by rw [x69]; exact c3), Option.bind_some, if_pos rfl, rdI_nI (by omega) (by decide), Option.bind_some, e72, hm, if_neg (by decide), eBX10_address_26, l1, Option.bind_some, rdI_nI (by omega) (by decide), Option.bind_some, e72', hm, if_neg (by decide)]
    · refine ⟨5, up1 M 68 0 ((31 : Int32) * M.1 68 0 + 5), _, ?_, ?_, n, np, ns, Inv_T (a := (31 : Int32) * M.1 68 0 + 5) h⟩
      · rw [eFX9_address, a1 M c1, Option.bind_some, if_neg (by decide), eFX7_addressOne, rdI_nI (by omega) (by decide), Option.bind_some, hm, if_neg (by decide), eFX7_addressMade, l0, Option.bind_some, Option.bind_some, Option.bind_some]
      · rw [eFX10_address, a2 _ (by rw [x69]; exact c3), Option.bind_some, if_pos rfl, rdI_nI (by omega) (by decide), Option.bind_some, e72, if_pos hm, eBX10_address_26, l1, Option.bind_some, rdI_nI (by omega) (by decide), Option.bind_some, e72', if_pos hm]
  · refine CallP_same (-1) h ?_ ?_
    · rw [eFX9_address, a1 M c1, Option.bind_some, if_pos rfl]
    · rw [eFX10_address, a2 M c3, Option.bind_some, if_neg (by decide)]
