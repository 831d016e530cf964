/-! ===== class and reference hold the same net; draft laid; status ===== -/
def relN (M : Mm) : Prop := M.1 3 = M.1 70 ∧ M.1 4 = M.1 71 ∧ M.1 5 = M.1 72 ∧ M.1 22 = M.1 74 ∧ M.1 23 = M.1 75 ∧ M.1 24 = M.1 76 ∧ M.1 25 = M.1 77 ∧ ∀ f j, f < 12 → j < 4 → M.1 (7 + f) j = M.1 73 (4 * f + j)
def spn (n : Nat) (M : Mm) : Prop := ∀ f, f < n → ¬ M.1 3 f < (-1000) ∧ ¬ 1000 < M.1 4 f ∧ M.1 3 f ≤ M.1 4 f
def coreI (n np : Nat) (M : Mm) : Prop := coreC n np M ∧ relN M ∧ M.1 69 0 = nI n ∧ M.1 69 5 = nI np ∧ spn n M
theorem relN_same {M M' : Mm} (h1 : ∀ a, a < 30 → M'.1 a = M.1 a) (h2 : ∀ a, 70 ≤ a → a ≤ 77 → M'.1 a = M.1 a) (h : relN M) : relN M' := by
  obtain ⟨a, b, c, d, e, f, g, k⟩ := h
  unfold relN
  rw [h1 3 (by decide), h1 4 (by decide), h1 5 (by decide), h1 22 (by decide), h1 23 (by decide), h1 24 (by decide), h1 25 (by decide), h2 70 (by decide) (by decide), h2 71 (by decide) (by decide), h2 72 (by decide) (by decide), h2 73 (by decide) (by decide), h2 74 (by decide) (by decide), h2 75 (by decide) (by decide), h2 76 (by decide) (by decide), h2 77 (by decide) (by decide)]
  refine ⟨a, b, c, d, e, f, g, fun x j hx hj => ?_⟩
  rw [h1 (7 + x) (by omega)]
  exact k x j hx hj
theorem coreI_same {n np : Nat} {M M' : Mm} (h1 : ∀ a, a < 30 → M'.1 a = M.1 a) (h2 : ∀ a, 70 ≤ a → a ≤ 77 → M'.1 a = M.1 a) (h0 : M'.1 69 0 = M.1 69 0) (h5 : M'.1 69 5 = M.1 69 5) (h : coreI n np M) : coreI n np M' := by
  obtain ⟨a, b, c, d, e⟩ := h
  refine ⟨coreC_30 h1 a, relN_same h1 h2 b, by rw [h0]; exact c, by rw [h5]; exact d, ?_⟩
  unfold spn
  rw [h1 3 (by decide), h1 4 (by decide)]
  exact e
theorem netR_of {n np : Nat} {M : Mm} (h : coreI n np M) : netR n np M := by
  obtain ⟨⟨⟨hn, hnp, hc1, hc2, hp, hr, hm⟩, _, _⟩, ⟨a, b, c, d, e, f, g, k⟩, h0, h5, hs⟩ := h
  refine ⟨hn, hnp, h0, h5, ?_, fun x hx j hj => ?_, ?_, fun x hx => ?_⟩
  · rw [← d, ← e, ← f, ← g]; exact hp
  · rw [← k x j (by omega) hj]; exact hr x hx j hj
  · rw [← c]; exact hm
  · rw [← a]; exact (hs x hx).1
theorem Dm_of {n np : Nat} {M : Mm} (h : coreI n np M) {f g : Nat} (hf : f < 12) : Dm np M f g ↔ g < 12 ∧ dirC np M f g := by
  obtain ⟨⟨⟨hn, hnp, hc1, hc2, hp, hr, hm⟩, _, _⟩, ⟨a, b, c, d, e, f', g', k⟩, h0, h5, hs⟩ := h
  unfold Dm dirC NdP RLp AO
  rw [← d, ← e, ← f', ← g', ← k f 3 hf (by decide), show M.1 73 (4 * f) = M.1 73 (4 * f + 0) from rfl, ← k f 0 hf (by decide)]
  refine and_congr Iff.rfl ⟨?_, ?_⟩
  · rintro ⟨x, hx, (⟨p, hpn, e1, hr⟩ | ⟨p, hpn, e1, hr⟩), hF, ha⟩
    · exact ⟨p, hpn, Or.inl e1, x, hr, hF, ha⟩
    · exact ⟨p, hpn, Or.inr e1, x, hr, hF, ha⟩
  · rintro ⟨p, hpn, (e1 | e1), x, hr, hF, ha⟩
    · exact ⟨x, Nat.lt_of_le_of_lt (RS_le hr) hpn, Or.inl ⟨p, hpn, e1, hr⟩, hF, ha⟩
    · exact ⟨x, Nat.lt_of_le_of_lt (RS_le hr) hpn, Or.inr ⟨p, hpn, e1, hr⟩, hF, ha⟩
theorem Dm_EC {n np : Nat} {M : Mm} (h : coreI n np M) {f g : Nat} (hf : f < n) : Dm np M f g ↔ EC M f g := by
  have hn := h.1.1.1
  rw [Dm_of h (by omega)]
  exact (h.1.2.1.2.1 f hf g).symm
theorem pth_on {E E' : Nat → Nat → Prop} {n : Nat} (hE : ∀ a b, a < n → E a b → E' a b) : ∀ (k f g : Nat), f < n → pth E n k f g → pth E' n k f g
  | 0, f, g, hf, h => hE f g hf h
  | k + 1, f, g, hf, ⟨x, h1, h2, h3⟩ => ⟨x, h1, hE f x hf h2, pth_on hE k x g h1 h3⟩
theorem TC_Dm {n np : Nat} {M : Mm} (h : coreI n np M) {f g : Nat} (hf : f < n) : TC (Dm np M) n f g ↔ TC (EC M) n f g :=
  ⟨fun ⟨k, hk⟩ => ⟨k, pth_on (fun _ _ ha => (Dm_EC h ha).mp) k f g hf hk⟩, fun ⟨k, hk⟩ => ⟨k, pth_on (fun _ _ ha => (Dm_EC h ha).mpr) k f g hf hk⟩⟩
theorem ac_of {n np : Nat} {M : Mm} (h : coreI n np M) (f : Nat) (hf : f < n) : ¬ TC (Dm np M) n f f := fun q => by
  have h1 := (h.1.2.1.2.2.1 f hf f).mpr ((TC_Dm h hf).mp q)
  rw [h.1.2.1.2.2.2.1 f hf] at h1
  cases h1
theorem rk_of {n np : Nat} {M : Mm} (h : coreI n np M) (f k b : Nat) (hf : f < n) (hk : pth (Dm np M) n k f b) : k ≤ n :=
  Nat.le_of_lt (EC_short h.1.1 h.1.2.1 hf (pth_on (fun _ _ ha => (Dm_EC h ha).mp) k f b hf hk))
def refI (n np : Nat) (M : Mm) : Prop := M.1 69 10 = 0 ∨ (M.1 69 10 = 1 ∧ refOrd n np M)
theorem hang_eq {n np : Nat} {M : Mm} (h : coreI n np M) (ho : refOrd n np M) (f : Nat) (hf : f < n) : M.1 79 f = M.1 20 f := by
  refine b_ext (fun i _ => ?_)
  have h1 := (ho.1 f hf).2 i
  have h2 := h.1.2.1.2.2.1 f hf i
  have h3 := TC_Dm (g := i) h hf
  have h4 : bt (M.1 79 f) i = true ↔ bt (M.1 20 f) i = true := h1.trans (h3.trans h2.symm)
  cases ha : bt (M.1 79 f) i <;> cases hb : bt (M.1 20 f) i
  · rfl
  · rw [ha, hb] at h4; exact absurd (h4.mpr rfl) (by decide)
  · rw [ha, hb] at h4; exact absurd (h4.mp rfl) (by decide)
  · rfl
theorem refOrd_same {n np : Nat} {M M' : Mm} (h : ∀ a, 70 ≤ a → a ≤ 77 → M'.1 a = M.1 a) (h79 : M'.1 79 = M.1 79) (h81 : M'.1 81 = M.1 81) (h80 : M'.2 80 = M.2 80) (ho : refOrd n np M) : refOrd n np M' := by
  unfold refOrd ordOK at *
  rw [h79, h81, h80, Dm_net h]
  refine ⟨fun f hf => ⟨fun k => ?_, (ho.1 f hf).2⟩, ho.2⟩
  rw [NdP_net h]
  exact (ho.1 f hf).1 k
theorem refI_same {n np : Nat} {M M' : Mm} (h : ∀ a, 70 ≤ a → a ≤ 77 → M'.1 a = M.1 a) (h79 : M'.1 79 = M.1 79) (h81 : M'.1 81 = M.1 81) (h80 : M'.2 80 = M.2 80) (h10 : M'.1 69 10 = M.1 69 10) (ho : refI n np M) : refI n np M' := by
  unfold refI at *
  rw [h10]
  exact ho.elim Or.inl (fun q => Or.inr ⟨q.1, refOrd_same h h79 h81 h80 q.2⟩)
/-- memories that differ in what the reference works with alone -/
def sameW (M M' : Mm) : Prop := (∀ a, a ≠ 69 → a ≠ 78 → a ≠ 79 → a ≠ 81 → (a < 83 ∨ 87 < a) → M'.1 a = M.1 a) ∧ ∀ j, j ≠ 10 → M'.1 69 j = M.1 69 j
theorem sameW_rf (M : Mm) : sameW M M := ⟨fun _ _ _ _ _ _ => rfl, fun _ _ => rfl⟩
theorem sameW_t {M M1 M2 : Mm} (h1 : sameW M M1) (h2 : sameW M1 M2) : sameW M M2 := ⟨fun a x y z w v => (h2.1 a x y z w v).trans (h1.1 a x y z w v), fun j hj => (h2.2 j hj).trans (h1.2 j hj)⟩
theorem sameW_O {M M' : Mm} (h : sameO M M') : sameW M M' := ⟨fun a x y z w _ => h.1 a x y z w, h.2.1⟩
theorem sameW_D {M M' : Mm} (h : sameD M M') : sameW M M' := ⟨fun a x y z w v => h.2 a (by omega) (by omega) (by omega) (by omega) (by omega), fun j _ => by rw [h.2 69 (by decide) (by decide) (by decide) (by decide) (by decide)]⟩
theorem sameW_J {M M' : Mm} (h : sameJ M M') : sameW M M' := sameW_D (sameD_J h)
theorem coreI_W {n np : Nat} {M M' : Mm} (h : sameW M M') (hc : coreI n np M) : coreI n np M' :=
  coreI_same (fun a ha => h.1 a (by omega) (by omega) (by omega) (by omega) (by omega)) (fun a ha hb => h.1 a (by omega) (by omega) (by omega) (by omega) (by omega)) (h.2 0 (by decide)) (h.2 5 (by decide)) hc
theorem arr_ref {N n np : Nat} {M : Mm} (hN0 : 60 < N) (h : coreI n np M) (ho : refI n np M) : ∃ M', FX10_arrange N M = some M' ∧ sameO M M' ∧ M'.1 69 10 = 1 ∧ refOrd n np M' ∧ coreI n np M' ∧ ∀ f, f < n → M'.1 79 f = M.1 20 f := by
  obtain ⟨M', h1, h2, h3, h4⟩ := arrange_ref (N := N) hN0 (netR_of h) (ac_of h) (rk_of h) ho
  have hc := coreI_W (sameW_O h2) h
  exact ⟨M', h1, h2, h3, h4, hc, fun f hf => by rw [hang_eq hc h4 f hf, h2.1 20 (by decide) (by decide) (by decide) (by decide)]⟩
/-- draft laid: the reference comes to the solution -/
theorem lay_run {N n np d : Nat} {M : Mm} {row V SH CN : Nat → Int32} (hN0 : 60 < N) (hd : d < 4) (h : coreI n np M) (ho : refI n np M) (hsol : solR n np M row V SH CN) (hrow : ∀ f, f < n → M.1 88 (12 * d + f) = row f) (hok : ∀ f, f < n → M.1 72 f = 0 → row f = LO ∨ (¬ row f < M.1 70 f ∧ ¬ M.1 71 f < row f)) : ∃ M', FX10_layDraft N (nI d) M = some M' ∧ sameW M M' ∧ refI n np M' ∧ (∀ f, f < n → M'.1 83 f = row f) ∧ (∀ p, p < np → M'.1 87 p = V p) ∧ ∀ f, f < n → M'.1 84 f = SH f ∧ M'.1 86 f = CN f := by
  obtain ⟨M1, a1, a2, a3, a4, a5, a6⟩ := arr_ref (N := N) hN0 h ho
  unfold FX10_layDraft
  rw [a1, Option.bind_some]
  have hn := h.1.1.1
  have hW1 := sameW_O a2
  have hnet : ∀ a, 70 ≤ a → a ≤ 77 → M1.1 a = M.1 a := fun a ha hb => hW1.1 a (by omega) (by omega) (by omega) (by omega) (by omega)
  refine lay_rows (P := fun o => ∃ M', o = some M' ∧ sameW M M' ∧ refI n np M' ∧ (∀ f, f < n → M'.1 83 f = row f) ∧ (∀ p, p < np → M'.1 87 p = V p) ∧ ∀ f, f < n → M'.1 84 f = SH f ∧ M'.1 86 f = CN f) hN0 hn hd a5.2.2.1 (fun M2 b1 b2 => ?_)
  have hW2 := sameW_D b1
  have hnet2 : ∀ a, 70 ≤ a → a ≤ 77 → M2.1 a = M1.1 a := fun a ha hb => hW2.1 a (by omega) (by omega) (by omega) (by omega) (by omega)
  have hc2 := coreI_W hW2 a5
  have ho2 := refOrd_same hnet2 (b1.2 79 (by decide) (by decide) (by decide) (by decide) (by decide)) (b1.2 81 (by decide) (by decide) (by decide) (by decide) (by decide)) (by rw [b1.1]) a4
  have hr2 : ∀ f, f < n → M2.1 83 f = row f := fun f hf => by
    rw [b2 f hf, hW1.1 88 (by decide) (by decide) (by decide) (by decide) (by decide)]
    exact hrow f hf
  obtain ⟨M3, c1, c2, c3, c4⟩ := lay_judge (N := N) (row := row) (V := V) (SH := SH) (CN := CN) hN0 (netR_of hc2) ho2 (ac_of hc2) (solR_same hnet2 (solR_same hnet hsol)) hr2 (by
    rw [hnet2 70 (by decide) (by decide), hnet2 71 (by decide) (by decide), hnet2 72 (by decide) (by decide), hnet 70 (by decide) (by decide), hnet 71 (by decide) (by decide), hnet 72 (by decide) (by decide)]
    exact hok)
  have hW3 := sameW_J c2
  refine ⟨M3, c1, sameW_t hW1 (sameW_t hW2 hW3), Or.inr ⟨?_, ?_⟩, fun f hf => ?_, c3, c4⟩
  · rw [c2.2 69 (by decide) (by decide) (by decide) (by decide), b1.2 69 (by decide) (by decide) (by decide) (by decide) (by decide)]; exact a3
  · exact refOrd_same (fun a ha hb => c2.2 a (by omega) (by omega) (by omega) (by omega)) (c2.2 79 (by decide) (by decide) (by decide) (by decide)) (c2.2 81 (by decide) (by decide) (by decide) (by decide)) (by rw [c2.1]) ho2
  · rw [c2.2 83 (by decide) (by decide) (by decide) (by decide)]; exact hr2 f hf
/-- the class's equations are the reference's -/
theorem sol_of {s k n np : Nat} {M : Mm} (h : coreI n np M) (hP : ∀ p, p < np → eqP s M p) (hF : ∀ f, f < n → eqF s k M f) : solR n np M (M.1 k) (M.1 (s + 1)) (M.1 (s + 2)) (M.1 (s + 3)) := by
  obtain ⟨⟨⟨hn, hnp, hc1, hc2, hp, hr, hm⟩, _, _⟩, ⟨a, b, c, d, e, f, g, k'⟩, h0, h5, hs⟩ := h
  unfold solR
  rw [← a, ← b, ← c, ← d, ← e, ← f, ← g]
  refine ⟨hP, fun x hx => ?_⟩
  rw [← k' x 3 (by omega) (by decide), show M.1 73 (4 * x) = M.1 73 (4 * x + 0) from rfl, ← k' x 0 (by omega) (by decide)]
  exact hF x hx
/-- a field's status -/
def stV (sh cn r1 r2 : Int32) (V : Nat → Int32) : Int32 := if sh = 0 then 0 else if cn = LO then (if r1 = (-9) then 1 else if V r1.toNatClampNeg = LO ∨ V r1.toNatClampNeg = 0 then 1 else 2) else (if r2 = (-9) then 3 else if V r2.toNatClampNeg = 0 then 4 else 3)
theorem status_c {s n np f : Nat} {M : Mm} (hN : netC n np M) (hf : f < n) : FX6_statusOf s (nI f) M = some (stV (M.1 (s + 2) f) (M.1 (s + 3) f) (M.1 (7 + f) 1) (M.1 (7 + f) 2) (M.1 (s + 1))) := by
  obtain ⟨hn, hnp, hc1, hc2, hp, hr, hm⟩ := hN
  have h1 := hr f hf 1 (by decide)
  have h2 := hr f hf 2 (by decide)
  unfold FX6_statusOf stV
  rw [show (-2000000000 : Int32) = LO from rfl]
  simp (disch := omega) only [rdI_nI, ckR_nI, Option.bind_some]
  rw [rd4_1, rd4_2, Option.bind_some, Option.bind_some, valueOf_run hnp h1, valueOf_run hnp h2, Option.bind_some, Option.bind_some, isYes_run, Option.bind_some]
  by_cases e0 : M.1 (s + 2) f = 0
  · rw [if_pos e0, if_pos e0]
  · rw [if_neg e0, if_neg e0]
    by_cases e1 : M.1 (s + 3) f = LO
    · rw [if_pos e1, if_pos e1]
      by_cases e2 : M.1 (7 + f) 1 = (-9)
      · rw [if_pos e2, if_pos e2]; rfl
      · rw [if_neg e2, if_neg e2]
        by_cases e3 : M.1 (s + 1) (M.1 (7 + f) 1).toNatClampNeg = LO ∨ M.1 (s + 1) (M.1 (7 + f) 1).toNatClampNeg = 0
        · rw [if_pos e3, if_pos e3]; rfl
        · rw [if_neg e3, if_neg e3]; rfl
    · rw [if_neg e1, if_neg e1]
      by_cases e2 : M.1 (7 + f) 2 = (-9)
      · rw [if_pos e2, if_pos e2]; rfl
      · rw [if_neg e2, if_neg e2]
        by_cases e3 : M.1 (s + 1) (M.1 (7 + f) 2).toNatClampNeg = 0
        · rw [if_pos e3, if_pos e3]
        · rw [if_neg e3, if_neg e3]
theorem status_r {n np f : Nat} {M : Mm} {V : Nat → Int32} (hN : netR n np M) (hf : f < n) (hV : ∀ p, p < np → M.1 87 p = V p) : FX10_statusOf (nI f) M = some (stV (M.1 84 f) (M.1 86 f) (M.1 73 (4 * f + 1)) (M.1 73 (4 * f + 2)) V) := by
  obtain ⟨hn, hnp, hc1, hc2, hp, hr, hm, hsp⟩ := hN
  have h1 := hr f hf 1 (by decide)
  have h2 := hr f hf 2 (by decide)
  unfold FX10_statusOf stV
  rw [show (-2000000000 : Int32) = LO from rfl, show (4 : Int32) * nI f + 1 = nI (4 * f + 1) from ix4 f 1, show (4 : Int32) * nI f + 2 = nI (4 * f + 2) from ix4 f 2]
  simp (disch := omega) only [rdI_nI, Option.bind_some]
  by_cases e0 : M.1 84 f = 0
  · rw [if_pos e0, if_pos e0]
  · rw [if_neg e0, if_neg e0]
    by_cases e1 : M.1 86 f = LO
    · rw [if_pos e1, if_pos e1]
      rcases rl_neg hnp h1 with ⟨z1, z2⟩ | ⟨z1, z2, p, hpn, z3⟩
      · rw [if_pos z1, if_pos z2]
      · rw [if_neg z1, if_neg z2, z3, isSo_run (by omega), Option.bind_some, cl_nI (by omega), hV p hpn]
        by_cases e3 : V p = LO ∨ V p = 0
        · rw [if_pos e3, if_pos e3]; rfl
        · rw [if_neg e3, if_neg e3]; rfl
    · rw [if_neg e1, if_neg e1]
      rcases rl_neg hnp h2 with ⟨z1, z2⟩ | ⟨z1, z2, p, hpn, z3⟩
      · rw [if_pos z1, if_pos z2]
      · rw [if_neg z1, if_neg z2, z3, rdI_nI (by omega) (by decide), Option.bind_some, cl_nI (by omega), hV p hpn]
        split <;> rfl
