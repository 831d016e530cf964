/-! ===== the class's graph; its steps are in order, its movers are right ===== -/
def dirC (np : Nat) (M : Mm) (f g : Nat) : Prop := ∃ p, p < np ∧ (M.1 (7 + f) 0 = nI p ∨ M.1 (7 + f) 3 = nI p) ∧ AO (M.1 22) (M.1 23) (M.1 24) (M.1 25) p g
def EC (M : Mm) (a b : Nat) : Prop := bt (M.1 19 a) b = true
def gr (n np : Nat) (M : Mm) : Prop :=
  (∀ p, p < np → ∀ g, bt (M.1 26 p) g = true ↔ g < 12 ∧ AO (M.1 22) (M.1 23) (M.1 24) (M.1 25) p g) ∧
  (∀ f, f < n → ∀ g, bt (M.1 19 f) g = true ↔ g < 12 ∧ dirC np M f g) ∧
  (∀ f, f < n → ∀ g, bt (M.1 20 f) g = true ↔ TC (EC M) n f g) ∧
  (∀ f, f < n → bt (M.1 20 f) f = false) ∧ ∀ f, n ≤ f → f < 12 → M.1 19 f = 0 ∧ M.1 20 f = 0
theorem AO_lt {n np p g : Nat} {M : Mm} (hN : netC n np M) (hp : p < np) (hg : g < 12) (h : AO (M.1 22) (M.1 23) (M.1 24) (M.1 25) p g) : g < n := by
  obtain ⟨k, h1, h2, h3⟩ := h
  obtain ⟨g', hg', e⟩ := pok_fld (hN.2.2.2.2.1 k (Nat.lt_of_le_of_lt (RS_le h1) hp)) h2
  have hn := hN.1
  rw [nI_inj (by omega) (by omega) (h3.symm.trans e)]
  exact hg'
theorem pth_end {E : Nat → Nat → Prop} {n : Nat} (hE : ∀ a b, a < n → E a b → b < n) : ∀ (k f g : Nat), f < n → pth E n k f g → g < n
  | 0, f, g, hf, h => hE f g hf h
  | k + 1, f, g, hf, ⟨x, hx, _, h⟩ => pth_end hE k x g hx h
theorem EC_lt {n np : Nat} {M : Mm} (hN : netC n np M) (hG : gr n np M) {a b : Nat} (ha : a < n) (h : EC M a b) : b < n := by
  obtain ⟨h12, p, hp, _, hA⟩ := (hG.2.1 a ha b).mp h
  exact AO_lt hN hp h12 hA
theorem H_lt {n np : Nat} {M : Mm} (hN : netC n np M) (hG : gr n np M) {a b : Nat} (ha : a < n) (h : bt (M.1 20 a) b = true) : b < n := by
  obtain ⟨k, hk⟩ := (hG.2.2.1 a ha b).mp h
  exact pth_end (fun a b => EC_lt hN hG) k a b ha hk
theorem EC_rank {n np : Nat} {M : Mm} (hN : netC n np M) (hG : gr n np M) {a b : Nat} (ha : a < n) (h : EC M a b) : cnt (M.1 20 b) 12 < cnt (M.1 20 a) 12 := by
  have hb := EC_lt hN hG ha h
  have hn := hN.1
  refine cnt_lt (j := b) 12 (by omega) (fun i _ hi => ?_) (hG.2.2.2.1 b hb) ((hG.2.2.1 a ha b).mpr (TC_e h))
  exact (hG.2.2.1 a ha i).mpr (TC_t hb (TC_e h) ((hG.2.2.1 b hb i).mp hi))
theorem cnt_low {m : Int32} {n : Nat} (h : low n m) : ∀ k, cnt m k ≤ n
  | 0 => Nat.zero_le _
  | k + 1 => by
    simp only [cnt]
    rcases Nat.lt_or_ge k n with q | q
    · have := cnt_le m k
      split <;> omega
    · have := cnt_low h k
      rw [h k q]
      simp; omega
theorem low_H {n np : Nat} {M : Mm} (hN : netC n np M) (hG : gr n np M) {a : Nat} (ha : a < n) : low n (M.1 20 a) := fun i hi => by
  cases hb : bt (M.1 20 a) i with
  | false => rfl
  | true => have := H_lt hN hG ha hb; omega
theorem low_A {n np : Nat} {M : Mm} (hG : gr n np M) {p : Nat} (hp : p < np) : low 12 (M.1 26 p) := fun i hi => by
  cases hb : bt (M.1 26 p) i with
  | false => rfl
  | true => have := ((hG.1 p hp i).mp hb).1; omega
/-- paths are short -/
theorem EC_short {n np : Nat} {M : Mm} (hN : netC n np M) (hG : gr n np M) {k f g : Nat} (hf : f < n) (h : pth (EC M) n k f g) : k < n := by
  have h1 := pth_rank (r := fun a => cnt (M.1 20 a) 12) (fun a b ha he => EC_rank hN hG ha he) k f g hf h
  have h2 := cnt_low (low_H hN hG hf) 12
  have h3 : cnt (M.1 20 f) 12 ≤ n := h2
  omega
/-- the steps: in order, and what moves them -/
def steps (n np c : Nat) (M : Mm) : Prop := stepsOK n np c M ∧ (∀ i j, i < c → j < c → dep np M (M.1 27 i) (M.1 27 j) → ∀ b, bt (M.1 28 j) b = true → bt (M.1 28 i) b = true) ∧ ∀ i f, i < c → f < n → M.1 27 i = nI (50 + f) → bt (M.1 28 i) f = true
def restsOK (n np : Nat) (M : Mm) : Prop := ∀ p, p < np → ∀ g, bt (M.1 29 p) g = true ↔ bt (M.1 26 p) g = true ∨ ∃ f, f < n ∧ bt (M.1 26 p) f = true ∧ bt (M.1 20 f) g = true
theorem ccV_p (R H : Nat → Int32) {p : Nat} (h : p < 50) : ccV R H p = cnt (R p) 12 := by unfold ccV; rw [if_pos h]
theorem ccV_f (R H : Nat → Int32) (f : Nat) : ccV R H (50 + f) = cnt (H f) 12 := by unfold ccV; rw [if_neg (by omega), show 50 + f - 50 = f by omega]
theorem mvV_p (R H : Nat → Int32) {p : Nat} (h : p < 50) : mvV R H p = R p := by unfold mvV; rw [if_pos h]
theorem mvV_f (R H : Nat → Int32) (f : Nat) : mvV R H (50 + f) = H f ||| ((1 : Int32) <<< (nI f &&& 31)) := by unfold mvV; rw [if_neg (by omega), show 50 + f - 50 = f by omega]
theorem b_orone {m : Int32} {f b : Nat} (hf : f < 32) : bt (m ||| ((1 : Int32) <<< (nI f &&& 31))) b = true ↔ bt m b = true ∨ b = f := by
  rw [b_or, Bool.or_eq_true]
  rcases Nat.lt_or_ge b 32 with q | q
  · rw [b_one hf q, decide_eq_true_iff]
  · rw [b_big q, b_big q]
    exact ⟨fun h => h.elim Or.inl (fun h => by cases h), fun h => h.elim Or.inl (fun h => by omega)⟩
theorem dep_fact {n np x : Nat} {M : Mm} {y : Int32} (hN : netC n np M) (hG : gr n np M) (hR : restsOK n np M) (hx : itm n np x = true) (hd : dep np M (nI x) y) : ∃ y0, y = nI y0 ∧ itm n np y0 = true ∧ (ccV (M.1 29) (M.1 20) y0 < ccV (M.1 29) (M.1 20) x ∨ (ccV (M.1 29) (M.1 20) y0 = ccV (M.1 29) (M.1 20) x ∧ y0 < x)) ∧ ∀ b, bt (mvV (M.1 29) (M.1 20) y0) b = true → bt (mvV (M.1 29) (M.1 20) x) b = true := by
  have hn := hN.1
  have hnp := hN.2.1
  have hx2 : x < np ∨ (50 ≤ x ∧ x < 50 + n) := by unfold itm at hx; simpa using hx
  have itp : ∀ p, p < np → itm n np p = true := fun p hp => by unfold itm; simp; omega
  have itf : ∀ f, f < n → itm n np (50 + f) = true := fun p hp => by unfold itm; simp; omega
  rcases hd with ⟨p, o, h1, h2, h3, h4⟩ | ⟨p, g, h1, h2, h3, h4, h5, h6⟩ | ⟨f, p, h1, h2, h3, h4, h5⟩
  · have e : x = p := nI_inj (by omega) (by omega) h2
    subst e
    have ho := h4.1
    have hsub : ∀ b, bt (M.1 29 o) b = true → bt (M.1 29 x) b = true := fun b hb => by
      have hA : ∀ g, bt (M.1 26 o) g = true → bt (M.1 26 x) g = true := fun g hg => by
        rw [hG.1 o (by omega)] at hg
        rw [hG.1 x h1]
        exact ⟨hg.1, AO_step.mpr (Or.inr ⟨o, h4, hg.2⟩)⟩
      rw [hR o (by omega)] at hb
      rw [hR x h1]
      rcases hb with hb | ⟨f, hf, hb, hc⟩
      · exact Or.inl (hA b hb)
      · exact Or.inr ⟨f, hf, hA f hb, hc⟩
    refine ⟨o, h3, itp o (by omega), ?_, fun b => ?_⟩
    · rw [ccV_p _ _ (by omega), ccV_p _ _ (by omega)]
      have := cnt_mono (x := M.1 29 o) (y := M.1 29 x) 12 (fun i _ => hsub i)
      omega
    · rw [mvV_p _ _ (by omega), mvV_p _ _ (by omega)]
      exact hsub b
  · have e : x = p := nI_inj (by omega) (by omega) h3
    subst e
    have hA : AO (M.1 22) (M.1 23) (M.1 24) (M.1 25) x g := AO_step.mpr (Or.inl ⟨h5, h6⟩)
    have hg := AO_lt hN h1 h2 hA
    have hb26 : bt (M.1 26 x) g = true := (hG.1 x h1 g).mpr ⟨h2, hA⟩
    have hin : bt (M.1 29 x) g = true := (hR x h1 g).mpr (Or.inl hb26)
    have hsub : ∀ b, bt (M.1 20 g) b = true → bt (M.1 29 x) b = true := fun b hb => (hR x h1 b).mpr (Or.inr ⟨g, hg, hb26, hb⟩)
    refine ⟨50 + g, h4, itf g hg, Or.inl ?_, fun b => ?_⟩
    · rw [ccV_f, ccV_p _ _ (by omega)]
      exact cnt_lt (j := g) 12 h2 (fun i _ => hsub i) (hG.2.2.2.1 g hg) hin
    · rw [mvV_f, mvV_p _ _ (by omega), b_orone (by omega)]
      rintro (h | h)
      · exact hsub b h
      · rw [h]; exact hin
  · have e : x = 50 + f := nI_inj (by omega) (by omega) h3
    subst e
    have hf : f < n := by omega
    have hsub : ∀ b, bt (M.1 29 p) b = true → bt (M.1 20 f) b = true := fun b hb => by
      have hA : ∀ g, bt (M.1 26 p) g = true → EC M f g := fun g hg => by
        rw [hG.1 p h2] at hg
        exact (hG.2.1 f hf g).mpr ⟨hg.1, p, h2, h5, hg.2⟩
      rw [hR p h2] at hb
      rw [hG.2.2.1 f hf]
      rcases hb with hb | ⟨g, hg, hb, hc⟩
      · exact TC_e (hA b hb)
      · exact TC_t hg (TC_e (hA g hb)) ((hG.2.2.1 g hg b).mp hc)
    refine ⟨p, h4, itp p h2, ?_, fun b => ?_⟩
    · rw [ccV_f, ccV_p _ _ (by omega)]
      have := cnt_mono (x := M.1 29 p) (y := M.1 20 f) 12 (fun i _ => hsub i)
      omega
    · rw [mvV_f, mvV_p _ _ (by omega), b_orone (by omega)]
      exact fun h => Or.inl (hsub b h)
theorem steps_of {n np : Nat} {M : Mm} (hN : netC n np M) (hG : gr n np M) (hR : restsOK n np M) (hl : laid n np (ccV (M.1 29) (M.1 20)) (mvV (M.1 29) (M.1 20)) 13 0 M) : ∃ c, steps n np c M := by
  have hn := hN.1
  have hnp := hN.2.1
  obtain ⟨l1, l2, l3⟩ := hl
  have hcc : ∀ y, ccV (M.1 29) (M.1 20) y < 13 := fun y => by
    unfold ccV
    split
    · have := cnt_le (M.1 29 y) 12; omega
    · have := cnt_le (M.1 20 (y - 50)) 12; omega
  have hin : ∀ y, inV n np (ccV (M.1 29) (M.1 20)) 13 0 y = itm n np y := fun y => by
    unfold inV
    have := hcc y
    simp [this]
  have hlt : ∀ y, itm n np y = true → psV n np (ccV (M.1 29) (M.1 20)) y < cntB (inV n np (ccV (M.1 29) (M.1 20)) 13 0) 62 := fun y hy => by
    have hy62 : y < 62 := by unfold itm at hy; simp at hy; omega
    refine cntB_lt (j := y) 62 hy62 (fun i _ hi => ?_) (by unfold inV; simp) (by rw [hin]; exact hy)
    rw [hin]
    unfold inV at hi
    simp at hi
    exact hi.1
  have hget : ∀ i, i < cntB (inV n np (ccV (M.1 29) (M.1 20)) 13 0) 62 → ∃ y, itm n np y = true ∧ psV n np (ccV (M.1 29) (M.1 20)) y = i ∧ M.1 27 i = nI y ∧ M.1 28 i = mvV (M.1 29) (M.1 20) y := fun i hi => by
    obtain ⟨y, hy, hp⟩ := l2 i hi
    obtain ⟨a, b⟩ := l3 y hy
    rw [hp] at a b
    rw [hin] at hy
    exact ⟨y, hy, hp, a, b⟩
  have hy62 : ∀ y, itm n np y = true → y < 62 := fun y hy => by unfold itm at hy; simp at hy; omega
  have itp : ∀ p, p < np → itm n np p = true := fun p hp => by unfold itm; simp; omega
  have itf : ∀ f, f < n → itm n np (50 + f) = true := fun p hp => by unfold itm; simp; omega
  refine ⟨cntB (inV n np (ccV (M.1 29) (M.1 20)) 13 0) 62, ⟨cntB_le _ _, l1, fun i hi => ?_, fun p hp => ?_, fun f hf => ?_, fun i j hi hj h => ?_, fun i hi y hd => ?_⟩, fun i j hi hj hd b hb => ?_, fun i f hi hf h => ?_⟩
  · obtain ⟨y, h1, h2, h3, h4⟩ := hget i hi
    have hy2 : y < np ∨ (50 ≤ y ∧ y < 50 + n) := by unfold itm at h1; simpa using h1
    rcases hy2 with q | q
    · exact Or.inl ⟨y, q, h3⟩
    · exact Or.inr ⟨y - 50, by omega, by rw [h3, show 50 + (y - 50) = y by omega]⟩
  · exact ⟨_, hlt p (itp p hp), (l3 p (by rw [hin]; exact itp p hp)).1⟩
  · exact ⟨_, hlt _ (itf f hf), (l3 _ (by rw [hin]; exact itf f hf)).1⟩
  · obtain ⟨y, h1, h2, h3, h4⟩ := hget i hi
    obtain ⟨y', h1', h2', h3', h4'⟩ := hget j hj
    have := hy62 y h1
    have := hy62 y' h1'
    have e : y = y' := nI_inj (by omega) (by omega) (by rw [← h3, ← h3']; exact h)
    rw [← h2, ← h2', e]
  · obtain ⟨x, h1, h2, h3, h4⟩ := hget i hi
    rw [h3] at hd
    obtain ⟨y0, e, hy, ho, _⟩ := dep_fact hN hG hR h1 hd
    refine ⟨psV n np (ccV (M.1 29) (M.1 20)) y0, ?_, ?_⟩
    · rw [← h2]; exact psV_mono hnp hn hy ho
    · rw [e]; exact (l3 y0 (by rw [hin]; exact hy)).1
  · obtain ⟨x, h1, h2, h3, h4⟩ := hget i hi
    obtain ⟨y, h1', h2', h3', h4'⟩ := hget j hj
    rw [h3] at hd
    obtain ⟨y0, e, hy, ho, hm⟩ := dep_fact hN hG hR h1 hd
    have := hy62 y h1'
    have := hy62 y0 hy
    have e2 : y = y0 := nI_inj (by omega) (by omega) (by rw [← h3']; exact e)
    rw [h4'] at hb
    rw [h4]
    rw [e2] at hb
    exact hm b hb
  · obtain ⟨x, h1, h2, h3, h4⟩ := hget i hi
    have := hy62 x h1
    have e : x = 50 + f := nI_inj (by omega) (by omega) (by rw [← h3]; exact h)
    rw [h4, e, mvV_f, b_orone (by omega)]
    exact Or.inr rfl
theorem netC_30 {n np : Nat} {M M' : Mm} (ha : ∀ a, a < 30 → a ≠ 1 → a ≠ 27 → a ≠ 28 → a ≠ 29 → M'.1 a = M.1 a) (hN : netC n np M) : netC n np M' := by
  obtain ⟨hn, hnp, hc1, hc2, hp, hr, hm⟩ := hN
  refine ⟨hn, hnp, by rw [ha 2 (by decide) (by decide) (by decide) (by decide) (by decide)]; exact hc1, by rw [ha 21 (by decide) (by decide) (by decide) (by decide) (by decide)]; exact hc2, fun p hpn => ?_, fun f hf j hj => ?_, fun f hf => ?_⟩
  · rw [ha 22 (by decide) (by decide) (by decide) (by decide) (by decide), ha 23 (by decide) (by decide) (by decide) (by decide) (by decide), ha 24 (by decide) (by decide) (by decide) (by decide) (by decide), ha 25 (by decide) (by decide) (by decide) (by decide) (by decide)]; exact hp p hpn
  · rw [ha (7 + f) (by omega) (by omega) (by omega) (by omega) (by omega)]; exact hr f hf j hj
  · rw [ha 5 (by decide) (by decide) (by decide) (by decide) (by decide)]; exact hm f hf
theorem gr_30 {n np : Nat} {M M' : Mm} (hn : n ≤ 12) (ha : ∀ a, a < 30 → a ≠ 1 → a ≠ 27 → a ≠ 28 → a ≠ 29 → M'.1 a = M.1 a) (hG : gr n np M) : gr n np M' := by
  obtain ⟨g1, g2, g3, g4, g5⟩ := hG
  have hE : EC M' = EC M := by
    funext a b
    unfold EC
    rw [ha 19 (by decide) (by decide) (by decide) (by decide) (by decide)]
  unfold gr
  rw [hE, ha 19 (by decide) (by decide) (by decide) (by decide) (by decide), ha 20 (by decide) (by decide) (by decide) (by decide) (by decide), ha 26 (by decide) (by decide) (by decide) (by decide) (by decide), ha 22 (by decide) (by decide) (by decide) (by decide) (by decide), ha 23 (by decide) (by decide) (by decide) (by decide) (by decide), ha 24 (by decide) (by decide) (by decide) (by decide) (by decide), ha 25 (by decide) (by decide) (by decide) (by decide) (by decide)]
  refine ⟨g1, fun f hf g => ?_, g3, g4, g5⟩
  rw [g2 f hf g]
  unfold dirC
  rw [ha 22 (by decide) (by decide) (by decide) (by decide) (by decide), ha 23 (by decide) (by decide) (by decide) (by decide) (by decide), ha 24 (by decide) (by decide) (by decide) (by decide) (by decide), ha 25 (by decide) (by decide) (by decide) (by decide) (by decide), ha (7 + f) (by omega) (by omega) (by omega) (by omega) (by omega)]
theorem dep_30 {np : Nat} {M M' : Mm} (ha : ∀ a, a < 30 → a ≠ 1 → a ≠ 27 → a ≠ 28 → a ≠ 29 → M'.1 a = M.1 a) {x y : Int32} (hd : dep np M' x y) : dep np M x y := by
  rcases hd with ⟨p, o, a, b, c, d⟩ | ⟨p, g, a, b, c, d, e, f⟩ | ⟨f, p, a, b, c, d, e⟩
  · rw [ha 22 (by decide) (by decide) (by decide) (by decide) (by decide), ha 23 (by decide) (by decide) (by decide) (by decide) (by decide), ha 24 (by decide) (by decide) (by decide) (by decide) (by decide), ha 25 (by decide) (by decide) (by decide) (by decide) (by decide)] at d
    exact Or.inl ⟨p, o, a, b, c, d⟩
  · rw [ha 22 (by decide) (by decide) (by decide) (by decide) (by decide)] at e
    rw [ha 23 (by decide) (by decide) (by decide) (by decide) (by decide)] at f
    exact Or.inr (Or.inl ⟨p, g, a, b, c, d, e, f⟩)
  · rw [ha (7 + f) (by omega) (by omega) (by omega) (by omega) (by omega)] at e
    exact Or.inr (Or.inr ⟨f, p, a, b, c, d, e⟩)
theorem steps_30 {n np c : Nat} {M M' : Mm} (ha : ∀ a, a < 30 → M'.1 a = M.1 a) (hS : steps n np c M) : steps n np c M' := by
  obtain ⟨⟨hc, hc1, hv, hp, hf, hinj, hord⟩, h2, h3⟩ := hS
  unfold steps stepsOK
  rw [ha 1 (by decide), ha 27 (by decide), ha 28 (by decide)]
  exact ⟨⟨hc, hc1, hv, hp, hf, hinj, fun i hi y hd => hord i hi y (dep_30 (fun a h _ _ _ _ => ha a h) hd)⟩, fun i j hi hj hd => h2 i j hi hj (dep_30 (fun a h _ _ _ _ => ha a h) hd), h3⟩
/-- the class's net, its graph and its steps -/
def coreC (n np : Nat) (M : Mm) : Prop := netC n np M ∧ gr n np M ∧ ∃ c, steps n np c M
theorem coreC_30 {n np : Nat} {M M' : Mm} (ha : ∀ a, a < 30 → M'.1 a = M.1 a) (h : coreC n np M) : coreC n np M' := by
  obtain ⟨h1, h2, c, h3⟩ := h
  exact ⟨netC_30 (fun a h _ _ _ _ => ha a h) h1, gr_30 h1.1 (fun a h _ _ _ _ => ha a h) h2, c, steps_30 ha h3⟩
theorem arrange_core {N n np : Nat} {M : Mm} (hN0 : 100 < N) (hN : netC n np M) (hG : gr n np M) : ∃ M', FX2_arrange N M = some M' ∧ sameA M M' ∧ coreC n np M' := by
  have hn := hN.1
  obtain ⟨M', h1, h2, h3, h4⟩ := arrange_cls (N := N) (n := n) (np := np) (M := M) hN0 hN.1 hN.2.1 hN.2.2.1 hN.2.2.2.1 (fun f hf => low_mono (low_H hN hG hf) hn) (fun p hp => low_A hG hp)
  have hs : ∀ a, a < 30 → a ≠ 1 → a ≠ 27 → a ≠ 28 → a ≠ 29 → M'.1 a = M.1 a := fun a _ x y z w => h2.2 a x y z w
  have hN' := netC_30 hs hN
  have hG' := gr_30 hn hs hG
  rw [← hs 20 (by decide) (by decide) (by decide) (by decide) (by decide)] at h3 h4
  rw [← hs 26 (by decide) (by decide) (by decide) (by decide) (by decide)] at h3
  exact ⟨M', h1, h2, hN', hG', steps_of hN' hG' h3 h4⟩
