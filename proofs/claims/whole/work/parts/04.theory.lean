/-! ===== my own judgement: methods that make nothing, over a fixed layout of cells, a memory of ints and longs ===== -/
def tbG : List Cond := lw_tbl.filter goodWord
theorem tbG_of {w : Cond} (h : w ∈ lw_tbl) (g : goodWord w = true) : w ∈ tbG := List.mem_filter.mpr ⟨h, g⟩
theorem tbG_in {w : Cond} (h : w ∈ tbG) : w ∈ lw_tbl := (List.mem_filter.mp h).1
theorem gi_tb {c w0 : Cond} (h : w0 ∈ tbG) : GoodIn (c :: tbG) (w0 :: tbG) := by
  intro w hw
  have hb : w ∈ tbG := by
    rcases List.mem_cons.mp hw with e | e
    · rw [e]; exact h
    · exact e
  exact ⟨List.mem_cons_of_mem _ hb, good_of_word (List.mem_filter.mp hb).2⟩
abbrev Mm : Type := (Nat → Nat → Int32) × (Nat → Nat → Int64)
/-- a cell of the layout: an object (class number, its fields: a reference to a cell, or an int), an array of ints (0) or booleans (1) of a length, an array of longs, an array of references -/
abbrev LC : Type := (Nat × List (Option Nat)) ⊕ ((Nat × Nat) ⊕ (Nat ⊕ (List Nat)))
def flV (D : Nat → Nat) (M : Mm) (k : Nat) : Nat → List (Option Nat) → List Value
  | _, [] => []
  | j, some r :: t => .ref (D r) :: flV D M k (j + 1) t
  | j, none :: t => .int (M.1 k j) :: flV D M k (j + 1) t
def ceV (tc : Nat → ClassId) (D : Nat → Nat) (M : Mm) (k : Nat) : LC → va_E
  | .inl q => .inr (q.1, flV D M k 0 q.2)
  | .inr (.inl q) => .inl (tc q.1, q.2, .inl (M.1 k))
  | .inr (.inr (.inl n)) => .inl (tc 2, n, .inr (.inl (M.2 k)))
  | .inr (.inr (.inr rs)) => .inl (tc 3, rs.length, .inr (.inr (.inr (.inr (fun i => (rs[i]?).map D)))))
def mkW (tc : Nat → ClassId) (D : Nat → Nat) (M : Mm) : Nat → List LC → va_W
  | _, [] => []
  | k, c :: t => (D k, ceV tc D M k c) :: mkW tc D M (k + 1) t
theorem mkW_get (tc : Nat → ClassId) (D : Nat → Nat) (M : Mm) : ∀ (L : List LC) (k0 i : Nat), (mkW tc D M k0 L)[i]? = (L[i]?).map (fun c => (D (k0 + i), ceV tc D M (k0 + i) c))
  | [], k0, i => by simp [mkW]
  | c :: t, k0, 0 => by simp [mkW]
  | c :: t, k0, i + 1 => by
    have h := mkW_get tc D M t (k0 + 1) i
    simp only [mkW, List.getElem?_cons_succ, h]
    rw [show k0 + 1 + i = k0 + (i + 1) by omega]
theorem mkW_at {tc : Nat → ClassId} {D : Nat → Nat} {M : Mm} {L : List LC} {k : Nat} {c : LC} (h : L[k]? = some c) : (mkW tc D M 0 L)[k]? = some (D k, ceV tc D M k c) := by
  rw [mkW_get, h]; simp
theorem mkW_set {tc : Nat → ClassId} {D : Nat → Nat} {M M' : Mm} {L : List LC} {k : Nat} {c : LC} {e : va_E} (h : L[k]? = some c) (he : e = ceV tc D M' k c) (ho : ∀ a, a ≠ k → ∀ x, ceV tc D M a x = ceV tc D M' a x) : (mkW tc D M 0 L).set k (D k, e) = mkW tc D M' 0 L := by
  subst he
  apply List.ext_getElem?
  intro i
  by_cases hi : i = k
  · subst hi
    rw [List.getElem?_set_self (by
      have := (List.getElem?_eq_some_iff.mp (mkW_at (tc := tc) (D := D) (M := M) h)).1
      exact this), mkW_at h]
  · rw [List.getElem?_set_ne (Ne.symm hi), mkW_get, mkW_get]
    cases L[i]? with
    | none => rfl
    | some x => simp [ho i hi x]
def up1 (M : Mm) (k j : Nat) (v : Int32) : Mm := (fun a => if a = k then upd (M.1 k) j v else M.1 a, M.2)
def up2 (M : Mm) (k j : Nat) (v : Int64) : Mm := (M.1, fun a => if a = k then vp_updL (M.2 k) j v else M.2 a)
theorem flV_congr {D : Nat → Nat} {M M' : Mm} {k : Nat} : ∀ (fs : List (Option Nat)) (j : Nat), (∀ i, M.1 k i = M'.1 k i) → flV D M k j fs = flV D M' k j fs
  | [], _, _ => rfl
  | some r :: t, j, h => by simp only [flV]; rw [flV_congr t (j + 1) h]
  | none :: t, j, h => by simp only [flV]; rw [flV_congr t (j + 1) h, h j]
theorem ceV_congr {tc : Nat → ClassId} {D : Nat → Nat} {M M' : Mm} {k : Nat} (h1 : M.1 k = M'.1 k) (h2 : M.2 k = M'.2 k) (x : LC) : ceV tc D M k x = ceV tc D M' k x := by
  match x with
  | .inl q => simp only [ceV]; rw [flV_congr (M' := M') q.2 0 (fun i => by rw [h1])]
  | .inr (.inl q) => simp only [ceV, h1]
  | .inr (.inr (.inl n)) => simp only [ceV, h2]
  | .inr (.inr (.inr rs)) => rfl
theorem up1_o {M : Mm} {k j : Nat} {v : Int32} {tc : Nat → ClassId} {D : Nat → Nat} : ∀ a, a ≠ k → ∀ x, ceV tc D M a x = ceV tc D (up1 M k j v) a x :=
  fun a ha x => ceV_congr (M := M) (k := a) (M' := up1 M k j v) (by simp [up1, ha]) rfl x
theorem up2_o {M : Mm} {k j : Nat} {v : Int64} {tc : Nat → ClassId} {D : Nat → Nat} : ∀ a, a ≠ k → ∀ x, ceV tc D M a x = ceV tc D (up2 M k j v) a x :=
  fun a ha x => ceV_congr (M := M) (k := a) (M' := up2 M k j v) rfl (by simp [up2, ha]) x
theorem flV_get {D : Nat → Nat} {M : Mm} {k : Nat} : ∀ (fs : List (Option Nat)) (j0 j : Nat), (flV D M k j0 fs)[j]? = (fs[j]?).map (fun o => match o with | some r => .ref (D r) | none => .int (M.1 k (j0 + j)))
  | [], _, _ => by simp [flV]
  | some r :: t, j0, 0 => by simp [flV]
  | none :: t, j0, 0 => by simp [flV]
  | some r :: t, j0, j + 1 => by
    have h := flV_get (D := D) (M := M) (k := k) t (j0 + 1) j
    simp only [flV, List.getElem?_cons_succ, h]
    rw [show j0 + 1 + j = j0 + (j + 1) by omega]
  | none :: t, j0, j + 1 => by
    have h := flV_get (D := D) (M := M) (k := k) t (j0 + 1) j
    simp only [flV, List.getElem?_cons_succ, h]
    rw [show j0 + 1 + j = j0 + (j + 1) by omega]
theorem flV_len {D : Nat → Nat} {M : Mm} {k : Nat} : ∀ (fs : List (Option Nat)) (j0 : Nat), (flV D M k j0 fs).length = fs.length
  | [], _ => rfl
  | some r :: t, j0 => by simp [flV, flV_len t (j0 + 1)]
  | none :: t, j0 => by simp [flV, flV_len t (j0 + 1)]
theorem flV_set {D : Nat → Nat} {M : Mm} {k j : Nat} {v : Int32} {fs : List (Option Nat)} (h : fs[j]? = some none) : (flV D M k 0 fs).set j (.int v) = flV D (up1 M k j v) k 0 fs := by
  apply List.ext_getElem?
  intro i
  by_cases hi : i = j
  · subst hi
    have hl : i < fs.length := (List.getElem?_eq_some_iff.mp h).1
    rw [List.getElem?_set_self (by rw [flV_len]; exact hl), flV_get, h]
    simp [up1, upd]
  · rw [List.getElem?_set_ne (Ne.symm hi), flV_get, flV_get]
    cases fs[i]? with
    | none => rfl
    | some o =>
      cases o with
      | some r => rfl
      | none => simp [up1, upd, hi]
def inA (D : Nat → Nat) (L : List LC) : Nat → Prop := fun q => ∃ k, k < L.length ∧ q = D k
def JJ (D : Nat → Nat) (L : List LC) : Prop := ∀ i j, i < L.length → j < L.length → D i = D j → i = j
theorem mkW_D {tc : Nat → ClassId} {D : Nat → Nat} {M : Mm} {L : List LC} (hJ : JJ D L) : va_D (inA D L) (mkW tc D M 0 L) := by
  have key : ∀ (i : Nat) (q : Nat × va_E), (mkW tc D M 0 L)[i]? = some q → i < L.length ∧ q.1 = D i := by
    intro i q h
    rw [mkW_get] at h
    cases hc : L[i]? with
    | none => rw [hc] at h; cases h
    | some c =>
      rw [hc] at h
      simp at h
      exact ⟨(List.getElem?_eq_some_iff.mp hc).1, by rw [← h]⟩
  refine ⟨fun i j x y hi hj hxy => ?_, fun k q hk => ?_⟩
  · obtain ⟨a1, a2⟩ := key i x hi
    obtain ⟨b1, b2⟩ := key j y hj
    exact hJ i j a1 b1 (by rw [← a2, ← b2, hxy])
  · obtain ⟨a1, a2⟩ := key k q hk
    exact ⟨k, a1, a2⟩
def cv (D : Nat → Nat) : Value → Value
  | .ref r => .ref (D r)
  | v => v
theorem cv_cat (D : Nat → Nat) (v : Value) : (cv D v).category = v.category := by cases v <;> rfl
/-- locals -/
def lvH (D : Nat → Nat) (ls : Array Slot) (nL : Nat) (lv : List (Option Value)) : Prop := ls.size = nL ∧ lv_wf ls ∧ ∀ (i : Nat) (v : Value), lv[i]? = some (some v) → ls[i]? = some (.val (cv D v))
def tgV (D : Nat → Nat) : Nat → List (Option Value) → List (Nat × Value)
  | _, [] => []
  | i, some v :: t => (i, cv D v) :: tgV D (i + 1) t
  | i, none :: t => tgV D (i + 1) t
theorem tgV_in {D : Nat → Nat} : ∀ (lv : List (Option Value)) (k : Nat) (q : Nat × Value), q ∈ tgV D k lv ↔ ∃ (i : Nat) (v : Value), lv[i]? = some (some v) ∧ q = (k + i, cv D v)
  | [], k, q => by simp [tgV]
  | some v :: t, k, q => by
    simp only [tgV, List.mem_cons, tgV_in t (k + 1) q]
    constructor
    · rintro (h | ⟨i, w, h1, h2⟩)
      · exact ⟨0, v, by simp, by simpa using h⟩
      · exact ⟨i + 1, w, by simpa using h1, by rw [h2]; congr 1; omega⟩
    · rintro ⟨i, w, h1, h2⟩
      cases i with
      | zero => left; simp at h1; subst h1; simpa using h2
      | succ i => right; exact ⟨i, w, by simpa using h1, by rw [h2]; congr 1; omega⟩
  | none :: t, k, q => by
    simp only [tgV, tgV_in t (k + 1) q]
    constructor
    · rintro ⟨i, w, h1, h2⟩
      exact ⟨i + 1, w, by simpa using h1, by rw [h2]; congr 1; omega⟩
    · rintro ⟨i, w, h1, h2⟩
      cases i with
      | zero => simp at h1
      | succ i => exact ⟨i, w, by simpa using h1, by rw [h2]; congr 1; omega⟩
theorem lvH_has {D : Nat → Nat} {ls : Array Slot} {nL : Nat} {lv : List (Option Value)} (h : lvH D ls nL lv) : lv_has ls nL (tgV D 0 lv) := by
  refine ⟨h.1, h.2.1, fun q hq => ?_⟩
  obtain ⟨i, v, h1, h2⟩ := (tgV_in lv 0 q).mp hq
  subst h2
  have := h.2.2 i v h1
  simpa using this
/-- no long ends at the place -/
def noLg (lv : List (Option Value)) : Nat → Bool
  | 0 => true
  | j + 1 => match lv[j]? with
    | some (some (.long _)) => false
    | some (some (.double _)) => false
    | _ => true
theorem noLg_use {D : Nat → Nat} {lv : List (Option Value)} {i j : Nat} {w : Value} (h : noLg lv i = true) (hj : lv[j]? = some (some w)) (e : j + 1 = i) : ¬ (cv D w).category = 2 := by
  subst e
  intro hc
  rw [cv_cat] at hc
  simp only [noLg, hj] at h
  cases w <;> simp [Value.category] at hc h
theorem lvH_st1 {D : Nat → Nat} {ls' : Array Slot} {nL i : Nat} {lv : List (Option Value)} {v : Value} (hn : noLg lv i = true) (h : lv_has ls' nL ((i, cv D v) :: (tgV D 0 lv).filter (fun q => !(q.1 == i) && !(q.1 + 1 == i && q.2.category == 2)))) : lvH D ls' nL (lv.set i (some v)) := by
  refine ⟨h.1, h.2.1, fun j w hj => ?_⟩
  by_cases hi : i = j
  · subst hi
    by_cases hl : i < lv.length
    · rw [List.getElem?_set_self hl] at hj
      cases hj
      exact h.2.2 (i, cv D v) List.mem_cons_self
    · rw [List.getElem?_eq_none (by simp; omega)] at hj
      cases hj
  · rw [List.getElem?_set_ne hi] at hj
    refine h.2.2 (j, cv D w) (List.mem_cons_of_mem _ (List.mem_filter.mpr ⟨(tgV_in lv 0 _).mpr ⟨j, w, hj, by simp⟩, ?_⟩))
    simp only [Bool.and_eq_true, Bool.not_eq_true', beq_eq_false_iff_ne, ne_eq]
    refine ⟨fun e => hi e.symm, ?_⟩
    by_cases e : j + 1 = i
    · have := noLg_use (D := D) hn hj e
      simp [this]
    · simp [e]
theorem lvH_st2 {D : Nat → Nat} {ls' : Array Slot} {nL i : Nat} {lv : List (Option Value)} {v : Value} (hn : noLg lv i = true) (h : lv_has ls' nL ((i, cv D v) :: (tgV D 0 lv).filter (fun q => !(q.1 == i) && (!(q.1 == i + 1) && !(q.1 + 1 == i && q.2.category == 2))))) : lvH D ls' nL ((lv.set i (some v)).set (i + 1) none) := by
  refine ⟨h.1, h.2.1, fun j w hj => ?_⟩
  by_cases h1 : i + 1 = j
  · subst h1
    by_cases hl : i + 1 < (lv.set i (some v)).length
    · rw [List.getElem?_set_self hl] at hj
      cases hj
    · rw [List.getElem?_eq_none (by simp at hl ⊢; omega)] at hj
      cases hj
  · rw [List.getElem?_set_ne h1] at hj
    by_cases hi : i = j
    · subst hi
      by_cases hl : i < lv.length
      · rw [List.getElem?_set_self hl] at hj
        cases hj
        exact h.2.2 (i, cv D v) List.mem_cons_self
      · rw [List.getElem?_eq_none (by simp; omega)] at hj
        cases hj
    · rw [List.getElem?_set_ne hi] at hj
      refine h.2.2 (j, cv D w) (List.mem_cons_of_mem _ (List.mem_filter.mpr ⟨(tgV_in lv 0 _).mpr ⟨j, w, hj, by simp⟩, ?_⟩))
      simp only [Bool.and_eq_true, Bool.not_eq_true', beq_eq_false_iff_ne, ne_eq]
      refine ⟨fun e => hi e.symm, fun e => h1 e.symm, ?_⟩
      by_cases e : j + 1 = i
      · have := noLg_use (D := D) hn hj e
        simp [this]
      · simp [e]
/-- a method's start: its locals -/
def entL (n : Nat) : List Value → List (Option Value)
  | [] => List.replicate n none
  | v :: t => if v.category = 2 then some v :: none :: entL (n - 2) t else some v :: entL (n - 1) t
theorem entL_in {D : Nat → Nat} : ∀ (vs : List Value) (n k i : Nat) (v : Value), (entL n vs)[i]? = some (some v) → (k + i, cv D v) ∈ lv_args k (vs.map (cv D))
  | [], n, k, i, v, h => by
    simp only [entL, List.getElem?_replicate] at h
    split at h <;> cases h
  | w :: t, n, k, i, v, h => by
    simp only [entL] at h
    simp only [List.map_cons, lv_args, cv_cat]
    by_cases hc : w.category = 2
    · rw [if_pos hc] at h
      rw [if_pos hc]
      match i, h with
      | 0, h => simp at h; subst h; exact List.mem_cons_self
      | 1, h => simp at h
      | i + 2, h =>
        simp at h
        have := entL_in (D := D) t (n - 2) (k + 2) i v h
        rw [show k + (i + 2) = k + 2 + i by omega]
        exact List.mem_cons_of_mem _ this
    · rw [if_neg hc] at h
      rw [if_neg hc]
      match i, h with
      | 0, h => simp at h; subst h; exact List.mem_cons_self
      | i + 1, h =>
        simp at h
        have := entL_in (D := D) t (n - 1) (k + 1) i v h
        rw [show k + (i + 1) = k + 1 + i by omega]
        exact List.mem_cons_of_mem _ this
