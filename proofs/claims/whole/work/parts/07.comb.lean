/-! ===== what the functions are made of, and the rules in their words ===== -/
def rdI (M : Mm) (k n : Nat) (i : Int32) : Option Int32 := if i < 0 ∨ n ≤ i.toNatClampNeg then none else some (M.1 k i.toNatClampNeg)
def rdL (M : Mm) (k n : Nat) (i : Int32) : Option Int64 := if i < 0 ∨ n ≤ i.toNatClampNeg then none else some (M.2 k i.toNatClampNeg)
def wrI (M : Mm) (k n : Nat) (i v : Int32) : Option Mm := if i < 0 ∨ n ≤ i.toNatClampNeg then none else some (up1 M k i.toNatClampNeg v)
def wrZ (M : Mm) (k n : Nat) (i v : Int32) : Option Mm := if i < 0 ∨ n ≤ i.toNatClampNeg then none else if v = 0 ∨ v = 1 then some (up1 M k i.toNatClampNeg v) else none
def wrL (M : Mm) (k n : Nat) (i : Int32) (v : Int64) : Option Mm := if i < 0 ∨ n ≤ i.toNatClampNeg then none else some (up2 M k i.toNatClampNeg v)
def wrF (M : Mm) (k j : Nat) (v : Int32) : Option Mm := some (up1 M k j v)
def ckR (base n : Nat) (i : Int32) : Option Nat := if i < 0 ∨ n ≤ i.toNatClampNeg then none else some (base + i.toNatClampNeg)
def gdB (v : Int32) : Option Int32 := if v = 0 ∨ v = 1 then some v else none
theorem gdB_ok {v w : Int32} (h : gdB v = some w) : v = w ∧ (w = 0 ∨ w = 1) := by
  unfold gdB at h
  by_cases c : v = 0 ∨ v = 1
  · rw [if_pos c] at h; cases h; exact ⟨rfl, c⟩
  · rw [if_neg c] at h; cases h
theorem rdI_ok {M : Mm} {k n : Nat} {i v : Int32} (h : rdI M k n i = some v) : vp_in i n ∧ M.1 k i.toNatClampNeg = v := by
  unfold rdI at h
  by_cases c : i < 0 ∨ n ≤ i.toNatClampNeg
  · rw [if_pos c] at h; cases h
  · rw [if_neg c] at h; exact ⟨c, Option.some.inj h⟩
theorem rdL_ok {M : Mm} {k n : Nat} {i : Int32} {v : Int64} (h : rdL M k n i = some v) : vp_in i n ∧ M.2 k i.toNatClampNeg = v := by
  unfold rdL at h
  by_cases c : i < 0 ∨ n ≤ i.toNatClampNeg
  · rw [if_pos c] at h; cases h
  · rw [if_neg c] at h; exact ⟨c, Option.some.inj h⟩
theorem wrI_ok {M M' : Mm} {k n : Nat} {i v : Int32} (h : wrI M k n i v = some M') : vp_in i n ∧ up1 M k i.toNatClampNeg v = M' := by
  unfold wrI at h
  by_cases c : i < 0 ∨ n ≤ i.toNatClampNeg
  · rw [if_pos c] at h; cases h
  · rw [if_neg c] at h; exact ⟨c, Option.some.inj h⟩
theorem wrZ_ok {M M' : Mm} {k n : Nat} {i v : Int32} (h : wrZ M k n i v = some M') : vp_in i n ∧ (v = 0 ∨ v = 1) ∧ up1 M k i.toNatClampNeg v = M' := by
  unfold wrZ at h
  by_cases c : i < 0 ∨ n ≤ i.toNatClampNeg
  · rw [if_pos c] at h; cases h
  · rw [if_neg c] at h
    by_cases d : v = 0 ∨ v = 1
    · rw [if_pos d] at h; exact ⟨c, d, Option.some.inj h⟩
    · rw [if_neg d] at h; cases h
theorem wrL_ok {M M' : Mm} {k n : Nat} {i : Int32} {v : Int64} (h : wrL M k n i v = some M') : vp_in i n ∧ up2 M k i.toNatClampNeg v = M' := by
  unfold wrL at h
  by_cases c : i < 0 ∨ n ≤ i.toNatClampNeg
  · rw [if_pos c] at h; cases h
  · rw [if_neg c] at h; exact ⟨c, Option.some.inj h⟩
theorem ckR_ok {base n : Nat} {i : Int32} {k : Nat} (h : ckR base n i = some k) : vp_in i n ∧ base + i.toNatClampNeg = k := by
  unfold ckR at h
  by_cases c : i < 0 ∨ n ≤ i.toNatClampNeg
  · rw [if_pos c] at h; cases h
  · rw [if_neg c] at h; exact ⟨c, Option.some.inj h⟩
theorem ckR_all {base n : Nat} {i : Int32} {k : Nat} {P : Nat → Prop} (h : ckR base n i = some k) (ha : ∀ j, j < n → P (base + j)) : P k := by
  obtain ⟨h1, h2⟩ := ckR_ok h
  rw [← h2]
  exact ha _ (Nat.not_le.mp fun q => h1 (Or.inr q))
def RQI (r : Int32) (M1 : Mm) : Option Value → Mm → Prop := fun x M' => x = some (.int r) ∧ M' = M1
def RQL (r : Int64) (M1 : Mm) : Option Value → Mm → Prop := fun x M' => x = some (.long r) ∧ M' = M1
def RQV (M1 : Mm) : Option Value → Mm → Prop := fun x M' => x = none ∧ M' = M1
def lp {α β : Type} (F : (α → Option β) → α → Option β) : Nat → α → Option β
  | 0, _ => none
  | n + 1, a => F (lp F n) a
theorem lp_ind {α β : Type} {F : (α → Option β) → α → Option β} {P : α → β → Prop} (hs : ∀ (K : α → Option β), (∀ (a : α) (R : β), K a = some R → P a R) → ∀ (a : α) (R : β), F K a = some R → P a R) : ∀ (n : Nat) (a : α) (R : β), lp F n a = some R → P a R
  | 0, a, R, h => by cases h
  | n + 1, a, R, h => hs (lp F n) (lp_ind hs n) a R h
def fgt : List Bool → List (Option Value) → List (Option Value)
  | true :: m, x :: t => x :: fgt m t
  | false :: m, _ :: t => none :: fgt m t
  | _, t => t.map (fun _ => none)
theorem fgt_sub : ∀ (m : List Bool) (lv : List (Option Value)) (i : Nat) (v : Value), (fgt m lv)[i]? = some (some v) → lv[i]? = some (some v)
  | true :: m, x :: t, 0, v, h => by simpa [fgt] using h
  | true :: m, x :: t, i + 1, v, h => by simp [fgt] at h ⊢; exact fgt_sub m t i v h
  | false :: m, x :: t, 0, v, h => by simp [fgt] at h
  | false :: m, x :: t, i + 1, v, h => by simp [fgt] at h ⊢; exact fgt_sub m t i v h
  | [], t, i, v, h => by
    simp [fgt] at h
  | true :: m, [], i, v, h => by simp [fgt] at h
  | false :: m, [], i, v, h => by simp [fgt] at h
/-- where a tableswitch goes -/
def swT (dflt lo hi : Int) (offs : Array Int) (x : Int32) : Int := if x.toInt < lo ∨ hi < x.toInt then dflt else (offs[(x.toInt - lo).toNat]?).getD dflt
theorem swT_def {dflt lo hi : Int} {offs : Array Int} {x : Int32} (h : x.toInt < lo ∨ hi < x.toInt) : swT dflt lo hi offs x = dflt := by unfold swT; rw [if_pos h]
theorem swT_def2 {dflt lo hi : Int} {offs : Array Int} {x : Int32} (h : lo ≤ x.toInt → x.toInt ≤ hi → (offs[(x.toInt - lo).toNat]?).getD dflt = dflt) : swT dflt lo hi offs x = dflt := by
  unfold swT
  by_cases c : x.toInt < lo ∨ hi < x.toInt
  · rw [if_pos c]
  · rw [if_neg c]; exact h (by omega) (by omega)
section WPQ
variable {l : Launch} {G : va_G} {tc : Nat → ClassId} {D : Nat → Nat} {L : List LC} {EX : State → Prop} {own : String} {cc : ByteArray} {nL : Nat} {rm : Room} {wc : Cond} {pc : Nat} {lv : List (Option Value)} {st : List Value} {M M' : Mm} {Q : Nat → List (Option Value) → List Value → Mm → Prop}
theorem WP.fgt {lv' : List (Option Value)} (m : List Bool) (he : fgt m lv = lv') (k : WP l G tc D L EX own cc nL rm wc pc lv' st M Q) : WP l G tc D L EX own cc nL rm wc pc lv st M Q :=
  fun p e s m' args below meth c cells slots Z hC hQ H locs ls hH => k p e s m' args below meth c cells slots Z hC hQ H locs ls ⟨hH.1, hH.2.1, hH.2.2.1, hH.2.2.2.1, fun i v h => hH.2.2.2.2 i v (fgt_sub m lv i v (by rw [he]; exact h))⟩
theorem WP.ialdQ {a n : Nat} {i v : Int32} (hd : decode cc pc = .ok (.iaload, 1)) (hL : L[a]? = some (.inr (.inl (0, n)))) (hv : rdI M a n i = some v) (k : WP l G tc D L EX own cc nL rm wc (pc + 1) lv (.int v :: st) M Q) : WP l G tc D L EX own cc nL rm wc pc lv (.int i :: .ref a :: st) M Q := by
  obtain ⟨h1, h2⟩ := rdI_ok hv
  subst h2
  exact WP.iald hd hL h1 k
theorem WP.zaldQ {a n : Nat} {i v : Int32} (hd : decode cc pc = .ok (.baload, 1)) (hL : L[a]? = some (.inr (.inl (1, n)))) (hv : rdI M a n i = some v) (k : WP l G tc D L EX own cc nL rm wc (pc + 1) lv (.int v :: st) M Q) : WP l G tc D L EX own cc nL rm wc pc lv (.int i :: .ref a :: st) M Q := by
  obtain ⟨h1, h2⟩ := rdI_ok hv
  subst h2
  exact WP.zald hd hL h1 k
theorem WP.laldQ {a n : Nat} {i : Int32} {v : Int64} (hd : decode cc pc = .ok (.laload, 1)) (hL : L[a]? = some (.inr (.inr (.inl n)))) (hv : rdL M a n i = some v) (k : WP l G tc D L EX own cc nL rm wc (pc + 1) lv (.long v :: st) M Q) : WP l G tc D L EX own cc nL rm wc pc lv (.int i :: .ref a :: st) M Q := by
  obtain ⟨h1, h2⟩ := rdL_ok hv
  subst h2
  exact WP.lald hd hL h1 k
theorem WP.aaldQ {a r base n : Nat} {rs : List Nat} {i : Int32} (hd : decode cc pc = .ok (.aaload, 1)) (hL : L[a]? = some (.inr (.inr (.inr rs)))) (hrs : rs = List.range' base n) (hv : ckR base n i = some r) (k : WP l G tc D L EX own cc nL rm wc (pc + 1) lv (.ref r :: st) M Q) : WP l G tc D L EX own cc nL rm wc pc lv (.int i :: .ref a :: st) M Q := by
  obtain ⟨h1, h2⟩ := ckR_ok hv
  subst hrs
  have hlt : i.toNatClampNeg < n := Nat.not_le.mp fun q => h1 (Or.inr q)
  exact WP.aald hd hL (by rw [List.length_range']; exact h1) (by rw [List.getElem?_range' hlt, ← h2]; simp) k
theorem WP.iastQ {a n : Nat} {i v : Int32} (hd : decode cc pc = .ok (.iastore, 1)) (hL : L[a]? = some (.inr (.inl (0, n)))) (hv : wrI M a n i v = some M') (k : WP l G tc D L EX own cc nL rm wc (pc + 1) lv st M' Q) : WP l G tc D L EX own cc nL rm wc pc lv (.int v :: .int i :: .ref a :: st) M Q := by
  obtain ⟨h1, h2⟩ := wrI_ok hv
  subst h2
  exact WP.iast hd hL h1 k
theorem WP.zastQ {a n : Nat} {i v : Int32} (hd : decode cc pc = .ok (.bastore, 1)) (hL : L[a]? = some (.inr (.inl (1, n)))) (hv : wrZ M a n i v = some M') (k : WP l G tc D L EX own cc nL rm wc (pc + 1) lv st M' Q) : WP l G tc D L EX own cc nL rm wc pc lv (.int v :: .int i :: .ref a :: st) M Q := by
  obtain ⟨h1, h0, h2⟩ := wrZ_ok hv
  subst h2
  exact WP.zast hd hL h1 h0 k
theorem WP.lastQ {a n : Nat} {i : Int32} {v : Int64} (hd : decode cc pc = .ok (.lastore, 1)) (hL : L[a]? = some (.inr (.inr (.inl n)))) (hv : wrL M a n i v = some M') (k : WP l G tc D L EX own cc nL rm wc (pc + 1) lv st M' Q) : WP l G tc D L EX own cc nL rm wc pc lv (.long v :: .int i :: .ref a :: st) M Q := by
  obtain ⟨h1, h2⟩ := wrL_ok hv
  subst h2
  exact WP.last hd hL h1 k
theorem WP.putF {a ci index N j : Nat} {C : String} {T : u_T} {fs : List (Option Nat)} {ty0 : Nat → FieldType} {ty : FieldType} {v : Int32} (hd : decode cc pc = .ok (.putfield index, 3)) (hL : L[a]? = some (.inl (ci, fs))) (hc : vwCl[ci]? = some (C, T, N)) (hin : ∀ w ∈ u_ws C T N, w ∈ tbG) (hty : ∀ k, k < N → parseFieldDescriptor (T k).2.2.1 = some (ty0 k)) (hnm : ∀ a, a < N → ∀ b, b < N → a ≠ b → (T a).2.1 ≠ (T b).2.1) (hj : j < N) (hw : Cond.fieldLink own index (T j).1 (T j).2.1 (T j).2.2.1 ∈ tbG) (hfin : (T j).2.2.2 = false) (hdy : parseFieldDescriptor (T j).2.2.1 = some ty) (hn : narrow ty (.int v) = .int v) (hfit : fits ty (.int v) = true) (hf : fs[j]? = some none) (hv : wrF M a j v = some M') (k : WP l G tc D L EX own cc nL rm wc (pc + 3) lv st M' Q) : WP l G tc D L EX own cc nL rm wc pc lv (.int v :: .ref a :: st) M Q := by
  cases hv
  exact WP.putI hd hL hc hin hty hnm hj hw hfin hdy hn hfit hf k
theorem WP.tbl {dflt lo hi : Int} {offs : Array Int} {len : Nat} {x : Int32} {off : Int} {tgt : Nat} (hd : decode cc pc = .ok (.tableswitch dflt lo hi offs, len)) (hs : swT dflt lo hi offs x = off) (ht : (pc : Int) + off = (tgt : Int)) (k : WP l G tc D L EX own cc nL rm wc tgt lv st M Q) (hz : (offs.size : Int) = hi - lo + 1 := by decide) : WP l G tc D L EX own cc nL rm wc pc lv (.int x :: st) M Q := by
  unfold swT at hs
  by_cases c : x.toInt < lo ∨ hi < x.toInt
  · rw [if_pos c] at hs
    exact WP.tblOut hd c (by rw [hs]; exact ht) k
  · rw [if_neg c] at hs
    have hlt : (x.toInt - lo).toNat < offs.size := by omega
    refine WP.tblIn (off := off) hd (fun h => c (Or.inl h)) (fun h => c (Or.inr h)) ?_ ht k
    rw [Array.getElem?_eq_getElem hlt] at hs ⊢
    simpa using hs
section
variable {b ci N n index nL' : Nat} {T : u_T} {fs : List (Option Nat)} {y : MethodName} {host : String} {cc' : ByteArray} {ret' : Option FieldType} {rm' : Room} {st1 : List Value} {r : Int32} {rl : Int64}
theorem WP.callVI (As : List Value) (hd : decode cc pc = .ok (.invokevirtual index, 3)) (lk : LkV own index y cc' nL' ret' n) (hL : L[b]? = some (.inl (ci, fs))) (hc : vwCl[ci]? = some (y.cls, T, N)) (hn : As.length = n) (hfit : ((Value.ref b :: As).map fun v => v.category).sum ≤ nL') (hroom : rm'.cells = 0 ∧ rm'.slots = 0 ∧ rm'.frames + 1 ≤ rm.frames ∧ 8 + (nL' + 11) + rm'.locals ≤ rm.locals) (hst : (st.map fun v => v.category).sum ≤ 8) (he : As.reverse ++ .ref b :: st = st1)
    (hM : WP l G tc D L (fun _ => True) y.cls cc' nL' rm' (.code y cc' nL' ret') 0 (entL nL' (.ref b :: As)) [] M (RetQ cc' ret' (RQI r M'))) (k : WP l G tc D L EX own cc nL rm wc (pc + 3) lv (.int r :: st) M' Q) : WP l G tc D L EX own cc nL rm wc pc lv st1 M Q :=
  WP.callV As hd lk hL hc hn hfit hroom hst he hM (fun x M2 h => by obtain ⟨rfl, rfl⟩ := h; exact k)
theorem WP.callVL (As : List Value) (hd : decode cc pc = .ok (.invokevirtual index, 3)) (lk : LkV own index y cc' nL' ret' n) (hL : L[b]? = some (.inl (ci, fs))) (hc : vwCl[ci]? = some (y.cls, T, N)) (hn : As.length = n) (hfit : ((Value.ref b :: As).map fun v => v.category).sum ≤ nL') (hroom : rm'.cells = 0 ∧ rm'.slots = 0 ∧ rm'.frames + 1 ≤ rm.frames ∧ 8 + (nL' + 11) + rm'.locals ≤ rm.locals) (hst : (st.map fun v => v.category).sum ≤ 8) (he : As.reverse ++ .ref b :: st = st1)
    (hM : WP l G tc D L (fun _ => True) y.cls cc' nL' rm' (.code y cc' nL' ret') 0 (entL nL' (.ref b :: As)) [] M (RetQ cc' ret' (RQL rl M'))) (k : WP l G tc D L EX own cc nL rm wc (pc + 3) lv (.long rl :: st) M' Q) : WP l G tc D L EX own cc nL rm wc pc lv st1 M Q :=
  WP.callV As hd lk hL hc hn hfit hroom hst he hM (fun x M2 h => by obtain ⟨rfl, rfl⟩ := h; exact k)
theorem WP.callVV (As : List Value) (hd : decode cc pc = .ok (.invokevirtual index, 3)) (lk : LkV own index y cc' nL' ret' n) (hL : L[b]? = some (.inl (ci, fs))) (hc : vwCl[ci]? = some (y.cls, T, N)) (hn : As.length = n) (hfit : ((Value.ref b :: As).map fun v => v.category).sum ≤ nL') (hroom : rm'.cells = 0 ∧ rm'.slots = 0 ∧ rm'.frames + 1 ≤ rm.frames ∧ 8 + (nL' + 11) + rm'.locals ≤ rm.locals) (hst : (st.map fun v => v.category).sum ≤ 8) (he : As.reverse ++ .ref b :: st = st1)
    (hM : WP l G tc D L (fun _ => True) y.cls cc' nL' rm' (.code y cc' nL' ret') 0 (entL nL' (.ref b :: As)) [] M (RetQ cc' ret' (RQV M'))) (k : WP l G tc D L EX own cc nL rm wc (pc + 3) lv st M' Q) : WP l G tc D L EX own cc nL rm wc pc lv st1 M Q :=
  WP.callV As hd lk hL hc hn hfit hroom hst he hM (fun x M2 h => by obtain ⟨rfl, rfl⟩ := h; exact k)
theorem WP.callSI (As : List Value) (hd : decode cc pc = .ok (.invokestatic index, 3)) (lk : LkS own index y cc' nL' ret' n) (hn : As.length = n) (hfit : (As.map fun v => v.category).sum ≤ nL') (hroom : rm'.cells = 0 ∧ rm'.slots = 0 ∧ rm'.frames + 1 ≤ rm.frames ∧ 8 + (nL' + 11) + rm'.locals ≤ rm.locals) (hst : (st.map fun v => v.category).sum ≤ 8) (he : As.reverse ++ st = st1)
    (hM : WP l G tc D L (fun _ => True) y.cls cc' nL' rm' (.code y cc' nL' ret') 0 (entL nL' As) [] M (RetQ cc' ret' (RQI r M'))) (k : WP l G tc D L EX own cc nL rm wc (pc + 3) lv (.int r :: st) M' Q) : WP l G tc D L EX own cc nL rm wc pc lv st1 M Q :=
  WP.callS As hd lk hn hfit hroom hst he hM (fun x M2 h => by obtain ⟨rfl, rfl⟩ := h; exact k)
theorem WP.callSL (As : List Value) (hd : decode cc pc = .ok (.invokestatic index, 3)) (lk : LkS own index y cc' nL' ret' n) (hn : As.length = n) (hfit : (As.map fun v => v.category).sum ≤ nL') (hroom : rm'.cells = 0 ∧ rm'.slots = 0 ∧ rm'.frames + 1 ≤ rm.frames ∧ 8 + (nL' + 11) + rm'.locals ≤ rm.locals) (hst : (st.map fun v => v.category).sum ≤ 8) (he : As.reverse ++ st = st1)
    (hM : WP l G tc D L (fun _ => True) y.cls cc' nL' rm' (.code y cc' nL' ret') 0 (entL nL' As) [] M (RetQ cc' ret' (RQL rl M'))) (k : WP l G tc D L EX own cc nL rm wc (pc + 3) lv (.long rl :: st) M' Q) : WP l G tc D L EX own cc nL rm wc pc lv st1 M Q :=
  WP.callS As hd lk hn hfit hroom hst he hM (fun x M2 h => by obtain ⟨rfl, rfl⟩ := h; exact k)
theorem WP.callSV (As : List Value) (hd : decode cc pc = .ok (.invokestatic index, 3)) (lk : LkS own index y cc' nL' ret' n) (hn : As.length = n) (hfit : (As.map fun v => v.category).sum ≤ nL') (hroom : rm'.cells = 0 ∧ rm'.slots = 0 ∧ rm'.frames + 1 ≤ rm.frames ∧ 8 + (nL' + 11) + rm'.locals ≤ rm.locals) (hst : (st.map fun v => v.category).sum ≤ 8) (he : As.reverse ++ st = st1)
    (hM : WP l G tc D L (fun _ => True) y.cls cc' nL' rm' (.code y cc' nL' ret') 0 (entL nL' As) [] M (RetQ cc' ret' (RQV M'))) (k : WP l G tc D L EX own cc nL rm wc (pc + 3) lv st M' Q) : WP l G tc D L EX own cc nL rm wc pc lv st1 M Q :=
  WP.callS As hd lk hn hfit hroom hst he hM (fun x M2 h => by obtain ⟨rfl, rfl⟩ := h; exact k)
theorem WP.callNI (As : List Value) (hd : decode cc pc = .ok (.invokestatic index, 3)) (lk : LkN own index y host cc' nL' ret' n) (hn : As.length = n) (hfit : (As.map fun v => v.category).sum ≤ nL') (hroom : rm'.cells = 0 ∧ rm'.slots = 0 ∧ rm'.frames + 1 ≤ rm.frames ∧ 8 + (nL' + 11) + rm'.locals ≤ rm.locals) (hst : (st.map fun v => v.category).sum ≤ 8) (he : As.reverse ++ st = st1)
    (hM : WP l G tc D L (fun _ => True) y.cls cc' nL' rm' (.code y cc' nL' ret') 0 (entL nL' As) [] M (RetQ cc' ret' (RQI r M'))) (k : WP l G tc D L EX own cc nL rm wc (pc + 3) lv (.int r :: st) M' Q) : WP l G tc D L EX own cc nL rm wc pc lv st1 M Q :=
  WP.callN As hd lk hn hfit hroom hst he hM (fun x M2 h => by obtain ⟨rfl, rfl⟩ := h; exact k)
end
end WPQ
