/-! ===== new int[v][w], out of the instruction's own meaning: no row of JvmDerived/Shelf42 is used ===== -/
def mzO (cO : ClassId) (N a i : Nat) : Cell := arrV cO N (fun j => va_rf (if j < i then some (a + 1 + j) else none))
def mzI (cI : ClassId) (M : Nat) : Cell := arrV cI M (fun _ => .int 0)
/-- the state when i rows lie behind the outer array -/
def mzF (cO cI : ClassId) (N M : Nat) (U : State) : Nat → State
  | 0 => U.pushCell (mzO cO N U.heap.size 0)
  | i + 1 => ((mzF cO cI N M U i).pushCell (mzI cI M)).setCell U.heap.size (mzO cO N U.heap.size (i + 1))
theorem mzO_new (cO : ClassId) (N a : Nat) : ({ cls := cO, slots := Array.replicate N .null } : Cell) = mzO cO N a 0 := by
  refine (arrV_new cO N .null).trans (congrArg (arrV cO N) (funext fun j => ?_))
  simp [va_rf]
theorem mzI_new (cI : ClassId) (M : Nat) : ({ cls := cI, slots := Array.replicate M (.int 0) } : Cell) = mzI cI M := arrV_new cI M (.int 0)
theorem mzO_next (cO : ClassId) (N a i : Nat) : (mzO cO N a i).setSlot i (.ref (a + 1 + i)) = mzO cO N a (i + 1) := by
  refine (arrV_store cO N i _ _).trans (congrArg (arrV cO N) (funext fun j => ?_))
  unfold updV
  by_cases e : j = i
  · rw [if_pos e, if_pos (by omega), e]; rfl
  · rw [if_neg e]
    refine congrArg va_rf ?_
    by_cases h : j < i
    · rw [if_pos h, if_pos (by omega)]
    · rw [if_neg h, if_neg (by omega)]
theorem mzO_size (cO : ClassId) (N a i : Nat) : (mzO cO N a i).slots.size = N := arrV_size _ _ _
theorem mzI_size (cI : ClassId) (M : Nat) : (mzI cI M).slots.size = M := arrV_size _ _ _
theorem mzF_top (cO cI : ClassId) (N M : Nat) (U : State) (f : JFrame) : ∀ i, mzF cO cI N M (U.setTop f) i = (mzF cO cI N M U i).setTop f
  | 0 => rfl
  | i + 1 => by
    show ((mzF cO cI N M (U.setTop f) i).pushCell _).setCell _ _ = _
    rw [mzF_top cO cI N M U f i]
    rfl
/-- what lies where, after i rows -/
theorem mzF_at (cO cI : ClassId) (N M : Nat) (U : State) : ∀ i, (mzF cO cI N M U i).heap.size = U.heap.size + 1 + i ∧ (mzF cO cI N M U i).heap[U.heap.size]? = some (mzO cO N U.heap.size i) ∧ (mzF cO cI N M U i).vm = U.vm ∧ (mzF cO cI N M U i).slotsUsed = U.slotsUsed + N + i * M ∧ (∀ x, x < U.heap.size → (mzF cO cI N M U i).heap[x]? = U.heap[x]?) ∧ (∀ j, j < i → (mzF cO cI N M U i).heap[U.heap.size + 1 + j]? = some (mzI cI M))
  | 0 => ⟨Array.size_push _, State.heap_pushCell_size _ _, rfl, by show U.slotsUsed + _ = _; rw [mzO_size]; omega, fun x hx => State.heap_pushCell_of_lt _ _ hx, fun j hj => absurd hj (Nat.not_lt_zero j)⟩
  | i + 1 => by
    obtain ⟨z, o, v, u, old, row⟩ := mzF_at cO cI N M U i
    generalize hV : mzF cO cI N M U i = V at z o v u old row
    have hF : mzF cO cI N M U (i + 1) = (V.pushCell (mzI cI M)).setCell U.heap.size (mzO cO N U.heap.size (i + 1)) := by rw [← hV]; rfl
    rw [hF]
    have keep : ∀ x, x < V.heap.size → x ≠ U.heap.size → ((V.pushCell (mzI cI M)).setCell U.heap.size (mzO cO N U.heap.size (i + 1))).heap[x]? = V.heap[x]? := fun x hx hne => by
      rw [State.heap_setCell_other (Ne.symm hne), State.heap_pushCell_of_lt _ _ hx]
    refine ⟨?_, ?_, v, ?_, fun x hx => ?_, fun j hj => ?_⟩
    · show ((V.heap.push _).setIfInBounds _ _).size = _
      rw [Array.size_setIfInBounds, Array.size_push, z]; omega
    · exact State.heap_setCell_self (c := mzO cO N U.heap.size i) (by rw [State.heap_pushCell_of_lt _ _ (show U.heap.size < V.heap.size by rw [z]; omega)]; exact o)
    · show V.slotsUsed + (mzI cI M).slots.size = _
      rw [mzI_size, u, Nat.succ_mul]; omega
    · rw [keep x (by rw [z]; omega) (Nat.ne_of_lt hx)]; exact old x hx
    · by_cases h : j < i
      · rw [keep _ (by rw [z]; omega) (by omega)]; exact row j h
      · have e : U.heap.size + 1 + j = V.heap.size := by rw [z]; omega
        rw [State.heap_setCell_other (show U.heap.size ≠ U.heap.size + 1 + j by omega), e]
        exact State.heap_pushCell_size _ _
section MZW
variable {l : Launch} {E : CtlPost} {e : Env} {d : Bool} {acts : List Action} {U : State}
theorem mz_len (hl : l.admits e) {n : Nat} (h : n ≤ 536870912) : ¬ n > e.platform.arrayLengthLimit := by rw [Launch.admits_arrayLengthLimit hl]; omega
theorem mz_byt (hl : l.admits e) {n : Nat} (h : n ≤ 536870912) : ¬ n > e.platform.maxHeapBytes := by rw [Launch.admits_maxHeapBytes hl]; omega
theorem mz_row {cI cX : ClassId} {k : Class} {w : Int32} (hl : l.admits e) (hk : U.vm.classes[cI]? = some k) (hkd : k.kind = .array cX .int) (hw : ¬ w < 0) (hb : w.toNatClampNeg * 4 ≤ 536870912) (h1 : U.heap.size < e.platform.maxCells) (h2 : U.slotsUsed + w.toNatClampNeg ≤ e.platform.maxSlots) {Q : Addr → Pre} (hq : ∀ acts', Q U.heap.size d acts' (U.pushCell (mzI cI w.toNatClampNeg))) : wp (multianewarray.make cI [w]) Q E e d acts U := by
  rw [multianewarray.make]
  simp only [wp_bind', W.ite, hw, if_false, wp_pure', W.theClass, hk, hkd, Option.some.injEq, exists_eq_left']
  refine W.newArray_of hk hkd (mz_len hl (by omega)) (mz_byt hl hb) h1 h2 rfl (fun acts' => ?_)
  rw [show defaultValue .int = .int 0 from rfl, mzI_new]
  exact hq acts'
/-- the rows from the i-th on -/
theorem mz_rows {cO cI cX : ClassId} {kO kI : Class} {w : Int32} {N : Nat} (hl : l.admits e) (hO : U.vm.classes[cO]? = some kO) (hOd : kO.kind = .array cI (.array .int)) (hI : U.vm.classes[cI]? = some kI) (hId : kI.kind = .array cX .int) (hw : ¬ w < 0) (hb2 : w.toNatClampNeg * 4 ≤ 536870912) (hc : U.heap.size + (1 + N) ≤ e.platform.maxCells) (hs : U.slotsUsed + (N + N * w.toNatClampNeg) ≤ e.platform.maxSlots) {Q : PUnit → Pre} (hq : ∀ d' acts', Q PUnit.unit d' acts' (mzF cO cI N w.toNatClampNeg U N)) : ∀ (n i : Nat) (d : Bool) (acts : List Action), i + n = N →
    wp (forIn (List.range' i n) PUnit.unit fun i _ => do
      let r ← multianewarray.make cI [w]
      writeLoc U.heap.size i (.ref r)
      Pure.pure (ForInStep.yield PUnit.unit)) Q E e d acts (mzF cO cI N w.toNatClampNeg U i)
  | 0, i, d, acts, h => by
    obtain rfl : i = N := h
    simp only [List.range'_zero, List.forIn_nil, wp_pure']
    exact hq d acts
  | n + 1, i, d, acts, h => by
    obtain ⟨z, o, v, u, -, -⟩ := mzF_at cO cI N w.toNatClampNeg U i
    have hm : (i + 1) * w.toNatClampNeg ≤ N * w.toNatClampNeg := Nat.mul_le_mul_right _ (by omega)
    rw [Nat.succ_mul] at hm
    simp only [List.range'_succ, List.forIn_cons, wp_bind']
    refine mz_row hl (by rw [v]; exact hI) hId hw hb2 (by rw [z]; omega) (by rw [u]; omega) (fun acts1 => ?_)
    simp only [wp_bind', W.writeLoc, wp_pure']
    refine ⟨mzO cO N U.heap.size i, ?_, ?_, ?_, ?_, ?_⟩
    · rw [State.heap_pushCell_of_lt _ _ (show U.heap.size < _ by rw [z]; omega)]; exact o
    · exact fun h => by cases h
    · rw [mzO_size]; omega
    · show State.fitsSlot _ cO .none _ _ = true
      simp [State.fitsSlot, State.slotType?, v, hO, hOd, fits]
    · rw [z, mzO_next]
      exact mz_rows hl hO hOd hI hId hw hb2 hc hs hq n (i + 1) _ _ (by omega)
theorem mz_make {cO cI cX : ClassId} {kO kI : Class} {v w : Int32} (hl : l.admits e) (hO : U.vm.classes[cO]? = some kO) (hOd : kO.kind = .array cI (.array .int)) (hI : U.vm.classes[cI]? = some kI) (hId : kI.kind = .array cX .int) (hv : ¬ v < 0) (hw : ¬ w < 0) (hb1 : v.toNatClampNeg * 4 ≤ 536870912) (hb2 : w.toNatClampNeg * 4 ≤ 536870912) (hc : U.heap.size + (1 + v.toNatClampNeg) ≤ e.platform.maxCells) (hs : U.slotsUsed + (v.toNatClampNeg + v.toNatClampNeg * w.toNatClampNeg) ≤ e.platform.maxSlots) {Q : Addr → Pre} (hq : ∀ d' acts', Q U.heap.size d' acts' (mzF cO cI v.toNatClampNeg w.toNatClampNeg U v.toNatClampNeg)) : wp (multianewarray.make cO [v, w]) Q E e d acts U := by
  have hno : [w].find? (fun x => decide (x < 0)) = none := by simp [hw]
  rw [multianewarray.make]
  simp only [wp_bind', W.ite, hv, if_false, wp_pure', W.theClass, hO, hOd, Option.some.injEq, exists_eq_left']
  generalize hN : v.toNatClampNeg = N at hb1 hc hs hq ⊢
  refine W.newArray_of hO hOd (mz_len hl (by omega)) (mz_byt hl hb1) (by omega) (by omega) rfl (fun acts1 => ?_)
  rw [mzO_new cO N U.heap.size]
  simp only [hno]
  rw [ite_self, wp_bind', Std.Legacy.Range.forIn_eq_forIn_range', show ([:N] : Std.Legacy.Range).size = N by simp [Std.Legacy.Range.size]]
  refine mz_rows hl hO hOd hI hId hw hb2 hc hs (fun d' acts' => ?_) N 0 _ _ (Nat.zero_add N)
  rw [wp_pure']
  exact hq d' acts'
end MZW
section MZS
variable {p : Program} {l : Launch} {e : Env} {R : Room} {s : State} {m : MethodId} {args : Array Value} {below : List Frame} {meth : Method} {c : Code} {T : State} {H : Heap} {locs : List Loc} {cells slots : Nat} {Q : State → Prop}
theorem mz_stand (X : Stand p l e R s m args below meth c T locs cells slots) (cO cI : ClassId) (N M : Nat) : ∀ i, Stand p l e R s m args below meth c (mzF cO cI N M T i) locs (cells + 1 + i) (slots + N + i * M)
  | 0 => by
    have h := X.pushed (mzO cO N T.heap.size 0)
    rw [mzO_size] at h
    rw [Nat.zero_mul]
    exact h
  | i + 1 => by
    obtain ⟨z, o, -, -, -, -⟩ := mzF_at cO cI N M T i
    have h := (mz_stand X cO cI N M i).pushed (mzI cI M)
    have hcell : ((mzF cO cI N M T i).pushCell (mzI cI M)).heap[T.heap.size]? = some (mzO cO N T.heap.size i) := by
      rw [State.heap_pushCell_of_lt _ _ (show T.heap.size < _ by rw [z]; omega)]; exact o
    have h2 := (h.stored hcell i (.ref (T.heap.size + 1 + i))).dropFresh (fun x hx => by
      rw [List.mem_singleton.mp hx]
      exact X.heapGrown)
    rw [mzO_next, mzI_size] at h2
    have e1 : slots + N + (i + 1) * M = slots + N + i * M + M := by rw [Nat.succ_mul]; omega
    rw [e1]
    exact h2
theorem W.mna2 {cc : ByteArray} (hexec : p.tables.exec = Jvm.exec) (hb : c.code = cc) {own : String} {index : Nat} (hown : s.vm.findClass own = some m.cls) (hlink : (Cond.classLink own index ("[" ++ (FieldType.array .int).toString)).before args s = true) (hover : (Cond.arrayOver (.array .int)).before args s = true) (harr : (Cond.arrayClass .int).before args s = true)
    {cO cI : ClassId} (fO : s.vm.findClass ("[" ++ (FieldType.array .int).toString) = some cO) (fI : s.vm.findClass (FieldType.array .int).toString = some cI) {pc : Nat} {ls : Array Slot} {st : List Value} {v w : Int32} {N M : Nat} (hd : decode cc pc = .ok (.multianewarray index 2, 4)) (hv : ¬ v < 0) (hw : ¬ w < 0) (hN : v.toNatClampNeg = N) (hM : w.toNatClampNeg = M) (hb1 : N * 4 ≤ 536870912) (hb2 : M * 4 ≤ 536870912) (hc : cells + (1 + N) ≤ R.cells) (hs : slots + (N + N * M) ≤ R.slots)
    (k : ∀ H1 : Heap, H1.size = H.size + 1 + N → H1[H.size]? = some (mzO cO N H.size N) → (∀ x, x < H.size → H1[x]? = H[x]?) → (∀ j, j < N → H1[H.size + 1 + j]? = some (mzI cI M)) → W p l e R s m args below meth c H1 locs (cells + 1 + N) (slots + N + N * M) Q (F0 m (pc + 4) ls (.ref H.size :: st))) : W p l e R s m args below meth c H locs cells slots Q (F0 m pc ls (.int w :: .int v :: st)) := by
  subst hb
  subst hN
  subst hM
  intro T hT X
  subst hT
  obtain ⟨cI', cO', kO, q1, -, q2, q3, q4⟩ := arrayOverA_spec hover
  cases Option.some.inj (fI.symm.trans q1)
  cases Option.some.inj (fO.symm.trans q4)
  obtain ⟨cI', kI, cX, r1, r2, r3⟩ := Cond.arrayClass_spec harr
  cases Option.some.inj (fI.symm.trans r1)
  obtain ⟨cL, n1, n2⟩ := Cond.classLink_spec hown hlink e.platform (by rw [X.admits.platform])
  cases Option.some.inj (fO.symm.trans n1)
  obtain ⟨g1, g2, g3⟩ := State.classEntry (e := e) X.warmed n2
  generalize T.vm.noted m.cls index (.cls cO) = vm1 at g1 g2 g3
  obtain ⟨kO1, o1, o2⟩ := g2.alike.2.2 _ _ q2
  obtain ⟨kI1, i1, i2⟩ := g2.alike.2.2 _ _ r2
  have X1 := X.noted g2
  have XF := mz_stand X1 cO cI v.toNatClampNeg w.toNatClampNeg v.toNatClampNeg
  obtain ⟨a1, a2, -, -, a3, a4⟩ := mzF_at cO cI v.toNatClampNeg w.toNatClampNeg (T.setVm vm1) v.toNatClampNeg
  obtain ⟨t, b1, b2⟩ := k _ a1 a2 a3 a4 _ rfl XF
  refine ⟨t, ?_, b2⟩
  obtain ⟨m1, m2⟩ := X.roomAbove hc hs
  jvm_step X.here [hexec, hd]
  have htop : (T.setVm vm1).topJava?.isSome := X1.here.top
  simp only [multianewarray.sem, wp_bind', W.resolveClassAt_links (State.method?_setTop (F0 m pc ls (.int w :: .int v :: st)) X.here.top) g1]
  rw [W.popN, if_neg (show ¬ (2 : Nat) = 0 by decide)]
  refine ⟨F0 m pc ls (.int w :: .int v :: st), State.topJava?_setTop' (s := T.setVm vm1) _ htop, [.int v, .int w], st, rfl, rfl, ?_⟩
  simp only [List.mapM_cons, List.mapM_nil, wp_bind', wp_pure']
  refine mz_make (U := (((T.setTop (F0 m pc ls (.int w :: .int v :: st))).setVm vm1).setTop (F0 m pc ls st))) X.admits (kO := kO1) (kI := kI1) (cI := cI) (cX := cX) o1 (by rw [o2]; exact q3) i1 (by rw [i2]; exact r3) hv hw hb1 hb2 (by exact m1) (by exact m2) (fun d' acts' => ?_)
  have hU : ((T.setTop (F0 m pc ls (.int w :: .int v :: st))).setVm vm1).setTop (F0 m pc ls st) = (T.setVm vm1).setTop (F0 m pc ls st) := State.setTop_setTop (T.setVm vm1) _ _
  rw [hU, mzF_top]
  have htF := XF.here.top
  generalize mzF cO cI v.toNatClampNeg w.toNatClampNeg (T.setVm vm1) v.toNatClampNeg = F at b1 htF ⊢
  simp only [wp_bind', W.mark, W.pushRef, State.topJava?_setTop' _ htF, Option.some.injEq, exists_eq_left', State.setTop_setTop]
  intro acts1
  simp [jvm, htF]
  exact b1
end MZS
