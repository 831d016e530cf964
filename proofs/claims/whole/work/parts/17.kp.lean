/-! ===== constructors: cells that come one behind the other, from an address B on ===== -/
def aoV (U : State) : Prop := (Cond.arrayOver (.array .int)).before #[] U = true
theorem aoV_moved {s U : State} (hvm : s.vm.Alike U.vm) (h : aoV s) : aoV U := by
  have h2 : (Cond.arrayOver (.array .int)).before #[] (s.setVm U.vm) = true := by rw [Cond.arrayOver_setVmC hvm]; exact h
  exact h2
def wB : Nat → List va_E → va_W
  | _, [] => []
  | B, e :: t => (B, e) :: wB (B + 1) t
theorem wB_get : ∀ (es : List va_E) (B i : Nat), (wB B es)[i]? = (es[i]?).map (fun e => (B + i, e))
  | [], B, i => by simp [wB]
  | e :: t, B, 0 => by simp [wB]
  | e :: t, B, i + 1 => by
    have h := wB_get t (B + 1) i
    simp only [wB, List.getElem?_cons_succ, h]
    rw [show B + 1 + i = B + (i + 1) by omega]
theorem wB_at {es : List va_E} {B i : Nat} {e : va_E} (h : es[i]? = some e) : (wB B es)[i]? = some (B + i, e) := by rw [wB_get, h]; rfl
theorem wB_inv {es : List va_E} {B k : Nat} {q : Nat × va_E} (h : (wB B es)[k]? = some q) : q.1 = B + k ∧ k < es.length ∧ es[k]? = some q.2 := by
  rw [wB_get] at h
  cases hc : es[k]? with
  | none => rw [hc] at h; cases h
  | some e =>
    rw [hc] at h
    simp at h
    subst h
    exact ⟨rfl, (List.getElem?_eq_some_iff.mp hc).1, rfl⟩
theorem wB_app : ∀ (a b : List va_E) (B : Nat), wB B (a ++ b) = wB B a ++ wB (B + a.length) b
  | [], b, B => by simp [wB]
  | e :: t, b, B => by
    simp only [List.cons_append, wB, List.length_cons]
    rw [wB_app t b (B + 1), show B + 1 + t.length = B + (t.length + 1) by omega]
theorem wB_set {es : List va_E} {B k : Nat} {e : va_E} : (wB B es).set k (B + k, e) = wB B (es.set k e) := by
  apply List.ext_getElem?
  intro i
  have hl : (wB B es).length = es.length := by
    have : ∀ (es : List va_E) (B : Nat), (wB B es).length = es.length := by
      intro es
      induction es with
      | nil => intro B; rfl
      | cons e t ih => intro B; simp [wB, ih]
    exact this es B
  rw [List.getElem?_set, wB_get, wB_get, List.getElem?_set, hl]
  by_cases hi : k = i
  · subst hi
    by_cases h : k < es.length <;> simp [h]
  · simp [hi]
theorem wB_D {es : List va_E} {B nT : Nat} (h : es.length ≤ nT) : va_D (fun q => B ≤ q ∧ q < B + nT) (wB B es) := by
  refine ⟨fun i j x y hi hj hxy => ?_, fun k q hk => ?_⟩
  · have h1 := (wB_inv hi).1
    have h2 := (wB_inv hj).1
    omega
  · have h1 := wB_inv hk
    omega
def CxK (G : va_G) (tc : Nat → ClassId) (B nT : Nat) (ini : Bool) (own : String) (cc : ByteArray) (nL : Nat) (rm : Room) (wc : Cond) (p : Program) (s : State) (m : MethodId) (args : Array Value) (meth : Method) (c : Code) : Prop :=
  p.tables.exec = Jvm.exec ∧ c.code = cc ∧ c.maxLocals = nL ∧ s.vm.findClass own = some m.cls ∧ (∀ w ∈ wc :: tbG, w.before args s = true) ∧ va_K G vwCl (tysV tc) s ∧ nwV s ∧ aoV s ∧ (ini = true → meth.name = "<init>") ∧ B ≤ s.heap.size
def HxK (G : va_G) (tc : Nat → ClassId) (B nT nL : Nat) (s : State) (lv : List (Option Value)) (es : List va_E) (cells : Nat) (H : Heap) (locs : List Loc) (ls : Array Slot) : Prop :=
  va_P G vwCl (wB B es) H ∧ H.size = B + es.length ∧ s.heap.size + cells = B + es.length ∧ es.length ≤ nT ∧ va_S (fun q => B ≤ q ∧ q < B + nT) s.heap H locs ∧ lvH (fun x => x) ls nL lv
def KP (l : Launch) (G : va_G) (tc : Nat → ClassId) (B nT : Nat) (ini : Bool) (own : String) (cc : ByteArray) (nL : Nat) (rm : Room) (wc : Cond) (pc : Nat) (lv : List (Option Value)) (st : List Value) (es : List va_E) (cells slots : Nat) (Q : Nat → List (Option Value) → List Value → List va_E → Nat → Nat → Prop) : Prop :=
  ∀ (p : Program) (e : Env) (s : State) (m : MethodId) (args : Array Value) (below : List Frame) (meth : Method) (c : Code) (Z : State → Prop), CxK G tc B nT ini own cc nL rm wc p s m args meth c →
    (∀ (pc' : Nat) (lv' : List (Option Value)) (st' : List Value) (es' : List va_E) (cells' slots' : Nat) (H' : Heap) (locs' : List Loc) (ls' : Array Slot), Q pc' lv' st' es' cells' slots' → HxK G tc B nT nL s lv' es' cells' H' locs' ls' → W p l e rm s m args below meth c H' locs' cells' slots' Z (F0 m pc' ls' st')) →
    ∀ (H : Heap) (locs : List Loc) (ls : Array Slot), HxK G tc B nT nL s lv es cells H locs ls → W p l e rm s m args below meth c H locs cells slots Z (F0 m pc ls st)
theorem W.szle {p : Program} {l : Launch} {e : Env} {R : Room} {s : State} {m : MethodId} {args : Array Value} {below : List Frame} {meth : Method} {c : Code} {H : Heap} {locs : List Loc} {cells slots : Nat} {Q : State → Prop} {g : JFrame} (k : H.size ≤ s.heap.size + cells → W p l e R s m args below meth c H locs cells slots Q g) : W p l e R s m args below meth c H locs cells slots Q g :=
  fun T hT X => k (by rw [← hT]; exact X.heapSize) T hT X
theorem lvH_idst1 {ls' : Array Slot} {nL i : Nat} {lv : List (Option Value)} {v : Value} (hn : noLg lv i = true) (h : lv_has ls' nL ((i, v) :: (tgV (fun x => x) 0 lv).filter (fun q => !(q.1 == i) && !(q.1 + 1 == i && q.2.category == 2)))) : lvH (fun x => x) ls' nL (lv.set i (some v)) := by
  refine lvH_st1 hn ?_
  have e : cv (fun x => x) v = v := by cases v <;> rfl
  rw [e]
  exact h
section KPR
variable {l : Launch} {G : va_G} {tc : Nat → ClassId} {B nT : Nat} {ini : Bool} {own : String} {cc : ByteArray} {nL : Nat} {rm : Room} {wc : Cond} {pc : Nat} {lv : List (Option Value)} {st : List Value} {es : List va_E} {cells slots : Nat} {Q : Nat → List (Option Value) → List Value → List va_E → Nat → Nat → Prop}
theorem KP.done (h : Q pc lv st es cells slots) : KP l G tc B nT ini own cc nL rm wc pc lv st es cells slots Q :=
  fun p e s m args below meth c Z hC hQ H locs ls hH => hQ pc lv st es cells slots H locs ls h hH
theorem KP.iconst {n : Int} {v : Int32} (hd : decode cc pc = .ok (.iconst n, 1)) (hv : Int32.ofInt n = v) (k : KP l G tc B nT ini own cc nL rm wc (pc + 1) lv (.int v :: st) es cells slots Q) : KP l G tc B nT ini own cc nL rm wc pc lv st es cells slots Q :=
  fun p e s m args below meth c Z hC hQ H locs ls hH => lv_iconst hC.1 hC.2.1 hd hv (k p e s m args below meth c Z hC hQ H locs ls hH)
theorem KP.bipush {n : Int} {v : Int32} (hd : decode cc pc = .ok (.bipush n, 2)) (hv : (Int8.ofInt n).toInt32 = v) (k : KP l G tc B nT ini own cc nL rm wc (pc + 2) lv (.int v :: st) es cells slots Q) : KP l G tc B nT ini own cc nL rm wc pc lv st es cells slots Q :=
  fun p e s m args below meth c Z hC hQ H locs ls hH => lv_bipush hC.1 hC.2.1 hd hv (k p e s m args below meth c Z hC hQ H locs ls hH)
theorem KP.ldc {index : Nat} {v : Int32} (hd : decode cc pc = .ok (.ldc index, 2)) (hw : Cond.constant own index v ∈ tbG) (k : KP l G tc B nT ini own cc nL rm wc (pc + 2) lv (.int v :: st) es cells slots Q) : KP l G tc B nT ini own cc nL rm wc pc lv st es cells slots Q :=
  fun p e s m args below meth c Z hC hQ H locs ls hH => lv_ldc hC.1 hC.2.1 hC.2.2.2.1 (hC.2.2.2.2.1 _ (List.mem_cons_of_mem _ hw)) hd (k p e s m args below meth c Z hC hQ H locs ls hH)
theorem KP.aload_n {n : Fin 4} {i x : Nat} (hd : decode cc pc = .ok (.aload_n n, 1)) (hi : (n : Nat) = i) (hl : lv[i]? = some (some (.ref x))) (k : KP l G tc B nT ini own cc nL rm wc (pc + 1) lv (.ref x :: st) es cells slots Q) : KP l G tc B nT ini own cc nL rm wc pc lv st es cells slots Q :=
  fun p e s m args below meth c Z hC hQ H locs ls hH => lv_aload_n hC.1 hC.2.1 hd hi (hH.2.2.2.2.2.2.2 i (.ref x) hl) (k p e s m args below meth c Z hC hQ H locs ls hH)
theorem KP.iload_n {n : Fin 4} {i : Nat} {x : Int32} (hd : decode cc pc = .ok (.iload_n n, 1)) (hi : (n : Nat) = i) (hl : lv[i]? = some (some (.int x))) (k : KP l G tc B nT ini own cc nL rm wc (pc + 1) lv (.int x :: st) es cells slots Q) : KP l G tc B nT ini own cc nL rm wc pc lv st es cells slots Q :=
  fun p e s m args below meth c Z hC hQ H locs ls hH => lv_iload_n hC.1 hC.2.1 hd hi (hH.2.2.2.2.2.2.2 i (.int x) hl) (k p e s m args below meth c Z hC hQ H locs ls hH)
theorem KP.istore_n {n : Fin 4} {i : Nat} {x : Int32} {lv' : List (Option Value)} (hd : decode cc pc = .ok (.istore_n n, 1)) (hi : (n : Nat) = i) (hn : i < nL) (hg : noLg lv i = true) (he : lv.set i (some (.int x)) = lv') (k : KP l G tc B nT ini own cc nL rm wc (pc + 1) lv' st es cells slots Q) : KP l G tc B nT ini own cc nL rm wc pc lv (.int x :: st) es cells slots Q :=
  fun p e s m args below meth c Z hC hQ H locs ls hH => lv_istore_n hC.1 hC.2.1 hd hi (lvH_has hH.2.2.2.2.2) hn rfl (fun ls' hl' => k p e s m args below meth c Z hC hQ H locs ls' ⟨hH.1, hH.2.1, hH.2.2.1, hH.2.2.2.1, hH.2.2.2.2.1, he ▸ lvH_idst1 hg hl'⟩)
theorem KP.astore_n {n : Fin 4} {i x : Nat} {lv' : List (Option Value)} (hd : decode cc pc = .ok (.astore_n n, 1)) (hi : (n : Nat) = i) (hn : i < nL) (hg : noLg lv i = true) (he : lv.set i (some (.ref x)) = lv') (k : KP l G tc B nT ini own cc nL rm wc (pc + 1) lv' st es cells slots Q) : KP l G tc B nT ini own cc nL rm wc pc lv (.ref x :: st) es cells slots Q :=
  fun p e s m args below meth c Z hC hQ H locs ls hH => lv_astore_n hC.1 hC.2.1 hd hi (lvH_has hH.2.2.2.2.2) hn rfl (fun ls' hl' => k p e s m args below meth c Z hC hQ H locs ls' ⟨hH.1, hH.2.1, hH.2.2.1, hH.2.2.2.1, hH.2.2.2.2.1, he ▸ lvH_idst1 hg hl'⟩)
theorem KP.iinc {i : Nat} {n : Int} {x v : Int32} {lv' : List (Option Value)} (hd : decode cc pc = .ok (.iinc i n, 3)) (hl : lv[i]? = some (some (.int x))) (hv : x + Int32.ofInt n = v) (hn : i < nL) (hg : noLg lv i = true) (he : lv.set i (some (.int v)) = lv') (k : KP l G tc B nT ini own cc nL rm wc (pc + 3) lv' st es cells slots Q) : KP l G tc B nT ini own cc nL rm wc pc lv st es cells slots Q := by
  intro p e s m args below meth c Z hC hQ H locs ls hH
  obtain ⟨j, hj⟩ := List.getElem?_of_mem ((tgV_in (D := fun x => x) lv 0 (i, .int x)).mpr ⟨i, .int x, hl, by simp [cv]⟩)
  exact lv_iinc hC.1 hC.2.1 hd (lvH_has hH.2.2.2.2.2) hj hv hn rfl (fun ls' hl' => k p e s m args below meth c Z hC hQ H locs ls' ⟨hH.1, hH.2.1, hH.2.2.1, hH.2.2.2.1, hH.2.2.2.2.1, he ▸ lvH_idst1 hg hl'⟩)
theorem KP.goto {off : Int} {tgt : Nat} (hd : decode cc pc = .ok (.goto off, 3)) (ht : (pc : Int) + off = (tgt : Int)) (k : KP l G tc B nT ini own cc nL rm wc tgt lv st es cells slots Q) : KP l G tc B nT ini own cc nL rm wc pc lv st es cells slots Q :=
  fun p e s m args below meth c Z hC hQ H locs ls hH => lv_goto hC.1 hC.2.1 hd ht (k p e s m args below meth c Z hC hQ H locs ls hH)
theorem KP.geT {x y : Int32} {off : Int} {tgt : Nat} (hd : decode cc pc = .ok (.if_icmp .ge off, 3)) (ht : (pc : Int) + off = (tgt : Int)) (hc : y ≤ x) (k : KP l G tc B nT ini own cc nL rm wc tgt lv st es cells slots Q) : KP l G tc B nT ini own cc nL rm wc pc lv (.int y :: .int x :: st) es cells slots Q :=
  fun p e s m args below meth c Z hC hQ H locs ls hH => lv_icmp_ge hC.1 hC.2.1 hd ht (fun _ => k p e s m args below meth c Z hC hQ H locs ls hH) (fun h => absurd hc h)
theorem KP.geF {x y : Int32} {off : Int} {tgt : Nat} (hd : decode cc pc = .ok (.if_icmp .ge off, 3)) (ht : (pc : Int) + off = (tgt : Int)) (hc : ¬ y ≤ x) (k : KP l G tc B nT ini own cc nL rm wc (pc + 3) lv st es cells slots Q) : KP l G tc B nT ini own cc nL rm wc pc lv (.int y :: .int x :: st) es cells slots Q :=
  fun p e s m args below meth c Z hC hQ H locs ls hH => lv_icmp_ge hC.1 hC.2.1 hd ht (fun h => absurd h hc) (fun _ => k p e s m args below meth c Z hC hQ H locs ls hH)
theorem KP.dup {v : Value} (hd : decode cc pc = .ok (.dup, 1)) (hv : v.category = 1) (k : KP l G tc B nT ini own cc nL rm wc (pc + 1) lv (v :: v :: st) es cells slots Q) : KP l G tc B nT ini own cc nL rm wc pc lv (v :: st) es cells slots Q :=
  fun p e s m args below meth c Z hC hQ H locs ls hH => lv_dup hC.1 hC.2.1 hd hv (k p e s m args below meth c Z hC hQ H locs ls hH)
theorem KP.obj {a idx : Nat} (hd : decode cc pc = .ok (.invokespecial idx, 3)) (h1 : Cond.methodLink own idx Lib.objectInit ∈ tbG) (h2 : Cond.instanceMethod Lib.objectInit ∈ tbG) (h3 : Cond.code Lib.objectInit ⟨#[0xb1]⟩ 1 none ∈ tbG) (hf : 1 ≤ rm.frames) (hlo : (st.map fun v => v.category).sum + 12 ≤ rm.locals) (k : KP l G tc B nT ini own cc nL rm wc (pc + 3) lv st es cells slots Q) : KP l G tc B nT ini own cc nL rm wc pc lv (.ref a :: st) es cells slots Q := by
  intro p e s m args below meth c Z hC hQ H locs ls hH
  have ok : ∀ w ∈ tbG, w.before args s = true := fun w h => hC.2.2.2.2.1 w (List.mem_cons_of_mem _ h)
  refine W.objInit hC.1 hC.2.1 hC.2.2.2.1 (ok _ h1) (ok _ h2) (ok _ h3) rfl (by rw [hC.2.2.1]; exact hH.2.2.2.2.2.1) rfl hd hf (by show 2 * 0 + _ + 12 ≤ _; omega) (k p e s m args below meth c Z hC hQ H locs ls hH)
theorem va_P_push {cl : List vw_C} {ws : va_W} {H H1 : Heap} {a : Nat} {e : va_E} (hP : va_P G cl ws H) (ho : ∀ q, q < H.size → H1[q]? = H[q]?) (he : va_at G cl (a, e) H1) : va_P G cl (ws ++ [(a, e)]) H1 := by
  refine (hP.kept (fun k x hx => ho x.1 (hP k x hx).lt)).app (fun k x hx => ?_)
  have hz : k < 1 := (List.getElem?_eq_some_iff.mp hx).1
  rw [show k = 0 by omega] at hx
  cases hx
  exact he
theorem va_S_grow {A : Nat → Prop} {H0 H H1 : Heap} {locs : List Loc} (hS : va_S A H0 H locs) (hz : H.size ≤ H1.size) (ho : ∀ q, q < H.size → H1[q]? = H[q]?) : va_S A H0 H1 locs :=
  ⟨Nat.le_trans hS.1 hz, fun q h1 h2 => (ho q (Nat.lt_of_lt_of_le h1 hS.1)).trans (hS.2.1 q h1 h2), hS.2.2⟩
theorem KP.newa {atype : ArrayType} {ty : FieldType} {t n : Nat} {v : Int32} {a0 : vp_A} {q : Nat} (hd : decode cc pc = .ok (.newarray atype, 2)) (hty : newarray.typeOf atype = ty) (ht : (tysV tc)[t]? = some (tc t, ty)) (hns : ∀ C, ty ≠ .object C) (harr : Cond.arrayClass ty ∈ tbG) (ha : ∀ cA : ClassId, vp_cell cA a0 = arrV cA n (fun _ => defaultValue ty)) (hv : ¬ v < 0) (hN : v.toNatClampNeg = n) (hby : n * componentBytes ty ≤ 536870912) (hq : B + es.length = q) (hT : es.length + 1 ≤ nT) (hcl : cells + 1 ≤ rm.cells) (hsl : slots + n ≤ rm.slots) (k : KP l G tc B nT ini own cc nL rm wc (pc + 2) lv (.ref q :: st) (es ++ [.inl (tc t, a0)]) (cells + 1) (slots + n) Q) : KP l G tc B nT ini own cc nL rm wc pc lv (.int v :: st) es cells slots Q := by
  subst hty
  subst hq
  intro p e s m args below meth c Z hC hQ H locs ls hH
  have hK := hC.2.2.2.2.2.1
  refine va_newaK hC.1 hC.2.1 (hC.2.2.2.2.1 _ (List.mem_cons_of_mem _ harr)) rfl hd rfl hv hN hby hcl hsl hH.2.1 (fun H1 cA e1 z1 o1 hAr hNm => ?_)
  have o1 : ∀ q, q < H.size → H1[q]? = H[q]? := fun q hq => o1 q (by rw [hH.2.1] at hq; exact hq)
  have hra := (hK.2 t _ ht).2
  have hcA : cA = tc t := by
    have h1 : s.vm.findClass ("[" ++ (newarray.typeOf atype).toString) = some (tc t) := by
      cases atype <;> exact hra
    exact Option.some.inj (hNm.symm.trans h1)
  subst hcA
  refine k p e s m args below meth c Z hC hQ H1 locs ls ⟨?_, ?_, ?_, ?_, ?_, hH.2.2.2.2.2⟩
  · rw [wB_app]
    refine va_P_push hH.1 o1 ?_
    show H1[_]? = some (vp_cell _ _)
    rw [ha]
    exact e1
  · rw [z1]; simp; omega
  · have := hH.2.2.1; simp; omega
  · simp; omega
  · exact va_S_grow hH.2.2.2.2.1 (by rw [z1, hH.2.1]; omega) o1
theorem KP.new {C : String} {T : u_T} {N ci index q : Nat} {fs : List Value} {ty : Nat → FieldType} (hd : decode cc pc = .ok (.new index, 3)) (hc : vwCl[ci]? = some (C, T, N)) (hin : ∀ w ∈ u_ws C T N, w ∈ tbG) (hty : ∀ k, k < N → parseFieldDescriptor (T k).2.2.1 = some (ty k)) (h1 : Cond.classLink own index C ∈ tbG) (h2 : Cond.instantiable C N ∈ tbG) (h3 : Cond.initialized C ∈ tbG) (hfs : ∀ j, j < N → defaultValue (ty j) = vp_V fs j) (hq : B + es.length = q) (hT : es.length + 1 ≤ nT) (hcl : cells + 1 ≤ rm.cells) (hsl : slots + N ≤ rm.slots) (k : KP l G tc B nT ini own cc nL rm wc (pc + 3) lv (.ref q :: st) (es ++ [.inr (ci, fs)]) (cells + 1) (slots + N) Q) : KP l G tc B nT ini own cc nL rm wc pc lv st es cells slots Q := by
  subst hq
  intro p e s m args below meth c Z hC hQ H locs ls hH
  have hts := hC.2.2.2.2.1
  have ok : ∀ w ∈ tbG, w.before args s = true := fun w h => hts w (List.mem_cons_of_mem _ h)
  have hKn := hC.2.2.2.2.2.1.1 ci _ hc
  refine W.newcK hC.1 hC.2.1 hC.2.2.2.1 (ok _ h1) (ok _ h2) (ok _ h3) rfl hd hcl hsl hKn.2.1 hH.2.1 (fun H1 kC hkC e1 z1 o1 => ?_)
  have o1 : ∀ q, q < H.size → H1[q]? = H[q]? := fun q hq => o1 q (by rw [hH.2.1] at hq; exact hq)
  refine k p e s m args below meth c Z hC hQ H1 locs ls ⟨?_, ?_, ?_, ?_, ?_, hH.2.2.2.2.2⟩
  · rw [wB_app]
    exact va_P_push hH.1 o1 ⟨_, hc, (u_born ty hts (fun w h => List.mem_cons_of_mem _ (hin w h)) hKn hkC e1 hty).to hfs⟩
  · rw [z1]; simp; omega
  · have := hH.2.2.1; simp; omega
  · simp; omega
  · exact va_S_grow hH.2.2.2.2.1 (by rw [z1, hH.2.1]; omega) o1
theorem KP.putF {C : String} {T : u_T} {N ci index j a : Nat} {fs : List Value} {ty0 : Nat → FieldType} {ty : FieldType} {v : Value} {x : Nat} (hd : decode cc pc = .ok (.putfield index, 3)) (hini : ini = true) (he : es[x]? = some (.inr (ci, fs))) (hxa : B + x = a) (hc : vwCl[ci]? = some (C, T, N)) (hin : ∀ w ∈ u_ws C T N, w ∈ tbG) (hty : ∀ k, k < N → parseFieldDescriptor (T k).2.2.1 = some (ty0 k)) (hnm : ∀ a, a < N → ∀ b, b < N → a ≠ b → (T a).2.1 ≠ (T b).2.1) (hj : j < N) (hw : Cond.fieldLink own index (T j).1 (T j).2.1 (T j).2.2.1 ∈ tbG) (hfin : (T j).2.2.2 = true) (hdecl : (T j).1 = own) (hdy : parseFieldDescriptor (T j).2.2.1 = some ty) (hn : narrow ty v = v) (hfit : fits ty v = true) (hl : j < fs.length) (k : KP l G tc B nT ini own cc nL rm wc (pc + 3) lv st (es.set x (.inr (ci, fs.set j v))) cells slots Q) : KP l G tc B nT ini own cc nL rm wc pc lv (v :: .ref a :: st) es cells slots Q := by
  subst hxa
  intro p e s m args below meth c Z hC hQ H locs ls hH
  refine W.szle (fun hsz => ?_)
  have hts := hC.2.2.2.2.1
  have ok : ∀ w ∈ tbG, w.before args s = true := fun w h => hts w (List.mem_cons_of_mem _ h)
  refine va_putF (v := v) (ty := ty) hC.1 hC.2.1 hts (fun w h => List.mem_cons_of_mem _ (hin w h)) ty0 hty hnm hC.2.2.2.1 hC.2.2.2.2.2.1 hH.1 (wB_D hH.2.2.2.1) hH.2.2.2.2.1 x (wB_at he) hc j hj (ok _ hw) (fun _ h => h) hfin (hC.2.2.2.2.2.2.2.2.1 hini) hdecl hdy hn hfit hl hd (fun H1 locs1 hP1 hD1 hS1 => ?_)
  rw [wB_set] at hP1
  refine W.szle (fun hsz1 => ?_)
  have hlast : H1.size = B + es.length := by
    have h0 : 0 < es.length := Nat.lt_of_le_of_lt (Nat.zero_le x) (List.getElem?_eq_some_iff.mp he).1
    have hex : ∃ e', (es.set x (.inr (ci, fs.set j v)))[es.length - 1]? = some e' := by
      rw [List.getElem?_eq_getElem (by simp; omega)]; exact ⟨_, rfl⟩
    obtain ⟨e', he'⟩ := hex
    have := (hP1 (es.length - 1) _ (wB_at he')).lt
    have h3 := hH.2.2.1
    simp at this
    omega
  exact k p e s m args below meth c Z hC hQ H1 locs1 ls ⟨hP1, by rw [hlast]; simp, by rw [List.length_set]; exact hH.2.2.1, by rw [List.length_set]; exact hH.2.2.2.1, hS1, hH.2.2.2.2.2⟩
theorem KP.getR {C : String} {T : u_T} {N ci index j a x : Nat} {fs : List Value} {v : Value} (hd : decode cc pc = .ok (.getfield index, 3)) (he : es[x]? = some (.inr (ci, fs))) (hxa : B + x = a) (hc : vwCl[ci]? = some (C, T, N)) (hin : ∀ w ∈ u_ws C T N, w ∈ tbG) (hj : j < N) (hw : Cond.fieldLink own index (T j).1 (T j).2.1 (T j).2.2.1 ∈ tbG) (hf : fs[j]? = some v) (k : KP l G tc B nT ini own cc nL rm wc (pc + 3) lv (v :: st) es cells slots Q) : KP l G tc B nT ini own cc nL rm wc pc lv (.ref a :: st) es cells slots Q := by
  subst hxa
  exact fun p e s m args below meth c Z hC hQ H locs ls hH => va_get hC.1 hC.2.1 hC.2.2.2.2.1 (fun w h => List.mem_cons_of_mem _ (hin w h)) hC.2.2.2.1 hC.2.2.2.2.2.1 hH.1 x (wB_at he) hc j hj (hC.2.2.2.2.1 _ (List.mem_cons_of_mem _ hw)) (fun _ h => h) hf hd (k p e s m args below meth c Z hC hQ H locs ls hH)
theorem KP.aald {a x n r : Nat} {f : Nat → Option Nat} {i : Int32} (hd : decode cc pc = .ok (.aaload, 1)) (he : es[x]? = some (.inl (tc 3, n, .inr (.inr (.inr (.inr f)))))) (hxa : B + x = a) (hi : vp_in i n) (hr : f i.toNatClampNeg = some r) (k : KP l G tc B nT ini own cc nL rm wc (pc + 1) lv (.ref r :: st) es cells slots Q) : KP l G tc B nT ini own cc nL rm wc pc lv (.int i :: .ref a :: st) es cells slots Q := by
  subst hxa
  intro p e s m args below meth c Z hC hQ H locs ls hH
  have hlt : i.toNatClampNeg < n := Nat.not_le.mp fun q => hi (Or.inr q)
  refine W.aald (v := .ref r) (ty := .array .int) hC.1 hC.2.1 (hH.1 x _ (wB_at he)) ((hC.2.2.2.2.2.1.2 3 (tc 3, .array .int) rfl).1 n (fun j => va_rf (f j))) rfl (fun q => by cases q) (by show ¬ (i < 0 ∨ (arrV _ _ _).slots.size ≤ _); rw [arrV_size]; exact hi) (by show (arrV _ _ _).slots[_]? = _; rw [arrV_read _ _ hlt, hr]; rfl) rfl rfl hd (k p e s m args below meth c Z hC hQ H locs ls hH)
end KPR
