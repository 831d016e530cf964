/-! ===== constructors: rows of rows, calls of other constructors, of Arrays.fill, and the way over to WP ===== -/
theorem rng_get (b n i : Nat) : (List.range' b n)[i]? = if i < n then some (b + i) else none := by
  by_cases h : i < n
  · rw [if_pos h, List.getElem?_range' h]; simp
  · rw [if_neg h, List.getElem?_eq_none (by rw [List.length_range']; omega)]
theorem arr_cong {cA : ClassId} {n : Nat} {f g : Nat → Value} (h : ∀ j, j < n → f j = g j) : arrV cA n f = arrV cA n g := by
  unfold arrV
  congr 1
  congr 1
  funext j
  exact h j.val j.isLt
section KPS
variable {l : Launch} {G : va_G} {tc : Nat → ClassId} {B nT : Nat} {ini : Bool} {own : String} {cc : ByteArray} {nL : Nat} {rm : Room} {wc : Cond} {pc : Nat} {lv : List (Option Value)} {st : List Value} {es : List va_E} {cells slots : Nat} {Q : Nat → List (Option Value) → List Value → List va_E → Nat → Nat → Prop}
theorem KP.mna {index n kk q : Nat} {v w : Int32} {rs : List Nat} (hd : decode cc pc = .ok (.multianewarray index 2, 4)) (hcl : Cond.classLink own index ("[" ++ (FieldType.array .int).toString) ∈ tbG) (harr : Cond.arrayClass .int ∈ tbG) (hv : ¬ v < 0) (hw : ¬ w < 0) (hN : v.toNatClampNeg = n) (hM : w.toNatClampNeg = kk) (hb1 : n * 4 ≤ 536870912) (hb2 : kk * 4 ≤ 536870912) (hq : B + es.length = q) (hrs : List.range' (es.length + 1) n = rs) (hT : es.length + 1 + n ≤ nT) (hc1 : cells + (1 + n) ≤ rm.cells) (hs1 : slots + (n + n * kk) ≤ rm.slots)
    (k : KP l G tc B nT ini own cc nL rm wc (pc + 4) lv (.ref q :: st) (es ++ (.inl (tc 3, n, .inr (.inr (.inr (.inr (fun i => (rs[i]?).map (fun x => B + x)))))) :: List.replicate n (.inl (tc 0, kk, .inl (fun _ => 0))))) (cells + 1 + n) (slots + n + n * kk) Q) : KP l G tc B nT ini own cc nL rm wc pc lv (.int w :: .int v :: st) es cells slots Q := by
  subst hq
  subst hrs
  subst hN
  subst hM
  intro p e s m args below meth c Z hC hQ H locs ls hH
  have ok : ∀ w ∈ tbG, w.before args s = true := fun w h => hC.2.2.2.2.1 w (List.mem_cons_of_mem _ h)
  have h3 : s.vm.findClass ("[" ++ (FieldType.array .int).toString) = some (tc 3) := (hC.2.2.2.2.2.1.2 3 (tc 3, .array .int) rfl).2
  have h0 : s.vm.findClass (FieldType.array .int).toString = some (tc 0) := (hC.2.2.2.2.2.1.2 0 (tc 0, .int) rfl).2
  have hsz := hH.2.1
  refine W.mna2 hC.1 hC.2.1 hC.2.2.2.1 (ok _ hcl) hC.2.2.2.2.2.2.2.1 (ok _ harr) h3 h0 hd hv hw rfl rfl hb1 hb2 hc1 hs1 (fun H1 f1 f2 hold hrow => ?_)
  rw [hsz]
  refine k p e s m args below meth c Z hC hQ H1 locs ls ⟨?_, ?_, ?_, ?_, ?_, hH.2.2.2.2.2⟩
  · rw [wB_app]
    refine (hH.1.kept (fun k x hx => hold x.1 (hH.1 k x hx).lt)).app (fun k x hx => ?_)
    obtain ⟨g1, g2, g3⟩ := wB_inv hx
    obtain ⟨xa, xe⟩ := x
    dsimp only at g1 g3
    cases k with
    | zero =>
      simp at g3
      subst g3
      show H1[xa]? = some (vp_cell _ _)
      rw [g1, Nat.add_zero, ← hsz, f2, vp_cell_q]
      refine congrArg some (arr_cong (fun j hj => ?_))
      rw [rng_get, if_pos hj, if_pos hj, hsz]
      exact congrArg Value.ref (show (B + es.length + 1 + j : Nat) = B + (es.length + 1 + j) by omega)
    | succ k =>
      simp at g2 g3
      rw [List.getElem?_replicate, if_pos g2] at g3
      cases g3
      show H1[xa]? = some (vp_cell _ _)
      rw [g1, ← hsz, show H.size + (k + 1) = H.size + 1 + k by omega]
      exact hrow k g2
  · rw [f1, hsz]; simp; omega
  · have := hH.2.2.1; simp; omega
  · simp; omega
  · exact va_S_grow hH.2.2.2.2.1 (by rw [f1]; omega) hold
end KPS
def PcK (G : va_G) (tc : Nat → ClassId) (B : Nat) (e0 : va_E) : Array Value → State → Prop := va_Pc [.ref B] (fun U => va_P G vwCl (wB B [e0]) U.heap ∧ U.heap.size = B + 1 ∧ va_K G vwCl (tysV tc) U ∧ nwV U ∧ aoV U)
def QcK (G : va_G) (B : Nat) (PE : Nat → List va_E → Prop) : Array Value → State → Outcome → State → Prop := fun _ st o t => ∃ es' : List va_E, o = .returned none ∧ PE B es' ∧ va_P G vwCl (wB B es') t.heap ∧ t.heap.size = B + es'.length ∧ ∀ q, q < B → t.heap[q]? = st.heap[q]?
def InK (l : Launch) (G : va_G) (tc : Nat → ClassId) (y : MethodName) (cc : ByteArray) (nL : Nat) (rm : Room) (nT mc ms : Nat) (e0 : va_E) (PE : Nat → List va_E → Prop) : Prop := ∀ B : Nat, Met l y (.code y cc nL none :: tbG) rm (PcK G tc B e0) (QcK G B PE) mc ms (fun q => B ≤ q ∧ q < B + nT)
theorem PcK_blind {G : va_G} {tc : Nat → ClassId} {B : Nat} {e0 : va_E} : FrameBlind (PcK G tc B e0) := by
  intro a U g mk h
  obtain ⟨h0, hP, hz, hK, hN, hA⟩ := h
  exact ⟨h0, hP, hz, va_K.moved (u := U) (U := U.calling g mk a) (Vm.Alike.refl U.vm) hK, nwV_same (u := U) rfl hN, aoV_moved (s := U) (U := U.calling g mk a) (Vm.Alike.refl U.vm) hA⟩
def EndK (cc : ByteArray) (B : Nat) (PE : Nat → List va_E → Prop) (mc ms : Nat) : Nat → List (Option Value) → List Value → List va_E → Nat → Nat → Prop := fun pc _ st es cells slots => decode cc pc = .ok (.return_, 1) ∧ st = [] ∧ PE B es ∧ cells = mc ∧ slots = ms
theorem ink_of {l : Launch} {G : va_G} {tc : Nat → ClassId} {y : MethodName} {cc : ByteArray} {nL nT mc ms : Nat} {rm : Room} {e0 : va_E} {PE : Nat → List va_E → Prop} (hy : plainName y.cls = true) (hnm : y.name = "<init>") (h1 : 1 ≤ nL) (hT : 1 ≤ nT)
    (h : ∀ B, KP l G tc B nT true y.cls cc nL rm (.code y cc nL none) 0 (entL nL [.ref B]) [] [e0] 0 0 (EndK cc B PE mc ms)) : InK l G tc y cc nL rm nT mc ms e0 PE := by
  intro B
  refine Met.ofW (cc := cc) (maxL := nL) (ret := none) hy rfl ?_
  intro p e s m args below meth c s₁ Bd hml hv
  obtain ⟨rfl, hP, hz, hK, hN, hA⟩ := hv
  have hts := atoms_spec (ws := .code y cc nL none :: tbG) Bd.pre
  have hown : s.vm.findClass y.cls = some m.cls := findClass_of_methodNamed Bd.named
  have hin : meth.name = "<init>" := (name_of_methodNamed Bd.named Bd.method).1.trans hnm
  have hlocks := Bd.notSynchronized
  have hl := lv_entry [.ref B] (n := nL) (by show 1 ≤ nL; exact h1)
  rw [lg_entry_eq]
  generalize (lg_sl [.ref B] ++ List.replicate (nL - (lg_sl [.ref B]).length) Slot.unset).toArray = ls at hl ⊢
  refine h B p e s m _ below meth c _ ⟨Bd.exec, Bd.bytes, hml, hown, hts, hK, hN, hA, fun _ => hin, by omega⟩ ?_ s.heap [] ls ⟨hP, hz, by rw [hz]; rfl, hT, va_S.rf, hl.1, hl.2.1, fun i v hi => by
    have := hl.2.2 _ (entL_in (D := fun x => x) [.ref B] nL 0 i v hi)
    simpa using this⟩
  intro pc' lv' st' es' cells' slots' H' locs' ls' hq hH
  obtain ⟨e1, e2, e3, e4, e5⟩ := hq
  subst e2
  subst e4
  subst e5
  refine W.vret Bd.exec Bd.bytes Bd.returns (fun t ht _ => ⟨es', rfl, e3, by rw [ht]; exact hH.1, by rw [ht]; exact hH.2.1, fun q hq => ?_⟩) hH.2.2.2.2.1.2.2 e1
  rw [ht]
  exact hH.2.2.2.2.1.2.1 q (by omega) (fun z => by omega)
section KPI
variable {l : Launch} {G : va_G} {tc : Nat → ClassId} {B nT : Nat} {ini : Bool} {own : String} {cc : ByteArray} {nL : Nat} {rm : Room} {wc : Cond} {pc : Nat} {lv : List (Option Value)} {st : List Value} {es : List va_E} {cells slots : Nat} {Q : Nat → List (Option Value) → List Value → List va_E → Nat → Nat → Prop}
theorem runK {p : Program} {e : Env} {s : State} {m : MethodId} {args : Array Value} {below : List Frame} {meth : Method} {c : Code} {H : Heap} {locs : List Loc} {Z : State → Prop} {ls : Array Slot} {st0 : List Value} {a : Array Value} {nT' mc ms : Nat} {PE : Nat → List va_E → Prop} {es0 : List va_E} {e0 : va_E}
    (hr : va_Run p l e rm s m args below meth c H locs cells slots mc ms (F0 m pc ls st0) st (QcK G (B + es0.length) PE a) (fun q => B + es0.length ≤ q ∧ q < B + es0.length + nT')) (hH : HxK G tc B nT nL s lv (es0 ++ [e0]) cells H locs ls) (hT : es0.length + nT' ≤ nT) (hlen : ∀ es', PE (B + es0.length) es' → es'.length = mc + 1) (hmc : mc + 1 = nT') (hB : B ≤ s.heap.size)
    (kk : ∀ (es' : List va_E) (H1 : Heap) (locs1 : List Loc), PE (B + es0.length) es' → HxK G tc B nT nL s lv (es0 ++ es') (cells + mc) H1 locs1 ls → W p l e rm s m args below meth c H1 locs1 (cells + mc) (slots + ms) Z (F0 m (pc + 3) ls st)) : W p l e rm s m args below meth c H locs cells slots Z (F0 m pc ls st0) := by
  intro T hTh X
  obtain ⟨v, st₀, t, T', Lc, h0, X', hL, e1, e2, ⟨es', hv, hq, hP, hz, hk⟩, stp⟩ := hr T hTh X
  cases hv
  rw [h0] at hk
  obtain ⟨a1, a2, a3, a4, a5, a6⟩ := hH
  have hl := hlen es' hq
  simp at a2 a3 a4
  obtain ⟨t2, b1, b2⟩ := kk es' T'.heap (locs ++ Lc) hq ⟨by
      rw [wB_app, e1]
      refine va_P.app (fun k q hk1 => ?_) hP
      obtain ⟨g1, g2, g3⟩ := wB_inv hk1
      have hkk : (wB B (es0 ++ [e0]))[k]? = some q := by
        rw [wB_app, List.getElem?_append_left (by
          have := (List.getElem?_eq_some_iff.mp hk1).1
          exact this)]
        exact hk1
      exact (a1 k q hkk).kept (hk q.1 (by omega)), by rw [e1, hz]; simp; omega, by simp; omega, by simp; omega, ⟨Nat.le_trans a5.1 (by rw [e1, hz, a2]; omega), fun q h1 h2 => by
        rw [e1]
        by_cases hqB : q < B
        · rw [hk q (by omega)]; exact a5.2.1 q h1 h2
        · exact absurd (show B ≤ q ∧ q < B + nT from ⟨by omega, by have := a5.1; rw [a2] at this; omega⟩) h2, fun q hq2 => by
        rcases List.mem_append.mp hq2 with h | h
        · exact a5.2.2 q h
        · obtain ⟨h8, h9⟩ := hL q h
          exact ⟨Nat.le_trans (Nat.le_add_right _ _) h8, Nat.lt_of_lt_of_le h9 (by omega)⟩⟩, a6⟩ T' rfl X'
  exact ⟨t2, stp t2 b1, b2⟩
theorem KP.initN {y : MethodName} {host : String} {cc' : ByteArray} {nL' nT' mc ms index a : Nat} {rm' : Room} {e0 : va_E} {PE : Nat → List va_E → Prop} (es0 : List va_E) (hd : decode cc pc = .ok (.invokespecial index, 3)) (hes : es = es0 ++ [e0]) (ha : B + es0.length = a) (hM : InK l G tc y cc' nL' rm' nT' mc ms e0 PE) (hk : (own, index, y, host) ∈ nestM) (hco : Cond.code y cc' nL' none ∈ tbG) (hin : Cond.instanceMethod y ∈ tbG) (hini : Cond.initialized y.cls ∈ tbG) (hy1 : y.name = "<init>") (hds : y.cls ≠ "java/lang/invoke/MethodHandle" ∧ y.cls ≠ "java/lang/invoke/VarHandle" ∧ (parseMethodDescriptor y.desc).map (fun d => d.parameters.length) = some 0) (hlen : ∀ es', PE a es' → es'.length = mc + 1) (hmc : mc + 1 = nT') (hT : es0.length + nT' ≤ nT) (hroom : rm'.cells = mc ∧ rm'.slots = ms ∧ rm'.frames + 1 ≤ rm.frames ∧ 8 + (nL' + 11) + rm'.locals ≤ rm.locals) (hcs : cells + mc ≤ rm.cells ∧ slots + ms ≤ rm.slots) (hst : (st.map fun v => v.category).sum ≤ 8)
    (k : ∀ es', PE a es' → KP l G tc B nT ini own cc nL rm wc (pc + 3) lv st (es0 ++ es') (cells + mc) (slots + ms) Q) : KP l G tc B nT ini own cc nL rm wc pc lv (.ref a :: st) es cells slots Q := by
  subst hes
  subst ha
  intro p e s m args below meth c Z hC hQ H locs ls hH
  have hts := hC.2.2.2.2.1
  have ok : ∀ w ∈ tbG, w.before args s = true := fun w h => hts w (List.mem_cons_of_mem _ h)
  obtain ⟨r1, r2, r3, r4⟩ := hroom
  have hP := hH.1
  have hsub : va_P G vwCl (wB (B + es0.length) [e0]) H := by
    intro k q hk
    have hP2 := hP
    rw [wB_app] at hP2
    exact hP2 ((wB B es0).length + k) q (by rw [List.getElem?_append_right (by omega), show (wB B es0).length + k - (wB B es0).length = k by omega]; exact hk)
  have hz : H.size = B + es0.length + 1 := by rw [hH.2.1]; simp; omega
  exact runK (va_runIN (As := []) (rest := st) (b := B + es0.length) (n := 0) (index := index) (host := host) ⟨hC.1, hC.2.1, hC.2.2.1, hC.2.2.2.1, hts⟩ (hM (B + es0.length)) ⟨va_cnB 0 hts (gi_tb hco) rfl r1 r2 (hC.2.2.2.2.2.2.1 _ hk) (ok _ hini) hds ⟨r3, r4⟩, hy1, ok _ hin⟩ ⟨PcK_blind, fun U hU hW => ⟨rfl, by rw [hU]; exact hsub, by rw [hU]; exact hz, va_K.moved hW.alike hC.2.2.2.2.2.1, nwV_warm hW hC.2.2.2.2.2.2.1, aoV_moved hW.alike hC.2.2.2.2.2.2.2.1⟩⟩ rfl rfl hH.2.2.2.2.2.1 rfl (lv_room hst) hd hcs) hH hT hlen hmc hC.2.2.2.2.2.2.2.2.2 (fun es' H1 locs1 hq hH1 => k es' hq p e s m args below meth c Z hC hQ H1 locs1 ls hH1)
theorem KP.initM {y : MethodName} {cc' : ByteArray} {nL' nT' mc ms index a : Nat} {rm' : Room} {e0 : va_E} {PE : Nat → List va_E → Prop} (es0 : List va_E) (hd : decode cc pc = .ok (.invokespecial index, 3)) (hes : es = es0 ++ [e0]) (ha : B + es0.length = a) (hM : InK l G tc y cc' nL' rm' nT' mc ms e0 PE) (hk : Cond.methodLink own index y ∈ tbG) (hco : Cond.code y cc' nL' none ∈ tbG) (hin : Cond.instanceMethod y ∈ tbG) (hini : Cond.initialized y.cls ∈ tbG) (hy1 : y.name = "<init>") (hds : y.cls ≠ "java/lang/invoke/MethodHandle" ∧ y.cls ≠ "java/lang/invoke/VarHandle" ∧ (parseMethodDescriptor y.desc).map (fun d => d.parameters.length) = some 0) (hlen : ∀ es', PE a es' → es'.length = mc + 1) (hmc : mc + 1 = nT') (hT : es0.length + nT' ≤ nT) (hroom : rm'.cells = mc ∧ rm'.slots = ms ∧ rm'.frames + 1 ≤ rm.frames ∧ 8 + (nL' + 11) + rm'.locals ≤ rm.locals) (hcs : cells + mc ≤ rm.cells ∧ slots + ms ≤ rm.slots) (hst : (st.map fun v => v.category).sum ≤ 8)
    (k : ∀ es', PE a es' → KP l G tc B nT ini own cc nL rm wc (pc + 3) lv st (es0 ++ es') (cells + mc) (slots + ms) Q) : KP l G tc B nT ini own cc nL rm wc pc lv (.ref a :: st) es cells slots Q := by
  subst hes
  subst ha
  intro p e s m args below meth c Z hC hQ H locs ls hH
  have hts := hC.2.2.2.2.1
  have ok : ∀ w ∈ tbG, w.before args s = true := fun w h => hts w (List.mem_cons_of_mem _ h)
  obtain ⟨r1, r2, r3, r4⟩ := hroom
  have hP := hH.1
  have hsub : va_P G vwCl (wB (B + es0.length) [e0]) H := by
    intro k q hk
    have hP2 := hP
    rw [wB_app] at hP2
    exact hP2 ((wB B es0).length + k) q (by rw [List.getElem?_append_right (by omega), show (wB B es0).length + k - (wB B es0).length = k by omega]; exact hk)
  have hz : H.size = B + es0.length + 1 := by rw [hH.2.1]; simp; omega
  exact runK (va_runI (As := []) (rest := st) (b := B + es0.length) (n := 0) (index := index) ⟨hC.1, hC.2.1, hC.2.2.1, hC.2.2.2.1, hts⟩ (hM (B + es0.length)) ⟨callB_of 0 hts (gi_tb hco) rfl r1 r2 (ok _ hini) (ok _ hk) hds ⟨r3, r4⟩, hy1, ok _ hin⟩ ⟨PcK_blind, fun U hU hW => ⟨rfl, by rw [hU]; exact hsub, by rw [hU]; exact hz, va_K.moved hW.alike hC.2.2.2.2.2.1, nwV_warm hW hC.2.2.2.2.2.2.1, aoV_moved hW.alike hC.2.2.2.2.2.2.2.1⟩⟩ rfl rfl hH.2.2.2.2.2.1 rfl (lv_room hst) hd hcs) hH hT hlen hmc hC.2.2.2.2.2.2.2.2.2 (fun es' H1 locs1 hq hH1 => k es' hq p e s m args below meth c Z hC hQ H1 locs1 ls hH1)
end KPI
