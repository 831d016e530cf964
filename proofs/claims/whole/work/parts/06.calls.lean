/-! ===== methods by WP, and calls of them ===== -/
def RetQ (cc : ByteArray) (ret : Option FieldType) (Q : Option Value → Mm → Prop) : Nat → List (Option Value) → List Value → Mm → Prop := fun pc _ st M =>
  (ret = none ∧ decode cc pc = .ok (.return_, 1) ∧ st = [] ∧ Q none M) ∨ (∃ v : Int32, ret = some .int ∧ decode cc pc = .ok (.ireturn, 1) ∧ st = [.int v] ∧ Q (some (.int v)) M) ∨
  (∃ v : Int32, ret = some .boolean ∧ decode cc pc = .ok (.ireturn, 1) ∧ (v = 0 ∨ v = 1) ∧ st = [.int v] ∧ Q (some (.int v)) M) ∨ (∃ v : Int64, ret = some .long ∧ decode cc pc = .ok (.lreturn, 1) ∧ st = [.long v] ∧ Q (some (.long v)) M)
def QcV (G : va_G) (tc : Nat → ClassId) (D : Nat → Nat) (L : List LC) (Q : Option Value → Mm → Prop) : Array Value → State → Outcome → State → Prop := fun _ st o t => (∃ (r : Option Value) (M' : Mm), o = .returned (r.map (cv D)) ∧ Q r M' ∧ va_P G vwCl (mkW tc D M' 0 L) t.heap) ∧ va_F (inA D L) st t
def PcV (G : va_G) (tc : Nat → ClassId) (D : Nat → Nat) (L : List LC) (vs : List Value) (M : Mm) : Array Value → State → Prop := va_Pc (vs.map (cv D)) (fun U => va_P G vwCl (mkW tc D M 0 L) U.heap ∧ va_K G vwCl (tysV tc) U ∧ nwV U ∧ JJ D L)
theorem lg_cat (D : Nat → Nat) : ∀ vs : List Value, (lg_sl (vs.map (cv D))).length = (vs.map fun v => v.category).sum
  | [] => rfl
  | v :: t => by
    have h := lg_cat D t
    simp only [lg_sl, List.map_cons, List.flatMap_cons, List.length_append, List.sum_cons, cv_cat] at h ⊢
    rw [h]
    rcases lv_cat v with e | e <;> simp [e]
theorem met_of {l : Launch} {G : va_G} {tc : Nat → ClassId} {D : Nat → Nat} {L : List LC} {y : MethodName} {cc : ByteArray} {nL : Nat} {ret : Option FieldType} {rm : Room} {vs : List Value} {M : Mm} {Q : Option Value → Mm → Prop} (hy : plainName y.cls = true) (hlen : (vs.map fun v => v.category).sum ≤ nL) (h : WP l G tc D L (fun _ => True) y.cls cc nL rm (.code y cc nL ret) 0 (entL nL vs) [] M (RetQ cc ret Q)) : Met l y (.code y cc nL ret :: tbG) rm (PcV G tc D L vs M) (QcV G tc D L Q) 0 0 (inA D L) := by
  refine Met.ofW (cc := cc) (maxL := nL) (ret := ret) hy rfl ?_
  intro p e s m args below meth c s₁ B hml hv
  obtain ⟨rfl, hP, hK, hN, hJ⟩ := hv
  have hts := atoms_spec (ws := .code y cc nL ret :: tbG) B.pre
  have hown : s.vm.findClass y.cls = some m.cls := findClass_of_methodNamed B.named
  have hlocks := B.notSynchronized
  have hl := lv_entry (vs.map (cv D)) (n := nL) (by rw [lg_cat]; exact hlen)
  rw [lg_entry_eq]
  generalize (lg_sl (vs.map (cv D)) ++ List.replicate (nL - (lg_sl (vs.map (cv D))).length) Slot.unset).toArray = ls at hl ⊢
  refine h p e s m _ below meth c 0 0 _ ⟨B.exec, B.bytes, hml, hown, hts, hK, hN, trivial, hJ, Nat.zero_le _, Nat.zero_le _⟩ ?_ s.heap [] ls ⟨hP, va_S.rf, hl.1, hl.2.1, fun i v hi => by
    have := hl.2.2 _ (entL_in (D := D) vs nL 0 i v hi)
    simpa using this⟩
  intro pc' lv' st' M' H' locs' ls' hq hH
  rcases hq with ⟨e1, e2, e3, e4⟩ | ⟨v, e1, e2, e3, e4⟩ | ⟨v, e1, e2, e0, e3, e4⟩ | ⟨v, e1, e2, e3, e4⟩
  · subst e3
    exact W.vret B.exec B.bytes (by rw [B.returns, e1]) (fun t ht _ => ⟨⟨none, M', rfl, e4, by rw [ht]; exact hH.1⟩, hH.2.1.F ht⟩) hH.2.1.2.2 e2
  · subst e3
    exact W.iret B.exec B.bytes (by rw [B.returns, e1]) (fun t ht _ => ⟨⟨some (.int v), M', rfl, e4, by rw [ht]; exact hH.1⟩, hH.2.1.F ht⟩) hH.2.1.2.2 e2
  · subst e3
    exact W.zret (ty := .boolean) B.exec B.bytes (by rw [B.returns, e1]) (by rcases e0 with rfl | rfl <;> decide) (fun t ht _ => ⟨⟨some (.int v), M', rfl, e4, by rw [ht]; exact hH.1⟩, hH.2.1.F ht⟩) hH.2.1.2.2 e2
  · subst e3
    exact W.lret B.exec B.bytes (by rw [B.returns, e1]) (fun t ht _ => ⟨⟨some (.long v), M', rfl, e4, by rw [ht]; exact hH.1⟩, hH.2.1.F ht⟩) hH.2.1.2.2 e2
theorem PcV_blind {G : va_G} {tc : Nat → ClassId} {D : Nat → Nat} {L : List LC} {vs : List Value} {M : Mm} : FrameBlind (PcV G tc D L vs M) := by
  intro a U g mk h
  obtain ⟨h0, hP, hK, hN, hJ⟩ := h
  exact ⟨h0, hP, va_K.moved (u := U) (U := U.calling g mk a) (Vm.Alike.refl U.vm) hK, nwV_same (u := U) rfl hN, hJ⟩
section WPC
variable {l : Launch} {G : va_G} {tc : Nat → ClassId} {D : Nat → Nat} {L : List LC} {EX : State → Prop} {own : String} {cc : ByteArray} {nL : Nat} {rm : Room} {wc : Cond} {pc : Nat} {lv : List (Option Value)} {st : List Value} {M : Mm} {Q : Nat → List (Option Value) → List Value → Mm → Prop}
theorem run_goes {p : Program} {e : Env} {s : State} {m : MethodId} {args : Array Value} {below : List Frame} {meth : Method} {c : Code} {H : Heap} {locs : List Loc} {cells slots : Nat} {Z : State → Prop} {ls : Array Slot} {st0 : List Value} {a : Array Value} {Q' : Option Value → Mm → Prop}
    (hr : va_Run p l e rm s m args below meth c H locs cells slots 0 0 (F0 m pc ls st0) (st.map (cv D)) (QcV G tc D L Q' a) (inA D L)) (hS : va_S (inA D L) s.heap H locs)
    (kk : ∀ (r : Option Value) (M' : Mm) (H1 : Heap) (locs1 : List Loc), Q' r M' → va_P G vwCl (mkW tc D M' 0 L) H1 → va_S (inA D L) s.heap H1 locs1 → W p l e rm s m args below meth c H1 locs1 cells slots Z (F0 m (pc + 3) ls ((r.toList ++ st).map (cv D)))) : W p l e rm s m args below meth c H locs cells slots Z (F0 m pc ls st0) := by
  intro T hT X
  obtain ⟨v, st₀, t, T', Lc, h0, X', hL, e1, e2, ⟨⟨r, M', hv, hq, hP⟩, hz, hk⟩, stp⟩ := hr T hT X
  cases hv
  rw [h0] at hz hk
  obtain ⟨t2, a1, b1⟩ := kk r M' T'.heap (locs ++ Lc) hq (by rw [e1]; exact hP)
    ⟨Nat.le_trans hS.1 (by rw [e1]; exact hz), fun q h1 h2 => by rw [e1, hk q (Nat.lt_of_lt_of_le h1 hS.1) h2]; exact hS.2.1 q h1 h2, fun q hq => by
      rcases List.mem_append.mp hq with h | h
      · exact hS.2.2 q h
      · exact hL q h⟩ T' rfl X'
  refine ⟨t2, stp t2 ?_, b1⟩
  have e3 : ((r.map (cv D)).toList ++ st.map (cv D)) = (r.toList ++ st).map (cv D) := by cases r <;> rfl
  show Steps _ _ _ (T'.setTop { (F0 m pc ls st0) with pc := pc + 3, stack := (r.map (cv D)).toList ++ st.map (cv D) }) t2
  rw [e3]
  exact a1
/-- what the tables say of a call -/
def LkV (own : String) (index : Nat) (y : MethodName) (cc' : ByteArray) (nL' : Nat) (ret' : Option FieldType) (n : Nat) : Prop :=
  Cond.methodLink own index y ∈ tbG ∧ Cond.code y cc' nL' ret' ∈ tbG ∧ Cond.instanceMethod y ∈ tbG ∧ Cond.selects y.cls y y ∈ tbG ∧ Cond.initialized y.cls ∈ tbG ∧ plainName y.cls = true ∧ y.cls ≠ "java/lang/invoke/MethodHandle" ∧ y.cls ≠ "java/lang/invoke/VarHandle" ∧ (parseMethodDescriptor y.desc).map (fun d => d.parameters.length) = some n
def LkS (own : String) (index : Nat) (y : MethodName) (cc' : ByteArray) (nL' : Nat) (ret' : Option FieldType) (n : Nat) : Prop :=
  Cond.methodLink own index y ∈ tbG ∧ Cond.code y cc' nL' ret' ∈ tbG ∧ Cond.static y ∈ tbG ∧ Cond.initialized y.cls ∈ tbG ∧ plainName y.cls = true ∧ y.cls ≠ "java/lang/invoke/MethodHandle" ∧ y.cls ≠ "java/lang/invoke/VarHandle" ∧ (parseMethodDescriptor y.desc).map (fun d => d.parameters.length) = some n
def LkN (own : String) (index : Nat) (y : MethodName) (host : String) (cc' : ByteArray) (nL' : Nat) (ret' : Option FieldType) (n : Nat) : Prop :=
  (own, index, y, host) ∈ nestM ∧ Cond.code y cc' nL' ret' ∈ tbG ∧ Cond.static y ∈ tbG ∧ Cond.initialized y.cls ∈ tbG ∧ plainName y.cls = true ∧ y.cls ≠ "java/lang/invoke/MethodHandle" ∧ y.cls ≠ "java/lang/invoke/VarHandle" ∧ (parseMethodDescriptor y.desc).map (fun d => d.parameters.length) = some n
theorem WP.callV {b ci N n index nL' : Nat} {T : u_T} {fs : List (Option Nat)} {y : MethodName} {cc' : ByteArray} {ret' : Option FieldType} {rm' : Room} {Q' : Option Value → Mm → Prop} {st1 : List Value} (As : List Value) (hd : decode cc pc = .ok (.invokevirtual index, 3)) (lk : LkV own index y cc' nL' ret' n) (hL : L[b]? = some (.inl (ci, fs))) (hc : vwCl[ci]? = some (y.cls, T, N)) (hn : As.length = n) (hfit : ((Value.ref b :: As).map fun v => v.category).sum ≤ nL') (hroom : rm'.cells = 0 ∧ rm'.slots = 0 ∧ rm'.frames + 1 ≤ rm.frames ∧ 8 + (nL' + 11) + rm'.locals ≤ rm.locals) (hst : (st.map fun v => v.category).sum ≤ 8) (he : As.reverse ++ .ref b :: st = st1)
    (hM : WP l G tc D L (fun _ => True) y.cls cc' nL' rm' (.code y cc' nL' ret') 0 (entL nL' (.ref b :: As)) [] M (RetQ cc' ret' Q')) (k : ∀ (r : Option Value) (M' : Mm), Q' r M' → WP l G tc D L EX own cc nL rm wc (pc + 3) lv (r.toList ++ st) M' Q) : WP l G tc D L EX own cc nL rm wc pc lv st1 M Q := by
  intro p e s m args below meth c cells slots Z hC hQ H locs ls hH
  obtain ⟨k1, k2, k3, k4, k5, k6, k7, k8, k9⟩ := lk
  obtain ⟨r1, r2, r3, r4⟩ := hroom
  have hts := hC.2.2.2.2.1
  have ok : ∀ w ∈ tbG, w.before args s = true := fun w h => hts w (List.mem_cons_of_mem _ h)
  have hP := hH.1
  have hK := hC.2.2.2.2.2.1
  have hN := hC.2.2.2.2.2.2.1
  have hJ := hC.2.2.2.2.2.2.2.2.1
  subst he
  have hms : (st.map (cv D)).map (fun v => v.category) = st.map fun v => v.category := by rw [List.map_map]; exact List.map_congr_left (fun v _ => cv_cat D v)
  refine run_goes (va_runV (As := As.map (cv D)) (rest := st.map (cv D)) (b := D b) (n := n) (index := index) ⟨hC.1, hC.2.1, hC.2.2.1, hC.2.2.2.1, hts⟩ (met_of k6 hfit hM) ⟨callB_of n hts (gi_tb k2) rfl r1 r2 (ok _ k5) (ok _ k1) ⟨k7, k8, k9⟩ ⟨r3, r4⟩, ok _ k3, ok _ k4⟩ ⟨PcV_blind, va_recv hK hP hc (mkW_at hL), fun U hU hW => ⟨by rfl, by rw [hU]; exact hP, va_K.moved hW.alike hK, nwV_warm hW hN, hJ⟩⟩ rfl (by rw [List.length_map]; exact hn) (hH.2.2.1) (by simp [cv]) (lv_room (by rw [hms]; exact hst)) hd ⟨hC.2.2.2.2.2.2.2.2.2.1, hC.2.2.2.2.2.2.2.2.2.2⟩) hH.2.1 (fun r M' H1 locs1 hq hP1 hS1 => k r M' hq p e s m args below meth c cells slots Z hC hQ H1 locs1 ls ⟨hP1, hS1, hH.2.2⟩)
theorem WP.callS {n index nL' : Nat} {y : MethodName} {cc' : ByteArray} {ret' : Option FieldType} {rm' : Room} {Q' : Option Value → Mm → Prop} {st1 : List Value} (As : List Value) (hd : decode cc pc = .ok (.invokestatic index, 3)) (lk : LkS own index y cc' nL' ret' n) (hn : As.length = n) (hfit : (As.map fun v => v.category).sum ≤ nL') (hroom : rm'.cells = 0 ∧ rm'.slots = 0 ∧ rm'.frames + 1 ≤ rm.frames ∧ 8 + (nL' + 11) + rm'.locals ≤ rm.locals) (hst : (st.map fun v => v.category).sum ≤ 8) (he : As.reverse ++ st = st1)
    (hM : WP l G tc D L (fun _ => True) y.cls cc' nL' rm' (.code y cc' nL' ret') 0 (entL nL' As) [] M (RetQ cc' ret' Q')) (k : ∀ (r : Option Value) (M' : Mm), Q' r M' → WP l G tc D L EX own cc nL rm wc (pc + 3) lv (r.toList ++ st) M' Q) : WP l G tc D L EX own cc nL rm wc pc lv st1 M Q := by
  intro p e s m args below meth c cells slots Z hC hQ H locs ls hH
  obtain ⟨k1, k2, k3, k5, k6, k7, k8, k9⟩ := lk
  obtain ⟨r1, r2, r3, r4⟩ := hroom
  have hts := hC.2.2.2.2.1
  have ok : ∀ w ∈ tbG, w.before args s = true := fun w h => hts w (List.mem_cons_of_mem _ h)
  have hP := hH.1
  have hK := hC.2.2.2.2.2.1
  have hN := hC.2.2.2.2.2.2.1
  have hJ := hC.2.2.2.2.2.2.2.2.1
  subst he
  have hms : (st.map (cv D)).map (fun v => v.category) = st.map fun v => v.category := by rw [List.map_map]; exact List.map_congr_left (fun v _ => cv_cat D v)
  refine run_goes (va_runS (As := As.map (cv D)) (rest := st.map (cv D)) (n := n) (index := index) ⟨hC.1, hC.2.1, hC.2.2.1, hC.2.2.2.1, hts⟩ (met_of k6 hfit hM) ⟨callB_of n hts (gi_tb k2) rfl r1 r2 (ok _ k5) (ok _ k1) ⟨k7, k8, k9⟩ ⟨r3, r4⟩, ok _ k3⟩ ⟨PcV_blind, fun U hU hW => ⟨by rfl, by rw [hU]; exact hP, va_K.moved hW.alike hK, nwV_warm hW hN, hJ⟩⟩ rfl (by rw [List.length_map]; exact hn) (hH.2.2.1) (by simp) (lv_room (by rw [hms]; exact hst)) hd ⟨hC.2.2.2.2.2.2.2.2.2.1, hC.2.2.2.2.2.2.2.2.2.2⟩) hH.2.1 (fun r M' H1 locs1 hq hP1 hS1 => k r M' hq p e s m args below meth c cells slots Z hC hQ H1 locs1 ls ⟨hP1, hS1, hH.2.2⟩)
theorem WP.callN {n index nL' : Nat} {y : MethodName} {host : String} {cc' : ByteArray} {ret' : Option FieldType} {rm' : Room} {Q' : Option Value → Mm → Prop} {st1 : List Value} (As : List Value) (hd : decode cc pc = .ok (.invokestatic index, 3)) (lk : LkN own index y host cc' nL' ret' n) (hn : As.length = n) (hfit : (As.map fun v => v.category).sum ≤ nL') (hroom : rm'.cells = 0 ∧ rm'.slots = 0 ∧ rm'.frames + 1 ≤ rm.frames ∧ 8 + (nL' + 11) + rm'.locals ≤ rm.locals) (hst : (st.map fun v => v.category).sum ≤ 8) (he : As.reverse ++ st = st1)
    (hM : WP l G tc D L (fun _ => True) y.cls cc' nL' rm' (.code y cc' nL' ret') 0 (entL nL' As) [] M (RetQ cc' ret' Q')) (k : ∀ (r : Option Value) (M' : Mm), Q' r M' → WP l G tc D L EX own cc nL rm wc (pc + 3) lv (r.toList ++ st) M' Q) : WP l G tc D L EX own cc nL rm wc pc lv st1 M Q := by
  intro p e s m args below meth c cells slots Z hC hQ H locs ls hH
  obtain ⟨k1, k2, k3, k5, k6, k7, k8, k9⟩ := lk
  obtain ⟨r1, r2, r3, r4⟩ := hroom
  have hts := hC.2.2.2.2.1
  have ok : ∀ w ∈ tbG, w.before args s = true := fun w h => hts w (List.mem_cons_of_mem _ h)
  have hP := hH.1
  have hK := hC.2.2.2.2.2.1
  have hN := hC.2.2.2.2.2.2.1
  have hJ := hC.2.2.2.2.2.2.2.2.1
  subst he
  have hms : (st.map (cv D)).map (fun v => v.category) = st.map fun v => v.category := by rw [List.map_map]; exact List.map_congr_left (fun v _ => cv_cat D v)
  refine run_goes (va_runSN (As := As.map (cv D)) (rest := st.map (cv D)) (n := n) (index := index) (host := host) ⟨hC.1, hC.2.1, hC.2.2.1, hC.2.2.2.1, hts⟩ (met_of k6 hfit hM) ⟨va_cnB n hts (gi_tb k2) rfl r1 r2 (hN _ k1) (ok _ k5) ⟨k7, k8, k9⟩ ⟨r3, r4⟩, ok _ k3, trivial⟩ ⟨PcV_blind, fun U hU hW => ⟨by rfl, by rw [hU]; exact hP, va_K.moved hW.alike hK, nwV_warm hW hN, hJ⟩⟩ rfl (by rw [List.length_map]; exact hn) (hH.2.2.1) (by simp) (lv_room (by rw [hms]; exact hst)) hd ⟨hC.2.2.2.2.2.2.2.2.2.1, hC.2.2.2.2.2.2.2.2.2.2⟩) hH.2.1 (fun r M' H1 locs1 hq hP1 hS1 => k r M' hq p e s m args below meth c cells slots Z hC hQ H1 locs1 ls ⟨hP1, hS1, hH.2.2⟩)
/-- the ends -/
theorem WP.vret {Qr : Option Value → Mm → Prop} (hd : decode cc pc = .ok (.return_, 1)) (h : Qr none M) : WP l G tc D L EX own cc nL rm wc pc lv [] M (RetQ cc none Qr) := WP.done (Or.inl ⟨rfl, hd, rfl, h⟩)
theorem WP.iret {Qr : Option Value → Mm → Prop} {v : Int32} (hd : decode cc pc = .ok (.ireturn, 1)) (h : Qr (some (.int v)) M) : WP l G tc D L EX own cc nL rm wc pc lv [.int v] M (RetQ cc (some .int) Qr) := WP.done (Or.inr (Or.inl ⟨v, rfl, hd, rfl, h⟩))
theorem WP.zret {Qr : Option Value → Mm → Prop} {v : Int32} (hd : decode cc pc = .ok (.ireturn, 1)) (hv : v = 0 ∨ v = 1) (h : Qr (some (.int v)) M) : WP l G tc D L EX own cc nL rm wc pc lv [.int v] M (RetQ cc (some .boolean) Qr) := WP.done (Or.inr (Or.inr (Or.inl ⟨v, rfl, hd, hv, rfl, h⟩)))
theorem WP.lret {Qr : Option Value → Mm → Prop} {v : Int64} (hd : decode cc pc = .ok (.lreturn, 1)) (h : Qr (some (.long v)) M) : WP l G tc D L EX own cc nL rm wc pc lv [.long v] M (RetQ cc (some .long) Qr) := WP.done (Or.inr (Or.inr (Or.inr ⟨v, rfl, hd, rfl, h⟩)))
end WPC
