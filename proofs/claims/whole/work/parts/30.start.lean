/-! THE CLAIM OUT OF ONE WALK OF THE LAW'S BODY. Your part is whole_start (and what it stands on); all else here is the same for every law, but numbers. -/
def R_law : String := "ThinkingFormLaw"
def lw_P (b : Addr) (xs : List Int32) (args : Array Value) (s : State) : Prop := args = #[.ref b] ∧ s.IntsAt b xs ∧ xs.length ≤ 2560 ∧ (Jvm.Cond.and given_1 narrow_1).before args s = true
def lw_Q (_ : Array Value) (s : State) (o : Outcome) (t : State) : Prop := o = .returned (some (.int 1)) ∧ Framed s o t [] 600000 7302250
def lw_Z (below : List Frame) (a : Array Value) (s : State) : State → Prop := fun t => ∃ o, t.status = .running ∧ Ended t below o ∧ lw_Q a s o t
/-- the law's own end, with 1 on the stack, nothing written that was there before, its room as the claim has it -/
theorem lw_ret {p : Program} {l : Launch} {e : Env} {s : State} {m : MethodId} {below : List Frame} {meth : Method} {c : Code} {b : Nat} (hx : p.tables.exec = Jvm.exec) (hb : c.code = code) (hr : meth.sig.returnType = ret) (hlocks : meth.locks = false) {pc : Nat} {H : Heap} {ls : Array Slot} (hdg : decode code pc = .ok (.ireturn, 1)) : W p l e room_1 s m #[Value.ref b] below meth c H [] 600000 7302250 (lw_Z below #[Value.ref b] s) (F0 m pc ls [.int 1]) := by
  intro T hT X
  obtain ⟨fs, hret, hrun, hended, hW, hframe⟩ := X.leave (v := some (.int 1)) (hlocks := hlocks) (fun h => by rw [hr] at h; cases h)
  have hmeth' : T.vm.method? m = some meth := X.method'
  refine ⟨T.setFrames fs, ?_, .returned (some (.int 1)), hrun, hended, rfl, ⟨_, rfl⟩, hW, hframe⟩
  jvm_step X.here [X.here.top, hx, hb, hdg, hmeth', hr, ret, narrow_b1]
  (try refine ⟨rfl, ?_⟩); (try refine ⟨rfl, ?_⟩)
  first | (intro acts; rw [hret _ acts rfl rfl rfl]) | rw [hret _ _ rfl rfl rfl]
  exact Steps.refl _
/-- what holds at the law's entry: the machine, the code, the tables' words (any of lw_tbl by 'hts w (by decide +kernel)'), the script of L ints xs at the cell b, what the Statement gives of the start (any of its parts by flat_of_before) -/
def lw_At (p : Program) (s : State) (m : MethodId) (meth : Method) (c : Code) (b L : Nat) (xs : Nat → Int32) : Prop :=
  p.tables.exec = Jvm.exec ∧ c.code = code ∧ meth.sig.returnType = ret ∧ c.maxLocals = 4 ∧ s.vm.findClass R_law = some m.cls ∧ (∀ w ∈ lw_tbl, w.before #[Value.ref b] s = true) ∧ va_X b L xs s s.heap ∧ b < s.heap.size ∧ meth.locks = false ∧ (Jvm.Cond.and given_1 narrow_1).before #[Value.ref b] s = true
/-- the layout's references are below n -/
def okC (n : Nat) : LC → Bool
  | .inl q => q.2.all (fun o => match o with | some r => decide (r < n) | none => true)
  | .inr (.inr (.inr rs)) => rs.all (fun r => decide (r < n))
  | _ => true
theorem flV_D {D D' : Nat → Nat} {M : Mm} {k n : Nat} (h : ∀ r, r < n → D r = D' r) : ∀ (fs : List (Option Nat)) (j : Nat), fs.all (fun o => match o with | some r => decide (r < n) | none => true) = true → flV D M k j fs = flV D' M k j fs
  | [], _, _ => rfl
  | some r :: t, j, ha => by
    simp only [List.all_cons, Bool.and_eq_true, decide_eq_true_eq] at ha
    simp only [flV]
    rw [h r ha.1, flV_D h t (j + 1) ha.2]
  | none :: t, j, ha => by
    simp only [List.all_cons, Bool.and_eq_true] at ha
    simp only [flV]
    rw [flV_D h t (j + 1) ha.2]
theorem ceV_D {tc : Nat → ClassId} {D D' : Nat → Nat} {M : Mm} {k n : Nat} (h : ∀ r, r < n → D r = D' r) (c : LC) (ha : okC n c = true) : ceV tc D M k c = ceV tc D' M k c := by
  match c with
  | .inl q => simp only [ceV]; rw [flV_D h q.2 0 ha]
  | .inr (.inl q) => rfl
  | .inr (.inr (.inl n)) => rfl
  | .inr (.inr (.inr rs)) =>
    have e : (fun (i : Nat) => (rs[i]?).map D) = (fun (i : Nat) => (rs[i]?).map D') := by
      funext i
      cases hc : rs[i]? with
      | none => rfl
      | some r =>
        have h1 := List.all_eq_true.mp ha r (List.mem_of_getElem? hc)
        simp only [decide_eq_true_eq] at h1
        simp [h r h1]
    simp only [ceV]
    rw [e]
theorem esOf_D {tc : Nat → ClassId} {D D' : Nat → Nat} {M : Mm} {n : Nat} (h : ∀ r, r < n → D r = D' r) : ∀ (L : List LC) (k : Nat), L.all (okC n) = true → esOf tc D M k L = esOf tc D' M k L
  | [], _, _ => rfl
  | c :: t, k, ha => by
    simp only [List.all_cons, Bool.and_eq_true] at ha
    simp only [esOf]
    rw [ceV_D h c ha.1, esOf_D h t (k + 1) ha.2]
theorem esOf_app {tc : Nat → ClassId} {D : Nat → Nat} {M : Mm} : ∀ (A C : List LC) (k : Nat), esOf tc D M k (A ++ C) = esOf tc D M k A ++ esOf tc D M (k + A.length) C
  | [], C, k => rfl
  | c :: t, C, k => by
    simp only [List.cons_append, esOf, List.length_cons]
    rw [esOf_app t C (k + 1), show k + 1 + t.length = k + (t.length + 1) by omega]
theorem esOf_M {tc : Nat → ClassId} {D : Nat → Nat} {M M' : Mm} : ∀ (L : List LC) (k : Nat), (∀ j, k ≤ j → j < k + L.length → M.1 j = M'.1 j ∧ M.2 j = M'.2 j) → esOf tc D M k L = esOf tc D M' k L
  | [], _, _ => rfl
  | c :: t, k, h => by
    have h0 := h k (Nat.le_refl k) (by simp)
    simp only [esOf]
    rw [ceV_congr h0.1 h0.2, esOf_M t (k + 1) (fun j h1 h2 => h j (by omega) (by simp; omega))]
theorem lay_all : lay.all (okC 96) = true := by decide
theorem lay_cut : lay = lay_X9 ++ lay_X10.map (shL 69) := rfl
theorem lay_es {tc : Nat → ClassId} {B : Nat} {M1 : Mm} (h2 : ∀ a j, M1.2 a j = 0) : esOf tc (fun k => B + k) mem_X9 0 lay_X9 ++ esOf tc (fun k => B + 69 + k) M1 0 lay_X10 = esOf tc (fun k => B + k) (MAll M1) 0 lay := by
  rw [lay_cut, esOf_app, esOf_shift (M' := MAll M1) lay_X10 0 (fun j hj => ⟨by
    show (if 69 + j < 69 then _ else M1.1 (69 + j - 69)) = _
    rw [if_neg (by omega), show 69 + j - 69 = j by omega], by
    show M1.2 (69 + j - 69) = _
    rw [show 69 + j - 69 = j by omega]⟩)]
  refine congrArg (· ++ _) (esOf_M lay_X9 0 (fun j _ hj => ⟨?_, ?_⟩))
  · have hj : j < 69 := by
      have : lay_X9.length = 69 := rfl
      omega
    show mem_X9.1 j = if j < 69 then mem_X9.1 j else _
    rw [if_pos hj]
  · funext i
    show (0 : Int64) = M1.2 (j - 69) i
    rw [h2]
theorem arr_of {s : State} {args : Array Value} {ty : FieldType} (h : (Cond.arrayClass ty).before args s = true) : ∃ cA, ArrOfT s cA ty ∧ s.vm.findClass ("[" ++ ty.toString) = some cA := by
  obtain ⟨c, k, comp, h1, h2, h3⟩ := Cond.arrayClass_spec h
  exact ⟨c, fun n z => ⟨fun k h => (by cases h), k, h2, comp, h3⟩, h1⟩
theorem arr_of2 {s : State} {args : Array Value} (h : (Cond.arrayOver (.array .int)).before args s = true) : ∃ cA, ArrOfT s cA (.array .int) ∧ s.vm.findClass ("[" ++ (FieldType.array .int).toString) = some cA := by
  obtain ⟨comp, c, k, h1, -, h2, h3, h4⟩ := arrayOverA_spec h
  exact ⟨c, fun n z => ⟨fun k h => (by cases h), k, h2, comp, h3⟩, h4⟩
theorem law_nest {s : State} {args : Array Value} (hts : ∀ w ∈ lw_tbl, w.before args s = true) : nwV s := by
  intro x hx
  obtain ⟨w, hw, he⟩ := List.mem_filterMap.mp hx
  have h1 := hts w (List.mem_append_right _ hw)
  match w, he, h1 with
  | .methodLinkNest a i y h, he, h1 =>
    cases he
    exact va_Nw.of rfl h1
set_option maxRecDepth 100000 in
theorem law_known {s : State} {args : Array Value} (hts : ∀ w ∈ lw_tbl, w.before args s = true) : ∃ (G : va_G) (tc : Nat → ClassId), va_K G vwCl (tysV tc) s := by
  obtain ⟨c0, i0, h0⟩ := u_known (C := RX0) (T := TX0) (N := 7) (n := 7) (ws := lw_tbl) hts (fun w h => tbG_in (in_X0 w h)) (hts (.instantiable RX0 7) (List.mem_of_getElem? (i := 74) (by decide +kernel)))
  obtain ⟨c1, i1, h1⟩ := u_known (C := RX1) (T := TX1) (N := 2) (n := 2) (ws := lw_tbl) hts (fun w h => tbG_in (in_X1 w h)) (hts (.instantiable RX1 2) (List.mem_of_getElem? (i := 226) (by decide +kernel)))
  obtain ⟨c2, i2, h2⟩ := u_known (C := RX2) (T := TX2) (N := 6) (n := 6) (ws := lw_tbl) hts (fun w h => tbG_in (in_X2 w h)) (hts (.instantiable RX2 6) (List.mem_of_getElem? (i := 68) (by decide +kernel)))
  obtain ⟨c3, i3, h3⟩ := u_known (C := RX3) (T := TX3) (N := 6) (n := 6) (ws := lw_tbl) hts (fun w h => tbG_in (in_X3 w h)) (hts (.instantiable RX3 6) (List.mem_of_getElem? (i := 128) (by decide +kernel)))
  obtain ⟨c4, i4, h4⟩ := u_known (C := RX4) (T := TX4) (N := 2) (n := 2) (ws := lw_tbl) hts (fun w h => tbG_in (in_X4 w h)) (hts (.instantiable RX4 2) (List.mem_of_getElem? (i := 187) (by decide +kernel)))
  obtain ⟨c5, i5, h5⟩ := u_known (C := RX5) (T := TX5) (N := 6) (n := 6) (ws := lw_tbl) hts (fun w h => tbG_in (in_X5 w h)) (hts (.instantiable RX5 6) (List.mem_of_getElem? (i := 241) (by decide +kernel)))
  obtain ⟨c6, i6, h6⟩ := u_known (C := RX6) (T := TX6) (N := 3) (n := 3) (ws := lw_tbl) hts (fun w h => tbG_in (in_X6 w h)) (hts (.instantiable RX6 3) (List.mem_of_getElem? (i := 207) (by decide +kernel)))
  obtain ⟨c7, i7, h7⟩ := u_known (C := RX7) (T := TX7) (N := 1) (n := 1) (ws := lw_tbl) hts (fun w h => tbG_in (in_X7 w h)) (hts (.instantiable RX7 1) (List.mem_of_getElem? (i := 301) (by decide +kernel)))
  obtain ⟨c8, i8, h8⟩ := u_known (C := RX8) (T := TX8) (N := 5) (n := 5) (ws := lw_tbl) hts (fun w h => tbG_in (in_X8 w h)) (hts (.instantiable RX8 5) (List.mem_of_getElem? (i := 273) (by decide +kernel)))
  obtain ⟨c9, i9, h9⟩ := u_known (C := RX9) (T := TX9) (N := 8) (n := 8) (ws := lw_tbl) hts (fun w h => tbG_in (in_X9 w h)) (hts (.instantiable RX9 8) (List.mem_of_getElem? (i := 60) (by decide +kernel)))
  obtain ⟨c10, i10, h10⟩ := u_known (C := RX10) (T := TX10) (N := 34) (n := 34) (ws := lw_tbl) hts (fun w h => tbG_in (in_X10 w h)) (hts (.instantiable RX10 34) (List.mem_of_getElem? (i := 686) (by decide +kernel)))
  obtain ⟨t0, a0, b0⟩ := arr_of (hts (.arrayClass .int) (List.mem_of_getElem? (i := 125) (by decide +kernel)))
  obtain ⟨t1, a1, b1⟩ := arr_of (hts (.arrayClass .boolean) (List.mem_of_getElem? (i := 126) (by decide +kernel)))
  obtain ⟨t2, a2, b2⟩ := arr_of (hts (.arrayClass .long) (List.mem_of_getElem? (i := 795) (by decide +kernel)))
  obtain ⟨t3, a3, b3⟩ := arr_of2 (hts (.arrayOver (.array .int)) (List.mem_of_getElem? (i := 80) (by decide +kernel)))
  refine ⟨((fun k => match k with | 0 => c0 | 1 => c1 | 2 => c2 | 3 => c3 | 4 => c4 | 5 => c5 | 6 => c6 | 7 => c7 | 8 => c8 | 9 => c9 | _ => c10), (fun k => match k with | 0 => i0 | 1 => i1 | 2 => i2 | 3 => i3 | 4 => i4 | 5 => i5 | 6 => i6 | 7 => i7 | 8 => i8 | 9 => i9 | _ => i10)), (fun k => match k with | 0 => t0 | 1 => t1 | 2 => t2 | _ => t3), fun k q hq => ?_, fun k q hq => ?_⟩
  · match k, hq with
    | 0, hq => cases hq; exact h0
    | 1, hq => cases hq; exact h1
    | 2, hq => cases hq; exact h2
    | 3, hq => cases hq; exact h3
    | 4, hq => cases hq; exact h4
    | 5, hq => cases hq; exact h5
    | 6, hq => cases hq; exact h6
    | 7, hq => cases hq; exact h7
    | 8, hq => cases hq; exact h8
    | 9, hq => cases hq; exact h9
    | 10, hq => cases hq; exact h10
    | k + 11, hq => simp [vwCl] at hq
  · match k, hq with
    | 0, hq => cases hq; exact ⟨a0, b0⟩
    | 1, hq => cases hq; exact ⟨a1, b1⟩
    | 2, hq => cases hq; exact ⟨a2, b2⟩
    | 3, hq => cases hq; exact ⟨a3, b3⟩
    | k + 4, hq => simp [tysV] at hq
theorem wq_59 : Cond.classLink RL 7 RX9 ∈ tbG := tbG_of (List.mem_of_getElem? (i := 59) (by decide +kernel)) (by decide +kernel)
theorem wq_60 : Cond.instantiable RX9 8 ∈ tbG := tbG_of (List.mem_of_getElem? (i := 60) (by decide +kernel)) (by decide +kernel)
theorem wq_61 : Cond.methodLink RL 9 yX9_init ∈ tbG := tbG_of (List.mem_of_getElem? (i := 61) (by decide +kernel)) (by decide +kernel)
theorem wq_46 : Cond.initialized RX9 ∈ tbG := tbG_of (List.mem_of_getElem? (i := 46) (by decide +kernel)) (by decide +kernel)
theorem wq_62 : Cond.instanceMethod yX9_init ∈ tbG := tbG_of (List.mem_of_getElem? (i := 62) (by decide +kernel)) (by decide +kernel)
theorem wq_63 : Cond.code yX9_init cX9_init 2 none ∈ tbG := tbG_of (List.mem_of_getElem? (i := 63) (by decide +kernel)) (by decide +kernel)
theorem wq_685 : Cond.classLink RL 10 RX10 ∈ tbG := tbG_of (List.mem_of_getElem? (i := 685) (by decide +kernel)) (by decide +kernel)
theorem wq_686 : Cond.instantiable RX10 34 ∈ tbG := tbG_of (List.mem_of_getElem? (i := 686) (by decide +kernel)) (by decide +kernel)
theorem wq_687 : Cond.methodLink RL 12 yX10_init ∈ tbG := tbG_of (List.mem_of_getElem? (i := 687) (by decide +kernel)) (by decide +kernel)
theorem wq_57 : Cond.initialized RX10 ∈ tbG := tbG_of (List.mem_of_getElem? (i := 57) (by decide +kernel)) (by decide +kernel)
theorem wq_688 : Cond.instanceMethod yX10_init ∈ tbG := tbG_of (List.mem_of_getElem? (i := 688) (by decide +kernel)) (by decide +kernel)
theorem wq_689 : Cond.code yX10_init cX10_init 2 none ∈ tbG := tbG_of (List.mem_of_getElem? (i := 689) (by decide +kernel)) (by decide +kernel)
set_option maxRecDepth 100000 in
set_option maxHeartbeats 4000000 in
theorem whole_start_open (hp : PureLaw) {p : Program} {e : Env} {s : State} {m : MethodId} {below : List Frame} {meth : Method} {c : Code} (l : Launch) {b L : Nat} {xs : Nat → Int32} (hL : L ≤ 2560) (C0 : lw_At p s m meth c b L xs) : W p l e room_1 s m #[Value.ref b] below meth c s.heap [] 0 0 (lw_Z below #[Value.ref b] s) (entryFrame m ([Value.ref b] : List Value).toArray 4) := by
  obtain ⟨hx, hb, hr, hml, hown, hts, hX, hbl, hlocks, hgv⟩ := id C0
  obtain ⟨G, tc, hK⟩ := law_known hts
  obtain ⟨M1, hrun, hM1⟩ := iniM_run
  have hN : nwV s := law_nest hts
  have hA : aoV s := hts (.arrayOver (.array .int)) (List.mem_of_getElem? (i := 80) (by decide +kernel))
  have hl := lv_entry ([.ref b]) (n := 4) (Nat.le_of_ble_eq_true rfl)
  rw [lg_entry_eq]
  generalize (lg_sl ([.ref b]) ++ List.replicate (4 - (lg_sl ([.ref b])).length) Slot.unset).toArray = ls at hl ⊢
  have hlv : lvH (fun x => x) ls 4 [some (.ref b), none, none, none] := ⟨hl.1, hl.2.1, fun i v hi => by
    match i, hi with
    | 0, hi => cases hi; exact hl.2.2 (0, .ref b) List.mem_cons_self
    | 1, hi => cases hi
    | 2, hi => cases hi
    | 3, hi => cases hi
    | i + 4, hi => simp at hi⟩
  have key : KP l G tc s.heap.size 96 false RL cL_law 4 room_1 (.initialized RL) 0 [some (.ref b), none, none, none] [] [] 0 0 (fun pc lv st es cells slots => pc = 16 ∧ lv = [some (.ref b), some (.ref s.heap.size), some (.ref (s.heap.size + 69)), none] ∧ st = [] ∧ es = esOf tc (fun k => s.heap.size + k) (MAll M1) 0 lay ∧ cells = 96 ∧ slots = 1725) := by
    refine KP.new (ci := 9) (fs := [.null, .null, .null, .null, .null, .null, .null, .null]) (q := s.heap.size) dL_law_0 rfl in_X9 tyX9_ok wq_59 wq_60 wq_46 (fun j hj => match j, hj with | 0, _ => rfl | 1, _ => rfl | 2, _ => rfl | 3, _ => rfl | 4, _ => rfl | 5, _ => rfl | 6, _ => rfl | 7, _ => rfl | j + 8, hz => absurd hz (by omega)) rfl (by decide) (by decide) (by decide) ?_
    refine KP.dup dL_law_3 rfl ?_
    refine KP.initM [] dL_law_4 rfl rfl (inK_X9 l G tc) wq_61 wq_63 wq_62 wq_46 rfl ⟨by decide, by decide, by decide +kernel⟩ (fun es' he => by rw [he, esOf_len]; rfl) rfl (by decide) (by decide) (by decide) (Nat.le_of_ble_eq_true rfl) (fun es1 he1 => ?_)
    refine KP.astore_n dL_law_7 rfl (by decide) rfl rfl ?_
    have hl1 : es1.length = 69 := by rw [he1, esOf_len]; rfl
    refine KP.new (ci := 10) (fs := [.int 0, .null, .null, .null, .null, .int 0, .null, .null, .null, .null, .int 0, .null, .null, .null, .null, .int 0, .null, .null, .null, .null, .null, .null, .null, .int 0, .null, .int 0, .null, .null, .null, .null, .null, .int 0, .null, .int 0]) (q := s.heap.size + 69) dL_law_8 rfl in_X10 tyX10_ok wq_685 wq_686 wq_57 (fun j hj => match j, hj with | 0, _ => rfl | 1, _ => rfl | 2, _ => rfl | 3, _ => rfl | 4, _ => rfl | 5, _ => rfl | 6, _ => rfl | 7, _ => rfl | 8, _ => rfl | 9, _ => rfl | 10, _ => rfl | 11, _ => rfl | 12, _ => rfl | 13, _ => rfl | 14, _ => rfl | 15, _ => rfl | 16, _ => rfl | 17, _ => rfl | 18, _ => rfl | 19, _ => rfl | 20, _ => rfl | 21, _ => rfl | 22, _ => rfl | 23, _ => rfl | 24, _ => rfl | 25, _ => rfl | 26, _ => rfl | 27, _ => rfl | 28, _ => rfl | 29, _ => rfl | 30, _ => rfl | 31, _ => rfl | 32, _ => rfl | 33, _ => rfl | j + 34, hz => absurd hz (by omega)) (show s.heap.size + es1.length = _ by rw [hl1]) (show es1.length + 1 ≤ 96 by rw [hl1]; decide) (by decide) (by decide) ?_
    refine KP.dup dL_law_11 rfl ?_
    refine KP.initM es1 dL_law_12 rfl (by rw [hl1]) (inK_X10 l G tc hrun) wq_687 wq_689 wq_688 wq_57 rfl ⟨by decide, by decide, by decide +kernel⟩ (fun es' he => by rw [he, esOf_len]; rfl) rfl (by rw [hl1]; decide) (by decide) (by decide) (Nat.le_of_ble_eq_true rfl) (fun es2 he2 => ?_)
    refine KP.astore_n dL_law_15 rfl (by decide) rfl rfl ?_
    refine KP.done ⟨rfl, rfl, rfl, ?_, rfl, rfl⟩
    rw [he1, he2]
    exact lay_es hM1.2.2.2.2
  have hts2 : ∀ w ∈ Cond.initialized RL :: tbG, w.before #[Value.ref b] s = true := fun w hw => by
    rcases List.mem_cons.mp hw with e | e
    · rw [e]; exact hts _ (List.mem_of_getElem? (i := 45) (by decide +kernel))
    · exact hts w (tbG_in e)
  refine key p e s m _ below meth c _ ⟨hx, hb, hml, hown, hts2, hK, hN, hA, (fun h => absurd h (by decide)), Nat.le_refl _⟩ ?_ s.heap [] ls ⟨fun k q hk => by simp [wB] at hk, rfl, rfl, Nat.zero_le _, va_S.rf, hlv⟩
  intro pc' lv' st' es' cells' slots' H' locs' ls' hq hH
  obtain ⟨rfl, rfl, rfl, rfl, rfl, rfl⟩ := hq
  obtain ⟨N, M', hrunL⟩ := hp M1 hM1 xs L hL
  have hD : ∀ r, r < 96 → (if r < 96 then s.heap.size + r else b) = s.heap.size + r := fun r h => if_pos h
  have ew : wB s.heap.size (esOf tc (fun k => s.heap.size + k) (MAll M1) 0 lay) = mkW tc (fun r => if r < 96 then s.heap.size + r else b) (MAll M1) 0 lay := by
    rw [← esOf_D (D := fun r => if r < 96 then s.heap.size + r else b) hD lay 0 lay_all]
    exact esOf_wB (B := s.heap.size) lay 0 (fun j _ h => hD j (by
      have : lay.length = 96 := rfl
      omega))
  have hDj : ∀ j, j < lay.length → (fun r => if r < 96 then s.heap.size + r else b) j = s.heap.size + j := fun j h => hD j h
  have hP := hH.1
  rw [ew] at hP
  have hbA : ¬ inA (fun r => if r < 96 then s.heap.size + r else b) lay b := fun h => by
    have := (inA_B hDj b).mp h
    omega
  refine TL_law (EX := fun s' => va_X b L xs s' s'.heap ∧ b < s'.heap.size) (D := fun r => if r < 96 then s.heap.size + r else b) (fun s' h => ⟨h.1, h.2, hbA⟩) hrunL p e s m _ below meth c 96 1725 _ ⟨hx, hb, hml, hown, hts2, hK, hN, ⟨hX, hbl⟩, JJ_B hDj, by decide, by decide⟩ ?_ H' locs' ls' ⟨hP, (va_S_inA hDj).mpr hH.2.2.2.2.1, ?_⟩
  · intro pc2 lv2 st2 M2 H2 locs2 ls2 hq2 hH2
    rcases hq2 with ⟨e1, _⟩ | ⟨v, e1, _⟩ | ⟨v, e1, e2, e3, e4, e5, e6⟩ | ⟨v, e1, _⟩
    · cases e1
    · cases e1
    · cases e5
      subst e4
      refine va_forget (fun q hq => ?_) ?_
      · have := (inA_B hDj q.base).mp (hH2.2.1.2.2 q hq)
        exact this.1
      · refine W.widen (k := 600000) (n := 7302250) (by omega) (by omega) ?_
        exact lw_ret hx hb hr hlocks e2
    · cases e1
  · refine ⟨hH.2.2.2.2.2.1, hH.2.2.2.2.2.2.1, fun i v hi => ?_⟩
    have h0 := hH.2.2.2.2.2.2.2
    match i, hi with
    | 0, hi => cases hi; exact h0 0 (.ref b) rfl
    | 1, hi => cases hi; exact h0 1 (.ref s.heap.size) rfl
    | 2, hi => cases hi; exact h0 2 (.ref (s.heap.size + 69)) rfl
    | 3, hi => cases hi
    | i + 4, hi => simp at hi
