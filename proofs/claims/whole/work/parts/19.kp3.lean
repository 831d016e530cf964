/-! ===== numbers, Arrays.fill as a function, calls of it in constructors; from KP to WP ===== -/
theorem in_nI {i n : Nat} (h : i < n) (hn : n < 2147483648) : ¬ (nI i < 0 ∨ n ≤ (nI i).toNatClampNeg) := nI_in h hn
theorem cl_nI {i : Nat} (h : i < 2147483648) : (nI i).toNatClampNeg = i := nI_clamp h
theorem rdI_nI {M : Mm} {k n i : Nat} (h : i < n) (hn : n < 2147483648) : rdI M k n (nI i) = some (M.1 k i) := by
  unfold rdI; rw [if_neg (in_nI h hn), cl_nI (by omega)]
theorem rdL_nI {M : Mm} {k n i : Nat} (h : i < n) (hn : n < 2147483648) : rdL M k n (nI i) = some (M.2 k i) := by
  unfold rdL; rw [if_neg (in_nI h hn), cl_nI (by omega)]
theorem wrI_nI {M : Mm} {k n i : Nat} {v : Int32} (h : i < n) (hn : n < 2147483648) : wrI M k n (nI i) v = some (up1 M k i v) := by
  unfold wrI; rw [if_neg (in_nI h hn), cl_nI (by omega)]
theorem wrZ_nI {M : Mm} {k n i : Nat} {v : Int32} (h : i < n) (hn : n < 2147483648) (hv : v = 0 ∨ v = 1) : wrZ M k n (nI i) v = some (up1 M k i v) := by
  unfold wrZ; rw [if_neg (in_nI h hn), if_pos hv, cl_nI (by omega)]
theorem wrL_nI {M : Mm} {k n i : Nat} {v : Int64} (h : i < n) (hn : n < 2147483648) : wrL M k n (nI i) v = some (up2 M k i v) := by
  unfold wrL; rw [if_neg (in_nI h hn), cl_nI (by omega)]
theorem ckR_nI {b n i : Nat} (h : i < n) (hn : n < 2147483648) : ckR b n (nI i) = some (b + i) := by
  unfold ckR; rw [if_neg (in_nI h hn), cl_nI (by omega)]
theorem up1_same {M : Mm} {k j : Nat} {v : Int32} {b : Nat} : (up1 M k j v).1 k b = if b = j then v else M.1 k b := by simp [up1, upd]
theorem up1_ne {M : Mm} {k j a : Nat} {v : Int32} (h : a ≠ k) : (up1 M k j v).1 a = M.1 a := by simp [up1, h]
theorem up1_2 {M : Mm} {k j : Nat} {v : Int32} : (up1 M k j v).2 = M.2 := rfl
theorem up2_1 {M : Mm} {k j : Nat} {v : Int64} : (up2 M k j v).1 = M.1 := rfl
theorem up2_same {M : Mm} {k j : Nat} {v : Int64} {b : Nat} : (up2 M k j v).2 k b = if b = j then v else M.2 k b := by simp [up2, vp_updL]
theorem up2_ne {M : Mm} {k j a : Nat} {v : Int64} (h : a ≠ k) : (up2 M k j v).2 a = M.2 a := by simp [up2, h]
theorem lp_s {α β : Type} (F : (α → Option β) → α → Option β) (n : Nat) (a : α) : lp F (n + 1) a = F (lp F n) a := rfl
/-- cell k of a memory has v at the first i places -/
def flM (M : Mm) (k i : Nat) (v : Int32) : Mm := (fun a => if a = k then (fun j => if j < i then v else M.1 k j) else M.1 a, M.2)
theorem flM_0 (M : Mm) (k : Nat) (v : Int32) : flM M k 0 v = M := by
  unfold flM
  refine Prod.ext (funext fun a => ?_) rfl
  by_cases h : a = k
  · subst h; simp
  · simp [h]
theorem flM_s (M : Mm) (k i : Nat) (v : Int32) : up1 (flM M k i v) k i v = flM M k (i + 1) v := by
  refine Prod.ext (funext fun a => ?_) rfl
  by_cases h : a = k
  · subst h
    funext j
    simp only [up1, flM, upd, if_pos]
    by_cases e : j = i
    · subst e; simp
    · by_cases e2 : j < i
      · simp [e, e2, Nat.lt_succ_of_lt e2]
      · simp [e, e2, show ¬ j < i + 1 by omega]
  · simp [up1, flM, h]
theorem fill_loop {N k n : Nat} {v : Int32} {M : Mm} (hn : n < 2147483648) : ∀ (d nn i : Nat), i + d = n → d < nn → lp (BJ7_fill_53178_5 N k n) nn (v, nI i, Int32.ofNat n, flM M k i v) = some (flM M k n v)
  | 0, nn + 1, i, h, _ => by
    rw [lp_s, eBJ7_fill_53178_5]
    have e : i = n := by omega
    subst e
    rw [if_pos (show (Int32.ofNat i) ≤ nI i from nI_le (Nat.le_refl i) hn)]
  | d + 1, nn + 1, i, h, h2 => by
    rw [lp_s, eBJ7_fill_53178_5]
    have hi : i < n := by omega
    rw [if_neg (show ¬ (Int32.ofNat n) ≤ nI i from nI_ge hi hn)]
    show (wrI (flM M k i v) k n (nI i) v).bind _ = _
    rw [wrI_nI hi hn, Option.bind_some, flM_s, nI_1]
    exact fill_loop hn d nn (i + 1) (by omega) (by omega)
theorem fill_run {N k n : Nat} {v : Int32} {M : Mm} (hn : n < 2147483648) (hN : n < N) : FJ7_fill_53178 N k n v M = some (flM M k n v) := by
  unfold FJ7_fill_53178
  have h := fill_loop (N := N) (k := k) (v := v) (M := M) hn n N 0 (by omega) hN
  rw [flM_0] at h
  exact h
theorem KP.fill {l : Launch} {G : va_G} {tc : Nat → ClassId} {B nT : Nat} {ini : Bool} {own : String} {cc : ByteArray} {nL : Nat} {rm : Room} {wc : Cond} {pc : Nat} {lv : List (Option Value)} {st : List Value} {es : List va_E} {cells slots : Nat} {Q : Nat → List (Option Value) → List Value → List va_E → Nat → Nat → Prop} {index x n a : Nat} {v : Int32} {f : Nat → Int32} (hd : decode cc pc = .ok (.invokestatic index, 3)) (lk : LkS own index yJ7_fill_53178 cJ7_fill_53178 4 none 2) (he : es[x]? = some (.inl (tc 0, n, .inl f))) (hxa : B + x = a) (hn : n < 2147483648) (hroom : rJ7_fill_53178.cells = 0 ∧ rJ7_fill_53178.slots = 0 ∧ rJ7_fill_53178.frames + 1 ≤ rm.frames ∧ 8 + (4 + 11) + rJ7_fill_53178.locals ≤ rm.locals) (hcs : cells ≤ rm.cells ∧ slots ≤ rm.slots) (hst : (st.map fun v => v.category).sum ≤ 8)
    (k : KP l G tc B nT ini own cc nL rm wc (pc + 3) lv st (es.set x (.inl (tc 0, n, .inl (fun j => if j < n then v else f j)))) cells slots Q) : KP l G tc B nT ini own cc nL rm wc pc lv (.int v :: .ref a :: st) es cells slots Q := by
  subst hxa
  intro p e s m args below meth c Z hC hQ H locs ls hH
  obtain ⟨k1, k2, k3, k5, k6, k7, k8, k9⟩ := lk
  obtain ⟨r1, r2, r3, r4⟩ := hroom
  have hts := hC.2.2.2.2.1
  have ok : ∀ w ∈ tbG, w.before args s = true := fun w h => hts w (List.mem_cons_of_mem _ h)
  have hP := hH.1
  have hK := hC.2.2.2.2.2.1
  have hN := hC.2.2.2.2.2.2.1
  have hsub : va_P G vwCl (mkW tc (fun _ => B + x) ((fun _ => f, fun _ _ => 0) : Mm) 0 [.inr (.inl (0, n))]) H := by
    intro k q hk
    have hz : k < 1 := (List.getElem?_eq_some_iff.mp hk).1
    rw [show k = 0 by omega] at hk
    cases hk
    exact hP x _ (wB_at he)
  have hJ : JJ (fun _ => B + x) [(.inr (.inl (0, n)) : LC)] := fun i j hi hj _ => by simp at hi hj; omega
  have hT := TJ7_fill_53178 (l := l) (G := G) (tc := tc) (D := fun _ => B + x) (L := [.inr (.inl (0, n))]) (k1 := 0) (n := n) (N := n + 1) (x2 := v) (M := (fun _ => f, fun _ _ => 0)) rfl (fill_run hn (by omega))
  intro T hTh X
  obtain ⟨v1, st₀, t, T', Lc, h0, X', hL, e1, e2, ⟨⟨r, M', hv, hq, hP1⟩, hz, hk⟩, stp⟩ := va_runS (As := [.ref (B + x), .int v]) (rest := st) (n := 2) (index := index) (g := F0 m pc ls (.int v :: .ref (B + x) :: st)) (mc := 0) (ms := 0) (cells := cells) (slots := slots) (locs := locs) (below := below) (meth := meth) (e := e) (H := H) ⟨hC.1, hC.2.1, hC.2.2.1, hC.2.2.2.1, hts⟩ (met_of (vs := [.ref 0, .int v]) k6 (Nat.le_of_ble_eq_true rfl) hT) ⟨callB_of 2 hts (gi_tb k2) rfl r1 r2 (ok _ k5) (ok _ k1) ⟨k7, k8, k9⟩ ⟨r3, r4⟩, ok _ k3⟩ ⟨PcV_blind, fun U hU hW => ⟨rfl, by rw [hU]; exact hsub, va_K.moved hW.alike hK, nwV_warm hW hN, hJ⟩⟩ rfl rfl hH.2.2.2.2.2.1 rfl (lv_room hst) hd hcs T hTh X
  obtain ⟨rfl, rfl⟩ := hq
  cases hv
  rw [h0] at hz hk
  have hA : ∀ q : Nat, q ≠ B + x → ¬ inA (fun _ => B + x) [(.inr (.inl (0, n)) : LC)] q := fun q hq h => by
    obtain ⟨k, _, h⟩ := h
    exact hq h
  have hsz : T'.heap.size ≤ s.heap.size + cells := X'.heapSize
  have hxl := (List.getElem?_eq_some_iff.mp he).1
  obtain ⟨t2, b1, b2⟩ := k p e s m args below meth c Z hC hQ T'.heap (locs ++ Lc) ls ⟨by
      rw [← wB_set, e1]
      refine hP.set (wB_D hH.2.2.2.1) (wB_at he) ?_ (fun q hq => ?_)
      · have := hP1 0 _ rfl
        exact this
      · by_cases hqs : q < H.size
        · exact hk q hqs (hA q hq)
        · rw [Array.getElem?_eq_none (by rw [e1] at hsz; have h3 := hH.2.2.1; have h4 := hH.2.1; omega), Array.getElem?_eq_none (by omega)], by
      rw [List.length_set]
      have h3 := hH.2.2.1
      have h4 := hH.2.1
      rw [e1] at hsz ⊢
      omega, by rw [List.length_set]; exact hH.2.2.1, by rw [List.length_set]; exact hH.2.2.2.1, ⟨Nat.le_trans hH.2.2.2.2.1.1 (by rw [e1]; exact hz), fun q h1 h2 => by
        rw [e1, hk q (Nat.lt_of_lt_of_le h1 hH.2.2.2.2.1.1) (hA q (fun h => h2 (by rw [h]; exact ⟨Nat.le_add_right _ _, by have := hH.2.2.2.1; omega⟩)))]
        exact hH.2.2.2.2.1.2.1 q h1 h2, fun q hq2 => by
        rcases List.mem_append.mp hq2 with h | h
        · exact hH.2.2.2.2.1.2.2 q h
        · obtain ⟨k, _, h8⟩ := hL q h
          rw [h8]
          exact ⟨Nat.le_add_right _ _, by have := hH.2.2.2.1; show B + x < B + nT; omega⟩⟩, hH.2.2.2.2.2⟩ T' rfl X'
  exact ⟨t2, stp t2 b1, b2⟩
def esOf (tc : Nat → ClassId) (D : Nat → Nat) (M : Mm) : Nat → List LC → List va_E
  | _, [] => []
  | k, c :: t => ceV tc D M k c :: esOf tc D M (k + 1) t
theorem esOf_len {tc : Nat → ClassId} {D : Nat → Nat} {M : Mm} : ∀ (L : List LC) (k : Nat), (esOf tc D M k L).length = L.length
  | [], _ => rfl
  | c :: t, k => by simp [esOf, esOf_len t (k + 1)]
theorem esOf_wB {tc : Nat → ClassId} {D : Nat → Nat} {M : Mm} {B : Nat} : ∀ (L : List LC) (k : Nat), (∀ j, k ≤ j → j < k + L.length → D j = B + j) → wB (B + k) (esOf tc D M k L) = mkW tc D M k L
  | [], _, _ => rfl
  | c :: t, k, h => by
    simp only [esOf, wB, mkW]
    rw [h k (Nat.le_refl k) (by simp), show B + k + 1 = B + (k + 1) by omega, esOf_wB t (k + 1) (fun j h1 h2 => h j (by omega) (by simp; omega))]
theorem inA_B {D : Nat → Nat} {L : List LC} {B : Nat} (h : ∀ j, j < L.length → D j = B + j) (q : Nat) : inA D L q ↔ B ≤ q ∧ q < B + L.length := by
  constructor
  · rintro ⟨k, h1, h2⟩
    rw [h k h1] at h2
    omega
  · rintro ⟨h1, h2⟩
    exact ⟨q - B, by omega, by rw [h (q - B) (by omega)]; omega⟩
theorem JJ_B {D : Nat → Nat} {L : List LC} {B : Nat} (h : ∀ j, j < L.length → D j = B + j) : JJ D L := fun i j hi hj e => by rw [h i hi, h j hj] at e; omega
theorem va_S_inA {D : Nat → Nat} {L : List LC} {B : Nat} {H0 H : Heap} {locs : List Loc} (h : ∀ j, j < L.length → D j = B + j) : va_S (inA D L) H0 H locs ↔ va_S (fun q => B ≤ q ∧ q < B + L.length) H0 H locs := by
  have e : inA D L = (fun q => B ≤ q ∧ q < B + L.length) := funext fun q => propext (inA_B h q)
  rw [e]
/-- the rest of a constructor that makes nothing more -/
theorem KP.toWP {l : Launch} {G : va_G} {tc : Nat → ClassId} {B : Nat} {ini : Bool} {own : String} {cc : ByteArray} {nL : Nat} {rm : Room} {wc : Cond} {pc : Nat} {lv : List (Option Value)} {st : List Value} {es : List va_E} {cells slots : Nat} {Q : Nat → List (Option Value) → List Value → List va_E → Nat → Nat → Prop} {L : List LC} {D : Nat → Nat} {M : Mm} {Q' : Nat → List (Option Value) → List Value → Mm → Prop} (lvA : List (Option Value)) (stA : List Value) (hD : ∀ j, j < L.length → D j = B + j) (hes : es = esOf tc D M 0 L) (hlv : lv = lvA.map (Option.map (cv D))) (hst : st = stA.map (cv D)) (hcs : cells ≤ rm.cells ∧ slots ≤ rm.slots)
    (hw : WP l G tc D L (fun _ => True) own cc nL rm wc pc lvA stA M Q') (hq : ∀ pc' lv' st' M', Q' pc' lv' st' M' → Q pc' (lv'.map (Option.map (cv D))) (st'.map (cv D)) (esOf tc D M' 0 L) cells slots) : KP l G tc B L.length ini own cc nL rm wc pc lv st es cells slots Q := by
  subst hes
  subst hlv
  subst hst
  intro p e s m args below meth c Z hC hQ H locs ls hH
  have hDk : ∀ j, 0 ≤ j → j < 0 + L.length → D j = B + j := fun j _ h => hD j (by omega)
  have cvid : ∀ v : Value, cv (fun x => x) v = v := fun v => by cases v <;> rfl
  have lvto : ∀ (lv' : List (Option Value)) (ls' : Array Slot), lvH (fun x => x) ls' nL (lv'.map (Option.map (cv D))) ↔ lvH D ls' nL lv' := fun lv' ls' => by
    unfold lvH
    refine and_congr Iff.rfl (and_congr Iff.rfl ⟨fun h i v hi => ?_, fun h i v hi => ?_⟩)
    · have := h i (cv D v) (by rw [List.getElem?_map, hi]; rfl)
      rwa [cvid] at this
    · rw [List.getElem?_map] at hi
      cases hx : lv'[i]? with
      | none => rw [hx] at hi; cases hi
      | some o =>
        cases o with
        | none => rw [hx] at hi; cases hi
        | some w =>
          rw [hx] at hi
          simp at hi
          rw [cvid, ← hi]
          exact h i w hx
  have hP := hH.1
  have ew := esOf_wB (tc := tc) (M := M) (B := B) L 0 hDk
  rw [Nat.add_zero] at ew
  rw [ew] at hP
  refine hw p e s m args below meth c cells slots Z ⟨hC.1, hC.2.1, hC.2.2.1, hC.2.2.2.1, hC.2.2.2.2.1, hC.2.2.2.2.2.1, hC.2.2.2.2.2.2.1, trivial, JJ_B hD, hcs⟩ (fun pc' lv' st' M' H' locs' ls' hq' hH' => ?_) H locs ls ⟨hP, (va_S_inA hD).mpr hH.2.2.2.2.1, (lvto lvA ls).mp hH.2.2.2.2.2⟩
  refine W.szle (fun hsz => ?_)
  have ew' := esOf_wB (tc := tc) (M := M') (B := B) L 0 hDk
  rw [Nat.add_zero] at ew'
  have hP' := hH'.1
  rw [← ew'] at hP'
  have h3 := hH.2.2.1
  rw [esOf_len] at h3
  have hsz2 : H'.size = B + L.length := by
    have h0 := hH'.2.1.1
    rcases Nat.eq_zero_or_pos L.length with hz | hz
    · have h9 := hC.2.2.2.2.2.2.2.2.2
      omega
    · have hex : ∃ e', (esOf tc D M' 0 L)[L.length - 1]? = some e' := by
        rw [List.getElem?_eq_getElem (by rw [esOf_len]; omega)]; exact ⟨_, rfl⟩
      obtain ⟨e', he'⟩ := hex
      have := (hP' (L.length - 1) _ (wB_at he')).lt
      simp at this
      omega
  exact hQ pc' _ _ _ cells slots H' locs' ls' (hq pc' lv' st' M' hq') ⟨hP', by rw [esOf_len]; exact hsz2, by rw [esOf_len]; exact h3, by rw [esOf_len]; exact Nat.le_refl _, (va_S_inA hD).mp hH'.2.1, (lvto lv' ls').mpr hH'.2.2⟩
