/-! X9_hasBit -/
def rX9_hasBit : Room := { frames := 0, cells := 0, slots := 0, locals := 0 }
def FX9_hasBit (x1 : Int32) (x2 : Int32) (M : Mm) : Option Int32 :=
  (if ((x1 >>> (x2 &&& 31)) &&& 1) = 0 then some 0 else some 1)
theorem eFX9_hasBit (x1 : Int32) (x2 : Int32) (M : Mm) : FX9_hasBit x1 x2 M = (if ((x1 >>> (x2 &&& 31)) &&& 1) = 0 then some 0 else some 1) := rfl
set_option maxRecDepth 20000 in
theorem TX9_hasBit {l : Launch} {G : va_G} {tc : Nat → ClassId} {D : Nat → Nat} {x1 : Int32} {x2 : Int32} {M : Mm} {R : Int32} (h : FX9_hasBit x1 x2 M = some R) : WP l G tc D lay (fun _ => True) yX9_hasBit.cls cX9_hasBit 2 rX9_hasBit (.code yX9_hasBit cX9_hasBit 2 (some .boolean)) 0 (entL 2 [.int x1, .int x2]) [] M (RetQ cX9_hasBit (some .boolean) (RQI R M)) := by
  show WP l G tc D lay (fun _ => True) RX9 cX9_hasBit 2 rX9_hasBit (.code yX9_hasBit cX9_hasBit 2 (some .boolean)) 0 [some (.int x1), some (.int x2)] [] M (RetQ cX9_hasBit (some .boolean) (RQI R M))
  unfold FX9_hasBit at h
  refine WP.iload_n dX9_hasBit_0 rfl rfl ?_
  refine WP.iload_n dX9_hasBit_1 rfl rfl ?_
  refine WP.ishr dX9_hasBit_2 ?_
  refine WP.iconst (v := 1) dX9_hasBit_3 (by decide) ?_
  refine WP.iand dX9_hasBit_4 ?_
  refine WP.if_eq (tgt := 12) dX9_hasBit_5 (by decide) (fun c1 => ?_) (fun c1 => ?_)
  · rw [if_pos c1] at h
    refine WP.iconst (v := 0) dX9_hasBit_12 (by decide) ?_
    cases h
    exact WP.zret dX9_hasBit_13 (by decide) ⟨rfl, rfl⟩
  · rw [if_neg c1] at h
    refine WP.iconst (v := 1) dX9_hasBit_8 (by decide) ?_
    refine WP.goto (tgt := 13) dX9_hasBit_9 (by decide) ?_
    cases h
    exact WP.zret dX9_hasBit_13 (by decide) ⟨rfl, rfl⟩
/-! X9_truth -/
def rX9_truth : Room := { frames := 0, cells := 0, slots := 0, locals := 0 }
def FX9_truth (x1 : Int32) (M : Mm) : Option Int32 :=
  (if x1 = 0 then some 0 else some 1)
theorem eFX9_truth (x1 : Int32) (M : Mm) : FX9_truth x1 M = (if x1 = 0 then some 0 else some 1) := rfl
set_option maxRecDepth 20000 in
theorem TX9_truth {l : Launch} {G : va_G} {tc : Nat → ClassId} {D : Nat → Nat} {x1 : Int32} {M : Mm} {R : Int32} (h : FX9_truth x1 M = some R) : WP l G tc D lay (fun _ => True) yX9_truth.cls cX9_truth 1 rX9_truth (.code yX9_truth cX9_truth 1 (some .int)) 0 (entL 1 [.int x1]) [] M (RetQ cX9_truth (some .int) (RQI R M)) := by
  show WP l G tc D lay (fun _ => True) RX9 cX9_truth 1 rX9_truth (.code yX9_truth cX9_truth 1 (some .int)) 0 [some (.int x1)] [] M (RetQ cX9_truth (some .int) (RQI R M))
  unfold FX9_truth at h
  refine WP.iload_n dX9_truth_0 rfl rfl ?_
  refine WP.if_eq (tgt := 8) dX9_truth_1 (by decide) (fun c1 => ?_) (fun c1 => ?_)
  · rw [if_pos c1] at h
    refine WP.iconst (v := 0) dX9_truth_8 (by decide) ?_
    cases h
    exact WP.iret dX9_truth_9 ⟨rfl, rfl⟩
  · rw [if_neg c1] at h
    refine WP.iconst (v := 1) dX9_truth_4 (by decide) ?_
    refine WP.goto (tgt := 9) dX9_truth_5 (by decide) ?_
    cases h
    exact WP.iret dX9_truth_9 ⟨rfl, rfl⟩
/-! X9_isYes -/
def rX9_isYes : Room := { frames := 0, cells := 0, slots := 0, locals := 0 }
def FX9_isYes (x1 : Int32) (M : Mm) : Option Int32 :=
  (if x1 = (-2000000000) then some 0 else (if x1 = 0 then some 0 else some 1))
theorem eFX9_isYes (x1 : Int32) (M : Mm) : FX9_isYes x1 M = (if x1 = (-2000000000) then some 0 else (if x1 = 0 then some 0 else some 1)) := rfl
set_option maxRecDepth 20000 in
theorem TX9_isYes {l : Launch} {G : va_G} {tc : Nat → ClassId} {D : Nat → Nat} {x1 : Int32} {M : Mm} {R : Int32} (h : FX9_isYes x1 M = some R) : WP l G tc D lay (fun _ => True) yX9_isYes.cls cX9_isYes 1 rX9_isYes (.code yX9_isYes cX9_isYes 1 (some .boolean)) 0 (entL 1 [.int x1]) [] M (RetQ cX9_isYes (some .boolean) (RQI R M)) := by
  show WP l G tc D lay (fun _ => True) RX9 cX9_isYes 1 rX9_isYes (.code yX9_isYes cX9_isYes 1 (some .boolean)) 0 [some (.int x1)] [] M (RetQ cX9_isYes (some .boolean) (RQI R M))
  unfold FX9_isYes at h
  refine WP.iload_n dX9_isYes_0 rfl rfl ?_
  refine WP.ldc (v := (-2000000000)) dX9_isYes_1 wd_202 ?_
  refine WP.icmp_eq (tgt := 14) dX9_isYes_3 (by decide) (fun c1 => ?_) (fun c1 => ?_)
  · rw [if_pos c1] at h
    refine WP.iconst (v := 0) dX9_isYes_14 (by decide) ?_
    cases h
    exact WP.zret dX9_isYes_15 (by decide) ⟨rfl, rfl⟩
  · rw [if_neg c1] at h
    refine WP.iload_n dX9_isYes_6 rfl rfl ?_
    refine WP.if_eq (tgt := 14) dX9_isYes_7 (by decide) (fun c2 => ?_) (fun c2 => ?_)
    · rw [if_pos c2] at h
      refine WP.iconst (v := 0) dX9_isYes_14 (by decide) ?_
      cases h
      exact WP.zret dX9_isYes_15 (by decide) ⟨rfl, rfl⟩
    · rw [if_neg c2] at h
      refine WP.iconst (v := 1) dX9_isYes_10 (by decide) ?_
      refine WP.goto (tgt := 15) dX9_isYes_11 (by decide) ?_
      cases h
      exact WP.zret dX9_isYes_15 (by decide) ⟨rfl, rfl⟩
/-! X0_has -/
def rX0_has : Room := { frames := 0, cells := 0, slots := 0, locals := 0 }
def FX0_has (x1 : Int32) (M : Mm) : Option Int32 :=
  (if x1 < 0 then some 0 else (if (M.1 2 6) ≤ x1 then some 0 else some 1))
theorem eFX0_has (x1 : Int32) (M : Mm) : FX0_has x1 M = (if x1 < 0 then some 0 else (if (M.1 2 6) ≤ x1 then some 0 else some 1)) := rfl
set_option maxRecDepth 20000 in
theorem TX0_has {l : Launch} {G : va_G} {tc : Nat → ClassId} {D : Nat → Nat} {x1 : Int32} {M : Mm} {R : Int32} (h : FX0_has x1 M = some R) : WP l G tc D lay (fun _ => True) yX0_has.cls cX0_has 2 rX0_has (.code yX0_has cX0_has 2 (some .boolean)) 0 (entL 2 [.ref 2, .int x1]) [] M (RetQ cX0_has (some .boolean) (RQI R M)) := by
  show WP l G tc D lay (fun _ => True) RX0 cX0_has 2 rX0_has (.code yX0_has cX0_has 2 (some .boolean)) 0 [some (.ref 2), some (.int x1)] [] M (RetQ cX0_has (some .boolean) (RQI R M))
  unfold FX0_has at h
  refine WP.iload_n dX0_has_0 rfl rfl ?_
  refine WP.if_lt (tgt := 16) dX0_has_1 (by decide) (fun c1 => ?_) (fun c1 => ?_)
  · rw [if_pos c1] at h
    refine WP.iconst (v := 0) dX0_has_16 (by decide) ?_
    cases h
    exact WP.zret dX0_has_17 (by decide) ⟨rfl, rfl⟩
  · rw [if_neg c1] at h
    refine WP.iload_n dX0_has_4 rfl rfl ?_
    refine WP.aload_n dX0_has_5 rfl rfl ?_
    refine WP.getI (j := 6) dX0_has_6 rfl rfl in_X0 (by decide) wd_105 rfl ?_
    refine WP.icmp_ge (tgt := 16) dX0_has_9 (by decide) (fun c2 => ?_) (fun c2 => ?_)
    · rw [if_pos c2] at h
      refine WP.iconst (v := 0) dX0_has_16 (by decide) ?_
      cases h
      exact WP.zret dX0_has_17 (by decide) ⟨rfl, rfl⟩
    · rw [if_neg c2] at h
      refine WP.iconst (v := 1) dX0_has_12 (by decide) ?_
      refine WP.goto (tgt := 17) dX0_has_13 (by decide) ?_
      cases h
      exact WP.zret dX0_has_17 (by decide) ⟨rfl, rfl⟩
/-! J7_fill_53178 -/
def rJ7_fill_53178 : Room := { frames := 0, cells := 0, slots := 0, locals := 0 }
def BJ7_fill_53178_5 (N : Nat) (k1 n : Nat) (K5 : Int32 × Int32 × Int32 × Mm → Option Mm) (q : Int32 × Int32 × Int32 × Mm) : Option Mm :=
  (if q.2.2.1 ≤ q.2.1 then some q.2.2.2 else (wrI q.2.2.2 k1 n q.2.1 q.1).bind fun M2 => K5 (q.1, (q.2.1 + 1), q.2.2.1, M2))
def FJ7_fill_53178 (N : Nat) (k1 n : Nat) (x2 : Int32) (M : Mm) : Option Mm :=
  lp (BJ7_fill_53178_5 N k1 n) N (x2, 0, (Int32.ofNat n), M)
theorem eBJ7_fill_53178_5 (N : Nat) (k1 n : Nat) (K5 : Int32 × Int32 × Int32 × Mm → Option Mm) (q : Int32 × Int32 × Int32 × Mm) : BJ7_fill_53178_5 N k1 n K5 q = (if q.2.2.1 ≤ q.2.1 then some q.2.2.2 else (wrI q.2.2.2 k1 n q.2.1 q.1).bind fun M2 => K5 (q.1, (q.2.1 + 1), q.2.2.1, M2)) := rfl
theorem eFJ7_fill_53178 (N : Nat) (k1 n : Nat) (x2 : Int32) (M : Mm) : FJ7_fill_53178 N k1 n x2 M = lp (BJ7_fill_53178_5 N k1 n) N (x2, 0, (Int32.ofNat n), M) := rfl
set_option maxRecDepth 20000 in
theorem tJ7_fill_53178_5 {l : Launch} {G : va_G} {tc : Nat → ClassId} {D : Nat → Nat} {L : List LC} {N : Nat} {k1 n : Nat} (hk1 : L[k1]? = some (.inr (.inl (0, n)))) : ∀ (nn : Nat) (q : Int32 × Int32 × Int32 × Mm) (R : Mm), lp (BJ7_fill_53178_5 N k1 n) nn q = some R → WP l G tc D L (fun _ => True) RJ7 cJ7_fill_53178 4 rJ7_fill_53178 (.code yJ7_fill_53178 cJ7_fill_53178 4 none) 5 [some (.ref k1), some (.int q.1), some (.int q.2.1), some (.int q.2.2.1)] [] q.2.2.2 (RetQ cJ7_fill_53178 none (RQV R)) := by
  refine lp_ind (fun K5 hK5q q R h => ?_)
  have hK5 : ∀ (z0 : Int32) (z1 : Int32) (z2 : Int32) (z3 : Mm) (R : Mm), K5 (z0, z1, z2, z3) = some R → WP l G tc D L (fun _ => True) RJ7 cJ7_fill_53178 4 rJ7_fill_53178 (.code yJ7_fill_53178 cJ7_fill_53178 4 none) 5 [some (.ref k1), some (.int z0), some (.int z1), some (.int z2)] [] z3 (RetQ cJ7_fill_53178 none (RQV R)) := fun z0 z1 z2 z3 R hh => hK5q (z0, z1, z2, z3) R hh
  unfold BJ7_fill_53178_5 at h
  refine WP.iload_n dJ7_fill_53178_5 rfl rfl ?_
  refine WP.iload_n dJ7_fill_53178_6 rfl rfl ?_
  refine WP.icmp_ge (tgt := 20) dJ7_fill_53178_7 (by decide) (fun c1 => ?_) (fun c1 => ?_)
  · rw [if_pos c1] at h
    cases h
    exact WP.vret dJ7_fill_53178_20 ⟨rfl, rfl⟩
  · rw [if_neg c1] at h
    refine WP.aload_n dJ7_fill_53178_10 rfl rfl ?_
    refine WP.iload_n dJ7_fill_53178_11 rfl rfl ?_
    refine WP.iload_n dJ7_fill_53178_12 rfl rfl ?_
    obtain ⟨M2, h3, h⟩ := Option.bind_eq_some_iff.mp h
    refine WP.iastQ dJ7_fill_53178_13 hk1 h3 ?_
    refine WP.iinc (v := (q.2.1 + 1)) dJ7_fill_53178_14 rfl rfl (by decide) rfl rfl ?_
    refine WP.goto (tgt := 5) dJ7_fill_53178_17 (by decide) ?_
    refine WP.fgt [true, true, true, true] rfl ?_
    exact hK5 q.1 (q.2.1 + 1) q.2.2.1 M2 _ h
theorem uJ7_fill_53178_5 {l : Launch} {G : va_G} {tc : Nat → ClassId} {D : Nat → Nat} {L : List LC} {N : Nat} {k1 n : Nat} (hk1 : L[k1]? = some (.inr (.inl (0, n)))) (nn : Nat) : ∀ (z0 : Int32) (z1 : Int32) (z2 : Int32) (z3 : Mm) (R : Mm), lp (BJ7_fill_53178_5 N k1 n) nn (z0, z1, z2, z3) = some R → WP l G tc D L (fun _ => True) RJ7 cJ7_fill_53178 4 rJ7_fill_53178 (.code yJ7_fill_53178 cJ7_fill_53178 4 none) 5 [some (.ref k1), some (.int z0), some (.int z1), some (.int z2)] [] z3 (RetQ cJ7_fill_53178 none (RQV R)) := fun z0 z1 z2 z3 R hh => tJ7_fill_53178_5 hk1 nn (z0, z1, z2, z3) R hh
set_option maxRecDepth 20000 in
theorem TJ7_fill_53178 {l : Launch} {G : va_G} {tc : Nat → ClassId} {D : Nat → Nat} {L : List LC} {N : Nat} {k1 n : Nat} {x2 : Int32} {M : Mm} (hk1 : L[k1]? = some (.inr (.inl (0, n)))) {R : Mm} (h : FJ7_fill_53178 N k1 n x2 M = some R) : WP l G tc D L (fun _ => True) yJ7_fill_53178.cls cJ7_fill_53178 4 rJ7_fill_53178 (.code yJ7_fill_53178 cJ7_fill_53178 4 none) 0 (entL 4 [.ref k1, .int x2]) [] M (RetQ cJ7_fill_53178 none (RQV R)) := by
  show WP l G tc D L (fun _ => True) RJ7 cJ7_fill_53178 4 rJ7_fill_53178 (.code yJ7_fill_53178 cJ7_fill_53178 4 none) 0 [some (.ref k1), some (.int x2), none, none] [] M (RetQ cJ7_fill_53178 none (RQV R))
  unfold FJ7_fill_53178 at h
  refine WP.iconst (v := 0) dJ7_fill_53178_0 (by decide) ?_
  refine WP.istore_n dJ7_fill_53178_1 rfl (by decide) rfl rfl ?_
  refine WP.aload_n dJ7_fill_53178_2 rfl rfl ?_
  refine WP.alen dJ7_fill_53178_3 hk1 rfl ?_
  refine WP.istore_n dJ7_fill_53178_4 rfl (by decide) rfl rfl ?_
  refine WP.fgt [true, true, true, true] rfl ?_
  exact uJ7_fill_53178_5 hk1 N x2 0 (Int32.ofNat n) M _ h
/-! X0_add -/
def rX0_add : Room := { frames := 1, cells := 0, slots := 0, locals := 23 }
def FX0_add (N : Nat) (x1 : Int32) (x2 : Int32) (x3 : Int32) (M : Mm) : Option (Int32 × Mm) :=
  (if (M.1 2 6) < 12 then (wrI M 3 12 (M.1 2 6) x1).bind fun M2 => (wrI M2 4 12 (M2.1 2 6) x2).bind fun M4 => (wrZ M4 5 12 (M4.1 2 6) x3).bind fun M6 => (ckR 7 12 (M6.1 2 6)).bind fun k8 => (FJ7_fill_53178 N k8 4 (-9) M6).bind fun M11 => (wrF M11 2 6 ((M11.1 2 6) + 1)).bind fun M12 => some (((M12.1 2 6) - 1), M12) else some ((-4), M))
theorem eFX0_add (N : Nat) (x1 : Int32) (x2 : Int32) (x3 : Int32) (M : Mm) : FX0_add N x1 x2 x3 M = (if (M.1 2 6) < 12 then (wrI M 3 12 (M.1 2 6) x1).bind fun M2 => (wrI M2 4 12 (M2.1 2 6) x2).bind fun M4 => (wrZ M4 5 12 (M4.1 2 6) x3).bind fun M6 => (ckR 7 12 (M6.1 2 6)).bind fun k8 => (FJ7_fill_53178 N k8 4 (-9) M6).bind fun M11 => (wrF M11 2 6 ((M11.1 2 6) + 1)).bind fun M12 => some (((M12.1 2 6) - 1), M12) else some ((-4), M)) := rfl
set_option maxRecDepth 20000 in
theorem TX0_add {l : Launch} {G : va_G} {tc : Nat → ClassId} {D : Nat → Nat} {N : Nat} {x1 : Int32} {x2 : Int32} {x3 : Int32} {M : Mm} {R : (Int32 × Mm)} (h : FX0_add N x1 x2 x3 M = some R) : WP l G tc D lay (fun _ => True) yX0_add.cls cX0_add 4 rX0_add (.code yX0_add cX0_add 4 (some .int)) 0 (entL 4 [.ref 2, .int x1, .int x2, .int x3]) [] M (RetQ cX0_add (some .int) (RQI R.1 R.2)) := by
  show WP l G tc D lay (fun _ => True) RX0 cX0_add 4 rX0_add (.code yX0_add cX0_add 4 (some .int)) 0 [some (.ref 2), some (.int x1), some (.int x2), some (.int x3)] [] M (RetQ cX0_add (some .int) (RQI R.1 R.2))
  unfold FX0_add at h
  refine WP.aload_n dX0_add_0 rfl rfl ?_
  refine WP.getI (j := 6) dX0_add_1 rfl rfl in_X0 (by decide) wd_105 rfl ?_
  refine WP.bipush (v := 12) dX0_add_4 (by decide) ?_
  refine WP.icmp_lt (tgt := 12) dX0_add_6 (by decide) (fun c1 => ?_) (fun c1 => ?_)
  · rw [if_pos c1] at h
    refine WP.aload_n dX0_add_12 rfl rfl ?_
    refine WP.getR (j := 0) dX0_add_13 rfl rfl in_X0 (by decide) wd_81 rfl ?_
    refine WP.aload_n dX0_add_16 rfl rfl ?_
    refine WP.getI (j := 6) dX0_add_17 rfl rfl in_X0 (by decide) wd_105 rfl ?_
    refine WP.iload_n dX0_add_20 rfl rfl ?_
    obtain ⟨M2, h3, h⟩ := Option.bind_eq_some_iff.mp h
    refine WP.iastQ dX0_add_21 rfl h3 ?_
    refine WP.aload_n dX0_add_22 rfl rfl ?_
    refine WP.getR (j := 1) dX0_add_23 rfl rfl in_X0 (by decide) wd_85 rfl ?_
    refine WP.aload_n dX0_add_26 rfl rfl ?_
    refine WP.getI (j := 6) dX0_add_27 rfl rfl in_X0 (by decide) wd_105 rfl ?_
    refine WP.iload_n dX0_add_30 rfl rfl ?_
    obtain ⟨M4, h5, h⟩ := Option.bind_eq_some_iff.mp h
    refine WP.iastQ dX0_add_31 rfl h5 ?_
    refine WP.aload_n dX0_add_32 rfl rfl ?_
    refine WP.getR (j := 2) dX0_add_33 rfl rfl in_X0 (by decide) wd_89 rfl ?_
    refine WP.aload_n dX0_add_36 rfl rfl ?_
    refine WP.getI (j := 6) dX0_add_37 rfl rfl in_X0 (by decide) wd_105 rfl ?_
    refine WP.iload_n dX0_add_40 rfl rfl ?_
    obtain ⟨M6, h7, h⟩ := Option.bind_eq_some_iff.mp h
    refine WP.zastQ dX0_add_41 rfl h7 ?_
    refine WP.aload_n dX0_add_42 rfl rfl ?_
    refine WP.getR (j := 3) dX0_add_43 rfl rfl in_X0 (by decide) wd_93 rfl ?_
    refine WP.aload_n dX0_add_46 rfl rfl ?_
    refine WP.getI (j := 6) dX0_add_47 rfl rfl in_X0 (by decide) wd_105 rfl ?_
    obtain ⟨k8, h9, h⟩ := Option.bind_eq_some_iff.mp h
    refine WP.aaldQ (base := 7) (n := 12) dX0_add_50 rfl rfl h9 ?_
    have hk8 := rows_6 h9
    refine WP.bipush (v := (-9)) dX0_add_51 (by decide) ?_
    obtain ⟨M11, h10, h⟩ := Option.bind_eq_some_iff.mp h
    refine WP.callSV [.ref k8, .int (-9)] dX0_add_53 lk_X0_37 rfl (Nat.le_of_ble_eq_true rfl) (by decide) (Nat.le_of_ble_eq_true rfl) rfl (TJ7_fill_53178 (k1 := k8) (n := 4) hk8 h10) ?_
    refine WP.aload_n dX0_add_56 rfl rfl ?_
    refine WP.dup dX0_add_57 rfl ?_
    refine WP.getI (j := 6) dX0_add_58 rfl rfl in_X0 (by decide) wd_105 rfl ?_
    refine WP.iconst (v := 1) dX0_add_61 (by decide) ?_
    refine WP.iadd dX0_add_62 ?_
    obtain ⟨M12, h13, h⟩ := Option.bind_eq_some_iff.mp h
    refine WP.putF (j := 6) (ty := .int) dX0_add_63 rfl rfl in_X0 tyX0_ok nmX0 (by decide) wd_105 rfl (by decide +kernel) rfl rfl rfl h13 ?_
    refine WP.aload_n dX0_add_66 rfl rfl ?_
    refine WP.getI (j := 6) dX0_add_67 rfl rfl in_X0 (by decide) wd_105 rfl ?_
    refine WP.iconst (v := 1) dX0_add_70 (by decide) ?_
    refine WP.isub dX0_add_71 ?_
    cases h
    exact WP.iret dX0_add_72 ⟨rfl, rfl⟩
  · rw [if_neg c1] at h
    refine WP.bipush (v := (-4)) dX0_add_9 (by decide) ?_
    cases h
    exact WP.iret dX0_add_11 ⟨rfl, rfl⟩
/-! X0_inSpan -/
def rX0_inSpan : Room := { frames := 0, cells := 0, slots := 0, locals := 0 }
def FX0_inSpan (x1 : Int32) (x2 : Int32) (M : Mm) : Option Int32 :=
  (rdI M 3 12 x1).bind fun v1 => (if x2 < v1 then some 0 else (rdI M 4 12 x1).bind fun v4 => (if v4 < x2 then some 0 else some 1))
theorem eFX0_inSpan (x1 : Int32) (x2 : Int32) (M : Mm) : FX0_inSpan x1 x2 M = (rdI M 3 12 x1).bind fun v1 => (if x2 < v1 then some 0 else (rdI M 4 12 x1).bind fun v4 => (if v4 < x2 then some 0 else some 1)) := rfl
set_option maxRecDepth 20000 in
theorem TX0_inSpan {l : Launch} {G : va_G} {tc : Nat → ClassId} {D : Nat → Nat} {x1 : Int32} {x2 : Int32} {M : Mm} {R : Int32} (h : FX0_inSpan x1 x2 M = some R) : WP l G tc D lay (fun _ => True) yX0_inSpan.cls cX0_inSpan 3 rX0_inSpan (.code yX0_inSpan cX0_inSpan 3 (some .boolean)) 0 (entL 3 [.ref 2, .int x1, .int x2]) [] M (RetQ cX0_inSpan (some .boolean) (RQI R M)) := by
  show WP l G tc D lay (fun _ => True) RX0 cX0_inSpan 3 rX0_inSpan (.code yX0_inSpan cX0_inSpan 3 (some .boolean)) 0 [some (.ref 2), some (.int x1), some (.int x2)] [] M (RetQ cX0_inSpan (some .boolean) (RQI R M))
  unfold FX0_inSpan at h
  refine WP.iload_n dX0_inSpan_0 rfl rfl ?_
  refine WP.aload_n dX0_inSpan_1 rfl rfl ?_
  refine WP.getR (j := 0) dX0_inSpan_2 rfl rfl in_X0 (by decide) wd_81 rfl ?_
  refine WP.iload_n dX0_inSpan_5 rfl rfl ?_
  obtain ⟨v1, h2, h⟩ := Option.bind_eq_some_iff.mp h
  refine WP.ialdQ dX0_inSpan_6 rfl h2 ?_
  refine WP.icmp_lt (tgt := 24) dX0_inSpan_7 (by decide) (fun c3 => ?_) (fun c3 => ?_)
  · rw [if_pos c3] at h
    refine WP.iconst (v := 0) dX0_inSpan_24 (by decide) ?_
    cases h
    exact WP.zret dX0_inSpan_25 (by decide) ⟨rfl, rfl⟩
  · rw [if_neg c3] at h
    refine WP.iload_n dX0_inSpan_10 rfl rfl ?_
    refine WP.aload_n dX0_inSpan_11 rfl rfl ?_
    refine WP.getR (j := 1) dX0_inSpan_12 rfl rfl in_X0 (by decide) wd_85 rfl ?_
    refine WP.iload_n dX0_inSpan_15 rfl rfl ?_
    obtain ⟨v4, h5, h⟩ := Option.bind_eq_some_iff.mp h
    refine WP.ialdQ dX0_inSpan_16 rfl h5 ?_
    refine WP.icmp_gt (tgt := 24) dX0_inSpan_17 (by decide) (fun c6 => ?_) (fun c6 => ?_)
    · rw [if_pos c6] at h
      refine WP.iconst (v := 0) dX0_inSpan_24 (by decide) ?_
      cases h
      exact WP.zret dX0_inSpan_25 (by decide) ⟨rfl, rfl⟩
    · rw [if_neg c6] at h
      refine WP.iconst (v := 1) dX0_inSpan_20 (by decide) ?_
      refine WP.goto (tgt := 25) dX0_inSpan_21 (by decide) ?_
      cases h
      exact WP.zret dX0_inSpan_25 (by decide) ⟨rfl, rfl⟩
/-! X0_askedBits -/
def rX0_askedBits : Room := { frames := 0, cells := 0, slots := 0, locals := 0 }
def BX0_askedBits_4 (N : Nat) (M : Mm) (K4 : Int32 × Int32 → Option Int32) (q : Int32 × Int32) : Option Int32 :=
  (if (M.1 2 6) ≤ q.2 then some q.1 else (rdI M 5 12 q.2).bind fun v2 => (if v2 = 0 then K4 ((q.1 ||| ((1 : Int32) <<< (q.2 &&& 31))), (q.2 + 1)) else K4 (q.1, (q.2 + 1))))
def FX0_askedBits (N : Nat) (M : Mm) : Option Int32 :=
  lp (BX0_askedBits_4 N M) N (0, 0)
theorem eBX0_askedBits_4 (N : Nat) (M : Mm) (K4 : Int32 × Int32 → Option Int32) (q : Int32 × Int32) : BX0_askedBits_4 N M K4 q = (if (M.1 2 6) ≤ q.2 then some q.1 else (rdI M 5 12 q.2).bind fun v2 => (if v2 = 0 then K4 ((q.1 ||| ((1 : Int32) <<< (q.2 &&& 31))), (q.2 + 1)) else K4 (q.1, (q.2 + 1)))) := rfl
theorem eFX0_askedBits (N : Nat) (M : Mm) : FX0_askedBits N M = lp (BX0_askedBits_4 N M) N (0, 0) := rfl
set_option maxRecDepth 20000 in
theorem tX0_askedBits_4 {l : Launch} {G : va_G} {tc : Nat → ClassId} {D : Nat → Nat} {N : Nat} {M : Mm} : ∀ (nn : Nat) (q : Int32 × Int32) (R : Int32), lp (BX0_askedBits_4 N M) nn q = some R → WP l G tc D lay (fun _ => True) RX0 cX0_askedBits 3 rX0_askedBits (.code yX0_askedBits cX0_askedBits 3 (some .int)) 4 [some (.ref 2), some (.int q.1), some (.int q.2)] [] M (RetQ cX0_askedBits (some .int) (RQI R M)) := by
  refine lp_ind (fun K4 hK4q q R h => ?_)
  have hK4 : ∀ (z0 : Int32) (z1 : Int32) (R : Int32), K4 (z0, z1) = some R → WP l G tc D lay (fun _ => True) RX0 cX0_askedBits 3 rX0_askedBits (.code yX0_askedBits cX0_askedBits 3 (some .int)) 4 [some (.ref 2), some (.int z0), some (.int z1)] [] M (RetQ cX0_askedBits (some .int) (RQI R M)) := fun z0 z1 R hh => hK4q (z0, z1) R hh
  unfold BX0_askedBits_4 at h
  refine WP.iload_n dX0_askedBits_4 rfl rfl ?_
  refine WP.aload_n dX0_askedBits_5 rfl rfl ?_
  refine WP.getI (j := 6) dX0_askedBits_6 rfl rfl in_X0 (by decide) wd_105 rfl ?_
  refine WP.icmp_ge (tgt := 33) dX0_askedBits_9 (by decide) (fun c1 => ?_) (fun c1 => ?_)
  · rw [if_pos c1] at h
    refine WP.iload_n dX0_askedBits_33 rfl rfl ?_
    cases h
    exact WP.iret dX0_askedBits_34 ⟨rfl, rfl⟩
  · rw [if_neg c1] at h
    refine WP.aload_n dX0_askedBits_12 rfl rfl ?_
    refine WP.getR (j := 2) dX0_askedBits_13 rfl rfl in_X0 (by decide) wd_89 rfl ?_
    refine WP.iload_n dX0_askedBits_16 rfl rfl ?_
    obtain ⟨v2, h3, h⟩ := Option.bind_eq_some_iff.mp h
    refine WP.zaldQ dX0_askedBits_17 rfl h3 ?_
    refine WP.if_ne (tgt := 27) dX0_askedBits_18 (by decide) (fun c4 => ?_) (fun c4 => ?_)
    · rw [if_neg c4] at h
      refine WP.iinc (v := (q.2 + 1)) dX0_askedBits_27 rfl rfl (by decide) rfl rfl ?_
      refine WP.goto (tgt := 4) dX0_askedBits_30 (by decide) ?_
      refine WP.fgt [true, true, true] rfl ?_
      exact hK4 q.1 (q.2 + 1) _ h
    · rw [if_pos c4] at h
      refine WP.iload_n dX0_askedBits_21 rfl rfl ?_
      refine WP.iconst (v := 1) dX0_askedBits_22 (by decide) ?_
      refine WP.iload_n dX0_askedBits_23 rfl rfl ?_
      refine WP.ishl dX0_askedBits_24 ?_
      refine WP.ior dX0_askedBits_25 ?_
      refine WP.istore_n dX0_askedBits_26 rfl (by decide) rfl rfl ?_
      refine WP.iinc (v := (q.2 + 1)) dX0_askedBits_27 rfl rfl (by decide) rfl rfl ?_
      refine WP.goto (tgt := 4) dX0_askedBits_30 (by decide) ?_
      refine WP.fgt [true, true, true] rfl ?_
      exact hK4 (q.1 ||| ((1 : Int32) <<< (q.2 &&& 31))) (q.2 + 1) _ h
theorem uX0_askedBits_4 {l : Launch} {G : va_G} {tc : Nat → ClassId} {D : Nat → Nat} {N : Nat} {M : Mm} (nn : Nat) : ∀ (z0 : Int32) (z1 : Int32) (R : Int32), lp (BX0_askedBits_4 N M) nn (z0, z1) = some R → WP l G tc D lay (fun _ => True) RX0 cX0_askedBits 3 rX0_askedBits (.code yX0_askedBits cX0_askedBits 3 (some .int)) 4 [some (.ref 2), some (.int z0), some (.int z1)] [] M (RetQ cX0_askedBits (some .int) (RQI R M)) := fun z0 z1 R hh => tX0_askedBits_4  nn (z0, z1) R hh
set_option maxRecDepth 20000 in
theorem TX0_askedBits {l : Launch} {G : va_G} {tc : Nat → ClassId} {D : Nat → Nat} {N : Nat} {M : Mm} {R : Int32} (h : FX0_askedBits N M = some R) : WP l G tc D lay (fun _ => True) yX0_askedBits.cls cX0_askedBits 3 rX0_askedBits (.code yX0_askedBits cX0_askedBits 3 (some .int)) 0 (entL 3 [.ref 2]) [] M (RetQ cX0_askedBits (some .int) (RQI R M)) := by
  show WP l G tc D lay (fun _ => True) RX0 cX0_askedBits 3 rX0_askedBits (.code yX0_askedBits cX0_askedBits 3 (some .int)) 0 [some (.ref 2), none, none] [] M (RetQ cX0_askedBits (some .int) (RQI R M))
  unfold FX0_askedBits at h
  refine WP.iconst (v := 0) dX0_askedBits_0 (by decide) ?_
  refine WP.istore_n dX0_askedBits_1 rfl (by decide) rfl rfl ?_
  refine WP.iconst (v := 0) dX0_askedBits_2 (by decide) ?_
  refine WP.istore_n dX0_askedBits_3 rfl (by decide) rfl rfl ?_
  refine WP.fgt [true, true, true] rfl ?_
  exact uX0_askedBits_4  N 0 0 _ h
/-! X0_hangersOn -/
def rX0_hangersOn : Room := { frames := 1, cells := 0, slots := 0, locals := 21 }
def BX0_hangersOn_4 (N : Nat) (M : Mm) (K4 : Int32 × Int32 × Int32 → Option Int32) (q : Int32 × Int32 × Int32) : Option Int32 :=
  (if (M.1 2 6) ≤ q.2.2 then some q.2.1 else (rdI M 20 12 q.2.2).bind fun v2 => (FX9_hasBit v2 q.1 M).bind fun r5 => (FX9_truth r5 M).bind fun r7 => K4 (q.1, (q.2.1 + r7), (q.2.2 + 1)))
def FX0_hangersOn (N : Nat) (x1 : Int32) (M : Mm) : Option Int32 :=
  lp (BX0_hangersOn_4 N M) N (x1, 0, 0)
theorem eBX0_hangersOn_4 (N : Nat) (M : Mm) (K4 : Int32 × Int32 × Int32 → Option Int32) (q : Int32 × Int32 × Int32) : BX0_hangersOn_4 N M K4 q = (if (M.1 2 6) ≤ q.2.2 then some q.2.1 else (rdI M 20 12 q.2.2).bind fun v2 => (FX9_hasBit v2 q.1 M).bind fun r5 => (FX9_truth r5 M).bind fun r7 => K4 (q.1, (q.2.1 + r7), (q.2.2 + 1))) := rfl
theorem eFX0_hangersOn (N : Nat) (x1 : Int32) (M : Mm) : FX0_hangersOn N x1 M = lp (BX0_hangersOn_4 N M) N (x1, 0, 0) := rfl
set_option maxRecDepth 20000 in
theorem tX0_hangersOn_4 {l : Launch} {G : va_G} {tc : Nat → ClassId} {D : Nat → Nat} {N : Nat} {M : Mm} : ∀ (nn : Nat) (q : Int32 × Int32 × Int32) (R : Int32), lp (BX0_hangersOn_4 N M) nn q = some R → WP l G tc D lay (fun _ => True) RX0 cX0_hangersOn 4 rX0_hangersOn (.code yX0_hangersOn cX0_hangersOn 4 (some .int)) 4 [some (.ref 2), some (.int q.1), some (.int q.2.1), some (.int q.2.2)] [] M (RetQ cX0_hangersOn (some .int) (RQI R M)) := by
  refine lp_ind (fun K4 hK4q q R h => ?_)
  have hK4 : ∀ (z0 : Int32) (z1 : Int32) (z2 : Int32) (R : Int32), K4 (z0, z1, z2) = some R → WP l G tc D lay (fun _ => True) RX0 cX0_hangersOn 4 rX0_hangersOn (.code yX0_hangersOn cX0_hangersOn 4 (some .int)) 4 [some (.ref 2), some (.int z0), some (.int z1), some (.int z2)] [] M (RetQ cX0_hangersOn (some .int) (RQI R M)) := fun z0 z1 z2 R hh => hK4q (z0, z1, z2) R hh
  unfold BX0_hangersOn_4 at h
  refine WP.iload_n dX0_hangersOn_4 rfl rfl ?_
  refine WP.aload_n dX0_hangersOn_5 rfl rfl ?_
  refine WP.getI (j := 6) dX0_hangersOn_6 rfl rfl in_X0 (by decide) wd_105 rfl ?_
  refine WP.icmp_ge (tgt := 34) dX0_hangersOn_9 (by decide) (fun c1 => ?_) (fun c1 => ?_)
  · rw [if_pos c1] at h
    refine WP.iload_n dX0_hangersOn_34 rfl rfl ?_
    cases h
    exact WP.iret dX0_hangersOn_35 ⟨rfl, rfl⟩
  · rw [if_neg c1] at h
    refine WP.iload_n dX0_hangersOn_12 rfl rfl ?_
    refine WP.aload_n dX0_hangersOn_13 rfl rfl ?_
    refine WP.getR (j := 5) dX0_hangersOn_14 rfl rfl in_X0 (by decide) wd_101 rfl ?_
    refine WP.iload_n dX0_hangersOn_17 rfl rfl ?_
    obtain ⟨v2, h3, h⟩ := Option.bind_eq_some_iff.mp h
    refine WP.ialdQ dX0_hangersOn_18 rfl h3 ?_
    refine WP.iload_n dX0_hangersOn_19 rfl rfl ?_
    obtain ⟨r5, h4, h⟩ := Option.bind_eq_some_iff.mp h
    refine WP.callNI [.int v2, .int q.1] dX0_hangersOn_20 lk_X0_43 rfl (Nat.le_of_ble_eq_true rfl) (by decide) (Nat.le_of_ble_eq_true rfl) rfl (TX9_hasBit h4) ?_
    obtain ⟨r7, h6, h⟩ := Option.bind_eq_some_iff.mp h
    refine WP.callNI [.int r5] dX0_hangersOn_23 lk_X0_47 rfl (Nat.le_of_ble_eq_true rfl) (by decide) (Nat.le_of_ble_eq_true rfl) rfl (TX9_truth h6) ?_
    refine WP.iadd dX0_hangersOn_26 ?_
    refine WP.istore_n dX0_hangersOn_27 rfl (by decide) rfl rfl ?_
    refine WP.iinc (v := (q.2.2 + 1)) dX0_hangersOn_28 rfl rfl (by decide) rfl rfl ?_
    refine WP.goto (tgt := 4) dX0_hangersOn_31 (by decide) ?_
    refine WP.fgt [true, true, true, true] rfl ?_
    exact hK4 q.1 (q.2.1 + r7) (q.2.2 + 1) _ h
theorem uX0_hangersOn_4 {l : Launch} {G : va_G} {tc : Nat → ClassId} {D : Nat → Nat} {N : Nat} {M : Mm} (nn : Nat) : ∀ (z0 : Int32) (z1 : Int32) (z2 : Int32) (R : Int32), lp (BX0_hangersOn_4 N M) nn (z0, z1, z2) = some R → WP l G tc D lay (fun _ => True) RX0 cX0_hangersOn 4 rX0_hangersOn (.code yX0_hangersOn cX0_hangersOn 4 (some .int)) 4 [some (.ref 2), some (.int z0), some (.int z1), some (.int z2)] [] M (RetQ cX0_hangersOn (some .int) (RQI R M)) := fun z0 z1 z2 R hh => tX0_hangersOn_4  nn (z0, z1, z2) R hh
set_option maxRecDepth 20000 in
theorem TX0_hangersOn {l : Launch} {G : va_G} {tc : Nat → ClassId} {D : Nat → Nat} {N : Nat} {x1 : Int32} {M : Mm} {R : Int32} (h : FX0_hangersOn N x1 M = some R) : WP l G tc D lay (fun _ => True) yX0_hangersOn.cls cX0_hangersOn 4 rX0_hangersOn (.code yX0_hangersOn cX0_hangersOn 4 (some .int)) 0 (entL 4 [.ref 2, .int x1]) [] M (RetQ cX0_hangersOn (some .int) (RQI R M)) := by
  show WP l G tc D lay (fun _ => True) RX0 cX0_hangersOn 4 rX0_hangersOn (.code yX0_hangersOn cX0_hangersOn 4 (some .int)) 0 [some (.ref 2), some (.int x1), none, none] [] M (RetQ cX0_hangersOn (some .int) (RQI R M))
  unfold FX0_hangersOn at h
  refine WP.iconst (v := 0) dX0_hangersOn_0 (by decide) ?_
  refine WP.istore_n dX0_hangersOn_1 rfl (by decide) rfl rfl ?_
  refine WP.iconst (v := 0) dX0_hangersOn_2 (by decide) ?_
  refine WP.istore_n dX0_hangersOn_3 rfl (by decide) rfl rfl ?_
  refine WP.fgt [true, true, true, true] rfl ?_
  exact uX0_hangersOn_4  N x1 0 0 _ h
/-! X0_spread -/
def rX0_spread : Room := { frames := 1, cells := 0, slots := 0, locals := 21 }
def BX0_spread_4 (N : Nat) (M : Mm) (K4 : Int32 × Int32 × Int32 → Option Int32) (q : Int32 × Int32 × Int32) : Option Int32 :=
  (if (M.1 2 6) ≤ q.2.2 then some q.2.1 else (FX9_hasBit q.1 q.2.2 M).bind fun r3 => (if r3 = 0 then K4 (q.1, q.2.1, (q.2.2 + 1)) else (rdI M 20 12 q.2.2).bind fun v5 => K4 (q.1, (q.2.1 ||| v5), (q.2.2 + 1))))
def FX0_spread (N : Nat) (x1 : Int32) (M : Mm) : Option Int32 :=
  lp (BX0_spread_4 N M) N (x1, x1, 0)
theorem eBX0_spread_4 (N : Nat) (M : Mm) (K4 : Int32 × Int32 × Int32 → Option Int32) (q : Int32 × Int32 × Int32) : BX0_spread_4 N M K4 q = (if (M.1 2 6) ≤ q.2.2 then some q.2.1 else (FX9_hasBit q.1 q.2.2 M).bind fun r3 => (if r3 = 0 then K4 (q.1, q.2.1, (q.2.2 + 1)) else (rdI M 20 12 q.2.2).bind fun v5 => K4 (q.1, (q.2.1 ||| v5), (q.2.2 + 1)))) := rfl
theorem eFX0_spread (N : Nat) (x1 : Int32) (M : Mm) : FX0_spread N x1 M = lp (BX0_spread_4 N M) N (x1, x1, 0) := rfl
set_option maxRecDepth 20000 in
theorem tX0_spread_4 {l : Launch} {G : va_G} {tc : Nat → ClassId} {D : Nat → Nat} {N : Nat} {M : Mm} : ∀ (nn : Nat) (q : Int32 × Int32 × Int32) (R : Int32), lp (BX0_spread_4 N M) nn q = some R → WP l G tc D lay (fun _ => True) RX0 cX0_spread 4 rX0_spread (.code yX0_spread cX0_spread 4 (some .int)) 4 [some (.ref 2), some (.int q.1), some (.int q.2.1), some (.int q.2.2)] [] M (RetQ cX0_spread (some .int) (RQI R M)) := by
  refine lp_ind (fun K4 hK4q q R h => ?_)
  have hK4 : ∀ (z0 : Int32) (z1 : Int32) (z2 : Int32) (R : Int32), K4 (z0, z1, z2) = some R → WP l G tc D lay (fun _ => True) RX0 cX0_spread 4 rX0_spread (.code yX0_spread cX0_spread 4 (some .int)) 4 [some (.ref 2), some (.int z0), some (.int z1), some (.int z2)] [] M (RetQ cX0_spread (some .int) (RQI R M)) := fun z0 z1 z2 R hh => hK4q (z0, z1, z2) R hh
  unfold BX0_spread_4 at h
  refine WP.iload_n dX0_spread_4 rfl rfl ?_
  refine WP.aload_n dX0_spread_5 rfl rfl ?_
  refine WP.getI (j := 6) dX0_spread_6 rfl rfl in_X0 (by decide) wd_105 rfl ?_
  refine WP.icmp_ge (tgt := 35) dX0_spread_9 (by decide) (fun c1 => ?_) (fun c1 => ?_)
  · rw [if_pos c1] at h
    refine WP.iload_n dX0_spread_35 rfl rfl ?_
    cases h
    exact WP.iret dX0_spread_36 ⟨rfl, rfl⟩
  · rw [if_neg c1] at h
    refine WP.iload_n dX0_spread_12 rfl rfl ?_
    refine WP.iload_n dX0_spread_13 rfl rfl ?_
    obtain ⟨r3, h2, h⟩ := Option.bind_eq_some_iff.mp h
    refine WP.callNI [.int q.1, .int q.2.2] dX0_spread_14 lk_X0_43 rfl (Nat.le_of_ble_eq_true rfl) (by decide) (Nat.le_of_ble_eq_true rfl) rfl (TX9_hasBit h2) ?_
    refine WP.if_eq (tgt := 29) dX0_spread_17 (by decide) (fun c4 => ?_) (fun c4 => ?_)
    · rw [if_pos c4] at h
      refine WP.iinc (v := (q.2.2 + 1)) dX0_spread_29 rfl rfl (by decide) rfl rfl ?_
      refine WP.goto (tgt := 4) dX0_spread_32 (by decide) ?_
      refine WP.fgt [true, true, true, true] rfl ?_
      exact hK4 q.1 q.2.1 (q.2.2 + 1) _ h
    · rw [if_neg c4] at h
      refine WP.iload_n dX0_spread_20 rfl rfl ?_
      refine WP.aload_n dX0_spread_21 rfl rfl ?_
      refine WP.getR (j := 5) dX0_spread_22 rfl rfl in_X0 (by decide) wd_101 rfl ?_
      refine WP.iload_n dX0_spread_25 rfl rfl ?_
      obtain ⟨v5, h6, h⟩ := Option.bind_eq_some_iff.mp h
      refine WP.ialdQ dX0_spread_26 rfl h6 ?_
      refine WP.ior dX0_spread_27 ?_
      refine WP.istore_n dX0_spread_28 rfl (by decide) rfl rfl ?_
      refine WP.iinc (v := (q.2.2 + 1)) dX0_spread_29 rfl rfl (by decide) rfl rfl ?_
      refine WP.goto (tgt := 4) dX0_spread_32 (by decide) ?_
      refine WP.fgt [true, true, true, true] rfl ?_
      exact hK4 q.1 (q.2.1 ||| v5) (q.2.2 + 1) _ h
theorem uX0_spread_4 {l : Launch} {G : va_G} {tc : Nat → ClassId} {D : Nat → Nat} {N : Nat} {M : Mm} (nn : Nat) : ∀ (z0 : Int32) (z1 : Int32) (z2 : Int32) (R : Int32), lp (BX0_spread_4 N M) nn (z0, z1, z2) = some R → WP l G tc D lay (fun _ => True) RX0 cX0_spread 4 rX0_spread (.code yX0_spread cX0_spread 4 (some .int)) 4 [some (.ref 2), some (.int z0), some (.int z1), some (.int z2)] [] M (RetQ cX0_spread (some .int) (RQI R M)) := fun z0 z1 z2 R hh => tX0_spread_4  nn (z0, z1, z2) R hh
set_option maxRecDepth 20000 in
theorem TX0_spread {l : Launch} {G : va_G} {tc : Nat → ClassId} {D : Nat → Nat} {N : Nat} {x1 : Int32} {M : Mm} {R : Int32} (h : FX0_spread N x1 M = some R) : WP l G tc D lay (fun _ => True) yX0_spread.cls cX0_spread 4 rX0_spread (.code yX0_spread cX0_spread 4 (some .int)) 0 (entL 4 [.ref 2, .int x1]) [] M (RetQ cX0_spread (some .int) (RQI R M)) := by
  show WP l G tc D lay (fun _ => True) RX0 cX0_spread 4 rX0_spread (.code yX0_spread cX0_spread 4 (some .int)) 0 [some (.ref 2), some (.int x1), none, none] [] M (RetQ cX0_spread (some .int) (RQI R M))
  unfold FX0_spread at h
  refine WP.iload_n dX0_spread_0 rfl rfl ?_
  refine WP.istore_n dX0_spread_1 rfl (by decide) rfl rfl ?_
  refine WP.iconst (v := 0) dX0_spread_2 (by decide) ?_
  refine WP.istore_n dX0_spread_3 rfl (by decide) rfl rfl ?_
  refine WP.fgt [true, true, true, true] rfl ?_
  exact uX0_spread_4  N x1 x1 0 _ h
/-! X0_spreadHangs -/
def rX0_spreadHangs : Room := { frames := 1, cells := 0, slots := 0, locals := 21 }
def BX0_spreadHangs_40 (N : Nat) (K30 : Int32 × Mm → Option Mm) (K40 : Int32 × Int32 × Mm → Option Mm) (q : Int32 × Int32 × Mm) : Option Mm :=
  (if (q.2.2.1 2 6) ≤ q.2.1 then K30 ((q.1 + 1), q.2.2) else (rdI q.2.2 20 12 q.2.1).bind fun v2 => (FX9_hasBit v2 q.1 q.2.2).bind fun r5 => (if r5 = 0 then K40 (q.1, (q.2.1 + 1), q.2.2) else (rdI q.2.2 20 12 q.2.1).bind fun v7 => (rdI q.2.2 20 12 q.1).bind fun v9 => (wrI q.2.2 20 12 q.2.1 (v7 ||| v9)).bind fun M11 => K40 (q.1, (q.2.1 + 1), M11)))
def BX0_spreadHangs_30 (N : Nat) (K30 : Int32 × Mm → Option Mm) (q : Int32 × Mm) : Option Mm :=
  (if (q.2.1 2 6) ≤ q.1 then some q.2 else lp (BX0_spreadHangs_40 N K30) N (q.1, 0, q.2))
def BX0_spreadHangs_2 (N : Nat) (K2 : Int32 × Mm → Option Mm) (q : Int32 × Mm) : Option Mm :=
  (if (q.2.1 2 6) ≤ q.1 then lp (BX0_spreadHangs_30 N) N (0, q.2) else (rdI q.2 19 12 q.1).bind fun v2 => (wrI q.2 20 12 q.1 v2).bind fun M4 => K2 ((q.1 + 1), M4))
def FX0_spreadHangs (N : Nat) (M : Mm) : Option Mm :=
  lp (BX0_spreadHangs_2 N) N (0, M)
theorem eBX0_spreadHangs_40 (N : Nat) (K30 : Int32 × Mm → Option Mm) (K40 : Int32 × Int32 × Mm → Option Mm) (q : Int32 × Int32 × Mm) : BX0_spreadHangs_40 N K30 K40 q = (if (q.2.2.1 2 6) ≤ q.2.1 then K30 ((q.1 + 1), q.2.2) else (rdI q.2.2 20 12 q.2.1).bind fun v2 => (FX9_hasBit v2 q.1 q.2.2).bind fun r5 => (if r5 = 0 then K40 (q.1, (q.2.1 + 1), q.2.2) else (rdI q.2.2 20 12 q.2.1).bind fun v7 => (rdI q.2.2 20 12 q.1).bind fun v9 => (wrI q.2.2 20 12 q.2.1 (v7 ||| v9)).bind fun M11 => K40 (q.1, (q.2.1 + 1), M11))) := rfl
theorem eBX0_spreadHangs_30 (N : Nat) (K30 : Int32 × Mm → Option Mm) (q : Int32 × Mm) : BX0_spreadHangs_30 N K30 q = (if (q.2.1 2 6) ≤ q.1 then some q.2 else lp (BX0_spreadHangs_40 N K30) N (q.1, 0, q.2)) := rfl
theorem eBX0_spreadHangs_2 (N : Nat) (K2 : Int32 × Mm → Option Mm) (q : Int32 × Mm) : BX0_spreadHangs_2 N K2 q = (if (q.2.1 2 6) ≤ q.1 then lp (BX0_spreadHangs_30 N) N (0, q.2) else (rdI q.2 19 12 q.1).bind fun v2 => (wrI q.2 20 12 q.1 v2).bind fun M4 => K2 ((q.1 + 1), M4)) := rfl
theorem eFX0_spreadHangs (N : Nat) (M : Mm) : FX0_spreadHangs N M = lp (BX0_spreadHangs_2 N) N (0, M) := rfl
set_option maxRecDepth 20000 in
theorem tX0_spreadHangs_40 {l : Launch} {G : va_G} {tc : Nat → ClassId} {D : Nat → Nat} {N : Nat} {K30 : Int32 × Mm → Option Mm} (hK30 : ∀ (z0 : Int32) (z1 : Mm) (R : Mm), K30 (z0, z1) = some R → WP l G tc D lay (fun _ => True) RX0 cX0_spreadHangs 3 rX0_spreadHangs (.code yX0_spreadHangs cX0_spreadHangs 3 none) 30 [some (.ref 2), some (.int z0), none] [] z1 (RetQ cX0_spreadHangs none (RQV R))) : ∀ (nn : Nat) (q : Int32 × Int32 × Mm) (R : Mm), lp (BX0_spreadHangs_40 N K30) nn q = some R → WP l G tc D lay (fun _ => True) RX0 cX0_spreadHangs 3 rX0_spreadHangs (.code yX0_spreadHangs cX0_spreadHangs 3 none) 40 [some (.ref 2), some (.int q.1), some (.int q.2.1)] [] q.2.2 (RetQ cX0_spreadHangs none (RQV R)) := by
  refine lp_ind (fun K40 hK40q q R h => ?_)
  have hK40 : ∀ (z0 : Int32) (z1 : Int32) (z2 : Mm) (R : Mm), K40 (z0, z1, z2) = some R → WP l G tc D lay (fun _ => True) RX0 cX0_spreadHangs 3 rX0_spreadHangs (.code yX0_spreadHangs cX0_spreadHangs 3 none) 40 [some (.ref 2), some (.int z0), some (.int z1)] [] z2 (RetQ cX0_spreadHangs none (RQV R)) := fun z0 z1 z2 R hh => hK40q (z0, z1, z2) R hh
  unfold BX0_spreadHangs_40 at h
  refine WP.iload_n dX0_spreadHangs_40 rfl rfl ?_
  refine WP.aload_n dX0_spreadHangs_41 rfl rfl ?_
  refine WP.getI (j := 6) dX0_spreadHangs_42 rfl rfl in_X0 (by decide) wd_105 rfl ?_
  refine WP.icmp_ge (tgt := 82) dX0_spreadHangs_45 (by decide) (fun c1 => ?_) (fun c1 => ?_)
  · rw [if_pos c1] at h
    refine WP.iinc (v := (q.1 + 1)) dX0_spreadHangs_82 rfl rfl (by decide) rfl rfl ?_
    refine WP.goto (tgt := 30) dX0_spreadHangs_85 (by decide) ?_
    refine WP.fgt [true, true, false] rfl ?_
    exact hK30 (q.1 + 1) q.2.2 _ h
  · rw [if_neg c1] at h
    refine WP.aload_n dX0_spreadHangs_48 rfl rfl ?_
    refine WP.getR (j := 5) dX0_spreadHangs_49 rfl rfl in_X0 (by decide) wd_101 rfl ?_
    refine WP.iload_n dX0_spreadHangs_52 rfl rfl ?_
    obtain ⟨v2, h3, h⟩ := Option.bind_eq_some_iff.mp h
    refine WP.ialdQ dX0_spreadHangs_53 rfl h3 ?_
    refine WP.iload_n dX0_spreadHangs_54 rfl rfl ?_
    obtain ⟨r5, h4, h⟩ := Option.bind_eq_some_iff.mp h
    refine WP.callNI [.int v2, .int q.1] dX0_spreadHangs_55 lk_X0_43 rfl (Nat.le_of_ble_eq_true rfl) (by decide) (Nat.le_of_ble_eq_true rfl) rfl (TX9_hasBit h4) ?_
    refine WP.if_eq (tgt := 76) dX0_spreadHangs_58 (by decide) (fun c6 => ?_) (fun c6 => ?_)
    · rw [if_pos c6] at h
      refine WP.iinc (v := (q.2.1 + 1)) dX0_spreadHangs_76 rfl rfl (by decide) rfl rfl ?_
      refine WP.goto (tgt := 40) dX0_spreadHangs_79 (by decide) ?_
      refine WP.fgt [true, true, true] rfl ?_
      exact hK40 q.1 (q.2.1 + 1) q.2.2 _ h
    · rw [if_neg c6] at h
      refine WP.aload_n dX0_spreadHangs_61 rfl rfl ?_
      refine WP.getR (j := 5) dX0_spreadHangs_62 rfl rfl in_X0 (by decide) wd_101 rfl ?_
      refine WP.iload_n dX0_spreadHangs_65 rfl rfl ?_
      refine WP.dup2 dX0_spreadHangs_66 rfl rfl ?_
      obtain ⟨v7, h8, h⟩ := Option.bind_eq_some_iff.mp h
      refine WP.ialdQ dX0_spreadHangs_67 rfl h8 ?_
      refine WP.aload_n dX0_spreadHangs_68 rfl rfl ?_
      refine WP.getR (j := 5) dX0_spreadHangs_69 rfl rfl in_X0 (by decide) wd_101 rfl ?_
      refine WP.iload_n dX0_spreadHangs_72 rfl rfl ?_
      obtain ⟨v9, h10, h⟩ := Option.bind_eq_some_iff.mp h
      refine WP.ialdQ dX0_spreadHangs_73 rfl h10 ?_
      refine WP.ior dX0_spreadHangs_74 ?_
      obtain ⟨M11, h12, h⟩ := Option.bind_eq_some_iff.mp h
      refine WP.iastQ dX0_spreadHangs_75 rfl h12 ?_
      refine WP.iinc (v := (q.2.1 + 1)) dX0_spreadHangs_76 rfl rfl (by decide) rfl rfl ?_
      refine WP.goto (tgt := 40) dX0_spreadHangs_79 (by decide) ?_
      refine WP.fgt [true, true, true] rfl ?_
      exact hK40 q.1 (q.2.1 + 1) M11 _ h
theorem uX0_spreadHangs_40 {l : Launch} {G : va_G} {tc : Nat → ClassId} {D : Nat → Nat} {N : Nat} {K30 : Int32 × Mm → Option Mm} (hK30 : ∀ (z0 : Int32) (z1 : Mm) (R : Mm), K30 (z0, z1) = some R → WP l G tc D lay (fun _ => True) RX0 cX0_spreadHangs 3 rX0_spreadHangs (.code yX0_spreadHangs cX0_spreadHangs 3 none) 30 [some (.ref 2), some (.int z0), none] [] z1 (RetQ cX0_spreadHangs none (RQV R))) (nn : Nat) : ∀ (z0 : Int32) (z1 : Int32) (z2 : Mm) (R : Mm), lp (BX0_spreadHangs_40 N K30) nn (z0, z1, z2) = some R → WP l G tc D lay (fun _ => True) RX0 cX0_spreadHangs 3 rX0_spreadHangs (.code yX0_spreadHangs cX0_spreadHangs 3 none) 40 [some (.ref 2), some (.int z0), some (.int z1)] [] z2 (RetQ cX0_spreadHangs none (RQV R)) := fun z0 z1 z2 R hh => tX0_spreadHangs_40 hK30 nn (z0, z1, z2) R hh
set_option maxRecDepth 20000 in
theorem tX0_spreadHangs_30 {l : Launch} {G : va_G} {tc : Nat → ClassId} {D : Nat → Nat} {N : Nat} : ∀ (nn : Nat) (q : Int32 × Mm) (R : Mm), lp (BX0_spreadHangs_30 N) nn q = some R → WP l G tc D lay (fun _ => True) RX0 cX0_spreadHangs 3 rX0_spreadHangs (.code yX0_spreadHangs cX0_spreadHangs 3 none) 30 [some (.ref 2), some (.int q.1), none] [] q.2 (RetQ cX0_spreadHangs none (RQV R)) := by
  refine lp_ind (fun K30 hK30q q R h => ?_)
  have hK30 : ∀ (z0 : Int32) (z1 : Mm) (R : Mm), K30 (z0, z1) = some R → WP l G tc D lay (fun _ => True) RX0 cX0_spreadHangs 3 rX0_spreadHangs (.code yX0_spreadHangs cX0_spreadHangs 3 none) 30 [some (.ref 2), some (.int z0), none] [] z1 (RetQ cX0_spreadHangs none (RQV R)) := fun z0 z1 R hh => hK30q (z0, z1) R hh
  unfold BX0_spreadHangs_30 at h
  refine WP.iload_n dX0_spreadHangs_30 rfl rfl ?_
  refine WP.aload_n dX0_spreadHangs_31 rfl rfl ?_
  refine WP.getI (j := 6) dX0_spreadHangs_32 rfl rfl in_X0 (by decide) wd_105 rfl ?_
  refine WP.icmp_ge (tgt := 88) dX0_spreadHangs_35 (by decide) (fun c1 => ?_) (fun c1 => ?_)
  · rw [if_pos c1] at h
    cases h
    exact WP.vret dX0_spreadHangs_88 ⟨rfl, rfl⟩
  · rw [if_neg c1] at h
    refine WP.iconst (v := 0) dX0_spreadHangs_38 (by decide) ?_
    refine WP.istore_n dX0_spreadHangs_39 rfl (by decide) rfl rfl ?_
    refine WP.fgt [true, true, true] rfl ?_
    exact uX0_spreadHangs_40 hK30 N q.1 0 q.2 _ h
theorem uX0_spreadHangs_30 {l : Launch} {G : va_G} {tc : Nat → ClassId} {D : Nat → Nat} {N : Nat} (nn : Nat) : ∀ (z0 : Int32) (z1 : Mm) (R : Mm), lp (BX0_spreadHangs_30 N) nn (z0, z1) = some R → WP l G tc D lay (fun _ => True) RX0 cX0_spreadHangs 3 rX0_spreadHangs (.code yX0_spreadHangs cX0_spreadHangs 3 none) 30 [some (.ref 2), some (.int z0), none] [] z1 (RetQ cX0_spreadHangs none (RQV R)) := fun z0 z1 R hh => tX0_spreadHangs_30  nn (z0, z1) R hh
set_option maxRecDepth 20000 in
theorem tX0_spreadHangs_2 {l : Launch} {G : va_G} {tc : Nat → ClassId} {D : Nat → Nat} {N : Nat} : ∀ (nn : Nat) (q : Int32 × Mm) (R : Mm), lp (BX0_spreadHangs_2 N) nn q = some R → WP l G tc D lay (fun _ => True) RX0 cX0_spreadHangs 3 rX0_spreadHangs (.code yX0_spreadHangs cX0_spreadHangs 3 none) 2 [some (.ref 2), some (.int q.1), none] [] q.2 (RetQ cX0_spreadHangs none (RQV R)) := by
  refine lp_ind (fun K2 hK2q q R h => ?_)
  have hK2 : ∀ (z0 : Int32) (z1 : Mm) (R : Mm), K2 (z0, z1) = some R → WP l G tc D lay (fun _ => True) RX0 cX0_spreadHangs 3 rX0_spreadHangs (.code yX0_spreadHangs cX0_spreadHangs 3 none) 2 [some (.ref 2), some (.int z0), none] [] z1 (RetQ cX0_spreadHangs none (RQV R)) := fun z0 z1 R hh => hK2q (z0, z1) R hh
  unfold BX0_spreadHangs_2 at h
  refine WP.iload_n dX0_spreadHangs_2 rfl rfl ?_
  refine WP.aload_n dX0_spreadHangs_3 rfl rfl ?_
  refine WP.getI (j := 6) dX0_spreadHangs_4 rfl rfl in_X0 (by decide) wd_105 rfl ?_
  refine WP.icmp_ge (tgt := 28) dX0_spreadHangs_7 (by decide) (fun c1 => ?_) (fun c1 => ?_)
  · rw [if_pos c1] at h
    refine WP.iconst (v := 0) dX0_spreadHangs_28 (by decide) ?_
    refine WP.istore_n dX0_spreadHangs_29 rfl (by decide) rfl rfl ?_
    refine WP.fgt [true, true, false] rfl ?_
    exact uX0_spreadHangs_30  N 0 q.2 _ h
  · rw [if_neg c1] at h
    refine WP.aload_n dX0_spreadHangs_10 rfl rfl ?_
    refine WP.getR (j := 5) dX0_spreadHangs_11 rfl rfl in_X0 (by decide) wd_101 rfl ?_
    refine WP.iload_n dX0_spreadHangs_14 rfl rfl ?_
    refine WP.aload_n dX0_spreadHangs_15 rfl rfl ?_
    refine WP.getR (j := 4) dX0_spreadHangs_16 rfl rfl in_X0 (by decide) wd_98 rfl ?_
    refine WP.iload_n dX0_spreadHangs_19 rfl rfl ?_
    obtain ⟨v2, h3, h⟩ := Option.bind_eq_some_iff.mp h
    refine WP.ialdQ dX0_spreadHangs_20 rfl h3 ?_
    obtain ⟨M4, h5, h⟩ := Option.bind_eq_some_iff.mp h
    refine WP.iastQ dX0_spreadHangs_21 rfl h5 ?_
    refine WP.iinc (v := (q.1 + 1)) dX0_spreadHangs_22 rfl rfl (by decide) rfl rfl ?_
    refine WP.goto (tgt := 2) dX0_spreadHangs_25 (by decide) ?_
    refine WP.fgt [true, true, false] rfl ?_
    exact hK2 (q.1 + 1) M4 _ h
theorem uX0_spreadHangs_2 {l : Launch} {G : va_G} {tc : Nat → ClassId} {D : Nat → Nat} {N : Nat} (nn : Nat) : ∀ (z0 : Int32) (z1 : Mm) (R : Mm), lp (BX0_spreadHangs_2 N) nn (z0, z1) = some R → WP l G tc D lay (fun _ => True) RX0 cX0_spreadHangs 3 rX0_spreadHangs (.code yX0_spreadHangs cX0_spreadHangs 3 none) 2 [some (.ref 2), some (.int z0), none] [] z1 (RetQ cX0_spreadHangs none (RQV R)) := fun z0 z1 R hh => tX0_spreadHangs_2  nn (z0, z1) R hh
set_option maxRecDepth 20000 in
theorem TX0_spreadHangs {l : Launch} {G : va_G} {tc : Nat → ClassId} {D : Nat → Nat} {N : Nat} {M : Mm} {R : Mm} (h : FX0_spreadHangs N M = some R) : WP l G tc D lay (fun _ => True) yX0_spreadHangs.cls cX0_spreadHangs 3 rX0_spreadHangs (.code yX0_spreadHangs cX0_spreadHangs 3 none) 0 (entL 3 [.ref 2]) [] M (RetQ cX0_spreadHangs none (RQV R)) := by
  show WP l G tc D lay (fun _ => True) RX0 cX0_spreadHangs 3 rX0_spreadHangs (.code yX0_spreadHangs cX0_spreadHangs 3 none) 0 [some (.ref 2), none, none] [] M (RetQ cX0_spreadHangs none (RQV R))
  unfold FX0_spreadHangs at h
  refine WP.iconst (v := 0) dX0_spreadHangs_0 (by decide) ?_
  refine WP.istore_n dX0_spreadHangs_1 rfl (by decide) rfl rfl ?_
  refine WP.fgt [true, true, false] rfl ?_
  exact uX0_spreadHangs_2  N 0 M _ h
/-! X0_leastHanging -/
def rX0_leastHanging : Room := { frames := 1, cells := 0, slots := 0, locals := 21 }
def BX0_leastHanging_2 (N : Nat) (M : Mm) (K2 : Int32 × Int32 × Int32 → Option Int32) (q : Int32 × Int32 × Int32) : Option Int32 :=
  (if (M.1 2 6) ≤ q.2.2 then some (-9) else (FX9_hasBit q.1 q.2.2 M).bind fun r3 => (if r3 = 0 then K2 (q.1, q.2.1, (q.2.2 + 1)) else (rdI M 20 12 q.2.2).bind fun v5 => (FX9_hasBit v5 q.2.1 M).bind fun r8 => (if r8 = 0 then K2 (q.1, q.2.1, (q.2.2 + 1)) else some q.2.2)))
def FX0_leastHanging (N : Nat) (x1 : Int32) (x2 : Int32) (M : Mm) : Option Int32 :=
  lp (BX0_leastHanging_2 N M) N (x1, x2, 0)
theorem eBX0_leastHanging_2 (N : Nat) (M : Mm) (K2 : Int32 × Int32 × Int32 → Option Int32) (q : Int32 × Int32 × Int32) : BX0_leastHanging_2 N M K2 q = (if (M.1 2 6) ≤ q.2.2 then some (-9) else (FX9_hasBit q.1 q.2.2 M).bind fun r3 => (if r3 = 0 then K2 (q.1, q.2.1, (q.2.2 + 1)) else (rdI M 20 12 q.2.2).bind fun v5 => (FX9_hasBit v5 q.2.1 M).bind fun r8 => (if r8 = 0 then K2 (q.1, q.2.1, (q.2.2 + 1)) else some q.2.2))) := rfl
theorem eFX0_leastHanging (N : Nat) (x1 : Int32) (x2 : Int32) (M : Mm) : FX0_leastHanging N x1 x2 M = lp (BX0_leastHanging_2 N M) N (x1, x2, 0) := rfl
set_option maxRecDepth 20000 in
theorem tX0_leastHanging_2 {l : Launch} {G : va_G} {tc : Nat → ClassId} {D : Nat → Nat} {N : Nat} {M : Mm} : ∀ (nn : Nat) (q : Int32 × Int32 × Int32) (R : Int32), lp (BX0_leastHanging_2 N M) nn q = some R → WP l G tc D lay (fun _ => True) RX0 cX0_leastHanging 4 rX0_leastHanging (.code yX0_leastHanging cX0_leastHanging 4 (some .int)) 2 [some (.ref 2), some (.int q.1), some (.int q.2.1), some (.int q.2.2)] [] M (RetQ cX0_leastHanging (some .int) (RQI R M)) := by
  refine lp_ind (fun K2 hK2q q R h => ?_)
  have hK2 : ∀ (z0 : Int32) (z1 : Int32) (z2 : Int32) (R : Int32), K2 (z0, z1, z2) = some R → WP l G tc D lay (fun _ => True) RX0 cX0_leastHanging 4 rX0_leastHanging (.code yX0_leastHanging cX0_leastHanging 4 (some .int)) 2 [some (.ref 2), some (.int z0), some (.int z1), some (.int z2)] [] M (RetQ cX0_leastHanging (some .int) (RQI R M)) := fun z0 z1 z2 R hh => hK2q (z0, z1, z2) R hh
  unfold BX0_leastHanging_2 at h
  refine WP.iload_n dX0_leastHanging_2 rfl rfl ?_
  refine WP.aload_n dX0_leastHanging_3 rfl rfl ?_
  refine WP.getI (j := 6) dX0_leastHanging_4 rfl rfl in_X0 (by decide) wd_105 rfl ?_
  refine WP.icmp_ge (tgt := 39) dX0_leastHanging_7 (by decide) (fun c1 => ?_) (fun c1 => ?_)
  · rw [if_pos c1] at h
    refine WP.bipush (v := (-9)) dX0_leastHanging_39 (by decide) ?_
    cases h
    exact WP.iret dX0_leastHanging_41 ⟨rfl, rfl⟩
  · rw [if_neg c1] at h
    refine WP.iload_n dX0_leastHanging_10 rfl rfl ?_
    refine WP.iload_n dX0_leastHanging_11 rfl rfl ?_
    obtain ⟨r3, h2, h⟩ := Option.bind_eq_some_iff.mp h
    refine WP.callNI [.int q.1, .int q.2.2] dX0_leastHanging_12 lk_X0_43 rfl (Nat.le_of_ble_eq_true rfl) (by decide) (Nat.le_of_ble_eq_true rfl) rfl (TX9_hasBit h2) ?_
    refine WP.if_eq (tgt := 33) dX0_leastHanging_15 (by decide) (fun c4 => ?_) (fun c4 => ?_)
    · rw [if_pos c4] at h
      refine WP.iinc (v := (q.2.2 + 1)) dX0_leastHanging_33 rfl rfl (by decide) rfl rfl ?_
      refine WP.goto (tgt := 2) dX0_leastHanging_36 (by decide) ?_
      refine WP.fgt [true, true, true, true] rfl ?_
      exact hK2 q.1 q.2.1 (q.2.2 + 1) _ h
    · rw [if_neg c4] at h
      refine WP.aload_n dX0_leastHanging_18 rfl rfl ?_
      refine WP.getR (j := 5) dX0_leastHanging_19 rfl rfl in_X0 (by decide) wd_101 rfl ?_
      refine WP.iload_n dX0_leastHanging_22 rfl rfl ?_
      obtain ⟨v5, h6, h⟩ := Option.bind_eq_some_iff.mp h
      refine WP.ialdQ dX0_leastHanging_23 rfl h6 ?_
      refine WP.iload_n dX0_leastHanging_24 rfl rfl ?_
      obtain ⟨r8, h7, h⟩ := Option.bind_eq_some_iff.mp h
      refine WP.callNI [.int v5, .int q.2.1] dX0_leastHanging_25 lk_X0_43 rfl (Nat.le_of_ble_eq_true rfl) (by decide) (Nat.le_of_ble_eq_true rfl) rfl (TX9_hasBit h7) ?_
      refine WP.if_eq (tgt := 33) dX0_leastHanging_28 (by decide) (fun c9 => ?_) (fun c9 => ?_)
      · rw [if_pos c9] at h
        refine WP.iinc (v := (q.2.2 + 1)) dX0_leastHanging_33 rfl rfl (by decide) rfl rfl ?_
        refine WP.goto (tgt := 2) dX0_leastHanging_36 (by decide) ?_
        refine WP.fgt [true, true, true, true] rfl ?_
        exact hK2 q.1 q.2.1 (q.2.2 + 1) _ h
      · rw [if_neg c9] at h
        refine WP.iload_n dX0_leastHanging_31 rfl rfl ?_
        cases h
        exact WP.iret dX0_leastHanging_32 ⟨rfl, rfl⟩
theorem uX0_leastHanging_2 {l : Launch} {G : va_G} {tc : Nat → ClassId} {D : Nat → Nat} {N : Nat} {M : Mm} (nn : Nat) : ∀ (z0 : Int32) (z1 : Int32) (z2 : Int32) (R : Int32), lp (BX0_leastHanging_2 N M) nn (z0, z1, z2) = some R → WP l G tc D lay (fun _ => True) RX0 cX0_leastHanging 4 rX0_leastHanging (.code yX0_leastHanging cX0_leastHanging 4 (some .int)) 2 [some (.ref 2), some (.int z0), some (.int z1), some (.int z2)] [] M (RetQ cX0_leastHanging (some .int) (RQI R M)) := fun z0 z1 z2 R hh => tX0_leastHanging_2  nn (z0, z1, z2) R hh
set_option maxRecDepth 20000 in
theorem TX0_leastHanging {l : Launch} {G : va_G} {tc : Nat → ClassId} {D : Nat → Nat} {N : Nat} {x1 : Int32} {x2 : Int32} {M : Mm} {R : Int32} (h : FX0_leastHanging N x1 x2 M = some R) : WP l G tc D lay (fun _ => True) yX0_leastHanging.cls cX0_leastHanging 4 rX0_leastHanging (.code yX0_leastHanging cX0_leastHanging 4 (some .int)) 0 (entL 4 [.ref 2, .int x1, .int x2]) [] M (RetQ cX0_leastHanging (some .int) (RQI R M)) := by
  show WP l G tc D lay (fun _ => True) RX0 cX0_leastHanging 4 rX0_leastHanging (.code yX0_leastHanging cX0_leastHanging 4 (some .int)) 0 [some (.ref 2), some (.int x1), some (.int x2), none] [] M (RetQ cX0_leastHanging (some .int) (RQI R M))
  unfold FX0_leastHanging at h
  refine WP.iconst (v := 0) dX0_leastHanging_0 (by decide) ?_
  refine WP.istore_n dX0_leastHanging_1 rfl (by decide) rfl rfl ?_
  refine WP.fgt [true, true, true, true] rfl ?_
  exact uX0_leastHanging_2  N x1 x2 0 _ h
/-! X1_begin -/
def rX1_begin : Room := { frames := 0, cells := 0, slots := 0, locals := 0 }
def FX1_begin (M : Mm) : Option Mm :=
  (wrF M 41 1 0).bind fun M1 => some M1
theorem eFX1_begin (M : Mm) : FX1_begin M = (wrF M 41 1 0).bind fun M1 => some M1 := rfl
set_option maxRecDepth 20000 in
theorem TX1_begin {l : Launch} {G : va_G} {tc : Nat → ClassId} {D : Nat → Nat} {M : Mm} {R : Mm} (h : FX1_begin M = some R) : WP l G tc D lay (fun _ => True) yX1_begin.cls cX1_begin 1 rX1_begin (.code yX1_begin cX1_begin 1 none) 0 (entL 1 [.ref 41]) [] M (RetQ cX1_begin none (RQV R)) := by
  show WP l G tc D lay (fun _ => True) RX1 cX1_begin 1 rX1_begin (.code yX1_begin cX1_begin 1 none) 0 [some (.ref 41)] [] M (RetQ cX1_begin none (RQV R))
  unfold FX1_begin at h
  refine WP.aload_n dX1_begin_0 rfl rfl ?_
  refine WP.iconst (v := 0) dX1_begin_1 (by decide) ?_
  obtain ⟨M1, h2, h⟩ := Option.bind_eq_some_iff.mp h
  refine WP.putF (j := 1) (ty := .int) dX1_begin_2 rfl rfl in_X1 tyX1_ok nmX1 (by decide) wd_233 rfl (by decide +kernel) rfl rfl rfl h2 ?_
  cases h
  exact WP.vret dX1_begin_5 ⟨rfl, rfl⟩
/-! X1_joinOne -/
def rX1_joinOne : Room := { frames := 0, cells := 0, slots := 0, locals := 0 }
def FX1_joinOne (x1 : Int32) (x2 : Int32) (x3 : Int32) (x4 : Int32) (M : Mm) : Option (Int32 × Mm) :=
  (if x3 = x4 then some (x3, M) else (if x4 = x2 then some (x3, M) else (if x3 = x2 then some (x4, M) else (if 12 ≤ (M.1 41 1) then some (x3, M) else (wrI M 42 12 (M.1 41 1) x1).bind fun M5 => (wrF M5 41 1 ((M5.1 41 1) + 1)).bind fun M7 => some (x3, M7)))))
theorem eFX1_joinOne (x1 : Int32) (x2 : Int32) (x3 : Int32) (x4 : Int32) (M : Mm) : FX1_joinOne x1 x2 x3 x4 M = (if x3 = x4 then some (x3, M) else (if x4 = x2 then some (x3, M) else (if x3 = x2 then some (x4, M) else (if 12 ≤ (M.1 41 1) then some (x3, M) else (wrI M 42 12 (M.1 41 1) x1).bind fun M5 => (wrF M5 41 1 ((M5.1 41 1) + 1)).bind fun M7 => some (x3, M7))))) := rfl
set_option maxRecDepth 20000 in
theorem TX1_joinOne {l : Launch} {G : va_G} {tc : Nat → ClassId} {D : Nat → Nat} {x1 : Int32} {x2 : Int32} {x3 : Int32} {x4 : Int32} {M : Mm} {R : (Int32 × Mm)} (h : FX1_joinOne x1 x2 x3 x4 M = some R) : WP l G tc D lay (fun _ => True) yX1_joinOne.cls cX1_joinOne 5 rX1_joinOne (.code yX1_joinOne cX1_joinOne 5 (some .int)) 0 (entL 5 [.ref 41, .int x1, .int x2, .int x3, .int x4]) [] M (RetQ cX1_joinOne (some .int) (RQI R.1 R.2)) := by
  show WP l G tc D lay (fun _ => True) RX1 cX1_joinOne 5 rX1_joinOne (.code yX1_joinOne cX1_joinOne 5 (some .int)) 0 [some (.ref 41), some (.int x1), some (.int x2), some (.int x3), some (.int x4)] [] M (RetQ cX1_joinOne (some .int) (RQI R.1 R.2))
  unfold FX1_joinOne at h
  refine WP.iload_n dX1_joinOne_0 rfl rfl ?_
  refine WP.iload dX1_joinOne_1 rfl ?_
  refine WP.icmp_eq (tgt := 12) dX1_joinOne_3 (by decide) (fun c1 => ?_) (fun c1 => ?_)
  · rw [if_pos c1] at h
    refine WP.iload_n dX1_joinOne_12 rfl rfl ?_
    cases h
    exact WP.iret dX1_joinOne_13 ⟨rfl, rfl⟩
  · rw [if_neg c1] at h
    refine WP.iload dX1_joinOne_6 rfl ?_
    refine WP.iload_n dX1_joinOne_8 rfl rfl ?_
    refine WP.icmp_ne (tgt := 14) dX1_joinOne_9 (by decide) (fun c2 => ?_) (fun c2 => ?_)
    · rw [if_neg c2] at h
      refine WP.iload_n dX1_joinOne_14 rfl rfl ?_
      refine WP.iload_n dX1_joinOne_15 rfl rfl ?_
      refine WP.icmp_ne (tgt := 22) dX1_joinOne_16 (by decide) (fun c3 => ?_) (fun c3 => ?_)
      · rw [if_neg c3] at h
        refine WP.aload_n dX1_joinOne_22 rfl rfl ?_
        refine WP.getI (j := 1) dX1_joinOne_23 rfl rfl in_X1 (by decide) wd_233 rfl ?_
        refine WP.bipush (v := 12) dX1_joinOne_26 (by decide) ?_
        refine WP.icmp_ge (tgt := 51) dX1_joinOne_28 (by decide) (fun c4 => ?_) (fun c4 => ?_)
        · rw [if_pos c4] at h
          refine WP.iload_n dX1_joinOne_51 rfl rfl ?_
          cases h
          exact WP.iret dX1_joinOne_52 ⟨rfl, rfl⟩
        · rw [if_neg c4] at h
          refine WP.aload_n dX1_joinOne_31 rfl rfl ?_
          refine WP.getR (j := 0) dX1_joinOne_32 rfl rfl in_X1 (by decide) wd_231 rfl ?_
          refine WP.aload_n dX1_joinOne_35 rfl rfl ?_
          refine WP.getI (j := 1) dX1_joinOne_36 rfl rfl in_X1 (by decide) wd_233 rfl ?_
          refine WP.iload_n dX1_joinOne_39 rfl rfl ?_
          obtain ⟨M5, h6, h⟩ := Option.bind_eq_some_iff.mp h
          refine WP.iastQ dX1_joinOne_40 rfl h6 ?_
          refine WP.aload_n dX1_joinOne_41 rfl rfl ?_
          refine WP.dup dX1_joinOne_42 rfl ?_
          refine WP.getI (j := 1) dX1_joinOne_43 rfl rfl in_X1 (by decide) wd_233 rfl ?_
          refine WP.iconst (v := 1) dX1_joinOne_46 (by decide) ?_
          refine WP.iadd dX1_joinOne_47 ?_
          obtain ⟨M7, h8, h⟩ := Option.bind_eq_some_iff.mp h
          refine WP.putF (j := 1) (ty := .int) dX1_joinOne_48 rfl rfl in_X1 tyX1_ok nmX1 (by decide) wd_233 rfl (by decide +kernel) rfl rfl rfl h8 ?_
          refine WP.iload_n dX1_joinOne_51 rfl rfl ?_
          cases h
          exact WP.iret dX1_joinOne_52 ⟨rfl, rfl⟩
      · rw [if_pos c3] at h
        refine WP.iload dX1_joinOne_19 rfl ?_
        cases h
        exact WP.iret dX1_joinOne_21 ⟨rfl, rfl⟩
    · rw [if_pos c2] at h
      refine WP.iload_n dX1_joinOne_12 rfl rfl ?_
      cases h
      exact WP.iret dX1_joinOne_13 ⟨rfl, rfl⟩
/-! X3_answersOfRule -/
def rX3_answersOfRule : Room := { frames := 0, cells := 0, slots := 0, locals := 0 }
def FX3_answersOfRule (x1 : Int32) (M : Mm) : Option Int32 :=
  (if x1 = (-9) then some 0 else (rdI M 26 50 x1).bind fun v2 => some v2)
theorem eFX3_answersOfRule (x1 : Int32) (M : Mm) : FX3_answersOfRule x1 M = (if x1 = (-9) then some 0 else (rdI M 26 50 x1).bind fun v2 => some v2) := rfl
set_option maxRecDepth 20000 in
theorem TX3_answersOfRule {l : Launch} {G : va_G} {tc : Nat → ClassId} {D : Nat → Nat} {x1 : Int32} {M : Mm} {R : Int32} (h : FX3_answersOfRule x1 M = some R) : WP l G tc D lay (fun _ => True) yX3_answersOfRule.cls cX3_answersOfRule 2 rX3_answersOfRule (.code yX3_answersOfRule cX3_answersOfRule 2 (some .int)) 0 (entL 2 [.ref 21, .int x1]) [] M (RetQ cX3_answersOfRule (some .int) (RQI R M)) := by
  show WP l G tc D lay (fun _ => True) RX3 cX3_answersOfRule 2 rX3_answersOfRule (.code yX3_answersOfRule cX3_answersOfRule 2 (some .int)) 0 [some (.ref 21), some (.int x1)] [] M (RetQ cX3_answersOfRule (some .int) (RQI R M))
  unfold FX3_answersOfRule at h
  refine WP.iload_n dX3_answersOfRule_0 rfl rfl ?_
  refine WP.bipush (v := (-9)) dX3_answersOfRule_1 (by decide) ?_
  refine WP.icmp_ne (tgt := 10) dX3_answersOfRule_3 (by decide) (fun c1 => ?_) (fun c1 => ?_)
  · rw [if_neg c1] at h
    refine WP.aload_n dX3_answersOfRule_10 rfl rfl ?_
    refine WP.getR (j := 4) dX3_answersOfRule_11 rfl rfl in_X3 (by decide) wd_141 rfl ?_
    refine WP.iload_n dX3_answersOfRule_14 rfl rfl ?_
    obtain ⟨v2, h3, h⟩ := Option.bind_eq_some_iff.mp h
    refine WP.ialdQ dX3_answersOfRule_15 rfl h3 ?_
    cases h
    exact WP.iret dX3_answersOfRule_16 ⟨rfl, rfl⟩
  · rw [if_pos c1] at h
    refine WP.iconst (v := 0) dX3_answersOfRule_6 (by decide) ?_
    refine WP.goto (tgt := 16) dX3_answersOfRule_7 (by decide) ?_
    cases h
    exact WP.iret dX3_answersOfRule_16 ⟨rfl, rfl⟩
/-! X2_directWith -/
def rX2_directWith : Room := { frames := 1, cells := 0, slots := 0, locals := 21 }
def BX2_directWith_41 (a4 : Int32) (t0 : Int32) (M : Mm) : Option Int32 :=
  (FX3_answersOfRule a4 M).bind fun r2 => (FX3_answersOfRule t0 M).bind fun r4 => some (r2 ||| r4)
def BX2_directWith_19 (a1 : Int32) (a2 : Int32) (a3 : Int32) (t0 : Int32) (M : Mm) : Option Int32 :=
  (if a2 = 3 then BX2_directWith_41 t0 a3 M else (ckR 7 12 a1).bind fun k2 => (rdI M k2 4 3).bind fun v4 => BX2_directWith_41 t0 v4 M)
def FX2_directWith (x1 : Int32) (x2 : Int32) (x3 : Int32) (M : Mm) : Option Int32 :=
  (if x2 = 0 then BX2_directWith_19 x1 x2 x3 x3 M else (ckR 7 12 x1).bind fun k2 => (rdI M k2 4 0).bind fun v4 => BX2_directWith_19 x1 x2 x3 v4 M)
theorem eBX2_directWith_41 (a4 : Int32) (t0 : Int32) (M : Mm) : BX2_directWith_41 a4 t0 M = (FX3_answersOfRule a4 M).bind fun r2 => (FX3_answersOfRule t0 M).bind fun r4 => some (r2 ||| r4) := rfl
theorem eBX2_directWith_19 (a1 : Int32) (a2 : Int32) (a3 : Int32) (t0 : Int32) (M : Mm) : BX2_directWith_19 a1 a2 a3 t0 M = (if a2 = 3 then BX2_directWith_41 t0 a3 M else (ckR 7 12 a1).bind fun k2 => (rdI M k2 4 3).bind fun v4 => BX2_directWith_41 t0 v4 M) := rfl
theorem eFX2_directWith (x1 : Int32) (x2 : Int32) (x3 : Int32) (M : Mm) : FX2_directWith x1 x2 x3 M = (if x2 = 0 then BX2_directWith_19 x1 x2 x3 x3 M else (ckR 7 12 x1).bind fun k2 => (rdI M k2 4 0).bind fun v4 => BX2_directWith_19 x1 x2 x3 v4 M) := rfl
set_option maxRecDepth 20000 in
theorem tX2_directWith_41 {l : Launch} {G : va_G} {tc : Nat → ClassId} {D : Nat → Nat} {a4 : Int32} {t0 : Int32} {M : Mm} {R : Int32} (h : BX2_directWith_41 a4 t0 M = some R) : WP l G tc D lay (fun _ => True) RX2 cX2_directWith 6 rX2_directWith (.code yX2_directWith cX2_directWith 6 (some .int)) 41 [some (.ref 1), none, none, none, some (.int a4), none] [.int t0] M (RetQ cX2_directWith (some .int) (RQI R M)) := by
  unfold BX2_directWith_41 at h
  refine WP.istore dX2_directWith_41 (by decide) rfl rfl ?_
  refine WP.aload_n dX2_directWith_43 rfl rfl ?_
  refine WP.getR (j := 1) dX2_directWith_44 rfl rfl in_X2 (by decide) wd_163 rfl ?_
  refine WP.iload dX2_directWith_47 rfl ?_
  obtain ⟨r2, h1, h⟩ := Option.bind_eq_some_iff.mp h
  refine WP.callVI [.int a4] dX2_directWith_49 lk_X2_39 rfl rfl rfl (Nat.le_of_ble_eq_true rfl) (by decide) (Nat.le_of_ble_eq_true rfl) rfl (TX3_answersOfRule h1) ?_
  refine WP.aload_n dX2_directWith_52 rfl rfl ?_
  refine WP.getR (j := 1) dX2_directWith_53 rfl rfl in_X2 (by decide) wd_163 rfl ?_
  refine WP.iload dX2_directWith_56 rfl ?_
  obtain ⟨r4, h3, h⟩ := Option.bind_eq_some_iff.mp h
  refine WP.callVI [.int t0] dX2_directWith_58 lk_X2_39 rfl rfl rfl (Nat.le_of_ble_eq_true rfl) (by decide) (Nat.le_of_ble_eq_true rfl) rfl (TX3_answersOfRule h3) ?_
  refine WP.ior dX2_directWith_61 ?_
  cases h
  exact WP.iret dX2_directWith_62 ⟨rfl, rfl⟩
set_option maxRecDepth 20000 in
theorem tX2_directWith_19 {l : Launch} {G : va_G} {tc : Nat → ClassId} {D : Nat → Nat} {a1 : Int32} {a2 : Int32} {a3 : Int32} {t0 : Int32} {M : Mm} {R : Int32} (h : BX2_directWith_19 a1 a2 a3 t0 M = some R) : WP l G tc D lay (fun _ => True) RX2 cX2_directWith 6 rX2_directWith (.code yX2_directWith cX2_directWith 6 (some .int)) 19 [some (.ref 1), some (.int a1), some (.int a2), some (.int a3), none, none] [.int t0] M (RetQ cX2_directWith (some .int) (RQI R M)) := by
  unfold BX2_directWith_19 at h
  refine WP.istore dX2_directWith_19 (by decide) rfl rfl ?_
  refine WP.iload_n dX2_directWith_21 rfl rfl ?_
  refine WP.iconst (v := 3) dX2_directWith_22 (by decide) ?_
  refine WP.icmp_ne (tgt := 30) dX2_directWith_23 (by decide) (fun c1 => ?_) (fun c1 => ?_)
  · rw [if_neg c1] at h
    refine WP.aload_n dX2_directWith_30 rfl rfl ?_
    refine WP.getR (j := 0) dX2_directWith_31 rfl rfl in_X2 (by decide) wd_159 rfl ?_
    refine WP.getR (j := 3) dX2_directWith_34 rfl rfl in_X0 (by decide) wd_95 rfl ?_
    refine WP.iload_n dX2_directWith_37 rfl rfl ?_
    obtain ⟨k2, h3, h⟩ := Option.bind_eq_some_iff.mp h
    refine WP.aaldQ (base := 7) (n := 12) dX2_directWith_38 rfl rfl h3 ?_
    have hk2 := rows_6 h3
    refine WP.iconst (v := 3) dX2_directWith_39 (by decide) ?_
    obtain ⟨v4, h5, h⟩ := Option.bind_eq_some_iff.mp h
    refine WP.ialdQ dX2_directWith_40 hk2 h5 ?_
    refine WP.fgt [true, false, false, false, true, false] rfl ?_
    exact tX2_directWith_41  h
  · rw [if_pos c1] at h
    refine WP.iload_n dX2_directWith_26 rfl rfl ?_
    refine WP.goto (tgt := 41) dX2_directWith_27 (by decide) ?_
    refine WP.fgt [true, false, false, false, true, false] rfl ?_
    exact tX2_directWith_41  h
set_option maxRecDepth 20000 in
theorem TX2_directWith {l : Launch} {G : va_G} {tc : Nat → ClassId} {D : Nat → Nat} {x1 : Int32} {x2 : Int32} {x3 : Int32} {M : Mm} {R : Int32} (h : FX2_directWith x1 x2 x3 M = some R) : WP l G tc D lay (fun _ => True) yX2_directWith.cls cX2_directWith 6 rX2_directWith (.code yX2_directWith cX2_directWith 6 (some .int)) 0 (entL 6 [.ref 1, .int x1, .int x2, .int x3]) [] M (RetQ cX2_directWith (some .int) (RQI R M)) := by
  show WP l G tc D lay (fun _ => True) RX2 cX2_directWith 6 rX2_directWith (.code yX2_directWith cX2_directWith 6 (some .int)) 0 [some (.ref 1), some (.int x1), some (.int x2), some (.int x3), none, none] [] M (RetQ cX2_directWith (some .int) (RQI R M))
  unfold FX2_directWith at h
  refine WP.iload_n dX2_directWith_0 rfl rfl ?_
  refine WP.if_ne (tgt := 8) dX2_directWith_1 (by decide) (fun c1 => ?_) (fun c1 => ?_)
  · rw [if_neg c1] at h
    refine WP.aload_n dX2_directWith_8 rfl rfl ?_
    refine WP.getR (j := 0) dX2_directWith_9 rfl rfl in_X2 (by decide) wd_159 rfl ?_
    refine WP.getR (j := 3) dX2_directWith_12 rfl rfl in_X0 (by decide) wd_95 rfl ?_
    refine WP.iload_n dX2_directWith_15 rfl rfl ?_
    obtain ⟨k2, h3, h⟩ := Option.bind_eq_some_iff.mp h
    refine WP.aaldQ (base := 7) (n := 12) dX2_directWith_16 rfl rfl h3 ?_
    have hk2 := rows_6 h3
    refine WP.iconst (v := 0) dX2_directWith_17 (by decide) ?_
    obtain ⟨v4, h5, h⟩ := Option.bind_eq_some_iff.mp h
    refine WP.ialdQ dX2_directWith_18 hk2 h5 ?_
    refine WP.fgt [true, true, true, true, false, false] rfl ?_
    exact tX2_directWith_19  h
  · rw [if_pos c1] at h
    refine WP.iload_n dX2_directWith_4 rfl rfl ?_
    refine WP.goto (tgt := 19) dX2_directWith_5 (by decide) ?_
    refine WP.fgt [true, true, true, true, false, false] rfl ?_
    exact tX2_directWith_19  h
/-! J6_bitCount_0f7a4 -/
def rJ6_bitCount_0f7a4 : Room := { frames := 0, cells := 0, slots := 0, locals := 0 }
def FJ6_bitCount_0f7a4 (x1 : Int32) (M : Mm) : Option Int32 :=
  some ((((((((x1 - ((x1.toUInt32 >>> ((1 : Int32).toUInt32 &&& Int32.toUInt32 31)).toInt32 &&& 1431655765)) &&& 858993459) + (((x1 - ((x1.toUInt32 >>> ((1 : Int32).toUInt32 &&& Int32.toUInt32 31)).toInt32 &&& 1431655765)).toUInt32 >>> ((2 : Int32).toUInt32 &&& Int32.toUInt32 31)).toInt32 &&& 858993459)) + ((((x1 - ((x1.toUInt32 >>> ((1 : Int32).toUInt32 &&& Int32.toUInt32 31)).toInt32 &&& 1431655765)) &&& 858993459) + (((x1 - ((x1.toUInt32 >>> ((1 : Int32).toUInt32 &&& Int32.toUInt32 31)).toInt32 &&& 1431655765)).toUInt32 >>> ((2 : Int32).toUInt32 &&& Int32.toUInt32 31)).toInt32 &&& 858993459)).toUInt32 >>> ((4 : Int32).toUInt32 &&& Int32.toUInt32 31)).toInt32) &&& 252645135) + ((((((x1 - ((x1.toUInt32 >>> ((1 : Int32).toUInt32 &&& Int32.toUInt32 31)).toInt32 &&& 1431655765)) &&& 858993459) + (((x1 - ((x1.toUInt32 >>> ((1 : Int32).toUInt32 &&& Int32.toUInt32 31)).toInt32 &&& 1431655765)).toUInt32 >>> ((2 : Int32).toUInt32 &&& Int32.toUInt32 31)).toInt32 &&& 858993459)) + ((((x1 - ((x1.toUInt32 >>> ((1 : Int32).toUInt32 &&& Int32.toUInt32 31)).toInt32 &&& 1431655765)) &&& 858993459) + (((x1 - ((x1.toUInt32 >>> ((1 : Int32).toUInt32 &&& Int32.toUInt32 31)).toInt32 &&& 1431655765)).toUInt32 >>> ((2 : Int32).toUInt32 &&& Int32.toUInt32 31)).toInt32 &&& 858993459)).toUInt32 >>> ((4 : Int32).toUInt32 &&& Int32.toUInt32 31)).toInt32) &&& 252645135).toUInt32 >>> ((8 : Int32).toUInt32 &&& Int32.toUInt32 31)).toInt32) + (((((((x1 - ((x1.toUInt32 >>> ((1 : Int32).toUInt32 &&& Int32.toUInt32 31)).toInt32 &&& 1431655765)) &&& 858993459) + (((x1 - ((x1.toUInt32 >>> ((1 : Int32).toUInt32 &&& Int32.toUInt32 31)).toInt32 &&& 1431655765)).toUInt32 >>> ((2 : Int32).toUInt32 &&& Int32.toUInt32 31)).toInt32 &&& 858993459)) + ((((x1 - ((x1.toUInt32 >>> ((1 : Int32).toUInt32 &&& Int32.toUInt32 31)).toInt32 &&& 1431655765)) &&& 858993459) + (((x1 - ((x1.toUInt32 >>> ((1 : Int32).toUInt32 &&& Int32.toUInt32 31)).toInt32 &&& 1431655765)).toUInt32 >>> ((2 : Int32).toUInt32 &&& Int32.toUInt32 31)).toInt32 &&& 858993459)).toUInt32 >>> ((4 : Int32).toUInt32 &&& Int32.toUInt32 31)).toInt32) &&& 252645135) + ((((((x1 - ((x1.toUInt32 >>> ((1 : Int32).toUInt32 &&& Int32.toUInt32 31)).toInt32 &&& 1431655765)) &&& 858993459) + (((x1 - ((x1.toUInt32 >>> ((1 : Int32).toUInt32 &&& Int32.toUInt32 31)).toInt32 &&& 1431655765)).toUInt32 >>> ((2 : Int32).toUInt32 &&& Int32.toUInt32 31)).toInt32 &&& 858993459)) + ((((x1 - ((x1.toUInt32 >>> ((1 : Int32).toUInt32 &&& Int32.toUInt32 31)).toInt32 &&& 1431655765)) &&& 858993459) + (((x1 - ((x1.toUInt32 >>> ((1 : Int32).toUInt32 &&& Int32.toUInt32 31)).toInt32 &&& 1431655765)).toUInt32 >>> ((2 : Int32).toUInt32 &&& Int32.toUInt32 31)).toInt32 &&& 858993459)).toUInt32 >>> ((4 : Int32).toUInt32 &&& Int32.toUInt32 31)).toInt32) &&& 252645135).toUInt32 >>> ((8 : Int32).toUInt32 &&& Int32.toUInt32 31)).toInt32).toUInt32 >>> ((16 : Int32).toUInt32 &&& Int32.toUInt32 31)).toInt32) &&& 63)
theorem eFJ6_bitCount_0f7a4 (x1 : Int32) (M : Mm) : FJ6_bitCount_0f7a4 x1 M = some ((((((((x1 - ((x1.toUInt32 >>> ((1 : Int32).toUInt32 &&& Int32.toUInt32 31)).toInt32 &&& 1431655765)) &&& 858993459) + (((x1 - ((x1.toUInt32 >>> ((1 : Int32).toUInt32 &&& Int32.toUInt32 31)).toInt32 &&& 1431655765)).toUInt32 >>> ((2 : Int32).toUInt32 &&& Int32.toUInt32 31)).toInt32 &&& 858993459)) + ((((x1 - ((x1.toUInt32 >>> ((1 : Int32).toUInt32 &&& Int32.toUInt32 31)).toInt32 &&& 1431655765)) &&& 858993459) + (((x1 - ((x1.toUInt32 >>> ((1 : Int32).toUInt32 &&& Int32.toUInt32 31)).toInt32 &&& 1431655765)).toUInt32 >>> ((2 : Int32).toUInt32 &&& Int32.toUInt32 31)).toInt32 &&& 858993459)).toUInt32 >>> ((4 : Int32).toUInt32 &&& Int32.toUInt32 31)).toInt32) &&& 252645135) + ((((((x1 - ((x1.toUInt32 >>> ((1 : Int32).toUInt32 &&& Int32.toUInt32 31)).toInt32 &&& 1431655765)) &&& 858993459) + (((x1 - ((x1.toUInt32 >>> ((1 : Int32).toUInt32 &&& Int32.toUInt32 31)).toInt32 &&& 1431655765)).toUInt32 >>> ((2 : Int32).toUInt32 &&& Int32.toUInt32 31)).toInt32 &&& 858993459)) + ((((x1 - ((x1.toUInt32 >>> ((1 : Int32).toUInt32 &&& Int32.toUInt32 31)).toInt32 &&& 1431655765)) &&& 858993459) + (((x1 - ((x1.toUInt32 >>> ((1 : Int32).toUInt32 &&& Int32.toUInt32 31)).toInt32 &&& 1431655765)).toUInt32 >>> ((2 : Int32).toUInt32 &&& Int32.toUInt32 31)).toInt32 &&& 858993459)).toUInt32 >>> ((4 : Int32).toUInt32 &&& Int32.toUInt32 31)).toInt32) &&& 252645135).toUInt32 >>> ((8 : Int32).toUInt32 &&& Int32.toUInt32 31)).toInt32) + (((((((x1 - ((x1.toUInt32 >>> ((1 : Int32).toUInt32 &&& Int32.toUInt32 31)).toInt32 &&& 1431655765)) &&& 858993459) + (((x1 - ((x1.toUInt32 >>> ((1 : Int32).toUInt32 &&& Int32.toUInt32 31)).toInt32 &&& 1431655765)).toUInt32 >>> ((2 : Int32).toUInt32 &&& Int32.toUInt32 31)).toInt32 &&& 858993459)) + ((((x1 - ((x1.toUInt32 >>> ((1 : Int32).toUInt32 &&& Int32.toUInt32 31)).toInt32 &&& 1431655765)) &&& 858993459) + (((x1 - ((x1.toUInt32 >>> ((1 : Int32).toUInt32 &&& Int32.toUInt32 31)).toInt32 &&& 1431655765)).toUInt32 >>> ((2 : Int32).toUInt32 &&& Int32.toUInt32 31)).toInt32 &&& 858993459)).toUInt32 >>> ((4 : Int32).toUInt32 &&& Int32.toUInt32 31)).toInt32) &&& 252645135) + ((((((x1 - ((x1.toUInt32 >>> ((1 : Int32).toUInt32 &&& Int32.toUInt32 31)).toInt32 &&& 1431655765)) &&& 858993459) + (((x1 - ((x1.toUInt32 >>> ((1 : Int32).toUInt32 &&& Int32.toUInt32 31)).toInt32 &&& 1431655765)).toUInt32 >>> ((2 : Int32).toUInt32 &&& Int32.toUInt32 31)).toInt32 &&& 858993459)) + ((((x1 - ((x1.toUInt32 >>> ((1 : Int32).toUInt32 &&& Int32.toUInt32 31)).toInt32 &&& 1431655765)) &&& 858993459) + (((x1 - ((x1.toUInt32 >>> ((1 : Int32).toUInt32 &&& Int32.toUInt32 31)).toInt32 &&& 1431655765)).toUInt32 >>> ((2 : Int32).toUInt32 &&& Int32.toUInt32 31)).toInt32 &&& 858993459)).toUInt32 >>> ((4 : Int32).toUInt32 &&& Int32.toUInt32 31)).toInt32) &&& 252645135).toUInt32 >>> ((8 : Int32).toUInt32 &&& Int32.toUInt32 31)).toInt32).toUInt32 >>> ((16 : Int32).toUInt32 &&& Int32.toUInt32 31)).toInt32) &&& 63) := rfl
set_option maxRecDepth 20000 in
theorem TJ6_bitCount_0f7a4 {l : Launch} {G : va_G} {tc : Nat → ClassId} {D : Nat → Nat} {x1 : Int32} {M : Mm} {R : Int32} (h : FJ6_bitCount_0f7a4 x1 M = some R) : WP l G tc D lay (fun _ => True) yJ6_bitCount_0f7a4.cls cJ6_bitCount_0f7a4 1 rJ6_bitCount_0f7a4 (.code yJ6_bitCount_0f7a4 cJ6_bitCount_0f7a4 1 (some .int)) 0 (entL 1 [.int x1]) [] M (RetQ cJ6_bitCount_0f7a4 (some .int) (RQI R M)) := by
  show WP l G tc D lay (fun _ => True) RJ6 cJ6_bitCount_0f7a4 1 rJ6_bitCount_0f7a4 (.code yJ6_bitCount_0f7a4 cJ6_bitCount_0f7a4 1 (some .int)) 0 [some (.int x1)] [] M (RetQ cJ6_bitCount_0f7a4 (some .int) (RQI R M))
  unfold FJ6_bitCount_0f7a4 at h
  refine WP.iload_n dJ6_bitCount_0f7a4_0 rfl rfl ?_
  refine WP.iload_n dJ6_bitCount_0f7a4_1 rfl rfl ?_
  refine WP.iconst (v := 1) dJ6_bitCount_0f7a4_2 (by decide) ?_
  refine WP.iushr dJ6_bitCount_0f7a4_3 ?_
  refine WP.ldcw (v := 1431655765) dJ6_bitCount_0f7a4_4 wd_359 ?_
  refine WP.iand dJ6_bitCount_0f7a4_7 ?_
  refine WP.isub dJ6_bitCount_0f7a4_8 ?_
  refine WP.istore_n dJ6_bitCount_0f7a4_9 rfl (by decide) rfl rfl ?_
  refine WP.iload_n dJ6_bitCount_0f7a4_10 rfl rfl ?_
  refine WP.ldcw (v := 858993459) dJ6_bitCount_0f7a4_11 wd_360 ?_
  refine WP.iand dJ6_bitCount_0f7a4_14 ?_
  refine WP.iload_n dJ6_bitCount_0f7a4_15 rfl rfl ?_
  refine WP.iconst (v := 2) dJ6_bitCount_0f7a4_16 (by decide) ?_
  refine WP.iushr dJ6_bitCount_0f7a4_17 ?_
  refine WP.ldcw (v := 858993459) dJ6_bitCount_0f7a4_18 wd_360 ?_
  refine WP.iand dJ6_bitCount_0f7a4_21 ?_
  refine WP.iadd dJ6_bitCount_0f7a4_22 ?_
  refine WP.istore_n dJ6_bitCount_0f7a4_23 rfl (by decide) rfl rfl ?_
  refine WP.iload_n dJ6_bitCount_0f7a4_24 rfl rfl ?_
  refine WP.iload_n dJ6_bitCount_0f7a4_25 rfl rfl ?_
  refine WP.iconst (v := 4) dJ6_bitCount_0f7a4_26 (by decide) ?_
  refine WP.iushr dJ6_bitCount_0f7a4_27 ?_
  refine WP.iadd dJ6_bitCount_0f7a4_28 ?_
  refine WP.ldcw (v := 252645135) dJ6_bitCount_0f7a4_29 wd_361 ?_
  refine WP.iand dJ6_bitCount_0f7a4_32 ?_
  refine WP.istore_n dJ6_bitCount_0f7a4_33 rfl (by decide) rfl rfl ?_
  refine WP.iload_n dJ6_bitCount_0f7a4_34 rfl rfl ?_
  refine WP.iload_n dJ6_bitCount_0f7a4_35 rfl rfl ?_
  refine WP.bipush (v := 8) dJ6_bitCount_0f7a4_36 (by decide) ?_
  refine WP.iushr dJ6_bitCount_0f7a4_38 ?_
  refine WP.iadd dJ6_bitCount_0f7a4_39 ?_
  refine WP.istore_n dJ6_bitCount_0f7a4_40 rfl (by decide) rfl rfl ?_
  refine WP.iload_n dJ6_bitCount_0f7a4_41 rfl rfl ?_
  refine WP.iload_n dJ6_bitCount_0f7a4_42 rfl rfl ?_
  refine WP.bipush (v := 16) dJ6_bitCount_0f7a4_43 (by decide) ?_
  refine WP.iushr dJ6_bitCount_0f7a4_45 ?_
  refine WP.iadd dJ6_bitCount_0f7a4_46 ?_
  refine WP.istore_n dJ6_bitCount_0f7a4_47 rfl (by decide) rfl rfl ?_
  refine WP.iload_n dJ6_bitCount_0f7a4_48 rfl rfl ?_
  refine WP.bipush (v := 63) dJ6_bitCount_0f7a4_49 (by decide) ?_
  refine WP.iand dJ6_bitCount_0f7a4_51 ?_
  cases h
  exact WP.iret dJ6_bitCount_0f7a4_52 ⟨rfl, rfl⟩
/-! X2_addStep -/
def rX2_addStep : Room := { frames := 0, cells := 0, slots := 0, locals := 0 }
def FX2_addStep (x1 : Int32) (x2 : Int32) (M : Mm) : Option Mm :=
  (if (Int32.ofNat 62) ≤ (M.1 1 5) then some M else (wrI M 27 62 (M.1 1 5) x1).bind fun M2 => (wrI M2 28 62 (M2.1 1 5) x2).bind fun M4 => (wrF M4 1 5 ((M4.1 1 5) + 1)).bind fun M6 => some M6)
theorem eFX2_addStep (x1 : Int32) (x2 : Int32) (M : Mm) : FX2_addStep x1 x2 M = (if (Int32.ofNat 62) ≤ (M.1 1 5) then some M else (wrI M 27 62 (M.1 1 5) x1).bind fun M2 => (wrI M2 28 62 (M2.1 1 5) x2).bind fun M4 => (wrF M4 1 5 ((M4.1 1 5) + 1)).bind fun M6 => some M6) := rfl
set_option maxRecDepth 20000 in
theorem TX2_addStep {l : Launch} {G : va_G} {tc : Nat → ClassId} {D : Nat → Nat} {x1 : Int32} {x2 : Int32} {M : Mm} {R : Mm} (h : FX2_addStep x1 x2 M = some R) : WP l G tc D lay (fun _ => True) yX2_addStep.cls cX2_addStep 3 rX2_addStep (.code yX2_addStep cX2_addStep 3 none) 0 (entL 3 [.ref 1, .int x1, .int x2]) [] M (RetQ cX2_addStep none (RQV R)) := by
  show WP l G tc D lay (fun _ => True) RX2 cX2_addStep 3 rX2_addStep (.code yX2_addStep cX2_addStep 3 none) 0 [some (.ref 1), some (.int x1), some (.int x2)] [] M (RetQ cX2_addStep none (RQV R))
  unfold FX2_addStep at h
  refine WP.aload_n dX2_addStep_0 rfl rfl ?_
  refine WP.getI (j := 5) dX2_addStep_1 rfl rfl in_X2 (by decide) wd_172 rfl ?_
  refine WP.aload_n dX2_addStep_4 rfl rfl ?_
  refine WP.getR (j := 2) dX2_addStep_5 rfl rfl in_X2 (by decide) wd_166 rfl ?_
  refine WP.alen dX2_addStep_8 rfl rfl ?_
  refine WP.icmp_ge (tgt := 42) dX2_addStep_9 (by decide) (fun c1 => ?_) (fun c1 => ?_)
  · rw [if_pos c1] at h
    cases h
    exact WP.vret dX2_addStep_42 ⟨rfl, rfl⟩
  · rw [if_neg c1] at h
    refine WP.aload_n dX2_addStep_12 rfl rfl ?_
    refine WP.getR (j := 2) dX2_addStep_13 rfl rfl in_X2 (by decide) wd_166 rfl ?_
    refine WP.aload_n dX2_addStep_16 rfl rfl ?_
    refine WP.getI (j := 5) dX2_addStep_17 rfl rfl in_X2 (by decide) wd_172 rfl ?_
    refine WP.iload_n dX2_addStep_20 rfl rfl ?_
    obtain ⟨M2, h3, h⟩ := Option.bind_eq_some_iff.mp h
    refine WP.iastQ dX2_addStep_21 rfl h3 ?_
    refine WP.aload_n dX2_addStep_22 rfl rfl ?_
    refine WP.getR (j := 3) dX2_addStep_23 rfl rfl in_X2 (by decide) wd_168 rfl ?_
    refine WP.aload_n dX2_addStep_26 rfl rfl ?_
    refine WP.getI (j := 5) dX2_addStep_27 rfl rfl in_X2 (by decide) wd_172 rfl ?_
    refine WP.iload_n dX2_addStep_30 rfl rfl ?_
    obtain ⟨M4, h5, h⟩ := Option.bind_eq_some_iff.mp h
    refine WP.iastQ dX2_addStep_31 rfl h5 ?_
    refine WP.aload_n dX2_addStep_32 rfl rfl ?_
    refine WP.dup dX2_addStep_33 rfl ?_
    refine WP.getI (j := 5) dX2_addStep_34 rfl rfl in_X2 (by decide) wd_172 rfl ?_
    refine WP.iconst (v := 1) dX2_addStep_37 (by decide) ?_
    refine WP.iadd dX2_addStep_38 ?_
    obtain ⟨M6, h7, h⟩ := Option.bind_eq_some_iff.mp h
    refine WP.putF (j := 5) (ty := .int) dX2_addStep_39 rfl rfl in_X2 tyX2_ok nmX2 (by decide) wd_172 rfl (by decide +kernel) rfl rfl rfl h7 ?_
    cases h
    exact WP.vret dX2_addStep_42 ⟨rfl, rfl⟩
/-! X2_arrange -/
def rX2_arrange : Room := { frames := 2, cells := 0, slots := 0, locals := 44 }
def BX2_arrange_99 (N : Nat) (K48 : Int32 × Mm → Option Mm) (K99 : Int32 × Int32 × Mm → Option Mm) (q : Int32 × Int32 × Mm) : Option Mm :=
  (if (q.2.2.1 2 6) ≤ q.2.1 then K48 ((q.1 + 1), q.2.2) else (rdI q.2.2 20 12 q.2.1).bind fun v2 => (FJ6_bitCount_0f7a4 v2 q.2.2).bind fun r5 => (if r5 = q.1 then (rdI q.2.2 20 12 q.2.1).bind fun v7 => (FX2_addStep ((50 : Int32) + q.2.1) (v7 ||| ((1 : Int32) <<< (q.2.1 &&& 31))) q.2.2).bind fun M10 => K99 (q.1, (q.2.1 + 1), M10) else K99 (q.1, (q.2.1 + 1), q.2.2)))
def BX2_arrange_56 (N : Nat) (K48 : Int32 × Mm → Option Mm) (K56 : Int32 × Int32 × Mm → Option Mm) (q : Int32 × Int32 × Mm) : Option Mm :=
  (if (q.2.2.1 21 5) ≤ q.2.1 then lp (BX2_arrange_99 N K48) N (q.1, 0, q.2.2) else (rdI q.2.2 29 50 q.2.1).bind fun v2 => (FJ6_bitCount_0f7a4 v2 q.2.2).bind fun r5 => (if r5 = q.1 then (rdI q.2.2 29 50 q.2.1).bind fun v7 => (FX2_addStep q.2.1 v7 q.2.2).bind fun M10 => K56 (q.1, (q.2.1 + 1), M10) else K56 (q.1, (q.2.1 + 1), q.2.2)))
def BX2_arrange_48 (N : Nat) (K48 : Int32 × Mm → Option Mm) (q : Int32 × Mm) : Option Mm :=
  (if 12 < q.1 then some q.2 else lp (BX2_arrange_56 N K48) N (q.1, 0, q.2))
def BX2_arrange_2 (N : Nat) (K2 : Int32 × Mm → Option Mm) (q : Int32 × Mm) : Option Mm :=
  (if (q.2.1 21 5) ≤ q.1 then (wrF q.2 1 5 0).bind fun M2 => lp (BX2_arrange_48 N) N (0, M2) else (rdI q.2 26 50 q.1).bind fun v4 => (FX0_spread N v4 q.2).bind fun r7 => (wrI q.2 29 50 q.1 r7).bind fun M8 => K2 ((q.1 + 1), M8))
def FX2_arrange (N : Nat) (M : Mm) : Option Mm :=
  lp (BX2_arrange_2 N) N (0, M)
theorem eBX2_arrange_99 (N : Nat) (K48 : Int32 × Mm → Option Mm) (K99 : Int32 × Int32 × Mm → Option Mm) (q : Int32 × Int32 × Mm) : BX2_arrange_99 N K48 K99 q = (if (q.2.2.1 2 6) ≤ q.2.1 then K48 ((q.1 + 1), q.2.2) else (rdI q.2.2 20 12 q.2.1).bind fun v2 => (FJ6_bitCount_0f7a4 v2 q.2.2).bind fun r5 => (if r5 = q.1 then (rdI q.2.2 20 12 q.2.1).bind fun v7 => (FX2_addStep ((50 : Int32) + q.2.1) (v7 ||| ((1 : Int32) <<< (q.2.1 &&& 31))) q.2.2).bind fun M10 => K99 (q.1, (q.2.1 + 1), M10) else K99 (q.1, (q.2.1 + 1), q.2.2))) := rfl
theorem eBX2_arrange_56 (N : Nat) (K48 : Int32 × Mm → Option Mm) (K56 : Int32 × Int32 × Mm → Option Mm) (q : Int32 × Int32 × Mm) : BX2_arrange_56 N K48 K56 q = (if (q.2.2.1 21 5) ≤ q.2.1 then lp (BX2_arrange_99 N K48) N (q.1, 0, q.2.2) else (rdI q.2.2 29 50 q.2.1).bind fun v2 => (FJ6_bitCount_0f7a4 v2 q.2.2).bind fun r5 => (if r5 = q.1 then (rdI q.2.2 29 50 q.2.1).bind fun v7 => (FX2_addStep q.2.1 v7 q.2.2).bind fun M10 => K56 (q.1, (q.2.1 + 1), M10) else K56 (q.1, (q.2.1 + 1), q.2.2))) := rfl
theorem eBX2_arrange_48 (N : Nat) (K48 : Int32 × Mm → Option Mm) (q : Int32 × Mm) : BX2_arrange_48 N K48 q = (if 12 < q.1 then some q.2 else lp (BX2_arrange_56 N K48) N (q.1, 0, q.2)) := rfl
theorem eBX2_arrange_2 (N : Nat) (K2 : Int32 × Mm → Option Mm) (q : Int32 × Mm) : BX2_arrange_2 N K2 q = (if (q.2.1 21 5) ≤ q.1 then (wrF q.2 1 5 0).bind fun M2 => lp (BX2_arrange_48 N) N (0, M2) else (rdI q.2 26 50 q.1).bind fun v4 => (FX0_spread N v4 q.2).bind fun r7 => (wrI q.2 29 50 q.1 r7).bind fun M8 => K2 ((q.1 + 1), M8)) := rfl
theorem eFX2_arrange (N : Nat) (M : Mm) : FX2_arrange N M = lp (BX2_arrange_2 N) N (0, M) := rfl
set_option maxRecDepth 20000 in
theorem tX2_arrange_99 {l : Launch} {G : va_G} {tc : Nat → ClassId} {D : Nat → Nat} {N : Nat} {K48 : Int32 × Mm → Option Mm} (hK48 : ∀ (z0 : Int32) (z1 : Mm) (R : Mm), K48 (z0, z1) = some R → WP l G tc D lay (fun _ => True) RX2 cX2_arrange 3 rX2_arrange (.code yX2_arrange cX2_arrange 3 none) 48 [some (.ref 1), some (.int z0), none] [] z1 (RetQ cX2_arrange none (RQV R))) : ∀ (nn : Nat) (q : Int32 × Int32 × Mm) (R : Mm), lp (BX2_arrange_99 N K48) nn q = some R → WP l G tc D lay (fun _ => True) RX2 cX2_arrange 3 rX2_arrange (.code yX2_arrange cX2_arrange 3 none) 99 [some (.ref 1), some (.int q.1), some (.int q.2.1)] [] q.2.2 (RetQ cX2_arrange none (RQV R)) := by
  refine lp_ind (fun K99 hK99q q R h => ?_)
  have hK99 : ∀ (z0 : Int32) (z1 : Int32) (z2 : Mm) (R : Mm), K99 (z0, z1, z2) = some R → WP l G tc D lay (fun _ => True) RX2 cX2_arrange 3 rX2_arrange (.code yX2_arrange cX2_arrange 3 none) 99 [some (.ref 1), some (.int z0), some (.int z1)] [] z2 (RetQ cX2_arrange none (RQV R)) := fun z0 z1 z2 R hh => hK99q (z0, z1, z2) R hh
  unfold BX2_arrange_99 at h
  refine WP.iload_n dX2_arrange_99 rfl rfl ?_
  refine WP.aload_n dX2_arrange_100 rfl rfl ?_
  refine WP.getR (j := 0) dX2_arrange_101 rfl rfl in_X2 (by decide) wd_159 rfl ?_
  refine WP.getI (j := 6) dX2_arrange_104 rfl rfl in_X0 (by decide) wd_107 rfl ?_
  refine WP.icmp_ge (tgt := 153) dX2_arrange_107 (by decide) (fun c1 => ?_) (fun c1 => ?_)
  · rw [if_pos c1] at h
    refine WP.iinc (v := (q.1 + 1)) dX2_arrange_153 rfl rfl (by decide) rfl rfl ?_
    refine WP.goto (tgt := 48) dX2_arrange_156 (by decide) ?_
    refine WP.fgt [true, true, false] rfl ?_
    exact hK48 (q.1 + 1) q.2.2 _ h
  · rw [if_neg c1] at h
    refine WP.aload_n dX2_arrange_110 rfl rfl ?_
    refine WP.getR (j := 0) dX2_arrange_111 rfl rfl in_X2 (by decide) wd_159 rfl ?_
    refine WP.getR (j := 5) dX2_arrange_114 rfl rfl in_X0 (by decide) wd_103 rfl ?_
    refine WP.iload_n dX2_arrange_117 rfl rfl ?_
    obtain ⟨v2, h3, h⟩ := Option.bind_eq_some_iff.mp h
    refine WP.ialdQ dX2_arrange_118 rfl h3 ?_
    obtain ⟨r5, h4, h⟩ := Option.bind_eq_some_iff.mp h
    refine WP.callSI [.int v2] dX2_arrange_119 lk_X2_69 rfl (Nat.le_of_ble_eq_true rfl) (by decide) (Nat.le_of_ble_eq_true rfl) rfl (TJ6_bitCount_0f7a4 h4) ?_
    refine WP.iload_n dX2_arrange_122 rfl rfl ?_
    refine WP.icmp_ne (tgt := 147) dX2_arrange_123 (by decide) (fun c6 => ?_) (fun c6 => ?_)
    · rw [if_neg c6] at h
      refine WP.iinc (v := (q.2.1 + 1)) dX2_arrange_147 rfl rfl (by decide) rfl rfl ?_
      refine WP.goto (tgt := 99) dX2_arrange_150 (by decide) ?_
      refine WP.fgt [true, true, true] rfl ?_
      exact hK99 q.1 (q.2.1 + 1) q.2.2 _ h
    · rw [if_pos c6] at h
      refine WP.aload_n dX2_arrange_126 rfl rfl ?_
      refine WP.bipush (v := 50) dX2_arrange_127 (by decide) ?_
      refine WP.iload_n dX2_arrange_129 rfl rfl ?_
      refine WP.iadd dX2_arrange_130 ?_
      refine WP.aload_n dX2_arrange_131 rfl rfl ?_
      refine WP.getR (j := 0) dX2_arrange_132 rfl rfl in_X2 (by decide) wd_159 rfl ?_
      refine WP.getR (j := 5) dX2_arrange_135 rfl rfl in_X0 (by decide) wd_103 rfl ?_
      refine WP.iload_n dX2_arrange_138 rfl rfl ?_
      obtain ⟨v7, h8, h⟩ := Option.bind_eq_some_iff.mp h
      refine WP.ialdQ dX2_arrange_139 rfl h8 ?_
      refine WP.iconst (v := 1) dX2_arrange_140 (by decide) ?_
      refine WP.iload_n dX2_arrange_141 rfl rfl ?_
      refine WP.ishl dX2_arrange_142 ?_
      refine WP.ior dX2_arrange_143 ?_
      obtain ⟨M10, h9, h⟩ := Option.bind_eq_some_iff.mp h
      refine WP.callVV [.int ((50 : Int32) + q.2.1), .int (v7 ||| ((1 : Int32) <<< (q.2.1 &&& 31)))] dX2_arrange_144 lk_X2_74 rfl rfl rfl (Nat.le_of_ble_eq_true rfl) (by decide) (Nat.le_of_ble_eq_true rfl) rfl (TX2_addStep h9) ?_
      refine WP.iinc (v := (q.2.1 + 1)) dX2_arrange_147 rfl rfl (by decide) rfl rfl ?_
      refine WP.goto (tgt := 99) dX2_arrange_150 (by decide) ?_
      refine WP.fgt [true, true, true] rfl ?_
      exact hK99 q.1 (q.2.1 + 1) M10 _ h
theorem uX2_arrange_99 {l : Launch} {G : va_G} {tc : Nat → ClassId} {D : Nat → Nat} {N : Nat} {K48 : Int32 × Mm → Option Mm} (hK48 : ∀ (z0 : Int32) (z1 : Mm) (R : Mm), K48 (z0, z1) = some R → WP l G tc D lay (fun _ => True) RX2 cX2_arrange 3 rX2_arrange (.code yX2_arrange cX2_arrange 3 none) 48 [some (.ref 1), some (.int z0), none] [] z1 (RetQ cX2_arrange none (RQV R))) (nn : Nat) : ∀ (z0 : Int32) (z1 : Int32) (z2 : Mm) (R : Mm), lp (BX2_arrange_99 N K48) nn (z0, z1, z2) = some R → WP l G tc D lay (fun _ => True) RX2 cX2_arrange 3 rX2_arrange (.code yX2_arrange cX2_arrange 3 none) 99 [some (.ref 1), some (.int z0), some (.int z1)] [] z2 (RetQ cX2_arrange none (RQV R)) := fun z0 z1 z2 R hh => tX2_arrange_99 hK48 nn (z0, z1, z2) R hh
set_option maxRecDepth 20000 in
theorem tX2_arrange_56 {l : Launch} {G : va_G} {tc : Nat → ClassId} {D : Nat → Nat} {N : Nat} {K48 : Int32 × Mm → Option Mm} (hK48 : ∀ (z0 : Int32) (z1 : Mm) (R : Mm), K48 (z0, z1) = some R → WP l G tc D lay (fun _ => True) RX2 cX2_arrange 3 rX2_arrange (.code yX2_arrange cX2_arrange 3 none) 48 [some (.ref 1), some (.int z0), none] [] z1 (RetQ cX2_arrange none (RQV R))) : ∀ (nn : Nat) (q : Int32 × Int32 × Mm) (R : Mm), lp (BX2_arrange_56 N K48) nn q = some R → WP l G tc D lay (fun _ => True) RX2 cX2_arrange 3 rX2_arrange (.code yX2_arrange cX2_arrange 3 none) 56 [some (.ref 1), some (.int q.1), some (.int q.2.1)] [] q.2.2 (RetQ cX2_arrange none (RQV R)) := by
  refine lp_ind (fun K56 hK56q q R h => ?_)
  have hK56 : ∀ (z0 : Int32) (z1 : Int32) (z2 : Mm) (R : Mm), K56 (z0, z1, z2) = some R → WP l G tc D lay (fun _ => True) RX2 cX2_arrange 3 rX2_arrange (.code yX2_arrange cX2_arrange 3 none) 56 [some (.ref 1), some (.int z0), some (.int z1)] [] z2 (RetQ cX2_arrange none (RQV R)) := fun z0 z1 z2 R hh => hK56q (z0, z1, z2) R hh
  unfold BX2_arrange_56 at h
  refine WP.iload_n dX2_arrange_56 rfl rfl ?_
  refine WP.aload_n dX2_arrange_57 rfl rfl ?_
  refine WP.getR (j := 1) dX2_arrange_58 rfl rfl in_X2 (by decide) wd_163 rfl ?_
  refine WP.getI (j := 5) dX2_arrange_61 rfl rfl in_X3 (by decide) wd_144 rfl ?_
  refine WP.icmp_ge (tgt := 97) dX2_arrange_64 (by decide) (fun c1 => ?_) (fun c1 => ?_)
  · rw [if_pos c1] at h
    refine WP.iconst (v := 0) dX2_arrange_97 (by decide) ?_
    refine WP.istore_n dX2_arrange_98 rfl (by decide) rfl rfl ?_
    refine WP.fgt [true, true, true] rfl ?_
    exact uX2_arrange_99 hK48 N q.1 0 q.2.2 _ h
  · rw [if_neg c1] at h
    refine WP.aload_n dX2_arrange_67 rfl rfl ?_
    refine WP.getR (j := 4) dX2_arrange_68 rfl rfl in_X2 (by decide) wd_170 rfl ?_
    refine WP.iload_n dX2_arrange_71 rfl rfl ?_
    obtain ⟨v2, h3, h⟩ := Option.bind_eq_some_iff.mp h
    refine WP.ialdQ dX2_arrange_72 rfl h3 ?_
    obtain ⟨r5, h4, h⟩ := Option.bind_eq_some_iff.mp h
    refine WP.callSI [.int v2] dX2_arrange_73 lk_X2_69 rfl (Nat.le_of_ble_eq_true rfl) (by decide) (Nat.le_of_ble_eq_true rfl) rfl (TJ6_bitCount_0f7a4 h4) ?_
    refine WP.iload_n dX2_arrange_76 rfl rfl ?_
    refine WP.icmp_ne (tgt := 91) dX2_arrange_77 (by decide) (fun c6 => ?_) (fun c6 => ?_)
    · rw [if_neg c6] at h
      refine WP.iinc (v := (q.2.1 + 1)) dX2_arrange_91 rfl rfl (by decide) rfl rfl ?_
      refine WP.goto (tgt := 56) dX2_arrange_94 (by decide) ?_
      refine WP.fgt [true, true, true] rfl ?_
      exact hK56 q.1 (q.2.1 + 1) q.2.2 _ h
    · rw [if_pos c6] at h
      refine WP.aload_n dX2_arrange_80 rfl rfl ?_
      refine WP.iload_n dX2_arrange_81 rfl rfl ?_
      refine WP.aload_n dX2_arrange_82 rfl rfl ?_
      refine WP.getR (j := 4) dX2_arrange_83 rfl rfl in_X2 (by decide) wd_170 rfl ?_
      refine WP.iload_n dX2_arrange_86 rfl rfl ?_
      obtain ⟨v7, h8, h⟩ := Option.bind_eq_some_iff.mp h
      refine WP.ialdQ dX2_arrange_87 rfl h8 ?_
      obtain ⟨M10, h9, h⟩ := Option.bind_eq_some_iff.mp h
      refine WP.callVV [.int q.2.1, .int v7] dX2_arrange_88 lk_X2_74 rfl rfl rfl (Nat.le_of_ble_eq_true rfl) (by decide) (Nat.le_of_ble_eq_true rfl) rfl (TX2_addStep h9) ?_
      refine WP.iinc (v := (q.2.1 + 1)) dX2_arrange_91 rfl rfl (by decide) rfl rfl ?_
      refine WP.goto (tgt := 56) dX2_arrange_94 (by decide) ?_
      refine WP.fgt [true, true, true] rfl ?_
      exact hK56 q.1 (q.2.1 + 1) M10 _ h
theorem uX2_arrange_56 {l : Launch} {G : va_G} {tc : Nat → ClassId} {D : Nat → Nat} {N : Nat} {K48 : Int32 × Mm → Option Mm} (hK48 : ∀ (z0 : Int32) (z1 : Mm) (R : Mm), K48 (z0, z1) = some R → WP l G tc D lay (fun _ => True) RX2 cX2_arrange 3 rX2_arrange (.code yX2_arrange cX2_arrange 3 none) 48 [some (.ref 1), some (.int z0), none] [] z1 (RetQ cX2_arrange none (RQV R))) (nn : Nat) : ∀ (z0 : Int32) (z1 : Int32) (z2 : Mm) (R : Mm), lp (BX2_arrange_56 N K48) nn (z0, z1, z2) = some R → WP l G tc D lay (fun _ => True) RX2 cX2_arrange 3 rX2_arrange (.code yX2_arrange cX2_arrange 3 none) 56 [some (.ref 1), some (.int z0), some (.int z1)] [] z2 (RetQ cX2_arrange none (RQV R)) := fun z0 z1 z2 R hh => tX2_arrange_56 hK48 nn (z0, z1, z2) R hh
set_option maxRecDepth 20000 in
theorem tX2_arrange_48 {l : Launch} {G : va_G} {tc : Nat → ClassId} {D : Nat → Nat} {N : Nat} : ∀ (nn : Nat) (q : Int32 × Mm) (R : Mm), lp (BX2_arrange_48 N) nn q = some R → WP l G tc D lay (fun _ => True) RX2 cX2_arrange 3 rX2_arrange (.code yX2_arrange cX2_arrange 3 none) 48 [some (.ref 1), some (.int q.1), none] [] q.2 (RetQ cX2_arrange none (RQV R)) := by
  refine lp_ind (fun K48 hK48q q R h => ?_)
  have hK48 : ∀ (z0 : Int32) (z1 : Mm) (R : Mm), K48 (z0, z1) = some R → WP l G tc D lay (fun _ => True) RX2 cX2_arrange 3 rX2_arrange (.code yX2_arrange cX2_arrange 3 none) 48 [some (.ref 1), some (.int z0), none] [] z1 (RetQ cX2_arrange none (RQV R)) := fun z0 z1 R hh => hK48q (z0, z1) R hh
  unfold BX2_arrange_48 at h
  refine WP.iload_n dX2_arrange_48 rfl rfl ?_
  refine WP.bipush (v := 12) dX2_arrange_49 (by decide) ?_
  refine WP.icmp_gt (tgt := 159) dX2_arrange_51 (by decide) (fun c1 => ?_) (fun c1 => ?_)
  · rw [if_pos c1] at h
    cases h
    exact WP.vret dX2_arrange_159 ⟨rfl, rfl⟩
  · rw [if_neg c1] at h
    refine WP.iconst (v := 0) dX2_arrange_54 (by decide) ?_
    refine WP.istore_n dX2_arrange_55 rfl (by decide) rfl rfl ?_
    refine WP.fgt [true, true, true] rfl ?_
    exact uX2_arrange_56 hK48 N q.1 0 q.2 _ h
theorem uX2_arrange_48 {l : Launch} {G : va_G} {tc : Nat → ClassId} {D : Nat → Nat} {N : Nat} (nn : Nat) : ∀ (z0 : Int32) (z1 : Mm) (R : Mm), lp (BX2_arrange_48 N) nn (z0, z1) = some R → WP l G tc D lay (fun _ => True) RX2 cX2_arrange 3 rX2_arrange (.code yX2_arrange cX2_arrange 3 none) 48 [some (.ref 1), some (.int z0), none] [] z1 (RetQ cX2_arrange none (RQV R)) := fun z0 z1 R hh => tX2_arrange_48  nn (z0, z1) R hh
set_option maxRecDepth 20000 in
theorem tX2_arrange_2 {l : Launch} {G : va_G} {tc : Nat → ClassId} {D : Nat → Nat} {N : Nat} : ∀ (nn : Nat) (q : Int32 × Mm) (R : Mm), lp (BX2_arrange_2 N) nn q = some R → WP l G tc D lay (fun _ => True) RX2 cX2_arrange 3 rX2_arrange (.code yX2_arrange cX2_arrange 3 none) 2 [some (.ref 1), some (.int q.1), none] [] q.2 (RetQ cX2_arrange none (RQV R)) := by
  refine lp_ind (fun K2 hK2q q R h => ?_)
  have hK2 : ∀ (z0 : Int32) (z1 : Mm) (R : Mm), K2 (z0, z1) = some R → WP l G tc D lay (fun _ => True) RX2 cX2_arrange 3 rX2_arrange (.code yX2_arrange cX2_arrange 3 none) 2 [some (.ref 1), some (.int z0), none] [] z1 (RetQ cX2_arrange none (RQV R)) := fun z0 z1 R hh => hK2q (z0, z1) R hh
  unfold BX2_arrange_2 at h
  refine WP.iload_n dX2_arrange_2 rfl rfl ?_
  refine WP.aload_n dX2_arrange_3 rfl rfl ?_
  refine WP.getR (j := 1) dX2_arrange_4 rfl rfl in_X2 (by decide) wd_163 rfl ?_
  refine WP.getI (j := 5) dX2_arrange_7 rfl rfl in_X3 (by decide) wd_144 rfl ?_
  refine WP.icmp_ge (tgt := 41) dX2_arrange_10 (by decide) (fun c1 => ?_) (fun c1 => ?_)
  · rw [if_pos c1] at h
    refine WP.aload_n dX2_arrange_41 rfl rfl ?_
    refine WP.iconst (v := 0) dX2_arrange_42 (by decide) ?_
    obtain ⟨M2, h3, h⟩ := Option.bind_eq_some_iff.mp h
    refine WP.putF (j := 5) (ty := .int) dX2_arrange_43 rfl rfl in_X2 tyX2_ok nmX2 (by decide) wd_172 rfl (by decide +kernel) rfl rfl rfl h3 ?_
    refine WP.iconst (v := 0) dX2_arrange_46 (by decide) ?_
    refine WP.istore_n dX2_arrange_47 rfl (by decide) rfl rfl ?_
    refine WP.fgt [true, true, false] rfl ?_
    exact uX2_arrange_48  N 0 M2 _ h
  · rw [if_neg c1] at h
    refine WP.aload_n dX2_arrange_13 rfl rfl ?_
    refine WP.getR (j := 4) dX2_arrange_14 rfl rfl in_X2 (by decide) wd_170 rfl ?_
    refine WP.iload_n dX2_arrange_17 rfl rfl ?_
    refine WP.aload_n dX2_arrange_18 rfl rfl ?_
    refine WP.getR (j := 0) dX2_arrange_19 rfl rfl in_X2 (by decide) wd_159 rfl ?_
    refine WP.aload_n dX2_arrange_22 rfl rfl ?_
    refine WP.getR (j := 1) dX2_arrange_23 rfl rfl in_X2 (by decide) wd_163 rfl ?_
    refine WP.getR (j := 4) dX2_arrange_26 rfl rfl in_X3 (by decide) wd_142 rfl ?_
    refine WP.iload_n dX2_arrange_29 rfl rfl ?_
    obtain ⟨v4, h5, h⟩ := Option.bind_eq_some_iff.mp h
    refine WP.ialdQ dX2_arrange_30 rfl h5 ?_
    obtain ⟨r7, h6, h⟩ := Option.bind_eq_some_iff.mp h
    refine WP.callVI [.int v4] dX2_arrange_31 lk_X2_63 rfl rfl rfl (Nat.le_of_ble_eq_true rfl) (by decide) (Nat.le_of_ble_eq_true rfl) rfl (TX0_spread h6) ?_
    obtain ⟨M8, h9, h⟩ := Option.bind_eq_some_iff.mp h
    refine WP.iastQ dX2_arrange_34 rfl h9 ?_
    refine WP.iinc (v := (q.1 + 1)) dX2_arrange_35 rfl rfl (by decide) rfl rfl ?_
    refine WP.goto (tgt := 2) dX2_arrange_38 (by decide) ?_
    refine WP.fgt [true, true, false] rfl ?_
    exact hK2 (q.1 + 1) M8 _ h
theorem uX2_arrange_2 {l : Launch} {G : va_G} {tc : Nat → ClassId} {D : Nat → Nat} {N : Nat} (nn : Nat) : ∀ (z0 : Int32) (z1 : Mm) (R : Mm), lp (BX2_arrange_2 N) nn (z0, z1) = some R → WP l G tc D lay (fun _ => True) RX2 cX2_arrange 3 rX2_arrange (.code yX2_arrange cX2_arrange 3 none) 2 [some (.ref 1), some (.int z0), none] [] z1 (RetQ cX2_arrange none (RQV R)) := fun z0 z1 R hh => tX2_arrange_2  nn (z0, z1) R hh
set_option maxRecDepth 20000 in
theorem TX2_arrange {l : Launch} {G : va_G} {tc : Nat → ClassId} {D : Nat → Nat} {N : Nat} {M : Mm} {R : Mm} (h : FX2_arrange N M = some R) : WP l G tc D lay (fun _ => True) yX2_arrange.cls cX2_arrange 3 rX2_arrange (.code yX2_arrange cX2_arrange 3 none) 0 (entL 3 [.ref 1]) [] M (RetQ cX2_arrange none (RQV R)) := by
  show WP l G tc D lay (fun _ => True) RX2 cX2_arrange 3 rX2_arrange (.code yX2_arrange cX2_arrange 3 none) 0 [some (.ref 1), none, none] [] M (RetQ cX2_arrange none (RQV R))
  unfold FX2_arrange at h
  refine WP.iconst (v := 0) dX2_arrange_0 (by decide) ?_
  refine WP.istore_n dX2_arrange_1 rfl (by decide) rfl rfl ?_
  refine WP.fgt [true, true, false] rfl ?_
  exact uX2_arrange_2  N 0 M _ h
/-! X2_setRule -/
def rX2_setRule : Room := { frames := 3, cells := 0, slots := 0, locals := 66 }
def FX2_setRule (N : Nat) (x1 : Int32) (x2 : Int32) (x3 : Int32) (M : Mm) : Option Mm :=
  (FX2_directWith x1 x2 x3 M).bind fun r2 => (wrI M 19 12 x1 r2).bind fun M3 => (ckR 7 12 x1).bind fun k5 => (wrI M3 k5 4 x2 x3).bind fun M7 => (FX0_spreadHangs N M7).bind fun M10 => (FX2_arrange N M10).bind fun M12 => some M12
theorem eFX2_setRule (N : Nat) (x1 : Int32) (x2 : Int32) (x3 : Int32) (M : Mm) : FX2_setRule N x1 x2 x3 M = (FX2_directWith x1 x2 x3 M).bind fun r2 => (wrI M 19 12 x1 r2).bind fun M3 => (ckR 7 12 x1).bind fun k5 => (wrI M3 k5 4 x2 x3).bind fun M7 => (FX0_spreadHangs N M7).bind fun M10 => (FX2_arrange N M10).bind fun M12 => some M12 := rfl
set_option maxRecDepth 20000 in
theorem TX2_setRule {l : Launch} {G : va_G} {tc : Nat → ClassId} {D : Nat → Nat} {N : Nat} {x1 : Int32} {x2 : Int32} {x3 : Int32} {M : Mm} {R : Mm} (h : FX2_setRule N x1 x2 x3 M = some R) : WP l G tc D lay (fun _ => True) yX2_setRule.cls cX2_setRule 4 rX2_setRule (.code yX2_setRule cX2_setRule 4 none) 0 (entL 4 [.ref 1, .int x1, .int x2, .int x3]) [] M (RetQ cX2_setRule none (RQV R)) := by
  show WP l G tc D lay (fun _ => True) RX2 cX2_setRule 4 rX2_setRule (.code yX2_setRule cX2_setRule 4 none) 0 [some (.ref 1), some (.int x1), some (.int x2), some (.int x3)] [] M (RetQ cX2_setRule none (RQV R))
  unfold FX2_setRule at h
  refine WP.aload_n dX2_setRule_0 rfl rfl ?_
  refine WP.getR (j := 0) dX2_setRule_1 rfl rfl in_X2 (by decide) wd_159 rfl ?_
  refine WP.getR (j := 4) dX2_setRule_4 rfl rfl in_X0 (by decide) wd_100 rfl ?_
  refine WP.iload_n dX2_setRule_7 rfl rfl ?_
  refine WP.aload_n dX2_setRule_8 rfl rfl ?_
  refine WP.iload_n dX2_setRule_9 rfl rfl ?_
  refine WP.iload_n dX2_setRule_10 rfl rfl ?_
  refine WP.iload_n dX2_setRule_11 rfl rfl ?_
  obtain ⟨r2, h1, h⟩ := Option.bind_eq_some_iff.mp h
  refine WP.callVI [.int x1, .int x2, .int x3] dX2_setRule_12 lk_X2_46 rfl rfl rfl (Nat.le_of_ble_eq_true rfl) (by decide) (Nat.le_of_ble_eq_true rfl) rfl (TX2_directWith h1) ?_
  obtain ⟨M3, h4, h⟩ := Option.bind_eq_some_iff.mp h
  refine WP.iastQ dX2_setRule_15 rfl h4 ?_
  refine WP.aload_n dX2_setRule_16 rfl rfl ?_
  refine WP.getR (j := 0) dX2_setRule_17 rfl rfl in_X2 (by decide) wd_159 rfl ?_
  refine WP.getR (j := 3) dX2_setRule_20 rfl rfl in_X0 (by decide) wd_95 rfl ?_
  refine WP.iload_n dX2_setRule_23 rfl rfl ?_
  obtain ⟨k5, h6, h⟩ := Option.bind_eq_some_iff.mp h
  refine WP.aaldQ (base := 7) (n := 12) dX2_setRule_24 rfl rfl h6 ?_
  have hk5 := rows_6 h6
  refine WP.iload_n dX2_setRule_25 rfl rfl ?_
  refine WP.iload_n dX2_setRule_26 rfl rfl ?_
  obtain ⟨M7, h8, h⟩ := Option.bind_eq_some_iff.mp h
  refine WP.iastQ dX2_setRule_27 hk5 h8 ?_
  refine WP.aload_n dX2_setRule_28 rfl rfl ?_
  refine WP.getR (j := 0) dX2_setRule_29 rfl rfl in_X2 (by decide) wd_159 rfl ?_
  obtain ⟨M10, h9, h⟩ := Option.bind_eq_some_iff.mp h
  refine WP.callVV [] dX2_setRule_32 lk_X2_50 rfl rfl rfl (Nat.le_of_ble_eq_true rfl) (by decide) (Nat.le_of_ble_eq_true rfl) rfl (TX0_spreadHangs h9) ?_
  refine WP.aload_n dX2_setRule_35 rfl rfl ?_
  obtain ⟨M12, h11, h⟩ := Option.bind_eq_some_iff.mp h
  refine WP.callVV [] dX2_setRule_36 lk_X2_53 rfl rfl rfl (Nat.le_of_ble_eq_true rfl) (by decide) (Nat.le_of_ble_eq_true rfl) rfl (TX2_arrange h11) ?_
  cases h
  exact WP.vret dX2_setRule_39 ⟨rfl, rfl⟩
/-! X3_has -/
def rX3_has : Room := { frames := 0, cells := 0, slots := 0, locals := 0 }
def FX3_has (x1 : Int32) (M : Mm) : Option Int32 :=
  (if x1 < 0 then some 0 else (if (M.1 21 5) ≤ x1 then some 0 else some 1))
theorem eFX3_has (x1 : Int32) (M : Mm) : FX3_has x1 M = (if x1 < 0 then some 0 else (if (M.1 21 5) ≤ x1 then some 0 else some 1)) := rfl
set_option maxRecDepth 20000 in
theorem TX3_has {l : Launch} {G : va_G} {tc : Nat → ClassId} {D : Nat → Nat} {x1 : Int32} {M : Mm} {R : Int32} (h : FX3_has x1 M = some R) : WP l G tc D lay (fun _ => True) yX3_has.cls cX3_has 2 rX3_has (.code yX3_has cX3_has 2 (some .boolean)) 0 (entL 2 [.ref 21, .int x1]) [] M (RetQ cX3_has (some .boolean) (RQI R M)) := by
  show WP l G tc D lay (fun _ => True) RX3 cX3_has 2 rX3_has (.code yX3_has cX3_has 2 (some .boolean)) 0 [some (.ref 21), some (.int x1)] [] M (RetQ cX3_has (some .boolean) (RQI R M))
  unfold FX3_has at h
  refine WP.iload_n dX3_has_0 rfl rfl ?_
  refine WP.if_lt (tgt := 16) dX3_has_1 (by decide) (fun c1 => ?_) (fun c1 => ?_)
  · rw [if_pos c1] at h
    refine WP.iconst (v := 0) dX3_has_16 (by decide) ?_
    cases h
    exact WP.zret dX3_has_17 (by decide) ⟨rfl, rfl⟩
  · rw [if_neg c1] at h
    refine WP.iload_n dX3_has_4 rfl rfl ?_
    refine WP.aload_n dX3_has_5 rfl rfl ?_
    refine WP.getI (j := 5) dX3_has_6 rfl rfl in_X3 (by decide) wd_143 rfl ?_
    refine WP.icmp_ge (tgt := 16) dX3_has_9 (by decide) (fun c2 => ?_) (fun c2 => ?_)
    · rw [if_pos c2] at h
      refine WP.iconst (v := 0) dX3_has_16 (by decide) ?_
      cases h
      exact WP.zret dX3_has_17 (by decide) ⟨rfl, rfl⟩
    · rw [if_neg c2] at h
      refine WP.iconst (v := 1) dX3_has_12 (by decide) ?_
      refine WP.goto (tgt := 17) dX3_has_13 (by decide) ?_
      cases h
      exact WP.zret dX3_has_17 (by decide) ⟨rfl, rfl⟩
/-! X3_gatherAnswers -/
def rX3_gatherAnswers : Room := { frames := 0, cells := 0, slots := 0, locals := 0 }
def FX3_gatherAnswers (x1 : Int32) (M : Mm) : Option Int32 :=
  (rdI M 22 50 x1).bind fun v1 => (if v1 = 0 then some 0 else (if v1 = 1 ∨ v1 = 10 then (rdI M 23 50 x1).bind fun v5 => some ((1 : Int32) <<< (v5 &&& 31)) else (if v1 = 9 then (rdI M 23 50 x1).bind fun v8 => (rdI M 26 50 v8).bind fun v10 => some v10 else (if v1 = 11 then (rdI M 23 50 x1).bind fun v13 => (rdI M 26 50 v13).bind fun v15 => (rdI M 24 50 x1).bind fun v17 => (rdI M 26 50 v17).bind fun v19 => (rdI M 25 50 x1).bind fun v21 => (rdI M 26 50 v21).bind fun v23 => some ((v15 ||| v19) ||| v23) else (rdI M 23 50 x1).bind fun v25 => (rdI M 26 50 v25).bind fun v27 => (rdI M 24 50 x1).bind fun v29 => (rdI M 26 50 v29).bind fun v31 => some (v27 ||| v31)))))
theorem eFX3_gatherAnswers (x1 : Int32) (M : Mm) : FX3_gatherAnswers x1 M = (rdI M 22 50 x1).bind fun v1 => (if v1 = 0 then some 0 else (if v1 = 1 ∨ v1 = 10 then (rdI M 23 50 x1).bind fun v5 => some ((1 : Int32) <<< (v5 &&& 31)) else (if v1 = 9 then (rdI M 23 50 x1).bind fun v8 => (rdI M 26 50 v8).bind fun v10 => some v10 else (if v1 = 11 then (rdI M 23 50 x1).bind fun v13 => (rdI M 26 50 v13).bind fun v15 => (rdI M 24 50 x1).bind fun v17 => (rdI M 26 50 v17).bind fun v19 => (rdI M 25 50 x1).bind fun v21 => (rdI M 26 50 v21).bind fun v23 => some ((v15 ||| v19) ||| v23) else (rdI M 23 50 x1).bind fun v25 => (rdI M 26 50 v25).bind fun v27 => (rdI M 24 50 x1).bind fun v29 => (rdI M 26 50 v29).bind fun v31 => some (v27 ||| v31))))) := rfl
set_option maxRecDepth 20000 in
theorem TX3_gatherAnswers {l : Launch} {G : va_G} {tc : Nat → ClassId} {D : Nat → Nat} {x1 : Int32} {M : Mm} {R : Int32} (h : FX3_gatherAnswers x1 M = some R) : WP l G tc D lay (fun _ => True) yX3_gatherAnswers.cls cX3_gatherAnswers 2 rX3_gatherAnswers (.code yX3_gatherAnswers cX3_gatherAnswers 2 (some .int)) 0 (entL 2 [.ref 21, .int x1]) [] M (RetQ cX3_gatherAnswers (some .int) (RQI R M)) := by
  show WP l G tc D lay (fun _ => True) RX3 cX3_gatherAnswers 2 rX3_gatherAnswers (.code yX3_gatherAnswers cX3_gatherAnswers 2 (some .int)) 0 [some (.ref 21), some (.int x1)] [] M (RetQ cX3_gatherAnswers (some .int) (RQI R M))
  unfold FX3_gatherAnswers at h
  refine WP.aload_n dX3_gatherAnswers_0 rfl rfl ?_
  refine WP.getR (j := 0) dX3_gatherAnswers_1 rfl rfl in_X3 (by decide) wd_133 rfl ?_
  refine WP.iload_n dX3_gatherAnswers_4 rfl rfl ?_
  obtain ⟨v1, h2, h⟩ := Option.bind_eq_some_iff.mp h
  refine WP.ialdQ dX3_gatherAnswers_5 rfl h2 ?_
  by_cases c3 : v1 = 0
  · rw [if_pos c3] at h
    refine WP.tbl (off := 62) (tgt := 68) dX3_gatherAnswers_6 (by rw [c3]; decide) (by decide) ?_
    refine WP.iconst (v := 0) dX3_gatherAnswers_68 (by decide) ?_
    cases h
    exact WP.iret dX3_gatherAnswers_69 ⟨rfl, rfl⟩
  · rw [if_neg c3] at h
    by_cases c4 : v1 = 1 ∨ v1 = 10
    · rw [if_pos c4] at h
      refine WP.tbl (off := 64) (tgt := 70) dX3_gatherAnswers_6 (by rcases c4 with c4 | c4 <;> (rw [c4]; decide)) (by decide) ?_
      refine WP.iconst (v := 1) dX3_gatherAnswers_70 (by decide) ?_
      refine WP.aload_n dX3_gatherAnswers_71 rfl rfl ?_
      refine WP.getR (j := 1) dX3_gatherAnswers_72 rfl rfl in_X3 (by decide) wd_135 rfl ?_
      refine WP.iload_n dX3_gatherAnswers_75 rfl rfl ?_
      obtain ⟨v5, h6, h⟩ := Option.bind_eq_some_iff.mp h
      refine WP.ialdQ dX3_gatherAnswers_76 rfl h6 ?_
      refine WP.ishl dX3_gatherAnswers_77 ?_
      cases h
      exact WP.iret dX3_gatherAnswers_78 ⟨rfl, rfl⟩
    · rw [if_neg c4] at h
      by_cases c7 : v1 = 9
      · rw [if_pos c7] at h
        refine WP.tbl (off := 73) (tgt := 79) dX3_gatherAnswers_6 (by rw [c7]; decide) (by decide) ?_
        refine WP.aload_n dX3_gatherAnswers_79 rfl rfl ?_
        refine WP.getR (j := 4) dX3_gatherAnswers_80 rfl rfl in_X3 (by decide) wd_141 rfl ?_
        refine WP.aload_n dX3_gatherAnswers_83 rfl rfl ?_
        refine WP.getR (j := 1) dX3_gatherAnswers_84 rfl rfl in_X3 (by decide) wd_135 rfl ?_
        refine WP.iload_n dX3_gatherAnswers_87 rfl rfl ?_
        obtain ⟨v8, h9, h⟩ := Option.bind_eq_some_iff.mp h
        refine WP.ialdQ dX3_gatherAnswers_88 rfl h9 ?_
        obtain ⟨v10, h11, h⟩ := Option.bind_eq_some_iff.mp h
        refine WP.ialdQ dX3_gatherAnswers_89 rfl h11 ?_
        cases h
        exact WP.iret dX3_gatherAnswers_90 ⟨rfl, rfl⟩
      · rw [if_neg c7] at h
        by_cases c12 : v1 = 11
        · rw [if_pos c12] at h
          refine WP.tbl (off := 85) (tgt := 91) dX3_gatherAnswers_6 (by rw [c12]; decide) (by decide) ?_
          refine WP.aload_n dX3_gatherAnswers_91 rfl rfl ?_
          refine WP.getR (j := 4) dX3_gatherAnswers_92 rfl rfl in_X3 (by decide) wd_141 rfl ?_
          refine WP.aload_n dX3_gatherAnswers_95 rfl rfl ?_
          refine WP.getR (j := 1) dX3_gatherAnswers_96 rfl rfl in_X3 (by decide) wd_135 rfl ?_
          refine WP.iload_n dX3_gatherAnswers_99 rfl rfl ?_
          obtain ⟨v13, h14, h⟩ := Option.bind_eq_some_iff.mp h
          refine WP.ialdQ dX3_gatherAnswers_100 rfl h14 ?_
          obtain ⟨v15, h16, h⟩ := Option.bind_eq_some_iff.mp h
          refine WP.ialdQ dX3_gatherAnswers_101 rfl h16 ?_
          refine WP.aload_n dX3_gatherAnswers_102 rfl rfl ?_
          refine WP.getR (j := 4) dX3_gatherAnswers_103 rfl rfl in_X3 (by decide) wd_141 rfl ?_
          refine WP.aload_n dX3_gatherAnswers_106 rfl rfl ?_
          refine WP.getR (j := 2) dX3_gatherAnswers_107 rfl rfl in_X3 (by decide) wd_137 rfl ?_
          refine WP.iload_n dX3_gatherAnswers_110 rfl rfl ?_
          obtain ⟨v17, h18, h⟩ := Option.bind_eq_some_iff.mp h
          refine WP.ialdQ dX3_gatherAnswers_111 rfl h18 ?_
          obtain ⟨v19, h20, h⟩ := Option.bind_eq_some_iff.mp h
          refine WP.ialdQ dX3_gatherAnswers_112 rfl h20 ?_
          refine WP.ior dX3_gatherAnswers_113 ?_
          refine WP.aload_n dX3_gatherAnswers_114 rfl rfl ?_
          refine WP.getR (j := 4) dX3_gatherAnswers_115 rfl rfl in_X3 (by decide) wd_141 rfl ?_
          refine WP.aload_n dX3_gatherAnswers_118 rfl rfl ?_
          refine WP.getR (j := 3) dX3_gatherAnswers_119 rfl rfl in_X3 (by decide) wd_139 rfl ?_
          refine WP.iload_n dX3_gatherAnswers_122 rfl rfl ?_
          obtain ⟨v21, h22, h⟩ := Option.bind_eq_some_iff.mp h
          refine WP.ialdQ dX3_gatherAnswers_123 rfl h22 ?_
          obtain ⟨v23, h24, h⟩ := Option.bind_eq_some_iff.mp h
          refine WP.ialdQ dX3_gatherAnswers_124 rfl h24 ?_
          refine WP.ior dX3_gatherAnswers_125 ?_
          cases h
          exact WP.iret dX3_gatherAnswers_126 ⟨rfl, rfl⟩
        · rw [if_neg c12] at h
          refine WP.tbl (off := 121) (tgt := 127) dX3_gatherAnswers_6 (by
              have n0 := lv_neT (k := 0) (a := 0) (fun z => c3 (z)) (by decide)
              have n1 := lv_neT (k := 1) (a := 1) (fun z => c4 (Or.inl z)) (by decide)
              have n10 := lv_neT (k := 10) (a := 10) (fun z => c4 (Or.inr (z))) (by decide)
              have n9 := lv_neT (k := 9) (a := 9) (fun z => c7 (z)) (by decide)
              have n11 := lv_neT (k := 11) (a := 11) (fun z => c12 (z)) (by decide)
              exact swT_def2  (fun hlo hhi => by
                have hh : v1.toInt = 2 ∨ v1.toInt = 3 ∨ v1.toInt = 4 ∨ v1.toInt = 5 ∨ v1.toInt = 6 ∨ v1.toInt = 7 ∨ v1.toInt = 8 := by omega
                rcases hh with hh | hh | hh | hh | hh | hh | hh <;> (rw [hh]; decide))) (by decide) ?_
          refine WP.aload_n dX3_gatherAnswers_127 rfl rfl ?_
          refine WP.getR (j := 4) dX3_gatherAnswers_128 rfl rfl in_X3 (by decide) wd_141 rfl ?_
          refine WP.aload_n dX3_gatherAnswers_131 rfl rfl ?_
          refine WP.getR (j := 1) dX3_gatherAnswers_132 rfl rfl in_X3 (by decide) wd_135 rfl ?_
          refine WP.iload_n dX3_gatherAnswers_135 rfl rfl ?_
          obtain ⟨v25, h26, h⟩ := Option.bind_eq_some_iff.mp h
          refine WP.ialdQ dX3_gatherAnswers_136 rfl h26 ?_
          obtain ⟨v27, h28, h⟩ := Option.bind_eq_some_iff.mp h
          refine WP.ialdQ dX3_gatherAnswers_137 rfl h28 ?_
          refine WP.aload_n dX3_gatherAnswers_138 rfl rfl ?_
          refine WP.getR (j := 4) dX3_gatherAnswers_139 rfl rfl in_X3 (by decide) wd_141 rfl ?_
          refine WP.aload_n dX3_gatherAnswers_142 rfl rfl ?_
          refine WP.getR (j := 2) dX3_gatherAnswers_143 rfl rfl in_X3 (by decide) wd_137 rfl ?_
          refine WP.iload_n dX3_gatherAnswers_146 rfl rfl ?_
          obtain ⟨v29, h30, h⟩ := Option.bind_eq_some_iff.mp h
          refine WP.ialdQ dX3_gatherAnswers_147 rfl h30 ?_
          obtain ⟨v31, h32, h⟩ := Option.bind_eq_some_iff.mp h
          refine WP.ialdQ dX3_gatherAnswers_148 rfl h32 ?_
          refine WP.ior dX3_gatherAnswers_149 ?_
          cases h
          exact WP.iret dX3_gatherAnswers_150 ⟨rfl, rfl⟩
/-! X3_add -/
def rX3_add : Room := { frames := 1, cells := 0, slots := 0, locals := 21 }
def FX3_add (x1 : Int32) (x2 : Int32) (x3 : Int32) (x4 : Int32) (M : Mm) : Option (Int32 × Mm) :=
  (if (M.1 21 5) < 50 then (wrI M 22 50 (M.1 21 5) x1).bind fun M2 => (wrI M2 23 50 (M2.1 21 5) x2).bind fun M4 => (wrI M4 24 50 (M4.1 21 5) x3).bind fun M6 => (wrI M6 25 50 (M6.1 21 5) x4).bind fun M8 => (FX3_gatherAnswers (M8.1 21 5) M8).bind fun r11 => (wrI M8 26 50 (M8.1 21 5) r11).bind fun M12 => (wrF M12 21 5 ((M12.1 21 5) + 1)).bind fun M14 => some (((M14.1 21 5) - 1), M14) else some ((-4), M))
theorem eFX3_add (x1 : Int32) (x2 : Int32) (x3 : Int32) (x4 : Int32) (M : Mm) : FX3_add x1 x2 x3 x4 M = (if (M.1 21 5) < 50 then (wrI M 22 50 (M.1 21 5) x1).bind fun M2 => (wrI M2 23 50 (M2.1 21 5) x2).bind fun M4 => (wrI M4 24 50 (M4.1 21 5) x3).bind fun M6 => (wrI M6 25 50 (M6.1 21 5) x4).bind fun M8 => (FX3_gatherAnswers (M8.1 21 5) M8).bind fun r11 => (wrI M8 26 50 (M8.1 21 5) r11).bind fun M12 => (wrF M12 21 5 ((M12.1 21 5) + 1)).bind fun M14 => some (((M14.1 21 5) - 1), M14) else some ((-4), M)) := rfl
set_option maxRecDepth 20000 in
theorem TX3_add {l : Launch} {G : va_G} {tc : Nat → ClassId} {D : Nat → Nat} {x1 : Int32} {x2 : Int32} {x3 : Int32} {x4 : Int32} {M : Mm} {R : (Int32 × Mm)} (h : FX3_add x1 x2 x3 x4 M = some R) : WP l G tc D lay (fun _ => True) yX3_add.cls cX3_add 5 rX3_add (.code yX3_add cX3_add 5 (some .int)) 0 (entL 5 [.ref 21, .int x1, .int x2, .int x3, .int x4]) [] M (RetQ cX3_add (some .int) (RQI R.1 R.2)) := by
  show WP l G tc D lay (fun _ => True) RX3 cX3_add 5 rX3_add (.code yX3_add cX3_add 5 (some .int)) 0 [some (.ref 21), some (.int x1), some (.int x2), some (.int x3), some (.int x4)] [] M (RetQ cX3_add (some .int) (RQI R.1 R.2))
  unfold FX3_add at h
  refine WP.aload_n dX3_add_0 rfl rfl ?_
  refine WP.getI (j := 5) dX3_add_1 rfl rfl in_X3 (by decide) wd_143 rfl ?_
  refine WP.bipush (v := 50) dX3_add_4 (by decide) ?_
  refine WP.icmp_lt (tgt := 12) dX3_add_6 (by decide) (fun c1 => ?_) (fun c1 => ?_)
  · rw [if_pos c1] at h
    refine WP.aload_n dX3_add_12 rfl rfl ?_
    refine WP.getR (j := 0) dX3_add_13 rfl rfl in_X3 (by decide) wd_133 rfl ?_
    refine WP.aload_n dX3_add_16 rfl rfl ?_
    refine WP.getI (j := 5) dX3_add_17 rfl rfl in_X3 (by decide) wd_143 rfl ?_
    refine WP.iload_n dX3_add_20 rfl rfl ?_
    obtain ⟨M2, h3, h⟩ := Option.bind_eq_some_iff.mp h
    refine WP.iastQ dX3_add_21 rfl h3 ?_
    refine WP.aload_n dX3_add_22 rfl rfl ?_
    refine WP.getR (j := 1) dX3_add_23 rfl rfl in_X3 (by decide) wd_135 rfl ?_
    refine WP.aload_n dX3_add_26 rfl rfl ?_
    refine WP.getI (j := 5) dX3_add_27 rfl rfl in_X3 (by decide) wd_143 rfl ?_
    refine WP.iload_n dX3_add_30 rfl rfl ?_
    obtain ⟨M4, h5, h⟩ := Option.bind_eq_some_iff.mp h
    refine WP.iastQ dX3_add_31 rfl h5 ?_
    refine WP.aload_n dX3_add_32 rfl rfl ?_
    refine WP.getR (j := 2) dX3_add_33 rfl rfl in_X3 (by decide) wd_137 rfl ?_
    refine WP.aload_n dX3_add_36 rfl rfl ?_
    refine WP.getI (j := 5) dX3_add_37 rfl rfl in_X3 (by decide) wd_143 rfl ?_
    refine WP.iload_n dX3_add_40 rfl rfl ?_
    obtain ⟨M6, h7, h⟩ := Option.bind_eq_some_iff.mp h
    refine WP.iastQ dX3_add_41 rfl h7 ?_
    refine WP.aload_n dX3_add_42 rfl rfl ?_
    refine WP.getR (j := 3) dX3_add_43 rfl rfl in_X3 (by decide) wd_139 rfl ?_
    refine WP.aload_n dX3_add_46 rfl rfl ?_
    refine WP.getI (j := 5) dX3_add_47 rfl rfl in_X3 (by decide) wd_143 rfl ?_
    refine WP.iload dX3_add_50 rfl ?_
    obtain ⟨M8, h9, h⟩ := Option.bind_eq_some_iff.mp h
    refine WP.iastQ dX3_add_52 rfl h9 ?_
    refine WP.aload_n dX3_add_53 rfl rfl ?_
    refine WP.getR (j := 4) dX3_add_54 rfl rfl in_X3 (by decide) wd_141 rfl ?_
    refine WP.aload_n dX3_add_57 rfl rfl ?_
    refine WP.getI (j := 5) dX3_add_58 rfl rfl in_X3 (by decide) wd_143 rfl ?_
    refine WP.aload_n dX3_add_61 rfl rfl ?_
    refine WP.aload_n dX3_add_62 rfl rfl ?_
    refine WP.getI (j := 5) dX3_add_63 rfl rfl in_X3 (by decide) wd_143 rfl ?_
    obtain ⟨r11, h10, h⟩ := Option.bind_eq_some_iff.mp h
    refine WP.callVI [.int (M8.1 21 5)] dX3_add_66 lk_X3_31 rfl rfl rfl (Nat.le_of_ble_eq_true rfl) (by decide) (Nat.le_of_ble_eq_true rfl) rfl (TX3_gatherAnswers h10) ?_
    obtain ⟨M12, h13, h⟩ := Option.bind_eq_some_iff.mp h
    refine WP.iastQ dX3_add_69 rfl h13 ?_
    refine WP.aload_n dX3_add_70 rfl rfl ?_
    refine WP.dup dX3_add_71 rfl ?_
    refine WP.getI (j := 5) dX3_add_72 rfl rfl in_X3 (by decide) wd_143 rfl ?_
    refine WP.iconst (v := 1) dX3_add_75 (by decide) ?_
    refine WP.iadd dX3_add_76 ?_
    obtain ⟨M14, h15, h⟩ := Option.bind_eq_some_iff.mp h
    refine WP.putF (j := 5) (ty := .int) dX3_add_77 rfl rfl in_X3 tyX3_ok nmX3 (by decide) wd_143 rfl (by decide +kernel) rfl rfl rfl h15 ?_
    refine WP.aload_n dX3_add_80 rfl rfl ?_
    refine WP.getI (j := 5) dX3_add_81 rfl rfl in_X3 (by decide) wd_143 rfl ?_
    refine WP.iconst (v := 1) dX3_add_84 (by decide) ?_
    refine WP.isub dX3_add_85 ?_
    cases h
    exact WP.iret dX3_add_86 ⟨rfl, rfl⟩
  · rw [if_neg c1] at h
    refine WP.bipush (v := (-4)) dX3_add_9 (by decide) ?_
    cases h
    exact WP.iret dX3_add_11 ⟨rfl, rfl⟩
/-! X4_follow -/
def rX4_follow : Room := { frames := 2, cells := 0, slots := 0, locals := 44 }
def BX4_follow_11 (N : Nat) (K11 : Int32 × Int32 × Int32 × Mm → Option Mm) (q : Int32 × Int32 × Int32 × Mm) : Option Mm :=
  (if 12 ≤ (q.2.2.2.1 30 1) then some q.2.2.2 else (if q.2.1 = (-9) then some q.2.2.2 else (wrI q.2.2.2 31 12 (q.2.2.2.1 30 1) q.2.1).bind fun M3 => (wrF M3 30 1 ((M3.1 30 1) + 1)).bind fun M5 => (FX9_hasBit q.2.2.1 q.1 M5).bind fun r8 => (if r8 = 0 then (FX0_leastHanging N q.2.2.1 q.1 M5).bind fun r11 => (if r11 = (-9) then K11 (q.1, r11, 0, M5) else (rdI M5 19 12 r11).bind fun v13 => K11 (q.1, r11, v13, M5)) else some M5)))
def FX4_follow (N : Nat) (x2 : Int32) (x3 : Int32) (M : Mm) : Option Mm :=
  (wrF M 30 1 0).bind fun M1 => lp (BX4_follow_11 N) N (x2, x2, x3, M1)
theorem eBX4_follow_11 (N : Nat) (K11 : Int32 × Int32 × Int32 × Mm → Option Mm) (q : Int32 × Int32 × Int32 × Mm) : BX4_follow_11 N K11 q = (if 12 ≤ (q.2.2.2.1 30 1) then some q.2.2.2 else (if q.2.1 = (-9) then some q.2.2.2 else (wrI q.2.2.2 31 12 (q.2.2.2.1 30 1) q.2.1).bind fun M3 => (wrF M3 30 1 ((M3.1 30 1) + 1)).bind fun M5 => (FX9_hasBit q.2.2.1 q.1 M5).bind fun r8 => (if r8 = 0 then (FX0_leastHanging N q.2.2.1 q.1 M5).bind fun r11 => (if r11 = (-9) then K11 (q.1, r11, 0, M5) else (rdI M5 19 12 r11).bind fun v13 => K11 (q.1, r11, v13, M5)) else some M5))) := rfl
theorem eFX4_follow (N : Nat) (x2 : Int32) (x3 : Int32) (M : Mm) : FX4_follow N x2 x3 M = (wrF M 30 1 0).bind fun M1 => lp (BX4_follow_11 N) N (x2, x2, x3, M1) := rfl
set_option maxRecDepth 20000 in
theorem tX4_follow_11 {l : Launch} {G : va_G} {tc : Nat → ClassId} {D : Nat → Nat} {N : Nat} : ∀ (nn : Nat) (q : Int32 × Int32 × Int32 × Mm) (R : Mm), lp (BX4_follow_11 N) nn q = some R → WP l G tc D lay (fun _ => True) RX4 cX4_follow 6 rX4_follow (.code yX4_follow cX4_follow 6 none) 11 [some (.ref 30), some (.ref 2), some (.int q.1), none, some (.int q.2.1), some (.int q.2.2.1)] [] q.2.2.2 (RetQ cX4_follow none (RQV R)) := by
  refine lp_ind (fun K11 hK11q q R h => ?_)
  have hK11 : ∀ (z0 : Int32) (z1 : Int32) (z2 : Int32) (z3 : Mm) (R : Mm), K11 (z0, z1, z2, z3) = some R → WP l G tc D lay (fun _ => True) RX4 cX4_follow 6 rX4_follow (.code yX4_follow cX4_follow 6 none) 11 [some (.ref 30), some (.ref 2), some (.int z0), none, some (.int z1), some (.int z2)] [] z3 (RetQ cX4_follow none (RQV R)) := fun z0 z1 z2 z3 R hh => hK11q (z0, z1, z2, z3) R hh
  unfold BX4_follow_11 at h
  refine WP.aload_n dX4_follow_11 rfl rfl ?_
  refine WP.getI (j := 1) dX4_follow_12 rfl rfl in_X4 (by decide) wd_194 rfl ?_
  refine WP.bipush (v := 12) dX4_follow_15 (by decide) ?_
  refine WP.icmp_ge (tgt := 90) dX4_follow_17 (by decide) (fun c1 => ?_) (fun c1 => ?_)
  · rw [if_pos c1] at h
    cases h
    exact WP.vret dX4_follow_90 ⟨rfl, rfl⟩
  · rw [if_neg c1] at h
    refine WP.iload dX4_follow_20 rfl ?_
    refine WP.bipush (v := (-9)) dX4_follow_22 (by decide) ?_
    refine WP.icmp_eq (tgt := 90) dX4_follow_24 (by decide) (fun c2 => ?_) (fun c2 => ?_)
    · rw [if_pos c2] at h
      cases h
      exact WP.vret dX4_follow_90 ⟨rfl, rfl⟩
    · rw [if_neg c2] at h
      refine WP.aload_n dX4_follow_27 rfl rfl ?_
      refine WP.getR (j := 0) dX4_follow_28 rfl rfl in_X4 (by decide) wd_192 rfl ?_
      refine WP.aload_n dX4_follow_31 rfl rfl ?_
      refine WP.getI (j := 1) dX4_follow_32 rfl rfl in_X4 (by decide) wd_194 rfl ?_
      refine WP.iload dX4_follow_35 rfl ?_
      obtain ⟨M3, h4, h⟩ := Option.bind_eq_some_iff.mp h
      refine WP.iastQ dX4_follow_37 rfl h4 ?_
      refine WP.aload_n dX4_follow_38 rfl rfl ?_
      refine WP.dup dX4_follow_39 rfl ?_
      refine WP.getI (j := 1) dX4_follow_40 rfl rfl in_X4 (by decide) wd_194 rfl ?_
      refine WP.iconst (v := 1) dX4_follow_43 (by decide) ?_
      refine WP.iadd dX4_follow_44 ?_
      obtain ⟨M5, h6, h⟩ := Option.bind_eq_some_iff.mp h
      refine WP.putF (j := 1) (ty := .int) dX4_follow_45 rfl rfl in_X4 tyX4_ok nmX4 (by decide) wd_194 rfl (by decide +kernel) rfl rfl rfl h6 ?_
      refine WP.iload dX4_follow_48 rfl ?_
      refine WP.iload_n dX4_follow_50 rfl rfl ?_
      obtain ⟨r8, h7, h⟩ := Option.bind_eq_some_iff.mp h
      refine WP.callNI [.int q.2.2.1, .int q.1] dX4_follow_51 lk_X4_19 rfl (Nat.le_of_ble_eq_true rfl) (by decide) (Nat.le_of_ble_eq_true rfl) rfl (TX9_hasBit h7) ?_
      refine WP.if_eq (tgt := 58) dX4_follow_54 (by decide) (fun c9 => ?_) (fun c9 => ?_)
      · rw [if_pos c9] at h
        refine WP.aload_n dX4_follow_58 rfl rfl ?_
        refine WP.iload dX4_follow_59 rfl ?_
        refine WP.iload_n dX4_follow_61 rfl rfl ?_
        obtain ⟨r11, h10, h⟩ := Option.bind_eq_some_iff.mp h
        refine WP.callVI [.int q.2.2.1, .int q.1] dX4_follow_62 lk_X4_23 rfl rfl rfl (Nat.le_of_ble_eq_true rfl) (by decide) (Nat.le_of_ble_eq_true rfl) rfl (TX0_leastHanging h10) ?_
        refine WP.istore dX4_follow_65 (by decide) rfl rfl ?_
        refine WP.iload dX4_follow_67 rfl ?_
        refine WP.bipush (v := (-9)) dX4_follow_69 (by decide) ?_
        refine WP.icmp_ne (tgt := 78) dX4_follow_71 (by decide) (fun c12 => ?_) (fun c12 => ?_)
        · rw [if_neg c12] at h
          refine WP.aload_n dX4_follow_78 rfl rfl ?_
          refine WP.getR (j := 4) dX4_follow_79 rfl rfl in_X0 (by decide) wd_99 rfl ?_
          refine WP.iload dX4_follow_82 rfl ?_
          obtain ⟨v13, h14, h⟩ := Option.bind_eq_some_iff.mp h
          refine WP.ialdQ dX4_follow_84 rfl h14 ?_
          refine WP.istore dX4_follow_85 (by decide) rfl rfl ?_
          refine WP.goto (tgt := 11) dX4_follow_87 (by decide) ?_
          refine WP.fgt [true, true, true, false, true, true] rfl ?_
          exact hK11 q.1 r11 v13 M5 _ h
        · rw [if_pos c12] at h
          refine WP.iconst (v := 0) dX4_follow_74 (by decide) ?_
          refine WP.goto (tgt := 85) dX4_follow_75 (by decide) ?_
          refine WP.istore dX4_follow_85 (by decide) rfl rfl ?_
          refine WP.goto (tgt := 11) dX4_follow_87 (by decide) ?_
          refine WP.fgt [true, true, true, false, true, true] rfl ?_
          exact hK11 q.1 r11 0 M5 _ h
      · rw [if_neg c9] at h
        cases h
        exact WP.vret dX4_follow_57 ⟨rfl, rfl⟩
theorem uX4_follow_11 {l : Launch} {G : va_G} {tc : Nat → ClassId} {D : Nat → Nat} {N : Nat} (nn : Nat) : ∀ (z0 : Int32) (z1 : Int32) (z2 : Int32) (z3 : Mm) (R : Mm), lp (BX4_follow_11 N) nn (z0, z1, z2, z3) = some R → WP l G tc D lay (fun _ => True) RX4 cX4_follow 6 rX4_follow (.code yX4_follow cX4_follow 6 none) 11 [some (.ref 30), some (.ref 2), some (.int z0), none, some (.int z1), some (.int z2)] [] z3 (RetQ cX4_follow none (RQV R)) := fun z0 z1 z2 z3 R hh => tX4_follow_11  nn (z0, z1, z2, z3) R hh
set_option maxRecDepth 20000 in
theorem TX4_follow {l : Launch} {G : va_G} {tc : Nat → ClassId} {D : Nat → Nat} {N : Nat} {x2 : Int32} {x3 : Int32} {M : Mm} {R : Mm} (h : FX4_follow N x2 x3 M = some R) : WP l G tc D lay (fun _ => True) yX4_follow.cls cX4_follow 6 rX4_follow (.code yX4_follow cX4_follow 6 none) 0 (entL 6 [.ref 30, .ref 2, .int x2, .int x3]) [] M (RetQ cX4_follow none (RQV R)) := by
  show WP l G tc D lay (fun _ => True) RX4 cX4_follow 6 rX4_follow (.code yX4_follow cX4_follow 6 none) 0 [some (.ref 30), some (.ref 2), some (.int x2), some (.int x3), none, none] [] M (RetQ cX4_follow none (RQV R))
  unfold FX4_follow at h
  refine WP.iload_n dX4_follow_0 rfl rfl ?_
  refine WP.istore dX4_follow_1 (by decide) rfl rfl ?_
  refine WP.iload_n dX4_follow_3 rfl rfl ?_
  refine WP.istore dX4_follow_4 (by decide) rfl rfl ?_
  refine WP.aload_n dX4_follow_6 rfl rfl ?_
  refine WP.iconst (v := 0) dX4_follow_7 (by decide) ?_
  obtain ⟨M1, h2, h⟩ := Option.bind_eq_some_iff.mp h
  refine WP.putF (j := 1) (ty := .int) dX4_follow_8 rfl rfl in_X4 tyX4_ok nmX4 (by decide) wd_194 rfl (by decide +kernel) rfl rfl rfl h2 ?_
  refine WP.fgt [true, true, true, false, true, true] rfl ?_
  exact uX4_follow_11  N x2 x2 x3 M1 _ h
/-! X7_leave -/
def rX7_leave : Room := { frames := 0, cells := 0, slots := 0, locals := 0 }
def FX7_leave (x1 : Int32) (M : Mm) : Option Mm :=
  (wrF M 68 0 (((31 : Int32) * (M.1 68 0)) + x1)).bind fun M1 => some M1
theorem eFX7_leave (x1 : Int32) (M : Mm) : FX7_leave x1 M = (wrF M 68 0 (((31 : Int32) * (M.1 68 0)) + x1)).bind fun M1 => some M1 := rfl
set_option maxRecDepth 20000 in
theorem TX7_leave {l : Launch} {G : va_G} {tc : Nat → ClassId} {D : Nat → Nat} {x1 : Int32} {M : Mm} {R : Mm} (h : FX7_leave x1 M = some R) : WP l G tc D lay (fun _ => True) yX7_leave.cls cX7_leave 2 rX7_leave (.code yX7_leave cX7_leave 2 none) 0 (entL 2 [.ref 68, .int x1]) [] M (RetQ cX7_leave none (RQV R)) := by
  show WP l G tc D lay (fun _ => True) RX7 cX7_leave 2 rX7_leave (.code yX7_leave cX7_leave 2 none) 0 [some (.ref 68), some (.int x1)] [] M (RetQ cX7_leave none (RQV R))
  unfold FX7_leave at h
  refine WP.aload_n dX7_leave_0 rfl rfl ?_
  refine WP.bipush (v := 31) dX7_leave_1 (by decide) ?_
  refine WP.aload_n dX7_leave_3 rfl rfl ?_
  refine WP.getI (j := 0) dX7_leave_4 rfl rfl in_X7 (by decide) wd_306 rfl ?_
  refine WP.imul dX7_leave_7 ?_
  refine WP.iload_n dX7_leave_8 rfl rfl ?_
  refine WP.iadd dX7_leave_9 ?_
  obtain ⟨M1, h2, h⟩ := Option.bind_eq_some_iff.mp h
  refine WP.putF (j := 0) (ty := .int) dX7_leave_10 rfl rfl in_X7 tyX7_ok nmX7 (by decide) wd_306 rfl (by decide +kernel) rfl rfl rfl h2 ?_
  cases h
  exact WP.vret dX7_leave_13 ⟨rfl, rfl⟩
/-! X7_tellAsked -/
def rX7_tellAsked : Room := { frames := 1, cells := 0, slots := 0, locals := 21 }
def FX7_tellAsked (x2 : Int32) (M : Mm) : Option (Int32 × Mm) :=
  (FX7_leave 1 M).bind fun M2 => (rdI M2 4 12 x2).bind fun v3 => (rdI M2 3 12 x2).bind fun v5 => some ((v3 - v5), M2)
theorem eFX7_tellAsked (x2 : Int32) (M : Mm) : FX7_tellAsked x2 M = (FX7_leave 1 M).bind fun M2 => (rdI M2 4 12 x2).bind fun v3 => (rdI M2 3 12 x2).bind fun v5 => some ((v3 - v5), M2) := rfl
set_option maxRecDepth 20000 in
theorem TX7_tellAsked {l : Launch} {G : va_G} {tc : Nat → ClassId} {D : Nat → Nat} {x2 : Int32} {M : Mm} {R : (Int32 × Mm)} (h : FX7_tellAsked x2 M = some R) : WP l G tc D lay (fun _ => True) yX7_tellAsked.cls cX7_tellAsked 3 rX7_tellAsked (.code yX7_tellAsked cX7_tellAsked 3 (some .int)) 0 (entL 3 [.ref 68, .ref 2, .int x2]) [] M (RetQ cX7_tellAsked (some .int) (RQI R.1 R.2)) := by
  show WP l G tc D lay (fun _ => True) RX7 cX7_tellAsked 3 rX7_tellAsked (.code yX7_tellAsked cX7_tellAsked 3 (some .int)) 0 [some (.ref 68), some (.ref 2), some (.int x2)] [] M (RetQ cX7_tellAsked (some .int) (RQI R.1 R.2))
  unfold FX7_tellAsked at h
  refine WP.aload_n dX7_tellAsked_0 rfl rfl ?_
  refine WP.iconst (v := 1) dX7_tellAsked_1 (by decide) ?_
  obtain ⟨M2, h1, h⟩ := Option.bind_eq_some_iff.mp h
  refine WP.callVV [.int 1] dX7_tellAsked_2 lk_X7_46 rfl rfl rfl (Nat.le_of_ble_eq_true rfl) (by decide) (Nat.le_of_ble_eq_true rfl) rfl (TX7_leave h1) ?_
  refine WP.aload_n dX7_tellAsked_5 rfl rfl ?_
  refine WP.getR (j := 1) dX7_tellAsked_6 rfl rfl in_X0 (by decide) wd_87 rfl ?_
  refine WP.iload_n dX7_tellAsked_9 rfl rfl ?_
  obtain ⟨v3, h4, h⟩ := Option.bind_eq_some_iff.mp h
  refine WP.ialdQ dX7_tellAsked_10 rfl h4 ?_
  refine WP.aload_n dX7_tellAsked_11 rfl rfl ?_
  refine WP.getR (j := 0) dX7_tellAsked_12 rfl rfl in_X0 (by decide) wd_83 rfl ?_
  refine WP.iload_n dX7_tellAsked_15 rfl rfl ?_
  obtain ⟨v5, h6, h⟩ := Option.bind_eq_some_iff.mp h
  refine WP.ialdQ dX7_tellAsked_16 rfl h6 ?_
  refine WP.isub dX7_tellAsked_17 ?_
  cases h
  exact WP.iret dX7_tellAsked_18 ⟨rfl, rfl⟩
/-! X7_tellMade -/
def rX7_tellMade : Room := { frames := 2, cells := 0, slots := 0, locals := 43 }
def FX7_tellMade (x2 : Int32) (M : Mm) : Option (Int32 × Mm) :=
  (FX7_leave 2 M).bind fun M2 => (FX7_tellAsked x2 M2).bind fun p4 => some ((p4.1 + 1000), p4.2)
theorem eFX7_tellMade (x2 : Int32) (M : Mm) : FX7_tellMade x2 M = (FX7_leave 2 M).bind fun M2 => (FX7_tellAsked x2 M2).bind fun p4 => some ((p4.1 + 1000), p4.2) := rfl
set_option maxRecDepth 20000 in
theorem TX7_tellMade {l : Launch} {G : va_G} {tc : Nat → ClassId} {D : Nat → Nat} {x2 : Int32} {M : Mm} {R : (Int32 × Mm)} (h : FX7_tellMade x2 M = some R) : WP l G tc D lay (fun _ => True) yX7_tellMade.cls cX7_tellMade 3 rX7_tellMade (.code yX7_tellMade cX7_tellMade 3 (some .int)) 0 (entL 3 [.ref 68, .ref 2, .int x2]) [] M (RetQ cX7_tellMade (some .int) (RQI R.1 R.2)) := by
  show WP l G tc D lay (fun _ => True) RX7 cX7_tellMade 3 rX7_tellMade (.code yX7_tellMade cX7_tellMade 3 (some .int)) 0 [some (.ref 68), some (.ref 2), some (.int x2)] [] M (RetQ cX7_tellMade (some .int) (RQI R.1 R.2))
  unfold FX7_tellMade at h
  refine WP.aload_n dX7_tellMade_0 rfl rfl ?_
  refine WP.iconst (v := 2) dX7_tellMade_1 (by decide) ?_
  obtain ⟨M2, h1, h⟩ := Option.bind_eq_some_iff.mp h
  refine WP.callVV [.int 2] dX7_tellMade_2 lk_X7_46 rfl rfl rfl (Nat.le_of_ble_eq_true rfl) (by decide) (Nat.le_of_ble_eq_true rfl) rfl (TX7_leave h1) ?_
  refine WP.aload_n dX7_tellMade_5 rfl rfl ?_
  refine WP.aload_n dX7_tellMade_6 rfl rfl ?_
  refine WP.iload_n dX7_tellMade_7 rfl rfl ?_
  obtain ⟨p4, h3, h⟩ := Option.bind_eq_some_iff.mp h
  refine WP.callVI [.ref 2, .int x2] dX7_tellMade_8 lk_X7_43 rfl rfl rfl (Nat.le_of_ble_eq_true rfl) (by decide) (Nat.le_of_ble_eq_true rfl) rfl (TX7_tellAsked h3) ?_
  refine WP.sipush (v := 1000) dX7_tellMade_11 (by decide) ?_
  refine WP.iadd dX7_tellMade_14 ?_
  cases h
  exact WP.iret dX7_tellMade_15 ⟨rfl, rfl⟩
/-! X7_tellPlain -/
def rX7_tellPlain : Room := { frames := 3, cells := 0, slots := 0, locals := 65 }
def FX7_tellPlain (x2 : Int32) (M : Mm) : Option (Int32 × Mm) :=
  (rdI M 5 12 x2).bind fun v1 => (if v1 = 0 then (FX7_tellAsked x2 M).bind fun p5 => some (p5.1, p5.2) else (FX7_tellMade x2 M).bind fun p7 => some (p7.1, p7.2))
theorem eFX7_tellPlain (x2 : Int32) (M : Mm) : FX7_tellPlain x2 M = (rdI M 5 12 x2).bind fun v1 => (if v1 = 0 then (FX7_tellAsked x2 M).bind fun p5 => some (p5.1, p5.2) else (FX7_tellMade x2 M).bind fun p7 => some (p7.1, p7.2)) := rfl
set_option maxRecDepth 20000 in
theorem TX7_tellPlain {l : Launch} {G : va_G} {tc : Nat → ClassId} {D : Nat → Nat} {x2 : Int32} {M : Mm} {R : (Int32 × Mm)} (h : FX7_tellPlain x2 M = some R) : WP l G tc D lay (fun _ => True) yX7_tellPlain.cls cX7_tellPlain 3 rX7_tellPlain (.code yX7_tellPlain cX7_tellPlain 3 (some .int)) 0 (entL 3 [.ref 68, .ref 2, .int x2]) [] M (RetQ cX7_tellPlain (some .int) (RQI R.1 R.2)) := by
  show WP l G tc D lay (fun _ => True) RX7 cX7_tellPlain 3 rX7_tellPlain (.code yX7_tellPlain cX7_tellPlain 3 (some .int)) 0 [some (.ref 68), some (.ref 2), some (.int x2)] [] M (RetQ cX7_tellPlain (some .int) (RQI R.1 R.2))
  unfold FX7_tellPlain at h
  refine WP.aload_n dX7_tellPlain_0 rfl rfl ?_
  refine WP.getR (j := 2) dX7_tellPlain_1 rfl rfl in_X0 (by decide) wd_90 rfl ?_
  refine WP.iload_n dX7_tellPlain_4 rfl rfl ?_
  obtain ⟨v1, h2, h⟩ := Option.bind_eq_some_iff.mp h
  refine WP.zaldQ dX7_tellPlain_5 rfl h2 ?_
  refine WP.if_eq (tgt := 18) dX7_tellPlain_6 (by decide) (fun c3 => ?_) (fun c3 => ?_)
  · rw [if_pos c3] at h
    refine WP.aload_n dX7_tellPlain_18 rfl rfl ?_
    refine WP.aload_n dX7_tellPlain_19 rfl rfl ?_
    refine WP.iload_n dX7_tellPlain_20 rfl rfl ?_
    obtain ⟨p5, h4, h⟩ := Option.bind_eq_some_iff.mp h
    refine WP.callVI [.ref 2, .int x2] dX7_tellPlain_21 lk_X7_43 rfl rfl rfl (Nat.le_of_ble_eq_true rfl) (by decide) (Nat.le_of_ble_eq_true rfl) rfl (TX7_tellAsked h4) ?_
    cases h
    exact WP.iret dX7_tellPlain_24 ⟨rfl, rfl⟩
  · rw [if_neg c3] at h
    refine WP.aload_n dX7_tellPlain_9 rfl rfl ?_
    refine WP.aload_n dX7_tellPlain_10 rfl rfl ?_
    refine WP.iload_n dX7_tellPlain_11 rfl rfl ?_
    obtain ⟨p7, h6, h⟩ := Option.bind_eq_some_iff.mp h
    refine WP.callVI [.ref 2, .int x2] dX7_tellPlain_12 lk_X7_40 rfl rfl rfl (Nat.le_of_ble_eq_true rfl) (by decide) (Nat.le_of_ble_eq_true rfl) rfl (TX7_tellMade h6) ?_
    refine WP.goto (tgt := 24) dX7_tellPlain_15 (by decide) ?_
    cases h
    exact WP.iret dX7_tellPlain_24 ⟨rfl, rfl⟩
/-! X7_tellNeeded -/
def rX7_tellNeeded : Room := { frames := 4, cells := 0, slots := 0, locals := 87 }
def FX7_tellNeeded (x2 : Int32) (M : Mm) : Option (Int32 × Mm) :=
  (FX7_leave 3 M).bind fun M2 => (FX7_tellPlain x2 M2).bind fun p4 => some (((2 : Int32) * p4.1), p4.2)
theorem eFX7_tellNeeded (x2 : Int32) (M : Mm) : FX7_tellNeeded x2 M = (FX7_leave 3 M).bind fun M2 => (FX7_tellPlain x2 M2).bind fun p4 => some (((2 : Int32) * p4.1), p4.2) := rfl
set_option maxRecDepth 20000 in
theorem TX7_tellNeeded {l : Launch} {G : va_G} {tc : Nat → ClassId} {D : Nat → Nat} {x2 : Int32} {M : Mm} {R : (Int32 × Mm)} (h : FX7_tellNeeded x2 M = some R) : WP l G tc D lay (fun _ => True) yX7_tellNeeded.cls cX7_tellNeeded 3 rX7_tellNeeded (.code yX7_tellNeeded cX7_tellNeeded 3 (some .int)) 0 (entL 3 [.ref 68, .ref 2, .int x2]) [] M (RetQ cX7_tellNeeded (some .int) (RQI R.1 R.2)) := by
  show WP l G tc D lay (fun _ => True) RX7 cX7_tellNeeded 3 rX7_tellNeeded (.code yX7_tellNeeded cX7_tellNeeded 3 (some .int)) 0 [some (.ref 68), some (.ref 2), some (.int x2)] [] M (RetQ cX7_tellNeeded (some .int) (RQI R.1 R.2))
  unfold FX7_tellNeeded at h
  refine WP.aload_n dX7_tellNeeded_0 rfl rfl ?_
  refine WP.iconst (v := 3) dX7_tellNeeded_1 (by decide) ?_
  obtain ⟨M2, h1, h⟩ := Option.bind_eq_some_iff.mp h
  refine WP.callVV [.int 3] dX7_tellNeeded_2 lk_X7_46 rfl rfl rfl (Nat.le_of_ble_eq_true rfl) (by decide) (Nat.le_of_ble_eq_true rfl) rfl (TX7_leave h1) ?_
  refine WP.iconst (v := 2) dX7_tellNeeded_5 (by decide) ?_
  refine WP.aload_n dX7_tellNeeded_6 rfl rfl ?_
  refine WP.aload_n dX7_tellNeeded_7 rfl rfl ?_
  refine WP.iload_n dX7_tellNeeded_8 rfl rfl ?_
  obtain ⟨p4, h3, h⟩ := Option.bind_eq_some_iff.mp h
  refine WP.callVI [.ref 2, .int x2] dX7_tellNeeded_9 lk_X7_15 rfl rfl rfl (Nat.le_of_ble_eq_true rfl) (by decide) (Nat.le_of_ble_eq_true rfl) rfl (TX7_tellPlain h3) ?_
  refine WP.imul dX7_tellNeeded_12 ?_
  cases h
  exact WP.iret dX7_tellNeeded_13 ⟨rfl, rfl⟩
/-! X7_tellOne -/
def rX7_tellOne : Room := { frames := 5, cells := 0, slots := 0, locals := 109 }
def FX7_tellOne (x2 : Int32) (M : Mm) : Option (Int32 × Mm) :=
  (ckR 7 12 x2).bind fun k1 => (rdI M k1 4 1).bind fun v3 => (if v3 = (-9) then (FX7_tellPlain x2 M).bind fun p9 => some (p9.1, p9.2) else (FX7_tellNeeded x2 M).bind fun p7 => some (p7.1, p7.2))
theorem eFX7_tellOne (x2 : Int32) (M : Mm) : FX7_tellOne x2 M = (ckR 7 12 x2).bind fun k1 => (rdI M k1 4 1).bind fun v3 => (if v3 = (-9) then (FX7_tellPlain x2 M).bind fun p9 => some (p9.1, p9.2) else (FX7_tellNeeded x2 M).bind fun p7 => some (p7.1, p7.2)) := rfl
set_option maxRecDepth 20000 in
theorem TX7_tellOne {l : Launch} {G : va_G} {tc : Nat → ClassId} {D : Nat → Nat} {x2 : Int32} {M : Mm} {R : (Int32 × Mm)} (h : FX7_tellOne x2 M = some R) : WP l G tc D lay (fun _ => True) yX7_tellOne.cls cX7_tellOne 3 rX7_tellOne (.code yX7_tellOne cX7_tellOne 3 (some .int)) 0 (entL 3 [.ref 68, .ref 2, .int x2]) [] M (RetQ cX7_tellOne (some .int) (RQI R.1 R.2)) := by
  show WP l G tc D lay (fun _ => True) RX7 cX7_tellOne 3 rX7_tellOne (.code yX7_tellOne cX7_tellOne 3 (some .int)) 0 [some (.ref 68), some (.ref 2), some (.int x2)] [] M (RetQ cX7_tellOne (some .int) (RQI R.1 R.2))
  unfold FX7_tellOne at h
  refine WP.aload_n dX7_tellOne_0 rfl rfl ?_
  refine WP.getR (j := 3) dX7_tellOne_1 rfl rfl in_X0 (by decide) wd_94 rfl ?_
  refine WP.iload_n dX7_tellOne_4 rfl rfl ?_
  obtain ⟨k1, h2, h⟩ := Option.bind_eq_some_iff.mp h
  refine WP.aaldQ (base := 7) (n := 12) dX7_tellOne_5 rfl rfl h2 ?_
  have hk1 := rows_6 h2
  refine WP.iconst (v := 1) dX7_tellOne_6 (by decide) ?_
  obtain ⟨v3, h4, h⟩ := Option.bind_eq_some_iff.mp h
  refine WP.ialdQ dX7_tellOne_7 hk1 h4 ?_
  refine WP.bipush (v := (-9)) dX7_tellOne_8 (by decide) ?_
  refine WP.icmp_ne (tgt := 22) dX7_tellOne_10 (by decide) (fun c5 => ?_) (fun c5 => ?_)
  · rw [if_neg c5] at h
    refine WP.aload_n dX7_tellOne_22 rfl rfl ?_
    refine WP.aload_n dX7_tellOne_23 rfl rfl ?_
    refine WP.iload_n dX7_tellOne_24 rfl rfl ?_
    obtain ⟨p7, h6, h⟩ := Option.bind_eq_some_iff.mp h
    refine WP.callVI [.ref 2, .int x2] dX7_tellOne_25 lk_X7_21 rfl rfl rfl (Nat.le_of_ble_eq_true rfl) (by decide) (Nat.le_of_ble_eq_true rfl) rfl (TX7_tellNeeded h6) ?_
    cases h
    exact WP.iret dX7_tellOne_28 ⟨rfl, rfl⟩
  · rw [if_pos c5] at h
    refine WP.aload_n dX7_tellOne_13 rfl rfl ?_
    refine WP.aload_n dX7_tellOne_14 rfl rfl ?_
    refine WP.iload_n dX7_tellOne_15 rfl rfl ?_
    obtain ⟨p9, h8, h⟩ := Option.bind_eq_some_iff.mp h
    refine WP.callVI [.ref 2, .int x2] dX7_tellOne_16 lk_X7_15 rfl rfl rfl (Nat.le_of_ble_eq_true rfl) (by decide) (Nat.le_of_ble_eq_true rfl) rfl (TX7_tellPlain h8) ?_
    refine WP.goto (tgt := 28) dX7_tellOne_19 (by decide) ?_
    cases h
    exact WP.iret dX7_tellOne_28 ⟨rfl, rfl⟩
/-! X7_addressMade -/
def rX7_addressMade : Room := { frames := 1, cells := 0, slots := 0, locals := 21 }
def FX7_addressMade (M : Mm) : Option (Int32 × Mm) :=
  (FX7_leave 5 M).bind fun M2 => some (5, M2)
theorem eFX7_addressMade (M : Mm) : FX7_addressMade M = (FX7_leave 5 M).bind fun M2 => some (5, M2) := rfl
set_option maxRecDepth 20000 in
theorem TX7_addressMade {l : Launch} {G : va_G} {tc : Nat → ClassId} {D : Nat → Nat} {M : Mm} {R : (Int32 × Mm)} (h : FX7_addressMade M = some R) : WP l G tc D lay (fun _ => True) yX7_addressMade.cls cX7_addressMade 1 rX7_addressMade (.code yX7_addressMade cX7_addressMade 1 (some .int)) 0 (entL 1 [.ref 68]) [] M (RetQ cX7_addressMade (some .int) (RQI R.1 R.2)) := by
  show WP l G tc D lay (fun _ => True) RX7 cX7_addressMade 1 rX7_addressMade (.code yX7_addressMade cX7_addressMade 1 (some .int)) 0 [some (.ref 68)] [] M (RetQ cX7_addressMade (some .int) (RQI R.1 R.2))
  unfold FX7_addressMade at h
  refine WP.aload_n dX7_addressMade_0 rfl rfl ?_
  refine WP.iconst (v := 5) dX7_addressMade_1 (by decide) ?_
  obtain ⟨M2, h1, h⟩ := Option.bind_eq_some_iff.mp h
  refine WP.callVV [.int 5] dX7_addressMade_2 lk_X7_46 rfl rfl rfl (Nat.le_of_ble_eq_true rfl) (by decide) (Nat.le_of_ble_eq_true rfl) rfl (TX7_leave h1) ?_
  refine WP.iconst (v := 5) dX7_addressMade_5 (by decide) ?_
  cases h
  exact WP.iret dX7_addressMade_6 ⟨rfl, rfl⟩
/-! X7_addressLent -/
def rX7_addressLent : Room := { frames := 1, cells := 0, slots := 0, locals := 21 }
def FX7_addressLent (x1 : Int32) (M : Mm) : Option (Int32 × Mm) :=
  (FX7_leave 4 M).bind fun M2 => some (((10 : Int32) * x1), M2)
theorem eFX7_addressLent (x1 : Int32) (M : Mm) : FX7_addressLent x1 M = (FX7_leave 4 M).bind fun M2 => some (((10 : Int32) * x1), M2) := rfl
set_option maxRecDepth 20000 in
theorem TX7_addressLent {l : Launch} {G : va_G} {tc : Nat → ClassId} {D : Nat → Nat} {x1 : Int32} {M : Mm} {R : (Int32 × Mm)} (h : FX7_addressLent x1 M = some R) : WP l G tc D lay (fun _ => True) yX7_addressLent.cls cX7_addressLent 2 rX7_addressLent (.code yX7_addressLent cX7_addressLent 2 (some .int)) 0 (entL 2 [.ref 68, .int x1]) [] M (RetQ cX7_addressLent (some .int) (RQI R.1 R.2)) := by
  show WP l G tc D lay (fun _ => True) RX7 cX7_addressLent 2 rX7_addressLent (.code yX7_addressLent cX7_addressLent 2 (some .int)) 0 [some (.ref 68), some (.int x1)] [] M (RetQ cX7_addressLent (some .int) (RQI R.1 R.2))
  unfold FX7_addressLent at h
  refine WP.aload_n dX7_addressLent_0 rfl rfl ?_
  refine WP.iconst (v := 4) dX7_addressLent_1 (by decide) ?_
  obtain ⟨M2, h1, h⟩ := Option.bind_eq_some_iff.mp h
  refine WP.callVV [.int 4] dX7_addressLent_2 lk_X7_46 rfl rfl rfl (Nat.le_of_ble_eq_true rfl) (by decide) (Nat.le_of_ble_eq_true rfl) rfl (TX7_leave h1) ?_
  refine WP.bipush (v := 10) dX7_addressLent_5 (by decide) ?_
  refine WP.iload_n dX7_addressLent_7 rfl rfl ?_
  refine WP.imul dX7_addressLent_8 ?_
  cases h
  exact WP.iret dX7_addressLent_9 ⟨rfl, rfl⟩
/-! X7_addressOne -/
def rX7_addressOne : Room := { frames := 2, cells := 0, slots := 0, locals := 42 }
def FX7_addressOne (x2 : Int32) (M : Mm) : Option (Int32 × Mm) :=
  (rdI M 5 12 x2).bind fun v1 => (if v1 = 0 then (FX7_addressLent x2 M).bind fun p5 => some (p5.1, p5.2) else (FX7_addressMade M).bind fun p7 => some (p7.1, p7.2))
theorem eFX7_addressOne (x2 : Int32) (M : Mm) : FX7_addressOne x2 M = (rdI M 5 12 x2).bind fun v1 => (if v1 = 0 then (FX7_addressLent x2 M).bind fun p5 => some (p5.1, p5.2) else (FX7_addressMade M).bind fun p7 => some (p7.1, p7.2)) := rfl
set_option maxRecDepth 20000 in
theorem TX7_addressOne {l : Launch} {G : va_G} {tc : Nat → ClassId} {D : Nat → Nat} {x2 : Int32} {M : Mm} {R : (Int32 × Mm)} (h : FX7_addressOne x2 M = some R) : WP l G tc D lay (fun _ => True) yX7_addressOne.cls cX7_addressOne 3 rX7_addressOne (.code yX7_addressOne cX7_addressOne 3 (some .int)) 0 (entL 3 [.ref 68, .ref 2, .int x2]) [] M (RetQ cX7_addressOne (some .int) (RQI R.1 R.2)) := by
  show WP l G tc D lay (fun _ => True) RX7 cX7_addressOne 3 rX7_addressOne (.code yX7_addressOne cX7_addressOne 3 (some .int)) 0 [some (.ref 68), some (.ref 2), some (.int x2)] [] M (RetQ cX7_addressOne (some .int) (RQI R.1 R.2))
  unfold FX7_addressOne at h
  refine WP.aload_n dX7_addressOne_0 rfl rfl ?_
  refine WP.getR (j := 2) dX7_addressOne_1 rfl rfl in_X0 (by decide) wd_90 rfl ?_
  refine WP.iload_n dX7_addressOne_4 rfl rfl ?_
  obtain ⟨v1, h2, h⟩ := Option.bind_eq_some_iff.mp h
  refine WP.zaldQ dX7_addressOne_5 rfl h2 ?_
  refine WP.if_eq (tgt := 16) dX7_addressOne_6 (by decide) (fun c3 => ?_) (fun c3 => ?_)
  · rw [if_pos c3] at h
    refine WP.aload_n dX7_addressOne_16 rfl rfl ?_
    refine WP.iload_n dX7_addressOne_17 rfl rfl ?_
    obtain ⟨p5, h4, h⟩ := Option.bind_eq_some_iff.mp h
    refine WP.callVI [.int x2] dX7_addressOne_18 lk_X7_32 rfl rfl rfl (Nat.le_of_ble_eq_true rfl) (by decide) (Nat.le_of_ble_eq_true rfl) rfl (TX7_addressLent h4) ?_
    cases h
    exact WP.iret dX7_addressOne_21 ⟨rfl, rfl⟩
  · rw [if_neg c3] at h
    refine WP.aload_n dX7_addressOne_9 rfl rfl ?_
    obtain ⟨p7, h6, h⟩ := Option.bind_eq_some_iff.mp h
    refine WP.callVI [] dX7_addressOne_10 lk_X7_28 rfl rfl rfl (Nat.le_of_ble_eq_true rfl) (by decide) (Nat.le_of_ble_eq_true rfl) rfl (TX7_addressMade h6) ?_
    refine WP.goto (tgt := 21) dX7_addressOne_13 (by decide) ?_
    cases h
    exact WP.iret dX7_addressOne_21 ⟨rfl, rfl⟩
