/-! X10_isLocked -/
def rX10_isLocked : Room := { frames := 0, cells := 0, slots := 0, locals := 0 }
def BX10_isLocked_5 (N : Nat) (M : Mm) (K5 : Int32 × Int32 × Int32 × Int32 → Option Int32) (q : Int32 × Int32 × Int32 × Int32) : Option Int32 :=
  (if (M.1 69 25) ≤ q.2.2.2 then (if q.2.2.1 = 0 then some 0 else (rdI M 72 12 q.2.1).bind fun v3 => (if v3 = 0 then some 1 else some 0)) else (if q.2.2.1 = 0 then (rdI M 90 6 q.2.2.2).bind fun v7 => (if v7 = q.1 then (rdI M 92 6 q.2.2.2).bind fun v10 => (if v10 = 0 then (rdI M 91 6 q.2.2.2).bind fun v13 => (if ((v13 >>> (q.2.1 &&& 31)) &&& 1) = 1 then K5 (q.1, q.2.1, 1, (q.2.2.2 + 1)) else K5 (q.1, q.2.1, 0, (q.2.2.2 + 1))) else K5 (q.1, q.2.1, 0, (q.2.2.2 + 1))) else K5 (q.1, q.2.1, 0, (q.2.2.2 + 1))) else K5 (q.1, q.2.1, 1, (q.2.2.2 + 1))))
def FX10_isLocked (N : Nat) (x1 : Int32) (x2 : Int32) (M : Mm) : Option Int32 :=
  lp (BX10_isLocked_5 N M) N (x1, x2, 0, 0)
theorem eBX10_isLocked_5 (N : Nat) (M : Mm) (K5 : Int32 × Int32 × Int32 × Int32 → Option Int32) (q : Int32 × Int32 × Int32 × Int32) : BX10_isLocked_5 N M K5 q = (if (M.1 69 25) ≤ q.2.2.2 then (if q.2.2.1 = 0 then some 0 else (rdI M 72 12 q.2.1).bind fun v3 => (if v3 = 0 then some 1 else some 0)) else (if q.2.2.1 = 0 then (rdI M 90 6 q.2.2.2).bind fun v7 => (if v7 = q.1 then (rdI M 92 6 q.2.2.2).bind fun v10 => (if v10 = 0 then (rdI M 91 6 q.2.2.2).bind fun v13 => (if ((v13 >>> (q.2.1 &&& 31)) &&& 1) = 1 then K5 (q.1, q.2.1, 1, (q.2.2.2 + 1)) else K5 (q.1, q.2.1, 0, (q.2.2.2 + 1))) else K5 (q.1, q.2.1, 0, (q.2.2.2 + 1))) else K5 (q.1, q.2.1, 0, (q.2.2.2 + 1))) else K5 (q.1, q.2.1, 1, (q.2.2.2 + 1)))) := rfl
theorem eFX10_isLocked (N : Nat) (x1 : Int32) (x2 : Int32) (M : Mm) : FX10_isLocked N x1 x2 M = lp (BX10_isLocked_5 N M) N (x1, x2, 0, 0) := rfl
set_option maxRecDepth 20000 in
theorem tX10_isLocked_5 {l : Launch} {G : va_G} {tc : Nat → ClassId} {D : Nat → Nat} {N : Nat} {M : Mm} : ∀ (nn : Nat) (q : Int32 × Int32 × Int32 × Int32) (R : Int32), lp (BX10_isLocked_5 N M) nn q = some R → WP l G tc D lay (fun _ => True) RX10 cX10_isLocked 5 rX10_isLocked (.code yX10_isLocked cX10_isLocked 5 (some .boolean)) 5 [some (.ref 69), some (.int q.1), some (.int q.2.1), some (.int q.2.2.1), some (.int q.2.2.2)] [] M (RetQ cX10_isLocked (some .boolean) (RQI R M)) := by
  refine lp_ind (fun K5 hK5q q R h => ?_)
  have hK5 : ∀ (z0 : Int32) (z1 : Int32) (z2 : Int32) (z3 : Int32) (R : Int32), K5 (z0, z1, z2, z3) = some R → WP l G tc D lay (fun _ => True) RX10 cX10_isLocked 5 rX10_isLocked (.code yX10_isLocked cX10_isLocked 5 (some .boolean)) 5 [some (.ref 69), some (.int z0), some (.int z1), some (.int z2), some (.int z3)] [] M (RetQ cX10_isLocked (some .boolean) (RQI R M)) := fun z0 z1 z2 z3 R hh => hK5q (z0, z1, z2, z3) R hh
  unfold BX10_isLocked_5 at h
  refine WP.iload dX10_isLocked_5 rfl ?_
  refine WP.aload_n dX10_isLocked_7 rfl rfl ?_
  refine WP.getI (j := 25) dX10_isLocked_8 rfl rfl in_X10 (by decide) wd_717 rfl ?_
  refine WP.icmp_ge (tgt := 66) dX10_isLocked_11 (by decide) (fun c1 => ?_) (fun c1 => ?_)
  · rw [if_pos c1] at h
    refine WP.iload_n dX10_isLocked_66 rfl rfl ?_
    refine WP.if_eq (tgt := 83) dX10_isLocked_67 (by decide) (fun c2 => ?_) (fun c2 => ?_)
    · rw [if_pos c2] at h
      refine WP.iconst (v := 0) dX10_isLocked_83 (by decide) ?_
      cases h
      exact WP.zret dX10_isLocked_84 (by decide) ⟨rfl, rfl⟩
    · rw [if_neg c2] at h
      refine WP.aload_n dX10_isLocked_70 rfl rfl ?_
      refine WP.getR (j := 3) dX10_isLocked_71 rfl rfl in_X10 (by decide) wd_695 rfl ?_
      refine WP.iload_n dX10_isLocked_74 rfl rfl ?_
      obtain ⟨v3, h4, h⟩ := Option.bind_eq_some_iff.mp h
      refine WP.ialdQ dX10_isLocked_75 rfl h4 ?_
      refine WP.if_ne (tgt := 83) dX10_isLocked_76 (by decide) (fun c5 => ?_) (fun c5 => ?_)
      · rw [if_neg c5] at h
        refine WP.iconst (v := 0) dX10_isLocked_83 (by decide) ?_
        cases h
        exact WP.zret dX10_isLocked_84 (by decide) ⟨rfl, rfl⟩
      · rw [if_pos c5] at h
        refine WP.iconst (v := 1) dX10_isLocked_79 (by decide) ?_
        refine WP.goto (tgt := 84) dX10_isLocked_80 (by decide) ?_
        cases h
        exact WP.zret dX10_isLocked_84 (by decide) ⟨rfl, rfl⟩
  · rw [if_neg c1] at h
    refine WP.iload_n dX10_isLocked_14 rfl rfl ?_
    refine WP.if_ne (tgt := 54) dX10_isLocked_15 (by decide) (fun c6 => ?_) (fun c6 => ?_)
    · rw [if_neg c6] at h
      refine WP.iconst (v := 1) dX10_isLocked_54 (by decide) ?_
      refine WP.goto (tgt := 59) dX10_isLocked_55 (by decide) ?_
      refine WP.istore_n dX10_isLocked_59 rfl (by decide) rfl rfl ?_
      refine WP.iinc (v := (q.2.2.2 + 1)) dX10_isLocked_60 rfl rfl (by decide) rfl rfl ?_
      refine WP.goto (tgt := 5) dX10_isLocked_63 (by decide) ?_
      refine WP.fgt [true, true, true, true, true] rfl ?_
      exact hK5 q.1 q.2.1 1 (q.2.2.2 + 1) _ h
    · rw [if_pos c6] at h
      refine WP.aload_n dX10_isLocked_18 rfl rfl ?_
      refine WP.getR (j := 26) dX10_isLocked_19 rfl rfl in_X10 (by decide) wd_718 rfl ?_
      refine WP.iload dX10_isLocked_22 rfl ?_
      obtain ⟨v7, h8, h⟩ := Option.bind_eq_some_iff.mp h
      refine WP.ialdQ dX10_isLocked_24 rfl h8 ?_
      refine WP.iload_n dX10_isLocked_25 rfl rfl ?_
      refine WP.icmp_ne (tgt := 58) dX10_isLocked_26 (by decide) (fun c9 => ?_) (fun c9 => ?_)
      · rw [if_neg c9] at h
        refine WP.iconst (v := 0) dX10_isLocked_58 (by decide) ?_
        refine WP.istore_n dX10_isLocked_59 rfl (by decide) rfl rfl ?_
        refine WP.iinc (v := (q.2.2.2 + 1)) dX10_isLocked_60 rfl rfl (by decide) rfl rfl ?_
        refine WP.goto (tgt := 5) dX10_isLocked_63 (by decide) ?_
        refine WP.fgt [true, true, true, true, true] rfl ?_
        exact hK5 q.1 q.2.1 0 (q.2.2.2 + 1) _ h
      · rw [if_pos c9] at h
        refine WP.aload_n dX10_isLocked_29 rfl rfl ?_
        refine WP.getR (j := 28) dX10_isLocked_30 rfl rfl in_X10 (by decide) wd_720 rfl ?_
        refine WP.iload dX10_isLocked_33 rfl ?_
        obtain ⟨v10, h11, h⟩ := Option.bind_eq_some_iff.mp h
        refine WP.zaldQ dX10_isLocked_35 rfl h11 ?_
        refine WP.if_ne (tgt := 58) dX10_isLocked_36 (by decide) (fun c12 => ?_) (fun c12 => ?_)
        · rw [if_neg c12] at h
          refine WP.iconst (v := 0) dX10_isLocked_58 (by decide) ?_
          refine WP.istore_n dX10_isLocked_59 rfl (by decide) rfl rfl ?_
          refine WP.iinc (v := (q.2.2.2 + 1)) dX10_isLocked_60 rfl rfl (by decide) rfl rfl ?_
          refine WP.goto (tgt := 5) dX10_isLocked_63 (by decide) ?_
          refine WP.fgt [true, true, true, true, true] rfl ?_
          exact hK5 q.1 q.2.1 0 (q.2.2.2 + 1) _ h
        · rw [if_pos c12] at h
          refine WP.aload_n dX10_isLocked_39 rfl rfl ?_
          refine WP.getR (j := 27) dX10_isLocked_40 rfl rfl in_X10 (by decide) wd_719 rfl ?_
          refine WP.iload dX10_isLocked_43 rfl ?_
          obtain ⟨v13, h14, h⟩ := Option.bind_eq_some_iff.mp h
          refine WP.ialdQ dX10_isLocked_45 rfl h14 ?_
          refine WP.iload_n dX10_isLocked_46 rfl rfl ?_
          refine WP.ishr dX10_isLocked_47 ?_
          refine WP.iconst (v := 1) dX10_isLocked_48 (by decide) ?_
          refine WP.iand dX10_isLocked_49 ?_
          refine WP.iconst (v := 1) dX10_isLocked_50 (by decide) ?_
          refine WP.icmp_ne (tgt := 58) dX10_isLocked_51 (by decide) (fun c15 => ?_) (fun c15 => ?_)
          · rw [if_neg c15] at h
            refine WP.iconst (v := 0) dX10_isLocked_58 (by decide) ?_
            refine WP.istore_n dX10_isLocked_59 rfl (by decide) rfl rfl ?_
            refine WP.iinc (v := (q.2.2.2 + 1)) dX10_isLocked_60 rfl rfl (by decide) rfl rfl ?_
            refine WP.goto (tgt := 5) dX10_isLocked_63 (by decide) ?_
            refine WP.fgt [true, true, true, true, true] rfl ?_
            exact hK5 q.1 q.2.1 0 (q.2.2.2 + 1) _ h
          · rw [if_pos c15] at h
            refine WP.iconst (v := 1) dX10_isLocked_54 (by decide) ?_
            refine WP.goto (tgt := 59) dX10_isLocked_55 (by decide) ?_
            refine WP.istore_n dX10_isLocked_59 rfl (by decide) rfl rfl ?_
            refine WP.iinc (v := (q.2.2.2 + 1)) dX10_isLocked_60 rfl rfl (by decide) rfl rfl ?_
            refine WP.goto (tgt := 5) dX10_isLocked_63 (by decide) ?_
            refine WP.fgt [true, true, true, true, true] rfl ?_
            exact hK5 q.1 q.2.1 1 (q.2.2.2 + 1) _ h
theorem uX10_isLocked_5 {l : Launch} {G : va_G} {tc : Nat → ClassId} {D : Nat → Nat} {N : Nat} {M : Mm} (nn : Nat) : ∀ (z0 : Int32) (z1 : Int32) (z2 : Int32) (z3 : Int32) (R : Int32), lp (BX10_isLocked_5 N M) nn (z0, z1, z2, z3) = some R → WP l G tc D lay (fun _ => True) RX10 cX10_isLocked 5 rX10_isLocked (.code yX10_isLocked cX10_isLocked 5 (some .boolean)) 5 [some (.ref 69), some (.int z0), some (.int z1), some (.int z2), some (.int z3)] [] M (RetQ cX10_isLocked (some .boolean) (RQI R M)) := fun z0 z1 z2 z3 R hh => tX10_isLocked_5  nn (z0, z1, z2, z3) R hh
set_option maxRecDepth 20000 in
theorem TX10_isLocked {l : Launch} {G : va_G} {tc : Nat → ClassId} {D : Nat → Nat} {N : Nat} {x1 : Int32} {x2 : Int32} {M : Mm} {R : Int32} (h : FX10_isLocked N x1 x2 M = some R) : WP l G tc D lay (fun _ => True) yX10_isLocked.cls cX10_isLocked 5 rX10_isLocked (.code yX10_isLocked cX10_isLocked 5 (some .boolean)) 0 (entL 5 [.ref 69, .int x1, .int x2]) [] M (RetQ cX10_isLocked (some .boolean) (RQI R M)) := by
  show WP l G tc D lay (fun _ => True) RX10 cX10_isLocked 5 rX10_isLocked (.code yX10_isLocked cX10_isLocked 5 (some .boolean)) 0 [some (.ref 69), some (.int x1), some (.int x2), none, none] [] M (RetQ cX10_isLocked (some .boolean) (RQI R M))
  unfold FX10_isLocked at h
  refine WP.iconst (v := 0) dX10_isLocked_0 (by decide) ?_
  refine WP.istore_n dX10_isLocked_1 rfl (by decide) rfl rfl ?_
  refine WP.iconst (v := 0) dX10_isLocked_2 (by decide) ?_
  refine WP.istore dX10_isLocked_3 (by decide) rfl rfl ?_
  refine WP.fgt [true, true, true, true, true] rfl ?_
  exact uX10_isLocked_5  N x1 x2 0 0 _ h
/-! X10_hasLocked -/
def rX10_hasLocked : Room := { frames := 1, cells := 0, slots := 0, locals := 24 }
def BX10_hasLocked_4 (N : Nat) (M : Mm) (K4 : Int32 × Int32 × Int32 → Option Int32) (q : Int32 × Int32 × Int32) : Option Int32 :=
  (if (M.1 69 0) ≤ q.2.2 then (gdB q.2.1).bind fun g2 => some g2 else (if q.2.1 = 0 then (FX10_isLocked N q.1 q.2.2 M).bind fun r6 => (if r6 = 0 then K4 (q.1, 0, (q.2.2 + 1)) else K4 (q.1, 1, (q.2.2 + 1))) else K4 (q.1, 1, (q.2.2 + 1))))
def FX10_hasLocked (N : Nat) (x1 : Int32) (M : Mm) : Option Int32 :=
  lp (BX10_hasLocked_4 N M) N (x1, 0, 0)
theorem eBX10_hasLocked_4 (N : Nat) (M : Mm) (K4 : Int32 × Int32 × Int32 → Option Int32) (q : Int32 × Int32 × Int32) : BX10_hasLocked_4 N M K4 q = (if (M.1 69 0) ≤ q.2.2 then (gdB q.2.1).bind fun g2 => some g2 else (if q.2.1 = 0 then (FX10_isLocked N q.1 q.2.2 M).bind fun r6 => (if r6 = 0 then K4 (q.1, 0, (q.2.2 + 1)) else K4 (q.1, 1, (q.2.2 + 1))) else K4 (q.1, 1, (q.2.2 + 1)))) := rfl
theorem eFX10_hasLocked (N : Nat) (x1 : Int32) (M : Mm) : FX10_hasLocked N x1 M = lp (BX10_hasLocked_4 N M) N (x1, 0, 0) := rfl
set_option maxRecDepth 20000 in
theorem tX10_hasLocked_4 {l : Launch} {G : va_G} {tc : Nat → ClassId} {D : Nat → Nat} {N : Nat} {M : Mm} : ∀ (nn : Nat) (q : Int32 × Int32 × Int32) (R : Int32), lp (BX10_hasLocked_4 N M) nn q = some R → WP l G tc D lay (fun _ => True) RX10 cX10_hasLocked 4 rX10_hasLocked (.code yX10_hasLocked cX10_hasLocked 4 (some .boolean)) 4 [some (.ref 69), some (.int q.1), some (.int q.2.1), some (.int q.2.2)] [] M (RetQ cX10_hasLocked (some .boolean) (RQI R M)) := by
  refine lp_ind (fun K4 hK4q q R h => ?_)
  have hK4 : ∀ (z0 : Int32) (z1 : Int32) (z2 : Int32) (R : Int32), K4 (z0, z1, z2) = some R → WP l G tc D lay (fun _ => True) RX10 cX10_hasLocked 4 rX10_hasLocked (.code yX10_hasLocked cX10_hasLocked 4 (some .boolean)) 4 [some (.ref 69), some (.int z0), some (.int z1), some (.int z2)] [] M (RetQ cX10_hasLocked (some .boolean) (RQI R M)) := fun z0 z1 z2 R hh => hK4q (z0, z1, z2) R hh
  unfold BX10_hasLocked_4 at h
  refine WP.iload_n dX10_hasLocked_4 rfl rfl ?_
  refine WP.aload_n dX10_hasLocked_5 rfl rfl ?_
  refine WP.getI (j := 0) dX10_hasLocked_6 rfl rfl in_X10 (by decide) wd_692 rfl ?_
  refine WP.icmp_ge (tgt := 37) dX10_hasLocked_9 (by decide) (fun c1 => ?_) (fun c1 => ?_)
  · rw [if_pos c1] at h
    refine WP.iload_n dX10_hasLocked_37 rfl rfl ?_
    obtain ⟨g2, h3, h⟩ := Option.bind_eq_some_iff.mp h
    obtain ⟨rfl, h3⟩ := gdB_ok h3
    cases h
    exact WP.zret dX10_hasLocked_38 h3 ⟨rfl, rfl⟩
  · rw [if_neg c1] at h
    refine WP.iload_n dX10_hasLocked_12 rfl rfl ?_
    refine WP.if_ne (tgt := 25) dX10_hasLocked_13 (by decide) (fun c4 => ?_) (fun c4 => ?_)
    · rw [if_neg c4] at h
      refine WP.iconst (v := 1) dX10_hasLocked_25 (by decide) ?_
      refine WP.goto (tgt := 30) dX10_hasLocked_26 (by decide) ?_
      refine WP.istore_n dX10_hasLocked_30 rfl (by decide) rfl rfl ?_
      refine WP.iinc (v := (q.2.2 + 1)) dX10_hasLocked_31 rfl rfl (by decide) rfl rfl ?_
      refine WP.goto (tgt := 4) dX10_hasLocked_34 (by decide) ?_
      refine WP.fgt [true, true, true, true] rfl ?_
      exact hK4 q.1 1 (q.2.2 + 1) _ h
    · rw [if_pos c4] at h
      refine WP.aload_n dX10_hasLocked_16 rfl rfl ?_
      refine WP.iload_n dX10_hasLocked_17 rfl rfl ?_
      refine WP.iload_n dX10_hasLocked_18 rfl rfl ?_
      obtain ⟨r6, h5, h⟩ := Option.bind_eq_some_iff.mp h
      refine WP.callVI [.int q.1, .int q.2.2] dX10_hasLocked_19 lk_X10_184 rfl rfl rfl (Nat.le_of_ble_eq_true rfl) (by decide) (Nat.le_of_ble_eq_true rfl) rfl (TX10_isLocked h5) ?_
      refine WP.if_eq (tgt := 29) dX10_hasLocked_22 (by decide) (fun c7 => ?_) (fun c7 => ?_)
      · rw [if_pos c7] at h
        refine WP.iconst (v := 0) dX10_hasLocked_29 (by decide) ?_
        refine WP.istore_n dX10_hasLocked_30 rfl (by decide) rfl rfl ?_
        refine WP.iinc (v := (q.2.2 + 1)) dX10_hasLocked_31 rfl rfl (by decide) rfl rfl ?_
        refine WP.goto (tgt := 4) dX10_hasLocked_34 (by decide) ?_
        refine WP.fgt [true, true, true, true] rfl ?_
        exact hK4 q.1 0 (q.2.2 + 1) _ h
      · rw [if_neg c7] at h
        refine WP.iconst (v := 1) dX10_hasLocked_25 (by decide) ?_
        refine WP.goto (tgt := 30) dX10_hasLocked_26 (by decide) ?_
        refine WP.istore_n dX10_hasLocked_30 rfl (by decide) rfl rfl ?_
        refine WP.iinc (v := (q.2.2 + 1)) dX10_hasLocked_31 rfl rfl (by decide) rfl rfl ?_
        refine WP.goto (tgt := 4) dX10_hasLocked_34 (by decide) ?_
        refine WP.fgt [true, true, true, true] rfl ?_
        exact hK4 q.1 1 (q.2.2 + 1) _ h
theorem uX10_hasLocked_4 {l : Launch} {G : va_G} {tc : Nat → ClassId} {D : Nat → Nat} {N : Nat} {M : Mm} (nn : Nat) : ∀ (z0 : Int32) (z1 : Int32) (z2 : Int32) (R : Int32), lp (BX10_hasLocked_4 N M) nn (z0, z1, z2) = some R → WP l G tc D lay (fun _ => True) RX10 cX10_hasLocked 4 rX10_hasLocked (.code yX10_hasLocked cX10_hasLocked 4 (some .boolean)) 4 [some (.ref 69), some (.int z0), some (.int z1), some (.int z2)] [] M (RetQ cX10_hasLocked (some .boolean) (RQI R M)) := fun z0 z1 z2 R hh => tX10_hasLocked_4  nn (z0, z1, z2) R hh
set_option maxRecDepth 20000 in
theorem TX10_hasLocked {l : Launch} {G : va_G} {tc : Nat → ClassId} {D : Nat → Nat} {N : Nat} {x1 : Int32} {M : Mm} {R : Int32} (h : FX10_hasLocked N x1 M = some R) : WP l G tc D lay (fun _ => True) yX10_hasLocked.cls cX10_hasLocked 4 rX10_hasLocked (.code yX10_hasLocked cX10_hasLocked 4 (some .boolean)) 0 (entL 4 [.ref 69, .int x1]) [] M (RetQ cX10_hasLocked (some .boolean) (RQI R M)) := by
  show WP l G tc D lay (fun _ => True) RX10 cX10_hasLocked 4 rX10_hasLocked (.code yX10_hasLocked cX10_hasLocked 4 (some .boolean)) 0 [some (.ref 69), some (.int x1), none, none] [] M (RetQ cX10_hasLocked (some .boolean) (RQI R M))
  unfold FX10_hasLocked at h
  refine WP.iconst (v := 0) dX10_hasLocked_0 (by decide) ?_
  refine WP.istore_n dX10_hasLocked_1 rfl (by decide) rfl rfl ?_
  refine WP.iconst (v := 0) dX10_hasLocked_2 (by decide) ?_
  refine WP.istore_n dX10_hasLocked_3 rfl (by decide) rfl rfl ?_
  refine WP.fgt [true, true, true, true] rfl ?_
  exact uX10_hasLocked_4  N x1 0 0 _ h
/-! X10_answer -/
def rX10_answer : Room := { frames := 6, cells := 0, slots := 0, locals := 136 }
def FX10_answer (N : Nat) (x1 : Int32) (x2 : Int32) (x3 : Int32) (M : Mm) : Option (Int32 × Mm) :=
  (FX10_noDraft x1 M).bind fun r2 => (if r2 = 0 then (FX10_noField x2 M).bind fun r5 => (if r5 = 0 then (rdI M 72 12 x2).bind fun v7 => (if v7 = 1 then some ((-3), M) else (rdI M 70 12 x2).bind fun v10 => (rdI M 71 12 x2).bind fun v12 => (FX10_in x3 v10 v12 M).bind fun r15 => (if r15 = 0 then some ((-2), M) else (FX10_isLocked N x1 x2 M).bind fun r18 => (if r18 = 0 then (wrI M 88 48 (((12 : Int32) * x1) + x2) x3).bind fun M20 => (FX10_arrange N M20).bind fun M23 => (FX10_followers N x2 M23).bind fun r25 => some (r25, M23) else some ((-3), M)))) else some ((-1), M)) else some ((-1), M))
theorem eFX10_answer (N : Nat) (x1 : Int32) (x2 : Int32) (x3 : Int32) (M : Mm) : FX10_answer N x1 x2 x3 M = (FX10_noDraft x1 M).bind fun r2 => (if r2 = 0 then (FX10_noField x2 M).bind fun r5 => (if r5 = 0 then (rdI M 72 12 x2).bind fun v7 => (if v7 = 1 then some ((-3), M) else (rdI M 70 12 x2).bind fun v10 => (rdI M 71 12 x2).bind fun v12 => (FX10_in x3 v10 v12 M).bind fun r15 => (if r15 = 0 then some ((-2), M) else (FX10_isLocked N x1 x2 M).bind fun r18 => (if r18 = 0 then (wrI M 88 48 (((12 : Int32) * x1) + x2) x3).bind fun M20 => (FX10_arrange N M20).bind fun M23 => (FX10_followers N x2 M23).bind fun r25 => some (r25, M23) else some ((-3), M)))) else some ((-1), M)) else some ((-1), M)) := rfl
set_option maxRecDepth 20000 in
theorem TX10_answer {l : Launch} {G : va_G} {tc : Nat → ClassId} {D : Nat → Nat} {N : Nat} {x1 : Int32} {x2 : Int32} {x3 : Int32} {M : Mm} {R : (Int32 × Mm)} (h : FX10_answer N x1 x2 x3 M = some R) : WP l G tc D lay (fun _ => True) yX10_answer.cls cX10_answer 4 rX10_answer (.code yX10_answer cX10_answer 4 (some .int)) 0 (entL 4 [.ref 69, .int x1, .int x2, .int x3]) [] M (RetQ cX10_answer (some .int) (RQI R.1 R.2)) := by
  show WP l G tc D lay (fun _ => True) RX10 cX10_answer 4 rX10_answer (.code yX10_answer cX10_answer 4 (some .int)) 0 [some (.ref 69), some (.int x1), some (.int x2), some (.int x3)] [] M (RetQ cX10_answer (some .int) (RQI R.1 R.2))
  unfold FX10_answer at h
  refine WP.iload_n dX10_answer_0 rfl rfl ?_
  obtain ⟨r2, h1, h⟩ := Option.bind_eq_some_iff.mp h
  refine WP.callSI [.int x1] dX10_answer_1 lk_X10_188 rfl (Nat.le_of_ble_eq_true rfl) (by decide) (Nat.le_of_ble_eq_true rfl) rfl (TX10_noDraft h1) ?_
  refine WP.if_ne (tgt := 15) dX10_answer_4 (by decide) (fun c3 => ?_) (fun c3 => ?_)
  · rw [if_neg c3] at h
    refine WP.iconst (v := (-1)) dX10_answer_15 (by decide) ?_
    cases h
    exact WP.iret dX10_answer_16 ⟨rfl, rfl⟩
  · rw [if_pos c3] at h
    refine WP.aload_n dX10_answer_7 rfl rfl ?_
    refine WP.iload_n dX10_answer_8 rfl rfl ?_
    obtain ⟨r5, h4, h⟩ := Option.bind_eq_some_iff.mp h
    refine WP.callVI [.int x2] dX10_answer_9 lk_X10_114 rfl rfl rfl (Nat.le_of_ble_eq_true rfl) (by decide) (Nat.le_of_ble_eq_true rfl) rfl (TX10_noField h4) ?_
    refine WP.if_eq (tgt := 17) dX10_answer_12 (by decide) (fun c6 => ?_) (fun c6 => ?_)
    · rw [if_pos c6] at h
      refine WP.aload_n dX10_answer_17 rfl rfl ?_
      refine WP.getR (j := 3) dX10_answer_18 rfl rfl in_X10 (by decide) wd_695 rfl ?_
      refine WP.iload_n dX10_answer_21 rfl rfl ?_
      obtain ⟨v7, h8, h⟩ := Option.bind_eq_some_iff.mp h
      refine WP.ialdQ dX10_answer_22 rfl h8 ?_
      refine WP.iconst (v := 1) dX10_answer_23 (by decide) ?_
      refine WP.icmp_ne (tgt := 30) dX10_answer_24 (by decide) (fun c9 => ?_) (fun c9 => ?_)
      · rw [if_neg c9] at h
        refine WP.iload_n dX10_answer_30 rfl rfl ?_
        refine WP.aload_n dX10_answer_31 rfl rfl ?_
        refine WP.getR (j := 1) dX10_answer_32 rfl rfl in_X10 (by decide) wd_693 rfl ?_
        refine WP.iload_n dX10_answer_35 rfl rfl ?_
        obtain ⟨v10, h11, h⟩ := Option.bind_eq_some_iff.mp h
        refine WP.ialdQ dX10_answer_36 rfl h11 ?_
        refine WP.aload_n dX10_answer_37 rfl rfl ?_
        refine WP.getR (j := 2) dX10_answer_38 rfl rfl in_X10 (by decide) wd_694 rfl ?_
        refine WP.iload_n dX10_answer_41 rfl rfl ?_
        obtain ⟨v12, h13, h⟩ := Option.bind_eq_some_iff.mp h
        refine WP.ialdQ dX10_answer_42 rfl h13 ?_
        obtain ⟨r15, h14, h⟩ := Option.bind_eq_some_iff.mp h
        refine WP.callSI [.int x3, .int v10, .int v12] dX10_answer_43 lk_X10_99 rfl (Nat.le_of_ble_eq_true rfl) (by decide) (Nat.le_of_ble_eq_true rfl) rfl (TX10_in h14) ?_
        refine WP.if_ne (tgt := 52) dX10_answer_46 (by decide) (fun c16 => ?_) (fun c16 => ?_)
        · rw [if_neg c16] at h
          refine WP.aload_n dX10_answer_52 rfl rfl ?_
          refine WP.iload_n dX10_answer_53 rfl rfl ?_
          refine WP.iload_n dX10_answer_54 rfl rfl ?_
          obtain ⟨r18, h17, h⟩ := Option.bind_eq_some_iff.mp h
          refine WP.callVI [.int x1, .int x2] dX10_answer_55 lk_X10_184 rfl rfl rfl (Nat.le_of_ble_eq_true rfl) (by decide) (Nat.le_of_ble_eq_true rfl) rfl (TX10_isLocked h17) ?_
          refine WP.if_eq (tgt := 64) dX10_answer_58 (by decide) (fun c19 => ?_) (fun c19 => ?_)
          · rw [if_pos c19] at h
            refine WP.aload_n dX10_answer_64 rfl rfl ?_
            refine WP.getR (j := 22) dX10_answer_65 rfl rfl in_X10 (by decide) wd_714 rfl ?_
            refine WP.bipush (v := 12) dX10_answer_68 (by decide) ?_
            refine WP.iload_n dX10_answer_70 rfl rfl ?_
            refine WP.imul dX10_answer_71 ?_
            refine WP.iload_n dX10_answer_72 rfl rfl ?_
            refine WP.iadd dX10_answer_73 ?_
            refine WP.iload_n dX10_answer_74 rfl rfl ?_
            obtain ⟨M20, h21, h⟩ := Option.bind_eq_some_iff.mp h
            refine WP.iastQ dX10_answer_75 rfl h21 ?_
            refine WP.aload_n dX10_answer_76 rfl rfl ?_
            obtain ⟨M23, h22, h⟩ := Option.bind_eq_some_iff.mp h
            refine WP.callVV [] dX10_answer_77 lk_X10_149 rfl rfl rfl (Nat.le_of_ble_eq_true rfl) (by decide) (Nat.le_of_ble_eq_true rfl) rfl (TX10_arrange h22) ?_
            refine WP.aload_n dX10_answer_80 rfl rfl ?_
            refine WP.iload_n dX10_answer_81 rfl rfl ?_
            obtain ⟨r25, h24, h⟩ := Option.bind_eq_some_iff.mp h
            refine WP.callVI [.int x2] dX10_answer_82 lk_X10_152 rfl rfl rfl (Nat.le_of_ble_eq_true rfl) (by decide) (Nat.le_of_ble_eq_true rfl) rfl (TX10_followers h24) ?_
            cases h
            exact WP.iret dX10_answer_85 ⟨rfl, rfl⟩
          · rw [if_neg c19] at h
            refine WP.bipush (v := (-3)) dX10_answer_61 (by decide) ?_
            cases h
            exact WP.iret dX10_answer_63 ⟨rfl, rfl⟩
        · rw [if_pos c16] at h
          refine WP.bipush (v := (-2)) dX10_answer_49 (by decide) ?_
          cases h
          exact WP.iret dX10_answer_51 ⟨rfl, rfl⟩
      · rw [if_pos c9] at h
        refine WP.bipush (v := (-3)) dX10_answer_27 (by decide) ?_
        cases h
        exact WP.iret dX10_answer_29 ⟨rfl, rfl⟩
    · rw [if_neg c6] at h
      refine WP.iconst (v := (-1)) dX10_answer_15 (by decide) ?_
      cases h
      exact WP.iret dX10_answer_16 ⟨rfl, rfl⟩
/-! X10_clear -/
def rX10_clear : Room := { frames := 2, cells := 0, slots := 0, locals := 43 }
def BX10_clear_60 (N : Nat) (a1 : Int32) (a2 : Int32) (t0 : Int32) (M : Mm) : Option (Int32 × Mm) :=
  (wrI M 88 48 (((12 : Int32) * a1) + a2) (-2000000000)).bind fun M1 => some (t0, M1)
def FX10_clear (N : Nat) (x1 : Int32) (x2 : Int32) (M : Mm) : Option (Int32 × Mm) :=
  (FX10_noDraft x1 M).bind fun r2 => (if r2 = 0 then (FX10_noField x2 M).bind fun r5 => (if r5 = 0 then (rdI M 72 12 x2).bind fun v7 => (if v7 = 1 then some ((-3), M) else (FX10_isLocked N x1 x2 M).bind fun r11 => (if r11 = 0 then (rdI M 88 48 (((12 : Int32) * x1) + x2)).bind fun v13 => (if v13 = (-2000000000) then BX10_clear_60 N x1 x2 0 M else BX10_clear_60 N x1 x2 1 M) else some ((-3), M))) else some ((-1), M)) else some ((-1), M))
theorem eBX10_clear_60 (N : Nat) (a1 : Int32) (a2 : Int32) (t0 : Int32) (M : Mm) : BX10_clear_60 N a1 a2 t0 M = (wrI M 88 48 (((12 : Int32) * a1) + a2) (-2000000000)).bind fun M1 => some (t0, M1) := rfl
theorem eFX10_clear (N : Nat) (x1 : Int32) (x2 : Int32) (M : Mm) : FX10_clear N x1 x2 M = (FX10_noDraft x1 M).bind fun r2 => (if r2 = 0 then (FX10_noField x2 M).bind fun r5 => (if r5 = 0 then (rdI M 72 12 x2).bind fun v7 => (if v7 = 1 then some ((-3), M) else (FX10_isLocked N x1 x2 M).bind fun r11 => (if r11 = 0 then (rdI M 88 48 (((12 : Int32) * x1) + x2)).bind fun v13 => (if v13 = (-2000000000) then BX10_clear_60 N x1 x2 0 M else BX10_clear_60 N x1 x2 1 M) else some ((-3), M))) else some ((-1), M)) else some ((-1), M)) := rfl
set_option maxRecDepth 20000 in
theorem tX10_clear_60 {l : Launch} {G : va_G} {tc : Nat → ClassId} {D : Nat → Nat} {N : Nat} {a1 : Int32} {a2 : Int32} {t0 : Int32} {M : Mm} {R : (Int32 × Mm)} (h : BX10_clear_60 N a1 a2 t0 M = some R) : WP l G tc D lay (fun _ => True) RX10 cX10_clear 4 rX10_clear (.code yX10_clear cX10_clear 4 (some .int)) 60 [some (.ref 69), some (.int a1), some (.int a2), none] [.int t0] M (RetQ cX10_clear (some .int) (RQI R.1 R.2)) := by
  unfold BX10_clear_60 at h
  refine WP.istore_n dX10_clear_60 rfl (by decide) rfl rfl ?_
  refine WP.aload_n dX10_clear_61 rfl rfl ?_
  refine WP.getR (j := 22) dX10_clear_62 rfl rfl in_X10 (by decide) wd_714 rfl ?_
  refine WP.bipush (v := 12) dX10_clear_65 (by decide) ?_
  refine WP.iload_n dX10_clear_67 rfl rfl ?_
  refine WP.imul dX10_clear_68 ?_
  refine WP.iload_n dX10_clear_69 rfl rfl ?_
  refine WP.iadd dX10_clear_70 ?_
  refine WP.ldc (v := (-2000000000)) dX10_clear_71 wd_691 ?_
  obtain ⟨M1, h2, h⟩ := Option.bind_eq_some_iff.mp h
  refine WP.iastQ dX10_clear_73 rfl h2 ?_
  refine WP.iload_n dX10_clear_74 rfl rfl ?_
  cases h
  exact WP.iret dX10_clear_75 ⟨rfl, rfl⟩
set_option maxRecDepth 20000 in
theorem TX10_clear {l : Launch} {G : va_G} {tc : Nat → ClassId} {D : Nat → Nat} {N : Nat} {x1 : Int32} {x2 : Int32} {M : Mm} {R : (Int32 × Mm)} (h : FX10_clear N x1 x2 M = some R) : WP l G tc D lay (fun _ => True) yX10_clear.cls cX10_clear 4 rX10_clear (.code yX10_clear cX10_clear 4 (some .int)) 0 (entL 4 [.ref 69, .int x1, .int x2]) [] M (RetQ cX10_clear (some .int) (RQI R.1 R.2)) := by
  show WP l G tc D lay (fun _ => True) RX10 cX10_clear 4 rX10_clear (.code yX10_clear cX10_clear 4 (some .int)) 0 [some (.ref 69), some (.int x1), some (.int x2), none] [] M (RetQ cX10_clear (some .int) (RQI R.1 R.2))
  unfold FX10_clear at h
  refine WP.iload_n dX10_clear_0 rfl rfl ?_
  obtain ⟨r2, h1, h⟩ := Option.bind_eq_some_iff.mp h
  refine WP.callSI [.int x1] dX10_clear_1 lk_X10_188 rfl (Nat.le_of_ble_eq_true rfl) (by decide) (Nat.le_of_ble_eq_true rfl) rfl (TX10_noDraft h1) ?_
  refine WP.if_ne (tgt := 15) dX10_clear_4 (by decide) (fun c3 => ?_) (fun c3 => ?_)
  · rw [if_neg c3] at h
    refine WP.iconst (v := (-1)) dX10_clear_15 (by decide) ?_
    cases h
    exact WP.iret dX10_clear_16 ⟨rfl, rfl⟩
  · rw [if_pos c3] at h
    refine WP.aload_n dX10_clear_7 rfl rfl ?_
    refine WP.iload_n dX10_clear_8 rfl rfl ?_
    obtain ⟨r5, h4, h⟩ := Option.bind_eq_some_iff.mp h
    refine WP.callVI [.int x2] dX10_clear_9 lk_X10_114 rfl rfl rfl (Nat.le_of_ble_eq_true rfl) (by decide) (Nat.le_of_ble_eq_true rfl) rfl (TX10_noField h4) ?_
    refine WP.if_eq (tgt := 17) dX10_clear_12 (by decide) (fun c6 => ?_) (fun c6 => ?_)
    · rw [if_pos c6] at h
      refine WP.aload_n dX10_clear_17 rfl rfl ?_
      refine WP.getR (j := 3) dX10_clear_18 rfl rfl in_X10 (by decide) wd_695 rfl ?_
      refine WP.iload_n dX10_clear_21 rfl rfl ?_
      obtain ⟨v7, h8, h⟩ := Option.bind_eq_some_iff.mp h
      refine WP.ialdQ dX10_clear_22 rfl h8 ?_
      refine WP.iconst (v := 1) dX10_clear_23 (by decide) ?_
      refine WP.icmp_eq (tgt := 36) dX10_clear_24 (by decide) (fun c9 => ?_) (fun c9 => ?_)
      · rw [if_pos c9] at h
        refine WP.bipush (v := (-3)) dX10_clear_36 (by decide) ?_
        cases h
        exact WP.iret dX10_clear_38 ⟨rfl, rfl⟩
      · rw [if_neg c9] at h
        refine WP.aload_n dX10_clear_27 rfl rfl ?_
        refine WP.iload_n dX10_clear_28 rfl rfl ?_
        refine WP.iload_n dX10_clear_29 rfl rfl ?_
        obtain ⟨r11, h10, h⟩ := Option.bind_eq_some_iff.mp h
        refine WP.callVI [.int x1, .int x2] dX10_clear_30 lk_X10_184 rfl rfl rfl (Nat.le_of_ble_eq_true rfl) (by decide) (Nat.le_of_ble_eq_true rfl) rfl (TX10_isLocked h10) ?_
        refine WP.if_eq (tgt := 39) dX10_clear_33 (by decide) (fun c12 => ?_) (fun c12 => ?_)
        · rw [if_pos c12] at h
          refine WP.aload_n dX10_clear_39 rfl rfl ?_
          refine WP.getR (j := 22) dX10_clear_40 rfl rfl in_X10 (by decide) wd_714 rfl ?_
          refine WP.bipush (v := 12) dX10_clear_43 (by decide) ?_
          refine WP.iload_n dX10_clear_45 rfl rfl ?_
          refine WP.imul dX10_clear_46 ?_
          refine WP.iload_n dX10_clear_47 rfl rfl ?_
          refine WP.iadd dX10_clear_48 ?_
          obtain ⟨v13, h14, h⟩ := Option.bind_eq_some_iff.mp h
          refine WP.ialdQ dX10_clear_49 rfl h14 ?_
          refine WP.ldc (v := (-2000000000)) dX10_clear_50 wd_691 ?_
          refine WP.icmp_ne (tgt := 59) dX10_clear_52 (by decide) (fun c15 => ?_) (fun c15 => ?_)
          · rw [if_neg c15] at h
            refine WP.iconst (v := 1) dX10_clear_59 (by decide) ?_
            refine WP.fgt [true, true, true, false] rfl ?_
            exact tX10_clear_60  h
          · rw [if_pos c15] at h
            refine WP.iconst (v := 0) dX10_clear_55 (by decide) ?_
            refine WP.goto (tgt := 60) dX10_clear_56 (by decide) ?_
            refine WP.fgt [true, true, true, false] rfl ?_
            exact tX10_clear_60  h
        · rw [if_neg c12] at h
          refine WP.bipush (v := (-3)) dX10_clear_36 (by decide) ?_
          cases h
          exact WP.iret dX10_clear_38 ⟨rfl, rfl⟩
    · rw [if_neg c6] at h
      refine WP.iconst (v := (-1)) dX10_clear_15 (by decide) ?_
      cases h
      exact WP.iret dX10_clear_16 ⟨rfl, rfl⟩
/-! X10_kept -/
def rX10_kept : Room := { frames := 7, cells := 0, slots := 0, locals := 158 }
def FX10_kept (N : Nat) (x1 : Int32) (x2 : Int32) (M : Mm) : Option (Int32 × Mm) :=
  (FX10_noDraft x1 M).bind fun r2 => (if r2 = 0 then (FX10_noField x2 M).bind fun r5 => (if r5 = 0 then (FX10_layDraft N x1 M).bind fun M8 => (rdI M8 73 48 (((4 : Int32) * x2) + 3)).bind fun v9 => (rdI M8 72 12 x2).bind fun v11 => (if v11 = 0 then (rdI M8 83 12 x2).bind fun v17 => some (v17, M8) else (if 0 ≤ v9 then (rdI M8 87 50 v9).bind fun v15 => some (v15, M8) else some ((-2000000000), M8))) else some ((-2000000000), M)) else some ((-2000000000), M))
theorem eFX10_kept (N : Nat) (x1 : Int32) (x2 : Int32) (M : Mm) : FX10_kept N x1 x2 M = (FX10_noDraft x1 M).bind fun r2 => (if r2 = 0 then (FX10_noField x2 M).bind fun r5 => (if r5 = 0 then (FX10_layDraft N x1 M).bind fun M8 => (rdI M8 73 48 (((4 : Int32) * x2) + 3)).bind fun v9 => (rdI M8 72 12 x2).bind fun v11 => (if v11 = 0 then (rdI M8 83 12 x2).bind fun v17 => some (v17, M8) else (if 0 ≤ v9 then (rdI M8 87 50 v9).bind fun v15 => some (v15, M8) else some ((-2000000000), M8))) else some ((-2000000000), M)) else some ((-2000000000), M)) := rfl
set_option maxRecDepth 20000 in
theorem TX10_kept {l : Launch} {G : va_G} {tc : Nat → ClassId} {D : Nat → Nat} {N : Nat} {x1 : Int32} {x2 : Int32} {M : Mm} {R : (Int32 × Mm)} (h : FX10_kept N x1 x2 M = some R) : WP l G tc D lay (fun _ => True) yX10_kept.cls cX10_kept 4 rX10_kept (.code yX10_kept cX10_kept 4 (some .int)) 0 (entL 4 [.ref 69, .int x1, .int x2]) [] M (RetQ cX10_kept (some .int) (RQI R.1 R.2)) := by
  show WP l G tc D lay (fun _ => True) RX10 cX10_kept 4 rX10_kept (.code yX10_kept cX10_kept 4 (some .int)) 0 [some (.ref 69), some (.int x1), some (.int x2), none] [] M (RetQ cX10_kept (some .int) (RQI R.1 R.2))
  unfold FX10_kept at h
  refine WP.iload_n dX10_kept_0 rfl rfl ?_
  obtain ⟨r2, h1, h⟩ := Option.bind_eq_some_iff.mp h
  refine WP.callSI [.int x1] dX10_kept_1 lk_X10_188 rfl (Nat.le_of_ble_eq_true rfl) (by decide) (Nat.le_of_ble_eq_true rfl) rfl (TX10_noDraft h1) ?_
  refine WP.if_ne (tgt := 15) dX10_kept_4 (by decide) (fun c3 => ?_) (fun c3 => ?_)
  · rw [if_neg c3] at h
    refine WP.ldc (v := (-2000000000)) dX10_kept_15 wd_691 ?_
    cases h
    exact WP.iret dX10_kept_17 ⟨rfl, rfl⟩
  · rw [if_pos c3] at h
    refine WP.aload_n dX10_kept_7 rfl rfl ?_
    refine WP.iload_n dX10_kept_8 rfl rfl ?_
    obtain ⟨r5, h4, h⟩ := Option.bind_eq_some_iff.mp h
    refine WP.callVI [.int x2] dX10_kept_9 lk_X10_114 rfl rfl rfl (Nat.le_of_ble_eq_true rfl) (by decide) (Nat.le_of_ble_eq_true rfl) rfl (TX10_noField h4) ?_
    refine WP.if_eq (tgt := 18) dX10_kept_12 (by decide) (fun c6 => ?_) (fun c6 => ?_)
    · rw [if_pos c6] at h
      refine WP.aload_n dX10_kept_18 rfl rfl ?_
      refine WP.iload_n dX10_kept_19 rfl rfl ?_
      obtain ⟨M8, h7, h⟩ := Option.bind_eq_some_iff.mp h
      refine WP.callVV [.int x1] dX10_kept_20 lk_X10_191 rfl rfl rfl (Nat.le_of_ble_eq_true rfl) (by decide) (Nat.le_of_ble_eq_true rfl) rfl (TX10_layDraft h7) ?_
      refine WP.aload_n dX10_kept_23 rfl rfl ?_
      refine WP.getR (j := 4) dX10_kept_24 rfl rfl in_X10 (by decide) wd_696 rfl ?_
      refine WP.iconst (v := 4) dX10_kept_27 (by decide) ?_
      refine WP.iload_n dX10_kept_28 rfl rfl ?_
      refine WP.imul dX10_kept_29 ?_
      refine WP.iconst (v := 3) dX10_kept_30 (by decide) ?_
      refine WP.iadd dX10_kept_31 ?_
      obtain ⟨v9, h10, h⟩ := Option.bind_eq_some_iff.mp h
      refine WP.ialdQ dX10_kept_32 rfl h10 ?_
      refine WP.istore_n dX10_kept_33 rfl (by decide) rfl rfl ?_
      refine WP.aload_n dX10_kept_34 rfl rfl ?_
      refine WP.getR (j := 3) dX10_kept_35 rfl rfl in_X10 (by decide) wd_695 rfl ?_
      refine WP.iload_n dX10_kept_38 rfl rfl ?_
      obtain ⟨v11, h12, h⟩ := Option.bind_eq_some_iff.mp h
      refine WP.ialdQ dX10_kept_39 rfl h12 ?_
      refine WP.if_ne (tgt := 52) dX10_kept_40 (by decide) (fun c13 => ?_) (fun c13 => ?_)
      · rw [if_neg c13] at h
        refine WP.iload_n dX10_kept_52 rfl rfl ?_
        refine WP.if_ge (tgt := 61) dX10_kept_53 (by decide) (fun c14 => ?_) (fun c14 => ?_)
        · rw [if_pos c14] at h
          refine WP.aload_n dX10_kept_61 rfl rfl ?_
          refine WP.getR (j := 21) dX10_kept_62 rfl rfl in_X10 (by decide) wd_713 rfl ?_
          refine WP.iload_n dX10_kept_65 rfl rfl ?_
          obtain ⟨v15, h16, h⟩ := Option.bind_eq_some_iff.mp h
          refine WP.ialdQ dX10_kept_66 rfl h16 ?_
          cases h
          exact WP.iret dX10_kept_67 ⟨rfl, rfl⟩
        · rw [if_neg c14] at h
          refine WP.ldc (v := (-2000000000)) dX10_kept_56 wd_691 ?_
          refine WP.goto (tgt := 67) dX10_kept_58 (by decide) ?_
          cases h
          exact WP.iret dX10_kept_67 ⟨rfl, rfl⟩
      · rw [if_pos c13] at h
        refine WP.aload_n dX10_kept_43 rfl rfl ?_
        refine WP.getR (j := 17) dX10_kept_44 rfl rfl in_X10 (by decide) wd_709 rfl ?_
        refine WP.iload_n dX10_kept_47 rfl rfl ?_
        obtain ⟨v17, h18, h⟩ := Option.bind_eq_some_iff.mp h
        refine WP.ialdQ dX10_kept_48 rfl h18 ?_
        refine WP.goto (tgt := 67) dX10_kept_49 (by decide) ?_
        cases h
        exact WP.iret dX10_kept_67 ⟨rfl, rfl⟩
    · rw [if_neg c6] at h
      refine WP.ldc (v := (-2000000000)) dX10_kept_15 wd_691 ?_
      cases h
      exact WP.iret dX10_kept_17 ⟨rfl, rfl⟩
/-! X10_counts -/
def rX10_counts : Room := { frames := 7, cells := 0, slots := 0, locals := 158 }
def FX10_counts (N : Nat) (x1 : Int32) (x2 : Int32) (M : Mm) : Option (Int32 × Mm) :=
  (FX10_noDraft x1 M).bind fun r2 => (if r2 = 0 then (FX10_noField x2 M).bind fun r5 => (if r5 = 0 then (FX10_layDraft N x1 M).bind fun M8 => (rdI M8 86 12 x2).bind fun v9 => some (v9, M8) else some ((-2000000000), M)) else some ((-2000000000), M))
theorem eFX10_counts (N : Nat) (x1 : Int32) (x2 : Int32) (M : Mm) : FX10_counts N x1 x2 M = (FX10_noDraft x1 M).bind fun r2 => (if r2 = 0 then (FX10_noField x2 M).bind fun r5 => (if r5 = 0 then (FX10_layDraft N x1 M).bind fun M8 => (rdI M8 86 12 x2).bind fun v9 => some (v9, M8) else some ((-2000000000), M)) else some ((-2000000000), M)) := rfl
set_option maxRecDepth 20000 in
theorem TX10_counts {l : Launch} {G : va_G} {tc : Nat → ClassId} {D : Nat → Nat} {N : Nat} {x1 : Int32} {x2 : Int32} {M : Mm} {R : (Int32 × Mm)} (h : FX10_counts N x1 x2 M = some R) : WP l G tc D lay (fun _ => True) yX10_counts.cls cX10_counts 3 rX10_counts (.code yX10_counts cX10_counts 3 (some .int)) 0 (entL 3 [.ref 69, .int x1, .int x2]) [] M (RetQ cX10_counts (some .int) (RQI R.1 R.2)) := by
  show WP l G tc D lay (fun _ => True) RX10 cX10_counts 3 rX10_counts (.code yX10_counts cX10_counts 3 (some .int)) 0 [some (.ref 69), some (.int x1), some (.int x2)] [] M (RetQ cX10_counts (some .int) (RQI R.1 R.2))
  unfold FX10_counts at h
  refine WP.iload_n dX10_counts_0 rfl rfl ?_
  obtain ⟨r2, h1, h⟩ := Option.bind_eq_some_iff.mp h
  refine WP.callSI [.int x1] dX10_counts_1 lk_X10_188 rfl (Nat.le_of_ble_eq_true rfl) (by decide) (Nat.le_of_ble_eq_true rfl) rfl (TX10_noDraft h1) ?_
  refine WP.if_ne (tgt := 15) dX10_counts_4 (by decide) (fun c3 => ?_) (fun c3 => ?_)
  · rw [if_neg c3] at h
    refine WP.ldc (v := (-2000000000)) dX10_counts_15 wd_691 ?_
    cases h
    exact WP.iret dX10_counts_17 ⟨rfl, rfl⟩
  · rw [if_pos c3] at h
    refine WP.aload_n dX10_counts_7 rfl rfl ?_
    refine WP.iload_n dX10_counts_8 rfl rfl ?_
    obtain ⟨r5, h4, h⟩ := Option.bind_eq_some_iff.mp h
    refine WP.callVI [.int x2] dX10_counts_9 lk_X10_114 rfl rfl rfl (Nat.le_of_ble_eq_true rfl) (by decide) (Nat.le_of_ble_eq_true rfl) rfl (TX10_noField h4) ?_
    refine WP.if_eq (tgt := 18) dX10_counts_12 (by decide) (fun c6 => ?_) (fun c6 => ?_)
    · rw [if_pos c6] at h
      refine WP.aload_n dX10_counts_18 rfl rfl ?_
      refine WP.iload_n dX10_counts_19 rfl rfl ?_
      obtain ⟨M8, h7, h⟩ := Option.bind_eq_some_iff.mp h
      refine WP.callVV [.int x1] dX10_counts_20 lk_X10_191 rfl rfl rfl (Nat.le_of_ble_eq_true rfl) (by decide) (Nat.le_of_ble_eq_true rfl) rfl (TX10_layDraft h7) ?_
      refine WP.aload_n dX10_counts_23 rfl rfl ?_
      refine WP.getR (j := 20) dX10_counts_24 rfl rfl in_X10 (by decide) wd_712 rfl ?_
      refine WP.iload_n dX10_counts_27 rfl rfl ?_
      obtain ⟨v9, h10, h⟩ := Option.bind_eq_some_iff.mp h
      refine WP.ialdQ dX10_counts_28 rfl h10 ?_
      cases h
      exact WP.iret dX10_counts_29 ⟨rfl, rfl⟩
    · rw [if_neg c6] at h
      refine WP.ldc (v := (-2000000000)) dX10_counts_15 wd_691 ?_
      cases h
      exact WP.iret dX10_counts_17 ⟨rfl, rfl⟩
/-! X10_statusOf -/
def rX10_statusOf : Room := { frames := 1, cells := 0, slots := 0, locals := 21 }
def FX10_statusOf (x1 : Int32) (M : Mm) : Option Int32 :=
  (rdI M 84 12 x1).bind fun v1 => (if v1 = 0 then some 0 else (rdI M 73 48 (((4 : Int32) * x1) + 1)).bind fun v4 => (rdI M 73 48 (((4 : Int32) * x1) + 2)).bind fun v6 => (rdI M 86 12 x1).bind fun v8 => (if v8 = (-2000000000) then (if v4 < 0 then some 1 else (FX10_isSo v4 M).bind fun r17 => (if r17 = 0 then some 1 else some 2)) else (if v6 < 0 then some 3 else (rdI M 87 50 v6).bind fun v12 => (if v12 = 0 then some 4 else some 3))))
theorem eFX10_statusOf (x1 : Int32) (M : Mm) : FX10_statusOf x1 M = (rdI M 84 12 x1).bind fun v1 => (if v1 = 0 then some 0 else (rdI M 73 48 (((4 : Int32) * x1) + 1)).bind fun v4 => (rdI M 73 48 (((4 : Int32) * x1) + 2)).bind fun v6 => (rdI M 86 12 x1).bind fun v8 => (if v8 = (-2000000000) then (if v4 < 0 then some 1 else (FX10_isSo v4 M).bind fun r17 => (if r17 = 0 then some 1 else some 2)) else (if v6 < 0 then some 3 else (rdI M 87 50 v6).bind fun v12 => (if v12 = 0 then some 4 else some 3)))) := rfl
set_option maxRecDepth 20000 in
theorem TX10_statusOf {l : Launch} {G : va_G} {tc : Nat → ClassId} {D : Nat → Nat} {x1 : Int32} {M : Mm} {R : Int32} (h : FX10_statusOf x1 M = some R) : WP l G tc D lay (fun _ => True) yX10_statusOf.cls cX10_statusOf 4 rX10_statusOf (.code yX10_statusOf cX10_statusOf 4 (some .int)) 0 (entL 4 [.ref 69, .int x1]) [] M (RetQ cX10_statusOf (some .int) (RQI R M)) := by
  show WP l G tc D lay (fun _ => True) RX10 cX10_statusOf 4 rX10_statusOf (.code yX10_statusOf cX10_statusOf 4 (some .int)) 0 [some (.ref 69), some (.int x1), none, none] [] M (RetQ cX10_statusOf (some .int) (RQI R M))
  unfold FX10_statusOf at h
  refine WP.aload_n dX10_statusOf_0 rfl rfl ?_
  refine WP.getR (j := 18) dX10_statusOf_1 rfl rfl in_X10 (by decide) wd_710 rfl ?_
  refine WP.iload_n dX10_statusOf_4 rfl rfl ?_
  obtain ⟨v1, h2, h⟩ := Option.bind_eq_some_iff.mp h
  refine WP.zaldQ dX10_statusOf_5 rfl h2 ?_
  refine WP.if_ne (tgt := 11) dX10_statusOf_6 (by decide) (fun c3 => ?_) (fun c3 => ?_)
  · rw [if_neg c3] at h
    refine WP.aload_n dX10_statusOf_11 rfl rfl ?_
    refine WP.getR (j := 4) dX10_statusOf_12 rfl rfl in_X10 (by decide) wd_696 rfl ?_
    refine WP.iconst (v := 4) dX10_statusOf_15 (by decide) ?_
    refine WP.iload_n dX10_statusOf_16 rfl rfl ?_
    refine WP.imul dX10_statusOf_17 ?_
    refine WP.iconst (v := 1) dX10_statusOf_18 (by decide) ?_
    refine WP.iadd dX10_statusOf_19 ?_
    obtain ⟨v4, h5, h⟩ := Option.bind_eq_some_iff.mp h
    refine WP.ialdQ dX10_statusOf_20 rfl h5 ?_
    refine WP.istore_n dX10_statusOf_21 rfl (by decide) rfl rfl ?_
    refine WP.aload_n dX10_statusOf_22 rfl rfl ?_
    refine WP.getR (j := 4) dX10_statusOf_23 rfl rfl in_X10 (by decide) wd_696 rfl ?_
    refine WP.iconst (v := 4) dX10_statusOf_26 (by decide) ?_
    refine WP.iload_n dX10_statusOf_27 rfl rfl ?_
    refine WP.imul dX10_statusOf_28 ?_
    refine WP.iconst (v := 2) dX10_statusOf_29 (by decide) ?_
    refine WP.iadd dX10_statusOf_30 ?_
    obtain ⟨v6, h7, h⟩ := Option.bind_eq_some_iff.mp h
    refine WP.ialdQ dX10_statusOf_31 rfl h7 ?_
    refine WP.istore_n dX10_statusOf_32 rfl (by decide) rfl rfl ?_
    refine WP.aload_n dX10_statusOf_33 rfl rfl ?_
    refine WP.getR (j := 20) dX10_statusOf_34 rfl rfl in_X10 (by decide) wd_712 rfl ?_
    refine WP.iload_n dX10_statusOf_37 rfl rfl ?_
    obtain ⟨v8, h9, h⟩ := Option.bind_eq_some_iff.mp h
    refine WP.ialdQ dX10_statusOf_38 rfl h9 ?_
    refine WP.ldc (v := (-2000000000)) dX10_statusOf_39 wd_691 ?_
    refine WP.icmp_ne (tgt := 62) dX10_statusOf_41 (by decide) (fun c10 => ?_) (fun c10 => ?_)
    · rw [if_neg c10] at h
      refine WP.iload_n dX10_statusOf_62 rfl rfl ?_
      refine WP.if_lt (tgt := 79) dX10_statusOf_63 (by decide) (fun c11 => ?_) (fun c11 => ?_)
      · rw [if_pos c11] at h
        refine WP.iconst (v := 3) dX10_statusOf_79 (by decide) ?_
        cases h
        exact WP.iret dX10_statusOf_80 ⟨rfl, rfl⟩
      · rw [if_neg c11] at h
        refine WP.aload_n dX10_statusOf_66 rfl rfl ?_
        refine WP.getR (j := 21) dX10_statusOf_67 rfl rfl in_X10 (by decide) wd_713 rfl ?_
        refine WP.iload_n dX10_statusOf_70 rfl rfl ?_
        obtain ⟨v12, h13, h⟩ := Option.bind_eq_some_iff.mp h
        refine WP.ialdQ dX10_statusOf_71 rfl h13 ?_
        refine WP.if_ne (tgt := 79) dX10_statusOf_72 (by decide) (fun c14 => ?_) (fun c14 => ?_)
        · rw [if_neg c14] at h
          refine WP.iconst (v := 3) dX10_statusOf_79 (by decide) ?_
          cases h
          exact WP.iret dX10_statusOf_80 ⟨rfl, rfl⟩
        · rw [if_pos c14] at h
          refine WP.iconst (v := 4) dX10_statusOf_75 (by decide) ?_
          refine WP.goto (tgt := 80) dX10_statusOf_76 (by decide) ?_
          cases h
          exact WP.iret dX10_statusOf_80 ⟨rfl, rfl⟩
    · rw [if_pos c10] at h
      refine WP.iload_n dX10_statusOf_44 rfl rfl ?_
      refine WP.if_lt (tgt := 60) dX10_statusOf_45 (by decide) (fun c15 => ?_) (fun c15 => ?_)
      · rw [if_pos c15] at h
        refine WP.iconst (v := 1) dX10_statusOf_60 (by decide) ?_
        cases h
        exact WP.iret dX10_statusOf_61 ⟨rfl, rfl⟩
      · rw [if_neg c15] at h
        refine WP.aload_n dX10_statusOf_48 rfl rfl ?_
        refine WP.iload_n dX10_statusOf_49 rfl rfl ?_
        obtain ⟨r17, h16, h⟩ := Option.bind_eq_some_iff.mp h
        refine WP.callVI [.int v4] dX10_statusOf_50 lk_X10_173 rfl rfl rfl (Nat.le_of_ble_eq_true rfl) (by decide) (Nat.le_of_ble_eq_true rfl) rfl (TX10_isSo h16) ?_
        refine WP.if_eq (tgt := 60) dX10_statusOf_53 (by decide) (fun c18 => ?_) (fun c18 => ?_)
        · rw [if_pos c18] at h
          refine WP.iconst (v := 1) dX10_statusOf_60 (by decide) ?_
          cases h
          exact WP.iret dX10_statusOf_61 ⟨rfl, rfl⟩
        · rw [if_neg c18] at h
          refine WP.iconst (v := 2) dX10_statusOf_56 (by decide) ?_
          refine WP.goto (tgt := 61) dX10_statusOf_57 (by decide) ?_
          cases h
          exact WP.iret dX10_statusOf_61 ⟨rfl, rfl⟩
  · rw [if_pos c3] at h
    refine WP.iconst (v := 0) dX10_statusOf_9 (by decide) ?_
    cases h
    exact WP.iret dX10_statusOf_10 ⟨rfl, rfl⟩
/-! X10_status -/
def rX10_status : Room := { frames := 7, cells := 0, slots := 0, locals := 158 }
def FX10_status (N : Nat) (x1 : Int32) (x2 : Int32) (M : Mm) : Option (Int32 × Mm) :=
  (FX10_noDraft x1 M).bind fun r2 => (if r2 = 0 then (FX10_noField x2 M).bind fun r5 => (if r5 = 0 then (FX10_layDraft N x1 M).bind fun M8 => (FX10_statusOf x2 M8).bind fun r10 => some (r10, M8) else some ((-1), M)) else some ((-1), M))
theorem eFX10_status (N : Nat) (x1 : Int32) (x2 : Int32) (M : Mm) : FX10_status N x1 x2 M = (FX10_noDraft x1 M).bind fun r2 => (if r2 = 0 then (FX10_noField x2 M).bind fun r5 => (if r5 = 0 then (FX10_layDraft N x1 M).bind fun M8 => (FX10_statusOf x2 M8).bind fun r10 => some (r10, M8) else some ((-1), M)) else some ((-1), M)) := rfl
set_option maxRecDepth 20000 in
theorem TX10_status {l : Launch} {G : va_G} {tc : Nat → ClassId} {D : Nat → Nat} {N : Nat} {x1 : Int32} {x2 : Int32} {M : Mm} {R : (Int32 × Mm)} (h : FX10_status N x1 x2 M = some R) : WP l G tc D lay (fun _ => True) yX10_status.cls cX10_status 3 rX10_status (.code yX10_status cX10_status 3 (some .int)) 0 (entL 3 [.ref 69, .int x1, .int x2]) [] M (RetQ cX10_status (some .int) (RQI R.1 R.2)) := by
  show WP l G tc D lay (fun _ => True) RX10 cX10_status 3 rX10_status (.code yX10_status cX10_status 3 (some .int)) 0 [some (.ref 69), some (.int x1), some (.int x2)] [] M (RetQ cX10_status (some .int) (RQI R.1 R.2))
  unfold FX10_status at h
  refine WP.iload_n dX10_status_0 rfl rfl ?_
  obtain ⟨r2, h1, h⟩ := Option.bind_eq_some_iff.mp h
  refine WP.callSI [.int x1] dX10_status_1 lk_X10_188 rfl (Nat.le_of_ble_eq_true rfl) (by decide) (Nat.le_of_ble_eq_true rfl) rfl (TX10_noDraft h1) ?_
  refine WP.if_ne (tgt := 15) dX10_status_4 (by decide) (fun c3 => ?_) (fun c3 => ?_)
  · rw [if_neg c3] at h
    refine WP.iconst (v := (-1)) dX10_status_15 (by decide) ?_
    cases h
    exact WP.iret dX10_status_16 ⟨rfl, rfl⟩
  · rw [if_pos c3] at h
    refine WP.aload_n dX10_status_7 rfl rfl ?_
    refine WP.iload_n dX10_status_8 rfl rfl ?_
    obtain ⟨r5, h4, h⟩ := Option.bind_eq_some_iff.mp h
    refine WP.callVI [.int x2] dX10_status_9 lk_X10_114 rfl rfl rfl (Nat.le_of_ble_eq_true rfl) (by decide) (Nat.le_of_ble_eq_true rfl) rfl (TX10_noField h4) ?_
    refine WP.if_eq (tgt := 17) dX10_status_12 (by decide) (fun c6 => ?_) (fun c6 => ?_)
    · rw [if_pos c6] at h
      refine WP.aload_n dX10_status_17 rfl rfl ?_
      refine WP.iload_n dX10_status_18 rfl rfl ?_
      obtain ⟨M8, h7, h⟩ := Option.bind_eq_some_iff.mp h
      refine WP.callVV [.int x1] dX10_status_19 lk_X10_191 rfl rfl rfl (Nat.le_of_ble_eq_true rfl) (by decide) (Nat.le_of_ble_eq_true rfl) rfl (TX10_layDraft h7) ?_
      refine WP.aload_n dX10_status_22 rfl rfl ?_
      refine WP.iload_n dX10_status_23 rfl rfl ?_
      obtain ⟨r10, h9, h⟩ := Option.bind_eq_some_iff.mp h
      refine WP.callVI [.int x2] dX10_status_24 lk_X10_194 rfl rfl rfl (Nat.le_of_ble_eq_true rfl) (by decide) (Nat.le_of_ble_eq_true rfl) rfl (TX10_statusOf h9) ?_
      cases h
      exact WP.iret dX10_status_27 ⟨rfl, rfl⟩
    · rw [if_neg c6] at h
      refine WP.iconst (v := (-1)) dX10_status_15 (by decide) ?_
      cases h
      exact WP.iret dX10_status_16 ⟨rfl, rfl⟩
/-! X10_done -/
def rX10_done : Room := { frames := 7, cells := 0, slots := 0, locals := 158 }
def BX10_done_18 (N : Nat) (K18 : Int32 × Int32 × Mm → Option (Int32 × Mm)) (q : Int32 × Int32 × Mm) : Option (Int32 × Mm) :=
  (if (q.2.2.1 69 0) ≤ q.2.1 then (if q.1 = 0 then some (0, q.2.2) else some (1, q.2.2)) else (if q.1 = 0 then K18 (0, (q.2.1 + 1), q.2.2) else (FX10_statusOf q.2.1 q.2.2).bind fun r5 => (if r5 = 2 then K18 (0, (q.2.1 + 1), q.2.2) else (FX10_statusOf q.2.1 q.2.2).bind fun r8 => (if r8 = 4 then K18 (0, (q.2.1 + 1), q.2.2) else K18 (1, (q.2.1 + 1), q.2.2)))))
def FX10_done (N : Nat) (x1 : Int32) (M : Mm) : Option (Int32 × Mm) :=
  (FX10_noDraft x1 M).bind fun r2 => (if r2 = 0 then (FX10_layDraft N x1 M).bind fun M5 => lp (BX10_done_18 N) N (1, 0, M5) else some ((-1), M))
theorem eBX10_done_18 (N : Nat) (K18 : Int32 × Int32 × Mm → Option (Int32 × Mm)) (q : Int32 × Int32 × Mm) : BX10_done_18 N K18 q = (if (q.2.2.1 69 0) ≤ q.2.1 then (if q.1 = 0 then some (0, q.2.2) else some (1, q.2.2)) else (if q.1 = 0 then K18 (0, (q.2.1 + 1), q.2.2) else (FX10_statusOf q.2.1 q.2.2).bind fun r5 => (if r5 = 2 then K18 (0, (q.2.1 + 1), q.2.2) else (FX10_statusOf q.2.1 q.2.2).bind fun r8 => (if r8 = 4 then K18 (0, (q.2.1 + 1), q.2.2) else K18 (1, (q.2.1 + 1), q.2.2))))) := rfl
theorem eFX10_done (N : Nat) (x1 : Int32) (M : Mm) : FX10_done N x1 M = (FX10_noDraft x1 M).bind fun r2 => (if r2 = 0 then (FX10_layDraft N x1 M).bind fun M5 => lp (BX10_done_18 N) N (1, 0, M5) else some ((-1), M)) := rfl
set_option maxRecDepth 20000 in
theorem tX10_done_18 {l : Launch} {G : va_G} {tc : Nat → ClassId} {D : Nat → Nat} {N : Nat} : ∀ (nn : Nat) (q : Int32 × Int32 × Mm) (R : (Int32 × Mm)), lp (BX10_done_18 N) nn q = some R → WP l G tc D lay (fun _ => True) RX10 cX10_done 4 rX10_done (.code yX10_done cX10_done 4 (some .int)) 18 [some (.ref 69), none, some (.int q.1), some (.int q.2.1)] [] q.2.2 (RetQ cX10_done (some .int) (RQI R.1 R.2)) := by
  refine lp_ind (fun K18 hK18q q R h => ?_)
  have hK18 : ∀ (z0 : Int32) (z1 : Int32) (z2 : Mm) (R : (Int32 × Mm)), K18 (z0, z1, z2) = some R → WP l G tc D lay (fun _ => True) RX10 cX10_done 4 rX10_done (.code yX10_done cX10_done 4 (some .int)) 18 [some (.ref 69), none, some (.int z0), some (.int z1)] [] z2 (RetQ cX10_done (some .int) (RQI R.1 R.2)) := fun z0 z1 z2 R hh => hK18q (z0, z1, z2) R hh
  unfold BX10_done_18 at h
  refine WP.iload_n dX10_done_18 rfl rfl ?_
  refine WP.aload_n dX10_done_19 rfl rfl ?_
  refine WP.getI (j := 0) dX10_done_20 rfl rfl in_X10 (by decide) wd_692 rfl ?_
  refine WP.icmp_ge (tgt := 60) dX10_done_23 (by decide) (fun c1 => ?_) (fun c1 => ?_)
  · rw [if_pos c1] at h
    refine WP.iload_n dX10_done_60 rfl rfl ?_
    refine WP.if_eq (tgt := 68) dX10_done_61 (by decide) (fun c2 => ?_) (fun c2 => ?_)
    · rw [if_pos c2] at h
      refine WP.iconst (v := 0) dX10_done_68 (by decide) ?_
      cases h
      exact WP.iret dX10_done_69 ⟨rfl, rfl⟩
    · rw [if_neg c2] at h
      refine WP.iconst (v := 1) dX10_done_64 (by decide) ?_
      refine WP.goto (tgt := 69) dX10_done_65 (by decide) ?_
      cases h
      exact WP.iret dX10_done_69 ⟨rfl, rfl⟩
  · rw [if_neg c1] at h
    refine WP.iload_n dX10_done_26 rfl rfl ?_
    refine WP.if_eq (tgt := 52) dX10_done_27 (by decide) (fun c3 => ?_) (fun c3 => ?_)
    · rw [if_pos c3] at h
      refine WP.iconst (v := 0) dX10_done_52 (by decide) ?_
      refine WP.istore_n dX10_done_53 rfl (by decide) rfl rfl ?_
      refine WP.iinc (v := (q.2.1 + 1)) dX10_done_54 rfl rfl (by decide) rfl rfl ?_
      refine WP.goto (tgt := 18) dX10_done_57 (by decide) ?_
      refine WP.fgt [true, false, true, true] rfl ?_
      exact hK18 0 (q.2.1 + 1) q.2.2 _ h
    · rw [if_neg c3] at h
      refine WP.aload_n dX10_done_30 rfl rfl ?_
      refine WP.iload_n dX10_done_31 rfl rfl ?_
      obtain ⟨r5, h4, h⟩ := Option.bind_eq_some_iff.mp h
      refine WP.callVI [.int q.2.1] dX10_done_32 lk_X10_194 rfl rfl rfl (Nat.le_of_ble_eq_true rfl) (by decide) (Nat.le_of_ble_eq_true rfl) rfl (TX10_statusOf h4) ?_
      refine WP.iconst (v := 2) dX10_done_35 (by decide) ?_
      refine WP.icmp_eq (tgt := 52) dX10_done_36 (by decide) (fun c6 => ?_) (fun c6 => ?_)
      · rw [if_pos c6] at h
        refine WP.iconst (v := 0) dX10_done_52 (by decide) ?_
        refine WP.istore_n dX10_done_53 rfl (by decide) rfl rfl ?_
        refine WP.iinc (v := (q.2.1 + 1)) dX10_done_54 rfl rfl (by decide) rfl rfl ?_
        refine WP.goto (tgt := 18) dX10_done_57 (by decide) ?_
        refine WP.fgt [true, false, true, true] rfl ?_
        exact hK18 0 (q.2.1 + 1) q.2.2 _ h
      · rw [if_neg c6] at h
        refine WP.aload_n dX10_done_39 rfl rfl ?_
        refine WP.iload_n dX10_done_40 rfl rfl ?_
        obtain ⟨r8, h7, h⟩ := Option.bind_eq_some_iff.mp h
        refine WP.callVI [.int q.2.1] dX10_done_41 lk_X10_194 rfl rfl rfl (Nat.le_of_ble_eq_true rfl) (by decide) (Nat.le_of_ble_eq_true rfl) rfl (TX10_statusOf h7) ?_
        refine WP.iconst (v := 4) dX10_done_44 (by decide) ?_
        refine WP.icmp_eq (tgt := 52) dX10_done_45 (by decide) (fun c9 => ?_) (fun c9 => ?_)
        · rw [if_pos c9] at h
          refine WP.iconst (v := 0) dX10_done_52 (by decide) ?_
          refine WP.istore_n dX10_done_53 rfl (by decide) rfl rfl ?_
          refine WP.iinc (v := (q.2.1 + 1)) dX10_done_54 rfl rfl (by decide) rfl rfl ?_
          refine WP.goto (tgt := 18) dX10_done_57 (by decide) ?_
          refine WP.fgt [true, false, true, true] rfl ?_
          exact hK18 0 (q.2.1 + 1) q.2.2 _ h
        · rw [if_neg c9] at h
          refine WP.iconst (v := 1) dX10_done_48 (by decide) ?_
          refine WP.goto (tgt := 53) dX10_done_49 (by decide) ?_
          refine WP.istore_n dX10_done_53 rfl (by decide) rfl rfl ?_
          refine WP.iinc (v := (q.2.1 + 1)) dX10_done_54 rfl rfl (by decide) rfl rfl ?_
          refine WP.goto (tgt := 18) dX10_done_57 (by decide) ?_
          refine WP.fgt [true, false, true, true] rfl ?_
          exact hK18 1 (q.2.1 + 1) q.2.2 _ h
theorem uX10_done_18 {l : Launch} {G : va_G} {tc : Nat → ClassId} {D : Nat → Nat} {N : Nat} (nn : Nat) : ∀ (z0 : Int32) (z1 : Int32) (z2 : Mm) (R : (Int32 × Mm)), lp (BX10_done_18 N) nn (z0, z1, z2) = some R → WP l G tc D lay (fun _ => True) RX10 cX10_done 4 rX10_done (.code yX10_done cX10_done 4 (some .int)) 18 [some (.ref 69), none, some (.int z0), some (.int z1)] [] z2 (RetQ cX10_done (some .int) (RQI R.1 R.2)) := fun z0 z1 z2 R hh => tX10_done_18  nn (z0, z1, z2) R hh
set_option maxRecDepth 20000 in
theorem TX10_done {l : Launch} {G : va_G} {tc : Nat → ClassId} {D : Nat → Nat} {N : Nat} {x1 : Int32} {M : Mm} {R : (Int32 × Mm)} (h : FX10_done N x1 M = some R) : WP l G tc D lay (fun _ => True) yX10_done.cls cX10_done 4 rX10_done (.code yX10_done cX10_done 4 (some .int)) 0 (entL 4 [.ref 69, .int x1]) [] M (RetQ cX10_done (some .int) (RQI R.1 R.2)) := by
  show WP l G tc D lay (fun _ => True) RX10 cX10_done 4 rX10_done (.code yX10_done cX10_done 4 (some .int)) 0 [some (.ref 69), some (.int x1), none, none] [] M (RetQ cX10_done (some .int) (RQI R.1 R.2))
  unfold FX10_done at h
  refine WP.iload_n dX10_done_0 rfl rfl ?_
  obtain ⟨r2, h1, h⟩ := Option.bind_eq_some_iff.mp h
  refine WP.callSI [.int x1] dX10_done_1 lk_X10_188 rfl (Nat.le_of_ble_eq_true rfl) (by decide) (Nat.le_of_ble_eq_true rfl) rfl (TX10_noDraft h1) ?_
  refine WP.if_eq (tgt := 9) dX10_done_4 (by decide) (fun c3 => ?_) (fun c3 => ?_)
  · rw [if_pos c3] at h
    refine WP.aload_n dX10_done_9 rfl rfl ?_
    refine WP.iload_n dX10_done_10 rfl rfl ?_
    obtain ⟨M5, h4, h⟩ := Option.bind_eq_some_iff.mp h
    refine WP.callVV [.int x1] dX10_done_11 lk_X10_191 rfl rfl rfl (Nat.le_of_ble_eq_true rfl) (by decide) (Nat.le_of_ble_eq_true rfl) rfl (TX10_layDraft h4) ?_
    refine WP.iconst (v := 1) dX10_done_14 (by decide) ?_
    refine WP.istore_n dX10_done_15 rfl (by decide) rfl rfl ?_
    refine WP.iconst (v := 0) dX10_done_16 (by decide) ?_
    refine WP.istore_n dX10_done_17 rfl (by decide) rfl rfl ?_
    refine WP.fgt [true, false, true, true] rfl ?_
    exact uX10_done_18  N 1 0 M5 _ h
  · rw [if_neg c3] at h
    refine WP.iconst (v := (-1)) dX10_done_7 (by decide) ?_
    cases h
    exact WP.iret dX10_done_8 ⟨rfl, rfl⟩
/-! X10_value -/
def rX10_value : Room := { frames := 7, cells := 0, slots := 0, locals := 158 }
def FX10_value (N : Nat) (x1 : Int32) (x2 : Int32) (M : Mm) : Option (Int32 × Mm) :=
  (FX10_noDraft x1 M).bind fun r2 => (if r2 = 0 then (FX10_noPart x2 M).bind fun r5 => (if r5 = 0 then (FX10_layDraft N x1 M).bind fun M8 => (rdI M8 87 50 x2).bind fun v9 => some (v9, M8) else some ((-2000000000), M)) else some ((-2000000000), M))
theorem eFX10_value (N : Nat) (x1 : Int32) (x2 : Int32) (M : Mm) : FX10_value N x1 x2 M = (FX10_noDraft x1 M).bind fun r2 => (if r2 = 0 then (FX10_noPart x2 M).bind fun r5 => (if r5 = 0 then (FX10_layDraft N x1 M).bind fun M8 => (rdI M8 87 50 x2).bind fun v9 => some (v9, M8) else some ((-2000000000), M)) else some ((-2000000000), M)) := rfl
set_option maxRecDepth 20000 in
theorem TX10_value {l : Launch} {G : va_G} {tc : Nat → ClassId} {D : Nat → Nat} {N : Nat} {x1 : Int32} {x2 : Int32} {M : Mm} {R : (Int32 × Mm)} (h : FX10_value N x1 x2 M = some R) : WP l G tc D lay (fun _ => True) yX10_value.cls cX10_value 3 rX10_value (.code yX10_value cX10_value 3 (some .int)) 0 (entL 3 [.ref 69, .int x1, .int x2]) [] M (RetQ cX10_value (some .int) (RQI R.1 R.2)) := by
  show WP l G tc D lay (fun _ => True) RX10 cX10_value 3 rX10_value (.code yX10_value cX10_value 3 (some .int)) 0 [some (.ref 69), some (.int x1), some (.int x2)] [] M (RetQ cX10_value (some .int) (RQI R.1 R.2))
  unfold FX10_value at h
  refine WP.iload_n dX10_value_0 rfl rfl ?_
  obtain ⟨r2, h1, h⟩ := Option.bind_eq_some_iff.mp h
  refine WP.callSI [.int x1] dX10_value_1 lk_X10_188 rfl (Nat.le_of_ble_eq_true rfl) (by decide) (Nat.le_of_ble_eq_true rfl) rfl (TX10_noDraft h1) ?_
  refine WP.if_ne (tgt := 15) dX10_value_4 (by decide) (fun c3 => ?_) (fun c3 => ?_)
  · rw [if_neg c3] at h
    refine WP.ldc (v := (-2000000000)) dX10_value_15 wd_691 ?_
    cases h
    exact WP.iret dX10_value_17 ⟨rfl, rfl⟩
  · rw [if_pos c3] at h
    refine WP.aload_n dX10_value_7 rfl rfl ?_
    refine WP.iload_n dX10_value_8 rfl rfl ?_
    obtain ⟨r5, h4, h⟩ := Option.bind_eq_some_iff.mp h
    refine WP.callVI [.int x2] dX10_value_9 lk_X10_117 rfl rfl rfl (Nat.le_of_ble_eq_true rfl) (by decide) (Nat.le_of_ble_eq_true rfl) rfl (TX10_noPart h4) ?_
    refine WP.if_eq (tgt := 18) dX10_value_12 (by decide) (fun c6 => ?_) (fun c6 => ?_)
    · rw [if_pos c6] at h
      refine WP.aload_n dX10_value_18 rfl rfl ?_
      refine WP.iload_n dX10_value_19 rfl rfl ?_
      obtain ⟨M8, h7, h⟩ := Option.bind_eq_some_iff.mp h
      refine WP.callVV [.int x1] dX10_value_20 lk_X10_191 rfl rfl rfl (Nat.le_of_ble_eq_true rfl) (by decide) (Nat.le_of_ble_eq_true rfl) rfl (TX10_layDraft h7) ?_
      refine WP.aload_n dX10_value_23 rfl rfl ?_
      refine WP.getR (j := 21) dX10_value_24 rfl rfl in_X10 (by decide) wd_713 rfl ?_
      refine WP.iload_n dX10_value_27 rfl rfl ?_
      obtain ⟨v9, h10, h⟩ := Option.bind_eq_some_iff.mp h
      refine WP.ialdQ dX10_value_28 rfl h10 ?_
      cases h
      exact WP.iret dX10_value_29 ⟨rfl, rfl⟩
    · rw [if_neg c6] at h
      refine WP.ldc (v := (-2000000000)) dX10_value_15 wd_691 ?_
      cases h
      exact WP.iret dX10_value_17 ⟨rfl, rfl⟩
/-! X10_copy -/
def rX10_copy : Room := { frames := 2, cells := 0, slots := 0, locals := 47 }
def BX10_copy_74 (N : Nat) (K32 : Int32 × Int32 × Int32 × Int32 × Mm → Option (Int32 × Mm)) (a1 : Int32) (a2 : Int32) (a4 : Int32) (t0 : Int32) (t1 : Int32) (M : Mm) : Option (Int32 × Mm) :=
  (rdI M 88 48 (((12 : Int32) * a1) + a4)).bind fun v1 => (wrI M 88 48 (((12 : Int32) * a2) + a4) v1).bind fun M3 => K32 (a1, a2, (t0 + t1), (a4 + 1), M3)
def BX10_copy_32 (N : Nat) (K32 : Int32 × Int32 × Int32 × Int32 × Mm → Option (Int32 × Mm)) (q : Int32 × Int32 × Int32 × Int32 × Mm) : Option (Int32 × Mm) :=
  (if (q.2.2.2.2.1 69 0) ≤ q.2.2.2.1 then some (q.2.2.1, q.2.2.2.2) else (rdI q.2.2.2.2 88 48 (((12 : Int32) * q.1) + q.2.2.2.1)).bind fun v2 => (rdI q.2.2.2.2 88 48 (((12 : Int32) * q.2.1) + q.2.2.2.1)).bind fun v4 => (if v2 = v4 then BX10_copy_74 N K32 q.1 q.2.1 q.2.2.2.1 q.2.2.1 0 q.2.2.2.2 else BX10_copy_74 N K32 q.1 q.2.1 q.2.2.2.1 q.2.2.1 1 q.2.2.2.2))
def FX10_copy (N : Nat) (x1 : Int32) (x2 : Int32) (M : Mm) : Option (Int32 × Mm) :=
  (FX10_noDraft x1 M).bind fun r2 => (if r2 = 0 then (FX10_noDraft x2 M).bind fun r5 => (if r5 = 0 then (FX10_hasLocked N x2 M).bind fun r8 => (if r8 = 0 then lp (BX10_copy_32 N) N (x1, x2, 0, 0, M) else some ((-3), M)) else some ((-1), M)) else some ((-1), M))
theorem eBX10_copy_74 (N : Nat) (K32 : Int32 × Int32 × Int32 × Int32 × Mm → Option (Int32 × Mm)) (a1 : Int32) (a2 : Int32) (a4 : Int32) (t0 : Int32) (t1 : Int32) (M : Mm) : BX10_copy_74 N K32 a1 a2 a4 t0 t1 M = (rdI M 88 48 (((12 : Int32) * a1) + a4)).bind fun v1 => (wrI M 88 48 (((12 : Int32) * a2) + a4) v1).bind fun M3 => K32 (a1, a2, (t0 + t1), (a4 + 1), M3) := rfl
theorem eBX10_copy_32 (N : Nat) (K32 : Int32 × Int32 × Int32 × Int32 × Mm → Option (Int32 × Mm)) (q : Int32 × Int32 × Int32 × Int32 × Mm) : BX10_copy_32 N K32 q = (if (q.2.2.2.2.1 69 0) ≤ q.2.2.2.1 then some (q.2.2.1, q.2.2.2.2) else (rdI q.2.2.2.2 88 48 (((12 : Int32) * q.1) + q.2.2.2.1)).bind fun v2 => (rdI q.2.2.2.2 88 48 (((12 : Int32) * q.2.1) + q.2.2.2.1)).bind fun v4 => (if v2 = v4 then BX10_copy_74 N K32 q.1 q.2.1 q.2.2.2.1 q.2.2.1 0 q.2.2.2.2 else BX10_copy_74 N K32 q.1 q.2.1 q.2.2.2.1 q.2.2.1 1 q.2.2.2.2)) := rfl
theorem eFX10_copy (N : Nat) (x1 : Int32) (x2 : Int32) (M : Mm) : FX10_copy N x1 x2 M = (FX10_noDraft x1 M).bind fun r2 => (if r2 = 0 then (FX10_noDraft x2 M).bind fun r5 => (if r5 = 0 then (FX10_hasLocked N x2 M).bind fun r8 => (if r8 = 0 then lp (BX10_copy_32 N) N (x1, x2, 0, 0, M) else some ((-3), M)) else some ((-1), M)) else some ((-1), M)) := rfl
set_option maxRecDepth 20000 in
theorem tX10_copy_74 {l : Launch} {G : va_G} {tc : Nat → ClassId} {D : Nat → Nat} {N : Nat} {K32 : Int32 × Int32 × Int32 × Int32 × Mm → Option (Int32 × Mm)} {a1 : Int32} {a2 : Int32} {a4 : Int32} {t0 : Int32} {t1 : Int32} {M : Mm} {R : (Int32 × Mm)} (hK32 : ∀ (z0 : Int32) (z1 : Int32) (z2 : Int32) (z3 : Int32) (z4 : Mm) (R : (Int32 × Mm)), K32 (z0, z1, z2, z3, z4) = some R → WP l G tc D lay (fun _ => True) RX10 cX10_copy 5 rX10_copy (.code yX10_copy cX10_copy 5 (some .int)) 32 [some (.ref 69), some (.int z0), some (.int z1), some (.int z2), some (.int z3)] [] z4 (RetQ cX10_copy (some .int) (RQI R.1 R.2))) (h : BX10_copy_74 N K32 a1 a2 a4 t0 t1 M = some R) : WP l G tc D lay (fun _ => True) RX10 cX10_copy 5 rX10_copy (.code yX10_copy cX10_copy 5 (some .int)) 74 [some (.ref 69), some (.int a1), some (.int a2), none, some (.int a4)] [.int t1, .int t0] M (RetQ cX10_copy (some .int) (RQI R.1 R.2)) := by
  unfold BX10_copy_74 at h
  refine WP.iadd dX10_copy_74 ?_
  refine WP.istore_n dX10_copy_75 rfl (by decide) rfl rfl ?_
  refine WP.aload_n dX10_copy_76 rfl rfl ?_
  refine WP.getR (j := 22) dX10_copy_77 rfl rfl in_X10 (by decide) wd_714 rfl ?_
  refine WP.bipush (v := 12) dX10_copy_80 (by decide) ?_
  refine WP.iload_n dX10_copy_82 rfl rfl ?_
  refine WP.imul dX10_copy_83 ?_
  refine WP.iload dX10_copy_84 rfl ?_
  refine WP.iadd dX10_copy_86 ?_
  refine WP.aload_n dX10_copy_87 rfl rfl ?_
  refine WP.getR (j := 22) dX10_copy_88 rfl rfl in_X10 (by decide) wd_714 rfl ?_
  refine WP.bipush (v := 12) dX10_copy_91 (by decide) ?_
  refine WP.iload_n dX10_copy_93 rfl rfl ?_
  refine WP.imul dX10_copy_94 ?_
  refine WP.iload dX10_copy_95 rfl ?_
  refine WP.iadd dX10_copy_97 ?_
  obtain ⟨v1, h2, h⟩ := Option.bind_eq_some_iff.mp h
  refine WP.ialdQ dX10_copy_98 rfl h2 ?_
  obtain ⟨M3, h4, h⟩ := Option.bind_eq_some_iff.mp h
  refine WP.iastQ dX10_copy_99 rfl h4 ?_
  refine WP.iinc (v := (a4 + 1)) dX10_copy_100 rfl rfl (by decide) rfl rfl ?_
  refine WP.goto (tgt := 32) dX10_copy_103 (by decide) ?_
  refine WP.fgt [true, true, true, true, true] rfl ?_
  exact hK32 a1 a2 (t0 + t1) (a4 + 1) M3 _ h
set_option maxRecDepth 20000 in
theorem tX10_copy_32 {l : Launch} {G : va_G} {tc : Nat → ClassId} {D : Nat → Nat} {N : Nat} : ∀ (nn : Nat) (q : Int32 × Int32 × Int32 × Int32 × Mm) (R : (Int32 × Mm)), lp (BX10_copy_32 N) nn q = some R → WP l G tc D lay (fun _ => True) RX10 cX10_copy 5 rX10_copy (.code yX10_copy cX10_copy 5 (some .int)) 32 [some (.ref 69), some (.int q.1), some (.int q.2.1), some (.int q.2.2.1), some (.int q.2.2.2.1)] [] q.2.2.2.2 (RetQ cX10_copy (some .int) (RQI R.1 R.2)) := by
  refine lp_ind (fun K32 hK32q q R h => ?_)
  have hK32 : ∀ (z0 : Int32) (z1 : Int32) (z2 : Int32) (z3 : Int32) (z4 : Mm) (R : (Int32 × Mm)), K32 (z0, z1, z2, z3, z4) = some R → WP l G tc D lay (fun _ => True) RX10 cX10_copy 5 rX10_copy (.code yX10_copy cX10_copy 5 (some .int)) 32 [some (.ref 69), some (.int z0), some (.int z1), some (.int z2), some (.int z3)] [] z4 (RetQ cX10_copy (some .int) (RQI R.1 R.2)) := fun z0 z1 z2 z3 z4 R hh => hK32q (z0, z1, z2, z3, z4) R hh
  unfold BX10_copy_32 at h
  refine WP.iload dX10_copy_32 rfl ?_
  refine WP.aload_n dX10_copy_34 rfl rfl ?_
  refine WP.getI (j := 0) dX10_copy_35 rfl rfl in_X10 (by decide) wd_692 rfl ?_
  refine WP.icmp_ge (tgt := 106) dX10_copy_38 (by decide) (fun c1 => ?_) (fun c1 => ?_)
  · rw [if_pos c1] at h
    refine WP.iload_n dX10_copy_106 rfl rfl ?_
    cases h
    exact WP.iret dX10_copy_107 ⟨rfl, rfl⟩
  · rw [if_neg c1] at h
    refine WP.iload_n dX10_copy_41 rfl rfl ?_
    refine WP.aload_n dX10_copy_42 rfl rfl ?_
    refine WP.getR (j := 22) dX10_copy_43 rfl rfl in_X10 (by decide) wd_714 rfl ?_
    refine WP.bipush (v := 12) dX10_copy_46 (by decide) ?_
    refine WP.iload_n dX10_copy_48 rfl rfl ?_
    refine WP.imul dX10_copy_49 ?_
    refine WP.iload dX10_copy_50 rfl ?_
    refine WP.iadd dX10_copy_52 ?_
    obtain ⟨v2, h3, h⟩ := Option.bind_eq_some_iff.mp h
    refine WP.ialdQ dX10_copy_53 rfl h3 ?_
    refine WP.aload_n dX10_copy_54 rfl rfl ?_
    refine WP.getR (j := 22) dX10_copy_55 rfl rfl in_X10 (by decide) wd_714 rfl ?_
    refine WP.bipush (v := 12) dX10_copy_58 (by decide) ?_
    refine WP.iload_n dX10_copy_60 rfl rfl ?_
    refine WP.imul dX10_copy_61 ?_
    refine WP.iload dX10_copy_62 rfl ?_
    refine WP.iadd dX10_copy_64 ?_
    obtain ⟨v4, h5, h⟩ := Option.bind_eq_some_iff.mp h
    refine WP.ialdQ dX10_copy_65 rfl h5 ?_
    refine WP.icmp_eq (tgt := 73) dX10_copy_66 (by decide) (fun c6 => ?_) (fun c6 => ?_)
    · rw [if_pos c6] at h
      refine WP.iconst (v := 0) dX10_copy_73 (by decide) ?_
      refine WP.fgt [true, true, true, false, true] rfl ?_
      exact tX10_copy_74 hK32 h
    · rw [if_neg c6] at h
      refine WP.iconst (v := 1) dX10_copy_69 (by decide) ?_
      refine WP.goto (tgt := 74) dX10_copy_70 (by decide) ?_
      refine WP.fgt [true, true, true, false, true] rfl ?_
      exact tX10_copy_74 hK32 h
theorem uX10_copy_32 {l : Launch} {G : va_G} {tc : Nat → ClassId} {D : Nat → Nat} {N : Nat} (nn : Nat) : ∀ (z0 : Int32) (z1 : Int32) (z2 : Int32) (z3 : Int32) (z4 : Mm) (R : (Int32 × Mm)), lp (BX10_copy_32 N) nn (z0, z1, z2, z3, z4) = some R → WP l G tc D lay (fun _ => True) RX10 cX10_copy 5 rX10_copy (.code yX10_copy cX10_copy 5 (some .int)) 32 [some (.ref 69), some (.int z0), some (.int z1), some (.int z2), some (.int z3)] [] z4 (RetQ cX10_copy (some .int) (RQI R.1 R.2)) := fun z0 z1 z2 z3 z4 R hh => tX10_copy_32  nn (z0, z1, z2, z3, z4) R hh
set_option maxRecDepth 20000 in
theorem TX10_copy {l : Launch} {G : va_G} {tc : Nat → ClassId} {D : Nat → Nat} {N : Nat} {x1 : Int32} {x2 : Int32} {M : Mm} {R : (Int32 × Mm)} (h : FX10_copy N x1 x2 M = some R) : WP l G tc D lay (fun _ => True) yX10_copy.cls cX10_copy 5 rX10_copy (.code yX10_copy cX10_copy 5 (some .int)) 0 (entL 5 [.ref 69, .int x1, .int x2]) [] M (RetQ cX10_copy (some .int) (RQI R.1 R.2)) := by
  show WP l G tc D lay (fun _ => True) RX10 cX10_copy 5 rX10_copy (.code yX10_copy cX10_copy 5 (some .int)) 0 [some (.ref 69), some (.int x1), some (.int x2), none, none] [] M (RetQ cX10_copy (some .int) (RQI R.1 R.2))
  unfold FX10_copy at h
  refine WP.iload_n dX10_copy_0 rfl rfl ?_
  obtain ⟨r2, h1, h⟩ := Option.bind_eq_some_iff.mp h
  refine WP.callSI [.int x1] dX10_copy_1 lk_X10_188 rfl (Nat.le_of_ble_eq_true rfl) (by decide) (Nat.le_of_ble_eq_true rfl) rfl (TX10_noDraft h1) ?_
  refine WP.if_ne (tgt := 14) dX10_copy_4 (by decide) (fun c3 => ?_) (fun c3 => ?_)
  · rw [if_neg c3] at h
    refine WP.iconst (v := (-1)) dX10_copy_14 (by decide) ?_
    cases h
    exact WP.iret dX10_copy_15 ⟨rfl, rfl⟩
  · rw [if_pos c3] at h
    refine WP.iload_n dX10_copy_7 rfl rfl ?_
    obtain ⟨r5, h4, h⟩ := Option.bind_eq_some_iff.mp h
    refine WP.callSI [.int x2] dX10_copy_8 lk_X10_188 rfl (Nat.le_of_ble_eq_true rfl) (by decide) (Nat.le_of_ble_eq_true rfl) rfl (TX10_noDraft h4) ?_
    refine WP.if_eq (tgt := 16) dX10_copy_11 (by decide) (fun c6 => ?_) (fun c6 => ?_)
    · rw [if_pos c6] at h
      refine WP.aload_n dX10_copy_16 rfl rfl ?_
      refine WP.iload_n dX10_copy_17 rfl rfl ?_
      obtain ⟨r8, h7, h⟩ := Option.bind_eq_some_iff.mp h
      refine WP.callVI [.int x2] dX10_copy_18 lk_X10_197 rfl rfl rfl (Nat.le_of_ble_eq_true rfl) (by decide) (Nat.le_of_ble_eq_true rfl) rfl (TX10_hasLocked h7) ?_
      refine WP.if_eq (tgt := 27) dX10_copy_21 (by decide) (fun c9 => ?_) (fun c9 => ?_)
      · rw [if_pos c9] at h
        refine WP.iconst (v := 0) dX10_copy_27 (by decide) ?_
        refine WP.istore_n dX10_copy_28 rfl (by decide) rfl rfl ?_
        refine WP.iconst (v := 0) dX10_copy_29 (by decide) ?_
        refine WP.istore dX10_copy_30 (by decide) rfl rfl ?_
        refine WP.fgt [true, true, true, true, true] rfl ?_
        exact uX10_copy_32  N x1 x2 0 0 M _ h
      · rw [if_neg c9] at h
        refine WP.bipush (v := (-3)) dX10_copy_24 (by decide) ?_
        cases h
        exact WP.iret dX10_copy_26 ⟨rfl, rfl⟩
    · rw [if_neg c6] at h
      refine WP.iconst (v := (-1)) dX10_copy_14 (by decide) ?_
      cases h
      exact WP.iret dX10_copy_15 ⟨rfl, rfl⟩
/-! X10_join -/
def rX10_join : Room := { frames := 2, cells := 0, slots := 0, locals := 47 }
def BX10_join_144 (N : Nat) (K51 : Int32 × Int32 × Int32 × Int32 × Int32 × Mm → Option (Int32 × Mm)) (a1 : Int32) (a2 : Int32) (a3 : Int32) (a4 : Int32) (a5 : Int32) (a6 : Int32) (a7 : Int32) (a8 : Int32) (M : Mm) : Option (Int32 × Mm) :=
  (if a7 = a8 then (wrI M 88 48 (((12 : Int32) * a4) + a5) a7).bind fun M2 => K51 (a1, a2, a3, a4, (a5 + 1), M2) else (if a7 = a6 then (wrI M 88 48 (((12 : Int32) * a4) + a5) a8).bind fun M7 => K51 (a1, a2, a3, a4, (a5 + 1), M7) else (wrI M 88 48 (((12 : Int32) * a4) + a5) a7).bind fun M5 => K51 (a1, a2, a3, a4, (a5 + 1), M5)))
def BX10_join_51 (N : Nat) (K51 : Int32 × Int32 × Int32 × Int32 × Int32 × Mm → Option (Int32 × Mm)) (q : Int32 × Int32 × Int32 × Int32 × Int32 × Mm) : Option (Int32 × Mm) :=
  (if (q.2.2.2.2.2.1 69 0) ≤ q.2.2.2.2.1 then some ((q.2.2.2.2.2.1 69 23), q.2.2.2.2.2) else (rdI q.2.2.2.2.2 88 48 (((12 : Int32) * q.1) + q.2.2.2.2.1)).bind fun v2 => (rdI q.2.2.2.2.2 88 48 (((12 : Int32) * q.2.1) + q.2.2.2.2.1)).bind fun v4 => (rdI q.2.2.2.2.2 88 48 (((12 : Int32) * q.2.2.1) + q.2.2.2.2.1)).bind fun v6 => (if v4 = v6 then BX10_join_144 N K51 q.1 q.2.1 q.2.2.1 q.2.2.2.1 q.2.2.2.2.1 v2 v4 v6 q.2.2.2.2.2 else (if v4 = v2 then BX10_join_144 N K51 q.1 q.2.1 q.2.2.1 q.2.2.2.1 q.2.2.2.2.1 v2 v4 v6 q.2.2.2.2.2 else (if v6 = v2 then BX10_join_144 N K51 q.1 q.2.1 q.2.2.1 q.2.2.2.1 q.2.2.2.2.1 v2 v4 v6 q.2.2.2.2.2 else (wrI q.2.2.2.2.2 89 12 (q.2.2.2.2.2.1 69 23) q.2.2.2.2.1).bind fun M11 => (wrF M11 69 23 ((M11.1 69 23) + 1)).bind fun M13 => BX10_join_144 N K51 q.1 q.2.1 q.2.2.1 q.2.2.2.1 q.2.2.2.2.1 v2 v4 v6 M13))))
def FX10_join (N : Nat) (x1 : Int32) (x2 : Int32) (x3 : Int32) (x4 : Int32) (M : Mm) : Option (Int32 × Mm) :=
  (FX10_noDraft x1 M).bind fun r2 => (if r2 = 0 then (FX10_noDraft x2 M).bind fun r5 => (if r5 = 0 then (FX10_noDraft x3 M).bind fun r8 => (if r8 = 0 then (FX10_noDraft x4 M).bind fun r11 => (if r11 = 0 then (FX10_hasLocked N x4 M).bind fun r14 => (if r14 = 0 then (wrF M 69 23 0).bind fun M16 => lp (BX10_join_51 N) N (x1, x2, x3, x4, 0, M16) else some ((-3), M)) else some ((-1), M)) else some ((-1), M)) else some ((-1), M)) else some ((-1), M))
theorem eBX10_join_144 (N : Nat) (K51 : Int32 × Int32 × Int32 × Int32 × Int32 × Mm → Option (Int32 × Mm)) (a1 : Int32) (a2 : Int32) (a3 : Int32) (a4 : Int32) (a5 : Int32) (a6 : Int32) (a7 : Int32) (a8 : Int32) (M : Mm) : BX10_join_144 N K51 a1 a2 a3 a4 a5 a6 a7 a8 M = (if a7 = a8 then (wrI M 88 48 (((12 : Int32) * a4) + a5) a7).bind fun M2 => K51 (a1, a2, a3, a4, (a5 + 1), M2) else (if a7 = a6 then (wrI M 88 48 (((12 : Int32) * a4) + a5) a8).bind fun M7 => K51 (a1, a2, a3, a4, (a5 + 1), M7) else (wrI M 88 48 (((12 : Int32) * a4) + a5) a7).bind fun M5 => K51 (a1, a2, a3, a4, (a5 + 1), M5))) := rfl
theorem eBX10_join_51 (N : Nat) (K51 : Int32 × Int32 × Int32 × Int32 × Int32 × Mm → Option (Int32 × Mm)) (q : Int32 × Int32 × Int32 × Int32 × Int32 × Mm) : BX10_join_51 N K51 q = (if (q.2.2.2.2.2.1 69 0) ≤ q.2.2.2.2.1 then some ((q.2.2.2.2.2.1 69 23), q.2.2.2.2.2) else (rdI q.2.2.2.2.2 88 48 (((12 : Int32) * q.1) + q.2.2.2.2.1)).bind fun v2 => (rdI q.2.2.2.2.2 88 48 (((12 : Int32) * q.2.1) + q.2.2.2.2.1)).bind fun v4 => (rdI q.2.2.2.2.2 88 48 (((12 : Int32) * q.2.2.1) + q.2.2.2.2.1)).bind fun v6 => (if v4 = v6 then BX10_join_144 N K51 q.1 q.2.1 q.2.2.1 q.2.2.2.1 q.2.2.2.2.1 v2 v4 v6 q.2.2.2.2.2 else (if v4 = v2 then BX10_join_144 N K51 q.1 q.2.1 q.2.2.1 q.2.2.2.1 q.2.2.2.2.1 v2 v4 v6 q.2.2.2.2.2 else (if v6 = v2 then BX10_join_144 N K51 q.1 q.2.1 q.2.2.1 q.2.2.2.1 q.2.2.2.2.1 v2 v4 v6 q.2.2.2.2.2 else (wrI q.2.2.2.2.2 89 12 (q.2.2.2.2.2.1 69 23) q.2.2.2.2.1).bind fun M11 => (wrF M11 69 23 ((M11.1 69 23) + 1)).bind fun M13 => BX10_join_144 N K51 q.1 q.2.1 q.2.2.1 q.2.2.2.1 q.2.2.2.2.1 v2 v4 v6 M13)))) := rfl
theorem eFX10_join (N : Nat) (x1 : Int32) (x2 : Int32) (x3 : Int32) (x4 : Int32) (M : Mm) : FX10_join N x1 x2 x3 x4 M = (FX10_noDraft x1 M).bind fun r2 => (if r2 = 0 then (FX10_noDraft x2 M).bind fun r5 => (if r5 = 0 then (FX10_noDraft x3 M).bind fun r8 => (if r8 = 0 then (FX10_noDraft x4 M).bind fun r11 => (if r11 = 0 then (FX10_hasLocked N x4 M).bind fun r14 => (if r14 = 0 then (wrF M 69 23 0).bind fun M16 => lp (BX10_join_51 N) N (x1, x2, x3, x4, 0, M16) else some ((-3), M)) else some ((-1), M)) else some ((-1), M)) else some ((-1), M)) else some ((-1), M)) := rfl
set_option maxRecDepth 20000 in
theorem tX10_join_144 {l : Launch} {G : va_G} {tc : Nat → ClassId} {D : Nat → Nat} {N : Nat} {K51 : Int32 × Int32 × Int32 × Int32 × Int32 × Mm → Option (Int32 × Mm)} {a1 : Int32} {a2 : Int32} {a3 : Int32} {a4 : Int32} {a5 : Int32} {a6 : Int32} {a7 : Int32} {a8 : Int32} {M : Mm} {R : (Int32 × Mm)} (hK51 : ∀ (z0 : Int32) (z1 : Int32) (z2 : Int32) (z3 : Int32) (z4 : Int32) (z5 : Mm) (R : (Int32 × Mm)), K51 (z0, z1, z2, z3, z4, z5) = some R → WP l G tc D lay (fun _ => True) RX10 cX10_join 9 rX10_join (.code yX10_join cX10_join 9 (some .int)) 51 [some (.ref 69), some (.int z0), some (.int z1), some (.int z2), some (.int z3), some (.int z4), none, none, none] [] z5 (RetQ cX10_join (some .int) (RQI R.1 R.2))) (h : BX10_join_144 N K51 a1 a2 a3 a4 a5 a6 a7 a8 M = some R) : WP l G tc D lay (fun _ => True) RX10 cX10_join 9 rX10_join (.code yX10_join cX10_join 9 (some .int)) 144 [some (.ref 69), some (.int a1), some (.int a2), some (.int a3), some (.int a4), some (.int a5), some (.int a6), some (.int a7), some (.int a8)] [] M (RetQ cX10_join (some .int) (RQI R.1 R.2)) := by
  unfold BX10_join_144 at h
  refine WP.aload_n dX10_join_144 rfl rfl ?_
  refine WP.getR (j := 22) dX10_join_145 rfl rfl in_X10 (by decide) wd_714 rfl ?_
  refine WP.bipush (v := 12) dX10_join_148 (by decide) ?_
  refine WP.iload dX10_join_150 rfl ?_
  refine WP.imul dX10_join_152 ?_
  refine WP.iload dX10_join_153 rfl ?_
  refine WP.iadd dX10_join_155 ?_
  refine WP.iload dX10_join_156 rfl ?_
  refine WP.iload dX10_join_158 rfl ?_
  refine WP.icmp_eq (tgt := 175) dX10_join_160 (by decide) (fun c1 => ?_) (fun c1 => ?_)
  · rw [if_pos c1] at h
    refine WP.iload dX10_join_175 rfl ?_
    obtain ⟨M2, h3, h⟩ := Option.bind_eq_some_iff.mp h
    refine WP.iastQ dX10_join_177 rfl h3 ?_
    refine WP.iinc (v := (a5 + 1)) dX10_join_178 rfl rfl (by decide) rfl rfl ?_
    refine WP.goto (tgt := 51) dX10_join_181 (by decide) ?_
    refine WP.fgt [true, true, true, true, true, true, false, false, false] rfl ?_
    exact hK51 a1 a2 a3 a4 (a5 + 1) M2 _ h
  · rw [if_neg c1] at h
    refine WP.iload dX10_join_163 rfl ?_
    refine WP.iload dX10_join_165 rfl ?_
    refine WP.icmp_ne (tgt := 175) dX10_join_167 (by decide) (fun c4 => ?_) (fun c4 => ?_)
    · rw [if_neg c4] at h
      refine WP.iload dX10_join_175 rfl ?_
      obtain ⟨M5, h6, h⟩ := Option.bind_eq_some_iff.mp h
      refine WP.iastQ dX10_join_177 rfl h6 ?_
      refine WP.iinc (v := (a5 + 1)) dX10_join_178 rfl rfl (by decide) rfl rfl ?_
      refine WP.goto (tgt := 51) dX10_join_181 (by decide) ?_
      refine WP.fgt [true, true, true, true, true, true, false, false, false] rfl ?_
      exact hK51 a1 a2 a3 a4 (a5 + 1) M5 _ h
    · rw [if_pos c4] at h
      refine WP.iload dX10_join_170 rfl ?_
      refine WP.goto (tgt := 177) dX10_join_172 (by decide) ?_
      obtain ⟨M7, h8, h⟩ := Option.bind_eq_some_iff.mp h
      refine WP.iastQ dX10_join_177 rfl h8 ?_
      refine WP.iinc (v := (a5 + 1)) dX10_join_178 rfl rfl (by decide) rfl rfl ?_
      refine WP.goto (tgt := 51) dX10_join_181 (by decide) ?_
      refine WP.fgt [true, true, true, true, true, true, false, false, false] rfl ?_
      exact hK51 a1 a2 a3 a4 (a5 + 1) M7 _ h
set_option maxRecDepth 20000 in
theorem tX10_join_51 {l : Launch} {G : va_G} {tc : Nat → ClassId} {D : Nat → Nat} {N : Nat} : ∀ (nn : Nat) (q : Int32 × Int32 × Int32 × Int32 × Int32 × Mm) (R : (Int32 × Mm)), lp (BX10_join_51 N) nn q = some R → WP l G tc D lay (fun _ => True) RX10 cX10_join 9 rX10_join (.code yX10_join cX10_join 9 (some .int)) 51 [some (.ref 69), some (.int q.1), some (.int q.2.1), some (.int q.2.2.1), some (.int q.2.2.2.1), some (.int q.2.2.2.2.1), none, none, none] [] q.2.2.2.2.2 (RetQ cX10_join (some .int) (RQI R.1 R.2)) := by
  refine lp_ind (fun K51 hK51q q R h => ?_)
  have hK51 : ∀ (z0 : Int32) (z1 : Int32) (z2 : Int32) (z3 : Int32) (z4 : Int32) (z5 : Mm) (R : (Int32 × Mm)), K51 (z0, z1, z2, z3, z4, z5) = some R → WP l G tc D lay (fun _ => True) RX10 cX10_join 9 rX10_join (.code yX10_join cX10_join 9 (some .int)) 51 [some (.ref 69), some (.int z0), some (.int z1), some (.int z2), some (.int z3), some (.int z4), none, none, none] [] z5 (RetQ cX10_join (some .int) (RQI R.1 R.2)) := fun z0 z1 z2 z3 z4 z5 R hh => hK51q (z0, z1, z2, z3, z4, z5) R hh
  unfold BX10_join_51 at h
  refine WP.iload dX10_join_51 rfl ?_
  refine WP.aload_n dX10_join_53 rfl rfl ?_
  refine WP.getI (j := 0) dX10_join_54 rfl rfl in_X10 (by decide) wd_692 rfl ?_
  refine WP.icmp_ge (tgt := 184) dX10_join_57 (by decide) (fun c1 => ?_) (fun c1 => ?_)
  · rw [if_pos c1] at h
    refine WP.aload_n dX10_join_184 rfl rfl ?_
    refine WP.getI (j := 23) dX10_join_185 rfl rfl in_X10 (by decide) wd_715 rfl ?_
    cases h
    exact WP.iret dX10_join_188 ⟨rfl, rfl⟩
  · rw [if_neg c1] at h
    refine WP.aload_n dX10_join_60 rfl rfl ?_
    refine WP.getR (j := 22) dX10_join_61 rfl rfl in_X10 (by decide) wd_714 rfl ?_
    refine WP.bipush (v := 12) dX10_join_64 (by decide) ?_
    refine WP.iload_n dX10_join_66 rfl rfl ?_
    refine WP.imul dX10_join_67 ?_
    refine WP.iload dX10_join_68 rfl ?_
    refine WP.iadd dX10_join_70 ?_
    obtain ⟨v2, h3, h⟩ := Option.bind_eq_some_iff.mp h
    refine WP.ialdQ dX10_join_71 rfl h3 ?_
    refine WP.istore dX10_join_72 (by decide) rfl rfl ?_
    refine WP.aload_n dX10_join_74 rfl rfl ?_
    refine WP.getR (j := 22) dX10_join_75 rfl rfl in_X10 (by decide) wd_714 rfl ?_
    refine WP.bipush (v := 12) dX10_join_78 (by decide) ?_
    refine WP.iload_n dX10_join_80 rfl rfl ?_
    refine WP.imul dX10_join_81 ?_
    refine WP.iload dX10_join_82 rfl ?_
    refine WP.iadd dX10_join_84 ?_
    obtain ⟨v4, h5, h⟩ := Option.bind_eq_some_iff.mp h
    refine WP.ialdQ dX10_join_85 rfl h5 ?_
    refine WP.istore dX10_join_86 (by decide) rfl rfl ?_
    refine WP.aload_n dX10_join_88 rfl rfl ?_
    refine WP.getR (j := 22) dX10_join_89 rfl rfl in_X10 (by decide) wd_714 rfl ?_
    refine WP.bipush (v := 12) dX10_join_92 (by decide) ?_
    refine WP.iload_n dX10_join_94 rfl rfl ?_
    refine WP.imul dX10_join_95 ?_
    refine WP.iload dX10_join_96 rfl ?_
    refine WP.iadd dX10_join_98 ?_
    obtain ⟨v6, h7, h⟩ := Option.bind_eq_some_iff.mp h
    refine WP.ialdQ dX10_join_99 rfl h7 ?_
    refine WP.istore dX10_join_100 (by decide) rfl rfl ?_
    refine WP.iload dX10_join_102 rfl ?_
    refine WP.iload dX10_join_104 rfl ?_
    refine WP.icmp_eq (tgt := 144) dX10_join_106 (by decide) (fun c8 => ?_) (fun c8 => ?_)
    · rw [if_pos c8] at h
      refine WP.fgt [true, true, true, true, true, true, true, true, true] rfl ?_
      exact tX10_join_144 hK51 h
    · rw [if_neg c8] at h
      refine WP.iload dX10_join_109 rfl ?_
      refine WP.iload dX10_join_111 rfl ?_
      refine WP.icmp_eq (tgt := 144) dX10_join_113 (by decide) (fun c9 => ?_) (fun c9 => ?_)
      · rw [if_pos c9] at h
        refine WP.fgt [true, true, true, true, true, true, true, true, true] rfl ?_
        exact tX10_join_144 hK51 h
      · rw [if_neg c9] at h
        refine WP.iload dX10_join_116 rfl ?_
        refine WP.iload dX10_join_118 rfl ?_
        refine WP.icmp_eq (tgt := 144) dX10_join_120 (by decide) (fun c10 => ?_) (fun c10 => ?_)
        · rw [if_pos c10] at h
          refine WP.fgt [true, true, true, true, true, true, true, true, true] rfl ?_
          exact tX10_join_144 hK51 h
        · rw [if_neg c10] at h
          refine WP.aload_n dX10_join_123 rfl rfl ?_
          refine WP.getR (j := 24) dX10_join_124 rfl rfl in_X10 (by decide) wd_716 rfl ?_
          refine WP.aload_n dX10_join_127 rfl rfl ?_
          refine WP.getI (j := 23) dX10_join_128 rfl rfl in_X10 (by decide) wd_715 rfl ?_
          refine WP.iload dX10_join_131 rfl ?_
          obtain ⟨M11, h12, h⟩ := Option.bind_eq_some_iff.mp h
          refine WP.iastQ dX10_join_133 rfl h12 ?_
          refine WP.aload_n dX10_join_134 rfl rfl ?_
          refine WP.dup dX10_join_135 rfl ?_
          refine WP.getI (j := 23) dX10_join_136 rfl rfl in_X10 (by decide) wd_715 rfl ?_
          refine WP.iconst (v := 1) dX10_join_139 (by decide) ?_
          refine WP.iadd dX10_join_140 ?_
          obtain ⟨M13, h14, h⟩ := Option.bind_eq_some_iff.mp h
          refine WP.putF (j := 23) (ty := .int) dX10_join_141 rfl rfl in_X10 tyX10_ok nmX10 (by decide) wd_715 rfl (by decide +kernel) rfl rfl rfl h14 ?_
          refine WP.fgt [true, true, true, true, true, true, true, true, true] rfl ?_
          exact tX10_join_144 hK51 h
theorem uX10_join_51 {l : Launch} {G : va_G} {tc : Nat → ClassId} {D : Nat → Nat} {N : Nat} (nn : Nat) : ∀ (z0 : Int32) (z1 : Int32) (z2 : Int32) (z3 : Int32) (z4 : Int32) (z5 : Mm) (R : (Int32 × Mm)), lp (BX10_join_51 N) nn (z0, z1, z2, z3, z4, z5) = some R → WP l G tc D lay (fun _ => True) RX10 cX10_join 9 rX10_join (.code yX10_join cX10_join 9 (some .int)) 51 [some (.ref 69), some (.int z0), some (.int z1), some (.int z2), some (.int z3), some (.int z4), none, none, none] [] z5 (RetQ cX10_join (some .int) (RQI R.1 R.2)) := fun z0 z1 z2 z3 z4 z5 R hh => tX10_join_51  nn (z0, z1, z2, z3, z4, z5) R hh
set_option maxRecDepth 20000 in
theorem TX10_join {l : Launch} {G : va_G} {tc : Nat → ClassId} {D : Nat → Nat} {N : Nat} {x1 : Int32} {x2 : Int32} {x3 : Int32} {x4 : Int32} {M : Mm} {R : (Int32 × Mm)} (h : FX10_join N x1 x2 x3 x4 M = some R) : WP l G tc D lay (fun _ => True) yX10_join.cls cX10_join 9 rX10_join (.code yX10_join cX10_join 9 (some .int)) 0 (entL 9 [.ref 69, .int x1, .int x2, .int x3, .int x4]) [] M (RetQ cX10_join (some .int) (RQI R.1 R.2)) := by
  show WP l G tc D lay (fun _ => True) RX10 cX10_join 9 rX10_join (.code yX10_join cX10_join 9 (some .int)) 0 [some (.ref 69), some (.int x1), some (.int x2), some (.int x3), some (.int x4), none, none, none, none] [] M (RetQ cX10_join (some .int) (RQI R.1 R.2))
  unfold FX10_join at h
  refine WP.iload_n dX10_join_0 rfl rfl ?_
  obtain ⟨r2, h1, h⟩ := Option.bind_eq_some_iff.mp h
  refine WP.callSI [.int x1] dX10_join_1 lk_X10_188 rfl (Nat.le_of_ble_eq_true rfl) (by decide) (Nat.le_of_ble_eq_true rfl) rfl (TX10_noDraft h1) ?_
  refine WP.if_ne (tgt := 29) dX10_join_4 (by decide) (fun c3 => ?_) (fun c3 => ?_)
  · rw [if_neg c3] at h
    refine WP.iconst (v := (-1)) dX10_join_29 (by decide) ?_
    cases h
    exact WP.iret dX10_join_30 ⟨rfl, rfl⟩
  · rw [if_pos c3] at h
    refine WP.iload_n dX10_join_7 rfl rfl ?_
    obtain ⟨r5, h4, h⟩ := Option.bind_eq_some_iff.mp h
    refine WP.callSI [.int x2] dX10_join_8 lk_X10_188 rfl (Nat.le_of_ble_eq_true rfl) (by decide) (Nat.le_of_ble_eq_true rfl) rfl (TX10_noDraft h4) ?_
    refine WP.if_ne (tgt := 29) dX10_join_11 (by decide) (fun c6 => ?_) (fun c6 => ?_)
    · rw [if_neg c6] at h
      refine WP.iconst (v := (-1)) dX10_join_29 (by decide) ?_
      cases h
      exact WP.iret dX10_join_30 ⟨rfl, rfl⟩
    · rw [if_pos c6] at h
      refine WP.iload_n dX10_join_14 rfl rfl ?_
      obtain ⟨r8, h7, h⟩ := Option.bind_eq_some_iff.mp h
      refine WP.callSI [.int x3] dX10_join_15 lk_X10_188 rfl (Nat.le_of_ble_eq_true rfl) (by decide) (Nat.le_of_ble_eq_true rfl) rfl (TX10_noDraft h7) ?_
      refine WP.if_ne (tgt := 29) dX10_join_18 (by decide) (fun c9 => ?_) (fun c9 => ?_)
      · rw [if_neg c9] at h
        refine WP.iconst (v := (-1)) dX10_join_29 (by decide) ?_
        cases h
        exact WP.iret dX10_join_30 ⟨rfl, rfl⟩
      · rw [if_pos c9] at h
        refine WP.iload dX10_join_21 rfl ?_
        obtain ⟨r11, h10, h⟩ := Option.bind_eq_some_iff.mp h
        refine WP.callSI [.int x4] dX10_join_23 lk_X10_188 rfl (Nat.le_of_ble_eq_true rfl) (by decide) (Nat.le_of_ble_eq_true rfl) rfl (TX10_noDraft h10) ?_
        refine WP.if_eq (tgt := 31) dX10_join_26 (by decide) (fun c12 => ?_) (fun c12 => ?_)
        · rw [if_pos c12] at h
          refine WP.aload_n dX10_join_31 rfl rfl ?_
          refine WP.iload dX10_join_32 rfl ?_
          obtain ⟨r14, h13, h⟩ := Option.bind_eq_some_iff.mp h
          refine WP.callVI [.int x4] dX10_join_34 lk_X10_197 rfl rfl rfl (Nat.le_of_ble_eq_true rfl) (by decide) (Nat.le_of_ble_eq_true rfl) rfl (TX10_hasLocked h13) ?_
          refine WP.if_eq (tgt := 43) dX10_join_37 (by decide) (fun c15 => ?_) (fun c15 => ?_)
          · rw [if_pos c15] at h
            refine WP.aload_n dX10_join_43 rfl rfl ?_
            refine WP.iconst (v := 0) dX10_join_44 (by decide) ?_
            obtain ⟨M16, h17, h⟩ := Option.bind_eq_some_iff.mp h
            refine WP.putF (j := 23) (ty := .int) dX10_join_45 rfl rfl in_X10 tyX10_ok nmX10 (by decide) wd_715 rfl (by decide +kernel) rfl rfl rfl h17 ?_
            refine WP.iconst (v := 0) dX10_join_48 (by decide) ?_
            refine WP.istore dX10_join_49 (by decide) rfl rfl ?_
            refine WP.fgt [true, true, true, true, true, true, false, false, false] rfl ?_
            exact uX10_join_51  N x1 x2 x3 x4 0 M16 _ h
          · rw [if_neg c15] at h
            refine WP.bipush (v := (-3)) dX10_join_40 (by decide) ?_
            cases h
            exact WP.iret dX10_join_42 ⟨rfl, rfl⟩
        · rw [if_neg c12] at h
          refine WP.iconst (v := (-1)) dX10_join_29 (by decide) ?_
          cases h
          exact WP.iret dX10_join_30 ⟨rfl, rfl⟩
/-! X10_odds -/
def rX10_odds : Room := { frames := 1, cells := 0, slots := 0, locals := 22 }
def FX10_odds (x1 : Int32) (M : Mm) : Option Int32 :=
  (FX10_in x1 0 ((M.1 69 23) - 1) M).bind fun r2 => (if r2 = 0 then some (-1) else (rdI M 89 12 x1).bind fun v4 => some v4)
theorem eFX10_odds (x1 : Int32) (M : Mm) : FX10_odds x1 M = (FX10_in x1 0 ((M.1 69 23) - 1) M).bind fun r2 => (if r2 = 0 then some (-1) else (rdI M 89 12 x1).bind fun v4 => some v4) := rfl
set_option maxRecDepth 20000 in
theorem TX10_odds {l : Launch} {G : va_G} {tc : Nat → ClassId} {D : Nat → Nat} {x1 : Int32} {M : Mm} {R : Int32} (h : FX10_odds x1 M = some R) : WP l G tc D lay (fun _ => True) yX10_odds.cls cX10_odds 2 rX10_odds (.code yX10_odds cX10_odds 2 (some .int)) 0 (entL 2 [.ref 69, .int x1]) [] M (RetQ cX10_odds (some .int) (RQI R M)) := by
  show WP l G tc D lay (fun _ => True) RX10 cX10_odds 2 rX10_odds (.code yX10_odds cX10_odds 2 (some .int)) 0 [some (.ref 69), some (.int x1)] [] M (RetQ cX10_odds (some .int) (RQI R M))
  unfold FX10_odds at h
  refine WP.iload_n dX10_odds_0 rfl rfl ?_
  refine WP.iconst (v := 0) dX10_odds_1 (by decide) ?_
  refine WP.aload_n dX10_odds_2 rfl rfl ?_
  refine WP.getI (j := 23) dX10_odds_3 rfl rfl in_X10 (by decide) wd_715 rfl ?_
  refine WP.iconst (v := 1) dX10_odds_6 (by decide) ?_
  refine WP.isub dX10_odds_7 ?_
  obtain ⟨r2, h1, h⟩ := Option.bind_eq_some_iff.mp h
  refine WP.callSI [.int x1, .int 0, .int ((M.1 69 23) - 1)] dX10_odds_8 lk_X10_99 rfl (Nat.le_of_ble_eq_true rfl) (by decide) (Nat.le_of_ble_eq_true rfl) rfl (TX10_in h1) ?_
  refine WP.if_eq (tgt := 23) dX10_odds_11 (by decide) (fun c3 => ?_) (fun c3 => ?_)
  · rw [if_pos c3] at h
    refine WP.iconst (v := (-1)) dX10_odds_23 (by decide) ?_
    cases h
    exact WP.iret dX10_odds_24 ⟨rfl, rfl⟩
  · rw [if_neg c3] at h
    refine WP.aload_n dX10_odds_14 rfl rfl ?_
    refine WP.getR (j := 24) dX10_odds_15 rfl rfl in_X10 (by decide) wd_716 rfl ?_
    refine WP.iload_n dX10_odds_18 rfl rfl ?_
    obtain ⟨v4, h5, h⟩ := Option.bind_eq_some_iff.mp h
    refine WP.ialdQ dX10_odds_19 rfl h5 ?_
    refine WP.goto (tgt := 24) dX10_odds_20 (by decide) ?_
    cases h
    exact WP.iret dX10_odds_24 ⟨rfl, rfl⟩
/-! X10_noSeal -/
def rX10_noSeal : Room := { frames := 1, cells := 0, slots := 0, locals := 22 }
def FX10_noSeal (x1 : Int32) (M : Mm) : Option Int32 :=
  (FX10_in x1 0 ((M.1 69 25) - 1) M).bind fun r2 => (if r2 = 0 then some 1 else some 0)
theorem eFX10_noSeal (x1 : Int32) (M : Mm) : FX10_noSeal x1 M = (FX10_in x1 0 ((M.1 69 25) - 1) M).bind fun r2 => (if r2 = 0 then some 1 else some 0) := rfl
set_option maxRecDepth 20000 in
theorem TX10_noSeal {l : Launch} {G : va_G} {tc : Nat → ClassId} {D : Nat → Nat} {x1 : Int32} {M : Mm} {R : Int32} (h : FX10_noSeal x1 M = some R) : WP l G tc D lay (fun _ => True) yX10_noSeal.cls cX10_noSeal 2 rX10_noSeal (.code yX10_noSeal cX10_noSeal 2 (some .boolean)) 0 (entL 2 [.ref 69, .int x1]) [] M (RetQ cX10_noSeal (some .boolean) (RQI R M)) := by
  show WP l G tc D lay (fun _ => True) RX10 cX10_noSeal 2 rX10_noSeal (.code yX10_noSeal cX10_noSeal 2 (some .boolean)) 0 [some (.ref 69), some (.int x1)] [] M (RetQ cX10_noSeal (some .boolean) (RQI R M))
  unfold FX10_noSeal at h
  refine WP.iload_n dX10_noSeal_0 rfl rfl ?_
  refine WP.iconst (v := 0) dX10_noSeal_1 (by decide) ?_
  refine WP.aload_n dX10_noSeal_2 rfl rfl ?_
  refine WP.getI (j := 25) dX10_noSeal_3 rfl rfl in_X10 (by decide) wd_717 rfl ?_
  refine WP.iconst (v := 1) dX10_noSeal_6 (by decide) ?_
  refine WP.isub dX10_noSeal_7 ?_
  obtain ⟨r2, h1, h⟩ := Option.bind_eq_some_iff.mp h
  refine WP.callSI [.int x1, .int 0, .int ((M.1 69 25) - 1)] dX10_noSeal_8 lk_X10_99 rfl (Nat.le_of_ble_eq_true rfl) (by decide) (Nat.le_of_ble_eq_true rfl) rfl (TX10_in h1) ?_
  refine WP.if_ne (tgt := 18) dX10_noSeal_11 (by decide) (fun c3 => ?_) (fun c3 => ?_)
  · rw [if_neg c3] at h
    refine WP.iconst (v := 0) dX10_noSeal_18 (by decide) ?_
    cases h
    exact WP.zret dX10_noSeal_19 (by decide) ⟨rfl, rfl⟩
  · rw [if_pos c3] at h
    refine WP.iconst (v := 1) dX10_noSeal_14 (by decide) ?_
    refine WP.goto (tgt := 19) dX10_noSeal_15 (by decide) ?_
    cases h
    exact WP.zret dX10_noSeal_19 (by decide) ⟨rfl, rfl⟩
/-! X10_seal -/
def rX10_seal : Room := { frames := 7, cells := 0, slots := 0, locals := 158 }
def BX10_seal_142 (N : Nat) (K77 : Int32 × Int32 × Int32 × Mm → Option (Int32 × Mm)) (a1 : Int32) (a2 : Int32) (a3 : Int32) (a4 : Int32) (t1 : Int32) (t2 : Int32) (M : Mm) : Option (Int32 × Mm) :=
  (wrI M 93 72 t1 t2).bind fun M1 => (if a4 = 0 then (wrI M1 94 72 (((12 : Int32) * (M1.1 69 25)) + a3) (-9)).bind fun M4 => K77 (a1, a2, (a3 + 1), M4) else (FX10_statusOf a3 M1).bind fun r7 => (wrI M1 94 72 (((12 : Int32) * (M1.1 69 25)) + a3) r7).bind fun M8 => K77 (a1, a2, (a3 + 1), M8))
def BX10_seal_140 (N : Nat) (K77 : Int32 × Int32 × Int32 × Mm → Option (Int32 × Mm)) (a1 : Int32) (a2 : Int32) (a3 : Int32) (a4 : Int32) (t1 : Int32) (M : Mm) : Option (Int32 × Mm) :=
  BX10_seal_142 N K77 a1 a2 a3 a4 t1 (-2000000000) M
def BX10_seal_97 (N : Nat) (K77 : Int32 × Int32 × Int32 × Mm → Option (Int32 × Mm)) (a1 : Int32) (a2 : Int32) (a3 : Int32) (t0 : Int32) (M : Mm) : Option (Int32 × Mm) :=
  (if t0 = 0 then BX10_seal_140 N K77 a1 a2 a3 t0 (((12 : Int32) * (M.1 69 25)) + a3) M else (rdI M 72 12 a3).bind fun v2 => (if v2 = 0 then (rdI M 88 48 (((12 : Int32) * a1) + a3)).bind fun v5 => BX10_seal_142 N K77 a1 a2 a3 t0 (((12 : Int32) * (M.1 69 25)) + a3) v5 M else BX10_seal_140 N K77 a1 a2 a3 t0 (((12 : Int32) * (M.1 69 25)) + a3) M))
def BX10_seal_77 (N : Nat) (K77 : Int32 × Int32 × Int32 × Mm → Option (Int32 × Mm)) (q : Int32 × Int32 × Int32 × Mm) : Option (Int32 × Mm) :=
  (if 12 ≤ q.2.2.1 then (wrF q.2.2.2 69 25 ((q.2.2.2.1 69 25) + 1)).bind fun M2 => some (((M2.1 69 25) - 1), M2) else (if ((q.2.1 >>> (q.2.2.1 &&& 31)) &&& 1) = 1 then BX10_seal_97 N K77 q.1 q.2.1 q.2.2.1 1 q.2.2.2 else BX10_seal_97 N K77 q.1 q.2.1 q.2.2.1 0 q.2.2.2))
def FX10_seal (N : Nat) (x1 : Int32) (x2 : Int32) (M : Mm) : Option (Int32 × Mm) :=
  (FX10_noDraft x1 M).bind fun r2 => (if r2 = 0 then (FX10_in x2 1 (((1 : Int32) <<< ((M.1 69 0) &&& 31)) - 1) M).bind fun r5 => (if r5 = 0 then some ((-2), M) else (if (M.1 69 25) = 6 then some ((-4), M) else (FX10_layDraft N x1 M).bind fun M9 => (wrI M9 90 6 (M9.1 69 25) x1).bind fun M10 => (wrI M10 91 6 (M10.1 69 25) x2).bind fun M12 => (wrZ M12 92 6 (M12.1 69 25) 0).bind fun M14 => lp (BX10_seal_77 N) N (x1, x2, 0, M14))) else some ((-1), M))
theorem eBX10_seal_142 (N : Nat) (K77 : Int32 × Int32 × Int32 × Mm → Option (Int32 × Mm)) (a1 : Int32) (a2 : Int32) (a3 : Int32) (a4 : Int32) (t1 : Int32) (t2 : Int32) (M : Mm) : BX10_seal_142 N K77 a1 a2 a3 a4 t1 t2 M = (wrI M 93 72 t1 t2).bind fun M1 => (if a4 = 0 then (wrI M1 94 72 (((12 : Int32) * (M1.1 69 25)) + a3) (-9)).bind fun M4 => K77 (a1, a2, (a3 + 1), M4) else (FX10_statusOf a3 M1).bind fun r7 => (wrI M1 94 72 (((12 : Int32) * (M1.1 69 25)) + a3) r7).bind fun M8 => K77 (a1, a2, (a3 + 1), M8)) := rfl
theorem eBX10_seal_140 (N : Nat) (K77 : Int32 × Int32 × Int32 × Mm → Option (Int32 × Mm)) (a1 : Int32) (a2 : Int32) (a3 : Int32) (a4 : Int32) (t1 : Int32) (M : Mm) : BX10_seal_140 N K77 a1 a2 a3 a4 t1 M = BX10_seal_142 N K77 a1 a2 a3 a4 t1 (-2000000000) M := rfl
theorem eBX10_seal_97 (N : Nat) (K77 : Int32 × Int32 × Int32 × Mm → Option (Int32 × Mm)) (a1 : Int32) (a2 : Int32) (a3 : Int32) (t0 : Int32) (M : Mm) : BX10_seal_97 N K77 a1 a2 a3 t0 M = (if t0 = 0 then BX10_seal_140 N K77 a1 a2 a3 t0 (((12 : Int32) * (M.1 69 25)) + a3) M else (rdI M 72 12 a3).bind fun v2 => (if v2 = 0 then (rdI M 88 48 (((12 : Int32) * a1) + a3)).bind fun v5 => BX10_seal_142 N K77 a1 a2 a3 t0 (((12 : Int32) * (M.1 69 25)) + a3) v5 M else BX10_seal_140 N K77 a1 a2 a3 t0 (((12 : Int32) * (M.1 69 25)) + a3) M)) := rfl
theorem eBX10_seal_77 (N : Nat) (K77 : Int32 × Int32 × Int32 × Mm → Option (Int32 × Mm)) (q : Int32 × Int32 × Int32 × Mm) : BX10_seal_77 N K77 q = (if 12 ≤ q.2.2.1 then (wrF q.2.2.2 69 25 ((q.2.2.2.1 69 25) + 1)).bind fun M2 => some (((M2.1 69 25) - 1), M2) else (if ((q.2.1 >>> (q.2.2.1 &&& 31)) &&& 1) = 1 then BX10_seal_97 N K77 q.1 q.2.1 q.2.2.1 1 q.2.2.2 else BX10_seal_97 N K77 q.1 q.2.1 q.2.2.1 0 q.2.2.2)) := rfl
theorem eFX10_seal (N : Nat) (x1 : Int32) (x2 : Int32) (M : Mm) : FX10_seal N x1 x2 M = (FX10_noDraft x1 M).bind fun r2 => (if r2 = 0 then (FX10_in x2 1 (((1 : Int32) <<< ((M.1 69 0) &&& 31)) - 1) M).bind fun r5 => (if r5 = 0 then some ((-2), M) else (if (M.1 69 25) = 6 then some ((-4), M) else (FX10_layDraft N x1 M).bind fun M9 => (wrI M9 90 6 (M9.1 69 25) x1).bind fun M10 => (wrI M10 91 6 (M10.1 69 25) x2).bind fun M12 => (wrZ M12 92 6 (M12.1 69 25) 0).bind fun M14 => lp (BX10_seal_77 N) N (x1, x2, 0, M14))) else some ((-1), M)) := rfl
set_option maxRecDepth 20000 in
theorem tX10_seal_142 {l : Launch} {G : va_G} {tc : Nat → ClassId} {D : Nat → Nat} {N : Nat} {K77 : Int32 × Int32 × Int32 × Mm → Option (Int32 × Mm)} {a1 : Int32} {a2 : Int32} {a3 : Int32} {a4 : Int32} {t1 : Int32} {t2 : Int32} {M : Mm} {R : (Int32 × Mm)} (hK77 : ∀ (z0 : Int32) (z1 : Int32) (z2 : Int32) (z3 : Mm) (R : (Int32 × Mm)), K77 (z0, z1, z2, z3) = some R → WP l G tc D lay (fun _ => True) RX10 cX10_seal 5 rX10_seal (.code yX10_seal cX10_seal 5 (some .int)) 77 [some (.ref 69), some (.int z0), some (.int z1), some (.int z2), none] [] z3 (RetQ cX10_seal (some .int) (RQI R.1 R.2))) (h : BX10_seal_142 N K77 a1 a2 a3 a4 t1 t2 M = some R) : WP l G tc D lay (fun _ => True) RX10 cX10_seal 5 rX10_seal (.code yX10_seal cX10_seal 5 (some .int)) 142 [some (.ref 69), some (.int a1), some (.int a2), some (.int a3), some (.int a4)] [.int t2, .int t1, .ref 93] M (RetQ cX10_seal (some .int) (RQI R.1 R.2)) := by
  unfold BX10_seal_142 at h
  obtain ⟨M1, h2, h⟩ := Option.bind_eq_some_iff.mp h
  refine WP.iastQ dX10_seal_142 rfl h2 ?_
  refine WP.aload_n dX10_seal_143 rfl rfl ?_
  refine WP.getR (j := 30) dX10_seal_144 rfl rfl in_X10 (by decide) wd_722 rfl ?_
  refine WP.bipush (v := 12) dX10_seal_147 (by decide) ?_
  refine WP.aload_n dX10_seal_149 rfl rfl ?_
  refine WP.getI (j := 25) dX10_seal_150 rfl rfl in_X10 (by decide) wd_717 rfl ?_
  refine WP.imul dX10_seal_153 ?_
  refine WP.iload_n dX10_seal_154 rfl rfl ?_
  refine WP.iadd dX10_seal_155 ?_
  refine WP.iload dX10_seal_156 rfl ?_
  refine WP.if_eq (tgt := 169) dX10_seal_158 (by decide) (fun c3 => ?_) (fun c3 => ?_)
  · rw [if_pos c3] at h
    refine WP.bipush (v := (-9)) dX10_seal_169 (by decide) ?_
    obtain ⟨M4, h5, h⟩ := Option.bind_eq_some_iff.mp h
    refine WP.iastQ dX10_seal_171 rfl h5 ?_
    refine WP.iinc (v := (a3 + 1)) dX10_seal_172 rfl rfl (by decide) rfl rfl ?_
    refine WP.goto (tgt := 77) dX10_seal_175 (by decide) ?_
    refine WP.fgt [true, true, true, true, false] rfl ?_
    exact hK77 a1 a2 (a3 + 1) M4 _ h
  · rw [if_neg c3] at h
    refine WP.aload_n dX10_seal_161 rfl rfl ?_
    refine WP.iload_n dX10_seal_162 rfl rfl ?_
    obtain ⟨r7, h6, h⟩ := Option.bind_eq_some_iff.mp h
    refine WP.callVI [.int a3] dX10_seal_163 lk_X10_194 rfl rfl rfl (Nat.le_of_ble_eq_true rfl) (by decide) (Nat.le_of_ble_eq_true rfl) rfl (TX10_statusOf h6) ?_
    refine WP.goto (tgt := 171) dX10_seal_166 (by decide) ?_
    obtain ⟨M8, h9, h⟩ := Option.bind_eq_some_iff.mp h
    refine WP.iastQ dX10_seal_171 rfl h9 ?_
    refine WP.iinc (v := (a3 + 1)) dX10_seal_172 rfl rfl (by decide) rfl rfl ?_
    refine WP.goto (tgt := 77) dX10_seal_175 (by decide) ?_
    refine WP.fgt [true, true, true, true, false] rfl ?_
    exact hK77 a1 a2 (a3 + 1) M8 _ h
set_option maxRecDepth 20000 in
theorem tX10_seal_140 {l : Launch} {G : va_G} {tc : Nat → ClassId} {D : Nat → Nat} {N : Nat} {K77 : Int32 × Int32 × Int32 × Mm → Option (Int32 × Mm)} {a1 : Int32} {a2 : Int32} {a3 : Int32} {a4 : Int32} {t1 : Int32} {M : Mm} {R : (Int32 × Mm)} (hK77 : ∀ (z0 : Int32) (z1 : Int32) (z2 : Int32) (z3 : Mm) (R : (Int32 × Mm)), K77 (z0, z1, z2, z3) = some R → WP l G tc D lay (fun _ => True) RX10 cX10_seal 5 rX10_seal (.code yX10_seal cX10_seal 5 (some .int)) 77 [some (.ref 69), some (.int z0), some (.int z1), some (.int z2), none] [] z3 (RetQ cX10_seal (some .int) (RQI R.1 R.2))) (h : BX10_seal_140 N K77 a1 a2 a3 a4 t1 M = some R) : WP l G tc D lay (fun _ => True) RX10 cX10_seal 5 rX10_seal (.code yX10_seal cX10_seal 5 (some .int)) 140 [some (.ref 69), some (.int a1), some (.int a2), some (.int a3), some (.int a4)] [.int t1, .ref 93] M (RetQ cX10_seal (some .int) (RQI R.1 R.2)) := by
  unfold BX10_seal_140 at h
  refine WP.ldc (v := (-2000000000)) dX10_seal_140 wd_691 ?_
  refine WP.fgt [true, true, true, true, true] rfl ?_
  exact tX10_seal_142 hK77 h
set_option maxRecDepth 20000 in
theorem tX10_seal_97 {l : Launch} {G : va_G} {tc : Nat → ClassId} {D : Nat → Nat} {N : Nat} {K77 : Int32 × Int32 × Int32 × Mm → Option (Int32 × Mm)} {a1 : Int32} {a2 : Int32} {a3 : Int32} {t0 : Int32} {M : Mm} {R : (Int32 × Mm)} (hK77 : ∀ (z0 : Int32) (z1 : Int32) (z2 : Int32) (z3 : Mm) (R : (Int32 × Mm)), K77 (z0, z1, z2, z3) = some R → WP l G tc D lay (fun _ => True) RX10 cX10_seal 5 rX10_seal (.code yX10_seal cX10_seal 5 (some .int)) 77 [some (.ref 69), some (.int z0), some (.int z1), some (.int z2), none] [] z3 (RetQ cX10_seal (some .int) (RQI R.1 R.2))) (h : BX10_seal_97 N K77 a1 a2 a3 t0 M = some R) : WP l G tc D lay (fun _ => True) RX10 cX10_seal 5 rX10_seal (.code yX10_seal cX10_seal 5 (some .int)) 97 [some (.ref 69), some (.int a1), some (.int a2), some (.int a3), none] [.int t0] M (RetQ cX10_seal (some .int) (RQI R.1 R.2)) := by
  unfold BX10_seal_97 at h
  refine WP.istore dX10_seal_97 (by decide) rfl rfl ?_
  refine WP.aload_n dX10_seal_99 rfl rfl ?_
  refine WP.getR (j := 29) dX10_seal_100 rfl rfl in_X10 (by decide) wd_721 rfl ?_
  refine WP.bipush (v := 12) dX10_seal_103 (by decide) ?_
  refine WP.aload_n dX10_seal_105 rfl rfl ?_
  refine WP.getI (j := 25) dX10_seal_106 rfl rfl in_X10 (by decide) wd_717 rfl ?_
  refine WP.imul dX10_seal_109 ?_
  refine WP.iload_n dX10_seal_110 rfl rfl ?_
  refine WP.iadd dX10_seal_111 ?_
  refine WP.iload dX10_seal_112 rfl ?_
  refine WP.if_eq (tgt := 140) dX10_seal_114 (by decide) (fun c1 => ?_) (fun c1 => ?_)
  · rw [if_pos c1] at h
    refine WP.fgt [true, true, true, true, true] rfl ?_
    exact tX10_seal_140 hK77 h
  · rw [if_neg c1] at h
    refine WP.aload_n dX10_seal_117 rfl rfl ?_
    refine WP.getR (j := 3) dX10_seal_118 rfl rfl in_X10 (by decide) wd_695 rfl ?_
    refine WP.iload_n dX10_seal_121 rfl rfl ?_
    obtain ⟨v2, h3, h⟩ := Option.bind_eq_some_iff.mp h
    refine WP.ialdQ dX10_seal_122 rfl h3 ?_
    refine WP.if_ne (tgt := 140) dX10_seal_123 (by decide) (fun c4 => ?_) (fun c4 => ?_)
    · rw [if_neg c4] at h
      refine WP.fgt [true, true, true, true, true] rfl ?_
      exact tX10_seal_140 hK77 h
    · rw [if_pos c4] at h
      refine WP.aload_n dX10_seal_126 rfl rfl ?_
      refine WP.getR (j := 22) dX10_seal_127 rfl rfl in_X10 (by decide) wd_714 rfl ?_
      refine WP.bipush (v := 12) dX10_seal_130 (by decide) ?_
      refine WP.iload_n dX10_seal_132 rfl rfl ?_
      refine WP.imul dX10_seal_133 ?_
      refine WP.iload_n dX10_seal_134 rfl rfl ?_
      refine WP.iadd dX10_seal_135 ?_
      obtain ⟨v5, h6, h⟩ := Option.bind_eq_some_iff.mp h
      refine WP.ialdQ dX10_seal_136 rfl h6 ?_
      refine WP.goto (tgt := 142) dX10_seal_137 (by decide) ?_
      refine WP.fgt [true, true, true, true, true] rfl ?_
      exact tX10_seal_142 hK77 h
set_option maxRecDepth 20000 in
theorem tX10_seal_77 {l : Launch} {G : va_G} {tc : Nat → ClassId} {D : Nat → Nat} {N : Nat} : ∀ (nn : Nat) (q : Int32 × Int32 × Int32 × Mm) (R : (Int32 × Mm)), lp (BX10_seal_77 N) nn q = some R → WP l G tc D lay (fun _ => True) RX10 cX10_seal 5 rX10_seal (.code yX10_seal cX10_seal 5 (some .int)) 77 [some (.ref 69), some (.int q.1), some (.int q.2.1), some (.int q.2.2.1), none] [] q.2.2.2 (RetQ cX10_seal (some .int) (RQI R.1 R.2)) := by
  refine lp_ind (fun K77 hK77q q R h => ?_)
  have hK77 : ∀ (z0 : Int32) (z1 : Int32) (z2 : Int32) (z3 : Mm) (R : (Int32 × Mm)), K77 (z0, z1, z2, z3) = some R → WP l G tc D lay (fun _ => True) RX10 cX10_seal 5 rX10_seal (.code yX10_seal cX10_seal 5 (some .int)) 77 [some (.ref 69), some (.int z0), some (.int z1), some (.int z2), none] [] z3 (RetQ cX10_seal (some .int) (RQI R.1 R.2)) := fun z0 z1 z2 z3 R hh => hK77q (z0, z1, z2, z3) R hh
  unfold BX10_seal_77 at h
  refine WP.iload_n dX10_seal_77 rfl rfl ?_
  refine WP.bipush (v := 12) dX10_seal_78 (by decide) ?_
  refine WP.icmp_ge (tgt := 178) dX10_seal_80 (by decide) (fun c1 => ?_) (fun c1 => ?_)
  · rw [if_pos c1] at h
    refine WP.aload_n dX10_seal_178 rfl rfl ?_
    refine WP.dup dX10_seal_179 rfl ?_
    refine WP.getI (j := 25) dX10_seal_180 rfl rfl in_X10 (by decide) wd_717 rfl ?_
    refine WP.iconst (v := 1) dX10_seal_183 (by decide) ?_
    refine WP.iadd dX10_seal_184 ?_
    obtain ⟨M2, h3, h⟩ := Option.bind_eq_some_iff.mp h
    refine WP.putF (j := 25) (ty := .int) dX10_seal_185 rfl rfl in_X10 tyX10_ok nmX10 (by decide) wd_717 rfl (by decide +kernel) rfl rfl rfl h3 ?_
    refine WP.aload_n dX10_seal_188 rfl rfl ?_
    refine WP.getI (j := 25) dX10_seal_189 rfl rfl in_X10 (by decide) wd_717 rfl ?_
    refine WP.iconst (v := 1) dX10_seal_192 (by decide) ?_
    refine WP.isub dX10_seal_193 ?_
    cases h
    exact WP.iret dX10_seal_194 ⟨rfl, rfl⟩
  · rw [if_neg c1] at h
    refine WP.iload_n dX10_seal_83 rfl rfl ?_
    refine WP.iload_n dX10_seal_84 rfl rfl ?_
    refine WP.ishr dX10_seal_85 ?_
    refine WP.iconst (v := 1) dX10_seal_86 (by decide) ?_
    refine WP.iand dX10_seal_87 ?_
    refine WP.iconst (v := 1) dX10_seal_88 (by decide) ?_
    refine WP.icmp_ne (tgt := 96) dX10_seal_89 (by decide) (fun c4 => ?_) (fun c4 => ?_)
    · rw [if_neg c4] at h
      refine WP.iconst (v := 0) dX10_seal_96 (by decide) ?_
      refine WP.fgt [true, true, true, true, false] rfl ?_
      exact tX10_seal_97 hK77 h
    · rw [if_pos c4] at h
      refine WP.iconst (v := 1) dX10_seal_92 (by decide) ?_
      refine WP.goto (tgt := 97) dX10_seal_93 (by decide) ?_
      refine WP.fgt [true, true, true, true, false] rfl ?_
      exact tX10_seal_97 hK77 h
theorem uX10_seal_77 {l : Launch} {G : va_G} {tc : Nat → ClassId} {D : Nat → Nat} {N : Nat} (nn : Nat) : ∀ (z0 : Int32) (z1 : Int32) (z2 : Int32) (z3 : Mm) (R : (Int32 × Mm)), lp (BX10_seal_77 N) nn (z0, z1, z2, z3) = some R → WP l G tc D lay (fun _ => True) RX10 cX10_seal 5 rX10_seal (.code yX10_seal cX10_seal 5 (some .int)) 77 [some (.ref 69), some (.int z0), some (.int z1), some (.int z2), none] [] z3 (RetQ cX10_seal (some .int) (RQI R.1 R.2)) := fun z0 z1 z2 z3 R hh => tX10_seal_77  nn (z0, z1, z2, z3) R hh
set_option maxRecDepth 20000 in
theorem TX10_seal {l : Launch} {G : va_G} {tc : Nat → ClassId} {D : Nat → Nat} {N : Nat} {x1 : Int32} {x2 : Int32} {M : Mm} {R : (Int32 × Mm)} (h : FX10_seal N x1 x2 M = some R) : WP l G tc D lay (fun _ => True) yX10_seal.cls cX10_seal 5 rX10_seal (.code yX10_seal cX10_seal 5 (some .int)) 0 (entL 5 [.ref 69, .int x1, .int x2]) [] M (RetQ cX10_seal (some .int) (RQI R.1 R.2)) := by
  show WP l G tc D lay (fun _ => True) RX10 cX10_seal 5 rX10_seal (.code yX10_seal cX10_seal 5 (some .int)) 0 [some (.ref 69), some (.int x1), some (.int x2), none, none] [] M (RetQ cX10_seal (some .int) (RQI R.1 R.2))
  unfold FX10_seal at h
  refine WP.iload_n dX10_seal_0 rfl rfl ?_
  obtain ⟨r2, h1, h⟩ := Option.bind_eq_some_iff.mp h
  refine WP.callSI [.int x1] dX10_seal_1 lk_X10_188 rfl (Nat.le_of_ble_eq_true rfl) (by decide) (Nat.le_of_ble_eq_true rfl) rfl (TX10_noDraft h1) ?_
  refine WP.if_eq (tgt := 9) dX10_seal_4 (by decide) (fun c3 => ?_) (fun c3 => ?_)
  · rw [if_pos c3] at h
    refine WP.iload_n dX10_seal_9 rfl rfl ?_
    refine WP.iconst (v := 1) dX10_seal_10 (by decide) ?_
    refine WP.iconst (v := 1) dX10_seal_11 (by decide) ?_
    refine WP.aload_n dX10_seal_12 rfl rfl ?_
    refine WP.getI (j := 0) dX10_seal_13 rfl rfl in_X10 (by decide) wd_692 rfl ?_
    refine WP.ishl dX10_seal_16 ?_
    refine WP.iconst (v := 1) dX10_seal_17 (by decide) ?_
    refine WP.isub dX10_seal_18 ?_
    obtain ⟨r5, h4, h⟩ := Option.bind_eq_some_iff.mp h
    refine WP.callSI [.int x2, .int 1, .int (((1 : Int32) <<< ((M.1 69 0) &&& 31)) - 1)] dX10_seal_19 lk_X10_99 rfl (Nat.le_of_ble_eq_true rfl) (by decide) (Nat.le_of_ble_eq_true rfl) rfl (TX10_in h4) ?_
    refine WP.if_ne (tgt := 28) dX10_seal_22 (by decide) (fun c6 => ?_) (fun c6 => ?_)
    · rw [if_neg c6] at h
      refine WP.aload_n dX10_seal_28 rfl rfl ?_
      refine WP.getI (j := 25) dX10_seal_29 rfl rfl in_X10 (by decide) wd_717 rfl ?_
      refine WP.bipush (v := 6) dX10_seal_32 (by decide) ?_
      refine WP.icmp_ne (tgt := 40) dX10_seal_34 (by decide) (fun c7 => ?_) (fun c7 => ?_)
      · rw [if_neg c7] at h
        refine WP.aload_n dX10_seal_40 rfl rfl ?_
        refine WP.iload_n dX10_seal_41 rfl rfl ?_
        obtain ⟨M9, h8, h⟩ := Option.bind_eq_some_iff.mp h
        refine WP.callVV [.int x1] dX10_seal_42 lk_X10_191 rfl rfl rfl (Nat.le_of_ble_eq_true rfl) (by decide) (Nat.le_of_ble_eq_true rfl) rfl (TX10_layDraft h8) ?_
        refine WP.aload_n dX10_seal_45 rfl rfl ?_
        refine WP.getR (j := 26) dX10_seal_46 rfl rfl in_X10 (by decide) wd_718 rfl ?_
        refine WP.aload_n dX10_seal_49 rfl rfl ?_
        refine WP.getI (j := 25) dX10_seal_50 rfl rfl in_X10 (by decide) wd_717 rfl ?_
        refine WP.iload_n dX10_seal_53 rfl rfl ?_
        obtain ⟨M10, h11, h⟩ := Option.bind_eq_some_iff.mp h
        refine WP.iastQ dX10_seal_54 rfl h11 ?_
        refine WP.aload_n dX10_seal_55 rfl rfl ?_
        refine WP.getR (j := 27) dX10_seal_56 rfl rfl in_X10 (by decide) wd_719 rfl ?_
        refine WP.aload_n dX10_seal_59 rfl rfl ?_
        refine WP.getI (j := 25) dX10_seal_60 rfl rfl in_X10 (by decide) wd_717 rfl ?_
        refine WP.iload_n dX10_seal_63 rfl rfl ?_
        obtain ⟨M12, h13, h⟩ := Option.bind_eq_some_iff.mp h
        refine WP.iastQ dX10_seal_64 rfl h13 ?_
        refine WP.aload_n dX10_seal_65 rfl rfl ?_
        refine WP.getR (j := 28) dX10_seal_66 rfl rfl in_X10 (by decide) wd_720 rfl ?_
        refine WP.aload_n dX10_seal_69 rfl rfl ?_
        refine WP.getI (j := 25) dX10_seal_70 rfl rfl in_X10 (by decide) wd_717 rfl ?_
        refine WP.iconst (v := 0) dX10_seal_73 (by decide) ?_
        obtain ⟨M14, h15, h⟩ := Option.bind_eq_some_iff.mp h
        refine WP.zastQ dX10_seal_74 rfl h15 ?_
        refine WP.iconst (v := 0) dX10_seal_75 (by decide) ?_
        refine WP.istore_n dX10_seal_76 rfl (by decide) rfl rfl ?_
        refine WP.fgt [true, true, true, true, false] rfl ?_
        exact uX10_seal_77  N x1 x2 0 M14 _ h
      · rw [if_pos c7] at h
        refine WP.bipush (v := (-4)) dX10_seal_37 (by decide) ?_
        cases h
        exact WP.iret dX10_seal_39 ⟨rfl, rfl⟩
    · rw [if_pos c6] at h
      refine WP.bipush (v := (-2)) dX10_seal_25 (by decide) ?_
      cases h
      exact WP.iret dX10_seal_27 ⟨rfl, rfl⟩
  · rw [if_neg c3] at h
    refine WP.iconst (v := (-1)) dX10_seal_7 (by decide) ?_
    cases h
    exact WP.iret dX10_seal_8 ⟨rfl, rfl⟩
/-! X10_open -/
def rX10_open : Room := { frames := 2, cells := 0, slots := 0, locals := 43 }
def BX10_open_24 (a1 : Int32) (t0 : Int32) (M : Mm) : Option (Int32 × Mm) :=
  (wrZ M 92 6 a1 1).bind fun M1 => some (t0, M1)
def FX10_open (x1 : Int32) (M : Mm) : Option (Int32 × Mm) :=
  (FX10_noSeal x1 M).bind fun r2 => (if r2 = 0 then (rdI M 92 6 x1).bind fun v4 => (if v4 = 0 then BX10_open_24 x1 1 M else BX10_open_24 x1 0 M) else some ((-1), M))
theorem eBX10_open_24 (a1 : Int32) (t0 : Int32) (M : Mm) : BX10_open_24 a1 t0 M = (wrZ M 92 6 a1 1).bind fun M1 => some (t0, M1) := rfl
theorem eFX10_open (x1 : Int32) (M : Mm) : FX10_open x1 M = (FX10_noSeal x1 M).bind fun r2 => (if r2 = 0 then (rdI M 92 6 x1).bind fun v4 => (if v4 = 0 then BX10_open_24 x1 1 M else BX10_open_24 x1 0 M) else some ((-1), M)) := rfl
set_option maxRecDepth 20000 in
theorem tX10_open_24 {l : Launch} {G : va_G} {tc : Nat → ClassId} {D : Nat → Nat} {a1 : Int32} {t0 : Int32} {M : Mm} {R : (Int32 × Mm)} (h : BX10_open_24 a1 t0 M = some R) : WP l G tc D lay (fun _ => True) RX10 cX10_open 3 rX10_open (.code yX10_open cX10_open 3 (some .int)) 24 [some (.ref 69), some (.int a1), none] [.int t0] M (RetQ cX10_open (some .int) (RQI R.1 R.2)) := by
  unfold BX10_open_24 at h
  refine WP.istore_n dX10_open_24 rfl (by decide) rfl rfl ?_
  refine WP.aload_n dX10_open_25 rfl rfl ?_
  refine WP.getR (j := 28) dX10_open_26 rfl rfl in_X10 (by decide) wd_720 rfl ?_
  refine WP.iload_n dX10_open_29 rfl rfl ?_
  refine WP.iconst (v := 1) dX10_open_30 (by decide) ?_
  obtain ⟨M1, h2, h⟩ := Option.bind_eq_some_iff.mp h
  refine WP.zastQ dX10_open_31 rfl h2 ?_
  refine WP.iload_n dX10_open_32 rfl rfl ?_
  cases h
  exact WP.iret dX10_open_33 ⟨rfl, rfl⟩
set_option maxRecDepth 20000 in
theorem TX10_open {l : Launch} {G : va_G} {tc : Nat → ClassId} {D : Nat → Nat} {x1 : Int32} {M : Mm} {R : (Int32 × Mm)} (h : FX10_open x1 M = some R) : WP l G tc D lay (fun _ => True) yX10_open.cls cX10_open 3 rX10_open (.code yX10_open cX10_open 3 (some .int)) 0 (entL 3 [.ref 69, .int x1]) [] M (RetQ cX10_open (some .int) (RQI R.1 R.2)) := by
  show WP l G tc D lay (fun _ => True) RX10 cX10_open 3 rX10_open (.code yX10_open cX10_open 3 (some .int)) 0 [some (.ref 69), some (.int x1), none] [] M (RetQ cX10_open (some .int) (RQI R.1 R.2))
  unfold FX10_open at h
  refine WP.aload_n dX10_open_0 rfl rfl ?_
  refine WP.iload_n dX10_open_1 rfl rfl ?_
  obtain ⟨r2, h1, h⟩ := Option.bind_eq_some_iff.mp h
  refine WP.callVI [.int x1] dX10_open_2 lk_X10_203 rfl rfl rfl (Nat.le_of_ble_eq_true rfl) (by decide) (Nat.le_of_ble_eq_true rfl) rfl (TX10_noSeal h1) ?_
  refine WP.if_eq (tgt := 10) dX10_open_5 (by decide) (fun c3 => ?_) (fun c3 => ?_)
  · rw [if_pos c3] at h
    refine WP.aload_n dX10_open_10 rfl rfl ?_
    refine WP.getR (j := 28) dX10_open_11 rfl rfl in_X10 (by decide) wd_720 rfl ?_
    refine WP.iload_n dX10_open_14 rfl rfl ?_
    obtain ⟨v4, h5, h⟩ := Option.bind_eq_some_iff.mp h
    refine WP.zaldQ dX10_open_15 rfl h5 ?_
    refine WP.if_eq (tgt := 23) dX10_open_16 (by decide) (fun c6 => ?_) (fun c6 => ?_)
    · rw [if_pos c6] at h
      refine WP.iconst (v := 1) dX10_open_23 (by decide) ?_
      refine WP.fgt [true, true, false] rfl ?_
      exact tX10_open_24  h
    · rw [if_neg c6] at h
      refine WP.iconst (v := 0) dX10_open_19 (by decide) ?_
      refine WP.goto (tgt := 24) dX10_open_20 (by decide) ?_
      refine WP.fgt [true, true, false] rfl ?_
      exact tX10_open_24  h
  · rw [if_neg c3] at h
    refine WP.iconst (v := (-1)) dX10_open_8 (by decide) ?_
    cases h
    exact WP.iret dX10_open_9 ⟨rfl, rfl⟩
/-! X10_sealHolds -/
def rX10_sealHolds : Room := { frames := 7, cells := 0, slots := 0, locals := 158 }
def BX10_sealHolds_25 (N : Nat) (K25 : Int32 × Int32 × Int32 × Mm → Option (Int32 × Mm)) (q : Int32 × Int32 × Int32 × Mm) : Option (Int32 × Mm) :=
  (if (q.2.2.2.1 69 0) ≤ q.2.2.1 then (gdB q.2.1).bind fun g2 => some (g2, q.2.2.2) else (if q.2.1 = 0 then K25 (q.1, 0, (q.2.2.1 + 1), q.2.2.2) else (rdI q.2.2.2 91 6 q.1).bind fun v5 => (if ((v5 >>> (q.2.2.1 &&& 31)) &&& 1) = 0 then K25 (q.1, 1, (q.2.2.1 + 1), q.2.2.2) else (FX10_statusOf q.2.2.1 q.2.2.2).bind fun r9 => (rdI q.2.2.2 94 72 (((12 : Int32) * q.1) + q.2.2.1)).bind fun v10 => (if r9 = v10 then K25 (q.1, 1, (q.2.2.1 + 1), q.2.2.2) else K25 (q.1, 0, (q.2.2.1 + 1), q.2.2.2)))))
def FX10_sealHolds (N : Nat) (x1 : Int32) (M : Mm) : Option (Int32 × Mm) :=
  (rdI M 92 6 x1).bind fun v1 => (if v1 = 0 then (rdI M 90 6 x1).bind fun v4 => (FX10_layDraft N v4 M).bind fun M7 => lp (BX10_sealHolds_25 N) N (x1, 1, 0, M7) else some (0, M))
theorem eBX10_sealHolds_25 (N : Nat) (K25 : Int32 × Int32 × Int32 × Mm → Option (Int32 × Mm)) (q : Int32 × Int32 × Int32 × Mm) : BX10_sealHolds_25 N K25 q = (if (q.2.2.2.1 69 0) ≤ q.2.2.1 then (gdB q.2.1).bind fun g2 => some (g2, q.2.2.2) else (if q.2.1 = 0 then K25 (q.1, 0, (q.2.2.1 + 1), q.2.2.2) else (rdI q.2.2.2 91 6 q.1).bind fun v5 => (if ((v5 >>> (q.2.2.1 &&& 31)) &&& 1) = 0 then K25 (q.1, 1, (q.2.2.1 + 1), q.2.2.2) else (FX10_statusOf q.2.2.1 q.2.2.2).bind fun r9 => (rdI q.2.2.2 94 72 (((12 : Int32) * q.1) + q.2.2.1)).bind fun v10 => (if r9 = v10 then K25 (q.1, 1, (q.2.2.1 + 1), q.2.2.2) else K25 (q.1, 0, (q.2.2.1 + 1), q.2.2.2))))) := rfl
theorem eFX10_sealHolds (N : Nat) (x1 : Int32) (M : Mm) : FX10_sealHolds N x1 M = (rdI M 92 6 x1).bind fun v1 => (if v1 = 0 then (rdI M 90 6 x1).bind fun v4 => (FX10_layDraft N v4 M).bind fun M7 => lp (BX10_sealHolds_25 N) N (x1, 1, 0, M7) else some (0, M)) := rfl
set_option maxRecDepth 20000 in
theorem tX10_sealHolds_25 {l : Launch} {G : va_G} {tc : Nat → ClassId} {D : Nat → Nat} {N : Nat} : ∀ (nn : Nat) (q : Int32 × Int32 × Int32 × Mm) (R : (Int32 × Mm)), lp (BX10_sealHolds_25 N) nn q = some R → WP l G tc D lay (fun _ => True) RX10 cX10_sealHolds 4 rX10_sealHolds (.code yX10_sealHolds cX10_sealHolds 4 (some .boolean)) 25 [some (.ref 69), some (.int q.1), some (.int q.2.1), some (.int q.2.2.1)] [] q.2.2.2 (RetQ cX10_sealHolds (some .boolean) (RQI R.1 R.2)) := by
  refine lp_ind (fun K25 hK25q q R h => ?_)
  have hK25 : ∀ (z0 : Int32) (z1 : Int32) (z2 : Int32) (z3 : Mm) (R : (Int32 × Mm)), K25 (z0, z1, z2, z3) = some R → WP l G tc D lay (fun _ => True) RX10 cX10_sealHolds 4 rX10_sealHolds (.code yX10_sealHolds cX10_sealHolds 4 (some .boolean)) 25 [some (.ref 69), some (.int z0), some (.int z1), some (.int z2)] [] z3 (RetQ cX10_sealHolds (some .boolean) (RQI R.1 R.2)) := fun z0 z1 z2 z3 R hh => hK25q (z0, z1, z2, z3) R hh
  unfold BX10_sealHolds_25 at h
  refine WP.iload_n dX10_sealHolds_25 rfl rfl ?_
  refine WP.aload_n dX10_sealHolds_26 rfl rfl ?_
  refine WP.getI (j := 0) dX10_sealHolds_27 rfl rfl in_X10 (by decide) wd_692 rfl ?_
  refine WP.icmp_ge (tgt := 81) dX10_sealHolds_30 (by decide) (fun c1 => ?_) (fun c1 => ?_)
  · rw [if_pos c1] at h
    refine WP.iload_n dX10_sealHolds_81 rfl rfl ?_
    obtain ⟨g2, h3, h⟩ := Option.bind_eq_some_iff.mp h
    obtain ⟨rfl, h3⟩ := gdB_ok h3
    cases h
    exact WP.zret dX10_sealHolds_82 h3 ⟨rfl, rfl⟩
  · rw [if_neg c1] at h
    refine WP.iload_n dX10_sealHolds_33 rfl rfl ?_
    refine WP.if_eq (tgt := 73) dX10_sealHolds_34 (by decide) (fun c4 => ?_) (fun c4 => ?_)
    · rw [if_pos c4] at h
      refine WP.iconst (v := 0) dX10_sealHolds_73 (by decide) ?_
      refine WP.istore_n dX10_sealHolds_74 rfl (by decide) rfl rfl ?_
      refine WP.iinc (v := (q.2.2.1 + 1)) dX10_sealHolds_75 rfl rfl (by decide) rfl rfl ?_
      refine WP.goto (tgt := 25) dX10_sealHolds_78 (by decide) ?_
      refine WP.fgt [true, true, true, true] rfl ?_
      exact hK25 q.1 0 (q.2.2.1 + 1) q.2.2.2 _ h
    · rw [if_neg c4] at h
      refine WP.aload_n dX10_sealHolds_37 rfl rfl ?_
      refine WP.getR (j := 27) dX10_sealHolds_38 rfl rfl in_X10 (by decide) wd_719 rfl ?_
      refine WP.iload_n dX10_sealHolds_41 rfl rfl ?_
      obtain ⟨v5, h6, h⟩ := Option.bind_eq_some_iff.mp h
      refine WP.ialdQ dX10_sealHolds_42 rfl h6 ?_
      refine WP.iload_n dX10_sealHolds_43 rfl rfl ?_
      refine WP.ishr dX10_sealHolds_44 ?_
      refine WP.iconst (v := 1) dX10_sealHolds_45 (by decide) ?_
      refine WP.iand dX10_sealHolds_46 ?_
      refine WP.if_eq (tgt := 69) dX10_sealHolds_47 (by decide) (fun c7 => ?_) (fun c7 => ?_)
      · rw [if_pos c7] at h
        refine WP.iconst (v := 1) dX10_sealHolds_69 (by decide) ?_
        refine WP.goto (tgt := 74) dX10_sealHolds_70 (by decide) ?_
        refine WP.istore_n dX10_sealHolds_74 rfl (by decide) rfl rfl ?_
        refine WP.iinc (v := (q.2.2.1 + 1)) dX10_sealHolds_75 rfl rfl (by decide) rfl rfl ?_
        refine WP.goto (tgt := 25) dX10_sealHolds_78 (by decide) ?_
        refine WP.fgt [true, true, true, true] rfl ?_
        exact hK25 q.1 1 (q.2.2.1 + 1) q.2.2.2 _ h
      · rw [if_neg c7] at h
        refine WP.aload_n dX10_sealHolds_50 rfl rfl ?_
        refine WP.iload_n dX10_sealHolds_51 rfl rfl ?_
        obtain ⟨r9, h8, h⟩ := Option.bind_eq_some_iff.mp h
        refine WP.callVI [.int q.2.2.1] dX10_sealHolds_52 lk_X10_194 rfl rfl rfl (Nat.le_of_ble_eq_true rfl) (by decide) (Nat.le_of_ble_eq_true rfl) rfl (TX10_statusOf h8) ?_
        refine WP.aload_n dX10_sealHolds_55 rfl rfl ?_
        refine WP.getR (j := 30) dX10_sealHolds_56 rfl rfl in_X10 (by decide) wd_722 rfl ?_
        refine WP.bipush (v := 12) dX10_sealHolds_59 (by decide) ?_
        refine WP.iload_n dX10_sealHolds_61 rfl rfl ?_
        refine WP.imul dX10_sealHolds_62 ?_
        refine WP.iload_n dX10_sealHolds_63 rfl rfl ?_
        refine WP.iadd dX10_sealHolds_64 ?_
        obtain ⟨v10, h11, h⟩ := Option.bind_eq_some_iff.mp h
        refine WP.ialdQ dX10_sealHolds_65 rfl h11 ?_
        refine WP.icmp_ne (tgt := 73) dX10_sealHolds_66 (by decide) (fun c12 => ?_) (fun c12 => ?_)
        · rw [if_neg c12] at h
          refine WP.iconst (v := 0) dX10_sealHolds_73 (by decide) ?_
          refine WP.istore_n dX10_sealHolds_74 rfl (by decide) rfl rfl ?_
          refine WP.iinc (v := (q.2.2.1 + 1)) dX10_sealHolds_75 rfl rfl (by decide) rfl rfl ?_
          refine WP.goto (tgt := 25) dX10_sealHolds_78 (by decide) ?_
          refine WP.fgt [true, true, true, true] rfl ?_
          exact hK25 q.1 0 (q.2.2.1 + 1) q.2.2.2 _ h
        · rw [if_pos c12] at h
          refine WP.iconst (v := 1) dX10_sealHolds_69 (by decide) ?_
          refine WP.goto (tgt := 74) dX10_sealHolds_70 (by decide) ?_
          refine WP.istore_n dX10_sealHolds_74 rfl (by decide) rfl rfl ?_
          refine WP.iinc (v := (q.2.2.1 + 1)) dX10_sealHolds_75 rfl rfl (by decide) rfl rfl ?_
          refine WP.goto (tgt := 25) dX10_sealHolds_78 (by decide) ?_
          refine WP.fgt [true, true, true, true] rfl ?_
          exact hK25 q.1 1 (q.2.2.1 + 1) q.2.2.2 _ h
theorem uX10_sealHolds_25 {l : Launch} {G : va_G} {tc : Nat → ClassId} {D : Nat → Nat} {N : Nat} (nn : Nat) : ∀ (z0 : Int32) (z1 : Int32) (z2 : Int32) (z3 : Mm) (R : (Int32 × Mm)), lp (BX10_sealHolds_25 N) nn (z0, z1, z2, z3) = some R → WP l G tc D lay (fun _ => True) RX10 cX10_sealHolds 4 rX10_sealHolds (.code yX10_sealHolds cX10_sealHolds 4 (some .boolean)) 25 [some (.ref 69), some (.int z0), some (.int z1), some (.int z2)] [] z3 (RetQ cX10_sealHolds (some .boolean) (RQI R.1 R.2)) := fun z0 z1 z2 z3 R hh => tX10_sealHolds_25  nn (z0, z1, z2, z3) R hh
set_option maxRecDepth 20000 in
theorem TX10_sealHolds {l : Launch} {G : va_G} {tc : Nat → ClassId} {D : Nat → Nat} {N : Nat} {x1 : Int32} {M : Mm} {R : (Int32 × Mm)} (h : FX10_sealHolds N x1 M = some R) : WP l G tc D lay (fun _ => True) yX10_sealHolds.cls cX10_sealHolds 4 rX10_sealHolds (.code yX10_sealHolds cX10_sealHolds 4 (some .boolean)) 0 (entL 4 [.ref 69, .int x1]) [] M (RetQ cX10_sealHolds (some .boolean) (RQI R.1 R.2)) := by
  show WP l G tc D lay (fun _ => True) RX10 cX10_sealHolds 4 rX10_sealHolds (.code yX10_sealHolds cX10_sealHolds 4 (some .boolean)) 0 [some (.ref 69), some (.int x1), none, none] [] M (RetQ cX10_sealHolds (some .boolean) (RQI R.1 R.2))
  unfold FX10_sealHolds at h
  refine WP.aload_n dX10_sealHolds_0 rfl rfl ?_
  refine WP.getR (j := 28) dX10_sealHolds_1 rfl rfl in_X10 (by decide) wd_720 rfl ?_
  refine WP.iload_n dX10_sealHolds_4 rfl rfl ?_
  obtain ⟨v1, h2, h⟩ := Option.bind_eq_some_iff.mp h
  refine WP.zaldQ dX10_sealHolds_5 rfl h2 ?_
  refine WP.if_eq (tgt := 11) dX10_sealHolds_6 (by decide) (fun c3 => ?_) (fun c3 => ?_)
  · rw [if_pos c3] at h
    refine WP.aload_n dX10_sealHolds_11 rfl rfl ?_
    refine WP.aload_n dX10_sealHolds_12 rfl rfl ?_
    refine WP.getR (j := 26) dX10_sealHolds_13 rfl rfl in_X10 (by decide) wd_718 rfl ?_
    refine WP.iload_n dX10_sealHolds_16 rfl rfl ?_
    obtain ⟨v4, h5, h⟩ := Option.bind_eq_some_iff.mp h
    refine WP.ialdQ dX10_sealHolds_17 rfl h5 ?_
    obtain ⟨M7, h6, h⟩ := Option.bind_eq_some_iff.mp h
    refine WP.callVV [.int v4] dX10_sealHolds_18 lk_X10_191 rfl rfl rfl (Nat.le_of_ble_eq_true rfl) (by decide) (Nat.le_of_ble_eq_true rfl) rfl (TX10_layDraft h6) ?_
    refine WP.iconst (v := 1) dX10_sealHolds_21 (by decide) ?_
    refine WP.istore_n dX10_sealHolds_22 rfl (by decide) rfl rfl ?_
    refine WP.iconst (v := 0) dX10_sealHolds_23 (by decide) ?_
    refine WP.istore_n dX10_sealHolds_24 rfl (by decide) rfl rfl ?_
    refine WP.fgt [true, true, true, true] rfl ?_
    exact uX10_sealHolds_25  N x1 1 0 M7 _ h
  · rw [if_neg c3] at h
    refine WP.iconst (v := 0) dX10_sealHolds_9 (by decide) ?_
    cases h
    exact WP.zret dX10_sealHolds_10 (by decide) ⟨rfl, rfl⟩
/-! X10_sealed -/
def rX10_sealed : Room := { frames := 8, cells := 0, slots := 0, locals := 181 }
def FX10_sealed (N : Nat) (x1 : Int32) (x2 : Int32) (M : Mm) : Option (Int32 × Mm) :=
  (FX10_noSeal x1 M).bind fun r2 => (if r2 = 0 then (FX10_in x2 10 ((9 : Int32) + (M.1 69 0)) M).bind fun r5 => (if r5 = 0 then (FX10_in x2 30 ((29 : Int32) + (M.1 69 0)) M).bind fun r8 => (if r8 = 0 then (if x2 = 0 then (rdI M 90 6 x1).bind fun v11 => some (v11, M) else (if x2 = 1 then (rdI M 91 6 x1).bind fun v14 => some (v14, M) else (if x2 = 2 then (rdI M 92 6 x1).bind fun v17 => (if v17 = 0 then some (0, M) else some (1, M)) else (if x2 = 3 then (FX10_sealHolds N x1 M).bind fun p22 => (if p22.1 = 0 then some (0, p22.2) else some (1, p22.2)) else some ((-2), M))))) else (rdI M 94 72 ((((12 : Int32) * x1) + x2) - 30)).bind fun v24 => some (v24, M)) else (rdI M 93 72 ((((12 : Int32) * x1) + x2) - 10)).bind fun v26 => some (v26, M)) else some ((-1), M))
theorem eFX10_sealed (N : Nat) (x1 : Int32) (x2 : Int32) (M : Mm) : FX10_sealed N x1 x2 M = (FX10_noSeal x1 M).bind fun r2 => (if r2 = 0 then (FX10_in x2 10 ((9 : Int32) + (M.1 69 0)) M).bind fun r5 => (if r5 = 0 then (FX10_in x2 30 ((29 : Int32) + (M.1 69 0)) M).bind fun r8 => (if r8 = 0 then (if x2 = 0 then (rdI M 90 6 x1).bind fun v11 => some (v11, M) else (if x2 = 1 then (rdI M 91 6 x1).bind fun v14 => some (v14, M) else (if x2 = 2 then (rdI M 92 6 x1).bind fun v17 => (if v17 = 0 then some (0, M) else some (1, M)) else (if x2 = 3 then (FX10_sealHolds N x1 M).bind fun p22 => (if p22.1 = 0 then some (0, p22.2) else some (1, p22.2)) else some ((-2), M))))) else (rdI M 94 72 ((((12 : Int32) * x1) + x2) - 30)).bind fun v24 => some (v24, M)) else (rdI M 93 72 ((((12 : Int32) * x1) + x2) - 10)).bind fun v26 => some (v26, M)) else some ((-1), M)) := rfl
set_option maxRecDepth 20000 in
theorem TX10_sealed {l : Launch} {G : va_G} {tc : Nat → ClassId} {D : Nat → Nat} {N : Nat} {x1 : Int32} {x2 : Int32} {M : Mm} {R : (Int32 × Mm)} (h : FX10_sealed N x1 x2 M = some R) : WP l G tc D lay (fun _ => True) yX10_sealed.cls cX10_sealed 3 rX10_sealed (.code yX10_sealed cX10_sealed 3 (some .int)) 0 (entL 3 [.ref 69, .int x1, .int x2]) [] M (RetQ cX10_sealed (some .int) (RQI R.1 R.2)) := by
  show WP l G tc D lay (fun _ => True) RX10 cX10_sealed 3 rX10_sealed (.code yX10_sealed cX10_sealed 3 (some .int)) 0 [some (.ref 69), some (.int x1), some (.int x2)] [] M (RetQ cX10_sealed (some .int) (RQI R.1 R.2))
  unfold FX10_sealed at h
  refine WP.aload_n dX10_sealed_0 rfl rfl ?_
  refine WP.iload_n dX10_sealed_1 rfl rfl ?_
  obtain ⟨r2, h1, h⟩ := Option.bind_eq_some_iff.mp h
  refine WP.callVI [.int x1] dX10_sealed_2 lk_X10_203 rfl rfl rfl (Nat.le_of_ble_eq_true rfl) (by decide) (Nat.le_of_ble_eq_true rfl) rfl (TX10_noSeal h1) ?_
  refine WP.if_eq (tgt := 10) dX10_sealed_5 (by decide) (fun c3 => ?_) (fun c3 => ?_)
  · rw [if_pos c3] at h
    refine WP.iload_n dX10_sealed_10 rfl rfl ?_
    refine WP.bipush (v := 10) dX10_sealed_11 (by decide) ?_
    refine WP.bipush (v := 9) dX10_sealed_13 (by decide) ?_
    refine WP.aload_n dX10_sealed_15 rfl rfl ?_
    refine WP.getI (j := 0) dX10_sealed_16 rfl rfl in_X10 (by decide) wd_692 rfl ?_
    refine WP.iadd dX10_sealed_19 ?_
    obtain ⟨r5, h4, h⟩ := Option.bind_eq_some_iff.mp h
    refine WP.callSI [.int x2, .int 10, .int ((9 : Int32) + (M.1 69 0))] dX10_sealed_20 lk_X10_99 rfl (Nat.le_of_ble_eq_true rfl) (by decide) (Nat.le_of_ble_eq_true rfl) rfl (TX10_in h4) ?_
    refine WP.if_eq (tgt := 41) dX10_sealed_23 (by decide) (fun c6 => ?_) (fun c6 => ?_)
    · rw [if_pos c6] at h
      refine WP.iload_n dX10_sealed_41 rfl rfl ?_
      refine WP.bipush (v := 30) dX10_sealed_42 (by decide) ?_
      refine WP.bipush (v := 29) dX10_sealed_44 (by decide) ?_
      refine WP.aload_n dX10_sealed_46 rfl rfl ?_
      refine WP.getI (j := 0) dX10_sealed_47 rfl rfl in_X10 (by decide) wd_692 rfl ?_
      refine WP.iadd dX10_sealed_50 ?_
      obtain ⟨r8, h7, h⟩ := Option.bind_eq_some_iff.mp h
      refine WP.callSI [.int x2, .int 30, .int ((29 : Int32) + (M.1 69 0))] dX10_sealed_51 lk_X10_99 rfl (Nat.le_of_ble_eq_true rfl) (by decide) (Nat.le_of_ble_eq_true rfl) rfl (TX10_in h7) ?_
      refine WP.if_eq (tgt := 72) dX10_sealed_54 (by decide) (fun c9 => ?_) (fun c9 => ?_)
      · rw [if_pos c9] at h
        refine WP.iload_n dX10_sealed_72 rfl rfl ?_
        by_cases c10 : x2 = 0
        · rw [if_pos c10] at h
          refine WP.tbl (off := 31) (tgt := 104) dX10_sealed_73 (by rw [c10]; decide) (by decide) ?_
          refine WP.aload_n dX10_sealed_104 rfl rfl ?_
          refine WP.getR (j := 26) dX10_sealed_105 rfl rfl in_X10 (by decide) wd_718 rfl ?_
          refine WP.iload_n dX10_sealed_108 rfl rfl ?_
          obtain ⟨v11, h12, h⟩ := Option.bind_eq_some_iff.mp h
          refine WP.ialdQ dX10_sealed_109 rfl h12 ?_
          cases h
          exact WP.iret dX10_sealed_110 ⟨rfl, rfl⟩
        · rw [if_neg c10] at h
          by_cases c13 : x2 = 1
          · rw [if_pos c13] at h
            refine WP.tbl (off := 38) (tgt := 111) dX10_sealed_73 (by rw [c13]; decide) (by decide) ?_
            refine WP.aload_n dX10_sealed_111 rfl rfl ?_
            refine WP.getR (j := 27) dX10_sealed_112 rfl rfl in_X10 (by decide) wd_719 rfl ?_
            refine WP.iload_n dX10_sealed_115 rfl rfl ?_
            obtain ⟨v14, h15, h⟩ := Option.bind_eq_some_iff.mp h
            refine WP.ialdQ dX10_sealed_116 rfl h15 ?_
            cases h
            exact WP.iret dX10_sealed_117 ⟨rfl, rfl⟩
          · rw [if_neg c13] at h
            by_cases c16 : x2 = 2
            · rw [if_pos c16] at h
              refine WP.tbl (off := 45) (tgt := 118) dX10_sealed_73 (by rw [c16]; decide) (by decide) ?_
              refine WP.aload_n dX10_sealed_118 rfl rfl ?_
              refine WP.getR (j := 28) dX10_sealed_119 rfl rfl in_X10 (by decide) wd_720 rfl ?_
              refine WP.iload_n dX10_sealed_122 rfl rfl ?_
              obtain ⟨v17, h18, h⟩ := Option.bind_eq_some_iff.mp h
              refine WP.zaldQ dX10_sealed_123 rfl h18 ?_
              refine WP.if_eq (tgt := 131) dX10_sealed_124 (by decide) (fun c19 => ?_) (fun c19 => ?_)
              · rw [if_pos c19] at h
                refine WP.iconst (v := 0) dX10_sealed_131 (by decide) ?_
                cases h
                exact WP.iret dX10_sealed_132 ⟨rfl, rfl⟩
              · rw [if_neg c19] at h
                refine WP.iconst (v := 1) dX10_sealed_127 (by decide) ?_
                refine WP.goto (tgt := 132) dX10_sealed_128 (by decide) ?_
                cases h
                exact WP.iret dX10_sealed_132 ⟨rfl, rfl⟩
            · rw [if_neg c16] at h
              by_cases c20 : x2 = 3
              · rw [if_pos c20] at h
                refine WP.tbl (off := 60) (tgt := 133) dX10_sealed_73 (by rw [c20]; decide) (by decide) ?_
                refine WP.aload_n dX10_sealed_133 rfl rfl ?_
                refine WP.iload_n dX10_sealed_134 rfl rfl ?_
                obtain ⟨p22, h21, h⟩ := Option.bind_eq_some_iff.mp h
                refine WP.callVI [.int x1] dX10_sealed_135 lk_X10_206 rfl rfl rfl (Nat.le_of_ble_eq_true rfl) (by decide) (Nat.le_of_ble_eq_true rfl) rfl (TX10_sealHolds h21) ?_
                refine WP.if_eq (tgt := 145) dX10_sealed_138 (by decide) (fun c23 => ?_) (fun c23 => ?_)
                · rw [if_pos c23] at h
                  refine WP.iconst (v := 0) dX10_sealed_145 (by decide) ?_
                  cases h
                  exact WP.iret dX10_sealed_146 ⟨rfl, rfl⟩
                · rw [if_neg c23] at h
                  refine WP.iconst (v := 1) dX10_sealed_141 (by decide) ?_
                  refine WP.goto (tgt := 146) dX10_sealed_142 (by decide) ?_
                  cases h
                  exact WP.iret dX10_sealed_146 ⟨rfl, rfl⟩
              · rw [if_neg c20] at h
                refine WP.tbl (off := 74) (tgt := 147) dX10_sealed_73 (by
                    have n0 := lv_neT (k := 0) (a := 0) (fun z => c10 (z)) (by decide)
                    have n1 := lv_neT (k := 1) (a := 1) (fun z => c13 (z)) (by decide)
                    have n2 := lv_neT (k := 2) (a := 2) (fun z => c16 (z)) (by decide)
                    have n3 := lv_neT (k := 3) (a := 3) (fun z => c20 (z)) (by decide)
                    exact swT_def (by omega)) (by decide) ?_
                refine WP.bipush (v := (-2)) dX10_sealed_147 (by decide) ?_
                cases h
                exact WP.iret dX10_sealed_149 ⟨rfl, rfl⟩
      · rw [if_neg c9] at h
        refine WP.aload_n dX10_sealed_57 rfl rfl ?_
        refine WP.getR (j := 30) dX10_sealed_58 rfl rfl in_X10 (by decide) wd_722 rfl ?_
        refine WP.bipush (v := 12) dX10_sealed_61 (by decide) ?_
        refine WP.iload_n dX10_sealed_63 rfl rfl ?_
        refine WP.imul dX10_sealed_64 ?_
        refine WP.iload_n dX10_sealed_65 rfl rfl ?_
        refine WP.iadd dX10_sealed_66 ?_
        refine WP.bipush (v := 30) dX10_sealed_67 (by decide) ?_
        refine WP.isub dX10_sealed_69 ?_
        obtain ⟨v24, h25, h⟩ := Option.bind_eq_some_iff.mp h
        refine WP.ialdQ dX10_sealed_70 rfl h25 ?_
        cases h
        exact WP.iret dX10_sealed_71 ⟨rfl, rfl⟩
    · rw [if_neg c6] at h
      refine WP.aload_n dX10_sealed_26 rfl rfl ?_
      refine WP.getR (j := 29) dX10_sealed_27 rfl rfl in_X10 (by decide) wd_721 rfl ?_
      refine WP.bipush (v := 12) dX10_sealed_30 (by decide) ?_
      refine WP.iload_n dX10_sealed_32 rfl rfl ?_
      refine WP.imul dX10_sealed_33 ?_
      refine WP.iload_n dX10_sealed_34 rfl rfl ?_
      refine WP.iadd dX10_sealed_35 ?_
      refine WP.bipush (v := 10) dX10_sealed_36 (by decide) ?_
      refine WP.isub dX10_sealed_38 ?_
      obtain ⟨v26, h27, h⟩ := Option.bind_eq_some_iff.mp h
      refine WP.ialdQ dX10_sealed_39 rfl h27 ?_
      cases h
      exact WP.iret dX10_sealed_40 ⟨rfl, rfl⟩
  · rw [if_neg c3] at h
    refine WP.iconst (v := (-1)) dX10_sealed_8 (by decide) ?_
    cases h
    exact WP.iret dX10_sealed_9 ⟨rfl, rfl⟩
/-! X10_goesOn -/
def rX10_goesOn : Room := { frames := 0, cells := 0, slots := 0, locals := 0 }
def BX10_goesOn_48 (N : Nat) (K7 : Int32 × Int32 × Mm → Option (Int32 × Mm)) (a1 : Int32) (a2 : Int32) (t0 : Int32) (M : Mm) : Option (Int32 × Mm) :=
  (rdI M 71 12 a2).bind fun v1 => (if v1 < t0 then (wrI M 83 12 a2 (-2000000000)).bind fun M4 => K7 (a1, (a2 + (-1)), M4) else (wrI M 83 12 a2 t0).bind fun M6 => some (1, M6))
def BX10_goesOn_7 (N : Nat) (K7 : Int32 × Int32 × Mm → Option (Int32 × Mm)) (q : Int32 × Int32 × Mm) : Option (Int32 × Mm) :=
  (if q.2.1 < 0 then some (0, q.2.2) else (if ((q.1 >>> (q.2.1 &&& 31)) &&& 1) = 1 then (rdI q.2.2 83 12 q.2.1).bind fun v3 => (if v3 = (-2000000000) then (rdI q.2.2 70 12 q.2.1).bind fun v8 => BX10_goesOn_48 N K7 q.1 q.2.1 v8 q.2.2 else (rdI q.2.2 83 12 q.2.1).bind fun v6 => BX10_goesOn_48 N K7 q.1 q.2.1 (v6 + 1) q.2.2) else K7 (q.1, (q.2.1 + (-1)), q.2.2)))
def FX10_goesOn (N : Nat) (x1 : Int32) (M : Mm) : Option (Int32 × Mm) :=
  lp (BX10_goesOn_7 N) N (x1, ((M.1 69 0) - 1), M)
theorem eBX10_goesOn_48 (N : Nat) (K7 : Int32 × Int32 × Mm → Option (Int32 × Mm)) (a1 : Int32) (a2 : Int32) (t0 : Int32) (M : Mm) : BX10_goesOn_48 N K7 a1 a2 t0 M = (rdI M 71 12 a2).bind fun v1 => (if v1 < t0 then (wrI M 83 12 a2 (-2000000000)).bind fun M4 => K7 (a1, (a2 + (-1)), M4) else (wrI M 83 12 a2 t0).bind fun M6 => some (1, M6)) := rfl
theorem eBX10_goesOn_7 (N : Nat) (K7 : Int32 × Int32 × Mm → Option (Int32 × Mm)) (q : Int32 × Int32 × Mm) : BX10_goesOn_7 N K7 q = (if q.2.1 < 0 then some (0, q.2.2) else (if ((q.1 >>> (q.2.1 &&& 31)) &&& 1) = 1 then (rdI q.2.2 83 12 q.2.1).bind fun v3 => (if v3 = (-2000000000) then (rdI q.2.2 70 12 q.2.1).bind fun v8 => BX10_goesOn_48 N K7 q.1 q.2.1 v8 q.2.2 else (rdI q.2.2 83 12 q.2.1).bind fun v6 => BX10_goesOn_48 N K7 q.1 q.2.1 (v6 + 1) q.2.2) else K7 (q.1, (q.2.1 + (-1)), q.2.2))) := rfl
theorem eFX10_goesOn (N : Nat) (x1 : Int32) (M : Mm) : FX10_goesOn N x1 M = lp (BX10_goesOn_7 N) N (x1, ((M.1 69 0) - 1), M) := rfl
set_option maxRecDepth 20000 in
theorem tX10_goesOn_48 {l : Launch} {G : va_G} {tc : Nat → ClassId} {D : Nat → Nat} {N : Nat} {K7 : Int32 × Int32 × Mm → Option (Int32 × Mm)} {a1 : Int32} {a2 : Int32} {t0 : Int32} {M : Mm} {R : (Int32 × Mm)} (hK7 : ∀ (z0 : Int32) (z1 : Int32) (z2 : Mm) (R : (Int32 × Mm)), K7 (z0, z1, z2) = some R → WP l G tc D lay (fun _ => True) RX10 cX10_goesOn 4 rX10_goesOn (.code yX10_goesOn cX10_goesOn 4 (some .boolean)) 7 [some (.ref 69), some (.int z0), some (.int z1), none] [] z2 (RetQ cX10_goesOn (some .boolean) (RQI R.1 R.2))) (h : BX10_goesOn_48 N K7 a1 a2 t0 M = some R) : WP l G tc D lay (fun _ => True) RX10 cX10_goesOn 4 rX10_goesOn (.code yX10_goesOn cX10_goesOn 4 (some .boolean)) 48 [some (.ref 69), some (.int a1), some (.int a2), none] [.int t0] M (RetQ cX10_goesOn (some .boolean) (RQI R.1 R.2)) := by
  unfold BX10_goesOn_48 at h
  refine WP.istore_n dX10_goesOn_48 rfl (by decide) rfl rfl ?_
  refine WP.iload_n dX10_goesOn_49 rfl rfl ?_
  refine WP.aload_n dX10_goesOn_50 rfl rfl ?_
  refine WP.getR (j := 2) dX10_goesOn_51 rfl rfl in_X10 (by decide) wd_694 rfl ?_
  refine WP.iload_n dX10_goesOn_54 rfl rfl ?_
  obtain ⟨v1, h2, h⟩ := Option.bind_eq_some_iff.mp h
  refine WP.ialdQ dX10_goesOn_55 rfl h2 ?_
  refine WP.icmp_gt (tgt := 68) dX10_goesOn_56 (by decide) (fun c3 => ?_) (fun c3 => ?_)
  · rw [if_pos c3] at h
    refine WP.aload_n dX10_goesOn_68 rfl rfl ?_
    refine WP.getR (j := 17) dX10_goesOn_69 rfl rfl in_X10 (by decide) wd_709 rfl ?_
    refine WP.iload_n dX10_goesOn_72 rfl rfl ?_
    refine WP.ldc (v := (-2000000000)) dX10_goesOn_73 wd_691 ?_
    obtain ⟨M4, h5, h⟩ := Option.bind_eq_some_iff.mp h
    refine WP.iastQ dX10_goesOn_75 rfl h5 ?_
    refine WP.iinc (v := (a2 + (-1))) dX10_goesOn_76 rfl rfl (by decide) rfl rfl ?_
    refine WP.goto (tgt := 7) dX10_goesOn_79 (by decide) ?_
    refine WP.fgt [true, true, true, false] rfl ?_
    exact hK7 a1 (a2 + (-1)) M4 _ h
  · rw [if_neg c3] at h
    refine WP.aload_n dX10_goesOn_59 rfl rfl ?_
    refine WP.getR (j := 17) dX10_goesOn_60 rfl rfl in_X10 (by decide) wd_709 rfl ?_
    refine WP.iload_n dX10_goesOn_63 rfl rfl ?_
    refine WP.iload_n dX10_goesOn_64 rfl rfl ?_
    obtain ⟨M6, h7, h⟩ := Option.bind_eq_some_iff.mp h
    refine WP.iastQ dX10_goesOn_65 rfl h7 ?_
    refine WP.iconst (v := 1) dX10_goesOn_66 (by decide) ?_
    cases h
    exact WP.zret dX10_goesOn_67 (by decide) ⟨rfl, rfl⟩
set_option maxRecDepth 20000 in
theorem tX10_goesOn_7 {l : Launch} {G : va_G} {tc : Nat → ClassId} {D : Nat → Nat} {N : Nat} : ∀ (nn : Nat) (q : Int32 × Int32 × Mm) (R : (Int32 × Mm)), lp (BX10_goesOn_7 N) nn q = some R → WP l G tc D lay (fun _ => True) RX10 cX10_goesOn 4 rX10_goesOn (.code yX10_goesOn cX10_goesOn 4 (some .boolean)) 7 [some (.ref 69), some (.int q.1), some (.int q.2.1), none] [] q.2.2 (RetQ cX10_goesOn (some .boolean) (RQI R.1 R.2)) := by
  refine lp_ind (fun K7 hK7q q R h => ?_)
  have hK7 : ∀ (z0 : Int32) (z1 : Int32) (z2 : Mm) (R : (Int32 × Mm)), K7 (z0, z1, z2) = some R → WP l G tc D lay (fun _ => True) RX10 cX10_goesOn 4 rX10_goesOn (.code yX10_goesOn cX10_goesOn 4 (some .boolean)) 7 [some (.ref 69), some (.int z0), some (.int z1), none] [] z2 (RetQ cX10_goesOn (some .boolean) (RQI R.1 R.2)) := fun z0 z1 z2 R hh => hK7q (z0, z1, z2) R hh
  unfold BX10_goesOn_7 at h
  refine WP.iload_n dX10_goesOn_7 rfl rfl ?_
  refine WP.if_lt (tgt := 82) dX10_goesOn_8 (by decide) (fun c1 => ?_) (fun c1 => ?_)
  · rw [if_pos c1] at h
    refine WP.iconst (v := 0) dX10_goesOn_82 (by decide) ?_
    cases h
    exact WP.zret dX10_goesOn_83 (by decide) ⟨rfl, rfl⟩
  · rw [if_neg c1] at h
    refine WP.iload_n dX10_goesOn_11 rfl rfl ?_
    refine WP.iload_n dX10_goesOn_12 rfl rfl ?_
    refine WP.ishr dX10_goesOn_13 ?_
    refine WP.iconst (v := 1) dX10_goesOn_14 (by decide) ?_
    refine WP.iand dX10_goesOn_15 ?_
    refine WP.iconst (v := 1) dX10_goesOn_16 (by decide) ?_
    refine WP.icmp_ne (tgt := 76) dX10_goesOn_17 (by decide) (fun c2 => ?_) (fun c2 => ?_)
    · rw [if_neg c2] at h
      refine WP.iinc (v := (q.2.1 + (-1))) dX10_goesOn_76 rfl rfl (by decide) rfl rfl ?_
      refine WP.goto (tgt := 7) dX10_goesOn_79 (by decide) ?_
      refine WP.fgt [true, true, true, false] rfl ?_
      exact hK7 q.1 (q.2.1 + (-1)) q.2.2 _ h
    · rw [if_pos c2] at h
      refine WP.aload_n dX10_goesOn_20 rfl rfl ?_
      refine WP.getR (j := 17) dX10_goesOn_21 rfl rfl in_X10 (by decide) wd_709 rfl ?_
      refine WP.iload_n dX10_goesOn_24 rfl rfl ?_
      obtain ⟨v3, h4, h⟩ := Option.bind_eq_some_iff.mp h
      refine WP.ialdQ dX10_goesOn_25 rfl h4 ?_
      refine WP.ldc (v := (-2000000000)) dX10_goesOn_26 wd_691 ?_
      refine WP.icmp_ne (tgt := 40) dX10_goesOn_28 (by decide) (fun c5 => ?_) (fun c5 => ?_)
      · rw [if_neg c5] at h
        refine WP.aload_n dX10_goesOn_40 rfl rfl ?_
        refine WP.getR (j := 17) dX10_goesOn_41 rfl rfl in_X10 (by decide) wd_709 rfl ?_
        refine WP.iload_n dX10_goesOn_44 rfl rfl ?_
        obtain ⟨v6, h7, h⟩ := Option.bind_eq_some_iff.mp h
        refine WP.ialdQ dX10_goesOn_45 rfl h7 ?_
        refine WP.iconst (v := 1) dX10_goesOn_46 (by decide) ?_
        refine WP.iadd dX10_goesOn_47 ?_
        refine WP.fgt [true, true, true, false] rfl ?_
        exact tX10_goesOn_48 hK7 h
      · rw [if_pos c5] at h
        refine WP.aload_n dX10_goesOn_31 rfl rfl ?_
        refine WP.getR (j := 1) dX10_goesOn_32 rfl rfl in_X10 (by decide) wd_693 rfl ?_
        refine WP.iload_n dX10_goesOn_35 rfl rfl ?_
        obtain ⟨v8, h9, h⟩ := Option.bind_eq_some_iff.mp h
        refine WP.ialdQ dX10_goesOn_36 rfl h9 ?_
        refine WP.goto (tgt := 48) dX10_goesOn_37 (by decide) ?_
        refine WP.fgt [true, true, true, false] rfl ?_
        exact tX10_goesOn_48 hK7 h
theorem uX10_goesOn_7 {l : Launch} {G : va_G} {tc : Nat → ClassId} {D : Nat → Nat} {N : Nat} (nn : Nat) : ∀ (z0 : Int32) (z1 : Int32) (z2 : Mm) (R : (Int32 × Mm)), lp (BX10_goesOn_7 N) nn (z0, z1, z2) = some R → WP l G tc D lay (fun _ => True) RX10 cX10_goesOn 4 rX10_goesOn (.code yX10_goesOn cX10_goesOn 4 (some .boolean)) 7 [some (.ref 69), some (.int z0), some (.int z1), none] [] z2 (RetQ cX10_goesOn (some .boolean) (RQI R.1 R.2)) := fun z0 z1 z2 R hh => tX10_goesOn_7  nn (z0, z1, z2) R hh
set_option maxRecDepth 20000 in
theorem TX10_goesOn {l : Launch} {G : va_G} {tc : Nat → ClassId} {D : Nat → Nat} {N : Nat} {x1 : Int32} {M : Mm} {R : (Int32 × Mm)} (h : FX10_goesOn N x1 M = some R) : WP l G tc D lay (fun _ => True) yX10_goesOn.cls cX10_goesOn 4 rX10_goesOn (.code yX10_goesOn cX10_goesOn 4 (some .boolean)) 0 (entL 4 [.ref 69, .int x1]) [] M (RetQ cX10_goesOn (some .boolean) (RQI R.1 R.2)) := by
  show WP l G tc D lay (fun _ => True) RX10 cX10_goesOn 4 rX10_goesOn (.code yX10_goesOn cX10_goesOn 4 (some .boolean)) 0 [some (.ref 69), some (.int x1), none, none] [] M (RetQ cX10_goesOn (some .boolean) (RQI R.1 R.2))
  unfold FX10_goesOn at h
  refine WP.aload_n dX10_goesOn_0 rfl rfl ?_
  refine WP.getI (j := 0) dX10_goesOn_1 rfl rfl in_X10 (by decide) wd_692 rfl ?_
  refine WP.iconst (v := 1) dX10_goesOn_4 (by decide) ?_
  refine WP.isub dX10_goesOn_5 ?_
  refine WP.istore_n dX10_goesOn_6 rfl (by decide) rfl rfl ?_
  refine WP.fgt [true, true, true, false] rfl ?_
  exact uX10_goesOn_7  N x1 ((M.1 69 0) - 1) M _ h
/-! X10_shows -/
def rX10_shows : Room := { frames := 5, cells := 0, slots := 0, locals := 111 }
def BX10_shows_2 (N : Nat) (K2 : Int32 × Int32 × Mm → Option (Int32 × Mm)) (q : Int32 × Int32 × Mm) : Option (Int32 × Mm) :=
  (if (q.2.2.1 69 0) ≤ q.2.1 then (FX10_judge N q.1 q.2.2).bind fun M3 => (rdI M3 84 12 q.1).bind fun v4 => (gdB v4).bind fun g6 => some (g6, M3) else (rdI q.2.2 81 12 q.2.1).bind fun v8 => (rdI q.2.2 79 12 q.1).bind fun v10 => (if ((v10 >>> (v8 &&& 31)) &&& 1) = 1 then (FX10_judge N v8 q.2.2).bind fun M14 => K2 (q.1, (q.2.1 + 1), M14) else K2 (q.1, (q.2.1 + 1), q.2.2)))
def FX10_shows (N : Nat) (x1 : Int32) (M : Mm) : Option (Int32 × Mm) :=
  lp (BX10_shows_2 N) N (x1, 0, M)
theorem eBX10_shows_2 (N : Nat) (K2 : Int32 × Int32 × Mm → Option (Int32 × Mm)) (q : Int32 × Int32 × Mm) : BX10_shows_2 N K2 q = (if (q.2.2.1 69 0) ≤ q.2.1 then (FX10_judge N q.1 q.2.2).bind fun M3 => (rdI M3 84 12 q.1).bind fun v4 => (gdB v4).bind fun g6 => some (g6, M3) else (rdI q.2.2 81 12 q.2.1).bind fun v8 => (rdI q.2.2 79 12 q.1).bind fun v10 => (if ((v10 >>> (v8 &&& 31)) &&& 1) = 1 then (FX10_judge N v8 q.2.2).bind fun M14 => K2 (q.1, (q.2.1 + 1), M14) else K2 (q.1, (q.2.1 + 1), q.2.2))) := rfl
theorem eFX10_shows (N : Nat) (x1 : Int32) (M : Mm) : FX10_shows N x1 M = lp (BX10_shows_2 N) N (x1, 0, M) := rfl
set_option maxRecDepth 20000 in
theorem tX10_shows_2 {l : Launch} {G : va_G} {tc : Nat → ClassId} {D : Nat → Nat} {N : Nat} : ∀ (nn : Nat) (q : Int32 × Int32 × Mm) (R : (Int32 × Mm)), lp (BX10_shows_2 N) nn q = some R → WP l G tc D lay (fun _ => True) RX10 cX10_shows 4 rX10_shows (.code yX10_shows cX10_shows 4 (some .boolean)) 2 [some (.ref 69), some (.int q.1), some (.int q.2.1), none] [] q.2.2 (RetQ cX10_shows (some .boolean) (RQI R.1 R.2)) := by
  refine lp_ind (fun K2 hK2q q R h => ?_)
  have hK2 : ∀ (z0 : Int32) (z1 : Int32) (z2 : Mm) (R : (Int32 × Mm)), K2 (z0, z1, z2) = some R → WP l G tc D lay (fun _ => True) RX10 cX10_shows 4 rX10_shows (.code yX10_shows cX10_shows 4 (some .boolean)) 2 [some (.ref 69), some (.int z0), some (.int z1), none] [] z2 (RetQ cX10_shows (some .boolean) (RQI R.1 R.2)) := fun z0 z1 z2 R hh => hK2q (z0, z1, z2) R hh
  unfold BX10_shows_2 at h
  refine WP.iload_n dX10_shows_2 rfl rfl ?_
  refine WP.aload_n dX10_shows_3 rfl rfl ?_
  refine WP.getI (j := 0) dX10_shows_4 rfl rfl in_X10 (by decide) wd_692 rfl ?_
  refine WP.icmp_ge (tgt := 42) dX10_shows_7 (by decide) (fun c1 => ?_) (fun c1 => ?_)
  · rw [if_pos c1] at h
    refine WP.aload_n dX10_shows_42 rfl rfl ?_
    refine WP.iload_n dX10_shows_43 rfl rfl ?_
    obtain ⟨M3, h2, h⟩ := Option.bind_eq_some_iff.mp h
    refine WP.callVV [.int q.1] dX10_shows_44 lk_X10_176 rfl rfl rfl (Nat.le_of_ble_eq_true rfl) (by decide) (Nat.le_of_ble_eq_true rfl) rfl (TX10_judge h2) ?_
    refine WP.aload_n dX10_shows_47 rfl rfl ?_
    refine WP.getR (j := 18) dX10_shows_48 rfl rfl in_X10 (by decide) wd_710 rfl ?_
    refine WP.iload_n dX10_shows_51 rfl rfl ?_
    obtain ⟨v4, h5, h⟩ := Option.bind_eq_some_iff.mp h
    refine WP.zaldQ dX10_shows_52 rfl h5 ?_
    obtain ⟨g6, h7, h⟩ := Option.bind_eq_some_iff.mp h
    obtain ⟨rfl, h7⟩ := gdB_ok h7
    cases h
    exact WP.zret dX10_shows_53 h7 ⟨rfl, rfl⟩
  · rw [if_neg c1] at h
    refine WP.aload_n dX10_shows_10 rfl rfl ?_
    refine WP.getR (j := 14) dX10_shows_11 rfl rfl in_X10 (by decide) wd_706 rfl ?_
    refine WP.iload_n dX10_shows_14 rfl rfl ?_
    obtain ⟨v8, h9, h⟩ := Option.bind_eq_some_iff.mp h
    refine WP.ialdQ dX10_shows_15 rfl h9 ?_
    refine WP.istore_n dX10_shows_16 rfl (by decide) rfl rfl ?_
    refine WP.aload_n dX10_shows_17 rfl rfl ?_
    refine WP.getR (j := 12) dX10_shows_18 rfl rfl in_X10 (by decide) wd_704 rfl ?_
    refine WP.iload_n dX10_shows_21 rfl rfl ?_
    obtain ⟨v10, h11, h⟩ := Option.bind_eq_some_iff.mp h
    refine WP.ialdQ dX10_shows_22 rfl h11 ?_
    refine WP.iload_n dX10_shows_23 rfl rfl ?_
    refine WP.ishr dX10_shows_24 ?_
    refine WP.iconst (v := 1) dX10_shows_25 (by decide) ?_
    refine WP.iand dX10_shows_26 ?_
    refine WP.iconst (v := 1) dX10_shows_27 (by decide) ?_
    refine WP.icmp_ne (tgt := 36) dX10_shows_28 (by decide) (fun c12 => ?_) (fun c12 => ?_)
    · rw [if_neg c12] at h
      refine WP.iinc (v := (q.2.1 + 1)) dX10_shows_36 rfl rfl (by decide) rfl rfl ?_
      refine WP.goto (tgt := 2) dX10_shows_39 (by decide) ?_
      refine WP.fgt [true, true, true, false] rfl ?_
      exact hK2 q.1 (q.2.1 + 1) q.2.2 _ h
    · rw [if_pos c12] at h
      refine WP.aload_n dX10_shows_31 rfl rfl ?_
      refine WP.iload_n dX10_shows_32 rfl rfl ?_
      obtain ⟨M14, h13, h⟩ := Option.bind_eq_some_iff.mp h
      refine WP.callVV [.int v8] dX10_shows_33 lk_X10_176 rfl rfl rfl (Nat.le_of_ble_eq_true rfl) (by decide) (Nat.le_of_ble_eq_true rfl) rfl (TX10_judge h13) ?_
      refine WP.iinc (v := (q.2.1 + 1)) dX10_shows_36 rfl rfl (by decide) rfl rfl ?_
      refine WP.goto (tgt := 2) dX10_shows_39 (by decide) ?_
      refine WP.fgt [true, true, true, false] rfl ?_
      exact hK2 q.1 (q.2.1 + 1) M14 _ h
theorem uX10_shows_2 {l : Launch} {G : va_G} {tc : Nat → ClassId} {D : Nat → Nat} {N : Nat} (nn : Nat) : ∀ (z0 : Int32) (z1 : Int32) (z2 : Mm) (R : (Int32 × Mm)), lp (BX10_shows_2 N) nn (z0, z1, z2) = some R → WP l G tc D lay (fun _ => True) RX10 cX10_shows 4 rX10_shows (.code yX10_shows cX10_shows 4 (some .boolean)) 2 [some (.ref 69), some (.int z0), some (.int z1), none] [] z2 (RetQ cX10_shows (some .boolean) (RQI R.1 R.2)) := fun z0 z1 z2 R hh => tX10_shows_2  nn (z0, z1, z2) R hh
set_option maxRecDepth 20000 in
theorem TX10_shows {l : Launch} {G : va_G} {tc : Nat → ClassId} {D : Nat → Nat} {N : Nat} {x1 : Int32} {M : Mm} {R : (Int32 × Mm)} (h : FX10_shows N x1 M = some R) : WP l G tc D lay (fun _ => True) yX10_shows.cls cX10_shows 4 rX10_shows (.code yX10_shows cX10_shows 4 (some .boolean)) 0 (entL 4 [.ref 69, .int x1]) [] M (RetQ cX10_shows (some .boolean) (RQI R.1 R.2)) := by
  show WP l G tc D lay (fun _ => True) RX10 cX10_shows 4 rX10_shows (.code yX10_shows cX10_shows 4 (some .boolean)) 0 [some (.ref 69), some (.int x1), none, none] [] M (RetQ cX10_shows (some .boolean) (RQI R.1 R.2))
  unfold FX10_shows at h
  refine WP.iconst (v := 0) dX10_shows_0 (by decide) ?_
  refine WP.istore_n dX10_shows_1 rfl (by decide) rfl rfl ?_
  refine WP.fgt [true, true, true, false] rfl ?_
  exact uX10_shows_2  N x1 0 M _ h
/-! X10_reach -/
def rX10_reach : Room := { frames := 6, cells := 0, slots := 0, locals := 136 }
def BX10_reach_196 (N : Nat) (K196 : Int32 × Int32 × Mm → Option (Int32 × Mm)) (q : Int32 × Int32 × Mm) : Option (Int32 × Mm) :=
  (if 12 ≤ q.2.1 then (if q.1 = 0 then some (0, q.2.2) else some (1, q.2.2)) else (if q.1 = 0 then (wrI q.2.2 95 12 q.2.1 (-2000000000)).bind fun M4 => K196 (q.1, (q.2.1 + 1), M4) else (rdI q.2.2 83 12 q.2.1).bind fun v6 => (wrI q.2.2 95 12 q.2.1 v6).bind fun M8 => K196 (q.1, (q.2.1 + 1), M8)))
def BX10_reach_160 (N : Nat) (K160 : Int32 × Int32 × Int32 × Mm → Option (Int32 × Mm)) (q : Int32 × Int32 × Int32 × Mm) : Option (Int32 × Mm) :=
  (if q.2.2.1 = 0 then (FX10_goesOn N q.2.1 q.2.2.2).bind fun p3 => (if p3.1 = 0 then lp (BX10_reach_196 N) N (q.2.2.1, 0, p3.2) else (wrF p3.2 69 31 ((p3.2.1 69 31) + 1)).bind fun M5 => (FX10_shows N q.1 M5).bind fun p8 => K160 (q.1, q.2.1, p8.1, p8.2)) else lp (BX10_reach_196 N) N (q.2.2.1, 0, q.2.2.2))
def BX10_reach_117 (N : Nat) (K117 : Int32 × Int32 × Int32 × Mm → Option (Int32 × Mm)) (q : Int32 × Int32 × Int32 × Mm) : Option (Int32 × Mm) :=
  (if 12 ≤ q.2.2.1 then (wrF q.2.2.2 69 31 1).bind fun M2 => (FX10_shows N q.1 M2).bind fun p5 => lp (BX10_reach_160 N) N (q.1, q.2.1, p5.1, p5.2) else (wrI q.2.2.2 83 12 q.2.2.1 (-2000000000)).bind fun M6 => (wrI M6 86 12 q.2.2.1 (-2000000000)).bind fun M8 => K117 (q.1, q.2.1, (q.2.2.1 + 1), M8))
def BX10_reach_21 (N : Nat) (K21 : Int32 × Int32 × Int64 × Int32 × Mm → Option (Int32 × Mm)) (q : Int32 × Int32 × Int64 × Int32 × Mm) : Option (Int32 × Mm) :=
  (if (q.2.2.2.2.1 69 0) ≤ q.2.2.2.1 then (if (lg_cmp q.2.2.1 20000) ≤ 0 then lp (BX10_reach_117 N) N (q.1, q.2.1, 0, q.2.2.2.2) else some ((-6), q.2.2.2.2)) else (rdI q.2.2.2.2 79 12 q.1).bind fun v3 => (if ((v3 >>> (q.2.2.2.1 &&& 31)) &&& 1) = 1 then (rdI q.2.2.2.2 72 12 q.2.2.2.1).bind fun v6 => (if v6 = 0 then (if (lg_cmp q.2.2.1 20000) ≤ 0 then (rdI q.2.2.2.2 71 12 q.2.2.2.1).bind fun v10 => (rdI q.2.2.2.2 70 12 q.2.2.2.1).bind fun v12 => K21 (q.1, (q.2.1 ||| ((1 : Int32) <<< (q.2.2.2.1 &&& 31))), (q.2.2.1 * ((v10 - v12).toInt64 + 2)), (q.2.2.2.1 + 1), q.2.2.2.2) else K21 (q.1, (q.2.1 ||| ((1 : Int32) <<< (q.2.2.2.1 &&& 31))), q.2.2.1, (q.2.2.2.1 + 1), q.2.2.2.2)) else K21 (q.1, q.2.1, q.2.2.1, (q.2.2.2.1 + 1), q.2.2.2.2)) else K21 (q.1, q.2.1, q.2.2.1, (q.2.2.2.1 + 1), q.2.2.2.2)))
def FX10_reach (N : Nat) (x1 : Int32) (M : Mm) : Option (Int32 × Mm) :=
  (FX10_noField x1 M).bind fun r2 => (if r2 = 0 then (FX10_arrange N M).bind fun M5 => lp (BX10_reach_21 N) N (x1, 0, 1, 0, M5) else some ((-1), M))
theorem eBX10_reach_196 (N : Nat) (K196 : Int32 × Int32 × Mm → Option (Int32 × Mm)) (q : Int32 × Int32 × Mm) : BX10_reach_196 N K196 q = (if 12 ≤ q.2.1 then (if q.1 = 0 then some (0, q.2.2) else some (1, q.2.2)) else (if q.1 = 0 then (wrI q.2.2 95 12 q.2.1 (-2000000000)).bind fun M4 => K196 (q.1, (q.2.1 + 1), M4) else (rdI q.2.2 83 12 q.2.1).bind fun v6 => (wrI q.2.2 95 12 q.2.1 v6).bind fun M8 => K196 (q.1, (q.2.1 + 1), M8))) := rfl
theorem eBX10_reach_160 (N : Nat) (K160 : Int32 × Int32 × Int32 × Mm → Option (Int32 × Mm)) (q : Int32 × Int32 × Int32 × Mm) : BX10_reach_160 N K160 q = (if q.2.2.1 = 0 then (FX10_goesOn N q.2.1 q.2.2.2).bind fun p3 => (if p3.1 = 0 then lp (BX10_reach_196 N) N (q.2.2.1, 0, p3.2) else (wrF p3.2 69 31 ((p3.2.1 69 31) + 1)).bind fun M5 => (FX10_shows N q.1 M5).bind fun p8 => K160 (q.1, q.2.1, p8.1, p8.2)) else lp (BX10_reach_196 N) N (q.2.2.1, 0, q.2.2.2)) := rfl
theorem eBX10_reach_117 (N : Nat) (K117 : Int32 × Int32 × Int32 × Mm → Option (Int32 × Mm)) (q : Int32 × Int32 × Int32 × Mm) : BX10_reach_117 N K117 q = (if 12 ≤ q.2.2.1 then (wrF q.2.2.2 69 31 1).bind fun M2 => (FX10_shows N q.1 M2).bind fun p5 => lp (BX10_reach_160 N) N (q.1, q.2.1, p5.1, p5.2) else (wrI q.2.2.2 83 12 q.2.2.1 (-2000000000)).bind fun M6 => (wrI M6 86 12 q.2.2.1 (-2000000000)).bind fun M8 => K117 (q.1, q.2.1, (q.2.2.1 + 1), M8)) := rfl
theorem eBX10_reach_21 (N : Nat) (K21 : Int32 × Int32 × Int64 × Int32 × Mm → Option (Int32 × Mm)) (q : Int32 × Int32 × Int64 × Int32 × Mm) : BX10_reach_21 N K21 q = (if (q.2.2.2.2.1 69 0) ≤ q.2.2.2.1 then (if (lg_cmp q.2.2.1 20000) ≤ 0 then lp (BX10_reach_117 N) N (q.1, q.2.1, 0, q.2.2.2.2) else some ((-6), q.2.2.2.2)) else (rdI q.2.2.2.2 79 12 q.1).bind fun v3 => (if ((v3 >>> (q.2.2.2.1 &&& 31)) &&& 1) = 1 then (rdI q.2.2.2.2 72 12 q.2.2.2.1).bind fun v6 => (if v6 = 0 then (if (lg_cmp q.2.2.1 20000) ≤ 0 then (rdI q.2.2.2.2 71 12 q.2.2.2.1).bind fun v10 => (rdI q.2.2.2.2 70 12 q.2.2.2.1).bind fun v12 => K21 (q.1, (q.2.1 ||| ((1 : Int32) <<< (q.2.2.2.1 &&& 31))), (q.2.2.1 * ((v10 - v12).toInt64 + 2)), (q.2.2.2.1 + 1), q.2.2.2.2) else K21 (q.1, (q.2.1 ||| ((1 : Int32) <<< (q.2.2.2.1 &&& 31))), q.2.2.1, (q.2.2.2.1 + 1), q.2.2.2.2)) else K21 (q.1, q.2.1, q.2.2.1, (q.2.2.2.1 + 1), q.2.2.2.2)) else K21 (q.1, q.2.1, q.2.2.1, (q.2.2.2.1 + 1), q.2.2.2.2))) := rfl
theorem eFX10_reach (N : Nat) (x1 : Int32) (M : Mm) : FX10_reach N x1 M = (FX10_noField x1 M).bind fun r2 => (if r2 = 0 then (FX10_arrange N M).bind fun M5 => lp (BX10_reach_21 N) N (x1, 0, 1, 0, M5) else some ((-1), M)) := rfl
set_option maxRecDepth 20000 in
theorem tX10_reach_196 {l : Launch} {G : va_G} {tc : Nat → ClassId} {D : Nat → Nat} {N : Nat} : ∀ (nn : Nat) (q : Int32 × Int32 × Mm) (R : (Int32 × Mm)), lp (BX10_reach_196 N) nn q = some R → WP l G tc D lay (fun _ => True) RX10 cX10_reach 7 rX10_reach (.code yX10_reach cX10_reach 7 (some .int)) 196 [some (.ref 69), none, none, none, none, some (.int q.1), some (.int q.2.1)] [] q.2.2 (RetQ cX10_reach (some .int) (RQI R.1 R.2)) := by
  refine lp_ind (fun K196 hK196q q R h => ?_)
  have hK196 : ∀ (z0 : Int32) (z1 : Int32) (z2 : Mm) (R : (Int32 × Mm)), K196 (z0, z1, z2) = some R → WP l G tc D lay (fun _ => True) RX10 cX10_reach 7 rX10_reach (.code yX10_reach cX10_reach 7 (some .int)) 196 [some (.ref 69), none, none, none, none, some (.int z0), some (.int z1)] [] z2 (RetQ cX10_reach (some .int) (RQI R.1 R.2)) := fun z0 z1 z2 R hh => hK196q (z0, z1, z2) R hh
  unfold BX10_reach_196 at h
  refine WP.iload dX10_reach_196 rfl ?_
  refine WP.bipush (v := 12) dX10_reach_198 (by decide) ?_
  refine WP.icmp_ge (tgt := 233) dX10_reach_200 (by decide) (fun c1 => ?_) (fun c1 => ?_)
  · rw [if_pos c1] at h
    refine WP.iload dX10_reach_233 rfl ?_
    refine WP.if_eq (tgt := 242) dX10_reach_235 (by decide) (fun c2 => ?_) (fun c2 => ?_)
    · rw [if_pos c2] at h
      refine WP.iconst (v := 0) dX10_reach_242 (by decide) ?_
      cases h
      exact WP.iret dX10_reach_243 ⟨rfl, rfl⟩
    · rw [if_neg c2] at h
      refine WP.iconst (v := 1) dX10_reach_238 (by decide) ?_
      refine WP.goto (tgt := 243) dX10_reach_239 (by decide) ?_
      cases h
      exact WP.iret dX10_reach_243 ⟨rfl, rfl⟩
  · rw [if_neg c1] at h
    refine WP.aload_n dX10_reach_203 rfl rfl ?_
    refine WP.getR (j := 32) dX10_reach_204 rfl rfl in_X10 (by decide) wd_724 rfl ?_
    refine WP.iload dX10_reach_207 rfl ?_
    refine WP.iload dX10_reach_209 rfl ?_
    refine WP.if_eq (tgt := 224) dX10_reach_211 (by decide) (fun c3 => ?_) (fun c3 => ?_)
    · rw [if_pos c3] at h
      refine WP.ldc (v := (-2000000000)) dX10_reach_224 wd_691 ?_
      obtain ⟨M4, h5, h⟩ := Option.bind_eq_some_iff.mp h
      refine WP.iastQ dX10_reach_226 rfl h5 ?_
      refine WP.iinc (v := (q.2.1 + 1)) dX10_reach_227 rfl rfl (by decide) rfl rfl ?_
      refine WP.goto (tgt := 196) dX10_reach_230 (by decide) ?_
      refine WP.fgt [true, false, false, false, false, true, true] rfl ?_
      exact hK196 q.1 (q.2.1 + 1) M4 _ h
    · rw [if_neg c3] at h
      refine WP.aload_n dX10_reach_214 rfl rfl ?_
      refine WP.getR (j := 17) dX10_reach_215 rfl rfl in_X10 (by decide) wd_709 rfl ?_
      refine WP.iload dX10_reach_218 rfl ?_
      obtain ⟨v6, h7, h⟩ := Option.bind_eq_some_iff.mp h
      refine WP.ialdQ dX10_reach_220 rfl h7 ?_
      refine WP.goto (tgt := 226) dX10_reach_221 (by decide) ?_
      obtain ⟨M8, h9, h⟩ := Option.bind_eq_some_iff.mp h
      refine WP.iastQ dX10_reach_226 rfl h9 ?_
      refine WP.iinc (v := (q.2.1 + 1)) dX10_reach_227 rfl rfl (by decide) rfl rfl ?_
      refine WP.goto (tgt := 196) dX10_reach_230 (by decide) ?_
      refine WP.fgt [true, false, false, false, false, true, true] rfl ?_
      exact hK196 q.1 (q.2.1 + 1) M8 _ h
theorem uX10_reach_196 {l : Launch} {G : va_G} {tc : Nat → ClassId} {D : Nat → Nat} {N : Nat} (nn : Nat) : ∀ (z0 : Int32) (z1 : Int32) (z2 : Mm) (R : (Int32 × Mm)), lp (BX10_reach_196 N) nn (z0, z1, z2) = some R → WP l G tc D lay (fun _ => True) RX10 cX10_reach 7 rX10_reach (.code yX10_reach cX10_reach 7 (some .int)) 196 [some (.ref 69), none, none, none, none, some (.int z0), some (.int z1)] [] z2 (RetQ cX10_reach (some .int) (RQI R.1 R.2)) := fun z0 z1 z2 R hh => tX10_reach_196  nn (z0, z1, z2) R hh
set_option maxRecDepth 20000 in
theorem tX10_reach_160 {l : Launch} {G : va_G} {tc : Nat → ClassId} {D : Nat → Nat} {N : Nat} : ∀ (nn : Nat) (q : Int32 × Int32 × Int32 × Mm) (R : (Int32 × Mm)), lp (BX10_reach_160 N) nn q = some R → WP l G tc D lay (fun _ => True) RX10 cX10_reach 7 rX10_reach (.code yX10_reach cX10_reach 7 (some .int)) 160 [some (.ref 69), some (.int q.1), some (.int q.2.1), none, none, some (.int q.2.2.1), none] [] q.2.2.2 (RetQ cX10_reach (some .int) (RQI R.1 R.2)) := by
  refine lp_ind (fun K160 hK160q q R h => ?_)
  have hK160 : ∀ (z0 : Int32) (z1 : Int32) (z2 : Int32) (z3 : Mm) (R : (Int32 × Mm)), K160 (z0, z1, z2, z3) = some R → WP l G tc D lay (fun _ => True) RX10 cX10_reach 7 rX10_reach (.code yX10_reach cX10_reach 7 (some .int)) 160 [some (.ref 69), some (.int z0), some (.int z1), none, none, some (.int z2), none] [] z3 (RetQ cX10_reach (some .int) (RQI R.1 R.2)) := fun z0 z1 z2 z3 R hh => hK160q (z0, z1, z2, z3) R hh
  unfold BX10_reach_160 at h
  refine WP.iload dX10_reach_160 rfl ?_
  refine WP.if_ne (tgt := 193) dX10_reach_162 (by decide) (fun c1 => ?_) (fun c1 => ?_)
  · rw [if_neg c1] at h
    refine WP.iconst (v := 0) dX10_reach_193 (by decide) ?_
    refine WP.istore dX10_reach_194 (by decide) rfl rfl ?_
    refine WP.fgt [true, false, false, false, false, true, true] rfl ?_
    exact uX10_reach_196  N q.2.2.1 0 q.2.2.2 _ h
  · rw [if_pos c1] at h
    refine WP.aload_n dX10_reach_165 rfl rfl ?_
    refine WP.iload_n dX10_reach_166 rfl rfl ?_
    obtain ⟨p3, h2, h⟩ := Option.bind_eq_some_iff.mp h
    refine WP.callVI [.int q.2.1] dX10_reach_167 lk_X10_219 rfl rfl rfl (Nat.le_of_ble_eq_true rfl) (by decide) (Nat.le_of_ble_eq_true rfl) rfl (TX10_goesOn h2) ?_
    refine WP.if_eq (tgt := 193) dX10_reach_170 (by decide) (fun c4 => ?_) (fun c4 => ?_)
    · rw [if_pos c4] at h
      refine WP.iconst (v := 0) dX10_reach_193 (by decide) ?_
      refine WP.istore dX10_reach_194 (by decide) rfl rfl ?_
      refine WP.fgt [true, false, false, false, false, true, true] rfl ?_
      exact uX10_reach_196  N q.2.2.1 0 p3.2 _ h
    · rw [if_neg c4] at h
      refine WP.aload_n dX10_reach_173 rfl rfl ?_
      refine WP.dup dX10_reach_174 rfl ?_
      refine WP.getI (j := 31) dX10_reach_175 rfl rfl in_X10 (by decide) wd_723 rfl ?_
      refine WP.iconst (v := 1) dX10_reach_178 (by decide) ?_
      refine WP.iadd dX10_reach_179 ?_
      obtain ⟨M5, h6, h⟩ := Option.bind_eq_some_iff.mp h
      refine WP.putF (j := 31) (ty := .int) dX10_reach_180 rfl rfl in_X10 tyX10_ok nmX10 (by decide) wd_723 rfl (by decide +kernel) rfl rfl rfl h6 ?_
      refine WP.aload_n dX10_reach_183 rfl rfl ?_
      refine WP.iload_n dX10_reach_184 rfl rfl ?_
      obtain ⟨p8, h7, h⟩ := Option.bind_eq_some_iff.mp h
      refine WP.callVI [.int q.1] dX10_reach_185 lk_X10_216 rfl rfl rfl (Nat.le_of_ble_eq_true rfl) (by decide) (Nat.le_of_ble_eq_true rfl) rfl (TX10_shows h7) ?_
      refine WP.istore dX10_reach_188 (by decide) rfl rfl ?_
      refine WP.goto (tgt := 160) dX10_reach_190 (by decide) ?_
      refine WP.fgt [true, true, true, false, false, true, false] rfl ?_
      exact hK160 q.1 q.2.1 p8.1 p8.2 _ h
theorem uX10_reach_160 {l : Launch} {G : va_G} {tc : Nat → ClassId} {D : Nat → Nat} {N : Nat} (nn : Nat) : ∀ (z0 : Int32) (z1 : Int32) (z2 : Int32) (z3 : Mm) (R : (Int32 × Mm)), lp (BX10_reach_160 N) nn (z0, z1, z2, z3) = some R → WP l G tc D lay (fun _ => True) RX10 cX10_reach 7 rX10_reach (.code yX10_reach cX10_reach 7 (some .int)) 160 [some (.ref 69), some (.int z0), some (.int z1), none, none, some (.int z2), none] [] z3 (RetQ cX10_reach (some .int) (RQI R.1 R.2)) := fun z0 z1 z2 z3 R hh => tX10_reach_160  nn (z0, z1, z2, z3) R hh
set_option maxRecDepth 20000 in
theorem tX10_reach_117 {l : Launch} {G : va_G} {tc : Nat → ClassId} {D : Nat → Nat} {N : Nat} : ∀ (nn : Nat) (q : Int32 × Int32 × Int32 × Mm) (R : (Int32 × Mm)), lp (BX10_reach_117 N) nn q = some R → WP l G tc D lay (fun _ => True) RX10 cX10_reach 7 rX10_reach (.code yX10_reach cX10_reach 7 (some .int)) 117 [some (.ref 69), some (.int q.1), some (.int q.2.1), none, none, some (.int q.2.2.1), none] [] q.2.2.2 (RetQ cX10_reach (some .int) (RQI R.1 R.2)) := by
  refine lp_ind (fun K117 hK117q q R h => ?_)
  have hK117 : ∀ (z0 : Int32) (z1 : Int32) (z2 : Int32) (z3 : Mm) (R : (Int32 × Mm)), K117 (z0, z1, z2, z3) = some R → WP l G tc D lay (fun _ => True) RX10 cX10_reach 7 rX10_reach (.code yX10_reach cX10_reach 7 (some .int)) 117 [some (.ref 69), some (.int z0), some (.int z1), none, none, some (.int z2), none] [] z3 (RetQ cX10_reach (some .int) (RQI R.1 R.2)) := fun z0 z1 z2 z3 R hh => hK117q (z0, z1, z2, z3) R hh
  unfold BX10_reach_117 at h
  refine WP.iload dX10_reach_117 rfl ?_
  refine WP.bipush (v := 12) dX10_reach_119 (by decide) ?_
  refine WP.icmp_ge (tgt := 148) dX10_reach_121 (by decide) (fun c1 => ?_) (fun c1 => ?_)
  · rw [if_pos c1] at h
    refine WP.aload_n dX10_reach_148 rfl rfl ?_
    refine WP.iconst (v := 1) dX10_reach_149 (by decide) ?_
    obtain ⟨M2, h3, h⟩ := Option.bind_eq_some_iff.mp h
    refine WP.putF (j := 31) (ty := .int) dX10_reach_150 rfl rfl in_X10 tyX10_ok nmX10 (by decide) wd_723 rfl (by decide +kernel) rfl rfl rfl h3 ?_
    refine WP.aload_n dX10_reach_153 rfl rfl ?_
    refine WP.iload_n dX10_reach_154 rfl rfl ?_
    obtain ⟨p5, h4, h⟩ := Option.bind_eq_some_iff.mp h
    refine WP.callVI [.int q.1] dX10_reach_155 lk_X10_216 rfl rfl rfl (Nat.le_of_ble_eq_true rfl) (by decide) (Nat.le_of_ble_eq_true rfl) rfl (TX10_shows h4) ?_
    refine WP.istore dX10_reach_158 (by decide) rfl rfl ?_
    refine WP.fgt [true, true, true, false, false, true, false] rfl ?_
    exact uX10_reach_160  N q.1 q.2.1 p5.1 p5.2 _ h
  · rw [if_neg c1] at h
    refine WP.aload_n dX10_reach_124 rfl rfl ?_
    refine WP.getR (j := 17) dX10_reach_125 rfl rfl in_X10 (by decide) wd_709 rfl ?_
    refine WP.iload dX10_reach_128 rfl ?_
    refine WP.ldc (v := (-2000000000)) dX10_reach_130 wd_691 ?_
    obtain ⟨M6, h7, h⟩ := Option.bind_eq_some_iff.mp h
    refine WP.iastQ dX10_reach_132 rfl h7 ?_
    refine WP.aload_n dX10_reach_133 rfl rfl ?_
    refine WP.getR (j := 20) dX10_reach_134 rfl rfl in_X10 (by decide) wd_712 rfl ?_
    refine WP.iload dX10_reach_137 rfl ?_
    refine WP.ldc (v := (-2000000000)) dX10_reach_139 wd_691 ?_
    obtain ⟨M8, h9, h⟩ := Option.bind_eq_some_iff.mp h
    refine WP.iastQ dX10_reach_141 rfl h9 ?_
    refine WP.iinc (v := (q.2.2.1 + 1)) dX10_reach_142 rfl rfl (by decide) rfl rfl ?_
    refine WP.goto (tgt := 117) dX10_reach_145 (by decide) ?_
    refine WP.fgt [true, true, true, false, false, true, false] rfl ?_
    exact hK117 q.1 q.2.1 (q.2.2.1 + 1) M8 _ h
theorem uX10_reach_117 {l : Launch} {G : va_G} {tc : Nat → ClassId} {D : Nat → Nat} {N : Nat} (nn : Nat) : ∀ (z0 : Int32) (z1 : Int32) (z2 : Int32) (z3 : Mm) (R : (Int32 × Mm)), lp (BX10_reach_117 N) nn (z0, z1, z2, z3) = some R → WP l G tc D lay (fun _ => True) RX10 cX10_reach 7 rX10_reach (.code yX10_reach cX10_reach 7 (some .int)) 117 [some (.ref 69), some (.int z0), some (.int z1), none, none, some (.int z2), none] [] z3 (RetQ cX10_reach (some .int) (RQI R.1 R.2)) := fun z0 z1 z2 z3 R hh => tX10_reach_117  nn (z0, z1, z2, z3) R hh
set_option maxRecDepth 20000 in
theorem tX10_reach_21 {l : Launch} {G : va_G} {tc : Nat → ClassId} {D : Nat → Nat} {N : Nat} : ∀ (nn : Nat) (q : Int32 × Int32 × Int64 × Int32 × Mm) (R : (Int32 × Mm)), lp (BX10_reach_21 N) nn q = some R → WP l G tc D lay (fun _ => True) RX10 cX10_reach 7 rX10_reach (.code yX10_reach cX10_reach 7 (some .int)) 21 [some (.ref 69), some (.int q.1), some (.int q.2.1), some (.long q.2.2.1), none, some (.int q.2.2.2.1), none] [] q.2.2.2.2 (RetQ cX10_reach (some .int) (RQI R.1 R.2)) := by
  refine lp_ind (fun K21 hK21q q R h => ?_)
  have hK21 : ∀ (z0 : Int32) (z1 : Int32) (z2 : Int64) (z3 : Int32) (z4 : Mm) (R : (Int32 × Mm)), K21 (z0, z1, z2, z3, z4) = some R → WP l G tc D lay (fun _ => True) RX10 cX10_reach 7 rX10_reach (.code yX10_reach cX10_reach 7 (some .int)) 21 [some (.ref 69), some (.int z0), some (.int z1), some (.long z2), none, some (.int z3), none] [] z4 (RetQ cX10_reach (some .int) (RQI R.1 R.2)) := fun z0 z1 z2 z3 z4 R hh => hK21q (z0, z1, z2, z3, z4) R hh
  unfold BX10_reach_21 at h
  refine WP.iload dX10_reach_21 rfl ?_
  refine WP.aload_n dX10_reach_23 rfl rfl ?_
  refine WP.getI (j := 0) dX10_reach_24 rfl rfl in_X10 (by decide) wd_692 rfl ?_
  refine WP.icmp_ge (tgt := 103) dX10_reach_27 (by decide) (fun c1 => ?_) (fun c1 => ?_)
  · rw [if_pos c1] at h
    refine WP.lload_n dX10_reach_103 rfl rfl ?_
    refine WP.ldc2 (v := 20000) dX10_reach_104 wd_982 ?_
    refine WP.lcmp dX10_reach_107 ?_
    refine WP.if_le (tgt := 114) dX10_reach_108 (by decide) (fun c2 => ?_) (fun c2 => ?_)
    · rw [if_pos c2] at h
      refine WP.iconst (v := 0) dX10_reach_114 (by decide) ?_
      refine WP.istore dX10_reach_115 (by decide) rfl rfl ?_
      refine WP.fgt [true, true, true, false, false, true, false] rfl ?_
      exact uX10_reach_117  N q.1 q.2.1 0 q.2.2.2.2 _ h
    · rw [if_neg c2] at h
      refine WP.bipush (v := (-6)) dX10_reach_111 (by decide) ?_
      cases h
      exact WP.iret dX10_reach_113 ⟨rfl, rfl⟩
  · rw [if_neg c1] at h
    refine WP.aload_n dX10_reach_30 rfl rfl ?_
    refine WP.getR (j := 12) dX10_reach_31 rfl rfl in_X10 (by decide) wd_704 rfl ?_
    refine WP.iload_n dX10_reach_34 rfl rfl ?_
    obtain ⟨v3, h4, h⟩ := Option.bind_eq_some_iff.mp h
    refine WP.ialdQ dX10_reach_35 rfl h4 ?_
    refine WP.iload dX10_reach_36 rfl ?_
    refine WP.ishr dX10_reach_38 ?_
    refine WP.iconst (v := 1) dX10_reach_39 (by decide) ?_
    refine WP.iand dX10_reach_40 ?_
    refine WP.iconst (v := 1) dX10_reach_41 (by decide) ?_
    refine WP.icmp_ne (tgt := 97) dX10_reach_42 (by decide) (fun c5 => ?_) (fun c5 => ?_)
    · rw [if_neg c5] at h
      refine WP.iinc (v := (q.2.2.2.1 + 1)) dX10_reach_97 rfl rfl (by decide) rfl rfl ?_
      refine WP.goto (tgt := 21) dX10_reach_100 (by decide) ?_
      refine WP.fgt [true, true, true, true, false, true, false] rfl ?_
      exact hK21 q.1 q.2.1 q.2.2.1 (q.2.2.2.1 + 1) q.2.2.2.2 _ h
    · rw [if_pos c5] at h
      refine WP.aload_n dX10_reach_45 rfl rfl ?_
      refine WP.getR (j := 3) dX10_reach_46 rfl rfl in_X10 (by decide) wd_695 rfl ?_
      refine WP.iload dX10_reach_49 rfl ?_
      obtain ⟨v6, h7, h⟩ := Option.bind_eq_some_iff.mp h
      refine WP.ialdQ dX10_reach_51 rfl h7 ?_
      refine WP.if_ne (tgt := 97) dX10_reach_52 (by decide) (fun c8 => ?_) (fun c8 => ?_)
      · rw [if_neg c8] at h
        refine WP.iinc (v := (q.2.2.2.1 + 1)) dX10_reach_97 rfl rfl (by decide) rfl rfl ?_
        refine WP.goto (tgt := 21) dX10_reach_100 (by decide) ?_
        refine WP.fgt [true, true, true, true, false, true, false] rfl ?_
        exact hK21 q.1 q.2.1 q.2.2.1 (q.2.2.2.1 + 1) q.2.2.2.2 _ h
      · rw [if_pos c8] at h
        refine WP.iload_n dX10_reach_55 rfl rfl ?_
        refine WP.iconst (v := 1) dX10_reach_56 (by decide) ?_
        refine WP.iload dX10_reach_57 rfl ?_
        refine WP.ishl dX10_reach_59 ?_
        refine WP.ior dX10_reach_60 ?_
        refine WP.istore_n dX10_reach_61 rfl (by decide) rfl rfl ?_
        refine WP.lload_n dX10_reach_62 rfl rfl ?_
        refine WP.ldc2 (v := 20000) dX10_reach_63 wd_982 ?_
        refine WP.lcmp dX10_reach_66 ?_
        refine WP.if_le (tgt := 74) dX10_reach_67 (by decide) (fun c9 => ?_) (fun c9 => ?_)
        · rw [if_pos c9] at h
          refine WP.lload_n dX10_reach_74 rfl rfl ?_
          refine WP.aload_n dX10_reach_75 rfl rfl ?_
          refine WP.getR (j := 2) dX10_reach_76 rfl rfl in_X10 (by decide) wd_694 rfl ?_
          refine WP.iload dX10_reach_79 rfl ?_
          obtain ⟨v10, h11, h⟩ := Option.bind_eq_some_iff.mp h
          refine WP.ialdQ dX10_reach_81 rfl h11 ?_
          refine WP.aload_n dX10_reach_82 rfl rfl ?_
          refine WP.getR (j := 1) dX10_reach_83 rfl rfl in_X10 (by decide) wd_693 rfl ?_
          refine WP.iload dX10_reach_86 rfl ?_
          obtain ⟨v12, h13, h⟩ := Option.bind_eq_some_iff.mp h
          refine WP.ialdQ dX10_reach_88 rfl h13 ?_
          refine WP.isub dX10_reach_89 ?_
          refine WP.i2l dX10_reach_90 ?_
          refine WP.ldc2 (v := 2) dX10_reach_91 wd_983 ?_
          refine WP.ladd dX10_reach_94 ?_
          refine WP.lmul dX10_reach_95 ?_
          refine WP.lstore_n dX10_reach_96 rfl (by decide) rfl rfl ?_
          refine WP.iinc (v := (q.2.2.2.1 + 1)) dX10_reach_97 rfl rfl (by decide) rfl rfl ?_
          refine WP.goto (tgt := 21) dX10_reach_100 (by decide) ?_
          refine WP.fgt [true, true, true, true, false, true, false] rfl ?_
          exact hK21 q.1 (q.2.1 ||| ((1 : Int32) <<< (q.2.2.2.1 &&& 31))) (q.2.2.1 * ((v10 - v12).toInt64 + 2)) (q.2.2.2.1 + 1) q.2.2.2.2 _ h
        · rw [if_neg c9] at h
          refine WP.lload_n dX10_reach_70 rfl rfl ?_
          refine WP.goto (tgt := 96) dX10_reach_71 (by decide) ?_
          refine WP.lstore_n dX10_reach_96 rfl (by decide) rfl rfl ?_
          refine WP.iinc (v := (q.2.2.2.1 + 1)) dX10_reach_97 rfl rfl (by decide) rfl rfl ?_
          refine WP.goto (tgt := 21) dX10_reach_100 (by decide) ?_
          refine WP.fgt [true, true, true, true, false, true, false] rfl ?_
          exact hK21 q.1 (q.2.1 ||| ((1 : Int32) <<< (q.2.2.2.1 &&& 31))) q.2.2.1 (q.2.2.2.1 + 1) q.2.2.2.2 _ h
theorem uX10_reach_21 {l : Launch} {G : va_G} {tc : Nat → ClassId} {D : Nat → Nat} {N : Nat} (nn : Nat) : ∀ (z0 : Int32) (z1 : Int32) (z2 : Int64) (z3 : Int32) (z4 : Mm) (R : (Int32 × Mm)), lp (BX10_reach_21 N) nn (z0, z1, z2, z3, z4) = some R → WP l G tc D lay (fun _ => True) RX10 cX10_reach 7 rX10_reach (.code yX10_reach cX10_reach 7 (some .int)) 21 [some (.ref 69), some (.int z0), some (.int z1), some (.long z2), none, some (.int z3), none] [] z4 (RetQ cX10_reach (some .int) (RQI R.1 R.2)) := fun z0 z1 z2 z3 z4 R hh => tX10_reach_21  nn (z0, z1, z2, z3, z4) R hh
set_option maxRecDepth 20000 in
theorem TX10_reach {l : Launch} {G : va_G} {tc : Nat → ClassId} {D : Nat → Nat} {N : Nat} {x1 : Int32} {M : Mm} {R : (Int32 × Mm)} (h : FX10_reach N x1 M = some R) : WP l G tc D lay (fun _ => True) yX10_reach.cls cX10_reach 7 rX10_reach (.code yX10_reach cX10_reach 7 (some .int)) 0 (entL 7 [.ref 69, .int x1]) [] M (RetQ cX10_reach (some .int) (RQI R.1 R.2)) := by
  show WP l G tc D lay (fun _ => True) RX10 cX10_reach 7 rX10_reach (.code yX10_reach cX10_reach 7 (some .int)) 0 [some (.ref 69), some (.int x1), none, none, none, none, none] [] M (RetQ cX10_reach (some .int) (RQI R.1 R.2))
  unfold FX10_reach at h
  refine WP.aload_n dX10_reach_0 rfl rfl ?_
  refine WP.iload_n dX10_reach_1 rfl rfl ?_
  obtain ⟨r2, h1, h⟩ := Option.bind_eq_some_iff.mp h
  refine WP.callVI [.int x1] dX10_reach_2 lk_X10_114 rfl rfl rfl (Nat.le_of_ble_eq_true rfl) (by decide) (Nat.le_of_ble_eq_true rfl) rfl (TX10_noField h1) ?_
  refine WP.if_eq (tgt := 10) dX10_reach_5 (by decide) (fun c3 => ?_) (fun c3 => ?_)
  · rw [if_pos c3] at h
    refine WP.aload_n dX10_reach_10 rfl rfl ?_
    obtain ⟨M5, h4, h⟩ := Option.bind_eq_some_iff.mp h
    refine WP.callVV [] dX10_reach_11 lk_X10_149 rfl rfl rfl (Nat.le_of_ble_eq_true rfl) (by decide) (Nat.le_of_ble_eq_true rfl) rfl (TX10_arrange h4) ?_
    refine WP.iconst (v := 0) dX10_reach_14 (by decide) ?_
    refine WP.istore_n dX10_reach_15 rfl (by decide) rfl rfl ?_
    refine WP.lconst (v := 1) dX10_reach_16 (by decide) ?_
    refine WP.lstore_n dX10_reach_17 rfl (by decide) rfl rfl ?_
    refine WP.iconst (v := 0) dX10_reach_18 (by decide) ?_
    refine WP.istore dX10_reach_19 (by decide) rfl rfl ?_
    refine WP.fgt [true, true, true, true, false, true, false] rfl ?_
    exact uX10_reach_21  N x1 0 1 0 M5 _ h
  · rw [if_neg c3] at h
    refine WP.iconst (v := (-1)) dX10_reach_8 (by decide) ?_
    cases h
    exact WP.iret dX10_reach_9 ⟨rfl, rfl⟩
/-! X10_found -/
def rX10_found : Room := { frames := 2, cells := 0, slots := 0, locals := 43 }
def FX10_found (x1 : Int32) (M : Mm) : Option Int32 :=
  (FX10_noField x1 M).bind fun r2 => (if r2 = 0 then (rdI M 95 12 x1).bind fun v4 => some v4 else some (-2000000000))
theorem eFX10_found (x1 : Int32) (M : Mm) : FX10_found x1 M = (FX10_noField x1 M).bind fun r2 => (if r2 = 0 then (rdI M 95 12 x1).bind fun v4 => some v4 else some (-2000000000)) := rfl
set_option maxRecDepth 20000 in
theorem TX10_found {l : Launch} {G : va_G} {tc : Nat → ClassId} {D : Nat → Nat} {x1 : Int32} {M : Mm} {R : Int32} (h : FX10_found x1 M = some R) : WP l G tc D lay (fun _ => True) yX10_found.cls cX10_found 2 rX10_found (.code yX10_found cX10_found 2 (some .int)) 0 (entL 2 [.ref 69, .int x1]) [] M (RetQ cX10_found (some .int) (RQI R M)) := by
  show WP l G tc D lay (fun _ => True) RX10 cX10_found 2 rX10_found (.code yX10_found cX10_found 2 (some .int)) 0 [some (.ref 69), some (.int x1)] [] M (RetQ cX10_found (some .int) (RQI R M))
  unfold FX10_found at h
  refine WP.aload_n dX10_found_0 rfl rfl ?_
  refine WP.iload_n dX10_found_1 rfl rfl ?_
  obtain ⟨r2, h1, h⟩ := Option.bind_eq_some_iff.mp h
  refine WP.callVI [.int x1] dX10_found_2 lk_X10_114 rfl rfl rfl (Nat.le_of_ble_eq_true rfl) (by decide) (Nat.le_of_ble_eq_true rfl) rfl (TX10_noField h1) ?_
  refine WP.if_eq (tgt := 13) dX10_found_5 (by decide) (fun c3 => ?_) (fun c3 => ?_)
  · rw [if_pos c3] at h
    refine WP.aload_n dX10_found_13 rfl rfl ?_
    refine WP.getR (j := 32) dX10_found_14 rfl rfl in_X10 (by decide) wd_724 rfl ?_
    refine WP.iload_n dX10_found_17 rfl rfl ?_
    obtain ⟨v4, h5, h⟩ := Option.bind_eq_some_iff.mp h
    refine WP.ialdQ dX10_found_18 rfl h5 ?_
    cases h
    exact WP.iret dX10_found_19 ⟨rfl, rfl⟩
  · rw [if_neg c3] at h
    refine WP.ldc (v := (-2000000000)) dX10_found_8 wd_691 ?_
    refine WP.goto (tgt := 19) dX10_found_10 (by decide) ?_
    cases h
    exact WP.iret dX10_found_19 ⟨rfl, rfl⟩
/-! X10_tried -/
def rX10_tried : Room := { frames := 0, cells := 0, slots := 0, locals := 0 }
def FX10_tried (M : Mm) : Option Int32 :=
  some (M.1 69 31)
theorem eFX10_tried (M : Mm) : FX10_tried M = some (M.1 69 31) := rfl
set_option maxRecDepth 20000 in
theorem TX10_tried {l : Launch} {G : va_G} {tc : Nat → ClassId} {D : Nat → Nat} {M : Mm} {R : Int32} (h : FX10_tried M = some R) : WP l G tc D lay (fun _ => True) yX10_tried.cls cX10_tried 1 rX10_tried (.code yX10_tried cX10_tried 1 (some .int)) 0 (entL 1 [.ref 69]) [] M (RetQ cX10_tried (some .int) (RQI R M)) := by
  show WP l G tc D lay (fun _ => True) RX10 cX10_tried 1 rX10_tried (.code yX10_tried cX10_tried 1 (some .int)) 0 [some (.ref 69)] [] M (RetQ cX10_tried (some .int) (RQI R M))
  unfold FX10_tried at h
  refine WP.aload_n dX10_tried_0 rfl rfl ?_
  refine WP.getI (j := 31) dX10_tried_1 rfl rfl in_X10 (by decide) wd_723 rfl ?_
  cases h
  exact WP.iret dX10_tried_4 ⟨rfl, rfl⟩
/-! X10_asked -/
def rX10_asked : Room := { frames := 0, cells := 0, slots := 0, locals := 0 }
def BX10_asked_4 (N : Nat) (M : Mm) (K4 : Int32 × Int32 → Option Int32) (q : Int32 × Int32) : Option Int32 :=
  (if (M.1 69 0) ≤ q.2 then some q.1 else (rdI M 72 12 q.2).bind fun v2 => (if v2 = 0 then K4 ((q.1 + 1), (q.2 + 1)) else K4 ((q.1 + 0), (q.2 + 1))))
def FX10_asked (N : Nat) (M : Mm) : Option Int32 :=
  lp (BX10_asked_4 N M) N (0, 0)
theorem eBX10_asked_4 (N : Nat) (M : Mm) (K4 : Int32 × Int32 → Option Int32) (q : Int32 × Int32) : BX10_asked_4 N M K4 q = (if (M.1 69 0) ≤ q.2 then some q.1 else (rdI M 72 12 q.2).bind fun v2 => (if v2 = 0 then K4 ((q.1 + 1), (q.2 + 1)) else K4 ((q.1 + 0), (q.2 + 1)))) := rfl
theorem eFX10_asked (N : Nat) (M : Mm) : FX10_asked N M = lp (BX10_asked_4 N M) N (0, 0) := rfl
set_option maxRecDepth 20000 in
theorem tX10_asked_4 {l : Launch} {G : va_G} {tc : Nat → ClassId} {D : Nat → Nat} {N : Nat} {M : Mm} : ∀ (nn : Nat) (q : Int32 × Int32) (R : Int32), lp (BX10_asked_4 N M) nn q = some R → WP l G tc D lay (fun _ => True) RX10 cX10_asked 3 rX10_asked (.code yX10_asked cX10_asked 3 (some .int)) 4 [some (.ref 69), some (.int q.1), some (.int q.2)] [] M (RetQ cX10_asked (some .int) (RQI R M)) := by
  refine lp_ind (fun K4 hK4q q R h => ?_)
  have hK4 : ∀ (z0 : Int32) (z1 : Int32) (R : Int32), K4 (z0, z1) = some R → WP l G tc D lay (fun _ => True) RX10 cX10_asked 3 rX10_asked (.code yX10_asked cX10_asked 3 (some .int)) 4 [some (.ref 69), some (.int z0), some (.int z1)] [] M (RetQ cX10_asked (some .int) (RQI R M)) := fun z0 z1 R hh => hK4q (z0, z1) R hh
  unfold BX10_asked_4 at h
  refine WP.iload_n dX10_asked_4 rfl rfl ?_
  refine WP.aload_n dX10_asked_5 rfl rfl ?_
  refine WP.getI (j := 0) dX10_asked_6 rfl rfl in_X10 (by decide) wd_692 rfl ?_
  refine WP.icmp_ge (tgt := 35) dX10_asked_9 (by decide) (fun c1 => ?_) (fun c1 => ?_)
  · rw [if_pos c1] at h
    refine WP.iload_n dX10_asked_35 rfl rfl ?_
    cases h
    exact WP.iret dX10_asked_36 ⟨rfl, rfl⟩
  · rw [if_neg c1] at h
    refine WP.iload_n dX10_asked_12 rfl rfl ?_
    refine WP.aload_n dX10_asked_13 rfl rfl ?_
    refine WP.getR (j := 3) dX10_asked_14 rfl rfl in_X10 (by decide) wd_695 rfl ?_
    refine WP.iload_n dX10_asked_17 rfl rfl ?_
    obtain ⟨v2, h3, h⟩ := Option.bind_eq_some_iff.mp h
    refine WP.ialdQ dX10_asked_18 rfl h3 ?_
    refine WP.if_ne (tgt := 26) dX10_asked_19 (by decide) (fun c4 => ?_) (fun c4 => ?_)
    · rw [if_neg c4] at h
      refine WP.iconst (v := 0) dX10_asked_26 (by decide) ?_
      refine WP.iadd dX10_asked_27 ?_
      refine WP.istore_n dX10_asked_28 rfl (by decide) rfl rfl ?_
      refine WP.iinc (v := (q.2 + 1)) dX10_asked_29 rfl rfl (by decide) rfl rfl ?_
      refine WP.goto (tgt := 4) dX10_asked_32 (by decide) ?_
      refine WP.fgt [true, true, true] rfl ?_
      exact hK4 (q.1 + 0) (q.2 + 1) _ h
    · rw [if_pos c4] at h
      refine WP.iconst (v := 1) dX10_asked_22 (by decide) ?_
      refine WP.goto (tgt := 27) dX10_asked_23 (by decide) ?_
      refine WP.iadd dX10_asked_27 ?_
      refine WP.istore_n dX10_asked_28 rfl (by decide) rfl rfl ?_
      refine WP.iinc (v := (q.2 + 1)) dX10_asked_29 rfl rfl (by decide) rfl rfl ?_
      refine WP.goto (tgt := 4) dX10_asked_32 (by decide) ?_
      refine WP.fgt [true, true, true] rfl ?_
      exact hK4 (q.1 + 1) (q.2 + 1) _ h
theorem uX10_asked_4 {l : Launch} {G : va_G} {tc : Nat → ClassId} {D : Nat → Nat} {N : Nat} {M : Mm} (nn : Nat) : ∀ (z0 : Int32) (z1 : Int32) (R : Int32), lp (BX10_asked_4 N M) nn (z0, z1) = some R → WP l G tc D lay (fun _ => True) RX10 cX10_asked 3 rX10_asked (.code yX10_asked cX10_asked 3 (some .int)) 4 [some (.ref 69), some (.int z0), some (.int z1)] [] M (RetQ cX10_asked (some .int) (RQI R M)) := fun z0 z1 R hh => tX10_asked_4  nn (z0, z1) R hh
set_option maxRecDepth 20000 in
theorem TX10_asked {l : Launch} {G : va_G} {tc : Nat → ClassId} {D : Nat → Nat} {N : Nat} {M : Mm} {R : Int32} (h : FX10_asked N M = some R) : WP l G tc D lay (fun _ => True) yX10_asked.cls cX10_asked 3 rX10_asked (.code yX10_asked cX10_asked 3 (some .int)) 0 (entL 3 [.ref 69]) [] M (RetQ cX10_asked (some .int) (RQI R M)) := by
  show WP l G tc D lay (fun _ => True) RX10 cX10_asked 3 rX10_asked (.code yX10_asked cX10_asked 3 (some .int)) 0 [some (.ref 69), none, none] [] M (RetQ cX10_asked (some .int) (RQI R M))
  unfold FX10_asked at h
  refine WP.iconst (v := 0) dX10_asked_0 (by decide) ?_
  refine WP.istore_n dX10_asked_1 rfl (by decide) rfl rfl ?_
  refine WP.iconst (v := 0) dX10_asked_2 (by decide) ?_
  refine WP.istore_n dX10_asked_3 rfl (by decide) rfl rfl ?_
  refine WP.fgt [true, true, true] rfl ?_
  exact uX10_asked_4  N 0 0 _ h
/-! X10_told -/
def rX10_told : Room := { frames := 8, cells := 0, slots := 0, locals := 181 }
def BX10_told_118 (N : Nat) (K118 : Int32 × Int32 × Mm → Option (Int32 × Mm)) (q : Int32 × Int32 × Mm) : Option (Int32 × Mm) :=
  (if (q.2.2.1 69 25) ≤ q.2.1 then some (q.1, q.2.2) else (FX10_sealHolds N q.2.1 q.2.2).bind fun p3 => (if p3.1 = 0 then K118 ((q.1 + 0), (q.2.1 + 1), p3.2) else K118 ((q.1 + 1), (q.2.1 + 1), p3.2)))
def BX10_told_15 (N : Nat) (K15 : Int32 × Int32 × Int32 × Mm → Option (Int32 × Mm)) (q : Int32 × Int32 × Int32 × Mm) : Option (Int32 × Mm) :=
  (if (q.2.2.2.1 69 0) ≤ q.2.2.1 then some (q.2.1, q.2.2.2) else (rdI q.2.2.2 88 48 (((12 : Int32) * (q.1 - 10)) + q.2.2.1)).bind fun v2 => (if v2 = (-2000000000) then K15 (q.1, (q.2.1 + 0), (q.2.2.1 + 1), q.2.2.2) else K15 (q.1, (q.2.1 + 1), (q.2.2.1 + 1), q.2.2.2)))
def FX10_told (N : Nat) (x1 : Int32) (M : Mm) : Option (Int32 × Mm) :=
  (FX10_in x1 10 13 M).bind fun r2 => (if r2 = 0 then (if x1 = 0 then some ((M.1 69 0), M) else (if x1 = 1 then some ((M.1 69 5), M) else (if x1 = 2 then (FX10_asked N M).bind fun r8 => some (r8, M) else (if x1 = 3 then some ((M.1 69 25), M) else (if x1 = 4 then lp (BX10_told_118 N) N (0, 0, M) else (if x1 = 5 then some ((M.1 69 23), M) else some ((-2), M))))))) else lp (BX10_told_15 N) N (x1, 0, 0, M))
theorem eBX10_told_118 (N : Nat) (K118 : Int32 × Int32 × Mm → Option (Int32 × Mm)) (q : Int32 × Int32 × Mm) : BX10_told_118 N K118 q = (if (q.2.2.1 69 25) ≤ q.2.1 then some (q.1, q.2.2) else (FX10_sealHolds N q.2.1 q.2.2).bind fun p3 => (if p3.1 = 0 then K118 ((q.1 + 0), (q.2.1 + 1), p3.2) else K118 ((q.1 + 1), (q.2.1 + 1), p3.2))) := rfl
theorem eBX10_told_15 (N : Nat) (K15 : Int32 × Int32 × Int32 × Mm → Option (Int32 × Mm)) (q : Int32 × Int32 × Int32 × Mm) : BX10_told_15 N K15 q = (if (q.2.2.2.1 69 0) ≤ q.2.2.1 then some (q.2.1, q.2.2.2) else (rdI q.2.2.2 88 48 (((12 : Int32) * (q.1 - 10)) + q.2.2.1)).bind fun v2 => (if v2 = (-2000000000) then K15 (q.1, (q.2.1 + 0), (q.2.2.1 + 1), q.2.2.2) else K15 (q.1, (q.2.1 + 1), (q.2.2.1 + 1), q.2.2.2))) := rfl
theorem eFX10_told (N : Nat) (x1 : Int32) (M : Mm) : FX10_told N x1 M = (FX10_in x1 10 13 M).bind fun r2 => (if r2 = 0 then (if x1 = 0 then some ((M.1 69 0), M) else (if x1 = 1 then some ((M.1 69 5), M) else (if x1 = 2 then (FX10_asked N M).bind fun r8 => some (r8, M) else (if x1 = 3 then some ((M.1 69 25), M) else (if x1 = 4 then lp (BX10_told_118 N) N (0, 0, M) else (if x1 = 5 then some ((M.1 69 23), M) else some ((-2), M))))))) else lp (BX10_told_15 N) N (x1, 0, 0, M)) := rfl
set_option maxRecDepth 20000 in
theorem tX10_told_118 {l : Launch} {G : va_G} {tc : Nat → ClassId} {D : Nat → Nat} {N : Nat} : ∀ (nn : Nat) (q : Int32 × Int32 × Mm) (R : (Int32 × Mm)), lp (BX10_told_118 N) nn q = some R → WP l G tc D lay (fun _ => True) RX10 cX10_told 4 rX10_told (.code yX10_told cX10_told 4 (some .int)) 118 [some (.ref 69), none, some (.int q.1), some (.int q.2.1)] [] q.2.2 (RetQ cX10_told (some .int) (RQI R.1 R.2)) := by
  refine lp_ind (fun K118 hK118q q R h => ?_)
  have hK118 : ∀ (z0 : Int32) (z1 : Int32) (z2 : Mm) (R : (Int32 × Mm)), K118 (z0, z1, z2) = some R → WP l G tc D lay (fun _ => True) RX10 cX10_told 4 rX10_told (.code yX10_told cX10_told 4 (some .int)) 118 [some (.ref 69), none, some (.int z0), some (.int z1)] [] z2 (RetQ cX10_told (some .int) (RQI R.1 R.2)) := fun z0 z1 z2 R hh => hK118q (z0, z1, z2) R hh
  unfold BX10_told_118 at h
  refine WP.iload_n dX10_told_118 rfl rfl ?_
  refine WP.aload_n dX10_told_119 rfl rfl ?_
  refine WP.getI (j := 25) dX10_told_120 rfl rfl in_X10 (by decide) wd_717 rfl ?_
  refine WP.icmp_ge (tgt := 148) dX10_told_123 (by decide) (fun c1 => ?_) (fun c1 => ?_)
  · rw [if_pos c1] at h
    refine WP.iload_n dX10_told_148 rfl rfl ?_
    cases h
    exact WP.iret dX10_told_149 ⟨rfl, rfl⟩
  · rw [if_neg c1] at h
    refine WP.iload_n dX10_told_126 rfl rfl ?_
    refine WP.aload_n dX10_told_127 rfl rfl ?_
    refine WP.iload_n dX10_told_128 rfl rfl ?_
    obtain ⟨p3, h2, h⟩ := Option.bind_eq_some_iff.mp h
    refine WP.callVI [.int q.2.1] dX10_told_129 lk_X10_206 rfl rfl rfl (Nat.le_of_ble_eq_true rfl) (by decide) (Nat.le_of_ble_eq_true rfl) rfl (TX10_sealHolds h2) ?_
    refine WP.if_eq (tgt := 139) dX10_told_132 (by decide) (fun c4 => ?_) (fun c4 => ?_)
    · rw [if_pos c4] at h
      refine WP.iconst (v := 0) dX10_told_139 (by decide) ?_
      refine WP.iadd dX10_told_140 ?_
      refine WP.istore_n dX10_told_141 rfl (by decide) rfl rfl ?_
      refine WP.iinc (v := (q.2.1 + 1)) dX10_told_142 rfl rfl (by decide) rfl rfl ?_
      refine WP.goto (tgt := 118) dX10_told_145 (by decide) ?_
      refine WP.fgt [true, false, true, true] rfl ?_
      exact hK118 (q.1 + 0) (q.2.1 + 1) p3.2 _ h
    · rw [if_neg c4] at h
      refine WP.iconst (v := 1) dX10_told_135 (by decide) ?_
      refine WP.goto (tgt := 140) dX10_told_136 (by decide) ?_
      refine WP.iadd dX10_told_140 ?_
      refine WP.istore_n dX10_told_141 rfl (by decide) rfl rfl ?_
      refine WP.iinc (v := (q.2.1 + 1)) dX10_told_142 rfl rfl (by decide) rfl rfl ?_
      refine WP.goto (tgt := 118) dX10_told_145 (by decide) ?_
      refine WP.fgt [true, false, true, true] rfl ?_
      exact hK118 (q.1 + 1) (q.2.1 + 1) p3.2 _ h
theorem uX10_told_118 {l : Launch} {G : va_G} {tc : Nat → ClassId} {D : Nat → Nat} {N : Nat} (nn : Nat) : ∀ (z0 : Int32) (z1 : Int32) (z2 : Mm) (R : (Int32 × Mm)), lp (BX10_told_118 N) nn (z0, z1, z2) = some R → WP l G tc D lay (fun _ => True) RX10 cX10_told 4 rX10_told (.code yX10_told cX10_told 4 (some .int)) 118 [some (.ref 69), none, some (.int z0), some (.int z1)] [] z2 (RetQ cX10_told (some .int) (RQI R.1 R.2)) := fun z0 z1 z2 R hh => tX10_told_118  nn (z0, z1, z2) R hh
set_option maxRecDepth 20000 in
theorem tX10_told_15 {l : Launch} {G : va_G} {tc : Nat → ClassId} {D : Nat → Nat} {N : Nat} : ∀ (nn : Nat) (q : Int32 × Int32 × Int32 × Mm) (R : (Int32 × Mm)), lp (BX10_told_15 N) nn q = some R → WP l G tc D lay (fun _ => True) RX10 cX10_told 4 rX10_told (.code yX10_told cX10_told 4 (some .int)) 15 [some (.ref 69), some (.int q.1), some (.int q.2.1), some (.int q.2.2.1)] [] q.2.2.2 (RetQ cX10_told (some .int) (RQI R.1 R.2)) := by
  refine lp_ind (fun K15 hK15q q R h => ?_)
  have hK15 : ∀ (z0 : Int32) (z1 : Int32) (z2 : Int32) (z3 : Mm) (R : (Int32 × Mm)), K15 (z0, z1, z2, z3) = some R → WP l G tc D lay (fun _ => True) RX10 cX10_told 4 rX10_told (.code yX10_told cX10_told 4 (some .int)) 15 [some (.ref 69), some (.int z0), some (.int z1), some (.int z2)] [] z3 (RetQ cX10_told (some .int) (RQI R.1 R.2)) := fun z0 z1 z2 z3 R hh => hK15q (z0, z1, z2, z3) R hh
  unfold BX10_told_15 at h
  refine WP.iload_n dX10_told_15 rfl rfl ?_
  refine WP.aload_n dX10_told_16 rfl rfl ?_
  refine WP.getI (j := 0) dX10_told_17 rfl rfl in_X10 (by decide) wd_692 rfl ?_
  refine WP.icmp_ge (tgt := 56) dX10_told_20 (by decide) (fun c1 => ?_) (fun c1 => ?_)
  · rw [if_pos c1] at h
    refine WP.iload_n dX10_told_56 rfl rfl ?_
    cases h
    exact WP.iret dX10_told_57 ⟨rfl, rfl⟩
  · rw [if_neg c1] at h
    refine WP.iload_n dX10_told_23 rfl rfl ?_
    refine WP.aload_n dX10_told_24 rfl rfl ?_
    refine WP.getR (j := 22) dX10_told_25 rfl rfl in_X10 (by decide) wd_714 rfl ?_
    refine WP.bipush (v := 12) dX10_told_28 (by decide) ?_
    refine WP.iload_n dX10_told_30 rfl rfl ?_
    refine WP.bipush (v := 10) dX10_told_31 (by decide) ?_
    refine WP.isub dX10_told_33 ?_
    refine WP.imul dX10_told_34 ?_
    refine WP.iload_n dX10_told_35 rfl rfl ?_
    refine WP.iadd dX10_told_36 ?_
    obtain ⟨v2, h3, h⟩ := Option.bind_eq_some_iff.mp h
    refine WP.ialdQ dX10_told_37 rfl h3 ?_
    refine WP.ldc (v := (-2000000000)) dX10_told_38 wd_691 ?_
    refine WP.icmp_eq (tgt := 47) dX10_told_40 (by decide) (fun c4 => ?_) (fun c4 => ?_)
    · rw [if_pos c4] at h
      refine WP.iconst (v := 0) dX10_told_47 (by decide) ?_
      refine WP.iadd dX10_told_48 ?_
      refine WP.istore_n dX10_told_49 rfl (by decide) rfl rfl ?_
      refine WP.iinc (v := (q.2.2.1 + 1)) dX10_told_50 rfl rfl (by decide) rfl rfl ?_
      refine WP.goto (tgt := 15) dX10_told_53 (by decide) ?_
      refine WP.fgt [true, true, true, true] rfl ?_
      exact hK15 q.1 (q.2.1 + 0) (q.2.2.1 + 1) q.2.2.2 _ h
    · rw [if_neg c4] at h
      refine WP.iconst (v := 1) dX10_told_43 (by decide) ?_
      refine WP.goto (tgt := 48) dX10_told_44 (by decide) ?_
      refine WP.iadd dX10_told_48 ?_
      refine WP.istore_n dX10_told_49 rfl (by decide) rfl rfl ?_
      refine WP.iinc (v := (q.2.2.1 + 1)) dX10_told_50 rfl rfl (by decide) rfl rfl ?_
      refine WP.goto (tgt := 15) dX10_told_53 (by decide) ?_
      refine WP.fgt [true, true, true, true] rfl ?_
      exact hK15 q.1 (q.2.1 + 1) (q.2.2.1 + 1) q.2.2.2 _ h
theorem uX10_told_15 {l : Launch} {G : va_G} {tc : Nat → ClassId} {D : Nat → Nat} {N : Nat} (nn : Nat) : ∀ (z0 : Int32) (z1 : Int32) (z2 : Int32) (z3 : Mm) (R : (Int32 × Mm)), lp (BX10_told_15 N) nn (z0, z1, z2, z3) = some R → WP l G tc D lay (fun _ => True) RX10 cX10_told 4 rX10_told (.code yX10_told cX10_told 4 (some .int)) 15 [some (.ref 69), some (.int z0), some (.int z1), some (.int z2)] [] z3 (RetQ cX10_told (some .int) (RQI R.1 R.2)) := fun z0 z1 z2 z3 R hh => tX10_told_15  nn (z0, z1, z2, z3) R hh
set_option maxRecDepth 20000 in
theorem TX10_told {l : Launch} {G : va_G} {tc : Nat → ClassId} {D : Nat → Nat} {N : Nat} {x1 : Int32} {M : Mm} {R : (Int32 × Mm)} (h : FX10_told N x1 M = some R) : WP l G tc D lay (fun _ => True) yX10_told.cls cX10_told 4 rX10_told (.code yX10_told cX10_told 4 (some .int)) 0 (entL 4 [.ref 69, .int x1]) [] M (RetQ cX10_told (some .int) (RQI R.1 R.2)) := by
  show WP l G tc D lay (fun _ => True) RX10 cX10_told 4 rX10_told (.code yX10_told cX10_told 4 (some .int)) 0 [some (.ref 69), some (.int x1), none, none] [] M (RetQ cX10_told (some .int) (RQI R.1 R.2))
  unfold FX10_told at h
  refine WP.iconst (v := 0) dX10_told_0 (by decide) ?_
  refine WP.istore_n dX10_told_1 rfl (by decide) rfl rfl ?_
  refine WP.iload_n dX10_told_2 rfl rfl ?_
  refine WP.bipush (v := 10) dX10_told_3 (by decide) ?_
  refine WP.bipush (v := 13) dX10_told_5 (by decide) ?_
  obtain ⟨r2, h1, h⟩ := Option.bind_eq_some_iff.mp h
  refine WP.callSI [.int x1, .int 10, .int 13] dX10_told_7 lk_X10_99 rfl (Nat.le_of_ble_eq_true rfl) (by decide) (Nat.le_of_ble_eq_true rfl) rfl (TX10_in h1) ?_
  refine WP.if_eq (tgt := 58) dX10_told_10 (by decide) (fun c3 => ?_) (fun c3 => ?_)
  · rw [if_pos c3] at h
    refine WP.iload_n dX10_told_58 rfl rfl ?_
    by_cases c4 : x1 = 0
    · rw [if_pos c4] at h
      refine WP.tbl (off := 37) (tgt := 96) dX10_told_59 (by rw [c4]; decide) (by decide) ?_
      refine WP.aload_n dX10_told_96 rfl rfl ?_
      refine WP.getI (j := 0) dX10_told_97 rfl rfl in_X10 (by decide) wd_692 rfl ?_
      cases h
      exact WP.iret dX10_told_100 ⟨rfl, rfl⟩
    · rw [if_neg c4] at h
      by_cases c5 : x1 = 1
      · rw [if_pos c5] at h
        refine WP.tbl (off := 42) (tgt := 101) dX10_told_59 (by rw [c5]; decide) (by decide) ?_
        refine WP.aload_n dX10_told_101 rfl rfl ?_
        refine WP.getI (j := 5) dX10_told_102 rfl rfl in_X10 (by decide) wd_697 rfl ?_
        cases h
        exact WP.iret dX10_told_105 ⟨rfl, rfl⟩
      · rw [if_neg c5] at h
        by_cases c6 : x1 = 2
        · rw [if_pos c6] at h
          refine WP.tbl (off := 47) (tgt := 106) dX10_told_59 (by rw [c6]; decide) (by decide) ?_
          refine WP.aload_n dX10_told_106 rfl rfl ?_
          obtain ⟨r8, h7, h⟩ := Option.bind_eq_some_iff.mp h
          refine WP.callVI [] dX10_told_107 lk_X10_222 rfl rfl rfl (Nat.le_of_ble_eq_true rfl) (by decide) (Nat.le_of_ble_eq_true rfl) rfl (TX10_asked h7) ?_
          cases h
          exact WP.iret dX10_told_110 ⟨rfl, rfl⟩
        · rw [if_neg c6] at h
          by_cases c9 : x1 = 3
          · rw [if_pos c9] at h
            refine WP.tbl (off := 52) (tgt := 111) dX10_told_59 (by rw [c9]; decide) (by decide) ?_
            refine WP.aload_n dX10_told_111 rfl rfl ?_
            refine WP.getI (j := 25) dX10_told_112 rfl rfl in_X10 (by decide) wd_717 rfl ?_
            cases h
            exact WP.iret dX10_told_115 ⟨rfl, rfl⟩
          · rw [if_neg c9] at h
            by_cases c10 : x1 = 4
            · rw [if_pos c10] at h
              refine WP.tbl (off := 57) (tgt := 116) dX10_told_59 (by rw [c10]; decide) (by decide) ?_
              refine WP.iconst (v := 0) dX10_told_116 (by decide) ?_
              refine WP.istore_n dX10_told_117 rfl (by decide) rfl rfl ?_
              refine WP.fgt [true, false, true, true] rfl ?_
              exact uX10_told_118  N 0 0 M _ h
            · rw [if_neg c10] at h
              by_cases c11 : x1 = 5
              · rw [if_pos c11] at h
                refine WP.tbl (off := 91) (tgt := 150) dX10_told_59 (by rw [c11]; decide) (by decide) ?_
                refine WP.aload_n dX10_told_150 rfl rfl ?_
                refine WP.getI (j := 23) dX10_told_151 rfl rfl in_X10 (by decide) wd_715 rfl ?_
                cases h
                exact WP.iret dX10_told_154 ⟨rfl, rfl⟩
              · rw [if_neg c11] at h
                refine WP.tbl (off := 96) (tgt := 155) dX10_told_59 (by
                    have n0 := lv_neT (k := 0) (a := 0) (fun z => c4 (z)) (by decide)
                    have n1 := lv_neT (k := 1) (a := 1) (fun z => c5 (z)) (by decide)
                    have n2 := lv_neT (k := 2) (a := 2) (fun z => c6 (z)) (by decide)
                    have n3 := lv_neT (k := 3) (a := 3) (fun z => c9 (z)) (by decide)
                    have n4 := lv_neT (k := 4) (a := 4) (fun z => c10 (z)) (by decide)
                    have n5 := lv_neT (k := 5) (a := 5) (fun z => c11 (z)) (by decide)
                    exact swT_def (by omega)) (by decide) ?_
                refine WP.bipush (v := (-2)) dX10_told_155 (by decide) ?_
                cases h
                exact WP.iret dX10_told_157 ⟨rfl, rfl⟩
  · rw [if_neg c3] at h
    refine WP.iconst (v := 0) dX10_told_13 (by decide) ?_
    refine WP.istore_n dX10_told_14 rfl (by decide) rfl rfl ?_
    refine WP.fgt [true, true, true, true] rfl ?_
    exact uX10_told_15  N x1 0 0 M _ h
/-! X10_traced -/
def rX10_traced : Room := { frames := 0, cells := 0, slots := 0, locals := 0 }
def FX10_traced (x1 : Int32) (M : Mm) : Option Mm :=
  (wrF M 69 33 (((31 : Int32) * (M.1 69 33)) + x1)).bind fun M1 => some M1
theorem eFX10_traced (x1 : Int32) (M : Mm) : FX10_traced x1 M = (wrF M 69 33 (((31 : Int32) * (M.1 69 33)) + x1)).bind fun M1 => some M1 := rfl
set_option maxRecDepth 20000 in
theorem TX10_traced {l : Launch} {G : va_G} {tc : Nat → ClassId} {D : Nat → Nat} {x1 : Int32} {M : Mm} {R : Mm} (h : FX10_traced x1 M = some R) : WP l G tc D lay (fun _ => True) yX10_traced.cls cX10_traced 2 rX10_traced (.code yX10_traced cX10_traced 2 none) 0 (entL 2 [.ref 69, .int x1]) [] M (RetQ cX10_traced none (RQV R)) := by
  show WP l G tc D lay (fun _ => True) RX10 cX10_traced 2 rX10_traced (.code yX10_traced cX10_traced 2 none) 0 [some (.ref 69), some (.int x1)] [] M (RetQ cX10_traced none (RQV R))
  unfold FX10_traced at h
  refine WP.aload_n dX10_traced_0 rfl rfl ?_
  refine WP.bipush (v := 31) dX10_traced_1 (by decide) ?_
  refine WP.aload_n dX10_traced_3 rfl rfl ?_
  refine WP.getI (j := 33) dX10_traced_4 rfl rfl in_X10 (by decide) wd_725 rfl ?_
  refine WP.imul dX10_traced_7 ?_
  refine WP.iload_n dX10_traced_8 rfl rfl ?_
  refine WP.iadd dX10_traced_9 ?_
  obtain ⟨M1, h2, h⟩ := Option.bind_eq_some_iff.mp h
  refine WP.putF (j := 33) (ty := .int) dX10_traced_10 rfl rfl in_X10 tyX10_ok nmX10 (by decide) wd_725 rfl (by decide +kernel) rfl rfl rfl h2 ?_
  cases h
  exact WP.vret dX10_traced_13 ⟨rfl, rfl⟩
/-! X10_tell -/
def rX10_tell : Room := { frames := 2, cells := 0, slots := 0, locals := 43 }
def BX10_tell_88 (a2 : Int32) (t0 : Int32) (t1 : Int32) (M : Mm) : Option (Int32 × Mm) :=
  (if a2 = 0 then some ((t0 + t1), M) else some (((2 : Int32) * (t0 + t1)), M))
def BX10_tell_53 (a1 : Int32) (a2 : Int32) (M : Mm) : Option (Int32 × Mm) :=
  (FX10_traced 1 M).bind fun M2 => (rdI M2 71 12 a1).bind fun v3 => (rdI M2 70 12 a1).bind fun v5 => (rdI M2 72 12 a1).bind fun v7 => (if v7 = 1 then BX10_tell_88 a2 (v3 - v5) 1000 M2 else BX10_tell_88 a2 (v3 - v5) 0 M2)
def BX10_tell_38 (a1 : Int32) (a2 : Int32) (M : Mm) : Option (Int32 × Mm) :=
  (rdI M 72 12 a1).bind fun v1 => (if v1 = 1 then (FX10_traced 2 M).bind fun M5 => BX10_tell_53 a1 a2 M5 else BX10_tell_53 a1 a2 M)
def BX10_tell_28 (a1 : Int32) (t0 : Int32) (M : Mm) : Option (Int32 × Mm) :=
  (if t0 = 0 then BX10_tell_38 a1 t0 M else (FX10_traced 3 M).bind fun M3 => BX10_tell_38 a1 t0 M3)
def FX10_tell (x1 : Int32) (M : Mm) : Option (Int32 × Mm) :=
  (FX10_noField x1 M).bind fun r2 => (if r2 = 0 then (rdI M 73 48 (((4 : Int32) * x1) + 1)).bind fun v4 => (if v4 < 0 then BX10_tell_28 x1 0 M else BX10_tell_28 x1 1 M) else some ((-1), M))
theorem eBX10_tell_88 (a2 : Int32) (t0 : Int32) (t1 : Int32) (M : Mm) : BX10_tell_88 a2 t0 t1 M = (if a2 = 0 then some ((t0 + t1), M) else some (((2 : Int32) * (t0 + t1)), M)) := rfl
theorem eBX10_tell_53 (a1 : Int32) (a2 : Int32) (M : Mm) : BX10_tell_53 a1 a2 M = (FX10_traced 1 M).bind fun M2 => (rdI M2 71 12 a1).bind fun v3 => (rdI M2 70 12 a1).bind fun v5 => (rdI M2 72 12 a1).bind fun v7 => (if v7 = 1 then BX10_tell_88 a2 (v3 - v5) 1000 M2 else BX10_tell_88 a2 (v3 - v5) 0 M2) := rfl
theorem eBX10_tell_38 (a1 : Int32) (a2 : Int32) (M : Mm) : BX10_tell_38 a1 a2 M = (rdI M 72 12 a1).bind fun v1 => (if v1 = 1 then (FX10_traced 2 M).bind fun M5 => BX10_tell_53 a1 a2 M5 else BX10_tell_53 a1 a2 M) := rfl
theorem eBX10_tell_28 (a1 : Int32) (t0 : Int32) (M : Mm) : BX10_tell_28 a1 t0 M = (if t0 = 0 then BX10_tell_38 a1 t0 M else (FX10_traced 3 M).bind fun M3 => BX10_tell_38 a1 t0 M3) := rfl
theorem eFX10_tell (x1 : Int32) (M : Mm) : FX10_tell x1 M = (FX10_noField x1 M).bind fun r2 => (if r2 = 0 then (rdI M 73 48 (((4 : Int32) * x1) + 1)).bind fun v4 => (if v4 < 0 then BX10_tell_28 x1 0 M else BX10_tell_28 x1 1 M) else some ((-1), M)) := rfl
set_option maxRecDepth 20000 in
theorem tX10_tell_88 {l : Launch} {G : va_G} {tc : Nat → ClassId} {D : Nat → Nat} {a2 : Int32} {t0 : Int32} {t1 : Int32} {M : Mm} {R : (Int32 × Mm)} (h : BX10_tell_88 a2 t0 t1 M = some R) : WP l G tc D lay (fun _ => True) RX10 cX10_tell 4 rX10_tell (.code yX10_tell cX10_tell 4 (some .int)) 88 [none, none, some (.int a2), none] [.int t1, .int t0] M (RetQ cX10_tell (some .int) (RQI R.1 R.2)) := by
  unfold BX10_tell_88 at h
  refine WP.iadd dX10_tell_88 ?_
  refine WP.istore_n dX10_tell_89 rfl (by decide) rfl rfl ?_
  refine WP.iload_n dX10_tell_90 rfl rfl ?_
  refine WP.if_eq (tgt := 100) dX10_tell_91 (by decide) (fun c1 => ?_) (fun c1 => ?_)
  · rw [if_pos c1] at h
    refine WP.iload_n dX10_tell_100 rfl rfl ?_
    cases h
    exact WP.iret dX10_tell_101 ⟨rfl, rfl⟩
  · rw [if_neg c1] at h
    refine WP.iconst (v := 2) dX10_tell_94 (by decide) ?_
    refine WP.iload_n dX10_tell_95 rfl rfl ?_
    refine WP.imul dX10_tell_96 ?_
    refine WP.goto (tgt := 101) dX10_tell_97 (by decide) ?_
    cases h
    exact WP.iret dX10_tell_101 ⟨rfl, rfl⟩
set_option maxRecDepth 20000 in
theorem tX10_tell_53 {l : Launch} {G : va_G} {tc : Nat → ClassId} {D : Nat → Nat} {a1 : Int32} {a2 : Int32} {M : Mm} {R : (Int32 × Mm)} (h : BX10_tell_53 a1 a2 M = some R) : WP l G tc D lay (fun _ => True) RX10 cX10_tell 4 rX10_tell (.code yX10_tell cX10_tell 4 (some .int)) 53 [some (.ref 69), some (.int a1), some (.int a2), none] [] M (RetQ cX10_tell (some .int) (RQI R.1 R.2)) := by
  unfold BX10_tell_53 at h
  refine WP.aload_n dX10_tell_53 rfl rfl ?_
  refine WP.iconst (v := 1) dX10_tell_54 (by decide) ?_
  obtain ⟨M2, h1, h⟩ := Option.bind_eq_some_iff.mp h
  refine WP.callVV [.int 1] dX10_tell_55 lk_X10_229 rfl rfl rfl (Nat.le_of_ble_eq_true rfl) (by decide) (Nat.le_of_ble_eq_true rfl) rfl (TX10_traced h1) ?_
  refine WP.aload_n dX10_tell_58 rfl rfl ?_
  refine WP.getR (j := 2) dX10_tell_59 rfl rfl in_X10 (by decide) wd_694 rfl ?_
  refine WP.iload_n dX10_tell_62 rfl rfl ?_
  obtain ⟨v3, h4, h⟩ := Option.bind_eq_some_iff.mp h
  refine WP.ialdQ dX10_tell_63 rfl h4 ?_
  refine WP.aload_n dX10_tell_64 rfl rfl ?_
  refine WP.getR (j := 1) dX10_tell_65 rfl rfl in_X10 (by decide) wd_693 rfl ?_
  refine WP.iload_n dX10_tell_68 rfl rfl ?_
  obtain ⟨v5, h6, h⟩ := Option.bind_eq_some_iff.mp h
  refine WP.ialdQ dX10_tell_69 rfl h6 ?_
  refine WP.isub dX10_tell_70 ?_
  refine WP.aload_n dX10_tell_71 rfl rfl ?_
  refine WP.getR (j := 3) dX10_tell_72 rfl rfl in_X10 (by decide) wd_695 rfl ?_
  refine WP.iload_n dX10_tell_75 rfl rfl ?_
  obtain ⟨v7, h8, h⟩ := Option.bind_eq_some_iff.mp h
  refine WP.ialdQ dX10_tell_76 rfl h8 ?_
  refine WP.iconst (v := 1) dX10_tell_77 (by decide) ?_
  refine WP.icmp_ne (tgt := 87) dX10_tell_78 (by decide) (fun c9 => ?_) (fun c9 => ?_)
  · rw [if_neg c9] at h
    refine WP.iconst (v := 0) dX10_tell_87 (by decide) ?_
    refine WP.fgt [false, false, true, false] rfl ?_
    exact tX10_tell_88  h
  · rw [if_pos c9] at h
    refine WP.sipush (v := 1000) dX10_tell_81 (by decide) ?_
    refine WP.goto (tgt := 88) dX10_tell_84 (by decide) ?_
    refine WP.fgt [false, false, true, false] rfl ?_
    exact tX10_tell_88  h
set_option maxRecDepth 20000 in
theorem tX10_tell_38 {l : Launch} {G : va_G} {tc : Nat → ClassId} {D : Nat → Nat} {a1 : Int32} {a2 : Int32} {M : Mm} {R : (Int32 × Mm)} (h : BX10_tell_38 a1 a2 M = some R) : WP l G tc D lay (fun _ => True) RX10 cX10_tell 4 rX10_tell (.code yX10_tell cX10_tell 4 (some .int)) 38 [some (.ref 69), some (.int a1), some (.int a2), none] [] M (RetQ cX10_tell (some .int) (RQI R.1 R.2)) := by
  unfold BX10_tell_38 at h
  refine WP.aload_n dX10_tell_38 rfl rfl ?_
  refine WP.getR (j := 3) dX10_tell_39 rfl rfl in_X10 (by decide) wd_695 rfl ?_
  refine WP.iload_n dX10_tell_42 rfl rfl ?_
  obtain ⟨v1, h2, h⟩ := Option.bind_eq_some_iff.mp h
  refine WP.ialdQ dX10_tell_43 rfl h2 ?_
  refine WP.iconst (v := 1) dX10_tell_44 (by decide) ?_
  refine WP.icmp_ne (tgt := 53) dX10_tell_45 (by decide) (fun c3 => ?_) (fun c3 => ?_)
  · rw [if_neg c3] at h
    refine WP.fgt [true, true, true, false] rfl ?_
    exact tX10_tell_53  h
  · rw [if_pos c3] at h
    refine WP.aload_n dX10_tell_48 rfl rfl ?_
    refine WP.iconst (v := 2) dX10_tell_49 (by decide) ?_
    obtain ⟨M5, h4, h⟩ := Option.bind_eq_some_iff.mp h
    refine WP.callVV [.int 2] dX10_tell_50 lk_X10_229 rfl rfl rfl (Nat.le_of_ble_eq_true rfl) (by decide) (Nat.le_of_ble_eq_true rfl) rfl (TX10_traced h4) ?_
    refine WP.fgt [true, true, true, false] rfl ?_
    exact tX10_tell_53  h
set_option maxRecDepth 20000 in
theorem tX10_tell_28 {l : Launch} {G : va_G} {tc : Nat → ClassId} {D : Nat → Nat} {a1 : Int32} {t0 : Int32} {M : Mm} {R : (Int32 × Mm)} (h : BX10_tell_28 a1 t0 M = some R) : WP l G tc D lay (fun _ => True) RX10 cX10_tell 4 rX10_tell (.code yX10_tell cX10_tell 4 (some .int)) 28 [some (.ref 69), some (.int a1), none, none] [.int t0] M (RetQ cX10_tell (some .int) (RQI R.1 R.2)) := by
  unfold BX10_tell_28 at h
  refine WP.istore_n dX10_tell_28 rfl (by decide) rfl rfl ?_
  refine WP.iload_n dX10_tell_29 rfl rfl ?_
  refine WP.if_eq (tgt := 38) dX10_tell_30 (by decide) (fun c1 => ?_) (fun c1 => ?_)
  · rw [if_pos c1] at h
    refine WP.fgt [true, true, true, false] rfl ?_
    exact tX10_tell_38  h
  · rw [if_neg c1] at h
    refine WP.aload_n dX10_tell_33 rfl rfl ?_
    refine WP.iconst (v := 3) dX10_tell_34 (by decide) ?_
    obtain ⟨M3, h2, h⟩ := Option.bind_eq_some_iff.mp h
    refine WP.callVV [.int 3] dX10_tell_35 lk_X10_229 rfl rfl rfl (Nat.le_of_ble_eq_true rfl) (by decide) (Nat.le_of_ble_eq_true rfl) rfl (TX10_traced h2) ?_
    refine WP.fgt [true, true, true, false] rfl ?_
    exact tX10_tell_38  h
set_option maxRecDepth 20000 in
theorem TX10_tell {l : Launch} {G : va_G} {tc : Nat → ClassId} {D : Nat → Nat} {x1 : Int32} {M : Mm} {R : (Int32 × Mm)} (h : FX10_tell x1 M = some R) : WP l G tc D lay (fun _ => True) yX10_tell.cls cX10_tell 4 rX10_tell (.code yX10_tell cX10_tell 4 (some .int)) 0 (entL 4 [.ref 69, .int x1]) [] M (RetQ cX10_tell (some .int) (RQI R.1 R.2)) := by
  show WP l G tc D lay (fun _ => True) RX10 cX10_tell 4 rX10_tell (.code yX10_tell cX10_tell 4 (some .int)) 0 [some (.ref 69), some (.int x1), none, none] [] M (RetQ cX10_tell (some .int) (RQI R.1 R.2))
  unfold FX10_tell at h
  refine WP.aload_n dX10_tell_0 rfl rfl ?_
  refine WP.iload_n dX10_tell_1 rfl rfl ?_
  obtain ⟨r2, h1, h⟩ := Option.bind_eq_some_iff.mp h
  refine WP.callVI [.int x1] dX10_tell_2 lk_X10_114 rfl rfl rfl (Nat.le_of_ble_eq_true rfl) (by decide) (Nat.le_of_ble_eq_true rfl) rfl (TX10_noField h1) ?_
  refine WP.if_eq (tgt := 10) dX10_tell_5 (by decide) (fun c3 => ?_) (fun c3 => ?_)
  · rw [if_pos c3] at h
    refine WP.aload_n dX10_tell_10 rfl rfl ?_
    refine WP.getR (j := 4) dX10_tell_11 rfl rfl in_X10 (by decide) wd_696 rfl ?_
    refine WP.iconst (v := 4) dX10_tell_14 (by decide) ?_
    refine WP.iload_n dX10_tell_15 rfl rfl ?_
    refine WP.imul dX10_tell_16 ?_
    refine WP.iconst (v := 1) dX10_tell_17 (by decide) ?_
    refine WP.iadd dX10_tell_18 ?_
    obtain ⟨v4, h5, h⟩ := Option.bind_eq_some_iff.mp h
    refine WP.ialdQ dX10_tell_19 rfl h5 ?_
    refine WP.if_lt (tgt := 27) dX10_tell_20 (by decide) (fun c6 => ?_) (fun c6 => ?_)
    · rw [if_pos c6] at h
      refine WP.iconst (v := 0) dX10_tell_27 (by decide) ?_
      refine WP.fgt [true, true, false, false] rfl ?_
      exact tX10_tell_28  h
    · rw [if_neg c6] at h
      refine WP.iconst (v := 1) dX10_tell_23 (by decide) ?_
      refine WP.goto (tgt := 28) dX10_tell_24 (by decide) ?_
      refine WP.fgt [true, true, false, false] rfl ?_
      exact tX10_tell_28  h
  · rw [if_neg c3] at h
    refine WP.iconst (v := (-1)) dX10_tell_8 (by decide) ?_
    cases h
    exact WP.iret dX10_tell_9 ⟨rfl, rfl⟩
/-! X10_address -/
def rX10_address : Room := { frames := 2, cells := 0, slots := 0, locals := 43 }
def BX10_address_26 (a1 : Int32) (t1 : Int32) (M : Mm) : Option (Int32 × Mm) :=
  (FX10_traced t1 M).bind fun M2 => (rdI M2 72 12 a1).bind fun v3 => (if v3 = 1 then some (5, M2) else some (((10 : Int32) * a1), M2))
def FX10_address (x1 : Int32) (M : Mm) : Option (Int32 × Mm) :=
  (FX10_noField x1 M).bind fun r2 => (if r2 = 0 then (rdI M 72 12 x1).bind fun v4 => (if v4 = 1 then BX10_address_26 x1 5 M else BX10_address_26 x1 4 M) else some ((-1), M))
theorem eBX10_address_26 (a1 : Int32) (t1 : Int32) (M : Mm) : BX10_address_26 a1 t1 M = (FX10_traced t1 M).bind fun M2 => (rdI M2 72 12 a1).bind fun v3 => (if v3 = 1 then some (5, M2) else some (((10 : Int32) * a1), M2)) := rfl
theorem eFX10_address (x1 : Int32) (M : Mm) : FX10_address x1 M = (FX10_noField x1 M).bind fun r2 => (if r2 = 0 then (rdI M 72 12 x1).bind fun v4 => (if v4 = 1 then BX10_address_26 x1 5 M else BX10_address_26 x1 4 M) else some ((-1), M)) := rfl
set_option maxRecDepth 20000 in
theorem tX10_address_26 {l : Launch} {G : va_G} {tc : Nat → ClassId} {D : Nat → Nat} {a1 : Int32} {t1 : Int32} {M : Mm} {R : (Int32 × Mm)} (h : BX10_address_26 a1 t1 M = some R) : WP l G tc D lay (fun _ => True) RX10 cX10_address 2 rX10_address (.code yX10_address cX10_address 2 (some .int)) 26 [some (.ref 69), some (.int a1)] [.int t1, .ref 69] M (RetQ cX10_address (some .int) (RQI R.1 R.2)) := by
  unfold BX10_address_26 at h
  obtain ⟨M2, h1, h⟩ := Option.bind_eq_some_iff.mp h
  refine WP.callVV [.int t1] dX10_address_26 lk_X10_229 rfl rfl rfl (Nat.le_of_ble_eq_true rfl) (by decide) (Nat.le_of_ble_eq_true rfl) rfl (TX10_traced h1) ?_
  refine WP.aload_n dX10_address_29 rfl rfl ?_
  refine WP.getR (j := 3) dX10_address_30 rfl rfl in_X10 (by decide) wd_695 rfl ?_
  refine WP.iload_n dX10_address_33 rfl rfl ?_
  obtain ⟨v3, h4, h⟩ := Option.bind_eq_some_iff.mp h
  refine WP.ialdQ dX10_address_34 rfl h4 ?_
  refine WP.iconst (v := 1) dX10_address_35 (by decide) ?_
  refine WP.icmp_ne (tgt := 43) dX10_address_36 (by decide) (fun c5 => ?_) (fun c5 => ?_)
  · rw [if_neg c5] at h
    refine WP.bipush (v := 10) dX10_address_43 (by decide) ?_
    refine WP.iload_n dX10_address_45 rfl rfl ?_
    refine WP.imul dX10_address_46 ?_
    cases h
    exact WP.iret dX10_address_47 ⟨rfl, rfl⟩
  · rw [if_pos c5] at h
    refine WP.iconst (v := 5) dX10_address_39 (by decide) ?_
    refine WP.goto (tgt := 47) dX10_address_40 (by decide) ?_
    cases h
    exact WP.iret dX10_address_47 ⟨rfl, rfl⟩
set_option maxRecDepth 20000 in
theorem TX10_address {l : Launch} {G : va_G} {tc : Nat → ClassId} {D : Nat → Nat} {x1 : Int32} {M : Mm} {R : (Int32 × Mm)} (h : FX10_address x1 M = some R) : WP l G tc D lay (fun _ => True) yX10_address.cls cX10_address 2 rX10_address (.code yX10_address cX10_address 2 (some .int)) 0 (entL 2 [.ref 69, .int x1]) [] M (RetQ cX10_address (some .int) (RQI R.1 R.2)) := by
  show WP l G tc D lay (fun _ => True) RX10 cX10_address 2 rX10_address (.code yX10_address cX10_address 2 (some .int)) 0 [some (.ref 69), some (.int x1)] [] M (RetQ cX10_address (some .int) (RQI R.1 R.2))
  unfold FX10_address at h
  refine WP.aload_n dX10_address_0 rfl rfl ?_
  refine WP.iload_n dX10_address_1 rfl rfl ?_
  obtain ⟨r2, h1, h⟩ := Option.bind_eq_some_iff.mp h
  refine WP.callVI [.int x1] dX10_address_2 lk_X10_114 rfl rfl rfl (Nat.le_of_ble_eq_true rfl) (by decide) (Nat.le_of_ble_eq_true rfl) rfl (TX10_noField h1) ?_
  refine WP.if_eq (tgt := 10) dX10_address_5 (by decide) (fun c3 => ?_) (fun c3 => ?_)
  · rw [if_pos c3] at h
    refine WP.aload_n dX10_address_10 rfl rfl ?_
    refine WP.aload_n dX10_address_11 rfl rfl ?_
    refine WP.getR (j := 3) dX10_address_12 rfl rfl in_X10 (by decide) wd_695 rfl ?_
    refine WP.iload_n dX10_address_15 rfl rfl ?_
    obtain ⟨v4, h5, h⟩ := Option.bind_eq_some_iff.mp h
    refine WP.ialdQ dX10_address_16 rfl h5 ?_
    refine WP.iconst (v := 1) dX10_address_17 (by decide) ?_
    refine WP.icmp_ne (tgt := 25) dX10_address_18 (by decide) (fun c6 => ?_) (fun c6 => ?_)
    · rw [if_neg c6] at h
      refine WP.iconst (v := 4) dX10_address_25 (by decide) ?_
      refine WP.fgt [true, true] rfl ?_
      exact tX10_address_26  h
    · rw [if_pos c6] at h
      refine WP.iconst (v := 5) dX10_address_21 (by decide) ?_
      refine WP.goto (tgt := 26) dX10_address_22 (by decide) ?_
      refine WP.fgt [true, true] rfl ?_
      exact tX10_address_26  h
  · rw [if_neg c3] at h
    refine WP.iconst (v := (-1)) dX10_address_8 (by decide) ?_
    cases h
    exact WP.iret dX10_address_9 ⟨rfl, rfl⟩
/-! X10_trace -/
def rX10_trace : Room := { frames := 0, cells := 0, slots := 0, locals := 0 }
def FX10_trace (M : Mm) : Option Int32 :=
  some (M.1 69 33)
theorem eFX10_trace (M : Mm) : FX10_trace M = some (M.1 69 33) := rfl
set_option maxRecDepth 20000 in
theorem TX10_trace {l : Launch} {G : va_G} {tc : Nat → ClassId} {D : Nat → Nat} {M : Mm} {R : Int32} (h : FX10_trace M = some R) : WP l G tc D lay (fun _ => True) yX10_trace.cls cX10_trace 1 rX10_trace (.code yX10_trace cX10_trace 1 (some .int)) 0 (entL 1 [.ref 69]) [] M (RetQ cX10_trace (some .int) (RQI R M)) := by
  show WP l G tc D lay (fun _ => True) RX10 cX10_trace 1 rX10_trace (.code yX10_trace cX10_trace 1 (some .int)) 0 [some (.ref 69)] [] M (RetQ cX10_trace (some .int) (RQI R M))
  unfold FX10_trace at h
  refine WP.aload_n dX10_trace_0 rfl rfl ?_
  refine WP.getI (j := 33) dX10_trace_1 rfl rfl in_X10 (by decide) wd_725 rfl ?_
  cases h
  exact WP.iret dX10_trace_4 ⟨rfl, rfl⟩
